/-! Methods as functions, and that the small machine does them. Printed by wip/gen/gen_parts.py. -/
def Op_look (a1 a2 a3 : Int) (g : Gx) : Option (Int × Gx) :=
  if (Op_isTalker a1) = 0 then
    some ((-2), g)
  else
    if (Op_isHistory a2) = 0 then
      some ((-2), g)
    else
      if (-1) ≤ a3 then
        Option.bind (Op_hindrance a2 g) (fun q1 =>
        if q1.1 = 0 then
          Option.bind (Lk_load a1 q1.2) (fun g2 =>
          if ¬ a3 = (-1) then
            if (Lk_length a2 g2) ≤ a3 then
              some ((-1), g2)
            else
              some ((Lk_act a2 a3 g2), g2)
          else
            some ((Lk_length a2 g2), g2))
        else
          some (q1.1, q1.2))
      else
        some ((-2), g)
set_option maxRecDepth 100000 in
set_option maxHeartbeats 4000000 in
theorem ev_Op_look (a1 a2 a3 : Int) (g : Gx) (r : Int) (g' : Gx) (h : Op_look a1 a2 a3 g = some (r, g')) : Ev 97 0 [some (.inr (.inr 0)), some (.inl a1), some (.inl a2), some (.inl a3), none] [] g (some (.inl r)) g' := by
  rw [Op_look] at h
  refine ev_runs 1 (0, [some (.inr (.inr 0)), some (.inl a1), some (.inl a2), some (.inl a3), none], [], g) (1, [some (.inr (.inr 0)), some (.inl a1), some (.inl a2), some (.inl a3), none], [.inl a1], g) rfl ?_
  refine ec 91 4 [.inl a1] [] rfl (ev_Op_isTalker a1 g _ rfl) ?_
  show Ev 97 4 [some (.inr (.inr 0)), some (.inl a1), some (.inl a2), some (.inl a3), none] [.inl (Op_isTalker a1)] g _ _
  by_cases hc : (Op_isTalker a1) = 0
  · rw [if_pos hc] at h
    refine es (19, [some (.inr (.inr 0)), some (.inl a1), some (.inl a2), some (.inl a3), none], [], g) (congrArg some (if_pos hc)) ?_
    refine ev_runs 1 (19, [some (.inr (.inr 0)), some (.inl a1), some (.inl a2), some (.inl a3), none], [], g) (21, [some (.inr (.inr 0)), some (.inl a1), some (.inl a2), some (.inl a3), none], [.inl (-2)], g) rfl ?_
    cases h
    exact er rfl
  · rw [if_neg hc] at h
    refine es (7, [some (.inr (.inr 0)), some (.inl a1), some (.inl a2), some (.inl a3), none], [], g) (congrArg some (if_neg hc)) ?_
    refine ev_runs 1 (7, [some (.inr (.inr 0)), some (.inl a1), some (.inl a2), some (.inl a3), none], [], g) (8, [some (.inr (.inr 0)), some (.inl a1), some (.inl a2), some (.inl a3), none], [.inl a2], g) rfl ?_
    refine ec 83 11 [.inl a2] [] rfl (ev_Op_isHistory a2 g _ rfl) ?_
    show Ev 97 11 [some (.inr (.inr 0)), some (.inl a1), some (.inl a2), some (.inl a3), none] [.inl (Op_isHistory a2)] g _ _
    by_cases hc : (Op_isHistory a2) = 0
    · rw [if_pos hc] at h
      refine es (19, [some (.inr (.inr 0)), some (.inl a1), some (.inl a2), some (.inl a3), none], [], g) (congrArg some (if_pos hc)) ?_
      refine ev_runs 1 (19, [some (.inr (.inr 0)), some (.inl a1), some (.inl a2), some (.inl a3), none], [], g) (21, [some (.inr (.inr 0)), some (.inl a1), some (.inl a2), some (.inl a3), none], [.inl (-2)], g) rfl ?_
      cases h
      exact er rfl
    · rw [if_neg hc] at h
      refine es (14, [some (.inr (.inr 0)), some (.inl a1), some (.inl a2), some (.inl a3), none], [], g) (congrArg some (if_neg hc)) ?_
      refine ev_runs 2 (14, [some (.inr (.inr 0)), some (.inl a1), some (.inl a2), some (.inl a3), none], [], g) (16, [some (.inr (.inr 0)), some (.inl a1), some (.inl a2), some (.inl a3), none], [.inl (-1), .inl a3], g) rfl ?_
      by_cases hc : (-1) ≤ a3
      · rw [if_pos hc] at h
        refine es (22, [some (.inr (.inr 0)), some (.inl a1), some (.inl a2), some (.inl a3), none], [], g) (congrArg some (if_pos hc)) ?_
        refine ev_runs 2 (22, [some (.inr (.inr 0)), some (.inl a1), some (.inl a2), some (.inl a3), none], [], g) (24, [some (.inr (.inr 0)), some (.inl a1), some (.inl a2), some (.inl a3), none], [.inl a2, .inr (.inr 0)], g) rfl ?_
        obtain ⟨q1, hq, h⟩ := Option.bind_eq_some_iff.mp h
        refine ec 75 27 [.inr (.inr 0), .inl a2] [] rfl (ev_Op_hindrance a2 g q1.1 q1.2 hq) ?_
        show Ev 97 27 [some (.inr (.inr 0)), some (.inl a1), some (.inl a2), some (.inl a3), none] [.inl q1.1] q1.2 _ _
        refine ev_runs 2 (27, [some (.inr (.inr 0)), some (.inl a1), some (.inl a2), some (.inl a3), none], [.inl q1.1], q1.2) (31, [some (.inr (.inr 0)), some (.inl a1), some (.inl a2), some (.inl a3), some (.inl q1.1)], [.inl q1.1], q1.2) rfl ?_
        by_cases hc : q1.1 = 0
        · rw [if_pos hc] at h
          refine es (37, [some (.inr (.inr 0)), some (.inl a1), some (.inl a2), some (.inl a3), some (.inl q1.1)], [], q1.2) (congrArg some (if_pos hc)) ?_
          refine ev_runs 3 (37, [some (.inr (.inr 0)), some (.inl a1), some (.inl a2), some (.inl a3), some (.inl q1.1)], [], q1.2) (42, [some (.inr (.inr 0)), some (.inl a1), some (.inl a2), some (.inl a3), some (.inl q1.1)], [.inl a1, .inr (.inr 50)], q1.2) rfl ?_
          obtain ⟨g2, hq, h⟩ := Option.bind_eq_some_iff.mp h
          refine ec 94 45 [.inr (.inr 50), .inl a1] [] rfl (ev_Lk_load a1 q1.2 g2 hq) ?_
          show Ev 97 45 [some (.inr (.inr 0)), some (.inl a1), some (.inl a2), some (.inl a3), some (.inl q1.1)] [] g2 _ _
          refine ev_runs 2 (45, [some (.inr (.inr 0)), some (.inl a1), some (.inl a2), some (.inl a3), some (.inl q1.1)], [], g2) (47, [some (.inr (.inr 0)), some (.inl a1), some (.inl a2), some (.inl a3), some (.inl q1.1)], [.inl (-1), .inl a3], g2) rfl ?_
          by_cases hc : ¬ a3 = (-1)
          · rw [if_pos hc] at h
            refine es (59, [some (.inr (.inr 0)), some (.inl a1), some (.inl a2), some (.inl a3), some (.inl q1.1)], [], g2) (congrArg some (if_pos hc)) ?_
            refine ev_runs 4 (59, [some (.inr (.inr 0)), some (.inl a1), some (.inl a2), some (.inl a3), some (.inl q1.1)], [], g2) (65, [some (.inr (.inr 0)), some (.inl a1), some (.inl a2), some (.inl a3), some (.inl q1.1)], [.inl a2, .inr (.inr 50), .inl a3], g2) rfl ?_
            refine ec 95 68 [.inr (.inr 50), .inl a2] [.inl a3] rfl (ev_Lk_length a2 g2 _ rfl) ?_
            show Ev 97 68 [some (.inr (.inr 0)), some (.inl a1), some (.inl a2), some (.inl a3), some (.inl q1.1)] [.inl (Lk_length a2 g2), .inl a3] g2 _ _
            by_cases hc : (Lk_length a2 g2) ≤ a3
            · rw [if_pos hc] at h
              refine es (83, [some (.inr (.inr 0)), some (.inl a1), some (.inl a2), some (.inl a3), some (.inl q1.1)], [], g2) (congrArg some (if_pos hc)) ?_
              refine ev_runs 1 (83, [some (.inr (.inr 0)), some (.inl a1), some (.inl a2), some (.inl a3), some (.inl q1.1)], [], g2) (84, [some (.inr (.inr 0)), some (.inl a1), some (.inl a2), some (.inl a3), some (.inl q1.1)], [.inl (-1)], g2) rfl ?_
              cases h
              exact er rfl
            · rw [if_neg hc] at h
              refine es (71, [some (.inr (.inr 0)), some (.inl a1), some (.inl a2), some (.inl a3), some (.inl q1.1)], [], g2) (congrArg some (if_neg hc)) ?_
              refine ev_runs 4 (71, [some (.inr (.inr 0)), some (.inl a1), some (.inl a2), some (.inl a3), some (.inl q1.1)], [], g2) (77, [some (.inr (.inr 0)), some (.inl a1), some (.inl a2), some (.inl a3), some (.inl q1.1)], [.inl a3, .inl a2, .inr (.inr 50)], g2) rfl ?_
              refine ec 96 80 [.inr (.inr 50), .inl a2, .inl a3] [] rfl (ev_Lk_act a2 a3 g2 _ rfl) ?_
              show Ev 97 80 [some (.inr (.inr 0)), some (.inl a1), some (.inl a2), some (.inl a3), some (.inl q1.1)] [.inl (Lk_act a2 a3 g2)] g2 _ _
              refine ev_runs 1 (80, [some (.inr (.inr 0)), some (.inl a1), some (.inl a2), some (.inl a3), some (.inl q1.1)], [.inl (Lk_act a2 a3 g2)], g2) (84, [some (.inr (.inr 0)), some (.inl a1), some (.inl a2), some (.inl a3), some (.inl q1.1)], [.inl (Lk_act a2 a3 g2)], g2) rfl ?_
              cases h
              exact er rfl
          · rw [if_neg hc] at h
            refine es (50, [some (.inr (.inr 0)), some (.inl a1), some (.inl a2), some (.inl a3), some (.inl q1.1)], [], g2) (congrArg some (if_neg hc)) ?_
            refine ev_runs 3 (50, [some (.inr (.inr 0)), some (.inl a1), some (.inl a2), some (.inl a3), some (.inl q1.1)], [], g2) (55, [some (.inr (.inr 0)), some (.inl a1), some (.inl a2), some (.inl a3), some (.inl q1.1)], [.inl a2, .inr (.inr 50)], g2) rfl ?_
            refine ec 95 58 [.inr (.inr 50), .inl a2] [] rfl (ev_Lk_length a2 g2 _ rfl) ?_
            show Ev 97 58 [some (.inr (.inr 0)), some (.inl a1), some (.inl a2), some (.inl a3), some (.inl q1.1)] [.inl (Lk_length a2 g2)] g2 _ _
            cases h
            exact er rfl
        · rw [if_neg hc] at h
          refine es (34, [some (.inr (.inr 0)), some (.inl a1), some (.inl a2), some (.inl a3), some (.inl q1.1)], [], q1.2) (congrArg some (if_neg hc)) ?_
          refine ev_runs 1 (34, [some (.inr (.inr 0)), some (.inl a1), some (.inl a2), some (.inl a3), some (.inl q1.1)], [], q1.2) (36, [some (.inr (.inr 0)), some (.inl a1), some (.inl a2), some (.inl a3), some (.inl q1.1)], [.inl q1.1], q1.2) rfl ?_
          cases h
          exact er rfl
      · rw [if_neg hc] at h
        refine es (19, [some (.inr (.inr 0)), some (.inl a1), some (.inl a2), some (.inl a3), none], [], g) (congrArg some (if_neg hc)) ?_
        refine ev_runs 1 (19, [some (.inr (.inr 0)), some (.inl a1), some (.inl a2), some (.inl a3), none], [], g) (21, [some (.inr (.inr 0)), some (.inl a1), some (.inl a2), some (.inl a3), none], [.inl (-2)], g) rfl ?_
        cases h
        exact er rfl
def Md_isOne (a0 : Int) : Int :=
  (Md_in a0 0 5)
set_option maxRecDepth 100000 in
set_option maxHeartbeats 4000000 in
theorem ev_Md_isOne (a0 : Int) (g : Gx) (r : Int) (h : Md_isOne a0 = r) : Ev 98 0 [some (.inl a0)] [] g (some (.inl r)) g := by
  rw [Md_isOne] at h
  refine ev_runs 4 (0, [some (.inl a0)], [], g) (6, [some (.inl a0)], [.inr (.inl 5), .inr (.inl 0), .inr (.inl a0)], g) rfl ?_
  refine ec 4 9 [.inr (.inl a0), .inr (.inl 0), .inr (.inl 5)] [] rfl (ev_Md_in a0 0 5 g _ rfl) ?_
  show Ev 98 9 [some (.inl a0)] [.inl (Md_in a0 0 5)] g _ _
  subst h
  exact er (if_pos (bo_Md_in a0 0 5))
theorem bo_Md_isOne (a0 : Int) : (Md_isOne a0) = 0 ∨ (Md_isOne a0) = 1 := by
  simp only [Md_isOne, lett]
  (repeat' split) <;> first | exact Or.inl rfl | exact Or.inr rfl | exact Or.inl trivial | exact Or.inr trivial | apply bo_Md_in
def Md_from (a0 : Int) : Int :=
  (jdiv a0 1000)
set_option maxRecDepth 100000 in
set_option maxHeartbeats 4000000 in
theorem ev_Md_from (a0 : Int) (g : Gx) (r : Int) (h : Md_from a0 = r) : Ev 99 0 [some (.inl a0)] [] g (some (.inl r)) g := by
  rw [Md_from] at h
  refine ev_runs 3 (0, [some (.inl a0)], [], g) (5, [some (.inl a0)], [.inl (jdiv a0 1000)], g) rfl ?_
  subst h
  exact er rfl
def Md_to (a0 : Int) : Int :=
  (jrem (jdiv a0 100) 10)
set_option maxRecDepth 100000 in
set_option maxHeartbeats 4000000 in
theorem ev_Md_to (a0 : Int) (g : Gx) (r : Int) (h : Md_to a0 = r) : Ev 100 0 [some (.inl a0)] [] g (some (.inl r)) g := by
  rw [Md_to] at h
  refine ev_runs 5 (0, [some (.inl a0)], [], g) (7, [some (.inl a0)], [.inl (jrem (jdiv a0 100) 10)], g) rfl ?_
  subst h
  exact er rfl
def Md_findLooks_l23 (c1 : Int) (c2 : Int) (K23_107 : Int → Gx → Option Gx) : Nat → Int → Int → Gx → Option Gx
  | 0, _, _, _ => none
  | n23 + 1, v3, v4, g =>
    if 0 ≤ c1 ∧ c1 < 30 then
    if (g 110 c1.toNat) ≤ v4 then
      K23_107 v3 g
    else
      Option.bind (Md_code c1 v4 g) (fun q1 =>
      if (Md_from q1.1) = c2 then
        if ¬ (Md_from q1.1) = c2 then
          if 0 ≤ (wr ((wr (24 * (wr ((wr (6 * c1)) + c2)))) + v3)) ∧ (wr ((wr (24 * (wr ((wr (6 * c1)) + c2)))) + v3)) < 4320 then
          Md_findLooks_l23 c1 c2 K23_107 n23 (wr (v3 + 1)) (wr (v4 + 1)) (gset q1.2 119 ((wr ((wr (24 * (wr ((wr (6 * c1)) + c2)))) + v3)).toNat) (wr (20000 + q1.1)))
          else none
        else
          if 0 ≤ (wr ((wr (24 * (wr ((wr (6 * c1)) + c2)))) + v3)) ∧ (wr ((wr (24 * (wr ((wr (6 * c1)) + c2)))) + v3)) < 4320 then
          Md_findLooks_l23 c1 c2 K23_107 n23 (wr (v3 + 1)) (wr (v4 + 1)) (gset q1.2 119 ((wr ((wr (24 * (wr ((wr (6 * c1)) + c2)))) + v3)).toNat) (wr (10000 + q1.1)))
          else none
      else
        if ¬ (Md_to q1.1) = c2 then
          Md_findLooks_l23 c1 c2 K23_107 n23 v3 (wr (v4 + 1)) q1.2
        else
          if ¬ (Md_from q1.1) = c2 then
            if 0 ≤ (wr ((wr (24 * (wr ((wr (6 * c1)) + c2)))) + v3)) ∧ (wr ((wr (24 * (wr ((wr (6 * c1)) + c2)))) + v3)) < 4320 then
            Md_findLooks_l23 c1 c2 K23_107 n23 (wr (v3 + 1)) (wr (v4 + 1)) (gset q1.2 119 ((wr ((wr (24 * (wr ((wr (6 * c1)) + c2)))) + v3)).toNat) (wr (20000 + q1.1)))
            else none
          else
            if 0 ≤ (wr ((wr (24 * (wr ((wr (6 * c1)) + c2)))) + v3)) ∧ (wr ((wr (24 * (wr ((wr (6 * c1)) + c2)))) + v3)) < 4320 then
            Md_findLooks_l23 c1 c2 K23_107 n23 (wr (v3 + 1)) (wr (v4 + 1)) (gset q1.2 119 ((wr ((wr (24 * (wr ((wr (6 * c1)) + c2)))) + v3)).toNat) (wr (10000 + q1.1)))
            else none)
    else none
def Md_findLooks_l12 (c1 : Int) (K12_125 : Gx → Option Gx) : Nat → Int → Gx → Option Gx
  | 0, _, _ => none
  | n12 + 1, v2, g =>
    if 6 ≤ v2 then
      K12_125 g
    else
      Md_findLooks_l23 c1 v2
        (fun x2 g3 =>
          if 0 ≤ (wr ((wr (6 * c1)) + v2)) ∧ (wr ((wr (6 * c1)) + v2)) < 180 then
          Md_findLooks_l12 c1 K12_125 n12 (wr (v2 + 1)) (gset g3 118 ((wr ((wr (6 * c1)) + v2)).toNat) x2)
          else none)
        fu 0 0 g
def Md_findLooks_l2 (K2_131 : Gx → Option Gx) : Nat → Int → Gx → Option Gx
  | 0, _, _ => none
  | n2 + 1, v1, g =>
    if (g 92 26) ≤ v1 then
      K2_131 g
    else
      Md_findLooks_l12 v1
        (fun g4 =>
          Md_findLooks_l2 K2_131 n2 (wr (v1 + 1)) g4)
        fu 0 g
def Md_findLooks (g : Gx) : Option Gx :=
  Md_findLooks_l2
    (fun g5 =>
      some g5)
    fu 0 g
set_option maxRecDepth 100000 in
set_option maxHeartbeats 4000000 in
theorem ev_Md_findLooks_l23 (c1 : Int) (c2 : Int) (K23_107 : Int → Gx → Option Gx) (hK23_107 : ∀ (x3 : Int) (g : Gx) (g' : Gx), K23_107 x3 g = some g' → Ev 101 107 [some (.inr (.inr 92)), some (.inl c1), some (.inl c2), some (.inl x3), none, none] [] g none g') : ∀ (n23 : Nat) (v3 v4 : Int) (g : Gx) (g' : Gx), Md_findLooks_l23 c1 c2 K23_107 n23 v3 v4 g = some g' → Ev 101 23 [some (.inr (.inr 92)), some (.inl c1), some (.inl c2), some (.inl v3), some (.inl v4), none] [] g none g' := by
  intro n23
  induction n23 with
  | zero => intro v3 v4 g g' h; cases h
  | succ n23 ih23 =>
    intro v3 v4 g g' h
    rw [Md_findLooks_l23] at h
    refine ev_runs 4 (23, [some (.inr (.inr 92)), some (.inl c1), some (.inl c2), some (.inl v3), some (.inl v4), none], [], g) (30, [some (.inr (.inr 92)), some (.inl c1), some (.inl c2), some (.inl v3), some (.inl v4), none], [.inl c1, .inr (.inr 110), .inl v4], g) rfl ?_
    by_cases hc : 0 ≤ c1 ∧ c1 < 30
    · rw [if_pos hc] at h
      refine es (31, [some (.inr (.inr 92)), some (.inl c1), some (.inl c2), some (.inl v3), some (.inl v4), none], [.inl (g 110 c1.toNat), .inl v4], g) (if_pos hc) ?_
      by_cases hc : (g 110 c1.toNat) ≤ v4
      · rw [if_pos hc] at h
        refine es (107, [some (.inr (.inr 92)), some (.inl c1), some (.inl c2), some (.inl v3), some (.inl v4), none], [], g) (congrArg some (if_pos hc)) ?_
        exact ev_le (L := [some (.inr (.inr 92)), some (.inl c1), some (.inl c2), some (.inl v3), none, none]) (by simp [Lle]) (hK23_107 v3 g g' h)
      · rw [if_neg hc] at h
        refine es (34, [some (.inr (.inr 92)), some (.inl c1), some (.inl c2), some (.inl v3), some (.inl v4), none], [], g) (congrArg some (if_neg hc)) ?_
        refine ev_runs 3 (34, [some (.inr (.inr 92)), some (.inl c1), some (.inl c2), some (.inl v3), some (.inl v4), none], [], g) (38, [some (.inr (.inr 92)), some (.inl c1), some (.inl c2), some (.inl v3), some (.inl v4), none], [.inl v4, .inl c1, .inr (.inr 92)], g) rfl ?_
        obtain ⟨q1, hq, h⟩ := Option.bind_eq_some_iff.mp h
        refine ec 89 41 [.inr (.inr 92), .inl c1, .inl v4] [] rfl (ev_Md_code c1 v4 g q1.1 q1.2 hq) ?_
        show Ev 101 41 [some (.inr (.inr 92)), some (.inl c1), some (.inl c2), some (.inl v3), some (.inl v4), none] [.inl q1.1] q1.2 _ _
        refine ev_runs 2 (41, [some (.inr (.inr 92)), some (.inl c1), some (.inl c2), some (.inl v3), some (.inl v4), none], [.inl q1.1], q1.2) (45, [some (.inr (.inr 92)), some (.inl c1), some (.inl c2), some (.inl v3), some (.inl v4), some (.inl q1.1)], [.inl q1.1], q1.2) rfl ?_
        refine ec 99 48 [.inl q1.1] [] rfl (ev_Md_from q1.1 q1.2 _ rfl) ?_
        show Ev 101 48 [some (.inr (.inr 92)), some (.inl c1), some (.inl c2), some (.inl v3), some (.inl v4), some (.inl q1.1)] [.inl (Md_from q1.1)] q1.2 _ _
        refine ev_runs 1 (48, [some (.inr (.inr 92)), some (.inl c1), some (.inl c2), some (.inl v3), some (.inl v4), some (.inl q1.1)], [.inl (Md_from q1.1)], q1.2) (49, [some (.inr (.inr 92)), some (.inl c1), some (.inl c2), some (.inl v3), some (.inl v4), some (.inl q1.1)], [.inl c2, .inl (Md_from q1.1)], q1.2) rfl ?_
        by_cases hc : (Md_from q1.1) = c2
        · rw [if_pos hc] at h
          refine es (61, [some (.inr (.inr 92)), some (.inl c1), some (.inl c2), some (.inl v3), some (.inl v4), some (.inl q1.1)], [], q1.2) (congrArg some (if_pos hc)) ?_
          refine ev_runs 12 (61, [some (.inr (.inr 92)), some (.inl c1), some (.inl c2), some (.inl v3), some (.inl v4), some (.inl q1.1)], [], q1.2) (78, [some (.inr (.inr 92)), some (.inl c1), some (.inl c2), some (.inl v3), some (.inl v4), some (.inl q1.1)], [.inl q1.1, .inl (wr ((wr (24 * (wr ((wr (6 * c1)) + c2)))) + v3)), .inr (.inr 119)], q1.2) rfl ?_
          refine ec 99 81 [.inl q1.1] [.inl (wr ((wr (24 * (wr ((wr (6 * c1)) + c2)))) + v3)), .inr (.inr 119)] rfl (ev_Md_from q1.1 q1.2 _ rfl) ?_
          show Ev 101 81 [some (.inr (.inr 92)), some (.inl c1), some (.inl c2), some (.inl v3), some (.inl v4), some (.inl q1.1)] [.inl (Md_from q1.1), .inl (wr ((wr (24 * (wr ((wr (6 * c1)) + c2)))) + v3)), .inr (.inr 119)] q1.2 _ _
          refine ev_runs 1 (81, [some (.inr (.inr 92)), some (.inl c1), some (.inl c2), some (.inl v3), some (.inl v4), some (.inl q1.1)], [.inl (Md_from q1.1), .inl (wr ((wr (24 * (wr ((wr (6 * c1)) + c2)))) + v3)), .inr (.inr 119)], q1.2) (82, [some (.inr (.inr 92)), some (.inl c1), some (.inl c2), some (.inl v3), some (.inl v4), some (.inl q1.1)], [.inl c2, .inl (Md_from q1.1), .inl (wr ((wr (24 * (wr ((wr (6 * c1)) + c2)))) + v3)), .inr (.inr 119)], q1.2) rfl ?_
          by_cases hc : ¬ (Md_from q1.1) = c2
          · rw [if_pos hc] at h
            refine es (91, [some (.inr (.inr 92)), some (.inl c1), some (.inl c2), some (.inl v3), some (.inl v4), some (.inl q1.1)], [.inl (wr ((wr (24 * (wr ((wr (6 * c1)) + c2)))) + v3)), .inr (.inr 119)], q1.2) (congrArg some (if_pos hc)) ?_
            refine ev_runs 3 (91, [some (.inr (.inr 92)), some (.inl c1), some (.inl c2), some (.inl v3), some (.inl v4), some (.inl q1.1)], [.inl (wr ((wr (24 * (wr ((wr (6 * c1)) + c2)))) + v3)), .inr (.inr 119)], q1.2) (97, [some (.inr (.inr 92)), some (.inl c1), some (.inl c2), some (.inl v3), some (.inl v4), some (.inl q1.1)], [.inl (wr (20000 + q1.1)), .inl (wr ((wr (24 * (wr ((wr (6 * c1)) + c2)))) + v3)), .inr (.inr 119)], q1.2) rfl ?_
            by_cases hc : 0 ≤ (wr ((wr (24 * (wr ((wr (6 * c1)) + c2)))) + v3)) ∧ (wr ((wr (24 * (wr ((wr (6 * c1)) + c2)))) + v3)) < 4320
            · rw [if_pos hc] at h
              refine es (98, [some (.inr (.inr 92)), some (.inl c1), some (.inl c2), some (.inl v3), some (.inl v4), some (.inl q1.1)], [], (gset q1.2 119 ((wr ((wr (24 * (wr ((wr (6 * c1)) + c2)))) + v3)).toNat) (wr (20000 + q1.1)))) (if_pos hc) ?_
              refine ev_runs 3 (98, [some (.inr (.inr 92)), some (.inl c1), some (.inl c2), some (.inl v3), some (.inl v4), some (.inl q1.1)], [], (gset q1.2 119 ((wr ((wr (24 * (wr ((wr (6 * c1)) + c2)))) + v3)).toNat) (wr (20000 + q1.1)))) (23, [some (.inr (.inr 92)), some (.inl c1), some (.inl c2), some (.inl (wr (v3 + 1))), some (.inl (wr (v4 + 1))), some (.inl q1.1)], [], (gset q1.2 119 ((wr ((wr (24 * (wr ((wr (6 * c1)) + c2)))) + v3)).toNat) (wr (20000 + q1.1)))) rfl ?_
              exact ev_le (L := [some (.inr (.inr 92)), some (.inl c1), some (.inl c2), some (.inl (wr (v3 + 1))), some (.inl (wr (v4 + 1))), none]) (by simp [Lle]) (ih23 (wr (v3 + 1)) (wr (v4 + 1)) (gset q1.2 119 ((wr ((wr (24 * (wr ((wr (6 * c1)) + c2)))) + v3)).toNat) (wr (20000 + q1.1))) g' h)
            · rw [if_neg hc] at h; cases h
          · rw [if_neg hc] at h
            refine es (85, [some (.inr (.inr 92)), some (.inl c1), some (.inl c2), some (.inl v3), some (.inl v4), some (.inl q1.1)], [.inl (wr ((wr (24 * (wr ((wr (6 * c1)) + c2)))) + v3)), .inr (.inr 119)], q1.2) (congrArg some (if_neg hc)) ?_
            refine ev_runs 4 (85, [some (.inr (.inr 92)), some (.inl c1), some (.inl c2), some (.inl v3), some (.inl v4), some (.inl q1.1)], [.inl (wr ((wr (24 * (wr ((wr (6 * c1)) + c2)))) + v3)), .inr (.inr 119)], q1.2) (97, [some (.inr (.inr 92)), some (.inl c1), some (.inl c2), some (.inl v3), some (.inl v4), some (.inl q1.1)], [.inl (wr (10000 + q1.1)), .inl (wr ((wr (24 * (wr ((wr (6 * c1)) + c2)))) + v3)), .inr (.inr 119)], q1.2) rfl ?_
            by_cases hc : 0 ≤ (wr ((wr (24 * (wr ((wr (6 * c1)) + c2)))) + v3)) ∧ (wr ((wr (24 * (wr ((wr (6 * c1)) + c2)))) + v3)) < 4320
            · rw [if_pos hc] at h
              refine es (98, [some (.inr (.inr 92)), some (.inl c1), some (.inl c2), some (.inl v3), some (.inl v4), some (.inl q1.1)], [], (gset q1.2 119 ((wr ((wr (24 * (wr ((wr (6 * c1)) + c2)))) + v3)).toNat) (wr (10000 + q1.1)))) (if_pos hc) ?_
              refine ev_runs 3 (98, [some (.inr (.inr 92)), some (.inl c1), some (.inl c2), some (.inl v3), some (.inl v4), some (.inl q1.1)], [], (gset q1.2 119 ((wr ((wr (24 * (wr ((wr (6 * c1)) + c2)))) + v3)).toNat) (wr (10000 + q1.1)))) (23, [some (.inr (.inr 92)), some (.inl c1), some (.inl c2), some (.inl (wr (v3 + 1))), some (.inl (wr (v4 + 1))), some (.inl q1.1)], [], (gset q1.2 119 ((wr ((wr (24 * (wr ((wr (6 * c1)) + c2)))) + v3)).toNat) (wr (10000 + q1.1)))) rfl ?_
              exact ev_le (L := [some (.inr (.inr 92)), some (.inl c1), some (.inl c2), some (.inl (wr (v3 + 1))), some (.inl (wr (v4 + 1))), none]) (by simp [Lle]) (ih23 (wr (v3 + 1)) (wr (v4 + 1)) (gset q1.2 119 ((wr ((wr (24 * (wr ((wr (6 * c1)) + c2)))) + v3)).toNat) (wr (10000 + q1.1))) g' h)
            · rw [if_neg hc] at h; cases h
        · rw [if_neg hc] at h
          refine es (52, [some (.inr (.inr 92)), some (.inl c1), some (.inl c2), some (.inl v3), some (.inl v4), some (.inl q1.1)], [], q1.2) (congrArg some (if_neg hc)) ?_
          refine ev_runs 1 (52, [some (.inr (.inr 92)), some (.inl c1), some (.inl c2), some (.inl v3), some (.inl v4), some (.inl q1.1)], [], q1.2) (54, [some (.inr (.inr 92)), some (.inl c1), some (.inl c2), some (.inl v3), some (.inl v4), some (.inl q1.1)], [.inl q1.1], q1.2) rfl ?_
          refine ec 100 57 [.inl q1.1] [] rfl (ev_Md_to q1.1 q1.2 _ rfl) ?_
          show Ev 101 57 [some (.inr (.inr 92)), some (.inl c1), some (.inl c2), some (.inl v3), some (.inl v4), some (.inl q1.1)] [.inl (Md_to q1.1)] q1.2 _ _
          refine ev_runs 1 (57, [some (.inr (.inr 92)), some (.inl c1), some (.inl c2), some (.inl v3), some (.inl v4), some (.inl q1.1)], [.inl (Md_to q1.1)], q1.2) (58, [some (.inr (.inr 92)), some (.inl c1), some (.inl c2), some (.inl v3), some (.inl v4), some (.inl q1.1)], [.inl c2, .inl (Md_to q1.1)], q1.2) rfl ?_
          by_cases hc : ¬ (Md_to q1.1) = c2
          · rw [if_pos hc] at h
            refine es (101, [some (.inr (.inr 92)), some (.inl c1), some (.inl c2), some (.inl v3), some (.inl v4), some (.inl q1.1)], [], q1.2) (congrArg some (if_pos hc)) ?_
            refine ev_runs 2 (101, [some (.inr (.inr 92)), some (.inl c1), some (.inl c2), some (.inl v3), some (.inl v4), some (.inl q1.1)], [], q1.2) (23, [some (.inr (.inr 92)), some (.inl c1), some (.inl c2), some (.inl v3), some (.inl (wr (v4 + 1))), some (.inl q1.1)], [], q1.2) rfl ?_
            exact ev_le (L := [some (.inr (.inr 92)), some (.inl c1), some (.inl c2), some (.inl v3), some (.inl (wr (v4 + 1))), none]) (by simp [Lle]) (ih23 v3 (wr (v4 + 1)) q1.2 g' h)
          · rw [if_neg hc] at h
            refine es (61, [some (.inr (.inr 92)), some (.inl c1), some (.inl c2), some (.inl v3), some (.inl v4), some (.inl q1.1)], [], q1.2) (congrArg some (if_neg hc)) ?_
            refine ev_runs 12 (61, [some (.inr (.inr 92)), some (.inl c1), some (.inl c2), some (.inl v3), some (.inl v4), some (.inl q1.1)], [], q1.2) (78, [some (.inr (.inr 92)), some (.inl c1), some (.inl c2), some (.inl v3), some (.inl v4), some (.inl q1.1)], [.inl q1.1, .inl (wr ((wr (24 * (wr ((wr (6 * c1)) + c2)))) + v3)), .inr (.inr 119)], q1.2) rfl ?_
            refine ec 99 81 [.inl q1.1] [.inl (wr ((wr (24 * (wr ((wr (6 * c1)) + c2)))) + v3)), .inr (.inr 119)] rfl (ev_Md_from q1.1 q1.2 _ rfl) ?_
            show Ev 101 81 [some (.inr (.inr 92)), some (.inl c1), some (.inl c2), some (.inl v3), some (.inl v4), some (.inl q1.1)] [.inl (Md_from q1.1), .inl (wr ((wr (24 * (wr ((wr (6 * c1)) + c2)))) + v3)), .inr (.inr 119)] q1.2 _ _
            refine ev_runs 1 (81, [some (.inr (.inr 92)), some (.inl c1), some (.inl c2), some (.inl v3), some (.inl v4), some (.inl q1.1)], [.inl (Md_from q1.1), .inl (wr ((wr (24 * (wr ((wr (6 * c1)) + c2)))) + v3)), .inr (.inr 119)], q1.2) (82, [some (.inr (.inr 92)), some (.inl c1), some (.inl c2), some (.inl v3), some (.inl v4), some (.inl q1.1)], [.inl c2, .inl (Md_from q1.1), .inl (wr ((wr (24 * (wr ((wr (6 * c1)) + c2)))) + v3)), .inr (.inr 119)], q1.2) rfl ?_
            by_cases hc : ¬ (Md_from q1.1) = c2
            · rw [if_pos hc] at h
              refine es (91, [some (.inr (.inr 92)), some (.inl c1), some (.inl c2), some (.inl v3), some (.inl v4), some (.inl q1.1)], [.inl (wr ((wr (24 * (wr ((wr (6 * c1)) + c2)))) + v3)), .inr (.inr 119)], q1.2) (congrArg some (if_pos hc)) ?_
              refine ev_runs 3 (91, [some (.inr (.inr 92)), some (.inl c1), some (.inl c2), some (.inl v3), some (.inl v4), some (.inl q1.1)], [.inl (wr ((wr (24 * (wr ((wr (6 * c1)) + c2)))) + v3)), .inr (.inr 119)], q1.2) (97, [some (.inr (.inr 92)), some (.inl c1), some (.inl c2), some (.inl v3), some (.inl v4), some (.inl q1.1)], [.inl (wr (20000 + q1.1)), .inl (wr ((wr (24 * (wr ((wr (6 * c1)) + c2)))) + v3)), .inr (.inr 119)], q1.2) rfl ?_
              by_cases hc : 0 ≤ (wr ((wr (24 * (wr ((wr (6 * c1)) + c2)))) + v3)) ∧ (wr ((wr (24 * (wr ((wr (6 * c1)) + c2)))) + v3)) < 4320
              · rw [if_pos hc] at h
                refine es (98, [some (.inr (.inr 92)), some (.inl c1), some (.inl c2), some (.inl v3), some (.inl v4), some (.inl q1.1)], [], (gset q1.2 119 ((wr ((wr (24 * (wr ((wr (6 * c1)) + c2)))) + v3)).toNat) (wr (20000 + q1.1)))) (if_pos hc) ?_
                refine ev_runs 3 (98, [some (.inr (.inr 92)), some (.inl c1), some (.inl c2), some (.inl v3), some (.inl v4), some (.inl q1.1)], [], (gset q1.2 119 ((wr ((wr (24 * (wr ((wr (6 * c1)) + c2)))) + v3)).toNat) (wr (20000 + q1.1)))) (23, [some (.inr (.inr 92)), some (.inl c1), some (.inl c2), some (.inl (wr (v3 + 1))), some (.inl (wr (v4 + 1))), some (.inl q1.1)], [], (gset q1.2 119 ((wr ((wr (24 * (wr ((wr (6 * c1)) + c2)))) + v3)).toNat) (wr (20000 + q1.1)))) rfl ?_
                exact ev_le (L := [some (.inr (.inr 92)), some (.inl c1), some (.inl c2), some (.inl (wr (v3 + 1))), some (.inl (wr (v4 + 1))), none]) (by simp [Lle]) (ih23 (wr (v3 + 1)) (wr (v4 + 1)) (gset q1.2 119 ((wr ((wr (24 * (wr ((wr (6 * c1)) + c2)))) + v3)).toNat) (wr (20000 + q1.1))) g' h)
              · rw [if_neg hc] at h; cases h
            · rw [if_neg hc] at h
              refine es (85, [some (.inr (.inr 92)), some (.inl c1), some (.inl c2), some (.inl v3), some (.inl v4), some (.inl q1.1)], [.inl (wr ((wr (24 * (wr ((wr (6 * c1)) + c2)))) + v3)), .inr (.inr 119)], q1.2) (congrArg some (if_neg hc)) ?_
              refine ev_runs 4 (85, [some (.inr (.inr 92)), some (.inl c1), some (.inl c2), some (.inl v3), some (.inl v4), some (.inl q1.1)], [.inl (wr ((wr (24 * (wr ((wr (6 * c1)) + c2)))) + v3)), .inr (.inr 119)], q1.2) (97, [some (.inr (.inr 92)), some (.inl c1), some (.inl c2), some (.inl v3), some (.inl v4), some (.inl q1.1)], [.inl (wr (10000 + q1.1)), .inl (wr ((wr (24 * (wr ((wr (6 * c1)) + c2)))) + v3)), .inr (.inr 119)], q1.2) rfl ?_
              by_cases hc : 0 ≤ (wr ((wr (24 * (wr ((wr (6 * c1)) + c2)))) + v3)) ∧ (wr ((wr (24 * (wr ((wr (6 * c1)) + c2)))) + v3)) < 4320
              · rw [if_pos hc] at h
                refine es (98, [some (.inr (.inr 92)), some (.inl c1), some (.inl c2), some (.inl v3), some (.inl v4), some (.inl q1.1)], [], (gset q1.2 119 ((wr ((wr (24 * (wr ((wr (6 * c1)) + c2)))) + v3)).toNat) (wr (10000 + q1.1)))) (if_pos hc) ?_
                refine ev_runs 3 (98, [some (.inr (.inr 92)), some (.inl c1), some (.inl c2), some (.inl v3), some (.inl v4), some (.inl q1.1)], [], (gset q1.2 119 ((wr ((wr (24 * (wr ((wr (6 * c1)) + c2)))) + v3)).toNat) (wr (10000 + q1.1)))) (23, [some (.inr (.inr 92)), some (.inl c1), some (.inl c2), some (.inl (wr (v3 + 1))), some (.inl (wr (v4 + 1))), some (.inl q1.1)], [], (gset q1.2 119 ((wr ((wr (24 * (wr ((wr (6 * c1)) + c2)))) + v3)).toNat) (wr (10000 + q1.1)))) rfl ?_
                exact ev_le (L := [some (.inr (.inr 92)), some (.inl c1), some (.inl c2), some (.inl (wr (v3 + 1))), some (.inl (wr (v4 + 1))), none]) (by simp [Lle]) (ih23 (wr (v3 + 1)) (wr (v4 + 1)) (gset q1.2 119 ((wr ((wr (24 * (wr ((wr (6 * c1)) + c2)))) + v3)).toNat) (wr (10000 + q1.1))) g' h)
              · rw [if_neg hc] at h; cases h
    · rw [if_neg hc] at h; cases h
set_option maxRecDepth 100000 in
set_option maxHeartbeats 4000000 in
theorem ev_Md_findLooks_l12 (c1 : Int) (K12_125 : Gx → Option Gx) (hK12_125 : ∀ (g : Gx) (g' : Gx), K12_125 g = some g' → Ev 101 125 [some (.inr (.inr 92)), some (.inl c1), none, none, none, none] [] g none g') : ∀ (n12 : Nat) (v2 : Int) (g : Gx) (g' : Gx), Md_findLooks_l12 c1 K12_125 n12 v2 g = some g' → Ev 101 12 [some (.inr (.inr 92)), some (.inl c1), some (.inl v2), none, none, none] [] g none g' := by
  intro n12
  induction n12 with
  | zero => intro v2 g g' h; cases h
  | succ n12 ih12 =>
    intro v2 g g' h
    rw [Md_findLooks_l12] at h
    refine ev_runs 2 (12, [some (.inr (.inr 92)), some (.inl c1), some (.inl v2), none, none, none], [], g) (15, [some (.inr (.inr 92)), some (.inl c1), some (.inl v2), none, none, none], [.inl 6, .inl v2], g) rfl ?_
    by_cases hc : 6 ≤ v2
    · rw [if_pos hc] at h
      refine es (125, [some (.inr (.inr 92)), some (.inl c1), some (.inl v2), none, none, none], [], g) (congrArg some (if_pos hc)) ?_
      exact ev_le (L := [some (.inr (.inr 92)), some (.inl c1), none, none, none, none]) (by simp [Lle]) (hK12_125 g g' h)
    · rw [if_neg hc] at h
      refine es (18, [some (.inr (.inr 92)), some (.inl c1), some (.inl v2), none, none, none], [], g) (congrArg some (if_neg hc)) ?_
      refine ev_runs 4 (18, [some (.inr (.inr 92)), some (.inl c1), some (.inl v2), none, none, none], [], g) (23, [some (.inr (.inr 92)), some (.inl c1), some (.inl v2), some (.inl 0), some (.inl 0), none], [], g) rfl ?_
      refine ev_le (L := [some (.inr (.inr 92)), some (.inl c1), some (.inl v2), some (.inl 0), some (.inl 0), none]) (by simp [Lle]) ?_
      refine ev_Md_findLooks_l23 c1 v2 _ ?_ fu 0 0 g g' h
      · intro x2 g3 g' h
        refine ev_runs 8 (107, [some (.inr (.inr 92)), some (.inl c1), some (.inl v2), some (.inl x2), none, none], [], g3) (118, [some (.inr (.inr 92)), some (.inl c1), some (.inl v2), some (.inl x2), none, none], [.inl x2, .inl (wr ((wr (6 * c1)) + v2)), .inr (.inr 118)], g3) rfl ?_
        by_cases hc : 0 ≤ (wr ((wr (6 * c1)) + v2)) ∧ (wr ((wr (6 * c1)) + v2)) < 180
        · rw [if_pos hc] at h
          refine es (119, [some (.inr (.inr 92)), some (.inl c1), some (.inl v2), some (.inl x2), none, none], [], (gset g3 118 ((wr ((wr (6 * c1)) + v2)).toNat) x2)) (if_pos hc) ?_
          refine ev_runs 2 (119, [some (.inr (.inr 92)), some (.inl c1), some (.inl v2), some (.inl x2), none, none], [], (gset g3 118 ((wr ((wr (6 * c1)) + v2)).toNat) x2)) (12, [some (.inr (.inr 92)), some (.inl c1), some (.inl (wr (v2 + 1))), some (.inl x2), none, none], [], (gset g3 118 ((wr ((wr (6 * c1)) + v2)).toNat) x2)) rfl ?_
          exact ev_le (L := [some (.inr (.inr 92)), some (.inl c1), some (.inl (wr (v2 + 1))), none, none, none]) (by simp [Lle]) (ih12 (wr (v2 + 1)) (gset g3 118 ((wr ((wr (6 * c1)) + v2)).toNat) x2) g' h)
        · rw [if_neg hc] at h; cases h
set_option maxRecDepth 100000 in
set_option maxHeartbeats 4000000 in
theorem ev_Md_findLooks_l2 (K2_131 : Gx → Option Gx) (hK2_131 : ∀ (g : Gx) (g' : Gx), K2_131 g = some g' → Ev 101 131 [none, none, none, none, none, none] [] g none g') : ∀ (n2 : Nat) (v1 : Int) (g : Gx) (g' : Gx), Md_findLooks_l2 K2_131 n2 v1 g = some g' → Ev 101 2 [some (.inr (.inr 92)), some (.inl v1), none, none, none, none] [] g none g' := by
  intro n2
  induction n2 with
  | zero => intro v1 g g' h; cases h
  | succ n2 ih2 =>
    intro v1 g g' h
    rw [Md_findLooks_l2] at h
    refine ev_runs 3 (2, [some (.inr (.inr 92)), some (.inl v1), none, none, none, none], [], g) (7, [some (.inr (.inr 92)), some (.inl v1), none, none, none, none], [.inl (g 92 26), .inl v1], g) rfl ?_
    by_cases hc : (g 92 26) ≤ v1
    · rw [if_pos hc] at h
      refine es (131, [some (.inr (.inr 92)), some (.inl v1), none, none, none, none], [], g) (congrArg some (if_pos hc)) ?_
      exact ev_le (L := [none, none, none, none, none, none]) (by simp [Lle]) (hK2_131 g g' h)
    · rw [if_neg hc] at h
      refine es (10, [some (.inr (.inr 92)), some (.inl v1), none, none, none, none], [], g) (congrArg some (if_neg hc)) ?_
      refine ev_runs 2 (10, [some (.inr (.inr 92)), some (.inl v1), none, none, none, none], [], g) (12, [some (.inr (.inr 92)), some (.inl v1), some (.inl 0), none, none, none], [], g) rfl ?_
      refine ev_le (L := [some (.inr (.inr 92)), some (.inl v1), some (.inl 0), none, none, none]) (by simp [Lle]) ?_
      refine ev_Md_findLooks_l12 v1 _ ?_ fu 0 g g' h
      · intro g4 g' h
        refine ev_runs 2 (125, [some (.inr (.inr 92)), some (.inl v1), none, none, none, none], [], g4) (2, [some (.inr (.inr 92)), some (.inl (wr (v1 + 1))), none, none, none, none], [], g4) rfl ?_
        exact ev_le (L := [some (.inr (.inr 92)), some (.inl (wr (v1 + 1))), none, none, none, none]) (by simp [Lle]) (ih2 (wr (v1 + 1)) g4 g' h)
set_option maxRecDepth 100000 in
set_option maxHeartbeats 4000000 in
theorem ev_Md_findLooks (g : Gx) (g' : Gx) (h : Md_findLooks g = some g') : Ev 101 0 [some (.inr (.inr 92)), none, none, none, none, none] [] g none g' := by
  rw [Md_findLooks] at h
  refine ev_runs 2 (0, [some (.inr (.inr 92)), none, none, none, none, none], [], g) (2, [some (.inr (.inr 92)), some (.inl 0), none, none, none, none], [], g) rfl ?_
  refine ev_le (L := [some (.inr (.inr 92)), some (.inl 0), none, none, none, none]) (by simp [Lle]) ?_
  refine ev_Md_findLooks_l2 _ ?_ fu 0 g g' h
  · intro g5 g' h
    cases h
    exact er rfl
def Md_lookAt (a1 a2 a3 : Int) (g : Gx) : Option (Int × Gx) :=
  if 0 ≤ (wr ((wr (6 * a2)) + a1)) ∧ (wr ((wr (6 * a2)) + a1)) < 180 then
  if (g 118 (wr ((wr (6 * a2)) + a1)).toNat) ≤ a3 then
    some ((-1), g)
  else
    if 0 ≤ (wr ((wr (24 * (wr ((wr (6 * a2)) + a1)))) + a3)) ∧ (wr ((wr (24 * (wr ((wr (6 * a2)) + a1)))) + a3)) < 4320 then
    some ((g 119 (wr ((wr (24 * (wr ((wr (6 * a2)) + a1)))) + a3)).toNat), g)
    else none
  else none
set_option maxRecDepth 100000 in
set_option maxHeartbeats 4000000 in
theorem ev_Md_lookAt (a1 a2 a3 : Int) (g : Gx) (r : Int) (g' : Gx) (h : Md_lookAt a1 a2 a3 g = some (r, g')) : Ev 102 0 [some (.inr (.inr 92)), some (.inl a1), some (.inl a2), some (.inl a3)] [] g (some (.inl r)) g' := by
  rw [Md_lookAt] at h
  refine ev_runs 8 (0, [some (.inr (.inr 92)), some (.inl a1), some (.inl a2), some (.inl a3)], [], g) (11, [some (.inr (.inr 92)), some (.inl a1), some (.inl a2), some (.inl a3)], [.inl (wr ((wr (6 * a2)) + a1)), .inr (.inr 118), .inl a3], g) rfl ?_
  by_cases hc : 0 ≤ (wr ((wr (6 * a2)) + a1)) ∧ (wr ((wr (6 * a2)) + a1)) < 180
  · rw [if_pos hc] at h
    refine es (12, [some (.inr (.inr 92)), some (.inl a1), some (.inl a2), some (.inl a3)], [.inl (g 118 (wr ((wr (6 * a2)) + a1)).toNat), .inl a3], g) (if_pos hc) ?_
    by_cases hc : (g 118 (wr ((wr (6 * a2)) + a1)).toNat) ≤ a3
    · rw [if_pos hc] at h
      refine es (34, [some (.inr (.inr 92)), some (.inl a1), some (.inl a2), some (.inl a3)], [], g) (congrArg some (if_pos hc)) ?_
      refine ev_runs 1 (34, [some (.inr (.inr 92)), some (.inl a1), some (.inl a2), some (.inl a3)], [], g) (35, [some (.inr (.inr 92)), some (.inl a1), some (.inl a2), some (.inl a3)], [.inl (-1)], g) rfl ?_
      cases h
      exact er rfl
    · rw [if_neg hc] at h
      refine es (15, [some (.inr (.inr 92)), some (.inl a1), some (.inl a2), some (.inl a3)], [], g) (congrArg some (if_neg hc)) ?_
      refine ev_runs 11 (15, [some (.inr (.inr 92)), some (.inl a1), some (.inl a2), some (.inl a3)], [], g) (30, [some (.inr (.inr 92)), some (.inl a1), some (.inl a2), some (.inl a3)], [.inl (wr ((wr (24 * (wr ((wr (6 * a2)) + a1)))) + a3)), .inr (.inr 119)], g) rfl ?_
      by_cases hc : 0 ≤ (wr ((wr (24 * (wr ((wr (6 * a2)) + a1)))) + a3)) ∧ (wr ((wr (24 * (wr ((wr (6 * a2)) + a1)))) + a3)) < 4320
      · rw [if_pos hc] at h
        refine es (31, [some (.inr (.inr 92)), some (.inl a1), some (.inl a2), some (.inl a3)], [.inl (g 119 (wr ((wr (24 * (wr ((wr (6 * a2)) + a1)))) + a3)).toNat)], g) (if_pos hc) ?_
        refine ev_runs 1 (31, [some (.inr (.inr 92)), some (.inl a1), some (.inl a2), some (.inl a3)], [.inl (g 119 (wr ((wr (24 * (wr ((wr (6 * a2)) + a1)))) + a3)).toNat)], g) (35, [some (.inr (.inr 92)), some (.inl a1), some (.inl a2), some (.inl a3)], [.inl (g 119 (wr ((wr (24 * (wr ((wr (6 * a2)) + a1)))) + a3)).toNat)], g) rfl ?_
        cases h
        exact er rfl
      · rw [if_neg hc] at h; cases h
  · rw [if_neg hc] at h; cases h
def Md_look (a1 a2 a3 : Int) (g : Gx) : Option (Int × Gx) :=
  if (Md_isOne a1) = 0 then
    some ((-2), g)
  else
    if (Md_isHistory a2) = 0 then
      some ((-2), g)
    else
      if (-1) ≤ a3 then
        Option.bind (Md_lacksOne a2 g) (fun q1 =>
        if q1.1 = 0 then
          Option.bind (Md_findLooks q1.2) (fun g2 =>
          if ¬ a3 = (-1) then
            Option.bind (Md_lookAt a1 a2 a3 g2) (fun q3 =>
            some (q3.1, q3.2))
          else
            if 0 ≤ (wr ((wr (6 * a2)) + a1)) ∧ (wr ((wr (6 * a2)) + a1)) < 180 then
            some ((g2 118 (wr ((wr (6 * a2)) + a1)).toNat), g2)
            else none)
        else
          some (q1.1, q1.2))
      else
        some ((-2), g)
set_option maxRecDepth 100000 in
set_option maxHeartbeats 4000000 in
theorem ev_Md_look (a1 a2 a3 : Int) (g : Gx) (r : Int) (g' : Gx) (h : Md_look a1 a2 a3 g = some (r, g')) : Ev 103 0 [some (.inr (.inr 92)), some (.inl a1), some (.inl a2), some (.inl a3), none] [] g (some (.inl r)) g' := by
  rw [Md_look] at h
  refine ev_runs 1 (0, [some (.inr (.inr 92)), some (.inl a1), some (.inl a2), some (.inl a3), none], [], g) (1, [some (.inr (.inr 92)), some (.inl a1), some (.inl a2), some (.inl a3), none], [.inl a1], g) rfl ?_
  refine ec 98 4 [.inl a1] [] rfl (ev_Md_isOne a1 g _ rfl) ?_
  show Ev 103 4 [some (.inr (.inr 92)), some (.inl a1), some (.inl a2), some (.inl a3), none] [.inl (Md_isOne a1)] g _ _
  by_cases hc : (Md_isOne a1) = 0
  · rw [if_pos hc] at h
    refine es (19, [some (.inr (.inr 92)), some (.inl a1), some (.inl a2), some (.inl a3), none], [], g) (congrArg some (if_pos hc)) ?_
    refine ev_runs 1 (19, [some (.inr (.inr 92)), some (.inl a1), some (.inl a2), some (.inl a3), none], [], g) (21, [some (.inr (.inr 92)), some (.inl a1), some (.inl a2), some (.inl a3), none], [.inl (-2)], g) rfl ?_
    cases h
    exact er rfl
  · rw [if_neg hc] at h
    refine es (7, [some (.inr (.inr 92)), some (.inl a1), some (.inl a2), some (.inl a3), none], [], g) (congrArg some (if_neg hc)) ?_
    refine ev_runs 1 (7, [some (.inr (.inr 92)), some (.inl a1), some (.inl a2), some (.inl a3), none], [], g) (8, [some (.inr (.inr 92)), some (.inl a1), some (.inl a2), some (.inl a3), none], [.inl a2], g) rfl ?_
    refine ec 87 11 [.inl a2] [] rfl (ev_Md_isHistory a2 g _ rfl) ?_
    show Ev 103 11 [some (.inr (.inr 92)), some (.inl a1), some (.inl a2), some (.inl a3), none] [.inl (Md_isHistory a2)] g _ _
    by_cases hc : (Md_isHistory a2) = 0
    · rw [if_pos hc] at h
      refine es (19, [some (.inr (.inr 92)), some (.inl a1), some (.inl a2), some (.inl a3), none], [], g) (congrArg some (if_pos hc)) ?_
      refine ev_runs 1 (19, [some (.inr (.inr 92)), some (.inl a1), some (.inl a2), some (.inl a3), none], [], g) (21, [some (.inr (.inr 92)), some (.inl a1), some (.inl a2), some (.inl a3), none], [.inl (-2)], g) rfl ?_
      cases h
      exact er rfl
    · rw [if_neg hc] at h
      refine es (14, [some (.inr (.inr 92)), some (.inl a1), some (.inl a2), some (.inl a3), none], [], g) (congrArg some (if_neg hc)) ?_
      refine ev_runs 2 (14, [some (.inr (.inr 92)), some (.inl a1), some (.inl a2), some (.inl a3), none], [], g) (16, [some (.inr (.inr 92)), some (.inl a1), some (.inl a2), some (.inl a3), none], [.inl (-1), .inl a3], g) rfl ?_
      by_cases hc : (-1) ≤ a3
      · rw [if_pos hc] at h
        refine es (22, [some (.inr (.inr 92)), some (.inl a1), some (.inl a2), some (.inl a3), none], [], g) (congrArg some (if_pos hc)) ?_
        refine ev_runs 2 (22, [some (.inr (.inr 92)), some (.inl a1), some (.inl a2), some (.inl a3), none], [], g) (24, [some (.inr (.inr 92)), some (.inl a1), some (.inl a2), some (.inl a3), none], [.inl a2, .inr (.inr 92)], g) rfl ?_
        obtain ⟨q1, hq, h⟩ := Option.bind_eq_some_iff.mp h
        refine ec 88 27 [.inr (.inr 92), .inl a2] [] rfl (ev_Md_lacksOne a2 g q1.1 q1.2 hq) ?_
        show Ev 103 27 [some (.inr (.inr 92)), some (.inl a1), some (.inl a2), some (.inl a3), none] [.inl q1.1] q1.2 _ _
        refine ev_runs 2 (27, [some (.inr (.inr 92)), some (.inl a1), some (.inl a2), some (.inl a3), none], [.inl q1.1], q1.2) (31, [some (.inr (.inr 92)), some (.inl a1), some (.inl a2), some (.inl a3), some (.inl q1.1)], [.inl q1.1], q1.2) rfl ?_
        by_cases hc : q1.1 = 0
        · rw [if_pos hc] at h
          refine es (37, [some (.inr (.inr 92)), some (.inl a1), some (.inl a2), some (.inl a3), some (.inl q1.1)], [], q1.2) (congrArg some (if_pos hc)) ?_
          refine ev_runs 1 (37, [some (.inr (.inr 92)), some (.inl a1), some (.inl a2), some (.inl a3), some (.inl q1.1)], [], q1.2) (38, [some (.inr (.inr 92)), some (.inl a1), some (.inl a2), some (.inl a3), some (.inl q1.1)], [.inr (.inr 92)], q1.2) rfl ?_
          obtain ⟨g2, hq, h⟩ := Option.bind_eq_some_iff.mp h
          refine ec 101 41 [.inr (.inr 92)] [] rfl (ev_Md_findLooks q1.2 g2 hq) ?_
          show Ev 103 41 [some (.inr (.inr 92)), some (.inl a1), some (.inl a2), some (.inl a3), some (.inl q1.1)] [] g2 _ _
          refine ev_runs 2 (41, [some (.inr (.inr 92)), some (.inl a1), some (.inl a2), some (.inl a3), some (.inl q1.1)], [], g2) (43, [some (.inr (.inr 92)), some (.inl a1), some (.inl a2), some (.inl a3), some (.inl q1.1)], [.inl (-1), .inl a3], g2) rfl ?_
          by_cases hc : ¬ a3 = (-1)
          · rw [if_pos hc] at h
            refine es (60, [some (.inr (.inr 92)), some (.inl a1), some (.inl a2), some (.inl a3), some (.inl q1.1)], [], g2) (congrArg some (if_pos hc)) ?_
            refine ev_runs 4 (60, [some (.inr (.inr 92)), some (.inl a1), some (.inl a2), some (.inl a3), some (.inl q1.1)], [], g2) (64, [some (.inr (.inr 92)), some (.inl a1), some (.inl a2), some (.inl a3), some (.inl q1.1)], [.inl a3, .inl a2, .inl a1, .inr (.inr 92)], g2) rfl ?_
            obtain ⟨q3, hq, h⟩ := Option.bind_eq_some_iff.mp h
            refine ec 102 67 [.inr (.inr 92), .inl a1, .inl a2, .inl a3] [] rfl (ev_Md_lookAt a1 a2 a3 g2 q3.1 q3.2 hq) ?_
            show Ev 103 67 [some (.inr (.inr 92)), some (.inl a1), some (.inl a2), some (.inl a3), some (.inl q1.1)] [.inl q3.1] q3.2 _ _
            cases h
            exact er rfl
          · rw [if_neg hc] at h
            refine es (46, [some (.inr (.inr 92)), some (.inl a1), some (.inl a2), some (.inl a3), some (.inl q1.1)], [], g2) (congrArg some (if_neg hc)) ?_
            refine ev_runs 7 (46, [some (.inr (.inr 92)), some (.inl a1), some (.inl a2), some (.inl a3), some (.inl q1.1)], [], g2) (56, [some (.inr (.inr 92)), some (.inl a1), some (.inl a2), some (.inl a3), some (.inl q1.1)], [.inl (wr ((wr (6 * a2)) + a1)), .inr (.inr 118)], g2) rfl ?_
            by_cases hc : 0 ≤ (wr ((wr (6 * a2)) + a1)) ∧ (wr ((wr (6 * a2)) + a1)) < 180
            · rw [if_pos hc] at h
              refine es (57, [some (.inr (.inr 92)), some (.inl a1), some (.inl a2), some (.inl a3), some (.inl q1.1)], [.inl (g2 118 (wr ((wr (6 * a2)) + a1)).toNat)], g2) (if_pos hc) ?_
              refine ev_runs 1 (57, [some (.inr (.inr 92)), some (.inl a1), some (.inl a2), some (.inl a3), some (.inl q1.1)], [.inl (g2 118 (wr ((wr (6 * a2)) + a1)).toNat)], g2) (67, [some (.inr (.inr 92)), some (.inl a1), some (.inl a2), some (.inl a3), some (.inl q1.1)], [.inl (g2 118 (wr ((wr (6 * a2)) + a1)).toNat)], g2) rfl ?_
              cases h
              exact er rfl
            · rw [if_neg hc] at h; cases h
        · rw [if_neg hc] at h
          refine es (34, [some (.inr (.inr 92)), some (.inl a1), some (.inl a2), some (.inl a3), some (.inl q1.1)], [], q1.2) (congrArg some (if_neg hc)) ?_
          refine ev_runs 1 (34, [some (.inr (.inr 92)), some (.inl a1), some (.inl a2), some (.inl a3), some (.inl q1.1)], [], q1.2) (36, [some (.inr (.inr 92)), some (.inl a1), some (.inl a2), some (.inl a3), some (.inl q1.1)], [.inl q1.1], q1.2) rfl ?_
          cases h
          exact er rfl
      · rw [if_neg hc] at h
        refine es (19, [some (.inr (.inr 92)), some (.inl a1), some (.inl a2), some (.inl a3), none], [], g) (congrArg some (if_neg hc)) ?_
        refine ev_runs 1 (19, [some (.inr (.inr 92)), some (.inl a1), some (.inl a2), some (.inl a3), none], [], g) (21, [some (.inr (.inr 92)), some (.inl a1), some (.inl a2), some (.inl a3), none], [.inl (-2)], g) rfl ?_
        cases h
        exact er rfl
def Hi_all (g : Gx) : Int :=
  (wr ((jshl 1 (g 33 9)) - 1))
set_option maxRecDepth 100000 in
set_option maxHeartbeats 4000000 in
theorem ev_Hi_all (g : Gx) (r : Int) (h : Hi_all g = r) : Ev 104 0 [some (.inr (.inr 33))] [] g (some (.inl r)) g := by
  rw [Hi_all] at h
  refine ev_runs 6 (0, [some (.inr (.inr 33))], [], g) (8, [some (.inr (.inr 33))], [.inl (wr ((jshl 1 (g 33 9)) - 1))], g) rfl ?_
  subst h
  exact er rfl
def Lk_common_l23 (c1 : Int) (c2 : Int) (c3 : Int) (K23_66 : Int → Gx → Option (Int × Gx)) : Nat → Int → Gx → Option (Int × Gx)
  | 0, _, _ => none
  | n23 + 1, v4, g =>
    if c3 ≤ v4 then
      K23_66 v4 g
    else
      if ¬ (rat g 52 720 (wr ((wr (c1 * 24)) + v4))) = (rat g 52 720 (wr ((wr (c2 * 24)) + v4))) then
        K23_66 v4 g
      else
        Lk_common_l23 c1 c2 c3 K23_66 n23 (wr (v4 + 1)) g
def Lk_common (a1 a2 : Int) (g : Gx) : Option (Int × Gx) :=
  Lk_common_l23 a1 a2 (imin (rat g 54 30 a1) (rat g 54 30 a2))
    (fun x1 g2 =>
      some (x1, g2))
    fu 0 g
set_option maxRecDepth 100000 in
set_option maxHeartbeats 4000000 in
theorem ev_Lk_common_l23 (c1 : Int) (c2 : Int) (c3 : Int) (K23_66 : Int → Gx → Option (Int × Gx)) (hK23_66 : ∀ (x4 : Int) (g : Gx) (r : Int) (g' : Gx), K23_66 x4 g = some (r, g') → Ev 105 66 [none, none, none, none, some (.inl x4)] [] g (some (.inl r)) g') : ∀ (n23 : Nat) (v4 : Int) (g : Gx) (r : Int) (g' : Gx), Lk_common_l23 c1 c2 c3 K23_66 n23 v4 g = some (r, g') → Ev 105 23 [some (.inr (.inr 50)), some (.inl c1), some (.inl c2), some (.inl c3), some (.inl v4)] [] g (some (.inl r)) g' := by
  intro n23
  induction n23 with
  | zero => intro v4 g r g' h; cases h
  | succ n23 ih23 =>
    intro v4 g r g' h
    rw [Lk_common_l23] at h
    refine ev_runs 2 (23, [some (.inr (.inr 50)), some (.inl c1), some (.inl c2), some (.inl c3), some (.inl v4)], [], g) (26, [some (.inr (.inr 50)), some (.inl c1), some (.inl c2), some (.inl c3), some (.inl v4)], [.inl c3, .inl v4], g) rfl ?_
    by_cases hc : c3 ≤ v4
    · rw [if_pos hc] at h
      refine es (66, [some (.inr (.inr 50)), some (.inl c1), some (.inl c2), some (.inl c3), some (.inl v4)], [], g) (congrArg some (if_pos hc)) ?_
      exact ev_le (L := [none, none, none, none, some (.inl v4)]) (by simp [Lle]) (hK23_66 v4 g r g' h)
    · rw [if_neg hc] at h
      refine es (29, [some (.inr (.inr 50)), some (.inl c1), some (.inl c2), some (.inl c3), some (.inl v4)], [], g) (congrArg some (if_neg hc)) ?_
      refine ev_runs 7 (29, [some (.inr (.inr 50)), some (.inl c1), some (.inl c2), some (.inl c3), some (.inl v4)], [], g) (40, [some (.inr (.inr 50)), some (.inl c1), some (.inl c2), some (.inl c3), some (.inl v4)], [.inl (wr ((wr (c1 * 24)) + v4)), .inr (.inr 51)], g) rfl ?_
      refine ec 13 43 [.inr (.inr 51), .inl (wr ((wr (c1 * 24)) + v4))] [] rfl (ev_Row_at rfl rfl _ _) ?_
      show Ev 105 43 [some (.inr (.inr 50)), some (.inl c1), some (.inl c2), some (.inl c3), some (.inl v4)] [.inl (rat g 52 720 (wr ((wr (c1 * 24)) + v4)))] g _ _
      refine ev_runs 7 (43, [some (.inr (.inr 50)), some (.inl c1), some (.inl c2), some (.inl c3), some (.inl v4)], [.inl (rat g 52 720 (wr ((wr (c1 * 24)) + v4)))], g) (54, [some (.inr (.inr 50)), some (.inl c1), some (.inl c2), some (.inl c3), some (.inl v4)], [.inl (wr ((wr (c2 * 24)) + v4)), .inr (.inr 51), .inl (rat g 52 720 (wr ((wr (c1 * 24)) + v4)))], g) rfl ?_
      refine ec 13 57 [.inr (.inr 51), .inl (wr ((wr (c2 * 24)) + v4))] [.inl (rat g 52 720 (wr ((wr (c1 * 24)) + v4)))] rfl (ev_Row_at rfl rfl _ _) ?_
      show Ev 105 57 [some (.inr (.inr 50)), some (.inl c1), some (.inl c2), some (.inl c3), some (.inl v4)] [.inl (rat g 52 720 (wr ((wr (c2 * 24)) + v4))), .inl (rat g 52 720 (wr ((wr (c1 * 24)) + v4)))] g _ _
      by_cases hc : ¬ (rat g 52 720 (wr ((wr (c1 * 24)) + v4))) = (rat g 52 720 (wr ((wr (c2 * 24)) + v4)))
      · rw [if_pos hc] at h
        refine es (66, [some (.inr (.inr 50)), some (.inl c1), some (.inl c2), some (.inl c3), some (.inl v4)], [], g) (congrArg some (if_pos hc)) ?_
        exact ev_le (L := [none, none, none, none, some (.inl v4)]) (by simp [Lle]) (hK23_66 v4 g r g' h)
      · rw [if_neg hc] at h
        refine es (60, [some (.inr (.inr 50)), some (.inl c1), some (.inl c2), some (.inl c3), some (.inl v4)], [], g) (congrArg some (if_neg hc)) ?_
        refine ev_runs 2 (60, [some (.inr (.inr 50)), some (.inl c1), some (.inl c2), some (.inl c3), some (.inl v4)], [], g) (23, [some (.inr (.inr 50)), some (.inl c1), some (.inl c2), some (.inl c3), some (.inl (wr (v4 + 1)))], [], g) rfl ?_
        exact ev_le (L := [some (.inr (.inr 50)), some (.inl c1), some (.inl c2), some (.inl c3), some (.inl (wr (v4 + 1)))]) (by simp [Lle]) (ih23 (wr (v4 + 1)) g r g' h)
set_option maxRecDepth 100000 in
set_option maxHeartbeats 4000000 in
theorem ev_Lk_common (a1 a2 : Int) (g : Gx) (r : Int) (g' : Gx) (h : Lk_common a1 a2 g = some (r, g')) : Ev 105 0 [some (.inr (.inr 50)), some (.inl a1), some (.inl a2), none, none] [] g (some (.inl r)) g' := by
  rw [Lk_common] at h
  refine ev_runs 3 (0, [some (.inr (.inr 50)), some (.inl a1), some (.inl a2), none, none], [], g) (5, [some (.inr (.inr 50)), some (.inl a1), some (.inl a2), none, none], [.inl a1, .inr (.inr 53)], g) rfl ?_
  refine ec 13 8 [.inr (.inr 53), .inl a1] [] rfl (ev_Row_at rfl rfl _ _) ?_
  show Ev 105 8 [some (.inr (.inr 50)), some (.inl a1), some (.inl a2), none, none] [.inl (rat g 54 30 a1)] g _ _
  refine ev_runs 3 (8, [some (.inr (.inr 50)), some (.inl a1), some (.inl a2), none, none], [.inl (rat g 54 30 a1)], g) (13, [some (.inr (.inr 50)), some (.inl a1), some (.inl a2), none, none], [.inl a2, .inr (.inr 53), .inl (rat g 54 30 a1)], g) rfl ?_
  refine ec 13 16 [.inr (.inr 53), .inl a2] [.inl (rat g 54 30 a1)] rfl (ev_Row_at rfl rfl _ _) ?_
  show Ev 105 16 [some (.inr (.inr 50)), some (.inl a1), some (.inl a2), none, none] [.inl (rat g 54 30 a2), .inl (rat g 54 30 a1)] g _ _
  refine ev_runs 4 (16, [some (.inr (.inr 50)), some (.inl a1), some (.inl a2), none, none], [.inl (rat g 54 30 a2), .inl (rat g 54 30 a1)], g) (23, [some (.inr (.inr 50)), some (.inl a1), some (.inl a2), some (.inl (imin (rat g 54 30 a1) (rat g 54 30 a2))), some (.inl 0)], [], g) rfl ?_
  refine ev_le (L := [some (.inr (.inr 50)), some (.inl a1), some (.inl a2), some (.inl (imin (rat g 54 30 a1) (rat g 54 30 a2))), some (.inl 0)]) (by simp [Lle]) ?_
  refine ev_Lk_common_l23 a1 a2 (imin (rat g 54 30 a1) (rat g 54 30 a2)) _ ?_ fu 0 g r g' h
  · intro x1 g2 r g' h
    refine ev_runs 1 (66, [none, none, none, none, some (.inl x1)], [], g2) (68, [none, none, none, none, some (.inl x1)], [.inl x1], g2) rfl ?_
    cases h
    exact er rfl
def Lk_bothEnd (a1 a2 a3 : Int) (g : Gx) : Int :=
  if ¬ (rat g 54 30 a1) = a3 then
    0
  else
    if ¬ (rat g 54 30 a2) = a3 then
      0
    else
      1
set_option maxRecDepth 100000 in
set_option maxHeartbeats 4000000 in
theorem ev_Lk_bothEnd (a1 a2 a3 : Int) (g : Gx) (r : Int) (h : Lk_bothEnd a1 a2 a3 g = r) : Ev 106 0 [some (.inr (.inr 50)), some (.inl a1), some (.inl a2), some (.inl a3)] [] g (some (.inl r)) g := by
  rw [Lk_bothEnd] at h
  refine ev_runs 3 (0, [some (.inr (.inr 50)), some (.inl a1), some (.inl a2), some (.inl a3)], [], g) (5, [some (.inr (.inr 50)), some (.inl a1), some (.inl a2), some (.inl a3)], [.inl a1, .inr (.inr 53)], g) rfl ?_
  refine ec 13 8 [.inr (.inr 53), .inl a1] [] rfl (ev_Row_at rfl rfl _ _) ?_
  show Ev 106 8 [some (.inr (.inr 50)), some (.inl a1), some (.inl a2), some (.inl a3)] [.inl (rat g 54 30 a1)] g _ _
  refine ev_runs 1 (8, [some (.inr (.inr 50)), some (.inl a1), some (.inl a2), some (.inl a3)], [.inl (rat g 54 30 a1)], g) (9, [some (.inr (.inr 50)), some (.inl a1), some (.inl a2), some (.inl a3)], [.inl a3, .inl (rat g 54 30 a1)], g) rfl ?_
  by_cases hc : ¬ (rat g 54 30 a1) = a3
  · rw [if_pos hc] at h
    refine es (28, [some (.inr (.inr 50)), some (.inl a1), some (.inl a2), some (.inl a3)], [], g) (congrArg some (if_pos hc)) ?_
    refine ev_runs 1 (28, [some (.inr (.inr 50)), some (.inl a1), some (.inl a2), some (.inl a3)], [], g) (29, [some (.inr (.inr 50)), some (.inl a1), some (.inl a2), some (.inl a3)], [.inl 0], g) rfl ?_
    subst h
    exact er rfl
  · rw [if_neg hc] at h
    refine es (12, [some (.inr (.inr 50)), some (.inl a1), some (.inl a2), some (.inl a3)], [], g) (congrArg some (if_neg hc)) ?_
    refine ev_runs 3 (12, [some (.inr (.inr 50)), some (.inl a1), some (.inl a2), some (.inl a3)], [], g) (17, [some (.inr (.inr 50)), some (.inl a1), some (.inl a2), some (.inl a3)], [.inl a2, .inr (.inr 53)], g) rfl ?_
    refine ec 13 20 [.inr (.inr 53), .inl a2] [] rfl (ev_Row_at rfl rfl _ _) ?_
    show Ev 106 20 [some (.inr (.inr 50)), some (.inl a1), some (.inl a2), some (.inl a3)] [.inl (rat g 54 30 a2)] g _ _
    refine ev_runs 1 (20, [some (.inr (.inr 50)), some (.inl a1), some (.inl a2), some (.inl a3)], [.inl (rat g 54 30 a2)], g) (21, [some (.inr (.inr 50)), some (.inl a1), some (.inl a2), some (.inl a3)], [.inl a3, .inl (rat g 54 30 a2)], g) rfl ?_
    by_cases hc : ¬ (rat g 54 30 a2) = a3
    · rw [if_pos hc] at h
      refine es (28, [some (.inr (.inr 50)), some (.inl a1), some (.inl a2), some (.inl a3)], [], g) (congrArg some (if_pos hc)) ?_
      refine ev_runs 1 (28, [some (.inr (.inr 50)), some (.inl a1), some (.inl a2), some (.inl a3)], [], g) (29, [some (.inr (.inr 50)), some (.inl a1), some (.inl a2), some (.inl a3)], [.inl 0], g) rfl ?_
      subst h
      exact er rfl
    · rw [if_neg hc] at h
      refine es (24, [some (.inr (.inr 50)), some (.inl a1), some (.inl a2), some (.inl a3)], [], g) (congrArg some (if_neg hc)) ?_
      refine ev_runs 2 (24, [some (.inr (.inr 50)), some (.inl a1), some (.inl a2), some (.inl a3)], [], g) (29, [some (.inr (.inr 50)), some (.inl a1), some (.inl a2), some (.inl a3)], [.inl 1], g) rfl ?_
      subst h
      exact er rfl
theorem bo_Lk_bothEnd (a1 a2 a3 : Int) (g : Gx) : (Lk_bothEnd a1 a2 a3 g) = 0 ∨ (Lk_bothEnd a1 a2 a3 g) = 1 := by
  simp only [Lk_bothEnd, lett]
  (repeat' split) <;> first | exact Or.inl rfl | exact Or.inr rfl | exact Or.inl trivial | exact Or.inr trivial
def Lk_isFirst_l2 (c1 : Int) (c2 : Int) (K2_38 : Gx → Option (Int × Gx)) : Nat → Int → Gx → Option (Int × Gx)
  | 0, _, _ => none
  | n2 + 1, v3, g =>
    if c1 ≤ v3 then
      K2_38 g
    else
      if (Op_has c2 v3) = 0 then
        Lk_isFirst_l2 c1 c2 K2_38 n2 (wr (v3 + 1)) g
      else
        Option.bind (Lk_common v3 c1 g) (fun q1 =>
        if (Lk_bothEnd v3 c1 q1.1 q1.2) = 0 then
          Lk_isFirst_l2 c1 c2 K2_38 n2 (wr (v3 + 1)) q1.2
        else
          some (0, q1.2))
def Lk_isFirst (a1 a2 : Int) (g : Gx) : Option (Int × Gx) :=
  Lk_isFirst_l2 a1 a2
    (fun g2 =>
      some (1, g2))
    fu 0 g
set_option maxRecDepth 100000 in
set_option maxHeartbeats 4000000 in
theorem ev_Lk_isFirst_l2 (c1 : Int) (c2 : Int) (K2_38 : Gx → Option (Int × Gx)) (hK2_38 : ∀ (g : Gx) (r : Int) (g' : Gx), K2_38 g = some (r, g') → Ev 107 38 [none, none, none, none] [] g (some (.inl r)) g') : ∀ (n2 : Nat) (v3 : Int) (g : Gx) (r : Int) (g' : Gx), Lk_isFirst_l2 c1 c2 K2_38 n2 v3 g = some (r, g') → Ev 107 2 [some (.inr (.inr 50)), some (.inl c1), some (.inl c2), some (.inl v3)] [] g (some (.inl r)) g' := by
  intro n2
  induction n2 with
  | zero => intro v3 g r g' h; cases h
  | succ n2 ih2 =>
    intro v3 g r g' h
    rw [Lk_isFirst_l2] at h
    refine ev_runs 2 (2, [some (.inr (.inr 50)), some (.inl c1), some (.inl c2), some (.inl v3)], [], g) (4, [some (.inr (.inr 50)), some (.inl c1), some (.inl c2), some (.inl v3)], [.inl c1, .inl v3], g) rfl ?_
    by_cases hc : c1 ≤ v3
    · rw [if_pos hc] at h
      refine es (38, [some (.inr (.inr 50)), some (.inl c1), some (.inl c2), some (.inl v3)], [], g) (congrArg some (if_pos hc)) ?_
      exact ev_le (L := [none, none, none, none]) (by simp [Lle]) (hK2_38 g r g' h)
    · rw [if_neg hc] at h
      refine es (7, [some (.inr (.inr 50)), some (.inl c1), some (.inl c2), some (.inl v3)], [], g) (congrArg some (if_neg hc)) ?_
      refine ev_runs 2 (7, [some (.inr (.inr 50)), some (.inl c1), some (.inl c2), some (.inl v3)], [], g) (9, [some (.inr (.inr 50)), some (.inl c1), some (.inl c2), some (.inl v3)], [.inl v3, .inl c2], g) rfl ?_
      refine ec 64 12 [.inl c2, .inl v3] [] rfl (ev_Op_has c2 v3 g _ rfl) ?_
      show Ev 107 12 [some (.inr (.inr 50)), some (.inl c1), some (.inl c2), some (.inl v3)] [.inl (Op_has c2 v3)] g _ _
      by_cases hc : (Op_has c2 v3) = 0
      · rw [if_pos hc] at h
        refine es (32, [some (.inr (.inr 50)), some (.inl c1), some (.inl c2), some (.inl v3)], [], g) (congrArg some (if_pos hc)) ?_
        refine ev_runs 2 (32, [some (.inr (.inr 50)), some (.inl c1), some (.inl c2), some (.inl v3)], [], g) (2, [some (.inr (.inr 50)), some (.inl c1), some (.inl c2), some (.inl (wr (v3 + 1)))], [], g) rfl ?_
        exact ev_le (L := [some (.inr (.inr 50)), some (.inl c1), some (.inl c2), some (.inl (wr (v3 + 1)))]) (by simp [Lle]) (ih2 (wr (v3 + 1)) g r g' h)
      · rw [if_neg hc] at h
        refine es (15, [some (.inr (.inr 50)), some (.inl c1), some (.inl c2), some (.inl v3)], [], g) (congrArg some (if_neg hc)) ?_
        refine ev_runs 6 (15, [some (.inr (.inr 50)), some (.inl c1), some (.inl c2), some (.inl v3)], [], g) (21, [some (.inr (.inr 50)), some (.inl c1), some (.inl c2), some (.inl v3)], [.inl c1, .inl v3, .inr (.inr 50), .inl c1, .inl v3, .inr (.inr 50)], g) rfl ?_
        obtain ⟨q1, hq, h⟩ := Option.bind_eq_some_iff.mp h
        refine ec 105 24 [.inr (.inr 50), .inl v3, .inl c1] [.inl c1, .inl v3, .inr (.inr 50)] rfl (ev_Lk_common v3 c1 g q1.1 q1.2 hq) ?_
        show Ev 107 24 [some (.inr (.inr 50)), some (.inl c1), some (.inl c2), some (.inl v3)] [.inl q1.1, .inl c1, .inl v3, .inr (.inr 50)] q1.2 _ _
        refine ec 106 27 [.inr (.inr 50), .inl v3, .inl c1, .inl q1.1] [] rfl (ev_Lk_bothEnd v3 c1 q1.1 q1.2 _ rfl) ?_
        show Ev 107 27 [some (.inr (.inr 50)), some (.inl c1), some (.inl c2), some (.inl v3)] [.inl (Lk_bothEnd v3 c1 q1.1 q1.2)] q1.2 _ _
        by_cases hc : (Lk_bothEnd v3 c1 q1.1 q1.2) = 0
        · rw [if_pos hc] at h
          refine es (32, [some (.inr (.inr 50)), some (.inl c1), some (.inl c2), some (.inl v3)], [], q1.2) (congrArg some (if_pos hc)) ?_
          refine ev_runs 2 (32, [some (.inr (.inr 50)), some (.inl c1), some (.inl c2), some (.inl v3)], [], q1.2) (2, [some (.inr (.inr 50)), some (.inl c1), some (.inl c2), some (.inl (wr (v3 + 1)))], [], q1.2) rfl ?_
          exact ev_le (L := [some (.inr (.inr 50)), some (.inl c1), some (.inl c2), some (.inl (wr (v3 + 1)))]) (by simp [Lle]) (ih2 (wr (v3 + 1)) q1.2 r g' h)
        · rw [if_neg hc] at h
          refine es (30, [some (.inr (.inr 50)), some (.inl c1), some (.inl c2), some (.inl v3)], [], q1.2) (congrArg some (if_neg hc)) ?_
          refine ev_runs 1 (30, [some (.inr (.inr 50)), some (.inl c1), some (.inl c2), some (.inl v3)], [], q1.2) (31, [some (.inr (.inr 50)), some (.inl c1), some (.inl c2), some (.inl v3)], [.inl 0], q1.2) rfl ?_
          cases h
          exact er rfl
set_option maxRecDepth 100000 in
set_option maxHeartbeats 4000000 in
theorem ev_Lk_isFirst (a1 a2 : Int) (g : Gx) (r : Int) (g' : Gx) (h : Lk_isFirst a1 a2 g = some (r, g')) : Ev 107 0 [some (.inr (.inr 50)), some (.inl a1), some (.inl a2), none] [] g (some (.inl r)) g' := by
  rw [Lk_isFirst] at h
  refine ev_runs 2 (0, [some (.inr (.inr 50)), some (.inl a1), some (.inl a2), none], [], g) (2, [some (.inr (.inr 50)), some (.inl a1), some (.inl a2), some (.inl 0)], [], g) rfl ?_
  refine ev_le (L := [some (.inr (.inr 50)), some (.inl a1), some (.inl a2), some (.inl 0)]) (by simp [Lle]) ?_
  refine ev_Lk_isFirst_l2 a1 a2 _ ?_ fu 0 g r g' h
  · intro g2 r g' h
    refine ev_runs 1 (38, [none, none, none, none], [], g2) (39, [none, none, none, none], [.inl 1], g2) rfl ?_
    cases h
    exact er rfl
def Lk_unlike_l4 (c1 : Int) (K4_41 : Int → Gx → Option (Int × Gx)) : Nat → Int → Int → Gx → Option (Int × Gx)
  | 0, _, _, _ => none
  | n4 + 1, v2, v3, g =>
    if (Hi_size g) ≤ v3 then
      K4_41 v2 g
    else
      if (Op_has c1 v3) = 0 then
        Lk_unlike_l4 c1 K4_41 n4 v2 (wr (v3 + 1)) g
      else
        Option.bind (Lk_isFirst v3 c1 g) (fun q1 =>
        if q1.1 = 0 then
          Lk_unlike_l4 c1 K4_41 n4 v2 (wr (v3 + 1)) q1.2
        else
          Lk_unlike_l4 c1 K4_41 n4 (wr (v2 + 1)) (wr (v3 + 1)) q1.2)
def Lk_unlike (a1 : Int) (g : Gx) : Option (Int × Gx) :=
  Lk_unlike_l4 a1
    (fun x2 g3 =>
      some (x2, g3))
    fu 0 0 g
set_option maxRecDepth 100000 in
set_option maxHeartbeats 4000000 in
theorem ev_Lk_unlike_l4 (c1 : Int) (K4_41 : Int → Gx → Option (Int × Gx)) (hK4_41 : ∀ (x2 : Int) (g : Gx) (r : Int) (g' : Gx), K4_41 x2 g = some (r, g') → Ev 108 41 [none, none, some (.inl x2), none] [] g (some (.inl r)) g') : ∀ (n4 : Nat) (v2 v3 : Int) (g : Gx) (r : Int) (g' : Gx), Lk_unlike_l4 c1 K4_41 n4 v2 v3 g = some (r, g') → Ev 108 4 [some (.inr (.inr 50)), some (.inl c1), some (.inl v2), some (.inl v3)] [] g (some (.inl r)) g' := by
  intro n4
  induction n4 with
  | zero => intro v2 v3 g r g' h; cases h
  | succ n4 ih4 =>
    intro v2 v3 g r g' h
    rw [Lk_unlike_l4] at h
    refine ev_runs 3 (4, [some (.inr (.inr 50)), some (.inl c1), some (.inl v2), some (.inl v3)], [], g) (9, [some (.inr (.inr 50)), some (.inl c1), some (.inl v2), some (.inl v3)], [.inr (.inr 33), .inl v3], g) rfl ?_
    refine ec 74 12 [.inr (.inr 33)] [.inl v3] rfl (ev_Hi_size g _ rfl) ?_
    show Ev 108 12 [some (.inr (.inr 50)), some (.inl c1), some (.inl v2), some (.inl v3)] [.inl (Hi_size g), .inl v3] g _ _
    by_cases hc : (Hi_size g) ≤ v3
    · rw [if_pos hc] at h
      refine es (41, [some (.inr (.inr 50)), some (.inl c1), some (.inl v2), some (.inl v3)], [], g) (congrArg some (if_pos hc)) ?_
      exact ev_le (L := [none, none, some (.inl v2), none]) (by simp [Lle]) (hK4_41 v2 g r g' h)
    · rw [if_neg hc] at h
      refine es (15, [some (.inr (.inr 50)), some (.inl c1), some (.inl v2), some (.inl v3)], [], g) (congrArg some (if_neg hc)) ?_
      refine ev_runs 2 (15, [some (.inr (.inr 50)), some (.inl c1), some (.inl v2), some (.inl v3)], [], g) (17, [some (.inr (.inr 50)), some (.inl c1), some (.inl v2), some (.inl v3)], [.inl v3, .inl c1], g) rfl ?_
      refine ec 64 20 [.inl c1, .inl v3] [] rfl (ev_Op_has c1 v3 g _ rfl) ?_
      show Ev 108 20 [some (.inr (.inr 50)), some (.inl c1), some (.inl v2), some (.inl v3)] [.inl (Op_has c1 v3)] g _ _
      by_cases hc : (Op_has c1 v3) = 0
      · rw [if_pos hc] at h
        refine es (35, [some (.inr (.inr 50)), some (.inl c1), some (.inl v2), some (.inl v3)], [], g) (congrArg some (if_pos hc)) ?_
        refine ev_runs 2 (35, [some (.inr (.inr 50)), some (.inl c1), some (.inl v2), some (.inl v3)], [], g) (4, [some (.inr (.inr 50)), some (.inl c1), some (.inl v2), some (.inl (wr (v3 + 1)))], [], g) rfl ?_
        exact ev_le (L := [some (.inr (.inr 50)), some (.inl c1), some (.inl v2), some (.inl (wr (v3 + 1)))]) (by simp [Lle]) (ih4 v2 (wr (v3 + 1)) g r g' h)
      · rw [if_neg hc] at h
        refine es (23, [some (.inr (.inr 50)), some (.inl c1), some (.inl v2), some (.inl v3)], [], g) (congrArg some (if_neg hc)) ?_
        refine ev_runs 3 (23, [some (.inr (.inr 50)), some (.inl c1), some (.inl v2), some (.inl v3)], [], g) (26, [some (.inr (.inr 50)), some (.inl c1), some (.inl v2), some (.inl v3)], [.inl c1, .inl v3, .inr (.inr 50)], g) rfl ?_
        obtain ⟨q1, hq, h⟩ := Option.bind_eq_some_iff.mp h
        refine ec 107 29 [.inr (.inr 50), .inl v3, .inl c1] [] rfl (ev_Lk_isFirst v3 c1 g q1.1 q1.2 hq) ?_
        show Ev 108 29 [some (.inr (.inr 50)), some (.inl c1), some (.inl v2), some (.inl v3)] [.inl q1.1] q1.2 _ _
        by_cases hc : q1.1 = 0
        · rw [if_pos hc] at h
          refine es (35, [some (.inr (.inr 50)), some (.inl c1), some (.inl v2), some (.inl v3)], [], q1.2) (congrArg some (if_pos hc)) ?_
          refine ev_runs 2 (35, [some (.inr (.inr 50)), some (.inl c1), some (.inl v2), some (.inl v3)], [], q1.2) (4, [some (.inr (.inr 50)), some (.inl c1), some (.inl v2), some (.inl (wr (v3 + 1)))], [], q1.2) rfl ?_
          exact ev_le (L := [some (.inr (.inr 50)), some (.inl c1), some (.inl v2), some (.inl (wr (v3 + 1)))]) (by simp [Lle]) (ih4 v2 (wr (v3 + 1)) q1.2 r g' h)
        · rw [if_neg hc] at h
          refine es (32, [some (.inr (.inr 50)), some (.inl c1), some (.inl v2), some (.inl v3)], [], q1.2) (congrArg some (if_neg hc)) ?_
          refine ev_runs 3 (32, [some (.inr (.inr 50)), some (.inl c1), some (.inl v2), some (.inl v3)], [], q1.2) (4, [some (.inr (.inr 50)), some (.inl c1), some (.inl (wr (v2 + 1))), some (.inl (wr (v3 + 1)))], [], q1.2) rfl ?_
          exact ev_le (L := [some (.inr (.inr 50)), some (.inl c1), some (.inl (wr (v2 + 1))), some (.inl (wr (v3 + 1)))]) (by simp [Lle]) (ih4 (wr (v2 + 1)) (wr (v3 + 1)) q1.2 r g' h)
set_option maxRecDepth 100000 in
set_option maxHeartbeats 4000000 in
theorem ev_Lk_unlike (a1 : Int) (g : Gx) (r : Int) (g' : Gx) (h : Lk_unlike a1 g = some (r, g')) : Ev 108 0 [some (.inr (.inr 50)), some (.inl a1), none, none] [] g (some (.inl r)) g' := by
  rw [Lk_unlike] at h
  refine ev_runs 4 (0, [some (.inr (.inr 50)), some (.inl a1), none, none], [], g) (4, [some (.inr (.inr 50)), some (.inl a1), some (.inl 0), some (.inl 0)], [], g) rfl ?_
  refine ev_le (L := [some (.inr (.inr 50)), some (.inl a1), some (.inl 0), some (.inl 0)]) (by simp [Lle]) ?_
  refine ev_Lk_unlike_l4 a1 _ ?_ fu 0 0 g r g' h
  · intro x2 g3 r g' h
    refine ev_runs 1 (41, [none, none, some (.inl x2), none], [], g3) (42, [none, none, some (.inl x2), none], [.inl x2], g3) rfl ?_
    cases h
    exact er rfl
def Op_looks (a1 : Int) (g : Gx) : Option (Int × Gx) :=
  if ¬ (Op_isTalker a1) = 0 then
    Option.bind (Op_hindrance 0 g) (fun q1 =>
    if q1.1 = 0 then
      Option.bind (Lk_load a1 q1.2) (fun g2 =>
      Option.bind (Lk_unlike (Hi_all g2) g2) (fun q3 =>
      some (q3.1, q3.2)))
    else
      some (q1.1, q1.2))
  else
    some ((-2), g)
set_option maxRecDepth 100000 in
set_option maxHeartbeats 4000000 in
theorem ev_Op_looks (a1 : Int) (g : Gx) (r : Int) (g' : Gx) (h : Op_looks a1 g = some (r, g')) : Ev 109 0 [some (.inr (.inr 0)), some (.inl a1), none] [] g (some (.inl r)) g' := by
  rw [Op_looks] at h
  refine ev_runs 1 (0, [some (.inr (.inr 0)), some (.inl a1), none], [], g) (1, [some (.inr (.inr 0)), some (.inl a1), none], [.inl a1], g) rfl ?_
  refine ec 91 4 [.inl a1] [] rfl (ev_Op_isTalker a1 g _ rfl) ?_
  show Ev 109 4 [some (.inr (.inr 0)), some (.inl a1), none] [.inl (Op_isTalker a1)] g _ _
  by_cases hc : ¬ (Op_isTalker a1) = 0
  · rw [if_pos hc] at h
    refine es (10, [some (.inr (.inr 0)), some (.inl a1), none], [], g) (congrArg some (if_pos hc)) ?_
    refine ev_runs 2 (10, [some (.inr (.inr 0)), some (.inl a1), none], [], g) (12, [some (.inr (.inr 0)), some (.inl a1), none], [.inl 0, .inr (.inr 0)], g) rfl ?_
    obtain ⟨q1, hq, h⟩ := Option.bind_eq_some_iff.mp h
    refine ec 75 15 [.inr (.inr 0), .inl 0] [] rfl (ev_Op_hindrance 0 g q1.1 q1.2 hq) ?_
    show Ev 109 15 [some (.inr (.inr 0)), some (.inl a1), none] [.inl q1.1] q1.2 _ _
    refine ev_runs 2 (15, [some (.inr (.inr 0)), some (.inl a1), none], [.inl q1.1], q1.2) (17, [some (.inr (.inr 0)), some (.inl a1), some (.inl q1.1)], [.inl q1.1], q1.2) rfl ?_
    by_cases hc : q1.1 = 0
    · rw [if_pos hc] at h
      refine es (22, [some (.inr (.inr 0)), some (.inl a1), some (.inl q1.1)], [], q1.2) (congrArg some (if_pos hc)) ?_
      refine ev_runs 3 (22, [some (.inr (.inr 0)), some (.inl a1), some (.inl q1.1)], [], q1.2) (27, [some (.inr (.inr 0)), some (.inl a1), some (.inl q1.1)], [.inl a1, .inr (.inr 50)], q1.2) rfl ?_
      obtain ⟨g2, hq, h⟩ := Option.bind_eq_some_iff.mp h
      refine ec 94 30 [.inr (.inr 50), .inl a1] [] rfl (ev_Lk_load a1 q1.2 g2 hq) ?_
      show Ev 109 30 [some (.inr (.inr 0)), some (.inl a1), some (.inl q1.1)] [] g2 _ _
      refine ev_runs 4 (30, [some (.inr (.inr 0)), some (.inl a1), some (.inl q1.1)], [], g2) (38, [some (.inr (.inr 0)), some (.inl a1), some (.inl q1.1)], [.inr (.inr 33), .inr (.inr 50)], g2) rfl ?_
      refine ec 104 41 [.inr (.inr 33)] [.inr (.inr 50)] rfl (ev_Hi_all g2 _ rfl) ?_
      show Ev 109 41 [some (.inr (.inr 0)), some (.inl a1), some (.inl q1.1)] [.inl (Hi_all g2), .inr (.inr 50)] g2 _ _
      obtain ⟨q3, hq, h⟩ := Option.bind_eq_some_iff.mp h
      refine ec 108 44 [.inr (.inr 50), .inl (Hi_all g2)] [] rfl (ev_Lk_unlike (Hi_all g2) g2 q3.1 q3.2 hq) ?_
      show Ev 109 44 [some (.inr (.inr 0)), some (.inl a1), some (.inl q1.1)] [.inl q3.1] q3.2 _ _
      cases h
      exact er rfl
    · rw [if_neg hc] at h
      refine es (20, [some (.inr (.inr 0)), some (.inl a1), some (.inl q1.1)], [], q1.2) (congrArg some (if_neg hc)) ?_
      refine ev_runs 1 (20, [some (.inr (.inr 0)), some (.inl a1), some (.inl q1.1)], [], q1.2) (21, [some (.inr (.inr 0)), some (.inl a1), some (.inl q1.1)], [.inl q1.1], q1.2) rfl ?_
      cases h
      exact er rfl
  · rw [if_neg hc] at h
    refine es (7, [some (.inr (.inr 0)), some (.inl a1), none], [], g) (congrArg some (if_neg hc)) ?_
    refine ev_runs 1 (7, [some (.inr (.inr 0)), some (.inl a1), none], [], g) (9, [some (.inr (.inr 0)), some (.inl a1), none], [.inl (-2)], g) rfl ?_
    cases h
    exact er rfl
def Md_allBits (g : Gx) : Int :=
  (wr ((jshl 1 (g 92 26)) - 1))
set_option maxRecDepth 100000 in
set_option maxHeartbeats 4000000 in
theorem ev_Md_allBits (g : Gx) (r : Int) (h : Md_allBits g = r) : Ev 110 0 [some (.inr (.inr 92))] [] g (some (.inl r)) g := by
  rw [Md_allBits] at h
  refine ev_runs 6 (0, [some (.inr (.inr 92))], [], g) (8, [some (.inr (.inr 92))], [.inl (wr ((jshl 1 (g 92 26)) - 1))], g) rfl ?_
  subst h
  exact er rfl
def Md_unlike_l3 (c1 : Int) (c2 : Int) (c3 : Int) (K3_40 : Int → Gx → Option (Int × Gx)) : Nat → Int → Gx → Option (Int × Gx)
  | 0, _, _ => none
  | n3 + 1, v4, g =>
    Option.bind (Md_lookAt c1 c2 v4 g) (fun q1 =>
    if q1.1 = (-1) then
      K3_40 v4 q1.2
    else
      Option.bind (Md_lookAt c1 c2 v4 q1.2) (fun q2 =>
      Option.bind (Md_lookAt c1 c3 v4 q2.2) (fun q3 =>
      if ¬ q2.1 = q3.1 then
        K3_40 v4 q3.2
      else
        Md_unlike_l3 c1 c2 c3 K3_40 n3 (wr (v4 + 1)) q3.2)))
def Md_unlike (a1 a2 a3 : Int) (g : Gx) : Option (Int × Gx) :=
  Md_unlike_l3 a1 a2 a3
    (fun x4 g5 =>
      Option.bind (Md_lookAt a1 a2 x4 g5) (fun q6 =>
      Option.bind (Md_lookAt a1 a3 x4 q6.2) (fun q7 =>
      if ¬ q6.1 = q7.1 then
        some (x4, q7.2)
      else
        some ((-1), q7.2))))
    fu 0 g
set_option maxRecDepth 100000 in
set_option maxHeartbeats 4000000 in
theorem ev_Md_unlike_l3 (c1 : Int) (c2 : Int) (c3 : Int) (K3_40 : Int → Gx → Option (Int × Gx)) (hK3_40 : ∀ (x4 : Int) (g : Gx) (r : Int) (g' : Gx), K3_40 x4 g = some (r, g') → Ev 111 40 [some (.inr (.inr 92)), some (.inl c1), some (.inl c2), some (.inl c3), some (.inl x4)] [] g (some (.inl r)) g') : ∀ (n3 : Nat) (v4 : Int) (g : Gx) (r : Int) (g' : Gx), Md_unlike_l3 c1 c2 c3 K3_40 n3 v4 g = some (r, g') → Ev 111 3 [some (.inr (.inr 92)), some (.inl c1), some (.inl c2), some (.inl c3), some (.inl v4)] [] g (some (.inl r)) g' := by
  intro n3
  induction n3 with
  | zero => intro v4 g r g' h; cases h
  | succ n3 ih3 =>
    intro v4 g r g' h
    rw [Md_unlike_l3] at h
    refine ev_runs 4 (3, [some (.inr (.inr 92)), some (.inl c1), some (.inl c2), some (.inl c3), some (.inl v4)], [], g) (8, [some (.inr (.inr 92)), some (.inl c1), some (.inl c2), some (.inl c3), some (.inl v4)], [.inl v4, .inl c2, .inl c1, .inr (.inr 92)], g) rfl ?_
    obtain ⟨q1, hq, h⟩ := Option.bind_eq_some_iff.mp h
    refine ec 102 11 [.inr (.inr 92), .inl c1, .inl c2, .inl v4] [] rfl (ev_Md_lookAt c1 c2 v4 g q1.1 q1.2 hq) ?_
    show Ev 111 11 [some (.inr (.inr 92)), some (.inl c1), some (.inl c2), some (.inl c3), some (.inl v4)] [.inl q1.1] q1.2 _ _
    refine ev_runs 1 (11, [some (.inr (.inr 92)), some (.inl c1), some (.inl c2), some (.inl c3), some (.inl v4)], [.inl q1.1], q1.2) (12, [some (.inr (.inr 92)), some (.inl c1), some (.inl c2), some (.inl c3), some (.inl v4)], [.inl (-1), .inl q1.1], q1.2) rfl ?_
    by_cases hc : q1.1 = (-1)
    · rw [if_pos hc] at h
      refine es (40, [some (.inr (.inr 92)), some (.inl c1), some (.inl c2), some (.inl c3), some (.inl v4)], [], q1.2) (congrArg some (if_pos hc)) ?_
      exact ev_le (L := [some (.inr (.inr 92)), some (.inl c1), some (.inl c2), some (.inl c3), some (.inl v4)]) (by simp [Lle]) (hK3_40 v4 q1.2 r g' h)
    · rw [if_neg hc] at h
      refine es (15, [some (.inr (.inr 92)), some (.inl c1), some (.inl c2), some (.inl c3), some (.inl v4)], [], q1.2) (congrArg some (if_neg hc)) ?_
      refine ev_runs 4 (15, [some (.inr (.inr 92)), some (.inl c1), some (.inl c2), some (.inl c3), some (.inl v4)], [], q1.2) (20, [some (.inr (.inr 92)), some (.inl c1), some (.inl c2), some (.inl c3), some (.inl v4)], [.inl v4, .inl c2, .inl c1, .inr (.inr 92)], q1.2) rfl ?_
      obtain ⟨q2, hq, h⟩ := Option.bind_eq_some_iff.mp h
      refine ec 102 23 [.inr (.inr 92), .inl c1, .inl c2, .inl v4] [] rfl (ev_Md_lookAt c1 c2 v4 q1.2 q2.1 q2.2 hq) ?_
      show Ev 111 23 [some (.inr (.inr 92)), some (.inl c1), some (.inl c2), some (.inl c3), some (.inl v4)] [.inl q2.1] q2.2 _ _
      refine ev_runs 4 (23, [some (.inr (.inr 92)), some (.inl c1), some (.inl c2), some (.inl c3), some (.inl v4)], [.inl q2.1], q2.2) (28, [some (.inr (.inr 92)), some (.inl c1), some (.inl c2), some (.inl c3), some (.inl v4)], [.inl v4, .inl c3, .inl c1, .inr (.inr 92), .inl q2.1], q2.2) rfl ?_
      obtain ⟨q3, hq, h⟩ := Option.bind_eq_some_iff.mp h
      refine ec 102 31 [.inr (.inr 92), .inl c1, .inl c3, .inl v4] [.inl q2.1] rfl (ev_Md_lookAt c1 c3 v4 q2.2 q3.1 q3.2 hq) ?_
      show Ev 111 31 [some (.inr (.inr 92)), some (.inl c1), some (.inl c2), some (.inl c3), some (.inl v4)] [.inl q3.1, .inl q2.1] q3.2 _ _
      by_cases hc : ¬ q2.1 = q3.1
      · rw [if_pos hc] at h
        refine es (40, [some (.inr (.inr 92)), some (.inl c1), some (.inl c2), some (.inl c3), some (.inl v4)], [], q3.2) (congrArg some (if_pos hc)) ?_
        exact ev_le (L := [some (.inr (.inr 92)), some (.inl c1), some (.inl c2), some (.inl c3), some (.inl v4)]) (by simp [Lle]) (hK3_40 v4 q3.2 r g' h)
      · rw [if_neg hc] at h
        refine es (34, [some (.inr (.inr 92)), some (.inl c1), some (.inl c2), some (.inl c3), some (.inl v4)], [], q3.2) (congrArg some (if_neg hc)) ?_
        refine ev_runs 2 (34, [some (.inr (.inr 92)), some (.inl c1), some (.inl c2), some (.inl c3), some (.inl v4)], [], q3.2) (3, [some (.inr (.inr 92)), some (.inl c1), some (.inl c2), some (.inl c3), some (.inl (wr (v4 + 1)))], [], q3.2) rfl ?_
        exact ev_le (L := [some (.inr (.inr 92)), some (.inl c1), some (.inl c2), some (.inl c3), some (.inl (wr (v4 + 1)))]) (by simp [Lle]) (ih3 (wr (v4 + 1)) q3.2 r g' h)
set_option maxRecDepth 100000 in
set_option maxHeartbeats 4000000 in
theorem ev_Md_unlike (a1 a2 a3 : Int) (g : Gx) (r : Int) (g' : Gx) (h : Md_unlike a1 a2 a3 g = some (r, g')) : Ev 111 0 [some (.inr (.inr 92)), some (.inl a1), some (.inl a2), some (.inl a3), none] [] g (some (.inl r)) g' := by
  rw [Md_unlike] at h
  refine ev_runs 2 (0, [some (.inr (.inr 92)), some (.inl a1), some (.inl a2), some (.inl a3), none], [], g) (3, [some (.inr (.inr 92)), some (.inl a1), some (.inl a2), some (.inl a3), some (.inl 0)], [], g) rfl ?_
  refine ev_le (L := [some (.inr (.inr 92)), some (.inl a1), some (.inl a2), some (.inl a3), some (.inl 0)]) (by simp [Lle]) ?_
  refine ev_Md_unlike_l3 a1 a2 a3 _ ?_ fu 0 g r g' h
  · intro x4 g5 r g' h
    refine ev_runs 4 (40, [some (.inr (.inr 92)), some (.inl a1), some (.inl a2), some (.inl a3), some (.inl x4)], [], g5) (45, [some (.inr (.inr 92)), some (.inl a1), some (.inl a2), some (.inl a3), some (.inl x4)], [.inl x4, .inl a2, .inl a1, .inr (.inr 92)], g5) rfl ?_
    obtain ⟨q6, hq, h⟩ := Option.bind_eq_some_iff.mp h
    refine ec 102 48 [.inr (.inr 92), .inl a1, .inl a2, .inl x4] [] rfl (ev_Md_lookAt a1 a2 x4 g5 q6.1 q6.2 hq) ?_
    show Ev 111 48 [some (.inr (.inr 92)), some (.inl a1), some (.inl a2), some (.inl a3), some (.inl x4)] [.inl q6.1] q6.2 _ _
    refine ev_runs 4 (48, [some (.inr (.inr 92)), some (.inl a1), some (.inl a2), some (.inl a3), some (.inl x4)], [.inl q6.1], q6.2) (53, [some (.inr (.inr 92)), some (.inl a1), some (.inl a2), some (.inl a3), some (.inl x4)], [.inl x4, .inl a3, .inl a1, .inr (.inr 92), .inl q6.1], q6.2) rfl ?_
    obtain ⟨q7, hq, h⟩ := Option.bind_eq_some_iff.mp h
    refine ec 102 56 [.inr (.inr 92), .inl a1, .inl a3, .inl x4] [.inl q6.1] rfl (ev_Md_lookAt a1 a3 x4 q6.2 q7.1 q7.2 hq) ?_
    show Ev 111 56 [some (.inr (.inr 92)), some (.inl a1), some (.inl a2), some (.inl a3), some (.inl x4)] [.inl q7.1, .inl q6.1] q7.2 _ _
    by_cases hc : ¬ q6.1 = q7.1
    · rw [if_pos hc] at h
      refine es (63, [some (.inr (.inr 92)), some (.inl a1), some (.inl a2), some (.inl a3), some (.inl x4)], [], q7.2) (congrArg some (if_pos hc)) ?_
      refine ev_runs 1 (63, [some (.inr (.inr 92)), some (.inl a1), some (.inl a2), some (.inl a3), some (.inl x4)], [], q7.2) (65, [some (.inr (.inr 92)), some (.inl a1), some (.inl a2), some (.inl a3), some (.inl x4)], [.inl x4], q7.2) rfl ?_
      cases h
      exact er rfl
    · rw [if_neg hc] at h
      refine es (59, [some (.inr (.inr 92)), some (.inl a1), some (.inl a2), some (.inl a3), some (.inl x4)], [], q7.2) (congrArg some (if_neg hc)) ?_
      refine ev_runs 2 (59, [some (.inr (.inr 92)), some (.inl a1), some (.inl a2), some (.inl a3), some (.inl x4)], [], q7.2) (65, [some (.inr (.inr 92)), some (.inl a1), some (.inl a2), some (.inl a3), some (.inl x4)], [.inl (-1)], q7.2) rfl ?_
      cases h
      exact er rfl
def Md_looksOf_l34 (c1 : Int) (c2 : Int) (c3 : Int) (c4 : Int) (K34_81 : Int → Gx → Option (Int × Gx)) : Nat → Int → Int → Gx → Option (Int × Gx)
  | 0, _, _, _ => none
  | n34 + 1, v5, v6, g =>
    if c4 ≤ v6 then
      K34_81 v5 g
    else
      if v5 = 0 then
        Md_looksOf_l34 c1 c2 c3 c4 K34_81 n34 0 (wr (v6 + 1)) g
      else
        if (jand (jshr c2 v6) 1) = 0 then
          Md_looksOf_l34 c1 c2 c3 c4 K34_81 n34 1 (wr (v6 + 1)) g
        else
          Option.bind (Md_unlike c1 v6 c4 g) (fun q1 =>
          if q1.1 = (-1) then
            Md_looksOf_l34 c1 c2 c3 c4 K34_81 n34 0 (wr (v6 + 1)) q1.2
          else
            Md_looksOf_l34 c1 c2 c3 c4 K34_81 n34 1 (wr (v6 + 1)) q1.2)
def Md_looksOf_l5 (c1 : Int) (c2 : Int) (K5_100 : Int → Gx → Option (Int × Gx)) : Nat → Int → Int → Gx → Option (Int × Gx)
  | 0, _, _, _ => none
  | n5 + 1, v3, v4, g =>
    if (g 92 26) ≤ v4 then
      K5_100 v3 g
    else
      if ¬ (jand (jshr c2 v4) 1) = 1 then
        Md_looksOf_l34 c1 c2 v3 v4
          (fun x2 g3 =>
            if x2 = 0 then
              Md_looksOf_l5 c1 c2 K5_100 n5 (wr (v3 + 0)) (wr (v4 + 1)) g3
            else
              Md_looksOf_l5 c1 c2 K5_100 n5 (wr (v3 + 1)) (wr (v4 + 1)) g3)
          fu 0 0 g
      else
        Md_looksOf_l34 c1 c2 v3 v4
          (fun x4 g5 =>
            if x4 = 0 then
              Md_looksOf_l5 c1 c2 K5_100 n5 (wr (v3 + 0)) (wr (v4 + 1)) g5
            else
              Md_looksOf_l5 c1 c2 K5_100 n5 (wr (v3 + 1)) (wr (v4 + 1)) g5)
          fu 1 0 g
def Md_looksOf (a1 a2 : Int) (g : Gx) : Option (Int × Gx) :=
  Md_looksOf_l5 a1 a2
    (fun x6 g7 =>
      some (x6, g7))
    fu 0 0 g
set_option maxRecDepth 100000 in
set_option maxHeartbeats 4000000 in
theorem ev_Md_looksOf_l34 (c1 : Int) (c2 : Int) (c3 : Int) (c4 : Int) (K34_81 : Int → Gx → Option (Int × Gx)) (hK34_81 : ∀ (x5 : Int) (g : Gx) (r : Int) (g' : Gx), K34_81 x5 g = some (r, g') → Ev 112 81 [some (.inr (.inr 92)), some (.inl c1), some (.inl c2), some (.inl c3), some (.inl c4), some (.inl x5), none] [] g (some (.inl r)) g') : ∀ (n34 : Nat) (v5 v6 : Int) (g : Gx) (r : Int) (g' : Gx), Md_looksOf_l34 c1 c2 c3 c4 K34_81 n34 v5 v6 g = some (r, g') → Ev 112 34 [some (.inr (.inr 92)), some (.inl c1), some (.inl c2), some (.inl c3), some (.inl c4), some (.inl v5), some (.inl v6)] [] g (some (.inl r)) g' := by
  intro n34
  induction n34 with
  | zero => intro v5 v6 g r g' h; cases h
  | succ n34 ih34 =>
    intro v5 v6 g r g' h
    rw [Md_looksOf_l34] at h
    refine ev_runs 2 (34, [some (.inr (.inr 92)), some (.inl c1), some (.inl c2), some (.inl c3), some (.inl c4), some (.inl v5), some (.inl v6)], [], g) (38, [some (.inr (.inr 92)), some (.inl c1), some (.inl c2), some (.inl c3), some (.inl c4), some (.inl v5), some (.inl v6)], [.inl c4, .inl v6], g) rfl ?_
    by_cases hc : c4 ≤ v6
    · rw [if_pos hc] at h
      refine es (81, [some (.inr (.inr 92)), some (.inl c1), some (.inl c2), some (.inl c3), some (.inl c4), some (.inl v5), some (.inl v6)], [], g) (congrArg some (if_pos hc)) ?_
      exact ev_le (L := [some (.inr (.inr 92)), some (.inl c1), some (.inl c2), some (.inl c3), some (.inl c4), some (.inl v5), none]) (by simp [Lle]) (hK34_81 v5 g r g' h)
    · rw [if_neg hc] at h
      refine es (41, [some (.inr (.inr 92)), some (.inl c1), some (.inl c2), some (.inl c3), some (.inl c4), some (.inl v5), some (.inl v6)], [], g) (congrArg some (if_neg hc)) ?_
      refine ev_runs 1 (41, [some (.inr (.inr 92)), some (.inl c1), some (.inl c2), some (.inl c3), some (.inl c4), some (.inl v5), some (.inl v6)], [], g) (43, [some (.inr (.inr 92)), some (.inl c1), some (.inl c2), some (.inl c3), some (.inl c4), some (.inl v5), some (.inl v6)], [.inl v5], g) rfl ?_
      by_cases hc : v5 = 0
      · rw [if_pos hc] at h
        refine es (72, [some (.inr (.inr 92)), some (.inl c1), some (.inl c2), some (.inl c3), some (.inl c4), some (.inl v5), some (.inl v6)], [], g) (congrArg some (if_pos hc)) ?_
        refine ev_runs 4 (72, [some (.inr (.inr 92)), some (.inl c1), some (.inl c2), some (.inl c3), some (.inl c4), some (.inl v5), some (.inl v6)], [], g) (34, [some (.inr (.inr 92)), some (.inl c1), some (.inl c2), some (.inl c3), some (.inl c4), some (.inl 0), some (.inl (wr (v6 + 1)))], [], g) rfl ?_
        exact ev_le (L := [some (.inr (.inr 92)), some (.inl c1), some (.inl c2), some (.inl c3), some (.inl c4), some (.inl 0), some (.inl (wr (v6 + 1)))]) (by simp [Lle]) (ih34 0 (wr (v6 + 1)) g r g' h)
      · rw [if_neg hc] at h
        refine es (46, [some (.inr (.inr 92)), some (.inl c1), some (.inl c2), some (.inl c3), some (.inl c4), some (.inl v5), some (.inl v6)], [], g) (congrArg some (if_neg hc)) ?_
        refine ev_runs 5 (46, [some (.inr (.inr 92)), some (.inl c1), some (.inl c2), some (.inl c3), some (.inl c4), some (.inl v5), some (.inl v6)], [], g) (52, [some (.inr (.inr 92)), some (.inl c1), some (.inl c2), some (.inl c3), some (.inl c4), some (.inl v5), some (.inl v6)], [.inl (jand (jshr c2 v6) 1)], g) rfl ?_
        by_cases hc : (jand (jshr c2 v6) 1) = 0
        · rw [if_pos hc] at h
          refine es (68, [some (.inr (.inr 92)), some (.inl c1), some (.inl c2), some (.inl c3), some (.inl c4), some (.inl v5), some (.inl v6)], [], g) (congrArg some (if_pos hc)) ?_
          refine ev_runs 5 (68, [some (.inr (.inr 92)), some (.inl c1), some (.inl c2), some (.inl c3), some (.inl c4), some (.inl v5), some (.inl v6)], [], g) (34, [some (.inr (.inr 92)), some (.inl c1), some (.inl c2), some (.inl c3), some (.inl c4), some (.inl 1), some (.inl (wr (v6 + 1)))], [], g) rfl ?_
          exact ev_le (L := [some (.inr (.inr 92)), some (.inl c1), some (.inl c2), some (.inl c3), some (.inl c4), some (.inl 1), some (.inl (wr (v6 + 1)))]) (by simp [Lle]) (ih34 1 (wr (v6 + 1)) g r g' h)
        · rw [if_neg hc] at h
          refine es (55, [some (.inr (.inr 92)), some (.inl c1), some (.inl c2), some (.inl c3), some (.inl c4), some (.inl v5), some (.inl v6)], [], g) (congrArg some (if_neg hc)) ?_
          refine ev_runs 4 (55, [some (.inr (.inr 92)), some (.inl c1), some (.inl c2), some (.inl c3), some (.inl c4), some (.inl v5), some (.inl v6)], [], g) (61, [some (.inr (.inr 92)), some (.inl c1), some (.inl c2), some (.inl c3), some (.inl c4), some (.inl v5), some (.inl v6)], [.inl c4, .inl v6, .inl c1, .inr (.inr 92)], g) rfl ?_
          obtain ⟨q1, hq, h⟩ := Option.bind_eq_some_iff.mp h
          refine ec 111 64 [.inr (.inr 92), .inl c1, .inl v6, .inl c4] [] rfl (ev_Md_unlike c1 v6 c4 g q1.1 q1.2 hq) ?_
          show Ev 112 64 [some (.inr (.inr 92)), some (.inl c1), some (.inl c2), some (.inl c3), some (.inl c4), some (.inl v5), some (.inl v6)] [.inl q1.1] q1.2 _ _
          refine ev_runs 1 (64, [some (.inr (.inr 92)), some (.inl c1), some (.inl c2), some (.inl c3), some (.inl c4), some (.inl v5), some (.inl v6)], [.inl q1.1], q1.2) (65, [some (.inr (.inr 92)), some (.inl c1), some (.inl c2), some (.inl c3), some (.inl c4), some (.inl v5), some (.inl v6)], [.inl (-1), .inl q1.1], q1.2) rfl ?_
          by_cases hc : q1.1 = (-1)
          · rw [if_pos hc] at h
            refine es (72, [some (.inr (.inr 92)), some (.inl c1), some (.inl c2), some (.inl c3), some (.inl c4), some (.inl v5), some (.inl v6)], [], q1.2) (congrArg some (if_pos hc)) ?_
            refine ev_runs 4 (72, [some (.inr (.inr 92)), some (.inl c1), some (.inl c2), some (.inl c3), some (.inl c4), some (.inl v5), some (.inl v6)], [], q1.2) (34, [some (.inr (.inr 92)), some (.inl c1), some (.inl c2), some (.inl c3), some (.inl c4), some (.inl 0), some (.inl (wr (v6 + 1)))], [], q1.2) rfl ?_
            exact ev_le (L := [some (.inr (.inr 92)), some (.inl c1), some (.inl c2), some (.inl c3), some (.inl c4), some (.inl 0), some (.inl (wr (v6 + 1)))]) (by simp [Lle]) (ih34 0 (wr (v6 + 1)) q1.2 r g' h)
          · rw [if_neg hc] at h
            refine es (68, [some (.inr (.inr 92)), some (.inl c1), some (.inl c2), some (.inl c3), some (.inl c4), some (.inl v5), some (.inl v6)], [], q1.2) (congrArg some (if_neg hc)) ?_
            refine ev_runs 5 (68, [some (.inr (.inr 92)), some (.inl c1), some (.inl c2), some (.inl c3), some (.inl c4), some (.inl v5), some (.inl v6)], [], q1.2) (34, [some (.inr (.inr 92)), some (.inl c1), some (.inl c2), some (.inl c3), some (.inl c4), some (.inl 1), some (.inl (wr (v6 + 1)))], [], q1.2) rfl ?_
            exact ev_le (L := [some (.inr (.inr 92)), some (.inl c1), some (.inl c2), some (.inl c3), some (.inl c4), some (.inl 1), some (.inl (wr (v6 + 1)))]) (by simp [Lle]) (ih34 1 (wr (v6 + 1)) q1.2 r g' h)
set_option maxRecDepth 100000 in
set_option maxHeartbeats 4000000 in
theorem ev_Md_looksOf_l5 (c1 : Int) (c2 : Int) (K5_100 : Int → Gx → Option (Int × Gx)) (hK5_100 : ∀ (x3 : Int) (g : Gx) (r : Int) (g' : Gx), K5_100 x3 g = some (r, g') → Ev 112 100 [none, none, none, some (.inl x3), none, none, none] [] g (some (.inl r)) g') : ∀ (n5 : Nat) (v3 v4 : Int) (g : Gx) (r : Int) (g' : Gx), Md_looksOf_l5 c1 c2 K5_100 n5 v3 v4 g = some (r, g') → Ev 112 5 [some (.inr (.inr 92)), some (.inl c1), some (.inl c2), some (.inl v3), some (.inl v4), none, none] [] g (some (.inl r)) g' := by
  intro n5
  induction n5 with
  | zero => intro v3 v4 g r g' h; cases h
  | succ n5 ih5 =>
    intro v3 v4 g r g' h
    rw [Md_looksOf_l5] at h
    refine ev_runs 3 (5, [some (.inr (.inr 92)), some (.inl c1), some (.inl c2), some (.inl v3), some (.inl v4), none, none], [], g) (11, [some (.inr (.inr 92)), some (.inl c1), some (.inl c2), some (.inl v3), some (.inl v4), none, none], [.inl (g 92 26), .inl v4], g) rfl ?_
    by_cases hc : (g 92 26) ≤ v4
    · rw [if_pos hc] at h
      refine es (100, [some (.inr (.inr 92)), some (.inl c1), some (.inl c2), some (.inl v3), some (.inl v4), none, none], [], g) (congrArg some (if_pos hc)) ?_
      exact ev_le (L := [none, none, none, some (.inl v3), none, none, none]) (by simp [Lle]) (hK5_100 v3 g r g' h)
    · rw [if_neg hc] at h
      refine es (14, [some (.inr (.inr 92)), some (.inl c1), some (.inl c2), some (.inl v3), some (.inl v4), none, none], [], g) (congrArg some (if_neg hc)) ?_
      refine ev_runs 6 (14, [some (.inr (.inr 92)), some (.inl c1), some (.inl c2), some (.inl v3), some (.inl v4), none, none], [], g) (21, [some (.inr (.inr 92)), some (.inl c1), some (.inl c2), some (.inl v3), some (.inl v4), none, none], [.inl 1, .inl (jand (jshr c2 v4) 1)], g) rfl ?_
      by_cases hc : ¬ (jand (jshr c2 v4) 1) = 1
      · rw [if_pos hc] at h
        refine es (28, [some (.inr (.inr 92)), some (.inl c1), some (.inl c2), some (.inl v3), some (.inl v4), none, none], [], g) (congrArg some (if_pos hc)) ?_
        refine ev_runs 4 (28, [some (.inr (.inr 92)), some (.inl c1), some (.inl c2), some (.inl v3), some (.inl v4), none, none], [], g) (34, [some (.inr (.inr 92)), some (.inl c1), some (.inl c2), some (.inl v3), some (.inl v4), some (.inl 0), some (.inl 0)], [], g) rfl ?_
        refine ev_le (L := [some (.inr (.inr 92)), some (.inl c1), some (.inl c2), some (.inl v3), some (.inl v4), some (.inl 0), some (.inl 0)]) (by simp [Lle]) ?_
        refine ev_Md_looksOf_l34 c1 c2 v3 v4 _ ?_ fu 0 0 g r g' h
        · intro x2 g3 r g' h
          refine ev_runs 2 (81, [some (.inr (.inr 92)), some (.inl c1), some (.inl c2), some (.inl v3), some (.inl v4), some (.inl x2), none], [], g3) (84, [some (.inr (.inr 92)), some (.inl c1), some (.inl c2), some (.inl v3), some (.inl v4), some (.inl x2), none], [.inl x2, .inl v3], g3) rfl ?_
          by_cases hc : x2 = 0
          · rw [if_pos hc] at h
            refine es (91, [some (.inr (.inr 92)), some (.inl c1), some (.inl c2), some (.inl v3), some (.inl v4), some (.inl x2), none], [.inl v3], g3) (congrArg some (if_pos hc)) ?_
            refine ev_runs 5 (91, [some (.inr (.inr 92)), some (.inl c1), some (.inl c2), some (.inl v3), some (.inl v4), some (.inl x2), none], [.inl v3], g3) (5, [some (.inr (.inr 92)), some (.inl c1), some (.inl c2), some (.inl (wr (v3 + 0))), some (.inl (wr (v4 + 1))), some (.inl x2), none], [], g3) rfl ?_
            exact ev_le (L := [some (.inr (.inr 92)), some (.inl c1), some (.inl c2), some (.inl (wr (v3 + 0))), some (.inl (wr (v4 + 1))), none, none]) (by simp [Lle]) (ih5 (wr (v3 + 0)) (wr (v4 + 1)) g3 r g' h)
          · rw [if_neg hc] at h
            refine es (87, [some (.inr (.inr 92)), some (.inl c1), some (.inl c2), some (.inl v3), some (.inl v4), some (.inl x2), none], [.inl v3], g3) (congrArg some (if_neg hc)) ?_
            refine ev_runs 6 (87, [some (.inr (.inr 92)), some (.inl c1), some (.inl c2), some (.inl v3), some (.inl v4), some (.inl x2), none], [.inl v3], g3) (5, [some (.inr (.inr 92)), some (.inl c1), some (.inl c2), some (.inl (wr (v3 + 1))), some (.inl (wr (v4 + 1))), some (.inl x2), none], [], g3) rfl ?_
            exact ev_le (L := [some (.inr (.inr 92)), some (.inl c1), some (.inl c2), some (.inl (wr (v3 + 1))), some (.inl (wr (v4 + 1))), none, none]) (by simp [Lle]) (ih5 (wr (v3 + 1)) (wr (v4 + 1)) g3 r g' h)
      · rw [if_neg hc] at h
        refine es (24, [some (.inr (.inr 92)), some (.inl c1), some (.inl c2), some (.inl v3), some (.inl v4), none, none], [], g) (congrArg some (if_neg hc)) ?_
        refine ev_runs 5 (24, [some (.inr (.inr 92)), some (.inl c1), some (.inl c2), some (.inl v3), some (.inl v4), none, none], [], g) (34, [some (.inr (.inr 92)), some (.inl c1), some (.inl c2), some (.inl v3), some (.inl v4), some (.inl 1), some (.inl 0)], [], g) rfl ?_
        refine ev_le (L := [some (.inr (.inr 92)), some (.inl c1), some (.inl c2), some (.inl v3), some (.inl v4), some (.inl 1), some (.inl 0)]) (by simp [Lle]) ?_
        refine ev_Md_looksOf_l34 c1 c2 v3 v4 _ ?_ fu 1 0 g r g' h
        · intro x4 g5 r g' h
          refine ev_runs 2 (81, [some (.inr (.inr 92)), some (.inl c1), some (.inl c2), some (.inl v3), some (.inl v4), some (.inl x4), none], [], g5) (84, [some (.inr (.inr 92)), some (.inl c1), some (.inl c2), some (.inl v3), some (.inl v4), some (.inl x4), none], [.inl x4, .inl v3], g5) rfl ?_
          by_cases hc : x4 = 0
          · rw [if_pos hc] at h
            refine es (91, [some (.inr (.inr 92)), some (.inl c1), some (.inl c2), some (.inl v3), some (.inl v4), some (.inl x4), none], [.inl v3], g5) (congrArg some (if_pos hc)) ?_
            refine ev_runs 5 (91, [some (.inr (.inr 92)), some (.inl c1), some (.inl c2), some (.inl v3), some (.inl v4), some (.inl x4), none], [.inl v3], g5) (5, [some (.inr (.inr 92)), some (.inl c1), some (.inl c2), some (.inl (wr (v3 + 0))), some (.inl (wr (v4 + 1))), some (.inl x4), none], [], g5) rfl ?_
            exact ev_le (L := [some (.inr (.inr 92)), some (.inl c1), some (.inl c2), some (.inl (wr (v3 + 0))), some (.inl (wr (v4 + 1))), none, none]) (by simp [Lle]) (ih5 (wr (v3 + 0)) (wr (v4 + 1)) g5 r g' h)
          · rw [if_neg hc] at h
            refine es (87, [some (.inr (.inr 92)), some (.inl c1), some (.inl c2), some (.inl v3), some (.inl v4), some (.inl x4), none], [.inl v3], g5) (congrArg some (if_neg hc)) ?_
            refine ev_runs 6 (87, [some (.inr (.inr 92)), some (.inl c1), some (.inl c2), some (.inl v3), some (.inl v4), some (.inl x4), none], [.inl v3], g5) (5, [some (.inr (.inr 92)), some (.inl c1), some (.inl c2), some (.inl (wr (v3 + 1))), some (.inl (wr (v4 + 1))), some (.inl x4), none], [], g5) rfl ?_
            exact ev_le (L := [some (.inr (.inr 92)), some (.inl c1), some (.inl c2), some (.inl (wr (v3 + 1))), some (.inl (wr (v4 + 1))), none, none]) (by simp [Lle]) (ih5 (wr (v3 + 1)) (wr (v4 + 1)) g5 r g' h)
set_option maxRecDepth 100000 in
set_option maxHeartbeats 4000000 in
theorem ev_Md_looksOf (a1 a2 : Int) (g : Gx) (r : Int) (g' : Gx) (h : Md_looksOf a1 a2 g = some (r, g')) : Ev 112 0 [some (.inr (.inr 92)), some (.inl a1), some (.inl a2), none, none, none, none] [] g (some (.inl r)) g' := by
  rw [Md_looksOf] at h
  refine ev_runs 4 (0, [some (.inr (.inr 92)), some (.inl a1), some (.inl a2), none, none, none, none], [], g) (5, [some (.inr (.inr 92)), some (.inl a1), some (.inl a2), some (.inl 0), some (.inl 0), none, none], [], g) rfl ?_
  refine ev_le (L := [some (.inr (.inr 92)), some (.inl a1), some (.inl a2), some (.inl 0), some (.inl 0), none, none]) (by simp [Lle]) ?_
  refine ev_Md_looksOf_l5 a1 a2 _ ?_ fu 0 0 g r g' h
  · intro x6 g7 r g' h
    refine ev_runs 1 (100, [none, none, none, some (.inl x6), none, none, none], [], g7) (101, [none, none, none, some (.inl x6), none, none, none], [.inl x6], g7) rfl ?_
    cases h
    exact er rfl
def Md_looks (a1 : Int) (g : Gx) : Option (Int × Gx) :=
  if ¬ (Md_isOne a1) = 0 then
    Option.bind (Md_without g) (fun q1 =>
    if q1.1 = 0 then
      Option.bind (Md_findLooks q1.2) (fun g2 =>
      Option.bind (Md_looksOf a1 (Md_allBits g2) g2) (fun q3 =>
      some (q3.1, q3.2)))
    else
      some (q1.1, q1.2))
  else
    some ((-2), g)
set_option maxRecDepth 100000 in
set_option maxHeartbeats 4000000 in
theorem ev_Md_looks (a1 : Int) (g : Gx) (r : Int) (g' : Gx) (h : Md_looks a1 g = some (r, g')) : Ev 113 0 [some (.inr (.inr 92)), some (.inl a1), none] [] g (some (.inl r)) g' := by
  rw [Md_looks] at h
  refine ev_runs 1 (0, [some (.inr (.inr 92)), some (.inl a1), none], [], g) (1, [some (.inr (.inr 92)), some (.inl a1), none], [.inl a1], g) rfl ?_
  refine ec 98 4 [.inl a1] [] rfl (ev_Md_isOne a1 g _ rfl) ?_
  show Ev 113 4 [some (.inr (.inr 92)), some (.inl a1), none] [.inl (Md_isOne a1)] g _ _
  by_cases hc : ¬ (Md_isOne a1) = 0
  · rw [if_pos hc] at h
    refine es (10, [some (.inr (.inr 92)), some (.inl a1), none], [], g) (congrArg some (if_pos hc)) ?_
    refine ev_runs 1 (10, [some (.inr (.inr 92)), some (.inl a1), none], [], g) (11, [some (.inr (.inr 92)), some (.inl a1), none], [.inr (.inr 92)], g) rfl ?_
    obtain ⟨q1, hq, h⟩ := Option.bind_eq_some_iff.mp h
    refine ec 81 14 [.inr (.inr 92)] [] rfl (ev_Md_without g q1.1 q1.2 hq) ?_
    show Ev 113 14 [some (.inr (.inr 92)), some (.inl a1), none] [.inl q1.1] q1.2 _ _
    refine ev_runs 2 (14, [some (.inr (.inr 92)), some (.inl a1), none], [.inl q1.1], q1.2) (16, [some (.inr (.inr 92)), some (.inl a1), some (.inl q1.1)], [.inl q1.1], q1.2) rfl ?_
    by_cases hc : q1.1 = 0
    · rw [if_pos hc] at h
      refine es (21, [some (.inr (.inr 92)), some (.inl a1), some (.inl q1.1)], [], q1.2) (congrArg some (if_pos hc)) ?_
      refine ev_runs 1 (21, [some (.inr (.inr 92)), some (.inl a1), some (.inl q1.1)], [], q1.2) (22, [some (.inr (.inr 92)), some (.inl a1), some (.inl q1.1)], [.inr (.inr 92)], q1.2) rfl ?_
      obtain ⟨g2, hq, h⟩ := Option.bind_eq_some_iff.mp h
      refine ec 101 25 [.inr (.inr 92)] [] rfl (ev_Md_findLooks q1.2 g2 hq) ?_
      show Ev 113 25 [some (.inr (.inr 92)), some (.inl a1), some (.inl q1.1)] [] g2 _ _
      refine ev_runs 3 (25, [some (.inr (.inr 92)), some (.inl a1), some (.inl q1.1)], [], g2) (28, [some (.inr (.inr 92)), some (.inl a1), some (.inl q1.1)], [.inr (.inr 92), .inl a1, .inr (.inr 92)], g2) rfl ?_
      refine ec 110 31 [.inr (.inr 92)] [.inl a1, .inr (.inr 92)] rfl (ev_Md_allBits g2 _ rfl) ?_
      show Ev 113 31 [some (.inr (.inr 92)), some (.inl a1), some (.inl q1.1)] [.inl (Md_allBits g2), .inl a1, .inr (.inr 92)] g2 _ _
      obtain ⟨q3, hq, h⟩ := Option.bind_eq_some_iff.mp h
      refine ec 112 34 [.inr (.inr 92), .inl a1, .inl (Md_allBits g2)] [] rfl (ev_Md_looksOf a1 (Md_allBits g2) g2 q3.1 q3.2 hq) ?_
      show Ev 113 34 [some (.inr (.inr 92)), some (.inl a1), some (.inl q1.1)] [.inl q3.1] q3.2 _ _
      cases h
      exact er rfl
    · rw [if_neg hc] at h
      refine es (19, [some (.inr (.inr 92)), some (.inl a1), some (.inl q1.1)], [], q1.2) (congrArg some (if_neg hc)) ?_
      refine ev_runs 1 (19, [some (.inr (.inr 92)), some (.inl a1), some (.inl q1.1)], [], q1.2) (20, [some (.inr (.inr 92)), some (.inl a1), some (.inl q1.1)], [.inl q1.1], q1.2) rfl ?_
      cases h
      exact er rfl
  · rw [if_neg hc] at h
    refine es (7, [some (.inr (.inr 92)), some (.inl a1), none], [], g) (congrArg some (if_neg hc)) ?_
    refine ev_runs 1 (7, [some (.inr (.inr 92)), some (.inl a1), none], [], g) (9, [some (.inr (.inr 92)), some (.inl a1), none], [.inl (-2)], g) rfl ?_
    cases h
    exact er rfl
def Hi_parter_l19 (c3 : Int) (K19_56 : Int → Gx → Option (Int × Gx)) : Nat → Int → Int → Gx → Option (Int × Gx)
  | 0, _, _, _ => none
  | n19 + 1, v4, v5, g =>
    if c3 ≤ v5 then
      K19_56 v4 g
    else
      if (rat g 43 30 v4) ≤ (rat g 43 30 v5) then
        Hi_parter_l19 c3 K19_56 n19 v4 (wr (v5 + 1)) g
      else
        Hi_parter_l19 c3 K19_56 n19 v5 (wr (v5 + 1)) g
def Hi_parter (a1 a2 : Int) (g : Gx) : Option (Int × Gx) :=
  Hi_parter_l19 (imax a1 a2)
    (fun x1 g2 =>
      some ((rat g2 45 30 x1), g2))
    fu (imin a1 a2) (wr ((imin a1 a2) + 1)) g
set_option maxRecDepth 100000 in
set_option maxHeartbeats 4000000 in
theorem ev_Hi_parter_l19 (c3 : Int) (K19_56 : Int → Gx → Option (Int × Gx)) (hK19_56 : ∀ (x4 : Int) (g : Gx) (r : Int) (g' : Gx), K19_56 x4 g = some (r, g') → Ev 114 56 [some (.inr (.inr 33)), none, none, none, some (.inl x4), none] [] g (some (.inl r)) g') : ∀ (n19 : Nat) (v4 v5 : Int) (g : Gx) (r : Int) (g' : Gx), Hi_parter_l19 c3 K19_56 n19 v4 v5 g = some (r, g') → Ev 114 19 [some (.inr (.inr 33)), none, none, some (.inl c3), some (.inl v4), some (.inl v5)] [] g (some (.inl r)) g' := by
  intro n19
  induction n19 with
  | zero => intro v4 v5 g r g' h; cases h
  | succ n19 ih19 =>
    intro v4 v5 g r g' h
    rw [Hi_parter_l19] at h
    refine ev_runs 2 (19, [some (.inr (.inr 33)), none, none, some (.inl c3), some (.inl v4), some (.inl v5)], [], g) (22, [some (.inr (.inr 33)), none, none, some (.inl c3), some (.inl v4), some (.inl v5)], [.inl c3, .inl v5], g) rfl ?_
    by_cases hc : c3 ≤ v5
    · rw [if_pos hc] at h
      refine es (56, [some (.inr (.inr 33)), none, none, some (.inl c3), some (.inl v4), some (.inl v5)], [], g) (congrArg some (if_pos hc)) ?_
      exact ev_le (L := [some (.inr (.inr 33)), none, none, none, some (.inl v4), none]) (by simp [Lle]) (hK19_56 v4 g r g' h)
    · rw [if_neg hc] at h
      refine es (25, [some (.inr (.inr 33)), none, none, some (.inl c3), some (.inl v4), some (.inl v5)], [], g) (congrArg some (if_neg hc)) ?_
      refine ev_runs 3 (25, [some (.inr (.inr 33)), none, none, some (.inl c3), some (.inl v4), some (.inl v5)], [], g) (31, [some (.inr (.inr 33)), none, none, some (.inl c3), some (.inl v4), some (.inl v5)], [.inl v5, .inr (.inr 42)], g) rfl ?_
      refine ec 13 34 [.inr (.inr 42), .inl v5] [] rfl (ev_Row_at rfl rfl _ _) ?_
      show Ev 114 34 [some (.inr (.inr 33)), none, none, some (.inl c3), some (.inl v4), some (.inl v5)] [.inl (rat g 43 30 v5)] g _ _
      refine ev_runs 3 (34, [some (.inr (.inr 33)), none, none, some (.inl c3), some (.inl v4), some (.inl v5)], [.inl (rat g 43 30 v5)], g) (40, [some (.inr (.inr 33)), none, none, some (.inl c3), some (.inl v4), some (.inl v5)], [.inl v4, .inr (.inr 42), .inl (rat g 43 30 v5)], g) rfl ?_
      refine ec 13 43 [.inr (.inr 42), .inl v4] [.inl (rat g 43 30 v5)] rfl (ev_Row_at rfl rfl _ _) ?_
      show Ev 114 43 [some (.inr (.inr 33)), none, none, some (.inl c3), some (.inl v4), some (.inl v5)] [.inl (rat g 43 30 v4), .inl (rat g 43 30 v5)] g _ _
      by_cases hc : (rat g 43 30 v4) ≤ (rat g 43 30 v5)
      · rw [if_pos hc] at h
        refine es (50, [some (.inr (.inr 33)), none, none, some (.inl c3), some (.inl v4), some (.inl v5)], [], g) (congrArg some (if_pos hc)) ?_
        refine ev_runs 2 (50, [some (.inr (.inr 33)), none, none, some (.inl c3), some (.inl v4), some (.inl v5)], [], g) (19, [some (.inr (.inr 33)), none, none, some (.inl c3), some (.inl v4), some (.inl (wr (v5 + 1)))], [], g) rfl ?_
        exact ev_le (L := [some (.inr (.inr 33)), none, none, some (.inl c3), some (.inl v4), some (.inl (wr (v5 + 1)))]) (by simp [Lle]) (ih19 v4 (wr (v5 + 1)) g r g' h)
      · rw [if_neg hc] at h
        refine es (46, [some (.inr (.inr 33)), none, none, some (.inl c3), some (.inl v4), some (.inl v5)], [], g) (congrArg some (if_neg hc)) ?_
        refine ev_runs 4 (46, [some (.inr (.inr 33)), none, none, some (.inl c3), some (.inl v4), some (.inl v5)], [], g) (19, [some (.inr (.inr 33)), none, none, some (.inl c3), some (.inl v5), some (.inl (wr (v5 + 1)))], [], g) rfl ?_
        exact ev_le (L := [some (.inr (.inr 33)), none, none, some (.inl c3), some (.inl v5), some (.inl (wr (v5 + 1)))]) (by simp [Lle]) (ih19 v5 (wr (v5 + 1)) g r g' h)
set_option maxRecDepth 100000 in
set_option maxHeartbeats 4000000 in
theorem ev_Hi_parter (a1 a2 : Int) (g : Gx) (r : Int) (g' : Gx) (h : Hi_parter a1 a2 g = some (r, g')) : Ev 114 0 [some (.inr (.inr 33)), some (.inl a1), some (.inl a2), none, none, none] [] g (some (.inl r)) g' := by
  rw [Hi_parter] at h
  refine ev_runs 12 (0, [some (.inr (.inr 33)), some (.inl a1), some (.inl a2), none, none, none], [], g) (19, [some (.inr (.inr 33)), some (.inl a1), some (.inl a2), some (.inl (imax a1 a2)), some (.inl (imin a1 a2)), some (.inl (wr ((imin a1 a2) + 1)))], [], g) rfl ?_
  refine ev_le (L := [some (.inr (.inr 33)), none, none, some (.inl (imax a1 a2)), some (.inl (imin a1 a2)), some (.inl (wr ((imin a1 a2) + 1)))]) (by simp [Lle]) ?_
  refine ev_Hi_parter_l19 (imax a1 a2) _ ?_ fu (imin a1 a2) (wr ((imin a1 a2) + 1)) g r g' h
  · intro x1 g2 r g' h
    refine ev_runs 3 (56, [some (.inr (.inr 33)), none, none, none, some (.inl x1), none], [], g2) (62, [some (.inr (.inr 33)), none, none, none, some (.inl x1), none], [.inl x1, .inr (.inr 44)], g2) rfl ?_
    refine ec 13 65 [.inr (.inr 44), .inl x1] [] rfl (ev_Row_at rfl rfl _ _) ?_
    show Ev 114 65 [some (.inr (.inr 33)), none, none, none, some (.inl x1), none] [.inl (rat g2 45 30 x1)] g2 _ _
    cases h
    exact er rfl
def Op_parts (a1 a2 : Int) (g : Gx) : Option (Int × Gx) :=
  if (Op_isHistory a1) = 0 then
    some ((-2), g)
  else
    if (Op_isHistory a2) = 0 then
      some ((-2), g)
    else
      if ¬ a1 = a2 then
        Option.bind (Op_hindrance (imax a1 a2) g) (fun q1 =>
        if q1.1 = 0 then
          Option.bind (Hi_parter a1 a2 q1.2) (fun q2 =>
          some (q2.1, q2.2))
        else
          some (q1.1, q1.2))
      else
        some ((-2), g)
set_option maxRecDepth 100000 in
set_option maxHeartbeats 4000000 in
theorem ev_Op_parts (a1 a2 : Int) (g : Gx) (r : Int) (g' : Gx) (h : Op_parts a1 a2 g = some (r, g')) : Ev 115 0 [some (.inr (.inr 0)), some (.inl a1), some (.inl a2), none] [] g (some (.inl r)) g' := by
  rw [Op_parts] at h
  refine ev_runs 1 (0, [some (.inr (.inr 0)), some (.inl a1), some (.inl a2), none], [], g) (1, [some (.inr (.inr 0)), some (.inl a1), some (.inl a2), none], [.inl a1], g) rfl ?_
  refine ec 83 4 [.inl a1] [] rfl (ev_Op_isHistory a1 g _ rfl) ?_
  show Ev 115 4 [some (.inr (.inr 0)), some (.inl a1), some (.inl a2), none] [.inl (Op_isHistory a1)] g _ _
  by_cases hc : (Op_isHistory a1) = 0
  · rw [if_pos hc] at h
    refine es (19, [some (.inr (.inr 0)), some (.inl a1), some (.inl a2), none], [], g) (congrArg some (if_pos hc)) ?_
    refine ev_runs 1 (19, [some (.inr (.inr 0)), some (.inl a1), some (.inl a2), none], [], g) (21, [some (.inr (.inr 0)), some (.inl a1), some (.inl a2), none], [.inl (-2)], g) rfl ?_
    cases h
    exact er rfl
  · rw [if_neg hc] at h
    refine es (7, [some (.inr (.inr 0)), some (.inl a1), some (.inl a2), none], [], g) (congrArg some (if_neg hc)) ?_
    refine ev_runs 1 (7, [some (.inr (.inr 0)), some (.inl a1), some (.inl a2), none], [], g) (8, [some (.inr (.inr 0)), some (.inl a1), some (.inl a2), none], [.inl a2], g) rfl ?_
    refine ec 83 11 [.inl a2] [] rfl (ev_Op_isHistory a2 g _ rfl) ?_
    show Ev 115 11 [some (.inr (.inr 0)), some (.inl a1), some (.inl a2), none] [.inl (Op_isHistory a2)] g _ _
    by_cases hc : (Op_isHistory a2) = 0
    · rw [if_pos hc] at h
      refine es (19, [some (.inr (.inr 0)), some (.inl a1), some (.inl a2), none], [], g) (congrArg some (if_pos hc)) ?_
      refine ev_runs 1 (19, [some (.inr (.inr 0)), some (.inl a1), some (.inl a2), none], [], g) (21, [some (.inr (.inr 0)), some (.inl a1), some (.inl a2), none], [.inl (-2)], g) rfl ?_
      cases h
      exact er rfl
    · rw [if_neg hc] at h
      refine es (14, [some (.inr (.inr 0)), some (.inl a1), some (.inl a2), none], [], g) (congrArg some (if_neg hc)) ?_
      refine ev_runs 2 (14, [some (.inr (.inr 0)), some (.inl a1), some (.inl a2), none], [], g) (16, [some (.inr (.inr 0)), some (.inl a1), some (.inl a2), none], [.inl a2, .inl a1], g) rfl ?_
      by_cases hc : ¬ a1 = a2
      · rw [if_pos hc] at h
        refine es (22, [some (.inr (.inr 0)), some (.inl a1), some (.inl a2), none], [], g) (congrArg some (if_pos hc)) ?_
        refine ev_runs 4 (22, [some (.inr (.inr 0)), some (.inl a1), some (.inl a2), none], [], g) (28, [some (.inr (.inr 0)), some (.inl a1), some (.inl a2), none], [.inl (imax a1 a2), .inr (.inr 0)], g) rfl ?_
        obtain ⟨q1, hq, h⟩ := Option.bind_eq_some_iff.mp h
        refine ec 75 31 [.inr (.inr 0), .inl (imax a1 a2)] [] rfl (ev_Op_hindrance (imax a1 a2) g q1.1 q1.2 hq) ?_
        show Ev 115 31 [some (.inr (.inr 0)), some (.inl a1), some (.inl a2), none] [.inl q1.1] q1.2 _ _
        refine ev_runs 2 (31, [some (.inr (.inr 0)), some (.inl a1), some (.inl a2), none], [.inl q1.1], q1.2) (33, [some (.inr (.inr 0)), some (.inl a1), some (.inl a2), some (.inl q1.1)], [.inl q1.1], q1.2) rfl ?_
        by_cases hc : q1.1 = 0
        · rw [if_pos hc] at h
          refine es (40, [some (.inr (.inr 0)), some (.inl a1), some (.inl a2), some (.inl q1.1)], [], q1.2) (congrArg some (if_pos hc)) ?_
          refine ev_runs 4 (40, [some (.inr (.inr 0)), some (.inl a1), some (.inl a2), some (.inl q1.1)], [], q1.2) (46, [some (.inr (.inr 0)), some (.inl a1), some (.inl a2), some (.inl q1.1)], [.inl a2, .inl a1, .inr (.inr 33)], q1.2) rfl ?_
          obtain ⟨q2, hq, h⟩ := Option.bind_eq_some_iff.mp h
          refine ec 114 49 [.inr (.inr 33), .inl a1, .inl a2] [] rfl (ev_Hi_parter a1 a2 q1.2 q2.1 q2.2 hq) ?_
          show Ev 115 49 [some (.inr (.inr 0)), some (.inl a1), some (.inl a2), some (.inl q1.1)] [.inl q2.1] q2.2 _ _
          cases h
          exact er rfl
        · rw [if_neg hc] at h
          refine es (36, [some (.inr (.inr 0)), some (.inl a1), some (.inl a2), some (.inl q1.1)], [], q1.2) (congrArg some (if_neg hc)) ?_
          refine ev_runs 2 (36, [some (.inr (.inr 0)), some (.inl a1), some (.inl a2), some (.inl q1.1)], [], q1.2) (49, [some (.inr (.inr 0)), some (.inl a1), some (.inl a2), some (.inl q1.1)], [.inl q1.1], q1.2) rfl ?_
          cases h
          exact er rfl
      · rw [if_neg hc] at h
        refine es (19, [some (.inr (.inr 0)), some (.inl a1), some (.inl a2), none], [], g) (congrArg some (if_neg hc)) ?_
        refine ev_runs 1 (19, [some (.inr (.inr 0)), some (.inl a1), some (.inl a2), none], [], g) (21, [some (.inr (.inr 0)), some (.inl a1), some (.inl a2), none], [.inl (-2)], g) rfl ?_
        cases h
        exact er rfl
def Md_parting_l2 (c1 : Int) (c2 : Int) (K2_33 : Int → Gx → Option (Int × Gx)) : Nat → Int → Gx → Option (Int × Gx)
  | 0, _, _ => none
  | n2 + 1, v3, g =>
    if 0 ≤ (wr ((wr (30 * c1)) + v3)) ∧ (wr ((wr (30 * c1)) + v3)) < 900 then
    if 0 ≤ (wr ((wr (30 * c2)) + v3)) ∧ (wr ((wr (30 * c2)) + v3)) < 900 then
    if ¬ (g 112 (wr ((wr (30 * c1)) + v3)).toNat) = (g 112 (wr ((wr (30 * c2)) + v3)).toNat) then
      K2_33 v3 g
    else
      Md_parting_l2 c1 c2 K2_33 n2 (wr (v3 + 1)) g
    else none
    else none
def Md_parting (a1 a2 : Int) (g : Gx) : Option (Int × Gx) :=
  Md_parting_l2 a1 a2
    (fun x1 g2 =>
      if 0 ≤ (wr ((wr (30 * a1)) + x1)) ∧ (wr ((wr (30 * a1)) + x1)) < 900 then
      some ((g2 113 (wr ((wr (30 * a1)) + x1)).toNat), g2)
      else none)
    fu 0 g
set_option maxRecDepth 100000 in
set_option maxHeartbeats 4000000 in
theorem ev_Md_parting_l2 (c1 : Int) (c2 : Int) (K2_33 : Int → Gx → Option (Int × Gx)) (hK2_33 : ∀ (x3 : Int) (g : Gx) (r : Int) (g' : Gx), K2_33 x3 g = some (r, g') → Ev 116 33 [some (.inr (.inr 92)), some (.inl c1), none, some (.inl x3)] [] g (some (.inl r)) g') : ∀ (n2 : Nat) (v3 : Int) (g : Gx) (r : Int) (g' : Gx), Md_parting_l2 c1 c2 K2_33 n2 v3 g = some (r, g') → Ev 116 2 [some (.inr (.inr 92)), some (.inl c1), some (.inl c2), some (.inl v3)] [] g (some (.inl r)) g' := by
  intro n2
  induction n2 with
  | zero => intro v3 g r g' h; cases h
  | succ n2 ih2 =>
    intro v3 g r g' h
    rw [Md_parting_l2] at h
    refine ev_runs 7 (2, [some (.inr (.inr 92)), some (.inl c1), some (.inl c2), some (.inl v3)], [], g) (12, [some (.inr (.inr 92)), some (.inl c1), some (.inl c2), some (.inl v3)], [.inl (wr ((wr (30 * c1)) + v3)), .inr (.inr 112)], g) rfl ?_
    by_cases hc : 0 ≤ (wr ((wr (30 * c1)) + v3)) ∧ (wr ((wr (30 * c1)) + v3)) < 900
    · rw [if_pos hc] at h
      refine es (13, [some (.inr (.inr 92)), some (.inl c1), some (.inl c2), some (.inl v3)], [.inl (g 112 (wr ((wr (30 * c1)) + v3)).toNat)], g) (if_pos hc) ?_
      refine ev_runs 7 (13, [some (.inr (.inr 92)), some (.inl c1), some (.inl c2), some (.inl v3)], [.inl (g 112 (wr ((wr (30 * c1)) + v3)).toNat)], g) (23, [some (.inr (.inr 92)), some (.inl c1), some (.inl c2), some (.inl v3)], [.inl (wr ((wr (30 * c2)) + v3)), .inr (.inr 112), .inl (g 112 (wr ((wr (30 * c1)) + v3)).toNat)], g) rfl ?_
      by_cases hc : 0 ≤ (wr ((wr (30 * c2)) + v3)) ∧ (wr ((wr (30 * c2)) + v3)) < 900
      · rw [if_pos hc] at h
        refine es (24, [some (.inr (.inr 92)), some (.inl c1), some (.inl c2), some (.inl v3)], [.inl (g 112 (wr ((wr (30 * c2)) + v3)).toNat), .inl (g 112 (wr ((wr (30 * c1)) + v3)).toNat)], g) (if_pos hc) ?_
        by_cases hc : ¬ (g 112 (wr ((wr (30 * c1)) + v3)).toNat) = (g 112 (wr ((wr (30 * c2)) + v3)).toNat)
        · rw [if_pos hc] at h
          refine es (33, [some (.inr (.inr 92)), some (.inl c1), some (.inl c2), some (.inl v3)], [], g) (congrArg some (if_pos hc)) ?_
          exact ev_le (L := [some (.inr (.inr 92)), some (.inl c1), none, some (.inl v3)]) (by simp [Lle]) (hK2_33 v3 g r g' h)
        · rw [if_neg hc] at h
          refine es (27, [some (.inr (.inr 92)), some (.inl c1), some (.inl c2), some (.inl v3)], [], g) (congrArg some (if_neg hc)) ?_
          refine ev_runs 2 (27, [some (.inr (.inr 92)), some (.inl c1), some (.inl c2), some (.inl v3)], [], g) (2, [some (.inr (.inr 92)), some (.inl c1), some (.inl c2), some (.inl (wr (v3 + 1)))], [], g) rfl ?_
          exact ev_le (L := [some (.inr (.inr 92)), some (.inl c1), some (.inl c2), some (.inl (wr (v3 + 1)))]) (by simp [Lle]) (ih2 (wr (v3 + 1)) g r g' h)
      · rw [if_neg hc] at h; cases h
    · rw [if_neg hc] at h; cases h
set_option maxRecDepth 100000 in
set_option maxHeartbeats 4000000 in
theorem ev_Md_parting (a1 a2 : Int) (g : Gx) (r : Int) (g' : Gx) (h : Md_parting a1 a2 g = some (r, g')) : Ev 116 0 [some (.inr (.inr 92)), some (.inl a1), some (.inl a2), none] [] g (some (.inl r)) g' := by
  rw [Md_parting] at h
  refine ev_runs 2 (0, [some (.inr (.inr 92)), some (.inl a1), some (.inl a2), none], [], g) (2, [some (.inr (.inr 92)), some (.inl a1), some (.inl a2), some (.inl 0)], [], g) rfl ?_
  refine ev_le (L := [some (.inr (.inr 92)), some (.inl a1), some (.inl a2), some (.inl 0)]) (by simp [Lle]) ?_
  refine ev_Md_parting_l2 a1 a2 _ ?_ fu 0 g r g' h
  · intro x1 g2 r g' h
    refine ev_runs 7 (33, [some (.inr (.inr 92)), some (.inl a1), none, some (.inl x1)], [], g2) (43, [some (.inr (.inr 92)), some (.inl a1), none, some (.inl x1)], [.inl (wr ((wr (30 * a1)) + x1)), .inr (.inr 113)], g2) rfl ?_
    by_cases hc : 0 ≤ (wr ((wr (30 * a1)) + x1)) ∧ (wr ((wr (30 * a1)) + x1)) < 900
    · rw [if_pos hc] at h
      refine es (44, [some (.inr (.inr 92)), some (.inl a1), none, some (.inl x1)], [.inl (g2 113 (wr ((wr (30 * a1)) + x1)).toNat)], g2) (if_pos hc) ?_
      cases h
      exact er rfl
    · rw [if_neg hc] at h; cases h
def Md_parts (a1 a2 : Int) (g : Gx) : Option (Int × Gx) :=
  if (Md_isHistory a1) = 0 then
    some ((-2), g)
  else
    if (Md_isHistory a2) = 0 then
      some ((-2), g)
    else
      if ¬ a1 = a2 then
        lett (if a1 ≤ a2 then a2 else a1) (fun y1 =>
        Option.bind (Md_lacksOne y1 g) (fun q2 =>
        if q2.1 = 0 then
          Option.bind (Md_parting a1 a2 q2.2) (fun q3 =>
          some (q3.1, q3.2))
        else
          some (q2.1, q2.2)))
      else
        some ((-2), g)
set_option maxRecDepth 100000 in
set_option maxHeartbeats 4000000 in
theorem ev_Md_parts (a1 a2 : Int) (g : Gx) (r : Int) (g' : Gx) (h : Md_parts a1 a2 g = some (r, g')) : Ev 117 0 [some (.inr (.inr 92)), some (.inl a1), some (.inl a2), none] [] g (some (.inl r)) g' := by
  rw [Md_parts] at h
  refine ev_runs 1 (0, [some (.inr (.inr 92)), some (.inl a1), some (.inl a2), none], [], g) (1, [some (.inr (.inr 92)), some (.inl a1), some (.inl a2), none], [.inl a1], g) rfl ?_
  refine ec 87 4 [.inl a1] [] rfl (ev_Md_isHistory a1 g _ rfl) ?_
  show Ev 117 4 [some (.inr (.inr 92)), some (.inl a1), some (.inl a2), none] [.inl (Md_isHistory a1)] g _ _
  by_cases hc : (Md_isHistory a1) = 0
  · rw [if_pos hc] at h
    refine es (19, [some (.inr (.inr 92)), some (.inl a1), some (.inl a2), none], [], g) (congrArg some (if_pos hc)) ?_
    refine ev_runs 1 (19, [some (.inr (.inr 92)), some (.inl a1), some (.inl a2), none], [], g) (21, [some (.inr (.inr 92)), some (.inl a1), some (.inl a2), none], [.inl (-2)], g) rfl ?_
    cases h
    exact er rfl
  · rw [if_neg hc] at h
    refine es (7, [some (.inr (.inr 92)), some (.inl a1), some (.inl a2), none], [], g) (congrArg some (if_neg hc)) ?_
    refine ev_runs 1 (7, [some (.inr (.inr 92)), some (.inl a1), some (.inl a2), none], [], g) (8, [some (.inr (.inr 92)), some (.inl a1), some (.inl a2), none], [.inl a2], g) rfl ?_
    refine ec 87 11 [.inl a2] [] rfl (ev_Md_isHistory a2 g _ rfl) ?_
    show Ev 117 11 [some (.inr (.inr 92)), some (.inl a1), some (.inl a2), none] [.inl (Md_isHistory a2)] g _ _
    by_cases hc : (Md_isHistory a2) = 0
    · rw [if_pos hc] at h
      refine es (19, [some (.inr (.inr 92)), some (.inl a1), some (.inl a2), none], [], g) (congrArg some (if_pos hc)) ?_
      refine ev_runs 1 (19, [some (.inr (.inr 92)), some (.inl a1), some (.inl a2), none], [], g) (21, [some (.inr (.inr 92)), some (.inl a1), some (.inl a2), none], [.inl (-2)], g) rfl ?_
      cases h
      exact er rfl
    · rw [if_neg hc] at h
      refine es (14, [some (.inr (.inr 92)), some (.inl a1), some (.inl a2), none], [], g) (congrArg some (if_neg hc)) ?_
      refine ev_runs 2 (14, [some (.inr (.inr 92)), some (.inl a1), some (.inl a2), none], [], g) (16, [some (.inr (.inr 92)), some (.inl a1), some (.inl a2), none], [.inl a2, .inl a1], g) rfl ?_
      by_cases hc : ¬ a1 = a2
      · rw [if_pos hc] at h
        refine es (22, [some (.inr (.inr 92)), some (.inl a1), some (.inl a2), none], [], g) (congrArg some (if_pos hc)) ?_
        refine ev_runs 3 (22, [some (.inr (.inr 92)), some (.inl a1), some (.inl a2), none], [], g) (25, [some (.inr (.inr 92)), some (.inl a1), some (.inl a2), none], [.inl a2, .inl a1, .inr (.inr 92)], g) rfl ?_
        obtain ⟨y1, hy1, h⟩ := lett_inv h
        have hjy1 : Ev 117 33 [some (.inr (.inr 92)), some (.inl a1), some (.inl a2), none] [.inl y1, .inr (.inr 92)] g (some (.inl r)) g' := by
          obtain ⟨q2, hq, h⟩ := Option.bind_eq_some_iff.mp h
          refine ec 88 36 [.inr (.inr 92), .inl y1] [] rfl (ev_Md_lacksOne y1 g q2.1 q2.2 hq) ?_
          show Ev 117 36 [some (.inr (.inr 92)), some (.inl a1), some (.inl a2), none] [.inl q2.1] q2.2 _ _
          refine ev_runs 2 (36, [some (.inr (.inr 92)), some (.inl a1), some (.inl a2), none], [.inl q2.1], q2.2) (38, [some (.inr (.inr 92)), some (.inl a1), some (.inl a2), some (.inl q2.1)], [.inl q2.1], q2.2) rfl ?_
          by_cases hc : q2.1 = 0
          · rw [if_pos hc] at h
            refine es (45, [some (.inr (.inr 92)), some (.inl a1), some (.inl a2), some (.inl q2.1)], [], q2.2) (congrArg some (if_pos hc)) ?_
            refine ev_runs 3 (45, [some (.inr (.inr 92)), some (.inl a1), some (.inl a2), some (.inl q2.1)], [], q2.2) (48, [some (.inr (.inr 92)), some (.inl a1), some (.inl a2), some (.inl q2.1)], [.inl a2, .inl a1, .inr (.inr 92)], q2.2) rfl ?_
            obtain ⟨q3, hq, h⟩ := Option.bind_eq_some_iff.mp h
            refine ec 116 51 [.inr (.inr 92), .inl a1, .inl a2] [] rfl (ev_Md_parting a1 a2 q2.2 q3.1 q3.2 hq) ?_
            show Ev 117 51 [some (.inr (.inr 92)), some (.inl a1), some (.inl a2), some (.inl q2.1)] [.inl q3.1] q3.2 _ _
            cases h
            exact er rfl
          · rw [if_neg hc] at h
            refine es (41, [some (.inr (.inr 92)), some (.inl a1), some (.inl a2), some (.inl q2.1)], [], q2.2) (congrArg some (if_neg hc)) ?_
            refine ev_runs 2 (41, [some (.inr (.inr 92)), some (.inl a1), some (.inl a2), some (.inl q2.1)], [], q2.2) (51, [some (.inr (.inr 92)), some (.inl a1), some (.inl a2), some (.inl q2.1)], [.inl q2.1], q2.2) rfl ?_
            cases h
            exact er rfl
        by_cases hc : a1 ≤ a2
        · rw [if_pos hc] at hy1
          refine es (32, [some (.inr (.inr 92)), some (.inl a1), some (.inl a2), none], [.inr (.inr 92)], g) (congrArg some (if_pos hc)) ?_
          refine ev_runs 1 (32, [some (.inr (.inr 92)), some (.inl a1), some (.inl a2), none], [.inr (.inr 92)], g) (33, [some (.inr (.inr 92)), some (.inl a1), some (.inl a2), none], [.inl a2, .inr (.inr 92)], g) rfl ?_
          rw [hy1] at hjy1
          exact ev_le (L := [some (.inr (.inr 92)), some (.inl a1), some (.inl a2), none]) (by simp [Lle]) hjy1
        · rw [if_neg hc] at hy1
          refine es (28, [some (.inr (.inr 92)), some (.inl a1), some (.inl a2), none], [.inr (.inr 92)], g) (congrArg some (if_neg hc)) ?_
          refine ev_runs 2 (28, [some (.inr (.inr 92)), some (.inl a1), some (.inl a2), none], [.inr (.inr 92)], g) (33, [some (.inr (.inr 92)), some (.inl a1), some (.inl a2), none], [.inl a1, .inr (.inr 92)], g) rfl ?_
          rw [hy1] at hjy1
          exact ev_le (L := [some (.inr (.inr 92)), some (.inl a1), some (.inl a2), none]) (by simp [Lle]) hjy1
      · rw [if_neg hc] at h
        refine es (19, [some (.inr (.inr 92)), some (.inl a1), some (.inl a2), none], [], g) (congrArg some (if_neg hc)) ?_
        refine ev_runs 1 (19, [some (.inr (.inr 92)), some (.inl a1), some (.inl a2), none], [], g) (21, [some (.inr (.inr 92)), some (.inl a1), some (.inl a2), none], [.inl (-2)], g) rfl ?_
        cases h
        exact er rfl
def Hi_makings (g : Gx) : Int :=
  (g 33 16)
set_option maxRecDepth 100000 in
set_option maxHeartbeats 4000000 in
theorem ev_Hi_makings (g : Gx) (r : Int) (h : Hi_makings g = r) : Ev 118 0 [some (.inr (.inr 33))] [] g (some (.inl r)) g := by
  rw [Hi_makings] at h
  refine ev_runs 2 (0, [some (.inr (.inr 33))], [], g) (4, [some (.inr (.inr 33))], [.inl (g 33 16)], g) rfl ?_
  subst h
  exact er rfl
def Lk_gets (a1 a2 : Int) (g : Gx) : Int :=
  if (rat g 54 30 a1) ≤ a2 then
    0
  else
    if (rat g 52 720 (wr ((wr (a1 * 24)) + a2))) < 20000 then
      0
    else
      1
set_option maxRecDepth 100000 in
set_option maxHeartbeats 4000000 in
theorem ev_Lk_gets (a1 a2 : Int) (g : Gx) (r : Int) (h : Lk_gets a1 a2 g = r) : Ev 120 0 [some (.inr (.inr 50)), some (.inl a1), some (.inl a2)] [] g (some (.inl r)) g := by
  rw [Lk_gets] at h
  refine ev_runs 4 (0, [some (.inr (.inr 50)), some (.inl a1), some (.inl a2)], [], g) (6, [some (.inr (.inr 50)), some (.inl a1), some (.inl a2)], [.inl a1, .inr (.inr 53), .inl a2], g) rfl ?_
  refine ec 13 9 [.inr (.inr 53), .inl a1] [.inl a2] rfl (ev_Row_at rfl rfl _ _) ?_
  show Ev 120 9 [some (.inr (.inr 50)), some (.inl a1), some (.inl a2)] [.inl (rat g 54 30 a1), .inl a2] g _ _
  by_cases hc : (rat g 54 30 a1) ≤ a2
  · rw [if_pos hc] at h
    refine es (35, [some (.inr (.inr 50)), some (.inl a1), some (.inl a2)], [], g) (congrArg some (if_pos hc)) ?_
    refine ev_runs 1 (35, [some (.inr (.inr 50)), some (.inl a1), some (.inl a2)], [], g) (36, [some (.inr (.inr 50)), some (.inl a1), some (.inl a2)], [.inl 0], g) rfl ?_
    subst h
    exact er rfl
  · rw [if_neg hc] at h
    refine es (12, [some (.inr (.inr 50)), some (.inl a1), some (.inl a2)], [], g) (congrArg some (if_neg hc)) ?_
    refine ev_runs 7 (12, [some (.inr (.inr 50)), some (.inl a1), some (.inl a2)], [], g) (22, [some (.inr (.inr 50)), some (.inl a1), some (.inl a2)], [.inl (wr ((wr (a1 * 24)) + a2)), .inr (.inr 51)], g) rfl ?_
    refine ec 13 25 [.inr (.inr 51), .inl (wr ((wr (a1 * 24)) + a2))] [] rfl (ev_Row_at rfl rfl _ _) ?_
    show Ev 120 25 [some (.inr (.inr 50)), some (.inl a1), some (.inl a2)] [.inl (rat g 52 720 (wr ((wr (a1 * 24)) + a2)))] g _ _
    refine ev_runs 1 (25, [some (.inr (.inr 50)), some (.inl a1), some (.inl a2)], [.inl (rat g 52 720 (wr ((wr (a1 * 24)) + a2)))], g) (28, [some (.inr (.inr 50)), some (.inl a1), some (.inl a2)], [.inl 20000, .inl (rat g 52 720 (wr ((wr (a1 * 24)) + a2)))], g) rfl ?_
    by_cases hc : (rat g 52 720 (wr ((wr (a1 * 24)) + a2))) < 20000
    · rw [if_pos hc] at h
      refine es (35, [some (.inr (.inr 50)), some (.inl a1), some (.inl a2)], [], g) (congrArg some (if_pos hc)) ?_
      refine ev_runs 1 (35, [some (.inr (.inr 50)), some (.inl a1), some (.inl a2)], [], g) (36, [some (.inr (.inr 50)), some (.inl a1), some (.inl a2)], [.inl 0], g) rfl ?_
      subst h
      exact er rfl
    · rw [if_neg hc] at h
      refine es (31, [some (.inr (.inr 50)), some (.inl a1), some (.inl a2)], [], g) (congrArg some (if_neg hc)) ?_
      refine ev_runs 2 (31, [some (.inr (.inr 50)), some (.inl a1), some (.inl a2)], [], g) (36, [some (.inr (.inr 50)), some (.inl a1), some (.inl a2)], [.inl 1], g) rfl ?_
      subst h
      exact er rfl
theorem bo_Lk_gets (a1 a2 : Int) (g : Gx) : (Lk_gets a1 a2 g) = 0 ∨ (Lk_gets a1 a2 g) = 1 := by
  simp only [Lk_gets, lett]
  (repeat' split) <;> first | exact Or.inl rfl | exact Or.inr rfl | exact Or.inl trivial | exact Or.inr trivial
def Kn_bothGet (a1 a2 a3 : Int) (g : Gx) : Int :=
  if (Lk_gets a1 a3 g) = 0 then
    0
  else
    if (Lk_gets a2 a3 g) = 0 then
      0
    else
      1
set_option maxRecDepth 100000 in
set_option maxHeartbeats 4000000 in
theorem ev_Kn_bothGet (a1 a2 a3 : Int) (g : Gx) (r : Int) (h : Kn_bothGet a1 a2 a3 g = r) : Ev 121 0 [some (.inr (.inr 55)), some (.inl a1), some (.inl a2), some (.inl a3)] [] g (some (.inl r)) g := by
  rw [Kn_bothGet] at h
  refine ev_runs 4 (0, [some (.inr (.inr 55)), some (.inl a1), some (.inl a2), some (.inl a3)], [], g) (6, [some (.inr (.inr 55)), some (.inl a1), some (.inl a2), some (.inl a3)], [.inl a3, .inl a1, .inr (.inr 50)], g) rfl ?_
  refine ec 120 9 [.inr (.inr 50), .inl a1, .inl a3] [] rfl (ev_Lk_gets a1 a3 g _ rfl) ?_
  show Ev 121 9 [some (.inr (.inr 55)), some (.inl a1), some (.inl a2), some (.inl a3)] [.inl (Lk_gets a1 a3 g)] g _ _
  by_cases hc : (Lk_gets a1 a3 g) = 0
  · rw [if_pos hc] at h
    refine es (28, [some (.inr (.inr 55)), some (.inl a1), some (.inl a2), some (.inl a3)], [], g) (congrArg some (if_pos hc)) ?_
    refine ev_runs 1 (28, [some (.inr (.inr 55)), some (.inl a1), some (.inl a2), some (.inl a3)], [], g) (29, [some (.inr (.inr 55)), some (.inl a1), some (.inl a2), some (.inl a3)], [.inl 0], g) rfl ?_
    subst h
    exact er rfl
  · rw [if_neg hc] at h
    refine es (12, [some (.inr (.inr 55)), some (.inl a1), some (.inl a2), some (.inl a3)], [], g) (congrArg some (if_neg hc)) ?_
    refine ev_runs 4 (12, [some (.inr (.inr 55)), some (.inl a1), some (.inl a2), some (.inl a3)], [], g) (18, [some (.inr (.inr 55)), some (.inl a1), some (.inl a2), some (.inl a3)], [.inl a3, .inl a2, .inr (.inr 50)], g) rfl ?_
    refine ec 120 21 [.inr (.inr 50), .inl a2, .inl a3] [] rfl (ev_Lk_gets a2 a3 g _ rfl) ?_
    show Ev 121 21 [some (.inr (.inr 55)), some (.inl a1), some (.inl a2), some (.inl a3)] [.inl (Lk_gets a2 a3 g)] g _ _
    by_cases hc : (Lk_gets a2 a3 g) = 0
    · rw [if_pos hc] at h
      refine es (28, [some (.inr (.inr 55)), some (.inl a1), some (.inl a2), some (.inl a3)], [], g) (congrArg some (if_pos hc)) ?_
      refine ev_runs 1 (28, [some (.inr (.inr 55)), some (.inl a1), some (.inl a2), some (.inl a3)], [], g) (29, [some (.inr (.inr 55)), some (.inl a1), some (.inl a2), some (.inl a3)], [.inl 0], g) rfl ?_
      subst h
      exact er rfl
    · rw [if_neg hc] at h
      refine es (24, [some (.inr (.inr 55)), some (.inl a1), some (.inl a2), some (.inl a3)], [], g) (congrArg some (if_neg hc)) ?_
      refine ev_runs 2 (24, [some (.inr (.inr 55)), some (.inl a1), some (.inl a2), some (.inl a3)], [], g) (29, [some (.inr (.inr 55)), some (.inl a1), some (.inl a2), some (.inl a3)], [.inl 1], g) rfl ?_
      subst h
      exact er rfl
theorem bo_Kn_bothGet (a1 a2 a3 : Int) (g : Gx) : (Kn_bothGet a1 a2 a3 g) = 0 ∨ (Kn_bothGet a1 a2 a3 g) = 1 := by
  simp only [Kn_bothGet, lett]
  (repeat' split) <;> first | exact Or.inl rfl | exact Or.inr rfl | exact Or.inl trivial | exact Or.inr trivial | apply bo_Lk_gets
def Kn_searchFor_l17 (c1 : Int) (c2 : Int) (K17_122 : Gx → Option (Int × Gx)) : Nat → Int → Gx → Option (Int × Gx)
  | 0, _, _ => none
  | n17 + 1, v3, g =>
    if (Hi_size g) ≤ v3 then
      K17_122 g
    else
      Option.bind (Lk_common c2 v3 g) (fun q1 =>
      if ¬ (Lk_bothEnd c2 v3 q1.1 q1.2) = 0 then
        Kn_searchFor_l17 c1 c2 K17_122 n17 (wr (v3 + 1)) q1.2
      else
        if ¬ (Kn_bothGet c2 v3 q1.1 q1.2) = 0 then
          Kn_searchFor_l17 c1 c2 K17_122 n17 (wr (v3 + 1)) q1.2
        else
          Option.bind (Hi_parter c2 v3 q1.2) (fun q2 =>
          if q2.1 = c1 then
            Kn_searchFor_l17 c1 c2 K17_122 n17 (wr (v3 + 1)) q2.2
          else
            some (1, (rset (rset (rset (rset q2.2 57 4 0 c1) 57 4 1 c2) 57 4 2 v3) 57 4 3 q1.1))))
def Kn_searchFor_l2 (c1 : Int) (K2_128 : Gx → Option (Int × Gx)) : Nat → Int → Gx → Option (Int × Gx)
  | 0, _, _ => none
  | n2 + 1, v2, g =>
    if (Hi_size g) ≤ v2 then
      K2_128 g
    else
      Kn_searchFor_l17 c1 v2
        (fun g3 =>
          Kn_searchFor_l2 c1 K2_128 n2 (wr (v2 + 1)) g3)
        fu (wr (v2 + 1)) g
def Kn_searchFor (a1 : Int) (g : Gx) : Option (Int × Gx) :=
  Kn_searchFor_l2 a1
    (fun g4 =>
      some (0, g4))
    fu 0 g
set_option maxRecDepth 100000 in
set_option maxHeartbeats 4000000 in
theorem ev_Kn_searchFor_l17 (c1 : Int) (c2 : Int) (K17_122 : Gx → Option (Int × Gx)) (hK17_122 : ∀ (g : Gx) (r : Int) (g' : Gx), K17_122 g = some (r, g') → Ev 122 122 [some (.inr (.inr 55)), some (.inl c1), some (.inl c2), none, none] [] g (some (.inl r)) g') : ∀ (n17 : Nat) (v3 : Int) (g : Gx) (r : Int) (g' : Gx), Kn_searchFor_l17 c1 c2 K17_122 n17 v3 g = some (r, g') → Ev 122 17 [some (.inr (.inr 55)), some (.inl c1), some (.inl c2), some (.inl v3), none] [] g (some (.inl r)) g' := by
  intro n17
  induction n17 with
  | zero => intro v3 g r g' h; cases h
  | succ n17 ih17 =>
    intro v3 g r g' h
    rw [Kn_searchFor_l17] at h
    refine ev_runs 3 (17, [some (.inr (.inr 55)), some (.inl c1), some (.inl c2), some (.inl v3), none], [], g) (22, [some (.inr (.inr 55)), some (.inl c1), some (.inl c2), some (.inl v3), none], [.inr (.inr 33), .inl v3], g) rfl ?_
    refine ec 74 25 [.inr (.inr 33)] [.inl v3] rfl (ev_Hi_size g _ rfl) ?_
    show Ev 122 25 [some (.inr (.inr 55)), some (.inl c1), some (.inl c2), some (.inl v3), none] [.inl (Hi_size g), .inl v3] g _ _
    by_cases hc : (Hi_size g) ≤ v3
    · rw [if_pos hc] at h
      refine es (122, [some (.inr (.inr 55)), some (.inl c1), some (.inl c2), some (.inl v3), none], [], g) (congrArg some (if_pos hc)) ?_
      exact ev_le (L := [some (.inr (.inr 55)), some (.inl c1), some (.inl c2), none, none]) (by simp [Lle]) (hK17_122 g r g' h)
    · rw [if_neg hc] at h
      refine es (28, [some (.inr (.inr 55)), some (.inl c1), some (.inl c2), some (.inl v3), none], [], g) (congrArg some (if_neg hc)) ?_
      refine ev_runs 4 (28, [some (.inr (.inr 55)), some (.inl c1), some (.inl c2), some (.inl v3), none], [], g) (34, [some (.inr (.inr 55)), some (.inl c1), some (.inl c2), some (.inl v3), none], [.inl v3, .inl c2, .inr (.inr 50)], g) rfl ?_
      obtain ⟨q1, hq, h⟩ := Option.bind_eq_some_iff.mp h
      refine ec 105 37 [.inr (.inr 50), .inl c2, .inl v3] [] rfl (ev_Lk_common c2 v3 g q1.1 q1.2 hq) ?_
      show Ev 122 37 [some (.inr (.inr 55)), some (.inl c1), some (.inl c2), some (.inl v3), none] [.inl q1.1] q1.2 _ _
      refine ev_runs 6 (37, [some (.inr (.inr 55)), some (.inl c1), some (.inl c2), some (.inl v3), none], [.inl q1.1], q1.2) (47, [some (.inr (.inr 55)), some (.inl c1), some (.inl c2), some (.inl v3), some (.inl q1.1)], [.inl q1.1, .inl v3, .inl c2, .inr (.inr 50)], q1.2) rfl ?_
      refine ec 106 50 [.inr (.inr 50), .inl c2, .inl v3, .inl q1.1] [] rfl (ev_Lk_bothEnd c2 v3 q1.1 q1.2 _ rfl) ?_
      show Ev 122 50 [some (.inr (.inr 55)), some (.inl c1), some (.inl c2), some (.inl v3), some (.inl q1.1)] [.inl (Lk_bothEnd c2 v3 q1.1 q1.2)] q1.2 _ _
      by_cases hc : ¬ (Lk_bothEnd c2 v3 q1.1 q1.2) = 0
      · rw [if_pos hc] at h
        refine es (116, [some (.inr (.inr 55)), some (.inl c1), some (.inl c2), some (.inl v3), some (.inl q1.1)], [], q1.2) (congrArg some (if_pos hc)) ?_
        refine ev_runs 2 (116, [some (.inr (.inr 55)), some (.inl c1), some (.inl c2), some (.inl v3), some (.inl q1.1)], [], q1.2) (17, [some (.inr (.inr 55)), some (.inl c1), some (.inl c2), some (.inl (wr (v3 + 1))), some (.inl q1.1)], [], q1.2) rfl ?_
        exact ev_le (L := [some (.inr (.inr 55)), some (.inl c1), some (.inl c2), some (.inl (wr (v3 + 1))), none]) (by simp [Lle]) (ih17 (wr (v3 + 1)) q1.2 r g' h)
      · rw [if_neg hc] at h
        refine es (53, [some (.inr (.inr 55)), some (.inl c1), some (.inl c2), some (.inl v3), some (.inl q1.1)], [], q1.2) (congrArg some (if_neg hc)) ?_
        refine ev_runs 4 (53, [some (.inr (.inr 55)), some (.inl c1), some (.inl c2), some (.inl v3), some (.inl q1.1)], [], q1.2) (58, [some (.inr (.inr 55)), some (.inl c1), some (.inl c2), some (.inl v3), some (.inl q1.1)], [.inl q1.1, .inl v3, .inl c2, .inr (.inr 55)], q1.2) rfl ?_
        refine ec 121 61 [.inr (.inr 55), .inl c2, .inl v3, .inl q1.1] [] rfl (ev_Kn_bothGet c2 v3 q1.1 q1.2 _ rfl) ?_
        show Ev 122 61 [some (.inr (.inr 55)), some (.inl c1), some (.inl c2), some (.inl v3), some (.inl q1.1)] [.inl (Kn_bothGet c2 v3 q1.1 q1.2)] q1.2 _ _
        by_cases hc : ¬ (Kn_bothGet c2 v3 q1.1 q1.2) = 0
        · rw [if_pos hc] at h
          refine es (116, [some (.inr (.inr 55)), some (.inl c1), some (.inl c2), some (.inl v3), some (.inl q1.1)], [], q1.2) (congrArg some (if_pos hc)) ?_
          refine ev_runs 2 (116, [some (.inr (.inr 55)), some (.inl c1), some (.inl c2), some (.inl v3), some (.inl q1.1)], [], q1.2) (17, [some (.inr (.inr 55)), some (.inl c1), some (.inl c2), some (.inl (wr (v3 + 1))), some (.inl q1.1)], [], q1.2) rfl ?_
          exact ev_le (L := [some (.inr (.inr 55)), some (.inl c1), some (.inl c2), some (.inl (wr (v3 + 1))), none]) (by simp [Lle]) (ih17 (wr (v3 + 1)) q1.2 r g' h)
        · rw [if_neg hc] at h
          refine es (64, [some (.inr (.inr 55)), some (.inl c1), some (.inl c2), some (.inl v3), some (.inl q1.1)], [], q1.2) (congrArg some (if_neg hc)) ?_
          refine ev_runs 4 (64, [some (.inr (.inr 55)), some (.inl c1), some (.inl c2), some (.inl v3), some (.inl q1.1)], [], q1.2) (70, [some (.inr (.inr 55)), some (.inl c1), some (.inl c2), some (.inl v3), some (.inl q1.1)], [.inl v3, .inl c2, .inr (.inr 33)], q1.2) rfl ?_
          obtain ⟨q2, hq, h⟩ := Option.bind_eq_some_iff.mp h
          refine ec 114 73 [.inr (.inr 33), .inl c2, .inl v3] [] rfl (ev_Hi_parter c2 v3 q1.2 q2.1 q2.2 hq) ?_
          show Ev 122 73 [some (.inr (.inr 55)), some (.inl c1), some (.inl c2), some (.inl v3), some (.inl q1.1)] [.inl q2.1] q2.2 _ _
          refine ev_runs 1 (73, [some (.inr (.inr 55)), some (.inl c1), some (.inl c2), some (.inl v3), some (.inl q1.1)], [.inl q2.1], q2.2) (74, [some (.inr (.inr 55)), some (.inl c1), some (.inl c2), some (.inl v3), some (.inl q1.1)], [.inl c1, .inl q2.1], q2.2) rfl ?_
          by_cases hc : q2.1 = c1
          · rw [if_pos hc] at h
            refine es (116, [some (.inr (.inr 55)), some (.inl c1), some (.inl c2), some (.inl v3), some (.inl q1.1)], [], q2.2) (congrArg some (if_pos hc)) ?_
            refine ev_runs 2 (116, [some (.inr (.inr 55)), some (.inl c1), some (.inl c2), some (.inl v3), some (.inl q1.1)], [], q2.2) (17, [some (.inr (.inr 55)), some (.inl c1), some (.inl c2), some (.inl (wr (v3 + 1))), some (.inl q1.1)], [], q2.2) rfl ?_
            exact ev_le (L := [some (.inr (.inr 55)), some (.inl c1), some (.inl c2), some (.inl (wr (v3 + 1))), none]) (by simp [Lle]) (ih17 (wr (v3 + 1)) q2.2 r g' h)
          · rw [if_neg hc] at h
            refine es (77, [some (.inr (.inr 55)), some (.inl c1), some (.inl c2), some (.inl v3), some (.inl q1.1)], [], q2.2) (congrArg some (if_neg hc)) ?_
            refine ev_runs 4 (77, [some (.inr (.inr 55)), some (.inl c1), some (.inl c2), some (.inl v3), some (.inl q1.1)], [], q2.2) (83, [some (.inr (.inr 55)), some (.inl c1), some (.inl c2), some (.inl v3), some (.inl q1.1)], [.inl c1, .inl 0, .inr (.inr 56)], q2.2) rfl ?_
            refine ec 0 86 [.inr (.inr 56), .inl 0, .inl c1] [] rfl (ev_Row_set rfl rfl _ _ _) ?_
            show Ev 122 86 [some (.inr (.inr 55)), some (.inl c1), some (.inl c2), some (.inl v3), some (.inl q1.1)] [] (rset q2.2 57 4 0 c1) _ _
            refine ev_runs 4 (86, [some (.inr (.inr 55)), some (.inl c1), some (.inl c2), some (.inl v3), some (.inl q1.1)], [], (rset q2.2 57 4 0 c1)) (92, [some (.inr (.inr 55)), some (.inl c1), some (.inl c2), some (.inl v3), some (.inl q1.1)], [.inl c2, .inl 1, .inr (.inr 56)], (rset q2.2 57 4 0 c1)) rfl ?_
            refine ec 0 95 [.inr (.inr 56), .inl 1, .inl c2] [] rfl (ev_Row_set rfl rfl _ _ _) ?_
            show Ev 122 95 [some (.inr (.inr 55)), some (.inl c1), some (.inl c2), some (.inl v3), some (.inl q1.1)] [] (rset (rset q2.2 57 4 0 c1) 57 4 1 c2) _ _
            refine ev_runs 4 (95, [some (.inr (.inr 55)), some (.inl c1), some (.inl c2), some (.inl v3), some (.inl q1.1)], [], (rset (rset q2.2 57 4 0 c1) 57 4 1 c2)) (101, [some (.inr (.inr 55)), some (.inl c1), some (.inl c2), some (.inl v3), some (.inl q1.1)], [.inl v3, .inl 2, .inr (.inr 56)], (rset (rset q2.2 57 4 0 c1) 57 4 1 c2)) rfl ?_
            refine ec 0 104 [.inr (.inr 56), .inl 2, .inl v3] [] rfl (ev_Row_set rfl rfl _ _ _) ?_
            show Ev 122 104 [some (.inr (.inr 55)), some (.inl c1), some (.inl c2), some (.inl v3), some (.inl q1.1)] [] (rset (rset (rset q2.2 57 4 0 c1) 57 4 1 c2) 57 4 2 v3) _ _
            refine ev_runs 4 (104, [some (.inr (.inr 55)), some (.inl c1), some (.inl c2), some (.inl v3), some (.inl q1.1)], [], (rset (rset (rset q2.2 57 4 0 c1) 57 4 1 c2) 57 4 2 v3)) (111, [some (.inr (.inr 55)), some (.inl c1), some (.inl c2), some (.inl v3), some (.inl q1.1)], [.inl q1.1, .inl 3, .inr (.inr 56)], (rset (rset (rset q2.2 57 4 0 c1) 57 4 1 c2) 57 4 2 v3)) rfl ?_
            refine ec 0 114 [.inr (.inr 56), .inl 3, .inl q1.1] [] rfl (ev_Row_set rfl rfl _ _ _) ?_
            show Ev 122 114 [some (.inr (.inr 55)), some (.inl c1), some (.inl c2), some (.inl v3), some (.inl q1.1)] [] (rset (rset (rset (rset q2.2 57 4 0 c1) 57 4 1 c2) 57 4 2 v3) 57 4 3 q1.1) _ _
            refine ev_runs 1 (114, [some (.inr (.inr 55)), some (.inl c1), some (.inl c2), some (.inl v3), some (.inl q1.1)], [], (rset (rset (rset (rset q2.2 57 4 0 c1) 57 4 1 c2) 57 4 2 v3) 57 4 3 q1.1)) (115, [some (.inr (.inr 55)), some (.inl c1), some (.inl c2), some (.inl v3), some (.inl q1.1)], [.inl 1], (rset (rset (rset (rset q2.2 57 4 0 c1) 57 4 1 c2) 57 4 2 v3) 57 4 3 q1.1)) rfl ?_
            cases h
            exact er rfl
set_option maxRecDepth 100000 in
set_option maxHeartbeats 4000000 in
theorem ev_Kn_searchFor_l2 (c1 : Int) (K2_128 : Gx → Option (Int × Gx)) (hK2_128 : ∀ (g : Gx) (r : Int) (g' : Gx), K2_128 g = some (r, g') → Ev 122 128 [none, none, none, none, none] [] g (some (.inl r)) g') : ∀ (n2 : Nat) (v2 : Int) (g : Gx) (r : Int) (g' : Gx), Kn_searchFor_l2 c1 K2_128 n2 v2 g = some (r, g') → Ev 122 2 [some (.inr (.inr 55)), some (.inl c1), some (.inl v2), none, none] [] g (some (.inl r)) g' := by
  intro n2
  induction n2 with
  | zero => intro v2 g r g' h; cases h
  | succ n2 ih2 =>
    intro v2 g r g' h
    rw [Kn_searchFor_l2] at h
    refine ev_runs 3 (2, [some (.inr (.inr 55)), some (.inl c1), some (.inl v2), none, none], [], g) (7, [some (.inr (.inr 55)), some (.inl c1), some (.inl v2), none, none], [.inr (.inr 33), .inl v2], g) rfl ?_
    refine ec 74 10 [.inr (.inr 33)] [.inl v2] rfl (ev_Hi_size g _ rfl) ?_
    show Ev 122 10 [some (.inr (.inr 55)), some (.inl c1), some (.inl v2), none, none] [.inl (Hi_size g), .inl v2] g _ _
    by_cases hc : (Hi_size g) ≤ v2
    · rw [if_pos hc] at h
      refine es (128, [some (.inr (.inr 55)), some (.inl c1), some (.inl v2), none, none], [], g) (congrArg some (if_pos hc)) ?_
      exact ev_le (L := [none, none, none, none, none]) (by simp [Lle]) (hK2_128 g r g' h)
    · rw [if_neg hc] at h
      refine es (13, [some (.inr (.inr 55)), some (.inl c1), some (.inl v2), none, none], [], g) (congrArg some (if_neg hc)) ?_
      refine ev_runs 4 (13, [some (.inr (.inr 55)), some (.inl c1), some (.inl v2), none, none], [], g) (17, [some (.inr (.inr 55)), some (.inl c1), some (.inl v2), some (.inl (wr (v2 + 1))), none], [], g) rfl ?_
      refine ev_le (L := [some (.inr (.inr 55)), some (.inl c1), some (.inl v2), some (.inl (wr (v2 + 1))), none]) (by simp [Lle]) ?_
      refine ev_Kn_searchFor_l17 c1 v2 _ ?_ fu (wr (v2 + 1)) g r g' h
      · intro g3 r g' h
        refine ev_runs 2 (122, [some (.inr (.inr 55)), some (.inl c1), some (.inl v2), none, none], [], g3) (2, [some (.inr (.inr 55)), some (.inl c1), some (.inl (wr (v2 + 1))), none, none], [], g3) rfl ?_
        exact ev_le (L := [some (.inr (.inr 55)), some (.inl c1), some (.inl (wr (v2 + 1))), none, none]) (by simp [Lle]) (ih2 (wr (v2 + 1)) g3 r g' h)
set_option maxRecDepth 100000 in
set_option maxHeartbeats 4000000 in
theorem ev_Kn_searchFor (a1 : Int) (g : Gx) (r : Int) (g' : Gx) (h : Kn_searchFor a1 g = some (r, g')) : Ev 122 0 [some (.inr (.inr 55)), some (.inl a1), none, none, none] [] g (some (.inl r)) g' := by
  rw [Kn_searchFor] at h
  refine ev_runs 2 (0, [some (.inr (.inr 55)), some (.inl a1), none, none, none], [], g) (2, [some (.inr (.inr 55)), some (.inl a1), some (.inl 0), none, none], [], g) rfl ?_
  refine ev_le (L := [some (.inr (.inr 55)), some (.inl a1), some (.inl 0), none, none]) (by simp [Lle]) ?_
  refine ev_Kn_searchFor_l2 a1 _ ?_ fu 0 g r g' h
  · intro g4 r g' h
    refine ev_runs 1 (128, [none, none, none, none, none], [], g4) (129, [none, none, none, none, none], [.inl 0], g4) rfl ?_
    cases h
    exact er rfl
def Kn_search_l36 (K36_65 : Gx → Option Gx) : Nat → Int → Gx → Option Gx
  | 0, _, _ => none
  | n36 + 1, v1, g =>
    if 6 ≤ v1 then
      K36_65 g
    else
      Option.bind (Lk_load v1 g) (fun g1 =>
      Option.bind (Kn_searchFor v1 g1) (fun q2 =>
      if q2.1 = 0 then
        Kn_search_l36 K36_65 n36 (wr (v1 + 1)) q2.2
      else
        some q2.2))
def Kn_search (g : Gx) : Option Gx :=
  if ¬ (g 55 5) = (Hi_makings g) then
    Kn_search_l36
      (fun g3 =>
        some g3)
      fu 0 (rfill (gset g 55 5 (Hi_makings g)) 57 4 (-1))
  else
    some g
set_option maxRecDepth 100000 in
set_option maxHeartbeats 4000000 in
theorem ev_Kn_search_l36 (K36_65 : Gx → Option Gx) (hK36_65 : ∀ (g : Gx) (g' : Gx), K36_65 g = some g' → Ev 123 65 [none, none] [] g none g') : ∀ (n36 : Nat) (v1 : Int) (g : Gx) (g' : Gx), Kn_search_l36 K36_65 n36 v1 g = some g' → Ev 123 36 [some (.inr (.inr 55)), some (.inl v1)] [] g none g' := by
  intro n36
  induction n36 with
  | zero => intro v1 g g' h; cases h
  | succ n36 ih36 =>
    intro v1 g g' h
    rw [Kn_search_l36] at h
    refine ev_runs 2 (36, [some (.inr (.inr 55)), some (.inl v1)], [], g) (39, [some (.inr (.inr 55)), some (.inl v1)], [.inl 6, .inl v1], g) rfl ?_
    by_cases hc : 6 ≤ v1
    · rw [if_pos hc] at h
      refine es (65, [some (.inr (.inr 55)), some (.inl v1)], [], g) (congrArg some (if_pos hc)) ?_
      exact ev_le (L := [none, none]) (by simp [Lle]) (hK36_65 g g' h)
    · rw [if_neg hc] at h
      refine es (42, [some (.inr (.inr 55)), some (.inl v1)], [], g) (congrArg some (if_neg hc)) ?_
      refine ev_runs 3 (42, [some (.inr (.inr 55)), some (.inl v1)], [], g) (47, [some (.inr (.inr 55)), some (.inl v1)], [.inl v1, .inr (.inr 50)], g) rfl ?_
      obtain ⟨g1, hq, h⟩ := Option.bind_eq_some_iff.mp h
      refine ec 94 50 [.inr (.inr 50), .inl v1] [] rfl (ev_Lk_load v1 g g1 hq) ?_
      show Ev 123 50 [some (.inr (.inr 55)), some (.inl v1)] [] g1 _ _
      refine ev_runs 2 (50, [some (.inr (.inr 55)), some (.inl v1)], [], g1) (52, [some (.inr (.inr 55)), some (.inl v1)], [.inl v1, .inr (.inr 55)], g1) rfl ?_
      obtain ⟨q2, hq, h⟩ := Option.bind_eq_some_iff.mp h
      refine ec 122 55 [.inr (.inr 55), .inl v1] [] rfl (ev_Kn_searchFor v1 g1 q2.1 q2.2 hq) ?_
      show Ev 123 55 [some (.inr (.inr 55)), some (.inl v1)] [.inl q2.1] q2.2 _ _
      by_cases hc : q2.1 = 0
      · rw [if_pos hc] at h
        refine es (59, [some (.inr (.inr 55)), some (.inl v1)], [], q2.2) (congrArg some (if_pos hc)) ?_
        refine ev_runs 2 (59, [some (.inr (.inr 55)), some (.inl v1)], [], q2.2) (36, [some (.inr (.inr 55)), some (.inl (wr (v1 + 1)))], [], q2.2) rfl ?_
        exact ev_le (L := [some (.inr (.inr 55)), some (.inl (wr (v1 + 1)))]) (by simp [Lle]) (ih36 (wr (v1 + 1)) q2.2 g' h)
      · rw [if_neg hc] at h
        refine es (58, [some (.inr (.inr 55)), some (.inl v1)], [], q2.2) (congrArg some (if_neg hc)) ?_
        cases h
        exact er rfl
set_option maxRecDepth 100000 in
set_option maxHeartbeats 4000000 in
theorem ev_Kn_search (g : Gx) (g' : Gx) (h : Kn_search g = some g') : Ev 123 0 [some (.inr (.inr 55)), none] [] g none g' := by
  rw [Kn_search] at h
  refine ev_runs 4 (0, [some (.inr (.inr 55)), none], [], g) (8, [some (.inr (.inr 55)), none], [.inr (.inr 33), .inl (g 55 5)], g) rfl ?_
  refine ec 118 11 [.inr (.inr 33)] [.inl (g 55 5)] rfl (ev_Hi_makings g _ rfl) ?_
  show Ev 123 11 [some (.inr (.inr 55)), none] [.inl (Hi_makings g), .inl (g 55 5)] g _ _
  by_cases hc : ¬ (g 55 5) = (Hi_makings g)
  · rw [if_pos hc] at h
    refine es (15, [some (.inr (.inr 55)), none], [], g) (congrArg some (if_pos hc)) ?_
    refine ev_runs 3 (15, [some (.inr (.inr 55)), none], [], g) (20, [some (.inr (.inr 55)), none], [.inr (.inr 33), .inr (.inr 55)], g) rfl ?_
    refine ec 118 23 [.inr (.inr 33)] [.inr (.inr 55)] rfl (ev_Hi_makings g _ rfl) ?_
    show Ev 123 23 [some (.inr (.inr 55)), none] [.inl (Hi_makings g), .inr (.inr 55)] g _ _
    refine ev_runs 4 (23, [some (.inr (.inr 55)), none], [.inl (Hi_makings g), .inr (.inr 55)], g) (31, [some (.inr (.inr 55)), none], [.inl (-1), .inr (.inr 56)], (gset g 55 5 (Hi_makings g))) rfl ?_
    refine ec 119 34 [.inr (.inr 56), .inl (-1)] [] rfl (ev_Row_fill rfl rfl (by decide) _ _) ?_
    show Ev 123 34 [some (.inr (.inr 55)), none] [] (rfill (gset g 55 5 (Hi_makings g)) 57 4 (-1)) _ _
    refine ev_runs 2 (34, [some (.inr (.inr 55)), none], [], (rfill (gset g 55 5 (Hi_makings g)) 57 4 (-1))) (36, [some (.inr (.inr 55)), some (.inl 0)], [], (rfill (gset g 55 5 (Hi_makings g)) 57 4 (-1))) rfl ?_
    refine ev_le (L := [some (.inr (.inr 55)), some (.inl 0)]) (by simp [Lle]) ?_
    refine ev_Kn_search_l36 _ ?_ fu 0 (rfill (gset g 55 5 (Hi_makings g)) 57 4 (-1)) g' h
    · intro g3 g' h
      cases h
      exact er rfl
  · rw [if_neg hc] at h
    refine es (14, [some (.inr (.inr 55)), none], [], g) (congrArg some (if_neg hc)) ?_
    cases h
    exact er rfl
def Kn_soundness (g : Gx) : Option (Int × Gx) :=
  Option.bind (Kn_search g) (fun g1 =>
  if ¬ (rat g1 57 4 0) = (-1) then
    some (0, g1)
  else
    some (1, g1))
set_option maxRecDepth 100000 in
set_option maxHeartbeats 4000000 in
theorem ev_Kn_soundness (g : Gx) (r : Int) (g' : Gx) (h : Kn_soundness g = some (r, g')) : Ev 124 0 [some (.inr (.inr 55))] [] g (some (.inl r)) g' := by
  rw [Kn_soundness] at h
  refine ev_runs 1 (0, [some (.inr (.inr 55))], [], g) (1, [some (.inr (.inr 55))], [.inr (.inr 55)], g) rfl ?_
  obtain ⟨g1, hq, h⟩ := Option.bind_eq_some_iff.mp h
  refine ec 123 4 [.inr (.inr 55)] [] rfl (ev_Kn_search g g1 hq) ?_
  show Ev 124 4 [some (.inr (.inr 55))] [] g1 _ _
  refine ev_runs 3 (4, [some (.inr (.inr 55))], [], g1) (9, [some (.inr (.inr 55))], [.inl 0, .inr (.inr 56)], g1) rfl ?_
  refine ec 13 12 [.inr (.inr 56), .inl 0] [] rfl (ev_Row_at rfl rfl _ _) ?_
  show Ev 124 12 [some (.inr (.inr 55))] [.inl (rat g1 57 4 0)] g1 _ _
  refine ev_runs 1 (12, [some (.inr (.inr 55))], [.inl (rat g1 57 4 0)], g1) (13, [some (.inr (.inr 55))], [.inl (-1), .inl (rat g1 57 4 0)], g1) rfl ?_
  by_cases hc : ¬ (rat g1 57 4 0) = (-1)
  · rw [if_pos hc] at h
    refine es (20, [some (.inr (.inr 55))], [], g1) (congrArg some (if_pos hc)) ?_
    refine ev_runs 1 (20, [some (.inr (.inr 55))], [], g1) (21, [some (.inr (.inr 55))], [.inl 0], g1) rfl ?_
    cases h
    exact er rfl
  · rw [if_neg hc] at h
    refine es (16, [some (.inr (.inr 55))], [], g1) (congrArg some (if_neg hc)) ?_
    refine ev_runs 2 (16, [some (.inr (.inr 55))], [], g1) (21, [some (.inr (.inr 55))], [.inl 1], g1) rfl ?_
    cases h
    exact er rfl
def Op_sound (g : Gx) : Option (Int × Gx) :=
  Option.bind (Op_hindrance 0 g) (fun q1 =>
  if q1.1 = 0 then
    Option.bind (Kn_soundness q1.2) (fun q2 =>
    some (q2.1, q2.2))
  else
    some (q1.1, q1.2))
set_option maxRecDepth 100000 in
set_option maxHeartbeats 4000000 in
theorem ev_Op_sound (g : Gx) (r : Int) (g' : Gx) (h : Op_sound g = some (r, g')) : Ev 125 0 [some (.inr (.inr 0)), none] [] g (some (.inl r)) g' := by
  rw [Op_sound] at h
  refine ev_runs 2 (0, [some (.inr (.inr 0)), none], [], g) (2, [some (.inr (.inr 0)), none], [.inl 0, .inr (.inr 0)], g) rfl ?_
  obtain ⟨q1, hq, h⟩ := Option.bind_eq_some_iff.mp h
  refine ec 75 5 [.inr (.inr 0), .inl 0] [] rfl (ev_Op_hindrance 0 g q1.1 q1.2 hq) ?_
  show Ev 125 5 [some (.inr (.inr 0)), none] [.inl q1.1] q1.2 _ _
  refine ev_runs 2 (5, [some (.inr (.inr 0)), none], [.inl q1.1], q1.2) (7, [some (.inr (.inr 0)), some (.inl q1.1)], [.inl q1.1], q1.2) rfl ?_
  by_cases hc : q1.1 = 0
  · rw [if_pos hc] at h
    refine es (14, [some (.inr (.inr 0)), some (.inl q1.1)], [], q1.2) (congrArg some (if_pos hc)) ?_
    refine ev_runs 2 (14, [some (.inr (.inr 0)), some (.inl q1.1)], [], q1.2) (18, [some (.inr (.inr 0)), some (.inl q1.1)], [.inr (.inr 55)], q1.2) rfl ?_
    obtain ⟨q2, hq, h⟩ := Option.bind_eq_some_iff.mp h
    refine ec 124 21 [.inr (.inr 55)] [] rfl (ev_Kn_soundness q1.2 q2.1 q2.2 hq) ?_
    show Ev 125 21 [some (.inr (.inr 0)), some (.inl q1.1)] [.inl q2.1] q2.2 _ _
    cases h
    exact er rfl
  · rw [if_neg hc] at h
    refine es (10, [some (.inr (.inr 0)), some (.inl q1.1)], [], q1.2) (congrArg some (if_neg hc)) ?_
    refine ev_runs 2 (10, [some (.inr (.inr 0)), some (.inl q1.1)], [], q1.2) (21, [some (.inr (.inr 0)), some (.inl q1.1)], [.inl q1.1], q1.2) rfl ?_
    cases h
    exact er rfl
