/-! Methods as functions, and that the small machine does them. Printed by wip/gen/gen_parts.py. -/
def Md_begins_l2 (K2_21 : Gx → Option Gx) : Nat → Int → Gx → Option Gx
  | 0, _, _ => none
  | n2 + 1, v1, g =>
    if 6 ≤ v1 then
      K2_21 g
    else
      if 0 ≤ v1 ∧ v1 < 6 then
      Md_begins_l2 K2_21 n2 (wr (v1 + 1)) (gset g 121 v1.toNat 0)
      else none
def Md_begins_l23 (K23_42 : Gx → Option Gx) : Nat → Int → Gx → Option Gx
  | 0, _, _ => none
  | n23 + 1, v1, g =>
    if 36 ≤ v1 then
      K23_42 g
    else
      if 0 ≤ v1 ∧ v1 < 36 then
      Md_begins_l23 K23_42 n23 (wr (v1 + 1)) (gset g 122 v1.toNat 0)
      else none
def Md_begins (g : Gx) : Option Gx :=
  Md_begins_l2
    (fun g1 =>
      Md_begins_l23
        (fun g2 =>
          some (gset (gset g2 92 43 0) 92 44 0))
        fu 0 g1)
    fu 0 g
set_option maxRecDepth 100000 in
set_option maxHeartbeats 4000000 in
theorem ev_Md_begins_l2 (K2_21 : Gx → Option Gx) (hK2_21 : ∀ (g : Gx) (g' : Gx), K2_21 g = some g' → Ev 148 21 [some (.inr (.inr 92)), none] [] g none g') : ∀ (n2 : Nat) (v1 : Int) (g : Gx) (g' : Gx), Md_begins_l2 K2_21 n2 v1 g = some g' → Ev 148 2 [some (.inr (.inr 92)), some (.inl v1)] [] g none g' := by
  intro n2
  induction n2 with
  | zero => intro v1 g g' h; cases h
  | succ n2 ih2 =>
    intro v1 g g' h
    rw [Md_begins_l2] at h
    refine ev_runs 2 (2, [some (.inr (.inr 92)), some (.inl v1)], [], g) (5, [some (.inr (.inr 92)), some (.inl v1)], [.inl 6, .inl v1], g) rfl ?_
    by_cases hc : 6 ≤ v1
    · rw [if_pos hc] at h
      refine es (21, [some (.inr (.inr 92)), some (.inl v1)], [], g) (congrArg some (if_pos hc)) ?_
      exact ev_le (L := [some (.inr (.inr 92)), none]) (by simp [Lle]) (hK2_21 g g' h)
    · rw [if_neg hc] at h
      refine es (8, [some (.inr (.inr 92)), some (.inl v1)], [], g) (congrArg some (if_neg hc)) ?_
      refine ev_runs 4 (8, [some (.inr (.inr 92)), some (.inl v1)], [], g) (14, [some (.inr (.inr 92)), some (.inl v1)], [.inl 0, .inl v1, .inr (.inr 121)], g) rfl ?_
      by_cases hc : 0 ≤ v1 ∧ v1 < 6
      · rw [if_pos hc] at h
        refine es (15, [some (.inr (.inr 92)), some (.inl v1)], [], (gset g 121 v1.toNat 0)) (if_pos hc) ?_
        refine ev_runs 2 (15, [some (.inr (.inr 92)), some (.inl v1)], [], (gset g 121 v1.toNat 0)) (2, [some (.inr (.inr 92)), some (.inl (wr (v1 + 1)))], [], (gset g 121 v1.toNat 0)) rfl ?_
        exact ev_le (L := [some (.inr (.inr 92)), some (.inl (wr (v1 + 1)))]) (by simp [Lle]) (ih2 (wr (v1 + 1)) (gset g 121 v1.toNat 0) g' h)
      · rw [if_neg hc] at h; cases h
set_option maxRecDepth 100000 in
set_option maxHeartbeats 4000000 in
theorem ev_Md_begins_l23 (K23_42 : Gx → Option Gx) (hK23_42 : ∀ (g : Gx) (g' : Gx), K23_42 g = some g' → Ev 148 42 [some (.inr (.inr 92)), none] [] g none g') : ∀ (n23 : Nat) (v1 : Int) (g : Gx) (g' : Gx), Md_begins_l23 K23_42 n23 v1 g = some g' → Ev 148 23 [some (.inr (.inr 92)), some (.inl v1)] [] g none g' := by
  intro n23
  induction n23 with
  | zero => intro v1 g g' h; cases h
  | succ n23 ih23 =>
    intro v1 g g' h
    rw [Md_begins_l23] at h
    refine ev_runs 2 (23, [some (.inr (.inr 92)), some (.inl v1)], [], g) (26, [some (.inr (.inr 92)), some (.inl v1)], [.inl 36, .inl v1], g) rfl ?_
    by_cases hc : 36 ≤ v1
    · rw [if_pos hc] at h
      refine es (42, [some (.inr (.inr 92)), some (.inl v1)], [], g) (congrArg some (if_pos hc)) ?_
      exact ev_le (L := [some (.inr (.inr 92)), none]) (by simp [Lle]) (hK23_42 g g' h)
    · rw [if_neg hc] at h
      refine es (29, [some (.inr (.inr 92)), some (.inl v1)], [], g) (congrArg some (if_neg hc)) ?_
      refine ev_runs 4 (29, [some (.inr (.inr 92)), some (.inl v1)], [], g) (35, [some (.inr (.inr 92)), some (.inl v1)], [.inl 0, .inl v1, .inr (.inr 122)], g) rfl ?_
      by_cases hc : 0 ≤ v1 ∧ v1 < 36
      · rw [if_pos hc] at h
        refine es (36, [some (.inr (.inr 92)), some (.inl v1)], [], (gset g 122 v1.toNat 0)) (if_pos hc) ?_
        refine ev_runs 2 (36, [some (.inr (.inr 92)), some (.inl v1)], [], (gset g 122 v1.toNat 0)) (23, [some (.inr (.inr 92)), some (.inl (wr (v1 + 1)))], [], (gset g 122 v1.toNat 0)) rfl ?_
        exact ev_le (L := [some (.inr (.inr 92)), some (.inl (wr (v1 + 1)))]) (by simp [Lle]) (ih23 (wr (v1 + 1)) (gset g 122 v1.toNat 0) g' h)
      · rw [if_neg hc] at h; cases h
set_option maxRecDepth 100000 in
set_option maxHeartbeats 4000000 in
theorem ev_Md_begins (g : Gx) (g' : Gx) (h : Md_begins g = some g') : Ev 148 0 [some (.inr (.inr 92)), none] [] g none g' := by
  rw [Md_begins] at h
  refine ev_runs 2 (0, [some (.inr (.inr 92)), none], [], g) (2, [some (.inr (.inr 92)), some (.inl 0)], [], g) rfl ?_
  refine ev_le (L := [some (.inr (.inr 92)), some (.inl 0)]) (by simp [Lle]) ?_
  refine ev_Md_begins_l2 _ ?_ fu 0 g g' h
  · intro g1 g' h
    refine ev_runs 2 (21, [some (.inr (.inr 92)), none], [], g1) (23, [some (.inr (.inr 92)), some (.inl 0)], [], g1) rfl ?_
    refine ev_le (L := [some (.inr (.inr 92)), some (.inl 0)]) (by simp [Lle]) ?_
    refine ev_Md_begins_l23 _ ?_ fu 0 g1 g' h
    · intro g2 g' h
      refine ev_runs 6 (42, [some (.inr (.inr 92)), none], [], g2) (52, [some (.inr (.inr 92)), none], [], (gset (gset g2 92 43 0) 92 44 0)) rfl ?_
      cases h
      exact er rfl
def Md_queueOf (a0 : Int) : Int :=
  (wr ((wr (6 * (Md_from (jrem a0 10000)))) + (Md_to (jrem a0 10000))))
set_option maxRecDepth 100000 in
set_option maxHeartbeats 4000000 in
theorem ev_Md_queueOf (a0 : Int) (g : Gx) (r : Int) (h : Md_queueOf a0 = r) : Ev 149 0 [some (.inl a0)] [] g (some (.inl r)) g := by
  rw [Md_queueOf] at h
  refine ev_runs 4 (0, [some (.inl a0)], [], g) (7, [some (.inl a0)], [.inl (jrem a0 10000), .inl 6], g) rfl ?_
  refine ec 99 10 [.inl (jrem a0 10000)] [.inl 6] rfl (ev_Md_from (jrem a0 10000) g _ rfl) ?_
  show Ev 149 10 [some (.inl a0)] [.inl (Md_from (jrem a0 10000)), .inl 6] g _ _
  refine ev_runs 4 (10, [some (.inl a0)], [.inl (Md_from (jrem a0 10000)), .inl 6], g) (16, [some (.inl a0)], [.inl (jrem a0 10000), .inl (wr (6 * (Md_from (jrem a0 10000))))], g) rfl ?_
  refine ec 100 19 [.inl (jrem a0 10000)] [.inl (wr (6 * (Md_from (jrem a0 10000))))] rfl (ev_Md_to (jrem a0 10000) g _ rfl) ?_
  show Ev 149 19 [some (.inl a0)] [.inl (Md_to (jrem a0 10000)), .inl (wr (6 * (Md_from (jrem a0 10000))))] g _ _
  refine ev_runs 1 (19, [some (.inl a0)], [.inl (Md_to (jrem a0 10000)), .inl (wr (6 * (Md_from (jrem a0 10000))))], g) (20, [some (.inl a0)], [.inl (wr ((wr (6 * (Md_from (jrem a0 10000)))) + (Md_to (jrem a0 10000))))], g) rfl ?_
  subst h
  exact er rfl
def Md_can (a1 a2 a3 : Int) (g : Gx) : Option (Int × Gx) :=
  if 0 ≤ a1 ∧ a1 < 6 then
  if a3 ≤ (g 121 a1.toNat) then
    if (-1) = (-1) then
      some (0, g)
    else
      if (-1) < 20000 then
        some (1, g)
      else
        if 0 ≤ (Md_queueOf (-1)) ∧ (Md_queueOf (-1)) < 36 then
        if (g 122 (Md_queueOf (-1)).toNat) ≤ 0 then
          some (0, g)
        else
          some (1, g)
        else none
  else
    if 0 ≤ a1 ∧ a1 < 6 then
    Option.bind (Md_lookAt a1 a2 (g 121 a1.toNat) g) (fun q1 =>
    if q1.1 = (-1) then
      some (0, q1.2)
    else
      if q1.1 < 20000 then
        some (1, q1.2)
      else
        if 0 ≤ (Md_queueOf q1.1) ∧ (Md_queueOf q1.1) < 36 then
        if (q1.2 122 (Md_queueOf q1.1).toNat) ≤ 0 then
          some (0, q1.2)
        else
          some (1, q1.2)
        else none)
    else none
  else none
set_option maxRecDepth 100000 in
set_option maxHeartbeats 4000000 in
theorem ev_Md_can (a1 a2 a3 : Int) (g : Gx) (r : Int) (g' : Gx) (h : Md_can a1 a2 a3 g = some (r, g')) : Ev 150 0 [some (.inr (.inr 92)), some (.inl a1), some (.inl a2), some (.inl a3), none] [] g (some (.inl r)) g' := by
  rw [Md_can] at h
  refine ev_runs 3 (0, [some (.inr (.inr 92)), some (.inl a1), some (.inl a2), some (.inl a3), none], [], g) (5, [some (.inr (.inr 92)), some (.inl a1), some (.inl a2), some (.inl a3), none], [.inl a1, .inr (.inr 121)], g) rfl ?_
  by_cases hc : 0 ≤ a1 ∧ a1 < 6
  · rw [if_pos hc] at h
    refine es (6, [some (.inr (.inr 92)), some (.inl a1), some (.inl a2), some (.inl a3), none], [.inl (g 121 a1.toNat)], g) (if_pos hc) ?_
    refine ev_runs 1 (6, [some (.inr (.inr 92)), some (.inl a1), some (.inl a2), some (.inl a3), none], [.inl (g 121 a1.toNat)], g) (7, [some (.inr (.inr 92)), some (.inl a1), some (.inl a2), some (.inl a3), none], [.inl a3, .inl (g 121 a1.toNat)], g) rfl ?_
    by_cases hc : a3 ≤ (g 121 a1.toNat)
    · rw [if_pos hc] at h
      refine es (25, [some (.inr (.inr 92)), some (.inl a1), some (.inl a2), some (.inl a3), none], [], g) (congrArg some (if_pos hc)) ?_
      refine ev_runs 4 (25, [some (.inr (.inr 92)), some (.inl a1), some (.inl a2), some (.inl a3), none], [], g) (31, [some (.inr (.inr 92)), some (.inl a1), some (.inl a2), some (.inl a3), some (.inl (-1))], [.inl (-1), .inl (-1)], g) rfl ?_
      by_cases hc : (-1) = (-1)
      · rw [if_pos hc] at h
        refine es (59, [some (.inr (.inr 92)), some (.inl a1), some (.inl a2), some (.inl a3), some (.inl (-1))], [], g) (congrArg some (if_pos hc)) ?_
        refine ev_runs 1 (59, [some (.inr (.inr 92)), some (.inl a1), some (.inl a2), some (.inl a3), some (.inl (-1))], [], g) (60, [some (.inr (.inr 92)), some (.inl a1), some (.inl a2), some (.inl a3), some (.inl (-1))], [.inl 0], g) rfl ?_
        cases h
        exact er rfl
      · rw [if_neg hc] at h
        refine es (34, [some (.inr (.inr 92)), some (.inl a1), some (.inl a2), some (.inl a3), some (.inl (-1))], [], g) (congrArg some (if_neg hc)) ?_
        refine ev_runs 2 (34, [some (.inr (.inr 92)), some (.inl a1), some (.inl a2), some (.inl a3), some (.inl (-1))], [], g) (39, [some (.inr (.inr 92)), some (.inl a1), some (.inl a2), some (.inl a3), some (.inl (-1))], [.inl 20000, .inl (-1)], g) rfl ?_
        by_cases hc : (-1) < 20000
        · rw [if_pos hc] at h
          refine es (55, [some (.inr (.inr 92)), some (.inl a1), some (.inl a2), some (.inl a3), some (.inl (-1))], [], g) (congrArg some (if_pos hc)) ?_
          refine ev_runs 2 (55, [some (.inr (.inr 92)), some (.inl a1), some (.inl a2), some (.inl a3), some (.inl (-1))], [], g) (60, [some (.inr (.inr 92)), some (.inl a1), some (.inl a2), some (.inl a3), some (.inl (-1))], [.inl 1], g) rfl ?_
          cases h
          exact er rfl
        · rw [if_neg hc] at h
          refine es (42, [some (.inr (.inr 92)), some (.inl a1), some (.inl a2), some (.inl a3), some (.inl (-1))], [], g) (congrArg some (if_neg hc)) ?_
          refine ev_runs 3 (42, [some (.inr (.inr 92)), some (.inl a1), some (.inl a2), some (.inl a3), some (.inl (-1))], [], g) (48, [some (.inr (.inr 92)), some (.inl a1), some (.inl a2), some (.inl a3), some (.inl (-1))], [.inl (-1), .inr (.inr 122)], g) rfl ?_
          refine ec 149 51 [.inl (-1)] [.inr (.inr 122)] rfl (ev_Md_queueOf (-1) g _ rfl) ?_
          show Ev 150 51 [some (.inr (.inr 92)), some (.inl a1), some (.inl a2), some (.inl a3), some (.inl (-1))] [.inl (Md_queueOf (-1)), .inr (.inr 122)] g _ _
          by_cases hc : 0 ≤ (Md_queueOf (-1)) ∧ (Md_queueOf (-1)) < 36
          · rw [if_pos hc] at h
            refine es (52, [some (.inr (.inr 92)), some (.inl a1), some (.inl a2), some (.inl a3), some (.inl (-1))], [.inl (g 122 (Md_queueOf (-1)).toNat)], g) (if_pos hc) ?_
            by_cases hc : (g 122 (Md_queueOf (-1)).toNat) ≤ 0
            · rw [if_pos hc] at h
              refine es (59, [some (.inr (.inr 92)), some (.inl a1), some (.inl a2), some (.inl a3), some (.inl (-1))], [], g) (congrArg some (if_pos hc)) ?_
              refine ev_runs 1 (59, [some (.inr (.inr 92)), some (.inl a1), some (.inl a2), some (.inl a3), some (.inl (-1))], [], g) (60, [some (.inr (.inr 92)), some (.inl a1), some (.inl a2), some (.inl a3), some (.inl (-1))], [.inl 0], g) rfl ?_
              cases h
              exact er rfl
            · rw [if_neg hc] at h
              refine es (55, [some (.inr (.inr 92)), some (.inl a1), some (.inl a2), some (.inl a3), some (.inl (-1))], [], g) (congrArg some (if_neg hc)) ?_
              refine ev_runs 2 (55, [some (.inr (.inr 92)), some (.inl a1), some (.inl a2), some (.inl a3), some (.inl (-1))], [], g) (60, [some (.inr (.inr 92)), some (.inl a1), some (.inl a2), some (.inl a3), some (.inl (-1))], [.inl 1], g) rfl ?_
              cases h
              exact er rfl
          · rw [if_neg hc] at h; cases h
    · rw [if_neg hc] at h
      refine es (10, [some (.inr (.inr 92)), some (.inl a1), some (.inl a2), some (.inl a3), none], [], g) (congrArg some (if_neg hc)) ?_
      refine ev_runs 6 (10, [some (.inr (.inr 92)), some (.inl a1), some (.inl a2), some (.inl a3), none], [], g) (18, [some (.inr (.inr 92)), some (.inl a1), some (.inl a2), some (.inl a3), none], [.inl a1, .inr (.inr 121), .inl a2, .inl a1, .inr (.inr 92)], g) rfl ?_
      by_cases hc : 0 ≤ a1 ∧ a1 < 6
      · rw [if_pos hc] at h
        refine es (19, [some (.inr (.inr 92)), some (.inl a1), some (.inl a2), some (.inl a3), none], [.inl (g 121 a1.toNat), .inl a2, .inl a1, .inr (.inr 92)], g) (if_pos hc) ?_
        obtain ⟨q1, hq, h⟩ := Option.bind_eq_some_iff.mp h
        refine ec 102 22 [.inr (.inr 92), .inl a1, .inl a2, .inl (g 121 a1.toNat)] [] rfl (ev_Md_lookAt a1 a2 (g 121 a1.toNat) g q1.1 q1.2 hq) ?_
        show Ev 150 22 [some (.inr (.inr 92)), some (.inl a1), some (.inl a2), some (.inl a3), none] [.inl q1.1] q1.2 _ _
        refine ev_runs 4 (22, [some (.inr (.inr 92)), some (.inl a1), some (.inl a2), some (.inl a3), none], [.inl q1.1], q1.2) (31, [some (.inr (.inr 92)), some (.inl a1), some (.inl a2), some (.inl a3), some (.inl q1.1)], [.inl (-1), .inl q1.1], q1.2) rfl ?_
        by_cases hc : q1.1 = (-1)
        · rw [if_pos hc] at h
          refine es (59, [some (.inr (.inr 92)), some (.inl a1), some (.inl a2), some (.inl a3), some (.inl q1.1)], [], q1.2) (congrArg some (if_pos hc)) ?_
          refine ev_runs 1 (59, [some (.inr (.inr 92)), some (.inl a1), some (.inl a2), some (.inl a3), some (.inl q1.1)], [], q1.2) (60, [some (.inr (.inr 92)), some (.inl a1), some (.inl a2), some (.inl a3), some (.inl q1.1)], [.inl 0], q1.2) rfl ?_
          cases h
          exact er rfl
        · rw [if_neg hc] at h
          refine es (34, [some (.inr (.inr 92)), some (.inl a1), some (.inl a2), some (.inl a3), some (.inl q1.1)], [], q1.2) (congrArg some (if_neg hc)) ?_
          refine ev_runs 2 (34, [some (.inr (.inr 92)), some (.inl a1), some (.inl a2), some (.inl a3), some (.inl q1.1)], [], q1.2) (39, [some (.inr (.inr 92)), some (.inl a1), some (.inl a2), some (.inl a3), some (.inl q1.1)], [.inl 20000, .inl q1.1], q1.2) rfl ?_
          by_cases hc : q1.1 < 20000
          · rw [if_pos hc] at h
            refine es (55, [some (.inr (.inr 92)), some (.inl a1), some (.inl a2), some (.inl a3), some (.inl q1.1)], [], q1.2) (congrArg some (if_pos hc)) ?_
            refine ev_runs 2 (55, [some (.inr (.inr 92)), some (.inl a1), some (.inl a2), some (.inl a3), some (.inl q1.1)], [], q1.2) (60, [some (.inr (.inr 92)), some (.inl a1), some (.inl a2), some (.inl a3), some (.inl q1.1)], [.inl 1], q1.2) rfl ?_
            cases h
            exact er rfl
          · rw [if_neg hc] at h
            refine es (42, [some (.inr (.inr 92)), some (.inl a1), some (.inl a2), some (.inl a3), some (.inl q1.1)], [], q1.2) (congrArg some (if_neg hc)) ?_
            refine ev_runs 3 (42, [some (.inr (.inr 92)), some (.inl a1), some (.inl a2), some (.inl a3), some (.inl q1.1)], [], q1.2) (48, [some (.inr (.inr 92)), some (.inl a1), some (.inl a2), some (.inl a3), some (.inl q1.1)], [.inl q1.1, .inr (.inr 122)], q1.2) rfl ?_
            refine ec 149 51 [.inl q1.1] [.inr (.inr 122)] rfl (ev_Md_queueOf q1.1 q1.2 _ rfl) ?_
            show Ev 150 51 [some (.inr (.inr 92)), some (.inl a1), some (.inl a2), some (.inl a3), some (.inl q1.1)] [.inl (Md_queueOf q1.1), .inr (.inr 122)] q1.2 _ _
            by_cases hc : 0 ≤ (Md_queueOf q1.1) ∧ (Md_queueOf q1.1) < 36
            · rw [if_pos hc] at h
              refine es (52, [some (.inr (.inr 92)), some (.inl a1), some (.inl a2), some (.inl a3), some (.inl q1.1)], [.inl (q1.2 122 (Md_queueOf q1.1).toNat)], q1.2) (if_pos hc) ?_
              by_cases hc : (q1.2 122 (Md_queueOf q1.1).toNat) ≤ 0
              · rw [if_pos hc] at h
                refine es (59, [some (.inr (.inr 92)), some (.inl a1), some (.inl a2), some (.inl a3), some (.inl q1.1)], [], q1.2) (congrArg some (if_pos hc)) ?_
                refine ev_runs 1 (59, [some (.inr (.inr 92)), some (.inl a1), some (.inl a2), some (.inl a3), some (.inl q1.1)], [], q1.2) (60, [some (.inr (.inr 92)), some (.inl a1), some (.inl a2), some (.inl a3), some (.inl q1.1)], [.inl 0], q1.2) rfl ?_
                cases h
                exact er rfl
              · rw [if_neg hc] at h
                refine es (55, [some (.inr (.inr 92)), some (.inl a1), some (.inl a2), some (.inl a3), some (.inl q1.1)], [], q1.2) (congrArg some (if_neg hc)) ?_
                refine ev_runs 2 (55, [some (.inr (.inr 92)), some (.inl a1), some (.inl a2), some (.inl a3), some (.inl q1.1)], [], q1.2) (60, [some (.inr (.inr 92)), some (.inl a1), some (.inl a2), some (.inl a3), some (.inl q1.1)], [.inl 1], q1.2) rfl ?_
                cases h
                exact er rfl
            · rw [if_neg hc] at h; cases h
      · rw [if_neg hc] at h; cases h
  · rw [if_neg hc] at h; cases h
def Md_does (a1 a2 : Int) (g : Gx) : Option Gx :=
  if 0 ≤ a1 ∧ a1 < 6 then
  Option.bind (Md_lookAt a1 a2 (g 121 a1.toNat) g) (fun q1 =>
  if 0 ≤ (Md_queueOf q1.1) ∧ (Md_queueOf q1.1) < 36 then
  lett (if 20000 ≤ q1.1 then (-1) else 1) (fun y2 =>
  if 0 ≤ (Md_queueOf q1.1) ∧ (Md_queueOf q1.1) < 36 then
  if 0 ≤ (Md_queueOf q1.1) ∧ (Md_queueOf q1.1) < 36 then
  if ((gset q1.2 122 ((Md_queueOf q1.1).toNat) (wr ((q1.2 122 (Md_queueOf q1.1).toNat) + y2))) 122 (Md_queueOf q1.1).toNat) ≤ (q1.2 92 44) then
    if 0 ≤ a1 ∧ a1 < 6 then
    if 0 ≤ a1 ∧ a1 < 6 then
    some (gset (gset (gset q1.2 122 ((Md_queueOf q1.1).toNat) (wr ((q1.2 122 (Md_queueOf q1.1).toNat) + y2))) 92 44 (q1.2 92 44)) 121 a1.toNat (wr ((q1.2 121 a1.toNat) + 1)))
    else none
    else none
  else
    if 0 ≤ (Md_queueOf q1.1) ∧ (Md_queueOf q1.1) < 36 then
    if 0 ≤ a1 ∧ a1 < 6 then
    if 0 ≤ a1 ∧ a1 < 6 then
    some (gset (gset (gset q1.2 122 ((Md_queueOf q1.1).toNat) (wr ((q1.2 122 (Md_queueOf q1.1).toNat) + y2))) 92 44 ((gset q1.2 122 ((Md_queueOf q1.1).toNat) (wr ((q1.2 122 (Md_queueOf q1.1).toNat) + y2))) 122 (Md_queueOf q1.1).toNat)) 121 a1.toNat (wr ((q1.2 121 a1.toNat) + 1)))
    else none
    else none
    else none
  else none
  else none)
  else none)
  else none
set_option maxRecDepth 100000 in
set_option maxHeartbeats 4000000 in
theorem ev_Md_does (a1 a2 : Int) (g : Gx) (g' : Gx) (h : Md_does a1 a2 g = some g') : Ev 151 0 [some (.inr (.inr 92)), some (.inl a1), some (.inl a2), none, none] [] g none g' := by
  rw [Md_does] at h
  refine ev_runs 6 (0, [some (.inr (.inr 92)), some (.inl a1), some (.inl a2), none, none], [], g) (8, [some (.inr (.inr 92)), some (.inl a1), some (.inl a2), none, none], [.inl a1, .inr (.inr 121), .inl a2, .inl a1, .inr (.inr 92)], g) rfl ?_
  by_cases hc : 0 ≤ a1 ∧ a1 < 6
  · rw [if_pos hc] at h
    refine es (9, [some (.inr (.inr 92)), some (.inl a1), some (.inl a2), none, none], [.inl (g 121 a1.toNat), .inl a2, .inl a1, .inr (.inr 92)], g) (if_pos hc) ?_
    obtain ⟨q1, hq, h⟩ := Option.bind_eq_some_iff.mp h
    refine ec 102 12 [.inr (.inr 92), .inl a1, .inl a2, .inl (g 121 a1.toNat)] [] rfl (ev_Md_lookAt a1 a2 (g 121 a1.toNat) g q1.1 q1.2 hq) ?_
    show Ev 151 12 [some (.inr (.inr 92)), some (.inl a1), some (.inl a2), none, none] [.inl q1.1] q1.2 _ _
    refine ev_runs 2 (12, [some (.inr (.inr 92)), some (.inl a1), some (.inl a2), none, none], [.inl q1.1], q1.2) (14, [some (.inr (.inr 92)), some (.inl a1), some (.inl a2), some (.inl q1.1), none], [.inl q1.1], q1.2) rfl ?_
    refine ec 149 17 [.inl q1.1] [] rfl (ev_Md_queueOf q1.1 q1.2 _ rfl) ?_
    show Ev 151 17 [some (.inr (.inr 92)), some (.inl a1), some (.inl a2), some (.inl q1.1), none] [.inl (Md_queueOf q1.1)] q1.2 _ _
    refine ev_runs 5 (17, [some (.inr (.inr 92)), some (.inl a1), some (.inl a2), some (.inl q1.1), none], [.inl (Md_queueOf q1.1)], q1.2) (26, [some (.inr (.inr 92)), some (.inl a1), some (.inl a2), some (.inl q1.1), some (.inl (Md_queueOf q1.1))], [.inl (Md_queueOf q1.1), .inr (.inr 122), .inl (Md_queueOf q1.1), .inr (.inr 122)], q1.2) rfl ?_
    by_cases hc : 0 ≤ (Md_queueOf q1.1) ∧ (Md_queueOf q1.1) < 36
    · rw [if_pos hc] at h
      refine es (27, [some (.inr (.inr 92)), some (.inl a1), some (.inl a2), some (.inl q1.1), some (.inl (Md_queueOf q1.1))], [.inl (q1.2 122 (Md_queueOf q1.1).toNat), .inl (Md_queueOf q1.1), .inr (.inr 122)], q1.2) (if_pos hc) ?_
      refine ev_runs 2 (27, [some (.inr (.inr 92)), some (.inl a1), some (.inl a2), some (.inl q1.1), some (.inl (Md_queueOf q1.1))], [.inl (q1.2 122 (Md_queueOf q1.1).toNat), .inl (Md_queueOf q1.1), .inr (.inr 122)], q1.2) (31, [some (.inr (.inr 92)), some (.inl a1), some (.inl a2), some (.inl q1.1), some (.inl (Md_queueOf q1.1))], [.inl 20000, .inl q1.1, .inl (q1.2 122 (Md_queueOf q1.1).toNat), .inl (Md_queueOf q1.1), .inr (.inr 122)], q1.2) rfl ?_
      obtain ⟨y2, hy2, h⟩ := lett_inv h
      have hjy2 : Ev 151 39 [some (.inr (.inr 92)), some (.inl a1), none, none, some (.inl (Md_queueOf q1.1))] [.inl y2, .inl (q1.2 122 (Md_queueOf q1.1).toNat), .inl (Md_queueOf q1.1), .inr (.inr 122)] q1.2 none g' := by
        refine ev_runs 1 (39, [some (.inr (.inr 92)), some (.inl a1), none, none, some (.inl (Md_queueOf q1.1))], [.inl y2, .inl (q1.2 122 (Md_queueOf q1.1).toNat), .inl (Md_queueOf q1.1), .inr (.inr 122)], q1.2) (40, [some (.inr (.inr 92)), some (.inl a1), none, none, some (.inl (Md_queueOf q1.1))], [.inl (wr ((q1.2 122 (Md_queueOf q1.1).toNat) + y2)), .inl (Md_queueOf q1.1), .inr (.inr 122)], q1.2) rfl ?_
        by_cases hc : 0 ≤ (Md_queueOf q1.1) ∧ (Md_queueOf q1.1) < 36
        · rw [if_pos hc] at h
          refine es (41, [some (.inr (.inr 92)), some (.inl a1), none, none, some (.inl (Md_queueOf q1.1))], [], (gset q1.2 122 ((Md_queueOf q1.1).toNat) (wr ((q1.2 122 (Md_queueOf q1.1).toNat) + y2)))) (if_pos hc) ?_
          refine ev_runs 4 (41, [some (.inr (.inr 92)), some (.inl a1), none, none, some (.inl (Md_queueOf q1.1))], [], (gset q1.2 122 ((Md_queueOf q1.1).toNat) (wr ((q1.2 122 (Md_queueOf q1.1).toNat) + y2)))) (48, [some (.inr (.inr 92)), some (.inl a1), none, none, some (.inl (Md_queueOf q1.1))], [.inl (Md_queueOf q1.1), .inr (.inr 122), .inr (.inr 92)], (gset q1.2 122 ((Md_queueOf q1.1).toNat) (wr ((q1.2 122 (Md_queueOf q1.1).toNat) + y2)))) rfl ?_
          by_cases hc : 0 ≤ (Md_queueOf q1.1) ∧ (Md_queueOf q1.1) < 36
          · rw [if_pos hc] at h
            refine es (49, [some (.inr (.inr 92)), some (.inl a1), none, none, some (.inl (Md_queueOf q1.1))], [.inl ((gset q1.2 122 ((Md_queueOf q1.1).toNat) (wr ((q1.2 122 (Md_queueOf q1.1).toNat) + y2))) 122 (Md_queueOf q1.1).toNat), .inr (.inr 92)], (gset q1.2 122 ((Md_queueOf q1.1).toNat) (wr ((q1.2 122 (Md_queueOf q1.1).toNat) + y2)))) (if_pos hc) ?_
            refine ev_runs 2 (49, [some (.inr (.inr 92)), some (.inl a1), none, none, some (.inl (Md_queueOf q1.1))], [.inl ((gset q1.2 122 ((Md_queueOf q1.1).toNat) (wr ((q1.2 122 (Md_queueOf q1.1).toNat) + y2))) 122 (Md_queueOf q1.1).toNat), .inr (.inr 92)], (gset q1.2 122 ((Md_queueOf q1.1).toNat) (wr ((q1.2 122 (Md_queueOf q1.1).toNat) + y2)))) (53, [some (.inr (.inr 92)), some (.inl a1), none, none, some (.inl (Md_queueOf q1.1))], [.inl (q1.2 92 44), .inl ((gset q1.2 122 ((Md_queueOf q1.1).toNat) (wr ((q1.2 122 (Md_queueOf q1.1).toNat) + y2))) 122 (Md_queueOf q1.1).toNat), .inr (.inr 92)], (gset q1.2 122 ((Md_queueOf q1.1).toNat) (wr ((q1.2 122 (Md_queueOf q1.1).toNat) + y2)))) rfl ?_
            by_cases hc : ((gset q1.2 122 ((Md_queueOf q1.1).toNat) (wr ((q1.2 122 (Md_queueOf q1.1).toNat) + y2))) 122 (Md_queueOf q1.1).toNat) ≤ (q1.2 92 44)
            · rw [if_pos hc] at h
              refine es (66, [some (.inr (.inr 92)), some (.inl a1), none, none, some (.inl (Md_queueOf q1.1))], [.inr (.inr 92)], (gset q1.2 122 ((Md_queueOf q1.1).toNat) (wr ((q1.2 122 (Md_queueOf q1.1).toNat) + y2)))) (congrArg some (if_pos hc)) ?_
              refine ev_runs 7 (66, [some (.inr (.inr 92)), some (.inl a1), none, none, some (.inl (Md_queueOf q1.1))], [.inr (.inr 92)], (gset q1.2 122 ((Md_queueOf q1.1).toNat) (wr ((q1.2 122 (Md_queueOf q1.1).toNat) + y2)))) (79, [some (.inr (.inr 92)), some (.inl a1), none, none, some (.inl (Md_queueOf q1.1))], [.inl a1, .inr (.inr 121), .inl a1, .inr (.inr 121)], (gset (gset q1.2 122 ((Md_queueOf q1.1).toNat) (wr ((q1.2 122 (Md_queueOf q1.1).toNat) + y2))) 92 44 (q1.2 92 44))) rfl ?_
              by_cases hc : 0 ≤ a1 ∧ a1 < 6
              · rw [if_pos hc] at h
                refine es (80, [some (.inr (.inr 92)), some (.inl a1), none, none, some (.inl (Md_queueOf q1.1))], [.inl (q1.2 121 a1.toNat), .inl a1, .inr (.inr 121)], (gset (gset q1.2 122 ((Md_queueOf q1.1).toNat) (wr ((q1.2 122 (Md_queueOf q1.1).toNat) + y2))) 92 44 (q1.2 92 44))) (if_pos hc) ?_
                refine ev_runs 2 (80, [some (.inr (.inr 92)), some (.inl a1), none, none, some (.inl (Md_queueOf q1.1))], [.inl (q1.2 121 a1.toNat), .inl a1, .inr (.inr 121)], (gset (gset q1.2 122 ((Md_queueOf q1.1).toNat) (wr ((q1.2 122 (Md_queueOf q1.1).toNat) + y2))) 92 44 (q1.2 92 44))) (82, [some (.inr (.inr 92)), some (.inl a1), none, none, some (.inl (Md_queueOf q1.1))], [.inl (wr ((q1.2 121 a1.toNat) + 1)), .inl a1, .inr (.inr 121)], (gset (gset q1.2 122 ((Md_queueOf q1.1).toNat) (wr ((q1.2 122 (Md_queueOf q1.1).toNat) + y2))) 92 44 (q1.2 92 44))) rfl ?_
                by_cases hc : 0 ≤ a1 ∧ a1 < 6
                · rw [if_pos hc] at h
                  refine es (83, [some (.inr (.inr 92)), some (.inl a1), none, none, some (.inl (Md_queueOf q1.1))], [], (gset (gset (gset q1.2 122 ((Md_queueOf q1.1).toNat) (wr ((q1.2 122 (Md_queueOf q1.1).toNat) + y2))) 92 44 (q1.2 92 44)) 121 a1.toNat (wr ((q1.2 121 a1.toNat) + 1)))) (if_pos hc) ?_
                  cases h
                  exact er rfl
                · rw [if_neg hc] at h; cases h
              · rw [if_neg hc] at h; cases h
            · rw [if_neg hc] at h
              refine es (56, [some (.inr (.inr 92)), some (.inl a1), none, none, some (.inl (Md_queueOf q1.1))], [.inr (.inr 92)], (gset q1.2 122 ((Md_queueOf q1.1).toNat) (wr ((q1.2 122 (Md_queueOf q1.1).toNat) + y2)))) (congrArg some (if_neg hc)) ?_
              refine ev_runs 3 (56, [some (.inr (.inr 92)), some (.inl a1), none, none, some (.inl (Md_queueOf q1.1))], [.inr (.inr 92)], (gset q1.2 122 ((Md_queueOf q1.1).toNat) (wr ((q1.2 122 (Md_queueOf q1.1).toNat) + y2)))) (62, [some (.inr (.inr 92)), some (.inl a1), none, none, some (.inl (Md_queueOf q1.1))], [.inl (Md_queueOf q1.1), .inr (.inr 122), .inr (.inr 92)], (gset q1.2 122 ((Md_queueOf q1.1).toNat) (wr ((q1.2 122 (Md_queueOf q1.1).toNat) + y2)))) rfl ?_
              by_cases hc : 0 ≤ (Md_queueOf q1.1) ∧ (Md_queueOf q1.1) < 36
              · rw [if_pos hc] at h
                refine es (63, [some (.inr (.inr 92)), some (.inl a1), none, none, some (.inl (Md_queueOf q1.1))], [.inl ((gset q1.2 122 ((Md_queueOf q1.1).toNat) (wr ((q1.2 122 (Md_queueOf q1.1).toNat) + y2))) 122 (Md_queueOf q1.1).toNat), .inr (.inr 92)], (gset q1.2 122 ((Md_queueOf q1.1).toNat) (wr ((q1.2 122 (Md_queueOf q1.1).toNat) + y2)))) (if_pos hc) ?_
                refine ev_runs 6 (63, [some (.inr (.inr 92)), some (.inl a1), none, none, some (.inl (Md_queueOf q1.1))], [.inl ((gset q1.2 122 ((Md_queueOf q1.1).toNat) (wr ((q1.2 122 (Md_queueOf q1.1).toNat) + y2))) 122 (Md_queueOf q1.1).toNat), .inr (.inr 92)], (gset q1.2 122 ((Md_queueOf q1.1).toNat) (wr ((q1.2 122 (Md_queueOf q1.1).toNat) + y2)))) (79, [some (.inr (.inr 92)), some (.inl a1), none, none, some (.inl (Md_queueOf q1.1))], [.inl a1, .inr (.inr 121), .inl a1, .inr (.inr 121)], (gset (gset q1.2 122 ((Md_queueOf q1.1).toNat) (wr ((q1.2 122 (Md_queueOf q1.1).toNat) + y2))) 92 44 ((gset q1.2 122 ((Md_queueOf q1.1).toNat) (wr ((q1.2 122 (Md_queueOf q1.1).toNat) + y2))) 122 (Md_queueOf q1.1).toNat))) rfl ?_
                by_cases hc : 0 ≤ a1 ∧ a1 < 6
                · rw [if_pos hc] at h
                  refine es (80, [some (.inr (.inr 92)), some (.inl a1), none, none, some (.inl (Md_queueOf q1.1))], [.inl (q1.2 121 a1.toNat), .inl a1, .inr (.inr 121)], (gset (gset q1.2 122 ((Md_queueOf q1.1).toNat) (wr ((q1.2 122 (Md_queueOf q1.1).toNat) + y2))) 92 44 ((gset q1.2 122 ((Md_queueOf q1.1).toNat) (wr ((q1.2 122 (Md_queueOf q1.1).toNat) + y2))) 122 (Md_queueOf q1.1).toNat))) (if_pos hc) ?_
                  refine ev_runs 2 (80, [some (.inr (.inr 92)), some (.inl a1), none, none, some (.inl (Md_queueOf q1.1))], [.inl (q1.2 121 a1.toNat), .inl a1, .inr (.inr 121)], (gset (gset q1.2 122 ((Md_queueOf q1.1).toNat) (wr ((q1.2 122 (Md_queueOf q1.1).toNat) + y2))) 92 44 ((gset q1.2 122 ((Md_queueOf q1.1).toNat) (wr ((q1.2 122 (Md_queueOf q1.1).toNat) + y2))) 122 (Md_queueOf q1.1).toNat))) (82, [some (.inr (.inr 92)), some (.inl a1), none, none, some (.inl (Md_queueOf q1.1))], [.inl (wr ((q1.2 121 a1.toNat) + 1)), .inl a1, .inr (.inr 121)], (gset (gset q1.2 122 ((Md_queueOf q1.1).toNat) (wr ((q1.2 122 (Md_queueOf q1.1).toNat) + y2))) 92 44 ((gset q1.2 122 ((Md_queueOf q1.1).toNat) (wr ((q1.2 122 (Md_queueOf q1.1).toNat) + y2))) 122 (Md_queueOf q1.1).toNat))) rfl ?_
                  by_cases hc : 0 ≤ a1 ∧ a1 < 6
                  · rw [if_pos hc] at h
                    refine es (83, [some (.inr (.inr 92)), some (.inl a1), none, none, some (.inl (Md_queueOf q1.1))], [], (gset (gset (gset q1.2 122 ((Md_queueOf q1.1).toNat) (wr ((q1.2 122 (Md_queueOf q1.1).toNat) + y2))) 92 44 ((gset q1.2 122 ((Md_queueOf q1.1).toNat) (wr ((q1.2 122 (Md_queueOf q1.1).toNat) + y2))) 122 (Md_queueOf q1.1).toNat)) 121 a1.toNat (wr ((q1.2 121 a1.toNat) + 1)))) (if_pos hc) ?_
                    cases h
                    exact er rfl
                  · rw [if_neg hc] at h; cases h
                · rw [if_neg hc] at h; cases h
              · rw [if_neg hc] at h; cases h
          · rw [if_neg hc] at h; cases h
        · rw [if_neg hc] at h; cases h
      by_cases hc : 20000 ≤ q1.1
      · rw [if_pos hc] at hy2
        refine es (38, [some (.inr (.inr 92)), some (.inl a1), some (.inl a2), some (.inl q1.1), some (.inl (Md_queueOf q1.1))], [.inl (q1.2 122 (Md_queueOf q1.1).toNat), .inl (Md_queueOf q1.1), .inr (.inr 122)], q1.2) (congrArg some (if_pos hc)) ?_
        refine ev_runs 1 (38, [some (.inr (.inr 92)), some (.inl a1), some (.inl a2), some (.inl q1.1), some (.inl (Md_queueOf q1.1))], [.inl (q1.2 122 (Md_queueOf q1.1).toNat), .inl (Md_queueOf q1.1), .inr (.inr 122)], q1.2) (39, [some (.inr (.inr 92)), some (.inl a1), some (.inl a2), some (.inl q1.1), some (.inl (Md_queueOf q1.1))], [.inl (-1), .inl (q1.2 122 (Md_queueOf q1.1).toNat), .inl (Md_queueOf q1.1), .inr (.inr 122)], q1.2) rfl ?_
        rw [hy2] at hjy2
        exact ev_le (L := [some (.inr (.inr 92)), some (.inl a1), none, none, some (.inl (Md_queueOf q1.1))]) (by simp [Lle]) hjy2
      · rw [if_neg hc] at hy2
        refine es (34, [some (.inr (.inr 92)), some (.inl a1), some (.inl a2), some (.inl q1.1), some (.inl (Md_queueOf q1.1))], [.inl (q1.2 122 (Md_queueOf q1.1).toNat), .inl (Md_queueOf q1.1), .inr (.inr 122)], q1.2) (congrArg some (if_neg hc)) ?_
        refine ev_runs 2 (34, [some (.inr (.inr 92)), some (.inl a1), some (.inl a2), some (.inl q1.1), some (.inl (Md_queueOf q1.1))], [.inl (q1.2 122 (Md_queueOf q1.1).toNat), .inl (Md_queueOf q1.1), .inr (.inr 122)], q1.2) (39, [some (.inr (.inr 92)), some (.inl a1), some (.inl a2), some (.inl q1.1), some (.inl (Md_queueOf q1.1))], [.inl 1, .inl (q1.2 122 (Md_queueOf q1.1).toNat), .inl (Md_queueOf q1.1), .inr (.inr 122)], q1.2) rfl ?_
        rw [hy2] at hjy2
        exact ev_le (L := [some (.inr (.inr 92)), some (.inl a1), none, none, some (.inl (Md_queueOf q1.1))]) (by simp [Lle]) hjy2
    · rw [if_neg hc] at h; cases h
  · rw [if_neg hc] at h; cases h
def Md_runs_l24 (c1 : Int) (c3 : Int) (K24_59 : Int → Gx → Option Gx) : Nat → Int → Int → Gx → Option Gx
  | 0, _, _, _ => none
  | n24 + 1, v4, v5, g =>
    if 6 ≤ v5 then
      K24_59 v4 g
    else
      Option.bind (Md_can v5 c1 48 g) (fun q3 =>
      if q3.1 = 0 then
        Md_runs_l24 c1 c3 K24_59 n24 (wr (v4 + 0)) (wr (v5 + 1)) q3.2
      else
        Md_runs_l24 c1 c3 K24_59 n24 (wr (v4 + 1)) (wr (v5 + 1)) q3.2)
def Md_runs_l86 (c1 : Int) (c3 : Int) (c4 : Int) (K86_131 : Int → Gx → Option Gx) : Nat → Int → Int → Gx → Option Gx
  | 0, _, _, _ => none
  | n86 + 1, v5, v6, g =>
    if 0 < v5 then
      Option.bind (Md_can v6 c1 48 g) (fun q6 =>
      if q6.1 = 0 then
        Md_runs_l86 c1 c3 c4 K86_131 n86 (wr (v5 - 0)) (wr (v6 + 1)) q6.2
      else
        Md_runs_l86 c1 c3 c4 K86_131 n86 (wr (v5 - 1)) (wr (v6 + 1)) q6.2)
    else
      Option.bind (Md_can v6 c1 48 g) (fun q7 =>
      if ¬ q7.1 = 0 then
        K86_131 v6 q7.2
      else
        Option.bind (Md_can v6 c1 48 q7.2) (fun q8 =>
        if q8.1 = 0 then
          Md_runs_l86 c1 c3 c4 K86_131 n86 (wr (v5 - 0)) (wr (v6 + 1)) q8.2
        else
          Md_runs_l86 c1 c3 c4 K86_131 n86 (wr (v5 - 1)) (wr (v6 + 1)) q8.2))
def Md_runs_l13 (c1 : Int) (K13_162 : Gx → Option Gx) : Nat → Int → Int → Gx → Option Gx
  | 0, _, _, _ => none
  | n13 + 1, v3, v4, g =>
    if v4 ≤ 0 then
      K13_162 g
    else
      Md_runs_l24 c1 v3
        (fun x4 g5 =>
          if x4 ≤ 0 then
            Md_runs_l13 c1 K13_162 n13 v3 x4 g5
          else
            if x4 = 0 then none else
            Md_runs_l86 c1 (wr ((wr (1103515245 * v3)) + 12345)) x4
              (fun x9 g10 =>
                Option.bind (Md_does x9 c1 g10) (fun g11 =>
                if 0 ≤ (g11 92 43) ∧ (g11 92 43) < 48 then
                Md_runs_l13 c1 K13_162 n13 (wr ((wr (1103515245 * v3)) + 12345)) x4 (gset (gset g11 123 ((g11 92 43).toNat) x9) 92 43 (wr ((g11 92 43) + 1)))
                else none))
              fu (jrem (jushr (wr ((wr (1103515245 * v3)) + 12345)) 16) x4) 0 g5)
        fu 0 0 g
def Md_runs (a1 a2 : Int) (g : Gx) : Option Gx :=
  Option.bind (Md_findLooks g) (fun g1 =>
  Option.bind (Md_begins g1) (fun g2 =>
  Md_runs_l13 a1
    (fun g12 =>
      some g12)
    fu a2 1 g2))
set_option maxRecDepth 100000 in
set_option maxHeartbeats 4000000 in
theorem ev_Md_runs_l24 (c1 : Int) (c3 : Int) (K24_59 : Int → Gx → Option Gx) (hK24_59 : ∀ (x4 : Int) (g : Gx) (g' : Gx), K24_59 x4 g = some g' → Ev 152 59 [some (.inr (.inr 92)), some (.inl c1), none, some (.inl c3), some (.inl x4), none, none] [] g none g') : ∀ (n24 : Nat) (v4 v5 : Int) (g : Gx) (g' : Gx), Md_runs_l24 c1 c3 K24_59 n24 v4 v5 g = some g' → Ev 152 24 [some (.inr (.inr 92)), some (.inl c1), none, some (.inl c3), some (.inl v4), some (.inl v5), none] [] g none g' := by
  intro n24
  induction n24 with
  | zero => intro v4 v5 g g' h; cases h
  | succ n24 ih24 =>
    intro v4 v5 g g' h
    rw [Md_runs_l24] at h
    refine ev_runs 2 (24, [some (.inr (.inr 92)), some (.inl c1), none, some (.inl c3), some (.inl v4), some (.inl v5), none], [], g) (28, [some (.inr (.inr 92)), some (.inl c1), none, some (.inl c3), some (.inl v4), some (.inl v5), none], [.inl 6, .inl v5], g) rfl ?_
    by_cases hc : 6 ≤ v5
    · rw [if_pos hc] at h
      refine es (59, [some (.inr (.inr 92)), some (.inl c1), none, some (.inl c3), some (.inl v4), some (.inl v5), none], [], g) (congrArg some (if_pos hc)) ?_
      exact ev_le (L := [some (.inr (.inr 92)), some (.inl c1), none, some (.inl c3), some (.inl v4), none, none]) (by simp [Lle]) (hK24_59 v4 g g' h)
    · rw [if_neg hc] at h
      refine es (31, [some (.inr (.inr 92)), some (.inl c1), none, some (.inl c3), some (.inl v4), some (.inl v5), none], [], g) (congrArg some (if_neg hc)) ?_
      refine ev_runs 5 (31, [some (.inr (.inr 92)), some (.inl c1), none, some (.inl c3), some (.inl v4), some (.inl v5), none], [], g) (39, [some (.inr (.inr 92)), some (.inl c1), none, some (.inl c3), some (.inl v4), some (.inl v5), none], [.inl 48, .inl c1, .inl v5, .inr (.inr 92), .inl v4], g) rfl ?_
      obtain ⟨q3, hq, h⟩ := Option.bind_eq_some_iff.mp h
      refine ec 150 42 [.inr (.inr 92), .inl v5, .inl c1, .inl 48] [.inl v4] rfl (ev_Md_can v5 c1 48 g q3.1 q3.2 hq) ?_
      show Ev 152 42 [some (.inr (.inr 92)), some (.inl c1), none, some (.inl c3), some (.inl v4), some (.inl v5), none] [.inl q3.1, .inl v4] q3.2 _ _
      by_cases hc : q3.1 = 0
      · rw [if_pos hc] at h
        refine es (49, [some (.inr (.inr 92)), some (.inl c1), none, some (.inl c3), some (.inl v4), some (.inl v5), none], [.inl v4], q3.2) (congrArg some (if_pos hc)) ?_
        refine ev_runs 5 (49, [some (.inr (.inr 92)), some (.inl c1), none, some (.inl c3), some (.inl v4), some (.inl v5), none], [.inl v4], q3.2) (24, [some (.inr (.inr 92)), some (.inl c1), none, some (.inl c3), some (.inl (wr (v4 + 0))), some (.inl (wr (v5 + 1))), none], [], q3.2) rfl ?_
        exact ev_le (L := [some (.inr (.inr 92)), some (.inl c1), none, some (.inl c3), some (.inl (wr (v4 + 0))), some (.inl (wr (v5 + 1))), none]) (by simp [Lle]) (ih24 (wr (v4 + 0)) (wr (v5 + 1)) q3.2 g' h)
      · rw [if_neg hc] at h
        refine es (45, [some (.inr (.inr 92)), some (.inl c1), none, some (.inl c3), some (.inl v4), some (.inl v5), none], [.inl v4], q3.2) (congrArg some (if_neg hc)) ?_
        refine ev_runs 6 (45, [some (.inr (.inr 92)), some (.inl c1), none, some (.inl c3), some (.inl v4), some (.inl v5), none], [.inl v4], q3.2) (24, [some (.inr (.inr 92)), some (.inl c1), none, some (.inl c3), some (.inl (wr (v4 + 1))), some (.inl (wr (v5 + 1))), none], [], q3.2) rfl ?_
        exact ev_le (L := [some (.inr (.inr 92)), some (.inl c1), none, some (.inl c3), some (.inl (wr (v4 + 1))), some (.inl (wr (v5 + 1))), none]) (by simp [Lle]) (ih24 (wr (v4 + 1)) (wr (v5 + 1)) q3.2 g' h)
set_option maxRecDepth 100000 in
set_option maxHeartbeats 4000000 in
theorem ev_Md_runs_l86 (c1 : Int) (c3 : Int) (c4 : Int) (K86_131 : Int → Gx → Option Gx) (hK86_131 : ∀ (x6 : Int) (g : Gx) (g' : Gx), K86_131 x6 g = some g' → Ev 152 131 [some (.inr (.inr 92)), some (.inl c1), none, some (.inl c3), some (.inl c4), none, some (.inl x6)] [] g none g') : ∀ (n86 : Nat) (v5 v6 : Int) (g : Gx) (g' : Gx), Md_runs_l86 c1 c3 c4 K86_131 n86 v5 v6 g = some g' → Ev 152 86 [some (.inr (.inr 92)), some (.inl c1), none, some (.inl c3), some (.inl c4), some (.inl v5), some (.inl v6)] [] g none g' := by
  intro n86
  induction n86 with
  | zero => intro v5 v6 g g' h; cases h
  | succ n86 ih86 =>
    intro v5 v6 g g' h
    rw [Md_runs_l86] at h
    refine ev_runs 1 (86, [some (.inr (.inr 92)), some (.inl c1), none, some (.inl c3), some (.inl c4), some (.inl v5), some (.inl v6)], [], g) (88, [some (.inr (.inr 92)), some (.inl c1), none, some (.inl c3), some (.inl c4), some (.inl v5), some (.inl v6)], [.inl v5], g) rfl ?_
    by_cases hc : 0 < v5
    · rw [if_pos hc] at h
      refine es (103, [some (.inr (.inr 92)), some (.inl c1), none, some (.inl c3), some (.inl c4), some (.inl v5), some (.inl v6)], [], g) (congrArg some (if_pos hc)) ?_
      refine ev_runs 5 (103, [some (.inr (.inr 92)), some (.inl c1), none, some (.inl c3), some (.inl c4), some (.inl v5), some (.inl v6)], [], g) (111, [some (.inr (.inr 92)), some (.inl c1), none, some (.inl c3), some (.inl c4), some (.inl v5), some (.inl v6)], [.inl 48, .inl c1, .inl v6, .inr (.inr 92), .inl v5], g) rfl ?_
      obtain ⟨q6, hq, h⟩ := Option.bind_eq_some_iff.mp h
      refine ec 150 114 [.inr (.inr 92), .inl v6, .inl c1, .inl 48] [.inl v5] rfl (ev_Md_can v6 c1 48 g q6.1 q6.2 hq) ?_
      show Ev 152 114 [some (.inr (.inr 92)), some (.inl c1), none, some (.inl c3), some (.inl c4), some (.inl v5), some (.inl v6)] [.inl q6.1, .inl v5] q6.2 _ _
      by_cases hc : q6.1 = 0
      · rw [if_pos hc] at h
        refine es (121, [some (.inr (.inr 92)), some (.inl c1), none, some (.inl c3), some (.inl c4), some (.inl v5), some (.inl v6)], [.inl v5], q6.2) (congrArg some (if_pos hc)) ?_
        refine ev_runs 5 (121, [some (.inr (.inr 92)), some (.inl c1), none, some (.inl c3), some (.inl c4), some (.inl v5), some (.inl v6)], [.inl v5], q6.2) (86, [some (.inr (.inr 92)), some (.inl c1), none, some (.inl c3), some (.inl c4), some (.inl (wr (v5 - 0))), some (.inl (wr (v6 + 1)))], [], q6.2) rfl ?_
        exact ev_le (L := [some (.inr (.inr 92)), some (.inl c1), none, some (.inl c3), some (.inl c4), some (.inl (wr (v5 - 0))), some (.inl (wr (v6 + 1)))]) (by simp [Lle]) (ih86 (wr (v5 - 0)) (wr (v6 + 1)) q6.2 g' h)
      · rw [if_neg hc] at h
        refine es (117, [some (.inr (.inr 92)), some (.inl c1), none, some (.inl c3), some (.inl c4), some (.inl v5), some (.inl v6)], [.inl v5], q6.2) (congrArg some (if_neg hc)) ?_
        refine ev_runs 6 (117, [some (.inr (.inr 92)), some (.inl c1), none, some (.inl c3), some (.inl c4), some (.inl v5), some (.inl v6)], [.inl v5], q6.2) (86, [some (.inr (.inr 92)), some (.inl c1), none, some (.inl c3), some (.inl c4), some (.inl (wr (v5 - 1))), some (.inl (wr (v6 + 1)))], [], q6.2) rfl ?_
        exact ev_le (L := [some (.inr (.inr 92)), some (.inl c1), none, some (.inl c3), some (.inl c4), some (.inl (wr (v5 - 1))), some (.inl (wr (v6 + 1)))]) (by simp [Lle]) (ih86 (wr (v5 - 1)) (wr (v6 + 1)) q6.2 g' h)
    · rw [if_neg hc] at h
      refine es (91, [some (.inr (.inr 92)), some (.inl c1), none, some (.inl c3), some (.inl c4), some (.inl v5), some (.inl v6)], [], g) (congrArg some (if_neg hc)) ?_
      refine ev_runs 4 (91, [some (.inr (.inr 92)), some (.inl c1), none, some (.inl c3), some (.inl c4), some (.inl v5), some (.inl v6)], [], g) (97, [some (.inr (.inr 92)), some (.inl c1), none, some (.inl c3), some (.inl c4), some (.inl v5), some (.inl v6)], [.inl 48, .inl c1, .inl v6, .inr (.inr 92)], g) rfl ?_
      obtain ⟨q7, hq, h⟩ := Option.bind_eq_some_iff.mp h
      refine ec 150 100 [.inr (.inr 92), .inl v6, .inl c1, .inl 48] [] rfl (ev_Md_can v6 c1 48 g q7.1 q7.2 hq) ?_
      show Ev 152 100 [some (.inr (.inr 92)), some (.inl c1), none, some (.inl c3), some (.inl c4), some (.inl v5), some (.inl v6)] [.inl q7.1] q7.2 _ _
      by_cases hc : ¬ q7.1 = 0
      · rw [if_pos hc] at h
        refine es (131, [some (.inr (.inr 92)), some (.inl c1), none, some (.inl c3), some (.inl c4), some (.inl v5), some (.inl v6)], [], q7.2) (congrArg some (if_pos hc)) ?_
        exact ev_le (L := [some (.inr (.inr 92)), some (.inl c1), none, some (.inl c3), some (.inl c4), none, some (.inl v6)]) (by simp [Lle]) (hK86_131 v6 q7.2 g' h)
      · rw [if_neg hc] at h
        refine es (103, [some (.inr (.inr 92)), some (.inl c1), none, some (.inl c3), some (.inl c4), some (.inl v5), some (.inl v6)], [], q7.2) (congrArg some (if_neg hc)) ?_
        refine ev_runs 5 (103, [some (.inr (.inr 92)), some (.inl c1), none, some (.inl c3), some (.inl c4), some (.inl v5), some (.inl v6)], [], q7.2) (111, [some (.inr (.inr 92)), some (.inl c1), none, some (.inl c3), some (.inl c4), some (.inl v5), some (.inl v6)], [.inl 48, .inl c1, .inl v6, .inr (.inr 92), .inl v5], q7.2) rfl ?_
        obtain ⟨q8, hq, h⟩ := Option.bind_eq_some_iff.mp h
        refine ec 150 114 [.inr (.inr 92), .inl v6, .inl c1, .inl 48] [.inl v5] rfl (ev_Md_can v6 c1 48 q7.2 q8.1 q8.2 hq) ?_
        show Ev 152 114 [some (.inr (.inr 92)), some (.inl c1), none, some (.inl c3), some (.inl c4), some (.inl v5), some (.inl v6)] [.inl q8.1, .inl v5] q8.2 _ _
        by_cases hc : q8.1 = 0
        · rw [if_pos hc] at h
          refine es (121, [some (.inr (.inr 92)), some (.inl c1), none, some (.inl c3), some (.inl c4), some (.inl v5), some (.inl v6)], [.inl v5], q8.2) (congrArg some (if_pos hc)) ?_
          refine ev_runs 5 (121, [some (.inr (.inr 92)), some (.inl c1), none, some (.inl c3), some (.inl c4), some (.inl v5), some (.inl v6)], [.inl v5], q8.2) (86, [some (.inr (.inr 92)), some (.inl c1), none, some (.inl c3), some (.inl c4), some (.inl (wr (v5 - 0))), some (.inl (wr (v6 + 1)))], [], q8.2) rfl ?_
          exact ev_le (L := [some (.inr (.inr 92)), some (.inl c1), none, some (.inl c3), some (.inl c4), some (.inl (wr (v5 - 0))), some (.inl (wr (v6 + 1)))]) (by simp [Lle]) (ih86 (wr (v5 - 0)) (wr (v6 + 1)) q8.2 g' h)
        · rw [if_neg hc] at h
          refine es (117, [some (.inr (.inr 92)), some (.inl c1), none, some (.inl c3), some (.inl c4), some (.inl v5), some (.inl v6)], [.inl v5], q8.2) (congrArg some (if_neg hc)) ?_
          refine ev_runs 6 (117, [some (.inr (.inr 92)), some (.inl c1), none, some (.inl c3), some (.inl c4), some (.inl v5), some (.inl v6)], [.inl v5], q8.2) (86, [some (.inr (.inr 92)), some (.inl c1), none, some (.inl c3), some (.inl c4), some (.inl (wr (v5 - 1))), some (.inl (wr (v6 + 1)))], [], q8.2) rfl ?_
          exact ev_le (L := [some (.inr (.inr 92)), some (.inl c1), none, some (.inl c3), some (.inl c4), some (.inl (wr (v5 - 1))), some (.inl (wr (v6 + 1)))]) (by simp [Lle]) (ih86 (wr (v5 - 1)) (wr (v6 + 1)) q8.2 g' h)
set_option maxRecDepth 100000 in
set_option maxHeartbeats 4000000 in
theorem ev_Md_runs_l13 (c1 : Int) (K13_162 : Gx → Option Gx) (hK13_162 : ∀ (g : Gx) (g' : Gx), K13_162 g = some g' → Ev 152 162 [none, none, none, none, none, none, none] [] g none g') : ∀ (n13 : Nat) (v3 v4 : Int) (g : Gx) (g' : Gx), Md_runs_l13 c1 K13_162 n13 v3 v4 g = some g' → Ev 152 13 [some (.inr (.inr 92)), some (.inl c1), none, some (.inl v3), some (.inl v4), none, none] [] g none g' := by
  intro n13
  induction n13 with
  | zero => intro v3 v4 g g' h; cases h
  | succ n13 ih13 =>
    intro v3 v4 g g' h
    rw [Md_runs_l13] at h
    refine ev_runs 1 (13, [some (.inr (.inr 92)), some (.inl c1), none, some (.inl v3), some (.inl v4), none, none], [], g) (15, [some (.inr (.inr 92)), some (.inl c1), none, some (.inl v3), some (.inl v4), none, none], [.inl v4], g) rfl ?_
    by_cases hc : v4 ≤ 0
    · rw [if_pos hc] at h
      refine es (162, [some (.inr (.inr 92)), some (.inl c1), none, some (.inl v3), some (.inl v4), none, none], [], g) (congrArg some (if_pos hc)) ?_
      exact ev_le (L := [none, none, none, none, none, none, none]) (by simp [Lle]) (hK13_162 g g' h)
    · rw [if_neg hc] at h
      refine es (18, [some (.inr (.inr 92)), some (.inl c1), none, some (.inl v3), some (.inl v4), none, none], [], g) (congrArg some (if_neg hc)) ?_
      refine ev_runs 4 (18, [some (.inr (.inr 92)), some (.inl c1), none, some (.inl v3), some (.inl v4), none, none], [], g) (24, [some (.inr (.inr 92)), some (.inl c1), none, some (.inl v3), some (.inl 0), some (.inl 0), none], [], g) rfl ?_
      refine ev_le (L := [some (.inr (.inr 92)), some (.inl c1), none, some (.inl v3), some (.inl 0), some (.inl 0), none]) (by simp [Lle]) ?_
      refine ev_Md_runs_l24 c1 v3 _ ?_ fu 0 0 g g' h
      · intro x4 g5 g' h
        refine ev_runs 1 (59, [some (.inr (.inr 92)), some (.inl c1), none, some (.inl v3), some (.inl x4), none, none], [], g5) (61, [some (.inr (.inr 92)), some (.inl c1), none, some (.inl v3), some (.inl x4), none, none], [.inl x4], g5) rfl ?_
        by_cases hc : x4 ≤ 0
        · rw [if_pos hc] at h
          refine es (13, [some (.inr (.inr 92)), some (.inl c1), none, some (.inl v3), some (.inl x4), none, none], [], g5) (congrArg some (if_pos hc)) ?_
          exact ev_le (L := [some (.inr (.inr 92)), some (.inl c1), none, some (.inl v3), some (.inl x4), none, none]) (by simp [Lle]) (ih13 v3 x4 g5 g' h)
        · rw [if_neg hc] at h
          refine es (64, [some (.inr (.inr 92)), some (.inl c1), none, some (.inl v3), some (.inl x4), none, none], [], g5) (congrArg some (if_neg hc)) ?_
          refine ev_runs 10 (64, [some (.inr (.inr 92)), some (.inl c1), none, some (.inl v3), some (.inl x4), none, none], [], g5) (80, [some (.inr (.inr 92)), some (.inl c1), none, some (.inl (wr ((wr (1103515245 * v3)) + 12345))), some (.inl x4), none, none], [.inl x4, .inl (jushr (wr ((wr (1103515245 * v3)) + 12345)) 16)], g5) rfl ?_
          by_cases hc : x4 = 0
          · rw [if_pos hc] at h; cases h
          · rw [if_neg hc] at h
            refine es (81, [some (.inr (.inr 92)), some (.inl c1), none, some (.inl (wr ((wr (1103515245 * v3)) + 12345))), some (.inl x4), none, none], [.inl (jrem (jushr (wr ((wr (1103515245 * v3)) + 12345)) 16) x4)], g5) (if_neg hc) ?_
            refine ev_runs 3 (81, [some (.inr (.inr 92)), some (.inl c1), none, some (.inl (wr ((wr (1103515245 * v3)) + 12345))), some (.inl x4), none, none], [.inl (jrem (jushr (wr ((wr (1103515245 * v3)) + 12345)) 16) x4)], g5) (86, [some (.inr (.inr 92)), some (.inl c1), none, some (.inl (wr ((wr (1103515245 * v3)) + 12345))), some (.inl x4), some (.inl (jrem (jushr (wr ((wr (1103515245 * v3)) + 12345)) 16) x4)), some (.inl 0)], [], g5) rfl ?_
            refine ev_le (L := [some (.inr (.inr 92)), some (.inl c1), none, some (.inl (wr ((wr (1103515245 * v3)) + 12345))), some (.inl x4), some (.inl (jrem (jushr (wr ((wr (1103515245 * v3)) + 12345)) 16) x4)), some (.inl 0)]) (by simp [Lle]) ?_
            refine ev_Md_runs_l86 c1 (wr ((wr (1103515245 * v3)) + 12345)) x4 _ ?_ fu (jrem (jushr (wr ((wr (1103515245 * v3)) + 12345)) 16) x4) 0 g5 g' h
            · intro x9 g10 g' h
              refine ev_runs 3 (131, [some (.inr (.inr 92)), some (.inl c1), none, some (.inl (wr ((wr (1103515245 * v3)) + 12345))), some (.inl x4), none, some (.inl x9)], [], g10) (135, [some (.inr (.inr 92)), some (.inl c1), none, some (.inl (wr ((wr (1103515245 * v3)) + 12345))), some (.inl x4), none, some (.inl x9)], [.inl c1, .inl x9, .inr (.inr 92)], g10) rfl ?_
              obtain ⟨g11, hq, h⟩ := Option.bind_eq_some_iff.mp h
              refine ec 151 138 [.inr (.inr 92), .inl x9, .inl c1] [] rfl (ev_Md_does x9 c1 g10 g11 hq) ?_
              show Ev 152 138 [some (.inr (.inr 92)), some (.inl c1), none, some (.inl (wr ((wr (1103515245 * v3)) + 12345))), some (.inl x4), none, some (.inl x9)] [] g11 _ _
              refine ev_runs 5 (138, [some (.inr (.inr 92)), some (.inl c1), none, some (.inl (wr ((wr (1103515245 * v3)) + 12345))), some (.inl x4), none, some (.inl x9)], [], g11) (148, [some (.inr (.inr 92)), some (.inl c1), none, some (.inl (wr ((wr (1103515245 * v3)) + 12345))), some (.inl x4), none, some (.inl x9)], [.inl x9, .inl (g11 92 43), .inr (.inr 123)], g11) rfl ?_
              by_cases hc : 0 ≤ (g11 92 43) ∧ (g11 92 43) < 48
              · rw [if_pos hc] at h
                refine es (149, [some (.inr (.inr 92)), some (.inl c1), none, some (.inl (wr ((wr (1103515245 * v3)) + 12345))), some (.inl x4), none, some (.inl x9)], [], (gset g11 123 ((g11 92 43).toNat) x9)) (if_pos hc) ?_
                refine ev_runs 7 (149, [some (.inr (.inr 92)), some (.inl c1), none, some (.inl (wr ((wr (1103515245 * v3)) + 12345))), some (.inl x4), none, some (.inl x9)], [], (gset g11 123 ((g11 92 43).toNat) x9)) (13, [some (.inr (.inr 92)), some (.inl c1), none, some (.inl (wr ((wr (1103515245 * v3)) + 12345))), some (.inl x4), none, some (.inl x9)], [], (gset (gset g11 123 ((g11 92 43).toNat) x9) 92 43 (wr ((g11 92 43) + 1)))) rfl ?_
                exact ev_le (L := [some (.inr (.inr 92)), some (.inl c1), none, some (.inl (wr ((wr (1103515245 * v3)) + 12345))), some (.inl x4), none, none]) (by simp [Lle]) (ih13 (wr ((wr (1103515245 * v3)) + 12345)) x4 (gset (gset g11 123 ((g11 92 43).toNat) x9) 92 43 (wr ((g11 92 43) + 1))) g' h)
              · rw [if_neg hc] at h; cases h
set_option maxRecDepth 100000 in
set_option maxHeartbeats 4000000 in
theorem ev_Md_runs (a1 a2 : Int) (g : Gx) (g' : Gx) (h : Md_runs a1 a2 g = some g') : Ev 152 0 [some (.inr (.inr 92)), some (.inl a1), some (.inl a2), none, none, none, none] [] g none g' := by
  rw [Md_runs] at h
  refine ev_runs 1 (0, [some (.inr (.inr 92)), some (.inl a1), some (.inl a2), none, none, none, none], [], g) (1, [some (.inr (.inr 92)), some (.inl a1), some (.inl a2), none, none, none, none], [.inr (.inr 92)], g) rfl ?_
  obtain ⟨g1, hq, h⟩ := Option.bind_eq_some_iff.mp h
  refine ec 101 4 [.inr (.inr 92)] [] rfl (ev_Md_findLooks g g1 hq) ?_
  show Ev 152 4 [some (.inr (.inr 92)), some (.inl a1), some (.inl a2), none, none, none, none] [] g1 _ _
  refine ev_runs 1 (4, [some (.inr (.inr 92)), some (.inl a1), some (.inl a2), none, none, none, none], [], g1) (5, [some (.inr (.inr 92)), some (.inl a1), some (.inl a2), none, none, none, none], [.inr (.inr 92)], g1) rfl ?_
  obtain ⟨g2, hq, h⟩ := Option.bind_eq_some_iff.mp h
  refine ec 148 8 [.inr (.inr 92)] [] rfl (ev_Md_begins g1 g2 hq) ?_
  show Ev 152 8 [some (.inr (.inr 92)), some (.inl a1), some (.inl a2), none, none, none, none] [] g2 _ _
  refine ev_runs 4 (8, [some (.inr (.inr 92)), some (.inl a1), some (.inl a2), none, none, none, none], [], g2) (13, [some (.inr (.inr 92)), some (.inl a1), some (.inl a2), some (.inl a2), some (.inl 1), none, none], [], g2) rfl ?_
  refine ev_le (L := [some (.inr (.inr 92)), some (.inl a1), none, some (.inl a2), some (.inl 1), none, none]) (by simp [Lle]) ?_
  refine ev_Md_runs_l13 a1 _ ?_ fu a2 1 g2 g' h
  · intro g12 g' h
    cases h
    exact er rfl
def Md_run (a1 a2 a3 : Int) (g : Gx) : Option (Int × Gx) :=
  if (Md_isHistory a1) = 0 then
    some ((-2), g)
  else
    if ¬ (Md_in a3 0 1) = 0 then
      Option.bind (Md_lacksOne a1 g) (fun q1 =>
      if q1.1 = 0 then
        Option.bind (Md_runs a1 a2 q1.2) (fun g2 =>
        if ¬ a3 = 0 then
          some ((g2 92 44), g2)
        else
          some ((g2 92 43), g2))
      else
        some (q1.1, q1.2))
    else
      some ((-2), g)
set_option maxRecDepth 100000 in
set_option maxHeartbeats 4000000 in
theorem ev_Md_run (a1 a2 a3 : Int) (g : Gx) (r : Int) (g' : Gx) (h : Md_run a1 a2 a3 g = some (r, g')) : Ev 153 0 [some (.inr (.inr 92)), some (.inl a1), some (.inl a2), some (.inl a3), none] [] g (some (.inl r)) g' := by
  rw [Md_run] at h
  refine ev_runs 1 (0, [some (.inr (.inr 92)), some (.inl a1), some (.inl a2), some (.inl a3), none], [], g) (1, [some (.inr (.inr 92)), some (.inl a1), some (.inl a2), some (.inl a3), none], [.inl a1], g) rfl ?_
  refine ec 87 4 [.inl a1] [] rfl (ev_Md_isHistory a1 g _ rfl) ?_
  show Ev 153 4 [some (.inr (.inr 92)), some (.inl a1), some (.inl a2), some (.inl a3), none] [.inl (Md_isHistory a1)] g _ _
  by_cases hc : (Md_isHistory a1) = 0
  · rw [if_pos hc] at h
    refine es (17, [some (.inr (.inr 92)), some (.inl a1), some (.inl a2), some (.inl a3), none], [], g) (congrArg some (if_pos hc)) ?_
    refine ev_runs 1 (17, [some (.inr (.inr 92)), some (.inl a1), some (.inl a2), some (.inl a3), none], [], g) (19, [some (.inr (.inr 92)), some (.inl a1), some (.inl a2), some (.inl a3), none], [.inl (-2)], g) rfl ?_
    cases h
    exact er rfl
  · rw [if_neg hc] at h
    refine es (7, [some (.inr (.inr 92)), some (.inl a1), some (.inl a2), some (.inl a3), none], [], g) (congrArg some (if_neg hc)) ?_
    refine ev_runs 4 (7, [some (.inr (.inr 92)), some (.inl a1), some (.inl a2), some (.inl a3), none], [], g) (11, [some (.inr (.inr 92)), some (.inl a1), some (.inl a2), some (.inl a3), none], [.inr (.inl 1), .inr (.inl 0), .inr (.inl a3)], g) rfl ?_
    refine ec 4 14 [.inr (.inl a3), .inr (.inl 0), .inr (.inl 1)] [] rfl (ev_Md_in a3 0 1 g _ rfl) ?_
    show Ev 153 14 [some (.inr (.inr 92)), some (.inl a1), some (.inl a2), some (.inl a3), none] [.inl (Md_in a3 0 1)] g _ _
    by_cases hc : ¬ (Md_in a3 0 1) = 0
    · rw [if_pos hc] at h
      refine es (20, [some (.inr (.inr 92)), some (.inl a1), some (.inl a2), some (.inl a3), none], [], g) (congrArg some (if_pos hc)) ?_
      refine ev_runs 2 (20, [some (.inr (.inr 92)), some (.inl a1), some (.inl a2), some (.inl a3), none], [], g) (22, [some (.inr (.inr 92)), some (.inl a1), some (.inl a2), some (.inl a3), none], [.inl a1, .inr (.inr 92)], g) rfl ?_
      obtain ⟨q1, hq, h⟩ := Option.bind_eq_some_iff.mp h
      refine ec 88 25 [.inr (.inr 92), .inl a1] [] rfl (ev_Md_lacksOne a1 g q1.1 q1.2 hq) ?_
      show Ev 153 25 [some (.inr (.inr 92)), some (.inl a1), some (.inl a2), some (.inl a3), none] [.inl q1.1] q1.2 _ _
      refine ev_runs 2 (25, [some (.inr (.inr 92)), some (.inl a1), some (.inl a2), some (.inl a3), none], [.inl q1.1], q1.2) (29, [some (.inr (.inr 92)), some (.inl a1), some (.inl a2), some (.inl a3), some (.inl q1.1)], [.inl q1.1], q1.2) rfl ?_
      by_cases hc : q1.1 = 0
      · rw [if_pos hc] at h
        refine es (35, [some (.inr (.inr 92)), some (.inl a1), some (.inl a2), some (.inl a3), some (.inl q1.1)], [], q1.2) (congrArg some (if_pos hc)) ?_
        refine ev_runs 3 (35, [some (.inr (.inr 92)), some (.inl a1), some (.inl a2), some (.inl a3), some (.inl q1.1)], [], q1.2) (38, [some (.inr (.inr 92)), some (.inl a1), some (.inl a2), some (.inl a3), some (.inl q1.1)], [.inl a2, .inl a1, .inr (.inr 92)], q1.2) rfl ?_
        obtain ⟨g2, hq, h⟩ := Option.bind_eq_some_iff.mp h
        refine ec 152 41 [.inr (.inr 92), .inl a1, .inl a2] [] rfl (ev_Md_runs a1 a2 q1.2 g2 hq) ?_
        show Ev 153 41 [some (.inr (.inr 92)), some (.inl a1), some (.inl a2), some (.inl a3), some (.inl q1.1)] [] g2 _ _
        refine ev_runs 1 (41, [some (.inr (.inr 92)), some (.inl a1), some (.inl a2), some (.inl a3), some (.inl q1.1)], [], g2) (42, [some (.inr (.inr 92)), some (.inl a1), some (.inl a2), some (.inl a3), some (.inl q1.1)], [.inl a3], g2) rfl ?_
        by_cases hc : ¬ a3 = 0
        · rw [if_pos hc] at h
          refine es (52, [some (.inr (.inr 92)), some (.inl a1), some (.inl a2), some (.inl a3), some (.inl q1.1)], [], g2) (congrArg some (if_pos hc)) ?_
          refine ev_runs 2 (52, [some (.inr (.inr 92)), some (.inl a1), some (.inl a2), some (.inl a3), some (.inl q1.1)], [], g2) (56, [some (.inr (.inr 92)), some (.inl a1), some (.inl a2), some (.inl a3), some (.inl q1.1)], [.inl (g2 92 44)], g2) rfl ?_
          cases h
          exact er rfl
        · rw [if_neg hc] at h
          refine es (45, [some (.inr (.inr 92)), some (.inl a1), some (.inl a2), some (.inl a3), some (.inl q1.1)], [], g2) (congrArg some (if_neg hc)) ?_
          refine ev_runs 3 (45, [some (.inr (.inr 92)), some (.inl a1), some (.inl a2), some (.inl a3), some (.inl q1.1)], [], g2) (56, [some (.inr (.inr 92)), some (.inl a1), some (.inl a2), some (.inl a3), some (.inl q1.1)], [.inl (g2 92 43)], g2) rfl ?_
          cases h
          exact er rfl
      · rw [if_neg hc] at h
        refine es (32, [some (.inr (.inr 92)), some (.inl a1), some (.inl a2), some (.inl a3), some (.inl q1.1)], [], q1.2) (congrArg some (if_neg hc)) ?_
        refine ev_runs 1 (32, [some (.inr (.inr 92)), some (.inl a1), some (.inl a2), some (.inl a3), some (.inl q1.1)], [], q1.2) (34, [some (.inr (.inr 92)), some (.inl a1), some (.inl a2), some (.inl a3), some (.inl q1.1)], [.inl q1.1], q1.2) rfl ?_
        cases h
        exact er rfl
    · rw [if_neg hc] at h
      refine es (17, [some (.inr (.inr 92)), some (.inl a1), some (.inl a2), some (.inl a3), none], [], g) (congrArg some (if_neg hc)) ?_
      refine ev_runs 1 (17, [some (.inr (.inr 92)), some (.inl a1), some (.inl a2), some (.inl a3), none], [], g) (19, [some (.inr (.inr 92)), some (.inl a1), some (.inl a2), some (.inl a3), none], [.inl (-2)], g) rfl ?_
      cases h
      exact er rfl
def Rn_stepper (a1 : Int) (g : Gx) : Int :=
  (rat g 66 48 a1)
set_option maxRecDepth 100000 in
set_option maxHeartbeats 4000000 in
theorem ev_Rn_stepper (a1 : Int) (g : Gx) (r : Int) (h : Rn_stepper a1 g = r) : Ev 154 0 [some (.inr (.inr 60)), some (.inl a1)] [] g (some (.inl r)) g := by
  rw [Rn_stepper] at h
  refine ev_runs 3 (0, [some (.inr (.inr 60)), some (.inl a1)], [], g) (5, [some (.inr (.inr 60)), some (.inl a1)], [.inl a1, .inr (.inr 65)], g) rfl ?_
  refine ec 13 8 [.inr (.inr 65), .inl a1] [] rfl (ev_Row_at rfl rfl _ _) ?_
  show Ev 154 8 [some (.inr (.inr 60)), some (.inl a1)] [.inl (rat g 66 48 a1)] g _ _
  subst h
  exact er rfl
def Op_step (a1 a2 a3 : Int) (g : Gx) : Option (Int × Gx) :=
  if (Op_isHistory a1) = 0 then
    some ((-2), g)
  else
    if 0 ≤ a3 then
      Option.bind (Op_hindrance a1 g) (fun q1 =>
      if q1.1 = 0 then
        Option.bind (Rn_goByLots a1 a2 q1.2) (fun g2 =>
        if (Rn_stepCount g2) ≤ a3 then
          some ((-1), g2)
        else
          some ((Rn_stepper a3 g2), g2))
      else
        some (q1.1, q1.2))
    else
      some ((-2), g)
set_option maxRecDepth 100000 in
set_option maxHeartbeats 4000000 in
theorem ev_Op_step (a1 a2 a3 : Int) (g : Gx) (r : Int) (g' : Gx) (h : Op_step a1 a2 a3 g = some (r, g')) : Ev 155 0 [some (.inr (.inr 0)), some (.inl a1), some (.inl a2), some (.inl a3), none] [] g (some (.inl r)) g' := by
  rw [Op_step] at h
  refine ev_runs 1 (0, [some (.inr (.inr 0)), some (.inl a1), some (.inl a2), some (.inl a3), none], [], g) (1, [some (.inr (.inr 0)), some (.inl a1), some (.inl a2), some (.inl a3), none], [.inl a1], g) rfl ?_
  refine ec 83 4 [.inl a1] [] rfl (ev_Op_isHistory a1 g _ rfl) ?_
  show Ev 155 4 [some (.inr (.inr 0)), some (.inl a1), some (.inl a2), some (.inl a3), none] [.inl (Op_isHistory a1)] g _ _
  by_cases hc : (Op_isHistory a1) = 0
  · rw [if_pos hc] at h
    refine es (11, [some (.inr (.inr 0)), some (.inl a1), some (.inl a2), some (.inl a3), none], [], g) (congrArg some (if_pos hc)) ?_
    refine ev_runs 1 (11, [some (.inr (.inr 0)), some (.inl a1), some (.inl a2), some (.inl a3), none], [], g) (13, [some (.inr (.inr 0)), some (.inl a1), some (.inl a2), some (.inl a3), none], [.inl (-2)], g) rfl ?_
    cases h
    exact er rfl
  · rw [if_neg hc] at h
    refine es (7, [some (.inr (.inr 0)), some (.inl a1), some (.inl a2), some (.inl a3), none], [], g) (congrArg some (if_neg hc)) ?_
    refine ev_runs 1 (7, [some (.inr (.inr 0)), some (.inl a1), some (.inl a2), some (.inl a3), none], [], g) (8, [some (.inr (.inr 0)), some (.inl a1), some (.inl a2), some (.inl a3), none], [.inl a3], g) rfl ?_
    by_cases hc : 0 ≤ a3
    · rw [if_pos hc] at h
      refine es (14, [some (.inr (.inr 0)), some (.inl a1), some (.inl a2), some (.inl a3), none], [], g) (congrArg some (if_pos hc)) ?_
      refine ev_runs 2 (14, [some (.inr (.inr 0)), some (.inl a1), some (.inl a2), some (.inl a3), none], [], g) (16, [some (.inr (.inr 0)), some (.inl a1), some (.inl a2), some (.inl a3), none], [.inl a1, .inr (.inr 0)], g) rfl ?_
      obtain ⟨q1, hq, h⟩ := Option.bind_eq_some_iff.mp h
      refine ec 75 19 [.inr (.inr 0), .inl a1] [] rfl (ev_Op_hindrance a1 g q1.1 q1.2 hq) ?_
      show Ev 155 19 [some (.inr (.inr 0)), some (.inl a1), some (.inl a2), some (.inl a3), none] [.inl q1.1] q1.2 _ _
      refine ev_runs 2 (19, [some (.inr (.inr 0)), some (.inl a1), some (.inl a2), some (.inl a3), none], [.inl q1.1], q1.2) (23, [some (.inr (.inr 0)), some (.inl a1), some (.inl a2), some (.inl a3), some (.inl q1.1)], [.inl q1.1], q1.2) rfl ?_
      by_cases hc : q1.1 = 0
      · rw [if_pos hc] at h
        refine es (29, [some (.inr (.inr 0)), some (.inl a1), some (.inl a2), some (.inl a3), some (.inl q1.1)], [], q1.2) (congrArg some (if_pos hc)) ?_
        refine ev_runs 4 (29, [some (.inr (.inr 0)), some (.inl a1), some (.inl a2), some (.inl a3), some (.inl q1.1)], [], q1.2) (35, [some (.inr (.inr 0)), some (.inl a1), some (.inl a2), some (.inl a3), some (.inl q1.1)], [.inl a2, .inl a1, .inr (.inr 60)], q1.2) rfl ?_
        obtain ⟨g2, hq, h⟩ := Option.bind_eq_some_iff.mp h
        refine ec 144 38 [.inr (.inr 60), .inl a1, .inl a2] [] rfl (ev_Rn_goByLots a1 a2 q1.2 g2 hq) ?_
        show Ev 155 38 [some (.inr (.inr 0)), some (.inl a1), some (.inl a2), some (.inl a3), some (.inl q1.1)] [] g2 _ _
        refine ev_runs 3 (38, [some (.inr (.inr 0)), some (.inl a1), some (.inl a2), some (.inl a3), some (.inl q1.1)], [], g2) (43, [some (.inr (.inr 0)), some (.inl a1), some (.inl a2), some (.inl a3), some (.inl q1.1)], [.inr (.inr 60), .inl a3], g2) rfl ?_
        refine ec 145 46 [.inr (.inr 60)] [.inl a3] rfl (ev_Rn_stepCount g2 _ rfl) ?_
        show Ev 155 46 [some (.inr (.inr 0)), some (.inl a1), some (.inl a2), some (.inl a3), some (.inl q1.1)] [.inl (Rn_stepCount g2), .inl a3] g2 _ _
        by_cases hc : (Rn_stepCount g2) ≤ a3
        · rw [if_pos hc] at h
          refine es (60, [some (.inr (.inr 0)), some (.inl a1), some (.inl a2), some (.inl a3), some (.inl q1.1)], [], g2) (congrArg some (if_pos hc)) ?_
          refine ev_runs 1 (60, [some (.inr (.inr 0)), some (.inl a1), some (.inl a2), some (.inl a3), some (.inl q1.1)], [], g2) (61, [some (.inr (.inr 0)), some (.inl a1), some (.inl a2), some (.inl a3), some (.inl q1.1)], [.inl (-1)], g2) rfl ?_
          cases h
          exact er rfl
        · rw [if_neg hc] at h
          refine es (49, [some (.inr (.inr 0)), some (.inl a1), some (.inl a2), some (.inl a3), some (.inl q1.1)], [], g2) (congrArg some (if_neg hc)) ?_
          refine ev_runs 3 (49, [some (.inr (.inr 0)), some (.inl a1), some (.inl a2), some (.inl a3), some (.inl q1.1)], [], g2) (54, [some (.inr (.inr 0)), some (.inl a1), some (.inl a2), some (.inl a3), some (.inl q1.1)], [.inl a3, .inr (.inr 60)], g2) rfl ?_
          refine ec 154 57 [.inr (.inr 60), .inl a3] [] rfl (ev_Rn_stepper a3 g2 _ rfl) ?_
          show Ev 155 57 [some (.inr (.inr 0)), some (.inl a1), some (.inl a2), some (.inl a3), some (.inl q1.1)] [.inl (Rn_stepper a3 g2)] g2 _ _
          refine ev_runs 1 (57, [some (.inr (.inr 0)), some (.inl a1), some (.inl a2), some (.inl a3), some (.inl q1.1)], [.inl (Rn_stepper a3 g2)], g2) (61, [some (.inr (.inr 0)), some (.inl a1), some (.inl a2), some (.inl a3), some (.inl q1.1)], [.inl (Rn_stepper a3 g2)], g2) rfl ?_
          cases h
          exact er rfl
      · rw [if_neg hc] at h
        refine es (26, [some (.inr (.inr 0)), some (.inl a1), some (.inl a2), some (.inl a3), some (.inl q1.1)], [], q1.2) (congrArg some (if_neg hc)) ?_
        refine ev_runs 1 (26, [some (.inr (.inr 0)), some (.inl a1), some (.inl a2), some (.inl a3), some (.inl q1.1)], [], q1.2) (28, [some (.inr (.inr 0)), some (.inl a1), some (.inl a2), some (.inl a3), some (.inl q1.1)], [.inl q1.1], q1.2) rfl ?_
        cases h
        exact er rfl
    · rw [if_neg hc] at h
      refine es (11, [some (.inr (.inr 0)), some (.inl a1), some (.inl a2), some (.inl a3), none], [], g) (congrArg some (if_neg hc)) ?_
      refine ev_runs 1 (11, [some (.inr (.inr 0)), some (.inl a1), some (.inl a2), some (.inl a3), none], [], g) (13, [some (.inr (.inr 0)), some (.inl a1), some (.inl a2), some (.inl a3), none], [.inl (-2)], g) rfl ?_
      cases h
      exact er rfl
def Md_step (a1 a2 a3 : Int) (g : Gx) : Option (Int × Gx) :=
  if (Md_isHistory a1) = 0 then
    some ((-2), g)
  else
    if 0 ≤ a3 then
      Option.bind (Md_lacksOne a1 g) (fun q1 =>
      if q1.1 = 0 then
        Option.bind (Md_runs a1 a2 q1.2) (fun g2 =>
        if (g2 92 43) ≤ a3 then
          some ((-1), g2)
        else
          if 0 ≤ a3 ∧ a3 < 48 then
          some ((g2 123 a3.toNat), g2)
          else none)
      else
        some (q1.1, q1.2))
    else
      some ((-2), g)
set_option maxRecDepth 100000 in
set_option maxHeartbeats 4000000 in
theorem ev_Md_step (a1 a2 a3 : Int) (g : Gx) (r : Int) (g' : Gx) (h : Md_step a1 a2 a3 g = some (r, g')) : Ev 156 0 [some (.inr (.inr 92)), some (.inl a1), some (.inl a2), some (.inl a3), none] [] g (some (.inl r)) g' := by
  rw [Md_step] at h
  refine ev_runs 1 (0, [some (.inr (.inr 92)), some (.inl a1), some (.inl a2), some (.inl a3), none], [], g) (1, [some (.inr (.inr 92)), some (.inl a1), some (.inl a2), some (.inl a3), none], [.inl a1], g) rfl ?_
  refine ec 87 4 [.inl a1] [] rfl (ev_Md_isHistory a1 g _ rfl) ?_
  show Ev 156 4 [some (.inr (.inr 92)), some (.inl a1), some (.inl a2), some (.inl a3), none] [.inl (Md_isHistory a1)] g _ _
  by_cases hc : (Md_isHistory a1) = 0
  · rw [if_pos hc] at h
    refine es (11, [some (.inr (.inr 92)), some (.inl a1), some (.inl a2), some (.inl a3), none], [], g) (congrArg some (if_pos hc)) ?_
    refine ev_runs 1 (11, [some (.inr (.inr 92)), some (.inl a1), some (.inl a2), some (.inl a3), none], [], g) (13, [some (.inr (.inr 92)), some (.inl a1), some (.inl a2), some (.inl a3), none], [.inl (-2)], g) rfl ?_
    cases h
    exact er rfl
  · rw [if_neg hc] at h
    refine es (7, [some (.inr (.inr 92)), some (.inl a1), some (.inl a2), some (.inl a3), none], [], g) (congrArg some (if_neg hc)) ?_
    refine ev_runs 1 (7, [some (.inr (.inr 92)), some (.inl a1), some (.inl a2), some (.inl a3), none], [], g) (8, [some (.inr (.inr 92)), some (.inl a1), some (.inl a2), some (.inl a3), none], [.inl a3], g) rfl ?_
    by_cases hc : 0 ≤ a3
    · rw [if_pos hc] at h
      refine es (14, [some (.inr (.inr 92)), some (.inl a1), some (.inl a2), some (.inl a3), none], [], g) (congrArg some (if_pos hc)) ?_
      refine ev_runs 2 (14, [some (.inr (.inr 92)), some (.inl a1), some (.inl a2), some (.inl a3), none], [], g) (16, [some (.inr (.inr 92)), some (.inl a1), some (.inl a2), some (.inl a3), none], [.inl a1, .inr (.inr 92)], g) rfl ?_
      obtain ⟨q1, hq, h⟩ := Option.bind_eq_some_iff.mp h
      refine ec 88 19 [.inr (.inr 92), .inl a1] [] rfl (ev_Md_lacksOne a1 g q1.1 q1.2 hq) ?_
      show Ev 156 19 [some (.inr (.inr 92)), some (.inl a1), some (.inl a2), some (.inl a3), none] [.inl q1.1] q1.2 _ _
      refine ev_runs 2 (19, [some (.inr (.inr 92)), some (.inl a1), some (.inl a2), some (.inl a3), none], [.inl q1.1], q1.2) (23, [some (.inr (.inr 92)), some (.inl a1), some (.inl a2), some (.inl a3), some (.inl q1.1)], [.inl q1.1], q1.2) rfl ?_
      by_cases hc : q1.1 = 0
      · rw [if_pos hc] at h
        refine es (29, [some (.inr (.inr 92)), some (.inl a1), some (.inl a2), some (.inl a3), some (.inl q1.1)], [], q1.2) (congrArg some (if_pos hc)) ?_
        refine ev_runs 3 (29, [some (.inr (.inr 92)), some (.inl a1), some (.inl a2), some (.inl a3), some (.inl q1.1)], [], q1.2) (32, [some (.inr (.inr 92)), some (.inl a1), some (.inl a2), some (.inl a3), some (.inl q1.1)], [.inl a2, .inl a1, .inr (.inr 92)], q1.2) rfl ?_
        obtain ⟨g2, hq, h⟩ := Option.bind_eq_some_iff.mp h
        refine ec 152 35 [.inr (.inr 92), .inl a1, .inl a2] [] rfl (ev_Md_runs a1 a2 q1.2 g2 hq) ?_
        show Ev 156 35 [some (.inr (.inr 92)), some (.inl a1), some (.inl a2), some (.inl a3), some (.inl q1.1)] [] g2 _ _
        refine ev_runs 3 (35, [some (.inr (.inr 92)), some (.inl a1), some (.inl a2), some (.inl a3), some (.inl q1.1)], [], g2) (40, [some (.inr (.inr 92)), some (.inl a1), some (.inl a2), some (.inl a3), some (.inl q1.1)], [.inl (g2 92 43), .inl a3], g2) rfl ?_
        by_cases hc : (g2 92 43) ≤ a3
        · rw [if_pos hc] at h
          refine es (52, [some (.inr (.inr 92)), some (.inl a1), some (.inl a2), some (.inl a3), some (.inl q1.1)], [], g2) (congrArg some (if_pos hc)) ?_
          refine ev_runs 1 (52, [some (.inr (.inr 92)), some (.inl a1), some (.inl a2), some (.inl a3), some (.inl q1.1)], [], g2) (53, [some (.inr (.inr 92)), some (.inl a1), some (.inl a2), some (.inl a3), some (.inl q1.1)], [.inl (-1)], g2) rfl ?_
          cases h
          exact er rfl
        · rw [if_neg hc] at h
          refine es (43, [some (.inr (.inr 92)), some (.inl a1), some (.inl a2), some (.inl a3), some (.inl q1.1)], [], g2) (congrArg some (if_neg hc)) ?_
          refine ev_runs 3 (43, [some (.inr (.inr 92)), some (.inl a1), some (.inl a2), some (.inl a3), some (.inl q1.1)], [], g2) (48, [some (.inr (.inr 92)), some (.inl a1), some (.inl a2), some (.inl a3), some (.inl q1.1)], [.inl a3, .inr (.inr 123)], g2) rfl ?_
          by_cases hc : 0 ≤ a3 ∧ a3 < 48
          · rw [if_pos hc] at h
            refine es (49, [some (.inr (.inr 92)), some (.inl a1), some (.inl a2), some (.inl a3), some (.inl q1.1)], [.inl (g2 123 a3.toNat)], g2) (if_pos hc) ?_
            refine ev_runs 1 (49, [some (.inr (.inr 92)), some (.inl a1), some (.inl a2), some (.inl a3), some (.inl q1.1)], [.inl (g2 123 a3.toNat)], g2) (53, [some (.inr (.inr 92)), some (.inl a1), some (.inl a2), some (.inl a3), some (.inl q1.1)], [.inl (g2 123 a3.toNat)], g2) rfl ?_
            cases h
            exact er rfl
          · rw [if_neg hc] at h; cases h
      · rw [if_neg hc] at h
        refine es (26, [some (.inr (.inr 92)), some (.inl a1), some (.inl a2), some (.inl a3), some (.inl q1.1)], [], q1.2) (congrArg some (if_neg hc)) ?_
        refine ev_runs 1 (26, [some (.inr (.inr 92)), some (.inl a1), some (.inl a2), some (.inl a3), some (.inl q1.1)], [], q1.2) (28, [some (.inr (.inr 92)), some (.inl a1), some (.inl a2), some (.inl a3), some (.inl q1.1)], [.inl q1.1], q1.2) rfl ?_
        cases h
        exact er rfl
    · rw [if_neg hc] at h
      refine es (11, [some (.inr (.inr 92)), some (.inl a1), some (.inl a2), some (.inl a3), none], [], g) (congrArg some (if_neg hc)) ?_
      refine ev_runs 1 (11, [some (.inr (.inr 92)), some (.inl a1), some (.inl a2), some (.inl a3), none], [], g) (13, [some (.inr (.inr 92)), some (.inl a1), some (.inl a2), some (.inl a3), none], [.inl (-2)], g) rfl ?_
      cases h
      exact er rfl
def Rn_goes (a0 a1 a2 : Int) : Int :=
  if ¬ (Op_sayer a0) = a1 then
    0
  else
    if ¬ (Op_getter a0) = a2 then
      0
    else
      1
set_option maxRecDepth 100000 in
set_option maxHeartbeats 4000000 in
theorem ev_Rn_goes (a0 a1 a2 : Int) (g : Gx) (r : Int) (h : Rn_goes a0 a1 a2 = r) : Ev 157 0 [some (.inl a0), some (.inl a1), some (.inl a2)] [] g (some (.inl r)) g := by
  rw [Rn_goes] at h
  refine ev_runs 1 (0, [some (.inl a0), some (.inl a1), some (.inl a2)], [], g) (1, [some (.inl a0), some (.inl a1), some (.inl a2)], [.inl a0], g) rfl ?_
  refine ec 92 4 [.inl a0] [] rfl (ev_Op_sayer a0 g _ rfl) ?_
  show Ev 157 4 [some (.inl a0), some (.inl a1), some (.inl a2)] [.inl (Op_sayer a0)] g _ _
  refine ev_runs 1 (4, [some (.inl a0), some (.inl a1), some (.inl a2)], [.inl (Op_sayer a0)], g) (5, [some (.inl a0), some (.inl a1), some (.inl a2)], [.inl a1, .inl (Op_sayer a0)], g) rfl ?_
  by_cases hc : ¬ (Op_sayer a0) = a1
  · rw [if_pos hc] at h
    refine es (20, [some (.inl a0), some (.inl a1), some (.inl a2)], [], g) (congrArg some (if_pos hc)) ?_
    refine ev_runs 1 (20, [some (.inl a0), some (.inl a1), some (.inl a2)], [], g) (21, [some (.inl a0), some (.inl a1), some (.inl a2)], [.inl 0], g) rfl ?_
    subst h
    exact er rfl
  · rw [if_neg hc] at h
    refine es (8, [some (.inl a0), some (.inl a1), some (.inl a2)], [], g) (congrArg some (if_neg hc)) ?_
    refine ev_runs 1 (8, [some (.inl a0), some (.inl a1), some (.inl a2)], [], g) (9, [some (.inl a0), some (.inl a1), some (.inl a2)], [.inl a0], g) rfl ?_
    refine ec 93 12 [.inl a0] [] rfl (ev_Op_getter a0 g _ rfl) ?_
    show Ev 157 12 [some (.inl a0), some (.inl a1), some (.inl a2)] [.inl (Op_getter a0)] g _ _
    refine ev_runs 1 (12, [some (.inl a0), some (.inl a1), some (.inl a2)], [.inl (Op_getter a0)], g) (13, [some (.inl a0), some (.inl a1), some (.inl a2)], [.inl a2, .inl (Op_getter a0)], g) rfl ?_
    by_cases hc : ¬ (Op_getter a0) = a2
    · rw [if_pos hc] at h
      refine es (20, [some (.inl a0), some (.inl a1), some (.inl a2)], [], g) (congrArg some (if_pos hc)) ?_
      refine ev_runs 1 (20, [some (.inl a0), some (.inl a1), some (.inl a2)], [], g) (21, [some (.inl a0), some (.inl a1), some (.inl a2)], [.inl 0], g) rfl ?_
      subst h
      exact er rfl
    · rw [if_neg hc] at h
      refine es (16, [some (.inl a0), some (.inl a1), some (.inl a2)], [], g) (congrArg some (if_neg hc)) ?_
      refine ev_runs 2 (16, [some (.inl a0), some (.inl a1), some (.inl a2)], [], g) (21, [some (.inl a0), some (.inl a1), some (.inl a2)], [.inl 1], g) rfl ?_
      subst h
      exact er rfl
theorem bo_Rn_goes (a0 a1 a2 : Int) : (Rn_goes a0 a1 a2) = 0 ∨ (Rn_goes a0 a1 a2) = 1 := by
  simp only [Rn_goes, lett]
  (repeat' split) <;> first | exact Or.inl rfl | exact Or.inr rfl | exact Or.inl trivial | exact Or.inr trivial
def Rn_gotAhead_l13 (c1 : Int) (c3 : Int) (c4 : Int) (K13_82 : Int → Gx → Option (Int × Gx)) : Nat → Int → Int → Int → Gx → Option (Int × Gx)
  | 0, _, _, _, _ => none
  | n13 + 1, v5, v6, v7, g =>
    if v7 < 0 then
      K13_82 v6 g
    else
      if (Op_has v5 (Op_getter (Hi_word c1 v7 g))) = 0 then
        Rn_gotAhead_l13 c1 c3 c4 K13_82 n13 v5 v6 (wr (v7 + (-1))) g
      else
        if (Rn_goes (Hi_word c1 v7 g) c3 c4) = 0 then
          Rn_gotAhead_l13 c1 c3 c4 K13_82 n13 (jor v5 (jshl 1 (Op_sayer (Hi_word c1 v7 g)))) (wr (v6 + 0)) (wr (v7 + (-1))) g
        else
          Rn_gotAhead_l13 c1 c3 c4 K13_82 n13 (jor v5 (jshl 1 (Op_sayer (Hi_word c1 v7 g)))) (wr (v6 + 1)) (wr (v7 + (-1))) g
def Rn_gotAhead (a1 a2 a3 a4 : Int) (g : Gx) : Option (Int × Gx) :=
  Rn_gotAhead_l13 a1 a3 a4
    (fun x1 g2 =>
      some (x1, g2))
    fu (jshl 1 a3) 0 (wr (a2 - 1)) g
set_option maxRecDepth 100000 in
set_option maxHeartbeats 4000000 in
theorem ev_Rn_gotAhead_l13 (c1 : Int) (c3 : Int) (c4 : Int) (K13_82 : Int → Gx → Option (Int × Gx)) (hK13_82 : ∀ (x6 : Int) (g : Gx) (r : Int) (g' : Gx), K13_82 x6 g = some (r, g') → Ev 158 82 [none, none, none, none, none, none, some (.inl x6), none, none] [] g (some (.inl r)) g') : ∀ (n13 : Nat) (v5 v6 v7 : Int) (g : Gx) (r : Int) (g' : Gx), Rn_gotAhead_l13 c1 c3 c4 K13_82 n13 v5 v6 v7 g = some (r, g') → Ev 158 13 [some (.inr (.inr 60)), some (.inl c1), none, some (.inl c3), some (.inl c4), some (.inl v5), some (.inl v6), some (.inl v7), none] [] g (some (.inl r)) g' := by
  intro n13
  induction n13 with
  | zero => intro v5 v6 v7 g r g' h; cases h
  | succ n13 ih13 =>
    intro v5 v6 v7 g r g' h
    rw [Rn_gotAhead_l13] at h
    refine ev_runs 1 (13, [some (.inr (.inr 60)), some (.inl c1), none, some (.inl c3), some (.inl c4), some (.inl v5), some (.inl v6), some (.inl v7), none], [], g) (15, [some (.inr (.inr 60)), some (.inl c1), none, some (.inl c3), some (.inl c4), some (.inl v5), some (.inl v6), some (.inl v7), none], [.inl v7], g) rfl ?_
    by_cases hc : v7 < 0
    · rw [if_pos hc] at h
      refine es (82, [some (.inr (.inr 60)), some (.inl c1), none, some (.inl c3), some (.inl c4), some (.inl v5), some (.inl v6), some (.inl v7), none], [], g) (congrArg some (if_pos hc)) ?_
      exact ev_le (L := [none, none, none, none, none, none, some (.inl v6), none, none]) (by simp [Lle]) (hK13_82 v6 g r g' h)
    · rw [if_neg hc] at h
      refine es (18, [some (.inr (.inr 60)), some (.inl c1), none, some (.inl c3), some (.inl c4), some (.inl v5), some (.inl v6), some (.inl v7), none], [], g) (congrArg some (if_neg hc)) ?_
      refine ev_runs 4 (18, [some (.inr (.inr 60)), some (.inl c1), none, some (.inl c3), some (.inl c4), some (.inl v5), some (.inl v6), some (.inl v7), none], [], g) (25, [some (.inr (.inr 60)), some (.inl c1), none, some (.inl c3), some (.inl c4), some (.inl v5), some (.inl v6), some (.inl v7), none], [.inl v7, .inl c1, .inr (.inr 33)], g) rfl ?_
      refine ec 85 28 [.inr (.inr 33), .inl c1, .inl v7] [] rfl (ev_Hi_word c1 v7 g _ rfl) ?_
      show Ev 158 28 [some (.inr (.inr 60)), some (.inl c1), none, some (.inl c3), some (.inl c4), some (.inl v5), some (.inl v6), some (.inl v7), none] [.inl (Hi_word c1 v7 g)] g _ _
      refine ev_runs 3 (28, [some (.inr (.inr 60)), some (.inl c1), none, some (.inl c3), some (.inl c4), some (.inl v5), some (.inl v6), some (.inl v7), none], [.inl (Hi_word c1 v7 g)], g) (34, [some (.inr (.inr 60)), some (.inl c1), none, some (.inl c3), some (.inl c4), some (.inl v5), some (.inl v6), some (.inl v7), some (.inl (Hi_word c1 v7 g))], [.inl (Hi_word c1 v7 g), .inl v5], g) rfl ?_
      refine ec 93 37 [.inl (Hi_word c1 v7 g)] [.inl v5] rfl (ev_Op_getter (Hi_word c1 v7 g) g _ rfl) ?_
      show Ev 158 37 [some (.inr (.inr 60)), some (.inl c1), none, some (.inl c3), some (.inl c4), some (.inl v5), some (.inl v6), some (.inl v7), some (.inl (Hi_word c1 v7 g))] [.inl (Op_getter (Hi_word c1 v7 g)), .inl v5] g _ _
      refine ec 64 40 [.inl v5, .inl (Op_getter (Hi_word c1 v7 g))] [] rfl (ev_Op_has v5 (Op_getter (Hi_word c1 v7 g)) g _ rfl) ?_
      show Ev 158 40 [some (.inr (.inr 60)), some (.inl c1), none, some (.inl c3), some (.inl c4), some (.inl v5), some (.inl v6), some (.inl v7), some (.inl (Hi_word c1 v7 g))] [.inl (Op_has v5 (Op_getter (Hi_word c1 v7 g)))] g _ _
      by_cases hc : (Op_has v5 (Op_getter (Hi_word c1 v7 g))) = 0
      · rw [if_pos hc] at h
        refine es (76, [some (.inr (.inr 60)), some (.inl c1), none, some (.inl c3), some (.inl c4), some (.inl v5), some (.inl v6), some (.inl v7), some (.inl (Hi_word c1 v7 g))], [], g) (congrArg some (if_pos hc)) ?_
        refine ev_runs 2 (76, [some (.inr (.inr 60)), some (.inl c1), none, some (.inl c3), some (.inl c4), some (.inl v5), some (.inl v6), some (.inl v7), some (.inl (Hi_word c1 v7 g))], [], g) (13, [some (.inr (.inr 60)), some (.inl c1), none, some (.inl c3), some (.inl c4), some (.inl v5), some (.inl v6), some (.inl (wr (v7 + (-1)))), some (.inl (Hi_word c1 v7 g))], [], g) rfl ?_
        exact ev_le (L := [some (.inr (.inr 60)), some (.inl c1), none, some (.inl c3), some (.inl c4), some (.inl v5), some (.inl v6), some (.inl (wr (v7 + (-1)))), none]) (by simp [Lle]) (ih13 v5 v6 (wr (v7 + (-1))) g r g' h)
      · rw [if_neg hc] at h
        refine es (43, [some (.inr (.inr 60)), some (.inl c1), none, some (.inl c3), some (.inl c4), some (.inl v5), some (.inl v6), some (.inl v7), some (.inl (Hi_word c1 v7 g))], [], g) (congrArg some (if_neg hc)) ?_
        refine ev_runs 3 (43, [some (.inr (.inr 60)), some (.inl c1), none, some (.inl c3), some (.inl c4), some (.inl v5), some (.inl v6), some (.inl v7), some (.inl (Hi_word c1 v7 g))], [], g) (48, [some (.inr (.inr 60)), some (.inl c1), none, some (.inl c3), some (.inl c4), some (.inl v5), some (.inl v6), some (.inl v7), some (.inl (Hi_word c1 v7 g))], [.inl (Hi_word c1 v7 g), .inl 1, .inl v5], g) rfl ?_
        refine ec 92 51 [.inl (Hi_word c1 v7 g)] [.inl 1, .inl v5] rfl (ev_Op_sayer (Hi_word c1 v7 g) g _ rfl) ?_
        show Ev 158 51 [some (.inr (.inr 60)), some (.inl c1), none, some (.inl c3), some (.inl c4), some (.inl v5), some (.inl v6), some (.inl v7), some (.inl (Hi_word c1 v7 g))] [.inl (Op_sayer (Hi_word c1 v7 g)), .inl 1, .inl v5] g _ _
        refine ev_runs 7 (51, [some (.inr (.inr 60)), some (.inl c1), none, some (.inl c3), some (.inl c4), some (.inl v5), some (.inl v6), some (.inl v7), some (.inl (Hi_word c1 v7 g))], [.inl (Op_sayer (Hi_word c1 v7 g)), .inl 1, .inl v5], g) (62, [some (.inr (.inr 60)), some (.inl c1), none, some (.inl c3), some (.inl c4), some (.inl (jor v5 (jshl 1 (Op_sayer (Hi_word c1 v7 g))))), some (.inl v6), some (.inl v7), some (.inl (Hi_word c1 v7 g))], [.inl c4, .inl c3, .inl (Hi_word c1 v7 g), .inl v6], g) rfl ?_
        refine ec 157 65 [.inl (Hi_word c1 v7 g), .inl c3, .inl c4] [.inl v6] rfl (ev_Rn_goes (Hi_word c1 v7 g) c3 c4 g _ rfl) ?_
        show Ev 158 65 [some (.inr (.inr 60)), some (.inl c1), none, some (.inl c3), some (.inl c4), some (.inl (jor v5 (jshl 1 (Op_sayer (Hi_word c1 v7 g))))), some (.inl v6), some (.inl v7), some (.inl (Hi_word c1 v7 g))] [.inl (Rn_goes (Hi_word c1 v7 g) c3 c4), .inl v6] g _ _
        by_cases hc : (Rn_goes (Hi_word c1 v7 g) c3 c4) = 0
        · rw [if_pos hc] at h
          refine es (72, [some (.inr (.inr 60)), some (.inl c1), none, some (.inl c3), some (.inl c4), some (.inl (jor v5 (jshl 1 (Op_sayer (Hi_word c1 v7 g))))), some (.inl v6), some (.inl v7), some (.inl (Hi_word c1 v7 g))], [.inl v6], g) (congrArg some (if_pos hc)) ?_
          refine ev_runs 5 (72, [some (.inr (.inr 60)), some (.inl c1), none, some (.inl c3), some (.inl c4), some (.inl (jor v5 (jshl 1 (Op_sayer (Hi_word c1 v7 g))))), some (.inl v6), some (.inl v7), some (.inl (Hi_word c1 v7 g))], [.inl v6], g) (13, [some (.inr (.inr 60)), some (.inl c1), none, some (.inl c3), some (.inl c4), some (.inl (jor v5 (jshl 1 (Op_sayer (Hi_word c1 v7 g))))), some (.inl (wr (v6 + 0))), some (.inl (wr (v7 + (-1)))), some (.inl (Hi_word c1 v7 g))], [], g) rfl ?_
          exact ev_le (L := [some (.inr (.inr 60)), some (.inl c1), none, some (.inl c3), some (.inl c4), some (.inl (jor v5 (jshl 1 (Op_sayer (Hi_word c1 v7 g))))), some (.inl (wr (v6 + 0))), some (.inl (wr (v7 + (-1)))), none]) (by simp [Lle]) (ih13 (jor v5 (jshl 1 (Op_sayer (Hi_word c1 v7 g)))) (wr (v6 + 0)) (wr (v7 + (-1))) g r g' h)
        · rw [if_neg hc] at h
          refine es (68, [some (.inr (.inr 60)), some (.inl c1), none, some (.inl c3), some (.inl c4), some (.inl (jor v5 (jshl 1 (Op_sayer (Hi_word c1 v7 g))))), some (.inl v6), some (.inl v7), some (.inl (Hi_word c1 v7 g))], [.inl v6], g) (congrArg some (if_neg hc)) ?_
          refine ev_runs 6 (68, [some (.inr (.inr 60)), some (.inl c1), none, some (.inl c3), some (.inl c4), some (.inl (jor v5 (jshl 1 (Op_sayer (Hi_word c1 v7 g))))), some (.inl v6), some (.inl v7), some (.inl (Hi_word c1 v7 g))], [.inl v6], g) (13, [some (.inr (.inr 60)), some (.inl c1), none, some (.inl c3), some (.inl c4), some (.inl (jor v5 (jshl 1 (Op_sayer (Hi_word c1 v7 g))))), some (.inl (wr (v6 + 1))), some (.inl (wr (v7 + (-1)))), some (.inl (Hi_word c1 v7 g))], [], g) rfl ?_
          exact ev_le (L := [some (.inr (.inr 60)), some (.inl c1), none, some (.inl c3), some (.inl c4), some (.inl (jor v5 (jshl 1 (Op_sayer (Hi_word c1 v7 g))))), some (.inl (wr (v6 + 1))), some (.inl (wr (v7 + (-1)))), none]) (by simp [Lle]) (ih13 (jor v5 (jshl 1 (Op_sayer (Hi_word c1 v7 g)))) (wr (v6 + 1)) (wr (v7 + (-1))) g r g' h)
set_option maxRecDepth 100000 in
set_option maxHeartbeats 4000000 in
theorem ev_Rn_gotAhead (a1 a2 a3 a4 : Int) (g : Gx) (r : Int) (g' : Gx) (h : Rn_gotAhead a1 a2 a3 a4 g = some (r, g')) : Ev 158 0 [some (.inr (.inr 60)), some (.inl a1), some (.inl a2), some (.inl a3), some (.inl a4), none, none, none, none] [] g (some (.inl r)) g' := by
  rw [Rn_gotAhead] at h
  refine ev_runs 10 (0, [some (.inr (.inr 60)), some (.inl a1), some (.inl a2), some (.inl a3), some (.inl a4), none, none, none, none], [], g) (13, [some (.inr (.inr 60)), some (.inl a1), some (.inl a2), some (.inl a3), some (.inl a4), some (.inl (jshl 1 a3)), some (.inl 0), some (.inl (wr (a2 - 1))), none], [], g) rfl ?_
  refine ev_le (L := [some (.inr (.inr 60)), some (.inl a1), none, some (.inl a3), some (.inl a4), some (.inl (jshl 1 a3)), some (.inl 0), some (.inl (wr (a2 - 1))), none]) (by simp [Lle]) ?_
  refine ev_Rn_gotAhead_l13 a1 a3 a4 _ ?_ fu (jshl 1 a3) 0 (wr (a2 - 1)) g r g' h
  · intro x1 g2 r g' h
    refine ev_runs 1 (82, [none, none, none, none, none, none, some (.inl x1), none, none], [], g2) (84, [none, none, none, none, none, none, some (.inl x1), none, none], [.inl x1], g2) rfl ?_
    cases h
    exact er rfl
def Rn_longestEver_l9 (c1 : Int) (c2 : Int) (c3 : Int) (K9_68 : Int → Gx → Option (Int × Gx)) : Nat → Int → Int → Int → Gx → Option (Int × Gx)
  | 0, _, _, _, _ => none
  | n9 + 1, v4, v5, v6, g =>
    if (Hi_length c1 g) ≤ v6 then
      K9_68 v4 g
    else
      if (Rn_goes (Hi_word c1 v6 g) c2 c3) = 0 then
        Rn_longestEver_l9 c1 c2 c3 K9_68 n9 v4 v5 (wr (v6 + 1)) g
      else
        Option.bind (Rn_gotAhead c1 v6 c2 c3 g) (fun q1 =>
        Rn_longestEver_l9 c1 c2 c3 K9_68 n9 (imax v4 (wr ((wr (v5 + 1)) - q1.1))) (wr (v5 + 1)) (wr (v6 + 1)) q1.2)
def Rn_longestEver (a1 a2 a3 : Int) (g : Gx) : Option (Int × Gx) :=
  Rn_longestEver_l9 a1 a2 a3
    (fun x2 g3 =>
      some (x2, g3))
    fu 0 0 0 g
set_option maxRecDepth 100000 in
set_option maxHeartbeats 4000000 in
theorem ev_Rn_longestEver_l9 (c1 : Int) (c2 : Int) (c3 : Int) (K9_68 : Int → Gx → Option (Int × Gx)) (hK9_68 : ∀ (x4 : Int) (g : Gx) (r : Int) (g' : Gx), K9_68 x4 g = some (r, g') → Ev 159 68 [none, none, none, none, some (.inl x4), none, none] [] g (some (.inl r)) g') : ∀ (n9 : Nat) (v4 v5 v6 : Int) (g : Gx) (r : Int) (g' : Gx), Rn_longestEver_l9 c1 c2 c3 K9_68 n9 v4 v5 v6 g = some (r, g') → Ev 159 9 [some (.inr (.inr 60)), some (.inl c1), some (.inl c2), some (.inl c3), some (.inl v4), some (.inl v5), some (.inl v6)] [] g (some (.inl r)) g' := by
  intro n9
  induction n9 with
  | zero => intro v4 v5 v6 g r g' h; cases h
  | succ n9 ih9 =>
    intro v4 v5 v6 g r g' h
    rw [Rn_longestEver_l9] at h
    refine ev_runs 4 (9, [some (.inr (.inr 60)), some (.inl c1), some (.inl c2), some (.inl c3), some (.inl v4), some (.inl v5), some (.inl v6)], [], g) (16, [some (.inr (.inr 60)), some (.inl c1), some (.inl c2), some (.inl c3), some (.inl v4), some (.inl v5), some (.inl v6)], [.inl c1, .inr (.inr 33), .inl v6], g) rfl ?_
    refine ec 84 19 [.inr (.inr 33), .inl c1] [.inl v6] rfl (ev_Hi_length c1 g _ rfl) ?_
    show Ev 159 19 [some (.inr (.inr 60)), some (.inl c1), some (.inl c2), some (.inl c3), some (.inl v4), some (.inl v5), some (.inl v6)] [.inl (Hi_length c1 g), .inl v6] g _ _
    by_cases hc : (Hi_length c1 g) ≤ v6
    · rw [if_pos hc] at h
      refine es (68, [some (.inr (.inr 60)), some (.inl c1), some (.inl c2), some (.inl c3), some (.inl v4), some (.inl v5), some (.inl v6)], [], g) (congrArg some (if_pos hc)) ?_
      exact ev_le (L := [none, none, none, none, some (.inl v4), none, none]) (by simp [Lle]) (hK9_68 v4 g r g' h)
    · rw [if_neg hc] at h
      refine es (22, [some (.inr (.inr 60)), some (.inl c1), some (.inl c2), some (.inl c3), some (.inl v4), some (.inl v5), some (.inl v6)], [], g) (congrArg some (if_neg hc)) ?_
      refine ev_runs 4 (22, [some (.inr (.inr 60)), some (.inl c1), some (.inl c2), some (.inl c3), some (.inl v4), some (.inl v5), some (.inl v6)], [], g) (29, [some (.inr (.inr 60)), some (.inl c1), some (.inl c2), some (.inl c3), some (.inl v4), some (.inl v5), some (.inl v6)], [.inl v6, .inl c1, .inr (.inr 33)], g) rfl ?_
      refine ec 85 32 [.inr (.inr 33), .inl c1, .inl v6] [] rfl (ev_Hi_word c1 v6 g _ rfl) ?_
      show Ev 159 32 [some (.inr (.inr 60)), some (.inl c1), some (.inl c2), some (.inl c3), some (.inl v4), some (.inl v5), some (.inl v6)] [.inl (Hi_word c1 v6 g)] g _ _
      refine ev_runs 2 (32, [some (.inr (.inr 60)), some (.inl c1), some (.inl c2), some (.inl c3), some (.inl v4), some (.inl v5), some (.inl v6)], [.inl (Hi_word c1 v6 g)], g) (34, [some (.inr (.inr 60)), some (.inl c1), some (.inl c2), some (.inl c3), some (.inl v4), some (.inl v5), some (.inl v6)], [.inl c3, .inl c2, .inl (Hi_word c1 v6 g)], g) rfl ?_
      refine ec 157 37 [.inl (Hi_word c1 v6 g), .inl c2, .inl c3] [] rfl (ev_Rn_goes (Hi_word c1 v6 g) c2 c3 g _ rfl) ?_
      show Ev 159 37 [some (.inr (.inr 60)), some (.inl c1), some (.inl c2), some (.inl c3), some (.inl v4), some (.inl v5), some (.inl v6)] [.inl (Rn_goes (Hi_word c1 v6 g) c2 c3)] g _ _
      by_cases hc : (Rn_goes (Hi_word c1 v6 g) c2 c3) = 0
      · rw [if_pos hc] at h
        refine es (62, [some (.inr (.inr 60)), some (.inl c1), some (.inl c2), some (.inl c3), some (.inl v4), some (.inl v5), some (.inl v6)], [], g) (congrArg some (if_pos hc)) ?_
        refine ev_runs 2 (62, [some (.inr (.inr 60)), some (.inl c1), some (.inl c2), some (.inl c3), some (.inl v4), some (.inl v5), some (.inl v6)], [], g) (9, [some (.inr (.inr 60)), some (.inl c1), some (.inl c2), some (.inl c3), some (.inl v4), some (.inl v5), some (.inl (wr (v6 + 1)))], [], g) rfl ?_
        exact ev_le (L := [some (.inr (.inr 60)), some (.inl c1), some (.inl c2), some (.inl c3), some (.inl v4), some (.inl v5), some (.inl (wr (v6 + 1)))]) (by simp [Lle]) (ih9 v4 v5 (wr (v6 + 1)) g r g' h)
      · rw [if_neg hc] at h
        refine es (40, [some (.inr (.inr 60)), some (.inl c1), some (.inl c2), some (.inl c3), some (.inl v4), some (.inl v5), some (.inl v6)], [], g) (congrArg some (if_neg hc)) ?_
        refine ev_runs 8 (40, [some (.inr (.inr 60)), some (.inl c1), some (.inl c2), some (.inl c3), some (.inl v4), some (.inl v5), some (.inl v6)], [], g) (53, [some (.inr (.inr 60)), some (.inl c1), some (.inl c2), some (.inl c3), some (.inl v4), some (.inl (wr (v5 + 1))), some (.inl v6)], [.inl c3, .inl c2, .inl v6, .inl c1, .inr (.inr 60), .inl (wr (v5 + 1)), .inl v4], g) rfl ?_
        obtain ⟨q1, hq, h⟩ := Option.bind_eq_some_iff.mp h
        refine ec 158 56 [.inr (.inr 60), .inl c1, .inl v6, .inl c2, .inl c3] [.inl (wr (v5 + 1)), .inl v4] rfl (ev_Rn_gotAhead c1 v6 c2 c3 g q1.1 q1.2 hq) ?_
        show Ev 159 56 [some (.inr (.inr 60)), some (.inl c1), some (.inl c2), some (.inl c3), some (.inl v4), some (.inl (wr (v5 + 1))), some (.inl v6)] [.inl q1.1, .inl (wr (v5 + 1)), .inl v4] q1.2 _ _
        refine ev_runs 5 (56, [some (.inr (.inr 60)), some (.inl c1), some (.inl c2), some (.inl c3), some (.inl v4), some (.inl (wr (v5 + 1))), some (.inl v6)], [.inl q1.1, .inl (wr (v5 + 1)), .inl v4], q1.2) (9, [some (.inr (.inr 60)), some (.inl c1), some (.inl c2), some (.inl c3), some (.inl (imax v4 (wr ((wr (v5 + 1)) - q1.1)))), some (.inl (wr (v5 + 1))), some (.inl (wr (v6 + 1)))], [], q1.2) rfl ?_
        exact ev_le (L := [some (.inr (.inr 60)), some (.inl c1), some (.inl c2), some (.inl c3), some (.inl (imax v4 (wr ((wr (v5 + 1)) - q1.1)))), some (.inl (wr (v5 + 1))), some (.inl (wr (v6 + 1)))]) (by simp [Lle]) (ih9 (imax v4 (wr ((wr (v5 + 1)) - q1.1))) (wr (v5 + 1)) (wr (v6 + 1)) q1.2 r g' h)
set_option maxRecDepth 100000 in
set_option maxHeartbeats 4000000 in
theorem ev_Rn_longestEver (a1 a2 a3 : Int) (g : Gx) (r : Int) (g' : Gx) (h : Rn_longestEver a1 a2 a3 g = some (r, g')) : Ev 159 0 [some (.inr (.inr 60)), some (.inl a1), some (.inl a2), some (.inl a3), none, none, none] [] g (some (.inl r)) g' := by
  rw [Rn_longestEver] at h
  refine ev_runs 6 (0, [some (.inr (.inr 60)), some (.inl a1), some (.inl a2), some (.inl a3), none, none, none], [], g) (9, [some (.inr (.inr 60)), some (.inl a1), some (.inl a2), some (.inl a3), some (.inl 0), some (.inl 0), some (.inl 0)], [], g) rfl ?_
  refine ev_le (L := [some (.inr (.inr 60)), some (.inl a1), some (.inl a2), some (.inl a3), some (.inl 0), some (.inl 0), some (.inl 0)]) (by simp [Lle]) ?_
  refine ev_Rn_longestEver_l9 a1 a2 a3 _ ?_ fu 0 0 0 g r g' h
  · intro x2 g3 r g' h
    refine ev_runs 1 (68, [none, none, none, none, some (.inl x2), none, none], [], g3) (70, [none, none, none, none, some (.inl x2), none, none], [.inl x2], g3) rfl ?_
    cases h
    exact er rfl
def Op_longest (a1 a2 a3 : Int) (g : Gx) : Option (Int × Gx) :=
  if (Op_isHistory a1) = 0 then
    some ((-2), g)
  else
    if (Op_isTalker a2) = 0 then
      some ((-2), g)
    else
      if (Op_isTalker a3) = 0 then
        some ((-2), g)
      else
        if ¬ a2 = a3 then
          Option.bind (Op_hindrance a1 g) (fun q1 =>
          if q1.1 = 0 then
            Option.bind (Rn_longestEver a1 a2 a3 q1.2) (fun q2 =>
            some (q2.1, q2.2))
          else
            some (q1.1, q1.2))
        else
          some ((-2), g)
set_option maxRecDepth 100000 in
set_option maxHeartbeats 4000000 in
theorem ev_Op_longest (a1 a2 a3 : Int) (g : Gx) (r : Int) (g' : Gx) (h : Op_longest a1 a2 a3 g = some (r, g')) : Ev 160 0 [some (.inr (.inr 0)), some (.inl a1), some (.inl a2), some (.inl a3), none] [] g (some (.inl r)) g' := by
  rw [Op_longest] at h
  refine ev_runs 1 (0, [some (.inr (.inr 0)), some (.inl a1), some (.inl a2), some (.inl a3), none], [], g) (1, [some (.inr (.inr 0)), some (.inl a1), some (.inl a2), some (.inl a3), none], [.inl a1], g) rfl ?_
  refine ec 83 4 [.inl a1] [] rfl (ev_Op_isHistory a1 g _ rfl) ?_
  show Ev 160 4 [some (.inr (.inr 0)), some (.inl a1), some (.inl a2), some (.inl a3), none] [.inl (Op_isHistory a1)] g _ _
  by_cases hc : (Op_isHistory a1) = 0
  · rw [if_pos hc] at h
    refine es (26, [some (.inr (.inr 0)), some (.inl a1), some (.inl a2), some (.inl a3), none], [], g) (congrArg some (if_pos hc)) ?_
    refine ev_runs 1 (26, [some (.inr (.inr 0)), some (.inl a1), some (.inl a2), some (.inl a3), none], [], g) (28, [some (.inr (.inr 0)), some (.inl a1), some (.inl a2), some (.inl a3), none], [.inl (-2)], g) rfl ?_
    cases h
    exact er rfl
  · rw [if_neg hc] at h
    refine es (7, [some (.inr (.inr 0)), some (.inl a1), some (.inl a2), some (.inl a3), none], [], g) (congrArg some (if_neg hc)) ?_
    refine ev_runs 1 (7, [some (.inr (.inr 0)), some (.inl a1), some (.inl a2), some (.inl a3), none], [], g) (8, [some (.inr (.inr 0)), some (.inl a1), some (.inl a2), some (.inl a3), none], [.inl a2], g) rfl ?_
    refine ec 91 11 [.inl a2] [] rfl (ev_Op_isTalker a2 g _ rfl) ?_
    show Ev 160 11 [some (.inr (.inr 0)), some (.inl a1), some (.inl a2), some (.inl a3), none] [.inl (Op_isTalker a2)] g _ _
    by_cases hc : (Op_isTalker a2) = 0
    · rw [if_pos hc] at h
      refine es (26, [some (.inr (.inr 0)), some (.inl a1), some (.inl a2), some (.inl a3), none], [], g) (congrArg some (if_pos hc)) ?_
      refine ev_runs 1 (26, [some (.inr (.inr 0)), some (.inl a1), some (.inl a2), some (.inl a3), none], [], g) (28, [some (.inr (.inr 0)), some (.inl a1), some (.inl a2), some (.inl a3), none], [.inl (-2)], g) rfl ?_
      cases h
      exact er rfl
    · rw [if_neg hc] at h
      refine es (14, [some (.inr (.inr 0)), some (.inl a1), some (.inl a2), some (.inl a3), none], [], g) (congrArg some (if_neg hc)) ?_
      refine ev_runs 1 (14, [some (.inr (.inr 0)), some (.inl a1), some (.inl a2), some (.inl a3), none], [], g) (15, [some (.inr (.inr 0)), some (.inl a1), some (.inl a2), some (.inl a3), none], [.inl a3], g) rfl ?_
      refine ec 91 18 [.inl a3] [] rfl (ev_Op_isTalker a3 g _ rfl) ?_
      show Ev 160 18 [some (.inr (.inr 0)), some (.inl a1), some (.inl a2), some (.inl a3), none] [.inl (Op_isTalker a3)] g _ _
      by_cases hc : (Op_isTalker a3) = 0
      · rw [if_pos hc] at h
        refine es (26, [some (.inr (.inr 0)), some (.inl a1), some (.inl a2), some (.inl a3), none], [], g) (congrArg some (if_pos hc)) ?_
        refine ev_runs 1 (26, [some (.inr (.inr 0)), some (.inl a1), some (.inl a2), some (.inl a3), none], [], g) (28, [some (.inr (.inr 0)), some (.inl a1), some (.inl a2), some (.inl a3), none], [.inl (-2)], g) rfl ?_
        cases h
        exact er rfl
      · rw [if_neg hc] at h
        refine es (21, [some (.inr (.inr 0)), some (.inl a1), some (.inl a2), some (.inl a3), none], [], g) (congrArg some (if_neg hc)) ?_
        refine ev_runs 2 (21, [some (.inr (.inr 0)), some (.inl a1), some (.inl a2), some (.inl a3), none], [], g) (23, [some (.inr (.inr 0)), some (.inl a1), some (.inl a2), some (.inl a3), none], [.inl a3, .inl a2], g) rfl ?_
        by_cases hc : ¬ a2 = a3
        · rw [if_pos hc] at h
          refine es (29, [some (.inr (.inr 0)), some (.inl a1), some (.inl a2), some (.inl a3), none], [], g) (congrArg some (if_pos hc)) ?_
          refine ev_runs 2 (29, [some (.inr (.inr 0)), some (.inl a1), some (.inl a2), some (.inl a3), none], [], g) (31, [some (.inr (.inr 0)), some (.inl a1), some (.inl a2), some (.inl a3), none], [.inl a1, .inr (.inr 0)], g) rfl ?_
          obtain ⟨q1, hq, h⟩ := Option.bind_eq_some_iff.mp h
          refine ec 75 34 [.inr (.inr 0), .inl a1] [] rfl (ev_Op_hindrance a1 g q1.1 q1.2 hq) ?_
          show Ev 160 34 [some (.inr (.inr 0)), some (.inl a1), some (.inl a2), some (.inl a3), none] [.inl q1.1] q1.2 _ _
          refine ev_runs 2 (34, [some (.inr (.inr 0)), some (.inl a1), some (.inl a2), some (.inl a3), none], [.inl q1.1], q1.2) (38, [some (.inr (.inr 0)), some (.inl a1), some (.inl a2), some (.inl a3), some (.inl q1.1)], [.inl q1.1], q1.2) rfl ?_
          by_cases hc : q1.1 = 0
          · rw [if_pos hc] at h
            refine es (46, [some (.inr (.inr 0)), some (.inl a1), some (.inl a2), some (.inl a3), some (.inl q1.1)], [], q1.2) (congrArg some (if_pos hc)) ?_
            refine ev_runs 5 (46, [some (.inr (.inr 0)), some (.inl a1), some (.inl a2), some (.inl a3), some (.inl q1.1)], [], q1.2) (53, [some (.inr (.inr 0)), some (.inl a1), some (.inl a2), some (.inl a3), some (.inl q1.1)], [.inl a3, .inl a2, .inl a1, .inr (.inr 60)], q1.2) rfl ?_
            obtain ⟨q2, hq, h⟩ := Option.bind_eq_some_iff.mp h
            refine ec 159 56 [.inr (.inr 60), .inl a1, .inl a2, .inl a3] [] rfl (ev_Rn_longestEver a1 a2 a3 q1.2 q2.1 q2.2 hq) ?_
            show Ev 160 56 [some (.inr (.inr 0)), some (.inl a1), some (.inl a2), some (.inl a3), some (.inl q1.1)] [.inl q2.1] q2.2 _ _
            cases h
            exact er rfl
          · rw [if_neg hc] at h
            refine es (41, [some (.inr (.inr 0)), some (.inl a1), some (.inl a2), some (.inl a3), some (.inl q1.1)], [], q1.2) (congrArg some (if_neg hc)) ?_
            refine ev_runs 2 (41, [some (.inr (.inr 0)), some (.inl a1), some (.inl a2), some (.inl a3), some (.inl q1.1)], [], q1.2) (56, [some (.inr (.inr 0)), some (.inl a1), some (.inl a2), some (.inl a3), some (.inl q1.1)], [.inl q1.1], q1.2) rfl ?_
            cases h
            exact er rfl
        · rw [if_neg hc] at h
          refine es (26, [some (.inr (.inr 0)), some (.inl a1), some (.inl a2), some (.inl a3), none], [], g) (congrArg some (if_neg hc)) ?_
          refine ev_runs 1 (26, [some (.inr (.inr 0)), some (.inl a1), some (.inl a2), some (.inl a3), none], [], g) (28, [some (.inr (.inr 0)), some (.inl a1), some (.inl a2), some (.inl a3), none], [.inl (-2)], g) rfl ?_
          cases h
          exact er rfl
