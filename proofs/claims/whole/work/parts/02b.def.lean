/-! Methods as functions of the heap of numbers. Printed by wip/gen/gen_parts.py. -/
def Pg_act (a1 a2 a3 : Int) (g : Gx) : Int :=
  lett ((if ¬ (rat g 71 80 (wr ((rat g 77 9 a1) + a2))) = 10000 then (wr ((wr (1000 * (rat g 73 80 (wr ((rat g 77 9 a1) + a2))))) + (wr (100 * a3)))) else (wr ((wr (1000 * a3)) + (wr (100 * (rat g 73 80 (wr ((rat g 77 9 a1) + a2)))))))) : Int) (fun y1 =>
  (wr ((wr ((rat g 71 80 (wr ((rat g 77 9 a1) + a2))) + y1)) + (rat g 75 80 (wr ((rat g 77 9 a1) + a2))))))
def Pg_rowsBeginningAs_l30 (c1 : Int) (c2 : Int) (c3 : Int) (c4 : Int) (c5 : Int) (c6 : Int) (K30_63 : Int → Gx → Option (Int × Gx)) : Nat → Int → Gx → Option (Int × Gx)
  | 0, _, _ => none
  | n30 + 1, v7, g =>
    if c6 ≤ v7 then
      K30_63 v7 g
    else
      if ¬ (Pg_act c5 v7 c3 g) = (Pg_act c1 v7 c3 g) then
        K30_63 v7 g
      else
        Pg_rowsBeginningAs_l30 c1 c2 c3 c4 c5 c6 K30_63 n30 (wr (v7 + 1)) g
def Pg_rowsBeginningAs_l6 (c1 : Int) (c2 : Int) (c3 : Int) (K6_88 : Int → Gx → Option (Int × Gx)) : Nat → Int → Int → Gx → Option (Int × Gx)
  | 0, _, _, _ => none
  | n6 + 1, v4, v5, g =>
    if (g 69 7) ≤ v5 then
      K6_88 v4 g
    else
      Pg_rowsBeginningAs_l30 c1 c2 c3 v4 v5 (imin c2 (Pg_length v5 g))
        (fun x1 g2 =>
          if ¬ x1 = c2 then
            Pg_rowsBeginningAs_l6 c1 c2 c3 K6_88 n6 (jor v4 0) (wr (v5 + 1)) g2
          else
            Pg_rowsBeginningAs_l6 c1 c2 c3 K6_88 n6 (jor v4 (jshl 1 v5)) (wr (v5 + 1)) g2)
        fu 0 g
def Pg_rowsBeginningAs (a1 a2 a3 : Int) (g : Gx) : Option (Int × Gx) :=
  Pg_rowsBeginningAs_l6 a1 a2 a3
    (fun x3 g4 =>
      some (x3, g4))
    fu 0 0 g
def Pg_looksBeginningAs_l36 (c1 : Int) (c2 : Int) (c3 : Int) (c4 : Int) (c5 : Int) (c6 : Int) (K36_71 : Int → Gx → Option (Int × Gx)) : Nat → Int → Gx → Option (Int × Gx)
  | 0, _, _ => none
  | n36 + 1, v7, g =>
    if c6 ≤ v7 then
      K36_71 v7 g
    else
      if ¬ (Lk_act c5 v7 g) = (Pg_act c1 v7 c3 g) then
        K36_71 v7 g
      else
        Pg_looksBeginningAs_l36 c1 c2 c3 c4 c5 c6 K36_71 n36 (wr (v7 + 1)) g
def Pg_looksBeginningAs_l6 (c1 : Int) (c2 : Int) (c3 : Int) (K6_96 : Int → Gx → Option (Int × Gx)) : Nat → Int → Int → Gx → Option (Int × Gx)
  | 0, _, _, _ => none
  | n6 + 1, v4, v5, g =>
    if (Hi_size g) ≤ v5 then
      K6_96 v4 g
    else
      Pg_looksBeginningAs_l36 c1 c2 c3 v4 v5 (imin c2 (Lk_length v5 g))
        (fun x1 g2 =>
          if ¬ x1 = c2 then
            Pg_looksBeginningAs_l6 c1 c2 c3 K6_96 n6 (jor v4 0) (wr (v5 + 1)) g2
          else
            Pg_looksBeginningAs_l6 c1 c2 c3 K6_96 n6 (jor v4 (jshl 1 v5)) (wr (v5 + 1)) g2)
        fu 0 g
def Pg_looksBeginningAs (a1 a2 a3 : Int) (g : Gx) : Option (Int × Gx) :=
  Pg_looksBeginningAs_l6 a1 a2 a3
    (fun x3 g4 =>
      some (x3, g4))
    fu 0 0 g
def Pg_rowsDo_l3 (c1 : Int) (c2 : Int) (c3 : Int) (c4 : Int) (K3_52 : Gx → Option (Int × Gx)) : Nat → Int → Gx → Option (Int × Gx)
  | 0, _, _ => none
  | n3 + 1, v5, g =>
    if (g 69 7) ≤ v5 then
      K3_52 g
    else
      if (Op_has c1 v5) = 0 then
        Pg_rowsDo_l3 c1 c2 c3 c4 K3_52 n3 (wr (v5 + 1)) g
      else
        if (Pg_length v5 g) ≤ c2 then
          Pg_rowsDo_l3 c1 c2 c3 c4 K3_52 n3 (wr (v5 + 1)) g
        else
          if ¬ (Pg_act v5 c2 c4 g) = c3 then
            Pg_rowsDo_l3 c1 c2 c3 c4 K3_52 n3 (wr (v5 + 1)) g
          else
            some (1, g)
def Pg_rowsDo (a1 a2 a3 a4 : Int) (g : Gx) : Option (Int × Gx) :=
  Pg_rowsDo_l3 a1 a2 a3 a4
    (fun g1 =>
      some (0, g1))
    fu 0 g
def Pg_rowsGetAll_l3 (c1 : Int) (c2 : Int) (c3 : Int) (c4 : Int) (K3_66 : Gx → Option (Int × Gx)) : Nat → Int → Gx → Option (Int × Gx)
  | 0, _, _ => none
  | n3 + 1, v5, g =>
    if (Hi_size g) ≤ v5 then
      K3_66 g
    else
      if (Op_has c2 v5) = 0 then
        Pg_rowsGetAll_l3 c1 c2 c3 c4 K3_66 n3 (wr (v5 + 1)) g
      else
        if (Lk_gets v5 c3 g) = 0 then
          Pg_rowsGetAll_l3 c1 c2 c3 c4 K3_66 n3 (wr (v5 + 1)) g
        else
          Option.bind (Pg_rowsDo c1 c3 (Lk_act v5 c3 g) c4 g) (fun q1 =>
          if ¬ q1.1 = 0 then
            Pg_rowsGetAll_l3 c1 c2 c3 c4 K3_66 n3 (wr (v5 + 1)) q1.2
          else
            some (0, q1.2))
def Pg_rowsGetAll (a1 a2 a3 a4 : Int) (g : Gx) : Option (Int × Gx) :=
  Pg_rowsGetAll_l3 a1 a2 a3 a4
    (fun g2 =>
      some (1, g2))
    fu 0 g
def Pg_saysAt (a1 a2 : Int) (g : Gx) : Int :=
  if (Pg_length a1 g) ≤ a2 then
    0
  else
    if ¬ (rat g 71 80 (wr ((rat g 77 9 a1) + a2))) = 10000 then
      0
    else
      1
theorem bo_Pg_saysAt (a1 a2 : Int) (g : Gx) : (Pg_saysAt a1 a2 g) = 0 ∨ (Pg_saysAt a1 a2 g) = 1 := by
  simp only [Pg_saysAt, lett]
  (repeat' split) <;> first | exact Or.inl rfl | exact Or.inr rfl | exact Or.inl trivial | exact Or.inr trivial
def Pg_looksDo_l3 (c1 : Int) (c2 : Int) (c3 : Int) (K3_59 : Gx → Option (Int × Gx)) : Nat → Int → Gx → Option (Int × Gx)
  | 0, _, _ => none
  | n3 + 1, v4, g =>
    if (Hi_size g) ≤ v4 then
      K3_59 g
    else
      if (Op_has c1 v4) = 0 then
        Pg_looksDo_l3 c1 c2 c3 K3_59 n3 (wr (v4 + 1)) g
      else
        if (Lk_length v4 g) ≤ c2 then
          Pg_looksDo_l3 c1 c2 c3 K3_59 n3 (wr (v4 + 1)) g
        else
          if ¬ (Lk_act v4 c2 g) = c3 then
            Pg_looksDo_l3 c1 c2 c3 K3_59 n3 (wr (v4 + 1)) g
          else
            some (1, g)
def Pg_looksDo (a1 a2 a3 : Int) (g : Gx) : Option (Int × Gx) :=
  Pg_looksDo_l3 a1 a2 a3
    (fun g1 =>
      some (0, g1))
    fu 0 g
def Pg_looksSayAll_l3 (c1 : Int) (c2 : Int) (c3 : Int) (c4 : Int) (K3_57 : Gx → Option (Int × Gx)) : Nat → Int → Gx → Option (Int × Gx)
  | 0, _, _ => none
  | n3 + 1, v5, g =>
    if (g 69 7) ≤ v5 then
      K3_57 g
    else
      if (Op_has c1 v5) = 0 then
        Pg_looksSayAll_l3 c1 c2 c3 c4 K3_57 n3 (wr (v5 + 1)) g
      else
        if (Pg_saysAt v5 c3 g) = 0 then
          Pg_looksSayAll_l3 c1 c2 c3 c4 K3_57 n3 (wr (v5 + 1)) g
        else
          Option.bind (Pg_looksDo c2 c3 (Pg_act v5 c3 c4 g) g) (fun q1 =>
          if ¬ q1.1 = 0 then
            Pg_looksSayAll_l3 c1 c2 c3 c4 K3_57 n3 (wr (v5 + 1)) q1.2
          else
            some (0, q1.2))
def Pg_looksSayAll (a1 a2 a3 a4 : Int) (g : Gx) : Option (Int × Gx) :=
  Pg_looksSayAll_l3 a1 a2 a3 a4
    (fun g2 =>
      some (1, g2))
    fu 0 g
def Lk_says (a1 a2 : Int) (g : Gx) : Int :=
  if (rat g 54 30 a1) ≤ a2 then
    0
  else
    if 20000 ≤ (rat g 52 720 (wr ((wr (a1 * 24)) + a2))) then
      0
    else
      1
theorem bo_Lk_says (a1 a2 : Int) (g : Gx) : (Lk_says a1 a2 g) = 0 ∨ (Lk_says a1 a2 g) = 1 := by
  simp only [Lk_says, lett]
  (repeat' split) <;> first | exact Or.inl rfl | exact Or.inr rfl | exact Or.inl trivial | exact Or.inr trivial
def Pg_looksOnlySay_l2 (c1 : Int) (c2 : Int) (K2_41 : Gx → Option (Int × Gx)) : Nat → Int → Gx → Option (Int × Gx)
  | 0, _, _ => none
  | n2 + 1, v3, g =>
    if (Hi_size g) ≤ v3 then
      K2_41 g
    else
      if (Op_has c1 v3) = 0 then
        Pg_looksOnlySay_l2 c1 c2 K2_41 n2 (wr (v3 + 1)) g
      else
        if ¬ (Lk_says v3 c2 g) = 0 then
          Pg_looksOnlySay_l2 c1 c2 K2_41 n2 (wr (v3 + 1)) g
        else
          some (0, g)
def Pg_looksOnlySay (a1 a2 : Int) (g : Gx) : Option (Int × Gx) :=
  Pg_looksOnlySay_l2 a1 a2
    (fun g1 =>
      some (1, g1))
    fu 0 g
def Pg_rowsSay_l2 (c1 : Int) (c2 : Int) (K2_35 : Gx → Option (Int × Gx)) : Nat → Int → Gx → Option (Int × Gx)
  | 0, _, _ => none
  | n2 + 1, v3, g =>
    if (g 69 7) ≤ v3 then
      K2_35 g
    else
      if (Op_has c1 v3) = 0 then
        Pg_rowsSay_l2 c1 c2 K2_35 n2 (wr (v3 + 1)) g
      else
        if (Pg_saysAt v3 c2 g) = 0 then
          Pg_rowsSay_l2 c1 c2 K2_35 n2 (wr (v3 + 1)) g
        else
          some (1, g)
def Pg_rowsSay (a1 a2 : Int) (g : Gx) : Option (Int × Gx) :=
  Pg_rowsSay_l2 a1 a2
    (fun g1 =>
      some (0, g1))
    fu 0 g
def Pg_isBreach (a1 a2 a3 : Int) (g : Gx) : Option (Int × Gx) :=
  Option.bind (Pg_rowsBeginningAs a1 a2 a3 g) (fun q1 =>
  Option.bind (Pg_looksBeginningAs a1 a2 a3 q1.2) (fun q2 =>
  if ¬ q2.1 = 0 then
    Option.bind (Pg_rowsGetAll q1.1 q2.1 a2 a3 q2.2) (fun q3 =>
    if q3.1 = 0 then
      some (1, q3.2)
    else
      Option.bind (Pg_looksSayAll q1.1 q2.1 a2 a3 q3.2) (fun q4 =>
      if q4.1 = 0 then
        some (1, q4.2)
      else
        Option.bind (Pg_looksOnlySay q2.1 a2 q4.2) (fun q5 =>
        if q5.1 = 0 then
          some (0, q5.2)
        else
          Option.bind (Pg_rowsSay q1.1 a2 q5.2) (fun q6 =>
          if ¬ q6.1 = 0 then
            some (0, q6.2)
          else
            some (1, q6.2)))))
  else
    some (0, q2.2)))
def Pg_firstBreach_l18 (c1 : Int) (c2 : Int) (K18_53 : Gx → Option (Int × Gx)) : Nat → Int → Gx → Option (Int × Gx)
  | 0, _, _ => none
  | n18 + 1, v3, g =>
    if (g 69 7) ≤ v3 then
      K18_53 g
    else
      if (Pg_length v3 g) < c2 then
        Pg_firstBreach_l18 c1 c2 K18_53 n18 (wr (v3 + 1)) g
      else
        Option.bind (Pg_isBreach v3 c2 c1 g) (fun q2 =>
        if q2.1 = 0 then
          Pg_firstBreach_l18 c1 c2 K18_53 n18 (wr (v3 + 1)) q2.2
        else
          some (c2, q2.2))
def Pg_firstBreach_l10 (c1 : Int) (K10_59 : Gx → Option (Int × Gx)) : Nat → Int → Gx → Option (Int × Gx)
  | 0, _, _ => none
  | n10 + 1, v2, g =>
    if 24 < v2 then
      K10_59 g
    else
      Pg_firstBreach_l18 c1 v2
        (fun g3 =>
          Pg_firstBreach_l10 c1 K10_59 n10 (wr (v2 + 1)) g3)
        fu 0 g
def Pg_firstBreach (a1 : Int) (g : Gx) : Option (Int × Gx) :=
  Option.bind (Lk_load a1 g) (fun g1 =>
  Pg_firstBreach_l10 a1
    (fun g4 =>
      some ((-1), g4))
    fu 0 g1)
def Op_fits (a1 : Int) (g : Gx) : Option (Int × Gx) :=
  if ¬ (Op_isTalker a1) = 0 then
    Option.bind (Pg_firstFault g) (fun q1 =>
    if q1.1 = (-1) then
      Option.bind (Op_hindrance 0 q1.2) (fun q2 =>
      if q2.1 = 0 then
        Option.bind (Pg_firstBreach a1 q2.2) (fun q3 =>
        if ¬ q3.1 = (-1) then
          some (0, q3.2)
        else
          some (1, q3.2))
      else
        some (q2.1, q2.2))
    else
      some ((-3), q1.2))
  else
    some ((-2), g)
def Md_lacksEither (g : Gx) : Option (Int × Gx) :=
  Option.bind (Md_readsProgram g) (fun q1 =>
  if ¬ q1.1 = (-1) then
    some ((-3), q1.2)
  else
    Option.bind (Md_without q1.2) (fun q2 =>
    some (q2.1, q2.2)))
def Md_rowAt (a1 a2 a3 : Int) (g : Gx) : Option (Int × Gx) :=
  if 0 ≤ a2 ∧ a2 < 8 then
  if a3 < (g 106 a2.toNat) then
    if 0 ≤ (wr ((wr (30 * a2)) + a3)) ∧ (wr ((wr (30 * a2)) + a3)) < 240 then
    if ¬ (g 107 (wr ((wr (30 * a2)) + a3)).toNat) = 33 then
      if 0 ≤ (wr ((wr (30 * a2)) + a3)) ∧ (wr ((wr (30 * a2)) + a3)) < 240 then
      if 0 ≤ (wr ((wr (30 * a2)) + a3)) ∧ (wr ((wr (30 * a2)) + a3)) < 240 then
      some ((wr ((wr ((wr (20000 + (wr (1000 * (g 108 (wr ((wr (30 * a2)) + a3)).toNat))))) + (wr (100 * a1)))) + (g 109 (wr ((wr (30 * a2)) + a3)).toNat))), g)
      else none
      else none
    else
      if 0 ≤ (wr ((wr (30 * a2)) + a3)) ∧ (wr ((wr (30 * a2)) + a3)) < 240 then
      if 0 ≤ (wr ((wr (30 * a2)) + a3)) ∧ (wr ((wr (30 * a2)) + a3)) < 240 then
      some ((wr ((wr ((wr (10000 + (wr (1000 * a1)))) + (wr (100 * (g 108 (wr ((wr (30 * a2)) + a3)).toNat))))) + (g 109 (wr ((wr (30 * a2)) + a3)).toNat))), g)
      else none
      else none
    else none
  else
    some ((-1), g)
  else none
def Md_alike_l37 (c1 : Int) (c2 : Int) (c3 : Int) (c4 : Int) (K37_81 : Int → Gx → Option (Int × Gx)) : Nat → Int → Int → Gx → Option (Int × Gx)
  | 0, _, _, _ => none
  | n37 + 1, v5, v6, g =>
    if c4 ≤ v6 then
      K37_81 v5 g
    else
      if v5 = 0 then
        K37_81 v5 g
      else
        Option.bind (Md_rowAt c1 c2 v6 g) (fun q1 =>
        Option.bind (Md_lookAt c1 c3 v6 q1.2) (fun q2 =>
        if ¬ q1.1 = q2.1 then
          Md_alike_l37 c1 c2 c3 c4 K37_81 n37 0 (wr (v6 + 1)) q2.2
        else
          Md_alike_l37 c1 c2 c3 c4 K37_81 n37 1 (wr (v6 + 1)) q2.2))
def Md_alike (a1 a2 a3 a4 : Int) (g : Gx) : Option (Int × Gx) :=
  if 0 ≤ a2 ∧ a2 < 8 then
  if (g 106 a2.toNat) < a4 then
    Md_alike_l37 a1 a2 a3 a4
      (fun x3 g4 =>
        if x3 = 0 ∨ x3 = 1 then some (x3, g4) else none)
      fu 0 0 g
  else
    if 0 ≤ (wr ((wr (6 * a3)) + a1)) ∧ (wr ((wr (6 * a3)) + a1)) < 180 then
    if (g 118 (wr ((wr (6 * a3)) + a1)).toNat) < a4 then
      Md_alike_l37 a1 a2 a3 a4
        (fun x5 g6 =>
          if x5 = 0 ∨ x5 = 1 then some (x5, g6) else none)
        fu 0 0 g
    else
      Md_alike_l37 a1 a2 a3 a4
        (fun x7 g8 =>
          if x7 = 0 ∨ x7 = 1 then some (x7, g8) else none)
        fu 1 0 g
    else none
  else none
def Md_rowsCan_l6 (c1 : Int) (c2 : Int) (c3 : Int) (c4 : Int) (K6_58 : Int → Gx → Option (Int × Gx)) : Nat → Int → Int → Gx → Option (Int × Gx)
  | 0, _, _, _ => none
  | n6 + 1, v5, v6, g =>
    if (g 92 21) ≤ v6 then
      K6_58 v5 g
    else
      if ¬ v5 = 0 then
        Md_rowsCan_l6 c1 c2 c3 c4 K6_58 n6 1 (wr (v6 + 1)) g
      else
        Option.bind (Md_alike c1 v6 c2 c3 g) (fun q1 =>
        if q1.1 = 0 then
          Md_rowsCan_l6 c1 c2 c3 c4 K6_58 n6 0 (wr (v6 + 1)) q1.2
        else
          Option.bind (Md_rowAt c1 v6 c3 q1.2) (fun q2 =>
          if ¬ q2.1 = c4 then
            Md_rowsCan_l6 c1 c2 c3 c4 K6_58 n6 0 (wr (v6 + 1)) q2.2
          else
            Md_rowsCan_l6 c1 c2 c3 c4 K6_58 n6 1 (wr (v6 + 1)) q2.2))
def Md_rowsCan (a1 a2 a3 a4 : Int) (g : Gx) : Option (Int × Gx) :=
  Md_rowsCan_l6 a1 a2 a3 a4
    (fun x3 g4 =>
      if x3 = 0 ∨ x3 = 1 then some (x3, g4) else none)
    fu 0 0 g
def Md_looksCan_l6 (c1 : Int) (c2 : Int) (c3 : Int) (c4 : Int) (K6_58 : Int → Gx → Option (Int × Gx)) : Nat → Int → Int → Gx → Option (Int × Gx)
  | 0, _, _, _ => none
  | n6 + 1, v5, v6, g =>
    if (g 92 26) ≤ v6 then
      K6_58 v5 g
    else
      if ¬ v5 = 0 then
        Md_looksCan_l6 c1 c2 c3 c4 K6_58 n6 1 (wr (v6 + 1)) g
      else
        Option.bind (Md_alike c1 c2 v6 c3 g) (fun q1 =>
        if q1.1 = 0 then
          Md_looksCan_l6 c1 c2 c3 c4 K6_58 n6 0 (wr (v6 + 1)) q1.2
        else
          Option.bind (Md_lookAt c1 v6 c3 q1.2) (fun q2 =>
          if ¬ q2.1 = c4 then
            Md_looksCan_l6 c1 c2 c3 c4 K6_58 n6 0 (wr (v6 + 1)) q2.2
          else
            Md_looksCan_l6 c1 c2 c3 c4 K6_58 n6 1 (wr (v6 + 1)) q2.2))
def Md_looksCan (a1 a2 a3 a4 : Int) (g : Gx) : Option (Int × Gx) :=
  Md_looksCan_l6 a1 a2 a3 a4
    (fun x3 g4 =>
      if x3 = 0 ∨ x3 = 1 then some (x3, g4) else none)
    fu 0 0 g
def Md_fitsAt_l12 (c1 : Int) (c2 : Int) (c3 : Int) (c4 : Int) (K12_138 : Int → Int → Int → Gx → Option (Int × Gx)) : Nat → Int → Int → Int → Int → Gx → Option (Int × Gx)
  | 0, _, _, _, _, _ => none
  | n12 + 1, v5, v6, v7, v8, g =>
    if (g 92 26) ≤ v8 then
      K12_138 v5 v6 v7 g
    else
      Option.bind (Md_alike c1 c2 v8 c4 g) (fun q1 =>
      if q1.1 = 0 then
        Md_fitsAt_l12 c1 c2 c3 c4 K12_138 n12 v5 v6 v7 (wr (v8 + 1)) q1.2
      else
        Option.bind (Md_lookAt c1 v8 c4 q1.2) (fun q2 =>
        lett ((if ¬ v6 = 0 then 1 else (if (Md_in q2.1 10000 19999) = 0 then 0 else 1)) : Int) (fun y3 =>
        lett ((if ¬ v7 = 0 then 1 else (if ¬ (Md_in q2.1 10000 19999) = 0 then 0 else 1)) : Int) (fun y4 =>
        if v5 = 0 then
          Md_fitsAt_l12 c1 c2 c3 c4 K12_138 n12 0 y3 y4 (wr (v8 + 1)) q2.2
        else
          if q2.1 < 20000 then
            Md_fitsAt_l12 c1 c2 c3 c4 K12_138 n12 1 y3 y4 (wr (v8 + 1)) q2.2
          else
            Option.bind (Md_rowsCan c1 c3 c4 q2.1 q2.2) (fun q5 =>
            if q5.1 = 0 then
              Md_fitsAt_l12 c1 c2 c3 c4 K12_138 n12 0 y3 y4 (wr (v8 + 1)) q5.2
            else
              Md_fitsAt_l12 c1 c2 c3 c4 K12_138 n12 1 y3 y4 (wr (v8 + 1)) q5.2)))))
def Md_fitsAt_l144 (c1 : Int) (c2 : Int) (c3 : Int) (c4 : Int) (c6 : Int) (c7 : Int) (K144_250 : Int → Int → Gx → Option (Int × Gx)) : Nat → Int → Int → Int → Gx → Option (Int × Gx)
  | 0, _, _, _, _ => none
  | n144 + 1, v5, v8, v9, g =>
    if (g 92 21) ≤ v9 then
      K144_250 v5 v8 g
    else
      Option.bind (Md_alike c1 v9 c3 c4 g) (fun q10 =>
      if q10.1 = 0 then
        Md_fitsAt_l144 c1 c2 c3 c4 c6 c7 K144_250 n144 v5 v8 (wr (v9 + 1)) q10.2
      else
        Option.bind (Md_rowAt c1 v9 c4 q10.2) (fun q11 =>
        lett ((if ¬ v8 = 0 then 1 else (if (Md_in q11.1 10000 19999) = 0 then 0 else 1)) : Int) (fun y12 =>
        if v5 = 0 then
          Md_fitsAt_l144 c1 c2 c3 c4 c6 c7 K144_250 n144 0 y12 (wr (v9 + 1)) q11.2
        else
          if (Md_in q11.1 10000 19999) = 0 then
            Md_fitsAt_l144 c1 c2 c3 c4 c6 c7 K144_250 n144 1 y12 (wr (v9 + 1)) q11.2
          else
            Option.bind (Md_looksCan c1 c2 c4 q11.1 q11.2) (fun q13 =>
            if q13.1 = 0 then
              Md_fitsAt_l144 c1 c2 c3 c4 c6 c7 K144_250 n144 0 y12 (wr (v9 + 1)) q13.2
            else
              Md_fitsAt_l144 c1 c2 c3 c4 c6 c7 K144_250 n144 1 y12 (wr (v9 + 1)) q13.2))))
def Md_fitsAt (a1 a2 a3 a4 : Int) (g : Gx) : Option (Int × Gx) :=
  Md_fitsAt_l12 a1 a2 a3 a4
    (fun x6 x7 x8 g9 =>
      Md_fitsAt_l144 a1 a2 a3 a4 x7 x8
        (fun x14 x15 g16 =>
          if x14 = 0 then
            some (0, g16)
          else
            if x7 = 0 then
              some (1, g16)
            else
              if ¬ x8 = 0 then
                some (1, g16)
              else
                if x15 = 0 then
                  some (0, g16)
                else
                  some (1, g16))
        fu x6 0 0 g9)
    fu 1 0 0 0 g
def Md_breachOf_l25 (c1 : Int) (c2 : Int) (c3 : Int) (K25_66 : Gx → Option (Int × Gx)) : Nat → Int → Gx → Option (Int × Gx)
  | 0, _, _ => none
  | n25 + 1, v4, g =>
    if (g 92 26) ≤ v4 then
      K25_66 g
    else
      Option.bind (Md_alike c1 c3 v4 c2 g) (fun q2 =>
      if q2.1 = 0 then
        Md_breachOf_l25 c1 c2 c3 K25_66 n25 (wr (v4 + 1)) q2.2
      else
        Option.bind (Md_fitsAt c1 c3 v4 c2 q2.2) (fun q3 =>
        if ¬ q3.1 = 0 then
          Md_breachOf_l25 c1 c2 c3 K25_66 n25 (wr (v4 + 1)) q3.2
        else
          some (c2, q3.2)))
def Md_breachOf_l14 (c1 : Int) (c2 : Int) (K14_72 : Gx → Option (Int × Gx)) : Nat → Int → Gx → Option (Int × Gx)
  | 0, _, _ => none
  | n14 + 1, v3, g =>
    if (g 92 21) ≤ v3 then
      K14_72 g
    else
      Md_breachOf_l25 c1 c2 v3
        (fun g4 =>
          Md_breachOf_l14 c1 c2 K14_72 n14 (wr (v3 + 1)) g4)
        fu 0 g
def Md_breachOf_l6 (c1 : Int) (K6_78 : Gx → Option (Int × Gx)) : Nat → Int → Gx → Option (Int × Gx)
  | 0, _, _ => none
  | n6 + 1, v2, g =>
    if 25 ≤ v2 then
      K6_78 g
    else
      Md_breachOf_l14 c1 v2
        (fun g5 =>
          Md_breachOf_l6 c1 K6_78 n6 (wr (v2 + 1)) g5)
        fu 0 g
def Md_breachOf (a1 : Int) (g : Gx) : Option (Int × Gx) :=
  Option.bind (Md_findLooks g) (fun g1 =>
  Md_breachOf_l6 a1
    (fun g6 =>
      some ((-1), g6))
    fu 0 g1)
def Md_fits (a1 : Int) (g : Gx) : Option (Int × Gx) :=
  if ¬ (Md_isOne a1) = 0 then
    Option.bind (Md_lacksEither g) (fun q1 =>
    if q1.1 = 0 then
      Option.bind (Md_breachOf a1 q1.2) (fun q2 =>
      if ¬ q2.1 = (-1) then
        some (0, q2.2)
      else
        some (1, q2.2))
    else
      some (q1.1, q1.2))
  else
    some ((-2), g)
def Op_breach (a1 : Int) (g : Gx) : Option (Int × Gx) :=
  if ¬ (Op_isTalker a1) = 0 then
    Option.bind (Pg_firstFault g) (fun q1 =>
    if q1.1 = (-1) then
      Option.bind (Op_hindrance 0 q1.2) (fun q2 =>
      if q2.1 = 0 then
        Option.bind (Pg_firstBreach a1 q2.2) (fun q3 =>
        some (q3.1, q3.2))
      else
        some (q2.1, q2.2))
    else
      some ((-3), q1.2))
  else
    some ((-2), g)
def Md_breach (a1 : Int) (g : Gx) : Option (Int × Gx) :=
  if ¬ (Md_isOne a1) = 0 then
    Option.bind (Md_lacksEither g) (fun q1 =>
    if q1.1 = 0 then
      Option.bind (Md_breachOf a1 q1.2) (fun q2 =>
      some (q2.1, q2.2))
    else
      some (q1.1, q1.2))
  else
    some ((-2), g)
def Op_isSheet (a0 : Int) : Int :=
  if a0 < 0 then
    0
  else
    if 4 ≤ a0 then
      0
    else
      1
theorem bo_Op_isSheet (a0 : Int) : (Op_isSheet a0) = 0 ∨ (Op_isSheet a0) = 1 := by
  simp only [Op_isSheet, lett]
  (repeat' split) <;> first | exact Or.inl rfl | exact Or.inr rfl | exact Or.inl trivial | exact Or.inr trivial
def Sh_isLost (a1 : Int) (g : Gx) : Int :=
  if ¬ (rat g 89 4 a1) = (-1) then
    0
  else
    1
theorem bo_Sh_isLost (a1 : Int) (g : Gx) : (Sh_isLost a1 g) = 0 ∨ (Sh_isLost a1 g) = 1 := by
  simp only [Sh_isLost, lett]
  (repeat' split) <;> first | exact Or.inl rfl | exact Or.inr rfl | exact Or.inl trivial | exact Or.inr trivial
def Op_found (a1 : Int) (g : Gx) : Int × Gx :=
  ((wr ((-10) - a1)), (gset g 0 12 a1))
def Sh_size (a1 : Int) (g : Gx) : Int :=
  (rat g 91 4 a1)
def Sh_item (a1 a2 : Int) (g : Gx) : Int :=
  (rat g 87 240 (wr ((wr (a1 * 60)) + a2)))
def Bd_mayBe (a0 : Int) : Int :=
  if a0 < 0 then
    0
  else
    if (Op_isTalker (Op_sayer a0)) = 0 then
      0
    else
      if (Op_isTalker (Op_getter a0)) = 0 then
        0
      else
        if (Op_sayer a0) = (Op_getter a0) then
          0
        else
          if 29 < (jrem a0 100) then
            0
          else
            1
theorem bo_Bd_mayBe (a0 : Int) : (Bd_mayBe a0) = 0 ∨ (Bd_mayBe a0) = 1 := by
  simp only [Bd_mayBe, lett]
  (repeat' split) <;> first | exact Or.inl rfl | exact Or.inr rfl | exact Or.inl trivial | exact Or.inr trivial | apply bo_Op_isTalker
def Bd_append (a1 : Int) (g : Gx) : Int × Gx :=
  if 40 ≤ (g 78 4) then
    (0, g)
  else
    if ¬ (Bd_mayBe a1) = 0 then
      (1, (gset (rset g 80 40 (g 78 4) a1) 78 4 (wr ((g 78 4) + 1))))
    else
      (0, g)
theorem bo_Bd_append (a1 : Int) (g : Gx) : (Bd_append a1 g).1 = 0 ∨ (Bd_append a1 g).1 = 1 := by
  simp only [Bd_append, lett]
  (repeat' split) <;> first | exact Or.inl rfl | exact Or.inr rfl | exact Or.inl trivial | exact Or.inr trivial | apply bo_Bd_mayBe
def Op_log_l29 (c1 : Int) (K29_66 : Int → Gx → Option (Int × Gx)) : Nat → Int → Gx → Option (Int × Gx)
  | 0, _, _ => none
  | n29 + 1, v2, g =>
    if (Sh_size c1 g) ≤ v2 then
      K29_66 v2 g
    else
      lett (Bd_append (Sh_item c1 v2 g) g) (fun q1 =>
      if q1.1 = 0 then
        K29_66 v2 q1.2
      else
        Op_log_l29 c1 K29_66 n29 (wr (v2 + 1)) q1.2)
def Op_log (a1 : Int) (g : Gx) : Option (Int × Gx) :=
  if ¬ (Op_isSheet a1) = 0 then
    if (Sh_isLost a1 g) = 0 then
      Op_log_l29 a1
        (fun x2 g3 =>
          some (x2, g3))
        fu 0 g
    else
      lett (Op_found 1 g) (fun q4 =>
      some (q4.1, q4.2))
  else
    some ((-2), g)
def Md_isSheet (a0 : Int) : Int :=
  (Md_in a0 0 3)
theorem bo_Md_isSheet (a0 : Int) : (Md_isSheet a0) = 0 ∨ (Md_isSheet a0) = 1 := by
  simp only [Md_isSheet, lett]
  (repeat' split) <;> first | exact Or.inl rfl | exact Or.inr rfl | exact Or.inl trivial | exact Or.inr trivial | apply bo_Md_in
def Md_met (a1 : Int) (g : Gx) : Int × Gx :=
  ((wr ((-10) - a1)), (gset g 92 4 a1))
def Md_log_l29 (c1 : Int) (K29_162 : Int → Gx → Option (Int × Gx)) : Nat → Int → Int → Gx → Option (Int × Gx)
  | 0, _, _, _ => none
  | n29 + 1, v2, v3, g =>
    if v3 = 0 then
      K29_162 v2 g
    else
      if 0 ≤ c1 ∧ c1 < 4 then
      if (g 94 c1.toNat) ≤ v2 then
        K29_162 v2 g
      else
        if 40 ≤ (g 92 48) then
          K29_162 v2 g
        else
          if 0 ≤ (wr ((wr (60 * c1)) + v2)) ∧ (wr ((wr (60 * c1)) + v2)) < 240 then
          lett ((if (g 95 (wr ((wr (60 * c1)) + v2)).toNat) < 0 then 0 else (if (Md_in (Md_from (g 95 (wr ((wr (60 * c1)) + v2)).toNat)) 0 5) = 0 then 0 else (if (Md_in (Md_to (g 95 (wr ((wr (60 * c1)) + v2)).toNat)) 0 5) = 0 then 0 else (if (Md_from (g 95 (wr ((wr (60 * c1)) + v2)).toNat)) = (Md_to (g 95 (wr ((wr (60 * c1)) + v2)).toNat)) then 0 else (if 30 ≤ (jrem (g 95 (wr ((wr (60 * c1)) + v2)).toNat) 100) then 0 else 1))))) : Int) (fun y1 =>
          if y1 = 0 then
            Md_log_l29 c1 K29_162 n29 v2 y1 g
          else
            if 0 ≤ (g 92 48) ∧ (g 92 48) < 40 then
            Md_log_l29 c1 K29_162 n29 (wr (v2 + 1)) y1 (gset (gset g 127 ((g 92 48).toNat) (g 95 (wr ((wr (60 * c1)) + v2)).toNat)) 92 48 (wr ((g 92 48) + 1)))
            else none)
          else none
      else none
def Md_log (a1 : Int) (g : Gx) : Option (Int × Gx) :=
  if ¬ (Md_isSheet a1) = 0 then
    if 0 ≤ a1 ∧ a1 < 4 then
    if 0 ≤ (g 93 a1.toNat) then
      Md_log_l29 a1
        (fun x2 g3 =>
          some (x2, g3))
        fu 0 1 g
    else
      lett (Md_met 1 g) (fun q4 =>
      some (q4.1, q4.2))
    else none
  else
    some ((-2), g)
def Bd_empty (g : Gx) : Int × Gx :=
  ((g 78 4), (gset g 78 4 0))
def Op_clear (g : Gx) : Int × Gx :=
  lett (Bd_empty g) (fun q1 =>
  (q1.1, q1.2))
def Md_clear (g : Gx) : Int × Gx :=
  ((g 92 48), (gset g 92 48 0))
def Bd_size (g : Gx) : Int :=
  (g 78 4)
def Bd_bears_l15 (c1 : Int) (c2 : Int) (c3 : Int) (K15_79 : Gx → Option (Int × Gx)) : Nat → Int → Gx → Option (Int × Gx)
  | 0, _, _ => none
  | n15 + 1, v4, g =>
    if (Hi_length c1 g) ≤ v4 then
      K15_79 g
    else
      if ¬ (jdiv (Hi_word c1 v4 g) 100) = c3 then
        Bd_bears_l15 c1 c2 c3 K15_79 n15 (wr (v4 + 1)) g
      else
        if ¬ (Hi_word c1 v4 g) = c2 then
          some (0, (rset g 84 60 c3 (wr (v4 + 1))))
        else
          some (1, (rset g 84 60 c3 (wr (v4 + 1))))
def Bd_bears (a1 a2 : Int) (g : Gx) : Option (Int × Gx) :=
  Bd_bears_l15 a1 a2 (jdiv a2 100)
    (fun g1 =>
      some (0, g1))
    fu (rat g 84 60 (jdiv a2 100)) g
def Bd_compare_l23 (c1 : Int) (K23_53 : Int → Gx → Option Gx) : Nat → Int → Gx → Option Gx
  | 0, _, _ => none
  | n23 + 1, v2, g =>
    if (g 78 4) ≤ v2 then
      K23_53 v2 g
    else
      Option.bind (Bd_bears c1 (rat g 80 40 v2) g) (fun q1 =>
      if q1.1 = 0 then
        K23_53 v2 q1.2
      else
        Bd_compare_l23 c1 K23_53 n23 (wr (v2 + 1)) q1.2)
def Bd_compare_l2 (K2_68 : Gx → Option Gx) : Nat → Int → Gx → Option Gx
  | 0, _, _ => none
  | n2 + 1, v1, g =>
    if (Hi_size g) ≤ v1 then
      K2_68 g
    else
      Bd_compare_l23 v1
        (fun x2 g3 =>
          Bd_compare_l2 K2_68 n2 (wr (v1 + 1)) (rset g3 82 30 v1 x2))
        fu 0 (rfill g 84 60 0)
def Bd_compare (g : Gx) : Option Gx :=
  Bd_compare_l2
    (fun g4 =>
      some g4)
    fu 0 g
def Bd_leftBy_l4 (c1 : Int) (K4_43 : Int → Gx → Option (Int × Gx)) : Nat → Int → Int → Gx → Option (Int × Gx)
  | 0, _, _, _ => none
  | n4 + 1, v2, v3, g =>
    if (Hi_size g) ≤ v3 then
      K4_43 v2 g
    else
      if (rat g 82 30 v3) < c1 then
        Bd_leftBy_l4 c1 K4_43 n4 (jor v2 0) (wr (v3 + 1)) g
      else
        Bd_leftBy_l4 c1 K4_43 n4 (jor v2 (jshl 1 v3)) (wr (v3 + 1)) g
def Bd_leftBy (a1 : Int) (g : Gx) : Option (Int × Gx) :=
  Bd_leftBy_l4 a1
    (fun x1 g2 =>
      some (x1, g2))
    fu 0 0 g
def Op_left (a1 : Int) (g : Gx) : Option (Int × Gx) :=
  if a1 < 0 then
    some ((-2), g)
  else
    if a1 ≤ (Bd_size g) then
      Option.bind (Op_hindrance 0 g) (fun q1 =>
      if q1.1 = 0 then
        Option.bind (Bd_compare q1.2) (fun g2 =>
        Option.bind (Bd_leftBy a1 g2) (fun q3 =>
        some (q3.1, q3.2)))
      else
        some (q1.1, q1.2))
    else
      some ((-2), g)
def Md_isLeft_l5 (c1 : Int) (c2 : Int) (c3 : Int) (K5_26 : Gx → Option (Int × Gx)) : Nat → Int → Gx → Option (Int × Gx)
  | 0, _, _ => none
  | n5 + 1, v4, g =>
    if 36 ≤ v4 then
      K5_26 g
    else
      if 0 ≤ v4 ∧ v4 < 36 then
      Md_isLeft_l5 c1 c2 c3 K5_26 n5 (wr (v4 + 1)) (gset g 122 v4.toNat 0)
      else none
def Md_isLeft_l63 (c1 : Int) (c2 : Int) (c4 : Int) (c5 : Int) (K63_125 : Int → Gx → Option (Int × Gx)) : Nat → Int → Int → Gx → Option (Int × Gx)
  | 0, _, _, _ => none
  | n63 + 1, v6, v7, g =>
    if 0 ≤ c1 ∧ c1 < 30 then
    if (g 110 c1.toNat) ≤ v7 then
      K63_125 v7 g
    else
      Option.bind (Md_code c1 v7 g) (fun q2 =>
      if ¬ (Md_queueOf q2.1) = c5 then
        Option.bind (Md_code c1 v7 q2.2) (fun q3 =>
        if ¬ (Md_queueOf q3.1) = c5 then
          Md_isLeft_l63 c1 c2 c4 c5 K63_125 n63 (wr (v6 - 0)) (wr (v7 + 1)) q3.2
        else
          Md_isLeft_l63 c1 c2 c4 c5 K63_125 n63 (wr (v6 - 1)) (wr (v7 + 1)) q3.2)
      else
        if v6 ≤ 0 then
          K63_125 v7 q2.2
        else
          Option.bind (Md_code c1 v7 q2.2) (fun q4 =>
          if ¬ (Md_queueOf q4.1) = c5 then
            Md_isLeft_l63 c1 c2 c4 c5 K63_125 n63 (wr (v6 - 0)) (wr (v7 + 1)) q4.2
          else
            Md_isLeft_l63 c1 c2 c4 c5 K63_125 n63 (wr (v6 - 1)) (wr (v7 + 1)) q4.2))
    else none
def Md_isLeft_l29 (c1 : Int) (c2 : Int) (K29_176 : Int → Gx → Option (Int × Gx)) : Nat → Int → Int → Gx → Option (Int × Gx)
  | 0, _, _, _ => none
  | n29 + 1, v3, v4, g =>
    if c2 ≤ v4 then
      K29_176 v3 g
    else
      if v3 = 0 then
        K29_176 v3 g
      else
        if 0 ≤ v4 ∧ v4 < 40 then
        if 0 ≤ (Md_queueOf (g 127 v4.toNat)) ∧ (Md_queueOf (g 127 v4.toNat)) < 36 then
        Md_isLeft_l63 c1 c2 v4 (Md_queueOf (g 127 v4.toNat))
          (fun x5 g6 =>
            if 0 ≤ c1 ∧ c1 < 30 then
            if (g6 110 c1.toNat) ≤ x5 then
              if 0 ≤ (Md_queueOf (g 127 v4.toNat)) ∧ (Md_queueOf (g 127 v4.toNat)) < 36 then
              if 0 ≤ (Md_queueOf (g 127 v4.toNat)) ∧ (Md_queueOf (g 127 v4.toNat)) < 36 then
              Md_isLeft_l29 c1 c2 K29_176 n29 0 (wr (v4 + 1)) (gset g6 122 ((Md_queueOf (g 127 v4.toNat)).toNat) (wr ((g6 122 (Md_queueOf (g 127 v4.toNat)).toNat) + 1)))
              else none
              else none
            else
              Option.bind (Md_code c1 x5 g6) (fun q7 =>
              if 0 ≤ v4 ∧ v4 < 40 then
              lett ((if ¬ q7.1 = (q7.2 127 v4.toNat) then 0 else 1) : Int) (fun y8 =>
              if 0 ≤ (Md_queueOf (g 127 v4.toNat)) ∧ (Md_queueOf (g 127 v4.toNat)) < 36 then
              if 0 ≤ (Md_queueOf (g 127 v4.toNat)) ∧ (Md_queueOf (g 127 v4.toNat)) < 36 then
              Md_isLeft_l29 c1 c2 K29_176 n29 y8 (wr (v4 + 1)) (gset q7.2 122 ((Md_queueOf (g 127 v4.toNat)).toNat) (wr ((q7.2 122 (Md_queueOf (g 127 v4.toNat)).toNat) + 1)))
              else none
              else none)
              else none)
            else none)
          fu (g 122 (Md_queueOf (g 127 v4.toNat)).toNat) 0 g
        else none
        else none
def Md_isLeft (a1 a2 : Int) (g : Gx) : Option (Int × Gx) :=
  Md_isLeft_l5 a1 a2 1
    (fun g1 =>
      Md_isLeft_l29 a1 a2
        (fun x9 g10 =>
          if x9 = 0 ∨ x9 = 1 then some (x9, g10) else none)
        fu 1 0 g1)
    fu 0 g
def Md_leftBy_l4 (c1 : Int) (K4_37 : Int → Gx → Option (Int × Gx)) : Nat → Int → Int → Gx → Option (Int × Gx)
  | 0, _, _, _ => none
  | n4 + 1, v2, v3, g =>
    if (g 92 26) ≤ v3 then
      K4_37 v2 g
    else
      Option.bind (Md_isLeft v3 c1 g) (fun q1 =>
      if q1.1 = 0 then
        Md_leftBy_l4 c1 K4_37 n4 (jor v2 0) (wr (v3 + 1)) q1.2
      else
        Md_leftBy_l4 c1 K4_37 n4 (jor v2 (jshl 1 v3)) (wr (v3 + 1)) q1.2)
def Md_leftBy (a1 : Int) (g : Gx) : Option (Int × Gx) :=
  Md_leftBy_l4 a1
    (fun x2 g3 =>
      some (x2, g3))
    fu 0 0 g
def Md_left (a1 : Int) (g : Gx) : Option (Int × Gx) :=
  if ¬ (Md_in a1 0 (g 92 48)) = 0 then
    Option.bind (Md_without g) (fun q1 =>
    if q1.1 = 0 then
      Option.bind (Md_leftBy a1 q1.2) (fun q2 =>
      some (q2.1, q2.2))
    else
      some (q1.1, q1.2))
  else
    some ((-2), g)
def Bd_mostBorne_l4 (K4_34 : Int → Gx → Option (Int × Gx)) : Nat → Int → Int → Gx → Option (Int × Gx)
  | 0, _, _, _ => none
  | n4 + 1, v1, v2, g =>
    if (Hi_size g) ≤ v2 then
      K4_34 v1 g
    else
      Bd_mostBorne_l4 K4_34 n4 (imax v1 (rat g 82 30 v2)) (wr (v2 + 1)) g
def Bd_mostBorne (g : Gx) : Option (Int × Gx) :=
  Bd_mostBorne_l4
    (fun x1 g2 =>
      some (x1, g2))
    fu 0 0 g
def Bd_firstOut (g : Gx) : Option (Int × Gx) :=
  Option.bind (Bd_mostBorne g) (fun q1 =>
  if (q1.2 78 4) ≤ q1.1 then
    some ((-1), q1.2)
  else
    some (q1.1, q1.2))
def Bd_blamed (g : Gx) : Option (Int × Gx) :=
  Option.bind (Bd_mostBorne g) (fun q1 =>
  if (q1.2 78 4) ≤ q1.1 then
    some ((-1), q1.2)
  else
    some ((Op_sayer (rat q1.2 80 40 q1.1)), q1.2))
def Op_out (a1 : Int) (g : Gx) : Option (Int × Gx) :=
  if a1 < 0 then
    some ((-2), g)
  else
    if a1 ≤ 1 then
      Option.bind (Op_hindrance 0 g) (fun q1 =>
      if q1.1 = 0 then
        Option.bind (Bd_compare q1.2) (fun g2 =>
        if ¬ a1 = 0 then
          Option.bind (Bd_blamed g2) (fun q3 =>
          some (q3.1, q3.2))
        else
          Option.bind (Bd_firstOut g2) (fun q4 =>
          some (q4.1, q4.2)))
      else
        some (q1.1, q1.2))
    else
      some ((-2), g)
def Md_outOf_l2 (K2_28 : Gx → Option (Int × Gx)) : Nat → Int → Gx → Option (Int × Gx)
  | 0, _, _ => none
  | n2 + 1, v1, g =>
    if (g 92 48) ≤ v1 then
      K2_28 g
    else
      Option.bind (Md_leftBy (wr (v1 + 1)) g) (fun q1 =>
      if ¬ q1.1 = 0 then
        Md_outOf_l2 K2_28 n2 (wr (v1 + 1)) q1.2
      else
        some (v1, q1.2))
def Md_outOf (g : Gx) : Option (Int × Gx) :=
  Md_outOf_l2
    (fun g2 =>
      some ((-1), g2))
    fu 0 g
def Md_out (a1 : Int) (g : Gx) : Option (Int × Gx) :=
  if ¬ (Md_in a1 0 1) = 0 then
    Option.bind (Md_without g) (fun q1 =>
    if q1.1 = 0 then
      Option.bind (Md_outOf q1.2) (fun q2 =>
      if q2.1 = (-1) then
        some (q2.1, q2.2)
      else
        if ¬ a1 = 0 then
          if 0 ≤ q2.1 ∧ q2.1 < 40 then
          some ((Md_from (q2.2 127 q2.1.toNat)), q2.2)
          else none
        else
          some (q2.1, q2.2))
    else
      some (q1.1, q1.2))
  else
    some ((-2), g)
def Bd_leftAtLast (g : Gx) : Option (Int × Gx) :=
  Option.bind (Bd_mostBorne g) (fun q1 =>
  Option.bind (Bd_leftBy q1.1 q1.2) (fun q2 =>
  some (q2.1, q2.2)))
def Lk_mostTelling_l7 (c1 : Int) (K7_45 : Int → Gx → Option (Int × Gx)) : Nat → Int → Int → Int → Gx → Option (Int × Gx)
  | 0, _, _, _, _ => none
  | n7 + 1, v2, v3, v4, g =>
    if 6 ≤ v4 then
      K7_45 v2 g
    else
      Option.bind (Lk_load v4 g) (fun g1 =>
      Option.bind (Lk_unlike c1 g1) (fun q2 =>
      if q2.1 ≤ v3 then
        Lk_mostTelling_l7 c1 K7_45 n7 v2 v3 (wr (v4 + 1)) q2.2
      else
        Lk_mostTelling_l7 c1 K7_45 n7 v4 q2.1 (wr (v4 + 1)) q2.2))
def Lk_mostTelling (a1 : Int) (g : Gx) : Option (Int × Gx) :=
  Lk_mostTelling_l7 a1
    (fun x3 g4 =>
      some (x3, g4))
    fu 0 0 0 g
def Op_ask (g : Gx) : Option (Int × Gx) :=
  Option.bind (Op_hindrance 0 g) (fun q1 =>
  if q1.1 = 0 then
    Option.bind (Bd_compare q1.2) (fun g2 =>
    Option.bind (Bd_leftAtLast g2) (fun q3 =>
    if ¬ (Ji_bitCount q3.1) = 1 then
      Option.bind (Lk_mostTelling q3.1 q3.2) (fun q4 =>
      some (q4.1, q4.2))
    else
      some ((-1), q3.2)))
  else
    if ¬ q1.1 = (-4) then
      some (q1.1, q1.2)
    else
      some ((-1), q1.2))
def Md_ask_l64 (c3 : Int) (K64_103 : Int → Gx → Option (Int × Gx)) : Nat → Int → Int → Gx → Option (Int × Gx)
  | 0, _, _, _ => none
  | n64 + 1, v4, v5, g =>
    if 6 ≤ v5 then
      K64_103 v4 g
    else
      Option.bind (Md_looksOf v5 c3 g) (fun q7 =>
      Option.bind (Md_looksOf v4 c3 q7.2) (fun q8 =>
      if q7.1 ≤ q8.1 then
        Md_ask_l64 c3 K64_103 n64 v4 (wr (v5 + 1)) q8.2
      else
        Md_ask_l64 c3 K64_103 n64 v5 (wr (v5 + 1)) q8.2))
def Md_ask (g : Gx) : Option (Int × Gx) :=
  Option.bind (Md_without g) (fun q1 =>
  if q1.1 = 0 then
    Option.bind (Md_outOf q1.2) (fun q2 =>
    lett ((if ¬ q2.1 = (-1) then q2.1 else (q2.2 92 48)) : Int) (fun y3 =>
    Option.bind (Md_leftBy y3 q2.2) (fun q4 =>
    Option.bind (Md_ones q4.1 q4.2) (fun q5 =>
    if ¬ q5.1 = 1 then
      Option.bind (Md_findLooks q5.2) (fun g6 =>
      Md_ask_l64 q4.1
        (fun x9 g10 =>
          some (x9, g10))
        fu 0 1 g6)
    else
      some ((-1), q5.2)))))
  else
    if ¬ q1.1 = (-4) then
      some (q1.1, q1.2)
    else
      some ((-1), q1.2))
def Op_isForm (a0 : Int) : Int :=
  if a0 < 0 then
    0
  else
    if 3 ≤ a0 then
      0
    else
      1
theorem bo_Op_isForm (a0 : Int) : (Op_isForm a0) = 0 ∨ (Op_isForm a0) = 1 := by
  simp only [Op_isForm, lett]
  (repeat' split) <;> first | exact Or.inl rfl | exact Or.inr rfl | exact Or.inl trivial | exact Or.inr trivial
def Sh_renew_l21 (c1 : Int) (c3 : Int) (K21_48 : Gx → Option Gx) : Nat → Int → Gx → Option Gx
  | 0, _, _ => none
  | n21 + 1, v4, g =>
    if c3 ≤ v4 then
      K21_48 g
    else
      Sh_renew_l21 c1 c3 K21_48 n21 (wr (v4 + 1)) (rset g 87 240 (wr ((wr (c1 * 60)) + v4)) 0)
def Sh_renew (a1 a2 a3 : Int) (g : Gx) : Option Gx :=
  Sh_renew_l21 a1 a3
    (fun g1 =>
      some g1)
    fu 0 (rset (rset g 89 4 a1 a2) 91 4 a1 a3)
def Op_sheet (a1 a2 a3 : Int) (g : Gx) : Option (Int × Gx) :=
  if (Op_isSheet a1) = 0 then
    some ((-2), g)
  else
    if (Op_isForm a2) = 0 then
      some ((-2), g)
    else
      if a3 ≤ 60 then
        if 0 ≤ a3 then
          Option.bind (Sh_renew a1 a2 a3 g) (fun g1 =>
          some (a3, g1))
        else
          lett (Op_found 5 g) (fun q2 =>
          some (q2.1, q2.2))
      else
        some ((-2), g)
def Md_sheet_l55 (c1 : Int) (c3 : Int) (K55_80 : Gx → Option (Int × Gx)) : Nat → Int → Gx → Option (Int × Gx)
  | 0, _, _ => none
  | n55 + 1, v4, g =>
    if c3 ≤ v4 then
      K55_80 g
    else
      if 0 ≤ (wr ((wr (60 * c1)) + v4)) ∧ (wr ((wr (60 * c1)) + v4)) < 240 then
      Md_sheet_l55 c1 c3 K55_80 n55 (wr (v4 + 1)) (gset g 95 ((wr ((wr (60 * c1)) + v4)).toNat) 0)
      else none
def Md_sheet (a1 a2 a3 : Int) (g : Gx) : Option (Int × Gx) :=
  if (Md_isSheet a1) = 0 then
    some ((-2), g)
  else
    if (Md_in a2 0 2) = 0 then
      some ((-2), g)
    else
      if a3 ≤ 60 then
        if 0 ≤ a3 then
          if 0 ≤ a1 ∧ a1 < 4 then
          if 0 ≤ a1 ∧ a1 < 4 then
          Md_sheet_l55 a1 a3
            (fun g1 =>
              some (a3, g1))
            fu 0 (gset (gset g 93 a1.toNat a2) 94 a1.toNat a3)
          else none
          else none
        else
          lett (Md_met 5 g) (fun q2 =>
          some (q2.1, q2.2))
      else
        some ((-2), g)
def Sh_drop (a1 : Int) (g : Gx) : Int × Gx :=
  ((rat g 91 4 a1), (rset (rset g 89 4 a1 (-1)) 91 4 a1 0))
def Op_lose (a1 : Int) (g : Gx) : Int × Gx :=
  if ¬ (Op_isSheet a1) = 0 then
    if (Sh_isLost a1 g) = 0 then
      lett (Sh_drop a1 g) (fun q1 =>
      (q1.1, q1.2))
    else
      lett (Op_found 1 g) (fun q2 =>
      (q2.1, q2.2))
  else
    ((-2), g)
def Md_lose (a1 : Int) (g : Gx) : Option (Int × Gx) :=
  if ¬ (Md_isSheet a1) = 0 then
    if 0 ≤ a1 ∧ a1 < 4 then
    if 0 ≤ (g 93 a1.toNat) then
      if 0 ≤ a1 ∧ a1 < 4 then
      if 0 ≤ a1 ∧ a1 < 4 then
      some ((g 94 a1.toNat), (gset g 93 a1.toNat (-1)))
      else none
      else none
    else
      lett (Md_met 1 g) (fun q1 =>
      some (q1.1, q1.2))
    else none
  else
    some ((-2), g)
def Sh_hasItems (a1 a2 a3 : Int) (g : Gx) : Int :=
  if a2 < 0 then
    0
  else
    if a3 < 0 then
      0
    else
      if (Sh_size a1 g) < a2 then
        0
      else
        if (wr ((Sh_size a1 g) - a2)) < a3 then
          0
        else
          1
theorem bo_Sh_hasItems (a1 a2 a3 : Int) (g : Gx) : (Sh_hasItems a1 a2 a3 g) = 0 ∨ (Sh_hasItems a1 a2 a3 g) = 1 := by
  simp only [Sh_hasItems, lett]
  (repeat' split) <;> first | exact Or.inl rfl | exact Or.inr rfl | exact Or.inl trivial | exact Or.inr trivial
def Sh_wrongAbout (a1 a2 a3 : Int) (g : Gx) : Int :=
  if (Sh_isLost a1 g) = 0 then
    if (rat g 89 4 a1) = a2 then
      if (Sh_hasItems a1 a3 1 g) = 0 then
        2
      else
        0
    else
      3
  else
    1
def Sh_change (a1 a2 a3 : Int) (g : Gx) : Gx :=
  if ¬ (rat g 89 4 a1) = 0 then
    if ¬ (rat g 89 4 a1) = 1 then
      (rset g 87 240 (wr ((wr (a1 * 60)) + a2)) a3)
    else
      (rset g 87 240 (wr ((wr (a1 * 60)) + a2)) (js a3))
  else
    (rset g 87 240 (wr ((wr (a1 * 60)) + a2)) (jb a3))
def Op_put (a1 a2 a3 a4 : Int) (g : Gx) : Int × Gx :=
  if (Op_isSheet a1) = 0 then
    ((-2), g)
  else
    if ¬ (Op_isForm a2) = 0 then
      if (Sh_wrongAbout a1 a2 a3 g) = 0 then
        lett (Sh_change a1 a3 a4 g) (fun g1 =>
        (1, g1))
      else
        lett (Op_found (Sh_wrongAbout a1 a2 a3 g) g) (fun q2 =>
        (q2.1, q2.2))
    else
      ((-2), g)
def Md_lacks (a1 a2 a3 : Int) (g : Gx) : Option (Int × Gx) :=
  if 0 ≤ a1 ∧ a1 < 4 then
  if 0 ≤ (g 93 a1.toNat) then
    if 0 ≤ a1 ∧ a1 < 4 then
    if (g 93 a1.toNat) = a2 then
      if 0 ≤ a1 ∧ a1 < 4 then
      if (Md_in a3 0 (wr ((g 94 a1.toNat) - 1))) = 0 then
        lett (Md_met 2 g) (fun q1 =>
        some (q1.1, q1.2))
      else
        some (0, g)
      else none
    else
      lett (Md_met 3 g) (fun q2 =>
      some (q2.1, q2.2))
    else none
  else
    lett (Md_met 1 g) (fun q3 =>
    some (q3.1, q3.2))
  else none
def Md_cut (a0 a1 : Int) : Int :=
  if ¬ a0 = 0 then
    if ¬ a0 = 1 then
      a1
    else
      (js a1)
  else
    (jb a1)
def Md_put (a1 a2 a3 a4 : Int) (g : Gx) : Option (Int × Gx) :=
  if (Md_isSheet a1) = 0 then
    some ((-2), g)
  else
    if ¬ (Md_in a2 0 2) = 0 then
      Option.bind (Md_lacks a1 a2 a3 g) (fun q1 =>
      if q1.1 = 0 then
        if 0 ≤ (wr ((wr (60 * a1)) + a3)) ∧ (wr ((wr (60 * a1)) + a3)) < 240 then
        some (1, (gset q1.2 95 ((wr ((wr (60 * a1)) + a3)).toNat) (Md_cut a2 a4)))
        else none
      else
        some (q1.1, q1.2))
    else
      some ((-2), g)
def Op_get (a1 a2 a3 : Int) (g : Gx) : Int × Gx :=
  if (Op_isSheet a1) = 0 then
    ((-2147483648), g)
  else
    if ¬ (Op_isForm a2) = 0 then
      if (Sh_wrongAbout a1 a2 a3 g) = 0 then
        ((Sh_item a1 a3 g), g)
      else
        ((-2147483648), (gset g 0 12 (Sh_wrongAbout a1 a2 a3 g)))
    else
      ((-2147483648), g)
def Md_get (a1 a2 a3 : Int) (g : Gx) : Option (Int × Gx) :=
  if (Md_isSheet a1) = 0 then
    some ((-2147483648), g)
  else
    if (Md_in a2 0 2) = 0 then
      some ((-2147483648), g)
    else
      Option.bind (Md_lacks a1 a2 a3 g) (fun q1 =>
      if q1.1 = 0 then
        if 0 ≤ (wr ((wr (60 * a1)) + a3)) ∧ (wr ((wr (60 * a1)) + a3)) < 240 then
        some ((q1.2 95 (wr ((wr (60 * a1)) + a3)).toNat), q1.2)
        else none
      else
        some ((-2147483648), q1.2))
def Sh_form (a1 : Int) (g : Gx) : Int :=
  (rat g 89 4 a1)
def Sh_move_l3 (c1 : Int) (c2 : Int) (c3 : Int) (c4 : Int) (c5 : Int) (K3_62 : Gx → Option Gx) : Nat → Int → Gx → Option Gx
  | 0, _, _ => none
  | n3 + 1, v6, g =>
    if c5 ≤ v6 then
      K3_62 g
    else
      lett ((if c4 ≤ c2 then v6 else (wr ((wr (c5 - 1)) - v6))) : Int) (fun y1 =>
      Sh_move_l3 c1 c2 c3 c4 c5 K3_62 n3 (wr (v6 + 1)) (rset g 87 240 (wr ((wr ((wr (c3 * 60)) + c4)) + y1)) (Sh_item c1 (wr (c2 + y1)) g)))
def Sh_move (a1 a2 a3 a4 a5 : Int) (g : Gx) : Option Gx :=
  Sh_move_l3 a1 a2 a3 a4 a5
    (fun g2 =>
      some g2)
    fu 0 g
def Op_copy (a1 a2 a3 a4 a5 : Int) (g : Gx) : Option (Int × Gx) :=
  if (Op_isSheet a1) = 0 then
    some ((-2), g)
  else
    if ¬ (Op_isSheet a3) = 0 then
      if ¬ (Sh_isLost a1 g) = 0 then
        lett (Op_found 1 g) (fun q1 =>
        some (q1.1, q1.2))
      else
        if (Sh_isLost a3 g) = 0 then
          if (Sh_form a1 g) = (Sh_form a3 g) then
            if (Sh_hasItems a1 a2 a5 g) = 0 then
              lett (Op_found 2 g) (fun q2 =>
              some (q2.1, q2.2))
            else
              if ¬ (Sh_hasItems a3 a4 a5 g) = 0 then
                Option.bind (Sh_move a1 a2 a3 a4 a5 g) (fun g3 =>
                some (1, g3))
              else
                lett (Op_found 2 g) (fun q4 =>
                some (q4.1, q4.2))
          else
            lett (Op_found 4 g) (fun q5 =>
            some (q5.1, q5.2))
        else
          lett (Op_found 1 g) (fun q6 =>
          some (q6.1, q6.2))
    else
      some ((-2), g)
def Md_copy_l120 (c1 : Int) (c2 : Int) (c3 : Int) (c4 : Int) (c5 : Int) (K120_154 : Gx → Option (Int × Gx)) : Nat → Int → Gx → Option (Int × Gx)
  | 0, _, _ => none
  | n120 + 1, v6, g =>
    if c5 ≤ v6 then
      K120_154 g
    else
      if 0 ≤ (wr ((wr ((wr (60 * c1)) + c2)) + v6)) ∧ (wr ((wr ((wr (60 * c1)) + c2)) + v6)) < 240 then
      if 0 ≤ v6 ∧ v6 < 60 then
      Md_copy_l120 c1 c2 c3 c4 c5 K120_154 n120 (wr (v6 + 1)) (gset g 96 v6.toNat (g 95 (wr ((wr ((wr (60 * c1)) + c2)) + v6)).toNat))
      else none
      else none
def Md_copy_l157 (c3 : Int) (c4 : Int) (c5 : Int) (K157_192 : Gx → Option (Int × Gx)) : Nat → Int → Gx → Option (Int × Gx)
  | 0, _, _ => none
  | n157 + 1, v6, g =>
    if c5 ≤ v6 then
      K157_192 g
    else
      if 0 ≤ v6 ∧ v6 < 60 then
      if 0 ≤ (wr ((wr ((wr (60 * c3)) + c4)) + v6)) ∧ (wr ((wr ((wr (60 * c3)) + c4)) + v6)) < 240 then
      Md_copy_l157 c3 c4 c5 K157_192 n157 (wr (v6 + 1)) (gset g 95 ((wr ((wr ((wr (60 * c3)) + c4)) + v6)).toNat) (g 96 v6.toNat))
      else none
      else none
def Md_copy (a1 a2 a3 a4 a5 : Int) (g : Gx) : Option (Int × Gx) :=
  if (Md_isSheet a1) = 0 then
    some ((-2), g)
  else
    if ¬ (Md_isSheet a3) = 0 then
      if 0 ≤ a1 ∧ a1 < 4 then
      if (g 93 a1.toNat) < 0 then
        lett (Md_met 1 g) (fun q1 =>
        some (q1.1, q1.2))
      else
        if 0 ≤ a3 ∧ a3 < 4 then
        if 0 ≤ (g 93 a3.toNat) then
          if 0 ≤ a1 ∧ a1 < 4 then
          if 0 ≤ a3 ∧ a3 < 4 then
          if (g 93 a1.toNat) = (g 93 a3.toNat) then
            if a2 < 0 then
              lett (Md_met 2 g) (fun q2 =>
              some (q2.1, q2.2))
            else
              if a4 < 0 then
                lett (Md_met 2 g) (fun q3 =>
                some (q3.1, q3.2))
              else
                if a5 < 0 then
                  lett (Md_met 2 g) (fun q4 =>
                  some (q4.1, q4.2))
                else
                  if 0 ≤ a1 ∧ a1 < 4 then
                  if 0 < (mcmp (wl (a2 + a5)) (g 94 a1.toNat)) then
                    lett (Md_met 2 g) (fun q5 =>
                    some (q5.1, q5.2))
                  else
                    if 0 ≤ a3 ∧ a3 < 4 then
                    if (mcmp (wl (a4 + a5)) (g 94 a3.toNat)) ≤ 0 then
                      Md_copy_l120 a1 a2 a3 a4 a5
                        (fun g6 =>
                          Md_copy_l157 a3 a4 a5
                            (fun g7 =>
                              some (1, g7))
                            fu 0 g6)
                        fu 0 g
                    else
                      lett (Md_met 2 g) (fun q8 =>
                      some (q8.1, q8.2))
                    else none
                  else none
          else
            lett (Md_met 4 g) (fun q9 =>
            some (q9.1, q9.2))
          else none
          else none
        else
          lett (Md_met 1 g) (fun q10 =>
          some (q10.1, q10.2))
        else none
      else none
    else
      some ((-2), g)
def Op_write_l70 (c1 : Int) (c2 : Int) (c4 : Int) (K70_103 : Gx → Option (Int × Gx)) : Nat → Int → Gx → Option (Int × Gx)
  | 0, _, _ => none
  | n70 + 1, v5, g =>
    if c4 ≤ v5 then
      K70_103 g
    else
      lett (Sh_change c1 v5 (Hi_word c2 v5 g) g) (fun g2 =>
      Op_write_l70 c1 c2 c4 K70_103 n70 (wr (v5 + 1)) g2)
def Op_write (a1 a2 : Int) (g : Gx) : Option (Int × Gx) :=
  if (Op_isSheet a1) = 0 then
    some ((-2), g)
  else
    if ¬ (Op_isHistory a2) = 0 then
      if (Sh_isLost a1 g) = 0 then
        Option.bind (Op_hindrance a2 g) (fun q1 =>
        if q1.1 = 0 then
          Op_write_l70 a1 a2 (imin (Sh_size a1 q1.2) (Hi_length a2 q1.2))
            (fun g3 =>
              some ((imin (Sh_size a1 q1.2) (Hi_length a2 q1.2)), g3))
            fu 0 q1.2
        else
          some (q1.1, q1.2))
      else
        lett (Op_found 1 g) (fun q4 =>
        some (q4.1, q4.2))
    else
      some ((-2), g)
def Md_write_l79 (c1 : Int) (c2 : Int) (c4 : Int) (K79_120 : Gx → Option (Int × Gx)) : Nat → Int → Gx → Option (Int × Gx)
  | 0, _, _ => none
  | n79 + 1, v5, g =>
    if c4 ≤ v5 then
      K79_120 g
    else
      if 0 ≤ c1 ∧ c1 < 4 then
      Option.bind (Md_code c2 v5 g) (fun q2 =>
      if 0 ≤ (wr ((wr (60 * c1)) + v5)) ∧ (wr ((wr (60 * c1)) + v5)) < 240 then
      Md_write_l79 c1 c2 c4 K79_120 n79 (wr (v5 + 1)) (gset q2.2 95 ((wr ((wr (60 * c1)) + v5)).toNat) (Md_cut (g 93 c1.toNat) q2.1))
      else none)
      else none
def Md_write (a1 a2 : Int) (g : Gx) : Option (Int × Gx) :=
  if (Md_isSheet a1) = 0 then
    some ((-2), g)
  else
    if ¬ (Md_isHistory a2) = 0 then
      if 0 ≤ a1 ∧ a1 < 4 then
      if 0 ≤ (g 93 a1.toNat) then
        Option.bind (Md_lacksOne a2 g) (fun q1 =>
        if q1.1 = 0 then
          if 0 ≤ a2 ∧ a2 < 30 then
          if 0 ≤ a1 ∧ a1 < 4 then
          if (q1.2 94 a1.toNat) ≤ (q1.2 110 a2.toNat) then
            if 0 ≤ a1 ∧ a1 < 4 then
            Md_write_l79 a1 a2 (q1.2 94 a1.toNat)
              (fun g3 =>
                some ((q1.2 94 a1.toNat), g3))
              fu 0 q1.2
            else none
          else
            if 0 ≤ a2 ∧ a2 < 30 then
            Md_write_l79 a1 a2 (q1.2 110 a2.toNat)
              (fun g4 =>
                some ((q1.2 110 a2.toNat), g4))
              fu 0 q1.2
            else none
          else none
          else none
        else
          some (q1.1, q1.2))
      else
        lett (Md_met 1 g) (fun q5 =>
        some (q5.1, q5.2))
      else none
    else
      some ((-2), g)
def Op_count (a1 : Int) (g : Gx) : Option (Int × Gx) :=
  if a1 = 4 then
    Option.bind (Op_hindrance 0 g) (fun q1 =>
    if q1.1 = 0 then
      if ¬ a1 = 4 then
        Option.bind (Kn_soundness q1.2) (fun q2 =>
        some (q2.1, q2.2))
      else
        some ((Hi_size q1.2), q1.2)
    else
      some (q1.1, q1.2))
  else
    if ¬ a1 = 5 then
      if a1 < 0 ∨ 8 < a1 then
        some ((-2), g)
      else if a1 = 0 then
        some ((Tx_length1 g), g)
      else if a1 = 1 then
        some ((Tx_length4 g), g)
      else if a1 = 2 then
        some ((g 0 11), g)
      else if a1 = 3 then
        some ((Bd_size g), g)
      else if a1 = 4 then
        some ((-2), g)
      else if a1 = 5 then
        some ((-2), g)
      else if a1 = 6 then
        some ((-2), g)
      else if a1 = 7 then
        some ((-2), g)
      else
        some ((g 0 12), g)
    else
      Option.bind (Op_hindrance 0 g) (fun q3 =>
      if q3.1 = 0 then
        if ¬ a1 = 4 then
          Option.bind (Kn_soundness q3.2) (fun q4 =>
          some (q4.1, q4.2))
        else
          some ((Hi_size q3.2), q3.2)
      else
        some (q3.1, q3.2))
def Md_count (a1 : Int) (g : Gx) : Option (Int × Gx) :=
  if a1 < 0 ∨ 8 < a1 then
    some ((-2), g)
  else if a1 = 0 then
    if 0 ≤ a1 ∧ a1 < 2 then
    some ((g 98 a1.toNat), g)
    else none
  else if a1 = 1 then
    if 0 ≤ a1 ∧ a1 < 2 then
    some ((g 98 a1.toNat), g)
    else none
  else if a1 = 2 then
    some ((g 92 7), g)
  else if a1 = 3 then
    some ((g 92 48), g)
  else if a1 = 4 then
    Option.bind (Md_histories g) (fun q1 =>
    some (q1.1, q1.2))
  else if a1 = 5 then
    Option.bind (Md_sound g) (fun q2 =>
    some (q2.1, q2.2))
  else if a1 = 6 then
    some ((-2), g)
  else if a1 = 7 then
    some ((-2), g)
  else
    some ((g 92 4), g)
def Op_withHistory_l20 (c3 : Int) (K20_59 : Int → Gx → Option (Int × Gx)) : Nat → Int → Int → Gx → Option (Int × Gx)
  | 0, _, _, _ => none
  | n20 + 1, v4, v6, g =>
    if (Hi_length c3 g) ≤ v6 then
      K20_59 v4 g
    else
      Op_withHistory_l20 c3 K20_59 n20 (wl ((wl (31 * v4)) + (Hi_word c3 v6 g))) (wr (v6 + 1)) g
def Op_withHistory (a1 a3 : Int) (g : Gx) : Option (Int × Gx) :=
  Op_withHistory_l20 a3
    (fun x1 g2 =>
      Option.bind (Rn_chain a3 g2) (fun q3 =>
      some ((wl ((wl (31 * x1)) + q3.1)), q3.2)))
    fu (wl ((wl (31 * a1)) + (Hi_length a3 g))) 0 g
def Op_digest_l196 (c1 : Int) (c2 : Int) (K196_233 : Int → Gx → Option (Int × Gx)) : Nat → Int → Int → Gx → Option (Int × Gx)
  | 0, _, _, _ => none
  | n196 + 1, v3, v5, g =>
    if 4 ≤ v5 then
      K196_233 v3 g
    else
      if c2 = 0 then
        Op_digest_l196 c1 c2 K196_233 n196 (wl ((wl (31 * v3)) + c1)) (wr (v5 + 1)) g
      else
        Option.bind (Kn_momentPart v5 g) (fun q6 =>
        Op_digest_l196 c1 c2 K196_233 n196 (wl ((wl (31 * v3)) + q6.1)) (wr (v5 + 1)) q6.2)
def Op_digest_l160 (c1 : Int) (c2 : Int) (K160_186 : Int → Gx → Option (Int × Gx)) : Nat → Int → Int → Gx → Option (Int × Gx)
  | 0, _, _, _ => none
  | n160 + 1, v3, v5, g =>
    if (Hi_size g) ≤ v5 then
      K160_186 v3 g
    else
      Option.bind (Op_withHistory v3 v5 g) (fun q10 =>
      Op_digest_l160 c1 c2 K160_186 n160 q10.1 (wr (v5 + 1)) q10.2)
def Op_digest (g : Gx) : Option (Int × Gx) :=
  Option.bind (Op_hindrance 0 g) (fun q1 =>
  lett ((if ¬ q1.1 = 0 then 0 else 1) : Int) (fun y2 =>
  lett ((if y2 = 0 then q1.1 else (Hi_size q1.2)) : Int) (fun y3 =>
  if y2 = 0 then
    Option.bind (Pr_firstFault q1.2) (fun q4 =>
    Option.bind (Pg_firstFault q4.2) (fun q5 =>
    if y2 = 0 then
      Op_digest_l196 q1.1 y2
        (fun x7 g8 =>
          if y2 = 0 then
            some ((wl ((wl (31 * x7)) + q1.1)), g8)
          else
            Option.bind (Bd_firstOut g8) (fun q9 =>
            some ((wl ((wl (31 * x7)) + q9.1)), q9.2)))
        fu (wl ((wl (31 * (wl ((wl (31 * (wl ((wl (31 * (wl ((wl (31 * (wl ((wl (31 * (wl ((wl (31 * (wl ((wl (31 * (wl ((wl (31 * 17)) + (Tx_length1 q1.2))))) + (Tx_length4 q1.2))))) + (q1.2 0 11))))) + (Bd_size q1.2))))) + y3)))) + q1.1)))) + q4.1)))) + q5.1)) 0 q5.2
    else
      Op_digest_l160 q1.1 y2
        (fun x11 g12 =>
          Option.bind (Bd_compare g12) (fun g13 =>
          Op_digest_l196 q1.1 y2
            (fun x14 g15 =>
              if y2 = 0 then
                some ((wl ((wl (31 * x14)) + q1.1)), g15)
              else
                Option.bind (Bd_firstOut g15) (fun q16 =>
                some ((wl ((wl (31 * x14)) + q16.1)), q16.2)))
            fu x11 0 g13))
        fu (wl ((wl (31 * (wl ((wl (31 * (wl ((wl (31 * (wl ((wl (31 * (wl ((wl (31 * (wl ((wl (31 * (wl ((wl (31 * (wl ((wl (31 * 17)) + (Tx_length1 q1.2))))) + (Tx_length4 q1.2))))) + (q1.2 0 11))))) + (Bd_size q1.2))))) + y3)))) + q1.1)))) + q4.1)))) + q5.1)) 0 q5.2))
  else
    Option.bind (Kn_soundness q1.2) (fun q17 =>
    Option.bind (Pr_firstFault q17.2) (fun q18 =>
    Option.bind (Pg_firstFault q18.2) (fun q19 =>
    if y2 = 0 then
      Op_digest_l196 q1.1 y2
        (fun x20 g21 =>
          if y2 = 0 then
            some ((wl ((wl (31 * x20)) + q1.1)), g21)
          else
            Option.bind (Bd_firstOut g21) (fun q22 =>
            some ((wl ((wl (31 * x20)) + q22.1)), q22.2)))
        fu (wl ((wl (31 * (wl ((wl (31 * (wl ((wl (31 * (wl ((wl (31 * (wl ((wl (31 * (wl ((wl (31 * (wl ((wl (31 * (wl ((wl (31 * 17)) + (Tx_length1 q1.2))))) + (Tx_length4 q1.2))))) + (q1.2 0 11))))) + (Bd_size q1.2))))) + y3)))) + q17.1)))) + q18.1)))) + q19.1)) 0 q19.2
    else
      Op_digest_l160 q1.1 y2
        (fun x23 g24 =>
          Option.bind (Bd_compare g24) (fun g25 =>
          Op_digest_l196 q1.1 y2
            (fun x26 g27 =>
              if y2 = 0 then
                some ((wl ((wl (31 * x26)) + q1.1)), g27)
              else
                Option.bind (Bd_firstOut g27) (fun q28 =>
                some ((wl ((wl (31 * x26)) + q28.1)), q28.2)))
            fu x23 0 g25))
        fu (wl ((wl (31 * (wl ((wl (31 * (wl ((wl (31 * (wl ((wl (31 * (wl ((wl (31 * (wl ((wl (31 * (wl ((wl (31 * (wl ((wl (31 * 17)) + (Tx_length1 q1.2))))) + (Tx_length4 q1.2))))) + (q1.2 0 11))))) + (Bd_size q1.2))))) + y3)))) + q17.1)))) + q18.1)))) + q19.1)) 0 q19.2))))))
def Md_digest_l6 (K6_31 : Int → Gx → Option (Int × Gx)) : Nat → Int → Int → Gx → Option (Int × Gx)
  | 0, _, _, _ => none
  | n6 + 1, v1, v3, g =>
    if 6 ≤ v3 then
      K6_31 v1 g
    else
      Option.bind (Md_count v3 g) (fun q1 =>
      Md_digest_l6 K6_31 n6 (wl ((wl (31 * v1)) + q1.1)) (wr (v3 + 1)) q1.2)
def Md_digest_l94 (c3 : Int) (c4 : Int) (K94_128 : Int → Gx → Option (Int × Gx)) : Nat → Int → Int → Gx → Option (Int × Gx)
  | 0, _, _, _ => none
  | n94 + 1, v1, v5, g =>
    if 0 ≤ c4 ∧ c4 < 30 then
    if (g 110 c4.toNat) ≤ v5 then
      K94_128 v1 g
    else
      Option.bind (Md_code c4 v5 g) (fun q7 =>
      Md_digest_l94 c3 c4 K94_128 n94 (wl ((wl (31 * v1)) + q7.1)) (wr (v5 + 1)) q7.2)
    else none
def Md_digest_l63 (c3 : Int) (K63_148 : Int → Gx → Option (Int × Gx)) : Nat → Int → Int → Gx → Option (Int × Gx)
  | 0, _, _, _ => none
  | n63 + 1, v1, v4, g =>
    if (g 92 26) ≤ v4 then
      K63_148 v1 g
    else
      if ¬ c3 = 0 then
        K63_148 v1 g
      else
        if 0 ≤ v4 ∧ v4 < 30 then
        Md_digest_l94 c3 v4
          (fun x8 g9 =>
            Option.bind (Md_chainOf v4 g9) (fun q10 =>
            Md_digest_l63 c3 K63_148 n63 (wl ((wl (31 * x8)) + q10.1)) (wr (v4 + 1)) q10.2))
          fu (wl ((wl (31 * v1)) + (g 110 v4.toNat))) 0 g
        else none
def Md_digest_l151 (K151_177 : Int → Gx → Option (Int × Gx)) : Nat → Int → Int → Gx → Option (Int × Gx)
  | 0, _, _, _ => none
  | n151 + 1, v1, v4, g =>
    if 4 ≤ v4 then
      K151_177 v1 g
    else
      Option.bind (Md_momentOf v4 g) (fun q13 =>
      Md_digest_l151 K151_177 n151 (wl ((wl (31 * v1)) + q13.1)) (wr (v4 + 1)) q13.2)
def Md_digest (g : Gx) : Option (Int × Gx) :=
  Md_digest_l6
    (fun x2 g3 =>
      Option.bind (Md_reads g3) (fun q4 =>
      Option.bind (Md_readsProgram q4.2) (fun q5 =>
      Option.bind (Md_without q5.2) (fun q6 =>
      Md_digest_l63 q6.1
        (fun x11 g12 =>
          Md_digest_l151
            (fun x14 g15 =>
              Option.bind (Md_out 0 g15) (fun q16 =>
              some ((wl ((wl (31 * x14)) + q16.1)), q16.2)))
            fu x11 0 g12)
        fu (wl ((wl (31 * (wl ((wl (31 * x2)) + q4.1)))) + q5.1)) 0 q6.2))))
    fu 17 0 g
def Law_law_l18 (K18_1156 : Gx → Option (Int × Gx)) : Nat → Int → Gx → Option (Int × Gx)
  | 0, _, _ => none
  | n18 + 1, v3, g =>
    if (wr ((g 1001 0) - 6)) < v3 then
      K18_1156 g
    else
      if (1000 : Nat) = 1000 ∧ 0 ≤ v3 ∧ v3 < (g 1001 0) then
      if (jand (g 1000 v3.toNat) 63) < 0 ∨ 32 < (jand (g 1000 v3.toNat) 63) then
        Law_law_l18 K18_1156 n18 (wr (v3 + 6)) g
      else if (jand (g 1000 v3.toNat) 63) = 0 then
        if (1000 : Nat) = 1000 ∧ 0 ≤ (wr (v3 + 1)) ∧ (wr (v3 + 1)) < (g 1001 0) then
        if (1000 : Nat) = 1000 ∧ 0 ≤ (wr (v3 + 2)) ∧ (wr (v3 + 2)) < (g 1001 0) then
        lett (Op_type (g 1000 (wr (v3 + 1)).toNat) (g 1000 (wr (v3 + 2)).toNat) g) (fun q1 =>
        if (1000 : Nat) = 1000 ∧ 0 ≤ (wr (v3 + 1)) ∧ (wr (v3 + 1)) < (q1.2 1001 0) then
        if (1000 : Nat) = 1000 ∧ 0 ≤ (wr (v3 + 2)) ∧ (wr (v3 + 2)) < (q1.2 1001 0) then
        Option.bind (Md_type (q1.2 1000 (wr (v3 + 1)).toNat) (q1.2 1000 (wr (v3 + 2)).toNat) q1.2) (fun q2 =>
        if q1.1 = q2.1 then
          Law_law_l18 K18_1156 n18 (wr (v3 + 6)) q2.2
        else
          some (0, q2.2))
        else none
        else none)
        else none
        else none
      else if (jand (g 1000 v3.toNat) 63) = 1 then
        if (1000 : Nat) = 1000 ∧ 0 ≤ (wr (v3 + 1)) ∧ (wr (v3 + 1)) < (g 1001 0) then
        lett (Op_wipe (g 1000 (wr (v3 + 1)).toNat) g) (fun q3 =>
        if (1000 : Nat) = 1000 ∧ 0 ≤ (wr (v3 + 1)) ∧ (wr (v3 + 1)) < (q3.2 1001 0) then
        Option.bind (Md_wipe (q3.2 1000 (wr (v3 + 1)).toNat) q3.2) (fun q4 =>
        if q3.1 = q4.1 then
          Law_law_l18 K18_1156 n18 (wr (v3 + 6)) q4.2
        else
          some (0, q4.2))
        else none)
        else none
      else if (jand (g 1000 v3.toNat) 63) = 2 then
        if (1000 : Nat) = 1000 ∧ 0 ≤ (wr (v3 + 1)) ∧ (wr (v3 + 1)) < (g 1001 0) then
        Option.bind (Op_fault (g 1000 (wr (v3 + 1)).toNat) g) (fun q5 =>
        if (1000 : Nat) = 1000 ∧ 0 ≤ (wr (v3 + 1)) ∧ (wr (v3 + 1)) < (q5.2 1001 0) then
        Option.bind (Md_fault (q5.2 1000 (wr (v3 + 1)).toNat) q5.2) (fun q6 =>
        if q5.1 = q6.1 then
          Law_law_l18 K18_1156 n18 (wr (v3 + 6)) q6.2
        else
          some (0, q6.2))
        else none)
        else none
      else if (jand (g 1000 v3.toNat) 63) = 3 then
        if (1000 : Nat) = 1000 ∧ 0 ≤ (wr (v3 + 1)) ∧ (wr (v3 + 1)) < (g 1001 0) then
        Option.bind (Op_plan (g 1000 (wr (v3 + 1)).toNat) g) (fun q7 =>
        if (1000 : Nat) = 1000 ∧ 0 ≤ (wr (v3 + 1)) ∧ (wr (v3 + 1)) < (q7.2 1001 0) then
        Option.bind (Md_plan (q7.2 1000 (wr (v3 + 1)).toNat) q7.2) (fun q8 =>
        if q7.1 = q8.1 then
          Law_law_l18 K18_1156 n18 (wr (v3 + 6)) q8.2
        else
          some (0, q8.2))
        else none)
        else none
      else if (jand (g 1000 v3.toNat) 63) = 4 then
        if (1000 : Nat) = 1000 ∧ 0 ≤ (wr (v3 + 1)) ∧ (wr (v3 + 1)) < (g 1001 0) then
        lett (Op_tell (g 1000 (wr (v3 + 1)).toNat) g) (fun q9 =>
        if (1000 : Nat) = 1000 ∧ 0 ≤ (wr (v3 + 1)) ∧ (wr (v3 + 1)) < (q9.2 1001 0) then
        lett (Md_tell (q9.2 1000 (wr (v3 + 1)).toNat) q9.2) (fun q10 =>
        if q9.1 = q10.1 then
          Law_law_l18 K18_1156 n18 (wr (v3 + 6)) q10.2
        else
          some (0, q10.2))
        else none)
        else none
      else if (jand (g 1000 v3.toNat) 63) = 5 then
        Option.bind (Op_histories g) (fun q11 =>
        Option.bind (Md_histories q11.2) (fun q12 =>
        if q11.1 = q12.1 then
          Law_law_l18 K18_1156 n18 (wr (v3 + 6)) q12.2
        else
          some (0, q12.2)))
      else if (jand (g 1000 v3.toNat) 63) = 6 then
        if (1000 : Nat) = 1000 ∧ 0 ≤ (wr (v3 + 1)) ∧ (wr (v3 + 1)) < (g 1001 0) then
        if (1000 : Nat) = 1000 ∧ 0 ≤ (wr (v3 + 2)) ∧ (wr (v3 + 2)) < (g 1001 0) then
        Option.bind (Op_said (g 1000 (wr (v3 + 1)).toNat) (g 1000 (wr (v3 + 2)).toNat) g) (fun q13 =>
        if (1000 : Nat) = 1000 ∧ 0 ≤ (wr (v3 + 1)) ∧ (wr (v3 + 1)) < (q13.2 1001 0) then
        if (1000 : Nat) = 1000 ∧ 0 ≤ (wr (v3 + 2)) ∧ (wr (v3 + 2)) < (q13.2 1001 0) then
        Option.bind (Md_said (q13.2 1000 (wr (v3 + 1)).toNat) (q13.2 1000 (wr (v3 + 2)).toNat) q13.2) (fun q14 =>
        if q13.1 = q14.1 then
          Law_law_l18 K18_1156 n18 (wr (v3 + 6)) q14.2
        else
          some (0, q14.2))
        else none
        else none)
        else none
        else none
      else if (jand (g 1000 v3.toNat) 63) = 7 then
        if (1000 : Nat) = 1000 ∧ 0 ≤ (wr (v3 + 1)) ∧ (wr (v3 + 1)) < (g 1001 0) then
        if (1000 : Nat) = 1000 ∧ 0 ≤ (wr (v3 + 2)) ∧ (wr (v3 + 2)) < (g 1001 0) then
        if (1000 : Nat) = 1000 ∧ 0 ≤ (wr (v3 + 3)) ∧ (wr (v3 + 3)) < (g 1001 0) then
        Option.bind (Op_look (g 1000 (wr (v3 + 1)).toNat) (g 1000 (wr (v3 + 2)).toNat) (g 1000 (wr (v3 + 3)).toNat) g) (fun q15 =>
        if (1000 : Nat) = 1000 ∧ 0 ≤ (wr (v3 + 1)) ∧ (wr (v3 + 1)) < (q15.2 1001 0) then
        if (1000 : Nat) = 1000 ∧ 0 ≤ (wr (v3 + 2)) ∧ (wr (v3 + 2)) < (q15.2 1001 0) then
        if (1000 : Nat) = 1000 ∧ 0 ≤ (wr (v3 + 3)) ∧ (wr (v3 + 3)) < (q15.2 1001 0) then
        Option.bind (Md_look (q15.2 1000 (wr (v3 + 1)).toNat) (q15.2 1000 (wr (v3 + 2)).toNat) (q15.2 1000 (wr (v3 + 3)).toNat) q15.2) (fun q16 =>
        if q15.1 = q16.1 then
          Law_law_l18 K18_1156 n18 (wr (v3 + 6)) q16.2
        else
          some (0, q16.2))
        else none
        else none
        else none)
        else none
        else none
        else none
      else if (jand (g 1000 v3.toNat) 63) = 8 then
        if (1000 : Nat) = 1000 ∧ 0 ≤ (wr (v3 + 1)) ∧ (wr (v3 + 1)) < (g 1001 0) then
        Option.bind (Op_looks (g 1000 (wr (v3 + 1)).toNat) g) (fun q17 =>
        if (1000 : Nat) = 1000 ∧ 0 ≤ (wr (v3 + 1)) ∧ (wr (v3 + 1)) < (q17.2 1001 0) then
        Option.bind (Md_looks (q17.2 1000 (wr (v3 + 1)).toNat) q17.2) (fun q18 =>
        if q17.1 = q18.1 then
          Law_law_l18 K18_1156 n18 (wr (v3 + 6)) q18.2
        else
          some (0, q18.2))
        else none)
        else none
      else if (jand (g 1000 v3.toNat) 63) = 9 then
        if (1000 : Nat) = 1000 ∧ 0 ≤ (wr (v3 + 1)) ∧ (wr (v3 + 1)) < (g 1001 0) then
        if (1000 : Nat) = 1000 ∧ 0 ≤ (wr (v3 + 2)) ∧ (wr (v3 + 2)) < (g 1001 0) then
        Option.bind (Op_parts (g 1000 (wr (v3 + 1)).toNat) (g 1000 (wr (v3 + 2)).toNat) g) (fun q19 =>
        if (1000 : Nat) = 1000 ∧ 0 ≤ (wr (v3 + 1)) ∧ (wr (v3 + 1)) < (q19.2 1001 0) then
        if (1000 : Nat) = 1000 ∧ 0 ≤ (wr (v3 + 2)) ∧ (wr (v3 + 2)) < (q19.2 1001 0) then
        Option.bind (Md_parts (q19.2 1000 (wr (v3 + 1)).toNat) (q19.2 1000 (wr (v3 + 2)).toNat) q19.2) (fun q20 =>
        if q19.1 = q20.1 then
          Law_law_l18 K18_1156 n18 (wr (v3 + 6)) q20.2
        else
          some (0, q20.2))
        else none
        else none)
        else none
        else none
      else if (jand (g 1000 v3.toNat) 63) = 10 then
        Option.bind (Op_sound g) (fun q21 =>
        Option.bind (Md_sound q21.2) (fun q22 =>
        if q21.1 = q22.1 then
          Law_law_l18 K18_1156 n18 (wr (v3 + 6)) q22.2
        else
          some (0, q22.2)))
      else if (jand (g 1000 v3.toNat) 63) = 11 then
        if (1000 : Nat) = 1000 ∧ 0 ≤ (wr (v3 + 1)) ∧ (wr (v3 + 1)) < (g 1001 0) then
        Option.bind (Op_moment (g 1000 (wr (v3 + 1)).toNat) g) (fun q23 =>
        if (1000 : Nat) = 1000 ∧ 0 ≤ (wr (v3 + 1)) ∧ (wr (v3 + 1)) < (q23.2 1001 0) then
        Option.bind (Md_moment (q23.2 1000 (wr (v3 + 1)).toNat) q23.2) (fun q24 =>
        if q23.1 = q24.1 then
          Law_law_l18 K18_1156 n18 (wr (v3 + 6)) q24.2
        else
          some (0, q24.2))
        else none)
        else none
      else if (jand (g 1000 v3.toNat) 63) = 12 then
        Option.bind (Op_mended g) (fun q25 =>
        Option.bind (Md_mended q25.2) (fun q26 =>
        if q25.1 = q26.1 then
          Law_law_l18 K18_1156 n18 (wr (v3 + 6)) q26.2
        else
          some (0, q26.2)))
      else if (jand (g 1000 v3.toNat) 63) = 13 then
        if (1000 : Nat) = 1000 ∧ 0 ≤ (wr (v3 + 1)) ∧ (wr (v3 + 1)) < (g 1001 0) then
        if (1000 : Nat) = 1000 ∧ 0 ≤ (wr (v3 + 2)) ∧ (wr (v3 + 2)) < (g 1001 0) then
        if (1000 : Nat) = 1000 ∧ 0 ≤ (wr (v3 + 3)) ∧ (wr (v3 + 3)) < (g 1001 0) then
        Option.bind (Op_run (g 1000 (wr (v3 + 1)).toNat) (g 1000 (wr (v3 + 2)).toNat) (g 1000 (wr (v3 + 3)).toNat) g) (fun q27 =>
        if (1000 : Nat) = 1000 ∧ 0 ≤ (wr (v3 + 1)) ∧ (wr (v3 + 1)) < (q27.2 1001 0) then
        if (1000 : Nat) = 1000 ∧ 0 ≤ (wr (v3 + 2)) ∧ (wr (v3 + 2)) < (q27.2 1001 0) then
        if (1000 : Nat) = 1000 ∧ 0 ≤ (wr (v3 + 3)) ∧ (wr (v3 + 3)) < (q27.2 1001 0) then
        Option.bind (Md_run (q27.2 1000 (wr (v3 + 1)).toNat) (q27.2 1000 (wr (v3 + 2)).toNat) (q27.2 1000 (wr (v3 + 3)).toNat) q27.2) (fun q28 =>
        if q27.1 = q28.1 then
          Law_law_l18 K18_1156 n18 (wr (v3 + 6)) q28.2
        else
          some (0, q28.2))
        else none
        else none
        else none)
        else none
        else none
        else none
      else if (jand (g 1000 v3.toNat) 63) = 14 then
        if (1000 : Nat) = 1000 ∧ 0 ≤ (wr (v3 + 1)) ∧ (wr (v3 + 1)) < (g 1001 0) then
        if (1000 : Nat) = 1000 ∧ 0 ≤ (wr (v3 + 2)) ∧ (wr (v3 + 2)) < (g 1001 0) then
        if (1000 : Nat) = 1000 ∧ 0 ≤ (wr (v3 + 3)) ∧ (wr (v3 + 3)) < (g 1001 0) then
        Option.bind (Op_step (g 1000 (wr (v3 + 1)).toNat) (g 1000 (wr (v3 + 2)).toNat) (g 1000 (wr (v3 + 3)).toNat) g) (fun q29 =>
        if (1000 : Nat) = 1000 ∧ 0 ≤ (wr (v3 + 1)) ∧ (wr (v3 + 1)) < (q29.2 1001 0) then
        if (1000 : Nat) = 1000 ∧ 0 ≤ (wr (v3 + 2)) ∧ (wr (v3 + 2)) < (q29.2 1001 0) then
        if (1000 : Nat) = 1000 ∧ 0 ≤ (wr (v3 + 3)) ∧ (wr (v3 + 3)) < (q29.2 1001 0) then
        Option.bind (Md_step (q29.2 1000 (wr (v3 + 1)).toNat) (q29.2 1000 (wr (v3 + 2)).toNat) (q29.2 1000 (wr (v3 + 3)).toNat) q29.2) (fun q30 =>
        if q29.1 = q30.1 then
          Law_law_l18 K18_1156 n18 (wr (v3 + 6)) q30.2
        else
          some (0, q30.2))
        else none
        else none
        else none)
        else none
        else none
        else none
      else if (jand (g 1000 v3.toNat) 63) = 15 then
        if (1000 : Nat) = 1000 ∧ 0 ≤ (wr (v3 + 1)) ∧ (wr (v3 + 1)) < (g 1001 0) then
        if (1000 : Nat) = 1000 ∧ 0 ≤ (wr (v3 + 2)) ∧ (wr (v3 + 2)) < (g 1001 0) then
        if (1000 : Nat) = 1000 ∧ 0 ≤ (wr (v3 + 3)) ∧ (wr (v3 + 3)) < (g 1001 0) then
        Option.bind (Op_longest (g 1000 (wr (v3 + 1)).toNat) (g 1000 (wr (v3 + 2)).toNat) (g 1000 (wr (v3 + 3)).toNat) g) (fun q31 =>
        if (1000 : Nat) = 1000 ∧ 0 ≤ (wr (v3 + 1)) ∧ (wr (v3 + 1)) < (q31.2 1001 0) then
        if (1000 : Nat) = 1000 ∧ 0 ≤ (wr (v3 + 2)) ∧ (wr (v3 + 2)) < (q31.2 1001 0) then
        if (1000 : Nat) = 1000 ∧ 0 ≤ (wr (v3 + 3)) ∧ (wr (v3 + 3)) < (q31.2 1001 0) then
        Option.bind (Md_longest (q31.2 1000 (wr (v3 + 1)).toNat) (q31.2 1000 (wr (v3 + 2)).toNat) (q31.2 1000 (wr (v3 + 3)).toNat) q31.2) (fun q32 =>
        if q31.1 = q32.1 then
          Law_law_l18 K18_1156 n18 (wr (v3 + 6)) q32.2
        else
          some (0, q32.2))
        else none
        else none
        else none)
        else none
        else none
        else none
      else if (jand (g 1000 v3.toNat) 63) = 16 then
        if (1000 : Nat) = 1000 ∧ 0 ≤ (wr (v3 + 1)) ∧ (wr (v3 + 1)) < (g 1001 0) then
        if (1000 : Nat) = 1000 ∧ 0 ≤ (wr (v3 + 2)) ∧ (wr (v3 + 2)) < (g 1001 0) then
        Option.bind (Op_trips (g 1000 (wr (v3 + 1)).toNat) (g 1000 (wr (v3 + 2)).toNat) g) (fun q33 =>
        if (1000 : Nat) = 1000 ∧ 0 ≤ (wr (v3 + 1)) ∧ (wr (v3 + 1)) < (q33.2 1001 0) then
        if (1000 : Nat) = 1000 ∧ 0 ≤ (wr (v3 + 2)) ∧ (wr (v3 + 2)) < (q33.2 1001 0) then
        Option.bind (Md_trips (q33.2 1000 (wr (v3 + 1)).toNat) (q33.2 1000 (wr (v3 + 2)).toNat) q33.2) (fun q34 =>
        if q33.1 = q34.1 then
          Law_law_l18 K18_1156 n18 (wr (v3 + 6)) q34.2
        else
          some (0, q34.2))
        else none
        else none)
        else none
        else none
      else if (jand (g 1000 v3.toNat) 63) = 17 then
        if (1000 : Nat) = 1000 ∧ 0 ≤ (wr (v3 + 1)) ∧ (wr (v3 + 1)) < (g 1001 0) then
        if (1000 : Nat) = 1000 ∧ 0 ≤ (wr (v3 + 2)) ∧ (wr (v3 + 2)) < (g 1001 0) then
        if (1000 : Nat) = 1000 ∧ 0 ≤ (wr (v3 + 3)) ∧ (wr (v3 + 3)) < (g 1001 0) then
        if (1000 : Nat) = 1000 ∧ 0 ≤ (wr (v3 + 4)) ∧ (wr (v3 + 4)) < (g 1001 0) then
        Option.bind (Op_lost (g 1000 (wr (v3 + 1)).toNat) (g 1000 (wr (v3 + 2)).toNat) (g 1000 (wr (v3 + 3)).toNat) (g 1000 (wr (v3 + 4)).toNat) g) (fun q35 =>
        if (1000 : Nat) = 1000 ∧ 0 ≤ (wr (v3 + 1)) ∧ (wr (v3 + 1)) < (q35.2 1001 0) then
        if (1000 : Nat) = 1000 ∧ 0 ≤ (wr (v3 + 2)) ∧ (wr (v3 + 2)) < (q35.2 1001 0) then
        if (1000 : Nat) = 1000 ∧ 0 ≤ (wr (v3 + 3)) ∧ (wr (v3 + 3)) < (q35.2 1001 0) then
        if (1000 : Nat) = 1000 ∧ 0 ≤ (wr (v3 + 4)) ∧ (wr (v3 + 4)) < (q35.2 1001 0) then
        Option.bind (Md_lost (q35.2 1000 (wr (v3 + 1)).toNat) (q35.2 1000 (wr (v3 + 2)).toNat) (q35.2 1000 (wr (v3 + 3)).toNat) (q35.2 1000 (wr (v3 + 4)).toNat) q35.2) (fun q36 =>
        if q35.1 = q36.1 then
          Law_law_l18 K18_1156 n18 (wr (v3 + 6)) q36.2
        else
          some (0, q36.2))
        else none
        else none
        else none
        else none)
        else none
        else none
        else none
        else none
      else if (jand (g 1000 v3.toNat) 63) = 18 then
        if (1000 : Nat) = 1000 ∧ 0 ≤ (wr (v3 + 1)) ∧ (wr (v3 + 1)) < (g 1001 0) then
        Option.bind (Op_fits (g 1000 (wr (v3 + 1)).toNat) g) (fun q37 =>
        if (1000 : Nat) = 1000 ∧ 0 ≤ (wr (v3 + 1)) ∧ (wr (v3 + 1)) < (q37.2 1001 0) then
        Option.bind (Md_fits (q37.2 1000 (wr (v3 + 1)).toNat) q37.2) (fun q38 =>
        if q37.1 = q38.1 then
          Law_law_l18 K18_1156 n18 (wr (v3 + 6)) q38.2
        else
          some (0, q38.2))
        else none)
        else none
      else if (jand (g 1000 v3.toNat) 63) = 19 then
        if (1000 : Nat) = 1000 ∧ 0 ≤ (wr (v3 + 1)) ∧ (wr (v3 + 1)) < (g 1001 0) then
        Option.bind (Op_breach (g 1000 (wr (v3 + 1)).toNat) g) (fun q39 =>
        if (1000 : Nat) = 1000 ∧ 0 ≤ (wr (v3 + 1)) ∧ (wr (v3 + 1)) < (q39.2 1001 0) then
        Option.bind (Md_breach (q39.2 1000 (wr (v3 + 1)).toNat) q39.2) (fun q40 =>
        if q39.1 = q40.1 then
          Law_law_l18 K18_1156 n18 (wr (v3 + 6)) q40.2
        else
          some (0, q40.2))
        else none)
        else none
      else if (jand (g 1000 v3.toNat) 63) = 20 then
        if (1000 : Nat) = 1000 ∧ 0 ≤ (wr (v3 + 1)) ∧ (wr (v3 + 1)) < (g 1001 0) then
        Option.bind (Op_log (g 1000 (wr (v3 + 1)).toNat) g) (fun q41 =>
        if (1000 : Nat) = 1000 ∧ 0 ≤ (wr (v3 + 1)) ∧ (wr (v3 + 1)) < (q41.2 1001 0) then
        Option.bind (Md_log (q41.2 1000 (wr (v3 + 1)).toNat) q41.2) (fun q42 =>
        if q41.1 = q42.1 then
          Law_law_l18 K18_1156 n18 (wr (v3 + 6)) q42.2
        else
          some (0, q42.2))
        else none)
        else none
      else if (jand (g 1000 v3.toNat) 63) = 21 then
        lett (Op_clear g) (fun q43 =>
        lett (Md_clear q43.2) (fun q44 =>
        if q43.1 = q44.1 then
          Law_law_l18 K18_1156 n18 (wr (v3 + 6)) q44.2
        else
          some (0, q44.2)))
      else if (jand (g 1000 v3.toNat) 63) = 22 then
        if (1000 : Nat) = 1000 ∧ 0 ≤ (wr (v3 + 1)) ∧ (wr (v3 + 1)) < (g 1001 0) then
        Option.bind (Op_left (g 1000 (wr (v3 + 1)).toNat) g) (fun q45 =>
        if (1000 : Nat) = 1000 ∧ 0 ≤ (wr (v3 + 1)) ∧ (wr (v3 + 1)) < (q45.2 1001 0) then
        Option.bind (Md_left (q45.2 1000 (wr (v3 + 1)).toNat) q45.2) (fun q46 =>
        if q45.1 = q46.1 then
          Law_law_l18 K18_1156 n18 (wr (v3 + 6)) q46.2
        else
          some (0, q46.2))
        else none)
        else none
      else if (jand (g 1000 v3.toNat) 63) = 23 then
        if (1000 : Nat) = 1000 ∧ 0 ≤ (wr (v3 + 1)) ∧ (wr (v3 + 1)) < (g 1001 0) then
        Option.bind (Op_out (g 1000 (wr (v3 + 1)).toNat) g) (fun q47 =>
        if (1000 : Nat) = 1000 ∧ 0 ≤ (wr (v3 + 1)) ∧ (wr (v3 + 1)) < (q47.2 1001 0) then
        Option.bind (Md_out (q47.2 1000 (wr (v3 + 1)).toNat) q47.2) (fun q48 =>
        if q47.1 = q48.1 then
          Law_law_l18 K18_1156 n18 (wr (v3 + 6)) q48.2
        else
          some (0, q48.2))
        else none)
        else none
      else if (jand (g 1000 v3.toNat) 63) = 24 then
        Option.bind (Op_ask g) (fun q49 =>
        Option.bind (Md_ask q49.2) (fun q50 =>
        if q49.1 = q50.1 then
          Law_law_l18 K18_1156 n18 (wr (v3 + 6)) q50.2
        else
          some (0, q50.2)))
      else if (jand (g 1000 v3.toNat) 63) = 25 then
        if (1000 : Nat) = 1000 ∧ 0 ≤ (wr (v3 + 1)) ∧ (wr (v3 + 1)) < (g 1001 0) then
        if (1000 : Nat) = 1000 ∧ 0 ≤ (wr (v3 + 2)) ∧ (wr (v3 + 2)) < (g 1001 0) then
        if (1000 : Nat) = 1000 ∧ 0 ≤ (wr (v3 + 3)) ∧ (wr (v3 + 3)) < (g 1001 0) then
        Option.bind (Op_sheet (g 1000 (wr (v3 + 1)).toNat) (g 1000 (wr (v3 + 2)).toNat) (g 1000 (wr (v3 + 3)).toNat) g) (fun q51 =>
        if (1000 : Nat) = 1000 ∧ 0 ≤ (wr (v3 + 1)) ∧ (wr (v3 + 1)) < (q51.2 1001 0) then
        if (1000 : Nat) = 1000 ∧ 0 ≤ (wr (v3 + 2)) ∧ (wr (v3 + 2)) < (q51.2 1001 0) then
        if (1000 : Nat) = 1000 ∧ 0 ≤ (wr (v3 + 3)) ∧ (wr (v3 + 3)) < (q51.2 1001 0) then
        Option.bind (Md_sheet (q51.2 1000 (wr (v3 + 1)).toNat) (q51.2 1000 (wr (v3 + 2)).toNat) (q51.2 1000 (wr (v3 + 3)).toNat) q51.2) (fun q52 =>
        if q51.1 = q52.1 then
          Law_law_l18 K18_1156 n18 (wr (v3 + 6)) q52.2
        else
          some (0, q52.2))
        else none
        else none
        else none)
        else none
        else none
        else none
      else if (jand (g 1000 v3.toNat) 63) = 26 then
        if (1000 : Nat) = 1000 ∧ 0 ≤ (wr (v3 + 1)) ∧ (wr (v3 + 1)) < (g 1001 0) then
        lett (Op_lose (g 1000 (wr (v3 + 1)).toNat) g) (fun q53 =>
        if (1000 : Nat) = 1000 ∧ 0 ≤ (wr (v3 + 1)) ∧ (wr (v3 + 1)) < (q53.2 1001 0) then
        Option.bind (Md_lose (q53.2 1000 (wr (v3 + 1)).toNat) q53.2) (fun q54 =>
        if q53.1 = q54.1 then
          Law_law_l18 K18_1156 n18 (wr (v3 + 6)) q54.2
        else
          some (0, q54.2))
        else none)
        else none
      else if (jand (g 1000 v3.toNat) 63) = 27 then
        if (1000 : Nat) = 1000 ∧ 0 ≤ (wr (v3 + 1)) ∧ (wr (v3 + 1)) < (g 1001 0) then
        if (1000 : Nat) = 1000 ∧ 0 ≤ (wr (v3 + 2)) ∧ (wr (v3 + 2)) < (g 1001 0) then
        if (1000 : Nat) = 1000 ∧ 0 ≤ (wr (v3 + 3)) ∧ (wr (v3 + 3)) < (g 1001 0) then
        if (1000 : Nat) = 1000 ∧ 0 ≤ (wr (v3 + 4)) ∧ (wr (v3 + 4)) < (g 1001 0) then
        lett (Op_put (g 1000 (wr (v3 + 1)).toNat) (g 1000 (wr (v3 + 2)).toNat) (g 1000 (wr (v3 + 3)).toNat) (g 1000 (wr (v3 + 4)).toNat) g) (fun q55 =>
        if (1000 : Nat) = 1000 ∧ 0 ≤ (wr (v3 + 1)) ∧ (wr (v3 + 1)) < (q55.2 1001 0) then
        if (1000 : Nat) = 1000 ∧ 0 ≤ (wr (v3 + 2)) ∧ (wr (v3 + 2)) < (q55.2 1001 0) then
        if (1000 : Nat) = 1000 ∧ 0 ≤ (wr (v3 + 3)) ∧ (wr (v3 + 3)) < (q55.2 1001 0) then
        if (1000 : Nat) = 1000 ∧ 0 ≤ (wr (v3 + 4)) ∧ (wr (v3 + 4)) < (q55.2 1001 0) then
        Option.bind (Md_put (q55.2 1000 (wr (v3 + 1)).toNat) (q55.2 1000 (wr (v3 + 2)).toNat) (q55.2 1000 (wr (v3 + 3)).toNat) (q55.2 1000 (wr (v3 + 4)).toNat) q55.2) (fun q56 =>
        if q55.1 = q56.1 then
          Law_law_l18 K18_1156 n18 (wr (v3 + 6)) q56.2
        else
          some (0, q56.2))
        else none
        else none
        else none
        else none)
        else none
        else none
        else none
        else none
      else if (jand (g 1000 v3.toNat) 63) = 28 then
        if (1000 : Nat) = 1000 ∧ 0 ≤ (wr (v3 + 1)) ∧ (wr (v3 + 1)) < (g 1001 0) then
        if (1000 : Nat) = 1000 ∧ 0 ≤ (wr (v3 + 2)) ∧ (wr (v3 + 2)) < (g 1001 0) then
        if (1000 : Nat) = 1000 ∧ 0 ≤ (wr (v3 + 3)) ∧ (wr (v3 + 3)) < (g 1001 0) then
        lett (Op_get (g 1000 (wr (v3 + 1)).toNat) (g 1000 (wr (v3 + 2)).toNat) (g 1000 (wr (v3 + 3)).toNat) g) (fun q57 =>
        if (1000 : Nat) = 1000 ∧ 0 ≤ (wr (v3 + 1)) ∧ (wr (v3 + 1)) < (q57.2 1001 0) then
        if (1000 : Nat) = 1000 ∧ 0 ≤ (wr (v3 + 2)) ∧ (wr (v3 + 2)) < (q57.2 1001 0) then
        if (1000 : Nat) = 1000 ∧ 0 ≤ (wr (v3 + 3)) ∧ (wr (v3 + 3)) < (q57.2 1001 0) then
        Option.bind (Md_get (q57.2 1000 (wr (v3 + 1)).toNat) (q57.2 1000 (wr (v3 + 2)).toNat) (q57.2 1000 (wr (v3 + 3)).toNat) q57.2) (fun q58 =>
        if q57.1 = q58.1 then
          Law_law_l18 K18_1156 n18 (wr (v3 + 6)) q58.2
        else
          some (0, q58.2))
        else none
        else none
        else none)
        else none
        else none
        else none
      else if (jand (g 1000 v3.toNat) 63) = 29 then
        if (1000 : Nat) = 1000 ∧ 0 ≤ (wr (v3 + 1)) ∧ (wr (v3 + 1)) < (g 1001 0) then
        if (1000 : Nat) = 1000 ∧ 0 ≤ (wr (v3 + 2)) ∧ (wr (v3 + 2)) < (g 1001 0) then
        if (1000 : Nat) = 1000 ∧ 0 ≤ (wr (v3 + 3)) ∧ (wr (v3 + 3)) < (g 1001 0) then
        if (1000 : Nat) = 1000 ∧ 0 ≤ (wr (v3 + 4)) ∧ (wr (v3 + 4)) < (g 1001 0) then
        if (1000 : Nat) = 1000 ∧ 0 ≤ (wr (v3 + 5)) ∧ (wr (v3 + 5)) < (g 1001 0) then
        Option.bind (Op_copy (g 1000 (wr (v3 + 1)).toNat) (g 1000 (wr (v3 + 2)).toNat) (g 1000 (wr (v3 + 3)).toNat) (g 1000 (wr (v3 + 4)).toNat) (g 1000 (wr (v3 + 5)).toNat) g) (fun q59 =>
        if (1000 : Nat) = 1000 ∧ 0 ≤ (wr (v3 + 1)) ∧ (wr (v3 + 1)) < (q59.2 1001 0) then
        if (1000 : Nat) = 1000 ∧ 0 ≤ (wr (v3 + 2)) ∧ (wr (v3 + 2)) < (q59.2 1001 0) then
        if (1000 : Nat) = 1000 ∧ 0 ≤ (wr (v3 + 3)) ∧ (wr (v3 + 3)) < (q59.2 1001 0) then
        if (1000 : Nat) = 1000 ∧ 0 ≤ (wr (v3 + 4)) ∧ (wr (v3 + 4)) < (q59.2 1001 0) then
        if (1000 : Nat) = 1000 ∧ 0 ≤ (wr (v3 + 5)) ∧ (wr (v3 + 5)) < (q59.2 1001 0) then
        Option.bind (Md_copy (q59.2 1000 (wr (v3 + 1)).toNat) (q59.2 1000 (wr (v3 + 2)).toNat) (q59.2 1000 (wr (v3 + 3)).toNat) (q59.2 1000 (wr (v3 + 4)).toNat) (q59.2 1000 (wr (v3 + 5)).toNat) q59.2) (fun q60 =>
        if q59.1 = q60.1 then
          Law_law_l18 K18_1156 n18 (wr (v3 + 6)) q60.2
        else
          some (0, q60.2))
        else none
        else none
        else none
        else none
        else none)
        else none
        else none
        else none
        else none
        else none
      else if (jand (g 1000 v3.toNat) 63) = 30 then
        if (1000 : Nat) = 1000 ∧ 0 ≤ (wr (v3 + 1)) ∧ (wr (v3 + 1)) < (g 1001 0) then
        if (1000 : Nat) = 1000 ∧ 0 ≤ (wr (v3 + 2)) ∧ (wr (v3 + 2)) < (g 1001 0) then
        Option.bind (Op_write (g 1000 (wr (v3 + 1)).toNat) (g 1000 (wr (v3 + 2)).toNat) g) (fun q61 =>
        if (1000 : Nat) = 1000 ∧ 0 ≤ (wr (v3 + 1)) ∧ (wr (v3 + 1)) < (q61.2 1001 0) then
        if (1000 : Nat) = 1000 ∧ 0 ≤ (wr (v3 + 2)) ∧ (wr (v3 + 2)) < (q61.2 1001 0) then
        Option.bind (Md_write (q61.2 1000 (wr (v3 + 1)).toNat) (q61.2 1000 (wr (v3 + 2)).toNat) q61.2) (fun q62 =>
        if q61.1 = q62.1 then
          Law_law_l18 K18_1156 n18 (wr (v3 + 6)) q62.2
        else
          some (0, q62.2))
        else none
        else none)
        else none
        else none
      else if (jand (g 1000 v3.toNat) 63) = 31 then
        if (1000 : Nat) = 1000 ∧ 0 ≤ (wr (v3 + 1)) ∧ (wr (v3 + 1)) < (g 1001 0) then
        Option.bind (Op_count (g 1000 (wr (v3 + 1)).toNat) g) (fun q63 =>
        if (1000 : Nat) = 1000 ∧ 0 ≤ (wr (v3 + 1)) ∧ (wr (v3 + 1)) < (q63.2 1001 0) then
        Option.bind (Md_count (q63.2 1000 (wr (v3 + 1)).toNat) q63.2) (fun q64 =>
        if q63.1 = q64.1 then
          Law_law_l18 K18_1156 n18 (wr (v3 + 6)) q64.2
        else
          some (0, q64.2))
        else none)
        else none
      else
        Option.bind (Op_digest g) (fun q65 =>
        Option.bind (Md_digest q65.2) (fun q66 =>
        if (mcmp q65.1 q66.1) = 0 then
          Law_law_l18 K18_1156 n18 (wr (v3 + 6)) q66.2
        else
          some (0, q66.2)))
      else none
def Law_law (g : Gx) : Option (Int × Gx) :=
  Law_law_l18
    (fun g67 =>
      some (1, g67))
    fu 0 g
