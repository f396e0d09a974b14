/-! Methods as functions of the heap of numbers. Printed by wip/gen/gen_parts.py. -/
def Tx_append1 (a1 : Int) (g : Gx) : Int × Gx :=
  if (g 1 2) < (g 1 1) then
    (1, (gset (gset (rset g 3 160 (g 1 2) a1) 1 2 (wr ((g 1 2) + 1))) 1 3 (wr ((g 1 3) + 1))))
  else
    (0, g)
theorem bo_Tx_append1 (a1 : Int) (g : Gx) : (Tx_append1 a1 g).1 = 0 ∨ (Tx_append1 a1 g).1 = 1 := by
  simp only [Tx_append1, lett]
  (repeat' split) <;> first | exact Or.inl rfl | exact Or.inr rfl | exact Or.inl trivial | exact Or.inr trivial
def Tx_append4 (a1 : Int) (g : Gx) : Int × Gx :=
  if (g 4 2) < (g 4 1) then
    (1, (gset (gset (rset g 6 80 (g 4 2) a1) 4 2 (wr ((g 4 2) + 1))) 4 3 (wr ((g 4 3) + 1))))
  else
    (0, g)
theorem bo_Tx_append4 (a1 : Int) (g : Gx) : (Tx_append4 a1 g).1 = 0 ∨ (Tx_append4 a1 g).1 = 1 := by
  simp only [Tx_append4, lett]
  (repeat' split) <;> first | exact Or.inl rfl | exact Or.inr rfl | exact Or.inl trivial | exact Or.inr trivial
def Tx_length1 (g : Gx) : Int :=
  (g 1 2)
def Tx_length4 (g : Gx) : Int :=
  (g 4 2)
def Op_type (a1 a2 : Int) (g : Gx) : Int × Gx :=
  if a1 < 0 then
    ((-2), g)
  else
    if 1 < a1 then
      ((-2), g)
    else
      if a2 < 0 then
        ((-2), g)
      else
        if a2 ≤ 255 then
          if ¬ a1 = 0 then
            lett (Tx_append4 a2 g) (fun q1 =>
            if q1.1 = 0 then
              ((-4), q1.2)
            else
              ((Tx_length4 q1.2), q1.2))
          else
            lett (Tx_append1 a2 g) (fun q2 =>
            if q2.1 = 0 then
              ((-4), q2.2)
            else
              ((Tx_length1 q2.2), q2.2))
        else
          ((-2), g)
def Md_in (a0 a2 a4 : Int) : Int :=
  if (mcmp a0 a2) < 0 then
    0
  else
    if 0 < (mcmp a0 a4) then
      0
    else
      1
theorem bo_Md_in (a0 a2 a4 : Int) : (Md_in a0 a2 a4) = 0 ∨ (Md_in a0 a2 a4) = 1 := by
  simp only [Md_in, lett]
  (repeat' split) <;> first | exact Or.inl rfl | exact Or.inr rfl | exact Or.inl trivial | exact Or.inr trivial
def Md_roomOf (a0 : Int) : Int :=
  if ¬ a0 = 0 then
    80
  else
    160
def Md_type (a1 a2 : Int) (g : Gx) : Option (Int × Gx) :=
  if (Md_in a1 0 1) = 0 then
    some ((-2), g)
  else
    if ¬ (Md_in a2 0 255) = 0 then
      if 0 ≤ a1 ∧ a1 < 2 then
      if ¬ (g 98 a1.toNat) = (Md_roomOf a1) then
        if 0 ≤ a1 ∧ a1 < 2 then
        if 0 ≤ (wr ((wr (160 * a1)) + (g 98 a1.toNat))) ∧ (wr ((wr (160 * a1)) + (g 98 a1.toNat))) < 240 then
        if 0 ≤ a1 ∧ a1 < 2 then
        if 0 ≤ a1 ∧ a1 < 2 then
        if 0 ≤ a1 ∧ a1 < 2 then
        some (((gset (gset g 97 ((wr ((wr (160 * a1)) + (g 98 a1.toNat))).toNat) a2) 98 a1.toNat (wr ((g 98 a1.toNat) + 1))) 98 a1.toNat), (gset (gset g 97 ((wr ((wr (160 * a1)) + (g 98 a1.toNat))).toNat) a2) 98 a1.toNat (wr ((g 98 a1.toNat) + 1))))
        else none
        else none
        else none
        else none
        else none
      else
        some ((-4), g)
      else none
    else
      some ((-2), g)
def Tx_empty1 (g : Gx) : Int × Gx :=
  ((g 1 2), (gset (gset g 1 2 0) 1 3 (wr ((g 1 3) + 1))))
def Tx_empty4 (g : Gx) : Int × Gx :=
  ((g 4 2), (gset (gset g 4 2 0) 4 3 (wr ((g 4 3) + 1))))
def Op_wipe (a1 : Int) (g : Gx) : Int × Gx :=
  if a1 < 0 then
    ((-2), g)
  else
    if a1 ≤ 1 then
      if ¬ a1 = 1 then
        lett (Tx_empty1 (gset g 0 11 0)) (fun q1 =>
        (q1.1, q1.2))
      else
        lett (Tx_empty4 g) (fun q2 =>
        (q2.1, q2.2))
    else
      ((-2), g)
def Md_wipe (a1 : Int) (g : Gx) : Option (Int × Gx) :=
  if ¬ (Md_in a1 0 1) = 0 then
    if 0 ≤ a1 ∧ a1 < 2 then
    if 0 ≤ a1 ∧ a1 < 2 then
    if ¬ a1 = 0 then
      some ((g 98 a1.toNat), (gset (gset g 98 a1.toNat 0) 92 7 (g 92 7)))
    else
      some ((g 98 a1.toNat), (gset (gset g 98 a1.toNat 0) 92 7 0))
    else none
    else none
  else
    some ((-2), g)
def Tx_changes1 (g : Gx) : Int :=
  (g 1 3)
def Tx_changes4 (g : Gx) : Int :=
  (g 4 3)
def St_reset (g : Gx) : Gx :=
  (gset (gset (gset g 7 10 0) 7 11 0) 7 12 (wr ((g 7 12) + 1)))
def Pr_restart (g : Gx) : Gx :=
  lett (St_reset g) (fun g1 =>
  (gset (gset (gset (gset (gset g1 28 4 0) 28 5 0) 28 6 (-1)) 28 7 0) 28 8 0))
def Tx_at1 (a1 : Int) (g : Gx) : Int :=
  if a1 < 0 then
    (-1)
  else
    if (g 1 2) ≤ a1 then
      (-1)
    else
      (rat g 3 160 a1)
def Tx_at4 (a1 : Int) (g : Gx) : Int :=
  if a1 < 0 then
    (-1)
  else
    if (g 4 2) ≤ a1 then
      (-1)
    else
      (rat g 6 80 a1)
def Op_isTalkerLetter (a0 : Int) : Int :=
  if a0 < 65 then
    0
  else
    if 71 ≤ a0 then
      0
    else
      1
theorem bo_Op_isTalkerLetter (a0 : Int) : (Op_isTalkerLetter a0) = 0 ∨ (Op_isTalkerLetter a0) = 1 := by
  simp only [Op_isTalkerLetter, lett]
  (repeat' split) <;> first | exact Or.inl rfl | exact Or.inr rfl | exact Or.inl trivial | exact Or.inr trivial
def Pr_failAt (a1 : Int) (g : Gx) : Int × Gx :=
  (0, (gset g 28 6 a1))
theorem bo_Pr_failAt (a1 : Int) (g : Gx) : (Pr_failAt a1 g).1 = 0 ∨ (Pr_failAt a1 g).1 = 1 := by
  simp only [Pr_failAt, lett]
  (repeat' split) <;> first | exact Or.inl rfl | exact Or.inr rfl | exact Or.inl trivial | exact Or.inr trivial
def Op_isWordLetter (a0 : Int) : Int :=
  if a0 < 97 then
    0
  else
    if 123 ≤ a0 then
      0
    else
      1
theorem bo_Op_isWordLetter (a0 : Int) : (Op_isWordLetter a0) = 0 ∨ (Op_isWordLetter a0) = 1 := by
  simp only [Op_isWordLetter, lett]
  (repeat' split) <;> first | exact Or.inl rfl | exact Or.inr rfl | exact Or.inl trivial | exact Or.inr trivial
def St_add (a1 a2 : Int) (g : Gx) : Gx :=
  (gset (rset (rset g 9 160 (g 7 10) a1) 11 160 (g 7 10) a2) 7 10 (wr ((g 7 10) + 1)))
def Pr_readSaying (a1 : Int) (g : Gx) : Int × Gx :=
  if (Op_isTalkerLetter (Tx_at1 (wr ((g 28 5) + 2)) g)) = 0 then
    lett (Pr_failAt (wr ((g 28 5) + 2)) g) (fun q1 =>
    (q1.1, q1.2))
  else
    if ¬ (Tx_at1 (wr ((g 28 5) + 2)) g) = a1 then
      if ¬ (Op_isWordLetter (Tx_at1 (wr ((g 28 5) + 3)) g)) = 0 then
        lett (St_add 0 (wr ((wr ((wr (1000 * (wr (a1 - 65)))) + (wr (100 * (wr ((Tx_at1 (wr ((g 28 5) + 2)) g) - 65)))))) + (wr ((Tx_at1 (wr ((g 28 5) + 3)) g) - 97)))) g) (fun g2 =>
        (0, (gset (gset (gset g2 28 7 (jor (g2 28 7) (jor (jshl 1 (wr (a1 - 65))) (jshl 1 (wr ((Tx_at1 (wr ((g 28 5) + 2)) g) - 65)))))) 28 8 (wr ((g2 28 8) + 1))) 28 5 (wr ((g2 28 5) + 4)))))
      else
        lett (Pr_failAt (wr ((g 28 5) + 3)) g) (fun q3 =>
        (q3.1, q3.2))
    else
      lett (Pr_failAt (wr ((g 28 5) + 2)) g) (fun q4 =>
      (q4.1, q4.2))
theorem bo_Pr_readSaying (a1 : Int) (g : Gx) : (Pr_readSaying a1 g).1 = 0 ∨ (Pr_readSaying a1 g).1 = 1 := by
  simp only [Pr_readSaying, lett]
  (repeat' split) <;> first | exact Or.inl rfl | exact Or.inr rfl | exact Or.inl trivial | exact Or.inr trivial | apply bo_Op_isTalkerLetter | apply bo_Op_isWordLetter | apply bo_Pr_failAt
def St_size (g : Gx) : Int :=
  (g 7 10)
def St_newChoice (a1 : Int) (g : Gx) : Int × Gx :=
  ((g 7 11), (rset (rset (gset g 7 11 (wr ((g 7 11) + 1))) 13 40 (g 7 11) a1) 15 40 (g 7 11) 0))
def St_beginWay (a1 : Int) (g : Gx) : Gx :=
  (radd (rset g 17 160 (wr ((wr (a1 * 4)) + (rat g 15 40 a1))) (g 7 10)) 15 40 a1 1)
def Pr_readOpening (a1 : Int) (g : Gx) : Int × Gx :=
  if ¬ (Tx_at1 (wr ((g 28 5) + 1)) g) = 40 then
    lett (Pr_failAt (wr ((g 28 5) + 1)) g) (fun q1 =>
    (q1.1, q1.2))
  else
    if (g 28 4) < 4 then
      if (Op_isTalkerLetter a1) = 0 then
        lett (St_add 4 (wr (a1 - 48)) (rset g 32 4 (g 28 4) (St_size g))) (fun g2 =>
        (1, (gset (gset (rset g2 30 4 (g2 28 4) (-1)) 28 4 (wr ((g2 28 4) + 1))) 28 5 (wr ((g2 28 5) + 2)))))
      else
        lett (St_newChoice (wr (a1 - 65)) (rset g 32 4 (g 28 4) (St_size g))) (fun q3 =>
        lett (St_add 1 q3.1 q3.2) (fun g4 =>
        lett (St_beginWay q3.1 g4) (fun g5 =>
        (1, (gset (gset (gset (rset g5 30 4 (g5 28 4) q3.1) 28 7 (jor (g5 28 7) (jshl 1 (wr (a1 - 65))))) 28 4 (wr ((g5 28 4) + 1))) 28 5 (wr ((g5 28 5) + 2)))))))
    else
      lett (Pr_failAt (wr ((g 28 5) + 1)) g) (fun q6 =>
      (q6.1, q6.2))
theorem bo_Pr_readOpening (a1 : Int) (g : Gx) : (Pr_readOpening a1 g).1 = 0 ∨ (Pr_readOpening a1 g).1 = 1 := by
  simp only [Pr_readOpening, lett]
  (repeat' split) <;> first | exact Or.inl rfl | exact Or.inr rfl | exact Or.inl trivial | exact Or.inr trivial | apply bo_Op_isTalkerLetter | apply bo_Pr_failAt
def Pr_readItem (g : Gx) : Int × Gx :=
  if ¬ (Tx_at1 (g 28 5) g) = 45 then
    if (Op_isTalkerLetter (Tx_at1 (g 28 5) g)) = 0 then
      if ¬ (Op_isTalkerLetter (Tx_at1 (g 28 5) g)) = 0 then
        lett (Pr_readOpening (Tx_at1 (g 28 5) g) g) (fun q1 =>
        (q1.1, q1.2))
      else
        if (Tx_at1 (g 28 5) g) < 50 then
          lett (Pr_failAt (g 28 5) g) (fun q2 =>
          (q2.1, q2.2))
        else
          if 52 < (Tx_at1 (g 28 5) g) then
            lett (Pr_failAt (g 28 5) g) (fun q3 =>
            (q3.1, q3.2))
          else
            lett (Pr_readOpening (Tx_at1 (g 28 5) g) g) (fun q4 =>
            (q4.1, q4.2))
    else
      if ¬ (Tx_at1 (wr ((g 28 5) + 1)) g) = 62 then
        if ¬ (Op_isTalkerLetter (Tx_at1 (g 28 5) g)) = 0 then
          lett (Pr_readOpening (Tx_at1 (g 28 5) g) g) (fun q5 =>
          (q5.1, q5.2))
        else
          if (Tx_at1 (g 28 5) g) < 50 then
            lett (Pr_failAt (g 28 5) g) (fun q6 =>
            (q6.1, q6.2))
          else
            if 52 < (Tx_at1 (g 28 5) g) then
              lett (Pr_failAt (g 28 5) g) (fun q7 =>
              (q7.1, q7.2))
            else
              lett (Pr_readOpening (Tx_at1 (g 28 5) g) g) (fun q8 =>
              (q8.1, q8.2))
      else
        lett (Pr_readSaying (Tx_at1 (g 28 5) g) g) (fun q9 =>
        (q9.1, q9.2))
  else
    (0, (gset g 28 5 (wr ((g 28 5) + 1))))
theorem bo_Pr_readItem (g : Gx) : (Pr_readItem g).1 = 0 ∨ (Pr_readItem g).1 = 1 := by
  simp only [Pr_readItem, lett]
  (repeat' split) <;> first | exact Or.inl rfl | exact Or.inr rfl | exact Or.inl trivial | exact Or.inr trivial | apply bo_Op_isTalkerLetter | apply bo_Pr_failAt | apply bo_Pr_readOpening | apply bo_Pr_readSaying
def St_wayCount (a1 : Int) (g : Gx) : Int :=
  (rat g 15 40 a1)
def Pr_readNextWay (a1 : Int) (g : Gx) : Int × Gx :=
  if a1 = (-1) then
    lett (Pr_failAt (g 28 5) g) (fun q1 =>
    (q1.1, q1.2))
  else
    if (St_wayCount a1 g) < 4 then
      lett (St_add 2 a1 g) (fun g2 =>
      lett (St_beginWay a1 g2) (fun g3 =>
      (1, (gset g3 28 5 (wr ((g3 28 5) + 1))))))
    else
      lett (Pr_failAt (g 28 5) g) (fun q4 =>
      (q4.1, q4.2))
theorem bo_Pr_readNextWay (a1 : Int) (g : Gx) : (Pr_readNextWay a1 g).1 = 0 ∨ (Pr_readNextWay a1 g).1 = 1 := by
  simp only [Pr_readNextWay, lett]
  (repeat' split) <;> first | exact Or.inl rfl | exact Or.inr rfl | exact Or.inl trivial | exact Or.inr trivial | apply bo_Pr_failAt
def St_closeRounds (a1 : Int) (g : Gx) : Gx :=
  if ¬ (g 7 10) = (wr (a1 + 1)) then
    (gset (rset (rset g 9 160 (g 7 10) 5) 11 160 (g 7 10) (rat g 11 160 a1)) 7 10 (wr ((g 7 10) + 1)))
  else
    (gset g 7 10 a1)
def St_endChoice (a1 : Int) (g : Gx) : Gx :=
  (rset g 19 40 a1 (g 7 10))
def Pr_readClosing (a1 : Int) (g : Gx) : Int × Gx :=
  if ¬ a1 = (-1) then
    if 2 ≤ (St_wayCount a1 g) then
      lett (St_add 3 a1 g) (fun g1 =>
      lett (St_endChoice a1 g1) (fun g2 =>
      (0, (gset (gset g2 28 4 (wr ((g2 28 4) - 1))) 28 5 (wr ((g2 28 5) + 1))))))
    else
      lett (Pr_failAt (g 28 5) g) (fun q3 =>
      (q3.1, q3.2))
  else
    lett (St_closeRounds (rat g 32 4 (wr ((g 28 4) - 1))) g) (fun g4 =>
    (0, (gset (gset g4 28 4 (wr ((g4 28 4) - 1))) 28 5 (wr ((g4 28 5) + 1)))))
theorem bo_Pr_readClosing (a1 : Int) (g : Gx) : (Pr_readClosing a1 g).1 = 0 ∨ (Pr_readClosing a1 g).1 = 1 := by
  simp only [Pr_readClosing, lett]
  (repeat' split) <;> first | exact Or.inl rfl | exact Or.inr rfl | exact Or.inl trivial | exact Or.inr trivial | apply bo_Pr_failAt
def Pr_readBehindItem (g : Gx) : Int × Gx :=
  if ¬ (Tx_at1 (g 28 5) g) = 44 then
    if (g 28 4) ≤ 0 then
      if (g 28 4) ≤ 0 then
        lett (Pr_failAt (g 28 5) g) (fun q1 =>
        (q1.1, q1.2))
      else
        if ¬ (Tx_at1 (g 28 5) g) = 41 then
          lett (Pr_failAt (g 28 5) g) (fun q2 =>
          (q2.1, q2.2))
        else
          lett (Pr_readClosing (rat g 30 4 (wr ((g 28 4) - 1))) g) (fun q3 =>
          (q3.1, q3.2))
    else
      if ¬ (Tx_at1 (g 28 5) g) = 124 then
        if (g 28 4) ≤ 0 then
          lett (Pr_failAt (g 28 5) g) (fun q4 =>
          (q4.1, q4.2))
        else
          if ¬ (Tx_at1 (g 28 5) g) = 41 then
            lett (Pr_failAt (g 28 5) g) (fun q5 =>
            (q5.1, q5.2))
          else
            lett (Pr_readClosing (rat g 30 4 (wr ((g 28 4) - 1))) g) (fun q6 =>
            (q6.1, q6.2))
      else
        lett (Pr_readNextWay (rat g 30 4 (wr ((g 28 4) - 1))) g) (fun q7 =>
        (q7.1, q7.2))
  else
    (1, (gset g 28 5 (wr ((g 28 5) + 1))))
theorem bo_Pr_readBehindItem (g : Gx) : (Pr_readBehindItem g).1 = 0 ∨ (Pr_readBehindItem g).1 = 1 := by
  simp only [Pr_readBehindItem, lett]
  (repeat' split) <;> first | exact Or.inl rfl | exact Or.inr rfl | exact Or.inl trivial | exact Or.inr trivial | apply bo_Pr_failAt | apply bo_Pr_readClosing | apply bo_Pr_readNextWay
def Pr_firstFault_l38 (K38_90 : Gx → Option (Int × Gx)) : Nat → Int → Int → Gx → Option (Int × Gx)
  | 0, _, _, _ => none
  | n38 + 1, v1, v2, g =>
    if 160 < v2 then
      K38_90 g
    else
      if ¬ (g 28 6) = (-1) then
        K38_90 g
      else
        if v1 = 0 then
          if (Tx_length1 g) ≤ (g 28 5) then
            K38_90 g
          else
            lett (Pr_readBehindItem g) (fun q2 =>
            Pr_firstFault_l38 K38_90 n38 q2.1 (wr (v2 + 1)) q2.2)
        else
          lett (Pr_readItem g) (fun q3 =>
          Pr_firstFault_l38 K38_90 n38 q3.1 (wr (v2 + 1)) q3.2)
def Pr_firstFault (g : Gx) : Option (Int × Gx) :=
  if ¬ (g 28 9) = (Tx_changes1 g) then
    lett (Pr_restart (gset g 28 9 (Tx_changes1 g))) (fun g1 =>
    Pr_firstFault_l38
      (fun g4 =>
        if ¬ (g4 28 6) = (-1) then
          some ((g4 28 6), g4)
        else
          if (g4 28 4) ≤ 0 then
            some ((g4 28 6), g4)
          else
            some ((Tx_length1 g4), (gset g4 28 6 (Tx_length1 g4))))
      fu 1 0 g1)
  else
    some ((g 28 6), g)
def Pg_read_l18 (K18_209 : Int → Gx → Option (Int × Gx)) : Nat → Int → Int → Gx → Option (Int × Gx)
  | 0, _, _, _ => none
  | n18 + 1, v1, v2, g =>
    if (Tx_length4 g) ≤ v2 then
      K18_209 v1 g
    else
      if ¬ (Tx_at4 v2 g) = 124 then
        if (Tx_at4 v2 g) = 33 then
          if ¬ (Op_isTalkerLetter (Tx_at4 (wr (v2 + 1)) g)) = 0 then
            if ¬ (Op_isWordLetter (Tx_at4 (wr (v2 + 2)) g)) = 0 then
              lett ((if ¬ (Tx_at4 v2 g) = 33 then 20000 else 10000) : Int) (fun y1 =>
              Pg_read_l18 K18_209 n18 (wr (v1 + 1)) (wr (v2 + 3)) (rset (rset (rset g 71 80 v1 y1) 73 80 v1 (wr ((Tx_at4 (wr (v2 + 1)) (rset g 71 80 v1 y1)) - 65))) 75 80 v1 (wr ((Tx_at4 (wr (v2 + 2)) (rset (rset g 71 80 v1 y1) 73 80 v1 (wr ((Tx_at4 (wr (v2 + 1)) (rset g 71 80 v1 y1)) - 65)))) - 97))))
            else
              some ((wr (v2 + 2)), g)
          else
            some ((wr (v2 + 1)), g)
        else
          if (Tx_at4 v2 g) = 63 then
            if ¬ (Op_isTalkerLetter (Tx_at4 (wr (v2 + 1)) g)) = 0 then
              if ¬ (Op_isWordLetter (Tx_at4 (wr (v2 + 2)) g)) = 0 then
                lett ((if ¬ (Tx_at4 v2 g) = 33 then 20000 else 10000) : Int) (fun y2 =>
                Pg_read_l18 K18_209 n18 (wr (v1 + 1)) (wr (v2 + 3)) (rset (rset (rset g 71 80 v1 y2) 73 80 v1 (wr ((Tx_at4 (wr (v2 + 1)) (rset g 71 80 v1 y2)) - 65))) 75 80 v1 (wr ((Tx_at4 (wr (v2 + 2)) (rset (rset g 71 80 v1 y2) 73 80 v1 (wr ((Tx_at4 (wr (v2 + 1)) (rset g 71 80 v1 y2)) - 65)))) - 97))))
              else
                some ((wr (v2 + 2)), g)
            else
              some ((wr (v2 + 1)), g)
          else
            some (v2, g)
      else
        if 8 ≤ (g 69 7) then
          if (Tx_at4 v2 g) = 33 then
            if ¬ (Op_isTalkerLetter (Tx_at4 (wr (v2 + 1)) g)) = 0 then
              if ¬ (Op_isWordLetter (Tx_at4 (wr (v2 + 2)) g)) = 0 then
                lett ((if ¬ (Tx_at4 v2 g) = 33 then 20000 else 10000) : Int) (fun y3 =>
                Pg_read_l18 K18_209 n18 (wr (v1 + 1)) (wr (v2 + 3)) (rset (rset (rset g 71 80 v1 y3) 73 80 v1 (wr ((Tx_at4 (wr (v2 + 1)) (rset g 71 80 v1 y3)) - 65))) 75 80 v1 (wr ((Tx_at4 (wr (v2 + 2)) (rset (rset g 71 80 v1 y3) 73 80 v1 (wr ((Tx_at4 (wr (v2 + 1)) (rset g 71 80 v1 y3)) - 65)))) - 97))))
              else
                some ((wr (v2 + 2)), g)
            else
              some ((wr (v2 + 1)), g)
          else
            if (Tx_at4 v2 g) = 63 then
              if ¬ (Op_isTalkerLetter (Tx_at4 (wr (v2 + 1)) g)) = 0 then
                if ¬ (Op_isWordLetter (Tx_at4 (wr (v2 + 2)) g)) = 0 then
                  lett ((if ¬ (Tx_at4 v2 g) = 33 then 20000 else 10000) : Int) (fun y4 =>
                  Pg_read_l18 K18_209 n18 (wr (v1 + 1)) (wr (v2 + 3)) (rset (rset (rset g 71 80 v1 y4) 73 80 v1 (wr ((Tx_at4 (wr (v2 + 1)) (rset g 71 80 v1 y4)) - 65))) 75 80 v1 (wr ((Tx_at4 (wr (v2 + 2)) (rset (rset g 71 80 v1 y4) 73 80 v1 (wr ((Tx_at4 (wr (v2 + 1)) (rset g 71 80 v1 y4)) - 65)))) - 97))))
                else
                  some ((wr (v2 + 2)), g)
              else
                some ((wr (v2 + 1)), g)
            else
              some (v2, g)
        else
          Pg_read_l18 K18_209 n18 v1 (wr (v2 + 1)) (gset (rset g 77 9 (g 69 7) v1) 69 7 (wr ((g 69 7) + 1)))
def Pg_read (g : Gx) : Option (Int × Gx) :=
  Pg_read_l18
    (fun x5 g6 =>
      some ((-1), (rset g6 77 9 (g6 69 7) x5)))
    fu 0 0 (rset (gset g 69 7 1) 77 9 0 0)
def Pg_firstFault (g : Gx) : Option (Int × Gx) :=
  if (g 69 9) = (Tx_changes4 g) then
    some ((g 69 8), g)
  else
    Option.bind (Pg_read (gset g 69 9 (Tx_changes4 g))) (fun q1 =>
    some (q1.1, (gset q1.2 69 8 q1.1)))
def Op_fault (a1 : Int) (g : Gx) : Option (Int × Gx) :=
  if a1 < 0 then
    some ((-2), g)
  else
    if a1 ≤ 1 then
      if ¬ a1 = 0 then
        Option.bind (Pg_firstFault g) (fun q1 =>
        some (q1.1, q1.2))
      else
        Option.bind (Pr_firstFault g) (fun q2 =>
        some (q2.1, q2.2))
    else
      some ((-2), g)
def Md_here (a1 : Int) (g : Gx) : Option (Int × Gx) :=
  if 0 ≤ a1 ∧ a1 < 2 then
  if (g 98 a1.toNat) ≤ (g 92 8) then
    some ((-1), g)
  else
    if 0 ≤ (wr ((wr (160 * a1)) + (g 92 8))) ∧ (wr ((wr (160 * a1)) + (g 92 8))) < 240 then
    some ((g 97 (wr ((wr (160 * a1)) + (g 92 8))).toNat), g)
    else none
  else none
def Md_act (a1 a2 a3 a4 : Int) (g : Gx) : Option Gx :=
  if 0 ≤ (g 92 9) ∧ (g 92 9) < 170 then
  if 0 ≤ (g 92 9) ∧ (g 92 9) < 170 then
  if 0 ≤ (g 92 9) ∧ (g 92 9) < 170 then
  if 0 ≤ (g 92 9) ∧ (g 92 9) < 170 then
  some (gset (gset (gset (gset (gset g 99 ((g 92 9).toNat) a1) 100 ((g 92 9).toNat) a2) 101 ((g 92 9).toNat) a3) 102 ((g 92 9).toNat) a4) 92 9 (wr ((g 92 9) + 1)))
  else none
  else none
  else none
  else none
def Md_opens (a1 a2 a3 a4 : Int) (g : Gx) : Option (Int × Gx) :=
  Option.bind (Md_here 0 g) (fun q1 =>
  if ¬ q1.1 = 40 then
    some (0, q1.2)
  else
    if ¬ (q1.2 92 20) = 4 then
      if 0 ≤ (q1.2 92 20) ∧ (q1.2 92 20) < 4 then
      Option.bind (Md_act a1 a2 a3 a4 (gset (gset (gset q1.2 92 8 (wr ((q1.2 92 8) + 1))) 105 ((q1.2 92 20).toNat) (q1.2 92 9)) 92 20 (wr ((q1.2 92 20) + 1)))) (fun g2 =>
      if 0 ≤ (wr (4 * (wr ((g2 92 9) - 1)))) ∧ (wr (4 * (wr ((g2 92 9) - 1)))) < 680 then
      some (1, (gset g2 104 ((wr (4 * (wr ((g2 92 9) - 1)))).toNat) (g2 92 9)))
      else none)
      else none
    else
      some (0, q1.2))
def Md_isTalker (a1 : Int) (g : Gx) : Option (Int × Gx) :=
  Option.bind (Md_here a1 g) (fun q1 =>
  some ((Md_in q1.1 65 70), q1.2))
def Md_readsItem (g : Gx) : Option (Int × Gx) :=
  Option.bind (Md_here 0 g) (fun q1 =>
  if ¬ q1.1 = 45 then
    if (Md_in q1.1 50 52) = 0 then
      Option.bind (Md_isTalker 0 q1.2) (fun q2 =>
      if ¬ q2.1 = 0 then
        Option.bind (Md_here 0 (gset q2.2 92 8 (wr ((q2.2 92 8) + 1)))) (fun q3 =>
        if ¬ q3.1 = 40 then
          Option.bind (Md_here 0 q3.2) (fun q4 =>
          if q4.1 = 62 then
            Option.bind (Md_isTalker 0 (gset q4.2 92 8 (wr ((q4.2 92 8) + 1)))) (fun q5 =>
            if q5.1 = 0 then
              some (0, q5.2)
            else
              Option.bind (Md_here 0 q5.2) (fun q6 =>
              if ¬ q6.1 = q1.1 then
                Option.bind (Md_here 0 q6.2) (fun q7 =>
                Option.bind (Md_here 0 (gset q7.2 92 8 (wr ((q7.2 92 8) + 1)))) (fun q8 =>
                if ¬ (Md_in q8.1 97 122) = 0 then
                  Option.bind (Md_here 0 q8.2) (fun q9 =>
                  Option.bind (Md_act 0 (wr (q1.1 - 65)) (wr (q7.1 - 65)) (wr (q9.1 - 97)) q9.2) (fun g10 =>
                  some (1, (gset (gset (gset g10 92 8 (wr ((g10 92 8) + 1))) 92 17 (wr ((g10 92 17) + 1))) 92 18 (jor (g10 92 18) (jor (jshl 1 (wr (q1.1 - 65))) (jshl 1 (wr (q7.1 - 65)))))))))
                else
                  some (0, q8.2)))
              else
                some (0, q6.2)))
          else
            some (0, q4.2))
        else
          Option.bind (Md_opens 1 (wr (q1.1 - 65)) 1 (q3.2 92 16) q3.2) (fun q11 =>
          if ¬ q11.1 = 0 then
            some (1, (gset (gset q11.2 92 16 (wr ((q11.2 92 16) + 1))) 92 18 (jor (q11.2 92 18) (jshl 1 (wr (q1.1 - 65))))))
          else
            some (0, q11.2)))
      else
        some (0, q2.2))
    else
      Option.bind (Md_opens 3 0 (wr (q1.1 - 48)) 0 (gset q1.2 92 8 (wr ((q1.2 92 8) + 1)))) (fun q12 =>
      if q12.1 = 0 ∨ q12.1 = 1 then some (q12.1, q12.2) else none)
  else
    some (1, (gset q1.2 92 8 (wr ((q1.2 92 8) + 1)))))
def Md_wayMore (g : Gx) : Option (Int × Gx) :=
  if (g 92 20) = 0 then
    some (0, g)
  else
    if 0 ≤ (wr ((g 92 20) - 1)) ∧ (wr ((g 92 20) - 1)) < 4 then
    if 0 ≤ (g 105 (wr ((g 92 20) - 1)).toNat) ∧ (g 105 (wr ((g 92 20) - 1)).toNat) < 170 then
    if ¬ (g 99 (g 105 (wr ((g 92 20) - 1)).toNat).toNat) = 1 then
      some (0, g)
    else
      if 0 ≤ (wr ((g 92 20) - 1)) ∧ (wr ((g 92 20) - 1)) < 4 then
      if 0 ≤ (g 105 (wr ((g 92 20) - 1)).toNat) ∧ (g 105 (wr ((g 92 20) - 1)).toNat) < 170 then
      if ¬ (g 101 (g 105 (wr ((g 92 20) - 1)).toNat).toNat) = 4 then
        if 0 ≤ (wr ((g 92 20) - 1)) ∧ (wr ((g 92 20) - 1)) < 4 then
        Option.bind (Md_act 2 0 0 (g 105 (wr ((g 92 20) - 1)).toNat) g) (fun g1 =>
        if 0 ≤ (g 105 (wr ((g 92 20) - 1)).toNat) ∧ (g 105 (wr ((g 92 20) - 1)).toNat) < 170 then
        if 0 ≤ (wr ((wr (4 * (g 105 (wr ((g 92 20) - 1)).toNat))) + (g1 101 (g 105 (wr ((g 92 20) - 1)).toNat).toNat))) ∧ (wr ((wr (4 * (g 105 (wr ((g 92 20) - 1)).toNat))) + (g1 101 (g 105 (wr ((g 92 20) - 1)).toNat).toNat))) < 680 then
        if 0 ≤ (g 105 (wr ((g 92 20) - 1)).toNat) ∧ (g 105 (wr ((g 92 20) - 1)).toNat) < 170 then
        if 0 ≤ (g 105 (wr ((g 92 20) - 1)).toNat) ∧ (g 105 (wr ((g 92 20) - 1)).toNat) < 170 then
        some (1, (gset (gset (gset g1 104 ((wr ((wr (4 * (g 105 (wr ((g 92 20) - 1)).toNat))) + (g1 101 (g 105 (wr ((g 92 20) - 1)).toNat).toNat))).toNat) (g1 92 9)) 101 ((g 105 (wr ((g 92 20) - 1)).toNat).toNat) (wr ((g1 101 (g 105 (wr ((g 92 20) - 1)).toNat).toNat) + 1))) 92 8 (wr ((g1 92 8) + 1))))
        else none
        else none
        else none
        else none)
        else none
      else
        some (0, g)
      else none
      else none
    else none
    else none
def Md_closes (g : Gx) : Option (Int × Gx) :=
  if ¬ (g 92 20) = 0 then
    if 0 ≤ (wr ((g 92 20) - 1)) ∧ (wr ((g 92 20) - 1)) < 4 then
    if 0 ≤ (g 105 (wr ((g 92 20) - 1)).toNat) ∧ (g 105 (wr ((g 92 20) - 1)).toNat) < 170 then
    if ¬ (g 99 (g 105 (wr ((g 92 20) - 1)).toNat).toNat) = 1 then
      if 0 ≤ (g 105 (wr ((g 92 20) - 1)).toNat) ∧ (g 105 (wr ((g 92 20) - 1)).toNat) < 170 then
      if ¬ (g 99 (g 105 (wr ((g 92 20) - 1)).toNat).toNat) = 3 then
        if 0 ≤ (g 105 (wr ((g 92 20) - 1)).toNat) ∧ (g 105 (wr ((g 92 20) - 1)).toNat) < 170 then
        some (1, (gset (gset (gset g 103 ((g 105 (wr ((g 92 20) - 1)).toNat).toNat) (g 92 9)) 92 20 (wr ((g 92 20) - 1))) 92 8 (wr ((g 92 8) + 1))))
        else none
      else
        Option.bind (Md_act 4 0 0 (g 105 (wr ((g 92 20) - 1)).toNat) g) (fun g1 =>
        if 0 ≤ (g 105 (wr ((g 92 20) - 1)).toNat) ∧ (g 105 (wr ((g 92 20) - 1)).toNat) < 170 then
        some (1, (gset (gset (gset g1 103 ((g 105 (wr ((g 92 20) - 1)).toNat).toNat) (g1 92 9)) 92 20 (wr ((g1 92 20) - 1))) 92 8 (wr ((g1 92 8) + 1))))
        else none)
      else none
    else
      if 0 ≤ (g 105 (wr ((g 92 20) - 1)).toNat) ∧ (g 105 (wr ((g 92 20) - 1)).toNat) < 170 then
      if ¬ (g 101 (g 105 (wr ((g 92 20) - 1)).toNat).toNat) = 1 then
        if 0 ≤ (g 105 (wr ((g 92 20) - 1)).toNat) ∧ (g 105 (wr ((g 92 20) - 1)).toNat) < 170 then
        if ¬ (g 99 (g 105 (wr ((g 92 20) - 1)).toNat).toNat) = 3 then
          if 0 ≤ (g 105 (wr ((g 92 20) - 1)).toNat) ∧ (g 105 (wr ((g 92 20) - 1)).toNat) < 170 then
          some (1, (gset (gset (gset g 103 ((g 105 (wr ((g 92 20) - 1)).toNat).toNat) (g 92 9)) 92 20 (wr ((g 92 20) - 1))) 92 8 (wr ((g 92 8) + 1))))
          else none
        else
          Option.bind (Md_act 4 0 0 (g 105 (wr ((g 92 20) - 1)).toNat) g) (fun g2 =>
          if 0 ≤ (g 105 (wr ((g 92 20) - 1)).toNat) ∧ (g 105 (wr ((g 92 20) - 1)).toNat) < 170 then
          some (1, (gset (gset (gset g2 103 ((g 105 (wr ((g 92 20) - 1)).toNat).toNat) (g2 92 9)) 92 20 (wr ((g2 92 20) - 1))) 92 8 (wr ((g2 92 8) + 1))))
          else none)
        else none
      else
        some (0, g)
      else none
    else none
    else none
  else
    some (0, g)
def Md_reads_l32 (K32_156 : Gx → Option (Int × Gx)) (K32_161 : Gx → Option (Int × Gx)) : Nat → Int → Gx → Option (Int × Gx)
  | 0, _, _ => none
  | n32 + 1, v1, g =>
    if ¬ v1 = 0 then
      if v1 = 0 then
        Option.bind (Md_here 0 g) (fun q1 =>
        if ¬ q1.1 = 44 then
          Option.bind (Md_here 0 q1.2) (fun q2 =>
          if ¬ q2.1 = 124 then
            Option.bind (Md_here 0 q2.2) (fun q3 =>
            if ¬ q3.1 = 41 then
              K32_156 q3.2
            else
              Option.bind (Md_closes q3.2) (fun q4 =>
              if ¬ q4.1 = 0 then
                Md_reads_l32 K32_156 K32_161 n32 v1 q4.2
              else
                K32_156 q4.2))
          else
            Option.bind (Md_wayMore q2.2) (fun q5 =>
            if ¬ q5.1 = 0 then
              Md_reads_l32 K32_156 K32_161 n32 1 q5.2
            else
              some ((q5.2 92 8), q5.2)))
        else
          Md_reads_l32 K32_156 K32_161 n32 1 (gset q1.2 92 8 (wr ((q1.2 92 8) + 1))))
      else
        Option.bind (Md_readsItem g) (fun q6 =>
        if ¬ q6.1 = 0 then
          if (q6.2 92 20) ≤ (g 92 20) then
            Md_reads_l32 K32_156 K32_161 n32 0 q6.2
          else
            Md_reads_l32 K32_156 K32_161 n32 1 q6.2
        else
          some ((q6.2 92 8), q6.2))
    else
      if (g 98 0) ≤ (g 92 8) then
        K32_161 g
      else
        if v1 = 0 then
          Option.bind (Md_here 0 g) (fun q7 =>
          if ¬ q7.1 = 44 then
            Option.bind (Md_here 0 q7.2) (fun q8 =>
            if ¬ q8.1 = 124 then
              Option.bind (Md_here 0 q8.2) (fun q9 =>
              if ¬ q9.1 = 41 then
                K32_156 q9.2
              else
                Option.bind (Md_closes q9.2) (fun q10 =>
                if ¬ q10.1 = 0 then
                  Md_reads_l32 K32_156 K32_161 n32 v1 q10.2
                else
                  K32_156 q10.2))
            else
              Option.bind (Md_wayMore q8.2) (fun q11 =>
              if ¬ q11.1 = 0 then
                Md_reads_l32 K32_156 K32_161 n32 1 q11.2
              else
                some ((q11.2 92 8), q11.2)))
          else
            Md_reads_l32 K32_156 K32_161 n32 1 (gset q7.2 92 8 (wr ((q7.2 92 8) + 1))))
        else
          Option.bind (Md_readsItem g) (fun q12 =>
          if ¬ q12.1 = 0 then
            if (q12.2 92 20) ≤ (g 92 20) then
              Md_reads_l32 K32_156 K32_161 n32 0 q12.2
            else
              Md_reads_l32 K32_156 K32_161 n32 1 q12.2
          else
            some ((q12.2 92 8), q12.2))
def Md_reads (g : Gx) : Option (Int × Gx) :=
  Md_reads_l32
    (fun g13 =>
      some ((g13 92 8), g13))
    (fun g14 =>
      if ¬ (g14 92 20) = 0 then
        some ((g14 92 8), g14)
      else
        some ((-1), g14))
    fu 1 (gset (gset (gset (gset (gset (gset g 92 8 0) 92 9 0) 92 16 0) 92 17 0) 92 18 0) 92 20 0)
def Md_readsProgram_l17 (K17_251 : Gx → Option (Int × Gx)) : Nat → Gx → Option (Int × Gx)
  | 0, _ => none
  | n17 + 1, g =>
    if (g 98 1) ≤ (g 92 8) then
      K17_251 g
    else
      Option.bind (Md_here 1 g) (fun q1 =>
      if ¬ q1.1 = 124 then
        Option.bind (Md_here 1 q1.2) (fun q2 =>
        if q2.1 = 33 then
          Option.bind (Md_isTalker 1 (gset q2.2 92 8 (wr ((q2.2 92 8) + 1)))) (fun q3 =>
          if ¬ q3.1 = 0 then
            if 0 ≤ (wr ((q3.2 92 21) - 1)) ∧ (wr ((q3.2 92 21) - 1)) < 8 then
            if 0 ≤ (wr ((wr (30 * (wr ((q3.2 92 21) - 1)))) + (q3.2 106 (wr ((q3.2 92 21) - 1)).toNat))) ∧ (wr ((wr (30 * (wr ((q3.2 92 21) - 1)))) + (q3.2 106 (wr ((q3.2 92 21) - 1)).toNat))) < 240 then
            Option.bind (Md_here 1 (gset q3.2 107 ((wr ((wr (30 * (wr ((q3.2 92 21) - 1)))) + (q3.2 106 (wr ((q3.2 92 21) - 1)).toNat))).toNat) q2.1)) (fun q4 =>
            if 0 ≤ (wr ((wr (30 * (wr ((q3.2 92 21) - 1)))) + (q3.2 106 (wr ((q3.2 92 21) - 1)).toNat))) ∧ (wr ((wr (30 * (wr ((q3.2 92 21) - 1)))) + (q3.2 106 (wr ((q3.2 92 21) - 1)).toNat))) < 240 then
            Option.bind (Md_here 1 (gset (gset q4.2 108 ((wr ((wr (30 * (wr ((q3.2 92 21) - 1)))) + (q3.2 106 (wr ((q3.2 92 21) - 1)).toNat))).toNat) (wr (q4.1 - 65))) 92 8 (wr ((q4.2 92 8) + 1)))) (fun q5 =>
            if ¬ (Md_in q5.1 97 122) = 0 then
              Option.bind (Md_here 1 q5.2) (fun q6 =>
              if 0 ≤ (wr ((wr (30 * (wr ((q3.2 92 21) - 1)))) + (q3.2 106 (wr ((q3.2 92 21) - 1)).toNat))) ∧ (wr ((wr (30 * (wr ((q3.2 92 21) - 1)))) + (q3.2 106 (wr ((q3.2 92 21) - 1)).toNat))) < 240 then
              if 0 ≤ (wr ((q6.2 92 21) - 1)) ∧ (wr ((q6.2 92 21) - 1)) < 8 then
              if 0 ≤ (wr ((q6.2 92 21) - 1)) ∧ (wr ((q6.2 92 21) - 1)) < 8 then
              Md_readsProgram_l17 K17_251 n17 (gset (gset (gset q6.2 109 ((wr ((wr (30 * (wr ((q3.2 92 21) - 1)))) + (q3.2 106 (wr ((q3.2 92 21) - 1)).toNat))).toNat) (wr (q6.1 - 97))) 106 ((wr ((q6.2 92 21) - 1)).toNat) (wr ((q6.2 106 (wr ((q6.2 92 21) - 1)).toNat) + 1))) 92 8 (wr ((q6.2 92 8) + 1)))
              else none
              else none
              else none)
            else
              some ((q5.2 92 8), q5.2))
            else none)
            else none
            else none
          else
            some ((q3.2 92 8), q3.2))
        else
          if q2.1 = 63 then
            Option.bind (Md_isTalker 1 (gset q2.2 92 8 (wr ((q2.2 92 8) + 1)))) (fun q7 =>
            if ¬ q7.1 = 0 then
              if 0 ≤ (wr ((q7.2 92 21) - 1)) ∧ (wr ((q7.2 92 21) - 1)) < 8 then
              if 0 ≤ (wr ((wr (30 * (wr ((q7.2 92 21) - 1)))) + (q7.2 106 (wr ((q7.2 92 21) - 1)).toNat))) ∧ (wr ((wr (30 * (wr ((q7.2 92 21) - 1)))) + (q7.2 106 (wr ((q7.2 92 21) - 1)).toNat))) < 240 then
              Option.bind (Md_here 1 (gset q7.2 107 ((wr ((wr (30 * (wr ((q7.2 92 21) - 1)))) + (q7.2 106 (wr ((q7.2 92 21) - 1)).toNat))).toNat) q2.1)) (fun q8 =>
              if 0 ≤ (wr ((wr (30 * (wr ((q7.2 92 21) - 1)))) + (q7.2 106 (wr ((q7.2 92 21) - 1)).toNat))) ∧ (wr ((wr (30 * (wr ((q7.2 92 21) - 1)))) + (q7.2 106 (wr ((q7.2 92 21) - 1)).toNat))) < 240 then
              Option.bind (Md_here 1 (gset (gset q8.2 108 ((wr ((wr (30 * (wr ((q7.2 92 21) - 1)))) + (q7.2 106 (wr ((q7.2 92 21) - 1)).toNat))).toNat) (wr (q8.1 - 65))) 92 8 (wr ((q8.2 92 8) + 1)))) (fun q9 =>
              if ¬ (Md_in q9.1 97 122) = 0 then
                Option.bind (Md_here 1 q9.2) (fun q10 =>
                if 0 ≤ (wr ((wr (30 * (wr ((q7.2 92 21) - 1)))) + (q7.2 106 (wr ((q7.2 92 21) - 1)).toNat))) ∧ (wr ((wr (30 * (wr ((q7.2 92 21) - 1)))) + (q7.2 106 (wr ((q7.2 92 21) - 1)).toNat))) < 240 then
                if 0 ≤ (wr ((q10.2 92 21) - 1)) ∧ (wr ((q10.2 92 21) - 1)) < 8 then
                if 0 ≤ (wr ((q10.2 92 21) - 1)) ∧ (wr ((q10.2 92 21) - 1)) < 8 then
                Md_readsProgram_l17 K17_251 n17 (gset (gset (gset q10.2 109 ((wr ((wr (30 * (wr ((q7.2 92 21) - 1)))) + (q7.2 106 (wr ((q7.2 92 21) - 1)).toNat))).toNat) (wr (q10.1 - 97))) 106 ((wr ((q10.2 92 21) - 1)).toNat) (wr ((q10.2 106 (wr ((q10.2 92 21) - 1)).toNat) + 1))) 92 8 (wr ((q10.2 92 8) + 1)))
                else none
                else none
                else none)
              else
                some ((q9.2 92 8), q9.2))
              else none)
              else none
              else none
            else
              some ((q7.2 92 8), q7.2))
          else
            some ((q2.2 92 8), q2.2))
      else
        if ¬ (q1.2 92 21) = 8 then
          if 0 ≤ (q1.2 92 21) ∧ (q1.2 92 21) < 8 then
          Md_readsProgram_l17 K17_251 n17 (gset (gset (gset q1.2 106 ((q1.2 92 21).toNat) 0) 92 21 (wr ((q1.2 92 21) + 1))) 92 8 (wr ((q1.2 92 8) + 1)))
          else none
        else
          some ((q1.2 92 8), q1.2))
def Md_readsProgram (g : Gx) : Option (Int × Gx) :=
  Md_readsProgram_l17
    (fun g11 =>
      some ((-1), g11))
    fu (gset (gset (gset g 92 8 0) 92 21 1) 106 0 0)
def Md_fault (a1 : Int) (g : Gx) : Option (Int × Gx) :=
  if (Md_in a1 0 1) = 0 then
    some ((-2), g)
  else
    if ¬ a1 = 0 then
      Option.bind (Md_readsProgram g) (fun q1 =>
      some (q1.1, q1.2))
    else
      Option.bind (Md_reads g) (fun q2 =>
      some (q2.1, q2.2))
def St_choices (g : Gx) : Int :=
  (g 7 11)
def Pr_used (g : Gx) : Int :=
  (g 28 7)
def Pr_sayings (g : Gx) : Int :=
  (g 28 8)
def Op_plan (a1 : Int) (g : Gx) : Option (Int × Gx) :=
  if a1 < 0 then
    some ((-2), g)
  else
    if a1 ≤ 2 then
      Option.bind (Pr_firstFault g) (fun q1 =>
      if q1.1 = (-1) then
        if ¬ a1 = 0 then
          if ¬ a1 = 1 then
            some ((Pr_sayings q1.2), q1.2)
          else
            some ((Pr_used q1.2), q1.2)
        else
          some ((St_choices q1.2), q1.2)
      else
        some ((-3), q1.2))
    else
      some ((-2), g)
def Md_plan (a1 : Int) (g : Gx) : Option (Int × Gx) :=
  if ¬ (Md_in a1 0 2) = 0 then
    Option.bind (Md_reads g) (fun q1 =>
    if q1.1 = (-1) then
      if ¬ a1 = 0 then
        if ¬ a1 = 1 then
          some ((q1.2 92 17), q1.2)
        else
          some ((q1.2 92 18), q1.2)
      else
        some ((q1.2 92 16), q1.2)
    else
      some ((-3), q1.2))
  else
    some ((-2), g)
def Op_tell (a1 : Int) (g : Gx) : Int × Gx :=
  if a1 < 0 then
    ((-2), g)
  else
    if a1 ≤ 1073741823 then
      ((g 0 11), (gset g 0 11 a1))
    else
      ((-2), g)
def Md_tell (a1 : Int) (g : Gx) : Int × Gx :=
  if ¬ (Md_in a1 0 1073741823) = 0 then
    ((g 92 7), (gset g 92 7 a1))
  else
    ((-2), g)
def St_version (g : Gx) : Int :=
  (g 7 12)
def St_beginItems (a1 : Int) (g : Gx) : Gx :=
  (rset (rset g 21 5 a1 1) 23 5 a1 0)
def St_upTo (a0 a1 : Int) : Int :=
  if a0 ≤ a1 then
    a0
  else
    a1
def St_endWay (a1 : Int) (g : Gx) : Gx :=
  if (rat g 23 5 a1) ≤ (rat g 27 5 a1) then
    lett (St_beginItems a1 (rset g 25 5 a1 (St_upTo 31 (wr ((rat g 25 5 a1) + (rat g 21 5 a1)))))) (fun g1 =>
    g1)
  else
    lett (St_beginItems a1 (rset (rset g 25 5 a1 (St_upTo 31 (wr ((rat g 25 5 a1) + (rat g 21 5 a1))))) 27 5 a1 (rat g 23 5 a1))) (fun g2 =>
    g2)
def St_toldOf (a1 a2 : Int) (g : Gx) : Int :=
  if a1 < 0 then
    0
  else
    if a1 < 5 then
      (jand (jshr a2 (wr (a1 * 6))) (jand 63 (jxor (jshl 1 (rat g 13 40 a1)) (-1))))
    else
      0
def Ji_bitCount (a0 : Int) : Int :=
  (jand (wr ((wr ((jand (wr ((wr ((jand (wr (a0 - (jand (jushr a0 1) 1431655765))) 858993459) + (jand (jushr (wr (a0 - (jand (jushr a0 1) 1431655765))) 2) 858993459))) + (jushr (wr ((jand (wr (a0 - (jand (jushr a0 1) 1431655765))) 858993459) + (jand (jushr (wr (a0 - (jand (jushr a0 1) 1431655765))) 2) 858993459))) 4))) 252645135) + (jushr (jand (wr ((wr ((jand (wr (a0 - (jand (jushr a0 1) 1431655765))) 858993459) + (jand (jushr (wr (a0 - (jand (jushr a0 1) 1431655765))) 2) 858993459))) + (jushr (wr ((jand (wr (a0 - (jand (jushr a0 1) 1431655765))) 858993459) + (jand (jushr (wr (a0 - (jand (jushr a0 1) 1431655765))) 2) 858993459))) 4))) 252645135) 8))) + (jushr (wr ((jand (wr ((wr ((jand (wr (a0 - (jand (jushr a0 1) 1431655765))) 858993459) + (jand (jushr (wr (a0 - (jand (jushr a0 1) 1431655765))) 2) 858993459))) + (jushr (wr ((jand (wr (a0 - (jand (jushr a0 1) 1431655765))) 858993459) + (jand (jushr (wr (a0 - (jand (jushr a0 1) 1431655765))) 2) 858993459))) 4))) 252645135) + (jushr (jand (wr ((wr ((jand (wr (a0 - (jand (jushr a0 1) 1431655765))) 858993459) + (jand (jushr (wr (a0 - (jand (jushr a0 1) 1431655765))) 2) 858993459))) + (jushr (wr ((jand (wr (a0 - (jand (jushr a0 1) 1431655765))) 858993459) + (jand (jushr (wr (a0 - (jand (jushr a0 1) 1431655765))) 2) 858993459))) 4))) 252645135) 8))) 16))) 63)
def St_addItem (a1 a2 a3 : Int) (g : Gx) : Gx :=
  (rset (rset g 21 5 a1 (St_upTo 31 (wr ((rat g 21 5 a1) * a2)))) 23 5 a1 (St_upTo 25 (wr ((rat g 23 5 a1) + a3))))
def St_isTooMuch_l182 (c1 : Int) (c2 : Int) (c3 : Int) (K182_226 : Gx → Option (Int × Gx)) : Nat → Int → Gx → Option (Int × Gx)
  | 0, _, _ => none
  | n182 + 1, v5, g =>
    if (rat g 11 160 c3) ≤ v5 then
      K182_226 g
    else
      lett (St_addItem c2 (rat g 21 5 (wr (c2 + 1))) (rat g 23 5 (wr (c2 + 1))) g) (fun g3 =>
      St_isTooMuch_l182 c1 c2 c3 K182_226 n182 (wr (v5 + 1)) g3)
def St_isTooMuch_l9 (c1 : Int) (K9_232 : Gx → Option (Int × Gx)) : Nat → Int → Int → Gx → Option (Int × Gx)
  | 0, _, _, _ => none
  | n9 + 1, v2, v3, g =>
    if (g 7 10) ≤ v3 then
      K9_232 g
    else
      if ¬ (rat g 9 160 v3) = 0 then
        if (rat g 9 160 v3) = 1 then
          lett (St_beginItems (wr (v2 + 1)) g) (fun g2 =>
          St_isTooMuch_l9 c1 K9_232 n9 (wr (v2 + 1)) (wr (v3 + 1)) (rset (rset g2 25 5 (wr (v2 + 1)) 0) 27 5 (wr (v2 + 1)) 0))
        else
          if ¬ (rat g 9 160 v3) = 4 then
            if ¬ (rat g 9 160 v3) = 2 then
              if ¬ (rat g 9 160 v3) = 3 then
                St_isTooMuch_l182 c1 (wr (v2 + (-1))) v3
                  (fun g4 =>
                    St_isTooMuch_l9 c1 K9_232 n9 (wr (v2 + (-1))) (wr (v3 + 1)) g4)
                  fu 0 g
              else
                lett (St_endWay v2 g) (fun g5 =>
                lett (St_addItem (wr (v2 + (-1))) (rat g5 25 5 (wr ((wr (v2 + (-1))) + 1))) (wr ((rat g5 27 5 (wr ((wr (v2 + (-1))) + 1))) + (Ji_bitCount (St_toldOf (rat g5 11 160 v3) c1 g5)))) g5) (fun g6 =>
                St_isTooMuch_l9 c1 K9_232 n9 (wr (v2 + (-1))) (wr (v3 + 1)) g6))
            else
              lett (St_endWay v2 g) (fun g7 =>
              St_isTooMuch_l9 c1 K9_232 n9 v2 (wr (v3 + 1)) g7)
          else
            lett (St_beginItems (wr (v2 + 1)) g) (fun g8 =>
            St_isTooMuch_l9 c1 K9_232 n9 (wr (v2 + 1)) (wr (v3 + 1)) (rset (rset g8 25 5 (wr (v2 + 1)) 0) 27 5 (wr (v2 + 1)) 0))
      else
        St_isTooMuch_l9 c1 K9_232 n9 v2 (wr (v3 + 1)) (rset g 23 5 v2 (St_upTo 25 (wr ((rat g 23 5 v2) + 1))))
def St_isTooMuch (a1 : Int) (g : Gx) : Option (Int × Gx) :=
  lett (St_beginItems 0 g) (fun g1 =>
  St_isTooMuch_l9 a1
    (fun g9 =>
      if 30 < (rat g9 21 5 0) then
        some (1, g9)
      else
        if (rat g9 23 5 0) ≤ 24 then
          some (0, g9)
        else
          some (1, g9))
    fu 0 0 g1)
def St_value (a1 : Int) (g : Gx) : Int :=
  (rat g 11 160 a1)
def St_kind (a1 : Int) (g : Gx) : Int :=
  (rat g 9 160 a1)
def Hi_say (a1 a2 : Int) (g : Gx) : Gx :=
  if 24 ≤ (rat g 37 30 a1) then
    g
  else
    (rset (rset g 35 720 (wr ((wr (a1 * 24)) + (rat g 37 30 a1))) a2) 37 30 a1 (wr ((rat g 37 30 a1) + 1)))
def Op_has (a0 a1 : Int) : Int :=
  if (jand (jshr a0 a1) 1) = 0 then
    0
  else
    1
theorem bo_Op_has (a0 a1 : Int) : (Op_has a0 a1) = 0 ∨ (Op_has a0 a1) = 1 := by
  simp only [Op_has, lett]
  (repeat' split) <;> first | exact Or.inl rfl | exact Or.inr rfl | exact Or.inl trivial | exact Or.inr trivial
def St_chooser (a1 : Int) (g : Gx) : Int :=
  (rat g 13 40 a1)
def Hi_choose_l82 (c1 : Int) (c2 : Int) (c4 : Int) (c5 : Int) (K82_134 : Gx → Option (Int × Gx)) : Nat → Int → Gx → Option (Int × Gx)
  | 0, _, _ => none
  | n82 + 1, v6, g =>
    if 6 ≤ v6 then
      K82_134 g
    else
      if (Op_has c5 v6) = 0 then
        Hi_choose_l82 c1 c2 c4 c5 K82_134 n82 (wr (v6 + 1)) g
      else
        lett (Hi_say c1 (wr ((wr ((wr ((wr (1000 * (St_chooser c2 g))) + (wr (100 * v6)))) + 26)) + c4)) g) (fun g1 =>
        Hi_choose_l82 c1 c2 c4 c5 K82_134 n82 (wr (v6 + 1)) g1)
def Hi_choose (a1 a2 a3 : Int) (g : Gx) : Option (Int × Gx) :=
  if (g 33 11) < (g 33 10) then
    Hi_choose_l82 a1 a2 (rat g 39 30 (g 33 11)) (St_toldOf a2 a3 (gset g 33 11 (wr ((g 33 11) + 1))))
      (fun g2 =>
        some ((rat g 39 30 (g 33 11)), g2))
      fu 0 (gset g 33 11 (wr ((g 33 11) + 1)))
  else
    Hi_choose_l82 a1 a2 (rat (rset g 39 30 (g 33 11) 0) 39 30 (g 33 11)) (St_toldOf a2 a3 (gset (gset (rset (rset g 39 30 (g 33 11) 0) 41 30 (g 33 11) a2) 33 10 (wr ((g 33 11) + 1))) 33 11 (wr ((g 33 11) + 1))))
      (fun g3 =>
        some ((rat (rset g 39 30 (g 33 11) 0) 39 30 (g 33 11)), g3))
      fu 0 (gset (gset (rset (rset g 39 30 (g 33 11) 0) 41 30 (g 33 11) a2) 33 10 (wr ((g 33 11) + 1))) 33 11 (wr ((g 33 11) + 1)))
def St_wayStart (a1 a2 : Int) (g : Gx) : Int :=
  (rat g 17 160 (wr ((wr (a1 * 4)) + a2)))
def St_end (a1 : Int) (g : Gx) : Int :=
  (rat g 19 40 a1)
def Hi_beginRounds (a1 a2 : Int) (g : Gx) : Gx :=
  (gset (rset (rset g 47 4 (g 33 12) a1) 49 4 (g 33 12) (wr (a2 - 1))) 33 12 (wr ((g 33 12) + 1)))
def Hi_endRound (a1 : Int) (g : Gx) : Int × Gx :=
  if (rat g 49 4 (wr ((g 33 12) - 1))) ≤ 0 then
    (a1, (gset g 33 12 (wr ((g 33 12) - 1))))
  else
    ((rat g 47 4 (wr ((g 33 12) - 1))), (radd g 49 4 (wr ((g 33 12) - 1)) (-1)))
def Hi_walk_l24 (c1 : Int) (c2 : Int) (K24_180 : Gx → Option Gx) : Nat → Int → Int → Gx → Option Gx
  | 0, _, _, _ => none
  | n24 + 1, v3, v4, g =>
    if 1000000 ≤ v4 then
      K24_180 g
    else
      if (St_size g) ≤ v3 then
        K24_180 g
      else
        if (St_kind v3 g) < 0 ∨ 5 < (St_kind v3 g) then
          Hi_walk_l24 c1 c2 K24_180 n24 (wr (v3 + 1)) (wr (v4 + 1)) g
        else if (St_kind v3 g) = 0 then
          lett (Hi_say c1 (St_value v3 g) g) (fun g1 =>
          Hi_walk_l24 c1 c2 K24_180 n24 (wr (v3 + 1)) (wr (v4 + 1)) g1)
        else if (St_kind v3 g) = 1 then
          Option.bind (Hi_choose c1 (St_value v3 g) c2 g) (fun q2 =>
          Hi_walk_l24 c1 c2 K24_180 n24 (St_wayStart (St_value v3 g) q2.1 q2.2) (wr (v4 + 1)) q2.2)
        else if (St_kind v3 g) = 2 then
          Hi_walk_l24 c1 c2 K24_180 n24 (St_end (St_value v3 g) g) (wr (v4 + 1)) g
        else if (St_kind v3 g) = 3 then
          Hi_walk_l24 c1 c2 K24_180 n24 (wr (v3 + 1)) (wr (v4 + 1)) g
        else if (St_kind v3 g) = 4 then
          lett (Hi_beginRounds (wr (v3 + 1)) (St_value v3 g) g) (fun g3 =>
          Hi_walk_l24 c1 c2 K24_180 n24 (wr (v3 + 1)) (wr (v4 + 1)) g3)
        else
          lett (Hi_endRound (wr (v3 + 1)) g) (fun q4 =>
          Hi_walk_l24 c1 c2 K24_180 n24 q4.1 (wr (v4 + 1)) q4.2)
def Hi_walk (a1 a2 : Int) (g : Gx) : Option Gx :=
  Hi_walk_l24 a1 a2
    (fun g5 =>
      some g5)
    fu 0 0 (gset (gset (rset g 37 30 a1 0) 33 11 0) 33 12 0)
def Hi_turn_l7 (c1 : Int) (K7_90 : Gx → Option (Int × Gx)) : Nat → Int → Gx → Option (Int × Gx)
  | 0, _, _ => none
  | n7 + 1, v2, g =>
    if v2 < 0 then
      K7_90 g
    else
      if (St_wayCount (rat g 41 30 v2) g) ≤ (wr ((rat g 39 30 v2) + 1)) then
        Hi_turn_l7 c1 K7_90 n7 (wr (v2 + (-1))) g
      else
        some (1, (rset (rset (gset (radd g 39 30 v2 1) 33 10 (wr (v2 + 1))) 43 30 c1 v2) 45 30 c1 (St_chooser (rat g 41 30 v2) (rset (gset (radd g 39 30 v2 1) 33 10 (wr (v2 + 1))) 43 30 c1 v2))))
def Hi_turn (a1 : Int) (g : Gx) : Option (Int × Gx) :=
  Hi_turn_l7 a1
    (fun g1 =>
      some (0, g1))
    fu (wr ((g 33 11) - 1)) g
def Hi_make_l96 (c1 : Int) (K96_140 : Gx → Option (Int × Gx)) : Nat → Int → Gx → Option (Int × Gx)
  | 0, _, _ => none
  | n96 + 1, v2, g =>
    if v2 = 0 then
      K96_140 g
    else
      if 30 ≤ (g 33 9) then
        K96_140 g
      else
        Option.bind (Hi_walk (g 33 9) c1 g) (fun g2 =>
        Option.bind (Hi_turn (g2 33 9) g2) (fun q3 =>
        Hi_make_l96 c1 K96_140 n96 q3.1 (gset q3.2 33 9 (wr ((q3.2 33 9) + 1)))))
def Hi_make (a1 : Int) (g : Gx) : Option (Int × Gx) :=
  if ¬ (g 33 13) = (St_version g) then
    Option.bind (St_isTooMuch a1 (gset (gset (gset (gset (gset g 33 13 (St_version g)) 33 14 a1) 33 16 (wr ((g 33 16) + 1))) 33 9 0) 33 10 0)) (fun q1 =>
    if q1.1 = 0 ∨ q1.1 = 1 then
    if ¬ q1.1 = 0 then
      Hi_make_l96 a1
        (fun g4 =>
          if ¬ (g4 33 15) = 0 then
            some (0, g4)
          else
            some (1, g4))
        fu 0 (gset q1.2 33 15 q1.1)
    else
      Hi_make_l96 a1
        (fun g5 =>
          if ¬ (g5 33 15) = 0 then
            some (0, g5)
          else
            some (1, g5))
        fu 1 (gset q1.2 33 15 q1.1)
    else none)
  else
    if ¬ (g 33 14) = a1 then
      Option.bind (St_isTooMuch a1 (gset (gset (gset (gset (gset g 33 13 (St_version g)) 33 14 a1) 33 16 (wr ((g 33 16) + 1))) 33 9 0) 33 10 0)) (fun q6 =>
      if q6.1 = 0 ∨ q6.1 = 1 then
      if ¬ q6.1 = 0 then
        Hi_make_l96 a1
          (fun g7 =>
            if ¬ (g7 33 15) = 0 then
              some (0, g7)
            else
              some (1, g7))
          fu 0 (gset q6.2 33 15 q6.1)
      else
        Hi_make_l96 a1
          (fun g8 =>
            if ¬ (g8 33 15) = 0 then
              some (0, g8)
            else
              some (1, g8))
          fu 1 (gset q6.2 33 15 q6.1)
      else none)
    else
      if ¬ (g 33 15) = 0 then
        some (0, g)
      else
        some (1, g)
def Hi_size (g : Gx) : Int :=
  (g 33 9)
def Op_hindrance (a1 : Int) (g : Gx) : Option (Int × Gx) :=
  Option.bind (Pr_firstFault g) (fun q1 =>
  if q1.1 = (-1) then
    Option.bind (Hi_make (q1.2 0 11) q1.2) (fun q2 =>
    if ¬ q2.1 = 0 then
      if (Hi_size q2.2) ≤ a1 then
        some ((-2), q2.2)
      else
        some (0, q2.2)
    else
      some ((-4), q2.2))
  else
    some ((-3), q1.2))
def Op_histories (g : Gx) : Option (Int × Gx) :=
  Option.bind (Op_hindrance 0 g) (fun q1 =>
  if q1.1 = 0 then
    some ((Hi_size q1.2), q1.2)
  else
    some (q1.1, q1.2))
def Md_says (a1 a2 a3 : Int) (g : Gx) : Option (Int × Gx) :=
  if ¬ (g 92 36) = 24 then
    if 30 ≤ (g 92 26) then
      some (1, (gset g 92 36 (wr ((g 92 36) + 1))))
    else
      if 0 ≤ (wr ((wr (24 * (g 92 26))) + (g 92 36))) ∧ (wr ((wr (24 * (g 92 26))) + (g 92 36))) < 720 then
      some (1, (gset (gset g 111 ((wr ((wr (24 * (g 92 26))) + (g 92 36))).toNat) (wr ((wr ((wr (1000 * a1)) + (wr (100 * a2)))) + a3))) 92 36 (wr ((g 92 36) + 1))))
      else none
  else
    some (0, g)
def Md_chooses_l67 (c1 : Int) (c3 : Int) (K67_160 : Int → Gx → Option (Int × Gx)) : Nat → Int → Int → Gx → Option (Int × Gx)
  | 0, _, _, _ => none
  | n67 + 1, v4, v5, g =>
    if 6 ≤ v5 then
      K67_160 v4 g
    else
      if 0 ≤ c1 ∧ c1 < 170 then
      if 5 ≤ (g 102 c1.toNat) then
        K67_160 v4 g
      else
        if 0 ≤ c1 ∧ c1 < 170 then
        if v5 = (g 100 c1.toNat) then
          Md_chooses_l67 c1 c3 K67_160 n67 v4 (wr (v5 + 1)) g
        else
          if 0 ≤ c1 ∧ c1 < 170 then
          if ¬ (jand (jshr c3 (wr ((wr (6 * (g 102 c1.toNat))) + v5))) 1) = 1 then
            Md_chooses_l67 c1 c3 K67_160 n67 v4 (wr (v5 + 1)) g
          else
            if v4 = 0 then
              Md_chooses_l67 c1 c3 K67_160 n67 0 (wr (v5 + 1)) g
            else
              if 0 ≤ c1 ∧ c1 < 170 then
              if 0 ≤ (g 92 35) ∧ (g 92 35) < 30 then
              Option.bind (Md_says (g 100 c1.toNat) v5 (wr (26 + (g 114 (g 92 35).toNat))) g) (fun q1 =>
              if q1.1 = 0 then
                Md_chooses_l67 c1 c3 K67_160 n67 0 (wr (v5 + 1)) q1.2
              else
                Md_chooses_l67 c1 c3 K67_160 n67 1 (wr (v5 + 1)) q1.2)
              else none
              else none
          else none
        else none
      else none
def Md_chooses (a1 a2 a3 : Int) (g : Gx) : Option (Int × Gx) :=
  if ¬ (g 92 35) = 30 then
    if (g 92 35) < a2 then
      if 0 ≤ a1 ∧ a1 < 170 then
      if 0 ≤ (g 92 35) ∧ (g 92 35) < 30 then
      if 0 ≤ a1 ∧ a1 < 170 then
      if 0 ≤ (g 92 35) ∧ (g 92 35) < 30 then
      Md_chooses_l67 a1 a3
        (fun x2 g3 =>
          if x2 = 0 ∨ x2 = 1 then some (x2, (gset g3 92 35 (wr ((g3 92 35) + 1)))) else none)
        fu 1 0 (gset (gset g 115 ((g 92 35).toNat) (wr ((g 101 a1.toNat) - 1))) 116 ((g 92 35).toNat) (g 100 a1.toNat))
      else none
      else none
      else none
      else none
    else
      if 0 ≤ (g 92 35) ∧ (g 92 35) < 30 then
      if 0 ≤ a1 ∧ a1 < 170 then
      if 0 ≤ (g 92 35) ∧ (g 92 35) < 30 then
      if 0 ≤ a1 ∧ a1 < 170 then
      if 0 ≤ (g 92 35) ∧ (g 92 35) < 30 then
      Md_chooses_l67 a1 a3
        (fun x4 g5 =>
          if x4 = 0 ∨ x4 = 1 then some (x4, (gset g5 92 35 (wr ((g5 92 35) + 1)))) else none)
        fu 1 0 (gset (gset (gset g 114 ((g 92 35).toNat) 0) 115 ((g 92 35).toNat) (wr ((g 101 a1.toNat) - 1))) 116 ((g 92 35).toNat) (g 100 a1.toNat))
      else none
      else none
      else none
      else none
      else none
  else
    some (0, g)
def Md_goes_l12 (c1 : Int) (c2 : Int) (K12_208 : Gx → Option (Int × Gx)) : Nat → Int → Gx → Option (Int × Gx)
  | 0, _, _ => none
  | n12 + 1, v3, g =>
    if (g 92 9) ≤ v3 then
      K12_208 g
    else
      if 0 ≤ v3 ∧ v3 < 170 then
      if ¬ (g 99 v3.toNat) = 0 then
        if 0 ≤ v3 ∧ v3 < 170 then
        if ¬ (g 99 v3.toNat) = 1 then
          if 0 ≤ v3 ∧ v3 < 170 then
          if ¬ (g 99 v3.toNat) = 2 then
            if 0 ≤ v3 ∧ v3 < 170 then
            if ¬ (g 99 v3.toNat) = 3 then
              if 0 ≤ v3 ∧ v3 < 170 then
              if 0 ≤ (g 102 v3.toNat) ∧ (g 102 v3.toNat) < 170 then
              if 0 ≤ (g 102 v3.toNat) ∧ (g 102 v3.toNat) < 170 then
              lett ((if (g 101 (g 102 v3.toNat).toNat) ≤ (g 117 (g 102 v3.toNat).toNat) then (wr (v3 + 1)) else (wr ((g 102 v3.toNat) + 1))) : Int) (fun y1 =>
              if 0 ≤ (g 102 v3.toNat) ∧ (g 102 v3.toNat) < 170 then
              if 0 ≤ (g 102 v3.toNat) ∧ (g 102 v3.toNat) < 170 then
              Md_goes_l12 c1 c2 K12_208 n12 y1 (gset g 117 ((g 102 v3.toNat).toNat) (wr ((g 117 (g 102 v3.toNat).toNat) + 1)))
              else none
              else none)
              else none
              else none
              else none
            else
              if 0 ≤ v3 ∧ v3 < 170 then
              Md_goes_l12 c1 c2 K12_208 n12 (wr (v3 + 1)) (gset g 117 v3.toNat 1)
              else none
            else none
          else
            if 0 ≤ v3 ∧ v3 < 170 then
            if 0 ≤ (g 102 v3.toNat) ∧ (g 102 v3.toNat) < 170 then
            Md_goes_l12 c1 c2 K12_208 n12 (g 103 (g 102 v3.toNat).toNat) g
            else none
            else none
          else none
        else
          Option.bind (Md_chooses v3 c1 c2 g) (fun q2 =>
          if ¬ q2.1 = 0 then
            if 0 ≤ (wr ((q2.2 92 35) - 1)) ∧ (wr ((q2.2 92 35) - 1)) < 30 then
            if 0 ≤ (wr ((wr (4 * v3)) + (q2.2 114 (wr ((q2.2 92 35) - 1)).toNat))) ∧ (wr ((wr (4 * v3)) + (q2.2 114 (wr ((q2.2 92 35) - 1)).toNat))) < 680 then
            Md_goes_l12 c1 c2 K12_208 n12 (q2.2 104 (wr ((wr (4 * v3)) + (q2.2 114 (wr ((q2.2 92 35) - 1)).toNat))).toNat) q2.2
            else none
            else none
          else
            some (0, q2.2))
        else none
      else
        if 0 ≤ v3 ∧ v3 < 170 then
        if 0 ≤ v3 ∧ v3 < 170 then
        if 0 ≤ v3 ∧ v3 < 170 then
        Option.bind (Md_says (g 100 v3.toNat) (g 101 v3.toNat) (g 102 v3.toNat) g) (fun q3 =>
        if ¬ q3.1 = 0 then
          Md_goes_l12 c1 c2 K12_208 n12 (wr (v3 + 1)) q3.2
        else
          some (0, q3.2))
        else none
        else none
        else none
      else none
def Md_goes (a1 a2 : Int) (g : Gx) : Option (Int × Gx) :=
  Md_goes_l12 a1 a2
    (fun g4 =>
      some (1, g4))
    fu 0 (gset (gset g 92 36 0) 92 35 0)
def Md_unfolds_l50 (c1 : Int) (c2 : Int) (K50_133 : Gx → Option (Int × Gx)) : Nat → Int → Gx → Option (Int × Gx)
  | 0, _, _ => none
  | n50 + 1, v4, g =>
    if 30 ≤ v4 then
      K50_133 g
    else
      if (g 92 35) ≤ v4 then
        if 0 ≤ (wr ((wr (30 * (g 92 26))) + v4)) ∧ (wr ((wr (30 * (g 92 26))) + v4)) < 900 then
        if (g 92 35) ≤ v4 then
          if 0 ≤ (wr ((wr (30 * (g 92 26))) + v4)) ∧ (wr ((wr (30 * (g 92 26))) + v4)) < 900 then
          Md_unfolds_l50 c1 c2 K50_133 n50 (wr (v4 + 1)) (gset (gset g 112 ((wr ((wr (30 * (g 92 26))) + v4)).toNat) (-1)) 113 ((wr ((wr (30 * (g 92 26))) + v4)).toNat) (-1))
          else none
        else
          if 0 ≤ v4 ∧ v4 < 30 then
          if 0 ≤ (wr ((wr (30 * (g 92 26))) + v4)) ∧ (wr ((wr (30 * (g 92 26))) + v4)) < 900 then
          Md_unfolds_l50 c1 c2 K50_133 n50 (wr (v4 + 1)) (gset (gset g 112 ((wr ((wr (30 * (g 92 26))) + v4)).toNat) (-1)) 113 ((wr ((wr (30 * (g 92 26))) + v4)).toNat) (g 116 v4.toNat))
          else none
          else none
        else none
      else
        if 0 ≤ v4 ∧ v4 < 30 then
        if 0 ≤ (wr ((wr (30 * (g 92 26))) + v4)) ∧ (wr ((wr (30 * (g 92 26))) + v4)) < 900 then
        if (g 92 35) ≤ v4 then
          if 0 ≤ (wr ((wr (30 * (g 92 26))) + v4)) ∧ (wr ((wr (30 * (g 92 26))) + v4)) < 900 then
          Md_unfolds_l50 c1 c2 K50_133 n50 (wr (v4 + 1)) (gset (gset g 112 ((wr ((wr (30 * (g 92 26))) + v4)).toNat) (g 114 v4.toNat)) 113 ((wr ((wr (30 * (g 92 26))) + v4)).toNat) (-1))
          else none
        else
          if 0 ≤ v4 ∧ v4 < 30 then
          if 0 ≤ (wr ((wr (30 * (g 92 26))) + v4)) ∧ (wr ((wr (30 * (g 92 26))) + v4)) < 900 then
          Md_unfolds_l50 c1 c2 K50_133 n50 (wr (v4 + 1)) (gset (gset g 112 ((wr ((wr (30 * (g 92 26))) + v4)).toNat) (g 114 v4.toNat)) 113 ((wr ((wr (30 * (g 92 26))) + v4)).toNat) (g 116 v4.toNat))
          else none
          else none
        else none
        else none
def Md_unfolds_l151 (c1 : Int) (c2 : Int) (K151_179 : Int → Gx → Option (Int × Gx)) : Nat → Int → Gx → Option (Int × Gx)
  | 0, _, _ => none
  | n151 + 1, v4, g =>
    if v4 < 0 then
      K151_179 v4 g
    else
      if 0 ≤ v4 ∧ v4 < 30 then
      if 0 ≤ v4 ∧ v4 < 30 then
      if ¬ (g 114 v4.toNat) = (g 115 v4.toNat) then
        K151_179 v4 g
      else
        Md_unfolds_l151 c1 c2 K151_179 n151 (wr (v4 + (-1))) g
      else none
      else none
def Md_unfolds_l9 (c1 : Int) (K9_213 : Gx → Option (Int × Gx)) : Nat → Int → Int → Gx → Option (Int × Gx)
  | 0, _, _, _ => none
  | n9 + 1, v2, v3, g =>
    if v3 = 0 then
      K9_213 g
    else
      Option.bind (Md_goes v2 c1 g) (fun q1 =>
      if q1.1 = 0 then
        some ((-4), q1.2)
      else
        if ¬ (q1.2 92 26) = 30 then
          if 0 ≤ (q1.2 92 26) ∧ (q1.2 92 26) < 30 then
          Md_unfolds_l50 c1 v2
            (fun g2 =>
              Md_unfolds_l151 c1 v2
                (fun x3 g4 =>
                  lett ((if x3 < 0 then 0 else 1) : Int) (fun y5 =>
                  if y5 = 0 then
                    Md_unfolds_l9 c1 K9_213 n9 v2 y5 g4
                  else
                    if 0 ≤ x3 ∧ x3 < 30 then
                    if 0 ≤ x3 ∧ x3 < 30 then
                    Md_unfolds_l9 c1 K9_213 n9 (wr (x3 + 1)) y5 (gset g4 114 x3.toNat (wr ((g4 114 x3.toNat) + 1)))
                    else none
                    else none))
                fu (wr ((g2 92 35) - 1)) (gset g2 92 26 (wr ((g2 92 26) + 1))))
            fu 0 (gset q1.2 110 ((q1.2 92 26).toNat) (q1.2 92 36))
          else none
        else
          some ((-4), q1.2))
def Md_unfolds (a1 : Int) (g : Gx) : Option (Int × Gx) :=
  Md_unfolds_l9 a1
    (fun g6 =>
      some (0, g6))
    fu 0 1 (gset g 92 26 0)
def Md_without (g : Gx) : Option (Int × Gx) :=
  Option.bind (Md_reads g) (fun q1 =>
  if ¬ q1.1 = (-1) then
    some ((-3), q1.2)
  else
    Option.bind (Md_unfolds (q1.2 92 7) q1.2) (fun q2 =>
    some (q2.1, q2.2)))
def Md_histories (g : Gx) : Option (Int × Gx) :=
  Option.bind (Md_without g) (fun q1 =>
  if q1.1 = 0 then
    some ((q1.2 92 26), q1.2)
  else
    some (q1.1, q1.2))
def Op_isHistory (a0 : Int) : Int :=
  if a0 < 0 then
    0
  else
    if 30 ≤ a0 then
      0
    else
      1
theorem bo_Op_isHistory (a0 : Int) : (Op_isHistory a0) = 0 ∨ (Op_isHistory a0) = 1 := by
  simp only [Op_isHistory, lett]
  (repeat' split) <;> first | exact Or.inl rfl | exact Or.inr rfl | exact Or.inl trivial | exact Or.inr trivial
def Hi_length (a1 : Int) (g : Gx) : Int :=
  (rat g 37 30 a1)
def Hi_word (a1 a2 : Int) (g : Gx) : Int :=
  (rat g 35 720 (wr ((wr (a1 * 24)) + a2)))
def Op_said (a1 a2 : Int) (g : Gx) : Option (Int × Gx) :=
  if (Op_isHistory a1) = 0 then
    some ((-2), g)
  else
    if (-1) ≤ a2 then
      Option.bind (Op_hindrance a1 g) (fun q1 =>
      if q1.1 = 0 then
        if ¬ a2 = (-1) then
          if (Hi_length a1 q1.2) ≤ a2 then
            some ((-1), q1.2)
          else
            some ((Hi_word a1 a2 q1.2), q1.2)
        else
          some ((Hi_length a1 q1.2), q1.2)
      else
        some (q1.1, q1.2))
    else
      some ((-2), g)
def Md_isHistory (a0 : Int) : Int :=
  (Md_in a0 0 29)
theorem bo_Md_isHistory (a0 : Int) : (Md_isHistory a0) = 0 ∨ (Md_isHistory a0) = 1 := by
  simp only [Md_isHistory, lett]
  (repeat' split) <;> first | exact Or.inl rfl | exact Or.inr rfl | exact Or.inl trivial | exact Or.inr trivial | apply bo_Md_in
def Md_lacksOne (a1 : Int) (g : Gx) : Option (Int × Gx) :=
  Option.bind (Md_without g) (fun q1 =>
  if q1.1 = 0 then
    if (q1.2 92 26) ≤ a1 then
      some ((-2), q1.2)
    else
      some (0, q1.2)
  else
    some (q1.1, q1.2))
def Md_code (a1 a2 : Int) (g : Gx) : Option (Int × Gx) :=
  if 0 ≤ (wr ((wr (24 * a1)) + a2)) ∧ (wr ((wr (24 * a1)) + a2)) < 720 then
  some ((g 111 (wr ((wr (24 * a1)) + a2)).toNat), g)
  else none
def Md_said (a1 a2 : Int) (g : Gx) : Option (Int × Gx) :=
  if (Md_isHistory a1) = 0 then
    some ((-2), g)
  else
    if (-1) ≤ a2 then
      Option.bind (Md_lacksOne a1 g) (fun q1 =>
      if q1.1 = 0 then
        if ¬ a2 = (-1) then
          if 0 ≤ a1 ∧ a1 < 30 then
          if (q1.2 110 a1.toNat) ≤ a2 then
            some ((-1), q1.2)
          else
            Option.bind (Md_code a1 a2 q1.2) (fun q2 =>
            some (q2.1, q2.2))
          else none
        else
          if 0 ≤ a1 ∧ a1 < 30 then
          some ((q1.2 110 a1.toNat), q1.2)
          else none
      else
        some (q1.1, q1.2))
    else
      some ((-2), g)
def Op_isTalker (a0 : Int) : Int :=
  if a0 < 0 then
    0
  else
    if 6 ≤ a0 then
      0
    else
      1
theorem bo_Op_isTalker (a0 : Int) : (Op_isTalker a0) = 0 ∨ (Op_isTalker a0) = 1 := by
  simp only [Op_isTalker, lett]
  (repeat' split) <;> first | exact Or.inl rfl | exact Or.inr rfl | exact Or.inl trivial | exact Or.inr trivial
def Op_sayer (a0 : Int) : Int :=
  (jdiv a0 1000)
def Op_getter (a0 : Int) : Int :=
  (jrem (jdiv a0 100) 10)
def Lk_load_l18 (c1 : Int) (c2 : Int) (K18_108 : Int → Gx → Option Gx) : Nat → Int → Int → Gx → Option Gx
  | 0, _, _, _ => none
  | n18 + 1, v3, v4, g =>
    if (Hi_length c2 g) ≤ v4 then
      K18_108 v3 g
    else
      if (Op_sayer (Hi_word c2 v4 g)) = c1 then
        lett ((if ¬ (Op_sayer (Hi_word c2 v4 g)) = c1 then 20000 else 10000) : Int) (fun y1 =>
        Lk_load_l18 c1 c2 K18_108 n18 (wr (v3 + 1)) (wr (v4 + 1)) (rset g 52 720 (wr ((wr (c2 * 24)) + v3)) (wr (y1 + (Hi_word c2 v4 g)))))
      else
        if ¬ (Op_getter (Hi_word c2 v4 g)) = c1 then
          Lk_load_l18 c1 c2 K18_108 n18 v3 (wr (v4 + 1)) g
        else
          lett ((if ¬ (Op_sayer (Hi_word c2 v4 g)) = c1 then 20000 else 10000) : Int) (fun y2 =>
          Lk_load_l18 c1 c2 K18_108 n18 (wr (v3 + 1)) (wr (v4 + 1)) (rset g 52 720 (wr ((wr (c2 * 24)) + v3)) (wr (y2 + (Hi_word c2 v4 g)))))
def Lk_load_l2 (c1 : Int) (K2_123 : Gx → Option Gx) : Nat → Int → Gx → Option Gx
  | 0, _, _ => none
  | n2 + 1, v2, g =>
    if (Hi_size g) ≤ v2 then
      K2_123 g
    else
      Lk_load_l18 c1 v2
        (fun x3 g4 =>
          Lk_load_l2 c1 K2_123 n2 (wr (v2 + 1)) (rset g4 54 30 v2 x3))
        fu 0 0 g
def Lk_load (a1 : Int) (g : Gx) : Option Gx :=
  Lk_load_l2 a1
    (fun g5 =>
      some g5)
    fu 0 g
def Lk_length (a1 : Int) (g : Gx) : Int :=
  (rat g 54 30 a1)
def Lk_act (a1 a2 : Int) (g : Gx) : Int :=
  (rat g 52 720 (wr ((wr (a1 * 24)) + a2)))
def Op_look (a1 a2 a3 : Int) (g : Gx) : Option (Int × Gx) :=
  if (Op_isTalker a1) = 0 then
    some ((-2), g)
  else
    if (Op_isHistory a2) = 0 then
      some ((-2), g)
    else
      if (-1) ≤ a3 then
        Option.bind (Op_hindrance a2 g) (fun q1 =>
        if q1.1 = 0 then
          Option.bind (Lk_load a1 q1.2) (fun g2 =>
          if ¬ a3 = (-1) then
            if (Lk_length a2 g2) ≤ a3 then
              some ((-1), g2)
            else
              some ((Lk_act a2 a3 g2), g2)
          else
            some ((Lk_length a2 g2), g2))
        else
          some (q1.1, q1.2))
      else
        some ((-2), g)
def Md_isOne (a0 : Int) : Int :=
  (Md_in a0 0 5)
theorem bo_Md_isOne (a0 : Int) : (Md_isOne a0) = 0 ∨ (Md_isOne a0) = 1 := by
  simp only [Md_isOne, lett]
  (repeat' split) <;> first | exact Or.inl rfl | exact Or.inr rfl | exact Or.inl trivial | exact Or.inr trivial | apply bo_Md_in
def Md_from (a0 : Int) : Int :=
  (jdiv a0 1000)
def Md_to (a0 : Int) : Int :=
  (jrem (jdiv a0 100) 10)
def Md_findLooks_l23 (c1 : Int) (c2 : Int) (K23_107 : Int → Gx → Option Gx) : Nat → Int → Int → Gx → Option Gx
  | 0, _, _, _ => none
  | n23 + 1, v3, v4, g =>
    if 0 ≤ c1 ∧ c1 < 30 then
    if (g 110 c1.toNat) ≤ v4 then
      K23_107 v3 g
    else
      Option.bind (Md_code c1 v4 g) (fun q1 =>
      if (Md_from q1.1) = c2 then
        if ¬ (Md_from q1.1) = c2 then
          if 0 ≤ (wr ((wr (24 * (wr ((wr (6 * c1)) + c2)))) + v3)) ∧ (wr ((wr (24 * (wr ((wr (6 * c1)) + c2)))) + v3)) < 4320 then
          Md_findLooks_l23 c1 c2 K23_107 n23 (wr (v3 + 1)) (wr (v4 + 1)) (gset q1.2 119 ((wr ((wr (24 * (wr ((wr (6 * c1)) + c2)))) + v3)).toNat) (wr (20000 + q1.1)))
          else none
        else
          if 0 ≤ (wr ((wr (24 * (wr ((wr (6 * c1)) + c2)))) + v3)) ∧ (wr ((wr (24 * (wr ((wr (6 * c1)) + c2)))) + v3)) < 4320 then
          Md_findLooks_l23 c1 c2 K23_107 n23 (wr (v3 + 1)) (wr (v4 + 1)) (gset q1.2 119 ((wr ((wr (24 * (wr ((wr (6 * c1)) + c2)))) + v3)).toNat) (wr (10000 + q1.1)))
          else none
      else
        if ¬ (Md_to q1.1) = c2 then
          Md_findLooks_l23 c1 c2 K23_107 n23 v3 (wr (v4 + 1)) q1.2
        else
          if ¬ (Md_from q1.1) = c2 then
            if 0 ≤ (wr ((wr (24 * (wr ((wr (6 * c1)) + c2)))) + v3)) ∧ (wr ((wr (24 * (wr ((wr (6 * c1)) + c2)))) + v3)) < 4320 then
            Md_findLooks_l23 c1 c2 K23_107 n23 (wr (v3 + 1)) (wr (v4 + 1)) (gset q1.2 119 ((wr ((wr (24 * (wr ((wr (6 * c1)) + c2)))) + v3)).toNat) (wr (20000 + q1.1)))
            else none
          else
            if 0 ≤ (wr ((wr (24 * (wr ((wr (6 * c1)) + c2)))) + v3)) ∧ (wr ((wr (24 * (wr ((wr (6 * c1)) + c2)))) + v3)) < 4320 then
            Md_findLooks_l23 c1 c2 K23_107 n23 (wr (v3 + 1)) (wr (v4 + 1)) (gset q1.2 119 ((wr ((wr (24 * (wr ((wr (6 * c1)) + c2)))) + v3)).toNat) (wr (10000 + q1.1)))
            else none)
    else none
def Md_findLooks_l12 (c1 : Int) (K12_125 : Gx → Option Gx) : Nat → Int → Gx → Option Gx
  | 0, _, _ => none
  | n12 + 1, v2, g =>
    if 6 ≤ v2 then
      K12_125 g
    else
      Md_findLooks_l23 c1 v2
        (fun x2 g3 =>
          if 0 ≤ (wr ((wr (6 * c1)) + v2)) ∧ (wr ((wr (6 * c1)) + v2)) < 180 then
          Md_findLooks_l12 c1 K12_125 n12 (wr (v2 + 1)) (gset g3 118 ((wr ((wr (6 * c1)) + v2)).toNat) x2)
          else none)
        fu 0 0 g
def Md_findLooks_l2 (K2_131 : Gx → Option Gx) : Nat → Int → Gx → Option Gx
  | 0, _, _ => none
  | n2 + 1, v1, g =>
    if (g 92 26) ≤ v1 then
      K2_131 g
    else
      Md_findLooks_l12 v1
        (fun g4 =>
          Md_findLooks_l2 K2_131 n2 (wr (v1 + 1)) g4)
        fu 0 g
def Md_findLooks (g : Gx) : Option Gx :=
  Md_findLooks_l2
    (fun g5 =>
      some g5)
    fu 0 g
def Md_lookAt (a1 a2 a3 : Int) (g : Gx) : Option (Int × Gx) :=
  if 0 ≤ (wr ((wr (6 * a2)) + a1)) ∧ (wr ((wr (6 * a2)) + a1)) < 180 then
  if (g 118 (wr ((wr (6 * a2)) + a1)).toNat) ≤ a3 then
    some ((-1), g)
  else
    if 0 ≤ (wr ((wr (24 * (wr ((wr (6 * a2)) + a1)))) + a3)) ∧ (wr ((wr (24 * (wr ((wr (6 * a2)) + a1)))) + a3)) < 4320 then
    some ((g 119 (wr ((wr (24 * (wr ((wr (6 * a2)) + a1)))) + a3)).toNat), g)
    else none
  else none
def Md_look (a1 a2 a3 : Int) (g : Gx) : Option (Int × Gx) :=
  if (Md_isOne a1) = 0 then
    some ((-2), g)
  else
    if (Md_isHistory a2) = 0 then
      some ((-2), g)
    else
      if (-1) ≤ a3 then
        Option.bind (Md_lacksOne a2 g) (fun q1 =>
        if q1.1 = 0 then
          Option.bind (Md_findLooks q1.2) (fun g2 =>
          if ¬ a3 = (-1) then
            Option.bind (Md_lookAt a1 a2 a3 g2) (fun q3 =>
            some (q3.1, q3.2))
          else
            if 0 ≤ (wr ((wr (6 * a2)) + a1)) ∧ (wr ((wr (6 * a2)) + a1)) < 180 then
            some ((g2 118 (wr ((wr (6 * a2)) + a1)).toNat), g2)
            else none)
        else
          some (q1.1, q1.2))
      else
        some ((-2), g)
def Hi_all (g : Gx) : Int :=
  (wr ((jshl 1 (g 33 9)) - 1))
def Lk_common_l23 (c1 : Int) (c2 : Int) (c3 : Int) (K23_66 : Int → Gx → Option (Int × Gx)) : Nat → Int → Gx → Option (Int × Gx)
  | 0, _, _ => none
  | n23 + 1, v4, g =>
    if c3 ≤ v4 then
      K23_66 v4 g
    else
      if ¬ (rat g 52 720 (wr ((wr (c1 * 24)) + v4))) = (rat g 52 720 (wr ((wr (c2 * 24)) + v4))) then
        K23_66 v4 g
      else
        Lk_common_l23 c1 c2 c3 K23_66 n23 (wr (v4 + 1)) g
def Lk_common (a1 a2 : Int) (g : Gx) : Option (Int × Gx) :=
  Lk_common_l23 a1 a2 (imin (rat g 54 30 a1) (rat g 54 30 a2))
    (fun x1 g2 =>
      some (x1, g2))
    fu 0 g
def Lk_bothEnd (a1 a2 a3 : Int) (g : Gx) : Int :=
  if ¬ (rat g 54 30 a1) = a3 then
    0
  else
    if ¬ (rat g 54 30 a2) = a3 then
      0
    else
      1
theorem bo_Lk_bothEnd (a1 a2 a3 : Int) (g : Gx) : (Lk_bothEnd a1 a2 a3 g) = 0 ∨ (Lk_bothEnd a1 a2 a3 g) = 1 := by
  simp only [Lk_bothEnd, lett]
  (repeat' split) <;> first | exact Or.inl rfl | exact Or.inr rfl | exact Or.inl trivial | exact Or.inr trivial
def Lk_isFirst_l2 (c1 : Int) (c2 : Int) (K2_38 : Gx → Option (Int × Gx)) : Nat → Int → Gx → Option (Int × Gx)
  | 0, _, _ => none
  | n2 + 1, v3, g =>
    if c1 ≤ v3 then
      K2_38 g
    else
      if (Op_has c2 v3) = 0 then
        Lk_isFirst_l2 c1 c2 K2_38 n2 (wr (v3 + 1)) g
      else
        Option.bind (Lk_common v3 c1 g) (fun q1 =>
        if (Lk_bothEnd v3 c1 q1.1 q1.2) = 0 then
          Lk_isFirst_l2 c1 c2 K2_38 n2 (wr (v3 + 1)) q1.2
        else
          some (0, q1.2))
def Lk_isFirst (a1 a2 : Int) (g : Gx) : Option (Int × Gx) :=
  Lk_isFirst_l2 a1 a2
    (fun g2 =>
      some (1, g2))
    fu 0 g
def Lk_unlike_l4 (c1 : Int) (K4_41 : Int → Gx → Option (Int × Gx)) : Nat → Int → Int → Gx → Option (Int × Gx)
  | 0, _, _, _ => none
  | n4 + 1, v2, v3, g =>
    if (Hi_size g) ≤ v3 then
      K4_41 v2 g
    else
      if (Op_has c1 v3) = 0 then
        Lk_unlike_l4 c1 K4_41 n4 v2 (wr (v3 + 1)) g
      else
        Option.bind (Lk_isFirst v3 c1 g) (fun q1 =>
        if q1.1 = 0 then
          Lk_unlike_l4 c1 K4_41 n4 v2 (wr (v3 + 1)) q1.2
        else
          Lk_unlike_l4 c1 K4_41 n4 (wr (v2 + 1)) (wr (v3 + 1)) q1.2)
def Lk_unlike (a1 : Int) (g : Gx) : Option (Int × Gx) :=
  Lk_unlike_l4 a1
    (fun x2 g3 =>
      some (x2, g3))
    fu 0 0 g
def Op_looks (a1 : Int) (g : Gx) : Option (Int × Gx) :=
  if ¬ (Op_isTalker a1) = 0 then
    Option.bind (Op_hindrance 0 g) (fun q1 =>
    if q1.1 = 0 then
      Option.bind (Lk_load a1 q1.2) (fun g2 =>
      Option.bind (Lk_unlike (Hi_all g2) g2) (fun q3 =>
      some (q3.1, q3.2)))
    else
      some (q1.1, q1.2))
  else
    some ((-2), g)
def Md_allBits (g : Gx) : Int :=
  (wr ((jshl 1 (g 92 26)) - 1))
def Md_unlike_l3 (c1 : Int) (c2 : Int) (c3 : Int) (K3_40 : Int → Gx → Option (Int × Gx)) : Nat → Int → Gx → Option (Int × Gx)
  | 0, _, _ => none
  | n3 + 1, v4, g =>
    Option.bind (Md_lookAt c1 c2 v4 g) (fun q1 =>
    if q1.1 = (-1) then
      K3_40 v4 q1.2
    else
      Option.bind (Md_lookAt c1 c2 v4 q1.2) (fun q2 =>
      Option.bind (Md_lookAt c1 c3 v4 q2.2) (fun q3 =>
      if ¬ q2.1 = q3.1 then
        K3_40 v4 q3.2
      else
        Md_unlike_l3 c1 c2 c3 K3_40 n3 (wr (v4 + 1)) q3.2)))
def Md_unlike (a1 a2 a3 : Int) (g : Gx) : Option (Int × Gx) :=
  Md_unlike_l3 a1 a2 a3
    (fun x4 g5 =>
      Option.bind (Md_lookAt a1 a2 x4 g5) (fun q6 =>
      Option.bind (Md_lookAt a1 a3 x4 q6.2) (fun q7 =>
      if ¬ q6.1 = q7.1 then
        some (x4, q7.2)
      else
        some ((-1), q7.2))))
    fu 0 g
def Md_looksOf_l34 (c1 : Int) (c2 : Int) (c3 : Int) (c4 : Int) (K34_81 : Int → Gx → Option (Int × Gx)) : Nat → Int → Int → Gx → Option (Int × Gx)
  | 0, _, _, _ => none
  | n34 + 1, v5, v6, g =>
    if c4 ≤ v6 then
      K34_81 v5 g
    else
      if v5 = 0 then
        Md_looksOf_l34 c1 c2 c3 c4 K34_81 n34 0 (wr (v6 + 1)) g
      else
        if (jand (jshr c2 v6) 1) = 0 then
          Md_looksOf_l34 c1 c2 c3 c4 K34_81 n34 1 (wr (v6 + 1)) g
        else
          Option.bind (Md_unlike c1 v6 c4 g) (fun q1 =>
          if q1.1 = (-1) then
            Md_looksOf_l34 c1 c2 c3 c4 K34_81 n34 0 (wr (v6 + 1)) q1.2
          else
            Md_looksOf_l34 c1 c2 c3 c4 K34_81 n34 1 (wr (v6 + 1)) q1.2)
def Md_looksOf_l5 (c1 : Int) (c2 : Int) (K5_100 : Int → Gx → Option (Int × Gx)) : Nat → Int → Int → Gx → Option (Int × Gx)
  | 0, _, _, _ => none
  | n5 + 1, v3, v4, g =>
    if (g 92 26) ≤ v4 then
      K5_100 v3 g
    else
      if ¬ (jand (jshr c2 v4) 1) = 1 then
        Md_looksOf_l34 c1 c2 v3 v4
          (fun x2 g3 =>
            if x2 = 0 then
              Md_looksOf_l5 c1 c2 K5_100 n5 (wr (v3 + 0)) (wr (v4 + 1)) g3
            else
              Md_looksOf_l5 c1 c2 K5_100 n5 (wr (v3 + 1)) (wr (v4 + 1)) g3)
          fu 0 0 g
      else
        Md_looksOf_l34 c1 c2 v3 v4
          (fun x4 g5 =>
            if x4 = 0 then
              Md_looksOf_l5 c1 c2 K5_100 n5 (wr (v3 + 0)) (wr (v4 + 1)) g5
            else
              Md_looksOf_l5 c1 c2 K5_100 n5 (wr (v3 + 1)) (wr (v4 + 1)) g5)
          fu 1 0 g
def Md_looksOf (a1 a2 : Int) (g : Gx) : Option (Int × Gx) :=
  Md_looksOf_l5 a1 a2
    (fun x6 g7 =>
      some (x6, g7))
    fu 0 0 g
def Md_looks (a1 : Int) (g : Gx) : Option (Int × Gx) :=
  if ¬ (Md_isOne a1) = 0 then
    Option.bind (Md_without g) (fun q1 =>
    if q1.1 = 0 then
      Option.bind (Md_findLooks q1.2) (fun g2 =>
      Option.bind (Md_looksOf a1 (Md_allBits g2) g2) (fun q3 =>
      some (q3.1, q3.2)))
    else
      some (q1.1, q1.2))
  else
    some ((-2), g)
def Hi_parter_l19 (c3 : Int) (K19_56 : Int → Gx → Option (Int × Gx)) : Nat → Int → Int → Gx → Option (Int × Gx)
  | 0, _, _, _ => none
  | n19 + 1, v4, v5, g =>
    if c3 ≤ v5 then
      K19_56 v4 g
    else
      if (rat g 43 30 v4) ≤ (rat g 43 30 v5) then
        Hi_parter_l19 c3 K19_56 n19 v4 (wr (v5 + 1)) g
      else
        Hi_parter_l19 c3 K19_56 n19 v5 (wr (v5 + 1)) g
def Hi_parter (a1 a2 : Int) (g : Gx) : Option (Int × Gx) :=
  Hi_parter_l19 (imax a1 a2)
    (fun x1 g2 =>
      some ((rat g2 45 30 x1), g2))
    fu (imin a1 a2) (wr ((imin a1 a2) + 1)) g
def Op_parts (a1 a2 : Int) (g : Gx) : Option (Int × Gx) :=
  if (Op_isHistory a1) = 0 then
    some ((-2), g)
  else
    if (Op_isHistory a2) = 0 then
      some ((-2), g)
    else
      if ¬ a1 = a2 then
        Option.bind (Op_hindrance (imax a1 a2) g) (fun q1 =>
        if q1.1 = 0 then
          Option.bind (Hi_parter a1 a2 q1.2) (fun q2 =>
          some (q2.1, q2.2))
        else
          some (q1.1, q1.2))
      else
        some ((-2), g)
def Md_parting_l2 (c1 : Int) (c2 : Int) (K2_33 : Int → Gx → Option (Int × Gx)) : Nat → Int → Gx → Option (Int × Gx)
  | 0, _, _ => none
  | n2 + 1, v3, g =>
    if 0 ≤ (wr ((wr (30 * c1)) + v3)) ∧ (wr ((wr (30 * c1)) + v3)) < 900 then
    if 0 ≤ (wr ((wr (30 * c2)) + v3)) ∧ (wr ((wr (30 * c2)) + v3)) < 900 then
    if ¬ (g 112 (wr ((wr (30 * c1)) + v3)).toNat) = (g 112 (wr ((wr (30 * c2)) + v3)).toNat) then
      K2_33 v3 g
    else
      Md_parting_l2 c1 c2 K2_33 n2 (wr (v3 + 1)) g
    else none
    else none
def Md_parting (a1 a2 : Int) (g : Gx) : Option (Int × Gx) :=
  Md_parting_l2 a1 a2
    (fun x1 g2 =>
      if 0 ≤ (wr ((wr (30 * a1)) + x1)) ∧ (wr ((wr (30 * a1)) + x1)) < 900 then
      some ((g2 113 (wr ((wr (30 * a1)) + x1)).toNat), g2)
      else none)
    fu 0 g
def Md_parts (a1 a2 : Int) (g : Gx) : Option (Int × Gx) :=
  if (Md_isHistory a1) = 0 then
    some ((-2), g)
  else
    if (Md_isHistory a2) = 0 then
      some ((-2), g)
    else
      if ¬ a1 = a2 then
        lett ((if a1 ≤ a2 then a2 else a1) : Int) (fun y1 =>
        Option.bind (Md_lacksOne y1 g) (fun q2 =>
        if q2.1 = 0 then
          Option.bind (Md_parting a1 a2 q2.2) (fun q3 =>
          some (q3.1, q3.2))
        else
          some (q2.1, q2.2)))
      else
        some ((-2), g)
def Hi_makings (g : Gx) : Int :=
  (g 33 16)
def Lk_gets (a1 a2 : Int) (g : Gx) : Int :=
  if (rat g 54 30 a1) ≤ a2 then
    0
  else
    if (rat g 52 720 (wr ((wr (a1 * 24)) + a2))) < 20000 then
      0
    else
      1
theorem bo_Lk_gets (a1 a2 : Int) (g : Gx) : (Lk_gets a1 a2 g) = 0 ∨ (Lk_gets a1 a2 g) = 1 := by
  simp only [Lk_gets, lett]
  (repeat' split) <;> first | exact Or.inl rfl | exact Or.inr rfl | exact Or.inl trivial | exact Or.inr trivial
def Kn_bothGet (a1 a2 a3 : Int) (g : Gx) : Int :=
  if (Lk_gets a1 a3 g) = 0 then
    0
  else
    if (Lk_gets a2 a3 g) = 0 then
      0
    else
      1
theorem bo_Kn_bothGet (a1 a2 a3 : Int) (g : Gx) : (Kn_bothGet a1 a2 a3 g) = 0 ∨ (Kn_bothGet a1 a2 a3 g) = 1 := by
  simp only [Kn_bothGet, lett]
  (repeat' split) <;> first | exact Or.inl rfl | exact Or.inr rfl | exact Or.inl trivial | exact Or.inr trivial | apply bo_Lk_gets
def Kn_searchFor_l17 (c1 : Int) (c2 : Int) (K17_122 : Gx → Option (Int × Gx)) : Nat → Int → Gx → Option (Int × Gx)
  | 0, _, _ => none
  | n17 + 1, v3, g =>
    if (Hi_size g) ≤ v3 then
      K17_122 g
    else
      Option.bind (Lk_common c2 v3 g) (fun q1 =>
      if ¬ (Lk_bothEnd c2 v3 q1.1 q1.2) = 0 then
        Kn_searchFor_l17 c1 c2 K17_122 n17 (wr (v3 + 1)) q1.2
      else
        if ¬ (Kn_bothGet c2 v3 q1.1 q1.2) = 0 then
          Kn_searchFor_l17 c1 c2 K17_122 n17 (wr (v3 + 1)) q1.2
        else
          Option.bind (Hi_parter c2 v3 q1.2) (fun q2 =>
          if q2.1 = c1 then
            Kn_searchFor_l17 c1 c2 K17_122 n17 (wr (v3 + 1)) q2.2
          else
            some (1, (rset (rset (rset (rset q2.2 57 4 0 c1) 57 4 1 c2) 57 4 2 v3) 57 4 3 q1.1))))
def Kn_searchFor_l2 (c1 : Int) (K2_128 : Gx → Option (Int × Gx)) : Nat → Int → Gx → Option (Int × Gx)
  | 0, _, _ => none
  | n2 + 1, v2, g =>
    if (Hi_size g) ≤ v2 then
      K2_128 g
    else
      Kn_searchFor_l17 c1 v2
        (fun g3 =>
          Kn_searchFor_l2 c1 K2_128 n2 (wr (v2 + 1)) g3)
        fu (wr (v2 + 1)) g
def Kn_searchFor (a1 : Int) (g : Gx) : Option (Int × Gx) :=
  Kn_searchFor_l2 a1
    (fun g4 =>
      some (0, g4))
    fu 0 g
def Kn_search_l36 (K36_65 : Gx → Option Gx) : Nat → Int → Gx → Option Gx
  | 0, _, _ => none
  | n36 + 1, v1, g =>
    if 6 ≤ v1 then
      K36_65 g
    else
      Option.bind (Lk_load v1 g) (fun g1 =>
      Option.bind (Kn_searchFor v1 g1) (fun q2 =>
      if q2.1 = 0 then
        Kn_search_l36 K36_65 n36 (wr (v1 + 1)) q2.2
      else
        some q2.2))
def Kn_search (g : Gx) : Option Gx :=
  if ¬ (g 55 5) = (Hi_makings g) then
    Kn_search_l36
      (fun g3 =>
        some g3)
      fu 0 (rfill (gset g 55 5 (Hi_makings g)) 57 4 (-1))
  else
    some g
def Kn_soundness (g : Gx) : Option (Int × Gx) :=
  Option.bind (Kn_search g) (fun g1 =>
  if ¬ (rat g1 57 4 0) = (-1) then
    some (0, g1)
  else
    some (1, g1))
def Op_sound (g : Gx) : Option (Int × Gx) :=
  Option.bind (Op_hindrance 0 g) (fun q1 =>
  if q1.1 = 0 then
    Option.bind (Kn_soundness q1.2) (fun q2 =>
    some (q2.1, q2.2))
  else
    some (q1.1, q1.2))
def Md_isSound_l26 (c1 : Int) (c2 : Int) (K26_124 : Gx → Option (Int × Gx)) : Nat → Int → Gx → Option (Int × Gx)
  | 0, _, _ => none
  | n26 + 1, v3, g =>
    if (g 92 26) ≤ v3 then
      K26_124 g
    else
      Option.bind (Md_unlike c1 c2 v3 g) (fun q2 =>
      if q2.1 = (-1) then
        Md_isSound_l26 c1 c2 K26_124 n26 (wr (v3 + 1)) q2.2
      else
        Option.bind (Md_parting c2 v3 q2.2) (fun q3 =>
        if q3.1 = c1 then
          Md_isSound_l26 c1 c2 K26_124 n26 (wr (v3 + 1)) q3.2
        else
          Option.bind (Md_lookAt c1 c2 q2.1 q3.2) (fun q4 =>
          if q4.1 < 20000 then
            some (0, (gset (gset (gset (gset q4.2 120 0 c1) 120 1 c2) 120 2 v3) 120 3 q2.1))
          else
            Option.bind (Md_lookAt c1 v3 q2.1 q4.2) (fun q5 =>
            if 20000 ≤ q5.1 then
              Md_isSound_l26 c1 c2 K26_124 n26 (wr (v3 + 1)) q5.2
            else
              some (0, (gset (gset (gset (gset q5.2 120 0 c1) 120 1 c2) 120 2 v3) 120 3 q2.1))))))
def Md_isSound_l14 (c1 : Int) (K14_130 : Gx → Option (Int × Gx)) : Nat → Int → Gx → Option (Int × Gx)
  | 0, _, _ => none
  | n14 + 1, v2, g =>
    if (g 92 26) ≤ v2 then
      K14_130 g
    else
      Md_isSound_l26 c1 v2
        (fun g6 =>
          Md_isSound_l14 c1 K14_130 n14 (wr (v2 + 1)) g6)
        fu (wr (v2 + 1)) g
def Md_isSound_l6 (K6_136 : Gx → Option (Int × Gx)) : Nat → Int → Gx → Option (Int × Gx)
  | 0, _, _ => none
  | n6 + 1, v1, g =>
    if 6 ≤ v1 then
      K6_136 g
    else
      Md_isSound_l14 v1
        (fun g7 =>
          Md_isSound_l6 K6_136 n6 (wr (v1 + 1)) g7)
        fu 0 g
def Md_isSound (g : Gx) : Option (Int × Gx) :=
  Option.bind (Md_findLooks g) (fun g1 =>
  Md_isSound_l6
    (fun g8 =>
      some (1, g8))
    fu 0 g1)
def Md_sound (g : Gx) : Option (Int × Gx) :=
  Option.bind (Md_without g) (fun q1 =>
  if q1.1 = 0 then
    Option.bind (Md_isSound q1.2) (fun q2 =>
    if q2.1 = 0 then
      some (0, q2.2)
    else
      some (1, q2.2))
  else
    some (q1.1, q1.2))
def Kn_momentPart (a1 : Int) (g : Gx) : Option (Int × Gx) :=
  Option.bind (Kn_search g) (fun g1 =>
  some ((rat g1 57 4 a1), g1))
def Op_moment (a1 : Int) (g : Gx) : Option (Int × Gx) :=
  if a1 < 0 then
    some ((-2), g)
  else
    if a1 ≤ 3 then
      Option.bind (Op_hindrance 0 g) (fun q1 =>
      if q1.1 = 0 then
        Option.bind (Kn_momentPart a1 q1.2) (fun q2 =>
        some (q2.1, q2.2))
      else
        some (q1.1, q1.2))
    else
      some ((-2), g)
def Md_momentOf (a1 : Int) (g : Gx) : Option (Int × Gx) :=
  Option.bind (Md_without g) (fun q1 =>
  if q1.1 = 0 then
    Option.bind (Md_isSound q1.2) (fun q2 =>
    if q2.1 = 0 then
      if 0 ≤ a1 ∧ a1 < 4 then
      some ((q2.2 120 a1.toNat), q2.2)
      else none
    else
      some ((-1), q2.2))
  else
    some (q1.1, q1.2))
def Md_moment (a1 : Int) (g : Gx) : Option (Int × Gx) :=
  if (Md_in a1 0 3) = 0 then
    some ((-2), g)
  else
    Option.bind (Md_momentOf a1 g) (fun q1 =>
    some (q1.1, q1.2))
def Kn_findCandidates_l44 (c1 : Int) (c3 : Int) (c4 : Int) (c5 : Int) (K44_86 : Int → Gx → Option (Int × Gx)) : Nat → Int → Int → Gx → Option (Int × Gx)
  | 0, _, _, _ => none
  | n44 + 1, v2, v6, g =>
    if 6 ≤ v6 then
      K44_86 v2 g
    else
      if (Op_has c5 v6) = 0 then
        Kn_findCandidates_l44 c1 c3 c4 c5 K44_86 n44 v2 (wr (v6 + 1)) g
      else
        Kn_findCandidates_l44 c1 c3 c4 c5 K44_86 n44 (wr (v2 + 1)) (wr (v6 + 1)) (rset g 59 6 v2 (wr ((wr (c4 * 6)) + v6)))
def Kn_findCandidates_l17 (c1 : Int) (c3 : Int) (K17_92 : Int → Gx → Option (Int × Gx)) : Nat → Int → Int → Gx → Option (Int × Gx)
  | 0, _, _, _ => none
  | n17 + 1, v2, v4, g =>
    if c3 ≤ v4 then
      K17_92 v2 g
    else
      Kn_findCandidates_l44 c1 c3 v4 (St_toldOf v4 (jshl c1 (wr (v4 * 6))) g)
        (fun x1 g2 =>
          Kn_findCandidates_l17 c1 c3 K17_92 n17 x1 (wr (v4 + 1)) g2)
        fu v2 0 g
def Kn_findCandidates (a1 : Int) (g : Gx) : Option (Int × Gx) :=
  Kn_findCandidates_l17 a1 (imin 5 (St_choices g))
    (fun x3 g4 =>
      some (x3, g4))
    fu 0 0 g
def Kn_bitsOf_l4 (c1 : Int) (K4_37 : Int → Gx → Option (Int × Gx)) : Nat → Int → Int → Gx → Option (Int × Gx)
  | 0, _, _, _ => none
  | n4 + 1, v2, v3, g =>
    if 6 ≤ v3 then
      K4_37 v2 g
    else
      if (Op_has c1 v3) = 0 then
        Kn_bitsOf_l4 c1 K4_37 n4 v2 (wr (v3 + 1)) g
      else
        Kn_bitsOf_l4 c1 K4_37 n4 (jor v2 (jshl 1 (rat g 59 6 v3))) (wr (v3 + 1)) g
def Kn_bitsOf (a1 : Int) (g : Gx) : Option (Int × Gx) :=
  Kn_bitsOf_l4 a1
    (fun x1 g2 =>
      some (x1, g2))
    fu 0 0 g
def Kn_leastOfSize_l2 (c1 : Int) (c2 : Int) (K2_60 : Gx → Option (Int × Gx)) : Nat → Int → Gx → Option (Int × Gx)
  | 0, _, _ => none
  | n2 + 1, v3, g =>
    if (jshl 1 c2) ≤ v3 then
      K2_60 g
    else
      if ¬ (Ji_bitCount v3) = c1 then
        Kn_leastOfSize_l2 c1 c2 K2_60 n2 (wr (v3 + 1)) g
      else
        Option.bind (Kn_bitsOf v3 g) (fun q1 =>
        Option.bind (Hi_make q1.1 q1.2) (fun q2 =>
        if q2.1 = 0 then
          Kn_leastOfSize_l2 c1 c2 K2_60 n2 (wr (v3 + 1)) q2.2
        else
          Option.bind (Kn_search q2.2) (fun g3 =>
          if ¬ (rat g3 57 4 0) = (-1) then
            Kn_leastOfSize_l2 c1 c2 K2_60 n2 (wr (v3 + 1)) g3
          else
            Option.bind (Kn_bitsOf v3 g3) (fun q4 =>
            some (q4.1, q4.2)))))
def Kn_leastOfSize (a1 a2 : Int) (g : Gx) : Option (Int × Gx) :=
  Kn_leastOfSize_l2 a1 a2
    (fun g5 =>
      some ((-1), g5))
    fu 0 g
def Kn_fewestTellings_l65 (c2 : Int) (K65_94 : Gx → Option (Int × Gx)) : Nat → Int → Gx → Option (Int × Gx)
  | 0, _, _ => none
  | n65 + 1, v3, g =>
    if c2 < v3 then
      K65_94 g
    else
      if ¬ (g 55 7) = (-1) then
        K65_94 g
      else
        Option.bind (Kn_leastOfSize v3 c2 g) (fun q2 =>
        Kn_fewestTellings_l65 c2 K65_94 n65 (wr (v3 + 1)) (gset q2.2 55 7 q2.1))
def Kn_fewestTellings (a1 : Int) (g : Gx) : Option (Int × Gx) :=
  if ¬ (g 55 6) = (St_version g) then
    Option.bind (Kn_findCandidates a1 (gset g 55 6 (St_version g))) (fun q1 =>
    if 6 < q1.1 then
      Kn_fewestTellings_l65 q1.1
        (fun g3 =>
          some ((g3 55 7), g3))
        fu 0 (gset q1.2 55 7 (-4))
    else
      Option.bind (St_isTooMuch 0 q1.2) (fun q4 =>
      if q4.1 = 0 then
        Kn_fewestTellings_l65 q1.1
          (fun g5 =>
            some ((g5 55 7), g5))
          fu 0 (gset q4.2 55 7 (-1))
      else
        Kn_fewestTellings_l65 q1.1
          (fun g6 =>
            some ((g6 55 7), g6))
          fu 0 (gset q4.2 55 7 (-4))))
  else
    some ((g 55 7), g)
def Op_mended (g : Gx) : Option (Int × Gx) :=
  Option.bind (Pr_firstFault g) (fun q1 =>
  if q1.1 = (-1) then
    Option.bind (Kn_fewestTellings (Pr_used q1.2) q1.2) (fun q2 =>
    some (q2.1, q2.2))
  else
    some ((-3), q1.2))
def Md_ones_l4 (K4_20 : Int → Gx → Option (Int × Gx)) : Nat → Int → Int → Gx → Option (Int × Gx)
  | 0, _, _, _ => none
  | n4 + 1, v1, v2, g =>
    if v2 = 0 then
      K4_20 v1 g
    else
      Md_ones_l4 K4_20 n4 (wr (v1 + 1)) (jand v2 (wr (v2 - 1))) g
def Md_ones (a0 : Int) (g : Gx) : Option (Int × Gx) :=
  Md_ones_l4
    (fun x1 g2 =>
      some (x1, g2))
    fu 0 a0 g
def Md_mended_l36 (c2 : Int) (K36_110 : Int → Gx → Option (Int × Gx)) : Nat → Int → Int → Gx → Option (Int × Gx)
  | 0, _, _, _ => none
  | n36 + 1, v1, v3, g =>
    if 6 ≤ v3 then
      K36_110 v1 g
    else
      if 0 ≤ c2 ∧ c2 < 170 then
      if ¬ (g 99 c2.toNat) = 1 then
        K36_110 v1 g
      else
        if 0 ≤ c2 ∧ c2 < 170 then
        if 5 ≤ (g 102 c2.toNat) then
          K36_110 v1 g
        else
          if 0 ≤ c2 ∧ c2 < 170 then
          if v3 = (g 100 c2.toNat) then
            Md_mended_l36 c2 K36_110 n36 (jor v1 0) (wr (v3 + 1)) g
          else
            if ¬ (jand (jshr (g 92 18) v3) 1) = 1 then
              Md_mended_l36 c2 K36_110 n36 (jor v1 0) (wr (v3 + 1)) g
            else
              if 0 ≤ c2 ∧ c2 < 170 then
              Md_mended_l36 c2 K36_110 n36 (jor v1 (jshl 1 (wr ((wr (6 * (g 102 c2.toNat))) + v3)))) (wr (v3 + 1)) g
              else none
          else none
        else none
      else none
def Md_mended_l26 (K26_116 : Int → Gx → Option (Int × Gx)) : Nat → Int → Int → Gx → Option (Int × Gx)
  | 0, _, _, _ => none
  | n26 + 1, v1, v2, g =>
    if (g 92 9) ≤ v2 then
      K26_116 v1 g
    else
      Md_mended_l36 v2
        (fun x3 g4 =>
          Md_mended_l26 K26_116 n26 x3 (wr (v2 + 1)) g4)
        fu v1 0 g
def Md_mended_l135 (c1 : Int) (K135_193 : Int → Gx → Option (Int × Gx)) : Nat → Int → Int → Int → Gx → Option (Int × Gx)
  | 0, _, _, _, _ => none
  | n135 + 1, v2, v3, v4, g =>
    if v4 = 0 then
      K135_193 v2 g
    else
      if v2 = (-1) then
        Option.bind (Md_unfolds v3 g) (fun q8 =>
        if ¬ q8.1 = 0 then
          if (jand (wr (v3 - c1)) c1) = 0 then
            Md_mended_l135 c1 K135_193 n135 v2 (jand (wr (v3 - c1)) c1) 0 q8.2
          else
            Md_mended_l135 c1 K135_193 n135 v2 (jand (wr (v3 - c1)) c1) 1 q8.2
        else
          Option.bind (Md_isSound q8.2) (fun q9 =>
          lett ((if q9.1 = 0 then v2 else v3) : Int) (fun y10 =>
          if (jand (wr (v3 - c1)) c1) = 0 then
            Md_mended_l135 c1 K135_193 n135 y10 (jand (wr (v3 - c1)) c1) 0 q9.2
          else
            Md_mended_l135 c1 K135_193 n135 y10 (jand (wr (v3 - c1)) c1) 1 q9.2)))
      else
        Option.bind (Md_ones v3 g) (fun q11 =>
        Option.bind (Md_ones v2 q11.2) (fun q12 =>
        if q12.1 ≤ q11.1 then
          if (jand (wr (v3 - c1)) c1) = 0 then
            Md_mended_l135 c1 K135_193 n135 v2 (jand (wr (v3 - c1)) c1) 0 q12.2
          else
            Md_mended_l135 c1 K135_193 n135 v2 (jand (wr (v3 - c1)) c1) 1 q12.2
        else
          Option.bind (Md_unfolds v3 q12.2) (fun q13 =>
          if ¬ q13.1 = 0 then
            if (jand (wr (v3 - c1)) c1) = 0 then
              Md_mended_l135 c1 K135_193 n135 v2 (jand (wr (v3 - c1)) c1) 0 q13.2
            else
              Md_mended_l135 c1 K135_193 n135 v2 (jand (wr (v3 - c1)) c1) 1 q13.2
          else
            Option.bind (Md_isSound q13.2) (fun q14 =>
            lett ((if q14.1 = 0 then v2 else v3) : Int) (fun y15 =>
            if (jand (wr (v3 - c1)) c1) = 0 then
              Md_mended_l135 c1 K135_193 n135 y15 (jand (wr (v3 - c1)) c1) 0 q14.2
            else
              Md_mended_l135 c1 K135_193 n135 y15 (jand (wr (v3 - c1)) c1) 1 q14.2)))))
def Md_mended (g : Gx) : Option (Int × Gx) :=
  Option.bind (Md_reads g) (fun q1 =>
  if q1.1 = (-1) then
    Option.bind (Md_unfolds 0 q1.2) (fun q2 =>
    if q2.1 = 0 then
      Md_mended_l26
        (fun x5 g6 =>
          Option.bind (Md_ones x5 g6) (fun q7 =>
          if q7.1 ≤ 6 then
            Md_mended_l135 x5
              (fun x16 g17 =>
                some (x16, g17))
              fu (-1) 0 1 q7.2
          else
            some ((-4), q7.2)))
        fu 0 0 q2.2
    else
      some ((-4), q2.2))
  else
    some ((-3), q1.2))
def Rn_takesPart (a0 a1 : Int) : Int :=
  if (Op_sayer a1) = a0 then
    1
  else
    if ¬ (Op_getter a1) = a0 then
      0
    else
      1
theorem bo_Rn_takesPart (a0 a1 : Int) : (Rn_takesPart a0 a1) = 0 ∨ (Rn_takesPart a0 a1) = 1 := by
  simp only [Rn_takesPart, lett]
  (repeat' split) <;> first | exact Or.inl rfl | exact Or.inr rfl | exact Or.inl trivial | exact Or.inr trivial
def Rn_nextPlace_l3 (c1 : Int) (c2 : Int) (K3_39 : Int → Gx → Option (Int × Gx)) : Nat → Int → Gx → Option (Int × Gx)
  | 0, _, _ => none
  | n3 + 1, v4, g =>
    if (Hi_length c1 g) ≤ v4 then
      K3_39 v4 g
    else
      if ¬ (Rn_takesPart c2 (Hi_word c1 v4 g)) = 0 then
        K3_39 v4 g
      else
        Rn_nextPlace_l3 c1 c2 K3_39 n3 (wr (v4 + 1)) g
def Rn_nextPlace (a1 a2 a3 : Int) (g : Gx) : Option (Int × Gx) :=
  Rn_nextPlace_l3 a1 a2
    (fun x1 g2 =>
      some (x1, g2))
    fu a3 g
def Rn_ableTalkers_l4 (c1 : Int) (K4_80 : Int → Gx → Option (Int × Gx)) : Nat → Int → Int → Gx → Option (Int × Gx)
  | 0, _, _, _ => none
  | n4 + 1, v2, v3, g =>
    if 6 ≤ v3 then
      K4_80 v2 g
    else
      if (Hi_length c1 g) ≤ (rat g 62 6 v3) then
        Rn_ableTalkers_l4 c1 K4_80 n4 v2 (wr (v3 + 1)) g
      else
        if (Op_sayer (Hi_word c1 (rat g 62 6 v3) g)) = v3 then
          Rn_ableTalkers_l4 c1 K4_80 n4 (jor v2 (jshl 1 v3)) (wr (v3 + 1)) g
        else
          if (rat g 62 6 (Op_sayer (Hi_word c1 (rat g 62 6 v3) g))) ≤ (rat g 62 6 v3) then
            Rn_ableTalkers_l4 c1 K4_80 n4 v2 (wr (v3 + 1)) g
          else
            Rn_ableTalkers_l4 c1 K4_80 n4 (jor v2 (jshl 1 v3)) (wr (v3 + 1)) g
def Rn_ableTalkers (a1 : Int) (g : Gx) : Option (Int × Gx) :=
  Rn_ableTalkers_l4 a1
    (fun x1 g2 =>
      some (x1, g2))
    fu 0 0 g
def Rn_pick_l4 (c0 : Int) (K4_33 : Gx → Option (Int × Gx)) : Nat → Int → Int → Gx → Option (Int × Gx)
  | 0, _, _, _ => none
  | n4 + 1, v2, v3, g =>
    if 6 ≤ v3 then
      K4_33 g
    else
      if (Op_has c0 v3) = 0 then
        Rn_pick_l4 c0 K4_33 n4 v2 (wr (v3 + 1)) g
      else
        if ¬ v2 = 0 then
          Rn_pick_l4 c0 K4_33 n4 (wr (v2 + (-1))) (wr (v3 + 1)) g
        else
          some (v3, g)
def Rn_pick (a0 a1 : Int) (g : Gx) : Option (Int × Gx) :=
  Rn_pick_l4 a0
    (fun g1 =>
      some ((-1), g1))
    fu a1 0 g
def Rn_act (a1 a2 : Int) (g : Gx) : Option Gx :=
  lett ((if ¬ (Op_sayer (Hi_word a1 (rat g 62 6 a2) g)) = a2 then (-1) else 1) : Int) (fun y1 =>
  Option.bind (Rn_nextPlace a1 a2 (wr ((rat g 62 6 a2) + 1)) (gset (radd g 64 36 (wr ((wr ((Op_sayer (Hi_word a1 (rat g 62 6 a2) g)) * 6)) + (Op_getter (Hi_word a1 (rat g 62 6 a2) g)))) y1) 60 6 (imax (g 60 6) (rat (radd g 64 36 (wr ((wr ((Op_sayer (Hi_word a1 (rat g 62 6 a2) g)) * 6)) + (Op_getter (Hi_word a1 (rat g 62 6 a2) g)))) y1) 64 36 (wr ((wr ((Op_sayer (Hi_word a1 (rat g 62 6 a2) g)) * 6)) + (Op_getter (Hi_word a1 (rat g 62 6 a2) g)))))))) (fun q2 =>
  some (rset q2.2 62 6 a2 q2.1)))
def Rn_goByLots_l20 (c1 : Int) (c2 : Int) (K20_47 : Gx → Option Gx) : Nat → Int → Gx → Option Gx
  | 0, _, _ => none
  | n20 + 1, v3, g =>
    if 6 ≤ v3 then
      K20_47 g
    else
      Option.bind (Rn_nextPlace c1 v3 0 g) (fun q1 =>
      Rn_goByLots_l20 c1 c2 K20_47 n20 (wr (v3 + 1)) (rset q1.2 62 6 v3 q1.1))
def Rn_goByLots_l49 (c1 : Int) (K49_136 : Gx → Option Gx) : Nat → Int → Gx → Option Gx
  | 0, _, _ => none
  | n49 + 1, v3, g =>
    if 48 ≤ (g 60 5) then
      K49_136 g
    else
      Option.bind (Rn_ableTalkers c1 g) (fun q3 =>
      if ¬ (Ji_bitCount q3.1) = 0 then
        if (Ji_bitCount q3.1) = 0 then none else
        Option.bind (Rn_pick q3.1 (jrem (jushr (wr ((wr (1103515245 * v3)) + 12345)) 16) (Ji_bitCount q3.1)) q3.2) (fun q4 =>
        Option.bind (Rn_act c1 q4.1 q4.2) (fun g5 =>
        Rn_goByLots_l49 c1 K49_136 n49 (wr ((wr (1103515245 * v3)) + 12345)) (gset (rset g5 66 48 (g5 60 5) q4.1) 60 5 (wr ((g5 60 5) + 1)))))
      else
        K49_136 q3.2)
def Rn_goByLots (a1 a2 : Int) (g : Gx) : Option Gx :=
  Rn_goByLots_l20 a1 a2
    (fun g2 =>
      Rn_goByLots_l49 a1
        (fun g6 =>
          some g6)
        fu a2 g2)
    fu 0 (rfill (gset (gset g 60 5 0) 60 6 0) 64 36 0)
def Rn_stepCount (g : Gx) : Int :=
  (g 60 5)
def Rn_longestQueue (g : Gx) : Int :=
  (g 60 6)
def Op_run (a1 a2 a3 : Int) (g : Gx) : Option (Int × Gx) :=
  if (Op_isHistory a1) = 0 then
    some ((-2), g)
  else
    if a3 < 0 then
      some ((-2), g)
    else
      if a3 ≤ 1 then
        Option.bind (Op_hindrance a1 g) (fun q1 =>
        if q1.1 = 0 then
          Option.bind (Rn_goByLots a1 a2 q1.2) (fun g2 =>
          if ¬ a3 = 0 then
            some ((Rn_longestQueue g2), g2)
          else
            some ((Rn_stepCount g2), g2))
        else
          some (q1.1, q1.2))
      else
        some ((-2), g)
def Md_begins_l2 (K2_21 : Gx → Option Gx) : Nat → Int → Gx → Option Gx
  | 0, _, _ => none
  | n2 + 1, v1, g =>
    if 6 ≤ v1 then
      K2_21 g
    else
      if 0 ≤ v1 ∧ v1 < 6 then
      Md_begins_l2 K2_21 n2 (wr (v1 + 1)) (gset g 121 v1.toNat 0)
      else none
def Md_begins_l23 (K23_42 : Gx → Option Gx) : Nat → Int → Gx → Option Gx
  | 0, _, _ => none
  | n23 + 1, v1, g =>
    if 36 ≤ v1 then
      K23_42 g
    else
      if 0 ≤ v1 ∧ v1 < 36 then
      Md_begins_l23 K23_42 n23 (wr (v1 + 1)) (gset g 122 v1.toNat 0)
      else none
def Md_begins (g : Gx) : Option Gx :=
  Md_begins_l2
    (fun g1 =>
      Md_begins_l23
        (fun g2 =>
          some (gset (gset g2 92 43 0) 92 44 0))
        fu 0 g1)
    fu 0 g
def Md_queueOf (a0 : Int) : Int :=
  (wr ((wr (6 * (Md_from (jrem a0 10000)))) + (Md_to (jrem a0 10000))))
def Md_can (a1 a2 a3 : Int) (g : Gx) : Option (Int × Gx) :=
  if 0 ≤ a1 ∧ a1 < 6 then
  if a3 ≤ (g 121 a1.toNat) then
    some (0, g)
  else
    if 0 ≤ a1 ∧ a1 < 6 then
    Option.bind (Md_lookAt a1 a2 (g 121 a1.toNat) g) (fun q1 =>
    if q1.1 = (-1) then
      some (0, q1.2)
    else
      if q1.1 < 20000 then
        some (1, q1.2)
      else
        if 0 ≤ (Md_queueOf q1.1) ∧ (Md_queueOf q1.1) < 36 then
        if (q1.2 122 (Md_queueOf q1.1).toNat) ≤ 0 then
          some (0, q1.2)
        else
          some (1, q1.2)
        else none)
    else none
  else none
def Md_does (a1 a2 : Int) (g : Gx) : Option Gx :=
  if 0 ≤ a1 ∧ a1 < 6 then
  Option.bind (Md_lookAt a1 a2 (g 121 a1.toNat) g) (fun q1 =>
  if 0 ≤ (Md_queueOf q1.1) ∧ (Md_queueOf q1.1) < 36 then
  lett ((if 20000 ≤ q1.1 then (-1) else 1) : Int) (fun y2 =>
  if 0 ≤ (Md_queueOf q1.1) ∧ (Md_queueOf q1.1) < 36 then
  if 0 ≤ (Md_queueOf q1.1) ∧ (Md_queueOf q1.1) < 36 then
  if ((gset q1.2 122 ((Md_queueOf q1.1).toNat) (wr ((q1.2 122 (Md_queueOf q1.1).toNat) + y2))) 122 (Md_queueOf q1.1).toNat) ≤ (q1.2 92 44) then
    if 0 ≤ a1 ∧ a1 < 6 then
    if 0 ≤ a1 ∧ a1 < 6 then
    some (gset (gset (gset q1.2 122 ((Md_queueOf q1.1).toNat) (wr ((q1.2 122 (Md_queueOf q1.1).toNat) + y2))) 92 44 (q1.2 92 44)) 121 a1.toNat (wr ((q1.2 121 a1.toNat) + 1)))
    else none
    else none
  else
    if 0 ≤ (Md_queueOf q1.1) ∧ (Md_queueOf q1.1) < 36 then
    if 0 ≤ a1 ∧ a1 < 6 then
    if 0 ≤ a1 ∧ a1 < 6 then
    some (gset (gset (gset q1.2 122 ((Md_queueOf q1.1).toNat) (wr ((q1.2 122 (Md_queueOf q1.1).toNat) + y2))) 92 44 ((gset q1.2 122 ((Md_queueOf q1.1).toNat) (wr ((q1.2 122 (Md_queueOf q1.1).toNat) + y2))) 122 (Md_queueOf q1.1).toNat)) 121 a1.toNat (wr ((q1.2 121 a1.toNat) + 1)))
    else none
    else none
    else none
  else none
  else none)
  else none)
  else none
def Md_runs_l24 (c1 : Int) (c3 : Int) (K24_59 : Int → Gx → Option Gx) : Nat → Int → Int → Gx → Option Gx
  | 0, _, _, _ => none
  | n24 + 1, v4, v5, g =>
    if 6 ≤ v5 then
      K24_59 v4 g
    else
      Option.bind (Md_can v5 c1 48 g) (fun q3 =>
      if q3.1 = 0 then
        Md_runs_l24 c1 c3 K24_59 n24 (wr (v4 + 0)) (wr (v5 + 1)) q3.2
      else
        Md_runs_l24 c1 c3 K24_59 n24 (wr (v4 + 1)) (wr (v5 + 1)) q3.2)
def Md_runs_l86 (c1 : Int) (c3 : Int) (c4 : Int) (K86_131 : Int → Gx → Option Gx) : Nat → Int → Int → Gx → Option Gx
  | 0, _, _, _ => none
  | n86 + 1, v5, v6, g =>
    if 0 < v5 then
      Option.bind (Md_can v6 c1 48 g) (fun q6 =>
      if q6.1 = 0 then
        Md_runs_l86 c1 c3 c4 K86_131 n86 (wr (v5 - 0)) (wr (v6 + 1)) q6.2
      else
        Md_runs_l86 c1 c3 c4 K86_131 n86 (wr (v5 - 1)) (wr (v6 + 1)) q6.2)
    else
      Option.bind (Md_can v6 c1 48 g) (fun q7 =>
      if ¬ q7.1 = 0 then
        K86_131 v6 q7.2
      else
        Option.bind (Md_can v6 c1 48 q7.2) (fun q8 =>
        if q8.1 = 0 then
          Md_runs_l86 c1 c3 c4 K86_131 n86 (wr (v5 - 0)) (wr (v6 + 1)) q8.2
        else
          Md_runs_l86 c1 c3 c4 K86_131 n86 (wr (v5 - 1)) (wr (v6 + 1)) q8.2))
def Md_runs_l13 (c1 : Int) (K13_162 : Gx → Option Gx) : Nat → Int → Int → Gx → Option Gx
  | 0, _, _, _ => none
  | n13 + 1, v3, v4, g =>
    if v4 ≤ 0 then
      K13_162 g
    else
      Md_runs_l24 c1 v3
        (fun x4 g5 =>
          if x4 ≤ 0 then
            Md_runs_l13 c1 K13_162 n13 v3 x4 g5
          else
            if x4 = 0 then none else
            Md_runs_l86 c1 (wr ((wr (1103515245 * v3)) + 12345)) x4
              (fun x9 g10 =>
                Option.bind (Md_does x9 c1 g10) (fun g11 =>
                if 0 ≤ (g11 92 43) ∧ (g11 92 43) < 48 then
                Md_runs_l13 c1 K13_162 n13 (wr ((wr (1103515245 * v3)) + 12345)) x4 (gset (gset g11 123 ((g11 92 43).toNat) x9) 92 43 (wr ((g11 92 43) + 1)))
                else none))
              fu (jrem (jushr (wr ((wr (1103515245 * v3)) + 12345)) 16) x4) 0 g5)
        fu 0 0 g
def Md_runs (a1 a2 : Int) (g : Gx) : Option Gx :=
  Option.bind (Md_findLooks g) (fun g1 =>
  Option.bind (Md_begins g1) (fun g2 =>
  Md_runs_l13 a1
    (fun g12 =>
      some g12)
    fu a2 1 g2))
def Md_run (a1 a2 a3 : Int) (g : Gx) : Option (Int × Gx) :=
  if (Md_isHistory a1) = 0 then
    some ((-2), g)
  else
    if ¬ (Md_in a3 0 1) = 0 then
      Option.bind (Md_lacksOne a1 g) (fun q1 =>
      if q1.1 = 0 then
        Option.bind (Md_runs a1 a2 q1.2) (fun g2 =>
        if ¬ a3 = 0 then
          some ((g2 92 44), g2)
        else
          some ((g2 92 43), g2))
      else
        some (q1.1, q1.2))
    else
      some ((-2), g)
def Rn_stepper (a1 : Int) (g : Gx) : Int :=
  (rat g 66 48 a1)
def Op_step (a1 a2 a3 : Int) (g : Gx) : Option (Int × Gx) :=
  if (Op_isHistory a1) = 0 then
    some ((-2), g)
  else
    if 0 ≤ a3 then
      Option.bind (Op_hindrance a1 g) (fun q1 =>
      if q1.1 = 0 then
        Option.bind (Rn_goByLots a1 a2 q1.2) (fun g2 =>
        if (Rn_stepCount g2) ≤ a3 then
          some ((-1), g2)
        else
          some ((Rn_stepper a3 g2), g2))
      else
        some (q1.1, q1.2))
    else
      some ((-2), g)
def Md_step (a1 a2 a3 : Int) (g : Gx) : Option (Int × Gx) :=
  if (Md_isHistory a1) = 0 then
    some ((-2), g)
  else
    if 0 ≤ a3 then
      Option.bind (Md_lacksOne a1 g) (fun q1 =>
      if q1.1 = 0 then
        Option.bind (Md_runs a1 a2 q1.2) (fun g2 =>
        if (g2 92 43) ≤ a3 then
          some ((-1), g2)
        else
          if 0 ≤ a3 ∧ a3 < 48 then
          some ((g2 123 a3.toNat), g2)
          else none)
      else
        some (q1.1, q1.2))
    else
      some ((-2), g)
def Rn_goes (a0 a1 a2 : Int) : Int :=
  if ¬ (Op_sayer a0) = a1 then
    0
  else
    if ¬ (Op_getter a0) = a2 then
      0
    else
      1
theorem bo_Rn_goes (a0 a1 a2 : Int) : (Rn_goes a0 a1 a2) = 0 ∨ (Rn_goes a0 a1 a2) = 1 := by
  simp only [Rn_goes, lett]
  (repeat' split) <;> first | exact Or.inl rfl | exact Or.inr rfl | exact Or.inl trivial | exact Or.inr trivial
def Rn_gotAhead_l13 (c1 : Int) (c3 : Int) (c4 : Int) (K13_82 : Int → Gx → Option (Int × Gx)) : Nat → Int → Int → Int → Gx → Option (Int × Gx)
  | 0, _, _, _, _ => none
  | n13 + 1, v5, v6, v7, g =>
    if v7 < 0 then
      K13_82 v6 g
    else
      if (Op_has v5 (Op_getter (Hi_word c1 v7 g))) = 0 then
        Rn_gotAhead_l13 c1 c3 c4 K13_82 n13 v5 v6 (wr (v7 + (-1))) g
      else
        if (Rn_goes (Hi_word c1 v7 g) c3 c4) = 0 then
          Rn_gotAhead_l13 c1 c3 c4 K13_82 n13 (jor v5 (jshl 1 (Op_sayer (Hi_word c1 v7 g)))) (wr (v6 + 0)) (wr (v7 + (-1))) g
        else
          Rn_gotAhead_l13 c1 c3 c4 K13_82 n13 (jor v5 (jshl 1 (Op_sayer (Hi_word c1 v7 g)))) (wr (v6 + 1)) (wr (v7 + (-1))) g
def Rn_gotAhead (a1 a2 a3 a4 : Int) (g : Gx) : Option (Int × Gx) :=
  Rn_gotAhead_l13 a1 a3 a4
    (fun x1 g2 =>
      some (x1, g2))
    fu (jshl 1 a3) 0 (wr (a2 - 1)) g
def Rn_longestEver_l9 (c1 : Int) (c2 : Int) (c3 : Int) (K9_68 : Int → Gx → Option (Int × Gx)) : Nat → Int → Int → Int → Gx → Option (Int × Gx)
  | 0, _, _, _, _ => none
  | n9 + 1, v4, v5, v6, g =>
    if (Hi_length c1 g) ≤ v6 then
      K9_68 v4 g
    else
      if (Rn_goes (Hi_word c1 v6 g) c2 c3) = 0 then
        Rn_longestEver_l9 c1 c2 c3 K9_68 n9 v4 v5 (wr (v6 + 1)) g
      else
        Option.bind (Rn_gotAhead c1 v6 c2 c3 g) (fun q1 =>
        Rn_longestEver_l9 c1 c2 c3 K9_68 n9 (imax v4 (wr ((wr (v5 + 1)) - q1.1))) (wr (v5 + 1)) (wr (v6 + 1)) q1.2)
def Rn_longestEver (a1 a2 a3 : Int) (g : Gx) : Option (Int × Gx) :=
  Rn_longestEver_l9 a1 a2 a3
    (fun x2 g3 =>
      some (x2, g3))
    fu 0 0 0 g
def Op_longest (a1 a2 a3 : Int) (g : Gx) : Option (Int × Gx) :=
  if (Op_isHistory a1) = 0 then
    some ((-2), g)
  else
    if (Op_isTalker a2) = 0 then
      some ((-2), g)
    else
      if (Op_isTalker a3) = 0 then
        some ((-2), g)
      else
        if ¬ a2 = a3 then
          Option.bind (Op_hindrance a1 g) (fun q1 =>
          if q1.1 = 0 then
            Option.bind (Rn_longestEver a1 a2 a3 q1.2) (fun q2 =>
            some (q2.1, q2.2))
          else
            some (q1.1, q1.2))
        else
          some ((-2), g)
def Md_findAheads_l28 (c1 : Int) (c2 : Int) (K28_199 : Gx → Option Gx) : Nat → Int → Gx → Option Gx
  | 0, _, _ => none
  | n28 + 1, v3, g =>
    if c2 ≤ v3 then
      K28_199 g
    else
      Option.bind (Md_code c1 v3 g) (fun q1 =>
      if 0 ≤ v3 ∧ v3 < 24 then
      if 0 ≤ v3 ∧ v3 < 24 then
      Option.bind (Md_code c1 c2 q1.2) (fun q2 =>
      Option.bind (Md_code c1 c2 q2.2) (fun q3 =>
      if 0 ≤ c2 ∧ c2 < 24 then
      lett ((if ¬ (Md_from q1.1) = (Md_from q2.1) then 0 else (mor (q1.2 124 v3.toNat) (mshl 1 (wr (2 * v3))))) : Int) (fun y4 =>
      if 0 ≤ c2 ∧ c2 < 24 then
      if 0 ≤ c2 ∧ c2 < 24 then
      lett ((if ¬ (Md_to q1.1) = (Md_from q2.1) then 0 else (mor (q1.2 125 v3.toNat) (mshl 1 (wr ((wr (2 * v3)) + 1))))) : Int) (fun y5 =>
      if 0 ≤ c2 ∧ c2 < 24 then
      if 0 ≤ c2 ∧ c2 < 24 then
      lett ((if ¬ (Md_from q1.1) = (Md_to q3.1) then 0 else (mor (q1.2 124 v3.toNat) (mshl 1 (wr (2 * v3))))) : Int) (fun y6 =>
      if 0 ≤ c2 ∧ c2 < 24 then
      if 0 ≤ c2 ∧ c2 < 24 then
      if ¬ (Md_to q1.1) = (Md_to q3.1) then
        if 0 ≤ c2 ∧ c2 < 24 then
        Md_findAheads_l28 c1 c2 K28_199 n28 (wr (v3 + 1)) (gset (gset (gset (gset q3.2 124 c2.toNat (mor (q3.2 124 c2.toNat) y4)) 124 c2.toNat (mor ((gset q3.2 124 c2.toNat (mor (q3.2 124 c2.toNat) y4)) 124 c2.toNat) y5)) 125 c2.toNat (mor (q3.2 125 c2.toNat) y6)) 125 c2.toNat (mor ((gset (gset (gset q3.2 124 c2.toNat (mor (q3.2 124 c2.toNat) y4)) 124 c2.toNat (mor ((gset q3.2 124 c2.toNat (mor (q3.2 124 c2.toNat) y4)) 124 c2.toNat) y5)) 125 c2.toNat (mor (q3.2 125 c2.toNat) y6)) 125 c2.toNat) 0))
        else none
      else
        if 0 ≤ c2 ∧ c2 < 24 then
        Md_findAheads_l28 c1 c2 K28_199 n28 (wr (v3 + 1)) (gset (gset (gset (gset q3.2 124 c2.toNat (mor (q3.2 124 c2.toNat) y4)) 124 c2.toNat (mor ((gset q3.2 124 c2.toNat (mor (q3.2 124 c2.toNat) y4)) 124 c2.toNat) y5)) 125 c2.toNat (mor (q3.2 125 c2.toNat) y6)) 125 c2.toNat (mor ((gset (gset (gset q3.2 124 c2.toNat (mor (q3.2 124 c2.toNat) y4)) 124 c2.toNat (mor ((gset q3.2 124 c2.toNat (mor (q3.2 124 c2.toNat) y4)) 124 c2.toNat) y5)) 125 c2.toNat (mor (q3.2 125 c2.toNat) y6)) 125 c2.toNat) (mor (q1.2 125 v3.toNat) (mshl 1 (wr ((wr (2 * v3)) + 1))))))
        else none
      else none
      else none)
      else none
      else none)
      else none
      else none)
      else none))
      else none
      else none)
def Md_findAheads_l2 (c1 : Int) (K2_226 : Gx → Option Gx) : Nat → Int → Gx → Option Gx
  | 0, _, _ => none
  | n2 + 1, v2, g =>
    if 0 ≤ c1 ∧ c1 < 30 then
    if (g 110 c1.toNat) ≤ v2 then
      K2_226 g
    else
      if 0 ≤ v2 ∧ v2 < 24 then
      if 0 ≤ v2 ∧ v2 < 24 then
      Md_findAheads_l28 c1 v2
        (fun g7 =>
          if 0 ≤ v2 ∧ v2 < 24 then
          if 0 ≤ v2 ∧ v2 < 24 then
          if 0 ≤ v2 ∧ v2 < 24 then
          Md_findAheads_l2 c1 K2_226 n2 (wr (v2 + 1)) (gset g7 125 v2.toNat (mor (g7 125 v2.toNat) (mor (g7 124 v2.toNat) (mshl 1 (wr (2 * v2))))))
          else none
          else none
          else none)
        fu 0 (gset (gset g 124 v2.toNat 0) 125 v2.toNat 0)
      else none
      else none
    else none
def Md_findAheads (a1 : Int) (g : Gx) : Option Gx :=
  Md_findAheads_l2 a1
    (fun g8 =>
      some g8)
    fu 0 g
def Md_longest_l106 (c1 : Int) (c2 : Int) (c3 : Int) (c5 : Int) (c6 : Int) (c7 : Int) (K106_190 : Int → Gx → Option (Int × Gx)) : Nat → Int → Int → Gx → Option (Int × Gx)
  | 0, _, _, _ => none
  | n106 + 1, v8, v9, g =>
    if c7 ≤ v9 then
      K106_190 v8 g
    else
      Option.bind (Md_code c1 v9 g) (fun q5 =>
      if ¬ (Md_from q5.1) = c2 then
        Md_longest_l106 c1 c2 c3 c5 c6 c7 K106_190 n106 (wr (v8 + 0)) (wr (v9 + 1)) q5.2
      else
        Option.bind (Md_code c1 v9 q5.2) (fun q6 =>
        lett ((if ¬ (Md_to q6.1) = c3 then 0 else 1) : Int) (fun y7 =>
        if y7 = 0 then
          Md_longest_l106 c1 c2 c3 c5 c6 c7 K106_190 n106 (wr (v8 + 0)) (wr (v9 + 1)) q6.2
        else
          if 0 ≤ c7 ∧ c7 < 24 then
          if ¬ (mcmp (mand (mshr (q6.2 124 c7.toNat) (wr ((wr (2 * v9)) + 1))) 1) 1) = 0 then
            Md_longest_l106 c1 c2 c3 c5 c6 c7 K106_190 n106 (wr (v8 + 0)) (wr (v9 + 1)) q6.2
          else
            Md_longest_l106 c1 c2 c3 c5 c6 c7 K106_190 n106 (wr (v8 + 1)) (wr (v9 + 1)) q6.2
          else none)))
def Md_longest_l58 (c1 : Int) (c2 : Int) (c3 : Int) (K58_218 : Int → Gx → Option (Int × Gx)) : Nat → Int → Int → Int → Gx → Option (Int × Gx)
  | 0, _, _, _, _ => none
  | n58 + 1, v5, v6, v7, g =>
    if 0 ≤ c1 ∧ c1 < 30 then
    if (g 110 c1.toNat) ≤ v7 then
      K58_218 v5 g
    else
      Option.bind (Md_code c1 v7 g) (fun q3 =>
      if ¬ (Md_from q3.1) = c2 then
        Md_longest_l58 c1 c2 c3 K58_218 n58 v5 v6 (wr (v7 + 1)) q3.2
      else
        Option.bind (Md_code c1 v7 q3.2) (fun q4 =>
        if ¬ (Md_to q4.1) = c3 then
          Md_longest_l58 c1 c2 c3 K58_218 n58 v5 v6 (wr (v7 + 1)) q4.2
        else
          Md_longest_l106 c1 c2 c3 v5 (wr (v6 + 1)) v7
            (fun x8 g9 =>
              if (wr ((wr (v6 + 1)) - x8)) ≤ v5 then
                Md_longest_l58 c1 c2 c3 K58_218 n58 v5 (wr (v6 + 1)) (wr (v7 + 1)) g9
              else
                Md_longest_l58 c1 c2 c3 K58_218 n58 (wr ((wr (v6 + 1)) - x8)) (wr (v6 + 1)) (wr (v7 + 1)) g9)
            fu 0 0 q4.2))
    else none
def Md_longest (a1 a2 a3 : Int) (g : Gx) : Option (Int × Gx) :=
  if (Md_isHistory a1) = 0 then
    some ((-2), g)
  else
    if (Md_isOne a2) = 0 then
      some ((-2), g)
    else
      if (Md_isOne a3) = 0 then
        some ((-2), g)
      else
        if ¬ a2 = a3 then
          Option.bind (Md_lacksOne a1 g) (fun q1 =>
          if q1.1 = 0 then
            Option.bind (Md_findAheads a1 q1.2) (fun g2 =>
            Md_longest_l58 a1 a2 a3
              (fun x10 g11 =>
                some (x10, g11))
              fu 0 0 0 g2)
          else
            some (q1.1, q1.2))
        else
          some ((-2), g)
def Rn_chain_l22 (c1 : Int) (c2 : Int) (c3 : Int) (K22_78 : Int → Gx → Option (Int × Gx)) : Nat → Int → Int → Gx → Option (Int × Gx)
  | 0, _, _, _ => none
  | n22 + 1, v4, v5, g =>
    if c3 ≤ v5 then
      K22_78 v4 g
    else
      if ¬ (Op_getter (Hi_word c1 v5 g)) = (Op_sayer (Hi_word c1 c3 g)) then
        Rn_chain_l22 c1 c2 c3 K22_78 n22 v4 (wr (v5 + 1)) g
      else
        Rn_chain_l22 c1 c2 c3 K22_78 n22 (imax v4 (rat g 68 24 v5)) (wr (v5 + 1)) g
def Rn_chain_l4 (c1 : Int) (K4_105 : Int → Gx → Option (Int × Gx)) : Nat → Int → Int → Gx → Option (Int × Gx)
  | 0, _, _, _ => none
  | n4 + 1, v2, v3, g =>
    if (Hi_length c1 g) ≤ v3 then
      K4_105 v2 g
    else
      Rn_chain_l22 c1 v2 v3
        (fun x1 g2 =>
          Rn_chain_l4 c1 K4_105 n4 (imax v2 (wr (x1 + 1))) (wr (v3 + 1)) (rset g2 68 24 v3 (wr (x1 + 1))))
        fu 0 0 g
def Rn_chain (a1 : Int) (g : Gx) : Option (Int × Gx) :=
  Rn_chain_l4 a1
    (fun x3 g4 =>
      some (x3, g4))
    fu 0 0 g
def Rn_goesWithOneAhead_l32 (c1 : Int) (c3 : Int) (c4 : Int) (K32_83 : Gx → Option (Int × Gx)) : Nat → Int → Gx → Option (Int × Gx)
  | 0, _, _ => none
  | n32 + 1, v5, g =>
    if v5 < 0 then
      K32_83 g
    else
      if ¬ (Rn_takesPart c3 (Hi_word c1 v5 g)) = 0 then
        some ((Rn_goes (Hi_word c1 v5 g) c3 c4), g)
      else
        if (Rn_takesPart c4 (Hi_word c1 v5 g)) = 0 then
          Rn_goesWithOneAhead_l32 c1 c3 c4 K32_83 n32 (wr (v5 + (-1))) g
        else
          some ((Rn_goes (Hi_word c1 v5 g) c3 c4), g)
def Rn_goesWithOneAhead (a1 a2 : Int) (g : Gx) : Option (Int × Gx) :=
  Rn_goesWithOneAhead_l32 a1 (Op_sayer (Hi_word a1 a2 g)) (Op_getter (Hi_word a1 a2 g))
    (fun g1 =>
      some (0, g1))
    fu (wr (a2 - 1)) g
def Rn_packed_l4 (c1 : Int) (K4_34 : Int → Gx → Option (Int × Gx)) : Nat → Int → Int → Gx → Option (Int × Gx)
  | 0, _, _, _ => none
  | n4 + 1, v2, v3, g =>
    if (Hi_length c1 g) ≤ v3 then
      K4_34 v2 g
    else
      Option.bind (Rn_goesWithOneAhead c1 v3 g) (fun q1 =>
      if ¬ q1.1 = 0 then
        Rn_packed_l4 c1 K4_34 n4 v2 (wr (v3 + 1)) q1.2
      else
        Rn_packed_l4 c1 K4_34 n4 (wr (v2 + 1)) (wr (v3 + 1)) q1.2)
def Rn_packed (a1 : Int) (g : Gx) : Option (Int × Gx) :=
  Rn_packed_l4 a1
    (fun x2 g3 =>
      some (x2, g3))
    fu 0 0 g
def Op_trips (a1 a2 : Int) (g : Gx) : Option (Int × Gx) :=
  if (Op_isHistory a1) = 0 then
    some ((-2), g)
  else
    if a2 < 0 then
      some ((-2), g)
    else
      if a2 ≤ 1 then
        Option.bind (Op_hindrance a1 g) (fun q1 =>
        if q1.1 = 0 then
          if ¬ a2 = 0 then
            Option.bind (Rn_packed a1 q1.2) (fun q2 =>
            some (q2.1, q2.2))
          else
            Option.bind (Rn_chain a1 q1.2) (fun q3 =>
            some (q3.1, q3.2))
        else
          some (q1.1, q1.2))
      else
        some ((-2), g)
def Md_chainOf_l24 (c1 : Int) (c2 : Int) (c3 : Int) (K24_112 : Gx → Option (Int × Gx)) : Nat → Int → Gx → Option (Int × Gx)
  | 0, _, _ => none
  | n24 + 1, v4, g =>
    if c3 ≤ v4 then
      K24_112 g
    else
      Option.bind (Md_code c1 v4 g) (fun q1 =>
      Option.bind (Md_code c1 c3 q1.2) (fun q2 =>
      lett ((if ¬ (Md_to q1.1) = (Md_from q2.1) then 0 else 1) : Int) (fun y3 =>
      if y3 = 0 then
        if 0 ≤ c3 ∧ c3 < 24 then
        if 0 ≤ c3 ∧ c3 < 24 then
        Md_chainOf_l24 c1 c2 c3 K24_112 n24 (wr (v4 + 1)) (gset q2.2 126 c3.toNat (q2.2 126 c3.toNat))
        else none
        else none
      else
        if 0 ≤ v4 ∧ v4 < 24 then
        if 0 ≤ c3 ∧ c3 < 24 then
        if (wr ((q2.2 126 v4.toNat) + 1)) ≤ (q2.2 126 c3.toNat) then
          if 0 ≤ c3 ∧ c3 < 24 then
          if 0 ≤ c3 ∧ c3 < 24 then
          Md_chainOf_l24 c1 c2 c3 K24_112 n24 (wr (v4 + 1)) (gset q2.2 126 c3.toNat (q2.2 126 c3.toNat))
          else none
          else none
        else
          if 0 ≤ v4 ∧ v4 < 24 then
          if 0 ≤ c3 ∧ c3 < 24 then
          Md_chainOf_l24 c1 c2 c3 K24_112 n24 (wr (v4 + 1)) (gset q2.2 126 c3.toNat (wr ((q2.2 126 v4.toNat) + 1)))
          else none
          else none
        else none
        else none)))
def Md_chainOf_l4 (c1 : Int) (K4_139 : Int → Gx → Option (Int × Gx)) : Nat → Int → Int → Gx → Option (Int × Gx)
  | 0, _, _, _ => none
  | n4 + 1, v2, v3, g =>
    if 0 ≤ c1 ∧ c1 < 30 then
    if (g 110 c1.toNat) ≤ v3 then
      K4_139 v2 g
    else
      if 0 ≤ v3 ∧ v3 < 24 then
      Md_chainOf_l24 c1 v2 v3
        (fun g4 =>
          if 0 ≤ v3 ∧ v3 < 24 then
          if (g4 126 v3.toNat) ≤ v2 then
            Md_chainOf_l4 c1 K4_139 n4 v2 (wr (v3 + 1)) g4
          else
            if 0 ≤ v3 ∧ v3 < 24 then
            Md_chainOf_l4 c1 K4_139 n4 (g4 126 v3.toNat) (wr (v3 + 1)) g4
            else none
          else none)
        fu 0 (gset g 126 v3.toNat 1)
      else none
    else none
def Md_chainOf (a1 : Int) (g : Gx) : Option (Int × Gx) :=
  Md_chainOf_l4 a1
    (fun x5 g6 =>
      some (x5, g6))
    fu 0 0 g
def Md_packedOf_l41 (c1 : Int) (c2 : Int) (c3 : Int) (c4 : Int) (c5 : Int) (K41_112 : Int → Gx → Option (Int × Gx)) : Nat → Int → Gx → Option (Int × Gx)
  | 0, _, _ => none
  | n41 + 1, v6, g =>
    if v6 < 0 then
      K41_112 v6 g
    else
      Option.bind (Md_code c1 v6 g) (fun q3 =>
      if (Md_from q3.1) = c4 then
        K41_112 v6 q3.2
      else
        Option.bind (Md_code c1 v6 q3.2) (fun q4 =>
        if (Md_to q4.1) = c4 then
          K41_112 v6 q4.2
        else
          Option.bind (Md_code c1 v6 q4.2) (fun q5 =>
          if (Md_from q5.1) = c5 then
            K41_112 v6 q5.2
          else
            Option.bind (Md_code c1 v6 q5.2) (fun q6 =>
            if (Md_to q6.1) = c5 then
              K41_112 v6 q6.2
            else
              Md_packedOf_l41 c1 c2 c3 c4 c5 K41_112 n41 (wr (v6 + (-1))) q6.2))))
def Md_packedOf_l4 (c1 : Int) (K4_173 : Int → Gx → Option (Int × Gx)) : Nat → Int → Int → Gx → Option (Int × Gx)
  | 0, _, _, _ => none
  | n4 + 1, v2, v3, g =>
    if 0 ≤ c1 ∧ c1 < 30 then
    if (g 110 c1.toNat) ≤ v3 then
      K4_173 v2 g
    else
      Option.bind (Md_code c1 v3 g) (fun q1 =>
      Option.bind (Md_code c1 v3 q1.2) (fun q2 =>
      Md_packedOf_l41 c1 v2 v3 (Md_from q1.1) (Md_to q2.1)
        (fun x7 g8 =>
          if x7 < 0 then
            Md_packedOf_l4 c1 K4_173 n4 (wr (v2 + 1)) (wr (v3 + 1)) g8
          else
            Option.bind (Md_code c1 x7 g8) (fun q9 =>
            if ¬ (Md_from q9.1) = (Md_from q1.1) then
              Md_packedOf_l4 c1 K4_173 n4 (wr (v2 + 1)) (wr (v3 + 1)) q9.2
            else
              Option.bind (Md_code c1 x7 q9.2) (fun q10 =>
              lett ((if ¬ (Md_to q10.1) = (Md_to q2.1) then 0 else 1) : Int) (fun y11 =>
              if y11 = 0 then
                Md_packedOf_l4 c1 K4_173 n4 (wr (v2 + 1)) (wr (v3 + 1)) q10.2
              else
                Md_packedOf_l4 c1 K4_173 n4 (wr (v2 + 0)) (wr (v3 + 1)) q10.2))))
        fu (wr (v3 - 1)) q2.2))
    else none
def Md_packedOf (a1 : Int) (g : Gx) : Option (Int × Gx) :=
  Md_packedOf_l4 a1
    (fun x12 g13 =>
      some (x12, g13))
    fu 0 0 g
def Md_trips (a1 a2 : Int) (g : Gx) : Option (Int × Gx) :=
  if (Md_isHistory a1) = 0 then
    some ((-2), g)
  else
    if ¬ (Md_in a2 0 1) = 0 then
      Option.bind (Md_lacksOne a1 g) (fun q1 =>
      if q1.1 = 0 then
        if ¬ a2 = 0 then
          Option.bind (Md_packedOf a1 q1.2) (fun q2 =>
          some (q2.1, q2.2))
        else
          Option.bind (Md_chainOf a1 q1.2) (fun q3 =>
          some (q3.1, q3.2))
      else
        some (q1.1, q1.2))
    else
      some ((-2), g)
def Rn_goWithLost_l14 (c1 : Int) (c2 : Int) (K14_171 : Int → Gx → Option Gx) : Nat → Int → Int → Int → Gx → Option Gx
  | 0, _, _, _, _ => none
  | n14 + 1, v4, v5, v6, g =>
    if (Hi_length c1 g) ≤ v6 then
      K14_171 v4 g
    else
      lett ((if (Rn_takesPart c2 (Hi_word c1 v6 g)) = 0 then v4 else (if ¬ v5 = 0 then (jor v4 0) else (jor v4 (jshl 1 c2)))) : Int) (fun y1 =>
      lett ((if (Rn_takesPart c2 (Hi_word c1 v6 g)) = 0 then v5 else (if ¬ v5 = 0 then (imax 0 (wr (v5 - 1))) else (imax 0 (wr (v5 - 1))))) : Int) (fun y2 =>
      lett ((if ¬ (Op_has y1 (Op_sayer (Hi_word c1 v6 g))) = 0 then 0 else 1) : Int) (fun y3 =>
      lett ((if y3 = 0 then 0 else (if ¬ (Op_has y1 (Op_getter (Hi_word c1 v6 g))) = 0 then 0 else 1)) : Int) (fun y4 =>
      lett ((if y4 = 0 then (jshl 1 (Op_getter (Hi_word c1 v6 g))) else 0) : Int) (fun y5 =>
      if y3 = 0 then
        Rn_goWithLost_l14 c1 c2 K14_171 n14 (jor y1 y5) y2 (wr (v6 + 1)) (gset g 60 8 (wr ((g 60 8) + 0)))
      else
        if ¬ y4 = 0 then
          Rn_goWithLost_l14 c1 c2 K14_171 n14 (jor y1 y5) y2 (wr (v6 + 1)) (gset g 60 8 (wr ((g 60 8) + 0)))
        else
          Rn_goWithLost_l14 c1 c2 K14_171 n14 (jor y1 y5) y2 (wr (v6 + 1)) (gset g 60 8 (wr ((g 60 8) + 1))))))))
def Rn_goWithLost (a1 a2 a3 : Int) (g : Gx) : Option Gx :=
  Rn_goWithLost_l14 a1 a2
    (fun x6 g7 =>
      some (gset g7 60 7 (jand x6 (jxor (jshl 1 a2) (-1)))))
    fu 0 a3 0 (gset g 60 8 0)
def Rn_stuck (g : Gx) : Int :=
  (g 60 7)
def Rn_neverGot (g : Gx) : Int :=
  (g 60 8)
def Op_lost (a1 a2 a3 a4 : Int) (g : Gx) : Option (Int × Gx) :=
  if (Op_isHistory a1) = 0 then
    some ((-2), g)
  else
    if (Op_isTalker a2) = 0 then
      some ((-2), g)
    else
      if a3 < 0 then
        some ((-2), g)
      else
        if a4 < 0 then
          some ((-2), g)
        else
          if a4 ≤ 1 then
            Option.bind (Op_hindrance a1 g) (fun q1 =>
            if q1.1 = 0 then
              Option.bind (Rn_goWithLost a1 a2 a3 q1.2) (fun g2 =>
              if ¬ a4 = 0 then
                some ((Rn_neverGot g2), g2)
              else
                some ((Rn_stuck g2), g2))
            else
              some (q1.1, q1.2))
          else
            some ((-2), g)
def Md_lost_l69 (c1 : Int) (c2 : Int) (c3 : Int) (c4 : Int) (K69_114 : Int → Gx → Option (Int × Gx)) : Nat → Int → Int → Gx → Option (Int × Gx)
  | 0, _, _, _ => none
  | n69 + 1, v6, v7, g =>
    if 6 ≤ v7 then
      K69_114 v6 g
    else
      lett ((if ¬ v7 = c2 then 48 else c3) : Int) (fun y4 =>
      Option.bind (Md_can v7 c1 y4 g) (fun q5 =>
      if q5.1 = 0 then
        Md_lost_l69 c1 c2 c3 c4 K69_114 n69 v6 (wr (v7 + 1)) q5.2
      else
        Option.bind (Md_does v7 c1 q5.2) (fun g6 =>
        Md_lost_l69 c1 c2 c3 c4 K69_114 n69 1 (wr (v7 + 1)) g6)))
def Md_lost_l58 (c1 : Int) (c2 : Int) (c3 : Int) (c4 : Int) (K58_117 : Gx → Option (Int × Gx)) : Nat → Int → Gx → Option (Int × Gx)
  | 0, _, _ => none
  | n58 + 1, v6, g =>
    if v6 = 0 then
      K58_117 g
    else
      Md_lost_l69 c1 c2 c3 c4
        (fun x7 g8 =>
          Md_lost_l58 c1 c2 c3 c4 K58_117 n58 x7 g8)
        fu 0 0 g
def Md_lost_l126 (c1 : Int) (c2 : Int) (c4 : Int) (c8 : Int) (K126_180 : Int → Gx → Option (Int × Gx)) : Nat → Int → Int → Gx → Option (Int × Gx)
  | 0, _, _, _ => none
  | n126 + 1, v7, v9, g =>
    if 6 ≤ v9 then
      K126_180 v7 g
    else
      if v9 = c2 then
        Md_lost_l126 c1 c2 c4 c8 K126_180 n126 (jor v7 0) (wr (v9 + 1)) g
      else
        if 0 ≤ v9 ∧ v9 < 6 then
        if 0 ≤ (wr ((wr (6 * c1)) + v9)) ∧ (wr ((wr (6 * c1)) + v9)) < 180 then
        if (g 118 (wr ((wr (6 * c1)) + v9)).toNat) ≤ (g 121 v9.toNat) then
          Md_lost_l126 c1 c2 c4 c8 K126_180 n126 (jor v7 0) (wr (v9 + 1)) g
        else
          Md_lost_l126 c1 c2 c4 c8 K126_180 n126 (jor v7 (jshl 1 v9)) (wr (v9 + 1)) g
        else none
        else none
def Md_lost_l183 (c4 : Int) (c7 : Int) (K183_208 : Int → Gx → Option (Int × Gx)) : Nat → Int → Int → Gx → Option (Int × Gx)
  | 0, _, _, _ => none
  | n183 + 1, v8, v9, g =>
    if 36 ≤ v9 then
      K183_208 v8 g
    else
      if 0 ≤ v9 ∧ v9 < 36 then
      Md_lost_l183 c4 c7 K183_208 n183 (wr (v8 + (g 122 v9.toNat))) (wr (v9 + 1)) g
      else none
def Md_lost (a1 a2 a3 a4 : Int) (g : Gx) : Option (Int × Gx) :=
  if (Md_isHistory a1) = 0 then
    some ((-2), g)
  else
    if (Md_isOne a2) = 0 then
      some ((-2), g)
    else
      if a3 < 0 then
        some ((-2), g)
      else
        if ¬ (Md_in a4 0 1) = 0 then
          Option.bind (Md_lacksOne a1 g) (fun q1 =>
          if q1.1 = 0 then
            Option.bind (Md_findLooks q1.2) (fun g2 =>
            Option.bind (Md_begins g2) (fun g3 =>
            Md_lost_l58 a1 a2 a3 a4
              (fun g9 =>
                Md_lost_l126 a1 a2 a4 0
                  (fun x10 g11 =>
                    Md_lost_l183 a4 x10
                      (fun x12 g13 =>
                        if ¬ a4 = 0 then
                          some (x12, g13)
                        else
                          some (x10, g13))
                      fu 0 0 g11)
                  fu 0 0 g9)
              fu 1 g3))
          else
            some (q1.1, q1.2))
        else
          some ((-2), g)
def Pg_length (a1 : Int) (g : Gx) : Int :=
  (wr ((rat g 77 9 (wr (a1 + 1))) - (rat g 77 9 a1)))
