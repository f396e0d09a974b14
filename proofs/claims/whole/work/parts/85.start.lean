/-! The start of the law: both objects are made; behind that the small machine goes on. Printed by wip/gen/gen_start.py. -/
def adx (q1 q2 b : Nat) (u v : Nat → Nat) : Nat → Nat := fun i => cond (Nat.beq i 0) q1 (cond (Nat.ble i 91) (u (i - 1)) (cond (Nat.beq i 92) q2 (cond (Nat.ble i 127) (v (i - 93)) b)))
theorem f4_eq : (fun j : Nat => Int32.ofInt (cond (Nat.ble 4 j) 0 (-1))) = fill4 (fun _ => 0) := by
  funext j
  match j with
  | 0 => rfl
  | 1 => rfl
  | 2 => rfl
  | 3 => rfl
  | k + 4 =>
    have h : Nat.ble 4 (k + 4) = true := Nat.ble_eq_true_of_le (by omega)
    rw [h]
    simp [fill4, upd]
set_option maxRecDepth 100000 in
theorem c0_0 (q1 q2 b : Nat) (u v : Nat → Nat) (cI cJ : ClassId) (xs : Nat → Int32) (n : Nat) : (adx q1 q2 b u v 0, cellX (adx q1 q2 b u v) cI cJ (g0x xs n) 0) = (q1, .inr (11, [.ref (u 0), .ref (u 3), .ref (u 6), .ref (u 27), .ref (u 32), .ref (u 49), .ref (u 54), .ref (u 59), .ref (u 68), .ref (u 77), .ref (u 84), .int 0, .int 0])) := by
  show (_, Sum.inr (11, fldX (adx q1 q2 b u v) (g0x xs n) 0 [some 1, some 4, some 7, some 28, some 33, some 50, some 55, some 60, some 69, some 78, some 85, none, none])) = _
  simp only [fldX, List.mapIdx_cons, List.mapIdx_nil, fvX]
  rfl
theorem c0_1 (q1 q2 b : Nat) (u v : Nat → Nat) (cI cJ : ClassId) (xs : Nat → Int32) (n : Nat) : (adx q1 q2 b u v 1, cellX (adx q1 q2 b u v) cI cJ (g0x xs n) 1) = ((u 0), .inr (10, [.ref (u 1), .int 160, .int 0, .int 0])) := rfl
theorem c0_2 (q1 q2 b : Nat) (u v : Nat → Nat) (cI cJ : ClassId) (xs : Nat → Int32) (n : Nat) : (adx q1 q2 b u v 2, cellX (adx q1 q2 b u v) cI cJ (g0x xs n) 2) = ((u 1), .inr (6, [.ref (u 2)])) := rfl
theorem c0_3 (q1 q2 b : Nat) (u v : Nat → Nat) (cI cJ : ClassId) (xs : Nat → Int32) (n : Nat) : (adx q1 q2 b u v 3, cellX (adx q1 q2 b u v) cI cJ (g0x xs n) 3) = ((u 2), .inl (cI, 160, .inl (fun _ => 0))) := rfl
theorem c0_4 (q1 q2 b : Nat) (u v : Nat → Nat) (cI cJ : ClassId) (xs : Nat → Int32) (n : Nat) : (adx q1 q2 b u v 4, cellX (adx q1 q2 b u v) cI cJ (g0x xs n) 4) = ((u 3), .inr (10, [.ref (u 4), .int 80, .int 0, .int 0])) := rfl
theorem c0_5 (q1 q2 b : Nat) (u v : Nat → Nat) (cI cJ : ClassId) (xs : Nat → Int32) (n : Nat) : (adx q1 q2 b u v 5, cellX (adx q1 q2 b u v) cI cJ (g0x xs n) 5) = ((u 4), .inr (6, [.ref (u 5)])) := rfl
theorem c0_6 (q1 q2 b : Nat) (u v : Nat → Nat) (cI cJ : ClassId) (xs : Nat → Int32) (n : Nat) : (adx q1 q2 b u v 6, cellX (adx q1 q2 b u v) cI cJ (g0x xs n) 6) = ((u 5), .inl (cI, 80, .inl (fun _ => 0))) := rfl
set_option maxRecDepth 100000 in
theorem c0_7 (q1 q2 b : Nat) (u v : Nat → Nat) (cI cJ : ClassId) (xs : Nat → Int32) (n : Nat) : (adx q1 q2 b u v 7, cellX (adx q1 q2 b u v) cI cJ (g0x xs n) 7) = ((u 6), .inr (9, [.ref (u 7), .ref (u 9), .ref (u 11), .ref (u 13), .ref (u 15), .ref (u 17), .ref (u 19), .ref (u 21), .ref (u 23), .ref (u 25), .int 0, .int 0, .int 0])) := by
  show (_, Sum.inr (9, fldX (adx q1 q2 b u v) (g0x xs n) 7 [some 8, some 10, some 12, some 14, some 16, some 18, some 20, some 22, some 24, some 26, none, none, none])) = _
  simp only [fldX, List.mapIdx_cons, List.mapIdx_nil, fvX]
  rfl
theorem c0_8 (q1 q2 b : Nat) (u v : Nat → Nat) (cI cJ : ClassId) (xs : Nat → Int32) (n : Nat) : (adx q1 q2 b u v 8, cellX (adx q1 q2 b u v) cI cJ (g0x xs n) 8) = ((u 7), .inr (6, [.ref (u 8)])) := rfl
theorem c0_9 (q1 q2 b : Nat) (u v : Nat → Nat) (cI cJ : ClassId) (xs : Nat → Int32) (n : Nat) : (adx q1 q2 b u v 9, cellX (adx q1 q2 b u v) cI cJ (g0x xs n) 9) = ((u 8), .inl (cI, 160, .inl (fun _ => 0))) := rfl
theorem c0_10 (q1 q2 b : Nat) (u v : Nat → Nat) (cI cJ : ClassId) (xs : Nat → Int32) (n : Nat) : (adx q1 q2 b u v 10, cellX (adx q1 q2 b u v) cI cJ (g0x xs n) 10) = ((u 9), .inr (6, [.ref (u 10)])) := rfl
theorem c0_11 (q1 q2 b : Nat) (u v : Nat → Nat) (cI cJ : ClassId) (xs : Nat → Int32) (n : Nat) : (adx q1 q2 b u v 11, cellX (adx q1 q2 b u v) cI cJ (g0x xs n) 11) = ((u 10), .inl (cI, 160, .inl (fun _ => 0))) := rfl
theorem c0_12 (q1 q2 b : Nat) (u v : Nat → Nat) (cI cJ : ClassId) (xs : Nat → Int32) (n : Nat) : (adx q1 q2 b u v 12, cellX (adx q1 q2 b u v) cI cJ (g0x xs n) 12) = ((u 11), .inr (6, [.ref (u 12)])) := rfl
theorem c0_13 (q1 q2 b : Nat) (u v : Nat → Nat) (cI cJ : ClassId) (xs : Nat → Int32) (n : Nat) : (adx q1 q2 b u v 13, cellX (adx q1 q2 b u v) cI cJ (g0x xs n) 13) = ((u 12), .inl (cI, 40, .inl (fun _ => 0))) := rfl
theorem c0_14 (q1 q2 b : Nat) (u v : Nat → Nat) (cI cJ : ClassId) (xs : Nat → Int32) (n : Nat) : (adx q1 q2 b u v 14, cellX (adx q1 q2 b u v) cI cJ (g0x xs n) 14) = ((u 13), .inr (6, [.ref (u 14)])) := rfl
theorem c0_15 (q1 q2 b : Nat) (u v : Nat → Nat) (cI cJ : ClassId) (xs : Nat → Int32) (n : Nat) : (adx q1 q2 b u v 15, cellX (adx q1 q2 b u v) cI cJ (g0x xs n) 15) = ((u 14), .inl (cI, 40, .inl (fun _ => 0))) := rfl
theorem c0_16 (q1 q2 b : Nat) (u v : Nat → Nat) (cI cJ : ClassId) (xs : Nat → Int32) (n : Nat) : (adx q1 q2 b u v 16, cellX (adx q1 q2 b u v) cI cJ (g0x xs n) 16) = ((u 15), .inr (6, [.ref (u 16)])) := rfl
theorem c0_17 (q1 q2 b : Nat) (u v : Nat → Nat) (cI cJ : ClassId) (xs : Nat → Int32) (n : Nat) : (adx q1 q2 b u v 17, cellX (adx q1 q2 b u v) cI cJ (g0x xs n) 17) = ((u 16), .inl (cI, 160, .inl (fun _ => 0))) := rfl
theorem c0_18 (q1 q2 b : Nat) (u v : Nat → Nat) (cI cJ : ClassId) (xs : Nat → Int32) (n : Nat) : (adx q1 q2 b u v 18, cellX (adx q1 q2 b u v) cI cJ (g0x xs n) 18) = ((u 17), .inr (6, [.ref (u 18)])) := rfl
theorem c0_19 (q1 q2 b : Nat) (u v : Nat → Nat) (cI cJ : ClassId) (xs : Nat → Int32) (n : Nat) : (adx q1 q2 b u v 19, cellX (adx q1 q2 b u v) cI cJ (g0x xs n) 19) = ((u 18), .inl (cI, 40, .inl (fun _ => 0))) := rfl
theorem c0_20 (q1 q2 b : Nat) (u v : Nat → Nat) (cI cJ : ClassId) (xs : Nat → Int32) (n : Nat) : (adx q1 q2 b u v 20, cellX (adx q1 q2 b u v) cI cJ (g0x xs n) 20) = ((u 19), .inr (6, [.ref (u 20)])) := rfl
theorem c0_21 (q1 q2 b : Nat) (u v : Nat → Nat) (cI cJ : ClassId) (xs : Nat → Int32) (n : Nat) : (adx q1 q2 b u v 21, cellX (adx q1 q2 b u v) cI cJ (g0x xs n) 21) = ((u 20), .inl (cI, 5, .inl (fun _ => 0))) := rfl
theorem c0_22 (q1 q2 b : Nat) (u v : Nat → Nat) (cI cJ : ClassId) (xs : Nat → Int32) (n : Nat) : (adx q1 q2 b u v 22, cellX (adx q1 q2 b u v) cI cJ (g0x xs n) 22) = ((u 21), .inr (6, [.ref (u 22)])) := rfl
theorem c0_23 (q1 q2 b : Nat) (u v : Nat → Nat) (cI cJ : ClassId) (xs : Nat → Int32) (n : Nat) : (adx q1 q2 b u v 23, cellX (adx q1 q2 b u v) cI cJ (g0x xs n) 23) = ((u 22), .inl (cI, 5, .inl (fun _ => 0))) := rfl
theorem c0_24 (q1 q2 b : Nat) (u v : Nat → Nat) (cI cJ : ClassId) (xs : Nat → Int32) (n : Nat) : (adx q1 q2 b u v 24, cellX (adx q1 q2 b u v) cI cJ (g0x xs n) 24) = ((u 23), .inr (6, [.ref (u 24)])) := rfl
theorem c0_25 (q1 q2 b : Nat) (u v : Nat → Nat) (cI cJ : ClassId) (xs : Nat → Int32) (n : Nat) : (adx q1 q2 b u v 25, cellX (adx q1 q2 b u v) cI cJ (g0x xs n) 25) = ((u 24), .inl (cI, 5, .inl (fun _ => 0))) := rfl
theorem c0_26 (q1 q2 b : Nat) (u v : Nat → Nat) (cI cJ : ClassId) (xs : Nat → Int32) (n : Nat) : (adx q1 q2 b u v 26, cellX (adx q1 q2 b u v) cI cJ (g0x xs n) 26) = ((u 25), .inr (6, [.ref (u 26)])) := rfl
theorem c0_27 (q1 q2 b : Nat) (u v : Nat → Nat) (cI cJ : ClassId) (xs : Nat → Int32) (n : Nat) : (adx q1 q2 b u v 27, cellX (adx q1 q2 b u v) cI cJ (g0x xs n) 27) = ((u 26), .inl (cI, 5, .inl (fun _ => 0))) := rfl
set_option maxRecDepth 100000 in
theorem c0_28 (q1 q2 b : Nat) (u v : Nat → Nat) (cI cJ : ClassId) (xs : Nat → Int32) (n : Nat) : (adx q1 q2 b u v 28, cellX (adx q1 q2 b u v) cI cJ (g0x xs n) 28) = ((u 27), .inr (4, [.ref (u 0), .ref (u 6), .ref (u 28), .ref (u 30), .int 0, .int 0, .int (-1), .int 0, .int 0, .int (-1)])) := by
  show (_, Sum.inr (4, fldX (adx q1 q2 b u v) (g0x xs n) 28 [some 1, some 7, some 29, some 31, none, none, none, none, none, none])) = _
  simp only [fldX, List.mapIdx_cons, List.mapIdx_nil, fvX]
  rfl
theorem c0_29 (q1 q2 b : Nat) (u v : Nat → Nat) (cI cJ : ClassId) (xs : Nat → Int32) (n : Nat) : (adx q1 q2 b u v 29, cellX (adx q1 q2 b u v) cI cJ (g0x xs n) 29) = ((u 28), .inr (6, [.ref (u 29)])) := rfl
theorem c0_30 (q1 q2 b : Nat) (u v : Nat → Nat) (cI cJ : ClassId) (xs : Nat → Int32) (n : Nat) : (adx q1 q2 b u v 30, cellX (adx q1 q2 b u v) cI cJ (g0x xs n) 30) = ((u 29), .inl (cI, 4, .inl (fun _ => 0))) := rfl
theorem c0_31 (q1 q2 b : Nat) (u v : Nat → Nat) (cI cJ : ClassId) (xs : Nat → Int32) (n : Nat) : (adx q1 q2 b u v 31, cellX (adx q1 q2 b u v) cI cJ (g0x xs n) 31) = ((u 30), .inr (6, [.ref (u 31)])) := rfl
theorem c0_32 (q1 q2 b : Nat) (u v : Nat → Nat) (cI cJ : ClassId) (xs : Nat → Int32) (n : Nat) : (adx q1 q2 b u v 32, cellX (adx q1 q2 b u v) cI cJ (g0x xs n) 32) = ((u 31), .inl (cI, 4, .inl (fun _ => 0))) := rfl
set_option maxRecDepth 100000 in
theorem c0_33 (q1 q2 b : Nat) (u v : Nat → Nat) (cI cJ : ClassId) (xs : Nat → Int32) (n : Nat) : (adx q1 q2 b u v 33, cellX (adx q1 q2 b u v) cI cJ (g0x xs n) 33) = ((u 32), .inr (1, [.ref (u 6), .ref (u 33), .ref (u 35), .ref (u 37), .ref (u 39), .ref (u 41), .ref (u 43), .ref (u 45), .ref (u 47), .int 0, .int 0, .int 0, .int 0, .int (-1), .int (-1), .int 0, .int 0])) := by
  show (_, Sum.inr (1, fldX (adx q1 q2 b u v) (g0x xs n) 33 [some 7, some 34, some 36, some 38, some 40, some 42, some 44, some 46, some 48, none, none, none, none, none, none, none, none])) = _
  simp only [fldX, List.mapIdx_cons, List.mapIdx_nil, fvX]
  rfl
theorem c0_34 (q1 q2 b : Nat) (u v : Nat → Nat) (cI cJ : ClassId) (xs : Nat → Int32) (n : Nat) : (adx q1 q2 b u v 34, cellX (adx q1 q2 b u v) cI cJ (g0x xs n) 34) = ((u 33), .inr (6, [.ref (u 34)])) := rfl
theorem c0_35 (q1 q2 b : Nat) (u v : Nat → Nat) (cI cJ : ClassId) (xs : Nat → Int32) (n : Nat) : (adx q1 q2 b u v 35, cellX (adx q1 q2 b u v) cI cJ (g0x xs n) 35) = ((u 34), .inl (cI, 720, .inl (fun _ => 0))) := rfl
theorem c0_36 (q1 q2 b : Nat) (u v : Nat → Nat) (cI cJ : ClassId) (xs : Nat → Int32) (n : Nat) : (adx q1 q2 b u v 36, cellX (adx q1 q2 b u v) cI cJ (g0x xs n) 36) = ((u 35), .inr (6, [.ref (u 36)])) := rfl
theorem c0_37 (q1 q2 b : Nat) (u v : Nat → Nat) (cI cJ : ClassId) (xs : Nat → Int32) (n : Nat) : (adx q1 q2 b u v 37, cellX (adx q1 q2 b u v) cI cJ (g0x xs n) 37) = ((u 36), .inl (cI, 30, .inl (fun _ => 0))) := rfl
theorem c0_38 (q1 q2 b : Nat) (u v : Nat → Nat) (cI cJ : ClassId) (xs : Nat → Int32) (n : Nat) : (adx q1 q2 b u v 38, cellX (adx q1 q2 b u v) cI cJ (g0x xs n) 38) = ((u 37), .inr (6, [.ref (u 38)])) := rfl
theorem c0_39 (q1 q2 b : Nat) (u v : Nat → Nat) (cI cJ : ClassId) (xs : Nat → Int32) (n : Nat) : (adx q1 q2 b u v 39, cellX (adx q1 q2 b u v) cI cJ (g0x xs n) 39) = ((u 38), .inl (cI, 30, .inl (fun _ => 0))) := rfl
theorem c0_40 (q1 q2 b : Nat) (u v : Nat → Nat) (cI cJ : ClassId) (xs : Nat → Int32) (n : Nat) : (adx q1 q2 b u v 40, cellX (adx q1 q2 b u v) cI cJ (g0x xs n) 40) = ((u 39), .inr (6, [.ref (u 40)])) := rfl
theorem c0_41 (q1 q2 b : Nat) (u v : Nat → Nat) (cI cJ : ClassId) (xs : Nat → Int32) (n : Nat) : (adx q1 q2 b u v 41, cellX (adx q1 q2 b u v) cI cJ (g0x xs n) 41) = ((u 40), .inl (cI, 30, .inl (fun _ => 0))) := rfl
theorem c0_42 (q1 q2 b : Nat) (u v : Nat → Nat) (cI cJ : ClassId) (xs : Nat → Int32) (n : Nat) : (adx q1 q2 b u v 42, cellX (adx q1 q2 b u v) cI cJ (g0x xs n) 42) = ((u 41), .inr (6, [.ref (u 42)])) := rfl
theorem c0_43 (q1 q2 b : Nat) (u v : Nat → Nat) (cI cJ : ClassId) (xs : Nat → Int32) (n : Nat) : (adx q1 q2 b u v 43, cellX (adx q1 q2 b u v) cI cJ (g0x xs n) 43) = ((u 42), .inl (cI, 30, .inl (fun _ => 0))) := rfl
theorem c0_44 (q1 q2 b : Nat) (u v : Nat → Nat) (cI cJ : ClassId) (xs : Nat → Int32) (n : Nat) : (adx q1 q2 b u v 44, cellX (adx q1 q2 b u v) cI cJ (g0x xs n) 44) = ((u 43), .inr (6, [.ref (u 44)])) := rfl
theorem c0_45 (q1 q2 b : Nat) (u v : Nat → Nat) (cI cJ : ClassId) (xs : Nat → Int32) (n : Nat) : (adx q1 q2 b u v 45, cellX (adx q1 q2 b u v) cI cJ (g0x xs n) 45) = ((u 44), .inl (cI, 30, .inl (fun _ => 0))) := rfl
theorem c0_46 (q1 q2 b : Nat) (u v : Nat → Nat) (cI cJ : ClassId) (xs : Nat → Int32) (n : Nat) : (adx q1 q2 b u v 46, cellX (adx q1 q2 b u v) cI cJ (g0x xs n) 46) = ((u 45), .inr (6, [.ref (u 46)])) := rfl
theorem c0_47 (q1 q2 b : Nat) (u v : Nat → Nat) (cI cJ : ClassId) (xs : Nat → Int32) (n : Nat) : (adx q1 q2 b u v 47, cellX (adx q1 q2 b u v) cI cJ (g0x xs n) 47) = ((u 46), .inl (cI, 4, .inl (fun _ => 0))) := rfl
theorem c0_48 (q1 q2 b : Nat) (u v : Nat → Nat) (cI cJ : ClassId) (xs : Nat → Int32) (n : Nat) : (adx q1 q2 b u v 48, cellX (adx q1 q2 b u v) cI cJ (g0x xs n) 48) = ((u 47), .inr (6, [.ref (u 48)])) := rfl
theorem c0_49 (q1 q2 b : Nat) (u v : Nat → Nat) (cI cJ : ClassId) (xs : Nat → Int32) (n : Nat) : (adx q1 q2 b u v 49, cellX (adx q1 q2 b u v) cI cJ (g0x xs n) 49) = ((u 48), .inl (cI, 4, .inl (fun _ => 0))) := rfl
theorem c0_50 (q1 q2 b : Nat) (u v : Nat → Nat) (cI cJ : ClassId) (xs : Nat → Int32) (n : Nat) : (adx q1 q2 b u v 50, cellX (adx q1 q2 b u v) cI cJ (g0x xs n) 50) = ((u 49), .inr (3, [.ref (u 32), .ref (u 50), .ref (u 52)])) := rfl
theorem c0_51 (q1 q2 b : Nat) (u v : Nat → Nat) (cI cJ : ClassId) (xs : Nat → Int32) (n : Nat) : (adx q1 q2 b u v 51, cellX (adx q1 q2 b u v) cI cJ (g0x xs n) 51) = ((u 50), .inr (6, [.ref (u 51)])) := rfl
theorem c0_52 (q1 q2 b : Nat) (u v : Nat → Nat) (cI cJ : ClassId) (xs : Nat → Int32) (n : Nat) : (adx q1 q2 b u v 52, cellX (adx q1 q2 b u v) cI cJ (g0x xs n) 52) = ((u 51), .inl (cI, 720, .inl (fun _ => 0))) := rfl
theorem c0_53 (q1 q2 b : Nat) (u v : Nat → Nat) (cI cJ : ClassId) (xs : Nat → Int32) (n : Nat) : (adx q1 q2 b u v 53, cellX (adx q1 q2 b u v) cI cJ (g0x xs n) 53) = ((u 52), .inr (6, [.ref (u 53)])) := rfl
theorem c0_54 (q1 q2 b : Nat) (u v : Nat → Nat) (cI cJ : ClassId) (xs : Nat → Int32) (n : Nat) : (adx q1 q2 b u v 54, cellX (adx q1 q2 b u v) cI cJ (g0x xs n) 54) = ((u 53), .inl (cI, 30, .inl (fun _ => 0))) := rfl
theorem c0_55 (q1 q2 b : Nat) (u v : Nat → Nat) (cI cJ : ClassId) (xs : Nat → Int32) (n : Nat) : (adx q1 q2 b u v 55, cellX (adx q1 q2 b u v) cI cJ (g0x xs n) 55) = ((u 54), .inr (2, [.ref (u 6), .ref (u 32), .ref (u 49), .ref (u 55), .ref (u 57), .int (-1), .int (-1), .int (-1)])) := rfl
theorem c0_56 (q1 q2 b : Nat) (u v : Nat → Nat) (cI cJ : ClassId) (xs : Nat → Int32) (n : Nat) : (adx q1 q2 b u v 56, cellX (adx q1 q2 b u v) cI cJ (g0x xs n) 56) = ((u 55), .inr (6, [.ref (u 56)])) := rfl
theorem c0_57 (q1 q2 b : Nat) (u v : Nat → Nat) (cI cJ : ClassId) (xs : Nat → Int32) (n : Nat) : (adx q1 q2 b u v 57, cellX (adx q1 q2 b u v) cI cJ (g0x xs n) 57) = ((u 56), .inl (cI, 4, .inl (fun _ => 0))) := rfl
theorem c0_58 (q1 q2 b : Nat) (u v : Nat → Nat) (cI cJ : ClassId) (xs : Nat → Int32) (n : Nat) : (adx q1 q2 b u v 58, cellX (adx q1 q2 b u v) cI cJ (g0x xs n) 58) = ((u 57), .inr (6, [.ref (u 58)])) := rfl
theorem c0_59 (q1 q2 b : Nat) (u v : Nat → Nat) (cI cJ : ClassId) (xs : Nat → Int32) (n : Nat) : (adx q1 q2 b u v 59, cellX (adx q1 q2 b u v) cI cJ (g0x xs n) 59) = ((u 58), .inl (cI, 6, .inl (fun _ => 0))) := rfl
theorem c0_60 (q1 q2 b : Nat) (u v : Nat → Nat) (cI cJ : ClassId) (xs : Nat → Int32) (n : Nat) : (adx q1 q2 b u v 60, cellX (adx q1 q2 b u v) cI cJ (g0x xs n) 60) = ((u 59), .inr (7, [.ref (u 32), .ref (u 60), .ref (u 62), .ref (u 64), .ref (u 66), .int 0, .int 0, .int 0, .int 0])) := rfl
theorem c0_61 (q1 q2 b : Nat) (u v : Nat → Nat) (cI cJ : ClassId) (xs : Nat → Int32) (n : Nat) : (adx q1 q2 b u v 61, cellX (adx q1 q2 b u v) cI cJ (g0x xs n) 61) = ((u 60), .inr (6, [.ref (u 61)])) := rfl
theorem c0_62 (q1 q2 b : Nat) (u v : Nat → Nat) (cI cJ : ClassId) (xs : Nat → Int32) (n : Nat) : (adx q1 q2 b u v 62, cellX (adx q1 q2 b u v) cI cJ (g0x xs n) 62) = ((u 61), .inl (cI, 6, .inl (fun _ => 0))) := rfl
theorem c0_63 (q1 q2 b : Nat) (u v : Nat → Nat) (cI cJ : ClassId) (xs : Nat → Int32) (n : Nat) : (adx q1 q2 b u v 63, cellX (adx q1 q2 b u v) cI cJ (g0x xs n) 63) = ((u 62), .inr (6, [.ref (u 63)])) := rfl
theorem c0_64 (q1 q2 b : Nat) (u v : Nat → Nat) (cI cJ : ClassId) (xs : Nat → Int32) (n : Nat) : (adx q1 q2 b u v 64, cellX (adx q1 q2 b u v) cI cJ (g0x xs n) 64) = ((u 63), .inl (cI, 36, .inl (fun _ => 0))) := rfl
theorem c0_65 (q1 q2 b : Nat) (u v : Nat → Nat) (cI cJ : ClassId) (xs : Nat → Int32) (n : Nat) : (adx q1 q2 b u v 65, cellX (adx q1 q2 b u v) cI cJ (g0x xs n) 65) = ((u 64), .inr (6, [.ref (u 65)])) := rfl
theorem c0_66 (q1 q2 b : Nat) (u v : Nat → Nat) (cI cJ : ClassId) (xs : Nat → Int32) (n : Nat) : (adx q1 q2 b u v 66, cellX (adx q1 q2 b u v) cI cJ (g0x xs n) 66) = ((u 65), .inl (cI, 48, .inl (fun _ => 0))) := rfl
theorem c0_67 (q1 q2 b : Nat) (u v : Nat → Nat) (cI cJ : ClassId) (xs : Nat → Int32) (n : Nat) : (adx q1 q2 b u v 67, cellX (adx q1 q2 b u v) cI cJ (g0x xs n) 67) = ((u 66), .inr (6, [.ref (u 67)])) := rfl
theorem c0_68 (q1 q2 b : Nat) (u v : Nat → Nat) (cI cJ : ClassId) (xs : Nat → Int32) (n : Nat) : (adx q1 q2 b u v 68, cellX (adx q1 q2 b u v) cI cJ (g0x xs n) 68) = ((u 67), .inl (cI, 24, .inl (fun _ => 0))) := rfl
theorem c0_69 (q1 q2 b : Nat) (u v : Nat → Nat) (cI cJ : ClassId) (xs : Nat → Int32) (n : Nat) : (adx q1 q2 b u v 69, cellX (adx q1 q2 b u v) cI cJ (g0x xs n) 69) = ((u 68), .inr (5, [.ref (u 3), .ref (u 32), .ref (u 49), .ref (u 69), .ref (u 71), .ref (u 73), .ref (u 75), .int 0, .int (-1), .int (-1)])) := rfl
theorem c0_70 (q1 q2 b : Nat) (u v : Nat → Nat) (cI cJ : ClassId) (xs : Nat → Int32) (n : Nat) : (adx q1 q2 b u v 70, cellX (adx q1 q2 b u v) cI cJ (g0x xs n) 70) = ((u 69), .inr (6, [.ref (u 70)])) := rfl
theorem c0_71 (q1 q2 b : Nat) (u v : Nat → Nat) (cI cJ : ClassId) (xs : Nat → Int32) (n : Nat) : (adx q1 q2 b u v 71, cellX (adx q1 q2 b u v) cI cJ (g0x xs n) 71) = ((u 70), .inl (cI, 80, .inl (fun _ => 0))) := rfl
theorem c0_72 (q1 q2 b : Nat) (u v : Nat → Nat) (cI cJ : ClassId) (xs : Nat → Int32) (n : Nat) : (adx q1 q2 b u v 72, cellX (adx q1 q2 b u v) cI cJ (g0x xs n) 72) = ((u 71), .inr (6, [.ref (u 72)])) := rfl
theorem c0_73 (q1 q2 b : Nat) (u v : Nat → Nat) (cI cJ : ClassId) (xs : Nat → Int32) (n : Nat) : (adx q1 q2 b u v 73, cellX (adx q1 q2 b u v) cI cJ (g0x xs n) 73) = ((u 72), .inl (cI, 80, .inl (fun _ => 0))) := rfl
theorem c0_74 (q1 q2 b : Nat) (u v : Nat → Nat) (cI cJ : ClassId) (xs : Nat → Int32) (n : Nat) : (adx q1 q2 b u v 74, cellX (adx q1 q2 b u v) cI cJ (g0x xs n) 74) = ((u 73), .inr (6, [.ref (u 74)])) := rfl
theorem c0_75 (q1 q2 b : Nat) (u v : Nat → Nat) (cI cJ : ClassId) (xs : Nat → Int32) (n : Nat) : (adx q1 q2 b u v 75, cellX (adx q1 q2 b u v) cI cJ (g0x xs n) 75) = ((u 74), .inl (cI, 80, .inl (fun _ => 0))) := rfl
theorem c0_76 (q1 q2 b : Nat) (u v : Nat → Nat) (cI cJ : ClassId) (xs : Nat → Int32) (n : Nat) : (adx q1 q2 b u v 76, cellX (adx q1 q2 b u v) cI cJ (g0x xs n) 76) = ((u 75), .inr (6, [.ref (u 76)])) := rfl
theorem c0_77 (q1 q2 b : Nat) (u v : Nat → Nat) (cI cJ : ClassId) (xs : Nat → Int32) (n : Nat) : (adx q1 q2 b u v 77, cellX (adx q1 q2 b u v) cI cJ (g0x xs n) 77) = ((u 76), .inl (cI, 9, .inl (fun _ => 0))) := rfl
theorem c0_78 (q1 q2 b : Nat) (u v : Nat → Nat) (cI cJ : ClassId) (xs : Nat → Int32) (n : Nat) : (adx q1 q2 b u v 78, cellX (adx q1 q2 b u v) cI cJ (g0x xs n) 78) = ((u 77), .inr (0, [.ref (u 32), .ref (u 78), .ref (u 80), .ref (u 82), .int 0])) := rfl
theorem c0_79 (q1 q2 b : Nat) (u v : Nat → Nat) (cI cJ : ClassId) (xs : Nat → Int32) (n : Nat) : (adx q1 q2 b u v 79, cellX (adx q1 q2 b u v) cI cJ (g0x xs n) 79) = ((u 78), .inr (6, [.ref (u 79)])) := rfl
theorem c0_80 (q1 q2 b : Nat) (u v : Nat → Nat) (cI cJ : ClassId) (xs : Nat → Int32) (n : Nat) : (adx q1 q2 b u v 80, cellX (adx q1 q2 b u v) cI cJ (g0x xs n) 80) = ((u 79), .inl (cI, 40, .inl (fun _ => 0))) := rfl
theorem c0_81 (q1 q2 b : Nat) (u v : Nat → Nat) (cI cJ : ClassId) (xs : Nat → Int32) (n : Nat) : (adx q1 q2 b u v 81, cellX (adx q1 q2 b u v) cI cJ (g0x xs n) 81) = ((u 80), .inr (6, [.ref (u 81)])) := rfl
theorem c0_82 (q1 q2 b : Nat) (u v : Nat → Nat) (cI cJ : ClassId) (xs : Nat → Int32) (n : Nat) : (adx q1 q2 b u v 82, cellX (adx q1 q2 b u v) cI cJ (g0x xs n) 82) = ((u 81), .inl (cI, 30, .inl (fun _ => 0))) := rfl
theorem c0_83 (q1 q2 b : Nat) (u v : Nat → Nat) (cI cJ : ClassId) (xs : Nat → Int32) (n : Nat) : (adx q1 q2 b u v 83, cellX (adx q1 q2 b u v) cI cJ (g0x xs n) 83) = ((u 82), .inr (6, [.ref (u 83)])) := rfl
theorem c0_84 (q1 q2 b : Nat) (u v : Nat → Nat) (cI cJ : ClassId) (xs : Nat → Int32) (n : Nat) : (adx q1 q2 b u v 84, cellX (adx q1 q2 b u v) cI cJ (g0x xs n) 84) = ((u 83), .inl (cI, 60, .inl (fun _ => 0))) := rfl
theorem c0_85 (q1 q2 b : Nat) (u v : Nat → Nat) (cI cJ : ClassId) (xs : Nat → Int32) (n : Nat) : (adx q1 q2 b u v 85, cellX (adx q1 q2 b u v) cI cJ (g0x xs n) 85) = ((u 84), .inr (8, [.ref (u 85), .ref (u 87), .ref (u 89)])) := rfl
theorem c0_86 (q1 q2 b : Nat) (u v : Nat → Nat) (cI cJ : ClassId) (xs : Nat → Int32) (n : Nat) : (adx q1 q2 b u v 86, cellX (adx q1 q2 b u v) cI cJ (g0x xs n) 86) = ((u 85), .inr (6, [.ref (u 86)])) := rfl
theorem c0_87 (q1 q2 b : Nat) (u v : Nat → Nat) (cI cJ : ClassId) (xs : Nat → Int32) (n : Nat) : (adx q1 q2 b u v 87, cellX (adx q1 q2 b u v) cI cJ (g0x xs n) 87) = ((u 86), .inl (cI, 240, .inl (fun _ => 0))) := rfl
theorem c0_88 (q1 q2 b : Nat) (u v : Nat → Nat) (cI cJ : ClassId) (xs : Nat → Int32) (n : Nat) : (adx q1 q2 b u v 88, cellX (adx q1 q2 b u v) cI cJ (g0x xs n) 88) = ((u 87), .inr (6, [.ref (u 88)])) := rfl
theorem c0_89 (q1 q2 b : Nat) (u v : Nat → Nat) (cI cJ : ClassId) (xs : Nat → Int32) (n : Nat) : (adx q1 q2 b u v 89, cellX (adx q1 q2 b u v) cI cJ (g0x xs n) 89) = ((u 88), .inl (cI, 4, .inl (fill4 (fun _ => 0)))) := by
  show (_, Sum.inl (cI, 4, Sum.inl (fun j : Nat => Int32.ofInt (cond (Nat.ble 4 j) 0 (-1))))) = (_, Sum.inl (cI, 4, Sum.inl (fill4 (fun _ => 0))))
  rw [f4_eq]
  rfl
theorem c0_90 (q1 q2 b : Nat) (u v : Nat → Nat) (cI cJ : ClassId) (xs : Nat → Int32) (n : Nat) : (adx q1 q2 b u v 90, cellX (adx q1 q2 b u v) cI cJ (g0x xs n) 90) = ((u 89), .inr (6, [.ref (u 90)])) := rfl
theorem c0_91 (q1 q2 b : Nat) (u v : Nat → Nat) (cI cJ : ClassId) (xs : Nat → Int32) (n : Nat) : (adx q1 q2 b u v 91, cellX (adx q1 q2 b u v) cI cJ (g0x xs n) 91) = ((u 90), .inl (cI, 4, .inl (fun _ => 0))) := rfl
set_option maxRecDepth 100000 in
theorem c0_92 (q1 q2 b : Nat) (u v : Nat → Nat) (cI cJ : ClassId) (xs : Nat → Int32) (n : Nat) : (adx q1 q2 b u v 92, cellX (adx q1 q2 b u v) cI cJ (g0x xs n) 92) = (q2, .inr (12, [.ref (v 0), .ref (v 1), .ref (v 2), .ref (v 3), .int 0, .ref (v 4), .ref (v 5), .int 0, .int 0, .int 0, .ref (v 6), .ref (v 7), .ref (v 8), .ref (v 9), .ref (v 10), .ref (v 11), .int 0, .int 0, .int 0, .ref (v 12), .int 0, .int 0, .ref (v 13), .ref (v 14), .ref (v 15), .ref (v 16), .int 0, .ref (v 17), .ref (v 18), .ref (v 19), .ref (v 20), .ref (v 21), .ref (v 22), .ref (v 23), .ref (v 24), .int 0, .int 0, .ref (v 25), .ref (v 26), .ref (v 27), .ref (v 28), .ref (v 29), .ref (v 30), .int 0, .int 0, .ref (v 31), .ref (v 32), .ref (v 33), .int 0, .ref (v 34)])) := by
  show (_, Sum.inr (12, fldX (adx q1 q2 b u v) (g0x xs n) 92 [some 93, some 94, some 95, some 96, none, some 97, some 98, none, none, none, some 99, some 100, some 101, some 102, some 103, some 104, none, none, none, some 105, none, none, some 106, some 107, some 108, some 109, none, some 110, some 111, some 112, some 113, some 114, some 115, some 116, some 117, none, none, some 118, some 119, some 120, some 121, some 122, some 123, none, none, some 124, some 125, some 126, none, some 127])) = _
  simp only [fldX, List.mapIdx_cons, List.mapIdx_nil, fvX]
  rfl
theorem c0_93 (q1 q2 b : Nat) (u v : Nat → Nat) (cI cJ : ClassId) (xs : Nat → Int32) (n : Nat) : (adx q1 q2 b u v 93, cellX (adx q1 q2 b u v) cI cJ (g0x xs n) 93) = ((v 0), .inl (cI, 4, .inl (upd (upd (upd (upd (fun _ => 0) 0 (-1)) 1 (-1)) 2 (-1)) 3 (-1)))) := by
  show (_, Sum.inl (cI, 4, Sum.inl (fun j : Nat => Int32.ofInt (cond (Nat.ble 4 j) 0 (-1))))) = (_, Sum.inl (cI, 4, Sum.inl (fill4 (fun _ => 0))))
  rw [f4_eq]
  rfl
theorem c0_94 (q1 q2 b : Nat) (u v : Nat → Nat) (cI cJ : ClassId) (xs : Nat → Int32) (n : Nat) : (adx q1 q2 b u v 94, cellX (adx q1 q2 b u v) cI cJ (g0x xs n) 94) = ((v 1), .inl (cI, 4, .inl (fun _ => 0))) := rfl
theorem c0_95 (q1 q2 b : Nat) (u v : Nat → Nat) (cI cJ : ClassId) (xs : Nat → Int32) (n : Nat) : (adx q1 q2 b u v 95, cellX (adx q1 q2 b u v) cI cJ (g0x xs n) 95) = ((v 2), .inl (cI, 240, .inl (fun _ => 0))) := rfl
theorem c0_96 (q1 q2 b : Nat) (u v : Nat → Nat) (cI cJ : ClassId) (xs : Nat → Int32) (n : Nat) : (adx q1 q2 b u v 96, cellX (adx q1 q2 b u v) cI cJ (g0x xs n) 96) = ((v 3), .inl (cI, 60, .inl (fun _ => 0))) := rfl
theorem c0_97 (q1 q2 b : Nat) (u v : Nat → Nat) (cI cJ : ClassId) (xs : Nat → Int32) (n : Nat) : (adx q1 q2 b u v 97, cellX (adx q1 q2 b u v) cI cJ (g0x xs n) 97) = ((v 4), .inl (cI, 240, .inl (fun _ => 0))) := rfl
theorem c0_98 (q1 q2 b : Nat) (u v : Nat → Nat) (cI cJ : ClassId) (xs : Nat → Int32) (n : Nat) : (adx q1 q2 b u v 98, cellX (adx q1 q2 b u v) cI cJ (g0x xs n) 98) = ((v 5), .inl (cI, 2, .inl (fun _ => 0))) := rfl
theorem c0_99 (q1 q2 b : Nat) (u v : Nat → Nat) (cI cJ : ClassId) (xs : Nat → Int32) (n : Nat) : (adx q1 q2 b u v 99, cellX (adx q1 q2 b u v) cI cJ (g0x xs n) 99) = ((v 6), .inl (cI, 170, .inl (fun _ => 0))) := rfl
theorem c0_100 (q1 q2 b : Nat) (u v : Nat → Nat) (cI cJ : ClassId) (xs : Nat → Int32) (n : Nat) : (adx q1 q2 b u v 100, cellX (adx q1 q2 b u v) cI cJ (g0x xs n) 100) = ((v 7), .inl (cI, 170, .inl (fun _ => 0))) := rfl
theorem c0_101 (q1 q2 b : Nat) (u v : Nat → Nat) (cI cJ : ClassId) (xs : Nat → Int32) (n : Nat) : (adx q1 q2 b u v 101, cellX (adx q1 q2 b u v) cI cJ (g0x xs n) 101) = ((v 8), .inl (cI, 170, .inl (fun _ => 0))) := rfl
theorem c0_102 (q1 q2 b : Nat) (u v : Nat → Nat) (cI cJ : ClassId) (xs : Nat → Int32) (n : Nat) : (adx q1 q2 b u v 102, cellX (adx q1 q2 b u v) cI cJ (g0x xs n) 102) = ((v 9), .inl (cI, 170, .inl (fun _ => 0))) := rfl
theorem c0_103 (q1 q2 b : Nat) (u v : Nat → Nat) (cI cJ : ClassId) (xs : Nat → Int32) (n : Nat) : (adx q1 q2 b u v 103, cellX (adx q1 q2 b u v) cI cJ (g0x xs n) 103) = ((v 10), .inl (cI, 170, .inl (fun _ => 0))) := rfl
theorem c0_104 (q1 q2 b : Nat) (u v : Nat → Nat) (cI cJ : ClassId) (xs : Nat → Int32) (n : Nat) : (adx q1 q2 b u v 104, cellX (adx q1 q2 b u v) cI cJ (g0x xs n) 104) = ((v 11), .inl (cI, 680, .inl (fun _ => 0))) := rfl
theorem c0_105 (q1 q2 b : Nat) (u v : Nat → Nat) (cI cJ : ClassId) (xs : Nat → Int32) (n : Nat) : (adx q1 q2 b u v 105, cellX (adx q1 q2 b u v) cI cJ (g0x xs n) 105) = ((v 12), .inl (cI, 4, .inl (fun _ => 0))) := rfl
theorem c0_106 (q1 q2 b : Nat) (u v : Nat → Nat) (cI cJ : ClassId) (xs : Nat → Int32) (n : Nat) : (adx q1 q2 b u v 106, cellX (adx q1 q2 b u v) cI cJ (g0x xs n) 106) = ((v 13), .inl (cI, 8, .inl (fun _ => 0))) := rfl
theorem c0_107 (q1 q2 b : Nat) (u v : Nat → Nat) (cI cJ : ClassId) (xs : Nat → Int32) (n : Nat) : (adx q1 q2 b u v 107, cellX (adx q1 q2 b u v) cI cJ (g0x xs n) 107) = ((v 14), .inl (cI, 240, .inl (fun _ => 0))) := rfl
theorem c0_108 (q1 q2 b : Nat) (u v : Nat → Nat) (cI cJ : ClassId) (xs : Nat → Int32) (n : Nat) : (adx q1 q2 b u v 108, cellX (adx q1 q2 b u v) cI cJ (g0x xs n) 108) = ((v 15), .inl (cI, 240, .inl (fun _ => 0))) := rfl
theorem c0_109 (q1 q2 b : Nat) (u v : Nat → Nat) (cI cJ : ClassId) (xs : Nat → Int32) (n : Nat) : (adx q1 q2 b u v 109, cellX (adx q1 q2 b u v) cI cJ (g0x xs n) 109) = ((v 16), .inl (cI, 240, .inl (fun _ => 0))) := rfl
theorem c0_110 (q1 q2 b : Nat) (u v : Nat → Nat) (cI cJ : ClassId) (xs : Nat → Int32) (n : Nat) : (adx q1 q2 b u v 110, cellX (adx q1 q2 b u v) cI cJ (g0x xs n) 110) = ((v 17), .inl (cI, 30, .inl (fun _ => 0))) := rfl
theorem c0_111 (q1 q2 b : Nat) (u v : Nat → Nat) (cI cJ : ClassId) (xs : Nat → Int32) (n : Nat) : (adx q1 q2 b u v 111, cellX (adx q1 q2 b u v) cI cJ (g0x xs n) 111) = ((v 18), .inl (cI, 720, .inl (fun _ => 0))) := rfl
theorem c0_112 (q1 q2 b : Nat) (u v : Nat → Nat) (cI cJ : ClassId) (xs : Nat → Int32) (n : Nat) : (adx q1 q2 b u v 112, cellX (adx q1 q2 b u v) cI cJ (g0x xs n) 112) = ((v 19), .inl (cI, 900, .inl (fun _ => 0))) := rfl
theorem c0_113 (q1 q2 b : Nat) (u v : Nat → Nat) (cI cJ : ClassId) (xs : Nat → Int32) (n : Nat) : (adx q1 q2 b u v 113, cellX (adx q1 q2 b u v) cI cJ (g0x xs n) 113) = ((v 20), .inl (cI, 900, .inl (fun _ => 0))) := rfl
theorem c0_114 (q1 q2 b : Nat) (u v : Nat → Nat) (cI cJ : ClassId) (xs : Nat → Int32) (n : Nat) : (adx q1 q2 b u v 114, cellX (adx q1 q2 b u v) cI cJ (g0x xs n) 114) = ((v 21), .inl (cI, 30, .inl (fun _ => 0))) := rfl
theorem c0_115 (q1 q2 b : Nat) (u v : Nat → Nat) (cI cJ : ClassId) (xs : Nat → Int32) (n : Nat) : (adx q1 q2 b u v 115, cellX (adx q1 q2 b u v) cI cJ (g0x xs n) 115) = ((v 22), .inl (cI, 30, .inl (fun _ => 0))) := rfl
theorem c0_116 (q1 q2 b : Nat) (u v : Nat → Nat) (cI cJ : ClassId) (xs : Nat → Int32) (n : Nat) : (adx q1 q2 b u v 116, cellX (adx q1 q2 b u v) cI cJ (g0x xs n) 116) = ((v 23), .inl (cI, 30, .inl (fun _ => 0))) := rfl
theorem c0_117 (q1 q2 b : Nat) (u v : Nat → Nat) (cI cJ : ClassId) (xs : Nat → Int32) (n : Nat) : (adx q1 q2 b u v 117, cellX (adx q1 q2 b u v) cI cJ (g0x xs n) 117) = ((v 24), .inl (cI, 170, .inl (fun _ => 0))) := rfl
theorem c0_118 (q1 q2 b : Nat) (u v : Nat → Nat) (cI cJ : ClassId) (xs : Nat → Int32) (n : Nat) : (adx q1 q2 b u v 118, cellX (adx q1 q2 b u v) cI cJ (g0x xs n) 118) = ((v 25), .inl (cI, 180, .inl (fun _ => 0))) := rfl
theorem c0_119 (q1 q2 b : Nat) (u v : Nat → Nat) (cI cJ : ClassId) (xs : Nat → Int32) (n : Nat) : (adx q1 q2 b u v 119, cellX (adx q1 q2 b u v) cI cJ (g0x xs n) 119) = ((v 26), .inl (cI, 4320, .inl (fun _ => 0))) := rfl
theorem c0_120 (q1 q2 b : Nat) (u v : Nat → Nat) (cI cJ : ClassId) (xs : Nat → Int32) (n : Nat) : (adx q1 q2 b u v 120, cellX (adx q1 q2 b u v) cI cJ (g0x xs n) 120) = ((v 27), .inl (cI, 4, .inl (fun _ => 0))) := rfl
theorem c0_121 (q1 q2 b : Nat) (u v : Nat → Nat) (cI cJ : ClassId) (xs : Nat → Int32) (n : Nat) : (adx q1 q2 b u v 121, cellX (adx q1 q2 b u v) cI cJ (g0x xs n) 121) = ((v 28), .inl (cI, 6, .inl (fun _ => 0))) := rfl
theorem c0_122 (q1 q2 b : Nat) (u v : Nat → Nat) (cI cJ : ClassId) (xs : Nat → Int32) (n : Nat) : (adx q1 q2 b u v 122, cellX (adx q1 q2 b u v) cI cJ (g0x xs n) 122) = ((v 29), .inl (cI, 36, .inl (fun _ => 0))) := rfl
theorem c0_123 (q1 q2 b : Nat) (u v : Nat → Nat) (cI cJ : ClassId) (xs : Nat → Int32) (n : Nat) : (adx q1 q2 b u v 123, cellX (adx q1 q2 b u v) cI cJ (g0x xs n) 123) = ((v 30), .inl (cI, 48, .inl (fun _ => 0))) := rfl
theorem c0_124 (q1 q2 b : Nat) (u v : Nat → Nat) (cI cJ : ClassId) (xs : Nat → Int32) (n : Nat) : (adx q1 q2 b u v 124, cellX (adx q1 q2 b u v) cI cJ (g0x xs n) 124) = ((v 31), .inl (cJ, 24, .inr (.inl (fun _ => 0)))) := rfl
theorem c0_125 (q1 q2 b : Nat) (u v : Nat → Nat) (cI cJ : ClassId) (xs : Nat → Int32) (n : Nat) : (adx q1 q2 b u v 125, cellX (adx q1 q2 b u v) cI cJ (g0x xs n) 125) = ((v 32), .inl (cJ, 24, .inr (.inl (fun _ => 0)))) := rfl
theorem c0_126 (q1 q2 b : Nat) (u v : Nat → Nat) (cI cJ : ClassId) (xs : Nat → Int32) (n : Nat) : (adx q1 q2 b u v 126, cellX (adx q1 q2 b u v) cI cJ (g0x xs n) 126) = ((v 33), .inl (cI, 24, .inl (fun _ => 0))) := rfl
theorem c0_127 (q1 q2 b : Nat) (u v : Nat → Nat) (cI cJ : ClassId) (xs : Nat → Int32) (n : Nat) : (adx q1 q2 b u v 127, cellX (adx q1 q2 b u v) cI cJ (g0x xs n) 127) = ((v 34), .inl (cI, 40, .inl (fun _ => 0))) := rfl
set_option maxRecDepth 100000 in
theorem map128 {α : Type} (f : Nat → α) : (List.range 128).map f = f 0 :: f 1 :: f 2 :: f 3 :: f 4 :: f 5 :: f 6 :: f 7 :: f 8 :: f 9 :: f 10 :: f 11 :: f 12 :: f 13 :: f 14 :: f 15 :: f 16 :: f 17 :: f 18 :: f 19 :: f 20 :: f 21 :: f 22 :: f 23 :: f 24 :: f 25 :: f 26 :: f 27 :: f 28 :: f 29 :: f 30 :: f 31 :: f 32 :: f 33 :: f 34 :: f 35 :: f 36 :: f 37 :: f 38 :: f 39 :: f 40 :: f 41 :: f 42 :: f 43 :: f 44 :: f 45 :: f 46 :: f 47 :: f 48 :: f 49 :: f 50 :: f 51 :: f 52 :: f 53 :: f 54 :: f 55 :: f 56 :: f 57 :: f 58 :: f 59 :: f 60 :: f 61 :: f 62 :: f 63 :: f 64 :: f 65 :: f 66 :: f 67 :: f 68 :: f 69 :: f 70 :: f 71 :: f 72 :: f 73 :: f 74 :: f 75 :: f 76 :: f 77 :: f 78 :: f 79 :: f 80 :: f 81 :: f 82 :: f 83 :: f 84 :: f 85 :: f 86 :: f 87 :: f 88 :: f 89 :: f 90 :: f 91 :: f 92 :: f 93 :: f 94 :: f 95 :: f 96 :: f 97 :: f 98 :: f 99 :: f 100 :: f 101 :: f 102 :: f 103 :: f 104 :: f 105 :: f 106 :: f 107 :: f 108 :: f 109 :: f 110 :: f 111 :: f 112 :: f 113 :: f 114 :: f 115 :: f 116 :: f 117 :: f 118 :: f 119 :: f 120 :: f 121 :: f 122 :: f 123 :: f 124 :: f 125 :: f 126 :: f 127 :: [] := rfl
set_option maxRecDepth 100000 in
set_option maxHeartbeats 8000000 in
theorem ws0 (q1 q2 b : Nat) (u v : Nat → Nat) (cI cJ : ClassId) (xs : Nat → Int32) (n : Nat) : w_X11 cI cJ q1 u ++ w_X12 cI cJ q2 v = wsX (adx q1 q2 b u v) cI cJ (g0x xs n) := by
  unfold wsX nT
  rw [map128]
  rw [c0_0, c0_1, c0_2, c0_3, c0_4, c0_5, c0_6, c0_7, c0_8, c0_9, c0_10, c0_11, c0_12, c0_13, c0_14, c0_15, c0_16, c0_17, c0_18, c0_19, c0_20, c0_21, c0_22, c0_23, c0_24, c0_25, c0_26, c0_27, c0_28, c0_29, c0_30, c0_31, c0_32, c0_33, c0_34, c0_35, c0_36, c0_37, c0_38, c0_39, c0_40, c0_41, c0_42, c0_43, c0_44, c0_45, c0_46, c0_47, c0_48, c0_49, c0_50, c0_51, c0_52, c0_53, c0_54, c0_55, c0_56, c0_57, c0_58, c0_59, c0_60, c0_61, c0_62, c0_63, c0_64, c0_65, c0_66, c0_67, c0_68, c0_69, c0_70, c0_71, c0_72, c0_73, c0_74, c0_75, c0_76, c0_77, c0_78, c0_79, c0_80, c0_81, c0_82, c0_83, c0_84, c0_85, c0_86, c0_87, c0_88, c0_89, c0_90, c0_91, c0_92, c0_93, c0_94, c0_95, c0_96, c0_97, c0_98, c0_99, c0_100, c0_101, c0_102, c0_103, c0_104, c0_105, c0_106, c0_107, c0_108, c0_109, c0_110, c0_111, c0_112, c0_113, c0_114, c0_115, c0_116, c0_117, c0_118, c0_119, c0_120, c0_121, c0_122, c0_123, c0_124, c0_125, c0_126, c0_127]
  rfl
theorem okG0 (xs : Nat → Int32) (n : Nat) (hn : n < 100000) : okG (g0x xs n) := by
  intro q i
  have key : okI (g0x xs n q i) := by
    unfold g0x
    have z : okI 0 := ⟨by decide, by decide⟩
    have m1 : okI (-1) := ⟨by decide, by decide⟩
    cases Nat.beq q 1 with
    | true => cases Nat.beq i 1 with
      | true => show okI 160; exact ⟨by decide, by decide⟩
      | false => exact z
    | false => cases Nat.beq q 4 with
      | true => cases Nat.beq i 1 with
        | true => show okI 80; exact ⟨by decide, by decide⟩
        | false => exact z
      | false => cases Nat.beq q 28 with
        | true => cases (Nat.beq i 6 || Nat.beq i 9) with
          | true => exact m1
          | false => exact z
        | false => cases Nat.beq q 33 with
          | true => cases (Nat.beq i 13 || Nat.beq i 14) with
            | true => exact m1
            | false => exact z
          | false => cases Nat.beq q 55 with
            | true => cases (Nat.beq i 5 || Nat.beq i 6 || Nat.beq i 7) with
              | true => exact m1
              | false => exact z
            | false => cases Nat.beq q 69 with
              | true => cases (Nat.beq i 8 || Nat.beq i 9) with
                | true => exact m1
                | false => exact z
              | false => cases Nat.beq q 89 with
                | true => cases Nat.ble 4 i with
                  | true => exact z
                  | false => exact m1
                | false => cases Nat.beq q 93 with
                  | true => cases Nat.ble 4 i with
                    | true => exact z
                    | false => exact m1
                  | false => cases Nat.beq q 1000 with
                    | true => exact i32_ok _
                    | false => cases Nat.beq q 1001 with
                      | true => cases Nat.beq i 0 with
                        | true => show okI (n : Int); exact ⟨by omega, by omega⟩
                        | false => exact z
                      | false => exact z
  split
  · exact okI_J key
  · exact key
theorem nw_all : (NWx.all (fun w => decide (w ∈ lw_tbl) && w.onTables)) = true := by decide +kernel
theorem z_as {p : Program} {l : Launch} {e : Env} {R : Room} {s : State} {m : MethodId} {args : Array Value} {below : List Frame} {meth : Method} {c : Code} {Q : State → Prop} {D : va_G} {cI cJ : ClassId} {A : Nat → Prop} {H0 : Heap} {own : String} {cc : ByteArray} {maxL : Nat} {ws : va_W} {cells slots pc : Nat} {ls : Array Slot} {st : List Value} (C : CI p s m args c D cI cJ own cc maxL) {k : Fin 4} {i nL x : Nat} {lv lv' : List (Nat × Value)} (hd : decode cc pc = .ok (.astore_n k, 1)) (hi : (k : Nat) = i) (hh : lv_has ls nL lv) (hn : i < nL) (hl : (i, Value.ref x) :: lv.filter (fun q => !(q.1 == i) && !(q.1 + 1 == i && q.2.category == 2)) = lv') (h : ∀ ls' : Array Slot, lv_has ls' nL lv' → ZW p l e R s m args below meth c Q D A H0 ws cells slots (pc + 1) ls' st) : ZW p l e R s m args below meth c Q D A H0 ws cells slots pc ls (.ref x :: st) :=
  fun H locs hP hD hS => lv_astore_n C.1 C.2.1 hd hi hh hn hl (fun ls' hl' => h ls' hl' H locs hP hD hS)
set_option maxRecDepth 100000 in
set_option maxHeartbeats 8000000 in
/-- the law from its entry, if the small machine's law says 1 from the first heap -/
theorem start_of (hCK : CHK) (hLaw : ∀ (xs : Nat → Int32) (n : Nat), n ≤ 3072 → ∃ g', Law_law (g0x xs n) = some (1, g')) {p : Program} {e : Env} {s : State} {m : MethodId} {below : List Frame} {meth : Method} {c : Code} (l : Launch) {b L : Nat} {xs : Nat → Int32} (hL : L ≤ 3072) (C0 : lw_At p s m meth c b L xs) : W p l e room_1 s m #[Value.ref b] below meth c s.heap [] 0 0 (lw_Z below #[Value.ref b] s) (entryFrame m ([Value.ref b] : List Value).toArray 4) := by
  obtain ⟨hx, hb, hr, hml, hown, hts0, hX, hbl, hlocks, hgv⟩ := id C0
  have hts : ∀ w ∈ TBx, w.before #[Value.ref b] s = true := fun w hw => hts0 w (List.mem_filter.mp hw).1
  have hNW : NWs s := fun w hw => by
    have h := List.all_eq_true.mp nw_all w hw
    simp only [Bool.and_eq_true, decide_eq_true_eq] at h
    exact va_Nw.of h.2 (hts0 w h.1)
  have hNI : NIx s := va_Nw.of rfl (hts0 _ (by decide +kernel))
  have hKn : ∀ k : Nat, ∃ (cC : ClassId) (iS : Nat → Nat), ∀ q : vw_C, clx[k]? = some q → u_Kn s q.1 q.2.1 q.2.2 cC iS := by
    intro k
    cases hq : clx[k]? with
    | none => exact ⟨0, fun _ => 0, fun q h => by cases h⟩
    | some q =>
      obtain ⟨C, T, N⟩ := q
      have hi : ∃ n, (Jvm.Cond.instantiable C n).before #[Value.ref b] s = true := by
        match k, hq with
        | 0, hq => cases hq; exact ⟨5, hts _ (wAt_in (p := 421) (by decide +kernel))⟩
        | 1, hq => cases hq; exact ⟨17, hts _ (wAt_in (p := 235) (by decide +kernel))⟩
        | 2, hq => cases hq; exact ⟨8, hts _ (wAt_in (p := 313) (by decide +kernel))⟩
        | 3, hq => cases hq; exact ⟨3, hts _ (wAt_in (p := 295) (by decide +kernel))⟩
        | 4, hq => cases hq; exact ⟨10, hts _ (wAt_in (p := 196) (by decide +kernel))⟩
        | 5, hq => cases hq; exact ⟨10, hts _ (wAt_in (p := 382) (by decide +kernel))⟩
        | 6, hq => cases hq; exact ⟨1, hts _ (wAt_in (p := 121) (by decide +kernel))⟩
        | 7, hq => cases hq; exact ⟨9, hts _ (wAt_in (p := 346) (by decide +kernel))⟩
        | 8, hq => cases hq; exact ⟨3, hts _ (wAt_in (p := 445) (by decide +kernel))⟩
        | 9, hq => cases hq; exact ⟨13, hts _ (wAt_in (p := 148) (by decide +kernel))⟩
        | 10, hq => cases hq; exact ⟨4, hts _ (wAt_in (p := 115) (by decide +kernel))⟩
        | 11, hq => cases hq; exact ⟨13, hts _ (wAt_in (p := 107) (by decide +kernel))⟩
        | 12, hq => cases hq; exact ⟨50, hts _ (wAt_in (p := 1274) (by decide +kernel))⟩
        | k + 13, hq => cases hq
      obtain ⟨n, hi⟩ := hi
      obtain ⟨cC, iS, h⟩ := u_known (C := C) (T := T) (N := N) (n := n) hts (cls_ok hCK hq).1 hi
      exact ⟨cC, iS, fun q h9 => by cases h9; exact h⟩
  obtain ⟨cI, kI, compI, aI1, aI2, aI3⟩ := Cond.arrayClass_spec (hts (.arrayClass .int) (wAt_in (p := 133) (by decide +kernel)))
  obtain ⟨cJ, kJ, compJ, aJ1, aJ2, aJ3⟩ := Cond.arrayClass_spec (hts (.arrayClass .long) (wAt_in (p := 1430) (by decide +kernel)))
  have hK : va_K (fun k => Classical.choose (hKn k), fun k => Classical.choose (Classical.choose_spec (hKn k))) clx [(cI, .int), (cJ, .long)] s := by
    refine ⟨fun k q hq => Classical.choose_spec (Classical.choose_spec (hKn k)) q hq, fun k q hq => ?_⟩
    match k, hq with
    | 0, hq => cases hq; exact ⟨fun n z => ⟨fun k h => (by cases h), kI, aI2, compI, aI3⟩, aI1⟩
    | 1, hq => cases hq; exact ⟨fun n z => ⟨fun k h => (by cases h), kJ, aJ2, compJ, aJ3⟩, aJ1⟩
    | k + 2, hq => cases hq
  generalize (fun k => Classical.choose (hKn k), fun k => Classical.choose (Classical.choose_spec (hKn k))) = D at hK
  have C : CI p s m #[Value.ref b] c D cI cJ RL code 4 := ⟨hx, hb, hml, hown, hts, hK, hNI, hCK⟩
  have hA : ∀ q : Nat, s.heap.size ≤ q → (fun q : Nat => s.heap.size ≤ q) q := fun _ h => h
  have hl := lv_entry ([.ref b]) (n := 4) (Nat.le_of_ble_eq_true rfl)
  rw [lg_entry_eq]
  generalize (lg_sl ([.ref b]) ++ List.replicate (4 - (lg_sl ([.ref b])).length) Slot.unset).toArray = ls at hl ⊢
  have hl : lv_has ls 4 [(0, .ref b)] := hl
  suffices hz : ZW p l e room_1 s m #[Value.ref b] below meth c (lw_Z below #[Value.ref b] s) D (fun q : Nat => s.heap.size ≤ q) s.heap [] 0 0 0 ls [] from hz s.heap [] (fun k q h => by simp at h) ⟨fun i j p q h => by simp at h, fun k q h => by simp at h⟩ va_S.rf
  refine z_new C hA (idx := 7) 11 tyX11 [.null, .null, .null, .null, .null, .null, .null, .null, .null, .null, .null, .int 0, .int 0] rfl tyX11_ok blX11 (wAt_in (p := 106) (by decide +kernel)) (wAt_in (p := 107) (by decide +kernel)) (wAt_in (p := 91) (by decide +kernel)) (by decide +kernel) ⟨Nat.le_of_ble_eq_true rfl, Nat.le_of_ble_eq_true rfl⟩ (fun q1 => ?_)
  refine z_dup C (by decide +kernel) rfl ?_
  refine z_call C hA (pre := []) (idx := 9) (As := []) (fun sz => ci_X11 hCK l D cI cJ q1 sz) rfl rfl (wAt_in (p := 110) (by decide +kernel)) (wAt_in (p := 91) (by decide +kernel)) (wAt_in (p := 109) (by decide +kernel)) (Or.inl (wAt_in (p := 108) (by decide +kernel))) rfl ⟨by decide +kernel, by decide +kernel, by show _ = some 0; decide +kernel⟩ ⟨Nat.le_of_ble_eq_true rfl, Nat.le_of_ble_eq_true rfl⟩ hl.1 (Nat.le_of_ble_eq_true rfl) (by decide +kernel) ⟨Nat.le_of_ble_eq_true rfl, Nat.le_of_ble_eq_true rfl⟩ (fun u => ?_)
  refine z_as C (k := 1) (lv' := [(1, .ref q1), (0, .ref b)]) (by decide +kernel) rfl hl (by decide) rfl (fun ls hl => ?_)
  refine z_new C hA (idx := 10) 12 tyX12 [.null, .null, .null, .null, .int 0, .null, .null, .int 0, .int 0, .int 0, .null, .null, .null, .null, .null, .null, .int 0, .int 0, .int 0, .null, .int 0, .int 0, .null, .null, .null, .null, .int 0, .null, .null, .null, .null, .null, .null, .null, .null, .int 0, .int 0, .null, .null, .null, .null, .null, .null, .int 0, .int 0, .null, .null, .null, .int 0, .null] rfl tyX12_ok blX12 (wAt_in (p := 1273) (by decide +kernel)) (wAt_in (p := 1274) (by decide +kernel)) (wAt_in (p := 104) (by decide +kernel)) (by decide +kernel) ⟨Nat.le_of_ble_eq_true rfl, Nat.le_of_ble_eq_true rfl⟩ (fun q2 => ?_)
  refine z_dup C (by decide +kernel) rfl ?_
  refine z_call C hA (pre := w_X11 cI cJ q1 u) (idx := 12) (As := []) (fun sz => ci_X12 hCK l D cI cJ q2 sz) rfl rfl (wAt_in (p := 1277) (by decide +kernel)) (wAt_in (p := 104) (by decide +kernel)) (wAt_in (p := 1276) (by decide +kernel)) (Or.inl (wAt_in (p := 1275) (by decide +kernel))) rfl ⟨by decide +kernel, by decide +kernel, by show _ = some 0; decide +kernel⟩ ⟨Nat.le_of_ble_eq_true rfl, Nat.le_of_ble_eq_true rfl⟩ hl.1 (Nat.le_of_ble_eq_true rfl) (by decide +kernel) ⟨Nat.le_of_ble_eq_true rfl, Nat.le_of_ble_eq_true rfl⟩ (fun v => ?_)
  refine z_as C (k := 2) (lv' := [(2, .ref q2), (1, .ref q1), (0, .ref b)]) (by decide +kernel) rfl hl (by decide) rfl (fun ls hl => ?_)
  intro H locs hP hD hS
  rw [ws0 q1 q2 b u v cI cJ xs L] at hP hD
  refine W.widen (k := 600000) (n := 7302250) (Nat.le_of_ble_eq_true rfl) (Nat.le_of_ble_eq_true rfl) ?_
  generalize hade : adx q1 q2 b u v = ad at hP hD
  have hAW : ∀ q, AW ad q → s.heap.size ≤ q := by
    rintro q ⟨i, hi, rfl⟩
    exact hD.2 i _ (show (wsX ad cI cJ (g0x xs L))[i]? = some (ad i, cellX ad cI cJ (g0x xs L) i) by
      unfold wsX
      rw [List.getElem?_map, List.getElem?_range hi]
      rfl)
  have hD2 : va_D (AW ad) (wsX ad cI cJ (g0x xs L)) := ⟨hD.1, fun k q hk => by
    unfold wsX at hk
    rw [List.getElem?_map] at hk
    rcases Nat.lt_or_ge k nT with h | h
    · rw [List.getElem?_range h] at hk
      cases hk
      exact ⟨k, h, rfl⟩
    · rw [List.getElem?_eq_none (by rw [List.length_range]; exact h)] at hk
      cases hk⟩
  refine va_forget (fun q hq => hS.2.2 q hq) ?_
  have hS2 : va_S (AW ad) s.heap H [] := ⟨hS.1, fun q h1 _ => hS.2.1 q h1 (show ¬ s.heap.size ≤ q from Nat.not_le.mpr h1), fun _ h => by cases h⟩
  obtain ⟨g', hg'⟩ := hLaw xs L hL
  obtain ⟨n, hn⟩ := ev_Law_law (g0x xs L) 1 g' hg'
  have hsnd := snd hCK l ad D cI cJ b L xs n 259 16 _ _ _ _ _ hn p e room_1 s m #[Value.ref b] below meth c 600000 7302250 (lw_Z below #[Value.ref b] s) s.heap
  have had : ad 1000 = b := by rw [← hade]; rfl
  have had0 : ad 0 = q1 := by rw [← hade]; rfl
  have had92 : ad 92 = q2 := by rw [← hade]; rfl
  have hCx : Cx p room_1 s m #[Value.ref b] c 600000 7302250 ad D cI cJ s.heap b L xs 259 := by
    refine ⟨hx, hb, hml, hown, hts, ⟨by decide +kernel, by decide +kernel⟩, hNW, hK, ⟨Nat.le_of_ble_eq_true rfl, Nat.le_of_ble_eq_true rfl⟩, fun _ => ⟨had, hX, hbl, fun h9 => ?_, by omega⟩⟩
    have := hAW b h9
    omega
  refine hsnd hCx (fun H1 locs1 ls1 pc1 hH hok hret => ?_) H [] ls ⟨hP, hD2, hS2, okG0 xs L (by omega)⟩ (fun _ => ⟨fun j _ => ?_, rfl⟩) ?_ rfl ?_ ?_
  · refine va_forget (fun q hq => hAW _ (hH.2.2.1.2.2 q hq)) ?_
    exact lw_ret hx hb hr hlocks hret.1
  · show Int32.ofInt (xs j).toInt = xs j
    exact Int32.ofInt_toInt _
  · refine ⟨hl.1, hl.2.1, fun i w hi => ?_⟩
    match i, hi with
    | 0, hi => cases hi; show ls[0]? = some (.val (.ref (ad 1000))); rw [had]; exact lv_at hl 2 rfl
    | 1, hi => cases hi; show ls[1]? = some (.val (.ref (ad 0))); rw [had0]; exact lv_at hl 1 rfl
    | 2, hi => cases hi; show ls[2]? = some (.val (.ref (ad 92))); rw [had92]; exact lv_at hl 0 rfl
    | 3, hi => cases hi
    | k + 4, hi => simp at hi
  · intro i w hi
    match i, hi with
    | 0, hi => cases hi; trivial
    | 1, hi => cases hi; trivial
    | 2, hi => cases hi; trivial
    | 3, hi => cases hi
    | k + 4, hi => simp at hi
  · intro w hw
    cases hw
