/-! What is checked of each entry of the tables by the kernel. Own text; the two lists are printed by wip/gen/gen_chk.py. -/
def mST : List Bool := [false, false, false, false, true, true, false, false, false, false, false, false, false, false, false, true, false, true, false, false, false, false, false, false, false, false, false, false, false, false, false, false, false, false, false, false, false, false, false, false, false, false, false, false, false, false, false, false, false, false, false, false, false, false, false, true, false, false, true, false, false, false, false, false, true, false, false, false, false, false, false, false, false, false, false, false, false, false, false, false, false, false, false, true, false, false, false, true, false, false, false, true, true, true, false, false, false, false, true, true, true, false, false, false, false, false, false, false, false, false, false, false, false, false, false, false, false, false, false, false, false, false, false, false, false, false, false, false, false, false, false, false, false, false, false, false, false, true, false, true, false, false, true, false, false, false, false, false, false, true, false, false, false, false, false, false, false, true, false, false, false, false, false, false, false, false, false, false, false, false, false, false, false, false, false, false, false, false, false, false, false, false, false, false, false, false, false, false, false, false, false, false, false, false, false, false, false, false, false, false, true, false, false, false, false, true, false, false, true, false, false, false, false, false, false, false, false, false, false, false, false, false, false, false, false, false, false, false, false, false, false, false, true, false, false, false, false, false, false, false, false, false, false, false, true, false, false, false, false, false, false, false, false, false, false, false, false, false, false, true]
def mS (k : Nat) : Bool := mST.getD k false
def cPT : List (List Nat) := [[433, 435, 437, 439, 441], [259, 261, 263, 265, 267, 269, 271, 273, 275, 277, 279, 281, 283, 285, 287, 289, 291], [328, 330, 332, 334, 336, 338, 340, 342], [305, 307, 309], [213, 215, 217, 219, 221, 223, 225, 227, 229, 231], [399, 401, 403, 405, 407, 409, 411, 413, 415, 417], [130], [362, 364, 366, 368, 370, 372, 374, 376, 378], [459, 461, 463], [168, 170, 172, 174, 176, 178, 180, 182, 184, 186, 188, 190, 192], [138, 140, 142, 144], [479, 481, 483, 485, 487, 489, 491, 493, 495, 497, 499, 501, 503], [1329, 1331, 1333, 1335, 1337, 1339, 1341, 1343, 1345, 1347, 1349, 1351, 1353, 1355, 1357, 1359, 1361, 1363, 1365, 1367, 1369, 1371, 1373, 1375, 1377, 1379, 1381, 1383, 1385, 1387, 1389, 1391, 1393, 1395, 1397, 1399, 1401, 1403, 1405, 1407, 1409, 1411, 1413, 1415, 1417, 1419, 1421, 1423, 1425, 1427]]
def wAt (p : Nat) (w : Jvm.Cond) : Bool := decide (lw_tbl[p]? = some w) && goodWord w
def TBx : List Jvm.Cond := lw_tbl.filter goodWord
theorem wAt_in {p : Nat} {w : Jvm.Cond} (h : wAt p w = true) : w ∈ TBx := by
  simp only [wAt, Bool.and_eq_true, decide_eq_true_eq] at h
  exact List.mem_filter.mpr ⟨List.mem_of_getElem? h.1, h.2⟩
def inRb (x : Int) : Bool := decide (-2147483648 ≤ x) && decide (x < 2147483648)
def inLb (x : Int) : Bool := decide (-9223372036854775808 ≤ x) && decide (x < 9223372036854775808)
def fldW (own : String) (i a b : Nat) : Option Jvm.Cond := match clx[b]? with
  | some (_, T, N) => if a < N then some (.fieldLink own i (T a).1 (T a).2.1 (T a).2.2.1) else none
  | none => none
def wAtO (p : Nat) (w : Option Jvm.Cond) : Bool := match w with
  | some w => wAt p w
  | none => false
def putOk (a b : Nat) (c : Int) : Bool := match clx[b]? with
  | some (_, T, _) => (T a).2.2.2 == false && decide (parseFieldDescriptor (T a).2.2.1 = some (if c = 1 then FieldType.boolean else .int))
  | none => false
/-- a method's own words -/
def chkM (j : Nat) : Bool :=
  match mP j with
  | [p0, p1, p2, p3] => wAt p0 (.code (mY j) (mC j) (mL j) (mR j)) && (if mS j = true then wAt p1 (.static (mY j)) else wAt p1 (.instanceMethod (mY j)) && wAt p2 (.selects (mO j) (mY j) (mY j)) && decide ((clx[mK j]?).map (fun q => q.1) = some (mO j))) && wAt p3 (.initialized (mO j)) && decide ((mY j).cls = mO j) && decide ((mY j).cls ≠ "java/lang/invoke/MethodHandle") && decide ((mY j).cls ≠ "java/lang/invoke/VarHandle") && plainName (mY j).cls
  | _ => false
def linkOk (k i j p : Nat) (c : Int) : Bool := if c = 1 then (decide (NWx[p]? = some (.methodLinkNest (mO k) i (mY j) "OnePlan")) && mS j) else wAt p (.methodLink (mO k) i (mY j))
def mathOk (k i a p : Nat) : Bool := Nat.ble 1 (mFr k) && Nat.ble 21 (mLo k) && (if a = kL + 1 then wAt p (.methodLink (mO k) i Lib.Math.max.name) && wAt 127 (.static Lib.Math.max.name) && wAt 128 (.code Lib.Math.max.name Lib.Math.max.code 2 (some .int)) && wAt 94 (.initialized "java/lang/Math") else wAt p (.methodLink (mO k) i Lib.Math.min.name) && wAt 834 (.static Lib.Math.min.name) && wAt 835 (.code Lib.Math.min.name Lib.Math.min.code 2 (some .int)) && wAt 94 (.initialized "java/lang/Math"))
def chkI (k pc : Nat) : Ex → Bool
  | (ins, nx, a, b, p, c) => match ins with
  | .iconst n => Nat.beq nx (pc + 1) && inRb c && decide (n = c)
  | .bipush n => Nat.beq nx (pc + 2) && inRb c && decide ((Int8.ofInt n).toInt32 = Int32.ofInt c)
  | .sipush n => Nat.beq nx (pc + 3) && inRb c && decide ((Int16.ofInt n).toInt32 = Int32.ofInt c)
  | .ldc i => Nat.beq nx (pc + 2) && inRb c && wAt p (.constant (mO k) i (Int32.ofInt c))
  | .ldc_w i => Nat.beq nx (pc + 3) && inRb c && wAt p (.constant (mO k) i (Int32.ofInt c))
  | .ldc2_w i => Nat.beq nx (pc + 3) && inLb c && wAt p (.constantLong (mO k) i (Int64.ofInt c))
  | .lconst n => Nat.beq nx (pc + 1) && inLb c && decide (Int64.ofNat (n : Nat) = Int64.ofInt c)
  | .iload_n i => Nat.beq nx (pc + 1) && Nat.beq i.val a
  | .iload i => Nat.beq nx (pc + 2) && Nat.beq i a
  | .lload_n i => Nat.beq nx (pc + 1) && Nat.beq i.val a
  | .lload i => Nat.beq nx (pc + 2) && Nat.beq i a
  | .aload_n i => Nat.beq nx (pc + 1) && Nat.beq i.val a
  | .istore_n i => Nat.beq nx (pc + 1) && Nat.beq i.val a && Nat.ble (a + 1) (mL k)
  | .istore i => Nat.beq nx (pc + 2) && Nat.beq i a && Nat.ble (a + 1) (mL k)
  | .lstore_n i => Nat.beq nx (pc + 1) && Nat.beq i.val a && Nat.ble (a + 2) (mL k)
  | .lstore i => Nat.beq nx (pc + 2) && Nat.beq i a && Nat.ble (a + 2) (mL k)
  | .astore_n i => Nat.beq nx (pc + 1) && Nat.beq i.val a && Nat.ble (a + 1) (mL k)
  | .iinc i n => Nat.beq nx (pc + 3) && Nat.beq i a && Nat.ble (a + 1) (mL k) && decide (n = c)
  | .iadd => Nat.beq nx (pc + 1)
  | .isub => Nat.beq nx (pc + 1)
  | .imul => Nat.beq nx (pc + 1)
  | .iand => Nat.beq nx (pc + 1)
  | .ior => Nat.beq nx (pc + 1)
  | .ixor => Nat.beq nx (pc + 1)
  | .ishl => Nat.beq nx (pc + 1)
  | .ishr => Nat.beq nx (pc + 1)
  | .iushr => Nat.beq nx (pc + 1)
  | .idiv => Nat.beq nx (pc + 1)
  | .irem => Nat.beq nx (pc + 1)
  | .ladd => Nat.beq nx (pc + 1)
  | .lmul => Nat.beq nx (pc + 1)
  | .lor => Nat.beq nx (pc + 1)
  | .land => Nat.beq nx (pc + 1)
  | .lshl => Nat.beq nx (pc + 1)
  | .lshr => Nat.beq nx (pc + 1)
  | .lcmp => Nat.beq nx (pc + 1)
  | .i2l => Nat.beq nx (pc + 1)
  | .i2b => Nat.beq nx (pc + 1)
  | .i2s => Nat.beq nx (pc + 1)
  | .dup => Nat.beq nx (pc + 1)
  | .dup2 => Nat.beq nx (pc + 1)
  | .goto off => Nat.beq nx (pc + 3) && decide ((pc : Int) + off = (a : Int))
  | .if_icmp _ off => Nat.beq nx (pc + 3) && decide ((pc : Int) + off = (a : Int))
  | .ifCond _ off => Nat.beq nx (pc + 3) && decide ((pc : Int) + off = (a : Int))
  | .tableswitch d lo hi offs => decide (0 ≤ (pc : Int) + d) && offs.toList.all (fun o => decide (0 ≤ (pc : Int) + o)) && decide ((offs.toList.length : Int) = hi - lo + 1) && decide (lo ≤ hi)
  | .getfield i => Nat.beq nx (pc + 3) && wAtO p (fldW (mO k) i a b)
  | .putfield i => Nat.beq nx (pc + 3) && wAtO p (fldW (mO k) i a b) && putOk a b c
  | .iaload => Nat.beq nx (pc + 1) && (Nat.beq a 0 || Nat.beq k kL)
  | .laload => Nat.beq nx (pc + 1) && Nat.beq a 0
  | .iastore => Nat.beq nx (pc + 1)
  | .lastore => Nat.beq nx (pc + 1)
  | .arraylength => Nat.beq nx (pc + 1) && (Nat.beq a 0 || Nat.beq k kL)
  | .ireturn => Nat.beq nx (pc + 1) && (if a = 1 then decide (mR k = some .boolean) else decide (mR k = some .int))
  | .lreturn => Nat.beq nx (pc + 1) && decide (mR k = some .long)
  | .return_ => Nat.beq nx (pc + 1) && decide (mR k = none)
  | .invokevirtual i => Nat.beq nx (pc + 3) && !mS a && Nat.ble (a + 1) kL && linkOk k i a p c && decide ((parseMethodDescriptor (mY a).desc).map (fun d => d.parameters.length + 1) = some b)
  | .invokestatic i => if Nat.ble a kL = false then Nat.beq nx (pc + 3) && mathOk k i a p else Nat.beq nx (pc + 3) && mS a && Nat.ble (a + 1) kL && linkOk k i a p c && decide ((parseMethodDescriptor (mY a).desc).map (fun d => d.parameters.length) = some b)
  | _ => false
def chkE (k pc : Nat) (e : Ex) : Bool := decide (decode (mC k) pc = .ok (e.1, e.2.1 - pc)) && chkI k pc e
def chkC (b : Nat) : Bool := match clx[b]? with
  | some (C, T, N) => (List.range N).all (fun i => wAt ((cPT.getD b []).getD i 0) (u_lay C T i)) && (List.range N).all (fun i => (parseFieldDescriptor (T i).2.2.1).isSome) && (List.range N).all (fun i => (List.range N).all (fun j => Nat.beq i j || decide ((T i).2.1 ≠ (T j).2.1)))
  | none => true
/-- all entries of the tables are as checked -/
def CHK : Prop := (∀ k pc e, cd k pc = some e → chkE k pc e = true) ∧ (∀ j, j < kL → chkM j = true) ∧ ∀ b, chkC b = true
