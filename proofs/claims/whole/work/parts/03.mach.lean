/-! A small machine over whole numbers: values (int, long, reference by the number of a cell), a heap of numbers, one step. Own text. -/
abbrev Vx : Type := Int ⊕ (Int ⊕ Nat)
abbrev Gx : Type := Nat → Nat → Int
abbrev Lx : Type := List (Option Vx)
/-- an instruction as the table has it: itself, the next place, two numbers, a place among the words, a constant -/
abbrev Ex : Type := Instr × Nat × Nat × Nat × Nat × Int
def wr (x : Int) : Int := (Int32.ofInt x).toInt
def wl (x : Int) : Int := (Int64.ofInt x).toInt
def jand (x y : Int) : Int := (Int32.ofInt x &&& Int32.ofInt y).toInt
def jor (x y : Int) : Int := (Int32.ofInt x ||| Int32.ofInt y).toInt
def jxor (x y : Int) : Int := (Int32.ofInt x ^^^ Int32.ofInt y).toInt
def jshl (x y : Int) : Int := (Int32.ofInt x <<< (Int32.ofInt y &&& 31)).toInt
def jshr (x y : Int) : Int := (Int32.ofInt x >>> (Int32.ofInt y &&& 31)).toInt
def jushr (x y : Int) : Int := ((Int32.ofInt x).toUInt32 >>> ((Int32.ofInt y).toUInt32 &&& Int32.toUInt32 31)).toInt32.toInt
def jdiv (x y : Int) : Int := (Int32.ofInt x / Int32.ofInt y).toInt
def jrem (x y : Int) : Int := (Int32.ofInt x - Int32.ofInt x / Int32.ofInt y * Int32.ofInt y).toInt
def jb (x : Int) : Int := (Int32.ofInt x).toInt8.toInt32.toInt
def js (x : Int) : Int := (Int32.ofInt x).toInt16.toInt32.toInt
def mor (x y : Int) : Int := (Int64.ofInt x ||| Int64.ofInt y).toInt
def mand (x y : Int) : Int := (Int64.ofInt x &&& Int64.ofInt y).toInt
def mshl (x y : Int) : Int := (Int64.ofInt x <<< ((Int32.ofInt y).toInt64 &&& 63)).toInt
def mshr (x y : Int) : Int := (Int64.ofInt x >>> ((Int32.ofInt y).toInt64 &&& 63)).toInt
def mcmp (x y : Int) : Int := if y < x then 1 else if x = y then 0 else -1
def gset (g : Gx) (a i : Nat) (v : Int) : Gx := fun b j => if b = a then (if j = i then v else g b j) else g b j
def cnd : Jvm.ClassFile.Cond → Int → Int → Prop
  | .eq, x, y => x = y
  | .ne, x, y => ¬ x = y
  | .lt, x, y => x < y
  | .ge, x, y => y ≤ x
  | .gt, x, y => y < x
  | .le, x, y => x ≤ y
def cndB : Jvm.ClassFile.Cond → Int → Int → Bool
  | .eq, x, y => decide (x = y)
  | .ne, x, y => decide (¬ x = y)
  | .lt, x, y => decide (x < y)
  | .ge, x, y => decide (y ≤ x)
  | .gt, x, y => decide (y < x)
  | .le, x, y => decide (x ≤ y)
/-- a store of one word: a long that begins ahead of the place is gone -/
def lkill (L : Lx) (i : Nat) : Lx := match i with
  | 0 => L
  | j + 1 => match L[j]? with
    | some (some (.inr (.inl _))) => L.set j none
    | _ => L
def lst1 (L : Lx) (i : Nat) (v : Vx) : Lx := (lkill L i).set i (some v)
def lst2 (L : Lx) (i : Nat) (v : Vx) : Lx := ((lkill L i).set i (some v)).set (i + 1) none
def cat : Vx → Nat
  | .inr (.inl _) => 2
  | _ => 1
def entL : List Vx → Lx
  | [] => []
  | v :: r => if cat v = 2 then some v :: none :: entL r else some v :: entL r
def padL (L : Lx) (n : Nat) : Lx := L ++ List.replicate (n - L.length) none
def tsw (pc : Nat) (d lo hi : Int) (offs : Array Int) (x : Int) : Nat :=
  if x < lo ∨ hi < x then ((pc : Int) + d).toNat else ((pc : Int) + offs.toList.getD (x - lo).toNat 0).toNat
def imax (x y : Int) : Int := if x < y then y else x
def imin (x y : Int) : Int := if y < x then y else x
def isRet : Instr → Bool
  | .ireturn => true
  | .lreturn => true
  | .return_ => true
  | _ => false
def retOf (e : Ex) (S : List Vx) (g : Gx) : Option (Option Vx × Gx) := match e.1 with
  | .ireturn => match S with
    | [.inl x] => if e.2.2.1 = 1 then (if x = 0 ∨ x = 1 then some (some (.inl x), g) else none) else some (some (.inl x), g)
    | _ => none
  | .lreturn => match S with
    | [.inr (.inl x)] => some (some (.inr (.inl x)), g)
    | _ => none
  | .return_ => match S with
    | [] => some (none, g)
    | _ => none
  | _ => none
def pushR (r : Option Vx) (S : List Vx) : List Vx := match r with
  | some v => v :: S
  | none => S
