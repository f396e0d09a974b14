/-! A small machine over whole numbers: values (int, long, reference by the number of a cell), a heap of numbers, one step. Own text. -/
abbrev Vx : Type := Int ⊕ (Int ⊕ Nat)
abbrev Lx : Type := List (Option Vx)
/-- an instruction as the table has it: itself, the next place, two numbers, a place among the words, a constant -/
abbrev Ex : Type := Instr × Nat × Nat × Nat × Nat × Int
/-- a store of one word: a long that begins ahead of the place is gone -/
def lkill (L : Lx) (i : Nat) : Lx := match i with
  | 0 => L
  | j + 1 => match L[j]? with
    | some (some (.inr (.inl _))) => L.set j none
    | _ => L
def lst1 (L : Lx) (i : Nat) (v : Vx) : Lx := (lkill L i).set i (some v)
def lst2 (L : Lx) (i : Nat) (v : Vx) : Lx := ((lkill L i).set i (some v)).set (i + 1) none
def cat : Vx → Nat
  | .inr (.inl _) => 2
  | _ => 1
def entL : List Vx → Lx
  | [] => []
  | v :: r => if cat v = 2 then some v :: none :: entL r else some v :: entL r
def padL (L : Lx) (n : Nat) : Lx := L ++ List.replicate (n - L.length) none
def tsw (pc : Nat) (d lo hi : Int) (offs : Array Int) (x : Int) : Nat :=
  if x < lo ∨ hi < x then ((pc : Int) + d).toNat else ((pc : Int) + offs.toList.getD (x - lo).toNat 0).toNat
def isRet : Instr → Bool
  | .ireturn => true
  | .lreturn => true
  | .return_ => true
  | _ => false
def retOf (e : Ex) (S : List Vx) (g : Gx) : Option (Option Vx × Gx) := match e.1 with
  | .ireturn => match S with
    | [.inl x] => if e.2.2.1 = 1 then (if x = 0 ∨ x = 1 then some (some (.inl x), g) else none) else some (some (.inl x), g)
    | _ => none
  | .lreturn => match S with
    | [.inr (.inl x)] => some (some (.inr (.inl x)), g)
    | _ => none
  | .return_ => match S with
    | [] => some (none, g)
    | _ => none
  | _ => none
def pushR (r : Option Vx) (S : List Vx) : List Vx := match r with
  | some v => v :: S
  | none => S
