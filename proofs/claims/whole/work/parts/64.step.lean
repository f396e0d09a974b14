/-! One step, calls, runs of the small machine. Own text. -/
def br {α : Type} (c : Jvm.ClassFile.Cond) (x y : Int) (A B : α) : α := match c with
  | .eq => if x = y then A else B
  | .ne => if ¬ x = y then A else B
  | .lt => if x < y then A else B
  | .ge => if y ≤ x then A else B
  | .gt => if y < x then A else B
  | .le => if x ≤ y then A else B
/-- a call; Math.max and Math.min (numbers behind the last method) are steps -/
def isCall (e : Ex) : Bool := match e.1 with
  | .invokevirtual _ => true
  | .invokestatic _ => Nat.ble e.2.2.1 kL
  | _ => false
abbrev Stx : Type := Nat × Lx × List Vx × Gx
def op2 (nx : Nat) (L : Lx) (g : Gx) (f : Int → Int → Int) : List Vx → Option Stx
  | .inl y :: .inl x :: r => some (nx, L, .inl (f x y) :: r, g)
  | _ => none
def op2l (nx : Nat) (L : Lx) (g : Gx) (f : Int → Int → Int) : List Vx → Option Stx
  | .inr (.inl y) :: .inr (.inl x) :: r => some (nx, L, .inr (.inl (f x y)) :: r, g)
  | _ => none
def getf (nx a b : Nat) (L : Lx) (g : Gx) : List Vx → Option Stx
  | .inr (.inr q) :: r => match tpo q with
    | some (ci, _, fks) => if ci = b then (match fks[a]? with
      | some none => some (nx, L, .inl (g q a) :: r, g)
      | some (some t) => some (nx, L, .inr (.inr t) :: r, g)
      | none => none) else none
    | none => none
  | _ => none
def putf (nx a b : Nat) (c : Int) (L : Lx) (g : Gx) : List Vx → Option Stx
  | .inl x :: .inr (.inr q) :: r => match tpo q with
    | some (ci, _, fks) => if ci = b then (match fks[a]? with
      | some none => if c = 1 then (if x = 0 ∨ x = 1 then some (nx, L, r, gset g q a x) else none) else some (nx, L, r, gset g q a x)
      | _ => none) else none
    | none => none
  | _ => none
def ald (nx a kd : Nat) (tag : Int → Vx) (L : Lx) (g : Gx) : List Vx → Option Stx
  | .inl i :: .inr (.inr q) :: r => if a = 1 then (if q = 1000 ∧ 0 ≤ i ∧ i < g 1001 0 then some (nx, L, tag (g 1000 i.toNat) :: r, g) else none) else
    match tpo q with
    | some (ci, n, _) => if ci = kd then (if 0 ≤ i ∧ i < (n : Int) then some (nx, L, tag (g q i.toNat) :: r, g) else none) else none
    | none => none
  | _ => none
def ast (nx kd q : Nat) (i x : Int) (L : Lx) (g : Gx) (r : List Vx) : Option Stx :=
  match tpo q with
  | some (ci, n, _) => if ci = kd then (if 0 ≤ i ∧ i < (n : Int) then some (nx, L, r, gset g q i.toNat x) else none) else none
  | none => none
def alen (nx a : Nat) (L : Lx) (g : Gx) : List Vx → Option Stx
  | .inr (.inr q) :: r => if a = 1 then (if q = 1000 then some (nx, L, .inl (g 1001 0) :: r, g) else none) else
    match tpo q with
    | some (ci, n, _) => if ci = 13 then some (nx, L, .inl (n : Int) :: r, g) else none
    | none => none
  | _ => none
/-- a step that is no call and no return -/
def stpx (pc : Nat) (e : Ex) (L : Lx) (S : List Vx) (g : Gx) : Option Stx :=
  match e with
  | (ins, nx, a, b, _, c) =>
  match ins with
  | .iconst _ => some (nx, L, .inl c :: S, g)
  | .bipush _ => some (nx, L, .inl c :: S, g)
  | .sipush _ => some (nx, L, .inl c :: S, g)
  | .ldc _ => some (nx, L, .inl c :: S, g)
  | .ldc_w _ => some (nx, L, .inl c :: S, g)
  | .lconst _ => some (nx, L, .inr (.inl c) :: S, g)
  | .ldc2_w _ => some (nx, L, .inr (.inl c) :: S, g)
  | .iload_n _ => match L[a]? with
    | some (some (.inl x)) => some (nx, L, .inl x :: S, g)
    | _ => none
  | .iload _ => match L[a]? with
    | some (some (.inl x)) => some (nx, L, .inl x :: S, g)
    | _ => none
  | .lload_n _ => match L[a]? with
    | some (some (.inr (.inl x))) => some (nx, L, .inr (.inl x) :: S, g)
    | _ => none
  | .lload _ => match L[a]? with
    | some (some (.inr (.inl x))) => some (nx, L, .inr (.inl x) :: S, g)
    | _ => none
  | .aload_n _ => match L[a]? with
    | some (some (.inr (.inr x))) => some (nx, L, .inr (.inr x) :: S, g)
    | _ => none
  | .istore_n _ => match S with
    | .inl x :: r => some (nx, lst1 L a (.inl x), r, g)
    | _ => none
  | .istore _ => match S with
    | .inl x :: r => some (nx, lst1 L a (.inl x), r, g)
    | _ => none
  | .lstore_n _ => match S with
    | .inr (.inl x) :: r => some (nx, lst2 L a (.inr (.inl x)), r, g)
    | _ => none
  | .lstore _ => match S with
    | .inr (.inl x) :: r => some (nx, lst2 L a (.inr (.inl x)), r, g)
    | _ => none
  | .astore_n _ => match S with
    | .inr (.inr x) :: r => some (nx, lst1 L a (.inr (.inr x)), r, g)
    | _ => none
  | .iinc _ _ => match L[a]? with
    | some (some (.inl x)) => some (nx, lst1 L a (.inl (wr (x + c))), S, g)
    | _ => none
  | .iadd => op2 nx L g (fun x y => wr (x + y)) S
  | .isub => op2 nx L g (fun x y => wr (x - y)) S
  | .imul => op2 nx L g (fun x y => wr (x * y)) S
  | .iand => op2 nx L g jand S
  | .ior => op2 nx L g jor S
  | .ixor => op2 nx L g jxor S
  | .ishl => op2 nx L g jshl S
  | .ishr => op2 nx L g jshr S
  | .iushr => op2 nx L g jushr S
  | .idiv => match S with
    | .inl y :: .inl x :: r => if y = 0 then none else some (nx, L, .inl (jdiv x y) :: r, g)
    | _ => none
  | .irem => match S with
    | .inl y :: .inl x :: r => if y = 0 then none else some (nx, L, .inl (jrem x y) :: r, g)
    | _ => none
  | .ladd => op2l nx L g (fun x y => wl (x + y)) S
  | .lmul => op2l nx L g (fun x y => wl (x * y)) S
  | .lor => op2l nx L g mor S
  | .land => op2l nx L g mand S
  | .lshl => match S with
    | .inl y :: .inr (.inl x) :: r => some (nx, L, .inr (.inl (mshl x y)) :: r, g)
    | _ => none
  | .lshr => match S with
    | .inl y :: .inr (.inl x) :: r => some (nx, L, .inr (.inl (mshr x y)) :: r, g)
    | _ => none
  | .lcmp => match S with
    | .inr (.inl y) :: .inr (.inl x) :: r => some (nx, L, .inl (mcmp x y) :: r, g)
    | _ => none
  | .i2l => match S with
    | .inl x :: r => some (nx, L, .inr (.inl x) :: r, g)
    | _ => none
  | .i2b => match S with
    | .inl x :: r => some (nx, L, .inl (jb x) :: r, g)
    | _ => none
  | .i2s => match S with
    | .inl x :: r => some (nx, L, .inl (js x) :: r, g)
    | _ => none
  | .dup => match S with
    | .inl x :: r => some (nx, L, .inl x :: .inl x :: r, g)
    | .inr (.inr x) :: r => some (nx, L, .inr (.inr x) :: .inr (.inr x) :: r, g)
    | _ => none
  | .dup2 => match S with
    | .inl y :: .inr (.inr x) :: r => some (nx, L, .inl y :: .inr (.inr x) :: .inl y :: .inr (.inr x) :: r, g)
    | _ => none
  | .goto _ => some (a, L, S, g)
  | .if_icmp cc _ => match S with
    | .inl y :: .inl x :: r => some (br cc x y (a, L, r, g) (nx, L, r, g))
    | _ => none
  | .ifCond cc _ => match S with
    | .inl x :: r => some (br cc x 0 (a, L, r, g) (nx, L, r, g))
    | _ => none
  | .tableswitch d lo hi offs => match S with
    | .inl x :: r => some (tsw pc d lo hi offs x, L, r, g)
    | _ => none
  | .getfield _ => getf nx a b L g S
  | .putfield _ => putf nx a b c L g S
  | .iaload => ald nx a 13 (fun v => .inl v) L g S
  | .laload => ald nx a 14 (fun v => .inr (.inl v)) L g S
  | .iastore => match S with
    | .inl x :: .inl i :: .inr (.inr q) :: r => ast nx 13 q i x L g r
    | _ => none
  | .lastore => match S with
    | .inr (.inl x) :: .inl i :: .inr (.inr q) :: r => ast nx 14 q i x L g r
    | _ => none
  | .arraylength => alen nx a L g S
  | .invokestatic _ => match S with
    | .inl y :: .inl x :: r => if Nat.ble ((r.map cat).sum) 8 = true then some (nx, L, .inl (cond (Nat.beq a (kL + 1)) (imax x y) (imin x y)) :: r, g) else none
    | _ => none
  | _ => none
/-- a call: the method's number, its arguments, the rest of the stack -/
def recvOk (j : Nat) : Instr → List Vx → Bool
  | .invokevirtual _, .inr (.inr q) :: _ => match tpo q with
    | some (ci, _, _) => Nat.beq ci (mK j)
    | none => false
  | .invokestatic _, _ => true
  | _, _ => false
def callOf (k : Nat) (e : Ex) (S : List Vx) : Option (List Vx × List Vx) :=
  match e with
  | (ins, _, j, na, _, _) =>
    if ((S.take na).length == na && Nat.ble (((S.drop na).map cat).sum) 8 && Nat.ble (mFr j + 1) (mFr k) && Nat.ble (mL j + 19 + mLo j) (mLo k) && Nat.ble (entL (S.take na).reverse).length (mL j) && recvOk j ins (S.take na).reverse) = true
    then some ((S.take na).reverse, S.drop na) else none
def ex : Nat → Nat → Nat → Lx → List Vx → Gx → Option (Option Vx × Gx)
  | 0, _, _, _, _, _ => none
  | n + 1, k, pc, L, S, g =>
    match cd k pc with
    | none => none
    | some e =>
      match isCall e with
      | true => match callOf k e S with
        | none => none
        | some (as, rest) => match ex n e.2.2.1 0 (padL (entL as) (mL e.2.2.1)) [] g with
          | none => none
          | some (r, g1) => ex n k e.2.1 L (pushR r rest) g1
      | false => match isRet e.1 with
        | true => retOf e S g
        | false => match stpx pc e L S g with
          | none => none
          | some (pc', L', S', g') => ex n k pc' L' S' g'
/-- the method k, at a place, comes to an end -/
def Ev (k pc : Nat) (L : Lx) (S : List Vx) (g : Gx) (r : Option Vx) (g' : Gx) : Prop := ∃ n, ex n k pc L S g = some (r, g')
theorem ex_more : ∀ (n k pc : Nat) (L : Lx) (S : List Vx) (g : Gx) (o : Option Vx × Gx), ex n k pc L S g = some o → ex (n + 1) k pc L S g = some o := by
  intro n
  induction n with
  | zero => intro k pc L S g o h; simp [ex] at h
  | succ n ih =>
    intro k pc L S g o h
    rw [ex] at h ⊢
    cases hc : cd k pc with
    | none => rw [hc] at h; exact h
    | some e =>
      rw [hc] at h
      simp only at h ⊢
      cases h1 : isCall e with
      | true =>
        rw [h1] at h
        simp only at h ⊢
        cases h2 : callOf k e S with
        | none => rw [h2] at h; exact h
        | some q =>
          obtain ⟨as, rest⟩ := q
          rw [h2] at h
          simp only at h ⊢
          cases h3 : ex n e.2.2.1 0 (padL (entL as) (mL e.2.2.1)) [] g with
          | none => rw [h3] at h; simp at h
          | some q =>
            obtain ⟨r, g1⟩ := q
            rw [h3] at h
            rw [ih _ _ _ _ _ _ h3]
            exact ih _ _ _ _ _ _ h
      | false =>
        rw [h1] at h
        simp only at h ⊢
        cases h2 : isRet e.1 with
        | true => rw [h2] at h; exact h
        | false =>
          rw [h2] at h
          simp only at h ⊢
          cases h3 : stpx pc e L S g with
          | none => rw [h3] at h; simp at h
          | some q =>
            obtain ⟨a, b, c, d⟩ := q
            rw [h3] at h
            exact ih _ _ _ _ _ _ h
theorem ex_mono {n m k pc : Nat} {L : Lx} {S : List Vx} {g : Gx} {o : Option Vx × Gx} (hm : n ≤ m) (h : ex n k pc L S g = some o) : ex m k pc L S g = some o := by
  induction hm with
  | refl => exact h
  | step _ ih => exact ex_more _ _ _ _ _ _ _ ih
theorem ev_step {k pc : Nat} {L : Lx} {S : List Vx} {g : Gx} {r : Option Vx} {g' : Gx} {e : Ex} {q : Stx} (he : cd k pc = some e) (h1 : isCall e = false) (h2 : isRet e.1 = false) (hs : stpx pc e L S g = some q) (h : Ev k q.1 q.2.1 q.2.2.1 q.2.2.2 r g') : Ev k pc L S g r g' := by
  obtain ⟨n, h⟩ := h
  refine ⟨n + 1, ?_⟩
  rw [ex, he]
  simp only [h1, h2, hs]
  exact h
theorem ev_ret {k pc : Nat} {L : Lx} {S : List Vx} {g : Gx} {r : Option Vx} {g' : Gx} {e : Ex} (he : cd k pc = some e) (h1 : isCall e = false) (h2 : isRet e.1 = true) (hs : retOf e S g = some (r, g')) : Ev k pc L S g r g' := by
  refine ⟨1, ?_⟩
  rw [ex, he]
  simp only [h1, h2]
  exact hs
theorem ev_call {k pc : Nat} {L : Lx} {S : List Vx} {g : Gx} {r r1 : Option Vx} {g1 g' : Gx} {e : Ex} {as rest : List Vx} (he : cd k pc = some e) (h1 : isCall e = true) (hs : callOf k e S = some (as, rest)) (hc : Ev e.2.2.1 0 (padL (entL as) (mL e.2.2.1)) [] g r1 g1) (h : Ev k e.2.1 L (pushR r1 rest) g1 r g') : Ev k pc L S g r g' := by
  obtain ⟨n, hc⟩ := hc
  obtain ⟨m, h⟩ := h
  refine ⟨max n m + 1, ?_⟩
  rw [ex, he]
  simp only [h1, hs, ex_mono (Nat.le_max_left n m) hc]
  exact ex_mono (Nat.le_max_right n m) h
/-- several steps in one -/
def runs : Nat → Nat → Stx → Option Stx
  | 0, _, q => some q
  | n + 1, k, (pc, L, S, g) => match cd k pc with
    | none => none
    | some e => match isCall e with
      | true => none
      | false => match isRet e.1 with
        | true => none
        | false => match stpx pc e L S g with
          | none => none
          | some q => runs n k q
theorem ev_runs {k : Nat} {r : Option Vx} {g' : Gx} : ∀ (n : Nat) (q q' : Stx), runs n k q = some q' → Ev k q'.1 q'.2.1 q'.2.2.1 q'.2.2.2 r g' → Ev k q.1 q.2.1 q.2.2.1 q.2.2.2 r g' := by
  intro n
  induction n with
  | zero => intro q q' h; simp only [runs, Option.some.injEq] at h; subst h; exact id
  | succ n ih =>
    intro ⟨pc, L, S, g⟩ q' h hE
    rw [runs] at h
    cases hc : cd k pc with
    | none => rw [hc] at h; simp at h
    | some e =>
      rw [hc] at h
      simp only at h
      cases h1 : isCall e with
      | true => rw [h1] at h; simp at h
      | false =>
        rw [h1] at h
        simp only at h
        cases h2 : isRet e.1 with
        | true => rw [h2] at h; simp at h
        | false =>
          rw [h2] at h
          simp only at h
          cases h3 : stpx pc e L S g with
          | none => rw [h3] at h; simp at h
          | some q =>
            rw [h3] at h
            exact ev_step hc h1 h2 h3 (ih q q' h hE)
