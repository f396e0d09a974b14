/-! Groups of instructions. Own text. -/
section SND3
variable {p : Program} {l : Launch} {e : Env} {R : Room} {s : State} {m : MethodId} {args : Array Value} {below : List Frame} {meth : Method} {c : Code} {cells slots : Nat} {Q : State → Prop} {ad : Nat → Nat} {D : va_G} {cI cJ : ClassId} {H0 : Heap} {b0 N0 : Nat} {xs0 : Nat → Int32}
theorem op2_inv {nx : Nat} {L : Lx} {g : Gx} {f : Int → Int → Int} {S : List Vx} {q : Stx} (h : op2 nx L g f S = some q) : ∃ y x r, S = .inl y :: .inl x :: r ∧ q = (nx, L, .inl (f x y) :: r, g) := by
  unfold op2 at h
  split at h
  · cases h; exact ⟨_, _, _, rfl, rfl⟩
  · cases h
theorem op2l_inv {nx : Nat} {L : Lx} {g : Gx} {f : Int → Int → Int} {S : List Vx} {q : Stx} (h : op2l nx L g f S = some q) : ∃ y x r, S = .inr (.inl y) :: .inr (.inl x) :: r ∧ q = (nx, L, .inr (.inl (f x y)) :: r, g) := by
  unfold op2l at h
  split at h
  · cases h; exact ⟨_, _, _, rfl, rfl⟩
  · cases h
theorem jx_op2 {k pc nx : Nat} {L : Lx} {S : List Vx} {g : Gx} {q : Stx} {f : Int → Int → Int} {F : Int32 → Int32 → Int32} (hF : ∀ x y, F (Int32.ofInt x) (Int32.ofInt y) = Int32.ofInt (f x y)) (hf : ∀ x y, okI (f x y)) (hs : op2 nx L g f S = some q) (J : Jx p l e R s m args below meth c cells slots Q ad D cI cJ H0 N0 xs0 k q.1 q.2.1 q.2.2.1 q.2.2.2)
    (row : ∀ (H : Heap) (locs : List Loc) (ls : Array Slot) (rest : List Value), ∀ x y : Int32, W p l e R s m args below meth c H locs cells slots Q (F0 m nx ls (.int (F x y) :: rest)) → W p l e R s m args below meth c H locs cells slots Q (F0 m pc ls (.int y :: .int x :: rest))) : Jx p l e R s m args below meth c cells slots Q ad D cI cJ H0 N0 xs0 k pc L S g := by
  obtain ⟨y, x, r, rfl, rfl⟩ := op2_inv hs
  intro H locs ls hH hX hl hn hL hS
  exact row H locs ls _ _ _ (by rw [hF]; exact J H locs ls hH hX hl hn hL (hS.tl.tl.cons (hf x y)))
theorem jx_op2l {k pc nx : Nat} {L : Lx} {S : List Vx} {g : Gx} {q : Stx} {f : Int → Int → Int} {F : Int64 → Int64 → Int64} (hF : ∀ x y, F (Int64.ofInt x) (Int64.ofInt y) = Int64.ofInt (f x y)) (hf : ∀ x y, okJ (f x y)) (hs : op2l nx L g f S = some q) (J : Jx p l e R s m args below meth c cells slots Q ad D cI cJ H0 N0 xs0 k q.1 q.2.1 q.2.2.1 q.2.2.2)
    (row : ∀ (H : Heap) (locs : List Loc) (ls : Array Slot) (rest : List Value), ∀ x y : Int64, W p l e R s m args below meth c H locs cells slots Q (F0 m nx ls (.long (F x y) :: rest)) → W p l e R s m args below meth c H locs cells slots Q (F0 m pc ls (.long y :: .long x :: rest))) : Jx p l e R s m args below meth c cells slots Q ad D cI cJ H0 N0 xs0 k pc L S g := by
  obtain ⟨y, x, r, rfl, rfl⟩ := op2l_inv hs
  intro H locs ls hH hX hl hn hL hS
  exact row H locs ls _ _ _ (by rw [hF]; exact J H locs ls hH hX hl hn hL (hS.tl.tl.cons (hf x y)))
theorem jx_push {k pc nx : Nat} {L : Lx} {S : List Vx} {g : Gx} {q : Stx} {v : Vx} (hv : okV v) (hs : some (nx, L, v :: S, g) = some q) (J : Jx p l e R s m args below meth c cells slots Q ad D cI cJ H0 N0 xs0 k q.1 q.2.1 q.2.2.1 q.2.2.2)
    (row : ∀ (H : Heap) (locs : List Loc) (ls : Array Slot) (rest : List Value), W p l e R s m args below meth c H locs cells slots Q (F0 m nx ls (tr ad v :: rest)) → W p l e R s m args below meth c H locs cells slots Q (F0 m pc ls rest)) : Jx p l e R s m args below meth c cells slots Q ad D cI cJ H0 N0 xs0 k pc L S g := by
  cases hs
  intro H locs ls hH hX hl hn hL hS
  exact row H locs ls _ (J H locs ls hH hX hl hn hL (hS.cons hv))
/-- a load: what the place holds is pushed -/
theorem jx_load {k pc nx i : Nat} {L : Lx} {S : List Vx} {g : Gx} {q : Stx} {v : Vx} (hi : L[i]? = some (some v)) (hs : some (nx, L, v :: S, g) = some q) (J : Jx p l e R s m args below meth c cells slots Q ad D cI cJ H0 N0 xs0 k q.1 q.2.1 q.2.2.1 q.2.2.2)
    (row : ∀ (H : Heap) (locs : List Loc) (ls : Array Slot) (rest : List Value), ls[i]? = some (.val (tr ad v)) → W p l e R s m args below meth c H locs cells slots Q (F0 m nx ls (tr ad v :: rest)) → W p l e R s m args below meth c H locs cells slots Q (F0 m pc ls rest)) : Jx p l e R s m args below meth c cells slots Q ad D cI cJ H0 N0 xs0 k pc L S g := by
  cases hs
  intro H locs ls hH hX hl hn hL hS
  exact row H locs ls _ (hl.2.2 _ _ hi) (J H locs ls hH hX hl hn hL (hS.cons (hL _ _ hi)))
theorem jx_st1 {k pc nx i : Nat} {L : Lx} {S : List Vx} {g : Gx} {q : Stx} {v : Vx} (hi : i < mL k) (hs : some (nx, lst1 L i v, S, g) = some q) (J : Jx p l e R s m args below meth c cells slots Q ad D cI cJ H0 N0 xs0 k q.1 q.2.1 q.2.2.1 q.2.2.2)
    (row : ∀ (H : Heap) (locs : List Loc) (ls : Array Slot) (rest : List Value), ∀ lv : List (Nat × Value), lv_has ls (mL k) lv → i < mL k → (∀ ls' : Array Slot, lv_has ls' (mL k) ((i, tr ad v) :: lv.filter (fun q => !(q.1 == i) && !(q.1 + 1 == i && q.2.category == 2))) → W p l e R s m args below meth c H locs cells slots Q (F0 m nx ls' rest)) → W p l e R s m args below meth c H locs cells slots Q (F0 m pc ls (tr ad v :: rest))) : Jx p l e R s m args below meth c cells slots Q ad D cI cJ H0 N0 xs0 k pc L (v :: S) g := by
  cases hs
  intro H locs ls hH hX hl hn hL hS
  refine row H locs ls _ (asc ad L) (by rw [← hn]; exact hl.has) hi (fun ls' h' => ?_)
  rw [← hn] at h'
  exact J H locs ls' hH hX (lrel.st1 h') (by rw [lst1_len]; exact hn) (hL.st1 hS.hd) hS.tl
theorem jx_st2 {k pc nx i : Nat} {L : Lx} {S : List Vx} {g : Gx} {q : Stx} {v : Vx} (hi : i + 1 < mL k) (hs : some (nx, lst2 L i v, S, g) = some q) (J : Jx p l e R s m args below meth c cells slots Q ad D cI cJ H0 N0 xs0 k q.1 q.2.1 q.2.2.1 q.2.2.2)
    (row : ∀ (H : Heap) (locs : List Loc) (ls : Array Slot) (rest : List Value), ∀ lv : List (Nat × Value), lv_has ls (mL k) lv → i + 1 < mL k → (∀ ls' : Array Slot, lv_has ls' (mL k) ((i, tr ad v) :: lv.filter (fun q => !(q.1 == i) && (!(q.1 == i + 1) && !(q.1 + 1 == i && q.2.category == 2)))) → W p l e R s m args below meth c H locs cells slots Q (F0 m nx ls' rest)) → W p l e R s m args below meth c H locs cells slots Q (F0 m pc ls (tr ad v :: rest))) : Jx p l e R s m args below meth c cells slots Q ad D cI cJ H0 N0 xs0 k pc L (v :: S) g := by
  cases hs
  intro H locs ls hH hX hl hn hL hS
  refine row H locs ls _ (asc ad L) (by rw [← hn]; exact hl.has) hi (fun ls' h' => ?_)
  rw [← hn] at h'
  exact J H locs ls' hH hX (lrel.st2 h') (by rw [lst2_len]; exact hn) (hL.st2 hS.hd) hS.tl
theorem jx_icmp {k pc a nx : Nat} {L : Lx} {S : List Vx} {g : Gx} {q : Stx} {cc : Jvm.ClassFile.Cond} {x y : Int} {off : Int} (hx : p.tables.exec = Jvm.exec) (hb : c.code = mC k) (hd : decode (mC k) pc = .ok (.if_icmp cc off, 3)) (hn : nx = pc + 3) (ht : (pc : Int) + off = (a : Int)) (hq : some (br cc x y (a, L, S, g) (nx, L, S, g)) = some q) (J : Jx p l e R s m args below meth c cells slots Q ad D cI cJ H0 N0 xs0 k q.1 q.2.1 q.2.2.1 q.2.2.2) : Jx p l e R s m args below meth c cells slots Q ad D cI cJ H0 N0 xs0 k pc L (.inl y :: .inl x :: S) g := by
  have J2 := jx_br (pc := pc) hq J
  subst hn
  intro H locs ls hH hX hl hn hL hS
  have hy : okI y := hS.hd
  have hxx : okI x := hS.tl.hd
  cases cc <;> simp only [br] at J2
  · refine lv_icmp_eq hx hb hd ht (fun h => ?_) (fun h => ?_)
    · rw [if_pos ((i32_eq hxx hy).mp h)] at J2; exact J2 H locs ls hH hX hl hn hL hS.tl.tl
    · rw [if_neg (fun h9 => h ((i32_eq hxx hy).mpr h9))] at J2; exact J2 H locs ls hH hX hl hn hL hS.tl.tl
  · refine lv_icmp_ne hx hb hd ht (fun h => ?_) (fun h => ?_)
    · rw [if_pos (fun h9 => h ((i32_eq hxx hy).mpr h9))] at J2; exact J2 H locs ls hH hX hl hn hL hS.tl.tl
    · rw [if_neg (fun h9 => h9 ((i32_eq hxx hy).mp h))] at J2; exact J2 H locs ls hH hX hl hn hL hS.tl.tl
  · refine lv_icmp_lt hx hb hd ht (fun h => ?_) (fun h => ?_)
    · rw [if_pos ((i32_lt hxx hy).mp h)] at J2; exact J2 H locs ls hH hX hl hn hL hS.tl.tl
    · rw [if_neg (fun h9 => h ((i32_lt hxx hy).mpr h9))] at J2; exact J2 H locs ls hH hX hl hn hL hS.tl.tl
  · refine lv_icmp_ge hx hb hd ht (fun h => ?_) (fun h => ?_)
    · rw [if_pos ((i32_le hy hxx).mp h)] at J2; exact J2 H locs ls hH hX hl hn hL hS.tl.tl
    · rw [if_neg (fun h9 => h ((i32_le hy hxx).mpr h9))] at J2; exact J2 H locs ls hH hX hl hn hL hS.tl.tl
  · refine lv_icmp_gt hx hb hd ht (fun h => ?_) (fun h => ?_)
    · rw [if_pos ((i32_lt hy hxx).mp h)] at J2; exact J2 H locs ls hH hX hl hn hL hS.tl.tl
    · rw [if_neg (fun h9 => h ((i32_lt hy hxx).mpr h9))] at J2; exact J2 H locs ls hH hX hl hn hL hS.tl.tl
  · refine lv_icmp_le hx hb hd ht (fun h => ?_) (fun h => ?_)
    · rw [if_pos ((i32_le hxx hy).mp h)] at J2; exact J2 H locs ls hH hX hl hn hL hS.tl.tl
    · rw [if_neg (fun h9 => h ((i32_le hxx hy).mpr h9))] at J2; exact J2 H locs ls hH hX hl hn hL hS.tl.tl
theorem jx_ifc {k pc a nx : Nat} {L : Lx} {S : List Vx} {g : Gx} {q : Stx} {cc : Jvm.ClassFile.Cond} {x : Int} {off : Int} (hx : p.tables.exec = Jvm.exec) (hb : c.code = mC k) (hd : decode (mC k) pc = .ok (.ifCond cc off, 3)) (hn : nx = pc + 3) (ht : (pc : Int) + off = (a : Int)) (hq : some (br cc x 0 (a, L, S, g) (nx, L, S, g)) = some q) (J : Jx p l e R s m args below meth c cells slots Q ad D cI cJ H0 N0 xs0 k q.1 q.2.1 q.2.2.1 q.2.2.2) : Jx p l e R s m args below meth c cells slots Q ad D cI cJ H0 N0 xs0 k pc L (.inl x :: S) g := by
  have J2 := jx_br (pc := pc) hq J
  subst hn
  intro H locs ls hH hX hl hn hL hS
  have hxx : okI x := hS.hd
  have hy := okI_0
  have z := i32_0
  cases cc <;> simp only [br] at J2
  · refine lv_if_eq hx hb hd ht (fun h => ?_) (fun h => ?_) <;> rw [← z, i32_eq hxx hy] at h
    · rw [if_pos h] at J2; exact J2 H locs ls hH hX hl hn hL hS.tl
    · rw [if_neg h] at J2; exact J2 H locs ls hH hX hl hn hL hS.tl
  · refine lv_if_ne hx hb hd ht (fun h => ?_) (fun h => ?_) <;> rw [← z, i32_eq hxx hy] at h
    · rw [if_pos h] at J2; exact J2 H locs ls hH hX hl hn hL hS.tl
    · rw [if_neg (fun h9 => h9 h)] at J2; exact J2 H locs ls hH hX hl hn hL hS.tl
  · refine lv_if_lt hx hb hd ht (fun h => ?_) (fun h => ?_) <;> rw [← z, i32_lt hxx hy] at h
    · rw [if_pos h] at J2; exact J2 H locs ls hH hX hl hn hL hS.tl
    · rw [if_neg h] at J2; exact J2 H locs ls hH hX hl hn hL hS.tl
  · refine lv_if_ge hx hb hd ht (fun h => ?_) (fun h => ?_) <;> rw [← z, i32_le hy hxx] at h
    · rw [if_pos h] at J2; exact J2 H locs ls hH hX hl hn hL hS.tl
    · rw [if_neg h] at J2; exact J2 H locs ls hH hX hl hn hL hS.tl
  · refine lv_if_gt hx hb hd ht (fun h => ?_) (fun h => ?_) <;> rw [← z, i32_lt hy hxx] at h
    · rw [if_pos h] at J2; exact J2 H locs ls hH hX hl hn hL hS.tl
    · rw [if_neg h] at J2; exact J2 H locs ls hH hX hl hn hL hS.tl
  · refine lv_if_le hx hb hd ht (fun h => ?_) (fun h => ?_) <;> rw [← z, i32_le hxx hy] at h
    · rw [if_pos h] at J2; exact J2 H locs ls hH hX hl hn hL hS.tl
    · rw [if_neg h] at J2; exact J2 H locs ls hH hX hl hn hL hS.tl
end SND3
