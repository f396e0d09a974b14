/-! One step of the small machine is a step of the machine. Own text. -/
def NWs (s : State) : Prop := ∀ w ∈ NWx, va_Nw w s
/-- what stays over a method's run -/
def Cx (p : Program) (R : Room) (s : State) (m : MethodId) (args : Array Value) (c : Code) (cells slots : Nat) (ad : Nat → Nat) (D : va_G) (cI cJ : ClassId) (H0 : Heap) (b0 N0 : Nat) (xs0 : Nat → Int32) (k : Nat) : Prop :=
  p.tables.exec = Jvm.exec ∧ c.code = mC k ∧ c.maxLocals = mL k ∧ s.vm.findClass (mO k) = some m.cls ∧ (∀ w ∈ TBx, w.before args s = true) ∧ (mFr k ≤ R.frames ∧ mLo k ≤ R.locals) ∧ NWs s ∧ va_K D clx [(cI, .int), (cJ, .long)] s ∧ (cells ≤ R.cells ∧ slots ≤ R.slots) ∧ (k = kL → ad 1000 = b0 ∧ va_X b0 N0 xs0 s H0 ∧ b0 < H0.size ∧ ¬ AW ad b0 ∧ N0 < 2147483648)
def Hx (ad : Nat → Nat) (D : va_G) (cI cJ : ClassId) (H0 : Heap) (g : Gx) (H : Heap) (locs : List Loc) : Prop :=
  va_P D clx (wsX ad cI cJ g) H ∧ va_D (AW ad) (wsX ad cI cJ g) ∧ va_S (AW ad) H0 H locs ∧ okG g
def Sx (N0 : Nat) (xs0 : Nat → Int32) (k : Nat) (g : Gx) : Prop := k = kL → (∀ j, j < N0 → Int32.ofInt (g 1000 j) = xs0 j) ∧ g 1001 0 = (N0 : Int)
section SND
variable {p : Program} {l : Launch} {e : Env} {R : Room} {s : State} {m : MethodId} {args : Array Value} {below : List Frame} {meth : Method} {c : Code} {cells slots : Nat} {Q : State → Prop} {ad : Nat → Nat} {D : va_G} {cI cJ : ClassId} {H0 : Heap} {b0 N0 : Nat} {xs0 : Nat → Int32}
def Jx (p : Program) (l : Launch) (e : Env) (R : Room) (s : State) (m : MethodId) (args : Array Value) (below : List Frame) (meth : Method) (c : Code) (cells slots : Nat) (Q : State → Prop) (ad : Nat → Nat) (D : va_G) (cI cJ : ClassId) (H0 : Heap) (N0 : Nat) (xs0 : Nat → Int32) (k pc : Nat) (L : Lx) (S : List Vx) (g : Gx) : Prop :=
  ∀ (H : Heap) (locs : List Loc) (ls : Array Slot), Hx ad D cI cJ H0 g H locs → Sx N0 xs0 k g → lrel ad ls L → L.length = mL k → okL L → okS S → W p l e R s m args below meth c H locs cells slots Q (F0 m pc ls (S.map (tr ad)))
/-- the stack alone changes: from what the kit's row says of one instruction -/
theorem jx_i {k pc nx : Nat} {L : Lx} {S : List Vx} {v : Vx} {g : Gx} (J : Jx p l e R s m args below meth c cells slots Q ad D cI cJ H0 N0 xs0 k nx L (v :: S) g) (hv : okV v) (hS : okS S) {H : Heap} {locs : List Loc} {ls : Array Slot} (hH : Hx ad D cI cJ H0 g H locs) (hX : Sx N0 xs0 k g) (hl : lrel ad ls L) (hn : L.length = mL k) (hL : okL L) {w : Value} (hw : w = tr ad v) : W p l e R s m args below meth c H locs cells slots Q (F0 m nx ls (w :: S.map (tr ad))) := by
  subst hw
  exact J H locs ls hH hX hl hn hL (hS.cons hv)
theorem chk_d {k pc : Nat} {x : Ex} (h : chkE k pc x = true) : decode (mC k) pc = .ok (x.1, x.2.1 - pc) ∧ chkI k pc x = true := by
  simp only [chkE, Bool.and_eq_true, decide_eq_true_eq] at h
  exact h
theorem chk_n {k pc n nx : Nat} {ins : Instr} (h : decode (mC k) pc = .ok (ins, nx - pc)) (hn : Nat.beq nx (pc + n) = true) : nx = pc + n ∧ decode (mC k) pc = .ok (ins, n) := by
  have e1 : nx = pc + n := Nat.eq_of_beq_eq_true hn
  subst e1
  rw [Nat.add_sub_cancel_left] at h
  exact ⟨rfl, h⟩
theorem inRb_ok {x : Int} (h : inRb x = true) : okI x := by
  simp only [inRb, Bool.and_eq_true, decide_eq_true_eq] at h
  exact h
theorem inLb_ok {x : Int} (h : inLb x = true) : okJ x := by
  simp only [inLb, Bool.and_eq_true, decide_eq_true_eq] at h
  exact h
theorem beq_e {a b : Nat} (h : Nat.beq a b = true) : a = b := Nat.eq_of_beq_eq_true h
theorem ble_e {a b : Nat} (h : Nat.ble a b = true) : a ≤ b := Nat.le_of_ble_eq_true h
theorem i64_of32 {x : Int} (h : okI x) : (Int32.ofInt x).toInt64 = Int64.ofInt x := by
  rw [← Int64.toInt_inj, Int32.toInt_toInt64, i32_id h, i64_id (okI_J h)]
theorem mcmp_lg {x y : Int} (hx : okJ x) (hy : okJ y) : lg_cmp (Int64.ofInt x) (Int64.ofInt y) = Int32.ofInt (mcmp x y) := by
  unfold lg_cmp mcmp
  simp only [gt_iff_lt, i64_lt hy hx, i64_eq hx hy]
  split
  · rfl
  · split <;> rfl
theorem mcmp_ok (x y : Int) : okI (mcmp x y) := by
  unfold mcmp
  split
  · exact ⟨by decide, by decide⟩
  · split <;> exact ⟨by decide, by decide⟩
theorem jx_br {k pc : Nat} {L : Lx} {S : List Vx} {g : Gx} {cc : Jvm.ClassFile.Cond} {x y : Int} {a nx : Nat} {q : Stx} (hq : some (br cc x y (a, L, S, g) (nx, L, S, g)) = some q) (J : Jx p l e R s m args below meth c cells slots Q ad D cI cJ H0 N0 xs0 k q.1 q.2.1 q.2.2.1 q.2.2.2) : br cc x y (Jx p l e R s m args below meth c cells slots Q ad D cI cJ H0 N0 xs0 k a L S g) (Jx p l e R s m args below meth c cells slots Q ad D cI cJ H0 N0 xs0 k nx L S g) := by
  cases hq
  cases cc <;> (simp only [br] at J ⊢; split <;> rename_i h9 <;> simp only [h9, if_true, if_false, not_true_eq_false, not_false_eq_true] at J <;> exact J)
end SND
