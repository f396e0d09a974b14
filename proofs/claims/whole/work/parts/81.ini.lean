/-! Constructors: a walk over a growing world, its rules. Own text. -/
def NIx (U : State) : Prop := va_Nw (.methodLinkNest RX11 23 yX9_init "OnePlan") U
def CI (p : Program) (s : State) (m : MethodId) (args : Array Value) (c : Code) (D : va_G) (cI cJ : ClassId) (own : String) (cc : ByteArray) (maxL : Nat) : Prop :=
  p.tables.exec = Jvm.exec ∧ c.code = cc ∧ c.maxLocals = maxL ∧ s.vm.findClass own = some m.cls ∧ (∀ w ∈ TBx, w.before args s = true) ∧ va_K D clx [(cI, .int), (cJ, .long)] s ∧ NIx s ∧ CHK
def IPre (D : va_G) (cI cJ : ClassId) (q : Nat) (x : va_E) (sz : Nat) (U : State) : Prop := U.heap.size = sz ∧ va_P D clx [(q, x)] U.heap ∧ va_K D clx [(cI, .int), (cJ, .long)] U ∧ va_D (fun _ => True) [(q, x)] ∧ NIx U
def IQ (D : va_G) (cI cJ : ClassId) (q : Nat) (x : va_E) (sz : Nat) (w : (Nat → Nat) → va_W) : Array Value → State → Outcome → State → Prop := va_Qv (fun _ : Nat → Nat => True) (fun u t => va_P D clx (w u) t.heap ∧ va_K D clx [(cI, .int), (cJ, .long)] t ∧ va_D (va_A [(q, x)] sz) (w u)) (va_A [(q, x)] sz)
def wkz (y : MethodName) (cc : ByteArray) (maxL : Nat) : List Jvm.Cond := .code y cc maxL none :: TBx
theorem nd_range : ∀ (n k : Nat), va_nd (List.range' k n) = true
  | 0, _ => rfl
  | n + 1, k => by
    rw [List.range'_succ]
    simp only [va_nd, Bool.and_eq_true, decide_eq_true_eq]
    refine ⟨fun h => ?_, nd_range n (k + 1)⟩
    rw [List.mem_range'_1] at h
    omega
theorem IPre.blind {D : va_G} {cI cJ : ClassId} {q : Nat} {x : va_E} {sz : Nat} {av : List Value} : FrameBlind (va_Pc av (IPre D cI cJ q x sz)) := fun a U gg mk h => by
  obtain ⟨h0, h1, h2, h3, h4, h5⟩ := h
  exact ⟨h0, h1, h2, va_K.moved (u := U) (U := U.calling gg mk a) (Vm.Alike.refl U.vm) h3, h4, va_Nw.same rfl rfl h5⟩
section INI
variable {p : Program} {l : Launch} {e : Env} {R : Room} {s : State} {m : MethodId} {args : Array Value} {below : List Frame} {meth : Method} {c : Code} {Q : State → Prop} {D : va_G} {cI cJ : ClassId} {A : Nat → Prop} {H0 : Heap} {own : String} {cc : ByteArray} {maxL : Nat} {ws : va_W} {cells slots pc : Nat} {ls : Array Slot} {st : List Value}
def ZW (p : Program) (l : Launch) (e : Env) (R : Room) (s : State) (m : MethodId) (args : Array Value) (below : List Frame) (meth : Method) (c : Code) (Q : State → Prop) (D : va_G) (A : Nat → Prop) (H0 : Heap) (ws : va_W) (cells slots pc : Nat) (ls : Array Slot) (st : List Value) : Prop :=
  ∀ (H : Heap) (locs : List Loc), va_P D clx ws H → va_D A ws → va_S A H0 H locs → W p l e R s m args below meth c H locs cells slots Q (F0 m pc ls st)
theorem z_al (C : CI p s m args c D cI cJ own cc maxL) {k : Fin 4} {i x : Nat} (hd : decode cc pc = .ok (.aload_n k, 1)) (hi : (k : Nat) = i) (hl : ls[i]? = some (.val (.ref x))) (h : ZW p l e R s m args below meth c Q D A H0 ws cells slots (pc + 1) ls (.ref x :: st)) : ZW p l e R s m args below meth c Q D A H0 ws cells slots pc ls st :=
  fun H locs hP hD hS => lv_aload_n C.1 C.2.1 hd hi hl (h H locs hP hD hS)
theorem z_il (C : CI p s m args c D cI cJ own cc maxL) {k : Fin 4} {i : Nat} {x : Int32} (hd : decode cc pc = .ok (.iload_n k, 1)) (hi : (k : Nat) = i) (hl : ls[i]? = some (.val (.int x))) (h : ZW p l e R s m args below meth c Q D A H0 ws cells slots (pc + 1) ls (.int x :: st)) : ZW p l e R s m args below meth c Q D A H0 ws cells slots pc ls st :=
  fun H locs hP hD hS => lv_iload_n C.1 C.2.1 hd hi hl (h H locs hP hD hS)
theorem z_ic (C : CI p s m args c D cI cJ own cc maxL) {n : Int} {v : Int32} (hd : decode cc pc = .ok (.iconst n, 1)) (hv : Int32.ofInt n = v) (h : ZW p l e R s m args below meth c Q D A H0 ws cells slots (pc + 1) ls (.int v :: st)) : ZW p l e R s m args below meth c Q D A H0 ws cells slots pc ls st :=
  fun H locs hP hD hS => lv_iconst C.1 C.2.1 hd hv (h H locs hP hD hS)
theorem z_bp (C : CI p s m args c D cI cJ own cc maxL) {n : Int} {v : Int32} (hd : decode cc pc = .ok (.bipush n, 2)) (hv : (Int8.ofInt n).toInt32 = v) (h : ZW p l e R s m args below meth c Q D A H0 ws cells slots (pc + 2) ls (.int v :: st)) : ZW p l e R s m args below meth c Q D A H0 ws cells slots pc ls st :=
  fun H locs hP hD hS => lv_bipush C.1 C.2.1 hd hv (h H locs hP hD hS)
theorem z_sp (C : CI p s m args c D cI cJ own cc maxL) {n : Int} {v : Int32} (hd : decode cc pc = .ok (.sipush n, 3)) (hv : (Int16.ofInt n).toInt32 = v) (h : ZW p l e R s m args below meth c Q D A H0 ws cells slots (pc + 3) ls (.int v :: st)) : ZW p l e R s m args below meth c Q D A H0 ws cells slots pc ls st :=
  fun H locs hP hD hS => lv_sipush C.1 C.2.1 hd hv (h H locs hP hD hS)
theorem z_dup (C : CI p s m args c D cI cJ own cc maxL) {v : Value} (hd : decode cc pc = .ok (.dup, 1)) (hv : v.category = 1) (h : ZW p l e R s m args below meth c Q D A H0 ws cells slots (pc + 1) ls (v :: v :: st)) : ZW p l e R s m args below meth c Q D A H0 ws cells slots pc ls (v :: st) :=
  fun H locs hP hD hS => lv_dup C.1 C.2.1 hd hv (h H locs hP hD hS)
theorem z_oi (C : CI p s m args c D cI cJ own cc maxL) {idx a : Nat} (h1 : Jvm.Cond.methodLink own idx objectInit ∈ TBx) (h2 : Jvm.Cond.instanceMethod objectInit ∈ TBx) (h3 : Jvm.Cond.code objectInit ⟨#[0xb1]⟩ 1 none ∈ TBx) (hls : ls.size = maxL) (hd : decode cc pc = .ok (.invokespecial idx, 3)) (hf : 1 ≤ R.frames) (ho : 2 * (F0 m pc ls (.ref a :: st)).monitorRoom + (st.map fun v => v.category).sum + 12 ≤ R.locals) (h : ZW p l e R s m args below meth c Q D A H0 ws cells slots (pc + 3) ls st) : ZW p l e R s m args below meth c Q D A H0 ws cells slots pc ls (.ref a :: st) := by
  obtain ⟨hx, hb, hml, hown, hts, -⟩ := C
  intro H locs hP hD hS
  exact W.objInit hx hb hown (hts _ h1) (hts _ h2) (hts _ h3) rfl (by rw [hml]; exact hls) rfl hd hf ho (h H locs hP hD hS)
theorem z_new (C : CI p s m args c D cI cJ own cc maxL) (hA : ∀ q, H0.size ≤ q → A q) {Cn : String} {T : u_T} {N idx : Nat} (ci : Nat) (ty : Nat → FieldType) (fs : List Value) (hc : clx[ci]? = some (Cn, T, N)) (hty : ∀ k, k < N → parseFieldDescriptor (T k).2.2.1 = some (ty k)) (hfs : ∀ j, j < N → defaultValue (ty j) = vp_V fs j) (h1 : Jvm.Cond.classLink own idx Cn ∈ TBx) (h2 : Jvm.Cond.instantiable Cn N ∈ TBx) (h3 : Jvm.Cond.initialized Cn ∈ TBx) (hd : decode cc pc = .ok (.new idx, 3)) (hr : cells + 1 ≤ R.cells ∧ slots + N ≤ R.slots)
    (h : ∀ q, ZW p l e R s m args below meth c Q D A H0 (ws ++ [(q, .inr (ci, fs))]) (cells + 1) (slots + N) (pc + 3) ls (.ref q :: st)) : ZW p l e R s m args below meth c Q D A H0 ws cells slots pc ls st := by
  obtain ⟨hx, hb, hml, hown, hts, hK, -, hCK⟩ := C
  intro H locs hP hD hS
  exact va_new hx hb hts (cls_ok hCK hc).1 ty hty hown (hts _ h1) (hts _ h2) (hts _ h3) hK hP hD hS hA hc hfs hr.1 hr.2 hd (fun q H1 hP1 hD1 hS1 => h q H1 locs hP1 hD1 hS1)
theorem z_newi (C : CI p s m args c D cI cJ own cc maxL) (hA : ∀ q, H0.size ≤ q → A q) (h1 : Jvm.Cond.arrayClass .int ∈ TBx) {n : Int32} (N : Nat) (hn : ¬ n < 0) (hN : n.toNatClampNeg = N) (hN2 : N ≤ 100000) (hd : decode cc pc = .ok (.newarray .int, 2)) (hr : cells + 1 ≤ R.cells ∧ slots + N ≤ R.slots)
    (h : ∀ q, ZW p l e R s m args below meth c Q D A H0 (ws ++ [(q, .inl (cI, N, .inl (fun _ => 0)))]) (cells + 1) (slots + N) (pc + 2) ls (.ref q :: st)) : ZW p l e R s m args below meth c Q D A H0 ws cells slots pc ls (.int n :: st) := by
  obtain ⟨hx, hb, hml, hown, hts, hK, -, hCK⟩ := C
  intro H locs hP hD hS
  refine va_newa (atype := .int) (ty := .int) (a0 := (N, .inl (fun _ => 0))) hx hb (hts _ h1) rfl hK hP hD hS hA (fun cA => rfl) hn hN (by show N * 4 ≤ 536870912; omega) hr.1 hr.2 hd (fun q cA H1 hK1 hP1 hD1 hS1 => ?_)
  have e1 : cA = cI := by
    have a1 := (hK1.2 2 (cA, .int) rfl).2
    have a2 := (hK.2 0 (cI, .int) rfl).2
    have a3 : s.vm.findClass ("[" ++ FieldType.int.toString) = some cA := a1
    have a4 : s.vm.findClass ("[" ++ FieldType.int.toString) = some cI := a2
    rw [a3] at a4
    exact Option.some.inj a4
  subst e1
  exact h q H1 locs hP1 hD1 hS1
theorem z_newl (C : CI p s m args c D cI cJ own cc maxL) (hA : ∀ q, H0.size ≤ q → A q) (h1 : Jvm.Cond.arrayClass .long ∈ TBx) {n : Int32} (N : Nat) (hn : ¬ n < 0) (hN : n.toNatClampNeg = N) (hN2 : N ≤ 100000) (hd : decode cc pc = .ok (.newarray .long, 2)) (hr : cells + 1 ≤ R.cells ∧ slots + N ≤ R.slots)
    (h : ∀ q, ZW p l e R s m args below meth c Q D A H0 (ws ++ [(q, .inl (cJ, N, .inr (.inl (fun _ => 0))))]) (cells + 1) (slots + N) (pc + 2) ls (.ref q :: st)) : ZW p l e R s m args below meth c Q D A H0 ws cells slots pc ls (.int n :: st) := by
  obtain ⟨hx, hb, hml, hown, hts, hK, -, hCK⟩ := C
  intro H locs hP hD hS
  refine va_newa (atype := .long) (ty := .long) (a0 := (N, .inr (.inl (fun _ => 0)))) hx hb (hts _ h1) rfl hK hP hD hS hA (fun cA => rfl) hn hN (by show N * 8 ≤ 536870912; omega) hr.1 hr.2 hd (fun q cA H1 hK1 hP1 hD1 hS1 => ?_)
  have e1 : cA = cJ := by
    have a1 := (hK1.2 2 (cA, .long) rfl).2
    have a2 := (hK.2 1 (cJ, .long) rfl).2
    have a3 : s.vm.findClass ("[" ++ FieldType.long.toString) = some cA := a1
    have a4 : s.vm.findClass ("[" ++ FieldType.long.toString) = some cJ := a2
    rw [a3] at a4
    exact Option.some.inj a4
  subst e1
  exact h q H1 locs hP1 hD1 hS1
theorem z_pf (C : CI p s m args c D cI cJ own cc maxL) (hin : meth.name = "<init>") {Cn : String} {T : u_T} {N ci idx a : Nat} (i0 k : Nat) {fs : List Value} {v : Value} (he : ws[i0]? = some (a, .inr (ci, fs))) (hc : clx[ci]? = some (Cn, T, N)) (hk : k < N) (h1 : Jvm.Cond.fieldLink own idx (T k).1 (T k).2.1 (T k).2.2.1 ∈ TBx) (hfin : (T k).2.2.2 = true) (hdecl : (T k).1 = own) (ty : FieldType) (hp : parseFieldDescriptor (T k).2.2.1 = some ty) (hn : narrow ty v = v) (hf : fits ty v = true) (hl : k < fs.length) (hd : decode cc pc = .ok (.putfield idx, 3))
    (h : ZW p l e R s m args below meth c Q D A H0 (ws.set i0 (a, .inr (ci, fs.set k v))) cells slots (pc + 3) ls st) : ZW p l e R s m args below meth c Q D A H0 ws cells slots pc ls (v :: .ref a :: st) := by
  obtain ⟨hx, hb, hml, hown, hts, hK, -, hCK⟩ := C
  obtain ⟨o1, o2, o3⟩ := cls_ok hCK hc
  intro H locs hP hD hS
  exact va_putF hx hb hts o1 _ o2 o3 hown hK hP hD hS i0 he hc k hk (hts _ h1) (fun _ h9 => h9) hfin hin hdecl hp hn hf hl hd (fun H1 locs1 hP1 hD1 hS1 => h H1 locs1 hP1 hD1 hS1)
theorem z_pn (C : CI p s m args c D cI cJ own cc maxL) {Cn : String} {T : u_T} {N ci idx a : Nat} (i0 k : Nat) {fs : List Value} {v : Value} (he : ws[i0]? = some (a, .inr (ci, fs))) (hc : clx[ci]? = some (Cn, T, N)) (hk : k < N) (h1 : Jvm.Cond.fieldLink own idx (T k).1 (T k).2.1 (T k).2.2.1 ∈ TBx) (hfin : (T k).2.2.2 = false) (ty : FieldType) (hp : parseFieldDescriptor (T k).2.2.1 = some ty) (hn : narrow ty v = v) (hf : fits ty v = true) (hl : k < fs.length) (hd : decode cc pc = .ok (.putfield idx, 3))
    (h : ZW p l e R s m args below meth c Q D A H0 (ws.set i0 (a, .inr (ci, fs.set k v))) cells slots (pc + 3) ls st) : ZW p l e R s m args below meth c Q D A H0 ws cells slots pc ls (v :: .ref a :: st) := by
  obtain ⟨hx, hb, hml, hown, hts, hK, -, hCK⟩ := C
  obtain ⟨o1, o2, o3⟩ := cls_ok hCK hc
  intro H locs hP hD hS
  exact va_put hx hb hts o1 _ o2 o3 hown hK hP hD hS i0 he hc k hk (hts _ h1) (fun _ h9 => h9) hfin hp hn hf hl hd (fun H1 locs1 hP1 hD1 hS1 => h H1 locs1 hP1 hD1 hS1)
theorem z_gf (C : CI p s m args c D cI cJ own cc maxL) {Cn : String} {T : u_T} {N ci idx a : Nat} (i0 k : Nat) {fs : List Value} {v : Value} (he : ws[i0]? = some (a, .inr (ci, fs))) (hc : clx[ci]? = some (Cn, T, N)) (hk : k < N) (h1 : Jvm.Cond.fieldLink own idx (T k).1 (T k).2.1 (T k).2.2.1 ∈ TBx) (hv : fs[k]? = some v) (hd : decode cc pc = .ok (.getfield idx, 3))
    (h : ZW p l e R s m args below meth c Q D A H0 ws cells slots (pc + 3) ls (v :: st)) : ZW p l e R s m args below meth c Q D A H0 ws cells slots pc ls (.ref a :: st) := by
  obtain ⟨hx, hb, hml, hown, hts, hK, -, hCK⟩ := C
  intro H locs hP hD hS
  exact va_get hx hb hts (cls_ok hCK hc).1 hown hK hP i0 he hc k hk (hts _ h1) (fun _ h9 => h9) hv hd (h H locs hP hD hS)
/-- a call of a constructor on the world's last cell -/
theorem z_call (C : CI p s m args c D cI cJ own cc maxL) (hA : ∀ q, H0.size ≤ q → A q) {pre : va_W} {q : Nat} {x : va_E} {w : (Nat → Nat) → va_W} {y : MethodName} {bytes : ByteArray} {mL2 mc ms idx : Nat} {rm : Room} {As : List Value}
    (hM : ∀ sz, Met l y (wkz y bytes mL2) rm (va_Pc (.ref q :: As) (IPre D cI cJ q x sz)) (IQ D cI cJ q x sz w) mc ms (va_A [(q, x)] sz)) (hrc : rm.cells = mc) (hrs : rm.slots = ms)
    (hcode : Jvm.Cond.code y bytes mL2 none ∈ TBx) (hini : Jvm.Cond.initialized y.cls ∈ TBx) (hins : Jvm.Cond.instanceMethod y ∈ TBx) (hlk : Jvm.Cond.methodLink own idx y ∈ TBx ∨ va_Nw (.methodLinkNest own idx y "OnePlan") s) (hy : y.name = "<init>")
    (hd9 : y.cls ≠ "java/lang/invoke/MethodHandle" ∧ y.cls ≠ "java/lang/invoke/VarHandle" ∧ (parseMethodDescriptor y.desc).map (fun d => d.parameters.length) = some As.length) (hR : rm.frames + 1 ≤ R.frames ∧ 8 + (mL2 + 11) + rm.locals ≤ R.locals)
    (hls : ls.size = maxL) (hst : (st.map fun v => v.category).sum ≤ 8) (hd : decode cc pc = .ok (.invokespecial idx, 3)) (hr : cells + mc ≤ R.cells ∧ slots + ms ≤ R.slots)
    (h : ∀ u, ZW p l e R s m args below meth c Q D A H0 (pre ++ w u) (cells + mc) (slots + ms) (pc + 3) ls st) : ZW p l e R s m args below meth c Q D A H0 (pre ++ [(q, x)]) cells slots pc ls (As.reverse ++ .ref q :: st) := by
  obtain ⟨hx, hb, hml, hown, hts, hK, hNI, hCK⟩ := C
  intro H locs hP hD hS
  have hPc := hP.sub (ws' := [(q, x)]) [pre.length] (by simp)
  have hDc := hD.sub (ws' := [(q, x)]) [pre.length] rfl (by simp)
  have hFc := va_free (wc := [(q, x)]) hD hS hA [pre.length] (by simp)
  have hgood : GoodIn TBx (wkz y bytes mL2) := goodIn_TBx (fun w hw => by
    rcases List.mem_cons.mp hw with rfl | h9
    · exact hcode
    · exact h9)
  have hpre : PreS s H (va_Pc (.ref q :: As) (IPre D cI cJ q x H.size)) (.ref q :: As) := ⟨IPre.blind, fun U hU hW => ⟨rfl, by rw [hU], by rw [hU]; exact hPc, va_K.moved hW.alike hK, hDc.weaken (fun _ _ _ _ => trivial), va_Nw.warmM hW hNI⟩⟩
  have hrun : va_Run p l e R s m args below meth c H locs cells slots mc ms (F0 m pc ls (As.reverse ++ .ref q :: st)) st (IQ D cI cJ q x H.size w (Value.ref q :: As).toArray) (va_A [(q, x)] H.size) := by
    rcases hlk with h1 | h1
    · exact va_runI (n := As.length) (cc := cc) (Ts := TBx) (own := own) (nL := maxL) ⟨hx, hb, hml, hown, hts⟩ (hM H.size) (cwI As.length hts hgood rfl hrc hrs (hts _ hini) (hts _ h1) (hts _ hins) hy hd9 hR) hpre rfl rfl hls rfl (lv_room hst) hd hr
    · exact va_runIN (n := As.length) (host := "OnePlan") (cc := cc) (Ts := TBx) (own := own) (nL := maxL) ⟨hx, hb, hml, hown, hts⟩ (hM H.size) ⟨va_cnB As.length hts hgood rfl hrc hrs h1 (hts _ hini) hd9 hR, hy, hts _ hins⟩ hpre rfl rfl hls rfl (lv_room hst) hd hr
  refine va_callv hrun hS (fun q _ h => hFc q h) hFc (fun u t H1 locs1 ht hvm hw hB hz1 hk1 hS1 => ?_)
  obtain ⟨hP1, hK1, hD1⟩ := hB
  rw [ht] at hP1
  obtain ⟨hP2, hD2⟩ := va_join (wr := pre) (w1 := w u) hP hD [pre.length] (List.range pre.length) (by simp) (by
    apply List.ext_getElem?
    intro n
    simp only [List.getElem?_map]
    by_cases hn : n < pre.length
    · simp [List.getElem?_range hn, List.getElem?_append_left hn, hn]
    · simp [List.getElem?_eq_none, Nat.le_of_not_lt hn]) (by rw [List.range_eq_range']; exact nd_range _ _) (by
    intro i hi
    have := List.mem_range.mp hi
    simp
    omega) hk1 hFc hP1 hD1
  exact h u H1 locs1 hP2 hD2 hS1
theorem z_mx (C : CI p s m args c D cI cJ own cc maxL) {idx : Nat} (h1 : Jvm.Cond.methodLink own idx Lib.Math.max.name ∈ TBx) (h2 : Jvm.Cond.static Lib.Math.max.name ∈ TBx) (h3 : Jvm.Cond.initialized "java/lang/Math" ∈ TBx) (h4 : Jvm.Cond.code Lib.Math.max.name Lib.Math.max.code 2 (some .int) ∈ TBx) (hls : ls.size = maxL) (hf : 1 ≤ R.frames) (ho : (st.map fun v => v.category).sum + 13 ≤ R.locals) (hr : cells ≤ R.cells ∧ slots ≤ R.slots) {x y v : Int32} (hv : (if x < y then y else x) = v) (hd : decode cc pc = .ok (.invokestatic idx, 3)) (h : ZW p l e R s m args below meth c Q D A H0 ws cells slots (pc + 3) ls (.int v :: st)) : ZW p l e R s m args below meth c Q D A H0 ws cells slots pc ls (.int y :: .int x :: st) := by
  obtain ⟨hx, hb, hml, hown, hts, -⟩ := C
  intro H locs hP hD hS
  subst hv
  exact va_mmax hx hb (by rw [hml, hls]) hown (hts _ h1) (hts _ h2) (hts _ h3) (hts _ h4) hf ho hr.1 hr.2 hd (h H locs hP hD hS)
theorem z_is (C : CI p s m args c D cI cJ own cc maxL) {k : Fin 4} {i nL : Nat} {x : Int32} {lv lv' : List (Nat × Value)} (hd : decode cc pc = .ok (.istore_n k, 1)) (hi : (k : Nat) = i) (hh : lv_has ls nL lv) (hn : i < nL) (hl : (i, Value.int x) :: lv.filter (fun q => !(q.1 == i) && !(q.1 + 1 == i && q.2.category == 2)) = lv') (h : ∀ ls' : Array Slot, lv_has ls' nL lv' → ZW p l e R s m args below meth c Q D A H0 ws cells slots (pc + 1) ls' st) : ZW p l e R s m args below meth c Q D A H0 ws cells slots pc ls (.int x :: st) :=
  fun H locs hP hD hS => lv_istore_n C.1 C.2.1 hd hi hh hn hl (fun ls' h' => h ls' h' H locs hP hD hS)
theorem z_ii (C : CI p s m args c D cI cJ own cc maxL) {i nL k : Nat} {n : Int} {x v : Int32} {lv lv' : List (Nat × Value)} (hd : decode cc pc = .ok (.iinc i n, 3)) (hh : lv_has ls nL lv) (hk : lv[k]? = some (i, .int x)) (hv : x + Int32.ofInt n = v) (hn : i < nL) (hl : (i, Value.int v) :: lv.filter (fun q => !(q.1 == i) && !(q.1 + 1 == i && q.2.category == 2)) = lv') (h : ∀ ls' : Array Slot, lv_has ls' nL lv' → ZW p l e R s m args below meth c Q D A H0 ws cells slots (pc + 3) ls' st) : ZW p l e R s m args below meth c Q D A H0 ws cells slots pc ls st :=
  fun H locs hP hD hS => lv_iinc C.1 C.2.1 hd hh hk hv hn hl (fun ls' h' => h ls' h' H locs hP hD hS)
theorem z_ge_t (C : CI p s m args c D cI cJ own cc maxL) {x y : Int32} {off : Int} {tgt : Nat} (hd : decode cc pc = .ok (.if_icmp .ge off, 3)) (ht : (pc : Int) + off = (tgt : Int)) (hxy : y ≤ x) (h : ZW p l e R s m args below meth c Q D A H0 ws cells slots tgt ls st) : ZW p l e R s m args below meth c Q D A H0 ws cells slots pc ls (.int y :: .int x :: st) :=
  fun H locs hP hD hS => lv_icmp_ge C.1 C.2.1 hd ht (fun _ => h H locs hP hD hS) (fun h9 => absurd hxy h9)
theorem z_ge_f (C : CI p s m args c D cI cJ own cc maxL) {x y : Int32} {off : Int} {tgt : Nat} (hd : decode cc pc = .ok (.if_icmp .ge off, 3)) (ht : (pc : Int) + off = (tgt : Int)) (hxy : ¬ y ≤ x) (h : ZW p l e R s m args below meth c Q D A H0 ws cells slots (pc + 3) ls st) : ZW p l e R s m args below meth c Q D A H0 ws cells slots pc ls (.int y :: .int x :: st) :=
  fun H locs hP hD hS => lv_icmp_ge C.1 C.2.1 hd ht (fun h9 => absurd h9 hxy) (fun _ => h H locs hP hD hS)
theorem z_go (C : CI p s m args c D cI cJ own cc maxL) {off : Int} {tgt : Nat} (hd : decode cc pc = .ok (.goto off, 3)) (ht : (pc : Int) + off = (tgt : Int)) (h : ZW p l e R s m args below meth c Q D A H0 ws cells slots tgt ls st) : ZW p l e R s m args below meth c Q D A H0 ws cells slots pc ls st :=
  fun H locs hP hD hS => lv_goto C.1 C.2.1 hd ht (h H locs hP hD hS)
theorem z_ias (C : CI p s m args c D cI cJ own cc maxL) {a n : Nat} (i0 : Nat) {f : Nat → Int32} {i x : Int32} (j : Nat) (he : ws[i0]? = some (a, .inl (cI, n, .inl f))) (hin : vp_in i n) (hj : i.toNatClampNeg = j) (hd : decode cc pc = .ok (.iastore, 1)) (h : ZW p l e R s m args below meth c Q D A H0 (ws.set i0 (a, .inl (cI, n, .inl (upd f j x)))) cells slots (pc + 1) ls st) : ZW p l e R s m args below meth c Q D A H0 ws cells slots pc ls (.int x :: .int i :: .ref a :: st) := by
  obtain ⟨hx, hb, hml, hown, hts, hK, -, hCK⟩ := C
  subst hj
  intro H locs hP hD hS
  exact va_iast hx hb hK hP hD hS i0 0 he rfl hin hd (fun H1 locs1 hP1 hD1 hS1 => h H1 locs1 hP1 hD1 hS1)
theorem z_len (C : CI p s m args c D cI cJ own cc maxL) {a n : Nat} (i0 : Nat) {f : Nat → Int32} {v : Int32} (he : ws[i0]? = some (a, .inl (cI, n, .inl f))) (hv : Int32.ofNat n = v) (hd : decode cc pc = .ok (.arraylength, 1)) (h : ZW p l e R s m args below meth c Q D A H0 ws cells slots (pc + 1) ls (.int v :: st)) : ZW p l e R s m args below meth c Q D A H0 ws cells slots pc ls (.ref a :: st) := by
  obtain ⟨hx, hb, hml, hown, hts, hK, -, hCK⟩ := C
  intro H locs hP hD hS
  exact va_alen hx hb hK hP i0 0 he rfl hv hd (h H locs hP hD hS)
end INI

theorem mx0 {n : Nat} (hn : n < 100000) : (if (0 : Int32) < nI n then nI n else 0) = nI n := by
  split
  · rfl
  · rename_i h
    rcases Nat.eq_zero_or_pos n with rfl | h1
    · rfl
    · exact absurd (by rw [← nI_0]; exact nI_lt h1 (by omega)) h
set_option maxRecDepth 100000 in
set_option maxHeartbeats 8000000 in
/-- Row(n) -/
theorem ci_X6 (hCK : CHK) (l : Launch) (D : va_G) (cI cJ : ClassId) (h0 sz : Nat) (n : Nat) (hn : n < 100000) : Met l yX6_init (wkz yX6_init cX6_init 2) ({ frames := 1, cells := 1, slots := n, locals := 21 }) (va_Pc [.ref h0, .int (nI n)] (IPre D cI cJ h0 (.inr (6, [.null])) sz)) (IQ D cI cJ h0 (.inr (6, [.null])) sz (fun u => [(h0, .inr (6, [.ref (u 0)])), (u 0, .inl (cI, n, .inl (fun _ => 0)))])) 1 n (va_A [(h0, .inr (6, [.null]))] sz) := by
  refine Met.ofW (cc := cX6_init) (maxL := 2) (ret := none) (by decide) rfl ?_
  intro p e s m args below meth c s₁ B hml hv
  obtain ⟨rfl, hsz, hP, hK, hD0, hN⟩ := hv
  have hts := atoms_spec (ws := wkz yX6_init cX6_init 2) B.pre
  have hown : s.vm.findClass RX6 = some m.cls := findClass_of_methodNamed B.named
  have hin : meth.name = "<init>" := (name_of_methodNamed B.named B.method).1
  have hr := B.returns
  have hlocks := B.notSynchronized
  have C : CI p s m ([.ref h0, .int (nI n)] : List Value).toArray c D cI cJ RX6 cX6_init 2 := ⟨B.exec, B.bytes, hml, hown, fun w hw => hts w (List.mem_cons_of_mem _ hw), hK, hN, hCK⟩
  subst hsz
  have hD := hD0.self (sz := s.heap.size)
  unfold IQ
  generalize hAe : va_A [(h0, .inr (6, [.null]))] s.heap.size = A at hD ⊢
  have hA : ∀ q : Nat, s.heap.size ≤ q → A q := fun q h => by rw [← hAe]; exact Or.inr h
  have hl := lv_entry ([.ref h0, .int (nI n)]) (n := 2) (Nat.le_of_ble_eq_true rfl)
  rw [lg_entry_eq]
  generalize (lg_sl ([.ref h0, .int (nI n)]) ++ List.replicate (2 - (lg_sl ([.ref h0, .int (nI n)])).length) Slot.unset).toArray = ls at hl ⊢
  have hl : lv_has ls 2 [(0, .ref h0), (1, .int (nI n))] := hl
  suffices hz : ZW p l e ({ frames := 1, cells := 1, slots := n, locals := 21 }) s m ([.ref h0, .int (nI n)] : List Value).toArray below meth c _ D A s.heap [(h0, .inr (6, [.null]))] 0 0 0 ls [] from hz s.heap [] hP hD va_S.rf
  refine z_al C (k := 0) (by decide +kernel) rfl (lv_at hl 0 rfl) ?_
  refine z_oi C (idx := 1) (wAt_in (p := 125) (by decide +kernel)) (wAt_in (p := 112) (by decide +kernel)) (wAt_in (p := 113) (by decide +kernel)) hl.1 (by decide +kernel) (Nat.le_of_ble_eq_true rfl) (Nat.le_of_ble_eq_true rfl) ?_
  refine z_al C (k := 0) (by decide +kernel) rfl (lv_at hl 0 rfl) ?_
  refine z_ic C (n := 0) (v := 0) (by decide +kernel) (by decide) ?_
  refine z_il C (k := 1) (by decide +kernel) rfl (lv_at hl 1 rfl) ?_
  refine z_mx C (idx := 7) (wAt_in (p := 126) (by decide +kernel)) (wAt_in (p := 127) (by decide +kernel)) (wAt_in (p := 94) (by decide +kernel)) (wAt_in (p := 128) (by decide +kernel)) hl.1 (Nat.le_of_ble_eq_true rfl) (Nat.le_of_ble_eq_true rfl) ⟨Nat.zero_le _, Nat.zero_le _⟩ (mx0 hn) (by decide +kernel) ?_
  refine z_newi C hA (wAt_in (p := 133) (by decide +kernel)) n (nI_pos (by omega)) (nI_clamp (by omega)) (by omega) (by decide +kernel) ⟨Nat.le_refl _, by simp⟩ (fun q1 => ?_)
  refine z_pf C hin (idx := 13) 0 0 rfl rfl (by decide) (wAt_in (p := 129) (by decide +kernel)) rfl rfl (tyX6 0) (tyX6_ok 0 (by decide)) rfl rfl (Nat.le_of_ble_eq_true rfl) (by decide +kernel) ?_
  change ZW _ _ _ _ _ _ _ _ _ _ _ _ _ _ [(h0, .inr (6, [.ref q1])), (q1, .inl (cI, n, .inl (fun _ => 0)))] _ _ _ _ _
  intro H locs hP hD hS
  refine W.widen (k := 1) (n := n) (Nat.le_refl _) (by simp) ?_
  exact W.vret C.1 C.2.1 hr (fun t ht hW => ⟨⟨fun k => ([q1] : List Nat).getD k 0, rfl, trivial, by rw [ht]; exact hP, va_K.moved hW.alike hK, hD⟩, hS.F ht⟩) hS.2.2 (by decide +kernel)
def fill4 (f : Nat → Int32) : Nat → Int32 := upd (upd (upd (upd f 0 (-1)) 1 (-1)) 2 (-1)) 3 (-1)
set_option maxRecDepth 100000 in
set_option maxHeartbeats 8000000 in
/-- fill(-1) on a row of four -/
theorem ci_fill4 (hCK : CHK) (l : Launch) (D : va_G) (cI cJ : ClassId) (r a sz : Nat) (f : Nat → Int32) : Met l yX6_fill (wkz yX6_fill cX6_fill 3) ({ frames := 0, cells := 0, slots := 0, locals := 0 }) (va_Pc [.ref r, .int (-1)] (fun U => U.heap.size = sz ∧ va_P D clx [(r, .inr (6, [.ref a])), (a, .inl (cI, 4, .inl f))] U.heap ∧ va_K D clx [(cI, .int), (cJ, .long)] U ∧ va_D (fun _ => True) [(r, .inr (6, [.ref a])), (a, .inl (cI, 4, .inl f))] ∧ NIx U)) (va_Qv (fun _ : Unit => True) (fun _ t => va_P D clx [(r, .inr (6, [.ref a])), (a, .inl (cI, 4, .inl (fill4 f)))] t.heap ∧ va_D (va_A [(r, .inr (6, [.ref a])), (a, .inl (cI, 4, .inl f))] sz) [(r, .inr (6, [.ref a])), (a, .inl (cI, 4, .inl (fill4 f)))]) (va_A [(r, .inr (6, [.ref a])), (a, .inl (cI, 4, .inl f))] sz)) 0 0 (va_A [(r, .inr (6, [.ref a])), (a, .inl (cI, 4, .inl f))] sz) := by
  refine Met.ofW (cc := cX6_fill) (maxL := 3) (ret := none) (by decide) rfl ?_
  intro p e s m args below meth c s₁ B hml hv
  obtain ⟨rfl, hsz, hP, hK, hD0, hN⟩ := hv
  have hts := atoms_spec (ws := wkz yX6_fill cX6_fill 3) B.pre
  have hown : s.vm.findClass RX6 = some m.cls := findClass_of_methodNamed B.named
  have hr := B.returns
  have hlocks := B.notSynchronized
  have C : CI p s m ([.ref r, .int (-1)] : List Value).toArray c D cI cJ RX6 cX6_fill 3 := ⟨B.exec, B.bytes, hml, hown, fun w hw => hts w (List.mem_cons_of_mem _ hw), hK, hN, hCK⟩
  subst hsz
  have hD := hD0.self (sz := s.heap.size)
  generalize hAe : va_A [(r, .inr (6, [.ref a])), (a, .inl (cI, 4, .inl f))] s.heap.size = A at hD ⊢
  have hl := lv_entry ([.ref r, .int (-1)]) (n := 3) (Nat.le_of_ble_eq_true rfl)
  rw [lg_entry_eq]
  generalize (lg_sl ([.ref r, .int (-1)]) ++ List.replicate (3 - (lg_sl ([.ref r, .int (-1)])).length) Slot.unset).toArray = ls at hl ⊢
  have hl : lv_has ls 3 [(0, .ref r), (1, .int (-1))] := hl
  suffices hz : ZW p l e ({ frames := 0, cells := 0, slots := 0, locals := 0 }) s m ([.ref r, .int (-1)] : List Value).toArray below meth c _ D A s.heap [(r, .inr (6, [.ref a])), (a, .inl (cI, 4, .inl f))] 0 0 0 ls [] from hz s.heap [] hP hD va_S.rf
  refine z_ic C (n := 0) (v := 0) (by decide +kernel) (by decide) ?_
  refine z_is C (k := 2) (lv' := [(2, .int 0), (0, .ref r), (1, .int (-1))]) (by decide +kernel) rfl hl (by decide) rfl (fun ls hl => ?_)
  refine z_il C (k := 2) (by decide +kernel) rfl (lv_at hl 0 rfl) ?_
  refine z_al C (k := 0) (by decide +kernel) rfl (lv_at hl 1 rfl) ?_
  refine z_gf C (idx := 13) 0 0 rfl rfl (by decide) (wAt_in (p := 129) (by decide +kernel)) rfl (by decide +kernel) ?_
  refine z_len C 1 (v := 4) rfl (by decide) (by decide +kernel) ?_
  refine z_ge_f C (off := 16) (tgt := 24) (by decide +kernel) (by decide) (by decide) ?_
  refine z_al C (k := 0) (by decide +kernel) rfl (lv_at hl 1 rfl) ?_
  refine z_gf C (idx := 13) 0 0 rfl rfl (by decide) (wAt_in (p := 129) (by decide +kernel)) rfl (by decide +kernel) ?_
  refine z_il C (k := 2) (by decide +kernel) rfl (lv_at hl 0 rfl) ?_
  refine z_il C (k := 1) (by decide +kernel) rfl (lv_at hl 2 rfl) ?_
  refine z_ias C 1 0 rfl (by unfold vp_in; decide) (by decide) (by decide +kernel) ?_
  change ZW _ _ _ _ _ _ _ _ _ _ _ _ _ _ [(r, .inr (6, [.ref a])), (a, .inl (cI, 4, .inl (upd f 0 (-1))))] _ _ _ _ _
  refine z_ii C (i := 2) (n := 1) (k := 0) (v := 1) (lv' := [(2, .int 1), (0, .ref r), (1, .int (-1))]) (by decide +kernel) hl rfl (by decide) (by decide) rfl (fun ls hl => ?_)
  refine z_go C (off := (-19)) (tgt := 2) (by decide +kernel) (by decide) ?_
  refine z_il C (k := 2) (by decide +kernel) rfl (lv_at hl 0 rfl) ?_
  refine z_al C (k := 0) (by decide +kernel) rfl (lv_at hl 1 rfl) ?_
  refine z_gf C (idx := 13) 0 0 rfl rfl (by decide) (wAt_in (p := 129) (by decide +kernel)) rfl (by decide +kernel) ?_
  refine z_len C 1 (v := 4) rfl (by decide) (by decide +kernel) ?_
  refine z_ge_f C (off := 16) (tgt := 24) (by decide +kernel) (by decide) (by decide) ?_
  refine z_al C (k := 0) (by decide +kernel) rfl (lv_at hl 1 rfl) ?_
  refine z_gf C (idx := 13) 0 0 rfl rfl (by decide) (wAt_in (p := 129) (by decide +kernel)) rfl (by decide +kernel) ?_
  refine z_il C (k := 2) (by decide +kernel) rfl (lv_at hl 0 rfl) ?_
  refine z_il C (k := 1) (by decide +kernel) rfl (lv_at hl 2 rfl) ?_
  refine z_ias C 1 1 rfl (by unfold vp_in; decide) (by decide) (by decide +kernel) ?_
  change ZW _ _ _ _ _ _ _ _ _ _ _ _ _ _ [(r, .inr (6, [.ref a])), (a, .inl (cI, 4, .inl (upd (upd f 0 (-1)) 1 (-1))))] _ _ _ _ _
  refine z_ii C (i := 2) (n := 1) (k := 0) (v := 2) (lv' := [(2, .int 2), (0, .ref r), (1, .int (-1))]) (by decide +kernel) hl rfl (by decide) (by decide) rfl (fun ls hl => ?_)
  refine z_go C (off := (-19)) (tgt := 2) (by decide +kernel) (by decide) ?_
  refine z_il C (k := 2) (by decide +kernel) rfl (lv_at hl 0 rfl) ?_
  refine z_al C (k := 0) (by decide +kernel) rfl (lv_at hl 1 rfl) ?_
  refine z_gf C (idx := 13) 0 0 rfl rfl (by decide) (wAt_in (p := 129) (by decide +kernel)) rfl (by decide +kernel) ?_
  refine z_len C 1 (v := 4) rfl (by decide) (by decide +kernel) ?_
  refine z_ge_f C (off := 16) (tgt := 24) (by decide +kernel) (by decide) (by decide) ?_
  refine z_al C (k := 0) (by decide +kernel) rfl (lv_at hl 1 rfl) ?_
  refine z_gf C (idx := 13) 0 0 rfl rfl (by decide) (wAt_in (p := 129) (by decide +kernel)) rfl (by decide +kernel) ?_
  refine z_il C (k := 2) (by decide +kernel) rfl (lv_at hl 0 rfl) ?_
  refine z_il C (k := 1) (by decide +kernel) rfl (lv_at hl 2 rfl) ?_
  refine z_ias C 1 2 rfl (by unfold vp_in; decide) (by decide) (by decide +kernel) ?_
  change ZW _ _ _ _ _ _ _ _ _ _ _ _ _ _ [(r, .inr (6, [.ref a])), (a, .inl (cI, 4, .inl (upd (upd (upd f 0 (-1)) 1 (-1)) 2 (-1))))] _ _ _ _ _
  refine z_ii C (i := 2) (n := 1) (k := 0) (v := 3) (lv' := [(2, .int 3), (0, .ref r), (1, .int (-1))]) (by decide +kernel) hl rfl (by decide) (by decide) rfl (fun ls hl => ?_)
  refine z_go C (off := (-19)) (tgt := 2) (by decide +kernel) (by decide) ?_
  refine z_il C (k := 2) (by decide +kernel) rfl (lv_at hl 0 rfl) ?_
  refine z_al C (k := 0) (by decide +kernel) rfl (lv_at hl 1 rfl) ?_
  refine z_gf C (idx := 13) 0 0 rfl rfl (by decide) (wAt_in (p := 129) (by decide +kernel)) rfl (by decide +kernel) ?_
  refine z_len C 1 (v := 4) rfl (by decide) (by decide +kernel) ?_
  refine z_ge_f C (off := 16) (tgt := 24) (by decide +kernel) (by decide) (by decide) ?_
  refine z_al C (k := 0) (by decide +kernel) rfl (lv_at hl 1 rfl) ?_
  refine z_gf C (idx := 13) 0 0 rfl rfl (by decide) (wAt_in (p := 129) (by decide +kernel)) rfl (by decide +kernel) ?_
  refine z_il C (k := 2) (by decide +kernel) rfl (lv_at hl 0 rfl) ?_
  refine z_il C (k := 1) (by decide +kernel) rfl (lv_at hl 2 rfl) ?_
  refine z_ias C 1 3 rfl (by unfold vp_in; decide) (by decide) (by decide +kernel) ?_
  change ZW _ _ _ _ _ _ _ _ _ _ _ _ _ _ [(r, .inr (6, [.ref a])), (a, .inl (cI, 4, .inl (upd (upd (upd (upd f 0 (-1)) 1 (-1)) 2 (-1)) 3 (-1))))] _ _ _ _ _
  refine z_ii C (i := 2) (n := 1) (k := 0) (v := 4) (lv' := [(2, .int 4), (0, .ref r), (1, .int (-1))]) (by decide +kernel) hl rfl (by decide) (by decide) rfl (fun ls hl => ?_)
  refine z_go C (off := (-19)) (tgt := 2) (by decide +kernel) (by decide) ?_
  refine z_il C (k := 2) (by decide +kernel) rfl (lv_at hl 0 rfl) ?_
  refine z_al C (k := 0) (by decide +kernel) rfl (lv_at hl 1 rfl) ?_
  refine z_gf C (idx := 13) 0 0 rfl rfl (by decide) (wAt_in (p := 129) (by decide +kernel)) rfl (by decide +kernel) ?_
  refine z_len C 1 (v := 4) rfl (by decide) (by decide +kernel) ?_
  refine z_ge_t C (off := 16) (tgt := 24) (by decide +kernel) (by decide) (by decide) ?_
  intro H locs hP hD hS
  exact W.vret C.1 C.2.1 hr (fun t ht hW => ⟨⟨(), rfl, trivial, by rw [ht]; exact hP, hD⟩, hS.F ht⟩) hS.2.2 (by decide +kernel)
section INI2
variable {p : Program} {l : Launch} {e : Env} {R : Room} {s : State} {m : MethodId} {args : Array Value} {below : List Frame} {meth : Method} {c : Code} {Q : State → Prop} {D : va_G} {cI cJ : ClassId} {A : Nat → Prop} {H0 : Heap} {own : String} {cc : ByteArray} {maxL : Nat} {cells slots pc : Nat} {ls : Array Slot}
theorem z_fillS (C : CI p s m args c D cI cJ own cc maxL) (hA : ∀ q, H0.size ≤ q → A q) {c0 c1 c2 c5 c6 : Nat × va_E} {r a idx : Nat} {f : Nat → Int32} (h1 : Jvm.Cond.methodLink own idx yX6_fill ∈ TBx) (h2 : Jvm.Cond.instanceMethod yX6_fill ∈ TBx) (h3 : Jvm.Cond.selects RX6 yX6_fill yX6_fill ∈ TBx) (h4 : Jvm.Cond.initialized RX6 ∈ TBx) (h5 : Jvm.Cond.code yX6_fill cX6_fill 3 none ∈ TBx) (hls : ls.size = maxL) (hR : 0 + 1 ≤ R.frames ∧ 8 + (3 + 11) + 0 ≤ R.locals) (hd : decode cc pc = .ok (.invokevirtual idx, 3)) (hr : cells + 0 ≤ R.cells ∧ slots + 0 ≤ R.slots)
    (h : ZW p l e R s m args below meth c Q D A H0 [c0, c1, c2, (r, .inr (6, [.ref a])), (a, .inl (cI, 4, .inl (fill4 f))), c5, c6] cells slots (pc + 3) ls []) : ZW p l e R s m args below meth c Q D A H0 [c0, c1, c2, (r, .inr (6, [.ref a])), (a, .inl (cI, 4, .inl f)), c5, c6] cells slots pc ls [.int (-1), .ref r] := by
  obtain ⟨hx, hb, hml, hown, hts, hK, hNI, hCK⟩ := C
  intro H locs hP hD hS
  have hPc := hP.sub (ws' := [(r, .inr (6, [.ref a])), (a, .inl (cI, 4, .inl f))]) [3, 4] rfl
  have hDc := hD.sub (ws' := [(r, .inr (6, [.ref a])), (a, .inl (cI, 4, .inl f))]) [3, 4] rfl rfl
  have hFc := va_free (wc := [(r, .inr (6, [.ref a])), (a, .inl (cI, 4, .inl f))]) hD hS hA [3, 4] rfl
  have hgood : GoodIn TBx (wsV own idx RX6 yX6_fill (wkz yX6_fill cX6_fill 3)) := goodIn_TBx (fun w hw => by
    unfold wsV at hw
    rcases List.mem_append.mp hw with h9 | h9
    · simp only [List.mem_cons, List.mem_nil_iff, or_false] at h9
      rcases h9 with rfl | rfl | rfl | rfl
      · exact h1
      · exact h2
      · exact h3
      · exact h4
    · rcases List.mem_cons.mp h9 with rfl | h8
      · exact h5
      · exact h8)
  refine va_callv (va_runV (n := 1) (As := [.int (-1)]) (rest := []) (b := r) (C := RX6) (cc := cc) (Ts := TBx) (own := own) (nL := maxL) ⟨hx, hb, hml, hown, hts⟩ (ci_fill4 hCK l D cI cJ r a H.size f) (cwV 1 hts hgood rfl rfl rfl (by decide +kernel) hR) ⟨fun a U g mk q => by obtain ⟨q0, q1, qP, qK, qD, qN⟩ := q; exact ⟨q0, q1, qP, va_K.moved (u := U) (U := U.calling g mk a) (Vm.Alike.refl U.vm) qK, qD, va_Nw.same rfl rfl qN⟩, va_recv hK hP (ci := 6) (q0 := 3) rfl rfl, fun U hU hW => ⟨rfl, by rw [hU], by rw [hU]; exact hPc, va_K.moved hW.alike hK, hDc.weaken (fun _ _ _ _ => trivial), va_Nw.warmM hW hNI⟩⟩ rfl rfl hls rfl (lv_room (Nat.le_of_ble_eq_true rfl)) hd hr) hS (fun q _ h => hFc q h) hFc (fun u t H1 locs1 ht hvm hw hB hz1 hk1 hS1 => ?_)
  obtain ⟨hP1, hD1⟩ := hB
  rw [ht] at hP1
  obtain ⟨hP2, hD2⟩ := va_join (wr := [c0, c1, c2, c5, c6]) (w1 := [(r, .inr (6, [.ref a])), (a, .inl (cI, 4, .inl (fill4 f)))]) hP hD [3, 4] [0, 1, 2, 5, 6] rfl rfl (by decide) (by decide) hk1 hFc hP1 hD1
  exact h H1 locs1 (hP2.sub [0, 1, 2, 5, 6, 3, 4] rfl) (hD2.sub [0, 1, 2, 5, 6, 3, 4] (by decide) rfl) hS1
end INI2
