/-! Calls, returns, whole methods. Own text. -/
def wk (j : Nat) : List Jvm.Cond := .code (mY j) (mC j) (mL j) (mR j) :: TBx
def rmk (j : Nat) : Room := { frames := mFr j, cells := 0, slots := 0, locals := mLo j }
def WB (ad : Nat → Nat) (D : va_G) (cI cJ : ClassId) (g : Gx) (U : State) : Prop := va_P D clx (wsX ad cI cJ g) U.heap ∧ va_K D clx [(cI, .int), (cJ, .long)] U ∧ NWs U
def Qx (ad : Nat → Nat) (D : va_G) (cI cJ : ClassId) (r : Option Vx) (g : Gx) : Array Value → State → Outcome → State → Prop := fun _ st oc t => oc = .returned (r.map (tr ad)) ∧ va_P D clx (wsX ad cI cJ g) t.heap ∧ (okG g ∧ okS r.toList) ∧ va_F (AW ad) st t
def retD (k pc : Nat) : Option Vx → Prop
  | none => decode (mC k) pc = .ok (.return_, 1) ∧ mR k = none
  | some (.inl x) => decode (mC k) pc = .ok (.ireturn, 1) ∧ (mR k = some .int ∨ (mR k = some .boolean ∧ (x = 0 ∨ x = 1)))
  | some (.inr (.inl _)) => decode (mC k) pc = .ok (.lreturn, 1) ∧ mR k = some .long
  | some (.inr (.inr _)) => False
def isNest : Jvm.Cond → Bool
  | .methodLinkNest _ _ _ _ => true
  | _ => false
theorem NWx_nest : NWx.all isNest = true := by decide +kernel
theorem NWs.warm {s U : State} (h : NWs s) (hW : s.WarmedH U.vm) : NWs U := fun w hw => by
  have h1 := List.all_eq_true.mp NWx_nest w hw
  have h2 := h w hw
  unfold isNest at h1
  split at h1
  · exact h2.warmM hW
  · cases h1
theorem NWs.same {s U : State} (h : NWs s) (hv : s.vm = U.vm) : NWs U := fun w hw => by
  have h1 := List.all_eq_true.mp NWx_nest w hw
  have h2 := h w hw
  unfold isNest at h1
  split at h1
  · exact va_Nw.same rfl hv h2
  · cases h1
theorem good_TBx {w : Jvm.Cond} (h : w ∈ TBx) : w ∈ TBx ∧ ((w.onTables && w.keeps) = true ∨ ∃ ty, w = .arrayClass ty) := ⟨h, good_of_word (List.mem_filter.mp h).2⟩
theorem goodIn_TBx {ws : List Jvm.Cond} (h : ∀ w ∈ ws, w ∈ TBx) : GoodIn TBx ws := fun w hw => good_TBx (h w hw)
/-- a method's own words, out of the check -/
theorem meth_ok (hK : CHK) {j : Nat} (hj : j < kL) : (∀ w ∈ wk j, w ∈ TBx) ∧ (if mS j = true then Jvm.Cond.static (mY j) ∈ TBx else Jvm.Cond.instanceMethod (mY j) ∈ TBx ∧ Jvm.Cond.selects (mO j) (mY j) (mY j) ∈ TBx ∧ (clx[mK j]?).map (fun q => q.1) = some (mO j)) ∧ Jvm.Cond.initialized (mO j) ∈ TBx ∧ (mY j).cls = mO j ∧ (mY j).cls ≠ "java/lang/invoke/MethodHandle" ∧ (mY j).cls ≠ "java/lang/invoke/VarHandle" ∧ plainName (mY j).cls = true := by
  have h := hK.2.1 j hj
  unfold chkM at h
  split at h
  · simp only [Bool.and_eq_true, decide_eq_true_eq] at h
    obtain ⟨⟨⟨⟨⟨⟨h0, h1⟩, h2⟩, h3⟩, h4⟩, h5⟩, h6⟩ := h
    refine ⟨fun w hw => ?_, ?_, wAt_in h2, h3, h4, h5, h6⟩
    · rcases List.mem_cons.mp hw with rfl | h9
      · exact wAt_in h0
      · exact h9
    · split
      · rename_i hs
        rw [if_pos hs] at h1
        exact wAt_in h1
      · rename_i hs
        rw [if_neg hs] at h1
        simp only [Bool.and_eq_true, decide_eq_true_eq] at h1
        exact ⟨wAt_in h1.1.1, wAt_in h1.1.2, h1.2⟩
  · cases h
def slX (ad : Nat → Nat) : Option Vx → Slot
  | some v => .val (tr ad v)
  | none => .second
theorem entL_sl (ad : Nat → Nat) : ∀ as : List Vx, lg_sl (as.map (tr ad)) = (entL as).map (slX ad)
  | [] => rfl
  | v :: r => by
    have ih := entL_sl ad r
    unfold lg_sl at ih ⊢
    rw [List.map_cons, List.flatMap_cons, ih, tr_cat]
    rw [show entL (v :: r) = if cat v = 2 then some v :: none :: entL r else some v :: entL r from rfl]
    by_cases h : cat v = 2
    · simp [h, slX]
    · simp [h, slX]
theorem entL_rel (ad : Nat → Nat) (as : List Vx) {n : Nat} (h : (entL as).length ≤ n) : lrel ad ((lg_sl (as.map (tr ad)) ++ List.replicate (n - (lg_sl (as.map (tr ad))).length) Slot.unset).toArray) (padL (entL as) n) ∧ (padL (entL as) n).length = n := by
  have hl : (lg_sl (as.map (tr ad))).length = (entL as).length := by rw [entL_sl]; simp
  have h1 := lv_entry (as.map (tr ad)) (n := n) (by rw [hl]; exact h)
  have h2 : (padL (entL as) n).length = n := by simp [padL]; omega
  refine ⟨⟨by rw [h1.1, h2], h1.2.1, fun i v hv => ?_⟩, h2⟩
  unfold padL at hv
  rw [List.getElem?_append] at hv
  split at hv
  · rename_i hi
    rw [List.getElem?_toArray, List.getElem?_append_left (by rw [hl]; exact hi), entL_sl, List.getElem?_map, hv]
    rfl
  · rw [List.getElem?_replicate] at hv
    split at hv <;> cases hv
theorem entL_ok {as : List Vx} (h : okS as) : ∀ {v : Vx}, some v ∈ entL as → okV v := by
  induction as with
  | nil => intro v hv; cases hv
  | cons a r ih =>
    intro v hv
    unfold entL at hv
    split at hv
    · rcases List.mem_cons.mp hv with h1 | h1
      · cases h1; exact h.hd
      · rcases List.mem_cons.mp h1 with h2 | h2
        · cases h2
        · exact ih h.tl h2
    · rcases List.mem_cons.mp hv with h1 | h1
      · cases h1; exact h.hd
      · exact ih h.tl h1
theorem padL_ok {as : List Vx} (h : okS as) (n : Nat) : okL (padL (entL as) n) := fun i v hv => by
  have h1 := List.mem_of_getElem? hv
  unfold padL at h1
  rcases List.mem_append.mp h1 with h2 | h2
  · exact entL_ok h h2
  · rw [List.mem_replicate] at h2
    cases h2.2
section SND6
variable {p : Program} {l : Launch} {e : Env} {R : Room} {s : State} {m : MethodId} {args : Array Value} {below : List Frame} {meth : Method} {c : Code} {cells slots : Nat} {Q : State → Prop} {ad : Nat → Nat} {D : va_G} {cI cJ : ClassId} {H0 : Heap} {b0 N0 : Nat} {xs0 : Nat → Int32}
theorem call_x {H : Heap} {locs : List Loc} {pc : Nat} {ls : Array Slot} {st0 rest : List Value} {r : Option Vx} {g1 : Gx} {a : Array Value} (hr : va_Run p l e R s m args below meth c H locs cells slots 0 0 (F0 m pc ls st0) rest (Qx ad D cI cJ r g1 a) (AW ad)) (hS : va_S (AW ad) H0 H locs)
    (kk : ∀ (H1 : Heap) (locs1 : List Loc), okG g1 → okS r.toList → va_P D clx (wsX ad cI cJ g1) H1 → va_S (AW ad) H0 H1 locs1 → W p l e R s m args below meth c H1 locs1 cells slots Q (F0 m (pc + 3) ls ((r.map (tr ad)).toList ++ rest))) : W p l e R s m args below meth c H locs cells slots Q (F0 m pc ls st0) := by
  intro T hT X
  obtain ⟨v, st₀, t, T', L, h0, X', hL, e1, e2, ⟨hv, hp, hok, hz, hk⟩, st⟩ := hr T hT X
  cases hv
  rw [h0] at hz hk
  obtain ⟨t2, a1, b1⟩ := kk T'.heap (locs ++ L) hok.1 hok.2 (by rw [e1]; exact hp)
    ⟨Nat.le_trans hS.1 (by rw [e1]; exact hz), fun q h1 h2 => by rw [e1, hk q (Nat.lt_of_lt_of_le h1 hS.1) h2]; exact hS.2.1 q h1 h2, fun q hq => by
      rcases List.mem_append.mp hq with h | h
      · exact hS.2.2 q h
      · exact hL q h⟩ T' rfl X'
  exact ⟨t2, st t2 a1, b1⟩
/-- the small machine's run of a method, seen from where it stands -/
def SndAt (l : Launch) (ad : Nat → Nat) (D : va_G) (cI cJ : ClassId) (b0 N0 : Nat) (xs0 : Nat → Int32) (k pc : Nat) (L : Lx) (S : List Vx) (g : Gx) (r : Option Vx) (g' : Gx) : Prop :=
  ∀ (p : Program) (e : Env) (R : Room) (s : State) (m : MethodId) (args : Array Value) (below : List Frame) (meth : Method) (c : Code) (cells slots : Nat) (Q : State → Prop) (H0 : Heap), Cx p R s m args c cells slots ad D cI cJ H0 b0 N0 xs0 k →
    (∀ (H1 : Heap) (locs1 : List Loc) (ls1 : Array Slot) (pc1 : Nat), Hx ad D cI cJ H0 g' H1 locs1 → okS r.toList → retD k pc1 r → W p l e R s m args below meth c H1 locs1 cells slots Q (F0 m pc1 ls1 ((r.map (tr ad)).toList))) →
    Jx p l e R s m args below meth c cells slots Q ad D cI cJ H0 N0 xs0 k pc L S g
theorem met_of (hK : CHK) {j : Nat} (hj : j < kL) {as : List Vx} {g g1 : Gx} {r : Option Vx} (hS : SndAt l ad D cI cJ b0 N0 xs0 j 0 (padL (entL as) (mL j)) [] g r g1) (hlen : (entL as).length ≤ mL j) (has : okS as) (hg : okG g) (hD : va_D (AW ad) (wsX ad cI cJ g)) :
    Met l (mY j) (wk j) (rmk j) (va_Pc (as.map (tr ad)) (WB ad D cI cJ g)) (Qx ad D cI cJ r g1) 0 0 (AW ad) := by
  obtain ⟨m1, m2, m3, m4, m5, m6, m7⟩ := meth_ok hK hj
  refine Met.ofW (cc := mC j) (maxL := mL j) (ret := mR j) m7 rfl ?_
  intro p e s m args below meth c s₁ B hml hv
  obtain ⟨rfl, hP, hKK, hN⟩ := hv
  have hx := B.exec
  have hb := B.bytes
  have hr := B.returns
  have hts := atoms_spec (ws := wk j) B.pre
  have hown : s.vm.findClass (mO j) = some m.cls := by rw [← m4]; exact findClass_of_methodNamed B.named
  have hlocks := B.notSynchronized
  rw [lg_entry_eq]
  obtain ⟨hlr, hln⟩ := entL_rel ad as hlen
  refine hS p e _ s m _ below meth c 0 0 _ s.heap ⟨hx, hb, hml, hown, fun w hw => hts w (List.mem_cons_of_mem _ hw), ⟨Nat.le_refl _, Nat.le_refl _⟩, hN, hKK, ⟨Nat.le_refl _, Nat.le_refl _⟩, fun h9 => absurd h9 (Nat.ne_of_lt hj)⟩ ?_ s.heap [] _ ⟨hP, hD, va_S.rf, hg⟩ (fun h9 => absurd h9 (Nat.ne_of_lt hj)) hlr hln (padL_ok has _) (fun v hv => by cases hv)
  intro H1 locs1 ls1 pc1 hH hok hd
  rcases r with _ | x | x | x
  · obtain ⟨d1, d2⟩ := hd
    exact W.vret hx hb (by rw [hr, d2]) (fun t ht hW => ⟨rfl, by rw [ht]; exact hH.1, ⟨hH.2.2.2, hok⟩, hH.2.2.1.F ht⟩) hH.2.2.1.2.2 d1
  · obtain ⟨d1, d2⟩ := hd
    rcases d2 with d2 | ⟨d2, d3⟩
    · exact W.iret hx hb (by rw [hr, d2]) (fun t ht hW => ⟨rfl, by rw [ht]; exact hH.1, ⟨hH.2.2.2, hok⟩, hH.2.2.1.F ht⟩) hH.2.2.1.2.2 d1
    · refine W.zret (ty := .boolean) hx hb (by rw [hr, d2]) ?_ (fun t ht hW => ⟨rfl, by rw [ht]; exact hH.1, ⟨hH.2.2.2, hok⟩, hH.2.2.1.F ht⟩) hH.2.2.1.2.2 d1
      rcases d3 with rfl | rfl <;> rfl
  · obtain ⟨d1, d2⟩ := hd
    exact W.lret hx hb (by rw [hr, d2]) (fun t ht hW => ⟨rfl, by rw [ht]; exact hH.1, ⟨hH.2.2.2, hok⟩, hH.2.2.1.F ht⟩) hH.2.2.1.2.2 d1
  · exact hd.elim
theorem WB.blind {av : List Value} {g : Gx} : FrameBlind (va_Pc av (WB ad D cI cJ g)) := fun a U gg mk q => by
  obtain ⟨q0, qP, qK, qN⟩ := q
  exact ⟨q0, qP, va_K.moved (u := U) (U := U.calling gg mk a) (Vm.Alike.refl U.vm) qK, qN.same rfl⟩
end SND6
