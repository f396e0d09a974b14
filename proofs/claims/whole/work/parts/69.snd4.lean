/-! Every step. Own text. -/
section SND4
variable {p : Program} {l : Launch} {e : Env} {R : Room} {s : State} {m : MethodId} {args : Array Value} {below : List Frame} {meth : Method} {c : Code} {cells slots : Nat} {Q : State → Prop} {ad : Nat → Nat} {D : va_G} {cI cJ : ClassId} {H0 : Heap} {b0 N0 : Nat} {xs0 : Nat → Int32}
theorem cls_ok (hC : CHK) {b : Nat} {C : String} {T : u_T} {N : Nat} (h : clx[b]? = some (C, T, N)) : (∀ w ∈ u_ws C T N, w ∈ TBx) ∧ (∀ k, k < N → parseFieldDescriptor (T k).2.2.1 = some ((parseFieldDescriptor (T k).2.2.1).getD .int)) ∧ ∀ i, i < N → ∀ j, j < N → i ≠ j → (T i).2.1 ≠ (T j).2.1 := by
  have hc := hC.2.2 b
  unfold chkC at hc
  rw [h] at hc
  simp only [Bool.and_eq_true, List.all_eq_true, List.mem_range] at hc
  refine ⟨fun w hw => ?_, fun k hk => ?_, fun i hi j hj hij => ?_⟩
  · unfold u_ws at hw
    obtain ⟨i, hi, rfl⟩ := List.mem_map.mp hw
    exact wAt_in (hc.1.1 i (List.mem_range.mp hi))
  · have := hc.1.2 k hk
    obtain ⟨v, hv⟩ := Option.isSome_iff_exists.mp this
    rw [hv]
    rfl
  · have := hc.2 i hi j hj
    simp only [Bool.or_eq_true, decide_eq_true_eq] at this
    rcases this with h1 | h1
    · exact absurd (beq_e h1) hij
    · exact h1
theorem cellX_obj {ad : Nat → Nat} {cI cJ : ClassId} {g : Gx} {q ci n : Nat} {fks : List (Option Nat)} (h : tpo q = some (ci, n, fks)) (h1 : ci ≠ 13) (h2 : ci ≠ 14) : cellX ad cI cJ g q = .inr (ci, fldX ad g q fks) := by
  unfold cellX
  rw [h]
  split
  · rename_i h9; cases h9; exact absurd rfl h1
  · rename_i h9; cases h9; exact absurd rfl h2
  · rename_i h9; cases h9; rfl
  · rename_i h9; cases h9
theorem cellX_int {ad : Nat → Nat} {cI cJ : ClassId} {g : Gx} {q n : Nat} {fks : List (Option Nat)} (h : tpo q = some (13, n, fks)) : cellX ad cI cJ g q = .inl (cI, n, .inl (fun j => Int32.ofInt (g q j))) := by
  unfold cellX
  rw [h]
  rfl
theorem cellX_long {ad : Nat → Nat} {cI cJ : ClassId} {g : Gx} {q n : Nat} {fks : List (Option Nat)} (h : tpo q = some (14, n, fks)) : cellX ad cI cJ g q = .inl (cJ, n, .inr (.inl (fun j => Int64.ofInt (g q j)))) := by
  unfold cellX
  rw [h]
  rfl
theorem isL_13 {q n ci : Nat} {fks : List (Option Nat)} (h : tpo q = some (ci, n, fks)) (hc : ci ≠ 14) : isL q = false := by
  unfold isL
  rw [h]
  split
  · rename_i h9; cases h9; exact absurd rfl hc
  · rfl
theorem isL_14 {q n : Nat} {fks : List (Option Nat)} (h : tpo q = some (14, n, fks)) : isL q = true := by
  unfold isL
  rw [h]
  rfl
theorem okG.i {g : Gx} (h : okG g) {q : Nat} (hq : isL q = false) (i : Nat) : okI (g q i) := by
  have := h q i
  rw [hq] at this
  exact this
theorem okG.j {g : Gx} (h : okG g) {q : Nat} (hq : isL q = true) (i : Nat) : okJ (g q i) := by
  have := h q i
  rw [hq] at this
  exact this
theorem fldW_ok {own : String} {i a b pw : Nat} (h : wAtO pw (fldW own i a b) = true) : ∃ C T N, clx[b]? = some (C, T, N) ∧ a < N ∧ (Jvm.Cond.fieldLink own i (T a).1 (T a).2.1 (T a).2.2.1) ∈ TBx := by
  unfold wAtO fldW at h
  split at h
  · rename_i w hw
    split at hw
    · rename_i C T N hc
      split at hw
      · rename_i ha
        cases hw
        exact ⟨C, T, N, hc, ha, wAt_in h⟩
      · cases hw
    · cases hw
  · cases h
theorem clx_lt {b : Nat} {x : vw_C} (h : clx[b]? = some x) : b < 13 := (List.getElem?_eq_some_iff.mp h).1
theorem Sx.set {k z i : Nat} {v : Int} {g : Gx} (h : Sx N0 xs0 k g) (hz : z < 128) : Sx N0 xs0 k (gset g z i v) := by
  unfold Sx
  rw [gset_ne (show (1000 : Nat) ≠ z by omega), gset_ne (show (1001 : Nat) ≠ z by omega)]
  exact h
theorem snd_get (hK : CHK) {k pc nx a b pw : Nat} {i : Nat} {L : Lx} {S : List Vx} {g : Gx} {q : Stx} (hC : Cx p R s m args c cells slots ad D cI cJ H0 b0 N0 xs0 k) (hd : decode (mC k) pc = .ok (.getfield i, 3)) (hn : nx = pc + 3) (hw : wAtO pw (fldW (mO k) i a b) = true) (hs : getf nx a b L g S = some q) (J : Jx p l e R s m args below meth c cells slots Q ad D cI cJ H0 N0 xs0 k q.1 q.2.1 q.2.2.1 q.2.2.2) : Jx p l e R s m args below meth c cells slots Q ad D cI cJ H0 N0 xs0 k pc L S g := by
  obtain ⟨hx, hb, hml, hown, hts, hR, hnw, hKK, hcs, hsc⟩ := hC
  obtain ⟨C, T, N, hc, ha, hfl⟩ := fldW_ok hw
  have hb13 := clx_lt hc
  obtain ⟨ho1, ho2, ho3⟩ := cls_ok hK hc
  subst hn
  unfold getf at hs
  split at hs
  · rename_i z r
    split at hs
    · rename_i ci n9 fks ht
      split at hs
      · rename_i hci
        subst hci
        intro H locs ls hH hX hl hn hL hS
        have hq : z < 128 := tpo_lt ht
        have he := wsX_at ad cI cJ g hq
        rw [cellX_obj ht (by omega) (by omega)] at he
        split at hs
        · rename_i hf
          cases hs
          refine va_get hx hb hts ho1 hown hKK hH.1 z he hc a ha (hts _ hfl) (fun _ h9 => h9) (fldX_at hf) hd ?_
          exact J H locs ls hH hX hl hn hL (hS.tl.cons (hH.2.2.2.i (isL_13 ht (by omega)) a))
        · rename_i t hf
          cases hs
          refine va_get hx hb hts ho1 hown hKK hH.1 z he hc a ha (hts _ hfl) (fun _ h9 => h9) (fldX_at hf) hd ?_
          exact J H locs ls hH hX hl hn hL (hS.tl.cons trivial)
        · cases hs
      · cases hs
    · cases hs
  · cases hs
theorem snd_putW (hK : CHK) {k pc a b z : Nat} {i n9 : Nat} {cst x : Int} {L : Lx} {r : List Vx} {g : Gx} {fks : List (Option Nat)} (hC : Cx p R s m args c cells slots ad D cI cJ H0 b0 N0 xs0 k) (hd : decode (mC k) pc = .ok (.putfield i, 3)) {pw : Nat} (hw : wAtO pw (fldW (mO k) i a b) = true) (hp : putOk a b cst = true) (ht : tpo z = some (b, n9, fks)) (hf : fks[a]? = some none) (hxx : cst = 1 → x = 0 ∨ x = 1) (J : Jx p l e R s m args below meth c cells slots Q ad D cI cJ H0 N0 xs0 k (pc + 3) L r (gset g z a x)) : Jx p l e R s m args below meth c cells slots Q ad D cI cJ H0 N0 xs0 k pc L (.inl x :: .inr (.inr z) :: r) g := by
  obtain ⟨hx, hb, hml, hown, hts, hR, hnw, hKK, hcs, hsc⟩ := hC
  obtain ⟨C, T, N, hc, ha, hfl⟩ := fldW_ok hw
  have hb13 := clx_lt hc
  obtain ⟨ho1, ho2, ho3⟩ := cls_ok hK hc
  unfold putOk at hp
  rw [hc] at hp
  simp only [Bool.and_eq_true, decide_eq_true_eq, beq_iff_eq] at hp
  intro H locs ls hH hX hl hn hL hS
  have hq : z < 128 := tpo_lt ht
  have he := wsX_at ad cI cJ g hq
  rw [cellX_obj ht (by omega) (by omega)] at he
  have hlen : a < (fldX ad g z fks).length := by
    have := (List.getElem?_eq_some_iff.mp hf).1
    simpa [fldX] using this
  have hnar : narrow (if cst = 1 then FieldType.boolean else .int) (.int (Int32.ofInt x)) = .int (Int32.ofInt x) := by
    by_cases h1 : cst = 1
    · rcases hxx h1 with rfl | rfl <;> simp [h1] <;> rfl
    · simp only [h1, if_false]; rfl
  have hfit : fits (if cst = 1 then FieldType.boolean else .int) (.int (Int32.ofInt x)) = true := by
    by_cases h1 : cst = 1
    · rcases hxx h1 with rfl | rfl <;> simp only [h1, if_true] <;> rfl
    · simp only [h1, if_false]; rfl
  refine va_put hx hb hts ho1 _ ho2 ho3 hown hKK hH.1 hH.2.1 hH.2.2.1 z he hc a ha (hts _ hfl) (fun _ h9 => h9) hp.1 hp.2 hnar hfit hlen hd (fun H1 locs1 hP1 hD1 hS1 => ?_)
  have hset : (wsX ad cI cJ g).set z (ad z, .inr (b, (fldX ad g z fks).set a (.int (Int32.ofInt x)))) = wsX ad cI cJ (gset g z a x) := wsX_set hq (by rw [cellX_obj ht (by omega) (by omega), fldX_set hf])
  have hP2 : va_P D clx (wsX ad cI cJ (gset g z a x)) H1 := by rw [← hset]; exact hP1
  have hD2 : va_D (AW ad) (wsX ad cI cJ (gset g z a x)) := by rw [← hset]; exact hD1
  exact J H1 locs1 ls ⟨hP2, hD2, hS1, hH.2.2.2.set (by rw [isL_13 ht (by omega)]; exact hS.hd)⟩ (hX.set hq) hl hn hL hS.tl.tl
theorem snd_put (hK : CHK) {k pc nx a b pw : Nat} {i : Nat} {cst : Int} {L : Lx} {S : List Vx} {g : Gx} {q : Stx} (hC : Cx p R s m args c cells slots ad D cI cJ H0 b0 N0 xs0 k) (hd : decode (mC k) pc = .ok (.putfield i, 3)) (hn : nx = pc + 3) (hw : wAtO pw (fldW (mO k) i a b) = true) (hp : putOk a b cst = true) (hs : putf nx a b cst L g S = some q) (J : Jx p l e R s m args below meth c cells slots Q ad D cI cJ H0 N0 xs0 k q.1 q.2.1 q.2.2.1 q.2.2.2) : Jx p l e R s m args below meth c cells slots Q ad D cI cJ H0 N0 xs0 k pc L S g := by
  subst hn
  unfold putf at hs
  split at hs
  · rename_i x z r
    split at hs
    · rename_i ci n9 fks ht
      split at hs
      · rename_i hci
        subst hci
        split at hs
        · rename_i hf
          split at hs
          · split at hs
            · rename_i h1 h2
              cases hs
              exact snd_putW hK hC hd hw hp ht hf (fun _ => h2) J
            · cases hs
          · rename_i h1
            cases hs
            exact snd_putW hK hC hd hw hp ht hf (fun h9 => absurd h9 h1) J
        · cases hs
      · cases hs
    · cases hs
  · cases hs
theorem snd_ald {k pc nx a : Nat} {L : Lx} {S : List Vx} {g : Gx} {q : Stx} (hC : Cx p R s m args c cells slots ad D cI cJ H0 b0 N0 xs0 k) (hd : decode (mC k) pc = .ok (.iaload, 1)) (hn : nx = pc + 1) (hk : a = 0 ∨ k = kL) (hs : ald nx a 13 (fun v => .inl v) L g S = some q) (J : Jx p l e R s m args below meth c cells slots Q ad D cI cJ H0 N0 xs0 k q.1 q.2.1 q.2.2.1 q.2.2.2) : Jx p l e R s m args below meth c cells slots Q ad D cI cJ H0 N0 xs0 k pc L S g := by
  obtain ⟨hx, hb, hml, hown, hts, hR, hnw, hKK, hcs, hsc⟩ := hC
  subst hn
  unfold ald at hs
  split at hs
  · rename_i i z r
    split at hs
    · rename_i ha
      split at hs
      · rename_i hz
        obtain ⟨rfl, h0, h1⟩ := hz
        cases hs
        have hkL : k = kL := by rcases hk with h9 | h9 <;> omega
        obtain ⟨s1, s2, s3, s4, s5⟩ := hsc hkL
        intro H locs ls hH hX hl hn hL hS
        have hi : okI i := hS.hd
        obtain ⟨x1, x2⟩ := hX hkL
        rw [x2] at h1
        have e2 := va_sld (H := H) (locs := locs) (cells := cells) (slots := slots) (Q := Q) (l := l) (e := e) (R := R) (m := m) (args := args) (below := below) (meth := meth) (ls := ls) (rest := r.map (tr ad)) hx hb s2 s3 s4 hH.2.2.1 (i32_in h0 h1 hi) hd
        rw [i32_cl h0 hi, ← x1 _ (by omega), ← s1] at e2
        exact e2 (J H locs ls hH hX hl hn hL (hS.tl.tl.cons (hH.2.2.2.i (by decide +kernel) _)))
      · cases hs
    · split at hs
      · rename_i ci n9 fks ht
        split at hs
        · rename_i hci
          subst hci
          split at hs
          · rename_i hz
            obtain ⟨h0, h1⟩ := hz
            cases hs
            intro H locs ls hH hX hl hn hL hS
            have hi : okI i := hS.hd
            have he := wsX_at ad cI cJ g (tpo_lt ht)
            rw [cellX_int ht] at he
            have e2 := va_iald (H := H) (locs := locs) (cells := cells) (slots := slots) (Q := Q) (l := l) (e := e) (R := R) (m := m) (args := args) (below := below) (meth := meth) (ls := ls) (rest := r.map (tr ad)) hx hb hKK hH.1 z 0 he rfl (i32_in h0 h1 hi) hd
            rw [i32_cl h0 hi] at e2
            exact e2 (J H locs ls hH hX hl hn hL (hS.tl.tl.cons (hH.2.2.2.i (isL_13 ht (by decide)) _)))
          · cases hs
        · cases hs
      · cases hs
  · cases hs
theorem snd_lald {k pc nx a : Nat} {L : Lx} {S : List Vx} {g : Gx} {q : Stx} (hC : Cx p R s m args c cells slots ad D cI cJ H0 b0 N0 xs0 k) (hd : decode (mC k) pc = .ok (.laload, 1)) (hn : nx = pc + 1) (hk : a = 0) (hs : ald nx a 14 (fun v => .inr (.inl v)) L g S = some q) (J : Jx p l e R s m args below meth c cells slots Q ad D cI cJ H0 N0 xs0 k q.1 q.2.1 q.2.2.1 q.2.2.2) : Jx p l e R s m args below meth c cells slots Q ad D cI cJ H0 N0 xs0 k pc L S g := by
  obtain ⟨hx, hb, hml, hown, hts, hR, hnw, hKK, hcs, hsc⟩ := hC
  subst hn
  subst hk
  unfold ald at hs
  split at hs
  · rename_i i z r
    split at hs
    · rename_i ha; cases ha
    · split at hs
      · rename_i ci n9 fks ht
        split at hs
        · rename_i hci
          subst hci
          split at hs
          · rename_i hz
            obtain ⟨h0, h1⟩ := hz
            cases hs
            intro H locs ls hH hX hl hn hL hS
            have hi : okI i := hS.hd
            have he := wsX_at ad cI cJ g (tpo_lt ht)
            rw [cellX_long ht] at he
            have e2 := va_lald (H := H) (locs := locs) (cells := cells) (slots := slots) (Q := Q) (l := l) (e := e) (R := R) (m := m) (args := args) (below := below) (meth := meth) (ls := ls) (rest := r.map (tr ad)) hx hb hKK hH.1 z 1 he rfl (i32_in h0 h1 hi) hd
            rw [i32_cl h0 hi] at e2
            exact e2 (J H locs ls hH hX hl hn hL (hS.tl.tl.cons (hH.2.2.2.j (isL_14 ht) _)))
          · cases hs
        · cases hs
      · cases hs
  · cases hs
theorem snd_ast {k pc nx z : Nat} {i x : Int} {L : Lx} {r : List Vx} {g : Gx} {q : Stx} (hC : Cx p R s m args c cells slots ad D cI cJ H0 b0 N0 xs0 k) (hd : decode (mC k) pc = .ok (.iastore, 1)) (hn : nx = pc + 1) (hs : ast nx 13 z i x L g r = some q) (J : Jx p l e R s m args below meth c cells slots Q ad D cI cJ H0 N0 xs0 k q.1 q.2.1 q.2.2.1 q.2.2.2) : Jx p l e R s m args below meth c cells slots Q ad D cI cJ H0 N0 xs0 k pc L (.inl x :: .inl i :: .inr (.inr z) :: r) g := by
  obtain ⟨hx, hb, hml, hown, hts, hR, hnw, hKK, hcs, hsc⟩ := hC
  subst hn
  unfold ast at hs
  split at hs
  · rename_i ci n9 fks ht
    split at hs
    · rename_i hci
      subst hci
      split at hs
      · rename_i hz
        obtain ⟨h0, h1⟩ := hz
        cases hs
        intro H locs ls hH hX hl hn hL hS
        have hi : okI i := hS.tl.hd
        have hq : z < 128 := tpo_lt ht
        have he := wsX_at ad cI cJ g hq
        rw [cellX_int ht] at he
        refine va_iast hx hb hKK hH.1 hH.2.1 hH.2.2.1 z 0 he rfl (i32_in h0 h1 hi) hd (fun H1 locs1 hP1 hD1 hS1 => ?_)
        rw [i32_cl h0 hi] at hP1 hD1
        have hset : (wsX ad cI cJ g).set z (ad z, .inl (cI, n9, .inl (upd (fun j => Int32.ofInt (g z j)) i.toNat (Int32.ofInt x)))) = wsX ad cI cJ (gset g z i.toNat x) := wsX_set hq (by
          rw [cellX_int ht, gset_eq]
          congr 4
          funext j
          simp only [upd]
          split <;> rfl)
        have hP2 : va_P D clx (wsX ad cI cJ (gset g z i.toNat x)) H1 := by rw [← hset]; exact hP1
        have hD2 : va_D (AW ad) (wsX ad cI cJ (gset g z i.toNat x)) := by rw [← hset]; exact hD1
        exact J H1 locs1 ls ⟨hP2, hD2, hS1, hH.2.2.2.set (by rw [isL_13 ht (by decide)]; exact hS.hd)⟩ (hX.set hq) hl hn hL hS.tl.tl.tl
      · cases hs
    · cases hs
  · cases hs
theorem snd_last {k pc nx z : Nat} {i x : Int} {L : Lx} {r : List Vx} {g : Gx} {q : Stx} (hC : Cx p R s m args c cells slots ad D cI cJ H0 b0 N0 xs0 k) (hd : decode (mC k) pc = .ok (.lastore, 1)) (hn : nx = pc + 1) (hs : ast nx 14 z i x L g r = some q) (J : Jx p l e R s m args below meth c cells slots Q ad D cI cJ H0 N0 xs0 k q.1 q.2.1 q.2.2.1 q.2.2.2) : Jx p l e R s m args below meth c cells slots Q ad D cI cJ H0 N0 xs0 k pc L (.inr (.inl x) :: .inl i :: .inr (.inr z) :: r) g := by
  obtain ⟨hx, hb, hml, hown, hts, hR, hnw, hKK, hcs, hsc⟩ := hC
  subst hn
  unfold ast at hs
  split at hs
  · rename_i ci n9 fks ht
    split at hs
    · rename_i hci
      subst hci
      split at hs
      · rename_i hz
        obtain ⟨h0, h1⟩ := hz
        cases hs
        intro H locs ls hH hX hl hn hL hS
        have hi : okI i := hS.tl.hd
        have hq : z < 128 := tpo_lt ht
        have he := wsX_at ad cI cJ g hq
        rw [cellX_long ht] at he
        refine va_last hx hb hKK hH.1 hH.2.1 hH.2.2.1 z 1 he rfl (i32_in h0 h1 hi) hd (fun H1 locs1 hP1 hD1 hS1 => ?_)
        rw [i32_cl h0 hi] at hP1 hD1
        have hset : (wsX ad cI cJ g).set z (ad z, .inl (cJ, n9, .inr (.inl (vp_updL (fun j => Int64.ofInt (g z j)) i.toNat (Int64.ofInt x))))) = wsX ad cI cJ (gset g z i.toNat x) := wsX_set hq (by
          rw [cellX_long ht, gset_eq]
          congr 5
          funext j
          simp only [vp_updL]
          split <;> rfl)
        have hP2 : va_P D clx (wsX ad cI cJ (gset g z i.toNat x)) H1 := by rw [← hset]; exact hP1
        have hD2 : va_D (AW ad) (wsX ad cI cJ (gset g z i.toNat x)) := by rw [← hset]; exact hD1
        exact J H1 locs1 ls ⟨hP2, hD2, hS1, hH.2.2.2.set (by rw [isL_14 ht]; exact hS.hd)⟩ (hX.set hq) hl hn hL hS.tl.tl.tl
      · cases hs
    · cases hs
  · cases hs
theorem alen_tab : ∀ q, q < nT → (match tpo q with | some (13, n, _) => decide (n < 2147483648) | _ => true) = true := by decide +kernel
theorem snd_alen {k pc nx a : Nat} {L : Lx} {S : List Vx} {g : Gx} {q : Stx} (hC : Cx p R s m args c cells slots ad D cI cJ H0 b0 N0 xs0 k) (hd : decode (mC k) pc = .ok (.arraylength, 1)) (hn : nx = pc + 1) (hk : a = 0 ∨ k = kL) (hs : alen nx a L g S = some q) (J : Jx p l e R s m args below meth c cells slots Q ad D cI cJ H0 N0 xs0 k q.1 q.2.1 q.2.2.1 q.2.2.2) : Jx p l e R s m args below meth c cells slots Q ad D cI cJ H0 N0 xs0 k pc L S g := by
  obtain ⟨hx, hb, hml, hown, hts, hR, hnw, hKK, hcs, hsc⟩ := hC
  subst hn
  unfold alen at hs
  split at hs
  · rename_i z r
    split at hs
    · rename_i ha
      split at hs
      · rename_i hz
        subst hz
        cases hs
        have hkL : k = kL := by rcases hk with h9 | h9 <;> omega
        obtain ⟨s1, s2, s3, s4, s5⟩ := hsc hkL
        intro H locs ls hH hX hl hn hL hS
        obtain ⟨x1, x2⟩ := hX hkL
        have e2 := va_slen (H := H) (locs := locs) (cells := cells) (slots := slots) (Q := Q) (l := l) (e := e) (R := R) (m := m) (args := args) (below := below) (meth := meth) (ls := ls) (rest := r.map (tr ad)) hx hb s2 s3 s4 hH.2.2.1 hd
        rw [← s1, show Int32.ofNat N0 = Int32.ofInt (g 1001 0) by rw [x2]; exact (Int32.ofInt_eq_ofNat).symm] at e2
        exact e2 (J H locs ls hH hX hl hn hL (hS.tl.cons (hH.2.2.2.i (by decide +kernel) _)))
      · cases hs
    · split at hs
      · rename_i ci n9 fks ht
        split at hs
        · rename_i hci
          subst hci
          cases hs
          intro H locs ls hH hX hl hn hL hS
          have he := wsX_at ad cI cJ g (tpo_lt ht)
          rw [cellX_int ht] at he
          have h5 : n9 < 2147483648 := by
            have := alen_tab z (tpo_lt ht)
            rw [ht] at this
            simpa using this
          refine va_alen hx hb hKK hH.1 z 0 he rfl (v := Int32.ofInt (n9 : Int)) (Int32.ofInt_eq_ofNat).symm hd ?_
          exact J H locs ls hH hX hl hn hL (hS.tl.cons ⟨by omega, by omega⟩)
        · cases hs
      · cases hs
  · cases hs
end SND4
