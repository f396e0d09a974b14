/-! The theorem. Own text. -/
theorem wsX_D {A : Nat → Prop} {ad : Nat → Nat} {cI cJ : ClassId} {g : Gx} (g2 : Gx) (h : va_D A (wsX ad cI cJ g)) : va_D A (wsX ad cI cJ g2) := by
  have key : ∀ (i : Nat) (q : Nat × va_E), (wsX ad cI cJ g2)[i]? = some q → (wsX ad cI cJ g)[i]? = some (q.1, cellX ad cI cJ g i) := by
    intro i q hi
    have hlt : i < nT := by
      have := (List.getElem?_eq_some_iff.mp hi).1
      simpa [wsX] using this
    rw [wsX_at _ _ _ _ hlt] at hi ⊢
    cases hi
    rfl
  refine ⟨fun i j p q hi hj hpq => h.1 i j _ _ (key i p hi) (key j q hj) hpq, fun k q hq => h.2 k (q.1, cellX ad cI cJ g k) (key k q hq)⟩
theorem recv_inv {j i : Nat} {as : List Vx} (h : recvOk j (.invokevirtual i) as = true) : ∃ z as' n fks, as = .inr (.inr z) :: as' ∧ tpo z = some (mK j, n, fks) := by
  match as, h with
  | .inr (.inr z) :: as', h =>
    simp only [recvOk] at h
    split at h
    · rename_i ci n9 fks ht
      have := beq_e h
      subst this
      exact ⟨z, as', n9, fks, rfl, ht⟩
    · cases h
  | [], h => simp [recvOk] at h
  | .inl x :: as', h => simp [recvOk] at h
  | .inr (.inl x) :: as', h => simp [recvOk] at h
section SND8
variable {p : Program} {l : Launch} {e : Env} {R : Room} {s : State} {m : MethodId} {args : Array Value} {below : List Frame} {meth : Method} {c : Code} {cells slots : Nat} {Q : State → Prop} {ad : Nat → Nat} {D : va_G} {cI cJ : ClassId} {H0 : Heap} {b0 N0 : Nat} {xs0 : Nat → Int32}
theorem snd_call (hK : CHK) {k pc : Nat} {x : Ex} {L : Lx} {S as rest : List Vx} {g g1 : Gx} {r1 : Option Vx} (hC : Cx p R s m args c cells slots ad D cI cJ H0 b0 N0 xs0 k) (hck : chkE k pc x = true) (h1 : isCall x = true) (h2 : callOf k x S = some (as, rest)) (hM : SndAt l ad D cI cJ b0 N0 xs0 x.2.2.1 0 (padL (entL as) (mL x.2.2.1)) [] g r1 g1) (hout : ∀ z, 128 ≤ z → g1 z = g z) (J : Jx p l e R s m args below meth c cells slots Q ad D cI cJ H0 N0 xs0 k x.2.1 L (pushR r1 rest) g1) : Jx p l e R s m args below meth c cells slots Q ad D cI cJ H0 N0 xs0 k pc L S g := by
  obtain ⟨e0, e1, e2, e3, e4, e5, e6⟩ := callOf_inv h2
  subst e0
  obtain ⟨hd, hi⟩ := chk_d hck
  obtain ⟨ins, nx, j, na, pw, cst⟩ := x
  dsimp only at hd h1 e1 e2 e3 e4 e5 e6 hM J
  obtain ⟨hx, hb, hml, hown, hts, hR, hnw, hKK, hcs, hsc⟩ := hC
  intro H locs ls hH hX hl hn hL hS
  have hoka : okS as := fun v hv => hS v (List.mem_append.mpr (Or.inl (List.mem_reverse.mpr hv)))
  have hokr : okS rest := fun v hv => hS v (List.mem_append.mpr (Or.inr hv))
  have hroom : (rmk j).frames + 1 ≤ R.frames ∧ 8 + (mL j + 11) + (rmk j).locals ≤ R.locals := by
    have := hR.1
    have := hR.2
    simp only [rmk]
    omega
  have hw8 : ((rest.map (tr ad)).map fun v => v.category).sum ≤ 8 := by
    rw [List.map_map]
    have : ((fun v : Value => v.category) ∘ tr ad) = cat := by funext v; exact tr_cat ad v
    rw [this]; exact e2
  have hPc : ∀ U : State, U.heap = H → s.WarmedH U.vm → va_Pc (as.map (tr ad)) (WB ad D cI cJ g) (as.map (tr ad)).toArray U := fun U hU hW => ⟨rfl, by rw [hU]; exact hH.1, va_K.moved hW.alike hKK, hnw.warm hW⟩
  have fin : ∀ {a : Array Value}, nx = pc + 3 → va_Run p l e R s m args below meth c H locs cells slots 0 0 (F0 m pc ls ((as.reverse ++ rest).map (tr ad))) (rest.map (tr ad)) (Qx ad D cI cJ r1 g1 a) (AW ad) → W p l e R s m args below meth c H locs cells slots Q (F0 m pc ls ((as.reverse ++ rest).map (tr ad))) := by
    intro a hnx hrun
    refine call_x hrun hH.2.2.1 (fun H1 locs1 hg1 hr1 hP1 hS1 => ?_)
    have hJ := J H1 locs1 ls ⟨hP1, wsX_D g1 hH.2.1, hS1, hg1⟩ (fun h9 => by rw [hout 1000 (by decide), hout 1001 (by decide)]; exact hX h9) hl hn hL
    rw [hnx] at hJ
    rcases r1 with _ | v
    · exact hJ hokr
    · exact hJ (hokr.cons (hr1 v (by simp)))
  cases ins with
  | invokevirtual i =>
    simp only [chkI, Bool.and_eq_true, decide_eq_true_eq, Bool.not_eq_true'] at hi
    obtain ⟨⟨⟨⟨hnx, hst⟩, hjk⟩, hlk⟩, hpd⟩ := hi
    have hj : j < kL := ble_e hjk
    obtain ⟨hnx, hd⟩ := chk_n hd hnx
    obtain ⟨m1, m2, m3, m4, m5, m6, m7⟩ := meth_ok hK hj
    rw [hst] at m2
    obtain ⟨m21, m22, m23⟩ := m2
    have hcst : cst ≠ 1 := fun h9 => by
      unfold linkOk at hlk
      rw [if_pos h9, hst] at hlk
      simp at hlk
    unfold linkOk at hlk
    rw [if_neg hcst] at hlk
    have hlink := wAt_in hlk
    have hmet := met_of (l := l) (b0 := b0) (N0 := N0) (xs0 := xs0) hK hj hM e5 hoka hH.2.2.2 hH.2.1
    obtain ⟨z, as', n9, fks, rfl, ht⟩ := recv_inv e6
    cases hq : clx[mK j]? with
    | none => rw [hq] at m23; cases m23
    | some qq =>
      obtain ⟨C, T, N⟩ := qq
      rw [hq] at m23
      have hCC : C = mO j := by simpa using m23
      subst hCC
      have hb13 := clx_lt hq
      have he := wsX_at ad cI cJ g (tpo_lt ht)
      rw [cellX_obj ht (by omega) (by omega)] at he
      have hrecv := va_recv hKK hH.1 hq he
      refine fin hnx (va_runV (n := as'.length) (As := as'.map (tr ad)) (b := ad z) (C := mO j) (cc := mC k) (Ts := TBx) (own := mO k) (nL := mL k) ⟨hx, hb, hml, hown, hts⟩ hmet (cwV as'.length hts (goodIn_TBx (fun w hw => ?_)) rfl rfl rfl ⟨m4, m5, m6, ?_⟩ hroom) ⟨WB.blind, hrecv, hPc⟩ rfl (by simp) (hl.1.trans hn) ?_ (lv_room hw8) hd hcs)
      · unfold wsV at hw
        rcases List.mem_append.mp hw with h9 | h9
        · simp only [List.mem_cons, List.mem_nil_iff, or_false] at h9
          rcases h9 with rfl | rfl | rfl | rfl
          · exact hlink
          · exact m21
          · exact m22
          · exact m3
        · exact m1 w h9
      · cases hpp : parseMethodDescriptor (mY j).desc with
        | none => rw [hpp] at hpd; simp at hpd
        | some dd =>
          rw [hpp] at hpd
          simp only [Option.map_some, Option.some.injEq] at hpd ⊢
          simp only [List.length_cons] at e1
          omega
      · simp [tr]
  | invokestatic i =>
    have hle : Nat.ble j kL = true := h1
    simp only [chkI, hle, Bool.true_eq_false, if_false, Bool.and_eq_true, decide_eq_true_eq] at hi
    obtain ⟨⟨⟨⟨hnx, hst⟩, hjk⟩, hlk⟩, hpd⟩ := hi
    have hj : j < kL := ble_e hjk
    obtain ⟨hnx, hd⟩ := chk_n hd hnx
    obtain ⟨m1, m2, m3, m4, m5, m6, m7⟩ := meth_ok hK hj
    rw [if_pos hst] at m2
    have hmet := met_of (l := l) (b0 := b0) (N0 := N0) (xs0 := xs0) hK hj hM e5 hoka hH.2.2.2 hH.2.1
    have hpar : (parseMethodDescriptor (mY j).desc).map (fun d => d.parameters.length) = some as.length := by rw [hpd, e1]
    unfold linkOk at hlk
    split at hlk
    · simp only [Bool.and_eq_true, decide_eq_true_eq] at hlk
      have hnest : Jvm.Cond.methodLinkNest (mO k) i (mY j) "OnePlan" ∈ NWx := List.mem_of_getElem? hlk.1
      refine fin hnx (va_runSN (n := as.length) (As := as.map (tr ad)) (host := "OnePlan") (cc := mC k) (Ts := TBx) (own := mO k) (nL := mL k) ⟨hx, hb, hml, hown, hts⟩ hmet ⟨va_cnB as.length hts (goodIn_TBx m1) rfl rfl rfl (hnw _ hnest) (by rw [m4]; exact hts _ m3) ⟨m5, m6, hpar⟩ hroom, hts _ m2, trivial⟩ ⟨WB.blind, hPc⟩ rfl (by simp) (hl.1.trans hn) (by simp) (lv_room hw8) hd hcs)
    · have hlink := wAt_in hlk
      refine fin hnx (va_runS (n := as.length) (As := as.map (tr ad)) (cc := mC k) (Ts := TBx) (own := mO k) (nL := mL k) ⟨hx, hb, hml, hown, hts⟩ hmet (va_cwS as.length hts (goodIn_TBx (fun w hw => ?_)) rfl rfl rfl ⟨m5, m6, hpar⟩ hroom) ⟨WB.blind, hPc⟩ rfl (by simp) (hl.1.trans hn) (by simp) (lv_room hw8) hd hcs)
      unfold va_wsS at hw
      rcases List.mem_append.mp hw with h9 | h9
      · simp only [List.mem_cons, List.mem_nil_iff, or_false] at h9
        rcases h9 with rfl | rfl | rfl
        · exact hlink
        · exact m2
        · rw [m4]; exact m3
      · exact m1 w h9
  | _ => simp [isCall] at h1
theorem snd (hK : CHK) (l : Launch) (ad : Nat → Nat) (D : va_G) (cI cJ : ClassId) (b0 N0 : Nat) (xs0 : Nat → Int32) : ∀ (n k pc : Nat) (L : Lx) (S : List Vx) (g : Gx) (r : Option Vx) (g' : Gx), ex n k pc L S g = some (r, g') → SndAt l ad D cI cJ b0 N0 xs0 k pc L S g r g' := by
  intro n
  induction n with
  | zero => intro k pc L S g r g' h; simp [ex] at h
  | succ n ih =>
    intro k pc L S g r g' h
    rw [ex] at h
    cases hc : cd k pc with
    | none => rw [hc] at h; cases h
    | some x =>
      have hck := hK.1 k pc x hc
      rw [hc] at h
      simp only at h
      cases h1 : isCall x with
      | true =>
        rw [h1] at h
        simp only at h
        cases h2 : callOf k x S with
        | none => rw [h2] at h; cases h
        | some q =>
          obtain ⟨as, rest⟩ := q
          rw [h2] at h
          simp only at h
          cases h3 : ex n x.2.2.1 0 (padL (entL as) (mL x.2.2.1)) [] g with
          | none => rw [h3] at h; cases h
          | some q =>
            obtain ⟨r1, g1⟩ := q
            rw [h3] at h
            intro p e R s m args below meth c cells slots Q H0 hC hret
            exact snd_call hK hC hck h1 h2 (ih _ _ _ _ _ _ _ h3) (ex_out _ _ _ _ _ _ _ _ h3) (ih _ _ _ _ _ _ _ h p e R s m args below meth c cells slots Q H0 hC hret)
      | false =>
        rw [h1] at h
        simp only at h
        cases h2 : isRet x.1 with
        | true =>
          rw [h2] at h
          simp only at h
          intro p e R s m args below meth c cells slots Q H0 hC hret H locs ls hH hX hl hn hL hS
          obtain ⟨hd, hi⟩ := chk_d hck
          obtain ⟨ins, nx, a, b, pw, cst⟩ := x
          dsimp only at hd h2
          cases ins with
          | ireturn =>
            simp only [chkI, Bool.and_eq_true] at hi
            obtain ⟨-, hd⟩ := chk_n hd hi.1
            have hi2 := hi.2
            simp only [retOf] at h
            split at h
            · split at h
              · rename_i ha
                split at h
                · rename_i h01
                  cases h
                  rw [if_pos ha] at hi2
                  exact hret H locs ls pc hH (fun v hv => hS v (by simpa using hv)) ⟨hd, Or.inr ⟨by simpa using hi2, h01⟩⟩
                · cases h
              · rename_i ha
                cases h
                rw [if_neg ha] at hi2
                exact hret H locs ls pc hH (fun v hv => hS v (by simpa using hv)) ⟨hd, Or.inl (by simpa using hi2)⟩
            · cases h
          | lreturn =>
            simp only [chkI, Bool.and_eq_true, decide_eq_true_eq] at hi
            obtain ⟨-, hd⟩ := chk_n hd hi.1
            simp only [retOf] at h
            split at h
            · cases h
              exact hret H locs ls pc hH (fun v hv => hS v (by simpa using hv)) ⟨hd, hi.2⟩
            · cases h
          | return_ =>
            simp only [chkI, Bool.and_eq_true, decide_eq_true_eq] at hi
            obtain ⟨-, hd⟩ := chk_n hd hi.1
            simp only [retOf] at h
            split at h
            · cases h
              exact hret H locs ls pc hH (fun v hv => by simp at hv) ⟨hd, hi.2⟩
            · cases h
          | _ => simp [isRet] at h2
        | false =>
          rw [h2] at h
          simp only at h
          cases h3 : stpx pc x L S g with
          | none => rw [h3] at h; cases h
          | some q =>
            obtain ⟨pc', L', S', g2⟩ := q
            rw [h3] at h
            intro p e R s m args below meth c cells slots Q H0 hC hret
            exact snd_stp hK h1 hC hck h3 (ih _ _ _ _ _ _ _ h p e R s m args below meth c cells slots Q H0 hC hret)
end SND8
