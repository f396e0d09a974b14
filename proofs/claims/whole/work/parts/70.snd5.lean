/-! Every step, all in one. Own text. -/
section SND5
variable {p : Program} {l : Launch} {e : Env} {R : Room} {s : State} {m : MethodId} {args : Array Value} {below : List Frame} {meth : Method} {c : Code} {cells slots : Nat} {Q : State → Prop} {ad : Nat → Nat} {D : va_G} {cI cJ : ClassId} {H0 : Heap} {b0 N0 : Nat} {xs0 : Nat → Int32}
set_option maxHeartbeats 4000000 in
theorem snd_stp (hK : CHK) {k pc : Nat} {x : Ex} {L : Lx} {S : List Vx} {g : Gx} {q : Stx} (hcall : isCall x = false) (hC : Cx p R s m args c cells slots ad D cI cJ H0 b0 N0 xs0 k) (hck : chkE k pc x = true) (hs : stpx pc x L S g = some q) (J : Jx p l e R s m args below meth c cells slots Q ad D cI cJ H0 N0 xs0 k q.1 q.2.1 q.2.2.1 q.2.2.2) : Jx p l e R s m args below meth c cells slots Q ad D cI cJ H0 N0 xs0 k pc L S g := by
  obtain ⟨ins, nx, a, b, pw, cst⟩ := x
  obtain ⟨hd, hi⟩ := chk_d hck
  dsimp only at hd
  have hC2 := hC
  obtain ⟨hx, hb, hml, hown, hts, hR, hnw, hKK, hcs, hsc⟩ := hC
  cases ins with
  | iconst n =>
    simp only [chkI, Bool.and_eq_true, Bool.or_eq_true, decide_eq_true_eq] at hi
    obtain ⟨⟨e1, h1⟩, h2⟩ := hi
    obtain ⟨e1, hd9⟩ := chk_n hd e1
    clear hd
    have hd := hd9
    subst e1
    exact jx_push (v := .inl cst) (inRb_ok h1) hs J (fun H locs ls rest h => lv_iconst hx hb hd (by rw [h2]) h)
  | bipush n =>
    simp only [chkI, Bool.and_eq_true, Bool.or_eq_true, decide_eq_true_eq] at hi
    obtain ⟨⟨e1, h1⟩, h2⟩ := hi
    obtain ⟨e1, hd9⟩ := chk_n hd e1
    clear hd
    have hd := hd9
    subst e1
    exact jx_push (v := .inl cst) (inRb_ok h1) hs J (fun H locs ls rest h => lv_bipush hx hb hd h2 h)
  | sipush n =>
    simp only [chkI, Bool.and_eq_true, Bool.or_eq_true, decide_eq_true_eq] at hi
    obtain ⟨⟨e1, h1⟩, h2⟩ := hi
    obtain ⟨e1, hd9⟩ := chk_n hd e1
    clear hd
    have hd := hd9
    subst e1
    exact jx_push (v := .inl cst) (inRb_ok h1) hs J (fun H locs ls rest h => lv_sipush hx hb hd h2 h)
  | ldc n =>
    simp only [chkI, Bool.and_eq_true, Bool.or_eq_true, decide_eq_true_eq] at hi
    obtain ⟨⟨e1, h1⟩, h2⟩ := hi
    obtain ⟨e1, hd9⟩ := chk_n hd e1
    clear hd
    have hd := hd9
    subst e1
    exact jx_push (v := .inl cst) (inRb_ok h1) hs J (fun H locs ls rest h => lv_ldc hx hb hown (hts _ (wAt_in h2)) hd h)
  | ldc_w n =>
    simp only [chkI, Bool.and_eq_true, Bool.or_eq_true, decide_eq_true_eq] at hi
    obtain ⟨⟨e1, h1⟩, h2⟩ := hi
    obtain ⟨e1, hd9⟩ := chk_n hd e1
    clear hd
    have hd := hd9
    subst e1
    exact jx_push (v := .inl cst) (inRb_ok h1) hs J (fun H locs ls rest h => lv_ldcw hx hb hown (hts _ (wAt_in h2)) hd h)
  | ldc2_w n =>
    simp only [chkI, Bool.and_eq_true, Bool.or_eq_true, decide_eq_true_eq] at hi
    obtain ⟨⟨e1, h1⟩, h2⟩ := hi
    obtain ⟨e1, hd9⟩ := chk_n hd e1
    clear hd
    have hd := hd9
    subst e1
    exact jx_push (v := .inr (.inl cst)) (inLb_ok h1) hs J (fun H locs ls rest h => lv_ldc2 hx hb hown (hts _ (wAt_in h2)) hd h)
  | lconst n =>
    simp only [chkI, Bool.and_eq_true, Bool.or_eq_true, decide_eq_true_eq] at hi
    obtain ⟨⟨e1, h1⟩, h2⟩ := hi
    obtain ⟨e1, hd9⟩ := chk_n hd e1
    clear hd
    have hd := hd9
    subst e1
    exact jx_push (v := .inr (.inl cst)) (inLb_ok h1) hs J (fun H locs ls rest h => lv_lconst hx hb hd h2 h)
  | iload_n n =>
    simp only [chkI, Bool.and_eq_true, Bool.or_eq_true, decide_eq_true_eq] at hi
    obtain ⟨e1, h2⟩ := hi
    obtain ⟨e1, hd9⟩ := chk_n hd e1
    clear hd
    have hd := hd9
    subst e1
    simp only [stpx] at hs
    split at hs
    · rename_i z hz
      exact jx_load hz hs J (fun H locs ls rest hls h => lv_iload_n hx hb hd (beq_e h2) hls h)
    · cases hs
  | iload n =>
    simp only [chkI, Bool.and_eq_true, Bool.or_eq_true, decide_eq_true_eq] at hi
    obtain ⟨e1, h2⟩ := hi
    obtain ⟨e1, hd9⟩ := chk_n hd e1
    clear hd
    have hd := hd9
    subst e1
    simp only [stpx] at hs
    split at hs
    · rename_i z hz
      exact jx_load hz hs J (fun H locs ls rest hls h => lv_iload hx hb hd  (by rw [beq_e h2]; exact hls) h)
    · cases hs
  | lload_n n =>
    simp only [chkI, Bool.and_eq_true, Bool.or_eq_true, decide_eq_true_eq] at hi
    obtain ⟨e1, h2⟩ := hi
    obtain ⟨e1, hd9⟩ := chk_n hd e1
    clear hd
    have hd := hd9
    subst e1
    simp only [stpx] at hs
    split at hs
    · rename_i z hz
      exact jx_load hz hs J (fun H locs ls rest hls h => lv_lload_n hx hb hd (beq_e h2) hls h)
    · cases hs
  | lload n =>
    simp only [chkI, Bool.and_eq_true, Bool.or_eq_true, decide_eq_true_eq] at hi
    obtain ⟨e1, h2⟩ := hi
    obtain ⟨e1, hd9⟩ := chk_n hd e1
    clear hd
    have hd := hd9
    subst e1
    simp only [stpx] at hs
    split at hs
    · rename_i z hz
      exact jx_load hz hs J (fun H locs ls rest hls h => lv_lload hx hb hd  (by rw [beq_e h2]; exact hls) h)
    · cases hs
  | aload_n n =>
    simp only [chkI, Bool.and_eq_true, Bool.or_eq_true, decide_eq_true_eq] at hi
    obtain ⟨e1, h2⟩ := hi
    obtain ⟨e1, hd9⟩ := chk_n hd e1
    clear hd
    have hd := hd9
    subst e1
    simp only [stpx] at hs
    split at hs
    · rename_i z hz
      exact jx_load hz hs J (fun H locs ls rest hls h => lv_aload_n hx hb hd (beq_e h2) hls h)
    · cases hs
  | istore_n n =>
    simp only [chkI, Bool.and_eq_true, Bool.or_eq_true, decide_eq_true_eq] at hi
    obtain ⟨⟨e1, h2⟩, h3⟩ := hi
    obtain ⟨e1, hd9⟩ := chk_n hd e1
    clear hd
    have hd := hd9
    subst e1
    have h3 := ble_e h3
    simp only [stpx] at hs
    split at hs
    · exact jx_st1 (by omega) hs J (fun H locs ls rest lv hlv hin h => lv_istore_n hx hb hd (beq_e h2) hlv hin rfl h)
    · cases hs
  | istore n =>
    simp only [chkI, Bool.and_eq_true, Bool.or_eq_true, decide_eq_true_eq] at hi
    obtain ⟨⟨e1, h2⟩, h3⟩ := hi
    obtain ⟨e1, hd9⟩ := chk_n hd e1
    clear hd
    have hd := hd9
    subst e1
    have h3 := ble_e h3
    have h2 := beq_e h2
    subst h2
    simp only [stpx] at hs
    split at hs
    · exact jx_st1 (by omega) hs J (fun H locs ls rest lv hlv hin h => lv_istore hx hb hd  hlv hin rfl h)
    · cases hs
  | lstore_n n =>
    simp only [chkI, Bool.and_eq_true, Bool.or_eq_true, decide_eq_true_eq] at hi
    obtain ⟨⟨e1, h2⟩, h3⟩ := hi
    obtain ⟨e1, hd9⟩ := chk_n hd e1
    clear hd
    have hd := hd9
    subst e1
    have h3 := ble_e h3
    simp only [stpx] at hs
    split at hs
    · exact jx_st2 (by omega) hs J (fun H locs ls rest lv hlv hin h => lv_lstore_n hx hb hd (beq_e h2) hlv hin rfl h)
    · cases hs
  | lstore n =>
    simp only [chkI, Bool.and_eq_true, Bool.or_eq_true, decide_eq_true_eq] at hi
    obtain ⟨⟨e1, h2⟩, h3⟩ := hi
    obtain ⟨e1, hd9⟩ := chk_n hd e1
    clear hd
    have hd := hd9
    subst e1
    have h3 := ble_e h3
    have h2 := beq_e h2
    subst h2
    simp only [stpx] at hs
    split at hs
    · exact jx_st2 (by omega) hs J (fun H locs ls rest lv hlv hin h => lv_lstore hx hb hd  hlv hin rfl h)
    · cases hs
  | astore_n n =>
    simp only [chkI, Bool.and_eq_true, Bool.or_eq_true, decide_eq_true_eq] at hi
    obtain ⟨⟨e1, h2⟩, h3⟩ := hi
    obtain ⟨e1, hd9⟩ := chk_n hd e1
    clear hd
    have hd := hd9
    subst e1
    have h3 := ble_e h3
    simp only [stpx] at hs
    split at hs
    · exact jx_st1 (by omega) hs J (fun H locs ls rest lv hlv hin h => lv_astore_n hx hb hd (beq_e h2) hlv hin rfl h)
    · cases hs
  | iinc n v =>
    simp only [chkI, Bool.and_eq_true, Bool.or_eq_true, decide_eq_true_eq] at hi
    obtain ⟨⟨⟨e1, h2⟩, h3⟩, h4⟩ := hi
    obtain ⟨e1, hd9⟩ := chk_n hd e1
    clear hd
    have hd := hd9
    subst e1
    have h3 := ble_e h3
    have h2 := beq_e h2
    subst h2
    subst h4
    simp only [stpx] at hs
    split at hs
    · rename_i z hz
      cases hs
      intro H locs ls hH hX hl hn hL hS
      have hm : (n, Value.int (Int32.ofInt z)) ∈ asc ad L := asc_mem.mpr ⟨_, hz, rfl⟩
      obtain ⟨ix, hix⟩ := List.getElem?_of_mem hm
      refine lv_iinc (v := Int32.ofInt (wr (z + v))) hx hb hd hl.has hix (by rw [of_wr, Int32.ofInt_add]) (by omega) rfl (fun ls' h' => ?_)
      exact J H locs ls' hH hX (lrel.st1 (v := .inl (wr (z + v))) h') (by rw [lst1_len]; exact hn) (hL.st1 (wr_ok _)) hS
    · cases hs
  | iadd =>
    simp only [chkI, Bool.and_eq_true, Bool.or_eq_true, decide_eq_true_eq] at hi
    obtain ⟨e1, hd9⟩ := chk_n hd hi
    clear hd
    have hd := hd9
    subst e1
    exact jx_op2 (F := fun x y => x + y) (fun x y => by rw [of_wr, Int32.ofInt_add]) (fun x y => wr_ok _) hs J (fun H locs ls rest x y h => lv_iadd hx hb hd h)
  | isub =>
    simp only [chkI, Bool.and_eq_true, Bool.or_eq_true, decide_eq_true_eq] at hi
    obtain ⟨e1, hd9⟩ := chk_n hd hi
    clear hd
    have hd := hd9
    subst e1
    exact jx_op2 (F := fun x y => x - y) (fun x y => by rw [of_wr, Int32.ofInt_sub]) (fun x y => wr_ok _) hs J (fun H locs ls rest x y h => lv_isub hx hb hd h)
  | imul =>
    simp only [chkI, Bool.and_eq_true, Bool.or_eq_true, decide_eq_true_eq] at hi
    obtain ⟨e1, hd9⟩ := chk_n hd hi
    clear hd
    have hd := hd9
    subst e1
    exact jx_op2 (F := fun x y => x * y) (fun x y => by rw [of_wr, Int32.ofInt_mul]) (fun x y => wr_ok _) hs J (fun H locs ls rest x y h => lv_imul hx hb hd h)
  | iand =>
    simp only [chkI, Bool.and_eq_true, Bool.or_eq_true, decide_eq_true_eq] at hi
    obtain ⟨e1, hd9⟩ := chk_n hd hi
    clear hd
    have hd := hd9
    subst e1
    exact jx_op2 (F := fun x y => x &&& y) (fun x y => (Int32.ofInt_toInt _).symm) (fun x y => i32_ok _) hs J (fun H locs ls rest x y h => lv_iand hx hb hd h)
  | ior =>
    simp only [chkI, Bool.and_eq_true, Bool.or_eq_true, decide_eq_true_eq] at hi
    obtain ⟨e1, hd9⟩ := chk_n hd hi
    clear hd
    have hd := hd9
    subst e1
    exact jx_op2 (F := fun x y => x ||| y) (fun x y => (Int32.ofInt_toInt _).symm) (fun x y => i32_ok _) hs J (fun H locs ls rest x y h => lv_ior hx hb hd h)
  | ixor =>
    simp only [chkI, Bool.and_eq_true, Bool.or_eq_true, decide_eq_true_eq] at hi
    obtain ⟨e1, hd9⟩ := chk_n hd hi
    clear hd
    have hd := hd9
    subst e1
    exact jx_op2 (F := fun x y => x ^^^ y) (fun x y => (Int32.ofInt_toInt _).symm) (fun x y => i32_ok _) hs J (fun H locs ls rest x y h => lv_ixor hx hb hd h)
  | ishl =>
    simp only [chkI, Bool.and_eq_true, Bool.or_eq_true, decide_eq_true_eq] at hi
    obtain ⟨e1, hd9⟩ := chk_n hd hi
    clear hd
    have hd := hd9
    subst e1
    exact jx_op2 (F := fun x y => x <<< (y &&& 31)) (fun x y => (Int32.ofInt_toInt _).symm) (fun x y => i32_ok _) hs J (fun H locs ls rest x y h => lv_ishl hx hb hd h)
  | ishr =>
    simp only [chkI, Bool.and_eq_true, Bool.or_eq_true, decide_eq_true_eq] at hi
    obtain ⟨e1, hd9⟩ := chk_n hd hi
    clear hd
    have hd := hd9
    subst e1
    exact jx_op2 (F := fun x y => x >>> (y &&& 31)) (fun x y => (Int32.ofInt_toInt _).symm) (fun x y => i32_ok _) hs J (fun H locs ls rest x y h => lv_ishr hx hb hd h)
  | iushr =>
    simp only [chkI, Bool.and_eq_true, Bool.or_eq_true, decide_eq_true_eq] at hi
    obtain ⟨e1, hd9⟩ := chk_n hd hi
    clear hd
    have hd := hd9
    subst e1
    exact jx_op2 (F := fun x y => (x.toUInt32 >>> (y.toUInt32 &&& Int32.toUInt32 31)).toInt32) (fun x y => (Int32.ofInt_toInt _).symm) (fun x y => i32_ok _) hs J (fun H locs ls rest x y h => lv_iushr hx hb hd rfl h)
  | idiv =>
    simp only [chkI, Bool.and_eq_true, Bool.or_eq_true, decide_eq_true_eq] at hi
    obtain ⟨e1, hd9⟩ := chk_n hd hi
    clear hd
    have hd := hd9
    subst e1
    simp only [stpx] at hs
    split at hs
    · rename_i y z r
      split at hs
      · cases hs
      · rename_i hy0
        cases hs
        intro H locs ls hH hX hl hn hL hS
        have hy : okI y := hS.hd
        refine lv_idiv hx hb hd (fun h9 => hy0 ?_) ?_
        · rw [← i32_0, i32_eq hy okI_0] at h9; exact h9
        · refine jx_i (pc := pc) (v := .inl (jdiv z y)) J (i32_ok _) hS.tl.tl hH hX hl hn hL ?_
          exact congrArg Value.int (Int32.ofInt_toInt _).symm
    · cases hs
  | irem =>
    simp only [chkI, Bool.and_eq_true, Bool.or_eq_true, decide_eq_true_eq] at hi
    obtain ⟨e1, hd9⟩ := chk_n hd hi
    clear hd
    have hd := hd9
    subst e1
    simp only [stpx] at hs
    split at hs
    · rename_i y z r
      split at hs
      · cases hs
      · rename_i hy0
        cases hs
        intro H locs ls hH hX hl hn hL hS
        have hy : okI y := hS.hd
        refine lv_irem hx hb hd (fun h9 => hy0 ?_) ?_
        · rw [← i32_0, i32_eq hy okI_0] at h9; exact h9
        · refine jx_i (pc := pc) (v := .inl (jrem z y)) J (i32_ok _) hS.tl.tl hH hX hl hn hL ?_
          exact congrArg Value.int (Int32.ofInt_toInt _).symm
    · cases hs
  | ladd =>
    simp only [chkI, Bool.and_eq_true, Bool.or_eq_true, decide_eq_true_eq] at hi
    obtain ⟨e1, hd9⟩ := chk_n hd hi
    clear hd
    have hd := hd9
    subst e1
    exact jx_op2l (F := fun x y => x + y) (fun x y => by rw [of_wl, Int64.ofInt_add]) (fun x y => wl_ok _) hs J (fun H locs ls rest x y h => lv_ladd hx hb hd h)
  | lmul =>
    simp only [chkI, Bool.and_eq_true, Bool.or_eq_true, decide_eq_true_eq] at hi
    obtain ⟨e1, hd9⟩ := chk_n hd hi
    clear hd
    have hd := hd9
    subst e1
    exact jx_op2l (F := fun x y => x * y) (fun x y => by rw [of_wl, Int64.ofInt_mul]) (fun x y => wl_ok _) hs J (fun H locs ls rest x y h => lv_lmul hx hb hd h)
  | lor =>
    simp only [chkI, Bool.and_eq_true, Bool.or_eq_true, decide_eq_true_eq] at hi
    obtain ⟨e1, hd9⟩ := chk_n hd hi
    clear hd
    have hd := hd9
    subst e1
    exact jx_op2l (F := fun x y => x ||| y) (fun x y => (Int64.ofInt_toInt _).symm) (fun x y => i64_ok _) hs J (fun H locs ls rest x y h => lv_lor hx hb hd h)
  | land =>
    simp only [chkI, Bool.and_eq_true, Bool.or_eq_true, decide_eq_true_eq] at hi
    obtain ⟨e1, hd9⟩ := chk_n hd hi
    clear hd
    have hd := hd9
    subst e1
    exact jx_op2l (F := fun x y => x &&& y) (fun x y => (Int64.ofInt_toInt _).symm) (fun x y => i64_ok _) hs J (fun H locs ls rest x y h => lv_land hx hb hd h)
  | lshl =>
    simp only [chkI, Bool.and_eq_true, Bool.or_eq_true, decide_eq_true_eq] at hi
    obtain ⟨e1, hd9⟩ := chk_n hd hi
    clear hd
    have hd := hd9
    subst e1
    simp only [stpx] at hs
    split at hs
    · rename_i y z r
      cases hs
      intro H locs ls hH hX hl hn hL hS
      refine lv_lshl hx hb hd rfl ?_
      refine jx_i (pc := pc) (v := .inr (.inl (mshl z y))) J (i64_ok _) hS.tl.tl hH hX hl hn hL ?_
      exact congrArg Value.long (Int64.ofInt_toInt _).symm
    · cases hs
  | lshr =>
    simp only [chkI, Bool.and_eq_true, Bool.or_eq_true, decide_eq_true_eq] at hi
    obtain ⟨e1, hd9⟩ := chk_n hd hi
    clear hd
    have hd := hd9
    subst e1
    simp only [stpx] at hs
    split at hs
    · rename_i y z r
      cases hs
      intro H locs ls hH hX hl hn hL hS
      refine lv_lshr hx hb hd rfl ?_
      refine jx_i (pc := pc) (v := .inr (.inl (mshr z y))) J (i64_ok _) hS.tl.tl hH hX hl hn hL ?_
      exact congrArg Value.long (Int64.ofInt_toInt _).symm
    · cases hs
  | lcmp =>
    simp only [chkI, Bool.and_eq_true, Bool.or_eq_true, decide_eq_true_eq] at hi
    obtain ⟨e1, hd9⟩ := chk_n hd hi
    clear hd
    have hd := hd9
    subst e1
    simp only [stpx] at hs
    split at hs
    · rename_i y z r
      cases hs
      intro H locs ls hH hX hl hn hL hS
      refine W.lcmp hx hb hd ?_
      refine jx_i (pc := pc) (v := .inl (mcmp z y)) J (mcmp_ok _ _) hS.tl.tl hH hX hl hn hL ?_
      exact congrArg Value.int (mcmp_lg hS.tl.hd hS.hd)
    · cases hs
  | i2l =>
    simp only [chkI, Bool.and_eq_true, Bool.or_eq_true, decide_eq_true_eq] at hi
    obtain ⟨e1, hd9⟩ := chk_n hd hi
    clear hd
    have hd := hd9
    subst e1
    simp only [stpx] at hs
    split at hs
    · rename_i z r
      cases hs
      intro H locs ls hH hX hl hn hL hS
      have hz : okI z := hS.hd
      refine lv_i2l hx hb hd rfl ?_
      exact jx_i (pc := pc) (v := .inr (.inl z)) J (okI_J hz) hS.tl hH hX hl hn hL (congrArg Value.long (i64_of32 hz))
    · cases hs
  | i2b =>
    simp only [chkI, Bool.and_eq_true, Bool.or_eq_true, decide_eq_true_eq] at hi
    obtain ⟨e1, hd9⟩ := chk_n hd hi
    clear hd
    have hd := hd9
    subst e1
    simp only [stpx] at hs
    split at hs
    · rename_i z r
      cases hs
      intro H locs ls hH hX hl hn hL hS
      have hz : okI z := hS.hd
      refine lv_i2b hx hb hd rfl ?_
      exact jx_i (pc := pc) (v := .inl (jb z)) J (i32_ok _) hS.tl hH hX hl hn hL (congrArg Value.int (Int32.ofInt_toInt _).symm)
    · cases hs
  | i2s =>
    simp only [chkI, Bool.and_eq_true, Bool.or_eq_true, decide_eq_true_eq] at hi
    obtain ⟨e1, hd9⟩ := chk_n hd hi
    clear hd
    have hd := hd9
    subst e1
    simp only [stpx] at hs
    split at hs
    · rename_i z r
      cases hs
      intro H locs ls hH hX hl hn hL hS
      have hz : okI z := hS.hd
      refine lv_i2s hx hb hd rfl ?_
      exact jx_i (pc := pc) (v := .inl (js z)) J (i32_ok _) hS.tl hH hX hl hn hL (congrArg Value.int (Int32.ofInt_toInt _).symm)
    · cases hs
  | dup =>
    simp only [chkI, Bool.and_eq_true, Bool.or_eq_true, decide_eq_true_eq] at hi
    obtain ⟨e1, hd9⟩ := chk_n hd hi
    clear hd
    have hd := hd9
    subst e1
    simp only [stpx] at hs
    split at hs
    · cases hs
      intro H locs ls hH hX hl hn hL hS
      exact lv_dup hx hb hd rfl (J H locs ls hH hX hl hn hL (hS.cons hS.hd))
    · cases hs
      intro H locs ls hH hX hl hn hL hS
      exact lv_dup hx hb hd rfl (J H locs ls hH hX hl hn hL (hS.cons hS.hd))
    · cases hs
  | dup2 =>
    simp only [chkI, Bool.and_eq_true, Bool.or_eq_true, decide_eq_true_eq] at hi
    obtain ⟨e1, hd9⟩ := chk_n hd hi
    clear hd
    have hd := hd9
    subst e1
    simp only [stpx] at hs
    split at hs
    · cases hs
      intro H locs ls hH hX hl hn hL hS
      exact lv_dup2_11 hx hb hd rfl rfl (J H locs ls hH hX hl hn hL ((hS.cons hS.tl.hd).cons hS.hd))
    · cases hs
  | goto off =>
    simp only [chkI, Bool.and_eq_true, Bool.or_eq_true, decide_eq_true_eq] at hi
    obtain ⟨e1, h2⟩ := hi
    obtain ⟨e1, hd9⟩ := chk_n hd e1
    clear hd
    have hd := hd9
    subst e1
    cases hs
    intro H locs ls hH hX hl hn hL hS
    exact lv_goto hx hb hd h2 (J H locs ls hH hX hl hn hL hS)
  | if_icmp cc off =>
    simp only [chkI, Bool.and_eq_true, Bool.or_eq_true, decide_eq_true_eq] at hi
    obtain ⟨e1, h2⟩ := hi
    obtain ⟨e1, hd9⟩ := chk_n hd e1
    clear hd
    have hd := hd9
    simp only [stpx] at hs
    split at hs
    · exact jx_icmp hx hb hd e1 h2 hs J
    · cases hs
  | ifCond cc off =>
    simp only [chkI, Bool.and_eq_true, Bool.or_eq_true, decide_eq_true_eq] at hi
    obtain ⟨e1, h2⟩ := hi
    obtain ⟨e1, hd9⟩ := chk_n hd e1
    clear hd
    have hd := hd9
    simp only [stpx] at hs
    split at hs
    · exact jx_ifc hx hb hd e1 h2 hs J
    · cases hs
  | tableswitch d lo hi9 offs =>
    simp only [chkI, Bool.and_eq_true, Bool.or_eq_true, decide_eq_true_eq] at hi
    obtain ⟨⟨⟨h1, h2⟩, h3⟩, h4⟩ := hi
    simp only [List.all_eq_true, decide_eq_true_eq] at h2
    simp only [stpx] at hs
    split at hs
    · rename_i z r
      cases hs
      intro H locs ls hH hX hl hn hL hS
      have hz : okI z := hS.hd
      by_cases hzz : z < lo ∨ hi9 < z
      · refine lv_tableOut hx hb hd (by rw [i32_id hz]; exact hzz) (tgt := tsw pc d lo hi9 offs z) ?_ (J H locs ls hH hX hl hn hL hS.tl)
        simp only [tsw, hzz, if_true]
        omega
      · have hlt : (z - lo).toNat < offs.toList.length := by omega
        have hget : offs.toList[(z - lo).toNat]? = some (offs.toList[(z - lo).toNat]) := List.getElem?_eq_getElem hlt
        have h0 := h2 _ (List.getElem_mem hlt)
        refine lv_tableIn hx hb hd (by rw [i32_id hz]; omega) (by rw [i32_id hz]; omega) (off := offs.toList[(z - lo).toNat]) (by rw [i32_id hz, ← Array.getElem?_toList]; exact hget) (tgt := tsw pc d lo hi9 offs z) ?_ (J H locs ls hH hX hl hn hL hS.tl)
        simp only [tsw, hzz, if_false]
        rw [List.getD_eq_getElem?_getD, hget]
        simp only [Option.getD_some]
        omega
    · cases hs
  | getfield i =>
    simp only [chkI, Bool.and_eq_true, Bool.or_eq_true, decide_eq_true_eq] at hi
    obtain ⟨e1, h2⟩ := hi
    obtain ⟨e1, hd9⟩ := chk_n hd e1
    clear hd
    have hd := hd9
    exact snd_get hK hC2 hd e1 h2 hs J
  | putfield i =>
    simp only [chkI, Bool.and_eq_true, Bool.or_eq_true, decide_eq_true_eq] at hi
    obtain ⟨⟨e1, h2⟩, h3⟩ := hi
    obtain ⟨e1, hd9⟩ := chk_n hd e1
    clear hd
    have hd := hd9
    exact snd_put hK hC2 hd e1 h2 h3 hs J
  | iaload =>
    simp only [chkI, Bool.and_eq_true, Bool.or_eq_true, decide_eq_true_eq] at hi
    obtain ⟨e1, h2⟩ := hi
    obtain ⟨e1, hd9⟩ := chk_n hd e1
    clear hd
    have hd := hd9
    exact snd_ald hC2 hd e1 (h2.imp beq_e beq_e) hs J
  | laload =>
    simp only [chkI, Bool.and_eq_true, Bool.or_eq_true, decide_eq_true_eq] at hi
    obtain ⟨e1, h2⟩ := hi
    obtain ⟨e1, hd9⟩ := chk_n hd e1
    clear hd
    have hd := hd9
    exact snd_lald hC2 hd e1 (beq_e h2) hs J
  | iastore =>
    simp only [chkI, Bool.and_eq_true, Bool.or_eq_true, decide_eq_true_eq] at hi
    obtain ⟨e1, hd9⟩ := chk_n hd hi
    clear hd
    have hd := hd9
    simp only [stpx] at hs
    split at hs
    · exact snd_ast hC2 hd e1 hs J
    · cases hs
  | lastore =>
    simp only [chkI, Bool.and_eq_true, Bool.or_eq_true, decide_eq_true_eq] at hi
    obtain ⟨e1, hd9⟩ := chk_n hd hi
    clear hd
    have hd := hd9
    simp only [stpx] at hs
    split at hs
    · exact snd_last hC2 hd e1 hs J
    · cases hs
  | arraylength =>
    simp only [chkI, Bool.and_eq_true, Bool.or_eq_true, decide_eq_true_eq] at hi
    obtain ⟨e1, h2⟩ := hi
    obtain ⟨e1, hd9⟩ := chk_n hd e1
    clear hd
    have hd := hd9
    exact snd_alen hC2 hd e1 (h2.imp beq_e beq_e) hs J
  | invokestatic i =>
    have hle : Nat.ble a kL = false := hcall
    simp only [chkI, hle, if_true, mathOk, Bool.and_eq_true] at hi
    obtain ⟨e1, ⟨hf, ho⟩, hm⟩ := hi
    obtain ⟨e1, hd9⟩ := chk_n hd e1
    clear hd
    have hd := hd9
    subst e1
    have hf := ble_e hf
    have ho := ble_e ho
    simp only [stpx] at hs
    split at hs
    · rename_i y z r
      split at hs
      · rename_i h8
        have h8 := ble_e h8
        cases hs
        intro H locs ls hH hX hl hn hL hS
        have hy : okI y := hS.hd
        have hz : okI z := hS.tl.hd
        have hw8 : ((r.map (tr ad)).map fun v => v.category).sum + 13 ≤ R.locals := by
          rw [List.map_map]
          have : ((fun v : Value => v.category) ∘ tr ad) = cat := by funext v; exact tr_cat ad v
          rw [this]
          have := hR.2
          omega
        by_cases ha : a = kL + 1
        · rw [if_pos ha] at hm
          simp only [Bool.and_eq_true] at hm
          refine va_mmax hx hb (by rw [hml, hl.1, hn]) hown (hts _ (wAt_in hm.1.1.1)) (hts _ (wAt_in hm.1.1.2)) (hts _ (wAt_in hm.2)) (hts _ (wAt_in hm.1.2)) (Nat.le_trans hf hR.1) hw8 hcs.1 hcs.2 hd ?_
          have hb9 : Nat.beq a (kL + 1) = true := by rw [ha]; rfl
          refine jx_i (pc := pc) (v := .inl (cond (Nat.beq a (kL + 1)) (imax z y) (imin z y))) J ?_ hS.tl.tl hH hX hl hn hL ?_
          · rw [hb9]; show okI (imax z y); unfold imax; split <;> assumption
          · rw [hb9]; show _ = Value.int (Int32.ofInt (imax z y)); unfold imax; simp only [i32_lt hz hy]; split <;> rfl
        · rw [if_neg ha] at hm
          simp only [Bool.and_eq_true] at hm
          refine va_mmin hx hb (by rw [hml, hl.1, hn]) hown (hts _ (wAt_in hm.1.1.1)) (hts _ (wAt_in hm.1.1.2)) (hts _ (wAt_in hm.2)) (hts _ (wAt_in hm.1.2)) (Nat.le_trans hf hR.1) hw8 hcs.1 hcs.2 hd ?_
          have hb9 : Nat.beq a (kL + 1) = false := by
            cases h9 : Nat.beq a (kL + 1) with
            | false => rfl
            | true => exact absurd (beq_e h9) ha
          refine jx_i (pc := pc) (v := .inl (cond (Nat.beq a (kL + 1)) (imax z y) (imin z y))) J ?_ hS.tl.tl hH hX hl hn hL ?_
          · rw [hb9]; show okI (imin z y); unfold imin; split <;> assumption
          · rw [hb9]; show _ = Value.int (Int32.ofInt (imin z y)); unfold imin; simp only [i32_lt hy hz]; split <;> rfl
      · cases hs
    · cases hs
  | _ => exact absurd (show (none : Option Stx) = some q from hs) (by simp)
end SND5
