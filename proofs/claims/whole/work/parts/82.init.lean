/-! Constructors, printed by wip/gen/gen_init.py. -/
theorem blX0 : ∀ j, j < 5 → defaultValue (tyX0 j) = vp_V [.null, .null, .null, .null, .int 0] j := fun j hj => match j, hj with
  | 0, _ => rfl
  | 1, _ => rfl
  | 2, _ => rfl
  | 3, _ => rfl
  | 4, _ => rfl
  | k + 5, h => absurd h (by omega)
theorem blX1 : ∀ j, j < 17 → defaultValue (tyX1 j) = vp_V [.null, .null, .null, .null, .null, .null, .null, .null, .null, .int 0, .int 0, .int 0, .int 0, .int 0, .int 0, .int 0, .int 0] j := fun j hj => match j, hj with
  | 0, _ => rfl
  | 1, _ => rfl
  | 2, _ => rfl
  | 3, _ => rfl
  | 4, _ => rfl
  | 5, _ => rfl
  | 6, _ => rfl
  | 7, _ => rfl
  | 8, _ => rfl
  | 9, _ => rfl
  | 10, _ => rfl
  | 11, _ => rfl
  | 12, _ => rfl
  | 13, _ => rfl
  | 14, _ => rfl
  | 15, _ => rfl
  | 16, _ => rfl
  | k + 17, h => absurd h (by omega)
theorem blX2 : ∀ j, j < 8 → defaultValue (tyX2 j) = vp_V [.null, .null, .null, .null, .null, .int 0, .int 0, .int 0] j := fun j hj => match j, hj with
  | 0, _ => rfl
  | 1, _ => rfl
  | 2, _ => rfl
  | 3, _ => rfl
  | 4, _ => rfl
  | 5, _ => rfl
  | 6, _ => rfl
  | 7, _ => rfl
  | k + 8, h => absurd h (by omega)
theorem blX3 : ∀ j, j < 3 → defaultValue (tyX3 j) = vp_V [.null, .null, .null] j := fun j hj => match j, hj with
  | 0, _ => rfl
  | 1, _ => rfl
  | 2, _ => rfl
  | k + 3, h => absurd h (by omega)
theorem blX4 : ∀ j, j < 10 → defaultValue (tyX4 j) = vp_V [.null, .null, .null, .null, .int 0, .int 0, .int 0, .int 0, .int 0, .int 0] j := fun j hj => match j, hj with
  | 0, _ => rfl
  | 1, _ => rfl
  | 2, _ => rfl
  | 3, _ => rfl
  | 4, _ => rfl
  | 5, _ => rfl
  | 6, _ => rfl
  | 7, _ => rfl
  | 8, _ => rfl
  | 9, _ => rfl
  | k + 10, h => absurd h (by omega)
theorem blX5 : ∀ j, j < 10 → defaultValue (tyX5 j) = vp_V [.null, .null, .null, .null, .null, .null, .null, .int 0, .int 0, .int 0] j := fun j hj => match j, hj with
  | 0, _ => rfl
  | 1, _ => rfl
  | 2, _ => rfl
  | 3, _ => rfl
  | 4, _ => rfl
  | 5, _ => rfl
  | 6, _ => rfl
  | 7, _ => rfl
  | 8, _ => rfl
  | 9, _ => rfl
  | k + 10, h => absurd h (by omega)
theorem blX6 : ∀ j, j < 1 → defaultValue (tyX6 j) = vp_V [.null] j := fun j hj => match j, hj with
  | 0, _ => rfl
  | k + 1, h => absurd h (by omega)
theorem blX7 : ∀ j, j < 9 → defaultValue (tyX7 j) = vp_V [.null, .null, .null, .null, .null, .int 0, .int 0, .int 0, .int 0] j := fun j hj => match j, hj with
  | 0, _ => rfl
  | 1, _ => rfl
  | 2, _ => rfl
  | 3, _ => rfl
  | 4, _ => rfl
  | 5, _ => rfl
  | 6, _ => rfl
  | 7, _ => rfl
  | 8, _ => rfl
  | k + 9, h => absurd h (by omega)
theorem blX8 : ∀ j, j < 3 → defaultValue (tyX8 j) = vp_V [.null, .null, .null] j := fun j hj => match j, hj with
  | 0, _ => rfl
  | 1, _ => rfl
  | 2, _ => rfl
  | k + 3, h => absurd h (by omega)
theorem blX9 : ∀ j, j < 13 → defaultValue (tyX9 j) = vp_V [.null, .null, .null, .null, .null, .null, .null, .null, .null, .null, .int 0, .int 0, .int 0] j := fun j hj => match j, hj with
  | 0, _ => rfl
  | 1, _ => rfl
  | 2, _ => rfl
  | 3, _ => rfl
  | 4, _ => rfl
  | 5, _ => rfl
  | 6, _ => rfl
  | 7, _ => rfl
  | 8, _ => rfl
  | 9, _ => rfl
  | 10, _ => rfl
  | 11, _ => rfl
  | 12, _ => rfl
  | k + 13, h => absurd h (by omega)
theorem blX10 : ∀ j, j < 4 → defaultValue (tyX10 j) = vp_V [.null, .int 0, .int 0, .int 0] j := fun j hj => match j, hj with
  | 0, _ => rfl
  | 1, _ => rfl
  | 2, _ => rfl
  | 3, _ => rfl
  | k + 4, h => absurd h (by omega)
theorem blX11 : ∀ j, j < 13 → defaultValue (tyX11 j) = vp_V [.null, .null, .null, .null, .null, .null, .null, .null, .null, .null, .null, .int 0, .int 0] j := fun j hj => match j, hj with
  | 0, _ => rfl
  | 1, _ => rfl
  | 2, _ => rfl
  | 3, _ => rfl
  | 4, _ => rfl
  | 5, _ => rfl
  | 6, _ => rfl
  | 7, _ => rfl
  | 8, _ => rfl
  | 9, _ => rfl
  | 10, _ => rfl
  | 11, _ => rfl
  | 12, _ => rfl
  | k + 13, h => absurd h (by omega)
theorem blX12 : ∀ j, j < 50 → defaultValue (tyX12 j) = vp_V [.null, .null, .null, .null, .int 0, .null, .null, .int 0, .int 0, .int 0, .null, .null, .null, .null, .null, .null, .int 0, .int 0, .int 0, .null, .int 0, .int 0, .null, .null, .null, .null, .int 0, .null, .null, .null, .null, .null, .null, .null, .null, .int 0, .int 0, .null, .null, .null, .null, .null, .null, .int 0, .int 0, .null, .null, .null, .int 0, .null] j := fun j hj => match j, hj with
  | 0, _ => rfl
  | 1, _ => rfl
  | 2, _ => rfl
  | 3, _ => rfl
  | 4, _ => rfl
  | 5, _ => rfl
  | 6, _ => rfl
  | 7, _ => rfl
  | 8, _ => rfl
  | 9, _ => rfl
  | 10, _ => rfl
  | 11, _ => rfl
  | 12, _ => rfl
  | 13, _ => rfl
  | 14, _ => rfl
  | 15, _ => rfl
  | 16, _ => rfl
  | 17, _ => rfl
  | 18, _ => rfl
  | 19, _ => rfl
  | 20, _ => rfl
  | 21, _ => rfl
  | 22, _ => rfl
  | 23, _ => rfl
  | 24, _ => rfl
  | 25, _ => rfl
  | 26, _ => rfl
  | 27, _ => rfl
  | 28, _ => rfl
  | 29, _ => rfl
  | 30, _ => rfl
  | 31, _ => rfl
  | 32, _ => rfl
  | 33, _ => rfl
  | 34, _ => rfl
  | 35, _ => rfl
  | 36, _ => rfl
  | 37, _ => rfl
  | 38, _ => rfl
  | 39, _ => rfl
  | 40, _ => rfl
  | 41, _ => rfl
  | 42, _ => rfl
  | 43, _ => rfl
  | 44, _ => rfl
  | 45, _ => rfl
  | 46, _ => rfl
  | 47, _ => rfl
  | 48, _ => rfl
  | 49, _ => rfl
  | k + 50, h => absurd h (by omega)
abbrev w_X10_160 (cI cJ : ClassId) (h0 : Nat) (u : Nat → Nat) : va_W := [(h0, .inr (10, [.ref (u 0), .int 160, .int 0, .int 0])), ((u 0), .inr (6, [.ref (u 1)])), ((u 1), .inl (cI, 160, .inl (fun _ => 0)))]
set_option maxRecDepth 100000 in
set_option maxHeartbeats 8000000 in
theorem ci_X10_160 (hCK : CHK) (l : Launch) (D : va_G) (cI cJ : ClassId) (h0 sz : Nat) : Met l yX10_init (wkz yX10_init cX10_init 2) ({ frames := 2, cells := 2, slots := 161, locals := 42 }) (va_Pc [.ref h0, .int 160] (IPre D cI cJ h0 (.inr (10, [.null, .int 0, .int 0, .int 0])) sz)) (IQ D cI cJ h0 (.inr (10, [.null, .int 0, .int 0, .int 0])) sz (w_X10_160 cI cJ h0)) 2 161 (va_A [(h0, (.inr (10, [.null, .int 0, .int 0, .int 0])))] sz) := by
  refine Met.ofW (cc := cX10_init) (maxL := 2) (ret := none) (by decide) rfl ?_
  intro p e s m args below meth c s₁ B hml hv
  obtain ⟨rfl, hsz, hP, hK, hD0, hN⟩ := hv
  have hts := atoms_spec (ws := wkz yX10_init cX10_init 2) B.pre
  have hown : s.vm.findClass RX10 = some m.cls := findClass_of_methodNamed B.named
  have hin : meth.name = "<init>" := (name_of_methodNamed B.named B.method).1
  have hr := B.returns
  have hlocks := B.notSynchronized
  have C : CI p s m ([.ref h0, .int 160] : List Value).toArray c D cI cJ RX10 cX10_init 2 := ⟨B.exec, B.bytes, hml, hown, fun w hw => hts w (List.mem_cons_of_mem _ hw), hK, hN, hCK⟩
  subst hsz
  have hD := hD0.self (sz := s.heap.size)
  unfold IQ
  generalize hAe : va_A [(h0, (.inr (10, [.null, .int 0, .int 0, .int 0])))] s.heap.size = A at hD ⊢
  have hA : ∀ q : Nat, s.heap.size ≤ q → A q := fun q h => by rw [← hAe]; exact Or.inr h
  have hl := lv_entry ([.ref h0, .int 160]) (n := 2) (Nat.le_of_ble_eq_true rfl)
  rw [lg_entry_eq]
  generalize (lg_sl ([.ref h0, .int 160]) ++ List.replicate (2 - (lg_sl ([.ref h0, .int 160])).length) Slot.unset).toArray = ls at hl ⊢
  have hl : lv_has ls 2 [(0, .ref h0), (1, .int 160)] := hl
  suffices hz : ZW p l e ({ frames := 2, cells := 2, slots := 161, locals := 42 }) s m ([.ref h0, .int 160] : List Value).toArray below meth c _ D A s.heap [(h0, (.inr (10, [.null, .int 0, .int 0, .int 0])))] 0 0 0 ls [] from hz s.heap [] hP hD va_S.rf
  refine z_al C (k := 0) (by decide +kernel) rfl (lv_at hl 0 rfl) ?_
  refine z_oi C (idx := 3) (wAt_in (p := 119) (by decide +kernel)) (wAt_in (p := 112) (by decide +kernel)) (wAt_in (p := 113) (by decide +kernel)) hl.1 (by decide +kernel) (Nat.le_of_ble_eq_true rfl) (Nat.le_of_ble_eq_true rfl) ?_
  refine z_al C (k := 0) (by decide +kernel) rfl (lv_at hl 0 rfl) ?_
  refine z_il C (k := 1) (by decide +kernel) rfl (lv_at hl 1 rfl) ?_
  refine z_pf C hin (idx := 9) 0 1 rfl rfl (by decide) (wAt_in (p := 135) (by decide +kernel)) rfl rfl (tyX10 1) (tyX10_ok 1 (by decide)) rfl rfl (Nat.le_of_ble_eq_true rfl) (by decide +kernel) ?_
  change ZW _ _ _ _ _ _ _ _ _ _ _ _ _ _ [(h0, .inr (10, [.null, .int 160, .int 0, .int 0]))] _ _ _ _ _
  refine z_al C (k := 0) (by decide +kernel) rfl (lv_at hl 0 rfl) ?_
  refine z_new C hA (idx := 15) 6 tyX6 [.null] rfl tyX6_ok blX6 (wAt_in (p := 120) (by decide +kernel)) (wAt_in (p := 121) (by decide +kernel)) (wAt_in (p := 93) (by decide +kernel)) (by decide +kernel) ⟨Nat.le_of_ble_eq_true rfl, Nat.le_of_ble_eq_true rfl⟩ (fun q1 => ?_)
  refine z_dup C (by decide +kernel) rfl ?_
  refine z_il C (k := 1) (by decide +kernel) rfl (lv_at hl 1 rfl) ?_
  refine z_call C hA (idx := 17) (As := [.int 160]) (fun sz => ci_X6 hCK l D cI cJ q1 sz 160 (by decide)) rfl rfl (wAt_in (p := 124) (by decide +kernel)) (wAt_in (p := 93) (by decide +kernel)) (wAt_in (p := 123) (by decide +kernel)) (Or.inl (wAt_in (p := 122) (by decide +kernel))) rfl ⟨by decide +kernel, by decide +kernel, by decide +kernel⟩ ⟨Nat.le_of_ble_eq_true rfl, Nat.le_of_ble_eq_true rfl⟩ hl.1 (Nat.le_of_ble_eq_true rfl) (by decide +kernel) ⟨Nat.le_of_ble_eq_true rfl, Nat.le_of_ble_eq_true rfl⟩ (fun u1 => ?_)
  change ZW _ _ _ _ _ _ _ _ _ _ _ _ _ _ [(h0, .inr (10, [.null, .int 160, .int 0, .int 0])), (q1, .inr (6, [.ref (u1 0)])), ((u1 0), .inl (cI, 160, .inl (fun _ => 0)))] _ _ _ _ _
  refine z_pf C hin (idx := 20) 0 0 rfl rfl (by decide) (wAt_in (p := 134) (by decide +kernel)) rfl rfl (tyX10 0) (tyX10_ok 0 (by decide)) rfl rfl (Nat.le_of_ble_eq_true rfl) (by decide +kernel) ?_
  change ZW _ _ _ _ _ _ _ _ _ _ _ _ _ _ [(h0, .inr (10, [.ref q1, .int 160, .int 0, .int 0])), (q1, .inr (6, [.ref (u1 0)])), ((u1 0), .inl (cI, 160, .inl (fun _ => 0)))] _ _ _ _ _
  intro H locs hP hD hS
  refine W.widen (k := 2) (n := 161) (Nat.le_of_ble_eq_true rfl) (Nat.le_of_ble_eq_true rfl) ?_
  exact W.vret C.1 C.2.1 hr (fun t ht hW => ⟨⟨fun k => ([q1, (u1 0)] : List Nat).getD k 0, rfl, trivial, by rw [ht]; exact hP, va_K.moved hW.alike hK, hD⟩, hS.F ht⟩) hS.2.2 (by decide +kernel)
abbrev w_X10_80 (cI cJ : ClassId) (h0 : Nat) (u : Nat → Nat) : va_W := [(h0, .inr (10, [.ref (u 0), .int 80, .int 0, .int 0])), ((u 0), .inr (6, [.ref (u 1)])), ((u 1), .inl (cI, 80, .inl (fun _ => 0)))]
set_option maxRecDepth 100000 in
set_option maxHeartbeats 8000000 in
theorem ci_X10_80 (hCK : CHK) (l : Launch) (D : va_G) (cI cJ : ClassId) (h0 sz : Nat) : Met l yX10_init (wkz yX10_init cX10_init 2) ({ frames := 2, cells := 2, slots := 81, locals := 42 }) (va_Pc [.ref h0, .int 80] (IPre D cI cJ h0 (.inr (10, [.null, .int 0, .int 0, .int 0])) sz)) (IQ D cI cJ h0 (.inr (10, [.null, .int 0, .int 0, .int 0])) sz (w_X10_80 cI cJ h0)) 2 81 (va_A [(h0, (.inr (10, [.null, .int 0, .int 0, .int 0])))] sz) := by
  refine Met.ofW (cc := cX10_init) (maxL := 2) (ret := none) (by decide) rfl ?_
  intro p e s m args below meth c s₁ B hml hv
  obtain ⟨rfl, hsz, hP, hK, hD0, hN⟩ := hv
  have hts := atoms_spec (ws := wkz yX10_init cX10_init 2) B.pre
  have hown : s.vm.findClass RX10 = some m.cls := findClass_of_methodNamed B.named
  have hin : meth.name = "<init>" := (name_of_methodNamed B.named B.method).1
  have hr := B.returns
  have hlocks := B.notSynchronized
  have C : CI p s m ([.ref h0, .int 80] : List Value).toArray c D cI cJ RX10 cX10_init 2 := ⟨B.exec, B.bytes, hml, hown, fun w hw => hts w (List.mem_cons_of_mem _ hw), hK, hN, hCK⟩
  subst hsz
  have hD := hD0.self (sz := s.heap.size)
  unfold IQ
  generalize hAe : va_A [(h0, (.inr (10, [.null, .int 0, .int 0, .int 0])))] s.heap.size = A at hD ⊢
  have hA : ∀ q : Nat, s.heap.size ≤ q → A q := fun q h => by rw [← hAe]; exact Or.inr h
  have hl := lv_entry ([.ref h0, .int 80]) (n := 2) (Nat.le_of_ble_eq_true rfl)
  rw [lg_entry_eq]
  generalize (lg_sl ([.ref h0, .int 80]) ++ List.replicate (2 - (lg_sl ([.ref h0, .int 80])).length) Slot.unset).toArray = ls at hl ⊢
  have hl : lv_has ls 2 [(0, .ref h0), (1, .int 80)] := hl
  suffices hz : ZW p l e ({ frames := 2, cells := 2, slots := 81, locals := 42 }) s m ([.ref h0, .int 80] : List Value).toArray below meth c _ D A s.heap [(h0, (.inr (10, [.null, .int 0, .int 0, .int 0])))] 0 0 0 ls [] from hz s.heap [] hP hD va_S.rf
  refine z_al C (k := 0) (by decide +kernel) rfl (lv_at hl 0 rfl) ?_
  refine z_oi C (idx := 3) (wAt_in (p := 119) (by decide +kernel)) (wAt_in (p := 112) (by decide +kernel)) (wAt_in (p := 113) (by decide +kernel)) hl.1 (by decide +kernel) (Nat.le_of_ble_eq_true rfl) (Nat.le_of_ble_eq_true rfl) ?_
  refine z_al C (k := 0) (by decide +kernel) rfl (lv_at hl 0 rfl) ?_
  refine z_il C (k := 1) (by decide +kernel) rfl (lv_at hl 1 rfl) ?_
  refine z_pf C hin (idx := 9) 0 1 rfl rfl (by decide) (wAt_in (p := 135) (by decide +kernel)) rfl rfl (tyX10 1) (tyX10_ok 1 (by decide)) rfl rfl (Nat.le_of_ble_eq_true rfl) (by decide +kernel) ?_
  change ZW _ _ _ _ _ _ _ _ _ _ _ _ _ _ [(h0, .inr (10, [.null, .int 80, .int 0, .int 0]))] _ _ _ _ _
  refine z_al C (k := 0) (by decide +kernel) rfl (lv_at hl 0 rfl) ?_
  refine z_new C hA (idx := 15) 6 tyX6 [.null] rfl tyX6_ok blX6 (wAt_in (p := 120) (by decide +kernel)) (wAt_in (p := 121) (by decide +kernel)) (wAt_in (p := 93) (by decide +kernel)) (by decide +kernel) ⟨Nat.le_of_ble_eq_true rfl, Nat.le_of_ble_eq_true rfl⟩ (fun q1 => ?_)
  refine z_dup C (by decide +kernel) rfl ?_
  refine z_il C (k := 1) (by decide +kernel) rfl (lv_at hl 1 rfl) ?_
  refine z_call C hA (idx := 17) (As := [.int 80]) (fun sz => ci_X6 hCK l D cI cJ q1 sz 80 (by decide)) rfl rfl (wAt_in (p := 124) (by decide +kernel)) (wAt_in (p := 93) (by decide +kernel)) (wAt_in (p := 123) (by decide +kernel)) (Or.inl (wAt_in (p := 122) (by decide +kernel))) rfl ⟨by decide +kernel, by decide +kernel, by decide +kernel⟩ ⟨Nat.le_of_ble_eq_true rfl, Nat.le_of_ble_eq_true rfl⟩ hl.1 (Nat.le_of_ble_eq_true rfl) (by decide +kernel) ⟨Nat.le_of_ble_eq_true rfl, Nat.le_of_ble_eq_true rfl⟩ (fun u1 => ?_)
  change ZW _ _ _ _ _ _ _ _ _ _ _ _ _ _ [(h0, .inr (10, [.null, .int 80, .int 0, .int 0])), (q1, .inr (6, [.ref (u1 0)])), ((u1 0), .inl (cI, 80, .inl (fun _ => 0)))] _ _ _ _ _
  refine z_pf C hin (idx := 20) 0 0 rfl rfl (by decide) (wAt_in (p := 134) (by decide +kernel)) rfl rfl (tyX10 0) (tyX10_ok 0 (by decide)) rfl rfl (Nat.le_of_ble_eq_true rfl) (by decide +kernel) ?_
  change ZW _ _ _ _ _ _ _ _ _ _ _ _ _ _ [(h0, .inr (10, [.ref q1, .int 80, .int 0, .int 0])), (q1, .inr (6, [.ref (u1 0)])), ((u1 0), .inl (cI, 80, .inl (fun _ => 0)))] _ _ _ _ _
  intro H locs hP hD hS
  refine W.widen (k := 2) (n := 81) (Nat.le_of_ble_eq_true rfl) (Nat.le_of_ble_eq_true rfl) ?_
  exact W.vret C.1 C.2.1 hr (fun t ht hW => ⟨⟨fun k => ([q1, (u1 0)] : List Nat).getD k 0, rfl, trivial, by rw [ht]; exact hP, va_K.moved hW.alike hK, hD⟩, hS.F ht⟩) hS.2.2 (by decide +kernel)
abbrev w_X9 (cI cJ : ClassId) (h0 : Nat) (u : Nat → Nat) : va_W := [(h0, .inr (9, [.ref (u 0), .ref (u 2), .ref (u 4), .ref (u 6), .ref (u 8), .ref (u 10), .ref (u 12), .ref (u 14), .ref (u 16), .ref (u 18), .int 0, .int 0, .int 0])), ((u 0), .inr (6, [.ref (u 1)])), ((u 1), .inl (cI, 160, .inl (fun _ => 0))), ((u 2), .inr (6, [.ref (u 3)])), ((u 3), .inl (cI, 160, .inl (fun _ => 0))), ((u 4), .inr (6, [.ref (u 5)])), ((u 5), .inl (cI, 40, .inl (fun _ => 0))), ((u 6), .inr (6, [.ref (u 7)])), ((u 7), .inl (cI, 40, .inl (fun _ => 0))), ((u 8), .inr (6, [.ref (u 9)])), ((u 9), .inl (cI, 160, .inl (fun _ => 0))), ((u 10), .inr (6, [.ref (u 11)])), ((u 11), .inl (cI, 40, .inl (fun _ => 0))), ((u 12), .inr (6, [.ref (u 13)])), ((u 13), .inl (cI, 5, .inl (fun _ => 0))), ((u 14), .inr (6, [.ref (u 15)])), ((u 15), .inl (cI, 5, .inl (fun _ => 0))), ((u 16), .inr (6, [.ref (u 17)])), ((u 17), .inl (cI, 5, .inl (fun _ => 0))), ((u 18), .inr (6, [.ref (u 19)])), ((u 19), .inl (cI, 5, .inl (fun _ => 0)))]
set_option maxRecDepth 100000 in
set_option maxHeartbeats 8000000 in
theorem ci_X9 (hCK : CHK) (l : Launch) (D : va_G) (cI cJ : ClassId) (h0 sz : Nat) : Met l yX9_init (wkz yX9_init cX9_init 1) ({ frames := 2, cells := 20, slots := 630, locals := 42 }) (va_Pc [.ref h0] (IPre D cI cJ h0 (.inr (9, [.null, .null, .null, .null, .null, .null, .null, .null, .null, .null, .int 0, .int 0, .int 0])) sz)) (IQ D cI cJ h0 (.inr (9, [.null, .null, .null, .null, .null, .null, .null, .null, .null, .null, .int 0, .int 0, .int 0])) sz (w_X9 cI cJ h0)) 20 630 (va_A [(h0, (.inr (9, [.null, .null, .null, .null, .null, .null, .null, .null, .null, .null, .int 0, .int 0, .int 0])))] sz) := by
  refine Met.ofW (cc := cX9_init) (maxL := 1) (ret := none) (by decide) rfl ?_
  intro p e s m args below meth c s₁ B hml hv
  obtain ⟨rfl, hsz, hP, hK, hD0, hN⟩ := hv
  have hts := atoms_spec (ws := wkz yX9_init cX9_init 1) B.pre
  have hown : s.vm.findClass RX9 = some m.cls := findClass_of_methodNamed B.named
  have hin : meth.name = "<init>" := (name_of_methodNamed B.named B.method).1
  have hr := B.returns
  have hlocks := B.notSynchronized
  have C : CI p s m ([.ref h0] : List Value).toArray c D cI cJ RX9 cX9_init 1 := ⟨B.exec, B.bytes, hml, hown, fun w hw => hts w (List.mem_cons_of_mem _ hw), hK, hN, hCK⟩
  subst hsz
  have hD := hD0.self (sz := s.heap.size)
  unfold IQ
  generalize hAe : va_A [(h0, (.inr (9, [.null, .null, .null, .null, .null, .null, .null, .null, .null, .null, .int 0, .int 0, .int 0])))] s.heap.size = A at hD ⊢
  have hA : ∀ q : Nat, s.heap.size ≤ q → A q := fun q h => by rw [← hAe]; exact Or.inr h
  have hl := lv_entry ([.ref h0]) (n := 1) (Nat.le_of_ble_eq_true rfl)
  rw [lg_entry_eq]
  generalize (lg_sl ([.ref h0]) ++ List.replicate (1 - (lg_sl ([.ref h0])).length) Slot.unset).toArray = ls at hl ⊢
  have hl : lv_has ls 1 [(0, .ref h0)] := hl
  suffices hz : ZW p l e ({ frames := 2, cells := 20, slots := 630, locals := 42 }) s m ([.ref h0] : List Value).toArray below meth c _ D A s.heap [(h0, (.inr (9, [.null, .null, .null, .null, .null, .null, .null, .null, .null, .null, .int 0, .int 0, .int 0])))] 0 0 0 ls [] from hz s.heap [] hP hD va_S.rf
  refine z_al C (k := 0) (by decide +kernel) rfl (lv_at hl 0 rfl) ?_
  refine z_oi C (idx := 3) (wAt_in (p := 152) (by decide +kernel)) (wAt_in (p := 112) (by decide +kernel)) (wAt_in (p := 113) (by decide +kernel)) hl.1 (by decide +kernel) (Nat.le_of_ble_eq_true rfl) (Nat.le_of_ble_eq_true rfl) ?_
  refine z_al C (k := 0) (by decide +kernel) rfl (lv_at hl 0 rfl) ?_
  refine z_new C hA (idx := 9) 6 tyX6 [.null] rfl tyX6_ok blX6 (wAt_in (p := 153) (by decide +kernel)) (wAt_in (p := 121) (by decide +kernel)) (wAt_in (p := 93) (by decide +kernel)) (by decide +kernel) ⟨Nat.le_of_ble_eq_true rfl, Nat.le_of_ble_eq_true rfl⟩ (fun q1 => ?_)
  refine z_dup C (by decide +kernel) rfl ?_
  refine z_sp C (n := 160) (v := 160) (by decide +kernel) (by decide) ?_
  refine z_call C hA (idx := 11) (As := [.int 160]) (fun sz => ci_X6 hCK l D cI cJ q1 sz 160 (by decide)) rfl rfl (wAt_in (p := 124) (by decide +kernel)) (wAt_in (p := 93) (by decide +kernel)) (wAt_in (p := 123) (by decide +kernel)) (Or.inl (wAt_in (p := 154) (by decide +kernel))) rfl ⟨by decide +kernel, by decide +kernel, by decide +kernel⟩ ⟨Nat.le_of_ble_eq_true rfl, Nat.le_of_ble_eq_true rfl⟩ hl.1 (Nat.le_of_ble_eq_true rfl) (by decide +kernel) ⟨Nat.le_of_ble_eq_true rfl, Nat.le_of_ble_eq_true rfl⟩ (fun u1 => ?_)
  change ZW _ _ _ _ _ _ _ _ _ _ _ _ _ _ [(h0, .inr (9, [.null, .null, .null, .null, .null, .null, .null, .null, .null, .null, .int 0, .int 0, .int 0])), (q1, .inr (6, [.ref (u1 0)])), ((u1 0), .inl (cI, 160, .inl (fun _ => 0)))] _ _ _ _ _
  refine z_pf C hin (idx := 14) 0 0 rfl rfl (by decide) (wAt_in (p := 155) (by decide +kernel)) rfl rfl (tyX9 0) (tyX9_ok 0 (by decide)) rfl rfl (Nat.le_of_ble_eq_true rfl) (by decide +kernel) ?_
  change ZW _ _ _ _ _ _ _ _ _ _ _ _ _ _ [(h0, .inr (9, [.ref q1, .null, .null, .null, .null, .null, .null, .null, .null, .null, .int 0, .int 0, .int 0])), (q1, .inr (6, [.ref (u1 0)])), ((u1 0), .inl (cI, 160, .inl (fun _ => 0)))] _ _ _ _ _
  refine z_al C (k := 0) (by decide +kernel) rfl (lv_at hl 0 rfl) ?_
  refine z_new C hA (idx := 9) 6 tyX6 [.null] rfl tyX6_ok blX6 (wAt_in (p := 153) (by decide +kernel)) (wAt_in (p := 121) (by decide +kernel)) (wAt_in (p := 93) (by decide +kernel)) (by decide +kernel) ⟨Nat.le_of_ble_eq_true rfl, Nat.le_of_ble_eq_true rfl⟩ (fun q2 => ?_)
  refine z_dup C (by decide +kernel) rfl ?_
  refine z_sp C (n := 160) (v := 160) (by decide +kernel) (by decide) ?_
  refine z_call C hA (idx := 11) (As := [.int 160]) (fun sz => ci_X6 hCK l D cI cJ q2 sz 160 (by decide)) rfl rfl (wAt_in (p := 124) (by decide +kernel)) (wAt_in (p := 93) (by decide +kernel)) (wAt_in (p := 123) (by decide +kernel)) (Or.inl (wAt_in (p := 154) (by decide +kernel))) rfl ⟨by decide +kernel, by decide +kernel, by decide +kernel⟩ ⟨Nat.le_of_ble_eq_true rfl, Nat.le_of_ble_eq_true rfl⟩ hl.1 (Nat.le_of_ble_eq_true rfl) (by decide +kernel) ⟨Nat.le_of_ble_eq_true rfl, Nat.le_of_ble_eq_true rfl⟩ (fun u2 => ?_)
  change ZW _ _ _ _ _ _ _ _ _ _ _ _ _ _ [(h0, .inr (9, [.ref q1, .null, .null, .null, .null, .null, .null, .null, .null, .null, .int 0, .int 0, .int 0])), (q1, .inr (6, [.ref (u1 0)])), ((u1 0), .inl (cI, 160, .inl (fun _ => 0))), (q2, .inr (6, [.ref (u2 0)])), ((u2 0), .inl (cI, 160, .inl (fun _ => 0)))] _ _ _ _ _
  refine z_pf C hin (idx := 20) 0 1 rfl rfl (by decide) (wAt_in (p := 156) (by decide +kernel)) rfl rfl (tyX9 1) (tyX9_ok 1 (by decide)) rfl rfl (Nat.le_of_ble_eq_true rfl) (by decide +kernel) ?_
  change ZW _ _ _ _ _ _ _ _ _ _ _ _ _ _ [(h0, .inr (9, [.ref q1, .ref q2, .null, .null, .null, .null, .null, .null, .null, .null, .int 0, .int 0, .int 0])), (q1, .inr (6, [.ref (u1 0)])), ((u1 0), .inl (cI, 160, .inl (fun _ => 0))), (q2, .inr (6, [.ref (u2 0)])), ((u2 0), .inl (cI, 160, .inl (fun _ => 0)))] _ _ _ _ _
  refine z_al C (k := 0) (by decide +kernel) rfl (lv_at hl 0 rfl) ?_
  refine z_new C hA (idx := 9) 6 tyX6 [.null] rfl tyX6_ok blX6 (wAt_in (p := 153) (by decide +kernel)) (wAt_in (p := 121) (by decide +kernel)) (wAt_in (p := 93) (by decide +kernel)) (by decide +kernel) ⟨Nat.le_of_ble_eq_true rfl, Nat.le_of_ble_eq_true rfl⟩ (fun q3 => ?_)
  refine z_dup C (by decide +kernel) rfl ?_
  refine z_bp C (n := 40) (v := 40) (by decide +kernel) (by decide) ?_
  refine z_call C hA (idx := 11) (As := [.int 40]) (fun sz => ci_X6 hCK l D cI cJ q3 sz 40 (by decide)) rfl rfl (wAt_in (p := 124) (by decide +kernel)) (wAt_in (p := 93) (by decide +kernel)) (wAt_in (p := 123) (by decide +kernel)) (Or.inl (wAt_in (p := 154) (by decide +kernel))) rfl ⟨by decide +kernel, by decide +kernel, by decide +kernel⟩ ⟨Nat.le_of_ble_eq_true rfl, Nat.le_of_ble_eq_true rfl⟩ hl.1 (Nat.le_of_ble_eq_true rfl) (by decide +kernel) ⟨Nat.le_of_ble_eq_true rfl, Nat.le_of_ble_eq_true rfl⟩ (fun u3 => ?_)
  change ZW _ _ _ _ _ _ _ _ _ _ _ _ _ _ [(h0, .inr (9, [.ref q1, .ref q2, .null, .null, .null, .null, .null, .null, .null, .null, .int 0, .int 0, .int 0])), (q1, .inr (6, [.ref (u1 0)])), ((u1 0), .inl (cI, 160, .inl (fun _ => 0))), (q2, .inr (6, [.ref (u2 0)])), ((u2 0), .inl (cI, 160, .inl (fun _ => 0))), (q3, .inr (6, [.ref (u3 0)])), ((u3 0), .inl (cI, 40, .inl (fun _ => 0)))] _ _ _ _ _
  refine z_pf C hin (idx := 23) 0 2 rfl rfl (by decide) (wAt_in (p := 157) (by decide +kernel)) rfl rfl (tyX9 2) (tyX9_ok 2 (by decide)) rfl rfl (Nat.le_of_ble_eq_true rfl) (by decide +kernel) ?_
  change ZW _ _ _ _ _ _ _ _ _ _ _ _ _ _ [(h0, .inr (9, [.ref q1, .ref q2, .ref q3, .null, .null, .null, .null, .null, .null, .null, .int 0, .int 0, .int 0])), (q1, .inr (6, [.ref (u1 0)])), ((u1 0), .inl (cI, 160, .inl (fun _ => 0))), (q2, .inr (6, [.ref (u2 0)])), ((u2 0), .inl (cI, 160, .inl (fun _ => 0))), (q3, .inr (6, [.ref (u3 0)])), ((u3 0), .inl (cI, 40, .inl (fun _ => 0)))] _ _ _ _ _
  refine z_al C (k := 0) (by decide +kernel) rfl (lv_at hl 0 rfl) ?_
  refine z_new C hA (idx := 9) 6 tyX6 [.null] rfl tyX6_ok blX6 (wAt_in (p := 153) (by decide +kernel)) (wAt_in (p := 121) (by decide +kernel)) (wAt_in (p := 93) (by decide +kernel)) (by decide +kernel) ⟨Nat.le_of_ble_eq_true rfl, Nat.le_of_ble_eq_true rfl⟩ (fun q4 => ?_)
  refine z_dup C (by decide +kernel) rfl ?_
  refine z_bp C (n := 40) (v := 40) (by decide +kernel) (by decide) ?_
  refine z_call C hA (idx := 11) (As := [.int 40]) (fun sz => ci_X6 hCK l D cI cJ q4 sz 40 (by decide)) rfl rfl (wAt_in (p := 124) (by decide +kernel)) (wAt_in (p := 93) (by decide +kernel)) (wAt_in (p := 123) (by decide +kernel)) (Or.inl (wAt_in (p := 154) (by decide +kernel))) rfl ⟨by decide +kernel, by decide +kernel, by decide +kernel⟩ ⟨Nat.le_of_ble_eq_true rfl, Nat.le_of_ble_eq_true rfl⟩ hl.1 (Nat.le_of_ble_eq_true rfl) (by decide +kernel) ⟨Nat.le_of_ble_eq_true rfl, Nat.le_of_ble_eq_true rfl⟩ (fun u4 => ?_)
  change ZW _ _ _ _ _ _ _ _ _ _ _ _ _ _ [(h0, .inr (9, [.ref q1, .ref q2, .ref q3, .null, .null, .null, .null, .null, .null, .null, .int 0, .int 0, .int 0])), (q1, .inr (6, [.ref (u1 0)])), ((u1 0), .inl (cI, 160, .inl (fun _ => 0))), (q2, .inr (6, [.ref (u2 0)])), ((u2 0), .inl (cI, 160, .inl (fun _ => 0))), (q3, .inr (6, [.ref (u3 0)])), ((u3 0), .inl (cI, 40, .inl (fun _ => 0))), (q4, .inr (6, [.ref (u4 0)])), ((u4 0), .inl (cI, 40, .inl (fun _ => 0)))] _ _ _ _ _
  refine z_pf C hin (idx := 26) 0 3 rfl rfl (by decide) (wAt_in (p := 158) (by decide +kernel)) rfl rfl (tyX9 3) (tyX9_ok 3 (by decide)) rfl rfl (Nat.le_of_ble_eq_true rfl) (by decide +kernel) ?_
  change ZW _ _ _ _ _ _ _ _ _ _ _ _ _ _ [(h0, .inr (9, [.ref q1, .ref q2, .ref q3, .ref q4, .null, .null, .null, .null, .null, .null, .int 0, .int 0, .int 0])), (q1, .inr (6, [.ref (u1 0)])), ((u1 0), .inl (cI, 160, .inl (fun _ => 0))), (q2, .inr (6, [.ref (u2 0)])), ((u2 0), .inl (cI, 160, .inl (fun _ => 0))), (q3, .inr (6, [.ref (u3 0)])), ((u3 0), .inl (cI, 40, .inl (fun _ => 0))), (q4, .inr (6, [.ref (u4 0)])), ((u4 0), .inl (cI, 40, .inl (fun _ => 0)))] _ _ _ _ _
  refine z_al C (k := 0) (by decide +kernel) rfl (lv_at hl 0 rfl) ?_
  refine z_new C hA (idx := 9) 6 tyX6 [.null] rfl tyX6_ok blX6 (wAt_in (p := 153) (by decide +kernel)) (wAt_in (p := 121) (by decide +kernel)) (wAt_in (p := 93) (by decide +kernel)) (by decide +kernel) ⟨Nat.le_of_ble_eq_true rfl, Nat.le_of_ble_eq_true rfl⟩ (fun q5 => ?_)
  refine z_dup C (by decide +kernel) rfl ?_
  refine z_sp C (n := 160) (v := 160) (by decide +kernel) (by decide) ?_
  refine z_call C hA (idx := 11) (As := [.int 160]) (fun sz => ci_X6 hCK l D cI cJ q5 sz 160 (by decide)) rfl rfl (wAt_in (p := 124) (by decide +kernel)) (wAt_in (p := 93) (by decide +kernel)) (wAt_in (p := 123) (by decide +kernel)) (Or.inl (wAt_in (p := 154) (by decide +kernel))) rfl ⟨by decide +kernel, by decide +kernel, by decide +kernel⟩ ⟨Nat.le_of_ble_eq_true rfl, Nat.le_of_ble_eq_true rfl⟩ hl.1 (Nat.le_of_ble_eq_true rfl) (by decide +kernel) ⟨Nat.le_of_ble_eq_true rfl, Nat.le_of_ble_eq_true rfl⟩ (fun u5 => ?_)
  change ZW _ _ _ _ _ _ _ _ _ _ _ _ _ _ [(h0, .inr (9, [.ref q1, .ref q2, .ref q3, .ref q4, .null, .null, .null, .null, .null, .null, .int 0, .int 0, .int 0])), (q1, .inr (6, [.ref (u1 0)])), ((u1 0), .inl (cI, 160, .inl (fun _ => 0))), (q2, .inr (6, [.ref (u2 0)])), ((u2 0), .inl (cI, 160, .inl (fun _ => 0))), (q3, .inr (6, [.ref (u3 0)])), ((u3 0), .inl (cI, 40, .inl (fun _ => 0))), (q4, .inr (6, [.ref (u4 0)])), ((u4 0), .inl (cI, 40, .inl (fun _ => 0))), (q5, .inr (6, [.ref (u5 0)])), ((u5 0), .inl (cI, 160, .inl (fun _ => 0)))] _ _ _ _ _
  refine z_pf C hin (idx := 29) 0 4 rfl rfl (by decide) (wAt_in (p := 159) (by decide +kernel)) rfl rfl (tyX9 4) (tyX9_ok 4 (by decide)) rfl rfl (Nat.le_of_ble_eq_true rfl) (by decide +kernel) ?_
  change ZW _ _ _ _ _ _ _ _ _ _ _ _ _ _ [(h0, .inr (9, [.ref q1, .ref q2, .ref q3, .ref q4, .ref q5, .null, .null, .null, .null, .null, .int 0, .int 0, .int 0])), (q1, .inr (6, [.ref (u1 0)])), ((u1 0), .inl (cI, 160, .inl (fun _ => 0))), (q2, .inr (6, [.ref (u2 0)])), ((u2 0), .inl (cI, 160, .inl (fun _ => 0))), (q3, .inr (6, [.ref (u3 0)])), ((u3 0), .inl (cI, 40, .inl (fun _ => 0))), (q4, .inr (6, [.ref (u4 0)])), ((u4 0), .inl (cI, 40, .inl (fun _ => 0))), (q5, .inr (6, [.ref (u5 0)])), ((u5 0), .inl (cI, 160, .inl (fun _ => 0)))] _ _ _ _ _
  refine z_al C (k := 0) (by decide +kernel) rfl (lv_at hl 0 rfl) ?_
  refine z_new C hA (idx := 9) 6 tyX6 [.null] rfl tyX6_ok blX6 (wAt_in (p := 153) (by decide +kernel)) (wAt_in (p := 121) (by decide +kernel)) (wAt_in (p := 93) (by decide +kernel)) (by decide +kernel) ⟨Nat.le_of_ble_eq_true rfl, Nat.le_of_ble_eq_true rfl⟩ (fun q6 => ?_)
  refine z_dup C (by decide +kernel) rfl ?_
  refine z_bp C (n := 40) (v := 40) (by decide +kernel) (by decide) ?_
  refine z_call C hA (idx := 11) (As := [.int 40]) (fun sz => ci_X6 hCK l D cI cJ q6 sz 40 (by decide)) rfl rfl (wAt_in (p := 124) (by decide +kernel)) (wAt_in (p := 93) (by decide +kernel)) (wAt_in (p := 123) (by decide +kernel)) (Or.inl (wAt_in (p := 154) (by decide +kernel))) rfl ⟨by decide +kernel, by decide +kernel, by decide +kernel⟩ ⟨Nat.le_of_ble_eq_true rfl, Nat.le_of_ble_eq_true rfl⟩ hl.1 (Nat.le_of_ble_eq_true rfl) (by decide +kernel) ⟨Nat.le_of_ble_eq_true rfl, Nat.le_of_ble_eq_true rfl⟩ (fun u6 => ?_)
  change ZW _ _ _ _ _ _ _ _ _ _ _ _ _ _ [(h0, .inr (9, [.ref q1, .ref q2, .ref q3, .ref q4, .ref q5, .null, .null, .null, .null, .null, .int 0, .int 0, .int 0])), (q1, .inr (6, [.ref (u1 0)])), ((u1 0), .inl (cI, 160, .inl (fun _ => 0))), (q2, .inr (6, [.ref (u2 0)])), ((u2 0), .inl (cI, 160, .inl (fun _ => 0))), (q3, .inr (6, [.ref (u3 0)])), ((u3 0), .inl (cI, 40, .inl (fun _ => 0))), (q4, .inr (6, [.ref (u4 0)])), ((u4 0), .inl (cI, 40, .inl (fun _ => 0))), (q5, .inr (6, [.ref (u5 0)])), ((u5 0), .inl (cI, 160, .inl (fun _ => 0))), (q6, .inr (6, [.ref (u6 0)])), ((u6 0), .inl (cI, 40, .inl (fun _ => 0)))] _ _ _ _ _
  refine z_pf C hin (idx := 32) 0 5 rfl rfl (by decide) (wAt_in (p := 160) (by decide +kernel)) rfl rfl (tyX9 5) (tyX9_ok 5 (by decide)) rfl rfl (Nat.le_of_ble_eq_true rfl) (by decide +kernel) ?_
  change ZW _ _ _ _ _ _ _ _ _ _ _ _ _ _ [(h0, .inr (9, [.ref q1, .ref q2, .ref q3, .ref q4, .ref q5, .ref q6, .null, .null, .null, .null, .int 0, .int 0, .int 0])), (q1, .inr (6, [.ref (u1 0)])), ((u1 0), .inl (cI, 160, .inl (fun _ => 0))), (q2, .inr (6, [.ref (u2 0)])), ((u2 0), .inl (cI, 160, .inl (fun _ => 0))), (q3, .inr (6, [.ref (u3 0)])), ((u3 0), .inl (cI, 40, .inl (fun _ => 0))), (q4, .inr (6, [.ref (u4 0)])), ((u4 0), .inl (cI, 40, .inl (fun _ => 0))), (q5, .inr (6, [.ref (u5 0)])), ((u5 0), .inl (cI, 160, .inl (fun _ => 0))), (q6, .inr (6, [.ref (u6 0)])), ((u6 0), .inl (cI, 40, .inl (fun _ => 0)))] _ _ _ _ _
  refine z_al C (k := 0) (by decide +kernel) rfl (lv_at hl 0 rfl) ?_
  refine z_new C hA (idx := 9) 6 tyX6 [.null] rfl tyX6_ok blX6 (wAt_in (p := 153) (by decide +kernel)) (wAt_in (p := 121) (by decide +kernel)) (wAt_in (p := 93) (by decide +kernel)) (by decide +kernel) ⟨Nat.le_of_ble_eq_true rfl, Nat.le_of_ble_eq_true rfl⟩ (fun q7 => ?_)
  refine z_dup C (by decide +kernel) rfl ?_
  refine z_ic C (n := 5) (v := 5) (by decide +kernel) (by decide) ?_
  refine z_call C hA (idx := 11) (As := [.int 5]) (fun sz => ci_X6 hCK l D cI cJ q7 sz 5 (by decide)) rfl rfl (wAt_in (p := 124) (by decide +kernel)) (wAt_in (p := 93) (by decide +kernel)) (wAt_in (p := 123) (by decide +kernel)) (Or.inl (wAt_in (p := 154) (by decide +kernel))) rfl ⟨by decide +kernel, by decide +kernel, by decide +kernel⟩ ⟨Nat.le_of_ble_eq_true rfl, Nat.le_of_ble_eq_true rfl⟩ hl.1 (Nat.le_of_ble_eq_true rfl) (by decide +kernel) ⟨Nat.le_of_ble_eq_true rfl, Nat.le_of_ble_eq_true rfl⟩ (fun u7 => ?_)
  change ZW _ _ _ _ _ _ _ _ _ _ _ _ _ _ [(h0, .inr (9, [.ref q1, .ref q2, .ref q3, .ref q4, .ref q5, .ref q6, .null, .null, .null, .null, .int 0, .int 0, .int 0])), (q1, .inr (6, [.ref (u1 0)])), ((u1 0), .inl (cI, 160, .inl (fun _ => 0))), (q2, .inr (6, [.ref (u2 0)])), ((u2 0), .inl (cI, 160, .inl (fun _ => 0))), (q3, .inr (6, [.ref (u3 0)])), ((u3 0), .inl (cI, 40, .inl (fun _ => 0))), (q4, .inr (6, [.ref (u4 0)])), ((u4 0), .inl (cI, 40, .inl (fun _ => 0))), (q5, .inr (6, [.ref (u5 0)])), ((u5 0), .inl (cI, 160, .inl (fun _ => 0))), (q6, .inr (6, [.ref (u6 0)])), ((u6 0), .inl (cI, 40, .inl (fun _ => 0))), (q7, .inr (6, [.ref (u7 0)])), ((u7 0), .inl (cI, 5, .inl (fun _ => 0)))] _ _ _ _ _
  refine z_pf C hin (idx := 35) 0 6 rfl rfl (by decide) (wAt_in (p := 161) (by decide +kernel)) rfl rfl (tyX9 6) (tyX9_ok 6 (by decide)) rfl rfl (Nat.le_of_ble_eq_true rfl) (by decide +kernel) ?_
  change ZW _ _ _ _ _ _ _ _ _ _ _ _ _ _ [(h0, .inr (9, [.ref q1, .ref q2, .ref q3, .ref q4, .ref q5, .ref q6, .ref q7, .null, .null, .null, .int 0, .int 0, .int 0])), (q1, .inr (6, [.ref (u1 0)])), ((u1 0), .inl (cI, 160, .inl (fun _ => 0))), (q2, .inr (6, [.ref (u2 0)])), ((u2 0), .inl (cI, 160, .inl (fun _ => 0))), (q3, .inr (6, [.ref (u3 0)])), ((u3 0), .inl (cI, 40, .inl (fun _ => 0))), (q4, .inr (6, [.ref (u4 0)])), ((u4 0), .inl (cI, 40, .inl (fun _ => 0))), (q5, .inr (6, [.ref (u5 0)])), ((u5 0), .inl (cI, 160, .inl (fun _ => 0))), (q6, .inr (6, [.ref (u6 0)])), ((u6 0), .inl (cI, 40, .inl (fun _ => 0))), (q7, .inr (6, [.ref (u7 0)])), ((u7 0), .inl (cI, 5, .inl (fun _ => 0)))] _ _ _ _ _
  refine z_al C (k := 0) (by decide +kernel) rfl (lv_at hl 0 rfl) ?_
  refine z_new C hA (idx := 9) 6 tyX6 [.null] rfl tyX6_ok blX6 (wAt_in (p := 153) (by decide +kernel)) (wAt_in (p := 121) (by decide +kernel)) (wAt_in (p := 93) (by decide +kernel)) (by decide +kernel) ⟨Nat.le_of_ble_eq_true rfl, Nat.le_of_ble_eq_true rfl⟩ (fun q8 => ?_)
  refine z_dup C (by decide +kernel) rfl ?_
  refine z_ic C (n := 5) (v := 5) (by decide +kernel) (by decide) ?_
  refine z_call C hA (idx := 11) (As := [.int 5]) (fun sz => ci_X6 hCK l D cI cJ q8 sz 5 (by decide)) rfl rfl (wAt_in (p := 124) (by decide +kernel)) (wAt_in (p := 93) (by decide +kernel)) (wAt_in (p := 123) (by decide +kernel)) (Or.inl (wAt_in (p := 154) (by decide +kernel))) rfl ⟨by decide +kernel, by decide +kernel, by decide +kernel⟩ ⟨Nat.le_of_ble_eq_true rfl, Nat.le_of_ble_eq_true rfl⟩ hl.1 (Nat.le_of_ble_eq_true rfl) (by decide +kernel) ⟨Nat.le_of_ble_eq_true rfl, Nat.le_of_ble_eq_true rfl⟩ (fun u8 => ?_)
  change ZW _ _ _ _ _ _ _ _ _ _ _ _ _ _ [(h0, .inr (9, [.ref q1, .ref q2, .ref q3, .ref q4, .ref q5, .ref q6, .ref q7, .null, .null, .null, .int 0, .int 0, .int 0])), (q1, .inr (6, [.ref (u1 0)])), ((u1 0), .inl (cI, 160, .inl (fun _ => 0))), (q2, .inr (6, [.ref (u2 0)])), ((u2 0), .inl (cI, 160, .inl (fun _ => 0))), (q3, .inr (6, [.ref (u3 0)])), ((u3 0), .inl (cI, 40, .inl (fun _ => 0))), (q4, .inr (6, [.ref (u4 0)])), ((u4 0), .inl (cI, 40, .inl (fun _ => 0))), (q5, .inr (6, [.ref (u5 0)])), ((u5 0), .inl (cI, 160, .inl (fun _ => 0))), (q6, .inr (6, [.ref (u6 0)])), ((u6 0), .inl (cI, 40, .inl (fun _ => 0))), (q7, .inr (6, [.ref (u7 0)])), ((u7 0), .inl (cI, 5, .inl (fun _ => 0))), (q8, .inr (6, [.ref (u8 0)])), ((u8 0), .inl (cI, 5, .inl (fun _ => 0)))] _ _ _ _ _
  refine z_pf C hin (idx := 38) 0 7 rfl rfl (by decide) (wAt_in (p := 162) (by decide +kernel)) rfl rfl (tyX9 7) (tyX9_ok 7 (by decide)) rfl rfl (Nat.le_of_ble_eq_true rfl) (by decide +kernel) ?_
  change ZW _ _ _ _ _ _ _ _ _ _ _ _ _ _ [(h0, .inr (9, [.ref q1, .ref q2, .ref q3, .ref q4, .ref q5, .ref q6, .ref q7, .ref q8, .null, .null, .int 0, .int 0, .int 0])), (q1, .inr (6, [.ref (u1 0)])), ((u1 0), .inl (cI, 160, .inl (fun _ => 0))), (q2, .inr (6, [.ref (u2 0)])), ((u2 0), .inl (cI, 160, .inl (fun _ => 0))), (q3, .inr (6, [.ref (u3 0)])), ((u3 0), .inl (cI, 40, .inl (fun _ => 0))), (q4, .inr (6, [.ref (u4 0)])), ((u4 0), .inl (cI, 40, .inl (fun _ => 0))), (q5, .inr (6, [.ref (u5 0)])), ((u5 0), .inl (cI, 160, .inl (fun _ => 0))), (q6, .inr (6, [.ref (u6 0)])), ((u6 0), .inl (cI, 40, .inl (fun _ => 0))), (q7, .inr (6, [.ref (u7 0)])), ((u7 0), .inl (cI, 5, .inl (fun _ => 0))), (q8, .inr (6, [.ref (u8 0)])), ((u8 0), .inl (cI, 5, .inl (fun _ => 0)))] _ _ _ _ _
  refine z_al C (k := 0) (by decide +kernel) rfl (lv_at hl 0 rfl) ?_
  refine z_new C hA (idx := 9) 6 tyX6 [.null] rfl tyX6_ok blX6 (wAt_in (p := 153) (by decide +kernel)) (wAt_in (p := 121) (by decide +kernel)) (wAt_in (p := 93) (by decide +kernel)) (by decide +kernel) ⟨Nat.le_of_ble_eq_true rfl, Nat.le_of_ble_eq_true rfl⟩ (fun q9 => ?_)
  refine z_dup C (by decide +kernel) rfl ?_
  refine z_ic C (n := 5) (v := 5) (by decide +kernel) (by decide) ?_
  refine z_call C hA (idx := 11) (As := [.int 5]) (fun sz => ci_X6 hCK l D cI cJ q9 sz 5 (by decide)) rfl rfl (wAt_in (p := 124) (by decide +kernel)) (wAt_in (p := 93) (by decide +kernel)) (wAt_in (p := 123) (by decide +kernel)) (Or.inl (wAt_in (p := 154) (by decide +kernel))) rfl ⟨by decide +kernel, by decide +kernel, by decide +kernel⟩ ⟨Nat.le_of_ble_eq_true rfl, Nat.le_of_ble_eq_true rfl⟩ hl.1 (Nat.le_of_ble_eq_true rfl) (by decide +kernel) ⟨Nat.le_of_ble_eq_true rfl, Nat.le_of_ble_eq_true rfl⟩ (fun u9 => ?_)
  change ZW _ _ _ _ _ _ _ _ _ _ _ _ _ _ [(h0, .inr (9, [.ref q1, .ref q2, .ref q3, .ref q4, .ref q5, .ref q6, .ref q7, .ref q8, .null, .null, .int 0, .int 0, .int 0])), (q1, .inr (6, [.ref (u1 0)])), ((u1 0), .inl (cI, 160, .inl (fun _ => 0))), (q2, .inr (6, [.ref (u2 0)])), ((u2 0), .inl (cI, 160, .inl (fun _ => 0))), (q3, .inr (6, [.ref (u3 0)])), ((u3 0), .inl (cI, 40, .inl (fun _ => 0))), (q4, .inr (6, [.ref (u4 0)])), ((u4 0), .inl (cI, 40, .inl (fun _ => 0))), (q5, .inr (6, [.ref (u5 0)])), ((u5 0), .inl (cI, 160, .inl (fun _ => 0))), (q6, .inr (6, [.ref (u6 0)])), ((u6 0), .inl (cI, 40, .inl (fun _ => 0))), (q7, .inr (6, [.ref (u7 0)])), ((u7 0), .inl (cI, 5, .inl (fun _ => 0))), (q8, .inr (6, [.ref (u8 0)])), ((u8 0), .inl (cI, 5, .inl (fun _ => 0))), (q9, .inr (6, [.ref (u9 0)])), ((u9 0), .inl (cI, 5, .inl (fun _ => 0)))] _ _ _ _ _
  refine z_pf C hin (idx := 41) 0 8 rfl rfl (by decide) (wAt_in (p := 163) (by decide +kernel)) rfl rfl (tyX9 8) (tyX9_ok 8 (by decide)) rfl rfl (Nat.le_of_ble_eq_true rfl) (by decide +kernel) ?_
  change ZW _ _ _ _ _ _ _ _ _ _ _ _ _ _ [(h0, .inr (9, [.ref q1, .ref q2, .ref q3, .ref q4, .ref q5, .ref q6, .ref q7, .ref q8, .ref q9, .null, .int 0, .int 0, .int 0])), (q1, .inr (6, [.ref (u1 0)])), ((u1 0), .inl (cI, 160, .inl (fun _ => 0))), (q2, .inr (6, [.ref (u2 0)])), ((u2 0), .inl (cI, 160, .inl (fun _ => 0))), (q3, .inr (6, [.ref (u3 0)])), ((u3 0), .inl (cI, 40, .inl (fun _ => 0))), (q4, .inr (6, [.ref (u4 0)])), ((u4 0), .inl (cI, 40, .inl (fun _ => 0))), (q5, .inr (6, [.ref (u5 0)])), ((u5 0), .inl (cI, 160, .inl (fun _ => 0))), (q6, .inr (6, [.ref (u6 0)])), ((u6 0), .inl (cI, 40, .inl (fun _ => 0))), (q7, .inr (6, [.ref (u7 0)])), ((u7 0), .inl (cI, 5, .inl (fun _ => 0))), (q8, .inr (6, [.ref (u8 0)])), ((u8 0), .inl (cI, 5, .inl (fun _ => 0))), (q9, .inr (6, [.ref (u9 0)])), ((u9 0), .inl (cI, 5, .inl (fun _ => 0)))] _ _ _ _ _
  refine z_al C (k := 0) (by decide +kernel) rfl (lv_at hl 0 rfl) ?_
  refine z_new C hA (idx := 9) 6 tyX6 [.null] rfl tyX6_ok blX6 (wAt_in (p := 153) (by decide +kernel)) (wAt_in (p := 121) (by decide +kernel)) (wAt_in (p := 93) (by decide +kernel)) (by decide +kernel) ⟨Nat.le_of_ble_eq_true rfl, Nat.le_of_ble_eq_true rfl⟩ (fun q10 => ?_)
  refine z_dup C (by decide +kernel) rfl ?_
  refine z_ic C (n := 5) (v := 5) (by decide +kernel) (by decide) ?_
  refine z_call C hA (idx := 11) (As := [.int 5]) (fun sz => ci_X6 hCK l D cI cJ q10 sz 5 (by decide)) rfl rfl (wAt_in (p := 124) (by decide +kernel)) (wAt_in (p := 93) (by decide +kernel)) (wAt_in (p := 123) (by decide +kernel)) (Or.inl (wAt_in (p := 154) (by decide +kernel))) rfl ⟨by decide +kernel, by decide +kernel, by decide +kernel⟩ ⟨Nat.le_of_ble_eq_true rfl, Nat.le_of_ble_eq_true rfl⟩ hl.1 (Nat.le_of_ble_eq_true rfl) (by decide +kernel) ⟨Nat.le_of_ble_eq_true rfl, Nat.le_of_ble_eq_true rfl⟩ (fun u10 => ?_)
  change ZW _ _ _ _ _ _ _ _ _ _ _ _ _ _ [(h0, .inr (9, [.ref q1, .ref q2, .ref q3, .ref q4, .ref q5, .ref q6, .ref q7, .ref q8, .ref q9, .null, .int 0, .int 0, .int 0])), (q1, .inr (6, [.ref (u1 0)])), ((u1 0), .inl (cI, 160, .inl (fun _ => 0))), (q2, .inr (6, [.ref (u2 0)])), ((u2 0), .inl (cI, 160, .inl (fun _ => 0))), (q3, .inr (6, [.ref (u3 0)])), ((u3 0), .inl (cI, 40, .inl (fun _ => 0))), (q4, .inr (6, [.ref (u4 0)])), ((u4 0), .inl (cI, 40, .inl (fun _ => 0))), (q5, .inr (6, [.ref (u5 0)])), ((u5 0), .inl (cI, 160, .inl (fun _ => 0))), (q6, .inr (6, [.ref (u6 0)])), ((u6 0), .inl (cI, 40, .inl (fun _ => 0))), (q7, .inr (6, [.ref (u7 0)])), ((u7 0), .inl (cI, 5, .inl (fun _ => 0))), (q8, .inr (6, [.ref (u8 0)])), ((u8 0), .inl (cI, 5, .inl (fun _ => 0))), (q9, .inr (6, [.ref (u9 0)])), ((u9 0), .inl (cI, 5, .inl (fun _ => 0))), (q10, .inr (6, [.ref (u10 0)])), ((u10 0), .inl (cI, 5, .inl (fun _ => 0)))] _ _ _ _ _
  refine z_pf C hin (idx := 44) 0 9 rfl rfl (by decide) (wAt_in (p := 164) (by decide +kernel)) rfl rfl (tyX9 9) (tyX9_ok 9 (by decide)) rfl rfl (Nat.le_of_ble_eq_true rfl) (by decide +kernel) ?_
  change ZW _ _ _ _ _ _ _ _ _ _ _ _ _ _ [(h0, .inr (9, [.ref q1, .ref q2, .ref q3, .ref q4, .ref q5, .ref q6, .ref q7, .ref q8, .ref q9, .ref q10, .int 0, .int 0, .int 0])), (q1, .inr (6, [.ref (u1 0)])), ((u1 0), .inl (cI, 160, .inl (fun _ => 0))), (q2, .inr (6, [.ref (u2 0)])), ((u2 0), .inl (cI, 160, .inl (fun _ => 0))), (q3, .inr (6, [.ref (u3 0)])), ((u3 0), .inl (cI, 40, .inl (fun _ => 0))), (q4, .inr (6, [.ref (u4 0)])), ((u4 0), .inl (cI, 40, .inl (fun _ => 0))), (q5, .inr (6, [.ref (u5 0)])), ((u5 0), .inl (cI, 160, .inl (fun _ => 0))), (q6, .inr (6, [.ref (u6 0)])), ((u6 0), .inl (cI, 40, .inl (fun _ => 0))), (q7, .inr (6, [.ref (u7 0)])), ((u7 0), .inl (cI, 5, .inl (fun _ => 0))), (q8, .inr (6, [.ref (u8 0)])), ((u8 0), .inl (cI, 5, .inl (fun _ => 0))), (q9, .inr (6, [.ref (u9 0)])), ((u9 0), .inl (cI, 5, .inl (fun _ => 0))), (q10, .inr (6, [.ref (u10 0)])), ((u10 0), .inl (cI, 5, .inl (fun _ => 0)))] _ _ _ _ _
  intro H locs hP hD hS
  refine W.widen (k := 20) (n := 630) (Nat.le_of_ble_eq_true rfl) (Nat.le_of_ble_eq_true rfl) ?_
  exact W.vret C.1 C.2.1 hr (fun t ht hW => ⟨⟨fun k => ([q1, (u1 0), q2, (u2 0), q3, (u3 0), q4, (u4 0), q5, (u5 0), q6, (u6 0), q7, (u7 0), q8, (u8 0), q9, (u9 0), q10, (u10 0)] : List Nat).getD k 0, rfl, trivial, by rw [ht]; exact hP, va_K.moved hW.alike hK, hD⟩, hS.F ht⟩) hS.2.2 (by decide +kernel)
abbrev w_X4 (cI cJ : ClassId) (h0 : Nat) (r1 : Nat) (r2 : Nat) (u : Nat → Nat) : va_W := [(h0, .inr (4, [.ref r1, .ref r2, .ref (u 0), .ref (u 2), .int 0, .int 0, .int (-1), .int 0, .int 0, .int (-1)])), ((u 0), .inr (6, [.ref (u 1)])), ((u 1), .inl (cI, 4, .inl (fun _ => 0))), ((u 2), .inr (6, [.ref (u 3)])), ((u 3), .inl (cI, 4, .inl (fun _ => 0)))]
set_option maxRecDepth 100000 in
set_option maxHeartbeats 8000000 in
theorem ci_X4 (hCK : CHK) (l : Launch) (D : va_G) (cI cJ : ClassId) (h0 sz : Nat) (r1 : Nat) (r2 : Nat) : Met l yX4_init (wkz yX4_init cX4_init 3) ({ frames := 2, cells := 4, slots := 10, locals := 42 }) (va_Pc [.ref h0, .ref r1, .ref r2] (IPre D cI cJ h0 (.inr (4, [.null, .null, .null, .null, .int 0, .int 0, .int 0, .int 0, .int 0, .int 0])) sz)) (IQ D cI cJ h0 (.inr (4, [.null, .null, .null, .null, .int 0, .int 0, .int 0, .int 0, .int 0, .int 0])) sz (w_X4 cI cJ h0 r1 r2)) 4 10 (va_A [(h0, (.inr (4, [.null, .null, .null, .null, .int 0, .int 0, .int 0, .int 0, .int 0, .int 0])))] sz) := by
  refine Met.ofW (cc := cX4_init) (maxL := 3) (ret := none) (by decide) rfl ?_
  intro p e s m args below meth c s₁ B hml hv
  obtain ⟨rfl, hsz, hP, hK, hD0, hN⟩ := hv
  have hts := atoms_spec (ws := wkz yX4_init cX4_init 3) B.pre
  have hown : s.vm.findClass RX4 = some m.cls := findClass_of_methodNamed B.named
  have hin : meth.name = "<init>" := (name_of_methodNamed B.named B.method).1
  have hr := B.returns
  have hlocks := B.notSynchronized
  have C : CI p s m ([.ref h0, .ref r1, .ref r2] : List Value).toArray c D cI cJ RX4 cX4_init 3 := ⟨B.exec, B.bytes, hml, hown, fun w hw => hts w (List.mem_cons_of_mem _ hw), hK, hN, hCK⟩
  subst hsz
  have hD := hD0.self (sz := s.heap.size)
  unfold IQ
  generalize hAe : va_A [(h0, (.inr (4, [.null, .null, .null, .null, .int 0, .int 0, .int 0, .int 0, .int 0, .int 0])))] s.heap.size = A at hD ⊢
  have hA : ∀ q : Nat, s.heap.size ≤ q → A q := fun q h => by rw [← hAe]; exact Or.inr h
  have hl := lv_entry ([.ref h0, .ref r1, .ref r2]) (n := 3) (Nat.le_of_ble_eq_true rfl)
  rw [lg_entry_eq]
  generalize (lg_sl ([.ref h0, .ref r1, .ref r2]) ++ List.replicate (3 - (lg_sl ([.ref h0, .ref r1, .ref r2])).length) Slot.unset).toArray = ls at hl ⊢
  have hl : lv_has ls 3 [(0, .ref h0), (1, .ref r1), (2, .ref r2)] := hl
  suffices hz : ZW p l e ({ frames := 2, cells := 4, slots := 10, locals := 42 }) s m ([.ref h0, .ref r1, .ref r2] : List Value).toArray below meth c _ D A s.heap [(h0, (.inr (4, [.null, .null, .null, .null, .int 0, .int 0, .int 0, .int 0, .int 0, .int 0])))] 0 0 0 ls [] from hz s.heap [] hP hD va_S.rf
  refine z_al C (k := 0) (by decide +kernel) rfl (lv_at hl 0 rfl) ?_
  refine z_oi C (idx := 3) (wAt_in (p := 200) (by decide +kernel)) (wAt_in (p := 112) (by decide +kernel)) (wAt_in (p := 113) (by decide +kernel)) hl.1 (by decide +kernel) (Nat.le_of_ble_eq_true rfl) (Nat.le_of_ble_eq_true rfl) ?_
  refine z_al C (k := 0) (by decide +kernel) rfl (lv_at hl 0 rfl) ?_
  refine z_new C hA (idx := 9) 6 tyX6 [.null] rfl tyX6_ok blX6 (wAt_in (p := 201) (by decide +kernel)) (wAt_in (p := 121) (by decide +kernel)) (wAt_in (p := 93) (by decide +kernel)) (by decide +kernel) ⟨Nat.le_of_ble_eq_true rfl, Nat.le_of_ble_eq_true rfl⟩ (fun q1 => ?_)
  refine z_dup C (by decide +kernel) rfl ?_
  refine z_ic C (n := 4) (v := 4) (by decide +kernel) (by decide) ?_
  refine z_call C hA (idx := 11) (As := [.int 4]) (fun sz => ci_X6 hCK l D cI cJ q1 sz 4 (by decide)) rfl rfl (wAt_in (p := 124) (by decide +kernel)) (wAt_in (p := 93) (by decide +kernel)) (wAt_in (p := 123) (by decide +kernel)) (Or.inl (wAt_in (p := 202) (by decide +kernel))) rfl ⟨by decide +kernel, by decide +kernel, by decide +kernel⟩ ⟨Nat.le_of_ble_eq_true rfl, Nat.le_of_ble_eq_true rfl⟩ hl.1 (Nat.le_of_ble_eq_true rfl) (by decide +kernel) ⟨Nat.le_of_ble_eq_true rfl, Nat.le_of_ble_eq_true rfl⟩ (fun u1 => ?_)
  change ZW _ _ _ _ _ _ _ _ _ _ _ _ _ _ [(h0, .inr (4, [.null, .null, .null, .null, .int 0, .int 0, .int 0, .int 0, .int 0, .int 0])), (q1, .inr (6, [.ref (u1 0)])), ((u1 0), .inl (cI, 4, .inl (fun _ => 0)))] _ _ _ _ _
  refine z_pf C hin (idx := 14) 0 2 rfl rfl (by decide) (wAt_in (p := 205) (by decide +kernel)) rfl rfl (tyX4 2) (tyX4_ok 2 (by decide)) rfl rfl (Nat.le_of_ble_eq_true rfl) (by decide +kernel) ?_
  change ZW _ _ _ _ _ _ _ _ _ _ _ _ _ _ [(h0, .inr (4, [.null, .null, .ref q1, .null, .int 0, .int 0, .int 0, .int 0, .int 0, .int 0])), (q1, .inr (6, [.ref (u1 0)])), ((u1 0), .inl (cI, 4, .inl (fun _ => 0)))] _ _ _ _ _
  refine z_al C (k := 0) (by decide +kernel) rfl (lv_at hl 0 rfl) ?_
  refine z_new C hA (idx := 9) 6 tyX6 [.null] rfl tyX6_ok blX6 (wAt_in (p := 201) (by decide +kernel)) (wAt_in (p := 121) (by decide +kernel)) (wAt_in (p := 93) (by decide +kernel)) (by decide +kernel) ⟨Nat.le_of_ble_eq_true rfl, Nat.le_of_ble_eq_true rfl⟩ (fun q2 => ?_)
  refine z_dup C (by decide +kernel) rfl ?_
  refine z_ic C (n := 4) (v := 4) (by decide +kernel) (by decide) ?_
  refine z_call C hA (idx := 11) (As := [.int 4]) (fun sz => ci_X6 hCK l D cI cJ q2 sz 4 (by decide)) rfl rfl (wAt_in (p := 124) (by decide +kernel)) (wAt_in (p := 93) (by decide +kernel)) (wAt_in (p := 123) (by decide +kernel)) (Or.inl (wAt_in (p := 202) (by decide +kernel))) rfl ⟨by decide +kernel, by decide +kernel, by decide +kernel⟩ ⟨Nat.le_of_ble_eq_true rfl, Nat.le_of_ble_eq_true rfl⟩ hl.1 (Nat.le_of_ble_eq_true rfl) (by decide +kernel) ⟨Nat.le_of_ble_eq_true rfl, Nat.le_of_ble_eq_true rfl⟩ (fun u2 => ?_)
  change ZW _ _ _ _ _ _ _ _ _ _ _ _ _ _ [(h0, .inr (4, [.null, .null, .ref q1, .null, .int 0, .int 0, .int 0, .int 0, .int 0, .int 0])), (q1, .inr (6, [.ref (u1 0)])), ((u1 0), .inl (cI, 4, .inl (fun _ => 0))), (q2, .inr (6, [.ref (u2 0)])), ((u2 0), .inl (cI, 4, .inl (fun _ => 0)))] _ _ _ _ _
  refine z_pf C hin (idx := 20) 0 3 rfl rfl (by decide) (wAt_in (p := 206) (by decide +kernel)) rfl rfl (tyX4 3) (tyX4_ok 3 (by decide)) rfl rfl (Nat.le_of_ble_eq_true rfl) (by decide +kernel) ?_
  change ZW _ _ _ _ _ _ _ _ _ _ _ _ _ _ [(h0, .inr (4, [.null, .null, .ref q1, .ref q2, .int 0, .int 0, .int 0, .int 0, .int 0, .int 0])), (q1, .inr (6, [.ref (u1 0)])), ((u1 0), .inl (cI, 4, .inl (fun _ => 0))), (q2, .inr (6, [.ref (u2 0)])), ((u2 0), .inl (cI, 4, .inl (fun _ => 0)))] _ _ _ _ _
  refine z_al C (k := 0) (by decide +kernel) rfl (lv_at hl 0 rfl) ?_
  refine z_ic C (n := (-1)) (v := (-1)) (by decide +kernel) (by decide) ?_
  refine z_pn C (idx := 23) 0 6 rfl rfl (by decide) (wAt_in (p := 209) (by decide +kernel)) rfl (tyX4 6) (tyX4_ok 6 (by decide)) rfl rfl (Nat.le_of_ble_eq_true rfl) (by decide +kernel) ?_
  change ZW _ _ _ _ _ _ _ _ _ _ _ _ _ _ [(h0, .inr (4, [.null, .null, .ref q1, .ref q2, .int 0, .int 0, .int (-1), .int 0, .int 0, .int 0])), (q1, .inr (6, [.ref (u1 0)])), ((u1 0), .inl (cI, 4, .inl (fun _ => 0))), (q2, .inr (6, [.ref (u2 0)])), ((u2 0), .inl (cI, 4, .inl (fun _ => 0)))] _ _ _ _ _
  refine z_al C (k := 0) (by decide +kernel) rfl (lv_at hl 0 rfl) ?_
  refine z_ic C (n := (-1)) (v := (-1)) (by decide +kernel) (by decide) ?_
  refine z_pn C (idx := 27) 0 9 rfl rfl (by decide) (wAt_in (p := 212) (by decide +kernel)) rfl (tyX4 9) (tyX4_ok 9 (by decide)) rfl rfl (Nat.le_of_ble_eq_true rfl) (by decide +kernel) ?_
  change ZW _ _ _ _ _ _ _ _ _ _ _ _ _ _ [(h0, .inr (4, [.null, .null, .ref q1, .ref q2, .int 0, .int 0, .int (-1), .int 0, .int 0, .int (-1)])), (q1, .inr (6, [.ref (u1 0)])), ((u1 0), .inl (cI, 4, .inl (fun _ => 0))), (q2, .inr (6, [.ref (u2 0)])), ((u2 0), .inl (cI, 4, .inl (fun _ => 0)))] _ _ _ _ _
  refine z_al C (k := 0) (by decide +kernel) rfl (lv_at hl 0 rfl) ?_
  refine z_al C (k := 1) (by decide +kernel) rfl (lv_at hl 1 rfl) ?_
  refine z_pf C hin (idx := 30) 0 0 rfl rfl (by decide) (wAt_in (p := 203) (by decide +kernel)) rfl rfl (tyX4 0) (tyX4_ok 0 (by decide)) rfl rfl (Nat.le_of_ble_eq_true rfl) (by decide +kernel) ?_
  change ZW _ _ _ _ _ _ _ _ _ _ _ _ _ _ [(h0, .inr (4, [.ref r1, .null, .ref q1, .ref q2, .int 0, .int 0, .int (-1), .int 0, .int 0, .int (-1)])), (q1, .inr (6, [.ref (u1 0)])), ((u1 0), .inl (cI, 4, .inl (fun _ => 0))), (q2, .inr (6, [.ref (u2 0)])), ((u2 0), .inl (cI, 4, .inl (fun _ => 0)))] _ _ _ _ _
  refine z_al C (k := 0) (by decide +kernel) rfl (lv_at hl 0 rfl) ?_
  refine z_al C (k := 2) (by decide +kernel) rfl (lv_at hl 2 rfl) ?_
  refine z_pf C hin (idx := 34) 0 1 rfl rfl (by decide) (wAt_in (p := 204) (by decide +kernel)) rfl rfl (tyX4 1) (tyX4_ok 1 (by decide)) rfl rfl (Nat.le_of_ble_eq_true rfl) (by decide +kernel) ?_
  change ZW _ _ _ _ _ _ _ _ _ _ _ _ _ _ [(h0, .inr (4, [.ref r1, .ref r2, .ref q1, .ref q2, .int 0, .int 0, .int (-1), .int 0, .int 0, .int (-1)])), (q1, .inr (6, [.ref (u1 0)])), ((u1 0), .inl (cI, 4, .inl (fun _ => 0))), (q2, .inr (6, [.ref (u2 0)])), ((u2 0), .inl (cI, 4, .inl (fun _ => 0)))] _ _ _ _ _
  intro H locs hP hD hS
  refine W.widen (k := 4) (n := 10) (Nat.le_of_ble_eq_true rfl) (Nat.le_of_ble_eq_true rfl) ?_
  exact W.vret C.1 C.2.1 hr (fun t ht hW => ⟨⟨fun k => ([q1, (u1 0), q2, (u2 0)] : List Nat).getD k 0, rfl, trivial, by rw [ht]; exact hP, va_K.moved hW.alike hK, hD⟩, hS.F ht⟩) hS.2.2 (by decide +kernel)
abbrev w_X1 (cI cJ : ClassId) (h0 : Nat) (r1 : Nat) (u : Nat → Nat) : va_W := [(h0, .inr (1, [.ref r1, .ref (u 0), .ref (u 2), .ref (u 4), .ref (u 6), .ref (u 8), .ref (u 10), .ref (u 12), .ref (u 14), .int 0, .int 0, .int 0, .int 0, .int (-1), .int (-1), .int 0, .int 0])), ((u 0), .inr (6, [.ref (u 1)])), ((u 1), .inl (cI, 720, .inl (fun _ => 0))), ((u 2), .inr (6, [.ref (u 3)])), ((u 3), .inl (cI, 30, .inl (fun _ => 0))), ((u 4), .inr (6, [.ref (u 5)])), ((u 5), .inl (cI, 30, .inl (fun _ => 0))), ((u 6), .inr (6, [.ref (u 7)])), ((u 7), .inl (cI, 30, .inl (fun _ => 0))), ((u 8), .inr (6, [.ref (u 9)])), ((u 9), .inl (cI, 30, .inl (fun _ => 0))), ((u 10), .inr (6, [.ref (u 11)])), ((u 11), .inl (cI, 30, .inl (fun _ => 0))), ((u 12), .inr (6, [.ref (u 13)])), ((u 13), .inl (cI, 4, .inl (fun _ => 0))), ((u 14), .inr (6, [.ref (u 15)])), ((u 15), .inl (cI, 4, .inl (fun _ => 0)))]
set_option maxRecDepth 100000 in
set_option maxHeartbeats 8000000 in
theorem ci_X1 (hCK : CHK) (l : Launch) (D : va_G) (cI cJ : ClassId) (h0 sz : Nat) (r1 : Nat) : Met l yX1_init (wkz yX1_init cX1_init 2) ({ frames := 2, cells := 16, slots := 886, locals := 42 }) (va_Pc [.ref h0, .ref r1] (IPre D cI cJ h0 (.inr (1, [.null, .null, .null, .null, .null, .null, .null, .null, .null, .int 0, .int 0, .int 0, .int 0, .int 0, .int 0, .int 0, .int 0])) sz)) (IQ D cI cJ h0 (.inr (1, [.null, .null, .null, .null, .null, .null, .null, .null, .null, .int 0, .int 0, .int 0, .int 0, .int 0, .int 0, .int 0, .int 0])) sz (w_X1 cI cJ h0 r1)) 16 886 (va_A [(h0, (.inr (1, [.null, .null, .null, .null, .null, .null, .null, .null, .null, .int 0, .int 0, .int 0, .int 0, .int 0, .int 0, .int 0, .int 0])))] sz) := by
  refine Met.ofW (cc := cX1_init) (maxL := 2) (ret := none) (by decide) rfl ?_
  intro p e s m args below meth c s₁ B hml hv
  obtain ⟨rfl, hsz, hP, hK, hD0, hN⟩ := hv
  have hts := atoms_spec (ws := wkz yX1_init cX1_init 2) B.pre
  have hown : s.vm.findClass RX1 = some m.cls := findClass_of_methodNamed B.named
  have hin : meth.name = "<init>" := (name_of_methodNamed B.named B.method).1
  have hr := B.returns
  have hlocks := B.notSynchronized
  have C : CI p s m ([.ref h0, .ref r1] : List Value).toArray c D cI cJ RX1 cX1_init 2 := ⟨B.exec, B.bytes, hml, hown, fun w hw => hts w (List.mem_cons_of_mem _ hw), hK, hN, hCK⟩
  subst hsz
  have hD := hD0.self (sz := s.heap.size)
  unfold IQ
  generalize hAe : va_A [(h0, (.inr (1, [.null, .null, .null, .null, .null, .null, .null, .null, .null, .int 0, .int 0, .int 0, .int 0, .int 0, .int 0, .int 0, .int 0])))] s.heap.size = A at hD ⊢
  have hA : ∀ q : Nat, s.heap.size ≤ q → A q := fun q h => by rw [← hAe]; exact Or.inr h
  have hl := lv_entry ([.ref h0, .ref r1]) (n := 2) (Nat.le_of_ble_eq_true rfl)
  rw [lg_entry_eq]
  generalize (lg_sl ([.ref h0, .ref r1]) ++ List.replicate (2 - (lg_sl ([.ref h0, .ref r1])).length) Slot.unset).toArray = ls at hl ⊢
  have hl : lv_has ls 2 [(0, .ref h0), (1, .ref r1)] := hl
  suffices hz : ZW p l e ({ frames := 2, cells := 16, slots := 886, locals := 42 }) s m ([.ref h0, .ref r1] : List Value).toArray below meth c _ D A s.heap [(h0, (.inr (1, [.null, .null, .null, .null, .null, .null, .null, .null, .null, .int 0, .int 0, .int 0, .int 0, .int 0, .int 0, .int 0, .int 0])))] 0 0 0 ls [] from hz s.heap [] hP hD va_S.rf
  refine z_al C (k := 0) (by decide +kernel) rfl (lv_at hl 0 rfl) ?_
  refine z_oi C (idx := 3) (wAt_in (p := 239) (by decide +kernel)) (wAt_in (p := 112) (by decide +kernel)) (wAt_in (p := 113) (by decide +kernel)) hl.1 (by decide +kernel) (Nat.le_of_ble_eq_true rfl) (Nat.le_of_ble_eq_true rfl) ?_
  refine z_al C (k := 0) (by decide +kernel) rfl (lv_at hl 0 rfl) ?_
  refine z_new C hA (idx := 9) 6 tyX6 [.null] rfl tyX6_ok blX6 (wAt_in (p := 240) (by decide +kernel)) (wAt_in (p := 121) (by decide +kernel)) (wAt_in (p := 93) (by decide +kernel)) (by decide +kernel) ⟨Nat.le_of_ble_eq_true rfl, Nat.le_of_ble_eq_true rfl⟩ (fun q1 => ?_)
  refine z_dup C (by decide +kernel) rfl ?_
  refine z_sp C (n := 720) (v := 720) (by decide +kernel) (by decide) ?_
  refine z_call C hA (idx := 11) (As := [.int 720]) (fun sz => ci_X6 hCK l D cI cJ q1 sz 720 (by decide)) rfl rfl (wAt_in (p := 124) (by decide +kernel)) (wAt_in (p := 93) (by decide +kernel)) (wAt_in (p := 123) (by decide +kernel)) (Or.inl (wAt_in (p := 241) (by decide +kernel))) rfl ⟨by decide +kernel, by decide +kernel, by decide +kernel⟩ ⟨Nat.le_of_ble_eq_true rfl, Nat.le_of_ble_eq_true rfl⟩ hl.1 (Nat.le_of_ble_eq_true rfl) (by decide +kernel) ⟨Nat.le_of_ble_eq_true rfl, Nat.le_of_ble_eq_true rfl⟩ (fun u1 => ?_)
  change ZW _ _ _ _ _ _ _ _ _ _ _ _ _ _ [(h0, .inr (1, [.null, .null, .null, .null, .null, .null, .null, .null, .null, .int 0, .int 0, .int 0, .int 0, .int 0, .int 0, .int 0, .int 0])), (q1, .inr (6, [.ref (u1 0)])), ((u1 0), .inl (cI, 720, .inl (fun _ => 0)))] _ _ _ _ _
  refine z_pf C hin (idx := 14) 0 1 rfl rfl (by decide) (wAt_in (p := 243) (by decide +kernel)) rfl rfl (tyX1 1) (tyX1_ok 1 (by decide)) rfl rfl (Nat.le_of_ble_eq_true rfl) (by decide +kernel) ?_
  change ZW _ _ _ _ _ _ _ _ _ _ _ _ _ _ [(h0, .inr (1, [.null, .ref q1, .null, .null, .null, .null, .null, .null, .null, .int 0, .int 0, .int 0, .int 0, .int 0, .int 0, .int 0, .int 0])), (q1, .inr (6, [.ref (u1 0)])), ((u1 0), .inl (cI, 720, .inl (fun _ => 0)))] _ _ _ _ _
  refine z_al C (k := 0) (by decide +kernel) rfl (lv_at hl 0 rfl) ?_
  refine z_new C hA (idx := 9) 6 tyX6 [.null] rfl tyX6_ok blX6 (wAt_in (p := 240) (by decide +kernel)) (wAt_in (p := 121) (by decide +kernel)) (wAt_in (p := 93) (by decide +kernel)) (by decide +kernel) ⟨Nat.le_of_ble_eq_true rfl, Nat.le_of_ble_eq_true rfl⟩ (fun q2 => ?_)
  refine z_dup C (by decide +kernel) rfl ?_
  refine z_bp C (n := 30) (v := 30) (by decide +kernel) (by decide) ?_
  refine z_call C hA (idx := 11) (As := [.int 30]) (fun sz => ci_X6 hCK l D cI cJ q2 sz 30 (by decide)) rfl rfl (wAt_in (p := 124) (by decide +kernel)) (wAt_in (p := 93) (by decide +kernel)) (wAt_in (p := 123) (by decide +kernel)) (Or.inl (wAt_in (p := 241) (by decide +kernel))) rfl ⟨by decide +kernel, by decide +kernel, by decide +kernel⟩ ⟨Nat.le_of_ble_eq_true rfl, Nat.le_of_ble_eq_true rfl⟩ hl.1 (Nat.le_of_ble_eq_true rfl) (by decide +kernel) ⟨Nat.le_of_ble_eq_true rfl, Nat.le_of_ble_eq_true rfl⟩ (fun u2 => ?_)
  change ZW _ _ _ _ _ _ _ _ _ _ _ _ _ _ [(h0, .inr (1, [.null, .ref q1, .null, .null, .null, .null, .null, .null, .null, .int 0, .int 0, .int 0, .int 0, .int 0, .int 0, .int 0, .int 0])), (q1, .inr (6, [.ref (u1 0)])), ((u1 0), .inl (cI, 720, .inl (fun _ => 0))), (q2, .inr (6, [.ref (u2 0)])), ((u2 0), .inl (cI, 30, .inl (fun _ => 0)))] _ _ _ _ _
  refine z_pf C hin (idx := 20) 0 2 rfl rfl (by decide) (wAt_in (p := 244) (by decide +kernel)) rfl rfl (tyX1 2) (tyX1_ok 2 (by decide)) rfl rfl (Nat.le_of_ble_eq_true rfl) (by decide +kernel) ?_
  change ZW _ _ _ _ _ _ _ _ _ _ _ _ _ _ [(h0, .inr (1, [.null, .ref q1, .ref q2, .null, .null, .null, .null, .null, .null, .int 0, .int 0, .int 0, .int 0, .int 0, .int 0, .int 0, .int 0])), (q1, .inr (6, [.ref (u1 0)])), ((u1 0), .inl (cI, 720, .inl (fun _ => 0))), (q2, .inr (6, [.ref (u2 0)])), ((u2 0), .inl (cI, 30, .inl (fun _ => 0)))] _ _ _ _ _
  refine z_al C (k := 0) (by decide +kernel) rfl (lv_at hl 0 rfl) ?_
  refine z_new C hA (idx := 9) 6 tyX6 [.null] rfl tyX6_ok blX6 (wAt_in (p := 240) (by decide +kernel)) (wAt_in (p := 121) (by decide +kernel)) (wAt_in (p := 93) (by decide +kernel)) (by decide +kernel) ⟨Nat.le_of_ble_eq_true rfl, Nat.le_of_ble_eq_true rfl⟩ (fun q3 => ?_)
  refine z_dup C (by decide +kernel) rfl ?_
  refine z_bp C (n := 30) (v := 30) (by decide +kernel) (by decide) ?_
  refine z_call C hA (idx := 11) (As := [.int 30]) (fun sz => ci_X6 hCK l D cI cJ q3 sz 30 (by decide)) rfl rfl (wAt_in (p := 124) (by decide +kernel)) (wAt_in (p := 93) (by decide +kernel)) (wAt_in (p := 123) (by decide +kernel)) (Or.inl (wAt_in (p := 241) (by decide +kernel))) rfl ⟨by decide +kernel, by decide +kernel, by decide +kernel⟩ ⟨Nat.le_of_ble_eq_true rfl, Nat.le_of_ble_eq_true rfl⟩ hl.1 (Nat.le_of_ble_eq_true rfl) (by decide +kernel) ⟨Nat.le_of_ble_eq_true rfl, Nat.le_of_ble_eq_true rfl⟩ (fun u3 => ?_)
  change ZW _ _ _ _ _ _ _ _ _ _ _ _ _ _ [(h0, .inr (1, [.null, .ref q1, .ref q2, .null, .null, .null, .null, .null, .null, .int 0, .int 0, .int 0, .int 0, .int 0, .int 0, .int 0, .int 0])), (q1, .inr (6, [.ref (u1 0)])), ((u1 0), .inl (cI, 720, .inl (fun _ => 0))), (q2, .inr (6, [.ref (u2 0)])), ((u2 0), .inl (cI, 30, .inl (fun _ => 0))), (q3, .inr (6, [.ref (u3 0)])), ((u3 0), .inl (cI, 30, .inl (fun _ => 0)))] _ _ _ _ _
  refine z_pf C hin (idx := 23) 0 3 rfl rfl (by decide) (wAt_in (p := 245) (by decide +kernel)) rfl rfl (tyX1 3) (tyX1_ok 3 (by decide)) rfl rfl (Nat.le_of_ble_eq_true rfl) (by decide +kernel) ?_
  change ZW _ _ _ _ _ _ _ _ _ _ _ _ _ _ [(h0, .inr (1, [.null, .ref q1, .ref q2, .ref q3, .null, .null, .null, .null, .null, .int 0, .int 0, .int 0, .int 0, .int 0, .int 0, .int 0, .int 0])), (q1, .inr (6, [.ref (u1 0)])), ((u1 0), .inl (cI, 720, .inl (fun _ => 0))), (q2, .inr (6, [.ref (u2 0)])), ((u2 0), .inl (cI, 30, .inl (fun _ => 0))), (q3, .inr (6, [.ref (u3 0)])), ((u3 0), .inl (cI, 30, .inl (fun _ => 0)))] _ _ _ _ _
  refine z_al C (k := 0) (by decide +kernel) rfl (lv_at hl 0 rfl) ?_
  refine z_new C hA (idx := 9) 6 tyX6 [.null] rfl tyX6_ok blX6 (wAt_in (p := 240) (by decide +kernel)) (wAt_in (p := 121) (by decide +kernel)) (wAt_in (p := 93) (by decide +kernel)) (by decide +kernel) ⟨Nat.le_of_ble_eq_true rfl, Nat.le_of_ble_eq_true rfl⟩ (fun q4 => ?_)
  refine z_dup C (by decide +kernel) rfl ?_
  refine z_bp C (n := 30) (v := 30) (by decide +kernel) (by decide) ?_
  refine z_call C hA (idx := 11) (As := [.int 30]) (fun sz => ci_X6 hCK l D cI cJ q4 sz 30 (by decide)) rfl rfl (wAt_in (p := 124) (by decide +kernel)) (wAt_in (p := 93) (by decide +kernel)) (wAt_in (p := 123) (by decide +kernel)) (Or.inl (wAt_in (p := 241) (by decide +kernel))) rfl ⟨by decide +kernel, by decide +kernel, by decide +kernel⟩ ⟨Nat.le_of_ble_eq_true rfl, Nat.le_of_ble_eq_true rfl⟩ hl.1 (Nat.le_of_ble_eq_true rfl) (by decide +kernel) ⟨Nat.le_of_ble_eq_true rfl, Nat.le_of_ble_eq_true rfl⟩ (fun u4 => ?_)
  change ZW _ _ _ _ _ _ _ _ _ _ _ _ _ _ [(h0, .inr (1, [.null, .ref q1, .ref q2, .ref q3, .null, .null, .null, .null, .null, .int 0, .int 0, .int 0, .int 0, .int 0, .int 0, .int 0, .int 0])), (q1, .inr (6, [.ref (u1 0)])), ((u1 0), .inl (cI, 720, .inl (fun _ => 0))), (q2, .inr (6, [.ref (u2 0)])), ((u2 0), .inl (cI, 30, .inl (fun _ => 0))), (q3, .inr (6, [.ref (u3 0)])), ((u3 0), .inl (cI, 30, .inl (fun _ => 0))), (q4, .inr (6, [.ref (u4 0)])), ((u4 0), .inl (cI, 30, .inl (fun _ => 0)))] _ _ _ _ _
  refine z_pf C hin (idx := 26) 0 4 rfl rfl (by decide) (wAt_in (p := 246) (by decide +kernel)) rfl rfl (tyX1 4) (tyX1_ok 4 (by decide)) rfl rfl (Nat.le_of_ble_eq_true rfl) (by decide +kernel) ?_
  change ZW _ _ _ _ _ _ _ _ _ _ _ _ _ _ [(h0, .inr (1, [.null, .ref q1, .ref q2, .ref q3, .ref q4, .null, .null, .null, .null, .int 0, .int 0, .int 0, .int 0, .int 0, .int 0, .int 0, .int 0])), (q1, .inr (6, [.ref (u1 0)])), ((u1 0), .inl (cI, 720, .inl (fun _ => 0))), (q2, .inr (6, [.ref (u2 0)])), ((u2 0), .inl (cI, 30, .inl (fun _ => 0))), (q3, .inr (6, [.ref (u3 0)])), ((u3 0), .inl (cI, 30, .inl (fun _ => 0))), (q4, .inr (6, [.ref (u4 0)])), ((u4 0), .inl (cI, 30, .inl (fun _ => 0)))] _ _ _ _ _
  refine z_al C (k := 0) (by decide +kernel) rfl (lv_at hl 0 rfl) ?_
  refine z_new C hA (idx := 9) 6 tyX6 [.null] rfl tyX6_ok blX6 (wAt_in (p := 240) (by decide +kernel)) (wAt_in (p := 121) (by decide +kernel)) (wAt_in (p := 93) (by decide +kernel)) (by decide +kernel) ⟨Nat.le_of_ble_eq_true rfl, Nat.le_of_ble_eq_true rfl⟩ (fun q5 => ?_)
  refine z_dup C (by decide +kernel) rfl ?_
  refine z_bp C (n := 30) (v := 30) (by decide +kernel) (by decide) ?_
  refine z_call C hA (idx := 11) (As := [.int 30]) (fun sz => ci_X6 hCK l D cI cJ q5 sz 30 (by decide)) rfl rfl (wAt_in (p := 124) (by decide +kernel)) (wAt_in (p := 93) (by decide +kernel)) (wAt_in (p := 123) (by decide +kernel)) (Or.inl (wAt_in (p := 241) (by decide +kernel))) rfl ⟨by decide +kernel, by decide +kernel, by decide +kernel⟩ ⟨Nat.le_of_ble_eq_true rfl, Nat.le_of_ble_eq_true rfl⟩ hl.1 (Nat.le_of_ble_eq_true rfl) (by decide +kernel) ⟨Nat.le_of_ble_eq_true rfl, Nat.le_of_ble_eq_true rfl⟩ (fun u5 => ?_)
  change ZW _ _ _ _ _ _ _ _ _ _ _ _ _ _ [(h0, .inr (1, [.null, .ref q1, .ref q2, .ref q3, .ref q4, .null, .null, .null, .null, .int 0, .int 0, .int 0, .int 0, .int 0, .int 0, .int 0, .int 0])), (q1, .inr (6, [.ref (u1 0)])), ((u1 0), .inl (cI, 720, .inl (fun _ => 0))), (q2, .inr (6, [.ref (u2 0)])), ((u2 0), .inl (cI, 30, .inl (fun _ => 0))), (q3, .inr (6, [.ref (u3 0)])), ((u3 0), .inl (cI, 30, .inl (fun _ => 0))), (q4, .inr (6, [.ref (u4 0)])), ((u4 0), .inl (cI, 30, .inl (fun _ => 0))), (q5, .inr (6, [.ref (u5 0)])), ((u5 0), .inl (cI, 30, .inl (fun _ => 0)))] _ _ _ _ _
  refine z_pf C hin (idx := 29) 0 5 rfl rfl (by decide) (wAt_in (p := 247) (by decide +kernel)) rfl rfl (tyX1 5) (tyX1_ok 5 (by decide)) rfl rfl (Nat.le_of_ble_eq_true rfl) (by decide +kernel) ?_
  change ZW _ _ _ _ _ _ _ _ _ _ _ _ _ _ [(h0, .inr (1, [.null, .ref q1, .ref q2, .ref q3, .ref q4, .ref q5, .null, .null, .null, .int 0, .int 0, .int 0, .int 0, .int 0, .int 0, .int 0, .int 0])), (q1, .inr (6, [.ref (u1 0)])), ((u1 0), .inl (cI, 720, .inl (fun _ => 0))), (q2, .inr (6, [.ref (u2 0)])), ((u2 0), .inl (cI, 30, .inl (fun _ => 0))), (q3, .inr (6, [.ref (u3 0)])), ((u3 0), .inl (cI, 30, .inl (fun _ => 0))), (q4, .inr (6, [.ref (u4 0)])), ((u4 0), .inl (cI, 30, .inl (fun _ => 0))), (q5, .inr (6, [.ref (u5 0)])), ((u5 0), .inl (cI, 30, .inl (fun _ => 0)))] _ _ _ _ _
  refine z_al C (k := 0) (by decide +kernel) rfl (lv_at hl 0 rfl) ?_
  refine z_new C hA (idx := 9) 6 tyX6 [.null] rfl tyX6_ok blX6 (wAt_in (p := 240) (by decide +kernel)) (wAt_in (p := 121) (by decide +kernel)) (wAt_in (p := 93) (by decide +kernel)) (by decide +kernel) ⟨Nat.le_of_ble_eq_true rfl, Nat.le_of_ble_eq_true rfl⟩ (fun q6 => ?_)
  refine z_dup C (by decide +kernel) rfl ?_
  refine z_bp C (n := 30) (v := 30) (by decide +kernel) (by decide) ?_
  refine z_call C hA (idx := 11) (As := [.int 30]) (fun sz => ci_X6 hCK l D cI cJ q6 sz 30 (by decide)) rfl rfl (wAt_in (p := 124) (by decide +kernel)) (wAt_in (p := 93) (by decide +kernel)) (wAt_in (p := 123) (by decide +kernel)) (Or.inl (wAt_in (p := 241) (by decide +kernel))) rfl ⟨by decide +kernel, by decide +kernel, by decide +kernel⟩ ⟨Nat.le_of_ble_eq_true rfl, Nat.le_of_ble_eq_true rfl⟩ hl.1 (Nat.le_of_ble_eq_true rfl) (by decide +kernel) ⟨Nat.le_of_ble_eq_true rfl, Nat.le_of_ble_eq_true rfl⟩ (fun u6 => ?_)
  change ZW _ _ _ _ _ _ _ _ _ _ _ _ _ _ [(h0, .inr (1, [.null, .ref q1, .ref q2, .ref q3, .ref q4, .ref q5, .null, .null, .null, .int 0, .int 0, .int 0, .int 0, .int 0, .int 0, .int 0, .int 0])), (q1, .inr (6, [.ref (u1 0)])), ((u1 0), .inl (cI, 720, .inl (fun _ => 0))), (q2, .inr (6, [.ref (u2 0)])), ((u2 0), .inl (cI, 30, .inl (fun _ => 0))), (q3, .inr (6, [.ref (u3 0)])), ((u3 0), .inl (cI, 30, .inl (fun _ => 0))), (q4, .inr (6, [.ref (u4 0)])), ((u4 0), .inl (cI, 30, .inl (fun _ => 0))), (q5, .inr (6, [.ref (u5 0)])), ((u5 0), .inl (cI, 30, .inl (fun _ => 0))), (q6, .inr (6, [.ref (u6 0)])), ((u6 0), .inl (cI, 30, .inl (fun _ => 0)))] _ _ _ _ _
  refine z_pf C hin (idx := 32) 0 6 rfl rfl (by decide) (wAt_in (p := 248) (by decide +kernel)) rfl rfl (tyX1 6) (tyX1_ok 6 (by decide)) rfl rfl (Nat.le_of_ble_eq_true rfl) (by decide +kernel) ?_
  change ZW _ _ _ _ _ _ _ _ _ _ _ _ _ _ [(h0, .inr (1, [.null, .ref q1, .ref q2, .ref q3, .ref q4, .ref q5, .ref q6, .null, .null, .int 0, .int 0, .int 0, .int 0, .int 0, .int 0, .int 0, .int 0])), (q1, .inr (6, [.ref (u1 0)])), ((u1 0), .inl (cI, 720, .inl (fun _ => 0))), (q2, .inr (6, [.ref (u2 0)])), ((u2 0), .inl (cI, 30, .inl (fun _ => 0))), (q3, .inr (6, [.ref (u3 0)])), ((u3 0), .inl (cI, 30, .inl (fun _ => 0))), (q4, .inr (6, [.ref (u4 0)])), ((u4 0), .inl (cI, 30, .inl (fun _ => 0))), (q5, .inr (6, [.ref (u5 0)])), ((u5 0), .inl (cI, 30, .inl (fun _ => 0))), (q6, .inr (6, [.ref (u6 0)])), ((u6 0), .inl (cI, 30, .inl (fun _ => 0)))] _ _ _ _ _
  refine z_al C (k := 0) (by decide +kernel) rfl (lv_at hl 0 rfl) ?_
  refine z_new C hA (idx := 9) 6 tyX6 [.null] rfl tyX6_ok blX6 (wAt_in (p := 240) (by decide +kernel)) (wAt_in (p := 121) (by decide +kernel)) (wAt_in (p := 93) (by decide +kernel)) (by decide +kernel) ⟨Nat.le_of_ble_eq_true rfl, Nat.le_of_ble_eq_true rfl⟩ (fun q7 => ?_)
  refine z_dup C (by decide +kernel) rfl ?_
  refine z_ic C (n := 4) (v := 4) (by decide +kernel) (by decide) ?_
  refine z_call C hA (idx := 11) (As := [.int 4]) (fun sz => ci_X6 hCK l D cI cJ q7 sz 4 (by decide)) rfl rfl (wAt_in (p := 124) (by decide +kernel)) (wAt_in (p := 93) (by decide +kernel)) (wAt_in (p := 123) (by decide +kernel)) (Or.inl (wAt_in (p := 241) (by decide +kernel))) rfl ⟨by decide +kernel, by decide +kernel, by decide +kernel⟩ ⟨Nat.le_of_ble_eq_true rfl, Nat.le_of_ble_eq_true rfl⟩ hl.1 (Nat.le_of_ble_eq_true rfl) (by decide +kernel) ⟨Nat.le_of_ble_eq_true rfl, Nat.le_of_ble_eq_true rfl⟩ (fun u7 => ?_)
  change ZW _ _ _ _ _ _ _ _ _ _ _ _ _ _ [(h0, .inr (1, [.null, .ref q1, .ref q2, .ref q3, .ref q4, .ref q5, .ref q6, .null, .null, .int 0, .int 0, .int 0, .int 0, .int 0, .int 0, .int 0, .int 0])), (q1, .inr (6, [.ref (u1 0)])), ((u1 0), .inl (cI, 720, .inl (fun _ => 0))), (q2, .inr (6, [.ref (u2 0)])), ((u2 0), .inl (cI, 30, .inl (fun _ => 0))), (q3, .inr (6, [.ref (u3 0)])), ((u3 0), .inl (cI, 30, .inl (fun _ => 0))), (q4, .inr (6, [.ref (u4 0)])), ((u4 0), .inl (cI, 30, .inl (fun _ => 0))), (q5, .inr (6, [.ref (u5 0)])), ((u5 0), .inl (cI, 30, .inl (fun _ => 0))), (q6, .inr (6, [.ref (u6 0)])), ((u6 0), .inl (cI, 30, .inl (fun _ => 0))), (q7, .inr (6, [.ref (u7 0)])), ((u7 0), .inl (cI, 4, .inl (fun _ => 0)))] _ _ _ _ _
  refine z_pf C hin (idx := 35) 0 7 rfl rfl (by decide) (wAt_in (p := 249) (by decide +kernel)) rfl rfl (tyX1 7) (tyX1_ok 7 (by decide)) rfl rfl (Nat.le_of_ble_eq_true rfl) (by decide +kernel) ?_
  change ZW _ _ _ _ _ _ _ _ _ _ _ _ _ _ [(h0, .inr (1, [.null, .ref q1, .ref q2, .ref q3, .ref q4, .ref q5, .ref q6, .ref q7, .null, .int 0, .int 0, .int 0, .int 0, .int 0, .int 0, .int 0, .int 0])), (q1, .inr (6, [.ref (u1 0)])), ((u1 0), .inl (cI, 720, .inl (fun _ => 0))), (q2, .inr (6, [.ref (u2 0)])), ((u2 0), .inl (cI, 30, .inl (fun _ => 0))), (q3, .inr (6, [.ref (u3 0)])), ((u3 0), .inl (cI, 30, .inl (fun _ => 0))), (q4, .inr (6, [.ref (u4 0)])), ((u4 0), .inl (cI, 30, .inl (fun _ => 0))), (q5, .inr (6, [.ref (u5 0)])), ((u5 0), .inl (cI, 30, .inl (fun _ => 0))), (q6, .inr (6, [.ref (u6 0)])), ((u6 0), .inl (cI, 30, .inl (fun _ => 0))), (q7, .inr (6, [.ref (u7 0)])), ((u7 0), .inl (cI, 4, .inl (fun _ => 0)))] _ _ _ _ _
  refine z_al C (k := 0) (by decide +kernel) rfl (lv_at hl 0 rfl) ?_
  refine z_new C hA (idx := 9) 6 tyX6 [.null] rfl tyX6_ok blX6 (wAt_in (p := 240) (by decide +kernel)) (wAt_in (p := 121) (by decide +kernel)) (wAt_in (p := 93) (by decide +kernel)) (by decide +kernel) ⟨Nat.le_of_ble_eq_true rfl, Nat.le_of_ble_eq_true rfl⟩ (fun q8 => ?_)
  refine z_dup C (by decide +kernel) rfl ?_
  refine z_ic C (n := 4) (v := 4) (by decide +kernel) (by decide) ?_
  refine z_call C hA (idx := 11) (As := [.int 4]) (fun sz => ci_X6 hCK l D cI cJ q8 sz 4 (by decide)) rfl rfl (wAt_in (p := 124) (by decide +kernel)) (wAt_in (p := 93) (by decide +kernel)) (wAt_in (p := 123) (by decide +kernel)) (Or.inl (wAt_in (p := 241) (by decide +kernel))) rfl ⟨by decide +kernel, by decide +kernel, by decide +kernel⟩ ⟨Nat.le_of_ble_eq_true rfl, Nat.le_of_ble_eq_true rfl⟩ hl.1 (Nat.le_of_ble_eq_true rfl) (by decide +kernel) ⟨Nat.le_of_ble_eq_true rfl, Nat.le_of_ble_eq_true rfl⟩ (fun u8 => ?_)
  change ZW _ _ _ _ _ _ _ _ _ _ _ _ _ _ [(h0, .inr (1, [.null, .ref q1, .ref q2, .ref q3, .ref q4, .ref q5, .ref q6, .ref q7, .null, .int 0, .int 0, .int 0, .int 0, .int 0, .int 0, .int 0, .int 0])), (q1, .inr (6, [.ref (u1 0)])), ((u1 0), .inl (cI, 720, .inl (fun _ => 0))), (q2, .inr (6, [.ref (u2 0)])), ((u2 0), .inl (cI, 30, .inl (fun _ => 0))), (q3, .inr (6, [.ref (u3 0)])), ((u3 0), .inl (cI, 30, .inl (fun _ => 0))), (q4, .inr (6, [.ref (u4 0)])), ((u4 0), .inl (cI, 30, .inl (fun _ => 0))), (q5, .inr (6, [.ref (u5 0)])), ((u5 0), .inl (cI, 30, .inl (fun _ => 0))), (q6, .inr (6, [.ref (u6 0)])), ((u6 0), .inl (cI, 30, .inl (fun _ => 0))), (q7, .inr (6, [.ref (u7 0)])), ((u7 0), .inl (cI, 4, .inl (fun _ => 0))), (q8, .inr (6, [.ref (u8 0)])), ((u8 0), .inl (cI, 4, .inl (fun _ => 0)))] _ _ _ _ _
  refine z_pf C hin (idx := 38) 0 8 rfl rfl (by decide) (wAt_in (p := 250) (by decide +kernel)) rfl rfl (tyX1 8) (tyX1_ok 8 (by decide)) rfl rfl (Nat.le_of_ble_eq_true rfl) (by decide +kernel) ?_
  change ZW _ _ _ _ _ _ _ _ _ _ _ _ _ _ [(h0, .inr (1, [.null, .ref q1, .ref q2, .ref q3, .ref q4, .ref q5, .ref q6, .ref q7, .ref q8, .int 0, .int 0, .int 0, .int 0, .int 0, .int 0, .int 0, .int 0])), (q1, .inr (6, [.ref (u1 0)])), ((u1 0), .inl (cI, 720, .inl (fun _ => 0))), (q2, .inr (6, [.ref (u2 0)])), ((u2 0), .inl (cI, 30, .inl (fun _ => 0))), (q3, .inr (6, [.ref (u3 0)])), ((u3 0), .inl (cI, 30, .inl (fun _ => 0))), (q4, .inr (6, [.ref (u4 0)])), ((u4 0), .inl (cI, 30, .inl (fun _ => 0))), (q5, .inr (6, [.ref (u5 0)])), ((u5 0), .inl (cI, 30, .inl (fun _ => 0))), (q6, .inr (6, [.ref (u6 0)])), ((u6 0), .inl (cI, 30, .inl (fun _ => 0))), (q7, .inr (6, [.ref (u7 0)])), ((u7 0), .inl (cI, 4, .inl (fun _ => 0))), (q8, .inr (6, [.ref (u8 0)])), ((u8 0), .inl (cI, 4, .inl (fun _ => 0)))] _ _ _ _ _
  refine z_al C (k := 0) (by decide +kernel) rfl (lv_at hl 0 rfl) ?_
  refine z_ic C (n := (-1)) (v := (-1)) (by decide +kernel) (by decide) ?_
  refine z_pn C (idx := 41) 0 13 rfl rfl (by decide) (wAt_in (p := 255) (by decide +kernel)) rfl (tyX1 13) (tyX1_ok 13 (by decide)) rfl rfl (Nat.le_of_ble_eq_true rfl) (by decide +kernel) ?_
  change ZW _ _ _ _ _ _ _ _ _ _ _ _ _ _ [(h0, .inr (1, [.null, .ref q1, .ref q2, .ref q3, .ref q4, .ref q5, .ref q6, .ref q7, .ref q8, .int 0, .int 0, .int 0, .int 0, .int (-1), .int 0, .int 0, .int 0])), (q1, .inr (6, [.ref (u1 0)])), ((u1 0), .inl (cI, 720, .inl (fun _ => 0))), (q2, .inr (6, [.ref (u2 0)])), ((u2 0), .inl (cI, 30, .inl (fun _ => 0))), (q3, .inr (6, [.ref (u3 0)])), ((u3 0), .inl (cI, 30, .inl (fun _ => 0))), (q4, .inr (6, [.ref (u4 0)])), ((u4 0), .inl (cI, 30, .inl (fun _ => 0))), (q5, .inr (6, [.ref (u5 0)])), ((u5 0), .inl (cI, 30, .inl (fun _ => 0))), (q6, .inr (6, [.ref (u6 0)])), ((u6 0), .inl (cI, 30, .inl (fun _ => 0))), (q7, .inr (6, [.ref (u7 0)])), ((u7 0), .inl (cI, 4, .inl (fun _ => 0))), (q8, .inr (6, [.ref (u8 0)])), ((u8 0), .inl (cI, 4, .inl (fun _ => 0)))] _ _ _ _ _
  refine z_al C (k := 0) (by decide +kernel) rfl (lv_at hl 0 rfl) ?_
  refine z_ic C (n := (-1)) (v := (-1)) (by decide +kernel) (by decide) ?_
  refine z_pn C (idx := 45) 0 14 rfl rfl (by decide) (wAt_in (p := 256) (by decide +kernel)) rfl (tyX1 14) (tyX1_ok 14 (by decide)) rfl rfl (Nat.le_of_ble_eq_true rfl) (by decide +kernel) ?_
  change ZW _ _ _ _ _ _ _ _ _ _ _ _ _ _ [(h0, .inr (1, [.null, .ref q1, .ref q2, .ref q3, .ref q4, .ref q5, .ref q6, .ref q7, .ref q8, .int 0, .int 0, .int 0, .int 0, .int (-1), .int (-1), .int 0, .int 0])), (q1, .inr (6, [.ref (u1 0)])), ((u1 0), .inl (cI, 720, .inl (fun _ => 0))), (q2, .inr (6, [.ref (u2 0)])), ((u2 0), .inl (cI, 30, .inl (fun _ => 0))), (q3, .inr (6, [.ref (u3 0)])), ((u3 0), .inl (cI, 30, .inl (fun _ => 0))), (q4, .inr (6, [.ref (u4 0)])), ((u4 0), .inl (cI, 30, .inl (fun _ => 0))), (q5, .inr (6, [.ref (u5 0)])), ((u5 0), .inl (cI, 30, .inl (fun _ => 0))), (q6, .inr (6, [.ref (u6 0)])), ((u6 0), .inl (cI, 30, .inl (fun _ => 0))), (q7, .inr (6, [.ref (u7 0)])), ((u7 0), .inl (cI, 4, .inl (fun _ => 0))), (q8, .inr (6, [.ref (u8 0)])), ((u8 0), .inl (cI, 4, .inl (fun _ => 0)))] _ _ _ _ _
  refine z_al C (k := 0) (by decide +kernel) rfl (lv_at hl 0 rfl) ?_
  refine z_al C (k := 1) (by decide +kernel) rfl (lv_at hl 1 rfl) ?_
  refine z_pf C hin (idx := 48) 0 0 rfl rfl (by decide) (wAt_in (p := 242) (by decide +kernel)) rfl rfl (tyX1 0) (tyX1_ok 0 (by decide)) rfl rfl (Nat.le_of_ble_eq_true rfl) (by decide +kernel) ?_
  change ZW _ _ _ _ _ _ _ _ _ _ _ _ _ _ [(h0, .inr (1, [.ref r1, .ref q1, .ref q2, .ref q3, .ref q4, .ref q5, .ref q6, .ref q7, .ref q8, .int 0, .int 0, .int 0, .int 0, .int (-1), .int (-1), .int 0, .int 0])), (q1, .inr (6, [.ref (u1 0)])), ((u1 0), .inl (cI, 720, .inl (fun _ => 0))), (q2, .inr (6, [.ref (u2 0)])), ((u2 0), .inl (cI, 30, .inl (fun _ => 0))), (q3, .inr (6, [.ref (u3 0)])), ((u3 0), .inl (cI, 30, .inl (fun _ => 0))), (q4, .inr (6, [.ref (u4 0)])), ((u4 0), .inl (cI, 30, .inl (fun _ => 0))), (q5, .inr (6, [.ref (u5 0)])), ((u5 0), .inl (cI, 30, .inl (fun _ => 0))), (q6, .inr (6, [.ref (u6 0)])), ((u6 0), .inl (cI, 30, .inl (fun _ => 0))), (q7, .inr (6, [.ref (u7 0)])), ((u7 0), .inl (cI, 4, .inl (fun _ => 0))), (q8, .inr (6, [.ref (u8 0)])), ((u8 0), .inl (cI, 4, .inl (fun _ => 0)))] _ _ _ _ _
  intro H locs hP hD hS
  refine W.widen (k := 16) (n := 886) (Nat.le_of_ble_eq_true rfl) (Nat.le_of_ble_eq_true rfl) ?_
  exact W.vret C.1 C.2.1 hr (fun t ht hW => ⟨⟨fun k => ([q1, (u1 0), q2, (u2 0), q3, (u3 0), q4, (u4 0), q5, (u5 0), q6, (u6 0), q7, (u7 0), q8, (u8 0)] : List Nat).getD k 0, rfl, trivial, by rw [ht]; exact hP, va_K.moved hW.alike hK, hD⟩, hS.F ht⟩) hS.2.2 (by decide +kernel)
abbrev w_X3 (cI cJ : ClassId) (h0 : Nat) (r1 : Nat) (u : Nat → Nat) : va_W := [(h0, .inr (3, [.ref r1, .ref (u 0), .ref (u 2)])), ((u 0), .inr (6, [.ref (u 1)])), ((u 1), .inl (cI, 720, .inl (fun _ => 0))), ((u 2), .inr (6, [.ref (u 3)])), ((u 3), .inl (cI, 30, .inl (fun _ => 0)))]
set_option maxRecDepth 100000 in
set_option maxHeartbeats 8000000 in
theorem ci_X3 (hCK : CHK) (l : Launch) (D : va_G) (cI cJ : ClassId) (h0 sz : Nat) (r1 : Nat) : Met l yX3_init (wkz yX3_init cX3_init 2) ({ frames := 2, cells := 4, slots := 752, locals := 42 }) (va_Pc [.ref h0, .ref r1] (IPre D cI cJ h0 (.inr (3, [.null, .null, .null])) sz)) (IQ D cI cJ h0 (.inr (3, [.null, .null, .null])) sz (w_X3 cI cJ h0 r1)) 4 752 (va_A [(h0, (.inr (3, [.null, .null, .null])))] sz) := by
  refine Met.ofW (cc := cX3_init) (maxL := 2) (ret := none) (by decide) rfl ?_
  intro p e s m args below meth c s₁ B hml hv
  obtain ⟨rfl, hsz, hP, hK, hD0, hN⟩ := hv
  have hts := atoms_spec (ws := wkz yX3_init cX3_init 2) B.pre
  have hown : s.vm.findClass RX3 = some m.cls := findClass_of_methodNamed B.named
  have hin : meth.name = "<init>" := (name_of_methodNamed B.named B.method).1
  have hr := B.returns
  have hlocks := B.notSynchronized
  have C : CI p s m ([.ref h0, .ref r1] : List Value).toArray c D cI cJ RX3 cX3_init 2 := ⟨B.exec, B.bytes, hml, hown, fun w hw => hts w (List.mem_cons_of_mem _ hw), hK, hN, hCK⟩
  subst hsz
  have hD := hD0.self (sz := s.heap.size)
  unfold IQ
  generalize hAe : va_A [(h0, (.inr (3, [.null, .null, .null])))] s.heap.size = A at hD ⊢
  have hA : ∀ q : Nat, s.heap.size ≤ q → A q := fun q h => by rw [← hAe]; exact Or.inr h
  have hl := lv_entry ([.ref h0, .ref r1]) (n := 2) (Nat.le_of_ble_eq_true rfl)
  rw [lg_entry_eq]
  generalize (lg_sl ([.ref h0, .ref r1]) ++ List.replicate (2 - (lg_sl ([.ref h0, .ref r1])).length) Slot.unset).toArray = ls at hl ⊢
  have hl : lv_has ls 2 [(0, .ref h0), (1, .ref r1)] := hl
  suffices hz : ZW p l e ({ frames := 2, cells := 4, slots := 752, locals := 42 }) s m ([.ref h0, .ref r1] : List Value).toArray below meth c _ D A s.heap [(h0, (.inr (3, [.null, .null, .null])))] 0 0 0 ls [] from hz s.heap [] hP hD va_S.rf
  refine z_al C (k := 0) (by decide +kernel) rfl (lv_at hl 0 rfl) ?_
  refine z_oi C (idx := 3) (wAt_in (p := 299) (by decide +kernel)) (wAt_in (p := 112) (by decide +kernel)) (wAt_in (p := 113) (by decide +kernel)) hl.1 (by decide +kernel) (Nat.le_of_ble_eq_true rfl) (Nat.le_of_ble_eq_true rfl) ?_
  refine z_al C (k := 0) (by decide +kernel) rfl (lv_at hl 0 rfl) ?_
  refine z_new C hA (idx := 9) 6 tyX6 [.null] rfl tyX6_ok blX6 (wAt_in (p := 300) (by decide +kernel)) (wAt_in (p := 121) (by decide +kernel)) (wAt_in (p := 93) (by decide +kernel)) (by decide +kernel) ⟨Nat.le_of_ble_eq_true rfl, Nat.le_of_ble_eq_true rfl⟩ (fun q1 => ?_)
  refine z_dup C (by decide +kernel) rfl ?_
  refine z_sp C (n := 720) (v := 720) (by decide +kernel) (by decide) ?_
  refine z_call C hA (idx := 11) (As := [.int 720]) (fun sz => ci_X6 hCK l D cI cJ q1 sz 720 (by decide)) rfl rfl (wAt_in (p := 124) (by decide +kernel)) (wAt_in (p := 93) (by decide +kernel)) (wAt_in (p := 123) (by decide +kernel)) (Or.inl (wAt_in (p := 301) (by decide +kernel))) rfl ⟨by decide +kernel, by decide +kernel, by decide +kernel⟩ ⟨Nat.le_of_ble_eq_true rfl, Nat.le_of_ble_eq_true rfl⟩ hl.1 (Nat.le_of_ble_eq_true rfl) (by decide +kernel) ⟨Nat.le_of_ble_eq_true rfl, Nat.le_of_ble_eq_true rfl⟩ (fun u1 => ?_)
  change ZW _ _ _ _ _ _ _ _ _ _ _ _ _ _ [(h0, .inr (3, [.null, .null, .null])), (q1, .inr (6, [.ref (u1 0)])), ((u1 0), .inl (cI, 720, .inl (fun _ => 0)))] _ _ _ _ _
  refine z_pf C hin (idx := 14) 0 1 rfl rfl (by decide) (wAt_in (p := 303) (by decide +kernel)) rfl rfl (tyX3 1) (tyX3_ok 1 (by decide)) rfl rfl (Nat.le_of_ble_eq_true rfl) (by decide +kernel) ?_
  change ZW _ _ _ _ _ _ _ _ _ _ _ _ _ _ [(h0, .inr (3, [.null, .ref q1, .null])), (q1, .inr (6, [.ref (u1 0)])), ((u1 0), .inl (cI, 720, .inl (fun _ => 0)))] _ _ _ _ _
  refine z_al C (k := 0) (by decide +kernel) rfl (lv_at hl 0 rfl) ?_
  refine z_new C hA (idx := 9) 6 tyX6 [.null] rfl tyX6_ok blX6 (wAt_in (p := 300) (by decide +kernel)) (wAt_in (p := 121) (by decide +kernel)) (wAt_in (p := 93) (by decide +kernel)) (by decide +kernel) ⟨Nat.le_of_ble_eq_true rfl, Nat.le_of_ble_eq_true rfl⟩ (fun q2 => ?_)
  refine z_dup C (by decide +kernel) rfl ?_
  refine z_bp C (n := 30) (v := 30) (by decide +kernel) (by decide) ?_
  refine z_call C hA (idx := 11) (As := [.int 30]) (fun sz => ci_X6 hCK l D cI cJ q2 sz 30 (by decide)) rfl rfl (wAt_in (p := 124) (by decide +kernel)) (wAt_in (p := 93) (by decide +kernel)) (wAt_in (p := 123) (by decide +kernel)) (Or.inl (wAt_in (p := 301) (by decide +kernel))) rfl ⟨by decide +kernel, by decide +kernel, by decide +kernel⟩ ⟨Nat.le_of_ble_eq_true rfl, Nat.le_of_ble_eq_true rfl⟩ hl.1 (Nat.le_of_ble_eq_true rfl) (by decide +kernel) ⟨Nat.le_of_ble_eq_true rfl, Nat.le_of_ble_eq_true rfl⟩ (fun u2 => ?_)
  change ZW _ _ _ _ _ _ _ _ _ _ _ _ _ _ [(h0, .inr (3, [.null, .ref q1, .null])), (q1, .inr (6, [.ref (u1 0)])), ((u1 0), .inl (cI, 720, .inl (fun _ => 0))), (q2, .inr (6, [.ref (u2 0)])), ((u2 0), .inl (cI, 30, .inl (fun _ => 0)))] _ _ _ _ _
  refine z_pf C hin (idx := 20) 0 2 rfl rfl (by decide) (wAt_in (p := 304) (by decide +kernel)) rfl rfl (tyX3 2) (tyX3_ok 2 (by decide)) rfl rfl (Nat.le_of_ble_eq_true rfl) (by decide +kernel) ?_
  change ZW _ _ _ _ _ _ _ _ _ _ _ _ _ _ [(h0, .inr (3, [.null, .ref q1, .ref q2])), (q1, .inr (6, [.ref (u1 0)])), ((u1 0), .inl (cI, 720, .inl (fun _ => 0))), (q2, .inr (6, [.ref (u2 0)])), ((u2 0), .inl (cI, 30, .inl (fun _ => 0)))] _ _ _ _ _
  refine z_al C (k := 0) (by decide +kernel) rfl (lv_at hl 0 rfl) ?_
  refine z_al C (k := 1) (by decide +kernel) rfl (lv_at hl 1 rfl) ?_
  refine z_pf C hin (idx := 23) 0 0 rfl rfl (by decide) (wAt_in (p := 302) (by decide +kernel)) rfl rfl (tyX3 0) (tyX3_ok 0 (by decide)) rfl rfl (Nat.le_of_ble_eq_true rfl) (by decide +kernel) ?_
  change ZW _ _ _ _ _ _ _ _ _ _ _ _ _ _ [(h0, .inr (3, [.ref r1, .ref q1, .ref q2])), (q1, .inr (6, [.ref (u1 0)])), ((u1 0), .inl (cI, 720, .inl (fun _ => 0))), (q2, .inr (6, [.ref (u2 0)])), ((u2 0), .inl (cI, 30, .inl (fun _ => 0)))] _ _ _ _ _
  intro H locs hP hD hS
  refine W.widen (k := 4) (n := 752) (Nat.le_of_ble_eq_true rfl) (Nat.le_of_ble_eq_true rfl) ?_
  exact W.vret C.1 C.2.1 hr (fun t ht hW => ⟨⟨fun k => ([q1, (u1 0), q2, (u2 0)] : List Nat).getD k 0, rfl, trivial, by rw [ht]; exact hP, va_K.moved hW.alike hK, hD⟩, hS.F ht⟩) hS.2.2 (by decide +kernel)
abbrev w_X2 (cI cJ : ClassId) (h0 : Nat) (r1 : Nat) (r2 : Nat) (r3 : Nat) (u : Nat → Nat) : va_W := [(h0, .inr (2, [.ref r1, .ref r2, .ref r3, .ref (u 0), .ref (u 2), .int (-1), .int (-1), .int (-1)])), ((u 0), .inr (6, [.ref (u 1)])), ((u 1), .inl (cI, 4, .inl (fun _ => 0))), ((u 2), .inr (6, [.ref (u 3)])), ((u 3), .inl (cI, 6, .inl (fun _ => 0)))]
set_option maxRecDepth 100000 in
set_option maxHeartbeats 8000000 in
theorem ci_X2 (hCK : CHK) (l : Launch) (D : va_G) (cI cJ : ClassId) (h0 sz : Nat) (r1 : Nat) (r2 : Nat) (r3 : Nat) : Met l yX2_init (wkz yX2_init cX2_init 4) ({ frames := 2, cells := 4, slots := 12, locals := 42 }) (va_Pc [.ref h0, .ref r1, .ref r2, .ref r3] (IPre D cI cJ h0 (.inr (2, [.null, .null, .null, .null, .null, .int 0, .int 0, .int 0])) sz)) (IQ D cI cJ h0 (.inr (2, [.null, .null, .null, .null, .null, .int 0, .int 0, .int 0])) sz (w_X2 cI cJ h0 r1 r2 r3)) 4 12 (va_A [(h0, (.inr (2, [.null, .null, .null, .null, .null, .int 0, .int 0, .int 0])))] sz) := by
  refine Met.ofW (cc := cX2_init) (maxL := 4) (ret := none) (by decide) rfl ?_
  intro p e s m args below meth c s₁ B hml hv
  obtain ⟨rfl, hsz, hP, hK, hD0, hN⟩ := hv
  have hts := atoms_spec (ws := wkz yX2_init cX2_init 4) B.pre
  have hown : s.vm.findClass RX2 = some m.cls := findClass_of_methodNamed B.named
  have hin : meth.name = "<init>" := (name_of_methodNamed B.named B.method).1
  have hr := B.returns
  have hlocks := B.notSynchronized
  have C : CI p s m ([.ref h0, .ref r1, .ref r2, .ref r3] : List Value).toArray c D cI cJ RX2 cX2_init 4 := ⟨B.exec, B.bytes, hml, hown, fun w hw => hts w (List.mem_cons_of_mem _ hw), hK, hN, hCK⟩
  subst hsz
  have hD := hD0.self (sz := s.heap.size)
  unfold IQ
  generalize hAe : va_A [(h0, (.inr (2, [.null, .null, .null, .null, .null, .int 0, .int 0, .int 0])))] s.heap.size = A at hD ⊢
  have hA : ∀ q : Nat, s.heap.size ≤ q → A q := fun q h => by rw [← hAe]; exact Or.inr h
  have hl := lv_entry ([.ref h0, .ref r1, .ref r2, .ref r3]) (n := 4) (Nat.le_of_ble_eq_true rfl)
  rw [lg_entry_eq]
  generalize (lg_sl ([.ref h0, .ref r1, .ref r2, .ref r3]) ++ List.replicate (4 - (lg_sl ([.ref h0, .ref r1, .ref r2, .ref r3])).length) Slot.unset).toArray = ls at hl ⊢
  have hl : lv_has ls 4 [(0, .ref h0), (1, .ref r1), (2, .ref r2), (3, .ref r3)] := hl
  suffices hz : ZW p l e ({ frames := 2, cells := 4, slots := 12, locals := 42 }) s m ([.ref h0, .ref r1, .ref r2, .ref r3] : List Value).toArray below meth c _ D A s.heap [(h0, (.inr (2, [.null, .null, .null, .null, .null, .int 0, .int 0, .int 0])))] 0 0 0 ls [] from hz s.heap [] hP hD va_S.rf
  refine z_al C (k := 0) (by decide +kernel) rfl (lv_at hl 0 rfl) ?_
  refine z_oi C (idx := 3) (wAt_in (p := 317) (by decide +kernel)) (wAt_in (p := 112) (by decide +kernel)) (wAt_in (p := 113) (by decide +kernel)) hl.1 (by decide +kernel) (Nat.le_of_ble_eq_true rfl) (Nat.le_of_ble_eq_true rfl) ?_
  refine z_al C (k := 0) (by decide +kernel) rfl (lv_at hl 0 rfl) ?_
  refine z_new C hA (idx := 9) 6 tyX6 [.null] rfl tyX6_ok blX6 (wAt_in (p := 318) (by decide +kernel)) (wAt_in (p := 121) (by decide +kernel)) (wAt_in (p := 93) (by decide +kernel)) (by decide +kernel) ⟨Nat.le_of_ble_eq_true rfl, Nat.le_of_ble_eq_true rfl⟩ (fun q1 => ?_)
  refine z_dup C (by decide +kernel) rfl ?_
  refine z_ic C (n := 4) (v := 4) (by decide +kernel) (by decide) ?_
  refine z_call C hA (idx := 11) (As := [.int 4]) (fun sz => ci_X6 hCK l D cI cJ q1 sz 4 (by decide)) rfl rfl (wAt_in (p := 124) (by decide +kernel)) (wAt_in (p := 93) (by decide +kernel)) (wAt_in (p := 123) (by decide +kernel)) (Or.inl (wAt_in (p := 319) (by decide +kernel))) rfl ⟨by decide +kernel, by decide +kernel, by decide +kernel⟩ ⟨Nat.le_of_ble_eq_true rfl, Nat.le_of_ble_eq_true rfl⟩ hl.1 (Nat.le_of_ble_eq_true rfl) (by decide +kernel) ⟨Nat.le_of_ble_eq_true rfl, Nat.le_of_ble_eq_true rfl⟩ (fun u1 => ?_)
  change ZW _ _ _ _ _ _ _ _ _ _ _ _ _ _ [(h0, .inr (2, [.null, .null, .null, .null, .null, .int 0, .int 0, .int 0])), (q1, .inr (6, [.ref (u1 0)])), ((u1 0), .inl (cI, 4, .inl (fun _ => 0)))] _ _ _ _ _
  refine z_pf C hin (idx := 14) 0 3 rfl rfl (by decide) (wAt_in (p := 323) (by decide +kernel)) rfl rfl (tyX2 3) (tyX2_ok 3 (by decide)) rfl rfl (Nat.le_of_ble_eq_true rfl) (by decide +kernel) ?_
  change ZW _ _ _ _ _ _ _ _ _ _ _ _ _ _ [(h0, .inr (2, [.null, .null, .null, .ref q1, .null, .int 0, .int 0, .int 0])), (q1, .inr (6, [.ref (u1 0)])), ((u1 0), .inl (cI, 4, .inl (fun _ => 0)))] _ _ _ _ _
  refine z_al C (k := 0) (by decide +kernel) rfl (lv_at hl 0 rfl) ?_
  refine z_new C hA (idx := 9) 6 tyX6 [.null] rfl tyX6_ok blX6 (wAt_in (p := 318) (by decide +kernel)) (wAt_in (p := 121) (by decide +kernel)) (wAt_in (p := 93) (by decide +kernel)) (by decide +kernel) ⟨Nat.le_of_ble_eq_true rfl, Nat.le_of_ble_eq_true rfl⟩ (fun q2 => ?_)
  refine z_dup C (by decide +kernel) rfl ?_
  refine z_bp C (n := 6) (v := 6) (by decide +kernel) (by decide) ?_
  refine z_call C hA (idx := 11) (As := [.int 6]) (fun sz => ci_X6 hCK l D cI cJ q2 sz 6 (by decide)) rfl rfl (wAt_in (p := 124) (by decide +kernel)) (wAt_in (p := 93) (by decide +kernel)) (wAt_in (p := 123) (by decide +kernel)) (Or.inl (wAt_in (p := 319) (by decide +kernel))) rfl ⟨by decide +kernel, by decide +kernel, by decide +kernel⟩ ⟨Nat.le_of_ble_eq_true rfl, Nat.le_of_ble_eq_true rfl⟩ hl.1 (Nat.le_of_ble_eq_true rfl) (by decide +kernel) ⟨Nat.le_of_ble_eq_true rfl, Nat.le_of_ble_eq_true rfl⟩ (fun u2 => ?_)
  change ZW _ _ _ _ _ _ _ _ _ _ _ _ _ _ [(h0, .inr (2, [.null, .null, .null, .ref q1, .null, .int 0, .int 0, .int 0])), (q1, .inr (6, [.ref (u1 0)])), ((u1 0), .inl (cI, 4, .inl (fun _ => 0))), (q2, .inr (6, [.ref (u2 0)])), ((u2 0), .inl (cI, 6, .inl (fun _ => 0)))] _ _ _ _ _
  refine z_pf C hin (idx := 20) 0 4 rfl rfl (by decide) (wAt_in (p := 324) (by decide +kernel)) rfl rfl (tyX2 4) (tyX2_ok 4 (by decide)) rfl rfl (Nat.le_of_ble_eq_true rfl) (by decide +kernel) ?_
  change ZW _ _ _ _ _ _ _ _ _ _ _ _ _ _ [(h0, .inr (2, [.null, .null, .null, .ref q1, .ref q2, .int 0, .int 0, .int 0])), (q1, .inr (6, [.ref (u1 0)])), ((u1 0), .inl (cI, 4, .inl (fun _ => 0))), (q2, .inr (6, [.ref (u2 0)])), ((u2 0), .inl (cI, 6, .inl (fun _ => 0)))] _ _ _ _ _
  refine z_al C (k := 0) (by decide +kernel) rfl (lv_at hl 0 rfl) ?_
  refine z_ic C (n := (-1)) (v := (-1)) (by decide +kernel) (by decide) ?_
  refine z_pn C (idx := 23) 0 5 rfl rfl (by decide) (wAt_in (p := 325) (by decide +kernel)) rfl (tyX2 5) (tyX2_ok 5 (by decide)) rfl rfl (Nat.le_of_ble_eq_true rfl) (by decide +kernel) ?_
  change ZW _ _ _ _ _ _ _ _ _ _ _ _ _ _ [(h0, .inr (2, [.null, .null, .null, .ref q1, .ref q2, .int (-1), .int 0, .int 0])), (q1, .inr (6, [.ref (u1 0)])), ((u1 0), .inl (cI, 4, .inl (fun _ => 0))), (q2, .inr (6, [.ref (u2 0)])), ((u2 0), .inl (cI, 6, .inl (fun _ => 0)))] _ _ _ _ _
  refine z_al C (k := 0) (by decide +kernel) rfl (lv_at hl 0 rfl) ?_
  refine z_ic C (n := (-1)) (v := (-1)) (by decide +kernel) (by decide) ?_
  refine z_pn C (idx := 27) 0 6 rfl rfl (by decide) (wAt_in (p := 326) (by decide +kernel)) rfl (tyX2 6) (tyX2_ok 6 (by decide)) rfl rfl (Nat.le_of_ble_eq_true rfl) (by decide +kernel) ?_
  change ZW _ _ _ _ _ _ _ _ _ _ _ _ _ _ [(h0, .inr (2, [.null, .null, .null, .ref q1, .ref q2, .int (-1), .int (-1), .int 0])), (q1, .inr (6, [.ref (u1 0)])), ((u1 0), .inl (cI, 4, .inl (fun _ => 0))), (q2, .inr (6, [.ref (u2 0)])), ((u2 0), .inl (cI, 6, .inl (fun _ => 0)))] _ _ _ _ _
  refine z_al C (k := 0) (by decide +kernel) rfl (lv_at hl 0 rfl) ?_
  refine z_ic C (n := (-1)) (v := (-1)) (by decide +kernel) (by decide) ?_
  refine z_pn C (idx := 30) 0 7 rfl rfl (by decide) (wAt_in (p := 327) (by decide +kernel)) rfl (tyX2 7) (tyX2_ok 7 (by decide)) rfl rfl (Nat.le_of_ble_eq_true rfl) (by decide +kernel) ?_
  change ZW _ _ _ _ _ _ _ _ _ _ _ _ _ _ [(h0, .inr (2, [.null, .null, .null, .ref q1, .ref q2, .int (-1), .int (-1), .int (-1)])), (q1, .inr (6, [.ref (u1 0)])), ((u1 0), .inl (cI, 4, .inl (fun _ => 0))), (q2, .inr (6, [.ref (u2 0)])), ((u2 0), .inl (cI, 6, .inl (fun _ => 0)))] _ _ _ _ _
  refine z_al C (k := 0) (by decide +kernel) rfl (lv_at hl 0 rfl) ?_
  refine z_al C (k := 1) (by decide +kernel) rfl (lv_at hl 1 rfl) ?_
  refine z_pf C hin (idx := 33) 0 0 rfl rfl (by decide) (wAt_in (p := 320) (by decide +kernel)) rfl rfl (tyX2 0) (tyX2_ok 0 (by decide)) rfl rfl (Nat.le_of_ble_eq_true rfl) (by decide +kernel) ?_
  change ZW _ _ _ _ _ _ _ _ _ _ _ _ _ _ [(h0, .inr (2, [.ref r1, .null, .null, .ref q1, .ref q2, .int (-1), .int (-1), .int (-1)])), (q1, .inr (6, [.ref (u1 0)])), ((u1 0), .inl (cI, 4, .inl (fun _ => 0))), (q2, .inr (6, [.ref (u2 0)])), ((u2 0), .inl (cI, 6, .inl (fun _ => 0)))] _ _ _ _ _
  refine z_al C (k := 0) (by decide +kernel) rfl (lv_at hl 0 rfl) ?_
  refine z_al C (k := 2) (by decide +kernel) rfl (lv_at hl 2 rfl) ?_
  refine z_pf C hin (idx := 37) 0 1 rfl rfl (by decide) (wAt_in (p := 321) (by decide +kernel)) rfl rfl (tyX2 1) (tyX2_ok 1 (by decide)) rfl rfl (Nat.le_of_ble_eq_true rfl) (by decide +kernel) ?_
  change ZW _ _ _ _ _ _ _ _ _ _ _ _ _ _ [(h0, .inr (2, [.ref r1, .ref r2, .null, .ref q1, .ref q2, .int (-1), .int (-1), .int (-1)])), (q1, .inr (6, [.ref (u1 0)])), ((u1 0), .inl (cI, 4, .inl (fun _ => 0))), (q2, .inr (6, [.ref (u2 0)])), ((u2 0), .inl (cI, 6, .inl (fun _ => 0)))] _ _ _ _ _
  refine z_al C (k := 0) (by decide +kernel) rfl (lv_at hl 0 rfl) ?_
  refine z_al C (k := 3) (by decide +kernel) rfl (lv_at hl 3 rfl) ?_
  refine z_pf C hin (idx := 41) 0 2 rfl rfl (by decide) (wAt_in (p := 322) (by decide +kernel)) rfl rfl (tyX2 2) (tyX2_ok 2 (by decide)) rfl rfl (Nat.le_of_ble_eq_true rfl) (by decide +kernel) ?_
  change ZW _ _ _ _ _ _ _ _ _ _ _ _ _ _ [(h0, .inr (2, [.ref r1, .ref r2, .ref r3, .ref q1, .ref q2, .int (-1), .int (-1), .int (-1)])), (q1, .inr (6, [.ref (u1 0)])), ((u1 0), .inl (cI, 4, .inl (fun _ => 0))), (q2, .inr (6, [.ref (u2 0)])), ((u2 0), .inl (cI, 6, .inl (fun _ => 0)))] _ _ _ _ _
  intro H locs hP hD hS
  refine W.widen (k := 4) (n := 12) (Nat.le_of_ble_eq_true rfl) (Nat.le_of_ble_eq_true rfl) ?_
  exact W.vret C.1 C.2.1 hr (fun t ht hW => ⟨⟨fun k => ([q1, (u1 0), q2, (u2 0)] : List Nat).getD k 0, rfl, trivial, by rw [ht]; exact hP, va_K.moved hW.alike hK, hD⟩, hS.F ht⟩) hS.2.2 (by decide +kernel)
abbrev w_X7 (cI cJ : ClassId) (h0 : Nat) (r1 : Nat) (u : Nat → Nat) : va_W := [(h0, .inr (7, [.ref r1, .ref (u 0), .ref (u 2), .ref (u 4), .ref (u 6), .int 0, .int 0, .int 0, .int 0])), ((u 0), .inr (6, [.ref (u 1)])), ((u 1), .inl (cI, 6, .inl (fun _ => 0))), ((u 2), .inr (6, [.ref (u 3)])), ((u 3), .inl (cI, 36, .inl (fun _ => 0))), ((u 4), .inr (6, [.ref (u 5)])), ((u 5), .inl (cI, 48, .inl (fun _ => 0))), ((u 6), .inr (6, [.ref (u 7)])), ((u 7), .inl (cI, 24, .inl (fun _ => 0)))]
set_option maxRecDepth 100000 in
set_option maxHeartbeats 8000000 in
theorem ci_X7 (hCK : CHK) (l : Launch) (D : va_G) (cI cJ : ClassId) (h0 sz : Nat) (r1 : Nat) : Met l yX7_init (wkz yX7_init cX7_init 2) ({ frames := 2, cells := 8, slots := 118, locals := 42 }) (va_Pc [.ref h0, .ref r1] (IPre D cI cJ h0 (.inr (7, [.null, .null, .null, .null, .null, .int 0, .int 0, .int 0, .int 0])) sz)) (IQ D cI cJ h0 (.inr (7, [.null, .null, .null, .null, .null, .int 0, .int 0, .int 0, .int 0])) sz (w_X7 cI cJ h0 r1)) 8 118 (va_A [(h0, (.inr (7, [.null, .null, .null, .null, .null, .int 0, .int 0, .int 0, .int 0])))] sz) := by
  refine Met.ofW (cc := cX7_init) (maxL := 2) (ret := none) (by decide) rfl ?_
  intro p e s m args below meth c s₁ B hml hv
  obtain ⟨rfl, hsz, hP, hK, hD0, hN⟩ := hv
  have hts := atoms_spec (ws := wkz yX7_init cX7_init 2) B.pre
  have hown : s.vm.findClass RX7 = some m.cls := findClass_of_methodNamed B.named
  have hin : meth.name = "<init>" := (name_of_methodNamed B.named B.method).1
  have hr := B.returns
  have hlocks := B.notSynchronized
  have C : CI p s m ([.ref h0, .ref r1] : List Value).toArray c D cI cJ RX7 cX7_init 2 := ⟨B.exec, B.bytes, hml, hown, fun w hw => hts w (List.mem_cons_of_mem _ hw), hK, hN, hCK⟩
  subst hsz
  have hD := hD0.self (sz := s.heap.size)
  unfold IQ
  generalize hAe : va_A [(h0, (.inr (7, [.null, .null, .null, .null, .null, .int 0, .int 0, .int 0, .int 0])))] s.heap.size = A at hD ⊢
  have hA : ∀ q : Nat, s.heap.size ≤ q → A q := fun q h => by rw [← hAe]; exact Or.inr h
  have hl := lv_entry ([.ref h0, .ref r1]) (n := 2) (Nat.le_of_ble_eq_true rfl)
  rw [lg_entry_eq]
  generalize (lg_sl ([.ref h0, .ref r1]) ++ List.replicate (2 - (lg_sl ([.ref h0, .ref r1])).length) Slot.unset).toArray = ls at hl ⊢
  have hl : lv_has ls 2 [(0, .ref h0), (1, .ref r1)] := hl
  suffices hz : ZW p l e ({ frames := 2, cells := 8, slots := 118, locals := 42 }) s m ([.ref h0, .ref r1] : List Value).toArray below meth c _ D A s.heap [(h0, (.inr (7, [.null, .null, .null, .null, .null, .int 0, .int 0, .int 0, .int 0])))] 0 0 0 ls [] from hz s.heap [] hP hD va_S.rf
  refine z_al C (k := 0) (by decide +kernel) rfl (lv_at hl 0 rfl) ?_
  refine z_oi C (idx := 3) (wAt_in (p := 350) (by decide +kernel)) (wAt_in (p := 112) (by decide +kernel)) (wAt_in (p := 113) (by decide +kernel)) hl.1 (by decide +kernel) (Nat.le_of_ble_eq_true rfl) (Nat.le_of_ble_eq_true rfl) ?_
  refine z_al C (k := 0) (by decide +kernel) rfl (lv_at hl 0 rfl) ?_
  refine z_new C hA (idx := 9) 6 tyX6 [.null] rfl tyX6_ok blX6 (wAt_in (p := 351) (by decide +kernel)) (wAt_in (p := 121) (by decide +kernel)) (wAt_in (p := 93) (by decide +kernel)) (by decide +kernel) ⟨Nat.le_of_ble_eq_true rfl, Nat.le_of_ble_eq_true rfl⟩ (fun q1 => ?_)
  refine z_dup C (by decide +kernel) rfl ?_
  refine z_bp C (n := 6) (v := 6) (by decide +kernel) (by decide) ?_
  refine z_call C hA (idx := 11) (As := [.int 6]) (fun sz => ci_X6 hCK l D cI cJ q1 sz 6 (by decide)) rfl rfl (wAt_in (p := 124) (by decide +kernel)) (wAt_in (p := 93) (by decide +kernel)) (wAt_in (p := 123) (by decide +kernel)) (Or.inl (wAt_in (p := 352) (by decide +kernel))) rfl ⟨by decide +kernel, by decide +kernel, by decide +kernel⟩ ⟨Nat.le_of_ble_eq_true rfl, Nat.le_of_ble_eq_true rfl⟩ hl.1 (Nat.le_of_ble_eq_true rfl) (by decide +kernel) ⟨Nat.le_of_ble_eq_true rfl, Nat.le_of_ble_eq_true rfl⟩ (fun u1 => ?_)
  change ZW _ _ _ _ _ _ _ _ _ _ _ _ _ _ [(h0, .inr (7, [.null, .null, .null, .null, .null, .int 0, .int 0, .int 0, .int 0])), (q1, .inr (6, [.ref (u1 0)])), ((u1 0), .inl (cI, 6, .inl (fun _ => 0)))] _ _ _ _ _
  refine z_pf C hin (idx := 14) 0 1 rfl rfl (by decide) (wAt_in (p := 354) (by decide +kernel)) rfl rfl (tyX7 1) (tyX7_ok 1 (by decide)) rfl rfl (Nat.le_of_ble_eq_true rfl) (by decide +kernel) ?_
  change ZW _ _ _ _ _ _ _ _ _ _ _ _ _ _ [(h0, .inr (7, [.null, .ref q1, .null, .null, .null, .int 0, .int 0, .int 0, .int 0])), (q1, .inr (6, [.ref (u1 0)])), ((u1 0), .inl (cI, 6, .inl (fun _ => 0)))] _ _ _ _ _
  refine z_al C (k := 0) (by decide +kernel) rfl (lv_at hl 0 rfl) ?_
  refine z_new C hA (idx := 9) 6 tyX6 [.null] rfl tyX6_ok blX6 (wAt_in (p := 351) (by decide +kernel)) (wAt_in (p := 121) (by decide +kernel)) (wAt_in (p := 93) (by decide +kernel)) (by decide +kernel) ⟨Nat.le_of_ble_eq_true rfl, Nat.le_of_ble_eq_true rfl⟩ (fun q2 => ?_)
  refine z_dup C (by decide +kernel) rfl ?_
  refine z_bp C (n := 36) (v := 36) (by decide +kernel) (by decide) ?_
  refine z_call C hA (idx := 11) (As := [.int 36]) (fun sz => ci_X6 hCK l D cI cJ q2 sz 36 (by decide)) rfl rfl (wAt_in (p := 124) (by decide +kernel)) (wAt_in (p := 93) (by decide +kernel)) (wAt_in (p := 123) (by decide +kernel)) (Or.inl (wAt_in (p := 352) (by decide +kernel))) rfl ⟨by decide +kernel, by decide +kernel, by decide +kernel⟩ ⟨Nat.le_of_ble_eq_true rfl, Nat.le_of_ble_eq_true rfl⟩ hl.1 (Nat.le_of_ble_eq_true rfl) (by decide +kernel) ⟨Nat.le_of_ble_eq_true rfl, Nat.le_of_ble_eq_true rfl⟩ (fun u2 => ?_)
  change ZW _ _ _ _ _ _ _ _ _ _ _ _ _ _ [(h0, .inr (7, [.null, .ref q1, .null, .null, .null, .int 0, .int 0, .int 0, .int 0])), (q1, .inr (6, [.ref (u1 0)])), ((u1 0), .inl (cI, 6, .inl (fun _ => 0))), (q2, .inr (6, [.ref (u2 0)])), ((u2 0), .inl (cI, 36, .inl (fun _ => 0)))] _ _ _ _ _
  refine z_pf C hin (idx := 20) 0 2 rfl rfl (by decide) (wAt_in (p := 355) (by decide +kernel)) rfl rfl (tyX7 2) (tyX7_ok 2 (by decide)) rfl rfl (Nat.le_of_ble_eq_true rfl) (by decide +kernel) ?_
  change ZW _ _ _ _ _ _ _ _ _ _ _ _ _ _ [(h0, .inr (7, [.null, .ref q1, .ref q2, .null, .null, .int 0, .int 0, .int 0, .int 0])), (q1, .inr (6, [.ref (u1 0)])), ((u1 0), .inl (cI, 6, .inl (fun _ => 0))), (q2, .inr (6, [.ref (u2 0)])), ((u2 0), .inl (cI, 36, .inl (fun _ => 0)))] _ _ _ _ _
  refine z_al C (k := 0) (by decide +kernel) rfl (lv_at hl 0 rfl) ?_
  refine z_new C hA (idx := 9) 6 tyX6 [.null] rfl tyX6_ok blX6 (wAt_in (p := 351) (by decide +kernel)) (wAt_in (p := 121) (by decide +kernel)) (wAt_in (p := 93) (by decide +kernel)) (by decide +kernel) ⟨Nat.le_of_ble_eq_true rfl, Nat.le_of_ble_eq_true rfl⟩ (fun q3 => ?_)
  refine z_dup C (by decide +kernel) rfl ?_
  refine z_bp C (n := 48) (v := 48) (by decide +kernel) (by decide) ?_
  refine z_call C hA (idx := 11) (As := [.int 48]) (fun sz => ci_X6 hCK l D cI cJ q3 sz 48 (by decide)) rfl rfl (wAt_in (p := 124) (by decide +kernel)) (wAt_in (p := 93) (by decide +kernel)) (wAt_in (p := 123) (by decide +kernel)) (Or.inl (wAt_in (p := 352) (by decide +kernel))) rfl ⟨by decide +kernel, by decide +kernel, by decide +kernel⟩ ⟨Nat.le_of_ble_eq_true rfl, Nat.le_of_ble_eq_true rfl⟩ hl.1 (Nat.le_of_ble_eq_true rfl) (by decide +kernel) ⟨Nat.le_of_ble_eq_true rfl, Nat.le_of_ble_eq_true rfl⟩ (fun u3 => ?_)
  change ZW _ _ _ _ _ _ _ _ _ _ _ _ _ _ [(h0, .inr (7, [.null, .ref q1, .ref q2, .null, .null, .int 0, .int 0, .int 0, .int 0])), (q1, .inr (6, [.ref (u1 0)])), ((u1 0), .inl (cI, 6, .inl (fun _ => 0))), (q2, .inr (6, [.ref (u2 0)])), ((u2 0), .inl (cI, 36, .inl (fun _ => 0))), (q3, .inr (6, [.ref (u3 0)])), ((u3 0), .inl (cI, 48, .inl (fun _ => 0)))] _ _ _ _ _
  refine z_pf C hin (idx := 23) 0 3 rfl rfl (by decide) (wAt_in (p := 356) (by decide +kernel)) rfl rfl (tyX7 3) (tyX7_ok 3 (by decide)) rfl rfl (Nat.le_of_ble_eq_true rfl) (by decide +kernel) ?_
  change ZW _ _ _ _ _ _ _ _ _ _ _ _ _ _ [(h0, .inr (7, [.null, .ref q1, .ref q2, .ref q3, .null, .int 0, .int 0, .int 0, .int 0])), (q1, .inr (6, [.ref (u1 0)])), ((u1 0), .inl (cI, 6, .inl (fun _ => 0))), (q2, .inr (6, [.ref (u2 0)])), ((u2 0), .inl (cI, 36, .inl (fun _ => 0))), (q3, .inr (6, [.ref (u3 0)])), ((u3 0), .inl (cI, 48, .inl (fun _ => 0)))] _ _ _ _ _
  refine z_al C (k := 0) (by decide +kernel) rfl (lv_at hl 0 rfl) ?_
  refine z_new C hA (idx := 9) 6 tyX6 [.null] rfl tyX6_ok blX6 (wAt_in (p := 351) (by decide +kernel)) (wAt_in (p := 121) (by decide +kernel)) (wAt_in (p := 93) (by decide +kernel)) (by decide +kernel) ⟨Nat.le_of_ble_eq_true rfl, Nat.le_of_ble_eq_true rfl⟩ (fun q4 => ?_)
  refine z_dup C (by decide +kernel) rfl ?_
  refine z_bp C (n := 24) (v := 24) (by decide +kernel) (by decide) ?_
  refine z_call C hA (idx := 11) (As := [.int 24]) (fun sz => ci_X6 hCK l D cI cJ q4 sz 24 (by decide)) rfl rfl (wAt_in (p := 124) (by decide +kernel)) (wAt_in (p := 93) (by decide +kernel)) (wAt_in (p := 123) (by decide +kernel)) (Or.inl (wAt_in (p := 352) (by decide +kernel))) rfl ⟨by decide +kernel, by decide +kernel, by decide +kernel⟩ ⟨Nat.le_of_ble_eq_true rfl, Nat.le_of_ble_eq_true rfl⟩ hl.1 (Nat.le_of_ble_eq_true rfl) (by decide +kernel) ⟨Nat.le_of_ble_eq_true rfl, Nat.le_of_ble_eq_true rfl⟩ (fun u4 => ?_)
  change ZW _ _ _ _ _ _ _ _ _ _ _ _ _ _ [(h0, .inr (7, [.null, .ref q1, .ref q2, .ref q3, .null, .int 0, .int 0, .int 0, .int 0])), (q1, .inr (6, [.ref (u1 0)])), ((u1 0), .inl (cI, 6, .inl (fun _ => 0))), (q2, .inr (6, [.ref (u2 0)])), ((u2 0), .inl (cI, 36, .inl (fun _ => 0))), (q3, .inr (6, [.ref (u3 0)])), ((u3 0), .inl (cI, 48, .inl (fun _ => 0))), (q4, .inr (6, [.ref (u4 0)])), ((u4 0), .inl (cI, 24, .inl (fun _ => 0)))] _ _ _ _ _
  refine z_pf C hin (idx := 26) 0 4 rfl rfl (by decide) (wAt_in (p := 357) (by decide +kernel)) rfl rfl (tyX7 4) (tyX7_ok 4 (by decide)) rfl rfl (Nat.le_of_ble_eq_true rfl) (by decide +kernel) ?_
  change ZW _ _ _ _ _ _ _ _ _ _ _ _ _ _ [(h0, .inr (7, [.null, .ref q1, .ref q2, .ref q3, .ref q4, .int 0, .int 0, .int 0, .int 0])), (q1, .inr (6, [.ref (u1 0)])), ((u1 0), .inl (cI, 6, .inl (fun _ => 0))), (q2, .inr (6, [.ref (u2 0)])), ((u2 0), .inl (cI, 36, .inl (fun _ => 0))), (q3, .inr (6, [.ref (u3 0)])), ((u3 0), .inl (cI, 48, .inl (fun _ => 0))), (q4, .inr (6, [.ref (u4 0)])), ((u4 0), .inl (cI, 24, .inl (fun _ => 0)))] _ _ _ _ _
  refine z_al C (k := 0) (by decide +kernel) rfl (lv_at hl 0 rfl) ?_
  refine z_al C (k := 1) (by decide +kernel) rfl (lv_at hl 1 rfl) ?_
  refine z_pf C hin (idx := 29) 0 0 rfl rfl (by decide) (wAt_in (p := 353) (by decide +kernel)) rfl rfl (tyX7 0) (tyX7_ok 0 (by decide)) rfl rfl (Nat.le_of_ble_eq_true rfl) (by decide +kernel) ?_
  change ZW _ _ _ _ _ _ _ _ _ _ _ _ _ _ [(h0, .inr (7, [.ref r1, .ref q1, .ref q2, .ref q3, .ref q4, .int 0, .int 0, .int 0, .int 0])), (q1, .inr (6, [.ref (u1 0)])), ((u1 0), .inl (cI, 6, .inl (fun _ => 0))), (q2, .inr (6, [.ref (u2 0)])), ((u2 0), .inl (cI, 36, .inl (fun _ => 0))), (q3, .inr (6, [.ref (u3 0)])), ((u3 0), .inl (cI, 48, .inl (fun _ => 0))), (q4, .inr (6, [.ref (u4 0)])), ((u4 0), .inl (cI, 24, .inl (fun _ => 0)))] _ _ _ _ _
  intro H locs hP hD hS
  refine W.widen (k := 8) (n := 118) (Nat.le_of_ble_eq_true rfl) (Nat.le_of_ble_eq_true rfl) ?_
  exact W.vret C.1 C.2.1 hr (fun t ht hW => ⟨⟨fun k => ([q1, (u1 0), q2, (u2 0), q3, (u3 0), q4, (u4 0)] : List Nat).getD k 0, rfl, trivial, by rw [ht]; exact hP, va_K.moved hW.alike hK, hD⟩, hS.F ht⟩) hS.2.2 (by decide +kernel)
abbrev w_X5 (cI cJ : ClassId) (h0 : Nat) (r1 : Nat) (r2 : Nat) (r3 : Nat) (u : Nat → Nat) : va_W := [(h0, .inr (5, [.ref r1, .ref r2, .ref r3, .ref (u 0), .ref (u 2), .ref (u 4), .ref (u 6), .int 0, .int (-1), .int (-1)])), ((u 0), .inr (6, [.ref (u 1)])), ((u 1), .inl (cI, 80, .inl (fun _ => 0))), ((u 2), .inr (6, [.ref (u 3)])), ((u 3), .inl (cI, 80, .inl (fun _ => 0))), ((u 4), .inr (6, [.ref (u 5)])), ((u 5), .inl (cI, 80, .inl (fun _ => 0))), ((u 6), .inr (6, [.ref (u 7)])), ((u 7), .inl (cI, 9, .inl (fun _ => 0)))]
set_option maxRecDepth 100000 in
set_option maxHeartbeats 8000000 in
theorem ci_X5 (hCK : CHK) (l : Launch) (D : va_G) (cI cJ : ClassId) (h0 sz : Nat) (r1 : Nat) (r2 : Nat) (r3 : Nat) : Met l yX5_init (wkz yX5_init cX5_init 4) ({ frames := 2, cells := 8, slots := 253, locals := 42 }) (va_Pc [.ref h0, .ref r1, .ref r2, .ref r3] (IPre D cI cJ h0 (.inr (5, [.null, .null, .null, .null, .null, .null, .null, .int 0, .int 0, .int 0])) sz)) (IQ D cI cJ h0 (.inr (5, [.null, .null, .null, .null, .null, .null, .null, .int 0, .int 0, .int 0])) sz (w_X5 cI cJ h0 r1 r2 r3)) 8 253 (va_A [(h0, (.inr (5, [.null, .null, .null, .null, .null, .null, .null, .int 0, .int 0, .int 0])))] sz) := by
  refine Met.ofW (cc := cX5_init) (maxL := 4) (ret := none) (by decide) rfl ?_
  intro p e s m args below meth c s₁ B hml hv
  obtain ⟨rfl, hsz, hP, hK, hD0, hN⟩ := hv
  have hts := atoms_spec (ws := wkz yX5_init cX5_init 4) B.pre
  have hown : s.vm.findClass RX5 = some m.cls := findClass_of_methodNamed B.named
  have hin : meth.name = "<init>" := (name_of_methodNamed B.named B.method).1
  have hr := B.returns
  have hlocks := B.notSynchronized
  have C : CI p s m ([.ref h0, .ref r1, .ref r2, .ref r3] : List Value).toArray c D cI cJ RX5 cX5_init 4 := ⟨B.exec, B.bytes, hml, hown, fun w hw => hts w (List.mem_cons_of_mem _ hw), hK, hN, hCK⟩
  subst hsz
  have hD := hD0.self (sz := s.heap.size)
  unfold IQ
  generalize hAe : va_A [(h0, (.inr (5, [.null, .null, .null, .null, .null, .null, .null, .int 0, .int 0, .int 0])))] s.heap.size = A at hD ⊢
  have hA : ∀ q : Nat, s.heap.size ≤ q → A q := fun q h => by rw [← hAe]; exact Or.inr h
  have hl := lv_entry ([.ref h0, .ref r1, .ref r2, .ref r3]) (n := 4) (Nat.le_of_ble_eq_true rfl)
  rw [lg_entry_eq]
  generalize (lg_sl ([.ref h0, .ref r1, .ref r2, .ref r3]) ++ List.replicate (4 - (lg_sl ([.ref h0, .ref r1, .ref r2, .ref r3])).length) Slot.unset).toArray = ls at hl ⊢
  have hl : lv_has ls 4 [(0, .ref h0), (1, .ref r1), (2, .ref r2), (3, .ref r3)] := hl
  suffices hz : ZW p l e ({ frames := 2, cells := 8, slots := 253, locals := 42 }) s m ([.ref h0, .ref r1, .ref r2, .ref r3] : List Value).toArray below meth c _ D A s.heap [(h0, (.inr (5, [.null, .null, .null, .null, .null, .null, .null, .int 0, .int 0, .int 0])))] 0 0 0 ls [] from hz s.heap [] hP hD va_S.rf
  refine z_al C (k := 0) (by decide +kernel) rfl (lv_at hl 0 rfl) ?_
  refine z_oi C (idx := 3) (wAt_in (p := 386) (by decide +kernel)) (wAt_in (p := 112) (by decide +kernel)) (wAt_in (p := 113) (by decide +kernel)) hl.1 (by decide +kernel) (Nat.le_of_ble_eq_true rfl) (Nat.le_of_ble_eq_true rfl) ?_
  refine z_al C (k := 0) (by decide +kernel) rfl (lv_at hl 0 rfl) ?_
  refine z_new C hA (idx := 9) 6 tyX6 [.null] rfl tyX6_ok blX6 (wAt_in (p := 387) (by decide +kernel)) (wAt_in (p := 121) (by decide +kernel)) (wAt_in (p := 93) (by decide +kernel)) (by decide +kernel) ⟨Nat.le_of_ble_eq_true rfl, Nat.le_of_ble_eq_true rfl⟩ (fun q1 => ?_)
  refine z_dup C (by decide +kernel) rfl ?_
  refine z_bp C (n := 80) (v := 80) (by decide +kernel) (by decide) ?_
  refine z_call C hA (idx := 11) (As := [.int 80]) (fun sz => ci_X6 hCK l D cI cJ q1 sz 80 (by decide)) rfl rfl (wAt_in (p := 124) (by decide +kernel)) (wAt_in (p := 93) (by decide +kernel)) (wAt_in (p := 123) (by decide +kernel)) (Or.inl (wAt_in (p := 388) (by decide +kernel))) rfl ⟨by decide +kernel, by decide +kernel, by decide +kernel⟩ ⟨Nat.le_of_ble_eq_true rfl, Nat.le_of_ble_eq_true rfl⟩ hl.1 (Nat.le_of_ble_eq_true rfl) (by decide +kernel) ⟨Nat.le_of_ble_eq_true rfl, Nat.le_of_ble_eq_true rfl⟩ (fun u1 => ?_)
  change ZW _ _ _ _ _ _ _ _ _ _ _ _ _ _ [(h0, .inr (5, [.null, .null, .null, .null, .null, .null, .null, .int 0, .int 0, .int 0])), (q1, .inr (6, [.ref (u1 0)])), ((u1 0), .inl (cI, 80, .inl (fun _ => 0)))] _ _ _ _ _
  refine z_pf C hin (idx := 14) 0 3 rfl rfl (by decide) (wAt_in (p := 392) (by decide +kernel)) rfl rfl (tyX5 3) (tyX5_ok 3 (by decide)) rfl rfl (Nat.le_of_ble_eq_true rfl) (by decide +kernel) ?_
  change ZW _ _ _ _ _ _ _ _ _ _ _ _ _ _ [(h0, .inr (5, [.null, .null, .null, .ref q1, .null, .null, .null, .int 0, .int 0, .int 0])), (q1, .inr (6, [.ref (u1 0)])), ((u1 0), .inl (cI, 80, .inl (fun _ => 0)))] _ _ _ _ _
  refine z_al C (k := 0) (by decide +kernel) rfl (lv_at hl 0 rfl) ?_
  refine z_new C hA (idx := 9) 6 tyX6 [.null] rfl tyX6_ok blX6 (wAt_in (p := 387) (by decide +kernel)) (wAt_in (p := 121) (by decide +kernel)) (wAt_in (p := 93) (by decide +kernel)) (by decide +kernel) ⟨Nat.le_of_ble_eq_true rfl, Nat.le_of_ble_eq_true rfl⟩ (fun q2 => ?_)
  refine z_dup C (by decide +kernel) rfl ?_
  refine z_bp C (n := 80) (v := 80) (by decide +kernel) (by decide) ?_
  refine z_call C hA (idx := 11) (As := [.int 80]) (fun sz => ci_X6 hCK l D cI cJ q2 sz 80 (by decide)) rfl rfl (wAt_in (p := 124) (by decide +kernel)) (wAt_in (p := 93) (by decide +kernel)) (wAt_in (p := 123) (by decide +kernel)) (Or.inl (wAt_in (p := 388) (by decide +kernel))) rfl ⟨by decide +kernel, by decide +kernel, by decide +kernel⟩ ⟨Nat.le_of_ble_eq_true rfl, Nat.le_of_ble_eq_true rfl⟩ hl.1 (Nat.le_of_ble_eq_true rfl) (by decide +kernel) ⟨Nat.le_of_ble_eq_true rfl, Nat.le_of_ble_eq_true rfl⟩ (fun u2 => ?_)
  change ZW _ _ _ _ _ _ _ _ _ _ _ _ _ _ [(h0, .inr (5, [.null, .null, .null, .ref q1, .null, .null, .null, .int 0, .int 0, .int 0])), (q1, .inr (6, [.ref (u1 0)])), ((u1 0), .inl (cI, 80, .inl (fun _ => 0))), (q2, .inr (6, [.ref (u2 0)])), ((u2 0), .inl (cI, 80, .inl (fun _ => 0)))] _ _ _ _ _
  refine z_pf C hin (idx := 20) 0 4 rfl rfl (by decide) (wAt_in (p := 393) (by decide +kernel)) rfl rfl (tyX5 4) (tyX5_ok 4 (by decide)) rfl rfl (Nat.le_of_ble_eq_true rfl) (by decide +kernel) ?_
  change ZW _ _ _ _ _ _ _ _ _ _ _ _ _ _ [(h0, .inr (5, [.null, .null, .null, .ref q1, .ref q2, .null, .null, .int 0, .int 0, .int 0])), (q1, .inr (6, [.ref (u1 0)])), ((u1 0), .inl (cI, 80, .inl (fun _ => 0))), (q2, .inr (6, [.ref (u2 0)])), ((u2 0), .inl (cI, 80, .inl (fun _ => 0)))] _ _ _ _ _
  refine z_al C (k := 0) (by decide +kernel) rfl (lv_at hl 0 rfl) ?_
  refine z_new C hA (idx := 9) 6 tyX6 [.null] rfl tyX6_ok blX6 (wAt_in (p := 387) (by decide +kernel)) (wAt_in (p := 121) (by decide +kernel)) (wAt_in (p := 93) (by decide +kernel)) (by decide +kernel) ⟨Nat.le_of_ble_eq_true rfl, Nat.le_of_ble_eq_true rfl⟩ (fun q3 => ?_)
  refine z_dup C (by decide +kernel) rfl ?_
  refine z_bp C (n := 80) (v := 80) (by decide +kernel) (by decide) ?_
  refine z_call C hA (idx := 11) (As := [.int 80]) (fun sz => ci_X6 hCK l D cI cJ q3 sz 80 (by decide)) rfl rfl (wAt_in (p := 124) (by decide +kernel)) (wAt_in (p := 93) (by decide +kernel)) (wAt_in (p := 123) (by decide +kernel)) (Or.inl (wAt_in (p := 388) (by decide +kernel))) rfl ⟨by decide +kernel, by decide +kernel, by decide +kernel⟩ ⟨Nat.le_of_ble_eq_true rfl, Nat.le_of_ble_eq_true rfl⟩ hl.1 (Nat.le_of_ble_eq_true rfl) (by decide +kernel) ⟨Nat.le_of_ble_eq_true rfl, Nat.le_of_ble_eq_true rfl⟩ (fun u3 => ?_)
  change ZW _ _ _ _ _ _ _ _ _ _ _ _ _ _ [(h0, .inr (5, [.null, .null, .null, .ref q1, .ref q2, .null, .null, .int 0, .int 0, .int 0])), (q1, .inr (6, [.ref (u1 0)])), ((u1 0), .inl (cI, 80, .inl (fun _ => 0))), (q2, .inr (6, [.ref (u2 0)])), ((u2 0), .inl (cI, 80, .inl (fun _ => 0))), (q3, .inr (6, [.ref (u3 0)])), ((u3 0), .inl (cI, 80, .inl (fun _ => 0)))] _ _ _ _ _
  refine z_pf C hin (idx := 23) 0 5 rfl rfl (by decide) (wAt_in (p := 394) (by decide +kernel)) rfl rfl (tyX5 5) (tyX5_ok 5 (by decide)) rfl rfl (Nat.le_of_ble_eq_true rfl) (by decide +kernel) ?_
  change ZW _ _ _ _ _ _ _ _ _ _ _ _ _ _ [(h0, .inr (5, [.null, .null, .null, .ref q1, .ref q2, .ref q3, .null, .int 0, .int 0, .int 0])), (q1, .inr (6, [.ref (u1 0)])), ((u1 0), .inl (cI, 80, .inl (fun _ => 0))), (q2, .inr (6, [.ref (u2 0)])), ((u2 0), .inl (cI, 80, .inl (fun _ => 0))), (q3, .inr (6, [.ref (u3 0)])), ((u3 0), .inl (cI, 80, .inl (fun _ => 0)))] _ _ _ _ _
  refine z_al C (k := 0) (by decide +kernel) rfl (lv_at hl 0 rfl) ?_
  refine z_new C hA (idx := 9) 6 tyX6 [.null] rfl tyX6_ok blX6 (wAt_in (p := 387) (by decide +kernel)) (wAt_in (p := 121) (by decide +kernel)) (wAt_in (p := 93) (by decide +kernel)) (by decide +kernel) ⟨Nat.le_of_ble_eq_true rfl, Nat.le_of_ble_eq_true rfl⟩ (fun q4 => ?_)
  refine z_dup C (by decide +kernel) rfl ?_
  refine z_bp C (n := 9) (v := 9) (by decide +kernel) (by decide) ?_
  refine z_call C hA (idx := 11) (As := [.int 9]) (fun sz => ci_X6 hCK l D cI cJ q4 sz 9 (by decide)) rfl rfl (wAt_in (p := 124) (by decide +kernel)) (wAt_in (p := 93) (by decide +kernel)) (wAt_in (p := 123) (by decide +kernel)) (Or.inl (wAt_in (p := 388) (by decide +kernel))) rfl ⟨by decide +kernel, by decide +kernel, by decide +kernel⟩ ⟨Nat.le_of_ble_eq_true rfl, Nat.le_of_ble_eq_true rfl⟩ hl.1 (Nat.le_of_ble_eq_true rfl) (by decide +kernel) ⟨Nat.le_of_ble_eq_true rfl, Nat.le_of_ble_eq_true rfl⟩ (fun u4 => ?_)
  change ZW _ _ _ _ _ _ _ _ _ _ _ _ _ _ [(h0, .inr (5, [.null, .null, .null, .ref q1, .ref q2, .ref q3, .null, .int 0, .int 0, .int 0])), (q1, .inr (6, [.ref (u1 0)])), ((u1 0), .inl (cI, 80, .inl (fun _ => 0))), (q2, .inr (6, [.ref (u2 0)])), ((u2 0), .inl (cI, 80, .inl (fun _ => 0))), (q3, .inr (6, [.ref (u3 0)])), ((u3 0), .inl (cI, 80, .inl (fun _ => 0))), (q4, .inr (6, [.ref (u4 0)])), ((u4 0), .inl (cI, 9, .inl (fun _ => 0)))] _ _ _ _ _
  refine z_pf C hin (idx := 26) 0 6 rfl rfl (by decide) (wAt_in (p := 395) (by decide +kernel)) rfl rfl (tyX5 6) (tyX5_ok 6 (by decide)) rfl rfl (Nat.le_of_ble_eq_true rfl) (by decide +kernel) ?_
  change ZW _ _ _ _ _ _ _ _ _ _ _ _ _ _ [(h0, .inr (5, [.null, .null, .null, .ref q1, .ref q2, .ref q3, .ref q4, .int 0, .int 0, .int 0])), (q1, .inr (6, [.ref (u1 0)])), ((u1 0), .inl (cI, 80, .inl (fun _ => 0))), (q2, .inr (6, [.ref (u2 0)])), ((u2 0), .inl (cI, 80, .inl (fun _ => 0))), (q3, .inr (6, [.ref (u3 0)])), ((u3 0), .inl (cI, 80, .inl (fun _ => 0))), (q4, .inr (6, [.ref (u4 0)])), ((u4 0), .inl (cI, 9, .inl (fun _ => 0)))] _ _ _ _ _
  refine z_al C (k := 0) (by decide +kernel) rfl (lv_at hl 0 rfl) ?_
  refine z_ic C (n := (-1)) (v := (-1)) (by decide +kernel) (by decide) ?_
  refine z_pn C (idx := 29) 0 8 rfl rfl (by decide) (wAt_in (p := 397) (by decide +kernel)) rfl (tyX5 8) (tyX5_ok 8 (by decide)) rfl rfl (Nat.le_of_ble_eq_true rfl) (by decide +kernel) ?_
  change ZW _ _ _ _ _ _ _ _ _ _ _ _ _ _ [(h0, .inr (5, [.null, .null, .null, .ref q1, .ref q2, .ref q3, .ref q4, .int 0, .int (-1), .int 0])), (q1, .inr (6, [.ref (u1 0)])), ((u1 0), .inl (cI, 80, .inl (fun _ => 0))), (q2, .inr (6, [.ref (u2 0)])), ((u2 0), .inl (cI, 80, .inl (fun _ => 0))), (q3, .inr (6, [.ref (u3 0)])), ((u3 0), .inl (cI, 80, .inl (fun _ => 0))), (q4, .inr (6, [.ref (u4 0)])), ((u4 0), .inl (cI, 9, .inl (fun _ => 0)))] _ _ _ _ _
  refine z_al C (k := 0) (by decide +kernel) rfl (lv_at hl 0 rfl) ?_
  refine z_ic C (n := (-1)) (v := (-1)) (by decide +kernel) (by decide) ?_
  refine z_pn C (idx := 33) 0 9 rfl rfl (by decide) (wAt_in (p := 398) (by decide +kernel)) rfl (tyX5 9) (tyX5_ok 9 (by decide)) rfl rfl (Nat.le_of_ble_eq_true rfl) (by decide +kernel) ?_
  change ZW _ _ _ _ _ _ _ _ _ _ _ _ _ _ [(h0, .inr (5, [.null, .null, .null, .ref q1, .ref q2, .ref q3, .ref q4, .int 0, .int (-1), .int (-1)])), (q1, .inr (6, [.ref (u1 0)])), ((u1 0), .inl (cI, 80, .inl (fun _ => 0))), (q2, .inr (6, [.ref (u2 0)])), ((u2 0), .inl (cI, 80, .inl (fun _ => 0))), (q3, .inr (6, [.ref (u3 0)])), ((u3 0), .inl (cI, 80, .inl (fun _ => 0))), (q4, .inr (6, [.ref (u4 0)])), ((u4 0), .inl (cI, 9, .inl (fun _ => 0)))] _ _ _ _ _
  refine z_al C (k := 0) (by decide +kernel) rfl (lv_at hl 0 rfl) ?_
  refine z_al C (k := 1) (by decide +kernel) rfl (lv_at hl 1 rfl) ?_
  refine z_pf C hin (idx := 36) 0 0 rfl rfl (by decide) (wAt_in (p := 389) (by decide +kernel)) rfl rfl (tyX5 0) (tyX5_ok 0 (by decide)) rfl rfl (Nat.le_of_ble_eq_true rfl) (by decide +kernel) ?_
  change ZW _ _ _ _ _ _ _ _ _ _ _ _ _ _ [(h0, .inr (5, [.ref r1, .null, .null, .ref q1, .ref q2, .ref q3, .ref q4, .int 0, .int (-1), .int (-1)])), (q1, .inr (6, [.ref (u1 0)])), ((u1 0), .inl (cI, 80, .inl (fun _ => 0))), (q2, .inr (6, [.ref (u2 0)])), ((u2 0), .inl (cI, 80, .inl (fun _ => 0))), (q3, .inr (6, [.ref (u3 0)])), ((u3 0), .inl (cI, 80, .inl (fun _ => 0))), (q4, .inr (6, [.ref (u4 0)])), ((u4 0), .inl (cI, 9, .inl (fun _ => 0)))] _ _ _ _ _
  refine z_al C (k := 0) (by decide +kernel) rfl (lv_at hl 0 rfl) ?_
  refine z_al C (k := 2) (by decide +kernel) rfl (lv_at hl 2 rfl) ?_
  refine z_pf C hin (idx := 40) 0 1 rfl rfl (by decide) (wAt_in (p := 390) (by decide +kernel)) rfl rfl (tyX5 1) (tyX5_ok 1 (by decide)) rfl rfl (Nat.le_of_ble_eq_true rfl) (by decide +kernel) ?_
  change ZW _ _ _ _ _ _ _ _ _ _ _ _ _ _ [(h0, .inr (5, [.ref r1, .ref r2, .null, .ref q1, .ref q2, .ref q3, .ref q4, .int 0, .int (-1), .int (-1)])), (q1, .inr (6, [.ref (u1 0)])), ((u1 0), .inl (cI, 80, .inl (fun _ => 0))), (q2, .inr (6, [.ref (u2 0)])), ((u2 0), .inl (cI, 80, .inl (fun _ => 0))), (q3, .inr (6, [.ref (u3 0)])), ((u3 0), .inl (cI, 80, .inl (fun _ => 0))), (q4, .inr (6, [.ref (u4 0)])), ((u4 0), .inl (cI, 9, .inl (fun _ => 0)))] _ _ _ _ _
  refine z_al C (k := 0) (by decide +kernel) rfl (lv_at hl 0 rfl) ?_
  refine z_al C (k := 3) (by decide +kernel) rfl (lv_at hl 3 rfl) ?_
  refine z_pf C hin (idx := 44) 0 2 rfl rfl (by decide) (wAt_in (p := 391) (by decide +kernel)) rfl rfl (tyX5 2) (tyX5_ok 2 (by decide)) rfl rfl (Nat.le_of_ble_eq_true rfl) (by decide +kernel) ?_
  change ZW _ _ _ _ _ _ _ _ _ _ _ _ _ _ [(h0, .inr (5, [.ref r1, .ref r2, .ref r3, .ref q1, .ref q2, .ref q3, .ref q4, .int 0, .int (-1), .int (-1)])), (q1, .inr (6, [.ref (u1 0)])), ((u1 0), .inl (cI, 80, .inl (fun _ => 0))), (q2, .inr (6, [.ref (u2 0)])), ((u2 0), .inl (cI, 80, .inl (fun _ => 0))), (q3, .inr (6, [.ref (u3 0)])), ((u3 0), .inl (cI, 80, .inl (fun _ => 0))), (q4, .inr (6, [.ref (u4 0)])), ((u4 0), .inl (cI, 9, .inl (fun _ => 0)))] _ _ _ _ _
  intro H locs hP hD hS
  refine W.widen (k := 8) (n := 253) (Nat.le_of_ble_eq_true rfl) (Nat.le_of_ble_eq_true rfl) ?_
  exact W.vret C.1 C.2.1 hr (fun t ht hW => ⟨⟨fun k => ([q1, (u1 0), q2, (u2 0), q3, (u3 0), q4, (u4 0)] : List Nat).getD k 0, rfl, trivial, by rw [ht]; exact hP, va_K.moved hW.alike hK, hD⟩, hS.F ht⟩) hS.2.2 (by decide +kernel)
abbrev w_X0 (cI cJ : ClassId) (h0 : Nat) (r1 : Nat) (u : Nat → Nat) : va_W := [(h0, .inr (0, [.ref r1, .ref (u 0), .ref (u 2), .ref (u 4), .int 0])), ((u 0), .inr (6, [.ref (u 1)])), ((u 1), .inl (cI, 40, .inl (fun _ => 0))), ((u 2), .inr (6, [.ref (u 3)])), ((u 3), .inl (cI, 30, .inl (fun _ => 0))), ((u 4), .inr (6, [.ref (u 5)])), ((u 5), .inl (cI, 60, .inl (fun _ => 0)))]
set_option maxRecDepth 100000 in
set_option maxHeartbeats 8000000 in
theorem ci_X0 (hCK : CHK) (l : Launch) (D : va_G) (cI cJ : ClassId) (h0 sz : Nat) (r1 : Nat) : Met l yX0_init (wkz yX0_init cX0_init 2) ({ frames := 2, cells := 6, slots := 133, locals := 42 }) (va_Pc [.ref h0, .ref r1] (IPre D cI cJ h0 (.inr (0, [.null, .null, .null, .null, .int 0])) sz)) (IQ D cI cJ h0 (.inr (0, [.null, .null, .null, .null, .int 0])) sz (w_X0 cI cJ h0 r1)) 6 133 (va_A [(h0, (.inr (0, [.null, .null, .null, .null, .int 0])))] sz) := by
  refine Met.ofW (cc := cX0_init) (maxL := 2) (ret := none) (by decide) rfl ?_
  intro p e s m args below meth c s₁ B hml hv
  obtain ⟨rfl, hsz, hP, hK, hD0, hN⟩ := hv
  have hts := atoms_spec (ws := wkz yX0_init cX0_init 2) B.pre
  have hown : s.vm.findClass RX0 = some m.cls := findClass_of_methodNamed B.named
  have hin : meth.name = "<init>" := (name_of_methodNamed B.named B.method).1
  have hr := B.returns
  have hlocks := B.notSynchronized
  have C : CI p s m ([.ref h0, .ref r1] : List Value).toArray c D cI cJ RX0 cX0_init 2 := ⟨B.exec, B.bytes, hml, hown, fun w hw => hts w (List.mem_cons_of_mem _ hw), hK, hN, hCK⟩
  subst hsz
  have hD := hD0.self (sz := s.heap.size)
  unfold IQ
  generalize hAe : va_A [(h0, (.inr (0, [.null, .null, .null, .null, .int 0])))] s.heap.size = A at hD ⊢
  have hA : ∀ q : Nat, s.heap.size ≤ q → A q := fun q h => by rw [← hAe]; exact Or.inr h
  have hl := lv_entry ([.ref h0, .ref r1]) (n := 2) (Nat.le_of_ble_eq_true rfl)
  rw [lg_entry_eq]
  generalize (lg_sl ([.ref h0, .ref r1]) ++ List.replicate (2 - (lg_sl ([.ref h0, .ref r1])).length) Slot.unset).toArray = ls at hl ⊢
  have hl : lv_has ls 2 [(0, .ref h0), (1, .ref r1)] := hl
  suffices hz : ZW p l e ({ frames := 2, cells := 6, slots := 133, locals := 42 }) s m ([.ref h0, .ref r1] : List Value).toArray below meth c _ D A s.heap [(h0, (.inr (0, [.null, .null, .null, .null, .int 0])))] 0 0 0 ls [] from hz s.heap [] hP hD va_S.rf
  refine z_al C (k := 0) (by decide +kernel) rfl (lv_at hl 0 rfl) ?_
  refine z_oi C (idx := 3) (wAt_in (p := 425) (by decide +kernel)) (wAt_in (p := 112) (by decide +kernel)) (wAt_in (p := 113) (by decide +kernel)) hl.1 (by decide +kernel) (Nat.le_of_ble_eq_true rfl) (Nat.le_of_ble_eq_true rfl) ?_
  refine z_al C (k := 0) (by decide +kernel) rfl (lv_at hl 0 rfl) ?_
  refine z_new C hA (idx := 9) 6 tyX6 [.null] rfl tyX6_ok blX6 (wAt_in (p := 426) (by decide +kernel)) (wAt_in (p := 121) (by decide +kernel)) (wAt_in (p := 93) (by decide +kernel)) (by decide +kernel) ⟨Nat.le_of_ble_eq_true rfl, Nat.le_of_ble_eq_true rfl⟩ (fun q1 => ?_)
  refine z_dup C (by decide +kernel) rfl ?_
  refine z_bp C (n := 40) (v := 40) (by decide +kernel) (by decide) ?_
  refine z_call C hA (idx := 11) (As := [.int 40]) (fun sz => ci_X6 hCK l D cI cJ q1 sz 40 (by decide)) rfl rfl (wAt_in (p := 124) (by decide +kernel)) (wAt_in (p := 93) (by decide +kernel)) (wAt_in (p := 123) (by decide +kernel)) (Or.inl (wAt_in (p := 427) (by decide +kernel))) rfl ⟨by decide +kernel, by decide +kernel, by decide +kernel⟩ ⟨Nat.le_of_ble_eq_true rfl, Nat.le_of_ble_eq_true rfl⟩ hl.1 (Nat.le_of_ble_eq_true rfl) (by decide +kernel) ⟨Nat.le_of_ble_eq_true rfl, Nat.le_of_ble_eq_true rfl⟩ (fun u1 => ?_)
  change ZW _ _ _ _ _ _ _ _ _ _ _ _ _ _ [(h0, .inr (0, [.null, .null, .null, .null, .int 0])), (q1, .inr (6, [.ref (u1 0)])), ((u1 0), .inl (cI, 40, .inl (fun _ => 0)))] _ _ _ _ _
  refine z_pf C hin (idx := 14) 0 1 rfl rfl (by decide) (wAt_in (p := 429) (by decide +kernel)) rfl rfl (tyX0 1) (tyX0_ok 1 (by decide)) rfl rfl (Nat.le_of_ble_eq_true rfl) (by decide +kernel) ?_
  change ZW _ _ _ _ _ _ _ _ _ _ _ _ _ _ [(h0, .inr (0, [.null, .ref q1, .null, .null, .int 0])), (q1, .inr (6, [.ref (u1 0)])), ((u1 0), .inl (cI, 40, .inl (fun _ => 0)))] _ _ _ _ _
  refine z_al C (k := 0) (by decide +kernel) rfl (lv_at hl 0 rfl) ?_
  refine z_new C hA (idx := 9) 6 tyX6 [.null] rfl tyX6_ok blX6 (wAt_in (p := 426) (by decide +kernel)) (wAt_in (p := 121) (by decide +kernel)) (wAt_in (p := 93) (by decide +kernel)) (by decide +kernel) ⟨Nat.le_of_ble_eq_true rfl, Nat.le_of_ble_eq_true rfl⟩ (fun q2 => ?_)
  refine z_dup C (by decide +kernel) rfl ?_
  refine z_bp C (n := 30) (v := 30) (by decide +kernel) (by decide) ?_
  refine z_call C hA (idx := 11) (As := [.int 30]) (fun sz => ci_X6 hCK l D cI cJ q2 sz 30 (by decide)) rfl rfl (wAt_in (p := 124) (by decide +kernel)) (wAt_in (p := 93) (by decide +kernel)) (wAt_in (p := 123) (by decide +kernel)) (Or.inl (wAt_in (p := 427) (by decide +kernel))) rfl ⟨by decide +kernel, by decide +kernel, by decide +kernel⟩ ⟨Nat.le_of_ble_eq_true rfl, Nat.le_of_ble_eq_true rfl⟩ hl.1 (Nat.le_of_ble_eq_true rfl) (by decide +kernel) ⟨Nat.le_of_ble_eq_true rfl, Nat.le_of_ble_eq_true rfl⟩ (fun u2 => ?_)
  change ZW _ _ _ _ _ _ _ _ _ _ _ _ _ _ [(h0, .inr (0, [.null, .ref q1, .null, .null, .int 0])), (q1, .inr (6, [.ref (u1 0)])), ((u1 0), .inl (cI, 40, .inl (fun _ => 0))), (q2, .inr (6, [.ref (u2 0)])), ((u2 0), .inl (cI, 30, .inl (fun _ => 0)))] _ _ _ _ _
  refine z_pf C hin (idx := 20) 0 2 rfl rfl (by decide) (wAt_in (p := 430) (by decide +kernel)) rfl rfl (tyX0 2) (tyX0_ok 2 (by decide)) rfl rfl (Nat.le_of_ble_eq_true rfl) (by decide +kernel) ?_
  change ZW _ _ _ _ _ _ _ _ _ _ _ _ _ _ [(h0, .inr (0, [.null, .ref q1, .ref q2, .null, .int 0])), (q1, .inr (6, [.ref (u1 0)])), ((u1 0), .inl (cI, 40, .inl (fun _ => 0))), (q2, .inr (6, [.ref (u2 0)])), ((u2 0), .inl (cI, 30, .inl (fun _ => 0)))] _ _ _ _ _
  refine z_al C (k := 0) (by decide +kernel) rfl (lv_at hl 0 rfl) ?_
  refine z_new C hA (idx := 9) 6 tyX6 [.null] rfl tyX6_ok blX6 (wAt_in (p := 426) (by decide +kernel)) (wAt_in (p := 121) (by decide +kernel)) (wAt_in (p := 93) (by decide +kernel)) (by decide +kernel) ⟨Nat.le_of_ble_eq_true rfl, Nat.le_of_ble_eq_true rfl⟩ (fun q3 => ?_)
  refine z_dup C (by decide +kernel) rfl ?_
  refine z_bp C (n := 60) (v := 60) (by decide +kernel) (by decide) ?_
  refine z_call C hA (idx := 11) (As := [.int 60]) (fun sz => ci_X6 hCK l D cI cJ q3 sz 60 (by decide)) rfl rfl (wAt_in (p := 124) (by decide +kernel)) (wAt_in (p := 93) (by decide +kernel)) (wAt_in (p := 123) (by decide +kernel)) (Or.inl (wAt_in (p := 427) (by decide +kernel))) rfl ⟨by decide +kernel, by decide +kernel, by decide +kernel⟩ ⟨Nat.le_of_ble_eq_true rfl, Nat.le_of_ble_eq_true rfl⟩ hl.1 (Nat.le_of_ble_eq_true rfl) (by decide +kernel) ⟨Nat.le_of_ble_eq_true rfl, Nat.le_of_ble_eq_true rfl⟩ (fun u3 => ?_)
  change ZW _ _ _ _ _ _ _ _ _ _ _ _ _ _ [(h0, .inr (0, [.null, .ref q1, .ref q2, .null, .int 0])), (q1, .inr (6, [.ref (u1 0)])), ((u1 0), .inl (cI, 40, .inl (fun _ => 0))), (q2, .inr (6, [.ref (u2 0)])), ((u2 0), .inl (cI, 30, .inl (fun _ => 0))), (q3, .inr (6, [.ref (u3 0)])), ((u3 0), .inl (cI, 60, .inl (fun _ => 0)))] _ _ _ _ _
  refine z_pf C hin (idx := 23) 0 3 rfl rfl (by decide) (wAt_in (p := 431) (by decide +kernel)) rfl rfl (tyX0 3) (tyX0_ok 3 (by decide)) rfl rfl (Nat.le_of_ble_eq_true rfl) (by decide +kernel) ?_
  change ZW _ _ _ _ _ _ _ _ _ _ _ _ _ _ [(h0, .inr (0, [.null, .ref q1, .ref q2, .ref q3, .int 0])), (q1, .inr (6, [.ref (u1 0)])), ((u1 0), .inl (cI, 40, .inl (fun _ => 0))), (q2, .inr (6, [.ref (u2 0)])), ((u2 0), .inl (cI, 30, .inl (fun _ => 0))), (q3, .inr (6, [.ref (u3 0)])), ((u3 0), .inl (cI, 60, .inl (fun _ => 0)))] _ _ _ _ _
  refine z_al C (k := 0) (by decide +kernel) rfl (lv_at hl 0 rfl) ?_
  refine z_al C (k := 1) (by decide +kernel) rfl (lv_at hl 1 rfl) ?_
  refine z_pf C hin (idx := 26) 0 0 rfl rfl (by decide) (wAt_in (p := 428) (by decide +kernel)) rfl rfl (tyX0 0) (tyX0_ok 0 (by decide)) rfl rfl (Nat.le_of_ble_eq_true rfl) (by decide +kernel) ?_
  change ZW _ _ _ _ _ _ _ _ _ _ _ _ _ _ [(h0, .inr (0, [.ref r1, .ref q1, .ref q2, .ref q3, .int 0])), (q1, .inr (6, [.ref (u1 0)])), ((u1 0), .inl (cI, 40, .inl (fun _ => 0))), (q2, .inr (6, [.ref (u2 0)])), ((u2 0), .inl (cI, 30, .inl (fun _ => 0))), (q3, .inr (6, [.ref (u3 0)])), ((u3 0), .inl (cI, 60, .inl (fun _ => 0)))] _ _ _ _ _
  intro H locs hP hD hS
  refine W.widen (k := 6) (n := 133) (Nat.le_of_ble_eq_true rfl) (Nat.le_of_ble_eq_true rfl) ?_
  exact W.vret C.1 C.2.1 hr (fun t ht hW => ⟨⟨fun k => ([q1, (u1 0), q2, (u2 0), q3, (u3 0)] : List Nat).getD k 0, rfl, trivial, by rw [ht]; exact hP, va_K.moved hW.alike hK, hD⟩, hS.F ht⟩) hS.2.2 (by decide +kernel)
abbrev w_X8 (cI cJ : ClassId) (h0 : Nat) (u : Nat → Nat) : va_W := [(h0, .inr (8, [.ref (u 0), .ref (u 2), .ref (u 4)])), ((u 0), .inr (6, [.ref (u 1)])), ((u 1), .inl (cI, 240, .inl (fun _ => 0))), ((u 2), .inr (6, [.ref (u 3)])), ((u 3), .inl (cI, 4, .inl (fill4 (fun _ => 0)))), ((u 4), .inr (6, [.ref (u 5)])), ((u 5), .inl (cI, 4, .inl (fun _ => 0)))]
set_option maxRecDepth 100000 in
set_option maxHeartbeats 8000000 in
theorem ci_X8 (hCK : CHK) (l : Launch) (D : va_G) (cI cJ : ClassId) (h0 sz : Nat) : Met l yX8_init (wkz yX8_init cX8_init 1) ({ frames := 2, cells := 6, slots := 251, locals := 42 }) (va_Pc [.ref h0] (IPre D cI cJ h0 (.inr (8, [.null, .null, .null])) sz)) (IQ D cI cJ h0 (.inr (8, [.null, .null, .null])) sz (w_X8 cI cJ h0)) 6 251 (va_A [(h0, (.inr (8, [.null, .null, .null])))] sz) := by
  refine Met.ofW (cc := cX8_init) (maxL := 1) (ret := none) (by decide) rfl ?_
  intro p e s m args below meth c s₁ B hml hv
  obtain ⟨rfl, hsz, hP, hK, hD0, hN⟩ := hv
  have hts := atoms_spec (ws := wkz yX8_init cX8_init 1) B.pre
  have hown : s.vm.findClass RX8 = some m.cls := findClass_of_methodNamed B.named
  have hin : meth.name = "<init>" := (name_of_methodNamed B.named B.method).1
  have hr := B.returns
  have hlocks := B.notSynchronized
  have C : CI p s m ([.ref h0] : List Value).toArray c D cI cJ RX8 cX8_init 1 := ⟨B.exec, B.bytes, hml, hown, fun w hw => hts w (List.mem_cons_of_mem _ hw), hK, hN, hCK⟩
  subst hsz
  have hD := hD0.self (sz := s.heap.size)
  unfold IQ
  generalize hAe : va_A [(h0, (.inr (8, [.null, .null, .null])))] s.heap.size = A at hD ⊢
  have hA : ∀ q : Nat, s.heap.size ≤ q → A q := fun q h => by rw [← hAe]; exact Or.inr h
  have hl := lv_entry ([.ref h0]) (n := 1) (Nat.le_of_ble_eq_true rfl)
  rw [lg_entry_eq]
  generalize (lg_sl ([.ref h0]) ++ List.replicate (1 - (lg_sl ([.ref h0])).length) Slot.unset).toArray = ls at hl ⊢
  have hl : lv_has ls 1 [(0, .ref h0)] := hl
  suffices hz : ZW p l e ({ frames := 2, cells := 6, slots := 251, locals := 42 }) s m ([.ref h0] : List Value).toArray below meth c _ D A s.heap [(h0, (.inr (8, [.null, .null, .null])))] 0 0 0 ls [] from hz s.heap [] hP hD va_S.rf
  refine z_al C (k := 0) (by decide +kernel) rfl (lv_at hl 0 rfl) ?_
  refine z_oi C (idx := 3) (wAt_in (p := 449) (by decide +kernel)) (wAt_in (p := 112) (by decide +kernel)) (wAt_in (p := 113) (by decide +kernel)) hl.1 (by decide +kernel) (Nat.le_of_ble_eq_true rfl) (Nat.le_of_ble_eq_true rfl) ?_
  refine z_al C (k := 0) (by decide +kernel) rfl (lv_at hl 0 rfl) ?_
  refine z_new C hA (idx := 9) 6 tyX6 [.null] rfl tyX6_ok blX6 (wAt_in (p := 450) (by decide +kernel)) (wAt_in (p := 121) (by decide +kernel)) (wAt_in (p := 93) (by decide +kernel)) (by decide +kernel) ⟨Nat.le_of_ble_eq_true rfl, Nat.le_of_ble_eq_true rfl⟩ (fun q1 => ?_)
  refine z_dup C (by decide +kernel) rfl ?_
  refine z_sp C (n := 240) (v := 240) (by decide +kernel) (by decide) ?_
  refine z_call C hA (idx := 11) (As := [.int 240]) (fun sz => ci_X6 hCK l D cI cJ q1 sz 240 (by decide)) rfl rfl (wAt_in (p := 124) (by decide +kernel)) (wAt_in (p := 93) (by decide +kernel)) (wAt_in (p := 123) (by decide +kernel)) (Or.inl (wAt_in (p := 451) (by decide +kernel))) rfl ⟨by decide +kernel, by decide +kernel, by decide +kernel⟩ ⟨Nat.le_of_ble_eq_true rfl, Nat.le_of_ble_eq_true rfl⟩ hl.1 (Nat.le_of_ble_eq_true rfl) (by decide +kernel) ⟨Nat.le_of_ble_eq_true rfl, Nat.le_of_ble_eq_true rfl⟩ (fun u1 => ?_)
  change ZW _ _ _ _ _ _ _ _ _ _ _ _ _ _ [(h0, .inr (8, [.null, .null, .null])), (q1, .inr (6, [.ref (u1 0)])), ((u1 0), .inl (cI, 240, .inl (fun _ => 0)))] _ _ _ _ _
  refine z_pf C hin (idx := 14) 0 0 rfl rfl (by decide) (wAt_in (p := 456) (by decide +kernel)) rfl rfl (tyX8 0) (tyX8_ok 0 (by decide)) rfl rfl (Nat.le_of_ble_eq_true rfl) (by decide +kernel) ?_
  change ZW _ _ _ _ _ _ _ _ _ _ _ _ _ _ [(h0, .inr (8, [.ref q1, .null, .null])), (q1, .inr (6, [.ref (u1 0)])), ((u1 0), .inl (cI, 240, .inl (fun _ => 0)))] _ _ _ _ _
  refine z_al C (k := 0) (by decide +kernel) rfl (lv_at hl 0 rfl) ?_
  refine z_new C hA (idx := 9) 6 tyX6 [.null] rfl tyX6_ok blX6 (wAt_in (p := 450) (by decide +kernel)) (wAt_in (p := 121) (by decide +kernel)) (wAt_in (p := 93) (by decide +kernel)) (by decide +kernel) ⟨Nat.le_of_ble_eq_true rfl, Nat.le_of_ble_eq_true rfl⟩ (fun q2 => ?_)
  refine z_dup C (by decide +kernel) rfl ?_
  refine z_ic C (n := 4) (v := 4) (by decide +kernel) (by decide) ?_
  refine z_call C hA (idx := 11) (As := [.int 4]) (fun sz => ci_X6 hCK l D cI cJ q2 sz 4 (by decide)) rfl rfl (wAt_in (p := 124) (by decide +kernel)) (wAt_in (p := 93) (by decide +kernel)) (wAt_in (p := 123) (by decide +kernel)) (Or.inl (wAt_in (p := 451) (by decide +kernel))) rfl ⟨by decide +kernel, by decide +kernel, by decide +kernel⟩ ⟨Nat.le_of_ble_eq_true rfl, Nat.le_of_ble_eq_true rfl⟩ hl.1 (Nat.le_of_ble_eq_true rfl) (by decide +kernel) ⟨Nat.le_of_ble_eq_true rfl, Nat.le_of_ble_eq_true rfl⟩ (fun u2 => ?_)
  change ZW _ _ _ _ _ _ _ _ _ _ _ _ _ _ [(h0, .inr (8, [.ref q1, .null, .null])), (q1, .inr (6, [.ref (u1 0)])), ((u1 0), .inl (cI, 240, .inl (fun _ => 0))), (q2, .inr (6, [.ref (u2 0)])), ((u2 0), .inl (cI, 4, .inl (fun _ => 0)))] _ _ _ _ _
  refine z_pf C hin (idx := 20) 0 1 rfl rfl (by decide) (wAt_in (p := 457) (by decide +kernel)) rfl rfl (tyX8 1) (tyX8_ok 1 (by decide)) rfl rfl (Nat.le_of_ble_eq_true rfl) (by decide +kernel) ?_
  change ZW _ _ _ _ _ _ _ _ _ _ _ _ _ _ [(h0, .inr (8, [.ref q1, .ref q2, .null])), (q1, .inr (6, [.ref (u1 0)])), ((u1 0), .inl (cI, 240, .inl (fun _ => 0))), (q2, .inr (6, [.ref (u2 0)])), ((u2 0), .inl (cI, 4, .inl (fun _ => 0)))] _ _ _ _ _
  refine z_al C (k := 0) (by decide +kernel) rfl (lv_at hl 0 rfl) ?_
  refine z_new C hA (idx := 9) 6 tyX6 [.null] rfl tyX6_ok blX6 (wAt_in (p := 450) (by decide +kernel)) (wAt_in (p := 121) (by decide +kernel)) (wAt_in (p := 93) (by decide +kernel)) (by decide +kernel) ⟨Nat.le_of_ble_eq_true rfl, Nat.le_of_ble_eq_true rfl⟩ (fun q3 => ?_)
  refine z_dup C (by decide +kernel) rfl ?_
  refine z_ic C (n := 4) (v := 4) (by decide +kernel) (by decide) ?_
  refine z_call C hA (idx := 11) (As := [.int 4]) (fun sz => ci_X6 hCK l D cI cJ q3 sz 4 (by decide)) rfl rfl (wAt_in (p := 124) (by decide +kernel)) (wAt_in (p := 93) (by decide +kernel)) (wAt_in (p := 123) (by decide +kernel)) (Or.inl (wAt_in (p := 451) (by decide +kernel))) rfl ⟨by decide +kernel, by decide +kernel, by decide +kernel⟩ ⟨Nat.le_of_ble_eq_true rfl, Nat.le_of_ble_eq_true rfl⟩ hl.1 (Nat.le_of_ble_eq_true rfl) (by decide +kernel) ⟨Nat.le_of_ble_eq_true rfl, Nat.le_of_ble_eq_true rfl⟩ (fun u3 => ?_)
  change ZW _ _ _ _ _ _ _ _ _ _ _ _ _ _ [(h0, .inr (8, [.ref q1, .ref q2, .null])), (q1, .inr (6, [.ref (u1 0)])), ((u1 0), .inl (cI, 240, .inl (fun _ => 0))), (q2, .inr (6, [.ref (u2 0)])), ((u2 0), .inl (cI, 4, .inl (fun _ => 0))), (q3, .inr (6, [.ref (u3 0)])), ((u3 0), .inl (cI, 4, .inl (fun _ => 0)))] _ _ _ _ _
  refine z_pf C hin (idx := 23) 0 2 rfl rfl (by decide) (wAt_in (p := 458) (by decide +kernel)) rfl rfl (tyX8 2) (tyX8_ok 2 (by decide)) rfl rfl (Nat.le_of_ble_eq_true rfl) (by decide +kernel) ?_
  change ZW _ _ _ _ _ _ _ _ _ _ _ _ _ _ [(h0, .inr (8, [.ref q1, .ref q2, .ref q3])), (q1, .inr (6, [.ref (u1 0)])), ((u1 0), .inl (cI, 240, .inl (fun _ => 0))), (q2, .inr (6, [.ref (u2 0)])), ((u2 0), .inl (cI, 4, .inl (fun _ => 0))), (q3, .inr (6, [.ref (u3 0)])), ((u3 0), .inl (cI, 4, .inl (fun _ => 0)))] _ _ _ _ _
  refine z_al C (k := 0) (by decide +kernel) rfl (lv_at hl 0 rfl) ?_
  refine z_gf C (idx := 20) 0 1 rfl rfl (by decide) (wAt_in (p := 457) (by decide +kernel)) rfl (by decide +kernel) ?_
  refine z_ic C (n := (-1)) (v := (-1)) (by decide +kernel) (by decide) ?_
  refine z_fillS C hA (idx := 26) (wAt_in (p := 452) (by decide +kernel)) (wAt_in (p := 453) (by decide +kernel)) (wAt_in (p := 454) (by decide +kernel)) (wAt_in (p := 93) (by decide +kernel)) (wAt_in (p := 455) (by decide +kernel)) hl.1 ⟨Nat.le_of_ble_eq_true rfl, Nat.le_of_ble_eq_true rfl⟩ (by decide +kernel) ⟨Nat.le_of_ble_eq_true rfl, Nat.le_of_ble_eq_true rfl⟩ ?_
  change ZW _ _ _ _ _ _ _ _ _ _ _ _ _ _ [(h0, .inr (8, [.ref q1, .ref q2, .ref q3])), (q1, .inr (6, [.ref (u1 0)])), ((u1 0), .inl (cI, 240, .inl (fun _ => 0))), (q2, .inr (6, [.ref (u2 0)])), ((u2 0), .inl (cI, 4, .inl (fill4 (fun _ => 0)))), (q3, .inr (6, [.ref (u3 0)])), ((u3 0), .inl (cI, 4, .inl (fun _ => 0)))] _ _ _ _ _
  intro H locs hP hD hS
  refine W.widen (k := 6) (n := 251) (Nat.le_of_ble_eq_true rfl) (Nat.le_of_ble_eq_true rfl) ?_
  exact W.vret C.1 C.2.1 hr (fun t ht hW => ⟨⟨fun k => ([q1, (u1 0), q2, (u2 0), q3, (u3 0)] : List Nat).getD k 0, rfl, trivial, by rw [ht]; exact hP, va_K.moved hW.alike hK, hD⟩, hS.F ht⟩) hS.2.2 (by decide +kernel)
