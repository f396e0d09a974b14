/-! The tables are as checked (each row by the kernel). Printed by wip/gen/gen_ck.py. -/
def okO (k q : Nat) (x : Option Ex) : Bool := match x with
  | none => true
  | some e => chkE k q e
theorem chk_of {k M : Nat} {f : Nat → Option Ex} (h : ∀ q, q < M → okO k q (f q) = true) (hb : ∀ q, M ≤ q → f q = none) : ∀ q e, f q = some e → chkE k q e = true := fun q e he => by
  rcases Nat.lt_or_ge q M with h1 | h1
  · have := h q h1
    rw [he] at this
    exact this
  · rw [hb q h1] at he
    cases he
set_option maxRecDepth 100000 in
theorem ck0 : ∀ q, q < 21 → okO 0 q (cdX6_set q) = true := by decide +kernel
theorem ckk0 : ∀ q e, cd 0 q = some e → chkE 0 q e = true := chk_of (f := cdX6_set) ck0 (fun q h => by unfold cdX6_set; rw [Nat.ble_eq_true_of_le h]; rfl)
set_option maxRecDepth 100000 in
theorem ck1 : ∀ q, q < 47 → okO 1 q (cdX10_append q) = true := by decide +kernel
theorem ckk1 : ∀ q e, cd 1 q = some e → chkE 1 q e = true := chk_of (f := cdX10_append) ck1 (fun q h => by unfold cdX10_append; rw [Nat.ble_eq_true_of_le h]; rfl)
set_option maxRecDepth 100000 in
theorem ck2 : ∀ q, q < 5 → okO 2 q (cdX10_length q) = true := by decide +kernel
theorem ckk2 : ∀ q e, cd 2 q = some e → chkE 2 q e = true := chk_of (f := cdX10_length) ck2 (fun q h => by unfold cdX10_length; rw [Nat.ble_eq_true_of_le h]; rfl)
set_option maxRecDepth 100000 in
theorem ck3 : ∀ q, q < 57 → okO 3 q (cdX11_type q) = true := by decide +kernel
theorem ckk3 : ∀ q e, cd 3 q = some e → chkE 3 q e = true := chk_of (f := cdX11_type) ck3 (fun q h => by unfold cdX11_type; rw [Nat.ble_eq_true_of_le h]; rfl)
set_option maxRecDepth 100000 in
theorem ck4 : ∀ q, q < 19 → okO 4 q (cdX12_in q) = true := by decide +kernel
theorem ckk4 : ∀ q e, cd 4 q = some e → chkE 4 q e = true := chk_of (f := cdX12_in) ck4 (fun q h => by unfold cdX12_in; rw [Nat.ble_eq_true_of_le h]; rfl)
set_option maxRecDepth 100000 in
theorem ck5 : ∀ q, q < 13 → okO 5 q (cdX12_roomOf q) = true := by decide +kernel
theorem ckk5 : ∀ q e, cd 5 q = some e → chkE 5 q e = true := chk_of (f := cdX12_roomOf) ck5 (fun q h => by unfold cdX12_roomOf; rw [Nat.ble_eq_true_of_le h]; rfl)
set_option maxRecDepth 100000 in
theorem ck6 : ∀ q, q < 76 → okO 6 q (cdX12_type q) = true := by decide +kernel
theorem ckk6 : ∀ q e, cd 6 q = some e → chkE 6 q e = true := chk_of (f := cdX12_type) ck6 (fun q h => by unfold cdX12_type; rw [Nat.ble_eq_true_of_le h]; rfl)
set_option maxRecDepth 100000 in
theorem ck7 : ∀ q, q < 22 → okO 7 q (cdX10_empty q) = true := by decide +kernel
theorem ckk7 : ∀ q e, cd 7 q = some e → chkE 7 q e = true := chk_of (f := cdX10_empty) ck7 (fun q h => by unfold cdX10_empty; rw [Nat.ble_eq_true_of_le h]; rfl)
set_option maxRecDepth 100000 in
theorem ck8 : ∀ q, q < 38 → okO 8 q (cdX11_wipe q) = true := by decide +kernel
theorem ckk8 : ∀ q e, cd 8 q = some e → chkE 8 q e = true := chk_of (f := cdX11_wipe) ck8 (fun q h => by unfold cdX11_wipe; rw [Nat.ble_eq_true_of_le h]; rfl)
set_option maxRecDepth 100000 in
theorem ck9 : ∀ q, q < 45 → okO 9 q (cdX12_wipe q) = true := by decide +kernel
theorem ckk9 : ∀ q e, cd 9 q = some e → chkE 9 q e = true := chk_of (f := cdX12_wipe) ck9 (fun q h => by unfold cdX12_wipe; rw [Nat.ble_eq_true_of_le h]; rfl)
set_option maxRecDepth 100000 in
theorem ck10 : ∀ q, q < 5 → okO 10 q (cdX10_changes q) = true := by decide +kernel
theorem ckk10 : ∀ q e, cd 10 q = some e → chkE 10 q e = true := chk_of (f := cdX10_changes) ck10 (fun q h => by unfold cdX10_changes; rw [Nat.ble_eq_true_of_le h]; rfl)
set_option maxRecDepth 100000 in
theorem ck11 : ∀ q, q < 21 → okO 11 q (cdX9_reset q) = true := by decide +kernel
theorem ckk11 : ∀ q e, cd 11 q = some e → chkE 11 q e = true := chk_of (f := cdX9_reset) ck11 (fun q h => by unfold cdX9_reset; rw [Nat.ble_eq_true_of_le h]; rfl)
set_option maxRecDepth 100000 in
theorem ck12 : ∀ q, q < 33 → okO 12 q (cdX4_restart q) = true := by decide +kernel
theorem ckk12 : ∀ q e, cd 12 q = some e → chkE 12 q e = true := chk_of (f := cdX4_restart) ck12 (fun q h => by unfold cdX4_restart; rw [Nat.ble_eq_true_of_le h]; rfl)
set_option maxRecDepth 100000 in
theorem ck13 : ∀ q, q < 24 → okO 13 q (cdX6_at q) = true := by decide +kernel
theorem ckk13 : ∀ q e, cd 13 q = some e → chkE 13 q e = true := chk_of (f := cdX6_at) ck13 (fun q h => by unfold cdX6_at; rw [Nat.ble_eq_true_of_le h]; rfl)
set_option maxRecDepth 100000 in
theorem ck14 : ∀ q, q < 25 → okO 14 q (cdX10_at q) = true := by decide +kernel
theorem ckk14 : ∀ q e, cd 14 q = some e → chkE 14 q e = true := chk_of (f := cdX10_at) ck14 (fun q h => by unfold cdX10_at; rw [Nat.ble_eq_true_of_le h]; rfl)
set_option maxRecDepth 100000 in
theorem ck15 : ∀ q, q < 18 → okO 15 q (cdX11_isTalkerLetter q) = true := by decide +kernel
theorem ckk15 : ∀ q e, cd 15 q = some e → chkE 15 q e = true := chk_of (f := cdX11_isTalkerLetter) ck15 (fun q h => by unfold cdX11_isTalkerLetter; rw [Nat.ble_eq_true_of_le h]; rfl)
set_option maxRecDepth 100000 in
theorem ck16 : ∀ q, q < 7 → okO 16 q (cdX4_failAt q) = true := by decide +kernel
theorem ckk16 : ∀ q e, cd 16 q = some e → chkE 16 q e = true := chk_of (f := cdX4_failAt) ck16 (fun q h => by unfold cdX4_failAt; rw [Nat.ble_eq_true_of_le h]; rfl)
set_option maxRecDepth 100000 in
theorem ck17 : ∀ q, q < 18 → okO 17 q (cdX11_isWordLetter q) = true := by decide +kernel
theorem ckk17 : ∀ q e, cd 17 q = some e → chkE 17 q e = true := chk_of (f := cdX11_isWordLetter) ck17 (fun q h => by unfold cdX11_isWordLetter; rw [Nat.ble_eq_true_of_le h]; rfl)
set_option maxRecDepth 100000 in
theorem ck18 : ∀ q, q < 35 → okO 18 q (cdX9_add q) = true := by decide +kernel
theorem ckk18 : ∀ q e, cd 18 q = some e → chkE 18 q e = true := chk_of (f := cdX9_add) ck18 (fun q h => by unfold cdX9_add; rw [Nat.ble_eq_true_of_le h]; rfl)
set_option maxRecDepth 100000 in
theorem ck19 : ∀ q, q < 142 → okO 19 q (cdX4_readSaying q) = true := by decide +kernel
theorem ckk19 : ∀ q e, cd 19 q = some e → chkE 19 q e = true := chk_of (f := cdX4_readSaying) ck19 (fun q h => by unfold cdX4_readSaying; rw [Nat.ble_eq_true_of_le h]; rfl)
set_option maxRecDepth 100000 in
theorem ck20 : ∀ q, q < 5 → okO 20 q (cdX9_size q) = true := by decide +kernel
theorem ckk20 : ∀ q e, cd 20 q = some e → chkE 20 q e = true := chk_of (f := cdX9_size) ck20 (fun q h => by unfold cdX9_size; rw [Nat.ble_eq_true_of_le h]; rfl)
set_option maxRecDepth 100000 in
theorem ck21 : ∀ q, q < 35 → okO 21 q (cdX9_newChoice q) = true := by decide +kernel
theorem ckk21 : ∀ q e, cd 21 q = some e → chkE 21 q e = true := chk_of (f := cdX9_newChoice) ck21 (fun q h => by unfold cdX9_newChoice; rw [Nat.ble_eq_true_of_le h]; rfl)
set_option maxRecDepth 100000 in
theorem ck22 : ∀ q, q < 24 → okO 22 q (cdX6_add q) = true := by decide +kernel
theorem ckk22 : ∀ q e, cd 22 q = some e → chkE 22 q e = true := chk_of (f := cdX6_add) ck22 (fun q h => by unfold cdX6_add; rw [Nat.ble_eq_true_of_le h]; rfl)
set_option maxRecDepth 100000 in
theorem ck23 : ∀ q, q < 33 → okO 23 q (cdX9_beginWay q) = true := by decide +kernel
theorem ckk23 : ∀ q e, cd 23 q = some e → chkE 23 q e = true := chk_of (f := cdX9_beginWay) ck23 (fun q h => by unfold cdX9_beginWay; rw [Nat.ble_eq_true_of_le h]; rfl)
set_option maxRecDepth 100000 in
theorem ck24 : ∀ q, q < 167 → okO 24 q (cdX4_readOpening q) = true := by decide +kernel
theorem ckk24 : ∀ q e, cd 24 q = some e → chkE 24 q e = true := chk_of (f := cdX4_readOpening) ck24 (fun q h => by unfold cdX4_readOpening; rw [Nat.ble_eq_true_of_le h]; rfl)
set_option maxRecDepth 100000 in
theorem ck25 : ∀ q, q < 95 → okO 25 q (cdX4_readItem q) = true := by decide +kernel
theorem ckk25 : ∀ q e, cd 25 q = some e → chkE 25 q e = true := chk_of (f := cdX4_readItem) ck25 (fun q h => by unfold cdX4_readItem; rw [Nat.ble_eq_true_of_le h]; rfl)
set_option maxRecDepth 100000 in
theorem ck26 : ∀ q, q < 9 → okO 26 q (cdX9_wayCount q) = true := by decide +kernel
theorem ckk26 : ∀ q e, cd 26 q = some e → chkE 26 q e = true := chk_of (f := cdX9_wayCount) ck26 (fun q h => by unfold cdX9_wayCount; rw [Nat.ble_eq_true_of_le h]; rfl)
set_option maxRecDepth 100000 in
theorem ck27 : ∀ q, q < 55 → okO 27 q (cdX4_readNextWay q) = true := by decide +kernel
theorem ckk27 : ∀ q e, cd 27 q = some e → chkE 27 q e = true := chk_of (f := cdX4_readNextWay) ck27 (fun q h => by unfold cdX4_readNextWay; rw [Nat.ble_eq_true_of_le h]; rfl)
set_option maxRecDepth 100000 in
theorem ck28 : ∀ q, q < 60 → okO 28 q (cdX9_closeRounds q) = true := by decide +kernel
theorem ckk28 : ∀ q e, cd 28 q = some e → chkE 28 q e = true := chk_of (f := cdX9_closeRounds) ck28 (fun q h => by unfold cdX9_closeRounds; rw [Nat.ble_eq_true_of_le h]; rfl)
set_option maxRecDepth 100000 in
theorem ck29 : ∀ q, q < 13 → okO 29 q (cdX9_endChoice q) = true := by decide +kernel
theorem ckk29 : ∀ q e, cd 29 q = some e → chkE 29 q e = true := chk_of (f := cdX9_endChoice) ck29 (fun q h => by unfold cdX9_endChoice; rw [Nat.ble_eq_true_of_le h]; rfl)
set_option maxRecDepth 100000 in
theorem ck30 : ∀ q, q < 88 → okO 30 q (cdX4_readClosing q) = true := by decide +kernel
theorem ckk30 : ∀ q e, cd 30 q = some e → chkE 30 q e = true := chk_of (f := cdX4_readClosing) ck30 (fun q h => by unfold cdX4_readClosing; rw [Nat.ble_eq_true_of_le h]; rfl)
set_option maxRecDepth 100000 in
theorem ck31 : ∀ q, q < 101 → okO 31 q (cdX4_readBehindItem q) = true := by decide +kernel
theorem ckk31 : ∀ q e, cd 31 q = some e → chkE 31 q e = true := chk_of (f := cdX4_readBehindItem) ck31 (fun q h => by unfold cdX4_readBehindItem; rw [Nat.ble_eq_true_of_le h]; rfl)
set_option maxRecDepth 100000 in
theorem ck32 : ∀ q, q < 121 → okO 32 q (cdX4_firstFault q) = true := by decide +kernel
theorem ckk32 : ∀ q e, cd 32 q = some e → chkE 32 q e = true := chk_of (f := cdX4_firstFault) ck32 (fun q h => by unfold cdX4_firstFault; rw [Nat.ble_eq_true_of_le h]; rfl)
set_option maxRecDepth 100000 in
theorem ck33 : ∀ q, q < 223 → okO 33 q (cdX5_read q) = true := by decide +kernel
theorem ckk33 : ∀ q e, cd 33 q = some e → chkE 33 q e = true := chk_of (f := cdX5_read) ck33 (fun q h => by unfold cdX5_read; rw [Nat.ble_eq_true_of_le h]; rfl)
set_option maxRecDepth 100000 in
theorem ck34 : ∀ q, q < 38 → okO 34 q (cdX5_firstFault q) = true := by decide +kernel
theorem ckk34 : ∀ q e, cd 34 q = some e → chkE 34 q e = true := chk_of (f := cdX5_firstFault) ck34 (fun q h => by unfold cdX5_firstFault; rw [Nat.ble_eq_true_of_le h]; rfl)
set_option maxRecDepth 100000 in
theorem ck35 : ∀ q, q < 34 → okO 35 q (cdX11_fault q) = true := by decide +kernel
theorem ckk35 : ∀ q e, cd 35 q = some e → chkE 35 q e = true := chk_of (f := cdX11_fault) ck35 (fun q h => by unfold cdX11_fault; rw [Nat.ble_eq_true_of_le h]; rfl)
set_option maxRecDepth 100000 in
theorem ck36 : ∀ q, q < 33 → okO 36 q (cdX12_here q) = true := by decide +kernel
theorem ckk36 : ∀ q e, cd 36 q = some e → chkE 36 q e = true := chk_of (f := cdX12_here) ck36 (fun q h => by unfold cdX12_here; rw [Nat.ble_eq_true_of_le h]; rfl)
set_option maxRecDepth 100000 in
theorem ck37 : ∀ q, q < 52 → okO 37 q (cdX12_act q) = true := by decide +kernel
theorem ckk37 : ∀ q e, cd 37 q = some e → chkE 37 q e = true := chk_of (f := cdX12_act) ck37 (fun q h => by unfold cdX12_act; rw [Nat.ble_eq_true_of_le h]; rfl)
set_option maxRecDepth 100000 in
theorem ck38 : ∀ q, q < 81 → okO 38 q (cdX12_opens q) = true := by decide +kernel
theorem ckk38 : ∀ q e, cd 38 q = some e → chkE 38 q e = true := chk_of (f := cdX12_opens) ck38 (fun q h => by unfold cdX12_opens; rw [Nat.ble_eq_true_of_le h]; rfl)
set_option maxRecDepth 100000 in
theorem ck39 : ∀ q, q < 16 → okO 39 q (cdX12_isTalker q) = true := by decide +kernel
theorem ckk39 : ∀ q e, cd 39 q = some e → chkE 39 q e = true := chk_of (f := cdX12_isTalker) ck39 (fun q h => by unfold cdX12_isTalker; rw [Nat.ble_eq_true_of_le h]; rfl)
set_option maxRecDepth 100000 in
theorem ck40 : ∀ q, q < 268 → okO 40 q (cdX12_readsItem q) = true := by decide +kernel
theorem ckk40 : ∀ q e, cd 40 q = some e → chkE 40 q e = true := chk_of (f := cdX12_readsItem) ck40 (fun q h => by unfold cdX12_readsItem; rw [Nat.ble_eq_true_of_le h]; rfl)
set_option maxRecDepth 100000 in
theorem ck41 : ∀ q, q < 110 → okO 41 q (cdX12_wayMore q) = true := by decide +kernel
theorem ckk41 : ∀ q e, cd 41 q = some e → chkE 41 q e = true := chk_of (f := cdX12_wayMore) ck41 (fun q h => by unfold cdX12_wayMore; rw [Nat.ble_eq_true_of_le h]; rfl)
set_option maxRecDepth 100000 in
theorem ck42 : ∀ q, q < 93 → okO 42 q (cdX12_closes q) = true := by decide +kernel
theorem ckk42 : ∀ q e, cd 42 q = some e → chkE 42 q e = true := chk_of (f := cdX12_closes) ck42 (fun q h => by unfold cdX12_closes; rw [Nat.ble_eq_true_of_le h]; rfl)
set_option maxRecDepth 100000 in
theorem ck43 : ∀ q, q < 177 → okO 43 q (cdX12_reads q) = true := by decide +kernel
theorem ckk43 : ∀ q e, cd 43 q = some e → chkE 43 q e = true := chk_of (f := cdX12_reads) ck43 (fun q h => by unfold cdX12_reads; rw [Nat.ble_eq_true_of_le h]; rfl)
set_option maxRecDepth 100000 in
theorem ck44 : ∀ q, q < 253 → okO 44 q (cdX12_readsProgram q) = true := by decide +kernel
theorem ckk44 : ∀ q e, cd 44 q = some e → chkE 44 q e = true := chk_of (f := cdX12_readsProgram) ck44 (fun q h => by unfold cdX12_readsProgram; rw [Nat.ble_eq_true_of_le h]; rfl)
set_option maxRecDepth 100000 in
theorem ck45 : ∀ q, q < 31 → okO 45 q (cdX12_fault q) = true := by decide +kernel
theorem ckk45 : ∀ q e, cd 45 q = some e → chkE 45 q e = true := chk_of (f := cdX12_fault) ck45 (fun q h => by unfold cdX12_fault; rw [Nat.ble_eq_true_of_le h]; rfl)
set_option maxRecDepth 100000 in
theorem ck46 : ∀ q, q < 5 → okO 46 q (cdX9_choices q) = true := by decide +kernel
theorem ckk46 : ∀ q e, cd 46 q = some e → chkE 46 q e = true := chk_of (f := cdX9_choices) ck46 (fun q h => by unfold cdX9_choices; rw [Nat.ble_eq_true_of_le h]; rfl)
set_option maxRecDepth 100000 in
theorem ck47 : ∀ q, q < 5 → okO 47 q (cdX4_used q) = true := by decide +kernel
theorem ckk47 : ∀ q e, cd 47 q = some e → chkE 47 q e = true := chk_of (f := cdX4_used) ck47 (fun q h => by unfold cdX4_used; rw [Nat.ble_eq_true_of_le h]; rfl)
set_option maxRecDepth 100000 in
theorem ck48 : ∀ q, q < 5 → okO 48 q (cdX4_sayings q) = true := by decide +kernel
theorem ckk48 : ∀ q e, cd 48 q = some e → chkE 48 q e = true := chk_of (f := cdX4_sayings) ck48 (fun q h => by unfold cdX4_sayings; rw [Nat.ble_eq_true_of_le h]; rfl)
set_option maxRecDepth 100000 in
theorem ck49 : ∀ q, q < 61 → okO 49 q (cdX11_plan q) = true := by decide +kernel
theorem ckk49 : ∀ q e, cd 49 q = some e → chkE 49 q e = true := chk_of (f := cdX11_plan) ck49 (fun q h => by unfold cdX11_plan; rw [Nat.ble_eq_true_of_le h]; rfl)
set_option maxRecDepth 100000 in
theorem ck50 : ∀ q, q < 54 → okO 50 q (cdX12_plan q) = true := by decide +kernel
theorem ckk50 : ∀ q e, cd 50 q = some e → chkE 50 q e = true := chk_of (f := cdX12_plan) ck50 (fun q h => by unfold cdX12_plan; rw [Nat.ble_eq_true_of_le h]; rfl)
set_option maxRecDepth 100000 in
theorem ck51 : ∀ q, q < 25 → okO 51 q (cdX11_tell q) = true := by decide +kernel
theorem ckk51 : ∀ q e, cd 51 q = some e → chkE 51 q e = true := chk_of (f := cdX11_tell) ck51 (fun q h => by unfold cdX11_tell; rw [Nat.ble_eq_true_of_le h]; rfl)
set_option maxRecDepth 100000 in
theorem ck52 : ∀ q, q < 27 → okO 52 q (cdX12_tell q) = true := by decide +kernel
theorem ckk52 : ∀ q e, cd 52 q = some e → chkE 52 q e = true := chk_of (f := cdX12_tell) ck52 (fun q h => by unfold cdX12_tell; rw [Nat.ble_eq_true_of_le h]; rfl)
set_option maxRecDepth 100000 in
theorem ck53 : ∀ q, q < 5 → okO 53 q (cdX9_version q) = true := by decide +kernel
theorem ckk53 : ∀ q e, cd 53 q = some e → chkE 53 q e = true := chk_of (f := cdX9_version) ck53 (fun q h => by unfold cdX9_version; rw [Nat.ble_eq_true_of_le h]; rfl)
set_option maxRecDepth 100000 in
theorem ck54 : ∀ q, q < 19 → okO 54 q (cdX9_beginItems q) = true := by decide +kernel
theorem ckk54 : ∀ q e, cd 54 q = some e → chkE 54 q e = true := chk_of (f := cdX9_beginItems) ck54 (fun q h => by unfold cdX9_beginItems; rw [Nat.ble_eq_true_of_le h]; rfl)
set_option maxRecDepth 100000 in
theorem ck55 : ∀ q, q < 11 → okO 55 q (cdX9_upTo q) = true := by decide +kernel
theorem ckk55 : ∀ q e, cd 55 q = some e → chkE 55 q e = true := chk_of (f := cdX9_upTo) ck55 (fun q h => by unfold cdX9_upTo; rw [Nat.ble_eq_true_of_le h]; rfl)
set_option maxRecDepth 100000 in
theorem ck56 : ∀ q, q < 71 → okO 56 q (cdX9_endWay q) = true := by decide +kernel
theorem ckk56 : ∀ q e, cd 56 q = some e → chkE 56 q e = true := chk_of (f := cdX9_endWay) ck56 (fun q h => by unfold cdX9_endWay; rw [Nat.ble_eq_true_of_le h]; rfl)
set_option maxRecDepth 100000 in
theorem ck57 : ∀ q, q < 36 → okO 57 q (cdX9_toldOf q) = true := by decide +kernel
theorem ckk57 : ∀ q e, cd 57 q = some e → chkE 57 q e = true := chk_of (f := cdX9_toldOf) ck57 (fun q h => by unfold cdX9_toldOf; rw [Nat.ble_eq_true_of_le h]; rfl)
set_option maxRecDepth 100000 in
theorem ck58 : ∀ q, q < 53 → okO 58 q (cdJ6_bitCount_0f7a4 q) = true := by decide +kernel
theorem ckk58 : ∀ q e, cd 58 q = some e → chkE 58 q e = true := chk_of (f := cdJ6_bitCount_0f7a4) ck58 (fun q h => by unfold cdJ6_bitCount_0f7a4; rw [Nat.ble_eq_true_of_le h]; rfl)
set_option maxRecDepth 100000 in
theorem ck59 : ∀ q, q < 47 → okO 59 q (cdX9_addItem q) = true := by decide +kernel
theorem ckk59 : ∀ q e, cd 59 q = some e → chkE 59 q e = true := chk_of (f := cdX9_addItem) ck59 (fun q h => by unfold cdX9_addItem; rw [Nat.ble_eq_true_of_le h]; rfl)
set_option maxRecDepth 100000 in
theorem ck60 : ∀ q, q < 264 → okO 60 q (cdX9_isTooMuch q) = true := by decide +kernel
theorem ckk60 : ∀ q e, cd 60 q = some e → chkE 60 q e = true := chk_of (f := cdX9_isTooMuch) ck60 (fun q h => by unfold cdX9_isTooMuch; rw [Nat.ble_eq_true_of_le h]; rfl)
set_option maxRecDepth 100000 in
theorem ck61 : ∀ q, q < 9 → okO 61 q (cdX9_value q) = true := by decide +kernel
theorem ckk61 : ∀ q e, cd 61 q = some e → chkE 61 q e = true := chk_of (f := cdX9_value) ck61 (fun q h => by unfold cdX9_value; rw [Nat.ble_eq_true_of_le h]; rfl)
set_option maxRecDepth 100000 in
theorem ck62 : ∀ q, q < 9 → okO 62 q (cdX9_kind q) = true := by decide +kernel
theorem ckk62 : ∀ q e, cd 62 q = some e → chkE 62 q e = true := chk_of (f := cdX9_kind) ck62 (fun q h => by unfold cdX9_kind; rw [Nat.ble_eq_true_of_le h]; rfl)
set_option maxRecDepth 100000 in
theorem ck63 : ∀ q, q < 41 → okO 63 q (cdX1_say q) = true := by decide +kernel
theorem ckk63 : ∀ q e, cd 63 q = some e → chkE 63 q e = true := chk_of (f := cdX1_say) ck63 (fun q h => by unfold cdX1_say; rw [Nat.ble_eq_true_of_le h]; rfl)
