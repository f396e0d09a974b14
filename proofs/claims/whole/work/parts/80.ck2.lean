/-! The check goes on. -/
set_option maxRecDepth 100000 in
theorem ck64 : ∀ q, q < 14 → okO 64 q (cdX11_has q) = true := by decide +kernel
theorem ckk64 : ∀ q e, cd 64 q = some e → chkE 64 q e = true := chk_of (f := cdX11_has) ck64 (fun q h => by unfold cdX11_has; rw [Nat.ble_eq_true_of_le h]; rfl)
set_option maxRecDepth 100000 in
theorem ck65 : ∀ q, q < 9 → okO 65 q (cdX9_chooser q) = true := by decide +kernel
theorem ckk65 : ∀ q e, cd 65 q = some e → chkE 65 q e = true := chk_of (f := cdX9_chooser) ck65 (fun q h => by unfold cdX9_chooser; rw [Nat.ble_eq_true_of_le h]; rfl)
set_option maxRecDepth 100000 in
theorem ck66 : ∀ q, q < 137 → okO 66 q (cdX1_choose q) = true := by decide +kernel
theorem ckk66 : ∀ q e, cd 66 q = some e → chkE 66 q e = true := chk_of (f := cdX1_choose) ck66 (fun q h => by unfold cdX1_choose; rw [Nat.ble_eq_true_of_le h]; rfl)
set_option maxRecDepth 100000 in
theorem ck67 : ∀ q, q < 13 → okO 67 q (cdX9_wayStart q) = true := by decide +kernel
theorem ckk67 : ∀ q e, cd 67 q = some e → chkE 67 q e = true := chk_of (f := cdX9_wayStart) ck67 (fun q h => by unfold cdX9_wayStart; rw [Nat.ble_eq_true_of_le h]; rfl)
set_option maxRecDepth 100000 in
theorem ck68 : ∀ q, q < 9 → okO 68 q (cdX9_end q) = true := by decide +kernel
theorem ckk68 : ∀ q e, cd 68 q = some e → chkE 68 q e = true := chk_of (f := cdX9_end) ck68 (fun q h => by unfold cdX9_end; rw [Nat.ble_eq_true_of_le h]; rfl)
set_option maxRecDepth 100000 in
theorem ck69 : ∀ q, q < 37 → okO 69 q (cdX1_beginRounds q) = true := by decide +kernel
theorem ckk69 : ∀ q e, cd 69 q = some e → chkE 69 q e = true := chk_of (f := cdX1_beginRounds) ck69 (fun q h => by unfold cdX1_beginRounds; rw [Nat.ble_eq_true_of_le h]; rfl)
set_option maxRecDepth 100000 in
theorem ck70 : ∀ q, q < 43 → okO 70 q (cdX1_endRound q) = true := by decide +kernel
theorem ckk70 : ∀ q e, cd 70 q = some e → chkE 70 q e = true := chk_of (f := cdX1_endRound) ck70 (fun q h => by unfold cdX1_endRound; rw [Nat.ble_eq_true_of_le h]; rfl)
set_option maxRecDepth 100000 in
theorem ck71 : ∀ q, q < 181 → okO 71 q (cdX1_walk q) = true := by decide +kernel
theorem ckk71 : ∀ q e, cd 71 q = some e → chkE 71 q e = true := chk_of (f := cdX1_walk) ck71 (fun q h => by unfold cdX1_walk; rw [Nat.ble_eq_true_of_le h]; rfl)
set_option maxRecDepth 100000 in
theorem ck72 : ∀ q, q < 92 → okO 72 q (cdX1_turn q) = true := by decide +kernel
theorem ckk72 : ∀ q e, cd 72 q = some e → chkE 72 q e = true := chk_of (f := cdX1_turn) ck72 (fun q h => by unfold cdX1_turn; rw [Nat.ble_eq_true_of_le h]; rfl)
set_option maxRecDepth 100000 in
theorem ck73 : ∀ q, q < 153 → okO 73 q (cdX1_make q) = true := by decide +kernel
theorem ckk73 : ∀ q e, cd 73 q = some e → chkE 73 q e = true := chk_of (f := cdX1_make) ck73 (fun q h => by unfold cdX1_make; rw [Nat.ble_eq_true_of_le h]; rfl)
set_option maxRecDepth 100000 in
theorem ck74 : ∀ q, q < 5 → okO 74 q (cdX1_size q) = true := by decide +kernel
theorem ckk74 : ∀ q e, cd 74 q = some e → chkE 74 q e = true := chk_of (f := cdX1_size) ck74 (fun q h => by unfold cdX1_size; rw [Nat.ble_eq_true_of_le h]; rfl)
set_option maxRecDepth 100000 in
theorem ck75 : ∀ q, q < 49 → okO 75 q (cdX11_hindrance q) = true := by decide +kernel
theorem ckk75 : ∀ q e, cd 75 q = some e → chkE 75 q e = true := chk_of (f := cdX11_hindrance) ck75 (fun q h => by unfold cdX11_hindrance; rw [Nat.ble_eq_true_of_le h]; rfl)
set_option maxRecDepth 100000 in
theorem ck76 : ∀ q, q < 22 → okO 76 q (cdX11_histories q) = true := by decide +kernel
theorem ckk76 : ∀ q e, cd 76 q = some e → chkE 76 q e = true := chk_of (f := cdX11_histories) ck76 (fun q h => by unfold cdX11_histories; rw [Nat.ble_eq_true_of_le h]; rfl)
set_option maxRecDepth 100000 in
theorem ck77 : ∀ q, q < 61 → okO 77 q (cdX12_says q) = true := by decide +kernel
theorem ckk77 : ∀ q e, cd 77 q = some e → chkE 77 q e = true := chk_of (f := cdX12_says) ck77 (fun q h => by unfold cdX12_says; rw [Nat.ble_eq_true_of_le h]; rfl)
set_option maxRecDepth 100000 in
theorem ck78 : ∀ q, q < 173 → okO 78 q (cdX12_chooses q) = true := by decide +kernel
theorem ckk78 : ∀ q e, cd 78 q = some e → chkE 78 q e = true := chk_of (f := cdX12_chooses) ck78 (fun q h => by unfold cdX12_chooses; rw [Nat.ble_eq_true_of_le h]; rfl)
set_option maxRecDepth 100000 in
theorem ck79 : ∀ q, q < 210 → okO 79 q (cdX12_goes q) = true := by decide +kernel
theorem ckk79 : ∀ q e, cd 79 q = some e → chkE 79 q e = true := chk_of (f := cdX12_goes) ck79 (fun q h => by unfold cdX12_goes; rw [Nat.ble_eq_true_of_le h]; rfl)
set_option maxRecDepth 100000 in
theorem ck80 : ∀ q, q < 215 → okO 80 q (cdX12_unfolds q) = true := by decide +kernel
theorem ckk80 : ∀ q e, cd 80 q = some e → chkE 80 q e = true := chk_of (f := cdX12_unfolds) ck80 (fun q h => by unfold cdX12_unfolds; rw [Nat.ble_eq_true_of_le h]; rfl)
set_option maxRecDepth 100000 in
theorem ck81 : ∀ q, q < 22 → okO 81 q (cdX12_without q) = true := by decide +kernel
theorem ckk81 : ∀ q e, cd 81 q = some e → chkE 81 q e = true := chk_of (f := cdX12_without) ck81 (fun q h => by unfold cdX12_without; rw [Nat.ble_eq_true_of_le h]; rfl)
set_option maxRecDepth 100000 in
theorem ck82 : ∀ q, q < 18 → okO 82 q (cdX12_histories q) = true := by decide +kernel
theorem ckk82 : ∀ q e, cd 82 q = some e → chkE 82 q e = true := chk_of (f := cdX12_histories) ck82 (fun q h => by unfold cdX12_histories; rw [Nat.ble_eq_true_of_le h]; rfl)
set_option maxRecDepth 100000 in
theorem ck83 : ∀ q, q < 16 → okO 83 q (cdX11_isHistory q) = true := by decide +kernel
theorem ckk83 : ∀ q e, cd 83 q = some e → chkE 83 q e = true := chk_of (f := cdX11_isHistory) ck83 (fun q h => by unfold cdX11_isHistory; rw [Nat.ble_eq_true_of_le h]; rfl)
set_option maxRecDepth 100000 in
theorem ck84 : ∀ q, q < 9 → okO 84 q (cdX1_length q) = true := by decide +kernel
theorem ckk84 : ∀ q e, cd 84 q = some e → chkE 84 q e = true := chk_of (f := cdX1_length) ck84 (fun q h => by unfold cdX1_length; rw [Nat.ble_eq_true_of_le h]; rfl)
set_option maxRecDepth 100000 in
theorem ck85 : ∀ q, q < 14 → okO 85 q (cdX1_word q) = true := by decide +kernel
theorem ckk85 : ∀ q e, cd 85 q = some e → chkE 85 q e = true := chk_of (f := cdX1_word) ck85 (fun q h => by unfold cdX1_word; rw [Nat.ble_eq_true_of_le h]; rfl)
set_option maxRecDepth 100000 in
theorem ck86 : ∀ q, q < 67 → okO 86 q (cdX11_said q) = true := by decide +kernel
theorem ckk86 : ∀ q e, cd 86 q = some e → chkE 86 q e = true := chk_of (f := cdX11_said) ck86 (fun q h => by unfold cdX11_said; rw [Nat.ble_eq_true_of_le h]; rfl)
set_option maxRecDepth 100000 in
theorem ck87 : ∀ q, q < 10 → okO 87 q (cdX12_isHistory q) = true := by decide +kernel
theorem ckk87 : ∀ q e, cd 87 q = some e → chkE 87 q e = true := chk_of (f := cdX12_isHistory) ck87 (fun q h => by unfold cdX12_isHistory; rw [Nat.ble_eq_true_of_le h]; rfl)
set_option maxRecDepth 100000 in
theorem ck88 : ∀ q, q < 28 → okO 88 q (cdX12_lacksOne q) = true := by decide +kernel
theorem ckk88 : ∀ q e, cd 88 q = some e → chkE 88 q e = true := chk_of (f := cdX12_lacksOne) ck88 (fun q h => by unfold cdX12_lacksOne; rw [Nat.ble_eq_true_of_le h]; rfl)
set_option maxRecDepth 100000 in
theorem ck89 : ∀ q, q < 12 → okO 89 q (cdX12_code q) = true := by decide +kernel
theorem ckk89 : ∀ q e, cd 89 q = some e → chkE 89 q e = true := chk_of (f := cdX12_code) ck89 (fun q h => by unfold cdX12_code; rw [Nat.ble_eq_true_of_le h]; rfl)
set_option maxRecDepth 100000 in
theorem ck90 : ∀ q, q < 62 → okO 90 q (cdX12_said q) = true := by decide +kernel
theorem ckk90 : ∀ q e, cd 90 q = some e → chkE 90 q e = true := chk_of (f := cdX12_said) ck90 (fun q h => by unfold cdX12_said; rw [Nat.ble_eq_true_of_le h]; rfl)
set_option maxRecDepth 100000 in
theorem ck91 : ∀ q, q < 16 → okO 91 q (cdX11_isTalker q) = true := by decide +kernel
theorem ckk91 : ∀ q e, cd 91 q = some e → chkE 91 q e = true := chk_of (f := cdX11_isTalker) ck91 (fun q h => by unfold cdX11_isTalker; rw [Nat.ble_eq_true_of_le h]; rfl)
set_option maxRecDepth 100000 in
theorem ck92 : ∀ q, q < 6 → okO 92 q (cdX11_sayer q) = true := by decide +kernel
theorem ckk92 : ∀ q e, cd 92 q = some e → chkE 92 q e = true := chk_of (f := cdX11_sayer) ck92 (fun q h => by unfold cdX11_sayer; rw [Nat.ble_eq_true_of_le h]; rfl)
set_option maxRecDepth 100000 in
theorem ck93 : ∀ q, q < 8 → okO 93 q (cdX11_getter q) = true := by decide +kernel
theorem ckk93 : ∀ q e, cd 93 q = some e → chkE 93 q e = true := chk_of (f := cdX11_getter) ck93 (fun q h => by unfold cdX11_getter; rw [Nat.ble_eq_true_of_le h]; rfl)
set_option maxRecDepth 100000 in
theorem ck94 : ∀ q, q < 124 → okO 94 q (cdX3_load q) = true := by decide +kernel
theorem ckk94 : ∀ q e, cd 94 q = some e → chkE 94 q e = true := chk_of (f := cdX3_load) ck94 (fun q h => by unfold cdX3_load; rw [Nat.ble_eq_true_of_le h]; rfl)
set_option maxRecDepth 100000 in
theorem ck95 : ∀ q, q < 9 → okO 95 q (cdX3_length q) = true := by decide +kernel
theorem ckk95 : ∀ q e, cd 95 q = some e → chkE 95 q e = true := chk_of (f := cdX3_length) ck95 (fun q h => by unfold cdX3_length; rw [Nat.ble_eq_true_of_le h]; rfl)
set_option maxRecDepth 100000 in
theorem ck96 : ∀ q, q < 14 → okO 96 q (cdX3_act q) = true := by decide +kernel
theorem ckk96 : ∀ q e, cd 96 q = some e → chkE 96 q e = true := chk_of (f := cdX3_act) ck96 (fun q h => by unfold cdX3_act; rw [Nat.ble_eq_true_of_le h]; rfl)
set_option maxRecDepth 100000 in
theorem ck97 : ∀ q, q < 85 → okO 97 q (cdX11_look q) = true := by decide +kernel
theorem ckk97 : ∀ q e, cd 97 q = some e → chkE 97 q e = true := chk_of (f := cdX11_look) ck97 (fun q h => by unfold cdX11_look; rw [Nat.ble_eq_true_of_le h]; rfl)
set_option maxRecDepth 100000 in
theorem ck98 : ∀ q, q < 10 → okO 98 q (cdX12_isOne q) = true := by decide +kernel
theorem ckk98 : ∀ q e, cd 98 q = some e → chkE 98 q e = true := chk_of (f := cdX12_isOne) ck98 (fun q h => by unfold cdX12_isOne; rw [Nat.ble_eq_true_of_le h]; rfl)
set_option maxRecDepth 100000 in
theorem ck99 : ∀ q, q < 6 → okO 99 q (cdX12_from q) = true := by decide +kernel
theorem ckk99 : ∀ q e, cd 99 q = some e → chkE 99 q e = true := chk_of (f := cdX12_from) ck99 (fun q h => by unfold cdX12_from; rw [Nat.ble_eq_true_of_le h]; rfl)
set_option maxRecDepth 100000 in
theorem ck100 : ∀ q, q < 8 → okO 100 q (cdX12_to q) = true := by decide +kernel
theorem ckk100 : ∀ q e, cd 100 q = some e → chkE 100 q e = true := chk_of (f := cdX12_to) ck100 (fun q h => by unfold cdX12_to; rw [Nat.ble_eq_true_of_le h]; rfl)
set_option maxRecDepth 100000 in
theorem ck101 : ∀ q, q < 132 → okO 101 q (cdX12_findLooks q) = true := by decide +kernel
theorem ckk101 : ∀ q e, cd 101 q = some e → chkE 101 q e = true := chk_of (f := cdX12_findLooks) ck101 (fun q h => by unfold cdX12_findLooks; rw [Nat.ble_eq_true_of_le h]; rfl)
set_option maxRecDepth 100000 in
theorem ck102 : ∀ q, q < 36 → okO 102 q (cdX12_lookAt q) = true := by decide +kernel
theorem ckk102 : ∀ q e, cd 102 q = some e → chkE 102 q e = true := chk_of (f := cdX12_lookAt) ck102 (fun q h => by unfold cdX12_lookAt; rw [Nat.ble_eq_true_of_le h]; rfl)
set_option maxRecDepth 100000 in
theorem ck103 : ∀ q, q < 68 → okO 103 q (cdX12_look q) = true := by decide +kernel
theorem ckk103 : ∀ q e, cd 103 q = some e → chkE 103 q e = true := chk_of (f := cdX12_look) ck103 (fun q h => by unfold cdX12_look; rw [Nat.ble_eq_true_of_le h]; rfl)
set_option maxRecDepth 100000 in
theorem ck104 : ∀ q, q < 9 → okO 104 q (cdX1_all q) = true := by decide +kernel
theorem ckk104 : ∀ q e, cd 104 q = some e → chkE 104 q e = true := chk_of (f := cdX1_all) ck104 (fun q h => by unfold cdX1_all; rw [Nat.ble_eq_true_of_le h]; rfl)
set_option maxRecDepth 100000 in
theorem ck105 : ∀ q, q < 69 → okO 105 q (cdX3_common q) = true := by decide +kernel
theorem ckk105 : ∀ q e, cd 105 q = some e → chkE 105 q e = true := chk_of (f := cdX3_common) ck105 (fun q h => by unfold cdX3_common; rw [Nat.ble_eq_true_of_le h]; rfl)
set_option maxRecDepth 100000 in
theorem ck106 : ∀ q, q < 30 → okO 106 q (cdX3_bothEnd q) = true := by decide +kernel
theorem ckk106 : ∀ q e, cd 106 q = some e → chkE 106 q e = true := chk_of (f := cdX3_bothEnd) ck106 (fun q h => by unfold cdX3_bothEnd; rw [Nat.ble_eq_true_of_le h]; rfl)
set_option maxRecDepth 100000 in
theorem ck107 : ∀ q, q < 40 → okO 107 q (cdX3_isFirst q) = true := by decide +kernel
theorem ckk107 : ∀ q e, cd 107 q = some e → chkE 107 q e = true := chk_of (f := cdX3_isFirst) ck107 (fun q h => by unfold cdX3_isFirst; rw [Nat.ble_eq_true_of_le h]; rfl)
set_option maxRecDepth 100000 in
theorem ck108 : ∀ q, q < 43 → okO 108 q (cdX3_unlike q) = true := by decide +kernel
theorem ckk108 : ∀ q e, cd 108 q = some e → chkE 108 q e = true := chk_of (f := cdX3_unlike) ck108 (fun q h => by unfold cdX3_unlike; rw [Nat.ble_eq_true_of_le h]; rfl)
set_option maxRecDepth 100000 in
theorem ck109 : ∀ q, q < 45 → okO 109 q (cdX11_looks q) = true := by decide +kernel
theorem ckk109 : ∀ q e, cd 109 q = some e → chkE 109 q e = true := chk_of (f := cdX11_looks) ck109 (fun q h => by unfold cdX11_looks; rw [Nat.ble_eq_true_of_le h]; rfl)
set_option maxRecDepth 100000 in
theorem ck110 : ∀ q, q < 9 → okO 110 q (cdX12_allBits q) = true := by decide +kernel
theorem ckk110 : ∀ q e, cd 110 q = some e → chkE 110 q e = true := chk_of (f := cdX12_allBits) ck110 (fun q h => by unfold cdX12_allBits; rw [Nat.ble_eq_true_of_le h]; rfl)
set_option maxRecDepth 100000 in
theorem ck111 : ∀ q, q < 66 → okO 111 q (cdX12_unlike q) = true := by decide +kernel
theorem ckk111 : ∀ q e, cd 111 q = some e → chkE 111 q e = true := chk_of (f := cdX12_unlike) ck111 (fun q h => by unfold cdX12_unlike; rw [Nat.ble_eq_true_of_le h]; rfl)
set_option maxRecDepth 100000 in
theorem ck112 : ∀ q, q < 102 → okO 112 q (cdX12_looksOf q) = true := by decide +kernel
theorem ckk112 : ∀ q e, cd 112 q = some e → chkE 112 q e = true := chk_of (f := cdX12_looksOf) ck112 (fun q h => by unfold cdX12_looksOf; rw [Nat.ble_eq_true_of_le h]; rfl)
set_option maxRecDepth 100000 in
theorem ck113 : ∀ q, q < 35 → okO 113 q (cdX12_looks q) = true := by decide +kernel
theorem ckk113 : ∀ q e, cd 113 q = some e → chkE 113 q e = true := chk_of (f := cdX12_looks) ck113 (fun q h => by unfold cdX12_looks; rw [Nat.ble_eq_true_of_le h]; rfl)
set_option maxRecDepth 100000 in
theorem ck114 : ∀ q, q < 66 → okO 114 q (cdX1_parter q) = true := by decide +kernel
theorem ckk114 : ∀ q e, cd 114 q = some e → chkE 114 q e = true := chk_of (f := cdX1_parter) ck114 (fun q h => by unfold cdX1_parter; rw [Nat.ble_eq_true_of_le h]; rfl)
set_option maxRecDepth 100000 in
theorem ck115 : ∀ q, q < 50 → okO 115 q (cdX11_parts q) = true := by decide +kernel
theorem ckk115 : ∀ q e, cd 115 q = some e → chkE 115 q e = true := chk_of (f := cdX11_parts) ck115 (fun q h => by unfold cdX11_parts; rw [Nat.ble_eq_true_of_le h]; rfl)
set_option maxRecDepth 100000 in
theorem ck116 : ∀ q, q < 45 → okO 116 q (cdX12_parting q) = true := by decide +kernel
theorem ckk116 : ∀ q e, cd 116 q = some e → chkE 116 q e = true := chk_of (f := cdX12_parting) ck116 (fun q h => by unfold cdX12_parting; rw [Nat.ble_eq_true_of_le h]; rfl)
set_option maxRecDepth 100000 in
theorem ck117 : ∀ q, q < 52 → okO 117 q (cdX12_parts q) = true := by decide +kernel
theorem ckk117 : ∀ q e, cd 117 q = some e → chkE 117 q e = true := chk_of (f := cdX12_parts) ck117 (fun q h => by unfold cdX12_parts; rw [Nat.ble_eq_true_of_le h]; rfl)
set_option maxRecDepth 100000 in
theorem ck118 : ∀ q, q < 5 → okO 118 q (cdX1_makings q) = true := by decide +kernel
theorem ckk118 : ∀ q e, cd 118 q = some e → chkE 118 q e = true := chk_of (f := cdX1_makings) ck118 (fun q h => by unfold cdX1_makings; rw [Nat.ble_eq_true_of_le h]; rfl)
set_option maxRecDepth 100000 in
theorem ck119 : ∀ q, q < 25 → okO 119 q (cdX6_fill q) = true := by decide +kernel
theorem ckk119 : ∀ q e, cd 119 q = some e → chkE 119 q e = true := chk_of (f := cdX6_fill) ck119 (fun q h => by unfold cdX6_fill; rw [Nat.ble_eq_true_of_le h]; rfl)
set_option maxRecDepth 100000 in
theorem ck120 : ∀ q, q < 37 → okO 120 q (cdX3_gets q) = true := by decide +kernel
theorem ckk120 : ∀ q e, cd 120 q = some e → chkE 120 q e = true := chk_of (f := cdX3_gets) ck120 (fun q h => by unfold cdX3_gets; rw [Nat.ble_eq_true_of_le h]; rfl)
set_option maxRecDepth 100000 in
theorem ck121 : ∀ q, q < 30 → okO 121 q (cdX2_bothGet q) = true := by decide +kernel
theorem ckk121 : ∀ q e, cd 121 q = some e → chkE 121 q e = true := chk_of (f := cdX2_bothGet) ck121 (fun q h => by unfold cdX2_bothGet; rw [Nat.ble_eq_true_of_le h]; rfl)
set_option maxRecDepth 100000 in
theorem ck122 : ∀ q, q < 130 → okO 122 q (cdX2_searchFor q) = true := by decide +kernel
theorem ckk122 : ∀ q e, cd 122 q = some e → chkE 122 q e = true := chk_of (f := cdX2_searchFor) ck122 (fun q h => by unfold cdX2_searchFor; rw [Nat.ble_eq_true_of_le h]; rfl)
set_option maxRecDepth 100000 in
theorem ck123 : ∀ q, q < 66 → okO 123 q (cdX2_search q) = true := by decide +kernel
theorem ckk123 : ∀ q e, cd 123 q = some e → chkE 123 q e = true := chk_of (f := cdX2_search) ck123 (fun q h => by unfold cdX2_search; rw [Nat.ble_eq_true_of_le h]; rfl)
set_option maxRecDepth 100000 in
theorem ck124 : ∀ q, q < 22 → okO 124 q (cdX2_soundness q) = true := by decide +kernel
theorem ckk124 : ∀ q e, cd 124 q = some e → chkE 124 q e = true := chk_of (f := cdX2_soundness) ck124 (fun q h => by unfold cdX2_soundness; rw [Nat.ble_eq_true_of_le h]; rfl)
set_option maxRecDepth 100000 in
theorem ck125 : ∀ q, q < 22 → okO 125 q (cdX11_sound q) = true := by decide +kernel
theorem ckk125 : ∀ q e, cd 125 q = some e → chkE 125 q e = true := chk_of (f := cdX11_sound) ck125 (fun q h => by unfold cdX11_sound; rw [Nat.ble_eq_true_of_le h]; rfl)
set_option maxRecDepth 100000 in
theorem ck126 : ∀ q, q < 138 → okO 126 q (cdX12_isSound q) = true := by decide +kernel
theorem ckk126 : ∀ q e, cd 126 q = some e → chkE 126 q e = true := chk_of (f := cdX12_isSound) ck126 (fun q h => by unfold cdX12_isSound; rw [Nat.ble_eq_true_of_le h]; rfl)
set_option maxRecDepth 100000 in
theorem ck127 : ∀ q, q < 26 → okO 127 q (cdX12_sound q) = true := by decide +kernel
theorem ckk127 : ∀ q e, cd 127 q = some e → chkE 127 q e = true := chk_of (f := cdX12_sound) ck127 (fun q h => by unfold cdX12_sound; rw [Nat.ble_eq_true_of_le h]; rfl)
