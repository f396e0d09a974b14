/-! The check goes on. -/
set_option maxRecDepth 100000 in
theorem ck128 : ∀ q, q < 13 → okO 128 q (cdX2_momentPart q) = true := by decide +kernel
theorem ckk128 : ∀ q e, cd 128 q = some e → chkE 128 q e = true := chk_of (f := cdX2_momentPart) ck128 (fun q h => by unfold cdX2_momentPart; rw [Nat.ble_eq_true_of_le h]; rfl)
set_option maxRecDepth 100000 in
theorem ck129 : ∀ q, q < 35 → okO 129 q (cdX11_moment q) = true := by decide +kernel
theorem ckk129 : ∀ q e, cd 129 q = some e → chkE 129 q e = true := chk_of (f := cdX11_moment) ck129 (fun q h => by unfold cdX11_moment; rw [Nat.ble_eq_true_of_le h]; rfl)
set_option maxRecDepth 100000 in
theorem ck130 : ∀ q, q < 31 → okO 130 q (cdX12_momentOf q) = true := by decide +kernel
theorem ckk130 : ∀ q e, cd 130 q = some e → chkE 130 q e = true := chk_of (f := cdX12_momentOf) ck130 (fun q h => by unfold cdX12_momentOf; rw [Nat.ble_eq_true_of_le h]; rfl)
set_option maxRecDepth 100000 in
theorem ck131 : ∀ q, q < 23 → okO 131 q (cdX12_moment q) = true := by decide +kernel
theorem ckk131 : ∀ q e, cd 131 q = some e → chkE 131 q e = true := chk_of (f := cdX12_moment) ck131 (fun q h => by unfold cdX12_moment; rw [Nat.ble_eq_true_of_le h]; rfl)
set_option maxRecDepth 100000 in
theorem ck132 : ∀ q, q < 94 → okO 132 q (cdX2_findCandidates q) = true := by decide +kernel
theorem ckk132 : ∀ q e, cd 132 q = some e → chkE 132 q e = true := chk_of (f := cdX2_findCandidates) ck132 (fun q h => by unfold cdX2_findCandidates; rw [Nat.ble_eq_true_of_le h]; rfl)
set_option maxRecDepth 100000 in
theorem ck133 : ∀ q, q < 39 → okO 133 q (cdX2_bitsOf q) = true := by decide +kernel
theorem ckk133 : ∀ q e, cd 133 q = some e → chkE 133 q e = true := chk_of (f := cdX2_bitsOf) ck133 (fun q h => by unfold cdX2_bitsOf; rw [Nat.ble_eq_true_of_le h]; rfl)
set_option maxRecDepth 100000 in
theorem ck134 : ∀ q, q < 62 → okO 134 q (cdX2_leastOfSize q) = true := by decide +kernel
theorem ckk134 : ∀ q e, cd 134 q = some e → chkE 134 q e = true := chk_of (f := cdX2_leastOfSize) ck134 (fun q h => by unfold cdX2_leastOfSize; rw [Nat.ble_eq_true_of_le h]; rfl)
set_option maxRecDepth 100000 in
theorem ck135 : ∀ q, q < 99 → okO 135 q (cdX2_fewestTellings q) = true := by decide +kernel
theorem ckk135 : ∀ q e, cd 135 q = some e → chkE 135 q e = true := chk_of (f := cdX2_fewestTellings) ck135 (fun q h => by unfold cdX2_fewestTellings; rw [Nat.ble_eq_true_of_le h]; rfl)
set_option maxRecDepth 100000 in
theorem ck136 : ∀ q, q < 31 → okO 136 q (cdX11_mended q) = true := by decide +kernel
theorem ckk136 : ∀ q e, cd 136 q = some e → chkE 136 q e = true := chk_of (f := cdX11_mended) ck136 (fun q h => by unfold cdX11_mended; rw [Nat.ble_eq_true_of_le h]; rfl)
set_option maxRecDepth 100000 in
theorem ck137 : ∀ q, q < 22 → okO 137 q (cdX12_ones q) = true := by decide +kernel
theorem ckk137 : ∀ q e, cd 137 q = some e → chkE 137 q e = true := chk_of (f := cdX12_ones) ck137 (fun q h => by unfold cdX12_ones; rw [Nat.ble_eq_true_of_le h]; rfl)
set_option maxRecDepth 100000 in
theorem ck138 : ∀ q, q < 195 → okO 138 q (cdX12_mended q) = true := by decide +kernel
theorem ckk138 : ∀ q e, cd 138 q = some e → chkE 138 q e = true := chk_of (f := cdX12_mended) ck138 (fun q h => by unfold cdX12_mended; rw [Nat.ble_eq_true_of_le h]; rfl)
set_option maxRecDepth 100000 in
theorem ck139 : ∀ q, q < 22 → okO 139 q (cdX7_takesPart q) = true := by decide +kernel
theorem ckk139 : ∀ q e, cd 139 q = some e → chkE 139 q e = true := chk_of (f := cdX7_takesPart) ck139 (fun q h => by unfold cdX7_takesPart; rw [Nat.ble_eq_true_of_le h]; rfl)
set_option maxRecDepth 100000 in
theorem ck140 : ∀ q, q < 42 → okO 140 q (cdX7_nextPlace q) = true := by decide +kernel
theorem ckk140 : ∀ q e, cd 140 q = some e → chkE 140 q e = true := chk_of (f := cdX7_nextPlace) ck140 (fun q h => by unfold cdX7_nextPlace; rw [Nat.ble_eq_true_of_le h]; rfl)
set_option maxRecDepth 100000 in
theorem ck141 : ∀ q, q < 82 → okO 141 q (cdX7_ableTalkers q) = true := by decide +kernel
theorem ckk141 : ∀ q e, cd 141 q = some e → chkE 141 q e = true := chk_of (f := cdX7_ableTalkers) ck141 (fun q h => by unfold cdX7_ableTalkers; rw [Nat.ble_eq_true_of_le h]; rfl)
set_option maxRecDepth 100000 in
theorem ck142 : ∀ q, q < 35 → okO 142 q (cdX7_pick q) = true := by decide +kernel
theorem ckk142 : ∀ q e, cd 142 q = some e → chkE 142 q e = true := chk_of (f := cdX7_pick) ck142 (fun q h => by unfold cdX7_pick; rw [Nat.ble_eq_true_of_le h]; rfl)
set_option maxRecDepth 100000 in
theorem ck143 : ∀ q, q < 97 → okO 143 q (cdX7_act q) = true := by decide +kernel
theorem ckk143 : ∀ q e, cd 143 q = some e → chkE 143 q e = true := chk_of (f := cdX7_act) ck143 (fun q h => by unfold cdX7_act; rw [Nat.ble_eq_true_of_le h]; rfl)
set_option maxRecDepth 100000 in
theorem ck144 : ∀ q, q < 137 → okO 144 q (cdX7_goByLots q) = true := by decide +kernel
theorem ckk144 : ∀ q e, cd 144 q = some e → chkE 144 q e = true := chk_of (f := cdX7_goByLots) ck144 (fun q h => by unfold cdX7_goByLots; rw [Nat.ble_eq_true_of_le h]; rfl)
set_option maxRecDepth 100000 in
theorem ck145 : ∀ q, q < 5 → okO 145 q (cdX7_stepCount q) = true := by decide +kernel
theorem ckk145 : ∀ q e, cd 145 q = some e → chkE 145 q e = true := chk_of (f := cdX7_stepCount) ck145 (fun q h => by unfold cdX7_stepCount; rw [Nat.ble_eq_true_of_le h]; rfl)
set_option maxRecDepth 100000 in
theorem ck146 : ∀ q, q < 5 → okO 146 q (cdX7_longestQueue q) = true := by decide +kernel
theorem ckk146 : ∀ q e, cd 146 q = some e → chkE 146 q e = true := chk_of (f := cdX7_longestQueue) ck146 (fun q h => by unfold cdX7_longestQueue; rw [Nat.ble_eq_true_of_le h]; rfl)
set_option maxRecDepth 100000 in
theorem ck147 : ∀ q, q < 65 → okO 147 q (cdX11_run q) = true := by decide +kernel
theorem ckk147 : ∀ q e, cd 147 q = some e → chkE 147 q e = true := chk_of (f := cdX11_run) ck147 (fun q h => by unfold cdX11_run; rw [Nat.ble_eq_true_of_le h]; rfl)
set_option maxRecDepth 100000 in
theorem ck148 : ∀ q, q < 53 → okO 148 q (cdX12_begins q) = true := by decide +kernel
theorem ckk148 : ∀ q e, cd 148 q = some e → chkE 148 q e = true := chk_of (f := cdX12_begins) ck148 (fun q h => by unfold cdX12_begins; rw [Nat.ble_eq_true_of_le h]; rfl)
set_option maxRecDepth 100000 in
theorem ck149 : ∀ q, q < 21 → okO 149 q (cdX12_queueOf q) = true := by decide +kernel
theorem ckk149 : ∀ q e, cd 149 q = some e → chkE 149 q e = true := chk_of (f := cdX12_queueOf) ck149 (fun q h => by unfold cdX12_queueOf; rw [Nat.ble_eq_true_of_le h]; rfl)
set_option maxRecDepth 100000 in
theorem ck150 : ∀ q, q < 61 → okO 150 q (cdX12_can q) = true := by decide +kernel
theorem ckk150 : ∀ q e, cd 150 q = some e → chkE 150 q e = true := chk_of (f := cdX12_can) ck150 (fun q h => by unfold cdX12_can; rw [Nat.ble_eq_true_of_le h]; rfl)
set_option maxRecDepth 100000 in
theorem ck151 : ∀ q, q < 84 → okO 151 q (cdX12_does q) = true := by decide +kernel
theorem ckk151 : ∀ q e, cd 151 q = some e → chkE 151 q e = true := chk_of (f := cdX12_does) ck151 (fun q h => by unfold cdX12_does; rw [Nat.ble_eq_true_of_le h]; rfl)
set_option maxRecDepth 100000 in
theorem ck152 : ∀ q, q < 163 → okO 152 q (cdX12_runs q) = true := by decide +kernel
theorem ckk152 : ∀ q e, cd 152 q = some e → chkE 152 q e = true := chk_of (f := cdX12_runs) ck152 (fun q h => by unfold cdX12_runs; rw [Nat.ble_eq_true_of_le h]; rfl)
set_option maxRecDepth 100000 in
theorem ck153 : ∀ q, q < 57 → okO 153 q (cdX12_run q) = true := by decide +kernel
theorem ckk153 : ∀ q e, cd 153 q = some e → chkE 153 q e = true := chk_of (f := cdX12_run) ck153 (fun q h => by unfold cdX12_run; rw [Nat.ble_eq_true_of_le h]; rfl)
set_option maxRecDepth 100000 in
theorem ck154 : ∀ q, q < 9 → okO 154 q (cdX7_stepper q) = true := by decide +kernel
theorem ckk154 : ∀ q e, cd 154 q = some e → chkE 154 q e = true := chk_of (f := cdX7_stepper) ck154 (fun q h => by unfold cdX7_stepper; rw [Nat.ble_eq_true_of_le h]; rfl)
set_option maxRecDepth 100000 in
theorem ck155 : ∀ q, q < 62 → okO 155 q (cdX11_step q) = true := by decide +kernel
theorem ckk155 : ∀ q e, cd 155 q = some e → chkE 155 q e = true := chk_of (f := cdX11_step) ck155 (fun q h => by unfold cdX11_step; rw [Nat.ble_eq_true_of_le h]; rfl)
set_option maxRecDepth 100000 in
theorem ck156 : ∀ q, q < 54 → okO 156 q (cdX12_step q) = true := by decide +kernel
theorem ckk156 : ∀ q e, cd 156 q = some e → chkE 156 q e = true := chk_of (f := cdX12_step) ck156 (fun q h => by unfold cdX12_step; rw [Nat.ble_eq_true_of_le h]; rfl)
set_option maxRecDepth 100000 in
theorem ck157 : ∀ q, q < 22 → okO 157 q (cdX7_goes q) = true := by decide +kernel
theorem ckk157 : ∀ q e, cd 157 q = some e → chkE 157 q e = true := chk_of (f := cdX7_goes) ck157 (fun q h => by unfold cdX7_goes; rw [Nat.ble_eq_true_of_le h]; rfl)
set_option maxRecDepth 100000 in
theorem ck158 : ∀ q, q < 85 → okO 158 q (cdX7_gotAhead q) = true := by decide +kernel
theorem ckk158 : ∀ q e, cd 158 q = some e → chkE 158 q e = true := chk_of (f := cdX7_gotAhead) ck158 (fun q h => by unfold cdX7_gotAhead; rw [Nat.ble_eq_true_of_le h]; rfl)
set_option maxRecDepth 100000 in
theorem ck159 : ∀ q, q < 71 → okO 159 q (cdX7_longestEver q) = true := by decide +kernel
theorem ckk159 : ∀ q e, cd 159 q = some e → chkE 159 q e = true := chk_of (f := cdX7_longestEver) ck159 (fun q h => by unfold cdX7_longestEver; rw [Nat.ble_eq_true_of_le h]; rfl)
set_option maxRecDepth 100000 in
theorem ck160 : ∀ q, q < 57 → okO 160 q (cdX11_longest q) = true := by decide +kernel
theorem ckk160 : ∀ q e, cd 160 q = some e → chkE 160 q e = true := chk_of (f := cdX11_longest) ck160 (fun q h => by unfold cdX11_longest; rw [Nat.ble_eq_true_of_le h]; rfl)
set_option maxRecDepth 100000 in
theorem ck161 : ∀ q, q < 227 → okO 161 q (cdX12_findAheads q) = true := by decide +kernel
theorem ckk161 : ∀ q e, cd 161 q = some e → chkE 161 q e = true := chk_of (f := cdX12_findAheads) ck161 (fun q h => by unfold cdX12_findAheads; rw [Nat.ble_eq_true_of_le h]; rfl)
set_option maxRecDepth 100000 in
theorem ck162 : ∀ q, q < 221 → okO 162 q (cdX12_longest q) = true := by decide +kernel
theorem ckk162 : ∀ q e, cd 162 q = some e → chkE 162 q e = true := chk_of (f := cdX12_longest) ck162 (fun q h => by unfold cdX12_longest; rw [Nat.ble_eq_true_of_le h]; rfl)
set_option maxRecDepth 100000 in
theorem ck163 : ∀ q, q < 107 → okO 163 q (cdX7_chain q) = true := by decide +kernel
theorem ckk163 : ∀ q e, cd 163 q = some e → chkE 163 q e = true := chk_of (f := cdX7_chain) ck163 (fun q h => by unfold cdX7_chain; rw [Nat.ble_eq_true_of_le h]; rfl)
set_option maxRecDepth 100000 in
theorem ck164 : ∀ q, q < 85 → okO 164 q (cdX7_goesWithOneAhead q) = true := by decide +kernel
theorem ckk164 : ∀ q e, cd 164 q = some e → chkE 164 q e = true := chk_of (f := cdX7_goesWithOneAhead) ck164 (fun q h => by unfold cdX7_goesWithOneAhead; rw [Nat.ble_eq_true_of_le h]; rfl)
set_option maxRecDepth 100000 in
theorem ck165 : ∀ q, q < 36 → okO 165 q (cdX7_packed q) = true := by decide +kernel
theorem ckk165 : ∀ q e, cd 165 q = some e → chkE 165 q e = true := chk_of (f := cdX7_packed) ck165 (fun q h => by unfold cdX7_packed; rw [Nat.ble_eq_true_of_le h]; rfl)
set_option maxRecDepth 100000 in
theorem ck166 : ∀ q, q < 55 → okO 166 q (cdX11_trips q) = true := by decide +kernel
theorem ckk166 : ∀ q e, cd 166 q = some e → chkE 166 q e = true := chk_of (f := cdX11_trips) ck166 (fun q h => by unfold cdX11_trips; rw [Nat.ble_eq_true_of_le h]; rfl)
set_option maxRecDepth 100000 in
theorem ck167 : ∀ q, q < 141 → okO 167 q (cdX12_chainOf q) = true := by decide +kernel
theorem ckk167 : ∀ q e, cd 167 q = some e → chkE 167 q e = true := chk_of (f := cdX12_chainOf) ck167 (fun q h => by unfold cdX12_chainOf; rw [Nat.ble_eq_true_of_le h]; rfl)
set_option maxRecDepth 100000 in
theorem ck168 : ∀ q, q < 175 → okO 168 q (cdX12_packedOf q) = true := by decide +kernel
theorem ckk168 : ∀ q e, cd 168 q = some e → chkE 168 q e = true := chk_of (f := cdX12_packedOf) ck168 (fun q h => by unfold cdX12_packedOf; rw [Nat.ble_eq_true_of_le h]; rfl)
set_option maxRecDepth 100000 in
theorem ck169 : ∀ q, q < 50 → okO 169 q (cdX12_trips q) = true := by decide +kernel
theorem ckk169 : ∀ q e, cd 169 q = some e → chkE 169 q e = true := chk_of (f := cdX12_trips) ck169 (fun q h => by unfold cdX12_trips; rw [Nat.ble_eq_true_of_le h]; rfl)
set_option maxRecDepth 100000 in
theorem ck170 : ∀ q, q < 184 → okO 170 q (cdX7_goWithLost q) = true := by decide +kernel
theorem ckk170 : ∀ q e, cd 170 q = some e → chkE 170 q e = true := chk_of (f := cdX7_goWithLost) ck170 (fun q h => by unfold cdX7_goWithLost; rw [Nat.ble_eq_true_of_le h]; rfl)
set_option maxRecDepth 100000 in
theorem ck171 : ∀ q, q < 5 → okO 171 q (cdX7_stuck q) = true := by decide +kernel
theorem ckk171 : ∀ q e, cd 171 q = some e → chkE 171 q e = true := chk_of (f := cdX7_stuck) ck171 (fun q h => by unfold cdX7_stuck; rw [Nat.ble_eq_true_of_le h]; rfl)
set_option maxRecDepth 100000 in
theorem ck172 : ∀ q, q < 5 → okO 172 q (cdX7_neverGot q) = true := by decide +kernel
theorem ckk172 : ∀ q e, cd 172 q = some e → chkE 172 q e = true := chk_of (f := cdX7_neverGot) ck172 (fun q h => by unfold cdX7_neverGot; rw [Nat.ble_eq_true_of_le h]; rfl)
set_option maxRecDepth 100000 in
theorem ck173 : ∀ q, q < 80 → okO 173 q (cdX11_lost q) = true := by decide +kernel
theorem ckk173 : ∀ q e, cd 173 q = some e → chkE 173 q e = true := chk_of (f := cdX11_lost) ck173 (fun q h => by unfold cdX11_lost; rw [Nat.ble_eq_true_of_le h]; rfl)
set_option maxRecDepth 100000 in
theorem ck174 : ∀ q, q < 221 → okO 174 q (cdX12_lost q) = true := by decide +kernel
theorem ckk174 : ∀ q e, cd 174 q = some e → chkE 174 q e = true := chk_of (f := cdX12_lost) ck174 (fun q h => by unfold cdX12_lost; rw [Nat.ble_eq_true_of_le h]; rfl)
set_option maxRecDepth 100000 in
theorem ck175 : ∀ q, q < 20 → okO 175 q (cdX5_length q) = true := by decide +kernel
theorem ckk175 : ∀ q e, cd 175 q = some e → chkE 175 q e = true := chk_of (f := cdX5_length) ck175 (fun q h => by unfold cdX5_length; rw [Nat.ble_eq_true_of_le h]; rfl)
set_option maxRecDepth 100000 in
theorem ck176 : ∀ q, q < 88 → okO 176 q (cdX5_act q) = true := by decide +kernel
theorem ckk176 : ∀ q e, cd 176 q = some e → chkE 176 q e = true := chk_of (f := cdX5_act) ck176 (fun q h => by unfold cdX5_act; rw [Nat.ble_eq_true_of_le h]; rfl)
set_option maxRecDepth 100000 in
theorem ck177 : ∀ q, q < 91 → okO 177 q (cdX5_rowsBeginningAs q) = true := by decide +kernel
theorem ckk177 : ∀ q e, cd 177 q = some e → chkE 177 q e = true := chk_of (f := cdX5_rowsBeginningAs) ck177 (fun q h => by unfold cdX5_rowsBeginningAs; rw [Nat.ble_eq_true_of_le h]; rfl)
set_option maxRecDepth 100000 in
theorem ck178 : ∀ q, q < 99 → okO 178 q (cdX5_looksBeginningAs q) = true := by decide +kernel
theorem ckk178 : ∀ q e, cd 178 q = some e → chkE 178 q e = true := chk_of (f := cdX5_looksBeginningAs) ck178 (fun q h => by unfold cdX5_looksBeginningAs; rw [Nat.ble_eq_true_of_le h]; rfl)
set_option maxRecDepth 100000 in
theorem ck179 : ∀ q, q < 54 → okO 179 q (cdX5_rowsDo q) = true := by decide +kernel
theorem ckk179 : ∀ q e, cd 179 q = some e → chkE 179 q e = true := chk_of (f := cdX5_rowsDo) ck179 (fun q h => by unfold cdX5_rowsDo; rw [Nat.ble_eq_true_of_le h]; rfl)
set_option maxRecDepth 100000 in
theorem ck180 : ∀ q, q < 68 → okO 180 q (cdX5_rowsGetAll q) = true := by decide +kernel
theorem ckk180 : ∀ q e, cd 180 q = some e → chkE 180 q e = true := chk_of (f := cdX5_rowsGetAll) ck180 (fun q h => by unfold cdX5_rowsGetAll; rw [Nat.ble_eq_true_of_le h]; rfl)
set_option maxRecDepth 100000 in
theorem ck181 : ∀ q, q < 38 → okO 181 q (cdX5_saysAt q) = true := by decide +kernel
theorem ckk181 : ∀ q e, cd 181 q = some e → chkE 181 q e = true := chk_of (f := cdX5_saysAt) ck181 (fun q h => by unfold cdX5_saysAt; rw [Nat.ble_eq_true_of_le h]; rfl)
set_option maxRecDepth 100000 in
theorem ck182 : ∀ q, q < 61 → okO 182 q (cdX5_looksDo q) = true := by decide +kernel
theorem ckk182 : ∀ q e, cd 182 q = some e → chkE 182 q e = true := chk_of (f := cdX5_looksDo) ck182 (fun q h => by unfold cdX5_looksDo; rw [Nat.ble_eq_true_of_le h]; rfl)
set_option maxRecDepth 100000 in
theorem ck183 : ∀ q, q < 59 → okO 183 q (cdX5_looksSayAll q) = true := by decide +kernel
theorem ckk183 : ∀ q e, cd 183 q = some e → chkE 183 q e = true := chk_of (f := cdX5_looksSayAll) ck183 (fun q h => by unfold cdX5_looksSayAll; rw [Nat.ble_eq_true_of_le h]; rfl)
set_option maxRecDepth 100000 in
theorem ck184 : ∀ q, q < 37 → okO 184 q (cdX3_says q) = true := by decide +kernel
theorem ckk184 : ∀ q e, cd 184 q = some e → chkE 184 q e = true := chk_of (f := cdX3_says) ck184 (fun q h => by unfold cdX3_says; rw [Nat.ble_eq_true_of_le h]; rfl)
set_option maxRecDepth 100000 in
theorem ck185 : ∀ q, q < 43 → okO 185 q (cdX5_looksOnlySay q) = true := by decide +kernel
theorem ckk185 : ∀ q e, cd 185 q = some e → chkE 185 q e = true := chk_of (f := cdX5_looksOnlySay) ck185 (fun q h => by unfold cdX5_looksOnlySay; rw [Nat.ble_eq_true_of_le h]; rfl)
set_option maxRecDepth 100000 in
theorem ck186 : ∀ q, q < 37 → okO 186 q (cdX5_rowsSay q) = true := by decide +kernel
theorem ckk186 : ∀ q e, cd 186 q = some e → chkE 186 q e = true := chk_of (f := cdX5_rowsSay) ck186 (fun q h => by unfold cdX5_rowsSay; rw [Nat.ble_eq_true_of_le h]; rfl)
set_option maxRecDepth 100000 in
theorem ck187 : ∀ q, q < 77 → okO 187 q (cdX5_isBreach q) = true := by decide +kernel
theorem ckk187 : ∀ q e, cd 187 q = some e → chkE 187 q e = true := chk_of (f := cdX5_isBreach) ck187 (fun q h => by unfold cdX5_isBreach; rw [Nat.ble_eq_true_of_le h]; rfl)
set_option maxRecDepth 100000 in
theorem ck188 : ∀ q, q < 61 → okO 188 q (cdX5_firstBreach q) = true := by decide +kernel
theorem ckk188 : ∀ q e, cd 188 q = some e → chkE 188 q e = true := chk_of (f := cdX5_firstBreach) ck188 (fun q h => by unfold cdX5_firstBreach; rw [Nat.ble_eq_true_of_le h]; rfl)
set_option maxRecDepth 100000 in
theorem ck189 : ∀ q, q < 56 → okO 189 q (cdX11_fits q) = true := by decide +kernel
theorem ckk189 : ∀ q e, cd 189 q = some e → chkE 189 q e = true := chk_of (f := cdX11_fits) ck189 (fun q h => by unfold cdX11_fits; rw [Nat.ble_eq_true_of_le h]; rfl)
set_option maxRecDepth 100000 in
theorem ck190 : ∀ q, q < 28 → okO 190 q (cdX12_lacksEither q) = true := by decide +kernel
theorem ckk190 : ∀ q e, cd 190 q = some e → chkE 190 q e = true := chk_of (f := cdX12_lacksEither) ck190 (fun q h => by unfold cdX12_lacksEither; rw [Nat.ble_eq_true_of_le h]; rfl)
set_option maxRecDepth 100000 in
theorem ck191 : ∀ q, q < 92 → okO 191 q (cdX12_rowAt q) = true := by decide +kernel
theorem ckk191 : ∀ q e, cd 191 q = some e → chkE 191 q e = true := chk_of (f := cdX12_rowAt) ck191 (fun q h => by unfold cdX12_rowAt; rw [Nat.ble_eq_true_of_le h]; rfl)
