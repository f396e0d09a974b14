/-! The check goes on. -/
set_option maxRecDepth 100000 in
theorem ck192 : ∀ q, q < 84 → okO 192 q (cdX12_alike q) = true := by decide +kernel
theorem ckk192 : ∀ q e, cd 192 q = some e → chkE 192 q e = true := chk_of (f := cdX12_alike) ck192 (fun q h => by unfold cdX12_alike; rw [Nat.ble_eq_true_of_le h]; rfl)
set_option maxRecDepth 100000 in
theorem ck193 : ∀ q, q < 61 → okO 193 q (cdX12_rowsCan q) = true := by decide +kernel
theorem ckk193 : ∀ q e, cd 193 q = some e → chkE 193 q e = true := chk_of (f := cdX12_rowsCan) ck193 (fun q h => by unfold cdX12_rowsCan; rw [Nat.ble_eq_true_of_le h]; rfl)
set_option maxRecDepth 100000 in
theorem ck194 : ∀ q, q < 61 → okO 194 q (cdX12_looksCan q) = true := by decide +kernel
theorem ckk194 : ∀ q e, cd 194 q = some e → chkE 194 q e = true := chk_of (f := cdX12_looksCan) ck194 (fun q h => by unfold cdX12_looksCan; rw [Nat.ble_eq_true_of_le h]; rfl)
set_option maxRecDepth 100000 in
theorem ck195 : ∀ q, q < 276 → okO 195 q (cdX12_fitsAt q) = true := by decide +kernel
theorem ckk195 : ∀ q e, cd 195 q = some e → chkE 195 q e = true := chk_of (f := cdX12_fitsAt) ck195 (fun q h => by unfold cdX12_fitsAt; rw [Nat.ble_eq_true_of_le h]; rfl)
set_option maxRecDepth 100000 in
theorem ck196 : ∀ q, q < 80 → okO 196 q (cdX12_breachOf q) = true := by decide +kernel
theorem ckk196 : ∀ q e, cd 196 q = some e → chkE 196 q e = true := chk_of (f := cdX12_breachOf) ck196 (fun q h => by unfold cdX12_breachOf; rw [Nat.ble_eq_true_of_le h]; rfl)
set_option maxRecDepth 100000 in
theorem ck197 : ∀ q, q < 38 → okO 197 q (cdX12_fits q) = true := by decide +kernel
theorem ckk197 : ∀ q e, cd 197 q = some e → chkE 197 q e = true := chk_of (f := cdX12_fits) ck197 (fun q h => by unfold cdX12_fits; rw [Nat.ble_eq_true_of_le h]; rfl)
set_option maxRecDepth 100000 in
theorem ck198 : ∀ q, q < 49 → okO 198 q (cdX11_breach q) = true := by decide +kernel
theorem ckk198 : ∀ q e, cd 198 q = some e → chkE 198 q e = true := chk_of (f := cdX11_breach) ck198 (fun q h => by unfold cdX11_breach; rw [Nat.ble_eq_true_of_le h]; rfl)
set_option maxRecDepth 100000 in
theorem ck199 : ∀ q, q < 29 → okO 199 q (cdX12_breach q) = true := by decide +kernel
theorem ckk199 : ∀ q e, cd 199 q = some e → chkE 199 q e = true := chk_of (f := cdX12_breach) ck199 (fun q h => by unfold cdX12_breach; rw [Nat.ble_eq_true_of_le h]; rfl)
set_option maxRecDepth 100000 in
theorem ck200 : ∀ q, q < 15 → okO 200 q (cdX11_isSheet q) = true := by decide +kernel
theorem ckk200 : ∀ q e, cd 200 q = some e → chkE 200 q e = true := chk_of (f := cdX11_isSheet) ck200 (fun q h => by unfold cdX11_isSheet; rw [Nat.ble_eq_true_of_le h]; rfl)
set_option maxRecDepth 100000 in
theorem ck201 : ∀ q, q < 18 → okO 201 q (cdX8_isLost q) = true := by decide +kernel
theorem ckk201 : ∀ q e, cd 201 q = some e → chkE 201 q e = true := chk_of (f := cdX8_isLost) ck201 (fun q h => by unfold cdX8_isLost; rw [Nat.ble_eq_true_of_le h]; rfl)
set_option maxRecDepth 100000 in
theorem ck202 : ∀ q, q < 10 → okO 202 q (cdX11_found q) = true := by decide +kernel
theorem ckk202 : ∀ q e, cd 202 q = some e → chkE 202 q e = true := chk_of (f := cdX11_found) ck202 (fun q h => by unfold cdX11_found; rw [Nat.ble_eq_true_of_le h]; rfl)
set_option maxRecDepth 100000 in
theorem ck203 : ∀ q, q < 9 → okO 203 q (cdX8_size q) = true := by decide +kernel
theorem ckk203 : ∀ q e, cd 203 q = some e → chkE 203 q e = true := chk_of (f := cdX8_size) ck203 (fun q h => by unfold cdX8_size; rw [Nat.ble_eq_true_of_le h]; rfl)
set_option maxRecDepth 100000 in
theorem ck204 : ∀ q, q < 14 → okO 204 q (cdX8_item q) = true := by decide +kernel
theorem ckk204 : ∀ q e, cd 204 q = some e → chkE 204 q e = true := chk_of (f := cdX8_item) ck204 (fun q h => by unfold cdX8_item; rw [Nat.ble_eq_true_of_le h]; rfl)
set_option maxRecDepth 100000 in
theorem ck205 : ∀ q, q < 50 → okO 205 q (cdX0_mayBe q) = true := by decide +kernel
theorem ckk205 : ∀ q e, cd 205 q = some e → chkE 205 q e = true := chk_of (f := cdX0_mayBe) ck205 (fun q h => by unfold cdX0_mayBe; rw [Nat.ble_eq_true_of_le h]; rfl)
set_option maxRecDepth 100000 in
theorem ck206 : ∀ q, q < 42 → okO 206 q (cdX0_append q) = true := by decide +kernel
theorem ckk206 : ∀ q e, cd 206 q = some e → chkE 206 q e = true := chk_of (f := cdX0_append) ck206 (fun q h => by unfold cdX0_append; rw [Nat.ble_eq_true_of_le h]; rfl)
set_option maxRecDepth 100000 in
theorem ck207 : ∀ q, q < 68 → okO 207 q (cdX11_log q) = true := by decide +kernel
theorem ckk207 : ∀ q e, cd 207 q = some e → chkE 207 q e = true := chk_of (f := cdX11_log) ck207 (fun q h => by unfold cdX11_log; rw [Nat.ble_eq_true_of_le h]; rfl)
set_option maxRecDepth 100000 in
theorem ck208 : ∀ q, q < 10 → okO 208 q (cdX12_isSheet q) = true := by decide +kernel
theorem ckk208 : ∀ q e, cd 208 q = some e → chkE 208 q e = true := chk_of (f := cdX12_isSheet) ck208 (fun q h => by unfold cdX12_isSheet; rw [Nat.ble_eq_true_of_le h]; rfl)
set_option maxRecDepth 100000 in
theorem ck209 : ∀ q, q < 10 → okO 209 q (cdX12_met q) = true := by decide +kernel
theorem ckk209 : ∀ q e, cd 209 q = some e → chkE 209 q e = true := chk_of (f := cdX12_met) ck209 (fun q h => by unfold cdX12_met; rw [Nat.ble_eq_true_of_le h]; rfl)
set_option maxRecDepth 100000 in
theorem ck210 : ∀ q, q < 164 → okO 210 q (cdX12_log q) = true := by decide +kernel
theorem ckk210 : ∀ q e, cd 210 q = some e → chkE 210 q e = true := chk_of (f := cdX12_log) ck210 (fun q h => by unfold cdX12_log; rw [Nat.ble_eq_true_of_le h]; rfl)
set_option maxRecDepth 100000 in
theorem ck211 : ∀ q, q < 12 → okO 211 q (cdX0_empty q) = true := by decide +kernel
theorem ckk211 : ∀ q e, cd 211 q = some e → chkE 211 q e = true := chk_of (f := cdX0_empty) ck211 (fun q h => by unfold cdX0_empty; rw [Nat.ble_eq_true_of_le h]; rfl)
set_option maxRecDepth 100000 in
theorem ck212 : ∀ q, q < 8 → okO 212 q (cdX11_clear q) = true := by decide +kernel
theorem ckk212 : ∀ q e, cd 212 q = some e → chkE 212 q e = true := chk_of (f := cdX11_clear) ck212 (fun q h => by unfold cdX11_clear; rw [Nat.ble_eq_true_of_le h]; rfl)
set_option maxRecDepth 100000 in
theorem ck213 : ∀ q, q < 12 → okO 213 q (cdX12_clear q) = true := by decide +kernel
theorem ckk213 : ∀ q e, cd 213 q = some e → chkE 213 q e = true := chk_of (f := cdX12_clear) ck213 (fun q h => by unfold cdX12_clear; rw [Nat.ble_eq_true_of_le h]; rfl)
set_option maxRecDepth 100000 in
theorem ck214 : ∀ q, q < 5 → okO 214 q (cdX0_size q) = true := by decide +kernel
theorem ckk214 : ∀ q e, cd 214 q = some e → chkE 214 q e = true := chk_of (f := cdX0_size) ck214 (fun q h => by unfold cdX0_size; rw [Nat.ble_eq_true_of_le h]; rfl)
set_option maxRecDepth 100000 in
theorem ck215 : ∀ q, q < 81 → okO 215 q (cdX0_bears q) = true := by decide +kernel
theorem ckk215 : ∀ q e, cd 215 q = some e → chkE 215 q e = true := chk_of (f := cdX0_bears) ck215 (fun q h => by unfold cdX0_bears; rw [Nat.ble_eq_true_of_le h]; rfl)
set_option maxRecDepth 100000 in
theorem ck216 : ∀ q, q < 69 → okO 216 q (cdX0_compare q) = true := by decide +kernel
theorem ckk216 : ∀ q e, cd 216 q = some e → chkE 216 q e = true := chk_of (f := cdX0_compare) ck216 (fun q h => by unfold cdX0_compare; rw [Nat.ble_eq_true_of_le h]; rfl)
set_option maxRecDepth 100000 in
theorem ck217 : ∀ q, q < 45 → okO 217 q (cdX0_leftBy q) = true := by decide +kernel
theorem ckk217 : ∀ q e, cd 217 q = some e → chkE 217 q e = true := chk_of (f := cdX0_leftBy) ck217 (fun q h => by unfold cdX0_leftBy; rw [Nat.ble_eq_true_of_le h]; rfl)
set_option maxRecDepth 100000 in
theorem ck218 : ∀ q, q < 46 → okO 218 q (cdX11_left q) = true := by decide +kernel
theorem ckk218 : ∀ q e, cd 218 q = some e → chkE 218 q e = true := chk_of (f := cdX11_left) ck218 (fun q h => by unfold cdX11_left; rw [Nat.ble_eq_true_of_le h]; rfl)
set_option maxRecDepth 100000 in
theorem ck219 : ∀ q, q < 178 → okO 219 q (cdX12_isLeft q) = true := by decide +kernel
theorem ckk219 : ∀ q e, cd 219 q = some e → chkE 219 q e = true := chk_of (f := cdX12_isLeft) ck219 (fun q h => by unfold cdX12_isLeft; rw [Nat.ble_eq_true_of_le h]; rfl)
set_option maxRecDepth 100000 in
theorem ck220 : ∀ q, q < 39 → okO 220 q (cdX12_leftBy q) = true := by decide +kernel
theorem ckk220 : ∀ q e, cd 220 q = some e → chkE 220 q e = true := chk_of (f := cdX12_leftBy) ck220 (fun q h => by unfold cdX12_leftBy; rw [Nat.ble_eq_true_of_le h]; rfl)
set_option maxRecDepth 100000 in
theorem ck221 : ∀ q, q < 36 → okO 221 q (cdX12_left q) = true := by decide +kernel
theorem ckk221 : ∀ q e, cd 221 q = some e → chkE 221 q e = true := chk_of (f := cdX12_left) ck221 (fun q h => by unfold cdX12_left; rw [Nat.ble_eq_true_of_le h]; rfl)
set_option maxRecDepth 100000 in
theorem ck222 : ∀ q, q < 36 → okO 222 q (cdX0_mostBorne q) = true := by decide +kernel
theorem ckk222 : ∀ q e, cd 222 q = some e → chkE 222 q e = true := chk_of (f := cdX0_mostBorne) ck222 (fun q h => by unfold cdX0_mostBorne; rw [Nat.ble_eq_true_of_le h]; rfl)
set_option maxRecDepth 100000 in
theorem ck223 : ∀ q, q < 19 → okO 223 q (cdX0_firstOut q) = true := by decide +kernel
theorem ckk223 : ∀ q e, cd 223 q = some e → chkE 223 q e = true := chk_of (f := cdX0_firstOut) ck223 (fun q h => by unfold cdX0_firstOut; rw [Nat.ble_eq_true_of_le h]; rfl)
set_option maxRecDepth 100000 in
theorem ck224 : ∀ q, q < 29 → okO 224 q (cdX0_blamed q) = true := by decide +kernel
theorem ckk224 : ∀ q e, cd 224 q = some e → chkE 224 q e = true := chk_of (f := cdX0_blamed) ck224 (fun q h => by unfold cdX0_blamed; rw [Nat.ble_eq_true_of_le h]; rfl)
set_option maxRecDepth 100000 in
theorem ck225 : ∀ q, q < 53 → okO 225 q (cdX11_out q) = true := by decide +kernel
theorem ckk225 : ∀ q e, cd 225 q = some e → chkE 225 q e = true := chk_of (f := cdX11_out) ck225 (fun q h => by unfold cdX11_out; rw [Nat.ble_eq_true_of_le h]; rfl)
set_option maxRecDepth 100000 in
theorem ck226 : ∀ q, q < 30 → okO 226 q (cdX12_outOf q) = true := by decide +kernel
theorem ckk226 : ∀ q e, cd 226 q = some e → chkE 226 q e = true := chk_of (f := cdX12_outOf) ck226 (fun q h => by unfold cdX12_outOf; rw [Nat.ble_eq_true_of_le h]; rfl)
set_option maxRecDepth 100000 in
theorem ck227 : ∀ q, q < 52 → okO 227 q (cdX12_out q) = true := by decide +kernel
theorem ckk227 : ∀ q e, cd 227 q = some e → chkE 227 q e = true := chk_of (f := cdX12_out) ck227 (fun q h => by unfold cdX12_out; rw [Nat.ble_eq_true_of_le h]; rfl)
set_option maxRecDepth 100000 in
theorem ck228 : ∀ q, q < 9 → okO 228 q (cdX0_leftAtLast q) = true := by decide +kernel
theorem ckk228 : ∀ q e, cd 228 q = some e → chkE 228 q e = true := chk_of (f := cdX0_leftAtLast) ck228 (fun q h => by unfold cdX0_leftAtLast; rw [Nat.ble_eq_true_of_le h]; rfl)
set_option maxRecDepth 100000 in
theorem ck229 : ∀ q, q < 47 → okO 229 q (cdX3_mostTelling q) = true := by decide +kernel
theorem ckk229 : ∀ q e, cd 229 q = some e → chkE 229 q e = true := chk_of (f := cdX3_mostTelling) ck229 (fun q h => by unfold cdX3_mostTelling; rw [Nat.ble_eq_true_of_le h]; rfl)
set_option maxRecDepth 100000 in
theorem ck230 : ∀ q, q < 58 → okO 230 q (cdX11_ask q) = true := by decide +kernel
theorem ckk230 : ∀ q e, cd 230 q = some e → chkE 230 q e = true := chk_of (f := cdX11_ask) ck230 (fun q h => by unfold cdX11_ask; rw [Nat.ble_eq_true_of_le h]; rfl)
set_option maxRecDepth 100000 in
theorem ck231 : ∀ q, q < 106 → okO 231 q (cdX12_ask q) = true := by decide +kernel
theorem ckk231 : ∀ q e, cd 231 q = some e → chkE 231 q e = true := chk_of (f := cdX12_ask) ck231 (fun q h => by unfold cdX12_ask; rw [Nat.ble_eq_true_of_le h]; rfl)
set_option maxRecDepth 100000 in
theorem ck232 : ∀ q, q < 15 → okO 232 q (cdX11_isForm q) = true := by decide +kernel
theorem ckk232 : ∀ q e, cd 232 q = some e → chkE 232 q e = true := chk_of (f := cdX11_isForm) ck232 (fun q h => by unfold cdX11_isForm; rw [Nat.ble_eq_true_of_le h]; rfl)
set_option maxRecDepth 100000 in
theorem ck233 : ∀ q, q < 49 → okO 233 q (cdX8_renew q) = true := by decide +kernel
theorem ckk233 : ∀ q e, cd 233 q = some e → chkE 233 q e = true := chk_of (f := cdX8_renew) ck233 (fun q h => by unfold cdX8_renew; rw [Nat.ble_eq_true_of_le h]; rfl)
set_option maxRecDepth 100000 in
theorem ck234 : ∀ q, q < 45 → okO 234 q (cdX11_sheet q) = true := by decide +kernel
theorem ckk234 : ∀ q e, cd 234 q = some e → chkE 234 q e = true := chk_of (f := cdX11_sheet) ck234 (fun q h => by unfold cdX11_sheet; rw [Nat.ble_eq_true_of_le h]; rfl)
set_option maxRecDepth 100000 in
theorem ck235 : ∀ q, q < 82 → okO 235 q (cdX12_sheet q) = true := by decide +kernel
theorem ckk235 : ∀ q e, cd 235 q = some e → chkE 235 q e = true := chk_of (f := cdX12_sheet) ck235 (fun q h => by unfold cdX12_sheet; rw [Nat.ble_eq_true_of_le h]; rfl)
set_option maxRecDepth 100000 in
theorem ck236 : ∀ q, q < 29 → okO 236 q (cdX8_drop q) = true := by decide +kernel
theorem ckk236 : ∀ q e, cd 236 q = some e → chkE 236 q e = true := chk_of (f := cdX8_drop) ck236 (fun q h => by unfold cdX8_drop; rw [Nat.ble_eq_true_of_le h]; rfl)
set_option maxRecDepth 100000 in
theorem ck237 : ∀ q, q < 36 → okO 237 q (cdX11_lose q) = true := by decide +kernel
theorem ckk237 : ∀ q e, cd 237 q = some e → chkE 237 q e = true := chk_of (f := cdX11_lose) ck237 (fun q h => by unfold cdX11_lose; rw [Nat.ble_eq_true_of_le h]; rfl)
set_option maxRecDepth 100000 in
theorem ck238 : ∀ q, q < 39 → okO 238 q (cdX12_lose q) = true := by decide +kernel
theorem ckk238 : ∀ q e, cd 238 q = some e → chkE 238 q e = true := chk_of (f := cdX12_lose) ck238 (fun q h => by unfold cdX12_lose; rw [Nat.ble_eq_true_of_le h]; rfl)
set_option maxRecDepth 100000 in
theorem ck239 : ∀ q, q < 34 → okO 239 q (cdX8_hasItems q) = true := by decide +kernel
theorem ckk239 : ∀ q e, cd 239 q = some e → chkE 239 q e = true := chk_of (f := cdX8_hasItems) ck239 (fun q h => by unfold cdX8_hasItems; rw [Nat.ble_eq_true_of_le h]; rfl)
set_option maxRecDepth 100000 in
theorem ck240 : ∀ q, q < 40 → okO 240 q (cdX8_wrongAbout q) = true := by decide +kernel
theorem ckk240 : ∀ q e, cd 240 q = some e → chkE 240 q e = true := chk_of (f := cdX8_wrongAbout) ck240 (fun q h => by unfold cdX8_wrongAbout; rw [Nat.ble_eq_true_of_le h]; rfl)
set_option maxRecDepth 100000 in
theorem ck241 : ∀ q, q < 53 → okO 241 q (cdX8_change q) = true := by decide +kernel
theorem ckk241 : ∀ q e, cd 241 q = some e → chkE 241 q e = true := chk_of (f := cdX8_change) ck241 (fun q h => by unfold cdX8_change; rw [Nat.ble_eq_true_of_le h]; rfl)
set_option maxRecDepth 100000 in
theorem ck242 : ∀ q, q < 54 → okO 242 q (cdX11_put q) = true := by decide +kernel
theorem ckk242 : ∀ q e, cd 242 q = some e → chkE 242 q e = true := chk_of (f := cdX11_put) ck242 (fun q h => by unfold cdX11_put; rw [Nat.ble_eq_true_of_le h]; rfl)
set_option maxRecDepth 100000 in
theorem ck243 : ∀ q, q < 59 → okO 243 q (cdX12_lacks q) = true := by decide +kernel
theorem ckk243 : ∀ q e, cd 243 q = some e → chkE 243 q e = true := chk_of (f := cdX12_lacks) ck243 (fun q h => by unfold cdX12_lacks; rw [Nat.ble_eq_true_of_le h]; rfl)
set_option maxRecDepth 100000 in
theorem ck244 : ∀ q, q < 21 → okO 244 q (cdX12_cut q) = true := by decide +kernel
theorem ckk244 : ∀ q e, cd 244 q = some e → chkE 244 q e = true := chk_of (f := cdX12_cut) ck244 (fun q h => by unfold cdX12_cut; rw [Nat.ble_eq_true_of_le h]; rfl)
set_option maxRecDepth 100000 in
theorem ck245 : ∀ q, q < 58 → okO 245 q (cdX12_put q) = true := by decide +kernel
theorem ckk245 : ∀ q e, cd 245 q = some e → chkE 245 q e = true := chk_of (f := cdX12_put) ck245 (fun q h => by unfold cdX12_put; rw [Nat.ble_eq_true_of_le h]; rfl)
set_option maxRecDepth 100000 in
theorem ck246 : ∀ q, q < 55 → okO 246 q (cdX11_get q) = true := by decide +kernel
theorem ckk246 : ∀ q e, cd 246 q = some e → chkE 246 q e = true := chk_of (f := cdX11_get) ck246 (fun q h => by unfold cdX11_get; rw [Nat.ble_eq_true_of_le h]; rfl)
set_option maxRecDepth 100000 in
theorem ck247 : ∀ q, q < 44 → okO 247 q (cdX12_get q) = true := by decide +kernel
theorem ckk247 : ∀ q e, cd 247 q = some e → chkE 247 q e = true := chk_of (f := cdX12_get) ck247 (fun q h => by unfold cdX12_get; rw [Nat.ble_eq_true_of_le h]; rfl)
set_option maxRecDepth 100000 in
theorem ck248 : ∀ q, q < 9 → okO 248 q (cdX8_form q) = true := by decide +kernel
theorem ckk248 : ∀ q e, cd 248 q = some e → chkE 248 q e = true := chk_of (f := cdX8_form) ck248 (fun q h => by unfold cdX8_form; rw [Nat.ble_eq_true_of_le h]; rfl)
set_option maxRecDepth 100000 in
theorem ck249 : ∀ q, q < 63 → okO 249 q (cdX8_move q) = true := by decide +kernel
theorem ckk249 : ∀ q e, cd 249 q = some e → chkE 249 q e = true := chk_of (f := cdX8_move) ck249 (fun q h => by unfold cdX8_move; rw [Nat.ble_eq_true_of_le h]; rfl)
set_option maxRecDepth 100000 in
theorem ck250 : ∀ q, q < 121 → okO 250 q (cdX11_copy q) = true := by decide +kernel
theorem ckk250 : ∀ q e, cd 250 q = some e → chkE 250 q e = true := chk_of (f := cdX11_copy) ck250 (fun q h => by unfold cdX11_copy; rw [Nat.ble_eq_true_of_le h]; rfl)
set_option maxRecDepth 100000 in
theorem ck251 : ∀ q, q < 194 → okO 251 q (cdX12_copy q) = true := by decide +kernel
theorem ckk251 : ∀ q e, cd 251 q = some e → chkE 251 q e = true := chk_of (f := cdX12_copy) ck251 (fun q h => by unfold cdX12_copy; rw [Nat.ble_eq_true_of_le h]; rfl)
set_option maxRecDepth 100000 in
theorem ck252 : ∀ q, q < 106 → okO 252 q (cdX11_write q) = true := by decide +kernel
theorem ckk252 : ∀ q e, cd 252 q = some e → chkE 252 q e = true := chk_of (f := cdX11_write) ck252 (fun q h => by unfold cdX11_write; rw [Nat.ble_eq_true_of_le h]; rfl)
set_option maxRecDepth 100000 in
theorem ck253 : ∀ q, q < 123 → okO 253 q (cdX12_write q) = true := by decide +kernel
theorem ckk253 : ∀ q e, cd 253 q = some e → chkE 253 q e = true := chk_of (f := cdX12_write) ck253 (fun q h => by unfold cdX12_write; rw [Nat.ble_eq_true_of_le h]; rfl)
set_option maxRecDepth 100000 in
theorem ck254 : ∀ q, q < 133 → okO 254 q (cdX11_count q) = true := by decide +kernel
theorem ckk254 : ∀ q e, cd 254 q = some e → chkE 254 q e = true := chk_of (f := cdX11_count) ck254 (fun q h => by unfold cdX11_count; rw [Nat.ble_eq_true_of_le h]; rfl)
set_option maxRecDepth 100000 in
theorem ck255 : ∀ q, q < 87 → okO 255 q (cdX12_count q) = true := by decide +kernel
theorem ckk255 : ∀ q e, cd 255 q = some e → chkE 255 q e = true := chk_of (f := cdX12_count) ck255 (fun q h => by unfold cdX12_count; rw [Nat.ble_eq_true_of_le h]; rfl)
set_option maxRecDepth 100000 in
theorem ck256 : ∀ q, q < 76 → okO 256 q (cdX11_withHistory q) = true := by decide +kernel
theorem ckk256 : ∀ q e, cd 256 q = some e → chkE 256 q e = true := chk_of (f := cdX11_withHistory) ck256 (fun q h => by unfold cdX11_withHistory; rw [Nat.ble_eq_true_of_le h]; rfl)
set_option maxRecDepth 100000 in
theorem ck257 : ∀ q, q < 256 → okO 257 q (cdX11_digest q) = true := by decide +kernel
theorem ckk257 : ∀ q e, cd 257 q = some e → chkE 257 q e = true := chk_of (f := cdX11_digest) ck257 (fun q h => by unfold cdX11_digest; rw [Nat.ble_eq_true_of_le h]; rfl)
set_option maxRecDepth 100000 in
theorem ck258 : ∀ q, q < 190 → okO 258 q (cdX12_digest q) = true := by decide +kernel
theorem ckk258 : ∀ q e, cd 258 q = some e → chkE 258 q e = true := chk_of (f := cdX12_digest) ck258 (fun q h => by unfold cdX12_digest; rw [Nat.ble_eq_true_of_le h]; rfl)
