/-! The check of the law's own body, a piece at a time. -/
set_option maxRecDepth 100000 in
theorem ckl0 : ∀ q, q < 64 → okO 259 (q + 0) (cdL_law (q + 0)) = true := by decide +kernel
set_option maxRecDepth 100000 in
theorem ckl1 : ∀ q, q < 64 → okO 259 (q + 64) (cdL_law (q + 64)) = true := by decide +kernel
set_option maxRecDepth 100000 in
theorem ckl2 : ∀ q, q < 64 → okO 259 (q + 128) (cdL_law (q + 128)) = true := by decide +kernel
set_option maxRecDepth 100000 in
theorem ckl3 : ∀ q, q < 64 → okO 259 (q + 192) (cdL_law (q + 192)) = true := by decide +kernel
set_option maxRecDepth 100000 in
theorem ckl4 : ∀ q, q < 64 → okO 259 (q + 256) (cdL_law (q + 256)) = true := by decide +kernel
set_option maxRecDepth 100000 in
theorem ckl5 : ∀ q, q < 64 → okO 259 (q + 320) (cdL_law (q + 320)) = true := by decide +kernel
set_option maxRecDepth 100000 in
theorem ckl6 : ∀ q, q < 64 → okO 259 (q + 384) (cdL_law (q + 384)) = true := by decide +kernel
