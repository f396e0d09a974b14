/-! The methods' own words, checked. -/
set_option maxRecDepth 100000 in
theorem ckm6 : ∀ j, j < 16 → chkM (j + 96) = true := by decide +kernel
set_option maxRecDepth 100000 in
theorem ckm7 : ∀ j, j < 16 → chkM (j + 112) = true := by decide +kernel
set_option maxRecDepth 100000 in
theorem ckm8 : ∀ j, j < 16 → chkM (j + 128) = true := by decide +kernel
set_option maxRecDepth 100000 in
theorem ckm9 : ∀ j, j < 16 → chkM (j + 144) = true := by decide +kernel
set_option maxRecDepth 100000 in
theorem ckm10 : ∀ j, j < 16 → chkM (j + 160) = true := by decide +kernel
set_option maxRecDepth 100000 in
theorem ckm11 : ∀ j, j < 16 → chkM (j + 176) = true := by decide +kernel
