/-! The methods' own words, checked. -/
set_option maxRecDepth 100000 in
theorem ckm0 : ∀ j, j < 16 → chkM (j + 0) = true := by decide +kernel
set_option maxRecDepth 100000 in
theorem ckm1 : ∀ j, j < 16 → chkM (j + 16) = true := by decide +kernel
set_option maxRecDepth 100000 in
theorem ckm2 : ∀ j, j < 16 → chkM (j + 32) = true := by decide +kernel
set_option maxRecDepth 100000 in
theorem ckm3 : ∀ j, j < 16 → chkM (j + 48) = true := by decide +kernel
set_option maxRecDepth 100000 in
theorem ckm4 : ∀ j, j < 16 → chkM (j + 64) = true := by decide +kernel
set_option maxRecDepth 100000 in
theorem ckm5 : ∀ j, j < 16 → chkM (j + 80) = true := by decide +kernel
