/-! The methods' own words, checked. -/
set_option maxRecDepth 100000 in
theorem ckm12 : ∀ j, j < 16 → chkM (j + 192) = true := by decide +kernel
set_option maxRecDepth 100000 in
theorem ckm13 : ∀ j, j < 16 → chkM (j + 208) = true := by decide +kernel
set_option maxRecDepth 100000 in
theorem ckm14 : ∀ j, j < 16 → chkM (j + 224) = true := by decide +kernel
set_option maxRecDepth 100000 in
theorem ckm15 : ∀ j, j < 16 → chkM (j + 240) = true := by decide +kernel
set_option maxRecDepth 100000 in
theorem ckm16 : ∀ j, j < 3 → chkM (j + 256) = true := by decide +kernel
