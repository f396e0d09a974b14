/-! The check of the law's own body, a piece at a time. -/
set_option maxRecDepth 100000 in
theorem ckl7 : ∀ q, q < 64 → okO 259 (q + 448) (cdL_law (q + 448)) = true := by decide +kernel
set_option maxRecDepth 100000 in
theorem ckl8 : ∀ q, q < 64 → okO 259 (q + 512) (cdL_law (q + 512)) = true := by decide +kernel
set_option maxRecDepth 100000 in
theorem ckl9 : ∀ q, q < 64 → okO 259 (q + 576) (cdL_law (q + 576)) = true := by decide +kernel
set_option maxRecDepth 100000 in
theorem ckl10 : ∀ q, q < 64 → okO 259 (q + 640) (cdL_law (q + 640)) = true := by decide +kernel
set_option maxRecDepth 100000 in
theorem ckl11 : ∀ q, q < 64 → okO 259 (q + 704) (cdL_law (q + 704)) = true := by decide +kernel
set_option maxRecDepth 100000 in
theorem ckl12 : ∀ q, q < 64 → okO 259 (q + 768) (cdL_law (q + 768)) = true := by decide +kernel
set_option maxRecDepth 100000 in
theorem ckl13 : ∀ q, q < 64 → okO 259 (q + 832) (cdL_law (q + 832)) = true := by decide +kernel
