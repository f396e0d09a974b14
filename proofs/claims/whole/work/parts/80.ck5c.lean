/-! The check of the law's own body, a piece at a time. -/
set_option maxRecDepth 100000 in
theorem ckl14 : ∀ q, q < 64 → okO 259 (q + 896) (cdL_law (q + 896)) = true := by decide +kernel
set_option maxRecDepth 100000 in
theorem ckl15 : ∀ q, q < 64 → okO 259 (q + 960) (cdL_law (q + 960)) = true := by decide +kernel
set_option maxRecDepth 100000 in
theorem ckl16 : ∀ q, q < 64 → okO 259 (q + 1024) (cdL_law (q + 1024)) = true := by decide +kernel
set_option maxRecDepth 100000 in
theorem ckl17 : ∀ q, q < 64 → okO 259 (q + 1088) (cdL_law (q + 1088)) = true := by decide +kernel
set_option maxRecDepth 100000 in
theorem ckl18 : ∀ q, q < 64 → okO 259 (q + 1152) (cdL_law (q + 1152)) = true := by decide +kernel
theorem ck259 (q : Nat) (hq : q < 1158) : okO 259 q (cdL_law q) = true := by
  rcases Nat.lt_or_ge q 576 with h9 | h9
  · rcases Nat.lt_or_ge q 256 with h4 | h4
    · rcases Nat.lt_or_ge q 128 with h2 | h2
      · rcases Nat.lt_or_ge q 64 with h1 | h1
        · have h9 := ckl0 (q - 0) (by omega)
          rw [Nat.sub_add_cancel (by omega)] at h9
          exact h9
        · have h9 := ckl1 (q - 64) (by omega)
          rw [Nat.sub_add_cancel (by omega)] at h9
          exact h9
      · rcases Nat.lt_or_ge q 192 with h3 | h3
        · have h9 := ckl2 (q - 128) (by omega)
          rw [Nat.sub_add_cancel (by omega)] at h9
          exact h9
        · have h9 := ckl3 (q - 192) (by omega)
          rw [Nat.sub_add_cancel (by omega)] at h9
          exact h9
    · rcases Nat.lt_or_ge q 384 with h6 | h6
      · rcases Nat.lt_or_ge q 320 with h5 | h5
        · have h9 := ckl4 (q - 256) (by omega)
          rw [Nat.sub_add_cancel (by omega)] at h9
          exact h9
        · have h9 := ckl5 (q - 320) (by omega)
          rw [Nat.sub_add_cancel (by omega)] at h9
          exact h9
      · rcases Nat.lt_or_ge q 448 with h7 | h7
        · have h9 := ckl6 (q - 384) (by omega)
          rw [Nat.sub_add_cancel (by omega)] at h9
          exact h9
        · rcases Nat.lt_or_ge q 512 with h8 | h8
          · have h9 := ckl7 (q - 448) (by omega)
            rw [Nat.sub_add_cancel (by omega)] at h9
            exact h9
          · have h9 := ckl8 (q - 512) (by omega)
            rw [Nat.sub_add_cancel (by omega)] at h9
            exact h9
  · rcases Nat.lt_or_ge q 896 with h14 | h14
    · rcases Nat.lt_or_ge q 704 with h11 | h11
      · rcases Nat.lt_or_ge q 640 with h10 | h10
        · have h9 := ckl9 (q - 576) (by omega)
          rw [Nat.sub_add_cancel (by omega)] at h9
          exact h9
        · have h9 := ckl10 (q - 640) (by omega)
          rw [Nat.sub_add_cancel (by omega)] at h9
          exact h9
      · rcases Nat.lt_or_ge q 768 with h12 | h12
        · have h9 := ckl11 (q - 704) (by omega)
          rw [Nat.sub_add_cancel (by omega)] at h9
          exact h9
        · rcases Nat.lt_or_ge q 832 with h13 | h13
          · have h9 := ckl12 (q - 768) (by omega)
            rw [Nat.sub_add_cancel (by omega)] at h9
            exact h9
          · have h9 := ckl13 (q - 832) (by omega)
            rw [Nat.sub_add_cancel (by omega)] at h9
            exact h9
    · rcases Nat.lt_or_ge q 1024 with h16 | h16
      · rcases Nat.lt_or_ge q 960 with h15 | h15
        · have h9 := ckl14 (q - 896) (by omega)
          rw [Nat.sub_add_cancel (by omega)] at h9
          exact h9
        · have h9 := ckl15 (q - 960) (by omega)
          rw [Nat.sub_add_cancel (by omega)] at h9
          exact h9
      · rcases Nat.lt_or_ge q 1088 with h17 | h17
        · have h9 := ckl16 (q - 1024) (by omega)
          rw [Nat.sub_add_cancel (by omega)] at h9
          exact h9
        · rcases Nat.lt_or_ge q 1152 with h18 | h18
          · have h9 := ckl17 (q - 1088) (by omega)
            rw [Nat.sub_add_cancel (by omega)] at h9
            exact h9
          · have h9 := ckl18 (q - 1152) (by omega)
            rw [Nat.sub_add_cancel (by omega)] at h9
            exact h9
theorem ckk259 : ∀ q e, cd 259 q = some e → chkE 259 q e = true := chk_of (f := cdL_law) ck259 (fun q h => by unfold cdL_law; rw [Nat.ble_eq_true_of_le h]; rfl)
