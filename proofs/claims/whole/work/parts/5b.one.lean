/-! mended: one answer. Own text. -/
theorem mnP_one {t : List Int} {v v' : Int} (h : MnP t v) (h' : MnP t v') : v = v' := by
  rcases h with ⟨a, b⟩ | ⟨a, b⟩ <;> rcases h' with ⟨a', b'⟩ | ⟨a', b'⟩
  · rw [b, b']
  · exact absurd a a'
  · exact absurd a' a
  · rcases b with ⟨b1, b2⟩ | ⟨x, x1, x2, x3, x4⟩ <;> rcases b' with ⟨c1, c2⟩ | ⟨y, y1, y2, y3, y4⟩
    · rw [b1, c1]
    · exact absurd y2 (b2 y y1)
    · exact absurd x2 (c2 x x1)
    · have p := x4 y y1 y2
      have q := y4 x x1 x2
      omega
