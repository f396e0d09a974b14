/-! Calls that change what is kept: sheets, log, tellings, texts. Own text. -/
def SHW : List Nat := SCR ++ [80, 87, 89, 91, 93, 94, 95, 127, 1011, 1012, 5996, 6892, 6895, 6936]
theorem Inv.gen {T : Nat} {t pt : List Int} {u : Int} {g g' : Gx} (h : Inv T t pt u g) (f : FR SHW g g') (hs : ISh g') (hl : ILg g') (ht : ITl g') : Inv T t pt (g' 0 11) g' := by
  obtain ⟨h1, h2, h3, h4, h5, h6, h7, h8, t0, c1, c2, c3, c4, c5⟩ := h
  have cl : ∀ q, q ∉ SHW → ob q = false → g' q = g q := fun q a b => f.cell a b
  have e1_1 : g' 1 1 = g 1 1 := f.fld (by decide) (by decide)
  have e1_2 : g' 1 2 = g 1 2 := f.fld (by decide) (by decide)
  have e1_3 : g' 1 3 = g 1 3 := f.fld (by decide) (by decide)
  have e4_1 : g' 4 1 = g 4 1 := f.fld (by decide) (by decide)
  have e4_2 : g' 4 2 = g 4 2 := f.fld (by decide) (by decide)
  have e4_3 : g' 4 3 = g 4 3 := f.fld (by decide) (by decide)
  have e7_10 : g' 7 10 = g 7 10 := f.fld (by decide) (by decide)
  have e7_11 : g' 7 11 = g 7 11 := f.fld (by decide) (by decide)
  have e7_12 : g' 7 12 = g 7 12 := f.fld (by decide) (by decide)
  have e28_6 : g' 28 6 = g 28 6 := f.fld (by decide) (by decide)
  have e28_7 : g' 28 7 = g 28 7 := f.fld (by decide) (by decide)
  have e28_8 : g' 28 8 = g 28 8 := f.fld (by decide) (by decide)
  have e28_9 : g' 28 9 = g 28 9 := f.fld (by decide) (by decide)
  have e33_9 : g' 33 9 = g 33 9 := f.fld (by decide) (by decide)
  have e33_13 : g' 33 13 = g 33 13 := f.fld (by decide) (by decide)
  have e33_14 : g' 33 14 = g 33 14 := f.fld (by decide) (by decide)
  have e33_15 : g' 33 15 = g 33 15 := f.fld (by decide) (by decide)
  have e33_16 : g' 33 16 = g 33 16 := f.fld (by decide) (by decide)
  have e55_5 : g' 55 5 = g 55 5 := f.fld (by decide) (by decide)
  have e55_6 : g' 55 6 = g 55 6 := f.fld (by decide) (by decide)
  have e55_7 : g' 55 7 = g 55 7 := f.fld (by decide) (by decide)
  have e69_7 : g' 69 7 = g 69 7 := f.fld (by decide) (by decide)
  have e69_8 : g' 69 8 = g 69 8 := f.fld (by decide) (by decide)
  have e69_9 : g' 69 9 = g 69 9 := f.fld (by decide) (by decide)
  have ag : AGc g g' := ⟨e7_10, cl 9 (by decide) (by decide), cl 11 (by decide) (by decide), cl 13 (by decide) (by decide), cl 15 (by decide) (by decide), cl 17 (by decide) (by decide), cl 19 (by decide) (by decide)⟩
  refine ⟨?_, h2.of e1_2 (cl 3 (by decide) (by decide)), ?_, ht, rfl, hs, hl, ?_, t0, ?_, ?_, ?_, ?_, ?_⟩
  · unfold ITx
    rw [e1_1, e1_2, e4_1, e4_2, cl 98 (by decide) (by decide), cl 97 (by decide) (by decide), cl 3 (by decide) (by decide), cl 6 (by decide) (by decide)]
    exact h1
  · unfold TxP
    rw [e4_2, cl 6 (by decide) (by decide)]; exact h3
  · unfold Cnt
    rw [e1_3, e4_3, e28_9, e7_12, e33_13, e33_16, e55_5, e55_6, e69_9]; exact h8
  · rw [e28_9, e1_3]; exact c1
  · rw [e28_9]; exact fun h9 => (c2 h9).of e28_6 e28_7 e28_8 e7_11 ag
  · rw [e33_13, e7_12, e28_9]
    intro h9
    obtain ⟨d0, d1, d2, d3⟩ := c3 h9
    refine ⟨d0, d1, by rw [e33_14]; exact d2, ?_⟩
    rw [e33_14, e33_15, e55_5, e33_16, cl 57 (by decide) (by decide)]
    rcases d3 with d3 | ⟨d3, d4, d5, d6⟩
    · exact Or.inl d3
    · exact Or.inr ⟨d3, d4, d5.of e33_9 (cl 37 (by decide) (by decide)) (cl 35 (by decide) (by decide)) (cl 43 (by decide) (by decide)) (cl 45 (by decide) (by decide)), d6⟩
  · rw [e55_6, e7_12, e55_7]; exact c4
  · rw [e69_9, e4_3]
    exact fun h9 => (c5 h9).of e69_7 e69_8 (cl 71 (by decide) (by decide)) (cl 73 (by decide) (by decide)) (cl 75 (by decide) (by decide)) (cl 77 (by decide) (by decide))
theorem ILg.fr {g g' : Gx} {W : List Nat} (h : ILg g) (f : FR W g g') (w1 : 92 ∉ W ∧ 6936 ∉ W ∧ 78 ∉ W ∧ 5996 ∉ W ∧ 80 ∉ W ∧ 127 ∉ W) : ILg g' := by
  unfold ILg
  rw [f.fld (q := 92) (j := 48) w1.1 w1.2.1, f.fld (q := 78) (j := 4) w1.2.2.1 w1.2.2.2.1, f.cell (q := 127) w1.2.2.2.2.2 (by decide), f.cell (q := 80) w1.2.2.2.2.1 (by decide)]
  exact h
theorem ITl.fr {g g' : Gx} {W : List Nat} (h : ITl g) (f : FR W g g') (w1 : 92 ∉ W ∧ 6895 ∉ W ∧ 0 ∉ W ∧ 1011 ∉ W) : ITl g' ∧ g' 0 11 = g 0 11 := by
  unfold ITl
  rw [f.fld (q := 92) (j := 7) w1.1 w1.2.1, f.fld (q := 0) (j := 11) w1.2.2.1 w1.2.2.2]
  exact ⟨h, rfl⟩
theorem ISh.fr {g g' : Gx} {W : List Nat} (h : ISh g) (f : FR W g g') (w1 : 92 ∉ W ∧ 6892 ∉ W ∧ 0 ∉ W ∧ 1012 ∉ W ∧ 93 ∉ W ∧ 89 ∉ W ∧ 94 ∉ W ∧ 91 ∉ W ∧ 95 ∉ W ∧ 87 ∉ W) : ISh g' := by
  obtain ⟨a1, a2, a3, a4, a5, a6, a7, a8, a9, a10⟩ := w1
  exact h.of (f.fld a3 a4) (f.fld a1 a2) (f.cell a5 (by decide)) (f.cell a6 (by decide)) (f.cell a7 (by decide)) (f.cell a8 (by decide)) (f.cell a9 (by decide)) (f.cell a10 (by decide))
theorem iv_sh {T : Nat} {t pt : List Int} {u : Int} {g g2 : Gx} {W : List Nat} (h : Inv T t pt u g) (f : FR W g g2) (hs : ISh g2) (hW : ∀ c ∈ W, c ∈ SHW) (w1 : 92 ∉ W ∧ 6936 ∉ W ∧ 78 ∉ W ∧ 5996 ∉ W ∧ 80 ∉ W ∧ 127 ∉ W) (w2 : 6895 ∉ W ∧ 0 ∉ W ∧ 1011 ∉ W) : Inv T t pt u g2 := by
  obtain ⟨a, b⟩ := ITl.fr h.2.2.2.1 f ⟨w1.1, w2⟩
  have := h.gen (f.cl hW) hs (ILg.fr h.2.2.2.2.2.2.1 f w1) a
  rw [b, h.2.2.2.2.1] at this
  exact this
theorem iv_put {T : Nat} {t pt : List Int} {u : Int} {g : Gx} (h : Inv T t pt u g) (a1 a2 a3 a4 : Int) : ∃ r g1 g2, Op_put a1 a2 a3 a4 g = (r, g1) ∧ Md_put a1 a2 a3 a4 g1 = some (r, g2) ∧ Inv T t pt u g2 := by
  obtain ⟨r, g1, g2, e1, e2, e3⟩ := st_put h.2.2.2.2.2.1 a1 a2 a3 a4
  exact ⟨r, g1, g2, e1, e2, iv_sh h (FR.tr ((fr_Op_put _ _ _ _ _ _ _ e1).cl (W := [87, 1012, 95, 6892]) (by decide)) ((fr_Md_put _ _ _ _ _ _ _ e2).cl (by decide))) e3 (by decide) (by decide) (by decide)⟩
theorem iv_get {T : Nat} {t pt : List Int} {u : Int} {g : Gx} (h : Inv T t pt u g) (a1 a2 a3 : Int) : ∃ r g1 g2, Op_get a1 a2 a3 g = (r, g1) ∧ Md_get a1 a2 a3 g1 = some (r, g2) ∧ Inv T t pt u g2 := by
  obtain ⟨r, g1, g2, e1, e2, e3⟩ := st_get h.2.2.2.2.2.1 a1 a2 a3
  exact ⟨r, g1, g2, e1, e2, iv_sh h (FR.tr ((fr_Op_get _ _ _ _ _ _ e1).cl (W := [1012, 6892]) (by decide)) ((fr_Md_get _ _ _ _ _ _ e2).cl (by decide))) e3 (by decide) (by decide) (by decide)⟩
theorem iv_lose {T : Nat} {t pt : List Int} {u : Int} {g : Gx} (h : Inv T t pt u g) (a1 : Int) : ∃ r g1 g2, Op_lose a1 g = (r, g1) ∧ Md_lose a1 g1 = some (r, g2) ∧ Inv T t pt u g2 := by
  obtain ⟨r, g1, g2, e1, e2, e3⟩ := st_lose h.2.2.2.2.2.1 a1
  exact ⟨r, g1, g2, e1, e2, iv_sh h (FR.tr ((fr_Op_lose _ _ _ _ e1).cl (W := [89, 91, 1012, 93, 6892]) (by decide)) ((fr_Md_lose _ _ _ _ e2).cl (by decide))) e3 (by decide) (by decide) (by decide)⟩
theorem iv_sheet {T : Nat} {t pt : List Int} {u : Int} {g : Gx} (h : Inv T t pt u g) (a1 a2 a3 : Int) : ∃ r g1 g2, Op_sheet a1 a2 a3 g = some (r, g1) ∧ Md_sheet a1 a2 a3 g1 = some (r, g2) ∧ Inv T t pt u g2 := by
  obtain ⟨r, g1, g2, e1, e2, e3⟩ := st_sheet h.2.2.2.2.2.1 a1 a2 a3
  exact ⟨r, g1, g2, e1, e2, iv_sh h (FR.tr ((fr_Op_sheet _ _ _ _ _ _ e1).cl (W := [87, 89, 91, 1012, 93, 94, 95, 6892]) (by decide)) ((fr_Md_sheet _ _ _ _ _ _ e2).cl (by decide))) e3 (by decide) (by decide) (by decide)⟩
theorem iv_copy {T : Nat} {t pt : List Int} {u : Int} {g : Gx} (h : Inv T t pt u g) (a1 a2 a3 a4 a5 : Int) (o2 : okI a2) (o4 : okI a4) (o5 : okI a5) : ∃ r g1 g2, Op_copy a1 a2 a3 a4 a5 g = some (r, g1) ∧ Md_copy a1 a2 a3 a4 a5 g1 = some (r, g2) ∧ Inv T t pt u g2 := by
  obtain ⟨r, g1, g2, e1, e2, e3⟩ := st_copy h.2.2.2.2.2.1 a1 a2 a3 a4 a5 o2 o4 o5
  exact ⟨r, g1, g2, e1, e2, iv_sh h (FR.tr ((fr_Op_copy _ _ _ _ _ _ _ _ e1).cl (W := [87, 1012, 95, 96, 6892]) (by decide)) ((fr_Md_copy _ _ _ _ _ _ _ _ e2).cl (by decide))) e3 (by decide) (by decide) (by decide)⟩
theorem iv_log {T : Nat} {t pt : List Int} {u : Int} {g : Gx} (h : Inv T t pt u g) (a1 : Int) : ∃ r g1 g2, Op_log a1 g = some (r, g1) ∧ Md_log a1 g1 = some (r, g2) ∧ Inv T t pt u g2 := by
  obtain ⟨r, g1, g2, e1, e2, e3, e4⟩ := st_log h.2.2.2.2.2.1 h.2.2.2.2.2.2.1 a1
  have f : FR [80, 1012, 5996, 127, 6892, 6936] g g2 := FR.tr ((fr_Op_log _ _ _ _ e1).cl (by decide)) ((fr_Md_log _ _ _ _ e2).cl (by decide))
  obtain ⟨a, b⟩ := ITl.fr h.2.2.2.1 f (by decide)
  have := h.gen (f.cl (by decide)) e3 e4 a
  rw [b, h.2.2.2.2.1] at this
  exact ⟨r, g1, g2, e1, e2, this⟩
theorem iv_clear {T : Nat} {t pt : List Int} {u : Int} {g : Gx} (h : Inv T t pt u g) : ∃ r g1 g2, Op_clear g = (r, g1) ∧ Md_clear g1 = (r, g2) ∧ Inv T t pt u g2 := by
  obtain ⟨r, g1, g2, e1, e2, e3⟩ := st_clear h.2.2.2.2.2.2.1
  have f : FR [5996, 6936] g g2 := FR.tr ((fr_Op_clear _ _ _ e1).cl (by decide)) ((fr_Md_clear _ _ _ e2).cl (by decide))
  obtain ⟨a, b⟩ := ITl.fr h.2.2.2.1 f (by decide)
  have := h.gen (f.cl (by decide)) (ISh.fr h.2.2.2.2.2.1 f (by decide)) e3 a
  rw [b, h.2.2.2.2.1] at this
  exact ⟨r, g1, g2, e1, e2, this⟩
theorem iv_tell {T : Nat} {t pt : List Int} {u : Int} {g : Gx} (h : Inv T t pt u g) (a1 : Int) : ∃ r g1 g2 u', Op_tell a1 g = (r, g1) ∧ Md_tell a1 g1 = (r, g2) ∧ Inv T t pt u' g2 := by
  obtain ⟨r, g1, g2, e1, e2, e3⟩ := st_tell h.2.2.2.1 a1
  have f : FR [1011, 6895] g g2 := FR.tr ((fr_Op_tell _ _ _ _ e1).cl (by decide)) ((fr_Md_tell _ _ _ _ e2).cl (by decide))
  exact ⟨r, g1, g2, _, e1, e2, h.gen (f.cl (by decide)) (ISh.fr h.2.2.2.2.2.1 f (by decide)) (ILg.fr h.2.2.2.2.2.2.1 f (by decide)) e3⟩
/-! texts -/
def TXW : List Nat := [3, 6, 97, 98, 1011, 1066, 1067, 1258, 1259, 6895]
def txl (g : Gx) (c n : Nat) : List Int := (List.range n).map (g c)
theorem txl_at {g : Gx} {c n : Nat} : (txl g c n).length = n ∧ ∀ i, i < n → g c i = chr (txl g c n) i := by
  unfold txl
  refine ⟨by simp, fun i hi => ?_⟩
  unfold chr
  rw [List.getD_eq_getElem?_getD, List.getElem?_map, List.getElem?_range hi]
  rfl
theorem Inv.tx {T : Nat} {t pt : List Int} {u : Int} {g g' : Gx} (h : Inv T t pt u g) (f : FR TXW g g') (x : ITx g') (l : ITl g') (cp : (g' 1 3 = g 1 3 + 1) ∨ (g' 1 3 = g 1 3 ∧ g' 1 2 = g 1 2 ∧ g' 3 = g 3)) (cq : (g' 4 3 = g 4 3 + 1) ∨ (g' 4 3 = g 4 3 ∧ g' 4 2 = g 4 2 ∧ g' 6 = g 6)) : ∃ t' pt', Inv (T + 1) t' pt' (g' 0 11) g' := by
  obtain ⟨h1, h2, h3, h4, h5, h6, h7, h8, t0, c1, c2, c3, c4, c5⟩ := h
  have cl : ∀ q, q ∉ TXW → ob q = false → g' q = g q := fun q a b => f.cell a b
  have e7_10 : g' 7 10 = g 7 10 := f.fld (by decide) (by decide)
  have e7_11 : g' 7 11 = g 7 11 := f.fld (by decide) (by decide)
  have e7_12 : g' 7 12 = g 7 12 := f.fld (by decide) (by decide)
  have e28_6 : g' 28 6 = g 28 6 := f.fld (by decide) (by decide)
  have e28_7 : g' 28 7 = g 28 7 := f.fld (by decide) (by decide)
  have e28_8 : g' 28 8 = g 28 8 := f.fld (by decide) (by decide)
  have e28_9 : g' 28 9 = g 28 9 := f.fld (by decide) (by decide)
  have e33_9 : g' 33 9 = g 33 9 := f.fld (by decide) (by decide)
  have e33_13 : g' 33 13 = g 33 13 := f.fld (by decide) (by decide)
  have e33_14 : g' 33 14 = g 33 14 := f.fld (by decide) (by decide)
  have e33_15 : g' 33 15 = g 33 15 := f.fld (by decide) (by decide)
  have e33_16 : g' 33 16 = g 33 16 := f.fld (by decide) (by decide)
  have e55_5 : g' 55 5 = g 55 5 := f.fld (by decide) (by decide)
  have e55_6 : g' 55 6 = g 55 6 := f.fld (by decide) (by decide)
  have e55_7 : g' 55 7 = g 55 7 := f.fld (by decide) (by decide)
  have e69_7 : g' 69 7 = g 69 7 := f.fld (by decide) (by decide)
  have e69_8 : g' 69 8 = g 69 8 := f.fld (by decide) (by decide)
  have e69_9 : g' 69 9 = g 69 9 := f.fld (by decide) (by decide)
  have ag : AGc g g' := ⟨e7_10, cl 9 (by decide) (by decide), cl 11 (by decide) (by decide), cl 13 (by decide) (by decide), cl 15 (by decide) (by decide), cl 17 (by decide) (by decide), cl 19 (by decide) (by decide)⟩
  obtain ⟨x1, x2, -⟩ := id x
  obtain ⟨a1, a2, a3, a4, a5, a6, a7, a8, a9⟩ := id h8
  obtain ⟨t', t1, t2⟩ : ∃ t', TxC t' g' ∧ (g' 28 9 = g' 1 3 → t0 = t') := by
    rcases cp with cp | ⟨p1, p2, p3⟩
    · obtain ⟨q1, q2⟩ := txl_at (g := g') (c := 3) (n := (g' 1 2).toNat)
      exact ⟨txl g' 3 (g' 1 2).toNat, ⟨by rw [q1]; omega, by rw [q1]; omega, fun i hi => q2 i (by rw [q1] at hi; exact hi)⟩, fun h9 => by rw [e28_9] at h9; omega⟩
    · exact ⟨t, h2.of p2 p3, fun h9 => c1 (by rw [e28_9, p1] at h9; exact h9)⟩
  obtain ⟨pt', p1, p2⟩ : ∃ pt', TxP pt' g' ∧ (g' 69 9 = g' 4 3 → PgC pt' g') := by
    rcases cq with cq | ⟨p1, p2, p3⟩
    · obtain ⟨q1, q2⟩ := txl_at (g := g') (c := 6) (n := (g' 4 2).toNat)
      exact ⟨txl g' 6 (g' 4 2).toNat, ⟨by rw [q1]; omega, by rw [q1]; omega, fun i hi => q2 i (by rw [q1] at hi; exact hi)⟩, fun h9 => by rw [e69_9] at h9; omega⟩
    · refine ⟨pt, by unfold TxP; rw [p2, p3]; exact h3, fun h9 => ?_⟩
      rw [e69_9, p1] at h9
      exact (c5 h9).of e69_7 e69_8 (cl 71 (by decide) (by decide)) (cl 73 (by decide) (by decide)) (cl 75 (by decide) (by decide)) (cl 77 (by decide) (by decide))
  refine ⟨t', pt', x, t1, p1, l, rfl, ISh.fr h6 f (by decide), ILg.fr h7 f (by decide), ?_, t0, t2, ?_, ?_, ?_, p2⟩
  · unfold Cnt
    rw [e28_9, e7_12, e33_13, e33_16, e55_5, e55_6, e69_9]
    omega
  · rw [e28_9]; exact fun h9 => (c2 h9).of e28_6 e28_7 e28_8 e7_11 ag
  · rw [e33_13, e7_12, e28_9]
    intro h9
    obtain ⟨d0, d1, d2, d3⟩ := c3 h9
    refine ⟨d0, d1, by rw [e33_14]; exact d2, ?_⟩
    rw [e33_14, e33_15, e55_5, e33_16, cl 57 (by decide) (by decide)]
    rcases d3 with d3 | ⟨d3, d4, d5, d6⟩
    · exact Or.inl d3
    · exact Or.inr ⟨d3, d4, d5.of e33_9 (cl 37 (by decide) (by decide)) (cl 35 (by decide) (by decide)) (cl 43 (by decide) (by decide)) (cl 45 (by decide) (by decide)), d6⟩
  · rw [e55_6, e7_12, e55_7]; exact c4
def Chg (g g' : Gx) : Prop := ((g' 1 3 = g 1 3 + 1) ∨ (g' 1 3 = g 1 3 ∧ g' 1 2 = g 1 2 ∧ g' 3 = g 3)) ∧ ((g' 4 3 = g 4 3 + 1) ∨ (g' 4 3 = g 4 3 ∧ g' 4 2 = g 4 2 ∧ g' 6 = g 6))
theorem chg_no (g : Gx) : Chg g g := ⟨Or.inr ⟨rfl, rfl, rfl⟩, Or.inr ⟨rfl, rfl, rfl⟩⟩
theorem chg_type {g : Gx} (a1 a2 : Int) (b1 : wr (g 1 3 + 1) = g 1 3 + 1) (b4 : wr (g 4 3 + 1) = g 4 3 + 1) : Chg g (Op_type a1 a2 g).2 := by
  unfold Op_type Tx_append1 Tx_append4
  simp only [lett_eq]
  (repeat' split) <;> first
    | exact chg_no g
    | exact ⟨Or.inr ⟨by simp [gset, rset], by simp [gset, rset], by funext j; simp [gset, rset]⟩, Or.inl (by simp [gset]; exact b4)⟩
    | exact ⟨Or.inl (by simp [gset]; exact b1), Or.inr ⟨by simp [gset, rset], by simp [gset, rset], by funext j; simp [gset, rset]⟩⟩
    | (simp_all)
theorem chg_wipe {g : Gx} (a1 : Int) (b1 : wr (g 1 3 + 1) = g 1 3 + 1) (b4 : wr (g 4 3 + 1) = g 4 3 + 1) : Chg g (Op_wipe a1 g).2 := by
  unfold Op_wipe Tx_empty1 Tx_empty4
  simp only [lett_eq]
  (repeat' split) <;> first
    | exact chg_no g
    | exact ⟨Or.inl (by simp [gset]; exact b1), Or.inr ⟨by simp [gset], by simp [gset], by funext j; simp [gset]⟩⟩
    | exact ⟨Or.inr ⟨by simp [gset], by simp [gset], by funext j; simp [gset]⟩, Or.inl (by simp [gset]; exact b4)⟩
theorem Chg.fr {g g1 g2 : Gx} {W : List Nat} (h : Chg g g1) (f : FR W g1 g2) (w : 1 ∉ W ∧ 1066 ∉ W ∧ 1067 ∉ W ∧ 4 ∉ W ∧ 1258 ∉ W ∧ 1259 ∉ W ∧ 3 ∉ W ∧ 6 ∉ W) : Chg g g2 := by
  obtain ⟨w1, w2, w3, w4, w5, w6, w7, w8⟩ := w
  unfold Chg
  rw [f.fld (q := 1) (j := 3) w1 w3, f.fld (q := 1) (j := 2) w1 w2, f.fld (q := 4) (j := 3) w4 w6, f.fld (q := 4) (j := 2) w4 w5, f.cell (q := 3) w7 (by decide), f.cell (q := 6) w8 (by decide)]
  exact h
theorem iv_type {T : Nat} {t pt : List Int} {u : Int} {g : Gx} (h : Inv T t pt u g) (hT : T < 80000) (a1 a2 : Int) : ∃ r g1 g2 t' pt' u', Op_type a1 a2 g = (r, g1) ∧ Md_type a1 a2 g1 = some (r, g2) ∧ Inv (T + 1) t' pt' u' g2 := by
  obtain ⟨r, g1, g2, e1, e2, e3⟩ := st_type h.1 a1 a2
  have hc := h.2.2.2.2.2.2.2.1
  unfold Cnt at hc
  have c := chg_type (g := g) a1 a2 (wr_id (by omega) (by omega)) (wr_id (by omega) (by omega))
  rw [e1] at c
  have f2 := fr_Md_type _ _ _ _ _ e2
  have f : FR [3, 6, 1066, 1067, 1258, 1259, 97, 98] g g2 := FR.tr ((fr_Op_type _ _ _ _ _ e1).cl (by decide)) (f2.cl (by decide))
  obtain ⟨c1, c2⟩ := c.fr f2 (by decide)
  obtain ⟨t', pt', i⟩ := h.tx (f.cl (by decide)) e3 (ITl.fr h.2.2.2.1 f (by decide)).1 c1 c2
  exact ⟨r, g1, g2, t', pt', _, e1, e2, i⟩
theorem iv_wipe {T : Nat} {t pt : List Int} {u : Int} {g : Gx} (h : Inv T t pt u g) (hT : T < 80000) (a1 : Int) : ∃ r g1 g2 t' pt' u', Op_wipe a1 g = (r, g1) ∧ Md_wipe a1 g1 = some (r, g2) ∧ Inv (T + 1) t' pt' u' g2 := by
  obtain ⟨r, g1, g2, e1, e2, e3, e4⟩ := st_wipe h.1 h.2.2.2.1 a1
  have hc := h.2.2.2.2.2.2.2.1
  unfold Cnt at hc
  have c := chg_wipe (g := g) a1 (wr_id (by omega) (by omega)) (wr_id (by omega) (by omega))
  rw [e1] at c
  have f2 := fr_Md_wipe _ _ _ _ e2
  have f : FR TXW g g2 := FR.tr ((fr_Op_wipe _ _ _ _ e1).cl (by decide)) (f2.cl (by decide))
  obtain ⟨c1, c2⟩ := c.fr f2 (by decide)
  obtain ⟨t', pt', i⟩ := h.tx f e3 e4 c1 c2
  exact ⟨r, g1, g2, t', pt', _, e1, e2, i⟩
