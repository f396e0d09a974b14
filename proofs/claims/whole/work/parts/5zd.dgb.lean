/-! digest with histories. Own text. -/
theorem dig_yes {T : Nat} {t pt : List Int} {u : Int} {g g1 : Gx} (hT : T < 80000) (a : Op_hindrance 0 g = some (0, g1)) (b : Both (T + 2) t pt u g1) : ∃ v g2 g3, Op_digest g = some (v, g2) ∧ Md_digest g2 = some (v, g3) ∧ Inv (T + 3) t pt u g3 := by
  have hL := b.2.2.2.1
  have hl := hL.1
  have h30 := hL.2.1
  -- the class
  obtain ⟨s, g2, s1, s2, s3, s4, s5, s6⟩ := sness_ok b
  have fs := fr_Kn_soundness _ _ _ s1
  have ef : Pr_firstFault g2 = some ((pln t).1, g2) := by
    unfold Pr_firstFault Tx_changes1
    rw [if_neg (fun h9 => h9 s2.2.1.1), s2.2.1.2.1]
  obtain ⟨g3, e3, i3, -, f3⟩ := pfault_ok s2.1
  have b3 : Both (T + 2) t pt u g3 := s2.fr (f3.cl (by decide)) i3
  obtain ⟨g4, e4, f4⟩ := dgC hL b3.2.2.1.2.2.2 0 1 (st31 (st31 (st31 (st31 (st31 (st31 (st31 (st31 17 (g1 1 2)) (g1 4 2)) (g1 0 11)) (g1 78 4)) ((pD t u).length : Int)) s) (pln t).1) (pgm pt).1)
  have b4 : Both (T + 2) t pt u g4 := b3.fr (f4.cl (by decide)) (i3.fr (f4.cl (by decide)))
  obtain ⟨sz, f, o, B, g5, gx, l1, l2, l3, l4, l5, l6, l7, l8, l9, l10, l11, -⟩ := log_both b4
  have b5 : Both (T + 2) t pt u g5 := b4.fr (l11.cl (by decide)) l6
  obtain ⟨m0, g6, p0, b6, -, -, k0⟩ := mpart_ok b5 (a := 0) (by decide) (by decide)
  obtain ⟨m1, g7, p1, b7, -, -, k1⟩ := mpart_ok b6 (a := 1) (by decide) (by decide)
  obtain ⟨m2, g8, p2, b8, -, -, k2⟩ := mpart_ok b7 (a := 2) (by decide) (by decide)
  obtain ⟨m3, g9, p3, b9, -, -, k3⟩ := mpart_ok b8 (a := 3) (by decide) (by decide)
  have f59 : FR [52, 54, 57, 4525] g5 g9 := (((fr_Kn_momentPart _ _ _ _ p0).tr (fr_Kn_momentPart _ _ _ _ p1)).tr (fr_Kn_momentPart _ _ _ _ p2)).tr (fr_Kn_momentPart _ _ _ _ p3)
  have mb := mbC (g := g9) (B := B) (N := (pD t u).length) (by rw [f59.fld (by decide) (by decide)]; exact l7) h30 (fun k hk => by rw [f59.cell (by decide) (by decide)]; exact l8 k hk)
  have z9 : g9 78 4 = (sz : Int) := by rw [f59.fld (by decide) (by decide)]; exact l9
  have fo : Bd_firstOut g9 = some (if mxB B (pD t u).length < sz then (mxB B (pD t u).length : Int) else -1, g9) := by
    unfold Bd_firstOut
    rw [mb, ob_eq]
    simp only
    rw [z9]
    by_cases c : mxB B (pD t u).length < sz
    · rw [if_neg (by omega), if_pos c]
    · rw [if_pos (by omega), if_neg c]
  have eo : Op_digest g = some (st31 (st31 (st31 (st31 (st31 (dgs (pD t u) (st31 (st31 (st31 (st31 (st31 (st31 (st31 (st31 17 (g1 1 2)) (g1 4 2)) (g1 0 11)) (g1 78 4)) ((pD t u).length : Int)) s) (pln t).1) (pgm pt).1) (pD t u).length) m0) m1) m2) m3) (if mxB B (pD t u).length < sz then (mxB B (pD t u).length : Int) else -1), g9) := by
    unfold Op_digest
    rw [a, ob_eq]
    simp only [lett_eq]
    rw [if_neg (show ¬ ¬ True from fun h9 => h9 trivial), if_neg (show ¬ (1 : Int) = 0 by decide), show Hi_size g1 = ((pD t u).length : Int) from b.2.2.1.2.2.2.1]
    simp only [if_neg (show ¬ (1 : Int) = 0 by decide)]
    rw [s1, ob_eq]
    simp only
    rw [ef, ob_eq]
    simp only
    rw [e3, ob_eq]
    simp only
    refine Eq.trans (e4 _) ?_
    rw [l5, ob_eq, d196_1 _ _ fu (Nat.le_trans (by decide) fu7) _ p0 p1 p2 p3, fo, ob_eq]
    rfl
  -- the reference
  have i9 := b9.1
  obtain ⟨c0, c1, c2, c3⟩ := cnt03 i9
  obtain ⟨h1, y1, j1, w1, x1⟩ := b9.2.2.2.2.2 g9 i9
  have q4 : Md_count 4 g9 = some (((pD t u).length : Int), h1) := by
    unfold Md_count Md_histories
    simp [y1, w1.1]
  obtain ⟨h2, h3, y2, y3, j3, x3, -, -⟩ := s6 h1 j1
  have q5 : Md_count 5 h1 = some (s, h3) := by
    unfold Md_count Md_sound
    simp [y2, y3]
    rcases s4 with rfl | rfl <;> simp
  obtain ⟨h4, y4, z4⟩ := md_reads j3.txR
  have fr4 := fr_Md_reads _ _ _ y4
  have j4 := j3.fr (fr4.cl (by decide))
  obtain ⟨h5, y5, z5⟩ := pgR_ok j4.txPR
  have fr5 := fr_Md_readsProgram _ _ _ y5
  have j5 := j4.fr (fr5.cl (by decide))
  obtain ⟨h6, y6, j6, w6, x6⟩ := b9.2.2.2.2.2 h5 j5
  obtain ⟨h7, e7, f7⟩ := dgR hL w6 (st31 (st31 (st31 (st31 (st31 (st31 (st31 (st31 17 (g9 1 2)) (g9 4 2)) (g9 0 11)) (g9 78 4)) ((pD t u).length : Int)) s) (pln t).1) (pgm pt).1)
  have j7 := j6.fr (f7.cl (by decide))
  obtain ⟨ha, ya, ja, xa⟩ := k0 h7 j7
  obtain ⟨hb, yb, jb, xb⟩ := k1 ha ja
  obtain ⟨hc, yc, jc, xc⟩ := k2 hb jb
  obtain ⟨hd, yd, jd, xd⟩ := k3 hc jc
  obtain ⟨he, ye, je, we, xe⟩ := b9.2.2.2.2.2 hd jd
  have fall : FR SCR g9 he := ((((((((x1.tr x3).tr (fr4.cl (by decide))).tr (fr5.cl (by decide))).tr x6).tr (f7.cl (by decide))).tr xa).tr xb).tr xc).tr (xd.tr xe)
  have x48 : he 92 48 = (sz : Int) := by rw [je.2.2.2.2.2.2.1.1, fall.fld (by decide) (by decide)]; exact z9
  have x127 : ∀ i, i < sz → he 127 i = g4 80 i := fun i hi => by
    have := (je.2.2.2.2.2.2.1.2.2 i (by rw [← je.2.2.2.2.2.2.1.1, x48]; omega)).1
    rw [this, fall.cell (by decide) (by decide), f59.cell (by decide) (by decide), l10]
  obtain ⟨hf, yf⟩ := outR hL we l2 x48 x127
  rw [← l3] at yf
  have jf := je.fr ((fr_Md_outOf _ _ _ yf).cl (by decide))
  have ho : Md_out 0 hd = some (if mxB B (pD t u).length < sz then (mxB B (pD t u).length : Int) else -1, hf) := by
    unfold Md_out
    rw [if_pos (fun h9 => in_iff.mp h9 (by decide)), ye, ob_eq]
    simp only [if_true]
    rw [yf, ob_eq]
    simp only
    by_cases c : mxB B (pD t u).length < sz
    · rw [if_pos c, if_neg (by omega), if_neg (fun h9 => h9 trivial)]
    · rw [if_neg c, if_pos rfl]
  refine ⟨_, g9, hf, eo, ?_, jf.more (by omega)⟩
  unfold Md_digest
  rw [d6 _ fu fu7 17 c0 c1 c2 c3 q4 q5, y4, ob_eq]
  simp only
  rw [y5, ob_eq]
  simp only
  rw [y6, ob_eq]
  simp only
  refine Eq.trans (e7 _) ?_
  rw [d151 _ fu (Nat.le_trans (by decide) fu7) _ ya yb yc yd, ho, ob_eq]
  simp only
  have k12 : ∀ q j, (q = 1 ∧ j = 2) ∨ (q = 4 ∧ j = 2) ∨ (q = 0 ∧ j = 11) ∨ (q = 78 ∧ j = 4) → g9 q j = g1 q j := fun q j h9 => by
    rcases h9 with ⟨rfl, rfl⟩ | ⟨rfl, rfl⟩ | ⟨rfl, rfl⟩ | ⟨rfl, rfl⟩ <;> rw [f59.fld (by decide) (by decide), l11.fld (by decide) (by decide), f4.fld (by decide) (by decide), f3.fld (by decide) (by decide), fs.fld (by decide) (by decide)]
  rw [k12 1 2 (by omega), k12 4 2 (by omega), k12 0 11 (by omega), k12 78 4 (by omega)]
  rfl
theorem st_digest {T : Nat} {t pt : List Int} {u : Int} {g : Gx} (h : Inv T t pt u g) (hT : T < 80000) : ∃ v g2 g3, Op_digest g = some (v, g2) ∧ Md_digest g2 = some (v, g3) ∧ Inv (T + 3) t pt u g3 := by
  rcases hw2_ok h hT 0 with ⟨r, g1, a, b, c, d⟩ | ⟨g1, a, b⟩
  · exact dig_no hT a b c d
  · have hl := b.2.2.2.1.1
    rw [if_neg (show ¬ ((pD t u).length : Int) ≤ 0 by omega)] at a
    exact dig_yes hT a b
