/-! digest. Own text. -/
def st31 (x v : Int) : Int := wl ((wl (31 * x)) + v)
def hwf (ws : List Int) (y : Int) : Nat → Int
  | 0 => y
  | i + 1 => st31 (hwf ws y i) (ws.getD i 0)
def dgs (L : List Hy) (x : Int) : Nat → Int
  | 0 => x
  | k + 1 => st31 (hwf (gl L k).2 (st31 (dgs L x k) ((gl L k).2.length : Int)) (gl L k).2.length) (bsc (gl L k).2 (gl L k).2.length : Int)
theorem wr01 : wr (0 + 1) = 1 ∧ wr (1 + 1) = 2 ∧ wr (2 + 1) = 3 ∧ wr (3 + 1) = 4 ∧ wr (4 + 1) = 5 ∧ wr (5 + 1) = 6 := by decide +kernel
theorem d196_0 (c1 : Int) (K : Int → Gx → Option (Int × Gx)) (n : Nat) (hn : 5 ≤ n) (x : Int) (g : Gx) : Op_digest_l196 c1 0 K n x 0 g = K (st31 (st31 (st31 (st31 x c1) c1) c1) c1) g := by
  obtain ⟨m, rfl⟩ : ∃ m, n = m + 5 := ⟨n - 5, by omega⟩
  obtain ⟨w0, w1, w2, w3, -⟩ := wr01
  rw [Op_digest_l196, if_neg (by decide), if_pos rfl, w0, Op_digest_l196, if_neg (by decide), if_pos rfl, w1, Op_digest_l196, if_neg (by decide), if_pos rfl, w2, Op_digest_l196, if_neg (by decide), if_pos rfl, w3, Op_digest_l196, if_pos (by decide)]
  rfl
theorem d196_1 (c1 : Int) (K : Int → Gx → Option (Int × Gx)) (n : Nat) (hn : 5 ≤ n) (x : Int) {g0 g1 g2 g3 g4 : Gx} {m0 m1 m2 m3 : Int} (h0 : Kn_momentPart 0 g0 = some (m0, g1)) (h1 : Kn_momentPart 1 g1 = some (m1, g2)) (h2 : Kn_momentPart 2 g2 = some (m2, g3)) (h3 : Kn_momentPart 3 g3 = some (m3, g4)) : Op_digest_l196 c1 1 K n x 0 g0 = K (st31 (st31 (st31 (st31 x m0) m1) m2) m3) g4 := by
  obtain ⟨m, rfl⟩ : ∃ m, n = m + 5 := ⟨n - 5, by omega⟩
  obtain ⟨w0, w1, w2, w3, -⟩ := wr01
  rw [Op_digest_l196, if_neg (by decide), if_neg (by decide), h0, ob_eq, w0, Op_digest_l196, if_neg (by decide), if_neg (by decide), h1, ob_eq, w1, Op_digest_l196, if_neg (by decide), if_neg (by decide), h2, ob_eq, w2, Op_digest_l196, if_neg (by decide), if_neg (by decide), h3, ob_eq, w3, Op_digest_l196, if_pos (by decide)]
  rfl
theorem d151 (K : Int → Gx → Option (Int × Gx)) (n : Nat) (hn : 5 ≤ n) (x : Int) {g0 g1 g2 g3 g4 : Gx} {m0 m1 m2 m3 : Int} (h0 : Md_momentOf 0 g0 = some (m0, g1)) (h1 : Md_momentOf 1 g1 = some (m1, g2)) (h2 : Md_momentOf 2 g2 = some (m2, g3)) (h3 : Md_momentOf 3 g3 = some (m3, g4)) : Md_digest_l151 K n x 0 g0 = K (st31 (st31 (st31 (st31 x m0) m1) m2) m3) g4 := by
  obtain ⟨m, rfl⟩ : ∃ m, n = m + 5 := ⟨n - 5, by omega⟩
  obtain ⟨w0, w1, w2, w3, -⟩ := wr01
  rw [Md_digest_l151, if_neg (by decide), h0, ob_eq, w0, Md_digest_l151, if_neg (by decide), h1, ob_eq, w1, Md_digest_l151, if_neg (by decide), h2, ob_eq, w2, Md_digest_l151, if_neg (by decide), h3, ob_eq, w3, Md_digest_l151, if_pos (by decide)]
  rfl
theorem d6 (K : Int → Gx → Option (Int × Gx)) (n : Nat) (hn : 7 ≤ n) (x : Int) {g0 g1 g2 g3 g4 g5 g6 : Gx} {m0 m1 m2 m3 m4 m5 : Int} (h0 : Md_count 0 g0 = some (m0, g1)) (h1 : Md_count 1 g1 = some (m1, g2)) (h2 : Md_count 2 g2 = some (m2, g3)) (h3 : Md_count 3 g3 = some (m3, g4)) (h4 : Md_count 4 g4 = some (m4, g5)) (h5 : Md_count 5 g5 = some (m5, g6)) : Md_digest_l6 K n x 0 g0 = K (st31 (st31 (st31 (st31 (st31 (st31 x m0) m1) m2) m3) m4) m5) g6 := by
  obtain ⟨m, rfl⟩ : ∃ m, n = m + 7 := ⟨n - 7, by omega⟩
  obtain ⟨w0, w1, w2, w3, w4, w5⟩ := wr01
  rw [Md_digest_l6, if_neg (by decide), h0, ob_eq, w0, Md_digest_l6, if_neg (by decide), h1, ob_eq, w1, Md_digest_l6, if_neg (by decide), h2, ob_eq, w2, Md_digest_l6, if_neg (by decide), h3, ob_eq, w3, Md_digest_l6, if_neg (by decide), h4, ob_eq, w4, Md_digest_l6, if_neg (by decide), h5, ob_eq, w5, Md_digest_l6, if_pos (by decide)]
  rfl
theorem cnt03 {T : Nat} {t pt : List Int} {u : Int} {g : Gx} (h : Inv T t pt u g) : Md_count 0 g = some (g 1 2, g) ∧ Md_count 1 g = some (g 4 2, g) ∧ Md_count 2 g = some (g 0 11, g) ∧ Md_count 3 g = some (g 78 4, g) := by
  obtain ⟨⟨x1, x2, x3, x4, -⟩, -, -, ⟨l1, -⟩, -, -, ⟨o1, -⟩, -⟩ := id h
  unfold Md_count
  exact ⟨by simp; exact x3, by simp; exact x4, by simp; exact l1, by simp; exact o1⟩
/-- what can be told, or why not, as both have it -/
theorem hw2_ok {T : Nat} {t pt : List Int} {u : Int} {g : Gx} (h : Inv T t pt u g) (hT : T < 80000) (k : Int) : (∃ r g1, (r = -3 ∨ r = -4) ∧ Op_hindrance k g = some (r, g1) ∧ Inv (T + 2) t pt u g1 ∧ ∀ T' G, T' < 90000 → Inv T' t pt u G → ∃ G', Md_without G = some (r, G') ∧ Inv T' t pt u G') ∨ ∃ g1, Op_hindrance k g = some (if ((pD t u).length : Int) ≤ k then -2 else 0, g1) ∧ Both (T + 2) t pt u g1 := by
  rcases hw_ok h hT k with ⟨r, g1, g2, a, b, c, d, e⟩ | h9
  · left
    refine ⟨r, g1, a, b, c, fun T' G hT' iG => ?_⟩
    rcases with_inv c (by omega) with ⟨x, _, y, _⟩ | ⟨x, x2, _, y, _⟩ | ⟨x, x2, _, y, _⟩
    · rw [y] at d
      cases d
      rcases with_inv iG hT' with ⟨_, g4, y4, z4⟩ | ⟨x', _⟩ | ⟨x', _⟩
      · exact ⟨g4, y4, z4⟩
      · exact absurd x' x
      · exact absurd x' x
    · rw [y] at d
      cases d
      rcases with_inv iG hT' with ⟨x', _⟩ | ⟨_, _, g4, y4, z4⟩ | ⟨_, x', _⟩
      · exact absurd x x'
      · exact ⟨g4, y4, z4⟩
      · exact absurd x2 x'
    · rw [y] at d
      cases d
      omega
  · exact Or.inr h9
theorem Both.fr {T : Nat} {t pt : List Int} {u : Int} {g g' : Gx} (b : Both T t pt u g) (f : FR [52, 54, 68, 71, 73, 75, 77, 82, 84, 5423, 5424, 5425] g g') (i : Inv T t pt u g') : Both T t pt u g' := by
  obtain ⟨b1, ⟨r1, r2⟩, ⟨m1, m2, m3, m4⟩, b4, b5, b6⟩ := b
  have ag : AGc g g' := ⟨f.fld (by decide) (by decide), f.cell (by decide) (by decide), f.cell (by decide) (by decide), f.cell (by decide) (by decide), f.cell (by decide) (by decide), f.cell (by decide) (by decide), f.cell (by decide) (by decide)⟩
  exact ⟨i, ⟨by rw [f.fld (by decide) (by decide), f.fld (by decide) (by decide)]; exact r1, r2.of (f.fld (by decide) (by decide)) (f.fld (by decide) (by decide)) (f.fld (by decide) (by decide)) (f.fld (by decide) (by decide)) ag⟩, ⟨by rw [f.fld (by decide) (by decide), f.fld (by decide) (by decide)]; exact m1, by rw [f.fld (by decide) (by decide)]; exact m2, by rw [f.fld (by decide) (by decide)]; exact m3, m4.of (f.fld (by decide) (by decide)) (f.cell (by decide) (by decide)) (f.cell (by decide) (by decide)) (f.cell (by decide) (by decide)) (f.cell (by decide) (by decide))⟩, b4, b5, b6⟩
theorem withC {ws : List Int} {k : Nat} {g : Gx} (hw : OkW ws) (hc : WC ws k g) (x : Int) : ∃ g', Op_withHistory x (k : Int) g = some (st31 (hwf ws (st31 x (ws.length : Int)) ws.length) (bsc ws ws.length : Int), g') := by
  have l24 := hw.1
  unfold Op_withHistory
  have lp : ∀ (d i n : Nat) (K : Int → Gx → Option (Int × Gx)) (y : Int), i + d = ws.length → d < n → Op_withHistory_l20 (k : Int) K n (hwf ws y i) (i : Int) g = K (hwf ws y ws.length) g := by
    intro d
    induction d with
    | zero =>
      intro i n K y hi hn
      obtain ⟨n, rfl⟩ : ∃ q, n = q + 1 := ⟨n - 1, by omega⟩
      rw [Op_withHistory_l20, hc.1, if_pos (by omega), show i = ws.length by omega]
    | succ d ih =>
      intro i n K y hi hn
      obtain ⟨n, rfl⟩ : ∃ q, n = q + 1 := ⟨n - 1, by omega⟩
      rw [Op_withHistory_l20, hc.1, if_neg (by omega), hc.2 i (by omega), wr_id (by omega) (by omega), show (i : Int) + 1 = ((i + 1 : Nat) : Int) by omega]
      exact ih (i + 1) n K y (by omega) (by omega)
  obtain ⟨g', e⟩ := chC_ok hw hc
  have z := lp ws.length 0 fu (fun x1 g2 => Option.bind (Rn_chain (k : Int) g2) (fun q3 => some ((wl ((wl (31 * x1)) + q3.1)), q3.2))) (st31 x (ws.length : Int)) (by omega) (Nat.lt_of_le_of_lt l24 (fu_big _ (by decide)))
  rw [hc.1]
  refine ⟨g', ?_⟩
  refine Eq.trans z ?_
  rw [e, ob_eq]
  rfl
theorem dgC {L : List Hy} {g : Gx} (hL : OkL L) (h : HsC L L.length g) (c1 c2 : Int) (x : Int) : ∃ g', (∀ K : Int → Gx → Option (Int × Gx), Op_digest_l160 c1 c2 K fu x 0 g = K (dgs L x L.length) g') ∧ FR [68] g g' := by
  have h30 := hL.2.1
  have lp : ∀ (d k n : Nat) (G : Gx), k + d = L.length → d < n → FR [68] g G → ∃ g', (∀ K : Int → Gx → Option (Int × Gx), Op_digest_l160 c1 c2 K n (dgs L x k) (k : Int) G = K (dgs L x L.length) g') ∧ FR [68] g g' := by
    intro d
    induction d with
    | zero =>
      intro k n G hk hn fr
      obtain ⟨n, rfl⟩ : ∃ q, n = q + 1 := ⟨n - 1, by omega⟩
      have z9 : G 33 9 = (L.length : Int) := by rw [fr.fld (by decide) (by decide)]; exact h.1
      exact ⟨G, fun K => by rw [Op_digest_l160, show Hi_size G = (L.length : Int) from z9, if_pos (by omega), show k = L.length by omega], fr⟩
    | succ d ih =>
      intro k n G hk hn fr
      obtain ⟨n, rfl⟩ : ∃ q, n = q + 1 := ⟨n - 1, by omega⟩
      have z9 : G 33 9 = (L.length : Int) := by rw [fr.fld (by decide) (by decide)]; exact h.1
      obtain ⟨G', e⟩ := withC (ws_ok hL (show k < L.length by omega)) ((ws_c hL h (by omega)).of (fr.cell (by decide) (by decide)) (fr.cell (by decide) (by decide)) : WC (gl L k).2 k G) (dgs L x k)
      obtain ⟨g', p, q⟩ := ih (k + 1) n G' (by omega) (by omega) (fr.tr (fr_Op_withHistory _ _ _ _ _ e))
      refine ⟨g', fun K => ?_, q⟩
      rw [Op_digest_l160, show Hi_size G = (L.length : Int) from z9, if_neg (by omega), e, ob_eq]
      simp only
      rw [wr_id (by omega) (by omega), show (k : Int) + 1 = ((k + 1 : Nat) : Int) by omega]
      exact p K
  exact lp L.length 0 fu g (by omega) (Nat.lt_of_le_of_lt h30 (fu_big _ (by decide))) (FR.rf _ _)
theorem dgR {L : List Hy} {g : Gx} (hL : OkL L) (h : HsR L L.length g) (x : Int) : ∃ g', (∀ K : Int → Gx → Option (Int × Gx), Md_digest_l63 0 K fu x 0 g = K (dgs L x L.length) g') ∧ FR [126] g g' := by
  have h30 := hL.2.1
  have lp : ∀ (d k n : Nat) (G : Gx), k + d = L.length → d < n → FR [126] g G → ∃ g', (∀ K : Int → Gx → Option (Int × Gx), Md_digest_l63 0 K n (dgs L x k) (k : Int) G = K (dgs L x L.length) g') ∧ FR [126] g g' := by
    intro d
    induction d with
    | zero =>
      intro k n G hk hn fr
      obtain ⟨n, rfl⟩ : ∃ q, n = q + 1 := ⟨n - 1, by omega⟩
      exact ⟨G, fun K => by rw [Md_digest_l63, fr.fld (q := 92) (j := 26) (by decide) (by decide), h.1, if_pos (by omega), show k = L.length by omega], fr⟩
    | succ d ih =>
      intro k n G hk hn fr
      obtain ⟨n, rfl⟩ : ∃ q, n = q + 1 := ⟨n - 1, by omega⟩
      have hw := ws_ok hL (show k < L.length by omega)
      have hr : WR (gl L k).2 k G := (ws_r hL h (by omega)).of (fr.cell (by decide) (by decide)) (fr.cell (by decide) (by decide))
      have l24 := hw.1
      have inn : ∀ (d i n : Nat) (K : Int → Gx → Option (Int × Gx)) (y : Int), i + d = (gl L k).2.length → d < n → Md_digest_l94 0 (k : Int) K n (hwf (gl L k).2 y i) (i : Int) G = K (hwf (gl L k).2 y (gl L k).2.length) G := by
        intro d
        induction d with
        | zero =>
          intro i n K y hi hn
          obtain ⟨n, rfl⟩ : ∃ q, n = q + 1 := ⟨n - 1, by omega⟩
          rw [Md_digest_l94, if_pos (by omega), Int.toNat_natCast, hr.2.1, if_pos (by omega), show i = (gl L k).2.length by omega]
        | succ d ih =>
          intro i n K y hi hn
          obtain ⟨n, rfl⟩ : ∃ q, n = q + 1 := ⟨n - 1, by omega⟩
          rw [Md_digest_l94, if_pos (by omega), Int.toNat_natCast, hr.2.1, if_neg (by omega), hr.code hw (by omega), ob_eq]
          simp only
          rw [wr_id (by omega) (by omega), show (i : Int) + 1 = ((i + 1 : Nat) : Int) by omega]
          exact ih (i + 1) n K y (by omega) (by omega)
      obtain ⟨G', e⟩ := chR_ok hw hr
      obtain ⟨g', p, q⟩ := ih (k + 1) n G' (by omega) (by omega) (fr.tr (fr_Md_chainOf _ _ _ _ e))
      refine ⟨g', fun K => ?_, q⟩
      have z := inn (gl L k).2.length 0 fu (fun x8 g9 => Option.bind (Md_chainOf (k : Int) g9) (fun q10 => Md_digest_l63 0 K n (wl ((wl (31 * x8)) + q10.1)) (wr ((k : Int) + 1)) q10.2)) (st31 (dgs L x k) ((gl L k).2.length : Int)) (by omega) (Nat.lt_of_le_of_lt l24 (fu_big _ (by decide)))
      rw [Md_digest_l63, fr.fld (q := 92) (j := 26) (by decide) (by decide), h.1, if_neg (by omega), if_neg (fun h9 => h9 rfl), if_pos (by omega), Int.toNat_natCast, hr.2.1]
      have z2 : Md_digest_l94 0 (k : Int) (fun x8 g9 => Option.bind (Md_chainOf (k : Int) g9) (fun q10 => Md_digest_l63 0 K n (wl ((wl (31 * x8)) + q10.1)) (wr ((k : Int) + 1)) q10.2)) fu (wl ((wl (31 * (dgs L x k))) + ((gl L k).2.length : Int))) 0 G = Md_digest_l63 0 K n (dgs L x (k + 1)) ((k + 1 : Nat) : Int) G' := by
        refine Eq.trans z ?_
        rw [e, ob_eq]
        simp only
        rw [wr_id (by omega) (by omega), show (k : Int) + 1 = ((k + 1 : Nat) : Int) by omega]
        rfl
      rw [z2]
      exact p K
  exact lp L.length 0 fu g (by omega) (Nat.lt_of_le_of_lt h30 (fu_big _ (by decide))) (FR.rf _ _)
theorem fu7 : 7 ≤ fu := by decide
theorem dig_no {T : Nat} {t pt : List Int} {u : Int} {g g1 : Gx} {r : Int} (hT : T < 80000) (hr : r = -3 ∨ r = -4) (b : Op_hindrance 0 g = some (r, g1)) (i1 : Inv (T + 2) t pt u g1) (w : ∀ T' G, T' < 90000 → Inv T' t pt u G → ∃ G', Md_without G = some (r, G') ∧ Inv T' t pt u G') : ∃ v g2 g3, Op_digest g = some (v, g2) ∧ Md_digest g2 = some (v, g3) ∧ Inv (T + 3) t pt u g3 := by
  have r0 : ¬ r = 0 := by omega
  obtain ⟨g2, e1, i2, -⟩ := fault_ok i1 (by omega)
  obtain ⟨g3, e2, i3, -, f3⟩ := pfault_ok i2
  have f2 := fr_Pr_firstFault _ _ _ e1
  have eo : Op_digest g = some (st31 (st31 (st31 (st31 (st31 (st31 (st31 (st31 (st31 (st31 (st31 (st31 (st31 17 (g1 1 2)) (g1 4 2)) (g1 0 11)) (g1 78 4)) r) r) (pln t).1) (pgm pt).1) r) r) r) r) r, g3) := by
    unfold Op_digest
    rw [b, ob_eq]
    simp only [lett_eq]
    rw [if_pos r0]
    simp only [if_true]
    rw [e1, ob_eq]
    simp only
    rw [e2, ob_eq]
    simp only
    rw [d196_0 _ _ fu (Nat.le_trans (by decide) fu7)]
    rfl
  obtain ⟨c0, c1, c2, c3⟩ := cnt03 i3
  obtain ⟨g4, y4, i4⟩ := w _ g3 (by omega) i3
  obtain ⟨g5, y5, i5⟩ := w _ g4 (by omega) i4
  obtain ⟨g6, y6, z6⟩ := md_reads i5.txR
  have i6 := i5.fr ((fr_Md_reads _ _ _ y6).cl (by decide))
  obtain ⟨g7, y7, z7⟩ := pgR_ok i6.txPR
  have i7 := i6.fr ((fr_Md_readsProgram _ _ _ y7).cl (by decide))
  obtain ⟨g8, y8, i8⟩ := w _ g7 (by omega) i7
  have mo : ∀ (a : Int) G G', Md_without G = some (r, G') → Md_momentOf a G = some (r, G') := fun a G G' e => by
    unfold Md_momentOf; rw [e, ob_eq]; simp only; rw [if_neg r0]
  obtain ⟨g9, y9, i9⟩ := w _ g8 (by omega) i8
  obtain ⟨ga, ya, ia⟩ := w _ g9 (by omega) i9
  obtain ⟨gb, yb, ib⟩ := w _ ga (by omega) ia
  obtain ⟨gc', yc, ic⟩ := w _ gb (by omega) ib
  obtain ⟨gd, yd, id'⟩ := w _ gc' (by omega) ic
  have h4 : Md_count 4 g3 = some (r, g4) := by
    unfold Md_count Md_histories
    simp [y4, r0]
  have h5 : Md_count 5 g4 = some (r, g5) := by
    unfold Md_count Md_sound
    simp [y5, r0]
  have ho : Md_out 0 gc' = some (r, gd) := by
    unfold Md_out
    rw [if_pos (fun h9 => in_iff.mp h9 (by decide)), yd, ob_eq]; simp only; rw [if_neg r0]
  refine ⟨_, g3, gd, eo, ?_, id'⟩
  unfold Md_digest
  rw [d6 _ fu fu7 17 c0 c1 c2 c3 h4 h5, y6, ob_eq]
  simp only
  rw [y7, ob_eq]
  simp only
  rw [y8, ob_eq]
  simp only
  have l63 : ∀ (K : Int → Gx → Option (Int × Gx)) (x : Int), Md_digest_l63 r K fu x 0 g8 = K x g8 := by
    intro K x
    obtain ⟨n, hn⟩ : ∃ n, fu = n + 1 := ⟨999999, rfl⟩
    rw [hn, Md_digest_l63]
    by_cases c : g8 92 26 ≤ 0
    · rw [if_pos c]
    · rw [if_neg c, if_pos r0]
  rw [l63, d151 _ fu (Nat.le_trans (by decide) fu7) _ (mo 0 _ _ y9) (mo 1 _ _ ya) (mo 2 _ _ yb) (mo 3 _ _ yc), ho, ob_eq]
  simp only
  rw [f3.fld (q := 1) (j := 2) (by decide) (by decide), f3.fld (q := 4) (j := 2) (by decide) (by decide), f3.fld (q := 0) (j := 11) (by decide) (by decide), f3.fld (q := 78) (j := 4) (by decide) (by decide), f2.fld (q := 1) (j := 2) (by decide) (by decide), f2.fld (q := 4) (j := 2) (by decide) (by decide), f2.fld (q := 0) (j := 11) (by decide) (by decide), f2.fld (q := 78) (j := 4) (by decide) (by decide)]
  rfl
