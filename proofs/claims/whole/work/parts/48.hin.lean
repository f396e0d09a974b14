/-! Whether there are histories: hindrance, without. Own text. -/
def Bas (t pt : List Int) (u : Int) (g : Gx) : Prop := ITx g ∧ TxC t g ∧ TxP pt g ∧ ITl g ∧ g 0 11 = u ∧ ISh g ∧ ILg g
def NBS : List Nat := SCR ++ [9, 11, 13, 15, 17, 19, 35, 37, 43, 45, 57, 71, 73, 75, 77, 1458, 1459, 1460, 2798, 2799, 2800, 2801, 3121, 3125, 3126, 3127, 3128, 4525, 4526, 4527, 5423, 5424, 5425]
theorem Bas.fr {t pt : List Int} {u : Int} {g g' : Gx} (h : Bas t pt u g) (f : FR NBS g g') : Bas t pt u g' := by
  obtain ⟨h1, h2, h3, h4, h5, h6, h7⟩ := h
  have cl : ∀ q, q ∉ NBS → ob q = false → g' q = g q := fun q a b => f.cell a b
  have e1_1 : g' 1 1 = g 1 1 := f.fld (by decide) (by decide)
  have e1_2 : g' 1 2 = g 1 2 := f.fld (by decide) (by decide)
  have e4_1 : g' 4 1 = g 4 1 := f.fld (by decide) (by decide)
  have e4_2 : g' 4 2 = g 4 2 := f.fld (by decide) (by decide)
  have e0_11 : g' 0 11 = g 0 11 := f.fld (by decide) (by decide)
  have e0_12 : g' 0 12 = g 0 12 := f.fld (by decide) (by decide)
  have e78_4 : g' 78 4 = g 78 4 := f.fld (by decide) (by decide)
  have e92_4 : g' 92 4 = g 92 4 := f.fld (by decide) (by decide)
  have e92_7 : g' 92 7 = g 92 7 := f.fld (by decide) (by decide)
  have e92_48 : g' 92 48 = g 92 48 := f.fld (by decide) (by decide)
  refine ⟨?_, h2.of e1_2 (cl 3 (by decide) (by decide)), ?_, ?_, by rw [e0_11]; exact h5, h6.of e0_12 e92_4 (cl 93 (by decide) (by decide)) (cl 89 (by decide) (by decide)) (cl 94 (by decide) (by decide)) (cl 91 (by decide) (by decide)) (cl 95 (by decide) (by decide)) (cl 87 (by decide) (by decide)), ?_⟩
  · unfold ITx
    rw [e1_1, e1_2, e4_1, e4_2, cl 98 (by decide) (by decide), cl 97 (by decide) (by decide), cl 3 (by decide) (by decide), cl 6 (by decide) (by decide)]
    exact h1
  · unfold TxP
    rw [e4_2, cl 6 (by decide) (by decide)]; exact h3
  · unfold ITl
    rw [e92_7, e0_11]; exact h4
  · unfold ILg
    rw [e92_48, e78_4, cl 127 (by decide) (by decide), cl 80 (by decide) (by decide)]; exact h7
theorem Inv.bas {T : Nat} {t pt : List Int} {u : Int} {g : Gx} (h : Inv T t pt u g) : Bas t pt u g := ⟨h.1, h.2.1, h.2.2.1, h.2.2.2.1, h.2.2.2.2.1, h.2.2.2.2.2.1, h.2.2.2.2.2.2.1⟩
theorem Bas.inv {T : Nat} {t pt t0 : List Int} {u : Int} {g : Gx} (h : Bas t pt u g) (c : Cnt T g) (k : Cch t pt t0 g) : Inv T t pt u g := ⟨h.1, h.2.1, h.2.2.1, h.2.2.2.1, h.2.2.2.2.1, h.2.2.2.2.2.1, h.2.2.2.2.2.2, c, t0, k⟩
/-- the class has read the text as it is -/
def Rdy (t : List Int) (g : Gx) : Prop := g 28 9 = g 1 3 ∧ PdC t g
theorem fault_ok {T : Nat} {t pt : List Int} {u : Int} {g : Gx} (h : Inv T t pt u g) (hT : T < 100000) : ∃ g', Pr_firstFault g = some ((pln t).1, g') ∧ Inv (T + 1) t pt u g' ∧ Rdy t g' := by
  have hb := h.bas
  obtain ⟨-, hx, -, -, -, -, -, hc, t0, k1, k2, k3, k4, k5⟩ := id h
  by_cases hch : g 28 9 = g 1 3
  · have e := k1 hch
    subst e
    have hp := k2 (by have := hc.1; omega)
    refine ⟨g, ?_, h.more (by omega), hch, hp⟩
    unfold Pr_firstFault Tx_changes1
    rw [if_neg (by omega), hp.1]
  · obtain ⟨g', e1, e2, e3, e4⟩ := first_new hx hch
    have f := fr_Pr_firstFault g _ g' e1
    obtain ⟨a1, a2, a3, a4, a5, a6, a7, a8, a9⟩ := id hc
    have c1 : g' 1 3 = g 1 3 := f.fld (by decide) (by decide)
    have c43 : g' 4 3 = g 4 3 := f.fld (by decide) (by decide)
    have c33 : g' 33 13 = g 33 13 := f.fld (by decide) (by decide)
    have c16 : g' 33 16 = g 33 16 := f.fld (by decide) (by decide)
    have c55 : g' 55 5 = g 55 5 := f.fld (by decide) (by decide)
    have c56 : g' 55 6 = g 55 6 := f.fld (by decide) (by decide)
    have c69 : g' 69 9 = g 69 9 := f.fld (by decide) (by decide)
    have v : g' 7 12 = g 7 12 + 1 := by rw [e4, wr_id (by omega) (by omega)]
    refine ⟨g', e1, (hb.fr (f.cl (by decide))).inv (t0 := t) ?_ ⟨fun _ => rfl, fun _ => e2, fun h9 => ?_, fun h9 => ?_, fun h9 => ?_⟩, by rw [e3, c1], e2⟩
    · unfold Cnt
      rw [c1, c43, c33, c16, c55, c56, c69, v, e3]
      omega
    · rw [c33, v] at h9; omega
    · rw [c56, v] at h9; omega
    · rw [c69, c43] at h9
      exact (k5 h9).of (f.fld (by decide) (by decide)) (f.fld (by decide) (by decide)) (f.cell (by decide) (by decide)) (f.cell (by decide) (by decide)) (f.cell (by decide) (by decide)) (f.cell (by decide) (by decide))
/-- the class has the histories of the text with tellings w, and they are not too much -/
def Mdy (t : List Int) (w : Int) (g : Gx) : Prop := g 33 13 = g 7 12 ∧ g 33 14 = w ∧ g 33 15 = 0 ∧ HsC (pD t w) (pD t w).length g
theorem make_ok {T : Nat} {t pt : List Int} {u w : Int} {g : Gx} (h : Inv T t pt u g) (hT : T < 100000) (hr : Rdy t g) (hp : (pln t).1 = -1) (hw : 0 ≤ w ∧ w ≤ 1073741823) : ∃ (r : Int) (g' : Gx), Hi_make w g = some (r, g') ∧ (r = 0 ∨ r = 1) ∧ (r = 0 ↔ TM (pD t w)) ∧ Rdy t g' ∧ (r = 1 → Mdy t w g') ∧ (g' 33 16 ≤ g 33 16 + 1) ∧ (∀ T', T ≤ T' → g 33 16 + 1 ≤ 100 * (T' : Int) → T' < 100000 → Inv T' t pt u g') := by
  have hb := h.bas
  obtain ⟨-, hx, -, -, -, -, -, hc, t0, k1, k2, k3, k4, k5⟩ := id h
  obtain ⟨r1, r2⟩ := id hr
  have e := k1 r1
  subst e
  obtain ⟨a1, a2, a3, a4, a5, a6, a7, a8, a9⟩ := id hc
  obtain ⟨-, -, -, -, z, b5, b6, b7⟩ := r2.2 hp
  by_cases hch : g 33 13 = g 7 12 ∧ g 33 14 = w
  · obtain ⟨-, d1, d2, d3⟩ := k3 hch.1
    have em : Hi_make w g = if ¬ (g 33 15) = 0 then some (0, g) else some (1, g) := by
      unfold Hi_make St_version
      rw [if_neg (by omega), if_neg (by omega)]
    rw [em]
    have hI : ∀ T', T ≤ T' → g 33 16 + 1 ≤ 100 * (T' : Int) → T' < 100000 → Inv T' t0 pt u g := fun T' hT' _ _ => h.more hT'
    rcases d3 with ⟨d3, d4⟩ | ⟨d3, d4, d5, d6⟩
    · rw [if_pos (by omega)]
      refine ⟨0, g, rfl, Or.inl rfl, ⟨fun _ => by rw [← hch.2]; exact d4, fun _ => rfl⟩, hr, fun h9 => absurd h9 (by decide), by omega, hI⟩
    · rw [if_neg (by omega)]
      refine ⟨1, g, rfl, Or.inr rfl, ⟨fun h9 => absurd h9 (by decide), fun h9 => absurd (by rw [hch.2]; exact h9) d4⟩, hr, fun _ => ⟨hch.1, hch.2, d3, by rw [← hch.2]; exact d5⟩, by omega, hI⟩
  · obtain ⟨r, g', e1, e2, e3, e4, e5, e6, e7, e8⟩ := make_new hw b5 b6 b7 hch
    have f := fr_Hi_make w g r g' e1
    have c1 : g' 1 3 = g 1 3 := f.fld (by decide) (by decide)
    have c43 : g' 4 3 = g 4 3 := f.fld (by decide) (by decide)
    have c289 : g' 28 9 = g 28 9 := f.fld (by decide) (by decide)
    have c712 : g' 7 12 = g 7 12 := f.fld (by decide) (by decide)
    have c55 : g' 55 5 = g 55 5 := f.fld (by decide) (by decide)
    have c56 : g' 55 6 = g 55 6 := f.fld (by decide) (by decide)
    have c57 : g' 55 7 = g 55 7 := f.fld (by decide) (by decide)
    have c69 : g' 69 9 = g 69 9 := f.fld (by decide) (by decide)
    have m1 : g' 33 16 = g 33 16 + 1 := by rw [e7, wr_id (by omega) (by omega)]
    have ag : AGc g g' := ⟨f.fld (by decide) (by decide), f.cell (by decide) (by decide), f.cell (by decide) (by decide), f.cell (by decide) (by decide), f.cell (by decide) (by decide), f.cell (by decide) (by decide), f.cell (by decide) (by decide)⟩
    have pd' : PdC t0 g' := r2.of (f.fld (by decide) (by decide)) (f.fld (by decide) (by decide)) (f.fld (by decide) (by decide)) (f.fld (by decide) (by decide)) ag
    refine ⟨r, g', e1, e2, e3, ⟨by rw [c289, c1]; exact r1, pd'⟩, fun h9 => ⟨by rw [e4, c712], e5, by rw [e6, h9]; decide, e8 h9⟩, by omega, fun T' hT' hm hT2 => ?_⟩
    refine (hb.fr (f.cl (by decide))).inv (t0 := t0) ?_ ⟨fun _ => rfl, fun _ => pd', fun h9 => ⟨by rw [c289]; have := hc.1; omega, hp, by rw [e5]; exact hw, ?_⟩, fun h9 => ?_, fun h9 => ?_⟩
    · unfold Cnt
      rw [c1, c43, c289, c712, c55, c56, c69, m1, e4]
      omega
    · rw [e5]
      rcases e2 with h8 | h8
      · exact Or.inl ⟨by rw [e6, h8]; decide, e3.mp h8⟩
      · refine Or.inr ⟨by rw [e6, h8]; decide, fun h7 => ?_, e8 h8, fun h7 => ?_⟩
        · have := e3.mpr h7; omega
        · rw [c55, m1] at h7; omega
    · rw [c56, c712] at h9
      rw [c57]; exact k4 h9
    · rw [c69, c43] at h9
      exact (k5 h9).of (f.fld (by decide) (by decide)) (f.fld (by decide) (by decide)) (f.cell (by decide) (by decide)) (f.cell (by decide) (by decide)) (f.cell (by decide) (by decide)) (f.cell (by decide) (by decide))
theorem hind_ok {T : Nat} {t pt : List Int} {u : Int} {g : Gx} (h : Inv T t pt u g) (hT : T < 90000) (hh : Int) : ((pln t).1 ≠ -1 ∧ ∃ g', Op_hindrance hh g = some (-3, g') ∧ Inv (T + 2) t pt u g') ∨ ((pln t).1 = -1 ∧ TM (pD t u) ∧ ∃ g', Op_hindrance hh g = some (-4, g') ∧ Inv (T + 2) t pt u g') ∨ ((pln t).1 = -1 ∧ ¬ TM (pD t u) ∧ ∃ g', Op_hindrance hh g = some (if ((pD t u).length : Int) ≤ hh then -2 else 0, g') ∧ Inv (T + 2) t pt u g' ∧ Rdy t g' ∧ Mdy t u g') := by
  unfold Op_hindrance
  obtain ⟨g1, e1, e2, e3⟩ := fault_ok h (by omega)
  rw [e1, ob_eq]
  simp only
  by_cases hp : (pln t).1 = -1
  · rw [if_pos hp]
    have hu : g1 0 11 = u := e2.2.2.2.2.1
    have hu2 : 0 ≤ u ∧ u ≤ 1073741823 := by
      have := e2.2.2.2.1
      obtain ⟨-, b, c⟩ := this
      rw [hu] at b c; exact ⟨b, c⟩
    rw [hu]
    obtain ⟨r, g2, f1, f2, f3, f4, f5, f6, f7⟩ := make_ok e2 (by omega) e3 hp hu2
    have hI := f7 (T + 2) (by omega) (by have := e2.2.2.2.2.2.2.2.1; unfold Cnt at this; omega) (by omega)
    rw [f1, ob_eq]
    simp only
    rcases f2 with h8 | h8
    · subst h8
      rw [if_neg (by decide)]
      exact Or.inr (Or.inl ⟨hp, f3.mp rfl, g2, rfl, hI⟩)
    · subst h8
      rw [if_pos (by decide)]
      have hm := f5 rfl
      refine Or.inr (Or.inr ⟨hp, fun h9 => absurd (f3.mpr h9) (by decide), g2, ?_, hI, f4, hm⟩)
      unfold Hi_size
      rw [hm.2.2.2.1]
      split <;> rfl
  · rw [if_neg hp]
    exact Or.inl ⟨hp, g1, rfl, e2.more (by omega)⟩
/-- the reference has the histories of the text with tellings w -/
def MdR (t : List Int) (w : Int) (g : Gx) : Prop := HsR (pD t w) (pD t w).length g
theorem with_ok {t : List Int} {u : Int} {g : Gx} (hx : TxR t g) (hu : g 92 7 = u) (hu2 : 0 ≤ u ∧ u ≤ 1073741823) (hD : (pln t).1 = -1 → okD (pD t)) : ((pln t).1 ≠ -1 ∧ ∃ g', Md_without g = some (-3, g')) ∨ ((pln t).1 = -1 ∧ TM (pD t u) ∧ ∃ g', Md_without g = some (-4, g')) ∨ ((pln t).1 = -1 ∧ ¬ TM (pD t u) ∧ ∃ g', Md_without g = some (0, g') ∧ MdR t u g') := by
  unfold Md_without
  obtain ⟨g1, e1, e2⟩ := md_reads hx
  have f := fr_Md_reads g _ g1 e1
  rw [e1, ob_eq]
  simp only
  by_cases hp : (pln t).1 = -1
  · rw [if_neg (by omega), f.fld (by decide) (by decide), hu]
    obtain ⟨-, -, -, z, z1, z2, z3, z4⟩ := e2 hp
    rcases unfolds_ok hu2 z1 z2 z3 (hD hp u).1 with ⟨t1, g2, t2⟩ | ⟨t1, g2, t2, t3, t4⟩
    · rw [t2, ob_eq]
      exact Or.inr (Or.inl ⟨hp, t1, g2, rfl⟩)
    · rw [t2, ob_eq]
      exact Or.inr (Or.inr ⟨hp, t1, g2, rfl, t4⟩)
  · rw [if_pos hp]
    exact Or.inl ⟨hp, g1, rfl⟩
theorem Rdy.okd {t : List Int} {g : Gx} (h : Rdy t g) (hp : (pln t).1 = -1) : okD (pD t) := by
  obtain ⟨-, -, -, -, z, -, -, b7⟩ := h.2.2 hp
  exact b7.ok
