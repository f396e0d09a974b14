/-! histories, said, look, parts, plan, tell. Own text. -/
theorem Inv.okd {T : Nat} {t pt : List Int} {u : Int} {g : Gx} (h : Inv T t pt u g) (hT : T < 90000) (hp : (pln t).1 = -1) : okD (pD t) := by
  obtain ⟨g1, -, -, e3⟩ := fault_ok h (by omega)
  exact e3.okd hp
theorem Inv.u2 {T : Nat} {t pt : List Int} {u : Int} {g : Gx} (h : Inv T t pt u g) : g 92 7 = u ∧ 0 ≤ u ∧ u ≤ 1073741823 := by
  obtain ⟨a, b, c⟩ := h.2.2.2.1
  have e := h.2.2.2.2.1
  rw [e] at a b c
  exact ⟨a, b, c⟩
theorem okL_of {D : Ds} {u : Int} (h : okD D) (n : ¬ TM (D u)) : OkL (D u) := by
  have hl : (D u).length ≤ 30 := by rcases Nat.lt_or_ge 30 (D u).length with h | h; exact absurd (Or.inl h) n; exact h
  have hx : mxw (D u) ≤ 24 := by rcases Nat.lt_or_ge 24 (mxw (D u)) with h | h; exact absurd (Or.inr h) n; exact h
  exact ⟨good_pos (h u).1, hl, fun e he => ⟨Nat.le_trans (mxw_mem he) hx, (h u).2 e he⟩⟩
theorem HsC.wd {L : List Hy} {g : Gx} (h : HsC L L.length g) : WdC L g := ⟨h.1, fun k e he => h.2.1 k e (List.getElem?_eq_some_iff.mp he).1 he⟩
theorem HsR.wd {L : List Hy} {g : Gx} (h : HsR L L.length g) : WdR L g := ⟨h.1, fun k e he => by
  obtain ⟨a, b, -⟩ := h.2 k e (List.getElem?_eq_some_iff.mp he).1 he
  exact ⟨a, b⟩⟩
theorem with_inv {T : Nat} {t pt : List Int} {u : Int} {g : Gx} (h : Inv T t pt u g) (hT : T < 90000) : ((pln t).1 ≠ -1 ∧ ∃ g', Md_without g = some (-3, g') ∧ Inv T t pt u g') ∨ ((pln t).1 = -1 ∧ TM (pD t u) ∧ ∃ g', Md_without g = some (-4, g') ∧ Inv T t pt u g') ∨ ((pln t).1 = -1 ∧ ¬ TM (pD t u) ∧ ∃ g', Md_without g = some (0, g') ∧ Inv T t pt u g' ∧ HsR (pD t u) (pD t u).length g') := by
  obtain ⟨u1, u2⟩ := h.u2
  have fr : ∀ r g', Md_without g = some (r, g') → Inv T t pt u g' := fun r g' e => h.fr ((fr_Md_without g r g' e).cl (by decide))
  rcases with_ok h.txR u1 u2 (fun hp => h.okd hT hp) with ⟨a, g', b⟩ | ⟨a, b, g', c⟩ | ⟨a, b, g', c, d⟩
  · exact Or.inl ⟨a, g', b, fr _ _ b⟩
  · exact Or.inr (Or.inl ⟨a, b, g', c, fr _ _ c⟩)
  · exact Or.inr (Or.inr ⟨a, b, g', c, fr _ _ c, d⟩)
/-- with histories: what the class has, what the reference will have -/
def Both (T : Nat) (t pt : List Int) (u : Int) (g1 : Gx) : Prop := Inv T t pt u g1 ∧ Rdy t g1 ∧ Mdy t u g1 ∧ OkL (pD t u) ∧ Good (pD t u) ∧ ∀ G, Inv T t pt u G → ∃ g2, Md_without G = some (0, g2) ∧ Inv T t pt u g2 ∧ HsR (pD t u) (pD t u).length g2 ∧ FR SCR G g2
theorem hw_ok {T : Nat} {t pt : List Int} {u : Int} {g : Gx} (h : Inv T t pt u g) (hT : T < 80000) (k : Int) : (∃ r g1 g2, (r = -3 ∨ r = -4) ∧ Op_hindrance k g = some (r, g1) ∧ Inv (T + 2) t pt u g1 ∧ Md_without g1 = some (r, g2) ∧ Inv (T + 2) t pt u g2) ∨ ∃ g1, Op_hindrance k g = some (if ((pD t u).length : Int) ≤ k then -2 else 0, g1) ∧ Both (T + 2) t pt u g1 := by
  rcases hind_ok h (by omega) k with ⟨a, g1, b, c⟩ | ⟨a, a2, g1, b, c⟩ | ⟨a, a2, g1, b, c, d, e⟩
  · left
    rcases with_inv c (by omega) with ⟨x, g2, y, z⟩ | ⟨x, -⟩ | ⟨x, -⟩
    · exact ⟨-3, g1, g2, Or.inl rfl, b, c, y, z⟩
    · exact absurd x a
    · exact absurd x a
  · left
    rcases with_inv c (by omega) with ⟨x, -⟩ | ⟨x, x2, g2, y, z⟩ | ⟨x, x2, -⟩
    · exact absurd a x
    · exact ⟨-4, g1, g2, Or.inr rfl, b, c, y, z⟩
    · exact absurd a2 x2
  · right
    have okd := d.okd a
    refine ⟨g1, b, c, d, e, okL_of okd a2, (okd u).1, fun G hG => ?_⟩
    rcases with_inv hG (by omega) with ⟨x, -⟩ | ⟨x, x2, -⟩ | ⟨x, x2, g2, y, z, w⟩
    · exact absurd a x
    · exact absurd x2 a2
    · exact ⟨g2, y, z, w, (fr_Md_without G _ g2 y).cl (by decide)⟩
theorem lacks_of {G g2 : Gx} {r k : Int} (h : Md_without G = some (r, g2)) : Md_lacksOne k G = if r = 0 then (if g2 92 26 ≤ k then some (-2, g2) else some (0, g2)) else some (r, g2) := by
  unfold Md_lacksOne
  rw [h, ob_eq]
theorem hl_ok {T : Nat} {t pt : List Int} {u : Int} {g : Gx} (h : Inv T t pt u g) (hT : T < 80000) (k : Int) : (∃ r g1 g2, r ≠ 0 ∧ Op_hindrance k g = some (r, g1) ∧ Md_lacksOne k g1 = some (r, g2) ∧ Inv (T + 2) t pt u g2) ∨ ∃ g1, k < ((pD t u).length : Int) ∧ Op_hindrance k g = some (0, g1) ∧ Both (T + 2) t pt u g1 ∧ ∀ G, Inv (T + 2) t pt u G → ∃ g2, Md_lacksOne k G = some (0, g2) ∧ Inv (T + 2) t pt u g2 ∧ HsR (pD t u) (pD t u).length g2 ∧ FR SCR G g2 := by
  rcases hw_ok h hT k with ⟨r, g1, g2, a, b, c, d, e⟩ | ⟨g1, a, b⟩
  · left
    refine ⟨r, g1, g2, by omega, b, ?_, e⟩
    rw [lacks_of d, if_neg (by omega)]
  · have bb := b
    obtain ⟨b1, b2, b3, b4, b5, b6⟩ := b
    by_cases hk : ((pD t u).length : Int) ≤ k
    · left
      obtain ⟨g2, y, z, w, -⟩ := b6 g1 b1
      refine ⟨-2, g1, g2, by decide, by rw [a, if_pos hk], ?_, z⟩
      rw [lacks_of y, if_pos rfl, w.1, if_pos hk]
    · right
      refine ⟨g1, by omega, by rw [a, if_neg hk], bb, fun G hG => ?_⟩
      obtain ⟨g2, y, z, w, f⟩ := b6 G hG
      exact ⟨g2, by rw [lacks_of y, if_pos rfl, w.1, if_neg hk], z, w, f⟩
theorem st_histories {T : Nat} {t pt : List Int} {u : Int} {g : Gx} (h : Inv T t pt u g) (hT : T < 80000) : ∃ r g1 g2, Op_histories g = some (r, g1) ∧ Md_histories g1 = some (r, g2) ∧ Inv (T + 2) t pt u g2 := by
  unfold Op_histories Md_histories
  rcases hw_ok h hT 0 with ⟨r, g1, g2, a, b, c, d, e⟩ | ⟨g1, a, b1, b2, b3, b4, b5, b6⟩
  · refine ⟨r, g1, g2, ?_, ?_, e⟩
    · rw [b, ob_eq]; simp only; rw [if_neg (by omega)]
    · rw [d, ob_eq]; simp only; rw [if_neg (by omega)]
  · obtain ⟨g2, y, z, w, -⟩ := b6 g1 b1
    have hl := b4.1
    refine ⟨((pD t u).length : Int), g1, g2, ?_, ?_, z⟩
    · rw [a, ob_eq]
      simp only
      rw [if_neg (show ¬ ((pD t u).length : Int) ≤ 0 by omega), if_pos rfl]
      unfold Hi_size
      rw [b3.2.2.2.1]
    · rw [y, ob_eq]
      simp only
      rw [if_pos trivial, w.1]
theorem len_word {L : List Hy} {g : Gx} (hL : OkL L) (hw : WdC L g) {k : Nat} (hk : k < L.length) : Hi_length (k : Int) g = ((gl L k).2.length : Int) ∧ ∀ i : Nat, i < (gl L k).2.length → Hi_word (k : Int) (i : Int) g = (gl L k).2.getD i 0 := by
  have h30 := hL.2.1
  obtain ⟨a, b⟩ := hw.2 k _ (gl_at hk)
  have l24 := (hL.2.2 _ (List.mem_of_getElem? (gl_at hk))).1
  refine ⟨by unfold Hi_length; rw [rat_in (by omega) (by omega), Int.toNat_natCast]; exact a, fun i hi => ?_⟩
  unfold Hi_word
  rw [show wr (wr ((k : Int) * 24) + (i : Int)) = ((24 * k + i : Nat) : Int) by simp (disch := omega) only [wr_id]; omega, rat_in (by omega) (by omega), Int.toNat_natCast]
  rw [b i _ (List.getElem?_eq_getElem hi)]
  simp [List.getD_eq_getElem?_getD, hi]
theorem len_code {L : List Hy} {g : Gx} (hL : OkL L) (hw : WdR L g) {k : Nat} (hk : k < L.length) : g 110 k = ((gl L k).2.length : Int) ∧ ∀ i : Nat, i < (gl L k).2.length → Md_code (k : Int) (i : Int) g = some ((gl L k).2.getD i 0, g) := by
  have h30 := hL.2.1
  obtain ⟨a, b⟩ := hw.2 k _ (gl_at hk)
  have l24 := (hL.2.2 _ (List.mem_of_getElem? (gl_at hk))).1
  refine ⟨a, fun i hi => ?_⟩
  unfold Md_code
  rw [show wr (wr (24 * (k : Int)) + (i : Int)) = ((24 * k + i : Nat) : Int) by simp (disch := omega) only [wr_id]; omega, if_pos (by omega), Int.toNat_natCast]
  rw [b i _ (List.getElem?_eq_getElem hi)]
  simp [List.getD_eq_getElem?_getD, hi]
theorem st_said {T : Nat} {t pt : List Int} {u : Int} {g : Gx} (h : Inv T t pt u g) (hT : T < 80000) (a1 a2 : Int) : ∃ r g1 g2, Op_said a1 a2 g = some (r, g1) ∧ Md_said a1 a2 g1 = some (r, g2) ∧ Inv (T + 2) t pt u g2 := by
  unfold Op_said Md_said
  by_cases c1 : 0 ≤ a1 ∧ a1 ≤ 29
  · have n1 : ¬ Op_isHistory a1 = 0 := fun h9 => isHistory_iff.mp h9 c1
    have n2 : ¬ Md_isHistory a1 = 0 := fun h9 => mdHistory_iff.mp h9 c1
    simp only [if_neg n1, if_neg n2]
    by_cases c2 : -1 ≤ a2
    · simp only [if_pos c2]
      rcases hl_ok h hT a1 with ⟨r, g1, g2, a, b, c, d⟩ | ⟨g1, a, b, ⟨b1, b2, b3, b4, b5, b6⟩, c⟩
      · refine ⟨r, g1, g2, ?_, ?_, d⟩
        · rw [b, ob_eq]; simp only; rw [if_neg a]
        · rw [c, ob_eq]; simp only; rw [if_neg a]
      · obtain ⟨k, rfl⟩ := Int.eq_ofNat_of_zero_le c1.1
        have hk : k < (pD t u).length := by omega
        obtain ⟨g2, y, z, w, -⟩ := c g1 b1
        obtain ⟨l1, l2⟩ := len_word b4 b3.2.2.2.wd hk
        obtain ⟨m1, m2⟩ := len_code b4 w.wd hk
        rw [b, ob_eq]
        simp only [if_true]
        rw [l1]
        by_cases c3 : a2 = -1
        · refine ⟨((gl (pD t u) k).2.length : Int), g1, g2, ?_, ?_, z⟩
          · rw [if_neg (by omega)]
          · rw [y, ob_eq]
            simp only [if_true]
            rw [if_neg (by omega), if_pos (by omega), Int.toNat_natCast, m1]
        · obtain ⟨i, rfl⟩ := Int.eq_ofNat_of_zero_le (show 0 ≤ a2 by omega)
          by_cases c4 : (gl (pD t u) k).2.length ≤ i
          · refine ⟨-1, g1, g2, ?_, ?_, z⟩
            · rw [if_pos c3, if_pos (by omega)]
            · rw [y, ob_eq]
              simp only [if_true]
              rw [if_pos c3, if_pos (by omega), Int.toNat_natCast, m1, if_pos (by omega)]
          · refine ⟨(gl (pD t u) k).2.getD i 0, g1, g2, ?_, ?_, z⟩
            · rw [if_pos c3, if_neg (by omega), l2 i (by omega)]
            · rw [y, ob_eq]
              simp only [if_true]
              rw [if_pos c3, if_pos (by omega), Int.toNat_natCast, m1, if_neg (by omega), m2 i (by omega), ob_eq]
    · simp only [if_neg c2]
      exact ⟨-2, g, g, rfl, rfl, h.more (by omega)⟩
  · have n1 : Op_isHistory a1 = 0 := isHistory_iff.mpr c1
    have n2 : Md_isHistory a1 = 0 := mdHistory_iff.mpr c1
    simp only [if_pos n1, if_pos n2]
    exact ⟨-2, g, g, rfl, rfl, h.more (by omega)⟩
theorem st_parts {T : Nat} {t pt : List Int} {u : Int} {g : Gx} (h : Inv T t pt u g) (hT : T < 80000) (a1 a2 : Int) : ∃ r g1 g2, Op_parts a1 a2 g = some (r, g1) ∧ Md_parts a1 a2 g1 = some (r, g2) ∧ Inv (T + 2) t pt u g2 := by
  unfold Op_parts Md_parts
  by_cases c1 : 0 ≤ a1 ∧ a1 ≤ 29
  · have n1 : ¬ Op_isHistory a1 = 0 := fun h9 => isHistory_iff.mp h9 c1
    have n2 : ¬ Md_isHistory a1 = 0 := fun h9 => mdHistory_iff.mp h9 c1
    simp only [if_neg n1, if_neg n2]
    by_cases c2 : 0 ≤ a2 ∧ a2 ≤ 29
    · have n3 : ¬ Op_isHistory a2 = 0 := fun h9 => isHistory_iff.mp h9 c2
      have n4 : ¬ Md_isHistory a2 = 0 := fun h9 => mdHistory_iff.mp h9 c2
      simp only [if_neg n3, if_neg n4]
      by_cases c3 : a1 = a2
      · simp only [if_neg (show ¬ ¬ a1 = a2 from fun h9 => h9 c3)]
        exact ⟨-2, g, g, rfl, rfl, h.more (by omega)⟩
      · simp only [if_pos c3, lett_eq]
        have em : (if a1 ≤ a2 then a2 else a1) = imax a1 a2 := by
          unfold imax
          split <;> split <;> omega
        simp only [em]
        have hm1 : a1 ≤ imax a1 a2 ∧ a2 ≤ imax a1 a2 := by unfold imax; split <;> omega
        rcases hl_ok h hT (imax a1 a2) with ⟨r, g1, g2, a, b, c, d⟩ | ⟨g1, a, b, ⟨b1, b2, b3, b4, b5, b6⟩, c⟩
        · refine ⟨r, g1, g2, ?_, ?_, d⟩
          · rw [b, ob_eq]; simp only; rw [if_neg a]
          · rw [c, ob_eq]; simp only; rw [if_neg a]
        · obtain ⟨x, rfl⟩ := Int.eq_ofNat_of_zero_le c1.1
          obtain ⟨y, rfl⟩ := Int.eq_ofNat_of_zero_le c2.1
          obtain ⟨p1, q, tt, p2⟩ := parter_ok b3.2.2.2 b4.2.1 (a := x) (b := y) (by omega) (by omega) (by omega)
          obtain ⟨g2, z1, z2, z3, z4⟩ := c g1 b1
          have p3 := parting_ok z3 b5 b4.2.1 (a := x) (b := y) (by omega) (by omega) p2
          refine ⟨ptf (pD t u) x y, g1, g2, ?_, ?_, z2⟩
          · rw [b, ob_eq]
            simp only [if_true]
            rw [p1, ob_eq]
          · rw [z1, ob_eq]
            simp only [if_true]
            rw [p3, ob_eq]
    · have n3 : Op_isHistory a2 = 0 := isHistory_iff.mpr c2
      have n4 : Md_isHistory a2 = 0 := mdHistory_iff.mpr c2
      simp only [if_pos n3, if_pos n4]
      exact ⟨-2, g, g, rfl, rfl, h.more (by omega)⟩
  · have n1 : Op_isHistory a1 = 0 := isHistory_iff.mpr c1
    have n2 : Md_isHistory a1 = 0 := mdHistory_iff.mpr c1
    simp only [if_pos n1, if_pos n2]
    exact ⟨-2, g, g, rfl, rfl, h.more (by omega)⟩
theorem look_c {L : List Hy} {g : Gx} {t : Nat} (hL : OkL L) (hk : LkC t L g) {k : Nat} (hk2 : k < L.length) : Lk_length (k : Int) g = ((lkk L t k).length : Int) ∧ ∀ i : Nat, i < (lkk L t k).length → Lk_act (k : Int) (i : Int) g = (lkk L t k).getD i 0 := by
  have h30 := hL.2.1
  obtain ⟨a, b⟩ := hk k _ (gl_at hk2)
  have l24 := (hL.2.2 _ (List.mem_of_getElem? (gl_at hk2))).1
  have ll := lk_len t (gl L k).2
  refine ⟨by unfold Lk_length; rw [rat_in (by omega) (by omega), Int.toNat_natCast]; exact a, fun i hi => ?_⟩
  have hi : i < (lk t (gl L k).2).length := hi
  unfold Lk_act lkk
  rw [show wr (wr ((k : Int) * 24) + (i : Int)) = ((24 * k + i : Nat) : Int) by simp (disch := omega) only [wr_id]; omega, rat_in (by omega) (by omega), Int.toNat_natCast]
  rw [b i _ (List.getElem?_eq_getElem hi)]
  simp [List.getD_eq_getElem?_getD, hi]
theorem look_r {L : List Hy} {g : Gx} {t : Nat} (hL : OkL L) (hk : LkR L g) (ht : t < 6) {k : Nat} (hk2 : k < L.length) : g 118 (6 * k + t) = ((lkk L t k).length : Int) ∧ ∀ i : Nat, Md_lookAt (t : Int) (k : Int) (i : Int) g = some ((lkk L t k).getD i (-1), g) := by
  have h30 := hL.2.1
  obtain ⟨a, b⟩ := hk k _ (gl_at hk2) t ht
  have l24 := (hL.2.2 _ (List.mem_of_getElem? (gl_at hk2))).1
  have ll := lk_len t (gl L k).2
  refine ⟨a, fun i => ?_⟩
  unfold Md_lookAt lkk
  rw [show wr (wr (6 * (k : Int)) + (t : Int)) = ((6 * k + t : Nat) : Int) by simp (disch := omega) only [wr_id]; omega, if_pos (by omega), Int.toNat_natCast, a]
  by_cases hi : i < (lk t (gl L k).2).length
  · rw [if_neg (by omega), show wr (wr (24 * ((6 * k + t : Nat) : Int)) + (i : Int)) = ((24 * (6 * k + t) + i : Nat) : Int) by simp (disch := omega) only [wr_id]; omega, if_pos (by omega), Int.toNat_natCast]
    rw [b i _ (List.getElem?_eq_getElem hi)]
    simp [List.getD_eq_getElem?_getD, hi]
  · rw [if_pos (by omega)]
    simp [List.getD_eq_getElem?_getD, List.getElem?_eq_none (Nat.le_of_not_lt hi)]
theorem st_look {T : Nat} {t pt : List Int} {u : Int} {g : Gx} (h : Inv T t pt u g) (hT : T < 80000) (a1 a2 a3 : Int) : ∃ r g1 g2, Op_look a1 a2 a3 g = some (r, g1) ∧ Md_look a1 a2 a3 g1 = some (r, g2) ∧ Inv (T + 2) t pt u g2 := by
  unfold Op_look Md_look
  by_cases c0 : 0 ≤ a1 ∧ a1 ≤ 5
  · have m1 : ¬ Op_isTalker a1 = 0 := fun h9 => isTalker_iff.mp h9 c0
    have m2 : ¬ Md_isOne a1 = 0 := fun h9 => mdOne_iff.mp h9 c0
    simp only [if_neg m1, if_neg m2]
    by_cases c1 : 0 ≤ a2 ∧ a2 ≤ 29
    · have n1 : ¬ Op_isHistory a2 = 0 := fun h9 => isHistory_iff.mp h9 c1
      have n2 : ¬ Md_isHistory a2 = 0 := fun h9 => mdHistory_iff.mp h9 c1
      simp only [if_neg n1, if_neg n2]
      by_cases c2 : -1 ≤ a3
      · simp only [if_pos c2]
        rcases hl_ok h hT a2 with ⟨r, g1, g2, a, b, c, d⟩ | ⟨g1, a, b, ⟨b1, b2, b3, b4, b5, b6⟩, c⟩
        · refine ⟨r, g1, g2, ?_, ?_, d⟩
          · rw [b, ob_eq]; simp only; rw [if_neg a]
          · rw [c, ob_eq]; simp only; rw [if_neg a]
        · obtain ⟨k, rfl⟩ := Int.eq_ofNat_of_zero_le c1.1
          obtain ⟨w, rfl⟩ := Int.eq_ofNat_of_zero_le c0.1
          have hk : k < (pD t u).length := by omega
          obtain ⟨g3, e1, e2⟩ := load_ok b4 b3.2.2.2.wd (t := w) (by omega)
          have fl := fr_Lk_load (w : Int) g1 g3 e1
          have i3 : Inv (T + 2) t pt u g3 := b1.fr (fl.cl (by decide))
          obtain ⟨g4, z1, z2, z3, z4⟩ := c g3 i3
          obtain ⟨g5, f1, f2⟩ := find_ok b4 z3.wd
          have ff := fr_Md_findLooks g4 g5 f1
          have i5 : Inv (T + 2) t pt u g5 := z2.fr (ff.cl (by decide))
          obtain ⟨l1, l2⟩ := look_c b4 e2 hk
          obtain ⟨p1, p2⟩ := look_r b4 f2 (t := w) (by omega) hk
          rw [b, ob_eq]
          simp only [if_true]
          rw [e1, ob_eq, l1]
          have ix : wr (wr (6 * (k : Int)) + (w : Int)) = ((6 * k + w : Nat) : Int) := by simp (disch := omega) only [wr_id]; omega
          by_cases c3 : a3 = -1
          · refine ⟨((lkk (pD t u) w k).length : Int), g3, g5, ?_, ?_, i5⟩
            · rw [if_neg (by omega)]
            · rw [z1, ob_eq]
              simp only [if_true]
              rw [f1, ob_eq, if_neg (by omega), ix, if_pos (by omega), Int.toNat_natCast, p1]
          · obtain ⟨i, rfl⟩ := Int.eq_ofNat_of_zero_le (show 0 ≤ a3 by omega)
            refine ⟨(lkk (pD t u) w k).getD i (-1), g3, g5, ?_, ?_, i5⟩
            · rw [if_pos c3]
              by_cases c4 : (lkk (pD t u) w k).length ≤ i
              · rw [if_pos (by omega)]
                simp [List.getD_eq_getElem?_getD, List.getElem?_eq_none c4]
              · rw [if_neg (by omega), l2 i (by omega)]
                simp [List.getD_eq_getElem?_getD, List.getElem?_eq_getElem (Nat.lt_of_not_le c4)]
            · rw [z1, ob_eq]
              simp only [if_true]
              rw [f1, ob_eq, if_pos c3, p2 i, ob_eq]
      · simp only [if_neg c2]
        exact ⟨-2, g, g, rfl, rfl, h.more (by omega)⟩
    · have n1 : Op_isHistory a2 = 0 := isHistory_iff.mpr c1
      have n2 : Md_isHistory a2 = 0 := mdHistory_iff.mpr c1
      simp only [if_pos n1, if_pos n2]
      exact ⟨-2, g, g, rfl, rfl, h.more (by omega)⟩
  · have m1 : Op_isTalker a1 = 0 := isTalker_iff.mpr c0
    have m2 : Md_isOne a1 = 0 := mdOne_iff.mpr c0
    simp only [if_pos m1, if_pos m2]
    exact ⟨-2, g, g, rfl, rfl, h.more (by omega)⟩
theorem st_plan {T : Nat} {t pt : List Int} {u : Int} {g : Gx} (h : Inv T t pt u g) (hT : T < 80000) (a1 : Int) : ∃ r g1 g2, Op_plan a1 g = some (r, g1) ∧ Md_plan a1 g1 = some (r, g2) ∧ Inv (T + 2) t pt u g2 := by
  unfold Op_plan Md_plan
  by_cases c0 : 0 ≤ a1 ∧ a1 ≤ 2
  · have m2 : ¬ Md_in a1 0 2 = 0 := fun h9 => in_iff.mp h9 c0
    simp only [if_neg (show ¬ a1 < 0 by omega), if_pos c0.2, if_pos m2]
    obtain ⟨g1, e1, e2, e3⟩ := fault_ok h (by omega)
    obtain ⟨g2, f1, f2⟩ := md_reads e2.txR
    have i2 : Inv (T + 2) t pt u g2 := (e2.fr ((fr_Md_reads g1 _ g2 f1).cl (by decide))).more (by omega)
    rw [e1, ob_eq]
    simp only
    by_cases hp : (pln t).1 = -1
    · obtain ⟨x1, x2, x3, -⟩ := e3.2.2 hp
      obtain ⟨y1, y2, y3, -⟩ := f2 hp
      rw [if_pos hp]
      unfold Pr_sayings Pr_used St_choices
      rw [x1, x2, x3]
      by_cases c1 : a1 = 0
      · refine ⟨((pln t).2.2.2.2.2.1.length : Int), g1, g2, by rw [if_neg (by omega)], ?_, i2⟩
        rw [f1, ob_eq]
        simp only
        rw [if_pos hp, if_neg (by omega), y3]
      · by_cases c2 : a1 = 1
        · refine ⟨((pln t).2.2.2.2.2.2.1 : Int), g1, g2, by rw [if_pos c1, if_neg (by omega)], ?_, i2⟩
          rw [f1, ob_eq]
          simp only
          rw [if_pos hp, if_pos c1, if_neg (by omega), y1]
        · refine ⟨((pln t).2.2.2.2.2.2.2 : Int), g1, g2, by rw [if_pos c1, if_pos c2], ?_, i2⟩
          rw [f1, ob_eq]
          simp only
          rw [if_pos hp, if_pos c1, if_pos c2, y2]
    · rw [if_neg hp]
      refine ⟨-3, g1, g2, rfl, ?_, i2⟩
      rw [f1, ob_eq]
      simp only
      rw [if_neg hp]
  · have m2 : Md_in a1 0 2 = 0 := in_iff.mpr c0
    simp only [if_neg (show ¬ ¬ Md_in a1 0 2 = 0 from fun h9 => h9 m2)]
    refine ⟨-2, g, g, ?_, rfl, h.more (by omega)⟩
    by_cases c1 : a1 < 0
    · rw [if_pos c1]
    · rw [if_neg c1, if_neg (by omega)]
