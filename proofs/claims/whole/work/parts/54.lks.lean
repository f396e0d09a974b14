/-! looks: how many unlike. Own text. -/
abbrev isF (L : List Hy) (t m h : Nat) : Prop := ∀ k, k < h → m.testBit k = true → lkk L t k ≠ lkk L t h
def unl (L : List Hy) (t m : Nat) : Nat → Nat
  | 0 => 0
  | k + 1 => unl L t m k + if m.testBit k = true ∧ isF L t m k then 1 else 0
theorem unl_le (L : List Hy) (t m k : Nat) : unl L t m k ≤ k := by
  induction k with
  | zero => exact Nat.le_refl _
  | succ k ih => rw [unl]; split <;> omega
theorem isFirst_ok {L : List Hy} {g : Gx} {t m : Nat} (hL : OkL L) (hk : LkC t L g) (hm : m < 2147483648) {h : Nat} (hh : h < L.length) : Lk_isFirst (h : Int) (m : Int) g = some (if isF L t m h then 1 else 0, g) := by
  have h30 := hL.2.1
  unfold Lk_isFirst
  have lp : ∀ (k i n : Nat), i + k = h → k < n → (∀ j, j < i → m.testBit j = true → lkk L t j ≠ lkk L t h) → Lk_isFirst_l2 (h : Int) (m : Int) (fun g2 => some (1, g2)) n (i : Int) g = some (if isF L t m h then 1 else 0, g) := by
    intro k
    induction k with
    | zero =>
      intro i n hi hn hall
      obtain ⟨n, rfl⟩ : ∃ q, n = q + 1 := ⟨n - 1, by omega⟩
      rw [Lk_isFirst_l2, if_pos (by omega), if_pos (show isF L t m h from fun j hj => hall j (by omega))]
    | succ k ih =>
      intro i n hi hn hall
      obtain ⟨n, rfl⟩ : ∃ q, n = q + 1 := ⟨n - 1, by omega⟩
      rw [Lk_isFirst_l2, if_neg (by omega), has_nn hm (by omega), wr_id (by omega) (by omega), show (i : Int) + 1 = ((i + 1 : Nat) : Int) by omega]
      by_cases c1 : m.testBit i = true
      · rw [if_pos c1, if_neg (by decide), common_ok hL hk (a := i) (by omega) hh, ob_eq]
        simp only
        by_cases c2 : lkk L t i = lkk L t h
        · rw [if_neg (fun h9 => (bothEnd_ok hL hk (a := i) (by omega) hh).mp h9 c2), if_neg (fun h9 : isF L t m h => h9 i (by omega) c1 c2)]
        · rw [if_pos ((bothEnd_ok hL hk (a := i) (by omega) hh).mpr c2)]
          exact ih (i + 1) n (by omega) (by omega) (fun j hj hb => by
            by_cases h9 : j = i
            · rw [h9]; exact c2
            · exact hall j (by omega) hb)
      · rw [if_neg c1, if_pos rfl]
        exact ih (i + 1) n (by omega) (by omega) (fun j hj hb => by
          by_cases h9 : j = i
          · rw [h9] at hb; exact absurd hb c1
          · exact hall j (by omega) hb)
  exact lp h 0 fu (by omega) (Nat.lt_of_le_of_lt (show h ≤ 30 by omega) (fu_big _ (by decide))) (fun j hj => by omega)
theorem unlC_ok {L : List Hy} {g : Gx} {t m : Nat} (hL : OkL L) (hk : LkC t L g) (hz : g 33 9 = (L.length : Int)) (hm : m < 2147483648) : Lk_unlike (m : Int) g = some ((unl L t m L.length : Int), g) := by
  have h30 := hL.2.1
  unfold Lk_unlike
  have lp : ∀ (k i n : Nat), i + k = L.length → k < n → Lk_unlike_l4 (m : Int) (fun x2 g3 => some (x2, g3)) n (unl L t m i : Int) (i : Int) g = some ((unl L t m L.length : Int), g) := by
    intro k
    induction k with
    | zero =>
      intro i n hi hn
      obtain ⟨n, rfl⟩ : ∃ q, n = q + 1 := ⟨n - 1, by omega⟩
      rw [Lk_unlike_l4, show Hi_size g = (L.length : Int) from hz, if_pos (by omega), show i = L.length by omega]
    | succ k ih =>
      intro i n hi hn
      obtain ⟨n, rfl⟩ : ∃ q, n = q + 1 := ⟨n - 1, by omega⟩
      have ul := unl_le L t m i
      have nx := ih (i + 1) n (by omega) (by omega)
      rw [unl] at nx
      rw [Lk_unlike_l4, show Hi_size g = (L.length : Int) from hz, if_neg (by omega), has_nn hm (by omega), wr_id (show -2147483648 ≤ (i : Int) + 1 by omega) (by omega), wr_id (show -2147483648 ≤ (unl L t m i : Int) + 1 by omega) (by omega), show (i : Int) + 1 = ((i + 1 : Nat) : Int) by omega]
      by_cases c1 : m.testBit i = true
      · rw [if_pos c1, if_neg (by decide), isFirst_ok hL hk hm (by omega), ob_eq]
        simp only
        by_cases c2 : isF L t m i
        · rw [if_pos c2, if_neg (by decide)]
          rw [if_pos ⟨c1, c2⟩] at nx
          exact nx
        · rw [if_neg c2, if_pos rfl]
          rw [if_neg (fun h9 => c2 h9.2)] at nx
          exact nx
      · rw [if_neg c1, if_pos rfl]
        rw [if_neg (fun h9 => c1 h9.1)] at nx
        exact nx
  exact lp L.length 0 fu (by omega) (Nat.lt_of_le_of_lt h30 (fu_big _ (by decide)))
theorem lksR_0 {t m h : Nat} (h30 : h < 30) (c3 : Int) (K : Int → Gx → Option (Int × Gx)) (g : Gx) : ∀ (k i n : Nat), i + k = h → k < n → Md_looksOf_l34 (t : Int) (m : Int) c3 (h : Int) K n 0 (i : Int) g = K 0 g := by
  intro k
  induction k with
  | zero =>
    intro i n hi hn
    obtain ⟨n, rfl⟩ : ∃ q, n = q + 1 := ⟨n - 1, by omega⟩
    rw [Md_looksOf_l34, if_pos (by omega)]
  | succ k ih =>
    intro i n hi hn
    obtain ⟨n, rfl⟩ : ∃ q, n = q + 1 := ⟨n - 1, by omega⟩
    rw [Md_looksOf_l34, if_neg (by omega), if_pos rfl, wr_id (by omega) (by omega), show (i : Int) + 1 = ((i + 1 : Nat) : Int) by omega]
    exact ih (i + 1) n (by omega) (by omega)
theorem lksR_1 {L : List Hy} {g : Gx} {t m : Nat} (hL : OkL L) (hk : LkR L g) (ht : t < 6) (hm : m < 2147483648) {h : Nat} (hh : h < L.length) (c3 : Int) (K : Int → Gx → Option (Int × Gx)) : ∀ (k i n : Nat), i + k = h → k < n → (∀ j, j < i → m.testBit j = true → lkk L t j ≠ lkk L t h) → Md_looksOf_l34 (t : Int) (m : Int) c3 (h : Int) K n 1 (i : Int) g = K (if isF L t m h then 1 else 0) g := by
  have h30 := hL.2.1
  intro k
  induction k with
  | zero =>
    intro i n hi hn hall
    obtain ⟨n, rfl⟩ : ∃ q, n = q + 1 := ⟨n - 1, by omega⟩
    rw [Md_looksOf_l34, if_pos (by omega), if_pos (show isF L t m h from fun j hj => hall j (by omega))]
  | succ k ih =>
    intro i n hi hn hall
    obtain ⟨n, rfl⟩ : ∃ q, n = q + 1 := ⟨n - 1, by omega⟩
    rw [Md_looksOf_l34, if_neg (by omega), if_neg (show ¬ (1 : Int) = 0 by decide), bit_nn hm (by omega), wr_id (by omega) (by omega), show (i : Int) + 1 = ((i + 1 : Nat) : Int) by omega]
    by_cases c1 : m.testBit i = true
    · rw [if_pos c1, if_neg (show ¬ (1 : Int) = 0 by decide)]
      obtain ⟨u1, u2⟩ := unlike_ok hL hk ht (a := i) (b := h) (by omega) hh
      by_cases c2 : lkk L t i = lkk L t h
      · rw [u1 c2, ob_eq]
        simp only
        rw [if_pos trivial, if_neg (fun h9 : isF L t m h => h9 i (by omega) c1 c2)]
        exact lksR_0 (by omega) c3 K g k (i + 1) n (by omega) (by omega)
      · rw [u2 c2, ob_eq]
        simp only
        rw [if_neg (show ¬ (cpl (lkk L t i) (lkk L t h) : Int) = -1 by omega)]
        exact ih (i + 1) n (by omega) (by omega) (fun j hj hb => by
          by_cases h9 : j = i
          · rw [h9]; exact c2
          · exact hall j (by omega) hb)
    · rw [if_neg c1, if_pos rfl]
      exact ih (i + 1) n (by omega) (by omega) (fun j hj hb => by
        by_cases h9 : j = i
        · rw [h9] at hb; exact absurd hb c1
        · exact hall j (by omega) hb)
theorem unlR_ok {L : List Hy} {g : Gx} {t m : Nat} (hL : OkL L) (hk : LkR L g) (ht : t < 6) (hz : g 92 26 = (L.length : Int)) (hm : m < 2147483648) : Md_looksOf (t : Int) (m : Int) g = some ((unl L t m L.length : Int), g) := by
  have h30 := hL.2.1
  unfold Md_looksOf
  have lp : ∀ (k i n : Nat), i + k = L.length → k < n → Md_looksOf_l5 (t : Int) (m : Int) (fun x6 g7 => some (x6, g7)) n (unl L t m i : Int) (i : Int) g = some ((unl L t m L.length : Int), g) := by
    intro k
    induction k with
    | zero =>
      intro i n hi hn
      obtain ⟨n, rfl⟩ : ∃ q, n = q + 1 := ⟨n - 1, by omega⟩
      rw [Md_looksOf_l5, hz, if_pos (by omega), show i = L.length by omega]
    | succ k ih =>
      intro i n hi hn
      obtain ⟨n, rfl⟩ : ∃ q, n = q + 1 := ⟨n - 1, by omega⟩
      have ul := unl_le L t m i
      have nx := ih (i + 1) n (by omega) (by omega)
      rw [unl] at nx
      have fb : i < fu := Nat.lt_of_le_of_lt (show i ≤ 30 by omega) (fu_big _ (by decide))
      rw [Md_looksOf_l5, hz, if_neg (by omega), bit_nn hm (by omega), wr_id (show -2147483648 ≤ (i : Int) + 1 by omega) (by omega), wr_id (show -2147483648 ≤ (unl L t m i : Int) + 1 by omega) (by omega), wr_id (show -2147483648 ≤ (unl L t m i : Int) + 0 by omega) (by omega), show (i : Int) + 1 = ((i + 1 : Nat) : Int) by omega]
      by_cases c1 : m.testBit i = true
      · rw [if_pos c1, if_neg (show ¬ ¬ (1 : Int) = 1 by decide)]
        have z := lksR_1 hL hk ht hm (h := i) (by omega) (unl L t m i : Int) (fun x4 g5 => if x4 = 0 then Md_looksOf_l5 (t : Int) (m : Int) (fun x6 g7 => some (x6, g7)) n ((unl L t m i : Int) + 0) ((i + 1 : Nat) : Int) g5 else Md_looksOf_l5 (t : Int) (m : Int) (fun x6 g7 => some (x6, g7)) n ((unl L t m i : Int) + 1) ((i + 1 : Nat) : Int) g5) i 0 fu (by omega) fb (fun j hj => by omega)
        rw [show ((0 : Nat) : Int) = 0 from rfl] at z
        rw [z]
        by_cases c2 : isF L t m i
        · rw [if_pos c2, if_neg (show ¬ (1 : Int) = 0 by decide)]
          rw [if_pos ⟨c1, c2⟩] at nx
          exact nx
        · rw [if_neg c2, if_pos rfl]
          rw [if_neg (fun h9 => c2 h9.2)] at nx
          exact nx
      · rw [if_neg c1, if_pos (show ¬ (0 : Int) = 1 by decide)]
        have z := lksR_0 (t := t) (m := m) (h := i) (by omega) (unl L t m i : Int) (fun x4 g5 => if x4 = 0 then Md_looksOf_l5 (t : Int) (m : Int) (fun x6 g7 => some (x6, g7)) n ((unl L t m i : Int) + 0) ((i + 1 : Nat) : Int) g5 else Md_looksOf_l5 (t : Int) (m : Int) (fun x6 g7 => some (x6, g7)) n ((unl L t m i : Int) + 1) ((i + 1 : Nat) : Int) g5) g i 0 fu (by omega) fb
        rw [show ((0 : Nat) : Int) = 0 from rfl] at z
        rw [z, if_pos rfl]
        rw [if_neg (fun h9 => c1 h9.1)] at nx
        exact nx
  exact lp L.length 0 fu (by omega) (Nat.lt_of_le_of_lt h30 (fu_big _ (by decide)))
theorem all_ones : ∀ n : Nat, n < 31 → wr (jshl 1 (n : Int) - 1) = ((2 ^ n - 1 : Nat) : Int) ∧ 2 ^ n - 1 < 2147483648 := by decide +kernel
theorem st_looks {T : Nat} {t pt : List Int} {u : Int} {g : Gx} (h : Inv T t pt u g) (hT : T < 80000) (a1 : Int) : ∃ r g1 g2, Op_looks a1 g = some (r, g1) ∧ Md_looks a1 g1 = some (r, g2) ∧ Inv (T + 2) t pt u g2 := by
  unfold Op_looks Md_looks
  by_cases c0 : 0 ≤ a1 ∧ a1 ≤ 5
  · have m1 : ¬ Op_isTalker a1 = 0 := fun h9 => isTalker_iff.mp h9 c0
    have m2 : ¬ Md_isOne a1 = 0 := fun h9 => mdOne_iff.mp h9 c0
    simp only [if_pos m1, if_pos m2]
    rcases hw_ok h hT 0 with ⟨r, g1, g2, a, b, c, d, e⟩ | ⟨g1, a, b1, b2, b3, b4, b5, b6⟩
    · refine ⟨r, g1, g2, ?_, ?_, e⟩
      · rw [b, ob_eq]; simp only; rw [if_neg (by omega)]
      · rw [d, ob_eq]; simp only; rw [if_neg (by omega)]
    · obtain ⟨w, rfl⟩ := Int.eq_ofNat_of_zero_le c0.1
      have hl := b4.1
      have h30 := b4.2.1
      obtain ⟨g2, e1, e2⟩ := load_ok b4 b3.2.2.2.wd (t := w) (by omega)
      have fl := fr_Lk_load (w : Int) g1 g2 e1
      have i2 : Inv (T + 2) t pt u g2 := b1.fr (fl.cl (by decide))
      have z2 : g2 33 9 = ((pD t u).length : Int) := by rw [fl.fld (by decide) (by decide)]; exact b3.2.2.2.1
      obtain ⟨g3, y, z, x, -⟩ := b6 g2 i2
      obtain ⟨g4, f1, f2⟩ := find_ok b4 x.wd
      have ff := fr_Md_findLooks g3 g4 f1
      have i4 : Inv (T + 2) t pt u g4 := z.fr (ff.cl (by decide))
      have z4 : g4 92 26 = ((pD t u).length : Int) := by rw [ff.fld (by decide) (by decide)]; exact x.1
      obtain ⟨o1, o2⟩ := all_ones (pD t u).length (by omega)
      refine ⟨(unl (pD t u) w (2 ^ (pD t u).length - 1) (pD t u).length : Int), g2, g4, ?_, ?_, i4⟩
      · rw [a, ob_eq]
        simp only
        rw [if_neg (show ¬ ((pD t u).length : Int) ≤ 0 by omega), if_pos rfl, e1, ob_eq]
        unfold Hi_all
        rw [z2, o1, unlC_ok b4 e2 z2 o2, ob_eq]
      · rw [y, ob_eq]
        simp only
        rw [if_pos trivial, f1, ob_eq]
        unfold Md_allBits
        rw [z4, o1, unlR_ok b4 f2 (by omega) z4 o2, ob_eq]
  · have m1 : Op_isTalker a1 = 0 := isTalker_iff.mpr c0
    have m2 : Md_isOne a1 = 0 := mdOne_iff.mpr c0
    simp only [if_neg (fun h9 : ¬ Op_isTalker a1 = 0 => h9 m1), if_neg (fun h9 : ¬ Md_isOne a1 = 0 => h9 m2)]
    exact ⟨-2, g, g, rfl, rfl, h.more (by omega)⟩
