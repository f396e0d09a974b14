/-! The class's count, of all that steps stand for. Own text. -/
def CntP (g : Gx) (u : Int) (K : Gx → Option (Int × Gx)) : RC6 := fun d lo hi _ _ D => okD D ∧ lo ≤ hi ∧ ∀ (dp n : Nat) (G : Gx) (a b : Nat), dp + d ≤ 4 → hi ≤ 160 → (hi : Int) ≤ g 7 10 → AGc g G → Ct G dp a b → 1 ≤ a → a ≤ 31 → b ≤ 25 → ∃ G', St_isTooMuch_l9 u K (n + (hi - lo)) (dp : Int) (lo : Int) G = St_isTooMuch_l9 u K n (dp : Int) (hi : Int) G' ∧ AGc g G' ∧ Ct G' dp (sat 31 (a * (D u).length)) (sat 25 (b + mxw (D u))) ∧ Lw G G' dp
theorem good_pos {L : List Hy} (h : Good L) : 1 ≤ L.length := List.length_pos_iff.mpr h.1
theorem cnt_seq (g : Gx) (u : Int) (K : Gx → Option (Int × Gx)) : cSeq (CntP g u K) := by
  intro d lo mid hi cl cm ch A B h1 h2
  obtain ⟨o1, l1, h1⟩ := h1
  obtain ⟨o2, l2, h2⟩ := h2
  refine ⟨okD_seq o1 o2, by omega, fun dp n G a b x1 x2 x3 x4 x5 x6 x7 x8 => ?_⟩
  obtain ⟨G1, e1, e2, e3, e4⟩ := h1 dp (n + (hi - mid)) G a b x1 (by omega) (by omega) x4 x5 x6 x7 x8
  have pA := good_pos (o1 u).1
  have pB := good_pos (o2 u).1
  obtain ⟨G2, f1, f2, f3, f4⟩ := h2 dp n G1 _ _ x1 x2 x3 e2 e3 (sat_pos (by omega) (Nat.mul_pos x6 pA)) (sat_le _ _) (sat_le _ _)
  refine ⟨G2, ?_, f2, ?_, e4.tr f4⟩
  · rw [show n + (hi - lo) = n + (hi - mid) + (mid - lo) by omega, e1, f1]
  · have hl : (dseq A B u).length = (A u).length * (B u).length := len_lseq _ _
    have hw : mxw (dseq A B u) = mxw (A u) + mxw (B u) := mxw_seq (o2 u).1.1 (o1 u).1.1
    rw [hl, hw]
    have s1 : sat 31 (sat 31 (a * (A u).length) * (B u).length) = sat 31 (a * ((A u).length * (B u).length)) := by
      rw [← sat_mul pB]
      unfold sat
      generalize a * (A u).length = z
      by_cases h9 : (B u).length < 31
      · rw [if_pos h9]
      · rw [if_neg h9]
        by_cases h8 : z < 31
        · rw [if_pos h8]
          rcases Nat.eq_zero_or_pos z with h7 | h7
          · subst h7; simp
          · have y1 : 31 ≤ z * (B u).length := Nat.le_trans (by omega) (Nat.le_mul_of_pos_left _ h7)
            rw [if_neg (by omega), if_neg (by omega)]
        · rw [if_neg h8]
          have y1 : 31 ≤ 31 * (B u).length := Nat.le_mul_of_pos_right _ pB
          rw [if_neg (by omega), if_neg (by omega)]
    have s2 : sat 25 (sat 25 (b + mxw (A u)) + mxw (B u)) = sat 25 (b + (mxw (A u) + mxw (B u))) := by
      unfold sat
      repeat' split
      all_goals omega
    rw [← s1, ← s2]
    exact f3
theorem cnt_say (g : Gx) (u : Int) (K : Gx → Option (Int × Gx)) : cSay g (CntP g u K) := by
  intro d lo cl c a1 a2 a3
  refine ⟨fun u => ⟨good_one [c], fun e he x hx => by simp [dsay] at he; subst he; simp at hx; subst hx; exact a3⟩, by omega, fun dp n G a b x1 x2 x3 x4 x5 x6 x7 x8 => ?_⟩
  obtain ⟨g7, g9, -⟩ := id x4
  have e0 : rat G 9 160 (lo : Int) = 0 := by rw [rat_in (by omega) (by omega), Int.toNat_natCast, g9]; exact a1
  refine ⟨gset G 23 dp ((sat 25 (b + 1) : Nat) : Int), ?_, x4.gs (by omega), ⟨by rw [gc (by decide)]; rw [show (dsay c u).length = 1 from rfl, Nat.mul_one, sat_id x7]; exact x5.1, by rw [gs_same]; rfl⟩, ⟨fun j hj => ?_, fun j hj => by simp [gset]⟩⟩
  · rw [show n + (lo + 1 - lo) = n + 1 by omega, St_isTooMuch_l9, if_neg (by rw [g7]; omega), e0, if_neg (by decide), rat_in (c := 23) (by omega) (by omega), rsi (c := 23) (by omega) (by omega), Int.toNat_natCast, x5.2, wr_id (x := (b : Int) + 1) (by omega) (by omega), wr_id (x := (lo : Int) + 1) (by omega) (by omega), show (b : Int) + 1 = ((b + 1 : Nat) : Int) by omega, show (25 : Int) = ((25 : Nat) : Int) from rfl, upTo_eq, show (lo : Int) + 1 = ((lo + 1 : Nat) : Int) by omega]
  · have : j ≠ dp := by omega
    simp [gset, this]
/-- so many rounds -/
theorem cnt_rounds (g : Gx) (u : Int) {dp p : Nat} (hd : dp < 4) (hp : p < 160) (k : Nat) (hk : k ≤ 4) {A : Ds} (oA : okD A) (K : Gx → Option (Int × Gx)) : ∀ (r n v : Nat) (G : Gx) (a b : Nat), v + r = k → r < n → AGc g G → g 11 p = (k : Int) → Ct G dp a b → 1 ≤ a → a ≤ 31 → b ≤ 25 → Ct G (dp + 1) (sat 31 (A u).length) (sat 25 (mxw (A u))) → ∃ G', St_isTooMuch_l182 u (dp : Int) (p : Int) K n (v : Int) G = K G' ∧ AGc g G' ∧ Ct G' dp (sat 31 (a * (drep r A u).length)) (sat 25 (b + mxw (drep r A u))) ∧ Lw G G' dp := by
  intro r
  induction r with
  | zero =>
    intro n v G a b hv hn hG hgp hc a1 a2 b1 hc2
    obtain ⟨n, rfl⟩ : ∃ m, n = m + 1 := ⟨n - 1, by omega⟩
    rw [St_isTooMuch_l182, rat_in (by omega) (by omega), Int.toNat_natCast, hG.2.2.1, hgp, if_pos (by omega)]
    refine ⟨G, rfl, hG, ?_, Lw.rf _ _⟩
    have e1 : (drep 0 A u).length = 1 := rfl
    have e2 : mxw (drep 0 A u) = 0 := rfl
    rw [e1, e2, Nat.mul_one, Nat.add_zero, sat_id a2, sat_id b1]
    exact hc
  | succ r ih =>
    intro n v G a b hv hn hG hgp hc a1 a2 b1 hc2
    obtain ⟨n, rfl⟩ : ∃ m, n = m + 1 := ⟨n - 1, by omega⟩
    have pA := good_pos (oA u).1
    have pR := good_pos (okD_rep oA r u).1
    rw [St_isTooMuch_l182, rat_in (c := 11) (by omega) (by omega), Int.toNat_natCast, hG.2.2.1, hgp, if_neg (by omega), lett_eq, wr_id (x := (dp : Int) + 1) (by omega) (by omega), rat_in (c := 21) (by omega) (by omega), rat_in (c := 23) (by omega) (by omega), show ((dp : Int) + 1).toNat = dp + 1 by omega, hc2.1, hc2.2]
    have sl := sat_le 25 (mxw (A u))
    obtain ⟨G1, e1, e2, e3, e4, e5, -, -⟩ := addItem_ok (x := sat 31 (A u).length) (y := sat 25 (mxw (A u))) (by omega) hc a2 b1 (sat_le _ _) (by omega)
    rw [e1, wr_id (x := (v : Int) + 1) (by omega) (by omega), show (v : Int) + 1 = ((v + 1 : Nat) : Int) by omega]
    obtain ⟨G2, f1, f2, f3, f4⟩ := ih n (v + 1) G1 _ _ (by omega) (by omega) (e4 g hG) hgp e2 (sat_pos (by omega) (Nat.mul_pos a1 (sat_pos (by omega) pA))) (sat_le _ _) (sat_le _ _) ⟨by rw [(e5 (dp + 1) (by omega)).1]; exact hc2.1, by rw [(e5 (dp + 1) (by omega)).2]; exact hc2.2⟩
    refine ⟨G2, f1, f2, ?_, e3.tr f4⟩
    have hl : (drep (r + 1) A u).length = (A u).length * (drep r A u).length := len_lseq _ _
    have hw : mxw (drep (r + 1) A u) = mxw (A u) + mxw (drep r A u) := mxw_seq (okD_rep oA r u).1.1 (oA u).1.1
    rw [hl, hw]
    have s1 : sat 31 (sat 31 (a * sat 31 (A u).length) * (drep r A u).length) = sat 31 (a * ((A u).length * (drep r A u).length)) := by
      have z1 := sat_mul (a := a) (x := (A u).length) pR
      rw [← z1]
      have z2 : sat 31 (a * sat 31 (A u).length) = sat 31 (a * (A u).length) := by
        have := sat_mul (a := 1) (x := a) pA
        rw [Nat.one_mul, Nat.one_mul, sat_id a2] at this
        exact this
      rw [z2]
      have := sat_mul (a := sat 31 (a * (A u).length)) (x := 1) pR
      rw [Nat.mul_one, Nat.one_mul, sat_id (sat_le _ _)] at this
      exact this.symm
    have s2 : sat 25 (sat 25 (b + sat 25 (mxw (A u))) + mxw (drep r A u)) = sat 25 (b + (mxw (A u) + mxw (drep r A u))) := by
      unfold sat
      repeat' split
      all_goals omega
    rw [← s1, ← s2]
    exact f3
theorem open_ok {G : Gx} {dp : Nat} (hd : dp < 4) : rset (rset (St_beginItems (wr ((dp : Int) + 1)) G) 25 5 (wr ((dp : Int) + 1)) 0) 27 5 (wr ((dp : Int) + 1)) 0 = gset (gset (gset (gset G 21 (dp + 1) 1) 23 (dp + 1) 0) 25 (dp + 1) 0) 27 (dp + 1) 0 := by
  rw [wr_id (by omega) (by omega), show (dp : Int) + 1 = ((dp + 1 : Nat) : Int) by omega, begin_ok (by omega), rsi (by omega) (by omega), rsi (by omega) (by omega), Int.toNat_natCast]
theorem cnt_rep (g : Gx) (u : Int) (K : Gx → Option (Int × Gx)) : cRep g (CntP g u K) := by
  intro d lo hi cl ch k A a1 a2 a3 a4 h a6 a7 a8
  obtain ⟨oA, l1, h⟩ := h
  refine ⟨okD_rep oA k, by omega, fun dp n G a b x1 x2 x3 x4 x5 x6 x7 x8 => ?_⟩
  obtain ⟨g7, g9, g11, -⟩ := id x4
  have e0 : rat G 9 160 (lo : Int) = 4 := by rw [rat_in (by omega) (by omega), Int.toNat_natCast, g9]; exact a3
  obtain ⟨G1, hG1⟩ : ∃ G1, G1 = gset (gset (gset (gset G 21 (dp + 1) 1) 23 (dp + 1) 0) 25 (dp + 1) 0) 27 (dp + 1) 0 := ⟨_, rfl⟩
  have q1 : AGc g G1 := by rw [hG1]; exact (((x4.gs (by omega)).gs (by omega)).gs (by omega)).gs (by omega)
  obtain ⟨G2, e1, e2, e3, e4⟩ := h (dp + 1) (n + 1) G1 1 0 (by omega) (by omega) (by omega) q1 ⟨by simp [hG1, gset], by simp [hG1, gset]⟩ (by omega) (by omega) (by omega)
  rw [Nat.one_mul, Nat.zero_add] at e3
  have hc : Ct G2 dp a b := by
    obtain ⟨y1, y2⟩ := e4.1 dp (by omega)
    have n1 : dp ≠ dp + 1 := by omega
    exact ⟨by rw [y1, hG1]; simp [gset]; exact x5.1, by rw [y2, hG1]; simp [gset]; exact x5.2⟩
  have k9 : rat G2 9 160 (hi : Int) = 5 := by rw [rat_in (by omega) (by omega), Int.toNat_natCast, e2.2.1]; exact a7
  obtain ⟨G3, f1, f2, f3, f4⟩ := cnt_rounds g u (dp := dp) (p := hi) (by omega) (by omega) k a2 oA (fun g4 => St_isTooMuch_l9 u K n (dp : Int) (wr ((hi : Int) + 1)) g4) k fu 0 G2 a b (by omega) (fu_big _ (by omega)) e2 a8 hc x6 x7 x8 e3
  refine ⟨G3, ?_, f2, f3, ?_⟩
  · rw [show n + (hi + 1 - lo) = n + 1 + (hi - (lo + 1)) + 1 by omega, St_isTooMuch_l9, if_neg (by rw [g7]; omega), e0, if_pos (by decide), if_neg (by decide), if_neg (by decide), lett_eq, open_ok (by omega), ← hG1, wr_id (x := (dp : Int) + 1) (by omega) (by omega), wr_id (x := (lo : Int) + 1) (by omega) (by omega), show (dp : Int) + 1 = ((dp + 1 : Nat) : Int) by omega, show (lo : Int) + 1 = ((lo + 1 : Nat) : Int) by omega, e1]
    rw [St_isTooMuch_l9, if_neg (by rw [e2.1]; omega), k9, if_pos (by decide), if_neg (by decide), if_pos (by decide), if_pos (by decide), if_pos (by decide), wr_id (x := ((dp + 1 : Nat) : Int) + -1) (by omega) (by omega), show ((dp + 1 : Nat) : Int) + -1 = (dp : Int) by omega]
    rw [show (0 : Int) = ((0 : Nat) : Int) from rfl, f1, wr_id (x := (hi : Int) + 1) (by omega) (by omega), show (hi : Int) + 1 = ((hi + 1 : Nat) : Int) by omega]
  · refine Lw.tr ⟨fun j hj => ?_, fun j hj => ?_⟩ f4
    · obtain ⟨y1, y2⟩ := e4.1 j (by omega)
      have n1 : j ≠ dp + 1 := by omega
      exact ⟨by rw [y1, hG1]; simp [gset, n1], by rw [y2, hG1]; simp [gset, n1]⟩
    · obtain ⟨y1, y2⟩ := e4.2 j (by omega)
      have n1 : j ≠ dp + 1 := by omega
      exact ⟨by rw [y1, hG1]; simp [gset, n1], by rw [y2, hG1]; simp [gset, n1]⟩
def sumW (W : Nat → Ds) (u : Int) : Nat → Nat
  | 0 => 0
  | i + 1 => sumW W u i + (W i u).length
def maxW (W : Nat → Ds) (u : Int) : Nat → Nat
  | 0 => 0
  | i + 1 => max (maxW W u i) (mxw (W i u))
theorem lch_len {u : Int} {c t m : Nat} {W : Nat → Ds} : ∀ (n w : Nat), sumW W u w + (lch u c t m W w n).length = sumW W u (w + n)
  | 0, w => by simp [lch]
  | n + 1, w => by
    have := lch_len (c := c) (t := t) (m := m) (u := u) (W := W) n (w + 1)
    simp only [lch, List.length_append, List.length_map]
    rw [show w + (n + 1) = w + 1 + n by omega, ← this]
    simp only [sumW]
    omega
theorem lch_mxw {u : Int} {c t m : Nat} {W : Nat → Ds} (hW : ∀ i, W i u ≠ []) : ∀ (n w : Nat), max ((tells u c t 0).length + maxW W u w) (mxw (lch u c t m W w n)) = (tells u c t 0).length + maxW W u (w + n)
  | 0, w => by simp [lch, mxw]
  | n + 1, w => by
    have := lch_mxw (c := c) (t := t) (m := m) hW n (w + 1)
    rw [lch, mxw_app, mxw_map (k := (tells u c t 0).length) (fun e => by simp [pkh, tells_len]) (hW w), show w + (n + 1) = w + 1 + n by omega, ← this]
    simp only [maxW]
    omega
theorem dch_mxw {u : Int} {c t m : Nat} {W : Nat → Ds} (hm : 2 ≤ m) (hW : ∀ i, W i u ≠ []) : mxw (dch c t m W u) = (tells u c t 0).length + maxW W u m := by
  have h1 := lch_mxw (c := c) (t := t) (m := m) hW m 0
  rw [Nat.zero_add] at h1
  have h2 : (tells u c t 0).length ≤ mxw (dch c t m W u) := by
    have hne : W 0 u ≠ [] := hW 0
    obtain ⟨x, hx⟩ : ∃ x, x ∈ W 0 u := by
      cases h : W 0 u with
      | nil => exact absurd h hne
      | cons y l => exact ⟨y, List.mem_cons_self⟩
    have := mxw_mem (L := dch c t m W u) (e := pkh u c t m 0 x) (mem_lch.mpr ⟨0, by omega, by omega, x, hx, rfl⟩)
    simp only [pkh, List.length_append] at this
    omega
  have h3 : maxW W u 0 = 0 := rfl
  rw [h3] at h1
  show mxw (lch u c t m W 0 m) = _
  have h2 : (tells u c t 0).length ≤ mxw (lch u c t m W 0 m) := h2
  omega
