/-! The class's count: choices; too much. Own text. -/
def LwA (G G' : Gx) (dp : Nat) : Prop := ∀ j, j ≤ dp → G' 21 j = G 21 j ∧ G' 23 j = G 23 j ∧ G' 25 j = G 25 j ∧ G' 27 j = G 27 j
theorem cnt_cho (g : Gx) (u : Int) (hu : 0 ≤ u ∧ u ≤ 1073741823) (K : Gx → Option (Int × Gx)) : cCho g (CntP g u K) := by
  intro d lo c t m W s e cs a1 a2 a3 a4 a5 a6 a7 a8 a9 b1 b2 b3 b4 b5 b6 b7 b8
  have oW : ∀ i, okD (W i) := fun i => by
    rcases Nat.lt_or_ge i m with h | h
    · exact (b4 i h).1
    · rw [b8 i h]; exact okD_nil
  have hne : ∀ i, W i u ≠ [] := fun i => (oW i u).1.1
  have wm := ways_mono (fun i hi => (b4 i hi).2.1) (fun i hi => (b5 i hi).2.2)
  have lim : ∀ i, i < m → lo < s i ∧ s i ≤ e i ∧ e i ≤ e (m - 1) := fun i hi => by
    have x1 := wm i 0 (by omega)
    have x2 := wm (m - 1 - i) i (by omega)
    have x5 := (b4 i hi).2.1
    rw [show 0 + i = i by omega] at x1
    rw [show i + (m - 1 - i) = m - 1 by omega] at x2
    omega
  have l0 := lim 0 (by omega)
  refine ⟨okD_cho a1 a2 a3 a4 oW, by omega, fun dp n G a b x1 x2 x3 x4 x5 x6 x7 x8 => ?_⟩
  obtain ⟨hi, hhi⟩ : ∃ hi, hi = e (m - 1) + 1 := ⟨_, rfl⟩
  rw [← hhi] at x2 x3 ⊢
  have key : ∀ i, i < m → ∃ Gi, St_isTooMuch_l9 u K (n + (hi - lo)) (dp : Int) (lo : Int) G = St_isTooMuch_l9 u K (n + (hi - s i)) ((dp + 1 : Nat) : Int) (s i : Int) Gi ∧ AGc g Gi ∧ Ct Gi (dp + 1) 1 0 ∧ Gi 25 (dp + 1) = ((sat 31 (sumW W u i) : Nat) : Int) ∧ Gi 27 (dp + 1) = ((sat 25 (maxW W u i) : Nat) : Int) ∧ LwA G Gi dp := by
    intro i
    induction i with
    | zero =>
      intro _
      have e0 : rat G 9 160 (lo : Int) = 1 := by rw [rat_in (by omega) (by omega), Int.toNat_natCast, x4.2.1]; exact a5
      obtain ⟨G1, hG1⟩ : ∃ G1, G1 = gset (gset (gset (gset G 21 (dp + 1) 1) 23 (dp + 1) 0) 25 (dp + 1) 0) 27 (dp + 1) 0 := ⟨_, rfl⟩
      have q1 : AGc g G1 := by rw [hG1]; exact (((x4.gs (by omega)).gs (by omega)).gs (by omega)).gs (by omega)
      refine ⟨G1, ?_, q1, ⟨by simp [hG1, gset], by simp [hG1, gset]⟩, by simp [hG1, gset, sumW, sat], by simp [hG1, gset, maxW, sat], fun j hj => ?_⟩
      · rw [show n + (hi - lo) = n + (hi - s 0) + 1 by omega, St_isTooMuch_l9, if_neg (by rw [x4.1]; omega), e0, if_pos (by decide), if_pos rfl, lett_eq, open_ok (by omega), ← hG1, wr_id (x := (dp : Int) + 1) (by omega) (by omega), wr_id (x := (lo : Int) + 1) (by omega) (by omega), show (dp : Int) + 1 = ((dp + 1 : Nat) : Int) by omega, show (lo : Int) + 1 = (s 0 : Int) by omega]
      · have n1 : j ≠ dp + 1 := by omega
        simp [hG1, gset, n1]
    | succ i ih =>
      intro hi1
      obtain ⟨Gi, y1, y2, y3, y4, y5, y6⟩ := ih (by omega)
      have li := lim i (by omega)
      have li1 := lim (i + 1) hi1
      obtain ⟨c1, c2, c3⟩ := b5 i hi1
      obtain ⟨G2, z1, z2, z3, z4⟩ := (b4 i (by omega)).2.2 (dp + 1) (n + (hi - s (i + 1)) + 1) Gi 1 0 (by omega) (by omega) (by omega) y2 y3 (by omega) (by omega) (by omega)
      rw [Nat.one_mul, Nat.zero_add] at z3
      have k9 : rat G2 9 160 (e i : Int) = 2 := by rw [rat_in (by omega) (by omega), Int.toNat_natCast, z2.2.1]; exact c1
      have ew := endWay_ok (dp := dp + 1) (by omega) z3 (by rw [(z4.2 (dp + 1) (by omega)).1]; exact y4) (by rw [(z4.2 (dp + 1) (by omega)).2]; exact y5) (sat_le _ _) (sat_le _ _)
      obtain ⟨G3, hG3⟩ : ∃ G3, G3 = St_endWay ((dp + 1 : Nat) : Int) G2 := ⟨_, rfl⟩
      rw [ew] at hG3
      have q3 : AGc g G3 := by rw [hG3]; exact (((z2.gs (by omega)).gs (by omega)).gs (by omega)).gs (by omega)
      refine ⟨G3, ?_, q3, ⟨by simp [hG3, gset], by simp [hG3, gset]⟩, ?_, ?_, fun j hj => ?_⟩
      · rw [y1, show n + (hi - s i) = n + (hi - s (i + 1)) + 1 + (e i - s i) by omega, z1, St_isTooMuch_l9, if_neg (by rw [z2.1]; omega), k9, if_pos (by decide), if_neg (by decide), if_pos (by decide), if_neg (by decide), lett_eq, ew, ← hG3, wr_id (x := (e i : Int) + 1) (by omega) (by omega), show (e i : Int) + 1 = (s (i + 1) : Int) by omega]
      · simp [hG3, gset, sumW]
        unfold sat
        repeat' split
        all_goals omega
      · simp [hG3, gset, maxW]
        unfold sat
        repeat' split
        all_goals omega
      · obtain ⟨w1, w2, w3, w4⟩ := y6 j hj
        obtain ⟨v1, v2⟩ := z4.1 j (by omega)
        obtain ⟨v3, v4⟩ := z4.2 j (by omega)
        have n1 : j ≠ dp + 1 := by omega
        refine ⟨by simp [hG3, gset, n1]; rw [v1, w1], by simp [hG3, gset, n1]; rw [v2, w2], by simp [hG3, gset, n1]; rw [v3, w3], by simp [hG3, gset, n1]; rw [v4, w4]⟩
  obtain ⟨Gi, y1, y2, y3, y4, y5, y6⟩ := key (m - 1) (by omega)
  have li := lim (m - 1) (by omega)
  obtain ⟨G2, z1, z2, z3, z4⟩ := (b4 (m - 1) (by omega)).2.2 (dp + 1) (n + 1) Gi 1 0 (by omega) (by omega) (by omega) y2 y3 (by omega) (by omega) (by omega)
  rw [Nat.one_mul, Nat.zero_add] at z3
  have k9 : rat G2 9 160 (e (m - 1) : Int) = 3 := by rw [rat_in (by omega) (by omega), Int.toNat_natCast, z2.2.1]; exact b6
  have ew := endWay_ok (dp := dp + 1) (by omega) z3 (by rw [(z4.2 (dp + 1) (by omega)).1]; exact y4) (by rw [(z4.2 (dp + 1) (by omega)).2]; exact y5) (sat_le _ _) (sat_le _ _)
  obtain ⟨G3, hG3⟩ : ∃ G3, G3 = St_endWay ((dp + 1 : Nat) : Int) G2 := ⟨_, rfl⟩
  rw [ew] at hG3
  have q3 : AGc g G3 := by rw [hG3]; exact (((z2.gs (by omega)).gs (by omega)).gs (by omega)).gs (by omega)
  have k11 : rat G3 11 160 (e (m - 1) : Int) = (c : Int) := by rw [rat_in (by omega) (by omega), Int.toNat_natCast, q3.2.2.1]; exact b7
  obtain ⟨tb, tb6⟩ := told_bc (g := G3) (w := 0) (c := c) (t := t) a3 a4 (by rw [q3.2.2.2.1]; exact a7) hu
  have hc3 : Ct G3 dp a b := by
    obtain ⟨w1, w2, -, -⟩ := y6 dp (by omega)
    obtain ⟨v1, v2⟩ := z4.1 dp (by omega)
    have n1 : dp ≠ dp + 1 := by omega
    exact ⟨by simp [hG3, gset]; rw [v1, w1]; exact x5.1, by simp [hG3, gset]; rw [v2, w2]; exact x5.2⟩
  have s25 : G3 25 (dp + 1) = ((sat 31 (sumW W u m) : Nat) : Int) := by
    obtain ⟨k, rfl⟩ : ∃ k, m = k + 1 := ⟨m - 1, by omega⟩
    simp [hG3, gset, sumW]
    unfold sat
    repeat' split
    all_goals omega
  have s27 : G3 27 (dp + 1) = ((sat 25 (maxW W u m) : Nat) : Int) := by
    obtain ⟨k, rfl⟩ : ∃ k, m = k + 1 := ⟨m - 1, by omega⟩
    simp [hG3, gset, maxW]
    unfold sat
    repeat' split
    all_goals omega
  have sl := sat_le 25 (maxW W u m)
  obtain ⟨G4, f1, f2, f3, f4, f5, f6, f7⟩ := addItem_ok (x := sat 31 (sumW W u m)) (y := sat 25 (maxW W u m) + (tells u c t 0).length) (by omega) hc3 x7 x8 (sat_le _ _) (by omega)
  refine ⟨G4, ?_, f4 g q3, ?_, ?_⟩
  · rw [y1, show n + (hi - s (m - 1)) = n + 1 + (e (m - 1) - s (m - 1)) by omega, z1, St_isTooMuch_l9, if_neg (by rw [z2.1]; omega), k9, if_pos (by decide), if_neg (by decide), if_pos (by decide), if_pos (by decide), if_neg (by decide), lett_eq, ew, ← hG3, k11, tb, lett_eq, wr_id (x := ((dp + 1 : Nat) : Int) + -1) (by omega) (by omega), show ((dp + 1 : Nat) : Int) + -1 = (dp : Int) by omega, wr_id (x := (dp : Int) + 1) (by omega) (by omega), rat_in (c := 25) (by omega) (by omega), rat_in (c := 27) (by omega) (by omega), show ((dp : Int) + 1).toNat = dp + 1 by omega, s25, s27]
    rw [wr_id (x := ((sat 25 (maxW W u m) : Nat) : Int) + ((tells u c t 0).length : Int)) (by omega) (by omega), show ((sat 25 (maxW W u m) : Nat) : Int) + ((tells u c t 0).length : Int) = ((sat 25 (maxW W u m) + (tells u c t 0).length : Nat) : Int) by omega, f1, wr_id (x := (e (m - 1) : Int) + 1) (by omega) (by omega), show (e (m - 1) : Int) + 1 = (hi : Int) by omega]
  · have hl : (dch c t m W u).length = sumW W u m := by
      have := lch_len (u := u) (c := c) (t := t) (m := m) (W := W) m 0
      rw [Nat.zero_add] at this
      have z : sumW W u 0 = 0 := rfl
      show (lch u c t m W 0 m).length = _
      omega
    rw [hl, dch_mxw a1 hne]
    have p1 : 1 ≤ sumW W u m := by
      rw [← hl]; exact good_pos (okD_cho a1 a2 a3 a4 oW u).1
    have s1 : sat 31 (a * sat 31 (sumW W u m)) = sat 31 (a * sumW W u m) := by
      have := sat_mul (a := 1) (x := a) p1
      rw [Nat.one_mul, Nat.one_mul, sat_id x7] at this
      exact this
    have s2 : sat 25 (b + (sat 25 (maxW W u m) + (tells u c t 0).length)) = sat 25 (b + ((tells u c t 0).length + maxW W u m)) := by
      unfold sat
      repeat' split
      all_goals omega
    rw [← s1, ← s2]
    exact f2
  · refine Lw.tr ⟨fun j hj => ?_, fun j hj => ?_⟩ f3
    · obtain ⟨w1, w2, -, -⟩ := y6 j (by omega)
      obtain ⟨v1, v2⟩ := z4.1 j (by omega)
      have n1 : j ≠ dp + 1 := by omega
      exact ⟨by simp [hG3, gset, n1]; rw [v1, w1], by simp [hG3, gset, n1]; rw [v2, w2]⟩
    · obtain ⟨-, -, w3, w4⟩ := y6 j (by omega)
      obtain ⟨v3, v4⟩ := z4.2 j (by omega)
      have n1 : j ≠ dp + 1 := by omega
      exact ⟨by simp [hG3, gset, n1]; rw [v3, w3], by simp [hG3, gset, n1]; rw [v4, w4]⟩
/-- too much: more than thirty, or one with more than twenty-four words -/
def TM (L : List Hy) : Prop := 30 < L.length ∨ 24 < mxw L
theorem tooMuch_ok {g : Gx} {u : Int} (hu : 0 ≤ u ∧ u ≤ 1073741823) {z n : Nat} {D : Ds} (hz : g 7 10 = (z : Int)) (hz2 : z ≤ 160) (h : EncC g 4 0 z 0 n D) : ∃ (r : Int) (g' : Gx), St_isTooMuch u g = some (r, g') ∧ (r = 0 ∨ r = 1) ∧ (r = 1 ↔ TM (D u)) := by
  obtain ⟨K, hK⟩ : ∃ K : Gx → Option (Int × Gx), K = fun g9 => if 30 < (rat g9 21 5 0) then some (1, g9) else if (rat g9 23 5 0) ≤ 24 then some (0, g9) else some (1, g9) := ⟨_, rfl⟩
  have h0 := h (CntP g u K) (fun d lo cl => ⟨okD_nil, Nat.le_refl _, fun dp n G a b x1 x2 x3 x4 x5 x6 x7 x8 => ⟨G, by rw [Nat.sub_self, Nat.add_zero], x4, by
    have e1 : (dnil u).length = 1 := rfl
    have e2 : mxw (dnil u) = 0 := rfl
    rw [e1, e2, Nat.mul_one, Nat.add_zero, sat_id x7, sat_id x8]; exact x5, Lw.rf _ _⟩⟩) (cnt_seq g u K) (cnt_say g u K) (cnt_cho g u hu K) (cnt_rep g u K)
  obtain ⟨oD, -, h1⟩ := h0
  unfold St_isTooMuch
  rw [lett_eq, ← hK, show (0 : Int) = ((0 : Nat) : Int) from rfl, begin_ok (by omega)]
  have ag : AGc g (gset (gset g 21 0 1) 23 0 0) := (AGc.gs (AGc.gs ⟨rfl, rfl, rfl, rfl, rfl, rfl, rfl⟩ (by omega)) (by omega))
  obtain ⟨G', e1, e2, e3, -⟩ := h1 0 (fu - z) (gset (gset g 21 0 1) 23 0 0) 1 0 (by omega) hz2 (by omega) ag ⟨by simp [gset], by simp [gset]⟩ (by omega) (by omega) (by omega)
  rw [Nat.sub_zero, show fu - z + z = fu from Nat.sub_add_cancel (Nat.le_trans hz2 (by decide))] at e1
  rw [e1]
  obtain ⟨f, hf⟩ : ∃ f, fu - z = f + 1 := ⟨fu - z - 1, by
    have : 160 < fu := fu_big _ (by omega)
    omega⟩
  rw [hf, St_isTooMuch_l9, e2.1, hz, if_pos (by omega), hK]
  simp only
  rw [show (0 : Int) = ((0 : Nat) : Int) from rfl, rat_in (by omega) (by omega), rat_in (by omega) (by omega), Int.toNat_natCast, e3.1, e3.2]
  have pD := good_pos (oD u).1
  rw [Nat.one_mul, Nat.zero_add]
  unfold TM
  by_cases c1 : 30 < (D u).length
  · have : sat 31 (D u).length = 31 := by unfold sat; rw [if_neg (by omega)]
    rw [this, if_pos (by omega)]
    exact ⟨1, _, rfl, Or.inr rfl, by simp [c1]⟩
  · have : sat 31 (D u).length = (D u).length := sat_id (by omega)
    rw [this, if_neg (by omega)]
    by_cases c2 : 24 < mxw (D u)
    · have : sat 25 (mxw (D u)) = 25 := by unfold sat; rw [if_neg (by omega)]
      rw [this, if_neg (by omega)]
      exact ⟨1, _, rfl, Or.inr rfl, by simp [c2]⟩
    · have : sat 25 (mxw (D u)) = mxw (D u) := sat_id (by omega)
      rw [this, if_pos (by omega)]
      refine ⟨_, _, rfl, Or.inl rfl, ?_⟩
      constructor
      · intro h9; exact absurd h9 (by decide)
      · rintro (h9 | h9)
        · exact absurd h9 c1
        · exact absurd h9 c2
