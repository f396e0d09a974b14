/-! type, wipe: both texts; log. Own text. -/
def ITx (g : Gx) : Prop := (0 ≤ g 1 2 ∧ g 1 2 ≤ 160) ∧ (0 ≤ g 4 2 ∧ g 4 2 ≤ 80) ∧ g 98 0 = g 1 2 ∧ g 98 1 = g 4 2 ∧ g 1 1 = 160 ∧ g 4 1 = 80 ∧ (∀ i : Nat, (i : Int) < g 1 2 → g 97 i = g 3 i ∧ 0 ≤ g 3 i ∧ g 3 i ≤ 255) ∧ ∀ i : Nat, (i : Int) < g 4 2 → g 97 (160 + i) = g 6 i ∧ 0 ≤ g 6 i ∧ g 6 i ≤ 255
theorem st_type {g : Gx} (h : ITx g) (a1 a2 : Int) : ∃ r g1 g2, Op_type a1 a2 g = (r, g1) ∧ Md_type a1 a2 g1 = some (r, g2) ∧ ITx g2 := by
  obtain ⟨h1, h2, h3, h4, h5, h6, h7, h8⟩ := id h
  by_cases ht : 0 ≤ a1 ∧ a1 ≤ 1
  · by_cases hb : 0 ≤ a2 ∧ a2 ≤ 255
    · have m1 : ¬ Md_in a1 0 1 = 0 := fun h9 => in_iff.mp h9 ht
      have m2 : ¬ Md_in a2 0 255 = 0 := fun h9 => in_iff.mp h9 hb
      have n1 : ¬ a1 < 0 := by omega
      have n2 : ¬ 1 < a1 := by omega
      have n3 : ¬ a2 < 0 := by omega
      have n4 : a2 ≤ 255 := by omega
      have r2 : 0 ≤ a1 ∧ a1 < 2 := by omega
      by_cases h0 : a1 = 0
      · subst h0
        by_cases hf : g 1 2 < 160
        · obtain ⟨k, hk⟩ := Int.eq_ofNat_of_zero_le h1.1
          have hin : (0 : Int) ≤ (k : Int) ∧ (k : Int) < ((160 : Nat) : Int) := by omega
          obtain ⟨g1, hg1⟩ : ∃ z, z = gset (gset (gset g 3 k a2) 1 2 ((k : Int) + 1)) 1 3 (wr (g 1 3 + 1)) := ⟨_, rfl⟩
          have e97 : g1 97 = g 97 := by rw [hg1, gset_ne (by decide), gset_ne (by decide), gset_ne (by decide)]
          have e98 : g1 98 = g 98 := by rw [hg1, gset_ne (by decide), gset_ne (by decide), gset_ne (by decide)]
          refine ⟨(k : Int) + 1, g1, gset (gset g1 97 k a2) 98 0 ((k : Int) + 1), ?_, ?_, ?_⟩
          · have ha : Tx_append1 a2 g = (1, g1) := by
              unfold Tx_append1
              rw [h5, hk, if_pos (by omega), rset_in hin, Int.toNat_natCast, wr_id (by omega) (by omega), hg1]
            simp only [Op_type, n1, n2, n3, n4, if_false, if_true, lett, ha, not_true_eq_false]
            rw [if_neg (by decide)]
            simp [Tx_length1, hg1, gset]
          · have q1 : g1 98 0 = (k : Int) := by rw [e98, h3, hk]
            have q2 : ¬ (k : Int) = 160 := by omega
            have q3 : wr (wr (160 * 0) + (k : Int)) = (k : Int) := by
              rw [wr_id (x := 160 * 0) (by omega) (by omega), wr_id (by omega) (by omega)]; omega
            have q4 : 0 ≤ (k : Int) ∧ (k : Int) < 240 := by omega
            have q5 : wr ((k : Int) + 1) = (k : Int) + 1 := wr_id (by omega) (by omega)
            have q6 : Md_roomOf 0 = 160 := by simp [Md_roomOf]
            simp only [Md_type, m1, m2, r2, if_false, if_true, not_false_eq_true, Int.toNat_zero, q1, q6, q2, q3, q4, q5, and_self, Int.toNat_natCast]
            simp [gset, q1, q5]
          · have w1 : gset (gset g1 97 k a2) 98 0 ((k : Int) + 1) 1 2 = (k : Int) + 1 := by simp [gset, hg1]
            have w2 : gset (gset g1 97 k a2) 98 0 ((k : Int) + 1) 1 1 = g 1 1 := by simp [gset, hg1]
            have w3 : gset (gset g1 97 k a2) 98 0 ((k : Int) + 1) 4 = g 4 := by funext x; simp [gset, hg1]
            have w4 : gset (gset g1 97 k a2) 98 0 ((k : Int) + 1) 6 = g 6 := by funext x; simp [gset, hg1]
            have w5 : ∀ x, gset (gset g1 97 k a2) 98 0 ((k : Int) + 1) 3 x = if x = k then a2 else g 3 x := by intro x; simp [gset, hg1]
            have w6 : ∀ x, gset (gset g1 97 k a2) 98 0 ((k : Int) + 1) 97 x = if x = k then a2 else g 97 x := by intro x; simp [gset, e97]
            have w7 : gset (gset g1 97 k a2) 98 0 ((k : Int) + 1) 98 0 = (k : Int) + 1 := by simp [gset]
            have w8 : gset (gset g1 97 k a2) 98 0 ((k : Int) + 1) 98 1 = g 98 1 := by simp [gset, e98]
            unfold ITx
            rw [w1, w2, w3, w4, w7, w8]
            refine ⟨by omega, h2, rfl, h4, h5, h6, fun i hi => ?_, fun i hi => ?_⟩
            · rw [w5, w6]
              by_cases hx : i = k
              · rw [if_pos hx, if_pos hx]; exact ⟨rfl, hb⟩
              · rw [if_neg hx, if_neg hx]; exact h7 i (by omega)
            · rw [w6, if_neg (by omega)]; exact h8 i hi
        · have ha : Tx_append1 a2 g = (0, g) := by
            unfold Tx_append1
            rw [h5, if_neg hf]
          refine ⟨-4, g, g, ?_, ?_, h⟩
          · simp [Op_type, n1, n2, n3, n4, lett, ha]
          · have q1 : g 98 0 = 160 := by omega
            simp [Md_type, m1, m2, q1, Md_roomOf]
      · have h1' : a1 = 1 := by omega
        subst h1'
        by_cases hf : g 4 2 < 80
        · obtain ⟨k, hk⟩ := Int.eq_ofNat_of_zero_le h2.1
          have hin : (0 : Int) ≤ (k : Int) ∧ (k : Int) < ((80 : Nat) : Int) := by omega
          obtain ⟨g1, hg1⟩ : ∃ z, z = gset (gset (gset g 6 k a2) 4 2 ((k : Int) + 1)) 4 3 (wr (g 4 3 + 1)) := ⟨_, rfl⟩
          have e97 : g1 97 = g 97 := by rw [hg1, gset_ne (by decide), gset_ne (by decide), gset_ne (by decide)]
          have e98 : g1 98 = g 98 := by rw [hg1, gset_ne (by decide), gset_ne (by decide), gset_ne (by decide)]
          refine ⟨(k : Int) + 1, g1, gset (gset g1 97 (160 + k) a2) 98 1 ((k : Int) + 1), ?_, ?_, ?_⟩
          · have ha : Tx_append4 a2 g = (1, g1) := by
              unfold Tx_append4
              rw [h6, hk, if_pos (by omega), rset_in hin, Int.toNat_natCast, wr_id (by omega) (by omega), hg1]
            simp only [Op_type, n1, n2, n3, n4, if_false, if_true, lett, ha, h0, not_false_eq_true]
            simp [Tx_length4, hg1, gset]
          · have q1 : g1 98 1 = (k : Int) := by rw [e98, h4, hk]
            have q2 : ¬ (k : Int) = 80 := by omega
            have q3 : wr (wr (160 * 1) + (k : Int)) = ((160 + k : Nat) : Int) := by
              rw [wr_id (x := 160 * 1) (by omega) (by omega), wr_id (by omega) (by omega)]; omega
            have q4 : 0 ≤ ((160 + k : Nat) : Int) ∧ ((160 + k : Nat) : Int) < 240 := by omega
            have q5 : wr ((k : Int) + 1) = (k : Int) + 1 := wr_id (by omega) (by omega)
            have q6 : Md_roomOf 1 = 80 := by simp [Md_roomOf]
            have q7 : (1 : Int).toNat = 1 := rfl
            simp only [Md_type, m1, m2, r2, if_false, if_true, not_false_eq_true, q7, q1, q6, q2, q3, q4, q5, and_self, Int.toNat_natCast]
            simp [gset, q1, q5]
          · have w1 : gset (gset g1 97 (160 + k) a2) 98 1 ((k : Int) + 1) 4 2 = (k : Int) + 1 := by simp [gset, hg1]
            have w2 : gset (gset g1 97 (160 + k) a2) 98 1 ((k : Int) + 1) 4 1 = g 4 1 := by simp [gset, hg1]
            have w3 : gset (gset g1 97 (160 + k) a2) 98 1 ((k : Int) + 1) 1 = g 1 := by funext x; simp [gset, hg1]
            have w4 : gset (gset g1 97 (160 + k) a2) 98 1 ((k : Int) + 1) 3 = g 3 := by funext x; simp [gset, hg1]
            have w5 : ∀ x, gset (gset g1 97 (160 + k) a2) 98 1 ((k : Int) + 1) 6 x = if x = k then a2 else g 6 x := by intro x; simp [gset, hg1]
            have w6 : ∀ x, gset (gset g1 97 (160 + k) a2) 98 1 ((k : Int) + 1) 97 x = if x = 160 + k then a2 else g 97 x := by intro x; simp [gset, e97]
            have w7 : gset (gset g1 97 (160 + k) a2) 98 1 ((k : Int) + 1) 98 0 = g 98 0 := by simp [gset, e98]
            have w8 : gset (gset g1 97 (160 + k) a2) 98 1 ((k : Int) + 1) 98 1 = (k : Int) + 1 := by simp [gset]
            unfold ITx
            rw [w1, w2, w3, w4, w7, w8]
            refine ⟨h1, by omega, h3, rfl, h5, h6, fun i hi => ?_, fun i hi => ?_⟩
            · rw [w6, if_neg (by omega)]; exact h7 i hi
            · rw [w5, w6]
              by_cases hx : i = k
              · rw [if_pos (by omega), if_pos hx]; exact ⟨rfl, hb⟩
              · rw [if_neg (by omega), if_neg hx]; exact h8 i (by omega)
        · have ha : Tx_append4 a2 g = (0, g) := by
            unfold Tx_append4
            rw [h6, if_neg hf]
          refine ⟨-4, g, g, ?_, ?_, h⟩
          · simp [Op_type, n3, n4, lett, ha]
          · have q1 : g 98 1 = 80 := by omega
            have q7 : (1 : Int).toNat = 1 := rfl
            simp [Md_type, m1, m2, q1, q7, Md_roomOf]
    · have m1 : ¬ Md_in a1 0 1 = 0 := fun h9 => in_iff.mp h9 ht
      have m2 : Md_in a2 0 255 = 0 := in_iff.mpr hb
      refine ⟨-2, g, g, ?_, by simp [Md_type, m1, m2], h⟩
      unfold Op_type
      rw [if_neg (by omega), if_neg (by omega)]
      by_cases c : a2 < 0
      · rw [if_pos c]
      · rw [if_neg c, if_neg (by omega)]
  · have m1 : Md_in a1 0 1 = 0 := in_iff.mpr ht
    refine ⟨-2, g, g, ?_, by simp [Md_type, m1], h⟩
    unfold Op_type
    by_cases c : a1 < 0
    · rw [if_pos c]
    · rw [if_neg c, if_pos (by omega)]
theorem st_wipe {g : Gx} (h : ITx g) (hl : ITl g) (a1 : Int) : ∃ r g1 g2, Op_wipe a1 g = (r, g1) ∧ Md_wipe a1 g1 = some (r, g2) ∧ ITx g2 ∧ ITl g2 := by
  obtain ⟨h1, h2, h3, h4, h5, h6, h7, h8⟩ := id h
  by_cases ht : 0 ≤ a1 ∧ a1 ≤ 1
  · have m1 : ¬ Md_in a1 0 1 = 0 := fun h9 => in_iff.mp h9 ht
    by_cases h0 : a1 = 0
    · subst h0
      refine ⟨g 1 2, gset (gset (gset g 0 11 0) 1 2 0) 1 3 (wr (g 1 3 + 1)), gset (gset (gset (gset (gset g 0 11 0) 1 2 0) 1 3 (wr (g 1 3 + 1))) 98 0 0) 92 7 0, ?_, ?_, ?_, ?_⟩
      · simp [Op_wipe, Tx_empty1, lett, gset]
      · simp [Md_wipe, m1, gset, h3]
      · refine ⟨?_, ?_, ?_, ?_, ?_, ?_, ?_, ?_⟩
        · simp [gset]
        · simpa [gset] using h2
        · simp [gset]
        · simpa [gset] using h4
        · simpa [gset] using h5
        · simpa [gset] using h6
        · intro i hi
          simp [gset] at hi
          omega
        · intro i hi
          have := h8 i (by simpa [gset] using hi)
          simpa [gset] using this
      · exact ⟨by simp [gset], by simp [gset], by simp [gset]⟩
    · have e1 : a1 = 1 := by omega
      subst e1
      have q7 : (1 : Int).toNat = 1 := rfl
      refine ⟨g 4 2, gset (gset g 4 2 0) 4 3 (wr (g 4 3 + 1)), gset (gset (gset (gset g 4 2 0) 4 3 (wr (g 4 3 + 1))) 98 1 0) 92 7 (g 92 7), ?_, ?_, ?_, ?_⟩
      · simp [Op_wipe, Tx_empty4, lett]
      · simp [Md_wipe, m1, gset, h4, q7]
      · refine ⟨?_, ?_, ?_, ?_, ?_, ?_, ?_, ?_⟩
        · simpa [gset] using h1
        · simp [gset]
        · simpa [gset] using h3
        · simp [gset]
        · simpa [gset] using h5
        · simpa [gset] using h6
        · intro i hi
          have := h7 i (by simpa [gset] using hi)
          simpa [gset] using this
        · intro i hi
          simp [gset] at hi
          omega
      · obtain ⟨l1, l2, l3⟩ := hl
        exact ⟨by simpa [gset] using l1, by simpa [gset] using l2, by simpa [gset] using l3⟩
  · have m1 : Md_in a1 0 1 = 0 := in_iff.mpr ht
    refine ⟨-2, g, g, ?_, by simp [Md_wipe, m1], h, hl⟩
    unfold Op_wipe
    by_cases c : a1 < 0
    · rw [if_pos c]
    · rw [if_neg c, if_neg (by omega)]
theorem talker_iff {x : Int} : Op_isTalker x = 0 ↔ Md_in x 0 5 = 0 := by
  rw [in_iff]
  unfold Op_isTalker
  split
  · simp only [true_iff]; omega
  · split
    · simp only [true_iff]; omega
    · constructor
      · intro h; omega
      · intro h; omega
/-- the reference's look at one code is the class's -/
theorem maybe_eq (x : Int) : (if x < 0 then (0 : Int) else (if Md_in (Md_from x) 0 5 = 0 then 0 else (if Md_in (Md_to x) 0 5 = 0 then 0 else (if Md_from x = Md_to x then 0 else (if 30 ≤ jrem x 100 then 0 else 1))))) = Bd_mayBe x := by
  unfold Bd_mayBe
  have e1 : Op_sayer x = Md_from x := rfl
  have e2 : Op_getter x = Md_to x := rfl
  rw [e1, e2]
  simp only [talker_iff]
  split
  · rfl
  · split
    · rfl
    · split
      · rfl
      · split
        · rfl
        · by_cases c : 30 ≤ jrem x 100
          · rw [if_pos c, if_pos (by omega)]
          · rw [if_neg c, if_neg (by omega)]
def apf (g : Gx) (c src dst k : Nat) : Gx := fun b x => if b = c ∧ dst ≤ x ∧ x < dst + k then g 87 (src + (x - dst)) else g b x
/-- the class's loop: k codes go behind the log's L, then it ends -/
theorem op_log_l {s m L : Nat} (hs : s < 4) (hm : m ≤ 60) (K : Int → Gx → Option (Int × Gx)) (g : Gx) (hz : g 91 s = (m : Int)) (hL : g 78 4 = (L : Int)) (k : Nat) (hk : k ≤ m) (hLk : L + k ≤ 40) (hok : ∀ x, x < k → ¬ Bd_mayBe (g 87 (60 * s + x)) = 0) (hst : k = m ∨ L + k = 40 ∨ Bd_mayBe (g 87 (60 * s + k)) = 0) :
    ∀ (d n v : Nat), v + d = k → d < n → Op_log_l29 (s : Int) K n (v : Int) (gset (apf g 80 (60 * s) L v) 78 4 ((L : Int) + v)) = K (k : Int) (gset (apf g 80 (60 * s) L k) 78 4 ((L : Int) + k)) := by
  intro d
  induction d with
  | zero =>
    intro n v hv hn
    obtain ⟨n, rfl⟩ : ∃ z, n = z + 1 := ⟨n - 1, by omega⟩
    have hvk : v = k := by omega
    subst hvk
    have q91 : Sh_size (s : Int) (gset (apf g 80 (60 * s) L v) 78 4 ((L : Int) + v)) = (m : Int) := by
      unfold Sh_size
      rw [rat_in (by omega) (by omega), Int.toNat_natCast]
      simp [gset, apf, hz]
    rw [Op_log_l29, q91]
    by_cases c1 : (m : Int) ≤ (v : Int)
    · rw [if_pos c1]
    · rw [if_neg c1]
      have hit : Sh_item (s : Int) (v : Int) (gset (apf g 80 (60 * s) L v) 78 4 ((L : Int) + v)) = g 87 (60 * s + v) := by
        unfold Sh_item
        rw [(wr60 (s := (s : Int)) (i := (v : Int)) (by omega) (by omega) (by omega) (by omega)).1, rat_in (by omega) (by omega), show (60 * (s : Int) + (v : Int)).toNat = 60 * s + v by omega]
        simp [gset, apf]
      rw [hit]
      have hap : Bd_append (g 87 (60 * s + v)) (gset (apf g 80 (60 * s) L v) 78 4 ((L : Int) + v)) = (0, gset (apf g 80 (60 * s) L v) 78 4 ((L : Int) + v)) := by
        unfold Bd_append
        have q78 : gset (apf g 80 (60 * s) L v) 78 4 ((L : Int) + v) 78 4 = (L : Int) + v := by simp [gset]
        rw [q78]
        by_cases c2 : 40 ≤ (L : Int) + v
        · rw [if_pos c2]
        · rw [if_neg c2, if_neg]
          rcases hst with h9 | h9 | h9
          · omega
          · omega
          · exact fun h8 => h8 h9
      rw [hap, lett_eq, if_pos rfl]
  | succ d ih =>
    intro n v hv hn
    obtain ⟨n, rfl⟩ : ∃ z, n = z + 1 := ⟨n - 1, by omega⟩
    have q91 : Sh_size (s : Int) (gset (apf g 80 (60 * s) L v) 78 4 ((L : Int) + v)) = (m : Int) := by
      unfold Sh_size
      rw [rat_in (by omega) (by omega), Int.toNat_natCast]
      simp [gset, apf, hz]
    rw [Op_log_l29, q91, if_neg (by omega)]
    have hit : Sh_item (s : Int) (v : Int) (gset (apf g 80 (60 * s) L v) 78 4 ((L : Int) + v)) = g 87 (60 * s + v) := by
      unfold Sh_item
      rw [(wr60 (s := (s : Int)) (i := (v : Int)) (by omega) (by omega) (by omega) (by omega)).1, rat_in (by omega) (by omega), show (60 * (s : Int) + (v : Int)).toNat = 60 * s + v by omega]
      simp [gset, apf]
    rw [hit]
    have hap : Bd_append (g 87 (60 * s + v)) (gset (apf g 80 (60 * s) L v) 78 4 ((L : Int) + v)) = (1, gset (apf g 80 (60 * s) L (v + 1)) 78 4 ((L : Int) + ((v + 1 : Nat) : Int))) := by
      unfold Bd_append
      have q78 : gset (apf g 80 (60 * s) L v) 78 4 ((L : Int) + v) 78 4 = (L : Int) + v := by simp [gset]
      have hin : (0 : Int) ≤ (L : Int) + v ∧ (L : Int) + v < ((40 : Nat) : Int) := by omega
      rw [q78, if_neg (by omega), if_pos (hok v (by omega)), rset_in hin, wr_id (by omega) (by omega), show ((L : Int) + (v : Int)).toNat = L + v by omega]
      congr 1
      funext b x
      unfold gset apf
      by_cases hb : b = 78
      · subst hb
        by_cases hx : x = 4
        · subst hx; simp <;> omega
        · simp [hx]
      · by_cases hb2 : b = 80
        · subst hb2
          by_cases hx : x = L + v
          · subst hx
            simp
          · simp [hx]
            by_cases hk2 : L ≤ x ∧ x < L + v
            · rw [if_pos hk2, if_pos (by omega)]
            · rw [if_neg hk2, if_neg (by omega)]
        · simp [hb, hb2]
    rw [hap, lett_eq, if_neg (show ¬ (1 : Int) = 0 by decide), wr_id (by omega) (by omega), show (v : Int) + 1 = ((v + 1 : Nat) : Int) by omega]
    exact ih n (v + 1) (by omega) (by omega)
theorem md_log_l {s m L : Nat} (hs : s < 4) (hm : m ≤ 60) (K : Int → Gx → Option (Int × Gx)) (g : Gx) (hz : g 94 s = (m : Int)) (hL : g 92 48 = (L : Int)) (k : Nat) (hk : k ≤ m) (hLk : L + k ≤ 40) (hok : ∀ x, x < k → ¬ Bd_mayBe (g 95 (60 * s + x)) = 0) (hst : k = m ∨ L + k = 40 ∨ Bd_mayBe (g 95 (60 * s + k)) = 0) :
    ∀ (d n v : Nat) (G : Gx), v + d = k → d + 1 < n → FR [127, 6936] g G → G 92 48 = ((L + v : Nat) : Int) → (∀ i, i < L → G 127 i = g 127 i) → (∀ i, i < v → G 127 (L + i) = g 95 (60 * s + i)) → ∃ G', Md_log_l29 (s : Int) K n (v : Int) 1 G = K (k : Int) G' ∧ FR [127, 6936] g G' ∧ G' 92 48 = ((L + k : Nat) : Int) ∧ (∀ i, i < L → G' 127 i = g 127 i) ∧ (∀ i, i < k → G' 127 (L + i) = g 95 (60 * s + i)) := by
  intro d
  induction d with
  | zero =>
    intro n v G hv hn fr h48 o1 o2
    obtain ⟨n, rfl⟩ : ∃ z, n = z + 2 := ⟨n - 2, by omega⟩
    have hvk : v = k := by omega
    subst hvk
    refine ⟨G, ?_, fr, h48, o1, o2⟩
    have c94 : G 94 = g 94 := fr.cell (by decide) (by decide)
    have c95 : G 95 = g 95 := fr.cell (by decide) (by decide)
    rw [Md_log_l29, if_neg (by decide), if_pos (by omega), Int.toNat_natCast, c94, hz]
    by_cases c1 : (m : Int) ≤ (v : Int)
    · rw [if_pos c1]
    · rw [if_neg c1, h48]
      by_cases c2 : 40 ≤ L + v
      · rw [if_pos (by omega)]
      · have c3 : Bd_mayBe (g 95 (60 * s + v)) = 0 := by
          rcases hst with h9 | h9 | h9
          · omega
          · omega
          · exact h9
        rw [if_neg (by omega), (wr60 (s := (s : Int)) (i := (v : Int)) (by omega) (by omega) (by omega) (by omega)).2, if_pos (by omega), show (60 * (s : Int) + (v : Int)).toNat = 60 * s + v by omega, c95, maybe_eq, c3, lett_eq, if_pos rfl, Md_log_l29, if_pos rfl]
  | succ d ih =>
    intro n v G hv hn fr h48 o1 o2
    obtain ⟨n, rfl⟩ : ∃ z, n = z + 1 := ⟨n - 1, by omega⟩
    have c94 : G 94 = g 94 := fr.cell (by decide) (by decide)
    have c95 : G 95 = g 95 := fr.cell (by decide) (by decide)
    have c3 : Bd_mayBe (g 95 (60 * s + v)) = 1 := by
      rcases bo_Bd_mayBe (g 95 (60 * s + v)) with h | h
      · exact absurd h (hok v (by omega))
      · exact h
    rw [Md_log_l29, if_neg (by decide), if_pos (by omega), Int.toNat_natCast, c94, hz, if_neg (by omega), h48, if_neg (by omega), (wr60 (s := (s : Int)) (i := (v : Int)) (by omega) (by omega) (by omega) (by omega)).2, if_pos (by omega), show (60 * (s : Int) + (v : Int)).toNat = 60 * s + v by omega, c95, maybe_eq, c3, lett_eq, if_neg (show ¬ (1 : Int) = 0 by decide), if_pos (by omega), Int.toNat_natCast, wr_id (x := (v : Int) + 1) (by omega) (by omega), wr_id (x := ((L + v : Nat) : Int) + 1) (by omega) (by omega), show (v : Int) + 1 = ((v + 1 : Nat) : Int) by omega]
    refine ih n (v + 1) _ (by omega) (by omega) (FR.go (FR.gs fr (by decide)) ⟨rfl, by decide⟩) (by rw [gs_same]; omega) (fun i hi => ?_) (fun i hi => ?_)
    · have : i ≠ L + v := by omega
      simp [gset, this]; exact o1 i hi
    · by_cases h9 : i = v
      · subst h9; simp [gset]
      · have : L + i ≠ L + v := by omega
        simp [gset, h9]; exact o2 i (by omega)
/-- how many come behind the log -/
theorem log_many (P : Nat → Prop) (m L : Nat) (hL : L ≤ 40) : ∃ k, k ≤ m ∧ L + k ≤ 40 ∧ (∀ x, x < k → P x) ∧ (k = m ∨ L + k = 40 ∨ ¬ P k) := by
  induction m with
  | zero => exact ⟨0, by omega, by omega, fun x hx => by omega, Or.inl rfl⟩
  | succ m ih =>
    obtain ⟨k, h1, h2, h3, h4⟩ := ih
    rcases h4 with h4 | h4 | h4
    · subst h4
      by_cases h5 : L + k = 40
      · exact ⟨k, by omega, h2, h3, Or.inr (Or.inl h5)⟩
      · rcases Classical.em (P k) with h6 | h6
        · refine ⟨k + 1, by omega, by omega, fun x hx => ?_, Or.inl rfl⟩
          by_cases h7 : x = k
          · rw [h7]; exact h6
          · exact h3 x (by omega)
        · exact ⟨k, by omega, h2, h3, Or.inr (Or.inr h6)⟩
    · exact ⟨k, by omega, h2, h3, Or.inr (Or.inl h4)⟩
    · exact ⟨k, by omega, h2, h3, Or.inr (Or.inr h4)⟩
theorem st_log {g : Gx} (h : ISh g) (hg : ILg g) (a1 : Int) : ∃ r g1 g2, Op_log a1 g = some (r, g1) ∧ Md_log a1 g1 = some (r, g2) ∧ ISh g2 ∧ ILg g2 := by
  by_cases hs : 0 ≤ a1 ∧ a1 ≤ 3
  · have hs1 : ¬ Op_isSheet a1 = 0 := fun h9 => isSheet_iff.mp h9 hs
    have hs2 : ¬ Md_isSheet a1 = 0 := fun h9 => mdSheet_iff.mp h9 hs
    obtain ⟨s, rfl⟩ := Int.eq_ofNat_of_zero_le hs.1
    have hs4 : s < 4 := by omega
    have hr : (0 : Int) ≤ (s : Int) ∧ (s : Int) < 4 := by omega
    obtain ⟨h1, h2, h3⟩ := h.2 s hs4
    have q89 : rat g 89 4 (s : Int) = g 89 s := rat_in hr.1 hr.2
    by_cases hl : g 89 s = -1
    · have hlost : ¬ Sh_isLost (s : Int) g = 0 := by simp [Sh_isLost, q89, hl]
      refine ⟨wr (-10 - 1), gset g 0 12 1, gset (gset g 0 12 1) 92 4 1, ?_, ?_, h.found 1, ?_⟩
      · simp [Op_log, hs1, hlost, lett, Op_found]
      · have : ¬ 0 ≤ gset g 0 12 1 93 s := by rw [gset_ne (by decide), h1]; omega
        simp [Md_log, hs2, hr, this, lett, Md_met]
      · obtain ⟨i1, i2, i3⟩ := hg
        refine ⟨by simp [gset]; exact i1, by simp [gset]; exact i2, fun i hi => ?_⟩
        simp [gset] at hi ⊢
        exact i3 i hi
    · have hp : 0 ≤ g 89 s := by omega
      obtain ⟨h4, h5, h6⟩ := h3 hp
      have hlost : Sh_isLost (s : Int) g = 0 := by simp [Sh_isLost, q89, hl]
      obtain ⟨i1, i2, i3⟩ := hg
      obtain ⟨m, hm⟩ := Int.eq_ofNat_of_zero_le h5.1
      obtain ⟨L, hL⟩ := Int.eq_ofNat_of_zero_le i2.1
      obtain ⟨k, k1, k2, k3, k4⟩ := log_many (fun x => ¬ Bd_mayBe (g 87 (60 * s + x)) = 0) m L (by omega)
      have k4' : k = m ∨ L + k = 40 ∨ Bd_mayBe (g 87 (60 * s + k)) = 0 := by
        rcases k4 with h9 | h9 | h9
        · exact Or.inl h9
        · exact Or.inr (Or.inl h9)
        · exact Or.inr (Or.inr (Classical.not_not.mp h9))
      have r1 := op_log_l hs4 (show m ≤ 60 by omega) (fun x2 g3 => some (x2, g3)) g hm hL k k1 k2 k3 k4' k fu 0 (by omega) (Nat.lt_of_le_of_lt (show k ≤ 60 by omega) (fu_big _ (by decide)))
      obtain ⟨g1, hg1⟩ : ∃ g1, g1 = gset (apf g 80 (60 * s) L k) 78 4 ((L : Int) + k) := ⟨_, rfl⟩
      rw [← hg1] at r1
      have e0 : gset (apf g 80 (60 * s) L 0) 78 4 ((L : Int) + ((0 : Nat) : Int)) = g := by
        funext b x
        simp only [gset, apf]
        by_cases hb : b = 78
        · subst hb
          by_cases hx : x = 4
          · subst hx; simp; omega
          · simp [hx]
        · simp [hb]
          intro h9 h8 h7
          omega
      rw [e0, show ((0 : Nat) : Int) = 0 from rfl] at r1
      have c : ∀ q, q ≠ 78 → q ≠ 80 → g1 q = g q := fun q q1 q2 => by
        rw [hg1]; funext x; simp [gset, apf, q1, q2]
      have c95 : g1 95 = g 95 := c 95 (by decide) (by decide)
      obtain ⟨g2, m1, m2, m3, m4, m5⟩ := md_log_l (L := L) (m := m) hs4 (by omega) (fun x2 g3 => some (x2, g3)) g1 (by rw [c 94 (by decide) (by decide), h4]; exact hm) (by rw [c 92 (by decide) (by decide), i1]; exact hL) k k1 k2 (fun x hx => by rw [c95, h6 x (by omega)]; exact k3 x hx) (by
        rcases k4' with h9 | h9 | h9
        · exact Or.inl h9
        · exact Or.inr (Or.inl h9)
        · rcases Nat.lt_or_ge k m with h8 | h8
          · exact Or.inr (Or.inr (by rw [c95, h6 k (by omega)]; exact h9))
          · exact Or.inl (by omega)) k fu 0 g1 (by omega) (Nat.lt_of_le_of_lt (show k + 1 ≤ 61 by omega) (fu_big _ (by decide))) (FR.rf _ _) (by rw [c 92 (by decide) (by decide), i1, hL]; rfl) (fun _ _ => rfl) (fun i hi => by omega)
      rw [show ((0 : Nat) : Int) = 0 from rfl] at m1
      refine ⟨(k : Int), g1, g2, ?_, ?_, ?_, ?_⟩
      · simp only [Op_log, hs1, hlost, not_false_eq_true, if_true]
        exact r1
      · have u : 0 ≤ g1 93 s := by rw [c 93 (by decide) (by decide), h1]; exact hp
        simp only [Md_log, hs2, not_false_eq_true, if_true, hr, and_self, Int.toNat_natCast, u]
        exact m1
      · refine h.of ?_ ?_ ?_ ?_ ?_ ?_ ?_ ?_
        · rw [m2.fld (by decide) (by decide), c 0 (by decide) (by decide)]
        · rw [m2.fld (by decide) (by decide), c 92 (by decide) (by decide)]
        · rw [m2.cell (by decide) (by decide), c 93 (by decide) (by decide)]
        · rw [m2.cell (by decide) (by decide), c 89 (by decide) (by decide)]
        · rw [m2.cell (by decide) (by decide), c 94 (by decide) (by decide)]
        · rw [m2.cell (by decide) (by decide), c 91 (by decide) (by decide)]
        · rw [m2.cell (by decide) (by decide), c 95 (by decide) (by decide)]
        · rw [m2.cell (by decide) (by decide), c 87 (by decide) (by decide)]
      · have s78 : g2 78 4 = (L : Int) + k := by rw [m2.fld (by decide) (by decide), hg1, gs_same]
        refine ⟨by rw [m3, s78]; simp, by rw [s78]; omega, fun i hi => ?_⟩
        rw [s78] at hi
        have c80 : g2 80 = apf g 80 (60 * s) L k 80 := by rw [m2.cell (by decide) (by decide), hg1, gset_ne (by decide)]
        rcases Nat.lt_or_ge i L with h9 | h9
        · have e80 : g2 80 i = g 80 i := by rw [c80]; simp [apf]; intro h8; omega
          rw [m4 i h9, c 127 (by decide) (by decide), e80]
          exact i3 i (by omega)
        · obtain ⟨j, rfl⟩ : ∃ j, i = L + j := ⟨i - L, by omega⟩
          have e80 : g2 80 (L + j) = g 87 (60 * s + j) := by
            rw [c80]; simp only [apf]; rw [if_pos ⟨trivial, by omega, by omega⟩, show L + j - L = j by omega]
          rw [m5 j (by omega), c95, h6 j (by omega), e80]
          exact ⟨rfl, k3 j (by omega)⟩
  · have hs1 : Op_isSheet a1 = 0 := isSheet_iff.mpr hs
    have hs2 : Md_isSheet a1 = 0 := mdSheet_iff.mpr hs
    exact ⟨-2, g, g, by simp [Op_log, hs1], by simp [Md_log, hs2], h, hg⟩
