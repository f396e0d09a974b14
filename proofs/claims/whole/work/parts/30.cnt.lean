/-! How many histories, how many words: the class's count. Own text. -/
theorem bc64 : ∀ m : Nat, m < 64 → Ji_bitCount (m : Int) = (((List.range 6).filter (fun x => m.testBit x)).length : Int) := by decide +kernel
theorem msk6 : ∀ t : Nat, t < 6 → jand 63 (jxor (jshl 1 (t : Int)) (-1)) = ((63 - 2 ^ t : Nat) : Int) ∧ (∀ x : Nat, x < 6 → (63 - 2 ^ t).testBit x = (x != t)) := by decide +kernel
theorem told_ok {g : Gx} {c t : Nat} {u : Int} (hc : c < 40) (ht : t < 6) (hg : g 13 c = (t : Int)) (hu : 0 ≤ u ∧ u ≤ 1073741823) : ∃ m : Nat, m < 64 ∧ St_toldOf (c : Int) u g = (m : Int) ∧ ∀ x, x < 6 → m.testBit x = isTold u c t x := by
  unfold St_toldOf
  rw [if_neg (by omega)]
  have hM := msk6 t ht
  have hM2 : 63 - 2 ^ t < 64 := Nat.lt_of_le_of_lt (Nat.sub_le _ _) (by decide)
  generalize 63 - 2 ^ t = M at hM hM2
  by_cases h5 : c < 5
  · rw [if_pos (by omega), rat_in (by omega) (by omega), Int.toNat_natCast, hg, hM.1, wr_id (by omega) (by omega), show (c : Int) * 6 = ((6 * c : Nat) : Int) by omega]
    obtain ⟨k, hk⟩ := Int.eq_ofNat_of_zero_le hu.1
    subst hk
    have l : k >>> (6 * c) ≤ k := by rw [Nat.shiftRight_eq_div_pow]; exact Nat.div_le_self _ _
    rw [jshr_nn (by omega) (by omega), jand_nn (by omega) (by omega)]
    have l2 : (k >>> (6 * c)) &&& M ≤ M := Nat.and_le_right
    refine ⟨_, by omega, rfl, fun x hx => ?_⟩
    rw [Nat.testBit_and, hM.2 x hx, Nat.testBit_shiftRight]
    unfold isTold
    simp only [h5, decide_true, Bool.true_and, Int.toNat_natCast]
    exact Bool.and_comm _ _
  · rw [if_neg (by omega)]
    refine ⟨0, by omega, rfl, fun x hx => ?_⟩
    unfold isTold
    simp [h5]
theorem tells_len {u : Int} {c t w : Nat} : (tells u c t w).length = ((List.range 6).filter (isTold u c t)).length := by
  unfold tells; rw [List.length_map]
theorem told_bc {g : Gx} {c t : Nat} {u : Int} (w : Nat) (hc : c < 40) (ht : t < 6) (hg : g 13 c = (t : Int)) (hu : 0 ≤ u ∧ u ≤ 1073741823) : Ji_bitCount (St_toldOf (c : Int) u g) = ((tells u c t w).length : Int) ∧ (tells u c t w).length ≤ 6 := by
  obtain ⟨m, h1, h2, h3⟩ := told_ok hc ht hg hu
  rw [h2, bc64 m h1, tells_len]
  refine ⟨?_, ?_⟩
  · congr 2
    apply List.filter_congr
    intro x hx
    exact h3 x (List.mem_range.mp hx)
  · exact Nat.le_trans (List.length_filter_le _ _) (by simp)
def AGc (g G : Gx) : Prop := G 7 10 = g 7 10 ∧ G 9 = g 9 ∧ G 11 = g 11 ∧ G 13 = g 13 ∧ G 15 = g 15 ∧ G 17 = g 17 ∧ G 19 = g 19
theorem AGc.rs {g G : Gx} (h : AGc g G) {c n : Nat} {i v : Int} (hc : 20 ≤ c) : AGc g (rset G c n i v) := by
  obtain ⟨a, b, c1, d, e, f, k⟩ := h
  exact ⟨by rw [rs_ne (by omega)]; exact a, by rw [rs_ne (by omega)]; exact b, by rw [rs_ne (by omega)]; exact c1, by rw [rs_ne (by omega)]; exact d, by rw [rs_ne (by omega)]; exact e, by rw [rs_ne (by omega)]; exact f, by rw [rs_ne (by omega)]; exact k⟩
theorem AGc.gs {g G : Gx} (h : AGc g G) {c i : Nat} {v : Int} (hc : 20 ≤ c) : AGc g (gset G c i v) := by
  obtain ⟨a, b, c1, d, e, f, k⟩ := h
  exact ⟨by rw [gset_ne (by omega)]; exact a, by rw [gset_ne (by omega)]; exact b, by rw [gset_ne (by omega)]; exact c1, by rw [gset_ne (by omega)]; exact d, by rw [gset_ne (by omega)]; exact e, by rw [gset_ne (by omega)]; exact f, by rw [gset_ne (by omega)]; exact k⟩
def sat (m x : Nat) : Nat := if x < m then x else m
theorem upTo_eq {m x : Nat} : St_upTo (m : Int) (x : Int) = ((sat m x : Nat) : Int) := by
  unfold St_upTo sat
  split <;> split <;> omega
theorem sat_mul {a x y : Nat} (hy : 1 ≤ y) : sat 31 (sat 31 (a * x) * sat 31 y) = sat 31 (a * (x * y)) := by
  unfold sat
  have e : a * (x * y) = a * x * y := (Nat.mul_assoc _ _ _).symm
  rw [e]
  generalize a * x = z
  by_cases h1 : z < 31
  · rw [if_pos h1]
    by_cases h2 : y < 31
    · rw [if_pos h2]
    · rw [if_neg h2]
      rcases Nat.eq_zero_or_pos z with h3 | h3
      · subst h3; simp
      · have : 31 ≤ z * y := Nat.le_trans (by omega) (Nat.le_mul_of_pos_left y h3)
        rw [if_neg (by omega), if_neg (by omega)]
  · rw [if_neg h1]
    have : 31 ≤ z * y := Nat.le_trans (by omega) (Nat.le_mul_of_pos_right z hy)
    rw [if_neg (show ¬ z * y < 31 by omega)]
    by_cases h2 : y < 31
    · rw [if_pos h2, if_neg (by omega)]
    · rw [if_neg h2, if_neg (by omega)]
theorem sat_le (m x : Nat) : sat m x ≤ m := by unfold sat; split <;> omega
theorem sat_pos {m x : Nat} (hm : 1 ≤ m) (hx : 1 ≤ x) : 1 ≤ sat m x := by unfold sat; split <;> omega
theorem sat_id {m x : Nat} (h : x ≤ m) : sat m x = x := by unfold sat; split <;> omega
/-- counts at one depth -/
def Ct (G : Gx) (dp a b : Nat) : Prop := G 21 dp = (a : Int) ∧ G 23 dp = (b : Int)
def Lw (G G' : Gx) (dp : Nat) : Prop := (∀ j, j < dp → G' 21 j = G 21 j ∧ G' 23 j = G 23 j) ∧ ∀ j, j ≤ dp → G' 25 j = G 25 j ∧ G' 27 j = G 27 j
theorem Lw.rf (G : Gx) (dp : Nat) : Lw G G dp := ⟨fun _ _ => ⟨rfl, rfl⟩, fun _ _ => ⟨rfl, rfl⟩⟩
theorem Lw.tr {G H I : Gx} {dp : Nat} (h1 : Lw G H dp) (h2 : Lw H I dp) : Lw G I dp := ⟨fun j hj => ⟨(h2.1 j hj).1.trans (h1.1 j hj).1, (h2.1 j hj).2.trans (h1.1 j hj).2⟩, fun j hj => ⟨(h2.2 j hj).1.trans (h1.2 j hj).1, (h2.2 j hj).2.trans (h1.2 j hj).2⟩⟩
theorem addItem_ok {G : Gx} {dp a b x y : Nat} (hd : dp < 5) (h : Ct G dp a b) (ha : a ≤ 31) (hb : b ≤ 25) (hx : x ≤ 31) (hy : y ≤ 31) : ∃ G', St_addItem (dp : Int) (x : Int) (y : Int) G = G' ∧ Ct G' dp (sat 31 (a * x)) (sat 25 (b + y)) ∧ Lw G G' dp ∧ (∀ g, AGc g G → AGc g G') ∧ (∀ j, j ≠ dp → G' 21 j = G 21 j ∧ G' 23 j = G 23 j) ∧ G' 25 = G 25 ∧ G' 27 = G 27 := by
  have hm : a * x ≤ 31 * 31 := Nat.mul_le_mul ha hx
  obtain ⟨G', hG⟩ : ∃ G', G' = gset (gset G 21 dp ((sat 31 (a * x) : Nat) : Int)) 23 dp ((sat 25 (b + y) : Nat) : Int) := ⟨_, rfl⟩
  refine ⟨G', ?_, ⟨by simp [hG, gset], by simp [hG, gset]⟩, ⟨fun j hj => ?_, fun j hj => by simp [hG, gset]⟩, fun g hg => by rw [hG]; exact (hg.gs (by omega)).gs (by omega), fun j hj => by simp [hG, gset, hj], by rw [hG]; funext j; simp [gset], by rw [hG]; funext j; simp [gset]⟩
  · unfold St_addItem
    rw [rat_in (c := 21) (by omega) (by omega), rat_in (c := 23) (by omega) (by omega), rsi (c := 21) (by omega) (by omega), rsi (c := 23) (by omega) (by omega), Int.toNat_natCast, h.1, h.2]
    rw [show (a : Int) * (x : Int) = ((a * x : Nat) : Int) by simp, wr_id (x := ((a * x : Nat) : Int)) (by omega) (by omega), wr_id (x := (b : Int) + (y : Int)) (by omega) (by omega), show (b : Int) + (y : Int) = ((b + y : Nat) : Int) by omega, show (31 : Int) = ((31 : Nat) : Int) from rfl, show (25 : Int) = ((25 : Nat) : Int) from rfl, upTo_eq, upTo_eq, hG]
  · have : j ≠ dp := by omega
    simp [hG, gset, this]
theorem begin_ok {G : Gx} {dp : Nat} (hd : dp < 5) : St_beginItems (dp : Int) G = gset (gset G 21 dp 1) 23 dp 0 := by
  unfold St_beginItems
  rw [rsi (c := 21) (by omega) (by omega), rsi (c := 23) (by omega) (by omega), Int.toNat_natCast]
theorem endWay_ok {G : Gx} {dp a b x y : Nat} (hd : dp < 5) (h : Ct G dp a b) (hx : G 25 dp = (x : Int)) (hy : G 27 dp = (y : Int)) (ha : a ≤ 31) (hx31 : x ≤ 31) : St_endWay (dp : Int) G = gset (gset (gset (gset G 25 dp ((sat 31 (x + a) : Nat) : Int)) 27 dp ((max y b : Nat) : Int)) 21 dp 1) 23 dp 0 := by
  unfold St_endWay
  rw [rat_in (c := 23) (by omega) (by omega), rat_in (c := 27) (by omega) (by omega), rat_in (c := 25) (by omega) (by omega), rat_in (c := 21) (by omega) (by omega), rsi (c := 25) (by omega) (by omega), rsi (c := 27) (by omega) (by omega), Int.toNat_natCast, h.1, h.2, hx, hy, lett_eq, lett_eq, begin_ok hd, begin_ok hd, wr_id (by omega) (by omega), show (x : Int) + (a : Int) = ((x + a : Nat) : Int) by omega, show (31 : Int) = ((31 : Nat) : Int) from rfl, upTo_eq]
  split
  · rename_i h1
    have e : max y b = y := by omega
    rw [e]
    congr 1
    congr 1
    funext q j
    simp only [gset]
    by_cases h2 : q = 27
    · subst h2
      by_cases h3 : j = dp
      · subst h3; simp [hy]
      · simp [h3]
    · simp [h2]
  · rename_i h1
    have e : max y b = b := by omega
    rw [e]
