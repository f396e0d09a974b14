/-! The reference walks: what is said. Own text. -/
def SdR (G G' : Gx) (h L : Nat) (ws : List Int) : Prop :=
  G' 92 36 = ((L + ws.length : Nat) : Int) ∧ (h < 30 → ∀ i x, ws[i]? = some x → G' 111 (24 * h + L + i) = x) ∧ (∀ i, i < 24 * h + L → G' 111 i = G 111 i) ∧ FR [111, 6924] G G'
theorem SdR.nil {G : Gx} {h L : Nat} (hL : G 92 36 = (L : Int)) : SdR G G h L [] := ⟨hL, fun _ i x hx => by simp at hx, fun _ _ => rfl, FR.rf _ _⟩
theorem SdR.app {G H I : Gx} {h L : Nat} {a b : List Int} (h1 : SdR G H h L a) (h2 : SdR H I h (L + a.length) b) : SdR G I h L (a ++ b) := by
  obtain ⟨a1, a2, a3, a5⟩ := h1
  obtain ⟨b1, b2, b3, b5⟩ := h2
  refine ⟨by rw [b1, List.length_append]; congr 1; omega, fun hh i x hx => ?_, fun i hi => (b3 i (by omega)).trans (a3 i hi), a5.tr b5⟩
  rcases Nat.lt_or_ge i a.length with hi | hi
  · rw [List.getElem?_append_left hi] at hx
    rw [b3 _ (by omega)]
    exact a2 hh i x hx
  · rw [List.getElem?_append_right hi] at hx
    have := b2 hh _ x hx
    rw [show 24 * h + (L + a.length) + (i - a.length) = 24 * h + L + i by omega] at this
    exact this
theorem says_ok {G : Gx} {h L a b w : Nat} (hh : G 92 26 = (h : Int)) (hh2 : h ≤ 30) (hL : G 92 36 = (L : Int)) (hL2 : L ≤ 24) (ha : a < 6) (hb : b < 6) (hw : w < 30) : (L < 24 → ∃ G', Md_says (a : Int) (b : Int) (w : Int) G = some (1, G') ∧ SdR G G' h L [((1000 * a + 100 * b + w : Nat) : Int)]) ∧ (L = 24 → Md_says (a : Int) (b : Int) (w : Int) G = some (0, G)) := by
  unfold Md_says
  rw [hL, hh]
  refine ⟨fun hl => ?_, fun hl => by rw [if_neg (by omega)]⟩
  rw [if_pos (by omega), wr_id (x := (L : Int) + 1) (by omega) (by omega)]
  by_cases h30 : h < 30
  · rw [if_neg (by omega), show wr (wr (24 * (h : Int)) + (L : Int)) = ((24 * h + L : Nat) : Int) by simp (disch := omega) only [wr_id]; omega, if_pos (by omega), Int.toNat_natCast, show wr (wr (wr (1000 * (a : Int)) + wr (100 * (b : Int))) + (w : Int)) = ((1000 * a + 100 * b + w : Nat) : Int) by simp (disch := omega) only [wr_id]; omega]
    refine ⟨_, rfl, by simp [gset], fun _ i x hx => ?_, fun i hi => ?_, FR.go (FR.gs (FR.rf _ _) (by decide)) ⟨rfl, by decide⟩⟩
    · have hi : i = 0 := by
        rcases Nat.eq_zero_or_pos i with h | h
        · exact h
        · rw [List.getElem?_eq_none (by simp; omega)] at hx; cases hx
      subst hi
      simp at hx
      simp [gset, hx]
    · have : i ≠ 24 * h + L := by omega
      simp [gset, this]
  · rw [if_pos (by omega)]
    exact ⟨_, rfl, by simp [gset], fun h9 => by omega, fun i _ => by simp [gset], FR.go (FR.rf _ _) ⟨rfl, by decide⟩⟩
def tlx (u : Int) (c t w v : Nat) : List Int := (((List.range 6).drop v).filter (isTold u c t)).map (fun x => ((1000 * t + 100 * x + 26 + w : Nat) : Int))
theorem tell0 {G : Gx} {u : Int} {lo : Nat} (hlo : lo < 170) (K : Int → Gx → Option (Int × Gx)) : ∀ (k v n : Nat), v + k = 6 → k < n → Md_chooses_l67 (lo : Int) u K n 0 (v : Int) G = K 0 G := by
  intro k
  induction k with
  | zero =>
    intro v n hv hn
    obtain ⟨n, rfl⟩ : ∃ q, n = q + 1 := ⟨n - 1, by omega⟩
    rw [Md_chooses_l67, if_pos (by omega)]
  | succ k ih =>
    intro v n hv hn
    obtain ⟨n, rfl⟩ : ∃ q, n = q + 1 := ⟨n - 1, by omega⟩
    have := ih (v + 1) n (by omega) (by omega)
    rw [Md_chooses_l67, if_neg (by omega), if_pos (by omega), wr_id (by omega) (by omega), show (v : Int) + 1 = ((v + 1 : Nat) : Int) by omega, this]
    have hl : (0 : Int) ≤ (lo : Int) ∧ (lo : Int) < 170 := by omega
    split
    · rfl
    · split
      · rfl
      · split
        · rfl
        · rw [if_pos rfl]
theorem tellR {u : Int} (hu : 0 ≤ u ∧ u ≤ 1073741823) {lo cc t w h c : Nat} (hlo : lo < 170) (hcc : cc < 40) (ht : t < 6) (hw : w < 4) (hc : c < 30) (hh2 : h ≤ 30) (K : Int → Gx → Option (Int × Gx)) : ∀ (k v n : Nat) (G : Gx) (L : Nat), v + k = 6 → k < n → G 102 lo = (cc : Int) → G 100 lo = (t : Int) → G 92 26 = (h : Int) → G 92 35 = (c : Int) → G 114 c = (w : Int) → G 92 36 = (L : Int) → L ≤ 24 → (L + (tlx u cc t w v).length ≤ 24 → ∃ G', Md_chooses_l67 (lo : Int) u K n 1 (v : Int) G = K 1 G' ∧ SdR G G' h L (tlx u cc t w v)) ∧ (24 < L + (tlx u cc t w v).length → ∃ G', Md_chooses_l67 (lo : Int) u K n 1 (v : Int) G = K 0 G' ∧ FR [111, 6924] G G') := by
  intro k
  induction k with
  | zero =>
    intro v n G L hv hn g102 g100 g26 g35 g114 hL hL2
    obtain ⟨n, rfl⟩ : ∃ q, n = q + 1 := ⟨n - 1, by omega⟩
    have e : tlx u cc t w v = [] := by rw [show v = 6 by omega]; rfl
    rw [Md_chooses_l67, if_pos (by omega), e]
    exact ⟨fun _ => ⟨G, rfl, SdR.nil hL⟩, fun h9 => by simp at h9; omega⟩
  | succ k ih =>
    intro v n G L hv hn g102 g100 g26 g35 g114 hL hL2
    obtain ⟨n, rfl⟩ : ∃ q, n = q + 1 := ⟨n - 1, by omega⟩
    have st : tlx u cc t w v = (if isTold u cc t v = true then [((1000 * t + 100 * v + 26 + w : Nat) : Int)] else []) ++ tlx u cc t w (v + 1) := tells_step v (by omega)
    rw [Md_chooses_l67, if_neg (by omega), if_pos (by omega), Int.toNat_natCast, g102, wr_id (x := (v : Int) + 1) (by omega) (by omega), show (v : Int) + 1 = ((v + 1 : Nat) : Int) by omega]
    by_cases h5 : cc < 5
    · rw [if_neg (by omega), if_pos (by omega), g100]
      obtain ⟨kk, hkk⟩ := Int.eq_ofNat_of_zero_le hu.1
      have bt : jand (jshr u (wr ((wr (6 * (cc : Int))) + (v : Int)))) 1 = if u.toNat.testBit (6 * cc + v) then 1 else 0 := by
        rw [show wr (wr (6 * (cc : Int)) + (v : Int)) = ((6 * cc + v : Nat) : Int) by simp (disch := omega) only [wr_id]; omega, hkk, bit_nn (by omega) (by omega), Int.toNat_natCast]
      have skip : isTold u cc t v = false → (L + (tlx u cc t w v).length ≤ 24 → ∃ G', Md_chooses_l67 (lo : Int) u K n 1 ((v + 1 : Nat) : Int) G = K 1 G' ∧ SdR G G' h L (tlx u cc t w v)) ∧ (24 < L + (tlx u cc t w v).length → ∃ G', Md_chooses_l67 (lo : Int) u K n 1 ((v + 1 : Nat) : Int) G = K 0 G' ∧ FR [111, 6924] G G') := fun h9 => by
        rw [st, h9, if_neg (by decide), List.nil_append]
        exact ih (v + 1) n G L (by omega) (by omega) g102 g100 g26 g35 g114 hL hL2
      by_cases hvt : v = t
      · rw [if_pos (by omega)]
        exact skip (by unfold isTold; simp [hvt])
      · rw [if_neg (by omega), if_pos (by omega), bt]
        by_cases hb : u.toNat.testBit (6 * cc + v) = true
        · have tl : isTold u cc t v = true := by unfold isTold; simp [h5, hvt, hb]
          rw [if_pos hb, if_neg (by decide), if_neg (by decide), if_pos (by omega), g35, if_pos (by omega), Int.toNat_natCast, g114, wr_id (x := 26 + (w : Int)) (by omega) (by omega), show 26 + (w : Int) = ((26 + w : Nat) : Int) by omega]
          rw [st, tl, if_pos rfl]
          obtain ⟨s1, s2⟩ := says_ok (a := t) (b := v) (w := 26 + w) g26 hh2 hL hL2 ht (by omega) (by omega)
          by_cases hl : L < 24
          · obtain ⟨G1, e1, e2⟩ := s1 hl
            rw [show 1000 * t + 100 * v + (26 + w) = 1000 * t + 100 * v + 26 + w by omega] at e2
            have fr := e2.2.2.2
            rw [e1, ob_eq]
            simp only
            rw [if_neg (by decide)]
            obtain ⟨r1, r2⟩ := ih (v + 1) n G1 (L + 1) (by omega) (by omega) (by rw [fr.cell (by decide) (by decide)]; exact g102) (by rw [fr.cell (by decide) (by decide)]; exact g100) (by rw [fr.fld (by decide) (by decide)]; exact g26) (by rw [fr.fld (by decide) (by decide)]; exact g35) (by rw [fr.cell (by decide) (by decide)]; exact g114) (by have := e2.1; simpa using this) (by omega)
            simp only [List.length_append, List.length_singleton]
            refine ⟨fun h9 => ?_, fun h9 => ?_⟩
            · obtain ⟨G', z1, z2⟩ := r1 (by omega)
              exact ⟨G', z1, e2.app z2⟩
            · obtain ⟨G', z1, z2⟩ := r2 (by omega)
              exact ⟨G', z1, fr.tr z2⟩
          · rw [s2 (by omega), ob_eq]
            simp only
            rw [if_pos trivial, tell0 hlo K k (v + 1) n (by omega) (by omega)]
            simp only [List.length_append, List.length_singleton]
            exact ⟨fun h9 => by omega, fun _ => ⟨G, rfl, FR.rf _ _⟩⟩
        · rw [if_neg hb, if_pos (by decide)]
          exact skip (by unfold isTold; simp at hb; simp [hb])
    · rw [if_pos (by omega)]
      have e : tlx u cc t w v = [] := by
        unfold tlx
        rw [List.filter_eq_nil_iff.mpr (fun x _ => by unfold isTold; simp [h5])]
        rfl
      rw [e]
      exact ⟨fun _ => ⟨G, rfl, SdR.nil hL⟩, fun h9 => by simp at h9; omega⟩
