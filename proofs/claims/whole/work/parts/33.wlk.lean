/-! The class walks: what is said goes behind. Own text. -/
/-- words ws come behind the L that history h has -/
def SdC (G G' : Gx) (h L : Nat) (ws : List Int) : Prop :=
  G' 37 h = ((L + ws.length : Nat) : Int) ∧ (∀ i x, ws[i]? = some x → G' 35 (24 * h + L + i) = x) ∧ (∀ i, i < 24 * h + L → G' 35 i = G 35 i) ∧ (∀ j, j ≠ h → G' 37 j = G 37 j) ∧ FR [35, 37] G G'
theorem SdC.nil {G : Gx} {h L : Nat} (hL : G 37 h = (L : Int)) : SdC G G h L [] := ⟨hL, fun i x hx => by simp at hx, fun _ _ => rfl, fun _ _ => rfl, FR.rf _ _⟩
theorem SdC.app {G H I : Gx} {h L : Nat} {a b : List Int} (h1 : SdC G H h L a) (h2 : SdC H I h (L + a.length) b) : SdC G I h L (a ++ b) := by
  obtain ⟨a1, a2, a3, a4, a5⟩ := h1
  obtain ⟨b1, b2, b3, b4, b5⟩ := h2
  refine ⟨by rw [b1, List.length_append]; congr 1; omega, fun i x hx => ?_, fun i hi => (b3 i (by omega)).trans (a3 i hi), fun j hj => (b4 j hj).trans (a4 j hj), a5.tr b5⟩
  rcases Nat.lt_or_ge i a.length with hi | hi
  · rw [List.getElem?_append_left hi] at hx
    rw [b3 _ (by omega)]
    exact a2 i x hx
  · rw [List.getElem?_append_right hi] at hx
    have := b2 _ x hx
    rw [show 24 * h + (L + a.length) + (i - a.length) = 24 * h + L + i by omega] at this
    exact this
theorem say_ok {G : Gx} {h L : Nat} {c : Int} (hh : h < 30) (hL : G 37 h = (L : Int)) (hL2 : L < 24) : SdC G (Hi_say (h : Int) c G) h L [c] := by
  have e : Hi_say (h : Int) c G = gset (gset G 35 (24 * h + L) c) 37 h ((L : Int) + 1) := by
    unfold Hi_say
    rw [rat_in (by omega) (by omega), Int.toNat_natCast, hL, if_neg (by omega), show wr (wr ((h : Int) * 24) + (L : Int)) = ((24 * h + L : Nat) : Int) by simp (disch := omega) only [wr_id]; omega, rsi (by omega) (by omega), rsi (by omega) (by omega), Int.toNat_natCast, Int.toNat_natCast, wr_id (by omega) (by omega)]
  rw [e]
  refine ⟨by simp [gset], fun i x hx => ?_, fun i hi => ?_, fun j hj => by simp [gset, hj], FR.gs (FR.gs (FR.rf _ _) (by decide)) (by decide)⟩
  · have hi : i = 0 := by
      rcases Nat.eq_zero_or_pos i with h | h
      · exact h
      · rw [List.getElem?_eq_none (by simp; omega)] at hx; cases hx
    subst hi
    simp at hx
    simp [gset, hx]
  · have : i ≠ 24 * h + L := by omega
    simp [gset, this]
theorem tells_step {u : Int} {c t w : Nat} (v : Nat) (hv : v < 6) : (((List.range 6).drop v).filter (isTold u c t)).map (fun x => ((1000 * t + 100 * x + 26 + w : Nat) : Int)) = (if isTold u c t v = true then [((1000 * t + 100 * v + 26 + w : Nat) : Int)] else []) ++ (((List.range 6).drop (v + 1)).filter (isTold u c t)).map (fun x => ((1000 * t + 100 * x + 26 + w : Nat) : Int)) := by
  have : (List.range 6).drop v = v :: (List.range 6).drop (v + 1) := by
    rw [List.drop_eq_getElem_cons (by simp; omega)]
    simp
  rw [this, List.filter_cons]
  split <;> simp
theorem tellC {g : Gx} {u : Int} {h c t w m : Nat} (hh : h < 30) (hc : c < 40) (ht : t < 6) (hw : w < 4) (hm : ∀ x, x < 6 → m.testBit x = isTold u c t x) (hm2 : m < 64) (K : Gx → Option (Int × Gx)) : ∀ (k v n : Nat) (G : Gx) (L : Nat), v + k = 6 → k < n → G 13 c = (t : Int) → G 37 h = (L : Int) → L + ((((List.range 6).drop v).filter (isTold u c t)).map (fun x => ((1000 * t + 100 * x + 26 + w : Nat) : Int))).length ≤ 24 → ∃ G', Hi_choose_l82 (h : Int) (c : Int) (w : Int) (m : Int) K n (v : Int) G = K G' ∧ SdC G G' h L ((((List.range 6).drop v).filter (isTold u c t)).map (fun x => ((1000 * t + 100 * x + 26 + w : Nat) : Int))) := by
  intro k
  induction k with
  | zero =>
    intro v n G L hv hn h13 hL hl
    obtain ⟨n, rfl⟩ : ∃ q, n = q + 1 := ⟨n - 1, by omega⟩
    rw [Hi_choose_l82, if_pos (by omega), show v = 6 by omega]
    exact ⟨G, rfl, SdC.nil hL⟩
  | succ k ih =>
    intro v n G L hv hn h13 hL hl
    obtain ⟨n, rfl⟩ : ∃ q, n = q + 1 := ⟨n - 1, by omega⟩
    rw [tells_step v (by omega)] at hl ⊢
    rw [Hi_choose_l82, if_neg (by omega), has_nn (by omega) (by omega), hm v (by omega), wr_id (x := (v : Int) + 1) (by omega) (by omega), show (v : Int) + 1 = ((v + 1 : Nat) : Int) by omega]
    by_cases ht2 : isTold u c t v = true
    · rw [if_pos ht2] at hl ⊢
      rw [if_pos ht2, if_neg (by decide), lett_eq]
      simp only [List.length_append, List.length_singleton] at hl
      have code : wr ((wr ((wr ((wr (1000 * (St_chooser (c : Int) G))) + (wr (100 * (v : Int))))) + 26)) + (w : Int)) = ((1000 * t + 100 * v + 26 + w : Nat) : Int) := by
        unfold St_chooser
        rw [rat_in (by omega) (by omega), Int.toNat_natCast, h13]
        simp (disch := omega) only [wr_id]
        omega
      rw [code]
      have sd := say_ok (c := ((1000 * t + 100 * v + 26 + w : Nat) : Int)) hh hL (by omega)
      have fr := sd.2.2.2.2
      obtain ⟨G', e1, e2⟩ := ih (v + 1) n (Hi_say (h : Int) ((1000 * t + 100 * v + 26 + w : Nat) : Int) G) (L + 1) (by omega) (by omega) (by rw [fr.cell (by decide) (by decide)]; exact h13) (by have := sd.1; simpa using this) (by omega)
      exact ⟨G', e1, sd.app e2⟩
    · rw [if_neg ht2] at hl ⊢
      rw [if_neg ht2, if_pos rfl]
      exact ih (v + 1) n G L (by omega) (by omega) h13 hL hl
/-- the picks ahead are as they are settled; behind, the first ways -/
def Mt (G : Gx) (c S : Nat) (ps : List Pk) : Prop := ∀ i p, ps[i]? = some p → (c + i < S → G 39 (c + i) = (p.1 : Int) ∧ G 41 (c + i) = (p.2.1 : Int)) ∧ (S ≤ c + i → p.1 = 0)
/-- behind a walk of e -/
def PsW (G G' : Gx) (h c S L : Nat) (e : Hy) : Prop :=
  G' 33 11 = ((c + e.1.length : Nat) : Int) ∧ G' 33 10 = ((max S (c + e.1.length) : Nat) : Int) ∧ G' 37 h = ((L + e.2.length : Nat) : Int) ∧ (∀ i x, e.2[i]? = some x → G' 35 (24 * h + L + i) = x) ∧ (∀ i, i < 24 * h + L → G' 35 i = G 35 i) ∧ (∀ j, j ≠ h → G' 37 j = G 37 j) ∧ (∀ i, i < S → G' 39 i = G 39 i ∧ G' 41 i = G 41 i) ∧ ∀ i p, e.1[i]? = some p → G' 39 (c + i) = (p.1 : Int) ∧ G' 41 (c + i) = (p.2.1 : Int)
theorem PsW.app {G H I : Gx} {h c S L : Nat} {a b : Hy} (h1 : PsW G H h c S L a) (h2 : PsW H I h (c + a.1.length) (max S (c + a.1.length)) (L + a.2.length) b) : PsW G I h c S L (hcat a b) := by
  obtain ⟨a1, a2, a3, a4, a5, a6, a7, a8⟩ := h1
  obtain ⟨b1, b2, b3, b4, b5, b6, b7, b8⟩ := h2
  refine ⟨by rw [b1]; simp only [hcat, List.length_append]; congr 1; omega, by rw [b2]; simp only [hcat, List.length_append]; congr 1; omega, by rw [b3]; simp only [hcat, List.length_append]; congr 1; omega, fun i x hx => ?_, fun i hi => (b5 i (by omega)).trans (a5 i hi), fun j hj => (b6 j hj).trans (a6 j hj), fun i hi => ?_, fun i p hp => ?_⟩
  · rcases Nat.lt_or_ge i a.2.length with hi | hi
    · rw [hcat, List.getElem?_append_left hi] at hx
      rw [b5 _ (by omega)]
      exact a4 i x hx
    · rw [hcat, List.getElem?_append_right hi] at hx
      have := b4 _ x hx
      rw [show 24 * h + (L + a.2.length) + (i - a.2.length) = 24 * h + L + i by omega] at this
      exact this
  · obtain ⟨x1, x2⟩ := b7 i (by omega)
    obtain ⟨y1, y2⟩ := a7 i hi
    exact ⟨x1.trans y1, x2.trans y2⟩
  · rcases Nat.lt_or_ge i a.1.length with hi | hi
    · rw [hcat, List.getElem?_append_left hi] at hp
      obtain ⟨x1, x2⟩ := b7 (c + i) (by omega)
      rw [x1, x2]
      exact a8 i p hp
    · rw [hcat, List.getElem?_append_right hi] at hp
      have := b8 _ p hp
      rw [show c + a.1.length + (i - a.1.length) = c + i by omega] at this
      exact this
theorem Mt.left {G : Gx} {c S : Nat} {a b : List Pk} (h : Mt G c S (a ++ b)) : Mt G c S a := fun i p hp => h i p (by
  have : i < a.length := (List.getElem?_eq_some_iff.mp hp).1
  rw [List.getElem?_append_left this]; exact hp)
theorem Mt.right {G H : Gx} {c S : Nat} {a b : List Pk} (h : Mt G c S (a ++ b)) (hs : ∀ i, i < S → H 39 i = G 39 i ∧ H 41 i = G 41 i) : Mt H (c + a.length) (max S (c + a.length)) b := fun i p hp => by
  have := h (a.length + i) p (by rw [List.getElem?_append_right (by omega), show a.length + i - a.length = i by omega]; exact hp)
  rw [show c + (a.length + i) = c + a.length + i by omega] at this
  refine ⟨fun h1 => ?_, fun h1 => this.2 (by omega)⟩
  have h2 : c + a.length + i < S := by omega
  obtain ⟨x1, x2⟩ := hs _ h2
  rw [x1, x2]; exact this.1 h2
