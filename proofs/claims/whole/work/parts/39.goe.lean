/-! The reference walks: all that acts stand for. Own text. -/
def AGr (g G : Gx) : Prop := G 92 9 = g 92 9 ∧ G 99 = g 99 ∧ G 100 = g 100 ∧ G 101 = g 101 ∧ G 102 = g 102 ∧ G 103 = g 103 ∧ G 104 = g 104
theorem AGr.fr {g G G' : Gx} {W : List Nat} (h : AGr g G) (f : FR W G G') (hW : 92 ∉ W ∧ 1000 + 64 * 92 + 9 ∉ W ∧ 99 ∉ W ∧ 100 ∉ W ∧ 101 ∉ W ∧ 102 ∉ W ∧ 103 ∉ W ∧ 104 ∉ W) : AGr g G' := by
  obtain ⟨a, b, c1, d, e, x, k⟩ := h
  obtain ⟨w0, w1, w2, w3, w4, w5, w6, w7⟩ := hW
  exact ⟨by rw [f.fld w0 w1]; exact a, by rw [f.cell w2 rfl]; exact b, by rw [f.cell w3 rfl]; exact c1, by rw [f.cell w4 rfl]; exact d, by rw [f.cell w5 rfl]; exact e, by rw [f.cell w6 rfl]; exact x, by rw [f.cell w7 rfl]; exact k⟩
def MtR (G : Gx) (c F : Nat) (ps : List Pk) : Prop := ∀ i p, ps[i]? = some p → (c + i < F → G 114 (c + i) = (p.1 : Int)) ∧ (F ≤ c + i → p.1 = 0)
def PsR (G G' : Gx) (h c F L : Nat) (e : Hy) : Prop :=
  G' 92 35 = ((c + e.1.length : Nat) : Int) ∧ G' 92 36 = ((L + e.2.length : Nat) : Int) ∧ (h < 30 → ∀ i x, e.2[i]? = some x → G' 111 (24 * h + L + i) = x) ∧ (∀ i, i < 24 * h + L → G' 111 i = G 111 i) ∧ (∀ i, i < F ∨ i < c → G' 114 i = G 114 i) ∧ (∀ i, i < c → G' 115 i = G 115 i ∧ G' 116 i = G 116 i) ∧ (∀ i p, e.1[i]? = some p → G' 114 (c + i) = (p.1 : Int) ∧ G' 115 (c + i) = (p.2.2.1 : Int) - 1 ∧ G' 116 (c + i) = (p.2.2.2 : Int)) ∧ G' 92 26 = (h : Int)
theorem PsR.nil {G : Gx} {h c F L : Nat} (h1 : G 92 35 = (c : Int)) (h2 : G 92 36 = (L : Int)) (h3 : G 92 26 = (h : Int)) : PsR G G h c F L ([], []) :=
  ⟨h1, h2, fun _ i x hx => by simp at hx, fun _ _ => rfl, fun _ _ => rfl, fun _ _ => ⟨rfl, rfl⟩, fun i p hp => by simp at hp, h3⟩
theorem PsR.app {G H I : Gx} {h c F L : Nat} {a b : Hy} (h1 : PsR G H h c F L a) (h2 : PsR H I h (c + a.1.length) F (L + a.2.length) b) : PsR G I h c F L (hcat a b) := by
  obtain ⟨a1, a2, a3, a4, a5, a6, a7, a8⟩ := h1
  obtain ⟨b1, b2, b3, b4, b5, b6, b7, b8⟩ := h2
  refine ⟨by rw [b1]; simp only [hcat, List.length_append]; congr 1; omega, by rw [b2]; simp only [hcat, List.length_append]; congr 1; omega, fun hh i x hx => ?_, fun i hi => (b4 i (by omega)).trans (a4 i hi), fun i hi => (b5 i (by omega)).trans (a5 i hi), fun i hi => ⟨(b6 i (by omega)).1.trans (a6 i hi).1, (b6 i (by omega)).2.trans (a6 i hi).2⟩, fun i p hp => ?_, b8⟩
  · rcases Nat.lt_or_ge i a.2.length with hi | hi
    · rw [hcat, List.getElem?_append_left hi] at hx
      rw [b4 _ (by omega)]
      exact a3 hh i x hx
    · rw [hcat, List.getElem?_append_right hi] at hx
      have := b3 hh _ x hx
      rw [show 24 * h + (L + a.2.length) + (i - a.2.length) = 24 * h + L + i by omega] at this
      exact this
  · rcases Nat.lt_or_ge i a.1.length with hi | hi
    · rw [hcat, List.getElem?_append_left hi] at hp
      rw [b5 (c + i) (by omega), (b6 (c + i) (by omega)).1, (b6 (c + i) (by omega)).2]
      exact a7 i p hp
    · rw [hcat, List.getElem?_append_right hi] at hp
      have := b7 _ p hp
      rw [show c + a.1.length + (i - a.1.length) = c + i by omega] at this
      exact this
theorem MtR.left {G : Gx} {c F : Nat} {a b : List Pk} (h : MtR G c F (a ++ b)) : MtR G c F a := fun i p hp => h i p (by
  have : i < a.length := (List.getElem?_eq_some_iff.mp hp).1
  rw [List.getElem?_append_left this]; exact hp)
theorem MtR.right {G H : Gx} {c F : Nat} {a b : List Pk} (h : MtR G c F (a ++ b)) (hs : ∀ i, i < F → H 114 i = G 114 i) : MtR H (c + a.length) F b := fun i p hp => by
  have := h (a.length + i) p (by rw [List.getElem?_append_right (by omega), show a.length + i - a.length = i by omega]; exact hp)
  rw [show c + (a.length + i) = c + a.length + i by omega] at this
  exact ⟨fun h1 => by rw [hs _ h1]; exact this.1 h1, this.2⟩
theorem chooses_ok {g G : Gx} {u : Int} {h lo cc t m i c F L : Nat} (hu : 0 ≤ u ∧ u ≤ 1073741823) (hh2 : h ≤ 30) (hlo : lo < 170) (hc : cc < 40) (ht : t < 6) (hm : 2 ≤ m ∧ m ≤ 4) (hi : i < m) (ag : AGr g G) (q0 : g 100 lo = (t : Int)) (q1 : g 101 lo = (m : Int)) (q2 : g 102 lo = (cc : Int)) (x5 : G 92 35 = (c : Int)) (x6 : G 92 36 = (L : Int)) (x7 : G 92 26 = (h : Int)) (hc30 : c ≤ 30) (hL24 : L ≤ 24) (hM : (c < F → G 114 c = (i : Int)) ∧ (F ≤ c → i = 0)) :
    (c < 30 ∧ L + (tells u cc t i).length ≤ 24 → ∃ G2, Md_chooses (lo : Int) (F : Int) u G = some (1, G2) ∧ AGr g G2 ∧ G2 117 = G 117 ∧ PsR G G2 h c F L ([(i, cc, m, t)], tells u cc t i)) ∧ (¬ (c < 30 ∧ L + (tells u cc t i).length ≤ 24) → ∃ G2, Md_chooses (lo : Int) (F : Int) u G = some (0, G2)) := by
  unfold Md_chooses
  rw [x5]
  by_cases h30 : c < 30
  · have r1 : (0 : Int) ≤ (lo : Int) ∧ (lo : Int) < 170 := by omega
    have r2 : (0 : Int) ≤ (c : Int) ∧ (c : Int) < 30 := by omega
    rw [if_pos (by omega), if_pos r1, if_pos r2, if_pos r1, if_pos r2, if_pos r2, if_pos r1, if_pos r2, if_pos r1, if_pos r2]
    simp only [Int.toNat_natCast]
    rw [show G 101 lo = (m : Int) by rw [ag.2.2.2.1]; exact q1, show G 100 lo = (t : Int) by rw [ag.2.2.1]; exact q0, wr_id (x := (m : Int) - 1) (by omega) (by omega)]
    obtain ⟨K, hK⟩ : ∃ K : Int → Gx → Option (Int × Gx), K = fun x2 g3 => if x2 = 0 ∨ x2 = 1 then some (x2, (gset g3 92 35 (wr ((g3 92 35) + 1)))) else none := ⟨_, rfl⟩
    rw [← hK]
    have main : ∀ (G1 : Gx), FR [114, 115, 116] G G1 → G1 114 c = (i : Int) → G1 115 c = (m : Int) - 1 → G1 116 c = (t : Int) → (∀ j, j < F ∨ j < c → G1 114 j = G 114 j) → (∀ j, j < c → G1 115 j = G 115 j ∧ G1 116 j = G 116 j) → (c < 30 ∧ L + (tells u cc t i).length ≤ 24 → ∃ G2, Md_chooses_l67 (lo : Int) u K fu 1 0 G1 = some (1, G2) ∧ AGr g G2 ∧ G2 117 = G 117 ∧ PsR G G2 h c F L ([(i, cc, m, t)], tells u cc t i)) ∧ (¬ (c < 30 ∧ L + (tells u cc t i).length ≤ 24) → ∃ G2, Md_chooses_l67 (lo : Int) u K fu 1 0 G1 = some (0, G2)) := by
      intro G1 f1 e1 e2 e3 e4 e5
      have ag1 := ag.fr f1 (by decide)
      obtain ⟨t1, t2⟩ := tellR hu (lo := lo) (cc := cc) (t := t) (w := i) (h := h) (c := c) hlo hc ht (by omega) h30 hh2 K 6 0 fu G1 L (by omega) (fu_big _ (by omega)) (by rw [ag1.2.2.2.2.1]; exact q2) (by rw [ag1.2.2.1]; exact q0) (by rw [f1.fld (by decide) (by decide)]; exact x7) (by rw [f1.fld (by decide) (by decide)]; exact x5) e1 (by rw [f1.fld (by decide) (by decide)]; exact x6) hL24
      refine ⟨fun hf => ?_, fun hf => ?_⟩
      · obtain ⟨G2, z1, z2⟩ := t1 hf.2
        obtain ⟨s1, s2, s3, s5⟩ := z2
        have z1 : Md_chooses_l67 (lo : Int) u K fu 1 0 G1 = K 1 G2 := z1
        have c2 : G2 92 35 = (c : Int) := by rw [s5.fld (by decide) (by decide), f1.fld (by decide) (by decide)]; exact x5
        refine ⟨gset G2 92 35 ((c : Int) + 1), ?_, ?_, ?_, ?_⟩
        · rw [z1, hK]
          simp only
          rw [if_pos (Or.inr trivial), c2, wr_id (by omega) (by omega)]
        · exact ((ag1.fr s5 (by decide)).fr (FR.go (FR.rf [6923] G2) ⟨rfl, by decide⟩) (by decide))
        · rw [gset_ne (by decide), s5.cell (by decide) (by decide), f1.cell (by decide) (by decide)]
        · refine ⟨by simp [gset], by simp [gset]; rw [s1]; rfl, fun hh j x hx => by simp [gset]; exact s2 hh j x hx, fun j hj => ?_, fun j hj => ?_, fun j hj => ?_, fun j p hp => ?_, ?_⟩
          · simp [gset]; rw [s3 j hj, f1.cell (by decide) (by decide)]
          · simp [gset]; rw [s5.cell (by decide) (by decide)]; exact e4 j hj
          · simp [gset]; rw [s5.cell (q := 115) (by decide) (by decide), s5.cell (q := 116) (by decide) (by decide)]; exact e5 j hj
          · have hj : j = 0 := by
              rcases Nat.eq_zero_or_pos j with h | h
              · exact h
              · rw [List.getElem?_eq_none (by simp; omega)] at hp; cases hp
            subst hj
            simp at hp
            subst hp
            simp [gset]
            rw [s5.cell (q := 114) (by decide) (by decide), s5.cell (q := 115) (by decide) (by decide), s5.cell (q := 116) (by decide) (by decide)]
            exact ⟨e1, e2, e3⟩
          · simp [gset]; rw [s5.fld (by decide) (by decide), f1.fld (by decide) (by decide)]; exact x7
      · obtain ⟨G2, z1, z2⟩ := t2 (by
          have : (tlx u cc t i 0).length = (tells u cc t i).length := rfl
          omega)
        have z1 : Md_chooses_l67 (lo : Int) u K fu 1 0 G1 = K 0 G2 := z1
        rw [z1, hK]
        simp only
        rw [if_pos (Or.inl trivial)]
        exact ⟨_, rfl⟩
    by_cases hcF : c < F
    · rw [if_pos (by omega)]
      refine main _ (FR.gs (FR.gs (FR.rf _ _) (by decide)) (by decide)) ?_ ?_ ?_ (fun j hj => by simp [gset]) (fun j hj => ?_)
      · simp [gset]; exact hM.1 hcF
      · simp [gset]
      · simp [gset]
      · have : j ≠ c := by omega
        simp [gset, this]
    · rw [if_neg (by omega)]
      have i0 := hM.2 (by omega)
      refine main _ (FR.gs (FR.gs (FR.gs (FR.rf _ _) (by decide)) (by decide)) (by decide)) ?_ ?_ ?_ (fun j hj => ?_) (fun j hj => ?_)
      · simp [gset, i0]
      · simp [gset]
      · simp [gset]
      · have : j ≠ c := by omega
        simp [gset, this]
      · have : j ≠ c := by omega
        simp [gset, this]
  · rw [if_neg (by omega)]
    exact ⟨fun h9 => by omega, fun _ => ⟨G, rfl⟩⟩
