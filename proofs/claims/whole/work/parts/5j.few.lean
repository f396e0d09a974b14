/-! mended: the class's answer; the call. Own text. -/
theorem LM.fr {t : List Int} {m : Int} {g g' : Gx} (h : LM t m g) (f : FR [21, 23, 25, 27, 59, 4526, 4527] g g') : LM t m g' := by
  obtain ⟨r2, k3, a1, a2, a3⟩ := h
  have cl : ∀ q, q ∉ [21, 23, 25, 27, 59, 4526, 4527] → ob q = false → g' q = g q := fun q a b => f.cell a b
  have e7_12 : g' 7 12 = g 7 12 := f.fld (by decide) (by decide)
  have e33_9 : g' 33 9 = g 33 9 := f.fld (by decide) (by decide)
  have e33_13 : g' 33 13 = g 33 13 := f.fld (by decide) (by decide)
  have e33_14 : g' 33 14 = g 33 14 := f.fld (by decide) (by decide)
  have e33_15 : g' 33 15 = g 33 15 := f.fld (by decide) (by decide)
  have e33_16 : g' 33 16 = g 33 16 := f.fld (by decide) (by decide)
  have e55_5 : g' 55 5 = g 55 5 := f.fld (by decide) (by decide)
  have ag : AGc g g' := ⟨f.fld (by decide) (by decide), cl 9 (by decide) (by decide), cl 11 (by decide) (by decide), cl 13 (by decide) (by decide), cl 15 (by decide) (by decide), cl 17 (by decide) (by decide), cl 19 (by decide) (by decide)⟩
  refine ⟨r2.of (f.fld (by decide) (by decide)) (f.fld (by decide) (by decide)) (f.fld (by decide) (by decide)) (f.fld (by decide) (by decide)) ag, ?_, by rw [e33_16]; exact a1, by rw [e55_5, e33_16]; exact a2, by rw [e33_13, e7_12]; exact a3⟩
  rw [e33_13, e7_12]
  intro h9
  obtain ⟨d1, d2, d3⟩ := k3 h9
  refine ⟨d1, by rw [e33_14]; exact d2, ?_⟩
  rw [e33_14, e33_15, e55_5, e33_16, cl 57 (by decide) (by decide)]
  rcases d3 with d3 | ⟨d3, d4, d5, d6⟩
  · exact Or.inl d3
  · exact Or.inr ⟨d3, d4, d5.of e33_9 (cl 37 (by decide) (by decide)) (cl 35 (by decide) (by decide)) (cl 43 (by decide) (by decide)) (cl 45 (by decide) (by decide)), d6⟩
theorem LM.more {t : List Int} {m m' : Int} {g : Gx} (h : LM t m g) (hm : m ≤ m') : LM t m' g := ⟨h.1, h.2.1, by have := h.2.2.1; omega, h.2.2.2⟩
theorem pc30_le {b M : Nat} (h : sbm b M) : pc30 b ≤ pc30 M := by
  unfold pc30
  rw [← List.countP_eq_length_filter, ← List.countP_eq_length_filter]
  exact List.countP_mono_left (fun x _ hx => h x hx)
theorem msk_ex (p : Nat → Bool) : ∀ k : Nat, ∃ M : Nat, M < 2 ^ k ∧ ∀ i, M.testBit i = true ↔ (i < k ∧ p i = true) := by
  intro k
  induction k with
  | zero => exact ⟨0, by decide, fun i => by simp⟩
  | succ k ih =>
    obtain ⟨M, h1, h2⟩ := ih
    by_cases c : p k = true
    · refine ⟨M ||| 2 ^ k, Nat.or_lt_two_pow (Nat.lt_trans h1 (Nat.pow_lt_pow_right (by decide) (by omega))) (Nat.pow_lt_pow_right (by decide) (by omega)), fun i => ?_⟩
      rw [Nat.testBit_or, Bool.or_eq_true, h2, Nat.testBit_two_pow]
      by_cases e : k = i
      · subst e; simp [c]
      · simp only [e, decide_false, Bool.false_eq_true, or_false]
        constructor
        · rintro ⟨a, b⟩; exact ⟨by omega, b⟩
        · rintro ⟨a, b⟩; exact ⟨by omega, b⟩
    · refine ⟨M, Nat.lt_trans h1 (Nat.pow_lt_pow_right (by decide) (by omega)), fun i => ?_⟩
      rw [h2]
      constructor
      · rintro ⟨a, b⟩; exact ⟨by omega, b⟩
      · rintro ⟨a, b⟩
        by_cases e : i = k
        · subst e; exact absurd b c
        · exact ⟨by omega, b⟩
theorem may_ex (t : List Int) : ∃ M : Nat, M < 1073741824 ∧ ∀ i, M.testBit i = true ↔ mayb t i = true := by
  obtain ⟨M, h1, h2⟩ := msk_ex (mayb t) 30
  refine ⟨M, h1, fun i => (h2 i).trans ⟨fun h => h.2, fun h => ⟨?_, h⟩⟩⟩
  have := (mayb_iff.mp h).1
  omega
theorem fel_ok {t : List Int} {M N : Nat} (hp : (pln t).1 = -1) (hD : okD (pD t)) (hM : ∀ i, M.testBit i = true ↔ mayb t i = true) (hM2 : M < 1073741824) (hN : mcnt t = N) (hN6 : N ≤ 6) {m : Int} (hm : m < 1000000000) (K : Gx → Option (Int × Gx)) : ∀ (k s n : Nat) (m' : Int) (G : Gx), s + k = N + 1 → k < n → m' + 64 * (k : Int) ≤ m → LM t m' G → CdP t 30 G → G 55 7 = -1 → (∀ b, sbm b M → pc30 b < s → ¬ okB t b) → ∃ G', Kn_fewestTellings_l65 (N : Int) K n (s : Int) G = K G' ∧ LM t m G' ∧ ((G' 55 7 = -1 ∧ ∀ b, sbm b M → ¬ okB t b) ∨ ∃ b : Nat, sbm b M ∧ okB t b ∧ G' 55 7 = (b : Int) ∧ ∀ b', sbm b' M → okB t b' → pc30 b < pc30 b' ∨ (pc30 b = pc30 b' ∧ b ≤ b')) := by
  have pM : pc30 M = N := by rw [← hN, (mnP_of hM).1]
  intro k
  induction k with
  | zero =>
    intro s n m' G hs hn hmm hl hc h7 hall
    obtain ⟨n, rfl⟩ : ∃ q, n = q + 1 := ⟨n - 1, by omega⟩
    refine ⟨G, by rw [Kn_fewestTellings_l65, if_pos (by omega)], hl.more (by omega), Or.inl ⟨h7, fun b hb => hall b hb ?_⟩⟩
    have := pc30_le hb
    omega
  | succ k ih =>
    intro s n m' G hs hn hmm hl hc h7 hall
    obtain ⟨n, rfl⟩ : ∃ q, n = q + 1 := ⟨n - 1, by omega⟩
    obtain ⟨r, g', e1, e2, e3, e4⟩ := los_ok hp hD hM hM2 hN hN6 hl (by omega) hc s
    rw [Kn_fewestTellings_l65, if_neg (by omega), if_neg (fun h9 => h9 h7), e1, ob_eq]
    simp only
    rw [wr_id (show -2147483648 ≤ (s : Int) + 1 by omega) (by omega), show (s : Int) + 1 = ((s + 1 : Nat) : Int) by omega]
    have l2 : LM t (m' + 64) (gset g' 55 7 r) := e2.fr ((FR.rf _ _).go ⟨rfl, by decide⟩)
    have c2 : CdP t 30 (gset g' 55 7 r) := e3.fr (gset_ne (by decide))
    rcases e4 with ⟨q1, q2⟩ | ⟨b, q1, q2, q3, q4, q5⟩
    · refine ih (s + 1) n (m' + 64) _ (by omega) (by omega) (by omega) l2 c2 (by rw [gs_same]; exact q1) (fun b hb hlt => ?_)
      by_cases e : pc30 b = s
      · exact q2 b hb e
      · exact hall b hb (by omega)
    · obtain ⟨n, rfl⟩ : ∃ q, n = q + 1 := ⟨n - 1, by omega⟩
      refine ⟨gset g' 55 7 r, ?_, l2.more (by omega), Or.inr ⟨b, q1, q3, by rw [gs_same]; exact q4, fun b' hb ho => ?_⟩⟩
      · rw [Kn_fewestTellings_l65, gs_same, if_pos (show ¬ r = -1 by omega)]
        split <;> rfl
      · have n1 : ¬ pc30 b' < s := fun h9 => hall b' hb h9 ho
        by_cases e : pc30 b' = s
        · exact Or.inr ⟨by omega, q5 b' hb e ho⟩
        · exact Or.inl (by omega)
theorem fel_out (c2 : Int) (K : Gx → Option (Int × Gx)) (n : Nat) (hn : 0 < n) (v : Int) (G : Gx) (h : ¬ G 55 7 = -1) : Kn_fewestTellings_l65 c2 K n v G = K G := by
  obtain ⟨n, rfl⟩ : ∃ q, n = q + 1 := ⟨n - 1, by omega⟩
  rw [Kn_fewestTellings_l65, if_pos h]
  split <;> rfl
theorem few_ok {T : Nat} {t pt : List Int} {u : Int} {g : Gx} (h : Inv T t pt u g) (hT : T < 90000) (hr : Rdy t g) (hp : (pln t).1 = -1) : ∃ v g', Kn_fewestTellings (pus t : Int) g = some (v, g') ∧ MnP t v ∧ Inv (T + 8) t pt u g' := by
  have hb := h.bas
  obtain ⟨-, hx, -, -, -, -, -, hc, t0, k1, k2, k3, k4, k5⟩ := id h
  obtain ⟨r1, r2⟩ := id hr
  have e := k1 r1
  subst e
  obtain ⟨a1, a2, a3, a4, a5, a6, a7, a8, a9⟩ := id hc
  by_cases hch : g 55 6 = g 7 12
  · refine ⟨g 55 7, g, ?_, k4 hch, h.more (by omega)⟩
    unfold Kn_fewestTellings St_version
    rw [if_neg (fun h9 => h9 hch)]
  · suffices hh : ∃ v g', Kn_fewestTellings (pus t0 : Int) g = some (v, g') ∧ MnP t0 v ∧ LM t0 (100 * (T : Int) + 500) g' ∧ g' 55 7 = v ∧ g' 55 6 = g 7 12 by
      obtain ⟨v, g', q1, q2, ⟨l1, l2, l3, l4, l5⟩, q4, q5⟩ := hh
      have f := fr_Kn_fewestTellings _ _ _ _ q1
      have c1 : g' 1 3 = g 1 3 := f.fld (by decide) (by decide)
      have c43 : g' 4 3 = g 4 3 := f.fld (by decide) (by decide)
      have c28 : g' 28 9 = g 28 9 := f.fld (by decide) (by decide)
      have c7 : g' 7 12 = g 7 12 := f.fld (by decide) (by decide)
      have c69 : g' 69 9 = g 69 9 := f.fld (by decide) (by decide)
      refine ⟨v, g', q1, q2, (hb.fr (f.cl (by decide))).inv (t0 := t0) ?_ ⟨fun _ => rfl, fun _ => l1, fun h9 => ⟨by rw [c28]; omega, l2 h9⟩, fun _ => by rw [q4]; exact q2, fun h9 => ?_⟩⟩
      · unfold Cnt
        rw [c1, c43, c28, c69, q5]
        rw [c7] at l5 ⊢
        omega
      · rw [c69, c43] at h9
        exact (k5 h9).of (f.fld (by decide) (by decide)) (f.fld (by decide) (by decide)) (f.cell (by decide) (by decide)) (f.cell (by decide) (by decide)) (f.cell (by decide) (by decide)) (f.cell (by decide) (by decide))
    have hD := hr.okd hp
    have lm0 : LM t0 (100 * (T : Int)) g := ⟨r2, fun h9 => (k3 h9).2, a6, a7, a5⟩
    obtain ⟨-, -, b3, b4, z, b5, b6, b7⟩ := r2.2 hp
    have f0 : FR [21, 23, 25, 27, 59, 4526, 4527] g (gset g 55 6 (g 7 12)) := (FR.rf _ _).go ⟨rfl, by decide⟩
    have lm1 := lm0.fr f0
    obtain ⟨-, -, x3, x4, z1, x5, x6, x7⟩ := lm1.1.2 hp
    obtain ⟨G1, y1, y2, y3⟩ := fc_ok (t := t0) (g := gset g 55 6 (g 7 12)) x3 x4
    have f1 : FR [21, 23, 25, 27, 59, 4526, 4527] (gset g 55 6 (g 7 12)) G1 := y3.cl (by decide)
    have lm2 := lm1.fr f1
    have v1 : G1 55 6 = g 7 12 := by rw [y3.fld (by decide) (by decide)]; exact gs_same
    unfold Kn_fewestTellings St_version
    rw [if_pos hch, y1, ob_eq]
    simp only
    by_cases c6 : 6 < mcnt t0
    · rw [if_pos (by omega), fel_out _ _ fu (fu_big 0 (by decide)) _ _ (by rw [gs_same]; decide)]
      exact ⟨-4, gset G1 55 7 (-4), by rw [gs_same], Or.inl ⟨Or.inl c6, rfl⟩, (lm2.fr ((FR.rf _ _).go ⟨rfl, by decide⟩)).more (by omega), gs_same, by rw [gs_at (by decide)]; exact v1⟩
    · rw [if_neg (by omega)]
      obtain ⟨-, -, -, -, z2, w5, w6, w7⟩ := lm2.1.2 hp
      obtain ⟨r, G2, s1, s2, s3⟩ := tooMuch_ok (u := 0) (by decide) w5 w6 w7
      have f2 : FR [21, 23, 25, 27, 59, 4526, 4527] G1 G2 := (fr_St_isTooMuch _ _ _ _ s1).cl (by decide)
      have lm3 := lm2.fr f2
      have v2 : G2 55 6 = g 7 12 := by rw [(fr_St_isTooMuch _ _ _ _ s1).fld (by decide) (by decide)]; exact v1
      have cd2 : CdP t0 30 G2 := y2.fr ((fr_St_isTooMuch _ _ _ _ s1).cell (by decide) (by decide))
      rw [s1, ob_eq]
      simp only
      rcases s2 with s2 | s2
      · have nT : ¬ TM (pD t0 0) := fun h9 => by have := s3.mpr h9; omega
        rw [if_pos s2]
        obtain ⟨M, m1, m2⟩ := may_ex t0
        obtain ⟨G3, p1, p2, p3⟩ := fel_ok hp hD m2 m1 rfl (show mcnt t0 ≤ 6 by omega) (m := 100 * (T : Int) + 500) (by omega) (fun g5 => some ((g5 55 7), g5)) (mcnt t0 + 1) 0 fu (100 * (T : Int)) (gset G2 55 7 (-1)) (by omega) (Nat.lt_of_le_of_lt (show mcnt t0 + 1 ≤ 7 by omega) (fu_big 7 (by decide))) (by omega) (lm3.fr ((FR.rf _ _).go ⟨rfl, by decide⟩)) (cd2.fr (gset_ne (by decide))) gs_same (fun b _ h9 => by omega)
        rw [show ((0 : Nat) : Int) = 0 from rfl] at p1
        rw [p1]
        have e2 := (mnP_of m2).2
        refine ⟨G3 55 7, G3, rfl, Or.inr ⟨fun h9 => by rcases h9 with h9 | h9; exact c6 h9; exact nT h9, ?_⟩, p2, rfl, ?_⟩
        · rcases p3 with ⟨q1, q2⟩ | ⟨b, q1, q2, q3, q4⟩
          · exact Or.inl ⟨q1, fun b hb => q2 b ((e2 b).mp hb)⟩
          · exact Or.inr ⟨b, (e2 b).mpr q1, q2, q3, fun b' hb ho => q4 b' ((e2 b').mp hb) ho⟩
        · have f3 := fr_Kn_fewestTellings_l65 _ (fun g5 => some ((g5 55 7), g5)) [21, 23, 25, 27, 35, 37, 39, 41, 43, 45, 47, 49, 52, 54, 57, 3121, 3122, 3123, 3124, 3125, 3126, 3127, 3128, 4525, 4527] (fun c hc => hc) (fun g r g' e => by cases e; exact FR.rf _ _) _ _ _ _ _ p1
          rw [f3.fld (by decide) (by decide), gs_at (by decide)]
          exact v2
      · rw [if_neg (by omega), fel_out _ _ fu (fu_big 0 (by decide)) _ _ (by rw [gs_same]; decide)]
        exact ⟨-4, gset G2 55 7 (-4), by rw [gs_same], Or.inl ⟨Or.inr (s3.mp s2), rfl⟩, (lm3.fr ((FR.rf _ _).go ⟨rfl, by decide⟩)).more (by omega), gs_same, by rw [gs_at (by decide)]; exact v2⟩
theorem st_mended {T : Nat} {t pt : List Int} {u : Int} {g : Gx} (h : Inv T t pt u g) (hT : T < 79000) : ∃ r g1 g2, Op_mended g = some (r, g1) ∧ Md_mended g1 = some (r, g2) ∧ Inv (T + 9) t pt u g2 := by
  unfold Op_mended
  obtain ⟨g1, e1, e2, e3⟩ := fault_ok h (by omega)
  rw [e1, ob_eq]
  simp only
  by_cases hp : (pln t).1 = -1
  · rw [if_pos hp, show Pr_used g1 = (pus t : Int) from (e3.2.2 hp).1]
    obtain ⟨v, g2, f1, f2, f3⟩ := few_ok e2 (by omega) e3 hp
    rw [f1, ob_eq]
    obtain ⟨v', g3, m1, m2, m3⟩ := mnR_ok f3 (by omega)
    rcases m3 with ⟨m3, -⟩ | ⟨-, m3⟩
    · exact absurd hp m3
    · rw [mnP_one m3 f2] at m1
      exact ⟨v, g2, g3, rfl, m1, m2⟩
  · rw [if_neg hp]
    obtain ⟨v', g3, m1, m2, m3⟩ := mnR_ok e2 (by omega)
    rcases m3 with ⟨-, m3⟩ | ⟨m3, -⟩
    · rw [m3] at m1
      exact ⟨-3, g1, g3, rfl, m1, m2.more (by omega)⟩
    · exact absurd m3 hp
