/-! The reference's whole reading. Own text. -/
theorem pitem_due {t : List Int} {p : Nat} {fs : List Fm} {D : Ds} {cs : List Nat} {us sy : Nat} {s' : PS} (e : pitem t p fs D cs us sy = .inr s') : (s'.2.1 = true ∧ s'.2.2.1.length = fs.length + 1) ∨ (s'.2.1 = false ∧ s'.2.2.1.length = fs.length) := by
  unfold pitem at e
  repeat' split at e
  all_goals first
    | cases e; exact Or.inr ⟨rfl, rfl⟩
    | cases e; exact Or.inl ⟨rfl, rfl⟩
    | cases e
theorem bitsU {us : Nat} {b : Int} (hus : us < 64) (hb : 65 ≤ b ∧ b ≤ 70) : jor (us : Int) (jshl 1 (wr (b - 65))) = ((us ||| 2 ^ (b - 65).toNat : Nat) : Int) := by
  have b1 : 2 ^ (b - 65).toNat < 2 ^ 6 := Nat.pow_lt_pow_right (by decide) (by omega)
  rw [wr_id (x := b - 65) (by omega) (by omega), show b - 65 = ((b - 65).toNat : Int) by omega, jshl_one _ (by omega), jor_nn (by omega) (by omega), Int.toNat_natCast]
theorem bitsV {us : Nat} {b x : Int} (hus : us < 64) (hb : 65 ≤ b ∧ b ≤ 70) (hx : 65 ≤ x ∧ x ≤ 70) : jor (us : Int) (jor (jshl 1 (wr (b - 65))) (jshl 1 (wr (x - 65)))) = ((us ||| (2 ^ (b - 65).toNat ||| 2 ^ (x - 65).toNat) : Nat) : Int) := by
  have b1 : 2 ^ (b - 65).toNat < 2 ^ 6 := Nat.pow_lt_pow_right (by decide) (by omega)
  have b2 : 2 ^ (x - 65).toNat < 2 ^ 6 := Nat.pow_lt_pow_right (by decide) (by omega)
  have b3 := Nat.or_lt_two_pow b1 b2
  rw [wr_id (x := b - 65) (by omega) (by omega), wr_id (x := x - 65) (by omega) (by omega), show b - 65 = ((b - 65).toNat : Int) by omega, show x - 65 = ((x - 65).toNat : Int) by omega, jshl_one _ (by omega), jshl_one _ (by omega), jor_nn (by omega) (by omega), jor_nn (by omega) (by omega), Int.toNat_natCast, Int.toNat_natCast]
theorem rr_item {t : List Int} {p : Nat} {fs : List Fm} {D : Ds} {cs : List Nat} {us sy : Nat} {g : Gx} (hx : TxR t g) (hk : okT t (p, true, fs, D, cs, us, sy)) (h : RR (p, true, fs, D, cs, us, sy) g) :
    (∀ f, pitem t p fs D cs us sy = .inl f → ∃ g', Md_readsItem g = some (0, g') ∧ g' 92 8 = (f : Int)) ∧ (∀ s', pitem t p fs D cs us sy = .inr s' → ∃ g', Md_readsItem g = some (1, g') ∧ RR s' g') := by
  have hcs := hk.cs hx.2.1
  obtain ⟨k1, k2, -, -, -, k6, k7⟩ := hk
  have k1 : p ≤ t.length := k1
  have k2 : fs.length ≤ 4 := k2
  have k6 : us < 64 := k6
  have k7 : sy ≤ p := k7
  have hcs : cs.length < 40 := hcs
  have q1 : g 92 8 = (p : Int) := h.1
  have q2 : g 92 20 = (fs.length : Int) := h.2.1
  have q3 : g 92 18 = (us : Int) := h.2.2.1
  have q4 : g 92 17 = (sy : Int) := h.2.2.2.1
  have q5 : g 92 16 = (cs.length : Int) := h.2.2.2.2.1
  obtain ⟨z, lo, q8, q9, -⟩ := h.2.2.2.2.2
  have q9 : z ≤ p := q9
  have ht := hx.2.1
  have w1 : wr (g 92 8 + 1) = ((p + 1 : Nat) : Int) := by rw [q1, wr_id (by omega) (by omega)]; omega
  have w2 : wr ((p + 1 : Nat) + 1 : Int) = ((p + 2 : Nat) : Int) := by rw [wr_id (by omega) (by omega)]; omega
  have w3 : wr ((p + 2 : Nat) + 1 : Int) = ((p + 3 : Nat) : Int) := by rw [wr_id (by omega) (by omega)]; omega
  have w4 : wr ((p + 3 : Nat) + 1 : Int) = ((p + 4 : Nat) : Int) := by rw [wr_id (by omega) (by omega)]; omega
  have h0 := here0 hx p q1 (by omega)
  have h1 := hereK hx (p + 1) (by omega)
  have h2 := hereK hx (p + 2) (by omega)
  have h3 := hereK hx (p + 3) (by omega)
  have i0 : Md_isTalker 0 g = some (if 65 ≤ chr t p ∧ chr t p ≤ 70 then 1 else 0, g) := by
    unfold Md_isTalker; rw [h0, ob_eq, in_eq]
  have i2 := isTK hx (p + 2) (by omega)
  unfold Md_readsItem
  rw [h0, ob_eq]
  simp only
  rw [in_eq, w1]
  unfold pitem
  by_cases c1 : chr t p = 45
  · rw [if_pos c1, if_neg (by omega)]
    refine ⟨fun f hf => (by cases hf), fun s' hs => ?_⟩
    cases hs
    exact ⟨_, rfl, rr_com h⟩
  · rw [if_neg c1, if_pos c1]
    by_cases c2 : 65 ≤ chr t p ∧ chr t p ≤ 70
    · rw [if_pos c2, if_neg (show ¬ (50 ≤ chr t p ∧ chr t p ≤ 52) by omega), if_pos rfl, i0, ob_eq, if_pos c2]
      simp only
      rw [if_pos (show ¬ (1 : Int) = 0 by decide), w1, h1, ob_eq]
      simp only
      by_cases c3 : chr t (p + 1) = 40
      · rw [if_neg (show ¬ ¬ chr t (p + 1) = 40 by omega), if_neg (show ¬ chr t (p + 1) = 62 by omega)]
        have oe := opens_eq hx (v := p + 1) (by omega) q8 (by omega) q2 k2 1 (wr (chr t p - 65)) 1 (gset g 92 8 ((p + 1 : Nat) : Int) 92 16)
        rw [oe]
        by_cases c4 : fs.length < 4
        · rw [if_pos ⟨c3, c4⟩, if_pos ⟨c3, c4⟩, ob_eq]
          simp only
          rw [if_pos (show ¬ (1 : Int) = 0 by decide)]
          refine ⟨fun f hf => (by cases hf), fun s' hs => ?_⟩
          cases hs
          refine ⟨_, rfl, ?_⟩
          have key := rr_opc (U := us ||| 2 ^ (chr t p - 65).toNat) h c2 q8
          have e16 : gset g 92 8 ((p + 1 : Nat) : Int) 92 16 = (cs.length : Int) := by rw [gi (by decide)]; exact q5
          rw [e16, wr_id (x := chr t p - 65) (by omega) (by omega)]
          have f16 : opH fs.length z (p + 1) 1 (chr t p - 65) 1 (cs.length : Int) g 92 16 = (cs.length : Int) := by unfold opH; simp [gset]; exact q5
          have f18 : opH fs.length z (p + 1) 1 (chr t p - 65) 1 (cs.length : Int) g 92 18 = (us : Int) := by unfold opH; simp [gset]; exact q3
          have bu := bitsU k6 c2
          rw [wr_id (x := chr t p - 65) (by omega) (by omega)] at bu
          rw [f16, f18, bu, wr_id (x := (cs.length : Int) + 1) (by omega) (by omega)]
          exact key
        · rw [if_neg (by omega), if_neg (by omega), ob_eq]
          simp only
          rw [if_neg (by decide)]
          refine ⟨fun f hf => ?_, fun s' hs => (by cases hs)⟩
          cases hf
          exact ⟨_, rfl, gs_same⟩
      · rw [if_pos c3, h1, ob_eq]
        simp only
        by_cases c4 : chr t (p + 1) = 62
        · rw [if_pos c4, if_pos c4, gs_same, w2, gset_gset, i2, ob_eq]
          simp only
          by_cases c5 : 65 ≤ chr t (p + 2) ∧ chr t (p + 2) ≤ 70
          · rw [if_pos c5, if_neg (show ¬ (1 : Int) = 0 by decide), h2, ob_eq]
            simp only
            by_cases c6 : chr t (p + 2) = chr t p
            · rw [if_neg (show ¬ ¬ chr t (p + 2) = chr t p by omega), if_pos (Or.inr c6)]
              refine ⟨fun f hf => ?_, fun s' hs => (by cases hs)⟩
              cases hf
              exact ⟨_, rfl, gs_same⟩
            · have nn : ¬ (¬ (65 ≤ chr t (p + 2) ∧ chr t (p + 2) ≤ 70) ∨ chr t (p + 2) = chr t p) := by
                rintro (h9 | h9)
                · exact h9 c5
                · exact c6 h9
              rw [if_pos c6, if_neg nn, h2, ob_eq]
              simp only
              rw [gs_same, w3, gset_gset, h3, ob_eq]
              simp only
              rw [in_eq]
              by_cases c7 : 97 ≤ chr t (p + 3) ∧ chr t (p + 3) ≤ 122
              · rw [if_pos c7, if_pos (show ¬ (1 : Int) = 0 by decide), if_neg (show ¬ ¬ (97 ≤ chr t (p + 3) ∧ chr t (p + 3) ≤ 122) from fun h9 => h9 c7), h3, ob_eq]
                simp only
                have lt := chr_lt (t := t) (p := p + 3) (by omega)
                rw [act_eq (z := z) (by rw [gi (by decide)]; exact q8) (by omega), ob_eq]
                refine ⟨fun f hf => (by cases hf), fun s' hs => ?_⟩
                cases hs
                refine ⟨_, rfl, ?_⟩
                have key := rr_say (U := us ||| (2 ^ (chr t p - 65).toNat ||| 2 ^ (chr t (p + 2) - 65).toNat)) h c2 c5 c7 q8
                simp (disch := decide) only [gc, gi, gs_same]
                rw [w4, q4, q3, bitsV k6 c2 c5, wr_id (x := (sy : Int) + 1) (by omega) (by omega), wr_id (x := chr t p - 65) (by omega) (by omega), wr_id (x := chr t (p + 2) - 65) (by omega) (by omega), wr_id (x := chr t (p + 3) - 97) (by omega) (by omega)]
                refine cast (congrArg _ ?_) key
                funext b j
                simp only [gset]
                by_cases hb : b = 92
                · subst hb
                  by_cases hj : j = 8
                  · subst hj; simp
                  · simp [hj]
                · simp [hb]
              · rw [if_neg c7, if_neg (show ¬ ¬ (0 : Int) = 0 by decide), if_pos (show ¬ (97 ≤ chr t (p + 3) ∧ chr t (p + 3) ≤ 122) from c7)]
                refine ⟨fun f hf => ?_, fun s' hs => (by cases hs)⟩
                cases hf
                exact ⟨_, rfl, gs_same⟩
          · rw [if_neg c5, if_pos rfl, if_pos (Or.inl c5)]
            refine ⟨fun f hf => ?_, fun s' hs => (by cases hs)⟩
            cases hf
            exact ⟨_, rfl, gs_same⟩
        · rw [if_neg c4, if_neg c4, if_neg (show ¬ (chr t (p + 1) = 40 ∧ fs.length < 4) by omega)]
          refine ⟨fun f hf => ?_, fun s' hs => (by cases hs)⟩
          cases hf
          exact ⟨_, rfl, gs_same⟩
    · rw [if_neg c2]
      by_cases c3 : 50 ≤ chr t p ∧ chr t p ≤ 52
      · rw [if_pos c3, if_pos c3, if_neg (show ¬ (1 : Int) = 0 by decide)]
        have oe := opens_eq hx (v := p + 1) (by omega) q8 (by omega) q2 k2 3 0 (wr (chr t p - 48)) 0
        rw [oe]
        by_cases c4 : chr t (p + 1) = 40 ∧ fs.length < 4
        · rw [if_pos c4, if_pos c4, ob_eq]
          simp only
          rw [if_pos (Or.inr trivial)]
          refine ⟨fun f hf => (by cases hf), fun s' hs => ?_⟩
          cases hs
          refine ⟨_, rfl, ?_⟩
          rw [wr_id (x := chr t p - 48) (by omega) (by omega)]
          exact rr_opr h c3 q8
        · rw [if_neg c4, if_neg c4, ob_eq]
          simp only
          rw [if_pos (Or.inl trivial)]
          refine ⟨fun f hf => ?_, fun s' hs => (by cases hs)⟩
          cases hf
          exact ⟨_, rfl, gs_same⟩
      · rw [if_neg c3, if_neg c3, if_pos rfl, i0, ob_eq, if_neg c2]
        simp only
        rw [if_neg (by decide)]
        refine ⟨fun f hf => ?_, fun s' hs => (by cases hs)⟩
        cases hf
        exact ⟨_, rfl, q1⟩
theorem rr_beh {t : List Int} {p : Nat} {fs : List Fm} {D : Ds} {cs : List Nat} {us sy : Nat} {g : Gx} (hx : TxR t g) (hp : p < t.length) (hk : okT t (p, false, fs, D, cs, us, sy)) (h : RR (p, false, fs, D, cs, us, sy) g) (K1 : Gx → Option (Int × Gx)) (L : Int → Gx → Option (Int × Gx)) (hK1 : ∀ g', K1 g' = some (g' 92 8, g')) :
    ∀ X, X = (Option.bind (Md_here 0 g) (fun q7 => if ¬ q7.1 = 44 then Option.bind (Md_here 0 q7.2) (fun q8 => if ¬ q8.1 = 124 then Option.bind (Md_here 0 q8.2) (fun q9 => if ¬ q9.1 = 41 then K1 q9.2 else Option.bind (Md_closes q9.2) (fun q10 => if ¬ q10.1 = 0 then L 0 q10.2 else K1 q10.2)) else Option.bind (Md_wayMore q8.2) (fun q11 => if ¬ q11.1 = 0 then L 1 q11.2 else some ((q11.2 92 8), q11.2))) else L 1 (gset q7.2 92 8 (wr ((q7.2 92 8) + 1))))) →
    (∀ f, pbeh t p fs D cs us sy = .inl f → ∃ g', X = some ((f : Int), g')) ∧ (∀ s', pbeh t p fs D cs us sy = .inr s' → ∃ g', X = L (if s'.2.1 = true then 1 else 0) g' ∧ RR s' g' ∧ TxR t g') := by
  intro X hX
  have hcs := hk.cs hx.2.1
  obtain ⟨k1, k2, k3, -, -, k6, k7⟩ := hk
  have hcs : cs.length < 40 := hcs
  have q1 : g 92 8 = (p : Int) := h.1
  have q2 : g 92 20 = (fs.length : Int) := h.2.1
  have ht := hx.2.1
  have h0 := here0 hx p q1 (by omega)
  have w1 : wr (g 92 8 + 1) = ((p + 1 : Nat) : Int) := by rw [q1, wr_id (by omega) (by omega)]; omega
  rw [h0, ob_eq] at hX
  simp only at hX
  have stop : ∀ f : Nat, f = p → X = K1 g → ∃ g', X = some ((f : Int), g') := fun f hf h9 => by
    rw [h9, hK1, q1, hf]; exact ⟨g, rfl⟩
  unfold pbeh
  by_cases c1 : chr t p = 44
  · rw [if_neg (by omega), w1] at hX
    rw [if_pos c1]
    refine ⟨fun f hf => (by cases hf), fun s' hs => ?_⟩
    cases hs
    exact ⟨_, hX, rr_com h, hx.at_ _⟩
  · rw [if_pos c1, h0, ob_eq] at hX
    rw [if_neg c1]
    simp only at hX
    cases fs with
    | nil =>
      have q2 : g 92 20 = 0 := q2
      refine ⟨fun f hf => ?_, fun s' hs => (by cases hs)⟩
      cases hf
      by_cases c2 : chr t p = 124
      · have : Md_wayMore g = some (0, g) := by unfold Md_wayMore; rw [if_pos q2]
        rw [if_neg (by omega), this, ob_eq] at hX
        simp only [not_true_eq_false, if_false] at hX
        rw [hX, q1]; exact ⟨g, rfl⟩
      · rw [if_pos c2, h0, ob_eq] at hX
        simp only at hX
        by_cases c3 : chr t p = 41
        · have : Md_closes g = some (0, g) := by unfold Md_closes; rw [if_neg (by omega)]
          rw [if_neg (by omega), this, ob_eq] at hX
          simp only [not_true_eq_false, if_false] at hX
          exact stop p rfl hX
        · rw [if_pos c3] at hX
          exact stop p rfl hX
    | cons f0 fs' =>
      obtain ⟨kd, c, tk, m, W, bf⟩ := f0
      have k2 : fs'.length + 1 ≤ 4 := k2
      have hf := k3 _ List.mem_cons_self
      simp only
      by_cases c2 : chr t p = 124
      · rw [if_pos c2]
        rw [if_neg (by omega)] at hX
        rcases hf with ⟨hkd, hk1, hk2⟩ | ⟨hkd, hk1, hk2, hk3⟩
        · have hkd : kd = 0 := hkd
          subst hkd
          rw [(rr_clr h (by omega) (by omega) ⟨hk1, hk2⟩).1, ob_eq] at hX
          simp only [not_true_eq_false, if_false] at hX
          rw [if_pos (Or.inl rfl)]
          refine ⟨fun f hf => ?_, fun s' hs => (by cases hs)⟩
          cases hf
          rw [hX, q1]; exact ⟨g, rfl⟩
        · have hkd : kd = 1 := hkd
          subst hkd
          have hk2 : m ≤ 3 := hk2
          by_cases c3 : m < 3
          · obtain ⟨g', e1, e2⟩ := rr_next h (by omega) (by omega) c3
            have fr := fr_Md_wayMore g _ g' e1
            rw [e1, ob_eq] at hX
            simp only at hX
            rw [if_pos (by decide)] at hX
            rw [if_neg (show ¬ (1 = 0 ∨ 3 ≤ m) by omega)]
            refine ⟨fun f hf => (by cases hf), fun s' hs => ?_⟩
            cases hs
            exact ⟨g', hX, e2, hx.of (fr.cell (by decide) (by decide)) (fr.cell (by decide) (by decide))⟩
          · rw [(rr_clc h (by omega) (by omega) hcs hk1 hk3).2.1 (by omega), ob_eq] at hX
            simp only [not_true_eq_false, if_false] at hX
            rw [if_pos (show 1 = 0 ∨ 3 ≤ m by omega)]
            refine ⟨fun f hf => ?_, fun s' hs => (by cases hs)⟩
            cases hf
            rw [hX, q1]; exact ⟨g, rfl⟩
      · rw [if_neg c2]
        rw [if_pos c2, h0, ob_eq] at hX
        simp only at hX
        by_cases c3 : chr t p = 41
        · rw [if_pos c3]
          rw [if_neg (by omega)] at hX
          rcases hf with ⟨hkd, hk1, hk2⟩ | ⟨hkd, hk1, hk2, hk3⟩
          · have hkd : kd = 0 := hkd
            subst hkd
            obtain ⟨-, g', e1, e2⟩ := rr_clr h (by omega) (by omega) ⟨hk1, hk2⟩
            have fr := fr_Md_closes g _ g' e1
            rw [e1, ob_eq] at hX
            simp only at hX
            rw [if_pos (by decide)] at hX
            rw [if_pos rfl]
            refine ⟨fun f hf => (by cases hf), fun s' hs => ?_⟩
            cases hs
            exact ⟨g', hX, e2, hx.of (fr.cell (by decide) (by decide)) (fr.cell (by decide) (by decide))⟩
          · have hkd : kd = 1 := hkd
            subst hkd
            obtain ⟨x1, -, x3⟩ := rr_clc h (by omega) (by omega) hcs hk1 hk3
            rw [if_neg (by decide)]
            by_cases c4 : m = 0
            · rw [x1 c4, ob_eq] at hX
              simp only [not_true_eq_false, if_false] at hX
              rw [if_pos c4]
              refine ⟨fun f hf => ?_, fun s' hs => (by cases hs)⟩
              cases hf
              exact stop p rfl hX
            · obtain ⟨g', e1, e2⟩ := x3 (by omega)
              have fr := fr_Md_closes g _ g' e1
              rw [e1, ob_eq] at hX
              simp only at hX
              rw [if_pos (by decide)] at hX
              rw [if_neg c4]
              refine ⟨fun f hf => (by cases hf), fun s' hs => ?_⟩
              cases hs
              exact ⟨g', hX, e2, hx.of (fr.cell (by decide) (by decide)) (fr.cell (by decide) (by decide))⟩
        · rw [if_neg c3]
          rw [if_pos c3] at hX
          refine ⟨fun f hf => ?_, fun s' hs => (by cases hs)⟩
          cases hf
          exact stop p rfl hX
def EndR (t : List Int) (r : Int × PS) (g : Gx) : Prop := r.1 = -1 → RR r.2 g ∧ r.2.2.2.1 = []
theorem rr_loop {t : List Int} (K1 K2 : Gx → Option (Int × Gx)) (hK1 : ∀ g', K1 g' = some (g' 92 8, g')) (hK2 : ∀ g', K2 g' = if ¬ (g' 92 20) = 0 then some ((g' 92 8), g') else some ((-1), g')) : ∀ (n : Nat) (s : PS) (g : Gx) (fuel : Nat), TxR t g → okT t s → RR s g → t.length + 2 ≤ n + s.1 → n < fuel → ∃ g', Md_reads_l32 K1 K2 fuel (if s.2.1 = true then 1 else 0) g = some ((prun t n s).1, g') ∧ EndR t (prun t n s) g' := by
  intro n
  induction n with
  | zero =>
    intro s g fuel hx hk h hn hf
    have := hk.1
    omega
  | succ n ih =>
    intro s g fuel hx hk h hn hf
    obtain ⟨fuel, rfl⟩ : ∃ k, fuel = k + 1 := ⟨fuel - 1, by omega⟩
    obtain ⟨p, due, fs, D, cs, us, sy⟩ := s
    have q1 : g 92 8 = (p : Int) := h.1
    have q2 : g 92 20 = (fs.length : Int) := h.2.1
    have k1 : p ≤ t.length := hk.1
    have hn : t.length + 2 ≤ n + 1 + p := hn
    have ht := hx.2.1
    rw [Md_reads_l32]
    cases due with
    | true =>
      simp only [if_true]
      rw [if_pos (by decide), if_neg (by decide), prun, if_pos rfl]
      obtain ⟨r1, r2⟩ := rr_item hx hk h
      cases hpi : pitem t p fs D cs us sy with
      | inl f =>
        obtain ⟨g', e1, e2⟩ := r1 f hpi
        rw [e1, ob_eq]
        simp only
        rw [if_neg (by decide), e2]
        exact ⟨g', rfl, fun h9 => by have h9 : ((f : Nat) : Int) = -1 := h9; omega⟩
      | inr s' =>
        obtain ⟨g', e1, e2⟩ := r2 s' hpi
        have fr := fr_Md_readsItem g _ g' e1
        obtain ⟨o1, o2⟩ := ok_item hk hpi
        have := ih s' g' fuel (hx.of (fr.cell (by decide) (by decide)) (fr.cell (by decide) (by decide))) o1 e2 (by omega) (by omega)
        rw [e1, ob_eq]
        simp only
        rw [if_pos (by decide)]
        have d2 : g' 92 20 = (s'.2.2.1.length : Int) := e2.2.1
        rcases pitem_due hpi with ⟨y1, y2⟩ | ⟨y1, y2⟩
        · rw [if_neg (by omega)]
          rw [y1, if_pos rfl] at this
          exact this
        · rw [if_pos (by omega)]
          rw [y1, if_neg (by decide)] at this
          exact this
    | false =>
      simp only [Bool.false_eq_true, if_false]
      rw [if_neg (by decide), hx.1, q1, prun, if_neg (show ¬ false = true by decide)]
      by_cases hp : p < t.length
      · rw [if_neg (by omega), if_pos hp, if_pos trivial]
        obtain ⟨r1, r2⟩ := rr_beh hx hp hk h K1 (fun v g => Md_reads_l32 K1 K2 fuel v g) hK1 _ rfl
        cases hpi : pbeh t p fs D cs us sy with
        | inl f =>
          obtain ⟨g', e1⟩ := r1 f hpi
          exact ⟨g', e1, fun h9 => by have h9 : ((f : Nat) : Int) = -1 := h9; omega⟩
        | inr s' =>
          obtain ⟨g', e1, e2, e3⟩ := r2 s' hpi
          obtain ⟨o1, o2⟩ := ok_beh hp hk hpi
          have := ih s' g' fuel e3 o1 e2 (by omega) (by omega)
          obtain ⟨g2, y1, y2⟩ := this
          exact ⟨g2, e1.trans y1, y2⟩
      · rw [if_pos (by omega), if_neg hp, hK2, q2, q1]
        cases fs with
        | nil => exact ⟨g, rfl, fun _ => ⟨h, rfl⟩⟩
        | cons f fs =>
          rw [if_pos (by simp only [List.length_cons]; omega), if_neg (by simp)]
          refine ⟨g, by rw [show p = t.length by omega], fun h9 => ?_⟩
          have h9 : (t.length : Int) = -1 := h9
          omega
def PdR (t : List Int) (g : Gx) : Prop := (pln t).1 = -1 → g 92 18 = ((pln t).2.2.2.2.2.2.1 : Int) ∧ g 92 17 = ((pln t).2.2.2.2.2.2.2 : Int) ∧ g 92 16 = ((pln t).2.2.2.2.2.1.length : Int) ∧ ∃ z : Nat, g 92 9 = (z : Int) ∧ z ≤ 160 ∧ EncR g 4 0 z (pln t).2.2.2.2.1 ∧ CA g z (pln t).2.2.2.2.2.1
theorem md_reads {t : List Int} {g : Gx} (hx : TxR t g) : ∃ g', Md_reads g = some ((pln t).1, g') ∧ PdR t g' := by
  unfold Md_reads
  obtain ⟨g1, hg1⟩ : ∃ g1, g1 = gset (gset (gset (gset (gset (gset g 92 8 0) 92 9 0) 92 16 0) 92 17 0) 92 18 0) 92 20 0 := ⟨_, rfl⟩
  rw [← hg1]
  have hx1 : TxR t g1 := hx.of (by rw [hg1]; funext j; simp [gset]) (by rw [hg1]; funext j; simp [gset])
  have h1 : RR s0 g1 := ⟨by simp [hg1, gset, s0], by simp [hg1, gset, s0], by simp [hg1, gset, s0], by simp [hg1, gset, s0], by simp [hg1, gset, s0], 0, 0, by simp [hg1, gset], Nat.zero_le _, rfl, EncR.nil _ _ _, fun a ha => by omega, fun c hc => by simp [s0] at hc⟩
  obtain ⟨g2, r1, r2⟩ := rr_loop (t := t) (fun g13 => some ((g13 92 8), g13)) (fun g14 => if ¬ (g14 92 20) = 0 then some ((g14 92 8), g14) else some ((-1), g14)) (fun _ => rfl) (fun _ => rfl) 400 s0 g1 fu hx1 (ok_s0 t) h1 (by have := hx.2.1; show t.length + 2 ≤ 400 + 0; omega) (fu_big _ (by omega))
  rw [show (if s0.2.1 = true then (1 : Int) else 0) = 1 from rfl] at r1
  have r2 : EndR t (pln t) g2 := r2
  refine ⟨g2, r1, fun h9 => ?_⟩
  obtain ⟨b1, b2⟩ := r2 h9
  obtain ⟨c1, c2, c3, c4, c5, z, lo, c8, c9, c10, c11, c12⟩ := b1
  have hl := (pln_ok t).1
  have ht := hx.2.1
  rw [b2] at c10 c11
  have c10 : lo = 0 := c10
  subst c10
  exact ⟨c3, c4, c5, z, c8, by omega, c11, c12⟩
