/-! The class's whole reading. Own text. -/
theorem rc_item {t : List Int} {p : Nat} {fs : List Fm} {D : Ds} {cs : List Nat} {us sy : Nat} {g : Gx} (hx : TxC t g) (hk : okT t (p, true, fs, D, cs, us, sy)) (h : RC t (p, true, fs, D, cs, us, sy) g) :
    (∀ f, pitem t p fs D cs us sy = .inl f → Pr_readItem g = (0, gset g 28 6 (f : Int))) ∧ (∀ s', pitem t p fs D cs us sy = .inr s' → ∃ g', Pr_readItem g = (if s'.2.1 = true then 1 else 0, g') ∧ RC t s' g') := by
  have hcs := hk.cs hx.2.1
  obtain ⟨k1, k2, -, -, -, k6, k7⟩ := hk
  have k1 : p ≤ t.length := k1
  have k6 : us < 64 := k6
  have k7 : sy ≤ p := k7
  have hcs : cs.length < 40 := hcs
  have q1 : g 28 5 = (p : Int) := h.1
  have q2 : g 28 4 = (fs.length : Int) := h.2.1
  have ht := hx.2.1
  have w1 : wr (g 28 5 + 1) = ((p + 1 : Nat) : Int) := by rw [q1, wr_id (by omega) (by omega)]; omega
  have w2 : wr (g 28 5 + 2) = ((p + 2 : Nat) : Int) := by rw [q1, wr_id (by omega) (by omega)]; omega
  have w3 : wr (g 28 5 + 3) = ((p + 3 : Nat) : Int) := by rw [q1, wr_id (by omega) (by omega)]; omega
  have h0 := at1 hx p q1
  have h1 := at1 hx (p + 1) w1
  have h2 := at1 hx (p + 2) w2
  have h3 := at1 hx (p + 3) w3
  rw [ri_eq g _ _ h0 h1, rs_eq g _ _ _ h2 h3, ro_eq g _ _ h1, w1, w2, w3, q1, q2]
  unfold pitem Pr_failAt
  by_cases c1 : chr t p = 45
  · rw [if_pos c1, if_pos c1]
    refine ⟨fun f hf => (by cases hf), fun s' hs => ?_⟩
    cases hs
    have := rc_com (b' := false) h (by omega)
    rw [w1] at this
    exact ⟨_, rfl, this⟩
  · rw [if_neg c1, if_neg c1]
    by_cases c2 : 65 ≤ chr t p ∧ chr t p ≤ 70
    · rw [if_pos c2, if_pos c2, if_pos c2]
      by_cases c3 : chr t (p + 1) = 62
      · rw [if_pos c3, if_pos c3]
        by_cases c4 : ¬ (65 ≤ chr t (p + 2) ∧ chr t (p + 2) ≤ 70) ∨ chr t (p + 2) = chr t p
        · rw [if_pos c4, if_pos c4]
          exact ⟨fun f hf => by cases hf; rfl, fun s' hs => (by cases hs)⟩
        · rw [if_neg c4, if_neg c4]
          by_cases c5 : ¬ (97 ≤ chr t (p + 3) ∧ chr t (p + 3) ≤ 122)
          · rw [if_pos c5, if_pos c5]
            exact ⟨fun f hf => by cases hf; rfl, fun s' hs => (by cases hs)⟩
          · rw [if_neg c5, if_neg c5]
            refine ⟨fun f hf => (by cases hf), fun s' hs => ?_⟩
            cases hs
            have c6 : 97 ≤ chr t (p + 3) ∧ chr t (p + 3) ≤ 122 := Decidable.not_not.mp c5
            have c7 : 65 ≤ chr t (p + 2) ∧ chr t (p + 2) ≤ 70 := by
              rcases Decidable.em (65 ≤ chr t (p + 2) ∧ chr t (p + 2) ≤ 70) with h | h
              · exact h
              · exact absurd (Or.inl h) c4
            have lt := chr_lt (t := t) (p := p + 3) (by omega)
            exact ⟨_, rfl, rc_say h lt ht k6 k7 c2 c7 (fun h9 => c4 (Or.inr h9)) c6⟩
      · rw [if_neg c3, if_neg c3]
        by_cases c4 : chr t (p + 1) = 40 ∧ fs.length < 4
        · rw [if_pos c4, if_pos (show chr t (p + 1) = 40 ∧ (fs.length : Int) < 4 by omega)]
          refine ⟨fun f hf => (by cases hf), fun s' hs => ?_⟩
          cases hs
          have lt := chr_lt (t := t) (p := p + 1) (by omega)
          exact ⟨_, rfl, rc_opc h lt ht c4.2 hcs k6 c2⟩
        · rw [if_neg c4, if_neg (show ¬ (chr t (p + 1) = 40 ∧ (fs.length : Int) < 4) by omega)]
          exact ⟨fun f hf => by cases hf; rfl, fun s' hs => (by cases hs)⟩
    · rw [if_neg c2, if_neg c2, if_neg c2]
      by_cases c3 : 50 ≤ chr t p ∧ chr t p ≤ 52
      · rw [if_pos c3, if_pos c3]
        by_cases c4 : chr t (p + 1) = 40 ∧ fs.length < 4
        · rw [if_pos c4, if_pos (show chr t (p + 1) = 40 ∧ (fs.length : Int) < 4 by omega)]
          refine ⟨fun f hf => (by cases hf), fun s' hs => ?_⟩
          cases hs
          have lt := chr_lt (t := t) (p := p + 1) (by omega)
          exact ⟨_, rfl, rc_opr h lt ht c4.2 c3⟩
        · rw [if_neg c4, if_neg (show ¬ (chr t (p + 1) = 40 ∧ (fs.length : Int) < 4) by omega)]
          exact ⟨fun f hf => by cases hf; rfl, fun s' hs => (by cases hs)⟩
      · rw [if_neg c3, if_neg c3]
        exact ⟨fun f hf => by cases hf; rfl, fun s' hs => (by cases hs)⟩
theorem rc_beh {t : List Int} {p : Nat} {fs : List Fm} {D : Ds} {cs : List Nat} {us sy : Nat} {g : Gx} (hx : TxC t g) (hp : p < t.length) (hk : okT t (p, false, fs, D, cs, us, sy)) (h : RC t (p, false, fs, D, cs, us, sy) g) :
    (∀ f, pbeh t p fs D cs us sy = .inl f → Pr_readBehindItem g = (0, gset g 28 6 (f : Int))) ∧ (∀ s', pbeh t p fs D cs us sy = .inr s' → ∃ g', Pr_readBehindItem g = (if s'.2.1 = true then 1 else 0, g') ∧ RC t s' g') := by
  have hcs := hk.cs hx.2.1
  obtain ⟨k1, k2, k3, -, -, k6, k7⟩ := hk
  have hcs : cs.length < 40 := hcs
  have q1 : g 28 5 = (p : Int) := h.1
  have q2 : g 28 4 = (fs.length : Int) := h.2.1
  have ht := hx.2.1
  have w1 : wr (g 28 5 + 1) = ((p + 1 : Nat) : Int) := by rw [q1, wr_id (by omega) (by omega)]; omega
  have h0 := at1 hx p q1
  rw [rb_eq g _ h0]
  unfold pbeh
  by_cases c1 : chr t p = 44
  · rw [if_pos c1, if_pos c1]
    refine ⟨fun f hf => (by cases hf), fun s' hs => ?_⟩
    cases hs
    exact ⟨_, rfl, rc_com h (by omega)⟩
  · rw [if_neg c1, if_neg c1]
    cases fs with
    | nil =>
      have q2 : g 28 4 = 0 := q2
      rw [if_neg (by omega), if_neg (by omega)]
      refine ⟨fun f hf => ?_, fun s' hs => (by cases hs)⟩
      cases hf
      unfold Pr_failAt
      rw [q1]
    | cons f0 fs' =>
      obtain ⟨kd, c, tk, m, W, bf⟩ := f0
      have q2 : g 28 4 = ((fs'.length + 1 : Nat) : Int) := q2
      have k2 : fs'.length + 1 ≤ 4 := k2
      have hf := k3 _ List.mem_cons_self
      simp only
      by_cases c2 : chr t p = 124
      · rw [if_pos (show 0 < g 28 4 ∧ chr t p = 124 by omega), if_pos c2]
        rcases hf with ⟨hkd, hk1, hk2⟩ | ⟨hkd, hk1, hk2, hk3⟩
        · have hkd : kd = 0 := hkd
          subst hkd
          rw [if_pos (Or.inl rfl), (rc_clr h hp ht (by omega) ⟨hk1, hk2⟩).1, rn_eq, if_neg (by omega)]
          refine ⟨fun f hf => ?_, fun s' hs => (by cases hs)⟩
          cases hf
          unfold Pr_failAt
          rw [q1]
        · have hkd : kd = 1 := hkd
          subst hkd
          obtain ⟨x1, x2⟩ := (rc_clc h hp ht (by omega) hcs hk1 hk3).1
          have hk2 : m ≤ 3 := hk2
          rw [x1, rn_eq, x2]
          by_cases c3 : m < 3
          · rw [if_neg (show ¬ (1 = 0 ∨ 3 ≤ m) by omega), if_pos (show ¬ (c : Int) = -1 ∧ ((m + 1 : Nat) : Int) < 4 by omega)]
            refine ⟨fun f hf => (by cases hf), fun s' hs => ?_⟩
            cases hs
            exact ⟨_, rfl, (rc_next h hp ht (by omega) hcs c3).2⟩
          · rw [if_pos (show 1 = 0 ∨ 3 ≤ m by omega), if_neg (show ¬ (¬ (c : Int) = -1 ∧ ((m + 1 : Nat) : Int) < 4) by omega)]
            refine ⟨fun f hf => ?_, fun s' hs => (by cases hs)⟩
            cases hf
            unfold Pr_failAt
            rw [q1]
      · rw [if_neg (show ¬ (0 < g 28 4 ∧ chr t p = 124) by omega), if_neg c2]
        by_cases c3 : chr t p = 41
        · rw [if_pos (show 0 < g 28 4 ∧ chr t p = 41 by omega), if_pos c3]
          rcases hf with ⟨hkd, hk1, hk2⟩ | ⟨hkd, hk1, hk2, hk3⟩
          · have hkd : kd = 0 := hkd
            subst hkd
            obtain ⟨x1, x2⟩ := rc_clr h hp ht (by omega) ⟨hk1, hk2⟩
            rw [if_pos rfl, x1, rk_eq, if_pos rfl]
            refine ⟨fun f hf => (by cases hf), fun s' hs => ?_⟩
            cases hs
            exact ⟨_, rfl, x2⟩
          · have hkd : kd = 1 := hkd
            subst hkd
            obtain ⟨⟨x1, x2⟩, x3⟩ := rc_clc h hp ht (by omega) hcs hk1 hk3
            rw [if_neg (by decide), x1, rk_eq, if_neg (show ¬ (c : Int) = -1 by omega), x2]
            by_cases c4 : m = 0
            · rw [if_pos c4, if_neg (by omega)]
              refine ⟨fun f hf => ?_, fun s' hs => (by cases hs)⟩
              cases hf
              unfold Pr_failAt
              rw [q1]
            · rw [if_neg c4, if_pos (by omega)]
              refine ⟨fun f hf => (by cases hf), fun s' hs => ?_⟩
              cases hs
              exact ⟨_, rfl, x3 (by omega)⟩
        · rw [if_neg (show ¬ (0 < g 28 4 ∧ chr t p = 41) by omega), if_neg c3]
          refine ⟨fun f hf => ?_, fun s' hs => (by cases hs)⟩
          cases hf
          unfold Pr_failAt
          rw [q1]
def EndC (t : List Int) (r : Int × PS) (g : Gx) : Prop := TxC t g ∧ ((r.1 = -1 ∧ RC t r.2 g ∧ r.2.2.2.1 = []) ∨ (0 ≤ r.1 ∧ g 28 6 = r.1) ∨ (r.1 = (t.length : Int) ∧ g 28 6 = -1 ∧ 0 < g 28 4))
theorem rc_loop {t : List Int} (K : Gx → Option (Int × Gx)) : ∀ (n : Nat) (s : PS) (g : Gx) (v fuel : Nat), TxC t g → okT t s → RC t s g → v ≤ s.1 → t.length + 2 ≤ n + s.1 → n + 1 < fuel → ∃ g', Pr_firstFault_l38 K fuel (if s.2.1 = true then 1 else 0) (v : Int) g = K g' ∧ EndC t (prun t n s) g' := by
  intro n
  induction n with
  | zero =>
    intro s g v fuel hx hk h hv hn hf
    have := hk.1
    omega
  | succ n ih =>
    intro s g v fuel hx hk h hv hn hf
    obtain ⟨fuel, rfl⟩ : ∃ k, fuel = k + 2 := ⟨fuel - 2, by omega⟩
    obtain ⟨p, due, fs, D, cs, us, sy⟩ := s
    have q1 : g 28 5 = (p : Int) := h.1
    have q2 : g 28 4 = (fs.length : Int) := h.2.1
    have q3 : g 28 6 = -1 := h.2.2.1
    have k1 : p ≤ t.length := hk.1
    have hv : v ≤ p := hv
    have hn : t.length + 2 ≤ n + 1 + p := hn
    have ht := hx.2.1
    have stop : ∀ (g' : Gx) (x : Int) (f : Nat), TxC t g' → Pr_firstFault_l38 K (fuel + 1) x (wr ((v : Int) + 1)) (gset g' 28 6 (f : Int)) = K (gset g' 28 6 (f : Int)) ∧ TxC t (gset g' 28 6 (f : Int)) ∧ (gset g' 28 6 (f : Int)) 28 6 = (f : Int) := fun g' x f hx' => by
      have e : (gset g' 28 6 (f : Int)) 28 6 = (f : Int) := gs_same
      refine ⟨?_, hx'.of (by simp [gset]) (by rw [gset_ne (by decide)]), e⟩
      rw [Pr_firstFault_l38, e]
      by_cases h1 : 160 < wr ((v : Int) + 1)
      · rw [if_pos h1]
      · rw [if_neg h1, if_pos (by omega)]
    rw [Pr_firstFault_l38, if_neg (by omega), if_neg (by omega)]
    cases due with
    | true =>
      simp only [if_true]
      rw [if_neg (by decide)]
      unfold lett
      rw [prun, if_pos rfl]
      obtain ⟨r1, r2⟩ := rc_item hx hk h
      cases hpi : pitem t p fs D cs us sy with
      | inl f =>
        rw [r1 f hpi]
        obtain ⟨z1, z2, z3⟩ := stop g 0 f hx
        exact ⟨_, z1, z2, Or.inr (Or.inl ⟨by simp, z3⟩)⟩
      | inr s' =>
        obtain ⟨g', e1, e2⟩ := r2 s' hpi
        have fr := fr_Pr_readItem g _ g' e1
        obtain ⟨o1, o2⟩ := ok_item hk hpi
        have := ih s' g' (v + 1) (fuel + 1) (hx.of (fr.fld (by decide) (by decide)) (fr.cell (by decide) (by decide))) o1 e2 (by omega) (by omega) (by omega)
        rw [e1]
        simp only
        rw [wr_id (by omega) (by omega), show (v : Int) + 1 = ((v + 1 : Nat) : Int) by omega]
        exact this
    | false =>
      simp only [Bool.false_eq_true, if_false]
      rw [if_pos trivial]
      unfold Tx_length1
      rw [hx.1, q1, prun, if_neg (show ¬ false = true by decide)]
      by_cases hp : p < t.length
      · rw [if_neg (by omega), if_pos hp]
        unfold lett
        obtain ⟨r1, r2⟩ := rc_beh hx hp hk h
        cases hpi : pbeh t p fs D cs us sy with
        | inl f =>
          rw [r1 f hpi]
          obtain ⟨z1, z2, z3⟩ := stop g 0 f hx
          exact ⟨_, z1, z2, Or.inr (Or.inl ⟨by simp, z3⟩)⟩
        | inr s' =>
          obtain ⟨g', e1, e2⟩ := r2 s' hpi
          have fr := fr_Pr_readBehindItem g _ g' e1
          obtain ⟨o1, o2⟩ := ok_beh hp hk hpi
          have := ih s' g' (v + 1) (fuel + 1) (hx.of (fr.fld (by decide) (by decide)) (fr.cell (by decide) (by decide))) o1 e2 (by omega) (by omega) (by omega)
          rw [e1]
          simp only
          rw [wr_id (by omega) (by omega), show (v : Int) + 1 = ((v + 1 : Nat) : Int) by omega]
          exact this
      · rw [if_pos (by omega), if_neg hp]
        cases fs with
        | nil => exact ⟨g, rfl, hx, Or.inl ⟨rfl, h, rfl⟩⟩
        | cons f fs =>
          refine ⟨g, rfl, hx, Or.inr (Or.inr ⟨rfl, q3, ?_⟩)⟩
          rw [q2]; simp only [List.length_cons]; omega
/-- what a reading leaves: the fault; of a text without, all that the steps stand for -/
def PdC (t : List Int) (g : Gx) : Prop := g 28 6 = (pln t).1 ∧ ((pln t).1 = -1 → g 28 7 = ((pln t).2.2.2.2.2.2.1 : Int) ∧ g 28 8 = ((pln t).2.2.2.2.2.2.2 : Int) ∧ g 7 11 = ((pln t).2.2.2.2.2.1.length : Int) ∧ (∀ i, i < (pln t).2.2.2.2.2.1.length → g 13 i = (((pln t).2.2.2.2.2.1.getD i 0 : Nat) : Int)) ∧ ∃ z : Nat, g 7 10 = (z : Int) ∧ z ≤ 160 ∧ EncC g 4 0 z 0 (pln t).2.2.2.2.2.1.length (pln t).2.2.2.2.1)
theorem prun_ok {t : List Int} : ∀ (n : Nat) (s : PS), okT t s → okT t (prun t n s).2
  | 0, s, h => h
  | n + 1, (p, due, fs, D, cs, us, sy), h => by
    rw [prun]
    cases due with
    | true =>
      rw [if_pos rfl]
      cases hpi : pitem t p fs D cs us sy with
      | inl f => exact h
      | inr s' => exact prun_ok n s' (ok_item h hpi).1
    | false =>
      rw [if_neg (by decide)]
      by_cases hp : p < t.length
      · rw [if_pos hp]
        cases hpi : pbeh t p fs D cs us sy with
        | inl f => exact h
        | inr s' => exact prun_ok n s' (ok_beh hp h hpi).1
      · rw [if_neg hp]
        split <;> exact h
theorem pln_ok (t : List Int) : okT t (pln t).2 := prun_ok 400 s0 (ok_s0 t)
theorem first_new {t : List Int} {g : Gx} (hx : TxC t g) (hc : ¬ g 28 9 = g 1 3) : ∃ g', Pr_firstFault g = some ((pln t).1, g') ∧ PdC t g' ∧ g' 28 9 = g 1 3 ∧ g' 7 12 = wr (g 7 12 + 1) := by
  unfold Pr_firstFault Tx_changes1
  rw [if_pos hc]
  obtain ⟨g1, hg1⟩ : ∃ g1, g1 = Pr_restart (gset g 28 9 (g 1 3)) := ⟨_, rfl⟩
  have e1 : g1 = gset (gset (gset (gset (gset (gset (gset (gset (gset g 28 9 (g 1 3)) 7 10 0) 7 11 0) 7 12 (wr (g 7 12 + 1))) 28 4 0) 28 5 0) 28 6 (-1)) 28 7 0) 28 8 0 := by
    rw [hg1]; unfold Pr_restart lett St_reset; simp only [gc (show (7 : Nat) ≠ 28 by decide)]
  have hx1 : TxC t g1 := hx.of (by simp [e1, gset]) (by rw [e1]; funext j; simp [gset])
  have h1 : RC t s0 g1 := by
    refine ⟨by simp [e1, gset, s0], by simp [e1, gset, s0], by simp [e1, gset], by simp [e1, gset, s0], by simp [e1, gset, s0], by simp [e1, gset, s0], fun i hi => by simp [s0] at hi, 0, 0, 0, by simp [e1, gset], Nat.zero_le _, ⟨rfl, rfl⟩, EncC.nil _ _ _ _⟩
  obtain ⟨K, hK⟩ : ∃ K : Gx → Option (Int × Gx), K = fun g4 => if ¬ (g4 28 6) = (-1) then some ((g4 28 6), g4) else if (g4 28 4) ≤ 0 then some ((g4 28 6), g4) else some ((Tx_length1 g4), (gset g4 28 6 (Tx_length1 g4))) := ⟨_, rfl⟩
  obtain ⟨g2, r1, rE⟩ := rc_loop K 400 s0 g1 0 fu hx1 (ok_s0 t) h1 (Nat.zero_le _) (by have := hx.2.1; show t.length + 2 ≤ 400 + 0; omega) (fu_big _ (by omega))
  have rE : EndC t (pln t) g2 := rE
  generalize hpl : pln t = pt at rE
  obtain ⟨r2, r3⟩ := rE
  have hKf : ∀ (g : Gx) (r : Int) (g' : Gx), K g = some (r, g') → FR [9, 11, 13, 15, 17, 19, 30, 32, 1458, 1459, 2796, 2797, 2798, 2799, 2800] g g' := by
    intro g r g' h
    rw [hK] at h
    simp only at h
    split at h
    · cases h; exact FR.rf _ _
    · split at h
      · cases h; exact FR.rf _ _
      · cases h; exact FR.go (FR.rf _ _) ⟨rfl, by decide⟩
  have main : ∃ g', K g2 = some ((pln t).1, g') ∧ PdC t g' := by
    rw [hK]
    simp only
    rcases r3 with ⟨a1, a2, a3⟩ | ⟨a1, a2⟩ | ⟨a1, a2, a3⟩
    · subst hpl
      have b1 : g2 28 6 = -1 := a2.2.2.1
      have b2 : g2 28 4 = 0 := by rw [a2.2.1, a3]; rfl
      rw [if_neg (by omega), if_pos (by omega), a1, b1]
      refine ⟨g2, rfl, by rw [a1]; exact b1, fun _ => ?_⟩
      obtain ⟨-, -, -, c4, c5, c6, c7, z, lo, cl, c8, c9, c10, c11⟩ := a2
      have hl := (pln_ok t).1
      refine ⟨c4, c5, c6, c7, z, c8, ?_, ?_⟩
      · have c9 : z ≤ (pln t).2.1 := c9
        have := hx.2.1
        omega
      · have c10 : ZC g2 (pln t).2.2.2.1 lo cl := c10
        have c11 : EncC g2 (4 - (pln t).2.2.2.1.length) lo z cl (pln t).2.2.2.2.2.1.length (pln t).2.2.2.2.1 := c11
        rw [a3] at c10 c11
        obtain ⟨rfl, rfl⟩ := c10
        exact c11
    · subst hpl
      rw [if_pos (by omega), a2]
      exact ⟨g2, rfl, a2, fun h9 => by omega⟩
    · subst hpl
      rw [if_neg (by omega), if_neg (by omega)]
      unfold Tx_length1
      rw [r2.1, ← a1]
      exact ⟨_, rfl, gs_same, fun h9 => by omega⟩
  subst hpl
  obtain ⟨g', m1, m2⟩ := main
  rw [show (if s0.2.1 = true then (1 : Int) else 0) = 1 from rfl, show ((0 : Nat) : Int) = 0 from rfl, m1] at r1
  have fr := fr_Pr_firstFault_l38 K _ (fun _ h => h) hKf fu 1 0 g1 _ g' r1
  refine ⟨g', ?_, m2, ?_, ?_⟩
  · rw [lett_eq, ← hg1, ← hK]
    exact r1
  · rw [fr.fld (by decide) (by decide)]; simp [e1, gset]
  · rw [fr.fld (by decide) (by decide)]; simp [e1, gset]
