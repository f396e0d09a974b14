/-! The class reads what stands behind an item; its whole reading. Own text. -/
theorem rb_eq (g : Gx) (b : Int) (hb : Tx_at1 (g 28 5) g = b) : Pr_readBehindItem g = if b = 44 then (1, gset g 28 5 (wr (g 28 5 + 1))) else if 0 < g 28 4 ∧ b = 124 then Pr_readNextWay (rat g 30 4 (wr (g 28 4 - 1))) g else if 0 < g 28 4 ∧ b = 41 then Pr_readClosing (rat g 30 4 (wr (g 28 4 - 1))) g else Pr_failAt (g 28 5) g := by
  unfold Pr_readBehindItem
  simp only [lett, hb]
  by_cases h1 : b = 44
  · simp [h1]
  · by_cases h2 : g 28 4 ≤ 0
    · have h3 : ¬ 0 < g 28 4 := by omega
      simp [h1, h2, h3]
    · have h3 : 0 < g 28 4 := by omega
      by_cases h4 : b = 124
      · simp [h1, h2, h3, h4]
      · by_cases h5 : b = 41 <;> simp [h1, h2, h3, h4, h5]
def nextH (c : Int) (g : Gx) : Gx := lett (St_add 2 c g) (fun g2 => lett (St_beginWay c g2) (fun g3 => gset g3 28 5 (wr ((g3 28 5) + 1))))
theorem rn_eq (c : Int) (g : Gx) : Pr_readNextWay c g = if ¬ c = -1 ∧ rat g 15 40 c < 4 then (1, nextH c g) else Pr_failAt (g 28 5) g := by
  unfold Pr_readNextWay nextH St_wayCount
  simp only [lett]
  by_cases h1 : c = -1
  · simp [h1]
  · by_cases h2 : rat g 15 40 c < 4 <;> simp [h1, h2]
def clcH (c : Int) (g : Gx) : Gx := lett (St_add 3 c g) (fun g1 => lett (St_endChoice c g1) (fun g2 => gset (gset g2 28 4 (wr ((g2 28 4) - 1))) 28 5 (wr ((g2 28 5) + 1))))
def clrH (g : Gx) : Gx := lett (St_closeRounds (rat g 32 4 (wr ((g 28 4) - 1))) g) (fun g4 => gset (gset g4 28 4 (wr ((g4 28 4) - 1))) 28 5 (wr ((g4 28 5) + 1)))
theorem rk_eq (c : Int) (g : Gx) : Pr_readClosing c g = if c = -1 then (0, clrH g) else if 2 ≤ rat g 15 40 c then (0, clcH c g) else Pr_failAt (g 28 5) g := by
  unfold Pr_readClosing clrH clcH St_wayCount
  simp only [lett]
  by_cases h1 : c = -1
  · simp [h1]
  · by_cases h2 : 2 ≤ rat g 15 40 c <;> simp [h1, h2]
theorem hcat_nil (a : Hy) : hcat a ([], []) = a := by
  unfold hcat; simp
theorem lseq_nil (A : List Hy) : lseq A [([], [])] = A := by
  induction A with
  | nil => rfl
  | cons a A ih => rw [lseq, ih]; simp [hcat_nil]
theorem dseq_nil (A : Ds) : dseq A dnil = A := funext fun u => lseq_nil (A u)
theorem rc_com {t : List Int} {p : Nat} {fs : List Fm} {D : Ds} {cs : List Nat} {us sy : Nat} {g : Gx} {b b' : Bool} (h : RC t (p, b, fs, D, cs, us, sy) g) (hp : p < 200) : RC t (p + 1, b', fs, D, cs, us, sy) (gset g 28 5 (wr (g 28 5 + 1))) := by
  obtain ⟨q1, q2, q3, q4, q5, q6, q7, z, lo, cl, q8, q9, q10, q11⟩ := h
  replace q1 : g 28 5 = (p : Int) := q1
  replace q9 : z ≤ p := q9
  rw [q1, wr_id (by omega) (by omega)]
  have tb : ∀ c, TbA g (gset g 28 5 ((p : Int) + 1)) c := fun c => by unfold TbA; simp [gset]
  refine ⟨by simp [gset], by simp [gset]; exact q2, by simp [gset]; exact q3, by simp [gset]; exact q4, by simp [gset]; exact q5, by simp [gset]; exact q6, fun i hi => by simp [gset]; exact q7 i hi, z, lo, cl, by simp [gset]; exact q8, by show z ≤ p + 1; omega, ?_, ?_⟩
  · exact q10.mono (fun i hi => by simp [gset]) (fun c _ => tb c) (fun i hi => by simp [gset])
  · exact q11.mono (fun i _ hi => by simp [gset]) (fun c _ _ => tb c)
theorem rc_next {t : List Int} {p : Nat} {fs : List Fm} {D bf : Ds} {W : Nat → Ds} {c tk m : Nat} {cs : List Nat} {us sy : Nat} {g : Gx} (h : RC t (p, false, (1, c, tk, m, W, bf) :: fs, D, cs, us, sy) g) (hp : p < t.length) (ht : t.length ≤ 160) (hfs : fs.length < 4) (hcs : cs.length < 40) (hm : m < 3) : (rat g 30 4 (wr (g 28 4 - 1)) = (c : Int) ∧ rat g 15 40 (c : Int) = ((m + 1 : Nat) : Int)) ∧ RC t (p + 1, true, (1, c, tk, m + 1, updD W m D, bf) :: fs, dnil, cs, us, sy) (nextH (c : Int) g) := by
  obtain ⟨q1, q2, q3, q4, q5, q6, q7, z, lo, cl, q8, q9, q10, q11⟩ := h
  replace q1 : g 28 5 = (p : Int) := q1
  replace q2 : g 28 4 = ((fs.length + 1 : Nat) : Int) := q2
  replace q9 : z ≤ p := q9
  replace q11 : EncC g (4 - (fs.length + 1)) lo z cl cs.length D := q11
  have le := q11.le
  obtain ⟨p0, c0, pb, cb, h1, h2, h3, h4, h5, ⟨a1, -⟩ | ⟨-, hm4, a2, a3, a4, a5, a6, a7, a8, s, e, ids, b1, b2, b3, b4, b5, b6⟩⟩ := q10
  · cases a1
  subst a3
  have le2 := h2.le
  have hc : rat g 30 4 (wr (g 28 4 - 1)) = (cb : Int) := by
    rw [q2, wr_id (by omega) (by omega), rat_in (by omega) (by omega), show (((fs.length + 1 : Nat) : Int) - 1).toNat = fs.length by omega]; exact a2
  have hw : rat g 15 40 (cb : Int) = ((m + 1 : Nat) : Int) := by
    rw [rat_in (by omega) (by omega), Int.toNat_natCast]; exact a8
  refine ⟨⟨hc, hw⟩, ?_⟩
  obtain ⟨g', hg⟩ : ∃ g', g' = gset (gset (gset (gset (gset (gset g 9 z 2) 11 z (cb : Int)) 7 10 ((z : Int) + 1)) 17 (4 * cb + (m + 1)) ((z : Int) + 1)) 15 cb ((m : Int) + 2)) 28 5 ((p : Int) + 1) := ⟨_, rfl⟩
  have e0 : nextH (cb : Int) g = g' := by
    unfold nextH St_add
    simp only [lett]
    rw [q8, rsi (c := 9) (by omega) (by omega), rsi (c := 11) (by omega) (by omega), wr_id (x := (z : Int) + 1) (by omega) (by omega), Int.toNat_natCast]
    unfold St_beginWay
    rw [rat_in (c := 15) (by omega) (by omega), Int.toNat_natCast, wr_id (x := (cb : Int) * 4) (by omega) (by omega)]
    simp (disch := decide) only [gc, gs_same]
    rw [a8, wr_id (x := (cb : Int) * 4 + ((m + 1 : Nat) : Int)) (by omega) (by omega), rsi (c := 17) (by omega) (by omega), rai (c := 15) (by omega) (by omega), Int.toNat_natCast, show ((cb : Int) * 4 + ((m + 1 : Nat) : Int)).toNat = 4 * cb + (m + 1) by omega]
    simp (disch := decide) only [gc, gs_same]
    rw [a8, q1, wr_id (x := ((m + 1 : Nat) : Int) + 1) (by omega) (by omega), wr_id (x := (p : Int) + 1) (by omega) (by omega), hg, show ((m + 1 : Nat) : Int) + 1 = (m : Int) + 2 by omega]
  rw [e0]
  have e9 : ∀ i, i ≠ z → g' 9 i = g 9 i := fun i hi => by simp [hg, gset, hi]
  have e11 : ∀ i, i ≠ z → g' 11 i = g 11 i := fun i hi => by simp [hg, gset, hi]
  have tb : ∀ c, c ≠ cb → TbA g g' c := fun c hc => by
    unfold TbA
    refine ⟨by simp [hg, gset], by simp [hg, gset, hc], by simp [hg, gset], fun i hi => ?_⟩
    have c2 : 4 * c + i ≠ 4 * cb + (m + 1) := by omega
    simp [hg, gset, c2]
  have wl := way_lim (fun i hi => ⟨(b5 i hi).1.le.1, (b5 i hi).2.2.2⟩)
  have il := ids_mono (fun i hi => (b5 i hi).1.le.2)
  refine ⟨by simp [hg, gset], by simp [hg, gset]; exact q2, by simp [hg, gset]; exact q3, by simp [hg, gset]; exact q4, by simp [hg, gset]; exact q5, by simp [hg, gset]; exact q6, fun i hi => by simp [hg, gset]; exact q7 i hi, z + 1, z + 1, cs.length, by simp [hg, gset], by show z + 1 ≤ p + 1; omega, ?_, EncC.nil _ _ _ _⟩
  refine ⟨p0, c0, pb, cb, h1.mono (fun i hi => ⟨e9 i (by omega), e11 i (by omega)⟩) (fun c hc => tb c (by omega)) (fun i hi => by simp [hg, gset]), h2.mono (fun i _ hi => ⟨e9 i (by omega), e11 i (by omega)⟩) (fun c _ hc => tb c (by omega)), by simp [hg, gset]; exact h3, by omega, by omega, Or.inr ⟨rfl, by omega, by simp [hg, gset]; exact a2, rfl, by omega, by rw [e9 pb (by omega)]; exact a5, by rw [e11 pb (by omega)]; exact a6, by simp [hg, gset]; exact a7, by simp [hg, gset]; omega, fun i => if i ≤ m then s i else z + 1, fun i => if i = m then z else e i, fun i => if i ≤ m then ids i else cs.length, by simp; exact b1, by simp; exact b2, if_neg (show ¬ m + 1 ≤ m by omega), if_neg (show ¬ m + 1 ≤ m by omega), fun i hi => ?_, fun i hi => ?_⟩⟩
  · by_cases him : i = m
    · subst him
      simp only [Nat.le_refl, if_true, updD]
      rw [if_neg (by omega), if_neg (by omega), b3, b4]
      have := q11.mono (g' := g') (fun i _ hi => ⟨e9 i (by omega), e11 i (by omega)⟩) (fun c hc _ => tb c (by omega))
      rw [show 4 - (fs.length + 1) = 3 - fs.length by omega] at this
      exact ⟨this, by simp [hg, gset], by simp [hg, gset], rfl⟩
    · have hi2 : i < m := by omega
      have q1 := wl (m - (i + 1)) (i + 1) (by omega)
      have q2 := il (m - (i + 1)) (i + 1) (by omega)
      have q3 := il i 0 (by omega)
      rw [show i + 1 + (m - (i + 1)) = m by omega] at q1 q2
      rw [show 0 + i = i by omega] at q3
      obtain ⟨d1, d2, d3, d4⟩ := b5 i hi2
      have dl := d1.le
      simp only [updD, him, if_false]
      rw [if_pos (by omega), if_pos (by omega), if_pos (by omega), if_pos (by omega), e9 _ (by omega), e11 _ (by omega)]
      exact ⟨d1.mono (fun j _ hj => ⟨e9 j (by omega), e11 j (by omega)⟩) (fun c hc _ => tb c (by omega)), d2, d3, d4⟩
  · show g' 17 (4 * cb + i) = ((if i ≤ m then s i else z + 1 : Nat) : Int)
    by_cases him : i = m + 1
    · rw [him, if_neg (by omega)]; simp [hg, gset]
    · rw [if_pos (by omega)]
      have c2 : 4 * cb + i ≠ 4 * cb + (m + 1) := by omega
      rw [show g' 17 (4 * cb + i) = g 17 (4 * cb + i) by simp [hg, gset, him]]
      exact b6 i (by omega)
theorem rc_clc {t : List Int} {p : Nat} {fs : List Fm} {D bf : Ds} {W : Nat → Ds} {c tk m : Nat} {cs : List Nat} {us sy : Nat} {g : Gx} (h : RC t (p, false, (1, c, tk, m, W, bf) :: fs, D, cs, us, sy) g) (hp : p < t.length) (ht : t.length ≤ 160) (hfs : fs.length < 4) (hcs : cs.length < 40) (htk : tk < 6) (hW : ∀ i, m ≤ i → W i = dnil) : (rat g 30 4 (wr (g 28 4 - 1)) = (c : Int) ∧ rat g 15 40 (c : Int) = ((m + 1 : Nat) : Int)) ∧ (1 ≤ m → RC t (p + 1, false, fs, dseq bf (dch c tk (m + 1) (updD W m D)), cs, us, sy) (clcH (c : Int) g)) := by
  obtain ⟨q1, q2, q3, q4, q5, q6, q7, z, lo, cl, q8, q9, q10, q11⟩ := h
  replace q1 : g 28 5 = (p : Int) := q1
  replace q2 : g 28 4 = ((fs.length + 1 : Nat) : Int) := q2
  replace q9 : z ≤ p := q9
  replace q11 : EncC g (4 - (fs.length + 1)) lo z cl cs.length D := q11
  have le := q11.le
  obtain ⟨p0, c0, pb, cb, h1, h2, h3, h4, h5, ⟨a1, -⟩ | ⟨-, hm4, a2, a3, a4, a5, a6, a7, a8, s, e, ids, b1, b2, b3, b4, b5, b6⟩⟩ := q10
  · cases a1
  subst a3
  have le2 := h2.le
  have hc : rat g 30 4 (wr (g 28 4 - 1)) = (cb : Int) := by
    rw [q2, wr_id (by omega) (by omega), rat_in (by omega) (by omega), show (((fs.length + 1 : Nat) : Int) - 1).toNat = fs.length by omega]; exact a2
  have hw : rat g 15 40 (cb : Int) = ((m + 1 : Nat) : Int) := by
    rw [rat_in (by omega) (by omega), Int.toNat_natCast]; exact a8
  refine ⟨⟨hc, hw⟩, fun hm => ?_⟩
  obtain ⟨g', hg⟩ : ∃ g', g' = gset (gset (gset (gset (gset (gset g 9 z 3) 11 z (cb : Int)) 7 10 ((z : Int) + 1)) 19 cb ((z : Int) + 1)) 28 4 (fs.length : Int)) 28 5 ((p : Int) + 1) := ⟨_, rfl⟩
  have e0 : clcH (cb : Int) g = g' := by
    unfold clcH St_add
    simp only [lett]
    rw [q8, rsi (c := 9) (by omega) (by omega), rsi (c := 11) (by omega) (by omega), wr_id (x := (z : Int) + 1) (by omega) (by omega), Int.toNat_natCast]
    unfold St_endChoice
    rw [rsi (c := 19) (by omega) (by omega), Int.toNat_natCast]
    simp (disch := decide) only [gc, gs_same, gi]
    rw [q1, q2, wr_id (x := ((fs.length + 1 : Nat) : Int) - 1) (by omega) (by omega), wr_id (x := (p : Int) + 1) (by omega) (by omega), hg, show ((fs.length + 1 : Nat) : Int) - 1 = (fs.length : Int) by omega]
  rw [e0]
  have e9 : ∀ i, i ≠ z → g' 9 i = g 9 i := fun i hi => by simp [hg, gset, hi]
  have e11 : ∀ i, i ≠ z → g' 11 i = g 11 i := fun i hi => by simp [hg, gset, hi]
  have tb : ∀ c, c ≠ cb → TbA g g' c := fun c hc => by
    unfold TbA
    exact ⟨by simp [hg, gset], by simp [hg, gset], by simp [hg, gset, hc], fun i hi => by simp [hg, gset]⟩
  have wl := way_lim (fun i hi => ⟨(b5 i hi).1.le.1, (b5 i hi).2.2.2⟩)
  have il := ids_mono (fun i hi => (b5 i hi).1.le.2)
  refine ⟨by simp [hg, gset], by simp [hg, gset], by simp [hg, gset]; exact q3, by simp [hg, gset]; exact q4, by simp [hg, gset]; exact q5, by simp [hg, gset]; exact q6, fun i hi => by simp [hg, gset]; exact q7 i hi, z + 1, p0, c0, by simp [hg, gset], by show z + 1 ≤ p + 1; omega, ?_, ?_⟩
  · exact h1.mono (fun i hi => ⟨e9 i (by omega), e11 i (by omega)⟩) (fun c hc => tb c (by omega)) (fun i hi => by simp [hg, gset])
  · show EncC g' (4 - fs.length) p0 (z + 1) c0 cs.length _
    refine EncC.seq (h2.mono (fun i _ hi => ⟨e9 i (by omega), e11 i (by omega)⟩) (fun c _ hc => tb c (by omega))) ?_
    have key := EncC.cho (g := g') (d := 3 - fs.length) (lo := pb) (c := cb) (t := tk) (m := m + 1) (W := updD W m D) (s := s) (e := fun i => if i = m then z else e i) (cs := fun i => if i ≤ m then ids i else cs.length) (by omega) (by omega) (by omega) htk (by rw [e9 pb (by omega)]; exact a5) (by rw [e11 pb (by omega)]; exact a6) (by simp [hg, gset]; exact a7) (by simp [hg, gset]; exact a8) (fun i hi => by rw [show g' 17 (4 * cb + i) = g 17 (4 * cb + i) by simp [hg, gset]]; exact b6 i (by omega)) (by simp [hg, gset]) b1 (by simp; exact b2) (fun i hi => ?_) (fun i hi => ?_) (by simp [hg, gset]) (by simp [hg, gset]) (updD_dn hW)
    · simp only [show m + 1 - 1 = m by omega, if_true] at key
      rw [if_neg (by omega), show 3 - fs.length + 1 = 4 - fs.length by omega] at key
      exact key
    · by_cases him : i = m
      · subst him
        simp only [Nat.le_refl, if_true, updD]
        rw [if_neg (by omega), b3, b4]
        have := q11.mono (g' := g') (fun i _ hi => ⟨e9 i (by omega), e11 i (by omega)⟩) (fun c hc _ => tb c (by omega))
        rw [show 4 - (fs.length + 1) = 3 - fs.length by omega] at this
        exact this
      · have hi2 : i < m := by omega
        have q1 := wl (m - (i + 1)) (i + 1) (by omega)
        have q2 := il (m - (i + 1)) (i + 1) (by omega)
        have q3 := il i 0 (by omega)
        rw [show i + 1 + (m - (i + 1)) = m by omega] at q1 q2
        rw [show 0 + i = i by omega] at q3
        obtain ⟨d1, d2, d3, d4⟩ := b5 i hi2
        have dl := d1.le
        simp only [updD, him, if_false]
        rw [if_pos (by omega), if_pos (by omega)]
        exact d1.mono (fun j _ hj => ⟨e9 j (by omega), e11 j (by omega)⟩) (fun c hc _ => tb c (by omega))
    · have hi2 : i < m := by omega
      have q1 := wl (m - (i + 1)) (i + 1) (by omega)
      rw [show i + 1 + (m - (i + 1)) = m by omega] at q1
      obtain ⟨d1, d2, d3, d4⟩ := b5 i hi2
      rw [if_neg (by omega), e9 _ (by omega), e11 _ (by omega)]
      exact ⟨d2, d3, d4⟩
theorem rc_clr {t : List Int} {p : Nat} {fs : List Fm} {D bf : Ds} {W : Nat → Ds} {k tk m : Nat} {cs : List Nat} {us sy : Nat} {g : Gx} (h : RC t (p, false, (0, k, tk, m, W, bf) :: fs, D, cs, us, sy) g) (hp : p < t.length) (ht : t.length ≤ 160) (hfs : fs.length < 4) (hk : 2 ≤ k ∧ k ≤ 4) : rat g 30 4 (wr (g 28 4 - 1)) = -1 ∧ RC t (p + 1, false, fs, dseq bf (drep k D), cs, us, sy) (clrH g) := by
  obtain ⟨q1, q2, q3, q4, q5, q6, q7, z, lo, cl, q8, q9, q10, q11⟩ := h
  replace q1 : g 28 5 = (p : Int) := q1
  replace q2 : g 28 4 = ((fs.length + 1 : Nat) : Int) := q2
  replace q9 : z ≤ p := q9
  replace q11 : EncC g (4 - (fs.length + 1)) lo z cl cs.length D := q11
  have le := q11.le
  obtain ⟨p0, c0, pb, cb, h1, h2, h3, h4, h5, h6⟩ := q10
  have h7 : g 30 fs.length = -1 ∧ g 9 pb = 4 ∧ g 11 pb = (k : Int) ∧ lo = pb + 1 ∧ cb = cl := by
    rcases h6 with ⟨-, x⟩ | ⟨x, -⟩
    · exact x
    · cases x
  obtain ⟨a2, a3, a4, a5, a6⟩ := h7
  clear h6
  subst a5 a6
  have le2 := h2.le
  have hd : wr (g 28 4 - 1) = (fs.length : Int) := by
    rw [q2, wr_id (by omega) (by omega)]; omega
  refine ⟨by rw [hd, rat_in (by omega) (by omega), Int.toNat_natCast]; exact a2, ?_⟩
  have hpb : rat g 32 4 (wr (g 28 4 - 1)) = (pb : Int) := by
    rw [hd, rat_in (by omega) (by omega), Int.toNat_natCast]; exact h3
  by_cases hz : z = pb + 1
  · have hv := q11.void hz.symm
    obtain ⟨g', hg⟩ : ∃ g', g' = gset (gset (gset g 7 10 (pb : Int)) 28 4 (fs.length : Int)) 28 5 ((p : Int) + 1) := ⟨_, rfl⟩
    have e0 : clrH g = g' := by
      unfold clrH St_closeRounds
      simp only [lett]
      rw [hpb, q8, wr_id (x := (pb : Int) + 1) (by omega) (by omega), if_neg (by omega)]
      simp (disch := decide) only [gc, gi]
      rw [hd, q1, wr_id (x := (p : Int) + 1) (by omega) (by omega), hg]
    rw [e0]
    have tb : ∀ c, TbA g g' c := fun c => by unfold TbA; simp [hg, gset]
    refine ⟨by simp [hg, gset], by simp [hg, gset], by simp [hg, gset]; exact q3, by simp [hg, gset]; exact q4, by simp [hg, gset]; exact q5, by simp [hg, gset]; exact q6, fun i hi => by simp [hg, gset]; exact q7 i hi, pb, p0, c0, by simp [hg, gset], by show pb ≤ p + 1; omega, ?_, ?_⟩
    · exact h1.mono (fun i hi => by simp [hg, gset]) (fun c hc => tb c) (fun i hi => by simp [hg, gset])
    · show EncC g' (4 - fs.length) p0 pb c0 cs.length (dseq bf (drep k D))
      rw [hv.1, rep_nil, dseq_nil, ← hv.2]
      exact h2.mono (fun i _ hi => by simp [hg, gset]) (fun c _ hc => tb c)
  · obtain ⟨g', hg⟩ : ∃ g', g' = gset (gset (gset (gset (gset g 9 z 5) 11 z (k : Int)) 7 10 ((z : Int) + 1)) 28 4 (fs.length : Int)) 28 5 ((p : Int) + 1) := ⟨_, rfl⟩
    have e0 : clrH g = g' := by
      unfold clrH St_closeRounds
      simp only [lett]
      rw [hpb, q8, wr_id (x := (pb : Int) + 1) (by omega) (by omega), if_pos (by omega), rsi (c := 9) (by omega) (by omega), rsi (c := 11) (by omega) (by omega), rat_in (by omega) (by omega), Int.toNat_natCast, Int.toNat_natCast, a4, wr_id (x := (z : Int) + 1) (by omega) (by omega)]
      simp (disch := decide) only [gc, gi]
      rw [hd, q1, wr_id (x := (p : Int) + 1) (by omega) (by omega), hg]
    rw [e0]
    have e9 : ∀ i, i ≠ z → g' 9 i = g 9 i := fun i hi => by simp [hg, gset, hi]
    have e11 : ∀ i, i ≠ z → g' 11 i = g 11 i := fun i hi => by simp [hg, gset, hi]
    have tb : ∀ c, TbA g g' c := fun c => by unfold TbA; simp [hg, gset]
    refine ⟨by simp [hg, gset], by simp [hg, gset], by simp [hg, gset]; exact q3, by simp [hg, gset]; exact q4, by simp [hg, gset]; exact q5, by simp [hg, gset]; exact q6, fun i hi => by simp [hg, gset]; exact q7 i hi, z + 1, p0, c0, by simp [hg, gset], by show z + 1 ≤ p + 1; omega, ?_, ?_⟩
    · exact h1.mono (fun i hi => ⟨e9 i (by omega), e11 i (by omega)⟩) (fun c hc => tb c) (fun i hi => by simp [hg, gset])
    · show EncC g' (4 - fs.length) p0 (z + 1) c0 cs.length _
      refine EncC.seq (h2.mono (fun i _ hi => ⟨e9 i (by omega), e11 i (by omega)⟩) (fun c _ hc => tb c)) ?_
      have := EncC.rep (g := g') (lo := pb) (hi := z) (k := k) (d := 3 - fs.length) (cl := cb) (ch := cs.length) (A := D) hk.1 hk.2 (by rw [e9 pb (by omega)]; exact a3) (by rw [e11 pb (by omega)]; exact a4) (by
        have := q11.mono (g' := g') (fun i _ hi => ⟨e9 i (by omega), e11 i (by omega)⟩) (fun c hc _ => tb c)
        rw [show 4 - (fs.length + 1) = 3 - fs.length by omega] at this
        exact this) (by omega) (by simp [hg, gset]) (by simp [hg, gset])
      rw [show 3 - fs.length + 1 = 4 - fs.length by omega] at this
      exact this
