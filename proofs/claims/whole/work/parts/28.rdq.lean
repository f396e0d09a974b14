/-! The reference reads what stands behind an item; its whole reading. Own text. -/
def wmH (z pb m p : Nat) (g : Gx) : Gx := gset (gset (gset (gset (gset (gset (gset (gset g 99 z 2) 100 z 0) 101 z 0) 102 z (pb : Int)) 92 9 ((z : Int) + 1)) 104 (4 * pb + (m + 1)) ((z : Int) + 1)) 101 pb ((m : Int) + 2)) 92 8 ((p + 1 : Nat) : Int)
theorem wm_eq {g : Gx} {d pb z m p : Nat} (hd : g 92 20 = ((d + 1 : Nat) : Int)) (hd4 : d < 4) (ho : g 105 d = (pb : Int)) (hpb : pb < z) (hz : g 92 9 = (z : Int)) (hz2 : z < 169) (hp : g 92 8 = (p : Int)) (hp2 : p ≤ 200) (hm : g 99 pb = 1 → g 101 pb = ((m + 1 : Nat) : Int) ∧ m ≤ 3) : Md_wayMore g = if g 99 pb = 1 ∧ m < 3 then some (1, wmH z pb m p g) else some (0, g) := by
  unfold Md_wayMore
  have e1 : wr (g 92 20 - 1) = (d : Int) := by rw [hd, wr_id (by omega) (by omega)]; omega
  rw [e1]
  rw [if_neg (by omega), if_pos (by omega), Int.toNat_natCast, ho, if_pos (by omega), Int.toNat_natCast]
  by_cases c1 : g 99 pb = 1
  · obtain ⟨hm1, hm2⟩ := hm c1
    rw [if_neg (by omega), if_pos (by omega), if_pos (by omega), hm1]
    by_cases c2 : m < 3
    · rw [if_pos (by omega), if_pos (by omega), if_pos ⟨c1, c2⟩, act_eq hz (by omega), ob_eq]
      have hne : pb ≠ z := by omega
      have e2 : gset (gset (gset (gset (gset g 99 z 2) 100 z 0) 101 z 0) 102 z (pb : Int)) 92 9 ((z : Int) + 1) 101 pb = ((m + 1 : Nat) : Int) := by simp [gset, hne]; exact hm1
      have e3 : gset (gset (gset (gset (gset g 99 z 2) 100 z 0) 101 z 0) 102 z (pb : Int)) 92 9 ((z : Int) + 1) 92 8 = (p : Int) := by simp [gset]; exact hp
      have e4 : gset (gset (gset (gset (gset g 99 z 2) 100 z 0) 101 z 0) 102 z (pb : Int)) 92 9 ((z : Int) + 1) 92 9 = (z : Int) + 1 := gs_same
      rw [e2, e3, e4, if_pos (by omega), show wr (wr (4 * (pb : Int)) + ((m + 1 : Nat) : Int)) = ((4 * pb + (m + 1) : Nat) : Int) by simp (disch := omega) only [wr_id]; omega, if_pos (by omega), if_pos (by omega), if_pos (by omega), Int.toNat_natCast, wr_id (x := ((m + 1 : Nat) : Int) + 1) (by omega) (by omega), wr_id (x := (p : Int) + 1) (by omega) (by omega)]
      unfold wmH
      rw [show ((m + 1 : Nat) : Int) + 1 = (m : Int) + 2 by omega, show (p : Int) + 1 = ((p + 1 : Nat) : Int) by omega]
    · rw [if_neg (by omega), if_neg (by omega)]
  · rw [if_pos c1, if_neg (by omega)]
def ckH (z pb d p : Nat) (g : Gx) : Gx := gset (gset (gset g 103 pb (z : Int)) 92 20 (d : Int)) 92 8 ((p + 1 : Nat) : Int)
def agH (z pb d p : Nat) (g : Gx) : Gx := gset (gset (gset (gset (gset (gset (gset (gset g 99 z 4) 100 z 0) 101 z 0) 102 z (pb : Int)) 92 9 ((z : Int) + 1)) 103 pb ((z : Int) + 1)) 92 20 (d : Int)) 92 8 ((p + 1 : Nat) : Int)
theorem cl_eq {g : Gx} {d pb z p : Nat} (hd : g 92 20 = ((d + 1 : Nat) : Int)) (hd4 : d < 4) (ho : g 105 d = (pb : Int)) (hpb : pb < z) (hz : g 92 9 = (z : Int)) (hz2 : z < 169) (hp : g 92 8 = (p : Int)) (hp2 : p ≤ 200) : (g 99 pb = 1 → Md_closes g = if g 101 pb = 1 then some (0, g) else some (1, ckH z pb d p g)) ∧ (g 99 pb = 3 → Md_closes g = some (1, agH z pb d p g)) := by
  unfold Md_closes
  have e1 : wr (g 92 20 - 1) = (d : Int) := by rw [hd, wr_id (by omega) (by omega)]; omega
  rw [e1]
  rw [if_pos (by omega), if_pos (by omega), Int.toNat_natCast, ho, if_pos (by omega), Int.toNat_natCast]
  refine ⟨fun c1 => ?_, fun c1 => ?_⟩
  · rw [if_neg (by omega), if_pos (by omega)]
    by_cases c2 : g 101 pb = 1
    · rw [if_neg (by omega), if_pos c2]
    · rw [if_pos c2, if_neg c2, if_pos (by omega), if_pos (by omega), if_pos (by omega), hz, hp, wr_id (x := (p : Int) + 1) (by omega) (by omega)]
      unfold ckH
      rw [show (p : Int) + 1 = ((p + 1 : Nat) : Int) by omega]
  · rw [if_pos (by omega), if_pos (by omega), if_neg (by omega), act_eq hz (by omega), ob_eq]
    simp (disch := decide) only [gc, gs_same, gi]
    rw [if_pos (by omega), hd, hp, wr_id (x := ((d + 1 : Nat) : Int) - 1) (by omega) (by omega), wr_id (x := (p : Int) + 1) (by omega) (by omega)]
    unfold agH
    rw [show ((d + 1 : Nat) : Int) - 1 = (d : Int) by omega, show (p : Int) + 1 = ((p + 1 : Nat) : Int) by omega]
theorem rr_next {p : Nat} {fs : List Fm} {D bf : Ds} {W : Nat → Ds} {c tk m : Nat} {cs : List Nat} {us sy : Nat} {g : Gx} (h : RR (p, false, (1, c, tk, m, W, bf) :: fs, D, cs, us, sy) g) (hp : p < 160) (hfs : fs.length < 4) (hm : m < 3) : ∃ g', Md_wayMore g = some (1, g') ∧ RR (p + 1, true, (1, c, tk, m + 1, updD W m D, bf) :: fs, dnil, cs, us, sy) g' := by
  obtain ⟨q1, q2, q3, q4, q5, z, lo, q8, q9, q10, q11, q12⟩ := h
  replace q1 : g 92 8 = (p : Int) := q1
  replace q2 : g 92 20 = ((fs.length + 1 : Nat) : Int) := q2
  replace q9 : z ≤ p := q9
  replace q11 : EncR g (4 - (fs.length + 1)) lo z D := q11
  have le := q11.le
  obtain ⟨p0, pb, h1, h2, h3, h4, ⟨a1, -⟩ | ⟨-, hm4, a2, a3, a4, a5, s, e, b1, b3, b5, b6⟩⟩ := q10
  · cases a1
  have le2 := h2.le
  refine ⟨wmH z pb m p g, ?_, ?_⟩
  · rw [wm_eq q2 hfs h3 (by omega) q8 (by omega) q1 (by omega) (fun _ => ⟨a4, hm4⟩), if_pos ⟨a2, hm⟩]
  obtain ⟨g', hg⟩ : ∃ g', g' = wmH z pb m p g := ⟨_, rfl⟩
  rw [← hg]
  unfold wmH at hg
  have hne : z ≠ pb := by omega
  have ac : ∀ i, i ≠ z → i ≠ pb → acA g g' i := fun i hi hi2 => by
    unfold acA
    refine ⟨by simp [hg, gset, hi], by simp [hg, gset, hi], by simp [hg, gset, hi, hi2], by simp [hg, gset, hi], by simp [hg, gset], fun j hj => ?_⟩
    have : 4 * i + j ≠ 4 * pb + (m + 1) := by omega
    simp [hg, gset, this]
  have wl := way_lim (fun i hi => ⟨(b5 i hi).1.le, (b5 i hi).2.2.2⟩)
  have hpz : pb ≠ z := by omega
  refine ⟨by simp [hg, gset], by simp [hg, gset]; exact q2, by simp [hg, gset]; exact q3, by simp [hg, gset]; exact q4, by simp [hg, gset]; exact q5, z + 1, z + 1, by simp [hg, gset], by show z + 1 ≤ p + 1; omega, ?_, EncR.nil _ _ _, q12.more (fun i hi => ?_) (by simp [hg, gset])⟩
  · refine ⟨p0, pb, h1.mono (fun i hi => ac i (by omega) (by omega)) (fun i _ => by simp [hg, gset]), (h2.mono (fun i _ hi => ac i (by omega) (by omega))).2, by simp [hg, gset]; exact h3, by omega, Or.inr ⟨rfl, by omega, by simp [hg, gset, hpz]; exact a2, by simp [hg, gset, hpz]; exact a3, by simp [hg, gset]; omega, by simp [hg, gset, hpz]; exact a5, fun i => if i ≤ m then s i else z + 1, fun i => if i = m then z else e i, by simp; exact b1, if_neg (show ¬ m + 1 ≤ m by omega), fun i hi => ?_, fun i hi => ?_⟩⟩
    · by_cases him : i = m
      · subst him
        simp only [Nat.le_refl, if_true, updD]
        rw [if_neg (by omega), b3]
        have := (q11.mono (g' := g') (fun i _ hi => ac i (by omega) (by omega))).2
        rw [show 4 - (fs.length + 1) = 3 - fs.length by omega] at this
        exact ⟨this, by simp [hg, gset], by simp [hg, gset], rfl⟩
      · have hi2 : i < m := by omega
        have x1 := wl (m - (i + 1)) (i + 1) (by omega)
        have x2 := wl i 0 (by omega)
        rw [show i + 1 + (m - (i + 1)) = m by omega] at x1
        rw [show 0 + i = i by omega] at x2
        obtain ⟨d1, d2, d3, d4⟩ := b5 i hi2
        have dl := d1.le
        simp only [updD, him, if_false]
        rw [if_pos (by omega), if_pos (by omega)]
        obtain ⟨y1, -, -, y4, -⟩ := ac (e i) (by omega) (by omega)
        rw [y1, y4]
        exact ⟨(d1.mono (fun j _ hj => ac j (by omega) (by omega))).2, d2, d3, d4⟩
    · show g' 104 (4 * pb + i) = ((if i ≤ m then s i else z + 1 : Nat) : Int)
      by_cases him : i = m + 1
      · rw [him, if_neg (by omega)]; simp [hg, gset]
      · rw [if_pos (by omega), show g' 104 (4 * pb + i) = g 104 (4 * pb + i) by simp [hg, gset, him]]
        exact b6 i (by omega)
  · by_cases h9 : i = pb
    · rw [h9]; exact ⟨by simp [hg, gset, hpz], by simp [hg, gset, hpz], by simp [hg, gset, hpz]⟩
    · obtain ⟨x1, x2, -, x4, -⟩ := ac i (by omega) h9
      exact ⟨x1, x2, x4⟩
theorem rr_clc {p : Nat} {fs : List Fm} {D bf : Ds} {W : Nat → Ds} {c tk m : Nat} {cs : List Nat} {us sy : Nat} {g : Gx} (h : RR (p, false, (1, c, tk, m, W, bf) :: fs, D, cs, us, sy) g) (hp : p < 160) (hfs : fs.length < 4) (hcs : cs.length < 40) (htk : tk < 6) (hW : ∀ i, m ≤ i → W i = dnil) : (m = 0 → Md_closes g = some (0, g)) ∧ (3 ≤ m → Md_wayMore g = some (0, g)) ∧ (1 ≤ m → ∃ g', Md_closes g = some (1, g') ∧ RR (p + 1, false, fs, dseq bf (dch c tk (m + 1) (updD W m D)), cs, us, sy) g') := by
  obtain ⟨q1, q2, q3, q4, q5, z, lo, q8, q9, q10, q11, q12⟩ := h
  replace q1 : g 92 8 = (p : Int) := q1
  replace q2 : g 92 20 = ((fs.length + 1 : Nat) : Int) := q2
  replace q9 : z ≤ p := q9
  replace q11 : EncR g (4 - (fs.length + 1)) lo z D := q11
  have le := q11.le
  obtain ⟨p0, pb, h1, h2, h3, h4, ⟨a1, -⟩ | ⟨-, hm4, a2, a3, a4, a5, s, e, b1, b3, b5, b6⟩⟩ := q10
  · cases a1
  have le2 := h2.le
  have hcl := (cl_eq q2 hfs h3 (show pb < z by omega) q8 (by omega) q1 (by omega)).1 a2
  have hc : c < 40 := by
    obtain ⟨c', x1, x2, -⟩ := q12.1 pb (by omega) a2
    have x1 : c' < cs.length := x1
    rw [a5] at x2
    omega
  refine ⟨fun hm => by rw [hcl, if_pos (by omega)], fun hm => ?_, fun hm => ⟨ckH z pb fs.length p g, by rw [hcl, if_neg (by omega)], ?_⟩⟩
  · rw [wm_eq q2 hfs h3 (show pb < z by omega) q8 (by omega) q1 (by omega) (fun _ => ⟨a4, hm4⟩), if_neg (by omega)]
  obtain ⟨g', hg⟩ : ∃ g', g' = ckH z pb fs.length p g := ⟨_, rfl⟩
  rw [← hg]
  unfold ckH at hg
  have ac : ∀ i, i ≠ pb → acA g g' i := fun i hi => by
    unfold acA
    simp [hg, gset, hi]
  have wl := way_lim (fun i hi => ⟨(b5 i hi).1.le, (b5 i hi).2.2.2⟩)
  refine ⟨by simp [hg, gset], by simp [hg, gset], by simp [hg, gset]; exact q3, by simp [hg, gset]; exact q4, by simp [hg, gset]; exact q5, z, p0, by simp [hg, gset]; exact q8, by show z ≤ p + 1; omega, h1.mono (fun i hi => ac i (by omega)) (fun i _ => by simp [hg, gset]), ?_, q12.same (fun i hi => by simp [hg, gset])⟩
  show EncR g' (4 - fs.length) p0 z _
  refine EncR.seq (h2.mono (fun i _ hi => ac i (by omega))).2 ?_
  have key := EncR.cho (g := g') (d := 3 - fs.length) (lo := pb) (c := c) (t := tk) (m := m + 1) (W := updD W m D) (s := s) (e := fun i => if i = m then z else e i) (by omega) (by omega) hc htk (by simp [hg, gset]; exact a2) (by simp [hg, gset]; exact a3) (by simp [hg, gset]; exact a4) (by simp [hg, gset]; exact a5) (fun i hi => by rw [show g' 104 (4 * pb + i) = g 104 (4 * pb + i) by simp [hg, gset]]; exact b6 i (by omega)) (by simp [hg, gset]) b1 (fun i hi => ?_) (fun i hi => ?_) (updD_dn hW)
  · simp only [show m + 1 - 1 = m by omega, if_true] at key
    rw [show 3 - fs.length + 1 = 4 - fs.length by omega] at key
    exact key
  · by_cases him : i = m
    · subst him
      simp only [if_true, updD]
      rw [b3]
      have := (q11.mono (g' := g') (fun i _ hi => ac i (by omega))).2
      rw [show 4 - (fs.length + 1) = 3 - fs.length by omega] at this
      exact this
    · have hi2 : i < m := by omega
      have x2 := wl i 0 (by omega)
      rw [show 0 + i = i by omega] at x2
      obtain ⟨d1, d2, d3, d4⟩ := b5 i hi2
      simp only [updD, him, if_false]
      exact (d1.mono (fun j _ hj => ac j (by omega))).2
  · have hi2 : i < m := by omega
    have x2 := wl i 0 (by omega)
    rw [show 0 + i = i by omega] at x2
    obtain ⟨d1, d2, d3, d4⟩ := b5 i hi2
    have dl := d1.le
    obtain ⟨y1, -, -, y4, -⟩ := ac (e i) (by omega)
    rw [if_neg (by omega), y1, y4]
    exact ⟨d2, d3, d4⟩
theorem rr_clr {p : Nat} {fs : List Fm} {D bf : Ds} {W : Nat → Ds} {k tk m : Nat} {cs : List Nat} {us sy : Nat} {g : Gx} (h : RR (p, false, (0, k, tk, m, W, bf) :: fs, D, cs, us, sy) g) (hp : p < 160) (hfs : fs.length < 4) (hk : 2 ≤ k ∧ k ≤ 4) : Md_wayMore g = some (0, g) ∧ ∃ g', Md_closes g = some (1, g') ∧ RR (p + 1, false, fs, dseq bf (drep k D), cs, us, sy) g' := by
  obtain ⟨q1, q2, q3, q4, q5, z, lo, q8, q9, q10, q11, q12⟩ := h
  replace q1 : g 92 8 = (p : Int) := q1
  replace q2 : g 92 20 = ((fs.length + 1 : Nat) : Int) := q2
  replace q9 : z ≤ p := q9
  replace q11 : EncR g (4 - (fs.length + 1)) lo z D := q11
  have le := q11.le
  obtain ⟨p0, pb, h1, h2, h3, h4, h6⟩ := q10
  have h7 : g 99 pb = 3 ∧ g 101 pb = (k : Int) ∧ lo = pb + 1 := by
    rcases h6 with ⟨-, x⟩ | ⟨x, -⟩
    · exact x
    · cases x
  obtain ⟨a2, a3, a4⟩ := h7
  subst a4
  have le2 := h2.le
  refine ⟨?_, agH z pb fs.length p g, (cl_eq q2 hfs h3 (show pb < z by omega) q8 (by omega) q1 (by omega)).2 a2, ?_⟩
  · rw [wm_eq (m := 0) q2 hfs h3 (show pb < z by omega) q8 (by omega) q1 (by omega) (fun h9 => by omega), if_neg (by omega)]
  obtain ⟨g', hg⟩ : ∃ g', g' = agH z pb fs.length p g := ⟨_, rfl⟩
  rw [← hg]
  unfold agH at hg
  have hpz : pb ≠ z := by omega
  have ac : ∀ i, i ≠ z → i ≠ pb → acA g g' i := fun i hi hi2 => by
    unfold acA
    simp [hg, gset, hi, hi2]
  refine ⟨by simp [hg, gset], by simp [hg, gset], by simp [hg, gset]; exact q3, by simp [hg, gset]; exact q4, by simp [hg, gset]; exact q5, z + 1, p0, by simp [hg, gset], by show z + 1 ≤ p + 1; omega, h1.mono (fun i hi => ac i (by omega) (by omega)) (fun i _ => by simp [hg, gset]), ?_, q12.more (fun i hi => ?_) (by simp [hg, gset])⟩
  · show EncR g' (4 - fs.length) p0 (z + 1) _
    refine EncR.seq (h2.mono (fun i _ hi => ac i (by omega) (by omega))).2 ?_
    have := EncR.rep (g := g') (lo := pb) (hi := z) (k := k) (d := 3 - fs.length) (A := D) hk.1 hk.2 (by simp [hg, gset, hpz]; exact a2) (by simp [hg, gset, hpz]; exact a3) (by
      have := (q11.mono (g' := g') (fun i hi1 hi => ac i (by omega) (by omega))).2
      rw [show 4 - (fs.length + 1) = 3 - fs.length by omega] at this
      exact this) (by simp [hg, gset]) (by simp [hg, gset])
    rw [show 3 - fs.length + 1 = 4 - fs.length by omega] at this
    exact this
  · by_cases h9 : i = pb
    · rw [h9]; exact ⟨by simp [hg, gset, hpz], by simp [hg, gset, hpz], by simp [hg, gset, hpz]⟩
    · obtain ⟨x1, x2, -, x4, -⟩ := ac i (by omega) h9
      exact ⟨x1, x2, x4⟩
