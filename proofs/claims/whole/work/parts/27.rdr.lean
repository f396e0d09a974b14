/-! The reference reads a text as told: items. Own text. -/
theorem gset_gset {g : Gx} {c i : Nat} {v w : Int} : gset (gset g c i v) c i w = gset g c i w := by
  funext b j
  simp only [gset]
  by_cases h : b = c
  · by_cases h2 : j = i <;> simp [h, h2]
  · simp [h]
def TxR (t : List Int) (g : Gx) : Prop := g 98 0 = (t.length : Int) ∧ t.length ≤ 160 ∧ ∀ i, i < t.length → g 97 i = chr t i
theorem TxR.of {t : List Int} {g g' : Gx} (h : TxR t g) (h1 : g' 98 = g 98) (h3 : g' 97 = g 97) : TxR t g' := by
  unfold TxR
  rw [h1, h3]; exact h
theorem here0 {t : List Int} {g : Gx} (h : TxR t g) (p : Nat) (hp : g 92 8 = (p : Int)) (hp2 : p ≤ 200) : Md_here 0 g = some (chr t p, g) := by
  obtain ⟨h1, h2, h3⟩ := h
  unfold Md_here
  rw [if_pos (by decide), Int.toNat_zero, h1, hp]
  rcases Nat.lt_or_ge p t.length with hq | hq
  · have e : wr (wr (160 * 0) + (p : Int)) = (p : Int) := by simp (disch := omega) only [wr_id]; omega
    rw [if_neg (by omega), e, if_pos (by omega), Int.toNat_natCast, h3 p hq]
  · rw [if_pos (by omega)]
    simp [chr, List.getD_eq_getElem?_getD, List.getElem?_eq_none hq]
theorem TxR.at_ {t : List Int} {g : Gx} (h : TxR t g) (v : Int) : TxR t (gset g 92 8 v) := h.of (by rw [gset_ne (by decide)]) (by rw [gset_ne (by decide)])
theorem hereK {t : List Int} {g : Gx} (h : TxR t g) (v : Nat) (hv : v ≤ 200) : Md_here 0 (gset g 92 8 (v : Int)) = some (chr t v, gset g 92 8 (v : Int)) := here0 (h.at_ _) v gs_same hv
theorem isTK {t : List Int} {g : Gx} (h : TxR t g) (v : Nat) (hv : v ≤ 200) : Md_isTalker 0 (gset g 92 8 (v : Int)) = some (if 65 ≤ chr t v ∧ chr t v ≤ 70 then 1 else 0, gset g 92 8 (v : Int)) := by
  unfold Md_isTalker
  rw [hereK h v hv, ob_eq, in_eq]
theorem act_eq {g : Gx} {z : Nat} (hz : g 92 9 = (z : Int)) (hz2 : z < 170) (a b c d : Int) : Md_act a b c d g = some (gset (gset (gset (gset (gset g 99 z a) 100 z b) 101 z c) 102 z d) 92 9 ((z : Int) + 1)) := by
  unfold Md_act
  rw [hz, if_pos (by omega), if_pos (by omega), if_pos (by omega), if_pos (by omega), Int.toNat_natCast, wr_id (by omega) (by omega)]
/-- an opening bracket at v, v - 1 having been passed -/
def opH (d z v : Nat) (k a b c : Int) (g : Gx) : Gx := gset (gset (gset (gset (gset (gset (gset (gset (gset g 92 8 ((v : Int) + 1)) 105 d (z : Int)) 92 20 ((d : Int) + 1)) 99 z k) 100 z a) 101 z b) 102 z c) 92 9 ((z : Int) + 1)) 104 (4 * z) ((z : Int) + 1)
theorem opens_eq {t : List Int} {g : Gx} (h : TxR t g) {v z d : Nat} (hv : v ≤ 200) (hz : g 92 9 = (z : Int)) (hz2 : z < 169) (hd : g 92 20 = (d : Int)) (hd4 : d ≤ 4) (k a b c : Int) : Md_opens k a b c (gset g 92 8 (v : Int)) = if chr t v = 40 ∧ d < 4 then some (1, opH d z v k a b c g) else some (0, gset g 92 8 (v : Int)) := by
  unfold Md_opens
  rw [hereK h v hv, ob_eq]
  simp only
  by_cases c1 : chr t v = 40
  · rw [if_neg (by omega)]
    have e1 : gset g 92 8 (v : Int) 92 20 = (d : Int) := by rw [gi (by decide)]; exact hd
    have e2 : gset g 92 8 (v : Int) 92 9 = (z : Int) := by rw [gi (by decide)]; exact hz
    have e3 : gset g 92 8 (v : Int) 92 8 = (v : Int) := gs_same
    rw [e1]
    by_cases c2 : d < 4
    · rw [if_pos (by omega), if_pos (by omega), if_pos ⟨c1, c2⟩, Int.toNat_natCast, e2, e3, gset_gset, wr_id (x := (d : Int) + 1) (by omega) (by omega), wr_id (x := (v : Int) + 1) (by omega) (by omega)]
      rw [act_eq (z := z) (by simp [gset]; exact hz) (by omega), ob_eq]
      rw [gs_same, show wr (4 * wr ((z : Int) + 1 - 1)) = ((4 * z : Nat) : Int) by simp (disch := omega) only [wr_id]; omega, if_pos (by omega), Int.toNat_natCast]
      rfl
    · rw [if_neg (by omega), if_neg (by omega)]
  · rw [if_pos (by omega), if_neg (by omega)]
def ZR (g : Gx) : List Fm → Nat → Prop
  | [], lo => lo = 0
  | (kd, c, t, m, W, bf) :: fs, lo => ∃ p0 pb : Nat, ZR g fs p0 ∧ EncR g (4 - fs.length) p0 pb bf ∧ g 105 fs.length = (pb : Int) ∧ pb < lo ∧
      ((kd = 0 ∧ g 99 pb = 3 ∧ g 101 pb = (c : Int) ∧ lo = pb + 1) ∨
       (kd = 1 ∧ m ≤ 3 ∧ g 99 pb = 1 ∧ g 100 pb = (t : Int) ∧ g 101 pb = ((m + 1 : Nat) : Int) ∧ g 102 pb = (c : Int) ∧ ∃ s e : Nat → Nat, s 0 = pb + 1 ∧ s m = lo ∧ (∀ i, i < m → EncR g (3 - fs.length) (s i) (e i) (W i) ∧ g 99 (e i) = 2 ∧ g 102 (e i) = (pb : Int) ∧ s (i + 1) = e i + 1) ∧ ∀ i, i ≤ m → g 104 (4 * pb + i) = (s i : Int)))
theorem ZR.mono {g g' : Gx} : ∀ {fs : List Fm} {lo : Nat}, ZR g fs lo → (∀ i, i < lo → acA g g' i) → (∀ i, i < fs.length → g' 105 i = g 105 i) → ZR g' fs lo
  | [], _, h, _, _ => h
  | (kd, c, t, m, W, bf) :: fs, lo, h, x, z => by
    obtain ⟨p0, pb, h1, h2, h3, h4, h6⟩ := h
    have l2 := h2.le
    have z0 := z fs.length (by simp)
    obtain ⟨x1, x2, x3, x4, x5, x6⟩ := x pb h4
    refine ⟨p0, pb, ZR.mono h1 (fun i hi => x i (by omega)) (fun i hi => z i (by simp; omega)), (h2.mono (fun i _ hi => x i (by omega))).2, by rw [z0]; exact h3, h4, ?_⟩
    rcases h6 with ⟨a1, a2, a3, a4⟩ | ⟨a1, hm4, a2, a3, a4, a5, s, e, b1, b3, b5, b6⟩
    · exact Or.inl ⟨a1, by rw [x1]; exact a2, by rw [x3]; exact a3, a4⟩
    · have wl := way_lim (fun i hi => ⟨(b5 i hi).1.le, (b5 i hi).2.2.2⟩)
      refine Or.inr ⟨a1, hm4, by rw [x1]; exact a2, by rw [x2]; exact a3, by rw [x3]; exact a4, by rw [x4]; exact a5, s, e, b1, b3, fun i hi => ?_, fun i hi => by rw [x6 i (by omega)]; exact b6 i hi⟩
      obtain ⟨d1, d2, d3, d4⟩ := b5 i hi
      have q1 := wl (m - (i + 1)) (i + 1) (by omega)
      rw [show i + 1 + (m - (i + 1)) = m by omega] at q1
      obtain ⟨y1, -, -, y4, -⟩ := x (e i) (by omega)
      exact ⟨(d1.mono (fun j _ hj => x j (by omega))).2, by rw [y1]; exact d2, by rw [y4]; exact d3, d4⟩
def CA (g : Gx) (z : Nat) (cs : List Nat) : Prop := (∀ a, a < z → g 99 a = 1 → ∃ c, c < cs.length ∧ g 102 a = (c : Int) ∧ g 100 a = ((cs.getD c 0 : Nat) : Int)) ∧ ∀ c, c < cs.length → ∃ a, a < z ∧ g 99 a = 1 ∧ g 102 a = (c : Int) ∧ g 100 a = ((cs.getD c 0 : Nat) : Int)
def RR (s : PS) (g : Gx) : Prop :=
  g 92 8 = (s.1 : Int) ∧ g 92 20 = (s.2.2.1.length : Int) ∧ g 92 18 = (s.2.2.2.2.2.1 : Int) ∧ g 92 17 = (s.2.2.2.2.2.2 : Int) ∧ g 92 16 = (s.2.2.2.2.1.length : Int) ∧ ∃ z lo : Nat, g 92 9 = (z : Int) ∧ z ≤ s.1 ∧ ZR g s.2.2.1 lo ∧ EncR g (4 - s.2.2.1.length) lo z s.2.2.2.1 ∧ CA g z s.2.2.2.2.1
/-- an act more, which is no choice -/
theorem CA.more {g g' : Gx} {z : Nat} {cs : List Nat} (h : CA g z cs) (e1 : ∀ i, i < z → g' 99 i = g 99 i ∧ g' 100 i = g 100 i ∧ g' 102 i = g 102 i) (e2 : g' 99 z ≠ 1) : CA g' (z + 1) cs := by
  refine ⟨fun a ha h1 => ?_, fun c hc => ?_⟩
  · by_cases hz : a = z
    · rw [hz] at h1; exact absurd h1 e2
    · obtain ⟨x1, x2, x3⟩ := e1 a (by omega)
      rw [x2, x3]
      exact h.1 a (by omega) (by rw [← x1]; exact h1)
  · obtain ⟨a, ha, b1, b2, b3⟩ := h.2 c hc
    obtain ⟨x1, x2, x3⟩ := e1 a ha
    exact ⟨a, by omega, by rw [x1]; exact b1, by rw [x3]; exact b2, by rw [x2]; exact b3⟩
theorem CA.same {g g' : Gx} {z : Nat} {cs : List Nat} (h : CA g z cs) (e1 : ∀ i, i < z → g' 99 i = g 99 i ∧ g' 100 i = g 100 i ∧ g' 102 i = g 102 i) : CA g' z cs := by
  refine ⟨fun a ha h1 => ?_, fun c hc => ?_⟩
  · obtain ⟨x1, x2, x3⟩ := e1 a (by omega)
    rw [x2, x3]
    exact h.1 a (by omega) (by rw [← x1]; exact h1)
  · obtain ⟨a, ha, b1, b2, b3⟩ := h.2 c hc
    obtain ⟨x1, x2, x3⟩ := e1 a ha
    exact ⟨a, by omega, by rw [x1]; exact b1, by rw [x3]; exact b2, by rw [x2]; exact b3⟩
theorem rr_com {p : Nat} {fs : List Fm} {D : Ds} {cs : List Nat} {us sy : Nat} {g : Gx} {b b' : Bool} (h : RR (p, b, fs, D, cs, us, sy) g) : RR (p + 1, b', fs, D, cs, us, sy) (gset g 92 8 ((p + 1 : Nat) : Int)) := by
  obtain ⟨q1, q2, q3, q4, q5, z, lo, q8, q9, q10, q11, q12⟩ := h
  have q9 : z ≤ p := q9
  have ac : ∀ i, acA g (gset g 92 8 ((p + 1 : Nat) : Int)) i := fun i => by unfold acA; simp [gset]
  refine ⟨by simp [gset], by simp [gset]; exact q2, by simp [gset]; exact q3, by simp [gset]; exact q4, by simp [gset]; exact q5, z, lo, by simp [gset]; exact q8, by show z ≤ p + 1; omega, q10.mono (fun i _ => ac i) (fun i _ => by simp [gset]), (q11.mono (fun i _ _ => ac i)).2, q12.same (fun i _ => by simp [gset])⟩
theorem rr_say {p : Nat} {fs : List Fm} {D : Ds} {cs : List Nat} {us sy : Nat} {g : Gx} {b x y : Int} (h : RR (p, true, fs, D, cs, us, sy) g) (hb : 65 ≤ b ∧ b ≤ 70) (hx : 65 ≤ x ∧ x ≤ 70) (hy : 97 ≤ y ∧ y ≤ 122) {z : Nat} (hz : g 92 9 = (z : Int)) {U : Nat} : RR (p + 4, false, fs, dseq D (dsay (1000 * (b - 65) + 100 * (x - 65) + (y - 97))), cs, U, sy + 1) (gset (gset (gset (gset (gset (gset (gset (gset g 99 z 0) 100 z (b - 65)) 101 z (x - 65)) 102 z (y - 97)) 92 9 ((z : Int) + 1)) 92 8 ((p + 4 : Nat) : Int)) 92 17 ((sy : Int) + 1)) 92 18 (U : Int)) := by
  obtain ⟨q1, q2, q3, q4, q5, z0, lo, q8, q9, q10, q11, q12⟩ := h
  have hz0 : z0 = z := by rw [hz] at q8; omega
  subst hz0
  have q9 : z0 ≤ p := q9
  have le := q11.le
  obtain ⟨g', hg⟩ : ∃ g', g' = gset (gset (gset (gset (gset (gset (gset (gset g 99 z0 0) 100 z0 (b - 65)) 101 z0 (x - 65)) 102 z0 (y - 97)) 92 9 ((z0 : Int) + 1)) 92 8 ((p + 4 : Nat) : Int)) 92 17 ((sy : Int) + 1)) 92 18 (U : Int) := ⟨_, rfl⟩
  rw [← hg]
  have ac : ∀ i, i ≠ z0 → acA g g' i := fun i hi => by unfold acA; simp [hg, gset, hi]
  refine ⟨by simp [hg, gset], by simp [hg, gset]; exact q2, by simp [hg, gset], by simp [hg, gset], by simp [hg, gset]; exact q5, z0 + 1, lo, by simp [hg, gset], by show z0 + 1 ≤ p + 4; omega, q10.mono (fun i hi => ac i (by omega)) (fun i _ => by simp [hg, gset]), ?_, q12.more (fun i hi => ?_) (by simp [hg, gset])⟩
  · refine EncR.seq (q11.mono (fun i _ hi => ac i (by omega))).2 ?_
    have := EncR.say (g := g') (4 - fs.length) (lo := z0) (a := (b - 65).toNat) (b := (x - 65).toNat) (w := (y - 97).toNat) (by omega) (by omega) (by omega) (by simp [hg, gset]) (by simp [hg, gset]; omega) (by simp [hg, gset]; omega) (by simp [hg, gset]; omega)
    rw [show ((1000 * (b - 65).toNat + 100 * (x - 65).toNat + (y - 97).toNat : Nat) : Int) = 1000 * (b - 65) + 100 * (x - 65) + (y - 97) by omega] at this
    exact this
  · obtain ⟨x1, x2, -, x4, -⟩ := ac i (by omega)
    exact ⟨x1, x2, x4⟩
theorem rr_opr {p : Nat} {fs : List Fm} {D : Ds} {cs : List Nat} {us sy : Nat} {g : Gx} {b : Int} (h : RR (p, true, fs, D, cs, us, sy) g) (hb : 50 ≤ b ∧ b ≤ 52) {z : Nat} (hz : g 92 9 = (z : Int)) : RR (p + 2, true, (0, (b - 48).toNat, 0, 0, fun _ => dnil, D) :: fs, dnil, cs, us, sy) (opH fs.length z (p + 1) 3 0 (b - 48) 0 g) := by
  obtain ⟨q1, q2, q3, q4, q5, z0, lo, q8, q9, q10, q11, q12⟩ := h
  have hz0 : z0 = z := by rw [hz] at q8; omega
  subst hz0
  have q9 : z0 ≤ p := q9
  have le := q11.le
  obtain ⟨g', hg⟩ : ∃ g', g' = opH fs.length z0 (p + 1) 3 0 (b - 48) 0 g := ⟨_, rfl⟩
  rw [← hg]
  unfold opH at hg
  have ac : ∀ i, i ≠ z0 → acA g g' i := fun i hi => by
    unfold acA
    refine ⟨by simp [hg, gset, hi], by simp [hg, gset, hi], by simp [hg, gset, hi], by simp [hg, gset, hi], by simp [hg, gset], fun j hj => ?_⟩
    have : 4 * i + j ≠ 4 * z0 := by omega
    simp [hg, gset, this]
  refine ⟨by simp [hg, gset]; omega, by simp [hg, gset], by simp [hg, gset]; exact q3, by simp [hg, gset]; exact q4, by simp [hg, gset]; exact q5, z0 + 1, z0 + 1, by simp [hg, gset], by show z0 + 1 ≤ p + 2; omega, ?_, EncR.nil _ _ _, q12.more (fun i hi => ?_) (by simp [hg, gset])⟩
  · refine ⟨lo, z0, q10.mono (fun i hi => ac i (by omega)) (fun i hi => ?_), (q11.mono (fun i _ hi => ac i (by omega))).2, by simp [hg, gset], by omega, Or.inl ⟨rfl, by simp [hg, gset], by simp [hg, gset]; omega, rfl⟩⟩
    have hi' : i ≠ fs.length := Nat.ne_of_lt hi
    simp [hg, gset, hi']
  · obtain ⟨x1, x2, -, x4, -⟩ := ac i (by omega)
    exact ⟨x1, x2, x4⟩
theorem rr_opc {p : Nat} {fs : List Fm} {D : Ds} {cs : List Nat} {us sy U : Nat} {g : Gx} {b : Int} (h : RR (p, true, fs, D, cs, us, sy) g) (hb : 65 ≤ b ∧ b ≤ 70) {z : Nat} (hz : g 92 9 = (z : Int)) : RR (p + 2, true, (1, cs.length, (b - 65).toNat, 0, fun _ => dnil, D) :: fs, dnil, cs ++ [(b - 65).toNat], U, sy) (gset (gset (opH fs.length z (p + 1) 1 (b - 65) 1 (cs.length : Int) g) 92 16 ((cs.length : Int) + 1)) 92 18 (U : Int)) := by
  obtain ⟨q1, q2, q3, q4, q5, z0, lo, q8, q9, q10, q11, q12⟩ := h
  have hz0 : z0 = z := by rw [hz] at q8; omega
  subst hz0
  have q9 : z0 ≤ p := q9
  have le := q11.le
  obtain ⟨g', hg⟩ : ∃ g', g' = gset (gset (opH fs.length z0 (p + 1) 1 (b - 65) 1 (cs.length : Int) g) 92 16 ((cs.length : Int) + 1)) 92 18 (U : Int) := ⟨_, rfl⟩
  rw [← hg]
  unfold opH at hg
  have ac : ∀ i, i ≠ z0 → acA g g' i := fun i hi => by
    unfold acA
    refine ⟨by simp [hg, gset, hi], by simp [hg, gset, hi], by simp [hg, gset, hi], by simp [hg, gset, hi], by simp [hg, gset], fun j hj => ?_⟩
    have : 4 * i + j ≠ 4 * z0 := by omega
    simp [hg, gset, this]
  have nw : g' 99 z0 = 1 ∧ g' 102 z0 = (cs.length : Int) ∧ g' 100 z0 = (((cs ++ [(b - 65).toNat]).getD cs.length 0 : Nat) : Int) := by
    refine ⟨by simp [hg, gset], by simp [hg, gset], ?_⟩
    simp [hg, gset, List.getD_eq_getElem?_getD]
    omega
  have old : ∀ c, c < cs.length → (cs ++ [(b - 65).toNat]).getD c 0 = cs.getD c 0 := fun c hc => by
    simp [List.getD_eq_getElem?_getD, List.getElem?_append_left hc]
  refine ⟨by simp [hg, gset]; omega, by simp [hg, gset], by simp [hg, gset], by simp [hg, gset]; exact q4, by simp [hg, gset], z0 + 1, z0 + 1, by simp [hg, gset], by show z0 + 1 ≤ p + 2; omega, ?_, EncR.nil _ _ _, fun a ha h1 => ?_, fun c hc => ?_⟩
  · refine ⟨lo, z0, q10.mono (fun i hi => ac i (by omega)) (fun i hi => ?_), (q11.mono (fun i _ hi => ac i (by omega))).2, by simp [hg, gset], by omega, Or.inr ⟨rfl, by omega, nw.1, by simp [hg, gset]; omega, by simp [hg, gset], nw.2.1, fun _ => z0 + 1, fun _ => 0, rfl, rfl, fun i hi => by omega, fun i hi => ?_⟩⟩
    · have hi' : i ≠ fs.length := Nat.ne_of_lt hi
      simp [hg, gset, hi']
    · have : i = 0 := by omega
      rw [this]
      simp [hg, gset]
  · show ∃ c, c < (cs ++ [(b - 65).toNat]).length ∧ _
    rw [List.length_append, List.length_singleton]
    by_cases hz : a = z0
    · rw [hz]
      exact ⟨cs.length, by omega, nw.2.1, nw.2.2⟩
    · obtain ⟨x1, x2, -, x4, -⟩ := ac a hz
      obtain ⟨c, hc, y1, y2⟩ := q12.1 a (by omega) (by rw [← x1]; exact h1)
      have hc : c < cs.length := hc
      refine ⟨c, by omega, by rw [x4]; exact y1, ?_⟩
      show g' 100 a = (((cs ++ [(b - 65).toNat]).getD c 0 : Nat) : Int)
      rw [x2, old c hc]; exact y2
  · have hc : c < (cs ++ [(b - 65).toNat]).length := hc
    rw [List.length_append, List.length_singleton] at hc
    by_cases h9 : c = cs.length
    · rw [h9]
      exact ⟨z0, by omega, nw⟩
    · obtain ⟨a, ha, y1, y2, y3⟩ := q12.2 c (by show c < cs.length; omega)
      obtain ⟨x1, x2, -, x4, -⟩ := ac a (by omega)
      refine ⟨a, by omega, by rw [x1]; exact y1, by rw [x4]; exact y2, ?_⟩
      show g' 100 a = (((cs ++ [(b - 65).toNat]).getD c 0 : Nat) : Int)
      rw [x2, old c (by omega)]; exact y3
