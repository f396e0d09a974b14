/-! The class walks: choices; a walk as a whole. Own text. -/
theorem choose_ok {g G : Gx} {u : Int} {h cc t m i c S L : Nat} (hu : 0 ≤ u ∧ u ≤ 1073741823) (hh : h < 30) (hc : cc < 40) (ht : t < 6) (hi : i < 4) (ag : AGc g G) (h13 : g 13 cc = (t : Int)) (x5 : G 33 11 = (c : Int)) (x6 : G 33 10 = (S : Int)) (x8 : G 37 h = (L : Int)) (x9 : c ≤ S) (hc30 : c < 30) (hM : (c < S → G 39 c = (i : Int) ∧ G 41 c = (cc : Int)) ∧ (S ≤ c → i = 0)) (hL : L + (tells u cc t i).length ≤ 24) : ∃ G2, Hi_choose (h : Int) (cc : Int) u G = some ((i : Int), G2) ∧ AGc g G2 ∧ G2 33 12 = G 33 12 ∧ G2 47 = G 47 ∧ G2 49 = G 49 ∧ PsW G G2 h c S L ([(i, cc, m, t)], tells u cc t i) := by
  unfold Hi_choose
  rw [x5, x6, rat_in (c := 39) (by omega) (by omega), Int.toNat_natCast, wr_id (x := (c : Int) + 1) (by omega) (by omega)]
  by_cases hcS : c < S
  · rw [if_pos (by omega)]
    obtain ⟨m1, m2⟩ := hM.1 hcS
    obtain ⟨G1, hG1⟩ : ∃ G1, G1 = gset G 33 11 ((c : Int) + 1) := ⟨_, rfl⟩
    rw [← hG1, m1]
    have ag1 : AGc g G1 := by rw [hG1]; exact ag.gs (by omega)
    obtain ⟨w, hw1, hw2, hw3⟩ := told_ok (g := G1) hc ht (by rw [ag1.2.2.2.1]; exact h13) hu
    rw [hw2]
    obtain ⟨G2, e1, e2⟩ := tellC (g := g) (u := u) (h := h) (c := cc) (t := t) (w := i) (m := w) hh hc ht hi hw3 hw1 (fun g2 => some ((i : Int), g2)) 6 0 fu G1 L (by omega) (fu_big _ (by omega)) (by rw [ag1.2.2.2.1]; exact h13) (by rw [hG1]; simp [gset]; exact x8) hL
    have e1 : Hi_choose_l82 (h : Int) (cc : Int) (i : Int) (w : Int) (fun g2 => some ((i : Int), g2)) fu 0 G1 = some ((i : Int), G2) := e1
    obtain ⟨s1, s2, s3, s4, s5⟩ := e2
    refine ⟨G2, e1, ag1.fr s5, by rw [s5.fld (by decide) (by decide), hG1]; simp [gset], by rw [s5.cell (by decide) (by decide), hG1, gset_ne (by decide)], by rw [s5.cell (by decide) (by decide), hG1, gset_ne (by decide)], ?_, ?_, s1, s2, fun j hj => by rw [s3 j hj, hG1]; simp [gset], fun j hj => by rw [s4 j hj, hG1]; simp [gset], fun j hj => ?_, fun j p hp => ?_⟩
    · rw [s5.fld (by decide) (by decide), hG1]; simp [gset]
    · rw [s5.fld (by decide) (by decide), hG1]; simp [gset]; rw [x6]; show (S : Int) = ((max S (c + 1) : Nat) : Int); rw [show max S (c + 1) = S by omega]
    · rw [s5.cell (q := 39) (by decide) (by decide), s5.cell (q := 41) (by decide) (by decide), hG1]; simp [gset]
    · have hj : j = 0 := by
        rcases Nat.eq_zero_or_pos j with h | h
        · exact h
        · rw [List.getElem?_eq_none (by simp; omega)] at hp; cases hp
      subst hj
      simp at hp
      subst hp
      rw [s5.cell (q := 39) (by decide) (by decide), s5.cell (q := 41) (by decide) (by decide), hG1]
      simp [gset]
      exact ⟨m1, m2⟩
  · rw [if_neg (by omega)]
    have i0 := hM.2 (by omega)
    have cS : c = S := by omega
    rw [rsi (c := 39) (by omega) (by omega), rsi (c := 41) (by omega) (by omega), Int.toNat_natCast, rat_in (c := 39) (by omega) (by omega), Int.toNat_natCast, gs_same]
    obtain ⟨G1, hG1⟩ : ∃ G1, G1 = gset (gset (gset (gset G 39 c 0) 41 c (cc : Int)) 33 10 ((c : Int) + 1)) 33 11 ((c : Int) + 1) := ⟨_, rfl⟩
    rw [← hG1]
    have ag1 : AGc g G1 := by rw [hG1]; exact (((ag.gs (by omega)).gs (by omega)).gs (by omega)).gs (by omega)
    obtain ⟨w, hw1, hw2, hw3⟩ := told_ok (g := G1) hc ht (by rw [ag1.2.2.2.1]; exact h13) hu
    rw [hw2]
    subst i0
    obtain ⟨G2, e1, e2⟩ := tellC (g := g) (u := u) (h := h) (c := cc) (t := t) (w := 0) (m := w) hh hc ht hi hw3 hw1 (fun g2 => some ((0 : Int), g2)) 6 0 fu G1 L (by omega) (fu_big _ (by omega)) (by rw [ag1.2.2.2.1]; exact h13) (by rw [hG1]; simp [gset]; exact x8) hL
    have e1 : Hi_choose_l82 (h : Int) (cc : Int) 0 (w : Int) (fun g2 => some ((0 : Int), g2)) fu 0 G1 = some ((0 : Int), G2) := e1
    obtain ⟨s1, s2, s3, s4, s5⟩ := e2
    refine ⟨G2, e1, ag1.fr s5, by rw [s5.fld (by decide) (by decide), hG1]; simp [gset], by rw [s5.cell (by decide) (by decide), hG1]; funext j; simp [gset], by rw [s5.cell (by decide) (by decide), hG1]; funext j; simp [gset], ?_, ?_, s1, s2, fun j hj => by rw [s3 j hj, hG1]; simp [gset], fun j hj => by rw [s4 j hj, hG1]; simp [gset], fun j hj => ?_, fun j p hp => ?_⟩
    · rw [s5.fld (by decide) (by decide), hG1]; simp [gset]
    · rw [s5.fld (by decide) (by decide), hG1]; simp [gset]; show (c : Int) + 1 = ((max S (c + 1) : Nat) : Int); rw [show max S (c + 1) = c + 1 by omega]; rfl
    · have ne : j ≠ c := by omega
      rw [s5.cell (q := 39) (by decide) (by decide), s5.cell (q := 41) (by decide) (by decide), hG1]; simp [gset, ne]
    · have hj : j = 0 := by
        rcases Nat.eq_zero_or_pos j with h | h
        · exact h
        · rw [List.getElem?_eq_none (by simp; omega)] at hp; cases hp
      subst hj
      simp at hp
      subst hp
      rw [s5.cell (q := 39) (by decide) (by decide), s5.cell (q := 41) (by decide) (by decide), hG1]
      simp [gset]
theorem wlk_cho (g : Gx) (u : Int) (hu : 0 ≤ u ∧ u ≤ 1073741823) (h : Nat) (hh : h < 30) (K : Gx → Option Gx) : cCho g (WlkP g u h K) := by
  intro d lo cc t m W s e ids a1 a2 a3 a4 a5 a6 a7 a8 a9 b1 b2 b3 b4 b5 b6 b7 b8
  have wm := ways_mono (fun i hi => (b4 i hi).1) (fun i hi => (b5 i hi).2.2)
  have lim : ∀ i, i < m → lo < s i ∧ s i ≤ e i ∧ e i ≤ e (m - 1) := fun i hi => by
    have x1 := wm i 0 (by omega)
    have x2 := wm (m - 1 - i) i (by omega)
    have x5 := (b4 i hi).1
    rw [show 0 + i = i by omega] at x1
    rw [show i + (m - 1 - i) = m - 1 by omega] at x2
    omega
  have l0 := lim 0 (by omega)
  refine ⟨by omega, fun y he op v G c S L x1 x2 x3 x4 x5 x6 x7 x8 x9 y1 y2 y3 y4 => ?_⟩
  obtain ⟨i, -, him, x, hx, rfl⟩ := mem_lch.mp he
  have him : i < m := by omega
  have li := lim i him
  simp only [pkh, List.length_cons, List.length_append] at y2 y3
  obtain ⟨k1, k2⟩ := kd_eq x4 (p := lo) (by omega)
  have hM := y1 0 (i, cc, m, t) rfl
  rw [Nat.add_zero] at hM
  obtain ⟨G2, e1, e2, e3, e4, e5, e6⟩ := choose_ok (m := m) (i := i) hu hh a3 a4 (by omega) x4 a7 x5 x6 x8 x9 (by omega) hM (by omega)
  have p := p4 d
  have bd : (e i - s i) * 4 ^ d + 2 ≤ (e (m - 1) + 1 - lo) * 4 ^ (d + 1) := by
    have q1 : (e i - s i + 2) * 4 ^ (d + 1) ≤ (e (m - 1) + 1 - lo) * 4 ^ (d + 1) := Nat.mul_le_mul_right _ (by omega)
    have q2 : (e i - s i + 2) * 4 ^ (d + 1) = 4 * ((e i - s i) * 4 ^ d) + 8 * 4 ^ d := by
      rw [Nat.pow_succ, Nat.add_mul, ← Nat.mul_assoc]
      generalize (e i - s i) * 4 ^ d = q
      omega
    omega
  obtain ⟨f1, f2, f3, f4, f5, f6, f7, f8⟩ := id e6
  have M2 : Mt G2 (c + 1) (max S (c + 1)) x.1 := Mt.right (a := [(i, cc, m, t)]) (b := x.1) y1 f7
  obtain ⟨N, G3, z1, z2, z3, z4, z5, z6⟩ := (b4 i him).2 x hx op (v + 1) G2 (c + 1) (max S (c + 1)) (L + (tells u cc t i).length) (by omega) (by omega) (by omega) e2 f1 f2 (by rw [e3]; exact x7) f3 (by omega) M2 (by omega) (by omega) (by omega)
  obtain ⟨k3, k4⟩ := kd_eq z3 (p := e i) (by omega)
  have ws : St_wayStart (cc : Int) (i : Int) G2 = (s i : Int) := by
    unfold St_wayStart
    rw [show wr (wr ((cc : Int) * 4) + (i : Int)) = ((4 * cc + i : Nat) : Int) by simp (disch := omega) only [wr_id]; omega, rat_in (by omega) (by omega), Int.toNat_natCast, e2.2.2.2.2.2.1]
    exact a9 i him
  have PP : PsW G G3 h c S L (pkh u cc t m i x) := PsW.app (a := ([(i, cc, m, t)], tells u cc t i)) (b := x) e6 z6
  refine ⟨N + 2, G3, by omega, fun n => ?_, z3, z4, fun j hj => ⟨by rw [(z5 j hj).1, e4], by rw [(z5 j hj).2, e5]⟩, PP⟩
  rw [show n + (N + 2) = n + 1 + N + 1 by omega, wk_head (by omega) (by rw [x4.1]; omega), k1, k2, a5, a6, if_neg (by decide), if_neg (by decide), if_pos rfl, e1, ob_eq]
  simp only
  rw [ws, wr_id (x := (v : Int) + 1) (by omega) (by omega), show (v : Int) + 1 = ((v + 1 : Nat) : Int) by omega, z2, wk_head (by omega) (by rw [z3.1]; omega), k3, k4]
  by_cases hl : i + 1 < m
  · obtain ⟨c1, c2, c3⟩ := b5 i hl
    have en : St_end (cc : Int) G3 = ((e (m - 1) + 1 : Nat) : Int) := by
      unfold St_end
      rw [rat_in (by omega) (by omega), Int.toNat_natCast, z3.2.2.2.2.2.2]; exact b1
    rw [c1, c2, if_neg (by decide), if_neg (by decide), if_neg (by decide), if_pos rfl, en, wr_id (by omega) (by omega), show ((v + 1 + N : Nat) : Int) + 1 = ((v + (N + 2) : Nat) : Int) by omega]
  · have hi1 : i = m - 1 := by omega
    rw [hi1, b6, if_neg (by decide), if_neg (by decide), if_neg (by decide), if_neg (by decide), if_pos rfl, wr_id (x := (e (m - 1) : Int) + 1) (by omega) (by omega), wr_id (by omega) (by omega), show ((v + 1 + N : Nat) : Int) + 1 = ((v + (N + 2) : Nat) : Int) by omega, show (e (m - 1) : Int) + 1 = ((e (m - 1) + 1 : Nat) : Int) by omega]
theorem walk_ok {g : Gx} {u : Int} (hu : 0 ≤ u ∧ u ≤ 1073741823) {z nn h S : Nat} {D : Ds} (hz : g 7 10 = (z : Int)) (hz2 : z ≤ 160) (hE : EncC g 4 0 z 0 nn D) (hh : h < 30) {e : Hy} (he : e ∈ D u) (hS : g 33 10 = (S : Int)) (hM : Mt g 0 S e.1) (h1 : e.1.length ≤ 30) (h2 : e.2.length ≤ 24) : ∃ g', Hi_walk (h : Int) u g = some g' ∧ AGc g g' ∧ PsW g g' h 0 S 0 e := by
  have hW := hE (WlkP g u h (fun g5 => some g5)) (wlk_nil g u h _) (wlk_seq g u h _) (wlk_say g u h hh _) (wlk_cho g u hu h hh _) (wlk_rep g u h _)
  unfold Hi_walk
  rw [rsi (by omega) (by omega), Int.toNat_natCast]
  obtain ⟨G1, hG1⟩ : ∃ G1, G1 = gset (gset (gset g 37 h 0) 33 11 0) 33 12 0 := ⟨_, rfl⟩
  rw [← hG1]
  have ag : AGc g G1 := by rw [hG1]; exact ((AGc.gs (AGc.gs (AGc.gs ⟨rfl, rfl, rfl, rfl, rfl, rfl, rfl⟩ (by omega)) (by omega)) (by omega)))
  obtain ⟨N, G2, z1, z2, z3, z4, z5, z6⟩ := hW.2 e he 0 0 G1 0 S 0 (by omega) hz2 (by omega) ag (by simp [hG1, gset]) (by simp [hG1, gset]; exact hS) (by simp [hG1, gset]) (by simp [hG1, gset]) (by omega) (fun i p hp => by simp only [hG1, gset]; simpa using hM i p hp) (by omega) (by omega) (by rw [Nat.sub_zero]; have : z * 4 ^ 4 ≤ 160 * 4 ^ 4 := Nat.mul_le_mul_right _ hz2; omega)
  have zz : z * 4 ^ 4 ≤ 160 * 4 ^ 4 := Nat.mul_le_mul_right _ hz2
  rw [Nat.sub_zero] at z1
  have hfu : fu = fu - N + N := by
    have : 160 * 4 ^ 4 < fu := fu_big _ (by decide)
    omega
  have hfu2 : ∃ f, fu - N = f + 1 := ⟨fu - N - 1, by
    have : 160 * 4 ^ 4 < fu := fu_big _ (by decide)
    omega⟩
  obtain ⟨f, hf⟩ := hfu2
  have r := z2 (fu - N)
  rw [← hfu] at r
  refine ⟨G2, ?_, z3, ?_⟩
  · refine Eq.trans r ?_
    rw [hf, Hi_walk_l24]
    unfold St_size
    rw [z3.1, hz, if_neg (by omega), if_pos (by omega)]
  · obtain ⟨f1, f2, f3, f4, f5, f6, f7, f8⟩ := z6
    exact ⟨f1, f2, f3, f4, fun i hi => by rw [f5 i hi, hG1]; simp [gset], fun j hj => by rw [f6 j hj, hG1]; simp [gset, hj], fun i hi => by rw [(f7 i hi).1, (f7 i hi).2, hG1]; simp [gset], f8⟩
