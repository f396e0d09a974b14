/-! The reference walks: choices; a walk as a whole. Own text. -/
theorem go_cho (g : Gx) (u : Int) (hu : 0 ≤ u ∧ u ≤ 1073741823) (F : Nat) (K : Gx → Option (Int × Gx)) : rCho g (GoP g u F K) := by
  intro d lo cc t m W s e a1 a2 a3 a4 a5 a6 a7 a8 a9 b1 b2 b4 b5 b8
  have wm := ways_mono (fun i hi => (b4 i hi).1) (fun i hi => (b5 i hi).2.2)
  have lim : ∀ i, i < m → lo < s i ∧ s i ≤ e i ∧ e i ≤ e (m - 1) ∧ (i + 1 < m → e i < e (m - 1)) := fun i hi => by
    have x1 := wm i 0 (by omega)
    have x2 := wm (m - 1 - i) i (by omega)
    have x5 := (b4 i hi).1
    rw [show 0 + i = i by omega] at x1
    rw [show i + (m - 1 - i) = m - 1 by omega] at x2
    omega
  have l0 := lim 0 (by omega)
  refine ⟨by omega, fun y he G c L h x2 x3 x4 x5 x6 x7 x8 x9 y1 y2 => ?_⟩
  obtain ⟨i, -, him, x, hx, rfl⟩ := mem_lch.mp he
  have him : i < m := by omega
  have li := lim i him
  have hM := y2 0 (i, cc, m, t) rfl
  rw [Nat.add_zero] at hM
  have p := p4 d
  have bd : (e i - s i) * 4 ^ d + 2 ≤ (e (m - 1) - lo) * 4 ^ (d + 1) := by
    have q1 : (e i - s i + 1) * 4 ^ (d + 1) ≤ (e (m - 1) - lo) * 4 ^ (d + 1) := Nat.mul_le_mul_right _ (by omega)
    have q2 : (e i - s i + 1) * 4 ^ (d + 1) = 4 * ((e i - s i) * 4 ^ d) + 4 * 4 ^ d := by
      rw [Nat.pow_succ, Nat.add_mul, ← Nat.mul_assoc]
      generalize (e i - s i) * 4 ^ d = q
      omega
    omega
  have hd := fun n => (go_in (F := (F : Int)) (u := u) (K := K) (n := n) (p := lo) (G := G) (by omega) (by rw [x4.1]; omega)).2.1 (by rw [x4.2.1]; exact a5)
  obtain ⟨r1, r2⟩ := chooses_ok (m := m) (i := i) (F := F) hu x6 (show lo < 170 by omega) a3 a4 ⟨a1, a2⟩ him x4 a6 a7 a8 x7 x8 x5 x9 y1 hM
  by_cases hf : c < 30 ∧ L + (tells u cc t i).length ≤ 24
  · obtain ⟨G2, e1, e2, e3, e6⟩ := r1 hf
    obtain ⟨f1, f2, f3, f4, f5, f6, f7, f8⟩ := id e6
    have f1 : G2 92 35 = ((c + 1 : Nat) : Int) := f1
    have g114 : G2 114 c = (i : Int) := (f7 0 (i, cc, m, t) rfl).1
    have st : ∀ n, Md_goes_l12 (F : Int) u K (n + 1) (lo : Int) G = Md_goes_l12 (F : Int) u K n (s i : Int) G2 := fun n => by
      rw [hd n, e1, ob_eq]
      simp only
      rw [if_pos (by decide), f1, wr_id (x := ((c + 1 : Nat) : Int) - 1) (by omega) (by omega), show ((c + 1 : Nat) : Int) - 1 = (c : Int) by omega, if_pos (by omega), Int.toNat_natCast, g114, show wr (wr (4 * (lo : Int)) + (i : Int)) = ((4 * lo + i : Nat) : Int) by simp (disch := omega) only [wr_id]; omega, if_pos (by omega), Int.toNat_natCast, e2.2.2.2.2.2.2, a9 i him]
    rcases (b4 i him).2 x hx G2 (c + 1) (L + (tells u cc t i).length) h (by omega) (by omega) e2 f8 x6 f1 f2 (by omega) hf.2 (MtR.right (a := [(i, cc, m, t)]) (b := x.1) y2 (fun j hj => f5 j (Or.inl hj))) with ⟨ft, N, G3, z1, z2, z3, z4, z5⟩ | ⟨ft, N, G3, z1, z2⟩
    · have PP : PsR G G3 h c F L (pkh u cc t m i x) := PsR.app (a := ([(i, cc, m, t)], tells u cc t i)) (b := x) e6 z5
      have FT : Fit c L (pkh u cc t m i x) := by
        unfold Fit pkh at *; simp only [List.length_append, List.length_cons]; omega
      have U : ∀ j, j < lo ∨ e (m - 1) ≤ j → G3 117 j = G 117 j := fun j hj => by rw [z4 j (by omega), e3]
      by_cases hl : i + 1 < m
      · obtain ⟨c1, c2, c3⟩ := b5 i hl
        have hd2 := fun n => (go_in (F := (F : Int)) (u := u) (K := K) (n := n) (p := e i) (G := G3) (by omega) (by rw [z3.1]; omega)).2.2.1 lo (by rw [z3.2.1]; exact c1) (by rw [z3.2.2.2.2.1]; exact c2) (by omega)
        refine Or.inl ⟨FT, N + 2, G3, by omega, fun n => ?_, z3, U, PP⟩
        rw [show n + (N + 2) = n + 1 + N + 1 by omega, st, z2, hd2 n, z3.2.2.2.2.2.1, b1]
      · have hi1 : i = m - 1 := by omega
        refine Or.inl ⟨FT, N + 1, G3, by omega, fun n => ?_, z3, U, PP⟩
        rw [show n + (N + 1) = n + N + 1 by omega, st, z2, hi1]
    · refine Or.inr ⟨?_, N + 1, G3, by omega, fun n => ?_⟩
      · unfold Fit pkh at *; simp only [List.length_append, List.length_cons]; omega
      · rw [show n + (N + 1) = n + N + 1 by omega, st, z2]
  · obtain ⟨G2, e1⟩ := r2 hf
    refine Or.inr ⟨?_, 1, G2, by omega, fun n => ?_⟩
    · unfold Fit pkh; simp only [List.length_append, List.length_cons]; omega
    · rw [hd n, e1, ob_eq]
      simp only
      rw [if_neg (by decide)]
theorem goes_ok {g : Gx} {u : Int} (hu : 0 ≤ u ∧ u ≤ 1073741823) {z F h : Nat} {D : Ds} (hz : g 92 9 = (z : Int)) (hz2 : z ≤ 160) (hE : EncR g 4 0 z D) (hh : g 92 26 = (h : Int)) (hh2 : h ≤ 30) {e : Hy} (he : e ∈ D u) (hM : MtR g 0 F e.1) : (Fit 0 0 e → ∃ g', Md_goes (F : Int) u g = some (1, g') ∧ AGr g g' ∧ PsR g g' h 0 F 0 e) ∧ (¬ Fit 0 0 e → ∃ g', Md_goes (F : Int) u g = some (0, g')) := by
  have hW := hE (GoP g u F (fun g4 => some (1, g4))) (go_nil g u F _) (go_seq g u F _) (go_say g u F _) (go_cho g u hu F _) (go_rep g u F _)
  unfold Md_goes
  obtain ⟨G1, hG1⟩ : ∃ G1, G1 = gset (gset g 92 36 0) 92 35 0 := ⟨_, rfl⟩
  rw [← hG1]
  have f1 : FR [6923, 6924] g G1 := by rw [hG1]; exact FR.go (FR.go (FR.rf _ _) ⟨rfl, by decide⟩) ⟨rfl, by decide⟩
  have ag : AGr g G1 := AGr.fr ⟨rfl, rfl, rfl, rfl, rfl, rfl, rfl⟩ f1 (by decide)
  have zz : z * 4 ^ 4 ≤ 160 * 4 ^ 4 := Nat.mul_le_mul_right _ hz2
  have big : 160 * 4 ^ 4 < fu := fu_big _ (by decide)
  rcases hW.2 e he G1 0 0 h hz2 (by omega) ag (by rw [f1.fld (by decide) (by decide)]; exact hh) hh2 (by simp [hG1, gset]) (by simp [hG1, gset]) (by omega) (by omega) (fun i p hp => by rw [f1.cell (by decide) (by decide)]; exact hM i p hp) with ⟨ft, N, G2, z1, z2, z3, z4, z5⟩ | ⟨ft, N, G2, z1, z2⟩
  · rw [Nat.sub_zero] at z1
    have r := z2 (fu - N)
    rw [show fu - N + N = fu by omega] at r
    obtain ⟨f, hf⟩ : ∃ f, fu - N = f + 1 := ⟨fu - N - 1, by omega⟩
    refine ⟨fun _ => ⟨G2, ?_, z3, ?_⟩, fun h9 => absurd ft h9⟩
    · refine Eq.trans r ?_
      rw [hf, Md_goes_l12, z3.1, hz, if_pos (by omega)]
    · obtain ⟨b1, b2, b3, b4, b5, b6, b7, b8⟩ := z5
      exact ⟨b1, b2, b3, fun i hi => by rw [b4 i hi, f1.cell (by decide) (by decide)], fun i hi => by rw [b5 i hi, f1.cell (by decide) (by decide)], fun i hi => by omega, b7, b8⟩
  · rw [Nat.sub_zero] at z1
    have r := z2 (fu - N)
    rw [show fu - N + N = fu by omega] at r
    exact ⟨fun h9 => absurd h9 ft, fun _ => ⟨G2, r⟩⟩
theorem unf_copy {u F : Int} {h c : Nat} (hh : h < 30) (hc : c ≤ 30) (K : Gx → Option (Int × Gx)) : ∀ (k v n : Nat) (G : Gx), v + k = 30 → k < n → G 92 26 = (h : Int) → G 92 35 = (c : Int) → ∃ G', Md_unfolds_l50 u F K n (v : Int) G = K G' ∧ (∀ i, v ≤ i → i < 30 → G' 112 (30 * h + i) = (if i < c then G 114 i else -1) ∧ G' 113 (30 * h + i) = (if i < c then G 116 i else -1)) ∧ (∀ j, j < 30 * h + v → G' 112 j = G 112 j ∧ G' 113 j = G 113 j) ∧ FR [112, 113] G G' := by
  intro k
  induction k with
  | zero =>
    intro v n G hv hn g26 g35
    obtain ⟨n, rfl⟩ : ∃ q, n = q + 1 := ⟨n - 1, by omega⟩
    rw [Md_unfolds_l50, if_pos (by omega)]
    exact ⟨G, rfl, fun i h1 h2 => by omega, fun _ _ => ⟨rfl, rfl⟩, FR.rf _ _⟩
  | succ k ih =>
    intro v n G hv hn g26 g35
    obtain ⟨n, rfl⟩ : ∃ q, n = q + 1 := ⟨n - 1, by omega⟩
    have w : wr ((wr (30 * (h : Int))) + (v : Int)) = ((30 * h + v : Nat) : Int) := by simp (disch := omega) only [wr_id]; omega
    have w2 : (0 : Int) ≤ ((30 * h + v : Nat) : Int) ∧ ((30 * h + v : Nat) : Int) < 900 := by omega
    have w3 : (0 : Int) ≤ (v : Int) ∧ (v : Int) < 30 := by omega
    obtain ⟨G1, hG1⟩ : ∃ G1, G1 = gset (gset G 112 (30 * h + v) (if v < c then G 114 v else -1)) 113 (30 * h + v) (if v < c then G 116 v else -1) := ⟨_, rfl⟩
    have e : Md_unfolds_l50 u F K (n + 1) (v : Int) G = Md_unfolds_l50 u F K n ((v + 1 : Nat) : Int) G1 := by
      rw [Md_unfolds_l50, if_neg (by omega), g26, g35, w, wr_id (x := (v : Int) + 1) (by omega) (by omega), show (v : Int) + 1 = ((v + 1 : Nat) : Int) by omega]
      simp only [if_pos w2, if_pos w3, Int.toNat_natCast]
      by_cases hvc : v < c
      · rw [if_neg (by omega), if_neg (by omega), hG1, if_pos hvc, if_pos hvc]
      · rw [if_pos (by omega), if_pos (by omega), hG1, if_neg hvc, if_neg hvc]
    have f1 : FR [112, 113] G G1 := by rw [hG1]; exact FR.gs (FR.gs (FR.rf _ _) (by decide)) (by decide)
    obtain ⟨G2, r1, r2, r3, r4⟩ := ih (v + 1) n G1 (by omega) (by omega) (by rw [f1.fld (by decide) (by decide)]; exact g26) (by rw [f1.fld (by decide) (by decide)]; exact g35)
    refine ⟨G2, e.trans r1, fun i h1 h2 => ?_, fun j hj => ?_, f1.tr r4⟩
    · by_cases hiv : i = v
      · subst hiv
        rw [(r3 (30 * h + i) (by omega)).1, (r3 (30 * h + i) (by omega)).2, hG1]
        simp [gset]
      · have := r2 i (by omega) h2
        rw [f1.cell (q := 114) (by decide) (by decide), f1.cell (q := 116) (by decide) (by decide)] at this
        exact this
    · have ne : j ≠ 30 * h + v := by omega
      rw [(r3 j (by omega)).1, (r3 j (by omega)).2, hG1]
      simp [gset, ne]
theorem unf_max {u F : Int} {g : Gx} {ps : List Pk} (hl : ps.length ≤ 30) (hp : ∀ i p, ps[i]? = some p → g 114 i = (p.1 : Int) ∧ g 115 i = (p.2.2.1 : Int) - 1) (K : Int → Gx → Option (Int × Gx)) : ∀ (j n : Nat), j ≤ ps.length → (∀ i p, ps.length - j ≤ i → ps[i]? = some p → mxp p) → Md_unfolds_l151 u F K (n + j) ((ps.length : Int) - 1) g = Md_unfolds_l151 u F K n ((ps.length : Int) - 1 - (j : Int)) g := by
  intro j
  induction j with
  | zero => intro n _ _; simp
  | succ j ih =>
    intro n hj hm
    rw [show n + (j + 1) = n + 1 + j by omega, ih (n + 1) (by omega) (fun i p hi hip => hm i p (by omega) hip)]
    obtain ⟨i, hi⟩ : ∃ i, i = ps.length - 1 - j := ⟨_, rfl⟩
    have hlt : i < ps.length := by omega
    obtain ⟨p, hp1⟩ : ∃ p, ps[i]? = some p := ⟨ps[i], List.getElem?_eq_getElem hlt⟩
    obtain ⟨q1, q2⟩ := hp i p hp1
    have hmx : p.1 + 1 = p.2.2.1 := hm i p (by omega) hp1
    rw [show (ps.length : Int) - 1 - (j : Int) = (i : Int) by omega, Md_unfolds_l151, if_neg (by omega), if_pos (by omega), if_pos (by omega), Int.toNat_natCast, q1, q2, if_neg (by omega), wr_id (by omega) (by omega)]
    congr 1
    omega
