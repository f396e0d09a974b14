/-! The reference walks: all that acts stand for, one by one. Own text. -/
def Fit (c L : Nat) (e : Hy) : Prop := c + e.1.length ≤ 30 ∧ L + e.2.length ≤ 24
def GoP (g : Gx) (u : Int) (F : Nat) (K : Gx → Option (Int × Gx)) : RR4 := fun d lo hi D => lo ≤ hi ∧ ∀ e ∈ D u, ∀ (G : Gx) (c L h : Nat), hi ≤ 160 → (hi : Int) ≤ g 92 9 → AGr g G → G 92 26 = (h : Int) → h ≤ 30 → G 92 35 = (c : Int) → G 92 36 = (L : Int) → c ≤ 30 → L ≤ 24 → MtR G c F e.1 →
  (Fit c L e ∧ ∃ (N : Nat) (G' : Gx), N ≤ (hi - lo) * 4 ^ d ∧ (∀ n : Nat, Md_goes_l12 (F : Int) u K (n + N) (lo : Int) G = Md_goes_l12 (F : Int) u K n (hi : Int) G') ∧ AGr g G' ∧ (∀ i, i < lo ∨ hi ≤ i → G' 117 i = G 117 i) ∧ PsR G G' h c F L e) ∨ (¬ Fit c L e ∧ ∃ (N : Nat) (G' : Gx), N ≤ (hi - lo) * 4 ^ d ∧ ∀ n : Nat, Md_goes_l12 (F : Int) u K (n + N) (lo : Int) G = some (0, G'))
theorem go_nil (g : Gx) (u : Int) (F : Nat) (K : Gx → Option (Int × Gx)) : rNil (GoP g u F K) := by
  intro d lo
  refine ⟨Nat.le_refl _, fun e he G c L h x2 x3 x4 x5 x6 x7 x8 x9 y1 y2 => Or.inl ?_⟩
  have : e = ([], []) := by simpa [dnil] using he
  subst this
  exact ⟨⟨x9, y1⟩, 0, G, Nat.zero_le _, fun _ => rfl, x4, fun _ _ => rfl, PsR.nil x7 x8 x5⟩
theorem go_seq (g : Gx) (u : Int) (F : Nat) (K : Gx → Option (Int × Gx)) : rSeq (GoP g u F K) := by
  intro d lo mid hi A B h1 h2
  obtain ⟨l1, h1⟩ := h1
  obtain ⟨l2, h2⟩ := h2
  refine ⟨by omega, fun e he G c L h x2 x3 x4 x5 x6 x7 x8 x9 y1 y2 => ?_⟩
  obtain ⟨a, ha, b, hb, rfl⟩ := mem_lseq.mp he
  have ep : (hi - lo) * 4 ^ d = (mid - lo) * 4 ^ d + (hi - mid) * 4 ^ d := by rw [← Nat.add_mul]; congr 1; omega
  rw [ep]
  rcases h1 a ha G c L h (by omega) (by omega) x4 x5 x6 x7 x8 x9 y1 (MtR.left (b := b.1) y2) with ⟨ft, N1, G1, e1, e2, e3, e4, e5⟩ | ⟨ft, N1, G1, e1, e2⟩
  · obtain ⟨f1, f2, f3, f4, f5, f6, f7, f8⟩ := id e5
    rcases h2 b hb G1 (c + a.1.length) (L + a.2.length) h x2 x3 e3 f8 x6 f1 f2 ft.1 ft.2 (MtR.right (a := a.1) y2 (fun i hi => f5 i (Or.inl hi))) with ⟨ft2, N2, G2, r1, r2, r3, r4, r5⟩ | ⟨ft2, N2, G2, r1, r2⟩
    · refine Or.inl ⟨?_, N1 + N2, G2, by omega, fun n => ?_, r3, fun i hi => ?_, e5.app r5⟩
      · unfold Fit hcat at *; simp only [List.length_append]; omega
      · rw [show n + (N1 + N2) = n + N2 + N1 by omega, e2, r2]
      · rw [r4 i (by omega), e4 i (by omega)]
    · refine Or.inr ⟨?_, N1 + N2, G2, by omega, fun n => ?_⟩
      · unfold Fit hcat at *; simp only [List.length_append]; omega
      · rw [show n + (N1 + N2) = n + N2 + N1 by omega, e2, r2]
  · refine Or.inr ⟨?_, N1, G1, by omega, e2⟩
    unfold Fit hcat at *; simp only [List.length_append]; omega
theorem go_in {F u : Int} {K : Gx → Option (Int × Gx)} {n p : Nat} {G : Gx} (hp : p < 170) (hp2 : (p : Int) < G 92 9) : (G 99 p = 0 → Md_goes_l12 F u K (n + 1) (p : Int) G = Option.bind (Md_says (G 100 p) (G 101 p) (G 102 p) G) (fun q3 => if ¬ q3.1 = 0 then Md_goes_l12 F u K n (wr ((p : Int) + 1)) q3.2 else some (0, q3.2))) ∧ (G 99 p = 1 → Md_goes_l12 F u K (n + 1) (p : Int) G = Option.bind (Md_chooses (p : Int) F u G) (fun q2 => if ¬ q2.1 = 0 then (if 0 ≤ (wr ((q2.2 92 35) - 1)) ∧ (wr ((q2.2 92 35) - 1)) < 30 then (if 0 ≤ (wr ((wr (4 * (p : Int))) + (q2.2 114 (wr ((q2.2 92 35) - 1)).toNat))) ∧ (wr ((wr (4 * (p : Int))) + (q2.2 114 (wr ((q2.2 92 35) - 1)).toNat))) < 680 then Md_goes_l12 F u K n (q2.2 104 (wr ((wr (4 * (p : Int))) + (q2.2 114 (wr ((q2.2 92 35) - 1)).toNat))).toNat) q2.2 else none) else none) else some (0, q2.2))) ∧ (∀ o : Nat, G 99 p = 2 → G 102 p = (o : Int) → o < 170 → Md_goes_l12 F u K (n + 1) (p : Int) G = Md_goes_l12 F u K n (G 103 o) G) ∧ (G 99 p = 3 → Md_goes_l12 F u K (n + 1) (p : Int) G = Md_goes_l12 F u K n (wr ((p : Int) + 1)) (gset G 117 p 1)) ∧ (∀ o : Nat, G 99 p = 4 → G 102 p = (o : Int) → o < 170 → Md_goes_l12 F u K (n + 1) (p : Int) G = Md_goes_l12 F u K n (if G 101 o ≤ G 117 o then wr ((p : Int) + 1) else wr ((o : Int) + 1)) (gset G 117 o (wr (G 117 o + 1)))) := by
  have r1 : (0 : Int) ≤ (p : Int) ∧ (p : Int) < 170 := by omega
  rw [Md_goes_l12, if_neg (by omega), if_pos r1]
  simp only [Int.toNat_natCast]
  refine ⟨fun k => ?_, fun k => ?_, fun o k ho ho2 => ?_, fun k => ?_, fun o k ho ho2 => ?_⟩
  · rw [if_neg (by omega), if_pos r1, if_pos r1, if_pos r1]
  · rw [if_pos (by omega), if_pos r1, if_neg (by omega)]
  · rw [if_pos (by omega), if_pos r1, if_pos (by omega), if_pos r1, if_neg (by omega), if_pos r1, ho, if_pos (by omega), Int.toNat_natCast]
  · rw [if_pos (by omega), if_pos r1, if_pos (by omega), if_pos r1, if_pos (by omega), if_pos r1, if_neg (by omega), if_pos r1]
  · rw [if_pos (by omega), if_pos r1, if_pos (by omega), if_pos r1, if_pos (by omega), if_pos r1, if_pos (by omega), if_pos r1, ho, if_pos (by omega), if_pos (by omega), lett_eq, if_pos (by omega), if_pos (by omega), Int.toNat_natCast]
theorem go_say (g : Gx) (u : Int) (F : Nat) (K : Gx → Option (Int × Gx)) : rSay g (GoP g u F K) := by
  intro d lo a b w ha hb hw h0 h1 h2 h3
  refine ⟨by omega, fun e he G c L h x2 x3 x4 x5 x6 x7 x8 x9 y1 y2 => ?_⟩
  have : e = ([], [((1000 * a + 100 * b + w : Nat) : Int)]) := by simpa [dsay] using he
  subst this
  have p := p4 d
  rw [show lo + 1 - lo = 1 by omega, Nat.one_mul]
  have k0 : G 99 lo = 0 := by rw [x4.2.1]; exact h0
  have k1 : G 100 lo = (a : Int) := by rw [x4.2.2.1]; exact h1
  have k2 : G 101 lo = (b : Int) := by rw [x4.2.2.2.1]; exact h2
  have k3 : G 102 lo = (w : Int) := by rw [x4.2.2.2.2.1]; exact h3
  have hd := fun n => (go_in (F := (F : Int)) (u := u) (K := K) (n := n) (p := lo) (G := G) (by omega) (by rw [x4.1]; omega)).1 k0
  obtain ⟨s1, s2⟩ := says_ok (a := a) (b := b) (w := w) x5 x6 x8 y1 ha hb hw
  by_cases hl : L < 24
  · obtain ⟨G1, e1, e2⟩ := s1 hl
    obtain ⟨f1, f2, f3, f4⟩ := e2
    refine Or.inl ⟨⟨x9, by show L + 1 ≤ 24; omega⟩, 1, G1, by omega, fun n => ?_, x4.fr f4 (by decide), fun i _ => by rw [f4.cell (by decide) (by decide)], by rw [f4.fld (by decide) (by decide)]; exact x7, f1, f2, f3, fun i _ => by rw [f4.cell (by decide) (by decide)], fun i _ => ⟨by rw [f4.cell (by decide) (by decide)], by rw [f4.cell (by decide) (by decide)]⟩, fun i p hp => by simp at hp, by rw [f4.fld (by decide) (by decide)]; exact x5⟩
    rw [hd n, k1, k2, k3, e1, ob_eq]
    simp only
    rw [if_pos (by decide), wr_id (by omega) (by omega), show (lo : Int) + 1 = ((lo + 1 : Nat) : Int) by omega]
  · refine Or.inr ⟨fun h9 => ?_, 1, G, by omega, fun n => ?_⟩
    · have h9 : L + 1 ≤ 24 := h9.2
      omega
    · rw [hd n, k1, k2, k3, s2 (by omega), ob_eq]
      simp only
      rw [if_neg (by decide)]
theorem go_rounds (g : Gx) (u : Int) (F : Nat) (K : Gx → Option (Int × Gx)) {d lo hi k : Nat} {A : Ds} (hk : 2 ≤ k ∧ k ≤ 4) (a4 : g 101 lo = (k : Int)) (hA : GoP g u F K d (lo + 1) hi A) (a7 : g 99 hi = 4) (a8 : g 102 hi = (lo : Int)) (hi2 : hi < 160) (hi3 : (hi : Int) < g 92 9) : ∀ (r : Nat) (e : Hy), e ∈ drep (r + 1) A u → ∀ (G : Gx) (c L h : Nat), r + 1 ≤ k → AGr g G → G 117 lo = ((k - r : Nat) : Int) → G 92 26 = (h : Int) → h ≤ 30 → G 92 35 = (c : Int) → G 92 36 = (L : Int) → c ≤ 30 → L ≤ 24 → MtR G c F e.1 →
    (Fit c L e ∧ ∃ (N : Nat) (G' : Gx), N ≤ (r + 1) * ((hi - (lo + 1)) * 4 ^ d + 1) ∧ (∀ n : Nat, Md_goes_l12 (F : Int) u K (n + N) ((lo + 1 : Nat) : Int) G = Md_goes_l12 (F : Int) u K n ((hi + 1 : Nat) : Int) G') ∧ AGr g G' ∧ (∀ i, i < lo ∨ hi + 1 ≤ i → G' 117 i = G 117 i) ∧ PsR G G' h c F L e) ∨ (¬ Fit c L e ∧ ∃ (N : Nat) (G' : Gx), N ≤ (r + 1) * ((hi - (lo + 1)) * 4 ^ d + 1) ∧ ∀ n : Nat, Md_goes_l12 (F : Int) u K (n + N) ((lo + 1 : Nat) : Int) G = some (0, G')) := by
  obtain ⟨l1, hA⟩ := hA
  generalize hQ : (hi - (lo + 1)) * 4 ^ d = Q at hA ⊢
  have rnd : ∀ (G1 : Gx) (h c L : Nat) (a : Hy) (G0 : Gx) (v : Int), AGr g G1 → PsR G0 G1 h c F L a → PsR G0 (gset G1 117 lo v) h c F L a ∧ AGr g (gset G1 117 lo v) := fun G1 h c L a G0 v ag ps => by
    obtain ⟨f1, f2, f3, f4, f5, f6, f7, f8⟩ := ps
    refine ⟨⟨by simp [gset]; exact f1, by simp [gset]; exact f2, fun hh i x hx => by simp [gset]; exact f3 hh i x hx, fun i hi => by simp [gset]; exact f4 i hi, fun i hi => by simp [gset]; exact f5 i hi, fun i hi => by simp [gset]; exact f6 i hi, fun i p hp => by simp [gset]; exact f7 i p hp, by simp [gset]; exact f8⟩, ag.fr (FR.gs (FR.rf [117] G1) (by decide)) (by decide)⟩
  intro r
  induction r with
  | zero =>
    intro e he G c L h hr x4 x10 x5 x6 x7 x8 x9 y1 y2
    have e1 : drep 1 A u = A u := lseq_nil (A u)
    rw [show 0 + 1 = 1 from rfl, e1] at he
    rw [Nat.one_mul]
    rcases hA e he G c L h (by omega) (by omega) x4 x5 x6 x7 x8 x9 y1 y2 with ⟨ft, N1, G1, z1, z2, z3, z4, z5⟩ | ⟨ft, N1, G1, z1, z2⟩
    · have q117 : G1 117 lo = (k : Int) := by rw [z4 lo (by omega), x10]; simp
      have hd := fun n => (go_in (F := (F : Int)) (u := u) (K := K) (n := n) (p := hi) (G := G1) (by omega) (by rw [z3.1]; exact hi3)).2.2.2.2 lo (by rw [z3.2.1]; exact a7) (by rw [z3.2.2.2.2.1]; exact a8) (by omega)
      obtain ⟨p1, p2⟩ := rnd G1 h c L e G (wr (G1 117 lo + 1)) z3 z5
      refine Or.inl ⟨ft, N1 + 1, gset G1 117 lo (wr (G1 117 lo + 1)), by omega, fun n => ?_, p2, fun i hi => ?_, p1⟩
      · rw [show n + (N1 + 1) = n + 1 + N1 by omega, z2, hd n, show G1 101 lo = (k : Int) by rw [z3.2.2.2.1]; exact a4, q117, if_pos (by omega), wr_id (x := (hi : Int) + 1) (by omega) (by omega), show (hi : Int) + 1 = ((hi + 1 : Nat) : Int) by omega]
      · have ne : i ≠ lo := by omega
        simp [gset, ne]; exact z4 i (by omega)
    · exact Or.inr ⟨ft, N1, G1, by omega, z2⟩
  | succ r ih =>
    intro e he G c L h hr x4 x10 x5 x6 x7 x8 x9 y1 y2
    obtain ⟨a, ha, b, hb, rfl⟩ := mem_lseq.mp he
    have ep : (r + 1 + 1) * (Q + 1) = (Q + 1) + (r + 1) * (Q + 1) := by rw [Nat.add_mul (r + 1) 1]; omega
    rw [ep]
    rcases hA a ha G c L h (by omega) (by omega) x4 x5 x6 x7 x8 x9 y1 (MtR.left (b := b.1) y2) with ⟨ft, N1, G1, z1, z2, z3, z4, z5⟩ | ⟨ft, N1, G1, z1, z2⟩
    · have q117 : G1 117 lo = ((k - (r + 1) : Nat) : Int) := by rw [z4 lo (by omega), x10]
      have hd := fun n => (go_in (F := (F : Int)) (u := u) (K := K) (n := n) (p := hi) (G := G1) (by omega) (by rw [z3.1]; exact hi3)).2.2.2.2 lo (by rw [z3.2.1]; exact a7) (by rw [z3.2.2.2.2.1]; exact a8) (by omega)
      obtain ⟨p1, p2⟩ := rnd G1 h c L a G (wr (G1 117 lo + 1)) z3 z5
      obtain ⟨G2, hG2⟩ : ∃ G2, G2 = gset G1 117 lo (wr (G1 117 lo + 1)) := ⟨_, rfl⟩
      rw [← hG2] at p1 p2
      have q2 : G2 117 lo = ((k - r : Nat) : Int) := by rw [hG2, gs_same, q117, wr_id (by omega) (by omega)]; omega
      obtain ⟨f1, f2, f3, f4, f5, f6, f7, f8⟩ := id p1
      have st : ∀ n, Md_goes_l12 (F : Int) u K (n + 1 + N1) ((lo + 1 : Nat) : Int) G = Md_goes_l12 (F : Int) u K n ((lo + 1 : Nat) : Int) G2 := fun n => by
        rw [z2, hd n, show G1 101 lo = (k : Int) by rw [z3.2.2.2.1]; exact a4, q117, if_neg (by omega), wr_id (x := (lo : Int) + 1) (by omega) (by omega), show (lo : Int) + 1 = ((lo + 1 : Nat) : Int) by omega, hG2, q117]
      rcases ih b hb G2 (c + a.1.length) (L + a.2.length) h (by omega) p2 q2 f8 x6 f1 f2 ft.1 ft.2 (MtR.right (a := a.1) y2 (fun i hi => f5 i (Or.inl hi))) with ⟨ft2, N2, G3, r1, r2, r3, r4, r5⟩ | ⟨ft2, N2, G3, r1, r2⟩
      · refine Or.inl ⟨?_, N1 + 1 + N2, G3, by omega, fun n => ?_, r3, fun i hi => ?_, p1.app r5⟩
        · unfold Fit hcat at *; simp only [List.length_append]; omega
        · rw [show n + (N1 + 1 + N2) = n + N2 + 1 + N1 by omega, st, r2]
        · have ne : i ≠ lo := by omega
          rw [r4 i (by omega), hG2]; simp [gset, ne]; exact z4 i (by omega)
      · refine Or.inr ⟨?_, N1 + 1 + N2, G3, by omega, fun n => ?_⟩
        · unfold Fit hcat at *; simp only [List.length_append]; omega
        · rw [show n + (N1 + 1 + N2) = n + N2 + 1 + N1 by omega, st, r2]
    · refine Or.inr ⟨?_, N1, G1, by omega, z2⟩
      unfold Fit hcat at *; simp only [List.length_append]; omega
theorem go_rep (g : Gx) (u : Int) (F : Nat) (K : Gx → Option (Int × Gx)) : rRep g (GoP g u F K) := by
  intro d lo hi k A a1 a2 a3 a4 hA a7 a8
  have l1 := hA.1
  refine ⟨by omega, fun e he G c L h x2 x3 x4 x5 x6 x7 x8 x9 y1 y2 => ?_⟩
  obtain ⟨r, rfl⟩ : ∃ r, k = r + 1 := ⟨k - 1, by omega⟩
  have p := p4 d
  have ep : (hi + 1 - lo) * 4 ^ (d + 1) = 4 * ((hi - (lo + 1)) * 4 ^ d) + 8 * 4 ^ d := by
    rw [show hi + 1 - lo = hi - (lo + 1) + 2 by omega, Nat.pow_succ, Nat.add_mul, ← Nat.mul_assoc]
    generalize (hi - (lo + 1)) * 4 ^ d = q
    omega
  rw [ep]
  have bd : (r + 1) * ((hi - (lo + 1)) * 4 ^ d + 1) ≤ 4 * ((hi - (lo + 1)) * 4 ^ d + 1) := Nat.mul_le_mul_right _ a2
  have hd := fun n => (go_in (F := (F : Int)) (u := u) (K := K) (n := n) (p := lo) (G := G) (by omega) (by rw [x4.1]; omega)).2.2.2.1 (by rw [x4.2.1]; exact a3)
  obtain ⟨G1, hG1⟩ : ∃ G1, G1 = gset G 117 lo 1 := ⟨_, rfl⟩
  have st : ∀ n, Md_goes_l12 (F : Int) u K (n + 1) (lo : Int) G = Md_goes_l12 (F : Int) u K n ((lo + 1 : Nat) : Int) G1 := fun n => by
    rw [hd n, wr_id (by omega) (by omega), show (lo : Int) + 1 = ((lo + 1 : Nat) : Int) by omega, hG1]
  have f1 : FR [117] G G1 := by rw [hG1]; exact FR.gs (FR.rf _ _) (by decide)
  rcases go_rounds g u F K ⟨a1, a2⟩ a4 hA a7 a8 (by omega) (by omega) r e he G1 c L h (Nat.le_refl _) (x4.fr f1 (by decide)) (by rw [hG1, gs_same]; omega) (by rw [f1.fld (by decide) (by decide)]; exact x5) x6 (by rw [f1.fld (by decide) (by decide)]; exact x7) (by rw [f1.fld (by decide) (by decide)]; exact x8) x9 y1 (fun i p hp => by rw [f1.cell (by decide) (by decide)]; exact y2 i p hp) with ⟨ft, N, G2, z1, z2, z3, z4, z5⟩ | ⟨ft, N, G2, z1, z2⟩
  · refine Or.inl ⟨ft, N + 1, G2, by omega, fun n => ?_, z3, fun i hi => ?_, ?_⟩
    · rw [show n + (N + 1) = n + N + 1 by omega, st, z2]
    · have ne : i ≠ lo := by omega
      rw [z4 i (by omega), hG1]; simp [gset, ne]
    · obtain ⟨b1, b2, b3, b4, b5, b6, b7, b8⟩ := z5
      exact ⟨b1, b2, b3, fun i hi => by rw [b4 i hi, f1.cell (by decide) (by decide)], fun i hi => by rw [b5 i hi, f1.cell (by decide) (by decide)], fun i hi => by rw [(b6 i hi).1, (b6 i hi).2, f1.cell (q := 115) (by decide) (by decide), f1.cell (q := 116) (by decide) (by decide)]; exact ⟨rfl, rfl⟩, b7, b8⟩
  · exact Or.inr ⟨ft, N + 1, G2, by omega, fun n => by rw [show n + (N + 1) = n + N + 1 by omega, st, z2]⟩
