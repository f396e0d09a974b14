/-! The class walks: all that steps stand for. Own text. -/
theorem AGc.fr {g G G' : Gx} (h : AGc g G) (f : FR [35, 37] G G') : AGc g G' := by
  obtain ⟨a, b, c1, d, e, x, k⟩ := h
  exact ⟨by rw [f.fld (by decide) (by decide)]; exact a, by rw [f.cell (by decide) (by decide)]; exact b, by rw [f.cell (by decide) (by decide)]; exact c1, by rw [f.cell (by decide) (by decide)]; exact d, by rw [f.cell (by decide) (by decide)]; exact e, by rw [f.cell (by decide) (by decide)]; exact x, by rw [f.cell (by decide) (by decide)]; exact k⟩
def WlkP (g : Gx) (u : Int) (h : Nat) (K : Gx → Option Gx) : RC6 := fun d lo hi _ _ D => lo ≤ hi ∧ ∀ e ∈ D u, ∀ (op v : Nat) (G : Gx) (c S L : Nat), op + d ≤ 4 → hi ≤ 160 → (hi : Int) ≤ g 7 10 → AGc g G → G 33 11 = (c : Int) → G 33 10 = (S : Int) → G 33 12 = (op : Int) → G 37 h = (L : Int) → c ≤ S → Mt G c S e.1 → c + e.1.length ≤ 30 → L + e.2.length ≤ 24 → v + (hi - lo) * 4 ^ d < 1000000 → ∃ (N : Nat) (G' : Gx), N ≤ (hi - lo) * 4 ^ d ∧ (∀ n : Nat, Hi_walk_l24 (h : Int) u K (n + N) (lo : Int) (v : Int) G = Hi_walk_l24 (h : Int) u K n (hi : Int) ((v + N : Nat) : Int) G') ∧ AGc g G' ∧ G' 33 12 = (op : Int) ∧ (∀ i, i < op → G' 47 i = G 47 i ∧ G' 49 i = G 49 i) ∧ PsW G G' h c S L e
theorem PsW.nil {G : Gx} {h c S L : Nat} (h1 : G 33 11 = (c : Int)) (h2 : G 33 10 = (S : Int)) (h3 : G 37 h = (L : Int)) (hS : c ≤ S) : PsW G G h c S L ([], []) :=
  ⟨h1, by rw [h2]; congr 1; simp; omega, h3, fun i x hx => by simp at hx, fun _ _ => rfl, fun _ _ => rfl, fun _ _ => ⟨rfl, rfl⟩, fun i p hp => by simp at hp⟩
theorem p4 (d : Nat) : 1 ≤ 4 ^ d := Nat.pow_le_pow_right (n := 4) (by decide) (Nat.zero_le d)
theorem wlk_nil (g : Gx) (u : Int) (h : Nat) (K : Gx → Option Gx) : cNil (WlkP g u h K) := by
  intro d lo cl
  refine ⟨Nat.le_refl _, fun e he op v G c S L x1 x2 x3 x4 x5 x6 x7 x8 x9 y1 y2 y3 y4 => ?_⟩
  have : e = ([], []) := by simpa [dnil] using he
  subst this
  exact ⟨0, G, Nat.zero_le _, fun _ => rfl, x4, x7, fun _ _ => ⟨rfl, rfl⟩, PsW.nil x5 x6 x8 x9⟩
theorem wlk_seq (g : Gx) (u : Int) (h : Nat) (K : Gx → Option Gx) : cSeq (WlkP g u h K) := by
  intro d lo mid hi cl cm ch A B h1 h2
  obtain ⟨l1, h1⟩ := h1
  obtain ⟨l2, h2⟩ := h2
  refine ⟨by omega, fun e he op v G c S L x1 x2 x3 x4 x5 x6 x7 x8 x9 y1 y2 y3 y4 => ?_⟩
  obtain ⟨a, ha, b, hb, rfl⟩ := mem_lseq.mp he
  simp only [hcat, List.length_append] at y2 y3
  have ep : (hi - lo) * 4 ^ d = (mid - lo) * 4 ^ d + (hi - mid) * 4 ^ d := by rw [← Nat.add_mul]; congr 1; omega
  rw [ep] at y4 ⊢
  obtain ⟨N1, G1, e1, e2, e3, e4, e5, e6⟩ := h1 a ha op v G c S L x1 (by omega) (by omega) x4 x5 x6 x7 x8 x9 (Mt.left (b := b.1) y1) (by omega) (by omega) (by omega)
  obtain ⟨f1, f2, f3, f4, f5, f6, f7, f8⟩ := id e6
  obtain ⟨N2, G2, r1, r2, r3, r4, r5, r6⟩ := h2 b hb op (v + N1) G1 (c + a.1.length) (max S (c + a.1.length)) (L + a.2.length) x1 x2 x3 e3 f1 f2 e4 f3 (by omega) (Mt.right (a := a.1) y1 f7) (by omega) (by omega) (by omega)
  refine ⟨N1 + N2, G2, by omega, fun n => ?_, r3, r4, fun i hi => ⟨(r5 i hi).1.trans (e5 i hi).1, (r5 i hi).2.trans (e5 i hi).2⟩, e6.app r6⟩
  rw [show n + (N1 + N2) = n + N2 + N1 by omega, e2, r2, show v + N1 + N2 = v + (N1 + N2) by omega]
theorem wk_head {u h : Int} {K : Gx → Option Gx} {n p v : Nat} {G : Gx} (hv : v < 1000000) (hp : (p : Int) < G 7 10) : Hi_walk_l24 h u K (n + 1) (p : Int) (v : Int) G = if (St_kind (p : Int) G) < 0 ∨ 5 < (St_kind (p : Int) G) then Hi_walk_l24 h u K n (wr ((p : Int) + 1)) (wr ((v : Int) + 1)) G else if (St_kind (p : Int) G) = 0 then Hi_walk_l24 h u K n (wr ((p : Int) + 1)) (wr ((v : Int) + 1)) (Hi_say h (St_value (p : Int) G) G) else if (St_kind (p : Int) G) = 1 then Option.bind (Hi_choose h (St_value (p : Int) G) u G) (fun q2 => Hi_walk_l24 h u K n (St_wayStart (St_value (p : Int) G) q2.1 q2.2) (wr ((v : Int) + 1)) q2.2) else if (St_kind (p : Int) G) = 2 then Hi_walk_l24 h u K n (St_end (St_value (p : Int) G) G) (wr ((v : Int) + 1)) G else if (St_kind (p : Int) G) = 3 then Hi_walk_l24 h u K n (wr ((p : Int) + 1)) (wr ((v : Int) + 1)) G else if (St_kind (p : Int) G) = 4 then Hi_walk_l24 h u K n (wr ((p : Int) + 1)) (wr ((v : Int) + 1)) (Hi_beginRounds (wr ((p : Int) + 1)) (St_value (p : Int) G) G) else Hi_walk_l24 h u K n (Hi_endRound (wr ((p : Int) + 1)) G).1 (wr ((v : Int) + 1)) (Hi_endRound (wr ((p : Int) + 1)) G).2 := by
  rw [Hi_walk_l24, if_neg (by omega)]
  unfold St_size
  rw [if_neg (by omega), lett_eq, lett_eq, lett_eq]
theorem kd_eq {g G : Gx} {p : Nat} (h : AGc g G) (hp : p < 160) : St_kind (p : Int) G = g 9 p ∧ St_value (p : Int) G = g 11 p := by
  unfold St_kind St_value
  rw [rat_in (by omega) (by omega), rat_in (by omega) (by omega), Int.toNat_natCast, h.2.1, h.2.2.1]
  exact ⟨rfl, rfl⟩
theorem wlk_say (g : Gx) (u : Int) (h : Nat) (hh : h < 30) (K : Gx → Option Gx) : cSay g (WlkP g u h K) := by
  intro d lo cl cc a1 a2 a3
  refine ⟨by omega, fun e he op v G c S L x1 x2 x3 x4 x5 x6 x7 x8 x9 y1 y2 y3 y4 => ?_⟩
  have : e = ([], [cc]) := by simpa [dsay] using he
  subst this
  have y3 : L + 1 ≤ 24 := y3
  have p := p4 d
  rw [show lo + 1 - lo = 1 by omega, Nat.one_mul] at y4 ⊢
  obtain ⟨k1, k2⟩ := kd_eq x4 (p := lo) (by omega)
  have sd := say_ok (c := cc) hh x8 (by omega)
  obtain ⟨s1, s2, s3, s4, s5⟩ := id sd
  refine ⟨1, Hi_say (h : Int) cc G, by omega, fun n => ?_, x4.fr s5, by rw [s5.fld (by decide) (by decide)]; exact x7, fun i _ => ⟨by rw [s5.cell (by decide) (by decide)], by rw [s5.cell (by decide) (by decide)]⟩, by rw [s5.fld (by decide) (by decide)]; exact x5, ?_, s1, s2, s3, s4, fun i _ => ⟨by rw [s5.cell (by decide) (by decide)], by rw [s5.cell (by decide) (by decide)]⟩, fun i p hp => by simp at hp⟩
  · rw [wk_head (by omega) (by rw [x4.1]; omega), k1, k2, a1, a2, if_neg (by decide), if_pos rfl, wr_id (x := (lo : Int) + 1) (by omega) (by omega), wr_id (x := (v : Int) + 1) (by omega) (by omega), show (lo : Int) + 1 = ((lo + 1 : Nat) : Int) by omega, show (v : Int) + 1 = ((v + 1 : Nat) : Int) by omega]
  · rw [s5.fld (by decide) (by decide), x6]
    show (S : Int) = ((max S (c + 0) : Nat) : Int)
    rw [show max S (c + 0) = S by omega]
/-- rounds, r of them to come -/
theorem wlk_rounds (g : Gx) (u : Int) (h : Nat) (K : Gx → Option Gx) {d lo hi cl ch k : Nat} {A : Ds} (hk : k ≤ 4) (hA : WlkP g u h K d (lo + 1) hi cl ch A) (a7 : g 9 hi = 5) (hi2 : hi < 160) (hi3 : (hi : Int) < g 7 10) (op : Nat) (hop : op + (d + 1) ≤ 4) : ∀ (r : Nat) (e : Hy), e ∈ drep (r + 1) A u → ∀ (v : Nat) (G : Gx) (c S L : Nat), r + 1 ≤ k → AGc g G → G 33 11 = (c : Int) → G 33 10 = (S : Int) → G 33 12 = ((op + 1 : Nat) : Int) → G 47 op = ((lo + 1 : Nat) : Int) → G 49 op = (r : Int) → G 37 h = (L : Int) → c ≤ S → Mt G c S e.1 → c + e.1.length ≤ 30 → L + e.2.length ≤ 24 → v + (r + 1) * ((hi - (lo + 1)) * 4 ^ d + 1) < 1000000 → ∃ (N : Nat) (G' : Gx), N ≤ (r + 1) * ((hi - (lo + 1)) * 4 ^ d + 1) ∧ (∀ n : Nat, Hi_walk_l24 (h : Int) u K (n + N) ((lo + 1 : Nat) : Int) (v : Int) G = Hi_walk_l24 (h : Int) u K n ((hi + 1 : Nat) : Int) ((v + N : Nat) : Int) G') ∧ AGc g G' ∧ G' 33 12 = (op : Int) ∧ (∀ i, i < op → G' 47 i = G 47 i ∧ G' 49 i = G 49 i) ∧ PsW G G' h c S L e := by
  obtain ⟨l1, hA⟩ := hA
  generalize hQ : (hi - (lo + 1)) * 4 ^ d = Q at hA ⊢
  intro r
  induction r with
  | zero =>
    intro e he v G c S L hr x4 x5 x6 x7 x10 x11 x8 x9 y1 y2 y3 y4
    have e1 : drep 1 A u = A u := lseq_nil (A u)
    rw [show 0 + 1 = 1 from rfl, e1] at he
    rw [Nat.one_mul] at y4 ⊢
    obtain ⟨N1, G1, z1, z2, z3, z4, z5, z6⟩ := hA e he (op + 1) v G c S L (by omega) (by omega) (by omega) x4 x5 x6 x7 x8 x9 y1 y2 y3 (by omega)
    obtain ⟨k1, k2⟩ := kd_eq z3 (p := hi) (by omega)
    obtain ⟨w1, w2⟩ := z5 op (by omega)
    have er : Hi_endRound (wr ((hi : Int) + 1)) G1 = (((hi + 1 : Nat) : Int), gset G1 33 12 (op : Int)) := by
      unfold Hi_endRound
      rw [z4, wr_id (x := ((op + 1 : Nat) : Int) - 1) (by omega) (by omega), show ((op + 1 : Nat) : Int) - 1 = (op : Int) by omega, rat_in (by omega) (by omega), Int.toNat_natCast, w2, x11, if_pos (by omega), wr_id (by omega) (by omega), show (hi : Int) + 1 = ((hi + 1 : Nat) : Int) by omega]
    refine ⟨N1 + 1, gset G1 33 12 (op : Int), by omega, fun n => ?_, z3.gs (by omega), by simp [gset], fun i hi => ?_, ?_⟩
    · rw [show n + (N1 + 1) = n + 1 + N1 by omega, z2, wk_head (by omega) (by rw [z3.1]; exact hi3), k1, a7, if_neg (by decide), if_neg (by decide), if_neg (by decide), if_neg (by decide), if_neg (by decide), if_neg (by decide), er, wr_id (by omega) (by omega), show ((v + N1 : Nat) : Int) + 1 = ((v + (N1 + 1) : Nat) : Int) by omega]
    · obtain ⟨b1, b2⟩ := z5 i (by omega)
      exact ⟨by simp [gset]; exact b1, by simp [gset]; exact b2⟩
    · obtain ⟨f1, f2, f3, f4, f5, f6, f7, f8⟩ := z6
      exact ⟨by simp [gset]; exact f1, by simp [gset]; exact f2, by simp [gset]; exact f3, fun i x hx => by simp [gset]; exact f4 i x hx, fun i hi => by simp [gset]; exact f5 i hi, fun j hj => by simp [gset]; exact f6 j hj, fun i hi => by simp [gset]; exact f7 i hi, fun i p hp => by simp [gset]; exact f8 i p hp⟩
  | succ r ih =>
    intro e he v G c S L hr x4 x5 x6 x7 x10 x11 x8 x9 y1 y2 y3 y4
    obtain ⟨a, ha, b, hb, rfl⟩ := mem_lseq.mp he
    simp only [hcat, List.length_append] at y2 y3
    have ep : (r + 1 + 1) * (Q + 1) = (Q + 1) + (r + 1) * (Q + 1) := by rw [Nat.add_mul (r + 1) 1]; omega
    rw [ep] at y4 ⊢
    obtain ⟨N1, G1, z1, z2, z3, z4, z5, z6⟩ := hA a ha (op + 1) v G c S L (by omega) (by omega) (by omega) x4 x5 x6 x7 x8 x9 (Mt.left (b := b.1) y1) (by omega) (by omega) (by omega)
    obtain ⟨k1, k2⟩ := kd_eq z3 (p := hi) (by omega)
    obtain ⟨w1, w2⟩ := z5 op (by omega)
    obtain ⟨G2, hG2⟩ : ∃ G2, G2 = gset G1 49 op (r : Int) := ⟨_, rfl⟩
    have er : Hi_endRound (wr ((hi : Int) + 1)) G1 = (((lo + 1 : Nat) : Int), G2) := by
      unfold Hi_endRound
      rw [z4, wr_id (x := ((op + 1 : Nat) : Int) - 1) (by omega) (by omega), show ((op + 1 : Nat) : Int) - 1 = (op : Int) by omega, rat_in (c := 49) (by omega) (by omega), rat_in (c := 47) (by omega) (by omega), rai (by omega) (by omega), Int.toNat_natCast, w2, w1, x11, x10, if_neg (by omega), wr_id (x := ((r + 1 : Nat) : Int) + -1) (by omega) (by omega), show ((r + 1 : Nat) : Int) + -1 = (r : Int) by omega, hG2]
    obtain ⟨f1, f2, f3, f4, f5, f6, f7, f8⟩ := id z6
    have P2 : PsW G G2 h c S L a := by
      rw [hG2]
      exact ⟨by simp [gset]; exact f1, by simp [gset]; exact f2, by simp [gset]; exact f3, fun i x hx => by simp [gset]; exact f4 i x hx, fun i hi => by simp [gset]; exact f5 i hi, fun j hj => by simp [gset]; exact f6 j hj, fun i hi => by simp [gset]; exact f7 i hi, fun i p hp => by simp [gset]; exact f8 i p hp⟩
    obtain ⟨N2, G3, r1, r2, r3, r4, r5, r6⟩ := ih b hb (v + N1 + 1) G2 (c + a.1.length) (max S (c + a.1.length)) (L + a.2.length) (by omega) (by rw [hG2]; exact z3.gs (by omega)) P2.1 P2.2.1 (by simp [hG2, gset]; exact z4) (by simp [hG2, gset]; rw [w1]; exact x10) (by simp [hG2, gset]) P2.2.2.1 (by omega) (Mt.right (a := a.1) y1 P2.2.2.2.2.2.2.1) (by omega) (by omega) (by omega)
    refine ⟨N1 + 1 + N2, G3, by omega, fun n => ?_, r3, r4, fun i hi => ?_, P2.app r6⟩
    · rw [show n + (N1 + 1 + N2) = n + N2 + 1 + N1 by omega, z2, wk_head (by omega) (by rw [z3.1]; exact hi3), k1, a7, if_neg (by decide), if_neg (by decide), if_neg (by decide), if_neg (by decide), if_neg (by decide), if_neg (by decide), er, wr_id (by omega) (by omega), show ((v + N1 : Nat) : Int) + 1 = ((v + N1 + 1 : Nat) : Int) by omega]
      simp only
      rw [r2, show v + N1 + 1 + N2 = v + (N1 + 1 + N2) by omega]
    · obtain ⟨b1, b2⟩ := z5 i (by omega)
      obtain ⟨b3, b4⟩ := r5 i hi
      have ne : i ≠ op := by omega
      exact ⟨by rw [b3, hG2]; simp [gset]; exact b1, by rw [b4, hG2]; simp [gset, ne]; exact b2⟩
theorem wlk_rep (g : Gx) (u : Int) (h : Nat) (K : Gx → Option Gx) : cRep g (WlkP g u h K) := by
  intro d lo hi cl ch k A a1 a2 a3 a4 hA a6 a7 a8
  refine ⟨by have := hA.1; omega, fun e he op v G c S L x1 x2 x3 x4 x5 x6 x7 x8 x9 y1 y2 y3 y4 => ?_⟩
  obtain ⟨r, rfl⟩ : ∃ r, k = r + 1 := ⟨k - 1, by omega⟩
  have p := p4 d
  have ep : (hi + 1 - lo) * 4 ^ (d + 1) = 4 * ((hi - (lo + 1)) * 4 ^ d) + 8 * 4 ^ d := by
    rw [show hi + 1 - lo = hi - (lo + 1) + 2 by omega, Nat.pow_succ, Nat.add_mul, ← Nat.mul_assoc]
    generalize (hi - (lo + 1)) * 4 ^ d = q
    omega
  rw [ep] at y4 ⊢
  have bd : (r + 1) * ((hi - (lo + 1)) * 4 ^ d + 1) ≤ 4 * ((hi - (lo + 1)) * 4 ^ d + 1) := Nat.mul_le_mul_right _ a2
  obtain ⟨k1, k2⟩ := kd_eq x4 (p := lo) (by omega)
  obtain ⟨G1, hG1⟩ : ∃ G1, G1 = gset (gset (gset G 47 op ((lo + 1 : Nat) : Int)) 49 op (r : Int)) 33 12 ((op + 1 : Nat) : Int) := ⟨_, rfl⟩
  have eb : Hi_beginRounds (wr ((lo : Int) + 1)) ((r + 1 : Nat) : Int) G = G1 := by
    unfold Hi_beginRounds
    rw [x7, rsi (c := 47) (by omega) (by omega), rsi (c := 49) (by omega) (by omega), Int.toNat_natCast, wr_id (x := (lo : Int) + 1) (by omega) (by omega), wr_id (x := ((r + 1 : Nat) : Int) - 1) (by omega) (by omega), wr_id (x := (op : Int) + 1) (by omega) (by omega), hG1, show ((r + 1 : Nat) : Int) - 1 = (r : Int) by omega, show (lo : Int) + 1 = ((lo + 1 : Nat) : Int) by omega, show (op : Int) + 1 = ((op + 1 : Nat) : Int) by omega]
  obtain ⟨N, G2, z1, z2, z3, z4, z5, z6⟩ := wlk_rounds g u h K a2 hA a7 (by omega) (by omega) op (by omega) r e he (v + 1) G1 c S L (Nat.le_refl _) (by rw [hG1]; exact ((x4.gs (by omega)).gs (by omega)).gs (by omega)) (by simp [hG1, gset]; exact x5) (by simp [hG1, gset]; exact x6) (by simp [hG1, gset]) (by simp [hG1, gset]) (by simp [hG1, gset]) (by simp [hG1, gset]; exact x8) x9 (fun i p hp => by simp [hG1, gset]; exact y1 i p hp) y2 y3 (by omega)
  refine ⟨N + 1, G2, by omega, fun n => ?_, z3, z4, fun i hi => ?_, ?_⟩
  · rw [show n + (N + 1) = n + N + 1 by omega, wk_head (by omega) (by rw [x4.1]; omega), k1, k2, a3, a4, if_neg (by decide), if_neg (by decide), if_neg (by decide), if_neg (by decide), if_neg (by decide), if_pos rfl, eb, wr_id (x := (lo : Int) + 1) (by omega) (by omega), wr_id (x := (v : Int) + 1) (by omega) (by omega), show (lo : Int) + 1 = ((lo + 1 : Nat) : Int) by omega, show (v : Int) + 1 = ((v + 1 : Nat) : Int) by omega, z2, show v + 1 + N = v + (N + 1) by omega]
  · obtain ⟨b1, b2⟩ := z5 i hi
    have ne : i ≠ op := by omega
    exact ⟨by rw [b1, hG1]; simp [gset, ne], by rw [b2, hG1]; simp [gset, ne]⟩
  · obtain ⟨f1, f2, f3, f4, f5, f6, f7, f8⟩ := z6
    exact ⟨f1, f2, f3, f4, fun i hi => by rw [f5 i hi, hG1]; simp [gset], fun j hj => by rw [f6 j hj, hG1]; simp [gset], fun i hi => by rw [(f7 i hi).1, (f7 i hi).2, hG1]; simp [gset], f8⟩
