/-! mended: the reference's answer. Own text. -/
theorem hs_some {T : Nat} {t pt : List Int} {u : Int} {g : Gx} (h : Inv T t pt u g) (hT : T < 90000) (hp : (pln t).1 = -1) {b : Nat} (hb : b < 1073741824) (n : ¬ TM (pD t (b : Int))) : ∃ gc, HsC (pD t (b : Int)) (pD t (b : Int)).length gc := by
  obtain ⟨g1, -, i1, r1⟩ := fault_ok h (by omega)
  obtain ⟨r, g2, -, e2, e3, -, e5, -⟩ := make_ok i1 (by omega) r1 hp (w := (b : Int)) (by omega)
  rcases e2 with e2 | e2
  · exact absurd (e3.mp e2) n
  · exact ⟨g2, (e5 e2).2.2.2⟩
theorem encR_ag {g0 : Gx} {z : Nat} {D : Ds} (h : EncR g0 4 0 z D) : ∀ G, AGr g0 G → EncR G 4 0 z D := fun G ⟨_, a1, a2, a3, a4, a5, a6⟩ => by
  refine (h.mono (fun i _ _ => ?_)).2
  unfold acA
  rw [a1, a2, a3, a4, a5, a6]
  exact ⟨rfl, rfl, rfl, rfl, rfl, fun _ _ => rfl⟩
theorem mnP_of {t : List Int} {M : Nat} (hM : ∀ i, M.testBit i = true ↔ mayb t i = true) : mcnt t = pc30 M ∧ ∀ b, subM t b ↔ sbm b M := by
  constructor
  · unfold mcnt pc30
    congr 2
    funext i
    have := hM i
    cases h1 : M.testBit i <;> cases h2 : mayb t i <;> simp_all
  · intro b
    unfold subM sbm
    exact ⟨fun h i hi => (hM i).mpr (h i hi), fun h i hi => (hM i).mp (h i hi)⟩
theorem bst_mnP {t : List Int} {M : Nat} {v : Int} (hM : ∀ i, M.testBit i = true ↔ mayb t i = true) (h6 : pc30 M ≤ 6) (h0 : ¬ TM (pD t 0)) (h : Bst t M (M + 1) v) : MnP t v := by
  obtain ⟨e1, e2⟩ := mnP_of hM
  have le : ∀ b, sbm b M → b < M + 1 := fun b hb => by
    have := sbm_le b (Nat.lt_two_pow_self) hb
    omega
  refine Or.inr ⟨fun h9 => by rcases h9 with h9 | h9; omega; exact h0 h9, ?_⟩
  rcases h with ⟨a, b⟩ | ⟨b, b1, b2, b3, b4, b5⟩
  · exact Or.inl ⟨a, fun b' hb => b b' ((e2 b').mp hb) (le b' ((e2 b').mp hb))⟩
  · exact Or.inr ⟨b, (e2 b).mpr b1, b3, b4, fun b' hb ho => b5 b' ((e2 b').mp hb) (le b' ((e2 b').mp hb)) ho⟩
theorem mnR_ok {T : Nat} {t pt : List Int} {u : Int} {g : Gx} (h : Inv T t pt u g) (hT : T < 80000) : ∃ v g', Md_mended g = some (v, g') ∧ Inv T t pt u g' ∧ (((pln t).1 ≠ -1 ∧ v = -3) ∨ ((pln t).1 = -1 ∧ MnP t v)) := by
  have fr : ∀ r g', Md_mended g = some (r, g') → Inv T t pt u g' := fun r g' e => h.fr ((fr_Md_mended g r g' e).cl (by decide))
  suffices hh : ∃ v g', Md_mended g = some (v, g') ∧ (((pln t).1 ≠ -1 ∧ v = -3) ∨ ((pln t).1 = -1 ∧ MnP t v)) by
    obtain ⟨v, g', a, b⟩ := hh
    exact ⟨v, g', a, fr _ _ a, b⟩
  obtain ⟨g1, e1, e2⟩ := md_reads h.txR
  unfold Md_mended
  rw [e1, ob_eq]
  simp only
  by_cases hp : (pln t).1 = -1
  · rw [if_pos hp]
    have hD := h.okd (by omega) hp
    obtain ⟨k1, -, -, z, z1, z2, z3, z4⟩ := e2 hp
    rcases unfolds_ok (g := g1) (u := 0) (by decide) z1 z2 z3 (hD 0).1 with ⟨t1, g2, t2⟩ | ⟨t1, g2, t2, t3, t4⟩
    · rw [t2, ob_eq]
      simp only
      rw [if_neg (show ¬ (-4 : Int) = 0 by decide)]
      exact ⟨-4, g2, rfl, Or.inr ⟨hp, Or.inl ⟨Or.inr t1, rfl⟩⟩⟩
    · rw [t2, ob_eq]
      simp only
      rw [if_pos trivial]
      have f := fr_Md_unfolds _ _ _ _ t2
      have u2 : g2 92 18 = (pus t : Int) := by rw [f.fld (by decide) (by decide)]; exact k1
      have w2 : g2 92 9 = (z : Int) := by rw [t3.1]; exact z1
      have ca2 : CA g2 z (pcs t) := by
        obtain ⟨_, a1, a2, a3, a4, a5, a6⟩ := t3
        unfold CA
        rw [a1, a2, a4]
        exact z4
      have en2 : EncR g2 4 0 z (pD t) := encR_ag z3 g2 t3
      obtain ⟨M, m1, m2, m3⟩ := may_all u2 (pus_64 t) w2 z2 ca2 (fun x5 g6 => Option.bind (Md_ones x5 g6) (fun q7 => if q7.1 ≤ 6 then Md_mended_l135 x5 (fun x16 g17 => some (x16, g17)) fu (-1) 0 1 q7.2 else some ((-4), q7.2)))
      have hM : ∀ i, M.testBit i = true ↔ mayb t i = true := fun i => (m3 i).trans mayb_iff.symm
      rw [m2, ones_ok m1, ob_eq]
      simp only
      by_cases c : pc30 M ≤ 6
      · rw [if_pos (by omega)]
        obtain ⟨v, G, q1, q2, q3⟩ := mnl_ok hD (fun b hb n => hs_some h (by omega) hp hb n) w2 z2 (encR_ag en2) m1 c (fun x16 g17 => some (x16, g17)) 64 0 fu (-1) g2 (fun i hi => by rw [Nat.zero_testBit] at hi; exact absurd hi (by decide)) (by omega) (by omega) (fu_big _ (by decide)) ⟨rfl, rfl, rfl, rfl, rfl, rfl, rfl⟩ (Or.inl ⟨rfl, fun b _ hb => by omega⟩)
        rw [show ((0 : Nat) : Int) = 0 from rfl] at q1
        rw [q1]
        exact ⟨v, G, rfl, Or.inr ⟨hp, bst_mnP hM c t1 q3⟩⟩
      · rw [if_neg (by omega)]
        exact ⟨-4, g2, rfl, Or.inr ⟨hp, Or.inl ⟨Or.inl (by rw [(mnP_of hM).1]; omega), rfl⟩⟩⟩
  · rw [if_neg hp]
    exact ⟨-3, g1, rfl, Or.inl ⟨hp, rfl⟩⟩
