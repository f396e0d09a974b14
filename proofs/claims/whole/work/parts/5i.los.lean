/-! mended: the least of a size. Own text. -/
theorem bcq64 : ∀ q : Nat, q < 64 → Ji_bitCount (q : Int) = (pcn 30 q : Int) := by decide +kernel
theorem CdP.fr {t : List Int} {G G' : Gx} (h : CdP t 30 G) (e : G' 59 = G 59) : CdP t 30 G' := by
  unfold CdP
  rw [e]
  exact h
theorem los_ok {t : List Int} {M N : Nat} (hp : (pln t).1 = -1) (hD : okD (pD t)) (hM : ∀ i, M.testBit i = true ↔ mayb t i = true) (hM2 : M < 1073741824) (hN : mcnt t = N) (hN6 : N ≤ 6) {m : Int} {g : Gx} (hL : LM t m g) (hm : m < 1000000000) (hc : CdP t 30 g) (sz : Nat) : ∃ r g', Kn_leastOfSize (sz : Int) (N : Int) g = some (r, g') ∧ LM t (m + 64) g' ∧ CdP t 30 g' ∧ ((r = -1 ∧ ∀ b, sbm b M → pc30 b = sz → ¬ okB t b) ∨ ∃ b : Nat, sbm b M ∧ pc30 b = sz ∧ okB t b ∧ r = (b : Int) ∧ ∀ b', sbm b' M → pc30 b' = sz → okB t b' → b ≤ b') := by
  have hlen : (cdk t 30).length = N := hN
  have pM : pcn 30 M = N := by rw [← hN, (mnP_of hM).1]; rfl
  have p64 : 2 ^ N ≤ 64 := show 2 ^ N ≤ 2 ^ 6 from Nat.pow_le_pow_right (by decide) hN6
  have leM : ∀ b, sbm b M → b ≤ M := fun b hb => sbm_le b Nat.lt_two_pow_self hb
  unfold Kn_leastOfSize
  have lp : ∀ (k q n : Nat) (m' : Int) (G : Gx), q + k = 2 ^ N → k < n → m' + (k : Int) ≤ m + 64 → LM t m' G → CdP t 30 G → (∀ b, sbm b M → cz 30 M b < q → pc30 b = sz → ¬ okB t b) → ∃ r g', Kn_leastOfSize_l2 (sz : Int) (N : Int) (fun g5 => some ((-1), g5)) n (q : Int) G = some (r, g') ∧ LM t (m + 64) g' ∧ CdP t 30 g' ∧ ((r = -1 ∧ ∀ b, sbm b M → pc30 b = sz → ¬ okB t b) ∨ ∃ b : Nat, sbm b M ∧ pc30 b = sz ∧ okB t b ∧ r = (b : Int) ∧ ∀ b', sbm b' M → pc30 b' = sz → okB t b' → b ≤ b') := by
    intro k
    induction k with
    | zero =>
      intro q n m' G hq hn hmm hl hcd hall
      obtain ⟨n, rfl⟩ : ∃ q, n = q + 1 := ⟨n - 1, by omega⟩
      refine ⟨-1, G, by rw [Kn_leastOfSize_l2, jshl_one _ (by omega), if_pos (by omega)], ⟨hl.1, hl.2.1, by have := hl.2.2.1; omega, hl.2.2.2⟩, hcd, Or.inl ⟨rfl, fun b hb => hall b hb ?_⟩⟩
      have := cz_lt 30 M b
      rw [pM] at this
      omega
    | succ k ih =>
      intro q n m' G hq hn hmm hl hcd hall
      obtain ⟨n, rfl⟩ : ∃ q, n = q + 1 := ⟨n - 1, by omega⟩
      have hq64 : q < 64 := by omega
      have hql : ∀ j, q.testBit j = true → j < (cdk t 30).length := fun j hj => by
        rw [hlen]
        by_cases h9 : j < N
        · exact h9
        · rw [Nat.testBit_lt_two_pow (show q < 2 ^ j from Nat.lt_of_lt_of_le (show q < 2 ^ N by omega) (Nat.pow_le_pow_right (by decide) (by omega)))] at hj
          exact absurd hj (by decide)
      obtain ⟨x, x1, x2, x3⟩ := bits_ok hq64 hql hcd
      obtain ⟨y1, y2⟩ := bits_cz hM hq64 hql x3
      have ypc : pc30 x = pcn 30 q := by
        have := cz_pc 30 M x y1 (by omega)
        rw [y2] at this
        rw [this]; rfl
      have uniq : ∀ b, sbm b M → cz 30 M b = q → b = x := fun b hb he => cz_inj (by omega) hb y1 (leM b hb) (leM x y1) (he.trans y2.symm)
      rw [Kn_leastOfSize_l2, jshl_one _ (by omega), if_neg (by omega), bcq64 q hq64, wr_id (show -2147483648 ≤ (q : Int) + 1 by omega) (by omega), show (q : Int) + 1 = ((q + 1 : Nat) : Int) by omega]
      have go : ∀ (G' : Gx), LM t (m' + 1) G' → CdP t 30 G' → ¬ (pc30 x = sz ∧ okB t x) → ∃ r g', Kn_leastOfSize_l2 (sz : Int) (N : Int) (fun g5 => some ((-1), g5)) n ((q + 1 : Nat) : Int) G' = some (r, g') ∧ LM t (m + 64) g' ∧ CdP t 30 g' ∧ ((r = -1 ∧ ∀ b, sbm b M → pc30 b = sz → ¬ okB t b) ∨ ∃ b : Nat, sbm b M ∧ pc30 b = sz ∧ okB t b ∧ r = (b : Int) ∧ ∀ b', sbm b' M → pc30 b' = sz → okB t b' → b ≤ b') := fun G' l1 l2 l3 => ih (q + 1) n (m' + 1) G' (by omega) (by omega) (by omega) l1 l2 (fun b hb hlt hpc hok => by
        by_cases e : cz 30 M b = q
        · have := uniq b hb e
          rw [this] at hpc hok
          exact l3 ⟨hpc, hok⟩
        · exact hall b hb (by omega) hpc hok)
      by_cases c1 : pcn 30 q = sz
      · rw [if_neg (show ¬ ¬ (pcn 30 q : Int) = (sz : Int) from fun h9 => h9 (by rw [c1])), x2, ob_eq]
        simp only
        obtain ⟨r, G1, e1, e2, e3, e4, e5⟩ := lm_make hl (by omega) hp (w := (x : Int)) (by omega)
        have f1 := fr_Hi_make _ _ _ _ e1
        have cd1 : CdP t 30 G1 := hcd.fr (f1.cell (by decide) (by decide))
        rw [e1, ob_eq]
        simp only
        rcases e2 with e2 | e2
        · rw [if_pos e2]
          exact go G1 e4 cd1 (fun h9 => h9.2.1 (e3.mp e2))
        · have nT : ¬ TM (pD t (x : Int)) := fun h9 => by have := e3.mpr h9; omega
          obtain ⟨G2, s1, s2, s3⟩ := lm_search e4 (e5 e2) (okL_of hD nT)
          have f2 := fr_Kn_search _ _ s1
          have cd2 : CdP t 30 G2 := cd1.fr (f2.cell (by decide) (by decide))
          rw [if_neg (by omega), s1, ob_eq, show rat G2 57 4 0 = G2 57 0 from rfl]
          rcases mom_both s3 with ⟨w1, w2, -⟩ | ⟨t2, a2, b2, w1, w2, -⟩
          · rw [if_neg (fun h9 => h9 w2)]
            obtain ⟨x', x1', x2', x3'⟩ := bits_ok hq64 hql cd2
            have ex : x' = x := by
              apply Nat.eq_of_testBit_eq
              intro i
              rw [Bool.eq_iff_iff, x3', x3]
            subst ex
            rw [x2', ob_eq]
            refine ⟨(x' : Int), G2, rfl, ⟨s2.1, s2.2.1, by have := s2.2.2.1; omega, s2.2.2.2⟩, cd2, Or.inr ⟨x', y1, by omega, ⟨nT, w1⟩, rfl, fun b' hb hpc hok => ?_⟩⟩
            by_cases h9 : x' ≤ b'
            · exact h9
            · have := cz_mono 30 M b' x' (by omega) hb y1 (leM x' y1) (by omega)
              exact absurd hok (hall b' hb (by omega) hpc)
          · rw [if_pos (by omega)]
            exact go G2 s2 cd2 (fun h9 => h9.2.2 t2 a2 b2 w1.1 w1.2.1 w1.2.2.1 w1.2.2.2.1)
      · rw [if_pos (show ¬ (pcn 30 q : Int) = (sz : Int) by omega)]
        exact go G ⟨hl.1, hl.2.1, by have := hl.2.2.1; omega, hl.2.2.2⟩ hcd (fun h9 => c1 (by omega))
  have hk : 0 + 2 ^ N = 2 ^ N := by omega
  exact lp (2 ^ N) 0 fu m g hk (Nat.lt_of_le_of_lt p64 (fu_big _ (by decide))) (by omega) hL hc (fun b _ h9 => by omega)
