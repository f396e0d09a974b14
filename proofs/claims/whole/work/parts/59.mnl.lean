/-! mended: the reference's loop. Own text. -/
def cz : Nat → Nat → Nat → Nat
  | 0, _, _ => 0
  | k + 1, M, s => if M % 2 = 1 then 2 * cz k (M / 2) (s / 2) + s % 2 else cz k (M / 2) (s / 2)
theorem cz_lt : ∀ (k M s : Nat), cz k M s < 2 ^ pcn k M
  | 0, M, s => by simp [cz, pcn]
  | k + 1, M, s => by
    have ih := cz_lt k (M / 2) (s / 2)
    rw [cz, pcn_half]
    by_cases h : M % 2 = 1
    · rw [if_pos h, h, Nat.pow_succ]; omega
    · rw [if_neg h, show M % 2 = 0 by omega]; exact ih
theorem cz_mono : ∀ (k M s x : Nat), M < 2 ^ k → sbm s M → sbm x M → x ≤ M → s < x → cz k M s < cz k M x
  | 0, M, s, x, hM, hs, hx, hl, h => by simp at hM; omega
  | k + 1, M, s, x, hM, hs, hx, hl, h => by
    have hp : 2 ^ (k + 1) = 2 * 2 ^ k := by rw [Nat.pow_succ]; omega
    obtain ⟨s1, s2⟩ := sbm_half.mp hs
    obtain ⟨x1, x2⟩ := sbm_half.mp hx
    have ih := cz_mono k (M / 2) (s / 2) (x / 2) (by omega) s2 x2 (by omega)
    rw [cz, cz]
    by_cases q : M % 2 = 1
    · rw [if_pos q, if_pos q]
      by_cases e : s / 2 = x / 2
      · rw [e]; omega
      · have := ih (by omega); omega
    · rw [if_neg q, if_neg q]
      refine ih ?_
      have a1 : s % 2 = 0 := by
        rcases Nat.mod_two_eq_zero_or_one s with h9 | h9
        · exact h9
        · exact absurd (s1 h9) q
      have a2 : x % 2 = 0 := by
        rcases Nat.mod_two_eq_zero_or_one x with h9 | h9
        · exact h9
        · exact absurd (x1 h9) q
      omega
theorem Bst.no {t : List Int} {M s : Nat} {v : Int} (h : Bst t M s v) (n : ¬ okB t s) : Bst t M (s + 1) v := by
  rcases h with ⟨a, b⟩ | ⟨b, b1, b2, b3, b4, b5⟩
  · refine Or.inl ⟨a, fun x hx hl => ?_⟩
    by_cases e : x = s
    · rw [e]; exact n
    · exact b x hx (by omega)
  · refine Or.inr ⟨b, b1, by omega, b3, b4, fun x hx hl ho => ?_⟩
    by_cases e : x = s
    · rw [e] at ho; exact absurd ho n
    · exact b5 x hx (by omega) ho
theorem Bst.big {t : List Int} {M s b : Nat} (h : Bst t M s (b : Int)) (n : pc30 b ≤ pc30 s) : Bst t M (s + 1) (b : Int) := by
  rcases h with ⟨a, -⟩ | ⟨b', b1, b2, b3, b4, b5⟩
  · omega
  · have e : b' = b := by omega
    subst e
    refine Or.inr ⟨b', b1, by omega, b3, rfl, fun x hx hl ho => ?_⟩
    by_cases e : x = s
    · rw [e]; omega
    · exact b5 x hx (by omega) ho
theorem Bst.yes {t : List Int} {M s : Nat} {v : Int} (h : Bst t M s v) (o : okB t s) (hs : sbm s M) (n : v = -1 ∨ ∃ b : Nat, v = (b : Int) ∧ pc30 s < pc30 b) : Bst t M (s + 1) (s : Int) := by
  refine Or.inr ⟨s, hs, by omega, o, rfl, fun x hx hl ho => ?_⟩
  by_cases e : x = s
  · rw [e]; omega
  · rcases h with ⟨a, b⟩ | ⟨b, b1, b2, b3, b4, b5⟩
    · exact absurd ho (b x hx (by omega))
    · rcases n with n | ⟨b', n1, n2⟩
      · omega
      · have e2 : b' = b := by omega
        subst e2
        have := b5 x hx (by omega) ho
        omega
theorem Bst.skip {t : List Int} {M s n : Nat} {v : Int} (h : Bst t M (s + 1) v) (hn : s < n) (hx : ∀ x, sbm x M → s < x → n ≤ x) : Bst t M n v := by
  have k : ∀ x, sbm x M → x < n → x < s + 1 := fun x h1 h2 => by
    by_cases h9 : s < x
    · have := hx x h1 h9; omega
    · omega
  rcases h with ⟨a, b⟩ | ⟨b, b1, b2, b3, b4, b5⟩
  · exact Or.inl ⟨a, fun x h1 h2 => b x h1 (k x h1 h2)⟩
  · exact Or.inr ⟨b, b1, by omega, b3, b4, fun x h1 h2 => b5 x h1 (k x h1 h2)⟩
theorem mnl_ok {t : List Int} {g0 : Gx} {z M : Nat} (hD : okD (pD t)) (hC : ∀ b : Nat, b < 1073741824 → ¬ TM (pD t (b : Int)) → ∃ gc, HsC (pD t (b : Int)) (pD t (b : Int)).length gc) (hz : g0 92 9 = (z : Int)) (hz2 : z ≤ 160) (hE : ∀ G, AGr g0 G → EncR G 4 0 z (pD t)) (hM : M < 1073741824) (h6 : pc30 M ≤ 6) (K : Int → Gx → Option (Int × Gx)) : ∀ (k s n : Nat) (v : Int) (G : Gx), sbm s M → s ≤ M → 64 ≤ cz 30 M s + k → k < n → AGr g0 G → Bst t M s v → ∃ v' G', Md_mended_l135 (M : Int) K n v (s : Int) 1 G = K v' G' ∧ AGr g0 G' ∧ Bst t M (M + 1) v' := by
  have hlim : ∀ s, cz 30 M s < 64 := fun s => Nat.lt_of_lt_of_le (cz_lt 30 M s) (show 2 ^ pcn 30 M ≤ 2 ^ 6 from Nat.pow_le_pow_right (by decide) h6)
  intro k
  induction k with
  | zero => intro s n v G hs hsM hk; have := hlim s; omega
  | succ k ih =>
    intro s n v G hs hsM hk hn ag hb
    obtain ⟨n, rfl⟩ : ∃ q, n = q + 1 := ⟨n - 1, by omega⟩
    have nxt : ∀ (w : Int) (H : Gx), AGr g0 H → Bst t M (s + 1) w → ∃ v' G', (if jand (wr ((s : Int) - (M : Int))) (M : Int) = 0 then Md_mended_l135 (M : Int) K n w (jand (wr ((s : Int) - (M : Int))) (M : Int)) 0 H else Md_mended_l135 (M : Int) K n w (jand (wr ((s : Int) - (M : Int))) (M : Int)) 1 H) = K v' G' ∧ AGr g0 G' ∧ Bst t M (M + 1) v' := by
      intro w H a b
      rw [jand_sub hsM hM]
      obtain ⟨m, rfl⟩ : ∃ q, n = q + 1 := ⟨n - 1, by omega⟩
      by_cases e : s = M
      · subst e
        have e0 : (s + 2 ^ 32 - s) &&& s = 0 := by
          have := jand_sub (Nat.le_refl s) hM
          rw [show (s : Int) - (s : Int) = ((0 : Nat) : Int) by omega, wr_id (by omega) (by omega), jand_nn (by omega) (by omega), Nat.zero_and] at this
          omega
        rw [e0, if_pos (show ((0 : Nat) : Int) = 0 from rfl), Md_mended_l135, if_pos (show (0 : Int) = 0 from rfl)]
        exact ⟨w, H, rfl, a, b⟩
      · obtain ⟨p1, p2, p3⟩ := sbm_next 32 (show M < 2 ^ 32 by omega) (by omega) hs
        have p4 : (s + 2 ^ 32 - M) &&& M ≤ M := Nat.and_le_right
        rw [if_neg (by omega)]
        have := cz_mono 30 M s _ (by omega) hs p1 p4 p2
        exact ih _ (m + 1) w H p1 p4 (by omega) (by omega) a (b.skip p2 p3)
    obtain ⟨r, G1, t1, t2, t3⟩ := trial_ok hD hC hz hz2 hE ag (s := s) (by omega)
    have hd := Md_mended_l135.eq_2 (M : Int) K v (s : Int) 1 G n
    rw [if_neg (show ¬ (1 : Int) = 0 by decide)] at hd
    by_cases c1 : v = -1
    · rw [if_pos c1, t1, ob_eq] at hd
      simp only at hd
      rw [hd]
      rcases t3 with ⟨q1, q2⟩ | ⟨q1, r2, G2, q2, q3, q4⟩
      · rw [if_pos q1]
        exact nxt v G1 t2 (hb.no q2)
      · rw [if_neg (fun h9 => h9 q1), q2, ob_eq]
        simp only [lett_eq]
        rcases q4 with ⟨q4, q5⟩ | ⟨q4, q5⟩
        · rw [q4, if_pos (show (0 : Int) = 0 from rfl)]
          exact nxt v G2 q3 (hb.no q5)
        · rw [q4, if_neg (show ¬ (1 : Int) = 0 by decide)]
          exact nxt (s : Int) G2 q3 (hb.yes q5 hs (Or.inl c1))
    · obtain ⟨b, hbv, hbM⟩ : ∃ b : Nat, v = (b : Int) ∧ b < s := by
        rcases hb with ⟨a, -⟩ | ⟨b, -, b2, -, b4, -⟩
        · exact absurd a c1
        · exact ⟨b, b4, b2⟩
      rw [if_neg c1, ones_ok (by omega), ob_eq] at hd
      simp only at hd
      rw [hbv, ones_ok (by omega), ob_eq] at hd
      simp only at hd
      rw [hbv, hd]
      rw [hbv] at hb
      by_cases c2 : pc30 b ≤ pc30 s
      · rw [if_pos (by omega)]
        exact nxt (b : Int) G ag (hb.big c2)
      · rw [if_neg (by omega), t1, ob_eq]
        simp only
        rcases t3 with ⟨q1, q2⟩ | ⟨q1, r2, G2, q2, q3, q4⟩
        · rw [if_pos q1]
          exact nxt (b : Int) G1 t2 (hb.no q2)
        · rw [if_neg (fun h9 => h9 q1), q2, ob_eq]
          simp only [lett_eq]
          rcases q4 with ⟨q4, q5⟩ | ⟨q4, q5⟩
          · rw [q4, if_pos (show (0 : Int) = 0 from rfl)]
            exact nxt (b : Int) G2 q3 (hb.no q5)
          · rw [q4, if_neg (show ¬ (1 : Int) = 0 by decide)]
            exact nxt (s : Int) G2 q3 (hb.yes q5 hs (Or.inr ⟨b, rfl, by omega⟩))
