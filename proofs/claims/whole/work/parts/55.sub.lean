/-! sub-masks in their order. Own text. -/
def sbm (s c : Nat) : Prop := ∀ i, s.testBit i = true → c.testBit i = true
theorem tb0 (n : Nat) : n.testBit 0 = decide (n % 2 = 1) := by simp [Nat.testBit_zero]
theorem tbs (n i : Nat) : n.testBit (i + 1) = (n / 2).testBit i := by rw [Nat.testBit_succ]
theorem sbm_half {s c : Nat} : sbm s c ↔ (s % 2 = 1 → c % 2 = 1) ∧ sbm (s / 2) (c / 2) := by
  constructor
  · intro h
    refine ⟨fun h1 => ?_, fun i hi => ?_⟩
    · have := h 0 (by rw [tb0]; simpa using h1)
      rw [tb0] at this; simpa using this
    · have := h (i + 1) (by rw [tbs]; exact hi)
      rw [tbs] at this; exact this
  · intro ⟨h1, h2⟩ i hi
    cases i with
    | zero => rw [tb0] at hi ⊢; simp only [decide_eq_true_eq] at hi ⊢; exact h1 hi
    | succ i => rw [tbs] at hi ⊢; exact h2 i hi
theorem and_half (a b : Nat) : (a &&& b) / 2 = (a / 2) &&& (b / 2) ∧ (a &&& b) % 2 = (a % 2) * (b % 2) := by
  constructor
  · apply Nat.eq_of_testBit_eq
    intro i
    rw [← tbs, Nat.testBit_and, Nat.testBit_and, tbs, tbs]
  · have h := Nat.testBit_and a b 0
    rw [tb0, tb0, tb0] at h
    rcases Nat.mod_two_eq_zero_or_one a with ha | ha <;> rcases Nat.mod_two_eq_zero_or_one b with hb | hb <;> rcases Nat.mod_two_eq_zero_or_one (a &&& b) with hc | hc <;> simp_all
theorem sbm_le {s c : Nat} : ∀ k, s < 2 ^ k → sbm s c → s ≤ c := by
  intro k
  induction k generalizing s c with
  | zero => intro h _; simp at h; omega
  | succ k ih =>
    intro h hs
    obtain ⟨h1, h2⟩ := sbm_half.mp hs
    have := ih (s := s / 2) (c := c / 2) (by rw [Nat.pow_succ] at h; omega) h2
    omega
theorem sbm_and {s c : Nat} : ∀ k, c < 2 ^ k → s ≤ c → sbm s c → (s + 2 ^ k - 1 - c) &&& c = s := by
  intro k
  induction k generalizing s c with
  | zero => intro h h0 _; simp at h; subst h; simp; omega
  | succ k ih =>
    intro h h0 hs
    obtain ⟨h1, h2⟩ := sbm_half.mp hs
    have hp : 2 ^ (k + 1) = 2 * 2 ^ k := by rw [Nat.pow_succ]; omega
    have i1 := ih (s := s / 2) (c := c / 2) (by omega) (by omega) h2
    obtain ⟨a1, a2⟩ := and_half (s + 2 ^ (k + 1) - 1 - c) c
    have e1 : (s + 2 ^ (k + 1) - 1 - c) / 2 = s / 2 + 2 ^ k - 1 - c / 2 := by omega
    rw [e1, i1] at a1
    have e2 : (s + 2 ^ (k + 1) - 1 - c) % 2 * (c % 2) = s % 2 := by
      rcases Nat.mod_two_eq_zero_or_one c with hc | hc
      · rw [hc]
        rcases Nat.mod_two_eq_zero_or_one s with q | q
        · omega
        · exact absurd (h1 q) (by omega)
      · rw [hc]; omega
    omega
/-- the next sub-mask: a sub-mask, greater, none between -/
theorem sbm_next {s c : Nat} : ∀ k, c < 2 ^ k → s < c → sbm s c → sbm ((s + 2 ^ k - c) &&& c) c ∧ s < (s + 2 ^ k - c) &&& c ∧ ∀ x, sbm x c → s < x → ((s + 2 ^ k - c) &&& c) ≤ x := by
  intro k
  induction k generalizing s c with
  | zero => intro h h0 _; simp at h; omega
  | succ k ih =>
    intro h h0 hs
    obtain ⟨h1, h2⟩ := sbm_half.mp hs
    have hp : 2 ^ (k + 1) = 2 * 2 ^ k := by rw [Nat.pow_succ]; omega
    obtain ⟨a1, a2⟩ := and_half (s + 2 ^ (k + 1) - c) c
    refine ⟨fun i hi => by rw [Nat.testBit_and] at hi; simp only [Bool.and_eq_true] at hi; exact hi.2, ?_⟩
    have hsl := sbm_le (k := k) (s := s / 2) (c := c / 2) (by omega) h2
    by_cases c1 : c % 2 = 1 ∧ s % 2 = 0
    · have e1 : (s + 2 ^ (k + 1) - c) / 2 = s / 2 + 2 ^ k - 1 - c / 2 := by omega
      have i1 := sbm_and k (s := s / 2) (c := c / 2) (by omega) hsl h2
      rw [e1, i1] at a1
      have e2 : (s + 2 ^ (k + 1) - c) % 2 * (c % 2) = 1 := by rw [c1.1]; omega
      rw [e2] at a2
      exact ⟨by omega, fun x _ hx => by omega⟩
    · have e1 : (s + 2 ^ (k + 1) - c) / 2 = s / 2 + 2 ^ k - c / 2 := by
        rcases Nat.mod_two_eq_zero_or_one s with q | q
        · omega
        · have := h1 q; omega
      have e2 : (s + 2 ^ (k + 1) - c) % 2 * (c % 2) = 0 := by
        rcases Nat.mod_two_eq_zero_or_one c with q | q
        · rw [q]; omega
        · rw [q]; omega
      rw [e2] at a2
      have hlt : s / 2 < c / 2 := by
        rcases Nat.mod_two_eq_zero_or_one s with q | q
        · omega
        · have := h1 q; omega
      obtain ⟨-, j2, j3⟩ := ih (s := s / 2) (c := c / 2) (by omega) hlt h2
      rw [e1] at a1
      refine ⟨by omega, fun x hx hx2 => ?_⟩
      obtain ⟨x1, x2⟩ := sbm_half.mp hx
      have : s / 2 < x / 2 := by
        rcases Nat.mod_two_eq_zero_or_one x with q | q
        · rcases Nat.mod_two_eq_zero_or_one s with q2 | q2 <;> omega
        · have := x1 q
          have : s % 2 = 1 := by omega
          omega
      have := j3 (x / 2) x2 this
      omega
theorem jand_sub {s c : Nat} (h : s ≤ c) (hc : c < 1073741824) : jand (wr ((s : Int) - (c : Int))) (c : Int) = (((s + 2 ^ 32 - c) &&& c : Nat) : Int) := by
  rw [wr_id (by omega) (by omega)]
  by_cases c0 : s = c
  · subst c0
    rw [show (s : Int) - (s : Int) = ((0 : Nat) : Int) by omega, jand_nn (by omega) (by omega)]
    have : (s + 2 ^ 32 - s) &&& s = 0 := by
      rw [show s + 2 ^ 32 - s = 2 ^ 32 by omega, Nat.and_comm]
      apply Nat.eq_of_testBit_eq
      intro i
      rw [Nat.testBit_and, Nat.testBit_two_pow]
      by_cases hi : 32 = i
      · subst hi
        rw [Nat.testBit_lt_two_pow (show s < 2 ^ 32 by omega)]
        simp
      · simp [hi]
    rw [this]
    simp
  · unfold jand
    have e1 : (Int32.ofInt ((s : Int) - (c : Int))).toBitVec.toNat = s + 2 ^ 32 - c := by
      rw [Int32.toBitVec_ofInt, BitVec.toNat_ofInt]
      omega
    have e : (Int32.ofInt ((s : Int) - (c : Int)) &&& Int32.ofInt (c : Int)).toBitVec.toNat = (s + 2 ^ 32 - c) &&& c := by
      rw [Int32.toBitVec_and, BitVec.toNat_and, e1, i32_bv, i32_tn (by omega)]
    have l : (s + 2 ^ 32 - c) &&& c ≤ c := Nat.and_le_right
    rw [← Int32.toInt_toBitVec, i32_nn (by omega), e]
/-- how many ones -/
def pcn (k b : Nat) : Nat := ((List.range k).filter (fun i => b.testBit i)).length
theorem pcn_succ (k b : Nat) : pcn (k + 1) b = pcn k b + if b.testBit k = true then 1 else 0 := by
  unfold pcn
  rw [List.range_succ, List.filter_append, List.length_append]
  congr 1
  by_cases h : b.testBit k = true
  · simp [h]
  · simp [h]
theorem pcn_half (k b : Nat) : pcn (k + 1) b = pcn k (b / 2) + b % 2 := by
  induction k with
  | zero =>
    rw [pcn_succ]
    have : pcn 0 b = 0 ∧ pcn 0 (b / 2) = 0 := ⟨rfl, rfl⟩
    rw [this.1, this.2, tb0]
    rcases Nat.mod_two_eq_zero_or_one b with h | h <;> simp [h]
  | succ k ih =>
    rw [pcn_succ, ih, pcn_succ, tbs]
    omega
theorem pcn_zero (k : Nat) : pcn k 0 = 0 := by
  induction k with
  | zero => rfl
  | succ k ih => rw [pcn_half, show 0 / 2 = 0 from rfl, ih]
theorem pcn_low {b : Nat} : ∀ k, b < 2 ^ k → 0 < b → pcn k b = pcn k (b &&& (b - 1)) + 1 ∧ (b &&& (b - 1)) < b := by
  intro k
  induction k generalizing b with
  | zero => intro h h0; simp at h; omega
  | succ k ih =>
    intro h h0
    have hp : 2 ^ (k + 1) = 2 * 2 ^ k := by rw [Nat.pow_succ]; omega
    obtain ⟨a1, a2⟩ := and_half b (b - 1)
    rw [pcn_half, pcn_half, a1, a2]
    rcases Nat.mod_two_eq_zero_or_one b with q | q
    · have e : (b - 1) / 2 = b / 2 - 1 := by omega
      obtain ⟨i1, i2⟩ := ih (b := b / 2) (by omega) (by omega)
      rw [e] at a1 ⊢
      rw [i1, q]
      rw [q] at a2
      refine ⟨by omega, by omega⟩
    · have e : (b - 1) / 2 = b / 2 := by omega
      rw [e, Nat.and_self] at a1 ⊢
      have e2 : (b - 1) % 2 = 0 := by omega
      rw [q, e2] at a2 ⊢
      refine ⟨by omega, by omega⟩
theorem ones_ok {b : Nat} (hb : b < 1073741824) (g : Gx) : Md_ones (b : Int) g = some ((pc30 b : Int), g) := by
  unfold Md_ones
  have lp : ∀ (k v x n : Nat), x < 1073741824 → pcn 30 x = k → k < n → v + k ≤ 100 → Md_ones_l4 (fun x1 g2 => some (x1, g2)) n (v : Int) (x : Int) g = some (((v + k : Nat) : Int), g) := by
    intro k
    induction k with
    | zero =>
      intro v x n hx hk hn hv
      obtain ⟨n, rfl⟩ : ∃ q, n = q + 1 := ⟨n - 1, by omega⟩
      have : x = 0 := by
        by_cases h9 : x = 0
        · exact h9
        · have := (pcn_low 30 (by omega) (show 0 < x by omega)).1
          omega
      subst this
      rw [Md_ones_l4, if_pos (by omega)]
      rfl
    | succ k ih =>
      intro v x n hx hk hn hv
      obtain ⟨n, rfl⟩ : ∃ q, n = q + 1 := ⟨n - 1, by omega⟩
      have h0 : 0 < x := by
        by_cases h9 : x = 0
        · subst h9; rw [pcn_zero] at hk; omega
        · omega
      obtain ⟨l1, l2⟩ := pcn_low 30 (by omega) h0
      rw [Md_ones_l4, if_neg (by omega), wr_id (show -2147483648 ≤ (v : Int) + 1 by omega) (by omega), wr_id (show -2147483648 ≤ (x : Int) - 1 by omega) (by omega), show (x : Int) - 1 = ((x - 1 : Nat) : Int) by omega, jand_nn (by omega) (by omega), show (v : Int) + 1 = ((v + 1 : Nat) : Int) by omega, ih (v + 1) (x &&& (x - 1)) n (by omega) (by omega) (by omega) (by omega), show v + 1 + k = v + (k + 1) by omega]
  have le : pcn 30 b ≤ 30 := by
    have := List.length_filter_le (fun i => b.testBit i) (List.range 30)
    rw [List.length_range] at this
    exact this
  have := lp (pcn 30 b) 0 b fu hb rfl (Nat.lt_of_le_of_lt le (fu_big _ (by decide))) (by omega)
  rw [show 0 + pcn 30 b = pc30 b by unfold pcn pc30; omega] at this
  exact this
