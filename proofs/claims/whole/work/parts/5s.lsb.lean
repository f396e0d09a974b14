/-! lost: the class, the sums, the call. Own text. -/
theorem m64_eq {a b : Nat} (ha : a < 64) (hb : b < 64) (h : ∀ t, t < 6 → a.testBit t = b.testBit t) : a = b := by
  apply Nat.eq_of_testBit_eq
  intro t
  by_cases c : t < 6
  · exact h t c
  · have l : 2 ^ 6 ≤ 2 ^ t := Nat.pow_le_pow_right (by decide) (by omega)
    rw [Nat.testBit_lt_two_pow (Nat.lt_of_lt_of_le ha l), Nat.testBit_lt_two_pow (Nat.lt_of_lt_of_le hb l)]
theorem jor_0 {m : Nat} (hm : m < 64) : jor (m : Int) 0 = (m : Int) := by
  have := jor_nn (a := m) (b := 0) (by omega) (by decide)
  rw [Nat.or_zero] at this
  exact this
def ngw (ws : List Int) (lt : Nat) (k : Int) : Nat → Nat
  | 0 => 0
  | i + 1 => ngw ws lt k i + if i < spl ws lt k (fw ws i) ∧ ¬ i < spl ws lt k (tw ws i) then 1 else 0
theorem ngw_le (ws : List Int) (lt : Nat) (k : Int) : ∀ n, ngw ws lt k n ≤ n := by
  intro n
  induction n with
  | zero => exact Nat.le_refl _
  | succ n ih => rw [ngw]; split <;> omega
theorem mskL : ∀ m : Nat, m < 64 → ∀ x : Nat, x < 6 → jand (m : Int) (jxor (jshl 1 (x : Int)) (-1)) = ((m &&& (63 - 2 ^ x) : Nat) : Int) := by decide +kernel
theorem mskM : ∀ x : Nat, x < 6 → ∀ y : Nat, y < 6 → (63 - 2 ^ x).testBit y = decide (y ≠ x) := by decide +kernel
theorem losC {ws : List Int} {k : Nat} (hw : OkW ws) {lt : Nat} (hlt : lt < 6) {kk : Int} (hk0 : 0 ≤ kk) (hk1 : kk < 2147483648) (K : Int → Gx → Option Gx) : ∀ (d i n m : Nat) (G : Gx), i + d = ws.length → d < n → WC ws k G → m < 64 → (∀ y, y < 6 → m.testBit y = hbx ws lt kk i y) → G 60 8 = (ngw ws lt kk i : Int) → ∃ (m' : Nat) (G' : Gx), Rn_goWithLost_l14 (k : Int) (lt : Int) K n (m : Int) (imax 0 (kk - (cnp ws lt i : Int))) (i : Int) G = K (m' : Int) G' ∧ m' < 64 ∧ (∀ y, y < 6 → m'.testBit y = hbx ws lt kk ws.length y) ∧ G' 60 8 = (ngw ws lt kk ws.length : Int) := by
  have l24 := hw.1
  intro d
  induction d with
  | zero =>
    intro i n m G hi hn hG hm hb h8
    obtain ⟨n, rfl⟩ : ∃ q, n = q + 1 := ⟨n - 1, by omega⟩
    obtain rfl : i = ws.length := by omega
    exact ⟨m, G, by rw [Rn_goWithLost_l14, hG.1, if_pos (by omega)], hm, hb, h8⟩
  | succ d ih =>
    intro i n m G hi hn hG hm hb h8
    obtain ⟨n, rfl⟩ : ∃ q, n = q + 1 := ⟨n - 1, by omega⟩
    have il : i < ws.length := by omega
    obtain ⟨-, s1, s2, s3, s4, s5⟩ := wnum hw il
    have nl := ngw_le ws lt kk i
    have cl := cnp_le ws lt i
    rw [Rn_goWithLost_l14, hG.1, if_neg (by omega), hG.2 i il, tp_eq hw il, s1, s2]
    -- those who are halted at this word
    obtain ⟨m1, e1, q1, q2⟩ : ∃ m1 : Nat, (if (if prt ws lt i then (1 : Int) else 0) = 0 then (m : Int) else (if ¬ (imax 0 (kk - (cnp ws lt i : Int))) = 0 then (jor (m : Int) 0) else (jor (m : Int) (jshl 1 (lt : Int))))) = (m1 : Int) ∧ m1 < 64 ∧ ∀ y, y < 6 → m1.testBit y = hb1 ws lt kk i y := by
      by_cases c : prt ws lt i
      · rw [if_pos c, if_neg (show ¬ (1 : Int) = 0 by decide)]
        by_cases c2 : kk ≤ (cnp ws lt i : Int)
        · have e0 : imax 0 (kk - (cnp ws lt i : Int)) = 0 := by unfold imax; split <;> omega
          rw [if_neg (fun h9 => h9 e0), (or_1 hm hlt).1]
          refine ⟨_, rfl, (or_1 hm hlt).2, fun y hy => ?_⟩
          rw [Bool.eq_iff_iff, tb_or1, hb y hy]
          unfold hb1
          rw [Bool.or_eq_true, decide_eq_true_eq]
          exact ⟨fun h9 => h9.imp id (fun h8 => ⟨h8, c, c2⟩), fun h9 => h9.imp id (fun h8 => h8.1)⟩
        · have e0 : ¬ imax 0 (kk - (cnp ws lt i : Int)) = 0 := by unfold imax; split <;> omega
          rw [if_pos e0, jor_0 hm]
          refine ⟨m, rfl, hm, fun y hy => ?_⟩
          rw [hb y hy]
          unfold hb1
          rw [decide_eq_false (fun h9 => c2 h9.2.2), Bool.or_false]
      · rw [if_neg c, if_pos rfl]
        refine ⟨m, rfl, hm, fun y hy => ?_⟩
        rw [hb y hy]
        unfold hb1
        rw [decide_eq_false (fun h9 => c h9.2.1), Bool.or_false]
    have e2 : (if (if prt ws lt i then (1 : Int) else 0) = 0 then (imax 0 (kk - (cnp ws lt i : Int))) else (if ¬ (imax 0 (kk - (cnp ws lt i : Int))) = 0 then (imax 0 (wr ((imax 0 (kk - (cnp ws lt i : Int))) - 1))) else (imax 0 (wr ((imax 0 (kk - (cnp ws lt i : Int))) - 1))))) = imax 0 (kk - (cnp ws lt (i + 1) : Int)) := by
      rw [cnp]
      by_cases c : prt ws lt i
      · simp only [if_pos c, if_neg (show ¬ (1 : Int) = 0 by decide), ite_self]
        have b1 : 0 ≤ imax 0 (kk - (cnp ws lt i : Int)) ∧ imax 0 (kk - (cnp ws lt i : Int)) < 2147483648 := by unfold imax; split <;> omega
        rw [wr_id (by omega) (by omega)]
        unfold imax
        split <;> split <;> (try split) <;> omega
      · simp only [if_neg c, if_true]
        rfl
    rw [e1, lett_eq, e2, lett_eq, has_nn (by omega) (by omega), has_nn (by omega) (by omega), q2 _ s3, q2 _ s4, wr_id (x := (i : Int) + 1) (by omega) (by omega), show (i : Int) + 1 = ((i + 1 : Nat) : Int) by omega]
    have hf := hb1_f hw (lt := lt) (k := kk) il
    have ho := hbx_o (ws := ws) (lt := lt) (k := kk) il
    have nx : ∀ (m2 : Nat) (x : Int), m2 < 64 → (∀ y, y < 6 → m2.testBit y = hbx ws lt kk (i + 1) y) → x = (ngw ws lt kk (i + 1) : Int) → ∃ (m' : Nat) (G' : Gx), Rn_goWithLost_l14 (k : Int) (lt : Int) K n (m2 : Int) (imax 0 (kk - (cnp ws lt (i + 1) : Int))) ((i + 1 : Nat) : Int) (gset G 60 8 x) = K (m' : Int) G' ∧ m' < 64 ∧ (∀ y, y < 6 → m'.testBit y = hbx ws lt kk ws.length y) ∧ G' 60 8 = (ngw ws lt kk ws.length : Int) := fun m2 x h1 h2 h3 => ih (i + 1) n m2 (gset G 60 8 x) (by omega) (by omega) (hG.of (gset_ne (by decide)) (gset_ne (by decide))) h1 h2 (by rw [gs_same]; exact h3)
    have bo : ∀ y, y < 6 → (hb1 ws lt kk i (fw ws i) = true ∨ hb1 ws lt kk i (tw ws i) = true) → (m1 ||| 2 ^ tw ws i).testBit y = hbx ws lt kk (i + 1) y := fun y hy hh => by
      rw [Bool.eq_iff_iff, tb_or1, q2 y hy, hbx_s, Bool.or_eq_true, Bool.and_eq_true, decide_eq_true_eq]
      constructor
      · rintro (h9 | h9)
        · exact Or.inl h9
        · rcases hh with hh | hh
          · exact Or.inr ⟨h9, hh⟩
          · exact Or.inl (by rw [h9]; exact hh)
      · rintro (h9 | h9)
        · exact Or.inl h9
        · exact Or.inr h9.1
    rw [h8, wr_id (x := (ngw ws lt kk i : Int) + 0) (by omega) (by omega), wr_id (x := (ngw ws lt kk i : Int) + 1) (by omega) (by omega)]
    by_cases c1 : hb1 ws lt kk i (fw ws i) = true
    · rw [if_pos c1, if_pos (show ¬ (1 : Int) = 0 by decide), lett_eq, if_pos (show (0 : Int) = 0 from rfl), lett_eq, if_pos (show (0 : Int) = 0 from rfl), lett_eq, if_pos (show (0 : Int) = 0 from rfl), (or_1 q1 s4).1]
      exact nx _ _ (or_1 q1 s4).2 (fun y hy => bo y hy (Or.inl c1)) (by rw [ngw, if_neg (fun h9 => by have := hf.mp c1; omega)]; omega)
    · rw [if_neg c1, if_neg (show ¬ ¬ (0 : Int) = 0 from fun h9 => h9 rfl), lett_eq, if_neg (show ¬ (1 : Int) = 0 by decide)]
      have cf : i < spl ws lt kk (fw ws i) := by
        by_cases h9 : i < spl ws lt kk (fw ws i)
        · exact h9
        · exact absurd (hf.mpr (by omega)) c1
      by_cases c2 : hb1 ws lt kk i (tw ws i) = true
      · rw [if_pos c2, if_pos (show ¬ (1 : Int) = 0 by decide), lett_eq, if_pos (show (0 : Int) = 0 from rfl), lett_eq, if_neg (show ¬ (1 : Int) = 0 by decide), if_neg (show ¬ ¬ (0 : Int) = 0 from fun h9 => h9 rfl), (or_1 q1 s4).1]
        have := ho.mp (by rw [c2]; rfl)
        exact nx _ _ (or_1 q1 s4).2 (fun y hy => bo y hy (Or.inr c2)) (by rw [ngw, if_pos ⟨cf, by omega⟩]; omega)
      · rw [if_neg c2, if_neg (show ¬ ¬ (0 : Int) = 0 from fun h9 => h9 rfl), lett_eq, if_neg (show ¬ (1 : Int) = 0 by decide), lett_eq, if_neg (show ¬ (1 : Int) = 0 by decide), if_pos (show ¬ (1 : Int) = 0 by decide), jor_0 q1]
        have co : i < spl ws lt kk (tw ws i) := by
          by_cases h9 : i < spl ws lt kk (tw ws i)
          · exact h9
          · have := ho.mpr (by omega)
            rw [Bool.or_eq_true] at this
            rcases this with h8 | h8
            · exact absurd h8 c2
            · exact absurd h8 c1
        refine nx m1 _ q1 (fun y hy => ?_) (by rw [ngw, if_neg (fun h9 => h9.2 co)]; omega)
        rw [q2 y hy, hbx_s]
        have : hb1 ws lt kk i (fw ws i) = false := by cases hq : hb1 ws lt kk i (fw ws i); rfl; exact absurd hq c1
        rw [this, Bool.and_false, Bool.or_false]
theorem losC_ok {ws : List Int} {k : Nat} {g : Gx} (hw : OkW ws) (hc : WC ws k g) {lt : Nat} (hlt : lt < 6) {kk : Int} (hk0 : 0 ≤ kk) (hk1 : kk < 2147483648) : ∃ (r : Nat) (g' : Gx), Rn_goWithLost (k : Int) (lt : Int) kk g = some g' ∧ r < 64 ∧ g' 60 7 = (r : Int) ∧ (∀ t, t < 6 → r.testBit t = decide (t ≠ lt ∧ spl ws lt kk t < ws.length)) ∧ g' 60 8 = (ngw ws lt kk ws.length : Int) := by
  unfold Rn_goWithLost
  obtain ⟨m, G, a, b, c, d⟩ := losC (k := k) hw hlt hk0 hk1 (fun x6 g7 => some (gset g7 60 7 (jand x6 (jxor (jshl 1 (lt : Int)) (-1))))) ws.length 0 fu 0 (gset g 60 8 0) (by omega) (Nat.lt_of_le_of_lt hw.1 (fu_big _ (by decide))) (hc.of (gset_ne (by decide)) (gset_ne (by decide))) (by decide) (fun y _ => by rw [Nat.zero_testBit]; rfl) gs_same
  rw [show imax 0 (kk - (cnp ws lt 0 : Int)) = kk by rw [cnp]; unfold imax; split <;> omega, show ((0 : Nat) : Int) = 0 from rfl] at a
  have l : m &&& (63 - 2 ^ lt) < 64 := Nat.lt_of_le_of_lt Nat.and_le_left b
  refine ⟨m &&& (63 - 2 ^ lt), _, a, l, by rw [gs_same, mskL m b lt hlt], fun t ht => ?_, by rw [gs_at (by decide)]; exact d⟩
  rw [Nat.testBit_and, c t ht, mskM lt hlt t ht]
  have := hbx_iff (ws := ws) (lt := lt) (k := kk) (t := t) (i := ws.length) (Nat.le_refl _)
  rw [Bool.eq_iff_iff, Bool.and_eq_true, decide_eq_true_eq, decide_eq_true_eq, this]
  exact ⟨fun h => ⟨h.2, h.1⟩, fun h => ⟨h.2, h.1⟩⟩
/-! sums over the queues -/
def smq (h : Nat → Int) : Nat → Int
  | 0 => 0
  | v + 1 => smq h v + h v
theorem smq_cg {h h' : Nat → Int} : ∀ n, (∀ q, q < n → h q = h' q) → smq h n = smq h' n := by
  intro n
  induction n with
  | zero => intro _; rfl
  | succ n ih => intro e; rw [smq, smq, ih (fun q hq => e q (by omega)), e n (by omega)]
theorem smq_add (h h' : Nat → Int) : ∀ n, smq (fun q => h q + h' q) n = smq h n + smq h' n := by
  intro n
  induction n with
  | zero => rfl
  | succ n ih => rw [smq, smq, smq, ih]; omega
theorem smq_sub (h h' : Nat → Int) : ∀ n, smq (fun q => h q - h' q) n = smq h n - smq h' n := by
  intro n
  induction n with
  | zero => rfl
  | succ n ih => rw [smq, smq, smq, ih]; omega
theorem smq_0 {h : Nat → Int} : ∀ n, (∀ q, q < n → h q = 0) → smq h n = 0 := by
  intro n
  induction n with
  | zero => intro _; rfl
  | succ n ih => intro e; rw [smq, ih (fun q hq => e q (by omega)), e n (by omega)]; rfl
theorem smq_1 {h : Nat → Int} {x : Nat} : ∀ n, x < n → (∀ q, q < n → q ≠ x → h q = 0) → smq h n = h x := by
  intro n
  induction n with
  | zero => intro h1; omega
  | succ n ih =>
    intro h1 e
    rw [smq]
    by_cases c : x = n
    · subst c
      rw [smq_0 x (fun q hq => e q (by omega) (by omega))]; omega
    · rw [ih (by omega) (fun q hq hn => e q (by omega) hn), e n (by omega) (by omega)]; omega
theorem smq_b {h : Nat → Int} {b : Int} (hb : ∀ q, -b ≤ h q ∧ h q ≤ b) : ∀ n : Nat, -(b * n) ≤ smq h n ∧ smq h n ≤ b * n := by
  intro n
  induction n with
  | zero => simp [smq]
  | succ n ih =>
    have := hb n
    rw [smq, show ((n + 1 : Nat) : Int) = (n : Int) + 1 by omega, Int.mul_add]
    omega
def cws (ws : List Int) (S : Nat → Nat) (x : Nat → Nat) : Nat → Nat
  | 0 => 0
  | i + 1 => cws ws S x i + if i < S (x i) then 1 else 0
theorem pcq_min {ws : List Int} {f o s n : Nat} : (pcq ws f o (min s (n + 1)) : Int) = (pcq ws f o (min s n) : Int) + if n < s ∧ fw ws n = f ∧ tw ws n = o then 1 else 0 := by
  by_cases c : n < s
  · rw [show min s (n + 1) = n + 1 by omega, show min s n = n by omega, pcq]
    by_cases c2 : fw ws n = f ∧ tw ws n = o
    · rw [if_pos c2, if_pos ⟨c, c2⟩]; omega
    · rw [if_neg c2, if_neg (fun h9 => c2 h9.2)]; omega
  · rw [show min s (n + 1) = s by omega, show min s n = s by omega, if_neg (fun h9 => c h9.1)]; omega
theorem sum_f {ws : List Int} (hw : OkW ws) (S : Nat → Nat) : ∀ n, n ≤ ws.length → smq (fun q => (pcq ws (q / 6) (q % 6) (min (S (q / 6)) n) : Int)) 36 = (cws ws S (fw ws) n : Int) := by
  intro n
  induction n with
  | zero => intro _; exact smq_0 36 (fun q _ => by rw [Nat.min_zero]; rfl)
  | succ n ih =>
    intro h
    obtain ⟨-, -, -, s3, s4, -⟩ := wnum hw (show n < ws.length by omega)
    rw [smq_cg 36 (fun q _ => pcq_min), smq_add, ih (by omega), cws, smq_1 (x := 6 * fw ws n + tw ws n) 36 (by omega) (fun q hq hn => if_neg (fun h9 => hn (by omega)))]
    have e1 : (6 * fw ws n + tw ws n) / 6 = fw ws n := by omega
    have e2 : (6 * fw ws n + tw ws n) % 6 = tw ws n := by omega
    rw [e1, e2]
    by_cases c : n < S (fw ws n)
    · rw [if_pos ⟨c, rfl, rfl⟩, if_pos c]; omega
    · rw [if_neg (fun h9 => c h9.1), if_neg c]; omega
theorem sum_t {ws : List Int} (hw : OkW ws) (S : Nat → Nat) : ∀ n, n ≤ ws.length → smq (fun q => (pcq ws (q / 6) (q % 6) (min (S (q % 6)) n) : Int)) 36 = (cws ws S (tw ws) n : Int) := by
  intro n
  induction n with
  | zero => intro _; exact smq_0 36 (fun q _ => by rw [Nat.min_zero]; rfl)
  | succ n ih =>
    intro h
    obtain ⟨-, -, -, s3, s4, -⟩ := wnum hw (show n < ws.length by omega)
    rw [smq_cg 36 (fun q _ => pcq_min), smq_add, ih (by omega), cws, smq_1 (x := 6 * fw ws n + tw ws n) 36 (by omega) (fun q hq hn => if_neg (fun h9 => hn (by omega)))]
    have e1 : (6 * fw ws n + tw ws n) / 6 = fw ws n := by omega
    have e2 : (6 * fw ws n + tw ws n) % 6 = tw ws n := by omega
    rw [e1, e2]
    by_cases c : n < S (tw ws n)
    · rw [if_pos ⟨c, rfl, rfl⟩, if_pos c]; omega
    · rw [if_neg (fun h9 => c h9.1), if_neg c]; omega
theorem ngw_eq {ws : List Int} (hw : OkW ws) {lt : Nat} {k : Int} : ∀ n, n ≤ ws.length → ngw ws lt k n + cws ws (spl ws lt k) (tw ws) n = cws ws (spl ws lt k) (fw ws) n := by
  intro n
  induction n with
  | zero => intro _; rfl
  | succ n ih =>
    intro h
    have i := ih (by omega)
    have f1 := sp_F1 hw (lt := lt) (k := k) (i := n) (by omega)
    rw [ngw, cws, cws]
    by_cases c1 : n < spl ws lt k (tw ws n)
    · rw [if_neg (fun h9 => h9.2 c1), if_pos c1, if_pos (f1 c1)]; omega
    · by_cases c2 : n < spl ws lt k (fw ws n)
      · rw [if_pos ⟨c2, c1⟩, if_neg c1, if_pos c2]; omega
      · rw [if_neg (fun h9 => c2 h9.1), if_neg c1, if_neg c2]; omega
theorem sum_q {ws : List Int} (hw : OkW ws) {lt : Nat} {k : Int} : smq (fun q => qv ws (spl ws lt k) (q / 6) (q % 6)) 36 = (ngw ws lt k ws.length : Int) := by
  have a := sum_f hw (spl ws lt k) ws.length (Nat.le_refl _)
  have b := sum_t hw (spl ws lt k) ws.length (Nat.le_refl _)
  have c := ngw_eq hw (lt := lt) (k := k) ws.length (Nat.le_refl _)
  have d := smq_sub (fun q => (pcq ws (q / 6) (q % 6) (min (spl ws lt k (q / 6)) ws.length) : Int)) (fun q => (pcq ws (q / 6) (q % 6) (min (spl ws lt k (q % 6)) ws.length) : Int)) 36
  rw [a, b] at d
  have e : smq (fun q => qv ws (spl ws lt k) (q / 6) (q % 6)) 36 = smq (fun q => (pcq ws (q / 6) (q % 6) (min (spl ws lt k (q / 6)) ws.length) : Int) - (pcq ws (q / 6) (q % 6) (min (spl ws lt k (q % 6)) ws.length) : Int)) 36 := smq_cg 36 (fun q _ => by
    have h1 := spl_le ws lt k (q / 6)
    have h2 := spl_le ws lt k (q % 6)
    rw [show min (spl ws lt k (q / 6)) ws.length = spl ws lt k (q / 6) by omega, show min (spl ws lt k (q % 6)) ws.length = spl ws lt k (q % 6) by omega]
    rfl)
  rw [e, d]
  omega
theorem bitsR {ws : List Int} {k : Nat} {g : Gx} (hw : OkW ws) {lt : Nat} {kk : Int} {P : Nat → Nat} (hR : RnR ws k P g) (hS : ∀ t, t < 6 → P t = spl ws lt kk t) (c4 c8 : Int) (K : Int → Gx → Option (Int × Gx)) : ∀ (d t n m : Nat), t + d = 6 → d < n → m < 64 → (∀ y, y < 6 → m.testBit y = decide (y < t ∧ y ≠ lt ∧ spl ws lt kk y < ws.length)) → ∃ r : Nat, Md_lost_l126 (k : Int) (lt : Int) c4 c8 K n (m : Int) (t : Int) g = K (r : Int) g ∧ r < 64 ∧ ∀ y, y < 6 → r.testBit y = decide (y ≠ lt ∧ spl ws lt kk y < ws.length) := by
  have h30 := hR.1.1
  intro d
  induction d with
  | zero =>
    intro t n m ht hn hm hb
    obtain ⟨n, rfl⟩ : ∃ q, n = q + 1 := ⟨n - 1, by omega⟩
    refine ⟨m, by rw [Md_lost_l126, if_pos (by omega)], hm, fun y hy => ?_⟩
    rw [hb y hy]
    congr 1
    exact propext ⟨fun h => h.2, fun h => ⟨by omega, h⟩⟩
  | succ d ih =>
    intro t n m ht hn hm hb
    obtain ⟨n, rfl⟩ : ∃ q, n = q + 1 := ⟨n - 1, by omega⟩
    have nx : ∀ m2 : Nat, m2 < 64 → (∀ y, y < 6 → m2.testBit y = decide (y < t + 1 ∧ y ≠ lt ∧ spl ws lt kk y < ws.length)) → ∃ r : Nat, Md_lost_l126 (k : Int) (lt : Int) c4 c8 K n (m2 : Int) ((t + 1 : Nat) : Int) g = K (r : Int) g ∧ r < 64 ∧ ∀ y, y < 6 → r.testBit y = decide (y ≠ lt ∧ spl ws lt kk y < ws.length) := fun m2 h1 h2 => ih (t + 1) n m2 (by omega) (by omega) h1 h2
    rw [Md_lost_l126, if_neg (by omega), wr_id (x := (t : Int) + 1) (by omega) (by omega), show (t : Int) + 1 = ((t + 1 : Nat) : Int) by omega, jor_0 hm]
    have no : ¬ (t ≠ lt ∧ spl ws lt kk t < ws.length) → ∀ y, y < 6 → m.testBit y = decide (y < t + 1 ∧ y ≠ lt ∧ spl ws lt kk y < ws.length) := fun hn y hy => by
      rw [hb y hy]
      congr 1
      refine propext ⟨fun h => ⟨by omega, h.2⟩, fun h => ?_⟩
      by_cases e : y = t
      · rw [e] at h; exact absurd h.2 hn
      · exact ⟨by omega, h.2⟩
    by_cases c : t = lt
    · rw [if_pos (by omega)]
      exact nx m hm (no (fun h9 => h9.1 c))
    · have sl := spl_le ws lt kk t
      rw [if_neg (by omega), if_pos (by omega), show wr (wr (6 * (k : Int)) + (t : Int)) = ((6 * k + t : Nat) : Int) by simp (disch := omega) only [wr_id]; omega, if_pos (by omega), Int.toNat_natCast, Int.toNat_natCast, (hR.1.2 t (by omega)).1, hR.2.1 t (by omega), lk_len' hw, hS t (by omega)]
      by_cases c2 : spl ws lt kk t < ws.length
      · have pr := (sp_F3 hw c2).1
        have m2 := cnp_mono (ws := ws) (t := t) (a := spl ws lt kk t + 1) (ws.length - (spl ws lt kk t + 1))
        rw [show spl ws lt kk t + 1 + (ws.length - (spl ws lt kk t + 1)) = ws.length by omega, cnp, if_pos pr] at m2
        rw [if_neg (by omega), (or_1 hm (show t < 6 by omega)).1]
        refine nx _ (or_1 hm (by omega)).2 (fun y hy => ?_)
        rw [Bool.eq_iff_iff, tb_or1, hb y hy, decide_eq_true_eq, decide_eq_true_eq]
        constructor
        · rintro (h | rfl)
          · exact ⟨by omega, h.2⟩
          · exact ⟨by omega, c, c2⟩
        · rintro h
          by_cases e : y = t
          · exact Or.inr e
          · exact Or.inl ⟨by omega, h.2⟩
      · rw [show spl ws lt kk t = ws.length by omega, if_pos (by omega)]
        exact nx m hm (no (fun h9 => c2 h9.2))
theorem sumR {h : Nat → Int} {g : Gx} (he : ∀ q, q < 36 → g 122 q = h q) (hb : ∀ q, -24 ≤ h q ∧ h q ≤ 24) (c4 c7 : Int) (K : Int → Gx → Option (Int × Gx)) : ∀ (d v n : Nat), v + d = 36 → d < n → Md_lost_l183 c4 c7 K n (smq h v) (v : Int) g = K (smq h 36) g := by
  intro d
  induction d with
  | zero =>
    intro v n hv hn
    obtain ⟨n, rfl⟩ : ∃ q, n = q + 1 := ⟨n - 1, by omega⟩
    rw [Md_lost_l183, if_pos (by omega), show v = 36 by omega]
  | succ d ih =>
    intro v n hv hn
    obtain ⟨n, rfl⟩ : ∃ q, n = q + 1 := ⟨n - 1, by omega⟩
    have b1 := smq_b hb v
    have b2 := hb v
    have nx := ih (v + 1) n (by omega) (by omega)
    rw [smq] at nx
    rw [Md_lost_l183, if_neg (by omega), if_pos (by omega), Int.toNat_natCast, he v (by omega), wr_id (x := (v : Int) + 1) (by omega) (by omega), wr_id (x := smq h v + h v) (by omega) (by omega), show (v : Int) + 1 = ((v + 1 : Nat) : Int) by omega]
    exact nx
theorem st_lost {T : Nat} {t pt : List Int} {u : Int} {g : Gx} (h : Inv T t pt u g) (hT : T < 80000) (a1 a2 a3 a4 : Int) (o3 : okI a3) : ∃ r g1 g2, Op_lost a1 a2 a3 a4 g = some (r, g1) ∧ Md_lost a1 a2 a3 a4 g1 = some (r, g2) ∧ Inv (T + 2) t pt u g2 := by
  by_cases c1 : 0 ≤ a1 ∧ a1 ≤ 29
  · have n1 : ¬ Op_isHistory a1 = 0 := fun h9 => isHistory_iff.mp h9 c1
    have n2 : ¬ Md_isHistory a1 = 0 := fun h9 => mdHistory_iff.mp h9 c1
    by_cases c2 : 0 ≤ a2 ∧ a2 ≤ 5
    · have m1 : ¬ Op_isTalker a2 = 0 := fun h9 => isTalker_iff.mp h9 c2
      have m2 : ¬ Md_isOne a2 = 0 := fun h9 => mdOne_iff.mp h9 c2
      by_cases c3 : a3 < 0
      · unfold Op_lost Md_lost
        simp only [if_neg n1, if_neg n2, if_neg m1, if_neg m2, if_pos c3]
        exact ⟨-2, g, g, rfl, rfl, h.more (by omega)⟩
      · by_cases c4 : 0 ≤ a4 ∧ a4 ≤ 1
        · have n3 : ¬ Md_in a4 0 1 = 0 := fun h9 => in_iff.mp h9 c4
          rcases hl_ok h hT a1 with ⟨r, g1, g2, a, b, c, d⟩ | ⟨g1, a, b, ⟨b1, b2, b3, b4, b5, b6⟩, c⟩
          · unfold Op_lost Md_lost
            simp only [if_neg n1, if_neg n2, if_neg m1, if_neg m2, if_neg c3, if_neg (show ¬ a4 < 0 by omega), if_pos c4.2, if_pos n3]
            refine ⟨r, g1, g2, ?_, ?_, d⟩
            · rw [b, ob_eq]; simp only; rw [if_neg a]
            · rw [c, ob_eq]; simp only; rw [if_neg a]
          · obtain ⟨k, rfl⟩ := Int.eq_ofNat_of_zero_le c1.1
            obtain ⟨lt, rfl⟩ := Int.eq_ofNat_of_zero_le c2.1
            have hk : k < (pD t u).length := by omega
            have hw := ws_ok b4 hk
            obtain ⟨r, g2, e1, e2, e3, e4, e5⟩ := losC_ok hw (ws_c b4 b3.2.2.2 hk) (lt := lt) (by omega) (kk := a3) (by omega) o3.2
            have i2 := b1.fr ((fr_Rn_goWithLost _ _ _ _ _ e1).cl (by decide))
            obtain ⟨g3, y, z, w, -⟩ := c g2 i2
            obtain ⟨g4, g5, f1, f2, f3, f4, f5, f6⟩ := begR_ok b4 w hk
            obtain ⟨p1, p2, p3, p4⟩ := P0_ok (gl (pD t u) k).2
            have sf0 : SfL (gl (pD t u) k).2 lt a3 (P0 (gl (pD t u) k).2) := fun x hx => by
              obtain ⟨q1, q2, q3, q4⟩ := nxt_ok (ws := (gl (pD t u) k).2) (t := x) (p := 0) (by omega)
              unfold P0
              by_cases e : nxt (gl (pD t u) k).2 x 0 ≤ spl (gl (pD t u) k).2 lt a3 x
              · exact e
              · exact absurd (sp_F3 hw (lt := lt) (k := a3) (t := x) (by omega)).1 (q4 _ (by omega) (by omega))
            obtain ⟨P', G', s1, s2, s3, s4⟩ := losR (k := k) hw (lt := lt) (kk := a3) a4 (fun g9 => Md_lost_l126 (k : Int) (lt : Int) a4 0 (fun x10 g11 => Md_lost_l183 a4 x10 (fun x12 g13 => if ¬ a4 = 0 then some (x12, g13) else some (x10, g13)) fu 0 0 g11) fu 0 0 g9) (2 * (gl (pD t u) k).2.length) fu (P0 (gl (pD t u) k).2) g5 (by omega) (Nat.lt_of_le_of_lt (show 2 * (gl (pD t u) k).2.length + 2 ≤ 50 by have := hw.1; omega) (fu_big _ (by decide))) p1 sf0 f3 (fun x hx => f6 _ (by omega))
            obtain ⟨r', x1, x2, x3⟩ := bitsR hw s2 s4 a4 0 (fun x10 g11 => Md_lost_l183 a4 x10 (fun x12 g13 => if ¬ a4 = 0 then some (x12, g13) else some (x10, g13)) fu 0 0 g11) 6 0 fu 0 (by omega) (fu_big _ (by decide)) (by decide) (fun y hy => by rw [Nat.zero_testBit]; simp)
            have er : r' = r := m64_eq x2 e2 (fun y hy => by rw [x3 y hy, e4 y hy])
            have qe : ∀ q, q < 36 → G' 122 q = qv (gl (pD t u) k).2 (spl (gl (pD t u) k).2 lt a3) (q / 6) (q % 6) := fun q hq => by
              have e0 : q = 6 * (q / 6) + q % 6 := by omega
              by_cases e : q / 6 = q % 6
              · have := s3 (q / 6) (by omega)
                rw [show 6 * (q / 6) + q / 6 = q by omega] at this
                rw [this, e]
                unfold qv
                omega
              · have := s2.2.2 (q / 6) (q % 6) (by omega) (by omega) e
                rw [← e0] at this
                rw [this]
                unfold qv
                rw [s4 _ (by omega), s4 _ (by omega)]
            have qb : ∀ q, -24 ≤ qv (gl (pD t u) k).2 (spl (gl (pD t u) k).2 lt a3) (q / 6) (q % 6) ∧ qv (gl (pD t u) k).2 (spl (gl (pD t u) k).2 lt a3) (q / 6) (q % 6) ≤ 24 := fun q => by
              have l24 := hw.1
              have d1 := spl_le (gl (pD t u) k).2 lt a3 (q / 6)
              have d2 := spl_le (gl (pD t u) k).2 lt a3 (q % 6)
              have d3 := pcq_le (gl (pD t u) k).2 (q / 6) (q % 6) (spl (gl (pD t u) k).2 lt a3 (q / 6))
              have d4 := pcq_le (gl (pD t u) k).2 (q / 6) (q % 6) (spl (gl (pD t u) k).2 lt a3 (q % 6))
              unfold qv
              omega
            have x4 := sumR qe qb a4 (r' : Int) (fun x12 g13 => if ¬ a4 = 0 then some (x12, g13) else some ((r' : Int), g13)) 36 0 fu (by omega) (fu_big _ (by decide))
            rw [show smq (fun q => qv (gl (pD t u) k).2 (spl (gl (pD t u) k).2 lt a3) (q / 6) (q % 6)) 0 = 0 from rfl, sum_q hw, show ((0 : Nat) : Int) = 0 from rfl] at x4
            rw [show ((0 : Nat) : Int) = 0 from rfl, x4] at x1
            rw [x1] at s1
            have em : Md_lost (k : Int) (lt : Int) a3 a4 g2 = if ¬ a4 = 0 then some ((ngw (gl (pD t u) k).2 lt a3 (gl (pD t u) k).2.length : Int), G') else some ((r' : Int), G') := by
              unfold Md_lost
              simp only [if_neg n2, if_neg m2, if_neg c3, if_pos n3]
              rw [y, ob_eq]
              simp only [if_true]
              rw [f1, ob_eq, f2, ob_eq]
              exact s1
            have eo : Op_lost (k : Int) (lt : Int) a3 a4 g = if ¬ a4 = 0 then some ((ngw (gl (pD t u) k).2 lt a3 (gl (pD t u) k).2.length : Int), g2) else some ((r : Int), g2) := by
              unfold Op_lost
              simp only [if_neg n1, if_neg m1, if_neg c3, if_neg (show ¬ a4 < 0 by omega), if_pos c4.2]
              rw [b, ob_eq]
              simp only [if_true]
              rw [e1, ob_eq]
              unfold Rn_neverGot Rn_stuck
              rw [e3, e5]
            by_cases c5 : a4 = 0
            · rw [if_neg (fun h9 => h9 c5)] at em eo
              exact ⟨_, g2, G', eo, by rw [em, er], i2.fr ((fr_Md_lost _ _ _ _ _ _ _ em).cl (by decide))⟩
            · rw [if_pos c5] at em eo
              exact ⟨_, g2, G', eo, em, i2.fr ((fr_Md_lost _ _ _ _ _ _ _ em).cl (by decide))⟩
        · have n3 : Md_in a4 0 1 = 0 := in_iff.mpr c4
          unfold Op_lost Md_lost
          simp only [if_neg n1, if_neg n2, if_neg m1, if_neg m2, if_neg c3, if_neg (fun h9 : ¬ Md_in a4 0 1 = 0 => h9 n3)]
          refine ⟨-2, g, g, ?_, rfl, h.more (by omega)⟩
          by_cases c5 : a4 < 0
          · rw [if_pos c5]
          · rw [if_neg c5, if_neg (by omega)]
    · have m1 : Op_isTalker a2 = 0 := isTalker_iff.mpr c2
      have m2 : Md_isOne a2 = 0 := mdOne_iff.mpr c2
      unfold Op_lost Md_lost
      simp only [if_neg n1, if_neg n2, if_pos m1, if_pos m2]
      exact ⟨-2, g, g, rfl, rfl, h.more (by omega)⟩
  · have n1 : Op_isHistory a1 = 0 := isHistory_iff.mpr c1
    have n2 : Md_isHistory a1 = 0 := mdHistory_iff.mpr c1
    unfold Op_lost Md_lost
    simp only [if_pos n1, if_pos n2]
    exact ⟨-2, g, g, rfl, rfl, h.more (by omega)⟩
