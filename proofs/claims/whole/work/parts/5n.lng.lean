/-! The longest a queue can grow. Own text. -/
theorem i64_nn {b : BitVec 64} (h : b.toNat < 9223372036854775808) : b.toInt = (b.toNat : Int) := BitVec.toInt_eq_toNat_of_lt (by omega)
theorem i64_bv (a : Nat) : (Int64.ofInt (a : Int)).toBitVec = BitVec.ofNat 64 a := by
  rw [Int64.toBitVec_ofInt, BitVec.ofInt_natCast]
theorem i64_tn {a : Nat} (h : a < 18446744073709551616) : (BitVec.ofNat 64 a).toNat = a := by
  rw [BitVec.toNat_ofNat]; exact Nat.mod_eq_of_lt h
theorem mor_nn {a b : Nat} (ha : a < 281474976710656) (hb : b < 281474976710656) : mor (a : Int) (b : Int) = ((a ||| b : Nat) : Int) := by
  unfold mor
  have e : (Int64.ofInt (a : Int) ||| Int64.ofInt (b : Int)).toBitVec.toNat = a ||| b := by
    rw [Int64.toBitVec_or, i64_bv, i64_bv, BitVec.toNat_or, i64_tn (by omega), i64_tn (by omega)]
  have l : a ||| b < 2 ^ 48 := Nat.or_lt_two_pow ha hb
  rw [← Int64.toInt_toBitVec, i64_nn (by omega), e]
theorem mand_nn {a b : Nat} (ha : a < 281474976710656) (hb : b < 281474976710656) : mand (a : Int) (b : Int) = ((a &&& b : Nat) : Int) := by
  unfold mand
  have e : (Int64.ofInt (a : Int) &&& Int64.ofInt (b : Int)).toBitVec.toNat = a &&& b := by
    rw [Int64.toBitVec_and, i64_bv, i64_bv, BitVec.toNat_and, i64_tn (by omega), i64_tn (by omega)]
  have l : a &&& b ≤ a := Nat.and_le_left
  rw [← Int64.toInt_toBitVec, i64_nn (by omega), e]
theorem mshl_one : ∀ k : Nat, k < 48 → mshl 1 (k : Int) = ((2 ^ k : Nat) : Int) := by decide +kernel
theorem sh_m : ∀ k : Nat, k < 48 → (((Int32.ofInt (k : Int)).toInt64 &&& 63).toBitVec.smod 64).toNat = k := by decide +kernel
theorem mshr_nn {a k : Nat} (ha : a < 281474976710656) (hk : k < 48) : mshr (a : Int) (k : Int) = ((a >>> k : Nat) : Int) := by
  unfold mshr
  rw [← Int64.toInt_toBitVec, Int64.toBitVec_shiftRight, BitVec.toInt_sshiftRight', sh_m k hk, Int64.toInt_toBitVec, Int64.toInt_ofInt_of_le (by omega) (by omega)]
  rfl
def BS (n : Int) (p : Nat → Bool) : Prop := ∃ A : Nat, n = (A : Int) ∧ A < 281474976710656 ∧ ∀ e, A.testBit e = p e
theorem BS.zero : BS 0 (fun _ => false) := ⟨0, rfl, by decide, fun e => Nat.zero_testBit e⟩
theorem BS.cg {n : Int} {p q : Nat → Bool} (h : BS n p) (e : ∀ i, p i = q i) : BS n q := by
  obtain ⟨A, a, b, c⟩ := h
  exact ⟨A, a, b, fun i => (c i).trans (e i)⟩
theorem BS.or {m n : Int} {p q : Nat → Bool} (h : BS m p) (k : BS n q) : BS (mor m n) (fun e => p e || q e) := by
  obtain ⟨A, a1, a2, a3⟩ := h
  obtain ⟨B, b1, b2, b3⟩ := k
  exact ⟨A ||| B, by rw [a1, b1, mor_nn a2 b2], Nat.or_lt_two_pow (n := 48) a2 b2, fun e => by rw [Nat.testBit_or, a3, b3]⟩
theorem BS.bit {k : Nat} (hk : k < 48) : BS (mshl 1 (k : Int)) (fun e => decide (e = k)) := by
  refine ⟨2 ^ k, mshl_one k hk, Nat.pow_lt_pow_right (n := 48) (by decide) hk, fun e => ?_⟩
  rw [Nat.testBit_two_pow]
  by_cases c : k = e
  · simp [c]
  · simp [c, show ¬ e = k from fun h => c h.symm]
theorem BS.get {n : Int} {p : Nat → Bool} (h : BS n p) {k : Nat} (hk : k < 48) : (mcmp (mand (mshr n (k : Int)) 1) 1 = 0) ↔ p k = true := by
  obtain ⟨A, a1, a2, a3⟩ := h
  have l : A >>> k ≤ A := by rw [Nat.shiftRight_eq_div_pow]; exact Nat.div_le_self _ _
  rw [a1, mshr_nn a2 hk, show (1 : Int) = ((1 : Nat) : Int) from rfl, mand_nn (by omega) (by decide), shr1, mcmp_eq, ← a3]
  cases A.testBit k <;> simp
/-- the act e (2 v: the saying of v, 2 v + 1: its getting) comes ahead of all that x does from w on -/
def xah (ws : List Int) : Nat → Nat → Nat → Bool
  | 0, _, _ => false
  | w + 1, x, e => xah ws w x e || (decide (fw ws w = x) && decide (e = 2 * w)) || (decide (tw ws w = x) && (xah ws w (fw ws w) e || decide (e = 2 * w) || decide (e = 2 * w + 1)))
theorem xah_lt {ws : List Int} : ∀ (w x e : Nat), xah ws w x e = true → e < 2 * w := by
  intro w
  induction w with
  | zero => intro x e h; simp [xah] at h
  | succ w ih =>
    intro x e h
    simp only [xah, Bool.or_eq_true, Bool.and_eq_true, decide_eq_true_eq] at h
    rcases h with (h | h) | ⟨-, (h | h) | h⟩
    · have := ih _ _ h; omega
    · omega
    · have := ih _ _ h; omega
    · omega
    · omega
def sayB (ws : List Int) (v e : Nat) : Bool := xah ws v (fw ws v) e
def getB (ws : List Int) (v e : Nat) : Bool := xah ws v (fw ws v) e || xah ws v (tw ws v) e || decide (e = 2 * v)
theorem xah_stp (ws : List Int) (v x e : Nat) : xah ws (v + 1) x e = (xah ws v x e || (decide (fw ws v = x) && (sayB ws v e || decide (e = 2 * v))) || (decide (tw ws v = x) && (getB ws v e || decide (e = 2 * v + 1)))) := by
  unfold sayB getB
  rw [xah]
  by_cases c1 : fw ws v = x <;> by_cases c2 : tw ws v = x
  · simp only [c1, c2, decide_true, Bool.true_and]
    cases xah ws v x e <;> cases decide (e = 2 * v) <;> cases decide (e = 2 * v + 1) <;> rfl
  · simp only [c1, c2, decide_true, decide_false, Bool.true_and, Bool.false_and]
    cases xah ws v x e <;> cases decide (e = 2 * v) <;> rfl
  · simp only [c1, c2, decide_true, decide_false, Bool.true_and, Bool.false_and]
    cases xah ws v x e <;> cases xah ws v (fw ws v) e <;> cases decide (e = 2 * v) <;> cases decide (e = 2 * v + 1) <;> rfl
  · simp only [c1, c2, decide_false, Bool.false_and]
theorem fah_in {ws : List Int} {k : Nat} (hw : OkW ws) {w : Nat} (hlt : w < ws.length) (K : Gx → Option Gx) : ∀ (d v n : Nat) (G : Gx), v + d = w → d < n → WR ws k G → (∀ i, i < w → BS (G 124 i) (sayB ws i) ∧ BS (G 125 i) (getB ws i)) → BS (G 124 w) (xah ws v (fw ws w)) → BS (G 125 w) (xah ws v (tw ws w)) → ∃ G', Md_findAheads_l28 (k : Int) (w : Int) K n (v : Int) G = K G' ∧ FR [124, 125] G G' ∧ (∀ i, i < w → BS (G' 124 i) (sayB ws i) ∧ BS (G' 125 i) (getB ws i)) ∧ BS (G' 124 w) (sayB ws w) ∧ BS (G' 125 w) (xah ws w (tw ws w)) := by
  have l24 := hw.1
  obtain ⟨-, s1, s2, -⟩ := wnum hw hlt
  intro d
  induction d with
  | zero =>
    intro v n G hv hn hr h1 h2 h3
    obtain ⟨n, rfl⟩ : ∃ q, n = q + 1 := ⟨n - 1, by omega⟩
    obtain rfl : v = w := by omega
    rw [Md_findAheads_l28, if_pos (by omega)]
    exact ⟨G, rfl, FR.rf _ _, h1, h2, h3⟩
  | succ d ih =>
    intro v n G hv hn hr h1 h2 h3
    obtain ⟨n, rfl⟩ : ∃ q, n = q + 1 := ⟨n - 1, by omega⟩
    obtain ⟨-, r1, r2, -⟩ := wnum hw (show v < ws.length by omega)
    obtain ⟨b1, b2⟩ := h1 v (by omega)
    have cv : 0 ≤ (v : Int) ∧ (v : Int) < 24 := by omega
    have cw : 0 ≤ (w : Int) ∧ (w : Int) < 24 := by omega
    have w2 : wr (2 * (v : Int)) = ((2 * v : Nat) : Int) := by rw [wr_id (by omega) (by omega)]; omega
    have w3 : wr (((2 * v : Nat) : Int) + 1) = ((2 * v + 1 : Nat) : Int) := by rw [wr_id (by omega) (by omega)]; omega
    have bs := b1.or (BS.bit (show 2 * v < 48 by omega))
    have bg := b2.or (BS.bit (show 2 * v + 1 < 48 by omega))
    have step : ∀ (y4 y5 y6 y7 : Int), BS y4 (fun e => decide (fw ws v = fw ws w) && (sayB ws v e || decide (e = 2 * v))) → BS y5 (fun e => decide (tw ws v = fw ws w) && (getB ws v e || decide (e = 2 * v + 1))) → BS y6 (fun e => decide (fw ws v = tw ws w) && (sayB ws v e || decide (e = 2 * v))) → BS y7 (fun e => decide (tw ws v = tw ws w) && (getB ws v e || decide (e = 2 * v + 1))) → ∃ G', Md_findAheads_l28 (k : Int) (w : Int) K n ((v + 1 : Nat) : Int) (gset (gset (gset (gset G 124 w (mor (G 124 w) y4)) 124 w (mor ((gset G 124 w (mor (G 124 w) y4)) 124 w) y5)) 125 w (mor (G 125 w) y6)) 125 w (mor ((gset (gset (gset G 124 w (mor (G 124 w) y4)) 124 w (mor ((gset G 124 w (mor (G 124 w) y4)) 124 w) y5)) 125 w (mor (G 125 w) y6)) 125 w) y7)) = K G' ∧ FR [124, 125] G G' ∧ (∀ i, i < w → BS (G' 124 i) (sayB ws i) ∧ BS (G' 125 i) (getB ws i)) ∧ BS (G' 124 w) (sayB ws w) ∧ BS (G' 125 w) (xah ws w (tw ws w)) := by
      intro y4 y5 y6 y7 q4 q5 q6 q7
      have f4 : FR [124, 125] G (gset (gset (gset (gset G 124 w (mor (G 124 w) y4)) 124 w (mor ((gset G 124 w (mor (G 124 w) y4)) 124 w) y5)) 125 w (mor (G 125 w) y6)) 125 w (mor ((gset (gset (gset G 124 w (mor (G 124 w) y4)) 124 w (mor ((gset G 124 w (mor (G 124 w) y4)) 124 w) y5)) 125 w (mor (G 125 w) y6)) 125 w) y7)) := ((((FR.rf _ _).gs (by decide)).gs (by decide)).gs (by decide)).gs (by decide)
      obtain ⟨G', a1, a2, a3⟩ := ih (v + 1) n (gset (gset (gset (gset G 124 w (mor (G 124 w) y4)) 124 w (mor ((gset G 124 w (mor (G 124 w) y4)) 124 w) y5)) 125 w (mor (G 125 w) y6)) 125 w (mor ((gset (gset (gset G 124 w (mor (G 124 w) y4)) 124 w (mor ((gset G 124 w (mor (G 124 w) y4)) 124 w) y5)) 125 w (mor (G 125 w) y6)) 125 w) y7)) (by omega) (by omega) (hr.of (f4.cell (by decide) (by decide)) (f4.cell (by decide) (by decide))) (fun i hi => by
        have n1 : i ≠ w := by omega
        have := h1 i hi
        simpa [gset, n1] using this) (by
        have := ((h2.or q4).or q5).cg (q := xah ws (v + 1) (fw ws w)) (fun e => (xah_stp ws v (fw ws w) e).symm)
        simpa [gset] using this) (by
        have := ((h3.or q6).or q7).cg (q := xah ws (v + 1) (tw ws w)) (fun e => (xah_stp ws v (tw ws w) e).symm)
        simpa [gset] using this)
      exact ⟨G', a1, f4.tr a2, a3⟩
    have pick : ∀ (x y : Nat) (z : Int) (p : Nat → Bool), BS z p → BS (if ¬ (x : Int) = (y : Int) then 0 else z) (fun e => decide (x = y) && p e) := fun x y z p hz => by
      by_cases c : x = y
      · rw [if_neg (by omega)]
        exact hz.cg (fun e => by simp [c])
      · rw [if_pos (by omega)]
        exact BS.zero.cg (fun e => by simp [c])
    rw [Md_findAheads_l28, if_neg (by omega), hr.code hw (by omega), ob_eq]
    simp only
    simp only [hr.code hw hlt, ob_eq]
    rw [show Md_from (ws.getD v 0) = (fw ws v : Int) from r1, show Md_to (ws.getD v 0) = (tw ws v : Int) from r2, show Md_from (ws.getD w 0) = (fw ws w : Int) from s1, show Md_to (ws.getD w 0) = (tw ws w : Int) from s2, Int.toNat_natCast, Int.toNat_natCast, w2, w3, wr_id (x := (v : Int) + 1) (by omega) (by omega), show (v : Int) + 1 = ((v + 1 : Nat) : Int) by omega]
    simp only [if_pos cv, if_pos cw, lett_eq]
    have q4 := pick (fw ws v) (fw ws w) _ _ bs
    have q5 := pick (tw ws v) (fw ws w) _ _ bg
    have q6 := pick (fw ws v) (tw ws w) _ _ bs
    have q7 := pick (tw ws v) (tw ws w) _ _ bg
    by_cases c : tw ws v = tw ws w
    · rw [if_neg (show ¬ ¬ (tw ws v : Int) = (tw ws w : Int) by omega)] at q7
      rw [if_neg (show ¬ ¬ (tw ws v : Int) = (tw ws w : Int) by omega)]
      exact step _ _ _ _ q4 q5 q6 q7
    · rw [if_pos (show ¬ (tw ws v : Int) = (tw ws w : Int) by omega)] at q7
      rw [if_pos (show ¬ (tw ws v : Int) = (tw ws w : Int) by omega)]
      exact step _ _ _ _ q4 q5 q6 q7
theorem fah_ok {ws : List Int} {k : Nat} {g : Gx} (hw : OkW ws) (hr : WR ws k g) : ∃ g', Md_findAheads (k : Int) g = some g' ∧ FR [124, 125] g g' ∧ ∀ i, i < ws.length → BS (g' 124 i) (sayB ws i) := by
  have l24 := hw.1
  have h30 := hr.1
  unfold Md_findAheads
  have lp : ∀ (d w n : Nat) (G : Gx), w + d = ws.length → d < n → WR ws k G → (∀ i, i < w → BS (G 124 i) (sayB ws i) ∧ BS (G 125 i) (getB ws i)) → ∃ g', Md_findAheads_l2 (k : Int) (fun g8 => some g8) n (w : Int) G = some g' ∧ FR [124, 125] G g' ∧ ∀ i, i < ws.length → BS (g' 124 i) (sayB ws i) := by
    intro d
    induction d with
    | zero =>
      intro w n G hv hn hG h1
      obtain ⟨n, rfl⟩ : ∃ q, n = q + 1 := ⟨n - 1, by omega⟩
      rw [Md_findAheads_l2, if_pos (by omega), Int.toNat_natCast, hG.2.1, if_pos (by omega)]
      exact ⟨G, rfl, FR.rf _ _, fun i hi => (h1 i (by omega)).1⟩
    | succ d ih =>
      intro w n G hv hn hG h1
      obtain ⟨n, rfl⟩ : ∃ q, n = q + 1 := ⟨n - 1, by omega⟩
      have cw : 0 ≤ (w : Int) ∧ (w : Int) < 24 := by omega
      have f0 : FR [124, 125] G (gset (gset G 124 w 0) 125 w 0) := ((FR.rf _ _).gs (by decide)).gs (by decide)
      obtain ⟨G', a1, a2, a3, a4, a5⟩ := fah_in (k := k) hw (w := w) (by omega) (fun g7 => Md_findAheads_l2 (k : Int) (fun g8 => some g8) n ((w + 1 : Nat) : Int) (gset g7 125 w (mor (g7 125 w) (mor (g7 124 w) (mshl 1 ((2 * w : Nat) : Int)))))) w 0 fu (gset (gset G 124 w 0) 125 w 0) (by omega) (Nat.lt_of_le_of_lt (show w ≤ 24 by omega) (fu_big _ (by decide))) (hG.of (f0.cell (by decide) (by decide)) (f0.cell (by decide) (by decide))) (fun i hi => by
        have n1 : i ≠ w := by omega
        have := h1 i hi
        simpa [gset, n1] using this) (by simpa [gset, xah] using BS.zero) (by simpa [gset, xah] using BS.zero)
      rw [show ((0 : Nat) : Int) = 0 from rfl] at a1
      rw [Md_findAheads_l2, if_pos (by omega), Int.toNat_natCast, hG.2.1, if_neg (by omega)]
      simp only [if_pos cw, Int.toNat_natCast]
      rw [wr_id (x := (w : Int) + 1) (by omega) (by omega), show (w : Int) + 1 = ((w + 1 : Nat) : Int) by omega, show wr (2 * (w : Int)) = ((2 * w : Nat) : Int) by rw [wr_id (by omega) (by omega)]; omega, a1]
      have f1 : FR [124, 125] G (gset G' 125 w (mor (G' 125 w) (mor (G' 124 w) (mshl 1 ((2 * w : Nat) : Int))))) := (f0.tr a2).gs (by decide)
      obtain ⟨g', c1, c2, c3⟩ := ih (w + 1) n _ (by omega) (by omega) (hG.of (f1.cell (by decide) (by decide)) (f1.cell (by decide) (by decide))) (fun i hi => by
        by_cases e : i = w
        · subst e
          refine ⟨by rw [gc (by decide)]; exact a4, ?_⟩
          rw [gs_same]
          refine (a5.or (a4.or (BS.bit (show 2 * i < 48 by omega)))).cg (fun e => ?_)
          unfold getB sayB
          cases xah ws i (tw ws i) e <;> cases xah ws i (fw ws i) e <;> rfl
        · have := a3 i (by omega)
          refine ⟨by rw [gc (by decide)]; exact this.1, by rw [gs_at e]; exact this.2⟩)
      exact ⟨g', c1, f1.tr c2, c3⟩
  exact lp ws.length 0 fu g (by omega) (Nat.lt_of_le_of_lt l24 (fu_big _ (by decide))) hr (fun i hi => by omega)
/-- how many words of the queue of w must have been got ahead of its saying -/
def cgo (ws : List Int) (w : Nat) : Nat → Nat
  | 0 => 0
  | v + 1 => cgo ws w v + if eqw ws v w ∧ sayB ws w (2 * v + 1) = true then 1 else 0
theorem cgo_le (ws : List Int) (w : Nat) : ∀ v, cgo ws w v ≤ v := by
  intro v
  induction v with
  | zero => exact Nat.le_refl _
  | succ v ih => rw [cgo]; split <;> omega
def lgw (ws : List Int) (f o : Nat) : Nat → Nat × Nat
  | 0 => (0, 0)
  | w + 1 => if fw ws w = f ∧ tw ws w = o then (max (lgw ws f o w).1 ((lgw ws f o w).2 + 1 - cgo ws w w), (lgw ws f o w).2 + 1) else lgw ws f o w
theorem lgw_le (ws : List Int) (f o : Nat) : ∀ w, (lgw ws f o w).1 ≤ w ∧ (lgw ws f o w).2 ≤ w := by
  intro w
  induction w with
  | zero => exact ⟨Nat.le_refl _, Nat.le_refl _⟩
  | succ w ih =>
    rw [lgw]
    split
    · simp only; omega
    · omega
theorem lgw_cg {ws : List Int} {f o : Nat} : ∀ w x, fw ws x = f → tw ws x = o → cgo ws x w ≤ (lgw ws f o w).2 := by
  intro w
  induction w with
  | zero => intro x _ _; exact Nat.le_refl _
  | succ w ih =>
    intro x h1 h2
    have := ih x h1 h2
    rw [cgo, lgw]
    by_cases c : fw ws w = f ∧ tw ws w = o
    · rw [if_pos c]
      simp only
      split <;> omega
    · rw [if_neg c, if_neg (fun h9 => c ⟨by rw [← h1]; exact h9.1.1, by rw [← h2]; exact h9.1.2⟩)]
      omega
theorem or_1 {m x : Nat} (hm : m < 64) (hx : x < 6) : jor (m : Int) (jshl 1 (x : Int)) = ((m ||| 2 ^ x : Nat) : Int) ∧ m ||| 2 ^ x < 64 := by
  have l : 2 ^ x < 64 := Nat.pow_lt_pow_right (n := 6) (by decide) hx
  rw [jshl_one x (by omega), jor_nn (by omega) (by omega)]
  exact ⟨rfl, Nat.or_lt_two_pow (n := 6) hm l⟩
theorem tb_or1 {m x y : Nat} : (m ||| 2 ^ x).testBit y = true ↔ (m.testBit y = true ∨ y = x) := by
  rw [Nat.testBit_or, Bool.or_eq_true, Nat.testBit_two_pow, decide_eq_true_eq]
  exact ⟨fun h => h.imp id Eq.symm, fun h => h.imp id Eq.symm⟩
theorem gaC {ws : List Int} {k : Nat} {g : Gx} (hw : OkW ws) (hc : WC ws k g) {w : Nat} (hlt : w < ws.length) : ∀ (v n m acc : Nat), v ≤ w → v < n → m < 64 → acc + v ≤ 24 → (∀ e, e < 2 * v → (sayB ws w e = true ↔ ∃ y, m.testBit y = true ∧ xah ws v y e = true)) → Rn_gotAhead_l13 (k : Int) (fw ws w : Int) (tw ws w : Int) (fun x1 g2 => some (x1, g2)) n (m : Int) (acc : Int) ((v : Int) - 1) g = some (((acc + cgo ws w v : Nat) : Int), g) := by
  have l24 := hw.1
  intro v
  induction v with
  | zero =>
    intro n m acc hv hn hm ha hN
    obtain ⟨n, rfl⟩ : ∃ q, n = q + 1 := ⟨n - 1, by omega⟩
    rw [Rn_gotAhead_l13, if_pos (by omega), cgo]
    rfl
  | succ v ih =>
    intro n m acc hv hn hm ha hN
    obtain ⟨n, rfl⟩ : ∃ q, n = q + 1 := ⟨n - 1, by omega⟩
    obtain ⟨-, s1, s2, s3, s4, s5⟩ := wnum hw (show v < ws.length by omega)
    have cl := cgo_le ws w v
    have hbit : sayB ws w (2 * v + 1) = true ↔ m.testBit (tw ws v) = true := by
      rw [hN (2 * v + 1) (by omega)]
      constructor
      · rintro ⟨y, y1, y2⟩
        simp only [xah, Bool.or_eq_true, Bool.and_eq_true, decide_eq_true_eq] at y2
        rcases y2 with (h | h) | ⟨h, -⟩
        · have := xah_lt _ _ _ h; omega
        · omega
        · rw [h]; exact y1
      · intro h
        exact ⟨_, h, by simp [xah]⟩
    rw [Rn_gotAhead_l13, if_neg (by omega), show ((v + 1 : Nat) : Int) - 1 = (v : Int) by omega, hc.2 v (by omega), s1, s2, has_nn (by omega) (by omega), wr_id (x := (v : Int) + -1) (by omega) (by omega), show (v : Int) + -1 = (v : Int) - 1 by omega, cgo]
    by_cases c : m.testBit (tw ws v) = true
    · rw [if_pos c, if_neg (show ¬ (1 : Int) = 0 by decide), (or_1 hm s3).1]
      have nx : ∀ acc' : Nat, acc' + v ≤ 24 → Rn_gotAhead_l13 (k : Int) (fw ws w : Int) (tw ws w : Int) (fun x1 g2 => some (x1, g2)) n ((m ||| 2 ^ fw ws v : Nat) : Int) (acc' : Int) ((v : Int) - 1) g = some (((acc' + cgo ws w v : Nat) : Int), g) := fun acc' ha' => ih n (m ||| 2 ^ fw ws v) acc' (by omega) (by omega) (or_1 hm s3).2 ha' (fun e he => by
        rw [hN e (by omega)]
        constructor
        · rintro ⟨y, y1, y2⟩
          simp only [xah, Bool.or_eq_true, Bool.and_eq_true, decide_eq_true_eq] at y2
          rcases y2 with (h | h) | ⟨h, (h' | h') | h'⟩
          · exact ⟨y, tb_or1.mpr (Or.inl y1), h⟩
          · omega
          · exact ⟨_, tb_or1.mpr (Or.inr rfl), h'⟩
          · omega
          · omega
        · rintro ⟨y, y1, y2⟩
          rcases tb_or1.mp y1 with h | h
          · exact ⟨y, h, by simp [xah, y2]⟩
          · subst h
            exact ⟨_, c, by simp [xah, y2]⟩)
      unfold Rn_goes
      rw [show Op_sayer (ws.getD v 0) = (fw ws v : Int) from s1, show Op_getter (ws.getD v 0) = (tw ws v : Int) from s2]
      by_cases c2 : eqw ws v w
      · obtain ⟨d1, d2⟩ := id c2
        rw [if_neg (show ¬ ¬ (fw ws v : Int) = (fw ws w : Int) by omega), if_neg (show ¬ ¬ (tw ws v : Int) = (tw ws w : Int) by omega), if_neg (show ¬ (1 : Int) = 0 by decide), if_pos ⟨c2, hbit.mpr c⟩, wr_id (x := (acc : Int) + 1) (by omega) (by omega), show (acc : Int) + 1 = ((acc + 1 : Nat) : Int) by omega]
        rw [nx (acc + 1) (by omega)]
        congr 2
        omega
      · have : (if ¬ (fw ws v : Int) = (fw ws w : Int) then (0 : Int) else if ¬ (tw ws v : Int) = (tw ws w : Int) then 0 else 1) = 0 := by
          by_cases d1 : fw ws v = fw ws w
          · have d2 : ¬ tw ws v = tw ws w := fun h9 => c2 ⟨d1, h9⟩
            rw [if_neg (by omega), if_pos (by omega)]
          · rw [if_pos (by omega)]
        rw [this, if_pos (show (0 : Int) = 0 from rfl), if_neg (fun h9 => c2 h9.1), wr_id (x := (acc : Int) + 0) (by omega) (by omega), show (acc : Int) + 0 = (acc : Int) by omega]
        exact nx acc (by omega)
    · rw [if_neg c, if_pos (show (0 : Int) = 0 from rfl), if_neg (fun h9 => c (hbit.mp h9.2))]
      refine ih n m acc (by omega) (by omega) hm (by omega) (fun e he => ?_)
      rw [hN e (by omega)]
      constructor
      · rintro ⟨y, y1, y2⟩
        simp only [xah, Bool.or_eq_true, Bool.and_eq_true, decide_eq_true_eq] at y2
        rcases y2 with (h | h) | ⟨h, -⟩
        · exact ⟨y, y1, h⟩
        · omega
        · rw [← h] at y1; exact absurd y1 c
      · rintro ⟨y, y1, y2⟩
        exact ⟨y, y1, by simp [xah, y2]⟩
theorem lgC_ok {ws : List Int} {k : Nat} {g : Gx} (hw : OkW ws) (hc : WC ws k g) (f o : Nat) (hf : f < 6) : Rn_longestEver (k : Int) (f : Int) (o : Int) g = some (((lgw ws f o ws.length).1 : Int), g) := by
  have l24 := hw.1
  unfold Rn_longestEver
  have lp : ∀ (d w n : Nat), w + d = ws.length → d < n → Rn_longestEver_l9 (k : Int) (f : Int) (o : Int) (fun x2 g3 => some (x2, g3)) n ((lgw ws f o w).1 : Int) ((lgw ws f o w).2 : Int) (w : Int) g = some (((lgw ws f o ws.length).1 : Int), g) := by
    intro d
    induction d with
    | zero =>
      intro w n hv hn
      obtain ⟨n, rfl⟩ : ∃ q, n = q + 1 := ⟨n - 1, by omega⟩
      rw [Rn_longestEver_l9, hc.1, if_pos (by omega), show w = ws.length by omega]
    | succ d ih =>
      intro w n hv hn
      obtain ⟨n, rfl⟩ : ∃ q, n = q + 1 := ⟨n - 1, by omega⟩
      obtain ⟨-, s1, s2, s3, -⟩ := wnum hw (show w < ws.length by omega)
      have ll := lgw_le ws f o w
      have nx := ih (w + 1) n (by omega) (by omega)
      rw [lgw] at nx
      rw [Rn_longestEver_l9, hc.1, if_neg (by omega), hc.2 w (by omega), wr_id (x := (w : Int) + 1) (by omega) (by omega), show (w : Int) + 1 = ((w + 1 : Nat) : Int) by omega]
      unfold Rn_goes
      rw [s1, s2]
      by_cases c : fw ws w = f ∧ tw ws w = o
      · obtain ⟨d1, d2⟩ := id c
        rw [if_neg (show ¬ ¬ (fw ws w : Int) = (f : Int) by omega), if_neg (show ¬ ¬ (tw ws w : Int) = (o : Int) by omega), if_neg (show ¬ (1 : Int) = 0 by decide)]
        have z : Rn_gotAhead (k : Int) (w : Int) (f : Int) (o : Int) g = some ((cgo ws w w : Int), g) := by
          unfold Rn_gotAhead
          rw [wr_id (x := (w : Int) - 1) (by omega) (by omega), jshl_one f (by omega)]
          have := gaC hw hc (w := w) (by omega) w fu (2 ^ f) 0 (Nat.le_refl _) (Nat.lt_of_le_of_lt (show w ≤ 24 by omega) (fu_big _ (by decide))) (Nat.pow_lt_pow_right (n := 6) (by decide) hf) (by omega) (fun e he => by
            unfold sayB
            constructor
            · intro h
              exact ⟨f, by rw [Nat.testBit_two_pow]; simp, by rw [← d1]; exact h⟩
            · rintro ⟨y, y1, y2⟩
              rw [Nat.testBit_two_pow, decide_eq_true_eq] at y1
              rw [d1, y1]; exact y2)
          rw [d1, d2, Nat.zero_add] at this
          exact this
        have lc := lgw_cg w w d1 d2
        rw [z, ob_eq]
        simp only
        rw [wr_id (x := ((lgw ws f o w).2 : Int) + 1) (by omega) (by omega), wr_id (x := ((lgw ws f o w).2 : Int) + 1 - (cgo ws w w : Int)) (by omega) (by omega), show ((lgw ws f o w).2 : Int) + 1 - (cgo ws w w : Int) = (((lgw ws f o w).2 + 1 - cgo ws w w : Nat) : Int) by omega, imax_nn, show ((lgw ws f o w).2 : Int) + 1 = (((lgw ws f o w).2 + 1 : Nat) : Int) by omega]
        rw [if_pos c] at nx
        exact nx
      · have : (if ¬ (fw ws w : Int) = (f : Int) then (0 : Int) else if ¬ (tw ws w : Int) = (o : Int) then 0 else 1) = 0 := by
          by_cases d1 : fw ws w = f
          · have d2 : ¬ tw ws w = o := fun h9 => c ⟨d1, h9⟩
            rw [if_neg (by omega), if_pos (by omega)]
          · rw [if_pos (by omega)]
        rw [this, if_pos (show (0 : Int) = 0 from rfl)]
        rw [if_neg c] at nx
        exact nx
  exact lp ws.length 0 fu (by omega) (Nat.lt_of_le_of_lt l24 (fu_big _ (by decide)))
theorem lgR_in {ws : List Int} {k : Nat} {g : Gx} (hw : OkW ws) (hr : WR ws k g) {w f o : Nat} (hlt : w < ws.length) (h1 : fw ws w = f) (h2 : tw ws w = o) (hb : BS (g 124 w) (sayB ws w)) (c5 c6 : Int) (K : Int → Gx → Option (Int × Gx)) : ∀ (d v n : Nat), v + d = w → d < n → Md_longest_l106 (k : Int) (f : Int) (o : Int) c5 c6 (w : Int) K n (cgo ws w v : Int) (v : Int) g = K (cgo ws w w : Int) g := by
  have l24 := hw.1
  intro d
  induction d with
  | zero =>
    intro v n hv hn
    obtain ⟨n, rfl⟩ : ∃ q, n = q + 1 := ⟨n - 1, by omega⟩
    rw [Md_longest_l106, if_pos (by omega), show v = w by omega]
  | succ d ih =>
    intro v n hv hn
    obtain ⟨n, rfl⟩ : ∃ q, n = q + 1 := ⟨n - 1, by omega⟩
    obtain ⟨-, s1, s2, -⟩ := wnum hw (show v < ws.length by omega)
    have cl := cgo_le ws w v
    have nx := ih (v + 1) n (by omega) (by omega)
    rw [cgo] at nx
    rw [Md_longest_l106, if_neg (by omega)]
    simp only [hr.code hw (show v < ws.length by omega), ob_eq, lett_eq]
    rw [show Md_from (ws.getD v 0) = (fw ws v : Int) from s1, show Md_to (ws.getD v 0) = (tw ws v : Int) from s2, wr_id (x := (v : Int) + 1) (by omega) (by omega), wr_id (x := (cgo ws w v : Int) + 0) (by omega) (by omega), wr_id (x := (cgo ws w v : Int) + 1) (by omega) (by omega), show (v : Int) + 1 = ((v + 1 : Nat) : Int) by omega, show (cgo ws w v : Int) + 0 = (cgo ws w v : Int) by omega, Int.toNat_natCast, show wr (wr (2 * (v : Int)) + 1) = ((2 * v + 1 : Nat) : Int) by simp (disch := omega) only [wr_id]; omega, if_pos (show 0 ≤ (w : Int) ∧ (w : Int) < 24 by omega)]
    by_cases d1 : fw ws v = f
    · rw [if_neg (show ¬ ¬ (fw ws v : Int) = (f : Int) by omega)]
      by_cases d2 : tw ws v = o
      · rw [if_neg (show ¬ ¬ (tw ws v : Int) = (o : Int) by omega), if_neg (show ¬ (1 : Int) = 0 by decide)]
        by_cases d3 : sayB ws w (2 * v + 1) = true
        · rw [if_neg (fun h9 => h9 ((hb.get (by omega)).mpr d3))]
          rw [if_pos ⟨⟨by omega, by omega⟩, d3⟩] at nx
          exact nx
        · rw [if_pos (fun h9 => d3 ((hb.get (by omega)).mp h9))]
          rw [if_neg (fun h9 => d3 h9.2)] at nx
          exact nx
      · rw [if_pos (show ¬ (tw ws v : Int) = (o : Int) by omega), if_pos (show (0 : Int) = 0 from rfl)]
        rw [if_neg (fun h9 => d2 (by rw [← h2]; exact h9.1.2))] at nx
        exact nx
    · rw [if_pos (show ¬ (fw ws v : Int) = (f : Int) by omega)]
      rw [if_neg (fun h9 => d1 (by rw [← h1]; exact h9.1.1))] at nx
      exact nx
theorem lgR_ok {ws : List Int} {k : Nat} {g : Gx} (hw : OkW ws) (hr : WR ws k g) (hb : ∀ i, i < ws.length → BS (g 124 i) (sayB ws i)) (f o : Nat) (K : Int → Gx → Option (Int × Gx)) : Md_longest_l58 (k : Int) (f : Int) (o : Int) K fu 0 0 0 g = K ((lgw ws f o ws.length).1 : Int) g := by
  have l24 := hw.1
  have h30 := hr.1
  have lp : ∀ (d w n : Nat), w + d = ws.length → d < n → Md_longest_l58 (k : Int) (f : Int) (o : Int) K n ((lgw ws f o w).1 : Int) ((lgw ws f o w).2 : Int) (w : Int) g = K ((lgw ws f o ws.length).1 : Int) g := by
    intro d
    induction d with
    | zero =>
      intro w n hv hn
      obtain ⟨n, rfl⟩ : ∃ q, n = q + 1 := ⟨n - 1, by omega⟩
      rw [Md_longest_l58, if_pos (by omega), Int.toNat_natCast, hr.2.1, if_pos (by omega), show w = ws.length by omega]
    | succ d ih =>
      intro w n hv hn
      obtain ⟨n, rfl⟩ : ∃ q, n = q + 1 := ⟨n - 1, by omega⟩
      obtain ⟨-, s1, s2, s3, -⟩ := wnum hw (show w < ws.length by omega)
      have ll := lgw_le ws f o w
      have nx := ih (w + 1) n (by omega) (by omega)
      rw [lgw] at nx
      rw [Md_longest_l58, if_pos (by omega), Int.toNat_natCast, hr.2.1, if_neg (by omega)]
      simp only [hr.code hw (show w < ws.length by omega), ob_eq]
      rw [show Md_from (ws.getD w 0) = (fw ws w : Int) from s1, show Md_to (ws.getD w 0) = (tw ws w : Int) from s2, wr_id (x := (w : Int) + 1) (by omega) (by omega), show (w : Int) + 1 = ((w + 1 : Nat) : Int) by omega]
      by_cases d1 : fw ws w = f
      · rw [if_neg (show ¬ ¬ (fw ws w : Int) = (f : Int) by omega)]
        by_cases d2 : tw ws w = o
        · have lc := lgw_cg w w d1 d2
          have z := lgR_in hw hr (w := w) (by omega) d1 d2 (hb w (by omega)) ((lgw ws f o w).1 : Int) (wr (((lgw ws f o w).2 : Int) + 1)) (fun x8 g9 => if (wr ((wr (((lgw ws f o w).2 : Int) + 1)) - x8)) ≤ ((lgw ws f o w).1 : Int) then Md_longest_l58 (k : Int) (f : Int) (o : Int) K n ((lgw ws f o w).1 : Int) (wr (((lgw ws f o w).2 : Int) + 1)) ((w + 1 : Nat) : Int) g9 else Md_longest_l58 (k : Int) (f : Int) (o : Int) K n (wr ((wr (((lgw ws f o w).2 : Int) + 1)) - x8)) (wr (((lgw ws f o w).2 : Int) + 1)) ((w + 1 : Nat) : Int) g9) w 0 fu (by omega) (Nat.lt_of_le_of_lt (show w ≤ 24 by omega) (fu_big _ (by decide)))
          rw [show ((cgo ws w 0 : Nat) : Int) = 0 from rfl, show ((0 : Nat) : Int) = 0 from rfl] at z
          rw [if_neg (show ¬ ¬ (tw ws w : Int) = (o : Int) by omega), z, wr_id (x := ((lgw ws f o w).2 : Int) + 1) (by omega) (by omega), wr_id (x := ((lgw ws f o w).2 : Int) + 1 - (cgo ws w w : Int)) (by omega) (by omega), show ((lgw ws f o w).2 : Int) + 1 - (cgo ws w w : Int) = (((lgw ws f o w).2 + 1 - cgo ws w w : Nat) : Int) by omega, show ((lgw ws f o w).2 : Int) + 1 = (((lgw ws f o w).2 + 1 : Nat) : Int) by omega]
          rw [if_pos ⟨d1, d2⟩] at nx
          simp only at nx
          by_cases c : (((lgw ws f o w).2 + 1 - cgo ws w w : Nat) : Int) ≤ ((lgw ws f o w).1 : Int)
          · rw [if_pos c]
            rw [show max (lgw ws f o w).1 ((lgw ws f o w).2 + 1 - cgo ws w w) = (lgw ws f o w).1 by omega] at nx
            exact nx
          · rw [if_neg c]
            rw [show max (lgw ws f o w).1 ((lgw ws f o w).2 + 1 - cgo ws w w) = (lgw ws f o w).2 + 1 - cgo ws w w by omega] at nx
            exact nx
        · rw [if_pos (show ¬ (tw ws w : Int) = (o : Int) by omega)]
          rw [if_neg (fun h9 => d2 h9.2)] at nx
          exact nx
      · rw [if_pos (show ¬ (fw ws w : Int) = (f : Int) by omega)]
        rw [if_neg (fun h9 => d1 h9.1)] at nx
        exact nx
  exact lp ws.length 0 fu (by omega) (Nat.lt_of_le_of_lt l24 (fu_big _ (by decide)))
theorem st_longest {T : Nat} {t pt : List Int} {u : Int} {g : Gx} (h : Inv T t pt u g) (hT : T < 80000) (a1 a2 a3 : Int) : ∃ r g1 g2, Op_longest a1 a2 a3 g = some (r, g1) ∧ Md_longest a1 a2 a3 g1 = some (r, g2) ∧ Inv (T + 2) t pt u g2 := by
  unfold Op_longest Md_longest
  by_cases c1 : 0 ≤ a1 ∧ a1 ≤ 29
  · have n1 : ¬ Op_isHistory a1 = 0 := fun h9 => isHistory_iff.mp h9 c1
    have n2 : ¬ Md_isHistory a1 = 0 := fun h9 => mdHistory_iff.mp h9 c1
    simp only [if_neg n1, if_neg n2]
    by_cases c2 : 0 ≤ a2 ∧ a2 ≤ 5
    · have m1 : ¬ Op_isTalker a2 = 0 := fun h9 => isTalker_iff.mp h9 c2
      have m2 : ¬ Md_isOne a2 = 0 := fun h9 => mdOne_iff.mp h9 c2
      simp only [if_neg m1, if_neg m2]
      by_cases c3 : 0 ≤ a3 ∧ a3 ≤ 5
      · have p1 : ¬ Op_isTalker a3 = 0 := fun h9 => isTalker_iff.mp h9 c3
        have p2 : ¬ Md_isOne a3 = 0 := fun h9 => mdOne_iff.mp h9 c3
        simp only [if_neg p1, if_neg p2]
        by_cases c4 : a2 = a3
        · simp only [if_neg (show ¬ ¬ a2 = a3 from fun h9 => h9 c4)]
          exact ⟨-2, g, g, rfl, rfl, h.more (by omega)⟩
        · simp only [if_pos c4]
          rcases hl_ok h hT a1 with ⟨r, g1, g2, a, b, c, d⟩ | ⟨g1, a, b, ⟨b1, b2, b3, b4, b5, b6⟩, c⟩
          · refine ⟨r, g1, g2, ?_, ?_, d⟩
            · rw [b, ob_eq]; simp only; rw [if_neg a]
            · rw [c, ob_eq]; simp only; rw [if_neg a]
          · obtain ⟨k, rfl⟩ := Int.eq_ofNat_of_zero_le c1.1
            obtain ⟨f, rfl⟩ := Int.eq_ofNat_of_zero_le c2.1
            obtain ⟨o, rfl⟩ := Int.eq_ofNat_of_zero_le c3.1
            have hk : k < (pD t u).length := by omega
            have hw := ws_ok b4 hk
            have hc := ws_c b4 b3.2.2.2 hk
            rw [b, ob_eq]
            simp only [if_true]
            obtain ⟨g3, y, z, w, -⟩ := c g1 b1
            have hr := ws_r b4 w hk
            obtain ⟨g4, e1, e2, e3⟩ := fah_ok hw hr
            have hr4 := hr.of (e2.cell (by decide) (by decide)) (e2.cell (by decide) (by decide))
            refine ⟨_, g1, g4, by rw [lgC_ok hw hc f o (by omega), ob_eq], ?_, z.fr (e2.cl (by decide))⟩
            rw [y, ob_eq]
            simp only [if_true]
            rw [e1, ob_eq, lgR_ok hw hr4 e3]
      · have p1 : Op_isTalker a3 = 0 := isTalker_iff.mpr c3
        have p2 : Md_isOne a3 = 0 := mdOne_iff.mpr c3
        simp only [if_pos p1, if_pos p2]
        exact ⟨-2, g, g, rfl, rfl, h.more (by omega)⟩
    · have m1 : Op_isTalker a2 = 0 := isTalker_iff.mpr c2
      have m2 : Md_isOne a2 = 0 := mdOne_iff.mpr c2
      simp only [if_pos m1, if_pos m2]
      exact ⟨-2, g, g, rfl, rfl, h.more (by omega)⟩
  · have n1 : Op_isHistory a1 = 0 := isHistory_iff.mpr c1
    have n2 : Md_isHistory a1 = 0 := mdHistory_iff.mpr c1
    simp only [if_pos n1, if_pos n2]
    exact ⟨-2, g, g, rfl, rfl, h.more (by omega)⟩
