/-! The log beside histories: the class. Own text. -/
theorem ofI_wr (x : Int) : Int32.ofInt (wr x) = Int32.ofInt x := by
  unfold wr
  rw [Int32.ofInt_toInt]
theorem wr_b (x : Int) : okI (wr x) := by
  unfold wr okI
  exact ⟨Int32.le_toInt _, Int32.toInt_lt _⟩
theorem jdiv_t {y : Int} (hy : okI y) {z : Int} (h2 : 0 < z) (h3 : z < 2147483648) (h1 : 1 < z) : jdiv y z = y.tdiv z := by
  unfold jdiv
  rw [Int32.toInt_div, i32_id hy, i32_id ⟨by omega, h3⟩]
  apply Int.bmod_eq_of_le
  · obtain ⟨a, b⟩ := hy
    rcases Int.le_total 0 y with h | h
    · rw [Int.tdiv_eq_ediv_of_nonneg h]
      have := Int.ediv_nonneg h (show 0 ≤ z by omega)
      omega
    · have e : y.tdiv z = -((-y).tdiv z) := by rw [Int.neg_tdiv]; omega
      rw [e, Int.tdiv_eq_ediv_of_nonneg (by omega)]
      have := Int.ediv_le_self (a := -y) z (by omega)
      omega
  · obtain ⟨a, b⟩ := hy
    rcases Int.le_total 0 y with h | h
    · rw [Int.tdiv_eq_ediv_of_nonneg h]
      have := Int.ediv_le_self (a := y) z h
      omega
    · have e : y.tdiv z = -((-y).tdiv z) := by rw [Int.neg_tdiv]; omega
      rw [e, Int.tdiv_eq_ediv_of_nonneg (by omega)]
      have := Int.ediv_nonneg (show 0 ≤ -y by omega) (show 0 ≤ z by omega)
      omega
theorem jdiv_wr (x z : Int) : jdiv x z = jdiv (wr x) z := by
  unfold jdiv
  rw [ofI_wr]
theorem jrem_wr (x z : Int) : jrem x z = jrem (wr x) z := by
  unfold jrem
  rw [ofI_wr]
theorem mayBe_ok {x : Int} (h : ¬ Bd_mayBe x = 0) : ∃ f o : Nat, f < 6 ∧ o < 6 ∧ f ≠ o ∧ Op_sayer x = (f : Int) ∧ Op_getter x = (o : Int) ∧ jdiv x 100 = ((10 * f + o : Nat) : Int) ∧ Md_queueOf x = ((6 * f + o : Nat) : Int) := by
  unfold Bd_mayBe at h
  by_cases c1 : x < 0
  · rw [if_pos c1] at h; exact absurd rfl h
  rw [if_neg c1] at h
  by_cases c2 : Op_isTalker (Op_sayer x) = 0
  · rw [if_pos c2] at h; exact absurd rfl h
  rw [if_neg c2] at h
  by_cases c3 : Op_isTalker (Op_getter x) = 0
  · rw [if_pos c3] at h; exact absurd rfl h
  rw [if_neg c3] at h
  by_cases c4 : Op_sayer x = Op_getter x
  · rw [if_pos c4] at h; exact absurd rfl h
  have d2 : 0 ≤ Op_sayer x ∧ Op_sayer x ≤ 5 := by
    by_cases h9 : 0 ≤ Op_sayer x ∧ Op_sayer x ≤ 5
    · exact h9
    · exact absurd (isTalker_iff.mpr h9) c2
  have d3 : 0 ≤ Op_getter x ∧ Op_getter x ≤ 5 := by
    by_cases h9 : 0 ≤ Op_getter x ∧ Op_getter x ≤ 5
    · exact h9
    · exact absurd (isTalker_iff.mpr h9) c3
  have oy := wr_b x
  have e1 : Op_sayer x = (wr x).tdiv 1000 := by unfold Op_sayer; rw [jdiv_wr, jdiv_t oy (by decide) (by decide) (by decide)]
  have e2 : jdiv x 100 = (wr x).tdiv 100 := by rw [jdiv_wr, jdiv_t oy (by decide) (by decide) (by decide)]
  by_cases c5 : 0 ≤ wr x
  · rw [Int.tdiv_eq_ediv_of_nonneg c5] at e1 e2
    have e3 : Op_getter x = wr x / 100 % 10 := by
      unfold Op_getter
      rw [e2, jrem_nn (by omega) (by omega) (by decide) (by decide)]
    have e4 : jrem x 10000 = wr x := by rw [jrem_wr, jrem_nn c5 oy.2 (by decide) (by decide)]; omega
    refine ⟨(wr x / 1000).toNat, (wr x / 100 % 10).toNat, by omega, by omega, by omega, by omega, by omega, by omega, ?_⟩
    unfold Md_queueOf
    rw [e4, show Md_from (wr x) = Op_sayer x from by unfold Md_from Op_sayer; rw [← jdiv_wr], show Md_to (wr x) = Op_getter x from by unfold Md_to Op_getter; rw [← jdiv_wr]]
    simp (disch := omega) only [wr_id]
    omega
  · exfalso
    have n1 : (wr x).tdiv 1000 = -((-(wr x)).tdiv 1000) := by rw [Int.neg_tdiv]; omega
    have n2 : (wr x).tdiv 100 = -((-(wr x)).tdiv 100) := by rw [Int.neg_tdiv]; omega
    rw [Int.tdiv_eq_ediv_of_nonneg (a := -(wr x)) (by omega)] at n1 n2
    rw [n1] at e1
    rw [n2] at e2
    have b1 : -(wr x) < 1000 := by omega
    have e3 : Op_getter x = jdiv x 100 := by
      unfold Op_getter
      rw [e2, jrem_eq ⟨by omega, by omega⟩ ⟨by decide, by decide⟩, jdiv_t ⟨by omega, by omega⟩ (by decide) (by decide) (by decide)]
      have n3 : (-(-(wr x) / 100)).tdiv 10 = 0 := by
        rw [Int.neg_tdiv, Int.tdiv_eq_ediv_of_nonneg (by omega)]; omega
      rw [n3]
      simp (disch := omega) only [wr_id]
      omega
    omega
def LgI (sz : Nat) (f o : Nat → Nat) (c : Nat → Int) : Prop := sz ≤ 40 ∧ ∀ i, i < sz → f i < 6 ∧ o i < 6 ∧ f i ≠ o i ∧ Op_sayer (c i) = (f i : Int) ∧ jdiv (c i) 100 = ((10 * f i + o i : Nat) : Int) ∧ Md_queueOf (c i) = ((6 * f i + o i : Nat) : Int)
theorem lg_of {g : Gx} (h : ILg g) : ∃ (sz : Nat) (f o : Nat → Nat), g 78 4 = (sz : Int) ∧ g 92 48 = (sz : Int) ∧ LgI sz f o (g 80) ∧ ∀ i, i < sz → g 127 i = g 80 i := by
  obtain ⟨h1, h2, h3⟩ := h
  refine ⟨(g 78 4).toNat, fun i => (Op_sayer (g 80 i)).toNat, fun i => (Op_getter (g 80 i)).toNat, by omega, by rw [h1]; omega, ⟨by omega, fun i hi => ?_⟩, fun i hi => (h3 i (by omega)).1⟩
  obtain ⟨f, o, a1, a2, a3, a4, a5, a6, a7⟩ := mayBe_ok (h3 i (by omega)).2
  simp only
  rw [a4, a5, Int.toNat_natCast, Int.toNat_natCast]
  exact ⟨a1, a2, a3, rfl, a6, a7⟩
/-! the nth word of two talkers -/
abbrev isq (ws : List Int) (a b i : Nat) : Prop := fw ws i = a ∧ tw ws i = b
def fnp (ws : List Int) (a b : Nat) : Nat → Nat → Nat
  | 0, p => p
  | d + 1, p => if isq ws a b p then p else fnp ws a b d (p + 1)
def fnd (ws : List Int) (a b p : Nat) : Nat := fnp ws a b (ws.length - p) p
theorem fnd_hit {ws : List Int} {a b p : Nat} (hp : p < ws.length) (h : isq ws a b p) : fnd ws a b p = p := by
  unfold fnd
  rw [show ws.length - p = (ws.length - p - 1) + 1 by omega, fnp, if_pos h]
theorem fnd_no {ws : List Int} {a b p : Nat} (hp : p < ws.length) (h : ¬ isq ws a b p) : fnd ws a b p = fnd ws a b (p + 1) := by
  unfold fnd
  rw [show ws.length - p = (ws.length - (p + 1)) + 1 by omega, fnp, if_neg h]
theorem fnd_end {ws : List Int} {a b p : Nat} (hp : ws.length ≤ p) : fnd ws a b p = p := by
  unfold fnd
  rw [show ws.length - p = 0 by omega, fnp]
theorem fnp_b {ws : List Int} {a b : Nat} : ∀ d p, p ≤ fnp ws a b d p ∧ fnp ws a b d p ≤ p + d := by
  intro d
  induction d with
  | zero => intro p; exact ⟨Nat.le_refl _, Nat.le_refl _⟩
  | succ d ih =>
    intro p
    rw [fnp]
    split
    · omega
    · have := ih (p + 1); omega
theorem fnd_b {ws : List Int} {a b p : Nat} (hp : p ≤ ws.length) : p ≤ fnd ws a b p ∧ fnd ws a b p ≤ ws.length := by
  have := fnp_b (ws := ws) (a := a) (b := b) (ws.length - p) p
  unfold fnd
  omega
def psn (ws : List Int) (a b : Nat) : Nat → Nat → Nat
  | 0, p => fnd ws a b p
  | n + 1, p => if fnd ws a b p < ws.length then psn ws a b n (fnd ws a b p + 1) else ws.length
theorem psn_succ {ws : List Int} {a b : Nat} : ∀ n p, psn ws a b n p < ws.length → psn ws a b (n + 1) p = fnd ws a b (psn ws a b n p + 1) := by
  intro n
  induction n with
  | zero =>
    intro p h
    have h' : fnd ws a b p < ws.length := h
    show (if fnd ws a b p < ws.length then psn ws a b 0 (fnd ws a b p + 1) else ws.length) = _
    rw [if_pos h']
    rfl
  | succ n ih =>
    intro p h
    have c : fnd ws a b p < ws.length := by
      by_cases c : fnd ws a b p < ws.length
      · exact c
      · rw [psn, if_neg c] at h; omega
    rw [psn, if_pos c] at h
    rw [psn, if_pos c, ih _ h, psn, if_pos c]
def plc (ws : List Int) (a b : Nat) : Nat → Nat
  | 0 => 0
  | n + 1 => psn ws a b n 0 + 1
def nbf (f o : Nat → Nat) (a b : Nat) : Nat → Nat
  | 0 => 0
  | i + 1 => nbf f o a b i + if f i = a ∧ o i = b then 1 else 0
theorem nbf_le (f o : Nat → Nat) (a b : Nat) : ∀ n, nbf f o a b n ≤ n := by
  intro n
  induction n with
  | zero => exact Nat.le_refl _
  | succ n ih => rw [nbf]; split <;> omega
def bpo (ws : List Int) (f o : Nat → Nat) (i : Nat) : Nat := psn ws (f i) (o i) (nbf f o (f i) (o i) i) 0
abbrev bear (ws : List Int) (f o : Nat → Nat) (c : Nat → Int) (i : Nat) : Prop := bpo ws f o i < ws.length ∧ ws.getD (bpo ws f o i) 0 = c i
def wnt (ws : List Int) (f o : Nat → Nat) (c : Nat → Int) : Nat → Nat → Nat
  | 0, i => i
  | d + 1, i => if bear ws f o c i then wnt ws f o c d (i + 1) else i
theorem wnt_ok {ws : List Int} {f o : Nat → Nat} {c : Nat → Int} : ∀ d i, i ≤ wnt ws f o c d i ∧ wnt ws f o c d i ≤ i + d ∧ (∀ j, i ≤ j → j < wnt ws f o c d i → bear ws f o c j) ∧ (wnt ws f o c d i < i + d → ¬ bear ws f o c (wnt ws f o c d i)) := by
  intro d
  induction d with
  | zero => intro i; exact ⟨Nat.le_refl _, Nat.le_refl _, fun j h1 h2 => by rw [wnt] at h2; omega, fun h => by rw [wnt] at h; omega⟩
  | succ d ih =>
    intro i
    rw [wnt]
    by_cases e : bear ws f o c i
    · rw [if_pos e]
      obtain ⟨x, y, z, w⟩ := ih (i + 1)
      refine ⟨by omega, by omega, fun j h1 h2 => ?_, fun h => w (by omega)⟩
      by_cases e2 : j = i
      · rw [e2]; exact e
      · exact z j (by omega) h2
    · rw [if_neg e]
      exact ⟨Nat.le_refl _, by omega, fun j h1 h2 => by omega, fun _ => e⟩
/-- a history is left by the first n just if it goes with so many -/
theorem wnt_iff {ws : List Int} {f o : Nat → Nat} {c : Nat → Int} {sz n : Nat} (hn : n ≤ sz) : (∀ i, i < n → bear ws f o c i) ↔ n ≤ wnt ws f o c sz 0 := by
  obtain ⟨x, y, z, w⟩ := wnt_ok (ws := ws) (f := f) (o := o) (c := c) sz 0
  constructor
  · intro h
    by_cases e : n ≤ wnt ws f o c sz 0
    · exact e
    · exact absurd (h _ (by omega)) (w (by omega))
  · intro h i hi
    exact z i (by omega) (by omega)
/-- the class between two codes -/
def Brs (ws : List Int) (f o : Nat → Nat) (i : Nat) (G : Gx) : Prop := (∀ a b, a < 6 → b < 6 → a ≠ b → G 84 (10 * a + b) = (plc ws a b (nbf f o a b i) : Int)) ∧ ∀ a b m, m < nbf f o a b i → psn ws a b m 0 < ws.length
theorem div100 {ws : List Int} (hw : OkW ws) {i : Nat} (hi : i < ws.length) : jdiv (ws.getD i 0) 100 = ((10 * fw ws i + tw ws i : Nat) : Int) := by
  obtain ⟨m, -⟩ := wnum hw hi
  obtain ⟨-, -, n3, n4, n5, n6, n7, n8, -⟩ := okw_num m
  rw [jdiv_nn n3 (by omega) (by decide) (by decide)]
  unfold fw tw
  omega
theorem brs_l {ws : List Int} {k : Nat} {g : Gx} (hw : OkW ws) (hc : WC ws k g) (code : Int) {a b : Nat} (ha : a < 6) (hb : b < 6) : ∀ (d p n : Nat), p + d = ws.length → d < n → Bd_bears_l15 (k : Int) code ((10 * a + b : Nat) : Int) (fun g1 => some (0, g1)) n (p : Int) g = if fnd ws a b p < ws.length then some (if ws.getD (fnd ws a b p) 0 = code then 1 else 0, gset g 84 (10 * a + b) ((fnd ws a b p + 1 : Nat) : Int)) else some (0, g) := by
  have l24 := hw.1
  intro d
  induction d with
  | zero =>
    intro p n hp hn
    obtain ⟨n, rfl⟩ : ∃ q, n = q + 1 := ⟨n - 1, by omega⟩
    rw [Bd_bears_l15, hc.1, if_pos (by omega), fnd_end (by omega), if_neg (by omega)]
  | succ d ih =>
    intro p n hp hn
    obtain ⟨n, rfl⟩ : ∃ q, n = q + 1 := ⟨n - 1, by omega⟩
    obtain ⟨-, -, -, s3, s4, -⟩ := wnum hw (show p < ws.length by omega)
    rw [Bd_bears_l15, hc.1, if_neg (by omega), hc.2 p (by omega), div100 hw (by omega), wr_id (by omega) (by omega), show (p : Int) + 1 = ((p + 1 : Nat) : Int) by omega]
    by_cases e : isq ws a b p
    · obtain ⟨e1, e2⟩ := id e
      rw [if_neg (show ¬ ¬ ((10 * fw ws p + tw ws p : Nat) : Int) = ((10 * a + b : Nat) : Int) by omega), fnd_hit (by omega) e, if_pos (show p < ws.length by omega), rsi (by omega) (by omega), Int.toNat_natCast]
      by_cases e3 : ws.getD p 0 = code
      · rw [if_neg (fun h9 => h9 e3), if_pos e3]
      · rw [if_pos e3, if_neg e3]
    · rw [if_pos (show ¬ ((10 * fw ws p + tw ws p : Nat) : Int) = ((10 * a + b : Nat) : Int) from fun h9 => e ⟨by omega, by omega⟩), fnd_no (by omega) e]
      exact ih (p + 1) n (by omega) (by omega)
theorem plc_fnd {ws : List Int} {a b : Nat} : ∀ n, (∀ m, m < n → psn ws a b m 0 < ws.length) → plc ws a b n ≤ ws.length ∧ fnd ws a b (plc ws a b n) = psn ws a b n 0 := by
  intro n
  cases n with
  | zero => intro _; exact ⟨by rw [plc]; omega, rfl⟩
  | succ n =>
    intro h
    have := h n (by omega)
    rw [plc]
    exact ⟨by omega, (psn_succ n 0 this).symm⟩
theorem cmp_in {ws : List Int} {k : Nat} (hw : OkW ws) {sz : Nat} {f o : Nat → Nat} {c : Nat → Int} (hl : LgI sz f o c) (K : Int → Gx → Option Gx) : ∀ (d i n : Nat) (G : Gx), i + d = sz → d < n → WC ws k G → G 78 4 = (sz : Int) → (∀ j, j < sz → G 80 j = c j) → Brs ws f o i G → ∃ G', Bd_compare_l23 (k : Int) K n (i : Int) G = K (wnt ws f o c d i : Int) G' ∧ FR [84] G G' := by
  have l24 := hw.1
  have l40 := hl.1
  intro d
  induction d with
  | zero =>
    intro i n G hi hn hc hz h80 hB
    obtain ⟨n, rfl⟩ : ∃ q, n = q + 1 := ⟨n - 1, by omega⟩
    exact ⟨G, by rw [Bd_compare_l23, hz, if_pos (by omega), wnt], FR.rf _ _⟩
  | succ d ih =>
    intro i n G hi hn hc hz h80 hB
    obtain ⟨n, rfl⟩ : ∃ q, n = q + 1 := ⟨n - 1, by omega⟩
    obtain ⟨a1, a2, a3, a4, a5, a6⟩ := hl.2 i (by omega)
    obtain ⟨B1, B2⟩ := hB
    obtain ⟨p1, p2⟩ := plc_fnd (ws := ws) (a := f i) (b := o i) (nbf f o (f i) (o i) i) (fun m hm => B2 _ _ m hm)
    have z := brs_l hw hc (c i) a1 a2 (ws.length - plc ws (f i) (o i) (nbf f o (f i) (o i) i)) (plc ws (f i) (o i) (nbf f o (f i) (o i) i)) fu (by omega) (Nat.lt_of_le_of_lt (show ws.length - plc ws (f i) (o i) (nbf f o (f i) (o i) i) ≤ 24 by omega) (fu_big _ (by decide)))
    have eb : Bd_bears (k : Int) (rat G 80 40 (i : Int)) G = if bpo ws f o i < ws.length then some (if ws.getD (bpo ws f o i) 0 = c i then 1 else 0, gset G 84 (10 * f i + o i) ((bpo ws f o i + 1 : Nat) : Int)) else some (0, G) := by
      unfold Bd_bears
      rw [rat_in (by omega) (by omega), Int.toNat_natCast, h80 i (by omega), a5, rat_in (by omega) (by omega), Int.toNat_natCast, B1 _ _ a1 a2 a3, z, p2]
      rfl
    rw [Bd_compare_l23, hz, if_neg (by omega), eb, wnt, wr_id (by omega) (by omega), show (i : Int) + 1 = ((i + 1 : Nat) : Int) by omega]
    by_cases c1 : bpo ws f o i < ws.length
    · rw [if_pos c1, ob_eq]
      simp only
      by_cases c2 : ws.getD (bpo ws f o i) 0 = c i
      · rw [if_pos c2, if_neg (show ¬ (1 : Int) = 0 by decide), if_pos ⟨c1, c2⟩]
        have hB' : Brs ws f o (i + 1) (gset G 84 (10 * f i + o i) ((bpo ws f o i + 1 : Nat) : Int)) := by
          refine ⟨fun a b ha hb hab => ?_, fun a b m hm => ?_⟩
          · rw [nbf]
            by_cases e : f i = a ∧ o i = b
            · obtain ⟨rfl, rfl⟩ := e
              rw [gs_same, if_pos ⟨rfl, rfl⟩, plc]
              rfl
            · rw [gs_at (show 10 * a + b ≠ 10 * f i + o i from fun h9 => e ⟨by omega, by omega⟩), if_neg e]
              exact B1 a b ha hb hab
          · rw [nbf] at hm
            by_cases e : f i = a ∧ o i = b
            · obtain ⟨rfl, rfl⟩ := e
              rw [if_pos ⟨rfl, rfl⟩] at hm
              by_cases e2 : m = nbf f o (f i) (o i) i
              · rw [e2]; exact c1
              · exact B2 _ _ m (by omega)
            · rw [if_neg e] at hm
              exact B2 _ _ m (by omega)
        obtain ⟨G', x1, x2⟩ := ih (i + 1) n (gset G 84 (10 * f i + o i) ((bpo ws f o i + 1 : Nat) : Int)) (by omega) (by omega) (hc.of (gset_ne (by decide)) (gset_ne (by decide))) (by rw [gc (by decide)]; exact hz) (fun j hj => by rw [gc (by decide)]; exact h80 j hj) hB'
        exact ⟨G', x1, (FR.gs (FR.rf _ _) (by decide)).tr x2⟩
      · rw [if_neg c2, if_pos rfl, if_neg (fun h9 => c2 h9.2)]
        exact ⟨_, rfl, FR.gs (FR.rf _ _) (by decide)⟩
    · rw [if_neg c1, ob_eq]
      simp only
      rw [if_pos trivial, if_neg (fun h9 => c1 h9.1)]
      exact ⟨G, rfl, FR.rf _ _⟩
theorem cmp_ok {L : List Hy} {g : Gx} (hL : OkL L) (h : HsC L L.length g) {sz : Nat} {f o : Nat → Nat} (hz : g 78 4 = (sz : Int)) (hl : LgI sz f o (g 80)) : ∃ g', Bd_compare g = some g' ∧ FR [82, 84] g g' ∧ ∀ k, k < L.length → g' 82 k = (wnt (gl L k).2 f o (g 80) sz 0 : Int) := by
  have h30 := hL.2.1
  have l40 := hl.1
  unfold Bd_compare
  have lp : ∀ (d k n : Nat) (G : Gx), k + d = L.length → d < n → FR [82, 84] g G → (∀ j, j < k → G 82 j = (wnt (gl L j).2 f o (g 80) sz 0 : Int)) → ∃ g', Bd_compare_l2 (fun g4 => some g4) n (k : Int) G = some g' ∧ FR [82, 84] g g' ∧ ∀ k, k < L.length → g' 82 k = (wnt (gl L k).2 f o (g 80) sz 0 : Int) := by
    intro d
    induction d with
    | zero =>
      intro k n G hk hn fr h82
      obtain ⟨n, rfl⟩ : ∃ q, n = q + 1 := ⟨n - 1, by omega⟩
      have z9 : G 33 9 = (L.length : Int) := by rw [fr.fld (by decide) (by decide)]; exact h.1
      rw [Bd_compare_l2, show Hi_size G = (L.length : Int) from z9, if_pos (by omega)]
      exact ⟨G, rfl, fr, fun j hj => h82 j (by omega)⟩
    | succ d ih =>
      intro k n G hk hn fr h82
      obtain ⟨n, rfl⟩ : ∃ q, n = q + 1 := ⟨n - 1, by omega⟩
      have z9 : G 33 9 = (L.length : Int) := by rw [fr.fld (by decide) (by decide)]; exact h.1
      have f1 : FR [82, 84] G (rfill G 84 60 0) := (FR.rf _ _).rl (by decide)
      have fr1 := fr.tr f1
      have hc : WC (gl L k).2 k (rfill G 84 60 0) := (ws_c hL h (by omega)).of (fr1.cell (by decide) (by decide)) (fr1.cell (by decide) (by decide))
      obtain ⟨G', x1, x2⟩ := cmp_in (k := k) (ws_ok hL (show k < L.length by omega)) hl (fun x2 g3 => Bd_compare_l2 (fun g4 => some g4) n (wr ((k : Int) + 1)) (rset g3 82 30 (k : Int) x2)) sz 0 fu (rfill G 84 60 0) (by omega) (Nat.lt_of_le_of_lt l40 (fu_big _ (by decide))) hc (by rw [fr1.fld (by decide) (by decide)]; exact hz) (fun j _ => by rw [fr1.cell (by decide) (by decide)]) ⟨fun a b ha hb hab => by
        have : 10 * a + b < 60 := by omega
        simp [rfill, nbf, plc, this], fun a b m hm => by rw [nbf] at hm; omega⟩
      rw [show ((0 : Nat) : Int) = 0 from rfl] at x1
      rw [Bd_compare_l2, show Hi_size G = (L.length : Int) from z9, if_neg (by omega), x1, wr_id (by omega) (by omega), show (k : Int) + 1 = ((k + 1 : Nat) : Int) by omega, rsi (by omega) (by omega), Int.toNat_natCast]
      have fr2 : FR [82, 84] g (gset G' 82 k (wnt (gl L k).2 f o (g 80) sz 0 : Int)) := (fr1.tr (x2.cl (by decide))).gs (by decide)
      refine ih (k + 1) n _ (by omega) (by omega) fr2 (fun j hj => ?_)
      by_cases e : j = k
      · subst e; exact gs_same
      · rw [gs_at e, x2.cell (by decide) (by decide)]
        have : (rfill G 84 60 0) 82 j = G 82 j := by simp [rfill]
        rw [this]
        exact h82 j (by omega)
  exact lp L.length 0 fu g (by omega) (Nat.lt_of_le_of_lt h30 (fu_big _ (by decide))) (FR.rf _ _) (fun j hj => by omega)
