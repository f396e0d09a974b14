/-! The log beside histories: the reference; left, out. Own text. -/
theorem que0 {ws : List Int} (hw : OkW ws) {i : Nat} (hi : i < ws.length) : Md_queueOf (ws.getD i 0) = ((6 * fw ws i + tw ws i : Nat) : Int) := by
  obtain ⟨m, s1, s2, s3, s4, -⟩ := wnum hw hi
  obtain ⟨-, -, n3, n4, -⟩ := okw_num m
  unfold Md_queueOf
  rw [jrem_nn (by omega) (by omega) (by omega) (by omega), show (ws.getD i 0) % 10000 = ws.getD i 0 by omega, show Md_from (ws.getD i 0) = (fw ws i : Int) from s1, show Md_to (ws.getD i 0) = (tw ws i : Int) from s2]
  simp (disch := omega) only [wr_id]
  omega
theorem lft_l {ws : List Int} {k : Nat} {g : Gx} (hw : OkW ws) (hr : WR ws k g) {a b : Nat} (ha : a < 6) (hb : b < 6) (c2 c4 : Int) (K : Int → Gx → Option (Int × Gx)) : ∀ (d w m n : Nat), w + d = ws.length → d < n → m ≤ 100 → Md_isLeft_l63 (k : Int) c2 c4 ((6 * a + b : Nat) : Int) K n (m : Int) (w : Int) g = K (psn ws a b m w : Int) g := by
  have l24 := hw.1
  have h30 := hr.1
  intro d
  induction d with
  | zero =>
    intro w m n hd hn hm
    obtain ⟨n, rfl⟩ : ∃ q, n = q + 1 := ⟨n - 1, by omega⟩
    have e : psn ws a b m w = w := by
      cases m with
      | zero => rw [psn, fnd_end (by omega)]
      | succ m => rw [psn, fnd_end (by omega), if_neg (by omega)]; omega
    rw [Md_isLeft_l63, if_pos (by omega), Int.toNat_natCast, hr.2.1, if_pos (by omega), e]
  | succ d ih =>
    intro w m n hd hn hm
    obtain ⟨n, rfl⟩ : ∃ q, n = q + 1 := ⟨n - 1, by omega⟩
    obtain ⟨-, -, -, s3, s4, -⟩ := wnum hw (show w < ws.length by omega)
    rw [Md_isLeft_l63, if_pos (by omega), Int.toNat_natCast, hr.2.1, if_neg (by omega)]
    simp only [hr.code hw (show w < ws.length by omega), ob_eq]
    rw [que0 hw (by omega), wr_id (x := (w : Int) + 1) (by omega) (by omega), wr_id (x := (m : Int) - 0) (by omega) (by omega), wr_id (x := (m : Int) - 1) (by omega) (by omega), show (w : Int) + 1 = ((w + 1 : Nat) : Int) by omega, show (m : Int) - 0 = (m : Int) by omega]
    by_cases e : isq ws a b w
    · obtain ⟨e1, e2⟩ := id e
      simp only [if_neg (show ¬ ¬ ((6 * fw ws w + tw ws w : Nat) : Int) = ((6 * a + b : Nat) : Int) by omega)]
      cases m with
      | zero => rw [if_pos (by omega), psn, fnd_hit (by omega) e]
      | succ m =>
        rw [if_neg (by omega), psn, fnd_hit (by omega) e, if_pos (by omega), show ((m + 1 : Nat) : Int) - 1 = (m : Int) by omega]
        exact ih (w + 1) m n (by omega) (by omega) (by omega)
    · simp only [if_pos (show ¬ ((6 * fw ws w + tw ws w : Nat) : Int) = ((6 * a + b : Nat) : Int) from fun h9 => e ⟨by omega, by omega⟩)]
      have ep : psn ws a b m w = psn ws a b m (w + 1) := by
        cases m with
        | zero => rw [psn, psn, fnd_no (by omega) e]
        | succ m => rw [psn, psn, fnd_no (by omega) e]
      rw [ep]
      exact ih (w + 1) m n (by omega) (by omega) hm
theorem isl_in {ws : List Int} {k : Nat} (hw : OkW ws) {sz : Nat} {f o : Nat → Nat} {c : Nat → Int} (hl : LgI sz f o c) {nn : Nat} (hnn : nn ≤ sz) (K : Int → Gx → Option (Int × Gx)) : ∀ (d i n : Nat) (G : Gx), i + d = nn → d + 1 < n → WR ws k G → (∀ j, j < sz → G 127 j = c j) → (∀ a b, a < 6 → b < 6 → a ≠ b → G 122 (6 * a + b) = (nbf f o a b i : Int)) → (∀ j, j < i → bear ws f o c j) → ∃ G' v, Md_isLeft_l29 (k : Int) (nn : Int) K n 1 (i : Int) G = K v G' ∧ ((v = 1 ∧ ∀ j, j < nn → bear ws f o c j) ∨ (v = 0 ∧ ¬ ∀ j, j < nn → bear ws f o c j)) := by
  have l24 := hw.1
  have l40 := hl.1
  intro d
  induction d with
  | zero =>
    intro i n G hi hn hr h127 h122 hb
    obtain ⟨n, rfl⟩ : ∃ q, n = q + 1 := ⟨n - 1, by omega⟩
    exact ⟨G, 1, by rw [Md_isLeft_l29, if_pos (by omega)], Or.inl ⟨rfl, fun j hj => hb j (by omega)⟩⟩
  | succ d ih =>
    intro i n G hi hn hr h127 h122 hb
    obtain ⟨n, rfl⟩ : ∃ q, n = q + 1 := ⟨n - 1, by omega⟩
    have h30 := hr.1
    obtain ⟨a1, a2, a3, a4, a5, a6⟩ := hl.2 i (by omega)
    have nl := nbf_le f o (f i) (o i) i
    have ci : 0 ≤ (i : Int) ∧ (i : Int) < 40 := by omega
    have cq : 0 ≤ ((6 * f i + o i : Nat) : Int) ∧ ((6 * f i + o i : Nat) : Int) < 36 := by omega
    have ck : 0 ≤ (k : Int) ∧ (k : Int) < 30 := by omega
    rw [Md_isLeft_l29, if_neg (by omega), if_neg (show ¬ (1 : Int) = 0 by decide)]
    simp only [if_pos ci, Int.toNat_natCast]
    rw [h127 i (by omega), a6]
    simp only [if_pos cq, if_pos ck, Int.toNat_natCast, lett_eq]
    rw [h122 _ _ a1 a2 a3]
    have z := lft_l hw hr a1 a2 (nn : Int) (i : Int) (fun x5 g6 => if (g6 110 k) ≤ x5 then Md_isLeft_l29 (k : Int) (nn : Int) K n 0 (wr ((i : Int) + 1)) (gset g6 122 (6 * f i + o i) (wr ((g6 122 (6 * f i + o i)) + 1))) else Option.bind (Md_code (k : Int) x5 g6) (fun q7 => Md_isLeft_l29 (k : Int) (nn : Int) K n (if ¬ q7.1 = (q7.2 127 i) then 0 else 1) (wr ((i : Int) + 1)) (gset q7.2 122 (6 * f i + o i) (wr ((q7.2 122 (6 * f i + o i)) + 1))))) ws.length 0 (nbf f o (f i) (o i) i) fu (by omega) (Nat.lt_of_le_of_lt l24 (fu_big _ (by decide))) (by omega)
    rw [show ((0 : Nat) : Int) = 0 from rfl] at z
    rw [z, hr.2.1, h122 _ _ a1 a2 a3, wr_id (x := (i : Int) + 1) (by omega) (by omega), show (i : Int) + 1 = ((i + 1 : Nat) : Int) by omega, wr_id (x := (nbf f o (f i) (o i) i : Int) + 1) (by omega) (by omega)]
    have stop : ∀ (G2 : Gx), ¬ bear ws f o c i → ∃ G' v, Md_isLeft_l29 (k : Int) (nn : Int) K n 0 ((i + 1 : Nat) : Int) G2 = K v G' ∧ ((v = 1 ∧ ∀ j, j < nn → bear ws f o c j) ∨ (v = 0 ∧ ¬ ∀ j, j < nn → bear ws f o c j)) := fun G2 nb => by
      obtain ⟨n, rfl⟩ : ∃ q, n = q + 1 := ⟨n - 1, by omega⟩
      refine ⟨G2, 0, ?_, Or.inr ⟨rfl, fun h9 => nb (h9 i (by omega))⟩⟩
      rw [Md_isLeft_l29]
      simp only [if_true]
      split <;> rfl
    by_cases c1 : bpo ws f o i < ws.length
    · have c1' : psn ws (f i) (o i) (nbf f o (f i) (o i) i) 0 < ws.length := c1
      rw [if_neg (by omega), hr.code hw c1', ob_eq]
      simp only
      rw [h122 _ _ a1 a2 a3, wr_id (x := (nbf f o (f i) (o i) i : Int) + 1) (by omega) (by omega)]
      by_cases c2 : ws.getD (bpo ws f o i) 0 = c i
      · rw [if_neg (show ¬ ¬ ws.getD (psn ws (f i) (o i) (nbf f o (f i) (o i) i) 0) 0 = G 127 i from fun h9 => h9 (by rw [h127 i (by omega)]; exact c2))]
        refine ih (i + 1) n _ (by omega) (by omega) (hr.of (gset_ne (by decide)) (gset_ne (by decide))) (fun j hj => by rw [gc (by decide)]; exact h127 j hj) (fun a b ha hb2 hab => ?_) (fun j hj => ?_)
        · rw [nbf]
          by_cases e : f i = a ∧ o i = b
          · obtain ⟨rfl, rfl⟩ := e
            rw [gs_same, if_pos ⟨rfl, rfl⟩]; omega
          · rw [gs_at (show 6 * a + b ≠ 6 * f i + o i from fun h9 => e ⟨by omega, by omega⟩), if_neg e, h122 a b ha hb2 hab]; omega
        · by_cases e : j = i
          · rw [e]; exact ⟨c1, c2⟩
          · exact hb j (by omega)
      · rw [if_pos (show ¬ ws.getD (psn ws (f i) (o i) (nbf f o (f i) (o i) i) 0) 0 = G 127 i from fun h9 => c2 (by rw [← h127 i (by omega)]; exact h9))]
        exact stop _ (fun h9 => c2 h9.2)
    · have c1' : ¬ psn ws (f i) (o i) (nbf f o (f i) (o i) i) 0 < ws.length := c1
      rw [if_pos (by omega)]
      exact stop _ (fun h9 => c1 h9.1)
theorem isl_ok {ws : List Int} {k : Nat} {g : Gx} (hw : OkW ws) (hr : WR ws k g) {sz : Nat} {f o : Nat → Nat} {c : Nat → Int} (hl : LgI sz f o c) (h127 : ∀ j, j < sz → g 127 j = c j) {nn : Nat} (hnn : nn ≤ sz) : ∃ g', Md_isLeft (k : Int) (nn : Int) g = some (if nn ≤ wnt ws f o c sz 0 then 1 else 0, g') := by
  have l40 := hl.1
  unfold Md_isLeft
  have lp : ∀ (d v n : Nat) (G : Gx), v + d = 36 → d < n → WR ws k G → (∀ j, j < sz → G 127 j = c j) → (∀ q, q < v → G 122 q = 0) → ∃ g', Md_isLeft_l5 (k : Int) (nn : Int) 1 (fun g1 => Md_isLeft_l29 (k : Int) (nn : Int) (fun x9 g10 => if x9 = 0 ∨ x9 = 1 then some (x9, g10) else none) fu 1 0 g1) n (v : Int) G = some (if nn ≤ wnt ws f o c sz 0 then 1 else 0, g') := by
    intro d
    induction d with
    | zero =>
      intro v n G hv hn hG h1 h2
      obtain ⟨n, rfl⟩ : ∃ q, n = q + 1 := ⟨n - 1, by omega⟩
      rw [Md_isLeft_l5, if_pos (by omega)]
      obtain ⟨G', x, e1, e2⟩ := isl_in (k := k) hw hl hnn (fun x9 g10 => if x9 = 0 ∨ x9 = 1 then some (x9, g10) else none) nn 0 fu G (by omega) (Nat.lt_of_le_of_lt (show nn + 1 ≤ 41 by omega) (fu_big _ (by decide))) hG h1 (fun a b ha hb _ => by rw [h2 _ (by omega)]; rfl) (fun j hj => by omega)
      rw [show ((0 : Nat) : Int) = 0 from rfl] at e1
      rw [e1]
      rcases e2 with ⟨e2, e3⟩ | ⟨e2, e3⟩
      · rw [if_pos (Or.inr e2), if_pos ((wnt_iff hnn).mp e3), e2]
        exact ⟨G', rfl⟩
      · rw [if_pos (Or.inl e2), if_neg (fun h9 => e3 ((wnt_iff hnn).mpr h9)), e2]
        exact ⟨G', rfl⟩
    | succ d ih =>
      intro v n G hv hn hG h1 h2
      obtain ⟨n, rfl⟩ : ∃ q, n = q + 1 := ⟨n - 1, by omega⟩
      rw [Md_isLeft_l5, if_neg (by omega), if_pos (by omega), wr_id (by omega) (by omega), show (v : Int) + 1 = ((v + 1 : Nat) : Int) by omega, Int.toNat_natCast]
      refine ih (v + 1) n _ (by omega) (by omega) (hG.of (gset_ne (by decide)) (gset_ne (by decide))) (fun j hj => by rw [gc (by decide)]; exact h1 j hj) (fun q hq => ?_)
      by_cases e : q = v
      · subst e; exact gs_same
      · rw [gs_at e]; exact h2 q (by omega)
  exact lp 36 0 fu g (by omega) (fu_big _ (by decide)) hr h127 (fun q hq => by omega)
theorem or_30 {m x : Nat} (hm : m < 1073741824) (hx : x < 30) : jor (m : Int) (jshl 1 (x : Int)) = ((m ||| 2 ^ x : Nat) : Int) ∧ m ||| 2 ^ x < 1073741824 := by
  have l : 2 ^ x < 2 ^ 30 := Nat.pow_lt_pow_right (by decide) hx
  rw [jshl_one x (by omega), jor_nn (by omega) (by omega)]
  exact ⟨rfl, Nat.or_lt_two_pow (n := 30) hm l⟩
theorem jor_00 {m : Nat} (hm : m < 1073741824) : jor (m : Int) 0 = (m : Int) := by
  have := jor_nn (a := m) (b := 0) (by omega) (by decide)
  rw [Nat.or_zero] at this
  exact this
/-- a mask of the histories left by n -/
def LBm (N : Nat) (B : Nat → Nat) (n r : Nat) : Prop := r < 1073741824 ∧ ∀ k, r.testBit k = true ↔ (k < N ∧ n ≤ B k)
theorem LBm.one {N : Nat} {B : Nat → Nat} {n r r' : Nat} (h : LBm N B n r) (h' : LBm N B n r') : r = r' := by
  apply Nat.eq_of_testBit_eq
  intro k
  rw [Bool.eq_iff_iff, h.2 k, h'.2 k]
theorem LBm.zero {N : Nat} {B : Nat → Nat} {n r : Nat} (h : LBm N B n r) : r = 0 ↔ ¬ ∃ k, k < N ∧ n ≤ B k := by
  constructor
  · rintro rfl ⟨k, h1, h2⟩
    have := (h.2 k).mpr ⟨h1, h2⟩
    rw [Nat.zero_testBit] at this
    exact absurd this (by decide)
  · intro hn
    apply Nat.eq_of_testBit_eq
    intro k
    rw [Nat.zero_testBit]
    cases hq : r.testBit k with
    | false => rfl
    | true => exact absurd ⟨k, (h.2 k).mp hq⟩ hn
theorem bit_no {N : Nat} {B : Nat → Nat} {n m k : Nat} (hb : ∀ y, m.testBit y = true ↔ (y < k ∧ n ≤ B y)) (h : ¬ n ≤ B k) : ∀ y, m.testBit y = true ↔ (y < k + 1 ∧ n ≤ B y) := fun y => by
  rw [hb y]
  constructor
  · rintro ⟨a, b⟩; exact ⟨by omega, b⟩
  · rintro ⟨a, b⟩
    by_cases e : y = k
    · subst e; exact absurd b h
    · exact ⟨by omega, b⟩
theorem bit_yes {N : Nat} {B : Nat → Nat} {n m k : Nat} (hb : ∀ y, m.testBit y = true ↔ (y < k ∧ n ≤ B y)) (h : n ≤ B k) : ∀ y, (m ||| 2 ^ k).testBit y = true ↔ (y < k + 1 ∧ n ≤ B y) := fun y => by
  rw [tb_or1, hb y]
  constructor
  · rintro (⟨a, b⟩ | rfl)
    · exact ⟨by omega, b⟩
    · exact ⟨by omega, h⟩
  · rintro ⟨a, b⟩
    by_cases e : y = k
    · exact Or.inr e
    · exact Or.inl ⟨by omega, b⟩
theorem lbC {N : Nat} {B : Nat → Nat} {g : Gx} (hz : g 33 9 = (N : Int)) (h30 : N ≤ 30) (h82 : ∀ k, k < N → g 82 k = (B k : Int)) (n : Nat) : ∃ r : Nat, Bd_leftBy (n : Int) g = some ((r : Int), g) ∧ LBm N B n r := by
  unfold Bd_leftBy
  have lp : ∀ (d k fu' m : Nat), k + d = N → d < fu' → m < 1073741824 → (∀ y, m.testBit y = true ↔ (y < k ∧ n ≤ B y)) → ∃ r : Nat, Bd_leftBy_l4 (n : Int) (fun x1 g2 => some (x1, g2)) fu' (m : Int) (k : Int) g = some ((r : Int), g) ∧ LBm N B n r := by
    intro d
    induction d with
    | zero =>
      intro k fu' m hk hn hm hb
      obtain ⟨fu', rfl⟩ : ∃ q, fu' = q + 1 := ⟨fu' - 1, by omega⟩
      obtain rfl : k = N := by omega
      exact ⟨m, by rw [Bd_leftBy_l4, show Hi_size g = (k : Int) from hz, if_pos (by omega)], hm, hb⟩
    | succ d ih =>
      intro k fu' m hk hn hm hb
      obtain ⟨fu', rfl⟩ : ∃ q, fu' = q + 1 := ⟨fu' - 1, by omega⟩
      rw [Bd_leftBy_l4, show Hi_size g = (N : Int) from hz, if_neg (by omega), rat_in (by omega) (by omega), Int.toNat_natCast, h82 k (by omega), wr_id (by omega) (by omega), show (k : Int) + 1 = ((k + 1 : Nat) : Int) by omega, jor_00 hm, (or_30 hm (show k < 30 by omega)).1]
      by_cases c : n ≤ B k
      · rw [if_neg (by omega)]
        exact ih (k + 1) fu' _ (by omega) (by omega) (or_30 hm (by omega)).2 (bit_yes (N := N) hb c)
      · rw [if_pos (by omega)]
        exact ih (k + 1) fu' m (by omega) (by omega) hm (bit_no (N := N) hb c)
  exact lp N 0 fu 0 (by omega) (Nat.lt_of_le_of_lt h30 (fu_big _ (by decide))) (by decide) (fun y => by rw [Nat.zero_testBit]; simp)
theorem lbR {L : List Hy} {g : Gx} (hL : OkL L) (h : HsR L L.length g) {sz : Nat} {f o : Nat → Nat} {c : Nat → Int} (hl : LgI sz f o c) (h127 : ∀ j, j < sz → g 127 j = c j) {n : Nat} (hn : n ≤ sz) : ∃ (r : Nat) (g' : Gx), Md_leftBy (n : Int) g = some ((r : Int), g') ∧ LBm L.length (fun k => wnt (gl L k).2 f o c sz 0) n r := by
  have h30 := hL.2.1
  unfold Md_leftBy
  have lp : ∀ (d k fu' m : Nat) (G : Gx), k + d = L.length → d < fu' → m < 1073741824 → FR [122] g G → (∀ y, m.testBit y = true ↔ (y < k ∧ n ≤ wnt (gl L y).2 f o c sz 0)) → ∃ (r : Nat) (g' : Gx), Md_leftBy_l4 (n : Int) (fun x2 g3 => some (x2, g3)) fu' (m : Int) (k : Int) G = some ((r : Int), g') ∧ LBm L.length (fun k => wnt (gl L k).2 f o c sz 0) n r := by
    intro d
    induction d with
    | zero =>
      intro k fu' m G hk hn hm fr hb
      obtain ⟨fu', rfl⟩ : ∃ q, fu' = q + 1 := ⟨fu' - 1, by omega⟩
      obtain rfl : k = L.length := by omega
      exact ⟨m, G, by rw [Md_leftBy_l4, fr.fld (q := 92) (j := 26) (by decide) (by decide), h.1, if_pos (by omega)], hm, hb⟩
    | succ d ih =>
      intro k fu' m G hk hn' hm fr hb
      obtain ⟨fu', rfl⟩ : ∃ q, fu' = q + 1 := ⟨fu' - 1, by omega⟩
      obtain ⟨G', e⟩ := isl_ok (ws_ok hL (show k < L.length by omega)) ((ws_r hL h (show k < L.length by omega)).of (fr.cell (by decide) (by decide)) (fr.cell (by decide) (by decide))) hl (g := G) (fun j hj => by rw [fr.cell (q := 127) (by decide) (by decide)]; exact h127 j hj) hn
      have fr2 := fr.tr (fr_Md_isLeft _ _ _ _ _ e)
      rw [Md_leftBy_l4, fr.fld (q := 92) (j := 26) (by decide) (by decide), h.1, if_neg (by omega), e, ob_eq]
      simp only
      rw [wr_id (by omega) (by omega), show (k : Int) + 1 = ((k + 1 : Nat) : Int) by omega, jor_00 hm, (or_30 hm (show k < 30 by omega)).1]
      by_cases c' : n ≤ wnt (gl L k).2 f o c sz 0
      · rw [if_pos c', if_neg (show ¬ (1 : Int) = 0 by decide)]
        exact ih (k + 1) fu' _ G' (by omega) (by omega) (or_30 hm (by omega)).2 fr2 (bit_yes (N := L.length) (B := fun y => wnt (gl L y).2 f o c sz 0) hb c')
      · rw [if_neg c', if_pos rfl]
        exact ih (k + 1) fu' m G' (by omega) (by omega) hm fr2 (bit_no (N := L.length) (B := fun y => wnt (gl L y).2 f o c sz 0) hb c')
  exact lp L.length 0 fu 0 g (by omega) (Nat.lt_of_le_of_lt h30 (fu_big _ (by decide))) (by decide) (FR.rf _ _) (fun y => by rw [Nat.zero_testBit]; simp)
def mxB (B : Nat → Nat) : Nat → Nat
  | 0 => 0
  | k + 1 => max (mxB B k) (B k)
theorem mxB_iff (B : Nat → Nat) {n : Nat} (hn : 0 < n) : ∀ N, n ≤ mxB B N ↔ ∃ k, k < N ∧ n ≤ B k := by
  intro N
  induction N with
  | zero => exact ⟨fun h => by rw [mxB] at h; omega, fun ⟨k, h, _⟩ => by omega⟩
  | succ N ih =>
    rw [mxB]
    constructor
    · intro h
      by_cases c : n ≤ B N
      · exact ⟨N, by omega, c⟩
      · obtain ⟨k, a, b⟩ := ih.mp (by omega)
        exact ⟨k, by omega, b⟩
    · rintro ⟨k, a, b⟩
      by_cases c : k = N
      · rw [← c]; omega
      · have := ih.mpr ⟨k, by omega, b⟩
        omega
theorem mxB_le {B : Nat → Nat} {sz : Nat} (h : ∀ k, B k ≤ sz) : ∀ N, mxB B N ≤ sz := by
  intro N
  induction N with
  | zero => rw [mxB]; omega
  | succ N ih => rw [mxB]; have := h N; omega
theorem mbC {N : Nat} {B : Nat → Nat} {g : Gx} (hz : g 33 9 = (N : Int)) (h30 : N ≤ 30) (h82 : ∀ k, k < N → g 82 k = (B k : Int)) : Bd_mostBorne g = some ((mxB B N : Int), g) := by
  unfold Bd_mostBorne
  have lp : ∀ (d k n : Nat), k + d = N → d < n → Bd_mostBorne_l4 (fun x1 g2 => some (x1, g2)) n (mxB B k : Int) (k : Int) g = some ((mxB B N : Int), g) := by
    intro d
    induction d with
    | zero =>
      intro k n hk hn
      obtain ⟨n, rfl⟩ : ∃ q, n = q + 1 := ⟨n - 1, by omega⟩
      rw [Bd_mostBorne_l4, show Hi_size g = (N : Int) from hz, if_pos (by omega), show k = N by omega]
    | succ d ih =>
      intro k n hk hn
      obtain ⟨n, rfl⟩ : ∃ q, n = q + 1 := ⟨n - 1, by omega⟩
      have nx := ih (k + 1) n (by omega) (by omega)
      rw [mxB] at nx
      rw [Bd_mostBorne_l4, show Hi_size g = (N : Int) from hz, if_neg (by omega), rat_in (by omega) (by omega), Int.toNat_natCast, h82 k (by omega), imax_nn, wr_id (by omega) (by omega), show (k : Int) + 1 = ((k + 1 : Nat) : Int) by omega]
      exact nx
  exact lp N 0 fu (by omega) (Nat.lt_of_le_of_lt h30 (fu_big _ (by decide)))
theorem outR {L : List Hy} {g : Gx} (hL : OkL L) (h : HsR L L.length g) {sz : Nat} {f o : Nat → Nat} {c : Nat → Int} (hl : LgI sz f o c) (hz : g 92 48 = (sz : Int)) (h127 : ∀ j, j < sz → g 127 j = c j) : ∃ g', Md_outOf g = some (if mxB (fun k => wnt (gl L k).2 f o c sz 0) L.length < sz then (mxB (fun k => wnt (gl L k).2 f o c sz 0) L.length : Int) else -1, g') := by
  have l40 := hl.1
  unfold Md_outOf
  have lp : ∀ (d i n : Nat) (G : Gx), i + d = sz → d < n → FR [122] g G → i ≤ mxB (fun k => wnt (gl L k).2 f o c sz 0) L.length → ∃ g', Md_outOf_l2 (fun g2 => some ((-1), g2)) n (i : Int) G = some (if mxB (fun k => wnt (gl L k).2 f o c sz 0) L.length < sz then (mxB (fun k => wnt (gl L k).2 f o c sz 0) L.length : Int) else -1, g') := by
    intro d
    induction d with
    | zero =>
      intro i n G hi hn fr hm
      obtain ⟨n, rfl⟩ : ∃ q, n = q + 1 := ⟨n - 1, by omega⟩
      rw [Md_outOf_l2, fr.fld (q := 92) (j := 48) (by decide) (by decide), hz, if_pos (by omega), if_neg (by omega)]
      exact ⟨G, rfl⟩
    | succ d ih =>
      intro i n G hi hn fr hm
      obtain ⟨n, rfl⟩ : ∃ q, n = q + 1 := ⟨n - 1, by omega⟩
      have hG : HsR L L.length G := by
        obtain ⟨x, y⟩ := h
        refine ⟨by rw [fr.fld (by decide) (by decide)]; exact x, ?_⟩
        rw [fr.cell (q := 110) (by decide) (by decide), fr.cell (q := 111) (by decide) (by decide), fr.cell (q := 112) (by decide) (by decide), fr.cell (q := 113) (by decide) (by decide)]
        exact y
      obtain ⟨r, G', e1, e2⟩ := lbR hL hG hl (fun j hj => by rw [fr.cell (q := 127) (by decide) (by decide)]; exact h127 j hj) (n := i + 1) (by omega)
      rw [Md_outOf_l2, fr.fld (q := 92) (j := 48) (by decide) (by decide), hz, if_neg (by omega), wr_id (by omega) (by omega), show (i : Int) + 1 = ((i + 1 : Nat) : Int) by omega, e1, ob_eq]
      simp only
      have key := mxB_iff (fun k => wnt (gl L k).2 f o c sz 0) (n := i + 1) (by omega) L.length
      by_cases c' : r = 0
      · have := e2.zero.mp c'
        have nl : ¬ i + 1 ≤ mxB (fun k => wnt (gl L k).2 f o c sz 0) L.length := fun h9 => this (key.mp h9)
        rw [if_neg (fun h9 => h9 (by omega)), if_pos (by omega), show mxB (fun k => wnt (gl L k).2 f o c sz 0) L.length = i by omega]
        exact ⟨G', rfl⟩
      · rw [if_pos (by omega)]
        have yl : i + 1 ≤ mxB (fun k => wnt (gl L k).2 f o c sz 0) L.length := by
          by_cases h9 : i + 1 ≤ mxB (fun k => wnt (gl L k).2 f o c sz 0) L.length
          · exact h9
          · exact absurd (e2.zero.mpr (fun h8 => h9 (key.mpr h8))) c'
        exact ih (i + 1) n G' (by omega) (by omega) (fr.tr (fr_Md_leftBy _ _ _ _ e1)) yl
  exact lp sz 0 fu g (by omega) (Nat.lt_of_le_of_lt l40 (fu_big _ (by decide))) (FR.rf _ _) (by omega)
/-- both compared with the log -/
theorem log_both {T : Nat} {t pt : List Int} {u : Int} {g1 : Gx} (b : Both T t pt u g1) : ∃ (sz : Nat) (f o : Nat → Nat) (B : Nat → Nat) (g2 g3 : Gx), g1 78 4 = (sz : Int) ∧ LgI sz f o (g1 80) ∧ B = (fun k => wnt (gl (pD t u) k).2 f o (g1 80) sz 0) ∧ (∀ k, B k ≤ sz) ∧ Bd_compare g1 = some g2 ∧ Inv T t pt u g2 ∧ g2 33 9 = ((pD t u).length : Int) ∧ (∀ k, k < (pD t u).length → g2 82 k = (B k : Int)) ∧ g2 78 4 = (sz : Int) ∧ g2 80 = g1 80 ∧ FR [82, 84] g1 g2 ∧ Md_without g2 = some (0, g3) ∧ Inv T t pt u g3 ∧ HsR (pD t u) (pD t u).length g3 ∧ g3 92 48 = (sz : Int) ∧ ∀ i, i < sz → g3 127 i = g1 80 i := by
  obtain ⟨b1, b2, b3, b4, b5, b6⟩ := b
  obtain ⟨sz, f, o, e1, e2, e3, e4⟩ := lg_of b1.2.2.2.2.2.2.1
  obtain ⟨g2, c1, c2, c3⟩ := cmp_ok b4 b3.2.2.2 e1 e3
  have i2 := b1.fr (c2.cl (by decide))
  obtain ⟨g3, y, z, w, x⟩ := b6 g2 i2
  refine ⟨sz, f, o, _, g2, g3, e1, e3, rfl, fun k => ?_, c1, i2, by rw [c2.fld (by decide) (by decide)]; exact b3.2.2.2.1, c3, by rw [c2.fld (by decide) (by decide)]; exact e1, c2.cell (by decide) (by decide), c2, y, z, w, ?_, fun i hi => ?_⟩
  · have := (wnt_ok (ws := (gl (pD t u) k).2) (f := f) (o := o) (c := g1 80) sz 0).2.1
    omega
  · rw [x.fld (by decide) (by decide), c2.fld (by decide) (by decide)]; exact e2
  · rw [x.cell (by decide) (by decide), c2.cell (by decide) (by decide)]; exact e4 i hi
theorem st_left {T : Nat} {t pt : List Int} {u : Int} {g : Gx} (h : Inv T t pt u g) (hT : T < 80000) (a1 : Int) : ∃ r g1 g2, Op_left a1 g = some (r, g1) ∧ Md_left a1 g1 = some (r, g2) ∧ Inv (T + 2) t pt u g2 := by
  obtain ⟨l1, l2, l3⟩ := h.2.2.2.2.2.2.1
  unfold Op_left Bd_size
  by_cases c : 0 ≤ a1 ∧ a1 ≤ g 78 4
  · rw [if_neg (by omega), if_pos c.2]
    rcases hw_ok h hT 0 with ⟨r, g1, g2, a, b, c', d, e⟩ | ⟨g1, a, b⟩
    · have fl : g1 92 48 = g 78 4 := by rw [← l1]; exact (fr_Op_hindrance _ _ _ _ b).fld (by decide) (by decide)
      refine ⟨r, g1, g2, ?_, ?_, e⟩
      · rw [b, ob_eq]; simp only; rw [if_neg (by omega)]
      · unfold Md_left
        rw [if_pos (fun h9 => in_iff.mp h9 (by rw [fl]; exact c)), d, ob_eq]; simp only; rw [if_neg (by omega)]
    · have hl := b.2.2.2.1.1
      have h30 := b.2.2.2.1.2.1
      have f78 : g1 78 4 = g 78 4 := (fr_Op_hindrance _ _ _ _ a).fld (by decide) (by decide)
      obtain ⟨sz, f, o, B, g2, g3, e1, e2, e3, e4, e5, e6, e7, e8, e9, e10, e11, e12, e13, e14, e15, e16⟩ := log_both b
      obtain ⟨n, rfl⟩ := Int.eq_ofNat_of_zero_le c.1
      obtain ⟨r, q1, q2⟩ := lbC e7 h30 e8 n
      obtain ⟨r', g4, p1, p2⟩ := lbR b.2.2.2.1 e14 e2 e16 (n := n) (by omega)
      rw [← e3] at p2
      have er := q2.one p2
      refine ⟨(r : Int), g2, g4, ?_, ?_, e13.fr ((fr_Md_leftBy _ _ _ _ p1).cl (by decide))⟩
      · rw [a, ob_eq]
        simp only
        rw [if_neg (show ¬ ((pD t u).length : Int) ≤ 0 by omega), if_pos rfl, e5, ob_eq, q1, ob_eq]
      · unfold Md_left
        have i2 := e6.2.2.2.2.2.2.1.1
        rw [if_pos (fun h9 => in_iff.mp h9 (by rw [i2]; omega)), e12, ob_eq]
        simp only
        rw [if_pos trivial, p1, ob_eq, er]
  · refine ⟨-2, g, g, ?_, ?_, h.more (by omega)⟩
    · by_cases c2 : a1 < 0
      · rw [if_pos c2]
      · rw [if_neg c2, if_neg (by omega)]
    · unfold Md_left
      rw [if_neg (fun h9 => h9 (in_iff.mpr (by rw [l1]; exact c)))]
theorem st_out {T : Nat} {t pt : List Int} {u : Int} {g : Gx} (h : Inv T t pt u g) (hT : T < 80000) (a1 : Int) : ∃ r g1 g2, Op_out a1 g = some (r, g1) ∧ Md_out a1 g1 = some (r, g2) ∧ Inv (T + 2) t pt u g2 := by
  unfold Op_out Md_out
  by_cases c : 0 ≤ a1 ∧ a1 ≤ 1
  · have n1 : ¬ Md_in a1 0 1 = 0 := fun h9 => in_iff.mp h9 c
    simp only [if_neg (show ¬ a1 < 0 by omega), if_pos c.2, if_pos n1]
    rcases hw_ok h hT 0 with ⟨r, g1, g2, a, b, c', d, e⟩ | ⟨g1, a, b⟩
    · refine ⟨r, g1, g2, ?_, ?_, e⟩
      · rw [b, ob_eq]; simp only; rw [if_neg (by omega)]
      · rw [d, ob_eq]; simp only; rw [if_neg (by omega)]
    · have hl := b.2.2.2.1.1
      have h30 := b.2.2.2.1.2.1
      obtain ⟨sz, f, o, B, g2, g3, e1, e2, e3, e4, e5, e6, e7, e8, e9, e10, e11, e12, e13, e14, e15, e16⟩ := log_both b
      have mb := mbC e7 h30 e8
      obtain ⟨g4, p1⟩ := outR b.2.2.2.1 e14 e2 e15 e16
      rw [← e3] at p1
      have fo := fr_Md_outOf _ _ _ p1
      have i4 := e13.fr (fo.cl (by decide))
      have l40 := e2.1
      rw [a, ob_eq]
      simp only
      rw [if_neg (show ¬ ((pD t u).length : Int) ≤ 0 by omega), if_pos rfl, e5, ob_eq]
      by_cases c3 : mxB B (pD t u).length < sz
      · rw [if_pos c3] at p1
        by_cases c2 : a1 = 0
        · rw [if_neg (fun h9 => h9 c2)]
          unfold Bd_firstOut
          rw [mb, ob_eq]
          simp only
          rw [e9, if_neg (by omega), ob_eq]
          refine ⟨_, g2, g4, rfl, ?_, i4⟩
          rw [e12, ob_eq]
          simp only [if_true]
          rw [p1, ob_eq]
          simp only
          rw [if_neg (by omega), if_neg (fun h9 => h9 c2)]
        · rw [if_pos c2]
          unfold Bd_blamed
          rw [mb, ob_eq]
          simp only
          rw [e9, if_neg (by omega), ob_eq]
          refine ⟨_, g2, g4, rfl, ?_, i4⟩
          rw [e12, ob_eq]
          simp only [if_true]
          rw [p1, ob_eq]
          simp only
          rw [if_neg (by omega), if_pos c2, if_pos (by omega), Int.toNat_natCast, rat_in (by omega) (by omega), Int.toNat_natCast, fo.cell (q := 127) (by decide) (by decide), e16 _ c3, e10]
          rfl
      · rw [if_neg c3] at p1
        by_cases c2 : a1 = 0
        · rw [if_neg (fun h9 => h9 c2)]
          unfold Bd_firstOut
          rw [mb, ob_eq]
          simp only
          rw [e9, if_pos (by omega), ob_eq]
          refine ⟨_, g2, g4, rfl, ?_, i4⟩
          rw [e12, ob_eq]
          simp only [if_true]
          rw [p1, ob_eq]
          simp only
          rw [if_pos trivial]
        · rw [if_pos c2]
          unfold Bd_blamed
          rw [mb, ob_eq]
          simp only
          rw [e9, if_pos (by omega), ob_eq]
          refine ⟨_, g2, g4, rfl, ?_, i4⟩
          rw [e12, ob_eq]
          simp only [if_true]
          rw [p1, ob_eq]
          simp only
          rw [if_pos trivial]
  · have n1 : Md_in a1 0 1 = 0 := in_iff.mpr c
    refine ⟨-2, g, g, ?_, by rw [if_neg (fun h9 => h9 n1)], h.more (by omega)⟩
    by_cases c2 : a1 < 0
    · rw [if_pos c2]
    · rw [if_neg c2, if_neg (by omega)]
