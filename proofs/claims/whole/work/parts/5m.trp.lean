/-! One history's words, of both. Own text. -/
def OkW (ws : List Int) : Prop := ws.length ≤ 24 ∧ ∀ x ∈ ws, okw x
def fw (ws : List Int) (i : Nat) : Nat := (ws.getD i 0 / 1000).toNat
def tw (ws : List Int) (i : Nat) : Nat := (ws.getD i 0 / 100 % 10).toNat
theorem wnum {ws : List Int} (h : OkW ws) {i : Nat} (hi : i < ws.length) : okw (ws.getD i 0) ∧ Op_sayer (ws.getD i 0) = (fw ws i : Int) ∧ Op_getter (ws.getD i 0) = (tw ws i : Int) ∧ fw ws i < 6 ∧ tw ws i < 6 ∧ fw ws i ≠ tw ws i := by
  have m : okw (ws.getD i 0) := h.2 _ (by rw [List.getD_eq_getElem?_getD, List.getElem?_eq_getElem hi]; exact List.getElem_mem hi)
  obtain ⟨n1, n2, n3, n4, n5, n6, n7, n8, n9, -⟩ := okw_num m
  unfold fw tw
  exact ⟨m, by rw [n1]; omega, by rw [n2]; omega, by omega, by omega, by omega⟩
def WC (ws : List Int) (k : Nat) (g : Gx) : Prop := Hi_length (k : Int) g = (ws.length : Int) ∧ ∀ i : Nat, i < ws.length → Hi_word (k : Int) (i : Int) g = ws.getD i 0
def WR (ws : List Int) (k : Nat) (g : Gx) : Prop := k < 30 ∧ g 110 k = (ws.length : Int) ∧ ∀ i : Nat, i < ws.length → g 111 (24 * k + i) = ws.getD i 0
theorem WC.of {ws : List Int} {k : Nat} {g G : Gx} (h : WC ws k g) (e1 : G 35 = g 35) (e2 : G 37 = g 37) : WC ws k G := by
  unfold WC Hi_length Hi_word rat at *
  rw [e1, e2]
  exact h
theorem WR.of {ws : List Int} {k : Nat} {g G : Gx} (h : WR ws k g) (e1 : G 110 = g 110) (e2 : G 111 = g 111) : WR ws k G := by
  unfold WR at *
  rw [e1, e2]
  exact h
theorem WR.code {ws : List Int} {k : Nat} {g : Gx} (h : WR ws k g) (hw : OkW ws) {i : Nat} (hi : i < ws.length) : Md_code (k : Int) (i : Int) g = some (ws.getD i 0, g) := by
  have l24 := hw.1
  have h30 := h.1
  unfold Md_code
  rw [show wr (wr (24 * (k : Int)) + (i : Int)) = ((24 * k + i : Nat) : Int) by simp (disch := omega) only [wr_id]; omega, if_pos (by omega), Int.toNat_natCast, h.2.2 i hi]
theorem ws_ok {L : List Hy} (hL : OkL L) {k : Nat} (hk : k < L.length) : OkW (gl L k).2 := hL.2.2 _ (List.mem_of_getElem? (gl_at hk))
theorem ws_c {L : List Hy} {g : Gx} (hL : OkL L) (h : HsC L L.length g) {k : Nat} (hk : k < L.length) : WC (gl L k).2 k g := len_word hL h.wd hk
theorem ws_r {L : List Hy} {g : Gx} (hL : OkL L) (h : HsR L L.length g) {k : Nat} (hk : k < L.length) : WR (gl L k).2 k g := by
  have h30 := hL.2.1
  obtain ⟨a, b⟩ := h.wd.2 k _ (gl_at hk)
  exact ⟨by omega, a, fun i hi => by rw [b i _ (List.getElem?_eq_getElem hi)]; simp [List.getD_eq_getElem?_getD, hi]⟩
/-! The longest chain. -/
def mxc (ws : List Int) (f : Nat → Nat) (w : Nat) : Nat → Nat
  | 0 => 0
  | v + 1 => if tw ws v = fw ws w then max (mxc ws f w v) (f v) else mxc ws f w v
def chs (ws : List Int) : Nat → Nat → Nat
  | 0 => fun _ => 0
  | n + 1 => fun i => if i = n then mxc ws (chs ws n) n n + 1 else chs ws n i
def chn (ws : List Int) (i : Nat) : Nat := chs ws (i + 1) i
def bsc (ws : List Int) : Nat → Nat
  | 0 => 0
  | n + 1 => max (bsc ws n) (chn ws n)
theorem mxc_cg {ws : List Int} {f h : Nat → Nat} {w : Nat} : ∀ v, (∀ i, i < v → f i = h i) → mxc ws f w v = mxc ws h w v := by
  intro v
  induction v with
  | zero => intro _; rfl
  | succ v ih =>
    intro e
    rw [mxc, mxc, ih (fun i hi => e i (by omega)), e v (by omega)]
theorem chs_st (ws : List Int) (i : Nat) : ∀ n, i < n → chs ws n i = chn ws i := by
  intro n
  induction n with
  | zero => intro h; omega
  | succ n ih =>
    intro h
    by_cases c : i = n
    · subst c; rfl
    · rw [chs]
      simp only [if_neg c]
      exact ih (by omega)
theorem chn_eq (ws : List Int) (w : Nat) : chn ws w = mxc ws (chn ws) w w + 1 := by
  unfold chn
  rw [chs]
  simp only [if_true]
  rw [mxc_cg w (fun i hi => chs_st ws i w hi)]
  rfl
theorem mxc_le {ws : List Int} {f : Nat → Nat} {w : Nat} : ∀ v, (∀ i, i < v → f i ≤ i + 1) → mxc ws f w v ≤ v := by
  intro v
  induction v with
  | zero => intro _; exact Nat.le_refl _
  | succ v ih =>
    intro e
    have a := ih (fun i hi => e i (by omega))
    have b := e v (by omega)
    rw [mxc]
    split <;> omega
theorem chn_le (ws : List Int) : ∀ w, chn ws w ≤ w + 1 := by
  intro w
  induction w using Nat.strongRecOn with
  | ind w ih =>
    rw [chn_eq]
    have := mxc_le (ws := ws) (f := chn ws) (w := w) w (fun i hi => ih i hi)
    omega
theorem bsc_le (ws : List Int) : ∀ n, bsc ws n ≤ n := by
  intro n
  induction n with
  | zero => exact Nat.le_refl _
  | succ n ih => have := chn_le ws n; rw [bsc]; omega
theorem imax_nn (a b : Nat) : imax (a : Int) (b : Int) = ((max a b : Nat) : Int) := by
  unfold imax
  split <;> omega
theorem chC_in {ws : List Int} {k : Nat} {g : Gx} (hw : OkW ws) (hc : WC ws k g) {w : Nat} (hlt : w < ws.length) (h68 : ∀ i, i < w → g 68 i = (chn ws i : Int)) (c2 : Int) (K : Int → Gx → Option (Int × Gx)) : ∀ (d v n : Nat), v + d = w → d < n → Rn_chain_l22 (k : Int) c2 (w : Int) K n (mxc ws (chn ws) w v : Int) (v : Int) g = K (mxc ws (chn ws) w w : Int) g := by
  have l24 := hw.1
  obtain ⟨-, s1, -⟩ := wnum hw hlt
  intro d
  induction d with
  | zero =>
    intro v n hv hn
    obtain ⟨n, rfl⟩ : ∃ q, n = q + 1 := ⟨n - 1, by omega⟩
    rw [Rn_chain_l22, if_pos (by omega), show v = w by omega]
  | succ d ih =>
    intro v n hv hn
    obtain ⟨n, rfl⟩ : ∃ q, n = q + 1 := ⟨n - 1, by omega⟩
    obtain ⟨-, -, s2, -⟩ := wnum hw (show v < ws.length by omega)
    have nx := ih (v + 1) n (by omega) (by omega)
    rw [mxc] at nx
    rw [Rn_chain_l22, if_neg (by omega), hc.2 v (by omega), hc.2 w hlt, s1, s2, wr_id (by omega) (by omega), show (v : Int) + 1 = ((v + 1 : Nat) : Int) by omega]
    by_cases c : tw ws v = fw ws w
    · rw [if_neg (by omega), rat_in (by omega) (by omega), Int.toNat_natCast, h68 v (by omega), imax_nn]
      rw [if_pos c] at nx
      exact nx
    · rw [if_pos (by omega)]
      rw [if_neg c] at nx
      exact nx
theorem chC_ok {ws : List Int} {k : Nat} {g : Gx} (hw : OkW ws) (hc : WC ws k g) : ∃ g', Rn_chain (k : Int) g = some ((bsc ws ws.length : Int), g') := by
  have l24 := hw.1
  unfold Rn_chain
  have lp : ∀ (d w n : Nat) (G : Gx), w + d = ws.length → d < n → WC ws k G → (∀ i, i < w → G 68 i = (chn ws i : Int)) → ∃ g', Rn_chain_l4 (k : Int) (fun x3 g4 => some (x3, g4)) n (bsc ws w : Int) (w : Int) G = some ((bsc ws ws.length : Int), g') := by
    intro d
    induction d with
    | zero =>
      intro w n G hv hn hG h68
      obtain ⟨n, rfl⟩ : ∃ q, n = q + 1 := ⟨n - 1, by omega⟩
      rw [Rn_chain_l4, hG.1, if_pos (by omega), show w = ws.length by omega]
      exact ⟨G, rfl⟩
    | succ d ih =>
      intro w n G hv hn hG h68
      obtain ⟨n, rfl⟩ : ∃ q, n = q + 1 := ⟨n - 1, by omega⟩
      have ml := mxc_le (ws := ws) (f := chn ws) (w := w) w (fun i _ => chn_le ws i)
      have z := chC_in hw hG (w := w) (by omega) h68 (bsc ws w : Int) (fun x1 g2 => Rn_chain_l4 (k : Int) (fun x3 g4 => some (x3, g4)) n (imax (bsc ws w : Int) (wr (x1 + 1))) (wr ((w : Int) + 1)) (rset g2 68 24 (w : Int) (wr (x1 + 1)))) w 0 fu (by omega) (Nat.lt_of_le_of_lt (show w ≤ 24 by omega) (fu_big _ (by decide)))
      rw [show ((mxc ws (chn ws) w 0 : Nat) : Int) = 0 from rfl, show ((0 : Nat) : Int) = 0 from rfl] at z
      rw [Rn_chain_l4, hG.1, if_neg (by omega), z, wr_id (x := (mxc ws (chn ws) w w : Int) + 1) (by omega) (by omega), wr_id (x := (w : Int) + 1) (by omega) (by omega), show (w : Int) + 1 = ((w + 1 : Nat) : Int) by omega, show (mxc ws (chn ws) w w : Int) + 1 = (chn ws w : Int) by rw [chn_eq]; omega, imax_nn, rsi (by omega) (by omega), Int.toNat_natCast]
      refine ih (w + 1) n _ (by omega) (by omega) (hG.of (gset_ne (by decide)) (gset_ne (by decide))) (fun i hi => ?_)
      by_cases e : i = w
      · subst e; exact gs_same
      · rw [gs_at e]; exact h68 i (by omega)
  exact lp ws.length 0 fu g (by omega) (Nat.lt_of_le_of_lt l24 (fu_big _ (by decide))) hc (fun i hi => by omega)
theorem chR_in {ws : List Int} {k : Nat} (hw : OkW ws) {w : Nat} (hlt : w < ws.length) (c2 : Int) (K : Gx → Option (Int × Gx)) : ∀ (d v n : Nat) (G : Gx), v + d = w → d < n → WR ws k G → (∀ i, i < w → G 126 i = (chn ws i : Int)) → G 126 w = ((mxc ws (chn ws) w v + 1 : Nat) : Int) → ∃ G', Md_chainOf_l24 (k : Int) c2 (w : Int) K n (v : Int) G = K G' ∧ FR [126] G G' ∧ (∀ i, i < w → G' 126 i = (chn ws i : Int)) ∧ G' 126 w = (chn ws w : Int) := by
  have l24 := hw.1
  obtain ⟨-, s1, -⟩ := wnum hw hlt
  intro d
  induction d with
  | zero =>
    intro v n G hv hn hr h6 hcur
    obtain ⟨n, rfl⟩ : ∃ q, n = q + 1 := ⟨n - 1, by omega⟩
    obtain rfl : v = w := by omega
    rw [Md_chainOf_l24, if_pos (by omega)]
    exact ⟨G, rfl, FR.rf _ _, h6, by rw [hcur, ← chn_eq]⟩
  | succ d ih =>
    intro v n G hv hn hr h6 hcur
    obtain ⟨n, rfl⟩ : ∃ q, n = q + 1 := ⟨n - 1, by omega⟩
    obtain ⟨-, -, s2, -⟩ := wnum hw (show v < ws.length by omega)
    have ml := mxc_le (ws := ws) (f := chn ws) (w := w) v (fun i _ => chn_le ws i)
    have cl := chn_le ws v
    have e6 := h6 v (by omega)
    have step : ∀ y : Int, y = ((mxc ws (chn ws) w (v + 1) + 1 : Nat) : Int) → ∃ G', Md_chainOf_l24 (k : Int) c2 (w : Int) K n ((v + 1 : Nat) : Int) (gset G 126 w y) = K G' ∧ FR [126] G G' ∧ (∀ i, i < w → G' 126 i = (chn ws i : Int)) ∧ G' 126 w = (chn ws w : Int) := fun y hy => by
      obtain ⟨G', a1, a2, a3, a4⟩ := ih (v + 1) n (gset G 126 w y) (by omega) (by omega) (hr.of (gset_ne (by decide)) (gset_ne (by decide))) (fun i hi => by rw [gs_at (by omega)]; exact h6 i hi) (by rw [gs_same]; exact hy)
      exact ⟨G', a1, (FR.gs (FR.rf _ _) (by decide)).tr a2, a3, a4⟩
    rw [Md_chainOf_l24, if_neg (by omega), hr.code hw (by omega), ob_eq]
    simp only
    rw [hr.code hw hlt, ob_eq]
    simp only
    rw [show Md_to (ws.getD v 0) = (tw ws v : Int) from s2, show Md_from (ws.getD w 0) = (fw ws w : Int) from s1, lett_eq, Int.toNat_natCast, Int.toNat_natCast, hcur, e6, wr_id (x := (v : Int) + 1) (by omega) (by omega), wr_id (x := (chn ws v : Int) + 1) (by omega) (by omega), show (v : Int) + 1 = ((v + 1 : Nat) : Int) by omega, if_pos (show 0 ≤ (w : Int) ∧ (w : Int) < 24 by omega), if_pos (show 0 ≤ (v : Int) ∧ (v : Int) < 24 by omega), if_pos (show 0 ≤ (w : Int) ∧ (w : Int) < 24 by omega)]
    by_cases c : tw ws v = fw ws w
    · rw [if_neg (show ¬ ¬ (tw ws v : Int) = (fw ws w : Int) by omega), if_neg (show ¬ (1 : Int) = 0 by decide)]
      by_cases c2 : (chn ws v : Int) + 1 ≤ ((mxc ws (chn ws) w v + 1 : Nat) : Int)
      · rw [if_pos (show 0 ≤ (w : Int) ∧ (w : Int) < 24 by omega), if_pos c2]
        exact step _ (by rw [mxc, if_pos c]; omega)
      · rw [if_pos (show 0 ≤ (w : Int) ∧ (w : Int) < 24 by omega), if_neg c2, if_pos (show 0 ≤ (v : Int) ∧ (v : Int) < 24 by omega), if_pos (show 0 ≤ (w : Int) ∧ (w : Int) < 24 by omega)]
        exact step _ (by rw [mxc, if_pos c]; omega)
    · rw [if_pos (show ¬ (tw ws v : Int) = (fw ws w : Int) by omega), if_pos (show (0 : Int) = 0 from rfl)]
      exact step _ (by rw [mxc, if_neg c])
theorem chR_ok {ws : List Int} {k : Nat} {g : Gx} (hw : OkW ws) (hr : WR ws k g) : ∃ g', Md_chainOf (k : Int) g = some ((bsc ws ws.length : Int), g') := by
  have l24 := hw.1
  have h30 := hr.1
  unfold Md_chainOf
  have lp : ∀ (d w n : Nat) (G : Gx), w + d = ws.length → d < n → WR ws k G → (∀ i, i < w → G 126 i = (chn ws i : Int)) → ∃ g', Md_chainOf_l4 (k : Int) (fun x5 g6 => some (x5, g6)) n (bsc ws w : Int) (w : Int) G = some ((bsc ws ws.length : Int), g') := by
    intro d
    induction d with
    | zero =>
      intro w n G hv hn hG h6
      obtain ⟨n, rfl⟩ : ∃ q, n = q + 1 := ⟨n - 1, by omega⟩
      rw [Md_chainOf_l4, if_pos (by omega), Int.toNat_natCast, hG.2.1, if_pos (by omega), show w = ws.length by omega]
      exact ⟨G, rfl⟩
    | succ d ih =>
      intro w n G hv hn hG h6
      obtain ⟨n, rfl⟩ : ∃ q, n = q + 1 := ⟨n - 1, by omega⟩
      rw [Md_chainOf_l4, if_pos (by omega), Int.toNat_natCast, hG.2.1, if_neg (by omega), if_pos (show 0 ≤ (w : Int) ∧ (w : Int) < 24 by omega), Int.toNat_natCast]
      obtain ⟨G', a1, a2, a3, a4⟩ := chR_in (k := k) hw (w := w) (by omega) (bsc ws w : Int) (fun g4 => if 0 ≤ (w : Int) ∧ (w : Int) < 24 then if (g4 126 w) ≤ (bsc ws w : Int) then Md_chainOf_l4 (k : Int) (fun x5 g6 => some (x5, g6)) n (bsc ws w : Int) (wr ((w : Int) + 1)) g4 else if 0 ≤ (w : Int) ∧ (w : Int) < 24 then Md_chainOf_l4 (k : Int) (fun x5 g6 => some (x5, g6)) n (g4 126 w) (wr ((w : Int) + 1)) g4 else none else none) w 0 fu (gset G 126 w 1) (by omega) (Nat.lt_of_le_of_lt (show w ≤ 24 by omega) (fu_big _ (by decide))) (hG.of (gset_ne (by decide)) (gset_ne (by decide))) (fun i hi => by rw [gs_at (by omega)]; exact h6 i hi) (by rw [gs_same]; rfl)
      rw [show ((0 : Nat) : Int) = 0 from rfl] at a1
      rw [a1, if_pos (show 0 ≤ (w : Int) ∧ (w : Int) < 24 by omega), if_pos (show 0 ≤ (w : Int) ∧ (w : Int) < 24 by omega), a4, wr_id (x := (w : Int) + 1) (by omega) (by omega), show (w : Int) + 1 = ((w + 1 : Nat) : Int) by omega]
      have nx := ih (w + 1) n G' (by omega) (by omega) (hG.of (by rw [a2.cell (by decide) (by decide), gset_ne (by decide)]) (by rw [a2.cell (by decide) (by decide), gset_ne (by decide)])) (fun i hi => by
        by_cases e : i = w
        · subst e; exact a4
        · exact a3 i (by omega))
      rw [bsc] at nx
      by_cases c : (chn ws w : Int) ≤ (bsc ws w : Int)
      · rw [if_pos c]
        rw [show max (bsc ws w) (chn ws w) = bsc ws w by omega] at nx
        exact nx
      · rw [if_neg c]
        rw [show max (bsc ws w) (chn ws w) = chn ws w by omega] at nx
        exact nx
  exact lp ws.length 0 fu g (by omega) (Nat.lt_of_le_of_lt l24 (fu_big _ (by decide))) hr (fun i hi => by omega)
/-! Words that go together. -/
abbrev shr (ws : List Int) (v w : Nat) : Prop := fw ws v = fw ws w ∨ tw ws v = fw ws w ∨ fw ws v = tw ws w ∨ tw ws v = tw ws w
abbrev eqw (ws : List Int) (v w : Nat) : Prop := fw ws v = fw ws w ∧ tw ws v = tw ws w
def gow (ws : List Int) (w : Nat) : Nat → Bool
  | 0 => false
  | v + 1 => if shr ws v w then decide (eqw ws v w) else gow ws w v
def pkn (ws : List Int) : Nat → Nat
  | 0 => 0
  | n + 1 => pkn ws n + if gow ws n n = true then 0 else 1
theorem pkn_le (ws : List Int) : ∀ n, pkn ws n ≤ n := by
  intro n
  induction n with
  | zero => exact Nat.le_refl _
  | succ n ih => rw [pkn]; split <;> omega
theorem gwC {ws : List Int} {k : Nat} {g : Gx} (hw : OkW ws) (hc : WC ws k g) {w : Nat} (hlt : w < ws.length) : ∀ (v n : Nat), v ≤ w → v < n → Rn_goesWithOneAhead_l32 (k : Int) (fw ws w : Int) (tw ws w : Int) (fun g1 => some (0, g1)) n ((v : Int) - 1) g = some (if gow ws w v = true then 1 else 0, g) := by
  have l24 := hw.1
  intro v
  induction v with
  | zero =>
    intro n hv hn
    obtain ⟨n, rfl⟩ : ∃ q, n = q + 1 := ⟨n - 1, by omega⟩
    rw [Rn_goesWithOneAhead_l32, if_pos (by omega), gow]
    rfl
  | succ v ih =>
    intro n hv hn
    obtain ⟨n, rfl⟩ : ∃ q, n = q + 1 := ⟨n - 1, by omega⟩
    obtain ⟨-, s1, s2, -⟩ := wnum hw (show v < ws.length by omega)
    have nx := ih n (by omega) (by omega)
    rw [Rn_goesWithOneAhead_l32, if_neg (by omega), show ((v + 1 : Nat) : Int) - 1 = (v : Int) by omega, hc.2 v (by omega), wr_id (by omega) (by omega), show (v : Int) + -1 = (v : Int) - 1 by omega, gow]
    unfold Rn_takesPart Rn_goes
    rw [s1, s2]
    by_cases c1 : fw ws v = fw ws w <;> by_cases c2 : tw ws v = fw ws w <;> by_cases c3 : fw ws v = tw ws w <;> by_cases c4 : tw ws v = tw ws w <;> simp [Int.natCast_inj, c1, c2, c3, c4, shr, eqw] <;> first | exact nx | (simp_all) | omega
theorem pkC_ok {ws : List Int} {k : Nat} {g : Gx} (hw : OkW ws) (hc : WC ws k g) : Rn_packed (k : Int) g = some ((pkn ws ws.length : Int), g) := by
  have l24 := hw.1
  unfold Rn_packed
  have lp : ∀ (d w n : Nat), w + d = ws.length → d < n → Rn_packed_l4 (k : Int) (fun x2 g3 => some (x2, g3)) n (pkn ws w : Int) (w : Int) g = some ((pkn ws ws.length : Int), g) := by
    intro d
    induction d with
    | zero =>
      intro w n hv hn
      obtain ⟨n, rfl⟩ : ∃ q, n = q + 1 := ⟨n - 1, by omega⟩
      rw [Rn_packed_l4, hc.1, if_pos (by omega), show w = ws.length by omega]
    | succ d ih =>
      intro w n hv hn
      obtain ⟨n, rfl⟩ : ∃ q, n = q + 1 := ⟨n - 1, by omega⟩
      obtain ⟨-, s1, s2, -⟩ := wnum hw (show w < ws.length by omega)
      have pl := pkn_le ws w
      have nx := ih (w + 1) n (by omega) (by omega)
      rw [pkn] at nx
      have z : Rn_goesWithOneAhead (k : Int) (w : Int) g = some (if gow ws w w = true then 1 else 0, g) := by
        unfold Rn_goesWithOneAhead
        rw [hc.2 w (by omega), s1, s2, wr_id (by omega) (by omega)]
        exact gwC hw hc (by omega) w fu (Nat.le_refl _) (Nat.lt_of_le_of_lt (show w ≤ 24 by omega) (fu_big _ (by decide)))
      rw [Rn_packed_l4, hc.1, if_neg (by omega), z, ob_eq]
      simp only
      rw [wr_id (x := (w : Int) + 1) (by omega) (by omega), wr_id (x := (pkn ws w : Int) + 1) (by omega) (by omega), show (w : Int) + 1 = ((w + 1 : Nat) : Int) by omega]
      by_cases c : gow ws w w = true
      · rw [if_pos c, if_pos (show ¬ (1 : Int) = 0 by decide)]
        rw [if_pos c] at nx
        exact nx
      · rw [if_neg c, if_neg (show ¬ ¬ (0 : Int) = 0 from fun h9 => h9 rfl)]
        rw [if_neg c] at nx
        exact nx
  exact lp ws.length 0 fu (by omega) (Nat.lt_of_le_of_lt l24 (fu_big _ (by decide)))
/-- where the reference's search ends -/
def gat (ws : List Int) (w : Nat) : Nat → Int
  | 0 => -1
  | v + 1 => if shr ws v w then (v : Int) else gat ws w v
theorem gat_gow {ws : List Int} {w : Nat} : ∀ v, (gat ws w v = -1 ∧ gow ws w v = false) ∨ ∃ j, j < v ∧ gat ws w v = (j : Int) ∧ gow ws w v = decide (eqw ws j w) := by
  intro v
  induction v with
  | zero => exact Or.inl ⟨rfl, rfl⟩
  | succ v ih =>
    rw [gat, gow]
    by_cases c : shr ws v w
    · rw [if_pos c, if_pos c]
      exact Or.inr ⟨v, by omega, rfl, rfl⟩
    · rw [if_neg c, if_neg c]
      rcases ih with h | ⟨j, h1, h2, h3⟩
      · exact Or.inl h
      · exact Or.inr ⟨j, by omega, h2, h3⟩
theorem gwR {ws : List Int} {k : Nat} {g : Gx} (hw : OkW ws) (hr : WR ws k g) {w : Nat} (hlt : w < ws.length) (c2 c3 : Int) (K : Int → Gx → Option (Int × Gx)) : ∀ (v n : Nat), v ≤ w → v < n → Md_packedOf_l41 (k : Int) c2 c3 (fw ws w : Int) (tw ws w : Int) K n ((v : Int) - 1) g = K (gat ws w v) g := by
  have l24 := hw.1
  intro v
  induction v with
  | zero =>
    intro n hv hn
    obtain ⟨n, rfl⟩ : ∃ q, n = q + 1 := ⟨n - 1, by omega⟩
    rw [Md_packedOf_l41, if_pos (by omega), gat]
    rfl
  | succ v ih =>
    intro n hv hn
    obtain ⟨n, rfl⟩ : ∃ q, n = q + 1 := ⟨n - 1, by omega⟩
    obtain ⟨-, s1, s2, -⟩ := wnum hw (show v < ws.length by omega)
    have nx := ih n (by omega) (by omega)
    rw [Md_packedOf_l41, if_neg (by omega), show ((v + 1 : Nat) : Int) - 1 = (v : Int) by omega, wr_id (by omega) (by omega), show (v : Int) + -1 = (v : Int) - 1 by omega, gat]
    simp only [hr.code hw (show v < ws.length by omega), ob_eq]
    rw [show Md_from (ws.getD v 0) = (fw ws v : Int) from s1, show Md_to (ws.getD v 0) = (tw ws v : Int) from s2]
    by_cases c1 : fw ws v = fw ws w <;> by_cases c2 : tw ws v = fw ws w <;> by_cases c3 : fw ws v = tw ws w <;> by_cases c4 : tw ws v = tw ws w <;> simp [Int.natCast_inj, c1, c2, c3, c4, shr] <;> first | exact nx | (simp_all) | omega
theorem pkR_ok {ws : List Int} {k : Nat} {g : Gx} (hw : OkW ws) (hr : WR ws k g) : Md_packedOf (k : Int) g = some ((pkn ws ws.length : Int), g) := by
  have l24 := hw.1
  have h30 := hr.1
  unfold Md_packedOf
  have lp : ∀ (d w n : Nat), w + d = ws.length → d < n → Md_packedOf_l4 (k : Int) (fun x12 g13 => some (x12, g13)) n (pkn ws w : Int) (w : Int) g = some ((pkn ws ws.length : Int), g) := by
    intro d
    induction d with
    | zero =>
      intro w n hv hn
      obtain ⟨n, rfl⟩ : ∃ q, n = q + 1 := ⟨n - 1, by omega⟩
      rw [Md_packedOf_l4, if_pos (by omega), Int.toNat_natCast, hr.2.1, if_pos (by omega), show w = ws.length by omega]
    | succ d ih =>
      intro w n hv hn
      obtain ⟨n, rfl⟩ : ∃ q, n = q + 1 := ⟨n - 1, by omega⟩
      obtain ⟨-, s1, s2, -⟩ := wnum hw (show w < ws.length by omega)
      have pl := pkn_le ws w
      have nx := ih (w + 1) n (by omega) (by omega)
      rw [pkn] at nx
      rw [Md_packedOf_l4, if_pos (by omega), Int.toNat_natCast, hr.2.1, if_neg (by omega), hr.code hw (show w < ws.length by omega), ob_eq]
      simp only
      rw [hr.code hw (show w < ws.length by omega), ob_eq]
      simp only
      rw [show Md_from (ws.getD w 0) = (fw ws w : Int) from s1, show Md_to (ws.getD w 0) = (tw ws w : Int) from s2, wr_id (x := (w : Int) - 1) (by omega) (by omega), gwR hw hr (by omega) _ _ _ w fu (Nat.le_refl _) (Nat.lt_of_le_of_lt (show w ≤ 24 by omega) (fu_big _ (by decide))), wr_id (x := (w : Int) + 1) (by omega) (by omega), wr_id (x := (pkn ws w : Int) + 1) (by omega) (by omega), wr_id (x := (pkn ws w : Int) + 0) (by omega) (by omega), show (w : Int) + 1 = ((w + 1 : Nat) : Int) by omega]
      rcases gat_gow (ws := ws) (w := w) w with ⟨a1, a2⟩ | ⟨j, a0, a1, a2⟩
      · rw [a1, if_pos (by decide)]
        rw [a2, if_neg (by decide)] at nx
        exact nx
      · obtain ⟨-, r1, r2, -⟩ := wnum hw (show j < ws.length by omega)
        rw [a1, if_neg (by omega)]
        simp only [hr.code hw (show j < ws.length by omega), ob_eq, lett_eq]
        rw [show Md_from (ws.getD j 0) = (fw ws j : Int) from r1, show Md_to (ws.getD j 0) = (tw ws j : Int) from r2]
        rw [a2] at nx
        by_cases c1 : fw ws j = fw ws w
        · rw [if_neg (show ¬ ¬ (fw ws j : Int) = (fw ws w : Int) by omega)]
          by_cases c2 : tw ws j = tw ws w
          · rw [if_neg (show ¬ ¬ (tw ws j : Int) = (tw ws w : Int) by omega), if_neg (show ¬ (1 : Int) = 0 by decide)]
            rw [if_pos (decide_eq_true (show eqw ws j w from ⟨c1, c2⟩))] at nx
            exact nx
          · rw [if_pos (show ¬ (tw ws j : Int) = (tw ws w : Int) by omega), if_pos (show (0 : Int) = 0 from rfl)]
            rw [if_neg (fun h9 => c2 (of_decide_eq_true h9).2)] at nx
            exact nx
        · rw [if_pos (show ¬ (fw ws j : Int) = (fw ws w : Int) by omega)]
          rw [if_neg (fun h9 => c1 (of_decide_eq_true h9).1)] at nx
          exact nx
  exact lp ws.length 0 fu (by omega) (Nat.lt_of_le_of_lt l24 (fu_big _ (by decide)))
theorem st_trips {T : Nat} {t pt : List Int} {u : Int} {g : Gx} (h : Inv T t pt u g) (hT : T < 80000) (a1 a2 : Int) : ∃ r g1 g2, Op_trips a1 a2 g = some (r, g1) ∧ Md_trips a1 a2 g1 = some (r, g2) ∧ Inv (T + 2) t pt u g2 := by
  unfold Op_trips Md_trips
  by_cases c1 : 0 ≤ a1 ∧ a1 ≤ 29
  · have n1 : ¬ Op_isHistory a1 = 0 := fun h9 => isHistory_iff.mp h9 c1
    have n2 : ¬ Md_isHistory a1 = 0 := fun h9 => mdHistory_iff.mp h9 c1
    simp only [if_neg n1, if_neg n2]
    by_cases c2 : 0 ≤ a2 ∧ a2 ≤ 1
    · have n3 : ¬ Md_in a2 0 1 = 0 := fun h9 => in_iff.mp h9 c2
      simp only [if_neg (show ¬ a2 < 0 by omega), if_pos c2.2, if_pos n3]
      rcases hl_ok h hT a1 with ⟨r, g1, g2, a, b, c, d⟩ | ⟨g1, a, b, ⟨b1, b2, b3, b4, b5, b6⟩, c⟩
      · refine ⟨r, g1, g2, ?_, ?_, d⟩
        · rw [b, ob_eq]; simp only; rw [if_neg a]
        · rw [c, ob_eq]; simp only; rw [if_neg a]
      · obtain ⟨k, rfl⟩ := Int.eq_ofNat_of_zero_le c1.1
        have hk : k < (pD t u).length := by omega
        have hw := ws_ok b4 hk
        have hc := ws_c b4 b3.2.2.2 hk
        rw [b, ob_eq]
        simp only [if_true]
        by_cases c3 : a2 = 0
        · simp only [if_neg (show ¬ ¬ a2 = 0 from fun h9 => h9 c3)]
          obtain ⟨g2, e1⟩ := chC_ok hw hc
          have i2 := b1.fr ((fr_Rn_chain _ _ _ _ e1).cl (by decide))
          obtain ⟨g3, y, z, w, -⟩ := c g2 i2
          obtain ⟨g4, e2⟩ := chR_ok hw (ws_r b4 w hk)
          refine ⟨_, g2, g4, by rw [e1, ob_eq], ?_, z.fr ((fr_Md_chainOf _ _ _ _ e2).cl (by decide))⟩
          rw [y, ob_eq]
          simp only [if_true]
          rw [e2, ob_eq]
        · simp only [if_pos c3]
          obtain ⟨g3, y, z, w, -⟩ := c g1 b1
          refine ⟨_, g1, g3, by rw [pkC_ok hw hc, ob_eq], ?_, z⟩
          rw [y, ob_eq]
          simp only [if_true]
          rw [pkR_ok hw (ws_r b4 w hk), ob_eq]
    · have n3 : Md_in a2 0 1 = 0 := in_iff.mpr c2
      refine ⟨-2, g, g, ?_, by rw [if_neg (fun h9 => h9 n3)], h.more (by omega)⟩
      by_cases c4 : a2 < 0
      · rw [if_pos c4]
      · rw [if_neg c4, if_neg (by omega)]
  · have n1 : Op_isHistory a1 = 0 := isHistory_iff.mpr c1
    have n2 : Md_isHistory a1 = 0 := mdHistory_iff.mpr c1
    simp only [if_pos n1, if_pos n2]
    exact ⟨-2, g, g, rfl, rfl, h.more (by omega)⟩
