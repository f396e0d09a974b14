/-! Runs: one act, of both. Own text. -/
theorem tp_eq {ws : List Int} (hw : OkW ws) {v : Nat} (hv : v < ws.length) (t : Nat) : Rn_takesPart (t : Int) (ws.getD v 0) = if prt ws t v then 1 else 0 := by
  obtain ⟨-, s1, s2, -⟩ := wnum hw hv
  unfold Rn_takesPart
  rw [s1, s2]
  by_cases c1 : fw ws v = t
  · rw [if_pos (by omega), if_pos (Or.inl c1)]
  · rw [if_neg (by omega)]
    by_cases c2 : tw ws v = t
    · rw [if_neg (by omega), if_pos (Or.inr c2)]
    · rw [if_pos (by omega), if_neg (fun h9 => by rcases h9 with h | h; exact c1 h; exact c2 h)]
theorem npC {ws : List Int} {k : Nat} {g : Gx} (hw : OkW ws) (hc : WC ws k g) (t p : Nat) (hp : p ≤ ws.length) : Rn_nextPlace (k : Int) (t : Int) (p : Int) g = some ((nxt ws t p : Int), g) := by
  have l24 := hw.1
  unfold Rn_nextPlace nxt
  have lp : ∀ (d p n : Nat), p + d = ws.length → d < n → Rn_nextPlace_l3 (k : Int) (t : Int) (fun x1 g2 => some (x1, g2)) n (p : Int) g = some ((nxp ws t d p : Int), g) := by
    intro d
    induction d with
    | zero =>
      intro p n h hn
      obtain ⟨n, rfl⟩ : ∃ q, n = q + 1 := ⟨n - 1, by omega⟩
      rw [Rn_nextPlace_l3, hc.1, if_pos (by omega), nxp]
    | succ d ih =>
      intro p n h hn
      obtain ⟨n, rfl⟩ : ∃ q, n = q + 1 := ⟨n - 1, by omega⟩
      rw [Rn_nextPlace_l3, hc.1, if_neg (by omega), hc.2 p (by omega), tp_eq hw (by omega), wr_id (by omega) (by omega), show (p : Int) + 1 = ((p + 1 : Nat) : Int) by omega, nxp]
      by_cases c : prt ws t p
      · rw [if_pos c, if_pos (show ¬ (1 : Int) = 0 by decide), if_pos c]
      · rw [if_neg c, if_neg (fun h9 => h9 rfl), if_neg c]
        exact ih (p + 1) n (by omega) (by omega)
  exact lp (ws.length - p) p fu (by omega) (Nat.lt_of_le_of_lt (show ws.length - p ≤ 24 by omega) (fu_big _ (by decide)))
def RnC (ws : List Int) (k : Nat) (P : Nat → Nat) (g : Gx) : Prop := WC ws k g ∧ (∀ t, t < 6 → g 62 t = (P t : Int)) ∧ ∀ f o, f < 6 → o < 6 → f ≠ o → g 64 (6 * f + o) = qv ws P f o
theorem RnC.of {ws : List Int} {k : Nat} {P : Nat → Nat} {g G : Gx} (h : RnC ws k P g) (e1 : G 35 = g 35) (e2 : G 37 = g 37) (e3 : G 62 = g 62) (e4 : G 64 = g 64) : RnC ws k P G := ⟨h.1.of e1 e2, by rw [e3]; exact h.2.1, by rw [e4]; exact h.2.2⟩
theorem ableC {ws : List Int} {k : Nat} {P : Nat → Nat} {g : Gx} (hw : OkW ws) (hP : PlI ws P) (h : RnC ws k P g) : ∃ m : Nat, m < 64 ∧ Rn_ableTalkers (k : Int) g = some ((m : Int), g) ∧ ∀ t, t < 6 → m.testBit t = decide (abl ws P t) := by
  obtain ⟨hc, h62, -⟩ := h
  have l24 := hw.1
  unfold Rn_ableTalkers
  have lp : ∀ (d t n m : Nat), t + d = 6 → d < n → m < 64 → (∀ y, m.testBit y = true ↔ (y < t ∧ abl ws P y)) → ∃ m' : Nat, m' < 64 ∧ Rn_ableTalkers_l4 (k : Int) (fun x1 g2 => some (x1, g2)) n (m : Int) (t : Int) g = some ((m' : Int), g) ∧ ∀ y, m'.testBit y = true ↔ (y < 6 ∧ abl ws P y) := by
    intro d
    induction d with
    | zero =>
      intro t n m ht hn hm hb
      obtain ⟨n, rfl⟩ : ∃ q, n = q + 1 := ⟨n - 1, by omega⟩
      obtain rfl : t = 6 := by omega
      exact ⟨m, hm, by rw [Rn_ableTalkers_l4, if_pos (by omega)], hb⟩
    | succ d ih =>
      intro t n m ht hn hm hb
      obtain ⟨n, rfl⟩ : ∃ q, n = q + 1 := ⟨n - 1, by omega⟩
      have pt : rat g 62 6 (t : Int) = (P t : Int) := by rw [rat_in (by omega) (by omega), Int.toNat_natCast, h62 t (by omega)]
      have no : ¬ abl ws P t → ∃ m' : Nat, m' < 64 ∧ Rn_ableTalkers_l4 (k : Int) (fun x1 g2 => some (x1, g2)) n (m : Int) ((t + 1 : Nat) : Int) g = some ((m' : Int), g) ∧ ∀ y, m'.testBit y = true ↔ (y < 6 ∧ abl ws P y) := fun na => ih (t + 1) n m (by omega) (by omega) hm (fun y => by
        rw [hb y]
        constructor
        · rintro ⟨a, b⟩; exact ⟨by omega, b⟩
        · rintro ⟨a, b⟩
          by_cases e : y = t
          · subst e; exact absurd b na
          · exact ⟨by omega, b⟩)
      have yes : abl ws P t → ∃ m' : Nat, m' < 64 ∧ Rn_ableTalkers_l4 (k : Int) (fun x1 g2 => some (x1, g2)) n (jor (m : Int) (jshl 1 (t : Int))) ((t + 1 : Nat) : Int) g = some ((m' : Int), g) ∧ ∀ y, m'.testBit y = true ↔ (y < 6 ∧ abl ws P y) := fun ya => by
        rw [(or_1 hm (show t < 6 by omega)).1]
        refine ih (t + 1) n _ (by omega) (by omega) (or_1 hm (by omega)).2 (fun y => ?_)
        rw [tb_or1, hb y]
        constructor
        · rintro (⟨a, b⟩ | rfl)
          · exact ⟨by omega, b⟩
          · exact ⟨by omega, ya⟩
        · rintro ⟨a, b⟩
          by_cases e : y = t
          · exact Or.inr e
          · exact Or.inl ⟨by omega, b⟩
      rw [Rn_ableTalkers_l4, if_neg (by omega), hc.1, pt, wr_id (by omega) (by omega), show (t : Int) + 1 = ((t + 1 : Nat) : Int) by omega]
      by_cases c0 : ws.length ≤ P t
      · rw [if_pos (by omega)]
        exact no (fun h9 => by omega)
      · obtain ⟨-, s1, -, s3, -⟩ := wnum hw (show P t < ws.length by omega)
        rw [if_neg (by omega), hc.2 (P t) (by omega), s1]
        by_cases c1 : fw ws (P t) = t
        · rw [if_pos (by omega)]
          exact yes ⟨by omega, Or.inl c1⟩
        · rw [if_neg (by omega), rat_in (by omega) (by omega), Int.toNat_natCast, h62 _ s3]
          by_cases c2 : P (fw ws (P t)) ≤ P t
          · rw [if_pos (by omega)]
            exact no (fun h9 => by rcases h9.2 with h8 | h8; exact c1 h8; omega)
          · rw [if_neg (by omega)]
            exact yes ⟨by omega, Or.inr (by omega)⟩
  obtain ⟨m, a, b, c⟩ := lp 6 0 fu 0 (by omega) (fu_big _ (by decide)) (by decide) (fun y => by rw [Nat.zero_testBit]; simp)
  refine ⟨m, a, b, fun t ht => ?_⟩
  have := c t
  by_cases q : abl ws P t
  · rw [decide_eq_true q]; exact this.mpr ⟨ht, q⟩
  · rw [decide_eq_false q]
    cases hq : m.testBit t with
    | false => rfl
    | true => exact absurd (this.mp hq).2 q
theorem pickC {m : Nat} (hm : m < 64) (g : Gx) {num : Nat} (hn : num < cab (fun t => m.testBit t) 6 0) : Rn_pick (m : Int) (num : Int) g = some ((pks (fun t => m.testBit t) 6 0 num : Int), g) := by
  unfold Rn_pick
  have lp : ∀ (d t n num : Nat), t + d = 6 → d < n → num < cab (fun t => m.testBit t) d t → Rn_pick_l4 (m : Int) (fun g1 => some ((-1), g1)) n (num : Int) (t : Int) g = some ((pks (fun t => m.testBit t) d t num : Int), g) := by
    intro d
    induction d with
    | zero => intro t n num _ _ h; rw [cab] at h; omega
    | succ d ih =>
      intro t n num ht hn h
      obtain ⟨n, rfl⟩ : ∃ q, n = q + 1 := ⟨n - 1, by omega⟩
      rw [cab] at h
      have cl := cab_le (fun t => m.testBit t) d (t + 1)
      rw [Rn_pick_l4, if_neg (by omega), has_nn (by omega) (by omega), wr_id (x := (t : Int) + 1) (by omega) (by omega), show (t : Int) + 1 = ((t + 1 : Nat) : Int) by omega, pks]
      by_cases c : m.testBit t = true
      · simp only [if_pos c] at h ⊢
        rw [if_neg (show ¬ (1 : Int) = 0 by decide)]
        by_cases c2 : num = 0
        · subst c2
          rw [if_neg (fun h9 => h9 rfl), if_pos rfl]
        · have hle : num ≤ 7 := by omega
          rw [if_pos (show ¬ (num : Int) = 0 by omega), if_neg c2, wr_id (by omega) (by omega), show (num : Int) + -1 = ((num - 1 : Nat) : Int) by omega]
          exact ih (t + 1) n (num - 1) (by omega) (by omega) (by omega)
      · simp only [if_neg c] at h ⊢
        rw [if_pos trivial]
        exact ih (t + 1) n num (by omega) (by omega) (by omega)
  exact lp 6 0 fu num (by omega) (fu_big _ (by decide)) hn
theorem q_ne {f o f' o' : Nat} (h1 : o < 6) (h2 : o' < 6) (h : ¬ (f = f' ∧ o = o')) : 6 * f + o ≠ 6 * f' + o' := fun h9 => h ⟨by omega, by omega⟩
theorem actCl {ws : List Int} {k : Nat} {P : Nat → Nat} {g : Gx} (hw : OkW ws) (hP : PlI ws P) (h : RnC ws k P g) {t : Nat} (ht6 : t < 6) (ht : P t < ws.length) : ∃ g', Rn_act (k : Int) (t : Int) g = some g' ∧ RnC ws k (stp ws P t) g' ∧ g' 60 6 = imax (g 60 6) (qv ws (stp ws P t) (fw ws (P t)) (tw ws (P t))) := by
  obtain ⟨hc, h62, h64⟩ := h
  have l24 := hw.1
  obtain ⟨-, s1, s2, s3, s4, s5⟩ := wnum hw ht
  have pr := (hP t ht6).2 ht
  have qb := qv_b hw hP s3 s4
  have qs := qv_stp hw hP ht6 ht (fw ws (P t)) (tw ws (P t)) s5
  rw [if_pos ⟨rfl, rfl⟩] at qs
  have pt : rat g 62 6 (t : Int) = (P t : Int) := by rw [rat_in (by omega) (by omega), Int.toNat_natCast, h62 t ht6]
  unfold Rn_act
  rw [pt, hc.2 (P t) ht, s1, s2, lett_eq, show wr (wr ((fw ws (P t) : Int) * 6) + (tw ws (P t) : Int)) = ((6 * fw ws (P t) + tw ws (P t) : Nat) : Int) by simp (disch := omega) only [wr_id]; omega, wr_id (x := (P t : Int) + 1) (by omega) (by omega), show (P t : Int) + 1 = ((P t + 1 : Nat) : Int) by omega, rai (by omega) (by omega), Int.toNat_natCast, h64 _ _ s3 s4 s5, rat_in (by omega) (by omega), Int.toNat_natCast, gs_same]
  have eq : wr (qv ws P (fw ws (P t)) (tw ws (P t)) + (if ¬ (fw ws (P t) : Int) = (t : Int) then -1 else 1)) = qv ws (stp ws P t) (fw ws (P t)) (tw ws (P t)) := by
    rw [qs]
    by_cases c : fw ws (P t) = t
    · rw [if_neg (by omega), if_pos c, wr_id (by omega) (by omega)]
    · rw [if_pos (by omega), if_neg c, wr_id (by omega) (by omega)]
  rw [eq]
  have hc2 : WC ws k (gset (gset g 64 (6 * fw ws (P t) + tw ws (P t)) (qv ws (stp ws P t) (fw ws (P t)) (tw ws (P t)))) 60 6 (imax (g 60 6) (qv ws (stp ws P t) (fw ws (P t)) (tw ws (P t))))) := hc.of (by rw [gset_ne (by decide), gset_ne (by decide)]) (by rw [gset_ne (by decide), gset_ne (by decide)])
  rw [npC hw hc2 t (P t + 1) (by omega), ob_eq]
  simp only
  refine ⟨_, rfl, ⟨?_, ?_, ?_⟩, ?_⟩
  · rw [rsi (by omega) (by omega)]
    exact hc2.of (gset_ne (by decide)) (gset_ne (by decide))
  · intro y hy
    rw [rsi (by omega) (by omega), Int.toNat_natCast]
    by_cases c : y = t
    · subst c; rw [gs_same, stp_same]
    · rw [gs_at c, stp_ne c, gc (by decide), gc (by decide)]; exact h62 y hy
  · intro f o hf ho hfo
    rw [rsi (by omega) (by omega), gc (by decide), gc (by decide)]
    by_cases c : f = fw ws (P t) ∧ o = tw ws (P t)
    · obtain ⟨rfl, rfl⟩ := c
      rw [gs_same]
    · rw [gs_at (q_ne ho s4 c), h64 f o hf ho hfo, qv_stp hw hP ht6 ht f o hfo, if_neg (fun h9 => c ⟨h9.1.symm, h9.2.symm⟩)]
      omega
  · rw [rsi (by omega) (by omega), gc (by decide), gs_same]
/-! the reference -/
theorem lka_eq {ws : List Int} (hw : OkW ws) {i : Nat} (hi : i < ws.length) (t : Nat) : lka t (ws.getD i 0) = if fw ws i = t then some (10000 + ws.getD i 0) else if tw ws i = t then some (20000 + ws.getD i 0) else none := by
  obtain ⟨m, -⟩ := wnum hw hi
  obtain ⟨-, -, -, -, n5, -, n7, -⟩ := okw_num m
  unfold lka fw tw
  by_cases c1 : ws.getD i 0 / 1000 = (t : Int)
  · rw [if_pos c1, if_pos (show (ws.getD i 0 / 1000).toNat = t by omega)]
  · rw [if_neg c1, if_neg (show ¬ (ws.getD i 0 / 1000).toNat = t by omega)]
    by_cases c2 : ws.getD i 0 / 100 % 10 = (t : Int)
    · rw [if_pos c2, if_pos (show (ws.getD i 0 / 100 % 10).toNat = t by omega)]
    · rw [if_neg c2, if_neg (show ¬ (ws.getD i 0 / 100 % 10).toNat = t by omega)]
theorem lk_cn {ws : List Int} (hw : OkW ws) (t : Nat) : ∀ n, n ≤ ws.length → (lk t (ws.take n)).length = cnp ws t n := by
  intro n
  induction n with
  | zero => intro _; simp [lk, cnp]
  | succ n ih =>
    intro h
    have e : ws[n]? = some (ws.getD n 0) := by rw [List.getD_eq_getElem?_getD, List.getElem?_eq_getElem (by omega)]; rfl
    rw [List.take_add_one, lk_app, List.length_append, ih (by omega), e, cnp]
    congr 1
    rw [show (some (ws.getD n 0)).toList = [ws.getD n 0] from rfl, lk_one, lka_eq hw (by omega)]
    by_cases c1 : fw ws n = t
    · rw [if_pos c1, if_pos (Or.inl c1)]; rfl
    · rw [if_neg c1]
      by_cases c2 : tw ws n = t
      · rw [if_pos c2, if_pos (Or.inr c2)]; rfl
      · rw [if_neg c2, if_neg (fun h9 => by rcases h9 with h | h; exact c1 h; exact c2 h)]; rfl
theorem lk_len' {ws : List Int} (hw : OkW ws) (t : Nat) : (lk t ws).length = cnp ws t ws.length := by
  have := lk_cn hw t ws.length (Nat.le_refl _)
  rwa [List.take_length] at this
theorem lk_get {ws : List Int} (hw : OkW ws) {t i : Nat} (hi : i < ws.length) (h : prt ws t i) : (lk t ws)[cnp ws t i]? = some ((if fw ws i = t then 10000 else 20000) + ws.getD i 0) := by
  have e : ws.drop i = ws.getD i 0 :: ws.drop (i + 1) := by
    rw [List.drop_eq_getElem_cons hi, List.getD_eq_getElem?_getD, List.getElem?_eq_getElem hi]; rfl
  have e2 : lk t ws = lk t (ws.take i) ++ lk t (ws.drop i) := by rw [← lk_app, List.take_append_drop]
  rw [e2, List.getElem?_append_right (by rw [lk_cn hw t i (by omega)]; omega), lk_cn hw t i (by omega), Nat.sub_self, e, show ws.getD i 0 :: ws.drop (i + 1) = [ws.getD i 0] ++ ws.drop (i + 1) from rfl, lk_app, lk_one, lka_eq hw hi]
  by_cases c1 : fw ws i = t
  · rw [if_pos c1, if_pos c1]; rfl
  · rcases h with h | h
    · exact absurd h c1
    · rw [if_neg c1, if_pos h, if_neg c1]; rfl
def LR (ws : List Int) (k : Nat) (g : Gx) : Prop := k < 30 ∧ ∀ t, t < 6 → g 118 (6 * k + t) = ((lk t ws).length : Int) ∧ ∀ i x, (lk t ws)[i]? = some x → g 119 (24 * (6 * k + t) + i) = x
theorem LR.of {ws : List Int} {k : Nat} {g G : Gx} (h : LR ws k g) (e1 : G 118 = g 118) (e2 : G 119 = g 119) : LR ws k G := by
  unfold LR
  rw [e1, e2]
  exact h
theorem LR.at {ws : List Int} {k : Nat} {g : Gx} (h : LR ws k g) (hw : OkW ws) {t : Nat} (ht : t < 6) (i : Nat) (hi : i < 100) : Md_lookAt (t : Int) (k : Int) (i : Int) g = some ((lk t ws).getD i (-1), g) := by
  have l24 := hw.1
  have h30 := h.1
  have ll := lk_len t ws
  obtain ⟨a, b⟩ := h.2 t ht
  unfold Md_lookAt
  rw [show wr (wr (6 * (k : Int)) + (t : Int)) = ((6 * k + t : Nat) : Int) by simp (disch := omega) only [wr_id]; omega, if_pos (by omega), Int.toNat_natCast, a, List.getD_eq_getElem?_getD]
  by_cases c : (lk t ws).length ≤ i
  · rw [if_pos (by omega), List.getElem?_eq_none c]; rfl
  · rw [if_neg (by omega), show wr (wr (24 * ((6 * k + t : Nat) : Int)) + (i : Int)) = ((24 * (6 * k + t) + i : Nat) : Int) by simp (disch := omega) only [wr_id]; omega, if_pos (by omega), Int.toNat_natCast, b i _ (List.getElem?_eq_getElem (by omega)), List.getElem?_eq_getElem (by omega)]
    rfl
theorem lr_of {L : List Hy} {g : Gx} (hL : OkL L) (h : LkR L g) {k : Nat} (hk : k < L.length) : LR (gl L k).2 k g := ⟨by have := hL.2.1; omega, fun t ht => h k _ (gl_at hk) t ht⟩
def RnR (ws : List Int) (k : Nat) (P : Nat → Nat) (g : Gx) : Prop := LR ws k g ∧ (∀ t, t < 6 → g 121 t = (cnp ws t (P t) : Int)) ∧ ∀ f o, f < 6 → o < 6 → f ≠ o → g 122 (6 * f + o) = qv ws P f o
theorem RnR.of {ws : List Int} {k : Nat} {P : Nat → Nat} {g G : Gx} (h : RnR ws k P g) (e1 : G 118 = g 118) (e2 : G 119 = g 119) (e3 : G 121 = g 121) (e4 : G 122 = g 122) : RnR ws k P G := ⟨h.1.of e1 e2, by rw [e3]; exact h.2.1, by rw [e4]; exact h.2.2⟩
theorem act_at {ws : List Int} {k : Nat} {P : Nat → Nat} {g : Gx} (hw : OkW ws) (hP : PlI ws P) (h : RnR ws k P g) {t : Nat} (ht6 : t < 6) : Md_lookAt (t : Int) (k : Int) (g 121 t) g = some (if P t < ws.length then (if fw ws (P t) = t then 10000 else 20000) + ws.getD (P t) 0 else -1, g) := by
  have l24 := hw.1
  obtain ⟨h1, h2, -⟩ := h
  have pl := (hP t ht6).1
  have cl := cnp_le ws t (P t)
  rw [h2 t ht6, h1.at hw ht6 _ (by omega), List.getD_eq_getElem?_getD]
  by_cases c : P t < ws.length
  · rw [lk_get hw c ((hP t ht6).2 c), if_pos c]; rfl
  · rw [if_neg c, show P t = ws.length by omega, List.getElem?_eq_none (by rw [lk_len' hw]; omega)]; rfl
theorem que_eq {ws : List Int} (hw : OkW ws) {i : Nat} (hi : i < ws.length) {y : Int} (hy : y = 10000 ∨ y = 20000) : Md_queueOf (y + ws.getD i 0) = ((6 * fw ws i + tw ws i : Nat) : Int) := by
  obtain ⟨m, s1, s2, s3, s4, -⟩ := wnum hw hi
  obtain ⟨-, -, n3, n4, -⟩ := okw_num m
  unfold Md_queueOf
  rw [jrem_nn (by omega) (by omega) (by omega) (by omega), show (y + ws.getD i 0) % 10000 = ws.getD i 0 by omega, show Md_from (ws.getD i 0) = (fw ws i : Int) from s1, show Md_to (ws.getD i 0) = (tw ws i : Int) from s2]
  simp (disch := omega) only [wr_id]
  omega
theorem canR {ws : List Int} {k : Nat} {P : Nat → Nat} {g : Gx} (hw : OkW ws) (hP : PlI ws P) (h : RnR ws k P g) {t : Nat} (ht6 : t < 6) (lim : Int) : Md_can (t : Int) (k : Int) lim g = some (if (cnp ws t (P t) : Int) < lim ∧ abl ws P t then 1 else 0, g) := by
  have aa := act_at hw hP h ht6
  obtain ⟨h1, h2, h3⟩ := h
  unfold Md_can
  simp only [if_pos (show 0 ≤ (t : Int) ∧ (t : Int) < 6 by omega)]
  rw [Int.toNat_natCast, aa, ob_eq]
  simp only
  rw [h2 t ht6]
  by_cases c0 : lim ≤ (cnp ws t (P t) : Int)
  · rw [if_pos c0, if_neg (fun h9 => by omega)]
  · rw [if_neg c0]
    by_cases c1 : P t < ws.length
    · obtain ⟨m, -, -, s3, s4, s5⟩ := wnum hw c1
      obtain ⟨-, -, n3, n4, -⟩ := okw_num m
      have pr := (hP t ht6).2 c1
      rw [if_pos c1]
      by_cases c2 : fw ws (P t) = t
      · rw [if_pos c2, if_neg (by omega), if_pos (by omega), if_pos ⟨by omega, c1, Or.inl c2⟩]
      · have tt : tw ws (P t) = t := by rcases pr with h9 | h9; exact absurd h9 c2; exact h9
        rw [if_neg c2, if_neg (by omega), if_neg (by omega), que_eq hw c1 (Or.inr rfl), if_pos (by omega), Int.toNat_natCast, h3 _ _ s3 s4 s5]
        have qp := qv_pos (ws := ws) (P := P) (p := P t) (by rw [tt])
        by_cases c3 : P t < P (fw ws (P t))
        · rw [if_neg (by have := qp.mpr c3; omega), if_pos ⟨by omega, c1, Or.inr c3⟩]
        · rw [if_pos (by have : ¬ 0 < qv ws P (fw ws (P t)) (tw ws (P t)) := fun h9 => c3 (qp.mp h9); omega), if_neg (fun h9 => by rcases h9.2.2 with h8 | h8; exact c2 h8; exact c3 h8)]
    · rw [if_neg c1, if_pos rfl, if_neg (fun h9 => c1 h9.2.1)]
theorem doesD {ws : List Int} {k : Nat} {P : Nat → Nat} {g : Gx} (hw : OkW ws) (hP : PlI ws P) (h : RnR ws k P g) {t : Nat} (ht6 : t < 6) (ht : P t < ws.length) : ∃ g', Md_does (t : Int) (k : Int) g = some g' ∧ RnR ws k (stp ws P t) g' ∧ g' 92 44 = imax (g 92 44) (qv ws (stp ws P t) (fw ws (P t)) (tw ws (P t))) ∧ ∀ x, x < 6 → g' 122 (6 * x + x) = g 122 (6 * x + x) := by
  have aa := act_at hw hP h ht6
  obtain ⟨h1, h2, h3⟩ := h
  have l24 := hw.1
  obtain ⟨m, s1, s2, s3, s4, s5⟩ := wnum hw ht
  obtain ⟨-, -, n3, n4, -⟩ := okw_num m
  have pr := (hP t ht6).2 ht
  have qb := qv_b hw hP s3 s4
  have qs := qv_stp hw hP ht6 ht (fw ws (P t)) (tw ws (P t)) s5
  rw [if_pos ⟨rfl, rfl⟩] at qs
  have cl := cnp_le ws t (P t)
  have hq : Md_queueOf ((if fw ws (P t) = t then 10000 else 20000) + ws.getD (P t) 0) = ((6 * fw ws (P t) + tw ws (P t) : Nat) : Int) := que_eq hw ht (by split <;> omega)
  have ci : 0 ≤ ((6 * fw ws (P t) + tw ws (P t) : Nat) : Int) ∧ ((6 * fw ws (P t) + tw ws (P t) : Nat) : Int) < 36 := by omega
  have ct : 0 ≤ (t : Int) ∧ (t : Int) < 6 := by omega
  unfold Md_does
  rw [if_pos ct, Int.toNat_natCast, aa, if_pos ht, ob_eq]
  simp only
  rw [hq, h2 t ht6, Int.toNat_natCast]
  simp only [if_pos ci, if_pos ct, lett_eq]
  rw [h3 _ _ s3 s4 s5, gs_same]
  have eq : wr (qv ws P (fw ws (P t)) (tw ws (P t)) + (if 20000 ≤ (if fw ws (P t) = t then 10000 else 20000) + ws.getD (P t) 0 then -1 else 1)) = qv ws (stp ws P t) (fw ws (P t)) (tw ws (P t)) := by
    rw [qs]
    by_cases c : fw ws (P t) = t
    · rw [if_pos c, if_pos c, if_neg (by omega), wr_id (by omega) (by omega)]
    · rw [if_neg c, if_neg c, if_pos (by omega), wr_id (by omega) (by omega)]
  rw [eq, wr_id (x := (cnp ws t (P t) : Int) + 1) (by omega) (by omega)]
  have fin : ∀ x : Int, RnR ws k (stp ws P t) (gset (gset (gset g 122 (6 * fw ws (P t) + tw ws (P t)) (qv ws (stp ws P t) (fw ws (P t)) (tw ws (P t)))) 92 44 x) 121 t ((cnp ws t (P t) : Int) + 1)) := by
    intro x
    refine ⟨h1.of (by rw [gset_ne (by decide), gset_ne (by decide), gset_ne (by decide)]) (by rw [gset_ne (by decide), gset_ne (by decide), gset_ne (by decide)]), fun y hy => ?_, fun f o hf ho hfo => ?_⟩
    · by_cases c : y = t
      · subst c; rw [gs_same, stp_same, cnp_nxt ht pr]; omega
      · rw [gs_at c, stp_ne c, gc (by decide), gc (by decide)]; exact h2 y hy
    · rw [gc (by decide), gc (by decide)]
      by_cases c : f = fw ws (P t) ∧ o = tw ws (P t)
      · obtain ⟨rfl, rfl⟩ := c
        rw [gs_same]
      · rw [gs_at (q_ne ho s4 c), h3 f o hf ho hfo, qv_stp hw hP ht6 ht f o hfo, if_neg (fun h9 => c ⟨h9.1.symm, h9.2.symm⟩)]
        omega
  have dg : ∀ (y : Int) (x : Nat), x < 6 → (gset (gset (gset g 122 (6 * fw ws (P t) + tw ws (P t)) (qv ws (stp ws P t) (fw ws (P t)) (tw ws (P t)))) 92 44 y) 121 t ((cnp ws t (P t) : Int) + 1)) 122 (6 * x + x) = g 122 (6 * x + x) := fun y x hx => by
    rw [gc (by decide), gc (by decide), gs_at (q_ne hx s4 (fun h9 => s5 (by omega)))]
  by_cases c : qv ws (stp ws P t) (fw ws (P t)) (tw ws (P t)) ≤ g 92 44
  · rw [if_pos c]
    refine ⟨_, rfl, fin _, ?_, dg _⟩
    rw [gc (by decide), gs_same]
    unfold imax
    split <;> omega
  · rw [if_neg c]
    refine ⟨_, rfl, fin _, ?_, dg _⟩
    rw [gc (by decide), gs_same]
    unfold imax
    split <;> omega
theorem doesR {ws : List Int} {k : Nat} {P : Nat → Nat} {g : Gx} (hw : OkW ws) (hP : PlI ws P) (h : RnR ws k P g) {t : Nat} (ht6 : t < 6) (ht : P t < ws.length) : ∃ g', Md_does (t : Int) (k : Int) g = some g' ∧ RnR ws k (stp ws P t) g' ∧ g' 92 44 = imax (g 92 44) (qv ws (stp ws P t) (fw ws (P t)) (tw ws (P t))) := by
  obtain ⟨g', a, b, c, -⟩ := doesD hw hP h ht6 ht
  exact ⟨g', a, b, c⟩
