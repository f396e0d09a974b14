/-! lost: who waits for ever. Own text. -/
def hbx (ws : List Int) (lt : Nat) (k : Int) : Nat → Nat → Bool
  | 0, _ => false
  | i + 1, t => (hbx ws lt k i t || decide (t = lt ∧ prt ws lt i ∧ k ≤ (cnp ws lt i : Int))) || (decide (t = tw ws i) && (hbx ws lt k i (fw ws i) || decide (fw ws i = lt ∧ prt ws lt i ∧ k ≤ (cnp ws lt i : Int))))
def hb1 (ws : List Int) (lt : Nat) (k : Int) (i t : Nat) : Bool := hbx ws lt k i t || decide (t = lt ∧ prt ws lt i ∧ k ≤ (cnp ws lt i : Int))
theorem hbx_s (ws : List Int) (lt : Nat) (k : Int) (i t : Nat) : hbx ws lt k (i + 1) t = (hb1 ws lt k i t || (decide (t = tw ws i) && hb1 ws lt k i (fw ws i))) := by
  rw [hbx]; rfl
def spx (ws : List Int) (lt : Nat) (k : Int) (t : Nat) : Nat → Nat → Nat
  | 0, p => p
  | d + 1, p => if prt ws t p ∧ hbx ws lt k (p + 1) t = true then p else spx ws lt k t d (p + 1)
def spl (ws : List Int) (lt : Nat) (k : Int) (t : Nat) : Nat := spx ws lt k t ws.length 0
theorem spx_ok {ws : List Int} {lt : Nat} {k : Int} {t : Nat} : ∀ d p, p ≤ spx ws lt k t d p ∧ spx ws lt k t d p ≤ p + d ∧ (spx ws lt k t d p < p + d → prt ws t (spx ws lt k t d p) ∧ hbx ws lt k (spx ws lt k t d p + 1) t = true) ∧ ∀ i, p ≤ i → i < spx ws lt k t d p → ¬ (prt ws t i ∧ hbx ws lt k (i + 1) t = true) := by
  intro d
  induction d with
  | zero => intro p; exact ⟨Nat.le_refl _, Nat.le_refl _, fun h => by rw [spx] at h; omega, fun i h1 h2 => by rw [spx] at h2; omega⟩
  | succ d ih =>
    intro p
    rw [spx]
    by_cases c : prt ws t p ∧ hbx ws lt k (p + 1) t = true
    · rw [if_pos c]
      exact ⟨Nat.le_refl _, by omega, fun _ => c, fun i h1 h2 => by omega⟩
    · rw [if_neg c]
      obtain ⟨a, b, c', e⟩ := ih (p + 1)
      refine ⟨by omega, by omega, fun h => c' (by omega), fun i h1 h2 => ?_⟩
      by_cases e2 : i = p
      · rw [e2]; exact c
      · exact e i (by omega) h2
theorem hbx_mono {ws : List Int} {lt : Nat} {k : Int} {t i : Nat} : ∀ d, hbx ws lt k i t = true → hbx ws lt k (i + d) t = true := by
  intro d
  induction d with
  | zero => exact id
  | succ d ih =>
    intro h
    rw [← Nat.add_assoc, hbx_s]
    unfold hb1
    rw [ih h]
    rfl
theorem hbx_in {ws : List Int} {lt : Nat} {k : Int} {t : Nat} : ∀ i, hbx ws lt k i t = true → ∃ p, p < i ∧ prt ws t p ∧ hbx ws lt k (p + 1) t = true := by
  intro i
  induction i with
  | zero => intro h; rw [hbx] at h; exact absurd h (by decide)
  | succ i ih =>
    intro h
    have h0 := h
    rw [hbx_s] at h
    unfold hb1 at h
    simp only [Bool.or_eq_true, Bool.and_eq_true, decide_eq_true_eq] at h
    rcases h with (h | h) | h
    · obtain ⟨p, a, b, c⟩ := ih h
      exact ⟨p, by omega, b, c⟩
    · exact ⟨i, by omega, by rw [h.1]; exact h.2.1, h0⟩
    · exact ⟨i, by omega, Or.inr h.1.symm, h0⟩
theorem hbx_iff {ws : List Int} {lt : Nat} {k : Int} {t i : Nat} (hi : i ≤ ws.length) : hbx ws lt k i t = true ↔ spl ws lt k t < i := by
  obtain ⟨a, b, c, d⟩ := spx_ok (ws := ws) (lt := lt) (k := k) (t := t) ws.length 0
  unfold spl
  constructor
  · intro h
    obtain ⟨p, p1, p2, p3⟩ := hbx_in i h
    by_cases e : p < spx ws lt k t ws.length 0
    · exact absurd ⟨p2, p3⟩ (d p (by omega) e)
    · omega
  · intro h
    have := hbx_mono (i - (spx ws lt k t ws.length 0 + 1)) (c (by omega)).2
    rwa [show spx ws lt k t ws.length 0 + 1 + (i - (spx ws lt k t ws.length 0 + 1)) = i by omega] at this
theorem spl_le (ws : List Int) (lt : Nat) (k : Int) (t : Nat) : spl ws lt k t ≤ ws.length := by
  obtain ⟨a, b, c, d⟩ := spx_ok (ws := ws) (lt := lt) (k := k) (t := t) ws.length 0
  unfold spl
  omega
theorem hb1_f {ws : List Int} (hw : OkW ws) {lt : Nat} {k : Int} {i : Nat} (hi : i < ws.length) : hb1 ws lt k i (fw ws i) = true ↔ spl ws lt k (fw ws i) ≤ i := by
  have h := hbx_iff (ws := ws) (lt := lt) (k := k) (t := fw ws i) (i := i + 1) (by omega)
  obtain ⟨-, -, -, -, -, ne⟩ := wnum hw hi
  rw [hbx_s, decide_eq_false ne, Bool.false_and, Bool.or_false] at h
  rw [h]; omega
theorem hbx_o {ws : List Int} {lt : Nat} {k : Int} {i : Nat} (hi : i < ws.length) : (hb1 ws lt k i (tw ws i) || hb1 ws lt k i (fw ws i)) = true ↔ spl ws lt k (tw ws i) ≤ i := by
  have h := hbx_iff (ws := ws) (lt := lt) (k := k) (t := tw ws i) (i := i + 1) (by omega)
  rw [hbx_s, decide_eq_true rfl, Bool.true_and] at h
  rw [h]; omega
theorem sp_F1 {ws : List Int} (hw : OkW ws) {lt : Nat} {k : Int} {i : Nat} (hi : i < ws.length) (h : i < spl ws lt k (tw ws i)) : i < spl ws lt k (fw ws i) := by
  by_cases c : i < spl ws lt k (fw ws i)
  · exact c
  · have a := (hb1_f hw hi).mpr (Nat.le_of_not_lt c)
    have b := (hbx_o (lt := lt) (k := k) hi).mp (by rw [a, Bool.or_true])
    omega
theorem sp_F2 {ws : List Int} {lt : Nat} {k : Int} {i : Nat} (hi : i < ws.length) (hp : prt ws lt i) (h : i < spl ws lt k lt) : (cnp ws lt i : Int) < k := by
  by_cases c : (cnp ws lt i : Int) < k
  · exact c
  · have a : hbx ws lt k (i + 1) lt = true := by
      rw [hbx_s]
      unfold hb1
      rw [decide_eq_true (show lt = lt ∧ prt ws lt i ∧ k ≤ (cnp ws lt i : Int) from ⟨rfl, hp, by omega⟩), Bool.or_true]
      rfl
    have := (hbx_iff (by omega)).mp a
    omega
theorem sp_F3 {ws : List Int} (hw : OkW ws) {lt : Nat} {k : Int} {t : Nat} (h : spl ws lt k t < ws.length) : prt ws t (spl ws lt k t) ∧ ((t = lt ∧ k ≤ (cnp ws lt (spl ws lt k t) : Int)) ∨ (t = tw ws (spl ws lt k t) ∧ spl ws lt k (fw ws (spl ws lt k t)) ≤ spl ws lt k t)) := by
  obtain ⟨a, b, c, d⟩ := spx_ok (ws := ws) (lt := lt) (k := k) (t := t) ws.length 0
  have e := c (by unfold spl at h; omega)
  have e1 : prt ws t (spl ws lt k t) := e.1
  have e2 : hbx ws lt k (spl ws lt k t + 1) t = true := e.2
  have e3 : ¬ hbx ws lt k (spl ws lt k t) t = true := fun h9 => by
    have := (hbx_iff (by omega)).mp h9; omega
  refine ⟨e1, ?_⟩
  rw [hbx_s, Bool.or_eq_true, Bool.and_eq_true, decide_eq_true_eq] at e2
  rcases e2 with e2 | ⟨e2, e4⟩
  · unfold hb1 at e2
    rw [Bool.or_eq_true, decide_eq_true_eq] at e2
    rcases e2 with e2 | e2
    · exact absurd e2 e3
    · exact Or.inl ⟨e2.1, e2.2.2⟩
  · exact Or.inr ⟨e2, (hb1_f hw h).mp e4⟩
/-! what the reference can reach -/
def limL (lt : Nat) (k : Int) (t : Nat) : Int := if t = lt then k else 48
abbrev canL (ws : List Int) (lt : Nat) (k : Int) (P : Nat → Nat) (t : Nat) : Prop := (cnp ws t (P t) : Int) < limL lt k t ∧ abl ws P t
def SfL (ws : List Int) (lt : Nat) (k : Int) (P : Nat → Nat) : Prop := ∀ t, t < 6 → P t ≤ spl ws lt k t
theorem SfL.stp {ws : List Int} (hw : OkW ws) {lt : Nat} {k : Int} {P : Nat → Nat} (hP : PlI ws P) (h : SfL ws lt k P) {t : Nat} (ht : t < 6) (hc : canL ws lt k P t) : SfL ws lt k (stp ws P t) := by
  intro y hy
  by_cases c : y = t
  · subst c
    rw [stp_same]
    obtain ⟨c1, c2, c3⟩ := hc
    have le := h y hy
    have lt' : P y < spl ws lt k y := by
      by_cases e : P y < spl ws lt k y
      · exact e
      · have e2 : spl ws lt k y = P y := by omega
        obtain ⟨f1, f2⟩ := sp_F3 hw (lt := lt) (k := k) (t := y) (by omega)
        rw [e2] at f1 f2
        obtain ⟨-, -, -, f6, -, ne⟩ := wnum hw c2
        rcases f2 with ⟨f2, f3⟩ | ⟨f2, f3⟩
        · unfold limL at c1
          rw [if_pos f2] at c1
          rw [← f2] at f3
          omega
        · rcases c3 with c3 | c3
          · omega
          · have := h _ f6
            omega
    obtain ⟨a, b, c, d⟩ := nxt_ok (ws := ws) (t := y) (p := P y + 1) (by omega)
    by_cases e : nxt ws y (P y + 1) ≤ spl ws lt k y
    · exact e
    · exact absurd (sp_F3 hw (lt := lt) (k := k) (t := y) (by omega)).1 (d _ (by omega) (by omega))
  · rw [stp_ne c]; exact h y hy
theorem prog {ws : List Int} (hw : OkW ws) {lt : Nat} {k : Int} {P : Nat → Nat} (hP : PlI ws P) (h : SfL ws lt k P) : ∀ p t, t < 6 → P t = p → p < spl ws lt k t → ∃ y, y < 6 ∧ canL ws lt k P y := by
  have l24 := hw.1
  intro p
  induction p using Nat.strongRecOn with
  | ind p ih =>
    intro t ht hp hlt
    have sl := spl_le ws lt k t
    have lim : ∀ y, y < 6 → P y = p → p < spl ws lt k y → (cnp ws y (P y) : Int) < limL lt k y := fun y hy hyp hys => by
      have cl := cnp_le ws y (P y)
      have pr := (hP y hy).2 (by omega)
      unfold limL
      by_cases c : y = lt
      · subst c
        rw [if_pos rfl]
        rw [hyp] at pr ⊢
        exact sp_F2 (by omega) pr hys
      · rw [if_neg c]; omega
    have pr := (hP t ht).2 (by omega)
    rw [hp] at pr
    obtain ⟨-, -, -, f6, -, ne⟩ := wnum hw (show p < ws.length by omega)
    by_cases c : fw ws p = t
    · exact ⟨t, ht, lim t ht hp hlt, by omega, Or.inl (by rw [hp]; exact c)⟩
    · have tt : tw ws p = t := by rcases pr with h9 | h9; exact absurd h9 c; exact h9
      have sf := sp_F1 hw (lt := lt) (k := k) (i := p) (by omega) (by rw [tt]; exact hlt)
      by_cases c2 : p < P (fw ws p)
      · exact ⟨t, ht, lim t ht hp hlt, by omega, Or.inr (by rw [hp]; exact c2)⟩
      · by_cases c3 : P (fw ws p) = p
        · exact ⟨fw ws p, f6, lim _ f6 c3 sf, by omega, Or.inl (by rw [c3])⟩
        · exact ih (P (fw ws p)) (by omega) (fw ws p) f6 rfl (by omega)
theorem fixp {ws : List Int} (hw : OkW ws) {lt : Nat} {k : Int} {P : Nat → Nat} (hP : PlI ws P) (h : SfL ws lt k P) (hn : ∀ y, y < 6 → ¬ canL ws lt k P y) : ∀ t, t < 6 → P t = spl ws lt k t := by
  intro t ht
  have := h t ht
  by_cases c : P t < spl ws lt k t
  · obtain ⟨y, y1, y2⟩ := prog hw hP h (P t) t ht rfl c
    exact absurd y2 (hn y y1)
  · omega
def DgL (g : Gx) : Prop := ∀ x, x < 6 → g 122 (6 * x + x) = 0
theorem rndR {ws : List Int} {k : Nat} (hw : OkW ws) {lt : Nat} {kk : Int} (c4 : Int) (K : Int → Gx → Option (Int × Gx)) : ∀ (d t n : Nat) (P : Nat → Nat) (v6 : Int) (G : Gx), t + d = 6 → d < n → PlI ws P → SfL ws lt kk P → RnR ws k P G → DgL G → ∃ P' G' v', Md_lost_l69 (k : Int) (lt : Int) kk c4 K n v6 (t : Int) G = K v' G' ∧ PlI ws P' ∧ SfL ws lt kk P' ∧ RnR ws k P' G' ∧ DgL G' ∧ ((v' = v6 ∧ P' = P ∧ ∀ y, t ≤ y → y < 6 → ¬ canL ws lt kk P y) ∨ (v' = 1 ∧ tot ws P < tot ws P')) := by
  intro d
  induction d with
  | zero =>
    intro t n P v6 G ht hn hP hS hR hD
    obtain ⟨n, rfl⟩ : ∃ q, n = q + 1 := ⟨n - 1, by omega⟩
    exact ⟨P, G, v6, by rw [Md_lost_l69, if_pos (by omega)], hP, hS, hR, hD, Or.inl ⟨rfl, rfl, fun y h1 h2 => by omega⟩⟩
  | succ d ih =>
    intro t n P v6 G ht hn hP hS hR hD
    obtain ⟨n, rfl⟩ : ∃ q, n = q + 1 := ⟨n - 1, by omega⟩
    have el : (if ¬ (t : Int) = (lt : Int) then 48 else kk) = limL lt kk t := by
      unfold limL
      by_cases c : t = lt
      · rw [if_neg (by omega), if_pos c]
      · rw [if_pos (by omega), if_neg c]
    rw [Md_lost_l69, if_neg (by omega), el, lett_eq, canR hw hP hR (by omega), ob_eq]
    simp only
    rw [wr_id (x := (t : Int) + 1) (by omega) (by omega), show (t : Int) + 1 = ((t + 1 : Nat) : Int) by omega]
    by_cases c : canL ws lt kk P t
    · rw [if_pos c, if_neg (show ¬ (1 : Int) = 0 by decide)]
      obtain ⟨g', a1, a2, a3, a4⟩ := doesD hw hP hR (show t < 6 by omega) c.2.1
      rw [a1, ob_eq]
      have tt := tot_stp hP (show t < 6 by omega) c.2.1
      obtain ⟨P', G', v', b1, b2, b3, b4, b5, b6⟩ := ih (t + 1) n (stp ws P t) 1 g' (by omega) (by omega) (hP.stp c.2.1) (hS.stp hw hP (by omega) c) a2 (fun x hx => by rw [a4 x hx]; exact hD x hx)
      refine ⟨P', G', v', b1, b2, b3, b4, b5, Or.inr ?_⟩
      rcases b6 with ⟨b6, b7, -⟩ | ⟨b6, b7⟩
      · exact ⟨b6, by rw [b7]; omega⟩
      · exact ⟨b6, by omega⟩
    · rw [if_neg c, if_pos rfl]
      obtain ⟨P', G', v', b1, b2, b3, b4, b5, b6⟩ := ih (t + 1) n P v6 G (by omega) (by omega) hP hS hR hD
      refine ⟨P', G', v', b1, b2, b3, b4, b5, ?_⟩
      rcases b6 with ⟨b6, b7, b8⟩ | b6
      · refine Or.inl ⟨b6, b7, fun y h1 h2 => ?_⟩
        by_cases e : y = t
        · rw [e]; exact c
        · exact b8 y (by omega) h2
      · exact Or.inr b6
theorem losR {ws : List Int} {k : Nat} (hw : OkW ws) {lt : Nat} {kk : Int} (c4 : Int) (K : Gx → Option (Int × Gx)) : ∀ (d n : Nat) (P : Nat → Nat) (G : Gx), 2 * ws.length ≤ tot ws P + d → d + 2 < n → PlI ws P → SfL ws lt kk P → RnR ws k P G → DgL G → ∃ P' G', Md_lost_l58 (k : Int) (lt : Int) kk c4 K n 1 G = K G' ∧ RnR ws k P' G' ∧ DgL G' ∧ ∀ t, t < 6 → P' t = spl ws lt kk t := by
  intro d
  induction d with
  | zero =>
    intro n P G hd hn hP hS hR hD
    obtain ⟨n, rfl⟩ : ∃ q, n = q + 1 := ⟨n - 1, by omega⟩
    obtain ⟨n, rfl⟩ : ∃ q, n = q + 1 := ⟨n - 1, by omega⟩
    rw [Md_lost_l58, if_neg (by decide)]
    obtain ⟨P', G', v', b1, b2, b3, b4, b5, b6⟩ := rndR (k := k) hw (lt := lt) (kk := kk) c4 (fun x7 g8 => Md_lost_l58 (k : Int) (lt : Int) kk c4 K (n + 1) x7 g8) 6 0 fu P 0 G (by omega) (fu_big _ (by decide)) hP hS hR hD
    rw [show ((0 : Nat) : Int) = 0 from rfl] at b1
    rw [b1]
    rcases b6 with ⟨b6, b7, b8⟩ | ⟨b6, b7⟩
    · rw [b6, Md_lost_l58, if_pos rfl]
      exact ⟨P', G', rfl, b4, b5, fixp hw b2 b3 (fun y hy => by rw [b7]; exact b8 y (by omega) hy)⟩
    · have := tot_le hw b2; omega
  | succ d ih =>
    intro n P G hd hn hP hS hR hD
    obtain ⟨n, rfl⟩ : ∃ q, n = q + 1 := ⟨n - 1, by omega⟩
    rw [Md_lost_l58, if_neg (by decide)]
    obtain ⟨P', G', v', b1, b2, b3, b4, b5, b6⟩ := rndR (k := k) hw (lt := lt) (kk := kk) c4 (fun x7 g8 => Md_lost_l58 (k : Int) (lt : Int) kk c4 K n x7 g8) 6 0 fu P 0 G (by omega) (fu_big _ (by decide)) hP hS hR hD
    rw [show ((0 : Nat) : Int) = 0 from rfl] at b1
    rw [b1]
    rcases b6 with ⟨b6, b7, b8⟩ | ⟨b6, b7⟩
    · obtain ⟨n, rfl⟩ : ∃ q, n = q + 1 := ⟨n - 1, by omega⟩
      rw [b6, Md_lost_l58, if_pos rfl]
      exact ⟨P', G', rfl, b4, b5, fixp hw b2 b3 (fun y hy => by rw [b7]; exact b8 y (by omega) hy)⟩
    · rw [b6]
      exact ih n P' G' (by omega) (by omega) b2 b3 b4 b5
