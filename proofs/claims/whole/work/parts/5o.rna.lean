/-! Runs: places, counts, queues. Own text. -/
abbrev prt (ws : List Int) (t i : Nat) : Prop := fw ws i = t ∨ tw ws i = t
def cnp (ws : List Int) (t : Nat) : Nat → Nat
  | 0 => 0
  | n + 1 => cnp ws t n + if prt ws t n then 1 else 0
def pcq (ws : List Int) (f o : Nat) : Nat → Nat
  | 0 => 0
  | n + 1 => pcq ws f o n + if fw ws n = f ∧ tw ws n = o then 1 else 0
def nxp (ws : List Int) (t : Nat) : Nat → Nat → Nat
  | 0, p => p
  | d + 1, p => if prt ws t p then p else nxp ws t d (p + 1)
def nxt (ws : List Int) (t p : Nat) : Nat := nxp ws t (ws.length - p) p
theorem nxp_ok {ws : List Int} {t : Nat} : ∀ d p, p ≤ nxp ws t d p ∧ nxp ws t d p ≤ p + d ∧ (nxp ws t d p < p + d → prt ws t (nxp ws t d p)) ∧ ∀ i, p ≤ i → i < nxp ws t d p → ¬ prt ws t i := by
  intro d
  induction d with
  | zero => intro p; exact ⟨Nat.le_refl _, Nat.le_refl _, fun h => by rw [nxp] at h; omega, fun i h1 h2 => by rw [nxp] at h2; omega⟩
  | succ d ih =>
    intro p
    rw [nxp]
    by_cases c : prt ws t p
    · rw [if_pos c]
      exact ⟨Nat.le_refl _, by omega, fun _ => c, fun i h1 h2 => by omega⟩
    · rw [if_neg c]
      obtain ⟨a, b, c', e⟩ := ih (p + 1)
      refine ⟨by omega, by omega, fun h => c' (by omega), fun i h1 h2 => ?_⟩
      by_cases e2 : i = p
      · rw [e2]; exact c
      · exact e i (by omega) h2
theorem nxt_ok {ws : List Int} {t p : Nat} (hp : p ≤ ws.length) : p ≤ nxt ws t p ∧ nxt ws t p ≤ ws.length ∧ (nxt ws t p < ws.length → prt ws t (nxt ws t p)) ∧ ∀ i, p ≤ i → i < nxt ws t p → ¬ prt ws t i := by
  obtain ⟨a, b, c, d⟩ := nxp_ok (ws := ws) (t := t) (ws.length - p) p
  exact ⟨a, by unfold nxt; omega, fun h => c (by unfold nxt at h; omega), d⟩
theorem cnp_c {ws : List Int} {t a : Nat} : ∀ d, (∀ i, a ≤ i → i < a + d → ¬ prt ws t i) → cnp ws t (a + d) = cnp ws t a := by
  intro d
  induction d with
  | zero => intro _; rfl
  | succ d ih =>
    intro h
    rw [← Nat.add_assoc, cnp, ih (fun i h1 h2 => h i h1 (by omega)), if_neg (h (a + d) (by omega) (by omega))]
    rfl
theorem pcq_c {ws : List Int} {f o a : Nat} : ∀ d, (∀ i, a ≤ i → i < a + d → ¬ (fw ws i = f ∧ tw ws i = o)) → pcq ws f o (a + d) = pcq ws f o a := by
  intro d
  induction d with
  | zero => intro _; rfl
  | succ d ih =>
    intro h
    rw [← Nat.add_assoc, pcq, ih (fun i h1 h2 => h i h1 (by omega)), if_neg (h (a + d) (by omega) (by omega))]
    rfl
theorem cnp_mono {ws : List Int} {t a : Nat} : ∀ d, cnp ws t a ≤ cnp ws t (a + d) := by
  intro d
  induction d with
  | zero => exact Nat.le_refl _
  | succ d ih => rw [← Nat.add_assoc, cnp]; omega
theorem pcq_mono {ws : List Int} {f o a : Nat} : ∀ d, pcq ws f o a ≤ pcq ws f o (a + d) := by
  intro d
  induction d with
  | zero => exact Nat.le_refl _
  | succ d ih => rw [← Nat.add_assoc, pcq]; omega
theorem cnp_le (ws : List Int) (t : Nat) : ∀ n, cnp ws t n ≤ n := by
  intro n
  induction n with
  | zero => exact Nat.le_refl _
  | succ n ih => rw [cnp]; split <;> omega
theorem pcq_le (ws : List Int) (f o : Nat) : ∀ n, pcq ws f o n ≤ n := by
  intro n
  induction n with
  | zero => exact Nat.le_refl _
  | succ n ih => rw [pcq]; split <;> omega
theorem cnp_nxt {ws : List Int} {t p : Nat} (hp : p < ws.length) (h : prt ws t p) : cnp ws t (nxt ws t (p + 1)) = cnp ws t p + 1 := by
  obtain ⟨a, b, c, d⟩ := nxt_ok (ws := ws) (t := t) (p := p + 1) (by omega)
  have := cnp_c (ws := ws) (t := t) (a := p + 1) (nxt ws t (p + 1) - (p + 1)) (fun i h1 h2 => d i h1 (by omega))
  rw [show p + 1 + (nxt ws t (p + 1) - (p + 1)) = nxt ws t (p + 1) by omega] at this
  rw [this, cnp, if_pos h]
theorem pcq_nxt {ws : List Int} {t p : Nat} (hp : p < ws.length) (f o : Nat) (ht : f = t ∨ o = t) : pcq ws f o (nxt ws t (p + 1)) = pcq ws f o p + if fw ws p = f ∧ tw ws p = o then 1 else 0 := by
  obtain ⟨a, b, c, d⟩ := nxt_ok (ws := ws) (t := t) (p := p + 1) (by omega)
  have := pcq_c (ws := ws) (f := f) (o := o) (a := p + 1) (nxt ws t (p + 1) - (p + 1)) (fun i h1 h2 h9 => d i h1 (by omega) (by rcases ht with h | h; exact Or.inl (by omega); exact Or.inr (by omega)))
  rw [show p + 1 + (nxt ws t (p + 1) - (p + 1)) = nxt ws t (p + 1) by omega] at this
  rw [this, pcq]
def updP (P : Nat → Nat) (t x : Nat) : Nat → Nat := fun y => if y = t then x else P y
def stp (ws : List Int) (P : Nat → Nat) (t : Nat) : Nat → Nat := updP P t (nxt ws t (P t + 1))
def PlI (ws : List Int) (P : Nat → Nat) : Prop := ∀ t, t < 6 → P t ≤ ws.length ∧ (P t < ws.length → prt ws t (P t))
def qv (ws : List Int) (P : Nat → Nat) (f o : Nat) : Int := (pcq ws f o (P f) : Int) - (pcq ws f o (P o) : Int)
theorem stp_same {ws : List Int} {P : Nat → Nat} {t : Nat} : stp ws P t t = nxt ws t (P t + 1) := by unfold stp updP; rw [if_pos rfl]
theorem stp_ne {ws : List Int} {P : Nat → Nat} {t y : Nat} (h : y ≠ t) : stp ws P t y = P y := by unfold stp updP; rw [if_neg h]
theorem PlI.stp {ws : List Int} {P : Nat → Nat} (h : PlI ws P) {t : Nat} (ht : P t < ws.length) : PlI ws (stp ws P t) := by
  intro y hy
  by_cases c : y = t
  · subst c
    rw [stp_same]
    obtain ⟨a, b, c, d⟩ := nxt_ok (ws := ws) (t := y) (p := P y + 1) (by omega)
    exact ⟨b, c⟩
  · rw [stp_ne c]; exact h y hy
theorem qv_stp {ws : List Int} (hw : OkW ws) {P : Nat → Nat} (h : PlI ws P) {t : Nat} (ht6 : t < 6) (ht : P t < ws.length) (f o : Nat) (hfo : f ≠ o) : qv ws (stp ws P t) f o = qv ws P f o + if fw ws (P t) = f ∧ tw ws (P t) = o then (if fw ws (P t) = t then 1 else -1) else 0 := by
  have pr := (h t ht6).2 ht
  obtain ⟨-, -, -, -, -, ne⟩ := wnum hw ht
  unfold qv
  by_cases c1 : f = t
  · subst c1
    rw [stp_same, stp_ne (show o ≠ f from fun h9 => hfo h9.symm), pcq_nxt ht f o (Or.inl rfl)]
    by_cases c3 : fw ws (P f) = f ∧ tw ws (P f) = o
    · rw [if_pos c3, if_pos c3, if_pos c3.1]; omega
    · rw [if_neg c3, if_neg c3]; omega
  · by_cases c2 : o = t
    · subst c2
      rw [stp_same, stp_ne c1, pcq_nxt ht f o (Or.inr rfl)]
      by_cases c3 : fw ws (P o) = f ∧ tw ws (P o) = o
      · rw [if_pos c3, if_pos c3, if_neg (show ¬ fw ws (P o) = o by omega)]; omega
      · rw [if_neg c3, if_neg c3]; omega
    · rw [stp_ne c1, stp_ne c2, if_neg (show ¬ (fw ws (P t) = f ∧ tw ws (P t) = o) from fun h9 => by rcases pr with h8 | h8; exact c1 (by omega); exact c2 (by omega))]
      omega
theorem qv_b {ws : List Int} (hw : OkW ws) {P : Nat → Nat} (h : PlI ws P) {f o : Nat} (hf : f < 6) (ho : o < 6) : -24 ≤ qv ws P f o ∧ qv ws P f o ≤ 24 := by
  have l24 := hw.1
  have a := pcq_le ws f o (P f)
  have b := pcq_le ws f o (P o)
  have c := (h f hf).1
  have d := (h o ho).1
  unfold qv
  omega
/-- the getting at p can be done just if its saying has been -/
theorem qv_pos {ws : List Int} {P : Nat → Nat} {p : Nat} (hp : P (tw ws p) = p) : (0 < qv ws P (fw ws p) (tw ws p)) ↔ p < P (fw ws p) := by
  unfold qv
  rw [hp]
  constructor
  · intro h
    by_cases c : p < P (fw ws p)
    · exact c
    · have := pcq_mono (ws := ws) (f := fw ws p) (o := tw ws p) (a := P (fw ws p)) (p - P (fw ws p))
      rw [show P (fw ws p) + (p - P (fw ws p)) = p by omega] at this
      omega
  · intro h
    have := pcq_mono (ws := ws) (f := fw ws p) (o := tw ws p) (a := p + 1) (P (fw ws p) - (p + 1))
    rw [show p + 1 + (P (fw ws p) - (p + 1)) = P (fw ws p) by omega, pcq, if_pos ⟨rfl, rfl⟩] at this
    omega
abbrev abl (ws : List Int) (P : Nat → Nat) (t : Nat) : Prop := P t < ws.length ∧ (fw ws (P t) = t ∨ P t < P (fw ws (P t)))
def tot (ws : List Int) (P : Nat → Nat) : Nat := cnp ws 0 (P 0) + cnp ws 1 (P 1) + cnp ws 2 (P 2) + cnp ws 3 (P 3) + cnp ws 4 (P 4) + cnp ws 5 (P 5)
theorem two6 : ∀ a, a < 6 → ∀ b, b < 6 → a ≠ b → (if a = 0 ∨ b = 0 then 1 else 0) + (if a = 1 ∨ b = 1 then 1 else 0) + (if a = 2 ∨ b = 2 then 1 else 0) + (if a = 3 ∨ b = 3 then 1 else 0) + (if a = 4 ∨ b = 4 then 1 else 0) + (if a = 5 ∨ b = 5 then 1 else 0) = 2 := by decide
theorem tot_all {ws : List Int} (hw : OkW ws) : ∀ n, n ≤ ws.length → tot ws (fun _ => n) = 2 * n := by
  intro n
  induction n with
  | zero => intro _; rfl
  | succ n ih =>
    intro h
    have i := ih (by omega)
    obtain ⟨-, -, -, a, b, c⟩ := wnum hw (show n < ws.length by omega)
    have := two6 _ a _ b c
    simp only [tot, cnp, prt] at i ⊢
    omega
theorem tot_le {ws : List Int} (hw : OkW ws) {P : Nat → Nat} (h : PlI ws P) : tot ws P ≤ 2 * ws.length := by
  rw [← tot_all hw ws.length (Nat.le_refl _)]
  have m : ∀ t, t < 6 → cnp ws t (P t) ≤ cnp ws t ws.length := fun t ht => by
    have := cnp_mono (ws := ws) (t := t) (a := P t) (ws.length - P t)
    rw [show P t + (ws.length - P t) = ws.length by have := (h t ht).1; omega] at this
    exact this
  have m0 := m 0 (by decide)
  have m1 := m 1 (by decide)
  have m2 := m 2 (by decide)
  have m3 := m 3 (by decide)
  have m4 := m 4 (by decide)
  have m5 := m 5 (by decide)
  simp only [tot]
  omega
theorem tot_stp {ws : List Int} {P : Nat → Nat} (h : PlI ws P) {t : Nat} (ht6 : t < 6) (ht : P t < ws.length) : tot ws (stp ws P t) = tot ws P + 1 := by
  have e := cnp_nxt ht ((h t ht6).2 ht)
  unfold tot
  rcases (show t = 0 ∨ t = 1 ∨ t = 2 ∨ t = 3 ∨ t = 4 ∨ t = 5 by omega) with rfl | rfl | rfl | rfl | rfl | rfl <;> simp [stp, updP, e] <;> omega
/-! lots -/
def cab (a : Nat → Bool) : Nat → Nat → Nat
  | 0, _ => 0
  | d + 1, t => (if a t = true then 1 else 0) + cab a d (t + 1)
def pks (a : Nat → Bool) : Nat → Nat → Nat → Nat
  | 0, t, _ => t
  | d + 1, t, n => if a t = true then (if n = 0 then t else pks a d (t + 1) (n - 1)) else pks a d (t + 1) n
theorem pks_ok {a : Nat → Bool} : ∀ d t n, n < cab a d t → pks a d t n < t + d ∧ a (pks a d t n) = true ∧ t ≤ pks a d t n := by
  intro d
  induction d with
  | zero => intro t n h; rw [cab] at h; omega
  | succ d ih =>
    intro t n h
    rw [cab] at h
    rw [pks]
    by_cases c : a t = true
    · rw [if_pos c] at h ⊢
      by_cases c2 : n = 0
      · rw [if_pos c2]; exact ⟨by omega, c, Nat.le_refl _⟩
      · rw [if_neg c2]
        obtain ⟨x, y, z⟩ := ih (t + 1) (n - 1) (by omega)
        exact ⟨by omega, y, by omega⟩
    · rw [if_neg c] at h ⊢
      obtain ⟨x, y, z⟩ := ih (t + 1) n (by omega)
      exact ⟨by omega, y, by omega⟩
theorem cab_cg {a b : Nat → Bool} : ∀ d t, (∀ i, t ≤ i → i < t + d → a i = b i) → cab a d t = cab b d t := by
  intro d
  induction d with
  | zero => intro t _; rfl
  | succ d ih => intro t h; rw [cab, cab, h t (by omega) (by omega), ih (t + 1) (fun i h1 h2 => h i (by omega) (by omega))]
theorem pks_cg {a b : Nat → Bool} : ∀ d t n, (∀ i, t ≤ i → i < t + d → a i = b i) → pks a d t n = pks b d t n := by
  intro d
  induction d with
  | zero => intro t n _; rfl
  | succ d ih => intro t n h; rw [pks, pks, h t (by omega) (by omega), ih (t + 1) n (fun i h1 h2 => h i (by omega) (by omega)), ih (t + 1) (n - 1) (fun i h1 h2 => h i (by omega) (by omega))]
theorem cab_le (a : Nat → Bool) : ∀ d t, cab a d t ≤ d := by
  intro d
  induction d with
  | zero => intro t; exact Nat.le_refl _
  | succ d ih => intro t; have := ih (t + 1); rw [cab]; split <;> omega
theorem bcm64 : ∀ m : Nat, m < 64 → Ji_bitCount (m : Int) = (cab (fun t => m.testBit t) 6 0 : Int) := by decide +kernel
theorem ushr16 (x : Int) : 0 ≤ jushr x 16 ∧ jushr x 16 < 65536 := by
  unfold jushr
  have e : ((Int32.ofInt x).toUInt32 >>> ((Int32.ofInt 16).toUInt32 &&& Int32.toUInt32 31)).toBitVec.toNat = (Int32.ofInt x).toUInt32.toBitVec.toNat >>> 16 := by
    rw [UInt32.toBitVec_shiftRight]
    rw [BitVec.ushiftRight_eq', BitVec.toNat_ushiftRight]
    congr 1
  have l : (Int32.ofInt x).toUInt32.toBitVec.toNat < 2 ^ 32 := BitVec.isLt _
  have l2 : (Int32.ofInt x).toUInt32.toBitVec.toNat >>> 16 < 65536 := by
    rw [Nat.shiftRight_eq_div_pow]; omega
  have e2 : ((Int32.ofInt x).toUInt32 >>> ((Int32.ofInt 16).toUInt32 &&& Int32.toUInt32 31)).toInt32.toInt = (((Int32.ofInt x).toUInt32 >>> ((Int32.ofInt 16).toUInt32 &&& Int32.toUInt32 31)).toBitVec.toNat : Int) := by
    rw [← Int32.toInt_toBitVec]
    exact i32_nn (by rw [UInt32.toBitVec_toInt32, e]; omega)
  rw [e2, e]
  omega
theorem lot_ok (x : Int) {m : Nat} (h0 : 0 < m) (h6 : m ≤ 6) : ∃ n : Nat, n < m ∧ jrem (jushr x 16) (m : Int) = (n : Int) := by
  obtain ⟨a, b⟩ := ushr16 x
  rw [jrem_nn a (by omega) (by omega) (by omega)]
  have h1 := Int.emod_nonneg (jushr x 16) (show (m : Int) ≠ 0 by omega)
  have h2 := Int.emod_lt_of_pos (jushr x 16) (show (0 : Int) < (m : Int) by omega)
  exact ⟨(jushr x 16 % (m : Int)).toNat, by omega, by omega⟩
