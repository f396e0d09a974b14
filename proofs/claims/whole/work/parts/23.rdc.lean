/-! The class reads a text as told. Own text. -/
def TxC (t : List Int) (g : Gx) : Prop := g 1 2 = (t.length : Int) ∧ t.length ≤ 160 ∧ ∀ i, i < t.length → g 3 i = chr t i
theorem TxC.of {t : List Int} {g g' : Gx} (h : TxC t g) (h1 : g' 1 2 = g 1 2) (h3 : g' 3 = g 3) : TxC t g' := by
  unfold TxC
  rw [h1, h3]; exact h
theorem at1 {t : List Int} {g : Gx} (h : TxC t g) {x : Int} (p : Nat) (hx : x = (p : Int)) : Tx_at1 x g = chr t p := by
  subst hx
  obtain ⟨h1, h2, h3⟩ := h
  unfold Tx_at1
  rw [if_neg (by omega)]
  rcases Nat.lt_or_ge p t.length with hp | hp
  · rw [if_neg (by omega), rat_in (by omega) (by omega), Int.toNat_natCast]
    exact h3 p hp
  · rw [if_pos (by omega)]
    simp [chr, List.getD_eq_getElem?_getD, List.getElem?_eq_none hp]
theorem ri_eq (g : Gx) (b c : Int) (hb : Tx_at1 (g 28 5) g = b) (hc : Tx_at1 (wr (g 28 5 + 1)) g = c) : Pr_readItem g = if b = 45 then (0, gset g 28 5 (wr (g 28 5 + 1))) else if 65 ≤ b ∧ b ≤ 70 then (if c = 62 then Pr_readSaying b g else Pr_readOpening b g) else if 50 ≤ b ∧ b ≤ 52 then Pr_readOpening b g else Pr_failAt (g 28 5) g := by
  unfold Pr_readItem
  simp only [lett, hb, hc, tl_eq]
  by_cases h1 : b = 45
  · simp [h1]
  · by_cases h2 : 65 ≤ b ∧ b ≤ 70
    · by_cases h3 : c = 62 <;> simp [h1, h2, h3]
    · by_cases h3 : 50 ≤ b ∧ b ≤ 52
      · have h4 : ¬ b < 50 := by omega
        have h5 : ¬ 52 < b := by omega
        simp [h1, h2, h3, h4, h5]
      · by_cases h4 : b < 50
        · simp [h1, h2, h3, h4]
        · have h5 : 52 < b := by omega
          simp [h1, h2, h3, h5]
def ZC (g : Gx) : List Fm → Nat → Nat → Prop
  | [], lo, cl => lo = 0 ∧ cl = 0
  | (kd, c, t, m, W, bf) :: fs, lo, cl => ∃ p0 c0 pb cb : Nat, ZC g fs p0 c0 ∧ EncC g (4 - fs.length) p0 pb c0 cb bf ∧ g 32 fs.length = (pb : Int) ∧ pb < lo ∧ cb ≤ cl ∧
      ((kd = 0 ∧ g 30 fs.length = -1 ∧ g 9 pb = 4 ∧ g 11 pb = (c : Int) ∧ lo = pb + 1 ∧ cb = cl) ∨
       (kd = 1 ∧ m ≤ 3 ∧ g 30 fs.length = (c : Int) ∧ cb = c ∧ c < cl ∧ g 9 pb = 1 ∧ g 11 pb = (c : Int) ∧ g 13 c = (t : Int) ∧ g 15 c = ((m + 1 : Nat) : Int) ∧ ∃ s e cs : Nat → Nat, s 0 = pb + 1 ∧ cs 0 = c + 1 ∧ s m = lo ∧ cs m = cl ∧ (∀ i, i < m → EncC g (3 - fs.length) (s i) (e i) (cs i) (cs (i + 1)) (W i) ∧ g 9 (e i) = 2 ∧ g 11 (e i) = (c : Int) ∧ s (i + 1) = e i + 1) ∧ ∀ i, i ≤ m → g 17 (4 * c + i) = (s i : Int)))
theorem way_lim {m : Nat} {s e : Nat → Nat} (h : ∀ i, i < m → s i ≤ e i ∧ s (i + 1) = e i + 1) : ∀ k i, i + k ≤ m → s i + k ≤ s (i + k)
  | 0, _, _ => Nat.le_refl _
  | k + 1, i, hk => by
    have a := way_lim h k i (by omega)
    have b := h (i + k) (by omega)
    rw [show i + (k + 1) = i + k + 1 by omega]
    omega
theorem ZC.mono {g g' : Gx} : ∀ {fs : List Fm} {lo cl : Nat}, ZC g fs lo cl → (∀ i, i < lo → g' 9 i = g 9 i ∧ g' 11 i = g 11 i) → (∀ c, c < cl → TbA g g' c) → (∀ i, i < fs.length → g' 30 i = g 30 i ∧ g' 32 i = g 32 i) → ZC g' fs lo cl
  | [], _, _, h, _, _, _ => h
  | (kd, c, t, m, W, bf) :: fs, lo, cl, h, x, y, z => by
    obtain ⟨p0, c0, pb, cb, h1, h2, h3, h4, h5, h6⟩ := h
    have l2 := h2.le
    have z0 := z fs.length (by simp)
    have xb := x pb h4
    refine ⟨p0, c0, pb, cb, ZC.mono h1 (fun i hi => x i (by omega)) (fun i hi => y i (by omega)) (fun i hi => z i (by simp; omega)), h2.mono (fun i _ hi => x i (by omega)) (fun i _ hi => y i (by omega)), by rw [z0.2]; exact h3, h4, h5, ?_⟩
    rcases h6 with ⟨a1, a2, a3, a4, a5, a6⟩ | ⟨a1, hm4, a2, a3, a4, a5, a6, a7, a8, s, e, cs, b1, b2, b3, b4, b5, b6⟩
    · exact Or.inl ⟨a1, by rw [z0.1]; exact a2, by rw [xb.1]; exact a3, by rw [xb.2]; exact a4, a5, a6⟩
    · obtain ⟨y1, y2, y3, y4⟩ := y c a4
      have wl := way_lim (fun i hi => ⟨(b5 i hi).1.le.1, (b5 i hi).2.2.2⟩)
      have il := ids_mono (fun i hi => (b5 i hi).1.le.2)
      · refine Or.inr ⟨a1, hm4, by rw [z0.1]; exact a2, a3, a4, by rw [xb.1]; exact a5, by rw [xb.2]; exact a6, by rw [y1]; exact a7, by rw [y2]; exact a8, s, e, cs, b1, b2, b3, b4, fun i hi => ?_, fun i hi => by rw [y4 i (by omega)]; exact b6 i hi⟩
        obtain ⟨d1, d2, d3, d4⟩ := b5 i hi
        have q1 := wl (m - (i + 1)) (i + 1) (by omega)
        have q2 := il (m - (i + 1)) (i + 1) (by omega)
        rw [show i + 1 + (m - (i + 1)) = m by omega] at q1 q2
        have xe := x (e i) (by omega)
        exact ⟨d1.mono (fun j _ hj => x j (by omega)) (fun j _ hj => y j (by omega)), by rw [xe.1]; exact d2, by rw [xe.2]; exact d3, d4⟩
def RC (t : List Int) (s : PS) (g : Gx) : Prop :=
  g 28 5 = (s.1 : Int) ∧ g 28 4 = (s.2.2.1.length : Int) ∧ g 28 6 = -1 ∧ g 28 7 = (s.2.2.2.2.2.1 : Int) ∧ g 28 8 = (s.2.2.2.2.2.2 : Int) ∧ g 7 11 = (s.2.2.2.2.1.length : Int) ∧ (∀ i, i < s.2.2.2.2.1.length → g 13 i = ((s.2.2.2.2.1.getD i 0 : Nat) : Int)) ∧ ∃ z lo cl : Nat, g 7 10 = (z : Int) ∧ z ≤ s.1 ∧ ZC g s.2.2.1 lo cl ∧ EncC g (4 - s.2.2.1.length) lo z cl s.2.2.2.2.1.length s.2.2.2.1
