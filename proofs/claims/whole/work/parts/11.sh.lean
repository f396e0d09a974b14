/-! Sheets, tellings, the log emptied. Own text. -/
/-- sheets, and the number of the latest finding, of both -/
def ISh (g : Gx) : Prop := g 92 4 = g 0 12 ∧ ∀ s : Nat, s < 4 → g 93 s = g 89 s ∧ (-1 ≤ g 89 s ∧ g 89 s ≤ 2) ∧ (0 ≤ g 89 s → g 94 s = g 91 s ∧ (0 ≤ g 91 s ∧ g 91 s ≤ 60) ∧ ∀ i : Nat, (i : Int) < g 91 s → g 95 (60 * s + i) = g 87 (60 * s + i))
theorem ISh.of {g g' : Gx} (h : ISh g) (e0 : g' 0 12 = g 0 12) (e1 : g' 92 4 = g 92 4) (e2 : g' 93 = g 93) (e3 : g' 89 = g 89) (e4 : g' 94 = g 94) (e5 : g' 91 = g 91) (e6 : g' 95 = g 95) (e7 : g' 87 = g 87) : ISh g' := by
  unfold ISh
  rw [e0, e1, e2, e3, e4, e5, e6, e7]
  exact h
/-- both refuse with a finding -/
theorem met_ok {g : Gx} (h : ISh g) (k : Int) : ISh (gset (gset g 0 12 k) 92 4 k) := by
  refine ⟨by simp [gset], fun s hs => ?_⟩
  have := h.2 s hs
  simpa [gset] using this
theorem wr60 {s i : Int} (h0 : 0 ≤ s) (h1 : s < 4) (h2 : 0 ≤ i) (h3 : i < 60) : wr (wr (s * 60) + i) = 60 * s + i ∧ wr (wr (60 * s) + i) = 60 * s + i := by
  rw [wr_id (x := s * 60) (by omega) (by omega), wr_id (x := 60 * s) (by omega) (by omega), wr_id (by omega) (by omega), wr_id (by omega) (by omega)]
  exact ⟨by omega, rfl⟩
theorem lacks_eq {g g1 : Gx} (h : ISh g) {s : Nat} (hs : s < 4) (a2 a3 : Int) (e1 : g1 93 = g 93) (e2 : g1 94 = g 94) :
    (Md_lacks (s : Int) a2 a3 g1 = if Sh_wrongAbout (s : Int) a2 a3 g = 0 then some (0, g1) else some (wr (-10 - Sh_wrongAbout (s : Int) a2 a3 g), gset g1 92 4 (Sh_wrongAbout (s : Int) a2 a3 g))) ∧ (Sh_wrongAbout (s : Int) a2 a3 g = 0 → 0 ≤ g 89 s ∧ g 89 s = a2 ∧ 0 ≤ a3 ∧ a3 < g 91 s) := by
  obtain ⟨h1, h2, h3⟩ := h.2 s hs
  have hr : (0 : Int) ≤ (s : Int) ∧ (s : Int) < 4 := by omega
  have q89 : rat g 89 4 (s : Int) = g 89 s := rat_in hr.1 hr.2
  have q91 : rat g 91 4 (s : Int) = g 91 s := rat_in hr.1 hr.2
  by_cases hl : g 89 s = -1
  · have hw : Sh_wrongAbout (s : Int) a2 a3 g = 1 := by simp [Sh_wrongAbout, Sh_isLost, q89, hl]
    rw [hw]
    refine ⟨?_, fun h9 => by omega⟩
    have : ¬ 0 ≤ g1 93 s := by rw [e1, h1]; omega
    simp [Md_lacks, hr, this, Md_met, lett]
  · have hp : 0 ≤ g 89 s := by omega
    obtain ⟨h4, h5, h6⟩ := h3 hp
    have hp1 : 0 ≤ g1 93 s := by rw [e1, h1]; exact hp
    by_cases hf : g 89 s = a2
    · have n1 : ¬ a2 = -1 := by omega
      have n2 : ¬ a2 < 0 := by omega
      have hf1 : g1 93 s = a2 := by rw [e1, h1]; exact hf
      have hz : g1 94 s = g 91 s := by rw [e2, h4]
      have hwz : wr (g1 94 s - 1) = g 91 s - 1 := by rw [hz]; exact wr_id (by omega) (by omega)
      by_cases hi : 0 ≤ a3 ∧ a3 ≤ g 91 s - 1
      · have hin : ¬ Md_in a3 0 (wr (g1 94 s - 1)) = 0 := by rw [in_iff, hwz]; exact fun h9 => h9 hi
        have hw : Sh_wrongAbout (s : Int) a2 a3 g = 0 := by
          have a0 : ¬ a3 < 0 := by omega
          have a1 : ¬ g 91 s < a3 := by omega
          have a2' : wr (g 91 s - a3) = g 91 s - a3 := wr_id (by omega) (by omega)
          have a4 : ¬ g 91 s - a3 < 1 := by omega
          simp [Sh_wrongAbout, Sh_isLost, Sh_hasItems, Sh_size, q89, q91, hf, n1, a0, a1, a2', a4]
        rw [hw]
        refine ⟨?_, fun _ => ⟨hp, hf, hi.1, by omega⟩⟩
        simp [Md_lacks, hr, hf1, n2, hin]
      · have hin : Md_in a3 0 (wr (g1 94 s - 1)) = 0 := by rw [in_iff, hwz]; exact hi
        have hw : Sh_wrongAbout (s : Int) a2 a3 g = 2 := by
          have hh : Sh_hasItems (s : Int) a3 1 g = 0 := by
            unfold Sh_hasItems Sh_size
            rw [q91]
            by_cases b0 : a3 < 0
            · simp [b0]
            · by_cases b1 : g 91 s < a3
              · simp [b0, b1]
              · have : wr (g 91 s - a3) < 1 := by rw [wr_id (by omega) (by omega)]; omega
                simp [b0, b1, this]
          simp [Sh_wrongAbout, Sh_isLost, q89, hf, n1, hh]
        rw [hw]
        refine ⟨?_, fun h9 => by omega⟩
        simp [Md_lacks, hr, hf1, n2, hin, Md_met, lett]
    · have hw : Sh_wrongAbout (s : Int) a2 a3 g = 3 := by simp [Sh_wrongAbout, Sh_isLost, q89, hl, hf]
      have hf1 : ¬ g1 93 s = a2 := by rw [e1, h1]; exact hf
      rw [hw]
      refine ⟨?_, fun h9 => by omega⟩
      simp [Md_lacks, hr, hp1, hf1, Md_met, lett]
theorem ISh.found {g : Gx} (h : ISh g) (k : Int) : ISh (gset (gset g 0 12 k) 92 4 k) := met_ok h k
theorem st_put {g : Gx} (h : ISh g) (a1 a2 a3 a4 : Int) : ∃ r g1 g2, Op_put a1 a2 a3 a4 g = (r, g1) ∧ Md_put a1 a2 a3 a4 g1 = some (r, g2) ∧ ISh g2 := by
  by_cases hs : 0 ≤ a1 ∧ a1 ≤ 3
  · have hs1 : ¬ Op_isSheet a1 = 0 := fun h9 => isSheet_iff.mp h9 hs
    have hs2 : ¬ Md_isSheet a1 = 0 := fun h9 => mdSheet_iff.mp h9 hs
    by_cases hf : 0 ≤ a2 ∧ a2 ≤ 2
    · have hf1 : ¬ Op_isForm a2 = 0 := fun h9 => isForm_iff.mp h9 hf
      have hf2 : ¬ Md_in a2 0 2 = 0 := fun h9 => in_iff.mp h9 hf
      obtain ⟨s, rfl⟩ := Int.eq_ofNat_of_zero_le hs.1
      have hs4 : s < 4 := by omega
      by_cases hw : Sh_wrongAbout (s : Int) a2 a3 g = 0
      · have hm : ∀ g1 : Gx, g1 93 = g 93 → g1 94 = g 94 → Md_lacks (s : Int) a2 a3 g1 = some (0, g1) := fun g1 e1 e2 => by
          have := (lacks_eq h hs4 a2 a3 e1 e2).1
          rw [if_pos hw] at this
          exact this
        obtain ⟨c1, c2, c3, c4⟩ := (lacks_eq (g1 := g) h hs4 a2 a3 rfl rfl).2 hw
        obtain ⟨h1, h2, h3⟩ := h.2 s hs4
        obtain ⟨h4, h5, h6⟩ := h3 c1
        have hwr := wr60 (s := (s : Int)) (i := a3) hs.1 (by omega) c3 (by omega)
        have hidx : (60 * (s : Int) + a3).toNat = 60 * s + a3.toNat := by omega
        have q89 : rat g 89 4 (s : Int) = g 89 s := rat_in hs.1 (by omega)
        have hch : Sh_change (s : Int) a3 a4 g = gset g 87 (60 * s + a3.toNat) (Md_cut a2 a4) := by
          have hin : (0 : Int) ≤ 60 * (s : Int) + a3 ∧ 60 * (s : Int) + a3 < ((240 : Nat) : Int) := by omega
          unfold Sh_change Md_cut
          rw [q89, c2, hwr.1]
          by_cases k0 : a2 = 0
          · rw [if_neg (by omega), if_neg (by omega), rset_in hin, hidx]
          · by_cases k1 : a2 = 1
            · rw [if_pos k0, if_neg (by omega), if_pos k0, if_neg (by omega), rset_in hin, hidx]
            · rw [if_pos k0, if_pos k1, if_pos k0, if_pos k1, rset_in hin, hidx]
        refine ⟨1, gset g 87 (60 * s + a3.toNat) (Md_cut a2 a4), gset (gset g 87 (60 * s + a3.toNat) (Md_cut a2 a4)) 95 (60 * s + a3.toNat) (Md_cut a2 a4), ?_, ?_, ?_⟩
        · simp [Op_put, hs1, hf1, hw, lett, hch]
        · have hin : 0 ≤ 60 * (s : Int) + a3 ∧ 60 * (s : Int) + a3 < 240 := by omega
          simp only [Md_put, hs2, hf2, if_false, not_false_eq_true, if_true]
          rw [hm _ (gset_ne (by decide)) (gset_ne (by decide))]
          simp only [Option.bind_some, if_true]
          rw [hwr.2, if_pos hin, hidx]
        · refine ⟨by simpa [gset] using h.1, fun z hz => ?_⟩
          obtain ⟨z1, z2, z3⟩ := h.2 z hz
          have e89 : gset (gset g 87 (60 * s + a3.toNat) (Md_cut a2 a4)) 95 (60 * s + a3.toNat) (Md_cut a2 a4) 89 = g 89 := by rw [gset_ne (by decide), gset_ne (by decide)]
          have e93 : gset (gset g 87 (60 * s + a3.toNat) (Md_cut a2 a4)) 95 (60 * s + a3.toNat) (Md_cut a2 a4) 93 = g 93 := by rw [gset_ne (by decide), gset_ne (by decide)]
          have e94 : gset (gset g 87 (60 * s + a3.toNat) (Md_cut a2 a4)) 95 (60 * s + a3.toNat) (Md_cut a2 a4) 94 = g 94 := by rw [gset_ne (by decide), gset_ne (by decide)]
          have e91 : gset (gset g 87 (60 * s + a3.toNat) (Md_cut a2 a4)) 95 (60 * s + a3.toNat) (Md_cut a2 a4) 91 = g 91 := by rw [gset_ne (by decide), gset_ne (by decide)]
          rw [e89, e93, e94, e91]
          refine ⟨z1, z2, fun zp => ⟨(z3 zp).1, (z3 zp).2.1, fun i hi => ?_⟩⟩
          have := (z3 zp).2.2 i hi
          by_cases hx : 60 * z + i = 60 * s + a3.toNat
          · simp [gset, hx]
          · simp [gset, hx, this]
      · refine ⟨wr (-10 - Sh_wrongAbout (s : Int) a2 a3 g), gset g 0 12 (Sh_wrongAbout (s : Int) a2 a3 g), gset (gset g 0 12 (Sh_wrongAbout (s : Int) a2 a3 g)) 92 4 (Sh_wrongAbout (s : Int) a2 a3 g), ?_, ?_, h.found _⟩
        · simp [Op_put, hs1, hf1, hw, lett, Op_found]
        · have hm := (lacks_eq h hs4 a2 a3 (g1 := gset g 0 12 (Sh_wrongAbout (s : Int) a2 a3 g)) (gset_ne (by decide)) (gset_ne (by decide))).1
          rw [if_neg hw] at hm
          simp only [Md_put, hs2, hf2, if_false, not_false_eq_true, if_true]
          rw [hm]
          have hne : ¬ wr (-10 - Sh_wrongAbout (s : Int) a2 a3 g) = 0 := by
            have hb : Sh_wrongAbout (s : Int) a2 a3 g = 1 ∨ Sh_wrongAbout (s : Int) a2 a3 g = 2 ∨ Sh_wrongAbout (s : Int) a2 a3 g = 3 := by
              revert hw
              unfold Sh_wrongAbout
              split
              · split
                · split <;> simp
                · simp
              · simp
            rw [wr_id (by omega) (by omega)]; omega
          simp [hne]
    · have hf1 : Op_isForm a2 = 0 := isForm_iff.mpr hf
      have hf2 : Md_in a2 0 2 = 0 := in_iff.mpr hf
      exact ⟨-2, g, g, by simp [Op_put, hs1, hf1], by simp [Md_put, hs2, hf2], h⟩
  · have hs1 : Op_isSheet a1 = 0 := isSheet_iff.mpr hs
    have hs2 : Md_isSheet a1 = 0 := mdSheet_iff.mpr hs
    exact ⟨-2, g, g, by simp [Op_put, hs1], by simp [Md_put, hs2], h⟩
theorem wrong_123 {a1 a2 a3 : Int} {g : Gx} (hw : ¬ Sh_wrongAbout a1 a2 a3 g = 0) : Sh_wrongAbout a1 a2 a3 g = 1 ∨ Sh_wrongAbout a1 a2 a3 g = 2 ∨ Sh_wrongAbout a1 a2 a3 g = 3 := by
  revert hw
  unfold Sh_wrongAbout
  split
  · split
    · split <;> simp
    · simp
  · simp
theorem st_get {g : Gx} (h : ISh g) (a1 a2 a3 : Int) : ∃ r g1 g2, Op_get a1 a2 a3 g = (r, g1) ∧ Md_get a1 a2 a3 g1 = some (r, g2) ∧ ISh g2 := by
  by_cases hs : 0 ≤ a1 ∧ a1 ≤ 3
  · have hs1 : ¬ Op_isSheet a1 = 0 := fun h9 => isSheet_iff.mp h9 hs
    have hs2 : ¬ Md_isSheet a1 = 0 := fun h9 => mdSheet_iff.mp h9 hs
    by_cases hf : 0 ≤ a2 ∧ a2 ≤ 2
    · have hf1 : ¬ Op_isForm a2 = 0 := fun h9 => isForm_iff.mp h9 hf
      have hf2 : ¬ Md_in a2 0 2 = 0 := fun h9 => in_iff.mp h9 hf
      obtain ⟨s, rfl⟩ := Int.eq_ofNat_of_zero_le hs.1
      have hs4 : s < 4 := by omega
      by_cases hw : Sh_wrongAbout (s : Int) a2 a3 g = 0
      · have hm := (lacks_eq (g1 := g) h hs4 a2 a3 rfl rfl).1
        rw [if_pos hw] at hm
        obtain ⟨c1, c2, c3, c4⟩ := (lacks_eq (g1 := g) h hs4 a2 a3 rfl rfl).2 hw
        obtain ⟨h1, h2, h3⟩ := h.2 s hs4
        obtain ⟨h4, h5, h6⟩ := h3 c1
        have hwr := wr60 (s := (s : Int)) (i := a3) hs.1 (by omega) c3 (by omega)
        have hidx : (60 * (s : Int) + a3).toNat = 60 * s + a3.toNat := by omega
        have hin : 0 ≤ 60 * (s : Int) + a3 ∧ 60 * (s : Int) + a3 < 240 := by omega
        have hv := h6 a3.toNat (by omega)
        refine ⟨g 87 (60 * s + a3.toNat), g, g, ?_, ?_, h⟩
        · simp only [Op_get, hs1, hf1, hw, if_false, not_false_eq_true, if_true, Sh_item]
          rw [hwr.1, rat_in hin.1 hin.2, hidx]
        · simp only [Md_get, hs2, hf2, if_false]
          rw [hm]
          simp only [Option.bind_some, if_true]
          rw [hwr.2, if_pos hin, hidx, hv]
      · refine ⟨-2147483648, gset g 0 12 (Sh_wrongAbout (s : Int) a2 a3 g), gset (gset g 0 12 (Sh_wrongAbout (s : Int) a2 a3 g)) 92 4 (Sh_wrongAbout (s : Int) a2 a3 g), ?_, ?_, h.found _⟩
        · simp [Op_get, hs1, hf1, hw]
        · have hm := (lacks_eq h hs4 a2 a3 (g1 := gset g 0 12 (Sh_wrongAbout (s : Int) a2 a3 g)) (gset_ne (by decide)) (gset_ne (by decide))).1
          rw [if_neg hw] at hm
          simp only [Md_get, hs2, hf2, if_false]
          rw [hm]
          have hne : ¬ wr (-10 - Sh_wrongAbout (s : Int) a2 a3 g) = 0 := by
            have hb := wrong_123 hw
            rw [wr_id (by omega) (by omega)]; omega
          simp [hne]
    · have hf1 : Op_isForm a2 = 0 := isForm_iff.mpr hf
      have hf2 : Md_in a2 0 2 = 0 := in_iff.mpr hf
      exact ⟨-2147483648, g, g, by simp [Op_get, hs1, hf1], by simp [Md_get, hs2, hf2], h⟩
  · have hs1 : Op_isSheet a1 = 0 := isSheet_iff.mpr hs
    have hs2 : Md_isSheet a1 = 0 := mdSheet_iff.mpr hs
    exact ⟨-2147483648, g, g, by simp [Op_get, hs1], by simp [Md_get, hs2], h⟩
theorem st_lose {g : Gx} (h : ISh g) (a1 : Int) : ∃ r g1 g2, Op_lose a1 g = (r, g1) ∧ Md_lose a1 g1 = some (r, g2) ∧ ISh g2 := by
  by_cases hs : 0 ≤ a1 ∧ a1 ≤ 3
  · have hs1 : ¬ Op_isSheet a1 = 0 := fun h9 => isSheet_iff.mp h9 hs
    have hs2 : ¬ Md_isSheet a1 = 0 := fun h9 => mdSheet_iff.mp h9 hs
    obtain ⟨s, rfl⟩ := Int.eq_ofNat_of_zero_le hs.1
    have hs4 : s < 4 := by omega
    have hr : (0 : Int) ≤ (s : Int) ∧ (s : Int) < 4 := by omega
    have hr' : (0 : Int) ≤ (s : Int) ∧ (s : Int) < ((4 : Nat) : Int) := by omega
    obtain ⟨h1, h2, h3⟩ := h.2 s hs4
    have q89 : rat g 89 4 (s : Int) = g 89 s := rat_in hr.1 hr.2
    have q91 : rat g 91 4 (s : Int) = g 91 s := rat_in hr.1 hr.2
    by_cases hl : g 89 s = -1
    · have hlost : ¬ Sh_isLost (s : Int) g = 0 := by simp [Sh_isLost, q89, hl]
      refine ⟨wr (-10 - 1), gset g 0 12 1, gset (gset g 0 12 1) 92 4 1, ?_, ?_, h.found 1⟩
      · simp [Op_lose, hs1, hlost, lett, Op_found]
      · have : ¬ 0 ≤ gset g 0 12 1 93 s := by rw [gset_ne (by decide), h1]; omega
        simp [Md_lose, hs2, hr, this, lett, Md_met]
    · have hp : 0 ≤ g 89 s := by omega
      obtain ⟨h4, h5, h6⟩ := h3 hp
      have hlost : Sh_isLost (s : Int) g = 0 := by simp [Sh_isLost, q89, hl]
      refine ⟨g 91 s, gset (gset g 89 s (-1)) 91 s 0, gset (gset (gset g 89 s (-1)) 91 s 0) 93 s (-1), ?_, ?_, ?_⟩
      · have e1 : rset (rset g 89 4 (s : Int) (-1)) 91 4 (s : Int) 0 = gset (gset g 89 s (-1)) 91 s 0 := by
          rw [rset_in hr', rset_in hr']; rfl
        simp [Op_lose, hs1, hlost, lett, Sh_drop, q91, e1]
      · have e1 : gset (gset g 89 s (-1)) 91 s 0 93 s = g 89 s := by rw [gset_ne (by decide), gset_ne (by decide), h1]
        have e2 : gset (gset g 89 s (-1)) 91 s 0 94 s = g 91 s := by rw [gset_ne (by decide), gset_ne (by decide), h4]
        simp [Md_lose, hs2, hr, e1, e2, hp]
      · refine ⟨by simpa [gset] using h.1, fun z hz => ?_⟩
        obtain ⟨z1, z2, z3⟩ := h.2 z hz
        by_cases hx : z = s
        · subst hx
          simp [gset]
        · have := z3
          simp [gset, hx]
          exact ⟨z1, z2, z3⟩
  · have hs1 : Op_isSheet a1 = 0 := isSheet_iff.mpr hs
    have hs2 : Md_isSheet a1 = 0 := mdSheet_iff.mpr hs
    exact ⟨-2, g, g, by simp [Op_lose, hs1], by simp [Md_lose, hs2], h⟩
/-- tellings -/
def ITl (g : Gx) : Prop := g 92 7 = g 0 11 ∧ 0 ≤ g 0 11 ∧ g 0 11 ≤ 1073741823
theorem st_tell {g : Gx} (h : ITl g) (a1 : Int) : ∃ r g1 g2, Op_tell a1 g = (r, g1) ∧ Md_tell a1 g1 = (r, g2) ∧ ITl g2 := by
  by_cases ha : 0 ≤ a1 ∧ a1 ≤ 1073741823
  · have h1 : ¬ Md_in a1 0 1073741823 = 0 := fun h9 => in_iff.mp h9 ha
    refine ⟨g 0 11, gset g 0 11 a1, gset (gset g 0 11 a1) 92 7 a1, ?_, ?_, ?_⟩
    · simp [Op_tell, show ¬ a1 < 0 by omega, ha.2]
    · simp [Md_tell, h1, gset, h.1]
    · refine ⟨by simp [gset], ?_⟩
      simp [gset]
      exact ha
  · have h1 : Md_in a1 0 1073741823 = 0 := in_iff.mpr ha
    refine ⟨-2, g, g, ?_, by simp [Md_tell, h1], h⟩
    unfold Op_tell
    split
    · rfl
    · rw [if_neg (by omega)]
/-- the log -/
def ILg (g : Gx) : Prop := g 92 48 = g 78 4 ∧ (0 ≤ g 78 4 ∧ g 78 4 ≤ 40) ∧ ∀ i : Nat, (i : Int) < g 78 4 → g 127 i = g 80 i ∧ ¬ Bd_mayBe (g 80 i) = 0
theorem st_clear {g : Gx} (h : ILg g) : ∃ r g1 g2, Op_clear g = (r, g1) ∧ Md_clear g1 = (r, g2) ∧ ILg g2 := by
  refine ⟨g 78 4, gset g 78 4 0, gset (gset g 78 4 0) 92 48 0, by simp [Op_clear, Bd_empty, lett], by simp [Md_clear, gset, h.1], ?_⟩
  refine ⟨by simp [gset], by simp [gset], fun i hi => ?_⟩
  simp [gset] at hi
  omega
def zr (g : Gx) (c a b : Nat) : Gx := fun x j => if x = c ∧ a ≤ j ∧ j < b then 0 else g x j
theorem zr_nil (g : Gx) (c a : Nat) : zr g c a a = g := by
  funext x j
  unfold zr
  rw [if_neg (by omega)]
theorem zr_step (g : Gx) (c a b : Nat) (h : a < b) : zr (gset g c a 0) c (a + 1) b = zr g c a b := by
  funext x j
  unfold zr gset
  by_cases hx : x = c
  · subst hx
    by_cases hj : j = a
    · subst hj
      rw [if_neg (by omega), if_pos rfl, if_pos rfl, if_pos (by omega)]
    · by_cases hk : a ≤ j ∧ j < b
      · rw [if_pos (by omega), if_pos (by omega)]
      · rw [if_neg (by omega), if_pos rfl, if_neg hj, if_neg (by omega)]
  · rw [if_neg (by omega), if_neg hx, if_neg (by omega)]
theorem zr_ne {g : Gx} {c a b x : Nat} (h : x ≠ c) : zr g c a b x = g x := by
  funext j
  unfold zr
  rw [if_neg (by omega)]
theorem sh_renew_l {s m : Nat} (hs : s < 4) (hm : m ≤ 60) (K : Gx → Option Gx) : ∀ (d n v : Nat) (g : Gx), v + d = m → d < n → Sh_renew_l21 (s : Int) (m : Int) K n (v : Int) g = K (zr g 87 (60 * s + v) (60 * s + m)) := by
  intro d
  induction d with
  | zero =>
    intro n v g hv hn
    obtain ⟨n, rfl⟩ : ∃ k, n = k + 1 := ⟨n - 1, by omega⟩
    rw [Sh_renew_l21, if_pos (by omega), show v = m by omega, zr_nil]
  | succ d ih =>
    intro n v g hv hn
    obtain ⟨n, rfl⟩ : ∃ k, n = k + 1 := ⟨n - 1, by omega⟩
    have hw := (wr60 (s := (s : Int)) (i := (v : Int)) (by omega) (by omega) (by omega) (by omega)).1
    have hin : (0 : Int) ≤ 60 * (s : Int) + (v : Int) ∧ 60 * (s : Int) + (v : Int) < ((240 : Nat) : Int) := by omega
    rw [Sh_renew_l21, if_neg (by omega), hw, rset_in hin, wr_id (by omega) (by omega), show (v : Int) + 1 = ((v + 1 : Nat) : Int) by omega, ih n (v + 1) _ (by omega) (by omega)]
    rw [show (60 * (s : Int) + (v : Int)).toNat = 60 * s + v by omega, show 60 * s + (v + 1) = 60 * s + v + 1 by omega, zr_step _ _ _ _ (by omega)]
theorem md_sheet_l {s m : Nat} (hs : s < 4) (hm : m ≤ 60) (K : Gx → Option (Int × Gx)) : ∀ (d n v : Nat) (g : Gx), v + d = m → d < n → Md_sheet_l55 (s : Int) (m : Int) K n (v : Int) g = K (zr g 95 (60 * s + v) (60 * s + m)) := by
  intro d
  induction d with
  | zero =>
    intro n v g hv hn
    obtain ⟨n, rfl⟩ : ∃ k, n = k + 1 := ⟨n - 1, by omega⟩
    rw [Md_sheet_l55, if_pos (by omega), show v = m by omega, zr_nil]
  | succ d ih =>
    intro n v g hv hn
    obtain ⟨n, rfl⟩ : ∃ k, n = k + 1 := ⟨n - 1, by omega⟩
    have hw := (wr60 (s := (s : Int)) (i := (v : Int)) (by omega) (by omega) (by omega) (by omega)).2
    have hin : (0 : Int) ≤ 60 * (s : Int) + (v : Int) ∧ 60 * (s : Int) + (v : Int) < 240 := by omega
    rw [Md_sheet_l55, if_neg (by omega), hw, if_pos hin, wr_id (by omega) (by omega), show (v : Int) + 1 = ((v + 1 : Nat) : Int) by omega, ih n (v + 1) _ (by omega) (by omega)]
    rw [show (60 * (s : Int) + (v : Int)).toNat = 60 * s + v by omega, show 60 * s + (v + 1) = 60 * s + v + 1 by omega, zr_step _ _ _ _ (by omega)]
theorem st_sheet {g : Gx} (h : ISh g) (a1 a2 a3 : Int) : ∃ r g1 g2, Op_sheet a1 a2 a3 g = some (r, g1) ∧ Md_sheet a1 a2 a3 g1 = some (r, g2) ∧ ISh g2 := by
  by_cases hs : 0 ≤ a1 ∧ a1 ≤ 3
  · have hs1 : ¬ Op_isSheet a1 = 0 := fun h9 => isSheet_iff.mp h9 hs
    have hs2 : ¬ Md_isSheet a1 = 0 := fun h9 => mdSheet_iff.mp h9 hs
    by_cases hf : 0 ≤ a2 ∧ a2 ≤ 2
    · have hf1 : ¬ Op_isForm a2 = 0 := fun h9 => isForm_iff.mp h9 hf
      have hf2 : ¬ Md_in a2 0 2 = 0 := fun h9 => in_iff.mp h9 hf
      by_cases h6 : a3 ≤ 60
      · by_cases h0 : 0 ≤ a3
        · obtain ⟨s, rfl⟩ := Int.eq_ofNat_of_zero_le hs.1
          obtain ⟨m, rfl⟩ := Int.eq_ofNat_of_zero_le h0
          have hs4 : s < 4 := by omega
          have hr : (0 : Int) ≤ (s : Int) ∧ (s : Int) < 4 := by omega
          have hr' : (0 : Int) ≤ (s : Int) ∧ (s : Int) < ((4 : Nat) : Int) := by omega
          refine ⟨(m : Int), zr (gset (gset g 89 s a2) 91 s m) 87 (60 * s) (60 * s + m), zr (gset (gset (zr (gset (gset g 89 s a2) 91 s m) 87 (60 * s) (60 * s + m)) 93 s a2) 94 s m) 95 (60 * s) (60 * s + m), ?_, ?_, ?_⟩
          · have := sh_renew_l hs4 (show m ≤ 60 by omega) (fun g1 => some g1) m fu 0 (rset (rset g 89 4 (s : Int) a2) 91 4 (s : Int) (m : Int)) (by omega) (fu_big _ (by omega))
            simp only [Op_sheet, hs1, hf1, h6, h0, if_false, if_true, Sh_renew]
            rw [show ((0 : Int)) = ((0 : Nat) : Int) from rfl, this]
            rw [rset_in hr', rset_in hr']
            rfl
          · have := md_sheet_l hs4 (show m ≤ 60 by omega) (fun g1 => some ((m : Int), g1)) m fu 0 (gset (gset (zr (gset (gset g 89 s a2) 91 s m) 87 (60 * s) (60 * s + m)) 93 s a2) 94 s m) (by omega) (fu_big _ (by omega))
            simp only [Md_sheet, hs2, hf2, h6, h0, if_false, if_true, hr, and_self]
            rw [show ((0 : Int)) = ((0 : Nat) : Int) from rfl]
            exact this
          · refine ⟨by simpa [zr, gset] using h.1, fun z hz => ?_⟩
            obtain ⟨z1, z2, z3⟩ := h.2 z hz
            by_cases hx : z = s
            · subst hx
              simp [zr, gset]
              refine ⟨by omega, fun _ => ⟨by omega, fun i hi => ?_⟩⟩
              rw [if_pos (by omega), if_pos (by omega)]
            · simp [zr, gset, hx]
              refine ⟨z1, z2, fun zp => ⟨(z3 zp).1, (z3 zp).2.1, fun i hi => ?_⟩⟩
              have hi60 : i < 60 := by have := (z3 zp).2.1.2; omega
              rw [if_neg (by omega), if_neg (by omega)]
              exact (z3 zp).2.2 i hi
        · refine ⟨wr (-10 - 5), gset g 0 12 5, gset (gset g 0 12 5) 92 4 5, ?_, ?_, h.found 5⟩
          · simp [Op_sheet, hs1, hf1, h6, h0, lett, Op_found]
          · simp [Md_sheet, hs2, hf2, h6, h0, lett, Md_met]
      · exact ⟨-2, g, g, by simp [Op_sheet, hs1, hf1, h6], by simp [Md_sheet, hs2, hf2, h6], h⟩
    · have hf1 : Op_isForm a2 = 0 := isForm_iff.mpr hf
      have hf2 : Md_in a2 0 2 = 0 := in_iff.mpr hf
      exact ⟨-2, g, g, by simp [Op_sheet, hs1, hf1], by simp [Md_sheet, hs2, hf2], h⟩
  · have hs1 : Op_isSheet a1 = 0 := isSheet_iff.mpr hs
    have hs2 : Md_isSheet a1 = 0 := mdSheet_iff.mpr hs
    exact ⟨-2, g, g, by simp [Op_sheet, hs1], by simp [Md_sheet, hs2], h⟩
