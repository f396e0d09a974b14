/-! mended: one trial of the class. Own text. -/
def LM (t : List Int) (m : Int) (G : Gx) : Prop := PdC t G ∧ (G 33 13 = G 7 12 → SetC t G) ∧ (0 ≤ G 33 16 ∧ G 33 16 ≤ m) ∧ (-1 ≤ G 55 5 ∧ G 55 5 ≤ G 33 16) ∧ (-1 ≤ G 33 13 ∧ G 33 13 ≤ G 7 12)
def WMk : List Nat := [21, 23, 25, 27, 35, 37, 39, 41, 43, 45, 47, 49, 52, 54, 57, 3121, 3122, 3123, 3124, 3125, 3126, 3127, 3128, 4525]
theorem lm_make {t : List Int} {m w : Int} {g : Gx} (h : LM t m g) (hm : m < 2000000000) (hp : (pln t).1 = -1) (hw : 0 ≤ w ∧ w ≤ 1073741823) : ∃ (r : Int) (g' : Gx), Hi_make w g = some (r, g') ∧ (r = 0 ∨ r = 1) ∧ (r = 0 ↔ TM (pD t w)) ∧ LM t (m + 1) g' ∧ (r = 1 → Mdy t w g') := by
  obtain ⟨r2, k3, a1, a2, a3⟩ := id h
  obtain ⟨-, -, -, -, z, b5, b6, b7⟩ := r2.2 hp
  by_cases hch : g 33 13 = g 7 12 ∧ g 33 14 = w
  · obtain ⟨d1, d2, d3⟩ := k3 hch.1
    have em : Hi_make w g = if ¬ (g 33 15) = 0 then some (0, g) else some (1, g) := by
      unfold Hi_make St_version
      rw [if_neg (by omega), if_neg (by omega)]
    rw [em]
    have hL : LM t (m + 1) g := ⟨r2, k3, by omega, a2, a3⟩
    rcases d3 with ⟨d3, d4⟩ | ⟨d3, d4, d5, d6⟩
    · rw [if_pos (by omega)]
      exact ⟨0, g, rfl, Or.inl rfl, ⟨fun _ => by rw [← hch.2]; exact d4, fun _ => rfl⟩, hL, fun h9 => absurd h9 (by decide)⟩
    · rw [if_neg (by omega)]
      exact ⟨1, g, rfl, Or.inr rfl, ⟨fun h9 => absurd h9 (by decide), fun h9 => absurd (by rw [hch.2]; exact h9) d4⟩, hL, fun _ => ⟨hch.1, hch.2, d3, by rw [← hch.2]; exact d5⟩⟩
  · obtain ⟨r, g', e1, e2, e3, e4, e5, e6, e7, e8⟩ := make_new hw b5 b6 b7 hch
    have f := fr_Hi_make w g r g' e1
    have c712 : g' 7 12 = g 7 12 := f.fld (by decide) (by decide)
    have c55 : g' 55 5 = g 55 5 := f.fld (by decide) (by decide)
    have m1 : g' 33 16 = g 33 16 + 1 := by rw [e7, wr_id (by omega) (by omega)]
    have ag : AGc g g' := ⟨f.fld (by decide) (by decide), f.cell (by decide) (by decide), f.cell (by decide) (by decide), f.cell (by decide) (by decide), f.cell (by decide) (by decide), f.cell (by decide) (by decide), f.cell (by decide) (by decide)⟩
    have pd' : PdC t g' := r2.of (f.fld (by decide) (by decide)) (f.fld (by decide) (by decide)) (f.fld (by decide) (by decide)) (f.fld (by decide) (by decide)) ag
    refine ⟨r, g', e1, e2, e3, ⟨pd', fun h9 => ⟨hp, by rw [e5]; exact hw, ?_⟩, by omega, by omega, by rw [e4, c712]; omega⟩, fun h9 => ⟨by rw [e4, c712], e5, by rw [e6, h9]; decide, e8 h9⟩⟩
    rw [e5]
    rcases e2 with h8 | h8
    · exact Or.inl ⟨by rw [e6, h8]; decide, e3.mp h8⟩
    · refine Or.inr ⟨by rw [e6, h8]; decide, fun h7 => ?_, e8 h8, fun h7 => ?_⟩
      · have := e3.mpr h7; omega
      · rw [c55, m1] at h7; omega
theorem lm_search {t : List Int} {m w : Int} {g : Gx} (h : LM t m g) (md : Mdy t w g) (hL : OkL (pD t w)) : ∃ g', Kn_search g = some g' ∧ LM t m g' ∧ MomV (g' 57) (pD t w) := by
  obtain ⟨r2, k3, a1, a2, a3⟩ := id h
  obtain ⟨m1, m2, m3, m4⟩ := id md
  obtain ⟨d1, d2, d3⟩ := k3 m1
  by_cases hch : g 55 5 = g 33 16
  · rw [m2] at d3
    rcases d3 with ⟨d3, -⟩ | ⟨-, -, -, d6⟩
    · rw [m3] at d3; exact absurd d3 (by decide)
    · refine ⟨g, ?_, h, d6 hch⟩
      unfold Kn_search Hi_makings
      rw [if_neg (by omega)]
  · obtain ⟨g', e1, e2, e3⟩ := search_new hL m4 hch
    have f := fr_Kn_search g g' e1
    have c712 : g' 7 12 = g 7 12 := f.fld (by decide) (by decide)
    have c9 : g' 33 9 = g 33 9 := f.fld (by decide) (by decide)
    have c13 : g' 33 13 = g 33 13 := f.fld (by decide) (by decide)
    have c14 : g' 33 14 = g 33 14 := f.fld (by decide) (by decide)
    have c15 : g' 33 15 = g 33 15 := f.fld (by decide) (by decide)
    have c16 : g' 33 16 = g 33 16 := f.fld (by decide) (by decide)
    have ag : AGc g g' := ⟨f.fld (by decide) (by decide), f.cell (by decide) (by decide), f.cell (by decide) (by decide), f.cell (by decide) (by decide), f.cell (by decide) (by decide), f.cell (by decide) (by decide), f.cell (by decide) (by decide)⟩
    have pd' : PdC t g' := r2.of (f.fld (by decide) (by decide)) (f.fld (by decide) (by decide)) (f.fld (by decide) (by decide)) (f.fld (by decide) (by decide)) ag
    have hs' : HsC (pD t w) (pD t w).length g' := m4.of c9 (f.cell (by decide) (by decide)) (f.cell (by decide) (by decide)) (f.cell (by decide) (by decide)) (f.cell (by decide) (by decide))
    refine ⟨g', e1, ⟨pd', fun _ => ⟨d1, by rw [c14]; exact d2, ?_⟩, by rw [c16]; exact a1, by rw [c16, e3]; omega, by rw [c13, c712]; exact a3⟩, e2⟩
    rw [c14, c15, m2]
    rw [m2] at d3
    rcases d3 with ⟨d3, -⟩ | ⟨d3, d4, -, -⟩
    · rw [m3] at d3; exact absurd d3 (by decide)
    · exact Or.inr ⟨d3, d4, hs', fun _ => e2⟩
