/-! sound, moment: the calls. Own text. -/
theorem four {p : Nat → Prop} (h0 : p 0) (h1 : p 1) (h2 : p 2) (h3 : p 3) : ∀ i, i < 4 → p i := fun i hi => by
  rcases (show i = 0 ∨ i = 1 ∨ i = 2 ∨ i = 3 by omega) with rfl | rfl | rfl | rfl
  · exact h0
  · exact h1
  · exact h2
  · exact h3
theorem knows_ok {T : Nat} {t pt : List Int} {u : Int} {g : Gx} (b : Both T t pt u g) : ∃ g', Kn_search g = some g' ∧ Both T t pt u g' ∧ MomV (g' 57) (pD t u) ∧ ∀ G, Inv T t pt u G → ∃ g2 r g3, Md_without G = some (0, g2) ∧ Md_isSound g2 = some (r, g3) ∧ Inv T t pt u g3 ∧ FR SCR G g3 ∧ ((r = 1 ∧ ∀ i, i < 4 → g' 57 i = -1) ∨ (r = 0 ∧ 0 ≤ g' 57 0 ∧ ∀ i, i < 4 → g' 57 i = g3 120 i)) := by
  obtain ⟨g', e1, b', mv⟩ := search_ok b
  refine ⟨g', e1, b', mv, fun G hG => ?_⟩
  obtain ⟨b1, b2, b3, b4, b5, b6⟩ := id b'
  obtain ⟨g2, y, z, w, x⟩ := b6 G hG
  rcases sndR_ok b4 b5 w b3.2.2.2 with ⟨s1, g3, s2⟩ | ⟨p, q, r, s1, g3, s2, s3, s4, s5, s6⟩
  · have f := fr_Md_isSound g2 _ g3 s2
    refine ⟨g2, 1, g3, y, s2, z.fr (f.cl (by decide)), x.tr (f.cl (by decide)), Or.inl ⟨rfl, ?_⟩⟩
    rcases mom_both mv with ⟨-, m0, m1, m2, m3⟩ | ⟨p, q, r, m, -⟩
    · exact four m0 m1 m2 m3
    · exact absurd m.2.2.2.1 (s1 p q r m.1 m.2.1 m.2.2.1)
  · have f := fr_Md_isSound g2 _ g3 s2
    refine ⟨g2, 0, g3, y, s2, z.fr (f.cl (by decide)), x.tr (f.cl (by decide)), Or.inr ⟨rfl, ?_⟩⟩
    rcases mom_both mv with ⟨m, -⟩ | ⟨p', q', r', m, m0, m1, m2, m3⟩
    · exact absurd s1.2.2.2.1 (m p q r s1.1 s1.2.1 s1.2.2.1)
    · obtain ⟨rfl, rfl, rfl⟩ := fst_one m s1
      exact ⟨by omega, four (by rw [m0, s3]) (by rw [m1, s4]) (by rw [m2, s5]) (by rw [m3, s6])⟩
theorem sness_ok {T : Nat} {t pt : List Int} {u : Int} {g : Gx} (b : Both T t pt u g) : ∃ r g', Kn_soundness g = some (r, g') ∧ Both T t pt u g' ∧ MomV (g' 57) (pD t u) ∧ (r = 0 ∨ r = 1) ∧ (r = 1 ↔ Snd (pD t u)) ∧ ∀ G, Inv T t pt u G → ∃ g2 g3, Md_without G = some (0, g2) ∧ Md_isSound g2 = some (r, g3) ∧ Inv T t pt u g3 ∧ FR SCR G g3 ∧ (r = 0 → ∀ i, i < 4 → g' 57 i = g3 120 i) ∧ (r = 1 → ∀ i, i < 4 → g' 57 i = -1) := by
  obtain ⟨g', e1, b', mv, k⟩ := knows_ok b
  unfold Kn_soundness
  rw [e1, ob_eq, show rat g' 57 4 0 = g' 57 0 from rfl]
  by_cases c : g' 57 0 = -1
  · refine ⟨1, g', by rw [if_neg (fun h9 => h9 c)], b', mv, Or.inr rfl, ⟨fun _ => ?_, fun _ => rfl⟩, fun G hG => ?_⟩
    · rcases mom_both mv with ⟨m, -⟩ | ⟨p', q', r', m, m0, -⟩
      · exact m
      · omega
    · obtain ⟨g2, r, g3, a1, a2, a3, a4, a5⟩ := k G hG
      rcases a5 with ⟨rfl, a5⟩ | ⟨-, a5, -⟩
      · exact ⟨g2, g3, a1, a2, a3, a4, fun h9 => absurd h9 (by decide), fun _ => a5⟩
      · omega
  · refine ⟨0, g', by rw [if_pos c], b', mv, Or.inl rfl, ⟨fun h9 => absurd h9 (by decide), fun h9 => ?_⟩, fun G hG => ?_⟩
    · rcases mom_both mv with ⟨-, m, -⟩ | ⟨p', q', r', m, -⟩
      · exact absurd m c
      · exact absurd m.2.2.2.1 (h9 p' q' r' m.1 m.2.1 m.2.2.1)
    · obtain ⟨g2, r, g3, a1, a2, a3, a4, a5⟩ := k G hG
      rcases a5 with ⟨rfl, a5⟩ | ⟨rfl, -, a5⟩
      · exact absurd (a5 0 (by decide)) c
      · exact ⟨g2, g3, a1, a2, a3, a4, fun _ => a5, fun h9 => absurd h9 (by decide)⟩
theorem st_sound {T : Nat} {t pt : List Int} {u : Int} {g : Gx} (h : Inv T t pt u g) (hT : T < 80000) : ∃ r g1 g2, Op_sound g = some (r, g1) ∧ Md_sound g1 = some (r, g2) ∧ Inv (T + 2) t pt u g2 := by
  unfold Op_sound Md_sound
  rcases hw_ok h hT 0 with ⟨r, g1, g2, a, b, c, d, e⟩ | ⟨g1, a, b⟩
  · refine ⟨r, g1, g2, ?_, ?_, e⟩
    · rw [b, ob_eq]; simp only; rw [if_neg (by omega)]
    · rw [d, ob_eq]; simp only; rw [if_neg (by omega)]
  · have hl := b.2.2.2.1.1
    obtain ⟨r, g2, e1, e2, e3, e4, e5, e6⟩ := sness_ok b
    obtain ⟨g3, g4, p1, p2, p3, -⟩ := e6 g2 e2.1
    refine ⟨r, g2, g4, ?_, ?_, p3⟩
    · rw [a, ob_eq]
      simp only
      rw [if_neg (show ¬ ((pD t u).length : Int) ≤ 0 by omega), if_pos rfl, e1, ob_eq]
    · rw [p1, ob_eq]
      simp only
      rw [if_pos trivial, p2, ob_eq]
      simp only
      rcases e4 with rfl | rfl
      · rw [if_pos rfl]
      · rw [if_neg (by decide)]
theorem rat4 (g : Gx) (q : Nat) (a : Int) (h0 : 0 ≤ a) (h3 : a ≤ 3) : rat g q 4 a = g q a.toNat := by
  unfold rat
  first
  | rw [if_pos (by omega)]
  | (split <;> first | rfl | omega)
/-- the moment's part, of the class and of the reference -/
theorem mpart_ok {T : Nat} {t pt : List Int} {u : Int} {g : Gx} (b : Both T t pt u g) {a : Int} (h0 : 0 ≤ a) (h3 : a ≤ 3) : ∃ r g', Kn_momentPart a g = some (r, g') ∧ Both T t pt u g' ∧ MomV (g' 57) (pD t u) ∧ r = g' 57 a.toNat ∧ ∀ G, Inv T t pt u G → ∃ g3, Md_momentOf a G = some (r, g3) ∧ Inv T t pt u g3 ∧ FR SCR G g3 := by
  obtain ⟨g', e1, b', mv, k⟩ := knows_ok b
  refine ⟨g' 57 a.toNat, g', ?_, b', mv, rfl, fun G hG => ?_⟩
  · unfold Kn_momentPart
    rw [e1, ob_eq, rat4 _ _ _ h0 h3]
  · obtain ⟨g2, r, g3, a1, a2, a3, a4, a5⟩ := k G hG
    refine ⟨g3, ?_, a3, a4⟩
    unfold Md_momentOf
    rw [a1, ob_eq]
    simp only
    rw [if_pos trivial, a2, ob_eq]
    simp only
    rcases a5 with ⟨rfl, a5⟩ | ⟨rfl, -, a5⟩
    · rw [if_neg (by decide), a5 a.toNat (by omega)]
    · rw [if_pos rfl, if_pos (by omega), a5 a.toNat (by omega)]
theorem st_moment {T : Nat} {t pt : List Int} {u : Int} {g : Gx} (h : Inv T t pt u g) (hT : T < 80000) (a1 : Int) : ∃ r g1 g2, Op_moment a1 g = some (r, g1) ∧ Md_moment a1 g1 = some (r, g2) ∧ Inv (T + 2) t pt u g2 := by
  unfold Op_moment Md_moment
  by_cases c : 0 ≤ a1 ∧ a1 ≤ 3
  · have n1 : ¬ Md_in a1 0 3 = 0 := fun h9 => in_iff.mp h9 c
    simp only [if_neg (show ¬ a1 < 0 by omega), if_pos c.2, if_neg n1]
    rcases hw_ok h hT 0 with ⟨r, g1, g2, a, b, c, d, e⟩ | ⟨g1, a, b⟩
    · refine ⟨r, g1, g2, ?_, ?_, e⟩
      · rw [b, ob_eq]; simp only; rw [if_neg (by omega)]
      · unfold Md_momentOf
        rw [d, ob_eq]; simp only; rw [if_neg (by omega), ob_eq]
    · have hl := b.2.2.2.1.1
      obtain ⟨r, g2, e1, e2, e3, e4, e5⟩ := mpart_ok b c.1 c.2
      obtain ⟨g3, p1, p2, -⟩ := e5 g2 e2.1
      refine ⟨r, g2, g3, ?_, ?_, p2⟩
      · rw [a, ob_eq]
        simp only
        rw [if_neg (show ¬ ((pD t u).length : Int) ≤ 0 by omega), if_pos rfl, e1, ob_eq]
      · rw [p1, ob_eq]
  · have n1 : Md_in a1 0 3 = 0 := in_iff.mpr c
    refine ⟨-2, g, g, ?_, by rw [if_pos n1], h.more (by omega)⟩
    by_cases c2 : a1 < 0
    · rw [if_pos c2]
    · rw [if_neg c2, if_neg (by omega)]
