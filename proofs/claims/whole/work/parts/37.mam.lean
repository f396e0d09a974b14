/-! The class makes all histories, or tells that they are too much. Own text. -/
theorem EncC.same {g G : Gx} {d lo hi cl ch : Nat} {D : Ds} (h : EncC g d lo hi cl ch D) (ag : AGc g G) : EncC G d lo hi cl ch D := h.mono (fun i _ _ => by rw [ag.2.1, ag.2.2.1]; exact ⟨rfl, rfl⟩) (fun c _ _ => by unfold TbA; rw [ag.2.2.2.1, ag.2.2.2.2.1, ag.2.2.2.2.2.1, ag.2.2.2.2.2.2]; exact ⟨rfl, rfl, rfl, fun _ _ => rfl⟩)
theorem make_new {g : Gx} {u : Int} (hu : 0 ≤ u ∧ u ≤ 1073741823) {z nn : Nat} {D : Ds} (hz : g 7 10 = (z : Int)) (hz2 : z ≤ 160) (hE : EncC g 4 0 z 0 nn D) (hc : ¬ (g 33 13 = g 7 12 ∧ g 33 14 = u)) : ∃ (r : Int) (g' : Gx), Hi_make u g = some (r, g') ∧ (r = 0 ∨ r = 1) ∧ (r = 0 ↔ TM (D u)) ∧ g' 33 13 = g 7 12 ∧ g' 33 14 = u ∧ g' 33 15 = 1 - r ∧ g' 33 16 = wr (g 33 16 + 1) ∧ (r = 1 → HsC (D u) (D u).length g') := by
  obtain ⟨K, hK⟩ : ∃ K : Gx → Option (Int × Gx), K = fun g4 => if ¬ (g4 33 15) = 0 then some (0, g4) else some (1, g4) := ⟨_, rfl⟩
  obtain ⟨g1, hg1⟩ : ∃ g1, g1 = gset (gset (gset (gset (gset g 33 13 (St_version g)) 33 14 u) 33 16 (wr ((g 33 16) + 1))) 33 9 0) 33 10 0 := ⟨_, rfl⟩
  obtain ⟨X, hX⟩ : ∃ X : Option (Int × Gx), X = Option.bind (St_isTooMuch u g1) (fun q1 => if q1.1 = 0 ∨ q1.1 = 1 then (if ¬ q1.1 = 0 then Hi_make_l96 u K fu 0 (gset q1.2 33 15 q1.1) else Hi_make_l96 u K fu 1 (gset q1.2 33 15 q1.1)) else none) := ⟨_, rfl⟩
  have hHX : Hi_make u g = X := by
    unfold Hi_make
    rw [← hK, ← hg1, ← hX]
    by_cases c1 : g 33 13 = St_version g
    · rw [if_neg (by simpa using c1), if_pos (fun h9 => hc ⟨c1, h9⟩)]
    · rw [if_pos c1]
  rw [hHX, hX]
  have ag1 : AGc g g1 := by
    rw [hg1]
    exact AGc.gs (AGc.gs (AGc.gs (AGc.gs (AGc.gs ⟨rfl, rfl, rfl, rfl, rfl, rfl, rfl⟩ (by omega)) (by omega)) (by omega)) (by omega)) (by omega)
  obtain ⟨r, g2, t1, t2, t3⟩ := tooMuch_ok hu (g := g1) (by rw [ag1.1]; exact hz) hz2 (hE.same ag1)
  have f2 := fr_St_isTooMuch u g1 r g2 t1
  rw [t1, ob_eq]
  simp only
  rw [if_pos t2]
  obtain ⟨g3, hg3⟩ : ∃ g3, g3 = gset g2 33 15 r := ⟨_, rfl⟩
  rw [← hg3]
  have ag2 : AGc g g2 := ⟨by rw [f2.fld (by decide) (by decide)]; exact ag1.1, by rw [f2.cell (by decide) (by decide)]; exact ag1.2.1, by rw [f2.cell (by decide) (by decide)]; exact ag1.2.2.1, by rw [f2.cell (by decide) (by decide)]; exact ag1.2.2.2.1, by rw [f2.cell (by decide) (by decide)]; exact ag1.2.2.2.2.1, by rw [f2.cell (by decide) (by decide)]; exact ag1.2.2.2.2.2.1, by rw [f2.cell (by decide) (by decide)]; exact ag1.2.2.2.2.2.2⟩
  have ag3 : AGc g g3 := by rw [hg3]; exact ag2.gs (by omega)
  have s15 : g3 33 15 = r := by rw [hg3]; simp [gset]
  have s13 : g3 33 13 = g 7 12 := by rw [hg3, gi (by decide), f2.fld (by decide) (by decide), hg1]; simp [gset, St_version]
  have s14 : g3 33 14 = u := by rw [hg3, gi (by decide), f2.fld (by decide) (by decide), hg1]; simp [gset]
  have s16 : g3 33 16 = wr (g 33 16 + 1) := by rw [hg3, gi (by decide), f2.fld (by decide) (by decide), hg1]; simp [gset]
  have s9 : g3 33 9 = 0 := by rw [hg3, gi (by decide), f2.fld (by decide) (by decide), hg1]; simp [gset]
  have s10 : g3 33 10 = 0 := by rw [hg3, gi (by decide), f2.fld (by decide) (by decide), hg1]; simp [gset]
  by_cases hr : r = 0
  · subst hr
    rw [if_neg (by decide)]
    have nt : ¬ TM (D u) := fun h9 => by have := t3.mpr h9; omega
    have hl : (D u).length ≤ 30 := by rcases Nat.lt_or_ge 30 (D u).length with h | h; exact absurd (Or.inl h) nt; exact h
    have hx : mxw (D u) ≤ 24 := by rcases Nat.lt_or_ge 24 (mxw (D u)) with h | h; exact absurd (Or.inr h) nt; exact h
    obtain ⟨gd, -⟩ := hE.ok u
    have pl := good_pos gd
    obtain ⟨g4, r1, r2, r3, r4⟩ := make_loop hu hz hz2 hE hl hx K (D u).length 0 fu 0 g3 (by omega) pl (Nat.lt_of_le_of_lt hl (fu_big _ (by decide))) ag3 ⟨s9, fun k e hk => by omega, fun k hk => by omega⟩ s10 (fun e he i p hp => ⟨fun h9 => by omega, fun _ => gd.2.1 e (by rw [List.head?_eq_getElem?]; exact he) p (List.mem_of_getElem? hp)⟩)
    have k15 : g4 33 15 = 0 := by rw [r4.fld (by decide) (by decide)]; exact s15
    refine ⟨1, g4, ?_, Or.inr rfl, ⟨fun h9 => absurd h9 (by decide), fun h9 => absurd h9 nt⟩, by rw [r4.fld (by decide) (by decide)]; exact s13, by rw [r4.fld (by decide) (by decide)]; exact s14, by rw [k15]; decide, by rw [r4.fld (by decide) (by decide)]; exact s16, fun _ => r3⟩
    rw [r1, hK]
    simp only
    rw [k15, if_neg (by decide)]
  · have hr1 : r = 1 := by omega
    subst hr1
    rw [if_pos (by decide)]
    have hfu : ∃ f, fu = f + 1 := ⟨fu - 1, rfl⟩
    obtain ⟨f, hf⟩ := hfu
    refine ⟨0, g3, ?_, Or.inl rfl, ⟨fun _ => t3.mp rfl, fun _ => rfl⟩, s13, s14, by rw [s15]; decide, s16, fun h9 => absurd h9 (by decide)⟩
    rw [hf, Hi_make_l96, if_pos rfl, hK]
    simp only
    rw [s15, if_pos (by decide)]
