/-! sound, moment. Own text. -/
theorem search_ok {T : Nat} {t pt : List Int} {u : Int} {g : Gx} (b : Both T t pt u g) : ∃ g', Kn_search g = some g' ∧ Both T t pt u g' ∧ MomV (g' 57) (pD t u) := by
  obtain ⟨b1, b2, b3, b4, b5, b6⟩ := id b
  have hb := b1.bas
  obtain ⟨-, -, -, -, -, -, -, hc, t0, k1, k2, k3, k4, k5⟩ := id b1
  have e := k1 b2.1
  subst e
  obtain ⟨m1, m2, m3, m4⟩ := id b3
  by_cases hch : g 55 5 = g 33 16
  · obtain ⟨-, d1, d2, d3⟩ := k3 m1
    rw [m2] at d3
    rcases d3 with ⟨d3, -⟩ | ⟨-, -, -, d6⟩
    · rw [m3] at d3; exact absurd d3 (by decide)
    · refine ⟨g, ?_, b, d6 hch⟩
      unfold Kn_search Hi_makings
      rw [if_neg (by omega)]
  · obtain ⟨g', e1, e2, e3⟩ := search_new b4 m4 hch
    have f := fr_Kn_search g g' e1
    have c1 : g' 1 3 = g 1 3 := f.fld (by decide) (by decide)
    have c43 : g' 4 3 = g 4 3 := f.fld (by decide) (by decide)
    have c289 : g' 28 9 = g 28 9 := f.fld (by decide) (by decide)
    have c712 : g' 7 12 = g 7 12 := f.fld (by decide) (by decide)
    have c9 : g' 33 9 = g 33 9 := f.fld (by decide) (by decide)
    have c13 : g' 33 13 = g 33 13 := f.fld (by decide) (by decide)
    have c14 : g' 33 14 = g 33 14 := f.fld (by decide) (by decide)
    have c15 : g' 33 15 = g 33 15 := f.fld (by decide) (by decide)
    have c16 : g' 33 16 = g 33 16 := f.fld (by decide) (by decide)
    have c56 : g' 55 6 = g 55 6 := f.fld (by decide) (by decide)
    have c57 : g' 55 7 = g 55 7 := f.fld (by decide) (by decide)
    have c69 : g' 69 9 = g 69 9 := f.fld (by decide) (by decide)
    have ag : AGc g g' := ⟨f.fld (by decide) (by decide), f.cell (by decide) (by decide), f.cell (by decide) (by decide), f.cell (by decide) (by decide), f.cell (by decide) (by decide), f.cell (by decide) (by decide), f.cell (by decide) (by decide)⟩
    have pd' : PdC t0 g' := b2.2.of (f.fld (by decide) (by decide)) (f.fld (by decide) (by decide)) (f.fld (by decide) (by decide)) (f.fld (by decide) (by decide)) ag
    have hs' : HsC (pD t0 u) (pD t0 u).length g' := m4.of c9 (f.cell (by decide) (by decide)) (f.cell (by decide) (by decide)) (f.cell (by decide) (by decide)) (f.cell (by decide) (by decide))
    obtain ⟨q0, d1, d2, d3⟩ := k3 m1
    have inv' : Inv T t0 pt u g' := by
      refine (hb.fr (f.cl (by decide))).inv (t0 := t0) ?_ ⟨fun _ => rfl, fun _ => pd', fun _ => ⟨by rw [c289]; exact q0, d1, by rw [c14]; exact d2, ?_⟩, fun h9 => ?_, fun h9 => ?_⟩
      · unfold Cnt at hc ⊢
        rw [c1, c43, c289, c712, c13, c16, e3, c56, c69]
        omega
      · rw [c14, c15, m2]
        rw [m2] at d3
        rcases d3 with ⟨d3, -⟩ | ⟨d3, d4, -, -⟩
        · rw [m3] at d3; exact absurd d3 (by decide)
        · exact Or.inr ⟨d3, d4, hs', fun _ => e2⟩
      · rw [c56, c712] at h9; rw [c57]; exact k4 h9
      · rw [c69, c43] at h9
        exact (k5 h9).of (f.fld (by decide) (by decide)) (f.fld (by decide) (by decide)) (f.cell (by decide) (by decide)) (f.cell (by decide) (by decide)) (f.cell (by decide) (by decide)) (f.cell (by decide) (by decide))
    exact ⟨g', e1, ⟨inv', ⟨by rw [c289, c1]; exact b2.1, pd'⟩, ⟨by rw [c13, c712]; exact m1, by rw [c14]; exact m2, by rw [c15]; exact m3, hs'⟩, b4, b5, b6⟩, e2⟩
theorem sndR_in {L : List Hy} {g gc0 : Gx} {t : Nat} (hL : OkL L) (hG : Good L) (hs : HsR L L.length g) (hC : HsC L L.length gc0) (hk : LkR L g) (ht : t < 6) {a : Nat} (ha : a < L.length) (K : Gx → Option (Int × Gx)) : ∀ (k b n : Nat), b + k = L.length → a < b → k < n → (∃ b', b ≤ b' ∧ b' < L.length ∧ CK L t a b' ∧ (∀ b2, b ≤ b2 → b2 < b' → ¬ CK L t a b2) ∧ Md_isSound_l26 (t : Int) (a : Int) K n (b : Int) g = some (0, mset g 120 t a b' (cpl (lkk L t a) (lkk L t b')))) ∨ ((∀ b2, b ≤ b2 → b2 < L.length → ¬ CK L t a b2) ∧ Md_isSound_l26 (t : Int) (a : Int) K n (b : Int) g = K g) := by
  have h30 := hL.2.1
  intro k
  induction k with
  | zero =>
    intro b n hb hab hn
    obtain ⟨n, rfl⟩ : ∃ q, n = q + 1 := ⟨n - 1, by omega⟩
    right
    refine ⟨fun b2 h1 h2 => by omega, ?_⟩
    rw [Md_isSound_l26, hs.1, if_pos (by omega)]
  | succ k ih =>
    intro b n hb hab hn
    obtain ⟨n, rfl⟩ : ∃ q, n = q + 1 := ⟨n - 1, by omega⟩
    have hbl : b < L.length := by omega
    have nxt : ¬ CK L t a b → Md_isSound_l26 (t : Int) (a : Int) K (n + 1) (b : Int) g = Md_isSound_l26 (t : Int) (a : Int) K n ((b + 1 : Nat) : Int) g → (∃ b', b ≤ b' ∧ b' < L.length ∧ CK L t a b' ∧ (∀ b2, b ≤ b2 → b2 < b' → ¬ CK L t a b2) ∧ Md_isSound_l26 (t : Int) (a : Int) K (n + 1) (b : Int) g = some (0, mset g 120 t a b' (cpl (lkk L t a) (lkk L t b')))) ∨ ((∀ b2, b ≤ b2 → b2 < L.length → ¬ CK L t a b2) ∧ Md_isSound_l26 (t : Int) (a : Int) K (n + 1) (b : Int) g = K g) := fun h1 h2 => by
      rcases ih (b + 1) n (by omega) (by omega) (by omega) with ⟨b', p1, p2, p3, p4, p5⟩ | ⟨p1, p2⟩
      · refine Or.inl ⟨b', by omega, p2, p3, fun b2 q1 q2 => ?_, h2.trans p5⟩
        by_cases h9 : b2 = b
        · rw [h9]; exact h1
        · exact p4 b2 (by omega) q2
      · refine Or.inr ⟨fun b2 q1 q2 => ?_, h2.trans p2⟩
        by_cases h9 : b2 = b
        · rw [h9]; exact h1
        · exact p1 b2 (by omega) q2
    obtain ⟨-, q, tt, pt⟩ := parter_ok hC hL.2.1 (a := a) (b := b) (by omega) ha hbl
    have pr := parting_ok hs hG hL.2.1 ha hbl pt
    obtain ⟨u1, u2⟩ := unlike_ok hL hk ht ha hbl
    have pa := (look_r hL hk ht ha).2
    have pb := (look_r hL hk ht hbl).2
    have gd : ∀ (x : List Int) (p : Nat), (20000 ≤ x.getD p (-1) ↔ 20000 ≤ x.getD p 0) := fun x p => by
      by_cases h1 : p < x.length
      · simp [List.getD_eq_getElem?_getD, List.getElem?_eq_getElem h1]
      · simp [List.getD_eq_getElem?_getD, List.getElem?_eq_none (Nat.le_of_not_lt h1)]
    have hd : Md_isSound_l26 (t : Int) (a : Int) K (n + 1) (b : Int) g = Option.bind (Md_unlike (t : Int) (a : Int) (b : Int) g) (fun q2 => if q2.1 = (-1) then Md_isSound_l26 (t : Int) (a : Int) K n (wr ((b : Int) + 1)) q2.2 else Option.bind (Md_parting (a : Int) (b : Int) q2.2) (fun q3 => if q3.1 = (t : Int) then Md_isSound_l26 (t : Int) (a : Int) K n (wr ((b : Int) + 1)) q3.2 else Option.bind (Md_lookAt (t : Int) (a : Int) q2.1 q3.2) (fun q4 => if q4.1 < 20000 then some (0, (gset (gset (gset (gset q4.2 120 0 (t : Int)) 120 1 (a : Int)) 120 2 (b : Int)) 120 3 q2.1)) else Option.bind (Md_lookAt (t : Int) (b : Int) q2.1 q4.2) (fun q5 => if 20000 ≤ q5.1 then Md_isSound_l26 (t : Int) (a : Int) K n (wr ((b : Int) + 1)) q5.2 else some (0, (gset (gset (gset (gset q5.2 120 0 (t : Int)) 120 1 (a : Int)) 120 2 (b : Int)) 120 3 q2.1)))))) := by
      rw [Md_isSound_l26, hs.1, if_neg (by omega)]
    rw [wr_id (by omega) (by omega), show (b : Int) + 1 = ((b + 1 : Nat) : Int) by omega] at hd
    by_cases c1 : lkk L t a = lkk L t b
    · refine nxt (fun h9 => (CK_iff.mp h9).1 c1) ?_
      rw [hd, u1 c1, ob_eq]
      simp only
      rw [if_pos trivial]
    · rw [u2 c1, ob_eq] at hd
      simp only at hd
      rw [if_neg (by omega), pr, ob_eq] at hd
      simp only at hd
      by_cases c3 : ptf L a b = (t : Int)
      · refine nxt (fun h9 => (CK_iff.mp h9).2.2 c3) ?_
        rw [hd, if_pos c3]
      · rw [if_neg c3, pa, ob_eq] at hd
        simp only at hd
        by_cases c2 : 20000 ≤ (lkk L t a).getD (cpl (lkk L t a) (lkk L t b)) 0
        · rw [if_neg (by have := (gd (lkk L t a) (cpl (lkk L t a) (lkk L t b))).mpr c2; omega), pb, ob_eq] at hd
          simp only at hd
          by_cases c4 : 20000 ≤ (lkk L t b).getD (cpl (lkk L t a) (lkk L t b)) 0
          · refine nxt (fun h9 => (CK_iff.mp h9).2.1 ⟨c2, c4⟩) ?_
            rw [hd, if_pos ((gd _ _).mpr c4)]
          · left
            refine ⟨b, Nat.le_refl _, hbl, CK_iff.mpr ⟨c1, fun h9 => c4 h9.2, c3⟩, fun b2 q1 q2 => by omega, ?_⟩
            rw [hd, if_neg (fun h9 => c4 ((gd _ _).mp h9))]
            rfl
        · left
          refine ⟨b, Nat.le_refl _, hbl, CK_iff.mpr ⟨c1, fun h9 => c2 h9.1, c3⟩, fun b2 q1 q2 => by omega, ?_⟩
          rw [hd, if_pos (by
            by_cases h9 : 20000 ≤ (lkk L t a).getD (cpl (lkk L t a) (lkk L t b)) (-1)
            · exact absurd ((gd _ _).mp h9) c2
            · omega)]
          rfl
theorem sndR_ok {L : List Hy} {g gc0 : Gx} (hL : OkL L) (hG : Good L) (hs : HsR L L.length g) (hC : HsC L L.length gc0) : (Snd L ∧ ∃ g', Md_isSound g = some (1, g')) ∨ ∃ t a b, Fst L t a b ∧ ∃ g', Md_isSound g = some (0, g') ∧ g' 120 0 = (t : Int) ∧ g' 120 1 = (a : Int) ∧ g' 120 2 = (b : Int) ∧ g' 120 3 = (cpl (lkk L t a) (lkk L t b) : Int) := by
  have h30 := hL.2.1
  obtain ⟨g1, e1, e2⟩ := find_ok hL hs.wd
  have f1 := fr_Md_findLooks g g1 e1
  have hs1 : HsR L L.length g1 := ⟨by rw [f1.fld (by decide) (by decide)]; exact hs.1, fun k e hk he => by
    rw [f1.cell (q := 110) (by decide) (by decide), f1.cell (q := 111) (by decide) (by decide), f1.cell (q := 112) (by decide) (by decide), f1.cell (q := 113) (by decide) (by decide)]
    exact hs.2 k e hk he⟩
  unfold Md_isSound
  rw [e1, ob_eq]
  have mid : ∀ (t : Nat), t < 6 → ∀ (K : Gx → Option (Int × Gx)) (k a n : Nat), a + k = L.length → k < n → (∀ a' b', a' < a → a' < b' → b' < L.length → ¬ CK L t a' b') → (∃ a2 b, a2 < b ∧ b < L.length ∧ CK L t a2 b ∧ (∀ a' b', a' < b' → b' < L.length → (a' < a2 ∨ (a' = a2 ∧ b' < b)) → ¬ CK L t a' b') ∧ Md_isSound_l14 (t : Int) K n (a : Int) g1 = some (0, mset g1 120 t a2 b (cpl (lkk L t a2) (lkk L t b)))) ∨ ((∀ a b, a < b → b < L.length → ¬ CK L t a b) ∧ Md_isSound_l14 (t : Int) K n (a : Int) g1 = K g1) := by
    intro t ht K k
    induction k with
    | zero =>
      intro a n ha hn hall
      obtain ⟨n, rfl⟩ : ∃ q, n = q + 1 := ⟨n - 1, by omega⟩
      right
      refine ⟨fun a' b' h1 h2 => hall a' b' (by omega) h1 h2, ?_⟩
      rw [Md_isSound_l14, hs1.1, if_pos (by omega)]
    | succ k ih =>
      intro a n ha hn hall
      obtain ⟨n, rfl⟩ : ∃ q, n = q + 1 := ⟨n - 1, by omega⟩
      rw [Md_isSound_l14, hs1.1, if_neg (by omega), wr_id (by omega) (by omega), show (a : Int) + 1 = ((a + 1 : Nat) : Int) by omega]
      rcases sndR_in hL hG hs1 hC e2 ht (a := a) (by omega) (fun g6 => Md_isSound_l14 (t : Int) K n ((a + 1 : Nat) : Int) g6) (L.length - (a + 1)) (a + 1) fu (by omega) (by omega) (Nat.lt_of_le_of_lt (show L.length - (a + 1) ≤ 30 by omega) (fu_big _ (by decide))) with ⟨b', p1, p2, p3, p4, p5⟩ | ⟨p1, p2⟩
      · left
        refine ⟨a, b', by omega, p2, p3, fun a2 b2 q1 q2 q3 => ?_, p5⟩
        rcases q3 with q3 | ⟨q3, q4⟩
        · exact hall a2 b2 q3 q1 q2
        · rw [q3]; exact p4 b2 (by omega) q4
      · rw [p2]
        exact ih (a + 1) n (by omega) (by omega) (fun a' b' q1 q2 q3 => by
          by_cases h9 : a' = a
          · rw [h9]; exact p1 b' (by omega) q3
          · exact hall a' b' (by omega) q2 q3)
  have lp : ∀ (k t n : Nat), t + k = 6 → k < n → (∀ t' a b, t' < t → a < b → b < L.length → ¬ CK L t' a b) → (Snd L ∧ ∃ g', Md_isSound_l6 (fun g8 => some (1, g8)) n (t : Int) g1 = some (1, g')) ∨ ∃ t2 a b, Fst L t2 a b ∧ ∃ g', Md_isSound_l6 (fun g8 => some (1, g8)) n (t : Int) g1 = some (0, g') ∧ g' 120 0 = (t2 : Int) ∧ g' 120 1 = (a : Int) ∧ g' 120 2 = (b : Int) ∧ g' 120 3 = (cpl (lkk L t2 a) (lkk L t2 b) : Int) := by
    intro k
    induction k with
    | zero =>
      intro t n ht hn hall
      obtain ⟨n, rfl⟩ : ∃ q, n = q + 1 := ⟨n - 1, by omega⟩
      left
      refine ⟨fun t' a b h1 h2 h3 => hall t' a b (by omega) h2 h3, g1, ?_⟩
      rw [Md_isSound_l6, if_pos (by omega)]
    | succ k ih =>
      intro t n ht hn hall
      obtain ⟨n, rfl⟩ : ∃ q, n = q + 1 := ⟨n - 1, by omega⟩
      rw [Md_isSound_l6, if_neg (by omega), wr_id (by omega) (by omega), show (t : Int) + 1 = ((t + 1 : Nat) : Int) by omega]
      have md := mid t (by omega) (fun g7 => Md_isSound_l6 (fun g8 => some (1, g8)) n ((t + 1 : Nat) : Int) g7) L.length 0 fu (by omega) (Nat.lt_of_le_of_lt hL.2.1 (fu_big _ (by decide))) (fun a' b' h1 => by omega)
      rw [show ((0 : Nat) : Int) = 0 from rfl] at md
      rcases md with ⟨a, b, p1, p2, p3, p4, p5⟩ | ⟨p1, p2⟩
      · right
        refine ⟨t, a, b, ⟨by omega, p1, p2, p3, fun t' a' b' q1 q2 q3 q4 => ?_⟩, _, p5, by simp [mset, gset], by simp [mset, gset], by simp [mset, gset], by simp [mset, gset]⟩
        rcases q4 with q4 | ⟨q4, q5⟩
        · exact hall t' a' b' q4 q2 q3
        · rw [q4]; exact p4 a' b' q2 q3 q5
      · rw [p2]
        exact ih (t + 1) n (by omega) (by omega) (fun t' a b q1 q2 q3 => by
          by_cases h9 : t' = t
          · rw [h9]; exact p1 a b q2 q3
          · exact hall t' a b (by omega) q2 q3)
  exact lp 6 0 fu (by omega) (fu_big _ (by omega)) (fun t' a b h1 => by omega)
theorem fst_one {L : List Hy} {t a b t' a' b' : Nat} (h : Fst L t a b) (h' : Fst L t' a' b') : t = t' ∧ a = a' ∧ b = b' := by
  obtain ⟨h1, h2, h3, h4, h5⟩ := h
  obtain ⟨k1, k2, k3, k4, k5⟩ := h'
  have x : ¬ (t' < t ∨ (t' = t ∧ (a' < a ∨ (a' = a ∧ b' < b)))) := fun h9 => h5 t' a' b' k1 k2 k3 h9 k4
  have y : ¬ (t < t' ∨ (t = t' ∧ (a < a' ∨ (a = a' ∧ b < b')))) := fun h9 => k5 t a b h1 h2 h3 h9 h4
  omega
/-- what the class and the reference find is one thing -/
theorem mom_both {L : List Hy} {v : Nat → Int} (h : MomV v L) : (Snd L ∧ v 0 = -1 ∧ v 1 = -1 ∧ v 2 = -1 ∧ v 3 = -1) ∨ ∃ t a b, Fst L t a b ∧ v 0 = (t : Int) ∧ v 1 = (a : Int) ∧ v 2 = (b : Int) ∧ v 3 = (cpl (lkk L t a) (lkk L t b) : Int) := by
  rcases h with ⟨a, b, c, d, e⟩ | h
  · exact Or.inl ⟨e, a, b, c, d⟩
  · exact Or.inr h
