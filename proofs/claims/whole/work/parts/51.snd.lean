/-! Whether all can know; the moment. Own text. -/
theorem CK_iff {L : List Hy} {t a b : Nat} : CK L t a b ↔ lkk L t a ≠ lkk L t b ∧ ¬ (20000 ≤ (lkk L t a).getD (cpl (lkk L t a) (lkk L t b)) 0 ∧ 20000 ≤ (lkk L t b).getD (cpl (lkk L t a) (lkk L t b)) 0) ∧ ptf L a b ≠ (t : Int) := by
  unfold CK
  rw [cpl_all]
theorem gets_ok {L : List Hy} {g : Gx} {t : Nat} (hL : OkL L) (hk : LkC t L g) {a : Nat} (ha : a < L.length) (p : Nat) : Lk_gets (a : Int) (p : Int) g = if 20000 ≤ (lkk L t a).getD p 0 then 1 else 0 := by
  have la1 : rat g 54 30 (a : Int) = ((lkk L t a).length : Int) := (look_c hL hk ha).1
  unfold Lk_gets
  rw [la1]
  by_cases h1 : p < (lkk L t a).length
  · rw [if_neg (by omega), actC hL hk ha h1]
    by_cases h2 : 20000 ≤ (lkk L t a).getD p 0
    · rw [if_neg (by omega), if_pos h2]
    · rw [if_pos (by omega), if_neg h2]
  · have : (lkk L t a).getD p 0 = 0 := by simp [List.getD_eq_getElem?_getD, List.getElem?_eq_none (Nat.le_of_not_lt h1)]
    rw [if_pos (by omega), this, if_neg (by decide)]
theorem both_get {L : List Hy} {g : Gx} {t : Nat} (hL : OkL L) (hk : LkC t L g) {a b : Nat} (ha : a < L.length) (hb : b < L.length) (p : Nat) : (Kn_bothGet (a : Int) (b : Int) (p : Int) g = 0) ↔ ¬ (20000 ≤ (lkk L t a).getD p 0 ∧ 20000 ≤ (lkk L t b).getD p 0) := by
  unfold Kn_bothGet
  rw [gets_ok hL hk ha, gets_ok hL hk hb]
  by_cases h1 : 20000 ≤ (lkk L t a).getD p 0 <;> by_cases h2 : 20000 ≤ (lkk L t b).getD p 0 <;> simp [h1, h2]
def mset (g : Gx) (c t a b p : Nat) : Gx := gset (gset (gset (gset g c 0 (t : Int)) c 1 (a : Int)) c 2 (b : Int)) c 3 (p : Int)
theorem sfor_in {L : List Hy} {g : Gx} {t : Nat} (hL : OkL L) (hs : HsC L L.length g) (hk : LkC t L g) {a : Nat} (ha : a < L.length) (K : Gx → Option (Int × Gx)) : ∀ (k b n : Nat), b + k = L.length → a < b → k < n → (∃ b', b ≤ b' ∧ b' < L.length ∧ CK L t a b' ∧ (∀ b2, b ≤ b2 → b2 < b' → ¬ CK L t a b2) ∧ Kn_searchFor_l17 (t : Int) (a : Int) K n (b : Int) g = some (1, mset g 57 t a b' (cpl (lkk L t a) (lkk L t b')))) ∨ ((∀ b2, b ≤ b2 → b2 < L.length → ¬ CK L t a b2) ∧ Kn_searchFor_l17 (t : Int) (a : Int) K n (b : Int) g = K g) := by
  have h30 := hL.2.1
  intro k
  induction k with
  | zero =>
    intro b n hb hab hn
    obtain ⟨n, rfl⟩ : ∃ q, n = q + 1 := ⟨n - 1, by omega⟩
    right
    refine ⟨fun b2 h1 h2 => by omega, ?_⟩
    rw [Kn_searchFor_l17]
    unfold Hi_size
    rw [hs.1, if_pos (by omega)]
  | succ k ih =>
    intro b n hb hab hn
    obtain ⟨n, rfl⟩ : ∃ q, n = q + 1 := ⟨n - 1, by omega⟩
    have hbl : b < L.length := by omega
    have nxt : ¬ CK L t a b → Kn_searchFor_l17 (t : Int) (a : Int) K (n + 1) (b : Int) g = Kn_searchFor_l17 (t : Int) (a : Int) K n ((b + 1 : Nat) : Int) g → (∃ b', b ≤ b' ∧ b' < L.length ∧ CK L t a b' ∧ (∀ b2, b ≤ b2 → b2 < b' → ¬ CK L t a b2) ∧ Kn_searchFor_l17 (t : Int) (a : Int) K (n + 1) (b : Int) g = some (1, mset g 57 t a b' (cpl (lkk L t a) (lkk L t b')))) ∨ ((∀ b2, b ≤ b2 → b2 < L.length → ¬ CK L t a b2) ∧ Kn_searchFor_l17 (t : Int) (a : Int) K (n + 1) (b : Int) g = K g) := fun h1 h2 => by
      rcases ih (b + 1) n (by omega) (by omega) (by omega) with ⟨b', p1, p2, p3, p4, p5⟩ | ⟨p1, p2⟩
      · refine Or.inl ⟨b', by omega, p2, p3, fun b2 q1 q2 => ?_, h2.trans p5⟩
        by_cases h9 : b2 = b
        · rw [h9]; exact h1
        · exact p4 b2 (by omega) q2
      · refine Or.inr ⟨fun b2 q1 q2 => ?_, h2.trans p2⟩
        by_cases h9 : b2 = b
        · rw [h9]; exact h1
        · exact p1 b2 (by omega) q2
    obtain ⟨pt, -⟩ := parter_ok hs hL.2.1 (a := a) (b := b) (by omega) ha hbl
    have e : Kn_searchFor_l17 (t : Int) (a : Int) K (n + 1) (b : Int) g = if ¬ (Lk_bothEnd (a : Int) (b : Int) (cpl (lkk L t a) (lkk L t b) : Int) g) = 0 then Kn_searchFor_l17 (t : Int) (a : Int) K n ((b + 1 : Nat) : Int) g else if ¬ (Kn_bothGet (a : Int) (b : Int) (cpl (lkk L t a) (lkk L t b) : Int) g) = 0 then Kn_searchFor_l17 (t : Int) (a : Int) K n ((b + 1 : Nat) : Int) g else if ptf L a b = (t : Int) then Kn_searchFor_l17 (t : Int) (a : Int) K n ((b + 1 : Nat) : Int) g else some (1, mset g 57 t a b (cpl (lkk L t a) (lkk L t b))) := by
      rw [Kn_searchFor_l17]
      unfold Hi_size
      rw [hs.1, if_neg (by omega), common_ok hL hk ha hbl, ob_eq]
      simp only
      rw [pt, ob_eq]
      simp only
      rw [wr_id (by omega) (by omega), show (b : Int) + 1 = ((b + 1 : Nat) : Int) by omega, rsi (by omega) (by omega), rsi (by omega) (by omega), rsi (by omega) (by omega), rsi (by omega) (by omega)]
      rfl
    by_cases c1 : lkk L t a = lkk L t b
    · refine nxt (fun h9 => (CK_iff.mp h9).1 c1) ?_
      rw [e, if_pos (fun h9 => (bothEnd_ok hL hk ha hbl).mp h9 c1)]
    · have c1' := (bothEnd_ok hL hk ha hbl).mpr c1
      rw [if_neg (fun h9 => h9 c1')] at e
      by_cases c2 : 20000 ≤ (lkk L t a).getD (cpl (lkk L t a) (lkk L t b)) 0 ∧ 20000 ≤ (lkk L t b).getD (cpl (lkk L t a) (lkk L t b)) 0
      · refine nxt (fun h9 => (CK_iff.mp h9).2.1 c2) ?_
        rw [e, if_pos (fun h9 => (both_get hL hk ha hbl _).mp h9 c2)]
      · have c2' := (both_get hL hk ha hbl _).mpr c2
        rw [if_neg (fun h9 => h9 c2')] at e
        by_cases c3 : ptf L a b = (t : Int)
        · refine nxt (fun h9 => (CK_iff.mp h9).2.2 c3) ?_
          rw [e, if_pos c3]
        · left
          exact ⟨b, Nat.le_refl _, hbl, CK_iff.mpr ⟨c1, c2, c3⟩, fun b2 q1 q2 => by omega, by rw [e, if_neg c3]⟩
theorem sfor_ok {L : List Hy} {g : Gx} {t : Nat} (hL : OkL L) (hs : HsC L L.length g) (hk : LkC t L g) : (∃ a b, a < b ∧ b < L.length ∧ CK L t a b ∧ (∀ a' b', a' < b' → b' < L.length → (a' < a ∨ (a' = a ∧ b' < b)) → ¬ CK L t a' b') ∧ Kn_searchFor (t : Int) g = some (1, mset g 57 t a b (cpl (lkk L t a) (lkk L t b)))) ∨ ((∀ a b, a < b → b < L.length → ¬ CK L t a b) ∧ Kn_searchFor (t : Int) g = some (0, g)) := by
  have h30 := hL.2.1
  have lp : ∀ (k a n : Nat), a + k = L.length → k < n → (∀ a' b', a' < a → a' < b' → b' < L.length → ¬ CK L t a' b') → (∃ a b, a < b ∧ b < L.length ∧ CK L t a b ∧ (∀ a' b', a' < b' → b' < L.length → (a' < a ∨ (a' = a ∧ b' < b)) → ¬ CK L t a' b') ∧ Kn_searchFor_l2 (t : Int) (fun g4 => some (0, g4)) n (a : Int) g = Kn_searchFor_l2 (t : Int) (fun g4 => some (0, g4)) n (a : Int) g ∧ True) ∨ True := fun _ _ _ _ _ _ => Or.inr trivial
  have lp : ∀ (k a n : Nat), a + k = L.length → k < n → (∀ a' b', a' < a → a' < b' → b' < L.length → ¬ CK L t a' b') → (∃ a2 b, a2 < b ∧ b < L.length ∧ CK L t a2 b ∧ (∀ a' b', a' < b' → b' < L.length → (a' < a2 ∨ (a' = a2 ∧ b' < b)) → ¬ CK L t a' b') ∧ Kn_searchFor_l2 (t : Int) (fun g4 => some (0, g4)) n (a : Int) g = some (1, mset g 57 t a2 b (cpl (lkk L t a2) (lkk L t b)))) ∨ ((∀ a b, a < b → b < L.length → ¬ CK L t a b) ∧ Kn_searchFor_l2 (t : Int) (fun g4 => some (0, g4)) n (a : Int) g = some (0, g)) := by
    intro k
    induction k with
    | zero =>
      intro a n ha hn hall
      obtain ⟨n, rfl⟩ : ∃ q, n = q + 1 := ⟨n - 1, by omega⟩
      right
      refine ⟨fun a' b' h1 h2 => hall a' b' (by omega) h1 h2, ?_⟩
      rw [Kn_searchFor_l2]
      unfold Hi_size
      rw [hs.1, if_pos (by omega)]
    | succ k ih =>
      intro a n ha hn hall
      obtain ⟨n, rfl⟩ : ∃ q, n = q + 1 := ⟨n - 1, by omega⟩
      rw [Kn_searchFor_l2]
      unfold Hi_size
      rw [hs.1, if_neg (by omega), wr_id (by omega) (by omega), show (a : Int) + 1 = ((a + 1 : Nat) : Int) by omega]
      rcases sfor_in hL hs hk (a := a) (by omega) (fun g3 => Kn_searchFor_l2 (t : Int) (fun g4 => some (0, g4)) n ((a + 1 : Nat) : Int) g3) (L.length - (a + 1)) (a + 1) fu (by omega) (by omega) (Nat.lt_of_le_of_lt (show L.length - (a + 1) ≤ 30 by omega) (fu_big _ (by decide))) with ⟨b', p1, p2, p3, p4, p5⟩ | ⟨p1, p2⟩
      · left
        refine ⟨a, b', by omega, p2, p3, fun a2 b2 q1 q2 q3 => ?_, p5⟩
        rcases q3 with q3 | ⟨q3, q4⟩
        · exact hall a2 b2 q3 q1 q2
        · rw [q3]; exact p4 b2 (by omega) q4
      · rw [p2]
        exact ih (a + 1) n (by omega) (by omega) (fun a' b' q1 q2 q3 => by
          by_cases h9 : a' = a
          · rw [h9]; exact p1 b' (by omega) q3
          · exact hall a' b' (by omega) q2 q3)
  unfold Kn_searchFor
  exact lp L.length 0 fu (by omega) (Nat.lt_of_le_of_lt hL.2.1 (fu_big _ (by decide))) (fun a' b' h1 => by omega)
theorem search_new {L : List Hy} {g : Gx} (hL : OkL L) (hs : HsC L L.length g) (hc : ¬ g 55 5 = g 33 16) : ∃ g', Kn_search g = some g' ∧ MomV (g' 57) L ∧ g' 55 5 = g 33 16 := by
  have lp : ∀ (k t n : Nat) (G : Gx), t + k = 6 → k < n → FR [52, 54] (rfill (gset g 55 5 (g 33 16)) 57 4 (-1)) G → (∀ t' a b, t' < t → a < b → b < L.length → ¬ CK L t' a b) → ∃ G', Kn_search_l36 (fun g3 => some g3) n (t : Int) G = some G' ∧ MomV (G' 57) L ∧ G' 55 5 = g 33 16 := by
    intro k
    induction k with
    | zero =>
      intro t n G ht hn fr hall
      obtain ⟨n, rfl⟩ : ∃ q, n = q + 1 := ⟨n - 1, by omega⟩
      rw [Kn_search_l36, if_pos (by omega)]
      have c57 := fr.cell (q := 57) (by decide) (by decide)
      refine ⟨G, rfl, Or.inl ⟨by rw [c57]; simp [rfill], by rw [c57]; simp [rfill], by rw [c57]; simp [rfill], by rw [c57]; simp [rfill], fun t' a b h1 h2 h3 => hall t' a b (by omega) h2 h3⟩, ?_⟩
      rw [fr.fld (by decide) (by decide)]; simp [rfill, gset]
    | succ k ih =>
      intro t n G ht hn fr hall
      obtain ⟨n, rfl⟩ : ∃ q, n = q + 1 := ⟨n - 1, by omega⟩
      have hsG : HsC L L.length G := hs.of (by rw [fr.fld (by decide) (by decide)]; simp [rfill, gset]) (by rw [fr.cell (by decide) (by decide)]; funext j; simp [rfill, gset]) (by rw [fr.cell (by decide) (by decide)]; funext j; simp [rfill, gset]) (by rw [fr.cell (by decide) (by decide)]; funext j; simp [rfill, gset]) (by rw [fr.cell (by decide) (by decide)]; funext j; simp [rfill, gset])
      obtain ⟨G1, e1, e2⟩ := load_ok hL hsG.wd (t := t) (by omega)
      have f1 := fr_Lk_load (t : Int) G G1 e1
      have hs1 : HsC L L.length G1 := hsG.of (f1.fld (by decide) (by decide)) (f1.cell (by decide) (by decide)) (f1.cell (by decide) (by decide)) (f1.cell (by decide) (by decide)) (f1.cell (by decide) (by decide))
      rw [Kn_search_l36, if_neg (by omega), e1, ob_eq]
      rcases sfor_ok hL hs1 e2 with ⟨a, b, p1, p2, p3, p4, p5⟩ | ⟨p1, p2⟩
      · rw [p5, ob_eq]
        simp only
        rw [if_neg (by decide)]
        refine ⟨_, rfl, Or.inr ⟨t, a, b, ⟨by omega, p1, p2, p3, fun t' a' b' q1 q2 q3 q4 => ?_⟩, by simp [mset, gset], by simp [mset, gset], by simp [mset, gset], by simp [mset, gset]⟩, ?_⟩
        · rcases q4 with q4 | ⟨q4, q5⟩
          · exact hall t' a' b' q4 q2 q3
          · rw [q4]; exact p4 a' b' q2 q3 q5
        · simp only [mset, gset]
          simp
          rw [f1.fld (by decide) (by decide), fr.fld (by decide) (by decide)]; simp [rfill, gset]
      · rw [p2, ob_eq]
        simp only
        rw [if_pos trivial, wr_id (by omega) (by omega), show (t : Int) + 1 = ((t + 1 : Nat) : Int) by omega]
        exact ih (t + 1) n G1 (by omega) (by omega) (fr.tr f1) (fun t' a b q1 q2 q3 => by
          by_cases h9 : t' = t
          · rw [h9]; exact p1 a b q2 q3
          · exact hall t' a b (by omega) q2 q3)
  unfold Kn_search Hi_makings
  rw [if_pos hc]
  exact lp 6 0 fu _ (by omega) (fu_big _ (by omega)) (FR.rf _ _) (fun t' a b h1 => by omega)
