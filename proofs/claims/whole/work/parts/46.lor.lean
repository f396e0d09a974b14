/-! Looks of the reference. Own text. -/
theorem find_in {L : List Hy} {g : Gx} (hL : OkL L) (hw : WdR L g) {t k : Nat} (ht : t < 6) {e : Hy} (he : L[k]? = some e) (K : Int → Gx → Option Gx) : ∀ (rest done : List Int), e.2 = done ++ rest → ∀ (n : Nat) (G : Gx), rest.length < n → FR [119] g G → (∀ j x, (lk t done)[j]? = some x → G 119 (24 * (6 * k + t) + j) = x) → ∃ G', Md_findLooks_l23 (k : Int) (t : Int) K n ((lk t done).length : Int) (done.length : Int) G = K ((lk t e.2).length : Int) G' ∧ FR [119] G G' ∧ (∀ j, j < 24 * (6 * k + t) → G' 119 j = G 119 j) ∧ (∀ j x, (lk t e.2)[j]? = some x → G' 119 (24 * (6 * k + t) + j) = x) := by
  have hk : k < L.length := (List.getElem?_eq_some_iff.mp he).1
  have hk30 : k < 30 := by have := hL.2.1; omega
  obtain ⟨l24, ow⟩ := hL.2.2 e (List.mem_of_getElem? he)
  obtain ⟨w1, w2⟩ := hw.2 k e he
  intro rest
  induction rest with
  | nil =>
    intro done hd n G hn fr h52
    obtain ⟨n, rfl⟩ : ∃ q, n = q + 1 := ⟨n - 1, by simp at hn; omega⟩
    rw [List.append_nil] at hd
    rw [Md_findLooks_l23, if_pos (by omega), Int.toNat_natCast, fr.cell (by decide) (by decide), w1, if_pos (by rw [hd]; omega), ← hd]
    exact ⟨G, rfl, FR.rf _ _, fun _ _ => rfl, by rw [hd]; exact h52⟩
  | cons c rest ih =>
    intro done hd n G hn fr h52
    obtain ⟨n, rfl⟩ : ∃ q, n = q + 1 := ⟨n - 1, by simp at hn; omega⟩
    have hdl : done.length < e.2.length := by rw [hd]; simp
    have hc : e.2[done.length]? = some c := by rw [hd, List.getElem?_append_right (Nat.le_refl _)]; simp
    have okc := ow c (List.mem_of_getElem? hc)
    obtain ⟨n1, n2, n3, n4, n5⟩ := okw_num okc
    have n1 : Md_from c = c / 1000 := n1
    have n2 : Md_to c = c / 100 % 10 := n2
    have hword : Md_code (k : Int) (done.length : Int) G = some (c, G) := by
      unfold Md_code
      rw [show wr (wr (24 * (k : Int)) + (done.length : Int)) = ((24 * k + done.length : Nat) : Int) by simp (disch := omega) only [wr_id]; omega, if_pos (by omega), Int.toNat_natCast, fr.cell (by decide) (by decide), w2 _ _ hc]
    have ll := lk_len t done
    have e0 : e.2 = (done ++ [c]) ++ rest := by rw [hd]; simp
    have ix : wr ((wr (24 * (wr ((wr (6 * (k : Int))) + (t : Int))))) + ((lk t done).length : Int)) = ((24 * (6 * k + t) + (lk t done).length : Nat) : Int) := by simp (disch := omega) only [wr_id]; omega
    have step : ∀ y : Int, lka t c = some (y + c) → (y = 10000 ∨ y = 20000) → ∃ G', Md_findLooks_l23 (k : Int) (t : Int) K n (wr (((lk t done).length : Int) + 1)) (wr ((done.length : Int) + 1)) (gset G 119 (24 * (6 * k + t) + (lk t done).length) (wr (y + c))) = K ((lk t e.2).length : Int) G' ∧ FR [119] G G' ∧ (∀ j, j < 24 * (6 * k + t) → G' 119 j = G 119 j) ∧ (∀ j x, (lk t e.2)[j]? = some x → G' 119 (24 * (6 * k + t) + j) = x) := fun y hy hy2 => by
      have l1 : lk t (done ++ [c]) = lk t done ++ [y + c] := by rw [lk_app, lk_one, hy]; rfl
      rw [wr_id (x := y + c) (by omega) (by omega), wr_id (by omega) (by omega), wr_id (by omega) (by omega)]
      have f1 : FR [119] G (gset G 119 (24 * (6 * k + t) + (lk t done).length) (y + c)) := FR.gs (FR.rf _ _) (by decide)
      obtain ⟨G', r1, r2, r3, r4⟩ := ih (done ++ [c]) e0 n (gset G 119 (24 * (6 * k + t) + (lk t done).length) (y + c)) (by simp at hn; omega) (fr.tr f1) (fun j x hx => by
        rw [l1] at hx
        by_cases hj : j = (lk t done).length
        · subst hj
          rw [List.getElem?_append_right (Nat.le_refl _)] at hx
          simp at hx
          rw [gs_same]; exact hx
        · have hj2 : j < (lk t done).length := by
            have := (List.getElem?_eq_some_iff.mp hx).1
            simp at this; omega
          rw [List.getElem?_append_left hj2] at hx
          rw [gi (by omega)]
          exact h52 j x hx)
      rw [l1, List.length_append, List.length_append, List.length_singleton, List.length_singleton] at r1
      refine ⟨G', r1, f1.tr r2, fun j hj => ?_, r4⟩
      rw [r3 j hj, gi (by omega)]
    rw [Md_findLooks_l23, if_pos (by omega), Int.toNat_natCast, fr.cell (by decide) (by decide), w1, if_neg (by omega), hword, ob_eq]
    simp only
    rw [n1, n2, ix]
    by_cases c1 : c / 1000 = (t : Int)
    · rw [if_pos c1, if_neg (show ¬ ¬ c / 1000 = (t : Int) from fun h9 => h9 c1), if_pos (by omega), Int.toNat_natCast]
      exact step 10000 (by unfold lka; rw [if_pos c1]) (Or.inl rfl)
    · rw [if_neg c1]
      by_cases c2 : c / 100 % 10 = (t : Int)
      · rw [if_neg (show ¬ ¬ c / 100 % 10 = (t : Int) from fun h9 => h9 c2), if_pos c1, if_pos (by omega), Int.toNat_natCast]
        exact step 20000 (by unfold lka; rw [if_neg c1, if_pos c2]) (Or.inr rfl)
      · rw [if_pos c2, wr_id (by omega) (by omega)]
        have l1 : lk t (done ++ [c]) = lk t done := by
          rw [lk_app, lk_one]; unfold lka; rw [if_neg c1, if_neg c2]; simp
        have := ih (done ++ [c]) e0 n G (by simp at hn; omega) fr (by rw [l1]; exact h52)
        rw [l1, List.length_append, List.length_singleton] at this
        exact this
theorem find_ok {L : List Hy} {g : Gx} (hL : OkL L) (hw : WdR L g) : ∃ g', Md_findLooks g = some g' ∧ LkR L g' := by
  have h30 := hL.2.1
  have wd : ∀ G : Gx, FR [118, 119] g G → WdR L G := fun G fr => ⟨by rw [fr.fld (by decide) (by decide)]; exact hw.1, fun q e' he' => by rw [fr.cell (q := 110) (by decide) (by decide), fr.cell (q := 111) (by decide) (by decide)]; exact hw.2 q e' he'⟩
  -- one history: all talkers from t on
  have inner : ∀ (h : Nat) (e : Hy), L[h]? = some e → ∀ (K : Gx → Option Gx) (k t n : Nat) (G : Gx), t + k = 6 → k < n → FR [118, 119] g G → (∀ t', t' < t → G 118 (6 * h + t') = ((lk t' e.2).length : Int) ∧ ∀ j x, (lk t' e.2)[j]? = some x → G 119 (24 * (6 * h + t') + j) = x) → ∃ G', Md_findLooks_l12 (h : Int) K n (t : Int) G = K G' ∧ FR [118, 119] g G' ∧ (∀ j, j < 6 * h → G' 118 j = G 118 j) ∧ (∀ j, j < 24 * (6 * h) → G' 119 j = G 119 j) ∧ (∀ t', t' < 6 → G' 118 (6 * h + t') = ((lk t' e.2).length : Int) ∧ ∀ j x, (lk t' e.2)[j]? = some x → G' 119 (24 * (6 * h + t') + j) = x) := by
    intro h e he K k
    have hh : h < L.length := (List.getElem?_eq_some_iff.mp he).1
    obtain ⟨l24, ow⟩ := hL.2.2 e (List.mem_of_getElem? he)
    induction k with
    | zero =>
      intro t n G hk hn fr hs
      obtain ⟨n, rfl⟩ : ∃ q, n = q + 1 := ⟨n - 1, by omega⟩
      rw [Md_findLooks_l12, if_pos (by omega)]
      exact ⟨G, rfl, fr, fun _ _ => rfl, fun _ _ => rfl, fun t' ht' => hs t' (by omega)⟩
    | succ k ih =>
      intro t n G hk hn fr hs
      obtain ⟨n, rfl⟩ : ∃ q, n = q + 1 := ⟨n - 1, by omega⟩
      rw [Md_findLooks_l12, if_neg (by omega)]
      obtain ⟨G1, r1, r2, r3, r4⟩ := find_in hL (wd G fr) (t := t) (by omega) he (fun x2 g3 => if 0 ≤ (wr ((wr (6 * (h : Int))) + (t : Int))) ∧ (wr ((wr (6 * (h : Int))) + (t : Int))) < 180 then Md_findLooks_l12 (h : Int) K n (wr ((t : Int) + 1)) (gset g3 118 ((wr ((wr (6 * (h : Int))) + (t : Int))).toNat) x2) else none) e.2 [] rfl fu G (Nat.lt_of_le_of_lt l24 (fu_big _ (by decide))) (FR.rf _ _) (fun j x hx => by simp [lk] at hx)
      have r1 : Md_findLooks_l23 (h : Int) (t : Int) (fun x2 g3 => if 0 ≤ (wr ((wr (6 * (h : Int))) + (t : Int))) ∧ (wr ((wr (6 * (h : Int))) + (t : Int))) < 180 then Md_findLooks_l12 (h : Int) K n (wr ((t : Int) + 1)) (gset g3 118 ((wr ((wr (6 * (h : Int))) + (t : Int))).toNat) x2) else none) fu 0 0 G = _ := r1
      rw [r1, show wr (wr (6 * (h : Int)) + (t : Int)) = ((6 * h + t : Nat) : Int) by simp (disch := omega) only [wr_id]; omega, if_pos (by omega), Int.toNat_natCast, wr_id (by omega) (by omega), show (t : Int) + 1 = ((t + 1 : Nat) : Int) by omega]
      obtain ⟨G2, s1, s2, s3, s4, s5⟩ := ih (t + 1) n (gset G1 118 (6 * h + t) ((lk t e.2).length : Int)) (by omega) (by omega) (fr.tr (FR.gs (r2.cl (by decide)) (by decide))) (fun t' ht' => by
        by_cases h9 : t' = t
        · subst h9
          exact ⟨gs_same, fun j x hx => by rw [gc (by decide)]; exact r4 j x hx⟩
        · obtain ⟨z1, z2⟩ := hs t' (by omega)
          refine ⟨by rw [gi (by omega), r2.cell (by decide) (by decide)]; exact z1, fun j x hx => ?_⟩
          have hj : j < (lk t' e.2).length := (List.getElem?_eq_some_iff.mp hx).1
          have l3 := lk_len t' e.2
          rw [gc (by decide), r3 _ (by omega)]
          exact z2 j x hx)
      refine ⟨G2, s1, s2, fun j hj => ?_, fun j hj => ?_, s5⟩
      · rw [s3 j hj, gi (by omega), r2.cell (by decide) (by decide)]
      · rw [s4 j hj, gc (by decide), r3 j (by omega)]
  have lp : ∀ (k h n : Nat) (G : Gx), h + k = L.length → k < n → FR [118, 119] g G → (∀ q e, q < h → L[q]? = some e → ∀ t, t < 6 → G 118 (6 * q + t) = ((lk t e.2).length : Int) ∧ ∀ j x, (lk t e.2)[j]? = some x → G 119 (24 * (6 * q + t) + j) = x) → ∃ G', Md_findLooks_l2 (fun g5 => some g5) n (h : Int) G = some G' ∧ LkR L G' := by
    intro k
    induction k with
    | zero =>
      intro h n G hk hn fr hs
      obtain ⟨n, rfl⟩ : ∃ q, n = q + 1 := ⟨n - 1, by omega⟩
      rw [Md_findLooks_l2, (wd G fr).1, if_pos (by omega)]
      exact ⟨G, rfl, fun q e he => hs q e (by have := (List.getElem?_eq_some_iff.mp he).1; omega) he⟩
    | succ k ih =>
      intro h n G hk hn fr hs
      obtain ⟨n, rfl⟩ : ∃ q, n = q + 1 := ⟨n - 1, by omega⟩
      have hlt : h < L.length := by omega
      obtain ⟨e, he⟩ : ∃ e, L[h]? = some e := ⟨L[h], List.getElem?_eq_getElem hlt⟩
      rw [Md_findLooks_l2, (wd G fr).1, if_neg (by omega)]
      obtain ⟨G1, r1, r2, r3, r4, r5⟩ := inner h e he (fun g4 => Md_findLooks_l2 (fun g5 => some g5) n (wr ((h : Int) + 1)) g4) 6 0 fu G (by omega) (fu_big _ (by omega)) fr (fun t' ht' => by omega)
      have r1 : Md_findLooks_l12 (h : Int) (fun g4 => Md_findLooks_l2 (fun g5 => some g5) n (wr ((h : Int) + 1)) g4) fu 0 G = _ := r1
      rw [r1, wr_id (by omega) (by omega), show (h : Int) + 1 = ((h + 1 : Nat) : Int) by omega]
      refine ih (h + 1) n G1 (by omega) (by omega) r2 (fun q e' hq he' t ht => ?_)
      by_cases hqh : q = h
      · subst hqh
        rw [he] at he'; cases he'
        exact r5 t ht
      · obtain ⟨s1, s2⟩ := hs q e' (by omega) he' t ht
        refine ⟨by rw [r3 _ (by omega)]; exact s1, fun j x hx => ?_⟩
        have hj : j < (lk t e'.2).length := (List.getElem?_eq_some_iff.mp hx).1
        have l3 := lk_len t e'.2
        have l4 := (hL.2.2 e' (List.mem_of_getElem? he')).1
        rw [r4 _ (by omega)]
        exact s2 j x hx
  unfold Md_findLooks
  exact lp L.length 0 fu g (by omega) (Nat.lt_of_le_of_lt hL.2.1 (fu_big _ (by decide))) (FR.rf _ _) (fun q e hq => by omega)
