/-! Looks, of both. Own text. -/
theorem okw_num {c : Int} (h : okw c) : Op_sayer c = c / 1000 ∧ Op_getter c = c / 100 % 10 ∧ 0 ≤ c ∧ c < 6000 ∧ 0 ≤ c / 1000 ∧ c / 1000 < 6 ∧ 0 ≤ c / 100 % 10 ∧ c / 100 % 10 < 6 ∧ c / 1000 ≠ c / 100 % 10 ∧ c % 100 < 30 := by
  obtain ⟨a, b, w, h1, h2, h3, h4, rfl⟩ := h
  unfold Op_sayer Op_getter
  have e1 : ((1000 * a + 100 * b + w : Nat) : Int) / 1000 = (a : Int) := by omega
  have e2 : ((1000 * a + 100 * b + w : Nat) : Int) / 100 = ((10 * a + b : Nat) : Int) := by omega
  rw [jdiv_nn (by omega) (by omega) (by omega) (by omega), jdiv_nn (by omega) (by omega) (by omega) (by omega), e2, jrem_nn (by omega) (by omega) (by omega) (by omega), e1]
  have e3 : ((10 * a + b : Nat) : Int) % 10 = (b : Int) := by omega
  rw [e3]
  refine ⟨rfl, rfl, by omega, by omega, by omega, by omega, by omega, by omega, by omega, by omega⟩
def lka (t : Nat) (c : Int) : Option Int := if c / 1000 = (t : Int) then some (10000 + c) else if c / 100 % 10 = (t : Int) then some (20000 + c) else none
def lk (t : Nat) (ws : List Int) : List Int := ws.filterMap (lka t)
theorem lk_app (t : Nat) (a b : List Int) : lk t (a ++ b) = lk t a ++ lk t b := List.filterMap_append
theorem lk_one (t : Nat) (c : Int) : lk t [c] = (lka t c).toList := by
  unfold lk
  cases h : lka t c with
  | none => simp [h]
  | some x => simp [h]
theorem lk_len (t : Nat) (ws : List Int) : (lk t ws).length ≤ ws.length := List.length_filterMap_le _ _
/-- the histories are such as they may be -/
def OkL (L : List Hy) : Prop := 1 ≤ L.length ∧ L.length ≤ 30 ∧ ∀ e ∈ L, e.2.length ≤ 24 ∧ ∀ x ∈ e.2, okw x
def WdC (L : List Hy) (g : Gx) : Prop := g 33 9 = (L.length : Int) ∧ ∀ k e, L[k]? = some e → g 37 k = (e.2.length : Int) ∧ ∀ i x, e.2[i]? = some x → g 35 (24 * k + i) = x
def WdR (L : List Hy) (g : Gx) : Prop := g 92 26 = (L.length : Int) ∧ ∀ k e, L[k]? = some e → g 110 k = (e.2.length : Int) ∧ ∀ i x, e.2[i]? = some x → g 111 (24 * k + i) = x
def LkC (t : Nat) (L : List Hy) (g : Gx) : Prop := ∀ k e, L[k]? = some e → g 54 k = ((lk t e.2).length : Int) ∧ ∀ j x, (lk t e.2)[j]? = some x → g 52 (24 * k + j) = x
def LkR (L : List Hy) (g : Gx) : Prop := ∀ k e, L[k]? = some e → ∀ t, t < 6 → g 118 (6 * k + t) = ((lk t e.2).length : Int) ∧ ∀ j x, (lk t e.2)[j]? = some x → g 119 (24 * (6 * k + t) + j) = x
theorem load_in {L : List Hy} {g : Gx} (hL : OkL L) (hw : WdC L g) {t k : Nat} (ht : t < 6) {e : Hy} (he : L[k]? = some e) (K : Int → Gx → Option Gx) : ∀ (rest done : List Int), e.2 = done ++ rest → ∀ (n : Nat) (G : Gx), rest.length < n → FR [52] g G → (∀ j x, (lk t done)[j]? = some x → G 52 (24 * k + j) = x) → ∃ G', Lk_load_l18 (t : Int) (k : Int) K n ((lk t done).length : Int) (done.length : Int) G = K ((lk t e.2).length : Int) G' ∧ FR [52] G G' ∧ (∀ j, j < 24 * k → G' 52 j = G 52 j) ∧ (∀ j x, (lk t e.2)[j]? = some x → G' 52 (24 * k + j) = x) := by
  have hk : k < L.length := (List.getElem?_eq_some_iff.mp he).1
  have hk30 : k < 30 := by have := hL.2.1; omega
  obtain ⟨l24, ow⟩ := hL.2.2 e (List.mem_of_getElem? he)
  obtain ⟨w1, w2⟩ := hw.2 k e he
  intro rest
  induction rest with
  | nil =>
    intro done hd n G hn fr h52
    obtain ⟨n, rfl⟩ : ∃ q, n = q + 1 := ⟨n - 1, by simp at hn; omega⟩
    rw [List.append_nil] at hd
    have hlen : Hi_length (k : Int) G = (e.2.length : Int) := by
      unfold Hi_length; rw [rat_in (by omega) (by omega), Int.toNat_natCast, fr.cell (by decide) (by decide)]; exact w1
    rw [Lk_load_l18, hlen, if_pos (by rw [hd]; omega), ← hd]
    exact ⟨G, rfl, FR.rf _ _, fun _ _ => rfl, by rw [hd]; exact h52⟩
  | cons c rest ih =>
    intro done hd n G hn fr h52
    obtain ⟨n, rfl⟩ : ∃ q, n = q + 1 := ⟨n - 1, by simp at hn; omega⟩
    have hdl : done.length < e.2.length := by rw [hd]; simp
    have hc : e.2[done.length]? = some c := by rw [hd, List.getElem?_append_right (Nat.le_refl _)]; simp
    have okc := ow c (List.mem_of_getElem? hc)
    obtain ⟨n1, n2, n3, n4, n5⟩ := okw_num okc
    have hlen : Hi_length (k : Int) G = (e.2.length : Int) := by
      unfold Hi_length; rw [rat_in (by omega) (by omega), Int.toNat_natCast, fr.cell (by decide) (by decide)]; exact w1
    have hword : Hi_word (k : Int) (done.length : Int) G = c := by
      unfold Hi_word
      rw [show wr (wr ((k : Int) * 24) + (done.length : Int)) = ((24 * k + done.length : Nat) : Int) by simp (disch := omega) only [wr_id]; omega, rat_in (by omega) (by omega), Int.toNat_natCast, fr.cell (by decide) (by decide)]
      exact w2 _ _ hc
    have ll := lk_len t done
    have e0 : e.2 = (done ++ [c]) ++ rest := by rw [hd]; simp
    have step : ∀ y : Int, lka t c = some (y + c) → (y = 10000 ∨ y = 20000) → ∃ G', Lk_load_l18 (t : Int) (k : Int) K n (wr (((lk t done).length : Int) + 1)) (wr ((done.length : Int) + 1)) (rset G 52 720 (wr ((wr ((k : Int) * 24)) + ((lk t done).length : Int))) (wr (y + c))) = K ((lk t e.2).length : Int) G' ∧ FR [52] G G' ∧ (∀ j, j < 24 * k → G' 52 j = G 52 j) ∧ (∀ j x, (lk t e.2)[j]? = some x → G' 52 (24 * k + j) = x) := fun y hy hy2 => by
      have l1 : lk t (done ++ [c]) = lk t done ++ [y + c] := by rw [lk_app, lk_one, hy]; rfl
      rw [show wr (wr ((k : Int) * 24) + ((lk t done).length : Int)) = ((24 * k + (lk t done).length : Nat) : Int) by simp (disch := omega) only [wr_id]; omega, rsi (by omega) (by omega), Int.toNat_natCast, wr_id (x := y + c) (by omega) (by omega), wr_id (by omega) (by omega), wr_id (by omega) (by omega)]
      have f1 : FR [52] G (gset G 52 (24 * k + (lk t done).length) (y + c)) := FR.gs (FR.rf _ _) (by decide)
      obtain ⟨G', r1, r2, r3, r4⟩ := ih (done ++ [c]) e0 n (gset G 52 (24 * k + (lk t done).length) (y + c)) (by simp at hn; omega) (fr.tr f1) (fun j x hx => by
        rw [l1] at hx
        by_cases hj : j = (lk t done).length
        · subst hj
          rw [List.getElem?_append_right (Nat.le_refl _)] at hx
          simp at hx
          rw [gs_same]; exact hx
        · have hj2 : j < (lk t done).length := by
            have := (List.getElem?_eq_some_iff.mp hx).1
            simp at this; omega
          rw [List.getElem?_append_left hj2] at hx
          rw [gi (by omega)]
          exact h52 j x hx)
      rw [l1, List.length_append, List.length_append, List.length_singleton, List.length_singleton] at r1
      refine ⟨G', r1, f1.tr r2, fun j hj => ?_, r4⟩
      rw [r3 j hj, gi (by omega)]
    rw [Lk_load_l18, hlen, if_neg (by omega), hword, n1, n2]
    by_cases c1 : c / 1000 = (t : Int)
    · rw [if_pos c1, if_neg (by omega), lett_eq]
      exact step 10000 (by unfold lka; rw [if_pos c1]) (Or.inl rfl)
    · rw [if_neg c1]
      by_cases c2 : c / 100 % 10 = (t : Int)
      · rw [if_neg (by omega), if_pos c1, lett_eq]
        exact step 20000 (by unfold lka; rw [if_neg c1, if_pos c2]) (Or.inr rfl)
      · rw [if_pos c2, wr_id (by omega) (by omega)]
        have l1 : lk t (done ++ [c]) = lk t done := by
          rw [lk_app, lk_one]; unfold lka; rw [if_neg c1, if_neg c2]; simp
        have := ih (done ++ [c]) e0 n G (by simp at hn; omega) fr (by rw [l1]; exact h52)
        rw [l1, List.length_append, List.length_singleton] at this
        exact this
theorem load_ok {L : List Hy} {g : Gx} (hL : OkL L) (hw : WdC L g) {t : Nat} (ht : t < 6) : ∃ g', Lk_load (t : Int) g = some g' ∧ LkC t L g' := by
  have lp : ∀ (k h n : Nat) (G : Gx), h + k = L.length → k < n → FR [52, 54] g G → (∀ q e, q < h → L[q]? = some e → G 54 q = ((lk t e.2).length : Int) ∧ ∀ j x, (lk t e.2)[j]? = some x → G 52 (24 * q + j) = x) → ∃ G', Lk_load_l2 (t : Int) (fun g5 => some g5) n (h : Int) G = some G' ∧ LkC t L G' := by
    intro k
    induction k with
    | zero =>
      intro h n G hk hn fr hs
      obtain ⟨n, rfl⟩ : ∃ q, n = q + 1 := ⟨n - 1, by omega⟩
      rw [Lk_load_l2]
      unfold Hi_size
      rw [fr.fld (by decide) (by decide), hw.1, if_pos (by omega)]
      exact ⟨G, rfl, fun q e he => hs q e (by have := (List.getElem?_eq_some_iff.mp he).1; omega) he⟩
    | succ k ih =>
      intro h n G hk hn fr hs
      obtain ⟨n, rfl⟩ : ∃ q, n = q + 1 := ⟨n - 1, by omega⟩
      have hlt : h < L.length := by omega
      have h30 := hL.2.1
      obtain ⟨e, he⟩ : ∃ e, L[h]? = some e := ⟨L[h], List.getElem?_eq_getElem hlt⟩
      obtain ⟨l24, ow⟩ := hL.2.2 e (List.mem_of_getElem? he)
      have hwG : WdC L G := ⟨by rw [fr.fld (by decide) (by decide)]; exact hw.1, fun q e' he' => by rw [fr.cell (q := 37) (by decide) (by decide), fr.cell (q := 35) (by decide) (by decide)]; exact hw.2 q e' he'⟩
      rw [Lk_load_l2]
      unfold Hi_size
      rw [hwG.1, if_neg (by omega)]
      obtain ⟨G1, r1, r2, r3, r4⟩ := load_in hL hwG ht he (fun x3 g4 => Lk_load_l2 (t : Int) (fun g5 => some g5) n (wr ((h : Int) + 1)) (rset g4 54 30 (h : Int) x3)) e.2 [] rfl fu G (Nat.lt_of_le_of_lt l24 (fu_big _ (by decide))) (FR.rf _ _) (fun j x hx => by simp [lk] at hx)
      have r1 : Lk_load_l18 (t : Int) (h : Int) (fun x3 g4 => Lk_load_l2 (t : Int) (fun g5 => some g5) n (wr ((h : Int) + 1)) (rset g4 54 30 (h : Int) x3)) fu 0 0 G = _ := r1
      rw [r1, rsi (by omega) (by omega), Int.toNat_natCast, wr_id (by omega) (by omega), show (h : Int) + 1 = ((h + 1 : Nat) : Int) by omega]
      refine ih (h + 1) n _ (by omega) (by omega) (fr.tr (FR.gs (r2.cl (by decide)) (by decide))) (fun q e' hq he' => ?_)
      by_cases hqh : q = h
      · subst hqh
        rw [he] at he'; cases he'
        exact ⟨gs_same, fun j x hx => by rw [gc (by decide)]; exact r4 j x hx⟩
      · obtain ⟨s1, s2⟩ := hs q e' (by omega) he'
        refine ⟨by rw [gi hqh, r2.cell (by decide) (by decide)]; exact s1, fun j x hx => ?_⟩
        have hj : j < (lk t e'.2).length := (List.getElem?_eq_some_iff.mp hx).1
        have l3 := lk_len t e'.2
        have l4 := (hL.2.2 e' (List.mem_of_getElem? he')).1
        rw [gc (by decide), r3 _ (by omega)]
        exact s2 j x hx
  unfold Lk_load
  have := lp L.length 0 fu g (by omega) (Nat.lt_of_le_of_lt hL.2.1 (fu_big _ (by decide))) (FR.rf _ _) (fun q e hq => by omega)
  exact this
