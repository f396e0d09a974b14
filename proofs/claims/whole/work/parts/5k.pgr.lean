/-! The program's text: reading, the class. Own text. -/
theorem at4 {t : List Int} {g : Gx} (h : TxP t g) {x : Int} (p : Nat) (hx : x = (p : Int)) : Tx_at4 x g = chr t p := by
  obtain ⟨h1, h2, h3⟩ := h
  subst hx
  unfold Tx_at4
  rw [if_neg (by omega), h1]
  by_cases c : t.length ≤ p
  · rw [if_pos (by omega)]
    unfold chr
    rw [List.getD_eq_getElem?_getD, List.getElem?_eq_none c]; rfl
  · rw [if_neg (by omega), rat_in (by omega) (by omega), Int.toNat_natCast]
    exact h3 p (by omega)
theorem TxP.cl {t : List Int} {g g' : Gx} (h : TxP t g) (h1 : g' 4 = g 4) (h2 : g' 6 = g 6) : TxP t g' := by
  unfold TxP
  rw [h1, h2]
  exact h
theorem stt_app (rs xs : List (List Ac)) : ∀ r, r ≤ rs.length → sttP (rs ++ xs) r = sttP rs r := by
  intro r
  induction r with
  | zero => intro _; rfl
  | succ r ih =>
    intro h
    rw [sttP, sttP, ih (by omega)]
    congr 2
    rw [List.getD_eq_getElem?_getD, List.getD_eq_getElem?_getD, List.getElem?_append_left (by omega)]
theorem stt_cons (x : List Ac) (xs : List (List Ac)) : ∀ r, sttP (x :: xs) (r + 1) = x.length + sttP xs r := by
  intro r
  induction r with
  | zero => simp [sttP]
  | succ r ih =>
    rw [sttP, ih, sttP, List.getD_cons_succ]
    omega
theorem stt_all : ∀ rs : List (List Ac), sttP rs rs.length = rs.flatten.length := by
  intro rs
  induction rs with
  | nil => rfl
  | cons x xs ih => rw [List.length_cons, stt_cons, ih, List.flatten_cons, List.length_append]
theorem stt_flat : ∀ (rs : List (List Ac)) (r i : Nat) (a : Ac), r < rs.length → (rs.getD r [])[i]? = some a → rs.flatten[sttP rs r + i]? = some a := by
  intro rs
  induction rs with
  | nil => intro r i a h; simp at h
  | cons x xs ih =>
    intro r i a h hx
    rw [List.flatten_cons]
    cases r with
    | zero =>
      rw [List.getD_cons_zero] at hx
      rw [sttP, Nat.zero_add, List.getElem?_append_left (List.getElem?_eq_some_iff.mp hx).1]
      exact hx
    | succ r =>
      rw [List.getD_cons_succ] at hx
      rw [stt_cons, List.getElem?_append_right (by omega), show x.length + sttP xs r + i - x.length = sttP xs r + i by omega]
      exact ih r i a (by simpa using h) hx
def sgP (a : Ac) : Int := if a.1 = 33 then 10000 else 20000
def StC (rs : List (List Ac)) (cur : List Ac) (G : Gx) : Prop := G 69 7 = ((rs.length + 1 : Nat) : Int) ∧ (∀ r, r ≤ rs.length → G 77 r = (sttP rs r : Int)) ∧ ∀ j a, (rs.flatten ++ cur)[j]? = some a → G 71 j = sgP a ∧ G 73 j = a.2.1 ∧ G 75 j = a.2.2
theorem StC.act {rs : List (List Ac)} {cur : List Ac} {G : Gx} (h : StC rs cur G) (a : Ac) : StC rs (cur ++ [a]) (gset (gset (gset G 71 (rs.flatten ++ cur).length (sgP a)) 73 (rs.flatten ++ cur).length a.2.1) 75 (rs.flatten ++ cur).length a.2.2) := by
  obtain ⟨h1, h2, h3⟩ := h
  refine ⟨by simp [gset]; exact h1, fun r hr => by simp [gset]; exact h2 r hr, fun j b hj => ?_⟩
  rw [← List.append_assoc] at hj
  by_cases c : j < (rs.flatten ++ cur).length
  · rw [List.getElem?_append_left c] at hj
    have := h3 j b hj
    have n : j ≠ (rs.flatten ++ cur).length := by omega
    simp only [gset, n]
    simpa using this
  · rw [List.getElem?_append_right (by omega)] at hj
    have l := (List.getElem?_eq_some_iff.mp hj).1
    rw [List.length_singleton] at l
    have e : j = (rs.flatten ++ cur).length := by omega
    subst e
    simp at hj
    subst hj
    simp [gset]
theorem StC.row {rs : List (List Ac)} {cur : List Ac} {G : Gx} (h : StC rs cur G) : StC (rs ++ [cur]) [] (gset (gset G 77 (rs.length + 1) ((rs.flatten ++ cur).length : Int)) 69 7 ((rs.length + 2 : Nat) : Int)) := by
  obtain ⟨h1, h2, h3⟩ := h
  refine ⟨by simp [gset]; omega, fun r hr => ?_, fun j b hj => ?_⟩
  · rw [List.length_append, List.length_singleton] at hr
    by_cases c : r = rs.length + 1
    · subst c
      have := stt_all (rs ++ [cur])
      rw [List.length_append, List.length_singleton, List.flatten_append] at this
      rw [this]
      simp [gset]
    · rw [stt_app rs [cur] r (by omega), ← h2 r (by omega)]
      simp [gset, c]
  · have := h3 j b (by simpa using hj)
    simpa [gset] using this
theorem StC.fin {rs : List (List Ac)} {cur : List Ac} {G : Gx} (h : StC rs cur G) : RwC (rs ++ [cur]) (gset G 77 (rs.length + 1) ((rs.flatten ++ cur).length : Int)) := by
  obtain ⟨h1, h2, h3⟩ := h.row
  refine ⟨by simp [gset]; rw [h.1]; simp, fun r hr => ?_, fun r hr i a ha => ?_⟩
  · have := h2 r hr
    simpa [gset] using this
  · have := h.2.2 _ a (by have := stt_flat _ r i a hr ha; rwa [List.flatten_append, show List.flatten [cur] = cur by simp] at this)
    simpa [gset, sgP] using this
theorem pg_read {t : List Int} (K : Int → Gx → Option (Int × Gx)) (hK : K = fun x5 g6 => some ((-1), (rset g6 77 9 (g6 69 7) x5))) : ∀ (n p m : Nat) (rs : List (List Ac)) (cur : List Ac) (G : Gx), 81 ≤ n + p → n < m → p ≤ t.length → TxP t G → 3 * (rs.flatten ++ cur).length + rs.length ≤ p → rs.length ≤ 7 → StC rs cur G → ∃ G', Pg_read_l18 K m ((rs.flatten ++ cur).length : Int) (p : Int) G = some ((prg t n p rs cur).1, G') ∧ ((prg t n p rs cur).1 = -1 → RwC (prg t n p rs cur).2 G') := by
  intro n
  induction n with
  | zero => intro p m rs cur G hn hm hp hx; have := hx.2.1; omega
  | succ n ih =>
    intro p m rs cur G hn hm hp hx hb hr hs
    have l80 := hx.2.1
    obtain ⟨m, rfl⟩ : ∃ q, m = q + 1 := ⟨m - 1, by omega⟩
    have b0 : Tx_at4 (p : Int) G = chr t p := at4 hx p rfl
    have w1 : wr ((p : Int) + 1) = ((p + 1 : Nat) : Int) := by rw [wr_id (by omega) (by omega)]; omega
    have w2 : wr ((p : Int) + 2) = ((p + 2 : Nat) : Int) := by rw [wr_id (by omega) (by omega)]; omega
    have w3 : wr ((p : Int) + 3) = ((p + 3 : Nat) : Int) := by rw [wr_id (by omega) (by omega)]; omega
    have b1 : Tx_at4 ((p + 1 : Nat) : Int) G = chr t (p + 1) := at4 hx _ rfl
    have b2 : Tx_at4 ((p + 2 : Nat) : Int) G = chr t (p + 2) := at4 hx _ rfl
    rw [Pg_read_l18, prg, show Tx_length4 G = (t.length : Int) from hx.1, b0, w1, w2, w3, b1, b2, tl_eq, wl_eq]
    by_cases c0 : t.length ≤ p
    · rw [if_pos (by omega), if_pos c0, hK]
      refine ⟨_, rfl, fun _ => ?_⟩
      rw [hs.1, rsi (by omega) (by omega), Int.toNat_natCast]
      exact hs.fin
    · rw [if_neg (by omega), if_neg c0]
      have nf : ¬ (rs.flatten ++ cur).length ≥ 80 := by omega
      -- an act
      have act : (chr t p = 33 ∨ chr t p = 63) → ∃ G', (if ¬ ((if 65 ≤ chr t (p + 1) ∧ chr t (p + 1) ≤ 70 then (1 : Int) else 0) = 0) then if ¬ ((if 97 ≤ chr t (p + 2) ∧ chr t (p + 2) ≤ 122 then (1 : Int) else 0) = 0) then lett ((if ¬ (chr t p) = 33 then 20000 else 10000) : Int) (fun y1 => Pg_read_l18 K m (wr (((rs.flatten ++ cur).length : Int) + 1)) ((p + 3 : Nat) : Int) (rset (rset (rset G 71 80 ((rs.flatten ++ cur).length : Int) y1) 73 80 ((rs.flatten ++ cur).length : Int) (wr ((Tx_at4 ((p + 1 : Nat) : Int) (rset G 71 80 ((rs.flatten ++ cur).length : Int) y1)) - 65))) 75 80 ((rs.flatten ++ cur).length : Int) (wr ((Tx_at4 ((p + 2 : Nat) : Int) (rset (rset G 71 80 ((rs.flatten ++ cur).length : Int) y1) 73 80 ((rs.flatten ++ cur).length : Int) (wr ((Tx_at4 ((p + 1 : Nat) : Int) (rset G 71 80 ((rs.flatten ++ cur).length : Int) y1)) - 65)))) - 97)))) else some (((p + 2 : Nat) : Int), G) else some (((p + 1 : Nat) : Int), G)) = some ((if ¬ (65 ≤ chr t (p + 1) ∧ chr t (p + 1) ≤ 70) then (((p + 1 : Nat) : Int), rs ++ [cur]) else if ¬ (97 ≤ chr t (p + 2) ∧ chr t (p + 2) ≤ 122) then (((p + 2 : Nat) : Int), rs ++ [cur]) else prg t n (p + 3) rs (cur ++ [(chr t p, chr t (p + 1) - 65, chr t (p + 2) - 97)])).1, G') ∧ ((if ¬ (65 ≤ chr t (p + 1) ∧ chr t (p + 1) ≤ 70) then (((p + 1 : Nat) : Int), rs ++ [cur]) else if ¬ (97 ≤ chr t (p + 2) ∧ chr t (p + 2) ≤ 122) then (((p + 2 : Nat) : Int), rs ++ [cur]) else prg t n (p + 3) rs (cur ++ [(chr t p, chr t (p + 1) - 65, chr t (p + 2) - 97)])).1 = -1 → RwC (if ¬ (65 ≤ chr t (p + 1) ∧ chr t (p + 1) ≤ 70) then (((p + 1 : Nat) : Int), rs ++ [cur]) else if ¬ (97 ≤ chr t (p + 2) ∧ chr t (p + 2) ≤ 122) then (((p + 2 : Nat) : Int), rs ++ [cur]) else prg t n (p + 3) rs (cur ++ [(chr t p, chr t (p + 1) - 65, chr t (p + 2) - 97)])).2 G') := by
        intro hsg
        by_cases c1 : 65 ≤ chr t (p + 1) ∧ chr t (p + 1) ≤ 70
        · rw [if_pos c1, if_pos (show ¬ (1 : Int) = 0 by decide), if_neg (show ¬ ¬ (65 ≤ chr t (p + 1) ∧ chr t (p + 1) ≤ 70) from fun h9 => h9 c1)]
          by_cases c2 : 97 ≤ chr t (p + 2) ∧ chr t (p + 2) ≤ 122
          · rw [if_pos c2, if_pos (show ¬ (1 : Int) = 0 by decide), if_neg (show ¬ ¬ (97 ≤ chr t (p + 2) ∧ chr t (p + 2) ≤ 122) from fun h9 => h9 c2), lett_eq]
            have p3 : p + 3 ≤ t.length := by
              by_cases h9 : p + 2 < t.length
              · omega
              · unfold chr at c2
                rw [List.getD_eq_getElem?_getD, List.getElem?_eq_none (by omega)] at c2
                exact absurd c2.1 (by decide)
            have es : (if ¬ chr t p = 33 then (20000 : Int) else 10000) = sgP (chr t p, chr t (p + 1) - 65, chr t (p + 2) - 97) := by
              unfold sgP
              simp only
              by_cases h9 : chr t p = 33
              · rw [if_neg (fun h8 => h8 h9), if_pos h9]
              · rw [if_pos h9, if_neg h9]
            rw [es, rsi (c := 71) (by omega) (by omega), Int.toNat_natCast]
            have x1 : TxP t (gset G 71 (rs.flatten ++ cur).length (sgP (chr t p, chr t (p + 1) - 65, chr t (p + 2) - 97))) := hx.cl (gset_ne (by decide)) (gset_ne (by decide))
            rw [at4 x1 (p + 1) rfl, wr_id (show -2147483648 ≤ chr t (p + 1) - 65 by omega) (by omega), rsi (c := 73) (by omega) (by omega), Int.toNat_natCast]
            have x2 := TxP.cl (g' := gset (gset G 71 (rs.flatten ++ cur).length (sgP (chr t p, chr t (p + 1) - 65, chr t (p + 2) - 97))) 73 (rs.flatten ++ cur).length (chr t (p + 1) - 65)) x1 (gset_ne (by decide)) (gset_ne (by decide))
            rw [at4 x2 (p + 2) rfl, wr_id (show -2147483648 ≤ chr t (p + 2) - 97 by omega) (by omega), rsi (c := 75) (by omega) (by omega), Int.toNat_natCast]
            have el : (rs.flatten ++ (cur ++ [(chr t p, chr t (p + 1) - 65, chr t (p + 2) - 97)])).length = (rs.flatten ++ cur).length + 1 := by simp; omega
            have z := ih (p + 3) m rs (cur ++ [(chr t p, chr t (p + 1) - 65, chr t (p + 2) - 97)]) _ (by omega) (by omega) p3 (x2.cl (gset_ne (by decide)) (gset_ne (by decide))) (by rw [el]; omega) hr (hs.act (chr t p, chr t (p + 1) - 65, chr t (p + 2) - 97))
            rw [el] at z
            rw [wr_id (show -2147483648 ≤ ((rs.flatten ++ cur).length : Int) + 1 by omega) (by omega), show ((rs.flatten ++ cur).length : Int) + 1 = (((rs.flatten ++ cur).length + 1 : Nat) : Int) by omega]
            exact z
          · rw [if_neg c2, if_neg (show ¬ ¬ (0 : Int) = 0 from fun h9 => h9 rfl), if_pos c2]
            exact ⟨G, rfl, fun h9 => by simp only at h9; omega⟩
        · rw [if_neg c1, if_neg (show ¬ ¬ (0 : Int) = 0 from fun h9 => h9 rfl), if_pos c1]
          exact ⟨G, rfl, fun h9 => by simp only at h9; omega⟩
      by_cases c1 : chr t p = 124
      · rw [if_neg (fun h9 => h9 c1), hs.1]
        by_cases c2 : rs.length < 7
        · rw [if_neg (by omega), if_pos ⟨c1, c2⟩]
          have w4 : wr (((rs.length + 1 : Nat) : Int) + 1) = ((rs.length + 2 : Nat) : Int) := by rw [wr_id (by omega) (by omega)]; omega
          rw [w4, rsi (c := 77) (by omega) (by omega), Int.toNat_natCast]
          have el : ((rs ++ [cur]).flatten ++ []).length = (rs.flatten ++ cur).length := by simp
          have z := ih (p + 1) m (rs ++ [cur]) [] _ (by omega) (by omega) (by omega) (TxP.cl (g' := gset (gset G 77 (rs.length + 1) ((rs.flatten ++ cur).length : Int)) 69 7 ((rs.length + 2 : Nat) : Int)) hx (by rw [gset_ne (by decide), gset_ne (by decide)]) (by rw [gset_ne (by decide), gset_ne (by decide)])) (by rw [el]; simp at hb ⊢; omega) (by rw [List.length_append, List.length_singleton]; omega) hs.row
          rw [el] at z
          exact z
        · rw [if_pos (by omega), if_neg (show ¬ chr t p = 33 by omega), if_neg (show ¬ chr t p = 63 by omega), if_neg (show ¬ (chr t p = 124 ∧ rs.length < 7) from fun h9 => c2 h9.2), if_pos (show ¬ (chr t p = 33 ∨ chr t p = 63) by omega)]
          exact ⟨G, rfl, fun h9 => by simp only at h9; omega⟩
      · rw [if_pos c1, if_neg (show ¬ (chr t p = 124 ∧ rs.length < 7) from fun h9 => c1 h9.1)]
        by_cases c3 : chr t p = 33
        · rw [if_pos c3, if_neg (show ¬ ¬ (chr t p = 33 ∨ chr t p = 63) from fun h9 => h9 (Or.inl c3))]
          exact act (Or.inl c3)
        · rw [if_neg c3]
          by_cases c4 : chr t p = 63
          · rw [if_pos c4, if_neg (show ¬ ¬ (chr t p = 33 ∨ chr t p = 63) from fun h9 => h9 (Or.inr c4))]
            exact act (Or.inr c4)
          · rw [if_neg c4, if_pos (show ¬ (chr t p = 33 ∨ chr t p = 63) by omega)]
            exact ⟨G, rfl, fun h9 => by simp only at h9; omega⟩
theorem pgC_ok {t : List Int} {g : Gx} (hx : TxP t g) : ∃ G', Pg_read g = some ((pgm t).1, G') ∧ ((pgm t).1 = -1 → RwC (pgm t).2 G') := by
  unfold Pg_read pgm
  have s0 : StC [] [] (rset (gset g 69 7 1) 77 9 0 0) := by
    refine ⟨by rw [rs_ne (by decide)]; simp [gset], fun r hr => ?_, fun j a h => by simp at h⟩
    obtain rfl : r = 0 := by simpa using hr
    rw [rsi (by omega) (by omega)]
    simp [gset, sttP]
  have z := pg_read (t := t) _ rfl 200 0 fu [] [] (rset (gset g 69 7 1) 77 9 0 0) (by omega) (fu_big 200 (by decide)) (by omega) (hx.cl (by rw [rs_ne (by decide), gset_ne (by decide)]) (by rw [rs_ne (by decide), gset_ne (by decide)])) (by simp) (by simp) s0
  exact z
