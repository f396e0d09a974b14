/-! The program's text: reading, the reference; fault. Own text. -/
def TxPR (t : List Int) (g : Gx) : Prop := g 98 1 = (t.length : Int) ∧ t.length ≤ 80 ∧ ∀ i, i < t.length → g 97 (160 + i) = chr t i
theorem TxPR.cl {t : List Int} {g g' : Gx} (h : TxPR t g) (h1 : g' 98 = g 98) (h2 : g' 97 = g 97) : TxPR t g' := by
  unfold TxPR
  rw [h1, h2]
  exact h
theorem chr_out {t : List Int} {p : Nat} (h : t.length ≤ p) : chr t p = -1 := by
  unfold chr
  rw [List.getD_eq_getElem?_getD, List.getElem?_eq_none h]; rfl
theorem here1 {t : List Int} {g : Gx} (h : TxPR t g) (p : Nat) (hp : g 92 8 = (p : Int)) (hp2 : p ≤ 100) : Md_here 1 g = some (chr t p, g) := by
  obtain ⟨h1, h2, h3⟩ := h
  unfold Md_here
  rw [if_pos (by decide), show (1 : Int).toNat = 1 from rfl, h1, hp]
  by_cases c : t.length ≤ p
  · rw [if_pos (by omega), chr_out c]
  · rw [if_neg (by omega), show wr (wr (160 * 1) + (p : Int)) = ((160 + p : Nat) : Int) by simp (disch := omega) only [wr_id]; omega, if_pos (by omega), Int.toNat_natCast, h3 p (by omega)]
def RwR (rs : List (List Ac)) (g : Gx) : Prop := g 92 21 = (rs.length : Int) ∧ ∀ r x, rs[r]? = some x → g 106 r = (x.length : Int) ∧ ∀ i a, x[i]? = some a → g 107 (30 * r + i) = a.1 ∧ g 108 (30 * r + i) = a.2.1 ∧ g 109 (30 * r + i) = a.2.2
theorem RwR.of {rs : List (List Ac)} {g g' : Gx} (h : RwR rs g) (e1 : g' 92 21 = g 92 21) (e2 : g' 106 = g 106) (e3 : g' 107 = g 107) (e4 : g' 108 = g 108) (e5 : g' 109 = g 109) : RwR rs g' := by
  unfold RwR
  rw [e1, e2, e3, e4, e5]
  exact h
theorem RwR.act {rs : List (List Ac)} {cur : List Ac} {g : Gx} (h : RwR (rs ++ [cur]) g) (hl : ∀ x ∈ rs, x.length ≤ 27) (hc : cur.length ≤ 27) (a : Ac) : RwR (rs ++ [cur ++ [a]]) (gset (gset (gset (gset g 107 (30 * rs.length + cur.length) a.1) 108 (30 * rs.length + cur.length) a.2.1) 109 (30 * rs.length + cur.length) a.2.2) 106 rs.length ((cur.length + 1 : Nat) : Int)) := by
  obtain ⟨h1, h2⟩ := h
  refine ⟨by rw [List.length_append] at h1 ⊢; simp [gset]; simpa using h1, fun r x hx => ?_⟩
  by_cases c : r < rs.length
  · rw [List.getElem?_append_left c] at hx
    obtain ⟨k1, k2⟩ := h2 r x (by rw [List.getElem?_append_left c]; exact hx)
    have n1 : r ≠ rs.length := by omega
    refine ⟨by simp [gset, n1]; exact k1, fun i b hb => ?_⟩
    have li := (List.getElem?_eq_some_iff.mp hb).1
    have l27 := hl x (List.mem_of_getElem? hx)
    have n2 : 30 * r + i ≠ 30 * rs.length + cur.length := by omega
    simp [gset, n2]
    exact k2 i b hb
  · rw [List.getElem?_append_right (by omega)] at hx
    have l := (List.getElem?_eq_some_iff.mp hx).1
    rw [List.length_singleton] at l
    obtain rfl : r = rs.length := by omega
    simp at hx
    subst hx
    refine ⟨by simp [gset], fun i b hb => ?_⟩
    by_cases c2 : i < cur.length
    · rw [List.getElem?_append_left c2] at hb
      obtain ⟨k1, k2⟩ := h2 rs.length cur (by simp)
      have n2 : 30 * rs.length + i ≠ 30 * rs.length + cur.length := by omega
      simp [gset]
      have n3 : i ≠ cur.length := by omega
      simp [n3]
      exact k2 i b hb
    · rw [List.getElem?_append_right (by omega)] at hb
      have l2 := (List.getElem?_eq_some_iff.mp hb).1
      rw [List.length_singleton] at l2
      obtain rfl : i = cur.length := by omega
      simp at hb
      subst hb
      simp [gset]
theorem RwR.row {rs : List (List Ac)} {g : Gx} (h : RwR rs g) : RwR (rs ++ [[]]) (gset (gset g 106 rs.length 0) 92 21 ((rs.length + 1 : Nat) : Int)) := by
  obtain ⟨h1, h2⟩ := h
  refine ⟨by rw [List.length_append]; simp [gset], fun r x hx => ?_⟩
  by_cases c : r < rs.length
  · rw [List.getElem?_append_left c] at hx
    obtain ⟨k1, k2⟩ := h2 r x hx
    have n1 : r ≠ rs.length := by omega
    refine ⟨by simp [gset, n1]; exact k1, fun i b hb => ?_⟩
    simp [gset]
    exact k2 i b hb
  · rw [List.getElem?_append_right (by omega)] at hx
    have l := (List.getElem?_eq_some_iff.mp hx).1
    rw [List.length_singleton] at l
    obtain rfl : r = rs.length := by omega
    simp at hx
    subst hx
    exact ⟨by simp [gset], fun i b hb => by simp at hb⟩
def pgTail (K : Gx → Option (Int × Gx)) (n : Nat) (b : Int) (g : Gx) : Option (Int × Gx) :=
  Option.bind (Md_isTalker 1 (gset g 92 8 (wr ((g 92 8) + 1)))) (fun q3 =>
  if ¬ q3.1 = 0 then
    if 0 ≤ (wr ((q3.2 92 21) - 1)) ∧ (wr ((q3.2 92 21) - 1)) < 8 then
    if 0 ≤ (wr ((wr (30 * (wr ((q3.2 92 21) - 1)))) + (q3.2 106 (wr ((q3.2 92 21) - 1)).toNat))) ∧ (wr ((wr (30 * (wr ((q3.2 92 21) - 1)))) + (q3.2 106 (wr ((q3.2 92 21) - 1)).toNat))) < 240 then
    Option.bind (Md_here 1 (gset q3.2 107 ((wr ((wr (30 * (wr ((q3.2 92 21) - 1)))) + (q3.2 106 (wr ((q3.2 92 21) - 1)).toNat))).toNat) b)) (fun q4 =>
    if 0 ≤ (wr ((wr (30 * (wr ((q3.2 92 21) - 1)))) + (q3.2 106 (wr ((q3.2 92 21) - 1)).toNat))) ∧ (wr ((wr (30 * (wr ((q3.2 92 21) - 1)))) + (q3.2 106 (wr ((q3.2 92 21) - 1)).toNat))) < 240 then
    Option.bind (Md_here 1 (gset (gset q4.2 108 ((wr ((wr (30 * (wr ((q3.2 92 21) - 1)))) + (q3.2 106 (wr ((q3.2 92 21) - 1)).toNat))).toNat) (wr (q4.1 - 65))) 92 8 (wr ((q4.2 92 8) + 1)))) (fun q5 =>
    if ¬ (Md_in q5.1 97 122) = 0 then
      Option.bind (Md_here 1 q5.2) (fun q6 =>
      if 0 ≤ (wr ((wr (30 * (wr ((q3.2 92 21) - 1)))) + (q3.2 106 (wr ((q3.2 92 21) - 1)).toNat))) ∧ (wr ((wr (30 * (wr ((q3.2 92 21) - 1)))) + (q3.2 106 (wr ((q3.2 92 21) - 1)).toNat))) < 240 then
      if 0 ≤ (wr ((q6.2 92 21) - 1)) ∧ (wr ((q6.2 92 21) - 1)) < 8 then
      if 0 ≤ (wr ((q6.2 92 21) - 1)) ∧ (wr ((q6.2 92 21) - 1)) < 8 then
      Md_readsProgram_l17 K n (gset (gset (gset q6.2 109 ((wr ((wr (30 * (wr ((q3.2 92 21) - 1)))) + (q3.2 106 (wr ((q3.2 92 21) - 1)).toNat))).toNat) (wr (q6.1 - 97))) 106 ((wr ((q6.2 92 21) - 1)).toNat) (wr ((q6.2 106 (wr ((q6.2 92 21) - 1)).toNat) + 1))) 92 8 (wr ((q6.2 92 8) + 1)))
      else none
      else none
      else none)
    else
      some ((q5.2 92 8), q5.2))
    else none)
    else none
    else none
  else
    some ((q3.2 92 8), q3.2))
theorem pgl_eq (K : Gx → Option (Int × Gx)) (n : Nat) (g : Gx) : Md_readsProgram_l17 K (n + 1) g = if (g 98 1) ≤ (g 92 8) then K g else Option.bind (Md_here 1 g) (fun q1 => if ¬ q1.1 = 124 then Option.bind (Md_here 1 q1.2) (fun q2 => if q2.1 = 33 then pgTail K n q2.1 q2.2 else if q2.1 = 63 then pgTail K n q2.1 q2.2 else some ((q2.2 92 8), q2.2)) else if ¬ (q1.2 92 21) = 8 then if 0 ≤ (q1.2 92 21) ∧ (q1.2 92 21) < 8 then Md_readsProgram_l17 K n (gset (gset (gset q1.2 106 ((q1.2 92 21).toNat) 0) 92 21 (wr ((q1.2 92 21) + 1))) 92 8 (wr ((q1.2 92 8) + 1))) else none else some ((q1.2 92 8), q1.2)) := by
  rw [Md_readsProgram_l17]
  rfl
theorem tail_ok {t : List Int} {p : Nat} {rs : List (List Ac)} {cur : List Ac} {g : Gx} (hx : TxPR t g) (hp : g 92 8 = (p : Int)) (hpt : p < t.length) (hs : RwR (rs ++ [cur]) g) (hr : rs.length ≤ 7) (hl : ∀ x ∈ rs, x.length ≤ 27) (hc : cur.length ≤ 27) (K : Gx → Option (Int × Gx)) (n : Nat) (b : Int) : (¬ (65 ≤ chr t (p + 1) ∧ chr t (p + 1) ≤ 70) ∧ ∃ G, pgTail K n b g = some (((p + 1 : Nat) : Int), G)) ∨ ((65 ≤ chr t (p + 1) ∧ chr t (p + 1) ≤ 70) ∧ ¬ (97 ≤ chr t (p + 2) ∧ chr t (p + 2) ≤ 122) ∧ ∃ G, pgTail K n b g = some (((p + 2 : Nat) : Int), G)) ∨ ((65 ≤ chr t (p + 1) ∧ chr t (p + 1) ≤ 70) ∧ (97 ≤ chr t (p + 2) ∧ chr t (p + 2) ≤ 122) ∧ ∃ G, pgTail K n b g = Md_readsProgram_l17 K n G ∧ TxPR t G ∧ G 92 8 = ((p + 3 : Nat) : Int) ∧ RwR (rs ++ [cur ++ [(b, chr t (p + 1) - 65, chr t (p + 2) - 97)]]) G) := by
  have l80 := hx.2.1
  have w1 : wr ((p : Int) + 1) = ((p + 1 : Nat) : Int) := by rw [wr_id (by omega) (by omega)]; omega
  unfold pgTail Md_isTalker
  rw [hp, w1]
  have x1 : TxPR t (gset g 92 8 ((p + 1 : Nat) : Int)) := hx.cl (gset_ne (by decide)) (gset_ne (by decide))
  rw [here1 x1 (p + 1) gs_same (by omega), ob_eq]
  simp only
  rw [ob_eq]
  simp only
  rw [in_eq]
  by_cases c1 : 65 ≤ chr t (p + 1) ∧ chr t (p + 1) ≤ 70
  · right
    rw [if_pos c1, if_pos (show ¬ (1 : Int) = 0 by decide)]
    have n21 : g 92 21 = ((rs.length + 1 : Nat) : Int) := by rw [hs.1]; simp
    have e21 : (gset g 92 8 ((p + 1 : Nat) : Int)) 92 21 = ((rs.length + 1 : Nat) : Int) := by rw [gs_at (by decide)]; exact n21
    have w2 : wr (((rs.length + 1 : Nat) : Int) - 1) = (rs.length : Int) := by rw [wr_id (by omega) (by omega)]; omega
    have c106 : g 106 rs.length = (cur.length : Int) := (hs.2 rs.length cur (by simp)).1
    have e106 : (gset g 92 8 ((p + 1 : Nat) : Int)) 106 rs.length = (cur.length : Int) := by rw [gc (by decide)]; exact c106
    have w3 : wr (wr (30 * (rs.length : Int)) + (cur.length : Int)) = ((30 * rs.length + cur.length : Nat) : Int) := by simp (disch := omega) only [wr_id]; omega
    rw [e21, w2, Int.toNat_natCast, e106, w3, Int.toNat_natCast, if_pos (show 0 ≤ (rs.length : Int) ∧ (rs.length : Int) < 8 by omega), if_pos (show 0 ≤ ((30 * rs.length + cur.length : Nat) : Int) ∧ ((30 * rs.length + cur.length : Nat) : Int) < 240 by omega)]
    have x2 := TxPR.cl (g' := gset (gset g 92 8 ((p + 1 : Nat) : Int)) 107 (30 * rs.length + cur.length) b) x1 (gset_ne (by decide)) (gset_ne (by decide))
    have q8 : (gset (gset g 92 8 ((p + 1 : Nat) : Int)) 107 (30 * rs.length + cur.length) b) 92 8 = ((p + 1 : Nat) : Int) := by rw [gc (by decide)]; exact gs_same
    rw [here1 x2 (p + 1) q8 (by omega), ob_eq]
    simp only
    rw [if_pos (show 0 ≤ ((30 * rs.length + cur.length : Nat) : Int) ∧ ((30 * rs.length + cur.length : Nat) : Int) < 240 by omega), q8, wr_id (show -2147483648 ≤ chr t (p + 1) - 65 by omega) (by omega), show wr (((p + 1 : Nat) : Int) + 1) = ((p + 2 : Nat) : Int) by rw [wr_id (by omega) (by omega)]; omega]
    have x3 := TxPR.cl (g' := gset (gset (gset (gset g 92 8 ((p + 1 : Nat) : Int)) 107 (30 * rs.length + cur.length) b) 108 (30 * rs.length + cur.length) (chr t (p + 1) - 65)) 92 8 ((p + 2 : Nat) : Int)) x2 (by rw [gset_ne (by decide), gset_ne (by decide)]) (by rw [gset_ne (by decide), gset_ne (by decide)])
    rw [here1 x3 (p + 2) gs_same (by omega), ob_eq]
    simp only
    rw [in_eq]
    by_cases c2 : 97 ≤ chr t (p + 2) ∧ chr t (p + 2) ≤ 122
    · right
      refine ⟨c1, c2, ?_⟩
      rw [if_pos c2, if_pos (show ¬ (1 : Int) = 0 by decide), here1 x3 (p + 2) gs_same (by omega), ob_eq]
      simp only
      have f21 : (gset (gset (gset (gset g 92 8 ((p + 1 : Nat) : Int)) 107 (30 * rs.length + cur.length) b) 108 (30 * rs.length + cur.length) (chr t (p + 1) - 65)) 92 8 ((p + 2 : Nat) : Int)) 92 21 = ((rs.length + 1 : Nat) : Int) := by simp [gset]; simpa using n21
      have f106 : (gset (gset (gset (gset g 92 8 ((p + 1 : Nat) : Int)) 107 (30 * rs.length + cur.length) b) 108 (30 * rs.length + cur.length) (chr t (p + 1) - 65)) 92 8 ((p + 2 : Nat) : Int)) 106 rs.length = (cur.length : Int) := by simp [gset]; exact c106
      rw [if_pos (show 0 ≤ ((30 * rs.length + cur.length : Nat) : Int) ∧ ((30 * rs.length + cur.length : Nat) : Int) < 240 by omega), f21, w2, Int.toNat_natCast, if_pos (show 0 ≤ (rs.length : Int) ∧ (rs.length : Int) < 8 by omega), if_pos (show 0 ≤ (rs.length : Int) ∧ (rs.length : Int) < 8 by omega), f106, gs_same, wr_id (show -2147483648 ≤ chr t (p + 2) - 97 by omega) (by omega), show wr ((cur.length : Int) + 1) = ((cur.length + 1 : Nat) : Int) by rw [wr_id (by omega) (by omega)]; omega, show wr (((p + 2 : Nat) : Int) + 1) = ((p + 3 : Nat) : Int) by rw [wr_id (by omega) (by omega)]; omega]
      refine ⟨_, rfl, x3.cl (by rw [gset_ne (by decide), gset_ne (by decide), gset_ne (by decide)]) (by rw [gset_ne (by decide), gset_ne (by decide), gset_ne (by decide)]), gs_same, ?_⟩
      refine (hs.act hl hc (b, chr t (p + 1) - 65, chr t (p + 2) - 97)).of ?_ ?_ ?_ ?_ ?_
      · simp [gset]
      · funext j; simp [gset]
      · funext j; simp [gset]
      · funext j; simp [gset]
      · funext j; simp [gset]
    · left
      refine ⟨c1, c2, ?_⟩
      rw [if_neg c2, if_neg (show ¬ ¬ (0 : Int) = 0 from fun h9 => h9 rfl), gs_same]
      exact ⟨_, rfl⟩
  · left
    refine ⟨c1, ?_⟩
    rw [if_neg c1, if_neg (show ¬ ¬ (0 : Int) = 0 from fun h9 => h9 rfl), gs_same]
    exact ⟨_, rfl⟩
theorem pr_read {t : List Int} (K : Gx → Option (Int × Gx)) (hK : K = fun g11 => some ((-1), g11)) : ∀ (n p m : Nat) (rs : List (List Ac)) (cur : List Ac) (G : Gx), 81 ≤ n + p → n < m → p ≤ t.length → TxPR t G → G 92 8 = (p : Int) → (∀ x ∈ rs ++ [cur], 3 * x.length ≤ p) → rs.length ≤ 7 → RwR (rs ++ [cur]) G → ∃ G', Md_readsProgram_l17 K m G = some ((prg t n p rs cur).1, G') ∧ ((prg t n p rs cur).1 = -1 → RwR (prg t n p rs cur).2 G') := by
  intro n
  induction n with
  | zero => intro p m rs cur G hn hm hp hx; have := hx.2.1; omega
  | succ n ih =>
    intro p m rs cur G hn hm hp hx hp8 hb hr hs
    have l80 := hx.2.1
    obtain ⟨m, rfl⟩ : ∃ q, m = q + 1 := ⟨m - 1, by omega⟩
    rw [pgl_eq, prg, hx.1, hp8]
    by_cases c0 : t.length ≤ p
    · rw [if_pos (by omega), if_pos c0, hK]
      exact ⟨_, rfl, fun _ => hs⟩
    · rw [if_neg (by omega), if_neg c0, here1 hx p hp8 (by omega), ob_eq]
      simp only
      have hl : ∀ x ∈ rs, x.length ≤ 27 := fun x hx => by have := hb x (List.mem_append_left _ hx); omega
      have hc : cur.length ≤ 27 := by have := hb cur (by simp); omega
      have n21 : G 92 21 = ((rs.length + 1 : Nat) : Int) := by rw [hs.1]; simp
      by_cases c1 : chr t p = 124
      · rw [if_neg (fun h9 => h9 c1), n21]
        by_cases c2 : rs.length < 7
        · rw [if_pos (by omega), if_pos (by omega), if_pos ⟨c1, c2⟩, Int.toNat_natCast, hp8, show wr (((rs.length + 1 : Nat) : Int) + 1) = ((rs.length + 2 : Nat) : Int) by rw [wr_id (by omega) (by omega)]; omega, show wr ((p : Int) + 1) = ((p + 1 : Nat) : Int) by rw [wr_id (by omega) (by omega)]; omega]
          refine ih (p + 1) m (rs ++ [cur]) [] _ (by omega) (by omega) (by omega) (hx.cl (by rw [gset_ne (by decide), gset_ne (by decide), gset_ne (by decide)]) (by rw [gset_ne (by decide), gset_ne (by decide), gset_ne (by decide)])) gs_same (fun x hx => ?_) (by rw [List.length_append, List.length_singleton]; omega) ?_
          · rcases List.mem_append.mp hx with h9 | h9
            · have := hb x h9; omega
            · simp at h9; subst h9; simp
          · refine hs.row.of ?_ ?_ ?_ ?_ ?_
            · simp [gset]; omega
            · funext j; simp [gset]
            · funext j; simp [gset]
            · funext j; simp [gset]
            · funext j; simp [gset]
        · rw [if_neg (by omega), if_neg (show ¬ (chr t p = 124 ∧ rs.length < 7) from fun h9 => c2 h9.2), if_pos (show ¬ (chr t p = 33 ∨ chr t p = 63) by omega), hp8]
          exact ⟨G, rfl, fun h9 => by simp only at h9; omega⟩
      · rw [if_pos c1, if_neg (show ¬ (chr t p = 124 ∧ rs.length < 7) from fun h9 => c1 h9.1)]
        have tl : (chr t p = 33 ∨ chr t p = 63) → ∃ G', pgTail K m (chr t p) G = some ((if ¬ (65 ≤ chr t (p + 1) ∧ chr t (p + 1) ≤ 70) then (((p + 1 : Nat) : Int), rs ++ [cur]) else if ¬ (97 ≤ chr t (p + 2) ∧ chr t (p + 2) ≤ 122) then (((p + 2 : Nat) : Int), rs ++ [cur]) else prg t n (p + 3) rs (cur ++ [(chr t p, chr t (p + 1) - 65, chr t (p + 2) - 97)])).1, G') ∧ ((if ¬ (65 ≤ chr t (p + 1) ∧ chr t (p + 1) ≤ 70) then (((p + 1 : Nat) : Int), rs ++ [cur]) else if ¬ (97 ≤ chr t (p + 2) ∧ chr t (p + 2) ≤ 122) then (((p + 2 : Nat) : Int), rs ++ [cur]) else prg t n (p + 3) rs (cur ++ [(chr t p, chr t (p + 1) - 65, chr t (p + 2) - 97)])).1 = -1 → RwR (if ¬ (65 ≤ chr t (p + 1) ∧ chr t (p + 1) ≤ 70) then (((p + 1 : Nat) : Int), rs ++ [cur]) else if ¬ (97 ≤ chr t (p + 2) ∧ chr t (p + 2) ≤ 122) then (((p + 2 : Nat) : Int), rs ++ [cur]) else prg t n (p + 3) rs (cur ++ [(chr t p, chr t (p + 1) - 65, chr t (p + 2) - 97)])).2 G') := by
          intro _
          rcases tail_ok hx hp8 (by omega) hs hr hl hc K m (chr t p) with ⟨d1, G2, d2⟩ | ⟨d1, d2, G2, d3⟩ | ⟨d1, d2, G2, d3, d4, d5, d6⟩
          · rw [if_pos d1]
            exact ⟨G2, d2, fun h9 => by simp only at h9; omega⟩
          · rw [if_neg (fun h9 => h9 d1), if_pos d2]
            exact ⟨G2, d3, fun h9 => by simp only at h9; omega⟩
          · rw [if_neg (fun h9 => h9 d1), if_neg (fun h9 => h9 d2), d3]
            have p3 : p + 3 ≤ t.length := by
              by_cases h9 : p + 2 < t.length
              · omega
              · rw [chr_out (by omega)] at d2
                exact absurd d2.1 (by decide)
            refine ih (p + 3) m rs _ G2 (by omega) (by omega) p3 d4 d5 (fun x hx => ?_) hr d6
            rcases List.mem_append.mp hx with h9 | h9
            · have := hb x (List.mem_append_left _ h9); omega
            · simp at h9; subst h9
              have := hb cur (by simp)
              rw [List.length_append, List.length_singleton]; omega
        rw [here1 hx p hp8 (by omega), ob_eq]
        simp only
        by_cases c3 : chr t p = 33
        · rw [if_pos c3, if_neg (show ¬ ¬ (chr t p = 33 ∨ chr t p = 63) from fun h9 => h9 (Or.inl c3))]
          exact tl (Or.inl c3)
        · rw [if_neg c3]
          by_cases c4 : chr t p = 63
          · rw [if_pos c4, if_neg (show ¬ ¬ (chr t p = 33 ∨ chr t p = 63) from fun h9 => h9 (Or.inr c4))]
            exact tl (Or.inr c4)
          · rw [if_neg c4, if_pos (show ¬ (chr t p = 33 ∨ chr t p = 63) by omega), hp8]
            exact ⟨G, rfl, fun h9 => by simp only at h9; omega⟩
theorem pgR_ok {t : List Int} {g : Gx} (hx : TxPR t g) : ∃ G', Md_readsProgram g = some ((pgm t).1, G') ∧ ((pgm t).1 = -1 → RwR (pgm t).2 G') := by
  unfold Md_readsProgram pgm
  refine pr_read (t := t) _ rfl 200 0 fu [] [] _ (by omega) (fu_big 200 (by decide)) (by omega) (hx.cl (by rw [gset_ne (by decide), gset_ne (by decide), gset_ne (by decide)]) (by rw [gset_ne (by decide), gset_ne (by decide), gset_ne (by decide)])) (by simp [gset]) (fun x hx => by simp at hx; subst hx; simp) (by simp) ⟨by simp [gset], fun r x hx => ?_⟩
  cases r with
  | zero => simp at hx; subst hx; exact ⟨by simp [gset], fun i a h => by simp at h⟩
  | succ r => simp at hx
theorem Inv.txPR {T : Nat} {t pt : List Int} {u : Int} {g : Gx} (h : Inv T t pt u g) : TxPR pt g := by
  obtain ⟨⟨x1, x2, x3, x4, x5, x6, x7, x8⟩, -, ⟨y1, y2, y3⟩, -⟩ := h
  exact ⟨by rw [x4]; exact y1, y2, fun i hi => by rw [(x8 i (by omega)).1]; exact y3 i hi⟩
/-- the class has read the program as it is -/
theorem pfault_ok {T : Nat} {t pt : List Int} {u : Int} {g : Gx} (h : Inv T t pt u g) : ∃ g', Pg_firstFault g = some ((pgm pt).1, g') ∧ Inv T t pt u g' ∧ PgC pt g' ∧ FR [71, 73, 75, 77, 5423, 5424, 5425] g g' := by
  have hb := h.bas
  obtain ⟨-, -, hx, -, -, -, -, hc, t0, k1, k2, k3, k4, k5⟩ := id h
  by_cases hch : g 69 9 = g 4 3
  · have e := k5 hch
    refine ⟨g, ?_, h, e, FR.rf _ _⟩
    unfold Pg_firstFault Tx_changes4
    rw [if_pos hch, e.1]
  · obtain ⟨G, e1, e2⟩ := pgC_ok (t := pt) (g := gset g 69 9 (g 4 3)) (hx.cl (gset_ne (by decide)) (gset_ne (by decide)))
    have e0 : Pg_firstFault g = some ((pgm pt).1, gset G 69 8 (pgm pt).1) := by
      unfold Pg_firstFault Tx_changes4
      rw [if_neg hch, e1, ob_eq]
    have f := fr_Pg_firstFault _ _ _ e0
    have fr := fr_Pg_read _ _ _ e1
    have pg : PgC pt (gset G 69 8 (pgm pt).1) := ⟨gs_same, fun h9 => by
      have := e2 h9
      unfold RwC at this ⊢
      simpa [gset] using this⟩
    refine ⟨_, e0, (hb.fr (f.cl (by decide))).inv (t0 := t0) ?_ ⟨?_, ?_, ?_, ?_, fun _ => pg⟩, pg, f⟩
    · have v : (gset G 69 8 (pgm pt).1) 69 9 = g 4 3 := by rw [gs_at (by decide), fr.fld (by decide) (by decide)]; exact gs_same
      have := hc
      unfold Cnt at this ⊢
      rw [v, f.fld (q := 1) (j := 3) (by decide) (by decide), f.fld (q := 4) (j := 3) (by decide) (by decide), f.fld (q := 28) (j := 9) (by decide) (by decide), f.fld (q := 7) (j := 12) (by decide) (by decide), f.fld (q := 33) (j := 13) (by decide) (by decide), f.fld (q := 33) (j := 16) (by decide) (by decide), f.fld (q := 55) (j := 5) (by decide) (by decide), f.fld (q := 55) (j := 6) (by decide) (by decide)]
      omega
    · rw [f.fld (q := 28) (j := 9) (by decide) (by decide), f.fld (q := 1) (j := 3) (by decide) (by decide)]; exact k1
    · rw [f.fld (q := 28) (j := 9) (by decide) (by decide)]
      exact fun h9 => (k2 h9).of (f.fld (by decide) (by decide)) (f.fld (by decide) (by decide)) (f.fld (by decide) (by decide)) (f.fld (by decide) (by decide)) ⟨f.fld (by decide) (by decide), f.cell (by decide) (by decide), f.cell (by decide) (by decide), f.cell (by decide) (by decide), f.cell (by decide) (by decide), f.cell (by decide) (by decide), f.cell (by decide) (by decide)⟩
    · rw [f.fld (q := 33) (j := 13) (by decide) (by decide), f.fld (q := 7) (j := 12) (by decide) (by decide), f.fld (q := 28) (j := 9) (by decide) (by decide)]
      intro h9
      obtain ⟨d0, d1, d2, d3⟩ := k3 h9
      refine ⟨d0, d1, by rw [f.fld (q := 33) (j := 14) (by decide) (by decide)]; exact d2, ?_⟩
      rw [f.fld (q := 33) (j := 14) (by decide) (by decide), f.fld (q := 33) (j := 15) (by decide) (by decide), f.fld (q := 55) (j := 5) (by decide) (by decide), f.fld (q := 33) (j := 16) (by decide) (by decide), f.cell (q := 57) (by decide) (by decide)]
      rcases d3 with d3 | ⟨d3, d4, d5, d6⟩
      · exact Or.inl d3
      · exact Or.inr ⟨d3, d4, d5.of (f.fld (by decide) (by decide)) (f.cell (by decide) (by decide)) (f.cell (by decide) (by decide)) (f.cell (by decide) (by decide)) (f.cell (by decide) (by decide)), d6⟩
    · rw [f.fld (q := 55) (j := 6) (by decide) (by decide), f.fld (q := 7) (j := 12) (by decide) (by decide), f.fld (q := 55) (j := 7) (by decide) (by decide)]; exact k4
theorem st_fault {T : Nat} {t pt : List Int} {u : Int} {g : Gx} (h : Inv T t pt u g) (hT : T < 80000) (a1 : Int) : ∃ r g1 g2, Op_fault a1 g = some (r, g1) ∧ Md_fault a1 g1 = some (r, g2) ∧ Inv (T + 2) t pt u g2 := by
  unfold Op_fault Md_fault
  by_cases c : 0 ≤ a1 ∧ a1 ≤ 1
  · have n1 : ¬ Md_in a1 0 1 = 0 := fun h9 => in_iff.mp h9 c
    simp only [if_neg (show ¬ a1 < 0 by omega), if_pos c.2, if_neg n1]
    by_cases c0 : a1 = 0
    · simp only [if_neg (show ¬ ¬ a1 = 0 from fun h9 => h9 c0)]
      obtain ⟨g1, e1, e2, e3⟩ := fault_ok h (by omega)
      obtain ⟨g2, f1, f2⟩ := md_reads e2.txR
      exact ⟨_, g1, g2, by rw [e1, ob_eq], by rw [f1, ob_eq], (e2.fr ((fr_Md_reads _ _ _ f1).cl (by decide))).more (by omega)⟩
    · simp only [if_pos c0]
      obtain ⟨g1, e1, e2, e3, -⟩ := pfault_ok h
      obtain ⟨g2, f1, f2⟩ := pgR_ok e2.txPR
      exact ⟨_, g1, g2, by rw [e1, ob_eq], by rw [f1, ob_eq], (e2.fr ((fr_Md_readsProgram _ _ _ f1).cl (by decide))).more (by omega)⟩
  · have n1 : Md_in a1 0 1 = 0 := in_iff.mpr c
    refine ⟨-2, g, g, ?_, by rw [if_pos n1], h.more (by omega)⟩
    by_cases c2 : a1 < 0
    · rw [if_pos c2]
    · rw [if_neg c2, if_neg (by omega)]
