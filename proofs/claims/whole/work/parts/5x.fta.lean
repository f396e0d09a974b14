/-! A program's rows beside looks: what is to be found; the class. Own text. -/
def OkP (rs : List (List Ac)) : Prop := rs.length ≤ 8 ∧ rs.flatten.length ≤ 30 ∧ ∀ x ∈ rs, x.length ≤ 27 ∧ ∀ a ∈ x, (a.1 = 33 ∨ a.1 = 63) ∧ 0 ≤ a.2.1 ∧ a.2.1 ≤ 5 ∧ 0 ≤ a.2.2 ∧ a.2.2 ≤ 25
theorem prg_ok {t : List Int} (ht : t.length ≤ 80) : ∀ (n p : Nat) (rs : List (List Ac)) (cur : List Ac), p ≤ t.length → rs.length ≤ 7 → 3 * (rs ++ [cur]).flatten.length ≤ p → (∀ x ∈ rs ++ [cur], 3 * x.length ≤ p ∧ ∀ a ∈ x, (a.1 = 33 ∨ a.1 = 63) ∧ 0 ≤ a.2.1 ∧ a.2.1 ≤ 5 ∧ 0 ≤ a.2.2 ∧ a.2.2 ≤ 25) → OkP (prg t n p rs cur).2 := by
  have fin : ∀ (p : Nat) (rs : List (List Ac)) (cur : List Ac), p ≤ t.length → rs.length ≤ 7 → 3 * (rs ++ [cur]).flatten.length ≤ p → (∀ x ∈ rs ++ [cur], 3 * x.length ≤ p ∧ ∀ a ∈ x, (a.1 = 33 ∨ a.1 = 63) ∧ 0 ≤ a.2.1 ∧ a.2.1 ≤ 5 ∧ 0 ≤ a.2.2 ∧ a.2.2 ≤ 25) → OkP (rs ++ [cur]) := fun p rs cur h1 h2 h3 h4 => ⟨by rw [List.length_append, List.length_singleton]; omega, by omega, fun x hx => ⟨by have := (h4 x hx).1; omega, (h4 x hx).2⟩⟩
  intro n
  induction n with
  | zero => intro p rs cur h1 h2 h3 h4; exact fin p rs cur h1 h2 h3 h4
  | succ n ih =>
    intro p rs cur h1 h2 h3 h4
    rw [prg]
    by_cases c0 : t.length ≤ p
    · rw [if_pos c0]; exact fin p rs cur h1 h2 h3 h4
    rw [if_neg c0]
    by_cases c1 : chr t p = 124 ∧ rs.length < 7
    · rw [if_pos c1]
      refine ih (p + 1) (rs ++ [cur]) [] (by omega) (by rw [List.length_append, List.length_singleton]; omega) (by rw [List.flatten_append]; simp at h3 ⊢; omega) (fun x hx => ?_)
      rcases List.mem_append.mp hx with h9 | h9
      · exact ⟨by have := (h4 x h9).1; omega, (h4 x h9).2⟩
      · simp at h9; subst h9; exact ⟨by simp, fun a ha => by simp at ha⟩
    rw [if_neg c1]
    by_cases c2 : ¬ (chr t p = 33 ∨ chr t p = 63)
    · rw [if_pos c2]; exact fin p rs cur h1 h2 h3 h4
    rw [if_neg c2]
    by_cases c3 : ¬ (65 ≤ chr t (p + 1) ∧ chr t (p + 1) ≤ 70)
    · rw [if_pos c3]; exact fin p rs cur h1 h2 h3 h4
    rw [if_neg c3]
    by_cases c4 : ¬ (97 ≤ chr t (p + 2) ∧ chr t (p + 2) ≤ 122)
    · rw [if_pos c4]; exact fin p rs cur h1 h2 h3 h4
    rw [if_neg c4]
    have c2' := Classical.not_not.mp c2
    have c3' := Classical.not_not.mp c3
    have c4' := Classical.not_not.mp c4
    have p3 : p + 3 ≤ t.length := by
      by_cases h9 : p + 2 < t.length
      · omega
      · rw [chr_out (by omega)] at c4'
        exact absurd c4'.1 (by decide)
    refine ih (p + 3) rs _ p3 h2 (by simp at h3 ⊢; omega) (fun x hx => ?_)
    rcases List.mem_append.mp hx with h9 | h9
    · have := h4 x (List.mem_append_left _ h9)
      exact ⟨by omega, this.2⟩
    · simp at h9
      subst h9
      have := h4 cur (by simp)
      refine ⟨by rw [List.length_append, List.length_singleton]; omega, fun a ha => ?_⟩
      rcases List.mem_append.mp ha with h8 | h8
      · exact this.2 a h8
      · simp at h8
        subst h8
        exact ⟨c2', by simp only; omega, by simp only; omega, by simp only; omega, by simp only; omega⟩
theorem pgm_ok {t : List Int} (ht : t.length ≤ 80) : OkP (pgm t).2 := by
  unfold pgm
  exact prg_ok ht 200 0 [] [] (by omega) (by simp) (by simp) (fun x hx => by simp at hx; subst hx; exact ⟨by simp, fun a ha => by simp at ha⟩)
def actv (t : Nat) (a : Ac) : Int := if a.1 = 33 then 10000 + 1000 * (t : Int) + 100 * a.2.1 + a.2.2 else 20000 + 1000 * a.2.1 + 100 * (t : Int) + a.2.2
def RA (rs : List (List Ac)) (t p : Nat) : List Int := (rs.getD p []).map (actv t)
abbrev alk (n : Nat) (x y : List Int) : Prop := n ≤ x.length ∧ n ≤ y.length ∧ ∀ i, i < n → x.getD i 0 = y.getD i 0
def Bl (x : Int) (P : Prop) : Prop := (x = 1 ∧ P) ∨ (x = 0 ∧ ¬ P)
/-- after n first acts of the row r a look shows what may not be -/
def Brc (L : List Hy) (rs : List (List Ac)) (t r n : Nat) : Prop :=
  (∃ h, h < L.length ∧ alk n (lkk L t h) (RA rs t r)) ∧
  ((∃ h, h < L.length ∧ alk n (lkk L t h) (RA rs t r) ∧ (n < (lkk L t h).length ∧ 20000 ≤ (lkk L t h).getD n 0) ∧ ¬ ∃ p, p < rs.length ∧ alk n (RA rs t p) (RA rs t r) ∧ n < (RA rs t p).length ∧ (RA rs t p).getD n 0 = (lkk L t h).getD n 0) ∨
   (∃ p, p < rs.length ∧ alk n (RA rs t p) (RA rs t r) ∧ (n < (RA rs t p).length ∧ (RA rs t p).getD n 0 < 20000) ∧ ¬ ∃ h, h < L.length ∧ alk n (lkk L t h) (RA rs t r) ∧ n < (lkk L t h).length ∧ (lkk L t h).getD n 0 = (RA rs t p).getD n 0) ∨
   ((∃ h, h < L.length ∧ alk n (lkk L t h) (RA rs t r) ∧ (n < (lkk L t h).length ∧ (lkk L t h).getD n 0 < 20000)) ∧ (∀ h, h < L.length → alk n (lkk L t h) (RA rs t r) → (n < (lkk L t h).length ∧ (lkk L t h).getD n 0 < 20000)) ∧ ¬ ∃ p, p < rs.length ∧ alk n (RA rs t p) (RA rs t r) ∧ (n < (RA rs t p).length ∧ (RA rs t p).getD n 0 < 20000)))
def CxC (L : List Hy) (rs : List (List Ac)) (t : Nat) (g : Gx) : Prop := OkL L ∧ LkC t L g ∧ g 33 9 = (L.length : Int) ∧ RwC rs g ∧ OkP rs ∧ t < 6
theorem RA_len {rs : List (List Ac)} (t : Nat) {p : Nat} (h : OkP rs) : (RA rs t p).length = (rs.getD p []).length ∧ (RA rs t p).length ≤ 27 := by
  unfold RA
  rw [List.length_map]
  refine ⟨rfl, ?_⟩
  rw [List.getD_eq_getElem?_getD]
  cases e : rs[p]? with
  | none => simp
  | some x => exact (h.2.2 x (List.mem_of_getElem? e)).1
theorem RA_at {rs : List (List Ac)} {t p i : Nat} (h : OkP rs) (ht : t < 6) (hi : i < (RA rs t p).length) : ∃ a, (rs.getD p [])[i]? = some a ∧ (∀ d, (RA rs t p).getD i d = actv t a) ∧ (a.1 = 33 ∨ a.1 = 63) ∧ 0 ≤ a.2.1 ∧ a.2.1 ≤ 5 ∧ 0 ≤ a.2.2 ∧ a.2.2 ≤ 25 := by
  have hi2 : i < (rs.getD p []).length := by rw [← (RA_len t h).1]; exact hi
  have e := List.getElem?_eq_getElem hi2
  refine ⟨_, e, fun d => ?_, ?_⟩
  · unfold RA
    rw [List.getD_eq_getElem?_getD, List.getElem?_map, e]
    rfl
  · have hx : rs.getD p [] ∈ rs := by
      rw [List.getD_eq_getElem?_getD]
      cases e2 : rs[p]? with
      | none =>
        rw [List.getD_eq_getElem?_getD, e2] at hi2
        simp at hi2
      | some x => exact List.mem_of_getElem? e2
    exact (h.2.2 _ hx).2 _ (List.mem_of_getElem? e)
theorem actv_b {t : Nat} (ht : t < 6) {a : Ac} (h : (a.1 = 33 ∨ a.1 = 63) ∧ 0 ≤ a.2.1 ∧ a.2.1 ≤ 5 ∧ 0 ≤ a.2.2 ∧ a.2.2 ≤ 25) : (a.1 = 33 → 10000 ≤ actv t a ∧ actv t a < 20000) ∧ (¬ a.1 = 33 → 20000 ≤ actv t a ∧ actv t a < 30000) := by
  unfold actv
  constructor
  · intro e; rw [if_pos e]; omega
  · intro e; rw [if_neg e]; omega
theorem rowC {L : List Hy} {rs : List (List Ac)} {t : Nat} {g : Gx} (cx : CxC L rs t g) {p : Nat} (hp : p < rs.length) : Pg_length (p : Int) g = ((RA rs t p).length : Int) ∧ ∀ i : Nat, i < (RA rs t p).length → Pg_act (p : Int) (i : Int) (t : Int) g = (RA rs t p).getD i 0 ∧ (rat g 71 80 (wr ((rat g 77 9 (p : Int)) + (i : Int))) = 10000 ↔ (RA rs t p).getD i 0 < 20000) := by
  obtain ⟨-, -, -, ⟨w1, w2, w3⟩, ok, ht⟩ := cx
  have l8 := ok.1
  have e77 : ∀ q : Nat, q ≤ rs.length → rat g 77 9 (q : Int) = (sttP rs q : Int) := fun q hq => by rw [rat_in (by omega) (by omega), Int.toNat_natCast, w2 q hq]
  have es : sttP rs (p + 1) = sttP rs p + (rs.getD p []).length := rfl
  obtain ⟨r1, r2⟩ := RA_len t (p := p) ok
  have sl : sttP rs p ≤ 30 := by
    have : ∀ q, q ≤ rs.length → sttP rs q ≤ rs.flatten.length := by
      intro q hq
      have mono : ∀ d q, sttP rs q ≤ sttP rs (q + d) := by
        intro d
        induction d with
        | zero => intro q; exact Nat.le_refl _
        | succ d ih => intro q; have := ih q; rw [← Nat.add_assoc, sttP]; omega
      have := mono (rs.length - q) q
      rw [show q + (rs.length - q) = rs.length by omega, stt_all] at this
      exact this
    have := this p (by omega)
    have := ok.2.1
    omega
  constructor
  · unfold Pg_length
    rw [wr_id (x := (p : Int) + 1) (by omega) (by omega), show (p : Int) + 1 = ((p + 1 : Nat) : Int) by omega, e77 _ (by omega), e77 _ (by omega), es, wr_id (by omega) (by omega), r1]
    omega
  · intro i hi
    obtain ⟨a, a1, a2, a3⟩ := RA_at ok ht hi
    obtain ⟨d1, d2, d3⟩ := w3 p hp i a a1
    have fl := (List.getElem?_eq_some_iff.mp (stt_flat rs p i a hp a1)).1
    have f30 := ok.2.1
    have ew : wr ((sttP rs p : Int) + (i : Int)) = ((sttP rs p + i : Nat) : Int) := by rw [wr_id (by omega) (by omega)]; omega
    have b := actv_b ht a3
    unfold Pg_act
    rw [e77 _ (by omega), ew, rat_in (c := 71) (by omega) (by omega), rat_in (c := 73) (by omega) (by omega), rat_in (c := 75) (by omega) (by omega), Int.toNat_natCast, d1, d2, d3, lett_eq, a2]
    by_cases c : a.1 = 33
    · rw [if_pos c, if_neg (fun h9 => h9 rfl)]
      refine ⟨?_, ⟨fun _ => (b.1 c).2, fun _ => rfl⟩⟩
      unfold actv
      rw [if_pos c]
      simp (disch := omega) only [wr_id]
      omega
    · rw [if_neg c, if_pos (by decide)]
      refine ⟨?_, ⟨fun h9 => absurd h9 (by decide), fun h9 => by have := b.2 c; omega⟩⟩
      unfold actv
      rw [if_neg c]
      simp (disch := omega) only [wr_id]
      omega
theorem pre_iff {n v : Nat} {x y : List Int} (hy : n ≤ y.length) (h1 : v ≤ min n x.length) (h2 : ∀ i, i < v → x.getD i 0 = y.getD i 0) (h3 : v = min n x.length ∨ x.getD v 0 ≠ y.getD v 0) : v = n ↔ alk n x y := by
  constructor
  · intro e
    exact ⟨by omega, hy, fun i hi => h2 i (by omega)⟩
  · rintro ⟨a, b, c⟩
    rcases h3 with h3 | h3
    · omega
    · by_cases e : v < n
      · exact absurd (c v e) h3
      · omega
theorem preR {L : List Hy} {rs : List (List Ac)} {t : Nat} {g : Gx} (cx : CxC L rs t g) {p r n : Nat} (hp : p < rs.length) (hr : r < rs.length) (hn : n ≤ (RA rs t r).length) (c4 : Int) (K : Int → Gx → Option (Int × Gx)) : ∃ v : Nat, Pg_rowsBeginningAs_l30 (r : Int) (n : Int) (t : Int) c4 (p : Int) (imin (n : Int) (Pg_length (p : Int) g)) K fu 0 g = K (v : Int) g ∧ (v = n ↔ alk n (RA rs t p) (RA rs t r)) := by
  obtain ⟨lp1, lp2⟩ := rowC cx hp
  obtain ⟨lr1, lr2⟩ := rowC cx hr
  have ok := cx.2.2.2.2.1
  have b1 := (RA_len t (p := p) ok).2
  have b2 := (RA_len t (p := r) ok).2
  rw [lp1, show imin (n : Int) ((RA rs t p).length : Int) = ((min n (RA rs t p).length : Nat) : Int) by unfold imin; split <;> omega]
  have lp : ∀ (d i fu' : Nat), i + d = min n (RA rs t p).length → d < fu' → (∀ j, j < i → (RA rs t p).getD j 0 = (RA rs t r).getD j 0) → ∃ v : Nat, Pg_rowsBeginningAs_l30 (r : Int) (n : Int) (t : Int) c4 (p : Int) ((min n (RA rs t p).length : Nat) : Int) K fu' (i : Int) g = K (v : Int) g ∧ (v = n ↔ alk n (RA rs t p) (RA rs t r)) := by
    intro d
    induction d with
    | zero =>
      intro i fu' hi hf hall
      obtain ⟨fu', rfl⟩ : ∃ q, fu' = q + 1 := ⟨fu' - 1, by omega⟩
      exact ⟨i, by rw [Pg_rowsBeginningAs_l30, if_pos (by omega)], pre_iff hn (by omega) hall (Or.inl (by omega))⟩
    | succ d ih =>
      intro i fu' hi hf hall
      obtain ⟨fu', rfl⟩ : ∃ q, fu' = q + 1 := ⟨fu' - 1, by omega⟩
      rw [Pg_rowsBeginningAs_l30, if_neg (by omega), (lp2 i (by omega)).1, (lr2 i (by omega)).1, wr_id (by omega) (by omega), show (i : Int) + 1 = ((i + 1 : Nat) : Int) by omega]
      by_cases c : (RA rs t p).getD i 0 = (RA rs t r).getD i 0
      · rw [if_neg (fun h9 => h9 c)]
        exact ih (i + 1) fu' (by omega) (by omega) (fun j hj => by
          by_cases e : j = i
          · rw [e]; exact c
          · exact hall j (by omega))
      · rw [if_pos c]
        exact ⟨i, rfl, pre_iff hn (by omega) hall (Or.inr c)⟩
  have := lp (min n (RA rs t p).length) 0 fu (by omega) (Nat.lt_of_le_of_lt (show min n (RA rs t p).length ≤ 27 by omega) (fu_big _ (by decide))) (fun j hj => by omega)
  exact this
theorem lookC {L : List Hy} {rs : List (List Ac)} {t : Nat} {g : Gx} (cx : CxC L rs t g) {h : Nat} (hh : h < L.length) : Lk_length (h : Int) g = ((lkk L t h).length : Int) ∧ (∀ i : Nat, i < (lkk L t h).length → Lk_act (h : Int) (i : Int) g = (lkk L t h).getD i 0) ∧ ∀ n : Nat, Bl (Lk_gets (h : Int) (n : Int) g) (n < (lkk L t h).length ∧ 20000 ≤ (lkk L t h).getD n 0) ∧ Bl (Lk_says (h : Int) (n : Int) g) (n < (lkk L t h).length ∧ (lkk L t h).getD n 0 < 20000) := by
  obtain ⟨hL, hk, -⟩ := cx
  obtain ⟨a, b⟩ := look_c hL hk hh
  refine ⟨a, b, fun n => ?_⟩
  have a' : rat g 54 30 (h : Int) = ((lkk L t h).length : Int) := a
  unfold Lk_gets Lk_says
  rw [a']
  by_cases c : (lkk L t h).length ≤ n
  · simp only [if_pos (show ((lkk L t h).length : Int) ≤ (n : Int) by omega)]
    exact ⟨Or.inr ⟨rfl, fun h9 => by omega⟩, Or.inr ⟨rfl, fun h9 => by omega⟩⟩
  · have b' : rat g 52 720 (wr ((wr ((h : Int) * 24)) + (n : Int))) = (lkk L t h).getD n 0 := b n (by omega)
    simp only [if_neg (show ¬ ((lkk L t h).length : Int) ≤ (n : Int) by omega)]
    rw [b']
    by_cases c2 : 20000 ≤ (lkk L t h).getD n 0
    · have c3 : ¬ (lkk L t h).getD n 0 < 20000 := by omega
      simp only [c2, c3, if_true, if_false]
      exact ⟨Or.inl ⟨rfl, by omega, trivial⟩, Or.inr ⟨rfl, fun h9 => h9.2⟩⟩
    · have c3 : (lkk L t h).getD n 0 < 20000 := by omega
      simp only [c2, c3, if_true, if_false]
      exact ⟨Or.inr ⟨rfl, fun h9 => h9.2⟩, Or.inl ⟨rfl, by omega, trivial⟩⟩
theorem preL {L : List Hy} {rs : List (List Ac)} {t : Nat} {g : Gx} (cx : CxC L rs t g) {h r n : Nat} (hh : h < L.length) (hr : r < rs.length) (hn : n ≤ (RA rs t r).length) (c4 : Int) (K : Int → Gx → Option (Int × Gx)) : ∃ v : Nat, Pg_looksBeginningAs_l36 (r : Int) (n : Int) (t : Int) c4 (h : Int) (imin (n : Int) (Lk_length (h : Int) g)) K fu 0 g = K (v : Int) g ∧ (v = n ↔ alk n (lkk L t h) (RA rs t r)) := by
  obtain ⟨lp1, lp2, -⟩ := lookC cx hh
  obtain ⟨lr1, lr2⟩ := rowC cx hr
  have ok := cx.2.2.2.2.1
  have b2 := (RA_len t (p := r) ok).2
  rw [lp1, show imin (n : Int) ((lkk L t h).length : Int) = ((min n (lkk L t h).length : Nat) : Int) by unfold imin; split <;> omega]
  have lp : ∀ (d i fu' : Nat), i + d = min n (lkk L t h).length → d < fu' → (∀ j, j < i → (lkk L t h).getD j 0 = (RA rs t r).getD j 0) → ∃ v : Nat, Pg_looksBeginningAs_l36 (r : Int) (n : Int) (t : Int) c4 (h : Int) ((min n (lkk L t h).length : Nat) : Int) K fu' (i : Int) g = K (v : Int) g ∧ (v = n ↔ alk n (lkk L t h) (RA rs t r)) := by
    intro d
    induction d with
    | zero =>
      intro i fu' hi hf hall
      obtain ⟨fu', rfl⟩ : ∃ q, fu' = q + 1 := ⟨fu' - 1, by omega⟩
      exact ⟨i, by rw [Pg_looksBeginningAs_l36, if_pos (by omega)], pre_iff hn (by omega) hall (Or.inl (by omega))⟩
    | succ d ih =>
      intro i fu' hi hf hall
      obtain ⟨fu', rfl⟩ : ∃ q, fu' = q + 1 := ⟨fu' - 1, by omega⟩
      rw [Pg_looksBeginningAs_l36, if_neg (by omega), lp2 i (by omega), (lr2 i (by omega)).1, wr_id (by omega) (by omega), show (i : Int) + 1 = ((i + 1 : Nat) : Int) by omega]
      by_cases c : (lkk L t h).getD i 0 = (RA rs t r).getD i 0
      · rw [if_neg (fun h9 => h9 c)]
        exact ih (i + 1) fu' (by omega) (by omega) (fun j hj => by
          by_cases e : j = i
          · rw [e]; exact c
          · exact hall j (by omega))
      · rw [if_pos c]
        exact ⟨i, rfl, pre_iff hn (by omega) hall (Or.inr c)⟩
  exact lp (min n (lkk L t h).length) 0 fu (by omega) (Nat.lt_of_le_of_lt (show min n (lkk L t h).length ≤ 27 by omega) (fu_big _ (by decide))) (fun j hj => by omega)
/-- a mask of those below N of whom P holds -/
def Msk (N : Nat) (P : Nat → Prop) (m : Nat) : Prop := m < 1073741824 ∧ ∀ y, m.testBit y = true ↔ (y < N ∧ P y)
theorem msk_y {P : Nat → Prop} {m k : Nat} (hb : ∀ y, m.testBit y = true ↔ (y < k ∧ P y)) (h : P k) : ∀ y, (m ||| 2 ^ k).testBit y = true ↔ (y < k + 1 ∧ P y) := fun y => by
  rw [tb_or1, hb y]
  constructor
  · rintro (⟨a, b⟩ | rfl)
    · exact ⟨by omega, b⟩
    · exact ⟨by omega, h⟩
  · rintro ⟨a, b⟩
    by_cases e : y = k
    · exact Or.inr e
    · exact Or.inl ⟨by omega, b⟩
theorem msk_n {P : Nat → Prop} {m k : Nat} (hb : ∀ y, m.testBit y = true ↔ (y < k ∧ P y)) (h : ¬ P k) : ∀ y, m.testBit y = true ↔ (y < k + 1 ∧ P y) := fun y => by
  rw [hb y]
  constructor
  · rintro ⟨a, b⟩; exact ⟨by omega, b⟩
  · rintro ⟨a, b⟩
    by_cases e : y = k
    · subst e; exact absurd b h
    · exact ⟨by omega, b⟩
theorem mskRw {L : List Hy} {rs : List (List Ac)} {t : Nat} {g : Gx} (cx : CxC L rs t g) {r n : Nat} (hr : r < rs.length) (hn : n ≤ (RA rs t r).length) : ∃ m : Nat, Pg_rowsBeginningAs (r : Int) (n : Int) (t : Int) g = some ((m : Int), g) ∧ Msk rs.length (fun p => alk n (RA rs t p) (RA rs t r)) m := by
  have w1 := cx.2.2.2.1.1
  have l8 := cx.2.2.2.2.1.1
  unfold Pg_rowsBeginningAs
  have lp : ∀ (d k fu' m : Nat), k + d = rs.length → d < fu' → m < 1073741824 → (∀ y, m.testBit y = true ↔ (y < k ∧ alk n (RA rs t y) (RA rs t r))) → ∃ m' : Nat, Pg_rowsBeginningAs_l6 (r : Int) (n : Int) (t : Int) (fun x3 g4 => some (x3, g4)) fu' (m : Int) (k : Int) g = some ((m' : Int), g) ∧ Msk rs.length (fun p => alk n (RA rs t p) (RA rs t r)) m' := by
    intro d
    induction d with
    | zero =>
      intro k fu' m hk hf hm hb
      obtain ⟨fu', rfl⟩ : ∃ q, fu' = q + 1 := ⟨fu' - 1, by omega⟩
      obtain rfl : k = rs.length := by omega
      exact ⟨m, by rw [Pg_rowsBeginningAs_l6, w1, if_pos (by omega)], hm, hb⟩
    | succ d ih =>
      intro k fu' m hk hf hm hb
      obtain ⟨fu', rfl⟩ : ∃ q, fu' = q + 1 := ⟨fu' - 1, by omega⟩
      rw [Pg_rowsBeginningAs_l6, w1, if_neg (by omega)]
      obtain ⟨v, v1, v2⟩ := preR cx (show k < rs.length by omega) hr hn (m : Int) (fun x1 g2 => if ¬ x1 = (n : Int) then Pg_rowsBeginningAs_l6 (r : Int) (n : Int) (t : Int) (fun x3 g4 => some (x3, g4)) fu' (jor (m : Int) 0) (wr ((k : Int) + 1)) g2 else Pg_rowsBeginningAs_l6 (r : Int) (n : Int) (t : Int) (fun x3 g4 => some (x3, g4)) fu' (jor (m : Int) (jshl 1 (k : Int))) (wr ((k : Int) + 1)) g2)
      rw [v1, wr_id (by omega) (by omega), show (k : Int) + 1 = ((k + 1 : Nat) : Int) by omega, jor_00 hm, (or_30 hm (show k < 30 by omega)).1]
      by_cases c : v = n
      · rw [if_neg (fun h9 => h9 (by omega))]
        exact ih (k + 1) fu' _ (by omega) (by omega) (or_30 hm (by omega)).2 (msk_y hb (v2.mp c))
      · rw [if_pos (by omega)]
        exact ih (k + 1) fu' m (by omega) (by omega) hm (msk_n hb (fun h9 => c (v2.mpr h9)))
  exact lp rs.length 0 fu 0 (by omega) (Nat.lt_of_le_of_lt l8 (fu_big _ (by decide))) (by decide) (fun y => by rw [Nat.zero_testBit]; simp)
theorem mskLk {L : List Hy} {rs : List (List Ac)} {t : Nat} {g : Gx} (cx : CxC L rs t g) {r n : Nat} (hr : r < rs.length) (hn : n ≤ (RA rs t r).length) : ∃ m : Nat, Pg_looksBeginningAs (r : Int) (n : Int) (t : Int) g = some ((m : Int), g) ∧ Msk L.length (fun h => alk n (lkk L t h) (RA rs t r)) m := by
  have hz : Hi_size g = (L.length : Int) := cx.2.2.1
  have h30 := cx.1.2.1
  unfold Pg_looksBeginningAs
  have lp : ∀ (d k fu' m : Nat), k + d = L.length → d < fu' → m < 1073741824 → (∀ y, m.testBit y = true ↔ (y < k ∧ alk n (lkk L t y) (RA rs t r))) → ∃ m' : Nat, Pg_looksBeginningAs_l6 (r : Int) (n : Int) (t : Int) (fun x3 g4 => some (x3, g4)) fu' (m : Int) (k : Int) g = some ((m' : Int), g) ∧ Msk L.length (fun h => alk n (lkk L t h) (RA rs t r)) m' := by
    intro d
    induction d with
    | zero =>
      intro k fu' m hk hf hm hb
      obtain ⟨fu', rfl⟩ : ∃ q, fu' = q + 1 := ⟨fu' - 1, by omega⟩
      obtain rfl : k = L.length := by omega
      exact ⟨m, by rw [Pg_looksBeginningAs_l6, hz, if_pos (by omega)], hm, hb⟩
    | succ d ih =>
      intro k fu' m hk hf hm hb
      obtain ⟨fu', rfl⟩ : ∃ q, fu' = q + 1 := ⟨fu' - 1, by omega⟩
      rw [Pg_looksBeginningAs_l6, hz, if_neg (by omega)]
      obtain ⟨v, v1, v2⟩ := preL cx (show k < L.length by omega) hr hn (m : Int) (fun x1 g2 => if ¬ x1 = (n : Int) then Pg_looksBeginningAs_l6 (r : Int) (n : Int) (t : Int) (fun x3 g4 => some (x3, g4)) fu' (jor (m : Int) 0) (wr ((k : Int) + 1)) g2 else Pg_looksBeginningAs_l6 (r : Int) (n : Int) (t : Int) (fun x3 g4 => some (x3, g4)) fu' (jor (m : Int) (jshl 1 (k : Int))) (wr ((k : Int) + 1)) g2)
      rw [v1, wr_id (by omega) (by omega), show (k : Int) + 1 = ((k + 1 : Nat) : Int) by omega, jor_00 hm, (or_30 hm (show k < 30 by omega)).1]
      by_cases c : v = n
      · rw [if_neg (fun h9 => h9 (by omega))]
        exact ih (k + 1) fu' _ (by omega) (by omega) (or_30 hm (by omega)).2 (msk_y hb (v2.mp c))
      · rw [if_pos (by omega)]
        exact ih (k + 1) fu' m (by omega) (by omega) hm (msk_n hb (fun h9 => c (v2.mpr h9)))
  exact lp L.length 0 fu 0 (by omega) (Nat.lt_of_le_of_lt h30 (fu_big _ (by decide))) (by decide) (fun y => by rw [Nat.zero_testBit]; simp)
