/-! A program's rows beside looks: the reference; fits, breach. Own text. -/
def CxR (L : List Hy) (rs : List (List Ac)) (t : Nat) (g : Gx) : Prop := OkL L ∧ LkR L g ∧ g 92 26 = (L.length : Int) ∧ RwR rs g ∧ OkP rs ∧ t < 6
theorem rowAtR {L : List Hy} {rs : List (List Ac)} {t : Nat} {g : Gx} (cx : CxR L rs t g) {p : Nat} (hp : p < rs.length) {i : Nat} (hi : i < 100) : Md_rowAt (t : Int) (p : Int) (i : Int) g = some ((RA rs t p).getD i (-1), g) := by
  obtain ⟨-, -, -, ⟨w1, w2⟩, ok, ht⟩ := cx
  have l8 := ok.1
  obtain ⟨r1, r2⟩ := RA_len t (p := p) ok
  have hx := List.getElem?_eq_getElem hp
  have eg : rs.getD p [] = rs[p] := by rw [List.getD_eq_getElem?_getD, hx]; rfl
  obtain ⟨d1, d2⟩ := w2 p _ hx
  unfold Md_rowAt
  rw [if_pos (by omega), Int.toNat_natCast, d1, ← eg, ← r1]
  by_cases c : i < (RA rs t p).length
  · obtain ⟨a, a1, a2, a3⟩ := RA_at ok ht c
    obtain ⟨e1, e2, e3⟩ := d2 i a (by rw [← eg]; exact a1)
    rw [if_pos (by omega), a2]
    have ew : wr ((wr (30 * (p : Int))) + (i : Int)) = ((30 * p + i : Nat) : Int) := by simp (disch := omega) only [wr_id]; omega
    have ci : 0 ≤ ((30 * p + i : Nat) : Int) ∧ ((30 * p + i : Nat) : Int) < 240 := by omega
    rw [ew]
    simp only [if_pos ci, Int.toNat_natCast]
    rw [e1, e2, e3]
    unfold actv
    by_cases c2 : a.1 = 33
    · rw [if_neg (fun h9 => h9 c2), if_pos c2]
      congr 2
      simp (disch := omega) only [wr_id]
    · rw [if_pos c2, if_neg c2]
      congr 2
      simp (disch := omega) only [wr_id]
  · rw [if_neg (by omega), List.getD_eq_getElem?_getD, List.getElem?_eq_none (by omega)]
    rfl
def Rng (x : List Int) : Prop := ∀ i, i < x.length → ∀ d, 10000 ≤ x.getD i d ∧ x.getD i d < 30000
theorem rngL {L : List Hy} (hL : OkL L) {t k : Nat} (hk : k < L.length) : Rng (lkk L t k) := fun i hi d => lk_pos hL hk hi d
theorem rngR {rs : List (List Ac)} (ok : OkP rs) {t p : Nat} (ht : t < 6) : Rng (RA rs t p) := fun i hi d => by
  obtain ⟨a, -, a2, a3⟩ := RA_at ok ht hi
  have b := actv_b ht a3
  rw [a2]
  by_cases c : a.1 = 33
  · have := b.1 c; omega
  · have := b.2 c; omega
theorem gd_eq {x : List Int} {n : Nat} (h : n < x.length) (d e : Int) : x.getD n d = x.getD n e := by
  rw [List.getD_eq_getElem?_getD, List.getD_eq_getElem?_getD, List.getElem?_eq_getElem h]; rfl
theorem gd_out {x : List Int} {n : Nat} (h : x.length ≤ n) (d : Int) : x.getD n d = d := by
  rw [List.getD_eq_getElem?_getD, List.getElem?_eq_none h]; rfl
theorem sayX {x : List Int} (h : Rng x) (n : Nat) : (10000 ≤ x.getD n (-1) ∧ x.getD n (-1) ≤ 19999) ↔ (n < x.length ∧ x.getD n 0 < 20000) := by
  by_cases c : n < x.length
  · rw [gd_eq c (-1) 0]
    have := h n c 0
    omega
  · rw [gd_out (by omega)]
    omega
theorem getX {x : List Int} {n : Nat} : (20000 ≤ x.getD n (-1)) ↔ (n < x.length ∧ 20000 ≤ x.getD n 0) := by
  by_cases c : n < x.length
  · rw [gd_eq c (-1) 0]
    omega
  · rw [gd_out (by omega)]
    omega
theorem eqX {x : List Int} {n : Nat} {a : Int} (ha : 10000 ≤ a) : (x.getD n (-1) = a) ↔ (n < x.length ∧ x.getD n 0 = a) := by
  by_cases c : n < x.length
  · rw [gd_eq c (-1) 0]
    exact ⟨fun h => ⟨c, h⟩, fun h => h.2⟩
  · rw [gd_out (by omega)]
    omega
theorem alkR {L : List Hy} {rs : List (List Ac)} {t : Nat} {g : Gx} (cx : CxR L rs t g) {r h n : Nat} (hr : r < rs.length) (hh : h < L.length) (hn : n ≤ 24) : ∃ x, Md_alike (t : Int) (r : Int) (h : Int) (n : Int) g = some (x, g) ∧ Bl x (alk n (lkk L t h) (RA rs t r)) := by
  have cx0 := cx
  obtain ⟨hL, hk, -, ⟨w1, w2⟩, ok, ht⟩ := cx
  have l8 := ok.1
  have h30 := hL.2.1
  obtain ⟨r1, r2⟩ := RA_len t (p := r) ok
  have hx := List.getElem?_eq_getElem hr
  have eg : rs.getD r [] = rs[r] := by rw [List.getD_eq_getElem?_getD, hx]; rfl
  have d1 := (w2 r _ hx).1
  obtain ⟨k1, k2⟩ := look_r hL hk ht hh
  have zero : ∀ (K : Int → Gx → Option (Int × Gx)) (i : Int) (fu' : Nat), 0 < fu' → Md_alike_l37 (t : Int) (r : Int) (h : Int) (n : Int) K fu' 0 i g = K 0 g := by
    intro K i fu' hf
    obtain ⟨fu', rfl⟩ : ∃ q, fu' = q + 1 := ⟨fu' - 1, by omega⟩
    rw [Md_alike_l37]
    simp only [if_true]
    split <;> rfl
  unfold Md_alike
  rw [if_pos (by omega), Int.toNat_natCast, d1, ← eg, ← r1, show wr (wr (6 * (h : Int)) + (t : Int)) = ((6 * h + t : Nat) : Int) by simp (disch := omega) only [wr_id]; omega, if_pos (show 0 ≤ ((6 * h + t : Nat) : Int) ∧ ((6 * h + t : Nat) : Int) < 180 by omega), Int.toNat_natCast, k1]
  by_cases c1 : (RA rs t r).length < n
  · rw [if_pos (by omega), zero _ 0 fu (fu_big 0 (by decide)), if_pos (Or.inl rfl)]
    exact ⟨0, rfl, Or.inr ⟨rfl, fun h9 => by omega⟩⟩
  · rw [if_neg (by omega)]
    by_cases c2 : (lkk L t h).length < n
    · rw [if_pos (by omega), zero _ 0 fu (fu_big 0 (by decide)), if_pos (Or.inl rfl)]
      exact ⟨0, rfl, Or.inr ⟨rfl, fun h9 => by omega⟩⟩
    · rw [if_neg (by omega)]
      have lp : ∀ (d i fu' : Nat), i + d = n → d + 1 < fu' → (∀ j, j < i → (lkk L t h).getD j 0 = (RA rs t r).getD j 0) → ∃ x, Md_alike_l37 (t : Int) (r : Int) (h : Int) (n : Int) (fun x7 g8 => if x7 = 0 ∨ x7 = 1 then some (x7, g8) else none) fu' 1 (i : Int) g = some (x, g) ∧ Bl x (alk n (lkk L t h) (RA rs t r)) := by
        intro d
        induction d with
        | zero =>
          intro i fu' hi hf hall
          obtain ⟨fu', rfl⟩ : ∃ q, fu' = q + 1 := ⟨fu' - 1, by omega⟩
          refine ⟨1, by rw [Md_alike_l37, if_pos (by omega), if_pos (Or.inr rfl)], Or.inl ⟨rfl, by omega, by omega, fun j hj => hall j (by omega)⟩⟩
        | succ d ih =>
          intro i fu' hi hf hall
          obtain ⟨fu', rfl⟩ : ∃ q, fu' = q + 1 := ⟨fu' - 1, by omega⟩
          rw [Md_alike_l37, if_neg (by omega), if_neg (show ¬ (1 : Int) = 0 by decide), rowAtR cx0 hr (by omega), ob_eq]
          simp only
          rw [k2 i, ob_eq]
          simp only
          rw [gd_eq (show i < (RA rs t r).length by omega) (-1) 0, gd_eq (show i < (lkk L t h).length by omega) (-1) 0, wr_id (by omega) (by omega), show (i : Int) + 1 = ((i + 1 : Nat) : Int) by omega]
          by_cases c : (RA rs t r).getD i 0 = (lkk L t h).getD i 0
          · rw [if_neg (fun h9 => h9 c)]
            exact ih (i + 1) fu' (by omega) (by omega) (fun j hj => by
              by_cases e : j = i
              · rw [e]; exact c.symm
              · exact hall j (by omega))
          · rw [if_pos c, zero _ _ fu' (by omega), if_pos (Or.inl rfl)]
            exact ⟨0, rfl, Or.inr ⟨rfl, fun h9 => c (h9.2.2 i (by omega)).symm⟩⟩
      exact lp n 0 fu (by omega) (Nat.lt_of_le_of_lt (show n + 1 ≤ 25 by omega) (fu_big _ (by decide))) (fun j hj => by omega)
theorem exS {k : Nat} {P : Nat → Prop} : (∃ p, p < k + 1 ∧ P p) ↔ ((∃ p, p < k ∧ P p) ∨ P k) := by
  constructor
  · rintro ⟨p, a, b⟩
    by_cases e : p = k
    · subst e; exact Or.inr b
    · exact Or.inl ⟨p, by omega, b⟩
  · rintro (⟨p, a, b⟩ | h)
    · exact ⟨p, by omega, b⟩
    · exact ⟨k, by omega, h⟩
theorem alS {k : Nat} {P : Nat → Prop} : (∀ p, p < k + 1 → P p) ↔ ((∀ p, p < k → P p) ∧ P k) := by
  constructor
  · intro h
    exact ⟨fun p hp => h p (by omega), h k (by omega)⟩
  · rintro ⟨a, b⟩ p hp
    by_cases e : p = k
    · subst e; exact b
    · exact a p (by omega)
theorem rcR {L : List Hy} {rs : List (List Ac)} {t : Nat} {g : Gx} (cx : CxR L rs t g) {h n : Nat} (hh : h < L.length) (hn : n ≤ 24) (act : Int) : ∃ x, Md_rowsCan (t : Int) (h : Int) (n : Int) act g = some (x, g) ∧ Bl x (∃ p, p < rs.length ∧ alk n (lkk L t h) (RA rs t p) ∧ (RA rs t p).getD n (-1) = act) := by
  have w1 := cx.2.2.2.1.1
  have l8 := cx.2.2.2.2.1.1
  unfold Md_rowsCan
  have lp : ∀ (d k fu' : Nat) (v : Int), k + d = rs.length → d < fu' → Bl v (∃ p, p < k ∧ alk n (lkk L t h) (RA rs t p) ∧ (RA rs t p).getD n (-1) = act) → ∃ x, Md_rowsCan_l6 (t : Int) (h : Int) (n : Int) act (fun x3 g4 => if x3 = 0 ∨ x3 = 1 then some (x3, g4) else none) fu' v (k : Int) g = some (x, g) ∧ Bl x (∃ p, p < rs.length ∧ alk n (lkk L t h) (RA rs t p) ∧ (RA rs t p).getD n (-1) = act) := by
    intro d
    induction d with
    | zero =>
      intro k fu' v hk hf hb
      obtain ⟨fu', rfl⟩ : ∃ q, fu' = q + 1 := ⟨fu' - 1, by omega⟩
      obtain rfl : k = rs.length := by omega
      refine ⟨v, ?_, hb⟩
      rw [Md_rowsCan_l6, w1, if_pos (by omega)]
      rcases hb with ⟨e, -⟩ | ⟨e, -⟩
      · rw [if_pos (Or.inr e)]
      · rw [if_pos (Or.inl e)]
    | succ d ih =>
      intro k fu' v hk hf hb
      obtain ⟨fu', rfl⟩ : ∃ q, fu' = q + 1 := ⟨fu' - 1, by omega⟩
      rw [Md_rowsCan_l6, w1, if_neg (by omega), wr_id (by omega) (by omega), show (k : Int) + 1 = ((k + 1 : Nat) : Int) by omega]
      by_cases c : v = 0
      · rw [if_neg (fun h9 => h9 c)]
        have hno : ¬ ∃ p, p < k ∧ alk n (lkk L t h) (RA rs t p) ∧ (RA rs t p).getD n (-1) = act := fun h9 => (hb.nz.mpr h9) c
        obtain ⟨x, x1, x2⟩ := alkR cx (r := k) (by omega) hh hn
        rw [x1, ob_eq]
        simp only
        by_cases c2 : x = 0
        · rw [if_pos c2]
          exact ih (k + 1) fu' 0 (by omega) (by omega) (Or.inr ⟨rfl, fun h9 => (exS.mp h9).elim hno (fun h8 => (x2.nz.mpr h8.1) c2)⟩)
        · rw [if_neg c2, rowAtR cx (by omega) (by omega), ob_eq]
          simp only
          by_cases c3 : (RA rs t k).getD n (-1) = act
          · rw [if_neg (fun h9 => h9 c3)]
            exact ih (k + 1) fu' 1 (by omega) (by omega) (Or.inl ⟨rfl, k, by omega, x2.nz.mp c2, c3⟩)
          · rw [if_pos c3]
            exact ih (k + 1) fu' 0 (by omega) (by omega) (Or.inr ⟨rfl, fun h9 => (exS.mp h9).elim hno (fun h8 => c3 h8.2)⟩)
      · rw [if_pos c]
        exact ih (k + 1) fu' 1 (by omega) (by omega) (Or.inl ⟨rfl, exS.mpr (Or.inl (hb.nz.mp c))⟩)
  exact lp rs.length 0 fu 0 (by omega) (Nat.lt_of_le_of_lt l8 (fu_big _ (by decide))) (Or.inr ⟨rfl, fun ⟨p, a, _⟩ => by omega⟩)
theorem lcR {L : List Hy} {rs : List (List Ac)} {t : Nat} {g : Gx} (cx : CxR L rs t g) {r n : Nat} (hr : r < rs.length) (hn : n ≤ 24) (act : Int) : ∃ x, Md_looksCan (t : Int) (r : Int) (n : Int) act g = some (x, g) ∧ Bl x (∃ o, o < L.length ∧ alk n (lkk L t o) (RA rs t r) ∧ (lkk L t o).getD n (-1) = act) := by
  have hz := cx.2.2.1
  have h30 := cx.1.2.1
  unfold Md_looksCan
  have lp : ∀ (d k fu' : Nat) (v : Int), k + d = L.length → d < fu' → Bl v (∃ o, o < k ∧ alk n (lkk L t o) (RA rs t r) ∧ (lkk L t o).getD n (-1) = act) → ∃ x, Md_looksCan_l6 (t : Int) (r : Int) (n : Int) act (fun x3 g4 => if x3 = 0 ∨ x3 = 1 then some (x3, g4) else none) fu' v (k : Int) g = some (x, g) ∧ Bl x (∃ o, o < L.length ∧ alk n (lkk L t o) (RA rs t r) ∧ (lkk L t o).getD n (-1) = act) := by
    intro d
    induction d with
    | zero =>
      intro k fu' v hk hf hb
      obtain ⟨fu', rfl⟩ : ∃ q, fu' = q + 1 := ⟨fu' - 1, by omega⟩
      obtain rfl : k = L.length := by omega
      refine ⟨v, ?_, hb⟩
      rw [Md_looksCan_l6, hz, if_pos (by omega)]
      rcases hb with ⟨e, -⟩ | ⟨e, -⟩
      · rw [if_pos (Or.inr e)]
      · rw [if_pos (Or.inl e)]
    | succ d ih =>
      intro k fu' v hk hf hb
      obtain ⟨fu', rfl⟩ : ∃ q, fu' = q + 1 := ⟨fu' - 1, by omega⟩
      rw [Md_looksCan_l6, hz, if_neg (by omega), wr_id (by omega) (by omega), show (k : Int) + 1 = ((k + 1 : Nat) : Int) by omega]
      by_cases c : v = 0
      · rw [if_neg (fun h9 => h9 c)]
        have hno : ¬ ∃ o, o < k ∧ alk n (lkk L t o) (RA rs t r) ∧ (lkk L t o).getD n (-1) = act := fun h9 => (hb.nz.mpr h9) c
        obtain ⟨x, x1, x2⟩ := alkR cx hr (h := k) (by omega) hn
        rw [x1, ob_eq]
        simp only
        by_cases c2 : x = 0
        · rw [if_pos c2]
          exact ih (k + 1) fu' 0 (by omega) (by omega) (Or.inr ⟨rfl, fun h9 => (exS.mp h9).elim hno (fun h8 => (x2.nz.mpr h8.1) c2)⟩)
        · rw [if_neg c2, (look_r cx.1 cx.2.1 cx.2.2.2.2.2 (show k < L.length by omega)).2 n, ob_eq]
          simp only
          by_cases c3 : (lkk L t k).getD n (-1) = act
          · rw [if_neg (fun h9 => h9 c3)]
            exact ih (k + 1) fu' 1 (by omega) (by omega) (Or.inl ⟨rfl, k, by omega, x2.nz.mp c2, c3⟩)
          · rw [if_pos c3]
            exact ih (k + 1) fu' 0 (by omega) (by omega) (Or.inr ⟨rfl, fun h9 => (exS.mp h9).elim hno (fun h8 => c3 h8.2)⟩)
      · rw [if_pos c]
        exact ih (k + 1) fu' 1 (by omega) (by omega) (Or.inl ⟨rfl, exS.mpr (Or.inl (hb.nz.mp c))⟩)
  exact lp L.length 0 fu 0 (by omega) (Nat.lt_of_le_of_lt h30 (fu_big _ (by decide))) (Or.inr ⟨rfl, fun ⟨p, a, _⟩ => by omega⟩)
abbrev sy (a : Int) : Prop := 10000 ≤ a ∧ a ≤ 19999
theorem in_sy (a : Int) : (¬ Md_in a 10000 19999 = 0) ↔ sy a := by
  rw [in_iff]
  exact Classical.not_not
def Rcn (L : List Hy) (rs : List (List Ac)) (t h n : Nat) (a : Int) : Prop := ∃ p, p < rs.length ∧ alk n (lkk L t h) (RA rs t p) ∧ (RA rs t p).getD n (-1) = a
def Lcn (L : List Hy) (rs : List (List Ac)) (t r n : Nat) (a : Int) : Prop := ∃ o, o < L.length ∧ alk n (lkk L t o) (RA rs t r) ∧ (lkk L t o).getD n (-1) = a
theorem ft1 {L : List Hy} {rs : List (List Ac)} {t : Nat} {g : Gx} (cx : CxR L rs t g) {r h n : Nat} (hr : r < rs.length) (hh : h < L.length) (hn : n ≤ 24) (K : Int → Int → Int → Gx → Option (Int × Gx)) : ∀ (d k fu' : Nat) (v5 v6 v7 : Int), k + d = L.length → d < fu' → Bl v5 (∀ o, o < k → (alk n (lkk L t o) (RA rs t r) → (lkk L t o).getD n (-1) < 20000 ∨ Rcn L rs t h n ((lkk L t o).getD n (-1)))) → Bl v6 (∃ o, o < k ∧ alk n (lkk L t o) (RA rs t r) ∧ sy ((lkk L t o).getD n (-1))) → Bl v7 (∃ o, o < k ∧ alk n (lkk L t o) (RA rs t r) ∧ ¬ sy ((lkk L t o).getD n (-1))) → ∃ x y z, Md_fitsAt_l12 (t : Int) (r : Int) (h : Int) (n : Int) K fu' v5 v6 v7 (k : Int) g = K x y z g ∧ Bl x (∀ o, o < L.length → (alk n (lkk L t o) (RA rs t r) → (lkk L t o).getD n (-1) < 20000 ∨ Rcn L rs t h n ((lkk L t o).getD n (-1)))) ∧ Bl y (∃ o, o < L.length ∧ alk n (lkk L t o) (RA rs t r) ∧ sy ((lkk L t o).getD n (-1))) ∧ Bl z (∃ o, o < L.length ∧ alk n (lkk L t o) (RA rs t r) ∧ ¬ sy ((lkk L t o).getD n (-1))) := by
  have hz := cx.2.2.1
  have h30 := cx.1.2.1
  intro d
  induction d with
  | zero =>
    intro k fu' v5 v6 v7 hk hf b5 b6 b7
    obtain ⟨fu', rfl⟩ : ∃ q, fu' = q + 1 := ⟨fu' - 1, by omega⟩
    obtain rfl : k = L.length := by omega
    exact ⟨v5, v6, v7, by rw [Md_fitsAt_l12, hz, if_pos (by omega)], b5, b6, b7⟩
  | succ d ih =>
    intro k fu' v5 v6 v7 hk hf b5 b6 b7
    obtain ⟨fu', rfl⟩ : ∃ q, fu' = q + 1 := ⟨fu' - 1, by omega⟩
    rw [Md_fitsAt_l12, hz, if_neg (by omega), wr_id (by omega) (by omega), show (k : Int) + 1 = ((k + 1 : Nat) : Int) by omega]
    obtain ⟨x, x1, x2⟩ := alkR cx hr (h := k) (by omega) hn
    rw [x1, ob_eq]
    simp only
    by_cases c : x = 0
    · have na : ¬ alk n (lkk L t k) (RA rs t r) := fun h9 => (x2.nz.mpr h9) c
      rw [if_pos c]
      exact ih (k + 1) fu' v5 v6 v7 (by omega) (by omega) (b5.cg ⟨fun h9 => alS.mpr ⟨h9, fun h8 => absurd h8 na⟩, fun h9 => (alS.mp h9).1⟩) (b6.cg ⟨fun h9 => exS.mpr (Or.inl h9), fun h9 => (exS.mp h9).elim id (fun h8 => absurd h8.1 na)⟩) (b7.cg ⟨fun h9 => exS.mpr (Or.inl h9), fun h9 => (exS.mp h9).elim id (fun h8 => absurd h8.1 na)⟩)
    · have ya := x2.nz.mp c
      rw [if_neg c, (look_r cx.1 cx.2.1 cx.2.2.2.2.2 (show k < L.length by omega)).2 n, ob_eq]
      simp only
      generalize hact : (lkk L t k).getD n (-1) = act
      have s := in_sy act
      have y3 : Bl (if ¬ v6 = 0 then 1 else (if (Md_in act 10000 19999) = 0 then 0 else 1)) (∃ o, o < k + 1 ∧ alk n (lkk L t o) (RA rs t r) ∧ sy ((lkk L t o).getD n (-1))) := by
        by_cases e : v6 = 0
        · rw [if_neg (fun h9 => h9 e)]
          have n6 : ¬ ∃ o, o < k ∧ alk n (lkk L t o) (RA rs t r) ∧ sy ((lkk L t o).getD n (-1)) := fun h9 => (b6.nz.mpr h9) e
          by_cases e2 : Md_in act 10000 19999 = 0
          · rw [if_pos e2]
            exact Or.inr ⟨rfl, fun h9 => (exS.mp h9).elim n6 (fun h8 => (s.mpr (by rw [← hact]; exact h8.2)) e2)⟩
          · rw [if_neg e2]
            exact Or.inl ⟨rfl, exS.mpr (Or.inr ⟨ya, by rw [hact]; exact s.mp e2⟩)⟩
        · rw [if_pos e]
          exact Or.inl ⟨rfl, exS.mpr (Or.inl (b6.nz.mp e))⟩
      have y4 : Bl (if ¬ v7 = 0 then 1 else (if ¬ (Md_in act 10000 19999) = 0 then 0 else 1)) (∃ o, o < k + 1 ∧ alk n (lkk L t o) (RA rs t r) ∧ ¬ sy ((lkk L t o).getD n (-1))) := by
        by_cases e : v7 = 0
        · rw [if_neg (fun h9 => h9 e)]
          have n6 : ¬ ∃ o, o < k ∧ alk n (lkk L t o) (RA rs t r) ∧ ¬ sy ((lkk L t o).getD n (-1)) := fun h9 => (b7.nz.mpr h9) e
          by_cases e2 : Md_in act 10000 19999 = 0
          · rw [if_neg (fun h9 => h9 e2)]
            exact Or.inl ⟨rfl, exS.mpr (Or.inr ⟨ya, fun h8 => (s.mpr (by rw [← hact]; exact h8)) e2⟩)⟩
          · rw [if_pos e2]
            exact Or.inr ⟨rfl, fun h9 => (exS.mp h9).elim n6 (fun h8 => h8.2 (by rw [hact]; exact s.mp e2))⟩
        · rw [if_pos e]
          exact Or.inl ⟨rfl, exS.mpr (Or.inl (b7.nz.mp e))⟩
      rw [lett_eq, lett_eq]
      by_cases e5 : v5 = 0
      · rw [if_pos e5]
        exact ih (k + 1) fu' 0 _ _ (by omega) (by omega) (Or.inr ⟨rfl, fun h9 => (b5.nz.mpr (alS.mp h9).1) e5⟩) y3 y4
      · rw [if_neg e5]
        have p5 := b5.nz.mp e5
        by_cases e6 : act < 20000
        · rw [if_pos e6]
          exact ih (k + 1) fu' 1 _ _ (by omega) (by omega) (Or.inl ⟨rfl, alS.mpr ⟨p5, fun _ => Or.inl (by rw [hact]; exact e6)⟩⟩) y3 y4
        · rw [if_neg e6]
          obtain ⟨z, z1, z2⟩ := rcR cx hh hn act
          rw [z1, ob_eq]
          simp only
          by_cases e7 : z = 0
          · rw [if_pos e7]
            refine ih (k + 1) fu' 0 _ _ (by omega) (by omega) (Or.inr ⟨rfl, fun h9 => ?_⟩) y3 y4
            rcases (alS.mp h9).2 ya with h8 | h8
            · rw [hact] at h8; exact e6 h8
            · rw [hact] at h8; exact (z2.nz.mpr h8) e7
          · rw [if_neg e7]
            exact ih (k + 1) fu' 1 _ _ (by omega) (by omega) (Or.inl ⟨rfl, alS.mpr ⟨p5, fun _ => Or.inr (by rw [hact]; exact z2.nz.mp e7)⟩⟩) y3 y4
theorem ft2 {L : List Hy} {rs : List (List Ac)} {t : Nat} {g : Gx} (cx : CxR L rs t g) {r h n : Nat} (hr : r < rs.length) (hh : h < L.length) (hn : n ≤ 24) {F : Prop} (c6 c7 : Int) (K : Int → Int → Gx → Option (Int × Gx)) : ∀ (d k fu' : Nat) (v5 v8 : Int), k + d = rs.length → d < fu' → Bl v5 (F ∧ ∀ p, p < k → (alk n (lkk L t h) (RA rs t p) → ¬ sy ((RA rs t p).getD n (-1)) ∨ Lcn L rs t r n ((RA rs t p).getD n (-1)))) → Bl v8 (∃ p, p < k ∧ alk n (lkk L t h) (RA rs t p) ∧ sy ((RA rs t p).getD n (-1))) → ∃ x y, Md_fitsAt_l144 (t : Int) (r : Int) (h : Int) (n : Int) c6 c7 K fu' v5 v8 (k : Int) g = K x y g ∧ Bl x (F ∧ ∀ p, p < rs.length → (alk n (lkk L t h) (RA rs t p) → ¬ sy ((RA rs t p).getD n (-1)) ∨ Lcn L rs t r n ((RA rs t p).getD n (-1)))) ∧ Bl y (∃ p, p < rs.length ∧ alk n (lkk L t h) (RA rs t p) ∧ sy ((RA rs t p).getD n (-1))) := by
  have w1 := cx.2.2.2.1.1
  have l8 := cx.2.2.2.2.1.1
  intro d
  induction d with
  | zero =>
    intro k fu' v5 v8 hk hf b5 b8
    obtain ⟨fu', rfl⟩ : ∃ q, fu' = q + 1 := ⟨fu' - 1, by omega⟩
    obtain rfl : k = rs.length := by omega
    exact ⟨v5, v8, by rw [Md_fitsAt_l144, w1, if_pos (by omega)], b5, b8⟩
  | succ d ih =>
    intro k fu' v5 v8 hk hf b5 b8
    obtain ⟨fu', rfl⟩ : ∃ q, fu' = q + 1 := ⟨fu' - 1, by omega⟩
    rw [Md_fitsAt_l144, w1, if_neg (by omega), wr_id (by omega) (by omega), show (k : Int) + 1 = ((k + 1 : Nat) : Int) by omega]
    obtain ⟨x, x1, x2⟩ := alkR cx (r := k) (by omega) hh hn
    rw [x1, ob_eq]
    simp only
    by_cases c : x = 0
    · have na : ¬ alk n (lkk L t h) (RA rs t k) := fun h9 => (x2.nz.mpr h9) c
      rw [if_pos c]
      exact ih (k + 1) fu' v5 v8 (by omega) (by omega) (b5.cg ⟨fun h9 => ⟨h9.1, alS.mpr ⟨h9.2, fun h8 => absurd h8 na⟩⟩, fun h9 => ⟨h9.1, (alS.mp h9.2).1⟩⟩) (b8.cg ⟨fun h9 => exS.mpr (Or.inl h9), fun h9 => (exS.mp h9).elim id (fun h8 => absurd h8.1 na)⟩)
    · have ya := x2.nz.mp c
      rw [if_neg c, rowAtR cx (by omega) (by omega), ob_eq]
      simp only
      generalize hact : (RA rs t k).getD n (-1) = act
      have s := in_sy act
      have y3 : Bl (if ¬ v8 = 0 then 1 else (if (Md_in act 10000 19999) = 0 then 0 else 1)) (∃ p, p < k + 1 ∧ alk n (lkk L t h) (RA rs t p) ∧ sy ((RA rs t p).getD n (-1))) := by
        by_cases e : v8 = 0
        · rw [if_neg (fun h9 => h9 e)]
          have n6 : ¬ ∃ p, p < k ∧ alk n (lkk L t h) (RA rs t p) ∧ sy ((RA rs t p).getD n (-1)) := fun h9 => (b8.nz.mpr h9) e
          by_cases e2 : Md_in act 10000 19999 = 0
          · rw [if_pos e2]
            exact Or.inr ⟨rfl, fun h9 => (exS.mp h9).elim n6 (fun h8 => (s.mpr (by rw [← hact]; exact h8.2)) e2)⟩
          · rw [if_neg e2]
            exact Or.inl ⟨rfl, exS.mpr (Or.inr ⟨ya, by rw [hact]; exact s.mp e2⟩)⟩
        · rw [if_pos e]
          exact Or.inl ⟨rfl, exS.mpr (Or.inl (b8.nz.mp e))⟩
      rw [lett_eq]
      by_cases e5 : v5 = 0
      · rw [if_pos e5]
        exact ih (k + 1) fu' 0 _ (by omega) (by omega) (Or.inr ⟨rfl, fun h9 => (b5.nz.mpr ⟨h9.1, (alS.mp h9.2).1⟩) e5⟩) y3
      · rw [if_neg e5]
        have p5 := b5.nz.mp e5
        by_cases e6 : Md_in act 10000 19999 = 0
        · rw [if_pos e6]
          exact ih (k + 1) fu' 1 _ (by omega) (by omega) (Or.inl ⟨rfl, p5.1, alS.mpr ⟨p5.2, fun _ => Or.inl (by rw [hact]; exact fun h8 => (s.mpr h8) e6)⟩⟩) y3
        · rw [if_neg e6]
          obtain ⟨z, z1, z2⟩ := lcR cx hr hn act
          rw [z1, ob_eq]
          simp only
          by_cases e7 : z = 0
          · rw [if_pos e7]
            refine ih (k + 1) fu' 0 _ (by omega) (by omega) (Or.inr ⟨rfl, fun h9 => ?_⟩) y3
            rcases (alS.mp h9.2).2 ya with h8 | h8
            · rw [hact] at h8; exact h8 (s.mp e6)
            · rw [hact] at h8; exact (z2.nz.mpr h8) e7
          · rw [if_neg e7]
            exact ih (k + 1) fu' 1 _ (by omega) (by omega) (Or.inl ⟨rfl, p5.1, alS.mpr ⟨p5.2, fun _ => Or.inr (by rw [hact]; exact z2.nz.mp e7)⟩⟩) y3
theorem ftR {L : List Hy} {rs : List (List Ac)} {t : Nat} {g : Gx} (cx : CxR L rs t g) {r h n : Nat} (hr : r < rs.length) (hh : h < L.length) (hn : n ≤ 24) (ha : alk n (lkk L t h) (RA rs t r)) : ∃ x, Md_fitsAt (t : Int) (r : Int) (h : Int) (n : Int) g = some (x, g) ∧ Bl x (¬ Brc L rs t r n) := by
  have hL := cx.1
  have ok := cx.2.2.2.2.1
  have ht := cx.2.2.2.2.2
  have l8 := ok.1
  have h30 := hL.2.1
  unfold Md_fitsAt
  obtain ⟨x, y, z, a1, a2, a3, a4⟩ := ft1 cx hr hh hn (fun x6 x7 x8 g9 => Md_fitsAt_l144 (t : Int) (r : Int) (h : Int) (n : Int) x7 x8 (fun x14 x15 g16 => if x14 = 0 then some (0, g16) else if x7 = 0 then some (1, g16) else if ¬ x8 = 0 then some (1, g16) else if x15 = 0 then some (0, g16) else some (1, g16)) fu x6 0 0 g9) L.length 0 fu 1 0 0 (by omega) (Nat.lt_of_le_of_lt h30 (fu_big _ (by decide))) (Or.inl ⟨rfl, fun o ho => by omega⟩) (Or.inr ⟨rfl, fun ⟨o, ho, _⟩ => by omega⟩) (Or.inr ⟨rfl, fun ⟨o, ho, _⟩ => by omega⟩)
  rw [show ((0 : Nat) : Int) = 0 from rfl] at a1
  rw [a1]
  obtain ⟨x', y', b1, b2, b3⟩ := ft2 cx hr hh hn (F := ∀ o, o < L.length → (alk n (lkk L t o) (RA rs t r) → (lkk L t o).getD n (-1) < 20000 ∨ Rcn L rs t h n ((lkk L t o).getD n (-1)))) y z (fun x14 x15 g16 => if x14 = 0 then some (0, g16) else if y = 0 then some (1, g16) else if ¬ z = 0 then some (1, g16) else if x15 = 0 then some (0, g16) else some (1, g16)) rs.length 0 fu x 0 (by omega) (Nat.lt_of_le_of_lt l8 (fu_big _ (by decide))) (a2.cg ⟨fun h9 => ⟨h9, fun p hp => by omega⟩, fun h9 => h9.1⟩) (Or.inr ⟨rfl, fun ⟨o, ho, _⟩ => by omega⟩)
  rw [show ((0 : Nat) : Int) = 0 from rfl] at b1
  rw [b1]
  have sw : ∀ p, alk n (lkk L t h) (RA rs t p) ↔ alk n (RA rs t p) (RA rs t r) := fun p => by
    obtain ⟨u1, u2, u3⟩ := ha
    constructor
    · rintro ⟨v1, v2, v3⟩
      exact ⟨v2, u2, fun i hi => (v3 i hi).symm.trans (u3 i hi)⟩
    · rintro ⟨v1, v2, v3⟩
      exact ⟨u1, v1, fun i hi => (u3 i hi).trans (v3 i hi).symm⟩
  have f1 : (∀ o, o < L.length → (alk n (lkk L t o) (RA rs t r) → (lkk L t o).getD n (-1) < 20000 ∨ Rcn L rs t h n ((lkk L t o).getD n (-1)))) ↔ ¬ ∃ h, h < L.length ∧ alk n (lkk L t h) (RA rs t r) ∧ (n < (lkk L t h).length ∧ 20000 ≤ (lkk L t h).getD n 0) ∧ ¬ ∃ p, p < rs.length ∧ alk n (RA rs t p) (RA rs t r) ∧ n < (RA rs t p).length ∧ (RA rs t p).getD n 0 = (lkk L t h).getD n 0 := by
    constructor
    · rintro hh ⟨o, o1, o2, o3, o4⟩
      have ge := getX.mpr o3
      rcases hh o o1 o2 with h9 | ⟨p, p1, p2, p3⟩
      · omega
      · have := (eqX (a := (lkk L t o).getD n (-1)) (by omega)).mp p3
        exact o4 ⟨p, p1, (sw p).mp p2, this.1, by rw [this.2, gd_eq o3.1 (-1) 0]⟩
    · intro hno o o1 o2
      by_cases c : (lkk L t o).getD n (-1) < 20000
      · exact Or.inl c
      · have ge : 20000 ≤ (lkk L t o).getD n (-1) := by omega
        have o3 := getX.mp ge
        refine Or.inr ?_
        by_cases c2 : Rcn L rs t h n ((lkk L t o).getD n (-1))
        · exact c2
        · refine absurd ⟨o, o1, o2, o3, fun ⟨p, p1, p2, p3, p4⟩ => c2 ⟨p, p1, (sw p).mpr p2, (eqX (by omega)).mpr ⟨p3, by rw [p4, gd_eq o3.1 (-1) 0]⟩⟩⟩ hno
  have f2 : (∀ p, p < rs.length → (alk n (lkk L t h) (RA rs t p) → ¬ sy ((RA rs t p).getD n (-1)) ∨ Lcn L rs t r n ((RA rs t p).getD n (-1)))) ↔ ¬ ∃ p, p < rs.length ∧ alk n (RA rs t p) (RA rs t r) ∧ (n < (RA rs t p).length ∧ (RA rs t p).getD n 0 < 20000) ∧ ¬ ∃ h, h < L.length ∧ alk n (lkk L t h) (RA rs t r) ∧ n < (lkk L t h).length ∧ (lkk L t h).getD n 0 = (RA rs t p).getD n 0 := by
    constructor
    · rintro hh ⟨p, o1, o2, o3, o4⟩
      have ge := (sayX (rngR ok ht) n).mpr o3
      rcases hh p o1 ((sw p).mpr o2) with h9 | ⟨o, p1, p2, p3⟩
      · exact h9 ge
      · have := (eqX (a := (RA rs t p).getD n (-1)) ge.1).mp p3
        exact o4 ⟨o, p1, p2, this.1, by rw [this.2, gd_eq o3.1 (-1) 0]⟩
    · intro hno p o1 o2
      by_cases c : sy ((RA rs t p).getD n (-1))
      · have o3 := (sayX (rngR ok ht) n).mp c
        refine Or.inr ?_
        by_cases c2 : Lcn L rs t r n ((RA rs t p).getD n (-1))
        · exact c2
        · refine absurd ⟨p, o1, (sw p).mp o2, o3, fun ⟨o, p1, p2, p3, p4⟩ => c2 ⟨o, p1, p2, (eqX c.1).mpr ⟨p3, by rw [p4, gd_eq o3.1 (-1) 0]⟩⟩⟩ hno
      · exact Or.inl c
  have f3 : (∃ o, o < L.length ∧ alk n (lkk L t o) (RA rs t r) ∧ sy ((lkk L t o).getD n (-1))) ↔ ∃ h, h < L.length ∧ alk n (lkk L t h) (RA rs t r) ∧ (n < (lkk L t h).length ∧ (lkk L t h).getD n 0 < 20000) := by
    constructor
    · rintro ⟨o, a, b, c⟩; exact ⟨o, a, b, (sayX (rngL hL a) n).mp c⟩
    · rintro ⟨o, a, b, c⟩; exact ⟨o, a, b, (sayX (rngL hL a) n).mpr c⟩
  have f4 : (∃ o, o < L.length ∧ alk n (lkk L t o) (RA rs t r) ∧ ¬ sy ((lkk L t o).getD n (-1))) ↔ ¬ ∀ h, h < L.length → alk n (lkk L t h) (RA rs t r) → (n < (lkk L t h).length ∧ (lkk L t h).getD n 0 < 20000) := by
    constructor
    · rintro ⟨o, a, b, c⟩ hall; exact c ((sayX (rngL hL a) n).mpr (hall o a b))
    · intro hno
      by_cases c : ∃ o, o < L.length ∧ alk n (lkk L t o) (RA rs t r) ∧ ¬ sy ((lkk L t o).getD n (-1))
      · exact c
      · refine absurd (fun o a b => ?_) hno
        by_cases c2 : sy ((lkk L t o).getD n (-1))
        · exact (sayX (rngL hL a) n).mp c2
        · exact absurd ⟨o, a, b, c2⟩ c
  have f5 : (∃ p, p < rs.length ∧ alk n (lkk L t h) (RA rs t p) ∧ sy ((RA rs t p).getD n (-1))) ↔ ∃ p, p < rs.length ∧ alk n (RA rs t p) (RA rs t r) ∧ (n < (RA rs t p).length ∧ (RA rs t p).getD n 0 < 20000) := by
    constructor
    · rintro ⟨o, a, b, c⟩; exact ⟨o, a, (sw o).mp b, (sayX (rngR ok ht) n).mp c⟩
    · rintro ⟨o, a, b, c⟩; exact ⟨o, a, (sw o).mpr b, (sayX (rngR ok ht) n).mpr c⟩
  have b2' := b2.nz
  rw [f1, f2] at b2'
  have a3' := a3.nz
  rw [f3] at a3'
  have a4' := a4.nz
  rw [f4] at a4'
  have b3' := b3.nz
  rw [f5] at b3'
  unfold Brc
  by_cases d1 : x' = 0
  · rw [if_pos d1]
    refine ⟨0, rfl, Or.inr ⟨rfl, fun h9 => ?_⟩⟩
    refine (b2'.mpr ⟨fun h8 => h9 ⟨⟨h, hh, ha⟩, Or.inl h8⟩, fun h8 => h9 ⟨⟨h, hh, ha⟩, Or.inr (Or.inl h8)⟩⟩) d1
  · rw [if_neg d1]
    obtain ⟨g1, g2⟩ := b2'.mp d1
    by_cases d2 : y = 0
    · rw [if_pos d2]
      refine ⟨1, rfl, Or.inl ⟨rfl, fun h9 => ?_⟩⟩
      rcases h9.2 with h8 | h8 | h8
      · exact g1 h8
      · exact g2 h8
      · exact (a3'.mpr h8.1) d2
    · rw [if_neg d2]
      by_cases d3 : z = 0
      · rw [if_neg (fun h9 => h9 d3)]
        by_cases d4 : y' = 0
        · rw [if_pos d4]
          refine ⟨0, rfl, Or.inr ⟨rfl, fun h9 => h9 ⟨⟨h, hh, ha⟩, Or.inr (Or.inr ⟨a3'.mp d2, ?_, fun h8 => (b3'.mpr h8) d4⟩)⟩⟩⟩
          exact Classical.not_not.mp (fun h8 => (a4'.mpr h8) d3)
        · rw [if_neg d4]
          refine ⟨1, rfl, Or.inl ⟨rfl, fun h9 => ?_⟩⟩
          rcases h9.2 with h8 | h8 | h8
          · exact g1 h8
          · exact g2 h8
          · exact h8.2.2 (b3'.mp d4)
      · rw [if_pos d3]
        refine ⟨1, rfl, Or.inl ⟨rfl, fun h9 => ?_⟩⟩
        rcases h9.2 with h8 | h8 | h8
        · exact g1 h8
        · exact g2 h8
        · exact (a4'.mp d3) h8.2.1
theorem fbR {L : List Hy} {rs : List (List Ac)} {t : Nat} {g : Gx} (hL : OkL L) (h : HsR L L.length g) (hr : RwR rs g) (ok : OkP rs) (ht : t < 6) : ∃ v g', Md_breachOf (t : Int) g = some (v, g') ∧ FB L rs t v := by
  have l8 := ok.1
  have h30 := hL.2.1
  obtain ⟨g', e1, e2⟩ := find_ok hL h.wd
  have fr := fr_Md_findLooks _ _ e1
  have cx : CxR L rs t g' := ⟨hL, e2, by rw [fr.fld (by decide) (by decide)]; exact h.1, hr.of (fr.fld (by decide) (by decide)) (fr.cell (by decide) (by decide)) (fr.cell (by decide) (by decide)) (fr.cell (by decide) (by decide)) (fr.cell (by decide) (by decide)), ok, ht⟩
  have hz := cx.2.2.1
  have w1 := cx.2.2.2.1.1
  unfold Md_breachOf
  rw [e1, ob_eq]
  have in0 : ∀ (n r : Nat) (hn : n ≤ 24) (hr : r < rs.length) (K : Gx → Option (Int × Gx)) (d k fu' : Nat), k + d = L.length → d < fu' → (¬ ∃ h, h < k ∧ alk n (lkk L t h) (RA rs t r) ∧ Brc L rs t r n) → ((n ≤ (RA rs t r).length ∧ Brc L rs t r n) ∧ Md_breachOf_l25 (t : Int) (n : Int) (r : Int) K fu' (k : Int) g' = some ((n : Int), g')) ∨ (¬ (n ≤ (RA rs t r).length ∧ Brc L rs t r n) ∧ Md_breachOf_l25 (t : Int) (n : Int) (r : Int) K fu' (k : Int) g' = K g') := by
    intro n r hn hr K d
    induction d with
    | zero =>
      intro k fu' hk hf hno
      obtain ⟨fu', rfl⟩ : ∃ q, fu' = q + 1 := ⟨fu' - 1, by omega⟩
      obtain rfl : k = L.length := by omega
      refine Or.inr ⟨fun h9 => ?_, by rw [Md_breachOf_l25, hz, if_pos (by omega)]⟩
      obtain ⟨h, a, b⟩ := h9.2.1
      exact hno ⟨h, a, b, h9.2⟩
    | succ d ih =>
      intro k fu' hk hf hno
      obtain ⟨fu', rfl⟩ : ∃ q, fu' = q + 1 := ⟨fu' - 1, by omega⟩
      have nx : ¬ (alk n (lkk L t k) (RA rs t r) ∧ Brc L rs t r n) → ((n ≤ (RA rs t r).length ∧ Brc L rs t r n) ∧ Md_breachOf_l25 (t : Int) (n : Int) (r : Int) K fu' ((k + 1 : Nat) : Int) g' = some ((n : Int), g')) ∨ (¬ (n ≤ (RA rs t r).length ∧ Brc L rs t r n) ∧ Md_breachOf_l25 (t : Int) (n : Int) (r : Int) K fu' ((k + 1 : Nat) : Int) g' = K g') := fun hn' => ih (k + 1) fu' (by omega) (by omega) (fun h9 => (exS.mp h9).elim hno hn')
      rw [Md_breachOf_l25, hz, if_neg (by omega), wr_id (by omega) (by omega), show (k : Int) + 1 = ((k + 1 : Nat) : Int) by omega]
      obtain ⟨x, x1, x2⟩ := alkR cx hr (h := k) (by omega) hn
      rw [x1, ob_eq]
      simp only
      by_cases c : x = 0
      · rw [if_pos c]
        exact nx (fun h9 => (x2.nz.mpr h9.1) c)
      · have ya := x2.nz.mp c
        obtain ⟨y, y1, y2⟩ := ftR cx hr (show k < L.length by omega) hn ya
        rw [if_neg c, y1, ob_eq]
        simp only
        by_cases c2 : y = 0
        · rw [if_neg (fun h9 => h9 c2)]
          exact Or.inl ⟨⟨ya.2.1, Classical.not_not.mp (fun h9 => (y2.nz.mpr h9) c2)⟩, rfl⟩
        · rw [if_pos c2]
          exact nx (fun h9 => (y2.nz.mp c2) h9.2)
  have in1 : ∀ (n : Nat) (hn : n ≤ 24) (K : Gx → Option (Int × Gx)) (d k fu' : Nat), k + d = rs.length → d < fu' → (¬ ∃ r, r < k ∧ n ≤ (RA rs t r).length ∧ Brc L rs t r n) → (ExB L rs t n ∧ Md_breachOf_l14 (t : Int) (n : Int) K fu' (k : Int) g' = some ((n : Int), g')) ∨ (¬ ExB L rs t n ∧ Md_breachOf_l14 (t : Int) (n : Int) K fu' (k : Int) g' = K g') := by
    intro n hn K d
    induction d with
    | zero =>
      intro k fu' hk hf hno
      obtain ⟨fu', rfl⟩ : ∃ q, fu' = q + 1 := ⟨fu' - 1, by omega⟩
      obtain rfl : k = rs.length := by omega
      exact Or.inr ⟨hno, by rw [Md_breachOf_l14, w1, if_pos (by omega)]⟩
    | succ d ih =>
      intro k fu' hk hf hno
      obtain ⟨fu', rfl⟩ : ∃ q, fu' = q + 1 := ⟨fu' - 1, by omega⟩
      rw [Md_breachOf_l14, w1, if_neg (by omega), wr_id (by omega) (by omega), show (k : Int) + 1 = ((k + 1 : Nat) : Int) by omega]
      rcases in0 n k hn (by omega) (fun g4 => Md_breachOf_l14 (t : Int) (n : Int) K fu' ((k + 1 : Nat) : Int) g4) L.length 0 fu (by omega) (Nat.lt_of_le_of_lt h30 (fu_big _ (by decide))) (fun ⟨h, a, _⟩ => by omega) with ⟨a, b⟩ | ⟨a, b⟩
      · rw [show ((0 : Nat) : Int) = 0 from rfl] at b
        exact Or.inl ⟨⟨k, by omega, a⟩, b⟩
      · rw [show ((0 : Nat) : Int) = 0 from rfl] at b
        rw [b]
        exact ih (k + 1) fu' (by omega) (by omega) (fun h9 => (exS.mp h9).elim hno a)
  have lp : ∀ (d n fu' : Nat), n + d = 25 → d < fu' → (∀ k, k < n → ¬ ExB L rs t k) → ∃ v g'', Md_breachOf_l6 (t : Int) (fun g6 => some ((-1), g6)) fu' (n : Int) g' = some (v, g'') ∧ FB L rs t v := by
    intro d
    induction d with
    | zero =>
      intro n fu' hn hf hno
      obtain ⟨fu', rfl⟩ : ∃ q, fu' = q + 1 := ⟨fu' - 1, by omega⟩
      obtain rfl : n = 25 := by omega
      exact ⟨-1, g', by rw [Md_breachOf_l6, if_pos (by decide)], Or.inl ⟨rfl, hno⟩⟩
    | succ d ih =>
      intro n fu' hn hf hno
      obtain ⟨fu', rfl⟩ : ∃ q, fu' = q + 1 := ⟨fu' - 1, by omega⟩
      rw [Md_breachOf_l6, if_neg (by omega), wr_id (by omega) (by omega), show (n : Int) + 1 = ((n + 1 : Nat) : Int) by omega]
      rcases in1 n (by omega) (fun g5 => Md_breachOf_l6 (t : Int) (fun g6 => some ((-1), g6)) fu' ((n + 1 : Nat) : Int) g5) rs.length 0 fu (by omega) (Nat.lt_of_le_of_lt l8 (fu_big _ (by decide))) (fun ⟨r, a, _⟩ => by omega) with ⟨a, b⟩ | ⟨a, b⟩
      · rw [show ((0 : Nat) : Int) = 0 from rfl] at b
        exact ⟨_, _, b, Or.inr ⟨n, by omega, rfl, a, hno⟩⟩
      · rw [show ((0 : Nat) : Int) = 0 from rfl] at b
        rw [b]
        exact ih (n + 1) fu' (by omega) (by omega) (fun k hk => by
          by_cases e : k = n
          · rw [e]; exact a
          · exact hno k (by omega))
  exact lp 25 0 fu (by omega) (fu_big _ (by decide)) (fun k hk => by omega)
/-- both, of a program that can be read beside histories -/
theorem fb_both {T : Nat} {t pt : List Int} {u : Int} {g : Gx} (h : Inv T t pt u g) (hT : T < 80000) {w : Nat} (hw : w < 6) : (∃ r g1 g2, r ≠ 0 ∧ (Option.bind (Pg_firstFault g) (fun q1 => if q1.1 = (-1) then Op_hindrance 0 q1.2 else some (-3, q1.2))) = some (r, g1) ∧ Md_lacksEither g1 = some (r, g2) ∧ Inv (T + 2) t pt u g2) ∨ ∃ v g0 g1 g2 g3 g4, Pg_firstFault g = some (-1, g0) ∧ Op_hindrance 0 g0 = some (0, g1) ∧ Pg_firstBreach (w : Int) g1 = some (v, g2) ∧ Md_lacksEither g2 = some (0, g3) ∧ Md_breachOf (w : Int) g3 = some (v, g4) ∧ Inv (T + 2) t pt u g4 := by
  obtain ⟨g0, e1, e2, e3, e4⟩ := pfault_ok h
  by_cases c : (pgm pt).1 = -1
  · rcases hw_ok e2 hT 0 with ⟨r, g1, g2, a, b, c', d, e⟩ | ⟨g1, a, b⟩
    · left
      obtain ⟨g3, f1, f2⟩ := pgR_ok c'.txPR
      have i3 := c'.fr ((fr_Md_readsProgram _ _ _ f1).cl (by decide))
      have key : ∃ g4, Md_without g3 = some (r, g4) ∧ Inv (T + 2) t pt u g4 := by
        rcases with_inv c' (by omega) with ⟨x, _, y, _⟩ | ⟨x, x2, _, y, _⟩ | ⟨x, x2, _, y, _⟩
        · rw [y] at d
          cases d
          rcases with_inv i3 (by omega) with ⟨_, g4, y4, z4⟩ | ⟨x', _⟩ | ⟨x', _⟩
          · exact ⟨g4, y4, z4⟩
          · exact absurd x' x
          · exact absurd x' x
        · rw [y] at d
          cases d
          rcases with_inv i3 (by omega) with ⟨x', _⟩ | ⟨_, _, g4, y4, z4⟩ | ⟨_, x', _⟩
          · exact absurd x x'
          · exact ⟨g4, y4, z4⟩
          · exact absurd x2 x'
        · rw [y] at d
          cases d
          omega
      obtain ⟨g4, y4, z4⟩ := key
      refine ⟨r, g1, g4, by omega, ?_, ?_, z4⟩
      · rw [e1, ob_eq]; simp only; rw [if_pos c, b]
      · unfold Md_lacksEither
        rw [f1, ob_eq]; simp only; rw [if_neg (fun h9 => h9 c), y4, ob_eq]
    · right
      obtain ⟨b1, b2, b3, b4, b5, b6⟩ := id b
      have hl := b4.1
      have ok := pgm_ok b1.2.2.1.2.1
      have rw1 : RwC (pgm pt).2 g1 := by
        have f := fr_Op_hindrance _ _ _ _ a
        have := e3.2 c
        unfold RwC at this ⊢
        rw [f.fld (q := 69) (j := 7) (by decide) (by decide), f.cell (q := 71) (by decide) (by decide), f.cell (q := 73) (by decide) (by decide), f.cell (q := 75) (by decide) (by decide), f.cell (q := 77) (by decide) (by decide)]
        exact this
      obtain ⟨v, g2, p1, p2⟩ := fbC b4 b3.2.2.2 rw1 ok hw
      have i2 := b1.fr ((fr_Pg_firstBreach _ _ _ _ p1).cl (by decide))
      obtain ⟨g3, f1, f2⟩ := pgR_ok i2.txPR
      have i3 := i2.fr ((fr_Md_readsProgram _ _ _ f1).cl (by decide))
      obtain ⟨g4, y, z, x, fx⟩ := b6 g3 i3
      have fw' := fr_Md_without _ _ _ y
      have rr := (f2 c).of (g' := g4) (fw'.fld (by decide) (by decide)) (fw'.cell (by decide) (by decide)) (fw'.cell (by decide) (by decide)) (fw'.cell (by decide) (by decide)) (fw'.cell (by decide) (by decide))
      obtain ⟨v', g5, q1, q2⟩ := fbR b4 x rr ok hw
      have ev := q2.one p2
      subst ev
      refine ⟨v', g0, g1, g2, g4, g5, by rw [e1, c], by rw [a, if_neg (by omega)], p1, ?_, q1, z.fr ((fr_Md_breachOf _ _ _ _ q1).cl (by decide))⟩
      unfold Md_lacksEither
      rw [f1, ob_eq]; simp only; rw [if_neg (fun h9 => h9 c), y, ob_eq]
  · left
    obtain ⟨g3, f1, f2⟩ := pgR_ok e2.txPR
    refine ⟨-3, g0, g3, by decide, ?_, ?_, (e2.fr ((fr_Md_readsProgram _ _ _ f1).cl (by decide))).more (by omega)⟩
    · rw [e1, ob_eq]; simp only; rw [if_neg c]
    · unfold Md_lacksEither
      rw [f1, ob_eq]; simp only; rw [if_pos c]
theorem st_fits {T : Nat} {t pt : List Int} {u : Int} {g : Gx} (h : Inv T t pt u g) (hT : T < 80000) (a1 : Int) : ∃ r g1 g2, Op_fits a1 g = some (r, g1) ∧ Md_fits a1 g1 = some (r, g2) ∧ Inv (T + 2) t pt u g2 := by
  unfold Op_fits Md_fits
  by_cases c0 : 0 ≤ a1 ∧ a1 ≤ 5
  · have m1 : ¬ Op_isTalker a1 = 0 := fun h9 => isTalker_iff.mp h9 c0
    have m2 : ¬ Md_isOne a1 = 0 := fun h9 => mdOne_iff.mp h9 c0
    simp only [if_pos m1, if_pos m2]
    obtain ⟨w, rfl⟩ := Int.eq_ofNat_of_zero_le c0.1
    rcases fb_both h hT (w := w) (by omega) with ⟨r, g1, g2, a, b, c, d⟩ | ⟨v, g0, g1, g2, g3, g4, a, b, c, d, e, f⟩
    · refine ⟨r, g1, g2, ?_, by rw [c, ob_eq]; simp only; rw [if_neg a], d⟩
      obtain ⟨g0, e1, -⟩ := pfault_ok h
      rw [e1, ob_eq] at b ⊢
      simp only at b ⊢
      by_cases c1 : (pgm pt).1 = -1
      · rw [if_pos c1] at b ⊢
        rw [b, ob_eq]
        simp only
        rw [if_neg a]
      · rw [if_neg c1] at b ⊢
        exact b
    · rw [a, ob_eq]
      simp only
      rw [if_pos trivial, b, ob_eq]
      simp only
      rw [if_pos trivial, c, ob_eq]
      simp only
      by_cases c1 : v = -1
      · refine ⟨1, g2, g4, by rw [if_neg (fun h9 => h9 c1)], ?_, f⟩
        rw [d, ob_eq]; simp only; rw [if_pos trivial, e, ob_eq]; simp only; rw [if_neg (fun h9 => h9 c1)]
      · refine ⟨0, g2, g4, by rw [if_pos c1], ?_, f⟩
        rw [d, ob_eq]; simp only; rw [if_pos trivial, e, ob_eq]; simp only; rw [if_pos c1]
  · have m1 : Op_isTalker a1 = 0 := isTalker_iff.mpr c0
    have m2 : Md_isOne a1 = 0 := mdOne_iff.mpr c0
    simp only [if_neg (fun h9 : ¬ Op_isTalker a1 = 0 => h9 m1), if_neg (fun h9 : ¬ Md_isOne a1 = 0 => h9 m2)]
    exact ⟨-2, g, g, rfl, rfl, h.more (by omega)⟩
theorem st_breach {T : Nat} {t pt : List Int} {u : Int} {g : Gx} (h : Inv T t pt u g) (hT : T < 80000) (a1 : Int) : ∃ r g1 g2, Op_breach a1 g = some (r, g1) ∧ Md_breach a1 g1 = some (r, g2) ∧ Inv (T + 2) t pt u g2 := by
  unfold Op_breach Md_breach
  by_cases c0 : 0 ≤ a1 ∧ a1 ≤ 5
  · have m1 : ¬ Op_isTalker a1 = 0 := fun h9 => isTalker_iff.mp h9 c0
    have m2 : ¬ Md_isOne a1 = 0 := fun h9 => mdOne_iff.mp h9 c0
    simp only [if_pos m1, if_pos m2]
    obtain ⟨w, rfl⟩ := Int.eq_ofNat_of_zero_le c0.1
    rcases fb_both h hT (w := w) (by omega) with ⟨r, g1, g2, a, b, c, d⟩ | ⟨v, g0, g1, g2, g3, g4, a, b, c, d, e, f⟩
    · refine ⟨r, g1, g2, ?_, by rw [c, ob_eq]; simp only; rw [if_neg a], d⟩
      obtain ⟨g0, e1, -⟩ := pfault_ok h
      rw [e1, ob_eq] at b ⊢
      simp only at b ⊢
      by_cases c1 : (pgm pt).1 = -1
      · rw [if_pos c1] at b ⊢
        rw [b, ob_eq]
        simp only
        rw [if_neg a]
      · rw [if_neg c1] at b ⊢
        exact b
    · rw [a, ob_eq]
      simp only
      rw [if_pos trivial, b, ob_eq]
      simp only
      rw [if_pos trivial, c, ob_eq]
      refine ⟨v, g2, g4, rfl, ?_, f⟩
      rw [d, ob_eq]; simp only; rw [if_pos trivial, e, ob_eq]
  · have m1 : Op_isTalker a1 = 0 := isTalker_iff.mpr c0
    have m2 : Md_isOne a1 = 0 := mdOne_iff.mpr c0
    simp only [if_neg (fun h9 : ¬ Op_isTalker a1 = 0 => h9 m1), if_neg (fun h9 : ¬ Md_isOne a1 = 0 => h9 m2)]
    exact ⟨-2, g, g, rfl, rfl, h.more (by omega)⟩
