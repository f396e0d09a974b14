/-! Who parts two histories. Own text. -/
def fdf : List Pk → List Pk → Int
  | p :: ps, q :: qs => if p.1 = q.1 then fdf ps qs else (p.2.2.2 : Int)
  | _, _ => -1
def gl (L : List Hy) (k : Nat) : Hy := L.getD k ([], [])
def ptf (L : List Hy) (a b : Nat) : Int := fdf (gl L a).1 (gl L b).1
theorem gl_eq {L : List Hy} {k : Nat} {e : Hy} (h : L[k]? = some e) : gl L k = e := by
  unfold gl; simp [List.getD_eq_getElem?_getD, h]
theorem gl_at {L : List Hy} {k : Nat} (h : k < L.length) : L[k]? = some (gl L k) := by
  rw [List.getElem?_eq_getElem h]; congr 1
  unfold gl; simp [List.getD_eq_getElem?_getD, h]
/-- they go alike up to q; there one takes w, the other one v -/
def Dif (x y : List Pk) (q t : Nat) : Prop := (∀ i, i < q → ∃ p, x[i]? = some p ∧ y[i]? = some p) ∧ ∃ w v c m, x[q]? = some (w, c, m, t) ∧ y[q]? = some (v, c, m, t) ∧ w < v
theorem dif_fdf : ∀ {q : Nat} {x y : List Pk} {t : Nat}, Dif x y q t → fdf x y = (t : Int) ∧ fdf y x = (t : Int)
  | 0, x, y, t, h => by
    obtain ⟨-, w, v, c, m, h1, h2, h3⟩ := h
    cases x with
    | nil => simp at h1
    | cons p ps =>
      cases y with
      | nil => simp at h2
      | cons p' ps' =>
        simp at h1 h2
        subst h1; subst h2
        simp only [fdf]
        rw [if_neg (by omega), if_neg (by omega)]
        exact ⟨rfl, rfl⟩
  | q + 1, x, y, t, h => by
    obtain ⟨h0, w, v, c, m, h1, h2, h3⟩ := h
    obtain ⟨p, z1, z2⟩ := h0 0 (by omega)
    cases x with
    | nil => simp at z1
    | cons p1 ps =>
      cases y with
      | nil => simp at z2
      | cons p2 ps' =>
        simp at z1 z2
        subst z1; subst z2
        have := dif_fdf (q := q) (x := ps) (y := ps') (t := t) ⟨fun i hi => by simpa using h0 (i + 1) (by omega), w, v, c, m, by simpa using h1, by simpa using h2, h3⟩
        simp only [fdf, if_true]
        exact this
theorem dif_next {x y z : List Pk} {q t w c m t' : Nat} {pre suf suf' : List Pk} (h : Dif x y q t) (hy : y = pre ++ (w, c, m, t') :: suf) (hz : z = pre ++ (w + 1, c, m, t') :: suf') : (q ≤ pre.length → Dif x z q t) ∧ (pre.length < q → Dif x z pre.length t') := by
  obtain ⟨h0, w0, v0, c0, m0, h1, h2, h3⟩ := h
  have ya : ∀ i, i < pre.length → y[i]? = pre[i]? ∧ z[i]? = pre[i]? := fun i hi => by
    rw [hy, hz, List.getElem?_append_left hi, List.getElem?_append_left hi]; exact ⟨rfl, rfl⟩
  have yq : y[pre.length]? = some (w, c, m, t') := by rw [hy, List.getElem?_append_right (Nat.le_refl _)]; simp
  have zq : z[pre.length]? = some (w + 1, c, m, t') := by rw [hz, List.getElem?_append_right (Nat.le_refl _)]; simp
  refine ⟨fun hq => ⟨fun i hi => ?_, ?_⟩, fun hq => ⟨fun i hi => ?_, ?_⟩⟩
  · obtain ⟨p, a1, a2⟩ := h0 i hi
    obtain ⟨b1, b2⟩ := ya i (by omega)
    exact ⟨p, a1, by rw [b2, ← b1]; exact a2⟩
  · rcases Nat.lt_or_ge q pre.length with hl | hl
    · obtain ⟨b1, b2⟩ := ya q hl
      exact ⟨w0, v0, c0, m0, h1, by rw [b2, ← b1]; exact h2, h3⟩
    · have : q = pre.length := by omega
      subst this
      rw [yq] at h2
      cases h2
      exact ⟨w0, w + 1, c, m, h1, zq, by omega⟩
  · obtain ⟨p, a1, a2⟩ := h0 i (by omega)
    obtain ⟨b1, b2⟩ := ya i hi
    exact ⟨p, a1, by rw [b2, ← b1]; exact a2⟩
  · obtain ⟨p, a1, a2⟩ := h0 _ hq
    rw [yq] at a2
    cases a2
    exact ⟨w, w + 1, c, m, a1, zq, by omega⟩
theorem parter_lt {L : List Hy} {g : Gx} (hs : HsC L L.length g) (hL : L.length ≤ 30) {a b : Nat} (hb : b < L.length) (K : Int → Gx → Option (Int × Gx)) : ∀ (k j n bt q t : Nat), j + k = b → k < n → a < j → bt < j → Dif (gl L a).1 (gl L j).1 q t → g 43 bt = (q : Int) → g 45 bt = (t : Int) → ∃ (bt' q' t' : Nat), Hi_parter_l19 (b : Int) K n (bt : Int) (j : Int) g = K (bt' : Int) g ∧ bt' < b ∧ Dif (gl L a).1 (gl L b).1 q' t' ∧ g 45 bt' = (t' : Int) := by
  intro k
  induction k with
  | zero =>
    intro j n bt q t hj hn ha hbt hd h43 h45
    obtain ⟨n, rfl⟩ : ∃ x, n = x + 1 := ⟨n - 1, by omega⟩
    rw [Hi_parter_l19, if_pos (by omega)]
    have : j = b := by omega
    subst this
    exact ⟨bt, q, t, rfl, hbt, hd, h45⟩
  | succ k ih =>
    intro j n bt q t hj hn ha hbt hd h43 h45
    obtain ⟨n, rfl⟩ : ∃ x, n = x + 1 := ⟨n - 1, by omega⟩
    obtain ⟨x, y, pre, w, c, m, t', suf, suf', t1, t2, t3, t4, t5, t6⟩ := hs.2.2 j (by omega) (by omega)
    have e1 := gl_eq t1
    have e2 := gl_eq t2
    obtain ⟨d1, d2⟩ := dif_next (x := (gl L a).1) (y := (gl L j).1) (z := (gl L (j + 1)).1) hd (by rw [e1]; exact t3) (by rw [e2]; exact t4)
    rw [Hi_parter_l19, if_neg (by omega), rat_in (by omega) (by omega), rat_in (by omega) (by omega), Int.toNat_natCast, Int.toNat_natCast, h43, t5, wr_id (by omega) (by omega), show (j : Int) + 1 = ((j + 1 : Nat) : Int) by omega]
    by_cases hq : q ≤ pre.length
    · rw [if_pos (by omega)]
      exact ih (j + 1) n bt q t (by omega) (by omega) (by omega) (by omega) (d1 hq) h43 h45
    · rw [if_neg (by omega)]
      exact ih (j + 1) n j pre.length t' (by omega) (by omega) (by omega) (by omega) (d2 (by omega)) t5 t6
theorem dif_first {L : List Hy} {g : Gx} (hs : HsC L L.length g) {a : Nat} (ha : a + 1 < L.length) : ∃ q t, Dif (gl L a).1 (gl L (a + 1)).1 q t ∧ g 43 a = (q : Int) ∧ g 45 a = (t : Int) := by
  obtain ⟨x, y, pre, w, c, m, t', suf, suf', t1, t2, t3, t4, t5, t6⟩ := hs.2.2 a (by omega) ha
  refine ⟨pre.length, t', ⟨fun i hi => ?_, w, w + 1, c, m, ?_, ?_, by omega⟩, t5, t6⟩
  · rw [gl_eq t1, gl_eq t2, t3, t4, List.getElem?_append_left hi, List.getElem?_append_left hi]
    exact ⟨pre[i], List.getElem?_eq_getElem hi, List.getElem?_eq_getElem hi⟩
  · rw [gl_eq t1, t3, List.getElem?_append_right (Nat.le_refl _)]; simp
  · rw [gl_eq t2, t4, List.getElem?_append_right (Nat.le_refl _)]; simp
theorem parter_min {L : List Hy} {g : Gx} (hs : HsC L L.length g) (hL : L.length ≤ 30) {a b : Nat} (hab : a < b) (hb : b < L.length) : ∃ q t, Dif (gl L a).1 (gl L b).1 q t ∧ Hi_parter_l19 (b : Int) (fun x1 g2 => some ((rat g2 45 30 x1), g2)) fu (a : Int) (wr ((a : Int) + 1)) g = some ((t : Int), g) := by
  obtain ⟨q, t, d, h43, h45⟩ := dif_first hs (a := a) (by omega)
  obtain ⟨bt, q', t', r1, r2, r3, r4⟩ := parter_lt hs hL hb (fun x1 g2 => some ((rat g2 45 30 x1), g2)) (b - (a + 1)) (a + 1) fu a q t (by omega) (Nat.lt_of_lt_of_le (show b - (a + 1) < 30 by omega) (Nat.le_of_lt (fu_big _ (by decide)))) (by omega) (by omega) d h43 h45
  refine ⟨q', t', r3, ?_⟩
  rw [wr_id (by omega) (by omega), show (a : Int) + 1 = ((a + 1 : Nat) : Int) by omega, r1, rat_in (by omega) (by omega), Int.toNat_natCast, r4]
theorem parter_ok {L : List Hy} {g : Gx} (hs : HsC L L.length g) (hL : L.length ≤ 30) {a b : Nat} (hab : a ≠ b) (ha : a < L.length) (hb : b < L.length) : Hi_parter (a : Int) (b : Int) g = some (ptf L a b, g) ∧ ∃ q t : Nat, (Dif (gl L a).1 (gl L b).1 q t ∨ Dif (gl L b).1 (gl L a).1 q t) := by
  unfold Hi_parter imax imin
  rcases Nat.lt_or_ge a b with h | h
  · obtain ⟨q, t, d, r⟩ := parter_min hs hL h hb
    rw [if_pos (by omega), if_neg (by omega), r]
    unfold ptf
    rw [(dif_fdf d).1]
    exact ⟨rfl, q, t, Or.inl d⟩
  · obtain ⟨q, t, d, r⟩ := parter_min hs hL (show b < a by omega) ha
    rw [if_neg (by omega), if_pos (by omega), r]
    unfold ptf
    rw [(dif_fdf d).2]
    exact ⟨rfl, q, t, Or.inr d⟩
theorem parting_lp {L : List Hy} {g : Gx} (hs : HsR L L.length g) (hL : L.length ≤ 30) {a b q t : Nat} (ha : a < L.length) (hb : b < L.length) (hq30 : q < 30) (d0 : ∀ i, i < q → ∃ p, (gl L a).1[i]? = some p ∧ (gl L b).1[i]? = some p) {w v c m : Nat} (d1 : (gl L a).1[q]? = some (w, c, m, t)) (d2 : (gl L b).1[q]? = some (v, c, m, t)) (d3 : w ≠ v) (K : Int → Gx → Option (Int × Gx)) : ∀ (k i n : Nat), i + k = q → k < n → Md_parting_l2 (a : Int) (b : Int) K n (i : Int) g = K (q : Int) g := by
  have wa : ∀ (x i : Nat), x < 30 → i < 30 → wr ((wr (30 * (x : Int))) + (i : Int)) = ((30 * x + i : Nat) : Int) := fun x i h1 h2 => by simp (disch := omega) only [wr_id]; omega
  obtain ⟨-, -, x3, -⟩ := hs.2 a _ ha (gl_at ha)
  obtain ⟨-, -, y3, -⟩ := hs.2 b _ hb (gl_at hb)
  intro k
  induction k with
  | zero =>
    intro i n hi hn
    obtain ⟨n, rfl⟩ : ∃ x, n = x + 1 := ⟨n - 1, by omega⟩
    have : i = q := by omega
    subst this
    have z1 : g 112 (30 * a + i) = (w : Int) := (x3 i _ d1).1
    have z2 : g 112 (30 * b + i) = (v : Int) := (y3 i _ d2).1
    rw [Md_parting_l2, wa a i (by omega) (by omega), wa b i (by omega) (by omega), if_pos (by omega), if_pos (by omega), Int.toNat_natCast, Int.toNat_natCast, z1, z2, if_pos (by omega)]
  | succ k ih =>
    intro i n hi hn
    obtain ⟨n, rfl⟩ : ∃ x, n = x + 1 := ⟨n - 1, by omega⟩
    obtain ⟨p, p1, p2⟩ := d0 i (by omega)
    have z1 := (x3 i _ p1).1
    have z2 := (y3 i _ p2).1
    rw [Md_parting_l2, wa a i (by omega) (by omega), wa b i (by omega) (by omega), if_pos (by omega), if_pos (by omega), Int.toNat_natCast, Int.toNat_natCast, z1, z2, if_neg (by simp), wr_id (by omega) (by omega), show (i : Int) + 1 = ((i + 1 : Nat) : Int) by omega]
    exact ih (i + 1) n (by omega) (by omega)
theorem parting_ok {L : List Hy} {g : Gx} (hs : HsR L L.length g) (hG : Good L) (hL : L.length ≤ 30) {a b q t : Nat} (ha : a < L.length) (hb : b < L.length) (hd : Dif (gl L a).1 (gl L b).1 q t ∨ Dif (gl L b).1 (gl L a).1 q t) : Md_parting (a : Int) (b : Int) g = some (ptf L a b, g) := by
  have hla := (hG.2.2.2.2 _ (List.mem_of_getElem? (gl_at ha))).1
  have main : ∀ (w v c m : Nat), (∀ i, i < q → ∃ p, (gl L a).1[i]? = some p ∧ (gl L b).1[i]? = some p) → (gl L a).1[q]? = some (w, c, m, t) → (gl L b).1[q]? = some (v, c, m, t) → w ≠ v → Md_parting (a : Int) (b : Int) g = some ((t : Int), g) := fun w v c m d0 d1 d2 d3 => by
    have hq : q < (gl L a).1.length := (List.getElem?_eq_some_iff.mp d1).1
    have r := parting_lp hs hL ha hb (by omega) d0 d1 d2 d3 (fun x1 g2 => if 0 ≤ (wr ((wr (30 * (a : Int))) + x1)) ∧ (wr ((wr (30 * (a : Int))) + x1)) < 900 then some ((g2 113 (wr ((wr (30 * (a : Int))) + x1)).toNat), g2) else none) q 0 fu (by omega) (Nat.lt_of_lt_of_le (show q < 30 by omega) (Nat.le_of_lt (fu_big _ (by decide))))
    obtain ⟨-, -, x3, -⟩ := hs.2 a _ ha (gl_at ha)
    have z1 : g 113 (30 * a + q) = (t : Int) := (x3 q _ d1).2
    unfold Md_parting
    rw [show ((0 : Nat) : Int) = 0 from rfl] at r
    rw [r, show wr ((wr (30 * (a : Int))) + (q : Int)) = ((30 * a + q : Nat) : Int) by simp (disch := omega) only [wr_id]; omega, if_pos (by omega), Int.toNat_natCast, z1]
  rcases hd with d | d
  · have e : ptf L a b = (t : Int) := (dif_fdf d).1
    obtain ⟨d0, w, v, c, m, d1, d2, d3⟩ := d
    rw [e]
    exact main w v c m d0 d1 d2 (by omega)
  · have e : ptf L a b = (t : Int) := (dif_fdf d).2
    obtain ⟨d0, w, v, c, m, d1, d2, d3⟩ := d
    rw [e]
    exact main v w c m (fun i hi => by obtain ⟨p, p1, p2⟩ := d0 i hi; exact ⟨p, p2, p1⟩) d2 d1 (by omega)
