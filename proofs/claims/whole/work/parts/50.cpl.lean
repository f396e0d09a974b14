/-! How far two looks go alike. Own text. -/
theorem cpl_le : ∀ (x y : List Int), cpl x y ≤ x.length ∧ cpl x y ≤ y.length
  | [], _ => by simp [cpl]
  | _ :: _, [] => by simp [cpl]
  | a :: x, b :: y => by
    have := cpl_le x y
    simp only [cpl]
    split <;> simp <;> omega
theorem cpl_eq : ∀ (x y : List Int) (d : Int) (i : Nat), i < cpl x y → x.getD i d = y.getD i d
  | [], _, _, _, h => by simp [cpl] at h
  | _ :: _, [], _, _, h => by simp [cpl] at h
  | a :: x, b :: y, d, i, h => by
    simp only [cpl] at h
    split at h
    · rename_i hab
      cases i with
      | zero => simpa using hab
      | succ i => simpa using cpl_eq x y d i (by omega)
    · omega
theorem cpl_ne : ∀ (x y : List Int) (d : Int), cpl x y < x.length → cpl x y < y.length → x.getD (cpl x y) d ≠ y.getD (cpl x y) d
  | [], _, _, h, _ => by simp at h
  | _ :: _, [], _, _, h => by simp at h
  | a :: x, b :: y, d, h1, h2 => by
    by_cases hab : a = b
    · have e : cpl (a :: x) (b :: y) = cpl x y + 1 := by simp [cpl, hab]
      rw [e] at h1 h2 ⊢
      simp at h1 h2
      simpa using cpl_ne x y d h1 h2
    · have e : cpl (a :: x) (b :: y) = 0 := by simp [cpl, hab]
      rw [e]
      simpa using hab
theorem cpl_all : ∀ {x y : List Int}, (cpl x y = x.length ∧ cpl x y = y.length) ↔ x = y
  | [], [] => by simp [cpl]
  | [], _ :: _ => by simp [cpl]
  | _ :: _, [] => by simp [cpl]
  | a :: x, b :: y => by
    have := cpl_all (x := x) (y := y)
    by_cases hab : a = b
    · have e : cpl (a :: x) (b :: y) = cpl x y + 1 := by simp [cpl, hab]
      rw [e]
      simp only [List.length_cons, Nat.add_right_cancel_iff, this, List.cons.injEq, hab, true_and]
    · have e : cpl (a :: x) (b :: y) = 0 := by simp [cpl, hab]
      rw [e]
      simp [hab]
theorem lk_pos {L : List Hy} (hL : OkL L) {t k : Nat} (hk : k < L.length) {i : Nat} (hi : i < (lkk L t k).length) (d : Int) : 10000 ≤ (lkk L t k).getD i d ∧ (lkk L t k).getD i d < 30000 := by
  have hm : (lkk L t k).getD i d ∈ lkk L t k := by
    rw [List.getD_eq_getElem?_getD, List.getElem?_eq_getElem hi]
    simp
  generalize (lkk L t k).getD i d = v at hm ⊢
  unfold lkk lk at hm
  obtain ⟨c, hc, h2⟩ := List.mem_filterMap.mp hm
  have ow := (hL.2.2 _ (List.mem_of_getElem? (gl_at hk))).2 c hc
  obtain ⟨-, -, n3, n4, -⟩ := okw_num ow
  unfold lka at h2
  split at h2
  · have := Option.some.inj h2; omega
  · split at h2
    · have := Option.some.inj h2; omega
    · cases h2
theorem lkk_le {L : List Hy} (hL : OkL L) {t k : Nat} (hk : k < L.length) : (lkk L t k).length ≤ 24 := Nat.le_trans (lk_len _ _) (hL.2.2 _ (List.mem_of_getElem? (gl_at hk))).1
theorem actC {L : List Hy} {g : Gx} {t : Nat} (hL : OkL L) (hk : LkC t L g) {k : Nat} (hk2 : k < L.length) {i : Nat} (hi : i < (lkk L t k).length) : rat g 52 720 (wr ((wr ((k : Int) * 24)) + (i : Int))) = (lkk L t k).getD i 0 := (look_c hL hk hk2).2 i hi
theorem common_ok {L : List Hy} {g : Gx} {t : Nat} (hL : OkL L) (hk : LkC t L g) {a b : Nat} (ha : a < L.length) (hb : b < L.length) : Lk_common (a : Int) (b : Int) g = some ((cpl (lkk L t a) (lkk L t b) : Int), g) := by
  have la := lkk_le hL (t := t) ha
  obtain ⟨c1, c2⟩ := cpl_le (lkk L t a) (lkk L t b)
  have la1 : rat g 54 30 (a : Int) = ((lkk L t a).length : Int) := (look_c hL hk ha).1
  have lb1 : rat g 54 30 (b : Int) = ((lkk L t b).length : Int) := (look_c hL hk hb).1
  unfold Lk_common imin
  rw [la1, lb1]
  obtain ⟨m, hm⟩ : ∃ m : Nat, m = min (lkk L t a).length (lkk L t b).length := ⟨_, rfl⟩
  have em : (if ((lkk L t b).length : Int) < ((lkk L t a).length : Int) then ((lkk L t b).length : Int) else ((lkk L t a).length : Int)) = (m : Int) := by split <;> omega
  rw [em]
  have lp : ∀ (k i n : Nat), i + k = cpl (lkk L t a) (lkk L t b) → k < n → Lk_common_l23 (a : Int) (b : Int) (m : Int) (fun x1 g2 => some (x1, g2)) n (i : Int) g = some ((cpl (lkk L t a) (lkk L t b) : Int), g) := by
    intro k
    induction k with
    | zero =>
      intro i n hi hn
      obtain ⟨n, rfl⟩ : ∃ q, n = q + 1 := ⟨n - 1, by omega⟩
      rw [Lk_common_l23]
      by_cases h1 : m ≤ i
      · rw [if_pos (by omega), show i = cpl (lkk L t a) (lkk L t b) by omega]
      · have hne := cpl_ne (lkk L t a) (lkk L t b) 0 (by omega) (by omega)
        rw [if_neg (by omega), actC hL hk ha (by omega), actC hL hk hb (by omega), show i = cpl (lkk L t a) (lkk L t b) by omega, if_pos hne]
    | succ k ih =>
      intro i n hi hn
      obtain ⟨n, rfl⟩ : ∃ q, n = q + 1 := ⟨n - 1, by omega⟩
      have he := cpl_eq (lkk L t a) (lkk L t b) 0 i (by omega)
      rw [Lk_common_l23, if_neg (by omega), actC hL hk ha (by omega), actC hL hk hb (by omega), if_neg (by simpa using he), wr_id (by omega) (by omega), show (i : Int) + 1 = ((i + 1 : Nat) : Int) by omega]
      exact ih (i + 1) n (by omega) (by omega)
  have := lp (cpl (lkk L t a) (lkk L t b)) 0 fu (by omega) (Nat.lt_of_le_of_lt (show cpl (lkk L t a) (lkk L t b) ≤ 24 by omega) (fu_big _ (by decide)))
  exact this
theorem bothEnd_ok {L : List Hy} {g : Gx} {t : Nat} (hL : OkL L) (hk : LkC t L g) {a b : Nat} (ha : a < L.length) (hb : b < L.length) : (Lk_bothEnd (a : Int) (b : Int) (cpl (lkk L t a) (lkk L t b) : Int) g = 0) ↔ lkk L t a ≠ lkk L t b := by
  have la1 : rat g 54 30 (a : Int) = ((lkk L t a).length : Int) := (look_c hL hk ha).1
  have lb1 : rat g 54 30 (b : Int) = ((lkk L t b).length : Int) := (look_c hL hk hb).1
  unfold Lk_bothEnd
  rw [la1, lb1]
  by_cases h : lkk L t a = lkk L t b
  · obtain ⟨e1, e2⟩ := cpl_all.mpr h
    rw [if_neg (by omega), if_neg (by omega)]
    simp [h]
  · have nn : ¬ (cpl (lkk L t a) (lkk L t b) = (lkk L t a).length ∧ cpl (lkk L t a) (lkk L t b) = (lkk L t b).length) := fun h9 => h (cpl_all.mp h9)
    refine ⟨fun _ => h, fun _ => ?_⟩
    by_cases h1 : ((lkk L t a).length : Int) = (cpl (lkk L t a) (lkk L t b) : Int)
    · rw [if_neg (by omega), if_pos (by omega)]
    · rw [if_pos h1]
theorem unlike_ok {L : List Hy} {g : Gx} {t : Nat} (hL : OkL L) (hk : LkR L g) (ht : t < 6) {a b : Nat} (ha : a < L.length) (hb : b < L.length) : (lkk L t a = lkk L t b → Md_unlike (t : Int) (a : Int) (b : Int) g = some (-1, g)) ∧ (lkk L t a ≠ lkk L t b → Md_unlike (t : Int) (a : Int) (b : Int) g = some ((cpl (lkk L t a) (lkk L t b) : Int), g)) := by
  have la := lkk_le hL (t := t) ha
  obtain ⟨c1, c2⟩ := cpl_le (lkk L t a) (lkk L t b)
  have pa := (look_r hL hk ht ha).2
  have pb := (look_r hL hk ht hb).2
  obtain ⟨K, hK⟩ : ∃ K : Int → Gx → Option (Int × Gx), K = fun x4 g5 => Option.bind (Md_lookAt (t : Int) (a : Int) x4 g5) (fun q6 => Option.bind (Md_lookAt (t : Int) (b : Int) x4 q6.2) (fun q7 => if ¬ q6.1 = q7.1 then some (x4, q7.2) else some ((-1), q7.2))) := ⟨_, rfl⟩
  have lp : ∀ (k i n : Nat), i + k = cpl (lkk L t a) (lkk L t b) → k < n → Md_unlike_l3 (t : Int) (a : Int) (b : Int) K n (i : Int) g = K (cpl (lkk L t a) (lkk L t b) : Int) g := by
    intro k
    induction k with
    | zero =>
      intro i n hi hn
      obtain ⟨n, rfl⟩ : ∃ q, n = q + 1 := ⟨n - 1, by omega⟩
      have hi2 : i = cpl (lkk L t a) (lkk L t b) := by omega
      rw [Md_unlike_l3, pa i, ob_eq]
      simp only
      by_cases h1 : i < (lkk L t a).length
      · have p := lk_pos hL ha h1 (-1)
        rw [if_neg (by omega), pa i, ob_eq, pb i, ob_eq]
        simp only
        have hne : ¬ (lkk L t a).getD i (-1) = (lkk L t b).getD i (-1) := by
          by_cases h2 : i < (lkk L t b).length
          · rw [hi2]; exact cpl_ne _ _ (-1) (by omega) (by omega)
          · have : (lkk L t b).getD i (-1) = -1 := by simp [List.getD_eq_getElem?_getD, List.getElem?_eq_none (Nat.le_of_not_lt h2)]
            omega
        rw [if_pos hne, hi2]
      · have : (lkk L t a).getD i (-1) = -1 := by simp [List.getD_eq_getElem?_getD, List.getElem?_eq_none (Nat.le_of_not_lt h1)]
        rw [if_pos this, hi2]
    | succ k ih =>
      intro i n hi hn
      obtain ⟨n, rfl⟩ : ∃ q, n = q + 1 := ⟨n - 1, by omega⟩
      have he := cpl_eq (lkk L t a) (lkk L t b) (-1) i (by omega)
      have p := lk_pos hL ha (show i < (lkk L t a).length by omega) (-1)
      rw [Md_unlike_l3, pa i, ob_eq]
      simp only
      rw [if_neg (by omega), pa i, ob_eq, pb i, ob_eq]
      simp only
      rw [if_neg (by omega), wr_id (by omega) (by omega), show (i : Int) + 1 = ((i + 1 : Nat) : Int) by omega]
      exact ih (i + 1) n (by omega) (by omega)
  have r := lp (cpl (lkk L t a) (lkk L t b)) 0 fu (by omega) (Nat.lt_of_le_of_lt (show cpl (lkk L t a) (lkk L t b) ≤ 24 by omega) (fu_big _ (by decide)))
  have r : Md_unlike (t : Int) (a : Int) (b : Int) g = K (cpl (lkk L t a) (lkk L t b) : Int) g := by
    unfold Md_unlike; rw [← hK]; exact r
  rw [r, hK]
  simp only
  rw [pa, ob_eq, pb, ob_eq]
  simp only
  refine ⟨fun h => ?_, fun h => ?_⟩
  · rw [h, if_neg (by simp)]
  · have hne : ¬ (lkk L t a).getD (cpl (lkk L t a) (lkk L t b)) (-1) = (lkk L t b).getD (cpl (lkk L t a) (lkk L t b)) (-1) := by
      have nn : ¬ (cpl (lkk L t a) (lkk L t b) = (lkk L t a).length ∧ cpl (lkk L t a) (lkk L t b) = (lkk L t b).length) := fun h9 => h (cpl_all.mp h9)
      generalize hq : cpl (lkk L t a) (lkk L t b) = q at *
      by_cases h1 : q < (lkk L t a).length
      · have p := lk_pos hL ha h1 (-1)
        by_cases h2 : q < (lkk L t b).length
        · rw [← hq]; exact cpl_ne _ _ (-1) (by omega) (by omega)
        · have : (lkk L t b).getD q (-1) = -1 := by simp [List.getD_eq_getElem?_getD, List.getElem?_eq_none (Nat.le_of_not_lt h2)]
          omega
      · have h2 : q < (lkk L t b).length := by omega
        have p := lk_pos hL hb h2 (-1)
        have : (lkk L t a).getD q (-1) = -1 := by simp [List.getD_eq_getElem?_getD, List.getElem?_eq_none (Nat.le_of_not_lt h1)]
        omega
    rw [if_pos hne]
