/-! copy: in place, and by way of a row of its own. Own text. -/
def cpf (g : Gx) (c src dst lo hi : Nat) : Gx := fun b x => if b = c ∧ dst + lo ≤ x ∧ x < dst + hi then g c (src + (x - dst)) else g b x
theorem cpf_nil (g : Gx) (c src dst lo : Nat) : cpf g c src dst lo lo = g := by
  funext b x
  unfold cpf
  rw [if_neg (by omega)]
theorem cpf_ne {g : Gx} {c src dst lo hi b : Nat} (h : b ≠ c) : cpf g c src dst lo hi b = g b := by
  funext x
  unfold cpf
  rw [if_neg (by omega)]
/-- one item more at the upper end -/
theorem cpf_up (g : Gx) (c src dst lo hi : Nat) (h : lo ≤ hi) : gset (cpf g c src dst lo hi) c (dst + hi) (g c (src + hi)) = cpf g c src dst lo (hi + 1) := by
  funext b x
  simp only [cpf, gset]
  by_cases hb : b = c
  · subst hb
    by_cases hx : x = dst + hi
    · subst hx
      rw [if_pos rfl, if_pos rfl, if_pos (by omega), show src + (dst + hi - dst) = src + hi by omega]
    · rw [if_pos rfl, if_neg hx]
      by_cases hk : dst + lo ≤ x ∧ x < dst + hi
      · rw [if_pos (by omega), if_pos (by omega)]
      · rw [if_neg (by omega), if_neg (by omega)]
  · rw [if_neg hb, if_neg (by omega), if_neg (by omega)]
/-- one item more at the lower end -/
theorem cpf_dn (g : Gx) (c src dst lo hi : Nat) (h : lo < hi) : gset (cpf g c src dst (lo + 1) hi) c (dst + lo) (g c (src + lo)) = cpf g c src dst lo hi := by
  funext b x
  simp only [cpf, gset]
  by_cases hb : b = c
  · subst hb
    by_cases hx : x = dst + lo
    · subst hx
      rw [if_pos rfl, if_pos rfl, if_pos (by omega), show src + (dst + lo - dst) = src + lo by omega]
    · rw [if_pos rfl, if_neg hx]
      by_cases hk : dst + (lo + 1) ≤ x ∧ x < dst + hi
      · rw [if_pos (by omega), if_pos (by omega)]
      · rw [if_neg (by omega), if_neg (by omega)]
  · rw [if_neg hb, if_neg (by omega), if_neg (by omega)]
theorem wr3 {s j y : Int} (h0 : 0 ≤ s) (h1 : s < 4) (h2 : 0 ≤ j) (h3 : j ≤ 60) (h4 : 0 ≤ y) (h5 : y ≤ 60) : wr (wr (wr (s * 60) + j) + y) = 60 * s + j + y ∧ wr (wr (wr (60 * s) + j) + y) = 60 * s + j + y := by
  rw [wr_id (x := s * 60) (by omega) (by omega), wr_id (x := 60 * s) (by omega) (by omega), wr_id (x := s * 60 + j) (by omega) (by omega), wr_id (x := 60 * s + j) (by omega) (by omega), wr_id (by omega) (by omega), wr_id (by omega) (by omega)]
  exact ⟨by omega, rfl⟩
/-- the class's move, upward -/
theorem sh_move_up {s t i j n : Nat} (hs : s < 4) (ht : t < 4) (hi : i + n ≤ 60) (hj : j + n ≤ 60) (hji : j ≤ i) (K : Gx → Option Gx) (g : Gx) : ∀ (d m v : Nat), v + d = n → d < m → Sh_move_l3 (s : Int) (i : Int) (t : Int) (j : Int) (n : Int) K m (v : Int) (cpf g 87 (60 * s + i) (60 * t + j) 0 v) = K (cpf g 87 (60 * s + i) (60 * t + j) 0 n) := by
  intro d
  induction d with
  | zero =>
    intro m v hv hm
    obtain ⟨m, rfl⟩ : ∃ k, m = k + 1 := ⟨m - 1, by omega⟩
    rw [Sh_move_l3, if_pos (by omega), show v = n by omega]
  | succ d ih =>
    intro m v hv hm
    obtain ⟨m, rfl⟩ : ∃ k, m = k + 1 := ⟨m - 1, by omega⟩
    rw [Sh_move_l3, if_neg (by omega)]
    rw [lett_eq, if_pos (by omega)]
    have hw := (wr3 (s := (t : Int)) (j := (j : Int)) (y := (v : Int)) (by omega) (by omega) (by omega) (by omega) (by omega) (by omega)).1
    have hin : (0 : Int) ≤ 60 * (t : Int) + (j : Int) + (v : Int) ∧ 60 * (t : Int) + (j : Int) + (v : Int) < ((240 : Nat) : Int) := by omega
    have hrd : Sh_item (s : Int) (wr ((i : Int) + (v : Int))) (cpf g 87 (60 * s + i) (60 * t + j) 0 v) = g 87 (60 * s + i + v) := by
      unfold Sh_item
      rw [wr_id (x := (i : Int) + v) (by omega) (by omega), wr_id (x := (s : Int) * 60) (by omega) (by omega), wr_id (by omega) (by omega), rat_in (by omega) (by omega), show ((s : Int) * 60 + ((i : Int) + (v : Int))).toNat = 60 * s + i + v by omega]
      unfold cpf
      rw [if_neg]
      rintro ⟨-, a, b⟩
      by_cases hst : s = t
      · subst hst; omega
      · rcases Nat.lt_or_gt_of_ne hst with h9 | h9 <;> omega
    rw [hrd, hw, rset_in hin, wr_id (by omega) (by omega), show (v : Int) + 1 = ((v + 1 : Nat) : Int) by omega, show (60 * (t : Int) + (j : Int) + (v : Int)).toNat = 60 * t + j + v by omega, show 60 * s + i + v = (60 * s + i) + v from rfl, cpf_up _ _ _ _ _ _ (by omega)]
    exact ih m (v + 1) (by omega) (by omega)
/-- the class's move, from the end on -/
theorem sh_move_dn {s t i j n : Nat} (hs : s < 4) (ht : t < 4) (hi : i + n ≤ 60) (hj : j + n ≤ 60) (hji : i < j) (K : Gx → Option Gx) (g : Gx) : ∀ (d m v : Nat), v + d = n → d < m → Sh_move_l3 (s : Int) (i : Int) (t : Int) (j : Int) (n : Int) K m (v : Int) (cpf g 87 (60 * s + i) (60 * t + j) (n - v) n) = K (cpf g 87 (60 * s + i) (60 * t + j) 0 n) := by
  intro d
  induction d with
  | zero =>
    intro m v hv hm
    obtain ⟨m, rfl⟩ : ∃ k, m = k + 1 := ⟨m - 1, by omega⟩
    rw [Sh_move_l3, if_pos (by omega), show n - v = 0 by omega]
  | succ d ih =>
    intro m v hv hm
    obtain ⟨m, rfl⟩ : ∃ k, m = k + 1 := ⟨m - 1, by omega⟩
    rw [Sh_move_l3, if_neg (by omega)]
    rw [lett_eq, if_neg (by omega), wr_id (x := (n : Int) - 1) (by omega) (by omega), wr_id (x := (n : Int) - 1 - v) (by omega) (by omega), show (n : Int) - 1 - (v : Int) = ((n - 1 - v : Nat) : Int) by omega]
    obtain ⟨y, hy⟩ : ∃ y, y = n - 1 - v := ⟨_, rfl⟩
    rw [← hy]
    have hw := (wr3 (s := (t : Int)) (j := (j : Int)) (y := (y : Int)) (by omega) (by omega) (by omega) (by omega) (by omega) (by omega)).1
    have hin : (0 : Int) ≤ 60 * (t : Int) + (j : Int) + (y : Int) ∧ 60 * (t : Int) + (j : Int) + (y : Int) < ((240 : Nat) : Int) := by omega
    have hrd : Sh_item (s : Int) (wr ((i : Int) + (y : Int))) (cpf g 87 (60 * s + i) (60 * t + j) (n - v) n) = g 87 (60 * s + i + y) := by
      unfold Sh_item
      rw [wr_id (x := (i : Int) + y) (by omega) (by omega), wr_id (x := (s : Int) * 60) (by omega) (by omega), wr_id (by omega) (by omega), rat_in (by omega) (by omega), show ((s : Int) * 60 + ((i : Int) + (y : Int))).toNat = 60 * s + i + y by omega]
      unfold cpf
      rw [if_neg]
      rintro ⟨-, a, b⟩
      by_cases hst : s = t
      · subst hst; omega
      · rcases Nat.lt_or_gt_of_ne hst with h9 | h9 <;> omega
    rw [hrd, hw, rset_in hin, wr_id (by omega) (by omega), show (v : Int) + 1 = ((v + 1 : Nat) : Int) by omega, show (60 * (t : Int) + (j : Int) + (y : Int)).toNat = 60 * t + j + y by omega, show n - v = y + 1 by omega, cpf_dn _ _ _ _ _ _ (by omega), show y = n - (v + 1) by omega]
    exact ih m (v + 1) (by omega) (by omega)
def mvf (g : Gx) (src v : Nat) : Gx := fun b x => if b = 96 ∧ x < v then g 95 (src + x) else g b x
theorem mvf_0 (g : Gx) (src : Nat) : mvf g src 0 = g := by
  funext b x
  unfold mvf
  rw [if_neg (by omega)]
theorem md_copy_1 {s i n : Nat} {c3 c4 : Int} (hs : s < 4) (hi : i + n ≤ 60) (K : Gx → Option (Int × Gx)) (g : Gx) : ∀ (d m v : Nat), v + d = n → d < m → Md_copy_l120 (s : Int) (i : Int) c3 c4 (n : Int) K m (v : Int) (mvf g (60 * s + i) v) = K (mvf g (60 * s + i) n) := by
  intro d
  induction d with
  | zero =>
    intro m v hv hm
    obtain ⟨m, rfl⟩ : ∃ k, m = k + 1 := ⟨m - 1, by omega⟩
    rw [Md_copy_l120, if_pos (by omega), show v = n by omega]
  | succ d ih =>
    intro m v hv hm
    obtain ⟨m, rfl⟩ : ∃ k, m = k + 1 := ⟨m - 1, by omega⟩
    have hw := (wr3 (s := (s : Int)) (j := (i : Int)) (y := (v : Int)) (by omega) (by omega) (by omega) (by omega) (by omega) (by omega)).2
    have hin : (0 : Int) ≤ 60 * (s : Int) + (i : Int) + (v : Int) ∧ 60 * (s : Int) + (i : Int) + (v : Int) < 240 := by omega
    have hin2 : (0 : Int) ≤ (v : Int) ∧ (v : Int) < 60 := by omega
    rw [Md_copy_l120, if_neg (by omega), hw, if_pos hin, if_pos hin2, wr_id (by omega) (by omega), show (v : Int) + 1 = ((v + 1 : Nat) : Int) by omega, show (60 * (s : Int) + (i : Int) + (v : Int)).toNat = 60 * s + i + v by omega, Int.toNat_natCast]
    have e : gset (mvf g (60 * s + i) v) 96 v (mvf g (60 * s + i) v 95 (60 * s + i + v)) = mvf g (60 * s + i) (v + 1) := by
      funext b x
      simp only [gset, mvf]
      by_cases hb : b = 96
      · subst hb
        by_cases hx : x = v
        · subst hx
          rw [if_pos rfl, if_pos rfl, if_neg (by omega), if_pos (by omega)]
        · rw [if_pos rfl, if_neg hx]
          by_cases hk : x < v
          · rw [if_pos (by omega), if_pos (by omega)]
          · rw [if_neg (by omega), if_neg (by omega)]
      · rw [if_neg hb, if_neg (by omega), if_neg (by omega)]
    rw [e]
    exact ih m (v + 1) (by omega) (by omega)
def plf (g : Gx) (dst v : Nat) : Gx := fun b x => if b = 95 ∧ dst ≤ x ∧ x < dst + v then g 96 (x - dst) else g b x
theorem plf_0 (g : Gx) (dst : Nat) : plf g dst 0 = g := by
  funext b x
  unfold plf
  rw [if_neg (by omega)]
theorem md_copy_2 {t j n : Nat} (ht : t < 4) (hj : j + n ≤ 60) (K : Gx → Option (Int × Gx)) (g : Gx) : ∀ (d m v : Nat), v + d = n → d < m → Md_copy_l157 (t : Int) (j : Int) (n : Int) K m (v : Int) (plf g (60 * t + j) v) = K (plf g (60 * t + j) n) := by
  intro d
  induction d with
  | zero =>
    intro m v hv hm
    obtain ⟨m, rfl⟩ : ∃ k, m = k + 1 := ⟨m - 1, by omega⟩
    rw [Md_copy_l157, if_pos (by omega), show v = n by omega]
  | succ d ih =>
    intro m v hv hm
    obtain ⟨m, rfl⟩ : ∃ k, m = k + 1 := ⟨m - 1, by omega⟩
    have hw := (wr3 (s := (t : Int)) (j := (j : Int)) (y := (v : Int)) (by omega) (by omega) (by omega) (by omega) (by omega) (by omega)).2
    have hin : (0 : Int) ≤ 60 * (t : Int) + (j : Int) + (v : Int) ∧ 60 * (t : Int) + (j : Int) + (v : Int) < 240 := by omega
    have hin2 : (0 : Int) ≤ (v : Int) ∧ (v : Int) < 60 := by omega
    rw [Md_copy_l157, if_neg (by omega), hw, if_pos hin2, if_pos hin, wr_id (by omega) (by omega), show (v : Int) + 1 = ((v + 1 : Nat) : Int) by omega, show (60 * (t : Int) + (j : Int) + (v : Int)).toNat = 60 * t + j + v by omega, Int.toNat_natCast]
    have e : gset (plf g (60 * t + j) v) 95 (60 * t + j + v) (plf g (60 * t + j) v 96 v) = plf g (60 * t + j) (v + 1) := by
      funext b x
      simp only [gset, plf]
      by_cases hb : b = 95
      · subst hb
        by_cases hx : x = 60 * t + j + v
        · subst hx
          rw [if_pos rfl, if_pos rfl, if_neg (by omega), if_pos (by omega), show 60 * t + j + v - (60 * t + j) = v by omega]
        · rw [if_pos rfl, if_neg hx]
          by_cases hk : 60 * t + j ≤ x ∧ x < 60 * t + j + v
          · rw [if_pos (by omega), if_pos (by omega)]
          · rw [if_neg (by omega), if_neg (by omega)]
      · rw [if_neg hb, if_neg (by omega), if_neg (by omega)]
    rw [e]
    exact ih m (v + 1) (by omega) (by omega)
theorem has_iff {g : Gx} {s : Nat} (hs : s < 4) (h0 : 0 ≤ g 91 s) (h1 : g 91 s ≤ 60) (i n : Int) : Sh_hasItems (s : Int) i n g = 0 ↔ ¬ (0 ≤ i ∧ 0 ≤ n ∧ i + n ≤ g 91 s) := by
  have q91 : rat g 91 4 (s : Int) = g 91 s := rat_in (by omega) (by omega)
  unfold Sh_hasItems Sh_size
  rw [q91]
  by_cases a : i < 0
  · rw [if_pos a]; simp only [true_iff]; omega
  · rw [if_neg a]
    by_cases b : n < 0
    · rw [if_pos b]; simp only [true_iff]; omega
    · rw [if_neg b]
      by_cases c : g 91 s < i
      · rw [if_pos c]; simp only [true_iff]; omega
      · rw [if_neg c, wr_id (by omega) (by omega)]
        by_cases d : g 91 s - i < n
        · rw [if_pos d]; simp only [true_iff]; omega
        · rw [if_neg d]
          constructor
          · intro h; omega
          · intro h; omega
theorem st_copy {g : Gx} (h : ISh g) (a1 a2 a3 a4 a5 : Int) (o2 : okI a2) (o4 : okI a4) (o5 : okI a5) : ∃ r g1 g2, Op_copy a1 a2 a3 a4 a5 g = some (r, g1) ∧ Md_copy a1 a2 a3 a4 a5 g1 = some (r, g2) ∧ ISh g2 := by
  have fnd : ∀ k : Int, ∃ r g1 g2, (some (wr (-10 - k), gset g 0 12 k) : Option (Int × Gx)) = some (r, g1) ∧ (some (wr (-10 - k), gset g1 92 4 k) : Option (Int × Gx)) = some (r, g2) ∧ ISh g2 := fun k => ⟨_, _, _, rfl, rfl, h.found k⟩
  by_cases hs : 0 ≤ a1 ∧ a1 ≤ 3
  · have hs1 : ¬ Op_isSheet a1 = 0 := fun h9 => isSheet_iff.mp h9 hs
    have hs2 : ¬ Md_isSheet a1 = 0 := fun h9 => mdSheet_iff.mp h9 hs
    by_cases ht : 0 ≤ a3 ∧ a3 ≤ 3
    · have ht1 : ¬ Op_isSheet a3 = 0 := fun h9 => isSheet_iff.mp h9 ht
      have ht2 : ¬ Md_isSheet a3 = 0 := fun h9 => mdSheet_iff.mp h9 ht
      obtain ⟨s, rfl⟩ := Int.eq_ofNat_of_zero_le hs.1
      obtain ⟨t, rfl⟩ := Int.eq_ofNat_of_zero_le ht.1
      have hs4 : s < 4 := by omega
      have ht4 : t < 4 := by omega
      have rs : (0 : Int) ≤ (s : Int) ∧ (s : Int) < 4 := by omega
      have rt : (0 : Int) ≤ (t : Int) ∧ (t : Int) < 4 := by omega
      obtain ⟨x1, x2, x3⟩ := h.2 s hs4
      obtain ⟨y1, y2, y3⟩ := h.2 t ht4
      have q1 : rat g 89 4 (s : Int) = g 89 s := rat_in rs.1 rs.2
      have q2 : rat g 89 4 (t : Int) = g 89 t := rat_in rt.1 rt.2
      have k93 : ∀ k : Int, gset g 0 12 k 93 = g 93 := fun k => gset_ne (by decide)
      have k94 : ∀ k : Int, gset g 0 12 k 94 = g 94 := fun k => gset_ne (by decide)
      by_cases l1 : g 89 s = -1
      · have b1 : ¬ Sh_isLost (s : Int) g = 0 := by simp [Sh_isLost, q1, l1]
        have b2 : gset g 0 12 1 93 s < 0 := by rw [k93, x1]; omega
        refine ⟨wr (-10 - 1), gset g 0 12 1, gset (gset g 0 12 1) 92 4 1, ?_, ?_, h.found 1⟩
        · simp [Op_copy, hs1, ht1, b1, lett, Op_found]
        · simp [Md_copy, hs2, ht2, rs, b2, lett, Md_met]
      · have b1 : Sh_isLost (s : Int) g = 0 := by simp [Sh_isLost, q1, l1]
        have p1 : 0 ≤ g 89 s := by omega
        obtain ⟨x4, x5, x6⟩ := x3 p1
        by_cases l2 : g 89 t = -1
        · have b3 : ¬ Sh_isLost (t : Int) g = 0 := by simp [Sh_isLost, q2, l2]
          have b4 : ¬ gset g 0 12 1 93 s < 0 := by rw [k93, x1]; omega
          have b5 : ¬ 0 ≤ gset g 0 12 1 93 t := by rw [k93, y1]; omega
          refine ⟨wr (-10 - 1), gset g 0 12 1, gset (gset g 0 12 1) 92 4 1, ?_, ?_, h.found 1⟩
          · simp [Op_copy, hs1, ht1, b1, b3, lett, Op_found]
          · simp [Md_copy, hs2, ht2, rs, rt, b4, b5, lett, Md_met]
        · have b3 : Sh_isLost (t : Int) g = 0 := by simp [Sh_isLost, q2, l2]
          have p2 : 0 ≤ g 89 t := by omega
          obtain ⟨y4, y5, y6⟩ := y3 p2
          by_cases ff : g 89 s = g 89 t
          · have c1 : Sh_form (s : Int) g = Sh_form (t : Int) g := by simp [Sh_form, q1, q2, ff]
            by_cases hh : (0 ≤ a2 ∧ 0 ≤ a5 ∧ a2 + a5 ≤ g 91 s) ∧ (0 ≤ a4 ∧ 0 ≤ a5 ∧ a4 + a5 ≤ g 91 t)
            · have d1 : ¬ Sh_hasItems (s : Int) a2 a5 g = 0 := fun h9 => (has_iff hs4 x5.1 x5.2 a2 a5).mp h9 hh.1
              have d2 : ¬ Sh_hasItems (t : Int) a4 a5 g = 0 := fun h9 => (has_iff ht4 y5.1 y5.2 a4 a5).mp h9 hh.2
              obtain ⟨i, rfl⟩ := Int.eq_ofNat_of_zero_le hh.1.1
              obtain ⟨j, rfl⟩ := Int.eq_ofNat_of_zero_le hh.2.1
              obtain ⟨n, rfl⟩ := Int.eq_ofNat_of_zero_le hh.1.2.1
              have mv : Sh_move (s : Int) (i : Int) (t : Int) (j : Int) (n : Int) g = some (cpf g 87 (60 * s + i) (60 * t + j) 0 n) := by
                unfold Sh_move
                rcases Nat.lt_or_ge i j with hij | hij
                · have := sh_move_dn hs4 ht4 (i := i) (j := j) (n := n) (by omega) (by omega) hij (fun g2 => some g2) g n fu 0 (by omega) (fu_big _ (by omega))
                  rw [show n - 0 = n by omega, cpf_nil] at this
                  exact this
                · have := sh_move_up hs4 ht4 (i := i) (j := j) (n := n) (by omega) (by omega) hij (fun g2 => some g2) g n fu 0 (by omega) (fu_big _ (by omega))
                  rw [cpf_nil] at this
                  exact this
              obtain ⟨g1, hg1⟩ : ∃ z, z = cpf g 87 (60 * s + i) (60 * t + j) 0 n := ⟨_, rfl⟩
              have e93 : g1 93 = g 93 := by rw [hg1]; exact cpf_ne (by decide)
              have e94 : g1 94 = g 94 := by rw [hg1]; exact cpf_ne (by decide)
              have e95 : g1 95 = g 95 := by rw [hg1]; exact cpf_ne (by decide)
              refine ⟨1, g1, plf (mvf g1 (60 * s + i) n) (60 * t + j) n, ?_, ?_, ?_⟩
              · simp [Op_copy, hs1, ht1, b1, b3, c1, d1, d2, mv, hg1]
              · have u1 : ¬ g1 93 s < 0 := by rw [e93, x1]; omega
                have u2 : 0 ≤ g1 93 t := by rw [e93, y1]; exact p2
                have u3 : g1 93 s = g1 93 t := by rw [e93, x1, y1, ff]
                have u6 : ¬ g1 93 t < 0 := by omega
                have u4 : ¬ 0 < mcmp (wl ((i : Int) + (n : Int))) (g1 94 s) := by
                  rw [mcmp_gt, wl_id (by omega) (by omega), e94, x4]; omega
                have u5 : mcmp (wl ((j : Int) + (n : Int))) (g1 94 t) ≤ 0 := by
                  have : ¬ 0 < mcmp (wl ((j : Int) + (n : Int))) (g1 94 t) := by
                    rw [mcmp_gt, wl_id (by omega) (by omega), e94, y4]; omega
                  omega
                have r1 := md_copy_1 (c3 := (t : Int)) (c4 := (j : Int)) hs4 (i := i) (n := n) (by omega) (fun g6 => Md_copy_l157 (t : Int) (j : Int) (n : Int) (fun g7 => some (1, g7)) fu 0 g6) g1 n fu 0 (by omega) (fu_big _ (by omega))
                rw [mvf_0] at r1
                have r2 := md_copy_2 ht4 (j := j) (n := n) (by omega) (fun g7 => some ((1 : Int), g7)) (mvf g1 (60 * s + i) n) n fu 0 (by omega) (fu_big _ (by omega))
                rw [plf_0] at r2
                have z0 : ((0 : Nat) : Int) = 0 := rfl
                rw [z0] at r1 r2
                have v1 : ¬ (i : Int) < 0 := by omega
                have v2 : ¬ (j : Int) < 0 := by omega
                have v3 : ¬ (n : Int) < 0 := by omega
                simp only [Md_copy, hs2, ht2, rs, rt, and_self, if_true, if_false, not_false_eq_true, Int.toNat_natCast, u6, u2, u3, u4, u5, v1, v2, v3]
                rw [r1]
                exact r2
              · have w0 : plf (mvf g1 (60 * s + i) n) (60 * t + j) n 0 = g 0 := by
                  funext x; simp [plf, mvf, hg1, cpf]
                have w92 : plf (mvf g1 (60 * s + i) n) (60 * t + j) n 92 = g 92 := by
                  funext x; simp [plf, mvf, hg1, cpf]
                have w93 : plf (mvf g1 (60 * s + i) n) (60 * t + j) n 93 = g 93 := by
                  funext x; simp [plf, mvf, hg1, cpf]
                have w89 : plf (mvf g1 (60 * s + i) n) (60 * t + j) n 89 = g 89 := by
                  funext x; simp [plf, mvf, hg1, cpf]
                have w94 : plf (mvf g1 (60 * s + i) n) (60 * t + j) n 94 = g 94 := by
                  funext x; simp [plf, mvf, hg1, cpf]
                have w91 : plf (mvf g1 (60 * s + i) n) (60 * t + j) n 91 = g 91 := by
                  funext x; simp [plf, mvf, hg1, cpf]
                unfold ISh
                rw [w0, w92, w93, w89, w94, w91]
                refine ⟨h.1, fun z hz => ?_⟩
                obtain ⟨z1, z2, z3⟩ := h.2 z hz
                refine ⟨z1, z2, fun zp => ⟨(z3 zp).1, (z3 zp).2.1, fun k hk => ?_⟩⟩
                have z6 := (z3 zp).2.2 k hk
                have hk60 : k < 60 := by have := (z3 zp).2.1.2; omega
                by_cases hin : 60 * t + j ≤ 60 * z + k ∧ 60 * z + k < 60 * t + j + n
                · have l95 : plf (mvf g1 (60 * s + i) n) (60 * t + j) n 95 (60 * z + k) = g 95 (60 * s + i + (60 * z + k - (60 * t + j))) := by
                    unfold plf
                    rw [if_pos ⟨rfl, hin⟩]
                    unfold mvf
                    rw [if_pos ⟨rfl, by omega⟩, e95]
                  have l87 : plf (mvf g1 (60 * s + i) n) (60 * t + j) n 87 (60 * z + k) = g 87 (60 * s + i + (60 * z + k - (60 * t + j))) := by
                    unfold plf
                    rw [if_neg (by omega)]
                    unfold mvf
                    rw [if_neg (by omega), hg1]
                    unfold cpf
                    rw [if_pos ⟨rfl, by omega, hin.2⟩]
                  rw [l95, l87]
                  have := x6 (i + (60 * z + k - (60 * t + j))) (by omega)
                  rw [show 60 * s + (i + (60 * z + k - (60 * t + j))) = 60 * s + i + (60 * z + k - (60 * t + j)) by omega] at this
                  exact this
                · have l95 : plf (mvf g1 (60 * s + i) n) (60 * t + j) n 95 (60 * z + k) = g 95 (60 * z + k) := by
                    unfold plf
                    rw [if_neg (by omega)]
                    unfold mvf
                    rw [if_neg (by omega), e95]
                  have l87 : plf (mvf g1 (60 * s + i) n) (60 * t + j) n 87 (60 * z + k) = g 87 (60 * z + k) := by
                    unfold plf
                    rw [if_neg (by omega)]
                    unfold mvf
                    rw [if_neg (by omega), hg1]
                    unfold cpf
                    rw [if_neg (by omega)]
                  rw [l95, l87]
                  exact z6
            · have hop : Op_copy (s : Int) a2 (t : Int) a4 a5 g = some (wr (-10 - 2), gset g 0 12 2) := by
                by_cases dd : 0 ≤ a2 ∧ 0 ≤ a5 ∧ a2 + a5 ≤ g 91 s
                · have d1 : ¬ Sh_hasItems (s : Int) a2 a5 g = 0 := fun h9 => (has_iff hs4 x5.1 x5.2 a2 a5).mp h9 dd
                  have d2 : Sh_hasItems (t : Int) a4 a5 g = 0 := (has_iff ht4 y5.1 y5.2 a4 a5).mpr (fun h9 => hh ⟨dd, h9⟩)
                  simp [Op_copy, hs1, ht1, b1, b3, c1, d1, d2, lett, Op_found]
                · have d1 : Sh_hasItems (s : Int) a2 a5 g = 0 := (has_iff hs4 x5.1 x5.2 a2 a5).mpr dd
                  simp [Op_copy, hs1, ht1, b1, b3, c1, d1, lett, Op_found]
              refine ⟨wr (-10 - 2), gset g 0 12 2, gset (gset g 0 12 2) 92 4 2, hop, ?_, h.found 2⟩
              have u1 : ¬ gset g 0 12 2 93 s < 0 := by rw [k93, x1]; omega
              have u2 : 0 ≤ gset g 0 12 2 93 t := by rw [k93, y1]; exact p2
              have u3 : gset g 0 12 2 93 s = gset g 0 12 2 93 t := by rw [k93, x1, y1, ff]
              have u6 : ¬ gset g 0 12 2 93 t < 0 := by omega
              obtain ⟨o21, o22⟩ := o2
              obtain ⟨o41, o42⟩ := o4
              obtain ⟨o51, o52⟩ := o5
              by_cases v1 : a2 < 0
              · simp [Md_copy, hs2, ht2, rs, rt, u6, u2, u3, v1, lett, Md_met]
              · by_cases v2 : a4 < 0
                · simp [Md_copy, hs2, ht2, rs, rt, u6, u2, u3, v1, v2, lett, Md_met]
                · by_cases v3 : a5 < 0
                  · simp [Md_copy, hs2, ht2, rs, rt, u6, u2, u3, v1, v2, v3, lett, Md_met]
                  · by_cases v4 : 0 < mcmp (wl (a2 + a5)) (gset g 0 12 2 94 s)
                    · simp [Md_copy, hs2, ht2, rs, rt, u6, u2, u3, v1, v2, v3, v4, lett, Md_met]
                    · have v5 : ¬ mcmp (wl (a4 + a5)) (gset g 0 12 2 94 t) ≤ 0 := by
                        intro h9
                        have h8 : ¬ 0 < mcmp (wl (a4 + a5)) (gset g 0 12 2 94 t) := by omega
                        rw [mcmp_gt, wl_id (by omega) (by omega), k94, x4] at v4
                        rw [mcmp_gt, wl_id (by omega) (by omega), k94, y4] at h8
                        exact hh ⟨⟨by omega, by omega, by omega⟩, by omega, by omega, by omega⟩
                      simp [Md_copy, hs2, ht2, rs, rt, u6, u2, u3, v1, v2, v3, v4, v5, lett, Md_met]
          · have c1 : ¬ Sh_form (s : Int) g = Sh_form (t : Int) g := by simp [Sh_form, q1, q2, ff]
            have u1 : ¬ gset g 0 12 4 93 s < 0 := by rw [k93, x1]; omega
            have u2 : 0 ≤ gset g 0 12 4 93 t := by rw [k93, y1]; exact p2
            have u3 : ¬ gset g 0 12 4 93 s = gset g 0 12 4 93 t := by rw [k93, x1, y1]; exact ff
            refine ⟨wr (-10 - 4), gset g 0 12 4, gset (gset g 0 12 4) 92 4 4, ?_, ?_, h.found 4⟩
            · simp [Op_copy, hs1, ht1, b1, b3, c1, lett, Op_found]
            · simp [Md_copy, hs2, ht2, rs, rt, u1, u2, u3, lett, Md_met]
    · have ht1 : Op_isSheet a3 = 0 := isSheet_iff.mpr ht
      have ht2 : Md_isSheet a3 = 0 := mdSheet_iff.mpr ht
      exact ⟨-2, g, g, by simp [Op_copy, hs1, ht1], by simp [Md_copy, hs2, ht2], h⟩
  · have hs1 : Op_isSheet a1 = 0 := isSheet_iff.mpr hs
    have hs2 : Md_isSheet a1 = 0 := mdSheet_iff.mpr hs
    exact ⟨-2, g, g, by simp [Op_copy, hs1], by simp [Md_copy, hs2], h⟩
