/-! ask. Own text. -/
def bsT (U : Nat → Nat) : Nat → Nat
  | 0 => 0
  | t + 1 => if U t ≤ U (bsT U t) then bsT U t else t
theorem bsT_lt (U : Nat → Nat) : ∀ t, bsT U t ≤ t := by
  intro t
  induction t with
  | zero => exact Nat.le_refl _
  | succ t ih => rw [bsT]; split <;> omega
theorem askC {L : List Hy} {g : Gx} (hL : OkL L) (h : HsC L L.length g) {m : Nat} (hm : m < 2147483648) : ∃ g', Lk_mostTelling (m : Int) g = some ((bsT (fun t => unl L t m L.length) 6 : Int), g') := by
  unfold Lk_mostTelling
  have one : ∀ (t : Nat) (G : Gx), t < 6 → FR [52, 54] g G → ∃ G', Lk_load (t : Int) G = some G' ∧ Lk_unlike (m : Int) G' = some ((unl L t m L.length : Int), G') ∧ FR [52, 54] g G' := by
    intro t G ht fr
    have hG : HsC L L.length G := h.of (fr.fld (by decide) (by decide)) (fr.cell (by decide) (by decide)) (fr.cell (by decide) (by decide)) (fr.cell (by decide) (by decide)) (fr.cell (by decide) (by decide))
    obtain ⟨G', e1, e2⟩ := load_ok hL hG.wd ht
    have fr2 := fr.tr (fr_Lk_load _ _ _ e1)
    exact ⟨G', e1, unlC_ok hL e2 (by rw [fr2.fld (by decide) (by decide)]; exact h.1) hm, fr2⟩
  have lp : ∀ (d t n : Nat) (G : Gx), t + 1 + d = 6 → d < n → FR [52, 54] g G → ∃ g', Lk_mostTelling_l7 (m : Int) (fun x3 g4 => some (x3, g4)) n (bsT (fun t => unl L t m L.length) (t + 1) : Int) (unl L (bsT (fun t => unl L t m L.length) (t + 1)) m L.length : Int) ((t + 1 : Nat) : Int) G = some ((bsT (fun t => unl L t m L.length) 6 : Int), g') := by
    intro d
    induction d with
    | zero =>
      intro t n G ht hn fr
      obtain ⟨n, rfl⟩ : ∃ q, n = q + 1 := ⟨n - 1, by omega⟩
      obtain rfl : t = 5 := by omega
      exact ⟨G, by rw [Lk_mostTelling_l7, if_pos (by decide)]⟩
    | succ d ih =>
      intro t n G ht hn fr
      obtain ⟨n, rfl⟩ : ∃ q, n = q + 1 := ⟨n - 1, by omega⟩
      obtain ⟨G', e1, e2, e3⟩ := one (t + 1) G (by omega) fr
      have nx := ih (t + 1) n G' (by omega) (by omega) e3
      rw [bsT] at nx
      rw [Lk_mostTelling_l7, if_neg (by omega), e1, ob_eq, e2, ob_eq]
      simp only
      rw [wr_id (by omega) (by omega), show ((t + 1 : Nat) : Int) + 1 = ((t + 1 + 1 : Nat) : Int) by omega]
      by_cases c : unl L (t + 1) m L.length ≤ unl L (bsT (fun t => unl L t m L.length) (t + 1)) m L.length
      · rw [if_pos (by omega)]
        rw [if_pos c] at nx
        exact nx
      · rw [if_neg (by omega)]
        rw [if_neg c] at nx
        exact nx
  obtain ⟨G', e1, e2, e3⟩ := one 0 g (by decide) (FR.rf _ _)
  obtain ⟨n, hn, hn2⟩ : ∃ n, fu = n + 1 ∧ 5 < n := ⟨999999, rfl, by decide⟩
  rw [hn]
  have nx := lp 5 0 n G' (by omega) (by omega) e3
  have b1 : bsT (fun t => unl L t m L.length) (0 + 1) = 0 := by simp [bsT]
  rw [b1] at nx
  rw [show ((0 : Nat) : Int) = 0 from rfl] at e1
  rw [Lk_mostTelling_l7, if_neg (by decide), e1, ob_eq, e2, ob_eq]
  simp only
  rw [wr_id (by decide) (by decide), show (0 : Int) + 1 = ((0 + 1 : Nat) : Int) from rfl]
  by_cases c : unl L 0 m L.length = 0
  · rw [if_pos (by omega)]
    rw [c, show ((0 : Nat) : Int) = 0 from rfl] at nx
    exact nx
  · rw [if_neg (by omega)]
    rw [show ((0 : Nat) : Int) = 0 from rfl] at nx
    exact nx
theorem askR {L : List Hy} {g : Gx} (hL : OkL L) (hk : LkR L g) (hz : g 92 26 = (L.length : Int)) {m : Nat} (hm : m < 2147483648) : Md_ask_l64 (m : Int) (fun x9 g10 => some (x9, g10)) fu 0 1 g = some ((bsT (fun t => unl L t m L.length) 6 : Int), g) := by
  have lp : ∀ (d t n : Nat), t + 1 + d = 6 → d < n → Md_ask_l64 (m : Int) (fun x9 g10 => some (x9, g10)) n (bsT (fun t => unl L t m L.length) (t + 1) : Int) ((t + 1 : Nat) : Int) g = some ((bsT (fun t => unl L t m L.length) 6 : Int), g) := by
    intro d
    induction d with
    | zero =>
      intro t n ht hn
      obtain ⟨n, rfl⟩ : ∃ q, n = q + 1 := ⟨n - 1, by omega⟩
      obtain rfl : t = 5 := by omega
      rw [Md_ask_l64, if_pos (by decide)]
    | succ d ih =>
      intro t n ht hn
      obtain ⟨n, rfl⟩ : ∃ q, n = q + 1 := ⟨n - 1, by omega⟩
      have bl := bsT_lt (fun t => unl L t m L.length) (t + 1)
      have nx := ih (t + 1) n (by omega) (by omega)
      rw [bsT] at nx
      rw [Md_ask_l64, if_neg (by omega), unlR_ok hL hk (by omega) hz hm, ob_eq]
      simp only
      rw [unlR_ok hL hk (show bsT (fun t => unl L t m L.length) (t + 1) < 6 by omega) hz hm, ob_eq]
      simp only
      rw [wr_id (by omega) (by omega), show ((t + 1 : Nat) : Int) + 1 = ((t + 1 + 1 : Nat) : Int) by omega]
      by_cases c : unl L (t + 1) m L.length ≤ unl L (bsT (fun t => unl L t m L.length) (t + 1)) m L.length
      · rw [if_pos (by omega)]
        rw [if_pos c] at nx
        exact nx
      · rw [if_neg (by omega)]
        rw [if_neg c] at nx
        exact nx
  have nx := lp 5 0 fu (by omega) (fu_big _ (by decide))
  have b1 : bsT (fun t => unl L t m L.length) (0 + 1) = 0 := by simp [bsT]
  rw [b1] at nx
  exact nx
theorem st_ask {T : Nat} {t pt : List Int} {u : Int} {g : Gx} (h : Inv T t pt u g) (hT : T < 80000) : ∃ r g1 g2, Op_ask g = some (r, g1) ∧ Md_ask g1 = some (r, g2) ∧ Inv (T + 2) t pt u g2 := by
  unfold Op_ask
  rcases hw_ok h hT 0 with ⟨r, g1, g2, a, b, c', d, e⟩ | ⟨g1, a, b⟩
  · rw [b, ob_eq]
    simp only
    rw [if_neg (by omega)]
    unfold Md_ask
    rcases a with rfl | rfl
    · refine ⟨-3, g1, g2, by rw [if_pos (by decide)], ?_, e⟩
      rw [d, ob_eq]; simp only; rw [if_neg (by decide), if_pos (by decide)]
    · refine ⟨-1, g1, g2, by rw [if_neg (fun h9 => h9 rfl)], ?_, e⟩
      rw [d, ob_eq]; simp only; rw [if_neg (by decide), if_neg (fun h9 => h9 trivial)]
  · have hl := b.2.2.2.1.1
    have hL := b.2.2.2.1
    have h30 := hL.2.1
    have hs := b.2.2.1.2.2.2
    obtain ⟨sz, f, o, B, g2, g3, e1, e2, e3, e4, e5, e6, e7, e8, e9, e10, e11, e12, e13, e14, e15, e16⟩ := log_both b
    have mb := mbC e7 h30 e8
    obtain ⟨r, q1, q2⟩ := lbC e7 h30 e8 (mxB B (pD t u).length)
    have ll : Bd_leftAtLast g2 = some ((r : Int), g2) := by
      unfold Bd_leftAtLast
      rw [mb, ob_eq]; simp only; rw [q1, ob_eq]
    have hs2 : HsC (pD t u) (pD t u).length g2 := hs.of (e11.fld (by decide) (by decide)) (e11.cell (by decide) (by decide)) (e11.cell (by decide) (by decide)) (e11.cell (by decide) (by decide)) (e11.cell (by decide) (by decide))
    have f1 : ∀ G, Inv (T + 2) t pt u G → FR [52, 54] g2 G → ∃ g4 g5 g6, Md_without G = some (0, g4) ∧ Inv (T + 2) t pt u g6 ∧ HsR (pD t u) (pD t u).length g6 ∧ Md_outOf g4 = some (if mxB B (pD t u).length < sz then (mxB B (pD t u).length : Int) else -1, g5) ∧ g5 92 48 = (sz : Int) ∧ Md_leftBy (mxB B (pD t u).length : Int) g5 = some ((r : Int), g6) := by
      intro G iG fG
      obtain ⟨g4, y, z, w, x⟩ := b.2.2.2.2.2 G iG
      have x48 : g4 92 48 = (sz : Int) := by rw [x.fld (by decide) (by decide), iG.2.2.2.2.2.2.1.1, fG.fld (by decide) (by decide)]; exact e9
      have x127 : ∀ i, i < sz → g4 127 i = g1 80 i := fun i hi => by
        have := (z.2.2.2.2.2.2.1.2.2 i (by rw [← z.2.2.2.2.2.2.1.1, x48]; omega)).1
        rw [this, x.cell (by decide) (by decide), fG.cell (by decide) (by decide), e10]
      obtain ⟨g5, p1⟩ := outR hL w e2 x48 x127
      rw [← e3] at p1
      have fo := fr_Md_outOf _ _ _ p1
      have w5 : HsR (pD t u) (pD t u).length g5 := by
        obtain ⟨x1, x2⟩ := w
        refine ⟨by rw [fo.fld (by decide) (by decide)]; exact x1, ?_⟩
        rw [fo.cell (q := 110) (by decide) (by decide), fo.cell (q := 111) (by decide) (by decide), fo.cell (q := 112) (by decide) (by decide), fo.cell (q := 113) (by decide) (by decide)]
        exact x2
      have hmb : mxB B (pD t u).length ≤ sz := mxB_le e4 _
      obtain ⟨r', g6, s1, s2⟩ := lbR hL w5 e2 (fun i hi => by rw [fo.cell (q := 127) (by decide) (by decide)]; exact x127 i hi) (n := mxB B (pD t u).length) hmb
      rw [← e3] at s2
      have er := q2.one s2
      have fl := fr_Md_leftBy _ _ _ _ s1
      refine ⟨g4, g5, g6, y, (z.fr (fo.cl (by decide))).fr (fl.cl (by decide)), ?_, p1, by rw [fo.fld (by decide) (by decide)]; exact x48, by rw [er]; exact s1⟩
      obtain ⟨x1, x2⟩ := w5
      refine ⟨by rw [fl.fld (by decide) (by decide)]; exact x1, ?_⟩
      rw [fl.cell (q := 110) (by decide) (by decide), fl.cell (q := 111) (by decide) (by decide), fl.cell (q := 112) (by decide) (by decide), fl.cell (q := 113) (by decide) (by decide)]
      exact x2
    rw [a, ob_eq]
    simp only
    rw [if_neg (show ¬ ((pD t u).length : Int) ≤ 0 by omega), if_pos rfl, e5, ob_eq, ll, ob_eq]
    simp only
    rw [bc_ok q2.1]
    have hmb : mxB B (pD t u).length ≤ sz := mxB_le e4 _
    have ey : ∀ g5 : Gx, g5 92 48 = (sz : Int) → (if ¬ (if mxB B (pD t u).length < sz then (mxB B (pD t u).length : Int) else -1) = (-1) then (if mxB B (pD t u).length < sz then (mxB B (pD t u).length : Int) else -1) else (g5 92 48)) = (mxB B (pD t u).length : Int) := fun g5 h5 => by
      by_cases c : mxB B (pD t u).length < sz
      · rw [if_pos c, if_pos (by omega)]
      · rw [if_neg c, if_neg (fun h9 => h9 rfl), h5]; omega
    by_cases c : pc30 r = 1
    · rw [if_neg (fun h9 => h9 (by omega))]
      obtain ⟨g4, g5, g6, y1, y2, y3, y4, y5, y6⟩ := f1 g2 e6 (FR.rf _ _)
      refine ⟨-1, g2, g6, rfl, ?_, y2⟩
      unfold Md_ask
      rw [y1, ob_eq]
      simp only
      rw [if_pos trivial, y4, ob_eq]
      simp only
      rw [ey g5 y5, lett_eq, y6, ob_eq]
      simp only
      rw [ones_ok q2.1, ob_eq]
      simp only
      rw [if_neg (fun h9 => h9 (by omega))]
    · rw [if_pos (by omega)]
      obtain ⟨G, t1⟩ := askC hL hs2 (m := r) (by have := q2.1; omega)
      have fG := fr_Lk_mostTelling _ _ _ _ t1
      rw [t1, ob_eq]
      obtain ⟨g4, g5, g6, y1, y2, y3, y4, y5, y6⟩ := f1 G (e6.fr (fG.cl (by decide))) fG
      obtain ⟨g7, z1, z2⟩ := find_ok hL y3.wd
      have ff := fr_Md_findLooks _ _ z1
      refine ⟨_, G, g7, rfl, ?_, y2.fr (ff.cl (by decide))⟩
      unfold Md_ask
      rw [y1, ob_eq]
      simp only
      rw [if_pos trivial, y4, ob_eq]
      simp only
      rw [ey g5 y5, lett_eq, y6, ob_eq]
      simp only
      rw [ones_ok q2.1, ob_eq]
      simp only
      rw [if_pos (by omega), z1, ob_eq, askR hL z2 (by rw [ff.fld (by decide) (by decide)]; exact y3.1) (by have := q2.1; omega)]
