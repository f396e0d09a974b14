/-! write, count. Own text. -/
theorem shc_eq {g : Gx} {s i : Nat} (hs : s < 4) (hi : i < 60) (v : Int) : Sh_change (s : Int) (i : Int) v g = gset g 87 (60 * s + i) (Md_cut (g 89 s) v) := by
  unfold Sh_change Md_cut
  rw [rat_in (by omega) (by omega), Int.toNat_natCast, show wr ((wr ((s : Int) * 60)) + (i : Int)) = ((60 * s + i : Nat) : Int) by simp (disch := omega) only [wr_id]; omega]
  simp only [rsi (g := g) (c := 87) (n := 240) (i := ((60 * s + i : Nat) : Int)) (by omega) (by omega), Int.toNat_natCast]
  split
  · split <;> rfl
  · rfl
/-- m first items of sheet s in the cell c are those of v; no other is another one -/
def Wrt (c s m : Nat) (v : Nat → Int) (g G : Gx) : Prop := FR [c] g G ∧ (∀ i, i < m → G c (60 * s + i) = v i) ∧ ∀ x, x < 60 * s ∨ 60 * s + m ≤ x → G c x = g c x
theorem Wrt.put {c s m : Nat} {v : Nat → Int} {g G : Gx} (h : Wrt c s m v g G) : Wrt c s (m + 1) v g (gset G c (60 * s + m) (v m)) := by
  obtain ⟨a, b, d⟩ := h
  refine ⟨a.gs (by simp), fun i hi => ?_, fun x hx => ?_⟩
  · by_cases e : i = m
    · subst e; exact gs_same
    · rw [gs_at (by omega)]; exact b i (by omega)
  · rw [gs_at (by omega)]; exact d x (by omega)
theorem wrC {ws : List Int} {k s m f : Nat} {g : Gx} (hw : OkW ws) (hc : WC ws k g) (hs : s < 4) (hm : m ≤ ws.length) (K : Gx → Option (Int × Gx)) : ∀ (d i n : Nat) (G : Gx), i + d = m → d < n → Wrt 87 s i (fun i => Md_cut (g 89 s) (ws.getD i 0)) g G → ∃ G', Op_write_l70 (s : Int) (k : Int) (m : Int) K n (i : Int) G = K G' ∧ Wrt 87 s m (fun i => Md_cut (g 89 s) (ws.getD i 0)) g G' := by
  have l24 := hw.1
  intro d
  induction d with
  | zero =>
    intro i n G hi hn h
    obtain ⟨n, rfl⟩ : ∃ q, n = q + 1 := ⟨n - 1, by omega⟩
    obtain rfl : i = m := by omega
    exact ⟨G, by rw [Op_write_l70, if_pos (by omega)], h⟩
  | succ d ih =>
    intro i n G hi hn h
    obtain ⟨n, rfl⟩ : ∃ q, n = q + 1 := ⟨n - 1, by omega⟩
    have hG : WC ws k G := hc.of (h.1.cell (by decide) (by decide)) (h.1.cell (by decide) (by decide))
    rw [Op_write_l70, if_neg (by omega), hG.2 i (by omega), shc_eq hs (by omega), h.1.cell (q := 89) (by decide) (by decide), lett_eq, wr_id (by omega) (by omega), show (i : Int) + 1 = ((i + 1 : Nat) : Int) by omega]
    exact ih (i + 1) n _ (by omega) (by omega) h.put
theorem wrR {ws : List Int} {k s m : Nat} {g : Gx} (hw : OkW ws) (hr : WR ws k g) (hs : s < 4) (hm : m ≤ ws.length) (K : Gx → Option (Int × Gx)) : ∀ (d i n : Nat) (G : Gx), i + d = m → d < n → Wrt 95 s i (fun i => Md_cut (g 93 s) (ws.getD i 0)) g G → ∃ G', Md_write_l79 (s : Int) (k : Int) (m : Int) K n (i : Int) G = K G' ∧ Wrt 95 s m (fun i => Md_cut (g 93 s) (ws.getD i 0)) g G' := by
  have l24 := hw.1
  intro d
  induction d with
  | zero =>
    intro i n G hi hn h
    obtain ⟨n, rfl⟩ : ∃ q, n = q + 1 := ⟨n - 1, by omega⟩
    obtain rfl : i = m := by omega
    exact ⟨G, by rw [Md_write_l79, if_pos (by omega)], h⟩
  | succ d ih =>
    intro i n G hi hn h
    obtain ⟨n, rfl⟩ : ∃ q, n = q + 1 := ⟨n - 1, by omega⟩
    have hG : WR ws k G := hr.of (h.1.cell (by decide) (by decide)) (h.1.cell (by decide) (by decide))
    rw [Md_write_l79, if_neg (by omega), if_pos (by omega), hG.code hw (by omega), ob_eq]
    simp only
    rw [show wr ((wr (60 * (s : Int))) + (i : Int)) = ((60 * s + i : Nat) : Int) by simp (disch := omega) only [wr_id]; omega, if_pos (by omega), Int.toNat_natCast, Int.toNat_natCast, h.1.cell (q := 93) (by decide) (by decide), wr_id (by omega) (by omega), show (i : Int) + 1 = ((i + 1 : Nat) : Int) by omega]
    exact ih (i + 1) n _ (by omega) (by omega) h.put
theorem st_write {T : Nat} {t pt : List Int} {u : Int} {g : Gx} (h : Inv T t pt u g) (hT : T < 80000) (a1 a2 : Int) : ∃ r g1 g2, Op_write a1 a2 g = some (r, g1) ∧ Md_write a1 a2 g1 = some (r, g2) ∧ Inv (T + 2) t pt u g2 := by
  by_cases c1 : 0 ≤ a1 ∧ a1 ≤ 3
  · have n1 : ¬ Op_isSheet a1 = 0 := fun h9 => isSheet_iff.mp h9 c1
    have n2 : ¬ Md_isSheet a1 = 0 := fun h9 => mdSheet_iff.mp h9 c1
    by_cases c2 : 0 ≤ a2 ∧ a2 ≤ 29
    · have m1 : ¬ Op_isHistory a2 = 0 := fun h9 => isHistory_iff.mp h9 c2
      have m2 : ¬ Md_isHistory a2 = 0 := fun h9 => mdHistory_iff.mp h9 c2
      obtain ⟨s, rfl⟩ := Int.eq_ofNat_of_zero_le c1.1
      have hs : s < 4 := by omega
      obtain ⟨sh1, sh2⟩ := h.2.2.2.2.2.1
      obtain ⟨q1, q2, q3⟩ := sh2 s hs
      have lost : Sh_isLost (s : Int) g = if g 89 s = -1 then 1 else 0 := by
        unfold Sh_isLost
        rw [rat_in (by omega) (by omega), Int.toNat_natCast]
        by_cases e : g 89 s = -1
        · rw [if_neg (fun h9 => h9 e), if_pos e]
        · rw [if_pos e, if_neg e]
      by_cases c3 : g 89 s = -1
      · refine ⟨-11, gset g 0 12 1, gset (gset g 0 12 1) 92 4 1, ?_, ?_, ?_⟩
        · unfold Op_write Op_found
          rw [if_neg n1, if_pos m1, lost, if_pos c3, if_neg (show ¬ (1 : Int) = 0 by decide), lett_eq, wr_id (by decide) (by decide)]
          rfl
        · unfold Md_write Md_met
          rw [if_neg n2, if_pos m2, if_pos (by omega), Int.toNat_natCast, gc (by decide), q1, if_neg (by omega), lett_eq, wr_id (by decide) (by decide)]
          rfl
        · exact (iv_sh h (W := [1012, 6892]) (((FR.rf _ _).go ⟨rfl, by decide⟩).go ⟨rfl, by decide⟩) (met_ok h.2.2.2.2.2.1 1) (by decide) (by decide) (by decide)).more (by omega)
      · have eo : ∀ r g1, Op_hindrance a2 g = some (r, g1) → Op_write (s : Int) a2 g = if r = 0 then Op_write_l70 (s : Int) a2 (imin (Sh_size (s : Int) g1) (Hi_length a2 g1)) (fun g3 => some ((imin (Sh_size (s : Int) g1) (Hi_length a2 g1)), g3)) fu 0 g1 else some (r, g1) := fun r g1 e => by
          unfold Op_write
          rw [if_neg n1, if_pos m1, lost, if_neg c3, if_pos rfl, e, ob_eq]
        have em : ∀ r g1 g2, 0 ≤ g1 93 s → Md_lacksOne a2 g1 = some (r, g2) → Md_write (s : Int) a2 g1 = if r = 0 then (if (g2 94 s) ≤ (g2 110 a2.toNat) then Md_write_l79 (s : Int) a2 (g2 94 s) (fun g3 => some ((g2 94 s), g3)) fu 0 g2 else Md_write_l79 (s : Int) a2 (g2 110 a2.toNat) (fun g4 => some ((g2 110 a2.toNat), g4)) fu 0 g2) else some (r, g2) := fun r g1 g2 hf e => by
          unfold Md_write
          simp only [if_neg n2, if_pos m2, if_pos (show 0 ≤ (s : Int) ∧ (s : Int) < 4 by omega), if_pos (show 0 ≤ a2 ∧ a2 < 30 by omega), Int.toNat_natCast]
          rw [if_pos hf, e, ob_eq]
        rcases hl_ok h hT a2 with ⟨r, g1, g2, a, b, c, d⟩ | ⟨g1, a, b, bb, c⟩
        · refine ⟨r, g1, g2, by rw [eo r g1 b, if_neg a], ?_, d⟩
          rw [em r g1 g2 (by rw [(fr_Op_hindrance _ _ _ _ b).cell (by decide) (by decide)]; omega) c, if_neg a]
        · obtain ⟨b1, b2, b3, b4, b5, b6⟩ := id bb
          obtain ⟨k, rfl⟩ := Int.eq_ofNat_of_zero_le c2.1
          have hk : k < (pD t u).length := by omega
          have hw := ws_ok b4 hk
          have hc := ws_c b4 b3.2.2.2 hk
          obtain ⟨sg1, sg2⟩ := b1.2.2.2.2.2.1
          obtain ⟨p1, p2, p3⟩ := sg2 s hs
          have f89 : g1 89 s = g 89 s := by rw [(fr_Op_hindrance _ _ _ _ b).cell (by decide) (by decide)]
          obtain ⟨p4, p5, p6⟩ := p3 (by omega)
          obtain ⟨z, hz⟩ := Int.eq_ofNat_of_zero_le p5.1
          have em1 : imin (Sh_size (s : Int) g1) (Hi_length (k : Int) g1) = ((min z (gl (pD t u) k).2.length : Nat) : Int) := by
            unfold Sh_size
            rw [rat_in (by omega) (by omega), Int.toNat_natCast, hz, hc.1]
            unfold imin
            split <;> omega
          obtain ⟨g2, x1, x2⟩ := wrC (f := 0) hw hc hs (m := min z (gl (pD t u) k).2.length) (by omega) (fun g3 => some (((min z (gl (pD t u) k).2.length : Nat) : Int), g3)) (min z (gl (pD t u) k).2.length) 0 fu g1 (by omega) (Nat.lt_of_le_of_lt (show min z (gl (pD t u) k).2.length ≤ 24 by have := hw.1; omega) (fu_big _ (by decide))) ⟨FR.rf _ _, fun i hi => by omega, fun _ _ => rfl⟩
          rw [show ((0 : Nat) : Int) = 0 from rfl] at x1
          -- the reference, whose own cells are as they were
          have okd := b2.okd
          have tx2 : TxR t g2 := by
            obtain ⟨y1, y2, y3⟩ := b1.txR
            exact ⟨by rw [x2.1.cell (by decide) (by decide)]; exact y1, y2, by rw [x2.1.cell (by decide) (by decide)]; exact y3⟩
          obtain ⟨u1, u2⟩ := b1.u2
          obtain ⟨gw, ew, -⟩ := b6 g1 b1
          have key : ∃ g3, Md_without g2 = some (0, g3) ∧ HsR (pD t u) (pD t u).length g3 := by
            rcases with_ok b1.txR u1 u2 okd with ⟨_, g', e⟩ | ⟨_, _, g', e⟩ | ⟨hp, nT, _⟩
            · rw [ew] at e; cases e
            · rw [ew] at e; cases e
            · rcases with_ok tx2 (by rw [x2.1.fld (by decide) (by decide)]; exact u1) u2 okd with ⟨n, _⟩ | ⟨_, n, _⟩ | ⟨_, _, g', e, e'⟩
              · exact absurd hp n
              · exact absurd n nT
              · exact ⟨g', e, e'⟩
          obtain ⟨g3, k1, k2⟩ := key
          have fw3 := fr_Md_without _ _ _ k1
          have lk3 : Md_lacksOne (k : Int) g2 = some (0, g3) := by rw [lacks_of k1, if_pos rfl, k2.1, if_neg (by omega)]
          have hr := ws_r b4 k2 hk
          have z94 : g3 94 s = (z : Int) := by rw [fw3.cell (by decide) (by decide), x2.1.cell (by decide) (by decide), p4, hz]
          have z93 : g3 93 s = g1 89 s := by rw [fw3.cell (by decide) (by decide), x2.1.cell (by decide) (by decide), p1]
          obtain ⟨g4, w1, w2⟩ := wrR hw hr hs (m := min z (gl (pD t u) k).2.length) (by omega) (fun g3 => some (((min z (gl (pD t u) k).2.length : Nat) : Int), g3)) (min z (gl (pD t u) k).2.length) 0 fu g3 (by omega) (Nat.lt_of_le_of_lt (show min z (gl (pD t u) k).2.length ≤ 24 by have := hw.1; omega) (fu_big _ (by decide))) ⟨FR.rf _ _, fun i hi => by omega, fun _ _ => rfl⟩
          rw [show ((0 : Nat) : Int) = 0 from rfl] at w1
          have e93 : g2 93 s = g1 89 s := by rw [x2.1.cell (by decide) (by decide), p1]
          refine ⟨_, g2, g4, by rw [eo 0 g1 b, if_pos rfl, em1]; exact x1, ?_, ?_⟩
          · rw [em 0 g2 g3 (by rw [e93]; omega) lk3, if_pos rfl, Int.toNat_natCast, z94, hr.2.1]
            by_cases c5 : z ≤ (gl (pD t u) k).2.length
            · rw [if_pos (by omega)]
              rw [show min z (gl (pD t u) k).2.length = z by omega] at w1 ⊢
              exact w1
            · rw [if_neg (by omega)]
              rw [show min z (gl (pD t u) k).2.length = (gl (pD t u) k).2.length by omega] at w1 ⊢
              exact w1
          · have fa : FR (SCR ++ [87, 95]) g1 g4 := ((x2.1.cl (by decide)).tr (fw3.cl (by decide))).tr (w2.1.cl (by decide))
            refine iv_sh b1 fa ⟨by rw [fa.fld (by decide) (by decide), fa.fld (by decide) (by decide)]; exact sg1, fun s' hs' => ?_⟩ (by decide) (by decide) (by decide)
            obtain ⟨r1, r2, r3⟩ := sg2 s' hs'
            rw [fa.cell (q := 93) (by decide) (by decide), fa.cell (q := 89) (by decide) (by decide), fa.cell (q := 94) (by decide) (by decide), fa.cell (q := 91) (by decide) (by decide)]
            refine ⟨r1, r2, fun h9 => ?_⟩
            obtain ⟨r4, r5, r6⟩ := r3 h9
            refine ⟨r4, r5, fun i hi => ?_⟩
            have c87 : g4 87 = g2 87 := by rw [w2.1.cell (by decide) (by decide), fw3.cell (by decide) (by decide)]
            have c95 : g3 95 = g1 95 := by rw [fw3.cell (by decide) (by decide), x2.1.cell (by decide) (by decide)]
            rw [c87]
            by_cases e : s' = s
            · subst e
              by_cases e2 : i < min z (gl (pD t u) k).2.length
              · rw [w2.2.1 i e2, x2.2.1 i e2, z93]
              · rw [w2.2.2 _ (by omega), x2.2.2 _ (by omega), c95]; exact r6 i hi
            · rw [w2.2.2 _ (by omega), x2.2.2 _ (by omega), c95]; exact r6 i hi
    · have m1 : Op_isHistory a2 = 0 := isHistory_iff.mpr c2
      have m2 : Md_isHistory a2 = 0 := mdHistory_iff.mpr c2
      unfold Op_write Md_write
      simp only [if_neg n1, if_neg n2, if_neg (fun h9 : ¬ Op_isHistory a2 = 0 => h9 m1), if_neg (fun h9 : ¬ Md_isHistory a2 = 0 => h9 m2)]
      exact ⟨-2, g, g, rfl, rfl, h.more (by omega)⟩
  · have n1 : Op_isSheet a1 = 0 := isSheet_iff.mpr c1
    have n2 : Md_isSheet a1 = 0 := mdSheet_iff.mpr c1
    unfold Op_write Md_write
    simp only [if_pos n1, if_pos n2]
    exact ⟨-2, g, g, rfl, rfl, h.more (by omega)⟩
theorem st_count {T : Nat} {t pt : List Int} {u : Int} {g : Gx} (h : Inv T t pt u g) (hT : T < 80000) (a1 : Int) : ∃ r g1 g2, Op_count a1 g = some (r, g1) ∧ Md_count a1 g1 = some (r, g2) ∧ Inv (T + 2) t pt u g2 := by
  obtain ⟨⟨x1, x2, x3, x4, -⟩, -, -, ⟨l1, -⟩, -, ⟨s1, -⟩, ⟨o1, -⟩, -⟩ := id h
  by_cases c4 : a1 = 4
  · subst c4
    obtain ⟨r, g1, g2, e1, e2, e3⟩ := st_histories h hT
    refine ⟨r, g1, g2, ?_, ?_, e3⟩
    · rw [← e1]
      unfold Op_count Op_histories
      simp
    · unfold Md_count
      simp [e2]
  · by_cases c5 : a1 = 5
    · subst c5
      obtain ⟨r, g1, g2, e1, e2, e3⟩ := st_sound h hT
      refine ⟨r, g1, g2, ?_, ?_, e3⟩
      · rw [← e1]
        unfold Op_count Op_sound
        simp
      · unfold Md_count
        simp [e2]
    · have key : ∃ r, Op_count a1 g = some (r, g) ∧ Md_count a1 g = some (r, g) := by
        unfold Op_count Md_count
        rw [if_neg c4, if_pos c5]
        by_cases c0 : a1 < 0 ∨ 8 < a1
        · rw [if_pos c0, if_pos c0]; exact ⟨_, rfl, rfl⟩
        rw [if_neg c0, if_neg c0]
        rcases (show a1 = 0 ∨ a1 = 1 ∨ a1 = 2 ∨ a1 = 3 ∨ a1 = 6 ∨ a1 = 7 ∨ a1 = 8 by omega) with rfl | rfl | rfl | rfl | rfl | rfl | rfl
        · exact ⟨g 1 2, by simp [Tx_length1], by simp; exact x3⟩
        · exact ⟨g 4 2, by simp [Tx_length4], by simp; exact x4⟩
        · exact ⟨g 0 11, by simp, by simp; exact l1⟩
        · exact ⟨g 78 4, by simp [Bd_size], by simp; exact o1⟩
        · exact ⟨-2, by simp, by simp⟩
        · exact ⟨-2, by simp, by simp⟩
        · exact ⟨g 0 12, by simp, by simp; exact s1⟩
      obtain ⟨r, e1, e2⟩ := key
      exact ⟨r, g, g, e1, e2, h.more (by omega)⟩
