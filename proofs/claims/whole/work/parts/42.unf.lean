/-! The reference unfolds all histories, or tells that they are too much. Own text. -/
def HsR (L : List Hy) (n : Nat) (g : Gx) : Prop := g 92 26 = (n : Int) ∧ ∀ k e, k < n → L[k]? = some e → g 110 k = (e.2.length : Int) ∧ (∀ i x, e.2[i]? = some x → g 111 (24 * k + i) = x) ∧ (∀ i p, e.1[i]? = some p → g 112 (30 * k + i) = (p.1 : Int) ∧ g 113 (30 * k + i) = (p.2.2.2 : Int)) ∧ ∀ i, e.1.length ≤ i → i < 30 → g 112 (30 * k + i) = -1
theorem unf_loop {g : Gx} {u : Int} (hu : 0 ≤ u ∧ u ≤ 1073741823) {z : Nat} {D : Ds} (hz : g 92 9 = (z : Int)) (hz2 : z ≤ 160) (hE : EncR g 4 0 z D) (hG : Good (D u)) (K : Gx → Option (Int × Gx)) : ∀ (k h n F : Nat) (G : Gx), h + k = (D u).length → 1 ≤ k → 32 ≤ n + h → h ≤ 30 → AGr g G → HsR (D u) h G → (∀ e, (D u)[h]? = some e → MtR G 0 F e.1) → (∀ j e, j < h → (D u)[j]? = some e → e.1.length ≤ 30 ∧ e.2.length ≤ 24) → (TM (D u) ∧ ∃ G', Md_unfolds_l9 u K n (F : Int) 1 G = some (-4, G')) ∨ (¬ TM (D u) ∧ ∃ G', Md_unfolds_l9 u K n (F : Int) 1 G = K G' ∧ AGr g G' ∧ HsR (D u) (D u).length G') := by
  obtain ⟨g1, g2, g3, g4, g5⟩ := hG
  intro k
  induction k with
  | zero => intro h n F G _ h1; omega
  | succ k ih =>
    intro h n F G hk _ hn hh ag hs hM hw
    obtain ⟨n, rfl⟩ : ∃ q, n = q + 1 := ⟨n - 1, by omega⟩
    have hlt : h < (D u).length := by omega
    obtain ⟨e, he⟩ : ∃ e, (D u)[h]? = some e := ⟨(D u)[h], List.getElem?_eq_getElem hlt⟩
    have hem : e ∈ D u := List.mem_of_getElem? he
    obtain ⟨l1, o1⟩ := g5 e hem
    have l2 := mxw_mem hem
    have hEG : EncR G 4 0 z D := (hE.mono (fun i _ _ => by unfold acA; rw [ag.2.1, ag.2.2.1, ag.2.2.2.1, ag.2.2.2.2.1, ag.2.2.2.2.2.1, ag.2.2.2.2.2.2]; exact ⟨rfl, rfl, rfl, rfl, rfl, fun _ _ => rfl⟩)).2
    obtain ⟨w1, w2⟩ := goes_ok hu (F := F) (by rw [ag.1]; exact hz) hz2 hEG hs.1 hh hem (hM e he)
    rw [Md_unfolds_l9, if_neg (by decide)]
    by_cases ft : Fit 0 0 e
    · obtain ⟨G1, e1, e2, e3⟩ := w1 ft
      have fw := fr_Md_goes (F : Int) u G _ G1 e1
      obtain ⟨f1, f2, f3, f4, f5, f6, f7, f8⟩ := e3
      rw [Nat.zero_add] at f1 f2
      obtain ⟨ft1, ft2⟩ := ft
      rw [Nat.zero_add] at ft1 ft2
      rw [e1, ob_eq]
      simp only
      rw [if_neg (by decide), f8]
      by_cases h30 : h = 30
      · rw [if_neg (by omega)]
        exact Or.inl ⟨Or.inl (by omega), G1, rfl⟩
      · rw [if_pos (by omega), if_pos (by omega), Int.toNat_natCast, f2]
        obtain ⟨G2, hG2⟩ : ∃ G2, G2 = gset G1 110 h (e.2.length : Int) := ⟨_, rfl⟩
        rw [← hG2]
        have a2 : FR [110] G1 G2 := by rw [hG2]; exact FR.gs (FR.rf _ _) (by decide)
        obtain ⟨K1, hK1⟩ : ∃ K1 : Int → Gx → Option (Int × Gx), K1 = fun x3 g4 => lett ((if x3 < 0 then 0 else 1) : Int) (fun y5 => if y5 = 0 then Md_unfolds_l9 u K n (F : Int) y5 g4 else if 0 ≤ x3 ∧ x3 < 30 then (if 0 ≤ x3 ∧ x3 < 30 then Md_unfolds_l9 u K n (wr (x3 + 1)) y5 (gset g4 114 x3.toNat (wr ((g4 114 x3.toNat) + 1))) else none) else none) := ⟨_, rfl⟩
        obtain ⟨G3, r1, r2, r3, r4⟩ := unf_copy (u := u) (F := (F : Int)) (h := h) (c := e.1.length) (by omega) ft1 (fun g2 => Md_unfolds_l151 u (F : Int) K1 fu (wr ((g2 92 35) - 1)) (gset g2 92 26 (wr ((g2 92 26) + 1)))) 30 0 fu G2 (by omega) (fu_big _ (by omega)) (by rw [a2.fld (by decide) (by decide)]; exact f8) (by rw [a2.fld (by decide) (by decide)]; exact f1)
        rw [show ((0 : Nat) : Int) = 0 from rfl, hK1] at r1
        rw [r1, ← hK1]
        have c35 : G3 92 35 = (e.1.length : Int) := by rw [r4.fld (by decide) (by decide), a2.fld (by decide) (by decide)]; exact f1
        have c26 : G3 92 26 = (h : Int) := by rw [r4.fld (by decide) (by decide), a2.fld (by decide) (by decide)]; exact f8
        rw [c35, c26, wr_id (x := (e.1.length : Int) - 1) (by omega) (by omega), wr_id (x := (h : Int) + 1) (by omega) (by omega)]
        obtain ⟨G4, hG4⟩ : ∃ G4, G4 = gset G3 92 26 ((h : Int) + 1) := ⟨_, rfl⟩
        rw [← hG4]
        have a4 : FR [6914] G3 G4 := by rw [hG4]; exact FR.go (FR.rf _ _) ⟨rfl, by decide⟩
        have all : FR [110, 112, 113, 6914] G1 G4 := ((a2.cl (by decide)).tr (r4.cl (by decide))).tr (a4.cl (by decide))
        have ag4 : AGr g G4 := (AGr.fr (⟨e2.1.trans ag.1, e2.2.1.trans ag.2.1, e2.2.2.1.trans ag.2.2.1, e2.2.2.2.1.trans ag.2.2.2.1, e2.2.2.2.2.1.trans ag.2.2.2.2.1, e2.2.2.2.2.2.1.trans ag.2.2.2.2.2.1, e2.2.2.2.2.2.2.trans ag.2.2.2.2.2.2⟩ : AGr g G1) all (by decide))
        have p114 : ∀ i p, e.1[i]? = some p → G4 114 i = (p.1 : Int) ∧ G4 115 i = (p.2.2.1 : Int) - 1 := fun i p hp => by
          have := f7 i p hp
          rw [Nat.zero_add] at this
          rw [all.cell (by decide) (by decide), all.cell (by decide) (by decide)]
          exact ⟨this.1, this.2.1⟩
        have rec4 : HsR (D u) (h + 1) G4 := by
          refine ⟨by rw [hG4]; simp [gset], fun k' e' hk' he' => ?_⟩
          have c111 : G4 111 = G1 111 := all.cell (by decide) (by decide)
          have c110 : ∀ j, G4 110 j = G2 110 j := fun j => by rw [a4.cell (by decide) (by decide), r4.cell (by decide) (by decide)]
          have c112 : ∀ j, G4 112 j = G3 112 j := fun j => by rw [a4.cell (by decide) (by decide)]
          have c113 : ∀ j, G4 113 j = G3 113 j := fun j => by rw [a4.cell (by decide) (by decide)]
          by_cases hkh : k' = h
          · subst hkh
            rw [he] at he'; cases he'
            refine ⟨by rw [c110, hG2, gs_same], fun i x hx => ?_, fun i p hp => ?_, fun i hi hi2 => ?_⟩
            · have := f3 (by omega) i x hx
              rw [Nat.add_zero] at this
              rw [c111]; exact this
            · have hil : i < e.1.length := (List.getElem?_eq_some_iff.mp hp).1
              have := f7 i p hp
              rw [Nat.zero_add] at this
              rw [c112, c113, (r2 i (by omega) (by omega)).1, (r2 i (by omega) (by omega)).2, if_pos hil, if_pos hil, a2.cell (by decide) (by decide), a2.cell (by decide) (by decide)]
              exact ⟨this.1, this.2.2⟩
            · rw [c112, (r2 i (by omega) hi2).1, if_neg (by omega)]
          · obtain ⟨d1, d2, d3, d4⟩ := hs.2 k' e' (by omega) he'
            have l3 := hw k' e' (by omega) he'
            have ne : k' ≠ h := hkh
            have old112 : ∀ j, j < 30 * h → G4 112 j = G 112 j ∧ G4 113 j = G 113 j := fun j hj => by
              rw [c112, c113, (r3 j (by omega)).1, (r3 j (by omega)).2, a2.cell (by decide) (by decide), a2.cell (by decide) (by decide), fw.cell (by decide) (by decide), fw.cell (by decide) (by decide)]
              exact ⟨rfl, rfl⟩
            refine ⟨?_, fun i x hx => ?_, fun i p hp => ?_, fun i hi hi2 => ?_⟩
            · rw [c110, hG2, gi ne, fw.cell (by decide) (by decide)]; exact d1
            · have hil : i < e'.2.length := (List.getElem?_eq_some_iff.mp hx).1
              rw [c111, f4 _ (by omega)]
              exact d2 i x hx
            · have hil : i < e'.1.length := (List.getElem?_eq_some_iff.mp hp).1
              rw [(old112 (30 * k' + i) (by omega)).1, (old112 (30 * k' + i) (by omega)).2]
              exact d3 i p hp
            · rw [(old112 (30 * k' + i) (by omega)).1]
              exact d4 i hi hi2
        by_cases hlast : h + 1 = (D u).length
        · have hmx : ∀ p ∈ e.1, mxp p := g3 e (by rw [List.getLast?_eq_getElem?, show (D u).length - 1 = h by omega]; exact he)
          have hx := unf_max (u := u) (F := (F : Int)) (g := G4) (ps := e.1) ft1 p114 K1 e.1.length (fu - e.1.length) (Nat.le_refl _) (fun i p _ hp => hmx p (List.mem_of_getElem? hp))
          have big : 30 < fu := fu_big _ (by decide)
          obtain ⟨f, hf⟩ : ∃ f, fu - e.1.length = f + 1 := ⟨fu - e.1.length - 1, by omega⟩
          rw [show fu - e.1.length + e.1.length = fu by omega] at hx
          rw [hx, hf, Md_unfolds_l151, if_pos (by omega), hK1]
          simp only
          rw [lett_eq, if_pos (show (e.1.length : Int) - 1 - (e.1.length : Int) < 0 by omega), if_pos rfl]
          obtain ⟨n, rfl⟩ : ∃ q, n = q + 1 := ⟨n - 1, by omega⟩
          rw [Md_unfolds_l9, if_pos rfl]
          have nt : ¬ TM (D u) := by
            rintro (h9 | h9)
            · omega
            · obtain ⟨y, hy, hy2⟩ := mxw_wit g1
              obtain ⟨j, hj⟩ := List.mem_iff_getElem?.mp hy
              have hjl : j < (D u).length := (List.getElem?_eq_some_iff.mp hj).1
              by_cases hjh : j = h
              · subst hjh; rw [he] at hj; cases hj; omega
              · have := hw j y (by omega) hj; omega
          rw [hlast] at rec4
          exact Or.inr ⟨nt, G4, rfl, ag4, rec4⟩
        · obtain ⟨e', he'⟩ : ∃ e', (D u)[h + 1]? = some e' := ⟨(D u)[h + 1], List.getElem?_eq_getElem (by omega)⟩
          obtain ⟨pre, w, c, m, t, suf, suf', n1, n2, n3, n4, n5⟩ := adj_get g4 he he'
          have hlen : e.1.length = pre.length + 1 + suf.length := by rw [n1]; simp; omega
          have hat : e.1[pre.length]? = some (w, c, m, t) := by rw [n1, List.getElem?_append_right (Nat.le_refl _)]; simp
          have hmem : (w, c, m, t) ∈ e.1 := List.mem_of_getElem? hat
          have ow := o1 _ hmem
          have w4 : w < 4 := by unfold okp at ow; simp only at ow; omega
          obtain ⟨q1, q2⟩ := p114 _ _ hat
          have q1 : G4 114 pre.length = (w : Int) := q1
          have q2 : G4 115 pre.length = (m : Int) - 1 := q2
          have hx := unf_max (u := u) (F := (F : Int)) (g := G4) (ps := e.1) ft1 p114 K1 suf.length (fu - suf.length) (by omega) (fun i p hi hip => by
            have : p ∈ suf := by
              rw [n1, List.getElem?_append_right (by omega)] at hip
              obtain ⟨k, hk⟩ : ∃ k, i - pre.length = k + 1 := ⟨i - pre.length - 1, by omega⟩
              rw [hk] at hip
              exact List.mem_of_getElem? (i := k) (by simpa using hip)
            exact n4 p this)
          have big : 30 < fu := fu_big _ (by decide)
          obtain ⟨f, hf⟩ : ∃ f, fu - suf.length = f + 1 := ⟨fu - suf.length - 1, by omega⟩
          rw [show fu - suf.length + suf.length = fu by omega] at hx
          rw [hx, hf, show (e.1.length : Int) - 1 - (suf.length : Int) = (pre.length : Int) by omega, Md_unfolds_l151, if_neg (by omega), if_pos (by omega), if_pos (by omega), Int.toNat_natCast, q1, q2, if_pos (by omega), hK1]
          simp only
          rw [lett_eq, if_neg (show ¬ (pre.length : Int) < 0 by omega), if_neg (by decide), if_pos (by omega), if_pos (by omega), Int.toNat_natCast, q1, wr_id (x := (w : Int) + 1) (by omega) (by omega), wr_id (x := (pre.length : Int) + 1) (by omega) (by omega), show (pre.length : Int) + 1 = ((pre.length + 1 : Nat) : Int) by omega]
          obtain ⟨G5, hG5⟩ : ∃ G5, G5 = gset G4 114 pre.length ((w : Int) + 1) := ⟨_, rfl⟩
          rw [← hG5]
          have a5 : FR [114] G4 G5 := by rw [hG5]; exact FR.gs (FR.rf _ _) (by decide)
          have rec5 : HsR (D u) (h + 1) G5 := by
            refine ⟨by rw [a5.fld (by decide) (by decide)]; exact rec4.1, fun k' e2 hk2 he2 => ?_⟩
            rw [a5.cell (q := 110) (by decide) (by decide), a5.cell (q := 111) (by decide) (by decide), a5.cell (q := 112) (by decide) (by decide), a5.cell (q := 113) (by decide) (by decide)]
            exact rec4.2 k' e2 hk2 he2
          refine ih (h + 1) n (pre.length + 1) G5 (by omega) (by omega) (by omega) (by omega) (ag4.fr a5 (by decide)) rec5 (fun e2 he2 i p hp => ?_) (fun j y hj hy => ?_)
          · rw [he'] at he2; cases he2
            rw [Nat.zero_add]
            refine ⟨fun hi => ?_, fun hi => ?_⟩
            · rcases Nat.lt_or_ge i pre.length with h9 | h9
              · have ne : i ≠ pre.length := by omega
                rw [n2, List.getElem?_append_left h9] at hp
                have := (p114 i p (by rw [n1, List.getElem?_append_left h9]; exact hp)).1
                simp [hG5, gset, ne]; exact this
              · have ie : i = pre.length := by omega
                subst ie
                rw [n2, List.getElem?_append_right (Nat.le_refl _)] at hp
                simp at hp
                subst hp
                simp [hG5, gset]
            · rw [n2, List.getElem?_append_right (by omega)] at hp
              obtain ⟨q, hq⟩ : ∃ q, i - pre.length = q + 1 := ⟨i - pre.length - 1, by omega⟩
              rw [hq] at hp
              exact n5 p (List.mem_of_getElem? (i := q) (by simpa using hp))
          · by_cases hjh : j = h
            · subst hjh; rw [he] at hy; cases hy; exact ⟨ft1, ft2⟩
            · exact hw j y (by omega) hy
    · obtain ⟨G1, e1⟩ := w2 ft
      rw [e1, ob_eq]
      simp only
      rw [if_pos trivial]
      refine Or.inl ⟨?_, G1, rfl⟩
      unfold Fit at ft
      unfold TM
      omega
theorem unfolds_ok {g : Gx} {u : Int} (hu : 0 ≤ u ∧ u ≤ 1073741823) {z : Nat} {D : Ds} (hz : g 92 9 = (z : Int)) (hz2 : z ≤ 160) (hE : EncR g 4 0 z D) (hG : Good (D u)) : (TM (D u) ∧ ∃ g', Md_unfolds u g = some (-4, g')) ∨ (¬ TM (D u) ∧ ∃ g', Md_unfolds u g = some (0, g') ∧ AGr g g' ∧ HsR (D u) (D u).length g') := by
  unfold Md_unfolds
  have f1 : FR [6914] g (gset g 92 26 0) := FR.go (FR.rf _ _) ⟨rfl, by decide⟩
  have pl := good_pos hG
  have := unf_loop hu hz hz2 hE hG (fun g6 => some (0, g6)) (D u).length 0 fu 0 (gset g 92 26 0) (by omega) pl (Nat.le_of_lt (fu_big 32 (by decide))) (by omega) (AGr.fr ⟨rfl, rfl, rfl, rfl, rfl, rfl, rfl⟩ f1 (by decide)) ⟨by simp [gset], fun k e hk => by omega⟩ (fun e he i p hp => ⟨fun h9 => by omega, fun _ => hG.2.1 e (by rw [List.head?_eq_getElem?]; exact he) p (List.mem_of_getElem? hp)⟩) (fun j e hj => by omega)
  exact this
