/-! The class makes all histories. Own text. -/
def PkG (g : Gx) (p : Pk) : Prop := p.2.1 < 40 ∧ g 15 p.2.1 = (p.2.2.1 : Int) ∧ g 13 p.2.1 = (p.2.2.2 : Int)
theorem EncC.pk {g : Gx} {d lo hi cl ch : Nat} {D : Ds} (h : EncC g d lo hi cl ch D) : ∀ u, ∀ e ∈ D u, ∀ p ∈ e.1, PkG g p := by
  have seq : ∀ A B : Ds, (∀ u, ∀ e ∈ A u, ∀ p ∈ e.1, PkG g p) → (∀ u, ∀ e ∈ B u, ∀ p ∈ e.1, PkG g p) → ∀ u, ∀ e ∈ dseq A B u, ∀ p ∈ e.1, PkG g p := fun A B h1 h2 u e he p hp => by
    obtain ⟨a, ha, b, hb, rfl⟩ := mem_lseq.mp he
    rcases List.mem_append.mp hp with h | h
    · exact h1 u a ha p h
    · exact h2 u b hb p h
  refine h (fun _ _ _ _ _ D => ∀ u, ∀ e ∈ D u, ∀ p ∈ e.1, PkG g p) ?_ ?_ ?_ ?_ ?_
  · intro d lo cl u e he p hp
    simp [dnil] at he; subst he; cases hp
  · intro d lo mid hi cl cm ch A B h1 h2
    exact seq A B h1 h2
  · intro d lo cl c _ _ _ u e he p hp
    simp [dsay] at he; subst he; cases hp
  · intro d lo c t m W s e cs a1 a2 a3 a4 a5 a6 a7 a8 a9 b1 b2 b3 b4 b5 b6 b7 b8 u y hy p hp
    obtain ⟨i, -, hi, x, hx, rfl⟩ := mem_lch.mp hy
    rcases List.mem_cons.mp hp with h | h
    · rw [h]; exact ⟨a3, a8, a7⟩
    · exact b4 i (by omega) u x hx p h
  · intro d lo hi cl ch k A a1 a2 a3 a4 a5 a6 a7 a8
    have : ∀ k, ∀ u, ∀ e ∈ drep k A u, ∀ p ∈ e.1, PkG g p := by
      intro k
      induction k with
      | zero => intro u e he p hp; simp [drep, dnil] at he; subst he; cases hp
      | succ k ih => exact seq A (drep k A) a5 ih
    exact this k
/-- the picks of a history, as the class has them -/
def PthC (g : Gx) (ps : List Pk) : Prop := ∀ i p, ps[i]? = some p → g 39 i = (p.1 : Int) ∧ g 41 i = (p.2.1 : Int)
theorem turn_max {g : Gx} {h : Int} {ps : List Pk} (hl : ps.length ≤ 30) (hp : PthC g ps) (hk : ∀ p ∈ ps, PkG g p) (hw : ∀ p ∈ ps, p.1 < 4) (K : Gx → Option (Int × Gx)) : ∀ (j n : Nat), j ≤ ps.length → (∀ i p, ps.length - j ≤ i → ps[i]? = some p → mxp p) → Hi_turn_l7 h K (n + j) ((ps.length : Int) - 1) g = Hi_turn_l7 h K n ((ps.length : Int) - 1 - (j : Int)) g := by
  intro j
  induction j with
  | zero => intro n _ _; simp
  | succ j ih =>
    intro n hj hm
    rw [show n + (j + 1) = n + 1 + j by omega, ih (n + 1) (by omega) (fun i p hi hip => hm i p (by omega) hip)]
    obtain ⟨i, hi⟩ : ∃ i, i = ps.length - 1 - j := ⟨_, rfl⟩
    have hlt : i < ps.length := by omega
    obtain ⟨p, hp1⟩ : ∃ p, ps[i]? = some p := ⟨ps[i], List.getElem?_eq_getElem hlt⟩
    have hpm : p ∈ ps := List.mem_of_getElem? hp1
    obtain ⟨q1, q2⟩ := hp i p hp1
    obtain ⟨k1, k2, k3⟩ := hk p hpm
    have hmx : p.1 + 1 = p.2.2.1 := hm i p (by omega) hp1
    have hw4 := hw p hpm
    rw [show (ps.length : Int) - 1 - (j : Int) = (i : Int) by omega, Hi_turn_l7, if_neg (by omega), rat_in (c := 41) (by omega) (by omega), rat_in (c := 39) (by omega) (by omega), Int.toNat_natCast, q1, q2]
    unfold St_wayCount
    rw [rat_in (c := 15) (by omega) (by omega), Int.toNat_natCast, k2, wr_id (by omega) (by omega), if_pos (by omega), wr_id (by omega) (by omega)]
    congr 1
    omega
theorem turn_no {g : Gx} {h : Nat} {ps : List Pk} (hc : g 33 11 = (ps.length : Int)) (hl : ps.length ≤ 30) (hp : PthC g ps) (hk : ∀ p ∈ ps, PkG g p) (hw : ∀ p ∈ ps, p.1 < 4) (hm : ∀ p ∈ ps, mxp p) : Hi_turn (h : Int) g = some (0, g) := by
  unfold Hi_turn
  rw [hc, wr_id (by omega) (by omega)]
  have := turn_max (h := (h : Int)) hl hp hk hw (fun g1 => some (0, g1)) ps.length (fu - ps.length) (Nat.le_refl _) (fun i p _ hp => hm p (List.mem_of_getElem? hp))
  have hfu : fu = fu - ps.length + ps.length := by
    have : 30 < fu := fu_big _ (by decide)
    omega
  have hfu2 : ∃ f, fu - ps.length = f + 1 := ⟨fu - ps.length - 1, by
    have : 30 < fu := fu_big _ (by decide)
    omega⟩
  obtain ⟨f, hf⟩ := hfu2
  rw [← hfu] at this
  rw [this, hf, Hi_turn_l7, if_pos (by omega)]
theorem turn_yes {g : Gx} {h : Nat} {pre suf : List Pk} {w c m t : Nat} (hh : h < 30) (hc : g 33 11 = ((pre ++ (w, c, m, t) :: suf).length : Int)) (hl : (pre ++ (w, c, m, t) :: suf).length ≤ 30) (hp : PthC g (pre ++ (w, c, m, t) :: suf)) (hk : ∀ p ∈ pre ++ (w, c, m, t) :: suf, PkG g p) (hw : ∀ p ∈ pre ++ (w, c, m, t) :: suf, p.1 < 4) (hm : ∀ p ∈ suf, mxp p) (hwm : w + 1 < m) : Hi_turn (h : Int) g = some (1, gset (gset (gset (gset g 39 pre.length ((w : Int) + 1)) 33 10 ((pre.length : Int) + 1)) 43 h (pre.length : Int)) 45 h (t : Int)) := by
  obtain ⟨ps, hps⟩ : ∃ ps, ps = pre ++ (w, c, m, t) :: suf := ⟨_, rfl⟩
  have hlen : ps.length = pre.length + 1 + suf.length := by rw [hps]; simp; omega
  have hat : ps[pre.length]? = some (w, c, m, t) := by rw [hps, List.getElem?_append_right (Nat.le_refl _)]; simp
  have hmem : (w, c, m, t) ∈ ps := List.mem_of_getElem? hat
  rw [← hps] at hc hl hp hk hw
  obtain ⟨q1, q2⟩ := hp _ _ hat
  obtain ⟨k1, k2, k3⟩ := hk _ hmem
  have hw4 := hw _ hmem
  unfold Hi_turn
  rw [hc, wr_id (by omega) (by omega)]
  have := turn_max (h := (h : Int)) hl hp hk hw (fun g1 => some (0, g1)) suf.length (fu - suf.length) (by omega) (fun i p hi hip => by
    have : p ∈ suf := by
      rw [hps, List.getElem?_append_right (by omega)] at hip
      obtain ⟨k, hk⟩ : ∃ k, i - pre.length = k + 1 := ⟨i - pre.length - 1, by omega⟩
      rw [hk] at hip
      exact List.mem_of_getElem? (i := k) (by simpa using hip)
    exact hm p this)
  have hfu : fu = fu - suf.length + suf.length := by
    have : 30 < fu := fu_big _ (by decide)
    omega
  have hfu2 : ∃ f, fu - suf.length = f + 1 := ⟨fu - suf.length - 1, by
    have : 30 < fu := fu_big _ (by decide)
    omega⟩
  obtain ⟨f, hf⟩ := hfu2
  rw [← hfu] at this
  have q1 : g 39 pre.length = (w : Int) := q1
  have q2 : g 41 pre.length = (c : Int) := q2
  have k1 : c < 40 := k1
  have k2 : g 15 c = (m : Int) := k2
  have k3 : g 13 c = (t : Int) := k3
  have hw4 : w < 4 := hw4
  rw [this, hf, show (ps.length : Int) - 1 - (suf.length : Int) = (pre.length : Int) by omega, Hi_turn_l7, if_neg (by omega), rat_in (c := 41) (by omega) (by omega), rat_in (c := 39) (by omega) (by omega), Int.toNat_natCast, q1, q2]
  unfold St_wayCount St_chooser
  rw [rat_in (c := 15) (by omega) (by omega), Int.toNat_natCast, k2, wr_id (x := (w : Int) + 1) (by omega) (by omega), if_neg (by omega), wr_id (x := (pre.length : Int) + 1) (by omega) (by omega), rai (by omega) (by omega), rsi (c := 43) (by omega) (by omega), rsi (c := 45) (by omega) (by omega), rat_in (c := 13) (by omega) (by omega), Int.toNat_natCast, Int.toNat_natCast, Int.toNat_natCast, q1, wr_id (x := (w : Int) + 1) (by omega) (by omega)]
  simp (disch := decide) only [gc]
  rw [k3]
/-- the turn from a history to the next -/
def TI (g : Gx) (L : List Hy) (k : Nat) : Prop := ∃ (a b : Hy) (pre : List Pk) (w c m t : Nat) (suf suf' : List Pk), L[k]? = some a ∧ L[k + 1]? = some b ∧ a.1 = pre ++ (w, c, m, t) :: suf ∧ b.1 = pre ++ (w + 1, c, m, t) :: suf' ∧ g 43 k = (pre.length : Int) ∧ g 45 k = (t : Int)
/-- the first n histories as the class holds them -/
def HsC (L : List Hy) (n : Nat) (g : Gx) : Prop := g 33 9 = (n : Int) ∧ (∀ k e, k < n → L[k]? = some e → g 37 k = (e.2.length : Int) ∧ ∀ i x, e.2[i]? = some x → g 35 (24 * k + i) = x) ∧ ∀ k, k < n → k + 1 < L.length → TI g L k
theorem make_loop {g : Gx} {u : Int} (hu : 0 ≤ u ∧ u ≤ 1073741823) {z nn : Nat} {D : Ds} (hz : g 7 10 = (z : Int)) (hz2 : z ≤ 160) (hE : EncC g 4 0 z 0 nn D) (hL : (D u).length ≤ 30) (hX : mxw (D u) ≤ 24) (K : Gx → Option (Int × Gx)) : ∀ (k h n S : Nat) (G : Gx), h + k = (D u).length → 1 ≤ k → k < n → AGc g G → HsC (D u) h G → G 33 10 = (S : Int) → (∀ e, (D u)[h]? = some e → Mt G 0 S e.1) → ∃ G', Hi_make_l96 u K n 1 G = K G' ∧ AGc g G' ∧ HsC (D u) (D u).length G' ∧ FR [35, 37, 39, 41, 43, 45, 47, 49, 3121, 3122, 3123, 3124] G G' := by
  obtain ⟨gd, gw⟩ := hE.ok u
  obtain ⟨g1, g2, g3, g4, g5⟩ := gd
  intro k
  induction k with
  | zero => intro h n S G _ h1; omega
  | succ k ih =>
    intro h n S G hk _ hn ag hs hS hM
    obtain ⟨n, rfl⟩ : ∃ q, n = q + 1 := ⟨n - 1, by omega⟩
    have hlt : h < (D u).length := by omega
    obtain ⟨e, he⟩ : ∃ e, (D u)[h]? = some e := ⟨(D u)[h], List.getElem?_eq_getElem hlt⟩
    have hem : e ∈ D u := List.mem_of_getElem? he
    obtain ⟨l1, o1⟩ := g5 e hem
    have l2 := mxw_mem hem
    have hEG : EncC G 4 0 z 0 nn D := hE.mono (fun i _ _ => by rw [ag.2.1, ag.2.2.1]; exact ⟨rfl, rfl⟩) (fun c _ _ => by unfold TbA; rw [ag.2.2.2.1, ag.2.2.2.2.1, ag.2.2.2.2.2.1, ag.2.2.2.2.2.2]; exact ⟨rfl, rfl, rfl, fun _ _ => rfl⟩)
    obtain ⟨G1, w1, w2, w3⟩ := walk_ok hu (by rw [ag.1]; exact hz) hz2 hEG (show h < 30 by omega) hem hS (hM e he) (by omega) (by omega)
    have fw := fr_Hi_walk (h : Int) u G G1 w1
    obtain ⟨f1, f2, f3, f4, f5, f6, f7, f8⟩ := w3
    rw [Nat.zero_add] at f1 f3
    have pth : PthC G1 e.1 := fun i p hp => by have := f8 i p hp; rwa [Nat.zero_add] at this
    have ag1 : AGc g G1 := ⟨w2.1.trans ag.1, w2.2.1.trans ag.2.1, w2.2.2.1.trans ag.2.2.1, w2.2.2.2.1.trans ag.2.2.2.1, w2.2.2.2.2.1.trans ag.2.2.2.2.1, w2.2.2.2.2.2.1.trans ag.2.2.2.2.2.1, w2.2.2.2.2.2.2.trans ag.2.2.2.2.2.2⟩
    have pk : ∀ p ∈ e.1, PkG G1 p := fun p hp => by
      have := hE.pk u e hem p hp
      unfold PkG
      rw [ag1.2.2.2.1, ag1.2.2.2.2.1]; exact this
    have w4 : ∀ p ∈ e.1, p.1 < 4 := fun p hp => by have := o1 p hp; unfold okp at this; omega
    have s9 : G1 33 9 = (h : Int) := by rw [fw.fld (by decide) (by decide)]; exact hs.1
    have old : ∀ (G3 : Gx), G3 37 = G1 37 → G3 35 = G1 35 → (∀ j, j < h → G3 43 j = G1 43 j ∧ G3 45 j = G1 45 j) → (h + 1 < (D u).length → TI G3 (D u) h) → G3 33 9 = ((h + 1 : Nat) : Int) → HsC (D u) (h + 1) G3 := fun G3 c1 c2 c3 c4 c5 => by
      refine ⟨c5, fun k' e' hk' he' => ?_, fun k' hk' hk2 => ?_⟩
      · rw [c1, c2]
        by_cases hkh : k' = h
        · subst hkh
          rw [he] at he'; cases he'
          refine ⟨f3, fun i x hx => ?_⟩
          have := f4 i x hx
          rwa [Nat.add_zero] at this
        · obtain ⟨d1, d2⟩ := hs.2.1 k' e' (by omega) he'
          have l3 := mxw_mem (List.mem_of_getElem? he')
          refine ⟨by rw [f6 k' hkh]; exact d1, fun i x hx => ?_⟩
          have hi : i < e'.2.length := (List.getElem?_eq_some_iff.mp hx).1
          rw [f5 _ (by omega)]
          exact d2 i x hx
      · by_cases hkh : k' = h
        · subst hkh; exact c4 hk2
        · obtain ⟨a, b, pre, w, c, m, t, suf, suf', t1, t2, t3, t4, t5, t6⟩ := hs.2.2 k' (by omega) hk2
          obtain ⟨c6, c7⟩ := c3 k' (by omega)
          exact ⟨a, b, pre, w, c, m, t, suf, suf', t1, t2, t3, t4, by rw [c6, fw.cell (by decide) (by decide)]; exact t5, by rw [c7, fw.cell (by decide) (by decide)]; exact t6⟩
    rw [Hi_make_l96, if_neg (by decide), if_neg (by rw [hs.1]; omega), hs.1, w1, ob_eq, s9]
    by_cases hlast : h + 1 = (D u).length
    · have hmx : ∀ p ∈ e.1, mxp p := g3 e (by rw [List.getLast?_eq_getElem?, show (D u).length - 1 = h by omega]; exact he)
      rw [turn_no f1 (by omega) pth pk w4 hmx, ob_eq]
      simp only
      rw [s9, wr_id (by omega) (by omega)]
      obtain ⟨n, rfl⟩ : ∃ q, n = q + 1 := ⟨n - 1, by omega⟩
      rw [Hi_make_l96, if_pos rfl]
      refine ⟨_, rfl, ag1.gs (by omega), ?_, ?_⟩
      · have := old (gset G1 33 9 ((h : Int) + 1)) (by rw [gset_ne (by decide)]) (by rw [gset_ne (by decide)]) (fun j _ => by simp [gset]) (fun h9 => by omega) (by simp [gset])
        rw [hlast] at this
        exact this
      · exact FR.go (fw.cl (by decide)) ⟨rfl, by decide⟩
    · obtain ⟨e', he'⟩ : ∃ e', (D u)[h + 1]? = some e' := ⟨(D u)[h + 1], List.getElem?_eq_getElem (by omega)⟩
      obtain ⟨pre, w, c, m, t, suf, suf', n1, n2, n3, n4, n5⟩ := adj_get g4 he he'
      have hpl : pre.length < e.1.length := by rw [n1]; simp
      have ht := turn_yes (g := G1) (h := h) (pre := pre) (suf := suf) (w := w) (c := c) (m := m) (t := t) (by omega) (by rw [← n1]; exact f1) (by rw [← n1]; omega) (by rw [← n1]; exact pth) (by rw [← n1]; exact pk) (by rw [← n1]; exact w4) n4 n3
      rw [ht, ob_eq]
      simp only
      obtain ⟨G3, hG3⟩ : ∃ G3, G3 = gset (gset (gset (gset (gset G1 39 pre.length ((w : Int) + 1)) 33 10 ((pre.length : Int) + 1)) 43 h (pre.length : Int)) 45 h (t : Int)) 33 9 ((h : Int) + 1) := ⟨_, rfl⟩
      have e9 : gset (gset (gset (gset G1 39 pre.length ((w : Int) + 1)) 33 10 ((pre.length : Int) + 1)) 43 h (pre.length : Int)) 45 h (t : Int) 33 9 = (h : Int) := by simp [gset]; exact s9
      rw [e9, wr_id (by omega) (by omega), ← hG3]
      have ag3 : AGc g G3 := by rw [hG3]; exact (((((ag1.gs (by omega)).gs (by omega)).gs (by omega)).gs (by omega)).gs (by omega))
      have hs3 : HsC (D u) (h + 1) G3 := old G3 (by rw [hG3]; funext j; simp [gset]) (by rw [hG3]; funext j; simp [gset]) (fun j hj => by rw [hG3]; simp [gset, Nat.ne_of_lt hj]) (fun _ => ⟨e, e', pre, w, c, m, t, suf, suf', he, he', n1, n2, by simp [hG3, gset], by simp [hG3, gset]⟩) (by simp [hG3, gset])
      have f3' : FR [35, 37, 39, 41, 43, 45, 47, 49, 3121, 3122, 3123, 3124] G G3 := by
        rw [hG3]
        exact FR.go (FR.gs (FR.gs (FR.go (FR.gs (fw.cl (by decide)) (by decide)) ⟨rfl, by decide⟩) (by decide)) (by decide)) ⟨rfl, by decide⟩
      obtain ⟨G4, r1, r2, r3, r4⟩ := ih (h + 1) n (pre.length + 1) G3 (by omega) (by omega) (by omega) ag3 hs3 (by simp [hG3, gset]) (fun e2 he2 i p hp => by
        rw [he'] at he2; cases he2
        rw [Nat.zero_add]
        refine ⟨fun hi => ?_, fun hi => ?_⟩
        · rcases Nat.lt_or_ge i pre.length with h9 | h9
          · have ne : i ≠ pre.length := by omega
            rw [n2, List.getElem?_append_left h9] at hp
            have := pth i p (by rw [n1, List.getElem?_append_left h9]; exact hp)
            simp [hG3, gset, ne]; exact this
          · have ie : i = pre.length := by omega
            subst ie
            rw [n2, List.getElem?_append_right (Nat.le_refl _)] at hp
            simp at hp
            subst hp
            have := pth pre.length (w, c, m, t) (by rw [n1, List.getElem?_append_right (Nat.le_refl _)]; simp)
            simp [hG3, gset]
            exact this.2
        · rw [n2, List.getElem?_append_right (by omega)] at hp
          obtain ⟨q, hq⟩ : ∃ q, i - pre.length = q + 1 := ⟨i - pre.length - 1, by omega⟩
          rw [hq] at hp
          exact n5 p (List.mem_of_getElem? (i := q) (by simpa using hp)))
      exact ⟨G4, r1, r2, r3, f3'.tr r4⟩
