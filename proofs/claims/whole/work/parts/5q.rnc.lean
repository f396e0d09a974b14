/-! Runs by lots; run, step. Own text. -/
def nlot (l : Int) : Int := wr ((wr (1103515245 * l)) + 12345)
def ab (ws : List Int) (P : Nat → Nat) : Nat → Bool := fun t => decide (abl ws P t)
def who (ws : List Int) (P : Nat → Nat) (l : Int) : Nat := pks (ab ws P) 6 0 (jrem (jushr (nlot l) 16) (cab (ab ws P) 6 0 : Int)).toNat
def rns (ws : List Int) : Nat → (Nat → Nat) → Int → List Nat → Int → List Nat × Int
  | 0, _, _, st, lg => (st, lg)
  | d + 1, P, l, st, lg => if cab (ab ws P) 6 0 = 0 then (st, lg) else rns ws d (stp ws P (who ws P l)) (nlot l) (st ++ [who ws P l]) (imax lg (qv ws (stp ws P (who ws P l)) (fw ws (P (who ws P l))) (tw ws (P (who ws P l)))))
theorem rns_le (ws : List Int) : ∀ d P l st lg, (rns ws d P l st lg).1.length ≤ st.length + d := by
  intro d
  induction d with
  | zero => intro P l st lg; exact Nat.le_refl _
  | succ d ih =>
    intro P l st lg
    rw [rns]
    split
    · exact Nat.le_add_right _ _
    · have := ih (stp ws P (who ws P l)) (nlot l) (st ++ [who ws P l]) (imax lg (qv ws (stp ws P (who ws P l)) (fw ws (P (who ws P l))) (tw ws (P (who ws P l)))))
      rw [List.length_append, List.length_singleton] at this
      exact Nat.le_trans this (by omega)
theorem who_ok {ws : List Int} {P : Nat → Nat} (l : Int) (h : ¬ cab (ab ws P) 6 0 = 0) : ∃ n : Nat, n < cab (ab ws P) 6 0 ∧ jrem (jushr (nlot l) 16) (cab (ab ws P) 6 0 : Int) = (n : Int) ∧ who ws P l = pks (ab ws P) 6 0 n ∧ who ws P l < 6 ∧ abl ws P (who ws P l) := by
  obtain ⟨n, n1, n2⟩ := lot_ok (nlot l) (m := cab (ab ws P) 6 0) (by omega) (cab_le _ 6 0)
  have e : who ws P l = pks (ab ws P) 6 0 n := by unfold who; rw [n2, Int.toNat_natCast]
  obtain ⟨a, b, -⟩ := pks_ok 6 0 n n1
  exact ⟨n, n1, n2, e, by rw [e]; omega, by rw [e]; exact of_decide_eq_true b⟩
theorem abl_tot {ws : List Int} (hw : OkW ws) {P : Nat → Nat} (hP : PlI ws P) (h : ¬ cab (ab ws P) 6 0 = 0) : tot ws P < 48 := by
  obtain ⟨n, -, -, -, a, b⟩ := who_ok 0 h
  have := tot_le hw (hP.stp b.1)
  rw [tot_stp hP a b.1] at this
  have := hw.1
  omega
def Rsl (c1 f1 f2 c2 : Nat) (r : List Nat × Int) (G : Gx) : Prop := G c1 f1 = (r.1.length : Int) ∧ G c1 f2 = r.2 ∧ ∀ (i x : Nat), r.1[i]? = some x → G c2 i = (x : Int)
theorem stp_new {c2 : Nat} {st : List Nat} {x : Nat} {G G' : Gx} (h : ∀ (i y : Nat), st[i]? = some y → G c2 i = (y : Int)) (e : ∀ i, i ≠ st.length → G' c2 i = G c2 i) (e2 : G' c2 st.length = (x : Int)) : ∀ (i y : Nat), (st ++ [x])[i]? = some y → G' c2 i = (y : Int) := by
  intro i y hy
  by_cases c : i < st.length
  · rw [List.getElem?_append_left c] at hy
    rw [e i (by omega)]; exact h i y hy
  · rw [List.getElem?_append_right (by omega)] at hy
    have l := (List.getElem?_eq_some_iff.mp hy).1
    rw [List.length_singleton] at l
    obtain rfl : i = st.length := by omega
    simp at hy
    rw [e2, hy]
theorem rnC {ws : List Int} {k : Nat} (hw : OkW ws) : ∀ (d n : Nat) (P : Nat → Nat) (l : Int) (st : List Nat) (lg : Int) (G : Gx), d < n → st.length + d = 48 → PlI ws P → tot ws P = st.length → RnC ws k P G → Rsl 60 5 6 66 (st, lg) G → ∃ G', Rn_goByLots_l49 (k : Int) (fun g6 => some g6) n l G = some G' ∧ Rsl 60 5 6 66 (rns ws d P l st lg) G' := by
  intro d
  induction d with
  | zero =>
    intro n P l st lg G hn hs hP ht hG hr
    obtain ⟨n, rfl⟩ : ∃ q, n = q + 1 := ⟨n - 1, by omega⟩
    rw [Rn_goByLots_l49, hr.1, if_pos (by simp only; omega)]
    exact ⟨G, rfl, hr⟩
  | succ d ih =>
    intro n P l st lg G hn hs hP ht hG hr
    obtain ⟨n, rfl⟩ : ∃ q, n = q + 1 := ⟨n - 1, by omega⟩
    obtain ⟨m, m1, m2, m3⟩ := ableC hw hP hG
    have ec : cab (fun t => m.testBit t) 6 0 = cab (ab ws P) 6 0 := cab_cg 6 0 (fun i _ hi => m3 i (by omega))
    have r60 : G 60 5 = (st.length : Int) := hr.1
    rw [Rn_goByLots_l49, r60, if_neg (by omega), m2, ob_eq]
    simp only
    rw [bcm64 m m1, ec, rns]
    by_cases c : cab (ab ws P) 6 0 = 0
    · rw [if_pos c, if_neg (show ¬ ¬ (cab (ab ws P) 6 0 : Int) = 0 from fun h9 => h9 (by omega))]
      exact ⟨G, rfl, hr⟩
    · obtain ⟨num, n1, n2, n3, n4, n5⟩ := who_ok l c
      rw [if_neg c, if_pos (show ¬ (cab (ab ws P) 6 0 : Int) = 0 by omega), if_neg (show ¬ (cab (ab ws P) 6 0 : Int) = 0 by omega), show wr ((wr (1103515245 * l)) + 12345) = nlot l from rfl, n2, pickC m1 G (num := num) (by rw [ec]; exact n1), ob_eq]
      simp only
      rw [pks_cg (b := ab ws P) 6 0 num (fun i _ hi => m3 i (by omega)), ← n3]
      obtain ⟨g', a1, a2, a3⟩ := actCl hw hP hG n4 n5.1
      have f := fr_Rn_act _ _ _ _ a1
      have e60 : g' 60 5 = (st.length : Int) := by rw [f.fld (by decide) (by decide)]; exact r60
      rw [a1, ob_eq, e60, rsi (by omega) (by omega), Int.toNat_natCast, wr_id (x := (st.length : Int) + 1) (by omega) (by omega)]
      refine ih n (stp ws P (who ws P l)) (nlot l) (st ++ [who ws P l]) _ _ (by omega) (by rw [List.length_append, List.length_singleton]; omega) (hP.stp n5.1) (by rw [tot_stp hP n4 n5.1, ht, List.length_append, List.length_singleton]) (a2.of (by rw [gset_ne (by decide), gset_ne (by decide)]) (by rw [gset_ne (by decide), gset_ne (by decide)]) (by rw [gset_ne (by decide), gset_ne (by decide)]) (by rw [gset_ne (by decide), gset_ne (by decide)])) ⟨?_, ?_, ?_⟩
      · rw [gs_same, List.length_append, List.length_singleton]; omega
      · rw [gs_at (by decide), gc (by decide), a3, show G 60 6 = lg from hr.2.1]
      · refine stp_new hr.2.2 (fun i hi => ?_) ?_
        · rw [gc (by decide), gs_at hi, f.cell (by decide) (by decide)]
        · rw [gc (by decide), gs_same]
theorem cntR {ws : List Int} {k : Nat} {P : Nat → Nat} {g : Gx} (hw : OkW ws) (hP : PlI ws P) (h : RnR ws k P g) (c3 : Int) (K : Int → Gx → Option Gx) : ∀ (d t n acc : Nat), t + d = 6 → d < n → acc ≤ t → Md_runs_l24 (k : Int) c3 K n (acc : Int) (t : Int) g = K ((acc + cab (ab ws P) d t : Nat) : Int) g := by
  have l24 := hw.1
  intro d
  induction d with
  | zero =>
    intro t n acc ht hn ha
    obtain ⟨n, rfl⟩ : ∃ q, n = q + 1 := ⟨n - 1, by omega⟩
    rw [Md_runs_l24, if_pos (by omega), cab]
    rfl
  | succ d ih =>
    intro t n acc ht hn ha
    obtain ⟨n, rfl⟩ : ∃ q, n = q + 1 := ⟨n - 1, by omega⟩
    have cl := cnp_le ws t (P t)
    have pl := (hP t (by omega)).1
    rw [Md_runs_l24, if_neg (by omega), canR hw hP h (by omega), ob_eq]
    simp only
    rw [wr_id (x := (t : Int) + 1) (by omega) (by omega), wr_id (x := (acc : Int) + 1) (by omega) (by omega), wr_id (x := (acc : Int) + 0) (by omega) (by omega), show (t : Int) + 1 = ((t + 1 : Nat) : Int) by omega, cab]
    by_cases c : abl ws P t
    · rw [if_pos (show (cnp ws t (P t) : Int) < 48 ∧ abl ws P t from ⟨by omega, c⟩), if_neg (show ¬ (1 : Int) = 0 by decide), if_pos (show ab ws P t = true from decide_eq_true c), show (acc : Int) + 1 = ((acc + 1 : Nat) : Int) by omega, ih (t + 1) n (acc + 1) (by omega) (by omega) (by omega), Nat.add_assoc]
    · rw [if_neg (show ¬ ((cnp ws t (P t) : Int) < 48 ∧ abl ws P t) from fun h9 => c h9.2), if_pos rfl, if_neg (show ¬ ab ws P t = true from fun h9 => c (of_decide_eq_true h9)), show (acc : Int) + 0 = (acc : Int) by omega, ih (t + 1) n acc (by omega) (by omega) (by omega), Nat.zero_add]
theorem whoR {ws : List Int} {k : Nat} {P : Nat → Nat} {g : Gx} (hw : OkW ws) (hP : PlI ws P) (h : RnR ws k P g) (c3 c4 : Int) (K : Int → Gx → Option Gx) : ∀ (d t n num : Nat), t + d = 6 → d < n → num < cab (ab ws P) d t → Md_runs_l86 (k : Int) c3 c4 K n (num : Int) (t : Int) g = K (pks (ab ws P) d t num : Int) g := by
  have l24 := hw.1
  intro d
  induction d with
  | zero => intro t n num _ _ h; rw [cab] at h; omega
  | succ d ih =>
    intro t n num ht hn hc
    obtain ⟨n, rfl⟩ : ∃ q, n = q + 1 := ⟨n - 1, by omega⟩
    have cl := cnp_le ws t (P t)
    have pl := (hP t (by omega)).1
    have cb := cab_le (ab ws P) d (t + 1)
    rw [cab] at hc
    have hnum : num ≤ 7 := by
      have : (if ab ws P t = true then 1 else 0) ≤ 1 := by split <;> omega
      omega
    rw [Md_runs_l86, pks]
    simp only [canR hw hP h (show t < 6 by omega), ob_eq]
    rw [wr_id (x := (t : Int) + 1) (by omega) (by omega), wr_id (x := (num : Int) - 1) (by omega) (by omega), wr_id (x := (num : Int) - 0) (by omega) (by omega), show (t : Int) + 1 = ((t + 1 : Nat) : Int) by omega, show (num : Int) - 0 = (num : Int) by omega]
    by_cases c : abl ws P t
    · have hb : ab ws P t = true := decide_eq_true c
      rw [if_pos (show (cnp ws t (P t) : Int) < 48 ∧ abl ws P t from ⟨by omega, c⟩), if_pos hb]
      rw [if_pos hb] at hc
      by_cases c2 : num = 0
      · subst c2
        rw [if_neg (show ¬ 0 < ((0 : Nat) : Int) by omega), if_pos (show ¬ (1 : Int) = 0 by decide), if_pos rfl]
      · rw [if_pos (show 0 < (num : Int) by omega), if_neg (show ¬ (1 : Int) = 0 by decide), if_neg c2, show (num : Int) - 1 = ((num - 1 : Nat) : Int) by omega]
        exact ih (t + 1) n (num - 1) (by omega) (by omega) (by omega)
    · have hb : ¬ ab ws P t = true := fun h9 => c (of_decide_eq_true h9)
      rw [if_neg (show ¬ ((cnp ws t (P t) : Int) < 48 ∧ abl ws P t) from fun h9 => c h9.2), if_neg hb]
      rw [if_neg hb] at hc
      simp only [if_true]
      rw [if_neg (show ¬ ¬ True from fun h9 => h9 trivial)]
      have z := ih (t + 1) n num (by omega) (by omega) (by omega)
      rw [z]
      split <;> rfl
theorem rnR {ws : List Int} {k : Nat} (hw : OkW ws) : ∀ (d n : Nat) (P : Nat → Nat) (l : Int) (st : List Nat) (lg v4 : Int) (G : Gx), d + 1 < n → st.length + d = 48 → PlI ws P → tot ws P = st.length → RnR ws k P G → Rsl 92 43 44 123 (st, lg) G → 0 < v4 → ∃ G', Md_runs_l13 (k : Int) (fun g12 => some g12) n l v4 G = some G' ∧ Rsl 92 43 44 123 (rns ws d P l st lg) G' := by
  intro d
  induction d with
  | zero =>
    intro n P l st lg v4 G hn hs hP ht hG hr hv
    obtain ⟨n, rfl⟩ : ∃ q, n = q + 1 := ⟨n - 1, by omega⟩
    obtain ⟨n, rfl⟩ : ∃ q, n = q + 1 := ⟨n - 1, by omega⟩
    have c : cab (ab ws P) 6 0 = 0 := by
      by_cases c : cab (ab ws P) 6 0 = 0
      · exact c
      · have := abl_tot hw hP c; omega
    have z := cntR hw hP hG l (fun x4 g5 => if x4 ≤ 0 then Md_runs_l13 (k : Int) (fun g12 => some g12) (n + 1) l x4 g5 else if x4 = 0 then none else Md_runs_l86 (k : Int) (wr ((wr (1103515245 * l)) + 12345)) x4 (fun x9 g10 => Option.bind (Md_does x9 (k : Int) g10) (fun g11 => if 0 ≤ (g11 92 43) ∧ (g11 92 43) < 48 then Md_runs_l13 (k : Int) (fun g12 => some g12) (n + 1) (wr ((wr (1103515245 * l)) + 12345)) x4 (gset (gset g11 123 ((g11 92 43).toNat) x9) 92 43 (wr ((g11 92 43) + 1))) else none)) fu (jrem (jushr (wr ((wr (1103515245 * l)) + 12345)) 16) x4) 0 g5) 6 0 fu 0 (by omega) (fu_big _ (by decide)) (by omega)
    rw [show ((0 : Nat) : Int) = 0 from rfl, Nat.zero_add, c] at z
    rw [Md_runs_l13, if_neg (by omega), z, if_pos (by omega), Md_runs_l13, if_pos (by omega)]
    exact ⟨G, rfl, hr⟩
  | succ d ih =>
    intro n P l st lg v4 G hn hs hP ht hG hr hv
    obtain ⟨n, rfl⟩ : ∃ q, n = q + 1 := ⟨n - 1, by omega⟩
    have z := cntR hw hP hG l (fun x4 g5 => if x4 ≤ 0 then Md_runs_l13 (k : Int) (fun g12 => some g12) n l x4 g5 else if x4 = 0 then none else Md_runs_l86 (k : Int) (wr ((wr (1103515245 * l)) + 12345)) x4 (fun x9 g10 => Option.bind (Md_does x9 (k : Int) g10) (fun g11 => if 0 ≤ (g11 92 43) ∧ (g11 92 43) < 48 then Md_runs_l13 (k : Int) (fun g12 => some g12) n (wr ((wr (1103515245 * l)) + 12345)) x4 (gset (gset g11 123 ((g11 92 43).toNat) x9) 92 43 (wr ((g11 92 43) + 1))) else none)) fu (jrem (jushr (wr ((wr (1103515245 * l)) + 12345)) 16) x4) 0 g5) 6 0 fu 0 (by omega) (fu_big _ (by decide)) (by omega)
    rw [show ((0 : Nat) : Int) = 0 from rfl, Nat.zero_add] at z
    rw [Md_runs_l13, if_neg (by omega), z, rns]
    by_cases c : cab (ab ws P) 6 0 = 0
    · obtain ⟨n, rfl⟩ : ∃ q, n = q + 1 := ⟨n - 1, by omega⟩
      rw [if_pos c, if_pos (by omega), Md_runs_l13, if_pos (by omega)]
      exact ⟨G, rfl, hr⟩
    · obtain ⟨num, n1, n2, n3, n4, n5⟩ := who_ok l c
      obtain ⟨g', a1, a2, a3⟩ := doesR hw hP hG n4 n5.1
      have f := fr_Md_does _ _ _ _ a1
      have e43 : g' 92 43 = (st.length : Int) := by rw [f.fld (by decide) (by decide)]; exact hr.1
      have z2 := whoR hw hP hG (nlot l) (cab (ab ws P) 6 0 : Int) (fun x9 g10 => Option.bind (Md_does x9 (k : Int) g10) (fun g11 => if 0 ≤ (g11 92 43) ∧ (g11 92 43) < 48 then Md_runs_l13 (k : Int) (fun g12 => some g12) n (nlot l) (cab (ab ws P) 6 0 : Int) (gset (gset g11 123 ((g11 92 43).toNat) x9) 92 43 (wr ((g11 92 43) + 1))) else none)) 6 0 fu num (by omega) (fu_big _ (by decide)) n1
      rw [show ((0 : Nat) : Int) = 0 from rfl] at z2
      rw [if_neg c, if_neg (by omega), if_neg (by omega), show wr ((wr (1103515245 * l)) + 12345) = nlot l from rfl, n2, z2, ← n3, a1, ob_eq, e43, if_pos (by omega), Int.toNat_natCast, wr_id (x := (st.length : Int) + 1) (by omega) (by omega)]
      refine ih n (stp ws P (who ws P l)) (nlot l) (st ++ [who ws P l]) _ _ _ (by omega) (by rw [List.length_append, List.length_singleton]; omega) (hP.stp n5.1) (by rw [tot_stp hP n4 n5.1, ht, List.length_append, List.length_singleton]) (a2.of (by rw [gset_ne (by decide), gset_ne (by decide)]) (by rw [gset_ne (by decide), gset_ne (by decide)]) (by rw [gset_ne (by decide), gset_ne (by decide)]) (by rw [gset_ne (by decide), gset_ne (by decide)])) ⟨?_, ?_, ?_⟩ (by omega)
      · rw [gs_same, List.length_append, List.length_singleton]; omega
      · rw [gs_at (by decide), gc (by decide), a3, show G 92 44 = lg from hr.2.1]
      · refine stp_new hr.2.2 (fun i hi => ?_) ?_
        · rw [gc (by decide), gs_at hi, f.cell (by decide) (by decide)]
        · rw [gc (by decide), gs_same]
def P0 (ws : List Int) : Nat → Nat := fun t => nxt ws t 0
theorem P0_ok (ws : List Int) : PlI ws (P0 ws) ∧ tot ws (P0 ws) = 0 ∧ (∀ t, cnp ws t (P0 ws t) = 0) ∧ ∀ f o, qv ws (P0 ws) f o = 0 := by
  have c : ∀ t, cnp ws t (P0 ws t) = 0 := fun t => by
    obtain ⟨a, b, c, d⟩ := nxt_ok (ws := ws) (t := t) (p := 0) (by omega)
    have := cnp_c (ws := ws) (t := t) (a := 0) (nxt ws t 0) (fun i h1 h2 => d i h1 (by omega))
    rw [Nat.zero_add] at this
    exact this
  have q : ∀ f o t, f = t ∨ o = t → pcq ws f o (P0 ws t) = 0 := fun f o t ht => by
    obtain ⟨a, b, c, d⟩ := nxt_ok (ws := ws) (t := t) (p := 0) (by omega)
    have := pcq_c (ws := ws) (f := f) (o := o) (a := 0) (nxt ws t 0) (fun i h1 h2 h9 => d i h1 (by omega) (by rcases ht with h | h; exact Or.inl (by omega); exact Or.inr (by omega)))
    rw [Nat.zero_add] at this
    exact this
  refine ⟨fun t _ => ?_, by unfold tot; rw [c, c, c, c, c, c], c, fun f o => by unfold qv; rw [q f o f (Or.inl rfl), q f o o (Or.inr rfl)]; rfl⟩
  obtain ⟨a, b, c, d⟩ := nxt_ok (ws := ws) (t := t) (p := 0) (by omega)
  exact ⟨b, c⟩
theorem goC_ok {ws : List Int} {k : Nat} {g : Gx} (hw : OkW ws) (hc : WC ws k g) (l : Int) : ∃ g', Rn_goByLots (k : Int) l g = some g' ∧ Rsl 60 5 6 66 (rns ws 48 (P0 ws) l [] 0) g' := by
  obtain ⟨p1, p2, p3, p4⟩ := P0_ok ws
  unfold Rn_goByLots
  have lp : ∀ (d t n : Nat) (G : Gx), t + d = 6 → d < n → WC ws k G → (∀ y, y < t → G 62 y = (P0 ws y : Int)) → (∀ q, q < 36 → G 64 q = 0) → G 60 5 = 0 → G 60 6 = 0 → ∃ g', Rn_goByLots_l20 (k : Int) l (fun g2 => Rn_goByLots_l49 (k : Int) (fun g6 => some g6) fu l g2) n (t : Int) G = some g' ∧ Rsl 60 5 6 66 (rns ws 48 (P0 ws) l [] 0) g' := by
    intro d
    induction d with
    | zero =>
      intro t n G ht hn hG h62 h64 h5 h6
      obtain ⟨n, rfl⟩ : ∃ q, n = q + 1 := ⟨n - 1, by omega⟩
      rw [Rn_goByLots_l20, if_pos (by omega)]
      exact rnC hw 48 fu (P0 ws) l [] 0 G (fu_big _ (by decide)) (by simp) p1 (by rw [p2]; rfl) ⟨hG, fun y hy => h62 y (by omega), fun f o hf ho _ => by rw [p4]; exact h64 _ (by omega)⟩ ⟨h5, h6, fun i x hx => by simp at hx⟩
    | succ d ih =>
      intro t n G ht hn hG h62 h64 h5 h6
      obtain ⟨n, rfl⟩ : ∃ q, n = q + 1 := ⟨n - 1, by omega⟩
      rw [Rn_goByLots_l20, if_neg (by omega), show (0 : Int) = ((0 : Nat) : Int) from rfl, npC hw hG t 0 (by omega), ob_eq]
      simp only
      rw [wr_id (x := (t : Int) + 1) (by omega) (by omega), show (t : Int) + 1 = ((t + 1 : Nat) : Int) by omega, rsi (by omega) (by omega), Int.toNat_natCast]
      refine ih (t + 1) n _ (by omega) (by omega) (hG.of (gset_ne (by decide)) (gset_ne (by decide))) (fun y hy => ?_) (fun q hq => by rw [gc (by decide)]; exact h64 q hq) (by rw [gc (by decide)]; exact h5) (by rw [gc (by decide)]; exact h6)
      by_cases c : y = t
      · subst c; rw [gs_same]; rfl
      · rw [gs_at c]; exact h62 y (by omega)
  refine lp 6 0 fu _ (by omega) (fu_big _ (by decide)) (hc.of ?_ ?_) (fun y hy => by omega) (fun q hq => ?_) ?_ ?_
  · funext j; simp [rfill, gset]
  · funext j; simp [rfill, gset]
  · simp [rfill, hq]
  · simp [rfill, gset]
  · simp [rfill, gset]
theorem begR (g : Gx) : ∃ g', Md_begins g = some g' ∧ (∀ t, t < 6 → g' 121 t = 0) ∧ (∀ q, q < 36 → g' 122 q = 0) ∧ g' 92 43 = 0 ∧ g' 92 44 = 0 := by
  unfold Md_begins
  have lp2 : ∀ (d v n : Nat) (G : Gx), v + d = 36 → d < n → (∀ t, t < 6 → G 121 t = 0) → (∀ q, q < v → G 122 q = 0) → ∃ g', Md_begins_l23 (fun g2 => some (gset (gset g2 92 43 0) 92 44 0)) n (v : Int) G = some g' ∧ (∀ t, t < 6 → g' 121 t = 0) ∧ (∀ q, q < 36 → g' 122 q = 0) ∧ g' 92 43 = 0 ∧ g' 92 44 = 0 := by
    intro d
    induction d with
    | zero =>
      intro v n G hv hn h1 h2
      obtain ⟨n, rfl⟩ : ∃ q, n = q + 1 := ⟨n - 1, by omega⟩
      rw [Md_begins_l23, if_pos (by omega)]
      refine ⟨_, rfl, fun t ht => ?_, fun q hq => ?_, ?_, gs_same⟩
      · rw [gc (by decide), gc (by decide)]; exact h1 t ht
      · rw [gc (by decide), gc (by decide)]; exact h2 q (by omega)
      · rw [gs_at (by decide), gs_same]
    | succ d ih =>
      intro v n G hv hn h1 h2
      obtain ⟨n, rfl⟩ : ∃ q, n = q + 1 := ⟨n - 1, by omega⟩
      rw [Md_begins_l23, if_neg (by omega), if_pos (by omega), wr_id (by omega) (by omega), show (v : Int) + 1 = ((v + 1 : Nat) : Int) by omega, Int.toNat_natCast]
      refine ih (v + 1) n _ (by omega) (by omega) (fun t ht => by rw [gc (by decide)]; exact h1 t ht) (fun q hq => ?_)
      by_cases c : q = v
      · subst c; exact gs_same
      · rw [gs_at c]; exact h2 q (by omega)
  have lp : ∀ (d v n : Nat) (G : Gx), v + d = 6 → d < n → (∀ t, t < v → G 121 t = 0) → ∃ g', Md_begins_l2 (fun g1 => Md_begins_l23 (fun g2 => some (gset (gset g2 92 43 0) 92 44 0)) fu 0 g1) n (v : Int) G = some g' ∧ (∀ t, t < 6 → g' 121 t = 0) ∧ (∀ q, q < 36 → g' 122 q = 0) ∧ g' 92 43 = 0 ∧ g' 92 44 = 0 := by
    intro d
    induction d with
    | zero =>
      intro v n G hv hn h1
      obtain ⟨n, rfl⟩ : ∃ q, n = q + 1 := ⟨n - 1, by omega⟩
      rw [Md_begins_l2, if_pos (by omega)]
      exact lp2 36 0 fu G (by omega) (fu_big _ (by decide)) (fun t ht => h1 t (by omega)) (fun q hq => by omega)
    | succ d ih =>
      intro v n G hv hn h1
      obtain ⟨n, rfl⟩ : ∃ q, n = q + 1 := ⟨n - 1, by omega⟩
      rw [Md_begins_l2, if_neg (by omega), if_pos (by omega), wr_id (by omega) (by omega), show (v : Int) + 1 = ((v + 1 : Nat) : Int) by omega, Int.toNat_natCast]
      refine ih (v + 1) n _ (by omega) (by omega) (fun t ht => ?_)
      by_cases c : t = v
      · subst c; exact gs_same
      · rw [gs_at c]; exact h1 t (by omega)
  exact lp 6 0 fu g (by omega) (fu_big _ (by decide)) (fun t ht => by omega)
/-- the reference before the first act -/
theorem begR_ok {L : List Hy} {g : Gx} (hL : OkL L) (h : HsR L L.length g) {k : Nat} (hk : k < L.length) : ∃ g1 g2, Md_findLooks g = some g1 ∧ Md_begins g1 = some g2 ∧ RnR (gl L k).2 k (P0 (gl L k).2) g2 ∧ g2 92 43 = 0 ∧ g2 92 44 = 0 ∧ (∀ q, q < 36 → g2 122 q = 0) := by
  obtain ⟨g1, e1, e2⟩ := find_ok hL h.wd
  obtain ⟨g2, b1, b2, b3, b4, b5⟩ := begR g1
  have f := fr_Md_begins _ _ b1
  obtain ⟨-, -, p3, p4⟩ := P0_ok (gl L k).2
  exact ⟨g1, g2, e1, b1, ⟨(lr_of hL e2 hk).of (f.cell (by decide) (by decide)) (f.cell (by decide) (by decide)), fun t ht => by rw [p3, b2 t ht]; rfl, fun f o hf ho _ => by rw [p4]; exact b3 _ (by omega)⟩, b4, b5, b3⟩
theorem goR_ok {L : List Hy} {g : Gx} (hL : OkL L) (h : HsR L L.length g) {k : Nat} (hk : k < L.length) (l : Int) : ∃ g', Md_runs (k : Int) l g = some g' ∧ Rsl 92 43 44 123 (rns (gl L k).2 48 (P0 (gl L k).2) l [] 0) g' := by
  obtain ⟨p1, p2, p3, p4⟩ := P0_ok (gl L k).2
  obtain ⟨g1, g2, e1, e2, e3, e4, e5, -⟩ := begR_ok hL h hk
  unfold Md_runs
  rw [e1, ob_eq, e2, ob_eq]
  exact rnR (ws_ok hL hk) 48 fu (P0 (gl L k).2) l [] 0 1 g2 (fu_big _ (by decide)) (by simp) p1 (by rw [p2]; rfl) e3 ⟨e4, e5, fun i x hx => by simp at hx⟩ (by decide)
theorem st_run {T : Nat} {t pt : List Int} {u : Int} {g : Gx} (h : Inv T t pt u g) (hT : T < 80000) (a1 a2 a3 : Int) : ∃ r g1 g2, Op_run a1 a2 a3 g = some (r, g1) ∧ Md_run a1 a2 a3 g1 = some (r, g2) ∧ Inv (T + 2) t pt u g2 := by
  unfold Op_run Md_run
  by_cases c1 : 0 ≤ a1 ∧ a1 ≤ 29
  · have n1 : ¬ Op_isHistory a1 = 0 := fun h9 => isHistory_iff.mp h9 c1
    have n2 : ¬ Md_isHistory a1 = 0 := fun h9 => mdHistory_iff.mp h9 c1
    simp only [if_neg n1, if_neg n2]
    by_cases c2 : 0 ≤ a3 ∧ a3 ≤ 1
    · have n3 : ¬ Md_in a3 0 1 = 0 := fun h9 => in_iff.mp h9 c2
      simp only [if_neg (show ¬ a3 < 0 by omega), if_pos c2.2, if_pos n3]
      rcases hl_ok h hT a1 with ⟨r, g1, g2, a, b, c, d⟩ | ⟨g1, a, b, ⟨b1, b2, b3, b4, b5, b6⟩, c⟩
      · refine ⟨r, g1, g2, ?_, ?_, d⟩
        · rw [b, ob_eq]; simp only; rw [if_neg a]
        · rw [c, ob_eq]; simp only; rw [if_neg a]
      · obtain ⟨k, rfl⟩ := Int.eq_ofNat_of_zero_le c1.1
        have hk : k < (pD t u).length := by omega
        obtain ⟨g2, e1, e2⟩ := goC_ok (ws_ok b4 hk) (ws_c b4 b3.2.2.2 hk) a2
        have i2 := b1.fr ((fr_Rn_goByLots _ _ _ _ e1).cl (by decide))
        obtain ⟨g3, y, z, w, -⟩ := c g2 i2
        obtain ⟨g4, f1, f2⟩ := goR_ok b4 w hk a2
        have i4 := z.fr ((fr_Md_runs _ _ _ _ f1).cl (by decide))
        rw [b, ob_eq]
        simp only [if_true]
        rw [e1, ob_eq]
        by_cases c3 : a3 = 0
        · refine ⟨_, g2, g4, by rw [if_neg (fun h9 => h9 c3)], ?_, i4⟩
          rw [y, ob_eq]
          simp only [if_true]
          rw [f1, ob_eq, if_neg (fun h9 => h9 c3), f2.1]
          unfold Rn_stepCount
          rw [e2.1]
        · refine ⟨_, g2, g4, by rw [if_pos c3], ?_, i4⟩
          rw [y, ob_eq]
          simp only [if_true]
          rw [f1, ob_eq, if_pos c3, f2.2.1]
          unfold Rn_longestQueue
          rw [e2.2.1]
    · have n3 : Md_in a3 0 1 = 0 := in_iff.mpr c2
      refine ⟨-2, g, g, ?_, by rw [if_neg (fun h9 => h9 n3)], h.more (by omega)⟩
      by_cases c4 : a3 < 0
      · rw [if_pos c4]
      · rw [if_neg c4, if_neg (by omega)]
  · have n1 : Op_isHistory a1 = 0 := isHistory_iff.mpr c1
    have n2 : Md_isHistory a1 = 0 := mdHistory_iff.mpr c1
    simp only [if_pos n1, if_pos n2]
    exact ⟨-2, g, g, rfl, rfl, h.more (by omega)⟩
theorem st_step {T : Nat} {t pt : List Int} {u : Int} {g : Gx} (h : Inv T t pt u g) (hT : T < 80000) (a1 a2 a3 : Int) : ∃ r g1 g2, Op_step a1 a2 a3 g = some (r, g1) ∧ Md_step a1 a2 a3 g1 = some (r, g2) ∧ Inv (T + 2) t pt u g2 := by
  unfold Op_step Md_step
  by_cases c1 : 0 ≤ a1 ∧ a1 ≤ 29
  · have n1 : ¬ Op_isHistory a1 = 0 := fun h9 => isHistory_iff.mp h9 c1
    have n2 : ¬ Md_isHistory a1 = 0 := fun h9 => mdHistory_iff.mp h9 c1
    simp only [if_neg n1, if_neg n2]
    by_cases c2 : 0 ≤ a3
    · simp only [if_pos c2]
      rcases hl_ok h hT a1 with ⟨r, g1, g2, a, b, c, d⟩ | ⟨g1, a, b, ⟨b1, b2, b3, b4, b5, b6⟩, c⟩
      · refine ⟨r, g1, g2, ?_, ?_, d⟩
        · rw [b, ob_eq]; simp only; rw [if_neg a]
        · rw [c, ob_eq]; simp only; rw [if_neg a]
      · obtain ⟨k, rfl⟩ := Int.eq_ofNat_of_zero_le c1.1
        obtain ⟨i, rfl⟩ := Int.eq_ofNat_of_zero_le c2
        have hk : k < (pD t u).length := by omega
        obtain ⟨g2, e1, e2⟩ := goC_ok (ws_ok b4 hk) (ws_c b4 b3.2.2.2 hk) a2
        have i2 := b1.fr ((fr_Rn_goByLots _ _ _ _ e1).cl (by decide))
        obtain ⟨g3, y, z, w, -⟩ := c g2 i2
        obtain ⟨g4, f1, f2⟩ := goR_ok b4 w hk a2
        have i4 := z.fr ((fr_Md_runs _ _ _ _ f1).cl (by decide))
        have l48 := rns_le (gl (pD t u) k).2 48 (P0 (gl (pD t u) k).2) a2 [] 0
        rw [List.length_nil] at l48
        rw [b, ob_eq]
        simp only [if_true]
        rw [e1, ob_eq]
        unfold Rn_stepCount Rn_stepper
        rw [e2.1]
        by_cases c3 : (rns (gl (pD t u) k).2 48 (P0 (gl (pD t u) k).2) a2 [] 0).1.length ≤ i
        · refine ⟨_, g2, g4, by rw [if_pos (by omega)], ?_, i4⟩
          rw [y, ob_eq]
          simp only [if_true]
          rw [f1, ob_eq, f2.1, if_pos (by omega)]
        · have hx := List.getElem?_eq_getElem (show i < (rns (gl (pD t u) k).2 48 (P0 (gl (pD t u) k).2) a2 [] 0).1.length by omega)
          refine ⟨_, g2, g4, by rw [if_neg (by omega), rat_in (by omega) (by omega), Int.toNat_natCast, e2.2.2 i _ hx], ?_, i4⟩
          rw [y, ob_eq]
          simp only [if_true]
          rw [f1, ob_eq, f2.1, if_neg (by omega), if_pos (by omega), Int.toNat_natCast, f2.2.2 i _ hx]
    · simp only [if_neg c2]
      exact ⟨-2, g, g, rfl, rfl, h.more (by omega)⟩
  · have n1 : Op_isHistory a1 = 0 := isHistory_iff.mpr c1
    have n2 : Md_isHistory a1 = 0 := mdHistory_iff.mpr c1
    simp only [if_pos n1, if_pos n2]
    exact ⟨-2, g, g, rfl, rfl, h.more (by omega)⟩
