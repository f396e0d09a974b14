/-! The rows of numbers: at, set, add, fill. Own text (numbers of methods by wip/gen/gen_row.py). -/
def stpX (k pc : Nat) (L : Lx) (S : List Vx) (g : Gx) : Option Stx := match cd k pc with
  | none => none
  | some e => match isCall e with
    | true => none
    | false => match isRet e.1 with
      | true => none
      | false => stpx pc e L S g
def retX (k pc : Nat) (S : List Vx) (g : Gx) : Option (Option Vx × Gx) := match cd k pc with
  | none => none
  | some e => match isCall e with
    | true => none
    | false => match isRet e.1 with
      | true => retOf e S g
      | false => none
def callX (k pc : Nat) (S : List Vx) : Option (Nat × Nat × List Vx × List Vx) := match cd k pc with
  | none => none
  | some e => match isCall e with
    | true => match callOf k e S with
      | some (as, rest) => some (e.2.2.1, e.2.1, as, rest)
      | none => none
    | false => none
theorem es {k pc : Nat} {L : Lx} {S : List Vx} {g : Gx} {r : Option Vx} {g' : Gx} (q : Stx) (hs : stpX k pc L S g = some q) (h : Ev k q.1 q.2.1 q.2.2.1 q.2.2.2 r g') : Ev k pc L S g r g' := by
  unfold stpX at hs
  split at hs
  · cases hs
  · rename_i e he
    split at hs
    · cases hs
    · rename_i h1
      split at hs
      · cases hs
      · rename_i h2
        exact ev_step he h1 h2 hs h
theorem er {k pc : Nat} {L : Lx} {S : List Vx} {g : Gx} {r : Option Vx} {g' : Gx} (hs : retX k pc S g = some (r, g')) : Ev k pc L S g r g' := by
  unfold retX at hs
  split at hs
  · cases hs
  · rename_i e he
    split at hs
    · cases hs
    · rename_i h1
      split at hs
      · rename_i h2
        exact ev_ret he h1 h2 hs
      · cases hs
theorem ec {k pc : Nat} {L : Lx} {S : List Vx} {g : Gx} {r r1 : Option Vx} {g1 g' : Gx} (j nx : Nat) (as rest : List Vx) (hs : callX k pc S = some (j, nx, as, rest)) (hc : Ev j 0 (padL (entL as) (mL j)) [] g r1 g1) (h : Ev k nx L (pushR r1 rest) g1 r g') : Ev k pc L S g r g' := by
  unfold callX at hs
  split at hs
  · cases hs
  · rename_i e he
    split at hs
    · rename_i h1
      split at hs
      · rename_i h2
        cases hs
        exact ev_call he h1 h2 hc h
      · cases hs
    · cases hs
theorem ev_gf {k pc nx i pw : Nat} {cst : Int} {L : Lx} {S : List Vx} {g : Gx} {r c : Nat} {o : Option Vx} {g' : Gx} (he : cd k pc = some (.getfield i, nx, 0, 6, pw, cst)) (h1 : tpo r = some (6, 0, [some c])) (h : Ev k nx L (.inr (.inr c) :: S) g o g') : Ev k pc L (.inr (.inr r) :: S) g o g' :=
  ev_step (q := (nx, L, .inr (.inr c) :: S, g)) he rfl rfl (by simp [stpx, getf, h1]) h
theorem ev_al {k pc nx b pw : Nat} {cst : Int} {L : Lx} {S : List Vx} {g : Gx} {c n : Nat} {o : Option Vx} {g' : Gx} (he : cd k pc = some (.arraylength, nx, 0, b, pw, cst)) (h2 : tpo c = some (13, n, [])) (h : Ev k nx L (.inl (n : Int) :: S) g o g') : Ev k pc L (.inr (.inr c) :: S) g o g' :=
  ev_step (q := (nx, L, .inl (n : Int) :: S, g)) he rfl rfl (by simp [stpx, alen, h2]) h
theorem ev_ald {k pc nx b pw : Nat} {cst : Int} {L : Lx} {S : List Vx} {g : Gx} {c n : Nat} {i : Int} {o : Option Vx} {g' : Gx} (he : cd k pc = some (.iaload, nx, 0, b, pw, cst)) (h2 : tpo c = some (13, n, [])) (hi : 0 ≤ i ∧ i < (n : Int)) (h : Ev k nx L (.inl (g c i.toNat) :: S) g o g') : Ev k pc L (.inl i :: .inr (.inr c) :: S) g o g' :=
  ev_step (q := (nx, L, .inl (g c i.toNat) :: S, g)) he rfl rfl (by simp [stpx, ald, h2, hi]) h
theorem ev_ast {k pc nx a b pw : Nat} {cst : Int} {L : Lx} {S : List Vx} {g : Gx} {c n : Nat} {i x : Int} {o : Option Vx} {g' : Gx} (he : cd k pc = some (.iastore, nx, a, b, pw, cst)) (h2 : tpo c = some (13, n, [])) (hi : 0 ≤ i ∧ i < (n : Int)) (h : Ev k nx L S (gset g c i.toNat x) o g') : Ev k pc L (.inl x :: .inl i :: .inr (.inr c) :: S) g o g' :=
  ev_step (q := (nx, L, S, gset g c i.toNat x)) he rfl rfl (by simp [stpx, ast, h2, hi]) h
theorem ev_Row_at {r c n : Nat} (h1 : tpo r = some (6, 0, [some c])) (h2 : tpo c = some (13, n, [])) (i : Int) (g : Gx) : Ev 13 0 [some (.inr (.inr r)), some (.inl i)] [] g (some (.inl (rat g c n i))) g := by
  refine ev_runs 1 (0, [some (.inr (.inr r)), some (.inl i)], [], g) (1, [some (.inr (.inr r)), some (.inl i)], [.inl i], g) rfl ?_
  by_cases h0 : i < 0
  · refine es (22, [some (.inr (.inr r)), some (.inl i)], [], g) (congrArg some (if_pos h0)) ?_
    refine ev_runs 1 (22, [some (.inr (.inr r)), some (.inl i)], [], g) (23, [some (.inr (.inr r)), some (.inl i)], [.inl 0], g) rfl ?_
    rw [show rat g c n i = 0 from if_neg (by omega)]
    exact er rfl
  · refine es (4, [some (.inr (.inr r)), some (.inl i)], [], g) (congrArg some (if_neg h0)) ?_
    refine ev_runs 2 (4, [some (.inr (.inr r)), some (.inl i)], [], g) (6, [some (.inr (.inr r)), some (.inl i)], [.inr (.inr r), .inl i], g) rfl ?_
    refine ev_gf rfl h1 ?_
    refine ev_al rfl h2 ?_
    by_cases h3 : (n : Int) ≤ i
    · refine es (22, [some (.inr (.inr r)), some (.inl i)], [], g) (congrArg some (if_pos h3)) ?_
      refine ev_runs 1 (22, [some (.inr (.inr r)), some (.inl i)], [], g) (23, [some (.inr (.inr r)), some (.inl i)], [.inl 0], g) rfl ?_
      rw [show rat g c n i = 0 from if_neg (by omega)]
      exact er rfl
    · refine es (13, [some (.inr (.inr r)), some (.inl i)], [], g) (congrArg some (if_neg h3)) ?_
      refine ev_runs 1 (13, [some (.inr (.inr r)), some (.inl i)], [], g) (14, [some (.inr (.inr r)), some (.inl i)], [.inr (.inr r)], g) rfl ?_
      refine ev_gf rfl h1 ?_
      refine ev_runs 1 (17, [some (.inr (.inr r)), some (.inl i)], [.inr (.inr c)], g) (18, [some (.inr (.inr r)), some (.inl i)], [.inl i, .inr (.inr c)], g) rfl ?_
      have hi : 0 ≤ i ∧ i < (n : Int) := by omega
      refine ev_ald rfl h2 hi ?_
      refine ev_runs 1 (19, [some (.inr (.inr r)), some (.inl i)], [.inl (g c i.toNat)], g) (23, [some (.inr (.inr r)), some (.inl i)], [.inl (g c i.toNat)], g) rfl ?_
      rw [show rat g c n i = g c i.toNat from if_pos hi]
      exact er rfl
theorem ev_Row_set {r c n : Nat} (h1 : tpo r = some (6, 0, [some c])) (h2 : tpo c = some (13, n, [])) (i v : Int) (g : Gx) : Ev 0 0 [some (.inr (.inr r)), some (.inl i), some (.inl v)] [] g none (rset g c n i v) := by
  refine ev_runs 1 (0, [some (.inr (.inr r)), some (.inl i), some (.inl v)], [], g) (1, [some (.inr (.inr r)), some (.inl i), some (.inl v)], [.inl i], g) rfl ?_
  by_cases h0 : i < 0
  · refine es (20, [some (.inr (.inr r)), some (.inl i), some (.inl v)], [], g) (congrArg some (if_pos h0)) ?_
    rw [rset_no (by omega)]
    exact er rfl
  · refine es (4, [some (.inr (.inr r)), some (.inl i), some (.inl v)], [], g) (congrArg some (if_neg h0)) ?_
    refine ev_runs 2 (4, [some (.inr (.inr r)), some (.inl i), some (.inl v)], [], g) (6, [some (.inr (.inr r)), some (.inl i), some (.inl v)], [.inr (.inr r), .inl i], g) rfl ?_
    refine ev_gf rfl h1 ?_
    refine ev_al rfl h2 ?_
    by_cases h3 : (n : Int) ≤ i
    · refine es (20, [some (.inr (.inr r)), some (.inl i), some (.inl v)], [], g) (congrArg some (if_pos h3)) ?_
      rw [rset_no (by omega)]
      exact er rfl
    · refine es (13, [some (.inr (.inr r)), some (.inl i), some (.inl v)], [], g) (congrArg some (if_neg h3)) ?_
      refine ev_runs 1 (13, [some (.inr (.inr r)), some (.inl i), some (.inl v)], [], g) (14, [some (.inr (.inr r)), some (.inl i), some (.inl v)], [.inr (.inr r)], g) rfl ?_
      refine ev_gf rfl h1 ?_
      refine ev_runs 2 (17, [some (.inr (.inr r)), some (.inl i), some (.inl v)], [.inr (.inr c)], g) (19, [some (.inr (.inr r)), some (.inl i), some (.inl v)], [.inl v, .inl i, .inr (.inr c)], g) rfl ?_
      have hi : 0 ≤ i ∧ i < (n : Int) := by omega
      refine ev_ast rfl h2 hi ?_
      rw [rset_in hi]
      exact er rfl
theorem ev_Row_add {r c n : Nat} (h1 : tpo r = some (6, 0, [some c])) (h2 : tpo c = some (13, n, [])) (i v : Int) (g : Gx) : Ev 22 0 [some (.inr (.inr r)), some (.inl i), some (.inl v)] [] g none (radd g c n i v) := by
  refine ev_runs 1 (0, [some (.inr (.inr r)), some (.inl i), some (.inl v)], [], g) (1, [some (.inr (.inr r)), some (.inl i), some (.inl v)], [.inl i], g) rfl ?_
  by_cases h0 : i < 0
  · refine es (23, [some (.inr (.inr r)), some (.inl i), some (.inl v)], [], g) (congrArg some (if_pos h0)) ?_
    rw [radd_no (by omega)]
    exact er rfl
  · refine es (4, [some (.inr (.inr r)), some (.inl i), some (.inl v)], [], g) (congrArg some (if_neg h0)) ?_
    refine ev_runs 2 (4, [some (.inr (.inr r)), some (.inl i), some (.inl v)], [], g) (6, [some (.inr (.inr r)), some (.inl i), some (.inl v)], [.inr (.inr r), .inl i], g) rfl ?_
    refine ev_gf rfl h1 ?_
    refine ev_al rfl h2 ?_
    by_cases h3 : (n : Int) ≤ i
    · refine es (23, [some (.inr (.inr r)), some (.inl i), some (.inl v)], [], g) (congrArg some (if_pos h3)) ?_
      rw [radd_no (by omega)]
      exact er rfl
    · refine es (13, [some (.inr (.inr r)), some (.inl i), some (.inl v)], [], g) (congrArg some (if_neg h3)) ?_
      refine ev_runs 1 (13, [some (.inr (.inr r)), some (.inl i), some (.inl v)], [], g) (14, [some (.inr (.inr r)), some (.inl i), some (.inl v)], [.inr (.inr r)], g) rfl ?_
      refine ev_gf rfl h1 ?_
      refine ev_runs 2 (17, [some (.inr (.inr r)), some (.inl i), some (.inl v)], [.inr (.inr c)], g) (19, [some (.inr (.inr r)), some (.inl i), some (.inl v)], [.inl i, .inr (.inr c), .inl i, .inr (.inr c)], g) rfl ?_
      have hi : 0 ≤ i ∧ i < (n : Int) := by omega
      refine ev_ald rfl h2 hi ?_
      refine ev_runs 2 (20, [some (.inr (.inr r)), some (.inl i), some (.inl v)], [.inl (g c i.toNat), .inl i, .inr (.inr c)], g) (22, [some (.inr (.inr r)), some (.inl i), some (.inl v)], [.inl (wr (g c i.toNat + v)), .inl i, .inr (.inr c)], g) rfl ?_
      refine ev_ast rfl h2 hi ?_
      rw [radd_in hi]
      exact er rfl
theorem row_fill_l {r c n : Nat} (h1 : tpo r = some (6, 0, [some c])) (h2 : tpo c = some (13, n, [])) (hn : n < 1000000) (v : Int) : ∀ (d : Nat) (j : Int) (g : Gx), 0 ≤ j → j + d = (n : Int) → Ev 119 2 [some (.inr (.inr r)), some (.inl v), some (.inl j)] [] g none (fun (b q : Nat) => if b = c then (if j ≤ (q : Int) ∧ q < n then v else g b q) else g b q) := by
  intro d
  induction d with
  | zero =>
    intro j g hj0 hj
    refine ev_runs 2 (2, [some (.inr (.inr r)), some (.inl v), some (.inl j)], [], g) (4, [some (.inr (.inr r)), some (.inl v), some (.inl j)], [.inr (.inr r), .inl j], g) rfl ?_
    refine ev_gf rfl h1 ?_
    refine ev_al rfl h2 ?_
    refine es (24, [some (.inr (.inr r)), some (.inl v), some (.inl j)], [], g) (congrArg some (if_pos (show (n : Int) ≤ j by omega))) ?_
    have : (fun (b q : Nat) => if b = c then (if j ≤ (q : Int) ∧ q < n then v else g b q) else g b q) = g := by
      funext b q
      by_cases hb : b = c
      · rw [if_pos hb, if_neg (by omega)]
      · rw [if_neg hb]
    rw [this]
    exact er rfl
  | succ d ih =>
    intro j g hj0 hj
    refine ev_runs 2 (2, [some (.inr (.inr r)), some (.inl v), some (.inl j)], [], g) (4, [some (.inr (.inr r)), some (.inl v), some (.inl j)], [.inr (.inr r), .inl j], g) rfl ?_
    refine ev_gf rfl h1 ?_
    refine ev_al rfl h2 ?_
    refine es (11, [some (.inr (.inr r)), some (.inl v), some (.inl j)], [], g) (congrArg some (if_neg (show ¬ (n : Int) ≤ j by omega))) ?_
    refine ev_runs 1 (11, [some (.inr (.inr r)), some (.inl v), some (.inl j)], [], g) (12, [some (.inr (.inr r)), some (.inl v), some (.inl j)], [.inr (.inr r)], g) rfl ?_
    refine ev_gf rfl h1 ?_
    refine ev_runs 2 (15, [some (.inr (.inr r)), some (.inl v), some (.inl j)], [.inr (.inr c)], g) (17, [some (.inr (.inr r)), some (.inl v), some (.inl j)], [.inl v, .inl j, .inr (.inr c)], g) rfl ?_
    refine ev_ast rfl h2 (by omega) ?_
    refine ev_runs 2 (18, [some (.inr (.inr r)), some (.inl v), some (.inl j)], [], gset g c j.toNat v) (2, [some (.inr (.inr r)), some (.inl v), some (.inl (wr (j + 1)))], [], gset g c j.toNat v) rfl ?_
    rw [wr_id (by omega) (by omega)]
    have h := ih (j + 1) (gset g c j.toNat v) (by omega) (by omega)
    have : (fun (b q : Nat) => if b = c then (if j + 1 ≤ (q : Int) ∧ q < n then v else gset g c j.toNat v b q) else gset g c j.toNat v b q) = (fun (b q : Nat) => if b = c then (if j ≤ (q : Int) ∧ q < n then v else g b q) else g b q) := by
      funext b q
      by_cases hb : b = c
      · subst hb
        simp only [gset, if_true]
        by_cases hq : q = j.toNat
        · rw [if_neg (by omega), if_pos hq, if_pos (by omega)]
        · by_cases h9 : j + 1 ≤ (q : Int) ∧ q < n
          · rw [if_pos h9, if_pos (by omega)]
          · rw [if_neg h9, if_neg hq, if_neg (by omega)]
      · simp only [gset, hb, if_false]
    rw [this] at h
    exact h
theorem ev_Row_fill {r c n : Nat} (h1 : tpo r = some (6, 0, [some c])) (h2 : tpo c = some (13, n, [])) (hn : n < 1000000) (v : Int) (g : Gx) : Ev 119 0 [some (.inr (.inr r)), some (.inl v), none] [] g none (rfill g c n v) := by
  refine ev_runs 2 (0, [some (.inr (.inr r)), some (.inl v), none], [], g) (2, [some (.inr (.inr r)), some (.inl v), some (.inl 0)], [], g) rfl ?_
  have h := row_fill_l h1 h2 hn v n 0 g (by omega) (by omega)
  have : (fun (b q : Nat) => if b = c then (if (0 : Int) ≤ (q : Int) ∧ q < n then v else g b q) else g b q) = rfill g c n v := by
    funext b q
    simp [rfill]
  rw [this] at h
  exact h
