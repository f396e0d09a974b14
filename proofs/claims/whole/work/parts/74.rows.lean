/-! Words of the decompiled functions; fewer locals are enough; the rows of numbers. Own text. -/
def Lle : Lx → Lx → Prop
  | [], [] => True
  | none :: a, _ :: b => Lle a b
  | some v :: a, x :: b => x = some v ∧ Lle a b
  | _, _ => False
def Lli (L L' : Lx) : Prop := L.length = L'.length ∧ ∀ (i : Nat) (v : Vx), L[i]? = some (some v) → L'[i]? = some (some v)
theorem Lle.i : ∀ {L L' : Lx}, Lle L L' → Lli L L'
  | [], [], _ => ⟨rfl, fun i v h => h⟩
  | none :: a, x :: b, h => by
    obtain ⟨h1, h2⟩ := Lle.i (show Lle a b from h)
    refine ⟨by simp [h1], fun i v hv => ?_⟩
    match i, hv with
    | 0, hv => simp at hv
    | i + 1, hv => simpa using h2 i v (by simpa using hv)
  | some w :: a, x :: b, h => by
    obtain ⟨h0, h⟩ := h
    obtain ⟨h1, h2⟩ := Lle.i (show Lle a b from h)
    refine ⟨by simp [h1], fun i v hv => ?_⟩
    match i, hv with
    | 0, hv => subst h0; exact hv
    | i + 1, hv => simpa using h2 i v (by simpa using hv)
  | [], _ :: _, h => h.elim
  | none :: _, [], h => h.elim
  | some _ :: _, [], h => h.elim
theorem lkill_keep {L : Lx} {i j : Nat} {w : Vx} (h : L[j]? = some (some w)) (hn : ¬ (j + 1 = i ∧ cat w = 2)) : (lkill L i)[j]? = some (some w) := by
  unfold lkill
  split
  · exact h
  · rename_i k
    split
    · rename_i z hz
      rw [List.getElem?_set]
      by_cases hk : k = j
      · subst hk
        rw [hz] at h
        cases h
        exact absurd ⟨rfl, rfl⟩ hn
      · rw [if_neg hk]; exact h
    · exact h
theorem Lli.s1 {L L' : Lx} {i : Nat} {v : Vx} (h : Lli L L') : Lli (lst1 L i v) (lst1 L' i v) := by
  refine ⟨by rw [lst1_len, lst1_len, h.1], fun j w hw => ?_⟩
  have hj : j < (lst1 L i v).length := (List.getElem?_eq_some_iff.mp hw).1
  rw [lst1_len] at hj
  unfold lst1
  rw [List.getElem?_set]
  rcases lst1_at hw with ⟨rfl, rfl⟩ | ⟨h1, h2, h3⟩
  · rw [if_pos rfl, lkill_len, ← h.1, if_pos hj]
  · rw [if_neg (fun h9 => h1 h9.symm)]
    exact lkill_keep (h.2 j w h2) h3
theorem Lli.s2 {L L' : Lx} {i : Nat} {v : Vx} (h : Lli L L') : Lli (lst2 L i v) (lst2 L' i v) := by
  refine ⟨by rw [lst2_len, lst2_len, h.1], fun j w hw => ?_⟩
  have hw1 : (lst1 L i v)[j]? = some (some w) ∧ i + 1 ≠ j := by
    unfold lst2 at hw
    rw [List.getElem?_set] at hw
    by_cases hk : i + 1 = j
    · rw [if_pos hk] at hw; split at hw <;> cases hw
    · rw [if_neg hk] at hw; exact ⟨hw, hk⟩
  unfold lst2
  rw [List.getElem?_set, if_neg hw1.2]
  exact h.s1.2 j w hw1.1
theorem stp_le {pc : Nat} {x : Ex} {L L' L1 : Lx} {S S1 : List Vx} {g g1 : Gx} {p1 : Nat} (hL : Lli L L') (h : stpx pc x L S g = some (p1, L1, S1, g1)) : ∃ L2, stpx pc x L' S g = some (p1, L2, S1, g1) ∧ Lli L1 L2 := by
  obtain ⟨ins, nx, a, b, pw, cst⟩ := x
  cases ins
  case iload_n i | iload i | lload_n i | lload i | aload_n i =>
    simp only [stpx] at h ⊢
    split at h
    · rename_i z hz
      cases h
      rw [hL.2 _ _ hz]
      exact ⟨L', rfl, hL⟩
    · cases h
  case istore_n i | istore i | astore_n i =>
    simp only [stpx] at h ⊢
    split at h
    · cases h; exact ⟨_, rfl, hL.s1⟩
    · cases h
  case lstore_n i | lstore i =>
    simp only [stpx] at h ⊢
    split at h
    · cases h; exact ⟨_, rfl, hL.s2⟩
    · cases h
  case iinc i n =>
    simp only [stpx] at h ⊢
    split at h
    · rename_i z hz
      cases h
      rw [hL.2 _ _ hz]
      exact ⟨_, rfl, hL.s1⟩
    · cases h
  case if_icmp cc off | ifCond cc off =>
    simp only [stpx] at h ⊢
    split at h
    · cases cc <;> simp only [br] at h ⊢ <;> split at h <;> rename_i h9 <;> cases h <;> simp only [h9, if_true, if_false, not_true_eq_false, not_false_eq_true] <;> exact ⟨L', rfl, hL⟩
    · cases h
  case getfield i =>
    simp only [stpx, getf] at h ⊢
    split at h
    · split at h
      · split at h
        · rename_i h9
          split at h <;> rename_i h8 <;> cases h <;> simp only [h9, if_true] <;> exact ⟨L', rfl, hL⟩
        · cases h
      · cases h
    · cases h
  case putfield i =>
    simp only [stpx, putf] at h ⊢
    split at h
    · split at h
      · split at h
        · rename_i h9
          split at h
          · split at h
            · split at h
              · rename_i h7 h6
                cases h
                simp only [h9, if_true, h7, h6]
                exact ⟨L', rfl, hL⟩
              · cases h
            · rename_i h7
              cases h
              simp only [h9, if_true, h7, if_false]
              exact ⟨L', rfl, hL⟩
          · cases h
        · cases h
      · cases h
    · cases h
  case iaload | laload =>
    simp only [stpx, ald] at h ⊢
    split at h
    · split at h
      · rename_i h9
        split at h
        · rename_i h8; cases h; rw [if_pos h9, if_pos h8]; exact ⟨L', rfl, hL⟩
        · cases h
      · rename_i h9
        rw [if_neg h9]
        split at h
        · split at h
          · rename_i h8
            split at h
            · rename_i h7; cases h; rw [if_pos h8, if_pos h7]; exact ⟨L', rfl, hL⟩
            · cases h
          · cases h
        · cases h
    · cases h
  case iastore | lastore =>
    simp only [stpx] at h ⊢
    split at h
    · unfold ast at h ⊢
      split at h
      · split at h
        · rename_i h8
          split at h
          · rename_i h7; cases h; rw [if_pos h8, if_pos h7]; exact ⟨L', rfl, hL⟩
          · cases h
        · cases h
      · cases h
    · cases h
  case arraylength =>
    simp only [stpx, alen] at h ⊢
    split at h
    · split at h
      · rename_i h9
        split at h
        · rename_i h8; cases h; rw [if_pos h9, if_pos h8]; exact ⟨L', rfl, hL⟩
        · cases h
      · rename_i h9
        rw [if_neg h9]
        split at h
        · split at h
          · rename_i h8; cases h; rw [if_pos h8]; exact ⟨L', rfl, hL⟩
          · cases h
        · cases h
    · cases h
  case idiv | irem =>
    simp only [stpx] at h ⊢
    split at h
    · split at h
      · cases h
      · rename_i h8; cases h; rw [if_neg h8]; exact ⟨L', rfl, hL⟩
    · cases h
  case invokestatic i =>
    simp only [stpx] at h ⊢
    split at h
    · split at h
      · rename_i h8; cases h; rw [if_pos h8]; exact ⟨L', rfl, hL⟩
      · cases h
    · cases h
  all_goals first
    | exact absurd (show (none : Option Stx) = some (p1, L1, S1, g1) from h) (by simp)
    | (cases h; exact ⟨L', rfl, hL⟩)
    | (simp only [stpx, op2, op2l] at h ⊢; split at h <;> first | (cases h; exact ⟨L', rfl, hL⟩) | cases h)
theorem ex_le : ∀ (n k pc : Nat) (L L' : Lx) (S : List Vx) (g : Gx) (o : Option Vx × Gx), Lli L L' → ex n k pc L S g = some o → ex n k pc L' S g = some o := by
  intro n
  induction n with
  | zero => intro k pc L L' S g o _ h; simp [ex] at h
  | succ n ih =>
    intro k pc L L' S g o hL h
    rw [ex] at h ⊢
    cases hc : cd k pc with
    | none => rw [hc] at h; cases h
    | some x =>
      rw [hc] at h
      simp only at h ⊢
      cases h1 : isCall x with
      | true =>
        rw [h1] at h
        simp only at h ⊢
        cases h2 : callOf k x S with
        | none => rw [h2] at h; cases h
        | some q =>
          obtain ⟨as, rest⟩ := q
          rw [h2] at h
          simp only at h ⊢
          cases h3 : ex n x.2.2.1 0 (padL (entL as) (mL x.2.2.1)) [] g with
          | none => rw [h3] at h; cases h
          | some q =>
            obtain ⟨r1, g1⟩ := q
            rw [h3] at h
            exact ih _ _ _ _ _ _ _ hL h
      | false =>
        rw [h1] at h
        simp only at h ⊢
        cases h2 : isRet x.1 with
        | true => rw [h2] at h; exact h
        | false =>
          rw [h2] at h
          simp only at h ⊢
          cases h3 : stpx pc x L S g with
          | none => rw [h3] at h; cases h
          | some q =>
            obtain ⟨p1, L1, S1, g1⟩ := q
            rw [h3] at h
            obtain ⟨L2, e1, e2⟩ := stp_le hL h3
            rw [e1]
            exact ih _ _ _ _ _ _ _ e2 h
theorem ev_le {k pc : Nat} {L L' : Lx} {S : List Vx} {g : Gx} {r : Option Vx} {g' : Gx} (hL : Lle L L') (h : Ev k pc L S g r g') : Ev k pc L' S g r g' := by
  obtain ⟨n, h⟩ := h
  exact ⟨n, ex_le _ _ _ _ _ _ _ _ hL.i h⟩
theorem ev_sw {k pc nx a b pw : Nat} {cst d lo hi : Int} {offs : Array Int} {L : Lx} {S : List Vx} {g : Gx} {r : Option Vx} {g' : Gx} {x : Int} {tgt : Nat} (he : cd k pc = some (.tableswitch d lo hi offs, nx, a, b, pw, cst)) (ht : tsw pc d lo hi offs x = tgt) (h : Ev k tgt L S g r g') : Ev k pc L (.inl x :: S) g r g' := by
  refine ev_step (q := (tgt, L, S, g)) he rfl rfl ?_ h
  rw [← ht]
  rfl
