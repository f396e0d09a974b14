/-! The small machine is sound, for every method. Own text. -/
section SND7
variable {p : Program} {l : Launch} {e : Env} {R : Room} {s : State} {m : MethodId} {args : Array Value} {below : List Frame} {meth : Method} {c : Code} {cells slots : Nat} {Q : State → Prop} {ad : Nat → Nat} {D : va_G} {cI cJ : ClassId} {H0 : Heap} {b0 N0 : Nat} {xs0 : Nat → Int32}
theorem callOf_inv {k : Nat} {x : Ex} {S as rest : List Vx} (h : callOf k x S = some (as, rest)) : S = as.reverse ++ rest ∧ as.length = x.2.2.2.1 ∧ (rest.map cat).sum ≤ 8 ∧ mFr x.2.2.1 + 1 ≤ mFr k ∧ mL x.2.2.1 + 19 + mLo x.2.2.1 ≤ mLo k ∧ (entL as).length ≤ mL x.2.2.1 ∧ recvOk x.2.2.1 x.1 as = true := by
  obtain ⟨ins, nx, j, na, pw, cst⟩ := x
  simp only [callOf] at h
  split at h
  · rename_i hc
    simp only [Bool.and_eq_true, beq_iff_eq] at hc
    obtain ⟨⟨⟨⟨⟨h1, h2⟩, h3⟩, h4⟩, h5⟩, h6⟩ := hc
    cases h
    refine ⟨by rw [List.reverse_reverse, List.take_append_drop], by rw [List.length_reverse]; exact h1, ble_e h2, ble_e h3, ble_e h4, ble_e h5, h6⟩
  · cases h
/-- cells outside the world stay -/
theorem stp_out {pc : Nat} {x : Ex} {L : Lx} {S : List Vx} {g : Gx} {q : Stx} (h : stpx pc x L S g = some q) : ∀ z, 128 ≤ z → q.2.2.2 z = g z := by
  obtain ⟨ins, nx, a, b, pw, cst⟩ := x
  intro z hz
  cases ins
  case putfield i =>
    simp only [stpx, putf] at h
    split at h
    · split at h
      · rename_i ci n9 fks ht
        have hq : _ < 128 := tpo_lt ht
        split at h
        · split at h
          · split at h
            · split at h
              · cases h; exact gset_ne (by omega)
              · cases h
            · cases h; exact gset_ne (by omega)
          · cases h
        · cases h
      · cases h
    · cases h
  case iastore =>
    simp only [stpx] at h
    split at h
    · unfold ast at h
      split at h
      · rename_i ht
        have hq : _ < 128 := tpo_lt ht
        split at h
        · split at h
          · cases h; exact gset_ne (by omega)
          · cases h
        · cases h
      · cases h
    · cases h
  case lastore =>
    simp only [stpx] at h
    split at h
    · unfold ast at h
      split at h
      · rename_i ht
        have hq : _ < 128 := tpo_lt ht
        split at h
        · split at h
          · cases h; exact gset_ne (by omega)
          · cases h
        · cases h
      · cases h
    · cases h
  case getfield i =>
    simp only [stpx, getf] at h
    split at h
    · split at h
      · split at h
        · split at h <;> cases h <;> rfl
        · cases h
      · cases h
    · cases h
  case iaload =>
    simp only [stpx, ald] at h
    split at h
    · split at h
      · split at h <;> cases h; rfl
      · split at h
        · split at h
          · split at h <;> cases h; rfl
          · cases h
        · cases h
    · cases h
  case laload =>
    simp only [stpx, ald] at h
    split at h
    · split at h
      · split at h <;> cases h; rfl
      · split at h
        · split at h
          · split at h <;> cases h; rfl
          · cases h
        · cases h
    · cases h
  case arraylength =>
    simp only [stpx, alen] at h
    split at h
    · split at h
      · split at h <;> cases h; rfl
      · split at h
        · split at h <;> cases h; rfl
        · cases h
    · cases h
  case if_icmp cc off =>
    simp only [stpx] at h
    split at h
    · cases h
      cases cc <;> simp only [br] <;> split <;> rfl
    · cases h
  case ifCond cc off =>
    simp only [stpx] at h
    split at h
    · cases h
      cases cc <;> simp only [br] <;> split <;> rfl
    · cases h
  all_goals first
    | exact absurd (show (none : Option Stx) = some q from h) (by simp)
    | (cases h; rfl)
    | (simp only [stpx, op2, op2l] at h; split at h <;> first | (cases h; rfl) | cases h | (split at h <;> first | (cases h; rfl) | cases h))
theorem ex_out : ∀ (n k pc : Nat) (L : Lx) (S : List Vx) (g : Gx) (r : Option Vx) (g' : Gx), ex n k pc L S g = some (r, g') → ∀ z, 128 ≤ z → g' z = g z := by
  intro n
  induction n with
  | zero => intro k pc L S g r g' h; simp [ex] at h
  | succ n ih =>
    intro k pc L S g r g' h z hz
    rw [ex] at h
    cases hc : cd k pc with
    | none => rw [hc] at h; cases h
    | some x =>
      rw [hc] at h
      simp only at h
      cases h1 : isCall x with
      | true =>
        rw [h1] at h
        simp only at h
        cases h2 : callOf k x S with
        | none => rw [h2] at h; cases h
        | some q =>
          obtain ⟨as, rest⟩ := q
          rw [h2] at h
          simp only at h
          cases h3 : ex n x.2.2.1 0 (padL (entL as) (mL x.2.2.1)) [] g with
          | none => rw [h3] at h; cases h
          | some q =>
            obtain ⟨r1, g1⟩ := q
            rw [h3] at h
            rw [ih _ _ _ _ _ _ _ h z hz, ih _ _ _ _ _ _ _ h3 z hz]
      | false =>
        rw [h1] at h
        simp only at h
        cases h2 : isRet x.1 with
        | true =>
          rw [h2] at h
          simp only [retOf] at h
          split at h <;> first | cases h | skip
          · split at h <;> first | cases h | skip
            split at h
            · split at h <;> cases h; rfl
            · cases h; rfl
          · split at h <;> cases h; rfl
          · split at h <;> cases h; rfl
        | false =>
          rw [h2] at h
          simp only at h
          cases h3 : stpx pc x L S g with
          | none => rw [h3] at h; cases h
          | some q =>
            obtain ⟨a, b, c, d⟩ := q
            rw [h3] at h
            rw [ih _ _ _ _ _ _ _ h z hz]
            exact stp_out h3 z hz
end SND7
