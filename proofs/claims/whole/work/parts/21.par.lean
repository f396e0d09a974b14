/-! A text read, as both read it: brackets that are open, what stands ahead in each; all histories of what has been read. Own text. -/
def chr (t : List Int) (p : Nat) : Int := t.getD p (-1)
theorem chr_lt {t : List Int} {p : Nat} (h : chr t p ≠ -1) : p < t.length := by
  rcases Nat.lt_or_ge p t.length with h1 | h1
  · exact h1
  · exfalso; apply h; simp [chr, List.getD_eq_getElem?_getD, List.getElem?_eq_none h1]
abbrev Fm : Type := Nat × Nat × Nat × Nat × (Nat → Ds) × Ds
abbrev PS : Type := Nat × Bool × List Fm × Ds × List Nat × Nat × Nat
def updD (W : Nat → Ds) (m : Nat) (D : Ds) : Nat → Ds := fun i => if i = m then D else W i
def pitem (t : List Int) (p : Nat) (fs : List Fm) (D : Ds) (cs : List Nat) (us sy : Nat) : Nat ⊕ PS :=
  if chr t p = 45 then .inr (p + 1, false, fs, D, cs, us, sy)
  else if 65 ≤ chr t p ∧ chr t p ≤ 70 then
    if chr t (p + 1) = 62 then
      if ¬ (65 ≤ chr t (p + 2) ∧ chr t (p + 2) ≤ 70) ∨ chr t (p + 2) = chr t p then .inl (p + 2)
      else if ¬ (97 ≤ chr t (p + 3) ∧ chr t (p + 3) ≤ 122) then .inl (p + 3)
      else .inr (p + 4, false, fs, dseq D (dsay (1000 * (chr t p - 65) + 100 * (chr t (p + 2) - 65) + (chr t (p + 3) - 97))), cs, us ||| (2 ^ (chr t p - 65).toNat ||| 2 ^ (chr t (p + 2) - 65).toNat), sy + 1)
    else if chr t (p + 1) = 40 ∧ fs.length < 4 then .inr (p + 2, true, (1, cs.length, (chr t p - 65).toNat, 0, fun _ => dnil, D) :: fs, dnil, cs ++ [(chr t p - 65).toNat], us ||| 2 ^ (chr t p - 65).toNat, sy)
    else .inl (p + 1)
  else if 50 ≤ chr t p ∧ chr t p ≤ 52 then
    if chr t (p + 1) = 40 ∧ fs.length < 4 then .inr (p + 2, true, (0, (chr t p - 48).toNat, 0, 0, fun _ => dnil, D) :: fs, dnil, cs, us, sy)
    else .inl (p + 1)
  else .inl p
def pbeh (t : List Int) (p : Nat) (fs : List Fm) (D : Ds) (cs : List Nat) (us sy : Nat) : Nat ⊕ PS :=
  if chr t p = 44 then .inr (p + 1, true, fs, D, cs, us, sy)
  else match fs with
    | [] => .inl p
    | (kd, c, tk, m, W, bf) :: fs' =>
      if chr t p = 124 then
        if kd = 0 ∨ 3 ≤ m then .inl p
        else .inr (p + 1, true, (kd, c, tk, m + 1, updD W m D, bf) :: fs', dnil, cs, us, sy)
      else if chr t p = 41 then
        if kd = 0 then .inr (p + 1, false, fs', dseq bf (drep c D), cs, us, sy)
        else if m = 0 then .inl p
        else .inr (p + 1, false, fs', dseq bf (dch c tk (m + 1) (updD W m D)), cs, us, sy)
      else .inl p
def prun (t : List Int) : Nat → PS → Int × PS
  | 0, s => (-5, s)
  | n + 1, (p, due, fs, D, cs, us, sy) =>
    if due = true then
      match pitem t p fs D cs us sy with
      | .inl f => ((f : Int), (p, due, fs, D, cs, us, sy))
      | .inr s => prun t n s
    else if p < t.length then
      match pbeh t p fs D cs us sy with
      | .inl f => ((f : Int), (p, due, fs, D, cs, us, sy))
      | .inr s => prun t n s
    else if fs.isEmpty = true then (-1, (p, due, fs, D, cs, us, sy)) else ((t.length : Int), (p, due, fs, D, cs, us, sy))
def s0 : PS := (0, true, [], dnil, [], 0, 0)
def pln (t : List Int) : Int × PS := prun t 400 s0
def frw : List Fm → Int
  | [] => 0
  | f :: fs => (if f.1 = 1 then 3 - 2 * (f.2.2.2.1 : Int) else 0) + frw fs
def okF (f : Fm) : Prop := (f.1 = 0 ∧ 2 ≤ f.2.1 ∧ f.2.1 ≤ 4) ∨ (f.1 = 1 ∧ f.2.2.1 < 6 ∧ f.2.2.2.1 ≤ 3 ∧ ∀ i, f.2.2.2.1 ≤ i → f.2.2.2.2.1 i = dnil)
def okT (t : List Int) (s : PS) : Prop :=
  s.1 ≤ t.length ∧ s.2.2.1.length ≤ 4 ∧ (∀ f ∈ s.2.2.1, okF f) ∧ 5 * (s.2.2.2.2.1.length : Int) + (if s.2.1 = true then 0 else 1) ≤ (s.1 : Int) + frw s.2.2.1 ∧ (∀ x ∈ s.2.2.2.2.1, x < 6) ∧ s.2.2.2.2.2.1 < 64 ∧ s.2.2.2.2.2.2 ≤ s.1
theorem frw_le : ∀ (fs : List Fm), frw fs ≤ 3 * (fs.length : Int)
  | [] => by simp [frw]
  | f :: fs => by
    have := frw_le fs
    simp only [frw, List.length_cons]
    split <;> omega
theorem okT.cs {t : List Int} {s : PS} (h : okT t s) (ht : t.length ≤ 160) : s.2.2.2.2.1.length < 40 := by
  obtain ⟨h1, h2, h3, h4, -⟩ := h
  have := frw_le s.2.2.1
  split at h4 <;> omega
theorem ok_item {t : List Int} {p : Nat} {fs : List Fm} {D : Ds} {cs : List Nat} {us sy : Nat} {s' : PS} (h : okT t (p, true, fs, D, cs, us, sy)) (e : pitem t p fs D cs us sy = .inr s') : okT t s' ∧ p < s'.1 := by
  obtain ⟨h1, h2, h3, h4, h5, h6, h7⟩ := h
  simp only [if_true] at h1 h2 h3 h4 h5 h6 h7
  unfold pitem at e
  split at e
  · rename_i hc
    have := chr_lt (t := t) (p := p) (by omega)
    cases e
    refine ⟨⟨by show p + 1 ≤ _; omega, h2, h3, ?_, h5, h6, by show sy ≤ p + 1; omega⟩, by show p < p + 1; omega⟩
    show 5 * (cs.length : Int) + (if false = true then 0 else 1) ≤ ((p + 1 : Nat) : Int) + frw fs
    rw [if_neg (by decide)]; omega
  · split at e
    · rename_i hA
      split at e
      · split at e
        · cases e
        · split at e
          · cases e
          · rename_i h8 h9
            have hw : 97 ≤ chr t (p + 3) ∧ chr t (p + 3) ≤ 122 := Decidable.not_not.mp h9
            have := chr_lt (t := t) (p := p + 3) (by omega)
            have hb : 65 ≤ chr t (p + 2) ∧ chr t (p + 2) ≤ 70 := by
              rcases Decidable.em (65 ≤ chr t (p + 2) ∧ chr t (p + 2) ≤ 70) with h | h
              · exact h
              · exact absurd (Or.inl h) h8
            cases e
            refine ⟨⟨by show p + 4 ≤ _; omega, h2, h3, ?_, h5, ?_, by show sy + 1 ≤ p + 4; omega⟩, by show p < p + 4; omega⟩
            · show 5 * (cs.length : Int) + (if false = true then 0 else 1) ≤ ((p + 4 : Nat) : Int) + frw fs
              rw [if_neg (by decide)]; omega
            · have b1 : 2 ^ (chr t p - 65).toNat < 2 ^ 6 := Nat.pow_lt_pow_right (by decide) (by omega)
              have b2 : 2 ^ (chr t (p + 2) - 65).toNat < 2 ^ 6 := Nat.pow_lt_pow_right (by decide) (by omega)
              exact Nat.or_lt_two_pow (n := 6) h6 (Nat.or_lt_two_pow b1 b2)
      · split at e
        · rename_i h8
          have := chr_lt (t := t) (p := p + 1) (by omega)
          cases e
          refine ⟨⟨by show p + 2 ≤ _; omega, by show fs.length + 1 ≤ 4; omega, fun f hf => ?_, ?_, fun x hx => ?_, ?_, by show sy ≤ p + 2; omega⟩, by show p < p + 2; omega⟩
          · rcases List.mem_cons.mp hf with hf | hf
            · subst hf; exact Or.inr ⟨rfl, by show (chr t p - 65).toNat < 6; omega, by show 0 ≤ 3; omega, fun _ _ => rfl⟩
            · exact h3 f hf
          · show 5 * ((cs ++ [(chr t p - 65).toNat]).length : Int) + (if true = true then 0 else 1) ≤ ((p + 2 : Nat) : Int) + ((if 1 = 1 then 3 - 2 * ((0 : Nat) : Int) else 0) + frw fs)
            rw [if_pos rfl, if_pos rfl, List.length_append, List.length_singleton]; omega
          · rcases List.mem_append.mp hx with hx | hx
            · exact h5 x hx
            · simp at hx; omega
          · have b1 : 2 ^ (chr t p - 65).toNat < 2 ^ 6 := Nat.pow_lt_pow_right (by decide) (by omega)
            exact Nat.or_lt_two_pow (n := 6) h6 b1
        · cases e
    · split at e
      · rename_i hR
        split at e
        · rename_i h8
          have := chr_lt (t := t) (p := p + 1) (by omega)
          cases e
          refine ⟨⟨by show p + 2 ≤ _; omega, by show fs.length + 1 ≤ 4; omega, fun f hf => ?_, ?_, h5, h6, by show sy ≤ p + 2; omega⟩, by show p < p + 2; omega⟩
          · rcases List.mem_cons.mp hf with hf | hf
            · subst hf; exact Or.inl ⟨rfl, by show 2 ≤ (chr t p - 48).toNat; omega, by show (chr t p - 48).toNat ≤ 4; omega⟩
            · exact h3 f hf
          · show 5 * (cs.length : Int) + (if true = true then 0 else 1) ≤ ((p + 2 : Nat) : Int) + ((if 0 = 1 then 3 - 2 * ((0 : Nat) : Int) else 0) + frw fs)
            rw [if_pos rfl, if_neg (by decide)]; omega
        · cases e
      · cases e
theorem updD_dn {W : Nat → Ds} {m : Nat} {D : Ds} (h : ∀ i, m ≤ i → W i = dnil) : ∀ i, m + 1 ≤ i → updD W m D i = dnil := fun i hi => by
  unfold updD
  rw [if_neg (by omega)]
  exact h i (by omega)
theorem ok_beh {t : List Int} {p : Nat} {fs : List Fm} {D : Ds} {cs : List Nat} {us sy : Nat} {s' : PS} (hp : p < t.length) (h : okT t (p, false, fs, D, cs, us, sy)) (e : pbeh t p fs D cs us sy = .inr s') : okT t s' ∧ p < s'.1 := by
  obtain ⟨h1, h2, h3, h4, h5, h6, h7⟩ := h
  have h4 : 5 * (cs.length : Int) + 1 ≤ (p : Int) + frw fs := h4
  have h3 : ∀ f ∈ fs, okF f := h3
  have h2 : fs.length ≤ 4 := h2
  have h5 : ∀ x ∈ cs, x < 6 := h5
  have h6 : us < 64 := h6
  have h7 : sy ≤ p := h7
  unfold pbeh at e
  split at e
  · cases e
    refine ⟨⟨by show p + 1 ≤ _; omega, h2, h3, ?_, h5, h6, by show sy ≤ p + 1; omega⟩, by show p < p + 1; omega⟩
    show 5 * (cs.length : Int) + 0 ≤ ((p + 1 : Nat) : Int) + frw fs
    omega
  · cases fs with
    | nil => cases e
    | cons f0 fs' =>
      obtain ⟨kd, c, tk, m, W, bf⟩ := f0
      simp only at e
      have hf := h3 _ List.mem_cons_self
      have h3' : ∀ f ∈ fs', okF f := fun f hf => h3 f (List.mem_cons_of_mem _ hf)
      have h4 : 5 * (cs.length : Int) + 1 ≤ (p : Int) + ((if kd = 1 then 3 - 2 * (m : Int) else 0) + frw fs') := h4
      have h2 : fs'.length + 1 ≤ 4 := h2
      split at e
      · split at e
        · cases e
        · rename_i h8
          cases e
          rcases hf with ⟨hk, -⟩ | ⟨hk, a1, a2, a3⟩
          · exact absurd (Or.inl hk) h8
          · have hk : kd = 1 := hk
            subst hk
            refine ⟨⟨by show p + 1 ≤ _; omega, by show fs'.length + 1 ≤ 4; omega, fun f hf => ?_, ?_, h5, h6, by show sy ≤ p + 1; omega⟩, by show p < p + 1; omega⟩
            · rcases List.mem_cons.mp hf with hf | hf
              · subst hf; exact Or.inr ⟨rfl, a1, by show m + 1 ≤ 3; omega, updD_dn a3⟩
              · exact h3' f hf
            · show 5 * (cs.length : Int) + 0 ≤ ((p + 1 : Nat) : Int) + ((if 1 = 1 then 3 - 2 * ((m + 1 : Nat) : Int) else 0) + frw fs')
              rw [if_pos rfl]
              rw [if_pos rfl] at h4
              omega
      · split at e
        · split at e
          · rename_i hk
            cases e
            refine ⟨⟨by show p + 1 ≤ _; omega, by show fs'.length ≤ 4; omega, h3', ?_, h5, h6, by show sy ≤ p + 1; omega⟩, by show p < p + 1; omega⟩
            show 5 * (cs.length : Int) + 1 ≤ ((p + 1 : Nat) : Int) + frw fs'
            rw [if_neg (by omega)] at h4
            omega
          · split at e
            · cases e
            · rename_i hk hm
              cases e
              rcases hf with ⟨hk2, -⟩ | ⟨hk2, a1, a2, a3⟩
              · exact absurd hk2 hk
              · have hk2 : kd = 1 := hk2
                subst hk2
                refine ⟨⟨by show p + 1 ≤ _; omega, by show fs'.length ≤ 4; omega, h3', ?_, h5, h6, by show sy ≤ p + 1; omega⟩, by show p < p + 1; omega⟩
                show 5 * (cs.length : Int) + 1 ≤ ((p + 1 : Nat) : Int) + frw fs'
                rw [if_pos rfl] at h4
                omega
        · cases e
theorem ok_s0 (t : List Int) : okT t s0 := by
  refine ⟨Nat.zero_le _, Nat.zero_le _, fun f hf => by simp [s0] at hf, by simp [s0, frw], fun f hf => by simp [s0] at hf, by simp [s0], by simp [s0]⟩
