/-! All histories of a text, as lists: one behind the other, of choices, of rounds; in what order they stand. Own text. -/
abbrev Pk : Type := Nat × Nat × Nat × Nat
abbrev Hy : Type := List Pk × List Int
abbrev Ds : Type := Int → List Hy
def hcat (a b : Hy) : Hy := (a.1 ++ b.1, a.2 ++ b.2)
def lseq : List Hy → List Hy → List Hy
  | [], _ => []
  | a :: A, B => B.map (hcat a) ++ lseq A B
def dseq (A B : Ds) : Ds := fun t => lseq (A t) (B t)
def dnil : Ds := fun _ => [([], [])]
def dsay (c : Int) : Ds := fun _ => [([], [c])]
def drep : Nat → Ds → Ds
  | 0, _ => dnil
  | k + 1, D => dseq D (drep k D)
def isTold (u : Int) (c t x : Nat) : Bool := decide (c < 5) && (x != t) && u.toNat.testBit (6 * c + x)
def tells (u : Int) (c t w : Nat) : List Int := ((List.range 6).filter (isTold u c t)).map (fun x => ((1000 * t + 100 * x + 26 + w : Nat) : Int))
def pkh (u : Int) (c t m w : Nat) (e : Hy) : Hy := ((w, c, m, t) :: e.1, tells u c t w ++ e.2)
def lch (u : Int) (c t m : Nat) (W : Nat → Ds) : Nat → Nat → List Hy
  | _, 0 => []
  | w, n + 1 => (W w u).map (pkh u c t m w) ++ lch u c t m W (w + 1) n
def dch (c t m : Nat) (W : Nat → Ds) : Ds := fun u => lch u c t m W 0 m
def mxp (p : Pk) : Prop := p.1 + 1 = p.2.2.1
def okp (p : Pk) : Prop := p.1 < p.2.2.1 ∧ p.2.1 < 40 ∧ 2 ≤ p.2.2.1 ∧ p.2.2.1 ≤ 4 ∧ p.2.2.2 < 6
def Nx (a b : Hy) : Prop := ∃ (pre : List Pk) (w c m t : Nat) (suf suf' : List Pk), a.1 = pre ++ (w, c, m, t) :: suf ∧ b.1 = pre ++ (w + 1, c, m, t) :: suf' ∧ w + 1 < m ∧ (∀ p ∈ suf, mxp p) ∧ (∀ p ∈ suf', p.1 = 0)
def adj (R : Hy → Hy → Prop) : List Hy → Prop
  | [] => True
  | [_] => True
  | a :: b :: l => R a b ∧ adj R (b :: l)
theorem adj_cons {R : Hy → Hy → Prop} {a : Hy} {l : List Hy} (h : adj R l) (h2 : ∀ y, l.head? = some y → R a y) : adj R (a :: l) := by
  cases l with
  | nil => trivial
  | cons b l => exact ⟨h2 b rfl, h⟩
theorem adj_tail {R : Hy → Hy → Prop} {a : Hy} {l : List Hy} (h : adj R (a :: l)) : adj R l := by
  cases l with
  | nil => trivial
  | cons b l => exact h.2
theorem adj_head {R : Hy → Hy → Prop} {a y : Hy} {l : List Hy} (h : adj R (a :: l)) (hy : l.head? = some y) : R a y := by
  cases l with
  | nil => cases hy
  | cons b l => cases hy; exact h.1
theorem adj_app {R : Hy → Hy → Prop} : ∀ {X Y : List Hy}, adj R X → adj R Y → (∀ x y, X.getLast? = some x → Y.head? = some y → R x y) → adj R (X ++ Y)
  | [], _, _, h2, _ => h2
  | [a], Y, _, h2, h3 => adj_cons h2 (fun y hy => h3 a y rfl hy)
  | a :: b :: l, Y, h1, h2, h3 => by
    refine ⟨h1.1, adj_app (X := b :: l) h1.2 h2 (fun x y hx hy => h3 x y ?_ hy)⟩
    rw [List.getLast?_cons_cons]; exact hx
theorem adj_map {R S : Hy → Hy → Prop} {f : Hy → Hy} (hf : ∀ a b, R a b → S (f a) (f b)) : ∀ {l : List Hy}, adj R l → adj S (l.map f)
  | [], _ => trivial
  | [_], _ => trivial
  | a :: b :: l, h => ⟨hf a b h.1, adj_map hf (l := b :: l) h.2⟩
theorem adj_get {R : Hy → Hy → Prop} : ∀ {l : List Hy} {i : Nat} {a b : Hy}, adj R l → l[i]? = some a → l[i + 1]? = some b → R a b
  | [], _, _, _, _, h, _ => by simp at h
  | [_], i, _, _, _, _, h => by simp at h
  | x :: y :: l, 0, a, b, h, h1, h2 => by
    simp at h1 h2
    subst h1; subst h2; exact h.1
  | x :: y :: l, i + 1, a, b, h, h1, h2 => by
    refine adj_get (l := y :: l) (i := i) h.2 ?_ ?_
    · simpa using h1
    · simpa using h2
theorem len_lseq (A B : List Hy) : (lseq A B).length = A.length * B.length := by
  induction A with
  | nil => simp [lseq]
  | cons a A ih => simp [lseq, ih, Nat.succ_mul, Nat.add_comm]
theorem mem_lseq {A B : List Hy} {e : Hy} : e ∈ lseq A B ↔ ∃ a ∈ A, ∃ b ∈ B, e = hcat a b := by
  induction A with
  | nil => simp [lseq]
  | cons a A ih =>
    simp only [lseq, List.mem_append, List.mem_map, ih, List.mem_cons]
    constructor
    · rintro (⟨b, hb, rfl⟩ | ⟨x, hx, b, hb, rfl⟩)
      · exact ⟨a, Or.inl rfl, b, hb, rfl⟩
      · exact ⟨x, Or.inr hx, b, hb, rfl⟩
    · rintro ⟨x, rfl | hx, b, hb, rfl⟩
      · exact Or.inl ⟨b, hb, rfl⟩
      · exact Or.inr ⟨x, hx, b, hb, rfl⟩
def Good (L : List Hy) : Prop := L ≠ [] ∧ (∀ e, L.head? = some e → ∀ p ∈ e.1, p.1 = 0) ∧ (∀ e, L.getLast? = some e → ∀ p ∈ e.1, mxp p) ∧ adj Nx L ∧ ∀ e ∈ L, e.1.length + 1 ≤ L.length ∧ ∀ p ∈ e.1, okp p
theorem good_one (ws : List Int) : Good [([], ws)] := by
  refine ⟨by simp, fun e he => ?_, fun e he => ?_, trivial, fun e he => ?_⟩
  · simp at he; subst he; simp
  · simp at he; subst he; simp
  · simp at he; subst he; simp
theorem nx_left (a : Hy) {x y : Hy} (h : Nx x y) : Nx (hcat a x) (hcat a y) := by
  obtain ⟨pre, w, c, m, t, s1, s2, h1, h2, h3, h4, h5⟩ := h
  exact ⟨a.1 ++ pre, w, c, m, t, s1, s2, by simp [hcat, h1], by simp [hcat, h2], h3, h4, h5⟩
theorem nx_right {a b x y : Hy} (h : Nx a b) (hx : ∀ p ∈ x.1, mxp p) (hy : ∀ p ∈ y.1, p.1 = 0) : Nx (hcat a x) (hcat b y) := by
  obtain ⟨pre, w, c, m, t, s1, s2, h1, h2, h3, h4, h5⟩ := h
  refine ⟨pre, w, c, m, t, s1 ++ x.1, s2 ++ y.1, by simp [hcat, h1], by simp [hcat, h2], h3, fun p hp => ?_, fun p hp => ?_⟩
  · rcases List.mem_append.mp hp with h | h
    · exact h4 p h
    · exact hx p h
  · rcases List.mem_append.mp hp with h | h
    · exact h5 p h
    · exact hy p h
theorem head_lseq {a : Hy} {A B : List Hy} {e b : Hy} (hb : B.head? = some b) (h : (lseq (a :: A) B).head? = some e) : e = hcat a b := by
  cases B with
  | nil => cases hb
  | cons b0 B => cases hb; simp [lseq] at h; exact h.symm
theorem ne_lseq {A B : List Hy} (hA : A ≠ []) (hB : B ≠ []) : lseq A B ≠ [] := by
  intro h
  have := len_lseq A B
  rw [h] at this
  have h1 : 0 < A.length := List.length_pos_iff.mpr hA
  have h2 : 0 < B.length := List.length_pos_iff.mpr hB
  have h3 := Nat.mul_pos h1 h2
  rw [← this] at h3
  exact absurd h3 (Nat.lt_irrefl 0)
theorem last_lseq {B : List Hy} {l : Hy} (hl : B.getLast? = some l) : ∀ {A : List Hy} {e x : Hy}, A.getLast? = some x → (lseq A B).getLast? = some e → e = hcat x l
  | [], _, _, h, _ => by cases h
  | [a], e, x, h, h2 => by
    simp at h; subst h
    simp [lseq, List.getLast?_map, hl] at h2
    exact h2.symm
  | a :: b :: A, e, x, h, h2 => by
    rw [List.getLast?_cons_cons] at h
    have hB : B ≠ [] := by rintro rfl; cases hl
    have hn : lseq (b :: A) B ≠ [] := ne_lseq (by simp) hB
    rw [lseq, List.getLast?_append, List.getLast?_eq_some_getLast hn, Option.some_or] at h2
    exact last_lseq hl h (by rw [List.getLast?_eq_some_getLast hn]; exact h2)
theorem good_seq {A B : List Hy} (hA : Good A) (hB : Good B) : Good (lseq A B) := by
  obtain ⟨a1, a2, a3, a4, a5⟩ := hA
  obtain ⟨b1, b2, b3, b4, b5⟩ := hB
  obtain ⟨bh, hbh⟩ : ∃ b, B.head? = some b := by cases B with
    | nil => exact absurd rfl b1
    | cons b B => exact ⟨b, rfl⟩
  obtain ⟨bl, hbl⟩ : ∃ b, B.getLast? = some b := ⟨_, List.getLast?_eq_some_getLast b1⟩
  refine ⟨ne_lseq a1 b1, fun e he p hp => ?_, fun e he p hp => ?_, ?_, fun e he => ?_⟩
  · cases A with
    | nil => exact absurd rfl a1
    | cons a A =>
      have := head_lseq hbh he
      subst this
      rcases List.mem_append.mp hp with h | h
      · exact a2 a rfl p h
      · exact b2 bh hbh p h
  · obtain ⟨al, hal⟩ : ∃ b, A.getLast? = some b := ⟨_, List.getLast?_eq_some_getLast a1⟩
    have := last_lseq hbl hal he
    subst this
    rcases List.mem_append.mp hp with h | h
    · exact a3 al hal p h
    · exact b3 bl hbl p h
  · clear a1 a2 a3 a5
    induction A with
    | nil => trivial
    | cons a A ih =>
      refine adj_app (adj_map (fun x y h => nx_left a h) b4) (ih (adj_tail a4)) (fun x y hx hy => ?_)
      rw [List.getLast?_map, hbl] at hx
      simp at hx; subst hx
      cases A with
      | nil => cases hy
      | cons a' A =>
        have := head_lseq hbh hy
        subst this
        exact nx_right a4.1 (b3 bl hbl) (b2 bh hbh)
  · obtain ⟨a, ha, b, hb, rfl⟩ := mem_lseq.mp he
    obtain ⟨l1, o1⟩ := a5 a ha
    obtain ⟨l2, o2⟩ := b5 b hb
    refine ⟨?_, fun p hp => ?_⟩
    · rw [len_lseq]
      have h := Nat.mul_le_mul l1 l2
      have e : (a.1.length + 1) * (b.1.length + 1) = a.1.length * b.1.length + a.1.length + b.1.length + 1 := by
        rw [Nat.add_mul, Nat.mul_add]; omega
      rw [e] at h
      simp only [hcat, List.length_append]
      omega
    · rcases List.mem_append.mp hp with h | h
      · exact o1 p h
      · exact o2 p h
theorem good_rep {A : Ds} {u : Int} (hA : Good (A u)) : ∀ k, Good (drep k A u)
  | 0 => good_one []
  | k + 1 => good_seq hA (good_rep hA k)
theorem mem_lch {u : Int} {c t m : Nat} {W : Nat → Ds} {e : Hy} : ∀ {n w : Nat}, e ∈ lch u c t m W w n ↔ ∃ i, w ≤ i ∧ i < w + n ∧ ∃ x ∈ W i u, e = pkh u c t m i x
  | 0, w => by
    simp only [lch, List.not_mem_nil, false_iff]
    rintro ⟨i, h1, h2, -⟩
    omega
  | n + 1, w => by
    rw [lch, List.mem_append, List.mem_map, mem_lch]
    constructor
    · rintro (⟨x, hx, rfl⟩ | ⟨i, h1, h2, x, hx, rfl⟩)
      · exact ⟨w, by omega, by omega, x, hx, rfl⟩
      · exact ⟨i, by omega, by omega, x, hx, rfl⟩
    · rintro ⟨i, h1, h2, x, hx, rfl⟩
      by_cases hi : i = w
      · subst hi; exact Or.inl ⟨x, hx, rfl⟩
      · exact Or.inr ⟨i, by omega, by omega, x, hx, rfl⟩
theorem len_lch {u : Int} {c t m : Nat} {W : Nat → Ds} (hW : ∀ i, 0 < (W i u).length) : ∀ (n w : Nat), n ≤ (lch u c t m W w n).length
  | 0, w => by simp [lch]
  | n + 1, w => by
    have := len_lch (c := c) (t := t) (m := m) hW n (w + 1)
    have h := hW w
    simp only [lch, List.length_append, List.length_map]
    omega
theorem len_lch2 {u : Int} {c t m : Nat} {W : Nat → Ds} (hW : ∀ i, 0 < (W i u).length) : ∀ (n w i : Nat), w ≤ i → i < w + n → (W i u).length + (n - 1) ≤ (lch u c t m W w n).length
  | 0, w, i, h1, h2 => by omega
  | n + 1, w, i, h1, h2 => by
    simp only [lch, List.length_append, List.length_map]
    by_cases hi : i = w
    · subst hi
      have := len_lch (c := c) (t := t) (m := m) hW n (i + 1)
      omega
    · have := len_lch2 (c := c) (t := t) (m := m) hW n (w + 1) i (by omega) (by omega)
      have h := hW w
      omega
theorem head_lch {u : Int} {c t m : Nat} {W : Nat → Ds} {n w : Nat} {e : Hy} (hW : W w u ≠ []) (h : (lch u c t m W w (n + 1)).head? = some e) : ∃ x, (W w u).head? = some x ∧ e = pkh u c t m w x := by
  rw [lch] at h
  cases hx : W w u with
  | nil => exact absurd hx hW
  | cons x X =>
    rw [hx] at h
    simp at h
    exact ⟨x, rfl, h.symm⟩
theorem last_lch {u : Int} {c t m : Nat} {W : Nat → Ds} {e : Hy} (hW : ∀ i, W i u ≠ []) : ∀ {n w : Nat}, (lch u c t m W w (n + 1)).getLast? = some e → ∃ x, (W (w + n) u).getLast? = some x ∧ e = pkh u c t m (w + n) x
  | 0, w, h => by
    simp only [lch, List.append_nil, List.getLast?_map] at h
    rw [List.getLast?_eq_some_getLast (hW w)] at h
    simp at h
    exact ⟨_, List.getLast?_eq_some_getLast (hW w), h.symm⟩
  | n + 1, w, h => by
    have hn : lch u c t m W (w + 1) (n + 1) ≠ [] := by
      intro h9
      have := len_lch (c := c) (t := t) (m := m) (fun i => List.length_pos_iff.mpr (hW i)) (n + 1) (w + 1)
      rw [h9] at this; simp at this
    rw [lch, List.getLast?_append, List.getLast?_eq_some_getLast hn, Option.some_or] at h
    have := last_lch hW (n := n) (w := w + 1) (e := e) (by rw [List.getLast?_eq_some_getLast hn]; exact h)
    rw [show w + 1 + n = w + (n + 1) by omega] at this
    exact this
theorem good_ch {u : Int} {c t m : Nat} {W : Nat → Ds} (hm : 2 ≤ m) (hm4 : m ≤ 4) (hc : c < 40) (ht : t < 6) (hW : ∀ i, Good (W i u)) : Good (dch c t m W u) := by
  have hne : ∀ i, W i u ≠ [] := fun i => (hW i).1
  have hpos : ∀ i, 0 < (W i u).length := fun i => List.length_pos_iff.mpr (hne i)
  have hl := len_lch (c := c) (t := t) (m := m) hpos m 0
  unfold dch
  refine ⟨fun h9 => ?_, fun e he p hp => ?_, fun e he p hp => ?_, ?_, fun e he => ?_⟩
  · rw [h9] at hl; simp at hl; omega
  · obtain ⟨n, rfl⟩ : ∃ n, m = n + 1 := ⟨m - 1, by omega⟩
    obtain ⟨x, hx, rfl⟩ := head_lch (hne 0) he
    rcases List.mem_cons.mp hp with h | h
    · rw [h]
    · exact (hW 0).2.1 x hx p h
  · obtain ⟨n, rfl⟩ : ∃ n, m = n + 1 := ⟨m - 1, by omega⟩
    obtain ⟨x, hx, rfl⟩ := last_lch hne he
    rcases List.mem_cons.mp hp with h | h
    · rw [h]; show 0 + n + 1 = n + 1; omega
    · exact (hW _).2.2.1 x hx p h
  · have key : ∀ n w, w + n = m → adj Nx (lch u c t m W w n) := by
      intro n
      induction n with
      | zero => intro w _; trivial
      | succ n ih =>
        intro w hw
        refine adj_app (adj_map (fun x y h => ?_) (hW w).2.2.2.1) (ih (w + 1) (by omega)) (fun x y hx hy => ?_)
        · obtain ⟨pre, w', c', m', t', s1, s2, h1, h2, h3, h4, h5⟩ := h
          exact ⟨(w, c, m, t) :: pre, w', c', m', t', s1, s2, by simp [pkh, h1], by simp [pkh, h2], h3, h4, h5⟩
        · rw [List.getLast?_map, List.getLast?_eq_some_getLast (hne w)] at hx
          simp at hx; subst hx
          cases n with
          | zero => cases hy
          | succ n =>
            obtain ⟨z, hz, rfl⟩ := head_lch (hne (w + 1)) hy
            exact ⟨[], w, c, m, t, _, _, rfl, rfl, by omega, (hW w).2.2.1 _ (List.getLast?_eq_some_getLast (hne w)), (hW (w + 1)).2.1 z hz⟩
    exact key m 0 (by omega)
  · obtain ⟨i, h1, h2, x, hx, rfl⟩ := mem_lch.mp he
    obtain ⟨l1, o1⟩ := (hW i).2.2.2.2 x hx
    have := len_lch2 (c := c) (t := t) (m := m) hpos m 0 i h1 h2
    refine ⟨by simp only [pkh, List.length_cons]; omega, fun p hp => ?_⟩
    rcases List.mem_cons.mp hp with h | h
    · rw [h]; exact ⟨by show i < m; omega, hc, hm, hm4, ht⟩
    · exact o1 p h
def mxw : List Hy → Nat
  | [] => 0
  | e :: L => max e.2.length (mxw L)
theorem mxw_app (X Y : List Hy) : mxw (X ++ Y) = max (mxw X) (mxw Y) := by
  induction X with
  | nil => simp [mxw]
  | cons x X ih => simp only [List.cons_append, mxw, ih]; omega
theorem mxw_mem {L : List Hy} {e : Hy} (h : e ∈ L) : e.2.length ≤ mxw L := by
  induction L with
  | nil => cases h
  | cons x L ih =>
    rcases List.mem_cons.mp h with h | h
    · subst h; simp only [mxw]; omega
    · have := ih h; simp only [mxw]; omega
theorem mxw_wit : ∀ {L : List Hy}, L ≠ [] → ∃ e ∈ L, e.2.length = mxw L
  | [], h => absurd rfl h
  | [x], _ => ⟨x, by simp, by simp [mxw]⟩
  | x :: y :: L, _ => by
    obtain ⟨e, he, h⟩ := mxw_wit (L := y :: L) (by simp)
    by_cases hx : mxw (y :: L) ≤ x.2.length
    · exact ⟨x, by simp, by rw [mxw]; omega⟩
    · exact ⟨e, List.mem_cons_of_mem _ he, by rw [mxw]; omega⟩
theorem mxw_map {f : Hy → Hy} {k : Nat} (hf : ∀ e, (f e).2.length = k + e.2.length) : ∀ {L : List Hy}, L ≠ [] → mxw (L.map f) = k + mxw L
  | [], h => absurd rfl h
  | [x], _ => by simp [mxw, hf]
  | x :: y :: L, _ => by
    have := mxw_map hf (L := y :: L) (by simp)
    show max (f x).2.length (mxw ((y :: L).map f)) = k + max x.2.length (mxw (y :: L))
    rw [this, hf]
    omega
theorem mxw_seq {A B : List Hy} (hB : B ≠ []) : A ≠ [] → mxw (lseq A B) = mxw A + mxw B := by
  induction A with
  | nil => intro h; exact absurd rfl h
  | cons a A ih =>
    intro _
    rw [lseq, mxw_app, mxw_map (k := a.2.length) (fun e => by simp [hcat]) hB, mxw]
    cases A with
    | nil => simp [lseq, mxw]
    | cons a' A => rw [ih (by simp)]; omega
