/-! What the steps of the class, and the acts of the reference, stand for. Own text. -/
def okw (c : Int) : Prop := ∃ a b w : Nat, a < 6 ∧ b < 6 ∧ a ≠ b ∧ w < 30 ∧ c = ((1000 * a + 100 * b + w : Nat) : Int)
abbrev RC6 : Type := Nat → Nat → Nat → Nat → Nat → Ds → Prop
def cNil (P : RC6) : Prop := ∀ d lo cl, P d lo lo cl cl dnil
def cSeq (P : RC6) : Prop := ∀ d lo mid hi cl cm ch A B, P d lo mid cl cm A → P d mid hi cm ch B → P d lo hi cl ch (dseq A B)
def cSay (g : Gx) (P : RC6) : Prop := ∀ (d lo cl : Nat) (c : Int), g 9 lo = 0 → g 11 lo = c → okw c → P d lo (lo + 1) cl cl (dsay c)
def cCho (g : Gx) (P : RC6) : Prop := ∀ (d lo c t m : Nat) (W : Nat → Ds) (s e cs : Nat → Nat), 2 ≤ m → m ≤ 4 → c < 40 → t < 6 → g 9 lo = 1 → g 11 lo = (c : Int) → g 13 c = (t : Int) → g 15 c = (m : Int) → (∀ i, i < m → g 17 (4 * c + i) = (s i : Int)) → g 19 c = ((e (m - 1) + 1 : Nat) : Int) → s 0 = lo + 1 → cs 0 = c + 1 → (∀ i, i < m → P d (s i) (e i) (cs i) (cs (i + 1)) (W i)) → (∀ i, i + 1 < m → g 9 (e i) = 2 ∧ g 11 (e i) = (c : Int) ∧ s (i + 1) = e i + 1) → g 9 (e (m - 1)) = 3 → g 11 (e (m - 1)) = (c : Int) → (∀ i, m ≤ i → W i = dnil) → P (d + 1) lo (e (m - 1) + 1) c (cs m) (dch c t m W)
def cRep (g : Gx) (P : RC6) : Prop := ∀ (d lo hi cl ch k : Nat) (A : Ds), 2 ≤ k → k ≤ 4 → g 9 lo = 4 → g 11 lo = (k : Int) → P d (lo + 1) hi cl ch A → lo + 1 < hi → g 9 hi = 5 → g 11 hi = (k : Int) → P (d + 1) lo (hi + 1) cl ch (drep k A)
def EncC (g : Gx) (d lo hi cl ch : Nat) (D : Ds) : Prop := ∀ P : RC6, cNil P → cSeq P → cSay g P → cCho g P → cRep g P → P d lo hi cl ch D
theorem EncC.nil (g : Gx) (d lo cl : Nat) : EncC g d lo lo cl cl dnil := fun _ h1 _ _ _ _ => h1 d lo cl
theorem EncC.seq {g : Gx} {d lo mid hi cl cm ch : Nat} {A B : Ds} (hA : EncC g d lo mid cl cm A) (hB : EncC g d mid hi cm ch B) : EncC g d lo hi cl ch (dseq A B) := fun P h1 h2 h3 h4 h5 => h2 d lo mid hi cl cm ch A B (hA P h1 h2 h3 h4 h5) (hB P h1 h2 h3 h4 h5)
theorem EncC.say {g : Gx} (d : Nat) {lo : Nat} (cl : Nat) {c : Int} (a : g 9 lo = 0) (b : g 11 lo = c) (o : okw c) : EncC g d lo (lo + 1) cl cl (dsay c) := fun _ _ _ h3 _ _ => h3 d lo cl c a b o
theorem EncC.cho {g : Gx} {d lo c t m : Nat} {W : Nat → Ds} {s e cs : Nat → Nat} (a1 : 2 ≤ m) (a2 : m ≤ 4) (a3 : c < 40) (a4 : t < 6) (a5 : g 9 lo = 1) (a6 : g 11 lo = (c : Int)) (a7 : g 13 c = (t : Int)) (a8 : g 15 c = (m : Int)) (a9 : ∀ i, i < m → g 17 (4 * c + i) = (s i : Int)) (b1 : g 19 c = ((e (m - 1) + 1 : Nat) : Int)) (b2 : s 0 = lo + 1) (b3 : cs 0 = c + 1) (b4 : ∀ i, i < m → EncC g d (s i) (e i) (cs i) (cs (i + 1)) (W i)) (b5 : ∀ i, i + 1 < m → g 9 (e i) = 2 ∧ g 11 (e i) = (c : Int) ∧ s (i + 1) = e i + 1) (b6 : g 9 (e (m - 1)) = 3) (b7 : g 11 (e (m - 1)) = (c : Int)) (b8 : ∀ i, m ≤ i → W i = dnil) : EncC g (d + 1) lo (e (m - 1) + 1) c (cs m) (dch c t m W) :=
  fun P h1 h2 h3 h4 h5 => h4 d lo c t m W s e cs a1 a2 a3 a4 a5 a6 a7 a8 a9 b1 b2 b3 (fun i hi => b4 i hi P h1 h2 h3 h4 h5) b5 b6 b7 b8
theorem EncC.rep {g : Gx} {d lo hi cl ch k : Nat} {A : Ds} (a1 : 2 ≤ k) (a2 : k ≤ 4) (a3 : g 9 lo = 4) (a4 : g 11 lo = (k : Int)) (a5 : EncC g d (lo + 1) hi cl ch A) (a6 : lo + 1 < hi) (a7 : g 9 hi = 5) (a8 : g 11 hi = (k : Int)) : EncC g (d + 1) lo (hi + 1) cl ch (drep k A) :=
  fun P h1 h2 h3 h4 h5 => h5 d lo hi cl ch k A a1 a2 a3 a4 (a5 P h1 h2 h3 h4 h5) a6 a7 a8
/-- places of ways, one behind the other -/
theorem ways_mono {m : Nat} {s e : Nat → Nat} (h1 : ∀ i, i < m → s i ≤ e i) (h2 : ∀ i, i + 1 < m → s (i + 1) = e i + 1) : ∀ k i, i + k < m → s i + k ≤ s (i + k) ∧ e i + k ≤ e (i + k)
  | 0, i, _ => ⟨Nat.le_refl _, Nat.le_refl _⟩
  | k + 1, i, h => by
    obtain ⟨a, b⟩ := ways_mono h1 h2 k i (by omega)
    have c := h2 (i + k) (by omega)
    have d := h1 (i + k) (by omega)
    have f := h1 (i + k + 1) (by omega)
    rw [show i + (k + 1) = i + k + 1 by omega]
    omega
theorem ids_mono {m : Nat} {cs : Nat → Nat} (h : ∀ i, i < m → cs i ≤ cs (i + 1)) : ∀ k i, i + k ≤ m → cs i ≤ cs (i + k)
  | 0, _, _ => Nat.le_refl _
  | k + 1, i, hk => by
    have a := ids_mono h k i (by omega)
    have b := h (i + k) (by omega)
    rw [show i + (k + 1) = i + k + 1 by omega]
    omega
theorem EncC.le {g : Gx} {d lo hi cl ch : Nat} {D : Ds} (h : EncC g d lo hi cl ch D) : lo ≤ hi ∧ cl ≤ ch := by
  refine h (fun _ lo hi cl ch _ => lo ≤ hi ∧ cl ≤ ch) ?_ ?_ ?_ ?_ ?_
  · intro d lo cl; exact ⟨Nat.le_refl _, Nat.le_refl _⟩
  · intro d lo mid hi cl cm ch A B h1 h2; exact ⟨by omega, by omega⟩
  · intro d lo cl c _ _ _; exact ⟨by omega, by omega⟩
  · intro d lo c t m W s e cs a1 a2 a3 a4 a5 a6 a7 a8 a9 b1 b2 b3 b4 b5 b6 b7 b8
    have x := ways_mono (fun i hi => (b4 i hi).1) (fun i hi => (b5 i hi).2.2) (m - 1) 0 (by omega)
    have y := ids_mono (fun i hi => (b4 i hi).2) m 0 (by omega)
    have z := (b4 0 (by omega)).1
    rw [show 0 + (m - 1) = m - 1 by omega] at x
    rw [show 0 + m = m by omega] at y
    exact ⟨by omega, by omega⟩
  · intro d lo hi cl ch k A a1 a2 a3 a4 a5 a6 a7 a8
    exact ⟨by omega, a5.2⟩
def TbA (g g' : Gx) (c : Nat) : Prop := g' 13 c = g 13 c ∧ g' 15 c = g 15 c ∧ g' 19 c = g 19 c ∧ ∀ i, i < 4 → g' 17 (4 * c + i) = g 17 (4 * c + i)
theorem EncC.mono {g g' : Gx} {d lo hi cl ch : Nat} {D : Ds} (h : EncC g d lo hi cl ch D) (hc : ∀ i, lo ≤ i → i < hi → g' 9 i = g 9 i ∧ g' 11 i = g 11 i) (ht : ∀ c, cl ≤ c → c < ch → TbA g g' c) : EncC g' d lo hi cl ch D := by
  refine (h (fun d lo hi cl ch D => lo ≤ hi ∧ cl ≤ ch ∧ ((∀ i, lo ≤ i → i < hi → g' 9 i = g 9 i ∧ g' 11 i = g 11 i) → (∀ c, cl ≤ c → c < ch → TbA g g' c) → EncC g' d lo hi cl ch D)) ?_ ?_ ?_ ?_ ?_).2.2 hc ht
  · intro d lo cl; exact ⟨Nat.le_refl _, Nat.le_refl _, fun _ _ => EncC.nil g' d lo cl⟩
  · intro d lo mid hi cl cm ch A B h1 h2
    exact ⟨by omega, by omega, fun x y => EncC.seq (h1.2.2 (fun i a b => x i a (by omega)) (fun c a b => y c a (by omega))) (h2.2.2 (fun i a b => x i (by omega) b) (fun c a b => y c (by omega) b))⟩
  · intro d lo cl c a b o
    refine ⟨by omega, by omega, fun x y => ?_⟩
    obtain ⟨x1, x2⟩ := x lo (by omega) (by omega)
    exact EncC.say d cl (by rw [x1]; exact a) (by rw [x2]; exact b) o
  · intro d lo c t m W s e cs a1 a2 a3 a4 a5 a6 a7 a8 a9 b1 b2 b3 b4 b5 b6 b7 b8
    have wm := ways_mono (fun i hi => (b4 i hi).1) (fun i hi => (b5 i hi).2.2)
    have im := ids_mono (fun i hi => (b4 i hi).2.1)
    have lim : ∀ i, i < m → lo < s i ∧ s i ≤ e i ∧ e i ≤ e (m - 1) ∧ c < cs i ∧ cs i ≤ cs (i + 1) ∧ cs (i + 1) ≤ cs m := fun i hi => by
      have x1 := wm i 0 (by omega)
      have x2 := wm (m - 1 - i) i (by omega)
      have x3 := im i 0 (by omega)
      have x4 := im (m - (i + 1)) (i + 1) (by omega)
      have x5 := (b4 i hi).1
      have x6 := (b4 i hi).2.1
      rw [show 0 + i = i by omega] at x1 x3
      rw [show i + (m - 1 - i) = m - 1 by omega] at x2
      rw [show i + 1 + (m - (i + 1)) = m by omega] at x4
      omega
    have l0 := lim 0 (by omega)
    refine ⟨by omega, by omega, fun x y => ?_⟩
    have x0 := x lo (by omega) (by omega)
    have xe : ∀ i, i < m → g' 9 (e i) = g 9 (e i) ∧ g' 11 (e i) = g 11 (e i) := fun i hi => by
      have := lim i hi
      exact x (e i) (by omega) (by omega)
    obtain ⟨y1, y2, y3, y4⟩ := y c (by omega) (by omega)
    refine EncC.cho (s := s) (e := e) (cs := cs) a1 a2 a3 a4 (by rw [x0.1]; exact a5) (by rw [x0.2]; exact a6) (by rw [y1]; exact a7) (by rw [y2]; exact a8) (fun i hi => by rw [y4 i (by omega)]; exact a9 i hi) (by rw [y3]; exact b1) b2 b3 (fun i hi => ?_) (fun i hi => ?_) (by rw [(xe (m - 1) (by omega)).1]; exact b6) (by rw [(xe (m - 1) (by omega)).2]; exact b7) b8
    · have := lim i hi
      exact (b4 i hi).2.2 (fun j p q => x j (by omega) (by omega)) (fun j p q => y j (by omega) (by omega))
    · rw [(xe i (by omega)).1, (xe i (by omega)).2]; exact b5 i hi
  · intro d lo hi cl ch k A a1 a2 a3 a4 a5 a6 a7 a8
    refine ⟨by omega, a5.2.1, fun x y => ?_⟩
    have x0 := x lo (by omega) (by omega)
    have x1 := x hi (by omega) (by omega)
    exact EncC.rep a1 a2 (by rw [x0.1]; exact a3) (by rw [x0.2]; exact a4) (a5.2.2 (fun j p q => x j (by omega) (by omega)) y) a6 (by rw [x1.1]; exact a7) (by rw [x1.2]; exact a8)
theorem rep_nil : ∀ k, drep k dnil = dnil
  | 0 => rfl
  | k + 1 => by rw [drep, rep_nil k]; rfl
theorem EncC.void {g : Gx} {d lo hi cl ch : Nat} {D : Ds} (h : EncC g d lo hi cl ch D) (hx : lo = hi) : D = dnil ∧ cl = ch := by
  refine (h (fun _ lo hi cl ch D => lo ≤ hi ∧ (lo = hi → D = dnil ∧ cl = ch)) ?_ ?_ ?_ ?_ ?_).2 hx
  · intro d lo cl; exact ⟨Nat.le_refl _, fun _ => ⟨rfl, rfl⟩⟩
  · intro d lo mid hi cl cm ch A B h1 h2
    refine ⟨by omega, fun h => ?_⟩
    obtain ⟨rfl, rfl⟩ := h1.2 (by omega)
    obtain ⟨rfl, rfl⟩ := h2.2 (by omega)
    exact ⟨rfl, rfl⟩
  · intro d lo cl c _ _ _; exact ⟨by omega, fun h => by omega⟩
  · intro d lo c t m W s e cs a1 a2 a3 a4 a5 a6 a7 a8 a9 b1 b2 b3 b4 b5 b6 b7 b8
    have x := ways_mono (fun i hi => (b4 i hi).1) (fun i hi => (b5 i hi).2.2) (m - 1) 0 (by omega)
    have z := (b4 0 (by omega)).1
    rw [show 0 + (m - 1) = m - 1 by omega] at x
    exact ⟨by omega, fun h => by omega⟩
  · intro d lo hi cl ch k A a1 a2 a3 a4 a5 a6 a7 a8
    exact ⟨by omega, fun h => by omega⟩
/-- all words may be, and the order is as it should be -/
def okD (D : Ds) : Prop := ∀ u, Good (D u) ∧ ∀ e ∈ D u, ∀ c ∈ e.2, okw c
theorem okD_nil : okD dnil := fun _ => ⟨good_one [], fun e he c hc => by simp [dnil] at he; subst he; cases hc⟩
theorem okD_seq {A B : Ds} (hA : okD A) (hB : okD B) : okD (dseq A B) := fun u => ⟨good_seq (hA u).1 (hB u).1, fun e he c hc => by
  obtain ⟨a, ha, b, hb, rfl⟩ := mem_lseq.mp he
  rcases List.mem_append.mp hc with h | h
  · exact (hA u).2 a ha c h
  · exact (hB u).2 b hb c h⟩
theorem okD_rep {A : Ds} (hA : okD A) : ∀ k, okD (drep k A)
  | 0 => okD_nil
  | k + 1 => okD_seq hA (okD_rep hA k)
theorem okD_cho {c t m : Nat} {W : Nat → Ds} (hm : 2 ≤ m) (hm4 : m ≤ 4) (hc : c < 40) (ht : t < 6) (hW : ∀ i, okD (W i)) : okD (dch c t m W) := fun u => ⟨good_ch hm hm4 hc ht (fun i => (hW i u).1), fun e he x hx => by
  obtain ⟨i, -, h2, y, hy, rfl⟩ := mem_lch.mp he
  rcases List.mem_append.mp hx with h | h
  · unfold tells at h
    obtain ⟨z, hz, rfl⟩ := List.mem_map.mp h
    obtain ⟨hz1, hz2⟩ := List.mem_filter.mp hz
    rw [List.mem_range] at hz1
    simp only [isTold, Bool.and_eq_true, decide_eq_true_eq, bne_iff_ne] at hz2
    exact ⟨t, z, 26 + i, ht, hz1, fun h => hz2.1.2 h.symm, by omega, by omega⟩
  · exact (hW i u).2 y hy x h⟩
theorem EncC.ok {g : Gx} {d lo hi cl ch : Nat} {D : Ds} (h : EncC g d lo hi cl ch D) : okD D := by
  refine h (fun _ _ _ _ _ D => okD D) ?_ ?_ ?_ ?_ ?_
  · intro d lo cl; exact okD_nil
  · intro d lo mid hi cl cm ch A B h1 h2; exact okD_seq h1 h2
  · intro d lo cl c _ _ o u
    exact ⟨good_one [c], fun e he x hx => by simp [dsay] at he; subst he; simp at hx; subst hx; exact o⟩
  · intro d lo c t m W s e cs a1 a2 a3 a4 a5 a6 a7 a8 a9 b1 b2 b3 b4 b5 b6 b7 b8
    refine okD_cho a1 a2 a3 a4 (fun i => ?_)
    rcases Nat.lt_or_ge i m with h | h
    · exact b4 i h
    · rw [b8 i h]; exact okD_nil
  · intro d lo hi cl ch k A a1 a2 a3 a4 a5 a6 a7 a8
    exact okD_rep a5 k
abbrev RR4 : Type := Nat → Nat → Nat → Ds → Prop
def rNil (P : RR4) : Prop := ∀ d lo, P d lo lo dnil
def rSeq (P : RR4) : Prop := ∀ d lo mid hi A B, P d lo mid A → P d mid hi B → P d lo hi (dseq A B)
def rSay (g : Gx) (P : RR4) : Prop := ∀ (d lo a b w : Nat), a < 6 → b < 6 → w < 30 → g 99 lo = 0 → g 100 lo = (a : Int) → g 101 lo = (b : Int) → g 102 lo = (w : Int) → P d lo (lo + 1) (dsay ((1000 * a + 100 * b + w : Nat) : Int))
def rCho (g : Gx) (P : RR4) : Prop := ∀ (d lo c t m : Nat) (W : Nat → Ds) (s e : Nat → Nat), 2 ≤ m → m ≤ 4 → c < 40 → t < 6 → g 99 lo = 1 → g 100 lo = (t : Int) → g 101 lo = (m : Int) → g 102 lo = (c : Int) → (∀ i, i < m → g 104 (4 * lo + i) = (s i : Int)) → g 103 lo = (e (m - 1) : Int) → s 0 = lo + 1 → (∀ i, i < m → P d (s i) (e i) (W i)) → (∀ i, i + 1 < m → g 99 (e i) = 2 ∧ g 102 (e i) = (lo : Int) ∧ s (i + 1) = e i + 1) → (∀ i, m ≤ i → W i = dnil) → P (d + 1) lo (e (m - 1)) (dch c t m W)
def rRep (g : Gx) (P : RR4) : Prop := ∀ (d lo hi k : Nat) (A : Ds), 2 ≤ k → k ≤ 4 → g 99 lo = 3 → g 101 lo = (k : Int) → P d (lo + 1) hi A → g 99 hi = 4 → g 102 hi = (lo : Int) → P (d + 1) lo (hi + 1) (drep k A)
def EncR (g : Gx) (d lo hi : Nat) (D : Ds) : Prop := ∀ P : RR4, rNil P → rSeq P → rSay g P → rCho g P → rRep g P → P d lo hi D
theorem EncR.nil (g : Gx) (d lo : Nat) : EncR g d lo lo dnil := fun _ h1 _ _ _ _ => h1 d lo
theorem EncR.seq {g : Gx} {d lo mid hi : Nat} {A B : Ds} (hA : EncR g d lo mid A) (hB : EncR g d mid hi B) : EncR g d lo hi (dseq A B) := fun P h1 h2 h3 h4 h5 => h2 d lo mid hi A B (hA P h1 h2 h3 h4 h5) (hB P h1 h2 h3 h4 h5)
theorem EncR.say {g : Gx} (d : Nat) {lo a b w : Nat} (ha : a < 6) (hb : b < 6) (hw : w < 30) (h0 : g 99 lo = 0) (h1 : g 100 lo = (a : Int)) (h2 : g 101 lo = (b : Int)) (h3 : g 102 lo = (w : Int)) : EncR g d lo (lo + 1) (dsay ((1000 * a + 100 * b + w : Nat) : Int)) := fun _ _ _ h _ _ => h d lo a b w ha hb hw h0 h1 h2 h3
theorem EncR.cho {g : Gx} {d lo c t m : Nat} {W : Nat → Ds} {s e : Nat → Nat} (a1 : 2 ≤ m) (a2 : m ≤ 4) (a3 : c < 40) (a4 : t < 6) (a5 : g 99 lo = 1) (a6 : g 100 lo = (t : Int)) (a7 : g 101 lo = (m : Int)) (a8 : g 102 lo = (c : Int)) (a9 : ∀ i, i < m → g 104 (4 * lo + i) = (s i : Int)) (b1 : g 103 lo = (e (m - 1) : Int)) (b2 : s 0 = lo + 1) (b4 : ∀ i, i < m → EncR g d (s i) (e i) (W i)) (b5 : ∀ i, i + 1 < m → g 99 (e i) = 2 ∧ g 102 (e i) = (lo : Int) ∧ s (i + 1) = e i + 1) (b8 : ∀ i, m ≤ i → W i = dnil) : EncR g (d + 1) lo (e (m - 1)) (dch c t m W) :=
  fun P h1 h2 h3 h4 h5 => h4 d lo c t m W s e a1 a2 a3 a4 a5 a6 a7 a8 a9 b1 b2 (fun i hi => b4 i hi P h1 h2 h3 h4 h5) b5 b8
theorem EncR.rep {g : Gx} {d lo hi k : Nat} {A : Ds} (a1 : 2 ≤ k) (a2 : k ≤ 4) (a3 : g 99 lo = 3) (a4 : g 101 lo = (k : Int)) (a5 : EncR g d (lo + 1) hi A) (a7 : g 99 hi = 4) (a8 : g 102 hi = (lo : Int)) : EncR g (d + 1) lo (hi + 1) (drep k A) :=
  fun P h1 h2 h3 h4 h5 => h5 d lo hi k A a1 a2 a3 a4 (a5 P h1 h2 h3 h4 h5) a7 a8
def acA (g g' : Gx) (i : Nat) : Prop := g' 99 i = g 99 i ∧ g' 100 i = g 100 i ∧ g' 101 i = g 101 i ∧ g' 102 i = g 102 i ∧ g' 103 i = g 103 i ∧ ∀ j, j < 4 → g' 104 (4 * i + j) = g 104 (4 * i + j)
theorem EncR.mono {g g' : Gx} {d lo hi : Nat} {D : Ds} (h : EncR g d lo hi D) (hc : ∀ i, lo ≤ i → i < hi → acA g g' i) : lo ≤ hi ∧ EncR g' d lo hi D := by
  have key := h (fun d lo hi D => lo ≤ hi ∧ ((∀ i, lo ≤ i → i < hi → acA g g' i) → EncR g' d lo hi D)) ?_ ?_ ?_ ?_ ?_
  · exact ⟨key.1, key.2 hc⟩
  · intro d lo; exact ⟨Nat.le_refl _, fun _ => EncR.nil g' d lo⟩
  · intro d lo mid hi A B h1 h2
    exact ⟨by omega, fun x => EncR.seq (h1.2 (fun i a b => x i a (by omega))) (h2.2 (fun i a b => x i (by omega) b))⟩
  · intro d lo a b w ha hb hw h0 h1 h2 h3
    refine ⟨by omega, fun x => ?_⟩
    obtain ⟨x1, x2, x3, x4, -⟩ := x lo (by omega) (by omega)
    exact EncR.say d ha hb hw (by rw [x1]; exact h0) (by rw [x2]; exact h1) (by rw [x3]; exact h2) (by rw [x4]; exact h3)
  · intro d lo c t m W s e a1 a2 a3 a4 a5 a6 a7 a8 a9 b1 b2 b4 b5 b8
    have wm := ways_mono (fun i hi => (b4 i hi).1) (fun i hi => (b5 i hi).2.2)
    have lim : ∀ i, i < m → lo < s i ∧ s i ≤ e i ∧ e i ≤ e (m - 1) ∧ (i + 1 < m → e i < e (m - 1)) := fun i hi => by
      have x1 := wm i 0 (by omega)
      have x2 := wm (m - 1 - i) i (by omega)
      have x5 := (b4 i hi).1
      rw [show 0 + i = i by omega] at x1
      rw [show i + (m - 1 - i) = m - 1 by omega] at x2
      omega
    have l0 := lim 0 (by omega)
    have l1 := lim 1 (by omega)
    refine ⟨by omega, fun x => ?_⟩
    obtain ⟨x1, x2, x3, x4, x5, x6⟩ := x lo (by omega) (by omega)
    refine EncR.cho (s := s) (e := e) a1 a2 a3 a4 (by rw [x1]; exact a5) (by rw [x2]; exact a6) (by rw [x3]; exact a7) (by rw [x4]; exact a8) (fun i hi => by rw [x6 i (by omega)]; exact a9 i hi) (by rw [x5]; exact b1) b2 (fun i hi => ?_) (fun i hi => ?_) b8
    · have := lim i hi
      exact (b4 i hi).2 (fun j p q => x j (by omega) (by omega))
    · have := lim i (by omega)
      obtain ⟨z1, -, -, z4, -⟩ := x (e i) (by omega) (by omega)
      rw [z1, z4]; exact b5 i hi
  · intro d lo hi k A a1 a2 a3 a4 a5 a7 a8
    refine ⟨by omega, fun x => ?_⟩
    obtain ⟨x1, -, x3, -⟩ := x lo (by omega) (by omega)
    obtain ⟨z1, -, -, z4, -⟩ := x hi (by omega) (by omega)
    exact EncR.rep a1 a2 (by rw [x1]; exact a3) (by rw [x3]; exact a4) (a5.2 (fun j p q => x j (by omega) (by omega))) (by rw [z1]; exact a7) (by rw [z4]; exact a8)
theorem EncR.le {g : Gx} {d lo hi : Nat} {D : Ds} (h : EncR g d lo hi D) : lo ≤ hi := (h.mono (g' := g) (fun _ _ _ => ⟨rfl, rfl, rfl, rfl, rfl, fun _ _ => rfl⟩)).1
