/-! What holds between two calls. Own text. -/
def lkk (L : List Hy) (t k : Nat) : List Int := lk t (gl L k).2
def cpl : List Int → List Int → Nat
  | x :: xs, y :: ys => if x = y then cpl xs ys + 1 else 0
  | _, _ => 0
/-- the talker t cannot know, with the histories a and b -/
def CK (L : List Hy) (t a b : Nat) : Prop := ¬ (cpl (lkk L t a) (lkk L t b) = (lkk L t a).length ∧ cpl (lkk L t a) (lkk L t b) = (lkk L t b).length) ∧ ¬ (20000 ≤ (lkk L t a).getD (cpl (lkk L t a) (lkk L t b)) 0 ∧ 20000 ≤ (lkk L t b).getD (cpl (lkk L t a) (lkk L t b)) 0) ∧ ptf L a b ≠ (t : Int)
def Snd (L : List Hy) : Prop := ∀ t a b, t < 6 → a < b → b < L.length → ¬ CK L t a b
def Fst (L : List Hy) (t a b : Nat) : Prop := t < 6 ∧ a < b ∧ b < L.length ∧ CK L t a b ∧ ∀ t' a' b', t' < 6 → a' < b' → b' < L.length → (t' < t ∨ (t' = t ∧ (a' < a ∨ (a' = a ∧ b' < b)))) → ¬ CK L t' a' b'
def MomV (v : Nat → Int) (L : List Hy) : Prop := (v 0 = -1 ∧ v 1 = -1 ∧ v 2 = -1 ∧ v 3 = -1 ∧ Snd L) ∨ ∃ t a b, Fst L t a b ∧ v 0 = (t : Int) ∧ v 1 = (a : Int) ∧ v 2 = (b : Int) ∧ v 3 = (cpl (lkk L t a) (lkk L t b) : Int)
abbrev Ac : Type := Int × Int × Int
/-- a program read: its fault, its rows -/
def prg (t : List Int) : Nat → Nat → List (List Ac) → List Ac → Int × List (List Ac)
  | 0, _, rs, cur => (-5, rs ++ [cur])
  | n + 1, p, rs, cur =>
    if t.length ≤ p then (-1, rs ++ [cur])
    else if chr t p = 124 ∧ rs.length < 7 then prg t n (p + 1) (rs ++ [cur]) []
    else if ¬ (chr t p = 33 ∨ chr t p = 63) then ((p : Int), rs ++ [cur])
    else if ¬ (65 ≤ chr t (p + 1) ∧ chr t (p + 1) ≤ 70) then (((p + 1 : Nat) : Int), rs ++ [cur])
    else if ¬ (97 ≤ chr t (p + 2) ∧ chr t (p + 2) ≤ 122) then (((p + 2 : Nat) : Int), rs ++ [cur])
    else prg t n (p + 3) rs (cur ++ [(chr t p, chr t (p + 1) - 65, chr t (p + 2) - 97)])
def pgm (t : List Int) : Int × List (List Ac) := prg t 200 0 [] []
def TxP (t : List Int) (g : Gx) : Prop := g 4 2 = (t.length : Int) ∧ t.length ≤ 80 ∧ ∀ i, i < t.length → g 6 i = chr t i
def sttP (rs : List (List Ac)) : Nat → Nat
  | 0 => 0
  | r + 1 => sttP rs r + (rs.getD r []).length
/-- the program's rows as the class has them -/
def RwC (rs : List (List Ac)) (g : Gx) : Prop := g 69 7 = (rs.length : Int) ∧ (∀ r, r ≤ rs.length → g 77 r = (sttP rs r : Int)) ∧ ∀ r, r < rs.length → ∀ i a, (rs.getD r [])[i]? = some a → g 71 (sttP rs r + i) = (if a.1 = 33 then 10000 else 20000) ∧ g 73 (sttP rs r + i) = a.2.1 ∧ g 75 (sttP rs r + i) = a.2.2
def PgC (t : List Int) (g : Gx) : Prop := g 69 8 = (pgm t).1 ∧ ((pgm t).1 = -1 → RwC (pgm t).2 g)
def pD (t : List Int) : Ds := (pln t).2.2.2.2.1
def pcs (t : List Int) : List Nat := (pln t).2.2.2.2.2.1
def pus (t : List Int) : Nat := (pln t).2.2.2.2.2.2.1
def mayb (t : List Int) (i : Nat) : Bool := decide (i / 6 < 5) && decide (i / 6 < (pcs t).length) && ((i % 6) != (pcs t).getD (i / 6) 0) && (pus t).testBit (i % 6)
def pc30 (b : Nat) : Nat := ((List.range 30).filter (fun i => b.testBit i)).length
def subM (t : List Int) (b : Nat) : Prop := ∀ i, b.testBit i = true → mayb t i = true
def okB (t : List Int) (b : Nat) : Prop := ¬ TM (pD t (b : Int)) ∧ Snd (pD t (b : Int))
def mcnt (t : List Int) : Nat := ((List.range 30).filter (mayb t)).length
def MnP (t : List Int) (v : Int) : Prop := ((6 < mcnt t ∨ TM (pD t 0)) ∧ v = -4) ∨ (¬ (6 < mcnt t ∨ TM (pD t 0)) ∧ ((v = -1 ∧ ∀ b, subM t b → ¬ okB t b) ∨ ∃ b : Nat, subM t b ∧ okB t b ∧ v = (b : Int) ∧ ∀ b', subM t b' → okB t b' → pc30 b < pc30 b' ∨ (pc30 b = pc30 b' ∧ b ≤ b')))
def SetC (t : List Int) (g : Gx) : Prop := (pln t).1 = -1 ∧ (0 ≤ g 33 14 ∧ g 33 14 ≤ 1073741823) ∧ ((g 33 15 = 1 ∧ TM (pD t (g 33 14))) ∨ (g 33 15 = 0 ∧ ¬ TM (pD t (g 33 14)) ∧ HsC (pD t (g 33 14)) (pD t (g 33 14)).length g ∧ (g 55 5 = g 33 16 → MomV (g 57) (pD t (g 33 14)))))
def Cnt (T : Nat) (g : Gx) : Prop := (0 ≤ g 1 3 ∧ g 1 3 ≤ (T : Int)) ∧ (0 ≤ g 4 3 ∧ g 4 3 ≤ (T : Int)) ∧ (-1 ≤ g 28 9 ∧ g 28 9 ≤ g 1 3) ∧ (0 ≤ g 7 12 ∧ g 7 12 ≤ (T : Int)) ∧ (-1 ≤ g 33 13 ∧ g 33 13 ≤ g 7 12) ∧ (0 ≤ g 33 16 ∧ g 33 16 ≤ 100 * (T : Int)) ∧ (-1 ≤ g 55 5 ∧ g 55 5 ≤ g 33 16) ∧ (-1 ≤ g 55 6 ∧ g 55 6 ≤ g 7 12) ∧ (-1 ≤ g 69 9 ∧ g 69 9 ≤ g 4 3)
def Cch (t pt t0 : List Int) (g : Gx) : Prop := (g 28 9 = g 1 3 → t0 = t) ∧ (0 ≤ g 28 9 → PdC t0 g) ∧ (g 33 13 = g 7 12 → 0 ≤ g 28 9 ∧ SetC t0 g) ∧ (g 55 6 = g 7 12 → MnP t0 (g 55 7)) ∧ (g 69 9 = g 4 3 → PgC pt g)
def Inv (T : Nat) (t pt : List Int) (u : Int) (g : Gx) : Prop := ITx g ∧ TxC t g ∧ TxP pt g ∧ ITl g ∧ g 0 11 = u ∧ ISh g ∧ ILg g ∧ Cnt T g ∧ ∃ t0, Cch t pt t0 g
theorem PdC.of {t : List Int} {g g' : Gx} (h : PdC t g) (e1 : g' 28 6 = g 28 6) (e2 : g' 28 7 = g 28 7) (e3 : g' 28 8 = g 28 8) (e4 : g' 7 11 = g 7 11) (ag : AGc g g') : PdC t g' := by
  refine ⟨by rw [e1]; exact h.1, fun h9 => ?_⟩
  obtain ⟨a1, a2, a3, a4, z, a5, a6, a7⟩ := h.2 h9
  exact ⟨by rw [e2]; exact a1, by rw [e3]; exact a2, by rw [e4]; exact a3, fun i hi => by rw [ag.2.2.2.1]; exact a4 i hi, z, by rw [ag.1]; exact a5, a6, a7.same ag⟩
theorem HsC.of {L : List Hy} {n : Nat} {g g' : Gx} (h : HsC L n g) (e1 : g' 33 9 = g 33 9) (e2 : g' 37 = g 37) (e3 : g' 35 = g 35) (e4 : g' 43 = g 43) (e5 : g' 45 = g 45) : HsC L n g' := by
  refine ⟨by rw [e1]; exact h.1, fun k e hk he => by rw [e2, e3]; exact h.2.1 k e hk he, fun k hk hk2 => ?_⟩
  have := h.2.2 k hk hk2
  unfold TI at *
  rw [e4, e5]
  exact this
theorem PgC.of {t : List Int} {g g' : Gx} (h : PgC t g) (e1 : g' 69 7 = g 69 7) (e2 : g' 69 8 = g 69 8) (e3 : g' 71 = g 71) (e4 : g' 73 = g 73) (e5 : g' 75 = g 75) (e6 : g' 77 = g 77) : PgC t g' := by
  unfold PgC RwC
  rw [e1, e2, e3, e4, e5, e6]
  exact h
/-- cells whose contents do not matter between two calls -/
def SCR : List Nat := [21, 23, 25, 27, 30, 32, 39, 41, 47, 49, 52, 54, 59, 62, 64, 66, 68, 82, 84, 96, 99, 100, 101, 102, 103, 104, 105, 106, 107, 108, 109, 110, 111, 112, 113, 114, 115, 116, 117, 118, 119, 120, 121, 122, 123, 124, 125, 126, 2796, 2797, 3122, 3123, 3124, 4845, 4846, 4847, 4848, 6896, 6897, 6904, 6905, 6906, 6908, 6909, 6914, 6923, 6924, 6931, 6932]
theorem Inv.fr {T : Nat} {t pt : List Int} {u : Int} {g g' : Gx} (h : Inv T t pt u g) (f : FR SCR g g') : Inv T t pt u g' := by
  obtain ⟨h1, h2, h3, h4, h5, h6, h7, h8, t0, c1, c2, c3, c4, c5⟩ := h
  have cl : ∀ q, q ∉ SCR → ob q = false → g' q = g q := fun q a b => f.cell a b
  have e1_1 : g' 1 1 = g 1 1 := f.fld (by decide) (by decide)
  have e1_2 : g' 1 2 = g 1 2 := f.fld (by decide) (by decide)
  have e1_3 : g' 1 3 = g 1 3 := f.fld (by decide) (by decide)
  have e4_1 : g' 4 1 = g 4 1 := f.fld (by decide) (by decide)
  have e4_2 : g' 4 2 = g 4 2 := f.fld (by decide) (by decide)
  have e4_3 : g' 4 3 = g 4 3 := f.fld (by decide) (by decide)
  have e0_11 : g' 0 11 = g 0 11 := f.fld (by decide) (by decide)
  have e0_12 : g' 0 12 = g 0 12 := f.fld (by decide) (by decide)
  have e7_10 : g' 7 10 = g 7 10 := f.fld (by decide) (by decide)
  have e7_11 : g' 7 11 = g 7 11 := f.fld (by decide) (by decide)
  have e7_12 : g' 7 12 = g 7 12 := f.fld (by decide) (by decide)
  have e28_6 : g' 28 6 = g 28 6 := f.fld (by decide) (by decide)
  have e28_7 : g' 28 7 = g 28 7 := f.fld (by decide) (by decide)
  have e28_8 : g' 28 8 = g 28 8 := f.fld (by decide) (by decide)
  have e28_9 : g' 28 9 = g 28 9 := f.fld (by decide) (by decide)
  have e33_9 : g' 33 9 = g 33 9 := f.fld (by decide) (by decide)
  have e33_13 : g' 33 13 = g 33 13 := f.fld (by decide) (by decide)
  have e33_14 : g' 33 14 = g 33 14 := f.fld (by decide) (by decide)
  have e33_15 : g' 33 15 = g 33 15 := f.fld (by decide) (by decide)
  have e33_16 : g' 33 16 = g 33 16 := f.fld (by decide) (by decide)
  have e55_5 : g' 55 5 = g 55 5 := f.fld (by decide) (by decide)
  have e55_6 : g' 55 6 = g 55 6 := f.fld (by decide) (by decide)
  have e55_7 : g' 55 7 = g 55 7 := f.fld (by decide) (by decide)
  have e69_7 : g' 69 7 = g 69 7 := f.fld (by decide) (by decide)
  have e69_8 : g' 69 8 = g 69 8 := f.fld (by decide) (by decide)
  have e69_9 : g' 69 9 = g 69 9 := f.fld (by decide) (by decide)
  have e78_4 : g' 78 4 = g 78 4 := f.fld (by decide) (by decide)
  have e92_4 : g' 92 4 = g 92 4 := f.fld (by decide) (by decide)
  have e92_7 : g' 92 7 = g 92 7 := f.fld (by decide) (by decide)
  have e92_48 : g' 92 48 = g 92 48 := f.fld (by decide) (by decide)
  have ag : AGc g g' := ⟨e7_10, cl 9 (by decide) (by decide), cl 11 (by decide) (by decide), cl 13 (by decide) (by decide), cl 15 (by decide) (by decide), cl 17 (by decide) (by decide), cl 19 (by decide) (by decide)⟩
  refine ⟨?_, h2.of e1_2 (cl 3 (by decide) (by decide)), ?_, ?_, by rw [e0_11]; exact h5, h6.of e0_12 e92_4 (cl 93 (by decide) (by decide)) (cl 89 (by decide) (by decide)) (cl 94 (by decide) (by decide)) (cl 91 (by decide) (by decide)) (cl 95 (by decide) (by decide)) (cl 87 (by decide) (by decide)), ?_, ?_, t0, ?_, ?_, ?_, ?_, ?_⟩
  · unfold ITx
    rw [e1_1, e1_2, e4_1, e4_2, cl 98 (by decide) (by decide), cl 97 (by decide) (by decide), cl 3 (by decide) (by decide), cl 6 (by decide) (by decide)]
    exact h1
  · unfold TxP
    rw [e4_2, cl 6 (by decide) (by decide)]; exact h3
  · unfold ITl
    rw [e92_7, e0_11]; exact h4
  · unfold ILg
    rw [e92_48, e78_4, cl 127 (by decide) (by decide), cl 80 (by decide) (by decide)]; exact h7
  · unfold Cnt
    rw [e1_3, e4_3, e28_9, e7_12, e33_13, e33_16, e55_5, e55_6, e69_9]; exact h8
  · rw [e28_9, e1_3]; exact c1
  · rw [e28_9]; exact fun h9 => (c2 h9).of e28_6 e28_7 e28_8 e7_11 ag
  · rw [e33_13, e7_12, e28_9]
    intro h9
    obtain ⟨d0, d1, d2, d3⟩ := c3 h9
    refine ⟨d0, d1, by rw [e33_14]; exact d2, ?_⟩
    rw [e33_14, e33_15, e55_5, e33_16, cl 57 (by decide) (by decide)]
    rcases d3 with d3 | ⟨d3, d4, d5, d6⟩
    · exact Or.inl d3
    · exact Or.inr ⟨d3, d4, d5.of e33_9 (cl 37 (by decide) (by decide)) (cl 35 (by decide) (by decide)) (cl 43 (by decide) (by decide)) (cl 45 (by decide) (by decide)), d6⟩
  · rw [e55_6, e7_12, e55_7]; exact c4
  · rw [e69_9, e4_3]
    exact fun h9 => (c5 h9).of e69_7 e69_8 (cl 71 (by decide) (by decide)) (cl 73 (by decide) (by decide)) (cl 75 (by decide) (by decide)) (cl 77 (by decide) (by decide))
theorem Inv.txR {T : Nat} {t pt : List Int} {u : Int} {g : Gx} (h : Inv T t pt u g) : TxR t g := by
  obtain ⟨⟨x1, x2, x3, x4, x5, x6, x7, x8⟩, ⟨y1, y2, y3⟩, -⟩ := h
  exact ⟨by rw [x3]; exact y1, y2, fun i hi => by rw [(x7 i (by omega)).1]; exact y3 i hi⟩
theorem Inv.more {T T' : Nat} {t pt : List Int} {u : Int} {g : Gx} (h : Inv T t pt u g) (hT : T ≤ T') : Inv T' t pt u g := by
  obtain ⟨h1, h2, h3, h4, h5, h6, h7, ⟨a1, a2, a3, a4, a5, a6, a7, a8, a9⟩, h9⟩ := h
  exact ⟨h1, h2, h3, h4, h5, h6, h7, ⟨by omega, by omega, a3, by omega, a5, by omega, a7, a8, a9⟩, h9⟩
