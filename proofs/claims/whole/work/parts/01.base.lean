/-! Numbers, a heap of numbers, rows of it, frames: all pure. Own text. -/
abbrev Gx : Type := Nat → Nat → Int
def wr (x : Int) : Int := (Int32.ofInt x).toInt
def wl (x : Int) : Int := (Int64.ofInt x).toInt
def jand (x y : Int) : Int := (Int32.ofInt x &&& Int32.ofInt y).toInt
def jor (x y : Int) : Int := (Int32.ofInt x ||| Int32.ofInt y).toInt
def jxor (x y : Int) : Int := (Int32.ofInt x ^^^ Int32.ofInt y).toInt
def jshl (x y : Int) : Int := (Int32.ofInt x <<< (Int32.ofInt y &&& 31)).toInt
def jshr (x y : Int) : Int := (Int32.ofInt x >>> (Int32.ofInt y &&& 31)).toInt
def jushr (x y : Int) : Int := ((Int32.ofInt x).toUInt32 >>> ((Int32.ofInt y).toUInt32 &&& Int32.toUInt32 31)).toInt32.toInt
def jdiv (x y : Int) : Int := (Int32.ofInt x / Int32.ofInt y).toInt
def jrem (x y : Int) : Int := (Int32.ofInt x - Int32.ofInt x / Int32.ofInt y * Int32.ofInt y).toInt
def jb (x : Int) : Int := (Int32.ofInt x).toInt8.toInt32.toInt
def js (x : Int) : Int := (Int32.ofInt x).toInt16.toInt32.toInt
def mor (x y : Int) : Int := (Int64.ofInt x ||| Int64.ofInt y).toInt
def mand (x y : Int) : Int := (Int64.ofInt x &&& Int64.ofInt y).toInt
def mshl (x y : Int) : Int := (Int64.ofInt x <<< ((Int32.ofInt y).toInt64 &&& 63)).toInt
def mshr (x y : Int) : Int := (Int64.ofInt x >>> ((Int32.ofInt y).toInt64 &&& 63)).toInt
def mcmp (x y : Int) : Int := if y < x then 1 else if x = y then 0 else -1
def gset (g : Gx) (a i : Nat) (v : Int) : Gx := fun b j => if b = a then (if j = i then v else g b j) else g b j
def imax (x y : Int) : Int := if x < y then y else x
def imin (x y : Int) : Int := if y < x then y else x
def fu : Nat := 1000000
def lett {α β : Type} (x : α) (F : α → β) : β := F x
theorem lett_inv {α β : Type} {x : α} {F : α → β} {y : β} (h : lett x F = y) : ∃ q, q = x ∧ F q = y := ⟨x, rfl, h⟩
def rat (g : Gx) (c n : Nat) (i : Int) : Int := if 0 ≤ i ∧ i < (n : Int) then g c i.toNat else 0
def rset (g : Gx) (c n : Nat) (i v : Int) : Gx := fun b j => if b = c then (if (0 ≤ i ∧ i < (n : Int)) ∧ j = i.toNat then v else g b j) else g b j
def radd (g : Gx) (c n : Nat) (i v : Int) : Gx := fun b j => if b = c then (if (0 ≤ i ∧ i < (n : Int)) ∧ j = i.toNat then wr (g b j + v) else g b j) else g b j
def rfill (g : Gx) (c n : Nat) (v : Int) : Gx := fun b j => if b = c then (if j < n then v else g b j) else g b j
def okI (x : Int) : Prop := -2147483648 ≤ x ∧ x < 2147483648
theorem i32_id {x : Int} (h : okI x) : (Int32.ofInt x).toInt = x := Int32.toInt_ofInt_of_le h.1 h.2
theorem wr_id {x : Int} (h1 : -2147483648 ≤ x) (h2 : x < 2147483648) : wr x = x := i32_id ⟨h1, h2⟩
theorem gset_ne {g : Gx} {q i b : Nat} {v : Int} (h : b ≠ q) : gset g q i v b = g b := by
  funext j
  simp [gset, h]
theorem gset_eq {g : Gx} {q i : Nat} {v : Int} : gset g q i v q = fun j => if j = i then v else g q j := by
  funext j
  simp [gset]
theorem rset_in {g : Gx} {c n : Nat} {i v : Int} (hi : 0 ≤ i ∧ i < (n : Int)) : rset g c n i v = gset g c i.toNat v := by
  funext b j
  simp [rset, gset, hi]
theorem rset_no {g : Gx} {c n : Nat} {i v : Int} (hi : ¬ (0 ≤ i ∧ i < (n : Int))) : rset g c n i v = g := by
  funext b j
  simp [rset, hi]
theorem radd_in {g : Gx} {c n : Nat} {i v : Int} (hi : 0 ≤ i ∧ i < (n : Int)) : radd g c n i v = gset g c i.toNat (wr (g c i.toNat + v)) := by
  funext b j
  by_cases hb : b = c
  · subst hb
    by_cases hj : j = i.toNat
    · subst hj; simp [radd, gset, hi]
    · simp [radd, gset, hi, hj]
  · simp [radd, gset, hb]
theorem radd_no {g : Gx} {c n : Nat} {i v : Int} (hi : ¬ (0 ≤ i ∧ i < (n : Int))) : radd g c n i v = g := by
  funext b j
  simp [radd, hi]
def ob (q : Nat) : Bool := Nat.beq q 0 || Nat.beq q 1 || Nat.beq q 4 || Nat.beq q 7 || Nat.beq q 28 || Nat.beq q 33 || Nat.beq q 55 || Nat.beq q 60 || Nat.beq q 69 || Nat.beq q 78 || Nat.beq q 92
/-- what of a heap stays: all but the rows named and the fields named (1000 + 64 cell + field) -/
def FR (W : List Nat) (g g' : Gx) : Prop := ∀ q j, q ∉ W → (ob q = true → 1000 + 64 * q + j ∉ W) → g' q j = g q j
theorem FR.rf (W : List Nat) (g : Gx) : FR W g g := fun _ _ _ _ => rfl
theorem FR.tr {W : List Nat} {a b c : Gx} (h1 : FR W a b) (h2 : FR W b c) : FR W a c := fun q j hq hj => (h2 q j hq hj).trans (h1 q j hq hj)
theorem FR.cl {V W : List Nat} {a b : Gx} (h : FR V a b) (hW : ∀ c ∈ V, c ∈ W) : FR W a b := fun q j hq hj => h q j (fun h9 => hq (hW q h9)) (fun ho h9 => hj ho (hW _ h9))
theorem FR.cell {W : List Nat} {a b : Gx} (h : FR W a b) {q : Nat} (hq : q ∉ W) (ho : ob q = false) : b q = a q := by
  funext j
  exact h q j hq (fun h9 => by rw [ho] at h9; cases h9)
theorem FR.fld {W : List Nat} {a b : Gx} (h : FR W a b) {q j : Nat} (hq : q ∉ W) (hj : 1000 + 64 * q + j ∉ W) : b q j = a q j := h q j hq (fun _ => hj)
theorem FR.gs {W : List Nat} {a b : Gx} {c i : Nat} {v : Int} (h : FR W a b) (hc : c ∈ W) : FR W a (gset b c i v) := fun q j hq hj => by
  have hn : q ≠ c := fun h9 => hq (h9 ▸ hc)
  rw [gset_ne hn]; exact h q j hq hj
theorem FR.go {W : List Nat} {a b : Gx} {c i : Nat} {v : Int} (h : FR W a b) (hc : ob c = true ∧ 1000 + 64 * c + i ∈ W) : FR W a (gset b c i v) := fun q j hq hj => by
  have hn : ¬ (q = c ∧ j = i) := fun h9 => by
    obtain ⟨rfl, rfl⟩ := h9
    exact hj hc.1 hc.2
  rw [← h q j hq hj]
  unfold gset
  by_cases h1 : q = c
  · rw [if_pos h1, if_neg (fun h2 => hn ⟨h1, h2⟩)]
  · rw [if_neg h1]
theorem FR.rs {W : List Nat} {a b : Gx} {c n : Nat} {i v : Int} (h : FR W a b) (hc : c ∈ W) : FR W a (rset b c n i v) := fun q j hq hj => by
  have hn : q ≠ c := fun h9 => hq (h9 ▸ hc)
  rw [← h q j hq hj]; simp [rset, hn]
theorem FR.ra {W : List Nat} {a b : Gx} {c n : Nat} {i v : Int} (h : FR W a b) (hc : c ∈ W) : FR W a (radd b c n i v) := fun q j hq hj => by
  have hn : q ≠ c := fun h9 => hq (h9 ▸ hc)
  rw [← h q j hq hj]; simp [radd, hn]
theorem FR.rl {W : List Nat} {a b : Gx} {c n : Nat} {v : Int} (h : FR W a b) (hc : c ∈ W) : FR W a (rfill b c n v) := fun q j hq hj => by
  have hn : q ≠ c := fun h9 => hq (h9 ▸ hc)
  rw [← h q j hq hj]; simp [rfill, hn]
theorem sub_tr {V U W : List Nat} (h : ∀ c ∈ V, c ∈ U) (hW : ∀ c ∈ U, c ∈ W) : ∀ c ∈ V, c ∈ W := fun c hc => hW c (h c hc)
/-- the first heap: both objects new, a script of n ints -/
def g0x (xs : Nat → Int32) (n : Nat) : Gx := fun q j => cond (Nat.beq q 1) (cond (Nat.beq j 1) 160 0) (cond (Nat.beq q 4) (cond (Nat.beq j 1) 80 0) (cond (Nat.beq q 28) (cond (Nat.beq j 6 || Nat.beq j 9) (-1) 0) (cond (Nat.beq q 33) (cond (Nat.beq j 13 || Nat.beq j 14) (-1) 0) (cond (Nat.beq q 55) (cond (Nat.beq j 5 || Nat.beq j 6 || Nat.beq j 7) (-1) 0) (cond (Nat.beq q 69) (cond (Nat.beq j 8 || Nat.beq j 9) (-1) 0) (cond (Nat.beq q 89) (cond (Nat.ble 4 j) 0 (-1)) (cond (Nat.beq q 93) (cond (Nat.ble 4 j) 0 (-1)) (cond (Nat.beq q 1000) (xs j).toInt (cond (Nat.beq q 1001) (cond (Nat.beq j 0) (n : Int) 0) 0)))))))))
