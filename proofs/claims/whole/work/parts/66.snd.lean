/-! The small machine is sound: what it does, the machine of the Statement does. Own text. -/
def okJ (x : Int) : Prop := -9223372036854775808 ≤ x ∧ x < 9223372036854775808
def okV : Vx → Prop
  | .inl x => okI x
  | .inr (.inl x) => okJ x
  | .inr (.inr _) => True
theorem i32_ok (x : Int32) : okI x.toInt := ⟨Int32.le_toInt x, Int32.toInt_lt x⟩
theorem i64_ok (x : Int64) : okJ x.toInt := ⟨Int64.le_toInt x, Int64.toInt_lt x⟩
theorem i64_id {x : Int} (h : okJ x) : (Int64.ofInt x).toInt = x := Int64.toInt_ofInt_of_le h.1 h.2
theorem wr_ok (x : Int) : okI (wr x) := i32_ok _
theorem wl_ok (x : Int) : okJ (wl x) := i64_ok _
theorem of_wr (x : Int) : Int32.ofInt (wr x) = Int32.ofInt x := Int32.ofInt_toInt _
theorem of_wl (x : Int) : Int64.ofInt (wl x) = Int64.ofInt x := Int64.ofInt_toInt _
theorem okI_J {x : Int} (h : okI x) : okJ x := ⟨by have := h.1; omega, by have := h.2; omega⟩
theorem i32_lt {x y : Int} (hx : okI x) (hy : okI y) : Int32.ofInt x < Int32.ofInt y ↔ x < y := by rw [Int32.lt_iff_toInt_lt, i32_id hx, i32_id hy]
theorem i32_le {x y : Int} (hx : okI x) (hy : okI y) : Int32.ofInt x ≤ Int32.ofInt y ↔ x ≤ y := by rw [Int32.le_iff_toInt_le, i32_id hx, i32_id hy]
theorem i32_eq {x y : Int} (hx : okI x) (hy : okI y) : Int32.ofInt x = Int32.ofInt y ↔ x = y := by rw [← Int32.toInt_inj, i32_id hx, i32_id hy]
theorem i64_lt {x y : Int} (hx : okJ x) (hy : okJ y) : Int64.ofInt x < Int64.ofInt y ↔ x < y := by rw [Int64.lt_iff_toInt_lt, i64_id hx, i64_id hy]
theorem i64_eq {x y : Int} (hx : okJ x) (hy : okJ y) : Int64.ofInt x = Int64.ofInt y ↔ x = y := by rw [← Int64.toInt_inj, i64_id hx, i64_id hy]
theorem okI_0 : okI 0 := ⟨by decide, by decide⟩
theorem i32_0 : Int32.ofInt 0 = 0 := rfl
theorem i32_in {i : Int} {n : Nat} (h0 : 0 ≤ i) (h1 : i < (n : Int)) (hi : okI i) : vp_in (Int32.ofInt i) n := by
  rw [vp_in_iff, i32_id hi]; exact ⟨h0, h1⟩
theorem i32_cl {i : Int} (h0 : 0 ≤ i) (hi : okI i) : (Int32.ofInt i).toNatClampNeg = i.toNat := by
  show (Int32.ofInt i).toInt.toNat = i.toNat
  rw [i32_id hi]
def tr (ad : Nat → Nat) : Vx → Value
  | .inl x => .int (Int32.ofInt x)
  | .inr (.inl x) => .long (Int64.ofInt x)
  | .inr (.inr q) => .ref (ad q)
theorem tr_cat (ad : Nat → Nat) (v : Vx) : (tr ad v).category = cat v := by
  rcases v with x | x | x <;> rfl
def isL (q : Nat) : Bool := match tpo q with
  | some (14, _, _) => true
  | _ => false
def okG (g : Gx) : Prop := ∀ q i, if isL q = true then okJ (g q i) else okI (g q i)
def AW (ad : Nat → Nat) : Nat → Prop := fun q => ∃ i, i < nT ∧ q = ad i
def fvX (ad : Nat → Nat) (x : Int) : Option Nat → Value
  | none => .int (Int32.ofInt x)
  | some t => .ref (ad t)
def fldX (ad : Nat → Nat) (g : Gx) (q : Nat) (fks : List (Option Nat)) : List Value := fks.mapIdx (fun i f => fvX ad (g q i) f)
def cellX (ad : Nat → Nat) (cI cJ : ClassId) (g : Gx) (q : Nat) : va_E := match tpo q with
  | some (13, n, _) => .inl (cI, n, .inl (fun j => Int32.ofInt (g q j)))
  | some (14, n, _) => .inl (cJ, n, .inr (.inl (fun j => Int64.ofInt (g q j))))
  | some (ci, _, fks) => .inr (ci, fldX ad g q fks)
  | none => .inr (99, [])
def wsX (ad : Nat → Nat) (cI cJ : ClassId) (g : Gx) : va_W := (List.range nT).map (fun q => (ad q, cellX ad cI cJ g q))
theorem tpo_lt {q : Nat} {d : Nat × Nat × List (Option Nat)} (h : tpo q = some d) : q < nT := by
  rcases Nat.lt_or_ge q nT with h1 | h1
  · exact h1
  · exfalso
    unfold tpo at h
    rw [Nat.ble_eq_true_of_le h1] at h
    cases h
theorem wsX_at (ad : Nat → Nat) (cI cJ : ClassId) (g : Gx) {q : Nat} (h : q < nT) : (wsX ad cI cJ g)[q]? = some (ad q, cellX ad cI cJ g q) := by
  simp [wsX, List.getElem?_map, List.getElem?_range h]
theorem cellX_other {ad : Nat → Nat} {cI cJ : ClassId} {g g2 : Gx} {q : Nat} (h : g2 q = g q) : cellX ad cI cJ g2 q = cellX ad cI cJ g q := by
  unfold cellX fldX
  rw [h]
theorem wsX_set {ad : Nat → Nat} {cI cJ : ClassId} {g : Gx} {q i : Nat} {v : Int} {z : va_E} (hq : q < nT) (hz : z = cellX ad cI cJ (gset g q i v) q) : (wsX ad cI cJ g).set q (ad q, z) = wsX ad cI cJ (gset g q i v) := by
  subst hz
  apply List.ext_getElem?
  intro n
  rw [List.getElem?_set]
  by_cases h : q = n
  · subst h
    rw [wsX_at _ _ _ _ hq]
    simp [wsX, hq]
  · simp only [h, if_false]
    by_cases hn : n < nT
    · rw [wsX_at _ _ _ _ hn, wsX_at _ _ _ _ hn, cellX_other (gset_ne (fun h9 => h h9.symm))]
    · simp [wsX, List.getElem?_eq_none, Nat.le_of_not_lt hn]
theorem fldX_at {ad : Nat → Nat} {g : Gx} {q i : Nat} {fks : List (Option Nat)} {f : Option Nat} (h : fks[i]? = some f) : (fldX ad g q fks)[i]? = some (fvX ad (g q i) f) := by
  simp [fldX, List.getElem?_mapIdx, h]
theorem fldX_set {ad : Nat → Nat} {g : Gx} {q i : Nat} {v : Int} {fks : List (Option Nat)} (h : fks[i]? = some none) : fldX ad (gset g q i v) q fks = (fldX ad g q fks).set i (.int (Int32.ofInt v)) := by
  apply List.ext_getElem?
  intro n
  have hl : i < fks.length := (List.getElem?_eq_some_iff.mp h).1
  rw [List.getElem?_set]
  by_cases hn : i = n
  · subst hn
    rw [fldX_at h]
    simp [gset, fldX, hl, fvX]
  · simp only [hn, if_false]
    simp only [fldX, List.getElem?_mapIdx, gset_eq, show ¬ n = i from fun h9 => hn h9.symm, if_false]
def lrel (ad : Nat → Nat) (ls : Array Slot) (L : Lx) : Prop := ls.size = L.length ∧ lv_wf ls ∧ ∀ (i : Nat) (v : Vx), L[i]? = some (some v) → ls[i]? = some (.val (tr ad v))
def asc (ad : Nat → Nat) (L : Lx) : List (Nat × Value) := (List.range L.length).filterMap (fun i => match L[i]? with
  | some (some v) => some (i, tr ad v)
  | _ => none)
theorem asc_mem {ad : Nat → Nat} {L : Lx} {i : Nat} {w : Value} : (i, w) ∈ asc ad L ↔ ∃ v, L[i]? = some (some v) ∧ w = tr ad v := by
  unfold asc
  rw [List.mem_filterMap]
  constructor
  · rintro ⟨j, -, hj⟩
    split at hj
    · rename_i v hv
      cases hj
      exact ⟨v, hv, rfl⟩
    · cases hj
  · rintro ⟨v, hv, rfl⟩
    refine ⟨i, List.mem_range.mpr (List.getElem?_eq_some_iff.mp hv).1, ?_⟩
    rw [hv]
theorem lrel.has {ad : Nat → Nat} {ls : Array Slot} {L : Lx} (h : lrel ad ls L) : lv_has ls L.length (asc ad L) := by
  refine ⟨h.1, h.2.1, fun q hq => ?_⟩
  obtain ⟨i, w⟩ := q
  obtain ⟨v, hv, rfl⟩ := asc_mem.mp hq
  exact h.2.2 i v hv
theorem lkill_len (L : Lx) (i : Nat) : (lkill L i).length = L.length := by
  unfold lkill
  split
  · rfl
  · split <;> simp
theorem lkill_at {L : Lx} {i j : Nat} {v : Vx} (h : (lkill L i)[j]? = some (some v)) : L[j]? = some (some v) ∧ ¬ (j + 1 = i ∧ cat v = 2) := by
  unfold lkill at h
  split at h
  · exact ⟨h, fun h9 => by omega⟩
  · rename_i k
    split at h
    · rename_i w hw
      rw [List.getElem?_set] at h
      by_cases hk : k = j
      · subst hk
        rw [if_pos rfl] at h
        split at h <;> cases h
      · rw [if_neg hk] at h
        exact ⟨h, fun h9 => hk (by omega)⟩
    · rename_i hno
      refine ⟨h, fun h9 => ?_⟩
      have hk : k = j := by omega
      subst hk
      obtain ⟨-, hc⟩ := h9
      rcases v with x | x | x
      · simp [cat] at hc
      · exact hno x h
      · simp [cat] at hc
theorem lst1_len (L : Lx) (i : Nat) (v : Vx) : (lst1 L i v).length = L.length := by simp [lst1, lkill_len]
theorem lst2_len (L : Lx) (i : Nat) (v : Vx) : (lst2 L i v).length = L.length := by simp [lst2, lkill_len]
theorem lst1_at {L : Lx} {i j : Nat} {v w : Vx} (h : (lst1 L i v)[j]? = some (some w)) : (j = i ∧ w = v) ∨ (j ≠ i ∧ L[j]? = some (some w) ∧ ¬ (j + 1 = i ∧ cat w = 2)) := by
  unfold lst1 at h
  rw [List.getElem?_set] at h
  by_cases hk : i = j
  · subst hk
    rw [if_pos rfl] at h
    split at h
    · cases h; exact Or.inl ⟨rfl, rfl⟩
    · cases h
  · rw [if_neg hk] at h
    have := lkill_at h
    exact Or.inr ⟨fun h9 => hk h9.symm, this⟩
theorem lst2_at {L : Lx} {i j : Nat} {v w : Vx} (h : (lst2 L i v)[j]? = some (some w)) : (j = i ∧ w = v) ∨ (j ≠ i ∧ j ≠ i + 1 ∧ L[j]? = some (some w) ∧ ¬ (j + 1 = i ∧ cat w = 2)) := by
  unfold lst2 at h
  rw [List.getElem?_set] at h
  by_cases hk : i + 1 = j
  · subst hk
    rw [if_pos rfl] at h
    split at h <;> cases h
  · rw [if_neg hk] at h
    rcases lst1_at (L := L) (i := i) (v := v) h with h1 | h1
    · exact Or.inl h1
    · exact Or.inr ⟨h1.1, fun h9 => hk h9.symm, h1.2⟩
theorem lrel.st1 {ad : Nat → Nat} {ls : Array Slot} {L : Lx} {i : Nat} {v : Vx} (h : lv_has ls L.length ((i, tr ad v) :: (asc ad L).filter (fun q => !(q.1 == i) && !(q.1 + 1 == i && q.2.category == 2)))) : lrel ad ls (lst1 L i v) := by
  refine ⟨by rw [lst1_len]; exact h.1, h.2.1, fun j w hw => ?_⟩
  rcases lst1_at hw with ⟨rfl, rfl⟩ | ⟨h1, h2, h3⟩
  · exact h.2.2 (j, tr ad w) List.mem_cons_self
  · refine h.2.2 (j, tr ad w) (List.mem_cons_of_mem _ (List.mem_filter.mpr ⟨asc_mem.mpr ⟨w, h2, rfl⟩, ?_⟩))
    simp only [tr_cat]
    simp [h1]
    omega
theorem lrel.st2 {ad : Nat → Nat} {ls : Array Slot} {L : Lx} {i : Nat} {v : Vx} (h : lv_has ls L.length ((i, tr ad v) :: (asc ad L).filter (fun q => !(q.1 == i) && (!(q.1 == i + 1) && !(q.1 + 1 == i && q.2.category == 2))))) : lrel ad ls (lst2 L i v) := by
  refine ⟨by rw [lst2_len]; exact h.1, h.2.1, fun j w hw => ?_⟩
  rcases lst2_at hw with ⟨rfl, rfl⟩ | ⟨h1, h0, h2, h3⟩
  · exact h.2.2 (j, tr ad w) List.mem_cons_self
  · refine h.2.2 (j, tr ad w) (List.mem_cons_of_mem _ (List.mem_filter.mpr ⟨asc_mem.mpr ⟨w, h2, rfl⟩, ?_⟩))
    simp only [tr_cat]
    simp [h1, h0]
    omega
def okL (L : Lx) : Prop := ∀ (i : Nat) (v : Vx), L[i]? = some (some v) → okV v
def okS (S : List Vx) : Prop := ∀ v ∈ S, okV v
theorem okL.st1 {L : Lx} {i : Nat} {v : Vx} (h : okL L) (hv : okV v) : okL (lst1 L i v) := fun j w hw => by
  rcases lst1_at hw with ⟨-, rfl⟩ | ⟨-, h2, -⟩
  · exact hv
  · exact h j w h2
theorem okL.st2 {L : Lx} {i : Nat} {v : Vx} (h : okL L) (hv : okV v) : okL (lst2 L i v) := fun j w hw => by
  rcases lst2_at hw with ⟨-, rfl⟩ | ⟨-, -, h2, -⟩
  · exact hv
  · exact h j w h2
theorem okS.cons {S : List Vx} {v : Vx} (h : okS S) (hv : okV v) : okS (v :: S) := fun w hw => by
  rcases List.mem_cons.mp hw with rfl | h1
  · exact hv
  · exact h w h1
theorem okS.tl {S : List Vx} {v : Vx} (h : okS (v :: S)) : okS S := fun w hw => h w (List.mem_cons_of_mem _ hw)
theorem okS.hd {S : List Vx} {v : Vx} (h : okS (v :: S)) : okV v := h v List.mem_cons_self
theorem okG.set {g : Gx} {q i : Nat} {v : Int} (h : okG g) (hv : if isL q = true then okJ v else okI v) : okG (gset g q i v) := fun b j => by
  by_cases hb : b = q
  · subst hb
    by_cases hj : j = i
    · simp only [gset, hj, if_true]; exact hv
    · simp only [gset, hj, if_true, if_false]; exact h b j
  · rw [gset_ne hb]; exact h b j
