/-! The class reads an item. Own text. -/
def sayH (b x y : Int) (g : Gx) : Gx := lett (St_add 0 (wr ((wr ((wr (1000 * (wr (b - 65)))) + (wr (100 * (wr (x - 65)))))) + (wr (y - 97)))) g) (fun g2 => gset (gset (gset g2 28 7 (jor (g2 28 7) (jor (jshl 1 (wr (b - 65))) (jshl 1 (wr (x - 65)))))) 28 8 (wr ((g2 28 8) + 1))) 28 5 (wr ((g2 28 5) + 4)))
theorem rs_eq (g : Gx) (b x y : Int) (h2 : Tx_at1 (wr (g 28 5 + 2)) g = x) (h3 : Tx_at1 (wr (g 28 5 + 3)) g = y) : Pr_readSaying b g = if ¬ (65 ≤ x ∧ x ≤ 70) ∨ x = b then Pr_failAt (wr (g 28 5 + 2)) g else if ¬ (97 ≤ y ∧ y ≤ 122) then Pr_failAt (wr (g 28 5 + 3)) g else (0, sayH b x y g) := by
  unfold Pr_readSaying sayH
  simp only [lett, h2, h3, tl_eq, wl_eq]
  by_cases h1 : 65 ≤ x ∧ x ≤ 70
  · by_cases h4 : x = b
    · simp [h1, h4]
    · by_cases h5 : 97 ≤ y ∧ y ≤ 122 <;> simp [h1, h4, h5]
  · simp [h1]
def opcH (b : Int) (g : Gx) : Gx := lett (St_newChoice (wr (b - 65)) (rset g 32 4 (g 28 4) (St_size g))) (fun q3 => lett (St_add 1 q3.1 q3.2) (fun g4 => lett (St_beginWay q3.1 g4) (fun g5 => gset (gset (gset (rset g5 30 4 (g5 28 4) q3.1) 28 7 (jor (g5 28 7) (jshl 1 (wr (b - 65))))) 28 4 (wr ((g5 28 4) + 1))) 28 5 (wr ((g5 28 5) + 2)))))
def oprH (b : Int) (g : Gx) : Gx := lett (St_add 4 (wr (b - 48)) (rset g 32 4 (g 28 4) (St_size g))) (fun g2 => gset (gset (rset g2 30 4 (g2 28 4) (-1)) 28 4 (wr ((g2 28 4) + 1))) 28 5 (wr ((g2 28 5) + 2)))
theorem ro_eq (g : Gx) (b c : Int) (h1 : Tx_at1 (wr (g 28 5 + 1)) g = c) : Pr_readOpening b g = if c = 40 ∧ g 28 4 < 4 then (1, if 65 ≤ b ∧ b ≤ 70 then opcH b g else oprH b g) else Pr_failAt (wr (g 28 5 + 1)) g := by
  unfold Pr_readOpening opcH oprH
  simp only [lett, h1, tl_eq]
  by_cases h2 : c = 40
  · by_cases h3 : g 28 4 < 4
    · by_cases h4 : 65 ≤ b ∧ b ≤ 70 <;> simp [h2, h3, h4]
    · simp [h2, h3]
  · simp [h2]
theorem okw_mk {b x y : Int} (hb : 65 ≤ b ∧ b ≤ 70) (hx : 65 ≤ x ∧ x ≤ 70) (hn : ¬ x = b) (hy : 97 ≤ y ∧ y ≤ 122) : okw (1000 * (b - 65) + 100 * (x - 65) + (y - 97)) :=
  ⟨(b - 65).toNat, (x - 65).toNat, (y - 97).toNat, by omega, by omega, by omega, by omega, by omega⟩
theorem rc_say {t : List Int} {p : Nat} {fs : List Fm} {D : Ds} {cs : List Nat} {us sy : Nat} {g : Gx} {b x y : Int} (h : RC t (p, true, fs, D, cs, us, sy) g) (hp : p + 3 < t.length) (ht : t.length ≤ 160) (hus : us < 64) (hsy : sy ≤ p) (hb : 65 ≤ b ∧ b ≤ 70) (hx : 65 ≤ x ∧ x ≤ 70) (hn : ¬ x = b) (hy : 97 ≤ y ∧ y ≤ 122) : RC t (p + 4, false, fs, dseq D (dsay (1000 * (b - 65) + 100 * (x - 65) + (y - 97))), cs, us ||| (2 ^ (b - 65).toNat ||| 2 ^ (x - 65).toNat), sy + 1) (sayH b x y g) := by
  obtain ⟨q1, q2, q3, q4, q5, q6, q7, z, lo, cl, q8, q9, q10, q11⟩ := h
  have q1 : g 28 5 = (p : Int) := q1
  have q2 : g 28 4 = (fs.length : Int) := q2
  have q4 : g 28 7 = (us : Int) := q4
  have q5 : g 28 8 = (sy : Int) := q5
  have q9 : z ≤ p := q9
  have le := q11.le
  have hbits : jor (us : Int) (jor (jshl 1 (wr (b - 65))) (jshl 1 (wr (x - 65)))) = ((us ||| (2 ^ (b - 65).toNat ||| 2 ^ (x - 65).toNat) : Nat) : Int) := by
    have b1 : 2 ^ (b - 65).toNat < 2 ^ 6 := Nat.pow_lt_pow_right (by decide) (by omega)
    have b2 : 2 ^ (x - 65).toNat < 2 ^ 6 := Nat.pow_lt_pow_right (by decide) (by omega)
    have b3 := Nat.or_lt_two_pow b1 b2
    rw [wr_id (x := b - 65) (by omega) (by omega), wr_id (x := x - 65) (by omega) (by omega), show b - 65 = ((b - 65).toNat : Int) by omega, show x - 65 = ((x - 65).toNat : Int) by omega, jshl_one _ (by omega), jshl_one _ (by omega), jor_nn (by omega) (by omega), jor_nn (by omega) (by omega), Int.toNat_natCast, Int.toNat_natCast]
  have hcode : wr ((wr ((wr (1000 * (wr (b - 65)))) + (wr (100 * (wr (x - 65)))))) + (wr (y - 97))) = 1000 * (b - 65) + 100 * (x - 65) + (y - 97) := by
    simp (disch := omega) only [wr_id]
  obtain ⟨g', hg⟩ : ∃ g', g' = gset (gset (gset (gset (gset (gset g 9 z 0) 11 z (1000 * (b - 65) + 100 * (x - 65) + (y - 97))) 7 10 ((z : Int) + 1)) 28 7 ((us ||| (2 ^ (b - 65).toNat ||| 2 ^ (x - 65).toNat) : Nat) : Int)) 28 8 ((sy : Int) + 1)) 28 5 ((p : Int) + 4) := ⟨_, rfl⟩
  have e : sayH b x y g = g' := by
    unfold sayH lett St_add
    rw [hcode, q8, rsi (by omega) (by omega), rsi (by omega) (by omega), Int.toNat_natCast, wr_id (x := (z : Int) + 1) (by omega) (by omega)]
    try simp (disch := decide) only [gc, gi]
    rw [q1, q4, q5, hbits, wr_id (x := (sy : Int) + 1) (by omega) (by omega), wr_id (x := (p : Int) + 4) (by omega) (by omega), hg]
  rw [e]
  have e9 : ∀ i, i ≠ z → g' 9 i = g 9 i := fun i hi => by simp [hg, gset, hi]
  have e11 : ∀ i, i ≠ z → g' 11 i = g 11 i := fun i hi => by simp [hg, gset, hi]
  have tb : ∀ c, TbA g g' c := fun c => by unfold TbA; simp [hg, gset]
  refine ⟨by simp [hg, gset], by simp [hg, gset]; exact q2, by simp [hg, gset]; exact q3, by simp [hg, gset], by simp [hg, gset], by simp [hg, gset]; exact q6, fun i hi => by simp [hg, gset]; exact q7 i hi, z + 1, lo, cl, by simp [hg, gset], by show z + 1 ≤ p + 4; omega, ?_, ?_⟩
  · exact q10.mono (fun i hi => ⟨e9 i (by omega), e11 i (by omega)⟩) (fun c _ => tb c) (fun i _ => by simp [hg, gset])
  · exact (q11.mono (fun i _ hi => ⟨e9 i (by omega), e11 i (by omega)⟩) (fun c _ _ => tb c)).seq (EncC.say _ _ (by simp [hg, gset]) (by simp [hg, gset]) (okw_mk hb hx hn hy))
theorem rc_opr {t : List Int} {p : Nat} {fs : List Fm} {D : Ds} {cs : List Nat} {us sy : Nat} {g : Gx} {b : Int} (h : RC t (p, true, fs, D, cs, us, sy) g) (hp : p + 1 < t.length) (ht : t.length ≤ 160) (hfs : fs.length < 4) (hb : 50 ≤ b ∧ b ≤ 52) : RC t (p + 2, true, (0, (b - 48).toNat, 0, 0, fun _ => dnil, D) :: fs, dnil, cs, us, sy) (oprH b g) := by
  obtain ⟨q1, q2, q3, q4, q5, q6, q7, z, lo, cl, q8, q9, q10, q11⟩ := h
  have q1 : g 28 5 = (p : Int) := q1
  have q2 : g 28 4 = (fs.length : Int) := q2
  have q9 : z ≤ p := q9
  have le := q11.le
  obtain ⟨g', hg⟩ : ∃ g', g' = gset (gset (gset (gset (gset (gset (gset g 32 fs.length (z : Int)) 9 z 4) 11 z (b - 48)) 7 10 ((z : Int) + 1)) 30 fs.length (-1)) 28 4 ((fs.length : Int) + 1)) 28 5 ((p : Int) + 2) := ⟨_, rfl⟩
  have e : oprH b g = g' := by
    unfold oprH lett St_add St_size
    rw [q2, q8, rsi (c := 32) (by omega) (by omega), Int.toNat_natCast]
    simp (disch := decide) only [gc]
    try rw [q8]
    rw [rsi (c := 9) (by omega) (by omega), rsi (c := 11) (by omega) (by omega), wr_id (x := b - 48) (by omega) (by omega), wr_id (x := (z : Int) + 1) (by omega) (by omega), Int.toNat_natCast]
    try simp (disch := decide) only [gc]
    try rw [q2]
    rw [rsi (c := 30) (by omega) (by omega), Int.toNat_natCast]
    try simp (disch := decide) only [gc, gi]
    rw [q1, wr_id (x := (fs.length : Int) + 1) (by omega) (by omega), wr_id (x := (p : Int) + 2) (by omega) (by omega), hg]
  rw [e]
  have e9 : ∀ i, i ≠ z → g' 9 i = g 9 i := fun i hi => by simp [hg, gset, hi]
  have e11 : ∀ i, i ≠ z → g' 11 i = g 11 i := fun i hi => by simp [hg, gset, hi]
  have tb : ∀ c, TbA g g' c := fun c => by unfold TbA; simp [hg, gset]
  refine ⟨by simp [hg, gset], by simp [hg, gset], by simp [hg, gset]; exact q3, by simp [hg, gset]; exact q4, by simp [hg, gset]; exact q5, by simp [hg, gset]; exact q6, fun i hi => by simp [hg, gset]; exact q7 i hi, z + 1, z + 1, cs.length, by simp [hg, gset], by show z + 1 ≤ p + 2; omega, ?_, ?_⟩
  · refine ⟨lo, cl, z, cs.length, q10.mono (fun i hi => ⟨e9 i (by omega), e11 i (by omega)⟩) (fun c _ => tb c) (fun i hi => ?_), q11.mono (fun i _ hi => ⟨e9 i (by omega), e11 i (by omega)⟩) (fun c _ _ => tb c), by simp [hg, gset], by omega, Nat.le_refl _, Or.inl ⟨rfl, by simp [hg, gset], by simp [hg, gset], ?_, rfl, rfl⟩⟩
    · have hi' : i ≠ fs.length := by omega
      simp [hg, gset, hi']
    · simp [hg, gset]; omega
  · exact EncC.nil _ _ _ _
theorem rc_opc {t : List Int} {p : Nat} {fs : List Fm} {D : Ds} {cs : List Nat} {us sy : Nat} {g : Gx} {b : Int} (h : RC t (p, true, fs, D, cs, us, sy) g) (hp : p + 1 < t.length) (ht : t.length ≤ 160) (hfs : fs.length < 4) (hcs : cs.length < 40) (hus : us < 64) (hb : 65 ≤ b ∧ b ≤ 70) : RC t (p + 2, true, (1, cs.length, (b - 65).toNat, 0, fun _ => dnil, D) :: fs, dnil, cs ++ [(b - 65).toNat], us ||| 2 ^ (b - 65).toNat, sy) (opcH b g) := by
  obtain ⟨q1, q2, q3, q4, q5, q6, q7, z, lo, cl, q8, q9, q10, q11⟩ := h
  have q1 : g 28 5 = (p : Int) := q1
  have q2 : g 28 4 = (fs.length : Int) := q2
  have q4 : g 28 7 = (us : Int) := q4
  have q6 : g 7 11 = (cs.length : Int) := q6
  have q7 : ∀ i, i < cs.length → g 13 i = ((cs.getD i 0 : Nat) : Int) := q7
  have q9 : z ≤ p := q9
  have le := q11.le
  have hbits : jor (us : Int) (jshl 1 (b - 65)) = ((us ||| 2 ^ (b - 65).toNat : Nat) : Int) := by
    have b1 : 2 ^ (b - 65).toNat < 2 ^ 6 := Nat.pow_lt_pow_right (by decide) (by omega)
    rw [show b - 65 = ((b - 65).toNat : Int) by omega, jshl_one _ (by omega), jor_nn (by omega) (by omega), Int.toNat_natCast]
  obtain ⟨n, hn⟩ : ∃ n, n = cs.length := ⟨_, rfl⟩
  obtain ⟨g', hg⟩ : ∃ g', g' = gset (gset (gset (gset (gset (gset (gset (gset (gset (gset (gset (gset (gset g 32 fs.length (z : Int)) 7 11 ((n : Int) + 1)) 13 n (b - 65)) 15 n 0) 9 z 1) 11 z (n : Int)) 7 10 ((z : Int) + 1)) 17 (4 * n) ((z : Int) + 1)) 15 n 1) 30 fs.length (n : Int)) 28 7 ((us ||| 2 ^ (b - 65).toNat : Nat) : Int)) 28 4 ((fs.length : Int) + 1)) 28 5 ((p : Int) + 2) := ⟨_, rfl⟩
  have e : opcH b g = g' := by
    unfold opcH lett St_newChoice St_size
    rw [q2, q8, rsi (c := 32) (by omega) (by omega), Int.toNat_natCast]
    simp (disch := decide) only [gc]
    rw [q6, ← hn, rsi (c := 13) (by omega) (by omega), rsi (c := 15) (by omega) (by omega), Int.toNat_natCast, wr_id (x := b - 65) (by omega) (by omega), wr_id (x := (n : Int) + 1) (by omega) (by omega)]
    unfold St_add
    try simp (disch := decide) only [gc, gi]
    try rw [q8]
    rw [rsi (c := 9) (by omega) (by omega), rsi (c := 11) (by omega) (by omega), wr_id (x := (z : Int) + 1) (by omega) (by omega), Int.toNat_natCast]
    unfold St_beginWay
    rw [rat_in (c := 15) (by omega) (by omega), Int.toNat_natCast, wr_id (x := (n : Int) * 4) (by omega) (by omega)]
    simp (disch := decide) only [gc, gs_same]
    rw [wr_id (x := (n : Int) * 4 + 0) (by omega) (by omega), rsi (c := 17) (by omega) (by omega), rai (c := 15) (by omega) (by omega), Int.toNat_natCast, show ((n : Int) * 4 + 0).toNat = 4 * n by omega]
    try simp (disch := decide) only [gc, gs_same]
    try rw [q2]
    rw [rsi (c := 30) (by omega) (by omega), Int.toNat_natCast]
    try simp (disch := decide) only [gc, gi]
    rw [q1, q4, hbits, wr_id (x := (0 : Int) + 1) (by omega) (by omega), wr_id (x := (fs.length : Int) + 1) (by omega) (by omega), wr_id (x := (p : Int) + 2) (by omega) (by omega), hg]
    rfl
  rw [e]
  have e9 : ∀ i, i ≠ z → g' 9 i = g 9 i := fun i hi => by simp [hg, gset, hi]
  have e11 : ∀ i, i ≠ z → g' 11 i = g 11 i := fun i hi => by simp [hg, gset, hi]
  have tb : ∀ c, c < n → TbA g g' c := fun c hc => by
    have c1 : c ≠ n := by omega
    unfold TbA
    refine ⟨by simp [hg, gset, c1], by simp [hg, gset, c1], by simp [hg, gset], fun i hi => ?_⟩
    have c2 : 4 * c + i ≠ 4 * n := by omega
    simp [hg, gset, c2]
  refine ⟨by simp [hg, gset], by simp [hg, gset], by simp [hg, gset]; exact q3, by simp [hg, gset], by simp [hg, gset]; exact q5, by simp [hg, gset, hn], fun i hi => ?_, z + 1, z + 1, n + 1, by simp [hg, gset], by show z + 1 ≤ p + 2; omega, ?_, ?_⟩
  · have hi : i < (cs ++ [(b - 65).toNat]).length := hi
    rw [List.length_append, List.length_singleton, ← hn] at hi
    show g' 13 i = (((cs ++ [(b - 65).toNat]).getD i 0 : Nat) : Int)
    by_cases hi2 : i = n
    · rw [hi2]
      simp [hg, gset, List.getD_eq_getElem?_getD, hn]
      omega
    · have hi3 : i < cs.length := by omega
      rw [show g' 13 i = g 13 i by simp [hg, gset, hi2], q7 i hi3]
      simp [List.getD_eq_getElem?_getD, List.getElem?_append_left hi3]
  · refine ⟨lo, cl, z, n, q10.mono (fun i hi => ⟨e9 i (by omega), e11 i (by omega)⟩) (fun c hc => tb c (by omega)) (fun i hi => ?_), ?_, by simp [hg, gset], by omega, by omega, Or.inr ⟨rfl, by omega, by simp [hg, gset, hn], hn, by omega, by simp [hg, gset], by simp [hg, gset, hn], ?_, ?_, fun _ => z + 1, fun _ => 0, fun _ => n + 1, rfl, by rw [hn], rfl, rfl, fun i hi => by omega, fun i hi => ?_⟩⟩
    · have hi' : i ≠ fs.length := by omega
      simp [hg, gset, hi']
    · rw [hn]
      exact q11.mono (fun i _ hi => ⟨e9 i (by omega), e11 i (by omega)⟩) (fun c _ hc => tb c (by omega))
    · rw [← hn]; simp [hg, gset]; omega
    · rw [← hn]; simp [hg, gset]
    · have : i = 0 := by omega
      rw [this, ← hn]
      simp [hg, gset]
  · show EncC g' (4 - (fs.length + 1)) (z + 1) (z + 1) (n + 1) (cs ++ [(b - 65).toNat]).length dnil
    rw [List.length_append, List.length_singleton, ← hn]
    exact EncC.nil _ _ _ _
