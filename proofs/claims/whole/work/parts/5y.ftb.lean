/-! A program's rows beside looks: the class's breach. Own text. -/
theorem doR {L : List Hy} {rs : List (List Ac)} {t : Nat} {g : Gx} (cx : CxC L rs t g) {P : Nat → Prop} {m : Nat} (hm : Msk rs.length P m) (n : Nat) (act : Int) : ∃ x, Pg_rowsDo (m : Int) (n : Int) act (t : Int) g = some (x, g) ∧ Bl x (∃ p, p < rs.length ∧ P p ∧ n < (RA rs t p).length ∧ (RA rs t p).getD n 0 = act) := by
  have w1 := cx.2.2.2.1.1
  have l8 := cx.2.2.2.2.1.1
  unfold Pg_rowsDo
  have lp : ∀ (d k fu' : Nat), k + d = rs.length → d < fu' → (¬ ∃ p, p < k ∧ P p ∧ n < (RA rs t p).length ∧ (RA rs t p).getD n 0 = act) → ∃ x, Pg_rowsDo_l3 (m : Int) (n : Int) act (t : Int) (fun g1 => some (0, g1)) fu' (k : Int) g = some (x, g) ∧ Bl x (∃ p, p < rs.length ∧ P p ∧ n < (RA rs t p).length ∧ (RA rs t p).getD n 0 = act) := by
    intro d
    induction d with
    | zero =>
      intro k fu' hk hf hno
      obtain ⟨fu', rfl⟩ : ∃ q, fu' = q + 1 := ⟨fu' - 1, by omega⟩
      obtain rfl : k = rs.length := by omega
      exact ⟨0, by rw [Pg_rowsDo_l3, w1, if_pos (by omega)], Or.inr ⟨rfl, hno⟩⟩
    | succ d ih =>
      intro k fu' hk hf hno
      obtain ⟨fu', rfl⟩ : ∃ q, fu' = q + 1 := ⟨fu' - 1, by omega⟩
      obtain ⟨r1, r2⟩ := rowC cx (show k < rs.length by omega)
      have m1 := hm.1
      have nx : ¬ (P k ∧ n < (RA rs t k).length ∧ (RA rs t k).getD n 0 = act) → ∃ x, Pg_rowsDo_l3 (m : Int) (n : Int) act (t : Int) (fun g1 => some (0, g1)) fu' ((k + 1 : Nat) : Int) g = some (x, g) ∧ Bl x (∃ p, p < rs.length ∧ P p ∧ n < (RA rs t p).length ∧ (RA rs t p).getD n 0 = act) := fun hn => ih (k + 1) fu' (by omega) (by omega) (fun ⟨p, a, b⟩ => by
        by_cases e : p = k
        · rw [e] at b; exact hn b
        · exact hno ⟨p, by omega, b⟩)
      rw [Pg_rowsDo_l3, w1, if_neg (by omega), has_nn (by omega) (by omega), wr_id (by omega) (by omega), show (k : Int) + 1 = ((k + 1 : Nat) : Int) by omega, r1]
      by_cases c1 : m.testBit k = true
      · rw [if_pos c1, if_neg (show ¬ (1 : Int) = 0 by decide)]
        have pk := ((hm.2 k).mp c1).2
        by_cases c2 : (RA rs t k).length ≤ n
        · rw [if_pos (by omega)]
          exact nx (fun h9 => by omega)
        · rw [if_neg (by omega), (r2 n (by omega)).1]
          by_cases c3 : (RA rs t k).getD n 0 = act
          · rw [if_neg (fun h9 => h9 c3)]
            exact ⟨1, rfl, Or.inl ⟨rfl, k, by omega, pk, by omega, c3⟩⟩
          · rw [if_pos c3]
            exact nx (fun h9 => c3 h9.2.2)
      · rw [if_neg c1, if_pos rfl]
        exact nx (fun h9 => c1 ((hm.2 k).mpr ⟨by omega, h9.1⟩))
  exact lp rs.length 0 fu (by omega) (Nat.lt_of_le_of_lt l8 (fu_big _ (by decide))) (fun ⟨p, a, _⟩ => by omega)
theorem doL {L : List Hy} {rs : List (List Ac)} {t : Nat} {g : Gx} (cx : CxC L rs t g) {P : Nat → Prop} {m : Nat} (hm : Msk L.length P m) (n : Nat) (act : Int) : ∃ x, Pg_looksDo (m : Int) (n : Int) act g = some (x, g) ∧ Bl x (∃ h, h < L.length ∧ P h ∧ n < (lkk L t h).length ∧ (lkk L t h).getD n 0 = act) := by
  have hz : Hi_size g = (L.length : Int) := cx.2.2.1
  have h30 := cx.1.2.1
  unfold Pg_looksDo
  have lp : ∀ (d k fu' : Nat), k + d = L.length → d < fu' → (¬ ∃ h, h < k ∧ P h ∧ n < (lkk L t h).length ∧ (lkk L t h).getD n 0 = act) → ∃ x, Pg_looksDo_l3 (m : Int) (n : Int) act (fun g1 => some (0, g1)) fu' (k : Int) g = some (x, g) ∧ Bl x (∃ h, h < L.length ∧ P h ∧ n < (lkk L t h).length ∧ (lkk L t h).getD n 0 = act) := by
    intro d
    induction d with
    | zero =>
      intro k fu' hk hf hno
      obtain ⟨fu', rfl⟩ : ∃ q, fu' = q + 1 := ⟨fu' - 1, by omega⟩
      obtain rfl : k = L.length := by omega
      exact ⟨0, by rw [Pg_looksDo_l3, hz, if_pos (by omega)], Or.inr ⟨rfl, hno⟩⟩
    | succ d ih =>
      intro k fu' hk hf hno
      obtain ⟨fu', rfl⟩ : ∃ q, fu' = q + 1 := ⟨fu' - 1, by omega⟩
      obtain ⟨r1, r2, -⟩ := lookC cx (show k < L.length by omega)
      have m1 := hm.1
      have nx : ¬ (P k ∧ n < (lkk L t k).length ∧ (lkk L t k).getD n 0 = act) → ∃ x, Pg_looksDo_l3 (m : Int) (n : Int) act (fun g1 => some (0, g1)) fu' ((k + 1 : Nat) : Int) g = some (x, g) ∧ Bl x (∃ h, h < L.length ∧ P h ∧ n < (lkk L t h).length ∧ (lkk L t h).getD n 0 = act) := fun hn => ih (k + 1) fu' (by omega) (by omega) (fun ⟨p, a, b⟩ => by
        by_cases e : p = k
        · rw [e] at b; exact hn b
        · exact hno ⟨p, by omega, b⟩)
      rw [Pg_looksDo_l3, hz, if_neg (by omega), has_nn (by omega) (by omega), wr_id (by omega) (by omega), show (k : Int) + 1 = ((k + 1 : Nat) : Int) by omega, r1]
      by_cases c1 : m.testBit k = true
      · rw [if_pos c1, if_neg (show ¬ (1 : Int) = 0 by decide)]
        have pk := ((hm.2 k).mp c1).2
        by_cases c2 : (lkk L t k).length ≤ n
        · rw [if_pos (by omega)]
          exact nx (fun h9 => by omega)
        · rw [if_neg (by omega), r2 n (by omega)]
          by_cases c3 : (lkk L t k).getD n 0 = act
          · rw [if_neg (fun h9 => h9 c3)]
            exact ⟨1, rfl, Or.inl ⟨rfl, k, by omega, pk, by omega, c3⟩⟩
          · rw [if_pos c3]
            exact nx (fun h9 => c3 h9.2.2)
      · rw [if_neg c1, if_pos rfl]
        exact nx (fun h9 => c1 ((hm.2 k).mpr ⟨by omega, h9.1⟩))
  exact lp L.length 0 fu (by omega) (Nat.lt_of_le_of_lt h30 (fu_big _ (by decide))) (fun ⟨p, a, _⟩ => by omega)
theorem saysAtC {L : List Hy} {rs : List (List Ac)} {t : Nat} {g : Gx} (cx : CxC L rs t g) {p : Nat} (hp : p < rs.length) (n : Nat) : Bl (Pg_saysAt (p : Int) (n : Int) g) (n < (RA rs t p).length ∧ (RA rs t p).getD n 0 < 20000) := by
  obtain ⟨r1, r2⟩ := rowC cx hp
  unfold Pg_saysAt
  rw [r1]
  by_cases c : (RA rs t p).length ≤ n
  · rw [if_pos (by omega)]
    exact Or.inr ⟨rfl, fun h9 => by omega⟩
  · rw [if_neg (by omega)]
    by_cases c2 : (RA rs t p).getD n 0 < 20000
    · rw [if_neg (fun h9 => h9 ((r2 n (by omega)).2.mpr c2))]
      exact Or.inl ⟨rfl, by omega, c2⟩
    · rw [if_pos (fun h9 => c2 ((r2 n (by omega)).2.mp h9))]
      exact Or.inr ⟨rfl, fun h9 => c2 h9.2⟩
theorem Bl.cg {x : Int} {P Q : Prop} (h : Bl x P) (e : P ↔ Q) : Bl x Q := by
  rcases h with ⟨a, b⟩ | ⟨a, b⟩
  · exact Or.inl ⟨a, e.mp b⟩
  · exact Or.inr ⟨a, fun h => b (e.mpr h)⟩
theorem Bl.nz {x : Int} {P : Prop} (h : Bl x P) : (¬ x = 0) ↔ P := by
  rcases h with ⟨a, b⟩ | ⟨a, b⟩
  · subst a; exact ⟨fun _ => b, fun _ => by decide⟩
  · subst a; exact ⟨fun h => absurd rfl h, fun h => absurd h b⟩
theorem brGt {L : List Hy} {rs : List (List Ac)} {t : Nat} {g : Gx} (cx : CxC L rs t g) {P Q : Nat → Prop} {m1 m2 : Nat} (h1 : Msk rs.length P m1) (h2 : Msk L.length Q m2) (n : Nat) : ∃ x, Pg_rowsGetAll (m1 : Int) (m2 : Int) (n : Int) (t : Int) g = some (x, g) ∧ Bl x (¬ ∃ h, h < L.length ∧ Q h ∧ (n < (lkk L t h).length ∧ 20000 ≤ (lkk L t h).getD n 0) ∧ ¬ ∃ p, p < rs.length ∧ P p ∧ n < (RA rs t p).length ∧ (RA rs t p).getD n 0 = (lkk L t h).getD n 0) := by
  have hz : Hi_size g = (L.length : Int) := cx.2.2.1
  have h30 := cx.1.2.1
  unfold Pg_rowsGetAll
  have lp : ∀ (d k fu' : Nat), k + d = L.length → d < fu' → (¬ ∃ h, h < k ∧ Q h ∧ (n < (lkk L t h).length ∧ 20000 ≤ (lkk L t h).getD n 0) ∧ ¬ ∃ p, p < rs.length ∧ P p ∧ n < (RA rs t p).length ∧ (RA rs t p).getD n 0 = (lkk L t h).getD n 0) → ∃ x, Pg_rowsGetAll_l3 (m1 : Int) (m2 : Int) (n : Int) (t : Int) (fun g2 => some (1, g2)) fu' (k : Int) g = some (x, g) ∧ Bl x (¬ ∃ h, h < L.length ∧ Q h ∧ (n < (lkk L t h).length ∧ 20000 ≤ (lkk L t h).getD n 0) ∧ ¬ ∃ p, p < rs.length ∧ P p ∧ n < (RA rs t p).length ∧ (RA rs t p).getD n 0 = (lkk L t h).getD n 0) := by
    intro d
    induction d with
    | zero =>
      intro k fu' hk hf hno
      obtain ⟨fu', rfl⟩ : ∃ q, fu' = q + 1 := ⟨fu' - 1, by omega⟩
      obtain rfl : k = L.length := by omega
      exact ⟨1, by rw [Pg_rowsGetAll_l3, hz, if_pos (by omega)], Or.inl ⟨rfl, hno⟩⟩
    | succ d ih =>
      intro k fu' hk hf hno
      obtain ⟨fu', rfl⟩ : ∃ q, fu' = q + 1 := ⟨fu' - 1, by omega⟩
      obtain ⟨r1, r2, r3⟩ := lookC cx (show k < L.length by omega)
      have m1b := h2.1
      have nx : (¬ (Q k ∧ (n < (lkk L t k).length ∧ 20000 ≤ (lkk L t k).getD n 0) ∧ ¬ ∃ p, p < rs.length ∧ P p ∧ n < (RA rs t p).length ∧ (RA rs t p).getD n 0 = (lkk L t k).getD n 0)) → ∃ x, Pg_rowsGetAll_l3 (m1 : Int) (m2 : Int) (n : Int) (t : Int) (fun g2 => some (1, g2)) fu' ((k + 1 : Nat) : Int) g = some (x, g) ∧ Bl x (¬ ∃ h, h < L.length ∧ Q h ∧ (n < (lkk L t h).length ∧ 20000 ≤ (lkk L t h).getD n 0) ∧ ¬ ∃ p, p < rs.length ∧ P p ∧ n < (RA rs t p).length ∧ (RA rs t p).getD n 0 = (lkk L t h).getD n 0) := fun hn => ih (k + 1) fu' (by omega) (by omega) (fun ⟨p, a, b⟩ => by
        by_cases e : p = k
        · rw [e] at b; exact hn b
        · exact hno ⟨p, by omega, b⟩)
      rw [Pg_rowsGetAll_l3, hz, if_neg (by omega), has_nn (by omega) (by omega), wr_id (by omega) (by omega), show (k : Int) + 1 = ((k + 1 : Nat) : Int) by omega]
      by_cases c1 : m2.testBit k = true
      · rw [if_pos c1, if_neg (show ¬ (1 : Int) = 0 by decide)]
        have qk := ((h2.2 k).mp c1).2
        obtain ⟨s1, -⟩ := r3 n
        by_cases c2 : Lk_gets (k : Int) (n : Int) g = 0
        · rw [if_pos c2]
          exact nx (fun h9 => (s1.nz.mpr h9.2.1) c2)
        · rw [if_neg c2]
          have gk := s1.nz.mp c2
          obtain ⟨x, x1, x2⟩ := doR cx h1 n (Lk_act (k : Int) (n : Int) g)
          rw [r2 n gk.1] at x1 x2
          rw [r2 n gk.1, x1, ob_eq]
          simp only
          by_cases c3 : x = 0
          · rw [if_neg (fun h9 => h9 c3)]
            exact ⟨0, rfl, Or.inr ⟨rfl, fun h9 => h9 ⟨k, by omega, qk, gk, fun h8 => (x2.nz.mpr h8) c3⟩⟩⟩
          · rw [if_pos c3]
            exact nx (fun h9 => h9.2.2 (x2.nz.mp c3))
      · rw [if_neg c1, if_pos rfl]
        exact nx (fun h9 => c1 ((h2.2 k).mpr ⟨by omega, h9.1⟩))
  exact lp L.length 0 fu (by omega) (Nat.lt_of_le_of_lt h30 (fu_big _ (by decide))) (fun ⟨p, a, _⟩ => by omega)
theorem brSy {L : List Hy} {rs : List (List Ac)} {t : Nat} {g : Gx} (cx : CxC L rs t g) {P Q : Nat → Prop} {m1 m2 : Nat} (h1 : Msk rs.length P m1) (h2 : Msk L.length Q m2) (n : Nat) : ∃ x, Pg_looksSayAll (m1 : Int) (m2 : Int) (n : Int) (t : Int) g = some (x, g) ∧ Bl x (¬ ∃ p, p < rs.length ∧ P p ∧ (n < (RA rs t p).length ∧ (RA rs t p).getD n 0 < 20000) ∧ ¬ ∃ h, h < L.length ∧ Q h ∧ n < (lkk L t h).length ∧ (lkk L t h).getD n 0 = (RA rs t p).getD n 0) := by
  have w1 := cx.2.2.2.1.1
  have l8 := cx.2.2.2.2.1.1
  unfold Pg_looksSayAll
  have lp : ∀ (d k fu' : Nat), k + d = rs.length → d < fu' → (¬ ∃ p, p < k ∧ P p ∧ (n < (RA rs t p).length ∧ (RA rs t p).getD n 0 < 20000) ∧ ¬ ∃ h, h < L.length ∧ Q h ∧ n < (lkk L t h).length ∧ (lkk L t h).getD n 0 = (RA rs t p).getD n 0) → ∃ x, Pg_looksSayAll_l3 (m1 : Int) (m2 : Int) (n : Int) (t : Int) (fun g2 => some (1, g2)) fu' (k : Int) g = some (x, g) ∧ Bl x (¬ ∃ p, p < rs.length ∧ P p ∧ (n < (RA rs t p).length ∧ (RA rs t p).getD n 0 < 20000) ∧ ¬ ∃ h, h < L.length ∧ Q h ∧ n < (lkk L t h).length ∧ (lkk L t h).getD n 0 = (RA rs t p).getD n 0) := by
    intro d
    induction d with
    | zero =>
      intro k fu' hk hf hno
      obtain ⟨fu', rfl⟩ : ∃ q, fu' = q + 1 := ⟨fu' - 1, by omega⟩
      obtain rfl : k = rs.length := by omega
      exact ⟨1, by rw [Pg_looksSayAll_l3, w1, if_pos (by omega)], Or.inl ⟨rfl, hno⟩⟩
    | succ d ih =>
      intro k fu' hk hf hno
      obtain ⟨fu', rfl⟩ : ∃ q, fu' = q + 1 := ⟨fu' - 1, by omega⟩
      obtain ⟨r1, r2⟩ := rowC cx (show k < rs.length by omega)
      have m1b := h1.1
      have nx : (¬ (P k ∧ (n < (RA rs t k).length ∧ (RA rs t k).getD n 0 < 20000) ∧ ¬ ∃ h, h < L.length ∧ Q h ∧ n < (lkk L t h).length ∧ (lkk L t h).getD n 0 = (RA rs t k).getD n 0)) → ∃ x, Pg_looksSayAll_l3 (m1 : Int) (m2 : Int) (n : Int) (t : Int) (fun g2 => some (1, g2)) fu' ((k + 1 : Nat) : Int) g = some (x, g) ∧ Bl x (¬ ∃ p, p < rs.length ∧ P p ∧ (n < (RA rs t p).length ∧ (RA rs t p).getD n 0 < 20000) ∧ ¬ ∃ h, h < L.length ∧ Q h ∧ n < (lkk L t h).length ∧ (lkk L t h).getD n 0 = (RA rs t p).getD n 0) := fun hn => ih (k + 1) fu' (by omega) (by omega) (fun ⟨p, a, b⟩ => by
        by_cases e : p = k
        · rw [e] at b; exact hn b
        · exact hno ⟨p, by omega, b⟩)
      rw [Pg_looksSayAll_l3, w1, if_neg (by omega), has_nn (by omega) (by omega), wr_id (by omega) (by omega), show (k : Int) + 1 = ((k + 1 : Nat) : Int) by omega]
      by_cases c1 : m1.testBit k = true
      · rw [if_pos c1, if_neg (show ¬ (1 : Int) = 0 by decide)]
        have qk := ((h1.2 k).mp c1).2
        have s1 := saysAtC cx (show k < rs.length by omega) n
        by_cases c2 : Pg_saysAt (k : Int) (n : Int) g = 0
        · rw [if_pos c2]
          exact nx (fun h9 => (s1.nz.mpr h9.2.1) c2)
        · rw [if_neg c2]
          have gk := s1.nz.mp c2
          obtain ⟨x, x1, x2⟩ := doL cx h2 n (Pg_act (k : Int) (n : Int) (t : Int) g)
          rw [(r2 n gk.1).1] at x1 x2
          rw [(r2 n gk.1).1, x1, ob_eq]
          simp only
          by_cases c3 : x = 0
          · rw [if_neg (fun h9 => h9 c3)]
            exact ⟨0, rfl, Or.inr ⟨rfl, fun h9 => h9 ⟨k, by omega, qk, gk, fun h8 => (x2.nz.mpr h8) c3⟩⟩⟩
          · rw [if_pos c3]
            exact nx (fun h9 => h9.2.2 (x2.nz.mp c3))
      · rw [if_neg c1, if_pos rfl]
        exact nx (fun h9 => c1 ((h1.2 k).mpr ⟨by omega, h9.1⟩))
  exact lp rs.length 0 fu (by omega) (Nat.lt_of_le_of_lt l8 (fu_big _ (by decide))) (fun ⟨p, a, _⟩ => by omega)
theorem brOn {L : List Hy} {rs : List (List Ac)} {t : Nat} {g : Gx} (cx : CxC L rs t g) {Q : Nat → Prop} {m2 : Nat} (h2 : Msk L.length Q m2) (n : Nat) : ∃ x, Pg_looksOnlySay (m2 : Int) (n : Int) g = some (x, g) ∧ Bl x (∀ h, h < L.length → Q h → (n < (lkk L t h).length ∧ (lkk L t h).getD n 0 < 20000)) := by
  have hz : Hi_size g = (L.length : Int) := cx.2.2.1
  have h30 := cx.1.2.1
  unfold Pg_looksOnlySay
  have lp : ∀ (d k fu' : Nat), k + d = L.length → d < fu' → (∀ h, h < k → Q h → (n < (lkk L t h).length ∧ (lkk L t h).getD n 0 < 20000)) → ∃ x, Pg_looksOnlySay_l2 (m2 : Int) (n : Int) (fun g1 => some (1, g1)) fu' (k : Int) g = some (x, g) ∧ Bl x (∀ h, h < L.length → Q h → (n < (lkk L t h).length ∧ (lkk L t h).getD n 0 < 20000)) := by
    intro d
    induction d with
    | zero =>
      intro k fu' hk hf hno
      obtain ⟨fu', rfl⟩ : ∃ q, fu' = q + 1 := ⟨fu' - 1, by omega⟩
      obtain rfl : k = L.length := by omega
      exact ⟨1, by rw [Pg_looksOnlySay_l2, hz, if_pos (by omega)], Or.inl ⟨rfl, hno⟩⟩
    | succ d ih =>
      intro k fu' hk hf hno
      obtain ⟨fu', rfl⟩ : ∃ q, fu' = q + 1 := ⟨fu' - 1, by omega⟩
      obtain ⟨r1, r2, r3⟩ := lookC cx (show k < L.length by omega)
      have m1b := h2.1
      have nx : (Q k → (n < (lkk L t k).length ∧ (lkk L t k).getD n 0 < 20000)) → ∃ x, Pg_looksOnlySay_l2 (m2 : Int) (n : Int) (fun g1 => some (1, g1)) fu' ((k + 1 : Nat) : Int) g = some (x, g) ∧ Bl x (∀ h, h < L.length → Q h → (n < (lkk L t h).length ∧ (lkk L t h).getD n 0 < 20000)) := fun hn => ih (k + 1) fu' (by omega) (by omega) (fun h hh hq => by
        by_cases e : h = k
        · rw [e] at hq ⊢; exact hn hq
        · exact hno h (by omega) hq)
      rw [Pg_looksOnlySay_l2, hz, if_neg (by omega), has_nn (by omega) (by omega), wr_id (by omega) (by omega), show (k : Int) + 1 = ((k + 1 : Nat) : Int) by omega]
      by_cases c1 : m2.testBit k = true
      · rw [if_pos c1, if_neg (show ¬ (1 : Int) = 0 by decide)]
        have qk := ((h2.2 k).mp c1).2
        obtain ⟨-, s2⟩ := r3 n
        by_cases c2 : Lk_says (k : Int) (n : Int) g = 0
        · rw [if_neg (fun h9 => h9 c2)]
          exact ⟨0, rfl, Or.inr ⟨rfl, fun h9 => (s2.nz.mpr (h9 k (by omega) qk)) c2⟩⟩
        · rw [if_pos c2]
          exact nx (fun _ => s2.nz.mp c2)
      · rw [if_neg c1, if_pos rfl]
        exact nx (fun h9 => absurd ((h2.2 k).mpr ⟨by omega, h9⟩) c1)
  exact lp L.length 0 fu (by omega) (Nat.lt_of_le_of_lt h30 (fu_big _ (by decide))) (fun h hh => by omega)
theorem brRs {L : List Hy} {rs : List (List Ac)} {t : Nat} {g : Gx} (cx : CxC L rs t g) {P : Nat → Prop} {m1 : Nat} (h1 : Msk rs.length P m1) (n : Nat) : ∃ x, Pg_rowsSay (m1 : Int) (n : Int) g = some (x, g) ∧ Bl x (∃ p, p < rs.length ∧ P p ∧ (n < (RA rs t p).length ∧ (RA rs t p).getD n 0 < 20000)) := by
  have w1 := cx.2.2.2.1.1
  have l8 := cx.2.2.2.2.1.1
  unfold Pg_rowsSay
  have lp : ∀ (d k fu' : Nat), k + d = rs.length → d < fu' → (¬ ∃ p, p < k ∧ P p ∧ (n < (RA rs t p).length ∧ (RA rs t p).getD n 0 < 20000)) → ∃ x, Pg_rowsSay_l2 (m1 : Int) (n : Int) (fun g1 => some (0, g1)) fu' (k : Int) g = some (x, g) ∧ Bl x (∃ p, p < rs.length ∧ P p ∧ (n < (RA rs t p).length ∧ (RA rs t p).getD n 0 < 20000)) := by
    intro d
    induction d with
    | zero =>
      intro k fu' hk hf hno
      obtain ⟨fu', rfl⟩ : ∃ q, fu' = q + 1 := ⟨fu' - 1, by omega⟩
      obtain rfl : k = rs.length := by omega
      exact ⟨0, by rw [Pg_rowsSay_l2, w1, if_pos (by omega)], Or.inr ⟨rfl, hno⟩⟩
    | succ d ih =>
      intro k fu' hk hf hno
      obtain ⟨fu', rfl⟩ : ∃ q, fu' = q + 1 := ⟨fu' - 1, by omega⟩
      obtain ⟨r1, r2⟩ := rowC cx (show k < rs.length by omega)
      have m1b := h1.1
      have nx : (¬ (P k ∧ (n < (RA rs t k).length ∧ (RA rs t k).getD n 0 < 20000))) → ∃ x, Pg_rowsSay_l2 (m1 : Int) (n : Int) (fun g1 => some (0, g1)) fu' ((k + 1 : Nat) : Int) g = some (x, g) ∧ Bl x (∃ p, p < rs.length ∧ P p ∧ (n < (RA rs t p).length ∧ (RA rs t p).getD n 0 < 20000)) := fun hn => ih (k + 1) fu' (by omega) (by omega) (fun ⟨p, a, b⟩ => by
        by_cases e : p = k
        · rw [e] at b; exact hn b
        · exact hno ⟨p, by omega, b⟩)
      rw [Pg_rowsSay_l2, w1, if_neg (by omega), has_nn (by omega) (by omega), wr_id (by omega) (by omega), show (k : Int) + 1 = ((k + 1 : Nat) : Int) by omega]
      by_cases c1 : m1.testBit k = true
      · rw [if_pos c1, if_neg (show ¬ (1 : Int) = 0 by decide)]
        have qk := ((h1.2 k).mp c1).2
        have s1 := saysAtC cx (show k < rs.length by omega) n
        by_cases c2 : Pg_saysAt (k : Int) (n : Int) g = 0
        · rw [if_pos c2]
          exact nx (fun h9 => (s1.nz.mpr h9.2) c2)
        · rw [if_neg c2]
          exact ⟨1, rfl, Or.inl ⟨rfl, k, by omega, qk, s1.nz.mp c2⟩⟩
      · rw [if_neg c1, if_pos rfl]
        exact nx (fun h9 => c1 ((h1.2 k).mpr ⟨by omega, h9.1⟩))
  exact lp rs.length 0 fu (by omega) (Nat.lt_of_le_of_lt l8 (fu_big _ (by decide))) (fun ⟨p, a, _⟩ => by omega)
theorem brC {L : List Hy} {rs : List (List Ac)} {t : Nat} {g : Gx} (cx : CxC L rs t g) {r n : Nat} (hr : r < rs.length) (hn : n ≤ (RA rs t r).length) : ∃ x, Pg_isBreach (r : Int) (n : Int) (t : Int) g = some (x, g) ∧ Bl x (Brc L rs t r n) := by
  have h30 := cx.1.2.1
  have l8 := cx.2.2.2.2.1.1
  unfold Pg_isBreach
  obtain ⟨m1, a1, a2⟩ := mskRw cx hr hn
  obtain ⟨m2, b1, b2⟩ := mskLk cx hr hn
  rw [a1, ob_eq]
  simp only
  rw [b1, ob_eq]
  simp only
  unfold Brc
  have ex : (∃ h, h < L.length ∧ alk n (lkk L t h) (RA rs t r)) ↔ ¬ m2 = 0 := by
    constructor
    · rintro ⟨h, x, y⟩ rfl
      have := (b2.2 h).mpr ⟨x, y⟩
      rw [Nat.zero_testBit] at this
      exact absurd this (by decide)
    · intro h0
      obtain ⟨y, hy⟩ := Nat.exists_testBit_of_ne_zero h0
      exact ⟨y, (b2.2 y).mp hy⟩
  by_cases c0 : m2 = 0
  · rw [if_neg (fun h9 => h9 (by omega))]
    exact ⟨0, rfl, Or.inr ⟨rfl, fun h9 => (ex.mp h9.1) c0⟩⟩
  · rw [if_pos (by omega)]
    have e1 := ex.mpr c0
    obtain ⟨x, x1, x2⟩ := brGt cx a2 b2 n
    rw [x1, ob_eq]
    simp only
    by_cases d1 : x = 0
    · rw [if_pos d1]
      exact ⟨1, rfl, Or.inl ⟨rfl, e1, Or.inl (Classical.byContradiction fun h9 => (x2.nz.mpr h9) d1)⟩⟩
    · rw [if_neg d1]
      have q1 := x2.nz.mp d1
      obtain ⟨y, y1, y2⟩ := brSy cx a2 b2 n
      rw [y1, ob_eq]
      simp only
      by_cases d2 : y = 0
      · rw [if_pos d2]
        exact ⟨1, rfl, Or.inl ⟨rfl, e1, Or.inr (Or.inl (Classical.byContradiction fun h9 => (y2.nz.mpr h9) d2))⟩⟩
      · rw [if_neg d2]
        have q2 := y2.nz.mp d2
        obtain ⟨z, z1, z2⟩ := brOn cx b2 n
        rw [z1, ob_eq]
        simp only
        by_cases d3 : z = 0
        · rw [if_pos d3]
          refine ⟨0, rfl, Or.inr ⟨rfl, fun h9 => ?_⟩⟩
          rcases h9.2 with h8 | h8 | h8
          · exact q1 h8
          · exact q2 h8
          · exact (z2.nz.mpr h8.2.1) d3
        · rw [if_neg d3]
          have q3 := z2.nz.mp d3
          obtain ⟨w, v1, v2⟩ := brRs cx a2 n
          rw [v1, ob_eq]
          simp only
          by_cases d4 : w = 0
          · rw [if_neg (fun h9 => h9 d4)]
            obtain ⟨h, u1, u2⟩ := e1
            exact ⟨1, rfl, Or.inl ⟨rfl, ⟨h, u1, u2⟩, Or.inr (Or.inr ⟨⟨h, u1, u2, q3 h u1 u2⟩, q3, fun h9 => (v2.nz.mpr h9) d4⟩)⟩⟩
          · rw [if_pos d4]
            refine ⟨0, rfl, Or.inr ⟨rfl, fun h9 => ?_⟩⟩
            rcases h9.2 with h8 | h8 | h8
            · exact q1 h8
            · exact q2 h8
            · exact h8.2.2 (v2.nz.mp d4)
/-- what may be answered -/
def ExB (L : List Hy) (rs : List (List Ac)) (t n : Nat) : Prop := ∃ r, r < rs.length ∧ n ≤ (RA rs t r).length ∧ Brc L rs t r n
def FB (L : List Hy) (rs : List (List Ac)) (t : Nat) (v : Int) : Prop := (v = -1 ∧ ∀ n, n < 25 → ¬ ExB L rs t n) ∨ ∃ n : Nat, n < 25 ∧ v = (n : Int) ∧ ExB L rs t n ∧ ∀ k, k < n → ¬ ExB L rs t k
theorem FB.one {L : List Hy} {rs : List (List Ac)} {t : Nat} {v w : Int} (h : FB L rs t v) (h' : FB L rs t w) : v = w := by
  rcases h with ⟨a, b⟩ | ⟨n, a, b, c, d⟩ <;> rcases h' with ⟨a', b'⟩ | ⟨n', a', b', c', d'⟩
  · rw [a, a']
  · exact absurd c' (b n' a')
  · exact absurd c (b' n a)
  · rcases Nat.lt_trichotomy n n' with h | h | h
    · exact absurd c (d' n h)
    · rw [b, b', h]
    · exact absurd c' (d n' h)
theorem fbC {L : List Hy} {rs : List (List Ac)} {t : Nat} {g : Gx} (hL : OkL L) (h : HsC L L.length g) (hr : RwC rs g) (ok : OkP rs) (ht : t < 6) : ∃ v g', Pg_firstBreach (t : Int) g = some (v, g') ∧ FB L rs t v := by
  have l8 := ok.1
  obtain ⟨g', e1, e2⟩ := load_ok hL h.wd ht
  have fr := fr_Lk_load _ _ _ e1
  have hr' : RwC rs g' := by
    unfold RwC
    rw [fr.fld (q := 69) (j := 7) (by decide) (by decide), fr.cell (q := 71) (by decide) (by decide), fr.cell (q := 73) (by decide) (by decide), fr.cell (q := 75) (by decide) (by decide), fr.cell (q := 77) (by decide) (by decide)]
    exact hr
  have cx : CxC L rs t g' := ⟨hL, e2, by rw [fr.fld (by decide) (by decide)]; exact h.1, hr', ok, ht⟩
  have w1 := hr'.1
  unfold Pg_firstBreach
  rw [e1, ob_eq]
  have in1 : ∀ (n : Nat) (K : Gx → Option (Int × Gx)) (d k fu' : Nat), k + d = rs.length → d < fu' → (¬ ∃ r, r < k ∧ n ≤ (RA rs t r).length ∧ Brc L rs t r n) → (ExB L rs t n ∧ Pg_firstBreach_l18 (t : Int) (n : Int) K fu' (k : Int) g' = some ((n : Int), g')) ∨ (¬ ExB L rs t n ∧ Pg_firstBreach_l18 (t : Int) (n : Int) K fu' (k : Int) g' = K g') := by
    intro n K d
    induction d with
    | zero =>
      intro k fu' hk hf hno
      obtain ⟨fu', rfl⟩ : ∃ q, fu' = q + 1 := ⟨fu' - 1, by omega⟩
      obtain rfl : k = rs.length := by omega
      exact Or.inr ⟨hno, by rw [Pg_firstBreach_l18, w1, if_pos (by omega)]⟩
    | succ d ih =>
      intro k fu' hk hf hno
      obtain ⟨fu', rfl⟩ : ∃ q, fu' = q + 1 := ⟨fu' - 1, by omega⟩
      obtain ⟨r1, r2⟩ := rowC cx (show k < rs.length by omega)
      have nx : ¬ (n ≤ (RA rs t k).length ∧ Brc L rs t k n) → (ExB L rs t n ∧ Pg_firstBreach_l18 (t : Int) (n : Int) K fu' ((k + 1 : Nat) : Int) g' = some ((n : Int), g')) ∨ (¬ ExB L rs t n ∧ Pg_firstBreach_l18 (t : Int) (n : Int) K fu' ((k + 1 : Nat) : Int) g' = K g') := fun hn => ih (k + 1) fu' (by omega) (by omega) (fun ⟨r, a, b⟩ => by
        by_cases e : r = k
        · rw [e] at b; exact hn b
        · exact hno ⟨r, by omega, b⟩)
      rw [Pg_firstBreach_l18, w1, if_neg (by omega), r1, wr_id (by omega) (by omega), show (k : Int) + 1 = ((k + 1 : Nat) : Int) by omega]
      by_cases c : (RA rs t k).length < n
      · rw [if_pos (by omega)]
        exact nx (fun h9 => by omega)
      · rw [if_neg (by omega)]
        obtain ⟨x, x1, x2⟩ := brC cx (show k < rs.length by omega) (n := n) (by omega)
        rw [x1, ob_eq]
        simp only
        by_cases c2 : x = 0
        · rw [if_pos c2]
          exact nx (fun h9 => (x2.nz.mpr h9.2) c2)
        · rw [if_neg c2]
          exact Or.inl ⟨⟨k, by omega, by omega, x2.nz.mp c2⟩, rfl⟩
  have lp : ∀ (d n fu' : Nat), n + d = 25 → d < fu' → (∀ k, k < n → ¬ ExB L rs t k) → ∃ v g'', Pg_firstBreach_l10 (t : Int) (fun g4 => some ((-1), g4)) fu' (n : Int) g' = some (v, g'') ∧ FB L rs t v := by
    intro d
    induction d with
    | zero =>
      intro n fu' hn hf hno
      obtain ⟨fu', rfl⟩ : ∃ q, fu' = q + 1 := ⟨fu' - 1, by omega⟩
      obtain rfl : n = 25 := by omega
      exact ⟨-1, g', by rw [Pg_firstBreach_l10, if_pos (by decide)], Or.inl ⟨rfl, hno⟩⟩
    | succ d ih =>
      intro n fu' hn hf hno
      obtain ⟨fu', rfl⟩ : ∃ q, fu' = q + 1 := ⟨fu' - 1, by omega⟩
      rw [Pg_firstBreach_l10, if_neg (by omega), wr_id (by omega) (by omega), show (n : Int) + 1 = ((n + 1 : Nat) : Int) by omega]
      rcases in1 n (fun g3 => Pg_firstBreach_l10 (t : Int) (fun g4 => some ((-1), g4)) fu' ((n + 1 : Nat) : Int) g3) rs.length 0 fu (by omega) (Nat.lt_of_le_of_lt l8 (fu_big _ (by decide))) (fun ⟨r, a, _⟩ => by omega) with ⟨a, b⟩ | ⟨a, b⟩
      · rw [show ((0 : Nat) : Int) = 0 from rfl] at b
        exact ⟨_, _, b, Or.inr ⟨n, by omega, rfl, a, hno⟩⟩
      · rw [show ((0 : Nat) : Int) = 0 from rfl] at b
        rw [b]
        exact ih (n + 1) fu' (by omega) (by omega) (fun k hk => by
          by_cases e : k = n
          · rw [e]; exact a
          · exact hno k (by omega))
  exact lp 25 0 fu (by omega) (fu_big _ (by decide)) (fun k hk => by omega)
