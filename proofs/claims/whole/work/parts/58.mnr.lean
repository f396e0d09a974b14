/-! mended: the reference. Own text. -/
def Bst (t : List Int) (M lim : Nat) (v : Int) : Prop := (v = -1 ∧ ∀ b, sbm b M → b < lim → ¬ okB t b) ∨ ∃ b : Nat, sbm b M ∧ b < lim ∧ okB t b ∧ v = (b : Int) ∧ ∀ b', sbm b' M → b' < lim → okB t b' → pc30 b < pc30 b' ∨ (pc30 b = pc30 b' ∧ b ≤ b')
theorem trial_ok {t : List Int} {g0 G : Gx} {z : Nat} (hD : okD (pD t)) (hC : ∀ b : Nat, b < 1073741824 → ¬ TM (pD t (b : Int)) → ∃ gc, HsC (pD t (b : Int)) (pD t (b : Int)).length gc) (hz : g0 92 9 = (z : Int)) (hz2 : z ≤ 160) (hE : ∀ G, AGr g0 G → EncR G 4 0 z (pD t)) (ag : AGr g0 G) {s : Nat} (hs : s < 1073741824) : ∃ r G1, Md_unfolds (s : Int) G = some (r, G1) ∧ AGr g0 G1 ∧ ((r ≠ 0 ∧ ¬ okB t s) ∨ (r = 0 ∧ ∃ r2 G2, Md_isSound G1 = some (r2, G2) ∧ AGr g0 G2 ∧ ((r2 = 0 ∧ ¬ okB t s) ∨ (r2 = 1 ∧ okB t s)))) := by
  rcases unfolds_ok (g := G) (u := (s : Int)) (by omega) (show G 92 9 = (z : Int) by rw [ag.1]; exact hz) hz2 (hE G ag) (hD (s : Int)).1 with ⟨t1, g1, t2⟩ | ⟨t1, g1, t2, t3, t4⟩
  · have f := fr_Md_unfolds _ _ _ _ t2
    exact ⟨-4, g1, t2, ag.fr f (by decide), Or.inl ⟨by decide, fun h9 => h9.1 t1⟩⟩
  · have f := fr_Md_unfolds _ _ _ _ t2
    have ag1 := ag.fr f (by decide)
    refine ⟨0, g1, t2, ag1, Or.inr ⟨rfl, ?_⟩⟩
    obtain ⟨gc, hgc⟩ := hC s hs t1
    rcases sndR_ok (okL_of hD t1) (hD (s : Int)).1 t4 hgc with ⟨s1, g3, s2⟩ | ⟨p, q, r, s1, g3, s2, -⟩
    · exact ⟨1, g3, s2, ag1.fr (fr_Md_isSound _ _ _ s2) (by decide), Or.inr ⟨rfl, t1, s1⟩⟩
    · exact ⟨0, g3, s2, ag1.fr (fr_Md_isSound _ _ _ s2) (by decide), Or.inl ⟨rfl, fun h9 => h9.2 p q r s1.1 s1.2.1 s1.2.2.1 s1.2.2.2.1⟩⟩
