/-! The law: its loop. Printed by wip/gen/gen_law2.py. -/
def Scp (N : Nat) (g : Gx) : Prop := g 1001 0 = (N : Int) ∧ ∀ j, okI (g 1000 j)
theorem Scp.fr {N : Nat} {g g' : Gx} {W : List Nat} (h : Scp N g) (f : FR W g g') (w : 1000 ∉ W ∧ 1001 ∉ W) : Scp N g' ∧ g' 1000 = g 1000 ∧ g' 1001 = g 1001 := by
  have a := f.cell (q := 1000) w.1 (by decide)
  have b := f.cell (q := 1001) w.2 (by decide)
  refine ⟨?_, a, b⟩
  unfold Scp
  rw [a, b]
  exact h
/-- one call, done by both, with one answer -/
theorem lw_one {K : Gx → Option (Int × Gx)} {n i N T : Nat} {t pt : List Int} {u : Int} {g : Gx} (hN : N ≤ 3072) (hi : 6 * i + 5 < N) (hT : T < 70000) (h : Inv T t pt u g) (hs : Scp N g) : ∃ t' pt' u' g2, Law_law_l18 K (n + 1) ((6 * i : Nat) : Int) g = Law_law_l18 K n ((6 * (i + 1) : Nat) : Int) g2 ∧ Inv (T + 10) t' pt' u' g2 ∧ Scp N g2 := by
  have hg := hs.1
  by_cases c0 : jand (g 1000 (6 * i)) 63 < 0 ∨ 32 < jand (g 1000 (6 * i)) 63
  · refine ⟨t, pt, u, g, ?_, h.more (by omega), hs⟩
    have w6 : wr (((6 * i : Nat) : Int) + 6) = ((6 * (i + 1) : Nat) : Int) := by rw [wr_id (by omega) (by omega)]; omega
    rw [Law_law_l18, hg, wr_id (x := (N : Int) - 6) (by omega) (by omega), if_neg (show ¬ (N : Int) - 6 < ((6 * i : Nat) : Int) by omega), if_pos (show (1000 : Nat) = 1000 ∧ 0 ≤ ((6 * i : Nat) : Int) ∧ ((6 * i : Nat) : Int) < (N : Int) from ⟨rfl, by omega, by omega⟩), Int.toNat_natCast, if_pos c0, w6]
  rcases (show jand (g 1000 (6 * i)) 63 = 0 ∨ jand (g 1000 (6 * i)) 63 = 1 ∨ jand (g 1000 (6 * i)) 63 = 2 ∨ jand (g 1000 (6 * i)) 63 = 3 ∨ jand (g 1000 (6 * i)) 63 = 4 ∨ jand (g 1000 (6 * i)) 63 = 5 ∨ jand (g 1000 (6 * i)) 63 = 6 ∨ jand (g 1000 (6 * i)) 63 = 7 ∨ jand (g 1000 (6 * i)) 63 = 8 ∨ jand (g 1000 (6 * i)) 63 = 9 ∨ jand (g 1000 (6 * i)) 63 = 10 ∨ jand (g 1000 (6 * i)) 63 = 11 ∨ jand (g 1000 (6 * i)) 63 = 12 ∨ jand (g 1000 (6 * i)) 63 = 13 ∨ jand (g 1000 (6 * i)) 63 = 14 ∨ jand (g 1000 (6 * i)) 63 = 15 ∨ jand (g 1000 (6 * i)) 63 = 16 ∨ jand (g 1000 (6 * i)) 63 = 17 ∨ jand (g 1000 (6 * i)) 63 = 18 ∨ jand (g 1000 (6 * i)) 63 = 19 ∨ jand (g 1000 (6 * i)) 63 = 20 ∨ jand (g 1000 (6 * i)) 63 = 21 ∨ jand (g 1000 (6 * i)) 63 = 22 ∨ jand (g 1000 (6 * i)) 63 = 23 ∨ jand (g 1000 (6 * i)) 63 = 24 ∨ jand (g 1000 (6 * i)) 63 = 25 ∨ jand (g 1000 (6 * i)) 63 = 26 ∨ jand (g 1000 (6 * i)) 63 = 27 ∨ jand (g 1000 (6 * i)) 63 = 28 ∨ jand (g 1000 (6 * i)) 63 = 29 ∨ jand (g 1000 (6 * i)) 63 = 30 ∨ jand (g 1000 (6 * i)) 63 = 31 ∨ jand (g 1000 (6 * i)) 63 = 32 by omega) with hc | hc | hc | hc | hc | hc | hc | hc | hc | hc | hc | hc | hc | hc | hc | hc | hc | hc | hc | hc | hc | hc | hc | hc | hc | hc | hc | hc | hc | hc | hc | hc | hc
  · obtain ⟨r, g1, g2, t', pt', u', e1, e2, iv⟩ := iv_type h (by omega) (g 1000 (6 * i + 1)) (g 1000 (6 * i + 2))
    obtain ⟨s1, s2, s3⟩ := hs.fr (fr_Op_type _ _ _ _ _ e1) (by decide)
    obtain ⟨s4, -, -⟩ := s1.fr (fr_Md_type _ _ _ _ _ e2) (by decide)
    exact ⟨_, _, _, g2, lw_type hN hg hi hc e1 s2 s3 e2, iv.more (by omega), s4⟩
  · obtain ⟨r, g1, g2, t', pt', u', e1, e2, iv⟩ := iv_wipe h (by omega) (g 1000 (6 * i + 1))
    obtain ⟨s1, s2, s3⟩ := hs.fr (fr_Op_wipe _ _ _ _ e1) (by decide)
    obtain ⟨s4, -, -⟩ := s1.fr (fr_Md_wipe _ _ _ _ e2) (by decide)
    exact ⟨_, _, _, g2, lw_wipe hN hg hi hc e1 s2 s3 e2, iv.more (by omega), s4⟩
  · obtain ⟨r, g1, g2, e1, e2, iv⟩ := st_fault h (by omega) (g 1000 (6 * i + 1))
    obtain ⟨s1, s2, s3⟩ := hs.fr (fr_Op_fault _ _ _ _ e1) (by decide)
    obtain ⟨s4, -, -⟩ := s1.fr (fr_Md_fault _ _ _ _ e2) (by decide)
    exact ⟨_, _, _, g2, lw_fault hN hg hi hc e1 s2 s3 e2, iv.more (by omega), s4⟩
  · obtain ⟨r, g1, g2, e1, e2, iv⟩ := st_plan h (by omega) (g 1000 (6 * i + 1))
    obtain ⟨s1, s2, s3⟩ := hs.fr (fr_Op_plan _ _ _ _ e1) (by decide)
    obtain ⟨s4, -, -⟩ := s1.fr (fr_Md_plan _ _ _ _ e2) (by decide)
    exact ⟨_, _, _, g2, lw_plan hN hg hi hc e1 s2 s3 e2, iv.more (by omega), s4⟩
  · obtain ⟨r, g1, g2, u', e1, e2, iv⟩ := iv_tell h (g 1000 (6 * i + 1))
    obtain ⟨s1, s2, s3⟩ := hs.fr (fr_Op_tell _ _ _ _ e1) (by decide)
    obtain ⟨s4, -, -⟩ := s1.fr (fr_Md_tell _ _ _ _ e2) (by decide)
    exact ⟨_, _, _, g2, lw_tell hN hg hi hc e1 s2 s3 e2, iv.more (by omega), s4⟩
  · obtain ⟨r, g1, g2, e1, e2, iv⟩ := st_histories h (by omega)
    obtain ⟨s1, s2, s3⟩ := hs.fr (fr_Op_histories _ _ _ e1) (by decide)
    obtain ⟨s4, -, -⟩ := s1.fr (fr_Md_histories _ _ _ e2) (by decide)
    exact ⟨_, _, _, g2, lw_histories hN hg hi hc e1 s2 s3 e2, iv.more (by omega), s4⟩
  · obtain ⟨r, g1, g2, e1, e2, iv⟩ := st_said h (by omega) (g 1000 (6 * i + 1)) (g 1000 (6 * i + 2))
    obtain ⟨s1, s2, s3⟩ := hs.fr (fr_Op_said _ _ _ _ _ e1) (by decide)
    obtain ⟨s4, -, -⟩ := s1.fr (fr_Md_said _ _ _ _ _ e2) (by decide)
    exact ⟨_, _, _, g2, lw_said hN hg hi hc e1 s2 s3 e2, iv.more (by omega), s4⟩
  · obtain ⟨r, g1, g2, e1, e2, iv⟩ := st_look h (by omega) (g 1000 (6 * i + 1)) (g 1000 (6 * i + 2)) (g 1000 (6 * i + 3))
    obtain ⟨s1, s2, s3⟩ := hs.fr (fr_Op_look _ _ _ _ _ _ e1) (by decide)
    obtain ⟨s4, -, -⟩ := s1.fr (fr_Md_look _ _ _ _ _ _ e2) (by decide)
    exact ⟨_, _, _, g2, lw_look hN hg hi hc e1 s2 s3 e2, iv.more (by omega), s4⟩
  · obtain ⟨r, g1, g2, e1, e2, iv⟩ := st_looks h (by omega) (g 1000 (6 * i + 1))
    obtain ⟨s1, s2, s3⟩ := hs.fr (fr_Op_looks _ _ _ _ e1) (by decide)
    obtain ⟨s4, -, -⟩ := s1.fr (fr_Md_looks _ _ _ _ e2) (by decide)
    exact ⟨_, _, _, g2, lw_looks hN hg hi hc e1 s2 s3 e2, iv.more (by omega), s4⟩
  · obtain ⟨r, g1, g2, e1, e2, iv⟩ := st_parts h (by omega) (g 1000 (6 * i + 1)) (g 1000 (6 * i + 2))
    obtain ⟨s1, s2, s3⟩ := hs.fr (fr_Op_parts _ _ _ _ _ e1) (by decide)
    obtain ⟨s4, -, -⟩ := s1.fr (fr_Md_parts _ _ _ _ _ e2) (by decide)
    exact ⟨_, _, _, g2, lw_parts hN hg hi hc e1 s2 s3 e2, iv.more (by omega), s4⟩
  · obtain ⟨r, g1, g2, e1, e2, iv⟩ := st_sound h (by omega)
    obtain ⟨s1, s2, s3⟩ := hs.fr (fr_Op_sound _ _ _ e1) (by decide)
    obtain ⟨s4, -, -⟩ := s1.fr (fr_Md_sound _ _ _ e2) (by decide)
    exact ⟨_, _, _, g2, lw_sound hN hg hi hc e1 s2 s3 e2, iv.more (by omega), s4⟩
  · obtain ⟨r, g1, g2, e1, e2, iv⟩ := st_moment h (by omega) (g 1000 (6 * i + 1))
    obtain ⟨s1, s2, s3⟩ := hs.fr (fr_Op_moment _ _ _ _ e1) (by decide)
    obtain ⟨s4, -, -⟩ := s1.fr (fr_Md_moment _ _ _ _ e2) (by decide)
    exact ⟨_, _, _, g2, lw_moment hN hg hi hc e1 s2 s3 e2, iv.more (by omega), s4⟩
  · obtain ⟨r, g1, g2, e1, e2, iv⟩ := st_mended h (by omega)
    obtain ⟨s1, s2, s3⟩ := hs.fr (fr_Op_mended _ _ _ e1) (by decide)
    obtain ⟨s4, -, -⟩ := s1.fr (fr_Md_mended _ _ _ e2) (by decide)
    exact ⟨_, _, _, g2, lw_mended hN hg hi hc e1 s2 s3 e2, iv.more (by omega), s4⟩
  · obtain ⟨r, g1, g2, e1, e2, iv⟩ := st_run h (by omega) (g 1000 (6 * i + 1)) (g 1000 (6 * i + 2)) (g 1000 (6 * i + 3))
    obtain ⟨s1, s2, s3⟩ := hs.fr (fr_Op_run _ _ _ _ _ _ e1) (by decide)
    obtain ⟨s4, -, -⟩ := s1.fr (fr_Md_run _ _ _ _ _ _ e2) (by decide)
    exact ⟨_, _, _, g2, lw_run hN hg hi hc e1 s2 s3 e2, iv.more (by omega), s4⟩
  · obtain ⟨r, g1, g2, e1, e2, iv⟩ := st_step h (by omega) (g 1000 (6 * i + 1)) (g 1000 (6 * i + 2)) (g 1000 (6 * i + 3))
    obtain ⟨s1, s2, s3⟩ := hs.fr (fr_Op_step _ _ _ _ _ _ e1) (by decide)
    obtain ⟨s4, -, -⟩ := s1.fr (fr_Md_step _ _ _ _ _ _ e2) (by decide)
    exact ⟨_, _, _, g2, lw_step hN hg hi hc e1 s2 s3 e2, iv.more (by omega), s4⟩
  · obtain ⟨r, g1, g2, e1, e2, iv⟩ := st_longest h (by omega) (g 1000 (6 * i + 1)) (g 1000 (6 * i + 2)) (g 1000 (6 * i + 3))
    obtain ⟨s1, s2, s3⟩ := hs.fr (fr_Op_longest _ _ _ _ _ _ e1) (by decide)
    obtain ⟨s4, -, -⟩ := s1.fr (fr_Md_longest _ _ _ _ _ _ e2) (by decide)
    exact ⟨_, _, _, g2, lw_longest hN hg hi hc e1 s2 s3 e2, iv.more (by omega), s4⟩
  · obtain ⟨r, g1, g2, e1, e2, iv⟩ := st_trips h (by omega) (g 1000 (6 * i + 1)) (g 1000 (6 * i + 2))
    obtain ⟨s1, s2, s3⟩ := hs.fr (fr_Op_trips _ _ _ _ _ e1) (by decide)
    obtain ⟨s4, -, -⟩ := s1.fr (fr_Md_trips _ _ _ _ _ e2) (by decide)
    exact ⟨_, _, _, g2, lw_trips hN hg hi hc e1 s2 s3 e2, iv.more (by omega), s4⟩
  · obtain ⟨r, g1, g2, e1, e2, iv⟩ := st_lost h (by omega) (g 1000 (6 * i + 1)) (g 1000 (6 * i + 2)) (g 1000 (6 * i + 3)) (g 1000 (6 * i + 4)) (hs.2 _)
    obtain ⟨s1, s2, s3⟩ := hs.fr (fr_Op_lost _ _ _ _ _ _ _ e1) (by decide)
    obtain ⟨s4, -, -⟩ := s1.fr (fr_Md_lost _ _ _ _ _ _ _ e2) (by decide)
    exact ⟨_, _, _, g2, lw_lost hN hg hi hc e1 s2 s3 e2, iv.more (by omega), s4⟩
  · obtain ⟨r, g1, g2, e1, e2, iv⟩ := st_fits h (by omega) (g 1000 (6 * i + 1))
    obtain ⟨s1, s2, s3⟩ := hs.fr (fr_Op_fits _ _ _ _ e1) (by decide)
    obtain ⟨s4, -, -⟩ := s1.fr (fr_Md_fits _ _ _ _ e2) (by decide)
    exact ⟨_, _, _, g2, lw_fits hN hg hi hc e1 s2 s3 e2, iv.more (by omega), s4⟩
  · obtain ⟨r, g1, g2, e1, e2, iv⟩ := st_breach h (by omega) (g 1000 (6 * i + 1))
    obtain ⟨s1, s2, s3⟩ := hs.fr (fr_Op_breach _ _ _ _ e1) (by decide)
    obtain ⟨s4, -, -⟩ := s1.fr (fr_Md_breach _ _ _ _ e2) (by decide)
    exact ⟨_, _, _, g2, lw_breach hN hg hi hc e1 s2 s3 e2, iv.more (by omega), s4⟩
  · obtain ⟨r, g1, g2, e1, e2, iv⟩ := iv_log h (g 1000 (6 * i + 1))
    obtain ⟨s1, s2, s3⟩ := hs.fr (fr_Op_log _ _ _ _ e1) (by decide)
    obtain ⟨s4, -, -⟩ := s1.fr (fr_Md_log _ _ _ _ e2) (by decide)
    exact ⟨_, _, _, g2, lw_log hN hg hi hc e1 s2 s3 e2, iv.more (by omega), s4⟩
  · obtain ⟨r, g1, g2, e1, e2, iv⟩ := iv_clear h
    obtain ⟨s1, s2, s3⟩ := hs.fr (fr_Op_clear _ _ _ e1) (by decide)
    obtain ⟨s4, -, -⟩ := s1.fr (fr_Md_clear _ _ _ e2) (by decide)
    exact ⟨_, _, _, g2, lw_clear hN hg hi hc e1 s2 s3 e2, iv.more (by omega), s4⟩
  · obtain ⟨r, g1, g2, e1, e2, iv⟩ := st_left h (by omega) (g 1000 (6 * i + 1))
    obtain ⟨s1, s2, s3⟩ := hs.fr (fr_Op_left _ _ _ _ e1) (by decide)
    obtain ⟨s4, -, -⟩ := s1.fr (fr_Md_left _ _ _ _ e2) (by decide)
    exact ⟨_, _, _, g2, lw_left hN hg hi hc e1 s2 s3 e2, iv.more (by omega), s4⟩
  · obtain ⟨r, g1, g2, e1, e2, iv⟩ := st_out h (by omega) (g 1000 (6 * i + 1))
    obtain ⟨s1, s2, s3⟩ := hs.fr (fr_Op_out _ _ _ _ e1) (by decide)
    obtain ⟨s4, -, -⟩ := s1.fr (fr_Md_out _ _ _ _ e2) (by decide)
    exact ⟨_, _, _, g2, lw_out hN hg hi hc e1 s2 s3 e2, iv.more (by omega), s4⟩
  · obtain ⟨r, g1, g2, e1, e2, iv⟩ := st_ask h (by omega)
    obtain ⟨s1, s2, s3⟩ := hs.fr (fr_Op_ask _ _ _ e1) (by decide)
    obtain ⟨s4, -, -⟩ := s1.fr (fr_Md_ask _ _ _ e2) (by decide)
    exact ⟨_, _, _, g2, lw_ask hN hg hi hc e1 s2 s3 e2, iv.more (by omega), s4⟩
  · obtain ⟨r, g1, g2, e1, e2, iv⟩ := iv_sheet h (g 1000 (6 * i + 1)) (g 1000 (6 * i + 2)) (g 1000 (6 * i + 3))
    obtain ⟨s1, s2, s3⟩ := hs.fr (fr_Op_sheet _ _ _ _ _ _ e1) (by decide)
    obtain ⟨s4, -, -⟩ := s1.fr (fr_Md_sheet _ _ _ _ _ _ e2) (by decide)
    exact ⟨_, _, _, g2, lw_sheet hN hg hi hc e1 s2 s3 e2, iv.more (by omega), s4⟩
  · obtain ⟨r, g1, g2, e1, e2, iv⟩ := iv_lose h (g 1000 (6 * i + 1))
    obtain ⟨s1, s2, s3⟩ := hs.fr (fr_Op_lose _ _ _ _ e1) (by decide)
    obtain ⟨s4, -, -⟩ := s1.fr (fr_Md_lose _ _ _ _ e2) (by decide)
    exact ⟨_, _, _, g2, lw_lose hN hg hi hc e1 s2 s3 e2, iv.more (by omega), s4⟩
  · obtain ⟨r, g1, g2, e1, e2, iv⟩ := iv_put h (g 1000 (6 * i + 1)) (g 1000 (6 * i + 2)) (g 1000 (6 * i + 3)) (g 1000 (6 * i + 4))
    obtain ⟨s1, s2, s3⟩ := hs.fr (fr_Op_put _ _ _ _ _ _ _ e1) (by decide)
    obtain ⟨s4, -, -⟩ := s1.fr (fr_Md_put _ _ _ _ _ _ _ e2) (by decide)
    exact ⟨_, _, _, g2, lw_put hN hg hi hc e1 s2 s3 e2, iv.more (by omega), s4⟩
  · obtain ⟨r, g1, g2, e1, e2, iv⟩ := iv_get h (g 1000 (6 * i + 1)) (g 1000 (6 * i + 2)) (g 1000 (6 * i + 3))
    obtain ⟨s1, s2, s3⟩ := hs.fr (fr_Op_get _ _ _ _ _ _ e1) (by decide)
    obtain ⟨s4, -, -⟩ := s1.fr (fr_Md_get _ _ _ _ _ _ e2) (by decide)
    exact ⟨_, _, _, g2, lw_get hN hg hi hc e1 s2 s3 e2, iv.more (by omega), s4⟩
  · obtain ⟨r, g1, g2, e1, e2, iv⟩ := iv_copy h (g 1000 (6 * i + 1)) (g 1000 (6 * i + 2)) (g 1000 (6 * i + 3)) (g 1000 (6 * i + 4)) (g 1000 (6 * i + 5)) (hs.2 _) (hs.2 _) (hs.2 _)
    obtain ⟨s1, s2, s3⟩ := hs.fr (fr_Op_copy _ _ _ _ _ _ _ _ e1) (by decide)
    obtain ⟨s4, -, -⟩ := s1.fr (fr_Md_copy _ _ _ _ _ _ _ _ e2) (by decide)
    exact ⟨_, _, _, g2, lw_copy hN hg hi hc e1 s2 s3 e2, iv.more (by omega), s4⟩
  · obtain ⟨r, g1, g2, e1, e2, iv⟩ := st_write h (by omega) (g 1000 (6 * i + 1)) (g 1000 (6 * i + 2))
    obtain ⟨s1, s2, s3⟩ := hs.fr (fr_Op_write _ _ _ _ _ e1) (by decide)
    obtain ⟨s4, -, -⟩ := s1.fr (fr_Md_write _ _ _ _ _ e2) (by decide)
    exact ⟨_, _, _, g2, lw_write hN hg hi hc e1 s2 s3 e2, iv.more (by omega), s4⟩
  · obtain ⟨r, g1, g2, e1, e2, iv⟩ := st_count h (by omega) (g 1000 (6 * i + 1))
    obtain ⟨s1, s2, s3⟩ := hs.fr (fr_Op_count _ _ _ _ e1) (by decide)
    obtain ⟨s4, -, -⟩ := s1.fr (fr_Md_count _ _ _ _ e2) (by decide)
    exact ⟨_, _, _, g2, lw_count hN hg hi hc e1 s2 s3 e2, iv.more (by omega), s4⟩
  · obtain ⟨r, g1, g2, e1, e2, iv⟩ := st_digest h (by omega)
    obtain ⟨s1, s2, s3⟩ := hs.fr (fr_Op_digest _ _ _ e1) (by decide)
    obtain ⟨s4, -, -⟩ := s1.fr (fr_Md_digest _ _ _ e2) (by decide)
    exact ⟨_, _, _, g2, lw_digest hN hg hi hc e1 s2 s3 e2, iv.more (by omega), s4⟩
theorem lw_all {N : Nat} (hN : N ≤ 3072) : ∀ (d i n T : Nat) (t pt : List Int) (u : Int) (g : Gx), N < 6 * i + 6 + 6 * d → d < n → T + 10 * d < 70000 → 6 * i ≤ 3072 + 6 → Inv T t pt u g → Scp N g → ∃ g', Law_law_l18 (fun g67 => some (1, g67)) n ((6 * i : Nat) : Int) g = some (1, g') := by
  intro d
  induction d with
  | zero =>
    intro i n T t pt u g hd hn hT hi h hs
    obtain ⟨n, rfl⟩ : ∃ q, n = q + 1 := ⟨n - 1, by omega⟩
    exact ⟨g, by rw [Law_law_l18, hs.1, wr_id (by omega) (by omega), if_pos (by omega)]⟩
  | succ d ih =>
    intro i n T t pt u g hd hn hT hi h hs
    obtain ⟨n, rfl⟩ : ∃ q, n = q + 1 := ⟨n - 1, by omega⟩
    by_cases c : N < 6 * i + 6
    · exact ⟨g, by rw [Law_law_l18, hs.1, wr_id (by omega) (by omega), if_pos (by omega)]⟩
    · obtain ⟨t', pt', u', g2, e, iv, s⟩ := lw_one (K := fun g67 => some (1, g67)) (n := n) hN (show 6 * i + 5 < N by omega) (by omega) h hs
      rw [e]
      exact ih (i + 1) n (T + 10) t' pt' u' g2 (by omega) (by omega) (by omega) (by omega) iv s
theorem inv00 {g : Gx} (v12 : g 1 2 = 0) (v13 : g 1 3 = 0) (v42 : g 4 2 = 0) (v43 : g 4 3 = 0) (v011 : g 0 11 = 0) (v712 : g 7 12 = 0) (v289 : g 28 9 = -1) (v3313 : g 33 13 = -1) (v3316 : g 33 16 = 0) (v555 : g 55 5 = -1) (v556 : g 55 6 = -1) (v699 : g 69 9 = -1) (v784 : g 78 4 = 0) (v980 : g 98 0 = 0) (v981 : g 98 1 = 0) (v11 : g 1 1 = 160) (v41 : g 4 1 = 80) (v927 : g 92 7 = 0) (v924 : g 92 4 = 0) (v012 : g 0 12 = 0) (v9248 : g 92 48 = 0) (w : ∀ s : Nat, s < 4 → g 89 s = -1 ∧ g 93 s = -1) : Inv 0 [] [] 0 g := by
  have i1 : ITx g := by
    unfold ITx
    exact ⟨by omega, by omega, by omega, by omega, v11, v41, fun i hi => absurd hi (by omega), fun i hi => absurd hi (by omega)⟩
  have i2 : TxC [] g := by
    unfold TxC
    exact ⟨by simp [v12], by simp, fun i hi => by simp at hi⟩
  have i3 : TxP [] g := by
    unfold TxP
    exact ⟨by simp [v42], by simp, fun i hi => by simp at hi⟩
  have i4 : ITl g := by
    unfold ITl
    exact ⟨by omega, by omega, by omega⟩
  have i6 : ISh g := by
    unfold ISh
    refine ⟨by omega, fun s hs => ?_⟩
    obtain ⟨e1, e2⟩ := w s hs
    exact ⟨by omega, by omega, fun h => absurd h (by omega)⟩
  have i7 : ILg g := by
    unfold ILg
    exact ⟨by omega, by omega, fun i hi => absurd hi (by omega)⟩
  have i8 : Cnt 0 g := by
    unfold Cnt
    exact ⟨by omega, by omega, by omega, by omega, by omega, by omega, by omega, by omega, by omega⟩
  have i9 : Cch [] [] [] g := by
    unfold Cch
    refine ⟨fun _ => Eq.refl _, fun h => ?_, fun h => ?_, fun h => ?_, fun h => ?_⟩
    · exfalso; omega
    · exfalso; omega
    · exfalso; omega
    · exfalso; omega
  unfold Inv
  exact ⟨i1, i2, i3, i4, v011, i6, i7, i8, [], i9⟩
theorem inv0 (xs : Nat → Int32) (n : Nat) : Inv 0 [] [] 0 (g0x xs n) := by
  have w : ∀ s : Nat, s < 4 → g0x xs n 89 s = -1 ∧ g0x xs n 93 s = -1 := by
    intro s hs
    rcases (show s = 0 ∨ s = 1 ∨ s = 2 ∨ s = 3 by omega) with rfl | rfl | rfl | rfl <;> exact ⟨rfl, rfl⟩
  exact inv00 rfl rfl rfl rfl rfl rfl rfl rfl rfl rfl rfl rfl rfl rfl rfl rfl rfl rfl rfl rfl rfl w
/-- on every script of at most 3072 ints the law answers 1 -/
theorem law_ok (xs : Nat → Int32) (n : Nat) (hn : n ≤ 3072) : ∃ g', Law_law (g0x xs n) = some (1, g') := by
  unfold Law_law
  exact lw_all hn 512 0 fu 0 [] [] 0 (g0x xs n) (by omega) (fu_big _ (by decide)) (by omega) (by omega) (inv0 xs n) ⟨rfl, fun j => ⟨Int32.le_toInt _, Int32.toInt_lt _⟩⟩
