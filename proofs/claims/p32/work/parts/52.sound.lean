/-! the law's check of a state -/
section SO
variable {μ : Mem} {A : Ab}
theorem fits_body (h : cInv μ A) (hz : ∀ i, i < 36 → μ.1 29 i = (0 : Int32)) : ∃ μ' A', F_L_fitsB μ = rI (1 : Int32) μ' ∧ cInv μ' A' ∧ aP A' = aP A := by
  have ok := h.2.1
  have o1 := ok.2.1
  have o2 := ok.2.2.2.1
  have bX := brdX ok ok.2.2.2.2.1
  obtain ⟨m, hm⟩ := hm_ex h
  have m100 := hm.1
  obtain ⟨μ1, w1, w2, w3⟩ := hm_c h hm
  obtain ⟨μ2, v1, v2, v3⟩ := sv_c w3
  have v4 : F_X7_about (2 : Int32) μ2 = rI (i3 (pc (fX (aP A)))) μ2 := a_2 (A := svA A 0) v3
  have c1 : ¬ i3 (m : Int) < 0 := by rw [l3_0]; exact nlt3 (by omega)
  have c2 : ¬ (100 : Int32) < i3 (m : Int) := by rw [l3_100]; exact nlt3 (by omega)
  have zz : ∀ x : Int64, (lg_cmp x x = 0) = True := fun x => by rw [zcmp_eq]; exact eq_true rfl
  have m0 : (i3 (m : Int) = 0) = (m = 0) := by rw [l3_0, i3_eq (by omega) (by omega)]; exact propext ⟨fun w => by omega, fun w => by omega⟩
  by_cases q : m = 0
  · subst q
    have hno := (none_0 ok hm).mp rfl
    have y0 : ∀ {y : Int64}, isSure (aP A) y → y = 0 := fun hy => by
      rcases hy with ⟨a, -⟩ | ⟨-, b⟩
      · exact absurd a hno
      · exact b
    have z0 : ∀ x : Int64, (0 : Int64) &&& x = 0 := fun x => zc_ext (fun r c => by rw [zc_and]; exact ⟨fun q => q.1, fun q => absurd q (zc_0 _ _)⟩)
    have p0 : i3 (pc 0) = (0 : Int32) := by decide
    obtain ⟨s1, y1, K1, a1, a2, -, a4, -⟩ := sr_c v3 true
    have e1 := y0 (show isSure (aP A) y1 from a2)
    subst e1
    have a1' : F_X7_sure (1 : Int32) μ2 = rI (0 : Int32) s1 := by
      have : F_X7_sure (1 : Int32) μ2 = rI (i3 (pc ((0 : Int64) &&& K1))) s1 := a1
      rw [this, z0, p0]
    obtain ⟨s2, y2, K2, b1, b2, -, b4, -⟩ := sr_c a4 false
    have e2 := y0 (show isSure (aP A) y2 from b2)
    subst e2
    have b1' : F_X7_sure (0 : Int32) s1 = rI (0 : Int32) s2 := by
      have : F_X7_sure (0 : Int32) s1 = rI (i3 (pc ((0 : Int64) &&& (K2 ^^^ (-1 : Int64))))) s2 := b1
      rw [this, z0, p0]
    obtain ⟨vS, s3, d1, d2, d3, d4, -⟩ := sp_c b4 (show cntF (aP (svA A 0)) 0 from hm)
    have eS : vS = -9 := d4 (by omega)
    subst eS
    have d1' : F_X7_split s2 = rI (-9 : Int32) s3 := d1
    obtain ⟨s4, g1, g2, g3⟩ := bits_4 d3 (show isSure (aP (svA A 0)) 0 from b2)
    rw [V_0] at g1
    obtain ⟨s5, j1, j2⟩ : ∃ s5, F_L_solveOr (0 : Int32) s4 = rI (-1 : Int32) s5 ∧ cInv s5 (svA A 0) := by
      rcases so_b g3 false with ⟨G, μ', x1, x2, x3, x4⟩ | ⟨μ', x1, x2, x3, x4⟩
      · exact absurd ⟨G, isFst_fit x2⟩ hno
      · rw [← (so_e s4).1] at x1
        exact ⟨μ', solveOr_x x1, x4⟩
    obtain ⟨s6, k1, k2⟩ : ∃ s6, F_L_solveOr (1 : Int32) s5 = rI (-1 : Int32) s6 ∧ cInv s6 (svA A 0) := by
      rcases so_b j2 true with ⟨G, μ', x1, x2, x3, x4⟩ | ⟨μ', x1, x2, x3, x4⟩
      · exact absurd ⟨G, isFst_fit x2⟩ hno
      · rw [← (so_e s5).2] at x1
        exact ⟨μ', solveOr_x x1, x4⟩
    obtain ⟨s7, l1, l2⟩ : ∃ s7, F_L_nextOr s6 = rI (-1 : Int32) s7 ∧ cInv s7 (svA A 0) := by
      rcases nx_c k2 with ⟨G, μ', x1, x2, x3, x4⟩ | ⟨μ', x1, x2, x3, x4⟩
      · exact absurd ⟨G, nxt_fit x2 (fun _ _ _ => Iff.rfl)⟩ hno
      · exact ⟨μ', nextOr_x x1, x4⟩
    obtain ⟨-, s8, n1, n2, n3⟩ := (ne_c l2 (show cntF (aP (svA A 0)) 0 from hm)).resolve_left (fun w => w.1 (Or.inl rfl))
    have b8 : F_L_bits (0 : Int32) s8 = rJ (V (fX (aP A))) s8 := bits_0 (A := svA A 0) n3
    refine ⟨s8, svA A 0, ?_, n3, rfl⟩
    have t9 : ((-9 : Int32) = (-9 : Int32)) = True := eq_self _
    have t1 : ((-1 : Int32) = (-1 : Int32)) = True := eq_self _
    have e0 : i3 ((0 : Nat) : Int) = (0 : Int32) := by decide
    have n0 : ¬ (0 : Int32) < 0 := by decide
    have n100 : ¬ (100 : Int32) < 0 := by decide
    rw [e0] at w1
    simp only [F_L_fitsB, a_0 h, a_1 h, cI_k, bits_0 h, bits_1 h, cJ_k, w1, if_neg n0, if_neg n100, v1, v4, if_true, a1', b1', d1', t9, g1, zz, j1, t1, k1, l1, nearestOr_x n1, b8]
  · have st : F_L_fitsB μ = f_L_fits_174 BIG (i3 (nR (aP A))) (i3 (nC (aP A))) (V (fX (aP A))) (V (fP (aP A))) (i3 (m : Int)) (V (cur (aP A) 0)) (allq (aP A) 0) (someq (aP A) 0) (i3 (nrq (aP A) 0)) (i3 ((0 : Nat) : Int)) μ2 := by
      simp only [F_L_fitsB, a_0 h, a_1 h, cI_k, bits_0 h, bits_1 h, cJ_k, w1, if_neg c1, if_neg c2, v1, v4, if_true, m0, if_neg q]
      rfl
    rw [st]
    obtain ⟨K, hK⟩ : ∃ K : Nat, K = if m < 100 then m else 6 := ⟨_, rfl⟩
    have hK2 : 1 ≤ K ∧ K ≤ m ∧ K ≤ 100 := by
      rw [hK]; split <;> omega
    have hz2 : ∀ i, i < 36 → μ2.1 29 i = i3 (tal (aP A) 0 (8 * (i / 6) + i % 6)) := fun i hi => by
      rw [frc_29 v2, frc_29 w2, hz i hi]; rfl
    refine loop_st (σ := Mem × Ab) (fun n k z => f_L_fits_174 n (i3 (nR (aP A))) (i3 (nC (aP A))) (V (fX (aP A))) (V (fP (aP A))) (i3 (m : Int)) (V (cur (aP A) k)) (allq (aP A) k) (someq (aP A) k) (i3 (nrq (aP A) k)) (i3 (k : Int)) z.1) (fun k z => fS (aP A) (cur (aP A) k) k z.1 z.2)
      (fun o => ∃ μ' A', o = rI (1 : Int32) μ' ∧ cInv μ' A' ∧ aP A' = aP A) K ?_ ?_ BIG 0 (μ2, svA A 0) (by omega) (BIG_lt (by omega)) ⟨v3, rfl, rfl, rfl, hz2⟩
    · rintro n ⟨s, B⟩ hs
      simp only at hs
      by_cases h99 : m < 100
      · have eK : K = m := by rw [hK, if_pos h99]
        subst eK
        have el : ¬ (100 : Int32) ≤ i3 (K : Int) := by rw [l3_100]; exact nle3 (by omega)
        have e100 : ¬ i3 (K : Int) = (100 : Int32) := by rw [l3_100]; exact ne3 (by omega)
        have le : i3 (K : Int) ≤ i3 (K : Int) := le3 (by omega)
        obtain ⟨w, hw, b1⟩ := fits_best ok h99 hs.2.2.2.2 (V (fX (aP A))) (V (cur (aP A) K)) (allq (aP A) K) (someq (aP A) K) (i3 (nrq (aP A) K))
        obtain ⟨n', b2⟩ := fits_cells ok (V (fX (aP A))) (V (cur (aP A) K)) (allq (aP A) K) (someq (aP A) K) (i3 (nrq (aP A) K)) (i3 w) s
        obtain ⟨k, rfl⟩ : ∃ k, K = k + 1 := ⟨K - 1, by omega⟩
        obtain ⟨s', B', b3, b4, b5⟩ := fits_end ok hm h99 hs hw n'
        refine ⟨s', B', ?_, b4, b5⟩
        simp only [f_L_fits_174, if_neg el, f_L_fits_190, if_pos le, if_neg e100]
        rw [b1, b2]
        exact b3
      · have em : m = 100 := by omega
        subst em
        have eK : K = 6 := by rw [hK, if_neg h99]
        subst eK
        have el : (100 : Int32) ≤ i3 ((100 : Nat) : Int) := by decide
        have le : (6 : Int32) ≤ i3 ((6 : Nat) : Int) := by decide
        simp only [f_L_fits_174, if_pos el]
        exact fits_end100 ok hm hs _ _ _ _ _ _ _ _ _ le
    · rintro n k ⟨s, B⟩ hk hs
      simp only at hs
      left
      obtain ⟨s', B', b1, b2⟩ := fits_turn ok hm (show k < m by omega) hs (f_L_fits_174 n) (i3 (m : Int)) K ⟨hk, hK2.2.2⟩
      refine ⟨(s', B'), b2, ?_⟩
      by_cases h99 : m < 100
      · have eK : K = m := by rw [hK, if_pos h99]
        have el : ¬ (100 : Int32) ≤ i3 (m : Int) := by rw [l3_100]; exact nle3 (by omega)
        simp only [f_L_fits_174, if_neg el]
        rw [eK] at b1
        exact b1
      · have eK : K = 6 := by rw [hK, if_neg h99]
        have el : (100 : Int32) ≤ i3 (m : Int) := by rw [l3_100]; exact le3 (by omega)
        simp only [f_L_fits_174, if_pos el]
        rw [eK] at b1
        exact b1
theorem fits_code (h : cInv μ A) : ∃ μ' A', F_L_fits μ = rI (1 : Int32) μ' ∧ cInv μ' A' ∧ aP A' = aP A := by
  have hz : cInv (z29 μ) A := cInv_fr h (W := [29]) (fun k hk => ⟨funext fun b => if_neg (fun e => hk (by rw [e]; simp)), rfl, rfl⟩) (fun k hk => by simp at hk; omega)
  exact fits_body hz (fun i hi => by show (if (29 : Nat) = 29 then (0 : Int32) else μ.1 29 i) = 0; exact if_pos rfl)
theorem sound_code (h : cInv μ A) (q : Int32) : ∃ μ' A', F_L_sound q μ = rI (1 : Int32) μ' ∧ cInv μ' A' ∧ aP A' = aP A := by
  obtain ⟨μ1, A1, x1, x2, x3, -⟩ := exch_code h q
  obtain ⟨μ2, A2, y1, y2, y3⟩ := fits_code x2
  refine ⟨μ2, A2, ?_, y2, y3.trans x3⟩
  simp only [F_L_sound, lines_code h, pieces_code h, hull_law h, x1, y1, cI_k, j10, if_false]
end SO
