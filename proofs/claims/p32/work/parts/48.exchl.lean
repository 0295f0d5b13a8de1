/-! the law's walk over the exchanges -/
theorem exq_4 {P : Pic} {k : Nat} (h : exq P k = true) : of4 P (k / 216) (k / 36 % 6) (k / 6 % 6) (k % 6) = true := by
  unfold exq at h
  simp only [Bool.and_eq_true] at h
  exact h.2
theorem exq_x {P : Pic} {k : Nat} (hk : k < 1296) (h : exq P k = true) : exq (mkX P (xk P k)) k = true := by
  have o := exq_ord h
  have h4 := of4_x (P := P) (r := k / 216) (s := k / 36 % 6) (c := k / 6 % 6) (d := k % 6) (by omega) (by omega) (by omega) (by omega) (exq_4 h)
  unfold exq
  rw [decide_eq_true o.1, decide_eq_true o.2, Bool.true_and, Bool.true_and]
  exact h4
theorem xor1 (x y : Int64) : x ^^^ (x ^^^ y) = y := by
  apply tb_ext
  intro i hi
  rw [tb_xor, tb_xor]
  cases tb x i <;> cases tb y i <;> rfl
theorem xd_c {μ : Mem} {A : Ab} (h : cInv μ A) {k : Nat} (hk : k < 1296) (hq : exq (aP A) k = true) : ∃ (n : Nat) (μ' : Mem), F_X7_exchange (i3 (tol k) / (1000 : Int32)) (remI (i3 (tol k) / (100 : Int32)) (10 : Int32)) (remI (i3 (tol k) / (10 : Int32)) (10 : Int32)) (remI (i3 (tol k)) (10 : Int32)) μ = rI (i3 (n : Int)) μ' ∧ npc (zc (xk (aP A) k)) n ∧ n ≤ 36 ∧ frc μ μ' ∧ cInv μ' (actA A (mkX (aP A) (xk (aP A) k))) := by
  obtain ⟨d1, d2, d3, d4⟩ := tol_d hk
  obtain ⟨b1, b2, b3, b4⟩ := exq_bd h.2.1 hk hq
  rw [d1, d2, d3, d4]
  exact xc_c h b1 b3 b2 b4 (exq_4 hq)
theorem xk_pc {P : Pic} (ok : okP P) {k : Nat} (hk : k < 1296) (hq : exq P k = true) : pc (xk P k) = pc (fX P) ∧ pc (crk k) = 4 ∧ brd (xk P k) ∧ brd (crk k) := by
  have o := exq_ord hq
  have bX := brdX ok ok.2.2.2.2.1
  exact ⟨pc_ex bX o.1 (by omega) o.2 (by omega) (exq_4 hq), pc_crn o.1 (by omega) o.2 (by omega), brdX ok (crk_in ok hq), crn_brd (by omega) (by omega) (by omega) (by omega)⟩
section EX
variable {μ : Mem} {A : Ab}
theorem ex_119 (h : cInv μ A) (q : Int32) {N b : Nat} (hN : cex (aP A) 1296 = N) (hb : b < N) (hbest : ∀ j, j < N → npJ (aP A) b < npJ (aP A) j ∨ (npJ (aP A) b = npJ (aP A) j ∧ (olJ (aP A) b < olJ (aP A) j ∨ (olJ (aP A) b = olJ (aP A) j ∧ b ≤ j)))) :
    ∃ μ' A', f_L_exchanges_119 q (i3 (N : Int)) (i3 (b : Int)) μ = rI (1 : Int32) μ' ∧ cInv μ' A' ∧ aP A' = aP A ∧ frc μ μ' := by
  have ok := h.2.1
  have bX := brdX ok ok.2.2.2.2.1
  have c0 := cex_nn (aP A) 1296
  have c1 := cex_bd (aP A)
  rw [hN] at c0 c1
  have hu := up_lt q (m := N) (by omega)
  have eu := fun s => up_code q (m := N) (by omega) s
  generalize upZ q N = u at hu eu
  have U := ex_at ok (j := u) (by rw [hN]; omega)
  have B := ex_at ok (j := b) (by rw [hN]; omega)
  have oU := outl_bd (xk (aP A) (exK (aP A) u)) (xk (aP A) (exK (aP A) u))
  have oB := outl_bd (xk (aP A) (exK (aP A) b)) (xk (aP A) (exK (aP A) b))
  obtain ⟨vu, u1, u2⟩ := x_c h (i := u) (by omega)
  obtain ⟨vb, b1, b2⟩ := x_c h (i := b) (by omega)
  have evu := (exK_eq u2 (by rw [hN]; omega)).1
  have evb := (exK_eq b2 (by rw [hN]; omega)).1
  have best := hbest u hu
  have e1 : npJ (aP A) u = npN (xk (aP A) (exK (aP A) u)) := rfl
  obtain ⟨p1, p2, p3, p4⟩ := xk_pc ok U.1 U.2.1
  subst evu
  subst evb
  obtain ⟨n1, μ1, x1, x2, x3, x4, x5⟩ := xd_c h U.1 U.2.1
  have en1 : n1 = npJ (aP A) u := (npN_eq x2).symm
  obtain ⟨A1, hA1⟩ : ∃ B, B = actA A (mkX (aP A) (xk (aP A) (exK (aP A) u))) := ⟨_, rfl⟩
  have eP1 : aP A1 = mkX (aP A) (xk (aP A) (exK (aP A) u)) := by rw [hA1]
  rw [← hA1] at x5
  have y8 := a_8 x5
  have yb := bits_0 x5
  obtain ⟨n1', y7, y7b, -⟩ := a_7 x5
  have yl := lines_code x5
  rw [eP1] at y8 yb y7b
  have en1' : n1' = n1 := npc_inj y7b x2
  subst en1'
  have o4 : F_L_ones (V (fX (aP A)) ^^^ V (xk (aP A) (exK (aP A) u))) μ1 = rI (4 : Int32) μ1 := by
    rw [V_xor, show fX (aP A) ^^^ xk (aP A) (exK (aP A) u) = crk (exK (aP A) u) from xor1 _ _, ones_V p4, p2]; rfl
  have q1 : exq (aP A1) (exK (aP A) u) = true := by rw [eP1]; exact exq_x U.1 U.2.1
  obtain ⟨n2, μ2, z1, z2, z3, z4, z5⟩ := xd_c x5 U.1 q1
  have ex2 : xk (aP A1) (exK (aP A) u) = fX (aP A) := by rw [eP1]; exact xor2 _ _
  have r1 := rem_1 A1 (mkX (aP A1) (xk (aP A1) (exK (aP A) u))) (h14 x5)
  have r2 := rem_2 A (mkX (aP A) (xk (aP A) (exK (aP A) u))) (mkX (aP A1) (xk (aP A1) (exK (aP A) u))) (h14 h)
  rw [← hA1] at r2
  obtain ⟨A2, hA2⟩ : ∃ B, B = actA A1 (mkX (aP A1) (xk (aP A1) (exK (aP A) u))) := ⟨_, rfl⟩
  rw [← hA2] at z5 r1 r2
  have wb := bits_0 z5
  have eP2 : fX (aP A2) = fX (aP A) := by rw [hA2]; exact ex2
  rw [eP2] at wb
  obtain ⟨μ3, v1, v2, v3⟩ := un_c z5 r1.1
  obtain ⟨A3, hA3⟩ : ∃ B, B = unA A2 := ⟨_, rfl⟩
  rw [← hA3] at v3 r1 r2
  have vb3 := bits_0 v3
  rw [r1.2.1, eP1] at vb3
  obtain ⟨μ4, t1, t2, t3⟩ := un_c v3 r2.1
  obtain ⟨A4, hA4⟩ : ∃ B, B = unA A3 := ⟨_, rfl⟩
  rw [← hA4] at t3 r2
  have eP4 : aP A4 = aP A := r2.2
  have tb4 := bits_0 t3
  rw [eP4] at tb4
  have q4 : exq (aP A4) (exK (aP A) b) = true := by rw [eP4]; exact B.2.1
  obtain ⟨n5, μ5, s1', s2', s3', s4', s5'⟩ := xd_c t3 B.1 q4
  rw [eP4] at s2'
  have en5 : n5 = npJ (aP A) b := (npN_eq s2').symm
  have y85 := a_8 s5'
  have r5 := rem_1 A4 (mkX (aP A4) (xk (aP A4) (exK (aP A) b))) (h14 t3)
  have e85 : outl (fX (aP (actA A4 (mkX (aP A4) (xk (aP A4) (exK (aP A) b)))))) (fX (aP (actA A4 (mkX (aP A4) (xk (aP A4) (exK (aP A) b)))))) = olJ (aP A) b := by
    show outl (xk (aP A4) (exK (aP A) b)) (xk (aP A4) (exK (aP A) b)) = _
    rw [eP4]
  rw [e85] at y85
  obtain ⟨μ6, g1, g2, g3⟩ := un_c s5' r5.1
  have y8' : F_X7_about (8 : Int32) μ1 = rI (i3 (olJ (aP A) u)) μ1 := y8
  refine ⟨μ6, _, ?_, g3, r5.2.1.trans eP4, frc_tr x4 (frc_tr z4 (frc_tr v2 (frc_tr t2 (frc_tr s4' g2))))⟩
  have n0 : ¬ i3 (N : Int) = 0 := by rw [l3_0]; exact ne3 (by omega)
  have k2 : ¬ i3 (n2 : Int) < 0 := by rw [l3_0]; exact nlt3 (by omega)
  have h2 := h14 z5
  have k3 : ¬ i3 ((aHn A2 - 1 : Nat) : Int) < 0 := by rw [l3_0]; exact nlt3 (by omega)
  have h3 := h14 v3
  have k4 : ¬ i3 ((aHn A3 - 1 : Nat) : Int) < 0 := by rw [l3_0]; exact nlt3 (by omega)
  have h5 := h14 s5'
  have k5 : ¬ i3 ((aHn (actA A4 (mkX (aP A4) (xk (aP A4) (exK (aP A) b)))) - 1 : Nat) : Int) < 0 := by rw [l3_0]; exact nlt3 (by omega)
  have zz : ∀ x : Int64, (lg_cmp x x = 0) = True := fun x => by rw [zcmp_eq]; exact eq_true rfl
  subst en1
  have y8u : olJ (aP A) u = outl (xk (aP A) (exK (aP A) u)) (xk (aP A) (exK (aP A) u)) := rfl
  have y8b : olJ (aP A) b = outl (xk (aP A) (exK (aP A) b)) (xk (aP A) (exK (aP A) b)) := rfl
  rw [← y8u] at oU
  rw [← y8b] at oB
  simp only [f_L_exchanges_119, if_neg n0, bits_0 h, cJ_k, eu, cI_k, u1, b1, x1, y8', yb, y7, if_true, o4, ones_V bX, ones_V p3, p1, yl, j10, if_false, z1, if_neg k2, wb, zz, v1, if_neg k3, vb3, t1, if_neg k4, tb4, s1', y85, g1, if_neg k5]
  rw [en5]
  rcases best with w | ⟨w1, w2⟩
  · rw [if_pos (lt3 (by omega))]
  · rw [if_neg (nlt3 (by omega)), if_pos (by rw [w1])]
    rcases w2 with w | ⟨w3, w4⟩
    · rw [if_pos (lt3 (by omega))]
    · rw [if_neg (nlt3 (by omega)), if_pos (by rw [w3]), if_neg (nlt3 (by omega))]
def lastX (P : Pic) (i : Nat) (v : Int) : Prop := (i = 0 ∧ v = -1) ∨ (1 ≤ i ∧ ∃ k, k < 1296 ∧ exq P k = true ∧ cex P k = (i : Int) - 1 ∧ v = tol k)
theorem exch_code (h : cInv μ A) (q : Int32) : ∃ μ' A', F_L_exchanges q μ = rI (1 : Int32) μ' ∧ cInv μ' A' ∧ aP A' = aP A ∧ frc μ μ' := by
  have ok := h.2.1
  have c0 := cex_nn (aP A) 1296
  have c1 := cex_bd (aP A)
  obtain ⟨N, hN⟩ : ∃ N : Nat, cex (aP A) 1296 = N := ⟨(cex (aP A) 1296).toNat, by omega⟩
  simp only [F_L_exchanges, a_10 h, cI_k, hN]
  rw [show (-1 : Int32) = i3 (-1) from l3_m1, show (0 : Int32) = i3 ((0 : Nat) : Int) from l3_0]
  refine loop_st (σ := Int) (fun n i v => f_L_exchanges_12 n q (i3 (N : Int)) (i3 v) (i3 (i : Int)) μ) (fun i v => lastX (aP A) i v) (fun o => ∃ μ' A', o = rI (1 : Int32) μ' ∧ cInv μ' A' ∧ aP A' = aP A ∧ frc μ μ') N ?_ ?_ BIG 0 (-1) (by omega) (BIG_lt (by omega)) (Or.inl ⟨rfl, rfl⟩)
  · rintro n v hv
    have el : i3 (N : Int) ≤ i3 (N : Int) := le3 (by omega)
    obtain ⟨w, w1, w2⟩ := x_c h (i := N) (by omega)
    have ew : w = -9 := by
      rcases w2 with ⟨k, k1, k2, k3, k4⟩ | ⟨-, e⟩
      · have := cex_mono (aP A) (show k + 1 ≤ 1296 by omega)
        rw [cex_s, k2, b2_t] at this
        omega
      · exact e
    subst ew
    have bc := bx_c h.1 ok
    rw [hN, Int.toNat_natCast] at bc
    have e9 : i3 (-9) = (-9 : Int32) := l3_m9.symm
    have t9 : ((-9 : Int32) = (-9 : Int32)) = True := eq_self _
    simp only [f_L_exchanges_12, if_pos el, bc, cI_k, w1, e9, t9, if_true]
    rcases bx_spec ok rfl N (by omega) with ⟨e0, e1⟩ | ⟨b, hb, eb, hj⟩
    · rw [e1, e0]
      have z1 : ¬ (0 : Int32) ≤ (-9 : Int32) := by decide
      have z2 : ¬ (0 : Int32) < i3 ((0 : Nat) : Int) := by decide
      rw [if_neg z1, if_neg z2]
      refine ⟨μ, A, ?_, h, rfl, frc_rf μ⟩
      simp only [t9, if_true, f_L_exchanges_119]
      rw [if_pos (show i3 ((0 : Nat) : Int) = 0 from by decide)]
    · rw [eb]
      simp only
      rw [if_pos (show (0 : Int32) ≤ i3 (b : Int) from by rw [l3_0]; exact le3 (by omega)), if_pos (lt3 (by omega))]
      exact ex_119 h q hN hb hj
  · rintro n i v hi hv
    left
    have el : ¬ i3 (N : Int) ≤ i3 (i : Int) := nle3 (by omega)
    obtain ⟨w, w1, w2⟩ := x_c h (i := i) (by omega)
    rcases w2 with ⟨k, k1, k2, k3, k4⟩ | ⟨e, -⟩
    · subst k4
      have o := exq_ord k2
      obtain ⟨d1, d2, d3, d4⟩ := tol_d k1
      have tb := tol_bd k1
      have t0 := tol_0 k
      have hlt : v < tol k ∧ -1 ≤ v := by
        rcases hv with ⟨-, rfl⟩ | ⟨hi1, k', g1, g2, g3, rfl⟩
        · omega
        · have hk : k' < k := by
            refine Classical.byContradiction (fun w => ?_)
            have := cex_mono (aP A) (show k ≤ k' by omega)
            omega
          have := tol_lt hk k1
          have := tol_0 k'
          omega
      refine ⟨tol k, Or.inr ⟨by omega, k, k1, k2, by rw [k3]; omega, rfl⟩, ?_⟩
      have m1 : ¬ i3 (tol k) ≤ i3 v := nle3 (by omega)
      have m2 : ¬ i3 ((k / 36 % 6 : Nat) : Int) ≤ i3 ((k / 216 : Nat) : Int) := nle3 (by omega)
      have m3 : i3 ((k / 6 % 6 : Nat) : Int) < i3 ((k % 6 : Nat) : Int) := lt3 (by omega)
      simp only [f_L_exchanges_12, if_neg el, w1, cI_k, if_neg m1, d1, d2, d3, d4, if_neg m2, if_pos m3, lt_k, inc3]
    · omega
end EX
