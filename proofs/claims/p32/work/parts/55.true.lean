/-! the law from its first question on -/
abbrev P00 : Pic := (3, 3, 0, 0, 0, 0)
theorem dgn_0 (i : Nat) : dgn 0 i = 0 := by
  unfold dgn
  simp
theorem ok00 : okP P00 := by
  refine ⟨by decide, by decide, by decide, by decide, fun r c h => absurd h (zc_0 r c), fun r c h => absurd h (zc_0 r c), fun i _ => ?_, fun i _ => ?_⟩
  · show dgn 0 i ≤ 6 ∧ (3 ≤ i → dgn 0 i = 0)
    rw [dgn_0]; exact ⟨by omega, fun _ => rfl⟩
  · show dgn 0 i ≤ 6 ∧ (3 ≤ i → dgn 0 i = 0)
    rw [dgn_0]; exact ⟨by omega, fun _ => rfl⟩
theorem fit00 {y : Int64} (h : fitP P00 0 y) : y = 0 := zc_eq_zero.mpr (fun r c q => by
  have hb := h.1.1 r c q
  have hb : r < 3 ∧ c < 3 := hb
  have h1 := h.1.2.1 r (by omega)
  have h1 : rct y r = ((dgn 0 r : Nat) : Int) := h1
  rw [dgn_0] at h1
  have := zs_eq_zero (n := 6) (f := fun c => b2 (tb y (8 * r + c))) (fun i _ => b2_0 _) h1 c (by omega)
  rw [q.2.2] at this
  exact absurd this (by decide))
theorem fit00' : fitP P00 0 0 := by
  refine ⟨⟨fun r c q => absurd q (zc_0 r c), fun a ha => ?_, fun a ha => ?_⟩, fun r c q => absurd q (zc_0 r c)⟩
  · show rct 0 a = ((dgn 0 a : Nat) : Int)
    rw [dgn_0]
    exact rct_out ha (fun c => zc_0 a c)
  · show cct 0 a = ((dgn 0 a : Nat) : Int)
    rw [dgn_0]
    exact cct_out ha (fun r => zc_0 r a)
theorem cnt00 {m : Nat} (hm : cntF P00 m) : m = 1 := by
  have h0 : ¬ m = 0 := fun e => (none_0 ok00 hm).mp e ⟨0, fit00'⟩
  refine Classical.byContradiction (fun w => ?_)
  have e0 := fit00 (gq_f hm (show 0 < m by omega))
  have e1 := fit00 (gq_f hm (show 1 < m by omega))
  have := gq_inj ok00 hm (show 0 < m by omega) (show 1 < m by omega) (e0.trans e1.symm)
  omega
theorem cex00 : cex P00 1296 = 0 := by
  have h0 := cex_nn P00 1296
  refine Classical.byContradiction (fun w => ?_)
  have e := ex_at ok00 (j := 0) (by omega)
  obtain ⟨-, -, -, -, -, q, -⟩ := of4_t (exq_4 e.2.1)
  rw [show fX P00 = 0 from rfl, tb_0, tb_0] at q
  cases q
section LT
variable {L : Nat} {xs : Nat → Int32} {μ : Mem} {A : Ab}
theorem law_true (hL : L ≤ 260) (h : cInv μ A) (hP : aP A = P00) (hn : aHn A = 0) : ∃ μ', F_L_law L xs μ = rI (1 : Int32) μ' := by
  have a0 := a_0 h
  have a1 := a_1 h
  have a2 := a_2 h
  rw [hP] at a0 a1 a2
  have a0' : F_X7_about (0 : Int32) μ = rI (3 : Int32) μ := a0
  have a1' : F_X7_about (1 : Int32) μ = rI (3 : Int32) μ := a1
  have a2' : F_X7_about (2 : Int32) μ = rI (0 : Int32) μ := by
    rw [a2, show pc (fX P00) = 0 from by decide]; rfl
  obtain ⟨m, hm⟩ := hm_ex h
  have em : m = 1 := cnt00 (by rw [← hP]; exact hm)
  subst em
  obtain ⟨s1, b1, -, b3⟩ := hm_c h hm
  have b1' : F_X7_howMany μ = rI (1 : Int32) s1 := b1
  have fits : ∃ z, fitP (aP A) (fX (aP A)) z := by rw [hP]; exact ⟨0, fit00'⟩
  obtain ⟨s2, y, K, c1, c2, -, c4, c5⟩ := sr_c b3 false
  have hK := c5 fits
  have c1' : F_X7_sure (0 : Int32) s1 = rI (9 : Int32) s2 := by
    have c1 : F_X7_sure (0 : Int32) s1 = rI (i3 (pc (y &&& (K ^^^ (-1 : Int64))))) s2 := c1
    rw [hP] at hK
    have eK : K = 0 := fit00 hK
    have ey : y &&& (K ^^^ (-1 : Int64)) = bdI 3 3 := zc_ext (fun r c => by
      rw [zc_rem, eK, zc_bd (by decide) (by decide)]
      rcases c2 with ⟨-, b⟩ | ⟨b, -⟩
      · rw [b]
        constructor
        · rintro ⟨⟨w, -⟩, -⟩
          rw [hP] at w; exact w
        · intro w
          refine ⟨⟨by rw [hP]; exact w, fun z z' hz hz' => ?_⟩, zc_0 r c⟩
          rw [hP] at hz hz'
          rw [fit00 hz, fit00 hz']
      · exact absurd fits b)
    rw [c1, ey, show pc (bdI 3 3) = 9 from by decide +kernel]; rfl
  obtain ⟨-, v, s3, d1, -, d3, d4⟩ := (ne_c c4 hm).resolve_right (fun w => by omega)
  have ev : v = 0 := by
    obtain ⟨⟨n, hn', e⟩, -⟩ := d4
    rw [hP] at e
    have : n = 0 := by omega
    subst this
    rw [fit00 (gq_f (by rw [← hP]; exact hm) (show 0 < 1 by decide))] at e
    rw [e]
    decide
  subst ev
  have d1' : F_X7_nearest s2 = rI (0 : Int32) s3 := d1
  have bx := bx_c d3.1 d3.2.1
  rw [hP, cex00] at bx
  have bx' : F_X7_bestExchange s3 = rI (-9 : Int32) s3 := by
    rw [bx]
    rcases bx_spec ok00 rfl 0 (by rw [cex00]; decide) with ⟨-, e⟩ | ⟨b, hb, -⟩
    · rw [show (0 : Int).toNat = 0 from rfl, e]
    · omega
  have un := undoOr_x (un_n d3 hn)
  obtain ⟨s4, g1, -, g3⟩ := ga_c d3
  have g1' : F_X7_wantAll s3 = rI (0 : Int32) s4 := by
    rw [g1, hP]
    have : wrg P00 = 0 := by
      unfold wrg
      rw [zs_congr (g := fun _ => 0) (fun l hl => ?_), zs_zero]
      have e1 : cnt (nR P00) (fX P00) l = 0 := by
        unfold cnt
        split
        · exact cct_out (by have : l < 6 := hl; omega) (fun r => zc_0 r _)
        · exact rct_out (by have : l < 6 := hl; omega) (fun c => zc_0 _ c)
      have e2 : wnt P00 l = 0 := by
        unfold wnt
        split
        · exact dgn_0 _
        · exact dgn_0 _
      rw [e1, e2]; rfl
    rw [this]; rfl
  have r1 := rem_1 A (wtc (aP A) (nR (aP A) + nC (aP A))) (by omega)
  obtain ⟨s5, u1, -, u3⟩ := un_c g3 r1.1
  have hn1 : aHn (actA A (wtc (aP A) (nR (aP A) + nC (aP A)))) - 1 = 0 := by
    show remN (aHn A) - 1 = 0
    rw [hn]; rfl
  have u1' : F_L_undoOr s4 = rI (0 : Int32) s5 := by
    rw [undoOr_k u1, hn1]; rfl
  have eP5 : aP (unA (actA A (wtc (aP A) (nR (aP A) + nC (aP A))))) = P00 := r1.2.1.trans hP
  have k0 := lc_c (xs := xs) hL 0 (0 : Int32) l3_0 (by decide)
  have ur : ∀ s, F_L_up (scr L xs 0) (6 : Int32) s = rI (i3 (upZ (scr L xs 0) 6 : Int)) s := fun s => by rw [← up_code (scr L xs 0) (m := 6) (by decide) s]; rfl
  have uc : ∀ s, F_L_up (shrI (scr L xs 0) (3 : Int32)) (6 : Int32) s = rI (i3 (upZ (shrI (scr L xs 0) (3 : Int32)) 6 : Int)) s := fun s => by rw [← up_code (shrI (scr L xs 0) (3 : Int32)) (m := 6) (by decide) s]; rfl
  have hr := up_lt (scr L xs 0) (m := 6) (by decide)
  have hc := up_lt (shrI (scr L xs 0) (3 : Int32)) (m := 6) (by decide)
  generalize upZ (scr L xs 0) 6 = r at ur hr
  generalize upZ (shrI (scr L xs 0) (3 : Int32)) 6 = c at uc hc
  have er : (1 : Int32) + i3 (r : Int) = i3 ((1 + r : Nat) : Int) := by rw [l3_1, i3_add]; rfl
  have ec : (1 : Int32) + i3 (c : Int) = i3 ((1 + c : Nat) : Int) := by rw [l3_1, i3_add]; rfl
  obtain ⟨s6, z1, -, z3⟩ := z_c u3 (R := 1 + r) (C := 1 + c) (by omega) (by omega)
  have x0 : fX (cutP (aP (unA (actA A (wtc (aP A) (nR (aP A) + nC (aP A)))))) (1 + r) (1 + c)) = 0 := zc_eq_zero.mpr (fun a b q => by
    have q : zc (fX (aP (unA (actA A (wtc (aP A) (nR (aP A) + nC (aP A)))))) &&& bdI (1 + r) (1 + c)) a b := q
    rw [zc_and, eP5] at q
    exact zc_0 a b q.1)
  have p0 : fP (cutP (aP (unA (actA A (wtc (aP A) (nR (aP A) + nC (aP A)))))) (1 + r) (1 + c)) = 0 := zc_eq_zero.mpr (fun a b q => by
    have q : zc (fP (aP (unA (actA A (wtc (aP A) (nR (aP A) + nC (aP A)))))) &&& bdI (1 + r) (1 + c)) a b := q
    rw [zc_and, eP5] at q
    exact zc_0 a b q.1)
  rw [x0] at z1
  have z1' : F_X7_resize (i3 ((1 + r : Nat) : Int)) (i3 ((1 + c : Nat) : Int)) s5 = rI (0 : Int32) s6 := by
    rw [z1, show pc 0 = 0 from by decide]; rfl
  obtain ⟨s7, fin⟩ := law_134 (xs := xs) hL (R := 1 + r) (C := 1 + c) (by omega) (by omega) z3 ⟨rfl, rfl, fun a b q => by
    have q : zc (fX (cutP (aP (unA (actA A (wtc (aP A) (nR (aP A) + nC (aP A)))))) (1 + r) (1 + c))) a b := q
    rw [x0] at q; exact absurd q (zc_0 a b), fun a b q => by
    have q : zc (fP (cutP (aP (unA (actA A (wtc (aP A) (nR (aP A) + nC (aP A)))))) (1 + r) (1 + c))) a b := q
    rw [p0] at q; exact absurd q (zc_0 a b)⟩
  refine ⟨s7, ?_⟩
  have t3 : ((3 : Int32) = (3 : Int32)) = True := eq_self _
  have t9 : ((9 : Int32) = (9 : Int32)) = True := eq_self _
  have tm9 : ((-9 : Int32) = (-9 : Int32)) = True := eq_self _
  have tm1 : ((-1 : Int32) = (-1 : Int32)) = True := eq_self _
  simp only [F_L_law, a0', a1', a2', cI_k, t3, if_true, b1', c1', t9, d1', bx', tm9, un, tm1, g1', u1', k0, ur, lt_k, er, uc, ec, z1']
  exact fin
end LT
