/-! the end of the law's walk over the fitting pictures -/
def bsM (P : Pic) (m j : Nat) (x y : Int) : Prop := (x = -9 ∧ y = -1 ∧ ∀ a d, a < nR P → d < nC P → ¬ 6 * a + d < j) ∨
  ∃ r c, r < nR P ∧ c < nC P ∧ 6 * r + c < j ∧ x = 10 * r + c ∧ y = sml P m (8 * r + c) ∧ (∀ a d, a < nR P → d < nC P → 6 * a + d < j → sml P m (8 * a + d) ≤ sml P m (8 * r + c)) ∧ ∀ a d, a < nR P → d < nC P → 6 * a + d < 6 * r + c → sml P m (8 * a + d) < sml P m (8 * r + c)
section FE
variable {P : Pic} {m : Nat}
/-- what the law takes for the best cell -/
def bstQ (P : Pic) (m : Nat) (w : Int) : Prop := (m < 2 → w = -9) ∧ (2 ≤ m → isBest P m w)
theorem fits_best (ok : okP P) (h99 : m < 100) {s : Mem} (ht : ∀ i, i < 36 → s.1 29 i = i3 (tal P m (8 * (i / 6) + i % 6))) (x4 x9 x11 x13 : Int64) (x15 : Int32) :
    ∃ w, bstQ P m w ∧ f_L_fits_433 BIG (i3 (nR P)) (i3 (nC P)) x4 (i3 (m : Int)) x9 x11 x13 x15 (-9 : Int32) (-1 : Int32) (0 : Int32) s = f_L_fits_560 BIG (i3 (nR P)) (i3 (nC P)) x4 x9 x11 x13 x15 (i3 w) (0 : Int64) (0 : Int32) s := by
  have o1 := ok.2.1
  have o2 := ok.2.2.2.1
  have o0 := ok.1
  have o3 := ok.2.2.1
  by_cases h2 : 2 ≤ m
  · rw [l3_m9, l3_m1, show f_L_fits_433 BIG (i3 (nR P)) (i3 (nC P)) x4 (i3 (m : Int)) x9 x11 x13 x15 (i3 (-9)) (i3 (-1)) (0 : Int32) s = f_L_fits_433 BIG (i3 (nR P)) (i3 (nC P)) x4 (i3 (m : Int)) x9 x11 x13 x15 (i3 (-9)) (i3 (-1)) (i3 ((0 : Nat) : Int)) s from by rw [l3_0]; rfl]
    refine loop_st (σ := Int × Int) (fun n j z => f_L_fits_433 n (i3 (nR P)) (i3 (nC P)) x4 (i3 (m : Int)) x9 x11 x13 x15 (i3 z.1) (i3 z.2) (i3 (j : Int)) s) (fun j z => bsM P m j z.1 z.2) (fun o => ∃ w, bstQ P m w ∧ o = f_L_fits_560 BIG (i3 (nR P)) (i3 (nC P)) x4 x9 x11 x13 x15 (i3 w) (0 : Int64) (0 : Int32) s) 36 ?_ ?_ BIG 0 (-9, -1) (by omega) (BIG_lt (by omega)) (Or.inl ⟨rfl, rfl, fun a d _ _ => by omega⟩)
    · rintro n ⟨x, y⟩ hb
      simp only at hb
      have el : (36 : Int32) ≤ i3 ((36 : Nat) : Int) := by decide
      refine ⟨x, ⟨fun w => absurd h2 (by omega), fun _ => ?_⟩, by simp only [f_L_fits_433, if_pos el]⟩
      rcases hb with ⟨-, -, q⟩ | ⟨r, c, q1, q2, q3, q4, q5, q6, q7⟩
      · exact absurd (show 6 * 0 + 0 < 36 by omega) (q 0 0 (by omega) (by omega))
      · exact ⟨r, c, q1, q2, q4, fun a d ha hd => q6 a d ha hd (by omega), fun a d ha hd w => q7 a d ha hd (by omega)⟩
    · rintro n j ⟨x, y⟩ hj hb
      simp only at hb
      left
      have el : ¬ (36 : Int32) ≤ i3 (j : Int) := by rw [l3_36]; exact nle3 (by omega)
      have em : ¬ i3 (m : Int) ≤ (1 : Int32) := by rw [l3_1]; exact nle3 (by omega)
      have e1 : i3 (j : Int) / (6 : Int32) = i3 ((j / 6 : Nat) : Int) := by rw [l3_6, i3_div (by omega) (by decide)]; congr 1
      have e4 : remI (i3 (j : Int)) (6 : Int32) = i3 ((j % 6 : Nat) : Int) := by rw [l3_6, i3_rem (by omega) (by decide)]; congr 1
      have hck : ∀ O : Out, ck (inb (i3 (j : Int)) 36) O = O := fun O => ck_k (i3_in (by omega) (by decide)) O
      have j6 : 6 * (j / 6) + j % 6 = j := by omega
      have t := ht j hj
      have t0 := tal_0 P m (8 * (j / 6) + j % 6)
      have t1 := tal_m P m (8 * (j / 6) + j % 6)
      have es : i3 (m : Int) - i3 (tal P m (8 * (j / 6) + j % 6)) = i3 ((m : Int) - tal P m (8 * (j / 6) + j % 6)) := i3_sub _ _
      have ec : ((10 : Int32) * i3 ((j / 6 : Nat) : Int)) + i3 ((j % 6 : Nat) : Int) = i3 ((10 : Int) * ((j / 6 : Nat) : Int) + ((j % 6 : Nat) : Int)) := by rw [l3_10, i3_mul, i3_add]
      have incj : i3 (j : Int) + (1 : Int32) = i3 ((j + 1 : Nat) : Int) := inc3 j
      have sb := sml_bd (P := P) (m := m) (i := 8 * (j / 6) + j % 6)
      have yb : -1 ≤ y ∧ y ≤ m := by
        rcases hb with ⟨-, q, -⟩ | ⟨r, c, -, -, -, -, q, -⟩
        · omega
        · have := sml_bd (P := P) (m := m) (i := 8 * r + c); omega
      have go : ∃ z : Int × Int, bsM P m (j + 1) z.1 z.2 ∧ f_L_fits_474 (f_L_fits_433 n) (i3 (nR P)) (i3 (nC P)) x4 (i3 (m : Int)) x9 x11 x13 x15 (i3 x) (i3 y) (i3 (j : Int)) (i3 (sml P m (8 * (j / 6) + j % 6))) s = f_L_fits_433 n (i3 (nR P)) (i3 (nC P)) x4 (i3 (m : Int)) x9 x11 x13 x15 (i3 z.1) (i3 z.2) (i3 ((j + 1 : Nat) : Int)) s := by
        generalize hsm : sml P m (8 * (j / 6) + j % 6) = w at sb
        simp only [f_L_fits_474, e1, e4, f_L_fits_506, f_L_fits_532, ec, lt_k, incj, j10, j00, if_true, if_false]
        have keep : (j / 6 < nR P → j % 6 < nC P → w ≤ y) → ∃ z : Int × Int, bsM P m (j + 1) z.1 z.2 ∧ f_L_fits_433 n (i3 (nR P)) (i3 (nC P)) x4 (i3 (m : Int)) x9 x11 x13 x15 (i3 x) (i3 y) (i3 ((j + 1 : Nat) : Int)) s = f_L_fits_433 n (i3 (nR P)) (i3 (nC P)) x4 (i3 (m : Int)) x9 x11 x13 x15 (i3 z.1) (i3 z.2) (i3 ((j + 1 : Nat) : Int)) s := by
          intro e
          refine ⟨(x, y), ?_, rfl⟩
          rcases hb with ⟨q1, q2, q3⟩ | ⟨r, c, q1, q2, q3, q4, q5, q6, q7⟩
          · refine Or.inl ⟨q1, q2, fun a d ha hd hlt => ?_⟩
            by_cases ej : 6 * a + d = j
            · have b1 : a = j / 6 := by omega
              have b2 : d = j % 6 := by omega
              have := e (b1 ▸ ha) (b2 ▸ hd)
              omega
            · exact q3 a d ha hd (by omega)
          · refine Or.inr ⟨r, c, q1, q2, by omega, q4, q5, fun a d ha hd hlt => ?_, q7⟩
            by_cases ej : 6 * a + d = j
            · have b1 : a = j / 6 := by omega
              have b2 : d = j % 6 := by omega
              have e' := e (b1 ▸ ha) (b2 ▸ hd)
              rw [b1, b2, hsm, ← q5]; exact e'
            · exact q6 a d ha hd (by omega)
        by_cases d1 : nR P ≤ j / 6
        · rw [if_pos (le3 (by omega))]
          exact keep (fun w => by omega)
        · rw [if_neg (nle3 (by omega))]
          by_cases d2 : nC P ≤ j % 6
          · rw [if_pos (le3 (by omega))]
            exact keep (fun _ w => by omega)
          · rw [if_neg (nle3 (by omega))]
            by_cases e : w ≤ y
            · rw [if_pos (le3 (by omega))]
              exact keep (fun _ _ => e)
            · rw [if_neg (nle3 (by omega))]
              refine ⟨(10 * ((j / 6 : Nat) : Int) + ((j % 6 : Nat) : Int), w), Or.inr ⟨j / 6, j % 6, by omega, by omega, by omega, rfl, hsm.symm, fun a d ha hd hlt => ?_, fun a d ha hd hlt => ?_⟩, rfl⟩
              · rw [hsm]
                by_cases ej : 6 * a + d = j
                · have b1 : a = j / 6 := by omega
                  have b2 : d = j % 6 := by omega
                  rw [b1, b2, hsm]; exact Int.le_refl _
                · rcases hb with ⟨q1, q2, q3⟩ | ⟨r, c, q1, q2, q3, q4, q5, q6, q7⟩
                  · exact absurd (show 6 * a + d < j by omega) (q3 a d ha hd)
                  · have := q6 a d ha hd (by omega); omega
              · rw [hsm]
                rcases hb with ⟨q1, q2, q3⟩ | ⟨r, c, q1, q2, q3, q4, q5, q6, q7⟩
                · exact absurd (show 6 * a + d < j by omega) (q3 a d ha hd)
                · have := q6 a d ha hd (by omega); omega
      have hs : i3 (sml P m (8 * (j / 6) + j % 6)) = (if (m : Int) - tal P m (8 * (j / 6) + j % 6) ≤ tal P m (8 * (j / 6) + j % 6) then i3 ((m : Int) - tal P m (8 * (j / 6) + j % 6)) else i3 (tal P m (8 * (j / 6) + j % 6))) := by
        unfold sml
        split <;> split <;> congr 1 <;> omega
      simp only [f_L_fits_433, if_neg el, if_neg em, hck, clampN (show j < 2147483648 by omega), t, es]
      by_cases e : (m : Int) - tal P m (8 * (j / 6) + j % 6) ≤ tal P m (8 * (j / 6) + j % 6)
      · rw [if_pos (le3 (by omega))]
        rw [if_pos e] at hs
        rw [← hs]; exact go
      · rw [if_neg (nle3 (by omega))]
        rw [if_neg e] at hs
        rw [← hs]; exact go
  · refine ⟨-9, ⟨fun _ => rfl, fun w => absurd w h2⟩, ?_⟩
    obtain ⟨b, hB⟩ : ∃ b, BIG = b + 1 := ⟨4095, rfl⟩
    have el : ¬ (36 : Int32) ≤ 0 := by decide
    have em : i3 (m : Int) ≤ (1 : Int32) := by rw [l3_1]; exact le3 (by omega)
    have un : f_L_fits_433 BIG (i3 (nR P)) (i3 (nC P)) x4 (i3 (m : Int)) x9 x11 x13 x15 (-9 : Int32) (-1 : Int32) (0 : Int32) s = f_L_fits_433 (b + 1) (i3 (nR P)) (i3 (nC P)) x4 (i3 (m : Int)) x9 x11 x13 x15 (-9 : Int32) (-1 : Int32) (0 : Int32) s := by rw [hB]
    rw [un, l3_m9]
    simp only [f_L_fits_433, if_neg el, if_pos em]
/-- the board's mask, row by row -/
theorem cells_row {C r : Nat} (hC : C ≤ 6) (hr : r < 6) (t : Nat) (ht : t < 64) : tb (shlL ((shlL (1 : Int64) (i3 (C : Int))) - (1 : Int64)) ((6 : Int32) * i3 (r : Int))) t = decide (t / 6 = r ∧ t % 6 < C) := by
  have e6 : (6 : Int32) * i3 (r : Int) = i3 ((6 * r : Nat) : Int) := by rw [l3_6, i3_mul]; rfl
  rw [e6, tb_shl _ (by omega)]
  show (decide (t < 64) && decide (6 * r ≤ t) && tb (bv C - 1) (t - 6 * r)) = _
  rw [bvm1 (by omega) _ (by omega), decide_eq_true ht, Bool.true_and, ← Bool.decide_and]
  congr 1
  exact propext ⟨fun w => by omega, fun w => by omega⟩
/-- what is left to check behind the board's mask -/
def endF (x4 x9 x11 x13 : Int64) (x15 x16 : Int32) (cells : Int64) (o : Mem → Out) : Prop := ∀ n x2 x3 x20 s, x2 ≤ x20 → f_L_fits_560 (n + 1) x2 x3 x4 x9 x11 x13 x15 x16 cells x20 s = o s
theorem fits_cells (ok : okP P) (x4 x9 x11 x13 : Int64) (x15 x16 : Int32) (s : Mem) : ∃ n, f_L_fits_560 BIG (i3 (nR P)) (i3 (nC P)) x4 x9 x11 x13 x15 x16 (0 : Int64) (0 : Int32) s = f_L_fits_560 (n + 1) (i3 (nR P)) (i3 (nC P)) x4 x9 x11 x13 x15 x16 (V (bdI (nR P) (nC P))) (i3 (nR P : Int)) s := by
  have o1 := ok.2.1
  have o2 := ok.2.2.2.1
  rw [show (0 : Int32) = i3 ((0 : Nat) : Int) from l3_0]
  refine loop_st (σ := Int64) (fun n r z => f_L_fits_560 n (i3 (nR P)) (i3 (nC P)) x4 x9 x11 x13 x15 x16 z (i3 (r : Int)) s) (fun r z => ∀ t, t < 64 → tb z t = decide (t / 6 < r ∧ t % 6 < nC P))
    (fun o => ∃ n, o = f_L_fits_560 (n + 1) (i3 (nR P)) (i3 (nC P)) x4 x9 x11 x13 x15 x16 (V (bdI (nR P) (nC P))) (i3 (nR P : Int)) s) (nR P) ?_ ?_ BIG 0 0 (by omega) (BIG_lt (by omega)) (fun t _ => by rw [tb_0, decide_eq_false (by omega)])
  · rintro n z hz
    refine ⟨n, ?_⟩
    have e : z = V (bdI (nR P) (nC P)) := tb_ext (fun t ht => by
      rw [hz t ht, tb_V]
      by_cases h : t < 36
      · rw [decide_eq_true h, Bool.true_and]
        have := tb_iff (x := bdI (nR P) (nC P)) (r := t / 6) (c := t % 6) (by omega) (by omega)
        rw [zc_bd o1 o2] at this
        cases hq : tb (bdI (nR P) (nC P)) (8 * (t / 6) + t % 6)
        · exact decide_eq_false (fun w => by rw [this.mpr w] at hq; cases hq)
        · exact decide_eq_true (this.mp hq)
      · rw [decide_eq_false (by omega), decide_eq_false h, Bool.false_and])
    rw [e]
  · rintro n r z hr hz
    left
    have el : ¬ i3 (nR P : Int) ≤ i3 (r : Int) := nle3 (by omega)
    refine ⟨z ||| shlL ((shlL (1 : Int64) (i3 (nC P : Int))) - (1 : Int64)) ((6 : Int32) * i3 (r : Int)), fun t ht => ?_, by simp only [f_L_fits_560, if_neg el, lt_k, inc3]⟩
    rw [tb_or, hz t ht, cells_row o2 (by omega) t ht, ← Bool.decide_or]
    congr 1
    exact propext ⟨fun w => by omega, fun w => by omega⟩
theorem fits_end (ok : okP P) (hm : cntF P (m + 1)) (h99 : m + 1 < 100) {s : Mem} {B : Ab} (h : fS P (cur P (m + 1)) (m + 1) s B) {w : Int} (hw : bstQ P (m + 1) w) (n : Nat) :
    ∃ s' B', f_L_fits_560 (n + 1) (i3 (nR P)) (i3 (nC P)) (V (fX P)) (V (cur P (m + 1))) (allq P (m + 1)) (someq P (m + 1)) (i3 (nrq P (m + 1))) (i3 w) (V (bdI (nR P) (nC P))) (i3 (nR P : Int)) s = rI (1 : Int32) s' ∧ cInv s' B' ∧ aP B' = P := by
  obtain ⟨c, e1, e2, e3, -⟩ := h
  have bX := brdX ok ok.2.2.2.2.1
  have gs := gq_s hm (show m < m + 1 by omega)
  have gf := gq_f hm (show m < m + 1 by omega)
  have bg := gq_brd ok hm (show m < m + 1 by omega)
  have el : i3 (nR P : Int) ≤ i3 (nR P : Int) := le3 (by have := ok.2.1; omega)
  have ecur : cur P (m + 1) = gq P m := rfl
  have zz : ∀ x : Int64, (lg_cmp x x = 0) = True := fun x => by rw [zcmp_eq]; exact eq_true rfl
  have fits : ∃ y, fitP P (fX P) y := ⟨_, gf⟩
  -- no further one
  obtain ⟨s1, n1, n2, n3⟩ : ∃ s1, F_L_nextOr s = rI (-1 : Int32) s1 ∧ cInv s1 B ∧ True := by
    rcases nx_c c with ⟨G, μ', w1, w2, w3, w4⟩ | ⟨μ', w1, w2, w3, w4⟩
    · rw [e1] at w2
      exact absurd ⟨G, _, gs, w2⟩ (hm.2.2 h99)
    · exact ⟨μ', nextOr_x w1, w4, trivial⟩
  -- back
  obtain ⟨s2, r1, -, r2⟩ := re_c n2 e2
  obtain ⟨B2, hB2⟩ : ∃ X, X = (aS B 0, (0, aH B), B.2.2) := ⟨_, rfl⟩
  have hS : aP B2 = P ∧ aSv B2 0 = true ∧ aS B2 0 = P := by rw [hB2]; exact ⟨e3, e2, e3⟩
  rw [← hB2] at r2
  rw [e3] at r1
  -- the last one
  obtain ⟨G, s3, l1, l2, l3⟩ : ∃ G s3, F_X7_solve (1 : Int32) s2 = rI (i3 (pc (fX P ^^^ G))) s3 ∧ G = gq P m ∧ cInv s3 (actA B2 (mkX (aP B2) G)) := by
    rcases so_b r2 true with ⟨G, μ', w1, w2, w3, w4⟩ | ⟨μ', w1, w2, w3, w4⟩
    · rw [← (so_e s2).2] at w1
      rw [hS.1] at w1 w2
      exact ⟨G, μ', w1, last_told ok hm h99 w2, w4⟩
    · rw [hS.1] at w2
      exact absurd fits w2
  subst l2
  have b3 := bits_0 l3
  have b3' : F_L_bits (0 : Int32) s3 = rJ (V (gq P m)) s3 := b3
  -- back again
  obtain ⟨s4, q1, -, q2⟩ := re_c l3 hS.2.1
  have q1' : F_X7_restore (0 : Int32) s3 = rI (i3 (pc (fX P))) s4 := by
    rw [q1]
    show rI (i3 (pc (fX (aS B2 0)))) s4 = _
    rw [hS.2.2]
  obtain ⟨B4, hB4⟩ : ∃ X, X = (aS (actA B2 (mkX (aP B2) (gq P m))) 0, (0, aH (actA B2 (mkX (aP B2) (gq P m)))), (actA B2 (mkX (aP B2) (gq P m))).2.2) := ⟨_, rfl⟩
  have hP4 : aP B4 = P := by rw [hB4]; exact hS.2.2
  rw [← hB4] at q2
  have b4 := bits_0 q2
  rw [hP4] at b4
  -- the sure ones
  obtain ⟨s5, y, K, u1, u2, u3, u4, u5⟩ := sr_c q2 true
  rw [hP4] at u2 u5
  have hK := u5 fits
  obtain ⟨sa1, sa2, sa3⟩ := sure_all ok hm (by omega) h99 u2 hK
  have yb : brd y := by
    rcases u2 with ⟨-, b⟩ | ⟨-, b⟩
    · exact brdX ok (fun r c q => ((b r c).mp q).1)
    · rw [b]; exact brd_0
  have byK : brd (y &&& K) := brd_sub yb (fun r c q => ((zc_and _ _ _ _).mp q).1)
  have bynK : brd (y &&& (K ^^^ (-1 : Int64))) := brd_rem yb
  obtain ⟨s6, y', K', v1, v2, v3, v4, v5⟩ := sr_c u4 false
  rw [hP4] at v2 v5
  have ey : y' = y := isSure_uni v2 u2
  subst ey
  have hK' := v5 fits
  have sb2 := (sure_all ok hm (by omega) h99 v2 hK').2.1
  have eKK : V (y' &&& (K ^^^ (-1 : Int64))) = V (y' &&& (K' ^^^ (-1 : Int64))) := sa2.symm.trans sb2
  have bynK' : brd (y' &&& (K' ^^^ (-1 : Int64))) := brd_rem yb
  obtain ⟨s7, w1, w2, w3⟩ := bits_4 v4 (by rw [hP4]; exact v2)
  have hmB : cntF (aP B4) (m + 1) := by rw [hP4]; exact hm
  obtain ⟨-, vN, s8, x1, x2, x3, x4⟩ := (ne_c w3 hmB).resolve_right (fun w => by omega)
  rw [hP4] at x4
  have eN : vN = nrq P (m + 1) := isNear_uni x4 (nrq_near ok hm (by omega))
  subst eN
  obtain ⟨vS, s9, z1, z2, z3, z4, z5⟩ := sp_c x3 hmB
  rw [hP4] at z5
  have eS : vS = w := by
    by_cases h2 : 2 ≤ m + 1
    · exact isBest_uni ok (z5 ⟨h2, h99⟩) (hw.2 h2)
    · rw [z4 (by omega), hw.1 (by omega)]
  subst eS
  refine ⟨s9, B4, ?_, z3, hP4⟩
  have p0 := pc_nn (fX P)
  have p36 := pc_36 bX
  have bx : brd (gq P m ^^^ fX P) := xor_brd ok gf.1
  have k4 : ¬ i3 (pc (fX P)) < 0 := by rw [l3_0]; exact nlt3 (by omega)
  have t1 : ((-1 : Int32) = (-1 : Int32)) = True := eq_self _
  have o1 : ∀ μ, F_L_ones (V (gq P m) ^^^ V (fX P)) μ = rI (i3 (pc (fX P ^^^ gq P m))) μ := fun μ => by rw [V_xor, ones_V bx, xorc]
  have u1' : F_X7_sure (1 : Int32) s4 = rI (i3 (pc (y' &&& K))) s5 := u1
  have v1' : F_X7_sure (0 : Int32) s5 = rI (i3 (pc (y' &&& (K' ^^^ (-1 : Int64))))) s6 := v1
  simp only [f_L_fits_560, if_pos el, n1, cI_k, t1, if_true, r1, ones_V bX, l1, ecur, o1, b3', cJ_k, zz, q1', if_neg k4, b4, u1', sa1, ones_V byK, v1', sb2, ones_V bynK', w1, sa3, x1, z1]
/-- the end, where there are a hundred or more -/
theorem fits_end100 (ok : okP P) (hm : cntF P 100) {s : Mem} {B : Ab} {g : Int64} {k : Nat} (h : fS P g k s B) (k174 : Int32 → Int32 → Int64 → Int64 → Int32 → Int64 → Int64 → Int64 → Int32 → Int32 → Mem → Out) (x6 x9 x11 x13 : Int64) (x15 x16 s0 s1 : Int32) (hle : s0 ≤ s1) :
    ∃ s' B', f_L_fits_190 k174 (i3 (nR P)) (i3 (nC P)) (V (fX P)) x6 (i3 ((100 : Nat) : Int)) x9 x11 x13 x15 x16 s0 s1 s = rI (1 : Int32) s' ∧ cInv s' B' ∧ aP B' = P := by
  obtain ⟨c, e1, e2, e3, -⟩ := h
  have bX := brdX ok ok.2.2.2.2.1
  have zz : ∀ x : Int64, (lg_cmp x x = 0) = True := fun x => by rw [zcmp_eq]; exact eq_true rfl
  have t9 : ((-9 : Int32) = (-9 : Int32)) = True := eq_self _
  have t1 : ((-1 : Int32) = (-1 : Int32)) = True := eq_self _
  have e100 : i3 ((100 : Nat) : Int) = (100 : Int32) := by decide
  have t100 : ((100 : Int32) = (100 : Int32)) = True := eq_self _
  obtain ⟨s2, r1, -, r2⟩ := re_c c e2
  obtain ⟨B2, hB2⟩ : ∃ X, X = (aS B 0, (0, aH B), B.2.2) := ⟨_, rfl⟩
  have hP2 : aP B2 = P := by rw [hB2]; exact e3
  rw [← hB2] at r2
  rw [e3] at r1
  have b2 := bits_0 r2
  rw [hP2] at b2
  have hmB : cntF (aP B2) 100 := by rw [hP2]; exact hm
  obtain ⟨vS, s3, z1, z2, z3, z4, -⟩ := sp_c r2 hmB
  have ev : vS = -9 := z4 (by omega)
  subst ev
  have z1' : F_X7_split s2 = rI (-9 : Int32) s3 := z1
  obtain ⟨-, s4, x1, x2, x3⟩ := (ne_c z3 hmB).resolve_left (fun w => w.1 (Or.inr rfl))
  refine ⟨s4, B2, ?_, x3, hP2⟩
  simp only [f_L_fits_190, if_pos hle, e100, t100, if_true, r1, cI_k, ones_V bX, b2, cJ_k, zz, z1', t9, nearestOr_x x1, t1]
end FE
