/-! what the law asks of each line -/
theorem rn_congr {g h : Nat → Bool} : ∀ {n : Nat}, (∀ i, i < n → g i = h i) → rn g n = rn h n ∧ mrn g n = mrn h n
  | 0, _ => ⟨rfl, rfl⟩
  | n + 1, e => by
    obtain ⟨a, b⟩ := rn_congr (n := n) (fun i hi => e i (by omega))
    have c : rn g (n + 1) = rn h (n + 1) := by unfold rn; rw [e n (by omega), a]
    exact ⟨c, by unfold mrn; rw [b, c]⟩
theorem nrn_congr {g h : Nat → Bool} {n : Nat} (e : ∀ i, i < n → g i = h i) : nrn g n = nrn h n := zs_congr (fun i hi => by
  rw [e i hi]
  by_cases q : 1 ≤ i
  · rw [e (i - 1) (by omega)]
  · rw [decide_eq_false q, Bool.false_and, Bool.false_and])
def sixN (a b c d e f : Bool) : Nat := (if a then 1 else 0) + (if b then 2 else 0) + (if c then 4 else 0) + (if d then 8 else 0) + (if e then 16 else 0) + (if f then 32 else 0)
theorem six_bits : ∀ a b c d e f : Bool, sixN a b c d e f < 64 ∧ (sixN a b c d e f).testBit 0 = a ∧ (sixN a b c d e f).testBit 1 = b ∧ (sixN a b c d e f).testBit 2 = c ∧ (sixN a b c d e f).testBit 3 = d ∧ (sixN a b c d e f).testBit 4 = e ∧ (sixN a b c d e f).testBit 5 = f := by decide +kernel
theorem ln_all : ∀ (k : Fin 64) (n : Fin 7), ((mrn (fun i => k.val.testBit i) n.val : Nat) : Int) ≤ zs n.val (fun i => b2 (k.val.testBit i)) ∧ (zs n.val (fun i => b2 (k.val.testBit i)) = 0 ∨ 1 ≤ mrn (fun i => k.val.testBit i) n.val) ∧
    zs n.val (fun i => b2 (k.val.testBit i)) ≤ nrn (fun i => k.val.testBit i) n.val * (mrn (fun i => k.val.testBit i) n.val : Nat) ∧ (nrn (fun i => k.val.testBit i) n.val ≤ 0 ∨ nrn (fun i => k.val.testBit i) n.val + (mrn (fun i => k.val.testBit i) n.val : Nat) - 1 ≤ zs n.val (fun i => b2 (k.val.testBit i))) := by decide +kernel
theorem ln_fact (g : Nat → Bool) {n : Nat} (hn : n ≤ 6) : ((mrn g n : Nat) : Int) ≤ zs n (fun i => b2 (g i)) ∧ (zs n (fun i => b2 (g i)) = 0 ∨ 1 ≤ mrn g n) ∧ zs n (fun i => b2 (g i)) ≤ nrn g n * (mrn g n : Nat) ∧ (nrn g n ≤ 0 ∨ nrn g n + (mrn g n : Nat) - 1 ≤ zs n (fun i => b2 (g i))) := by
  obtain ⟨hk, h0, h1, h2, h3, h4, h5⟩ := six_bits (g 0) (g 1) (g 2) (g 3) (g 4) (g 5)
  generalize sixN (g 0) (g 1) (g 2) (g 3) (g 4) (g 5) = k at hk h0 h1 h2 h3 h4 h5
  have e : ∀ i, i < n → g i = k.testBit i := fun i hi => by
    have : i = 0 ∨ i = 1 ∨ i = 2 ∨ i = 3 ∨ i = 4 ∨ i = 5 := by omega
    rcases this with rfl | rfl | rfl | rfl | rfl | rfl
    · exact h0.symm
    · exact h1.symm
    · exact h2.symm
    · exact h3.symm
    · exact h4.symm
    · exact h5.symm
  have a := ln_all ⟨k, hk⟩ ⟨n, by omega⟩
  have e1 := (rn_congr e).2
  have e2 := nrn_congr e
  have e3 : zs n (fun i => b2 (g i)) = zs n (fun i => b2 (k.testBit i)) := zs_congr (fun i hi => by rw [e i hi])
  rw [e1, e2, e3]
  exact a
abbrev s1 (P : Pic) (l i : Nat) : Int := zs i (fun j => b2 (lnB P (fX P) l j))
abbrev s2 (P : Pic) (l i : Nat) : Int := zs i (fun j => b2 (lnB P (fP P) l j))
abbrev s3 (P : Pic) (l i : Nat) : Int := nrn (lnB P (fX P) l) i
abbrev s4 (P : Pic) (l i : Nat) : Int := zs i (fun j => b2 (!(lnB P (fX P) l j) && lnB P (fP P) l j))
abbrev s5 (P : Pic) (l i : Nat) : Int := zs i (fun j => b2 (lnB P (fX P) l j && lnB P (fP P) l j))
theorem ad1 (a : Int) : i3 a + (1 : Int32) = i3 (a + 1) := by rw [l3_1, i3_add]
theorem ad0 (a : Int) : i3 a + (0 : Int32) = i3 (a + 0) := by rw [l3_0, i3_add]
theorem j11 : ((1 : Int32) = (1 : Int32)) = True := by simp
theorem j10 : ((1 : Int32) = (0 : Int32)) = False := by decide
theorem j01 : ((0 : Int32) = (1 : Int32)) = False := by decide
theorem j00 : ((0 : Int32) = (0 : Int32)) = True := by simp
theorem i3o : i3 1 = (1 : Int32) := by decide
theorem pm1 {r : Nat} (h : 1 ≤ r) : i3 (r : Int) - (1 : Int32) = i3 ((r - 1 : Nat) : Int) := by rw [l3_1, i3_sub]; congr 1; omega
set_option maxHeartbeats 2000000 in
theorem lines_step {P : Pic} (ok : okP P) {l : Nat} (hl : l < nR P + nC P) (k40 : Int32 → Int32 → Int64 → Int64 → Int32 → Int32 → Int32 → Int32 → Int32 → Mem → Out) (N : Nat) (x7 x8 x9 x10 : Int32) {i : Nat} (hi : i < lenL P l) (μ : Mem) :
    f_L_lines_79 k40 (N + 1) (i3 (nR P)) (i3 (nC P)) (V (fX P)) (V (fP P)) x7 x8 x9 x10 (i3 (l : Int)) (i3 (lenL P l)) (i3 (s1 P l i)) (i3 (s2 P l i)) (i3 (s3 P l i)) (i3 (s4 P l i)) (i3 (s5 P l i)) (i3 (i : Int)) μ =
    f_L_lines_79 k40 N (i3 (nR P)) (i3 (nC P)) (V (fX P)) (V (fP P)) x7 x8 x9 x10 (i3 (l : Int)) (i3 (lenL P l)) (i3 (s1 P l (i + 1))) (i3 (s2 P l (i + 1))) (i3 (s3 P l (i + 1))) (i3 (s4 P l (i + 1))) (i3 (s5 P l (i + 1))) (i3 ((i + 1 : Nat) : Int)) μ := by
  have o1 := ok.2.1
  have o2 := ok.2.2.2.1
  have hb := lin_bd ok hl hi
  have l6 := len6 ok l
  have el : ¬ i3 (lenL P l : Int) ≤ i3 (i : Int) := nle3 (by omega)
  have hx : F_L_at (V (fX P)) (i3 (rowL P l i : Int)) (i3 (colL P l i : Int)) μ = rI (i3 (b2 (lnB P (fX P) l i))) μ := at_nat (fX P) (by omega) (by omega) μ
  have hp : F_L_at (V (fP P)) (i3 (rowL P l i : Int)) (i3 (colL P l i : Int)) μ = rI (i3 (b2 (lnB P (fP P) l i))) μ := at_nat (fP P) (by omega) (by omega) μ
  have e1 : s1 P l (i + 1) = s1 P l i + b2 (lnB P (fX P) l i) := zs_s _ _
  have e2 : s2 P l (i + 1) = s2 P l i + b2 (lnB P (fP P) l i) := zs_s _ _
  have e3 : s3 P l (i + 1) = s3 P l i + b2 (lnB P (fX P) l i && !(decide (1 ≤ i) && lnB P (fX P) l (i - 1))) := zs_s _ _
  have e4 : s4 P l (i + 1) = s4 P l i + b2 (!(lnB P (fX P) l i) && lnB P (fP P) l i) := zs_s _ _
  have e5 : s5 P l (i + 1) = s5 P l i + b2 (lnB P (fX P) l i && lnB P (fP P) l i) := zs_s _ _
  rw [e1, e2, e3, e4, e5]
  generalize s1 P l i = a1
  generalize s2 P l i = a2
  generalize s3 P l i = a3
  generalize s4 P l i = a4
  generalize s5 P l i = a5
  have hq : 1 ≤ i → (if nR P ≤ l then F_L_at (V (fX P)) (i3 (rowL P l i : Int) - (1 : Int32)) (i3 (colL P l i : Int)) μ else F_L_at (V (fX P)) (i3 (rowL P l i : Int)) (i3 (colL P l i : Int) - (1 : Int32)) μ) = rI (i3 (b2 (lnB P (fX P) l (i - 1)))) μ := fun h1 => by
    have hb' := lin_bd ok hl (show i - 1 < lenL P l by omega)
    have := at_nat (fX P) (r := rowL P l (i - 1)) (c := colL P l (i - 1)) (by omega) (by omega) μ
    unfold lnB
    unfold rowL colL at this ⊢
    by_cases a : nR P ≤ l
    · simp only [if_pos a] at this ⊢
      rw [pm1 h1]; exact this
    · simp only [if_neg a] at this ⊢
      rw [pm1 h1]; exact this
  have i0 : (i3 (i : Int) = (0 : Int32)) = (i = 0) := by rw [l3_0, i3_eq (by omega) (by omega)]; exact propext ⟨fun w => by omega, fun w => by omega⟩
  have inc := inc3 i
  generalize lnB P (fX P) l (i - 1) = q0 at *
  generalize lnB P (fX P) l i = q1 at *
  generalize lnB P (fP P) l i = q2 at *
  by_cases a : nR P ≤ l
  · have ea : i3 (nR P : Int) ≤ i3 (l : Int) := le3 (by omega)
    have er : rowL P l i = i := if_pos a
    have ec : i3 (l : Int) - i3 (nR P : Int) = i3 (colL P l i : Int) := by rw [i3_subn a]; unfold colL; rw [if_pos a]
    rw [er] at hx hp
    simp only [if_pos a, er] at hq
    simp only [f_L_lines_79, if_neg el, if_pos ea, f_L_lines_99, ec, f_L_lines_116, hx, hp, cI_k, lt_k, f_L_lines_204, f_L_lines_227, f_L_lines_178, inc, i0]
    cases q1
    · cases q2 <;> simp only [i3o, iz0, j11, j10, j01, j00, if_true, if_false, hx, hp, cI_k, ad0, ad1, b2_f, b2_t, Bool.false_and, Bool.and_false, Bool.true_and, Bool.not_false, Bool.not_true, Bool.and_self, Int.add_zero]
    · by_cases z : i = 0
      · cases q2 <;> simp only [z, i3o, iz0, j11, j10, j01, j00, if_true, if_false, hx, hp, cI_k, ad0, ad1, b2_f, b2_t, Bool.false_and, Bool.and_false, Bool.true_and, Bool.not_false, Bool.not_true, Bool.and_self, Int.add_zero, show decide (1 ≤ 0) = false from rfl, z ▸ hp]
      · have hq' := hq (by omega)
        cases q2 <;> cases q0 <;> simp only [z, i3o, iz0, j11, j10, j01, j00, if_true, if_false, hx, hp, hq', cI_k, ad0, ad1, b2_f, b2_t, Bool.false_and, Bool.and_false, Bool.true_and, Bool.not_false, Bool.not_true, Bool.and_self, Int.add_zero, show decide (1 ≤ i) = true from decide_eq_true (by omega)]
  · have ea : ¬ i3 (nR P : Int) ≤ i3 (l : Int) := nle3 (by omega)
    have er : rowL P l i = l := if_neg a
    have ec : colL P l i = i := if_neg a
    rw [er, ec] at hx hp
    simp only [if_neg a, er, ec] at hq
    simp only [f_L_lines_79, if_neg el, if_neg ea, f_L_lines_99, f_L_lines_116, hx, hp, cI_k, lt_k, f_L_lines_204, f_L_lines_227, f_L_lines_178, inc, i0]
    cases q1
    · cases q2 <;> simp only [i3o, iz0, j11, j10, j01, j00, if_true, if_false, hx, hp, cI_k, ad0, ad1, b2_f, b2_t, Bool.false_and, Bool.and_false, Bool.true_and, Bool.not_false, Bool.not_true, Bool.and_self, Int.add_zero]
    · by_cases z : i = 0
      · cases q2 <;> simp only [z, i3o, iz0, j11, j10, j01, j00, if_true, if_false, hx, hp, cI_k, ad0, ad1, b2_f, b2_t, Bool.false_and, Bool.and_false, Bool.true_and, Bool.not_false, Bool.not_true, Bool.and_self, Int.add_zero, show decide (1 ≤ 0) = false from rfl, z ▸ hp]
      · have hq' := hq (by omega)
        cases q2 <;> cases q0 <;> simp only [z, i3o, iz0, j11, j10, j01, j00, if_true, if_false, hx, hp, hq', cI_k, ad0, ad1, b2_f, b2_t, Bool.false_and, Bool.and_false, Bool.true_and, Bool.not_false, Bool.not_true, Bool.and_self, Int.add_zero, show decide (1 ≤ i) = true from decide_eq_true (by omega)]
theorem lnB_and (P : Pic) (x y : Int64) (l i : Nat) : lnB P (x &&& y) l i = (lnB P x l i && lnB P y l i) := tb_and _ _ _
theorem s_end {P : Pic} (ok : okP P) {l : Nat} (hl : l < nR P + nC P) : s1 P l (lenL P l) = cnt (nR P) (fX P) l ∧ s2 P l (lenL P l) = cnt (nR P) (fP P) l ∧ s4 P l (lenL P l) = cnt (nR P) (fP P &&& (fX P ^^^ (-1 : Int64))) l ∧ s5 P l (lenL P l) = cnt (nR P) (fP P &&& fX P) l := by
  have o1 := ok.2.1
  have o2 := ok.2.2.2.1
  refine ⟨lin_sum ok ok.2.2.2.2.1 hl, lin_sum ok ok.2.2.2.2.2.1 hl, ?_, ?_⟩
  · rw [← lin_sum ok (y := fP P &&& (fX P ^^^ (-1 : Int64))) (fun r c q => ok.2.2.2.2.2.1 r c ((zc_rem r c).mp q).1) hl]
    refine zs_congr (fun i hi => ?_)
    have hb := lin_bd ok hl hi
    rw [tb_and, tb_not _ (by omega), Bool.and_comm]
  · rw [← lin_sum ok (y := fP P &&& fX P) (fun r c q => ok.2.2.2.2.2.1 r c ((zc_and _ _ _ _).mp q).1) hl]
    refine zs_congr (fun i hi => ?_)
    rw [tb_and, Bool.and_comm]
theorem nrn_bd (g : Nat → Bool) {n : Nat} (hn : n ≤ 6) : 0 ≤ nrn g n ∧ nrn g n ≤ 6 := by
  refine ⟨zs_pos (fun i _ => b2_0 _), ?_⟩
  have := zs_bnd (n := n) (f := fun i => b2 (g i && !(decide (1 ≤ i) && g (i - 1)))) 1 (fun i _ => b2_1 _)
  have e : nrn g n = zs n (fun i => b2 (g i && !(decide (1 ≤ i) && g (i - 1)))) := rfl
  omega
set_option maxHeartbeats 2000000 in
/-- a line's end: all is as told, and the sums go on -/
theorem lines_end {μ : Mem} {A : Ab} (h : cInv μ A) {l : Nat} (hl : l < nR (aP A) + nC (aP A)) (k40 : Int32 → Int32 → Int64 → Int64 → Int32 → Int32 → Int32 → Int32 → Int32 → Mem → Out) (N : Nat) (a7 a8 a9 a10 : Int) :
    f_L_lines_79 k40 (N + 1) (i3 (nR (aP A))) (i3 (nC (aP A))) (V (fX (aP A))) (V (fP (aP A))) (i3 a7) (i3 a8) (i3 a9) (i3 a10) (i3 (l : Int)) (i3 (lenL (aP A) l)) (i3 (s1 (aP A) l (lenL (aP A) l))) (i3 (s2 (aP A) l (lenL (aP A) l))) (i3 (s3 (aP A) l (lenL (aP A) l))) (i3 (s4 (aP A) l (lenL (aP A) l))) (i3 (s5 (aP A) l (lenL (aP A) l))) (i3 (lenL (aP A) l : Int)) μ =
    k40 (i3 (nR (aP A))) (i3 (nC (aP A))) (V (fX (aP A))) (V (fP (aP A))) (i3 (a7 + if l < nR (aP A) then cnt (nR (aP A)) (fX (aP A)) l else 0)) (i3 (a8 + if l < nR (aP A) then 0 else cnt (nR (aP A)) (fX (aP A)) l)) (i3 (a9 + if cnt (nR (aP A)) (fX (aP A)) l = wnt (aP A) l then 0 else 1)) (i3 (a10 + wnt (aP A) l)) (i3 ((l + 1 : Nat) : Int)) μ := by
  have ok := h.2.1
  have o1 := ok.2.1
  have o2 := ok.2.2.2.1
  obtain ⟨t1, t2, t4, t5⟩ := s_end ok hl
  have l6 := len6 ok l
  have w6 := wnt_6 ok hl
  have lf := ln_fact (lnB (aP A) (fX (aP A)) l) l6
  have e1 : zs (lenL (aP A) l) (fun i => b2 (lnB (aP A) (fX (aP A)) l i)) = cnt (nR (aP A)) (fX (aP A)) l := t1
  rw [e1] at lf
  have nb := nrn_bd (lnB (aP A) (fX (aP A)) l) l6
  have c0 := cnt_0 (nR (aP A)) (fX (aP A)) l
  have c6 := cnt_6 (nR (aP A)) (fX (aP A)) l
  have p0 := cnt_0 (nR (aP A)) (fP (aP A)) l
  have p6 := cnt_6 (nR (aP A)) (fP (aP A)) l
  have z0 := cnt_0 (nR (aP A)) (fP (aP A) &&& (fX (aP A) ^^^ (-1 : Int64))) l
  have z6 := cnt_6 (nR (aP A)) (fP (aP A) &&& (fX (aP A) ^^^ (-1 : Int64))) l
  have q0 := cnt_0 (nR (aP A)) (fP (aP A) &&& fX (aP A)) l
  have q6 := cnt_6 (nR (aP A)) (fP (aP A) &&& fX (aP A)) l
  have L0 := l_0 h hl
  have L1 := l_1 h hl
  have L2 := l_2 h hl
  have L3 := l_3 h hl
  have L4 := l_4 h hl
  have WC := w_c h hl
  rw [t1, t2, t4, t5]
  show f_L_lines_79 k40 (N + 1) _ _ _ _ _ _ _ _ _ _ _ _ (i3 (nrn (lnB (aP A) (fX (aP A)) l) (lenL (aP A) l))) _ _ _ μ = _
  generalize nrn (lnB (aP A) (fX (aP A)) l) (lenL (aP A) l) = rr at *
  have mb : (mrn (lnB (aP A) (fX (aP A)) l) (lenL (aP A) l) : Int) ≤ 6 := by omega
  generalize mrn (lnB (aP A) (fX (aP A)) l) (lenL (aP A) l) = mm at *
  generalize cnt (nR (aP A)) (fX (aP A)) l = cc at *
  generalize cnt (nR (aP A)) (fP (aP A)) l = pp at *
  generalize cnt (nR (aP A)) (fP (aP A) &&& (fX (aP A) ^^^ (-1 : Int64))) l = bb at *
  generalize cnt (nR (aP A)) (fP (aP A) &&& fX (aP A)) l = uu at *
  generalize wnt (aP A) l = ww at *
  generalize lenL (aP A) l = ll at *
  have el : i3 (ll : Int) ≤ i3 (ll : Int) := le3 (by omega)
  have mul6 : 0 ≤ rr * (mm : Int) ∧ rr * (mm : Int) ≤ 36 := ⟨Int.mul_nonneg nb.1 (by omega), by
    have := Int.mul_le_mul nb.2 mb (by omega) (by omega)
    omega⟩
  have f306 : ∀ s0 : Int32, i3 (whyZ cc ww ll bb uu) = s0 → f_L_lines_306 k40 (i3 (nR (aP A))) (i3 (nC (aP A))) (V (fX (aP A))) (V (fP (aP A))) (i3 a7) (i3 a8) (i3 a9) (i3 a10) (i3 (l : Int)) (i3 cc) (i3 pp) (i3 rr) (i3 (ww : Int)) s0 μ =
      k40 (i3 (nR (aP A))) (i3 (nC (aP A))) (V (fX (aP A))) (V (fP (aP A))) (i3 (a7 + if l < nR (aP A) then cc else 0)) (i3 (a8 + if l < nR (aP A) then 0 else cc)) (i3 (a9 + if cc = ww then 0 else 1)) (i3 (a10 + ww)) (i3 ((l + 1 : Nat) : Int)) μ := by
    intro s0 hs0
    have n1 : ¬ i3 cc < i3 (mm : Int) := nlt3 (by omega)
    have g415 : f_L_lines_415 k40 (i3 (nR (aP A))) (i3 (nC (aP A))) (V (fX (aP A))) (V (fP (aP A))) (i3 a7) (i3 a8) (i3 a9) (i3 a10) (i3 (l : Int)) (i3 cc) (i3 (ww : Int)) μ =
        k40 (i3 (nR (aP A))) (i3 (nC (aP A))) (V (fX (aP A))) (V (fP (aP A))) (i3 (a7 + if l < nR (aP A) then cc else 0)) (i3 (a8 + if l < nR (aP A) then 0 else cc)) (i3 (a9 + if cc = ww then 0 else 1)) (i3 (a10 + ww)) (i3 ((l + 1 : Nat) : Int)) μ := by
      have ew : (i3 cc = i3 (ww : Int)) = (cc = ww) := i3_eq (by omega) (by omega)
      simp only [f_L_lines_415, f_L_lines_429, f_L_lines_446, f_L_lines_463, lt_k, inc3, ew]
      by_cases a : nR (aP A) ≤ l
      · have ea : i3 (nR (aP A) : Int) ≤ i3 (l : Int) := le3 (by omega)
        have na : ¬ l < nR (aP A) := by omega
        simp only [if_pos ea, if_neg na, i3_add, ad0]
        by_cases e : cc = (ww : Int)
        · simp only [if_pos e, ad0]
        · simp only [if_neg e, ad1]
      · have ea : ¬ i3 (nR (aP A) : Int) ≤ i3 (l : Int) := nle3 (by omega)
        have na : l < nR (aP A) := by omega
        simp only [if_neg ea, if_pos na, i3_add, ad0]
        by_cases e : cc = (ww : Int)
        · simp only [if_pos e, ad0]
        · simp only [if_neg e, ad1]
    have g383 : ∀ s : Int, s ≤ mm → 0 ≤ s → f_L_lines_383 k40 (i3 (nR (aP A))) (i3 (nC (aP A))) (V (fX (aP A))) (V (fP (aP A))) (i3 a7) (i3 a8) (i3 a9) (i3 a10) (i3 (l : Int)) (i3 cc) (i3 rr) (i3 (ww : Int)) (i3 (mm : Int)) (i3 s) (i3 (mm : Int)) μ =
        k40 (i3 (nR (aP A))) (i3 (nC (aP A))) (V (fX (aP A))) (V (fP (aP A))) (i3 (a7 + if l < nR (aP A) then cc else 0)) (i3 (a8 + if l < nR (aP A) then 0 else cc)) (i3 (a9 + if cc = ww then 0 else 1)) (i3 (a10 + ww)) (i3 ((l + 1 : Nat) : Int)) μ := by
      intro s hs1 hs2
      simp only [f_L_lines_383]
      rw [if_neg (nlt3 (by omega)), i3_mul, if_neg (nlt3 (by omega)), i3_add, l3_1, i3_sub, g415]
      by_cases e : rr + (mm : Int) - 1 ≤ cc
      · rw [if_pos (le3 (by omega))]
      · rw [if_neg (nle3 (by omega)), l3_0, if_pos (le3 (by omega))]
    have ec : (i3 cc = (0 : Int32)) = (cc = 0) := by rw [l3_0]; exact i3_eq (by omega) (by omega)
    simp only [f_L_lines_306, L3, L0, L4, L2, WC, cI_k, if_true, hs0, if_neg n1, ec]
    by_cases e : cc = 0
    · rw [if_pos e, l3_0]; exact g383 0 (by omega) (by omega)
    · rw [if_neg e, l3_1]; exact g383 1 (by omega) (by omega)
  have ew : (i3 cc = i3 (ww : Int)) = (cc = ww) := i3_eq (by omega) (by omega)
  simp only [f_L_lines_79, if_pos el, L1, cI_k, ew, i3_sub]
  by_cases e : cc = (ww : Int)
  · rw [if_pos e]; exact f306 _ (by rw [whyZ_0 e]; rfl)
  · rw [if_neg e]
    by_cases e2 : (ww : Int) ≤ (ll : Int) - bb
    · rw [if_pos (le3 (by omega))]
      by_cases e3 : uu ≤ ww
      · rw [if_pos (le3 (by omega))]; exact f306 _ (by rw [whyZ_3 e (by omega) (by omega)]; rfl)
      · rw [if_neg (nle3 (by omega))]; exact f306 _ (by rw [whyZ_2 e (by omega) (by omega)]; rfl)
    · rw [if_neg (nle3 (by omega))]; exact f306 _ (by rw [whyZ_1 e (by omega)]; rfl)
theorem pc_rows {x : Int64} (hx : brd x) : pc x = zs 6 (fun a => rct x a) := pc_z2 hx
theorem rct_z {x : Int64} {R C : Nat} (h : ∀ r c, zc x r c → r < R ∧ c < C) {a : Nat} (h1 : R ≤ a) (h2 : a < 6) : rct x a = 0 := rct_out h2 (fun c q => by have := h a c q; omega)
theorem cct_z {x : Int64} {R C : Nat} (h : ∀ r c, zc x r c → r < R ∧ c < C) {a : Nat} (h1 : C ≤ a) (h2 : a < 6) : cct x a = 0 := cct_out h2 (fun c q => by have := h c a q; omega)
abbrev bR (P : Pic) (l : Nat) : Int := zs l (fun a => if a < nR P then cnt (nR P) (fX P) a else 0)
abbrev bC (P : Pic) (l : Nat) : Int := zs l (fun a => if a < nR P then 0 else cnt (nR P) (fX P) a)
abbrev bW (P : Pic) (l : Nat) : Int := zs l (fun a => if cnt (nR P) (fX P) a = wnt P a then 0 else 1)
abbrev bN (P : Pic) (l : Nat) : Int := zs l (fun a => (wnt P a : Int))
theorem bR_end {P : Pic} (ok : okP P) : bR P (nR P + nC P) = pc (fX P) := by
  have o1 := ok.2.1
  have o2 := ok.2.2.2.1
  show zs (nR P + nC P) _ = _
  rw [zs_split, pc_rows (brdX ok ok.2.2.2.2.1), zs_ext0 (n := nR P) (m := 6) o1 (fun i h1 h2 => rct_z ok.2.2.2.2.1 h1 h2)]
  have e2 : zs (nC P) (fun i => if nR P + i < nR P then cnt (nR P) (fX P) (nR P + i) else 0) = 0 := (zs_congr (g := fun _ => 0) (fun i _ => if_neg (by omega))).trans (zs_zero _)
  rw [e2, Int.add_zero]
  exact zs_congr (fun i hi => by rw [if_pos hi]; unfold cnt; rw [if_neg (by omega)])
theorem bC_end {P : Pic} (ok : okP P) : bC P (nR P + nC P) = pc (fX P) := by
  have o1 := ok.2.1
  have o2 := ok.2.2.2.1
  show zs (nR P + nC P) _ = _
  rw [zs_split, pc_rows (brdX ok ok.2.2.2.2.1), sum_eq, zs_ext0 (n := nC P) (m := 6) o2 (fun i h1 h2 => cct_z ok.2.2.2.2.1 h1 h2)]
  have e2 : zs (nR P) (fun a => if a < nR P then 0 else cnt (nR P) (fX P) a) = 0 := (zs_congr (g := fun _ => 0) (fun i hi => if_pos hi)).trans (zs_zero _)
  rw [e2, Int.zero_add]
  exact zs_congr (fun i hi => by rw [if_neg (by omega)]; unfold cnt; rw [if_pos (by omega), show nR P + i - nR P = i from by omega])
theorem bN_end {P : Pic} (ok : okP P) : bN P (nR P + nC P) = zs 6 (fun i => (dgn (wU P) i : Int)) + zs 6 (fun i => (dgn (wV P) i : Int)) := by
  obtain ⟨-, o1, -, o2, -, -, o7, o8⟩ := ok
  show zs (nR P + nC P) _ = _
  rw [zs_split, zs_ext0 (n := nR P) (m := 6) o1 (fun i h1 h2 => by rw [(o7 i h2).2 h1]; rfl), zs_ext0 (n := nC P) (m := 6) o2 (fun i h1 h2 => by rw [(o8 i h2).2 h1]; rfl)]
  congr 1
  · exact zs_congr (fun i hi => by unfold wnt; rw [if_neg (by omega)])
  · exact zs_congr (fun i hi => by unfold wnt; rw [if_pos (by omega), show nR P + i - nR P = i from by omega])
theorem lines_code {μ : Mem} {A : Ab} (h : cInv μ A) : F_L_lines μ = rI (1 : Int32) μ := by
  have ok := h.2.1
  have o1 := ok.2.1
  have o2 := ok.2.2.2.1
  simp only [F_L_lines, a_0 h, a_1 h, cI_k, bits_0 h, bits_1 h, cJ_k]
  have st : f_L_lines_40 BIG (i3 (nR (aP A))) (i3 (nC (aP A))) (V (fX (aP A))) (V (fP (aP A))) (0 : Int32) (0 : Int32) (0 : Int32) (0 : Int32) (0 : Int32) μ = f_L_lines_40 BIG (i3 (nR (aP A))) (i3 (nC (aP A))) (V (fX (aP A))) (V (fP (aP A))) (i3 (bR (aP A) 0)) (i3 (bC (aP A) 0)) (i3 (bW (aP A) 0)) (i3 (bN (aP A) 0)) (i3 ((0 : Nat) : Int)) μ := by rw [l3_0]; exact nr rfl
  rw [st]
  refine loop_up (fun n l => f_L_lines_40 n (i3 (nR (aP A))) (i3 (nC (aP A))) (V (fX (aP A))) (V (fP (aP A))) (i3 (bR (aP A) l)) (i3 (bC (aP A) l)) (i3 (bW (aP A) l)) (i3 (bN (aP A) l)) (i3 (l : Int)) μ) (nR (aP A) + nC (aP A)) _ (fun n => ?_) (fun n l hl => ?_) BIG 0 (by omega) (BIG_lt (by omega))
  · have el : i3 ((nR (aP A) : Int) + (nC (aP A) : Int)) ≤ i3 ((nR (aP A) + nC (aP A) : Nat) : Int) := le3 (by omega)
    have eW : bW (aP A) (nR (aP A) + nC (aP A)) = wrg (aP A) := rfl
    have bp := pc_36 (brdX ok ok.2.2.2.2.1)
    simp only [f_L_lines_40, if_pos el, bR_end ok, bC_end ok, bN_end ok, eW, if_true, a_2 h, a_6 h, a_4 h, a_5 h, a_3 h, cI_k, i3_add, ones_V (okP_p ok)]
  · have el : ¬ i3 (nR (aP A) : Int) + i3 (nC (aP A) : Int) ≤ i3 (l : Int) := by rw [i3_add]; exact nle3 (by omega)
    have inner : ∀ k40, f_L_lines_79 k40 BIG (i3 (nR (aP A))) (i3 (nC (aP A))) (V (fX (aP A))) (V (fP (aP A))) (i3 (bR (aP A) l)) (i3 (bC (aP A) l)) (i3 (bW (aP A) l)) (i3 (bN (aP A) l)) (i3 (l : Int)) (i3 (lenL (aP A) l : Int)) (0 : Int32) (0 : Int32) (0 : Int32) (0 : Int32) (0 : Int32) (0 : Int32) μ =
        k40 (i3 (nR (aP A))) (i3 (nC (aP A))) (V (fX (aP A))) (V (fP (aP A))) (i3 (bR (aP A) (l + 1))) (i3 (bC (aP A) (l + 1))) (i3 (bW (aP A) (l + 1))) (i3 (bN (aP A) (l + 1))) (i3 ((l + 1 : Nat) : Int)) μ := by
      intro k40
      have st2 : f_L_lines_79 k40 BIG (i3 (nR (aP A))) (i3 (nC (aP A))) (V (fX (aP A))) (V (fP (aP A))) (i3 (bR (aP A) l)) (i3 (bC (aP A) l)) (i3 (bW (aP A) l)) (i3 (bN (aP A) l)) (i3 (l : Int)) (i3 (lenL (aP A) l : Int)) (0 : Int32) (0 : Int32) (0 : Int32) (0 : Int32) (0 : Int32) (0 : Int32) μ =
          f_L_lines_79 k40 BIG (i3 (nR (aP A))) (i3 (nC (aP A))) (V (fX (aP A))) (V (fP (aP A))) (i3 (bR (aP A) l)) (i3 (bC (aP A) l)) (i3 (bW (aP A) l)) (i3 (bN (aP A) l)) (i3 (l : Int)) (i3 (lenL (aP A) l : Int)) (i3 (s1 (aP A) l 0)) (i3 (s2 (aP A) l 0)) (i3 (s3 (aP A) l 0)) (i3 (s4 (aP A) l 0)) (i3 (s5 (aP A) l 0)) (i3 ((0 : Nat) : Int)) μ := by rw [l3_0]; exact nr rfl
      rw [st2]
      have l6 := len6 ok l
      refine loop_up (fun n i => f_L_lines_79 k40 n (i3 (nR (aP A))) (i3 (nC (aP A))) (V (fX (aP A))) (V (fP (aP A))) (i3 (bR (aP A) l)) (i3 (bC (aP A) l)) (i3 (bW (aP A) l)) (i3 (bN (aP A) l)) (i3 (l : Int)) (i3 (lenL (aP A) l : Int)) (i3 (s1 (aP A) l i)) (i3 (s2 (aP A) l i)) (i3 (s3 (aP A) l i)) (i3 (s4 (aP A) l i)) (i3 (s5 (aP A) l i)) (i3 (i : Int)) μ) (lenL (aP A) l) _ (fun n => ?_) (fun n i hi => ?_) BIG 0 (by omega) (BIG_lt (by omega))
      · exact lines_end h hl k40 n _ _ _ _
      · exact lines_step ok hl k40 n _ _ _ _ hi μ
    simp only [f_L_lines_40, if_neg el, f_L_lines_59]
    by_cases a : nR (aP A) ≤ l
    · have ea : i3 (nR (aP A) : Int) ≤ i3 (l : Int) := le3 (by omega)
      have e := inner (f_L_lines_40 n)
      rw [show lenL (aP A) l = nR (aP A) from if_pos a] at e
      rw [if_pos ea]; exact e
    · have ea : ¬ i3 (nR (aP A) : Int) ≤ i3 (l : Int) := nle3 (by omega)
      have e := inner (f_L_lines_40 n)
      rw [show lenL (aP A) l = nC (aP A) from if_neg a] at e
      rw [if_neg ea]; exact e
