/-- the best cell among the first j -/
def bsM (P : Pic) (m j : Nat) (x y : Int) : Prop := (x = -9 ∧ y = -1 ∧ ∀ a d, a < nR P → d < nC P → ¬ 6 * a + d < j) ∨
  ∃ r c, r < nR P ∧ c < nC P ∧ 6 * r + c < j ∧ x = 10 * r + c ∧ y = sml P m (8 * r + c) ∧ (∀ a d, a < nR P → d < nC P → 6 * a + d < j → sml P m (8 * a + d) ≤ sml P m (8 * r + c)) ∧ ∀ a d, a < nR P → d < nC P → 6 * a + d < 6 * r + c → sml P m (8 * a + d) < sml P m (8 * r + c)
theorem sml_bd {P : Pic} {m i : Nat} : 0 ≤ sml P m i ∧ sml P m i ≤ m := by
  have a := tal_0 P m i
  have b := tal_m P m i
  unfold sml; split <;> omega
theorem split_loop {P : Pic} {s : Mem} (hm : MN s P) (ok : okP P) {m : Nat} (h2 : 2 ≤ m) (h99 : m < 100) (ht : tlM P m s) : ∃ v, f_X8_split_18 BIG (i3 m) (-9 : Int32) (-1 : Int32) (0 : Int32) s = rI (i3 v) s ∧ isBest P m v := by
  have o1 := ok.2.1
  have o2 := ok.2.2.2.1
  have o0 := ok.1
  have o3 := ok.2.2.1
  rw [l3_m9, l3_m1, show (0 : Int32) = i3 ((0 : Nat) : Int) from l3_0]
  refine loop_st (σ := Int × Int) (fun n j z => f_X8_split_18 n (i3 m) (i3 z.1) (i3 z.2) (i3 j) s) (fun j z => bsM P m j z.1 z.2) (fun o => ∃ v, o = rI (i3 v) s ∧ isBest P m v) 36 ?_ ?_ BIG 0 (-9, -1) (by omega) (BIG_lt (by omega)) (Or.inl ⟨rfl, rfl, fun a d _ _ => by omega⟩)
  · rintro n ⟨x, y⟩ hb
    simp only at hb
    have el : (36 : Int32) ≤ i3 ((36 : Nat) : Int) := by decide
    simp only [f_X8_split_18, if_pos el]
    refine ⟨x, rfl, ?_⟩
    rcases hb with ⟨-, -, q⟩ | ⟨r, c, q1, q2, q3, q4, q5, q6, q7⟩
    · exact absurd (show 6 * 0 + 0 < 36 by omega) (q 0 0 (by omega) (by omega))
    · exact ⟨r, c, q1, q2, q4, fun a d ha hd => q6 a d ha hd (by omega), fun a d ha hd w => q7 a d ha hd (by omega)⟩
  · rintro n j ⟨x, y⟩ hj hb
    simp only at hb
    left
    have el : ¬ (36 : Int32) ≤ i3 (j : Int) := by rw [l3_36]; exact nle3 (by omega)
    have e1 : i3 (j : Int) / (6 : Int32) = i3 ((j / 6 : Nat) : Int) := by rw [l3_6, i3_div (by omega) (by decide)]; congr 1
    have e4 : remI (i3 (j : Int)) (6 : Int32) = i3 ((j % 6 : Nat) : Int) := by rw [l3_6, i3_rem (by omega) (by decide)]; congr 1
    have hck : ∀ O : Out, ck (inb (i3 (j : Int)) 36) O = O := fun O => ck_k (i3_in (by omega) (by decide)) O
    have j6 : 6 * (j / 6) + j % 6 = j := by omega
    have t := ht (j / 6) (j % 6) (by omega) (by omega)
    rw [j6] at t
    have t0 := tal_0 P m (8 * (j / 6) + j % 6)
    have t1 := tal_m P m (8 * (j / 6) + j % 6)
    have hin : F_X8_in (i3 (m : Int)) (2 : Int32) (99 : Int32) s = rI (i3 1) s := by rw [l3_2, l3_99, in_code (by omega) (by decide) (by decide), if_pos (by omega)]
    have es : i3 (m : Int) - i3 (tal P m (8 * (j / 6) + j % 6)) = i3 ((m : Int) - tal P m (8 * (j / 6) + j % 6)) := i3_sub _ _
    have ec : ((10 : Int32) * i3 ((j / 6 : Nat) : Int)) + i3 ((j % 6 : Nat) : Int) = i3 ((10 : Int) * ((j / 6 : Nat) : Int) + ((j % 6 : Nat) : Int)) := by rw [l3_10, i3_mul, i3_add]
    have incj : i3 (j : Int) + (1 : Int32) = i3 ((j + 1 : Nat) : Int) := inc3 j
    have sb := sml_bd (P := P) (m := m) (i := 8 * (j / 6) + j % 6)
    have yb : -1 ≤ y ∧ y ≤ m := by
      rcases hb with ⟨-, q, -⟩ | ⟨r, c, -, -, -, -, q, -⟩
      · omega
      · have := sml_bd (P := P) (m := m) (i := 8 * r + c); omega
    have go : ∃ z : Int × Int, bsM P m (j + 1) z.1 z.2 ∧ f_X8_split_73 (f_X8_split_18 n) (i3 m) (i3 x) (i3 y) (i3 j) (i3 (sml P m (8 * (j / 6) + j % 6))) s = f_X8_split_18 n (i3 m) (i3 z.1) (i3 z.2) (i3 ((j + 1 : Nat) : Int)) s := by
      generalize hsm : sml P m (8 * (j / 6) + j % 6) = w at sb
      simp only [f_X8_split_73, e1, e4, mCellN hm ok (show j / 6 < 2147483648 by omega) (show j % 6 < 2147483648 by omega), cI_k, f_X8_split_103, f_X8_split_128, ec, lt_k, incj]
      by_cases bd : j / 6 < nR P ∧ j % 6 < nC P
      · rw [if_pos bd, if_neg iz1]
        by_cases e : w ≤ y
        · rw [if_pos (le3 (by omega)), if_pos trivial, if_pos trivial]
          refine ⟨(x, y), ?_, rfl⟩
          rcases hb with ⟨q1, q2, q3⟩ | ⟨r, c, q1, q2, q3, q4, q5, q6, q7⟩
          · omega
          · refine Or.inr ⟨r, c, q1, q2, by omega, q4, q5, fun a d ha hd hlt => ?_, q7⟩
            by_cases ej : 6 * a + d = j
            · have b1 : a = j / 6 := by omega
              have b2 : d = j % 6 := by omega
              rw [b1, b2, hsm, ← q5]; exact e
            · exact q6 a d ha hd (by omega)
        · rw [if_neg (nle3 (by omega)), if_neg jz1, if_neg jz1]
          refine ⟨(10 * ((j / 6 : Nat) : Int) + ((j % 6 : Nat) : Int), w), Or.inr ⟨j / 6, j % 6, bd.1, bd.2, by omega, rfl, hsm.symm, fun a d ha hd hlt => ?_, fun a d ha hd hlt => ?_⟩, rfl⟩
          · rw [hsm]
            by_cases ej : 6 * a + d = j
            · have b1 : a = j / 6 := by omega
              have b2 : d = j % 6 := by omega
              rw [b1, b2, hsm]; exact Int.le_refl _
            · rcases hb with ⟨q1, q2, q3⟩ | ⟨r, c, q1, q2, q3, q4, q5, q6, q7⟩
              · exact absurd (show 6 * a + d < j by omega) (q3 a d ha hd)
              · have := q6 a d ha hd (by omega); omega
          · rw [hsm]
            rcases hb with ⟨q1, q2, q3⟩ | ⟨r, c, q1, q2, q3, q4, q5, q6, q7⟩
            · exact absurd (show 6 * a + d < j by omega) (q3 a d ha hd)
            · have := q6 a d ha hd (by omega); omega
      · rw [if_neg bd, if_pos iz0, if_pos trivial, if_pos trivial]
        refine ⟨(x, y), ?_, rfl⟩
        have ne : ∀ a d, a < nR P → d < nC P → ¬ 6 * a + d = j := fun a d ha hd e => bd (by
          have b1 : a = j / 6 := by omega
          have b2 : d = j % 6 := by omega
          rw [← b1, ← b2]; exact ⟨ha, hd⟩)
        rcases hb with ⟨q1, q2, q3⟩ | ⟨r, c, q1, q2, q3, q4, q5, q6, q7⟩
        · exact Or.inl ⟨q1, q2, fun a d ha hd w => q3 a d ha hd (by have := ne a d ha hd; omega)⟩
        · exact Or.inr ⟨r, c, q1, q2, by omega, q4, q5, fun a d ha hd w => q6 a d ha hd (by have := ne a d ha hd; omega), q7⟩
    simp only [f_X8_split_18, if_neg el, hin, cI_k, if_neg iz1, hck, clampN (show j < 2147483648 by omega), t, es]
    have hs : i3 (sml P m (8 * (j / 6) + j % 6)) = (if (m : Int) - tal P m (8 * (j / 6) + j % 6) ≤ tal P m (8 * (j / 6) + j % 6) then i3 ((m : Int) - tal P m (8 * (j / 6) + j % 6)) else i3 (tal P m (8 * (j / 6) + j % 6))) := by
      unfold sml
      split <;> split <;> congr 1 <;> omega
    by_cases e : (m : Int) - tal P m (8 * (j / 6) + j % 6) ≤ tal P m (8 * (j / 6) + j % 6)
    · rw [if_pos (le3 (by omega))]
      rw [if_pos e] at hs
      rw [← hs]; exact go
    · rw [if_neg (nle3 (by omega))]
      rw [if_neg e] at hs
      rw [← hs]; exact go
theorem op_split {μ : Mem} {A : Ab} (h : cInv μ A) : opOK A [] μ (F_X7_split μ) F_X8_split := by
  have ok := h.2.1
  obtain ⟨m, μ1, w1, w2, w3⟩ := countFitting_code ok h.1
  obtain ⟨k1, k2⟩ := c_scr h w2
  have h100 := w3.1
  have mod : ∀ s, mInv s A → ∃ z, F_X8_split s = f_X8_split_18 BIG (i3 (m : Int)) (-9 : Int32) (-1 : Int32) (0 : Int32) z ∧ (frm s z ∧ z.1 29 8 = i3 0 ∧ mInv z A) ∧ (m < 100 → tlM (aP A) m z) := by
    intro s hs
    obtain ⟨t1, t2, t3⟩ := thr hs (0 : Int32)
    obtain ⟨m', z, u1, u2, u3, u4, u5⟩ := mGoes t2.1 ok
    have em : m' = m := cntF_uni u3 w3
    subst em
    exact ⟨z, by simp only [F_X8_split, lt_k, u1, cI_k], ⟨frm_tr t1 (frm_fq u2), by rw [u2.2 8 (by decide), t3]; rfl, mInv_fq t2 u2⟩, u4⟩
  have none9 : ∀ s, mInv s A → ¬ (2 ≤ m ∧ m < 100) → ∃ z, F_X8_split s = rI (-9 : Int32) z ∧ frm s z ∧ z.1 29 8 = i3 0 ∧ mInv z A := by
    intro s hs q
    obtain ⟨z, y1, y2, y3⟩ := mod s hs
    refine ⟨z, ?_, y2⟩
    rw [y1]
    obtain ⟨b, hB⟩ : ∃ b, BIG = b + 1 := ⟨4095, rfl⟩
    rw [hB]
    have el : ¬ (36 : Int32) ≤ 0 := by decide
    have hin : F_X8_in (i3 (m : Int)) (2 : Int32) (99 : Int32) z = rI (i3 0) z := by rw [l3_2, l3_99, in_code (by omega) (by decide) (by decide), if_neg (by omega)]
    simp only [f_X8_split_18, if_neg el, hin, cI_k, if_pos iz0]
  by_cases q0 : m < 2
  · have l : i3 (m : Int) < (2 : Int32) := by rw [l3_2]; exact lt3 (by omega)
    exact op_val k1 k2 (by simp only [F_X7_split, w1, cI_k, if_pos l]) (fun s hs => none9 s hs (by omega))
  · have nl : ¬ i3 (m : Int) < (2 : Int32) := by rw [l3_2]; exact nlt3 (by omega)
    by_cases q1 : m < 100
    · have l : i3 (m : Int) < (100 : Int32) := by rw [l3_100]; exact lt3 (by omega)
      obtain ⟨μ2, x1, x2, x3⟩ := tallyFitting_code ok k2.1 w3
      obtain ⟨v, y1, y2⟩ := bestParted_code (μ := μ2) ok w3 (by omega) x3
      refine op_val (frc_tr k1 (frc_of x2 (by simp))) (cInv_fr k2 x2 (fun k hk => by simp at hk; simp; omega)) (v := i3 v) (by simp only [F_X7_split, w1, cI_k, if_neg nl, if_pos l, x1, cV_k, y1]) (fun s hs => ?_)
      obtain ⟨z, g1, g2, g3⟩ := mod s hs
      obtain ⟨v', p1, p2⟩ := split_loop g2.2.2.1 ok (by omega) q1 (g3 q1)
      have ev := isBest_uni ok p2 y2
      subst ev
      exact ⟨z, by rw [g1, p1], g2⟩
    · have l : ¬ i3 (m : Int) < (100 : Int32) := by rw [l3_100]; exact nlt3 (by omega)
      exact op_val k1 k2 (by simp only [F_X7_split, w1, cI_k, if_neg nl, if_neg l]) (fun s hs => none9 s hs (by omega))
