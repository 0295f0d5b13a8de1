/-! sure and split on both sides -/
theorem pc36 {y : Int64} (hy : brd y) : pc y = zs 36 (fun j => b2 (tb y (8 * (j / 6) + j % 6))) := by
  rw [pc_z2 hy, show (36 : Nat) = 6 * 6 from rfl, zs_mul6]
  unfold z2
  apply zs_congr; intro r hr
  apply zs_congr; intro c hc
  show b2 (tb y (8 * r + c)) = b2 (tb y (8 * ((6 * r + c) / 6) + (6 * r + c) % 6))
  rw [show (6 * r + c) / 6 = r from by omega, show (6 * r + c) % 6 = c from by omega]
theorem sure_loop {P : Pic} {s : Mem} (hm : MN s P) (ok : okP P) (b : Bool) {K y D : Int64} (hy : ∀ r c, zc y r c ↔ (r < nR P ∧ c < nC P) ∧ sureC P (fX P) r c) (h46 : ∀ r c, r < nR P → c < nC P → suV P K r c (s.1 46 (6 * r + c)))
    (hD : ∀ r c, zc D r c ↔ zc y r c ∧ (zc K r c ↔ b = true)) : f_X8_sure_15 BIG (i3 (b2 b)) (i3 1) (0 : Int32) (0 : Int32) s = rI (i3 (pc D)) s := by
  have o1 := ok.2.1
  have o2 := ok.2.2.2.1
  have bD : brd D := brdX ok (fun r c q => ((hy r c).mp ((hD r c).mp q).1).1)
  rw [pc36 bD]
  rw [show f_X8_sure_15 BIG (i3 (b2 b)) (i3 1) (0 : Int32) (0 : Int32) s = f_X8_sure_15 BIG (i3 (b2 b)) (i3 1) (i3 (zs 0 (fun j => b2 (tb D (8 * (j / 6) + j % 6))))) (i3 ((0 : Nat) : Int)) s from by rw [show (0 : Int32) = i3 0 from l3_0]; exact nr rfl]
  refine loop_up (fun n j => f_X8_sure_15 n (i3 (b2 b)) (i3 1) (i3 (zs j (fun j => b2 (tb D (8 * (j / 6) + j % 6))))) (i3 j) s) 36 _ (fun n => ?_) (fun n j hj => ?_) BIG 0 (by omega) (BIG_lt (by omega))
  · have el : (36 : Int32) ≤ i3 ((36 : Nat) : Int) := by decide
    simp only [f_X8_sure_15, if_pos el]
  · have el : ¬ (36 : Int32) ≤ i3 (j : Int) := by rw [l3_36]; exact nle3 (by omega)
    have e1 : i3 (j : Int) / (6 : Int32) = i3 ((j / 6 : Nat) : Int) := by rw [l3_6, i3_div (by omega) (by decide)]; congr 1
    have e4 : remI (i3 (j : Int)) (6 : Int32) = i3 ((j % 6 : Nat) : Int) := by rw [l3_6, i3_rem (by omega) (by decide)]; congr 1
    have hck : ∀ O : Out, ck (inb (i3 (j : Int)) 36) O = O := fun O => ck_k (i3_in (by omega) (by decide)) O
    have j6 : 6 * (j / 6) + j % 6 = j := by omega
    have a0 : ∀ S : Int, i3 S + (0 : Int32) = i3 (S + 0) := fun S => by rw [l3_0, i3_add]
    have a1 : ∀ S : Int, i3 S + (1 : Int32) = i3 (S + 1) := fun S => by rw [l3_1, i3_add]
    have tD := tb_iff (x := D) (r := j / 6) (c := j % 6) (by omega) (by omega)
    have tK := tb_iff (x := K) (r := j / 6) (c := j % 6) (by omega) (by omega)
    have incj : i3 (j : Int) + (1 : Int32) = i3 ((j + 1 : Nat) : Int) := inc3 j
    simp only [f_X8_sure_15, if_neg el, if_neg iz1, e1, e4, mCellN hm ok (show j / 6 < 2147483648 by omega) (show j % 6 < 2147483648 by omega), cI_k, hck, clampN (show j < 2147483648 by omega), lt_k, f_X8_sure_60, incj]
    rw [zs_s]
    by_cases bd : j / 6 < nR P ∧ j % 6 < nC P
    · have hs := h46 _ _ bd.1 bd.2
      rw [j6] at hs
      rw [if_pos bd, if_neg iz1]
      have key : (s.1 46 j = i3 (b2 b)) ↔ tb D (8 * (j / 6) + j % 6) = true := by
        rw [tD, hD, hy, ← tK]
        rcases hs with ⟨c1, c2⟩ | ⟨c1, c2⟩
        · rw [c2]
          constructor
          · intro e
            refine ⟨⟨bd, c1⟩, ?_⟩
            cases hb : b <;> cases hk : tb K (8 * (j / 6) + j % 6) <;> rw [hb, hk] at e <;> simp_all [b2, h01, h10]
          · rintro ⟨-, e⟩
            cases hb : b <;> cases hk : tb K (8 * (j / 6) + j % 6) <;> rw [hb, hk] at e <;> simp_all
        · rw [c2]
          exact ⟨fun e => absurd e.symm (b2m b), fun e => absurd e.1.2 c1⟩
      have r2 : ∀ n, (if i3 (b2 b) = 0 then (if s.1 46 j = (0 : Int32) then f_X8_sure_15 n (i3 (b2 b)) (i3 1) (i3 (zs j (fun j => b2 (tb D (8 * (j / 6) + j % 6)))) + (1 : Int32)) (i3 ((j + 1 : Nat) : Int)) s else f_X8_sure_15 n (i3 (b2 b)) (i3 1) (i3 (zs j (fun j => b2 (tb D (8 * (j / 6) + j % 6)))) + (0 : Int32)) (i3 ((j + 1 : Nat) : Int)) s) else (if s.1 46 j = (1 : Int32) then f_X8_sure_15 n (i3 (b2 b)) (i3 1) (i3 (zs j (fun j => b2 (tb D (8 * (j / 6) + j % 6)))) + (1 : Int32)) (i3 ((j + 1 : Nat) : Int)) s else f_X8_sure_15 n (i3 (b2 b)) (i3 1) (i3 (zs j (fun j => b2 (tb D (8 * (j / 6) + j % 6)))) + (0 : Int32)) (i3 ((j + 1 : Nat) : Int)) s)) = (if s.1 46 j = i3 (b2 b) then f_X8_sure_15 n (i3 (b2 b)) (i3 1) (i3 (zs j (fun j => b2 (tb D (8 * (j / 6) + j % 6)))) + (1 : Int32)) (i3 ((j + 1 : Nat) : Int)) s else f_X8_sure_15 n (i3 (b2 b)) (i3 1) (i3 (zs j (fun j => b2 (tb D (8 * (j / 6) + j % 6)))) + (0 : Int32)) (i3 ((j + 1 : Nat) : Int)) s) := by
        intro n
        cases b
        · rw [if_pos (by decide)]; rfl
        · rw [if_neg (by decide)]; rfl
      rw [r2]
      by_cases e : s.1 46 j = i3 (b2 b)
      · rw [if_pos e, key.mp e, a1]; rfl
      · rw [if_neg e, a0]
        have : tb D (8 * (j / 6) + j % 6) = false := by cases w : tb D (8 * (j / 6) + j % 6); rfl; exact absurd (key.mpr w) e
        rw [this]; rfl
    · have : tb D (8 * (j / 6) + j % 6) = false := tb_f (fun q => bd ((hy _ _).mp ((hD _ _).mp (tD.mp q)).1).1)
      rw [if_neg bd, if_pos iz0, a0, this]; rfl
theorem op_sure {μ : Mem} {A : Ab} (h : cInv μ A) (b : Bool) : opOK A [] μ (F_X7_sure (i3 (b2 b)) μ) (F_X8_sure (i3 (b2 b))) := by
  have ok := h.2.1
  have o1 := ok.2.1
  have o2 := ok.2.2.2.1
  have cc : ∀ y μ1, F_X2_sureCells 2 μ = rJ y μ1 → F_X7_sure (i3 (b2 b)) μ = rI (i3 (pc (if b then y &&& μ1.2.1 6 1 else y &&& (μ1.2.1 6 1 ^^^ (-1 : Int64))))) μ1 := by
    intro y μ1 e
    simp only [F_X7_sure, e, cJ_k, F_X2_found, pc_code, cI_k]
    cases b
    · rw [if_pos (by decide)]; rfl
    · rw [if_neg (by decide)]; rfl
  rcases sureCells_code ok h.1 (by simp) with ⟨μ1, y, w1, w2, w3, w4⟩ | ⟨μ1, w1, w2, w3⟩
  · obtain ⟨k1, k2⟩ := c_scr h w2
    refine op_val k1 k2 (cc y μ1 w1) (fun s hs => ?_)
    obtain ⟨t1, t2, t3⟩ := thr hs (0 : Int32)
    obtain ⟨v, z, y1, y2, y3⟩ := mSures t2.1 ok
    refine ⟨z, ?_, m_fin hs y2 (by simp)⟩
    simp only [F_X8_sure, lt_k, y1, cI_k]
    rcases y3 with ⟨rfl, K, g1, g2⟩ | ⟨rfl, g1⟩
    · refine sure_loop (MN_fr t2.1 y2 (by simp)) ok b (K := K) (y := y) w4 g2 (fun r c => ?_)
      have hsu : zc y r c → (zc (μ1.2.1 6 1) r c ↔ zc K r c) := fun q => ((w4 r c).mp q).2 _ _ w3 g1
      cases b
      · simp only [Bool.false_eq_true, if_false, zc_rem, iff_false]
        exact ⟨fun q => ⟨q.1, fun w => q.2 ((hsu q.1).mpr w)⟩, fun q => ⟨q.1, fun w => q.2 ((hsu q.1).mp w)⟩⟩
      · simp only [if_true, zc_and, iff_true]
        exact ⟨fun q => ⟨q.1, (hsu q.1).mp q.2⟩, fun q => ⟨q.1, (hsu q.1).mpr q.2⟩⟩
    · exact absurd ⟨_, w3⟩ g1
  · obtain ⟨k1, k2⟩ := c_scr h w2
    have p0 : pc (if b then (0 : Int64) &&& μ1.2.1 6 1 else 0 &&& (μ1.2.1 6 1 ^^^ (-1 : Int64))) = 0 := by
      have z0 : ∀ x : Int64, (0 : Int64) &&& x = 0 := fun x => zc_ext (fun r c => by rw [zc_and]; exact ⟨fun q => q.1, fun q => absurd q (zc_0 _ _)⟩)
      rw [z0, z0]
      cases b <;> decide
    refine op_val k1 k2 (cc 0 μ1 w1) (fun s hs => ?_)
    obtain ⟨t1, t2, t3⟩ := thr hs (0 : Int32)
    obtain ⟨v, z, y1, y2, y3⟩ := mSures t2.1 ok
    refine ⟨z, ?_, m_fin hs y2 (by simp)⟩
    simp only [F_X8_sure, lt_k, y1, cI_k]
    rcases y3 with ⟨rfl, K, g1, g2⟩ | ⟨rfl, g1⟩
    · exact absurd ⟨K, g1⟩ w3
    · rw [p0]
      obtain ⟨m, hB⟩ : ∃ m, BIG = m + 1 := ⟨4095, rfl⟩
      rw [hB]
      have el : ¬ (36 : Int32) ≤ 0 := by decide
      simp only [f_X8_sure_15, if_neg el, if_pos iz0]; rfl
