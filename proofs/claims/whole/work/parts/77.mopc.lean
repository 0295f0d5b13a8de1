/-! cell on both sides -/
theorem one0 (μ : Mem) : cI (F_X7_oneIf (0 : Int32) μ) (fun v μ => rI v μ) = rI (0 : Int32) μ := by unfold F_X7_oneIf; rw [if_pos rfl, cI_k]
theorem one1 (μ : Mem) : cI (F_X7_oneIf (1 : Int32) μ) (fun v μ => rI v μ) = rI (1 : Int32) μ := by unfold F_X7_oneIf; rw [if_neg (by decide), cI_k]
theorem bt_one {x : Int64} {r c : Nat} (hr : r < 8) (hc : c < 8) (μ : Mem) : (if lg_cmp (x &&& bv (8 * r + c)) (0 : Int64) = 0 then cI (F_X7_oneIf (0 : Int32) μ) (fun v μ => rI v μ) else cI (F_X7_oneIf (1 : Int32) μ) (fun v μ => rI v μ)) = rI (i3 (b2 (tb x (8 * r + c)))) μ := by
  rw [bit_test hr hc, one0, one1]
  cases tb x (8 * r + c)
  · rfl
  · rfl
theorem b2_if (b : Bool) (μ : Mem) : (if i3 (b2 b) = 0 then rI (0 : Int32) μ else rI (1 : Int32) μ) = rI (i3 (b2 b)) μ := by cases b <;> rfl
/-- the class's cell, once the cell is there -/
theorem cell_c {μ : Mem} {A : Ab} (h : cInv μ A) {r c : Nat} (hr : inZ r) (hc : inZ c) (hr' : r < nR (aP A)) (hc' : c < nC (aP A)) (a2 : Int32) : F_X7_cell (i3 (r : Int)) (i3 (c : Int)) a2 μ =
    (if a2 = (0 : Int32) then (rI (i3 (b2 (tb (fX (aP A)) (8 * r + c)))) μ) else if a2 = (1 : Int32) then (rI (i3 (b2 (tb (fP (aP A)) (8 * r + c)))) μ) else if a2 = (2 : Int32) then (cI (F_X0_pieceNumber (fX (aP A)) (bv (8 * r + c)) μ) (fun v39 μ36 => rI v39 μ36)) else if a2 = (3 : Int32) then (cJ (F_X0_hull (fX (aP A)) μ) (fun v45 μ42 => rI (i3 (b2 (tb v45 (8 * r + c)))) μ42)) else if a2 = (4 : Int32) then (cJ (F_X2_sureCells 2 μ) (fun v62 μ59 => rI (i3 (b2 (tb v62 (8 * r + c)))) μ59)) else (rX "java/lang/IllegalArgumentException" μ)) := by
  have o1 := h.2.1.2.1
  have o2 := h.2.1.2.2.2.1
  have q : (0 ≤ (r : Int) ∧ (r : Int) < nR (aP A)) ∧ 0 ≤ (c : Int) ∧ (c : Int) < nC (aP A) := by omega
  simp only [F_X7_cell, chk_cell h hr hc, if_pos q, cV_k, bit_code, cJ_k, h.1.2.2.1, h.1.2.2.2.1, bt_one (show r < 8 by omega) (show c < 8 by omega)]
theorem cell_m {s : Mem} {A : Ab} (hs : mInv s A) (ok : okP (aP A)) {r c : Nat} (hr : inZ r) (hc : inZ c) (hr' : r < nR (aP A)) (hc' : c < nC (aP A)) {v : Int} (hv : inZ v) (p : 0 ≤ v ∧ v ≤ 4) : F_X8_cell (i3 (r : Int)) (i3 (c : Int)) (i3 v) s = f_X8_cell_28 (i3 (r : Int)) (i3 (c : Int)) (i3 v) (0 : Int32) s := by
  have inq : ∀ s, F_X8_in (i3 v) (0 : Int32) (4 : Int32) s = rI (i3 (if 0 ≤ v ∧ v ≤ 4 then 1 else 0)) s := fun s => by rw [l3_0, l3_4]; exact in_code hv (by decide) (by decide) s
  have q : (0 ≤ (r : Int) ∧ (r : Int) < nR (aP A)) ∧ 0 ≤ (c : Int) ∧ (c : Int) < nC (aP A) := by omega
  simp only [F_X8_cell, mCell hs.1 ok hr hc, if_pos q, cI_k, if_neg iz1, inq, if_pos p]
theorem cell_2 {μ : Mem} {A : Ab} (h : cInv μ A) {r c : Nat} (hr : inZ r) (hc : inZ c) (hr' : r < nR (aP A)) (hc' : c < nC (aP A)) : opOK A [eIdx, eArg] μ (F_X7_cell (i3 (r : Int)) (i3 (c : Int)) (i3 2) μ) (F_X8_cell (i3 (r : Int)) (i3 (c : Int)) (i3 2)) := by
  have ok := h.2.1
  have o1 := ok.2.1
  have o2 := ok.2.2.2.1
  have bX := brdX ok ok.2.2.2.2.1
  have hv : inZ 2 := by decide
  have d6 : (6 * r + c) / 6 = r := by omega
  have m6 : (6 * r + c) % 6 = c := by omega
  have hck : ∀ K : Out, ck (inb (i3 ((6 * r + c : Nat) : Int)) 36) K = K := fun K => ck_k (i3_in (by omega) (by decide)) K
  have cc : F_X7_cell (i3 (r : Int)) (i3 (c : Int)) (i3 2) μ = cI (F_X0_pieceNumber (fX (aP A)) (bv (8 * r + c)) μ) (fun v39 μ36 => rI v39 μ36) := by
    rw [cell_c h hr hc hr' hc', if_neg (by decide), if_neg (by decide), if_pos (by decide)]
  have mod : ∀ s, mInv s A → ∃ (n : Nat) (z : Mem), F_X8_cell (i3 (r : Int)) (i3 (c : Int)) (i3 2) s = (if i3 (n : Int) ≤ 0 then rI (i3 (-9)) z else rI (i3 (lab z (6 * r + c))) z) ∧ (frm s z ∧ z.1 29 8 = i3 0 ∧ mInv z A) ∧ npc (zc (fX (aP A))) n ∧ n ≤ 36 ∧
      ((∃ m : Nat, m < n ∧ lab z (6 * r + c) = m ∧ cmp (rs (zc (fX (aP A))) m) r c) ∨ (lab z (6 * r + c) = -9 ∧ ¬ zc (fX (aP A)) r c)) := by
    intro s hs
    obtain ⟨t1, t2, t3⟩ := thr hs (0 : Int32)
    obtain ⟨n, z, y1, y2, y3, y4, y5⟩ := mLaysPieces t2.1 ok
    have y5' := y5 (6 * r + c) (by omega)
    rw [d6, m6] at y5'
    refine ⟨n, z, ?_, m_fin hs y2 (by simp), y3, y4, y5'⟩
    rw [cell_m hs ok hr hc hr' hc' hv (by decide)]
    unfold f_X8_cell_28
    rw [lt_k, t3, if_pos rfl, if_neg (by decide), if_neg (by decide), if_pos (by decide), y1, cI_k, at6, hck, clampN (show 6 * r + c < 2147483648 by omega), lab_eq, l3_m9]
  by_cases q : zc (fX (aP A)) r c
  · obtain ⟨m, x1, x2, x3⟩ := pieceNumber_code bX μ q
    refine op_val (frc_rf μ) h (v := i3 m) (by rw [cc, x1, cI_k]) (fun s hs => ?_)
    obtain ⟨n, z, y1, y2, y3, y4, y5⟩ := mod s hs
    rcases y5 with ⟨m', w1, w2, w3⟩ | ⟨w1, w2⟩
    · refine ⟨z, ?_, y2⟩
      rw [y1, l3_0, if_neg (nle3 (by omega)), w2, cmp_uni w3 x3]
    · exact absurd q w2
  · refine op_val (frc_rf μ) h (v := i3 (-9)) (by rw [cc, pieceNumber_none μ (show r < 8 by omega) (show c < 8 by omega) q, cI_k]) (fun s hs => ?_)
    obtain ⟨n, z, y1, y2, y3, y4, y5⟩ := mod s hs
    rcases y5 with ⟨m', w1, w2, w3⟩ | ⟨w1, w2⟩
    · exact absurd ((rs_mono (Nat.zero_le m') (cmp_in w3)) : rs (zc (fX (aP A))) 0 r c) q
    · refine ⟨z, ?_, y2⟩
      rw [y1, w1]
      split <;> rfl
theorem cell_3 {μ : Mem} {A : Ab} (h : cInv μ A) {r c : Nat} (hr : inZ r) (hc : inZ c) (hr' : r < nR (aP A)) (hc' : c < nC (aP A)) : opOK A [eIdx, eArg] μ (F_X7_cell (i3 (r : Int)) (i3 (c : Int)) (i3 3) μ) (F_X8_cell (i3 (r : Int)) (i3 (c : Int)) (i3 3)) := by
  have ok := h.2.1
  have o1 := ok.2.1
  have o2 := ok.2.2.2.1
  have bX := brdX ok ok.2.2.2.2.1
  have hck : ∀ K : Out, ck (inb (i3 ((6 * r + c : Nat) : Int)) 36) K = K := fun K => ck_k (i3_in (by omega) (by decide)) K
  obtain ⟨y, x1, x2, x3⟩ := hull_code bX μ
  refine op_val (frc_rf μ) h (v := i3 (b2 (tb y (8 * r + c)))) ?_ (fun s hs => ?_)
  · rw [cell_c h hr hc hr' hc', if_neg (by decide), if_neg (by decide), if_neg (by decide), if_pos (by decide), x1, cJ_k]
  · obtain ⟨t1, t2, t3⟩ := thr hs (0 : Int32)
    obtain ⟨z, y1, y2, y3, y4⟩ := mLaysHull t2.1 ok
    have hHS : ∀ a d, zc y a d ↔ HS z a d := fun a d => by rw [x3]; exact (y4 a d).symm
    have e : pc y = hn z := hn_pc x2 hHS
    have hb := hn_bd z
    have tY := tb_iff (x := y) (r := r) (c := c) (by omega) (by omega)
    refine ⟨z, ?_, m_fin hs y2 (by simp)⟩
    rw [cell_m hs ok hr hc hr' hc' (by decide) (by decide)]
    unfold f_X8_cell_28
    rw [lt_k, t3, if_pos rfl, if_neg (by decide), if_neg (by decide), if_neg (by decide), if_pos (by decide), y1, cI_k, at6, hck, clampN (show 6 * r + c < 2147483648 by omega)]
    rcases y3 (6 * r + c) (by omega) with w | w
    · have : tb y (8 * r + c) = false := tb_f (fun q => by have := ((hHS r c).mp (tY.mp q)).2; rw [w] at this; exact h01 this)
      rw [this, w, if_pos (show i3 0 = (0 : Int32) from l3_0.symm)]
      split <;> rfl
    · have hz : HS z r c := ⟨by omega, w⟩
      have : tb y (8 * r + c) = true := tY.mpr ((hHS r c).mpr hz)
      have pos : 0 < hn z := by
        refine Classical.byContradiction (fun q => ?_)
        have h0 : hn z = 0 := by omega
        have := zs_eq_zero (n := 36) (f := fun j => if z.1 36 j = i3 1 then 1 else 0) (fun i _ => by show (0 : Int) ≤ (if z.1 36 i = i3 1 then 1 else 0); split <;> omega) h0 (6 * r + c) (by omega)
        rw [if_pos w] at this
        exact absurd this (by decide)
      rw [this, w, if_neg (by rw [l3_0]; exact nle3 (by omega)), if_neg (show ¬ i3 1 = (0 : Int32) from iz1)]
      rfl
theorem cell_4 {μ : Mem} {A : Ab} (h : cInv μ A) {r c : Nat} (hr : inZ r) (hc : inZ c) (hr' : r < nR (aP A)) (hc' : c < nC (aP A)) : opOK A [eIdx, eArg] μ (F_X7_cell (i3 (r : Int)) (i3 (c : Int)) (i3 4) μ) (F_X8_cell (i3 (r : Int)) (i3 (c : Int)) (i3 4)) := by
  have ok := h.2.1
  have o1 := ok.2.1
  have o2 := ok.2.2.2.1
  have hck : ∀ K : Out, ck (inb (i3 ((6 * r + c : Nat) : Int)) 36) K = K := fun K => ck_k (i3_in (by omega) (by decide)) K
  have cc : F_X7_cell (i3 (r : Int)) (i3 (c : Int)) (i3 4) μ = cJ (F_X2_sureCells 2 μ) (fun v62 μ59 => rI (i3 (b2 (tb v62 (8 * r + c)))) μ59) := by
    rw [cell_c h hr hc hr' hc', if_neg (by decide), if_neg (by decide), if_neg (by decide), if_neg (by decide), if_pos (by decide)]
  have mod : ∀ s, mInv s A → suQ (aP A) (sI s 29 8 (0 : Int32)) (F_X8_laysSures (sI s 29 8 (0 : Int32))) ∧ F_X8_cell (i3 (r : Int)) (i3 (c : Int)) (i3 4) s = cI (F_X8_laysSures (sI s 29 8 (0 : Int32))) (fun v50 μ47 => if v50 = 0 then (rI (0 : Int32) μ47) else (if (μ47.1 46 (6 * r + c)) < 0 then (rI (0 : Int32) μ47) else (rI (1 : Int32) μ47))) := by
    intro s hs
    obtain ⟨t1, t2, t3⟩ := thr hs (0 : Int32)
    refine ⟨mSures t2.1 ok, ?_⟩
    rw [cell_m hs ok hr hc hr' hc' (by decide) (by decide)]
    unfold f_X8_cell_28
    rw [lt_k, t3, if_pos rfl, if_neg (by decide), if_neg (by decide), if_neg (by decide), if_neg (by decide)]
    simp only [at6, hck, clampN (show 6 * r + c < 2147483648 by omega)]
  rcases sureCells_code ok h.1 (by simp) with ⟨μ1, y, w1, w2, w3, w4⟩ | ⟨μ1, w1, w2, w3⟩
  · obtain ⟨k1, k2⟩ := c_scr h w2
    have tY := tb_iff (x := y) (r := r) (c := c) (by omega) (by omega)
    refine op_val k1 k2 (v := i3 (b2 (tb y (8 * r + c)))) (by rw [cc, w1, cJ_k]) (fun s hs => ?_)
    obtain ⟨⟨v, z, y1, y2, y3⟩, y4⟩ := mod s hs
    refine ⟨z, ?_, m_fin hs y2 (by simp)⟩
    rw [y4, y1, cI_k]
    rcases y3 with ⟨rfl, K, g1, g2⟩ | ⟨rfl, g1⟩
    · rw [if_neg iz1]
      rcases g2 r c hr' hc' with ⟨a1, a2⟩ | ⟨a1, a2⟩
      · rw [a2, tY.mpr ((w4 r c).mpr ⟨⟨hr', hc'⟩, a1⟩), if_neg (by cases tb K (8 * r + c) <;> decide)]; rfl
      · rw [a2, tb_f (fun q => a1 ((w4 r c).mp (tY.mp q)).2), if_pos (by decide)]; rfl
    · exact absurd ⟨_, w3⟩ g1
  · obtain ⟨k1, k2⟩ := c_scr h w2
    refine op_val k1 k2 (v := i3 0) ?_ (fun s hs => ?_)
    · rw [cc, w1, cJ_k, tb_f (fun q => zc_0 _ _ ((tb_iff (by omega) (by omega)).mp q))]; rfl
    · obtain ⟨⟨v, z, y1, y2, y3⟩, y4⟩ := mod s hs
      refine ⟨z, ?_, m_fin hs y2 (by simp)⟩
      rw [y4, y1, cI_k]
      rcases y3 with ⟨rfl, K, g1, g2⟩ | ⟨rfl, g1⟩
      · exact absurd ⟨K, g1⟩ w3
      · rw [if_pos iz0]; rfl
theorem op_cell {μ : Mem} {A : Ab} (h : cInv μ A) {r c v : Int} (hr : inZ r) (hc : inZ c) (hv : inZ v) : opOK A [eIdx, eArg] μ (F_X7_cell (i3 r) (i3 c) (i3 v) μ) (F_X8_cell (i3 r) (i3 c) (i3 v)) := by
  have ok := h.2.1
  have o1 := ok.2.1
  have o2 := ok.2.2.2.1
  have inq : ∀ s, F_X8_in (i3 v) (0 : Int32) (4 : Int32) s = rI (i3 (if 0 ≤ v ∧ v ≤ 4 then 1 else 0)) s := fun s => by rw [l3_0, l3_4]; exact in_code hv (by decide) (by decide) s
  by_cases q : (0 ≤ r ∧ r < nR (aP A)) ∧ 0 ≤ c ∧ c < nC (aP A)
  · obtain ⟨r, rfl, hr'⟩ := natZ q.1
    obtain ⟨c, rfl, hc'⟩ := natZ q.2
    by_cases p : 0 ≤ v ∧ v ≤ 4
    · have e5 : v = 0 ∨ v = 1 ∨ v = 2 ∨ v = 3 ∨ v = 4 := by omega
      rcases e5 with rfl | rfl | rfl | rfl | rfl
      · refine op_val (frc_rf μ) h (v := i3 (b2 (tb (fX (aP A)) (8 * r + c)))) (by rw [cell_c h hr hc hr' hc', if_pos (by decide)]) (fun s hs => ⟨_, ?_, m_fin0 hs⟩)
        obtain ⟨t1, t2, t3⟩ := thr hs (0 : Int32)
        rw [cell_m hs ok hr hc hr' hc' hv p]
        unfold f_X8_cell_28
        rw [lt_k, t3, if_pos rfl, if_pos (by decide), mFilled t2.1 (by omega) (by omega), cI_k, b2_if]
      · refine op_val (frc_rf μ) h (v := i3 (b2 (tb (fP (aP A)) (8 * r + c)))) (by rw [cell_c h hr hc hr' hc', if_neg (by decide), if_pos (by decide)]) (fun s hs => ⟨_, ?_, m_fin0 hs⟩)
        obtain ⟨t1, t2, t3⟩ := thr hs (0 : Int32)
        rw [cell_m hs ok hr hc hr' hc' hv p]
        unfold f_X8_cell_28
        rw [lt_k, t3, if_pos rfl, if_neg (by decide), if_pos (by decide), mPinned t2.1 (by omega) (by omega), cI_k, b2_if]
      · exact cell_2 h hr hc hr' hc'
      · exact cell_3 h hr hc hr' hc'
      · exact cell_4 h hr hc hr' hc'
    · have nk : ∀ k : Int, 0 ≤ k → k ≤ 4 → ¬ i3 v = i3 k := fun k h0 h1 => ne3 (by omega)
      have n0 : ¬ i3 v = (0 : Int32) := by rw [l3_0]; exact nk 0 (by decide) (by decide)
      have n1 : ¬ i3 v = (1 : Int32) := by rw [l3_1]; exact nk 1 (by decide) (by decide)
      have n2 : ¬ i3 v = (2 : Int32) := by rw [l3_2]; exact nk 2 (by decide) (by decide)
      have n3 : ¬ i3 v = (3 : Int32) := by rw [l3_3]; exact nk 3 (by decide) (by decide)
      have n4 : ¬ i3 v = (4 : Int32) := by rw [l3_4]; exact nk 4 (by decide) (by decide)
      refine op_err (frc_rf μ) h eArg 1 ?_ rfl (fun s hs => ?_)
      · rw [cell_c h hr hc hr' hc', if_neg n0, if_neg n1, if_neg n2, if_neg n3, if_neg n4]
      · obtain ⟨t1, t2, t3⟩ := thr hs (2 : Int32)
        refine ⟨0, sI s 29 8 (2 : Int32), ?_, t1, by rw [t3]; decide, t2⟩
        simp only [F_X8_cell, mCell hs.1 ok hr hc, if_pos q, cI_k, if_neg iz1, inq, if_neg p, if_pos iz0]
        unfold f_X8_cell_28; rw [lt_k, t3, if_neg jz2]
  · refine op_err (frc_rf μ) h eIdx 0 ?_ rfl (fun s hs => ?_)
    · simp only [F_X7_cell, chk_cell h hr hc, if_neg q, cV_x]
    · obtain ⟨t1, t2, t3⟩ := thr hs (1 : Int32)
      refine ⟨0, sI s 29 8 (1 : Int32), ?_, t1, by rw [t3]; decide, t2⟩
      simp only [F_X8_cell, mCell hs.1 ok hr hc, if_neg q, cI_k, if_pos iz0]
      unfold f_X8_cell_28; rw [lt_k, t3, if_neg jz1]
