/-! line and whyNot on both sides -/
theorem lineRuns {P : Pic} (ok : okP P) {l : Nat} (hl : l < nR P + nC P) (μ : Mem) :
    F_X0_countRuns (fX P &&& lmI (nR P) (nC P) l) (if nR P ≤ l then (8 : Int32) else (1 : Int32)) μ = rI (i3 (nrn (fun i => tb (fX P) (8 * rowL P l i + colL P l i)) (lenL P l))) μ ∧
    F_X0_longestRun (fX P &&& lmI (nR P) (nC P) l) (if nR P ≤ l then (8 : Int32) else (1 : Int32)) μ = rI (i3 (mrn (fun i => tb (fX P) (8 * rowL P l i + colL P l i)) (lenL P l) : Int)) μ := by
  have o1 := ok.2.1
  have o2 := ok.2.2.2.1
  have hX := ok.2.2.2.2.1
  have h6 := len6 ok l
  have hext := runs_ext (g := fun i => tb (fX P) (8 * rowL P l i + colL P l i)) h6 (fun i h1 h2 => tb_f (fun q => by
    unfold rowL colL at q
    unfold lenL at h1
    by_cases a : nR P ≤ l
    · rw [if_pos a] at h1
      rw [if_pos a, if_pos a] at q
      have := hX i (l - nR P) ⟨by omega, by omega, q⟩; omega
    · rw [if_neg a] at h1
      rw [if_neg a, if_neg a] at q
      have := hX l i ⟨by omega, by omega, q⟩; omega))
  rw [← hext.1, ← hext.2]
  by_cases a : nR P ≤ l
  · rw [if_pos a]
    refine runs_col (l := l - nR P) (by omega) _ (fun x c => ?_) μ
    rw [zc_and, zc_lm o1 o2 hl, if_pos a]
    unfold rowL colL
    rw [if_pos a, if_pos a]
    constructor
    · rintro ⟨q1, q2, q3⟩; subst q3; exact ⟨rfl, by omega, q1.2.2⟩
    · rintro ⟨q1, q2, q3⟩; subst q1
      have : zc (fX P) x (l - nR P) := ⟨by omega, by omega, q3⟩
      exact ⟨this, hX _ _ this, rfl⟩
  · rw [if_neg a]
    refine runs_row (r := l) (by omega) _ (fun x c => ?_) μ
    rw [zc_and, zc_lm o1 o2 hl, if_neg a]
    unfold rowL colL
    rw [if_neg a, if_neg a]
    constructor
    · rintro ⟨q1, q2, q3⟩; subst q3; exact ⟨rfl, by omega, q1.2.2⟩
    · rintro ⟨q1, q2, q3⟩; subst q1
      have : zc (fX P) x c := ⟨by omega, by omega, q3⟩
      exact ⟨this, hX _ _ this, rfl⟩
theorem op_line {μ : Mem} {A : Ab} (h : cInv μ A) {l v : Int} (hl : inZ l) (hv : inZ v) : opOK A [eIdx, eArg] μ (F_X7_line (i3 l) (i3 v) μ) (F_X8_line (i3 l) (i3 v)) := by
  have ok := h.2.1
  have o1 := ok.2.1
  have o2 := ok.2.2.2.1
  have hP := h.1
  have inq : ∀ s, F_X8_in (i3 v) (0 : Int32) (4 : Int32) s = rI (i3 (if 0 ≤ v ∧ v ≤ 4 then 1 else 0)) s := fun s => by rw [l3_0, l3_4]; exact in_code hv (by decide) (by decide) s
  by_cases q : 0 ≤ l ∧ l < nR (aP A) + nC (aP A)
  · obtain ⟨l, rfl, hl'⟩ := natZ (v := l) (n := nR (aP A) + nC (aP A)) (by omega)
    have cl : ∀ a1, F_X7_line (i3 (l : Int)) a1 μ = (if a1 = (0 : Int32) then (cI (F_X4_countOf 2 (i3 (l : Int)) μ) (fun v15 μ12 => rI v15 μ12)) else if a1 = (1 : Int32) then (cI (F_X4_wantedOf 2 (i3 (l : Int)) μ) (fun v21 μ18 => rI v21 μ18)) else if a1 = (2 : Int32) then (cI (F_X4_stepIn 2 (i3 (l : Int)) μ) (fun v27 μ24 => cI (F_X0_countRuns ((μ.2.1 2 2) &&& lmI (nR (aP A)) (nC (aP A)) l) v27 μ24) (fun v32 μ29 => rI v32 μ29))) else if a1 = (3 : Int32) then (cI (F_X4_stepIn 2 (i3 (l : Int)) μ) (fun v38 μ35 => cI (F_X0_longestRun ((μ.2.1 2 2) &&& lmI (nR (aP A)) (nC (aP A)) l) v38 μ35) (fun v43 μ40 => rI v43 μ40))) else if a1 = (4 : Int32) then (cI (F_J13_bitCount_95d88 ((μ.2.1 2 3) &&& lmI (nR (aP A)) (nC (aP A)) l) μ) (fun v49 μ46 => rI v49 μ46)) else (rX "java/lang/IllegalArgumentException" μ)) := fun a1 => by
      simp only [F_X7_line, chk_line h hl, if_pos q, cV_k, lineMask_code hP ok hl', cJ_k]
    have hst : F_X4_stepIn 2 (i3 (l : Int)) μ = rI (if nR (aP A) ≤ l then (8 : Int32) else (1 : Int32)) μ := by
      rw [stepIn_code hP ok hl']; split <;> rfl
    have hru := lineRuns ok hl' μ
    by_cases p : 0 ≤ v ∧ v ≤ 4
    · have ms : ∀ s, mInv s A → F_X8_line (i3 (l : Int)) (i3 v) s = f_X8_line_27 (i3 (l : Int)) (i3 v) (0 : Int32) s := fun s hs => by simp only [F_X8_line, mIsLine hs.1 ok hl, if_pos q, cI_k, if_neg iz1, inq, if_pos p]
      have e5 : v = 0 ∨ v = 1 ∨ v = 2 ∨ v = 3 ∨ v = 4 := by omega
      rcases e5 with rfl | rfl | rfl | rfl | rfl
      · refine op_val (frc_rf μ) h (v := i3 (cnt (nR (aP A)) (fX (aP A)) l)) ?_ (fun s hs => ⟨_, ?_, m_fin0 hs⟩)
        · rw [cl, if_pos (by decide), countOf_code hP ok hl', cI_k]
        · obtain ⟨t1, t2, t3⟩ := thr hs (0 : Int32)
          rw [ms s hs]; unfold f_X8_line_27; rw [lt_k, t3, if_pos rfl, if_pos (by decide), mCount t2.1 ok hl', cI_k]
      · refine op_val (frc_rf μ) h (v := i3 (wnt (aP A) l)) ?_ (fun s hs => ⟨_, ?_, m_fin0 hs⟩)
        · rw [cl, if_neg (by decide), if_pos (by decide), wantedOf_code hP ok hl', cI_k]
        · obtain ⟨t1, t2, t3⟩ := thr hs (0 : Int32)
          obtain ⟨a, a1, a2, a3, a4⟩ := mWantAt t2.1 ok hl'
          rw [ms s hs]; unfold f_X8_line_27; rw [lt_k, t3, if_pos rfl, if_neg (by decide), if_pos (by decide), a1, cI_k, ck_k (i3_in (by omega) (by decide)), clampN (show a < 2147483648 by omega), a4]
      · refine op_val (frc_rf μ) h (v := i3 (nrn (fun i => tb (fX (aP A)) (8 * rowL (aP A) l i + colL (aP A) l i)) (lenL (aP A) l))) ?_ (fun s hs => ⟨_, ?_, m_fin0 hs⟩)
        · rw [cl, if_neg (by decide), if_neg (by decide), if_pos (by decide), hst, cI_k, hP.2.2.1, hru.1, cI_k]
        · obtain ⟨t1, t2, t3⟩ := thr hs (0 : Int32)
          have hm := mRuns t2.1 ok hl' false
          rw [show i3 (b2 false) = (0 : Int32) from rfl] at hm
          rw [ms s hs]; unfold f_X8_line_27; rw [lt_k, t3, if_pos rfl, if_neg (by decide), if_neg (by decide), if_pos (by decide)]
          unfold f_X8_line_89; rw [if_neg (by decide), hm, cI_k]; rfl
      · refine op_val (frc_rf μ) h (v := i3 (mrn (fun i => tb (fX (aP A)) (8 * rowL (aP A) l i + colL (aP A) l i)) (lenL (aP A) l) : Int)) ?_ (fun s hs => ⟨_, ?_, m_fin0 hs⟩)
        · rw [cl, if_neg (by decide), if_neg (by decide), if_neg (by decide), if_pos (by decide), hst, cI_k, hP.2.2.1, hru.2, cI_k]
        · obtain ⟨t1, t2, t3⟩ := thr hs (0 : Int32)
          have hm := mRuns t2.1 ok hl' true
          rw [show i3 (b2 true) = (1 : Int32) from rfl] at hm
          rw [ms s hs]; unfold f_X8_line_27; rw [lt_k, t3, if_pos rfl, if_neg (by decide), if_neg (by decide), if_neg (by decide), if_pos (by decide)]
          unfold f_X8_line_89; rw [if_pos (by decide), hm, cI_k]; rfl
      · refine op_val (frc_rf μ) h (v := i3 (cnt (nR (aP A)) (fP (aP A)) l)) ?_ (fun s hs => ⟨_, ?_, m_fin0 hs⟩)
        · rw [cl, if_neg (by decide), if_neg (by decide), if_neg (by decide), if_neg (by decide), if_pos (by decide), hP.2.2.2.1, pc_code, cI_k, pc_lm o1 o2 ok.2.2.2.2.2.1 hl']
        · obtain ⟨t1, t2, t3⟩ := thr hs (0 : Int32)
          have hm1 := mPins t2.1 ok hl' true
          have hm0 := mPins t2.1 ok hl' false
          rw [show i3 (b2 true) = (1 : Int32) from rfl] at hm1
          rw [show i3 (b2 false) = (0 : Int32) from rfl] at hm0
          have hs2 := (cnt_pins (P := aP A) l).resolve_right (fun w => w ⟨hl', o1, o2⟩)
          rw [ms s hs]; unfold f_X8_line_27; rw [lt_k, t3, if_pos rfl, if_neg (by decide), if_neg (by decide), if_neg (by decide), if_neg (by decide), hm1, cI_k, hm0, cI_k, i3_add]
          rw [← hs2]; rfl
    · have nk : ∀ k : Int, 0 ≤ k → k ≤ 4 → ¬ i3 v = i3 k := fun k h0 h1 => ne3 (by omega)
      have n0 : ¬ i3 v = (0 : Int32) := by rw [l3_0]; exact nk 0 (by decide) (by decide)
      have n1 : ¬ i3 v = (1 : Int32) := by rw [l3_1]; exact nk 1 (by decide) (by decide)
      have n2 : ¬ i3 v = (2 : Int32) := by rw [l3_2]; exact nk 2 (by decide) (by decide)
      have n3 : ¬ i3 v = (3 : Int32) := by rw [l3_3]; exact nk 3 (by decide) (by decide)
      have n4 : ¬ i3 v = (4 : Int32) := by rw [l3_4]; exact nk 4 (by decide) (by decide)
      refine op_err (frc_rf μ) h eArg 1 ?_ rfl (fun s hs => ?_)
      · rw [cl, if_neg n0, if_neg n1, if_neg n2, if_neg n3, if_neg n4]
      · obtain ⟨t1, t2, t3⟩ := thr hs (2 : Int32)
        refine ⟨0, sI s 29 8 (2 : Int32), ?_, t1, by rw [t3]; decide, t2⟩
        simp only [F_X8_line, mIsLine hs.1 ok hl, if_pos q, cI_k, if_neg iz1, inq, if_neg p, if_pos iz0]
        unfold f_X8_line_27; rw [lt_k, t3, if_neg jz2]
  · refine op_err (frc_rf μ) h eIdx 0 ?_ rfl (fun s hs => ?_)
    · simp only [F_X7_line, chk_line h hl, if_neg q, cV_x]
    · obtain ⟨t1, t2, t3⟩ := thr hs (1 : Int32)
      refine ⟨0, sI s 29 8 (1 : Int32), ?_, t1, by rw [t3]; decide, t2⟩
      simp only [F_X8_line, mIsLine hs.1 ok hl, if_neg q, cI_k, if_pos iz0]
      unfold f_X8_line_27; rw [lt_k, t3, if_neg jz1]
