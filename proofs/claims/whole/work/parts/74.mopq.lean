/-! the questions on both sides -/
theorem op_val {A : Ab} {kd : List String} {μ μ1 : Mem} {oc : Out} {om : Mem → Out} {v : Int32} (hf : frc μ μ1) (hc : cInv μ1 A) (h1 : oc = rI v μ1) (h3 : ∀ s, mInv s A → ∃ z, om s = rI v z ∧ frm s z ∧ z.1 29 8 = i3 0 ∧ mInv z A) : opOK A kd μ oc om :=
  ⟨μ1, hf, Or.inl ⟨v, A, h1, hc, h3⟩⟩
/-- a question that changes nothing, or a scratch place alone -/
theorem m_fin {W : List Nat} {s z : Mem} {A : Ab} (hs : mInv s A) (hf : fr W (sI s 29 8 (0 : Int32)) z) (hw : ∀ k, k ∈ W → 35 ≤ k ∧ k ≤ 47) : frm s z ∧ z.1 29 8 = i3 0 ∧ mInv z A := by
  obtain ⟨t1, t2, t3⟩ := thr hs (0 : Int32)
  obtain ⟨a, b, c⟩ := m_scr t2 hf hw
  exact ⟨frm_tr t1 a, by rw [c 8, t3]; rfl, b⟩
theorem m_fin0 {s : Mem} {A : Ab} (hs : mInv s A) : frm s (sI s 29 8 (0 : Int32)) ∧ (sI s 29 8 (0 : Int32)).1 29 8 = i3 0 ∧ mInv (sI s 29 8 (0 : Int32)) A := m_fin hs (fr_rf [] _) (by simp)
theorem brdX {P : Pic} (ok : okP P) {y : Int64} (hy : ∀ r c, zc y r c → r < nR P ∧ c < nC P) : brd y := (brd_iff _).mpr (fun r c q => by have := hy r c q; have := ok.2.1; have := ok.2.2.2.1; omega)
theorem op_exchangeAt {μ : Mem} {A : Ab} (h : cInv μ A) {v : Int} (hv : inZ v) : opOK A [eArg] μ (F_X7_exchangeAt (i3 v) μ) (F_X8_exchangeAt (i3 v)) := by
  have ok := h.2.1
  by_cases q : 0 ≤ v
  · have l : (0 : Int32) ≤ i3 v := by rw [l3_0]; exact le3 (by omega)
    obtain ⟨w, x1, x2⟩ := exchangeNumbered_code h.1 ok q (by omega)
    refine op_val (frc_rf μ) h (v := i3 w) (by simp only [F_X7_exchangeAt, if_pos l, x1, cI_k]) (fun s hs => ?_)
    obtain ⟨t1, t2, t3⟩ := thr hs (0 : Int32)
    obtain ⟨w', y1, y2⟩ := mExAt t2.1 ok (i := v) (by omega)
    have e := isEx_uni y2 x2
    subst e
    refine ⟨sI s 29 8 (0 : Int32), ?_, m_fin0 hs⟩
    simp only [F_X8_exchangeAt, if_pos l, f_X8_exchangeAt_10, lt_k, t3, if_true, y1, cI_k]
  · have l : ¬ (0 : Int32) ≤ i3 v := by rw [l3_0]; exact nle3 (by omega)
    refine op_err (frc_rf μ) h eArg 0 (by simp only [F_X7_exchangeAt, if_neg l]) rfl (fun s hs => ?_)
    obtain ⟨t1, t2, t3⟩ := thr hs (1 : Int32)
    refine ⟨0, sI s 29 8 (1 : Int32), ?_, t1, by rw [t3]; decide, t2⟩
    simp only [F_X8_exchangeAt, if_neg l, f_X8_exchangeAt_10, lt_k, t3, if_neg jz1]
theorem ab_0 {μ : Mem} {A : Ab} (h : cInv μ A) : opOK A [eArg] μ (F_X7_about (i3 0) μ) (f_X8_about_16 (i3 0) (0 : Int32)) := by
  have ok := h.2.1
  have o1 := ok.2.1
  have o2 := ok.2.2.2.1
  have hP := h.1
  have bX := brdX ok ok.2.2.2.2.1
  have e0 : (0 : Int32) = i3 ((0 : Nat) : Int) := l3_0
  refine op_val (frc_rf μ) h (v := i3 (nR (aP A))) ?_ (fun s hs => ⟨_, ?_, m_fin0 hs⟩)
  · unfold F_X7_about; rw [if_pos (by decide), hP.1]
  · have hm := (thr hs (0 : Int32)).2.1.1
    unfold f_X8_about_16; rw [lt_k, if_pos (by decide), ck_k (by decide)]; show rI ((sI s 29 8 (0 : Int32)).1 30 0) _ = _; rw [hm.1]
theorem ab_1 {μ : Mem} {A : Ab} (h : cInv μ A) : opOK A [eArg] μ (F_X7_about (i3 1) μ) (f_X8_about_16 (i3 1) (0 : Int32)) := by
  have ok := h.2.1
  have o1 := ok.2.1
  have o2 := ok.2.2.2.1
  have hP := h.1
  have bX := brdX ok ok.2.2.2.2.1
  have e0 : (0 : Int32) = i3 ((0 : Nat) : Int) := l3_0
  refine op_val (frc_rf μ) h (v := i3 (nC (aP A))) ?_ (fun s hs => ⟨_, ?_, m_fin0 hs⟩)
  · unfold F_X7_about; rw [if_neg (by decide), if_pos (by decide), hP.2.1]
  · have hm := (thr hs (0 : Int32)).2.1.1
    unfold f_X8_about_16; rw [lt_k, if_neg (by decide), if_pos (by decide), ck_k (by decide)]; show rI ((sI s 29 8 (0 : Int32)).1 30 1) _ = _; rw [hm.2.1]
theorem ab_2 {μ : Mem} {A : Ab} (h : cInv μ A) : opOK A [eArg] μ (F_X7_about (i3 2) μ) (f_X8_about_16 (i3 2) (0 : Int32)) := by
  have ok := h.2.1
  have o1 := ok.2.1
  have o2 := ok.2.2.2.1
  have hP := h.1
  have bX := brdX ok ok.2.2.2.2.1
  have e0 : (0 : Int32) = i3 ((0 : Nat) : Int) := l3_0
  refine op_val (frc_rf μ) h (v := i3 (pc (fX (aP A)))) ?_ (fun s hs => ⟨_, ?_, m_fin0 hs⟩)
  · unfold F_X7_about; rw [if_neg (by decide), if_neg (by decide), if_pos (by decide), countFilled_code hP, cI_k]
  · have hm := (thr hs (0 : Int32)).2.1.1
    unfold f_X8_about_16; rw [lt_k, if_neg (by decide), if_neg (by decide), if_pos (by decide), mFilledMany hm ok, cI_k]
theorem ab_3 {μ : Mem} {A : Ab} (h : cInv μ A) : opOK A [eArg] μ (F_X7_about (i3 3) μ) (f_X8_about_16 (i3 3) (0 : Int32)) := by
  have ok := h.2.1
  have o1 := ok.2.1
  have o2 := ok.2.2.2.1
  have hP := h.1
  have bX := brdX ok ok.2.2.2.2.1
  have e0 : (0 : Int32) = i3 ((0 : Nat) : Int) := l3_0
  refine op_val (frc_rf μ) h (v := i3 (pc (fP (aP A)))) ?_ (fun s hs => ⟨_, ?_, m_fin0 hs⟩)
  · unfold F_X7_about; rw [if_neg (by decide), if_neg (by decide), if_neg (by decide), if_pos (by decide), hP.2.2.2.1, pc_code, cI_k]
  · have hm := (thr hs (0 : Int32)).2.1.1
    unfold f_X8_about_16; rw [lt_k, if_neg (by decide), if_neg (by decide), if_neg (by decide), if_pos (by decide), mPinnedMany hm ok, cI_k]
theorem ab_4 {μ : Mem} {A : Ab} (h : cInv μ A) : opOK A [eArg] μ (F_X7_about (i3 4) μ) (f_X8_about_16 (i3 4) (0 : Int32)) := by
  have ok := h.2.1
  have o1 := ok.2.1
  have o2 := ok.2.2.2.1
  have hP := h.1
  have bX := brdX ok ok.2.2.2.2.1
  have e0 : (0 : Int32) = i3 ((0 : Nat) : Int) := l3_0
  refine op_val (frc_rf μ) h (v := i3 (zs 6 (fun i => (dgn (wU (aP A)) i : Int)))) ?_ (fun s hs => ⟨_, ?_, m_fin0 hs⟩)
  · unfold F_X7_about; rw [if_neg (by decide), if_neg (by decide), if_neg (by decide), if_neg (by decide), if_pos (by decide), wantedOfRows_code hP, cI_k]
  · have hm := (thr hs (0 : Int32)).2.1.1
    have hw := mWants hm ok (a := 0) (b := nR (aP A)) (Nat.zero_le _) (by omega)
    rw [zs_0, Int.sub_zero, wnt_rows ok, ← e0] at hw
    unfold f_X8_about_16; rw [lt_k, if_neg (by decide), if_neg (by decide), if_neg (by decide), if_neg (by decide), if_pos (by decide), rows_code hm, cI_k, hw, cI_k]
theorem ab_5 {μ : Mem} {A : Ab} (h : cInv μ A) : opOK A [eArg] μ (F_X7_about (i3 5) μ) (f_X8_about_16 (i3 5) (0 : Int32)) := by
  have ok := h.2.1
  have o1 := ok.2.1
  have o2 := ok.2.2.2.1
  have hP := h.1
  have bX := brdX ok ok.2.2.2.2.1
  have e0 : (0 : Int32) = i3 ((0 : Nat) : Int) := l3_0
  refine op_val (frc_rf μ) h (v := i3 (zs 6 (fun i => (dgn (wV (aP A)) i : Int)))) ?_ (fun s hs => ⟨_, ?_, m_fin0 hs⟩)
  · unfold F_X7_about; rw [if_neg (by decide), if_neg (by decide), if_neg (by decide), if_neg (by decide), if_neg (by decide), if_pos (by decide), wantedOfColumns_code hP, cI_k]
  · have hm := (thr hs (0 : Int32)).2.1.1
    have hw := mWants hm ok (a := nR (aP A)) (b := nR (aP A) + nC (aP A)) (by omega) (Nat.le_refl _)
    rw [wnt_cols ok] at hw
    have ea : i3 (nR (aP A) : Int) + i3 (nC (aP A) : Int) = i3 ((nR (aP A) + nC (aP A) : Nat) : Int) := by rw [i3_add]; rfl
    unfold f_X8_about_16; rw [lt_k, if_neg (by decide), if_neg (by decide), if_neg (by decide), if_neg (by decide), if_neg (by decide), if_pos (by decide)]
    simp only [rows_code hm, cols_code hm, cI_k, ea, hw]
theorem ab_6 {μ : Mem} {A : Ab} (h : cInv μ A) : opOK A [eArg] μ (F_X7_about (i3 6) μ) (f_X8_about_16 (i3 6) (0 : Int32)) := by
  have ok := h.2.1
  have o1 := ok.2.1
  have o2 := ok.2.2.2.1
  have hP := h.1
  have bX := brdX ok ok.2.2.2.2.1
  have e0 : (0 : Int32) = i3 ((0 : Nat) : Int) := l3_0
  refine op_val (frc_rf μ) h (v := i3 (wrg (aP A))) ?_ (fun s hs => ⟨_, ?_, m_fin0 hs⟩)
  · unfold F_X7_about; rw [if_neg (by decide), if_neg (by decide), if_neg (by decide), if_neg (by decide), if_neg (by decide), if_neg (by decide), if_pos (by decide), countWrongLines_code hP ok, cI_k]
  · have hm := (thr hs (0 : Int32)).2.1.1
    unfold f_X8_about_16; rw [lt_k, if_neg (by decide), if_neg (by decide), if_neg (by decide), if_neg (by decide), if_neg (by decide), if_neg (by decide), if_pos (by decide), mWrong hm ok, cI_k]
theorem ab_7 {μ : Mem} {A : Ab} (h : cInv μ A) : opOK A [eArg] μ (F_X7_about (i3 7) μ) (f_X8_about_16 (i3 7) (0 : Int32)) := by
  have ok := h.2.1
  have o1 := ok.2.1
  have o2 := ok.2.2.2.1
  have hP := h.1
  have bX := brdX ok ok.2.2.2.2.1
  have e0 : (0 : Int32) = i3 ((0 : Nat) : Int) := l3_0
  obtain ⟨n, x1, x2, x3⟩ := countPieces_code bX μ
  refine op_val (frc_rf μ) h (v := i3 n) ?_ (fun s hs => ?_)
  · unfold F_X7_about; rw [if_neg (by decide), if_neg (by decide), if_neg (by decide), if_neg (by decide), if_neg (by decide), if_neg (by decide), if_neg (by decide), if_pos (by decide), hP.2.2.1, x1, cI_k]
  · have hm := (thr hs (0 : Int32)).2.1.1
    obtain ⟨n', z, y1, y2, y3, -⟩ := mLaysPieces hm ok
    have e := npc_inj y3 x2
    subst e
    refine ⟨z, ?_, m_fin hs y2 (by simp)⟩
    unfold f_X8_about_16; rw [lt_k, if_neg (by decide), if_neg (by decide), if_neg (by decide), if_neg (by decide), if_neg (by decide), if_neg (by decide), if_neg (by decide), if_pos (by decide), y1, cI_k]
theorem ab_8 {μ : Mem} {A : Ab} (h : cInv μ A) : opOK A [eArg] μ (F_X7_about (i3 8) μ) (f_X8_about_16 (i3 8) (0 : Int32)) := by
  have ok := h.2.1
  have o1 := ok.2.1
  have o2 := ok.2.2.2.1
  have hP := h.1
  have bX := brdX ok ok.2.2.2.2.1
  have e0 : (0 : Int32) = i3 ((0 : Nat) : Int) := l3_0
  refine op_val (frc_rf μ) h (v := i3 (outl (fX (aP A)) (fX (aP A)))) ?_ (fun s hs => ⟨_, ?_, m_fin0 hs⟩)
  · unfold F_X7_about; rw [if_neg (by decide), if_neg (by decide), if_neg (by decide), if_neg (by decide), if_neg (by decide), if_neg (by decide), if_neg (by decide), if_neg (by decide), if_pos (by decide), hP.2.2.1, outline_code bX bX, cI_k]
  · have hm := (thr hs (0 : Int32)).2.1.1
    unfold f_X8_about_16; rw [lt_k, if_neg (by decide), if_neg (by decide), if_neg (by decide), if_neg (by decide), if_neg (by decide), if_neg (by decide), if_neg (by decide), if_neg (by decide), if_pos (by decide), mOutline hm ok, cI_k]
theorem ab_9 {μ : Mem} {A : Ab} (h : cInv μ A) : opOK A [eArg] μ (F_X7_about (i3 9) μ) (f_X8_about_16 (i3 9) (0 : Int32)) := by
  have ok := h.2.1
  have o1 := ok.2.1
  have o2 := ok.2.2.2.1
  have hP := h.1
  have bX := brdX ok ok.2.2.2.2.1
  have e0 : (0 : Int32) = i3 ((0 : Nat) : Int) := l3_0
  obtain ⟨y, x1, x2, x3⟩ := hull_code bX μ
  refine op_val (frc_rf μ) h (v := i3 (pc y)) ?_ (fun s hs => ?_)
  · unfold F_X7_about; rw [if_neg (by decide), if_neg (by decide), if_neg (by decide), if_neg (by decide), if_neg (by decide), if_neg (by decide), if_neg (by decide), if_neg (by decide), if_neg (by decide), if_pos (by decide), hP.2.2.1, x1, cJ_k, pc_code, cI_k]
  · have hm := (thr hs (0 : Int32)).2.1.1
    obtain ⟨z, y1, y2, y3, y4⟩ := mLaysHull hm ok
    have e : hn z = pc y := (hn_pc x2 (fun r c => by rw [x3]; exact (y4 r c).symm)).symm
    refine ⟨z, ?_, m_fin hs y2 (by simp)⟩
    unfold f_X8_about_16; rw [lt_k, if_neg (by decide), if_neg (by decide), if_neg (by decide), if_neg (by decide), if_neg (by decide), if_neg (by decide), if_neg (by decide), if_neg (by decide), if_neg (by decide), if_pos (by decide), y1, cI_k, e]
theorem ab_10 {μ : Mem} {A : Ab} (h : cInv μ A) : opOK A [eArg] μ (F_X7_about (i3 10) μ) (f_X8_about_16 (i3 10) (0 : Int32)) := by
  have ok := h.2.1
  have o1 := ok.2.1
  have o2 := ok.2.2.2.1
  have hP := h.1
  have bX := brdX ok ok.2.2.2.2.1
  have e0 : (0 : Int32) = i3 ((0 : Nat) : Int) := l3_0
  refine op_val (frc_rf μ) h (v := i3 (cex (aP A) 1296)) ?_ (fun s hs => ⟨_, ?_, m_fin0 hs⟩)
  · unfold F_X7_about; rw [if_neg (by decide), if_neg (by decide), if_neg (by decide), if_neg (by decide), if_neg (by decide), if_neg (by decide), if_neg (by decide), if_neg (by decide), if_neg (by decide), if_neg (by decide), if_pos (by decide), countExchanges_code hP ok, cI_k]
  · have hm := (thr hs (0 : Int32)).2.1.1
    unfold f_X8_about_16; rw [lt_k, if_neg (by decide), if_neg (by decide), if_neg (by decide), if_neg (by decide), if_neg (by decide), if_neg (by decide), if_neg (by decide), if_neg (by decide), if_neg (by decide), if_neg (by decide), if_pos (by decide), mExCount hm ok, cI_k]
theorem op_about {μ : Mem} {A : Ab} (h : cInv μ A) {v : Int} (hv : inZ v) : opOK A [eArg] μ (F_X7_about (i3 v) μ) (F_X8_about (i3 v)) := by
  have ok := h.2.1
  have o1 := ok.2.1
  have o2 := ok.2.2.2.1
  have inq : ∀ s, F_X8_in (i3 v) (0 : Int32) (10 : Int32) s = rI (i3 (if 0 ≤ v ∧ v ≤ 10 then 1 else 0)) s := fun s => by rw [l3_0, l3_10]; exact in_code hv (by decide) (by decide) s
  by_cases q : 0 ≤ v ∧ v ≤ 10
  · have ms : F_X8_about (i3 v) = f_X8_about_16 (i3 v) (0 : Int32) := funext (fun s => by simp only [F_X8_about, inq, if_pos q, cI_k, if_neg iz1])
    rw [ms]
    have e11 : v = 0 ∨ v = 1 ∨ v = 2 ∨ v = 3 ∨ v = 4 ∨ v = 5 ∨ v = 6 ∨ v = 7 ∨ v = 8 ∨ v = 9 ∨ v = 10 := by omega
    rcases e11 with rfl | rfl | rfl | rfl | rfl | rfl | rfl | rfl | rfl | rfl | rfl
    · exact ab_0 h
    · exact ab_1 h
    · exact ab_2 h
    · exact ab_3 h
    · exact ab_4 h
    · exact ab_5 h
    · exact ab_6 h
    · exact ab_7 h
    · exact ab_8 h
    · exact ab_9 h
    · exact ab_10 h
  · have nk : ∀ k : Int, 0 ≤ k → k ≤ 10 → ¬ i3 v = i3 k := fun k h0 h1 => ne3 (by omega)
    have n0 : ¬ i3 v = (0 : Int32) := by rw [l3_0]; exact nk 0 (by decide) (by decide)
    have n1 : ¬ i3 v = (1 : Int32) := by rw [l3_1]; exact nk 1 (by decide) (by decide)
    have n2 : ¬ i3 v = (2 : Int32) := by rw [l3_2]; exact nk 2 (by decide) (by decide)
    have n3 : ¬ i3 v = (3 : Int32) := by rw [l3_3]; exact nk 3 (by decide) (by decide)
    have n4 : ¬ i3 v = (4 : Int32) := by rw [l3_4]; exact nk 4 (by decide) (by decide)
    have n5 : ¬ i3 v = (5 : Int32) := by rw [l3_5]; exact nk 5 (by decide) (by decide)
    have n6 : ¬ i3 v = (6 : Int32) := by rw [l3_6]; exact nk 6 (by decide) (by decide)
    have n7 : ¬ i3 v = (7 : Int32) := by rw [l3_7]; exact nk 7 (by decide) (by decide)
    have n8 : ¬ i3 v = (8 : Int32) := by rw [l3_8]; exact nk 8 (by decide) (by decide)
    have n9 : ¬ i3 v = (9 : Int32) := by rw [l3_9]; exact nk 9 (by decide) (by decide)
    have n10 : ¬ i3 v = (10 : Int32) := by rw [l3_10]; exact nk 10 (by decide) (by decide)
    refine op_err (frc_rf μ) h eArg 0 ?_ rfl (fun s hs => ?_)
    · unfold F_X7_about; rw [if_neg n0, if_neg n1, if_neg n2, if_neg n3, if_neg n4, if_neg n5, if_neg n6, if_neg n7, if_neg n8, if_neg n9, if_neg n10]
    · obtain ⟨t1, t2, t3⟩ := thr hs (1 : Int32)
      refine ⟨0, sI s 29 8 (1 : Int32), ?_, t1, by rw [t3]; decide, t2⟩
      simp only [F_X8_about, inq, if_neg q, cI_k, if_pos iz0]
      unfold f_X8_about_16; rw [lt_k, if_neg n0, if_neg n1, if_neg n2, if_neg n3, if_neg n4, if_neg n5, if_neg n6, if_neg n7, if_neg n8, if_neg n9, if_neg n10]
