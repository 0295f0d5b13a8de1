/-! the operations of the class: what each answers, and what it leaves behind -/
theorem a_0 {μ : Mem} {A : Ab} (h : cInv μ A) : F_X7_about (0 : Int32) μ = rI (i3 (nR (aP A))) μ := by
  unfold F_X7_about; rw [if_pos (by decide), h.1.1]
theorem a_1 {μ : Mem} {A : Ab} (h : cInv μ A) : F_X7_about (1 : Int32) μ = rI (i3 (nC (aP A))) μ := by
  unfold F_X7_about; rw [if_neg (by decide), if_pos (by decide), h.1.2.1]
theorem a_2 {μ : Mem} {A : Ab} (h : cInv μ A) : F_X7_about (2 : Int32) μ = rI (i3 (pc (fX (aP A)))) μ := by
  unfold F_X7_about; rw [if_neg (by decide), if_neg (by decide), if_pos (by decide), countFilled_code h.1, cI_k]
theorem a_3 {μ : Mem} {A : Ab} (h : cInv μ A) : F_X7_about (3 : Int32) μ = rI (i3 (pc (fP (aP A)))) μ := by
  unfold F_X7_about; rw [if_neg (by decide), if_neg (by decide), if_neg (by decide), if_pos (by decide), h.1.2.2.2.1, pc_code, cI_k]
theorem a_4 {μ : Mem} {A : Ab} (h : cInv μ A) : F_X7_about (4 : Int32) μ = rI (i3 (zs 6 (fun i => (dgn (wU (aP A)) i : Int)))) μ := by
  unfold F_X7_about; rw [if_neg (by decide), if_neg (by decide), if_neg (by decide), if_neg (by decide), if_pos (by decide), wantedOfRows_code h.1, cI_k]
theorem a_5 {μ : Mem} {A : Ab} (h : cInv μ A) : F_X7_about (5 : Int32) μ = rI (i3 (zs 6 (fun i => (dgn (wV (aP A)) i : Int)))) μ := by
  unfold F_X7_about; rw [if_neg (by decide), if_neg (by decide), if_neg (by decide), if_neg (by decide), if_neg (by decide), if_pos (by decide), wantedOfColumns_code h.1, cI_k]
theorem a_6 {μ : Mem} {A : Ab} (h : cInv μ A) : F_X7_about (6 : Int32) μ = rI (i3 (wrg (aP A))) μ := by
  unfold F_X7_about; rw [if_neg (by decide), if_neg (by decide), if_neg (by decide), if_neg (by decide), if_neg (by decide), if_neg (by decide), if_pos (by decide), countWrongLines_code h.1 h.2.1, cI_k]
theorem a_7 {μ : Mem} {A : Ab} (h : cInv μ A) : ∃ n : Nat, F_X7_about (7 : Int32) μ = rI (i3 n) μ ∧ npc (zc (fX (aP A))) n ∧ n ≤ 36 := by
  obtain ⟨n, x1, x2, x3⟩ := countPieces_code (brdX h.2.1 h.2.1.2.2.2.2.1) μ
  refine ⟨n, ?_, x2, x3⟩
  unfold F_X7_about; rw [if_neg (by decide), if_neg (by decide), if_neg (by decide), if_neg (by decide), if_neg (by decide), if_neg (by decide), if_neg (by decide), if_pos (by decide), h.1.2.2.1, x1, cI_k]
theorem a_8 {μ : Mem} {A : Ab} (h : cInv μ A) : F_X7_about (8 : Int32) μ = rI (i3 (outl (fX (aP A)) (fX (aP A)))) μ := by
  have bX := brdX h.2.1 h.2.1.2.2.2.2.1
  unfold F_X7_about; rw [if_neg (by decide), if_neg (by decide), if_neg (by decide), if_neg (by decide), if_neg (by decide), if_neg (by decide), if_neg (by decide), if_neg (by decide), if_pos (by decide), h.1.2.2.1, outline_code bX bX, cI_k]
theorem a_9 {μ : Mem} {A : Ab} (h : cInv μ A) {y : Int64} (hy : brd y) (hh : ∀ r c, zc y r c ↔ hul (zc (fX (aP A))) r c) : F_X7_about (9 : Int32) μ = rI (i3 (pc y)) μ := by
  obtain ⟨y', x1, x2, x3⟩ := hull_code (brdX h.2.1 h.2.1.2.2.2.2.1) μ
  have e : y' = y := zc_ext (fun r c => (x3 r c).trans (hh r c).symm)
  subst e
  unfold F_X7_about; rw [if_neg (by decide), if_neg (by decide), if_neg (by decide), if_neg (by decide), if_neg (by decide), if_neg (by decide), if_neg (by decide), if_neg (by decide), if_neg (by decide), if_pos (by decide), h.1.2.2.1, x1, cJ_k, pc_code, cI_k]
theorem a_10 {μ : Mem} {A : Ab} (h : cInv μ A) : F_X7_about (10 : Int32) μ = rI (i3 (cex (aP A) 1296)) μ := by
  unfold F_X7_about; rw [if_neg (by decide), if_neg (by decide), if_neg (by decide), if_neg (by decide), if_neg (by decide), if_neg (by decide), if_neg (by decide), if_neg (by decide), if_neg (by decide), if_neg (by decide), if_pos (by decide), countExchanges_code h.1 h.2.1, cI_k]
theorem l_q {μ : Mem} {A : Ab} (h : cInv μ A) {l : Nat} (hl' : l < nR (aP A) + nC (aP A)) (a1 : Int32) : F_X7_line (i3 (l : Int)) a1 μ = (if a1 = (0 : Int32) then (cI (F_X4_countOf 2 (i3 (l : Int)) μ) (fun v15 μ12 => rI v15 μ12)) else if a1 = (1 : Int32) then (cI (F_X4_wantedOf 2 (i3 (l : Int)) μ) (fun v21 μ18 => rI v21 μ18)) else if a1 = (2 : Int32) then (cI (F_X4_stepIn 2 (i3 (l : Int)) μ) (fun v27 μ24 => cI (F_X0_countRuns ((μ.2.1 2 2) &&& lmI (nR (aP A)) (nC (aP A)) l) v27 μ24) (fun v32 μ29 => rI v32 μ29))) else if a1 = (3 : Int32) then (cI (F_X4_stepIn 2 (i3 (l : Int)) μ) (fun v38 μ35 => cI (F_X0_longestRun ((μ.2.1 2 2) &&& lmI (nR (aP A)) (nC (aP A)) l) v38 μ35) (fun v43 μ40 => rI v43 μ40))) else if a1 = (4 : Int32) then (cI (F_J13_bitCount_95d88 ((μ.2.1 2 3) &&& lmI (nR (aP A)) (nC (aP A)) l) μ) (fun v49 μ46 => rI v49 μ46)) else (rX "java/lang/IllegalArgumentException" μ)) := by
  have o1 := h.2.1.2.1
  have o2 := h.2.1.2.2.2.1
  simp only [F_X7_line, chk_line h (show inZ (l : Int) by constructor <;> omega), if_pos (show 0 ≤ (l : Int) ∧ (l : Int) < nR (aP A) + nC (aP A) by omega), cV_k, lineMask_code h.1 h.2.1 hl', cJ_k]
theorem l_0 {μ : Mem} {A : Ab} (h : cInv μ A) {l : Nat} (hl : l < nR (aP A) + nC (aP A)) : F_X7_line (i3 (l : Int)) (0 : Int32) μ = rI (i3 (cnt (nR (aP A)) (fX (aP A)) l)) μ := by
  rw [l_q h hl, if_pos (by decide), countOf_code h.1 h.2.1 hl, cI_k]
theorem l_1 {μ : Mem} {A : Ab} (h : cInv μ A) {l : Nat} (hl : l < nR (aP A) + nC (aP A)) : F_X7_line (i3 (l : Int)) (1 : Int32) μ = rI (i3 (wnt (aP A) l)) μ := by
  rw [l_q h hl, if_neg (by decide), if_pos (by decide), wantedOf_code h.1 h.2.1 hl, cI_k]
/-- the cells of a line -/
abbrev lnB (P : Pic) (y : Int64) (l i : Nat) : Bool := tb y (8 * rowL P l i + colL P l i)
theorem l_st {μ : Mem} {A : Ab} (h : cInv μ A) {l : Nat} (hl : l < nR (aP A) + nC (aP A)) : F_X4_stepIn 2 (i3 (l : Int)) μ = rI (if nR (aP A) ≤ l then (8 : Int32) else (1 : Int32)) μ := by
  rw [stepIn_code h.1 h.2.1 hl]; split <;> rfl
theorem l_2 {μ : Mem} {A : Ab} (h : cInv μ A) {l : Nat} (hl : l < nR (aP A) + nC (aP A)) : F_X7_line (i3 (l : Int)) (2 : Int32) μ = rI (i3 (nrn (lnB (aP A) (fX (aP A)) l) (lenL (aP A) l))) μ := by
  rw [l_q h hl, if_neg (by decide), if_neg (by decide), if_pos (by decide), l_st h hl, cI_k, h.1.2.2.1, (lineRuns h.2.1 hl μ).1, cI_k]
theorem l_3 {μ : Mem} {A : Ab} (h : cInv μ A) {l : Nat} (hl : l < nR (aP A) + nC (aP A)) : F_X7_line (i3 (l : Int)) (3 : Int32) μ = rI (i3 (mrn (lnB (aP A) (fX (aP A)) l) (lenL (aP A) l) : Int)) μ := by
  rw [l_q h hl, if_neg (by decide), if_neg (by decide), if_neg (by decide), if_pos (by decide), l_st h hl, cI_k, h.1.2.2.1, (lineRuns h.2.1 hl μ).2, cI_k]
theorem l_4 {μ : Mem} {A : Ab} (h : cInv μ A) {l : Nat} (hl : l < nR (aP A) + nC (aP A)) : F_X7_line (i3 (l : Int)) (4 : Int32) μ = rI (i3 (cnt (nR (aP A)) (fP (aP A)) l)) μ := by
  rw [l_q h hl, if_neg (by decide), if_neg (by decide), if_neg (by decide), if_neg (by decide), if_pos (by decide), h.1.2.2.2.1, pc_code, cI_k, pc_lm h.2.1.2.1 h.2.1.2.2.2.1 h.2.1.2.2.2.2.2.1 hl]
/-- why a line isn't as it should be -/
def whyZ (c w n b m : Int) : Int := if c = w then 0 else if n - b < w then 1 else if w < m then 2 else 3
theorem whyZ_0 {c w n b m : Int} (h : c = w) : whyZ c w n b m = 0 := if_pos h
theorem whyZ_1 {c w n b m : Int} (h : ¬ c = w) (h1 : n - b < w) : whyZ c w n b m = 1 := by unfold whyZ; rw [if_neg h, if_pos h1]
theorem whyZ_2 {c w n b m : Int} (h : ¬ c = w) (h1 : ¬ n - b < w) (h2 : w < m) : whyZ c w n b m = 2 := by unfold whyZ; rw [if_neg h, if_neg h1, if_pos h2]
theorem whyZ_3 {c w n b m : Int} (h : ¬ c = w) (h1 : ¬ n - b < w) (h2 : ¬ w < m) : whyZ c w n b m = 3 := by unfold whyZ; rw [if_neg h, if_neg h1, if_neg h2]
theorem w_c {μ : Mem} {A : Ab} (h : cInv μ A) {l : Nat} (hl' : l < nR (aP A) + nC (aP A)) : F_X7_whyNot (i3 (l : Int)) μ = rI (i3 (whyZ (cnt (nR (aP A)) (fX (aP A)) l) (wnt (aP A) l) (lenL (aP A) l) (cnt (nR (aP A)) (fP (aP A) &&& (fX (aP A) ^^^ (-1 : Int64))) l) (cnt (nR (aP A)) (fP (aP A) &&& fX (aP A)) l))) μ := by
  have ok := h.2.1
  have o1 := ok.2.1
  have o2 := ok.2.2.2.1
  have hP := h.1
  have w6 := wnt_6 ok hl'
  have c0 := cnt_0 (nR (aP A)) (fX (aP A)) l
  have c6 := cnt_6 (nR (aP A)) (fX (aP A)) l
  have z0 := cnt_0 (nR (aP A)) (fP (aP A) &&& (fX (aP A) ^^^ (-1 : Int64))) l
  have z6 := cnt_6 (nR (aP A)) (fP (aP A) &&& (fX (aP A) ^^^ (-1 : Int64))) l
  have p0 := cnt_0 (nR (aP A)) (fP (aP A) &&& fX (aP A)) l
  have p6 := cnt_6 (nR (aP A)) (fP (aP A) &&& fX (aP A)) l
  have l6 := len6 ok l
  simp only [F_X7_whyNot, chk_line h (show inZ (l : Int) by constructor <;> omega), if_pos (show 0 ≤ (l : Int) ∧ (l : Int) < nR (aP A) + nC (aP A) by omega), cV_k, lineMask_code hP ok hl', cJ_k, wantedOf_code hP ok hl', cI_k, countOf_code hP ok hl', pc_code, hP.2.2.1, hP.2.2.2.1, pc_free ok hl', pc_pinF ok hl']
  by_cases e : cnt (nR (aP A)) (fX (aP A)) l = wnt (aP A) l
  · rw [whyZ_0 e, if_pos (by rw [e])]; rfl
  · rw [if_neg (ne3 (by omega))]
    by_cases e2 : (wnt (aP A) l : Int) ≤ (lenL (aP A) l : Int) - cnt (nR (aP A)) (fP (aP A) &&& (fX (aP A) ^^^ (-1 : Int64))) l
    · rw [if_pos (le3 (by omega))]
      by_cases e3 : cnt (nR (aP A)) (fP (aP A) &&& fX (aP A)) l ≤ wnt (aP A) l
      · rw [whyZ_3 e (by omega) (by omega), if_pos (le3 (by omega))]; rfl
      · rw [whyZ_2 e (by omega) (by omega), if_neg (nle3 (by omega))]; rfl
    · rw [whyZ_1 e (by omega), if_neg (nle3 (by omega))]; rfl
theorem c_z {P : Pic} (ok : okP P) {r c : Nat} (hr : r < nR P) (hc : c < nC P) : inZ (r : Int) ∧ inZ (c : Int) := by
  have o1 := ok.2.1
  have o2 := ok.2.2.2.1
  constructor <;> constructor <;> omega
theorem e_0 {μ : Mem} {A : Ab} (h : cInv μ A) {r c : Nat} (hr : r < nR (aP A)) (hc : c < nC (aP A)) : F_X7_cell (i3 (r : Int)) (i3 (c : Int)) (0 : Int32) μ = rI (i3 (b2 (tb (fX (aP A)) (8 * r + c)))) μ := by
  rw [cell_c h (c_z h.2.1 hr hc).1 (c_z h.2.1 hr hc).2 hr hc, if_pos (by decide)]
theorem e_1 {μ : Mem} {A : Ab} (h : cInv μ A) {r c : Nat} (hr : r < nR (aP A)) (hc : c < nC (aP A)) : F_X7_cell (i3 (r : Int)) (i3 (c : Int)) (1 : Int32) μ = rI (i3 (b2 (tb (fP (aP A)) (8 * r + c)))) μ := by
  rw [cell_c h (c_z h.2.1 hr hc).1 (c_z h.2.1 hr hc).2 hr hc, if_neg (by decide), if_pos (by decide)]
/-- the piece of a cell -/
def isPc (X : CS) (r c : Nat) (v : Int) : Prop := (X r c ∧ ∃ m : Nat, m < 36 ∧ cmp (rs X m) r c ∧ v = m) ∨ (¬ X r c ∧ v = -9)
theorem e_2 {μ : Mem} {A : Ab} (h : cInv μ A) {r c : Nat} (hr : r < nR (aP A)) (hc : c < nC (aP A)) : ∃ v, F_X7_cell (i3 (r : Int)) (i3 (c : Int)) (2 : Int32) μ = rI (i3 v) μ ∧ isPc (zc (fX (aP A))) r c v := by
  have ok := h.2.1
  have o1 := ok.2.1
  have o2 := ok.2.2.2.1
  have bX := brdX ok ok.2.2.2.2.1
  have cc := cell_c h (c_z h.2.1 hr hc).1 (c_z h.2.1 hr hc).2 hr hc (2 : Int32)
  rw [if_neg (by decide), if_neg (by decide), if_pos (by decide)] at cc
  rw [cc]
  by_cases hz : zc (fX (aP A)) r c
  · obtain ⟨m, x1, x2, x3⟩ := pieceNumber_code bX μ hz
    exact ⟨m, by rw [x1, cI_k], Or.inl ⟨hz, m, x2, x3, rfl⟩⟩
  · exact ⟨-9, by rw [pieceNumber_none μ (show r < 8 by omega) (show c < 8 by omega) hz, cI_k], Or.inr ⟨hz, rfl⟩⟩
theorem e_3 {μ : Mem} {A : Ab} (h : cInv μ A) {y : Int64} (hh : ∀ r c, zc y r c ↔ hul (zc (fX (aP A))) r c) {r c : Nat} (hr : r < nR (aP A)) (hc : c < nC (aP A)) : F_X7_cell (i3 (r : Int)) (i3 (c : Int)) (3 : Int32) μ = rI (i3 (b2 (tb y (8 * r + c)))) μ := by
  obtain ⟨y', x1, x2, x3⟩ := hull_code (brdX h.2.1 h.2.1.2.2.2.2.1) μ
  have e : y' = y := zc_ext (fun r c => (x3 r c).trans (hh r c).symm)
  subst e
  rw [cell_c h (c_z h.2.1 hr hc).1 (c_z h.2.1 hr hc).2 hr hc, if_neg (by decide), if_neg (by decide), if_neg (by decide), if_pos (by decide), x1, cJ_k]
/-- the sure cells: none without a fitting picture -/
def isSure (P : Pic) (y : Int64) : Prop := ((∃ z, fitP P (fX P) z) ∧ ∀ r c, zc y r c ↔ (r < nR P ∧ c < nC P) ∧ sureC P (fX P) r c) ∨ ((¬ ∃ z, fitP P (fX P) z) ∧ y = 0)
theorem su_c {μ : Mem} {A : Ab} (h : cInv μ A) : ∃ μ1 y, F_X2_sureCells 2 μ = rJ y μ1 ∧ isSure (aP A) y ∧ frc μ μ1 ∧ cInv μ1 A ∧ ((∃ z, fitP (aP A) (fX (aP A)) z) → fitP (aP A) (fX (aP A)) (μ1.2.1 6 1)) := by
  rcases sureCells_code h.2.1 h.1 (by simp) with ⟨μ1, y, w1, w2, w3, w4⟩ | ⟨μ1, w1, w2, w3⟩
  · obtain ⟨k1, k2⟩ := c_scr h w2
    exact ⟨μ1, y, w1, Or.inl ⟨⟨_, w3⟩, w4⟩, k1, k2, fun _ => w3⟩
  · obtain ⟨k1, k2⟩ := c_scr h w2
    exact ⟨μ1, 0, w1, Or.inr ⟨w3, rfl⟩, k1, k2, fun q => absurd q w3⟩
theorem isSure_uni {P : Pic} {y y' : Int64} (h : isSure P y) (h' : isSure P y') : y = y' := by
  rcases h with ⟨a, b⟩ | ⟨a, b⟩
  · rcases h' with ⟨a', b'⟩ | ⟨a', b'⟩
    · exact zc_ext (fun r c => (b r c).trans (b' r c).symm)
    · exact absurd a a'
  · rcases h' with ⟨a', b'⟩ | ⟨a', b'⟩
    · exact absurd a' a
    · rw [b, b']
theorem e_4 {μ : Mem} {A : Ab} (h : cInv μ A) {y : Int64} (hy : isSure (aP A) y) {r c : Nat} (hr : r < nR (aP A)) (hc : c < nC (aP A)) : ∃ μ1, F_X7_cell (i3 (r : Int)) (i3 (c : Int)) (4 : Int32) μ = rI (i3 (b2 (tb y (8 * r + c)))) μ1 ∧ frc μ μ1 ∧ cInv μ1 A := by
  obtain ⟨μ1, y', w1, w2, w3, w4, -⟩ := su_c h
  have e := isSure_uni w2 hy
  subst e
  exact ⟨μ1, by rw [cell_c h (c_z h.2.1 hr hc).1 (c_z h.2.1 hr hc).2 hr hc, if_neg (by decide), if_neg (by decide), if_neg (by decide), if_neg (by decide), if_pos (by decide), w1, cJ_k], w3, w4⟩
/-- a piece's cells -/
theorem p_c {μ : Mem} {A : Ab} (h : cInv μ A) {n p : Nat} (hn : npc (zc (fX (aP A))) n) (hp : p < n) : ∃ y, brd y ∧ (∀ r c, zc y r c ↔ cmp (rs (zc (fX (aP A))) p) r c) ∧ ∀ v : Int32, F_X7_piece (i3 (p : Int)) v μ = (if v = (0 : Int32) then (rI (i3 (pc y)) μ) else if v = (1 : Int32) then (rI (i3 (outl y (fX (aP A)))) μ) else if v = (2 : Int32) then (rI (i3 (zs 6 (fun r => ib (∃ c, zc y r c)))) μ) else if v = (3 : Int32) then (rI (i3 (zs 6 (fun c => ib (∃ r, zc y r c)))) μ) else if v = (4 : Int32) then (cI (F_X0_firstPosition y μ) (fun v42 μ39 => cI (F_X0_code v42 μ39) (fun v47 μ44 => rI v47 μ44))) else (rX "java/lang/IllegalArgumentException" μ)) := by
  have bX := brdX h.2.1 h.2.1.2.2.2.2.1
  have hX := h.1.2.2.1
  obtain ⟨m, x1, x2, x3⟩ := countPieces_code bX μ
  have e := npc_inj hn x2
  subst e
  obtain ⟨y, y1, y2⟩ := pieceNumbered_code bX μ (p := p) (by omega)
  have bY : brd y := brd_sub bX (pcs_x y2)
  refine ⟨y, bY, y2, fun v => ?_⟩
  have nl : ¬ i3 (p : Int) < 0 := by rw [l3_0]; exact nlt3 (by omega)
  simp only [F_X7_piece, if_neg nl, hX, x1, cI_k, if_pos (lt3 (a := p) (b := n) (by omega)), y1, cJ_k, pc_code, outline_code bY bX, countRowsOf_code bY, countColumnsOf_code bY]
theorem x_c {μ : Mem} {A : Ab} (h : cInv μ A) {i : Nat} (hi : i < 2147483648) : ∃ v, F_X7_exchangeAt (i3 (i : Int)) μ = rI (i3 v) μ ∧ isEx (aP A) i v := by
  have l : (0 : Int32) ≤ i3 (i : Int) := by rw [l3_0]; exact le3 (by omega)
  obtain ⟨w, x1, x2⟩ := exchangeNumbered_code h.1 h.2.1 (i := (i : Int)) (by omega) (by omega)
  exact ⟨w, by simp only [F_X7_exchangeAt, if_pos l, x1, cI_k], x2⟩
/-! actions -/
abbrev actA (A : Ab) (Q : Pic) : Ab := setP (remA A) Q
theorem f_c {μ : Mem} {A : Ab} (h : cInv μ A) {r c : Nat} (hr' : r < nR (aP A)) (hc' : c < nC (aP A)) (b : Bool) (hp : tb (fP (aP A)) (8 * r + c) = false) :
    ∃ μ', F_X7_fill (i3 (r : Int)) (i3 (c : Int)) (i3 (b2 b)) μ = rI (i3 (b2 (tb (fX (aP A)) (8 * r + c)))) μ' ∧ frc μ μ' ∧ cInv μ' (actA A (mkX (aP A) (setB (fX (aP A)) r c b))) := by
  have ok := h.2.1
  have o1 := ok.2.1
  have o2 := ok.2.2.2.1
  have z0 : i3 0 = (0 : Int32) := by decide
  have q : (0 ≤ (r : Int) ∧ (r : Int) < nR (aP A)) ∧ 0 ≤ (c : Int) ∧ (c : Int) < nC (aP A) := by omega
  obtain ⟨s1, w1, w2, w3⟩ := cRem h
  refine ⟨_, ?_, frc_tr w2 (frc_of (W := [2]) (fr_sJ (by simp)) (by simp)), cInv_P w3 (fr_sJ (by simp)) (CP_X w3.1 _) (okX ok (setB_in hr' hc' o1 o2 ok.2.2.2.2.1 b))⟩
  simp only [F_X7_fill, chk_cell h (c_z ok hr' hc').1 (c_z ok hr' hc').2, if_pos q, cV_k, isPinned_code h.1 (show r < 8 by omega) (show c < 8 by omega), cI_k, hp, b2_f, if_pos z0, w1, setFilled_code w3.1 (show r < 8 by omega) (show c < 8 by omega), nzb]
theorem n_c {μ : Mem} {A : Ab} (h : cInv μ A) {r c : Nat} (hr' : r < nR (aP A)) (hc' : c < nC (aP A)) (b : Bool) :
    ∃ μ', F_X7_pin (i3 (r : Int)) (i3 (c : Int)) (i3 (b2 b)) μ = rI (i3 (b2 (tb (fP (aP A)) (8 * r + c)))) μ' ∧ frc μ μ' ∧ cInv μ' (actA A (mkPn (aP A) (setB (fP (aP A)) r c b))) := by
  have ok := h.2.1
  have o1 := ok.2.1
  have o2 := ok.2.2.2.1
  have q : (0 ≤ (r : Int) ∧ (r : Int) < nR (aP A)) ∧ 0 ≤ (c : Int) ∧ (c : Int) < nC (aP A) := by omega
  obtain ⟨s1, w1, w2, w3⟩ := cRem h
  refine ⟨_, ?_, frc_tr w2 (frc_of (W := [2]) (fr_sJ (by simp)) (by simp)), cInv_P w3 (fr_sJ (by simp)) (CP_Pn w3.1 _) (okPn ok (setB_in hr' hc' o1 o2 ok.2.2.2.2.2.1 b))⟩
  simp only [F_X7_pin, chk_cell h (c_z ok hr' hc').1 (c_z ok hr' hc').2, if_pos q, cV_k, cI_k, w1, setPinned_code w3.1 (show r < 8 by omega) (show c < 8 by omega), nzb]
theorem g_c {μ : Mem} {A : Ab} (h : cInv μ A) {l n : Nat} (hl' : l < nR (aP A) + nC (aP A)) (hn : n ≤ 6) :
    ∃ μ', F_X7_want (i3 (l : Int)) (i3 (n : Int)) μ = rI (i3 (wnt (aP A) l)) μ' ∧ frc μ μ' ∧ cInv μ' (actA A (setW (aP A) l n)) := by
  have ok := h.2.1
  have o1 := ok.2.1
  have o2 := ok.2.2.2.1
  have q : 0 ≤ (l : Int) ∧ (l : Int) < nR (aP A) + nC (aP A) := by omega
  obtain ⟨s1, w1, w2, w3⟩ := cRem h
  obtain ⟨s2, u1, u2, u3⟩ := setWanted_code (n := n) w3.1 ok hl'
  have c1 : ¬ i3 (n : Int) < 0 := by rw [l3_0]; exact nlt3 (by omega)
  have c2 : i3 (n : Int) ≤ (6 : Int32) := by rw [l3_6]; exact le3 (by omega)
  refine ⟨s2, ?_, frc_tr w2 (frc_of u3 (by simp)), cInv_P w3 u3 u2 (setW_ok ok (by omega) hl')⟩
  simp only [F_X7_want, chk_line h (show inZ (l : Int) by constructor <;> omega), if_pos q, cV_k, if_neg c1, if_pos c2, w1, u1, cI_k]
theorem ga_c {μ : Mem} {A : Ab} (h : cInv μ A) : ∃ μ', F_X7_wantAll μ = rI (i3 (wrg (aP A))) μ' ∧ frc μ μ' ∧ cInv μ' (actA A (wtc (aP A) (nR (aP A) + nC (aP A)))) := by
  have ok := h.2.1
  obtain ⟨s1, w1, w2, w3⟩ := cRem h
  obtain ⟨s2, x1, x2, x3⟩ := wantTheCounts_code w3.1 ok
  exact ⟨s2, by simp only [F_X7_wantAll, w1, cV_k, x1, cI_k], frc_tr w2 (frc_of x3 (by simp)), cInv_P w3 x3 x2 (wtc_ok ok (Nat.le_refl _)).1⟩
theorem z_c {μ : Mem} {A : Ab} (h : cInv μ A) {R C : Nat} (hR : 1 ≤ R ∧ R ≤ 6) (hC : 1 ≤ C ∧ C ≤ 6) : ∃ μ', F_X7_resize (i3 (R : Int)) (i3 (C : Int)) μ = rI (i3 (pc (fX (cutP (aP A) R C)))) μ' ∧ frc μ μ' ∧ cInv μ' (actA A (cutP (aP A) R C)) := by
  have ok := h.2.1
  obtain ⟨s1, w1, w2, w3⟩ := cRem h
  obtain ⟨s2, x1, x2, x3⟩ := cutTo_code w3.1 hR hC
  have n1 : ¬ i3 (R : Int) < (1 : Int32) := by rw [l3_1]; exact nlt3 (by omega)
  have n2 : ¬ (6 : Int32) < i3 (R : Int) := by rw [l3_6]; exact nlt3 (by omega)
  have n3 : ¬ i3 (C : Int) < (1 : Int32) := by rw [l3_1]; exact nlt3 (by omega)
  have n4 : i3 (C : Int) ≤ (6 : Int32) := by rw [l3_6]; exact le3 (by omega)
  exact ⟨s2, by simp only [F_X7_resize, if_neg n1, if_neg n2, if_neg n3, if_pos n4, w1, cV_k, x1, countFilled_code x2, cI_k], frc_tr w2 (frc_of x3 (by simp)), cInv_P w3 x3 x2 (cutP_ok ok hR hC)⟩
theorem xc_c {μ : Mem} {A : Ab} (h : cInv μ A) {r s c d : Nat} (hrs : r < s) (hs' : s < nR (aP A)) (hcd : c < d) (hd' : d < nC (aP A)) (p : of4 (aP A) r s c d = true) :
    ∃ (n : Nat) (μ' : Mem), F_X7_exchange (i3 (r : Int)) (i3 (s : Int)) (i3 (c : Int)) (i3 (d : Int)) μ = rI (i3 (n : Int)) μ' ∧ npc (zc (fX (aP A) ^^^ crn r s c d)) n ∧ n ≤ 36 ∧ frc μ μ' ∧ cInv μ' (actA A (mkX (aP A) (fX (aP A) ^^^ crn r s c d))) := by
  have ok := h.2.1
  have o1 := ok.2.1
  have o2 := ok.2.2.2.1
  have hr' : r < nR (aP A) := by omega
  have hc' : c < nC (aP A) := by omega
  have q1 : (0 ≤ (r : Int) ∧ (r : Int) < nR (aP A)) ∧ 0 ≤ (c : Int) ∧ (c : Int) < nC (aP A) := by omega
  have q2 : (0 ≤ (s : Int) ∧ (s : Int) < nR (aP A)) ∧ 0 ≤ (d : Int) ∧ (d : Int) < nC (aP A) := by omega
  have n3 : ¬ i3 (s : Int) ≤ i3 (r : Int) := nle3 (by omega)
  have n4 : i3 (c : Int) < i3 (d : Int) := lt3 (by omega)
  obtain ⟨s1, w1, w2, w3, w4⟩ := remember_code h.2.2.1 h.1 h.2.1
  obtain ⟨s1', w1', w2', w3'⟩ := cRem h
  have e : s1 = s1' := by
    rw [w1] at w1'
    have := Option.some.inj w1'
    simpa using this
  subst e
  have hin := crn_in hs' hd' hr' hc' o1 o2 ok.2.2.2.2.1
  have okN := okX ok hin
  have hP2 := CP_X w4 (fX (aP A) ^^^ crn r s c d)
  obtain ⟨n, x1, x2, x3⟩ := countPieces_code (brdX ok hin) (sJ s1 2 2 (fX (aP A) ^^^ crn r s c d))
  refine ⟨n, _, ?_, x2, x3, frc_tr w2' (frc_of (W := [2]) (fr_sJ (by simp)) (by simp)), cInv_P w3' (fr_sJ (by simp)) hP2 okN⟩
  have h22 : (sJ s1 2 2 (fX (aP A) ^^^ crn r s c d)).2.1 2 2 = fX (aP A) ^^^ crn r s c d := hP2.2.2.1
  simp only [F_X7_exchange, chk_cell h (c_z ok hr' hc').1 (c_z ok hr' hc').2, chk_cell h (c_z ok hs' hd').1 (c_z ok hs' hd').2, if_pos q1, if_pos q2, cV_k, if_neg n3, if_pos n4, canExchange_code h.1 (show r < 8 by omega) (show s < 8 by omega) (show c < 8 by omega) (show d < 8 by omega) (show ¬ r = s by omega) (show ¬ c = d by omega), p, b2_t, cI_k, if_neg iz1, w1, corners_code, cJ_k, lt_k, w4.2.2.1, h22, x1]
theorem so_b {μ : Mem} {A : Ab} (h : cInv μ A) (b : Bool) : (∃ G μ', f_X7_solve_37 (i3 (b2 b)) μ = rI (i3 (pc (fX (aP A) ^^^ G))) μ' ∧ isFst (aP A) (fX (aP A)) b G ∧ frc μ μ' ∧ cInv μ' (actA A (mkX (aP A) G))) ∨
    (∃ μ', f_X7_solve_37 (i3 (b2 b)) μ = rX eSta μ' ∧ (¬ ∃ z, fitP (aP A) (fX (aP A)) z) ∧ frc μ μ' ∧ cInv μ' A) := by
  have ok := h.2.1
  rcases findOutermost_code ok h.1 (by simp) b with ⟨μ1, w1, w2, w3⟩ | ⟨μ1, w1, w2, w3⟩
  · obtain ⟨k1, k2⟩ := c_scr h w2
    have hG := fit_in (isFst_fit w3)
    obtain ⟨s1, x1, x2, x3, x4, x5⟩ := c_take k2 hG rfl
    refine Or.inl ⟨μ1.2.1 6 1, _, ?_, w3, frc_tr k1 x4, x5⟩
    simp only [f_X7_solve_37, w1, cI_k, if_neg iz1, x1, cV_k, F_X2_found, cJ_k, x2, x3]
  · obtain ⟨k1, k2⟩ := c_scr h w2
    exact Or.inr ⟨μ1, by simp only [f_X7_solve_37, w1, cI_k, if_pos iz0], w3, k1, k2⟩
theorem so_e (μ : Mem) : F_X7_solve (0 : Int32) μ = f_X7_solve_37 (i3 (b2 false)) μ ∧ F_X7_solve (1 : Int32) μ = f_X7_solve_37 (i3 (b2 true)) μ := by
  have nI : ¬ (0 : Int32) = (1 : Int32) := by decide
  have nJ : ¬ (1 : Int32) = (0 : Int32) := by decide
  constructor
  · simp only [F_X7_solve, if_pos trivial, f_X7_solve_19, if_neg nI]; rfl
  · simp only [F_X7_solve, if_neg nJ, if_pos trivial, f_X7_solve_19]; rfl
theorem nx_c {μ : Mem} {A : Ab} (h : cInv μ A) : (∃ G μ', F_X7_next μ = rI (i3 (pc (fX (aP A) ^^^ G))) μ' ∧ nxt (aP A) (fX (aP A)) G ∧ frc μ μ' ∧ cInv μ' (actA A (mkX (aP A) G))) ∨
    (∃ μ', F_X7_next μ = rX eSta μ' ∧ nno (aP A) (fX (aP A)) ∧ frc μ μ' ∧ cInv μ' A) := by
  have ok := h.2.1
  rcases findBehind_code ok h.1 (by simp) with ⟨μ1, w1, w2, w3⟩ | ⟨μ1, w1, w2, w3⟩
  · obtain ⟨k1, k2⟩ := c_scr h w2
    have hG := fit_in (nxt_fit w3 (x0 := fX (aP A)) (fun _ _ _ => Iff.rfl))
    obtain ⟨s1, x1, x2, x3, x4, x5⟩ := c_take k2 hG rfl
    refine Or.inl ⟨μ1.2.1 6 1, _, ?_, w3, frc_tr k1 x4, x5⟩
    simp only [F_X7_next, w1, cI_k, if_neg iz1, x1, cV_k, F_X2_found, cJ_k, x2, x3]
  · obtain ⟨k1, k2⟩ := c_scr h w2
    exact Or.inr ⟨μ1, by simp only [F_X7_next, w1, cI_k, if_pos iz0], w3, k1, k2⟩
theorem tu_c {μ : Mem} {A : Ab} (h : cInv μ A) : ∃ Q μ', F_X7_turn μ = rI (i3 (nR Q)) μ' ∧ turned (aP A) Q ∧ frc μ μ' ∧ cInv μ' (actA A Q) := by
  have ok := h.2.1
  obtain ⟨s1, w1, w2, w3⟩ := cRem h
  obtain ⟨s2, Q, x1, x2, x3, x4⟩ := turnQuarter_code w3.1 ok
  exact ⟨Q, s2, by simp only [F_X7_turn, w1, cV_k, x1, x2.1], x3, frc_tr w2 (frc_of x4 (by simp)), cInv_P w3 x4 x2 (turned_ok ok x3)⟩
/-- the state behind an undo -/
abbrev unA (A : Ab) : Ab := (aH A (aHn A - 1), (aHn A - 1, aH A), A.2.2)
theorem un_c {μ : Mem} {A : Ab} (h : cInv μ A) (q : ¬ aHn A = 0) : ∃ μ', F_X7_undo μ = rI (i3 ((aHn A - 1 : Nat) : Int)) μ' ∧ frc μ μ' ∧ cInv μ' (unA A) := by
  have he := hempty_code h.2.2.1
  have h14 : aHn A ≤ 14 := by obtain ⟨_, _, _, _, w, _⟩ := h.2.2.1; exact w
  have hq : okP (aH A (aHn A - 1)) := by obtain ⟨_, _, _, _, _, w⟩ := h.2.2.1; exact (w _ (by omega)).2
  obtain ⟨s1, w1, w2, w3, w4⟩ := takeBack_code h.2.2.1 (by omega)
  exact ⟨s1, by simp only [F_X7_undo, he, cI_k, if_neg q, if_pos iz0, w1], frc_of w2 (by simp), ⟨w4, hq, w3, cS_fr h.2.2.2.1 w2 (by simp) (by simp) (by simp) (by simp), cT_fr h.2.2.2.2 w2 (by simp) (by simp)⟩⟩
theorem un_n {μ : Mem} {A : Ab} (h : cInv μ A) (q : aHn A = 0) : F_X7_undo μ = rX eSta μ := by
  have he := hempty_code h.2.2.1
  simp only [F_X7_undo, he, cI_k, if_pos q, if_neg iz1]
theorem hm_c {μ : Mem} {A : Ab} (h : cInv μ A) {m : Nat} (hm : cntF (aP A) m) : ∃ μ', F_X7_howMany μ = rI (i3 (m : Int)) μ' ∧ frc μ μ' ∧ cInv μ' A := by
  obtain ⟨m', μ1, w1, w2, w3⟩ := countFitting_code h.2.1 h.1
  have e := cntF_uni hm w3
  subst e
  obtain ⟨k1, k2⟩ := c_scr h w2
  exact ⟨μ1, by simp only [F_X7_howMany, w1, cI_k], k1, k2⟩
theorem hm_ex {μ : Mem} {A : Ab} (h : cInv μ A) : ∃ m, cntF (aP A) m := by
  obtain ⟨m', μ1, w1, w2, w3⟩ := countFitting_code h.2.1 h.1
  exact ⟨m', w3⟩
theorem sr_c {μ : Mem} {A : Ab} (h : cInv μ A) (b : Bool) : ∃ μ1 y K, F_X7_sure (i3 (b2 b)) μ = rI (i3 (pc (if b then y &&& K else y &&& (K ^^^ (-1 : Int64))))) μ1 ∧ isSure (aP A) y ∧ frc μ μ1 ∧ cInv μ1 A ∧ ((∃ z, fitP (aP A) (fX (aP A)) z) → fitP (aP A) (fX (aP A)) K) := by
  obtain ⟨μ1, y, w1, w2, w3, w4, w5⟩ := su_c h
  refine ⟨μ1, y, μ1.2.1 6 1, ?_, w2, w3, w4, w5⟩
  simp only [F_X7_sure, w1, cJ_k, F_X2_found, pc_code, cI_k]
  cases b
  · rw [if_pos (by decide)]; rfl
  · rw [if_neg (by decide)]; rfl
theorem sp_c {μ : Mem} {A : Ab} (h : cInv μ A) {m : Nat} (hm : cntF (aP A) m) : ∃ v μ', F_X7_split μ = rI (i3 v) μ' ∧ frc μ μ' ∧ cInv μ' A ∧ ((¬ (2 ≤ m ∧ m < 100) → v = -9) ∧ (2 ≤ m ∧ m < 100 → isBest (aP A) m v)) := by
  have ok := h.2.1
  obtain ⟨m', μ1, w1, w2, w3⟩ := countFitting_code ok h.1
  have e := cntF_uni hm w3
  subst e
  obtain ⟨k1, k2⟩ := c_scr h w2
  have h100 := w3.1
  by_cases q0 : m < 2
  · have l : i3 (m : Int) < (2 : Int32) := by rw [l3_2]; exact lt3 (by omega)
    exact ⟨-9, μ1, by simp only [F_X7_split, w1, cI_k, if_pos l]; rfl, k1, k2, fun _ => rfl, fun q => by omega⟩
  · have nl : ¬ i3 (m : Int) < (2 : Int32) := by rw [l3_2]; exact nlt3 (by omega)
    by_cases q1 : m < 100
    · have l : i3 (m : Int) < (100 : Int32) := by rw [l3_100]; exact lt3 (by omega)
      obtain ⟨μ2, x1, x2, x3⟩ := tallyFitting_code ok k2.1 w3
      obtain ⟨v, y1, y2⟩ := bestParted_code (μ := μ2) ok w3 (by omega) x3
      exact ⟨v, μ2, by simp only [F_X7_split, w1, cI_k, if_neg nl, if_pos l, x1, cV_k, y1], frc_tr k1 (frc_of x2 (by simp)), cInv_fr k2 x2 (fun k hk => by simp at hk; simp; omega), fun q => by omega, fun _ => y2⟩
    · have l : ¬ i3 (m : Int) < (100 : Int32) := by rw [l3_100]; exact nlt3 (by omega)
      exact ⟨-9, μ1, by simp only [F_X7_split, w1, cI_k, if_neg nl, if_neg l]; rfl, k1, k2, fun _ => rfl, fun q => by omega⟩
theorem ne_c {μ : Mem} {A : Ab} (h : cInv μ A) {m : Nat} (hm : cntF (aP A) m) : (¬ (m = 0 ∨ m = 100) ∧ ∃ v μ', F_X7_nearest μ = rI (i3 v) μ' ∧ frc μ μ' ∧ cInv μ' A ∧ isNear (aP A) m v) ∨ ((m = 0 ∨ m = 100) ∧ ∃ μ', F_X7_nearest μ = rX eSta μ' ∧ frc μ μ' ∧ cInv μ' A) := by
  have ok := h.2.1
  obtain ⟨m', μ1, w1, w2, w3⟩ := countFitting_code ok h.1
  have e := cntF_uni hm w3
  subst e
  obtain ⟨k1, k2⟩ := c_scr h w2
  have h100 := w3.1
  by_cases q0 : m = 0
  · have l : i3 (m : Int) < (1 : Int32) := by rw [l3_1]; exact lt3 (by omega)
    exact Or.inr ⟨Or.inl q0, μ1, by simp only [F_X7_nearest, w1, cI_k, if_pos l], k1, k2⟩
  · have nl : ¬ i3 (m : Int) < (1 : Int32) := by rw [l3_1]; exact nlt3 (by omega)
    by_cases q1 : m = 100
    · have l : ¬ i3 (m : Int) < (100 : Int32) := by rw [l3_100]; exact nlt3 (by omega)
      exact Or.inr ⟨Or.inr q1, μ1, by simp only [F_X7_nearest, w1, cI_k, if_neg nl, if_neg l], k1, k2⟩
    · have l : i3 (m : Int) < (100 : Int32) := by rw [l3_100]; exact lt3 (by omega)
      obtain ⟨v, μ2, x1, x2, x3⟩ := leastDistance_code ok k2.1 w3 (by omega) (by omega)
      obtain ⟨k3, k4⟩ := c_scr k2 x2
      exact Or.inl ⟨by omega, v, μ2, by simp only [F_X7_nearest, w1, cI_k, if_neg nl, if_pos l, x1], frc_tr k1 k3, k4, x3⟩
abbrev svA (A : Ab) (v : Nat) : Ab := (aP A, A.2.1, ((fun i => if i = v then true else aSv A i, fun i => if i = v then aP A else aS A i), A.2.2.2))
theorem sv_c {μ : Mem} {A : Ab} (h : cInv μ A) : ∃ μ', F_X7_save (0 : Int32) μ = rI (i3 (pc (fX (aP A)))) μ' ∧ frc μ μ' ∧ cInv μ' (svA A 0) := by
  have ok := h.2.1
  obtain ⟨s1, w1, w2, w3⟩ := put_code h.2.2.2.1 h.1 ok (j := 0) (by omega)
  have hP := CP_fr h.1 w2 (by simp)
  have ck0 := chk_slot μ (v := 0) (by decide)
  rw [if_pos (by decide)] at ck0
  have e0 : (0 : Int32) = i3 0 := l3_0
  have e1 : i3 ((0 : Nat) : Int) = i3 0 := rfl
  rw [e1] at w1
  exact ⟨s1, by rw [e0]; simp only [F_X7_save, ck0, cV_k, w1, countFilled_code hP, cI_k], frc_of w2 (by simp), ⟨hP, ok, cH_fr h.2.2.1 w2 (by simp) (by simp) (fun k h1 h2 => by simp; omega), w3, cT_fr h.2.2.2.2 w2 (by simp) (by simp)⟩⟩
theorem re_c {μ : Mem} {A : Ab} (h : cInv μ A) (p : aSv A 0 = true) : ∃ μ', F_X7_restore (0 : Int32) μ = rI (i3 (pc (fX (aS A 0)))) μ' ∧ frc μ μ' ∧ cInv μ' (aS A 0, (0, aH A), A.2.2) := by
  have ok := h.2.1
  have hh := has_code h.2.2.2.1 (j := 0) (by omega)
  obtain ⟨s1, w1, w2, w3⟩ := bringBack_code h.2.2.2.1 (j := 0) (by omega) p
  have okS := ((h.2.2.2.1.2.2 0 (by omega)).2 p).2
  have hc1 := cInv_P h w2 w3 okS
  obtain ⟨s2, x1, x2, x3⟩ := hforget_code hc1.2.2.1
  have hP := CP_fr w3 x2 (by simp)
  have ck0 := chk_slot μ (v := 0) (by decide)
  rw [if_pos (by decide)] at ck0
  have e0 : (0 : Int32) = i3 0 := l3_0
  have e1 : i3 ((0 : Nat) : Int) = i3 0 := rfl
  rw [e1] at w1 hh
  refine ⟨s2, ?_, frc_tr (frc_of w2 (by simp)) (frc_of x2 (by simp)), ⟨hP, okS, x3, cS_fr hc1.2.2.2.1 x2 (by simp) (by simp) (by simp) (by simp), cT_fr hc1.2.2.2.2 x2 (by simp) (by simp)⟩⟩
  rw [e0]
  simp only [F_X7_restore, ck0, cV_k, hh, p, b2_t, cI_k]
  rw [if_neg iz1]
  simp only [w1, x1, cV_k, countFilled_code hP, cI_k]
