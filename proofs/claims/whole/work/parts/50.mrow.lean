/-! the model's rows of numbers -/
def RW (w : Nat → Int32) (P : Pic) : Prop := w 0 = i3 (nR P) ∧ w 1 = i3 (nC P) ∧ (∀ r c, r < 6 → c < 6 → w (2 + 6 * r + c) = i3 (b2 (tb (fX P) (8 * r + c)) + 2 * b2 (tb (fP P) (8 * r + c)))) ∧
  (∀ i, i < 6 → w (38 + i) = i3 (dgn (wU P) i)) ∧ (∀ i, i < 6 → w (44 + i) = i3 (dgn (wV P) i))
theorem RW_congr {w w' : Nat → Int32} {P : Pic} (h : RW w P) (e : ∀ j, j < 50 → w' j = w j) : RW w' P := by
  obtain ⟨h0, h1, h2, h3, h4⟩ := h
  refine ⟨by rw [e 0 (by omega)]; exact h0, by rw [e 1 (by omega)]; exact h1, fun r c hr hc => by rw [e _ (by omega)]; exact h2 r c hr hc, fun i hi => by rw [e _ (by omega)]; exact h3 i hi, fun i hi => by rw [e _ (by omega)]; exact h4 i hi⟩
/-- what is now -/
def MN (μ : Mem) (P : Pic) : Prop := RW (μ.1 30) P
def MP (μ : Mem) (k o : Nat) (P : Pic) : Prop := RW (fun j => μ.1 k (o + j)) P
theorem MN_fr {W : List Nat} {μ μ' : Mem} {P : Pic} (h : MN μ P) (hf : fr W μ μ') (hk : 30 ∉ W) : MN μ' P := by
  unfold MN; rw [(hf 30 hk).1]; exact h
theorem MP_fr {W : List Nat} {μ μ' : Mem} {k o : Nat} {P : Pic} (h : MP μ k o P) (hf : fr W μ μ') (hk : k ∉ W) : MP μ' k o P := by
  unfold MP; rw [(hf k hk).1]; exact h
theorem rows_code {μ : Mem} {P : Pic} (h : MN μ P) : F_X8_rows μ = rI (i3 (nR P)) μ := by simp only [F_X8_rows, h.1]
theorem cols_code {μ : Mem} {P : Pic} (h : MN μ P) : F_X8_columns μ = rI (i3 (nC P)) μ := by simp only [F_X8_columns, h.2.1]
theorem at26 (r c : Nat) : ((2 : Int32) + ((6 : Int32) * i3 r)) + i3 c = i3 ((2 + 6 * r + c : Nat) : Int) := by
  rw [l3_2, l3_6, i3_mul, i3_add, i3_add]; congr 1
theorem at6 (r c : Nat) : ((6 : Int32) * i3 r) + i3 c = i3 ((6 * r + c : Nat) : Int) := by
  rw [l3_6, i3_mul, i3_add]; congr 1
theorem cell4 (f p : Bool) : (i3 (b2 f + 2 * b2 p) &&& (1 : Int32) = (1 : Int32)) = (f = true) := by
  cases f <;> cases p <;> decide
theorem cell4p (f p : Bool) : (i3 (b2 f + 2 * b2 p) &&& (2 : Int32) = (2 : Int32)) = (p = true) := by
  cases f <;> cases p <;> decide
theorem mFilled {μ : Mem} {P : Pic} (h : MN μ P) {r c : Nat} (hr : r < 6) (hc : c < 6) : F_X8_isFilled (i3 r) (i3 c) μ = rI (i3 (b2 (tb (fX P) (8 * r + c)))) μ := by
  simp only [F_X8_isFilled, at26, clampN (show 2 + 6 * r + c < 2147483648 by omega), h.2.2.1 r c hr hc, cell4]
  rw [ck_k (i3_in (by omega) (by decide)), l3_1, l3_0]
  cases tb (fX P) (8 * r + c) <;> rfl
theorem mPinned {μ : Mem} {P : Pic} (h : MN μ P) {r c : Nat} (hr : r < 6) (hc : c < 6) : F_X8_isPinned (i3 r) (i3 c) μ = rI (i3 (b2 (tb (fP P) (8 * r + c)))) μ := by
  simp only [F_X8_isPinned, at26, clampN (show 2 + 6 * r + c < 2147483648 by omega), h.2.2.1 r c hr hc, cell4p]
  rw [ck_k (i3_in (by omega) (by decide)), l3_1, l3_0]
  cases tb (fP P) (8 * r + c) <;> rfl
theorem in_code {v a b : Int} (hv : -2147483648 ≤ v ∧ v < 2147483648) (ha : -2147483648 ≤ a ∧ a < 2147483648) (hb : -2147483648 ≤ b ∧ b < 2147483648) (μ : Mem) : F_X8_in (i3 v) (i3 a) (i3 b) μ = rI (i3 (if a ≤ v ∧ v ≤ b then 1 else 0)) μ := by
  simp only [F_X8_in, l3_0, l3_1]
  by_cases h : v < a
  · rw [if_pos (lt3 (by omega)), if_neg (by omega)]
  · rw [if_neg (nlt3 (by omega))]
    by_cases h2 : b < v
    · rw [if_pos (lt3 (by omega)), if_neg (by omega)]
    · rw [if_neg (nlt3 (by omega)), if_pos (by omega)]
theorem mCell {μ : Mem} {P : Pic} (h : MN μ P) (ok : okP P) {r c : Int} (hr : -2147483648 ≤ r ∧ r < 2147483648) (hc : -2147483648 ≤ c ∧ c < 2147483648) :
    F_X8_isCell (i3 r) (i3 c) μ = rI (i3 (if (0 ≤ r ∧ r < nR P) ∧ 0 ≤ c ∧ c < nC P then 1 else 0)) μ := by
  have o1 := ok.2.1
  have o2 := ok.2.2.2.1
  simp only [F_X8_isCell, rows_code h, cols_code h, cI_k, l3_1, l3_0, i3_sub]
  rw [in_code hr (by omega) (by omega), cI_k]
  by_cases a : 0 ≤ r ∧ r < nR P
  · rw [if_pos (show 0 ≤ r ∧ r ≤ (nR P : Int) - 1 by omega), if_neg (by decide), cols_code h, cI_k, i3_sub, in_code hc (by omega) (by omega), cI_k]
    by_cases b : 0 ≤ c ∧ c < nC P
    · rw [if_pos (show 0 ≤ c ∧ c ≤ (nC P : Int) - 1 by omega), if_neg (by decide), if_pos ⟨a, b⟩]
    · rw [if_neg (show ¬ (0 ≤ c ∧ c ≤ (nC P : Int) - 1) by omega), if_pos rfl, if_neg (fun q => b q.2)]
  · rw [if_neg (show ¬ (0 ≤ r ∧ r ≤ (nR P : Int) - 1) by omega), if_pos rfl, if_neg (fun q => a q.1)]
theorem mCellN {μ : Mem} {P : Pic} (h : MN μ P) (ok : okP P) {r c : Nat} (hr : r < 2147483648) (hc : c < 2147483648) :
    F_X8_isCell (i3 r) (i3 c) μ = rI (i3 (if r < nR P ∧ c < nC P then 1 else 0)) μ := by
  rw [mCell h ok (by omega) (by omega)]
  by_cases q : r < nR P ∧ c < nC P
  · rw [if_pos q, if_pos (by omega)]
  · rw [if_neg q, if_neg (by omega)]
theorem mLine {μ : Mem} {P : Pic} (h : MN μ P) (ok : okP P) {l : Int} (hl : -2147483648 ≤ l ∧ l < 2147483648) : F_X8_isLine (i3 l) μ = rI (i3 (if 0 ≤ l ∧ l < nR P + nC P then 1 else 0)) μ := by
  have o1 := ok.2.1
  have o2 := ok.2.2.2.1
  simp only [F_X8_isLine, rows_code h, cols_code h, cI_k, l3_1, l3_0, i3_sub, i3_add]
  rw [in_code hl (by omega) (by omega), cI_k]
  by_cases a : 0 ≤ l ∧ l < nR P + nC P
  · rw [if_pos (show 0 ≤ l ∧ l ≤ (nR P : Int) + nC P - 1 by omega), if_pos a, ck_k (nz01 (Or.inr rfl))]
  · rw [if_neg (show ¬ (0 ≤ l ∧ l ≤ (nR P : Int) + nC P - 1) by omega), if_neg a, ck_k (nz01 (Or.inl rfl))]
def lenL (P : Pic) (l : Nat) : Nat := if nR P ≤ l then nR P else nC P
def rowL (P : Pic) (l i : Nat) : Nat := if nR P ≤ l then i else l
def colL (P : Pic) (l i : Nat) : Nat := if nR P ≤ l then l - nR P else i
theorem mLen {μ : Mem} {P : Pic} (h : MN μ P) (ok : okP P) {l : Nat} (hl : l < nR P + nC P) : F_X8_lengthOf (i3 l) μ = rI (i3 (lenL P l)) μ := by
  have o1 := ok.2.1
  have o2 := ok.2.2.2.1
  simp only [F_X8_lengthOf, rows_code h, cols_code h, cI_k]
  unfold lenL
  by_cases a : nR P ≤ l
  · rw [if_pos (le3 (by omega)), if_pos a]
  · rw [if_neg (nle3 (by omega)), if_neg a]
theorem mRow {μ : Mem} {P : Pic} (h : MN μ P) (ok : okP P) {l : Nat} (hl : l < nR P + nC P) (i : Nat) : F_X8_rowOf (i3 l) (i3 i) μ = rI (i3 (rowL P l i)) μ := by
  have o1 := ok.2.1
  have o2 := ok.2.2.2.1
  simp only [F_X8_rowOf, rows_code h, cI_k]
  unfold rowL
  by_cases a : nR P ≤ l
  · rw [if_pos (le3 (by omega)), if_pos a]
  · rw [if_neg (nle3 (by omega)), if_neg a]
theorem mCol {μ : Mem} {P : Pic} (h : MN μ P) (ok : okP P) {l : Nat} (hl : l < nR P + nC P) (i : Nat) : F_X8_columnOf (i3 l) (i3 i) μ = rI (i3 (colL P l i)) μ := by
  have o1 := ok.2.1
  have o2 := ok.2.2.2.1
  simp only [F_X8_columnOf, rows_code h, cI_k]
  unfold colL
  by_cases a : nR P ≤ l
  · rw [if_pos (le3 (by omega)), if_pos a, i3_subn a]
  · rw [if_neg (nle3 (by omega)), if_neg a]
theorem lin_bd {P : Pic} (ok : okP P) {l : Nat} (hl : l < nR P + nC P) {i : Nat} (hi : i < lenL P l) : rowL P l i < nR P ∧ colL P l i < nC P ∧ lenL P l ≤ 6 ∧ i < 6 := by
  have o1 := ok.2.1
  have o2 := ok.2.2.2.1
  unfold lenL at hi ⊢
  unfold rowL colL
  by_cases a : nR P ≤ l
  · simp only [if_pos a] at hi ⊢; omega
  · simp only [if_neg a] at hi ⊢; omega
theorem len6 {P : Pic} (ok : okP P) (l : Nat) : lenL P l ≤ 6 := by
  have o1 := ok.2.1
  have o2 := ok.2.2.2.1
  unfold lenL; split <;> omega
/-- the sum over a line is that over six cells -/
theorem lin_sum {P : Pic} (ok : okP P) {y : Int64} (hy : ∀ r c, zc y r c → r < nR P ∧ c < nC P) {l : Nat} (hl : l < nR P + nC P) : zs (lenL P l) (fun i => b2 (tb y (8 * rowL P l i + colL P l i))) = cnt (nR P) y l := by
  have o1 := ok.2.1
  have o2 := ok.2.2.2.1
  unfold lenL rowL colL cnt
  by_cases a : nR P ≤ l
  · simp only [if_pos a]
    refine (zs_ext0 (n := nR P) (m := 6) o1 (fun i h1 h2 => ?_)).symm
    rw [tb_f (fun q => by have := hy i (l - nR P) ⟨by omega, by omega, q⟩; omega)]; rfl
  · simp only [if_neg a]
    refine (zs_ext0 (n := nC P) (m := 6) o2 (fun i h1 h2 => ?_)).symm
    rw [tb_f (fun q => by have := hy l i ⟨by omega, by omega, q⟩; omega)]; rfl
theorem mCount {μ : Mem} {P : Pic} (h : MN μ P) (ok : okP P) {l : Nat} (hl : l < nR P + nC P) : F_X8_countOf (i3 l) μ = rI (i3 (cnt (nR P) (fX P) l)) μ := by
  have h6 := len6 ok l
  simp only [F_X8_countOf]
  rw [← lin_sum ok ok.2.2.2.2.1 hl]
  refine loop_up (fun n i => f_X8_countOf_4 n (i3 l) (i3 (zs i (fun i => b2 (tb (fX P) (8 * rowL P l i + colL P l i))))) (i3 i) μ) (lenL P l) _ (fun n => ?_) (fun n i hi => ?_) BIG 0 (by omega) (BIG_lt (by omega))
  · simp only [f_X8_countOf_4, mLen h ok hl, cI_k]
    rw [if_pos (le3 (by omega))]
  · have hb := lin_bd ok hl hi
    have o1 := ok.2.1
    have o2 := ok.2.2.2.1
    simp only [f_X8_countOf_4, mLen h ok hl, mRow h ok hl i, mCol h ok hl i, cI_k, mFilled h (show rowL P l i < 6 by omega) (show colL P l i < 6 by omega), lt_k, inc3, l3_0, l3_1, i3_add]
    rw [if_neg (nle3 (by omega)), zs_s]
    cases tb (fX P) (8 * rowL P l i + colL P l i)
    · rw [if_pos (by decide)]; simp [b2]
    · rw [if_neg (by decide)]; simp [b2]
theorem mWantAt {μ : Mem} {P : Pic} (h : MN μ P) (ok : okP P) {l : Nat} (hl : l < nR P + nC P) : ∃ a : Nat, F_X8_wantAt (i3 l) μ = rI (i3 a) μ ∧ a < 50 ∧ a = (if nR P ≤ l then 44 + (l - nR P) else 38 + l) ∧ μ.1 30 a = i3 (wnt P l) := by
  have o1 := ok.2.1
  have o2 := ok.2.2.2.1
  simp only [F_X8_wantAt, rows_code h, cI_k, l3_44, l3_38, i3_add, i3_sub]
  unfold wnt
  by_cases a : nR P ≤ l
  · rw [if_pos (le3 (by omega)), show (44 : Int) + (l : Int) - (nR P : Int) = ((44 + (l - nR P) : Nat) : Int) from by omega]
    simp only [if_pos a]
    exact ⟨_, rfl, by omega, rfl, h.2.2.2.2 _ (by omega)⟩
  · rw [if_neg (nle3 (by omega)), show (38 : Int) + (l : Int) = ((38 + l : Nat) : Int) from by omega]
    simp only [if_neg a]
    exact ⟨_, rfl, by omega, rfl, h.2.2.2.1 _ (by omega)⟩
theorem mWrong {μ : Mem} {P : Pic} (h : MN μ P) (ok : okP P) : F_X8_wrongLines μ = rI (i3 (wrg P)) μ := by
  have o1 := ok.2.1
  have o2 := ok.2.2.2.1
  simp only [F_X8_wrongLines]
  refine loop_up (fun n i => f_X8_wrongLines_4 n (i3 (zs i (fun l => if cnt (nR P) (fX P) l = wnt P l then 0 else 1))) (i3 i) μ) (nR P + nC P) _ (fun n => ?_) (fun n i hi => ?_) BIG 0 (by omega) (BIG_lt (by omega))
  · simp only [f_X8_wrongLines_4, rows_code h, cols_code h, cI_k, i3_add]
    rw [if_pos (le3 (by omega))]; rfl
  · obtain ⟨a, a1, a2, -, a3⟩ := mWantAt h ok hi
    have c0 := cnt_0 (nR P) (fX P) i
    have c6 := cnt_6 (nR P) (fX P) i
    have w6 := wnt_6 ok hi
    simp only [f_X8_wrongLines_4, rows_code h, cols_code h, cI_k, i3_add, mCount h ok hi, a1, clampN (show a < 2147483648 by omega), a3, lt_k, inc3]
    rw [if_neg (nle3 (by omega)), ck_k (i3_in (by omega) (by decide)), zs_s, l3_0, l3_1, i3_add, i3_add]
    by_cases e : cnt (nR P) (fX P) i = wnt P i
    · rw [if_pos (by rw [e]), if_pos e]
    · rw [if_neg (ne3 (by omega)), if_neg e]
theorem pc_rows {P : Pic} (ok : okP P) {y : Int64} (hy : ∀ r c, zc y r c → r < nR P ∧ c < nC P) : zs (nR P) (fun l => rct y l) = pc y := by
  have o1 := ok.2.1
  have o2 := ok.2.2.2.1
  have hb : brd y := (brd_iff y).mpr (fun r c q => by have := hy r c q; omega)
  rw [pc_z2 hb]
  exact (zs_ext0 (n := nR P) (m := 6) o1 (fun i h1 h2 => rct_out h2 (fun c q => by have := hy i c q; omega))).symm
theorem mFilledMany {μ : Mem} {P : Pic} (h : MN μ P) (ok : okP P) : F_X8_filledMany μ = rI (i3 (pc (fX P))) μ := by
  have o1 := ok.2.1
  simp only [F_X8_filledMany]
  rw [← pc_rows ok ok.2.2.2.2.1]
  refine loop_up (fun n i => f_X8_filledMany_4 n (i3 (zs i (fun l => rct (fX P) l))) (i3 i) μ) (nR P) _ (fun n => ?_) (fun n i hi => ?_) BIG 0 (by omega) (BIG_lt (by omega))
  · simp only [f_X8_filledMany_4, rows_code h, cI_k]
    rw [if_pos (le3 (by omega))]
  · simp only [f_X8_filledMany_4, rows_code h, cI_k, mCount h ok (show i < nR P + nC P by omega), lt_k, inc3, i3_add]
    rw [if_neg (nle3 (by omega)), zs_s]
    unfold cnt
    rw [if_neg (by omega)]
/-- a double loop over rows and columns that adds up -/
theorem mPinnedMany {μ : Mem} {P : Pic} (h : MN μ P) (ok : okP P) : F_X8_pinnedMany μ = rI (i3 (pc (fP P))) μ := by
  have o1 := ok.2.1
  have o2 := ok.2.2.2.1
  have row : ∀ r, r < nR P → zs (nC P) (fun c => b2 (tb (fP P) (8 * r + c))) = rct (fP P) r := fun r hr =>
    (zs_ext0 (n := nC P) (m := 6) o2 (fun c h1 h2 => by rw [tb_f (fun q => by have := ok.2.2.2.2.2.1 r c ⟨by omega, by omega, q⟩; omega)]; rfl)).symm
  have inner : ∀ r, r < nR P → ∀ k4 : Int32 → Int32 → Mem → Out, f_X8_pinnedMany_14 k4 BIG (i3 (zs r (fun l => rct (fP P) l))) (i3 r) (0 : Int32) μ = k4 (i3 (zs (r + 1) (fun l => rct (fP P) l))) (i3 ((r + 1 : Nat) : Int)) μ := by
    intro r hr k4
    rw [show i3 (zs r (fun l => rct (fP P) l)) = i3 (zs r (fun l => rct (fP P) l) + zs 0 (fun c => b2 (tb (fP P) (8 * r + c)))) from by rw [zs_0, Int.add_zero], show (0 : Int32) = i3 ((0 : Nat) : Int) from l3_0]
    refine loop_up (fun n i => f_X8_pinnedMany_14 k4 n (i3 (zs r (fun l => rct (fP P) l) + zs i (fun c => b2 (tb (fP P) (8 * r + c))))) (i3 r) (i3 i) μ) (nC P) _ (fun n => ?_) (fun n i hi => ?_) BIG 0 (by omega) (BIG_lt (by omega))
    · simp only [f_X8_pinnedMany_14, cols_code h, cI_k, lt_k, inc3]
      rw [if_pos (le3 (by omega)), row r hr, zs_s]
    · simp only [f_X8_pinnedMany_14, cols_code h, cI_k, lt_k, inc3, mPinned h (show r < 6 by omega) (show i < 6 by omega), l3_0, l3_1, i3_add]
      rw [if_neg (nle3 (by omega)), zs_s]
      cases tb (fP P) (8 * r + i)
      · rw [if_pos (by decide)]; simp [b2]
      · rw [if_neg (by decide)]; simp [b2, Int.add_assoc]
  simp only [F_X8_pinnedMany]
  rw [← pc_rows ok ok.2.2.2.2.2.1]
  refine loop_up (fun n i => f_X8_pinnedMany_4 n (i3 (zs i (fun l => rct (fP P) l))) (i3 i) μ) (nR P) _ (fun n => ?_) (fun n i hi => ?_) BIG 0 (by omega) (BIG_lt (by omega))
  · simp only [f_X8_pinnedMany_4, rows_code h, cI_k]
    rw [if_pos (le3 (by omega))]
  · simp only [f_X8_pinnedMany_4, rows_code h, cI_k, inner i hi]
    rw [if_neg (nle3 (by omega))]
theorem mOpen {μ : Mem} {P : Pic} (h : MN μ P) (ok : okP P) {r c : Int} (hr : -2147483648 ≤ r ∧ r < 2147483648) (hc : -2147483648 ≤ c ∧ c < 2147483648) :
    ∃ v, F_X8_openSide (i3 r) (i3 c) μ = rI (i3 v) μ ∧ v = (if (0 ≤ r ∧ r < nR P) ∧ 0 ≤ c ∧ c < nC P then 1 - b2 (tb (fX P) (8 * r.toNat + c.toNat)) else 1) := by
  have o1 := ok.2.1
  have o2 := ok.2.2.2.1
  simp only [F_X8_openSide, mCell h ok hr hc, cI_k, l3_0, l3_1]
  by_cases q : (0 ≤ r ∧ r < nR P) ∧ 0 ≤ c ∧ c < nC P
  · rw [if_pos q, if_neg (by decide), if_pos q]
    have hm := mFilled h (r := r.toNat) (c := c.toNat) (by omega) (by omega)
    rw [show ((r.toNat : Nat) : Int) = r from by omega, show ((c.toNat : Nat) : Int) = c from by omega] at hm
    rw [hm, cI_k]
    cases tb (fX P) (8 * r.toNat + c.toNat)
    · rw [if_pos (by decide)]; exact ⟨1, rfl, by decide⟩
    · rw [if_neg (by decide)]; exact ⟨0, rfl, by decide⟩
  · rw [if_neg q, if_pos rfl, if_neg q]
    exact ⟨1, rfl, rfl⟩
theorem mOpenSides {μ : Mem} {P : Pic} (h : MN μ P) (ok : okP P) {r c : Nat} (hr : r < nR P) (hc : c < nC P) : F_X8_openSides (i3 r) (i3 c) μ = rI (i3 (osd (fX P) r c)) μ := by
  have o1 := ok.2.1
  have o2 := ok.2.2.2.1
  have hX := ok.2.2.2.2.1
  obtain ⟨v1, a1, b1⟩ := mOpen h ok (r := (r : Int) - 1) (c := c) (by omega) (by omega)
  obtain ⟨v2, a2, b2'⟩ := mOpen h ok (r := (r : Int) + 1) (c := c) (by omega) (by omega)
  obtain ⟨v3, a3, b3⟩ := mOpen h ok (r := r) (c := (c : Int) - 1) (by omega) (by omega)
  obtain ⟨v4, a4, b4⟩ := mOpen h ok (r := r) (c := (c : Int) + 1) (by omega) (by omega)
  simp only [F_X8_openSides, l3_1, i3_sub, i3_add, a1, a2, a3, a4, cI_k]
  have e1 : v1 = 1 - b2 (decide (1 ≤ r) && tb (fX P) (8 * r + c - 8)) := by
    rw [b1]
    by_cases q : 1 ≤ r
    · rw [if_pos (by omega), show 8 * ((r : Int) - 1).toNat + (c : Int).toNat = 8 * r + c - 8 from by omega]; simp [q]
    · rw [if_neg (by omega)]; simp [q, b2]
  have e2 : v2 = 1 - b2 (tb (fX P) (8 * r + c + 8)) := by
    rw [b2']
    by_cases q : r + 1 < nR P
    · rw [if_pos (by omega), show 8 * ((r : Int) + 1).toNat + (c : Int).toNat = 8 * r + c + 8 from by omega]
    · rw [if_neg (by omega), tb_f (fun z => ?_)]
      · rfl
      · have := hX (r + 1) c ⟨by omega, by omega, by rw [show 8 * (r + 1) + c = 8 * r + c + 8 from by omega]; exact z⟩; omega
  have e3 : v3 = 1 - b2 (decide (1 ≤ c) && tb (fX P) (8 * r + c - 1)) := by
    rw [b3]
    by_cases q : 1 ≤ c
    · rw [if_pos (by omega), show 8 * (r : Int).toNat + ((c : Int) - 1).toNat = 8 * r + c - 1 from by omega]; simp [q]
    · rw [if_neg (by omega)]; simp [q, b2]
  have e4 : v4 = 1 - b2 (tb (fX P) (8 * r + c + 1)) := by
    rw [b4]
    by_cases q : c + 1 < nC P
    · rw [if_pos (by omega), show 8 * (r : Int).toNat + ((c : Int) + 1).toNat = 8 * r + c + 1 from by omega]
    · rw [if_neg (by omega), tb_f (fun z => ?_)]
      · rfl
      · have := hX r (c + 1) ⟨by omega, by omega, by rw [show 8 * r + (c + 1) = 8 * r + c + 1 from by omega]; exact z⟩; omega
  have es : v1 + v2 + v3 + v4 = osd (fX P) r c := by
    unfold osd; rw [e1, e2, e3, e4]; omega
  rw [es]
theorem mOutline {μ : Mem} {P : Pic} (h : MN μ P) (ok : okP P) : F_X8_outline μ = rI (i3 (outl (fX P) (fX P))) μ := by
  have o1 := ok.2.1
  have o2 := ok.2.2.2.1
  have rowz : ∀ r c, ¬ (r < nR P ∧ c < nC P) → r < 6 → c < 6 → b2 (tb (fX P) (8 * r + c)) * osd (fX P) r c = 0 := fun r c q h1 h2 => by
    rw [tb_f (fun z => q (ok.2.2.2.2.1 r c ⟨by omega, by omega, z⟩)), b2_f, Int.zero_mul]
  have row : ∀ r, r < nR P → zs (nC P) (fun c => b2 (tb (fX P) (8 * r + c)) * osd (fX P) r c) = zs 6 (fun c => b2 (tb (fX P) (8 * r + c)) * osd (fX P) r c) := fun r hr =>
    (zs_ext0 (n := nC P) (m := 6) o2 (fun c h1 h2 => rowz r c (by omega) (by omega) h2)).symm
  have tot : zs (nR P) (fun r => zs 6 (fun c => b2 (tb (fX P) (8 * r + c)) * osd (fX P) r c)) = outl (fX P) (fX P) :=
    (zs_ext0 (n := nR P) (m := 6) o1 (fun r h1 h2 => (zs_congr (fun c hc => rowz r c (by omega) h2 hc)).trans (zs_zero 6))).symm
  have inner : ∀ r, r < nR P → ∀ k4 : Int32 → Int32 → Mem → Out, f_X8_outline_14 k4 BIG (i3 (zs r (fun r => zs 6 (fun c => b2 (tb (fX P) (8 * r + c)) * osd (fX P) r c)))) (i3 r) (0 : Int32) μ = k4 (i3 (zs (r + 1) (fun r => zs 6 (fun c => b2 (tb (fX P) (8 * r + c)) * osd (fX P) r c)))) (i3 ((r + 1 : Nat) : Int)) μ := by
    intro r hr k4
    rw [show i3 (zs r (fun r => zs 6 (fun c => b2 (tb (fX P) (8 * r + c)) * osd (fX P) r c))) = i3 (zs r (fun r => zs 6 (fun c => b2 (tb (fX P) (8 * r + c)) * osd (fX P) r c)) + zs 0 (fun c => b2 (tb (fX P) (8 * r + c)) * osd (fX P) r c)) from by rw [zs_0, Int.add_zero], show (0 : Int32) = i3 ((0 : Nat) : Int) from l3_0]
    refine loop_up (fun n i => f_X8_outline_14 k4 n (i3 (zs r (fun r => zs 6 (fun c => b2 (tb (fX P) (8 * r + c)) * osd (fX P) r c)) + zs i (fun c => b2 (tb (fX P) (8 * r + c)) * osd (fX P) r c))) (i3 r) (i3 i) μ) (nC P) _ (fun n => ?_) (fun n i hi => ?_) BIG 0 (by omega) (BIG_lt (by omega))
    · simp only [f_X8_outline_14, cols_code h, cI_k, lt_k, inc3]
      rw [if_pos (le3 (by omega)), row r hr]; rfl
    · simp only [f_X8_outline_14, cols_code h, cI_k, lt_k, inc3, mFilled h (show r < 6 by omega) (show i < 6 by omega), mOpenSides h ok hr hi, l3_0, i3_add]
      rw [if_neg (nle3 (by omega)), zs_s]
      cases tb (fX P) (8 * r + i)
      · rw [if_pos (by decide)]; simp [b2]
      · rw [if_neg (by decide)]; simp [b2, Int.add_assoc]
  simp only [F_X8_outline]
  rw [← tot]
  refine loop_up (fun n i => f_X8_outline_4 n (i3 (zs i (fun r => zs 6 (fun c => b2 (tb (fX P) (8 * r + c)) * osd (fX P) r c)))) (i3 i) μ) (nR P) _ (fun n => ?_) (fun n i hi => ?_) BIG 0 (by omega) (BIG_lt (by omega))
  · simp only [f_X8_outline_4, rows_code h, cI_k]
    rw [if_pos (le3 (by omega))]
  · simp only [f_X8_outline_4, rows_code h, cI_k, inner i hi]
    rw [if_neg (nle3 (by omega))]
