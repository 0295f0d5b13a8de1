/-! a picture: rows, columns, filled cells, pinned cells, wanted counts of rows, of columns (as digits) -/
abbrev Pic : Type := Nat × Nat × Int64 × Int64 × Int64 × Int64
abbrev nR (P : Pic) : Nat := P.1
abbrev nC (P : Pic) : Nat := P.2.1
abbrev fX (P : Pic) : Int64 := P.2.2.1
abbrev fP (P : Pic) : Int64 := P.2.2.2.1
abbrev wU (P : Pic) : Int64 := P.2.2.2.2.1
abbrev wV (P : Pic) : Int64 := P.2.2.2.2.2
def okP (P : Pic) : Prop := 1 ≤ nR P ∧ nR P ≤ 6 ∧ 1 ≤ nC P ∧ nC P ≤ 6 ∧ (∀ r c, zc (fX P) r c → r < nR P ∧ c < nC P) ∧ (∀ r c, zc (fP P) r c → r < nR P ∧ c < nC P) ∧
  (∀ i, i < 6 → dgn (wU P) i ≤ 6 ∧ (nR P ≤ i → dgn (wU P) i = 0)) ∧ (∀ i, i < 6 → dgn (wV P) i ≤ 6 ∧ (nC P ≤ i → dgn (wV P) i = 0))
/-- the class's picture at place k is P -/
def CP (μ : Mem) (k : Nat) (P : Pic) : Prop := μ.1 k 0 = i3 (nR P) ∧ μ.1 k 1 = i3 (nC P) ∧ μ.2.1 k 2 = fX P ∧ μ.2.1 k 3 = fP P ∧ μ.2.1 k 4 = wU P ∧ μ.2.1 k 5 = wV P
theorem CP_fr {W : List Nat} {μ μ' : Mem} {k : Nat} {P : Pic} (h : CP μ k P) (hf : fr W μ μ') (hk : k ∉ W) : CP μ' k P := by
  obtain ⟨h0, h1, h2, h3, h4, h5⟩ := h
  unfold CP
  rw [fr_1 hf hk, fr_1 hf hk, fr_2 hf hk, fr_2 hf hk, fr_2 hf hk, fr_2 hf hk]
  exact ⟨h0, h1, h2, h3, h4, h5⟩
theorem okP_x {P : Pic} (h : okP P) : brd (fX P) := (brd_iff _).mpr (fun r c q => by have := h.2.2.2.2.1 r c q; have := h.2.1; have := h.2.2.2.1; omega)
theorem okP_p {P : Pic} (h : okP P) : brd (fP P) := (brd_iff _).mpr (fun r c q => by have := h.2.2.2.2.2.1 r c q; have := h.2.1; have := h.2.2.2.1; omega)
def bdI (R C : Nat) : Int64 := ((((shlL (1 : Int64) (i3 C)) - (1 : Int64)) * (1103823438081 : Int64)) &&& ((shlL (1 : Int64) ((8 : Int32) * (i3 R))) - (1 : Int64)))
theorem zc_bd {R C : Nat} (hR : R ≤ 6) (hC : C ≤ 6) (r c : Nat) : zc (bdI R C) r c ↔ r < R ∧ c < C := by
  have h : ∀ (R C : Fin 7) (i : Fin 64), tb (bdI R.val C.val) i.val = (decide (i.val / 8 < R.val) && decide (i.val % 8 < C.val)) := by decide +kernel
  constructor
  · rintro ⟨a, b, d⟩
    have := h ⟨R, by omega⟩ ⟨C, by omega⟩ ⟨8 * r + c, by omega⟩
    simp only at this
    rw [this, Bool.and_eq_true, decide_eq_true_eq, decide_eq_true_eq] at d
    omega
  · rintro ⟨a, b⟩
    refine ⟨by omega, by omega, ?_⟩
    have := h ⟨R, by omega⟩ ⟨C, by omega⟩ ⟨8 * r + c, by omega⟩
    simp only at this
    rw [this, Bool.and_eq_true, decide_eq_true_eq, decide_eq_true_eq]
    omega
theorem board_code {μ : Mem} {k : Nat} {P : Pic} (h : CP μ k P) : F_X4_board k μ = rJ (bdI (nR P) (nC P)) μ := by
  obtain ⟨h0, h1, -⟩ := h
  simp only [F_X4_board, h0, h1]
  rfl
theorem hasCell_code {μ : Mem} {k : Nat} {P : Pic} (h : CP μ k P) (ok : okP P) {r c : Int} (hr : -2147483648 ≤ r ∧ r < 2147483648) (hc : -2147483648 ≤ c ∧ c < 2147483648) :
    F_X4_hasCell k (i3 r) (i3 c) μ = rI (i3 (if (0 ≤ r ∧ r < nR P) ∧ 0 ≤ c ∧ c < nC P then 1 else 0)) μ := by
  obtain ⟨h0, h1, -⟩ := h
  have o1 := ok.2.1
  have o2 := ok.2.2.2.1
  simp only [F_X4_hasCell, h0, h1, l3_0, l3_1]
  by_cases a : r < 0
  · rw [if_pos (lt3 (by omega)), if_neg (by omega)]
  · rw [if_neg (nlt3 (by omega))]
    by_cases b : (nR P : Int) ≤ r
    · rw [if_pos (le3 (by omega)), if_neg (by omega)]
    · rw [if_neg (nle3 (by omega))]
      by_cases d : c < 0
      · rw [if_pos (lt3 (by omega)), if_neg (by omega)]
      · rw [if_neg (nlt3 (by omega))]
        by_cases e : (nC P : Int) ≤ c
        · rw [if_pos (le3 (by omega)), if_neg (by omega)]
        · rw [if_neg (nle3 (by omega)), if_pos (by omega)]
theorem hasLine_code {μ : Mem} {k : Nat} {P : Pic} (h : CP μ k P) (ok : okP P) {l : Int} (hl : -2147483648 ≤ l ∧ l < 2147483648) :
    F_X4_hasLine k (i3 l) μ = rI (i3 (if 0 ≤ l ∧ l < nR P + nC P then 1 else 0)) μ := by
  obtain ⟨h0, h1, -⟩ := h
  have o1 := ok.2.1
  have o2 := ok.2.2.2.1
  simp only [F_X4_hasLine, h0, h1, l3_0, l3_1, i3_add]
  by_cases a : l < 0
  · rw [if_pos (lt3 (by omega)), if_neg (by omega)]
  · rw [if_neg (nlt3 (by omega))]
    by_cases b : (nR P + nC P : Int) ≤ l
    · rw [if_pos (le3 (by omega)), if_neg (by omega)]
    · rw [if_neg (nle3 (by omega)), if_pos (by omega)]
def lmI (R C l : Nat) : Int64 := if R ≤ l then bdI R C &&& shlL (1103823438081 : Int64) (i3 ((l - R : Nat) : Int)) else bdI R C &&& shlL (63 : Int64) ((8 : Int32) * i3 l)
theorem zc_lm {R C l : Nat} (hR : R ≤ 6) (hC : C ≤ 6) (hl : l < R + C) (r c : Nat) : zc (lmI R C l) r c ↔ (r < R ∧ c < C) ∧ (if R ≤ l then c = l - R else r = l) := by
  unfold lmI
  by_cases h : R ≤ l
  · rw [if_pos h, if_pos h, zc_and, zc_bd hR hC, zc_colMask (by omega)]
    omega
  · rw [if_neg h, if_neg h, zc_and, zc_bd hR hC, zc_rowMask (by omega)]
    omega
theorem i3_subn {l R : Nat} (h : R ≤ l) : i3 (l : Int) - i3 (R : Int) = i3 ((l - R : Nat) : Int) := by
  rw [i3_sub, Int.ofNat_sub h]
theorem lineMask_code {μ : Mem} {k : Nat} {P : Pic} (h : CP μ k P) (ok : okP P) {l : Nat} (hl : l < nR P + nC P) : F_X4_lineMask k (i3 l) μ = rJ (lmI (nR P) (nC P) l) μ := by
  have hb := board_code h
  obtain ⟨h0, h1, -⟩ := h
  have o1 := ok.2.1
  have o2 := ok.2.2.2.1
  simp only [F_X4_lineMask, hb, cJ_k, h0, F_X0_columnMask, F_X0_rowMask]
  unfold lmI
  by_cases a : nR P ≤ l
  · rw [if_pos (le3 (by omega)), if_pos a, i3_subn a]
  · rw [if_neg (nle3 (by omega)), if_neg a]
/-! the count of a row, of a column, of a line -/
def rct (x : Int64) (r : Nat) : Int := zs 6 (fun c => b2 (tb x (8 * r + c)))
def cct (x : Int64) (c : Nat) : Int := zs 6 (fun r => b2 (tb x (8 * r + c)))
theorem rct_0 (x : Int64) (r : Nat) : 0 ≤ rct x r := zs_pos (fun i _ => b2_0 _)
theorem cct_0 (x : Int64) (r : Nat) : 0 ≤ cct x r := zs_pos (fun i _ => b2_0 _)
theorem rct_6 (x : Int64) (r : Nat) : rct x r ≤ 6 := by
  have := zs_bnd (n := 6) (f := fun c => b2 (tb x (8 * r + c))) 1 (fun i _ => b2_1 _)
  unfold rct; omega
theorem cct_6 (x : Int64) (c : Nat) : cct x c ≤ 6 := by
  have := zs_bnd (n := 6) (f := fun r => b2 (tb x (8 * r + c))) 1 (fun i _ => b2_1 _)
  unfold cct; omega
theorem zs_one {n r : Nat} (hr : r < n) (v : Int) : zs n (fun a => if a = r then v else 0) = v := by
  have e2 : ∀ n, zs n (fun a => if a = r then v else 0) = if r < n then v else 0 := by
    intro n
    induction n with
    | zero => rfl
    | succ n ih =>
      rw [zs_s, ih]
      by_cases h1 : r < n
      · rw [if_pos h1, if_neg (by omega), if_pos (by omega)]; omega
      · by_cases h2 : n = r
        · rw [if_neg h1, if_pos h2, if_pos (by omega)]; omega
        · rw [if_neg h1, if_neg h2, if_neg (by omega)]; omega
  rw [e2, if_pos hr]
theorem tb_iff {x : Int64} {r c : Nat} (hr : r < 8) (hc : c < 8) : tb x (8 * r + c) = true ↔ zc x r c := ⟨fun h => ⟨hr, hc, h⟩, fun h => h.2.2⟩
theorem tb_eq {x y : Int64} {i j : Nat} (h : tb x i = true ↔ tb y j = true) : tb x i = tb y j := by
  cases h1 : tb x i <;> cases h2 : tb y j <;> simp_all
theorem tb_f {x : Int64} {i : Nat} (h : ¬ tb x i = true) : tb x i = false := by cases h1 : tb x i <;> simp_all
theorem pc_row {y m : Int64} (hy : brd y) {r : Nat} (hr : r < 6) (h : ∀ a c, zc y a c → (zc m a c ↔ a = r)) : pc (y &&& m) = rct y r := by
  rw [pc_z2 (brd_sub hy (fun a c q => ((zc_and _ _ _ _).mp q).1))]
  unfold z2
  have e : ∀ a, a < 6 → zs 6 (fun c => b2 (tb (y &&& m) (8 * a + c))) = if a = r then rct y r else 0 := by
    intro a ha
    by_cases har : a = r
    · subst har
      rw [if_pos rfl]
      apply zs_congr
      intro c hc
      congr 1
      apply tb_eq
      rw [tb_iff (by omega) (by omega), tb_iff (by omega) (by omega), zc_and]
      exact ⟨fun q => q.1, fun q => ⟨q, (h a c q).mpr rfl⟩⟩
    · rw [if_neg har]
      refine (zs_congr (fun c hc => ?_)).trans (zs_zero 6)
      rw [tb_f (i := 8 * a + c)]
      · rfl
      · rw [tb_iff (by omega) (by omega), zc_and]
        exact fun q => har ((h a c q.1).mp q.2)
  rw [zs_congr e, zs_one hr]
theorem pc_col {y m : Int64} (hy : brd y) {l : Nat} (hl : l < 6) (h : ∀ a c, zc y a c → (zc m a c ↔ c = l)) : pc (y &&& m) = cct y l := by
  rw [pc_z2 (brd_sub hy (fun a c q => ((zc_and _ _ _ _).mp q).1))]
  unfold z2
  rw [zs_comm]
  have e : ∀ c, c < 6 → zs 6 (fun a => b2 (tb (y &&& m) (8 * a + c))) = if c = l then cct y l else 0 := by
    intro c hc
    by_cases har : c = l
    · subst har
      rw [if_pos rfl]
      apply zs_congr
      intro a ha
      congr 1
      apply tb_eq
      rw [tb_iff (by omega) (by omega), tb_iff (by omega) (by omega), zc_and]
      exact ⟨fun q => q.1, fun q => ⟨q, (h a c q).mpr rfl⟩⟩
    · rw [if_neg har]
      refine (zs_congr (fun a ha => ?_)).trans (zs_zero 6)
      rw [tb_f (i := 8 * a + c)]
      · rfl
      · rw [tb_iff (by omega) (by omega), zc_and]
        exact fun q => har ((h a c q.1).mp q.2)
  rw [zs_congr e, zs_one hl]
/-- the count of the line l in the set y -/
def cnt (R : Nat) (y : Int64) (l : Nat) : Int := if R ≤ l then cct y (l - R) else rct y l
theorem cnt_0 (R : Nat) (y : Int64) (l : Nat) : 0 ≤ cnt R y l := by
  by_cases h : R ≤ l
  · rw [cnt, if_pos h]; exact cct_0 _ _
  · rw [cnt, if_neg h]; exact rct_0 _ _
theorem cnt_6 (R : Nat) (y : Int64) (l : Nat) : cnt R y l ≤ 6 := by
  by_cases h : R ≤ l
  · rw [cnt, if_pos h]; exact cct_6 _ _
  · rw [cnt, if_neg h]; exact rct_6 _ _
theorem pc_lm {R C : Nat} (hR : R ≤ 6) (hC : C ≤ 6) {y : Int64} (hy : ∀ r c, zc y r c → r < R ∧ c < C) {l : Nat} (hl : l < R + C) : pc (y &&& lmI R C l) = cnt R y l := by
  have hb : brd y := (brd_iff y).mpr (fun r c q => by have := hy r c q; omega)
  unfold cnt
  by_cases h : R ≤ l
  · rw [if_pos h]
    refine pc_col hb (by omega) (fun a c q => ?_)
    have := hy a c q
    rw [zc_lm hR hC hl, if_pos h]
    exact ⟨fun z => z.2, fun z => ⟨this, z⟩⟩
  · rw [if_neg h]
    refine pc_row hb (by omega) (fun a c q => ?_)
    have := hy a c q
    rw [zc_lm hR hC hl, if_neg h]
    exact ⟨fun z => z.2, fun z => ⟨this, z⟩⟩
theorem countOf_code {μ : Mem} {k : Nat} {P : Pic} (h : CP μ k P) (ok : okP P) {l : Nat} (hl : l < nR P + nC P) : F_X4_countOf k (i3 l) μ = rI (i3 (cnt (nR P) (fX P) l)) μ := by
  simp only [F_X4_countOf, lineMask_code h ok hl, cJ_k, h.2.2.1, pc_code, cI_k]
  rw [pc_lm ok.2.1 ok.2.2.2.1 ok.2.2.2.2.1 hl]
/-- the wanted count of the line l -/
def wnt (P : Pic) (l : Nat) : Nat := if nR P ≤ l then dgn (wV P) (l - nR P) else dgn (wU P) l
theorem wnt_6 {P : Pic} (ok : okP P) {l : Nat} (hl : l < nR P + nC P) : wnt P l ≤ 6 := by
  have o1 := ok.2.1
  have o2 := ok.2.2.2.1
  unfold wnt
  split
  · exact (ok.2.2.2.2.2.2.2 _ (by omega)).1
  · exact (ok.2.2.2.2.2.2.1 _ (by omega)).1
theorem wantedOf_code {μ : Mem} {k : Nat} {P : Pic} (h : CP μ k P) (ok : okP P) {l : Nat} (hl : l < nR P + nC P) : F_X4_wantedOf k (i3 l) μ = rI (i3 (wnt P l)) μ := by
  obtain ⟨h0, h1, h2, h3, h4, h5⟩ := h
  have o1 := ok.2.1
  have o2 := ok.2.2.2.1
  simp only [F_X4_wantedOf, h0, h4, h5]
  unfold wnt
  by_cases a : nR P ≤ l
  · rw [if_pos (le3 (by omega)), if_pos a, i3_subn a, digit_code _ (by omega), cI_k]
  · rw [if_neg (nle3 (by omega)), if_neg a, digit_code _ (by omega), cI_k]
/-- how many lines do not have the wanted count -/
def wrg (P : Pic) : Int := zs (nR P + nC P) (fun l => if cnt (nR P) (fX P) l = wnt P l then 0 else 1)
theorem countWrongLines_code {μ : Mem} {k : Nat} {P : Pic} (h : CP μ k P) (ok : okP P) : F_X4_countWrongLines k μ = rI (i3 (wrg P)) μ := by
  have o1 := ok.2.1
  have o2 := ok.2.2.2.1
  simp only [F_X4_countWrongLines]
  refine loop_up (fun n i => f_X4_countWrongLines_4 k n (i3 (zs i (fun l => if cnt (nR P) (fX P) l = wnt P l then 0 else 1))) (i3 i) μ) (nR P + nC P) _ (fun n => ?_) (fun n i hi => ?_) BIG 0 (by omega) (BIG_lt (by omega))
  · simp only [f_X4_countWrongLines_4, h.1, h.2.1, i3_add]
    rw [if_pos (le3 (by omega))]
    rfl
  · simp only [f_X4_countWrongLines_4, h.1, h.2.1, i3_add, countOf_code h ok hi, wantedOf_code h ok hi, cI_k, oneIf_0, oneIf_1, lt_k, inc3]
    have c0 := cnt_0 (nR P) (fX P) i
    have c6 := cnt_6 (nR P) (fX P) i
    have w6 := wnt_6 ok hi
    rw [if_neg (nle3 (by omega)), zs_s]
    by_cases e : cnt (nR P) (fX P) i = wnt P i
    · rw [if_pos (by rw [e]), if_pos e]
    · rw [if_neg (ne3 (by omega)), if_neg e]
theorem countFilled_code {μ : Mem} {k : Nat} {P : Pic} (h : CP μ k P) : F_X4_countFilled k μ = rI (i3 (pc (fX P))) μ := by
  simp only [F_X4_countFilled, pc_code, cI_k, h.2.2.1]
theorem wantedOfRows_code {μ : Mem} {k : Nat} {P : Pic} (h : CP μ k P) : F_X4_wantedOfRows k μ = rI (i3 (zs 6 (fun i => (dgn (wU P) i : Int)))) μ := by
  simp only [F_X4_wantedOfRows, total_code, cI_k, h.2.2.2.2.1]
theorem wantedOfColumns_code {μ : Mem} {k : Nat} {P : Pic} (h : CP μ k P) : F_X4_wantedOfColumns k μ = rI (i3 (zs 6 (fun i => (dgn (wV P) i : Int)))) μ := by
  simp only [F_X4_wantedOfColumns, total_code, cI_k, h.2.2.2.2.2]
theorem bit_test {x : Int64} {r c : Nat} (hr : r < 8) (hc : c < 8) {α : Type} (a b : α) : (if lg_cmp (x &&& bv (8 * r + c)) 0 = 0 then a else b) = if tb x (8 * r + c) then b else a := by
  by_cases h : zc x r c
  · rw [if_neg (bv_t h), if_pos h.2.2]
  · rw [if_pos (bv_f hr hc h), if_neg (fun q => h ⟨hr, hc, q⟩)]
theorem isPinned_code {μ : Mem} {k : Nat} {P : Pic} (h : CP μ k P) {r c : Nat} (hr : r < 8) (hc : c < 8) : F_X4_isPinned k (i3 r) (i3 c) μ = rI (i3 (b2 (tb (fP P) (8 * r + c)))) μ := by
  simp only [F_X4_isPinned, bit_code, cJ_k, h.2.2.2.1]
  rw [bit_test hr hc]
  cases tb (fP P) (8 * r + c)
  · rw [if_neg (by decide), l3_0]; rfl
  · rw [if_pos rfl, l3_1]; rfl
theorem stepIn_code {μ : Mem} {k : Nat} {P : Pic} (h : CP μ k P) (ok : okP P) {l : Nat} (hl : l < nR P + nC P) : F_X4_stepIn k (i3 l) μ = if nR P ≤ l then rI (8 : Int32) μ else rI (1 : Int32) μ := by
  have o1 := ok.2.1
  have o2 := ok.2.2.2.1
  simp only [F_X4_stepIn, h.1]
  by_cases a : nR P ≤ l
  · rw [if_pos (le3 (by omega)), if_pos a]
  · rw [if_neg (nle3 (by omega)), if_neg a]
/-! changes -/
/-- x with the cell (r, c) as b says -/
def setB (x : Int64) (r c : Nat) (b : Bool) : Int64 := if b then x ||| bv (8 * r + c) else x &&& (bv (8 * r + c) ^^^ (-1 : Int64))
theorem zc_setB {x : Int64} {r c : Nat} (hr : r < 8) (hc : c < 8) (b : Bool) (r' c' : Nat) : zc (setB x r c b) r' c' ↔ if r' = r ∧ c' = c then b = true else zc x r' c' := by
  unfold setB
  have hbv : zc (bv (8 * r + c)) r' c' ↔ r' = r ∧ c' = c := by rw [zc_bv (by omega)]; omega
  cases b
  · rw [if_neg (by decide), zc_rem, hbv]
    by_cases h : r' = r ∧ c' = c
    · rw [if_pos h]; simp [h]
    · rw [if_neg h]; simp [h]
  · rw [if_pos rfl, zc_or, hbv]
    by_cases h : r' = r ∧ c' = c
    · rw [if_pos h]; simp [h]
    · rw [if_neg h]; simp [h]
theorem nz01 {v : Int32} (h : v = i3 0 ∨ v = i3 1) : nz v := by
  rcases h with rfl | rfl <;> decide
theorem setFilled_code {μ : Mem} {k : Nat} {P : Pic} (h : CP μ k P) {r c : Nat} (hr : r < 8) (hc : c < 8) (b : Bool) : F_X4_setFilled k (i3 r) (i3 c) (i3 (b2 b)) μ = rI (i3 (b2 (tb (fX P) (8 * r + c)))) (sJ μ k 2 (setB (fX P) r c b)) := by
  simp only [F_X4_setFilled, bit_code, cJ_k, h.2.2.1, f_X4_setFilled_24, lt_k]
  rw [bit_test hr hc, l3_0, l3_1]
  have h10 : ¬ (i3 1 = i3 0) := by decide
  have c0 : ∀ k : Out, ck (nz (i3 0)) k = k := fun k => ck_k (nz01 (Or.inl rfl)) k
  have c1 : ∀ k : Out, ck (nz (i3 1)) k = k := fun k => ck_k (nz01 (Or.inr rfl)) k
  cases b <;> cases ht : tb (fX P) (8 * r + c) <;> simp [b2, setB, h10, c0, c1]
theorem setPinned_code {μ : Mem} {k : Nat} {P : Pic} (h : CP μ k P) {r c : Nat} (hr : r < 8) (hc : c < 8) (b : Bool) : F_X4_setPinned k (i3 r) (i3 c) (i3 (b2 b)) μ = rI (i3 (b2 (tb (fP P) (8 * r + c)))) (sJ μ k 3 (setB (fP P) r c b)) := by
  simp only [F_X4_setPinned, bit_code, cJ_k, h.2.2.2.1, f_X4_setPinned_24, lt_k]
  rw [bit_test hr hc, l3_0, l3_1]
  have h10 : ¬ (i3 1 = i3 0) := by decide
  have c0 : ∀ k : Out, ck (nz (i3 0)) k = k := fun k => ck_k (nz01 (Or.inl rfl)) k
  have c1 : ∀ k : Out, ck (nz (i3 1)) k = k := fun k => ck_k (nz01 (Or.inr rfl)) k
  cases b <;> cases ht : tb (fP P) (8 * r + c) <;> simp [b2, setB, h10, c0, c1]
abbrev mkX (P : Pic) (x : Int64) : Pic := (nR P, nC P, x, fP P, wU P, wV P)
abbrev mkPn (P : Pic) (x : Int64) : Pic := (nR P, nC P, fX P, x, wU P, wV P)
abbrev mkU (P : Pic) (x : Int64) : Pic := (nR P, nC P, fX P, fP P, x, wV P)
abbrev mkV (P : Pic) (x : Int64) : Pic := (nR P, nC P, fX P, fP P, wU P, x)
theorem CP_X {μ : Mem} {k : Nat} {P : Pic} (h : CP μ k P) (x : Int64) : CP (sJ μ k 2 x) k (mkX P x) := by
  obtain ⟨h0, h1, h2, h3, h4, h5⟩ := h
  refine ⟨h0, h1, up2_same _ _ _ _, ?_, ?_, ?_⟩ <;> (rw [sJ_21, up2_j _ _ _ _ _ (by decide)]; assumption)
theorem CP_Pn {μ : Mem} {k : Nat} {P : Pic} (h : CP μ k P) (x : Int64) : CP (sJ μ k 3 x) k (mkPn P x) := by
  obtain ⟨h0, h1, h2, h3, h4, h5⟩ := h
  refine ⟨h0, h1, ?_, up2_same _ _ _ _, ?_, ?_⟩ <;> (rw [sJ_21, up2_j _ _ _ _ _ (by decide)]; assumption)
theorem CP_U {μ : Mem} {k : Nat} {P : Pic} (h : CP μ k P) (x : Int64) : CP (sJ μ k 4 x) k (mkU P x) := by
  obtain ⟨h0, h1, h2, h3, h4, h5⟩ := h
  refine ⟨h0, h1, ?_, ?_, up2_same _ _ _ _, ?_⟩ <;> (rw [sJ_21, up2_j _ _ _ _ _ (by decide)]; assumption)
theorem CP_V {μ : Mem} {k : Nat} {P : Pic} (h : CP μ k P) (x : Int64) : CP (sJ μ k 5 x) k (mkV P x) := by
  obtain ⟨h0, h1, h2, h3, h4, h5⟩ := h
  refine ⟨h0, h1, ?_, ?_, ?_, up2_same _ _ _ _⟩ <;> (rw [sJ_21, up2_j _ _ _ _ _ (by decide)]; assumption)
theorem copyFrom_code {μ : Mem} {k k1 : Nat} {P : Pic} (h : CP μ k1 P) (hk : ¬ k1 = k) : ∃ μ', F_X4_copyFrom k k1 μ = rV μ' ∧ CP μ' k P ∧ fr [k] μ μ' := by
  obtain ⟨h0, h1, h2, h3, h4, h5⟩ := h
  refine ⟨sJ (sJ (sJ (sJ (sI (sI μ k 0 (i3 (nR P))) k 1 (i3 (nC P))) k 2 (fX P)) k 3 (fP P)) k 4 (wU P)) k 5 (wV P), ?_, ?_, ?_⟩
  · simp only [F_X4_copyFrom, lt_k, sI_1, sI_2, sJ_1, sJ_21, up2_a, hk, false_and, if_false, h0, h1, h2, h3, h4, h5]
  · refine ⟨?_, ?_, ?_, ?_, ?_, ?_⟩ <;> simp [sI_1, sI_2, sJ_1, sJ_21, up2_a]
  · exact fr_tr (fr_tr (fr_tr (fr_tr (fr_tr (fr_sI (by simp)) (fr_sI (by simp))) (fr_sJ (by simp))) (fr_sJ (by simp))) (fr_sJ (by simp))) (fr_sJ (by simp))
