/-! exchanges of the class -/
theorem loop_upf (L : Nat → Nat → Out) (a N : Nat) (r : Out) (h0 : ∀ n, L (n + 1) N = r) (h1 : ∀ n i, a ≤ i → i < N → L (n + 1) i = L n (i + 1)) : ∀ n i, a ≤ i → i ≤ N → N < n + i → L n i = r := by
  intro n
  induction n with
  | zero => intro i _ h2 h3; omega
  | succ n ih =>
    intro i h4 h2 h3
    by_cases hi : i = N
    · subst hi; exact h0 n
    · rw [h1 n i h4 (by omega)]
      exact ih (i + 1) (by omega) (by omega) (by omega)
def row6 (x : Int64) (r : Nat) : Nat := x.toBitVec.toNat / 2 ^ (8 * r) % 64
theorem row6_bit (x : Int64) (r c : Nat) : (row6 x r).testBit c = (decide (c < 6) && tb x (8 * r + c)) := by
  show (x.toBitVec.toNat / 2 ^ (8 * r) % 2 ^ 6).testBit c = _
  rw [Nat.testBit_mod_two_pow, Nat.testBit_div_two_pow, Nat.add_comm]
  rfl
theorem row6_lt (x : Int64) (r : Nat) : row6 x r < 64 := Nat.mod_lt _ (by decide)
theorem inRow_code (x : Int64) {r : Nat} (hr : r < 8) (μ : Mem) : F_X0_inRow x (i3 r) μ = rI (i3 (row6 x r)) μ := by
  simp only [F_X0_inRow, l3_8, i3_mul]
  rw [show (8 : Int) * (r : Int) = ((8 * r : Nat) : Int) from by push_cast; rfl, low31 _ 6 (by decide) _ (by decide), ushrL_nat _ (by omega)]
  rfl
theorem and3 {a b : Nat} (ha : a < 64) (hb : b < 64) : i3 a &&& i3 b = i3 ((a &&& b : Nat) : Int) := by
  have h : ∀ a b : Fin 64, i3 (a.val : Int) &&& i3 (b.val : Int) = i3 ((a.val &&& b.val : Nat) : Int) := by decide +kernel
  exact h ⟨a, ha⟩ ⟨b, hb⟩
theorem andn3 {a b : Nat} (ha : a < 64) (hb : b < 64) : i3 a &&& (i3 b ^^^ (-1 : Int32)) = i3 ((a &&& (63 ^^^ b) : Nat) : Int) := by
  have h : ∀ a b : Fin 64, i3 (a.val : Int) &&& (i3 (b.val : Int) ^^^ (-1 : Int32)) = i3 ((a.val &&& (63 ^^^ b.val) : Nat) : Int) := by decide +kernel
  exact h ⟨a, ha⟩ ⟨b, hb⟩
theorem and_lt64 {a b : Nat} (ha : a < 64) : a &&& b < 64 := Nat.lt_of_le_of_lt Nat.and_le_left ha
/-- the open columns in which the row r is filled and the row s is not -/
def abv (P : Pic) (r s : Nat) : Nat := ((row6 (fP P ^^^ (-1 : Int64)) r &&& row6 (fP P ^^^ (-1 : Int64)) s) &&& row6 (fX P) r) &&& (63 ^^^ row6 (fX P) s)
theorem abv_lt (P : Pic) (r s : Nat) : abv P r s < 64 := and_lt64 (and_lt64 (and_lt64 (row6_lt _ _)))
theorem b63 : ∀ c : Fin 6, (63 : Nat).testBit c.val = true := by decide
theorem abv_bit (P : Pic) {r s c : Nat} (hr : r < 6) (hs : s < 6) (hc : c < 6) : (abv P r s).testBit c = (!(tb (fP P) (8 * r + c)) && !(tb (fP P) (8 * s + c)) && tb (fX P) (8 * r + c) && !(tb (fX P) (8 * s + c))) := by
  unfold abv
  have h63 := b63 ⟨c, hc⟩
  simp only at h63
  rw [Nat.testBit_and, Nat.testBit_and, Nat.testBit_and, Nat.testBit_xor, row6_bit, row6_bit, row6_bit, row6_bit, tb_not _ (by omega), tb_not _ (by omega), h63]
  simp [hc]
theorem countExchangesOf_code {μ : Mem} {k : Nat} {P : Pic} (h : CP μ k P) {r s : Nat} (hr : r < 6) (hs : s < 6) : F_X4_countExchangesOf k (i3 r) (i3 s) μ = rI (i3 (pi (abv P r s) * pi (abv P s r))) μ := by
  obtain ⟨h0, h1, h2, h3, h4, h5⟩ := h
  simp only [F_X4_countExchangesOf, lt_k, h3, h2, inRow_code _ (show r < 8 by omega), inRow_code _ (show s < 8 by omega), cI_k, and3 (row6_lt _ _) (row6_lt _ _), and3 (and_lt64 (row6_lt _ _)) (row6_lt _ _), andn3 (and_lt64 (and_lt64 (row6_lt _ _))) (row6_lt _ _)]
  have e1 : ((row6 (fP P ^^^ (-1 : Int64)) r &&& row6 (fP P ^^^ (-1 : Int64)) s) &&& row6 (fX P) r) &&& (63 ^^^ row6 (fX P) s) = abv P r s := rfl
  have e2 : ((row6 (fP P ^^^ (-1 : Int64)) r &&& row6 (fP P ^^^ (-1 : Int64)) s) &&& row6 (fX P) s) &&& (63 ^^^ row6 (fX P) r) = abv P s r := by
    unfold abv
    rw [Nat.and_comm (row6 (fP P ^^^ (-1 : Int64)) s)]
  rw [e1, e2, pi_code (abv_lt _ _ _), cI_k, pi_code (abv_lt _ _ _), cI_k, i3_mul]
def of4 (P : Pic) (r s c d : Nat) : Bool := !(tb (fP P) (8 * r + c)) && !(tb (fP P) (8 * r + d)) && !(tb (fP P) (8 * s + c)) && !(tb (fP P) (8 * s + d)) && (tb (fX P) (8 * r + c) == tb (fX P) (8 * s + d)) && (tb (fX P) (8 * r + d) != tb (fX P) (8 * r + c)) && (tb (fX P) (8 * s + c) != tb (fX P) (8 * r + c))
theorem of4_bd {P : Pic} (ok : okP P) {r s c d : Nat} (hs : s < 8) (hr : r < 8) (hd : d < 8) (hc : c < 8) (h : of4 P r s c d = true) : s < nR P ∧ d < nC P := by
  unfold of4 at h
  have o := ok.2.2.2.2.1
  cases h1 : tb (fX P) (8 * r + c)
  · have h2 : tb (fX P) (8 * s + c) = true := by rw [h1] at h; simp at h; exact h.2
    have h3 : tb (fX P) (8 * r + d) = true := by rw [h1] at h; simp at h; exact h.1.2
    exact ⟨(o s c ⟨hs, hc, h2⟩).1, (o r d ⟨hr, hd, h3⟩).2⟩
  · have h2 : tb (fX P) (8 * s + d) = true := by rw [h1] at h; simp at h; exact h.1.1.2
    exact o s d ⟨hs, hd, h2⟩
def exq (P : Pic) (k : Nat) : Bool := decide (k / 216 < k / 36 % 6) && decide (k / 6 % 6 < k % 6) && of4 P (k / 216) (k / 36 % 6) (k / 6 % 6) (k % 6)
/-- how many possible exchanges are ahead of the code n -/
def cex (P : Pic) (n : Nat) : Int := zs n (fun k => b2 (exq P k))
theorem cex_mono (P : Pic) {n m : Nat} (h : n ≤ m) : cex P n ≤ cex P m := by
  obtain ⟨j, rfl⟩ : ∃ j, m = n + j := ⟨m - n, by omega⟩
  unfold cex
  rw [zs_split]
  have := zs_pos (n := j) (f := fun i => b2 (exq P (n + i))) (fun i _ => b2_0 _)
  omega
theorem cex_0 (P : Pic) (n : Nat) : 0 ≤ cex P n := zs_pos (fun i _ => b2_0 _)
theorem cex_le (P : Pic) (n : Nat) : cex P n ≤ n := by
  have := zs_bnd (n := n) (f := fun k => b2 (exq P k)) 1 (fun i _ => b2_1 _)
  unfold cex; omega
theorem cex_flat (P : Pic) {n m : Nat} (h : n ≤ m) (h0 : ∀ k, n ≤ k → k < m → exq P k = false) : cex P m = cex P n := by
  unfold cex
  exact zs_ext0 h (fun k h1 h2 => by rw [h0 k h1 h2]; rfl)
theorem exq_bd {P : Pic} (ok : okP P) {k : Nat} (hk : k < 1296) (h : exq P k = true) : k / 216 < k / 36 % 6 ∧ k / 6 % 6 < k % 6 ∧ k / 36 % 6 < nR P ∧ k % 6 < nC P := by
  unfold exq at h
  rw [Bool.and_eq_true, Bool.and_eq_true, decide_eq_true_eq, decide_eq_true_eq] at h
  have := of4_bd ok (by omega) (by omega) (by omega) (by omega) h.2
  exact ⟨h.1.1, h.1.2, this.1, this.2⟩
theorem exq_no {P : Pic} {k : Nat} (h : ¬ exq P k = true) : exq P k = false := by cases hq : exq P k <;> simp_all
set_option maxRecDepth 10000 in
theorem pairs64 : ∀ A B : Fin 64, A.val &&& B.val = 0 → zs 36 (fun k => b2 (decide (k / 6 < k % 6) && ((A.val.testBit (k / 6) && B.val.testBit (k % 6)) || (B.val.testBit (k / 6) && A.val.testBit (k % 6))))) = pi A.val * pi B.val := by decide +kernel
theorem of4_ab (P : Pic) {r s c d : Nat} (hr : r < 6) (hs : s < 6) (hc : c < 6) (hd : d < 6) : of4 P r s c d = (((abv P r s).testBit c && (abv P s r).testBit d) || ((abv P s r).testBit c && (abv P r s).testBit d)) := by
  rw [abv_bit P hr hs hc, abv_bit P hr hs hd, abv_bit P hs hr hc, abv_bit P hs hr hd]
  unfold of4
  cases tb (fP P) (8 * r + c) <;> cases tb (fP P) (8 * r + d) <;> cases tb (fP P) (8 * s + c) <;> cases tb (fP P) (8 * s + d) <;> cases tb (fX P) (8 * r + c) <;> cases tb (fX P) (8 * r + d) <;> cases tb (fX P) (8 * s + c) <;> cases tb (fX P) (8 * s + d) <;> rfl
theorem cex_block (P : Pic) {r s : Nat} (hrs : r < s) (hs : s < 6) : cex P (216 * r + 36 * s + 36) = cex P (216 * r + 36 * s) + pi (abv P r s) * pi (abv P s r) := by
  unfold cex
  rw [zs_split]
  congr 1
  have hz : abv P r s &&& abv P s r = 0 := by
    apply Nat.eq_of_testBit_eq
    intro c
    rw [Nat.testBit_and, Nat.zero_testBit]
    by_cases hc : c < 6
    · rw [abv_bit P (by omega) hs hc, abv_bit P hs (by omega) hc]
      cases tb (fX P) (8 * r + c) <;> cases tb (fX P) (8 * s + c) <;> simp
    · have : (abv P r s).testBit c = false := Nat.testBit_lt_two_pow (Nat.lt_of_lt_of_le (show _ < 2 ^ 6 from abv_lt P r s) (Nat.pow_le_pow_right (by decide) (by omega)))
      rw [this]; rfl
  have h := pairs64 ⟨_, abv_lt P r s⟩ ⟨_, abv_lt P s r⟩ hz
  simp only at h
  rw [← h]
  apply zs_congr
  intro j hj
  unfold exq
  rw [show (216 * r + 36 * s + j) / 216 = r from by omega, show (216 * r + 36 * s + j) / 36 % 6 = s from by omega, show (216 * r + 36 * s + j) / 6 % 6 = j / 6 from by omega, show (216 * r + 36 * s + j) % 6 = j % 6 from by omega,
    of4_ab P (by omega) hs (by omega) (by omega)]
  simp [hrs]
theorem cex_in (P : Pic) {r : Nat} (hr : r < 6) : cex P (216 * r + 36 * (r + 1)) = cex P (216 * r) := by
  apply cex_flat P (by omega)
  intro k h1 h2
  unfold exq
  rw [show decide (k / 216 < k / 36 % 6) = false from by rw [decide_eq_false_iff_not]; omega]
  rfl
theorem cex_out {P : Pic} (ok : okP P) {r : Nat} (hr : r < 6) : cex P (216 * (r + 1)) = cex P (216 * r + 36 * nR P) := by
  have o1 := ok.2.1
  apply cex_flat P (by omega)
  intro k h1 h2
  apply exq_no
  intro h
  have := exq_bd ok (by omega) h
  omega
theorem cex_end {P : Pic} (ok : okP P) : cex P 1296 = cex P (216 * nR P) := by
  have o1 := ok.2.1
  apply cex_flat P (by omega)
  intro k h1 h2
  apply exq_no
  intro h
  have := exq_bd ok h2 h
  omega
theorem countExchanges_code {μ : Mem} {k : Nat} {P : Pic} (h : CP μ k P) (ok : okP P) : F_X4_countExchanges k μ = rI (i3 (cex P 1296)) μ := by
  have o1 := ok.2.1
  have inner : ∀ r, r < nR P → ∀ k4 : Int32 → Int32 → Mem → Out, f_X4_countExchanges_16 k k4 BIG (i3 (cex P (216 * r))) (i3 r) (i3 ((r + 1 : Nat) : Int)) μ = k4 (i3 (cex P (216 * (r + 1)))) (i3 ((r + 1 : Nat) : Int)) μ := by
    intro r hr k4
    rw [← cex_in P (show r < 6 by omega)]
    refine loop_upf (fun n i => f_X4_countExchanges_16 k k4 n (i3 (cex P (216 * r + 36 * i))) (i3 r) (i3 i) μ) (r + 1) (nR P) _ (fun n => ?_) (fun n i hi0 hi => ?_) BIG (r + 1) (Nat.le_refl _) (by omega) (BIG_lt (by omega))
    · simp only [f_X4_countExchanges_16, h.1, lt_k, inc3]
      rw [if_pos (le3 (by omega)), cex_out ok (by omega)]
    · simp only [f_X4_countExchanges_16, h.1, lt_k, inc3, countExchangesOf_code h (show r < 6 by omega) (show i < 6 by omega), cI_k, i3_add]
      rw [if_neg (nle3 (by omega)), ← cex_block P (by omega) (by omega), show 216 * r + 36 * i + 36 = 216 * r + 36 * (i + 1) from by omega]
  simp only [F_X4_countExchanges]
  rw [cex_end ok]
  refine loop_up (fun n i => f_X4_countExchanges_4 k n (i3 (cex P (216 * i))) (i3 i) μ) (nR P) _ (fun n => ?_) (fun n i hi => ?_) BIG 0 (by omega) (BIG_lt (by omega))
  · simp only [f_X4_countExchanges_4, h.1]
    rw [if_pos (le3 (by omega))]
  · simp only [f_X4_countExchanges_4, h.1, lt_k, inc3]
    rw [if_neg (nle3 (by omega)), inner i hi]
def crn (r s c d : Nat) : Int64 := ((bv (8 * r + c) ||| bv (8 * r + d)) ||| bv (8 * s + c)) ||| bv (8 * s + d)
theorem corners_code (r s c d : Nat) (μ : Mem) : F_X0_corners (i3 r) (i3 s) (i3 c) (i3 d) μ = rJ (crn r s c d) μ := by
  simp only [F_X0_corners, bit_code, cJ_k]; rfl
theorem zc_crn {r s c d : Nat} (hr : r < 8) (hs : s < 8) (hc : c < 8) (hd : d < 8) (a b : Nat) : zc (crn r s c d) a b ↔ (a = r ∨ a = s) ∧ (b = c ∨ b = d) := by
  unfold crn
  rw [zc_or, zc_or, zc_or, zc_bv (by omega), zc_bv (by omega), zc_bv (by omega), zc_bv (by omega)]
  omega
theorem canExchange_code {μ : Mem} {k : Nat} {P : Pic} (h : CP μ k P) {r s c d : Nat} (hr : r < 8) (hs : s < 8) (hc : c < 8) (hd : d < 8) (hrs : ¬ r = s) (hcd : ¬ c = d) : F_X4_canExchange k (i3 r) (i3 s) (i3 c) (i3 d) μ = rI (i3 (b2 (of4 P r s c d))) μ := by
  obtain ⟨h0, h1, h2, h3, h4, h5⟩ := h
  simp only [F_X4_canExchange, corners_code, bit_code, cJ_k, lt_k, h2, h3, zcmp_eq]
  have two : ∀ a b a' b' : Nat, a < 8 → b < 8 → a' < 8 → b' < 8 → ∀ x y, zc (bv (8 * a + b) ||| bv (8 * a' + b')) x y ↔ (x = a ∧ y = b) ∨ (x = a' ∧ y = b') := by
    intro a b a' b' q1 q2 q3 q4 x y
    rw [zc_or, zc_bv (by omega), zc_bv (by omega)]; omega
  have pin0 : (fP P &&& crn r s c d = 0) ↔ (¬ zc (fP P) r c ∧ ¬ zc (fP P) r d ∧ ¬ zc (fP P) s c ∧ ¬ zc (fP P) s d) := by
    rw [zc_eq_zero]
    constructor
    · intro q
      refine ⟨fun z => q r c ?_, fun z => q r d ?_, fun z => q s c ?_, fun z => q s d ?_⟩ <;> (rw [zc_and, zc_crn hr hs hc hd]; exact ⟨z, by omega⟩)
    · rintro ⟨q1, q2, q3, q4⟩ a b q
      rw [zc_and, zc_crn hr hs hc hd] at q
      obtain ⟨z, e1 | e1, e2 | e2⟩ := q <;> (subst e1 e2; contradiction)
  have eqA : (fX P &&& crn r s c d = bv (8 * r + c) ||| bv (8 * s + d)) ↔ (zc (fX P) r c ∧ zc (fX P) s d ∧ ¬ zc (fX P) r d ∧ ¬ zc (fX P) s c) := by
    constructor
    · intro q
      have g : ∀ a b, zc (fX P &&& crn r s c d) a b ↔ (a = r ∧ b = c) ∨ (a = s ∧ b = d) := fun a b => by rw [q]; exact two r c s d hr hc hs hd a b
      refine ⟨((zc_and _ _ _ _).mp ((g r c).mpr (Or.inl ⟨rfl, rfl⟩))).1, ((zc_and _ _ _ _).mp ((g s d).mpr (Or.inr ⟨rfl, rfl⟩))).1, fun z => ?_, fun z => ?_⟩
      · have := (g r d).mp ((zc_and _ _ _ _).mpr ⟨z, (zc_crn hr hs hc hd _ _).mpr (by omega)⟩)
        omega
      · have := (g s c).mp ((zc_and _ _ _ _).mpr ⟨z, (zc_crn hr hs hc hd _ _).mpr (by omega)⟩)
        omega
    · rintro ⟨q1, q2, q3, q4⟩
      apply zc_ext
      intro a b
      rw [zc_and, zc_crn hr hs hc hd, two r c s d hr hc hs hd]
      constructor
      · rintro ⟨z, e1 | e1, e2 | e2⟩ <;> subst e1 e2
        · exact Or.inl ⟨rfl, rfl⟩
        · exact absurd z q3
        · exact absurd z q4
        · exact Or.inr ⟨rfl, rfl⟩
      · rintro (⟨e1, e2⟩ | ⟨e1, e2⟩) <;> subst e1 e2
        · exact ⟨q1, by omega⟩
        · exact ⟨q2, by omega⟩
  have eqB : (fX P &&& crn r s c d = bv (8 * r + d) ||| bv (8 * s + c)) ↔ (zc (fX P) r d ∧ zc (fX P) s c ∧ ¬ zc (fX P) r c ∧ ¬ zc (fX P) s d) := by
    constructor
    · intro q
      have g : ∀ a b, zc (fX P &&& crn r s c d) a b ↔ (a = r ∧ b = d) ∨ (a = s ∧ b = c) := fun a b => by rw [q]; exact two r d s c hr hd hs hc a b
      refine ⟨((zc_and _ _ _ _).mp ((g r d).mpr (Or.inl ⟨rfl, rfl⟩))).1, ((zc_and _ _ _ _).mp ((g s c).mpr (Or.inr ⟨rfl, rfl⟩))).1, fun z => ?_, fun z => ?_⟩
      · have := (g r c).mp ((zc_and _ _ _ _).mpr ⟨z, (zc_crn hr hs hc hd _ _).mpr (by omega)⟩)
        omega
      · have := (g s d).mp ((zc_and _ _ _ _).mpr ⟨z, (zc_crn hr hs hc hd _ _).mpr (by omega)⟩)
        omega
    · rintro ⟨q1, q2, q3, q4⟩
      apply zc_ext
      intro a b
      rw [zc_and, zc_crn hr hs hc hd, two r d s c hr hd hs hc]
      constructor
      · rintro ⟨z, e1 | e1, e2 | e2⟩ <;> subst e1 e2
        · exact absurd z q3
        · exact Or.inl ⟨rfl, rfl⟩
        · exact Or.inr ⟨rfl, rfl⟩
        · exact absurd z q4
      · rintro (⟨e1, e2⟩ | ⟨e1, e2⟩) <;> subst e1 e2
        · exact ⟨q1, by omega⟩
        · exact ⟨q2, by omega⟩
  simp only [pin0, eqA, eqB, ← tb_iff hr hc, ← tb_iff hr hd, ← tb_iff hs hc, ← tb_iff hs hd, l3_0, l3_1]
  unfold of4
  cases tb (fP P) (8 * r + c) <;> cases tb (fP P) (8 * r + d) <;> cases tb (fP P) (8 * s + c) <;> cases tb (fP P) (8 * s + d) <;> cases tb (fX P) (8 * r + c) <;> cases tb (fX P) (8 * r + d) <;> cases tb (fX P) (8 * s + c) <;> cases tb (fX P) (8 * s + d) <;> simp [b2]
