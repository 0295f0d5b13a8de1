theorem mOf4 {μ : Mem} {P : Pic} (h : MN μ P) {r s c d : Nat} (hr : r < 6) (hs : s < 6) (hc : c < 6) (hd : d < 6) : F_X8_isOfFour (i3 r) (i3 s) (i3 c) (i3 d) μ = rI (i3 (b2 (of4 P r s c d))) μ := by
  simp only [F_X8_isOfFour, f_X8_isOfFour_43, mPinned h hr hc, mPinned h hr hd, mPinned h hs hc, mPinned h hs hd, mFilled h hr hc, mFilled h hr hd, mFilled h hs hc, mFilled h hs hd, cI_k, l3_0, l3_1]
  unfold of4
  have h10 : ¬ (i3 1 = i3 0) := by decide
  have h01 : ¬ (i3 0 = i3 1) := by decide
  cases tb (fP P) (8 * r + c) <;> cases tb (fP P) (8 * r + d) <;> cases tb (fP P) (8 * s + c) <;> cases tb (fP P) (8 * s + d) <;> cases tb (fX P) (8 * r + c) <;> cases tb (fX P) (8 * r + d) <;> cases tb (fX P) (8 * s + c) <;> cases tb (fX P) (8 * s + d) <;> simp [b2, h10, h01]
theorem mExStep {μ : Mem} {P : Pic} (h : MN μ P) (ok : okP P) {k : Nat} (hk : k < 1296) {i : Int} (hi : -2147483648 ≤ i ∧ i < 2147483648) (n : Nat) :
    f_X8_exchangeOf_4 (n + 1) (i3 i) (i3 (cex P k)) (i3 k) μ = if exq P k = true then (if cex P k = i then rI (i3 (tol k)) μ else f_X8_exchangeOf_4 n (i3 i) (i3 (cex P (k + 1))) (i3 ((k + 1 : Nat) : Int)) μ) else f_X8_exchangeOf_4 n (i3 i) (i3 (cex P (k + 1))) (i3 ((k + 1 : Nat) : Int)) μ := by
  have o1 := ok.2.1
  have o2 := ok.2.2.2.1
  have c0 := cex_0 P k
  have c1 := cex_le P k
  have hst := cex_s P k
  have e1 : i3 (k : Int) / (216 : Int32) = i3 ((k / 216 : Nat) : Int) := by
    rw [l3_216, i3_div (by omega) (by decide)]; congr 1
  have e2 : remI (i3 (k : Int) / (36 : Int32)) (6 : Int32) = i3 ((k / 36 % 6 : Nat) : Int) := by
    rw [l3_36, l3_6, i3_div (by omega) (by decide), i3_rem (by omega) (by decide)]; congr 1
  have e3 : remI (i3 (k : Int) / (6 : Int32)) (6 : Int32) = i3 ((k / 6 % 6 : Nat) : Int) := by
    rw [l3_6, i3_div (by omega) (by decide), i3_rem (by omega) (by decide)]; congr 1
  have e4 : remI (i3 (k : Int)) (6 : Int32) = i3 ((k % 6 : Nat) : Int) := by
    rw [l3_6, i3_rem (by omega) (by decide)]; congr 1
  have e6 : ¬ (1296 : Int32) ≤ i3 (k : Int) := by rw [l3_1296]; exact nle3 (by omega)
  simp only [f_X8_exchangeOf_4, e1, e2, e3, e4, lt_k, rows_code h, cols_code h, cI_k, if_neg e6, mOf4 h (show k / 216 < 6 by omega) (show k / 36 % 6 < 6 by omega) (show k / 6 % 6 < 6 by omega) (show k % 6 < 6 by omega), inc3]
  have no : exq P k = false → (if exq P k = true then (if cex P k = i then rI (i3 (tol k)) μ else f_X8_exchangeOf_4 n (i3 i) (i3 (cex P (k + 1))) (i3 ((k + 1 : Nat) : Int)) μ) else f_X8_exchangeOf_4 n (i3 i) (i3 (cex P (k + 1))) (i3 ((k + 1 : Nat) : Int)) μ) = f_X8_exchangeOf_4 n (i3 i) (i3 (cex P k)) (i3 ((k + 1 : Nat) : Int)) μ := by
    intro q
    rw [q, b2_f, Int.add_zero] at hst
    rw [if_neg (by rw [q]; decide), hst]
  by_cases a1 : k / 36 % 6 ≤ k / 216
  · rw [if_pos (le3 (by omega)), no (by unfold exq; simp; omega)]
  · rw [if_neg (nle3 (by omega))]
    by_cases a2 : k % 6 ≤ k / 6 % 6
    · rw [if_pos (le3 (by omega)), no (by unfold exq; simp; omega)]
    · rw [if_neg (nle3 (by omega))]
      have ex : exq P k = of4 P (k / 216) (k / 36 % 6) (k / 6 % 6) (k % 6) := by
        unfold exq; rw [decide_eq_true (by omega), decide_eq_true (by omega)]; simp
      by_cases a3 : nR P ≤ k / 36 % 6
      · rw [if_pos (le3 (by omega)), no (exq_no (fun q => by have := exq_bd ok hk q; omega))]
      · rw [if_neg (nle3 (by omega))]
        by_cases a4 : nC P ≤ k % 6
        · rw [if_pos (le3 (by omega)), no (exq_no (fun q => by have := exq_bd ok hk q; omega))]
        · rw [if_neg (nle3 (by omega))]
          cases hof : of4 P (k / 216) (k / 36 % 6) (k / 6 % 6) (k % 6)
          · rw [if_pos (by decide), no (by rw [ex]; exact hof)]
          · rw [if_neg (by decide)]
            rw [ex, hof, b2_t] at hst
            have hexq : exq P k = true := by rw [ex]; exact hof
            rw [if_pos hexq, hst]
            by_cases a5 : cex P k = i
            · rw [if_pos (show i3 (cex P k) = i3 i by rw [a5]), if_pos a5]
              unfold tol
              simp only [l3_1000, l3_100, l3_10, i3_mul, i3_add]
            · rw [if_neg (show ¬ i3 (cex P k) = i3 i from ne3 (by omega)), if_neg a5, l3_1, i3_add]
theorem mExCount {μ : Mem} {P : Pic} (h : MN μ P) (ok : okP P) : F_X8_exchangeOf (-9 : Int32) μ = rI (i3 (cex P 1296)) μ := by
  simp only [F_X8_exchangeOf, l3_m9]
  refine loop_up (fun n k => f_X8_exchangeOf_4 n (i3 (-9)) (i3 (cex P k)) (i3 k) μ) 1296 _ (fun n => ?_) (fun n k hk => ?_) BIG 0 (by decide) (BIG_lt (by decide))
  · simp only [f_X8_exchangeOf_4, l3_1296, l3_m9]
    rw [if_pos (le3 (by omega))]; simp only [if_true]
  · have c0 := cex_0 P k
    rw [mExStep h ok hk (by decide)]
    by_cases q : exq P k = true
    · rw [if_pos q, if_neg (by omega)]
    · rw [if_neg q]
theorem mExAt {μ : Mem} {P : Pic} (h : MN μ P) (ok : okP P) {i : Int} (hi : 0 ≤ i ∧ i < 2147483648) : ∃ v, F_X8_exchangeOf (i3 i) μ = rI (i3 v) μ ∧ isEx P i v := by
  simp only [F_X8_exchangeOf]
  refine loop_st (σ := Unit) (fun n k _ => f_X8_exchangeOf_4 n (i3 i) (i3 (cex P k)) (i3 k) μ) (fun k _ => cex P k ≤ i) (fun o => ∃ v, o = rI (i3 v) μ ∧ isEx P i v) 1296 ?_ ?_ BIG 0 () (by decide) (BIG_lt (by decide)) hi.1
  · rintro n - q
    simp only [f_X8_exchangeOf_4, l3_1296, l3_m9]
    rw [if_pos (le3 (by omega)), if_neg (ne3 (by omega))]
    exact ⟨-9, rfl, Or.inr ⟨q, rfl⟩⟩
  · rintro n k - hk q
    rw [mExStep h ok hk (by omega)]
    have hst := cex_s P k
    by_cases e : exq P k = true
    · rw [if_pos e]
      rw [e, b2_t] at hst
      by_cases e2 : cex P k = i
      · right; rw [if_pos e2]; exact ⟨_, rfl, Or.inl ⟨k, hk, e, e2, rfl⟩⟩
      · left; rw [if_neg e2]; exact ⟨(), by omega, rfl⟩
    · left
      rw [if_neg e]
      rw [exq_no e, b2_f] at hst
      exact ⟨(), by omega, rfl⟩
theorem mWants {μ : Mem} {P : Pic} (h : MN μ P) (ok : okP P) {a b : Nat} (hab : a ≤ b) (hb : b ≤ nR P + nC P) : F_X8_wantsOf (i3 a) (i3 b) μ = rI (i3 (zs b (fun l => (wnt P l : Int)) - zs a (fun l => (wnt P l : Int)))) μ := by
  have o1 := ok.2.1
  have o2 := ok.2.2.2.1
  simp only [F_X8_wantsOf]
  rw [show (0 : Int32) = i3 (zs a (fun l => (wnt P l : Int)) - zs a (fun l => (wnt P l : Int))) from by rw [Int.sub_self, l3_0]]
  refine loop_upf (fun n i => f_X8_wantsOf_5 n (i3 b) (i3 (zs i (fun l => (wnt P l : Int)) - zs a (fun l => (wnt P l : Int)))) (i3 i) μ) a b _ (fun n => ?_) (fun n i h1 h2 => ?_) BIG a (Nat.le_refl _) hab (BIG_lt (by omega))
  · simp only [f_X8_wantsOf_5]
    rw [if_pos (le3 (by omega))]
  · obtain ⟨x, x1, x2, -, x3⟩ := mWantAt h ok (show i < nR P + nC P by omega)
    simp only [f_X8_wantsOf_5, x1, cI_k, clampN (show x < 2147483648 by omega), x3, lt_k, inc3, i3_add]
    rw [if_neg (nle3 (by omega)), ck_k (i3_in (by omega) (by decide)), zs_s, show zs i (fun l => (wnt P l : Int)) - zs a (fun l => (wnt P l : Int)) + (wnt P i : Int) = zs i (fun l => (wnt P l : Int)) + (wnt P i : Int) - zs a (fun l => (wnt P l : Int)) from by omega]
theorem wnt_rows {P : Pic} (ok : okP P) : zs (nR P) (fun l => (wnt P l : Int)) = zs 6 (fun i => (dgn (wU P) i : Int)) := by
  have o1 := ok.2.1
  rw [zs_ext0 (n := nR P) (m := 6) o1 (fun i h1 h2 => by rw [(ok.2.2.2.2.2.2.1 i h2).2 h1]; rfl)]
  apply zs_congr; intro i hi
  unfold wnt; rw [if_neg (by omega)]
theorem wnt_cols {P : Pic} (ok : okP P) : zs (nR P + nC P) (fun l => (wnt P l : Int)) - zs (nR P) (fun l => (wnt P l : Int)) = zs 6 (fun i => (dgn (wV P) i : Int)) := by
  have o2 := ok.2.2.2.1
  rw [zs_split, zs_ext0 (n := nC P) (m := 6) o2 (fun i h1 h2 => by rw [(ok.2.2.2.2.2.2.2 i h2).2 h1]; rfl)]
  have : zs (nC P) (fun i => (wnt P (nR P + i) : Int)) = zs (nC P) (fun i => (dgn (wV P) i : Int)) := by
    apply zs_congr; intro i hi
    unfold wnt; rw [if_pos (by omega), show nR P + i - nR P = i from by omega]
  omega
/-! pins of a line -/
theorem mPins {μ : Mem} {P : Pic} (h : MN μ P) (ok : okP P) {l : Nat} (hl : l < nR P + nC P) (b : Bool) : F_X8_pinsOf (i3 l) (i3 (b2 b)) μ = rI (i3 (cnt (nR P) (if b then fP P &&& fX P else fP P &&& (fX P ^^^ (-1 : Int64))) l)) μ := by
  have h6 := len6 ok l
  have hb : ∀ r c, zc (if b then fP P &&& fX P else fP P &&& (fX P ^^^ (-1 : Int64))) r c → r < nR P ∧ c < nC P := by
    intro r c q
    cases b
    · exact ok.2.2.2.2.2.1 r c ((zc_rem r c).mp q).1
    · exact ok.2.2.2.2.2.1 r c ((zc_and _ _ _ _).mp q).1
  simp only [F_X8_pinsOf]
  rw [← lin_sum ok hb hl, show (0 : Int32) = i3 (zs 0 (fun i => b2 (tb (if b then fP P &&& fX P else fP P &&& (fX P ^^^ (-1 : Int64))) (8 * rowL P l i + colL P l i)))) from l3_0]
  have e0 : i3 (zs 0 (fun i => b2 (tb (if b then fP P &&& fX P else fP P &&& (fX P ^^^ (-1 : Int64))) (8 * rowL P l i + colL P l i)))) = i3 ((0 : Nat) : Int) := rfl
  refine loop_up (fun n i => f_X8_pinsOf_5 n (i3 l) (i3 (b2 b)) (i3 (zs i (fun i => b2 (tb (if b then fP P &&& fX P else fP P &&& (fX P ^^^ (-1 : Int64))) (8 * rowL P l i + colL P l i))))) (i3 i) μ) (lenL P l) _ (fun n => ?_) (fun n i hi => ?_) BIG 0 (by omega) (BIG_lt (by omega))
  · simp only [f_X8_pinsOf_5, mLen h ok hl, cI_k]
    rw [if_pos (le3 (by omega))]
  · have hbd := lin_bd ok hl hi
    have o1 := ok.2.1
    have o2 := ok.2.2.2.1
    simp only [f_X8_pinsOf_5, mLen h ok hl, mRow h ok hl i, mCol h ok hl i, cI_k, mFilled h (show rowL P l i < 6 by omega) (show colL P l i < 6 by omega), mPinned h (show rowL P l i < 6 by omega) (show colL P l i < 6 by omega), lt_k, inc3, l3_0, i3_add]
    rw [if_neg (nle3 (by omega)), zs_s, l3_1, i3_add, Int.add_zero]
    have e : tb (if b then fP P &&& fX P else fP P &&& (fX P ^^^ (-1 : Int64))) (8 * rowL P l i + colL P l i) = (tb (fP P) (8 * rowL P l i + colL P l i) && (tb (fX P) (8 * rowL P l i + colL P l i) == b)) := by
      cases b
      · rw [if_neg (by decide), tb_and, tb_not _ (by omega)]; cases tb (fX P) (8 * rowL P l i + colL P l i) <;> simp
      · rw [if_pos rfl, tb_and]; cases tb (fX P) (8 * rowL P l i + colL P l i) <;> simp
    rw [e]
    have h10 : ¬ (i3 1 = i3 0) := by decide
    have h01 : ¬ (i3 0 = i3 1) := by decide
    cases tb (fP P) (8 * rowL P l i + colL P l i) <;> cases tb (fX P) (8 * rowL P l i + colL P l i) <;> cases b <;> simp [b2, h10, h01]
theorem cnt_pins {P : Pic} (l : Nat) : cnt (nR P) (fP P &&& fX P) l + cnt (nR P) (fP P &&& (fX P ^^^ (-1 : Int64))) l = cnt (nR P) (fP P) l ∨ ¬ (l < nR P + nC P ∧ nR P ≤ 6 ∧ nC P ≤ 6) := by
  by_cases hb : l < nR P + nC P ∧ nR P ≤ 6 ∧ nC P ≤ 6
  · left
    have pt : ∀ i, i < 64 → b2 (tb (fP P &&& fX P) i) + b2 (tb (fP P &&& (fX P ^^^ (-1 : Int64))) i) = b2 (tb (fP P) i) := by
      intro i hi
      rw [tb_and, tb_and, tb_not _ hi]
      cases tb (fP P) i <;> cases tb (fX P) i <;> decide
    unfold cnt
    by_cases q : nR P ≤ l
    · rw [if_pos q, if_pos q, if_pos q]
      unfold cct
      rw [← zs_add]
      exact zs_congr (fun r hr => pt _ (by omega))
    · rw [if_neg q, if_neg q, if_neg q]
      unfold rct
      rw [← zs_add]
      exact zs_congr (fun r hr => pt _ (by omega))
  · exact Or.inr hb
/-! runs of a line -/
theorem rn_s (g : Nat → Bool) (i : Nat) : rn g (i + 1) = if g i then rn g i + 1 else 0 := rfl
theorem nrn_step (g : Nat → Bool) (i : Nat) : nrn g (i + 1) = nrn g i + (if rn g (i + 1) = 1 then 1 else 0) := by
  unfold nrn
  rw [zs_s]
  congr 1
  rw [rn_s]
  cases hg : g i
  · simp [b2]
  · cases i with
    | zero => simp [b2, rn]
    | succ i =>
      rw [rn_s]
      cases hg2 : g i
      · simp [b2, hg2]
      · simp [b2, hg2]
theorem mRuns {μ : Mem} {P : Pic} (h : MN μ P) (ok : okP P) {l : Nat} (hl : l < nR P + nC P) (b : Bool) : F_X8_runsOf (i3 l) (i3 (b2 b)) μ =
    rI (i3 (if b then (mrn (fun i => tb (fX P) (8 * rowL P l i + colL P l i)) (lenL P l) : Int) else nrn (fun i => tb (fX P) (8 * rowL P l i + colL P l i)) (lenL P l))) μ := by
  have h6 := len6 ok l
  generalize hg : (fun i => tb (fX P) (8 * rowL P l i + colL P l i)) = g
  simp only [F_X8_runsOf]
  have st : f_X8_runsOf_11 BIG (i3 l) (i3 (b2 b)) (0 : Int32) (0 : Int32) (0 : Int32) (0 : Int32) μ = f_X8_runsOf_11 BIG (i3 l) (i3 (b2 b)) (i3 (nrn g 0)) (i3 (mrn g 0)) (i3 (rn g 0)) (i3 ((0 : Nat) : Int)) μ := by
    have : (0 : Int32) = i3 0 := l3_0
    rw [this]; exact nr rfl
  rw [st]
  refine loop_up (fun n i => f_X8_runsOf_11 n (i3 l) (i3 (b2 b)) (i3 (nrn g i)) (i3 (mrn g i)) (i3 (rn g i)) (i3 i) μ) (lenL P l) _ (fun n => ?_) (fun n i hi => ?_) BIG 0 (by omega) (BIG_lt (by omega))
  · simp only [f_X8_runsOf_11, mLen h ok hl, cI_k, l3_0]
    rw [if_pos (le3 (by omega))]
    cases b
    · rw [if_pos (by decide)]; rfl
    · rw [if_neg (by decide)]; rfl
  · have hbd := lin_bd ok hl hi
    have o1 := ok.2.1
    have o2 := ok.2.2.2.1
    have hgi : tb (fX P) (8 * rowL P l i + colL P l i) = g i := by rw [← hg]
    have r1 := rn_le g (i + 1)
    have r0 := rn_le g i
    have m0 := mrn_le g i
    have hm : mrn g (i + 1) = max (mrn g i) (rn g (i + 1)) := rfl
    have core : ∀ x : Nat, x = rn g (i + 1) → f_X8_runsOf_50 (f_X8_runsOf_11 n) (i3 l) (i3 (b2 b)) (i3 (nrn g i)) (i3 (mrn g i)) (i3 i) (i3 x) μ = f_X8_runsOf_11 n (i3 l) (i3 (b2 b)) (i3 (nrn g (i + 1))) (i3 (mrn g (i + 1))) (i3 (rn g (i + 1))) (i3 ((i + 1 : Nat) : Int)) μ := by
      intro x hx
      subst hx
      simp only [f_X8_runsOf_50, f_X8_runsOf_64, lt_k, inc3]
      rw [nrn_step, hm, l3_0, l3_1, i3_add, i3_add]
      have fin : ∀ q : Int, (if i3 (rn g (i + 1) : Int) ≤ i3 (mrn g i : Int) then f_X8_runsOf_11 n (i3 l) (i3 (b2 b)) (i3 q) (i3 (mrn g i)) (i3 (rn g (i + 1))) (i3 ((i + 1 : Nat) : Int)) μ else f_X8_runsOf_11 n (i3 l) (i3 (b2 b)) (i3 q) (i3 (rn g (i + 1))) (i3 (rn g (i + 1))) (i3 ((i + 1 : Nat) : Int)) μ) = f_X8_runsOf_11 n (i3 l) (i3 (b2 b)) (i3 q) (i3 ((max (mrn g i) (rn g (i + 1)) : Nat) : Int)) (i3 (rn g (i + 1))) (i3 ((i + 1 : Nat) : Int)) μ := by
        intro q
        by_cases hle : rn g (i + 1) ≤ mrn g i
        · rw [if_pos (le3 (by omega)), Nat.max_eq_left hle]
        · rw [if_neg (nle3 (by omega)), Nat.max_eq_right (by omega)]
      rw [fin, fin]
      by_cases e : rn g (i + 1) = 1
      · rw [if_pos (by rw [e]; rfl), if_pos e]
      · rw [if_neg (ne3 (by omega)), if_neg e]
    simp only [f_X8_runsOf_11, mLen h ok hl, mRow h ok hl i, mCol h ok hl i, cI_k, mFilled h (show rowL P l i < 6 by omega) (show colL P l i < 6 by omega), hgi]
    rw [if_neg (nle3 (by omega))]
    cases hq : g i
    · rw [if_pos (by decide), show (0 : Int32) = i3 ((0 : Nat) : Int) from l3_0]
      exact core 0 (by rw [rn_s, hq]; rfl)
    · rw [if_neg (by decide), inc3]
      exact core (rn g i + 1) (by rw [rn_s, hq]; rfl)
theorem runs_ext {g : Nat → Bool} {n : Nat} (hn : n ≤ 6) (h : ∀ i, n ≤ i → i < 6 → g i = false) : nrn g 6 = nrn g n ∧ mrn g 6 = mrn g n := by
  constructor
  · exact zs_ext0 hn (fun i h1 h2 => by rw [h i h1 h2]; rfl)
  · have : ∀ m, n ≤ m → m ≤ 6 → mrn g m = mrn g n := by
      intro m
      induction m with
      | zero => intro h1 _; rw [show n = 0 from by omega]
      | succ m ih =>
        intro h1 h2
        by_cases e : n = m + 1
        · rw [e]
        · have : mrn g (m + 1) = max (mrn g m) (rn g (m + 1)) := rfl
          rw [this, rn_s, h m (by omega) (by omega), ih (by omega) (by omega)]
          simp
    exact this 6 hn (Nat.le_refl _)
