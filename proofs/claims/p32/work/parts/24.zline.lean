theorem b2_and (x y : Bool) : b2 (x && !y) = b2 x * (1 - b2 y) := by cases x <;> cases y <;> decide
theorem brd_rem {x y : Int64} (h : brd x) : brd (x &&& (y ^^^ (-1 : Int64))) := brd_sub h (fun r c q => ((zc_rem r c).mp q).1)
/-- how many sides of a cell have no filled cell behind them -/
def osd (b : Int64) (r c : Nat) : Int := (1 - b2 (decide (1 ≤ c) && tb b (8 * r + c - 1))) + (1 - b2 (tb b (8 * r + c + 1))) + (1 - b2 (decide (1 ≤ r) && tb b (8 * r + c - 8))) + (1 - b2 (tb b (8 * r + c + 8)))
def outl (a b : Int64) : Int := z2 (fun r c => b2 (tb a (8 * r + c)) * osd b r c)
theorem tb_shl1 {b : Int64} (hb : brd b) {r c : Nat} (hr : r < 6) (hc : c < 6) : tb (shlL b (1 : Int32)) (8 * r + c) = (decide (1 ≤ c) && tb b (8 * r + c - 1)) := by
  rw [show (1 : Int32) = i3 ((1 : Nat) : Int) from l3_1, tb_shl b (by decide)]
  by_cases h1 : 1 ≤ c
  · simp [h1, show 8 * r + c < 64 from by omega, show 1 ≤ 8 * r + c from by omega]
  · have hc0 : c = 0 := by omega
    subst hc0
    by_cases h2 : 1 ≤ 8 * r + 0
    · have h3 : tb b (8 * r + 0 - 1) = false := by
        cases ht : tb b (8 * r + 0 - 1) with
        | false => rfl
        | true => have := hb _ (by omega) ht; omega
      simp only [h3, Bool.and_false]
    · have h3 : 8 * r + 0 = 0 := by omega
      rw [h3]; simp
theorem tb_shr1 (b : Int64) (i : Nat) : tb (ushrL b (1 : Int32)) i = tb b (i + 1) := by
  rw [show (1 : Int32) = i3 ((1 : Nat) : Int) from l3_1, tb_ushr b (by decide)]
theorem tb_shr8 (b : Int64) (i : Nat) : tb (ushrL b (8 : Int32)) i = tb b (i + 8) := by
  rw [show (8 : Int32) = i3 ((8 : Nat) : Int) from l3_8, tb_ushr b (by decide)]
theorem tb_shl8 (b : Int64) {r c : Nat} (hr : r < 6) (hc : c < 6) : tb (shlL b (8 : Int32)) (8 * r + c) = (decide (1 ≤ r) && tb b (8 * r + c - 8)) := by
  rw [show (8 : Int32) = i3 ((8 : Nat) : Int) from l3_8, tb_shl b (by decide)]
  by_cases h1 : 1 ≤ r
  · simp [h1, show 8 * r + c < 64 from by omega, show 8 ≤ 8 * r + c from by omega]
  · have : ¬ 8 ≤ 8 * r + c := by omega
    simp [h1, this]
theorem pc_rem {a s : Int64} (ha : brd a) (k : Nat → Nat → Bool) (h : ∀ r c, r < 6 → c < 6 → tb s (8 * r + c) = k r c) : pc (a &&& (s ^^^ (-1 : Int64))) = z2 (fun r c => b2 (tb a (8 * r + c)) * (1 - b2 (k r c))) := by
  rw [pc_z2 (brd_rem ha)]
  apply z2_congr
  intro r c hr hc
  rw [tb_and, tb_not _ (by omega), h r c hr hc, b2_and]
theorem outline_code {a b : Int64} (ha : brd a) (hb : brd b) (μ : Mem) : F_X0_outline a b μ = rI (i3 (outl a b)) μ := by
  simp only [F_X0_outline, pc_code, cI_k, i3_add]
  rw [pc_rem ha _ (fun r c hr hc => tb_shl1 hb hr hc), pc_rem ha _ (fun r c hr hc => tb_shr1 b _), pc_rem ha _ (fun r c hr hc => tb_shl8 b hr hc), pc_rem ha _ (fun r c hr hc => tb_shr8 b _)]
  simp only [← z2_add]
  unfold outl
  have e : ∀ p q : Int, p = q → rI (i3 p) μ = rI (i3 q) μ := fun p q h => by rw [h]
  apply e
  apply z2_congr
  intro r c _ _
  unfold osd
  simp only [Int.mul_add]
noncomputable def ib (p : Prop) : Int := @ite _ p (Classical.propDecidable p) 1 0
theorem ib_t {p : Prop} (h : p) : ib p = 1 := @if_pos p (Classical.propDecidable p) h Int 1 0
theorem ib_f {p : Prop} (h : ¬ p) : ib p = 0 := @if_neg p (Classical.propDecidable p) h Int 1 0
theorem oneIf_0 (μ : Mem) : F_X7_oneIf (0 : Int32) μ = rI (i3 0) μ := by unfold F_X7_oneIf; rw [if_pos rfl, l3_0]
theorem oneIf_1 (μ : Mem) : F_X7_oneIf (1 : Int32) μ = rI (i3 1) μ := by simp only [F_X7_oneIf]; rw [if_neg (by decide), l3_1]
theorem zc_rowMask {k : Nat} (hk : k < 6) (r c : Nat) : zc (shlL (63 : Int64) ((8 : Int32) * i3 k)) r c ↔ r = k ∧ c < 6 := by
  have h : ∀ (k : Fin 6) (i : Fin 64), tb (shlL (63 : Int64) ((8 : Int32) * i3 k.val)) i.val = (decide (i.val / 8 = k.val) && decide (i.val % 8 < 6)) := by decide +kernel
  constructor
  · rintro ⟨a, b, d⟩
    have := h ⟨k, hk⟩ ⟨8 * r + c, by omega⟩
    simp only at this
    rw [this, Bool.and_eq_true, decide_eq_true_eq, decide_eq_true_eq] at d
    omega
  · rintro ⟨a, b⟩
    refine ⟨by omega, by omega, ?_⟩
    have := h ⟨k, hk⟩ ⟨8 * r + c, by omega⟩
    simp only at this
    rw [this, Bool.and_eq_true, decide_eq_true_eq, decide_eq_true_eq]
    omega
theorem zc_colMask {k : Nat} (hk : k < 6) (r c : Nat) : zc (shlL (1103823438081 : Int64) (i3 k)) r c ↔ r < 6 ∧ c = k := by
  have h : ∀ (k : Fin 6) (i : Fin 64), tb (shlL (1103823438081 : Int64) (i3 k.val)) i.val = (decide (i.val / 8 < 6) && decide (i.val % 8 = k.val)) := by decide +kernel
  constructor
  · rintro ⟨a, b, d⟩
    have := h ⟨k, hk⟩ ⟨8 * r + c, by omega⟩
    simp only at this
    rw [this, Bool.and_eq_true, decide_eq_true_eq, decide_eq_true_eq] at d
    omega
  · rintro ⟨a, b⟩
    refine ⟨by omega, by omega, ?_⟩
    have := h ⟨k, hk⟩ ⟨8 * r + c, by omega⟩
    simp only at this
    rw [this, Bool.and_eq_true, decide_eq_true_eq, decide_eq_true_eq]
    omega
theorem countRowsOf_code {x : Int64} (hx : brd x) (μ : Mem) : F_X0_countRowsOf x μ = rI (i3 (zs 6 (fun r => ib (∃ c, zc x r c)))) μ := by
  simp only [F_X0_countRowsOf]
  refine loop_up (fun n i => f_X0_countRowsOf_4 n x (i3 (zs i (fun r => ib (∃ c, zc x r c)))) (i3 i) μ) 6 _ (fun n => ?_) (fun n i hi => ?_) BIG 0 (by decide) (BIG_lt (by decide))
  · simp only [f_X0_countRowsOf_4, l3_6]
    rw [if_pos (le3 (by omega))]
  · simp only [f_X0_countRowsOf_4, l3_6, F_X0_rowMask, cJ_k, zcmp_eq, oneIf_0, oneIf_1, cI_k, lt_k, inc3, i3_add]
    rw [if_neg (nle3 (by omega))]
    by_cases h : ∃ c, zc x i c
    · rw [if_neg, zs_s, ib_t h]
      rw [zc_eq_zero]
      intro q
      obtain ⟨c, hc⟩ := h
      exact q i c ((zc_and _ _ _ _).mpr ⟨hc, (zc_rowMask hi _ _).mpr ⟨rfl, (zc_brd hx hc).2⟩⟩)
    · rw [if_pos, zs_s, ib_f h]
      rw [zc_eq_zero]
      intro r c q
      rw [zc_and, zc_rowMask hi] at q
      exact h ⟨c, q.2.1 ▸ q.1⟩
theorem countColumnsOf_code {x : Int64} (hx : brd x) (μ : Mem) : F_X0_countColumnsOf x μ = rI (i3 (zs 6 (fun c => ib (∃ r, zc x r c)))) μ := by
  simp only [F_X0_countColumnsOf]
  refine loop_up (fun n i => f_X0_countColumnsOf_4 n x (i3 (zs i (fun c => ib (∃ r, zc x r c)))) (i3 i) μ) 6 _ (fun n => ?_) (fun n i hi => ?_) BIG 0 (by decide) (BIG_lt (by decide))
  · simp only [f_X0_countColumnsOf_4, l3_6]
    rw [if_pos (le3 (by omega))]
  · simp only [f_X0_countColumnsOf_4, l3_6, F_X0_columnMask, cJ_k, zcmp_eq, oneIf_0, oneIf_1, cI_k, lt_k, inc3, i3_add]
    rw [if_neg (nle3 (by omega))]
    by_cases h : ∃ r, zc x r i
    · rw [if_neg, zs_s, ib_t h]
      rw [zc_eq_zero]
      intro q
      obtain ⟨r, hc⟩ := h
      exact q r i ((zc_and _ _ _ _).mpr ⟨hc, (zc_colMask hi _ _).mpr ⟨(zc_brd hx hc).1, rfl⟩⟩)
    · rw [if_pos, zs_s, ib_f h]
      rw [zc_eq_zero]
      intro r c q
      rw [zc_and, zc_colMask hi] at q
      exact h ⟨r, q.2.2 ▸ q.1⟩
theorem isF_uni {S : CS} {r c r' c' : Nat} (h : isF S r c) (h' : isF S r' c') : r = r' ∧ c = c' := by
  have h1 := h.2 r' c' h'.1
  have h2 := h'.2 r c h.1
  omega
theorem low_bv {x : Int64} {r c : Nat} (h : isF (zc x) r c) : x &&& (-x) = bv (8 * r + c) := by
  have hr := h.1.1
  have hc := h.1.2.1
  apply zc_ext
  intro r' c'
  rw [zc_low, zc_bv (by omega)]
  constructor
  · intro q
    obtain ⟨e1, e2⟩ := isF_uni q h
    omega
  · intro q
    have e1 : r' = r := by omega
    have e2 : c' = c := by omega
    subst e1 e2
    exact h
theorem firstPosition_code {x : Int64} (μ : Mem) {r c : Nat} (h : isF (zc x) r c) : F_X0_firstPosition x μ = rI (i3 ((8 * r + c : Nat) : Int)) μ := by
  have hr := h.1.1
  have hc := h.1.2.1
  have hk : ∀ k : Fin 64, pc (bv k.val - 1) = k.val := by decide +kernel
  simp only [F_X0_firstPosition, pc_code, cI_k, low_bv h]
  have := hk ⟨8 * r + c, by omega⟩
  simp only at this
  rw [this]
theorem rowAt_code {k : Nat} (hk : k < 64) (μ : Mem) : F_X0_rowAt (i3 k) μ = rI (i3 ((k / 8 : Nat) : Int)) μ := by
  have h : ∀ k : Fin 64, shrI (i3 k.val) (3 : Int32) = i3 ((k.val / 8 : Nat) : Int) := by decide +kernel
  simp only [F_X0_rowAt]
  rw [h ⟨k, hk⟩]
theorem columnAt_code {k : Nat} (hk : k < 64) (μ : Mem) : F_X0_columnAt (i3 k) μ = rI (i3 ((k % 8 : Nat) : Int)) μ := by
  have h : ∀ k : Fin 64, (i3 k.val) &&& (7 : Int32) = i3 ((k.val % 8 : Nat) : Int) := by decide +kernel
  simp only [F_X0_columnAt]
  rw [h ⟨k, hk⟩]
theorem code_code {k : Nat} (hk : k < 64) (μ : Mem) : F_X0_code (i3 k) μ = rI (i3 (10 * (k / 8 : Nat) + (k % 8 : Nat))) μ := by
  simp only [F_X0_code, rowAt_code hk, columnAt_code hk, cI_k, l3_10, i3_mul, i3_add]
theorem bit_code {r c : Nat} (μ : Mem) : F_X0_bit (i3 r) (i3 c) μ = rJ (bv (8 * r + c)) μ := by
  simp only [F_X0_bit, l3_8, i3_mul, i3_add, bv]
  rw [show (8 : Int) * (r : Int) + (c : Int) = ((8 * r + c : Nat) : Int) from by push_cast; rfl]
/-! runs of a line -/
def rn (g : Nat → Bool) : Nat → Nat
  | 0 => 0
  | i + 1 => if g i then rn g i + 1 else 0
def mrn (g : Nat → Bool) : Nat → Nat
  | 0 => 0
  | i + 1 => max (mrn g i) (rn g (i + 1))
def nrn (g : Nat → Bool) (n : Nat) : Int := zs n (fun i => b2 (g i && !(decide (1 ≤ i) && g (i - 1))))
theorem rn_le (g : Nat → Bool) (i : Nat) : rn g i ≤ i := by
  induction i with
  | zero => exact Nat.le_refl _
  | succ i ih => unfold rn; split <;> omega
theorem mrn_le (g : Nat → Bool) (i : Nat) : mrn g i ≤ i := by
  induction i with
  | zero => exact Nat.le_refl _
  | succ i ih =>
    have := rn_le g (i + 1)
    unfold mrn; omega
theorem mrn_ge (g : Nat → Bool) {i n : Nat} (h : i ≤ n) : rn g i ≤ mrn g n := by
  induction n with
  | zero => rw [show i = 0 from by omega]; exact Nat.le_refl _
  | succ n ih =>
    unfold mrn
    by_cases hn : i = n + 1
    · subst hn; omega
    · have := ih (by omega); omega
theorem mrn_ex (g : Nat → Bool) {n k : Nat} (h : k < mrn g n) : ∃ i, i < n ∧ k < rn g (i + 1) := by
  induction n with
  | zero => simp [mrn] at h
  | succ n ih =>
    unfold mrn at h
    by_cases hm : k < mrn g n
    · obtain ⟨i, h1, h2⟩ := ih hm
      exact ⟨i, by omega, h2⟩
    · exact ⟨n, by omega, by omega⟩
theorem rn_ss (g : Nat → Bool) (i k : Nat) : k + 1 < rn g (i + 1) ↔ (k < rn g (i + 1) ∧ k < rn g i) := by
  have h : rn g (i + 1) = if g i then rn g i + 1 else 0 := rfl
  rw [h]; split <;> omega
/-- a set of cells in one line: the line's cell i at row (l or i) and column (i or l) -/
theorem runs_row {x : Int64} {r : Nat} (hr : r < 6) (g : Nat → Bool) (h : ∀ a c, zc x a c ↔ a = r ∧ c < 6 ∧ g c = true) (μ : Mem) :
    F_X0_countRuns x (1 : Int32) μ = rI (i3 (nrn g 6)) μ ∧ F_X0_longestRun x (1 : Int32) μ = rI (i3 (mrn g 6)) μ := by
  have hx : brd x := (brd_iff x).mpr (fun a c q => by have := (h a c).mp q; omega)
  have ht : ∀ a c, a < 8 → c < 8 → tb x (8 * a + c) = (decide (a = r) && decide (c < 6) && g c) := by
    intro a c ha hc
    cases ht : tb x (8 * a + c) with
    | true =>
      have := (h a c).mp ⟨ha, hc, ht⟩
      simp [this]
    | false =>
      by_cases q : a = r ∧ c < 6 ∧ g c = true
      · have := ((h a c).mpr q).2.2
        rw [ht] at this; cases this
      · cases hg : g c <;> simp_all
  constructor
  · simp only [F_X0_countRuns, pc_code, cI_k]
    rw [pc_rem hx _ (fun r c hr hc => tb_shl1 hx hr hc)]
    have : z2 (fun a c => b2 (tb x (8 * a + c)) * (1 - b2 (decide (1 ≤ c) && tb x (8 * a + c - 1)))) = nrn g 6 := by
      have e1 : ∀ a, a < 6 → zs 6 (fun c => b2 (tb x (8 * a + c)) * (1 - b2 (decide (1 ≤ c) && tb x (8 * a + c - 1)))) = if a = r then nrn g 6 else 0 := by
        intro a ha
        by_cases har : a = r
        · rw [if_pos har]
          apply zs_congr
          intro c hc
          rw [ht a c (by omega) (by omega), ← b2_and]
          by_cases hc1 : 1 ≤ c
          · rw [show 8 * a + c - 1 = 8 * a + (c - 1) from by omega, ht a (c - 1) (by omega) (by omega)]
            simp [har, hc, show c - 1 < 6 from by omega]
          · simp [hc1, har, hc]
        · rw [if_neg har]
          refine (zs_congr (fun c hc => ?_)).trans (zs_zero 6)
          rw [ht a c (by omega) (by omega)]
          simp [har, b2]
      have e2 : ∀ n, zs n (fun a => if a = r then nrn g 6 else 0) = if r < n then nrn g 6 else 0 := by
        intro n
        induction n with
        | zero => rfl
        | succ n ih =>
          rw [zs_s, ih]
          by_cases h1 : r < n
          · rw [if_pos h1, if_neg (by omega), if_pos (by omega)]; omega
          · by_cases h2 : n = r
            · rw [if_neg h1, if_pos h2, if_pos (by omega)]; omega
            · rw [if_neg h1, if_neg h2, if_neg (by omega)]; omega
      unfold z2
      rw [zs_congr e1, e2, if_pos hr]
    rw [this]
  · simp only [F_X0_longestRun]
    rw [show (0 : Int32) = i3 ((0 : Nat) : Int) from l3_0]
    refine loop_st (σ := Int64) (fun n i s => f_X0_longestRun_8 n (1 : Int32) (i3 i) s (i3 i) μ)
      (fun i s => (∀ a c, zc s a c ↔ a = r ∧ c < 6 ∧ i < rn g (c + 1)) ∧ i ≤ mrn g 6)
      (fun o => o = rI (i3 (mrn g 6)) μ) 6 ?_ ?_ BIG 0 x (by decide) (BIG_lt (by decide)) ⟨fun a c => ?_, Nat.zero_le _⟩
    · rintro n s ⟨-, h2⟩
      have := mrn_le g 6
      simp only [f_X0_longestRun_8, l3_6]
      rw [if_pos (le3 (by omega)), show mrn g 6 = 6 from by omega]
    · rintro n i s hi ⟨h1, h2⟩
      have hs : brd s := (brd_iff s).mpr (fun a c q => by have := (h1 a c).mp q; omega)
      simp only [f_X0_longestRun_8, l3_6, zcmp_eq, lt_k, inc3]
      rw [if_neg (nle3 (by omega))]
      by_cases h0 : s = 0
      · right
        rw [if_pos h0]
        have : mrn g 6 = i := by
          by_cases hq : i < mrn g 6
          · obtain ⟨c, hc1, hc2⟩ := mrn_ex g hq
            have := (h1 r c).mpr ⟨rfl, hc1, hc2⟩
            rw [h0] at this
            exact absurd this (zc_0 _ _)
          · omega
        rw [this]
      · left
        rw [if_neg h0]
        refine ⟨_, ⟨fun a c => ?_, ?_⟩, rfl⟩
        · rw [zc_and, zc_shl1 hs, h1, h1]
          constructor
          · rintro ⟨⟨q1, q2, q3⟩, -, q4, -, -, q5⟩
            rw [show c - 1 + 1 = c from by omega] at q5
            exact ⟨q1, q2, (rn_ss g c i).mpr ⟨q3, q5⟩⟩
          · rintro ⟨q1, q2, q3⟩
            have := (rn_ss g c i).mp q3
            have h5 := rn_le g c
            refine ⟨⟨q1, q2, this.1⟩, by omega, by omega, q1, by omega, ?_⟩
            rw [show c - 1 + 1 = c from by omega]; exact this.2
        · obtain ⟨a, c, hF⟩ := first_ex h0
          have h6 := (h1 a c).mp hF.1
          have := mrn_ge g (i := c + 1) (n := 6) (by omega)
          omega
    · rw [h]
      have : rn g (c + 1) = if g c then rn g c + 1 else 0 := rfl
      rw [this]
      cases g c <;> simp
theorem runs_col {x : Int64} {l : Nat} (hl : l < 6) (g : Nat → Bool) (h : ∀ a c, zc x a c ↔ c = l ∧ a < 6 ∧ g a = true) (μ : Mem) :
    F_X0_countRuns x (8 : Int32) μ = rI (i3 (nrn g 6)) μ ∧ F_X0_longestRun x (8 : Int32) μ = rI (i3 (mrn g 6)) μ := by
  have hx : brd x := (brd_iff x).mpr (fun a c q => by have := (h a c).mp q; omega)
  have ht : ∀ a c, a < 8 → c < 8 → tb x (8 * a + c) = (decide (c = l) && decide (a < 6) && g a) := by
    intro a c ha hc
    cases ht : tb x (8 * a + c) with
    | true =>
      have := (h a c).mp ⟨ha, hc, ht⟩
      simp [this]
    | false =>
      by_cases q : c = l ∧ a < 6 ∧ g a = true
      · have := ((h a c).mpr q).2.2
        rw [ht] at this; cases this
      · cases hg : g a <;> simp_all
  constructor
  · simp only [F_X0_countRuns, pc_code, cI_k]
    rw [pc_rem hx _ (fun r c hr hc => tb_shl8 x hr hc)]
    have : z2 (fun a c => b2 (tb x (8 * a + c)) * (1 - b2 (decide (1 ≤ a) && tb x (8 * a + c - 8)))) = nrn g 6 := by
      unfold z2
      rw [zs_comm]
      have e1 : ∀ c, c < 6 → zs 6 (fun a => b2 (tb x (8 * a + c)) * (1 - b2 (decide (1 ≤ a) && tb x (8 * a + c - 8)))) = if c = l then nrn g 6 else 0 := by
        intro c hc
        by_cases har : c = l
        · rw [if_pos har]
          apply zs_congr
          intro a ha
          rw [ht a c (by omega) (by omega), ← b2_and]
          by_cases hc1 : 1 ≤ a
          · rw [show 8 * a + c - 8 = 8 * (a - 1) + c from by omega, ht (a - 1) c (by omega) (by omega)]
            simp [har, ha, show a - 1 < 6 from by omega]
          · simp [hc1, har, ha]
        · rw [if_neg har]
          refine (zs_congr (fun a ha => ?_)).trans (zs_zero 6)
          rw [ht a c (by omega) (by omega)]
          simp [har, b2]
      have e2 : ∀ n, zs n (fun c => if c = l then nrn g 6 else 0) = if l < n then nrn g 6 else 0 := by
        intro n
        induction n with
        | zero => rfl
        | succ n ih =>
          rw [zs_s, ih]
          by_cases h1 : l < n
          · rw [if_pos h1, if_neg (by omega), if_pos (by omega)]; omega
          · by_cases h2 : n = l
            · rw [if_neg h1, if_pos h2, if_pos (by omega)]; omega
            · rw [if_neg h1, if_neg h2, if_neg (by omega)]; omega
      rw [zs_congr e1, e2, if_pos hl]
    rw [this]
  · simp only [F_X0_longestRun]
    rw [show (0 : Int32) = i3 ((0 : Nat) : Int) from l3_0]
    refine loop_st (σ := Int64) (fun n i s => f_X0_longestRun_8 n (8 : Int32) (i3 i) s (i3 i) μ)
      (fun i s => (∀ a c, zc s a c ↔ c = l ∧ a < 6 ∧ i < rn g (a + 1)) ∧ i ≤ mrn g 6)
      (fun o => o = rI (i3 (mrn g 6)) μ) 6 ?_ ?_ BIG 0 x (by decide) (BIG_lt (by decide)) ⟨fun a c => ?_, Nat.zero_le _⟩
    · rintro n s ⟨-, h2⟩
      have := mrn_le g 6
      simp only [f_X0_longestRun_8, l3_6]
      rw [if_pos (le3 (by omega)), show mrn g 6 = 6 from by omega]
    · rintro n i s hi ⟨h1, h2⟩
      have hs : brd s := (brd_iff s).mpr (fun a c q => by have := (h1 a c).mp q; omega)
      simp only [f_X0_longestRun_8, l3_6, zcmp_eq, lt_k, inc3]
      rw [if_neg (nle3 (by omega))]
      by_cases h0 : s = 0
      · right
        rw [if_pos h0]
        have : mrn g 6 = i := by
          by_cases hq : i < mrn g 6
          · obtain ⟨c, hc1, hc2⟩ := mrn_ex g hq
            have := (h1 c l).mpr ⟨rfl, hc1, hc2⟩
            rw [h0] at this
            exact absurd this (zc_0 _ _)
          · omega
        rw [this]
      · left
        rw [if_neg h0]
        refine ⟨_, ⟨fun a c => ?_, ?_⟩, rfl⟩
        · rw [zc_and, zc_shl8, h1, h1]
          constructor
          · rintro ⟨⟨q1, q2, q3⟩, -, q4, -, -, q5⟩
            rw [show a - 1 + 1 = a from by omega] at q5
            exact ⟨q1, q2, (rn_ss g a i).mpr ⟨q3, q5⟩⟩
          · rintro ⟨q1, q2, q3⟩
            have := (rn_ss g a i).mp q3
            have h5 := rn_le g a
            refine ⟨⟨q1, q2, this.1⟩, by omega, by omega, q1, by omega, ?_⟩
            rw [show a - 1 + 1 = a from by omega]; exact this.2
        · obtain ⟨a, c, hF⟩ := first_ex h0
          have h6 := (h1 a c).mp hF.1
          have := mrn_ge g (i := a + 1) (n := 6) (by omega)
          omega
    · rw [h]
      have : rn g (a + 1) = if g a then rn g a + 1 else 0 := rfl
      rw [this]
      cases g a <;> simp
/-! digits -/
def dgn (x : Int64) (i : Nat) : Nat := x.toBitVec.toNat / 2 ^ (4 * i) % 16
theorem dgn_bit (x : Int64) (i s : Nat) : (dgn x i).testBit s = (decide (s < 4) && tb x (4 * i + s)) := by
  unfold dgn
  rw [show (16 : Nat) = 2 ^ 4 from rfl, Nat.testBit_mod_two_pow, Nat.testBit_div_two_pow, Nat.add_comm]
  rfl
theorem tbl16 {n s : Nat} (hn : n < 16) (hs : 4 ≤ s) : n.testBit s = false := Nat.testBit_lt_two_pow (Nat.lt_of_lt_of_le (show n < 2 ^ 4 from hn) (Nat.pow_le_pow_right (by decide) hs))
theorem dgn_lt (x : Int64) (i : Nat) : dgn x i < 16 := Nat.mod_lt _ (by decide)
theorem low31 (v : Int64) (m : Nat) (hm : m < 31) (n : Int32) (hn : n.toBitVec.toNat = 2 ^ m - 1) : (Int64.toInt32 v) &&& n = i3 ((v.toBitVec.toNat % 2 ^ m : Nat) : Int) := by
  apply Int32.toBitVec_inj.1
  apply BitVec.eq_of_toNat_eq
  rw [Int32.toBitVec_and, BitVec.toNat_and, Int64.toBitVec_toInt32, hn, Nat.and_two_pow_sub_one_eq_mod]
  unfold i3
  rw [Int32.toBitVec_ofInt, BitVec.ofInt_natCast, BitVec.toNat_ofNat, BitVec.signExtend_eq_setWidth_of_le _ (by decide), BitVec.toNat_setWidth]
  have h2 : 2 ^ m ∣ 2 ^ 32 := Nat.pow_dvd_pow 2 (by omega)
  rw [Nat.mod_mod_of_dvd _ h2]
  have h3 : v.toBitVec.toNat % 2 ^ m < 2 ^ m := Nat.mod_lt _ (Nat.two_pow_pos m)
  have h4 : 2 ^ m ≤ 2 ^ 32 := Nat.pow_le_pow_right (by decide) (by omega)
  rw [Nat.mod_eq_of_lt (Nat.lt_of_lt_of_le h3 h4)]
theorem digit_code (x : Int64) {i : Nat} (hi : i < 16) (μ : Mem) : F_X1_digit x (i3 i) μ = rI (i3 (dgn x i)) μ := by
  simp only [F_X1_digit, l3_4, i3_mul]
  rw [show (4 : Int) * (i : Int) = ((4 * i : Nat) : Int) from by push_cast; rfl, low31 _ 4 (by decide) _ (by decide), ushrL_nat _ (by omega)]
  rfl
theorem changed_code (x : Int64) {i n : Nat} (hi : i < 16) (hn : n < 16) (μ : Mem) : ∃ y, F_X1_changed x (i3 i) (i3 n) μ = rJ y μ ∧ ∀ j, j < 16 → dgn y j = if j = i then n else dgn x j := by
  simp only [F_X1_changed, l3_4, i3_mul]
  rw [show (4 : Int) * (i : Int) = ((4 * i : Nat) : Int) from by push_cast; rfl]
  refine ⟨_, rfl, fun j hj => ?_⟩
  have h15 : ∀ s : Fin 64, tb 15 s.val = decide (s.val < 4) := by decide +kernel
  have hnb : ∀ (n : Fin 16) (s : Fin 64), tb (Int32.toInt64 (i3 n.val)) s.val = n.val.testBit s.val := by decide +kernel
  apply Nat.eq_of_testBit_eq
  intro s
  rw [dgn_bit]
  by_cases hs : s < 4
  · rw [tb_or, tb_and, tb_not _ (by omega), tb_shl _ (by omega), tb_shl _ (by omega)]
    by_cases hji : j = i
    · subst hji
      rw [if_pos rfl, show 4 * j + s - 4 * j = s from by omega]
      have e1 := h15 ⟨s, by omega⟩
      have e2 := hnb ⟨n, hn⟩ ⟨s, by omega⟩
      simp only at e1 e2
      rw [e1, e2]
      simp [hs, show 4 * j + s < 64 from by omega]
    · rw [if_neg hji, dgn_bit]
      by_cases hlt : 4 * i ≤ 4 * j + s
      · have e1 := h15 ⟨4 * j + s - 4 * i, by omega⟩
        have e2 := hnb ⟨n, hn⟩ ⟨4 * j + s - 4 * i, by omega⟩
        simp only at e1 e2
        have e3 : n.testBit (4 * j + s - 4 * i) = false := tbl16 hn (by omega)
        rw [e1, e2, e3]
        have e4 : ¬ (4 * j + s - 4 * i < 4) := by omega
        simp [e4, hs]
      · simp [hlt, hs]
  · have h2 : ∀ n : Nat, n < 16 → n.testBit s = false := fun n hn => tbl16 hn (by omega)
    have e5 : (if j = i then n else dgn x j) < 16 := by
      split
      · exact hn
      · exact dgn_lt x j
    rw [h2 _ e5]
    simp [hs]
theorem total_code (x : Int64) (μ : Mem) : F_X1_total x μ = rI (i3 (zs 6 (fun i => (dgn x i : Int)))) μ := by
  simp only [F_X1_total]
  refine loop_up (fun n i => f_X1_total_4 n x (i3 (zs i (fun i => (dgn x i : Int)))) (i3 i) μ) 6 _ (fun n => ?_) (fun n i hi => ?_) BIG 0 (by decide) (BIG_lt (by decide))
  · simp only [f_X1_total_4, l3_6]
    rw [if_pos (le3 (by omega))]
  · simp only [f_X1_total_4, l3_6, digit_code x (show i < 16 by omega), cI_k, lt_k, inc3, i3_add]
    rw [if_neg (nle3 (by omega)), zs_s]
