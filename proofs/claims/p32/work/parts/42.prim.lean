/-! the law's small helpers: its board of 36 bits, the numbers that it draws from the script -/
theorem sh_bit (y : Int64) {i : Nat} (hi : i < 64) : (Int64.toInt32 (shrL y (i3 i))) &&& (1 : Int32) = i3 (b2 (tb y i)) := by
  rw [low31 _ 1 (by decide) _ (by decide)]
  congr 1
  have h : tb y i = (shrL y (i3 i)).toBitVec.toNat.testBit 0 := by
    show y.toBitVec.getLsbD i = (shrL y (i3 i)).toBitVec.getLsbD 0
    unfold shrL
    rw [i3_shamt hi, Int64.toBitVec_shiftRight]
    have h1 : (Int64.ofNat i).toBitVec.smod 64 = BitVec.ofNat 64 i := by
      have : ∀ k : Fin 64, (Int64.ofNat k.val).toBitVec.smod 64 = BitVec.ofNat 64 k.val := by decide +kernel
      exact this ⟨i, hi⟩
    rw [h1]
    have h2 : (BitVec.ofNat 64 i).toNat = i := by simp; omega
    rw [BitVec.sshiftRight_eq', h2, BitVec.getLsbD_sshiftRight]
    simp [hi]
  rw [h]
  cases hq : (shrL y (i3 i)).toBitVec.toNat.testBit 0
  · rw [Nat.testBit_zero, decide_eq_false_iff_not] at hq
    rw [b2_f]; omega
  · rw [Nat.testBit_zero, decide_eq_true_eq] at hq
    rw [b2_t]; omega
/-- the law's board: the cell (r, c) as bit 6 r + c -/
def v6 : Nat → Int64 → Int64
  | 0, _ => 0
  | n + 1, x => if tb x (8 * (n / 6) + n % 6) then v6 n x ||| bv n else v6 n x
theorem tb_v6 (x : Int64) : ∀ {n : Nat}, n ≤ 36 → ∀ i, tb (v6 n x) i = (decide (i < n) && tb x (8 * (i / 6) + i % 6))
  | 0, _, i => by simp [v6, tb_0]
  | n + 1, hn, i => by
    have ih := tb_v6 x (n := n) (by omega) i
    unfold v6
    by_cases e : i = n
    · subst e
      cases hq : tb x (8 * (i / 6) + i % 6)
      · simp [ih, hq]
      · simp [tb_or, ih, tb_bv (show i < 64 by omega), hq]
    · have e1 : decide (i < n + 1) = decide (i < n) := by
        by_cases q : i < n
        · simp [q, show i < n + 1 by omega]
        · simp [q, show ¬ i < n + 1 by omega]
      rw [e1]
      split
      · rw [tb_or, ih, tb_bv (show n < 64 by omega)]; simp [e]
      · exact ih
def V (x : Int64) : Int64 := v6 36 x
theorem tb_V (x : Int64) (i : Nat) : tb (V x) i = (decide (i < 36) && tb x (8 * (i / 6) + i % 6)) := tb_v6 x (Nat.le_refl _) i
theorem tb_V6 (x : Int64) {r c : Nat} (hr : r < 6) (hc : c < 6) : tb (V x) (6 * r + c) = tb x (8 * r + c) := by
  rw [tb_V, show (6 * r + c) / 6 = r from by omega, show (6 * r + c) % 6 = c from by omega]
  simp [show 6 * r + c < 36 by omega]
theorem V_and (x y : Int64) : V x &&& V y = V (x &&& y) := tb_ext (fun i _ => by
  simp only [tb_and, tb_V]
  cases decide (i < 36) <;> simp)
theorem V_or (x y : Int64) : V x ||| V y = V (x ||| y) := tb_ext (fun i _ => by
  simp only [tb_or, tb_V]
  cases decide (i < 36) <;> simp)
theorem V_xor (x y : Int64) : V x ^^^ V y = V (x ^^^ y) := tb_ext (fun i _ => by
  simp only [tb_xor, tb_V]
  cases decide (i < 36) <;> simp)
theorem V_rem (x y : Int64) : V x &&& (V y ^^^ (-1 : Int64)) = V (x &&& (y ^^^ (-1 : Int64))) := tb_ext (fun i hi => by
  by_cases h : i < 36
  · simp only [tb_and, tb_not _ hi, tb_V, tb_not y (show 8 * (i / 6) + i % 6 < 64 by omega)]
    simp [h]
  · simp only [tb_and, tb_V]
    simp [h])
theorem V_0 : V 0 = 0 := tb_ext (fun i _ => by rw [tb_V, tb_0, tb_0]; simp)
theorem V_ext {x y : Int64} (hx : brd x) (hy : brd y) (h : V x = V y) : x = y := by
  apply zc_ext
  intro r c
  by_cases q : r < 6 ∧ c < 6
  · have e : tb x (8 * r + c) = tb y (8 * r + c) := by rw [← tb_V6 x q.1 q.2, ← tb_V6 y q.1 q.2, h]
    rw [← tb_iff (show r < 8 by omega) (show c < 8 by omega), ← tb_iff (show r < 8 by omega) (show c < 8 by omega), e]
  · exact ⟨fun w => absurd (zc_brd hx w) q, fun w => absurd (zc_brd hy w) q⟩
theorem brd_0 : brd 0 := fun i _ h => by rw [tb_0] at h; cases h
theorem V_eq {x y : Int64} (hx : brd x) (hy : brd y) : (lg_cmp (V x) (V y) = 0) = (x = y) := by
  rw [zcmp_eq]
  exact propext ⟨fun h => V_ext hx hy h, fun h => by rw [h]⟩
theorem V_eq0 {x : Int64} (hx : brd x) : (lg_cmp (V x) (0 : Int64) = 0) = (x = 0) := by
  have := V_eq hx brd_0
  rw [V_0] at this
  exact this
theorem ones_code (y : Int64) (μ : Mem) : F_L_ones y μ = rI (i3 (zs 36 (fun i => b2 (tb y i)))) μ := by
  simp only [F_L_ones]
  rw [show f_L_ones_4 BIG y (0 : Int32) (0 : Int32) μ = f_L_ones_4 BIG y (i3 (zs 0 (fun i => b2 (tb y i)))) (i3 ((0 : Nat) : Int)) μ from by rw [l3_0]; exact nr rfl]
  refine loop_up (fun n i => f_L_ones_4 n y (i3 (zs i (fun i => b2 (tb y i)))) (i3 i) μ) 36 _ (fun n => ?_) (fun n i hi => ?_) BIG 0 (by omega) (BIG_lt (by omega))
  · have el : (36 : Int32) ≤ i3 ((36 : Nat) : Int) := by decide
    simp only [f_L_ones_4, if_pos el]
  · have el : ¬ (36 : Int32) ≤ i3 (i : Int) := by rw [l3_36]; exact nle3 (by omega)
    simp only [f_L_ones_4, if_neg el, sh_bit y (show i < 64 by omega), lt_k, i3_add, inc3]
    rw [zs_s]
theorem ones_V {x : Int64} (hx : brd x) (μ : Mem) : F_L_ones (V x) μ = rI (i3 (pc x)) μ := by
  rw [ones_code, pc36 hx]
  rw [zs_congr (n := 36) (f := fun i => b2 (tb (V x) i)) (g := fun j => b2 (tb x (8 * (j / 6) + j % 6))) (fun i hi => by rw [tb_V, decide_eq_true hi, Bool.true_and])]
/-- a cell of the law's board, none outside -/
def gz (x : Int64) (r c : Int) : Bool := decide (0 ≤ r ∧ r < 6 ∧ 0 ≤ c ∧ c < 6) && tb x (8 * r.toNat + c.toNat)
theorem gz_nat (x : Int64) {r c : Nat} (hr : r < 6) (hc : c < 6) : gz x (r : Int) (c : Int) = tb x (8 * r + c) := by
  unfold gz
  rw [Int.toNat_natCast, Int.toNat_natCast, decide_eq_true (by omega)]; rfl
theorem at_code (x : Int64) {r c : Int} (hr : -100 ≤ r ∧ r ≤ 100) (hc : -100 ≤ c ∧ c ≤ 100) (μ : Mem) : F_L_at (V x) (i3 r) (i3 c) μ = rI (i3 (b2 (gz x r c))) μ := by
  have e0 : i3 (b2 false) = (0 : Int32) := by decide
  unfold gz
  simp only [F_L_at]
  by_cases h1 : r < 0
  · rw [if_pos (by rw [l3_0]; exact lt3 (by omega)), decide_eq_false (by omega), Bool.false_and, e0]
  · rw [if_neg (by rw [l3_0]; exact nlt3 (by omega))]
    by_cases h2 : 5 < r
    · rw [if_pos (by rw [l3_5]; exact lt3 (by omega)), decide_eq_false (by omega), Bool.false_and, e0]
    · rw [if_neg (by rw [l3_5]; exact nlt3 (by omega))]
      by_cases h3 : c < 0
      · rw [if_pos (by rw [l3_0]; exact lt3 (by omega)), decide_eq_false (by omega), Bool.false_and, e0]
      · rw [if_neg (by rw [l3_0]; exact nlt3 (by omega))]
        by_cases h4 : c ≤ 5
        · rw [if_pos (by rw [l3_5]; exact le3 (by omega)), decide_eq_true (by omega), Bool.true_and]
          obtain ⟨a, rfl, ha⟩ : ∃ a : Nat, r = a ∧ a < 6 := ⟨r.toNat, by omega, by omega⟩
          obtain ⟨b, rfl, hb⟩ : ∃ b : Nat, c = b ∧ b < 6 := ⟨c.toNat, by omega, by omega⟩
          have e : ((6 : Int32) * i3 (a : Int)) + i3 (b : Int) = i3 ((6 * a + b : Nat) : Int) := by rw [l3_6, i3_mul, i3_add]; congr 1
          rw [e, sh_bit _ (by omega), tb_V6 x ha hb, Int.toNat_natCast, Int.toNat_natCast]
        · rw [if_neg (by rw [l3_5]; exact nle3 (by omega)), decide_eq_false (by omega), Bool.false_and, e0]
theorem at_nat (x : Int64) {r c : Nat} (hr : r < 6) (hc : c < 6) (μ : Mem) : F_L_at (V x) (i3 (r : Int)) (i3 (c : Int)) μ = rI (i3 (b2 (tb x (8 * r + c)))) μ := by
  rw [at_code x (by omega) (by omega), gz_nat x hr hc]
theorem and_max (x : Int32) : ∃ z : Int, 0 ≤ z ∧ z < 2147483648 ∧ x &&& (2147483647 : Int32) = i3 z := by
  obtain ⟨z, h1, h2, h3⟩ := i3_of (x &&& (2147483647 : Int32))
  refine ⟨z, ?_, h2, h3⟩
  have e : (x &&& (2147483647 : Int32)).toInt = z := by rw [h3]; exact i3_toInt h1 h2
  rw [← e]
  show 0 ≤ (x &&& (2147483647 : Int32)).toBitVec.toInt
  have hm : (x &&& (2147483647 : Int32)).toBitVec.msb = false := by
    show (x.toBitVec &&& (2147483647 : Int32).toBitVec).msb = false
    rw [BitVec.msb_and, show ((2147483647 : Int32).toBitVec).msb = false from by decide, Bool.and_false]
  rw [BitVec.toInt_eq_toNat_of_msb hm]
  omega
/-- what the law draws: a number below m -/
def upZ (x : Int32) (m : Nat) : Nat := ((x &&& (2147483647 : Int32)).toInt % m).toNat
theorem up_lt (x : Int32) {m : Nat} (hm : 1 ≤ m) : upZ x m < m := by
  unfold upZ
  have h := Int.emod_lt_of_pos (x &&& (2147483647 : Int32)).toInt (show (0 : Int) < m by omega)
  have h2 := Int.emod_nonneg (x &&& (2147483647 : Int32)).toInt (show (m : Int) ≠ 0 by omega)
  omega
theorem up_code (x : Int32) {m : Nat} (hm : 1 ≤ m ∧ m < 2147483648) (μ : Mem) : F_L_up x (i3 (m : Int)) μ = rI (i3 (upZ x m : Int)) μ := by
  obtain ⟨z, h1, h2, h3⟩ := and_max x
  have e : (x &&& (2147483647 : Int32)).toInt = z := by rw [h3]; exact i3_toInt (by omega) h2
  have hn : ¬ i3 (m : Int) = 0 := by rw [l3_0]; exact ne3 (by omega)
  have h4 := Int.emod_nonneg z (show (m : Int) ≠ 0 by omega)
  simp only [F_L_up, ck_k hn, h3, i3_rem (show 0 ≤ z ∧ z < 2147483648 from ⟨h1, h2⟩) (show 0 < (m : Int) ∧ (m : Int) < 2147483648 by omega)]
  unfold upZ
  rw [e, Int.toNat_of_nonneg h4]
/-- the script's number, or what the law puts in its place -/
def scr (L : Nat) (xs : Nat → Int32) (n : Nat) : Int32 := if L ≤ n then (763049417 : Int32) * (i3 (n : Int) + (3 : Int32)) else xs n
theorem cell_code {L : Nat} (hL : L ≤ 260) (xs : Nat → Int32) {n : Nat} (hn : n < 1000) (μ : Mem) : F_L_cell L xs (i3 (n : Int)) μ = rI (scr L xs n) μ := by
  simp only [F_L_cell, i3_ofNat, scr]
  by_cases q : L ≤ n
  · rw [if_pos (le3 (by omega)), if_pos q]
  · rw [if_neg (nle3 (by omega)), if_neg q, ck_k (i3_in (by omega) (by omega)), clampN (show n < 2147483648 by omega)]
def orB (x : Int64) (b : Bool) (k : Nat) : Int64 := if b then x ||| bv k else x
theorem tb_orB (x : Int64) (b : Bool) {k : Nat} (hk : k < 64) (i : Nat) : tb (orB x b k) i = (tb x i || (b && decide (i = k))) := by
  cases b
  · show tb x i = _
    simp
  · show tb (x ||| bv k) i = _
    rw [tb_or, tb_bv hk]; simp
theorem bit_in {x2 : Int64} {b : Bool} {k : Nat} (hk : k < 64) : x2 ||| shlL (Int32.toInt64 (i3 (b2 b))) (i3 (k : Int)) = orB x2 b k := by
  cases b
  · have e : shlL (Int32.toInt64 (i3 (b2 false))) (i3 (k : Int)) = 0 := by
      apply tb_ext
      intro i hi
      rw [tb_shl _ hk, show Int32.toInt64 (i3 (b2 false)) = 0 from by decide, tb_0, tb_0, Bool.and_false]
    rw [e]
    apply tb_ext
    intro i hi
    rw [tb_or, tb_0, Bool.or_false]; rfl
  · rw [show Int32.toInt64 (i3 (b2 true)) = 1 from by decide]; rfl
theorem bits_gen {A : Ab} {x : Int64} (ok : okP (aP A)) (hx : ∀ r c, zc x r c → r < nR (aP A) ∧ c < nC (aP A)) (w : Int32) (I : Mem → Prop) (hI : ∀ μ, I μ → cInv μ A)
    (hq : ∀ μ, I μ → ∀ r c : Nat, r < nR (aP A) → c < nC (aP A) → ∃ μ1, F_X7_cell (i3 (r : Int)) (i3 (c : Int)) w μ = rI (i3 (b2 (tb x (8 * r + c)))) μ1 ∧ I μ1) {μ : Mem} (h : I μ) : ∃ μ', F_L_bits w μ = rJ (V x) μ' ∧ I μ' := by
  have o1 := ok.2.1
  have o2 := ok.2.2.2.1
  simp only [F_L_bits]
  rw [show (0 : Int32) = i3 ((0 : Nat) : Int) from l3_0]
  refine loop_rd (σ := Int64 × Mem) (fun n i s => f_L_bits_5 n w s.1 (i3 i) s.2) (fun n m i j s => f_L_bits_18 (f_L_bits_5 n) m w s.1 (i3 i) (i3 j) s.2)
    (fun i s => I s.2 ∧ ∀ t, tb s.1 t = (decide (t < 36 ∧ t / 6 < i) && tb x (8 * (t / 6) + t % 6))) (fun i j s => I s.2 ∧ ∀ t, tb s.1 t = (decide (t < 36 ∧ (t / 6 < i ∨ t / 6 = i ∧ t % 6 < j)) && tb x (8 * (t / 6) + t % 6)))
    (fun o => ∃ μ', o = rJ (V x) μ' ∧ I μ') (nR (aP A)) (nC (aP A)) (by omega) ?_ ?_ ?_ ?_ BIG 0 (0, μ) (by omega) (BIG_lt (by omega)) ⟨h, fun t => by simp [tb_0]⟩
  · rintro n ⟨z, s⟩ ⟨q1, q2⟩
    simp only at q1 q2
    simp only [f_L_bits_5, a_0 (hI _ q1), cI_k]
    rw [if_pos (le3 (by omega))]
    refine ⟨s, ?_, q1⟩
    have e : z = V x := tb_ext (fun t ht => by
      rw [q2, tb_V]
      by_cases h1 : t < 36
      · by_cases h2 : t / 6 < nR (aP A)
        · simp [h1, h2]
        · have h3 : tb x (8 * (t / 6) + t % 6) = false := tb_f (fun w => h2 (hx _ _ ⟨by omega, by omega, w⟩).1)
          rw [h3]; simp
      · simp [h1])
    rw [e]
  · rintro n i ⟨z, s⟩ hi ⟨q1, q2⟩
    simp only at q1 q2
    simp only [f_L_bits_5, a_0 (hI _ q1), cI_k]
    rw [if_neg (nle3 (by omega)), show (0 : Int32) = i3 ((0 : Nat) : Int) from l3_0]
    exact ⟨(z, s), ⟨q1, fun t => by rw [q2]; congr 2; simp⟩, rfl⟩
  · rintro n m i ⟨z, s⟩ hi ⟨q1, q2⟩
    simp only at q1 q2
    simp only [f_L_bits_18, a_1 (hI _ q1), cI_k]
    rw [if_pos (le3 (by omega)), lt_k, inc3]
    refine ⟨(z, s), ⟨q1, fun t => ?_⟩, rfl⟩
    simp only
    rw [q2]
    by_cases h1 : t < 36
    · by_cases h2 : t / 6 < i
      · simp [h1, h2, show t / 6 < i + 1 by omega]
      · by_cases h3 : t / 6 = i
        · by_cases h4 : t % 6 < nC (aP A)
          · simp [h1, h3, h4]
          · have h5 : tb x (8 * (t / 6) + t % 6) = false := tb_f (fun w => h4 (hx _ _ ⟨by omega, by omega, w⟩).2)
            rw [h5]; simp
        · simp [h2, h3, show ¬ t / 6 < i + 1 by omega]
    · simp [h1]
  · rintro n m i j ⟨z, s⟩ hi hj ⟨q1, q2⟩
    simp only at q1 q2
    obtain ⟨s1, w1, w2⟩ := hq s q1 i j hi hj
    have ek : ((6 : Int32) * i3 (i : Int)) + i3 (j : Int) = i3 ((6 * i + j : Nat) : Int) := by rw [l3_6, i3_mul, i3_add]; congr 1
    simp only [f_L_bits_18, a_1 (hI _ q1), cI_k]
    rw [if_neg (nle3 (by omega)), w1, cI_k, lt_k, lt_k, inc3, ek, bit_in (show 6 * i + j < 64 by omega)]
    refine ⟨(orB z (tb x (8 * i + j)) (6 * i + j), s1), ⟨w2, fun t => ?_⟩, rfl⟩
    simp only
    rw [tb_orB _ _ (show 6 * i + j < 64 by omega)]
    by_cases et : t = 6 * i + j
    · have d6 : t / 6 = i := by omega
      have m6 : t % 6 = j := by omega
      have e2 : decide (t < 36 ∧ (t / 6 < i ∨ t / 6 = i ∧ t % 6 < j + 1)) = true := decide_eq_true (by omega)
      have e3 : decide (t < 36 ∧ (t / 6 < i ∨ t / 6 = i ∧ t % 6 < j)) = false := decide_eq_false (by omega)
      rw [q2, e2, e3, d6, m6, decide_eq_true et, Bool.false_and, Bool.false_or, Bool.and_true, Bool.true_and]
    · have e2 : decide (t < 36 ∧ (t / 6 < i ∨ t / 6 = i ∧ t % 6 < j + 1)) = decide (t < 36 ∧ (t / 6 < i ∨ t / 6 = i ∧ t % 6 < j)) := by
        congr 1
        exact propext ⟨fun w => by omega, fun w => by omega⟩
      rw [e2, ← q2, decide_eq_false et, Bool.and_false, Bool.or_false]
theorem bits_0 {μ : Mem} {A : Ab} (h : cInv μ A) : F_L_bits (0 : Int32) μ = rJ (V (fX (aP A))) μ := by
  obtain ⟨μ', w1, w2⟩ := bits_gen h.2.1 h.2.1.2.2.2.2.1 (0 : Int32) (fun s => s = μ) (fun s e => by rw [e]; exact h) (fun s e r c hr hc => ⟨s, by rw [e]; exact e_0 h hr hc, e⟩) (rfl : μ = μ)
  rw [w1, w2]
theorem bits_1 {μ : Mem} {A : Ab} (h : cInv μ A) : F_L_bits (1 : Int32) μ = rJ (V (fP (aP A))) μ := by
  obtain ⟨μ', w1, w2⟩ := bits_gen h.2.1 h.2.1.2.2.2.2.2.1 (1 : Int32) (fun s => s = μ) (fun s e => by rw [e]; exact h) (fun s e r c hr hc => ⟨s, by rw [e]; exact e_1 h hr hc, e⟩) (rfl : μ = μ)
  rw [w1, w2]
theorem bits_4 {μ : Mem} {A : Ab} (h : cInv μ A) {y : Int64} (hy : isSure (aP A) y) : ∃ μ', F_L_bits (4 : Int32) μ = rJ (V y) μ' ∧ frc μ μ' ∧ cInv μ' A := by
  have hb : ∀ r c, zc y r c → r < nR (aP A) ∧ c < nC (aP A) := fun r c q => by
    rcases hy with ⟨-, b⟩ | ⟨-, b⟩
    · exact ((b r c).mp q).1
    · rw [b] at q; exact absurd q (zc_0 _ _)
  obtain ⟨μ', w1, w2, w3⟩ := bits_gen h.2.1 hb (4 : Int32) (fun s => frc μ s ∧ cInv s A) (fun s e => e.2) (fun s e r c hr hc => by
    obtain ⟨s1, y1, y2, y3⟩ := e_4 e.2 hy hr hc
    exact ⟨s1, y1, frc_tr e.1 y2, y3⟩) ⟨frc_rf μ, h⟩
  exact ⟨μ', w1, w2, w3⟩
theorem hul_in {S : CS} {R C : Nat} (h : ∀ r c, S r c → r < R ∧ c < C) : ∀ r c, hul S r c → r < R ∧ c < C := fun r c q =>
  q (fun r c => r < R ∧ c < C) h ⟨fun r c1 c c2 _ h2 h3 h4 => ⟨h3.1, Nat.lt_of_le_of_lt h2 h4.2⟩, fun c r1 r r2 _ h2 h3 h4 => ⟨Nat.lt_of_le_of_lt h2 h4.1, h3.2⟩⟩
theorem hul_ex {P : Pic} (ok : okP P) : ∃ y, brd y ∧ (∀ r c, zc y r c ↔ hul (zc (fX P)) r c) ∧ ∀ r c, zc y r c → r < nR P ∧ c < nC P := by
  obtain ⟨y, -, x2, x3⟩ := hull_code (brdX ok ok.2.2.2.2.1) mz
  exact ⟨y, x2, x3, fun r c q => hul_in ok.2.2.2.2.1 r c ((x3 r c).mp q)⟩
theorem bits_3 {μ : Mem} {A : Ab} (h : cInv μ A) {y : Int64} (hh : ∀ r c, zc y r c ↔ hul (zc (fX (aP A))) r c) : F_L_bits (3 : Int32) μ = rJ (V y) μ := by
  obtain ⟨μ', w1, w2⟩ := bits_gen h.2.1 (fun r c q => hul_in h.2.1.2.2.2.2.1 r c ((hh r c).mp q)) (3 : Int32) (fun s => s = μ) (fun s e => by rw [e]; exact h) (fun s e r c hr hc => ⟨s, by rw [e]; exact e_3 h hh hr hc, e⟩) (rfl : μ = μ)
  rw [w1, w2]
