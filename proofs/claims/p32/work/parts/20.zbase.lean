/-! SUMS, LOOPS, NUMBERS: the words in which the lifted functions' meaning is told. -/
def i3 (z : Int) : Int32 := Int32.ofInt z
def i6 (z : Int) : Int64 := Int64.ofInt z
theorem i3_toInt {z : Int} (h1 : -2147483648 ≤ z) (h2 : z < 2147483648) : (i3 z).toInt = z := Int32.toInt_ofInt_of_le (by omega) (by omega)
theorem i3_nat {z : Int} (h1 : 0 ≤ z) (h2 : z < 2147483648) : (i3 z).toNatClampNeg = z.toNat := Int32.toNatClampNeg_ofInt_of_le (by omega) (by omega)
theorem i3_add (a b : Int) : i3 a + i3 b = i3 (a + b) := (Int32.ofInt_add a b).symm
theorem i3_sub (a b : Int) : i3 a - i3 b = i3 (a - b) := (Int32.ofInt_sub a b).symm
theorem i3_mul (a b : Int) : i3 a * i3 b = i3 (a * b) := (Int32.ofInt_mul a b).symm
theorem i3_neg (a : Int) : -i3 a = i3 (-a) := (Int32.ofInt_neg a).symm
theorem i3_le {a b : Int} (h1 : -2147483648 ≤ a ∧ a < 2147483648) (h2 : -2147483648 ≤ b ∧ b < 2147483648) : (i3 a ≤ i3 b) = (a ≤ b) := by
  rw [Int32.le_iff_toInt_le, i3_toInt h1.1 h1.2, i3_toInt h2.1 h2.2]
theorem i3_lt {a b : Int} (h1 : -2147483648 ≤ a ∧ a < 2147483648) (h2 : -2147483648 ≤ b ∧ b < 2147483648) : (i3 a < i3 b) = (a < b) := by
  rw [Int32.lt_iff_toInt_lt, i3_toInt h1.1 h1.2, i3_toInt h2.1 h2.2]
theorem i3_eq {a b : Int} (h1 : -2147483648 ≤ a ∧ a < 2147483648) (h2 : -2147483648 ≤ b ∧ b < 2147483648) : (i3 a = i3 b) = (a = b) := by
  rw [← Int32.toInt_inj, i3_toInt h1.1 h1.2, i3_toInt h2.1 h2.2]
theorem le3 {a b : Int} (h : -2147483648 ≤ a ∧ a ≤ b ∧ b < 2147483648) : i3 a ≤ i3 b := by rw [i3_le (by omega) (by omega)]; exact h.2.1
theorem nle3 {a b : Int} (h : -2147483648 ≤ b ∧ b < a ∧ a < 2147483648) : ¬ i3 a ≤ i3 b := by rw [i3_le (by omega) (by omega)]; omega
theorem lt3 {a b : Int} (h : -2147483648 ≤ a ∧ a < b ∧ b < 2147483648) : i3 a < i3 b := by rw [i3_lt (by omega) (by omega)]; exact h.2.1
theorem nlt3 {a b : Int} (h : -2147483648 ≤ b ∧ b ≤ a ∧ a < 2147483648) : ¬ i3 a < i3 b := by rw [i3_lt (by omega) (by omega)]; omega
theorem ne3 {a b : Int} (h : (-2147483648 ≤ a ∧ a < 2147483648) ∧ (-2147483648 ≤ b ∧ b < 2147483648) ∧ ¬ a = b) : ¬ i3 a = i3 b := by rw [i3_eq h.1 h.2.1]; exact h.2.2
theorem BIG_lt {N i : Nat} (h : N < 4096) : N < BIG + i := by unfold BIG; omega
theorem l3_m9 : (-9 : Int32) = i3 (-9) := by decide
theorem l3_m1 : (-1 : Int32) = i3 (-1) := by decide
theorem l3_0 : (0 : Int32) = i3 (0) := by decide
theorem l3_1 : (1 : Int32) = i3 (1) := by decide
theorem l3_2 : (2 : Int32) = i3 (2) := by decide
theorem l3_3 : (3 : Int32) = i3 (3) := by decide
theorem l3_4 : (4 : Int32) = i3 (4) := by decide
theorem l3_5 : (5 : Int32) = i3 (5) := by decide
theorem l3_6 : (6 : Int32) = i3 (6) := by decide
theorem l3_7 : (7 : Int32) = i3 (7) := by decide
theorem l3_8 : (8 : Int32) = i3 (8) := by decide
theorem l3_9 : (9 : Int32) = i3 (9) := by decide
theorem l3_10 : (10 : Int32) = i3 (10) := by decide
theorem l3_13 : (13 : Int32) = i3 (13) := by decide
theorem l3_14 : (14 : Int32) = i3 (14) := by decide
theorem l3_15 : (15 : Int32) = i3 (15) := by decide
theorem l3_16 : (16 : Int32) = i3 (16) := by decide
theorem l3_28 : (28 : Int32) = i3 (28) := by decide
theorem l3_31 : (31 : Int32) = i3 (31) := by decide
theorem l3_33 : (33 : Int32) = i3 (33) := by decide
theorem l3_35 : (35 : Int32) = i3 (35) := by decide
theorem l3_36 : (36 : Int32) = i3 (36) := by decide
theorem l3_37 : (37 : Int32) = i3 (37) := by decide
theorem l3_38 : (38 : Int32) = i3 (38) := by decide
theorem l3_44 : (44 : Int32) = i3 (44) := by decide
theorem l3_46 : (46 : Int32) = i3 (46) := by decide
theorem l3_47 : (47 : Int32) = i3 (47) := by decide
theorem l3_48 : (48 : Int32) = i3 (48) := by decide
theorem l3_49 : (49 : Int32) = i3 (49) := by decide
theorem l3_50 : (50 : Int32) = i3 (50) := by decide
theorem l3_54 : (54 : Int32) = i3 (54) := by decide
theorem l3_58 : (58 : Int32) = i3 (58) := by decide
theorem l3_60 : (60 : Int32) = i3 (60) := by decide
theorem l3_63 : (63 : Int32) = i3 (63) := by decide
theorem l3_80 : (80 : Int32) = i3 (80) := by decide
theorem l3_96 : (96 : Int32) = i3 (96) := by decide
theorem l3_99 : (99 : Int32) = i3 (99) := by decide
theorem l3_100 : (100 : Int32) = i3 (100) := by decide
theorem l3_127 : (127 : Int32) = i3 (127) := by decide
theorem l3_216 : (216 : Int32) = i3 (216) := by decide
theorem l3_255 : (255 : Int32) = i3 (255) := by decide
theorem l3_650 : (650 : Int32) = i3 (650) := by decide
theorem l3_1000 : (1000 : Int32) = i3 (1000) := by decide
theorem l3_1296 : (1296 : Int32) = i3 (1296) := by decide
theorem i3_of (x : Int32) : ∃ z : Int, -2147483648 ≤ z ∧ z < 2147483648 ∧ x = i3 z := by
  have h1 := x.le_toInt
  have h2 := x.toInt_lt
  refine ⟨x.toInt, by omega, by omega, ?_⟩
  exact (Int32.ofInt_toInt x).symm
theorem i3_div {a b : Int} (h1 : 0 ≤ a ∧ a < 2147483648) (h2 : 0 < b ∧ b < 2147483648) : i3 a / i3 b = i3 (a / b) := by
  rw [← Int.tdiv_eq_ediv_of_nonneg h1.1]
  exact (Int32.ofInt_tdiv (by rw [Int32.toInt_minValue]; omega) (by rw [Int32.toInt_maxValue]; omega) (by rw [Int32.toInt_minValue]; omega) (by rw [Int32.toInt_maxValue]; omega)).symm
theorem i3_rem {a b : Int} (h1 : 0 ≤ a ∧ a < 2147483648) (h2 : 0 < b ∧ b < 2147483648) : remI (i3 a) (i3 b) = i3 (a % b) := by
  unfold remI
  rw [i3_div h1 h2, i3_mul, i3_sub]
  congr 1
  have := Int.emod_def a b
  rw [this, Int.mul_comm]
theorem i3_ofNat (n : Nat) : Int32.ofNat n = i3 n := (Int32.ofInt_eq_ofNat).symm
theorem i3_inb {z : Int} {n : Nat} (h1 : -2147483648 ≤ z ∧ z < 2147483648) : inb (i3 z) n ↔ (0 ≤ z ∧ z < n) := by
  have h0 : (0 : Int32) = i3 0 := rfl
  unfold inb
  rw [h0, i3_lt h1 (by omega)]
  constructor
  · intro h
    by_cases hz : z < 0
    · exact absurd (Or.inl hz) h
    · rw [i3_nat (by omega) h1.2] at h
      omega
  · intro h
    rw [i3_nat h.1 h1.2]
    omega
/-! sums over the numbers below n -/
def zs : Nat → (Nat → Int) → Int
  | 0, _ => 0
  | n + 1, f => zs n f + f n
theorem zs_0 (f : Nat → Int) : zs 0 f = 0 := rfl
theorem zs_s (n : Nat) (f : Nat → Int) : zs (n + 1) f = zs n f + f n := rfl
theorem zs_congr {n : Nat} {f g : Nat → Int} (h : ∀ i, i < n → f i = g i) : zs n f = zs n g := by
  induction n with
  | zero => rfl
  | succ n ih => rw [zs_s, zs_s, ih (fun i hi => h i (by omega)), h n (by omega)]
theorem zs_add (n : Nat) (f g : Nat → Int) : zs n (fun i => f i + g i) = zs n f + zs n g := by
  induction n with
  | zero => rfl
  | succ n ih => simp only [zs_s, ih]; omega
theorem zs_sub (n : Nat) (f g : Nat → Int) : zs n (fun i => f i - g i) = zs n f - zs n g := by
  induction n with
  | zero => rfl
  | succ n ih => simp only [zs_s, ih]; omega
theorem zs_zero (n : Nat) : zs n (fun _ => 0) = 0 := by
  induction n with
  | zero => rfl
  | succ n ih => simp only [zs_s, ih]; rfl
theorem zs_le {n : Nat} {f g : Nat → Int} (h : ∀ i, i < n → f i ≤ g i) : zs n f ≤ zs n g := by
  induction n with
  | zero => exact Int.le_refl _
  | succ n ih =>
    have h1 := ih (fun i hi => h i (by omega))
    have h2 := h n (by omega)
    simp only [zs_s]; omega
theorem zs_lt {n : Nat} {f g : Nat → Int} (h : ∀ i, i < n → f i ≤ g i) (k : Nat) (hk : k < n) (hl : f k < g k) : zs n f < zs n g := by
  induction n with
  | zero => omega
  | succ n ih =>
    have h2 := h n (by omega)
    simp only [zs_s]
    by_cases hkn : k = n
    · subst hkn
      have := zs_le (n := k) (f := f) (g := g) (fun i hi => h i (by omega))
      omega
    · have := ih (fun i hi => h i (by omega)) (by omega)
      omega
theorem zs_comm (n m : Nat) (f : Nat → Nat → Int) : zs n (fun i => zs m (fun j => f i j)) = zs m (fun j => zs n (fun i => f i j)) := by
  induction n with
  | zero => simp only [zs_0]; rw [zs_zero]
  | succ n ih => simp only [zs_s, ih, zs_add]
theorem zs_pos {n : Nat} {f : Nat → Int} (h : ∀ i, i < n → 0 ≤ f i) : 0 ≤ zs n f := by
  have := zs_le (n := n) (f := fun _ => 0) (g := f) h
  rwa [zs_zero] at this
theorem zs_bnd {n : Nat} {f : Nat → Int} (c : Int) (h : ∀ i, i < n → f i ≤ c) : zs n f ≤ n * c := by
  induction n with
  | zero => simp [zs_0]
  | succ n ih =>
    have h1 := ih (fun i hi => h i (by omega))
    have h2 := h n (by omega)
    rw [zs_s, show ((n + 1 : Nat) : Int) * c = n * c + c from by push_cast; rw [Int.add_mul, Int.one_mul]]
    omega
theorem zs_eq_zero {n : Nat} {f : Nat → Int} (h : ∀ i, i < n → 0 ≤ f i) (hz : zs n f = 0) : ∀ i, i < n → f i = 0 := by
  intro i hi
  by_cases h0 : f i = 0
  · exact h0
  · have := zs_lt (n := n) (f := fun _ => 0) (g := f) h i hi (by have := h i hi; omega)
    rw [zs_zero] at this
    omega
theorem zs_ext0 {n m : Nat} {f : Nat → Int} (hnm : n ≤ m) (h : ∀ i, n ≤ i → i < m → f i = 0) : zs m f = zs n f := by
  induction m with
  | zero => rw [show n = 0 from by omega]
  | succ m ih =>
    by_cases hm : n = m + 1
    · rw [hm]
    · rw [zs_s, ih (by omega) (fun i h1 h2 => h i h1 (by omega)), h m (by omega) (by omega)]; omega
def b2 (b : Bool) : Int := if b then 1 else 0
theorem b2_t : b2 true = 1 := rfl
theorem b2_f : b2 false = 0 := rfl
theorem b2_0 (b : Bool) : 0 ≤ b2 b := by cases b <;> decide
theorem b2_1 (b : Bool) : b2 b ≤ 1 := by cases b <;> decide
theorem b2_eq1 {b : Bool} : b2 b = 1 ↔ b = true := by cases b <;> decide
theorem b2_eq0 {b : Bool} : b2 b = 0 ↔ b = false := by cases b <;> decide
/-! steps of a lifted function; their proofs are not by computing alone, so that no checker computes a loop -/
theorem nr {α : Type} {a b : α} (h : a = b) : a = b := h.trans (Eq.refl b)
theorem lt_k {α : Type} (v : α) (k : α → Out) : lt v k = k v := nr (by unfold lt; rfl)
theorem ck_k {c : Prop} [Decidable c] (h : c) (k : Out) : ck c k = k := nr (if_pos h)
theorem cI_k (x : Int32) (μ : Mem) (k : Int32 → Mem → Out) : cI (rI x μ) k = k x μ := nr (by unfold cI; rfl)
theorem cJ_k (x : Int64) (μ : Mem) (k : Int64 → Mem → Out) : cJ (rJ x μ) k = k x μ := nr (by unfold cJ; rfl)
theorem cV_k (μ : Mem) (k : Mem → Out) : cV (rV μ) k = k μ := nr (by unfold cV; rfl)
theorem cI_x (E : String) (μ : Mem) (k : Int32 → Mem → Out) : cI (rX E μ) k = rX E μ := nr (by unfold cI; rfl)
theorem cJ_x (E : String) (μ : Mem) (k : Int64 → Mem → Out) : cJ (rX E μ) k = rX E μ := nr (by unfold cJ; rfl)
theorem cV_x (E : String) (μ : Mem) (k : Mem → Out) : cV (rX E μ) k = rX E μ := nr (by unfold cV; rfl)
theorem cH_k (x : Int32) (μ : Mem) (hx : String → Mem → Out) (k : Int32 → Mem → Out) : cIH (rI x μ) hx k = k x μ := nr (by unfold cIH; rfl)
theorem cH_x (E : String) (μ : Mem) (hx : String → Mem → Out) (k : Int32 → Mem → Out) : cIH (rX E μ) hx k = hx E μ := nr (by unfold cIH; rfl)
/-! loops -/
theorem zloop_m {σ : Type} (L : Nat → σ → Out) (P : σ → Prop) (m : σ → Nat) (Q : Out → Prop)
    (h : ∀ n s, P s → (∃ s', P s' ∧ m s' < m s ∧ L (n + 1) s = L n s') ∨ Q (L (n + 1) s)) : ∀ n s, P s → m s < n → Q (L n s) := by
  intro n
  induction n with
  | zero => intro s _ hm; omega
  | succ n ih =>
    intro s hs hm
    rcases h n s hs with ⟨s', h1, h2, h3⟩ | h4
    · rw [h3]; exact ih s' h1 (by omega)
    · exact h4
/-- a loop that counts up to N, its state a word of the count -/
theorem loop_up (L : Nat → Nat → Out) (N : Nat) (r : Out) (h0 : ∀ n, L (n + 1) N = r) (h1 : ∀ n i, i < N → L (n + 1) i = L n (i + 1)) : ∀ n i, i ≤ N → N < n + i → L n i = r := by
  intro n
  induction n with
  | zero => intro i h2 h3; omega
  | succ n ih =>
    intro i h2 h3
    by_cases hi : i = N
    · subst hi; exact h0 n
    · rw [h1 n i (by omega)]
      exact ih (i + 1) (by omega) (by omega)
/-- a loop that counts up to N with a state beside the count -/
theorem loop_st {σ : Type} (L : Nat → Nat → σ → Out) (P : Nat → σ → Prop) (Q : Out → Prop) (N : Nat)
    (h0 : ∀ n s, P N s → Q (L (n + 1) N s)) (h1 : ∀ n i s, i < N → P i s → (∃ s', P (i + 1) s' ∧ L (n + 1) i s = L n (i + 1) s') ∨ Q (L (n + 1) i s)) : ∀ n i s, i ≤ N → N < n + i → P i s → Q (L n i s) := by
  intro n
  induction n with
  | zero => intro i s h2 h3; omega
  | succ n ih =>
    intro i s h2 h3 h4
    by_cases hi : i = N
    · subst hi; exact h0 n s h4
    · rcases h1 n i s (by omega) h4 with ⟨s', h5, h6⟩ | h7
      · rw [h6]; exact ih (i + 1) s' (by omega) (by omega) h5
      · exact h7
/-! bits of a long -/
def tb (x : Int64) (i : Nat) : Bool := x.toBitVec.getLsbD i
theorem tb_ext {x y : Int64} (h : ∀ i, i < 64 → tb x i = tb y i) : x = y := by
  apply Int64.toBitVec_inj.1
  apply BitVec.eq_of_getLsbD_eq
  exact h
theorem tb_hi (x : Int64) {i : Nat} (h : 64 ≤ i) : tb x i = false := BitVec.getLsbD_of_ge _ _ h
theorem tb_and (x y : Int64) (i : Nat) : tb (x &&& y) i = (tb x i && tb y i) := by simp [tb]
theorem tb_or (x y : Int64) (i : Nat) : tb (x ||| y) i = (tb x i || tb y i) := by simp [tb]
theorem tb_xor (x y : Int64) (i : Nat) : tb (x ^^^ y) i = (tb x i ^^ tb y i) := by simp [tb]
theorem tb_0 (i : Nat) : tb 0 i = false := by simp [tb]
theorem tb_m1 (i : Nat) : tb (-1) i = decide (i < 64) := by
  have : (-1 : Int64).toBitVec = BitVec.allOnes 64 := by decide
  unfold tb; rw [this, BitVec.getLsbD_allOnes]
theorem tb_not (x : Int64) {i : Nat} (h : i < 64) : tb (x ^^^ (-1 : Int64)) i = !(tb x i) := by
  rw [tb_xor, tb_m1]; simp [h]
theorem i3_shamt {k : Nat} (h : k < 64) : ((i3 k).toInt64 &&& 63) = Int64.ofNat k := by
  have : ∀ k : Fin 64, ((i3 (k.val : Int)).toInt64 &&& 63) = Int64.ofNat k.val := by decide +kernel
  exact this ⟨k, h⟩
theorem tb_shl (x : Int64) {k : Nat} (hk : k < 64) (i : Nat) : tb (shlL x (i3 k)) i = (decide (i < 64) && decide (k ≤ i) && tb x (i - k)) := by
  unfold shlL tb
  rw [i3_shamt hk, Int64.toBitVec_shiftLeft]
  have h1 : (Int64.ofNat k).toBitVec.smod 64 = BitVec.ofNat 64 k := by
    have : ∀ k : Fin 64, (Int64.ofNat k.val).toBitVec.smod 64 = BitVec.ofNat 64 k.val := by decide +kernel
    exact this ⟨k, hk⟩
  rw [h1]
  have h2 : (BitVec.ofNat 64 k).toNat = k := by simp; omega
  rw [BitVec.shiftLeft_eq', h2, BitVec.getLsbD_shiftLeft]
  by_cases h3 : k ≤ i
  · have h4 : ¬ i < k := by omega
    simp [h3, h4]
  · have h4 : i < k := by omega
    simp [h3, h4]
theorem tb_ushr (x : Int64) {k : Nat} (hk : k < 64) (i : Nat) : tb (ushrL x (i3 k)) i = tb x (i + k) := by
  unfold ushrL tb
  have h1 : ((i3 k).toInt64.toUInt64 &&& Int64.toUInt64 63) = UInt64.ofNat k := by
    have : ∀ k : Fin 64, ((i3 (k.val : Int)).toInt64.toUInt64 &&& Int64.toUInt64 63) = UInt64.ofNat k.val := by decide +kernel
    exact this ⟨k, hk⟩
  rw [h1]
  show (x.toUInt64 >>> UInt64.ofNat k).toBitVec.getLsbD i = _
  rw [UInt64.toBitVec_shiftRight]
  have h2 : ((UInt64.ofNat k).toBitVec % 64).toNat = k := by
    have : ∀ k : Fin 64, ((UInt64.ofNat k.val).toBitVec % 64).toNat = k.val := by decide +kernel
    exact this ⟨k, hk⟩
  rw [BitVec.ushiftRight_eq', h2, BitVec.getLsbD_ushiftRight, Nat.add_comm]
  rfl
theorem zcmp_eq (x y : Int64) : (lg_cmp x y = 0) = (x = y) := by
  unfold lg_cmp
  apply propext
  constructor
  · intro h
    split at h
    · exact absurd h (by decide)
    · split at h
      · assumption
      · exact absurd h (by decide)
  · intro h
    subst h
    simp
