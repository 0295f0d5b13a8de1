/-! memory -/
theorem sI_1 (μ : Mem) (k j : Nat) (v : Int32) : (sI μ k j v).1 = up2 μ.1 k j v := rfl
theorem sI_2 (μ : Mem) (k j : Nat) (v : Int32) : (sI μ k j v).2 = μ.2 := rfl
theorem sJ_1 (μ : Mem) (k j : Nat) (v : Int64) : (sJ μ k j v).1 = μ.1 := rfl
theorem sJ_21 (μ : Mem) (k j : Nat) (v : Int64) : (sJ μ k j v).2.1 = up2 μ.2.1 k j v := rfl
theorem sJ_22 (μ : Mem) (k j : Nat) (v : Int64) : (sJ μ k j v).2.2 = μ.2.2 := rfl
theorem sR_1 (μ : Mem) (k j : Nat) (v : Nat) : (sR μ k j v).1 = μ.1 := rfl
theorem sR_21 (μ : Mem) (k j : Nat) (v : Nat) : (sR μ k j v).2.1 = μ.2.1 := rfl
theorem sR_22 (μ : Mem) (k j : Nat) (v : Nat) : (sR μ k j v).2.2 = up2 μ.2.2 k j v := rfl
theorem up2_a {α : Type} (f : Nat → Nat → α) (k j : Nat) (v : α) (a b : Nat) : up2 f k j v a b = if a = k ∧ b = j then v else f a b := rfl
/-- nothing but the places of W has changed -/
def fr (W : List Nat) (μ μ' : Mem) : Prop := ∀ k, k ∉ W → μ'.1 k = μ.1 k ∧ μ'.2.1 k = μ.2.1 k ∧ μ'.2.2 k = μ.2.2 k
theorem fr_rf (W : List Nat) (μ : Mem) : fr W μ μ := fun _ _ => ⟨rfl, rfl, rfl⟩
theorem fr_tr {W : List Nat} {μ μ1 μ2 : Mem} (h1 : fr W μ μ1) (h2 : fr W μ1 μ2) : fr W μ μ2 := fun k hk =>
  ⟨(h2 k hk).1.trans (h1 k hk).1, (h2 k hk).2.1.trans (h1 k hk).2.1, (h2 k hk).2.2.trans (h1 k hk).2.2⟩
theorem fr_w {A B : List Nat} {μ μ' : Mem} (h : fr A μ μ') (hs : ∀ k, k ∈ A → k ∈ B) : fr B μ μ' := fun k hk => h k (fun q => hk (hs k q))
theorem fr_sI {W : List Nat} {μ : Mem} {k j : Nat} {v : Int32} (h : k ∈ W) : fr W μ (sI μ k j v) := fun a ha =>
  ⟨up2_row μ.1 k j v (fun q => ha (q ▸ h)), rfl, rfl⟩
theorem fr_sJ {W : List Nat} {μ : Mem} {k j : Nat} {v : Int64} (h : k ∈ W) : fr W μ (sJ μ k j v) := fun a ha =>
  ⟨rfl, up2_row μ.2.1 k j v (fun q => ha (q ▸ h)), rfl⟩
theorem fr_sR {W : List Nat} {μ : Mem} {k j : Nat} {v : Nat} (h : k ∈ W) : fr W μ (sR μ k j v) := fun a ha =>
  ⟨rfl, rfl, up2_row μ.2.2 k j v (fun q => ha (q ▸ h))⟩
theorem fr_1 {W : List Nat} {μ μ' : Mem} (h : fr W μ μ') {k : Nat} (hk : k ∉ W) (j : Nat) : μ'.1 k j = μ.1 k j := by rw [(h k hk).1]
theorem fr_2 {W : List Nat} {μ μ' : Mem} (h : fr W μ μ') {k : Nat} (hk : k ∉ W) (j : Nat) : μ'.2.1 k j = μ.2.1 k j := by rw [(h k hk).2.1]
theorem fr_3 {W : List Nat} {μ μ' : Mem} (h : fr W μ μ') {k : Nat} (hk : k ∉ W) (j : Nat) : μ'.2.2 k j = μ.2.2 k j := by rw [(h k hk).2.2]
/-! the bit of one cell -/
def bv (i : Nat) : Int64 := shlL 1 (i3 i)
theorem tb_1 (i : Nat) : tb 1 i = decide (i = 0) := by
  unfold tb
  rw [Int64.toBitVec_one, BitVec.getLsbD_one]
  simp
theorem tb_bv {k : Nat} (hk : k < 64) (i : Nat) : tb (bv k) i = decide (i = k) := by
  unfold bv
  rw [tb_shl _ hk, tb_1]
  by_cases h : i = k
  · subst h; simp [hk]
  · by_cases h2 : k ≤ i
    · have : ¬ (i - k = 0) := by omega
      simp [h, this]
    · simp [h, h2]
/-- the cell (r, c) of a set of cells -/
def zc (x : Int64) (r c : Nat) : Prop := r < 8 ∧ c < 8 ∧ tb x (8 * r + c) = true
/-- a set of cells of the board of 6 rows and 6 columns -/
def brd (x : Int64) : Prop := ∀ i, i < 64 → tb x i = true → i / 8 < 6 ∧ i % 8 < 6
theorem zc_brd {x : Int64} (h : brd x) {r c : Nat} (hc : zc x r c) : r < 6 ∧ c < 6 := by
  have := h (8 * r + c) (by have := hc.1; have := hc.2.1; omega) hc.2.2
  have h1 := hc.2.1
  omega
theorem zc_ext {x y : Int64} (h : ∀ r c, zc x r c ↔ zc y r c) : x = y := by
  apply tb_ext
  intro i hi
  have h1 := h (i / 8) (i % 8)
  unfold zc at h1
  rw [show 8 * (i / 8) + i % 8 = i from by omega] at h1
  have a1 : i / 8 < 8 := by omega
  have a2 : i % 8 < 8 := by omega
  cases hx : tb x i <;> cases hy : tb y i <;> simp_all
theorem zc_and (x y : Int64) (r c : Nat) : zc (x &&& y) r c ↔ zc x r c ∧ zc y r c := by
  unfold zc; rw [tb_and, Bool.and_eq_true]
  constructor
  · rintro ⟨a, b, d, e⟩; exact ⟨⟨a, b, d⟩, a, b, e⟩
  · rintro ⟨⟨a, b, d⟩, -, -, e⟩; exact ⟨a, b, d, e⟩
theorem zc_or (x y : Int64) (r c : Nat) : zc (x ||| y) r c ↔ zc x r c ∨ zc y r c := by
  unfold zc; rw [tb_or, Bool.or_eq_true]
  constructor
  · rintro ⟨a, b, d | e⟩
    · exact Or.inl ⟨a, b, d⟩
    · exact Or.inr ⟨a, b, e⟩
  · rintro (⟨a, b, d⟩ | ⟨a, b, e⟩)
    · exact ⟨a, b, Or.inl d⟩
    · exact ⟨a, b, Or.inr e⟩
theorem zc_not (x : Int64) (r c : Nat) : zc (x ^^^ (-1 : Int64)) r c ↔ r < 8 ∧ c < 8 ∧ ¬ zc x r c := by
  unfold zc
  constructor
  · rintro ⟨a, b, d⟩
    rw [tb_not _ (by omega)] at d
    refine ⟨a, b, fun q => ?_⟩
    rw [q.2.2] at d; cases d
  · rintro ⟨a, b, d⟩
    refine ⟨a, b, ?_⟩
    rw [tb_not _ (by omega)]
    cases h : tb x (8 * r + c) with
    | true => exact absurd ⟨a, b, h⟩ d
    | false => rfl
theorem zc_0 (r c : Nat) : ¬ zc 0 r c := by
  rintro ⟨-, -, h⟩
  rw [tb_0] at h; cases h
theorem zc_bv {k : Nat} (hk : k < 64) (r c : Nat) : zc (bv k) r c ↔ c < 8 ∧ 8 * r + c = k := by
  unfold zc
  rw [tb_bv hk]
  simp only [decide_eq_true_eq]
  omega
theorem zc_shl1 {x : Int64} (h : brd x) (r c : Nat) : zc (shlL x (1 : Int32)) r c ↔ c < 8 ∧ 1 ≤ c ∧ zc x r (c - 1) := by
  unfold zc
  rw [show (1 : Int32) = i3 ((1 : Nat) : Int) from rfl, tb_shl x (by decide)]
  simp only [Bool.and_eq_true, decide_eq_true_eq]
  constructor
  · rintro ⟨a, b, ⟨d, e⟩, f⟩
    have := h (8 * r + c - 1) (by omega) f
    have hc : 1 ≤ c := by omega
    rw [show 8 * r + c - 1 = 8 * r + (c - 1) from by omega] at f
    exact ⟨b, hc, a, by omega, f⟩
  · rintro ⟨a, b, d, e, f⟩
    refine ⟨d, a, ⟨by omega, by omega⟩, ?_⟩
    rw [show 8 * r + c - 1 = 8 * r + (c - 1) from by omega]
    exact f
theorem zc_shr1 {x : Int64} {r c : Nat} (hc : c < 7) : zc (ushrL x (1 : Int32)) r c ↔ zc x r (c + 1) := by
  unfold zc
  rw [show (1 : Int32) = i3 ((1 : Nat) : Int) from rfl, tb_ushr x (by decide)]
  constructor
  · rintro ⟨a, b, d⟩; exact ⟨a, by omega, d⟩
  · rintro ⟨a, b, d⟩; exact ⟨a, by omega, d⟩
theorem zc_shl8 (x : Int64) (r c : Nat) : zc (shlL x (8 : Int32)) r c ↔ r < 8 ∧ 1 ≤ r ∧ zc x (r - 1) c := by
  unfold zc
  rw [show (8 : Int32) = i3 ((8 : Nat) : Int) from rfl, tb_shl x (by decide)]
  simp only [Bool.and_eq_true, decide_eq_true_eq]
  constructor
  · rintro ⟨a, b, ⟨d, e⟩, f⟩
    have hc : 1 ≤ r := by omega
    rw [show 8 * r + c - 8 = 8 * (r - 1) + c from by omega] at f
    exact ⟨a, hc, by omega, b, f⟩
  · rintro ⟨a, b, d, e, f⟩
    refine ⟨a, e, ⟨by omega, by omega⟩, ?_⟩
    rw [show 8 * r + c - 8 = 8 * (r - 1) + c from by omega]
    exact f
theorem zc_shr8 (x : Int64) (r c : Nat) : zc (ushrL x (8 : Int32)) r c ↔ zc x (r + 1) c := by
  unfold zc
  rw [show (8 : Int32) = i3 ((8 : Nat) : Int) from rfl, tb_ushr x (by decide)]
  constructor
  · rintro ⟨a, b, d⟩
    rw [show 8 * r + c + 8 = 8 * (r + 1) + c from by omega] at d
    refine ⟨?_, b, d⟩
    by_cases h : r + 1 < 8
    · exact h
    · rw [tb_hi x (by omega)] at d; cases d
  · rintro ⟨a, b, d⟩
    rw [show 8 * r + c + 8 = 8 * (r + 1) + c from by omega]
    exact ⟨by omega, b, d⟩
theorem brd_iff (x : Int64) : brd x ↔ ∀ r c, zc x r c → r < 6 ∧ c < 6 := by
  constructor
  · exact fun h r c hc => zc_brd h hc
  · intro h i hi ht
    have := h (i / 8) (i % 8) ⟨by omega, by omega, by rw [show 8 * (i / 8) + i % 8 = i from by omega]; exact ht⟩
    exact this
theorem tb_low (x : Int64) (i : Nat) : tb (x &&& (-x)) i = true ↔ (tb x i = true ∧ ∀ j, j < i → tb x j = false) := by
  rw [tb_and]
  unfold tb
  rw [Int64.toBitVec_neg, BitVec.getLsbD_neg]
  by_cases h64 : i < 64
  · cases hx : x.toBitVec.getLsbD i with
    | false => simp
    | true =>
      simp [h64]
  · rw [BitVec.getLsbD_of_ge _ _ (by omega)]
    simp
/-! how many cells -/
def z2 (g : Nat → Nat → Int) : Int := zs 6 (fun r => zs 6 (fun c => g r c))
theorem z2_congr {g h : Nat → Nat → Int} (e : ∀ r c, r < 6 → c < 6 → g r c = h r c) : z2 g = z2 h := zs_congr (fun r hr => zs_congr (fun c hc => e r c hr hc))
theorem z2_add (g h : Nat → Nat → Int) : z2 (fun r c => g r c + h r c) = z2 g + z2 h := by
  unfold z2; rw [← zs_add]; exact zs_congr (fun r _ => zs_add 6 _ _)
theorem pc_88 (x : Int64) : pc x = zs 8 (fun r => zs 8 (fun c => b2 (tb x (8 * r + c)))) := zs_mul8 8 _
theorem pc_z2 {x : Int64} (h : brd x) : pc x = z2 (fun r c => b2 (tb x (8 * r + c))) := by
  rw [pc_88]
  have h0 : ∀ r c, r < 8 → c < 8 → 6 ≤ r ∨ 6 ≤ c → b2 (tb x (8 * r + c)) = 0 := by
    intro r c hr hc hh
    cases ht : tb x (8 * r + c) with
    | false => rfl
    | true => have := h (8 * r + c) (by omega) ht; omega
  unfold z2
  rw [zs_ext0 (n := 6) (m := 8) (by decide)]
  · apply zs_congr; intro r hr
    exact zs_ext0 (by decide) (fun c h1 h2 => h0 r c (by omega) h2 (Or.inr h1))
  · intro r h1 h2
    exact (zs_congr (fun c hc => h0 r c h2 hc (Or.inl h1))).trans (zs_zero 8)
theorem pc_36 {x : Int64} (h : brd x) : pc x ≤ 36 := by
  rw [pc_z2 h]
  have h1 : ∀ r, zs 6 (fun c => b2 (tb x (8 * r + c))) ≤ 6 := fun r => by
    have := zs_bnd (n := 6) (f := fun c => b2 (tb x (8 * r + c))) 1 (fun i _ => b2_1 _)
    omega
  have := zs_bnd (n := 6) (f := fun r => zs 6 (fun c => b2 (tb x (8 * r + c)))) 6 (fun r _ => h1 r)
  show zs 6 (fun r => zs 6 (fun c => b2 (tb x (8 * r + c)))) ≤ 36
  omega
theorem pc_mono {x y : Int64} (h : ∀ r c, zc x r c → zc y r c) {r c : Nat} (h1 : ¬ zc x r c) (h2 : zc y r c) : pc x < pc y := by
  unfold pc
  refine zs_lt (fun i hi => ?_) (8 * r + c) (by have := h2.1; have := h2.2.1; omega) ?_
  · cases ht : tb x i with
    | false => rw [b2_f]; exact b2_0 _
    | true =>
      have := h (i / 8) (i % 8) ⟨by omega, by omega, by rw [show 8 * (i / 8) + i % 8 = i from by omega]; exact ht⟩
      have h3 := this.2.2
      rw [show 8 * (i / 8) + i % 8 = i from by omega] at h3
      rw [h3]; exact Int.le_refl _
  · have h4 : tb x (8 * r + c) = false := by
      cases ht : tb x (8 * r + c) with
      | false => rfl
      | true => exact absurd ⟨h2.1, h2.2.1, ht⟩ h1
    rw [h4, h2.2.2]; decide
/-! pieces -/
abbrev CS : Type := Nat → Nat → Prop
def adj (r c r' c' : Nat) : Prop := (r = r' ∧ (c + 1 = c' ∨ c' + 1 = c)) ∨ (c = c' ∧ (r + 1 = r' ∨ r' + 1 = r))
/-- the first cell of a set -/
def isF (S : CS) (r c : Nat) : Prop := S r c ∧ ∀ r' c', S r' c' → r < r' ∨ (r = r' ∧ c ≤ c')
/-- the piece of the first cell -/
def cmp (S : CS) : CS := fun r c => ∀ T : CS, (∀ r c, isF S r c → T r c) → (∀ r c r' c', T r c → adj r c r' c' → S r' c' → T r' c') → T r c
theorem cmp_in {S : CS} {r c : Nat} (h : cmp S r c) : S r c := h S (fun _ _ q => q.1) (fun _ _ _ _ _ _ q => q)
theorem cmp_F {S : CS} {r c : Nat} (h : isF S r c) : cmp S r c := fun _ hF _ => hF r c h
theorem cmp_adj {S : CS} {r c r' c' : Nat} (h : cmp S r c) (ha : adj r c r' c') (hS : S r' c') : cmp S r' c' := fun T hF hT => hT r c r' c' (h T hF hT) ha hS
/-- what is left when n pieces are gone -/
def rs (S : CS) : Nat → CS
  | 0 => S
  | n + 1 => fun r c => rs S n r c ∧ ¬ cmp (rs S n) r c
theorem rs_in {S : CS} : ∀ {n : Nat} {r c : Nat}, rs S n r c → S r c
  | 0, _, _, h => h
  | _ + 1, _, _, h => rs_in h.1
theorem rs_mono {S : CS} {n m : Nat} (hnm : n ≤ m) {r c : Nat} (h : rs S m r c) : rs S n r c := by
  induction m with
  | zero => rw [show n = 0 from by omega]; exact h
  | succ m ih =>
    by_cases hm : n = m + 1
    · rw [hm]; exact h
    · exact ih (by omega) h.1
/-- S has n pieces -/
def npc (S : CS) (n : Nat) : Prop := (∀ r c, ¬ rs S n r c) ∧ ∀ m, m < n → ∃ r c, rs S m r c
theorem npc_inj {S : CS} {n m : Nat} (h1 : npc S n) (h2 : npc S m) : n = m := by
  by_cases h : n < m
  · obtain ⟨r, c, hr⟩ := h2.2 n h; exact absurd hr (h1.1 r c)
  · by_cases h' : m < n
    · obtain ⟨r, c, hr⟩ := h1.2 m h'; exact absurd hr (h2.1 r c)
    · omega
theorem zc_eq_zero {x : Int64} : x = 0 ↔ ∀ r c, ¬ zc x r c := by
  constructor
  · intro h r c; rw [h]; exact zc_0 r c
  · intro h
    exact zc_ext (fun r c => ⟨fun q => absurd q (h r c), fun q => absurd q (zc_0 r c)⟩)
theorem zc_low {x : Int64} (r c : Nat) : zc (x &&& (-x)) r c ↔ isF (zc x) r c := by
  constructor
  · rintro ⟨hr, hc, h⟩
    rw [tb_low] at h
    refine ⟨⟨hr, hc, h.1⟩, fun r' c' h' => ?_⟩
    by_cases hlt : 8 * r' + c' < 8 * r + c
    · have := h.2 _ hlt
      rw [h'.2.2] at this; cases this
    · have := h'.2.1; omega
  · rintro ⟨⟨hr, hc, h⟩, hmin⟩
    refine ⟨hr, hc, (tb_low x _).mpr ⟨h, fun j hj => ?_⟩⟩
    cases ht : tb x j with
    | false => rfl
    | true =>
      have hj64 : j < 64 := by omega
      have := hmin (j / 8) (j % 8) ⟨by omega, by omega, by rw [show 8 * (j / 8) + j % 8 = j from by omega]; exact ht⟩
      omega
theorem first_ex {x : Int64} (h : ¬ x = 0) : ∃ r c, isF (zc x) r c := by
  have h1 : ∃ i, tb x i = true := by
    apply Classical.byContradiction
    intro hn
    apply h
    apply tb_ext
    intro i _
    rw [tb_0]
    cases ht : tb x i with
    | false => rfl
    | true => exact absurd ⟨i, ht⟩ hn
  have h2 : ∀ n, (∃ i, i < n ∧ tb x i = true) → ∃ i, tb x i = true ∧ ∀ j, j < i → tb x j = false := by
    intro n
    induction n with
    | zero => rintro ⟨i, hi, -⟩; omega
    | succ n ih =>
      rintro ⟨i, hi, ht⟩
      by_cases hex : ∃ i, i < n ∧ tb x i = true
      · exact ih hex
      · refine ⟨i, ht, fun j hj => ?_⟩
        cases htj : tb x j with
        | false => rfl
        | true => exact absurd ⟨j, by omega, htj⟩ hex
  obtain ⟨i, hi⟩ := h1
  obtain ⟨i, h3, h4⟩ := h2 (i + 1) ⟨i, by omega, hi⟩
  have hi64 : i < 64 := by
    by_cases hq : i < 64
    · exact hq
    · rw [tb_hi x (by omega)] at h3; cases h3
  exact ⟨i / 8, i % 8, (zc_low _ _).mp ⟨by omega, by omega, by rw [show 8 * (i / 8) + i % 8 = i from by omega]; exact (tb_low x i).mpr ⟨h3, h4⟩⟩⟩
/-- one step of growing -/
theorem zc_grow {x y : Int64} (hx : brd x) (hy : ∀ r c, zc y r c → zc x r c) (r c : Nat) :
    zc (x &&& ((((y ||| (shlL y (1 : Int32))) ||| (ushrL y (1 : Int32))) ||| (shlL y (8 : Int32))) ||| (ushrL y (8 : Int32)))) r c ↔ zc x r c ∧ (zc y r c ∨ ∃ r' c', zc y r' c' ∧ adj r' c' r c) := by
  have hyb : brd y := (brd_iff y).mpr (fun r c h => zc_brd hx (hy r c h))
  simp only [zc_and, zc_or]
  constructor
  · rintro ⟨h1, h2⟩
    have hb := zc_brd hx h1
    refine ⟨h1, ?_⟩
    rcases h2 with (((h | h) | h) | h) | h
    · exact Or.inl h
    · rw [zc_shl1 hyb] at h
      exact Or.inr ⟨r, c - 1, h.2.2, Or.inl ⟨rfl, Or.inl (by omega)⟩⟩
    · rw [zc_shr1 (by omega)] at h
      exact Or.inr ⟨r, c + 1, h, Or.inl ⟨rfl, Or.inr rfl⟩⟩
    · rw [zc_shl8] at h
      exact Or.inr ⟨r - 1, c, h.2.2, Or.inr ⟨rfl, Or.inl (by omega)⟩⟩
    · rw [zc_shr8] at h
      exact Or.inr ⟨r + 1, c, h, Or.inr ⟨rfl, Or.inr rfl⟩⟩
  · rintro ⟨h1, h2⟩
    have hb := zc_brd hx h1
    refine ⟨h1, ?_⟩
    rcases h2 with h | ⟨r', c', h, ha⟩
    · exact Or.inl (Or.inl (Or.inl (Or.inl h)))
    · rcases ha with ⟨rfl, e | e⟩ | ⟨rfl, e | e⟩
      · refine Or.inl (Or.inl (Or.inl (Or.inr ?_)))
        rw [zc_shl1 hyb]
        exact ⟨by omega, by omega, by rw [show c - 1 = c' from by omega]; exact h⟩
      · refine Or.inl (Or.inl (Or.inr ?_))
        rw [zc_shr1 (by omega), show c + 1 = c' from by omega]; exact h
      · refine Or.inl (Or.inr ?_)
        rw [zc_shl8]
        exact ⟨by omega, by omega, by rw [show r - 1 = r' from by omega]; exact h⟩
      · refine Or.inr ?_
        rw [zc_shr8, show r + 1 = r' from by omega]; exact h
theorem firstPiece_code {x : Int64} (hx : brd x) (μ : Mem) : ∃ y, F_X0_firstPiece x μ = rJ y μ ∧ ∀ r c, zc y r c ↔ cmp (zc x) r c := by
  have l48 := l3_48
  have l1 := l3_1
  simp only [F_X0_firstPiece, lt_k]
  rw [show (0 : Int32) = i3 ((0 : Nat) : Int) from l3_0]
  refine loop_st (σ := Int64) (fun n i y => f_X0_firstPiece_8 n x y (i3 i) μ)
    (fun i y => (∀ r c, isF (zc x) r c → zc y r c) ∧ (∀ r c, zc y r c → cmp (zc x) r c) ∧ (x = 0 ∨ (i : Int) < pc y))
    (fun o => ∃ y, o = rJ y μ ∧ ∀ r c, zc y r c ↔ cmp (zc x) r c) 48 ?_ ?_ BIG 0 (x &&& (-x)) (by decide) (BIG_lt (by decide)) ⟨fun r c h => (zc_low r c).mpr h, fun r c h => cmp_F ((zc_low r c).mp h), ?_⟩
  · rintro n y ⟨h1, h2, h3⟩
    rcases h3 with h3 | h3
    · simp only [f_X0_firstPiece_8, l48]
      refine ⟨y, if_pos (le3 (by omega)), fun r c => ⟨h2 r c, fun h => absurd (cmp_in h) (by rw [h3]; exact zc_0 _ _)⟩⟩
    · exfalso
      have : brd y := (brd_iff y).mpr (fun r c h => zc_brd hx (cmp_in (h2 r c h)))
      have := pc_36 this
      omega
  · rintro n i y hi ⟨h1, h2, h3⟩
    simp only [f_X0_firstPiece_8, lt_k, l48, l1]
    rw [if_neg (nle3 (by omega))]
    generalize hz : (x &&& ((((y ||| (shlL y (i3 1))) ||| (ushrL y (i3 1))) ||| (shlL y (8 : Int32))) ||| (ushrL y (8 : Int32)))) = z
    have hg : ∀ r c, zc z r c ↔ zc x r c ∧ (zc y r c ∨ ∃ r' c', zc y r' c' ∧ adj r' c' r c) := by
      intro r c; rw [← hz]; exact zc_grow hx (fun r c h => cmp_in (h2 r c h)) r c
    simp only [zcmp_eq]
    by_cases he : z = y
    · right
      rw [if_pos he]
      refine ⟨y, rfl, fun r c => ⟨h2 r c, fun h => ?_⟩⟩
      refine h (zc y) h1 (fun r c r' c' hy ha hS => ?_)
      rw [← he, hg]
      exact ⟨hS, Or.inr ⟨r, c, hy, ha⟩⟩
    · left
      rw [if_neg he]
      refine ⟨z, ⟨fun r c h => ?_, fun r c h => ?_, ?_⟩, by rw [i3_add, Int.natCast_add]; rfl⟩
      · rw [hg]; exact ⟨h.1, Or.inl (h1 r c h)⟩
      · rw [hg] at h
        rcases h.2 with h' | ⟨r', c', h', ha⟩
        · exact h2 r c h'
        · exact cmp_adj (h2 r' c' h') ha h.1
      · have hsub : ∀ r c, zc y r c → zc z r c := fun r c h => (hg r c).mpr ⟨cmp_in (h2 r c h), Or.inl h⟩
        have hne : ∃ r c, zc z r c ∧ ¬ zc y r c := by
          apply Classical.byContradiction
          intro hn
          apply he
          apply zc_ext
          intro r c
          refine ⟨fun h => Classical.byContradiction (fun q => hn ⟨r, c, h, q⟩), hsub r c⟩
        obtain ⟨r, c, h4, h5⟩ := hne
        have := pc_mono hsub h5 h4
        rcases h3 with h3 | h3
        · exact Or.inl h3
        · right; push_cast; omega
  · by_cases hx0 : x = 0
    · exact Or.inl hx0
    · right
      obtain ⟨r, c, h⟩ := first_ex hx0
      have := pc_mono (x := 0) (y := x &&& (-x)) (fun r c h => absurd h (zc_0 r c)) (zc_0 r c) ((zc_low r c).mpr h)
      have h0 : pc 0 = 0 := (zs_congr (fun i _ => by rw [tb_0]; rfl)).trans (zs_zero 64)
      omega
