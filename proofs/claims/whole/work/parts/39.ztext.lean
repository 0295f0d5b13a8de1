/-! the text -/
def sg (n : Nat) (t : Nat → Nat) (i : Nat) : Nat := if i < n then t i else 0
theorem sg_255 {μ : Mem} {n : Nat} {t : Nat → Nat} (h : cT μ n t) (i : Nat) : sg n t i ≤ 255 := by
  unfold sg
  by_cases q : i < n
  · rw [if_pos q]; exact (h.2.2 i q).2
  · rw [if_neg q]; omega
theorem nc_code {z : Nat} (h : z ≤ 255) : nc (i3 z) := by
  have h1 : ∀ z : Fin 256, nc (i3 z.val) := by decide +kernel
  exact h1 ⟨z, by omega⟩
theorem signAt_code {μ : Mem} {n : Nat} {t : Nat → Nat} (h : cT μ n t) {i : Nat} (hi : i < 2147483648) : F_X6_signAt (i3 i) μ = rI (i3 (sg n t i)) μ := by
  have h60 := h.2.1
  simp only [F_X6_signAt, l3_0, l3_60, h.1]
  rw [if_neg (nlt3 (by omega))]
  unfold sg
  by_cases q : i < n
  · rw [if_neg (nle3 (by omega)), if_neg (nle3 (by omega)), ck_k (i3_in (by omega) (by decide)), clampN hi, (h.2.2 i q).1, ck_k (nc_code (h.2.2 i q).2), if_pos q]
  · rw [if_pos (le3 (by omega)), if_neg q]; rfl
theorem digitAt_code {μ : Mem} {n : Nat} {t : Nat → Nat} (h : cT μ n t) {i : Nat} (hi : i < 2147483648) : F_X6_digitAt (i3 i) μ = rI (i3 ((sg n t i : Int) - 48)) μ := by
  simp only [F_X6_digitAt, signAt_code h hi, cI_k, l3_48, i3_sub]
def cE (n : Nat) (t : Nat → Nat) : Int := 3 + ((sg n t 1 : Int) - 48) * ((sg n t 2 : Int) - 48)
def wE (n : Nat) (t : Nat → Nat) : Int := cE n t + 1 + ((sg n t 1 : Int) - 48) + ((sg n t 2 : Int) - 48)
theorem cE_bd {μ : Mem} {n : Nat} {t : Nat → Nat} (h : cT μ n t) : -50000 ≤ cE n t ∧ cE n t ≤ 50000 := by
  have h1 := sg_255 h 1
  have h2 := sg_255 h 2
  have h3 : (((sg n t 1 : Int) - 48) * ((sg n t 2 : Int) - 48)).natAbs ≤ 207 * 207 := by
    rw [Int.natAbs_mul]
    exact Nat.mul_le_mul (by omega) (by omega)
  unfold cE
  generalize ((sg n t 1 : Int) - 48) * ((sg n t 2 : Int) - 48) = a at h3 ⊢
  omega
theorem cellsEnd_code {μ : Mem} {n : Nat} {t : Nat → Nat} (h : cT μ n t) : F_X6_cellsEnd μ = rI (i3 (cE n t)) μ := by
  have d1 := digitAt_code h (i := 1) (by decide)
  have d2 := digitAt_code h (i := 2) (by decide)
  simp only [F_X6_cellsEnd, l3_1, l3_2, l3_3]
  rw [show i3 1 = i3 ((1 : Nat) : Int) from rfl, d1, cI_k, show i3 2 = i3 ((2 : Nat) : Int) from rfl, d2, cI_k, i3_mul, i3_add]
  rfl
theorem wantsEnd_code {μ : Mem} {n : Nat} {t : Nat → Nat} (h : cT μ n t) : F_X6_wantsEnd μ = rI (i3 (wE n t)) μ := by
  have d1 := digitAt_code h (i := 1) (by decide)
  have d2 := digitAt_code h (i := 2) (by decide)
  simp only [F_X6_wantsEnd, cellsEnd_code h, cI_k, l3_1, l3_2]
  rw [show i3 1 = i3 ((1 : Nat) : Int) from rfl, d1, cI_k, show i3 2 = i3 ((2 : Nat) : Int) from rfl, d2, cI_k, i3_add, show ((1 : Nat) : Int) = 1 from rfl, i3_add, i3_add]
  rfl
theorem isCellSign_code {z : Nat} (hz : z ≤ 255) (μ : Mem) : F_X6_isCellSign (i3 z) μ = rI (i3 (if z = 46 ∨ z = 35 ∨ z = 44 ∨ z = 37 then 1 else 0)) μ := by
  have e : ∀ k : Nat, k ≤ 255 → ((i3 (z : Int) = i3 (k : Int)) = (z = k)) := fun k hk => by
    rw [i3_eq (by omega) (by omega)]; apply propext; omega
  simp only [F_X6_isCellSign, show (46 : Int32) = i3 ((46 : Nat) : Int) from l3_46, show (35 : Int32) = i3 ((35 : Nat) : Int) from l3_35, show (44 : Int32) = i3 ((44 : Nat) : Int) from l3_44, show (37 : Int32) = i3 ((37 : Nat) : Int) from l3_37, e 46 (by decide), e 35 (by decide), e 44 (by decide), e 37 (by decide), l3_0, l3_1]
  by_cases h1 : z = 46
  · simp [h1]
  · by_cases h2 : z = 35
    · simp [h2]
    · by_cases h3 : z = 44
      · simp [h3]
      · by_cases h4 : z = 37
        · simp [h4]
        · simp [h1, h2, h3, h4]
theorem isDigit_code {μ : Mem} {n : Nat} {t : Nat → Nat} (h : cT μ n t) {i : Nat} (hi : i < 2147483648) {b : Int} (hb : 0 ≤ b ∧ b ≤ 9) : F_X6_isDigit (i3 i) (i3 b) μ = rI (i3 (if 48 + b ≤ sg n t i ∧ sg n t i ≤ 54 then 1 else 0)) μ := by
  have h1 := sg_255 h i
  simp only [F_X6_isDigit, digitAt_code h hi, cI_k, l3_6, l3_0, l3_1]
  by_cases q : (sg n t i : Int) - 48 < b
  · rw [if_pos (lt3 (by omega)), if_neg (by omega)]
  · rw [if_neg (nlt3 (by omega))]
    by_cases q2 : 6 < (sg n t i : Int) - 48
    · rw [if_pos (lt3 (by omega)), if_neg (by omega)]
    · rw [if_neg (nlt3 (by omega)), if_pos (by omega)]
/-- the sign at i is allowed there, if all ahead of it are -/
def al (n : Nat) (t : Nat → Nat) (i : Nat) : Prop := (i = 0 ∧ sg n t 0 = 80) ∨ (1 ≤ i ∧ i < 3 ∧ 49 ≤ sg n t i ∧ sg n t i ≤ 54) ∨
  (3 ≤ i ∧ (i : Int) < cE n t ∧ (sg n t i = 46 ∨ sg n t i = 35 ∨ sg n t i = 44 ∨ sg n t i = 37)) ∨ (3 ≤ i ∧ (i : Int) = cE n t ∧ sg n t i = 58) ∨ (3 ≤ i ∧ cE n t < i ∧ (i : Int) < wE n t ∧ 48 ≤ sg n t i ∧ sg n t i ≤ 54)
theorem wE_bd {μ : Mem} {n : Nat} {t : Nat → Nat} (h : cT μ n t) : -60000 ≤ wE n t ∧ wE n t ≤ 60000 := by
  have h1 := sg_255 h 1
  have h2 := sg_255 h 2
  have h3 := cE_bd h
  unfold wE; omega
theorem isAllowed_code {μ : Mem} {n : Nat} {t : Nat → Nat} (h : cT μ n t) {i : Nat} (hi : i < 60) : (F_X6_isAllowed (i3 i) μ = rI (i3 1) μ ∧ al n t i) ∨ (F_X6_isAllowed (i3 i) μ = rI (i3 0) μ ∧ ¬ al n t i) := by
  have hs := sg_255 h i
  have hc := cE_bd h
  have hw := wE_bd h
  have sc := signAt_code h (i := i) (by omega)
  have nz0 : ∀ k : Out, ck (nz (i3 0)) k = k := fun k => ck_k (nz01 (Or.inl rfl)) k
  have nz1 : ∀ k : Out, ck (nz (i3 1)) k = k := fun k => ck_k (nz01 (Or.inr rfl)) k
  simp only [F_X6_isAllowed, sc, cI_k, cellsEnd_code h, wantsEnd_code h, show (80 : Int32) = i3 80 from l3_80, l3_3, show (58 : Int32) = i3 58 from l3_58, l3_0, l3_1, isDigit_code h (show i < 2147483648 by omega) (show (0 : Int) ≤ 0 ∧ (0 : Int) ≤ 9 by decide), isDigit_code h (show i < 2147483648 by omega) (show (0 : Int) ≤ 1 ∧ (1 : Int) ≤ 9 by decide), isCellSign_code hs]
  unfold al
  by_cases e0 : i = 0
  · subst e0
    rw [if_pos (by decide)]
    by_cases q : sg n t 0 = 80
    · left; rw [if_pos (by rw [q]; rfl)]; exact ⟨rfl, Or.inl ⟨rfl, q⟩⟩
    · right; rw [if_neg (ne3 (by omega))]; exact ⟨rfl, by omega⟩
  · rw [if_neg (ne3 (by omega))]
    by_cases e1 : 3 ≤ i
    · rw [if_pos (le3 (by omega))]
      by_cases e2 : cE n t ≤ i
      · rw [if_pos (le3 (by omega))]
        by_cases e3 : (i : Int) = cE n t
        · rw [if_pos (by rw [e3])]
          by_cases q : sg n t i = 58
          · left; rw [if_pos (by rw [q]; rfl)]; exact ⟨rfl, by omega⟩
          · right; rw [if_neg (ne3 (by omega))]; exact ⟨rfl, by omega⟩
        · rw [if_neg (ne3 (by omega))]
          by_cases e4 : wE n t ≤ i
          · right; rw [if_pos (le3 (by omega))]; exact ⟨rfl, by omega⟩
          · rw [if_neg (nle3 (by omega))]
            by_cases q : 48 + (0 : Int) ≤ sg n t i ∧ sg n t i ≤ 54
            · left; rw [if_pos q, if_neg (by decide)]; exact ⟨rfl, by omega⟩
            · right; rw [if_neg q, if_pos (by decide)]; exact ⟨rfl, by omega⟩
      · rw [if_neg (nle3 (by omega))]
        by_cases q : sg n t i = 46 ∨ sg n t i = 35 ∨ sg n t i = 44 ∨ sg n t i = 37
        · left; rw [if_pos q, nz1]; exact ⟨rfl, by omega⟩
        · right; rw [if_neg q, nz0]; exact ⟨rfl, by omega⟩
    · rw [if_neg (nle3 (by omega))]
      by_cases q : 48 + (1 : Int) ≤ sg n t i ∧ sg n t i ≤ 54
      · left; rw [if_pos q, nz1]; exact ⟨rfl, by omega⟩
      · right; rw [if_neg q, nz0]; exact ⟨rfl, by omega⟩
def whl (n : Nat) (t : Nat → Nat) : Prop := 3 ≤ n ∧ ((n : Int) = cE n t ∨ (n : Int) = wE n t)
/-- the error position is v -/
def errR (n : Nat) (t : Nat → Nat) (v : Int) : Prop := (∃ i, i < n ∧ ¬ al n t i ∧ (∀ j, j < i → al n t j) ∧ v = i) ∨ ((∀ j, j < n → al n t j) ∧ whl n t ∧ v = -9) ∨ ((∀ j, j < n → al n t j) ∧ ¬ whl n t ∧ v = n)
theorem errR_uni {n : Nat} {t : Nat → Nat} {v v' : Int} (h : errR n t v) (h' : errR n t v') : v = v' := by
  rcases h with ⟨i, h1, h2, h3, h4⟩ | ⟨h1, h2, h3⟩ | ⟨h1, h2, h3⟩ <;> rcases h' with ⟨i', h1', h2', h3', h4'⟩ | ⟨h1', h2', h3'⟩ | ⟨h1', h2', h3'⟩
  · by_cases hlt : i < i'
    · exact absurd (h3' i hlt) h2
    · by_cases hgt : i' < i
      · exact absurd (h3 i' hgt) h2'
      · omega
  · exact absurd (h1' i h1) h2
  · exact absurd (h1' i h1) h2
  · exact absurd (h1 i' h1') h2'
  · omega
  · exact absurd h2 h2'
  · exact absurd (h1 i' h1') h2'
  · exact absurd h2' h2
  · omega
theorem isWhole_code {μ : Mem} {n : Nat} {t : Nat → Nat} (h : cT μ n t) : (F_X6_isWhole μ = rI (i3 1) μ ∧ whl n t) ∨ (F_X6_isWhole μ = rI (i3 0) μ ∧ ¬ whl n t) := by
  have hc := cE_bd h
  have hw := wE_bd h
  have h60 := h.2.1
  simp only [F_X6_isWhole, h.1, l3_3, cellsEnd_code h, wantsEnd_code h, cI_k, l3_0, l3_1]
  unfold whl
  by_cases e0 : n < 3
  · right; rw [if_pos (lt3 (by omega))]; exact ⟨rfl, by omega⟩
  · rw [if_neg (nlt3 (by omega))]
    by_cases e1 : (n : Int) = cE n t
    · left; rw [if_pos (by rw [e1])]; exact ⟨rfl, by omega⟩
    · rw [if_neg (ne3 (by omega))]
      by_cases e2 : (n : Int) = wE n t
      · left; rw [if_pos (by rw [e2])]; exact ⟨rfl, by omega⟩
      · right; rw [if_neg (ne3 (by omega))]; exact ⟨rfl, by omega⟩
theorem firstError_code {μ : Mem} {n : Nat} {t : Nat → Nat} (h : cT μ n t) : ∃ v, F_X6_firstError μ = rI (i3 v) μ ∧ errR n t v ∧ -9 ≤ v ∧ v ≤ 60 := by
  have h60 := h.2.1
  simp only [F_X6_firstError]
  rw [show (0 : Int32) = i3 ((0 : Nat) : Int) from l3_0]
  refine loop_st (σ := Unit) (fun m i _ => f_X6_firstError_2 m (i3 i) μ) (fun i _ => ∀ j, j < i → al n t j) (fun o => ∃ v, o = rI (i3 v) μ ∧ errR n t v ∧ -9 ≤ v ∧ v ≤ 60) n ?_ ?_ BIG 0 () (by omega) (BIG_lt (by omega)) (fun j q => by omega)
  · rintro m - q
    simp only [f_X6_firstError_2, h.1]
    rw [if_pos (le3 (by omega))]
    rcases isWhole_code h with ⟨w1, w2⟩ | ⟨w1, w2⟩
    · rw [w1, cI_k, if_neg (by decide), l3_m9]
      exact ⟨-9, rfl, Or.inr (Or.inl ⟨q, w2, rfl⟩), by omega⟩
    · rw [w1, cI_k, if_pos (by decide), h.1]
      exact ⟨n, rfl, Or.inr (Or.inr ⟨q, w2, rfl⟩), by omega⟩
  · rintro m i - hi q
    simp only [f_X6_firstError_2, h.1, lt_k, inc3]
    rw [if_neg (nle3 (by omega))]
    rcases isAllowed_code h (show i < 60 by omega) with ⟨w1, w2⟩ | ⟨w1, w2⟩
    · left
      rw [w1, cI_k, if_neg (by decide)]
      refine ⟨(), fun j hj => ?_, rfl⟩
      by_cases e : j = i
      · rw [e]; exact w2
      · exact q j (by omega)
    · right
      rw [w1, cI_k, if_pos (by decide)]
      exact ⟨i, rfl, Or.inl ⟨i, hi, w2, q, rfl⟩, by omega⟩
