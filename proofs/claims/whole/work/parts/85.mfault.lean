/-! the place of the fault, the model's way -/
def sgn (n : Nat) (t : Nat → Nat) (i : Nat) : Int := if i < n then (t i : Int) else -9
theorem mSign {μ : Mem} {n : Nat} {t : Nat → Nat} (h : mT μ n t) (hn : n ≤ 60) {i : Nat} (hi : i < 1000) : F_X8_signAt (i3 i) μ = rI (i3 (sgn n t i)) μ := by
  simp only [F_X8_signAt, h.1, l3_m9]
  unfold sgn
  by_cases q : i < n
  · rw [if_neg (nle3 (by omega)), if_pos q, ck_k (i3_in (by omega) (by decide)), clampN (by omega), h.2 i q]
  · rw [if_pos (le3 (by omega)), if_neg q]
theorem errI {n : Nat} {t : Nat → Nat} {i : Nat} (h1 : i ≤ n) (h2 : ∀ j, j < i → al n t j) (h3 : i < n → ¬ al n t i) (h4 : i = n → ¬ whl n t) : errR n t i := by
  by_cases q : i < n
  · exact Or.inl ⟨i, q, h3 q, h2, rfl⟩
  · have e : i = n := by omega
    exact Or.inr (Or.inr ⟨fun j hj => h2 j (by omega), h4 e, by omega⟩)
theorem sgn_bd {n : Nat} {t : Nat → Nat} (ht : ∀ j, j < n → t j ≤ 255) (i : Nat) : -9 ≤ sgn n t i ∧ sgn n t i ≤ 255 := by
  unfold sgn
  by_cases q : i < n
  · rw [if_pos q]; have := ht i q; omega
  · rw [if_neg q]; omega
theorem sgn_sg {n : Nat} {t : Nat → Nat} {i : Nat} {k : Nat} (hk : 0 < k) : sgn n t i = k ↔ i < n ∧ sg n t i = k := by
  unfold sgn sg
  by_cases q : i < n
  · rw [if_pos q, if_pos q]; omega
  · rw [if_neg q, if_neg q]; omega
theorem mMark {v : Int} (hv : -9 ≤ v ∧ v ≤ 255) (μ : Mem) : F_X8_isMark (i3 v) μ = rI (i3 (if v = 46 ∨ v = 35 ∨ v = 44 ∨ v = 37 then 1 else 0)) μ := by
  simp only [F_X8_isMark, l3_46, l3_35, l3_44, l3_37, l3_0, l3_1]
  by_cases a : v = 46
  · rw [if_pos (by rw [a]), if_pos (by omega)]
  · rw [if_neg (ne3 (by omega))]
    by_cases b : v = 35
    · rw [if_pos (by rw [b]), if_pos (by omega)]
    · rw [if_neg (ne3 (by omega))]
      by_cases c : v = 44
      · rw [if_pos (by rw [c]), if_pos (by omega)]
      · rw [if_neg (ne3 (by omega))]
        by_cases d : v = 37
        · rw [if_pos (by rw [d]), if_pos (by omega)]
        · rw [if_neg (ne3 (by omega)), if_neg (by omega)]
theorem mFault {μ : Mem} {n : Nat} {t : Nat → Nat} (h : mT μ n t) (hn : n ≤ 60) (ht : ∀ j, j < n → t j ≤ 255) : ∃ v, F_X8_faultOf μ = rI (i3 v) μ ∧ errR n t v := by
  have bd := sgn_bd ht
  have inq : ∀ (i : Nat) (a b : Int), -1000 ≤ a ∧ a ≤ 1000 → -1000 ≤ b ∧ b ≤ 1000 → F_X8_in (i3 (sgn n t i)) (i3 a) (i3 b) μ = rI (i3 (if a ≤ sgn n t i ∧ sgn n t i ≤ b then 1 else 0)) μ := fun i a b ha hb => by
    have := bd i
    exact in_code (by omega) (by omega) (by omega) μ
  have s0 := mSign h hn (i := 0) (by decide)
  have s1 := mSign h hn (i := 1) (by decide)
  have s2 := mSign h hn (i := 2) (by decide)
  have b0 := bd 0
  have b1 := bd 1
  have b2 := bd 2
  have i1 := inq 1 49 54 (by decide) (by decide)
  have i2 := inq 2 49 54 (by decide) (by decide)
  have L0 : (0 : Int32) = i3 ((0 : Nat) : Int) := by decide
  have L1 : (1 : Int32) = i3 ((1 : Nat) : Int) := by decide
  have L2 : (2 : Int32) = i3 ((2 : Nat) : Int) := by decide
  have cap : ∀ i a b : Nat, 0 < a → ((a : Int) ≤ sgn n t i ∧ sgn n t i ≤ b ↔ i < n ∧ a ≤ sg n t i ∧ sg n t i ≤ b) := fun i a b ha => by
    unfold sgn sg
    by_cases q : i < n
    · rw [if_pos q, if_pos q]; omega
    · rw [if_neg q, if_neg q]; omega
  have c1 := cap 1 49 54 (by decide)
  have c2 := cap 2 49 54 (by decide)
  have al0 : (0 < n ∧ sg n t 0 = 80) ↔ sgn n t 0 = 80 := (sgn_sg (k := 80) (by decide)).symm
  by_cases q0 : sgn n t 0 = 80
  · have a0 := al0.mpr q0
    have h0 : al n t 0 := Or.inl ⟨rfl, a0.2⟩
    by_cases q1 : (49 : Int) ≤ sgn n t 1 ∧ sgn n t 1 ≤ 54
    · have a1 := c1.mp q1
      have h1 : al n t 1 := Or.inr (Or.inl ⟨by omega, by omega, a1.2⟩)
      by_cases q2 : (49 : Int) ≤ sgn n t 2 ∧ sgn n t 2 ≤ 54
      · have a2 := c2.mp q2
        have h2 : al n t 2 := Or.inr (Or.inl ⟨by omega, by omega, a2.2⟩)
        obtain ⟨R, eR, hR⟩ : ∃ R : Nat, sg n t 1 = 48 + R ∧ (1 ≤ R ∧ R ≤ 6) := ⟨sg n t 1 - 48, by omega, by omega⟩
        obtain ⟨C, eC, hC⟩ : ∃ C : Nat, sg n t 2 = 48 + C ∧ (1 ≤ C ∧ C ≤ 6) := ⟨sg n t 2 - 48, by omega, by omega⟩
        have v1 : sgn n t 1 = 48 + R := (sgn_sg (n := n) (t := t) (i := 1) (k := 48 + R) (by omega)).mpr ⟨a1.1, eR⟩
        have v2 : sgn n t 2 = 48 + C := (sgn_sg (n := n) (t := t) (i := 2) (k := 48 + C) (by omega)).mpr ⟨a2.1, eC⟩
        have hN : R * C ≤ 36 := Nat.mul_le_mul hR.2 hC.2
        have ecE : cE n t = 3 + ((R * C : Nat) : Int) := by
          unfold cE
          rw [eR, eC, show ((48 + R : Nat) : Int) - 48 = (R : Int) from by omega, show ((48 + C : Nat) : Int) - 48 = (C : Int) from by omega]; rfl
        have ewE : wE n t = 4 + ((R * C : Nat) : Int) + R + C := by
          unfold wE
          rw [ecE, eR, eC]; omega
        have es : i3 (sgn n t 1) + i3 (sgn n t 2) - (96 : Int32) = i3 ((R + C : Nat) : Int) := by rw [v1, v2, l3_96, i3_add, i3_sub]; congr 1; omega
        have ep : (i3 (sgn n t 1) - (48 : Int32)) * (i3 (sgn n t 2) - (48 : Int32)) = i3 ((R * C : Nat) : Int) := by
          rw [v1, v2, l3_48, i3_sub, i3_sub, i3_mul, show (48 : Int) + R - 48 = R from by omega, show (48 : Int) + C - 48 = C from by omega]; rfl
        have main : ∃ v, f_X8_faultOf_81 BIG (i3 ((R + C : Nat) : Int)) (i3 ((R * C : Nat) : Int)) (i3 ((3 : Nat) : Int)) μ = rI (i3 v) μ ∧ errR n t v := by
          generalize R * C = N at hN ecE ewE ⊢
          refine loop_st (σ := Unit) (fun m i _ => f_X8_faultOf_81 m (i3 ((R + C : Nat) : Int)) (i3 (N : Int)) (i3 i) μ) (fun i _ => 3 ≤ i ∧ i ≤ n ∧ ∀ j, j < i → al n t j) (fun o => ∃ v, o = rI (i3 v) μ ∧ errR n t v) (3 + N) ?_ ?_ BIG 3 () (by omega) (BIG_lt (by omega)) ⟨by omega, by omega, fun j hj => by
            have : j = 0 ∨ j = 1 ∨ j = 2 := by omega
            rcases this with rfl | rfl | rfl
            · exact h0
            · exact h1
            · exact h2⟩
          · rintro m - ⟨w1, w2, w3⟩
            have e3 : (3 : Int32) + i3 (N : Int) = i3 ((3 + N : Nat) : Int) := by rw [l3_3, i3_add]; rfl
            have el : i3 ((3 + N : Nat) : Int) ≤ i3 ((3 + N : Nat) : Int) := le3 (by omega)
            have sS := mSign h hn (i := 3 + N) (by omega)
            have bS := bd (3 + N)
            simp only [f_X8_faultOf_81, e3, if_pos el, lt_k, h.1, sS, cI_k, inc3]
            by_cases p : n = 3 + N
            · rw [if_pos (by rw [p])]
              exact ⟨-9, by rw [l3_m9], Or.inr (Or.inl ⟨fun j hj => w3 j (by omega), ⟨by omega, Or.inl (by omega)⟩, rfl⟩)⟩
            · rw [if_neg (ne3 (by omega))]
              by_cases k : sgn n t (3 + N) = 58
              · rw [if_pos (by rw [k]; decide)]
                have kk := (sgn_sg (k := 58) (by decide)).mp k
                refine loop_st (σ := Unit) (fun m i _ => f_X8_faultOf_139 m (i3 ((R + C : Nat) : Int)) (i3 ((3 + N : Nat) : Int)) (i3 i) μ) (fun i _ => 3 + N < i ∧ i ≤ n ∧ ∀ j, j < i → al n t j) (fun o => ∃ v, o = rI (i3 v) μ ∧ errR n t v) (4 + N + R + C) ?_ ?_ BIG (3 + N + 1) () (by omega) (BIG_lt (by omega)) ⟨by omega, by omega, fun j hj => by
                  by_cases e : j = 3 + N
                  · subst e; exact Or.inr (Or.inr (Or.inr (Or.inl ⟨by omega, by omega, kk.2⟩)))
                  · exact w3 j (by omega)⟩
                · rintro m - ⟨x1, x2, x3⟩
                  have ea : i3 ((3 + N : Nat) : Int) + i3 ((R + C : Nat) : Int) = i3 ((3 + N + R + C : Nat) : Int) := by rw [i3_add]; congr 1; omega
                  have l : i3 ((3 + N + R + C : Nat) : Int) < i3 ((4 + N + R + C : Nat) : Int) := lt3 (by omega)
                  have e4 : 3 + N + R + C + 1 = 4 + N + R + C := by omega
                  simp only [f_X8_faultOf_139, ea, if_pos l, inc3, e4, h.1]
                  by_cases p2 : n = 4 + N + R + C
                  · rw [if_pos (by rw [p2])]
                    exact ⟨-9, by rw [l3_m9], Or.inr (Or.inl ⟨fun j hj => x3 j (by omega), ⟨by omega, Or.inr (by omega)⟩, rfl⟩)⟩
                  · rw [if_neg (ne3 (by omega))]
                    refine ⟨_, rfl, errI (by omega) x3 (fun _ w => ?_) (fun e => absurd e.symm p2)⟩
                    unfold al at w; omega
                · rintro m i - hi ⟨x1, x2, x3⟩
                  have ea : i3 ((3 + N : Nat) : Int) + i3 ((R + C : Nat) : Int) = i3 ((3 + N + R + C : Nat) : Int) := by rw [i3_add]; congr 1; omega
                  have l : ¬ i3 ((3 + N + R + C : Nat) : Int) < i3 (i : Int) := nlt3 (by omega)
                  have sI' := mSign h hn (i := i) (by omega)
                  have iI := inq i 48 54 (by decide) (by decide)
                  have cI' := cap i 48 54 (by decide)
                  simp only [f_X8_faultOf_139, ea, if_neg l, sI', cI_k, l3_48, l3_54, iI, lt_k, inc3]
                  by_cases g : (48 : Int) ≤ sgn n t i ∧ sgn n t i ≤ 54
                  · left
                    have gg := cI'.mp g
                    rw [if_pos g, if_neg iz1]
                    refine ⟨(), ⟨by omega, by omega, fun j hj => ?_⟩, rfl⟩
                    by_cases e : j = i
                    · subst e; exact Or.inr (Or.inr (Or.inr (Or.inr ⟨by omega, by omega, by omega, gg.2.1, gg.2.2⟩)))
                    · exact x3 j (by omega)
                  · right
                    rw [if_neg g, if_pos iz0]
                    refine ⟨_, rfl, errI x2 x3 (fun hlt w => ?_) (fun e w => ?_)⟩
                    · have := mt cI'.mpr g; unfold al at w; omega
                    · unfold whl at w; omega
              · rw [if_neg (by rw [l3_58]; exact ne3 (by omega))]
                have nk := mt (sgn_sg (n := n) (t := t) (i := 3 + N) (k := 58) (by decide)).mpr k
                refine ⟨_, rfl, errI w2 w3 (fun hlt w => ?_) (fun e => absurd e.symm p)⟩
                unfold al at w; omega
          · rintro m i - hi ⟨w1, w2, w3⟩
            have e3 : (3 : Int32) + i3 (N : Int) = i3 ((3 + N : Nat) : Int) := by rw [l3_3, i3_add]; rfl
            have el : ¬ i3 ((3 + N : Nat) : Int) ≤ i3 (i : Int) := nle3 (by omega)
            have sS := mSign h hn (i := i) (by omega)
            have bS := bd i
            have k46 := sgn_sg (n := n) (t := t) (i := i) (k := 46) (by decide)
            have k35 := sgn_sg (n := n) (t := t) (i := i) (k := 35) (by decide)
            have k44 := sgn_sg (n := n) (t := t) (i := i) (k := 44) (by decide)
            have k37 := sgn_sg (n := n) (t := t) (i := i) (k := 37) (by decide)
            simp only [f_X8_faultOf_81, e3, if_neg el, sS, cI_k, mMark bS, lt_k, inc3]
            by_cases g : sgn n t i = 46 ∨ sgn n t i = 35 ∨ sgn n t i = 44 ∨ sgn n t i = 37
            · left
              rw [if_pos g, if_neg iz1]
              refine ⟨(), ⟨by omega, by omega, fun j hj => ?_⟩, rfl⟩
              by_cases e : j = i
              · subst e; exact Or.inr (Or.inr (Or.inl ⟨by omega, by omega, by omega⟩))
              · exact w3 j (by omega)
            · right
              rw [if_neg g, if_pos iz0]
              refine ⟨_, rfl, errI w2 w3 (fun hlt w => ?_) (fun e w => ?_)⟩
              · unfold al at w; omega
              · unfold whl at w; omega
        obtain ⟨v, m1, m2⟩ := main
        refine ⟨v, ?_, m2⟩
        rw [← m1]
        simp only [F_X8_faultOf]
        rw [L0, s0, cI_k, l3_80, if_pos (by rw [q0]), L1, s1, cI_k, l3_49, l3_54, i1, cI_k, if_pos q1, if_neg (by decide), L2, s2, cI_k, i2, cI_k, if_pos q2, if_neg (by decide)]
        simp only [cI_k, lt_k, s1, s2, es, ep]
        rfl
      · refine ⟨((2 : Nat) : Int), ?_, errI (by omega) (fun j hj => ?_) (fun hlt w => ?_) (fun _ w => by have := w.1; omega)⟩
        · simp only [F_X8_faultOf]
          rw [L0, s0, cI_k, l3_80, if_pos (by rw [q0]), L1, s1, cI_k, l3_49, l3_54, i1, cI_k, if_pos q1, if_neg (by decide), L2, s2, cI_k, i2, cI_k, if_neg q2, if_pos (by decide)]
        · have : j = 0 ∨ j = 1 := by omega
          rcases this with rfl | rfl
          · exact h0
          · exact h1
        · unfold al at w; have := mt c2.mpr q2; omega
    · refine ⟨((1 : Nat) : Int), ?_, errI (by omega) (fun j hj => ?_) (fun hlt w => ?_) (fun _ w => by have := w.1; omega)⟩
      · simp only [F_X8_faultOf]
        rw [L0, s0, cI_k, l3_80, if_pos (by rw [q0]), L1, s1, cI_k, l3_49, l3_54, i1, cI_k, if_neg q1, if_pos (by decide)]
      · have : j = 0 := by omega
        subst this; exact h0
      · unfold al at w; have := mt c1.mpr q1; omega
  · refine ⟨((0 : Nat) : Int), ?_, errI (Nat.zero_le _) (fun j hj => by omega) (fun hlt w => ?_) (fun _ w => by have := w.1; omega)⟩
    · simp only [F_X8_faultOf]
      rw [L0, s0, cI_k, l3_80, if_neg (ne3 (by omega))]
    · unfold al at w; have := mt al0.mp q0; omega
theorem op_errorPosition {μ : Mem} {A : Ab} (h : cInv μ A) : opOK A [] μ (F_X7_errorPosition μ) F_X8_errorPosition := by
  obtain ⟨v, w1, w2, -⟩ := firstError_code h.2.2.2.2
  refine op_val (frc_rf μ) h (v := i3 v) (by simp only [F_X7_errorPosition, w1, cI_k]) (fun s hs => ?_)
  obtain ⟨t1, t2, t3⟩ := thr hs (0 : Int32)
  obtain ⟨v', y1, y2⟩ := mFault t2.2.2.2 h.2.2.2.2.2.1 (fun j hj => (h.2.2.2.2.2.2 j hj).2)
  have e := errR_uni y2 w2
  subst e
  exact ⟨_, by simp only [F_X8_errorPosition, lt_k, y1, cI_k], m_fin0 hs⟩
