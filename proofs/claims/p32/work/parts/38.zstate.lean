/-! what is remembered, what is saved, the text -/
abbrev Ab : Type := Pic × (Nat × (Nat → Pic)) × ((Nat → Bool) × (Nat → Pic)) × (Nat × (Nat → Nat))
abbrev aP (A : Ab) : Pic := A.1
abbrev aHn (A : Ab) : Nat := A.2.1.1
abbrev aH (A : Ab) : Nat → Pic := A.2.1.2
abbrev aSv (A : Ab) : Nat → Bool := A.2.2.1.1
abbrev aS (A : Ab) : Nat → Pic := A.2.2.1.2
abbrev aN (A : Ab) : Nat := A.2.2.2.1
abbrev aT (A : Ab) : Nat → Nat := A.2.2.2.2
def cH (μ : Mem) (hn : Nat) (hq : Nat → Pic) : Prop := ∃ ρ : Nat → Nat, (∀ j, j < 14 → μ.2.2 9 j = ρ j ∧ 13 ≤ ρ j ∧ ρ j < 27) ∧ (∀ i j, i < 14 → j < 14 → ρ i = ρ j → i = j) ∧ μ.1 4 1 = i3 hn ∧ hn ≤ 14 ∧ ∀ j, j < hn → CP μ (ρ j) (hq j) ∧ okP (hq j)
def cS (μ : Mem) (sv : Nat → Bool) (sq : Nat → Pic) : Prop := μ.2.2 10 0 = 27 ∧ μ.2.2 10 1 = 28 ∧ ∀ j, j < 2 → μ.1 11 j = i3 (b2 (sv j)) ∧ (sv j = true → CP μ (27 + j) (sq j) ∧ okP (sq j))
def cT (μ : Mem) (n : Nat) (t : Nat → Nat) : Prop := μ.1 1 1 = i3 n ∧ n ≤ 60 ∧ ∀ j, j < n → μ.1 8 j = i3 (t j) ∧ t j ≤ 255
theorem cH_fr {W : List Nat} {μ μ' : Mem} {hn : Nat} {hq : Nat → Pic} (h : cH μ hn hq) (hf : fr W μ μ') (h4 : 4 ∉ W) (h9 : 9 ∉ W) (hh : ∀ k, 13 ≤ k → k < 27 → k ∉ W) : cH μ' hn hq := by
  obtain ⟨ρ, h1, h2, h3, h5, h6⟩ := h
  refine ⟨ρ, fun j hj => by rw [fr_3 hf h9]; exact h1 j hj, h2, by rw [fr_1 hf h4]; exact h3, h5, fun j hj => ?_⟩
  have := h1 j (by omega)
  exact ⟨CP_fr (h6 j hj).1 hf (hh _ this.2.1 this.2.2), (h6 j hj).2⟩
theorem cS_fr {W : List Nat} {μ μ' : Mem} {sv : Nat → Bool} {sq : Nat → Pic} (h : cS μ sv sq) (hf : fr W μ μ') (hA : 10 ∉ W) (hB : 11 ∉ W) (hC : 27 ∉ W) (hD : 28 ∉ W) : cS μ' sv sq := by
  obtain ⟨h1, h2, h3⟩ := h
  refine ⟨by rw [fr_3 hf hA]; exact h1, by rw [fr_3 hf hA]; exact h2, fun j hj => ⟨by rw [fr_1 hf hB]; exact (h3 j hj).1, fun q => ?_⟩⟩
  have := (h3 j hj).2 q
  refine ⟨CP_fr this.1 hf ?_, this.2⟩
  by_cases e : j = 0
  · subst e; exact hC
  · have : j = 1 := by omega
    subst this; exact hD
theorem cT_fr {W : List Nat} {μ μ' : Mem} {n : Nat} {t : Nat → Nat} (h : cT μ n t) (hf : fr W μ μ') (h1 : 1 ∉ W) (h8 : 8 ∉ W) : cT μ' n t :=
  ⟨by rw [fr_1 hf h1]; exact h.1, h.2.1, fun j hj => by rw [fr_1 hf h8]; exact h.2.2 j hj⟩
theorem okO_h {q : Nat} (h1 : 13 ≤ q) (h2 : q < 29) : okO q 2 := by
  have h : ∀ i : Fin 16, okO (13 + i.val) 2 := by decide +kernel
  have := h ⟨q - 13, by omega⟩
  rwa [show 13 + (q - 13) = q from by omega] at this
def hW : List Nat := [4, 9, 13, 14, 15, 16, 17, 18, 19, 20, 21, 22, 23, 24, 25, 26]
theorem hW_in {k : Nat} (h1 : 13 ≤ k) (h2 : k < 27) : k ∈ hW := by
  have h : ∀ i : Fin 14, 13 + i.val ∈ hW := by decide
  have := h ⟨k - 13, by omega⟩
  rwa [show 13 + (k - 13) = k from by omega] at this
theorem clampN {k : Nat} (h : k < 2147483648) : (i3 (k : Int)).toNatClampNeg = k := by rw [i3_nat (by omega) (by omega), Int.toNat_natCast]
theorem forgetOldest_code {μ : Mem} {hq : Nat → Pic} (h : cH μ 14 hq) : ∃ s, F_X3_forgetOldest μ = rV s ∧ fr [4, 9] μ s ∧ cH s 13 (fun j => hq (j + 1)) := by
  obtain ⟨ρ, h1, h2, h3, h5, h6⟩ := h
  have g0 := h1 0 (by decide)
  simp only [F_X3_forgetOldest]
  rw [show (1 : Int32) = i3 ((1 : Nat) : Int) from l3_1]
  refine loop_st (σ := Mem) (fun n i s => f_X3_forgetOldest_2 n (i3 i) s) (fun i s => 1 ≤ i ∧ fr [9] μ s ∧ ∀ j, j < 14 → s.2.2 9 j = if j + 1 < i then ρ (j + 1) else if j + 1 = i then ρ 0 else ρ j)
    (fun o => ∃ s, o = rV s ∧ fr [4, 9] μ s ∧ cH s 13 (fun j => hq (j + 1))) 14 ?_ ?_ BIG 1 μ (by decide) (BIG_lt (by decide)) ⟨by decide, fr_rf _ _, fun j hj => ?_⟩
  · rintro n s ⟨-, q1, q2⟩
    have hm : s.1 4 1 = i3 ((14 : Nat) : Int) := by rw [fr_1 q1 (by simp), h3]
    simp only [f_X3_forgetOldest_2, lt_k, l3_14, hm, l3_1, i3_sub]
    rw [if_pos (le3 (by omega))]
    refine ⟨_, rfl, fr_tr (fr_w q1 (by simp)) (fr_sI (by simp)), fun j => if j = 13 then ρ 0 else ρ (j + 1), fun j hj => ?_, fun i j hi hj e => ?_, ?_, by decide, fun j hj => ?_⟩
    · rw [sI_2, q2 j hj]
      by_cases e : j = 13
      · rw [if_neg (by omega), if_pos (by omega)]
        simp only [if_pos e]; exact ⟨trivial, g0.2⟩
      · rw [if_pos (by omega)]
        simp only [if_neg e]; exact ⟨trivial, (h1 (j + 1) (by omega)).2⟩
    · by_cases ei : i = 13
      · by_cases ej : j = 13
        · omega
        · simp only [ei, ej, if_true, if_false] at e
          have := h2 0 (j + 1) (by omega) (by omega) e; omega
      · by_cases ej : j = 13
        · simp only [ei, ej, if_true, if_false] at e
          have := h2 (i + 1) 0 (by omega) (by omega) e; omega
        · simp only [ei, ej, if_false] at e
          have := h2 (i + 1) (j + 1) (by omega) (by omega) e; omega
    · simp only [sI_1, up2_a]; rfl
    · simp only [if_neg (show ¬ j = 13 by omega)]
      have g := h1 (j + 1) (by omega)
      have hf : fr [4, 9] μ (sI s 4 1 (i3 (((14 : Nat) : Int) - 1))) := fr_tr (fr_w q1 (by simp)) (fr_sI (by simp))
      exact ⟨CP_fr (h6 (j + 1) (by omega)).1 hf (by simp; omega), (h6 (j + 1) (by omega)).2⟩
  · rintro n i s hi ⟨q0, q1, q2⟩
    left
    have gi := h1 i hi
    have ei : s.2.2 9 i = ρ i := by rw [q2 i hi, if_neg (by omega), if_neg (by omega)]
    have e0 : s.2.2 9 (i - 1) = ρ 0 := by rw [q2 (i - 1) (by omega), if_neg (by omega), if_pos (by omega)]
    have k1 : (i3 ((i : Int) - 1)).toNatClampNeg = i - 1 := by rw [show (i : Int) - 1 = ((i - 1 : Nat) : Int) from by omega]; exact clampN (by omega)
    have k2 : (i3 (i : Int)).toNatClampNeg = i := clampN (by omega)
    simp only [f_X3_forgetOldest_2, lt_k, l3_14, inc3]
    rw [if_neg (nle3 (by omega))]
    simp only [l3_1, i3_sub, k1, k2, ei, e0]
    rw [ck_k (i3_in (by omega) (by decide)), ck_k (okO_h g0.2.1 (by omega)), ck_k (i3_in (by omega) (by decide)), ck_k (okO_h gi.2.1 (by omega)), ck_k (i3_in (by omega) (by decide)), ck_k (i3_in (by omega) (by decide))]
    refine ⟨_, ⟨by omega, fr_tr (fr_tr q1 (fr_sR (by simp))) (fr_sR (by simp)), fun j hj => ?_⟩, rfl⟩
    rw [sR_22, up2_a]
    by_cases e : j = i
    · rw [if_pos ⟨rfl, e⟩, if_neg (by omega), if_pos (by omega)]
    · rw [if_neg (fun q => e q.2), sR_22, up2_a]
      by_cases e1 : j + 1 = i
      · rw [if_pos ⟨rfl, by omega⟩, if_pos (by omega), e1]
      · rw [if_neg (by omega), q2 j hj]
        by_cases e2 : j + 1 < i
        · rw [if_pos e2, if_pos (by omega)]
        · rw [if_neg e2, if_neg e1, if_neg (by omega), if_neg (by omega)]
  · by_cases e : j = 0
    · rw [if_neg (by omega), if_pos (by omega), e]; exact g0.1
    · rw [if_neg (by omega), if_neg (by omega)]; exact (h1 j hj).1
theorem rem16_code {μ : Mem} {hn : Nat} {hq : Nat → Pic} {P : Pic} (h : cH μ hn hq) (hlt : hn < 14) (hP : CP μ 2 P) (ok : okP P) : ∃ s, f_X3_remember_16 2 μ = rV s ∧ fr hW μ s ∧ cH s (hn + 1) (fun j => if j = hn then P else hq j) := by
  obtain ⟨ρ, h1, h2, h3, h5, h6⟩ := h
  have g := h1 hn hlt
  simp only [f_X3_remember_16, h3, l3_0, l3_14, lt_k, clampN (show hn < 2147483648 by omega), g.1]
  rw [if_neg (nlt3 (by omega)), if_neg (nle3 (by omega)), ck_k (i3_in (by omega) (by decide)), ck_k (okO_h g.2.1 (by omega)), ck_k (i3_in (by omega) (by decide)), ck_k (okO_h g.2.1 (by omega))]
  obtain ⟨s, c1, c2, c3⟩ := copyFrom_code hP (k := ρ hn) (by omega)
  have hf : fr hW μ (sI s 4 1 (i3 ((hn + 1 : Nat) : Int))) := fr_tr (fr_w c3 (by simp; exact hW_in g.2.1 g.2.2)) (fr_sI (by decide))
  rw [c1, cV_k, fr_1 c3 (by simp; omega), h3, inc3]
  refine ⟨_, rfl, hf, ρ, fun j hj => ?_, h2, ?_, hlt, fun j hj => ?_⟩
  · rw [sI_2, fr_3 c3 (by simp; omega)]; exact h1 j hj
  · rw [sI_1, up2_same]
  · by_cases e : j = hn
    · subst e
      simp only [if_true]
      exact ⟨CP_fr c2 (fr_sI (W := [4]) (by simp)) (by simp; omega), ok⟩
    · simp only [if_neg e]
      have gj := h1 j (by omega)
      have hne : ¬ ρ j = ρ hn := fun q => e (h2 j hn (by omega) hlt q)
      have := h6 j (by omega)
      exact ⟨CP_fr (CP_fr this.1 c3 (by simp; exact hne)) (fr_sI (W := [4]) (by simp)) (by simp; omega), this.2⟩
/-- what is remembered when P is remembered too -/
def remN (hn : Nat) : Nat := if hn < 14 then hn + 1 else 14
def remQ (hn : Nat) (hq : Nat → Pic) (P : Pic) : Nat → Pic := if hn < 14 then fun j => if j = hn then P else hq j else fun j => if j = 13 then P else hq (j + 1)
theorem remember_code {μ : Mem} {hn : Nat} {hq : Nat → Pic} {P : Pic} (h : cH μ hn hq) (hP : CP μ 2 P) (ok : okP P) : ∃ s, F_X3_remember 2 μ = rV s ∧ fr hW μ s ∧ cH s (remN hn) (remQ hn hq P) ∧ CP s 2 P := by
  have h14 : hn ≤ 14 := by obtain ⟨ρ, -, -, -, q, -⟩ := h; exact q
  have hm : μ.1 4 1 = i3 hn := by obtain ⟨ρ, -, -, q, -, -⟩ := h; exact q
  simp only [F_X3_remember, hm, l3_14]
  by_cases hlt : hn < 14
  · rw [if_pos (lt3 (by omega))]
    obtain ⟨s, t1, t2, t3⟩ := rem16_code h hlt hP ok
    refine ⟨s, t1, t2, ?_, CP_fr hP t2 (by decide)⟩
    unfold remN remQ
    rw [if_pos hlt, if_pos hlt]; exact t3
  · have e : hn = 14 := by omega
    subst e
    rw [if_neg (nlt3 (by omega))]
    obtain ⟨s1, u1, u2, u3⟩ := forgetOldest_code h
    have hP1 := CP_fr hP u2 (by decide)
    obtain ⟨s, t1, t2, t3⟩ := rem16_code u3 (by decide) hP1 ok
    rw [u1, cV_k]
    have hf : fr hW μ s := fr_tr (fr_w u2 (by decide)) t2
    refine ⟨s, t1, hf, ?_, CP_fr hP hf (by decide)⟩
    unfold remN remQ
    rw [if_neg (by decide), if_neg (by decide)]
    exact t3
theorem takeBack_code {μ : Mem} {hn : Nat} {hq : Nat → Pic} (h : cH μ hn hq) (h1 : 1 ≤ hn) : ∃ s, F_X3_takeBack 2 μ = rI (i3 ((hn - 1 : Nat) : Int)) s ∧ fr [2, 4] μ s ∧ cH s (hn - 1) hq ∧ CP s 2 (hq (hn - 1)) := by
  obtain ⟨ρ, p1, p2, p3, p5, p6⟩ := h
  have g := p1 (hn - 1) (by omega)
  have e : (hn : Int) - 1 = ((hn - 1 : Nat) : Int) := by omega
  have hf0 : fr [2, 4] μ (sI μ 4 1 (i3 ((hn - 1 : Nat) : Int))) := fr_sI (by simp)
  have hP0 := CP_fr (p6 (hn - 1) (by omega)).1 hf0 (by simp; omega)
  obtain ⟨s, c1, c2, c3⟩ := copyFrom_code hP0 (k := 2) (by omega)
  have hf : fr [2, 4] μ s := fr_tr hf0 (fr_w c3 (by simp))
  have hs : s.1 4 1 = i3 ((hn - 1 : Nat) : Int) := by rw [fr_1 c3 (by simp), sI_1, up2_same]
  refine ⟨s, ?_, hf, ⟨ρ, fun j hj => by rw [fr_3 hf (by simp)]; exact p1 j hj, p2, hs, by omega, fun j hj => ?_⟩, c2⟩
  · simp only [F_X3_takeBack, p3, l3_0, l3_14, l3_1, lt_k, i3_sub, e, sI_1, up2_same, sI_2, clampN (show hn - 1 < 2147483648 by omega), g.1]
    rw [if_neg (nle3 (by omega)), if_neg (nlt3 (by omega)), ck_k (i3_in (by omega) (by decide)), ck_k (okO_h g.2.1 (by omega)), ck_k (i3_in (by omega) (by decide)), ck_k (okO_h g.2.1 (by omega)), c1, cV_k, hs]
  · have := p6 j (by omega)
    have gj := p1 j (by omega)
    exact ⟨CP_fr this.1 hf (by simp; omega), this.2⟩
theorem hforget_code {μ : Mem} {hn : Nat} {hq : Nat → Pic} (h : cH μ hn hq) : ∃ s, F_X3_forgetAll μ = rV s ∧ fr [4] μ s ∧ cH s 0 hq := by
  obtain ⟨ρ, p1, p2, p3, p5, p6⟩ := h
  refine ⟨sI μ 4 1 (0 : Int32), by simp only [F_X3_forgetAll, lt_k], fr_sI (by simp), ρ, p1, p2, ?_, by omega, fun j hj => by omega⟩
  rw [sI_1, up2_same, l3_0]; rfl
theorem hempty_code {μ : Mem} {hn : Nat} {hq : Nat → Pic} (h : cH μ hn hq) : F_X3_isEmpty μ = rI (i3 (if hn = 0 then 1 else 0)) μ := by
  obtain ⟨ρ, p1, p2, p3, p5, p6⟩ := h
  simp only [F_X3_isEmpty, p3, l3_0, l3_1]
  by_cases e : hn = 0
  · subst e; rw [if_pos (by decide), if_pos rfl]
  · rw [if_neg (ne3 (by omega)), if_neg e]
/-! slots -/
theorem nar01 (b : Bool) : vp_nar .boolean (i3 (b2 b)) = i3 (b2 b) := by cases b <;> decide
theorem has_code {μ : Mem} {sv : Nat → Bool} {sq : Nat → Pic} (h : cS μ sv sq) {j : Nat} (hj : j < 2) : F_X5_has (i3 j) μ = rI (i3 (b2 (sv j))) μ := by
  simp only [F_X5_has, l3_0, l3_1, l3_2]
  rw [if_neg (nlt3 (by omega)), if_neg (nle3 (by omega)), ck_k (i3_in (by omega) (by decide)), i3_nat (by omega) (by omega), Int.toNat_natCast, (h.2.2 j hj).1]
  cases sv j
  · rw [if_pos (by decide)]; rfl
  · rw [if_neg (by decide)]; rfl
theorem slotRef {μ : Mem} {sv : Nat → Bool} {sq : Nat → Pic} (h : cS μ sv sq) {j : Nat} (hj : j < 2) : μ.2.2 10 j = 27 + j := by
  by_cases e : j = 0
  · subst e; exact h.1
  · have : j = 1 := by omega
    subst this; exact h.2.1
theorem put_code {μ : Mem} {sv : Nat → Bool} {sq : Nat → Pic} {P : Pic} (h : cS μ sv sq) (hP : CP μ 2 P) (ok : okP P) {j : Nat} (hj : j < 2) :
    ∃ s, F_X5_put (i3 j) 2 μ = rV s ∧ fr [11, 27, 28] μ s ∧ cS s (fun i => if i = j then true else sv i) (fun i => if i = j then P else sq i) := by
  have hr := slotRef h hj
  obtain ⟨s, c1, c2, c3⟩ := copyFrom_code hP (k := 27 + j) (by omega)
  have hm : 27 + j ∈ [11, 27, 28] := by
    by_cases e : j = 0
    · subst e; decide
    · have : j = 1 := by omega
      subst this; decide
  have hf : fr [11, 27, 28] μ (sI s 11 j (i3 (b2 true))) := fr_tr (fr_w c3 (by simpa using hm)) (fr_sI (by simp))
  refine ⟨sI s 11 j (i3 (b2 true)), ?_, hf, by rw [fr_3 hf (by simp)]; exact h.1, by rw [fr_3 hf (by simp)]; exact h.2.1, fun i hi => ?_⟩
  · simp only [F_X5_put, l3_0, l3_1, l3_2, lt_k, clampN (show j < 2147483648 by omega), hr]
    rw [if_neg (nlt3 (by omega)), if_neg (nle3 (by omega)), if_neg (nle3 (by omega)), ck_k (i3_in (by omega) (by decide)), ck_k (okO_h (by omega) (by omega)), ck_k (i3_in (by omega) (by decide)), ck_k (okO_h (by omega) (by omega)), c1, cV_k, ck_k (i3_in (by omega) (by decide)),
      show i3 1 = i3 (b2 true) from rfl, nar01]
  · by_cases e : i = j
    · subst e
      simp only [if_true, sI_1, up2_same]
      exact ⟨trivial, fun _ => ⟨CP_fr c2 (fr_sI (W := [11]) (by simp)) (by simp; omega), ok⟩⟩
    · simp only [if_neg e]
      rw [sI_1, up2_j _ _ _ _ _ e, fr_1 c3 (by simp; omega)]
      refine ⟨(h.2.2 i hi).1, fun q => ?_⟩
      have := (h.2.2 i hi).2 q
      exact ⟨CP_fr (CP_fr this.1 c3 (by simp; omega)) (fr_sI (W := [11]) (by simp)) (by simp; omega), this.2⟩
theorem bringBack_code {μ : Mem} {sv : Nat → Bool} {sq : Nat → Pic} (h : cS μ sv sq) {j : Nat} (hj : j < 2) (hv : sv j = true) : ∃ s, F_X5_bringBack (i3 j) 2 μ = rV s ∧ fr [2] μ s ∧ CP s 2 (sq j) := by
  have hr := slotRef h hj
  obtain ⟨s, c1, c2, c3⟩ := copyFrom_code ((h.2.2 j hj).2 hv).1 (k := 2) (by omega)
  refine ⟨s, ?_, c3, c2⟩
  simp only [F_X5_bringBack, l3_0, l3_2, lt_k, clampN (show j < 2147483648 by omega), hr]
  rw [if_neg (nlt3 (by omega)), if_neg (nle3 (by omega)), ck_k (i3_in (by omega) (by decide)), ck_k (okO_h (by omega) (by omega)), ck_k (i3_in (by omega) (by decide)), ck_k (okO_h (by omega) (by omega)), c1, cV_k]
