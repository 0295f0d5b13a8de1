/-! both sides' states -/
def mH (μ : Mem) (hn : Nat) (hq : Nat → Pic) : Prop := μ.1 29 2 = i3 hn ∧ hn ≤ 14 ∧ ∀ j, j < hn → MP μ 31 (50 * j) (hq j)
def mS (μ : Mem) (sv : Nat → Bool) (sq : Nat → Pic) : Prop := μ.1 29 4 = i3 (b2 (sv 0) + 2 * b2 (sv 1)) ∧ ∀ j, j < 2 → sv j = true → MP μ 32 (50 * j) (sq j)
def mT (μ : Mem) (n : Nat) (t : Nat → Nat) : Prop := μ.1 29 7 = i3 n ∧ ∀ j, j < n → μ.1 34 j = i3 (t j)
def cInv (μ : Mem) (A : Ab) : Prop := CP μ 2 (aP A) ∧ okP (aP A) ∧ cH μ (aHn A) (aH A) ∧ cS μ (aSv A) (aS A) ∧ cT μ (aN A) (aT A)
def mInv (μ : Mem) (A : Ab) : Prop := MN μ (aP A) ∧ mH μ (aHn A) (aH A) ∧ mS μ (aSv A) (aS A) ∧ mT μ (aN A) (aT A)
/-- places 30, 31, 32, 34 and the numbers 2, 4, 7 of place 29 are as before -/
theorem mInv_k {μ μ' : Mem} {A : Ab} (h : mInv μ A) (k30 : μ'.1 30 = μ.1 30) (k31 : μ'.1 31 = μ.1 31) (k32 : μ'.1 32 = μ.1 32) (k34 : μ'.1 34 = μ.1 34) (k2 : μ'.1 29 2 = μ.1 29 2) (k4 : μ'.1 29 4 = μ.1 29 4) (k7 : μ'.1 29 7 = μ.1 29 7) : mInv μ' A := by
  obtain ⟨h1, h2, h3, h4⟩ := h
  refine ⟨?_, ⟨k2.trans h2.1, h2.2.1, fun j hj => ?_⟩, ⟨k4.trans h3.1, fun j hj hv => ?_⟩, ⟨k7.trans h4.1, fun j hj => ?_⟩⟩
  · unfold MN; rw [k30]; exact h1
  · unfold MP; rw [k31]; exact h2.2.2 j hj
  · unfold MP; rw [k32]; exact h3.2 j hj hv
  · rw [k34]; exact h4.2 j hj
theorem mInv_fr {W : List Nat} {μ μ' : Mem} {A : Ab} (h : mInv μ A) (hf : fr W μ μ') (hs : ∀ k, k ∈ W → k ∉ [29, 30, 31, 32, 34]) : mInv μ' A := by
  have g : ∀ k, k ∈ [29, 30, 31, 32, 34] → k ∉ W := fun k hk w => hs k w hk
  exact mInv_k h (hf 30 (g 30 (by simp))).1 (hf 31 (g 31 (by simp))).1 (hf 32 (g 32 (by simp))).1 (hf 34 (g 34 (by simp))).1 (fr_1 hf (g 29 (by simp)) _) (fr_1 hf (g 29 (by simp)) _) (fr_1 hf (g 29 (by simp)) _)
theorem mInv_sI {μ : Mem} {A : Ab} (h : mInv μ A) {k j : Nat} {v : Int32} (hk : k ∉ [29, 30, 31, 32, 34] ∨ (k = 29 ∧ j ∉ [2, 4, 7])) : mInv (sI μ k j v) A := by
  have e : ∀ a b, ¬ (a = k ∧ b = j) → (sI μ k j v).1 a b = μ.1 a b := fun a b q => by rw [sI_1, up2_a, if_neg q]
  have n : ∀ a, a ∈ [29, 30, 31, 32, 34] → a ≠ 29 → (sI μ k j v).1 a = μ.1 a := fun a ha hb => funext (fun b => e a b (fun q => by
    rcases hk with w | w
    · exact w (q.1 ▸ ha)
    · exact hb (q.1.trans w.1)))
  have n29 : ∀ b, b ∈ [2, 4, 7] → (sI μ k j v).1 29 b = μ.1 29 b := fun b hb => e 29 b (fun q => by
    rcases hk with w | w
    · exact w (q.1 ▸ (by simp))
    · exact w.2 (q.2 ▸ hb))
  exact mInv_k h (n 30 (by simp) (by decide)) (n 31 (by simp) (by decide)) (n 32 (by simp) (by decide)) (n 34 (by simp) (by decide)) (n29 2 (by simp)) (n29 4 (by simp)) (n29 7 (by simp))
theorem mInv_fq {μ μ' : Mem} {A : Ab} (h : mInv μ A) (hf : fq μ μ') : mInv μ' A :=
  mInv_k h (hf.1 30 (by simp)).1 (hf.1 31 (by simp)).1 (hf.1 32 (by simp)).1 (hf.1 34 (by simp)).1 (hf.2 2 (by decide)) (hf.2 4 (by decide)) (hf.2 7 (by decide))
theorem cInv_fr {W : List Nat} {μ μ' : Mem} {A : Ab} (h : cInv μ A) (hf : fr W μ μ') (hs : ∀ k, k ∈ W → k ∈ [0, 3, 5, 6, 7, 12] ∨ 29 ≤ k) : cInv μ' A := by
  have g : ∀ k, k < 29 → k ∉ [0, 3, 5, 6, 7, 12] → k ∉ W := fun k hk hn w => by
    rcases hs k w with q | q
    · exact hn q
    · omega
  refine ⟨CP_fr h.1 hf (g 2 (by decide) (by simp)), h.2.1, cH_fr h.2.2.1 hf (g 4 (by decide) (by simp)) (g 9 (by decide) (by simp)) (fun k h1 h2 => g k (by omega) (fun q => ?_)), cS_fr h.2.2.2.1 hf (g 10 (by decide) (by simp)) (g 11 (by decide) (by simp)) (g 27 (by decide) (by simp)) (g 28 (by decide) (by simp)), cT_fr h.2.2.2.2 hf (g 1 (by decide) (by simp)) (g 8 (by decide) (by simp))⟩
  simp at q; omega
/-- fifty numbers are copied -/
theorem mCopies {s : Mem} {k1 k3 a b : Nat} (hne : ¬ k1 = k3) (h1 : a + 50 ≤ aLen k1) (h3 : b + 50 ≤ aLen k3) (hb1 : aLen k1 ≤ 1000) (hb3 : aLen k3 ≤ 1000) :
    ∃ z, F_X8_copies k1 (i3 a) k3 (i3 b) s = rV z ∧ fr [k3] s z ∧ (∀ j, j < 50 → z.1 k3 (b + j) = s.1 k1 (a + j)) ∧ ∀ x, (x < b ∨ b + 50 ≤ x) → z.1 k3 x = s.1 k3 x := by
  simp only [F_X8_copies]
  rw [show (0 : Int32) = i3 ((0 : Nat) : Int) from l3_0]
  refine loop_st (σ := Mem) (fun n i z => f_X8_copies_3 k1 k3 n (i3 a) (i3 b) (i3 i) z) (fun i z => fr [k3] s z ∧ (∀ j, j < i → z.1 k3 (b + j) = s.1 k1 (a + j)) ∧ ∀ x, (x < b ∨ b + i ≤ x) → z.1 k3 x = s.1 k3 x)
    (fun o => ∃ z, o = rV z ∧ fr [k3] s z ∧ (∀ j, j < 50 → z.1 k3 (b + j) = s.1 k1 (a + j)) ∧ ∀ x, (x < b ∨ b + 50 ≤ x) → z.1 k3 x = s.1 k3 x) 50 ?_ ?_ BIG 0 s (by omega) (BIG_lt (by omega)) ⟨fr_rf _ _, fun j hj => by omega, fun x _ => rfl⟩
  · rintro n z ⟨q1, q2, q3⟩
    have el : (50 : Int32) ≤ i3 ((50 : Nat) : Int) := by decide
    simp only [f_X8_copies_3, if_pos el]
    exact ⟨z, rfl, q1, q2, q3⟩
  · rintro n i z hi ⟨q1, q2, q3⟩
    left
    have el : ¬ (50 : Int32) ≤ i3 (i : Int) := by rw [l3_50]; exact nle3 (by omega)
    have ea : i3 (a : Int) + i3 (i : Int) = i3 ((a + i : Nat) : Int) := by rw [i3_add]; rfl
    have eb : i3 (b : Int) + i3 (i : Int) = i3 ((b + i : Nat) : Int) := by rw [i3_add]; rfl
    have c1 : ∀ K : Out, ck (inb (i3 ((a + i : Nat) : Int)) (aLen k1)) K = K := fun K => ck_k (i3_in (by omega) (by omega)) K
    have c3 : ∀ K : Out, ck (inb (i3 ((b + i : Nat) : Int)) (aLen k3)) K = K := fun K => ck_k (i3_in (by omega) (by omega)) K
    have ef : z.1 k1 (a + i) = s.1 k1 (a + i) := fr_1 q1 (by simp [hne]) _
    simp only [f_X8_copies_3, if_neg el, ea, eb, c1, c3, clampN (show a + i < 2147483648 by omega), clampN (show b + i < 2147483648 by omega), ef, lt_k, inc3]
    refine ⟨_, ⟨fr_tr q1 (fr_sI (by simp)), fun j hj => ?_, fun x hx => ?_⟩, rfl⟩
    · rw [sI_1, up2_a]
      by_cases e : j = i
      · rw [if_pos ⟨rfl, by omega⟩, e]
      · rw [if_neg (fun w => e (by omega))]; exact q2 j (by omega)
    · rw [sI_1, up2_a, if_neg (fun w => by omega)]
      exact q3 x (by omega)
theorem l3_700 : (50 : Int32) = i3 ((50 : Nat) : Int) := by decide
/-- what now is goes into the past -/
theorem rem45 {s : Mem} {hn : Nat} {hq : Nat → Pic} {P : Pic} (h : mH s hn hq) (hlt : hn < 14) (hP : MN s P) : ∃ z, f_X8_remembers_45 s = rV z ∧ fr [29, 31] s z ∧ (∀ j, ¬ j = 2 → z.1 29 j = s.1 29 j) ∧ mH z (hn + 1) (fun j => if j = hn then P else hq j) := by
  obtain ⟨h1, h2, h3⟩ := h
  have em : i3 (hn : Int) * (50 : Int32) = i3 ((50 * hn : Nat) : Int) := by rw [l3_50, i3_mul]; congr 1; omega
  have e0 : (0 : Int32) = i3 ((0 : Nat) : Int) := l3_0
  obtain ⟨z, w1, w2, w3, w4⟩ := mCopies (s := s) (k1 := 30) (k3 := 31) (a := 0) (b := 50 * hn) (by decide) (by decide) (by show 50 * hn + 50 ≤ 700; omega) (by decide) (by decide)
  have ez : z.1 29 2 = i3 hn := by rw [fr_1 w2 (by simp)]; exact h1
  simp only [f_X8_remembers_45, h1, em, e0, w1, cV_k, lt_k, ez, inc3]
  refine ⟨_, rfl, fr_tr (fr_w w2 (by simp)) (fr_sI (by simp)), fun j hj => ?_, ?_, by omega, fun j hj => ?_⟩
  · rw [sI_1, up2_a, if_neg (fun w => hj w.2)]; exact fr_1 w2 (by simp) j
  · rw [sI_1, up2_same]
  · unfold MP
    have e31 : ∀ x, (sI z 29 2 (i3 ((hn + 1 : Nat) : Int))).1 31 x = z.1 31 x := fun x => by rw [sI_1, up2_k _ _ _ _ _ (by decide)]
    by_cases e : j = hn
    · simp only [if_pos e]
      refine RW_congr hP (fun x hx => ?_)
      rw [e31, e, w3 x hx, Nat.zero_add]
    · simp only [if_neg e]
      refine RW_congr (h3 j (by omega)) (fun x hx => ?_)
      show (sI z 29 2 (i3 ((hn + 1 : Nat) : Int))).1 31 (50 * j + x) = s.1 31 (50 * j + x)
      rw [e31]
      exact w4 _ (by omega)
theorem mRemembers {s : Mem} {hn : Nat} {hq : Nat → Pic} {P : Pic} (h : mH s hn hq) (hP : MN s P) : ∃ z, F_X8_remembers s = rV z ∧ fr [29, 31] s z ∧ (∀ j, ¬ j = 2 → z.1 29 j = s.1 29 j) ∧ mH z (remN hn) (remQ hn hq P) := by
  have h' := h
  obtain ⟨h1, h2, h3⟩ := h
  simp only [F_X8_remembers, h1]
  by_cases q : hn < 14
  · have n : ¬ i3 (hn : Int) = (14 : Int32) := by rw [l3_14]; exact ne3 (by omega)
    rw [if_neg n]
    unfold remN remQ
    rw [if_pos q, if_pos q]
    exact rem45 h' q hP
  · have e14 : hn = 14 := by omega
    subst e14
    have n : i3 ((14 : Nat) : Int) = (14 : Int32) := by decide
    rw [if_pos n]
    unfold remN remQ
    rw [if_neg q, if_neg q, show (0 : Int32) = i3 ((0 : Nat) : Int) from l3_0]
    refine loop_st (σ := Mem) (fun n i z => f_X8_remembers_11 n (i3 i) z) (fun i z => fr [31] s z ∧ (∀ x, x < i → z.1 31 x = s.1 31 (x + 50)) ∧ ∀ x, i ≤ x → z.1 31 x = s.1 31 x)
      (fun o => ∃ z, o = rV z ∧ fr [29, 31] s z ∧ (∀ j, ¬ j = 2 → z.1 29 j = s.1 29 j) ∧ mH z 14 (fun j => if j = 13 then P else hq (j + 1))) 650 ?_ ?_ BIG 0 s (by omega) (BIG_lt (by omega)) ⟨fr_rf _ _, fun j hj => by omega, fun x _ => rfl⟩
    · rintro n z ⟨q1, q2, q3⟩
      have el : (650 : Int32) ≤ i3 ((650 : Nat) : Int) := by decide
      simp only [f_X8_remembers_11, if_pos el, lt_k]
      have f2 : fr [29, 31] s (sI z 29 2 (13 : Int32)) := fr_tr (fr_w q1 (by simp)) (fr_sI (by simp))
      have hh : mH (sI z 29 2 (13 : Int32)) 13 (fun j => hq (j + 1)) := by
        refine ⟨by rw [sI_1, up2_same]; decide, by omega, fun j hj => ?_⟩
        unfold MP
        refine RW_congr (h3 (j + 1) (by omega)) (fun x hx => ?_)
        show (sI z 29 2 (13 : Int32)).1 31 (50 * j + x) = s.1 31 (50 * (j + 1) + x)
        rw [sI_1, up2_k _ _ _ _ _ (by decide), q2 _ (by omega), show 50 * j + x + 50 = 50 * (j + 1) + x from by omega]
      obtain ⟨z2, w1, w2, w3, w4⟩ := rem45 hh (by omega) (MN_fr hP f2 (by simp))
      refine ⟨z2, w1, fr_tr f2 w2, fun j hj => ?_, ?_⟩
      · rw [w3 j hj, sI_1, up2_a, if_neg (fun w => hj w.2)]; exact fr_1 q1 (by simp) j
      · exact w4
    · rintro n i z hi ⟨q1, q2, q3⟩
      left
      have el : ¬ (650 : Int32) ≤ i3 (i : Int) := by rw [l3_650]; exact nle3 (by omega)
      have ea : i3 (i : Int) + (50 : Int32) = i3 ((i + 50 : Nat) : Int) := by rw [l3_50, i3_add]; rfl
      have c1 : ∀ K : Out, ck (inb (i3 ((i + 50 : Nat) : Int)) 700) K = K := fun K => ck_k (i3_in (by omega) (by decide)) K
      have c2 : ∀ K : Out, ck (inb (i3 (i : Int)) 700) K = K := fun K => ck_k (i3_in (by omega) (by decide)) K
      simp only [f_X8_remembers_11, if_neg el, ea, c1, c2, clampN (show i + 50 < 2147483648 by omega), clampN (show i < 2147483648 by omega), lt_k, inc3]
      refine ⟨_, ⟨fr_tr q1 (fr_sI (by simp)), fun j hj => ?_, fun x hx => ?_⟩, rfl⟩
      · rw [sI_1, up2_a]
        by_cases e : j = i
        · rw [if_pos ⟨rfl, e⟩, e]; exact q3 _ (by omega)
        · rw [if_neg (fun w => e w.2)]; exact q2 j (by omega)
      · rw [sI_1, up2_a, if_neg (fun w => by omega)]
        exact q3 x (by omega)
