theorem mTurns {μ : Mem} {P Q : Pic} (h : MN μ P) (ok : okP P) (hq : turned P Q) : ∃ z, F_X8_turns μ = rV z ∧ fr [30, 47] μ z ∧ MN z Q := by
  have o1 := ok.2.1
  have o2 := ok.2.2.2.1
  have o0 := ok.1
  have o3 := ok.2.2.1
  simp only [F_X8_turns, rows_code h, cols_code h, cI_k]
  rw [show (0 : Int32) = i3 ((0 : Nat) : Int) from l3_0]
  have last : ∀ z, fr [47] μ z → qtn P (μ.1 30) (z.1 47) (nR P) 0 (nR P) 0 → ∃ z', f_X8_turns_129 BIG (i3 (nC P)) (0 : Int32) z = rV z' ∧ fr [30, 47] μ z' ∧ MN z' Q := by
    intro z hz hw
    rw [show (0 : Int32) = i3 ((0 : Nat) : Int) from l3_0]
    refine loop_st (σ := Mem) (fun n i z => f_X8_turns_129 n (i3 (nC P)) (i3 i) z) (fun i z => fr [47] μ z ∧ qtn P (μ.1 30) (z.1 47) (nR P) 0 (nR P) i) (fun o => ∃ z', o = rV z' ∧ fr [30, 47] μ z' ∧ MN z' Q) (nC P) ?_ ?_ BIG 0 z (by omega) (BIG_lt (by omega)) ⟨hz, hw⟩
    · rintro n z ⟨q1, q2⟩
      have el : i3 (nC P : Int) ≤ i3 (nC P : Int) := le3 (by omega)
      have e0 : (0 : Int32) = i3 ((0 : Nat) : Int) := l3_0
      obtain ⟨z2, u1, u2, u3, u4⟩ := mCopies (s := z) (k1 := 47) (k3 := 30) (a := 0) (b := 0) (by decide) (by decide) (by decide) (by decide) (by decide)
      rw [← e0] at u1
      simp only [f_X8_turns_129, if_pos el, u1, cV_k]
      refine ⟨z2, rfl, fr_tr (fr_w q1 (by simp)) (fr_w u2 (by simp)), ?_⟩
      have := qtn_MN ok hq h q2
      unfold MN
      refine RW_congr this (fun x hx => ?_)
      have := u3 x hx
      rw [Nat.zero_add] at this
      exact this
    · rintro n i z hi ⟨q1, q2⟩
      left
      have el : ¬ i3 (nC P : Int) ≤ i3 (i : Int) := nle3 (by omega)
      have e44 : (44 : Int32) + i3 (i : Int) = i3 ((44 + i : Nat) : Int) := by rw [l3_44, i3_add]; rfl
      have e38 : (38 : Int32) + i3 (i : Int) = i3 ((38 + i : Nat) : Int) := by rw [l3_38, i3_add]; rfl
      have c44 : ∀ O : Out, ck (inb (i3 ((44 + i : Nat) : Int)) 50) O = O := fun O => ck_k (i3_in (by omega) (by decide)) O
      have c38 : ∀ O : Out, ck (inb (i3 ((38 + i : Nat) : Int)) 50) O = O := fun O => ck_k (i3_in (by omega) (by decide)) O
      have e30 : z.1 30 (44 + i) = μ.1 30 (44 + i) := fr_1 q1 (by simp) _
      simp only [f_X8_turns_129, if_neg el, e44, e38, c44, c38, clampN (show 44 + i < 2147483648 by omega), clampN (show 38 + i < 2147483648 by omega), e30, lt_k, inc3]
      refine ⟨_, ⟨fr_tr q1 (fr_sI (by simp)), qtn_up q2 (by omega) (fun a b ha hb => ?_) (fun a ha => ?_) (fun a ha => ?_)⟩, rfl⟩
      · rw [if_neg (by omega)]
      · by_cases e : a = i
        · subst e; rw [if_pos rfl, if_pos (by omega)]
        · rw [if_neg (by omega)]
          by_cases e2 : a < i
          · rw [if_pos e2, if_pos (by omega)]
          · rw [if_neg e2, if_neg (by omega)]
      · rw [if_neg (by omega)]
  refine loop_st (σ := Mem) (fun n i z => f_X8_turns_12 n (i3 (nR P)) (i3 (nC P)) (i3 i) z) (fun i z => fr [47] μ z ∧ ∀ x, x < i → z.1 47 x = i3 0) (fun o => ∃ z', o = rV z' ∧ fr [30, 47] μ z' ∧ MN z' Q) 50 ?_ ?_ BIG 0 μ (by omega) (BIG_lt (by omega)) ⟨fr_rf _ _, fun x hx => by omega⟩
  · rintro n z ⟨q1, q2⟩
    have el : (50 : Int32) ≤ i3 ((50 : Nat) : Int) := by decide
    simp only [f_X8_turns_12, if_pos el, lt_k]
    rw [show (0 : Int32) = i3 ((0 : Nat) : Int) from l3_0]
    have f1 : fr [47] μ (sI (sI z 47 0 (i3 (nC P))) 47 1 (i3 (nR P))) := fr_tr q1 (fr_tr (fr_sI (by simp)) (fr_sI (by simp)))
    have e47 : ∀ x, (sI (sI z 47 0 (i3 (nC P))) 47 1 (i3 (nR P))).1 47 x = if x = 1 then i3 (nR P) else if x = 0 then i3 (nC P) else z.1 47 x := fun x => by
      rw [sI_1, up2_a]
      by_cases e : x = 1
      · rw [if_pos ⟨rfl, e⟩, if_pos e]
      · rw [if_neg (fun w => e w.2), if_neg e, sI_1, up2_a]
        by_cases e2 : x = 0
        · rw [if_pos ⟨rfl, e2⟩, if_pos e2]
        · rw [if_neg (fun w => e2 w.2), if_neg e2]
    have h0 : qtn P (μ.1 30) ((sI (sI z 47 0 (i3 (nC P))) 47 1 (i3 (nR P))).1 47) 0 0 0 0 := by
      refine ⟨by rw [e47, if_neg (by decide), if_pos rfl], by rw [e47, if_pos rfl], fun a b ha hb => ?_, fun a ha => ?_, fun a ha => ?_⟩
      · rw [e47, if_neg (by omega), if_neg (by omega), q2 _ (by omega), if_neg (by omega)]
      · rw [e47, if_neg (by omega), if_neg (by omega), q2 _ (by omega), if_neg (by omega)]
      · rw [e47, if_neg (by omega), if_neg (by omega), q2 _ (by omega), if_neg (by omega)]
    refine loop_rd (σ := Mem) (fun n i z => f_X8_turns_47 n (i3 (nR P)) (i3 (nC P)) (i3 i) z) (fun n m i j z => f_X8_turns_77 (f_X8_turns_47 n) m (i3 (nR P)) (i3 (nC P)) (i3 i) (i3 j) z)
      (fun i z => fr [47] μ z ∧ qtn P (μ.1 30) (z.1 47) i 0 i 0) (fun i j z => fr [47] μ z ∧ qtn P (μ.1 30) (z.1 47) i j (i + 1) 0) (fun o => ∃ z', o = rV z' ∧ fr [30, 47] μ z' ∧ MN z' Q) (nR P) (nC P) (by omega) ?_ ?_ ?_ ?_ BIG 0 _ (by omega) (BIG_lt (by omega)) ⟨f1, h0⟩
    · rintro n z ⟨q1, q2⟩
      have el : i3 (nR P : Int) ≤ i3 (nR P : Int) := le3 (by omega)
      simp only [f_X8_turns_47, if_pos el]
      exact last z q1 q2
    · rintro n i z hi ⟨q1, q2⟩
      have el : ¬ i3 (nR P : Int) ≤ i3 (i : Int) := nle3 (by omega)
      have e38 : (38 : Int32) + i3 (i : Int) = i3 ((38 + i : Nat) : Int) := by rw [l3_38, i3_add]; rfl
      have e44 : (((44 : Int32) + i3 (nR P : Int)) - (1 : Int32)) - i3 (i : Int) = i3 ((44 + (nR P - 1 - i) : Nat) : Int) := by rw [l3_44, l3_1, i3_add, i3_sub, i3_sub]; congr 1; omega
      have c44 : ∀ O : Out, ck (inb (i3 ((44 + (nR P - 1 - i) : Nat) : Int)) 50) O = O := fun O => ck_k (i3_in (by omega) (by decide)) O
      have c38 : ∀ O : Out, ck (inb (i3 ((38 + i : Nat) : Int)) 50) O = O := fun O => ck_k (i3_in (by omega) (by decide)) O
      have e30 : z.1 30 (38 + i) = μ.1 30 (38 + i) := fr_1 q1 (by simp) _
      simp only [f_X8_turns_47, if_neg el, e38, e44, c44, c38, clampN (show 38 + i < 2147483648 by omega), clampN (show 44 + (nR P - 1 - i) < 2147483648 by omega), e30, lt_k]
      refine ⟨_, ⟨fr_tr q1 (fr_sI (by simp)), qtn_up (i' := i) (j' := 0) (k' := i + 1) (l' := 0) (u := μ.1 30 (38 + i)) (x := 44 + (nR P - 1 - i)) q2 (by omega) (fun a b ha hb => ?_) (fun a ha => ?_) (fun a ha => ?_)⟩, ?_⟩
      · rw [if_neg (by omega)]
      · rw [if_neg (by omega)]
      · by_cases e : a = nR P - 1 - i
        · subst e; rw [if_pos rfl, if_pos (by omega), show nR P - 1 - (nR P - 1 - i) = i from by omega]
        · rw [if_neg (by omega)]
          by_cases e2 : a < nR P ∧ nR P - 1 - a < i
          · rw [if_pos e2, if_pos (by omega)]
          · rw [if_neg e2, if_neg (by omega)]
      · rw [l3_0]; rfl
    · rintro n m i z hi ⟨q1, q2⟩
      have el : i3 (nC P : Int) ≤ i3 (nC P : Int) := le3 (by omega)
      simp only [f_X8_turns_77, if_pos el, lt_k, inc3]
      refine ⟨z, ⟨q1, ?_⟩, rfl⟩
      obtain ⟨g0, g1, g2, g3, g4⟩ := q2
      refine ⟨g0, g1, fun a b ha hb => ?_, g3, g4⟩
      rw [g2 a b ha hb]
      by_cases e : (a < nC P ∧ b < nR P) ∧ (nR P - 1 - b < i ∨ nR P - 1 - b = i ∧ a < nC P)
      · rw [if_pos e, if_pos (by omega)]
      · rw [if_neg e, if_neg (by omega)]
    · rintro n m i j z hi hj ⟨q1, q2⟩
      have el : ¬ i3 (nC P : Int) ≤ i3 (j : Int) := nle3 (by omega)
      have e2 : ((((((2 : Int32) + ((6 : Int32) * i3 (j : Int))) + i3 (nR P : Int)) - (1 : Int32)) - i3 (i : Int))) = i3 ((2 + 6 * j + (nR P - 1 - i) : Nat) : Int) := by rw [at26, l3_1, i3_sub, i3_sub]; congr 1; omega
      have c1 : ∀ O : Out, ck (inb (i3 ((2 + 6 * i + j : Nat) : Int)) 50) O = O := fun O => ck_k (i3_in (by omega) (by decide)) O
      have c2 : ∀ O : Out, ck (inb (i3 ((2 + 6 * j + (nR P - 1 - i) : Nat) : Int)) 50) O = O := fun O => ck_k (i3_in (by omega) (by decide)) O
      have e30 : z.1 30 (2 + 6 * i + j) = μ.1 30 (2 + 6 * i + j) := fr_1 q1 (by simp) _
      simp only [f_X8_turns_77, if_neg el, e2]
      simp only [at26, c1, c2, clampN (show 2 + 6 * i + j < 2147483648 by omega), clampN (show 2 + 6 * j + (nR P - 1 - i) < 2147483648 by omega), e30, lt_k, inc3]
      refine ⟨_, ⟨fr_tr q1 (fr_sI (by simp)), qtn_up (i' := i) (j' := j + 1) (k' := i + 1) (l' := 0) (u := μ.1 30 (2 + 6 * i + j)) (x := 2 + 6 * j + (nR P - 1 - i)) q2 (by omega) (fun a b ha hb => ?_) (fun a ha => ?_) (fun a ha => ?_)⟩, rfl⟩
      · by_cases e : a = j ∧ b = nR P - 1 - i
        · obtain ⟨rfl, rfl⟩ := e
          rw [if_pos rfl, if_pos (by omega), show nR P - 1 - (nR P - 1 - i) = i from by omega]
        · rw [if_neg (by omega)]
          by_cases e2 : (a < nC P ∧ b < nR P) ∧ (nR P - 1 - b < i ∨ nR P - 1 - b = i ∧ a < j)
          · rw [if_pos e2, if_pos (by omega)]
          · rw [if_neg e2, if_neg (by omega)]
      · rw [if_neg (by omega)]
      · rw [if_neg (by omega)]
  · rintro n i z hi ⟨q1, q2⟩
    left
    have el : ¬ (50 : Int32) ≤ i3 (i : Int) := by rw [l3_50]; exact nle3 (by omega)
    have c1 : ∀ O : Out, ck (inb (i3 (i : Int)) 50) O = O := fun O => ck_k (i3_in (by omega) (by decide)) O
    simp only [f_X8_turns_12, if_neg el, c1, clampN (show i < 2147483648 by omega), lt_k, inc3]
    refine ⟨_, ⟨fr_tr q1 (fr_sI (by simp)), fun x hx => ?_⟩, rfl⟩
    rw [sI_1, up2_a]
    by_cases e : x = i
    · rw [if_pos ⟨rfl, e⟩]; rfl
    · rw [if_neg (fun w => e w.2)]; exact q2 x (by omega)
theorem mInv_PW {μ μ' : Mem} {A : Ab} {Q : Pic} (h : mInv μ A) (hf : fr [30, 47] μ μ') (hP : MN μ' Q) : mInv μ' (setP A Q) :=
  ⟨hP, ⟨(fr_1 hf (by simp) _).trans h.2.1.1, h.2.1.2.1, fun j hj => MP_fr (h.2.1.2.2 j hj) hf (by simp)⟩, ⟨(fr_1 hf (by simp) _).trans h.2.2.1.1, fun j hj hv => MP_fr (h.2.2.1.2 j hj hv) hf (by simp)⟩, (fr_1 hf (by simp) _).trans h.2.2.2.1, fun j hj => (fr_1 hf (by simp) _).trans (h.2.2.2.2 j hj)⟩
theorem op_turn {μ : Mem} {A : Ab} (h : cInv μ A) : opOK A [] μ (F_X7_turn μ) F_X8_turn := by
  have ok := h.2.1
  obtain ⟨s1, w1, w2, w3⟩ := cRem h
  obtain ⟨s2, Q, x1, x2, x3, x4⟩ := turnQuarter_code w3.1 ok
  refine ⟨s2, frc_tr w2 (frc_of x4 (by simp)), Or.inl ⟨i3 (nR Q), setP (remA A) Q, by simp only [F_X7_turn, w1, cV_k, x1, x2.1], cInv_P w3 x4 x2 (turned_ok ok x3), fun y hy => ?_⟩⟩
  obtain ⟨t1, t2, t3⟩ := thr hy (0 : Int32)
  obtain ⟨u, v1, v2, v3, v4⟩ := mRem t2
  obtain ⟨z, y1, y2, y3⟩ := mTurns v4.1 ok x3
  refine ⟨z, ?_, frm_tr t1 (frm_tr v2 (frm_of y2 (by simp))), ?_, mInv_PW v4 y2 y3⟩
  · simp only [F_X8_turn, lt_k, v1, cV_k, y1, rows_code y3, cI_k]
  · rw [fr_1 y2 (by simp), v3 8 (by decide), t3]; rfl
