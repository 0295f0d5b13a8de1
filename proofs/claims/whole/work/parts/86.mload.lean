/-! loading, the model's way -/
theorem MN_wnt {z : Mem} {P Q : Pic} (h : MN z P) (okp : okP P) (okq : okP Q) (e1 : nR P = nR Q) (e2 : nC P = nC Q) (e3 : fX P = fX Q) (e4 : fP P = fP Q) (hw : ∀ l, l < nR P + nC P → wnt P l = wnt Q l) : MN z Q := by
  have o1 := okp.2.1
  have o2 := okp.2.2.2.1
  obtain ⟨h0, h1, h2, h3, h4⟩ := h
  refine ⟨by rw [← e1]; exact h0, by rw [← e2]; exact h1, fun r c hr hc => by rw [← e3, ← e4]; exact h2 r c hr hc, fun i hi => ?_, fun i hi => ?_⟩
  · rw [h3 i hi]
    by_cases q : i < nR P
    · have := hw i (by omega)
      unfold wnt at this
      rw [if_neg (by omega), if_neg (by omega)] at this
      rw [this]
    · rw [(okp.2.2.2.2.2.2.1 i hi).2 (by omega), (okq.2.2.2.2.2.2.1 i hi).2 (by omega)]
  · rw [h4 i hi]
    by_cases q : i < nC P
    · have := hw (nR P + i) (by omega)
      unfold wnt at this
      rw [if_pos (by omega), if_pos (by omega), ← e1, show nR P + i - nR P = i from by omega] at this
      rw [this]
    · rw [(okp.2.2.2.2.2.2.2 i hi).2 (by omega), (okq.2.2.2.2.2.2.2 i hi).2 (by omega)]
def wch (P : Pic) (f : Nat → Nat) : Nat → Pic
  | 0 => P
  | i + 1 => setW (wch P f i) i (f i)
theorem wch_ok {P : Pic} (ok : okP P) {f : Nat → Nat} (hf : ∀ l, l < nR P + nC P → f l ≤ 6) {i : Nat} (hi : i ≤ nR P + nC P) : okP (wch P f i) ∧ (nR (wch P f i) = nR P ∧ nC (wch P f i) = nC P ∧ fX (wch P f i) = fX P ∧ fP (wch P f i) = fP P) ∧ ∀ l, l < nR P + nC P → wnt (wch P f i) l = if l < i then f l else wnt P l := by
  induction i with
  | zero => exact ⟨ok, ⟨rfl, rfl, rfl, rfl⟩, fun l _ => by rw [if_neg (by omega)]; rfl⟩
  | succ i ih =>
    obtain ⟨a, ⟨b1, b2, b3, b4⟩, c⟩ := ih (by omega)
    have hl : i < nR (wch P f i) + nC (wch P f i) := by rw [b1, b2]; omega
    refine ⟨setW_ok a (hf i (by omega)) hl, ⟨(setW_R _ _ _).trans b1, (setW_C _ _ _).trans b2, (setW_X _ _ _).trans b3, (setW_P _ _ _).trans b4⟩, fun l hl' => ?_⟩
    show wnt (setW (wch P f i) i (f i)) l = _
    rw [setW_wnt a (hf i (by omega)) hl (by rw [b1, b2]; exact hl'), c l hl']
    by_cases e : l = i
    · rw [if_pos e, if_pos (by omega), e]
    · rw [if_neg e]
      by_cases e2 : l < i
      · rw [if_pos e2, if_pos (by omega)]
      · rw [if_neg e2, if_neg (by omega)]
/-- the wants are loaded -/
theorem ld166 {s : Mem} {P0 Q : Pic} {n : Nat} {t : Nat → Nat} {R C : Nat} (h : MN s P0) (ok0 : okP P0) (hT : mT s n t) (hg : gud n t R C) (hQ : ldP n t R C Q) (e1 : nR P0 = nR Q) (e2 : nC P0 = nC Q) (e3 : fX P0 = fX Q) (e4 : fP P0 = fP Q) (hn : n ≤ 60) :
    ∃ z, f_X8_load_166 BIG (i3 ((R * C : Nat) : Int)) (0 : Int32) s = rI (i3 (pc (fX Q))) z ∧ fr [29, 30] s z ∧ (∀ j, ¬ j = 2 → ¬ j = 4 → z.1 29 j = s.1 29 j) ∧ z.1 29 2 = i3 0 ∧ z.1 29 4 = i3 0 ∧ MN z Q := by
  obtain ⟨g1, g2, g3, g4, g5, g6, g7, g8, g9⟩ := hg
  obtain ⟨q1, q2, q3, q4, okQ, q6⟩ := hQ
  have hRC : R * C ≤ 36 := Nat.mul_le_mul g4.2 g5.2
  have eR : nR P0 = R := e1.trans q1
  have eC : nC P0 = C := e2.trans q2
  have hf : ∀ l, l < nR P0 + nC P0 → wnt Q l ≤ 6 := fun l hl => wnt_6 okQ (by rw [← e1, ← e2]; exact hl)
  generalize hN : R * C = N at *
  rw [show (0 : Int32) = i3 ((0 : Nat) : Int) from l3_0]
  refine loop_st (σ := Mem) (fun m i z => f_X8_load_166 m (i3 (N : Int)) (i3 i) z) (fun i z => fr [30] s z ∧ MN z (wch P0 (wnt Q) i))
    (fun o => ∃ z, o = rI (i3 (pc (fX Q))) z ∧ fr [29, 30] s z ∧ (∀ j, ¬ j = 2 → ¬ j = 4 → z.1 29 j = s.1 29 j) ∧ z.1 29 2 = i3 0 ∧ z.1 29 4 = i3 0 ∧ MN z Q) (R + C) ?_ ?_ BIG 0 s (by omega) (BIG_lt (by omega)) ⟨fr_rf _ _, h⟩
  · rintro m z ⟨w1, w2⟩
    obtain ⟨okW, ⟨b1, b2, b3, b4⟩, b5⟩ := wch_ok ok0 hf (i := R + C) (by omega)
    have hm : MN z Q := MN_wnt w2 okW okQ (b1.trans e1) (b2.trans e2) (b3.trans e3) (b4.trans e4) (fun l hl => by
      have hl' : l < nR P0 + nC P0 := by rw [← b1, ← b2]; exact hl
      rw [b5 l hl', if_pos (by omega)])
    have el : i3 (R : Int) + i3 (C : Int) ≤ i3 ((R + C : Nat) : Int) := by rw [i3_add]; exact le3 (by omega)
    have f2 : fr [29, 30] s (sI (sI z 29 2 (0 : Int32)) 29 4 (0 : Int32)) := fr_tr (fr_w w1 (by simp)) (fr_tr (fr_sI (by simp)) (fr_sI (by simp)))
    have hm2 : MN (sI (sI z 29 2 (0 : Int32)) 29 4 (0 : Int32)) Q := MN_fr hm (fr_tr (fr_sI (W := [29]) (by simp)) (fr_sI (by simp))) (by simp)
    simp only [f_X8_load_166, rows_code hm, cols_code hm, cI_k, q1, q2, if_pos el, lt_k, mFilledMany hm2 okQ]
    refine ⟨_, rfl, f2, fun j hj2 hj4 => ?_, ?_, ?_, hm2⟩
    · rw [sI_1, up2_a, if_neg (fun w => hj4 w.2), sI_1, up2_a, if_neg (fun w => hj2 w.2), fr_1 w1 (by simp)]
    · rw [sI_1, up2_a, if_neg (by decide), sI_1, up2_same]; rfl
    · rw [sI_1, up2_same]; rfl
  · rintro m i z hi ⟨w1, w2⟩
    left
    obtain ⟨okW, ⟨b1, b2, b3, b4⟩, b5⟩ := wch_ok ok0 hf (i := i) (by omega)
    have el : ¬ i3 (R : Int) + i3 (C : Int) ≤ i3 (i : Int) := by rw [i3_add]; exact nle3 (by omega)
    have hl : i < nR (wch P0 (wnt Q) i) + nC (wch P0 (wnt Q) i) := by rw [b1, b2, eR, eC]; exact hi
    obtain ⟨a, a1, a2, a3, a4⟩ := mWantAt w2 okW hl
    have hc := mCount w2 okW hl
    rw [b1, b3, eR, e3] at hc
    have hck : ∀ K : Out, ck (inb (i3 (a : Int)) 50) K = K := fun K => ck_k (i3_in (by omega) (by decide)) K
    have z7 : z.1 29 7 = i3 n := by rw [fr_1 w1 (by simp)]; exact hT.1
    have e3' : (3 : Int32) + i3 (N : Int) = i3 ((3 + N : Nat) : Int) := by rw [l3_3, i3_add]; rfl
    have w6 := q6 i hi
    have hstep : fr [30] s (sI z 30 a (i3 ((wnt Q i : Nat) : Int))) ∧ MN (sI z 30 a (i3 ((wnt Q i : Nat) : Int))) (wch P0 (wnt Q) (i + 1)) := ⟨fr_tr w1 (fr_sI (by simp)), MN_W w2 okW (hf i (by omega)) hl a3⟩
    have hr2 : F_X8_rows z = rI (i3 R) z := by have := rows_code w2; rw [b1, eR] at this; exact this
    have hc2 : F_X8_columns z = rI (i3 C) z := by have := cols_code w2; rw [b2, eC] at this; exact this
    simp only [f_X8_load_166, hr2, hc2, cI_k, if_neg el, a1, z7, e3']
    by_cases p : n = 3 + N
    · rw [if_pos p] at w6
      have l : i3 (n : Int) ≤ i3 ((3 + N : Nat) : Int) := le3 (by omega)
      simp only [if_pos l, hc, cI_k, hck, clampN (show a < 2147483648 by omega), lt_k, inc3]
      rw [← w6]
      exact ⟨_, hstep, rfl⟩
    · rw [if_neg p] at w6
      have l : ¬ i3 (n : Int) ≤ i3 ((3 + N : Nat) : Int) := nle3 (by omega)
      have e4' : ((4 : Int32) + i3 (N : Int)) + i3 (i : Int) = i3 ((4 + N + i : Nat) : Int) := by rw [l3_4, i3_add, i3_add]; rfl
      have c60 : ∀ K : Out, ck (inb (i3 ((4 + N + i : Nat) : Int)) 60) K = K := fun K => ck_k (i3_in (by omega) (by decide)) K
      have hlt : 4 + N + i < n := by omega
      have e34 : z.1 34 (4 + N + i) = i3 (t (4 + N + i)) := by rw [fr_1 w1 (by simp)]; exact hT.2 _ hlt
      have esg : sg n t (4 + N + i) = t (4 + N + i) := by unfold sg; rw [if_pos hlt]
      have ev : i3 (t (4 + N + i)) - (48 : Int32) = i3 ((wnt Q i : Nat) : Int) := by rw [l3_48, i3_sub, w6, esg]
      simp only [if_neg l, e4', c60, hck, clampN (show 4 + N + i < 2147483648 by omega), clampN (show a < 2147483648 by omega), e34, ev, lt_k, inc3]
      exact ⟨_, hstep, rfl⟩
