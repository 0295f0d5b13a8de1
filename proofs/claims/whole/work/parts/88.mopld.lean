theorem ld29 {s : Mem} {Q : Pic} {n : Nat} {t : Nat → Nat} {R C : Nat} (hT : mT s n t) (hg : gud n t R C) (hQ : ldP n t R C Q) (hn : n ≤ 60) :
    ∃ z, f_X8_load_29 BIG (0 : Int32) s = rI (i3 (pc (fX Q))) z ∧ fr [29, 30] s z ∧ (∀ j, ¬ j = 2 → ¬ j = 4 → z.1 29 j = s.1 29 j) ∧ z.1 29 2 = i3 0 ∧ z.1 29 4 = i3 0 ∧ MN z Q := by
  have hg' := hg
  obtain ⟨g1, g2, g3, g4, g5, g6, g7, g8, g9⟩ := hg
  rw [show (0 : Int32) = i3 ((0 : Nat) : Int) from l3_0]
  refine loop_st (σ := Mem) (fun m i z => f_X8_load_29 m (i3 i) z) (fun i z => fr [30] s z ∧ ∀ x, x < i → z.1 30 x = i3 0)
    (fun o => ∃ z, o = rI (i3 (pc (fX Q))) z ∧ fr [29, 30] s z ∧ (∀ j, ¬ j = 2 → ¬ j = 4 → z.1 29 j = s.1 29 j) ∧ z.1 29 2 = i3 0 ∧ z.1 29 4 = i3 0 ∧ MN z Q) 50 ?_ ?_ BIG 0 s (by omega) (BIG_lt (by omega)) ⟨fr_rf _ _, fun x hx => by omega⟩
  · rintro m z ⟨w1, w2⟩
    have el : (50 : Int32) ≤ i3 ((50 : Nat) : Int) := by decide
    have t1 : z.1 34 1 - (48 : Int32) = i3 R := by
      have : sg n t 1 = t 1 := by unfold sg; rw [if_pos (by omega)]
      rw [fr_1 w1 (by simp), hT.2 1 (by omega), l3_48, i3_sub, ← this, g2]; congr 1; omega
    have t2 : (sI z 30 0 (i3 R)).1 34 2 - (48 : Int32) = i3 C := by
      have : sg n t 2 = t 2 := by unfold sg; rw [if_pos (by omega)]
      rw [sI_1, up2_k _ _ _ _ _ (by decide), fr_1 w1 (by simp), hT.2 2 (by omega), l3_48, i3_sub, ← this, g3]; congr 1; omega
    have e30 : ∀ x, (sI (sI z 30 0 (i3 R)) 30 1 (i3 C)).1 30 x = if x = 1 then i3 C else if x = 0 then i3 R else z.1 30 x := fun x => by
      rw [sI_1, up2_a]
      by_cases e : x = 1
      · rw [if_pos ⟨rfl, e⟩, if_pos e]
      · rw [if_neg (fun w => e w.2), if_neg e, sI_1, up2_a]
        by_cases e2 : x = 0
        · rw [if_pos ⟨rfl, e2⟩, if_pos e2]
        · rw [if_neg (fun w => e2 w.2), if_neg e2]
    have er : F_X8_rows (sI (sI z 30 0 (i3 R)) 30 1 (i3 C)) = rI (i3 R) (sI (sI z 30 0 (i3 R)) 30 1 (i3 C)) := by simp only [F_X8_rows, e30]; rfl
    have ec : F_X8_columns (sI (sI z 30 0 (i3 R)) 30 1 (i3 C)) = rI (i3 C) (sI (sI z 30 0 (i3 R)) 30 1 (i3 C)) := by simp only [F_X8_columns, e30]; rfl
    have ep : i3 (R : Int) * i3 (C : Int) = i3 ((R * C : Nat) : Int) := i3_mul _ _
    simp only [f_X8_load_29, if_pos el, t1, lt_k, t2, er, ec, cI_k, ep]
    refine ld90 hT hg' hQ hn (fr_tr w1 (fr_tr (fr_sI (by simp)) (fr_sI (by simp)))) ⟨by rw [e30, if_neg (by decide), if_pos rfl], by rw [e30, if_pos rfl], fun r c hr hc => ?_, fun x h1 h2 => ?_⟩
    · rw [e30, if_neg (by omega), if_neg (by omega), w2 _ (by omega), if_neg (by omega)]
    · rw [e30, if_neg (by omega), if_neg (by omega), w2 _ (by omega)]
  · rintro m i z hi ⟨w1, w2⟩
    left
    have el : ¬ (50 : Int32) ≤ i3 (i : Int) := by rw [l3_50]; exact nle3 (by omega)
    have c1 : ∀ O : Out, ck (inb (i3 (i : Int)) 50) O = O := fun O => ck_k (i3_in (by omega) (by decide)) O
    simp only [f_X8_load_29, if_neg el, c1, clampN (show i < 2147483648 by omega), lt_k, inc3]
    refine ⟨_, ⟨fr_tr w1 (fr_sI (by simp)), fun x hx => ?_⟩, rfl⟩
    rw [sI_1, up2_a]
    by_cases e : x = i
    · rw [if_pos ⟨rfl, e⟩]; rfl
    · rw [if_neg (fun w => e w.2)]; exact w2 x (by omega)
theorem op_load {μ : Mem} {A : Ab} (h : cInv μ A) : opOK A [eSta] μ (F_X7_load μ) F_X8_load := by
  obtain ⟨v, w1, w2, w3⟩ := firstError_code h.2.2.2.2
  have fault : ∀ s, mInv s A → F_X8_faultOf s = rI (i3 v) s := fun s hs => by
    obtain ⟨v', y1, y2⟩ := mFault hs.2.2.2 h.2.2.2.2.2.1 (fun j hj => (h.2.2.2.2.2.2 j hj).2)
    have e := errR_uni y2 w2
    subst e; exact y1
  by_cases q : v = -9
  · subst q
    obtain ⟨R, C, hg⟩ := gud_of w2
    obtain ⟨s1, Q, x1, x2, x3, x4⟩ := drawInto_code h.2.2.2.2 hg
    have okQ : okP Q := x3.2.2.2.2.1
    have hc1 := cInv_P h x4 x2 okQ
    obtain ⟨s2, y1, y2, y3⟩ := hforget_code hc1.2.2.1
    have hS2 := cS_fr hc1.2.2.2.1 y2 (by simp) (by simp) (by simp) (by simp)
    obtain ⟨s3, z1, z2, z3⟩ := sforget_code hS2
    have hP2 : CP s2 2 Q := CP_fr x2 y2 (by simp)
    have hP3 : CP s3 2 Q := CP_fr hP2 z2 (by simp)
    have e9 : i3 (-9) = (-9 : Int32) := by decide
    refine ⟨s3, frc_tr (frc_of x4 (by simp)) (frc_tr (frc_of y2 (by simp)) (frc_of z2 (by simp))), Or.inl ⟨i3 (pc (fX Q)), (Q, (0, aH A), (fun _ => false, aS A), (aN A, aT A)), ?_, ⟨hP3, okQ, cH_fr y3 z2 (by simp) (by simp) (fun k h1 h2 => by simp; omega), z3, cT_fr (cT_fr hc1.2.2.2.2 y2 (by simp) (by simp)) z2 (by simp) (by simp)⟩, fun s hs => ?_⟩⟩
    · simp only [F_X7_load, w1, cI_k, if_pos e9, x1, cV_k, y1, z1, countFilled_code hP3]
    · obtain ⟨t1, t2, t3⟩ := thr hs (0 : Int32)
      obtain ⟨z, a1, a2, a3, a4, a5, a6⟩ := ld29 t2.2.2.2 hg x3 h.2.2.2.2.2.1
      refine ⟨z, ?_, frm_tr t1 (frm_of a2 (by simp)), by rw [a3 8 (by decide) (by decide), t3]; rfl, a6, ⟨a4, Nat.zero_le _, fun j hj => absurd hj (Nat.not_lt_zero _)⟩, ⟨a5, fun j _ hb => Bool.noConfusion hb⟩, (a3 7 (by decide) (by decide)).trans t2.2.2.2.1, fun j hj => by rw [fr_1 a2 (by simp)]; exact t2.2.2.2.2 j hj⟩
      simp only [F_X8_load, fault s hs, cI_k, if_pos e9, f_X8_load_15, lt_k, t3, if_true, a1]
  · have n9 : ¬ i3 v = (-9 : Int32) := by rw [l3_m9]; exact ne3 (by omega)
    refine op_err (frc_rf μ) h eSta 0 (by simp only [F_X7_load, w1, cI_k, if_neg n9]) rfl (fun s hs => ?_)
    obtain ⟨t1, t2, t3⟩ := thr hs (1 : Int32)
    refine ⟨0, sI s 29 8 (1 : Int32), ?_, t1, by rw [t3]; decide, t2⟩
    simp only [F_X8_load, fault s hs, cI_k, if_neg n9, f_X8_load_15, lt_k, t3, if_neg jz1]
