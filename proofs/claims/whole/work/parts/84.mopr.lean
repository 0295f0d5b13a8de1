/-! resize on both sides -/
def rzd (R C : Nat) (v w : Nat → Int32) (i j : Nat) : Prop := w 0 = i3 R ∧ w 1 = i3 C ∧ (∀ y, y < 36 → w (2 + y) = if y < i ∧ ¬ (y / 6 < R ∧ y % 6 < C) then i3 0 else v (2 + y)) ∧
  (∀ a, a < 6 → w (38 + a) = if a < j ∧ R ≤ a then i3 0 else v (38 + a)) ∧ (∀ a, a < 6 → w (44 + a) = if a < j ∧ C ≤ a then i3 0 else v (44 + a))
theorem rzd_MN {P : Pic} (ok : okP P) {R C : Nat} (hR : R ≤ 6) (hC : C ≤ 6) {v w : Nat → Int32} (hv : RW v P) (h : rzd R C v w 36 6) : RW w (cutP P R C) := by
  obtain ⟨g0, g1, g2, g3, g4⟩ := h
  obtain ⟨v0, v1, v2, v3, v4⟩ := hv
  have bits : ∀ x : Int64, ∀ a b, a < 6 → b < 6 → b2 (tb (x &&& bdI R C) (8 * a + b)) = if a < R ∧ b < C then b2 (tb x (8 * a + b)) else 0 := by
    intro x a b ha hb
    have tY := tb_iff (x := x &&& bdI R C) (r := a) (c := b) (by omega) (by omega)
    have tX := tb_iff (x := x) (r := a) (c := b) (by omega) (by omega)
    rw [zc_and, zc_bd hR hC, ← tX] at tY
    by_cases q : a < R ∧ b < C
    · rw [if_pos q]
      cases hh : tb x (8 * a + b)
      · rw [tb_f (fun w => by have := (tY.mp w).1; rw [hh] at this; exact absurd this (by decide))]
      · rw [tY.mpr ⟨hh, q⟩]
    · rw [if_neg q, tb_f (fun w => q (tY.mp w).2)]; rfl
  refine ⟨g0, g1, fun a b ha hb => ?_, fun a ha => ?_, fun a ha => ?_⟩
  · show _ = i3 (b2 (tb (fX P &&& bdI R C) (8 * a + b)) + 2 * b2 (tb (fP P &&& bdI R C) (8 * a + b)))
    rw [bits _ a b ha hb, bits _ a b ha hb, show 2 + 6 * a + b = 2 + (6 * a + b) from by omega, g2 _ (by omega), show (6 * a + b) / 6 = a from by omega, show (6 * a + b) % 6 = b from by omega]
    by_cases q : a < R ∧ b < C
    · rw [if_pos q, if_pos q, if_neg (fun w => w.2 q), show 2 + (6 * a + b) = 2 + 6 * a + b from by omega]; exact v2 a b ha hb
    · rw [if_neg q, if_neg q, if_pos ⟨by omega, q⟩]; rfl
  · show _ = i3 ((dgn (clrD (wU P) R (6 - R)) a : Nat) : Int)
    rw [g3 a ha, dgn_clr _ _ _ (by omega) a ha]
    by_cases q : R ≤ a
    · rw [if_pos ⟨ha, q⟩, if_pos (by omega)]; rfl
    · rw [if_neg (fun w => q w.2), if_neg (by omega)]; exact v3 a ha
  · show _ = i3 ((dgn (clrD (wV P) C (6 - C)) a : Nat) : Int)
    rw [g4 a ha, dgn_clr _ _ _ (by omega) a ha]
    by_cases q : C ≤ a
    · rw [if_pos ⟨ha, q⟩, if_pos (by omega)]; rfl
    · rw [if_neg (fun w => q w.2), if_neg (by omega)]; exact v4 a ha
theorem isCellRC {μ : Mem} {R C : Nat} (h0 : μ.1 30 0 = i3 R) (h1 : μ.1 30 1 = i3 C) (hR : R ≤ 6) (hC : C ≤ 6) {r c : Nat} (hr : r < 100) (hc : c < 100) : F_X8_isCell (i3 r) (i3 c) μ = rI (i3 (if r < R ∧ c < C then 1 else 0)) μ := by
  have er : F_X8_rows μ = rI (i3 R) μ := by simp only [F_X8_rows, h0]
  have ec : F_X8_columns μ = rI (i3 C) μ := by simp only [F_X8_columns, h1]
  simp only [F_X8_isCell, er, ec, cI_k, l3_1, l3_0, i3_sub]
  rw [in_code (by omega) (by omega) (by omega), cI_k]
  by_cases a : r < R
  · rw [if_pos (show 0 ≤ (r : Int) ∧ (r : Int) ≤ (R : Int) - 1 by omega), if_neg (by decide), ec, cI_k, i3_sub, in_code (by omega) (by omega) (by omega), cI_k]
    by_cases b : c < C
    · rw [if_pos (show 0 ≤ (c : Int) ∧ (c : Int) ≤ (C : Int) - 1 by omega), if_neg (by decide), if_pos ⟨a, b⟩]
    · rw [if_neg (show ¬ (0 ≤ (c : Int) ∧ (c : Int) ≤ (C : Int) - 1) by omega), if_pos rfl, if_neg (fun q => b q.2)]
  · rw [if_neg (show ¬ (0 ≤ (r : Int) ∧ (r : Int) ≤ (R : Int) - 1) by omega), if_pos rfl, if_neg (fun q => a q.1)]
theorem mCut {u : Mem} {P : Pic} (h : MN u P) (ok : okP P) {R C : Nat} (hR : 1 ≤ R ∧ R ≤ 6) (hC : 1 ≤ C ∧ C ≤ 6) : ∃ z, f_X8_resize_58 BIG (i3 R) (i3 C) (0 : Int32) (sI (sI u 30 0 (i3 R)) 30 1 (i3 C)) = rI (i3 (pc (fX (cutP P R C)))) z ∧ fr [30] u z ∧ MN z (cutP P R C) := by
  have okC := cutP_ok ok hR hC
  have last : ∀ z, fr [30] u z → rzd R C (u.1 30) (z.1 30) 36 0 → ∃ z', f_X8_resize_107 BIG (i3 R) (i3 C) (0 : Int32) z = rI (i3 (pc (fX (cutP P R C)))) z' ∧ fr [30] u z' ∧ MN z' (cutP P R C) := by
    intro z hz hw
    rw [show (0 : Int32) = i3 ((0 : Nat) : Int) from l3_0]
    refine loop_st (σ := Mem) (fun n i z => f_X8_resize_107 n (i3 R) (i3 C) (i3 i) z) (fun i z => fr [30] u z ∧ rzd R C (u.1 30) (z.1 30) 36 i) (fun o => ∃ z', o = rI (i3 (pc (fX (cutP P R C)))) z' ∧ fr [30] u z' ∧ MN z' (cutP P R C)) 6 ?_ ?_ BIG 0 z (by omega) (BIG_lt (by omega)) ⟨hz, hw⟩
    · rintro n z ⟨q1, q2⟩
      have el : (6 : Int32) ≤ i3 ((6 : Nat) : Int) := by decide
      have hm : MN z (cutP P R C) := rzd_MN ok hR.2 hC.2 h q2
      simp only [f_X8_resize_107, if_pos el, mFilledMany hm okC, cI_k]
      exact ⟨z, rfl, q1, hm⟩
    · rintro n i z hi ⟨q1, q2⟩
      left
      have el : ¬ (6 : Int32) ≤ i3 (i : Int) := by rw [l3_6]; exact nle3 (by omega)
      have e44 : (44 : Int32) + i3 (i : Int) = i3 ((44 + i : Nat) : Int) := by rw [l3_44, i3_add]; rfl
      have e38 : (38 : Int32) + i3 (i : Int) = i3 ((38 + i : Nat) : Int) := by rw [l3_38, i3_add]; rfl
      have c44 : ∀ O : Out, ck (inb (i3 ((44 + i : Nat) : Int)) 50) O = O := fun O => ck_k (i3_in (by omega) (by decide)) O
      have c38 : ∀ O : Out, ck (inb (i3 ((38 + i : Nat) : Int)) 50) O = O := fun O => ck_k (i3_in (by omega) (by decide)) O
      obtain ⟨g0, g1, g2, g3, g4⟩ := q2
      have v38 := g3 i (by omega)
      rw [if_neg (by omega)] at v38
      have v44 := g4 i (by omega)
      rw [if_neg (by omega)] at v44
      have two : ∀ a b : Int32, a = (if R ≤ i then i3 0 else u.1 30 (38 + i)) → b = (if C ≤ i then i3 0 else u.1 30 (44 + i)) → fr [30] u (sI (sI z 30 (38 + i) a) 30 (44 + i) b) ∧ rzd R C (u.1 30) ((sI (sI z 30 (38 + i) a) 30 (44 + i) b).1 30) 36 (i + 1) := by
        intro a b ha hb
        have e : ∀ y, (sI (sI z 30 (38 + i) a) 30 (44 + i) b).1 30 y = if y = 44 + i then b else if y = 38 + i then a else z.1 30 y := fun y => by
          rw [sI_1, up2_a]
          by_cases q : y = 44 + i
          · rw [if_pos ⟨rfl, q⟩, if_pos q]
          · rw [if_neg (fun w => q w.2), if_neg q, sI_1, up2_a]
            by_cases q2 : y = 38 + i
            · rw [if_pos ⟨rfl, q2⟩, if_pos q2]
            · rw [if_neg (fun w => q2 w.2), if_neg q2]
        refine ⟨fr_tr q1 (fr_tr (fr_sI (by simp)) (fr_sI (by simp))), by rw [e, if_neg (by omega), if_neg (by omega)]; exact g0, by rw [e, if_neg (by omega), if_neg (by omega)]; exact g1, fun y hy => by rw [e, if_neg (by omega), if_neg (by omega)]; exact g2 y hy, fun x hx => ?_, fun x hx => ?_⟩
        · rw [e, if_neg (by omega)]
          by_cases q : x = i
          · rw [if_pos (by omega), ha, q]
            by_cases w : R ≤ i
            · rw [if_pos w, if_pos ⟨by omega, w⟩]
            · rw [if_neg w, if_neg (fun t => w t.2)]
          · rw [if_neg (by omega), g3 x hx]
            by_cases w : x < i ∧ R ≤ x
            · rw [if_pos w, if_pos (by omega)]
            · rw [if_neg w, if_neg (by omega)]
        · rw [e]
          by_cases q : x = i
          · rw [if_pos (by omega), hb, q]
            by_cases w : C ≤ i
            · rw [if_pos w, if_pos ⟨by omega, w⟩]
            · rw [if_neg w, if_neg (fun t => w t.2)]
          · rw [if_neg (by omega), if_neg (by omega), g4 x hx]
            by_cases w : x < i ∧ C ≤ x
            · rw [if_pos w, if_pos (by omega)]
            · rw [if_neg w, if_neg (by omega)]
      have mid : ∀ a : Int32, (sI z 30 (38 + i) a).1 30 (44 + i) = u.1 30 (44 + i) := fun a => by rw [sI_1, up2_a, if_neg (fun w => by omega)]; exact v44
      simp only [f_X8_resize_107, if_neg el, e38, c38, clampN (show 38 + i < 2147483648 by omega), v38, f_X8_resize_139, e44, c44, clampN (show 44 + i < 2147483648 by omega), lt_k, inc3, mid]
      by_cases a : R ≤ i
      · rw [if_pos (le3 (by omega))]
        by_cases b : C ≤ i
        · rw [if_pos (le3 (by omega))]
          exact ⟨_, two _ _ (by rw [if_pos a]; exact l3_0) (by rw [if_pos b]; exact l3_0), rfl⟩
        · rw [if_neg (nle3 (by omega))]
          exact ⟨_, two _ _ (by rw [if_pos a]; exact l3_0) (by rw [if_neg b]), rfl⟩
      · rw [if_neg (nle3 (by omega))]
        by_cases b : C ≤ i
        · rw [if_pos (le3 (by omega))]
          exact ⟨_, two _ _ (by rw [if_neg a]) (by rw [if_pos b]; exact l3_0), rfl⟩
        · rw [if_neg (nle3 (by omega))]
          exact ⟨_, two _ _ (by rw [if_neg a]) (by rw [if_neg b]), rfl⟩
  have e30 : ∀ x, (sI (sI u 30 0 (i3 R)) 30 1 (i3 C)).1 30 x = if x = 1 then i3 C else if x = 0 then i3 R else u.1 30 x := fun x => by
    rw [sI_1, up2_a]
    by_cases e : x = 1
    · rw [if_pos ⟨rfl, e⟩, if_pos e]
    · rw [if_neg (fun w => e w.2), if_neg e, sI_1, up2_a]
      by_cases e2 : x = 0
      · rw [if_pos ⟨rfl, e2⟩, if_pos e2]
      · rw [if_neg (fun w => e2 w.2), if_neg e2]
  rw [show (0 : Int32) = i3 ((0 : Nat) : Int) from l3_0]
  refine loop_st (σ := Mem) (fun n i z => f_X8_resize_58 n (i3 R) (i3 C) (i3 i) z) (fun i z => fr [30] u z ∧ rzd R C (u.1 30) (z.1 30) i 0) (fun o => ∃ z', o = rI (i3 (pc (fX (cutP P R C)))) z' ∧ fr [30] u z' ∧ MN z' (cutP P R C)) 36 ?_ ?_ BIG 0 _ (by omega) (BIG_lt (by omega)) ⟨fr_tr (fr_sI (by simp)) (fr_sI (by simp)), by rw [e30, if_neg (by decide), if_pos rfl], by rw [e30, if_pos rfl], fun y hy => by rw [e30, if_neg (by omega), if_neg (by omega), if_neg (by omega)], fun y hy => by rw [e30, if_neg (by omega), if_neg (by omega), if_neg (by omega)], fun y hy => by rw [e30, if_neg (by omega), if_neg (by omega), if_neg (by omega)]⟩
  · rintro n z ⟨q1, q2⟩
    have el : (36 : Int32) ≤ i3 ((36 : Nat) : Int) := by decide
    simp only [f_X8_resize_58, if_pos el]
    exact last z q1 q2
  · rintro n i z hi ⟨q1, q2⟩
    left
    obtain ⟨g0, g1, g2, g3, g4⟩ := q2
    have el : ¬ (36 : Int32) ≤ i3 (i : Int) := by rw [l3_36]; exact nle3 (by omega)
    have e1 : i3 (i : Int) / (6 : Int32) = i3 ((i / 6 : Nat) : Int) := by rw [l3_6, i3_div (by omega) (by decide)]; congr 1
    have e4 : remI (i3 (i : Int)) (6 : Int32) = i3 ((i % 6 : Nat) : Int) := by rw [l3_6, i3_rem (by omega) (by decide)]; congr 1
    have e2 : (2 : Int32) + i3 (i : Int) = i3 ((2 + i : Nat) : Int) := by rw [l3_2, i3_add]; rfl
    have c2 : ∀ O : Out, ck (inb (i3 ((2 + i : Nat) : Int)) 50) O = O := fun O => ck_k (i3_in (by omega) (by decide)) O
    have step : ∀ a : Int32, a = (if i / 6 < R ∧ i % 6 < C then u.1 30 (2 + i) else i3 0) → fr [30] u (sI z 30 (2 + i) a) ∧ rzd R C (u.1 30) ((sI z 30 (2 + i) a).1 30) (i + 1) 0 := by
      intro a ha
      have e : ∀ y, (sI z 30 (2 + i) a).1 30 y = if y = 2 + i then a else z.1 30 y := fun y => by
        rw [sI_1, up2_a]
        by_cases q : y = 2 + i
        · rw [if_pos ⟨rfl, q⟩, if_pos q]
        · rw [if_neg (fun w => q w.2), if_neg q]
      refine ⟨fr_tr q1 (fr_sI (by simp)), by rw [e, if_neg (by omega)]; exact g0, by rw [e, if_neg (by omega)]; exact g1, fun y hy => ?_, fun x hx => by rw [e, if_neg (by omega)]; exact g3 x hx, fun x hx => by rw [e, if_neg (by omega)]; exact g4 x hx⟩
      rw [e]
      by_cases q : y = i
      · rw [if_pos (by omega), ha, q]
        by_cases w : i / 6 < R ∧ i % 6 < C
        · rw [if_pos w, if_neg (fun t => t.2 w)]
        · rw [if_neg w, if_pos ⟨by omega, w⟩]
      · rw [if_neg (by omega), g2 y hy]
        by_cases w : y < i ∧ ¬ (y / 6 < R ∧ y % 6 < C)
        · rw [if_pos w, if_pos ⟨by omega, w.2⟩]
        · rw [if_neg w, if_neg (fun t => w ⟨by omega, t.2⟩)]
    have v2 := g2 i hi
    rw [if_neg (fun w => by omega)] at v2
    simp only [f_X8_resize_58, if_neg el, e1, e4, isCellRC g0 g1 hR.2 hC.2 (show i / 6 < 100 by omega) (show i % 6 < 100 by omega), cI_k, e2, c2, clampN (show 2 + i < 2147483648 by omega), v2, lt_k, inc3]
    by_cases bd : i / 6 < R ∧ i % 6 < C
    · rw [if_pos bd, if_neg iz1]
      exact ⟨_, step _ (by rw [if_pos bd]), rfl⟩
    · rw [if_neg bd, if_pos iz0]
      exact ⟨_, step _ (by rw [if_neg bd]; exact l3_0), rfl⟩
theorem op_resize {μ : Mem} {A : Ab} (h : cInv μ A) {r c : Int} (hr : inZ r) (hc : inZ c) : opOK A [eArg] μ (F_X7_resize (i3 r) (i3 c) μ) (F_X8_resize (i3 r) (i3 c)) := by
  have ok := h.2.1
  have in1 : ∀ s, F_X8_in (i3 r) (1 : Int32) (6 : Int32) s = rI (i3 (if 1 ≤ r ∧ r ≤ 6 then 1 else 0)) s := fun s => by rw [l3_1, l3_6]; exact in_code hr (by decide) (by decide) s
  have in2 : ∀ s, F_X8_in (i3 c) (1 : Int32) (6 : Int32) s = rI (i3 (if 1 ≤ c ∧ c ≤ 6 then 1 else 0)) s := fun s => by rw [l3_1, l3_6]; exact in_code hc (by decide) (by decide) s
  by_cases q1 : 1 ≤ r ∧ r ≤ 6
  · by_cases q2 : 1 ≤ c ∧ c ≤ 6
    · obtain ⟨R, rfl, hR'⟩ := natZ (v := r) (n := 7) (by omega)
      obtain ⟨C, rfl, hC'⟩ := natZ (v := c) (n := 7) (by omega)
      have hR : 1 ≤ R ∧ R ≤ 6 := by omega
      have hC : 1 ≤ C ∧ C ≤ 6 := by omega
      obtain ⟨s1, w1, w2, w3⟩ := cRem h
      obtain ⟨s2, x1, x2, x3⟩ := cutTo_code w3.1 hR hC
      have n1 : ¬ i3 (R : Int) < (1 : Int32) := by rw [l3_1]; exact nlt3 (by omega)
      have n2 : ¬ (6 : Int32) < i3 (R : Int) := by rw [l3_6]; exact nlt3 (by omega)
      have n3 : ¬ i3 (C : Int) < (1 : Int32) := by rw [l3_1]; exact nlt3 (by omega)
      have n4 : i3 (C : Int) ≤ (6 : Int32) := by rw [l3_6]; exact le3 (by omega)
      refine ⟨s2, frc_tr w2 (frc_of x3 (by simp)), Or.inl ⟨i3 (pc (fX (cutP (aP A) R C))), setP (remA A) (cutP (aP A) R C), by simp only [F_X7_resize, if_neg n1, if_neg n2, if_neg n3, if_pos n4, w1, cV_k, x1, countFilled_code x2, cI_k], cInv_P w3 x3 x2 (cutP_ok ok hR hC), fun y hy => ?_⟩⟩
      obtain ⟨t1, t2, t3⟩ := thr hy (0 : Int32)
      obtain ⟨u, v1, v2, v3, v4⟩ := mRem t2
      obtain ⟨z, y1, y2, y3⟩ := mCut v4.1 ok hR hC
      refine ⟨z, ?_, frm_tr t1 (frm_tr v2 (frm_of y2 (by simp))), ?_, mInv_P v4 y2 y3⟩
      · simp only [F_X8_resize, in1, in2, if_pos q1, if_pos q2, cI_k, if_neg iz1, f_X8_resize_26, lt_k, t3, if_true, v1, cV_k, y1]
      · rw [fr_1 y2 (by simp), v3 8 (by decide), t3]; rfl
    · refine op_err (frc_rf μ) h eArg 0 ?_ rfl (fun s hs => ?_)
      · simp only [F_X7_resize, l3_1, l3_6]
        rw [if_neg (nlt3 (by omega)), if_neg (nlt3 (by omega))]
        by_cases c1 : c < 1
        · rw [if_pos (lt3 (by omega))]
        · rw [if_neg (nlt3 (by omega)), if_neg (nle3 (by omega))]
      · obtain ⟨t1, t2, t3⟩ := thr hs (1 : Int32)
        refine ⟨0, sI s 29 8 (1 : Int32), ?_, t1, by rw [t3]; decide, t2⟩
        simp only [F_X8_resize, in1, in2, if_pos q1, if_neg q2, cI_k, if_neg iz1, if_pos iz0, f_X8_resize_26, lt_k, t3, if_neg jz1]
  · refine op_err (frc_rf μ) h eArg 0 ?_ rfl (fun s hs => ?_)
    · simp only [F_X7_resize, l3_1, l3_6]
      by_cases c1 : r < 1
      · rw [if_pos (lt3 (by omega))]
      · rw [if_neg (nlt3 (by omega)), if_pos (lt3 (by omega))]
    · obtain ⟨t1, t2, t3⟩ := thr hs (1 : Int32)
      refine ⟨0, sI s 29 8 (1 : Int32), ?_, t1, by rw [t3]; decide, t2⟩
      simp only [F_X8_resize, in1, if_neg q1, cI_k, if_pos iz0, f_X8_resize_26, lt_k, t3, if_neg jz1]
