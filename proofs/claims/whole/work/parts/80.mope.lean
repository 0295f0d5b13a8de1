/-! append, clearText, exchange on both sides -/
theorem op_clearText {μ : Mem} {A : Ab} (h : cInv μ A) : opOK A [] μ (F_X7_clearText μ) F_X8_clearText := by
  obtain ⟨s1, w1, w2, w3⟩ := empty_text h.2.2.2.2
  refine ⟨s1, frc_of w3 (by simp), Or.inl ⟨i3 (aN A), (aP A, A.2.1, A.2.2.1, (0, aT A)), by simp only [F_X7_clearText, w1, cI_k], ⟨CP_fr h.1 w3 (by simp), h.2.1, cH_fr h.2.2.1 w3 (by simp) (by simp) (fun k h1 h2 => by simp; omega), cS_fr h.2.2.2.1 w3 (by simp) (by simp) (by simp) (by simp), w2⟩, fun s hs => ?_⟩⟩
  obtain ⟨t1, t2, t3⟩ := thr hs (0 : Int32)
  have e7 := t2.2.2.2.1
  have f2 : fr [29] (sI s 29 8 (0 : Int32)) (sI (sI s 29 8 (0 : Int32)) 29 7 (0 : Int32)) := fr_sI (by simp)
  have f29 : ∀ j, ¬ j = 7 → (sI (sI s 29 8 (0 : Int32)) 29 7 (0 : Int32)).1 29 j = (sI s 29 8 (0 : Int32)).1 29 j := fun j hj => by rw [sI_1, up2_a, if_neg (fun w => hj w.2)]
  refine ⟨_, by simp only [F_X8_clearText, lt_k, e7], frm_tr t1 (frm_of f2 (by simp)), by rw [f29 8 (by decide), t3]; rfl, MN_fr t2.1 f2 (by simp), ⟨(f29 2 (by decide)).trans t2.2.1.1, t2.2.1.2.1, fun j hj => MP_fr (t2.2.1.2.2 j hj) f2 (by simp)⟩, ⟨(f29 4 (by decide)).trans t2.2.2.1.1, fun j hj hb => MP_fr (t2.2.2.1.2 j hj hb) f2 (by simp)⟩, by rw [sI_1, up2_same]; rfl, fun j hj => absurd hj (Nat.not_lt_zero _)⟩
theorem op_append {μ : Mem} {A : Ab} (h : cInv μ A) {v : Int} (hv : inZ v) : opOK A [eArg, eSta] μ (F_X7_append (i3 v) μ) (F_X8_append (i3 v)) := by
  have inq : ∀ s, F_X8_in (i3 v) (0 : Int32) (255 : Int32) s = rI (i3 (if 0 ≤ v ∧ v ≤ 255 then 1 else 0)) s := fun s => by rw [l3_0, l3_255]; exact in_code hv (by decide) (by decide) s
  have n60 : aN A ≤ 60 := h.2.2.2.2.2.1
  by_cases q : 0 ≤ v ∧ v ≤ 255
  · obtain ⟨v, rfl, hv'⟩ := natZ (v := v) (n := 256) (by omega)
    have c1 : ¬ i3 (v : Int) < 0 := by rw [l3_0]; exact nlt3 (by omega)
    have c2 : i3 (v : Int) ≤ (255 : Int32) := by rw [l3_255]; exact le3 (by omega)
    have e11 := h.2.2.2.2.1
    by_cases p : aN A < 60
    · have full : F_X6_isFull μ = rI (0 : Int32) μ := by
        simp only [F_X6_isFull, e11]; rw [if_pos (by rw [l3_60]; exact lt3 (by omega))]
      obtain ⟨s1, w1, w2, w3⟩ := put_text h.2.2.2.2 p (z := v) (by omega)
      refine ⟨s1, frc_of w3 (by simp), Or.inl ⟨i3 ((aN A + 1 : Nat) : Int), (aP A, A.2.1, A.2.2.1, (aN A + 1, fun j => if j = aN A then v else aT A j)), ?_, ⟨CP_fr h.1 w3 (by simp), h.2.1, cH_fr h.2.2.1 w3 (by simp) (by simp) (fun k h1 h2 => by simp; omega), cS_fr h.2.2.2.1 w3 (by simp) (by simp) (by simp) (by simp), w2⟩, fun s hs => ?_⟩⟩
      · simp only [F_X7_append, if_neg c1, if_pos c2, full, cI_k, if_true, w1]
      · obtain ⟨t1, t2, t3⟩ := thr hs (0 : Int32)
        have e7 := t2.2.2.2.1
        have n7 : ¬ s.1 29 7 = (60 : Int32) := by rw [hs.2.2.2.1, l3_60]; exact ne3 (by omega)
        have hck : ∀ O : Out, ck (inb (i3 (aN A : Int)) 60) O = O := fun O => ck_k (i3_in (by omega) (by decide)) O
        have e7' : (sI (sI s 29 8 (0 : Int32)) 34 (aN A) (i3 (v : Int))).1 29 7 = i3 (aN A) := by rw [sI_1, up2_k _ _ _ _ _ (by decide)]; exact e7
        have f2 : fr [29, 34] (sI s 29 8 (0 : Int32)) (sI (sI (sI s 29 8 (0 : Int32)) 34 (aN A) (i3 (v : Int))) 29 7 (i3 ((aN A + 1 : Nat) : Int))) := fr_tr (fr_sI (by simp)) (fr_sI (by simp))
        have f29 : ∀ j, ¬ j = 7 → (sI (sI (sI s 29 8 (0 : Int32)) 34 (aN A) (i3 (v : Int))) 29 7 (i3 ((aN A + 1 : Nat) : Int))).1 29 j = (sI s 29 8 (0 : Int32)).1 29 j := fun j hj => by rw [sI_1, up2_a, if_neg (fun w => hj w.2), sI_1, up2_k _ _ _ _ _ (by decide)]
        have own : (sI (sI (sI s 29 8 (0 : Int32)) 34 (aN A) (i3 (v : Int))) 29 7 (i3 ((aN A + 1 : Nat) : Int))).1 29 7 = i3 ((aN A + 1 : Nat) : Int) := by rw [sI_1, up2_same]
        refine ⟨sI (sI (sI s 29 8 (0 : Int32)) 34 (aN A) (i3 (v : Int))) 29 7 (i3 ((aN A + 1 : Nat) : Int)), ?_, frm_tr t1 (frm_of f2 (by simp)), by rw [f29 8 (by decide), t3]; rfl, MN_fr t2.1 f2 (by simp), ⟨(f29 2 (by decide)).trans t2.2.1.1, t2.2.1.2.1, fun j hj => MP_fr (t2.2.1.2.2 j hj) f2 (by simp)⟩, ⟨(f29 4 (by decide)).trans t2.2.2.1.1, fun j hj hb => MP_fr (t2.2.2.1.2 j hj hb) f2 (by simp)⟩, own, fun j hj => ?_⟩
        · simp only [F_X8_append, inq, if_pos q, cI_k, if_neg iz1, if_neg n7, f_X8_append_30, lt_k, t3, if_true, e7, hck, clampN (show aN A < 2147483648 by omega), e7', inc3, own]
        · have hj' : j < aN A + 1 := hj
          show _ = i3 (((if j = aN A then v else aT A j : Nat)) : Int)
          rw [sI_1, up2_k _ _ _ _ _ (by decide), sI_1, up2_a]
          by_cases e : j = aN A
          · rw [if_pos ⟨rfl, e⟩, if_pos e]
          · rw [if_neg (fun w => e w.2), if_neg e]; exact t2.2.2.2.2 j (by omega)
    · have e60 : aN A = 60 := by omega
      have full : F_X6_isFull μ = rI (1 : Int32) μ := by
        simp only [F_X6_isFull, e11]; rw [if_neg (by rw [l3_60]; exact nlt3 (by omega))]
      refine op_err (frc_rf μ) h eSta 1 ?_ rfl (fun s hs => ?_)
      · simp only [F_X7_append, if_neg c1, if_pos c2, full, cI_k, if_neg jz1]
      · obtain ⟨t1, t2, t3⟩ := thr hs (2 : Int32)
        have n7 : s.1 29 7 = (60 : Int32) := by rw [hs.2.2.2.1, e60]; decide
        refine ⟨0, sI s 29 8 (2 : Int32), ?_, t1, by rw [t3]; decide, t2⟩
        simp only [F_X8_append, inq, if_pos q, cI_k, if_neg iz1, if_pos n7, f_X8_append_30, lt_k, t3, if_neg jz2]
  · refine op_err (frc_rf μ) h eArg 0 ?_ rfl (fun s hs => ?_)
    · simp only [F_X7_append]
      by_cases c1 : v < 0
      · rw [l3_0, if_pos (lt3 (by omega))]
      · rw [l3_0, l3_255, if_neg (nlt3 (by omega)), if_neg (nle3 (by omega))]
    · obtain ⟨t1, t2, t3⟩ := thr hs (1 : Int32)
      refine ⟨0, sI s 29 8 (1 : Int32), ?_, t1, by rw [t3]; decide, t2⟩
      simp only [F_X8_append, inq, if_neg q, cI_k, if_pos iz0, f_X8_append_30, lt_k, t3, if_neg jz1]
theorem fl_xor (f p : Bool) : i3 (b2 f + 2 * b2 p) ^^^ (1 : Int32) = i3 (b2 (!f) + 2 * b2 p) := by cases f <;> cases p <;> decide
theorem mFlip {μ : Mem} {P : Pic} {x : Int64} (h : MN μ (mkX P x)) {r c : Nat} (hr : r < 6) (hc : c < 6) : MN (sI μ 30 (2 + 6 * r + c) ((μ.1 30 (2 + 6 * r + c)) ^^^ (1 : Int32))) (mkX P (x ^^^ bv (8 * r + c))) := by
  have e : μ.1 30 (2 + 6 * r + c) ^^^ (1 : Int32) = i3 (b2 (! tb x (8 * r + c)) + 2 * b2 (tb (fP P) (8 * r + c))) := by
    rw [h.2.2.1 r c hr hc]; exact fl_xor _ _
  have h2 := MN_cell h hr hc (f := ! tb x (8 * r + c)) (p := tb (fP P) (8 * r + c)) e
  have h3 : MN (sI μ 30 (2 + 6 * r + c) ((μ.1 30 (2 + 6 * r + c)) ^^^ (1 : Int32))) (mkX P (setB x r c (! tb x (8 * r + c)))) := by
    have e2 : setB (fP P) r c (tb (fP P) (8 * r + c)) = fP P := setB_id (by omega) (by omega)
    have h2' : MN (sI μ 30 (2 + 6 * r + c) ((μ.1 30 (2 + 6 * r + c)) ^^^ (1 : Int32))) (mkPn (mkX P (setB x r c (! tb x (8 * r + c)))) (setB (fP P) r c (tb (fP P) (8 * r + c)))) := h2
    rw [e2] at h2'
    exact h2'
  refine MN_X h3 (fun a d ha hd => ?_)
  rw [zc_setB (by omega) (by omega), zc_xor, zc_bv (by omega)]
  have tX := tb_iff (x := x) (r := r) (c := c) (by omega) (by omega)
  by_cases e : a = r ∧ d = c
  · rw [if_pos e, e.1, e.2, ← tX]
    cases tb x (8 * r + c) <;> simp <;> omega
  · rw [if_neg e]
    have : ¬ (d < 8 ∧ 8 * a + d = 8 * r + c) := by omega
    simp [this]
theorem mTurns4 {μ : Mem} {P : Pic} (h : MN μ P) {r s c d : Nat} (hr : r < 6) (hs : s < 6) (hc : c < 6) (hd : d < 6) (hrs : ¬ r = s) (hcd : ¬ c = d) : ∃ z, F_X8_turnsFour (i3 r) (i3 s) (i3 c) (i3 d) μ = rV z ∧ fr [30] μ z ∧ MN z (mkX P (fX P ^^^ crn r s c d)) := by
  have ck1 : ∀ a b, a < 6 → b < 6 → ∀ O : Out, ck (inb (i3 ((2 + 6 * a + b : Nat) : Int)) 50) O = O := fun a b ha hb O => ck_k (i3_in (by omega) (by decide)) O
  have cl1 : ∀ a b : Nat, a < 6 → b < 6 → (i3 ((2 + 6 * a + b : Nat) : Int)).toNatClampNeg = 2 + 6 * a + b := fun a b ha hb => clampN (by omega)
  have m1 := mFlip (P := P) (x := fX P) h hr hc
  have m2 := mFlip m1 hr hd
  have m3 := mFlip m2 hs hc
  have m4 := mFlip m3 hs hd
  refine ⟨_, ?_, ?_, MN_X m4 (fun a b ha hb => ?_)⟩
  · simp only [F_X8_turnsFour, at26, ck1 r c hr hc, ck1 r d hr hd, ck1 s c hs hc, ck1 s d hs hd, cl1 r c hr hc, cl1 r d hr hd, cl1 s c hs hc, cl1 s d hs hd, lt_k]
  · exact fr_tr (fr_sI (by simp)) (fr_tr (fr_sI (by simp)) (fr_tr (fr_sI (by simp)) (fr_sI (by simp))))
  · rw [zc_xor, zc_xor, zc_xor, zc_xor, zc_xor, zc_crn (by omega) (by omega) (by omega) (by omega), zc_bv (by omega), zc_bv (by omega), zc_bv (by omega), zc_bv (by omega)]
    by_cases x : zc (fX P) a b
    · simp only [x, true_and, not_true_eq_false, false_and, or_false]; omega
    · simp only [x, false_and, not_false_eq_true, true_and, false_or]; omega
