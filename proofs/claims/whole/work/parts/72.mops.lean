/-! pin, want, undo, save, restore -/
theorem iz0 : i3 0 = (0 : Int32) := by decide
theorem iz1 : ¬ i3 1 = (0 : Int32) := by decide
theorem jz1 : ¬ (1 : Int32) = (0 : Int32) := by decide
theorem jz2 : ¬ (2 : Int32) = (0 : Int32) := by decide
theorem jz3 : ¬ (3 : Int32) = (0 : Int32) := by decide
theorem op_pin {μ : Mem} {A : Ab} (h : cInv μ A) {r c : Int} (hr : inZ r) (hc : inZ c) (b : Bool) : opOK A [eIdx] μ (F_X7_pin (i3 r) (i3 c) (i3 (b2 b)) μ) (F_X8_pin (i3 r) (i3 c) (i3 (b2 b))) := by
  have ok := h.2.1
  have o1 := ok.2.1
  have o2 := ok.2.2.2.1
  by_cases q : (0 ≤ r ∧ r < nR (aP A)) ∧ 0 ≤ c ∧ c < nC (aP A)
  · obtain ⟨r, rfl, hr'⟩ := natZ q.1
    obtain ⟨c, rfl, hc'⟩ := natZ q.2
    obtain ⟨s1, w1, w2, w3⟩ := cRem h
    refine ⟨_, frc_tr w2 (frc_of (W := [2]) (fr_sJ (by simp)) (by simp)), Or.inl ⟨i3 (b2 (tb (fP (aP A)) (8 * r + c))), setP (remA A) (mkPn (aP A) (setB (fP (aP A)) r c b)), ?_, cInv_P w3 (fr_sJ (by simp)) (CP_Pn w3.1 _) (okPn ok (setB_in hr' hc' o1 o2 ok.2.2.2.2.2.1 b)), fun s hs => ?_⟩⟩
    · simp only [F_X7_pin, chk_cell h hr hc, if_pos q, cV_k, cI_k, w1, setPinned_code w3.1 (show r < 8 by omega) (show c < 8 by omega), nzb]
    · obtain ⟨t1, t2, t3⟩ := thr hs (0 : Int32)
      obtain ⟨u, v1, v2, v3, v4⟩ := mRem t2
      obtain ⟨y, x1, x2, x3⟩ := mPinsC v4.1 (show r < 6 by omega) (show c < 6 by omega) b
      refine ⟨y, ?_, frm_tr t1 (frm_tr v2 (frm_of x2 (by simp))), ?_, mInv_P v4 x2 x3⟩
      · simp only [F_X8_pin, mCell hs.1 ok hr hc, if_pos q, cI_k, if_neg iz1, f_X8_pin_15, lt_k, t3, if_true, v1, cV_k, mPinned v4.1 (show r < 6 by omega) (show c < 6 by omega), x1, nzb]
      · rw [fr_1 x2 (by simp), v3 8 (by decide), t3]; rfl
  · refine op_err (frc_rf μ) h eIdx 0 ?_ rfl (fun s hs => ?_)
    · simp only [F_X7_pin, chk_cell h hr hc, if_neg q, cV_x]
    · obtain ⟨t1, t2, t3⟩ := thr hs (1 : Int32)
      refine ⟨0, sI s 29 8 (1 : Int32), ?_, t1, by rw [t3]; decide, t2⟩
      simp only [F_X8_pin, mCell hs.1 ok hr hc, if_neg q, cI_k, if_pos iz0, f_X8_pin_15, lt_k, t3, if_neg jz1]
theorem chk_line {μ : Mem} {A : Ab} (h : cInv μ A) {l : Int} (hl : inZ l) : F_X7_checkLine (i3 l) μ = if 0 ≤ l ∧ l < nR (aP A) + nC (aP A) then rV μ else rX eIdx μ := by
  simp only [F_X7_checkLine, hasLine_code h.1 h.2.1 hl, cI_k]
  by_cases q : 0 ≤ l ∧ l < nR (aP A) + nC (aP A)
  · rw [if_pos q, if_pos q, if_neg iz1]
  · rw [if_neg q, if_neg q, if_pos iz0]
theorem mIsLine {μ : Mem} {P : Pic} (h : MN μ P) (ok : okP P) {l : Int} (hl : inZ l) : F_X8_isLine (i3 l) μ = rI (i3 (if 0 ≤ l ∧ l < nR P + nC P then 1 else 0)) μ := by
  have o1 := ok.2.1
  have o2 := ok.2.2.2.1
  simp only [F_X8_isLine, rows_code h, cols_code h, cI_k, l3_0, l3_1, i3_add, i3_sub]
  rw [in_code hl (by decide) (by omega), cI_k]
  by_cases q : 0 ≤ l ∧ l < nR P + nC P
  · rw [if_pos q, if_pos (by omega)]; exact (nz_k _).1
  · rw [if_neg q, if_neg (by omega)]; exact (nz_k _).2
theorem MN_W {μ : Mem} {P : Pic} (h : MN μ P) (ok : okP P) {l n : Nat} (hn : n ≤ 6) (hl : l < nR P + nC P) {a : Nat} (ha : a = (if nR P ≤ l then 44 + (l - nR P) else 38 + l)) : MN (sI μ 30 a (i3 n)) (setW P l n) := by
  have o1 := ok.2.1
  have o2 := ok.2.2.2.1
  obtain ⟨h0, h1, h2, h3, h4⟩ := h
  have e : ∀ j, (sI μ 30 a (i3 n)).1 30 j = if j = a then i3 n else μ.1 30 j := fun j => by
    rw [sI_1, up2_a]
    by_cases q : j = a
    · rw [if_pos ⟨rfl, q⟩, if_pos q]
    · rw [if_neg (fun w => q w.2), if_neg q]
  have ha2 : 38 ≤ a := by rw [ha]; split <;> omega
  refine ⟨by rw [e, if_neg (by omega), setW_R]; exact h0, by rw [e, if_neg (by omega), setW_C]; exact h1, fun r c hr hc => by rw [e, if_neg (by omega), setW_X, setW_P]; exact h2 r c hr hc, fun i hi => ?_, fun i hi => ?_⟩
  · rw [e, setW_U hn (by omega) hi]
    by_cases q : nR P ≤ l
    · rw [if_pos q] at ha
      rw [if_neg (by omega), if_neg (by omega)]; exact h3 i hi
    · rw [if_neg q] at ha
      by_cases w : i = l
      · rw [if_pos (by omega), if_pos (by omega)]
      · rw [if_neg (by omega), if_neg (by omega)]; exact h3 i hi
  · rw [e, setW_V hn (by omega) hi]
    by_cases q : nR P ≤ l
    · rw [if_pos q] at ha
      by_cases w : i = l - nR P
      · rw [if_pos (by omega), if_pos (by omega)]
      · rw [if_neg (by omega), if_neg (by omega)]; exact h4 i hi
    · rw [if_neg q] at ha
      rw [if_neg (by omega), if_neg (by omega)]; exact h4 i hi
theorem op_want {μ : Mem} {A : Ab} (h : cInv μ A) {l n : Int} (hl : inZ l) (hn : inZ n) : opOK A [eIdx, eArg] μ (F_X7_want (i3 l) (i3 n) μ) (F_X8_want (i3 l) (i3 n)) := by
  have ok := h.2.1
  have o1 := ok.2.1
  have o2 := ok.2.2.2.1
  have inq : ∀ s, F_X8_in (i3 n) (0 : Int32) (6 : Int32) s = rI (i3 (if 0 ≤ n ∧ n ≤ 6 then 1 else 0)) s := fun s => by rw [l3_0, l3_6]; exact in_code hn (by decide) (by decide) s
  by_cases q : 0 ≤ l ∧ l < nR (aP A) + nC (aP A)
  · obtain ⟨l, rfl, hl'⟩ := natZ (v := l) (n := nR (aP A) + nC (aP A)) (by omega)
    by_cases p : 0 ≤ n ∧ n ≤ 6
    · obtain ⟨n, rfl, hn'⟩ := natZ (v := n) (n := 7) (by omega)
      obtain ⟨s1, w1, w2, w3⟩ := cRem h
      obtain ⟨s2, u1, u2, u3⟩ := setWanted_code (n := n) w3.1 ok hl'
      have c1 : ¬ i3 (n : Int) < 0 := by rw [l3_0]; exact nlt3 (by omega)
      have c2 : i3 (n : Int) ≤ (6 : Int32) := by rw [l3_6]; exact le3 (by omega)
      refine ⟨s2, frc_tr w2 (frc_of u3 (by simp)), Or.inl ⟨i3 (wnt (aP A) l), setP (remA A) (setW (aP A) l n), ?_, cInv_P w3 u3 u2 (setW_ok ok (by omega) hl'), fun s hs => ?_⟩⟩
      · simp only [F_X7_want, chk_line h hl, if_pos q, cV_k, if_neg c1, if_pos c2, w1, u1, cI_k]
      · obtain ⟨t1, t2, t3⟩ := thr hs (0 : Int32)
        obtain ⟨u, v1, v2, v3, v4⟩ := mRem t2
        obtain ⟨a, a1, a2, a3, a4⟩ := mWantAt v4.1 ok hl'
        have hck : ∀ K : Out, ck (inb (i3 (a : Int)) 50) K = K := fun K => ck_k (i3_in (by omega) (by decide)) K
        refine ⟨sI u 30 a (i3 n), ?_, frm_tr t1 (frm_tr v2 (frm_of (W := [30]) (fr_sI (by simp)) (by simp))), ?_, mInv_P v4 (fr_sI (by simp)) (MN_W v4.1 ok (by omega) hl' a3)⟩
        · simp only [F_X8_want, mIsLine hs.1 ok hl, if_pos q, cI_k, if_neg iz1, inq, if_pos p, f_X8_want_28, lt_k, t3, if_true, v1, cV_k, a1, hck, clampN (show a < 2147483648 by omega), a4]
        · rw [sI_1, up2_k _ _ _ _ _ (by decide), v3 8 (by decide), t3]; rfl
    · refine op_err (frc_rf μ) h eArg 1 ?_ rfl (fun s hs => ?_)
      · simp only [F_X7_want, chk_line h hl, if_pos q, cV_k]
        by_cases c1 : n < 0
        · rw [l3_0, if_pos (lt3 (by omega))]
        · rw [l3_0, l3_6, if_neg (nlt3 (by omega)), if_neg (nle3 (by omega))]
      · obtain ⟨t1, t2, t3⟩ := thr hs (2 : Int32)
        refine ⟨0, sI s 29 8 (2 : Int32), ?_, t1, by rw [t3]; decide, t2⟩
        simp only [F_X8_want, mIsLine hs.1 ok hl, if_pos q, cI_k, if_neg iz1, inq, if_neg p, if_pos iz0, f_X8_want_28, lt_k, t3, if_neg jz2]
  · refine op_err (frc_rf μ) h eIdx 0 ?_ rfl (fun s hs => ?_)
    · simp only [F_X7_want, chk_line h hl, if_neg q, cV_x]
    · obtain ⟨t1, t2, t3⟩ := thr hs (1 : Int32)
      refine ⟨0, sI s 29 8 (1 : Int32), ?_, t1, by rw [t3]; decide, t2⟩
      simp only [F_X8_want, mIsLine hs.1 ok hl, if_neg q, cI_k, if_pos iz0, f_X8_want_28, lt_k, t3, if_neg jz1]
theorem MN_copy {μ : Mem} {P : Pic} {k b : Nat} {z : Mem} (h : MP μ k b P) (e : ∀ j, j < 50 → z.1 30 (0 + j) = μ.1 k (b + j)) : MN z P := by
  unfold MN
  refine RW_congr h (fun x hx => ?_)
  have := e x hx
  rw [Nat.zero_add] at this
  exact this
theorem op_undo {μ : Mem} {A : Ab} (h : cInv μ A) : opOK A [eSta] μ (F_X7_undo μ) F_X8_undo := by
  have he := hempty_code h.2.2.1
  by_cases q : aHn A = 0
  · refine op_err (frc_rf μ) h eSta 0 ?_ rfl (fun s hs => ?_)
    · simp only [F_X7_undo, he, cI_k, if_pos q, if_neg iz1]
    · obtain ⟨t1, t2, t3⟩ := thr hs (1 : Int32)
      refine ⟨0, sI s 29 8 (1 : Int32), ?_, t1, by rw [t3]; decide, t2⟩
      have e2 : s.1 29 2 = (0 : Int32) := by rw [hs.2.1.1, q]; decide
      simp only [F_X8_undo, e2, if_true, f_X8_undo_13, lt_k, t3, if_neg jz1]
  · have h14 : aHn A ≤ 14 := by obtain ⟨_, _, _, _, w, _⟩ := h.2.2.1; exact w
    have hq : okP (aH A (aHn A - 1)) := by obtain ⟨_, _, _, _, _, w⟩ := h.2.2.1; exact (w _ (by omega)).2
    obtain ⟨s1, w1, w2, w3, w4⟩ := takeBack_code h.2.2.1 (by omega)
    refine ⟨s1, frc_of w2 (by simp), Or.inl ⟨i3 ((aHn A - 1 : Nat) : Int), (aH A (aHn A - 1), (aHn A - 1, aH A), A.2.2), ?_, ⟨w4, hq, w3, cS_fr h.2.2.2.1 w2 (by simp) (by simp) (by simp) (by simp), cT_fr h.2.2.2.2 w2 (by simp) (by simp)⟩, fun s hs => ?_⟩⟩
    · simp only [F_X7_undo, he, cI_k, if_neg q, if_pos iz0, w1]
    · obtain ⟨t1, t2, t3⟩ := thr hs (0 : Int32)
      have n2 : ¬ s.1 29 2 = (0 : Int32) := by rw [hs.2.1.1, l3_0]; exact ne3 (by omega)
      have e2 : (sI s 29 8 (0 : Int32)).1 29 2 - (1 : Int32) = i3 ((aHn A - 1 : Nat) : Int) := by rw [t2.2.1.1, l3_1, i3_sub]; congr 1; omega
      have e3 : (sI (sI s 29 8 (0 : Int32)) 29 2 (i3 ((aHn A - 1 : Nat) : Int))).1 29 2 = i3 ((aHn A - 1 : Nat) : Int) := by rw [sI_1, up2_same]
      have em : i3 ((aHn A - 1 : Nat) : Int) * (50 : Int32) = i3 ((50 * (aHn A - 1) : Nat) : Int) := by rw [l3_50, i3_mul]; congr 1; omega
      have e0 : (0 : Int32) = i3 ((0 : Nat) : Int) := l3_0
      obtain ⟨z, u1, u2, u3, u4⟩ := mCopies (s := sI (sI s 29 8 (0 : Int32)) 29 2 (i3 ((aHn A - 1 : Nat) : Int))) (k1 := 31) (k3 := 30) (a := 50 * (aHn A - 1)) (b := 0) (by decide) (by show 50 * (aHn A - 1) + 50 ≤ 700; omega) (by decide) (by decide) (by decide)
      have ez : z.1 29 2 = i3 ((aHn A - 1 : Nat) : Int) := by rw [fr_1 u2 (by simp)]; exact e3
      rw [← e0] at u1
      have f2 : fr [29, 30] (sI s 29 8 (0 : Int32)) z := fr_tr (fr_sI (by simp)) (fr_w u2 (by simp))
      have f29 : ∀ j, ¬ j = 2 → z.1 29 j = (sI s 29 8 (0 : Int32)).1 29 j := fun j hj => by rw [fr_1 u2 (by simp), sI_1, up2_a, if_neg (fun w => hj w.2)]
      have hz := MP_fr (t2.2.1.2.2 (aHn A - 1) (by omega)) (fr_sI (W := [29]) (k := 29) (j := 2) (v := i3 ((aHn A - 1 : Nat) : Int)) (by simp)) (by simp)
      refine ⟨z, ?_, frm_tr t1 (frm_of f2 (by simp)), ?_, MN_copy hz u3, ⟨ez, by show aHn A - 1 ≤ 14; omega, fun j hj => MP_fr (t2.2.1.2.2 j (by have : j < aHn A - 1 := hj; omega)) f2 (by simp)⟩, ⟨(f29 4 (by decide)).trans t2.2.2.1.1, fun j hj hv => MP_fr (t2.2.2.1.2 j hj hv) f2 (by simp)⟩, (f29 7 (by decide)).trans t2.2.2.2.1, fun j hj => by rw [fr_1 f2 (by simp)]; exact t2.2.2.2.2 j hj⟩
      · simp only [F_X8_undo, if_neg n2, f_X8_undo_13, lt_k, t3, if_true, e2, e3, em, u1, cV_k, ez]
      · rw [f29 8 (by decide), t3]; rfl

theorem chk_slot (μ : Mem) {v : Int} (hv : inZ v) : F_X7_checkSlot (i3 v) μ = if 0 ≤ v ∧ v < 2 then rV μ else rX eIdx μ := by
  simp only [F_X7_checkSlot, l3_0, l3_1]
  by_cases q : 0 ≤ v ∧ v < 2
  · rw [if_pos q]
    by_cases e : v = 0
    · subst e; rw [if_pos rfl]
    · have : v = 1 := by omega
      subst this; rw [if_neg h10, if_pos rfl]
  · rw [if_neg q, if_neg (ne3 (by omega)), if_neg (ne3 (by omega))]
theorem sl_in {v : Int} (hv : inZ v) (s : Mem) : F_X8_in (i3 v) (0 : Int32) (1 : Int32) s = rI (i3 (if 0 ≤ v ∧ v < 2 then 1 else 0)) s := by
  rw [l3_0, l3_1, in_code hv (by decide) (by decide)]
  by_cases q : 0 ≤ v ∧ v < 2
  · rw [if_pos q, if_pos (by omega)]
  · rw [if_neg q, if_neg (by omega)]
theorem sl_set (a b : Bool) {j : Nat} (hj : j < 2) : i3 (b2 a + 2 * b2 b) ||| shlI (1 : Int32) (i3 j) = i3 (b2 (if 0 = j then true else a) + 2 * b2 (if 1 = j then true else b)) := by
  have h : j = 0 ∨ j = 1 := by omega
  rcases h with rfl | rfl <;> cases a <;> cases b <;> decide
theorem sl_get (a b : Bool) {j : Nat} (hj : j < 2) : ((shrI (i3 (b2 a + 2 * b2 b)) (i3 j)) &&& (1 : Int32) = 0) = ((if j = 0 then a else b) = false) := by
  have h : j = 0 ∨ j = 1 := by omega
  rcases h with rfl | rfl <;> cases a <;> cases b <;> decide
theorem op_save {μ : Mem} {A : Ab} (h : cInv μ A) {v : Int} (hv : inZ v) : opOK A [eIdx] μ (F_X7_save (i3 v) μ) (F_X8_save (i3 v)) := by
  have ok := h.2.1
  by_cases q : 0 ≤ v ∧ v < 2
  · obtain ⟨v, rfl, hv'⟩ := natZ (v := v) (n := 2) (by omega)
    obtain ⟨s1, w1, w2, w3⟩ := put_code h.2.2.2.1 h.1 ok hv'
    have hP := CP_fr h.1 w2 (by simp)
    refine ⟨s1, frc_of w2 (by simp), Or.inl ⟨i3 (pc (fX (aP A))), (aP A, A.2.1, ((fun i => if i = v then true else aSv A i, fun i => if i = v then aP A else aS A i), A.2.2.2)), ?_, ⟨hP, ok, cH_fr h.2.2.1 w2 (by simp) (by simp) (fun k h1 h2 => by simp; omega), w3, cT_fr h.2.2.2.2 w2 (by simp) (by simp)⟩, fun s hs => ?_⟩⟩
    · simp only [F_X7_save, chk_slot μ hv, if_pos q, cV_k, w1, countFilled_code hP, cI_k]
    · obtain ⟨t1, t2, t3⟩ := thr hs (0 : Int32)
      have em : (50 : Int32) * i3 (v : Int) = i3 ((50 * v : Nat) : Int) := by rw [l3_50, i3_mul]; rfl
      have e0 : (0 : Int32) = i3 ((0 : Nat) : Int) := l3_0
      obtain ⟨z, u1, u2, u3, u4⟩ := mCopies (s := sI s 29 8 (0 : Int32)) (k1 := 30) (k3 := 32) (a := 0) (b := 50 * v) (by decide) (by decide) (by show 50 * v + 50 ≤ 100; omega) (by decide) (by decide)
      rw [← e0] at u1
      have e4 : z.1 29 4 = i3 (b2 (aSv A 0) + 2 * b2 (aSv A 1)) := by rw [fr_1 u2 (by simp)]; exact t2.2.2.1.1
      have f2 : ∀ u, fr [29, 32] (sI s 29 8 (0 : Int32)) (sI z 29 4 u) := fun u => fr_tr (fr_w u2 (by simp)) (fr_sI (by simp))
      have f29 : ∀ u j, ¬ j = 4 → (sI z 29 4 u).1 29 j = (sI s 29 8 (0 : Int32)).1 29 j := fun u j hj => by rw [sI_1, up2_a, if_neg (fun w => hj w.2), fr_1 u2 (by simp)]
      have hm : ∀ u, MN (sI z 29 4 u) (aP A) := fun u => MN_fr t2.1 (f2 u) (by simp)
      refine ⟨sI z 29 4 (i3 (b2 (aSv A 0) + 2 * b2 (aSv A 1)) ||| shlI (1 : Int32) (i3 (v : Int))), ?_, frm_tr t1 (frm_of (f2 _) (by simp)), ?_, hm _, ⟨(f29 _ 2 (by decide)).trans t2.2.1.1, t2.2.1.2.1, fun j hj => MP_fr (t2.2.1.2.2 j hj) (f2 _) (by simp)⟩, ⟨by rw [sI_1, up2_same]; exact sl_set (aSv A 0) (aSv A 1) hv', fun j hj hb => ?_⟩, (f29 _ 7 (by decide)).trans t2.2.2.2.1, fun j hj => by rw [fr_1 (f2 _) (by simp)]; exact t2.2.2.2.2 j hj⟩
      · simp only [F_X8_save, sl_in hv, if_pos q, cI_k, if_neg iz1, f_X8_save_15, lt_k, t3, if_true, em, u1, cV_k, e4, mFilledMany (hm _) ok]
      · rw [f29 _ 8 (by decide), t3]; rfl
      · unfold MP
        show RW (fun x => (sI z 29 4 _).1 32 (50 * j + x)) (if j = v then aP A else aS A j)
        by_cases e : j = v
        · rw [if_pos e]
          refine RW_congr t2.1 (fun x hx => ?_)
          show (sI z 29 4 _).1 32 (50 * j + x) = _
          rw [sI_1, up2_k _ _ _ _ _ (by decide), e, u3 x hx, Nat.zero_add]
        · rw [if_neg e]
          have hb' : aSv A j = true := by
            have : (if j = v then true else aSv A j) = true := hb
            rw [if_neg e] at this; exact this
          refine RW_congr (t2.2.2.1.2 j hj hb') (fun x hx => ?_)
          show (sI z 29 4 _).1 32 (50 * j + x) = (sI s 29 8 (0 : Int32)).1 32 (50 * j + x)
          rw [sI_1, up2_k _ _ _ _ _ (by decide)]
          exact u4 _ (by omega)
  · refine op_err (frc_rf μ) h eIdx 0 ?_ rfl (fun s hs => ?_)
    · simp only [F_X7_save, chk_slot μ hv, if_neg q, cV_x]
    · obtain ⟨t1, t2, t3⟩ := thr hs (1 : Int32)
      refine ⟨0, sI s 29 8 (1 : Int32), ?_, t1, by rw [t3]; decide, t2⟩
      simp only [F_X8_save, sl_in hv, if_neg q, cI_k, if_pos iz0, f_X8_save_15, lt_k, t3, if_neg jz1]
theorem op_restore {μ : Mem} {A : Ab} (h : cInv μ A) {v : Int} (hv : inZ v) : opOK A [eIdx, eSta] μ (F_X7_restore (i3 v) μ) (F_X8_restore (i3 v)) := by
  have ok := h.2.1
  by_cases q : 0 ≤ v ∧ v < 2
  · obtain ⟨v, rfl, hv'⟩ := natZ (v := v) (n := 2) (by omega)
    have hh := has_code h.2.2.2.1 hv'
    have esv : (if v = 0 then aSv A 0 else aSv A 1) = aSv A v := by
      have : v = 0 ∨ v = 1 := by omega
      rcases this with rfl | rfl <;> rfl
    by_cases p : aSv A v = true
    · obtain ⟨s1, w1, w2, w3⟩ := bringBack_code h.2.2.2.1 hv' p
      have okS := ((h.2.2.2.1.2.2 v hv').2 p).2
      have hc1 := cInv_P h w2 w3 okS
      obtain ⟨s2, x1, x2, x3⟩ := hforget_code hc1.2.2.1
      have hP := CP_fr w3 x2 (by simp)
      refine ⟨s2, frc_tr (frc_of w2 (by simp)) (frc_of x2 (by simp)), Or.inl ⟨i3 (pc (fX (aS A v))), (aS A v, (0, aH A), A.2.2), ?_, ⟨hP, okS, x3, cS_fr hc1.2.2.2.1 x2 (by simp) (by simp) (by simp) (by simp), cT_fr hc1.2.2.2.2 x2 (by simp) (by simp)⟩, fun s hs => ?_⟩⟩
      · simp only [F_X7_restore, chk_slot μ hv, if_pos q, cV_k, hh, p, b2_t, cI_k, if_neg iz1, w1, x1, countFilled_code hP]
      · obtain ⟨t1, t2, t3⟩ := thr hs (0 : Int32)
        have em : (50 : Int32) * i3 (v : Int) = i3 ((50 * v : Nat) : Int) := by rw [l3_50, i3_mul]; rfl
        have e0 : (0 : Int32) = i3 ((0 : Nat) : Int) := l3_0
        have n4 : ¬ (shrI (s.1 29 4) (i3 v)) &&& (1 : Int32) = 0 := by rw [hs.2.2.1.1, sl_get _ _ hv', esv, p]; decide
        obtain ⟨z, u1, u2, u3, u4⟩ := mCopies (s := sI s 29 8 (0 : Int32)) (k1 := 32) (k3 := 30) (a := 50 * v) (b := 0) (by decide) (by show 50 * v + 50 ≤ 100; omega) (by decide) (by decide) (by decide)
        rw [← e0] at u1
        have f2 : fr [29, 30] (sI s 29 8 (0 : Int32)) (sI z 29 2 (0 : Int32)) := fr_tr (fr_w u2 (by simp)) (fr_sI (by simp))
        have f29 : ∀ j, ¬ j = 2 → (sI z 29 2 (0 : Int32)).1 29 j = (sI s 29 8 (0 : Int32)).1 29 j := fun j hj => by rw [sI_1, up2_a, if_neg (fun w => hj w.2), fr_1 u2 (by simp)]
        have hm : MN (sI z 29 2 (0 : Int32)) (aS A v) := MN_fr (MN_copy (t2.2.2.1.2 v hv' p) u3) (fr_sI (W := [29]) (by simp)) (by simp)
        refine ⟨_, ?_, frm_tr t1 (frm_of f2 (by simp)), ?_, hm, ⟨by rw [sI_1, up2_same]; rfl, Nat.zero_le _, fun j hj => absurd hj (Nat.not_lt_zero _)⟩, ⟨(f29 4 (by decide)).trans t2.2.2.1.1, fun j hj hb => MP_fr (t2.2.2.1.2 j hj hb) f2 (by simp)⟩, (f29 7 (by decide)).trans t2.2.2.2.1, fun j hj => by rw [fr_1 f2 (by simp)]; exact t2.2.2.2.2 j hj⟩
        · simp only [F_X8_restore, sl_in hv, if_pos q, cI_k, if_neg iz1, if_neg n4, f_X8_restore_30, lt_k, t3, if_true, em, u1, cV_k, mFilledMany hm okS]
        · rw [f29 8 (by decide), t3]; rfl
    · have p' : aSv A v = false := by cases w : aSv A v; rfl; exact absurd w p
      refine op_err (frc_rf μ) h eSta 1 ?_ rfl (fun s hs => ?_)
      · simp only [F_X7_restore, chk_slot μ hv, if_pos q, cV_k, hh, p', b2_f, cI_k, if_pos iz0]
      · obtain ⟨t1, t2, t3⟩ := thr hs (2 : Int32)
        have n4 : (shrI (s.1 29 4) (i3 v)) &&& (1 : Int32) = 0 := by rw [hs.2.2.1.1, sl_get _ _ hv', esv, p']
        refine ⟨0, sI s 29 8 (2 : Int32), ?_, t1, by rw [t3]; decide, t2⟩
        simp only [F_X8_restore, sl_in hv, if_pos q, cI_k, if_neg iz1, if_pos n4, f_X8_restore_30, lt_k, t3, if_neg jz2]
  · refine op_err (frc_rf μ) h eIdx 0 ?_ rfl (fun s hs => ?_)
    · simp only [F_X7_restore, chk_slot μ hv, if_neg q, cV_x]
    · obtain ⟨t1, t2, t3⟩ := thr hs (1 : Int32)
      refine ⟨0, sI s 29 8 (1 : Int32), ?_, t1, by rw [t3]; decide, t2⟩
      simp only [F_X8_restore, sl_in hv, if_neg q, cI_k, if_pos iz0, f_X8_restore_30, lt_k, t3, if_neg jz1]
