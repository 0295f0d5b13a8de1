/-! taking over a picture -/
theorem tb_x (x y : Int64) (i : Nat) : b2 (tb (x ^^^ y) i) = if tb x i = tb y i then 0 else 1 := by
  rw [tb_xor]; cases tb x i <;> cases tb y i <;> rfl
theorem mDiffers {s : Mem} {P : Pic} (h : MN s P) (ok : okP P) {G : Int64} (hG : ∀ r c, zc G r c → r < nR P ∧ c < nC P) (h44 : c44 P s G) : F_X8_differsBy s = rI (i3 (pc (G ^^^ fX P))) s := by
  have o1 := ok.2.1
  have o2 := ok.2.2.2.1
  have hx : ∀ r c, zc (G ^^^ fX P) r c → r < nR P ∧ c < nC P := fun r c q => by
    rw [zc_xor] at q
    rcases q with q | q
    · exact hG r c q.1
    · exact ok.2.2.2.2.1 r c q.2
  have row : ∀ r, r < nR P → zs (nC P) (fun d => b2 (tb (G ^^^ fX P) (8 * r + d))) = rct (G ^^^ fX P) r := fun r hr =>
    (zs_ext0 (n := nC P) (m := 6) o2 (fun c h1 h2 => by rw [tb_f (fun q => by have := hx r c ⟨by omega, by omega, q⟩; omega)]; rfl)).symm
  simp only [F_X8_differsBy]
  rw [← pc_rows ok hx]
  have st : f_X8_differsBy_4 BIG (0 : Int32) (0 : Int32) s = f_X8_differsBy_4 BIG (i3 (zs 0 (fun a => rct (G ^^^ fX P) a))) (i3 ((0 : Nat) : Int)) s := by rw [zs_0, show (0 : Int32) = i3 0 from l3_0]; exact nr rfl
  rw [st]
  refine loop_rc (σ := Unit) (fun n i _ => f_X8_differsBy_4 n (i3 (zs i (fun a => rct (G ^^^ fX P) a))) (i3 i) s)
    (fun n m i j _ => f_X8_differsBy_14 (f_X8_differsBy_4 n) m (i3 (zs i (fun a => rct (G ^^^ fX P) a) + zs j (fun d => b2 (tb (G ^^^ fX P) (8 * i + d))))) (i3 i) (i3 j) s)
    (fun _ _ _ => True) (fun o => o = rI (i3 (zs (nR P) (fun l => rct (G ^^^ fX P) l))) s) (nR P) (nC P) (by omega) ?_ ?_ ?_ ?_ BIG 0 () (by omega) (BIG_lt (by omega)) trivial
  · rintro n - -
    have el : i3 (nR P : Int) ≤ i3 (nR P : Int) := le3 (by omega)
    simp only [f_X8_differsBy_4, rows_code h, cI_k, if_pos el]
  · rintro n i - hi -
    have el : ¬ i3 (nR P : Int) ≤ i3 (i : Int) := nle3 (by omega)
    simp only [f_X8_differsBy_4, rows_code h, cI_k, if_neg el]
    rw [zs_0, Int.add_zero]; exact nr rfl
  · rintro n m i - hi -
    have el : i3 (nC P : Int) ≤ i3 (nC P : Int) := le3 (by omega)
    refine ⟨(), trivial, ?_⟩
    simp only [f_X8_differsBy_14, cols_code h, cI_k, if_pos el, lt_k, inc3]
    rw [row i hi, zs_s]
  · rintro n m i j - hi hj -
    left
    refine ⟨(), trivial, ?_⟩
    have el : ¬ i3 (nC P : Int) ≤ i3 (j : Int) := nle3 (by omega)
    have hck : ∀ K : Out, ck (inb (i3 ((6 * i + j : Nat) : Int)) 36) K = K := fun K => ck_k (i3_in (by omega) (by decide)) K
    simp only [f_X8_differsBy_14, cols_code h, cI_k, if_neg el, at6, hck, clampN (show 6 * i + j < 2147483648 by omega), h44 i j hi hj, f_X8_differsBy_43, mFilled h (show i < 6 by omega) (show j < 6 by omega), lt_k, inc3, l3_0, l3_1, i3_add]
    rw [zs_s, tb_x]
    have einc : i3 ((j : Int) + 1) = i3 ((j + 1 : Nat) : Int) := rfl
    cases tb G (8 * i + j) <;> cases tb (fX P) (8 * i + j) <;> simp only [b2_f, b2_t, h01, h10, if_true, if_false, Int.add_zero, Int.add_assoc, einc, Bool.false_eq_true, reduceCtorEq]
theorem tb_setB {x : Int64} {r c : Nat} (hr : r < 8) (hc : c < 8) (b : Bool) {a d : Nat} (ha : a < 8) (hd : d < 8) : tb (setB x r c b) (8 * a + d) = if a = r ∧ d = c then b else tb x (8 * a + d) := by
  have h := zc_setB (x := x) hr hc b a d
  rw [← tb_iff ha hd, ← tb_iff ha hd] at h
  by_cases e : a = r ∧ d = c
  · rw [if_pos e] at h ⊢
    cases b
    · exact tb_f (fun q => absurd (h.mp q) (by decide))
    · exact h.mpr rfl
  · rw [if_neg e] at h ⊢
    cases q : tb x (8 * a + d)
    · exact tb_f (fun w => by rw [h.mp w] at q; exact absurd q (by decide))
    · exact h.mpr q
theorem at26' (r c : Nat) : ((2 : Int32) + ((6 : Int32) * i3 r)) + i3 c = i3 ((2 + 6 * r + c : Nat) : Int) := at26 r c
/-- one number of the place 30 is set: the picture's cells change in one cell -/
theorem MN_cell {μ : Mem} {P : Pic} (h : MN μ P) {r c : Nat} (hr : r < 6) (hc : c < 6) {f p : Bool} {v : Int32} (hv : v = i3 (b2 f + 2 * b2 p)) : MN (sI μ 30 (2 + 6 * r + c) v) (mkPn (mkX P (setB (fX P) r c f)) (setB (fP P) r c p)) := by
  obtain ⟨h0, h1, h2, h3, h4⟩ := h
  have e : ∀ j, (sI μ 30 (2 + 6 * r + c) v).1 30 j = if j = 2 + 6 * r + c then v else μ.1 30 j := fun j => by
    rw [sI_1, up2_a]
    by_cases q : j = 2 + 6 * r + c
    · rw [if_pos ⟨rfl, q⟩, if_pos q]
    · rw [if_neg (fun w => q w.2), if_neg q]
  refine ⟨by rw [e, if_neg (by omega)]; exact h0, by rw [e, if_neg (by omega)]; exact h1, fun a d ha hd => ?_, fun i hi => by rw [e, if_neg (by omega)]; exact h3 i hi, fun i hi => by rw [e, if_neg (by omega)]; exact h4 i hi⟩
  rw [e]
  show _ = i3 (b2 (tb (setB (fX P) r c f) (8 * a + d)) + 2 * b2 (tb (setB (fP P) r c p) (8 * a + d)))
  rw [tb_setB (by omega) (by omega) _ (by omega) (by omega), tb_setB (by omega) (by omega) _ (by omega) (by omega)]
  by_cases q : a = r ∧ d = c
  · rw [if_pos q, if_pos q, if_pos (by omega)]; exact hv
  · rw [if_neg q, if_neg q, if_neg (by omega)]; exact h2 a d ha hd
theorem setB_id {x : Int64} {r c : Nat} (hr : r < 8) (hc : c < 8) : setB x r c (tb x (8 * r + c)) = x := zc_ext (fun a d => by
  rw [zc_setB hr hc]
  by_cases e : a = r ∧ d = c
  · rw [if_pos e, e.1, e.2, tb_iff hr hc]
  · rw [if_neg e])
theorem fl_set (f p v : Bool) : (if i3 (b2 v) = 0 then i3 (b2 f + 2 * b2 p) &&& (2 : Int32) else i3 (b2 f + 2 * b2 p) ||| (1 : Int32)) = i3 (b2 v + 2 * b2 p) := by
  cases f <;> cases p <;> cases v <;> decide
theorem pn_set (f p v : Bool) : (if i3 (b2 v) = 0 then i3 (b2 f + 2 * b2 p) &&& (1 : Int32) else i3 (b2 f + 2 * b2 p) ||| (2 : Int32)) = i3 (b2 f + 2 * b2 v) := by
  cases f <;> cases p <;> cases v <;> decide
theorem mFills {μ : Mem} {P : Pic} (h : MN μ P) {r c : Nat} (hr : r < 6) (hc : c < 6) (v : Bool) : ∃ μ', F_X8_fills (i3 r) (i3 c) (i3 (b2 v)) μ = rV μ' ∧ fr [30] μ μ' ∧ MN μ' (mkX P (setB (fX P) r c v)) := by
  refine ⟨sI μ 30 (2 + 6 * r + c) (i3 (b2 v + 2 * b2 (tb (fP P) (8 * r + c)))), ?_, fr_sI (by simp), ?_⟩
  · have hck : ∀ K : Out, ck (inb (i3 ((2 + 6 * r + c : Nat) : Int)) 50) K = K := fun K => ck_k (i3_in (by omega) (by decide)) K
    have := fl_set (tb (fX P) (8 * r + c)) (tb (fP P) (8 * r + c)) v
    simp only [F_X8_fills, at26, hck, clampN (show 2 + 6 * r + c < 2147483648 by omega), h.2.2.1 r c hr hc, lt_k]
    by_cases q : i3 (b2 v) = 0
    · rw [if_pos q] at this ⊢; rw [this]
    · rw [if_neg q] at this ⊢; rw [this]
  · have := MN_cell h hr hc (f := v) (p := tb (fP P) (8 * r + c)) rfl
    rw [setB_id (by omega) (by omega)] at this
    exact this
theorem mPinsC {μ : Mem} {P : Pic} (h : MN μ P) {r c : Nat} (hr : r < 6) (hc : c < 6) (v : Bool) : ∃ μ', F_X8_pins (i3 r) (i3 c) (i3 (b2 v)) μ = rV μ' ∧ fr [30] μ μ' ∧ MN μ' (mkPn P (setB (fP P) r c v)) := by
  refine ⟨sI μ 30 (2 + 6 * r + c) (i3 (b2 (tb (fX P) (8 * r + c)) + 2 * b2 v)), ?_, fr_sI (by simp), ?_⟩
  · have hck : ∀ K : Out, ck (inb (i3 ((2 + 6 * r + c : Nat) : Int)) 50) K = K := fun K => ck_k (i3_in (by omega) (by decide)) K
    have := pn_set (tb (fX P) (8 * r + c)) (tb (fP P) (8 * r + c)) v
    simp only [F_X8_pins, at26, hck, clampN (show 2 + 6 * r + c < 2147483648 by omega), h.2.2.1 r c hr hc, lt_k]
    by_cases q : i3 (b2 v) = 0
    · rw [if_pos q] at this ⊢; rw [this]
    · rw [if_neg q] at this ⊢; rw [this]
  · have := MN_cell h hr hc (f := tb (fX P) (8 * r + c)) (p := v) rfl
    rw [setB_id (by omega) (by omega)] at this
    exact this
theorem MN_X {μ : Mem} {P : Pic} {x y : Int64} (h : MN μ (mkX P x)) (e : ∀ r c, r < 6 → c < 6 → (zc x r c ↔ zc y r c)) : MN μ (mkX P y) := by
  obtain ⟨h0, h1, h2, h3, h4⟩ := h
  refine ⟨h0, h1, fun r c hr hc => ?_, h3, h4⟩
  have : tb x (8 * r + c) = tb y (8 * r + c) := by
    have := e r c hr hc
    rw [← tb_iff (by omega) (by omega), ← tb_iff (by omega) (by omega)] at this
    cases hx : tb x (8 * r + c) <;> cases hy : tb y (8 * r + c) <;> simp_all
  show _ = i3 (b2 (tb y (8 * r + c)) + _)
  rw [← this]; exact h2 r c hr hc
theorem mTakes {s : Mem} {P : Pic} (h : MN s P) (ok : okP P) {G : Int64} (hG : ∀ r c, zc G r c → r < nR P ∧ c < nC P) (h44 : c44 P s G) : ∃ z, F_X8_takesPicture s = rI (i3 (pc (G ^^^ fX P))) z ∧ fr [30] s z ∧ MN z (mkX P G) := by
  have o1 := ok.2.1
  have o2 := ok.2.2.2.1
  simp only [F_X8_takesPicture, mDiffers h ok hG h44, cI_k]
  rw [show (0 : Int32) = i3 ((0 : Nat) : Int) from l3_0]
  refine loop_rc (σ := Mem) (fun n i z => f_X8_takesPicture_7 n (i3 (pc (G ^^^ fX P))) (i3 i) z) (fun n m i j z => f_X8_takesPicture_17 (f_X8_takesPicture_7 n) m (i3 (pc (G ^^^ fX P))) (i3 i) (i3 j) z)
    (fun i j z => fr [30] s z ∧ ∃ x, MN z (mkX P x) ∧ ∀ r c, zc x r c ↔ if r < i ∨ r = i ∧ c < j then zc G r c else zc (fX P) r c)
    (fun o => ∃ z, o = rI (i3 (pc (G ^^^ fX P))) z ∧ fr [30] s z ∧ MN z (mkX P G)) (nR P) (nC P) (by omega) ?_ ?_ ?_ ?_ BIG 0 s (by omega) (BIG_lt (by omega)) ⟨fr_rf _ _, fX P, h, fun r c => by rw [if_neg (by omega)]⟩
  · rintro n z ⟨q1, x, q2, q3⟩
    have el : i3 (nR P : Int) ≤ i3 (nR P : Int) := le3 (by omega)
    simp only [f_X8_takesPicture_7, rows_code q2, cI_k, if_pos el]
    refine ⟨z, rfl, q1, MN_X q2 (fun r c hr hc => ?_)⟩
    rw [q3]
    by_cases e : r < nR P ∨ r = nR P ∧ c < 0
    · rw [if_pos e]
    · rw [if_neg e]
      exact ⟨fun w => absurd (ok.2.2.2.2.1 r c w).1 (fun q => e (Or.inl q)), fun w => absurd (hG r c w).1 (fun q => e (Or.inl q))⟩
  · rintro n i z hi ⟨q1, x, q2, q3⟩
    have el : ¬ i3 (nR P : Int) ≤ i3 (i : Int) := nle3 (by omega)
    simp only [f_X8_takesPicture_7, rows_code q2, cI_k, if_neg el, l3_0]
    rfl
  · rintro n m i z hi ⟨q1, x, q2, q3⟩
    have el : i3 (nC P : Int) ≤ i3 (nC P : Int) := le3 (by omega)
    simp only [f_X8_takesPicture_17, cols_code q2, cI_k, if_pos el, lt_k, inc3]
    refine ⟨z, ⟨q1, x, q2, fun r c => ?_⟩, rfl⟩
    rw [q3]
    by_cases e : r < i ∨ r = i ∧ c < nC P
    · rw [if_pos e, if_pos (by omega)]
    · rw [if_neg e]
      by_cases e2 : r < i + 1 ∨ r = i + 1 ∧ c < 0
      · rw [if_pos e2]
        have : ¬ c < nC P := by omega
        exact ⟨fun w => absurd (ok.2.2.2.2.1 r c w).2 this, fun w => absurd (hG r c w).2 this⟩
      · rw [if_neg e2]
  · rintro n m i j z hi hj ⟨q1, x, q2, q3⟩
    left
    have el : ¬ i3 (nC P : Int) ≤ i3 (j : Int) := nle3 (by omega)
    have hck : ∀ K : Out, ck (inb (i3 ((6 * i + j : Nat) : Int)) 36) K = K := fun K => ck_k (i3_in (by omega) (by decide)) K
    have e44 : z.1 44 (6 * i + j) = i3 (b2 (tb G (8 * i + j))) := by rw [fr_1 q1 (by simp)]; exact h44 i j hi hj
    obtain ⟨z', w1, w2, w3⟩ := mFills q2 (r := i) (c := j) (by omega) (by omega) (tb G (8 * i + j))
    refine ⟨z', ⟨fr_tr q1 w2, _, w3, fun r c => ?_⟩, ?_⟩
    · show zc (setB x i j (tb G (8 * i + j))) r c ↔ _
      rw [zc_setB (by omega) (by omega), q3]
      by_cases e : r = i ∧ c = j
      · rw [if_pos e, if_pos (by omega), e.1, e.2, tb_iff (by omega) (by omega)]
      · rw [if_neg e]
        by_cases e2 : r < i ∨ r = i ∧ c < j
        · rw [if_pos e2, if_pos (by omega)]
        · rw [if_neg e2, if_neg (by omega)]
    · simp only [f_X8_takesPicture_17, cols_code q2, cI_k, if_neg el, at6, hck, clampN (show 6 * i + j < 2147483648 by omega), e44]
      rcases b2_3 (tb G (8 * i + j)) with ⟨a1, a2⟩ | ⟨a1, a2⟩
      · rw [a2, ← l3_1] at w1
        have n1 : i3 1 = (1 : Int32) := by decide
        simp only [a2, if_pos n1, w1, cV_k, lt_k, inc3]
      · rw [a2, ← l3_0] at w1
        have n1 : ¬ i3 0 = (1 : Int32) := by decide
        simp only [a2, if_neg n1, w1, cV_k, lt_k, inc3]
