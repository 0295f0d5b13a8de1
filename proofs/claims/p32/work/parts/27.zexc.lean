/-! the quarter turn -/
theorem i3_pred (R r : Nat) (h : r < R) : (i3 (R : Int) - (1 : Int32)) - i3 (r : Int) = i3 ((R - 1 - r : Nat) : Int) := by
  rw [l3_1, i3_sub, i3_sub, show ((R - 1 - r : Nat) : Int) = (R : Int) - 1 - r from by omega]
/-- turned so far: the rows below r, and of the row r the cells below c -/
def trn (P : Pic) (r c : Nat) (Q : Pic) : Prop := nR Q = nC P ∧ nC Q = nR P ∧ wU Q = wV P ∧
  (∀ a b, zc (fX Q) a b ↔ b < nR P ∧ zc (fX P) (nR P - 1 - b) a ∧ (nR P - 1 - b < r ∨ (nR P - 1 - b = r ∧ a < c))) ∧
  (∀ a b, zc (fP Q) a b ↔ b < nR P ∧ zc (fP P) (nR P - 1 - b) a ∧ (nR P - 1 - b < r ∨ (nR P - 1 - b = r ∧ a < c)))
theorem trn_cell {x y : Int64} {R C r c : Nat} (hR : R ≤ 6) (hC : C ≤ 6) (hr : r < R) (hc : c < C)
    (h : ∀ a b, zc y a b ↔ b < R ∧ zc x (R - 1 - b) a ∧ (R - 1 - b < r ∨ (R - 1 - b = r ∧ a < c))) :
    ∀ a b, zc (setB y c (R - 1 - r) (tb x (8 * r + c))) a b ↔ b < R ∧ zc x (R - 1 - b) a ∧ (R - 1 - b < r ∨ (R - 1 - b = r ∧ a < c + 1)) := by
  intro a b
  rw [zc_setB (by omega) (by omega)]
  by_cases e : a = c ∧ b = R - 1 - r
  · rw [if_pos e, tb_iff (by omega) (by omega)]
    obtain ⟨rfl, rfl⟩ := e
    rw [show R - 1 - (R - 1 - r) = r from by omega]
    constructor
    · intro q; exact ⟨by omega, q, Or.inr ⟨rfl, by omega⟩⟩
    · exact fun q => q.2.1
  · rw [if_neg e, h]
    constructor
    · rintro ⟨p, q, s⟩; exact ⟨p, q, by omega⟩
    · rintro ⟨p, q, s⟩
      refine ⟨p, q, ?_⟩
      rcases s with s | ⟨s1, s2⟩
      · exact Or.inl s
      · refine Or.inr ⟨s1, ?_⟩
        by_cases hac : a = c
        · exact absurd ⟨hac, by omega⟩ e
        · omega
theorem b2n (b : Bool) : (if b then (1 : Int32) else (0 : Int32)) = i3 (b2 b) := by cases b <;> decide
theorem turnCell {μ : Mem} {k : Nat} {P Q : Pic} {r c : Nat} (ok : okP P) (hr : r < nR P) (hc : c < nC P) (hQ : CP μ k Q) (ht : trn P r c Q)
    (k66 : Int64 → Int64 → Int64 → Int32 → Int32 → Int32 → Mem → Out) (n : Nat) (u : Int64) (i7 : Int32) :
    ∃ μ' Q', f_X4_turnQuarter_105 k k66 (n + 1) (fX P) (fP P) u i7 (i3 (nC P)) (i3 r) (i3 ((nR P - 1 - r : Nat) : Int)) (i3 c) μ = f_X4_turnQuarter_105 k k66 n (fX P) (fP P) u i7 (i3 (nC P)) (i3 r) (i3 ((nR P - 1 - r : Nat) : Int)) (i3 ((c + 1 : Nat) : Int)) μ' ∧
      CP μ' k Q' ∧ trn P r (c + 1) Q' ∧ wV Q' = wV Q ∧ fr [k] μ μ' := by
  have o1 := ok.2.1
  have o2 := ok.2.2.2.1
  have hb := bit_code (r := r) (c := c) μ
  have s1 := setFilled_code hQ (r := c) (c := nR P - 1 - r) (by omega) (by omega) (tb (fX P) (8 * r + c))
  have hQ1 := CP_X hQ (setB (fX Q) c (nR P - 1 - r) (tb (fX P) (8 * r + c)))
  have s2 := setPinned_code hQ1 (r := c) (c := nR P - 1 - r) (by omega) (by omega) (tb (fP P) (8 * r + c))
  have hQ2 := CP_Pn hQ1 (setB (fP (mkX Q (setB (fX Q) c (nR P - 1 - r) (tb (fX P) (8 * r + c))))) c (nR P - 1 - r) (tb (fP P) (8 * r + c)))
  refine ⟨_, _, ?_, hQ2, ⟨ht.1, ht.2.1, ht.2.2.1, trn_cell o1 o2 hr hc ht.2.2.2.1, trn_cell o1 o2 hr hc ht.2.2.2.2⟩, rfl, fr_tr (fr_sJ (by simp)) (fr_sJ (by simp))⟩
  have hr8 : r < 8 := by omega
  have hc8 : c < 8 := by omega
  simp only [f_X4_turnQuarter_105, hb, cJ_k, f_X4_turnQuarter_140, lt_k, inc3, bit_test hr8 hc8]
  rw [if_neg (nle3 (by omega)), l3_0, l3_1]
  have e0 : i3 0 = i3 (b2 false) := rfl
  have e1 : i3 1 = i3 (b2 true) := rfl
  cases h1 : tb (fX P) (8 * r + c) <;> cases h2 : tb (fP P) (8 * r + c) <;> rw [h1] at s1 s2 <;> rw [h2] at s2 <;> simp only [Bool.false_eq_true, if_false, if_true, e0, e1, s1, s2, cI_k]
theorem turnRow {k : Nat} {P : Pic} {r : Nat} (ok : okP P) (hr : r < nR P) (k66 : Int64 → Int64 → Int64 → Int32 → Int32 → Int32 → Mem → Out) (u : Int64) (i7 : Int32) (μ : Mem) (Q : Pic) (hQ : CP μ k Q) (ht : trn P r 0 Q) :
    ∃ μ' Q', f_X4_turnQuarter_105 k k66 BIG (fX P) (fP P) u i7 (i3 (nC P)) (i3 r) (i3 ((nR P - 1 - r : Nat) : Int)) (0 : Int32) μ = k66 (fX P) (fP P) u i7 (i3 (nC P)) (i3 ((r + 1 : Nat) : Int)) μ' ∧ CP μ' k Q' ∧ trn P (r + 1) 0 Q' ∧ wV Q' = wV Q ∧ fr [k] μ μ' := by
  have o2 := ok.2.2.2.1
  rw [show (0 : Int32) = i3 ((0 : Nat) : Int) from l3_0]
  refine loop_st (σ := Mem × Pic) (fun n i s => f_X4_turnQuarter_105 k k66 n (fX P) (fP P) u i7 (i3 (nC P)) (i3 r) (i3 ((nR P - 1 - r : Nat) : Int)) (i3 i) s.1)
    (fun i s => CP s.1 k s.2 ∧ trn P r i s.2 ∧ wV s.2 = wV Q ∧ fr [k] μ s.1)
    (fun o => ∃ μ' Q', o = k66 (fX P) (fP P) u i7 (i3 (nC P)) (i3 ((r + 1 : Nat) : Int)) μ' ∧ CP μ' k Q' ∧ trn P (r + 1) 0 Q' ∧ wV Q' = wV Q ∧ fr [k] μ μ') (nC P) ?_ ?_ BIG 0 (μ, Q) (by omega) (BIG_lt (by omega)) ⟨hQ, ht, rfl, fr_rf _ _⟩
  · rintro n ⟨s, S⟩ ⟨a, b, c, d⟩
    simp only at a b c d
    simp only [f_X4_turnQuarter_105, lt_k, inc3]
    rw [if_pos (le3 (by omega))]
    refine ⟨s, S, rfl, a, ⟨b.1, b.2.1, b.2.2.1, fun x y => ?_, fun x y => ?_⟩, c, d⟩
    · rw [b.2.2.2.1]
      constructor
      · rintro ⟨p, q, t⟩; exact ⟨p, q, by omega⟩
      · rintro ⟨p, q, t⟩
        have := ok.2.2.2.2.1 _ _ q
        exact ⟨p, q, by omega⟩
    · rw [b.2.2.2.2]
      constructor
      · rintro ⟨p, q, t⟩; exact ⟨p, q, by omega⟩
      · rintro ⟨p, q, t⟩
        have := ok.2.2.2.2.2.1 _ _ q
        exact ⟨p, q, by omega⟩
  · rintro n i ⟨s, S⟩ hi ⟨a, b, c, d⟩
    simp only at a b c d
    left
    obtain ⟨μ', Q', h1, h2, h3, h4, h5⟩ := turnCell ok hr hi a b k66 n u i7
    exact ⟨(μ', Q'), ⟨h2, h3, h4.trans c, fr_tr d h5⟩, h1⟩
/-- Q is P turned -/
def turned (P Q : Pic) : Prop := nR Q = nC P ∧ nC Q = nR P ∧ wU Q = wV P ∧ (∀ a b, zc (fX Q) a b ↔ b < nR P ∧ zc (fX P) (nR P - 1 - b) a) ∧ (∀ a b, zc (fP Q) a b ↔ b < nR P ∧ zc (fP P) (nR P - 1 - b) a) ∧
  (∀ j, j < 6 → dgn (wV Q) j = if j < nR P then dgn (wU P) (nR P - 1 - j) else 0)
theorem turned_ok {P Q : Pic} (ok : okP P) (h : turned P Q) : okP Q := by
  obtain ⟨o1, o2, o3, o4, o5, o6, o7, o8⟩ := ok
  obtain ⟨t1, t2, t3, t4, t5, t6⟩ := h
  unfold okP
  rw [t1, t2, t3]
  refine ⟨o3, o4, o1, o2, fun r c q => ?_, fun r c q => ?_, o8, fun i hi => ?_⟩
  · obtain ⟨a, b⟩ := (t4 r c).mp q
    exact ⟨(o5 _ _ b).2, a⟩
  · obtain ⟨a, b⟩ := (t5 r c).mp q
    exact ⟨(o6 _ _ b).2, a⟩
  · rw [t6 i hi]
    split
    · exact ⟨(o7 _ (by omega)).1, fun q => by omega⟩
    · exact ⟨by omega, fun _ => rfl⟩
theorem turnQuarter_code {μ : Mem} {k : Nat} {P : Pic} (h : CP μ k P) (ok : okP P) : ∃ μ' Q, F_X4_turnQuarter k μ = rV μ' ∧ CP μ' k Q ∧ turned P Q ∧ fr [k] μ μ' := by
  have o1 := ok.2.1
  have o2 := ok.2.2.2.1
  obtain ⟨h0, h1, h2, h3, h4, h5⟩ := h
  have main : ∀ μ1 Q1, CP μ1 k Q1 → trn P 0 0 Q1 → wV Q1 = 0 → ∃ μ' Q, f_X4_turnQuarter_66 k BIG (fX P) (fP P) (wU P) (i3 (nR P)) (i3 (nC P)) (0 : Int32) μ1 = rV μ' ∧ CP μ' k Q ∧ turned P Q ∧ fr [k] μ1 μ' := by
    intro μ1 Q1 a1 a2 a3
    rw [show (0 : Int32) = i3 ((0 : Nat) : Int) from l3_0]
    refine loop_st (σ := Mem × Pic) (fun n i s => f_X4_turnQuarter_66 k n (fX P) (fP P) (wU P) (i3 (nR P)) (i3 (nC P)) (i3 i) s.1)
      (fun i s => CP s.1 k s.2 ∧ trn P i 0 s.2 ∧ (∀ j, j < 6 → dgn (wV s.2) j = if j < nR P ∧ nR P - 1 - j < i then dgn (wU P) (nR P - 1 - j) else 0) ∧ fr [k] μ1 s.1)
      (fun o => ∃ μ' Q, o = rV μ' ∧ CP μ' k Q ∧ turned P Q ∧ fr [k] μ1 μ') (nR P) ?_ ?_ BIG 0 (μ1, Q1) (by omega) (BIG_lt (by omega)) ⟨a1, a2, fun j hj => ?_, fr_rf _ _⟩
    · rintro n ⟨s, S⟩ ⟨a, b, c, d⟩
      simp only at a b c d
      simp only [f_X4_turnQuarter_66]
      rw [if_pos (le3 (by omega))]
      refine ⟨s, S, rfl, a, ⟨b.1, b.2.1, b.2.2.1, fun x y => ?_, fun x y => ?_, fun j hj => ?_⟩, d⟩
      · rw [b.2.2.2.1]
        exact ⟨fun q => ⟨q.1, q.2.1⟩, fun q => ⟨q.1, q.2, by omega⟩⟩
      · rw [b.2.2.2.2]
        exact ⟨fun q => ⟨q.1, q.2.1⟩, fun q => ⟨q.1, q.2, by omega⟩⟩
      · rw [c j hj]
        by_cases e : j < nR P
        · rw [if_pos e, if_pos (by omega)]
        · rw [if_neg e, if_neg (by omega)]
    · rintro n i ⟨s, S⟩ hi ⟨a, b, c, d⟩
      simp only at a b c d
      left
      have a' := CP_V a (chgI (wV S) (nR P - 1 - i) (dgn (wU P) i))
      obtain ⟨μ', Q', g1, g2, g3, g4, g5⟩ := turnRow ok hi (f_X4_turnQuarter_66 k n) (wU P) (i3 (nR P)) _ (mkV S (chgI (wV S) (nR P - 1 - i) (dgn (wU P) i))) a' b
      refine ⟨(μ', Q'), ⟨g2, g3, fun j hj => ?_, fr_tr (fr_tr d (fr_sJ (by simp))) g5⟩, ?_⟩
      · rw [g4]
        show dgn (chgI (wV S) (nR P - 1 - i) (dgn (wU P) i)) j = _
        rw [dgn_chg _ (by omega) (dgn_lt _ _) (by omega), c j hj]
        by_cases e : j = nR P - 1 - i
        · rw [if_pos e, if_pos (by omega), show nR P - 1 - j = i from by omega]
        · rw [if_neg e]
          by_cases e2 : j < nR P ∧ nR P - 1 - j < i
          · rw [if_pos e2, if_pos (by omega)]
          · rw [if_neg e2, if_neg (by omega)]
      · simp only [f_X4_turnQuarter_66, lt_k, i3_pred (nR P) i hi, digit_code (wU P) (show i < 16 by omega), cI_k, a.2.2.2.2.2, chg_code, cJ_k]
        rw [if_neg (nle3 (by omega))]
        exact g1
    · rw [a3, if_neg (by omega)]
      have : ∀ j : Fin 6, dgn 0 j.val = 0 := by decide +kernel
      exact this ⟨j, hj⟩
  have a1 : CP (sJ (sJ (sJ (sJ (sI (sI μ k 0 (i3 (nC P))) k 1 (i3 (nR P))) k 4 (wV P)) k 5 0) k 2 0) k 3 0) k (nC P, nR P, 0, 0, wV P, 0) := by
    refine ⟨?_, ?_, ?_, ?_, ?_, ?_⟩ <;> simp [sI_1, sI_2, sJ_1, sJ_21, up2_a]
  obtain ⟨μ', Q, g1, g2, g3, g4⟩ := main _ _ a1 ⟨rfl, rfl, rfl, fun a b => ⟨fun q => absurd q (zc_0 _ _), fun q => by omega⟩, fun a b => ⟨fun q => absurd q (zc_0 _ _), fun q => by omega⟩⟩ rfl
  refine ⟨μ', Q, ?_, g2, g3, fr_tr (fr_tr (fr_tr (fr_tr (fr_tr (fr_tr (fr_sI (by simp)) (fr_sI (by simp))) (fr_sJ (by simp))) (fr_sJ (by simp))) (fr_sJ (by simp))) (fr_sJ (by simp))) g4⟩
  simp only [F_X4_turnQuarter, lt_k, h0, h1, h2, h3, h4, sI_2, h5]
  exact g1
