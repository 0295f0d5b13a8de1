/-- the four cells told by a code are turned -/
abbrev crk (k : Nat) : Int64 := crn (k / 216) (k / 36 % 6) (k / 6 % 6) (k % 6)
theorem mTold {μ : Mem} {P : Pic} (h : MN μ P) {k : Nat} (hk : k < 1296) (hq : exq P k = true) : ∃ z, F_X8_turnsTold (i3 (tol k)) μ = rV z ∧ fr [30] μ z ∧ MN z (mkX P (fX P ^^^ crk k)) := by
  unfold exq at hq
  have h1 : k / 216 < k / 36 % 6 ∧ k / 6 % 6 < k % 6 := by
    simp only [Bool.and_eq_true, decide_eq_true_eq] at hq
    exact ⟨hq.1.1, hq.1.2⟩
  have e0 : i3 (tol k) / (1000 : Int32) = i3 ((k / 216 : Nat) : Int) := by
    unfold tol; rw [l3_1000, i3_div (by omega) (by decide)]; congr 1; omega
  have e1 : remI (i3 (tol k) / (100 : Int32)) (10 : Int32) = i3 ((k / 36 % 6 : Nat) : Int) := by
    unfold tol; rw [l3_100, l3_10, i3_div (by omega) (by decide), i3_rem (by omega) (by decide)]; congr 1; omega
  have e2 : remI (i3 (tol k) / (10 : Int32)) (10 : Int32) = i3 ((k / 6 % 6 : Nat) : Int) := by
    unfold tol; rw [l3_10, i3_div (by omega) (by decide), i3_rem (by omega) (by decide)]; congr 1; omega
  have e3 : remI (i3 (tol k)) (10 : Int32) = i3 ((k % 6 : Nat) : Int) := by
    unfold tol; rw [l3_10, i3_rem (by omega) (by decide)]; congr 1; omega
  obtain ⟨z, w1, w2, w3⟩ := mTurns4 h (r := k / 216) (s := k / 36 % 6) (c := k / 6 % 6) (d := k % 6) (by omega) (by omega) (by omega) (by omega) (by omega) (by omega)
  refine ⟨z, ?_, w2, w3⟩
  simp only [F_X8_turnsTold, e0, e1, e2, e3, w1, cV_k]
