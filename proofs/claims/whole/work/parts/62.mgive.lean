/-- a loop over the cells, row by row -/
theorem loop_rc {σ : Type} (L : Nat → Nat → σ → Out) (M : Nat → Nat → Nat → Nat → σ → Out) (P : Nat → Nat → σ → Prop) (Q : Out → Prop) (R C : Nat) (hC : C < 4096)
    (h0 : ∀ n s, P R 0 s → Q (L (n + 1) R s)) (h1 : ∀ n i s, i < R → P i 0 s → L (n + 1) i s = M n BIG i 0 s) (h2 : ∀ n m i s, i < R → P i C s → ∃ s', P (i + 1) 0 s' ∧ M n (m + 1) i C s = L n (i + 1) s')
    (h3 : ∀ n m i j s, i < R → j < C → P i j s → (∃ s', P i (j + 1) s' ∧ M n (m + 1) i j s = M n m i (j + 1) s') ∨ Q (M n (m + 1) i j s)) : ∀ n i s, i ≤ R → R < n + i → P i 0 s → Q (L n i s) := by
  intro n
  induction n with
  | zero => intro i s a b; omega
  | succ n ih =>
    intro i s a b hp
    by_cases hi : i = R
    · subst hi; exact h0 n s hp
    · rw [h1 n i s (by omega) hp]
      refine loop_st (fun m j s => M n m i j s) (fun j s => P i j s) Q C ?_ ?_ BIG 0 s (by omega) (BIG_lt hC) hp
      · intro m s hs
        obtain ⟨s', w1, w2⟩ := h2 n m i s (by omega) hs
        show Q (M n (m + 1) i C s)
        rw [w2]
        exact ih (i + 1) s' (by omega) (by omega) w1
      · intro m j s hj hs
        exact h3 n m i j s (by omega) hj hs
/-- what is given by the pins -/
def gpV (P : Pic) (r c : Nat) : Int32 := if tb (fP P) (8 * r + c) = true then i3 (b2 (tb (fX P) (8 * r + c))) else i3 (-1)
theorem b2_3 (b : Bool) : (b = true ∧ b2 b = 1) ∨ (b = false ∧ b2 b = 0) := by cases b <;> simp [b2]
theorem mGivesPins {s : Mem} {P : Pic} (h : MN s P) (ok : okP P) : ∃ z, F_X8_givesPins s = rV z ∧ fr [37] s z ∧ ∀ r c, r < nR P → c < nC P → z.1 37 (6 * r + c) = gpV P r c := by
  have o1 := ok.2.1
  have o2 := ok.2.2.2.1
  simp only [F_X8_givesPins]
  rw [show (0 : Int32) = i3 ((0 : Nat) : Int) from l3_0]
  refine loop_rc (σ := Mem) (fun n i z => f_X8_givesPins_2 n (i3 i) z) (fun n m i j z => f_X8_givesPins_12 (f_X8_givesPins_2 n) m (i3 i) (i3 j) z)
    (fun i j z => fr [37] s z ∧ ∀ r c, r < nR P → c < nC P → (r < i ∨ r = i ∧ c < j) → z.1 37 (6 * r + c) = gpV P r c)
    (fun o => ∃ z, o = rV z ∧ fr [37] s z ∧ ∀ r c, r < nR P → c < nC P → z.1 37 (6 * r + c) = gpV P r c) (nR P) (nC P) (by omega) ?_ ?_ ?_ ?_ BIG 0 s (by omega) (BIG_lt (by omega)) ⟨fr_rf _ _, fun r c _ _ q => by omega⟩
  · rintro n z ⟨q1, q2⟩
    have el : i3 (nR P : Int) ≤ i3 (nR P : Int) := le3 (by omega)
    simp only [f_X8_givesPins_2, rows_code (MN_fr h q1 (by simp)), cI_k, if_pos el]
    exact ⟨z, rfl, q1, fun r c hr hc => q2 r c hr hc (Or.inl hr)⟩
  · rintro n i z hi ⟨q1, q2⟩
    have el : ¬ i3 (nR P : Int) ≤ i3 (i : Int) := nle3 (by omega)
    simp only [f_X8_givesPins_2, rows_code (MN_fr h q1 (by simp)), cI_k, if_neg el, l3_0]
    rfl
  · rintro n m i z hi ⟨q1, q2⟩
    have el : i3 (nC P : Int) ≤ i3 (nC P : Int) := le3 (by omega)
    simp only [f_X8_givesPins_12, cols_code (MN_fr h q1 (by simp)), cI_k, if_pos el, lt_k, inc3]
    exact ⟨z, ⟨q1, fun r c hr hc q => q2 r c hr hc (by omega)⟩, rfl⟩
  · rintro n m i j z hi hj ⟨q1, q2⟩
    left
    have hm := MN_fr h q1 (by simp)
    have el : ¬ i3 (nC P : Int) ≤ i3 (j : Int) := nle3 (by omega)
    have hck : ∀ K : Out, ck (inb (i3 ((6 * i + j : Nat) : Int)) 36) K = K := fun K => ck_k (i3_in (by omega) (by decide)) K
    have step : ∀ v, v = gpV P i j → fr [37] s (sI z 37 (6 * i + j) v) ∧ ∀ r c, r < nR P → c < nC P → (r < i ∨ r = i ∧ c < j + 1) → (sI z 37 (6 * i + j) v).1 37 (6 * r + c) = gpV P r c := by
      intro v hv
      refine ⟨fr_tr q1 (fr_sI (by simp)), fun r c hr hc q => ?_⟩
      rw [sI_1, up2_a]
      by_cases e : 6 * r + c = 6 * i + j
      · rw [if_pos ⟨rfl, e⟩, hv]
        have e1 : r = i := by omega
        have e2 : c = j := by omega
        rw [e1, e2]
      · rw [if_neg (fun w => e w.2)]; exact q2 r c hr hc (by omega)
    simp only [f_X8_givesPins_12, cols_code hm, cI_k, if_neg el, mPinned hm (show i < 6 by omega) (show j < 6 by omega), mFilled hm (show i < 6 by omega) (show j < 6 by omega), at6, hck, lt_k, inc3, clampN (show 6 * i + j < 2147483648 by omega)]
    unfold gpV at step
    rcases b2_3 (tb (fP P) (8 * i + j)) with ⟨a1, a2⟩ | ⟨a1, a2⟩
    · rw [if_pos a1] at step
      have n0 : ¬ i3 1 = (0 : Int32) := by decide
      simp only [a2, if_neg n0]
      rcases b2_3 (tb (fX P) (8 * i + j)) with ⟨b1, b2'⟩ | ⟨b1, b2'⟩
      · simp only [b2', if_neg n0] at step ⊢
        exact ⟨_, step _ l3_1, rfl⟩
      · have n1 : i3 0 = (0 : Int32) := by decide
        simp only [b2', if_pos n1] at step ⊢
        exact ⟨_, step _ l3_0, rfl⟩
    · rw [if_neg (fun q => by rw [q] at a1; exact absurd a1 (by decide))] at step
      have n1 : i3 0 = (0 : Int32) := by decide
      simp only [a2, if_pos n1]
      exact ⟨_, step _ l3_m1, rfl⟩
/-- what the given cells are, and so which pictures fit -/
theorem fit37 {P : Pic} (ok : okP P) {s : Mem} (y : Int64) : fitG P s y ↔ fitC P y ∧ ∀ r c, r < nR P → c < nC P → ¬ s.1 37 (6 * r + c) = i3 (-1) → (zc y r c ↔ s.1 37 (6 * r + c) = i3 1) := by
  unfold fitG
  constructor
  · rintro ⟨h1, h2⟩
    refine ⟨h1, fun r c hr hc q => ?_⟩
    rw [h2 r c hr hc (fun w => q ((zc_gF ok s r c).mp w).2), zc_g1 ok]
    exact ⟨fun w => w.2, fun w => ⟨⟨hr, hc⟩, w⟩⟩
  · rintro ⟨h1, h2⟩
    refine ⟨h1, fun r c hr hc q => ?_⟩
    rw [h2 r c hr hc (fun w => q ((zc_gF ok s r c).mpr ⟨⟨hr, hc⟩, w⟩)), zc_g1 ok]
    exact ⟨fun w => ⟨⟨hr, hc⟩, w⟩, fun w => w.2⟩
