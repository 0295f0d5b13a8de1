/-! the i-th exchange -/
def tol (k : Nat) : Int := 1000 * (k / 216 : Nat) + 100 * (k / 36 % 6 : Nat) + 10 * (k / 6 % 6 : Nat) + (k % 6 : Nat)
def isEx (P : Pic) (i : Int) (v : Int) : Prop := (∃ k, k < 1296 ∧ exq P k = true ∧ cex P k = i ∧ v = tol k) ∨ (cex P 1296 ≤ i ∧ v = -9)
theorem cex_s (P : Pic) (n : Nat) : cex P (n + 1) = cex P n + b2 (exq P n) := rfl
theorem isEx_uni {P : Pic} {i v v' : Int} (h : isEx P i v) (h' : isEx P i v') : v = v' := by
  have key : ∀ k k', k < k' → exq P k = true → cex P k = i → ¬ cex P k' = i := by
    intro k k' hk h1 h2 h3
    have h4 := cex_s P k
    rw [h1] at h4
    have h5 := cex_mono P (show k + 1 ≤ k' by omega)
    rw [b2_t] at h4
    omega
  have key2 : ∀ k, k < 1296 → exq P k = true → cex P k = i → ¬ cex P 1296 ≤ i := by
    intro k hk h1 h2 h3
    have h4 := cex_s P k
    rw [h1, b2_t] at h4
    have h5 := cex_mono P (show k + 1 ≤ 1296 by omega)
    omega
  rcases h with ⟨k, h1, h2, h3, h4⟩ | ⟨h1, h2⟩
  · rcases h' with ⟨k', h1', h2', h3', h4'⟩ | ⟨h1', h2'⟩
    · by_cases hlt : k < k'
      · exact absurd h3' (key k k' hlt h2 h3)
      · by_cases hgt : k' < k
        · exact absurd h3 (key k' k hgt h2' h3')
        · rw [h4, h4', show k = k' from by omega]
    · exact absurd h1' (key2 k h1 h2 h3)
  · rcases h' with ⟨k', h1', h2', h3', h4'⟩ | ⟨h1', h2'⟩
    · exact absurd h1 (key2 k' h1' h2' h3')
    · rw [h2, h2']
theorem dec3 (a : Int) : i3 a + (-1 : Int32) = i3 (a - 1) := by rw [l3_m1, i3_add]; rfl
theorem exq_of (P : Pic) {r s c d : Nat} (hrs : r < s) (hs : s < 6) (hcd : c < d) (hd : d < 6) : exq P (216 * r + 36 * s + 6 * c + d) = of4 P r s c d := by
  unfold exq
  rw [show (216 * r + 36 * s + 6 * c + d) / 216 = r from by omega, show (216 * r + 36 * s + 6 * c + d) / 36 % 6 = s from by omega, show (216 * r + 36 * s + 6 * c + d) / 6 % 6 = c from by omega, show (216 * r + 36 * s + 6 * c + d) % 6 = d from by omega]
  simp [hrs, hcd]
theorem exchangedColumns_code {μ : Mem} {k : Nat} {P : Pic} (h : CP μ k P) (ok : okP P) {r s : Nat} (hrs : r < s) (hs : s < nR P) {i : Int} (hi : i < 2147483648) (h1 : cex P (216 * r + 36 * s) ≤ i) (h2 : i < cex P (216 * r + 36 * s + 36)) :
    ∃ q, q < 1296 ∧ q / 216 = r ∧ q / 36 % 6 = s ∧ exq P q = true ∧ cex P q = i ∧ F_X4_exchangedColumns k (i3 r) (i3 s) (i3 (i - cex P (216 * r + 36 * s))) μ = rI (i3 (10 * (q / 6 % 6 : Nat) + (q % 6 : Nat))) μ := by
  have o1 := ok.2.1
  have o2 := ok.2.2.2.1
  have i0 : 0 ≤ i := Int.le_trans (cex_0 P _) h1
  have inner : ∀ c, c < nC P → cex P (216 * r + 36 * s + 6 * c) ≤ i → ∀ k6 : Int32 → Int32 → Int32 → Int32 → Mem → Out,
      (∃ q, q < 1296 ∧ q / 216 = r ∧ q / 36 % 6 = s ∧ exq P q = true ∧ cex P q = i ∧ f_X4_exchangedColumns_21 k k6 BIG (i3 r) (i3 s) (i3 (i - cex P (216 * r + 36 * s + 6 * c))) (i3 c) (i3 ((c + 1 : Nat) : Int)) μ = rI (i3 (10 * (q / 6 % 6 : Nat) + (q % 6 : Nat))) μ) ∨
      (cex P (216 * r + 36 * s + 6 * (c + 1)) ≤ i ∧ f_X4_exchangedColumns_21 k k6 BIG (i3 r) (i3 s) (i3 (i - cex P (216 * r + 36 * s + 6 * c))) (i3 c) (i3 ((c + 1 : Nat) : Int)) μ = k6 (i3 r) (i3 s) (i3 (i - cex P (216 * r + 36 * s + 6 * (c + 1)))) (i3 ((c + 1 : Nat) : Int)) μ) := by
    intro c hc hci k6
    have e0 : cex P (216 * r + 36 * s + 6 * c) = cex P (216 * r + 36 * s + 6 * c + (c + 1)) := by
      refine (cex_flat P (by omega) (fun q q1 q2 => ?_)).symm
      unfold exq
      rw [show decide (q / 6 % 6 < q % 6) = false from by rw [decide_eq_false_iff_not]; omega]
      simp
    have e1 : cex P (216 * r + 36 * s + 6 * (c + 1)) = cex P (216 * r + 36 * s + 6 * c + nC P) := by
      refine cex_flat P (by omega) (fun q q1 q2 => exq_no (fun hq => ?_))
      have := exq_bd ok (by omega) hq
      omega
    rw [e0] at hci ⊢
    rw [e1]
    refine loop_st (σ := Unit) (fun n d _ => f_X4_exchangedColumns_21 k k6 n (i3 r) (i3 s) (i3 (i - cex P (216 * r + 36 * s + 6 * c + d))) (i3 c) (i3 d) μ)
      (fun d _ => c + 1 ≤ d ∧ cex P (216 * r + 36 * s + 6 * c + d) ≤ i)
      (fun o => (∃ q, q < 1296 ∧ q / 216 = r ∧ q / 36 % 6 = s ∧ exq P q = true ∧ cex P q = i ∧ o = rI (i3 (10 * (q / 6 % 6 : Nat) + (q % 6 : Nat))) μ) ∨
        (cex P (216 * r + 36 * s + 6 * c + nC P) ≤ i ∧ o = k6 (i3 r) (i3 s) (i3 (i - cex P (216 * r + 36 * s + 6 * c + nC P))) (i3 ((c + 1 : Nat) : Int)) μ)) (nC P) ?_ ?_ BIG (c + 1) () (by omega) (BIG_lt (by omega)) ⟨Nat.le_refl _, hci⟩
    · rintro n - ⟨a, b⟩
      right
      simp only [f_X4_exchangedColumns_21, h.2.1, lt_k, inc3]
      rw [if_pos (le3 (by omega))]
      exact ⟨b, rfl⟩
    · rintro n d - hd ⟨a, b⟩
      have c0 := cex_0 P (216 * r + 36 * s + 6 * c + d)
      simp only [f_X4_exchangedColumns_21, h.2.1, lt_k, inc3, canExchange_code h (show r < 8 by omega) (show s < 8 by omega) (show c < 8 by omega) (show d < 8 by omega) (show ¬ r = s by omega) (show ¬ c = d by omega), cI_k, dec3, l3_10, i3_mul, i3_add]
      rw [if_neg (nle3 (by omega)), l3_0]
      have hst := cex_s P (216 * r + 36 * s + 6 * c + d)
      rw [exq_of P hrs (by omega) a (by omega)] at hst
      cases hx : of4 P r s c d
      · left
        rw [hx, b2_f] at hst
        rw [b2_f, if_pos rfl]
        refine ⟨(), ⟨by omega, by rw [← Nat.add_assoc, hst]; omega⟩, ?_⟩
        rw [← Nat.add_assoc, hst, show cex P (216 * r + 36 * s + 6 * c + d) + 0 = cex P (216 * r + 36 * s + 6 * c + d) from by omega]
      · rw [hx, b2_t] at hst
        rw [b2_t, if_neg (by decide)]
        by_cases hz : i - cex P (216 * r + 36 * s + 6 * c + d) = 0
        · right; left
          rw [hz, if_pos rfl]
          refine ⟨216 * r + 36 * s + 6 * c + d, by omega, by omega, by omega, ?_, by omega, ?_⟩
          · rw [exq_of P hrs (by omega) a (by omega)]; exact hx
          · rw [show (216 * r + 36 * s + 6 * c + d) / 6 % 6 = c from by omega, show (216 * r + 36 * s + 6 * c + d) % 6 = d from by omega]
        · left
          rw [if_neg (ne3 (by omega))]
          refine ⟨(), ⟨by omega, by rw [← Nat.add_assoc, hst]; omega⟩, ?_⟩
          rw [← Nat.add_assoc, hst, show i - cex P (216 * r + 36 * s + 6 * c + d) - 1 = i - (cex P (216 * r + 36 * s + 6 * c + d) + 1) from by omega]
  simp only [F_X4_exchangedColumns]
  rw [show (0 : Int32) = i3 ((0 : Nat) : Int) from l3_0]
  refine loop_st (σ := Unit) (fun n c _ => f_X4_exchangedColumns_6 k n (i3 r) (i3 s) (i3 (i - cex P (216 * r + 36 * s + 6 * c))) (i3 c) μ)
    (fun c _ => cex P (216 * r + 36 * s + 6 * c) ≤ i)
    (fun o => ∃ q, q < 1296 ∧ q / 216 = r ∧ q / 36 % 6 = s ∧ exq P q = true ∧ cex P q = i ∧ o = rI (i3 (10 * (q / 6 % 6 : Nat) + (q % 6 : Nat))) μ) (nC P) ?_ ?_ BIG 0 () (by omega) (BIG_lt (by omega)) h1
  · rintro n - a
    exfalso
    have : cex P (216 * r + 36 * s + 36) = cex P (216 * r + 36 * s + 6 * nC P) := by
      refine cex_flat P (by omega) (fun q q1 q2 => exq_no (fun hq => ?_))
      have := exq_bd ok (by omega) hq
      omega
    omega
  · rintro n c - hc a
    simp only [f_X4_exchangedColumns_6, h.2.1, lt_k, inc3]
    rw [if_neg (nle3 (by omega))]
    rcases inner c hc a (f_X4_exchangedColumns_6 k n) with hq | ⟨q1, q2⟩
    · exact Or.inr hq
    · exact Or.inl ⟨(), q1, q2⟩
theorem exchangeNumbered_code {μ : Mem} {k : Nat} {P : Pic} (h : CP μ k P) (ok : okP P) {i : Int} (hi0 : 0 ≤ i) (hi : i < 2147483648) : ∃ v, F_X4_exchangeNumbered k (i3 i) μ = rI (i3 v) μ ∧ isEx P i v := by
  have o1 := ok.2.1
  have o2 := ok.2.2.2.1
  have inner : ∀ r, r < nR P → cex P (216 * r) ≤ i → ∀ k4 : Int32 → Int32 → Mem → Out,
      (∃ v, f_X4_exchangeNumbered_17 k k4 BIG (i3 (i - cex P (216 * r))) (i3 r) (i3 ((r + 1 : Nat) : Int)) μ = rI (i3 v) μ ∧ isEx P i v) ∨
      (cex P (216 * (r + 1)) ≤ i ∧ f_X4_exchangeNumbered_17 k k4 BIG (i3 (i - cex P (216 * r))) (i3 r) (i3 ((r + 1 : Nat) : Int)) μ = k4 (i3 (i - cex P (216 * (r + 1)))) (i3 ((r + 1 : Nat) : Int)) μ) := by
    intro r hr hri k4
    rw [← cex_in P (show r < 6 by omega)] at hri ⊢
    rw [cex_out ok (show r < 6 by omega)]
    refine loop_st (σ := Unit) (fun n s _ => f_X4_exchangeNumbered_17 k k4 n (i3 (i - cex P (216 * r + 36 * s))) (i3 r) (i3 s) μ)
      (fun s _ => r + 1 ≤ s ∧ cex P (216 * r + 36 * s) ≤ i)
      (fun o => (∃ v, o = rI (i3 v) μ ∧ isEx P i v) ∨ (cex P (216 * r + 36 * nR P) ≤ i ∧ o = k4 (i3 (i - cex P (216 * r + 36 * nR P))) (i3 ((r + 1 : Nat) : Int)) μ)) (nR P) ?_ ?_ BIG (r + 1) () (by omega) (BIG_lt (by omega)) ⟨Nat.le_refl _, hri⟩
    · rintro n - ⟨a, b⟩
      right
      simp only [f_X4_exchangeNumbered_17, h.1, lt_k, inc3]
      rw [if_pos (le3 (by omega))]
      exact ⟨b, rfl⟩
    · rintro n s - hs ⟨a, b⟩
      have c0 := cex_0 P (216 * r + 36 * s)
      have hbl := cex_block P (show r < s by omega) (show s < 6 by omega)
      have hm := cex_le P (216 * r + 36 * s + 36)
      have hmono := cex_mono P (show 216 * r + 36 * s ≤ 216 * r + 36 * s + 36 by omega)
      simp only [f_X4_exchangeNumbered_17, h.1, lt_k, inc3, countExchangesOf_code h (show r < 6 by omega) (show s < 6 by omega), cI_k]
      generalize pi (abv P r s) * pi (abv P s r) = m at hbl
      rw [if_neg (nle3 (by omega))]
      by_cases hle : m ≤ i - cex P (216 * r + 36 * s)
      · left
        rw [if_pos (le3 (by omega)), i3_sub]
        refine ⟨(), ⟨by omega, by rw [show 216 * r + 36 * (s + 1) = 216 * r + 36 * s + 36 from by omega]; omega⟩, ?_⟩
        rw [show 216 * r + 36 * (s + 1) = 216 * r + 36 * s + 36 from by omega, hbl, show i - cex P (216 * r + 36 * s) - m = i - (cex P (216 * r + 36 * s) + m) from by omega]
      · right; left
        rw [if_neg (nle3 (by omega))]
        obtain ⟨q, q1, q2, q3, q4, q5, q6⟩ := exchangedColumns_code h ok (show r < s by omega) hs hi b (by omega)
        rw [q6, cI_k, l3_1000, l3_100]
        simp only [i3_mul, i3_add]
        refine ⟨_, rfl, Or.inl ⟨q, q1, q4, q5, ?_⟩⟩
        unfold tol
        rw [q2, q3]
        omega
  simp only [F_X4_exchangeNumbered]
  rw [show (0 : Int32) = i3 ((0 : Nat) : Int) from l3_0]
  have e : i = i - cex P (216 * 0) := by show i = i - 0; omega
  rw [e]
  refine loop_st (σ := Unit) (fun n r _ => f_X4_exchangeNumbered_4 k n (i3 (i - cex P (216 * r))) (i3 r) μ)
    (fun r _ => cex P (216 * r) ≤ i)
    (fun o => ∃ v, o = rI (i3 v) μ ∧ isEx P (i - cex P (216 * 0)) v) (nR P) ?_ ?_ BIG 0 () (by omega) (BIG_lt (by omega)) hi0
  · rintro n - a
    simp only [f_X4_exchangeNumbered_4, h.1, l3_m9]
    rw [if_pos (le3 (by omega)), ← e]
    exact ⟨_, rfl, Or.inr ⟨by rw [cex_end ok]; exact a, rfl⟩⟩
  · rintro n r - hr a
    simp only [f_X4_exchangeNumbered_4, h.1, lt_k, inc3]
    rw [if_neg (nle3 (by omega)), ← e]
    rcases inner r hr a (f_X4_exchangeNumbered_4 k n) with hq | ⟨q1, q2⟩
    · exact Or.inr hq
    · exact Or.inl ⟨(), q1, q2⟩
theorem cornersOf_code {q : Nat} (hq : q < 1296) (μ : Mem) : F_X0_cornersOf (i3 (tol q)) μ = rJ (crn (q / 216) (q / 36 % 6) (q / 6 % 6) (q % 6)) μ := by
  unfold tol
  simp only [F_X0_cornersOf, l3_0, l3_1000, l3_100, l3_10]
  have d1 : (q : Int) / 216 < 6 := by omega
  rw [if_pos (le3 (by omega)), i3_div (by omega) (by decide), i3_div (by omega) (by decide), i3_div (by omega) (by decide), i3_rem (by omega) (by decide), i3_rem (by omega) (by decide), i3_rem (by omega) (by decide)]
  rw [show (1000 * ((q / 216 : Nat) : Int) + 100 * ((q / 36 % 6 : Nat) : Int) + 10 * ((q / 6 % 6 : Nat) : Int) + ((q % 6 : Nat) : Int)) / 1000 = ((q / 216 : Nat) : Int) from by omega,
    show (1000 * ((q / 216 : Nat) : Int) + 100 * ((q / 36 % 6 : Nat) : Int) + 10 * ((q / 6 % 6 : Nat) : Int) + ((q % 6 : Nat) : Int)) / 100 % 10 = ((q / 36 % 6 : Nat) : Int) from by omega,
    show (1000 * ((q / 216 : Nat) : Int) + 100 * ((q / 36 % 6 : Nat) : Int) + 10 * ((q / 6 % 6 : Nat) : Int) + ((q % 6 : Nat) : Int)) / 10 % 10 = ((q / 6 % 6 : Nat) : Int) from by omega,
    show (1000 * ((q / 216 : Nat) : Int) + 100 * ((q / 36 % 6 : Nat) : Int) + 10 * ((q / 6 % 6 : Nat) : Int) + ((q % 6 : Nat) : Int)) % 10 = ((q % 6 : Nat) : Int) from by omega]
  rw [corners_code, cJ_k]
