theorem sml_0 {P : Pic} {m i : Nat} : 0 ≤ sml P m i := by
  have h1 := tal_0 P m i
  have h2 := tal_m P m i
  unfold sml; split <;> omega
theorem sml_m {P : Pic} {m i : Nat} : sml P m i ≤ m := by
  have h1 := tal_0 P m i
  have h2 := tal_m P m i
  unfold sml; split <;> omega
theorem bestParted_code {μ : Mem} {P : Pic} (ok : okP P) {m : Nat} (hm : cntF P m) (h2 : 2 ≤ m) (ht : ∀ i, i < 48 → μ.1 7 i = i3 (tal P m i)) : ∃ v, F_X7_bestParted (i3 m) μ = rI (i3 v) μ ∧ isBest P m v := by
  have o1 := ok.2.1
  have o2 := ok.2.2.2.1
  have hm100 := hm.1
  simp only [F_X7_bestParted, l3_m9]
  rw [show (0 : Int32) = i3 ((0 : Nat) : Int) from l3_0]
  refine loop_st (σ := Int × Int) (fun n i z => f_X7_bestParted_8 n (i3 m) (i3 z.1) (i3 z.2) (i3 i) μ)
    (fun i z => (∀ a, a < i → sml P m a ≤ z.2) ∧ ((z.2 = 0 ∧ z.1 = -9) ∨ (1 ≤ z.2 ∧ z.2 ≤ 100 ∧ ∃ r c, r < nR P ∧ c < nC P ∧ 8 * r + c < i ∧ z.1 = 10 * r + c ∧ sml P m (8 * r + c) = z.2 ∧ ∀ j, j < 8 * r + c → sml P m j < z.2)))
    (fun o => ∃ v, o = rI (i3 v) μ ∧ isBest P m v) 48 ?_ ?_ BIG 0 (-9, ((0 : Nat) : Int)) (by decide) (BIG_lt (by decide)) ⟨fun a q => by omega, Or.inl ⟨rfl, rfl⟩⟩
  · rintro n ⟨b, M⟩ ⟨q1, q2⟩
    simp only at q1 q2
    simp only [f_X7_bestParted_8, l3_48]
    rw [if_pos (le3 (by omega))]
    refine ⟨b, rfl, ?_⟩
    obtain ⟨a, d, w1, w2, w3⟩ := parts ok hm h2
    have := q1 (8 * a + d) (by omega)
    rcases q2 with q2 | ⟨p1, -, r, c, p2, p3, p4, p5, p6, p7⟩
    · omega
    · exact ⟨r, c, p2, p3, p5, fun a d z1 z2 => by rw [p6]; exact q1 _ (by omega), fun a d z1 z2 z3 => by rw [p6]; exact p7 _ z3⟩
  · rintro n i ⟨b, M⟩ hi ⟨q1, q2⟩
    simp only at q1 q2
    left
    have t0 := tal_0 P m i
    have tm := tal_m P m i
    have s0 := sml_0 (P := P) (m := m) (i := i)
    have sm := sml_m (P := P) (m := m) (i := i)
    have hmin : (if tal P m i ≤ (m : Int) - tal P m i then tal P m i else (m : Int) - tal P m i) = sml P m i := rfl
    have M0 : 0 ≤ M ∧ M ≤ 100 := by
      rcases q2 with q2 | q2
      · omega
      · omega
    simp only [f_X7_bestParted_8, l3_48, lt_k, inc3]
    rw [if_neg (nle3 (by omega)), ck_k (i3_in (by omega) (by decide)), ck_k (i3_in (by omega) (by decide)), i3_nat (by omega) (by omega), Int.toNat_natCast, ht i hi, i3_sub, min_code _ _ (by omega) (by omega), cI_k, hmin]
    by_cases hle : sml P m i ≤ M
    · rw [if_pos (le3 (by omega))]
      refine ⟨(b, M), ⟨fun a ha => ?_, ?_⟩, rfl⟩
      · by_cases hai : a = i
        · rw [hai]; exact hle
        · exact q1 a (by omega)
      · rcases q2 with q2 | ⟨p1, p0, r, c, p2, p3, p4, p5⟩
        · exact Or.inl q2
        · exact Or.inr ⟨p1, p0, r, c, p2, p3, by omega, p5⟩
    · rw [if_neg (nle3 (by omega)), code_code (show i < 64 by omega), cI_k]
      have hon : i / 8 < nR P ∧ i % 8 < nC P := by
        apply Classical.byContradiction
        intro hq
        have := tal_off hm (show i < 64 by omega) hq
        unfold sml at hle
        rw [this] at hle
        rw [if_pos (by omega)] at hle
        omega
      refine ⟨(_, sml P m i), ⟨fun a ha => ?_, Or.inr ⟨by omega, by omega, i / 8, i % 8, hon.1, hon.2, by omega, rfl, by rw [show 8 * (i / 8) + i % 8 = i from by omega], fun j hj => ?_⟩⟩, rfl⟩
      · show sml P m a ≤ sml P m i
        by_cases hai : a = i
        · rw [hai]; exact Int.le_refl _
        · have := q1 a (by omega); omega
      · show sml P m j < sml P m i
        have := q1 j (by omega); omega
/-- v: the smallest distance of the first m fitting pictures -/
def isNear (P : Pic) (m : Nat) (v : Int) : Prop := (∃ n, n < m ∧ v = pc (gq P n ^^^ fX P)) ∧ ∀ n, n < m → v ≤ pc (gq P n ^^^ fX P)
theorem isNear_uni {P : Pic} {m : Nat} {v v' : Int} (h : isNear P m v) (h' : isNear P m v') : v = v' := by
  obtain ⟨⟨n, h1, h2⟩, h3⟩ := h
  obtain ⟨⟨n', h1', h2'⟩, h3'⟩ := h'
  have a1 := h3 n' h1'
  have a2 := h3' n h1
  omega
theorem xor_brd {P : Pic} (ok : okP P) {G : Int64} (h : fitC P G) : brd (G ^^^ fX P) := (brd_iff _).mpr (fun r c q => by
  rw [zc_xor] at q
  have o1 := ok.2.1
  have o2 := ok.2.2.2.1
  rcases q with q | q
  · have := h.1 r c q.1; omega
  · have := ok.2.2.2.2.1 r c q.2; omega)
theorem leastDistance_code {μ : Mem} {P : Pic} (ok : okP P) (h : CP μ 2 P) {m : Nat} (hm : cntF P m) (h1 : 1 ≤ m) (h2 : m < 100) : ∃ v s, F_X7_leastDistance μ = rI (i3 v) s ∧ fr [6, 12] μ s ∧ isNear P m v := by
  obtain ⟨v, s, t1, t2, t3⟩ := first_at ok h (by simp)
  simp only [F_X7_leastDistance, t1, cI_k, l3_48]
  rw [show (0 : Int32) = i3 ((0 : Nat) : Int) from l3_0]
  refine loop_st (σ := Int × Int × Mem) (fun n i z => f_X7_leastDistance_18 n (i3 z.1) (i3 z.2.1) (i3 i) z.2.2)
    (fun i z => fr [6, 12] μ z.2.2 ∧ atF P i z.2.1 z.2.2 ∧ i ≤ m ∧ (0 ≤ z.1 ∧ z.1 ≤ 48) ∧ (∀ n, n < i → z.1 ≤ pc (gq P n ^^^ fX P)) ∧ (i = 0 ∧ z.1 = 48 ∨ ∃ n, n < i ∧ z.1 = pc (gq P n ^^^ fX P)))
    (fun o => ∃ v s, o = rI (i3 v) s ∧ fr [6, 12] μ s ∧ isNear P m v) 100 ?_ ?_ BIG 0 (48, v, s) (by decide) (BIG_lt (by decide)) ⟨t2, t3, Nat.zero_le _, (show (0 : Int) ≤ 48 ∧ (48 : Int) ≤ 48 by decide), fun n q => by omega, Or.inl ⟨rfl, rfl⟩⟩
  · rintro n ⟨l, v, s⟩ ⟨-, -, q3, -⟩
    omega
  · rintro n i ⟨l, v, s⟩ hi ⟨q1, q2, q3, q4, q5, q6⟩
    simp only at q1 q2 q3 q4 q5 q6
    rcases q2 with ⟨e, q2⟩ | ⟨e, q2⟩
    · left
      subst e
      have hP := CP_fr h q1 (by simp)
      obtain ⟨v', s', g1, g2, g3⟩ := next_at ok hP (by simp) q2
      have hg := gq_eq ok q2
      have hfit := sqn_fit q2
      have hp := pc_36 (xor_brd ok hfit.1)
      have hp0 := pc_nn (s.2.1 6 1 ^^^ fX P)
      simp only [f_X7_leastDistance_18, l3_100, F_X2_found, cJ_k, pc_code, cI_k, hP.2.2.1, lt_k, inc3]
      rw [if_neg (by decide), if_neg (nle3 (by omega)), min_code _ _ (by omega) (by omega), cI_k, g1, cI_k]
      have him : i < m := by
        by_cases e : i = m
        · subst e; exact absurd ⟨_, q2⟩ (hm.2.2 h2)
        · omega
      refine ⟨(_, v', s'), ⟨fr_tr q1 g2, g3, him, ?_, fun k hk => ?_, Or.inr ?_⟩, rfl⟩
      · show 0 ≤ (if l ≤ pc (s.2.1 6 1 ^^^ fX P) then l else pc (s.2.1 6 1 ^^^ fX P)) ∧ (if l ≤ pc (s.2.1 6 1 ^^^ fX P) then l else pc (s.2.1 6 1 ^^^ fX P)) ≤ 48
        split <;> omega
      · show (if l ≤ pc (s.2.1 6 1 ^^^ fX P) then l else pc (s.2.1 6 1 ^^^ fX P)) ≤ pc (gq P k ^^^ fX P)
        by_cases hki : k = i
        · subst hki; rw [hg]; split <;> omega
        · have := q5 k (by omega)
          split <;> omega
      · show ∃ k, k < i + 1 ∧ (if l ≤ pc (s.2.1 6 1 ^^^ fX P) then l else pc (s.2.1 6 1 ^^^ fX P)) = pc (gq P k ^^^ fX P)
        by_cases hle : l ≤ pc (s.2.1 6 1 ^^^ fX P)
        · rw [if_pos hle]
          rcases q6 with ⟨w1, w2⟩ | ⟨k, w1, w2⟩
          · omega
          · exact ⟨k, by omega, w2⟩
        · rw [if_neg hle]
          exact ⟨i, by omega, by rw [hg]⟩
    · right
      subst e
      simp only [f_X7_leastDistance_18]
      rw [if_pos (by decide)]
      have him : i = m := by
        by_cases hlt : i < m
        · exact absurd (hm.2.1 i hlt) q2
        · omega
      subst him
      refine ⟨l, s, rfl, q1, ?_, q5⟩
      rcases q6 with ⟨w1, w2⟩ | ⟨k, w1, w2⟩
      · omega
      · exact ⟨k, w1, w2⟩
