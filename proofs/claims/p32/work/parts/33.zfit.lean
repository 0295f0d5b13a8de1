/-! pictures that fit -/
def fitC (P : Pic) (y : Int64) : Prop := (∀ r c, zc y r c → r < nR P ∧ c < nC P) ∧ (∀ a, a < 6 → rct y a = dgn (wU P) a) ∧ (∀ a, a < 6 → cct y a = dgn (wV P) a)
/-- G is what comes of making the cells of F, in their order, as b says wherever that can be -/
def grd (P : Pic) (F : CS) (b : Bool) (G : Int64) : Prop := fitC P G ∧ ∀ r c, F r c → ¬ (zc G r c ↔ b = true) → ¬ ∃ y, fitC P y ∧ (∀ a d, (¬ F a d ∨ 8 * a + d < 8 * r + c) → (zc y a d ↔ zc G a d)) ∧ (zc y r c ↔ b = true)
theorem grd_uni {P : Pic} {F : CS} {b : Bool} {G G' : Int64} (h : grd P F b G) (h' : grd P F b G') (ho : ∀ r c, ¬ F r c → (zc G r c ↔ zc G' r c)) : G = G' := by
  have key : ∀ n, ∀ r c, c < 8 → 8 * r + c < n → (zc G r c ↔ zc G' r c) := by
    intro n
    induction n with
    | zero => intro r c _ h; omega
    | succ n ih =>
      intro r c hc hn
      by_cases hF : F r c
      · have ag : ∀ a d, (¬ F a d ∨ 8 * a + d < 8 * r + c) → (zc G a d ↔ zc G' a d) := by
          intro a d q
          rcases q with q | q
          · exact ho a d q
          · by_cases hd : d < 8
            · exact ih a d hd (by omega)
            · exact ⟨fun z => absurd z.2.1 hd, fun z => absurd z.2.1 hd⟩
        by_cases p1 : zc G r c ↔ b = true
        · by_cases p2 : zc G' r c ↔ b = true
          · rw [p1, p2]
          · exact absurd ⟨G, h.1, ag, p1⟩ (h'.2 r c hF p2)
        · by_cases p2 : zc G' r c ↔ b = true
          · exact absurd ⟨G', h'.1, fun a d q => (ag a d q).symm, p2⟩ (h.2 r c hF p1)
          · cases b
            · simp only [Bool.false_eq_true, iff_false, Classical.not_not] at p1 p2
              exact ⟨fun _ => p2, fun _ => p1⟩
            · simp only [iff_true] at p1 p2
              exact ⟨fun q => absurd q p1, fun q => absurd q p2⟩
      · exact ho r c hF
  apply zc_ext
  intro r c
  by_cases hc : c < 8
  · exact key _ r c hc (Nat.lt_succ_self _)
  · exact ⟨fun z => absurd z.2.1 hc, fun z => absurd z.2.1 hc⟩
theorem fit_brd {P : Pic} (ok : okP P) {y : Int64} (h : fitC P y) : brd y := (brd_iff y).mpr (fun r c q => by have := h.1 r c q; have := ok.2.1; have := ok.2.2.2.1; omega)
theorem settle_code {μ : Mem} {P : Pic} (ok : okP P) (hK : fitC P (μ.2.1 6 1)) (hF : ∀ r c, zc (μ.2.1 6 2) r c → r < nR P ∧ c < nC P) (b : Bool) :
    ∃ μ', F_X2_settle (i3 (b2 b)) μ = rV μ' ∧ fr [6, 12] μ μ' ∧ grd P (zc (μ.2.1 6 2)) b (μ'.2.1 6 1) ∧ ∀ r c, ¬ zc (μ.2.1 6 2) r c → (zc (μ'.2.1 6 1) r c ↔ zc (μ.2.1 6 1) r c) := by
  have o1 := ok.2.1
  have o2 := ok.2.2.2.1
  generalize hf : μ.2.1 6 2 = F at hF
  generalize hk : μ.2.1 6 1 = K at hK
  simp only [F_X2_settle]
  rw [show (0 : Int32) = i3 ((0 : Nat) : Int) from l3_0]
  refine loop_st (σ := Mem) (fun n i s => f_X2_settle_2 n (i3 (b2 b)) (i3 i) s)
    (fun i s => fr [6, 12] μ s ∧ fitC P (s.2.1 6 1) ∧ (∀ r c, ¬ zc F r c → (zc (s.2.1 6 1) r c ↔ zc K r c)) ∧ (∀ r c, zc (s.2.1 6 2) r c ↔ zc F r c ∧ i ≤ 8 * r + c) ∧
      ∀ r c, zc F r c → 8 * r + c < i → ¬ (zc (s.2.1 6 1) r c ↔ b = true) → ¬ ∃ y, fitC P y ∧ (∀ a d, (¬ zc F a d ∨ 8 * a + d < 8 * r + c) → (zc y a d ↔ zc (s.2.1 6 1) a d)) ∧ (zc y r c ↔ b = true))
    (fun o => ∃ μ', o = rV μ' ∧ fr [6, 12] μ μ' ∧ grd P (zc F) b (μ'.2.1 6 1) ∧ ∀ r c, ¬ zc F r c → (zc (μ'.2.1 6 1) r c ↔ zc K r c)) 48 ?_ ?_ BIG 0 μ (by decide) (BIG_lt (by decide))
    ⟨fr_rf _ _, by rw [hk]; exact hK, fun r c _ => by rw [hk], fun r c => by rw [hf]; exact ⟨fun q => ⟨q, by omega⟩, fun q => q.1⟩, fun r c _ q => by omega⟩
  · rintro n s ⟨h1, h2, h3, h4, h5⟩
    simp only [f_X2_settle_2, l3_48]
    rw [if_pos (le3 (by omega))]
    exact ⟨s, rfl, h1, ⟨h2, fun r c q => h5 r c q (by have := hF r c q; omega)⟩, h3⟩
  · rintro n i s hi ⟨h1, h2, h3, h4, h5⟩
    left
    have e8 : 8 * (i / 8) + i % 8 = i := by omega
    have hbv : shlL (1 : Int64) (i3 (i : Int)) = bv (8 * (i / 8) + i % 8) := by rw [e8]; rfl
    have r8 : i / 8 < 8 := by omega
    have c8 : i % 8 < 8 := by omega
    simp only [f_X2_settle_2, l3_48, hbv, lt_k, f_X2_settle_28, inc3, bit_test r8 c8]
    rw [if_neg (nle3 (by omega))]
    by_cases hz : tb (s.2.1 6 2) (8 * (i / 8) + i % 8) = true
    · have hzF := (tb_iff r8 c8).mp hz
      have hin := (h4 _ _).mp hzF
      have hbd := hF _ _ hin.1
      have hs1 : fr [6, 12] μ (sJ s 6 2 (s.2.1 6 2 &&& (bv (8 * (i / 8) + i % 8) ^^^ (-1 : Int64)))) := fr_tr h1 (fr_sJ (by simp))
      have hcell : (sJ s 6 2 (s.2.1 6 2 &&& (bv (8 * (i / 8) + i % 8) ^^^ (-1 : Int64)))).2.1 6 1 = s.2.1 6 1 := by rw [sJ_21, up2_j _ _ _ _ _ (by decide)]
      have hfree : (sJ s 6 2 (s.2.1 6 2 &&& (bv (8 * (i / 8) + i % 8) ^^^ (-1 : Int64)))).2.1 6 2 = s.2.1 6 2 &&& (bv (8 * (i / 8) + i % 8) ^^^ (-1 : Int64)) := by rw [sJ_21, up2_same]
      have hfr : ∀ r c, zc (s.2.1 6 2 &&& (bv (8 * (i / 8) + i % 8) ^^^ (-1 : Int64))) r c ↔ zc F r c ∧ i + 1 ≤ 8 * r + c := by
        intro r c
        rw [zc_rem, h4, zc_bv (by omega)]
        constructor
        · rintro ⟨⟨q1, q2⟩, q3⟩
          have := q1.2.1
          exact ⟨q1, by omega⟩
        · rintro ⟨q1, q2⟩
          exact ⟨⟨q1, by omega⟩, by omega⟩
      generalize sJ s 6 2 (s.2.1 6 2 &&& (bv (8 * (i / 8) + i % 8) ^^^ (-1 : Int64))) = s1 at hs1 hcell hfree ⊢
      -- the cell is as wanted already
      have asis : (zc (s.2.1 6 1) (i / 8) (i % 8) ↔ b = true) → fr [6, 12] μ s1 ∧ fitC P (s1.2.1 6 1) ∧ (∀ r c, ¬ zc F r c → (zc (s1.2.1 6 1) r c ↔ zc K r c)) ∧ (∀ r c, zc (s1.2.1 6 2) r c ↔ zc F r c ∧ i + 1 ≤ 8 * r + c) ∧
          ∀ r c, zc F r c → 8 * r + c < i + 1 → ¬ (zc (s1.2.1 6 1) r c ↔ b = true) → ¬ ∃ y, fitC P y ∧ (∀ a d, (¬ zc F a d ∨ 8 * a + d < 8 * r + c) → (zc y a d ↔ zc (s1.2.1 6 1) a d)) ∧ (zc y r c ↔ b = true) := by
        intro hq
        rw [hcell, hfree]
        refine ⟨hs1, h2, h3, hfr, fun r c q1 q2 q3 => ?_⟩
        by_cases hlt : 8 * r + c < i
        · exact h5 r c q1 hlt q3
        · have := q1.2.1
          have er : r = i / 8 := by omega
          have ec : c = i % 8 := by omega
          subst er ec
          exact absurd hq q3
      have hch := change_code (μ := s1) (by rw [hcell]; exact fit_brd ok h2) (by rw [hfree]; exact (brd_iff _).mpr (fun r c q => by have := hF r c ((hfr r c).mp q).1; omega)) (r := i / 8) (c := i % 8) (by omega) (by omega)
      rw [e8] at hch
      have step : ¬ (zc (s.2.1 6 1) (i / 8) (i % 8) ↔ b = true) → ∃ v s', F_X2_change (i3 (i : Int)) s1 = rI v s' ∧ fr [6, 12] μ s' ∧ fitC P (s'.2.1 6 1) ∧ (∀ r c, ¬ zc F r c → (zc (s'.2.1 6 1) r c ↔ zc K r c)) ∧ (∀ r c, zc (s'.2.1 6 2) r c ↔ zc F r c ∧ i + 1 ≤ 8 * r + c) ∧
          ∀ r c, zc F r c → 8 * r + c < i + 1 → ¬ (zc (s'.2.1 6 1) r c ↔ b = true) → ¬ ∃ y, fitC P y ∧ (∀ a d, (¬ zc F a d ∨ 8 * a + d < 8 * r + c) → (zc y a d ↔ zc (s'.2.1 6 1) a d)) ∧ (zc y r c ↔ b = true) := by
        intro hne
        rcases hch with ⟨s', t1, t2, t3, t4, t5, t6, t7⟩ | ⟨s', t1, t2, t3⟩
        · rw [hcell, hfree] at t4
          rw [hcell] at t5 t6 t7
          rw [hfree] at t3
          have low : ∀ a d, d < 8 → 8 * a + d < i → (zc (s'.2.1 6 1) a d ↔ zc (s.2.1 6 1) a d) := fun a d hd q => t4 a d (by omega) (fun z => by have := ((hfr a d).mp z).2; omega)
          have off : ∀ a d, ¬ zc F a d → (zc (s'.2.1 6 1) a d ↔ zc (s.2.1 6 1) a d) := fun a d q => t4 a d (fun z => q (by rw [z.1, z.2]; exact hin.1)) (fun z => q ((hfr a d).mp z).1)
          refine ⟨_, s', t1, fr_tr hs1 t2, ⟨fun r c q => ?_, fun a ha => (t6 a ha).trans (h2.2.1 a ha), fun a ha => (t7 a ha).trans (h2.2.2 a ha)⟩, fun r c q => (off r c q).trans (h3 r c q), fun r c => by rw [t3]; exact hfr r c, fun r c q1 q2 q3 => ?_⟩
          · by_cases hin2 : zc F r c
            · exact hF r c hin2
            · exact h2.1 r c ((off r c hin2).mp q)
          · by_cases hlt : 8 * r + c < i
            · rintro ⟨y, y1, y2, y3⟩
              have e0 := low r c q1.2.1 hlt
              rw [e0] at q3
              refine h5 r c q1 hlt q3 ⟨y, y1, fun a d z => (y2 a d z).trans ?_, y3⟩
              by_cases hd : d < 8
              · rcases z with z | z
                · exact off a d z
                · exact low a d hd (by omega)
              · exact ⟨fun w => absurd w.2.1 hd, fun w => absurd w.2.1 hd⟩
            · have := q1.2.1
              have er : r = i / 8 := by omega
              have ec : c = i % 8 := by omega
              subst er ec
              exfalso
              apply q3
              rw [t5]
              cases b
              · simp only [Bool.false_eq_true, iff_false, Classical.not_not] at hne ⊢
                exact hne
              · simp only [iff_true] at hne ⊢
                exact hne
        · rw [hcell, hfree] at t3
          have k1 : s'.2.1 6 1 = s.2.1 6 1 := by rw [fr_2 t2 (by simp), hcell]
          have k2 : s'.2.1 6 2 = s.2.1 6 2 &&& (bv (8 * (i / 8) + i % 8) ^^^ (-1 : Int64)) := by rw [fr_2 t2 (by simp), hfree]
          refine ⟨_, s', t1, fr_tr hs1 (fr_w t2 (by simp)), ?_⟩
          rw [k1, k2]
          refine ⟨h2, h3, hfr, fun r c q1 q2 q3 => ?_⟩
          by_cases hlt : 8 * r + c < i
          · exact h5 r c q1 hlt q3
          · have := q1.2.1
            have er : r = i / 8 := by omega
            have ec : c = i % 8 := by omega
            subst er ec
            rintro ⟨y, y1, y2, y3⟩
            have := t3 y (fit_brd ok y1) (fun a ha => (y1.2.1 a ha).trans (h2.2.1 a ha).symm) (fun a ha => (y1.2.2 a ha).trans (h2.2.2 a ha).symm) (fun a d z1 z2 => y2 a d (by
              by_cases hfa : zc F a d
              · right
                have h8 := hfa.2.1
                rw [hfr] at z2
                have : ¬ i + 1 ≤ 8 * a + d := fun q => z2 ⟨hfa, q⟩
                omega
              · exact Or.inl hfa))
            exact q3 (this.symm.trans y3)
      have bi : ∀ d : Bool, (tb (s.2.1 6 1) (8 * (i / 8) + i % 8) = d) → (i3 (b2 d) = i3 (b2 b) ↔ (zc (s.2.1 6 1) (i / 8) (i % 8) ↔ b = true)) := by
        intro d hd
        rw [← tb_iff r8 c8, hd]
        cases d <;> cases b <;> decide
      simp only [if_pos hz]
      cases hc1 : tb (s.2.1 6 1) (8 * (i / 8) + i % 8)
      · rw [if_neg (by decide), show (0 : Int32) = i3 (b2 false) from l3_0]
        by_cases hq : zc (s.2.1 6 1) (i / 8) (i % 8) ↔ b = true
        · rw [if_pos ((bi false hc1).mpr hq)]
          exact ⟨s1, asis hq, rfl⟩
        · rw [if_neg (fun z => hq ((bi false hc1).mp z))]
          obtain ⟨v, s', g1, g2⟩ := step hq
          rw [g1, cI_k]
          exact ⟨s', g2, rfl⟩
      · rw [if_pos rfl, show (1 : Int32) = i3 (b2 true) from l3_1]
        by_cases hq : zc (s.2.1 6 1) (i / 8) (i % 8) ↔ b = true
        · rw [if_pos ((bi true hc1).mpr hq)]
          exact ⟨s1, asis hq, rfl⟩
        · rw [if_neg (fun z => hq ((bi true hc1).mp z))]
          obtain ⟨v, s', g1, g2⟩ := step hq
          rw [g1, cI_k]
          exact ⟨s', g2, rfl⟩
    · have same : fr [6, 12] μ s ∧ fitC P (s.2.1 6 1) ∧ (∀ r c, ¬ zc F r c → (zc (s.2.1 6 1) r c ↔ zc K r c)) ∧ (∀ r c, zc (s.2.1 6 2) r c ↔ zc F r c ∧ i + 1 ≤ 8 * r + c) ∧
          ∀ r c, zc F r c → 8 * r + c < i + 1 → ¬ (zc (s.2.1 6 1) r c ↔ b = true) → ¬ ∃ y, fitC P y ∧ (∀ a d, (¬ zc F a d ∨ 8 * a + d < 8 * r + c) → (zc y a d ↔ zc (s.2.1 6 1) a d)) ∧ (zc y r c ↔ b = true) := by
        have hno : ∀ r c, zc F r c → ¬ 8 * r + c = i := by
          intro r c q e
          have h8 := q.2.1
          apply hz
          have : zc (s.2.1 6 2) r c := (h4 r c).mpr ⟨q, by omega⟩
          rw [e8, ← e]
          exact this.2.2
        refine ⟨h1, h2, h3, fun r c => ?_, fun r c q1 q2 q3 => h5 r c q1 (by have := hno r c q1; omega) q3⟩
        rw [h4]
        constructor
        · rintro ⟨q1, q2⟩
          have := hno r c q1
          exact ⟨q1, by omega⟩
        · rintro ⟨q1, q2⟩
          exact ⟨q1, by omega⟩
      simp only [if_neg hz]
      refine ⟨s, same, ?_⟩
      split <;> rfl
