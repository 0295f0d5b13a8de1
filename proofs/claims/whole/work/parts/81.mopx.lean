/-! exchange, wantAll on both sides -/
theorem crn_in {P : Pic} {r s c d : Nat} (hs : s < nR P) (hd : d < nC P) (hr : r < nR P) (hc : c < nC P) (h6 : nR P ≤ 6) (h6' : nC P ≤ 6) (hX : ∀ a b, zc (fX P) a b → a < nR P ∧ b < nC P) : ∀ a b, zc (fX P ^^^ crn r s c d) a b → a < nR P ∧ b < nC P := by
  intro a b q
  rw [zc_xor, zc_crn (by omega) (by omega) (by omega) (by omega)] at q
  rcases q with q | q
  · exact hX a b q.1
  · omega
theorem op_exchange {μ : Mem} {A : Ab} (h : cInv μ A) {r s c d : Int} (hr : inZ r) (hs : inZ s) (hc : inZ c) (hd : inZ d) : opOK A [eIdx, eArg, eSta] μ (F_X7_exchange (i3 r) (i3 s) (i3 c) (i3 d) μ) (F_X8_exchange (i3 r) (i3 s) (i3 c) (i3 d)) := by
  have ok := h.2.1
  have o1 := ok.2.1
  have o2 := ok.2.2.2.1
  have idx : ∀ y, mInv y A → ∃ w z, f_X8_exchange_24 (i3 r) (i3 s) (i3 c) (i3 d) (0 : Int32) y = rI w z ∧ frm y z ∧ z.1 29 8 = i3 ((0 + 1 : Nat) : Int) ∧ mInv z A := by
    intro y hy
    obtain ⟨t1, t2, t3⟩ := thr hy (1 : Int32)
    refine ⟨0, sI y 29 8 (1 : Int32), ?_, t1, by rw [t3]; decide, t2⟩
    simp only [f_X8_exchange_24, if_true, f_X8_exchange_68, lt_k, t3, if_neg jz1]
  by_cases q1 : (0 ≤ r ∧ r < nR (aP A)) ∧ 0 ≤ c ∧ c < nC (aP A)
  · by_cases q2 : (0 ≤ s ∧ s < nR (aP A)) ∧ 0 ≤ d ∧ d < nC (aP A)
    · have cx : F_X8_exchange (i3 r) (i3 s) (i3 c) (i3 d) = F_X8_exchange (i3 r) (i3 s) (i3 c) (i3 d) := rfl
      have ms : ∀ y, mInv y A → F_X8_exchange (i3 r) (i3 s) (i3 c) (i3 d) y = f_X8_exchange_24 (i3 r) (i3 s) (i3 c) (i3 d) (1 : Int32) y := fun y hy => by
        simp only [F_X8_exchange, mCell hy.1 ok hr hc, mCell hy.1 ok hs hd, if_pos q1, if_pos q2, cI_k, if_neg iz1]
      have arg : (s ≤ r ∨ d ≤ c) → opOK A [eIdx, eArg, eSta] μ (F_X7_exchange (i3 r) (i3 s) (i3 c) (i3 d) μ) (F_X8_exchange (i3 r) (i3 s) (i3 c) (i3 d)) := fun qq => by
        refine op_err (frc_rf μ) h eArg 1 ?_ rfl (fun y hy => ?_)
        · simp only [F_X7_exchange, chk_cell h hr hc, chk_cell h hs hd, if_pos q1, if_pos q2, cV_k]
          by_cases e : s ≤ r
          · rw [if_pos (le3 (by omega))]
          · rw [if_neg (nle3 (by omega)), if_neg (nlt3 (by omega))]
        · obtain ⟨t1, t2, t3⟩ := thr hy (2 : Int32)
          refine ⟨0, sI y 29 8 (2 : Int32), ?_, t1, by rw [t3]; decide, t2⟩
          rw [ms y hy]
          simp only [f_X8_exchange_24, if_neg jz1, f_X8_exchange_68, lt_k, t3, if_neg jz2]
          by_cases e : s ≤ r
          · rw [if_pos (le3 (by omega))]
          · rw [if_neg (nle3 (by omega)), if_neg (nlt3 (by omega))]
      by_cases q3 : s ≤ r
      · exact arg (Or.inl q3)
      · by_cases q4 : d ≤ c
        · exact arg (Or.inr q4)
        · obtain ⟨r, rfl, hr'⟩ := natZ q1.1
          obtain ⟨c, rfl, hc'⟩ := natZ q1.2
          obtain ⟨s, rfl, hs'⟩ := natZ q2.1
          obtain ⟨d, rfl, hd'⟩ := natZ q2.2
          have n3 : ¬ i3 (s : Int) ≤ i3 (r : Int) := nle3 (by omega)
          have n4 : i3 (c : Int) < i3 (d : Int) := lt3 (by omega)
          by_cases p : of4 (aP A) r s c d = true
          · obtain ⟨s1, w1, w2, w3, w4⟩ := remember_code h.2.2.1 h.1 h.2.1
            obtain ⟨s1', w1', w2', w3'⟩ := cRem h
            have e : s1 = s1' := by
              rw [w1] at w1'
              have := Option.some.inj w1'
              simpa using this
            subst e
            have hin := crn_in hs' hd' hr' hc' o1 o2 ok.2.2.2.2.1
            have okN := okX ok hin
            have hP2 := CP_X w4 (fX (aP A) ^^^ crn r s c d)
            obtain ⟨n, x1, x2, x3⟩ := countPieces_code (brdX ok hin) (sJ s1 2 2 (fX (aP A) ^^^ crn r s c d))
            refine ⟨_, frc_tr w2' (frc_of (W := [2]) (fr_sJ (by simp)) (by simp)), Or.inl ⟨i3 n, setP (remA A) (mkX (aP A) (fX (aP A) ^^^ crn r s c d)), ?_, cInv_P w3' (fr_sJ (by simp)) hP2 okN, fun y hy => ?_⟩⟩
            · have h22 : (sJ s1 2 2 (fX (aP A) ^^^ crn r s c d)).2.1 2 2 = fX (aP A) ^^^ crn r s c d := hP2.2.2.1
              simp only [F_X7_exchange, chk_cell h hr hc, chk_cell h hs hd, if_pos q1, if_pos q2, cV_k, if_neg n3, if_pos n4, canExchange_code h.1 (show r < 8 by omega) (show s < 8 by omega) (show c < 8 by omega) (show d < 8 by omega) (show ¬ r = s by omega) (show ¬ c = d by omega), p, b2_t, cI_k, if_neg iz1, w1, corners_code, cJ_k, lt_k, w4.2.2.1, h22, x1]
            · obtain ⟨t1, t2, t3⟩ := thr hy (0 : Int32)
              obtain ⟨u, v1, v2, v3, v4⟩ := mRem t2
              obtain ⟨z, y1, y2, y3⟩ := mTurns4 v4.1 (show r < 6 by omega) (show s < 6 by omega) (show c < 6 by omega) (show d < 6 by omega) (show ¬ r = s by omega) (show ¬ c = d by omega)
              obtain ⟨n', z', g1, g2, g3, -⟩ := mLaysPieces y3 okN
              have en := npc_inj g3 x2
              subst en
              have hz := mInv_P v4 y2 y3
              obtain ⟨m1, m2, m3⟩ := m_scr hz g2 (by simp)
              refine ⟨z', ?_, frm_tr t1 (frm_tr v2 (frm_tr (frm_of y2 (by simp)) m1)), ?_, m2⟩
              · rw [ms y hy]
                simp only [f_X8_exchange_24, if_neg jz1, if_neg n3, if_pos n4, mOf4 hy.1 (show r < 6 by omega) (show s < 6 by omega) (show c < 6 by omega) (show d < 6 by omega), p, b2_t, cI_k, if_neg iz1, f_X8_exchange_68, lt_k, t3, if_true, v1, cV_k, y1, g1]
              · rw [m3, fr_1 y2 (by simp), v3 8 (by decide), t3]; rfl
          · have p' : of4 (aP A) r s c d = false := by cases w : of4 (aP A) r s c d; rfl; exact absurd w p
            refine op_err (frc_rf μ) h eSta 2 ?_ rfl (fun y hy => ?_)
            · simp only [F_X7_exchange, chk_cell h hr hc, chk_cell h hs hd, if_pos q1, if_pos q2, cV_k, if_neg n3, if_pos n4, canExchange_code h.1 (show r < 8 by omega) (show s < 8 by omega) (show c < 8 by omega) (show d < 8 by omega) (show ¬ r = s by omega) (show ¬ c = d by omega), p', b2_f, cI_k, if_pos iz0]
            · obtain ⟨t1, t2, t3⟩ := thr hy (3 : Int32)
              refine ⟨0, sI y 29 8 (3 : Int32), ?_, t1, by rw [t3]; decide, t2⟩
              rw [ms y hy]
              simp only [f_X8_exchange_24, if_neg jz1, if_neg n3, if_pos n4, mOf4 hy.1 (show r < 6 by omega) (show s < 6 by omega) (show c < 6 by omega) (show d < 6 by omega), p', b2_f, cI_k, if_pos iz0, f_X8_exchange_68, lt_k, t3, if_neg jz3]
    · refine op_err (frc_rf μ) h eIdx 0 ?_ rfl (fun y hy => ?_)
      · simp only [F_X7_exchange, chk_cell h hr hc, chk_cell h hs hd, if_pos q1, if_neg q2, cV_k, cV_x]
      · have := idx y hy
        simp only [F_X8_exchange, mCell hy.1 ok hr hc, mCell hy.1 ok hs hd, if_pos q1, if_neg q2, cI_k, if_neg iz1, if_pos iz0]
        exact this
  · refine op_err (frc_rf μ) h eIdx 0 ?_ rfl (fun y hy => ?_)
    · simp only [F_X7_exchange, chk_cell h hr hc, if_neg q1, cV_x]
    · have := idx y hy
      simp only [F_X8_exchange, mCell hy.1 ok hr hc, if_neg q1, cI_k, if_pos iz0]
      exact this
theorem op_wantAll {μ : Mem} {A : Ab} (h : cInv μ A) : opOK A [] μ (F_X7_wantAll μ) F_X8_wantAll := by
  have ok := h.2.1
  have o1 := ok.2.1
  have o2 := ok.2.2.2.1
  obtain ⟨s1, w1, w2, w3⟩ := cRem h
  obtain ⟨s2, x1, x2, x3⟩ := wantTheCounts_code w3.1 ok
  refine ⟨s2, frc_tr w2 (frc_of x3 (by simp)), Or.inl ⟨i3 (wrg (aP A)), setP (remA A) (wtc (aP A) (nR (aP A) + nC (aP A))), by simp only [F_X7_wantAll, w1, cV_k, x1, cI_k], cInv_P w3 x3 x2 (wtc_ok ok (Nat.le_refl _)).1, fun y hy => ?_⟩⟩
  obtain ⟨t1, t2, t3⟩ := thr hy (0 : Int32)
  obtain ⟨u, v1, v2, v3, v4⟩ := mRem t2
  have e8 : u.1 29 8 = i3 0 := by rw [v3 8 (by decide), t3]; rfl
  simp only [F_X8_wantAll, lt_k, v1, cV_k, mWrong v4.1 ok, cI_k]
  rw [show (0 : Int32) = i3 ((0 : Nat) : Int) from l3_0]
  refine loop_st (σ := Mem) (fun n i z => f_X8_wantAll_16 n (i3 (wrg (aP A))) (i3 i) z) (fun i z => fr [30] u z ∧ MN z (wtc (aP A) i))
    (fun o => ∃ z, o = rI (i3 (wrg (aP A))) z ∧ frm y z ∧ z.1 29 8 = i3 0 ∧ mInv z (setP (remA A) (wtc (aP A) (nR (aP A) + nC (aP A))))) (nR (aP A) + nC (aP A)) ?_ ?_ BIG 0 u (by omega) (BIG_lt (by omega)) ⟨fr_rf _ _, v4.1⟩
  · rintro n z ⟨q1, q2⟩
    have sm := wtc_same (aP A) (nR (aP A) + nC (aP A))
    have el : i3 ((nR (aP A) : Int) + (nC (aP A) : Int)) ≤ i3 ((nR (aP A) + nC (aP A) : Nat) : Int) := le3 (by omega)
    simp only [f_X8_wantAll_16, rows_code q2, cols_code q2, cI_k, sm.1, sm.2.1, i3_add, if_pos el]
    exact ⟨z, rfl, frm_tr t1 (frm_tr v2 (frm_of q1 (by simp))), by rw [fr_1 q1 (by simp)]; exact e8, mInv_P v4 q1 q2⟩
  · rintro n i z hi ⟨q1, q2⟩
    left
    have sm := wtc_same (aP A) i
    have okI := (wtc_ok ok (show i ≤ nR (aP A) + nC (aP A) by omega)).1
    have hiI : i < nR (wtc (aP A) i) + nC (wtc (aP A) i) := by rw [sm.1, sm.2.1]; exact hi
    have el : ¬ i3 ((nR (aP A) : Int) + (nC (aP A) : Int)) ≤ i3 (i : Int) := nle3 (by omega)
    obtain ⟨a, a1, a2, a3, a4⟩ := mWantAt q2 okI hiI
    have hck : ∀ K : Out, ck (inb (i3 (a : Int)) 50) K = K := fun K => ck_k (i3_in (by omega) (by decide)) K
    have hcnt := mCount q2 okI hiI
    rw [sm.1, sm.2.2.1] at hcnt
    have c0 := cnt_0 (nR (aP A)) (fX (aP A)) i
    have c6 := cnt_6 (nR (aP A)) (fX (aP A)) i
    have ec : i3 (cnt (nR (aP A)) (fX (aP A)) i) = i3 (((cnt (nR (aP A)) (fX (aP A)) i).toNat : Nat) : Int) := by congr 1; omega
    simp only [f_X8_wantAll_16, rows_code q2, cols_code q2, cI_k, sm.1, sm.2.1, i3_add, if_neg el, a1, hcnt, hck, clampN (show a < 2147483648 by omega), lt_k, inc3]
    refine ⟨_, ⟨fr_tr q1 (fr_sI (by simp)), ?_⟩, rfl⟩
    rw [ec]
    exact MN_W q2 okI (by omega) hiI a3
