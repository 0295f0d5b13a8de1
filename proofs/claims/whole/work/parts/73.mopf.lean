/-! solve, next, nearest, howMany on both sides -/
theorem c_scr {μ μ' : Mem} {A : Ab} (h : cInv μ A) (hf : fr [6, 12] μ μ') : frc μ μ' ∧ cInv μ' A :=
  ⟨frc_of hf (by simp), cInv_fr h hf (fun k hk => by simp at hk; simp; omega)⟩
theorem m_scr {W : List Nat} {s z : Mem} {A : Ab} (h : mInv s A) (hf : fr W s z) (hs : ∀ k, k ∈ W → 35 ≤ k ∧ k ≤ 47) : frm s z ∧ mInv z A ∧ ∀ j, z.1 29 j = s.1 29 j :=
  ⟨frm_of hf (fun k hk => by have := hs k hk; omega), mInv_fr h hf (fun k hk => by have := hs k hk; simp; omega), fun j => fr_1 hf (fun w => by have := hs 29 w; omega) j⟩
/-- the found picture is taken over -/
theorem m_take {s : Mem} {A : Ab} (hs : mInv s A) (ok : okP (aP A)) {G : Int64} (hG : ∀ r c, zc G r c → r < nR (aP A) ∧ c < nC (aP A)) (h44 : c44 (aP A) s G) :
    ∃ u z, F_X8_remembers (sI s 29 8 (0 : Int32)) = rV u ∧ F_X8_takesPicture u = rI (i3 (pc (fX (aP A) ^^^ G))) z ∧ frm s z ∧ z.1 29 8 = i3 0 ∧ mInv z (setP (remA A) (mkX (aP A) G)) := by
  obtain ⟨t1, t2, t3⟩ := thr hs (0 : Int32)
  obtain ⟨u, v1, v2, v3, v4⟩ := mRem t2
  have hu44 : c44 (aP A) u G := fun r c hr hc => by
    have := mRemembers t2.2.1 t2.1
    obtain ⟨u', a1, a2, -, -⟩ := this
    rw [v1] at a1
    have e : u = u' := by
      have := Option.some.inj a1
      simpa using this
    rw [e, fr_1 a2 (by simp), sI_1, up2_k _ _ _ _ _ (by decide)]
    exact h44 r c hr hc
  obtain ⟨z, x1, x2, x3⟩ := mTakes v4.1 ok hG hu44
  refine ⟨u, z, v1, ?_, frm_tr t1 (frm_tr v2 (frm_of x2 (by simp))), ?_, mInv_P v4 x2 x3⟩
  · rw [x1]
    have : G ^^^ fX (aP A) = fX (aP A) ^^^ G := zc_ext (fun r c => by rw [zc_xor, zc_xor]; exact ⟨fun q => q.elim (fun q => Or.inr ⟨q.2, q.1⟩) (fun q => Or.inl ⟨q.2, q.1⟩), fun q => q.elim (fun q => Or.inr ⟨q.2, q.1⟩) (fun q => Or.inl ⟨q.2, q.1⟩)⟩)
    rw [this]
  · rw [fr_1 x2 (by simp), v3 8 (by decide), t3]; rfl
theorem c_take {μ : Mem} {A : Ab} (h : cInv μ A) {G : Int64} (hG : ∀ r c, zc G r c → r < nR (aP A) ∧ c < nC (aP A)) (h6 : μ.2.1 6 1 = G) :
    ∃ s1, F_X3_remember 2 μ = rV s1 ∧ s1.2.1 6 1 = G ∧ F_X4_refill 2 G s1 = rI (i3 (pc (fX (aP A) ^^^ G))) (sJ s1 2 2 G) ∧ frc μ (sJ s1 2 2 G) ∧ cInv (sJ s1 2 2 G) (setP (remA A) (mkX (aP A) G)) := by
  obtain ⟨s1, w1, w2, w3, w4⟩ := remember_code h.2.2.1 h.1 h.2.1
  obtain ⟨s1', w1', w2', w3'⟩ := cRem h
  have e : s1 = s1' := by
    rw [w1] at w1'
    have := Option.some.inj w1'
    simpa using this
  subst e
  refine ⟨s1, w1, by rw [fr_2 w2 (by simp [hW])]; exact h6, refill_code w4 G, frc_tr w2' (frc_of (W := [2]) (fr_sJ (by simp)) (by simp)), cInv_P w3' (fr_sJ (by simp)) (CP_X w4 G) (okX h.2.1 hG)⟩
theorem iz1' : ¬ i3 (b2 true) = (0 : Int32) := by decide
theorem fit_in {P : Pic} {x G : Int64} (h : fitP P x G) : ∀ r c, zc G r c → r < nR P ∧ c < nC P := h.1.1
theorem solve_b {μ : Mem} {A : Ab} (h : cInv μ A) (b : Bool) : opOK A [eArg, eSta] μ (f_X7_solve_37 (i3 (b2 b)) μ) (fun s => cI (F_X8_findsFirst (i3 (b2 b)) s) (fun v μ => if v = 0 then (f_X8_solve_36 (2 : Int32) μ) else (f_X8_solve_36 (0 : Int32) μ))) := by
  have ok := h.2.1
  rcases findOutermost_code ok h.1 (by simp) b with ⟨μ1, w1, w2, w3⟩ | ⟨μ1, w1, w2, w3⟩
  · obtain ⟨k1, k2⟩ := c_scr h w2
    have hG := fit_in (isFst_fit w3)
    obtain ⟨s1, x1, x2, x3, x4, x5⟩ := c_take k2 hG rfl
    refine ⟨_, frc_tr k1 x4, Or.inl ⟨i3 (pc (fX (aP A) ^^^ μ1.2.1 6 1)), _, ?_, x5, fun s hs => ?_⟩⟩
    · simp only [f_X7_solve_37, w1, cI_k, if_neg iz1, x1, cV_k, F_X2_found, cJ_k, x2, x3]
    · obtain ⟨v, z, u1, u2, u3⟩ := mFindsFirst hs.1 ok b
      obtain ⟨m1, m2, m3⟩ := m_scr hs u2 (by simp)
      rcases u3 with ⟨rfl, G, g1, g2⟩ | ⟨rfl, g1⟩
      · have eG : G = μ1.2.1 6 1 := isFst_uni g1 w3
        rw [eG] at g2
        obtain ⟨u, z', y1, y2, y3, y4, y5⟩ := m_take m2 ok hG g2
        refine ⟨z', ?_, frm_tr m1 y3, y4, y5⟩
        have t3 := (thr m2 (0 : Int32)).2.2
        simp only [u1, cI_k, if_neg iz1, f_X8_solve_36, lt_k, t3, if_true, y1, cV_k, y2]
      · exact absurd ⟨_, isFst_fit w3⟩ g1
  · obtain ⟨k1, k2⟩ := c_scr h w2
    refine op_err k1 k2 eSta 1 ?_ rfl (fun s hs => ?_)
    · simp only [f_X7_solve_37, w1, cI_k, if_pos iz0]
    · obtain ⟨v, z, u1, u2, u3⟩ := mFindsFirst hs.1 ok b
      obtain ⟨m1, m2, m3⟩ := m_scr hs u2 (by simp)
      rcases u3 with ⟨rfl, G, g1, g2⟩ | ⟨rfl, g1⟩
      · exact absurd ⟨G, isFst_fit g1⟩ w3
      · obtain ⟨t1, t2, t3⟩ := thr m2 (2 : Int32)
        refine ⟨0, sI z 29 8 (2 : Int32), ?_, frm_tr m1 t1, by rw [t3]; decide, t2⟩
        simp only [u1, cI_k, if_pos iz0, f_X8_solve_36, lt_k, t3, if_neg jz2]
theorem op_solve {μ : Mem} {A : Ab} (h : cInv μ A) {v : Int} (hv : inZ v) : opOK A [eArg, eSta] μ (F_X7_solve (i3 v) μ) (F_X8_solve (i3 v)) := by
  have inq := fun s => sl_in hv s
  by_cases q : 0 ≤ v ∧ v < 2
  · have hb := fun b => solve_b h b
    have e : v = 0 ∨ v = 1 := by omega
    have nI : ¬ i3 0 = (1 : Int32) := by decide
    have pI : i3 1 = (1 : Int32) := by decide
    rcases e with rfl | rfl
    · have e1 : F_X7_solve (i3 0) μ = f_X7_solve_37 (i3 (b2 false)) μ := by simp only [F_X7_solve, if_pos iz0, f_X7_solve_19, if_neg nI]; rfl
      have e2 : F_X8_solve (i3 0) = (fun s => cI (F_X8_findsFirst (i3 (b2 false)) s) (fun v μ => if v = 0 then (f_X8_solve_36 (2 : Int32) μ) else (f_X8_solve_36 (0 : Int32) μ))) := funext (fun s => by
        simp only [F_X8_solve, inq, if_pos q, cI_k, if_neg iz1, if_neg nI, l3_0]; rfl)
      rw [e1, e2]; exact hb false
    · have e1 : F_X7_solve (i3 1) μ = f_X7_solve_37 (i3 (b2 true)) μ := by simp only [F_X7_solve, if_neg iz1, if_pos pI, f_X7_solve_19]; rfl
      have e2 : F_X8_solve (i3 1) = (fun s => cI (F_X8_findsFirst (i3 (b2 true)) s) (fun v μ => if v = 0 then (f_X8_solve_36 (2 : Int32) μ) else (f_X8_solve_36 (0 : Int32) μ))) := funext (fun s => by
        simp only [F_X8_solve, inq, if_pos q, cI_k, if_neg iz1, if_pos pI, l3_1]; rfl)
      rw [e1, e2]; exact hb true
  · refine op_err (frc_rf μ) h eArg 0 ?_ rfl (fun s hs => ?_)
    · have n0 : ¬ i3 v = (0 : Int32) := by rw [l3_0]; exact ne3 (by omega)
      have n1 : ¬ i3 v = (1 : Int32) := by rw [l3_1]; exact ne3 (by omega)
      simp only [F_X7_solve, if_neg n0, if_neg n1]
    · obtain ⟨t1, t2, t3⟩ := thr hs (1 : Int32)
      refine ⟨0, sI s 29 8 (1 : Int32), ?_, t1, by rw [t3]; decide, t2⟩
      simp only [F_X8_solve, inq, if_neg q, cI_k, if_pos iz0, f_X8_solve_36, lt_k, t3, if_neg jz1]
theorem op_next {μ : Mem} {A : Ab} (h : cInv μ A) : opOK A [eSta] μ (F_X7_next μ) F_X8_next := by
  have ok := h.2.1
  rcases findBehind_code ok h.1 (by simp) with ⟨μ1, w1, w2, w3⟩ | ⟨μ1, w1, w2, w3⟩
  · obtain ⟨k1, k2⟩ := c_scr h w2
    have hG := fit_in (nxt_fit w3 (x0 := fX (aP A)) (fun _ _ _ => Iff.rfl))
    obtain ⟨s1, x1, x2, x3, x4, x5⟩ := c_take k2 hG rfl
    refine ⟨_, frc_tr k1 x4, Or.inl ⟨i3 (pc (fX (aP A) ^^^ μ1.2.1 6 1)), _, ?_, x5, fun s hs => ?_⟩⟩
    · simp only [F_X7_next, w1, cI_k, if_neg iz1, x1, cV_k, F_X2_found, cJ_k, x2, x3]
    · obtain ⟨v, z, u1, u2, u3⟩ := mFindsBehind hs.1 ok
      obtain ⟨m1, m2, m3⟩ := m_scr hs u2 (by simp)
      rcases u3 with ⟨rfl, G, g1, g2⟩ | ⟨rfl, g1⟩
      · have eG : G = μ1.2.1 6 1 := nxt_uni ok g1 w3
        rw [eG] at g2
        obtain ⟨u, z', y1, y2, y3, y4, y5⟩ := m_take m2 ok hG g2
        refine ⟨z', ?_, frm_tr m1 y3, y4, y5⟩
        have t3 := (thr m2 (0 : Int32)).2.2
        simp only [F_X8_next, u1, cI_k, if_neg iz1, f_X8_next_13, lt_k, t3, if_true, y1, cV_k, y2]
      · exact absurd g1 (nxt_nno w3)
  · obtain ⟨k1, k2⟩ := c_scr h w2
    refine op_err k1 k2 eSta 0 ?_ rfl (fun s hs => ?_)
    · simp only [F_X7_next, w1, cI_k, if_pos iz0]
    · obtain ⟨v, z, u1, u2, u3⟩ := mFindsBehind hs.1 ok
      obtain ⟨m1, m2, m3⟩ := m_scr hs u2 (by simp)
      rcases u3 with ⟨rfl, G, g1, g2⟩ | ⟨rfl, g1⟩
      · exact absurd w3 (nxt_nno g1)
      · obtain ⟨t1, t2, t3⟩ := thr m2 (1 : Int32)
        refine ⟨0, sI z 29 8 (1 : Int32), ?_, frm_tr m1 t1, by rw [t3]; decide, t2⟩
        simp only [F_X8_next, u1, cI_k, if_pos iz0, f_X8_next_13, lt_k, t3, if_neg jz1]
theorem frm_fq {s z : Mem} (h : fq s z) : frm s z := frm_of h.1 (by simp)
theorem op_howMany {μ : Mem} {A : Ab} (h : cInv μ A) : opOK A [] μ (F_X7_howMany μ) F_X8_howMany := by
  have ok := h.2.1
  obtain ⟨m, μ1, w1, w2, w3⟩ := countFitting_code ok h.1
  obtain ⟨k1, k2⟩ := c_scr h w2
  refine ⟨μ1, k1, Or.inl ⟨i3 ((m : Nat) : Int), A, by simp only [F_X7_howMany, w1, cI_k], k2, fun s hs => ?_⟩⟩
  obtain ⟨t1, t2, t3⟩ := thr hs (0 : Int32)
  obtain ⟨m', z, u1, u2, u3, u4, u5⟩ := mGoes t2.1 ok
  have em : m' = m := cntF_uni u3 w3
  subst em
  refine ⟨z, by simp only [F_X8_howMany, lt_k, u1, cI_k], frm_tr t1 (frm_fq u2), by rw [u2.2 8 (by decide), t3]; rfl, mInv_fq t2 u2⟩
theorem op_nearest {μ : Mem} {A : Ab} (h : cInv μ A) : opOK A [eSta] μ (F_X7_nearest μ) F_X8_nearest := by
  have ok := h.2.1
  obtain ⟨m, μ1, w1, w2, w3⟩ := countFitting_code ok h.1
  obtain ⟨k1, k2⟩ := c_scr h w2
  have h100 := w3.1
  have fin : ∀ s, mInv s A → (m = 0 ∨ m = 100) → ∃ w z, F_X8_nearest s = rI w z ∧ frm s z ∧ z.1 29 8 = i3 ((0 + 1 : Nat) : Int) ∧ mInv z A := by
    intro s hs hm
    obtain ⟨m', z, u1, u2, u3, u4, u5⟩ := mGoes hs.1 ok
    have em : m' = m := cntF_uni u3 w3
    subst em
    obtain ⟨t1, t2, t3⟩ := thr (mInv_fq hs u2) (1 : Int32)
    refine ⟨0, sI z 29 8 (1 : Int32), ?_, frm_tr (frm_fq u2) t1, by rw [t3]; decide, t2⟩
    simp only [F_X8_nearest, u1, cI_k]
    rcases hm with rfl | rfl
    · have e : i3 ((0 : Nat) : Int) = (0 : Int32) := by decide
      rw [if_pos e]; simp only [f_X8_nearest_21, lt_k, t3, if_neg jz1]
    · have e : ¬ i3 ((100 : Nat) : Int) = (0 : Int32) := by decide
      have e2 : i3 ((100 : Nat) : Int) = (100 : Int32) := by decide
      rw [if_neg e, if_pos e2]; simp only [f_X8_nearest_21, lt_k, t3, if_neg jz1]
  by_cases q0 : m = 0
  · refine op_err k1 k2 eSta 0 ?_ rfl (fun s hs => fin s hs (Or.inl q0))
    have l : i3 (m : Int) < (1 : Int32) := by rw [l3_1]; exact lt3 (by omega)
    simp only [F_X7_nearest, w1, cI_k, if_pos l]
  · have nl : ¬ i3 (m : Int) < (1 : Int32) := by rw [l3_1]; exact nlt3 (by omega)
    by_cases q1 : m = 100
    · refine op_err k1 k2 eSta 0 ?_ rfl (fun s hs => fin s hs (Or.inr q1))
      have l : ¬ i3 (m : Int) < (100 : Int32) := by rw [l3_100]; exact nlt3 (by omega)
      simp only [F_X7_nearest, w1, cI_k, if_neg nl, if_neg l]
    · have l : i3 (m : Int) < (100 : Int32) := by rw [l3_100]; exact lt3 (by omega)
      obtain ⟨v, μ2, x1, x2, x3⟩ := leastDistance_code ok k2.1 w3 (by omega) (by omega)
      obtain ⟨k3, k4⟩ := c_scr k2 x2
      refine ⟨μ2, frc_tr k1 k3, Or.inl ⟨i3 v, A, by simp only [F_X7_nearest, w1, cI_k, if_neg nl, if_pos l, x1], k4, fun s hs => ?_⟩⟩
      obtain ⟨m', z, u1, u2, u3, u4, u5⟩ := mGoes hs.1 ok
      have em : m' = m := cntF_uni u3 w3
      subst em
      obtain ⟨v', y1, y2⟩ := u5 (by omega) (by omega)
      have ev : v' = v := isNear_uni y2 x3
      subst ev
      obtain ⟨t1, t2, t3⟩ := thr (mInv_fq hs u2) (0 : Int32)
      refine ⟨sI z 29 8 (0 : Int32), ?_, frm_tr (frm_fq u2) t1, by rw [t3]; rfl, t2⟩
      have n0 : ¬ i3 (m' : Int) = (0 : Int32) := by rw [l3_0]; exact ne3 (by omega)
      have n1 : ¬ i3 (m' : Int) = (100 : Int32) := by rw [l3_100]; exact ne3 (by omega)
      have e20 : (sI z 29 8 (0 : Int32)).1 29 20 = i3 v' := by rw [sI_1, up2_a, if_neg (by decide)]; exact y1
      simp only [F_X8_nearest, u1, cI_k, if_neg n0, if_neg n1, f_X8_nearest_21, lt_k, t3, if_true, e20]
