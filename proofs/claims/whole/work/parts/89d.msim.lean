/-! simulate on both sides -/
theorem u33 (x : Int64) : ∃ n : Nat, Int64.toInt32 (ushrL x (33 : Int32)) = i3 (n : Int) ∧ n < 2147483648 := by
  have h64 : x.toBitVec.toNat < 2 ^ 64 := x.toBitVec.isLt
  have hlt : x.toBitVec.toNat / 2 ^ 33 < 2147483648 := by omega
  refine ⟨x.toBitVec.toNat / 2 ^ 33, ?_, hlt⟩
  have e := ushrL_nat x (k := 33) (by decide)
  rw [show (33 : Int32) = i3 ((33 : Nat) : Int) from by decide]
  apply Int32.toBitVec_inj.1
  apply BitVec.eq_of_toNat_eq
  rw [Int64.toBitVec_toInt32]
  unfold i3
  rw [Int32.toBitVec_ofInt, BitVec.ofInt_natCast, BitVec.toNat_ofNat, BitVec.signExtend_eq_setWidth_of_le _ (by decide), BitVec.toNat_setWidth]
  unfold i3 at e
  rw [e]
/-- the next number of the row, and which exchange it tells -/
abbrev lcg (x : Int64) : Int64 := (x * (6364136223846793005 : Int64)) + (1442695040888963407 : Int64)
def sJx (x : Int64) (c : Int) : Nat := (remI (Int64.toInt32 (ushrL x (33 : Int32))) (i3 c)).toInt.toNat
theorem sJx_eq (x : Int64) {c : Int} (hc : 0 < c ∧ c ≤ 1296) : remI (Int64.toInt32 (ushrL x (33 : Int32))) (i3 c) = i3 (sJx x c) ∧ (sJx x c : Int) < c := by
  obtain ⟨n, hn, hl⟩ := u33 x
  have h0 : 0 ≤ (n : Int) % c := Int.emod_nonneg _ (by omega)
  have h1 : (n : Int) % c < c := Int.emod_lt_of_pos _ (by omega)
  unfold sJx
  rw [hn, i3_rem (by omega) (by omega), i3_toInt (by omega) (by omega), Int.toNat_of_nonneg h0]
  exact ⟨rfl, h1⟩
noncomputable def sm (P : Pic) (a0 : Int64) : Nat → Int64 × Int64
  | 0 => (a0, fX P)
  | i + 1 => if cex (mkX P (sm P a0 i).2) 1296 ≤ 0 then (lcg (sm P a0 i).1, (sm P a0 i).2) else (lcg (sm P a0 i).1, xk (mkX P (sm P a0 i).2) (exK (mkX P (sm P a0 i).2) (sJx (lcg (sm P a0 i).1) (cex (mkX P (sm P a0 i).2) 1296))))
theorem sm_ok {P : Pic} (ok : okP P) (a0 : Int64) {μ : Mem} (hex : ∀ (Q : Pic) (i : Nat), okP Q → (i : Int) < cex Q 1296 → ∃ v, isEx Q i v) (i : Nat) : okP (mkX P (sm P a0 i).2) := by
  induction i with
  | zero => exact ok
  | succ i ih =>
    by_cases c : cex (mkX P (sm P a0 i).2) 1296 ≤ 0
    · rw [sm, if_pos c]; exact ih
    · rw [sm, if_neg c]
      have hb := cex_bd (mkX P (sm P a0 i).2)
      have hj := (sJx_eq (lcg (sm P a0 i).1) (c := cex (mkX P (sm P a0 i).2) 1296) (by omega)).2
      obtain ⟨v, hv⟩ := hex _ _ ih hj
      obtain ⟨e1, e2, e3⟩ := exK_eq hv hj
      exact okX ih (crk_in ih e3)
/-- what simulate answers -/
noncomputable def smV (f : Int64) : Int32 := (100 : Int32) * i3 (npN f : Int) + i3 (outl f f)
theorem sm_hex (μ : Mem) (Q : Pic) (i : Nat) (ok : okP Q) (hi : (i : Int) < cex Q 1296) : ∃ v, isEx Q i v := by
  have hc := cex_bd Q
  have m0 : CP (sJ (sJ (sJ (sJ (sI (sI μ 2 0 (i3 (nR Q))) 2 1 (i3 (nC Q))) 2 2 (fX Q)) 2 3 (fP Q)) 2 4 (wU Q)) 2 5 (wV Q)) 2 Q := by
    refine ⟨?_, ?_, ?_, ?_, ?_, ?_⟩ <;> simp [sI_1, sI_2, sJ_1, sJ_21, up2_a]
  obtain ⟨v, -, w⟩ := exchangeNumbered_code m0 ok (i := i) (by omega) (by omega)
  exact ⟨v, w⟩
theorem sm_c {μ : Mem} {P : Pic} (h : CP μ 3 P) (ok : okP P) (a0 : Int64) {N : Nat} (hN : N < 100) : ∃ z, f_X7_simulate_39 BIG (i3 (N : Int)) a0 (0 : Int32) μ = rI (smV (sm P a0 N).2) z ∧ fr [3] μ z := by
  have oks : ∀ i, okP (mkX P (sm P a0 i).2) := fun i => sm_ok ok a0 (μ := μ) (sm_hex μ) i
  rw [show f_X7_simulate_39 BIG (i3 (N : Int)) a0 (0 : Int32) μ = f_X7_simulate_39 BIG (i3 (N : Int)) (sm P a0 0).1 (i3 ((0 : Nat) : Int)) μ from by rw [sm]; rfl]
  refine loop_st (σ := Mem) (fun n i z => f_X7_simulate_39 n (i3 (N : Int)) (sm P a0 i).1 (i3 i) z) (fun i z => fr [3] μ z ∧ CP z 3 (mkX P (sm P a0 i).2))
    (fun o => ∃ z, o = rI (smV (sm P a0 N).2) z ∧ fr [3] μ z) N ?_ ?_ BIG 0 μ (by omega) (BIG_lt (by omega)) ⟨fr_rf _ _, by rw [sm]; exact h⟩
  · rintro n z ⟨q1, q2⟩
    have okN := oks N
    have hb := brdX okN okN.2.2.2.2.1
    obtain ⟨n', y1, y2, y3⟩ := countPieces_code hb z
    refine ⟨z, ?_, q1⟩
    have hX := q2.2.2.1
    simp only [f_X7_simulate_39]
    rw [if_pos (le3 (by omega)), hX, y1, cI_k, hX, outline_code hb hb, cI_k]
    unfold smV
    rw [npN_eq y2]
  · rintro n i z hi ⟨q1, q2⟩
    left
    have okN := oks i
    have c0 := cex_nn (mkX P (sm P a0 i).2) 1296
    have c1 := cex_bd (mkX P (sm P a0 i).2)
    have hX := q2.2.2.1
    simp only [f_X7_simulate_39]
    rw [if_neg (nle3 (by omega)), lt_k, lt_k, countExchanges_code q2 okN, cI_k]
    by_cases c : cex (mkX P (sm P a0 i).2) 1296 ≤ 0
    · refine ⟨z, ⟨q1, ?_⟩, ?_⟩
      · rw [sm, if_pos c]; exact q2
      · rw [if_pos (by rw [l3_0]; exact le3 (by omega)), lt_k, inc3, sm, if_pos c]
    · obtain ⟨j1, j2⟩ := sJx_eq (lcg (sm P a0 i).1) (c := cex (mkX P (sm P a0 i).2) 1296) (by omega)
      obtain ⟨v, w1, w2⟩ := exchangeNumbered_code q2 okN (i := (sJx (lcg (sm P a0 i).1) (cex (mkX P (sm P a0 i).2) 1296) : Int)) (by omega) (by omega)
      obtain ⟨e1, e2, e3⟩ := exK_eq w2 j2
      subst e1
      refine ⟨sJ z 3 2 (xk (mkX P (sm P a0 i).2) (exK (mkX P (sm P a0 i).2) (sJx (lcg (sm P a0 i).1) (cex (mkX P (sm P a0 i).2) 1296)))), ⟨?_, ?_⟩, ?_⟩
      · exact fr_tr q1 (fr_sJ (by simp))
      · rw [sm, if_neg c]; exact CP_X q2 _
      · rw [if_neg (by rw [l3_0]; exact nle3 (by omega)), ck_k (by rw [l3_0]; exact ne3 (by omega)), j1, w1, cI_k, cornersOf_code e2, cJ_k, lt_k, lt_k, inc3, hX, sm, if_neg c]
theorem sm_m {s : Mem} {P Q : Pic} (h : MN s P) (hQ : MP s 33 0 Q) (ok : okP P) (a0 : Int64) {N : Nat} (hN : N < 100) : ∃ z, f_X8_simulate_47 BIG (i3 (N : Int)) a0 (0 : Int32) s = rI (smV (sm P a0 N).2) z ∧ fr [30, 35] s z ∧ MN z Q := by
  have oks : ∀ i, okP (mkX P (sm P a0 i).2) := fun i => sm_ok ok a0 (μ := s) (sm_hex s) i
  rw [show f_X8_simulate_47 BIG (i3 (N : Int)) a0 (0 : Int32) s = f_X8_simulate_47 BIG (i3 (N : Int)) (sm P a0 0).1 (i3 ((0 : Nat) : Int)) s from by rw [sm]; rfl]
  refine loop_st (σ := Mem) (fun n i z => f_X8_simulate_47 n (i3 (N : Int)) (sm P a0 i).1 (i3 i) z) (fun i z => fr [30, 35] s z ∧ MN z (mkX P (sm P a0 i).2))
    (fun o => ∃ z, o = rI (smV (sm P a0 N).2) z ∧ fr [30, 35] s z ∧ MN z Q) N ?_ ?_ BIG 0 s (by omega) (BIG_lt (by omega)) ⟨fr_rf _ _, by rw [sm]; exact h⟩
  · rintro n z ⟨q1, q2⟩
    have okN := oks N
    obtain ⟨n', z2, y1, y2, y3, -⟩ := mLaysPieces q2 okN
    have m2 := MN_fr q2 y2 (by simp)
    obtain ⟨z3, u1, u2, u3, u4⟩ := mCopies (s := z2) (k1 := 33) (k3 := 30) (a := 0) (b := 0) (by decide) (by decide) (by decide) (by decide) (by decide)
    have e0 : (0 : Int32) = i3 ((0 : Nat) : Int) := l3_0
    have f2 : fr [30, 35] s z2 := fr_tr q1 (fr_w y2 (by simp))
    refine ⟨z3, ?_, fr_tr f2 (fr_w u2 (by simp)), MN_copy (MP_fr hQ f2 (by simp)) u3⟩
    simp only [f_X8_simulate_47]
    rw [if_pos (le3 (by omega)), y1, cI_k, mOutline m2 okN, cI_k, lt_k]
    rw [← e0] at u1
    rw [u1, cV_k]
    unfold smV
    rw [npN_eq y3]
  · rintro n i z hi ⟨q1, q2⟩
    left
    have okN := oks i
    have c0 := cex_nn (mkX P (sm P a0 i).2) 1296
    have c1 := cex_bd (mkX P (sm P a0 i).2)
    simp only [f_X8_simulate_47]
    rw [if_neg (nle3 (by omega)), lt_k, mExCount q2 okN, cI_k]
    by_cases c : cex (mkX P (sm P a0 i).2) 1296 ≤ 0
    · refine ⟨z, ⟨q1, ?_⟩, ?_⟩
      · rw [sm, if_pos c]; exact q2
      · rw [if_pos (by rw [l3_0]; exact le3 (by omega)), lt_k, inc3, sm, if_pos c]
    · obtain ⟨j1, j2⟩ := sJx_eq (lcg (sm P a0 i).1) (c := cex (mkX P (sm P a0 i).2) 1296) (by omega)
      obtain ⟨v, w1, w2⟩ := mExAt q2 okN (i := (sJx (lcg (sm P a0 i).1) (cex (mkX P (sm P a0 i).2) 1296) : Int)) (by omega)
      obtain ⟨e1, e2, e3⟩ := exK_eq w2 j2
      subst e1
      obtain ⟨z1, x1, x2, x3⟩ := mToldO q2 e2 (exq_ord e3)
      refine ⟨z1, ⟨fr_tr q1 (fr_w x2 (by simp)), ?_⟩, ?_⟩
      · rw [sm, if_neg c]; exact x3
      · rw [if_neg (by rw [l3_0]; exact nle3 (by omega)), ck_k (by rw [l3_0]; exact ne3 (by omega)), j1, w1, cI_k, x1, cV_k, lt_k, inc3, sm, if_neg c]
theorem op_simulate {μ : Mem} {A : Ab} (h : cInv μ A) (a0 : Int64) {v : Int} (hv : inZ v) : opOK A [eArg] μ (F_X7_simulate a0 (i3 v) μ) (F_X8_simulate a0 (i3 v)) := by
  have ok := h.2.1
  have inq : ∀ s, F_X8_in (i3 v) (1 : Int32) (99 : Int32) s = rI (i3 (if 1 ≤ v ∧ v ≤ 99 then 1 else 0)) s := fun s => by rw [l3_1, l3_99]; exact in_code hv (by decide) (by decide) s
  by_cases q : 1 ≤ v ∧ v ≤ 99
  · obtain ⟨N, rfl, hN⟩ := natZ (v := v) (n := 100) (by omega)
    obtain ⟨m1, w1, w2, w3⟩ := copyFrom_code (k := 3) h.1 (by decide)
    obtain ⟨m2, x1, x2⟩ := sm_c w2 ok a0 hN
    have f : fr [3] μ m2 := fr_tr w3 x2
    refine op_val (frc_of f (by simp)) (cInv_fr h f (by simp)) (v := smV (sm (aP A) a0 N).2) ?_ (fun s hs => ?_)
    · simp only [F_X7_simulate]
      rw [if_neg (by rw [l3_1]; exact nlt3 (by omega)), if_pos (by rw [l3_99]; exact le3 (by omega)), w1, cV_k, x1]
    · obtain ⟨t1, t2, t3⟩ := thr hs (0 : Int32)
      obtain ⟨z1, u1, u2, u3, u4⟩ := mCopies (s := sI s 29 8 (0 : Int32)) (k1 := 30) (k3 := 33) (a := 0) (b := 0) (by decide) (by decide) (by decide) (by decide) (by decide)
      have e0 : (0 : Int32) = i3 ((0 : Nat) : Int) := l3_0
      rw [← e0] at u1
      have hQ : MP z1 33 0 (aP A) := RW_congr t2.1 (fun x hx => by have := u3 x hx; rw [Nat.zero_add] at this; rw [Nat.zero_add]; exact this)
      obtain ⟨z2, y1, y2, y3⟩ := sm_m (MN_fr t2.1 u2 (by simp)) hQ ok a0 hN
      have f2 : fr [30, 33, 35] (sI s 29 8 (0 : Int32)) z2 := fr_tr (fr_w u2 (by simp)) (fr_w y2 (fun k hk => by simp at hk; rcases hk with rfl | rfl <;> simp))
      refine ⟨z2, ?_, frm_tr t1 (frm_of f2 (by simp)), ?_, mInv_W t2 f2 (by simp) y3⟩
      · simp only [F_X8_simulate, inq, if_pos q, cI_k, if_neg iz1, f_X8_simulate_16, lt_k, t3, if_true, u1, cV_k, y1]
      · rw [fr_1 f2 (by simp), t3]; rfl
  · refine op_err (frc_rf μ) h eArg 0 ?_ rfl (fun s hs => ?_)
    · simp only [F_X7_simulate]
      by_cases e : v < 1
      · rw [if_pos (by rw [l3_1]; exact lt3 (by omega))]
      · rw [if_neg (by rw [l3_1]; exact nlt3 (by omega)), if_neg (by rw [l3_99]; exact nle3 (by omega))]
    · obtain ⟨t1, t2, t3⟩ := thr hs (1 : Int32)
      refine ⟨0, sI s 29 8 (1 : Int32), ?_, t1, by rw [t3]; decide, t2⟩
      simp only [F_X8_simulate, inq, if_neg q, cI_k, if_pos iz0, f_X8_simulate_16, lt_k, t3, if_neg jz1]
