/-! runScript on both sides -/
theorem lg_neg (x y : Int64) : (lg_cmp x y < 0) = (x < y) := by
  unfold lg_cmp
  apply propext
  constructor
  · intro h
    split at h
    · exact absurd h (by decide)
    · split at h
      · exact absurd h (by decide)
      · rename_i h1 h2
        have g1 : ¬ y < x := h1
        rw [Int64.lt_iff_toInt_lt] at g1 ⊢
        have : ¬ x.toInt = y.toInt := fun q => h2 (Int64.toInt_inj.mp q)
        omega
  · intro h
    rw [Int64.lt_iff_toInt_lt] at h
    split
    · rename_i h1
      have g1 : y < x := h1
      rw [Int64.lt_iff_toInt_lt] at g1
      omega
    · split
      · rename_i h1 h2
        subst h2
        omega
      · decide
theorem i6_toInt {z : Int} (h : -9223372036854775808 ≤ z ∧ z < 9223372036854775808) : (i6 z).toInt = z := Int64.toInt_ofInt_of_le (by omega) (by omega)
theorem i6_div {a b : Int} (h1 : 0 ≤ a ∧ a < 9223372036854775808) (h2 : 0 < b ∧ b < 9223372036854775808) : i6 a / i6 b = i6 (a / b) := by
  rw [← Int.tdiv_eq_ediv_of_nonneg h1.1]
  exact (Int64.ofInt_tdiv (by rw [Int64.toInt_minValue]; omega) (by rw [Int64.toInt_maxValue]; omega) (by rw [Int64.toInt_minValue]; omega) (by rw [Int64.toInt_maxValue]; omega)).symm
theorem i6_rem {a b : Int} (h1 : 0 ≤ a ∧ a < 9223372036854775808) (h2 : 0 < b ∧ b < 9223372036854775808) : remL (i6 a) (i6 b) = i6 (a % b) := by
  unfold remL
  rw [i6_div h1 h2]
  unfold i6
  rw [← Int64.ofInt_mul, ← Int64.ofInt_sub]
  congr 1
  have := Int.emod_def a b
  rw [this, Int.mul_comm]
theorem i6_of (x : Int64) : ∃ z : Int, -9223372036854775808 ≤ z ∧ z < 9223372036854775808 ∧ x = i6 z := ⟨x.toInt, by have := x.le_toInt; omega, by have := x.toInt_lt; omega, (Int64.ofInt_toInt x).symm⟩
theorem l6_0 : (0 : Int64) = i6 0 := by decide
theorem l6_1 : (1 : Int64) = i6 1 := by decide
theorem l6_10 : (10 : Int64) = i6 10 := by decide
theorem l6_e4 : (10000 : Int64) = i6 10000 := by decide
/-- the powers of ten -/
abbrev t10 (m : Nat) : Int64 := i6 ((10 ^ m : Nat) : Int)
theorem mTen {m : Nat} (hm : m < 4000) (μ : Mem) : F_X8_ten (i3 (m : Int)) μ = rJ (t10 m) μ := by
  simp only [F_X8_ten]
  rw [show (1 : Int64) = t10 0 from by decide, show (0 : Int32) = i3 ((0 : Nat) : Int) from l3_0]
  refine loop_up (fun n i => f_X8_ten_4 n (i3 (m : Int)) (t10 i) (i3 i) μ) m _ (fun n => ?_) (fun n i hi => ?_) BIG 0 (by omega) (BIG_lt (by omega))
  · simp only [f_X8_ten_4]
    rw [if_pos (le3 (by omega))]
  · have e : (10 : Int64) * t10 i = t10 (i + 1) := by
      unfold t10
      rw [l6_10]
      unfold i6
      rw [← Int64.ofInt_mul]
      congr 1
      push_cast
      rw [Int.pow_succ, Int.mul_comm]
    simp only [f_X8_ten_4]
    rw [if_neg (nle3 (by omega)), lt_k, lt_k, e, inc3]
theorem rs27 {N : Nat} (hN : N < 1000) (a : Int64) (μ : Mem) : f_X7_runScript_27 BIG (i3 (N : Int)) a (1 : Int64) (0 : Int32) μ = (if (lg_cmp a (0 : Int64)) < 0 then (rX "java/lang/IllegalArgumentException" μ) else (if (lg_cmp a (t10 (4 * N))) < 0 then (cV (F_X4_copyFrom 3 2 μ) (fun μ7 => lt (t10 (4 * N) / (10000 : Int64)) (fun v10 => f_X7_runScript_93 BIG (i3 (N : Int)) a v10 (0 : Int32) μ7))) else (rX "java/lang/IllegalArgumentException" μ))) := by
  rw [show f_X7_runScript_27 BIG (i3 (N : Int)) a (1 : Int64) (0 : Int32) μ = f_X7_runScript_27 BIG (i3 (N : Int)) a (t10 (4 * 0)) (i3 ((0 : Nat) : Int)) μ from by rw [show (1 : Int64) = t10 (4 * 0) from by decide, show (0 : Int32) = i3 ((0 : Nat) : Int) from l3_0]]
  refine loop_up (fun n i => f_X7_runScript_27 n (i3 (N : Int)) a (t10 (4 * i)) (i3 i) μ) N _ (fun n => ?_) (fun n i hi => ?_) BIG 0 (by omega) (BIG_lt (by omega))
  · simp only [f_X7_runScript_27]
    rw [if_pos (le3 (by omega))]
  · have e : t10 (4 * i) * (10000 : Int64) = t10 (4 * (i + 1)) := by
      unfold t10
      rw [l6_e4]
      unfold i6
      rw [← Int64.ofInt_mul]
      congr 1
      push_cast
      rw [show 4 * (i + 1) = 4 * i + 4 from by omega, Int.pow_add]
      congr 1
    simp only [f_X7_runScript_27]
    rw [if_neg (nle3 (by omega)), lt_k, lt_k, e, inc3]
/-- what the place i is divided by -/
def dv (N i : Nat) : Int64 := if i < N then t10 (4 * (N - 1 - i)) else 0
theorem dv_0 : ∀ N : Fin 5, 0 < N.val → t10 (4 * N.val) / (10000 : Int64) = dv N.val 0 := by decide +kernel
theorem dv_s : ∀ N i : Fin 5, i.val < N.val → dv N.val i.val / (10000 : Int64) = dv N.val (i.val + 1) := by decide +kernel
theorem dv_p : ∀ N i : Fin 5, i.val < N.val → ¬ (lg_cmp (dv N.val i.val) (0 : Int64)) ≤ 0 ∧ ¬ dv N.val i.val = 0 := by decide +kernel
theorem dv_t {N i : Nat} (h : i < N) : dv N i = t10 (4 * (N - 1 - i)) := if_pos h
theorem p10 : ∀ m : Fin 17, 0 < 10 ^ m.val ∧ 10 ^ m.val ≤ 10000000000000000 := by decide +kernel
theorem dig4 {a : Int64} (ha : ¬ lg_cmp a (0 : Int64) < 0) {N i : Nat} (hN : N ≤ 4) (hi : i < N) : ∃ d : Nat, Int64.toInt32 (remL (a / dv N i) (10000 : Int64)) = i3 (d : Int) ∧ d < 10000 := by
  obtain ⟨z, z1, z2, rfl⟩ := i6_of a
  rw [lg_neg, Int64.lt_iff_toInt_lt, l6_0, i6_toInt (by omega), i6_toInt (by omega)] at ha
  have hp := p10 ⟨4 * (N - 1 - i), by omega⟩
  simp only at hp
  rw [dv_t hi]
  unfold t10
  generalize 10 ^ (4 * (N - 1 - i)) = D at *
  have q1 : 0 ≤ z / (D : Int) := Int.ediv_nonneg (by omega) (by omega)
  have q2 : z / (D : Int) ≤ z := Int.ediv_le_self _ (by omega)
  rw [i6_div (by omega) (by omega), l6_e4, i6_rem (by omega) (by omega)]
  generalize z / (D : Int) = w at *
  refine ⟨(w % 10000).toNat, ?_, by omega⟩
  rw [Int.toNat_of_nonneg (by omega)]
  exact Int64.toInt32_ofInt
/-- the runs of both sides from the i-th order on -/
theorem rs_run {a : Int64} (ha : ¬ lg_cmp a (0 : Int64) < 0) {N : Nat} (hN : N ≤ 4) {A : Pic} (m : Nat) : ∀ (i : Nat) (n : Nat) (μ : Mem) (P : Pic), i + m = N → m < n → CP μ 3 P → okP P →
    ∃ v μ', f_X7_runScript_93 n (i3 (N : Int)) a (dv N i) (i3 (i : Int)) μ = rI v μ' ∧ fr [3, 6, 12] μ μ' ∧ ∀ (n' : Nat) (s : Mem), m + 1 < n' → MN s P → MP s 33 0 A → ∃ z, f_X8_runScript_64 n' (i3 (N : Int)) a (-9 : Int32) (i3 (i : Int)) s = rI v z ∧ fr Wr s z ∧ MN z A := by
  have back : ∀ (v : Int32) (s : Mem), MP s 33 0 A → ∃ z, f_X8_runScript_121 v s = rI v z ∧ fr Wr s z ∧ MN z A := by
    intro v s hA
    obtain ⟨z3, u1, u2, u3, u4⟩ := mCopies (s := s) (k1 := 33) (k3 := 30) (a := 0) (b := 0) (by decide) (by decide) (by decide) (by decide) (by decide)
    have e0 : (0 : Int32) = i3 ((0 : Nat) : Int) := l3_0
    rw [← e0] at u1
    refine ⟨z3, ?_, fr_w u2 (by simp), MN_copy hA u3⟩
    simp only [f_X8_runScript_121, u1, cV_k]
  induction m with
  | zero =>
    intro i n μ P hi hn hc ok
    obtain ⟨n, rfl⟩ : ∃ k, n = k + 1 := ⟨n - 1, by omega⟩
    refine ⟨(-9 : Int32), μ, ?_, fr_rf _ _, fun n' s hn' hs hA => ?_⟩
    · simp only [f_X7_runScript_93]
      rw [if_pos (le3 (by omega))]
    · obtain ⟨n', rfl⟩ : ∃ k, n' = k + 1 := ⟨n' - 1, by omega⟩
      obtain ⟨z, z1, z2, z3⟩ := back (-9 : Int32) s hA
      refine ⟨z, ?_, z2, z3⟩
      simp only [f_X8_runScript_64]
      rw [if_pos (le3 (by omega)), z1]
  | succ m ih =>
    intro i n μ P hi hn hc ok
    obtain ⟨n, rfl⟩ : ∃ k, n = k + 1 := ⟨n - 1, by omega⟩
    obtain ⟨d, d1, d2⟩ := dig4 ha hN (show i < N by omega)
    obtain ⟨p1, p2⟩ := dv_p ⟨N, by omega⟩ ⟨i, by omega⟩ (by show i < N; omega)
    have ps := dv_s ⟨N, by omega⟩ ⟨i, by omega⟩ (by show i < N; omega)
    simp only at p1 p2 ps
    obtain ⟨b, Q, μ1, s1, s2, s3, s4, s5⟩ := stepAll hc ok d2
    have e4 : (4 : Int32) * ((i3 (N : Int) - (1 : Int32)) - i3 (i : Int)) = i3 ((4 * (N - 1 - i) : Nat) : Int) := by
      rw [l3_1, l3_4, i3_sub, i3_sub, i3_mul]
      congr 1
      omega
    have mstep : ∀ (n' : Nat) (s : Mem), f_X8_runScript_64 (n' + 1) (i3 (N : Int)) a (-9 : Int32) (i3 (i : Int)) s = cI (F_X8_does (i3 (d : Int)) s) (fun v33 μ30 => if v33 = 0 then (lt (i3 (i : Int) + (1 : Int32)) (fun v35 => f_X8_runScript_64 n' (i3 (N : Int)) a (i3 (i : Int)) v35 μ30)) else (lt (i3 (i : Int) + (1 : Int32)) (fun v36 => f_X8_runScript_64 n' (i3 (N : Int)) a (-9 : Int32) v36 μ30))) := by
      intro n' s
      simp only [f_X8_runScript_64]
      rw [if_neg (nle3 (by omega)), if_pos trivial, e4, mTen (by omega), cJ_k, ← dv_t (show i < N by omega), ck_k p2, lt_k, d1]
    cases b
    · rw [ib0] at s1 s5
      refine ⟨i3 (i : Int), μ1, ?_, s2, fun n' s hn' hs hA => ?_⟩
      · simp only [f_X7_runScript_93]
        rw [if_neg (nle3 (by omega)), if_neg p1, ck_k p2, d1, s1, cI_k, if_pos rfl]
      · obtain ⟨n', rfl⟩ : ∃ k, n' = k + 2 := ⟨n' - 2, by omega⟩
        obtain ⟨z, z1, z2, z3⟩ := s5 s hs
        obtain ⟨z', y1, y2, y3⟩ := back (i3 (i : Int)) z (MP_fr hA z2 (by simp))
        refine ⟨z', ?_, fr_tr z2 y2, y3⟩
        rw [mstep, z1, cI_k, if_pos rfl, lt_k]
        simp only [f_X8_runScript_64]
        rw [if_neg (show ¬ i3 (i : Int) = (-9 : Int32) from by rw [l3_m9]; exact ne3 (by omega)), y1]
        split <;> rfl
    · rw [ib1] at s1 s5
      obtain ⟨v, μ2, w1, w2, w3⟩ := ih (i + 1) n μ1 Q (by omega) (by omega) s3 s4
      refine ⟨v, μ2, ?_, fr_tr s2 w2, fun n' s hn' hs hA => ?_⟩
      · simp only [f_X7_runScript_93]
        rw [if_neg (nle3 (by omega)), if_neg p1, ck_k p2, d1, s1, cI_k, if_neg j10, lt_k, lt_k, inc3, ps, w1]
      · obtain ⟨n', rfl⟩ : ∃ k, n' = k + 1 := ⟨n' - 1, by omega⟩
        obtain ⟨z, z1, z2, z3⟩ := s5 s hs
        obtain ⟨z', y1, y2, y3⟩ := w3 n' z (by omega) z3 (MP_fr hA z2 (by simp))
        refine ⟨z', ?_, fr_tr z2 y2, y3⟩
        rw [mstep, z1, cI_k, if_neg j10, lt_k, inc3, y1]
theorem op_runScript {μ : Mem} {A : Ab} (h : cInv μ A) {v : Int} (hv : inZ v) (a : Int64) : opOK A [eArg] μ (F_X7_runScript (i3 v) a μ) (F_X8_runScript (i3 v) a) := by
  have ok := h.2.1
  have inq : ∀ s, F_X8_in (i3 v) (1 : Int32) (4 : Int32) s = rI (i3 (if 1 ≤ v ∧ v ≤ 4 then 1 else 0)) s := fun s => by rw [l3_1, l3_4]; exact in_code hv (by decide) (by decide) s
  have bad : ∀ s, mInv s A → ∃ w z, f_X8_runScript_32 (i3 v) a (1 : Int32) s = rI w z ∧ frm s z ∧ z.1 29 8 = i3 ((0 + 1 : Nat) : Int) ∧ mInv z A := by
    intro s hs
    obtain ⟨t1, t2, t3⟩ := thr hs (1 : Int32)
    refine ⟨0, sI s 29 8 (1 : Int32), ?_, t1, by rw [t3]; decide, t2⟩
    simp only [f_X8_runScript_32, lt_k, t3, if_neg jz1]
  by_cases q : 1 ≤ v ∧ v ≤ 4
  · obtain ⟨N, rfl, hN⟩ := natZ (v := v) (n := 5) (by omega)
    have c1 : F_X7_runScript (i3 (N : Int)) a μ = f_X7_runScript_27 BIG (i3 (N : Int)) a (1 : Int64) (0 : Int32) μ := by
      simp only [F_X7_runScript]
      rw [if_neg (by rw [l3_1]; exact nlt3 (by omega)), if_pos (by rw [l3_4]; exact le3 (by omega))]
    rw [c1, rs27 (show N < 1000 by omega)]
    have e4 : (4 : Int32) * i3 (N : Int) = i3 ((4 * N : Nat) : Int) := by rw [l3_4, i3_mul]; congr 1
    by_cases n0 : lg_cmp a (0 : Int64) < 0
    · refine op_err (frc_rf μ) h eArg 0 (by rw [if_pos n0]) rfl (fun s hs => ?_)
      obtain ⟨w, z, z1, z2⟩ := bad s hs
      refine ⟨w, z, ?_, z2⟩
      simp only [F_X8_runScript, inq, if_pos q, cI_k, if_neg iz1, if_pos n0, z1]
    · by_cases n1 : lg_cmp a (t10 (4 * N)) < 0
      · obtain ⟨m1, w1, w2, w3⟩ := copyFrom_code (k := 3) h.1 (by decide)
        have d0 := dv_0 ⟨N, hN⟩ (by show 0 < N; omega)
        simp only at d0
        obtain ⟨r, m2, x1, x2, x3⟩ := rs_run n0 (show N ≤ 4 by omega) (A := aP A) N 0 BIG m1 (aP A) (by omega) (by rw [show BIG = 4096 from rfl]; omega) w2 ok
        have f : fr [3, 6, 12] μ m2 := fr_tr (fr_w w3 (by simp)) x2
        refine op_val (frc_of f (by simp)) (cInv_fr h f (by simp)) (v := r) ?_ (fun s hs => ?_)
        · rw [if_neg n0, if_pos n1, w1, cV_k, lt_k, d0]
          exact x1
        · obtain ⟨t1, t2, t3⟩ := thr hs (0 : Int32)
          obtain ⟨z1, u1, u2, u3, u4⟩ := mCopies (s := sI s 29 8 (0 : Int32)) (k1 := 30) (k3 := 33) (a := 0) (b := 0) (by decide) (by decide) (by decide) (by decide) (by decide)
          have e0 : (0 : Int32) = i3 ((0 : Nat) : Int) := l3_0
          rw [← e0] at u1
          have hQ : MP z1 33 0 (aP A) := RW_congr t2.1 (fun x hx => by have := u3 x hx; rw [Nat.zero_add] at this; rw [Nat.zero_add]; exact this)
          obtain ⟨z2, y1, y2, y3⟩ := x3 BIG z1 (by rw [show BIG = 4096 from rfl]; omega) (MN_fr t2.1 u2 (by simp)) hQ
          have f2 : fr (33 :: Wr) (sI s 29 8 (0 : Int32)) z2 := fr_tr (fr_w u2 (by simp)) (fr_w y2 (fun k hk => List.mem_cons_of_mem _ hk))
          refine ⟨z2, ?_, frm_tr t1 (frm_of f2 (by simp)), ?_, mInv_W t2 f2 (by simp) y3⟩
          · simp only [F_X8_runScript, inq, if_pos q, cI_k, if_neg iz1, if_neg n0, e4, mTen (show 4 * N < 4000 by omega), cJ_k, if_pos n1, f_X8_runScript_32, lt_k, t3, if_true, u1, cV_k]
            exact y1
          · rw [fr_1 f2 (by simp), t3]; rfl
      · refine op_err (frc_rf μ) h eArg 0 (by rw [if_neg n0, if_neg n1]) rfl (fun s hs => ?_)
        obtain ⟨w, z, z1, z2⟩ := bad s hs
        refine ⟨w, z, ?_, z2⟩
        simp only [F_X8_runScript, inq, if_pos q, cI_k, if_neg iz1, if_neg n0, e4, mTen (show 4 * N < 4000 by omega), cJ_k, if_neg n1, z1]
  · refine op_err (frc_rf μ) h eArg 0 ?_ rfl (fun s hs => ?_)
    · simp only [F_X7_runScript]
      by_cases e : v < 1
      · rw [if_pos (by rw [l3_1]; exact lt3 (by omega))]
      · rw [if_neg (by rw [l3_1]; exact nlt3 (by omega)), if_neg (by rw [l3_4]; exact nle3 (by omega))]
    · obtain ⟨w, z, z1, z2⟩ := bad s hs
      refine ⟨w, z, ?_, z2⟩
      simp only [F_X8_runScript, inq, if_neg q, cI_k, if_pos iz0, z1]
