/-! bestExchange on both sides -/
theorem mInv_W {W : List Nat} {μ μ' : Mem} {A : Ab} {Q : Pic} (h : mInv μ A) (hf : fr W μ μ') (hs : ∀ k, k ∈ W → k ∉ [29, 31, 32, 34]) (hP : MN μ' Q) : mInv μ' (setP A Q) := by
  have g : ∀ k, k ∈ [29, 31, 32, 34] → k ∉ W := fun k hk w => hs k w hk
  have g29 := g 29 (by simp)
  have g31 := g 31 (by simp)
  have g32 := g 32 (by simp)
  have g34 := g 34 (by simp)
  exact ⟨hP, ⟨(fr_1 hf g29 _).trans h.2.1.1, h.2.1.2.1, fun j hj => MP_fr (h.2.1.2.2 j hj) hf g31⟩, ⟨(fr_1 hf g29 _).trans h.2.2.1.1, fun j hj hv => MP_fr (h.2.2.1.2 j hj hv) hf g32⟩, (fr_1 hf g29 _).trans h.2.2.2.1, fun j hj => (fr_1 hf g34 _).trans (h.2.2.2.2 j hj)⟩
theorem exq_ord {P : Pic} {k : Nat} (hq : exq P k = true) : k / 216 < k / 36 % 6 ∧ k / 6 % 6 < k % 6 := by
  unfold exq at hq
  simp only [Bool.and_eq_true, decide_eq_true_eq] at hq
  exact ⟨hq.1.1, hq.1.2⟩
theorem exq_in {P : Pic} (ok : okP P) {k : Nat} (hq : exq P k = true) : k / 36 % 6 < nR P ∧ k % 6 < nC P ∧ k / 216 < nR P ∧ k / 6 % 6 < nC P := by
  have o := exq_ord hq
  unfold exq of4 at hq
  simp only [Bool.and_eq_true, decide_eq_true_eq] at hq
  have hq2 := hq.2
  generalize k / 216 = r at *
  have hs : k / 36 % 6 < 6 := Nat.mod_lt _ (by decide)
  have hd : k % 6 < 6 := Nat.mod_lt _ (by decide)
  generalize k / 36 % 6 = s at *
  generalize k / 6 % 6 = c at *
  generalize k % 6 = d at *
  have in1 : ∀ a b, a < 6 → b < 6 → tb (fX P) (8 * a + b) = true → a < nR P ∧ b < nC P := fun a b ha hb q => ok.2.2.2.2.1 a b ⟨by omega, by omega, q⟩
  cases e1 : tb (fX P) (8 * r + c)
  · cases e2 : tb (fX P) (8 * r + d)
    · rw [e1, e2] at hq2; simp at hq2
    · cases e3 : tb (fX P) (8 * s + c)
      · rw [e1, e3] at hq2; simp at hq2
      · have a := in1 r d (by omega) (by omega) e2
        have b := in1 s c (by omega) (by omega) e3
        omega
  · cases e2 : tb (fX P) (8 * s + d)
    · rw [e1, e2] at hq2; simp at hq2
    · have a := in1 r c (by omega) (by omega) e1
      have b := in1 s d (by omega) (by omega) e2
      omega
theorem crk_in {P : Pic} (ok : okP P) {k : Nat} (hq : exq P k = true) : ∀ a b, zc (fX P ^^^ crk k) a b → a < nR P ∧ b < nC P := by
  obtain ⟨h1, h2, h3, h4⟩ := exq_in ok hq
  exact crn_in h1 h2 h3 h4 ok.2.1 ok.2.2.2.1 ok.2.2.2.2.1
theorem mToldO {μ : Mem} {P : Pic} (h : MN μ P) {k : Nat} (hk : k < 1296) (h1 : k / 216 < k / 36 % 6 ∧ k / 6 % 6 < k % 6) : ∃ z, F_X8_turnsTold (i3 (tol k)) μ = rV z ∧ fr [30] μ z ∧ MN z (mkX P (fX P ^^^ crk k)) := by
  have e0 : i3 (tol k) / (1000 : Int32) = i3 ((k / 216 : Nat) : Int) := by
    unfold tol; rw [l3_1000, i3_div (by omega) (by decide)]; congr 1; omega
  have e1 : remI (i3 (tol k) / (100 : Int32)) (10 : Int32) = i3 ((k / 36 % 6 : Nat) : Int) := by
    unfold tol; rw [l3_100, l3_10, i3_div (by omega) (by decide), i3_rem (by omega) (by decide)]; congr 1; omega
  have e2 : remI (i3 (tol k) / (10 : Int32)) (10 : Int32) = i3 ((k / 6 % 6 : Nat) : Int) := by
    unfold tol; rw [l3_10, i3_div (by omega) (by decide), i3_rem (by omega) (by decide)]; congr 1; omega
  have e3 : remI (i3 (tol k)) (10 : Int32) = i3 ((k % 6 : Nat) : Int) := by
    unfold tol; rw [l3_10, i3_rem (by omega) (by decide)]; congr 1; omega
  obtain ⟨z, w1, w2, w3⟩ := mTurns4 h (r := k / 216) (s := k / 36 % 6) (c := k / 6 % 6) (d := k % 6) (by omega) (by omega) (by omega) (by omega) (by omega) (by omega)
  refine ⟨z, ?_, w2, w3⟩
  simp only [F_X8_turnsTold, e0, e1, e2, e3, w1, cV_k]
theorem xor2 (x y : Int64) : (x ^^^ y) ^^^ y = x := by
  apply tb_ext
  intro i hi
  rw [tb_xor, tb_xor]
  cases tb x i <;> cases tb y i <;> rfl
theorem cex_nn (P : Pic) (n : Nat) : 0 ≤ cex P n := zs_pos (fun i _ => b2_0 _)
theorem cex_bd (P : Pic) : cex P 1296 ≤ 1296 := by
  have := zs_bnd (n := 1296) (f := fun k => b2 (exq P k)) 1 (fun i _ => b2_1 _)
  have e : cex P 1296 = zs 1296 (fun k => b2 (exq P k)) := rfl
  omega
/-- the picture behind the exchange k -/
abbrev xk (P : Pic) (k : Nat) : Int64 := fX P ^^^ crk k
/-- the best of the first i exchanges: its number, its pieces, its outline -/
noncomputable def bxI (P : Pic) : Nat → Int32 × Int32 × Int32
  | 0 => ((-9 : Int32), (0 : Int32), (0 : Int32))
  | i + 1 => if (bxI P i).1 = (-9 : Int32) then (i3 (i : Int), i3 (npN (xk P (exK P i))), i3 (outl (xk P (exK P i)) (xk P (exK P i))))
      else if i3 (npN (xk P (exK P i)) : Int) < (bxI P i).2.1 then (i3 (i : Int), i3 (npN (xk P (exK P i))), i3 (outl (xk P (exK P i)) (xk P (exK P i))))
      else if i3 (npN (xk P (exK P i)) : Int) = (bxI P i).2.1 then (if (bxI P i).2.2 ≤ i3 (outl (xk P (exK P i)) (xk P (exK P i))) then bxI P i else (i3 (i : Int), i3 (npN (xk P (exK P i))), i3 (outl (xk P (exK P i)) (xk P (exK P i)))))
      else bxI P i
theorem bxI_s (P : Pic) (i : Nat) {k : Nat} (hk : exK P i = k) {n : Nat} (hn : npN (xk P k) = n) {o : Int} (ho : outl (xk P k) (xk P k) = o) : bxI P (i + 1) = if (bxI P i).1 = (-9 : Int32) then (i3 (i : Int), i3 n, i3 o)
      else if i3 (n : Int) < (bxI P i).2.1 then (i3 (i : Int), i3 n, i3 o)
      else if i3 (n : Int) = (bxI P i).2.1 then (if (bxI P i).2.2 ≤ i3 o then bxI P i else (i3 (i : Int), i3 n, i3 o))
      else bxI P i := by
  subst hk
  subst hn
  subst ho
  rw [bxI]
theorem bx_c {μ : Mem} {P : Pic} (h : CP μ 2 P) (ok : okP P) : F_X7_bestExchange μ = rI (bxI P (cex P 1296).toNat).1 μ := by
  have c0 := cex_nn P 1296
  have c1 := cex_bd P
  obtain ⟨N, hN⟩ : ∃ N : Nat, cex P 1296 = N := ⟨(cex P 1296).toNat, by omega⟩
  simp only [F_X7_bestExchange, countExchanges_code h ok, cI_k, hN, Int.toNat_natCast]
  rw [show f_X7_bestExchange_19 BIG (-9 : Int32) (0 : Int32) (0 : Int32) (i3 (N : Int)) (0 : Int32) μ = f_X7_bestExchange_19 BIG (bxI P 0).1 (bxI P 0).2.1 (bxI P 0).2.2 (i3 (N : Int)) (i3 ((0 : Nat) : Int)) μ from by rw [bxI]; rfl]
  refine loop_up (fun n i => f_X7_bestExchange_19 n (bxI P i).1 (bxI P i).2.1 (bxI P i).2.2 (i3 (N : Int)) (i3 i) μ) N _ (fun n => ?_) (fun n i hi => ?_) BIG 0 (by omega) (BIG_lt (by omega))
  · simp only [f_X7_bestExchange_19]
    rw [if_pos (le3 (by omega))]
  · obtain ⟨v, w1, w2⟩ := exchangeNumbered_code h ok (i := i) (by omega) (by omega)
    obtain ⟨e1, e2, e3⟩ := exK_eq w2 (by omega)
    subst e1
    have hb := crk_in ok e3
    obtain ⟨n', y1, y2, y3⟩ := countPieces_code (brdX ok hb) μ
    have e := bxI_s P i rfl (npN_eq y2) rfl
    have hX := h.2.2.1
    simp only [f_X7_bestExchange_19]
    rw [if_neg (nle3 (by omega)), w1, cI_k, cornersOf_code e2, cJ_k, lt_k, hX, y1, cI_k, outline_code (brdX ok hb) (brdX ok hb), cI_k]
    simp only [f_X7_bestExchange_88, lt_k, inc3]
    rw [e]
    split
    · rfl
    · split
      · rfl
      · split
        · split
          · rfl
          · rfl
        · rfl
theorem bx_m {s : Mem} {P : Pic} (h : MN s P) (ok : okP P) : ∃ z, f_X8_bestExchange_23 BIG (i3 (cex P 1296)) (-9 : Int32) (0 : Int32) (0 : Int32) (0 : Int32) s = rI (bxI P (cex P 1296).toNat).1 z ∧ fr [30, 35] s z ∧ MN z P := by
  have c0 := cex_nn P 1296
  have c1 := cex_bd P
  obtain ⟨N, hN⟩ : ∃ N : Nat, cex P 1296 = N := ⟨(cex P 1296).toNat, by omega⟩
  simp only [hN, Int.toNat_natCast]
  rw [show f_X8_bestExchange_23 BIG (i3 (N : Int)) (-9 : Int32) (0 : Int32) (0 : Int32) (0 : Int32) s = f_X8_bestExchange_23 BIG (i3 (N : Int)) (bxI P 0).1 (bxI P 0).2.1 (bxI P 0).2.2 (i3 ((0 : Nat) : Int)) s from by rw [bxI]; rfl]
  refine loop_st (σ := Mem) (fun n i z => f_X8_bestExchange_23 n (i3 (N : Int)) (bxI P i).1 (bxI P i).2.1 (bxI P i).2.2 (i3 i) z) (fun i z => fr [30, 35] s z ∧ MN z P)
    (fun o => ∃ z, o = rI (bxI P N).1 z ∧ fr [30, 35] s z ∧ MN z P) N ?_ ?_ BIG 0 s (by omega) (BIG_lt (by omega)) ⟨fr_rf _ _, h⟩
  · rintro n z ⟨q1, q2⟩
    refine ⟨z, ?_, q1, q2⟩
    simp only [f_X8_bestExchange_23]
    rw [if_pos (le3 (by omega))]
  · rintro n i z hi ⟨q1, q2⟩
    left
    obtain ⟨v, w1, w2⟩ := mExAt q2 ok (i := i) (by omega)
    obtain ⟨e1, e2, e3⟩ := exK_eq w2 (by omega)
    subst e1
    have hb := crk_in ok e3
    have okN := okX ok hb
    obtain ⟨z1, x1, x2, x3⟩ := mToldO q2 e2 (exq_ord e3)
    obtain ⟨n', z2, y1, y2, y3, -⟩ := mLaysPieces x3 okN
    have m2 := MN_fr x3 y2 (by simp)
    obtain ⟨z3, u1, u2, u3⟩ := mToldO m2 e2 (exq_ord e3)
    have m3 : MN z3 P := by
      have : mkX (mkX P (fX P ^^^ crk (exK P i))) ((fX P ^^^ crk (exK P i)) ^^^ crk (exK P i)) = P := by rw [xor2]
      rw [← this]; exact u3
    have e := bxI_s P i rfl (npN_eq y3) rfl
    refine ⟨z3, ⟨fr_tr q1 (fr_tr (fr_w x2 (by simp)) (fr_tr (fr_w y2 (by simp)) (fr_w u2 (by simp)))), m3⟩, ?_⟩
    simp only [f_X8_bestExchange_23]
    rw [if_neg (nle3 (by omega)), w1, cI_k, x1, cV_k, y1, cI_k, mOutline m2 okN, cI_k, u1, cV_k]
    simp only [f_X8_bestExchange_86, lt_k, inc3]
    rw [e]
    split
    · rfl
    · split
      · rfl
      · split
        · split
          · rfl
          · rfl
        · rfl
theorem op_bestExchange {μ : Mem} {A : Ab} (h : cInv μ A) : opOK A [] μ (F_X7_bestExchange μ) F_X8_bestExchange := by
  have ok := h.2.1
  refine op_val (frc_rf μ) h (bx_c h.1 ok) (fun s hs => ?_)
  obtain ⟨t1, t2, t3⟩ := thr hs (0 : Int32)
  obtain ⟨z, w1, w2, w3⟩ := bx_m t2.1 ok
  refine ⟨z, ?_, frm_tr t1 (frm_of w2 (by simp)), ?_, mInv_W t2 w2 (by simp) w3⟩
  · simp only [F_X8_bestExchange, lt_k, mExCount t2.1 ok, cI_k]
    exact w1
  · rw [fr_1 w2 (by simp), t3]; rfl
