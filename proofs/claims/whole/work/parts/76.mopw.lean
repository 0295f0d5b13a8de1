theorem zs_one' (n : Nat) : zs n (fun _ => 1) = n := by
  induction n with
  | zero => rfl
  | succ n ih => rw [zs_s, ih]; omega
theorem pc_free {P : Pic} (ok : okP P) {l : Nat} (hl : l < nR P + nC P) : pc (lmI (nR P) (nC P) l &&& ((fP P &&& (fX P ^^^ (-1 : Int64))) ^^^ (-1 : Int64))) = (lenL P l : Int) - cnt (nR P) (fP P &&& (fX P ^^^ (-1 : Int64))) l := by
  have o1 := ok.2.1
  have o2 := ok.2.2.2.1
  have hZ : ∀ r c, zc (fP P &&& (fX P ^^^ (-1 : Int64))) r c → r < nR P ∧ c < nC P := fun r c q => ok.2.2.2.2.2.1 r c ((zc_rem r c).mp q).1
  generalize fP P &&& (fX P ^^^ (-1 : Int64)) = Z at hZ ⊢
  have e : lmI (nR P) (nC P) l &&& (Z ^^^ (-1 : Int64)) = (bdI (nR P) (nC P) &&& (Z ^^^ (-1 : Int64))) &&& lmI (nR P) (nC P) l := zc_ext (fun r c => by
    rw [zc_rem, zc_and, zc_rem, zc_bd o1 o2, zc_lm o1 o2 hl]
    exact ⟨fun q => ⟨⟨q.1.1, q.2⟩, q.1⟩, fun q => ⟨q.2, q.1.2⟩⟩)
  have hB : ∀ r c, zc (bdI (nR P) (nC P) &&& (Z ^^^ (-1 : Int64))) r c → r < nR P ∧ c < nC P := fun r c q => (zc_bd o1 o2 r c).mp ((zc_rem r c).mp q).1
  rw [e, pc_lm o1 o2 hB hl, ← lin_sum ok hB hl, ← lin_sum ok hZ hl]
  have : zs (lenL P l) (fun i => b2 (tb (bdI (nR P) (nC P) &&& (Z ^^^ (-1 : Int64))) (8 * rowL P l i + colL P l i))) = zs (lenL P l) (fun i => 1 - b2 (tb Z (8 * rowL P l i + colL P l i))) := by
    apply zs_congr
    intro i hi
    have hb := lin_bd ok hl hi
    have tB := tb_iff (x := bdI (nR P) (nC P) &&& (Z ^^^ (-1 : Int64))) (r := rowL P l i) (c := colL P l i) (by omega) (by omega)
    have tZ := tb_iff (x := Z) (r := rowL P l i) (c := colL P l i) (by omega) (by omega)
    rw [zc_rem, zc_bd o1 o2, ← tZ] at tB
    cases hz : tb Z (8 * rowL P l i + colL P l i)
    · rw [tB.mpr ⟨⟨hb.1, hb.2.1⟩, by rw [hz]; decide⟩]; rfl
    · rw [tb_f (fun w => (tB.mp w).2 hz)]; rfl
  rw [this, zs_sub, zs_one']
theorem pc_pinF {P : Pic} (ok : okP P) {l : Nat} (hl : l < nR P + nC P) : pc ((lmI (nR P) (nC P) l &&& fP P) &&& fX P) = cnt (nR P) (fP P &&& fX P) l := by
  have o1 := ok.2.1
  have o2 := ok.2.2.2.1
  have hZ : ∀ r c, zc (fP P &&& fX P) r c → r < nR P ∧ c < nC P := fun r c q => ok.2.2.2.2.2.1 r c ((zc_and _ _ _ _).mp q).1
  have e : (lmI (nR P) (nC P) l &&& fP P) &&& fX P = (fP P &&& fX P) &&& lmI (nR P) (nC P) l := zc_ext (fun r c => by
    simp only [zc_and]
    exact ⟨fun q => ⟨⟨q.1.2, q.2⟩, q.1.1⟩, fun q => ⟨⟨q.2, q.1.1⟩, q.1.2⟩⟩)
  rw [e, pc_lm o1 o2 hZ hl]
theorem op_whyNot {μ : Mem} {A : Ab} (h : cInv μ A) {l : Int} (hl : inZ l) : opOK A [eIdx] μ (F_X7_whyNot (i3 l) μ) (F_X8_whyNot (i3 l)) := by
  have ok := h.2.1
  have o1 := ok.2.1
  have o2 := ok.2.2.2.1
  have hP := h.1
  by_cases q : 0 ≤ l ∧ l < nR (aP A) + nC (aP A)
  · obtain ⟨l, rfl, hl'⟩ := natZ (v := l) (n := nR (aP A) + nC (aP A)) (by omega)
    have w6 := wnt_6 ok hl'
    have c0 := cnt_0 (nR (aP A)) (fX (aP A)) l
    have c6 := cnt_6 (nR (aP A)) (fX (aP A)) l
    have z0 := cnt_0 (nR (aP A)) (fP (aP A) &&& (fX (aP A) ^^^ (-1 : Int64))) l
    have z6 := cnt_6 (nR (aP A)) (fP (aP A) &&& (fX (aP A) ^^^ (-1 : Int64))) l
    have p0 := cnt_0 (nR (aP A)) (fP (aP A) &&& fX (aP A)) l
    have p6 := cnt_6 (nR (aP A)) (fP (aP A) &&& fX (aP A)) l
    have l6 := len6 ok l
    have v : ∃ v : Int32, v = (if cnt (nR (aP A)) (fX (aP A)) l = wnt (aP A) l then (0 : Int32) else if (wnt (aP A) l : Int) ≤ (lenL (aP A) l : Int) - cnt (nR (aP A)) (fP (aP A) &&& (fX (aP A) ^^^ (-1 : Int64))) l then (if cnt (nR (aP A)) (fP (aP A) &&& fX (aP A)) l ≤ wnt (aP A) l then (3 : Int32) else (2 : Int32)) else (1 : Int32)) := ⟨_, rfl⟩
    obtain ⟨v, ev⟩ := v
    refine op_val (frc_rf μ) h (v := v) ?_ (fun s hs => ⟨_, ?_, m_fin0 hs⟩)
    · simp only [F_X7_whyNot, chk_line h hl, if_pos q, cV_k, lineMask_code hP ok hl', cJ_k, wantedOf_code hP ok hl', cI_k, countOf_code hP ok hl', pc_code, hP.2.2.1, hP.2.2.2.1, pc_free ok hl', pc_pinF ok hl']
      rw [ev]
      by_cases e : cnt (nR (aP A)) (fX (aP A)) l = wnt (aP A) l
      · rw [if_pos (by rw [e]), if_pos e]
      · rw [if_neg (ne3 (by omega)), if_neg e]
        by_cases e2 : (wnt (aP A) l : Int) ≤ (lenL (aP A) l : Int) - cnt (nR (aP A)) (fP (aP A) &&& (fX (aP A) ^^^ (-1 : Int64))) l
        · rw [if_pos (le3 (by omega)), if_pos e2]
          by_cases e3 : cnt (nR (aP A)) (fP (aP A) &&& fX (aP A)) l ≤ wnt (aP A) l
          · rw [if_pos (le3 (by omega)), if_pos e3]
          · rw [if_neg (nle3 (by omega)), if_neg e3]
        · rw [if_neg (nle3 (by omega)), if_neg e2]
    · obtain ⟨t1, t2, t3⟩ := thr hs (0 : Int32)
      obtain ⟨a, a1, a2, a3, a4⟩ := mWantAt t2.1 ok hl'
      have hck : ∀ K : Out, ck (inb (i3 (a : Int)) 50) K = K := fun K => ck_k (i3_in (by omega) (by decide)) K
      have hm1 := mPins t2.1 ok hl' true
      have hm0 := mPins t2.1 ok hl' false
      rw [show i3 (b2 true) = (1 : Int32) from rfl] at hm1
      rw [show i3 (b2 false) = (0 : Int32) from rfl] at hm0
      simp only [Bool.false_eq_true, if_false, if_true] at hm0 hm1
      simp only [F_X8_whyNot, mIsLine hs.1 ok hl, if_pos q, cI_k, if_neg iz1, f_X8_whyNot_14, lt_k, t3, if_true, a1, hck, clampN (show a < 2147483648 by omega), a4, mCount t2.1 ok hl', mLen t2.1 ok hl', hm0, hm1, i3_sub]
      rw [ev]
      by_cases e : cnt (nR (aP A)) (fX (aP A)) l = wnt (aP A) l
      · rw [if_pos (by rw [e]), if_pos e]
      · rw [if_neg (ne3 (by omega)), if_neg e]
        by_cases e2 : (wnt (aP A) l : Int) ≤ (lenL (aP A) l : Int) - cnt (nR (aP A)) (fP (aP A) &&& (fX (aP A) ^^^ (-1 : Int64))) l
        · rw [if_pos (le3 (by omega)), if_pos e2]
          by_cases e3 : cnt (nR (aP A)) (fP (aP A) &&& fX (aP A)) l ≤ wnt (aP A) l
          · rw [if_pos (le3 (by omega)), if_pos e3]
          · rw [if_neg (nle3 (by omega)), if_neg e3]
        · rw [if_neg (nle3 (by omega)), if_neg e2]
  · refine op_err (frc_rf μ) h eIdx 0 ?_ rfl (fun s hs => ?_)
    · simp only [F_X7_whyNot, chk_line h hl, if_neg q, cV_x]
    · obtain ⟨t1, t2, t3⟩ := thr hs (1 : Int32)
      refine ⟨0, sI s 29 8 (1 : Int32), ?_, t1, by rw [t3]; decide, t2⟩
      simp only [F_X8_whyNot, mIsLine hs.1 ok hl, if_neg q, cI_k, if_pos iz0, f_X8_whyNot_14, lt_k, t3, if_neg jz1]
