/-- what a line needs beside the given cells -/
def dN (P : Pic) (s : Mem) (l : Nat) : Int := (wnt P l : Int) - cnt (nR P) (g1S P s) l
theorem g1_board {P : Pic} (ok : okP P) (s : Mem) : ∀ r c, zc (g1S P s) r c → r < nR P ∧ c < nC P := fun r c q => ((zc_g1 ok s r c).mp q).1
theorem gF_board {P : Pic} (ok : okP P) (s : Mem) : ∀ r c, zc (gFS P s) r c → r < nR P ∧ c < nC P := fun r c q => ((zc_gF ok s r c).mp q).1
theorem zs_neg (n : Nat) (f : Nat → Int) : zs n (fun i => -(f i)) = -(zs n f) := by
  induction n with
  | zero => rfl
  | succ n ih => simp only [zs_s, ih]; omega
theorem dN_sum {P : Pic} (ok : okP P) (s : Mem) : zs (nR P + nC P) (fun l => if nR P ≤ l then -(dN P s l) else dN P s l) = zs 6 (fun i => (dgn (wU P) i : Int)) - zs 6 (fun i => (dgn (wV P) i : Int)) := by
  have o1 := ok.2.1
  have o2 := ok.2.2.2.1
  rw [zs_split]
  have a1 : zs (nR P) (fun l => if nR P ≤ l then -(dN P s l) else dN P s l) = zs 6 (fun i => (dgn (wU P) i : Int)) - zs 6 (fun a => rct (g1S P s) a) := by
    rw [← wnt_rows ok]
    have e : zs 6 (fun a => rct (g1S P s) a) = zs (nR P) (fun a => rct (g1S P s) a) := zs_ext0 o1 (fun i h1 h2 => rct_out h2 (fun c q => by have := g1_board ok s i c q; omega))
    rw [e, ← zs_sub]
    apply zs_congr; intro l hl
    rw [if_neg (by omega)]
    unfold dN cnt; rw [if_neg (by omega)]
  have a2 : zs (nC P) (fun i => if nR P ≤ nR P + i then -(dN P s (nR P + i)) else dN P s (nR P + i)) = -(zs 6 (fun i => (dgn (wV P) i : Int))) + zs 6 (fun a => cct (g1S P s) a) := by
    rw [← wnt_cols ok]
    have e : zs 6 (fun a => cct (g1S P s) a) = zs (nC P) (fun a => cct (g1S P s) a) := zs_ext0 o2 (fun i h1 h2 => cct_out h2 (fun c q => by have := g1_board ok s c i q; omega))
    rw [e, zs_split, show zs (nR P) (fun l => (wnt P l : Int)) + zs (nC P) (fun i => (wnt P (nR P + i) : Int)) - zs (nR P) (fun l => (wnt P l : Int)) = zs (nC P) (fun i => (wnt P (nR P + i) : Int)) from by omega, ← zs_neg, ← zs_add]
    apply zs_congr; intro i hi
    rw [if_pos (by omega)]
    unfold dN cnt; rw [if_pos (by omega), show nR P + i - nR P = i from by omega]; omega
  rw [a1, a2, sum_eq]; omega
theorem mHasNeeds {s : Mem} {P : Pic} (h : MN s P) (ok : okP P) (hg : gOK P s) : ∃ v z, F_X8_hasNeeds s = rI (i3 v) z ∧ fr [39, 40] s z ∧
    ((v = 1 ∧ ndR P z (dN P s) ∧ (∀ l, l < nR P + nC P → 0 ≤ dN P s l) ∧ zs 6 (fun i => (dgn (wU P) i : Int)) = zs 6 (fun i => (dgn (wV P) i : Int))) ∨ (v = 0 ∧ ¬ ∃ y, fitG P s y)) := by
  have o1 := ok.2.1
  have o2 := ok.2.2.2.1
  have dbd : ∀ l, l < nR P + nC P → -6 ≤ dN P s l ∧ dN P s l ≤ 6 := fun l hl => by
    have w6 := wnt_6 ok hl
    have c1 := cnt_0 (nR P) (g1S P s) l
    have c16 := cnt_6 (nR P) (g1S P s) l
    unfold dN; omega
  have sbd : ∀ i, i ≤ nR P + nC P → -72 ≤ zs i (fun l => if nR P ≤ l then -(dN P s l) else dN P s l) ∧ zs i (fun l => if nR P ≤ l then -(dN P s l) else dN P s l) ≤ 72 := fun i hi => by
    have u := zs_bnd (n := i) (f := fun l => if nR P ≤ l then -(dN P s l) else dN P s l) 6 (fun l hl => by have := dbd l (by omega); show (if nR P ≤ l then -(dN P s l) else dN P s l) ≤ 6; split <;> omega)
    have v := zs_bnd (n := i) (f := fun l => -(if nR P ≤ l then -(dN P s l) else dN P s l)) 6 (fun l hl => by have := dbd l (by omega); show -(if nR P ≤ l then -(dN P s l) else dN P s l) ≤ 6; split <;> omega)
    rw [zs_neg] at v
    omega
  simp only [F_X8_hasNeeds]
  rw [show f_X8_hasNeeds_4 BIG (0 : Int32) (0 : Int32) s = f_X8_hasNeeds_4 BIG (i3 (zs 0 (fun l => if nR P ≤ l then -(dN P s l) else dN P s l))) (i3 ((0 : Nat) : Int)) s from by rw [show (0 : Int32) = i3 0 from l3_0]; exact nr rfl]
  refine loop_st (σ := Mem) (fun n i z => f_X8_hasNeeds_4 n (i3 (zs i (fun l => if nR P ≤ l then -(dN P s l) else dN P s l))) (i3 i) z)
    (fun i z => fr [39, 40] s z ∧ (∀ l, l < i → 0 ≤ dN P s l) ∧ (∀ r, r < nR P → r < i → z.1 39 r = i3 (dN P s r)) ∧ ∀ c, c < nC P → nR P + c < i → z.1 40 c = i3 (dN P s (nR P + c)))
    (fun o => ∃ v z, o = rI (i3 v) z ∧ fr [39, 40] s z ∧
      ((v = 1 ∧ ndR P z (dN P s) ∧ (∀ l, l < nR P + nC P → 0 ≤ dN P s l) ∧ zs 6 (fun i => (dgn (wU P) i : Int)) = zs 6 (fun i => (dgn (wV P) i : Int))) ∨ (v = 0 ∧ ¬ ∃ y, fitG P s y))) (nR P + nC P) ?_ ?_ BIG 0 s (by omega) (BIG_lt (by omega)) ⟨fr_rf _ _, fun l q => by omega, fun r _ q => by omega, fun c _ q => by omega⟩
  · rintro n z ⟨q1, q2, q3, q4⟩
    have hz : MN z P := MN_fr h q1 (by simp)
    have hs := sbd (nR P + nC P) (Nat.le_refl _)
    have el : i3 ((nR P : Int) + (nC P : Int)) ≤ i3 ((nR P + nC P : Nat) : Int) := le3 (by omega)
    simp only [f_X8_hasNeeds_4, rows_code hz, cols_code hz, cI_k, i3_add, if_pos el]
    rw [l3_0, l3_1]
    rw [dN_sum ok s] at hs ⊢
    by_cases e : zs 6 (fun i => (dgn (wU P) i : Int)) = zs 6 (fun i => (dgn (wV P) i : Int))
    · rw [if_pos (by rw [e, Int.sub_self])]
      exact ⟨1, z, rfl, q1, Or.inl ⟨rfl, ⟨fun r hr => q3 r hr (by omega), fun c hc => q4 c hc (by omega)⟩, q2, e⟩⟩
    · rw [if_neg (ne3 (by omega))]
      refine ⟨0, z, rfl, q1, Or.inr ⟨rfl, fun ⟨y, hy⟩ => e ?_⟩⟩
      rw [← zs_congr (fun a ha => hy.1.2.1 a ha), ← zs_congr (fun a ha => hy.1.2.2 a ha)]; exact sum_eq y
  · rintro n l z hl ⟨q1, q2, q3, q4⟩
    have hz : MN z P := MN_fr h q1 (by simp)
    obtain ⟨a, a1, a2, -, a3⟩ := mWantAt hz ok hl
    have hs := sbd l (by omega)
    have el : ¬ i3 ((nR P : Int) + (nC P : Int)) ≤ i3 (l : Int) := nle3 (by omega)
    simp only [f_X8_hasNeeds_4, rows_code hz, cols_code hz, cI_k, i3_add, if_neg el, a1, clampN (show a < 2147483648 by omega), a3, lt_k]
    rw [ck_k (i3_in (by omega) (by decide))]
    have hline := hasNeeds_line hz ok hg q1 hl (f_X8_hasNeeds_4 n) (zs l (fun l => if nR P ≤ l then -(dN P s l) else dN P s l)) (by omega)
    rcases hline with ⟨w1, w2⟩ | ⟨w1, z', w2, w3⟩
    · right
      rw [w2]
      refine ⟨0, z, rfl, q1, Or.inr ⟨rfl, fun ⟨y, hy⟩ => w1 ?_⟩⟩
      have b1 := cnt_mono ok hl (fitG_g1 ok hy)
      have b2 := cnt_mono ok hl (fitG_up hy)
      rw [cnt_dis ok hl (g1F_dis ok s)] at b2
      have b3 := fit_cnt ok hy.1 hl
      omega
    · left
      have hdl : 0 ≤ dN P s l := w1.1
      change z' = (if nR P ≤ l then sI z 40 (l - nR P) (i3 (dN P s l)) else sI z 39 l (i3 (dN P s l))) at w3
      refine ⟨z', ?_, ?_⟩
      · subst w3
        by_cases e : nR P ≤ l
        · rw [if_pos e]
          refine ⟨fr_tr q1 (fr_sI (by simp)), fun l' hl' => ?_, fun r hr hr2 => ?_, fun c hc hc2 => ?_⟩
          · by_cases e2 : l' = l
            · rw [e2]; exact hdl
            · exact q2 l' (by omega)
          · rw [sI_1, up2_k _ _ _ _ _ (by decide)]; exact q3 r hr (by omega)
          · rw [sI_1, up2_a]
            by_cases e2 : c = l - nR P
            · rw [if_pos ⟨rfl, e2⟩, show nR P + c = l from by omega]
            · rw [if_neg (fun w => e2 w.2)]; exact q4 c hc (by omega)
        · rw [if_neg e]
          refine ⟨fr_tr q1 (fr_sI (by simp)), fun l' hl' => ?_, fun r hr hr2 => ?_, fun c hc hc2 => ?_⟩
          · by_cases e2 : l' = l
            · rw [e2]; exact hdl
            · exact q2 l' (by omega)
          · rw [sI_1, up2_a]
            by_cases e2 : r = l
            · rw [if_pos ⟨rfl, e2⟩, e2]
            · rw [if_neg (fun w => e2 w.2)]; exact q3 r hr (by omega)
          · rw [sI_1, up2_k _ _ _ _ _ (by decide)]; exact q4 c hc (by omega)
      · rw [w2]
        have e : (if nR P ≤ l then zs l (fun l => if nR P ≤ l then -(dN P s l) else dN P s l) - ((wnt P l : Int) - cnt (nR P) (g1S P s) l) else zs l (fun l => if nR P ≤ l then -(dN P s l) else dN P s l) + ((wnt P l : Int) - cnt (nR P) (g1S P s) l)) = zs (l + 1) (fun l => if nR P ≤ l then -(dN P s l) else dN P s l) := by
          rw [zs_s]
          show _ = zs l (fun l => if nR P ≤ l then -(dN P s l) else dN P s l) + (if nR P ≤ l then -(dN P s l) else dN P s l)
          unfold dN
          split <;> omega
        rw [e]
