/-! the law over the small machine: it answers 1 -/
theorem law_const : ∀ k : Nat, k < 30 → i3 (k : Int) = i3 (k : Int) := fun _ _ => rfl
section LW
variable {L : Nat} {xs : Nat → Int32} {μ : Mem} {A : Ab}
theorem lc_c (hL : L ≤ 260) (n : Nat) (c : Int32) (hc : c = i3 (n : Int)) (hn : n < 1000) (s : Mem) : F_L_cell L xs c s = rI (scr L xs n) s := by rw [hc]; exact cell_code hL xs hn s
theorem l_10 {μ : Mem} {A : Ab} (h : cInv μ A) : F_X7_line (0 : Int32) (1 : Int32) μ = rI (i3 (wnt (aP A) 0)) μ := by
  have := l_1 h (l := 0) (by have := h.2.1.1; omega)
  exact this
/-- from the drawn state to the end -/
theorem law_fin (hL : L ≤ 260) (h : cInv μ A) (n : Nat) {k : Nat} (hk : upZ (shrI (scr L xs 7) (3 : Int32)) 4 ≤ k) (hk9 : k < 100) : ∃ μ', f_L_law_334 L xs (n + 1) (i3 (nR (aP A))) (i3 (nC (aP A))) (i3 (k : Int)) μ = rI (1 : Int32) μ' := by
  have ok := h.2.1
  have o0 := ok.1
  have o1 := ok.2.1
  have o2 := ok.2.2.2.1
  have o3 := ok.2.2.1
  have bX := brdX ok ok.2.2.2.2.1
  have c7 := lc_c (xs := xs) hL 7 (7 : Int32) l3_7 (by decide)
  have c15 := lc_c (xs := xs) hL 15 (15 : Int32) l3_15 (by decide)
  have c16 := lc_c (xs := xs) hL 16 (16 : Int32) l3_16 (by decide)
  have u4 := fun s => up_code (shrI (scr L xs 7) (3 : Int32)) (m := 4) (by decide) s
  have u4' : ∀ s, F_L_up (shrI (scr L xs 7) (3 : Int32)) (4 : Int32) s = rI (i3 (upZ (shrI (scr L xs 7) (3 : Int32)) 4 : Int)) s := fun s => by rw [← u4 s]; rfl
  have le : i3 (upZ (shrI (scr L xs 7) (3 : Int32)) 4 : Int) ≤ i3 (k : Int) := le3 (by omega)
  obtain ⟨s1, A1, a1, a2, a3⟩ := sound_code h (scr L xs 15)
  have b0 := bits_0 a2
  have b1 := bits_1 a2
  obtain ⟨m, hm⟩ := hm_ex a2
  obtain ⟨s2, d1, -, d3⟩ := hm_c a2 hm
  have l1 := l_10 d3
  obtain ⟨P1, s3, t1, t2, -, t4⟩ := tu_c d3
  have ok1 := turned_ok a2.2.1 t2
  have ln := lines_code t4
  obtain ⟨m1, hm1⟩ := hm_ex t4
  have em1 : m1 = m := turned_cnt a2.2.1 t2 hm hm1
  subst em1
  obtain ⟨s4, f1, -, f3⟩ := hm_c t4 hm1
  have g0 : F_X7_about (0 : Int32) s4 = rI (i3 (nR P1)) s4 := a_0 f3
  have g1 : F_X7_about (1 : Int32) s4 = rI (i3 (nC P1)) s4 := a_1 f3
  have eP1 : nR P1 = nC (aP A) ∧ nC P1 = nR (aP A) := ⟨by rw [t2.1, a3], by rw [t2.2.1, a3]⟩
  have lw : F_X7_line (i3 ((nR P1 + nC P1 - 1 : Nat) : Int)) (1 : Int32) s4 = rI (i3 (wnt (aP A1) 0)) s4 := by
    have q := l_1 f3 (l := nR P1 + nC P1 - 1) (by show nR P1 + nC P1 - 1 < nR P1 + nC P1; omega)
    rw [q]
    congr 3
    show wnt P1 (nR P1 + nC P1 - 1) = wnt (aP A1) 0
    unfold wnt
    rw [if_pos (show nR P1 ≤ nR P1 + nC P1 - 1 by omega), if_neg (show ¬ nR (aP A1) ≤ 0 by rw [a3]; omega), show nR P1 + nC P1 - 1 - nR P1 = nC P1 - 1 from by omega, t2.2.2.2.2.2 _ (by omega), if_pos (by rw [a3]; omega), eP1.2, a3, show nR (aP A) - 1 - (nR (aP A) - 1) = 0 from by omega]
  have ei : (i3 (nR P1 : Int) + i3 (nC P1 : Int)) - (1 : Int32) = i3 ((nR P1 + nC P1 - 1 : Nat) : Int) := by rw [i3_add, l3_1, i3_sub]; congr 1; omega
  obtain ⟨P2, s5, v1, v2, -, v4⟩ := tu_c f3
  have v2 : turned P1 P2 := v2
  have ok2 := turned_ok ok1 v2
  obtain ⟨P3, s6, w1, w2, -, w4⟩ := tu_c v4
  have w2 : turned P2 P3 := w2
  have ok3 := turned_ok ok2 w2
  obtain ⟨P4, s7, x1, x2, -, x4⟩ := tu_c w4
  have x2 : turned P3 P4 := x2
  have ok4 := turned_ok ok3 x2
  have eR2 : nR P2 = nR (aP A) := v2.1.trans eP1.2
  have eC2 : nC P2 = nC (aP A) := v2.2.1.trans eP1.1
  have eR3 : nR P3 = nC (aP A) := w2.1.trans eC2
  have eC3 : nC P3 = nR (aP A) := w2.2.1.trans eR2
  have eR4 : nR P4 = nR (aP A) := x2.1.trans eC3
  obtain ⟨z1, z2⟩ := turn_4 a2.2.1 t2 v2 w2 x2
  obtain ⟨A7, hA7⟩ : ∃ B, B = actA (actA (actA (actA A1 P1) P2) P3) P4 := ⟨_, rfl⟩
  have eP7 : aP A7 = P4 := by rw [hA7]
  have r7 := rem_1 (actA (actA (actA A1 P1) P2) P3) P4 (h14 w4)
  rw [← hA7] at x4 r7
  have p0 := bits_0 x4
  have p1 := bits_1 x4
  rw [eP7, z1, a3] at p0
  rw [eP7, z2, a3] at p1
  rw [a3] at b0 b1
  obtain ⟨m2, hm2⟩ := hm_ex v4
  obtain ⟨m3, hm3⟩ := hm_ex w4
  obtain ⟨m4, hm4⟩ := hm_ex x4
  have em2 : m2 = m1 := turned_cnt ok1 v2 hm1 hm2
  have em3 : m3 = m2 := turned_cnt ok2 w2 hm2 hm3
  have em4 : m4 = m3 := turned_cnt ok3 x2 hm3 (by rw [← eP7]; exact hm4)
  have hm7 : cntF (aP A7) m1 := by rw [← em2, ← em3, ← em4]; exact hm4
  obtain ⟨s8, q1, -, q3⟩ := hm_c x4 hm7
  obtain ⟨s9, y1, -, y3⟩ := un_c q3 r7.1
  have h7 := h14 x4
  have yn : ¬ i3 ((aHn A7 - 1 : Nat) : Int) < 0 := by rw [l3_0]; exact nlt3 (by omega)
  have g9 := a_0 y3
  have e9 : aP (unA A7) = P3 := r7.2.1
  rw [e9, eR3] at g9
  obtain ⟨s10, A10, j1, j2, j3⟩ := sound_code y3 (scr L xs 16)
  have zz : ∀ x : Int64, (lg_cmp x x = 0) = True := fun x => by rw [zcmp_eq]; exact eq_true rfl
  refine ⟨s10, ?_⟩
  rw [eP1.1] at t1
  rw [eR2] at v1
  rw [eR3] at w1
  rw [eR4] at x1
  simp only [f_L_law_334, c7, cI_k, u4', if_pos le, c15, a1, j10, if_false, b0, b1, cJ_k, d1, l1, t1, if_true, ln, f1, g0, g1, ei, lw, v1, w1, x1, p0, zz, p1, q1, undoOr_k y1, if_neg yn, g9, c16, j1]
/-- cells that are drawn are changed once more -/
theorem law_334 (hL : L ≤ 260) {R C : Nat} (h : cInv μ A) (hR : nR (aP A) = R) (hC : nC (aP A) = C) : ∃ μ', f_L_law_334 L xs BIG (i3 (R : Int)) (i3 (C : Int)) (0 : Int32) μ = rI (1 : Int32) μ' := by
  have u4l := up_lt (shrI (scr L xs 7) (3 : Int32)) (m := 4) (by decide)
  rw [show (0 : Int32) = i3 ((0 : Nat) : Int) from l3_0]
  refine loop_st (σ := Mem × Ab) (fun n k z => f_L_law_334 L xs n (i3 (R : Int)) (i3 (C : Int)) (i3 (k : Int)) z.1) (fun k z => cInv z.1 z.2 ∧ nR (aP z.2) = R ∧ nC (aP z.2) = C) (fun o => ∃ μ', o = rI (1 : Int32) μ') (upZ (shrI (scr L xs 7) (3 : Int32)) 4) ?_ ?_ BIG 0 (μ, A) (by omega) (BIG_lt (by omega)) ⟨h, hR, hC⟩
  · rintro n ⟨s, B⟩ ⟨q1, q2, q3⟩
    simp only at q1 q2 q3
    have := law_fin (xs := xs) hL q1 n (k := upZ (shrI (scr L xs 7) (3 : Int32)) 4) (Nat.le_refl _) (by omega)
    rw [q2, q3] at this
    exact this
  · rintro n k ⟨s, B⟩ hk ⟨q1, q2, q3⟩
    simp only at q1 q2 q3
    left
    have ok := q1.2.1
    have o0 := ok.1
    have o1 := ok.2.1
    have o2 := ok.2.2.2.1
    have o3 := ok.2.2.1
    have c7 := lc_c (xs := xs) hL 7 (7 : Int32) l3_7 (by decide)
    have ck := lc_c (xs := xs) hL (11 + k) ((11 : Int32) + i3 (k : Int)) (by rw [show (11 : Int32) = i3 11 from by decide, i3_add]; rfl) (by omega)
    have u4' : ∀ s, F_L_up (shrI (scr L xs 7) (3 : Int32)) (4 : Int32) s = rI (i3 (upZ (shrI (scr L xs 7) (3 : Int32)) 4 : Int)) s := fun s => by rw [← up_code (shrI (scr L xs 7) (3 : Int32)) (m := 4) (by decide) s]; rfl
    have le : ¬ i3 (upZ (shrI (scr L xs 7) (3 : Int32)) 4 : Int) ≤ i3 (k : Int) := nle3 (by omega)
    have ur := fun s => up_code (scr L xs (11 + k)) (m := R) (by omega) s
    have uc := fun s => up_code (shrI (scr L xs (11 + k)) (4 : Int32)) (m := C) (by omega) s
    have hr := up_lt (scr L xs (11 + k)) (m := R) (by omega)
    have hc := up_lt (shrI (scr L xs (11 + k)) (4 : Int32)) (m := C) (by omega)
    generalize upZ (scr L xs (11 + k)) R = r at ur hr
    generalize upZ (shrI (scr L xs (11 + k)) (4 : Int32)) C = c at uc hc
    have p1 := e_1 q1 (r := r) (c := c) (by omega) (by omega)
    have p0 := e_0 q1 (r := r) (c := c) (by omega) (by omega)
    cases hp : tb (fP (aP B)) (8 * r + c)
    · rw [hp] at p1
      cases hx : tb (fX (aP B)) (8 * r + c)
      · rw [hx] at p0
        obtain ⟨s1, f1, -, f3⟩ := f_c q1 (r := r) (c := c) (by omega) (by omega) true hp
        rw [hx] at f1
        have f1' : F_X7_fill (i3 (r : Int)) (i3 (c : Int)) (1 : Int32) s = rI (0 : Int32) s1 := f1
        refine ⟨(s1, actA B (mkX (aP B) (setB (fX (aP B)) r c true))), ⟨f3, q2, q3⟩, ?_⟩
        simp only [f_L_law_334, c7, cI_k, u4', if_neg le, ck, ur, uc, p1, b2_f, iz0, if_true, f_L_law_397, p0, j01, if_false, f_L_law_417, j10, f_L_law_439, f1', lt_k, inc3]
      · rw [hx] at p0
        obtain ⟨s1, f1, -, f3⟩ := f_c q1 (r := r) (c := c) (by omega) (by omega) false hp
        rw [hx] at f1
        have f1' : F_X7_fill (i3 (r : Int)) (i3 (c : Int)) (0 : Int32) s = rI (1 : Int32) s1 := f1
        refine ⟨(s1, actA B (mkX (aP B) (setB (fX (aP B)) r c false))), ⟨f3, q2, q3⟩, ?_⟩
        simp only [f_L_law_334, c7, cI_k, u4', if_neg le, ck, ur, uc, p1, b2_f, b2_t, i3o, iz0, if_true, f_L_law_397, p0, j01, if_false, f_L_law_417, j10, f_L_law_439, f1', lt_k, inc3]
    · rw [hp] at p1
      refine ⟨(s, B), ⟨q1, q2, q3⟩, ?_⟩
      cases hx : tb (fX (aP B)) (8 * r + c)
      · rw [hx] at p0
        simp only [f_L_law_334, c7, cI_k, u4', if_neg le, ck, ur, uc, p1, b2_f, b2_t, i3o, iz0, if_true, f_L_law_397, p0, j01, j10, if_false, f_L_law_417, lt_k, inc3]
      · rw [hx] at p0
        simp only [f_L_law_334, c7, cI_k, u4', if_neg le, ck, ur, uc, p1, b2_f, b2_t, i3o, iz0, if_true, f_L_law_397, p0, j01, j10, if_false, f_L_law_417, lt_k, inc3]
/-- wanted counts are drawn -/
theorem law_260 (hL : L ≤ 260) {R C : Nat} (h : cInv μ A) (hR : nR (aP A) = R) (hC : nC (aP A) = C) : ∃ μ', f_L_law_260 L xs BIG (i3 (R : Int)) (i3 (C : Int)) (i3 ((R : Int) + C)) (0 : Int32) μ = rI (1 : Int32) μ' := by
  have u3l := up_lt (scr L xs 7) (m := 3) (by decide)
  rw [show (0 : Int32) = i3 ((0 : Nat) : Int) from l3_0]
  refine loop_st (σ := Mem × Ab) (fun n k z => f_L_law_260 L xs n (i3 (R : Int)) (i3 (C : Int)) (i3 ((R : Int) + C)) (i3 (k : Int)) z.1) (fun k z => cInv z.1 z.2 ∧ nR (aP z.2) = R ∧ nC (aP z.2) = C) (fun o => ∃ μ', o = rI (1 : Int32) μ') (upZ (scr L xs 7) 3) ?_ ?_ BIG 0 (μ, A) (by omega) (BIG_lt (by omega)) ⟨h, hR, hC⟩
  · rintro n ⟨s, B⟩ ⟨q1, q2, q3⟩
    simp only at q1 q2 q3
    have c7 := lc_c (xs := xs) hL 7 (7 : Int32) l3_7 (by decide)
    have u3' : ∀ s, F_L_up (scr L xs 7) (3 : Int32) s = rI (i3 (upZ (scr L xs 7) 3 : Int)) s := fun s => by rw [← up_code (scr L xs 7) (m := 3) (by decide) s]; rfl
    have le : i3 (upZ (scr L xs 7) 3 : Int) ≤ i3 (upZ (scr L xs 7) 3 : Int) := le3 (by omega)
    obtain ⟨s', w⟩ := law_334 (xs := xs) hL q1 q2 q3
    exact ⟨s', by simp only [f_L_law_260, c7, cI_k, u3', if_pos le]; exact w⟩
  · rintro n k ⟨s, B⟩ hk ⟨q1, q2, q3⟩
    simp only at q1 q2 q3
    left
    have ok := q1.2.1
    have o0 := ok.1
    have o1 := ok.2.1
    have o2 := ok.2.2.2.1
    have o3 := ok.2.2.1
    have c7 := lc_c (xs := xs) hL 7 (7 : Int32) l3_7 (by decide)
    have ck := lc_c (xs := xs) hL (8 + k) ((8 : Int32) + i3 (k : Int)) (by rw [l3_8, i3_add]; rfl) (by omega)
    have u3' : ∀ s, F_L_up (scr L xs 7) (3 : Int32) s = rI (i3 (upZ (scr L xs 7) 3 : Int)) s := fun s => by rw [← up_code (scr L xs 7) (m := 3) (by decide) s]; rfl
    have le : ¬ i3 (upZ (scr L xs 7) 3 : Int) ≤ i3 (k : Int) := nle3 (by omega)
    have ul : ∀ s, F_L_up (scr L xs (8 + k)) (i3 ((R : Int) + C)) s = rI (i3 (upZ (scr L xs (8 + k)) (R + C) : Int)) s := fun s => by rw [← up_code (scr L xs (8 + k)) (m := R + C) (by omega) s]; rfl
    have uw : ∀ s, F_L_up (shrI (scr L xs (8 + k)) (5 : Int32)) (4 : Int32) s = rI (i3 (upZ (shrI (scr L xs (8 + k)) (5 : Int32)) 4 : Int)) s := fun s => by rw [← up_code (shrI (scr L xs (8 + k)) (5 : Int32)) (m := 4) (by decide) s]; rfl
    have hl := up_lt (scr L xs (8 + k)) (m := R + C) (by omega)
    have hw := up_lt (shrI (scr L xs (8 + k)) (5 : Int32)) (m := 4) (by decide)
    generalize upZ (scr L xs (8 + k)) (R + C) = l at ul hl
    generalize upZ (shrI (scr L xs (8 + k)) (5 : Int32)) 4 = w at uw hw
    have w1 := l_1 q1 (l := l) (by omega)
    obtain ⟨s1, g1, -, g3⟩ := g_c q1 (l := l) (n := w) (by omega) (by omega)
    refine ⟨(s1, actA B (setW (aP B) l w)), ⟨g3, (setW_R _ _ _).trans q2, (setW_C _ _ _).trans q3⟩, ?_⟩
    simp only [f_L_law_260, c7, cI_k, u3', if_neg le, ck, ul, w1, uw, g1, if_true, lt_k, inc3]
theorem wtc_0 {P : Pic} (ok : okP P) : wrg (wtc P (nR P + nC P)) = 0 := by
  have sm := wtc_same P (nR P + nC P)
  have w := (wtc_ok ok (Nat.le_refl _)).2
  unfold wrg
  rw [sm.1, sm.2.1, sm.2.2.1, zs_congr (g := fun _ => 0) (fun l hl => ?_), zs_zero]
  rw [w l hl, if_pos hl]
  have := cnt_0 (nR P) (fX P) l
  exact if_pos (by omega)
theorem wrg_bd (P : Pic) : 0 ≤ wrg P ∧ wrg P ≤ (nR P + nC P : Nat) := by
  refine ⟨zs_pos (fun l _ => by split <;> decide), ?_⟩
  have := zs_bnd (n := nR P + nC P) (f := fun l => if cnt (nR P) (fX P) l = wnt P l then (0 : Int) else 1) 1 (fun l _ => by split <;> decide)
  unfold wrg
  omega
/-- up to the cell (r, c) all is drawn, nothing behind it -/
def drw (R C r c : Nat) (P : Pic) : Prop := nR P = R ∧ nC P = C ∧ (∀ a b, zc (fX P) a b → a < r ∨ (a = r ∧ b < c)) ∧ ∀ a b, zc (fP P) a b → a < r ∨ (a = r ∧ b < c)
theorem law_cell (hL : L ≤ 260) {R C r c : Nat} (h : cInv μ A) (hd : drw R C r c (aP A)) (hr : r < R) (hc : c < C) (k134 : Int32 → Int32 → Int32 → Mem → Out) (n : Nat) (q : Int32) :
    ∃ μ' A', f_L_law_153 L xs k134 (n + 1) (i3 (R : Int)) (i3 (C : Int)) (i3 (r : Int)) q (i3 (c : Int)) μ = f_L_law_153 L xs k134 n (i3 (R : Int)) (i3 (C : Int)) (i3 (r : Int)) q (i3 ((c + 1 : Nat) : Int)) μ' ∧ cInv μ' A' ∧ drw R C r (c + 1) (aP A') := by
  obtain ⟨d1, d2, d3, d4⟩ := hd
  have ok := h.2.1
  have o1 := ok.2.1
  have o2 := ok.2.2.2.1
  have hp : tb (fP (aP A)) (8 * r + c) = false := tb_f (fun w => by have := d4 r c ⟨by omega, by omega, w⟩; omega)
  have hx : tb (fX (aP A)) (8 * r + c) = false := tb_f (fun w => by have := d3 r c ⟨by omega, by omega, w⟩; omega)
  have el : ¬ i3 (C : Int) ≤ i3 (c : Int) := nle3 (by omega)
  have key : ∀ b : Bool, ∃ μ' A', f_L_law_180 L xs k134 (f_L_law_153 L xs k134 n) (i3 (R : Int)) (i3 (C : Int)) (i3 (r : Int)) q (i3 (c : Int)) (i3 (b2 b)) (i3 (c : Int)) (i3 (r : Int)) μ = f_L_law_153 L xs k134 n (i3 (R : Int)) (i3 (C : Int)) (i3 (r : Int)) q (i3 ((c + 1 : Nat) : Int)) μ' ∧ cInv μ' A' ∧ drw R C r (c + 1) (aP A') := by
    intro b
    obtain ⟨s1, f1, -, f3⟩ := f_c h (r := r) (c := c) (by omega) (by omega) b hp
    rw [hx] at f1
    have f1' : F_X7_fill (i3 (r : Int)) (i3 (c : Int)) (i3 (b2 b)) μ = rI (0 : Int32) s1 := f1
    have dX : ∀ a b', zc (setB (fX (aP A)) r c b) a b' → a < r ∨ (a = r ∧ b' < c + 1) := fun a b' w => by
      rw [zc_setB (by omega) (by omega)] at w
      by_cases e : a = r ∧ b' = c
      · omega
      · rw [if_neg e] at w
        have := d3 a b' w
        omega
    by_cases q3 : (shrI q ((6 : Int32) + ((2 : Int32) * i3 (c : Int)))) &&& (3 : Int32) = (3 : Int32)
    · obtain ⟨s2, g1, -, g3⟩ := n_c f3 (r := r) (c := c) (by show r < nR (aP A); omega) (by show c < nC (aP A); omega) true
      have g1' : F_X7_pin (i3 (r : Int)) (i3 (c : Int)) (1 : Int32) s1 = rI (i3 (b2 (tb (fP (aP A)) (8 * r + c)))) s2 := g1
      rw [hp] at g1'
      refine ⟨s2, _, ?_, g3, d1, d2, dX, fun a b' w => ?_⟩
      · simp only [f_L_law_180, f1', cI_k, if_true, if_pos q3, g1', b2_f, iz0, lt_k, inc3]
      · have w : zc (setB (fP (aP A)) r c true) a b' := w
        rw [zc_setB (by omega) (by omega)] at w
        by_cases e : a = r ∧ b' = c
        · omega
        · rw [if_neg e] at w
          have := d4 a b' w
          omega
    · refine ⟨s1, _, ?_, f3, d1, d2, dX, fun a b' w => by have := d4 a b' w; omega⟩
      simp only [f_L_law_180, f1', cI_k, if_true, if_neg q3, lt_k, inc3]
  have e1 : (1 : Int32) = i3 (b2 true) := l3_1
  have e0 : (0 : Int32) = i3 (b2 false) := l3_0
  simp only [f_L_law_153, if_neg el]
  by_cases w : (shrI q (i3 (c : Int))) &&& (1 : Int32) = (1 : Int32)
  · rw [if_pos w]
    have := key true
    rw [← e1] at this
    exact this
  · rw [if_neg w]
    have := key false
    rw [← e0] at this
    exact this
theorem law_134 (hL : L ≤ 260) {R C : Nat} (hR : 1 ≤ R ∧ R ≤ 6) (hC : 1 ≤ C ∧ C ≤ 6) (h : cInv μ A) (hd : drw R C 0 0 (aP A)) : ∃ μ', f_L_law_134 L xs BIG (i3 (R : Int)) (i3 (C : Int)) (0 : Int32) μ = rI (1 : Int32) μ' := by
  rw [show (0 : Int32) = i3 ((0 : Nat) : Int) from l3_0]
  refine loop_st (σ := Mem × Ab) (fun n r z => f_L_law_134 L xs n (i3 (R : Int)) (i3 (C : Int)) (i3 (r : Int)) z.1) (fun r z => cInv z.1 z.2 ∧ drw R C r 0 (aP z.2)) (fun o => ∃ μ', o = rI (1 : Int32) μ') R ?_ ?_ BIG 0 (μ, A) (by omega) (BIG_lt (by omega)) ⟨h, hd⟩
  · rintro n ⟨s, B⟩ ⟨q1, q2⟩
    simp only at q1 q2
    obtain ⟨d1, d2, -, -⟩ := q2
    have le : i3 (R : Int) ≤ i3 (R : Int) := le3 (by omega)
    obtain ⟨s1, g1, -, g3⟩ := ga_c q1
    have sm := wtc_same (aP B) (nR (aP B) + nC (aP B))
    have g6 := a_6 g3
    have e0 : wrg (aP (actA B (wtc (aP B) (nR (aP B) + nC (aP B))))) = 0 := wtc_0 q1.2.1
    rw [e0] at g6
    have wb := wrg_bd (aP B)
    rw [d1, d2] at wb
    have lb : i3 (wrg (aP B)) ≤ i3 ((R : Int) + C) := le3 (by omega)
    obtain ⟨s2, w⟩ := law_260 (xs := xs) hL g3 (R := R) (C := C) (sm.1.trans d1) (sm.2.1.trans d2)
    refine ⟨s2, ?_⟩
    simp only [f_L_law_134, if_pos le, lt_k, g1, cI_k, g6, iz0, if_true, i3_add, if_pos lb]
    exact w
  · rintro n r ⟨s, B⟩ hr ⟨q1, q2⟩
    simp only at q1 q2
    left
    have le : ¬ i3 (R : Int) ≤ i3 (r : Int) := nle3 (by omega)
    have cr := lc_c (xs := xs) hL (1 + r) ((1 : Int32) + i3 (r : Int)) (by rw [l3_1, i3_add]; rfl) (by omega)
    have inner : ∃ z : Mem × Ab, (cInv z.1 z.2 ∧ drw R C (r + 1) 0 (aP z.2)) ∧ f_L_law_153 L xs (f_L_law_134 L xs n) BIG (i3 (R : Int)) (i3 (C : Int)) (i3 (r : Int)) (scr L xs (1 + r)) (i3 ((0 : Nat) : Int)) s = f_L_law_134 L xs n (i3 (R : Int)) (i3 (C : Int)) (i3 ((r + 1 : Nat) : Int)) z.1 := by
      refine loop_st (σ := Mem × Ab) (fun m c z => f_L_law_153 L xs (f_L_law_134 L xs n) m (i3 (R : Int)) (i3 (C : Int)) (i3 (r : Int)) (scr L xs (1 + r)) (i3 (c : Int)) z.1) (fun c z => cInv z.1 z.2 ∧ drw R C r c (aP z.2)) (fun o => ∃ z : Mem × Ab, (cInv z.1 z.2 ∧ drw R C (r + 1) 0 (aP z.2)) ∧ o = f_L_law_134 L xs n (i3 (R : Int)) (i3 (C : Int)) (i3 ((r + 1 : Nat) : Int)) z.1) C ?_ ?_ BIG 0 (s, B) (by omega) (BIG_lt (by omega)) ⟨q1, q2⟩
      · rintro m ⟨s, B⟩ ⟨p1, p2⟩
        simp only at p1 p2
        obtain ⟨d1, d2, d3, d4⟩ := p2
        have el : i3 (C : Int) ≤ i3 (C : Int) := le3 (by omega)
        refine ⟨(s, B), ⟨p1, d1, d2, fun a b w => by have := d3 a b w; omega, fun a b w => by have := d4 a b w; omega⟩, ?_⟩
        simp only [f_L_law_153, if_pos el, lt_k, inc3]
      · rintro m c ⟨s, B⟩ hc ⟨p1, p2⟩
        simp only at p1 p2
        left
        obtain ⟨s', B', w1, w2, w3⟩ := law_cell (xs := xs) hL p1 p2 hr hc (f_L_law_134 L xs n) m (scr L xs (1 + r))
        exact ⟨(s', B'), ⟨w2, w3⟩, w1⟩
    obtain ⟨z, z1, z2⟩ := inner
    refine ⟨z, z1, ?_⟩
    simp only [f_L_law_134, if_neg le, cr, cI_k]
    rw [show (0 : Int32) = i3 ((0 : Nat) : Int) from l3_0]
    exact z2
end LW
