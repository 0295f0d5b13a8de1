/-! the law's check of the pieces -/
section PC
variable {μ : Mem} {A : Ab}
theorem pq_c (h : cInv μ A) {n p : Nat} (hn : npc (zc (fX (aP A))) n) (hp : p < n) (h36 : n ≤ 36) : F_X7_piece (i3 (p : Int)) (0 : Int32) μ = rI (i3 (pc (yq (fX (aP A)) p))) μ ∧ F_X7_piece (i3 (p : Int)) (1 : Int32) μ = rI (i3 (outl (yq (fX (aP A)) p) (fX (aP A)))) μ ∧
    F_X7_piece (i3 (p : Int)) (2 : Int32) μ = rI (i3 (rws (yq (fX (aP A)) p))) μ ∧ F_X7_piece (i3 (p : Int)) (3 : Int32) μ = rI (i3 (cls (yq (fX (aP A)) p))) μ ∧
    ∀ r c, isF (zc (yq (fX (aP A)) p)) r c → r < 6 → c < 6 → F_X7_piece (i3 (p : Int)) (4 : Int32) μ = rI (i3 (10 * (r : Int) + c)) μ := by
  obtain ⟨y, y1, y2, y3⟩ := p_c h hn hp
  have e := yq_eq (brdX h.2.1 h.2.1.2.2.2.2.1) (show p < 48 by omega) y2
  subst e
  refine ⟨?_, ?_, ?_, ?_, fun r c hF hr hc => ?_⟩
  · rw [y3, if_pos (by decide)]
  · rw [y3, if_neg (by decide), if_pos (by decide)]
  · rw [y3, if_neg (by decide), if_neg (by decide), if_pos (by decide)]; rfl
  · rw [y3, if_neg (by decide), if_neg (by decide), if_neg (by decide), if_pos (by decide)]; rfl
  · rw [y3, if_neg (by decide), if_neg (by decide), if_neg (by decide), if_neg (by decide), if_pos (by decide), firstPosition_code μ hF, cI_k, code_code (by omega), cI_k]
    congr 3 <;> omega
/-- the law's first loop: piece by piece -/
def lastP (x : Int64) (p : Nat) (v : Int) : Prop := (p = 0 ∧ v = -1) ∨ (1 ≤ p ∧ ∃ r c : Nat, isF (rs (zc x) (p - 1)) r c ∧ r < 6 ∧ c < 6 ∧ v = 10 * (r : Int) + c)
theorem rws_6 (y : Int64) : 0 ≤ rws y ∧ rws y ≤ 6 ∧ 0 ≤ cls y ∧ cls y ≤ 6 := by
  have a := zs_bnd (n := 6) (f := fun r => ib (∃ c, zc y r c)) 1 (fun i _ => (ib_01 _).2)
  have b := zs_bnd (n := 6) (f := fun c => ib (∃ r, zc y r c)) 1 (fun i _ => (ib_01 _).2)
  have c := zs_pos (n := 6) (f := fun r => ib (∃ c, zc y r c)) (fun i _ => (ib_01 _).1)
  have d := zs_pos (n := 6) (f := fun c => ib (∃ r, zc y r c)) (fun i _ => (ib_01 _).1)
  unfold rws cls
  omega
theorem isPc_m {S : CS} {r c m : Nat} {v : Int} (h : isPc S r c v) (hm : cmp (rs S m) r c) : v = m := by
  rcases h with ⟨-, m', -, a, rfl⟩ | ⟨a, -⟩
  · rw [cmp_uni a hm]
  · exact absurd (rs_in (cmp_in hm)) a
theorem pieces_one (h : cInv μ A) {n p : Nat} (hn : npc (zc (fX (aP A))) n) (hp : p < n) (h36 : n ≤ 36) (N : Nat) (x4 x5 : Int) {v : Int} (hv : lastP (fX (aP A)) p v) :
    ∃ v', lastP (fX (aP A)) (p + 1) v' ∧ f_L_pieces_25 (N + 1) (i3 (n : Int)) (V (fX (aP A))) (i3 x4) (i3 x5) (i3 v) (i3 (p : Int)) μ = f_L_pieces_25 N (i3 (n : Int)) (V (fX (aP A))) (i3 (x4 + pc (yq (fX (aP A)) p))) (i3 (x5 + outl (yq (fX (aP A)) p) (fX (aP A)))) (i3 v') (i3 ((p + 1 : Nat) : Int)) μ := by
  have ok := h.2.1
  have bX := brdX ok ok.2.2.2.2.1
  obtain ⟨r, c, f1, f2, f3, f4, f5, f6, f7, f8⟩ := pc_one bX hn hp h36
  obtain ⟨q0, q1, q2, q3, q4⟩ := pq_c h hn hp h36
  have q4 := q4 r c f4 f2 f3
  have hin := ok.2.2.2.2.1 r c (rs_in f1.1)
  obtain ⟨w, w1, w2⟩ := e_2 h hin.1 hin.2
  have ew : w = p := isPc_m w2 (cmp_F f1)
  subst ew
  have b1 := pc_le (yq (fX (aP A)) p)
  have b2' := pc_nn (yq (fX (aP A)) p)
  have b3 := rws_6 (yq (fX (aP A)) p)
  have b4 := outl_bd (yq (fX (aP A)) p) (fX (aP A))
  have e1 : i3 (10 * (r : Int) + c) / (10 : Int32) = i3 (r : Int) := by rw [l3_10, i3_div (by omega) (by decide)]; congr 1; omega
  have e2 : remI (i3 (10 * (r : Int) + c)) (10 : Int32) = i3 (c : Int) := by rw [l3_10, i3_rem (by omega) (by decide)]; congr 1; omega
  have hlt : v < 10 * (r : Int) + c := by
    rcases hv with ⟨-, rfl⟩ | ⟨hp1, a, b, g1, g2, g3, rfl⟩
    · omega
    · have := first_up g1 (by rw [show p - 1 + 1 = p from by omega]; exact f1)
      omega
  have hv0 : -1 ≤ v := by
    rcases hv with ⟨-, rfl⟩ | ⟨hp1, a, b, g1, g2, g3, rfl⟩ <;> omega
  refine ⟨10 * (r : Int) + c, Or.inr ⟨by omega, r, c, by rw [show p + 1 - 1 = p from by omega]; exact f1, f2, f3, rfl⟩, ?_⟩
  have n1 : ¬ i3 (n : Int) ≤ i3 (p : Int) := nle3 (by omega)
  have n2 : ¬ i3 (10 * (r : Int) + c) ≤ i3 v := nle3 (by omega)
  have n3 : ¬ i3 (pc (yq (fX (aP A)) p)) < i3 (rws (yq (fX (aP A)) p)) := nlt3 (by omega)
  have n4 : ¬ i3 (pc (yq (fX (aP A)) p)) < i3 (cls (yq (fX (aP A)) p)) := nlt3 (by omega)
  have n5 : ¬ i3 (pc (yq (fX (aP A)) p)) < i3 (rws (yq (fX (aP A)) p) + cls (yq (fX (aP A)) p)) - (1 : Int32) := by rw [l3_1, i3_sub]; exact nlt3 (by omega)
  have n6 : (4 : Int32) ≤ i3 (outl (yq (fX (aP A)) p) (fX (aP A))) := by rw [l3_4]; exact le3 (by omega)
  simp only [f_L_pieces_25, if_neg n1, q4, cI_k, if_neg n2, e1, e2, w1, if_true, q0, q2, if_neg n3, q3, if_neg n4, i3_add, if_neg n5, q1, if_pos n6, lt_k, inc3]
/-- the sides of a cell -/
abbrev sdf (x : Int64) (r c : Nat) : Int := b2 (tb x (8 * r + c)) * osd x r c
theorem gz_up (x : Int64) {r c : Nat} (hr : r < 6) (hc : c < 6) : gz x ((r : Int) - 1) (c : Int) = (decide (1 ≤ r) && tb x (8 * r + c - 8)) := by
  unfold gz
  by_cases h : 1 ≤ r
  · rw [decide_eq_true (show 0 ≤ (r : Int) - 1 ∧ (r : Int) - 1 < 6 ∧ 0 ≤ (c : Int) ∧ (c : Int) < 6 by omega), decide_eq_true h, show 8 * ((r : Int) - 1).toNat + (c : Int).toNat = 8 * r + c - 8 by omega]
  · rw [decide_eq_false (by omega), decide_eq_false h]; rfl
theorem gz_lf (x : Int64) {r c : Nat} (hr : r < 6) (hc : c < 6) : gz x (r : Int) ((c : Int) - 1) = (decide (1 ≤ c) && tb x (8 * r + c - 1)) := by
  unfold gz
  by_cases h : 1 ≤ c
  · rw [decide_eq_true (show 0 ≤ (r : Int) ∧ (r : Int) < 6 ∧ 0 ≤ (c : Int) - 1 ∧ (c : Int) - 1 < 6 by omega), decide_eq_true h, show 8 * (r : Int).toNat + ((c : Int) - 1).toNat = 8 * r + c - 1 by omega]
  · rw [decide_eq_false (by omega), decide_eq_false h]; rfl
theorem gz_dn {x : Int64} (hx : brd x) {r c : Nat} (hr : r < 6) (hc : c < 6) : gz x ((r : Int) + 1) (c : Int) = tb x (8 * r + c + 8) := by
  unfold gz
  by_cases h : r + 1 < 6
  · rw [decide_eq_true (show 0 ≤ (r : Int) + 1 ∧ (r : Int) + 1 < 6 ∧ 0 ≤ (c : Int) ∧ (c : Int) < 6 by omega), show 8 * ((r : Int) + 1).toNat + (c : Int).toNat = 8 * r + c + 8 by omega]; rfl
  · rw [decide_eq_false (by omega)]
    refine (tb_f (fun w => ?_)).symm
    have := hx (8 * r + c + 8) (by omega) w
    omega
theorem gz_rt {x : Int64} (hx : brd x) {r c : Nat} (hr : r < 6) (hc : c < 6) : gz x (r : Int) ((c : Int) + 1) = tb x (8 * r + c + 1) := by
  unfold gz
  by_cases h : c + 1 < 6
  · rw [decide_eq_true (show 0 ≤ (r : Int) ∧ (r : Int) < 6 ∧ 0 ≤ (c : Int) + 1 ∧ (c : Int) + 1 < 6 by omega), show 8 * (r : Int).toNat + ((c : Int) + 1).toNat = 8 * r + c + 1 by omega]; rfl
  · rw [decide_eq_false (by omega)]
    refine (tb_f (fun w => ?_)).symm
    have := hx (8 * r + c + 1) (by omega) w
    omega
set_option maxHeartbeats 2000000 in
theorem pieces_cell (h : cInv μ A) {n : Nat} (hn : npc (zc (fX (aP A))) n) (h36 : n ≤ 36) (k181 : Int32 → Int64 → Int32 → Int32 → Int32 → Int32 → Mem → Out) (m : Nat) (x4 x5 : Int32) (s : Int) {r c : Nat} (hr : r < nR (aP A)) (hc : c < nC (aP A)) :
    f_L_pieces_194 k181 (m + 1) (i3 (n : Int)) (V (fX (aP A))) x4 x5 (i3 s) (i3 (r : Int)) (i3 (c : Int)) μ = f_L_pieces_194 k181 m (i3 (n : Int)) (V (fX (aP A))) x4 x5 (i3 (s + sdf (fX (aP A)) r c)) (i3 (r : Int)) (i3 ((c + 1 : Nat) : Int)) μ := by
  have ok := h.2.1
  have o1 := ok.2.1
  have o2 := ok.2.2.2.1
  have bX := brdX ok ok.2.2.2.2.1
  have hin := ok.2.2.2.2.1
  obtain ⟨v, v1, v2⟩ := e_2 h hr hc
  have n1 : ¬ i3 (nC (aP A) : Int) ≤ i3 (c : Int) := nle3 (by omega)
  have a0 := at_nat (fX (aP A)) (r := r) (c := c) (by omega) (by omega) μ
  have a1 := at_code (fX (aP A)) (r := (r : Int) - 1) (c := c) (by omega) (by omega) μ
  have a2 := at_code (fX (aP A)) (r := (r : Int) + 1) (c := c) (by omega) (by omega) μ
  have a3 := at_code (fX (aP A)) (r := r) (c := (c : Int) - 1) (by omega) (by omega) μ
  have a4 := at_code (fX (aP A)) (r := r) (c := (c : Int) + 1) (by omega) (by omega) μ
  rw [gz_up _ (by omega) (by omega)] at a1
  rw [gz_dn bX (by omega) (by omega)] at a2
  rw [gz_lf _ (by omega) (by omega)] at a3
  rw [gz_rt bX (by omega) (by omega)] at a4
  have d1 : ∀ a : Int, i3 a - (1 : Int32) = i3 (a - 1) := fun a => by rw [l3_1, i3_sub]
  have tX := tb_iff (x := fX (aP A)) (r := r) (c := c) (by omega) (by omega)
  have vb : -9 ≤ v ∧ v < 36 := by
    rcases v2 with ⟨-, m, a, -, rfl⟩ | ⟨-, rfl⟩ <;> omega
  have incc : i3 ((c : Int) + 1) = i3 ((c + 1 : Nat) : Int) := by congr 1
  rw [← incc]
  have right : tb (fX (aP A)) (8 * r + c) = true → tb (fX (aP A)) (8 * r + c + 1) = true → F_X7_cell (i3 (r : Int)) (i3 ((c : Int) + 1)) (2 : Int32) μ = rI (i3 v) μ := fun g1 g2 => by
    have z2 : zc (fX (aP A)) r (c + 1) := ⟨by omega, by omega, g2⟩
    have i2 := hin _ _ z2
    obtain ⟨v', w1, w2⟩ := e_2 h i2.1 i2.2
    have := isPc_nb v2 w2 (tX.mp g1) z2 (Or.inl ⟨rfl, Or.inl rfl⟩)
    subst this
    rw [incc]; exact w1
  have below : tb (fX (aP A)) (8 * r + c) = true → tb (fX (aP A)) (8 * r + c + 8) = true → F_X7_cell (i3 ((r : Int) + 1)) (i3 (c : Int)) (2 : Int32) μ = rI (i3 v) μ := fun g1 g2 => by
    have z2 : zc (fX (aP A)) (r + 1) c := ⟨by omega, by omega, by rw [show 8 * (r + 1) + c = 8 * r + c + 8 from by omega]; exact g2⟩
    have i2 := hin _ _ z2
    obtain ⟨v', w1, w2⟩ := e_2 h i2.1 i2.2
    have := isPc_nb v2 w2 (tX.mp g1) z2 (Or.inr ⟨rfl, Or.inl rfl⟩)
    subst this
    rw [show i3 ((r : Int) + 1) = i3 ((r + 1 : Nat) : Int) from by congr 1]; exact w1
  cases hg : tb (fX (aP A)) (8 * r + c)
  · have ev : v = -9 := by
      rcases v2 with ⟨q, -⟩ | ⟨-, q⟩
      · exact absurd (tX.mpr q) (by rw [hg]; decide)
      · exact q
    subst ev
    rw [hg] at a0
    have e9 : i3 (-9) = (-9 : Int32) := l3_m9.symm
    simp only [f_L_pieces_194, a_1 h, cI_k, if_neg n1, a0, v1, b2_f, iz0, j01, if_false, f_L_pieces_282, f_L_pieces_324, f_L_pieces_365, if_true, e9, lt_k, ad0, ad1, sdf, hg, Int.zero_mul]
  · have zX := tX.mp hg
    obtain ⟨p, hp, hp2, ev⟩ : ∃ p : Nat, p < n ∧ True ∧ v = p := by
      rcases v2 with ⟨-, m, a, b, e⟩ | ⟨q, -⟩
      · exact ⟨m, isPc_lt hn b, trivial, e⟩
      · exact absurd zX q
    have n2 : ¬ i3 v < (0 : Int32) := by rw [l3_0]; exact nlt3 (by omega)
    have n3 : ¬ i3 (n : Int) ≤ i3 v := nle3 (by omega)
    have right := right hg
    have below := below hg
    rw [hg] at a0
    have es : sdf (fX (aP A)) r c = 4 - b2 (decide (1 ≤ r) && tb (fX (aP A)) (8 * r + c - 8)) - b2 (tb (fX (aP A)) (8 * r + c + 8)) - b2 (decide (1 ≤ c) && tb (fX (aP A)) (8 * r + c - 1)) - b2 (tb (fX (aP A)) (8 * r + c + 1)) := by
      show b2 (tb (fX (aP A)) (8 * r + c)) * osd (fX (aP A)) r c = _
      rw [hg, b2_t, Int.one_mul]
      unfold osd
      omega
    rw [es]
    generalize (decide (1 ≤ r) && tb (fX (aP A)) (8 * r + c - 8)) = g1 at *
    generalize (decide (1 ≤ c) && tb (fX (aP A)) (8 * r + c - 1)) = g3 at *
    simp only [f_L_pieces_194, a_1 h, cI_k, if_neg n1, a0, v1, b2_t, i3o, j11, j10, if_true, if_false, d1, ad1, a1, a2, a3, a4, l3_4, i3_sub, f_L_pieces_282, lt_k, i3_add]
    have e4 : ∀ a b c d : Int, s + (4 - a - b - c - d) = s + (4 - a - b - c - d) := fun _ _ _ _ => rfl
    cases hr1 : tb (fX (aP A)) (8 * r + c + 1)
    · cases hb1 : tb (fX (aP A)) (8 * r + c + 8)
      · simp only [b2_f, iz0, j00, if_true, f_L_pieces_324, j10, if_false, ad1, a2, hb1, cI_k, f_L_pieces_365, if_neg n2, if_neg n3, lt_k]
      · simp only [b2_f, b2_t, iz0, i3o, j00, if_true, f_L_pieces_324, j10, if_false, ad1, a2, hb1, cI_k, below hb1, f_L_pieces_365, if_neg n2, if_neg n3, lt_k]
    · cases hb1 : tb (fX (aP A)) (8 * r + c + 8)
      · simp only [b2_f, b2_t, iz0, i3o, j00, if_true, right hr1, f_L_pieces_324, j10, if_false, ad1, a2, hb1, cI_k, f_L_pieces_365, if_neg n2, if_neg n3, lt_k]
      · simp only [b2_f, b2_t, iz0, i3o, j00, if_true, right hr1, f_L_pieces_324, j10, if_false, ad1, a2, hb1, cI_k, below hb1, f_L_pieces_365, if_neg n2, if_neg n3, lt_k]
theorem z2_bd {R C : Nat} (hR : R ≤ 6) (hC : C ≤ 6) {g : Nat → Nat → Int} (h : ∀ r c, r < 6 → c < 6 → ¬ (r < R ∧ c < C) → g r c = 0) : z2 g = zs R (fun r => zs C (g r)) := by
  unfold z2
  rw [zs_ext0 (n := R) (m := 6) hR (fun r h1 h2 => (zs_congr (g := fun _ => 0) (fun c hc => h r c h2 hc (by omega))).trans (zs_zero 6))]
  exact zs_congr (fun r hr => zs_ext0 hC (fun c h1 h2 => h r c (by omega) h2 (by omega)))
theorem pieces_code (h : cInv μ A) : F_L_pieces μ = rI (1 : Int32) μ := by
  have ok := h.2.1
  have o1 := ok.2.1
  have o2 := ok.2.2.2.1
  have bX := brdX ok ok.2.2.2.2.1
  obtain ⟨n, n1, n2, n3⟩ := a_7 h
  obtain ⟨t1, t2⟩ := pcs_all bX n2 n3
  simp only [F_L_pieces, n1, cI_k, bits_0 h, cJ_k]
  have inner : f_L_pieces_181 BIG (i3 (n : Int)) (V (fX (aP A))) (i3 (pc (fX (aP A)))) (i3 (outl (fX (aP A)) (fX (aP A)))) (0 : Int32) (0 : Int32) μ = rI (1 : Int32) μ := by
    rw [show f_L_pieces_181 BIG (i3 (n : Int)) (V (fX (aP A))) (i3 (pc (fX (aP A)))) (i3 (outl (fX (aP A)) (fX (aP A)))) (0 : Int32) (0 : Int32) μ = f_L_pieces_181 BIG (i3 (n : Int)) (V (fX (aP A))) (i3 (pc (fX (aP A)))) (i3 (outl (fX (aP A)) (fX (aP A)))) (i3 0) (i3 ((0 : Nat) : Int)) μ from by rw [l3_0]; exact nr rfl]
    refine loop_rd (σ := Int) (fun N i s => f_L_pieces_181 N (i3 (n : Int)) (V (fX (aP A))) (i3 (pc (fX (aP A)))) (i3 (outl (fX (aP A)) (fX (aP A)))) (i3 s) (i3 (i : Int)) μ) (fun N m i j s => f_L_pieces_194 (f_L_pieces_181 N) m (i3 (n : Int)) (V (fX (aP A))) (i3 (pc (fX (aP A)))) (i3 (outl (fX (aP A)) (fX (aP A)))) (i3 s) (i3 (i : Int)) (i3 (j : Int)) μ)
      (fun i s => s = zs i (fun r => zs (nC (aP A)) (sdf (fX (aP A)) r))) (fun i j s => s = zs i (fun r => zs (nC (aP A)) (sdf (fX (aP A)) r)) + zs j (sdf (fX (aP A)) i)) (fun o => o = rI (1 : Int32) μ) (nR (aP A)) (nC (aP A)) (by omega) ?_ ?_ ?_ ?_ BIG 0 0 (by omega) (BIG_lt (by omega)) rfl
    · rintro N s rfl
      have e : zs (nR (aP A)) (fun r => zs (nC (aP A)) (sdf (fX (aP A)) r)) = outl (fX (aP A)) (fX (aP A)) := by
        show _ = z2 (fun r c => sdf (fX (aP A)) r c)
        rw [z2_bd o1 o2 (fun r c hr hc hn => by
          have : tb (fX (aP A)) (8 * r + c) = false := tb_f (fun w => hn (ok.2.2.2.2.1 r c ⟨by omega, by omega, w⟩))
          show b2 (tb (fX (aP A)) (8 * r + c)) * _ = 0
          rw [this]; exact Int.zero_mul _)]
      rw [e]
      have el : i3 (nR (aP A) : Int) ≤ i3 (nR (aP A) : Int) := le3 (by omega)
      simp only [f_L_pieces_181, a_0 h, cI_k, if_pos el, ones_V bX, if_true, a_8 h]
    · rintro N i s hi rfl
      have el : ¬ i3 (nR (aP A) : Int) ≤ i3 (i : Int) := nle3 (by omega)
      refine ⟨_, by rw [zs_0, Int.add_zero], ?_⟩
      simp only [f_L_pieces_181, a_0 h, cI_k, if_neg el]
      rw [show (0 : Int32) = i3 ((0 : Nat) : Int) from l3_0]
    · rintro N m i s hi rfl
      have el : i3 (nC (aP A) : Int) ≤ i3 (nC (aP A) : Int) := le3 (by omega)
      refine ⟨_, (zs_s _ _).symm, ?_⟩
      simp only [f_L_pieces_194, a_1 h, cI_k, if_pos el, lt_k, inc3]
    · rintro N m i j s hi hj rfl
      exact ⟨_, by rw [zs_s, Int.add_assoc], pieces_cell h n2 n3 _ m _ _ _ hi hj⟩
  rw [show f_L_pieces_25 BIG (i3 (n : Int)) (V (fX (aP A))) (0 : Int32) (0 : Int32) (-1 : Int32) (0 : Int32) μ = f_L_pieces_25 BIG (i3 (n : Int)) (V (fX (aP A))) (i3 (zs 0 (fun q => pc (yq (fX (aP A)) q)))) (i3 (zs 0 (fun q => outl (yq (fX (aP A)) q) (fX (aP A))))) (i3 (-1)) (i3 ((0 : Nat) : Int)) μ from by rw [l3_0, l3_m1]; exact nr rfl]
  refine loop_st (σ := Int) (fun N p v => f_L_pieces_25 N (i3 (n : Int)) (V (fX (aP A))) (i3 (zs p (fun q => pc (yq (fX (aP A)) q)))) (i3 (zs p (fun q => outl (yq (fX (aP A)) q) (fX (aP A))))) (i3 v) (i3 (p : Int)) μ) (fun p v => lastP (fX (aP A)) p v) (fun o => o = rI (1 : Int32) μ) n ?_ ?_ BIG 0 (-1) (by omega) (BIG_lt (by omega)) (Or.inl ⟨rfl, rfl⟩)
  · rintro N v hv
    have el : i3 (n : Int) ≤ i3 (n : Int) := le3 (by omega)
    simp only [f_L_pieces_25, if_pos el, t1, t2]
    exact inner
  · rintro N p v hp hv
    left
    obtain ⟨v', w1, w2⟩ := pieces_one h n2 hp n3 N (zs p (fun q => pc (yq (fX (aP A)) q))) (zs p (fun q => outl (yq (fX (aP A)) q) (fX (aP A)))) hv
    refine ⟨v', w1, ?_⟩
    rw [zs_s, zs_s]
    exact w2
end PC
