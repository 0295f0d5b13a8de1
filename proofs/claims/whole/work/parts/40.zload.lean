/-! a picture out of the text -/
def wts (P : Pic) (w : Nat → Nat) : Nat → Pic
  | 0 => P
  | i + 1 => setW (wts P w i) i (w i)
theorem wts_same (P : Pic) (w : Nat → Nat) (i : Nat) : nR (wts P w i) = nR P ∧ nC (wts P w i) = nC P ∧ fX (wts P w i) = fX P ∧ fP (wts P w i) = fP P := by
  induction i with
  | zero => exact ⟨rfl, rfl, rfl, rfl⟩
  | succ i ih =>
    unfold wts
    rw [setW_R, setW_C, setW_X, setW_P]
    exact ih
theorem wts_ok {P : Pic} (ok : okP P) {w : Nat → Nat} (hw : ∀ l, l < nR P + nC P → w l ≤ 6) {i : Nat} (hi : i ≤ nR P + nC P) : okP (wts P w i) ∧ ∀ l, l < nR P + nC P → wnt (wts P w i) l = if l < i then w l else wnt P l := by
  induction i with
  | zero => exact ⟨ok, fun l _ => by rw [if_neg (by omega)]; rfl⟩
  | succ i ih =>
    obtain ⟨h1, h2⟩ := ih (by omega)
    have hs := wts_same P w i
    unfold wts
    refine ⟨setW_ok h1 (hw i (by omega)) (by rw [hs.1, hs.2.1]; omega), fun l hl => ?_⟩
    rw [setW_wnt h1 (hw i (by omega)) (by rw [hs.1, hs.2.1]; omega) (by rw [hs.1, hs.2.1]; omega), h2 l hl]
    by_cases e : l = i
    · subst e; rw [if_pos rfl, if_pos (by omega)]
    · rw [if_neg e]
      by_cases e2 : l < i
      · rw [if_pos e2, if_pos (by omega)]
      · rw [if_neg e2, if_neg (by omega)]
/-- the text is a picture of R rows and C columns -/
def gud (n : Nat) (t : Nat → Nat) (R C : Nat) : Prop := 3 ≤ n ∧ sg n t 1 = 48 + R ∧ sg n t 2 = 48 + C ∧ (1 ≤ R ∧ R ≤ 6) ∧ (1 ≤ C ∧ C ≤ 6) ∧ cE n t = ((3 + R * C : Nat) : Int) ∧ (n = 3 + R * C ∨ n = 4 + R * C + R + C) ∧
  (∀ i, 3 ≤ i → i < 3 + R * C → sg n t i = 46 ∨ sg n t i = 35 ∨ sg n t i = 44 ∨ sg n t i = 37) ∧ (¬ n = 3 + R * C → ∀ j, j < R + C → 48 ≤ sg n t (4 + R * C + j) ∧ sg n t (4 + R * C + j) ≤ 54)
theorem gud_of {n : Nat} {t : Nat → Nat} (h : errR n t (-9)) : ∃ R C, gud n t R C := by
  have hh : (∀ j, j < n → al n t j) ∧ whl n t := by
    rcases h with ⟨i, h1, h2, h3, h4⟩ | ⟨h1, h2, h3⟩ | ⟨h1, h2, h3⟩
    · omega
    · exact ⟨h1, h2⟩
    · omega
  obtain ⟨ha, hn3, hw⟩ := hh
  have a1 := ha 1 (by omega)
  have a2 := ha 2 (by omega)
  have b1 : 49 ≤ sg n t 1 ∧ sg n t 1 ≤ 54 := by unfold al at a1; omega
  have b2 : 49 ≤ sg n t 2 ∧ sg n t 2 ≤ 54 := by unfold al at a2; omega
  obtain ⟨R, hR⟩ : ∃ R, sg n t 1 = 48 + R := ⟨sg n t 1 - 48, by omega⟩
  obtain ⟨C, hC⟩ : ∃ C, sg n t 2 = 48 + C := ⟨sg n t 2 - 48, by omega⟩
  have hce : cE n t = ((3 + R * C : Nat) : Int) := by
    unfold cE
    rw [hR, hC, show ((48 + R : Nat) : Int) - 48 = (R : Int) from by omega, show ((48 + C : Nat) : Int) - 48 = (C : Int) from by omega]
    push_cast; rfl
  have hwe : wE n t = ((4 + R * C + R + C : Nat) : Int) := by
    unfold wE
    rw [hce, hR, hC]; omega
  have hnn : n = 3 + R * C ∨ n = 4 + R * C + R + C := by
    rw [hce, hwe] at hw; omega
  refine ⟨R, C, hn3, hR, hC, by omega, by omega, hce, hnn, fun i h1 h2 => ?_, fun h1 j hj => ?_⟩
  · have := ha i (by omega)
    unfold al at this
    rw [hce, hwe] at this
    omega
  · have := ha (4 + R * C + j) (by omega)
    unfold al at this
    rw [hce, hwe] at this
    omega
/-- Q is the picture of the text -/
def ldP (n : Nat) (t : Nat → Nat) (R C : Nat) (Q : Pic) : Prop := nR Q = R ∧ nC Q = C ∧ (∀ r c, zc (fX Q) r c ↔ (r < R ∧ c < C) ∧ (sg n t (3 + r * C + c) = 35 ∨ sg n t (3 + r * C + c) = 37)) ∧
  (∀ r c, zc (fP Q) r c ↔ (r < R ∧ c < C) ∧ (sg n t (3 + r * C + c) = 44 ∨ sg n t (3 + r * C + c) = 37)) ∧ okP Q ∧
  ∀ l, l < R + C → (wnt Q l : Int) = if n = 3 + R * C then cnt R (fX Q) l else (sg n t (4 + R * C + l) : Int) - 48
def drS (n : Nat) (t : Nat → Nat) (R C r c : Nat) (Q : Pic) : Prop := nR Q = R ∧ nC Q = C ∧ wU Q = 0 ∧ wV Q = 0 ∧
  (∀ a b, zc (fX Q) a b ↔ ((a < R ∧ b < C) ∧ (a < r ∨ (a = r ∧ b < c))) ∧ (sg n t (3 + a * C + b) = 35 ∨ sg n t (3 + a * C + b) = 37)) ∧
  (∀ a b, zc (fP Q) a b ↔ ((a < R ∧ b < C) ∧ (a < r ∨ (a = r ∧ b < c))) ∧ (sg n t (3 + a * C + b) = 44 ∨ sg n t (3 + a * C + b) = 37))
theorem dr_set {x : Int64} {R C r c : Nat} (hR : R ≤ 6) (hC : C ≤ 6) (hr : r < R) (hc : c < C) (p : Nat → Nat → Prop) (d : Bool) (hd : d = true ↔ p r c) (h : ∀ a b, zc x a b ↔ ((a < R ∧ b < C) ∧ (a < r ∨ (a = r ∧ b < c))) ∧ p a b) :
    ∀ a b, zc (setB x r c d) a b ↔ ((a < R ∧ b < C) ∧ (a < r ∨ (a = r ∧ b < c + 1))) ∧ p a b := by
  intro a b
  rw [zc_setB (by omega) (by omega)]
  by_cases e : a = r ∧ b = c
  · rw [if_pos e, hd]
    obtain ⟨rfl, rfl⟩ := e
    exact ⟨fun q => ⟨⟨⟨hr, hc⟩, Or.inr ⟨rfl, by omega⟩⟩, q⟩, fun q => q.2⟩
  · rw [if_neg e, h]
    constructor
    · rintro ⟨⟨q1, q2⟩, q3⟩; exact ⟨⟨q1, by omega⟩, q3⟩
    · rintro ⟨⟨q1, q2⟩, q3⟩
      refine ⟨⟨q1, ?_⟩, q3⟩
      rcases q2 with q2 | ⟨q2, q4⟩
      · exact Or.inl q2
      · exact Or.inr ⟨q2, by
          by_cases hbc : b = c
          · exact absurd ⟨q2, hbc⟩ e
          · omega⟩
theorem drawCell {s : Mem} {n : Nat} {t : Nat → Nat} (hT : cT s n t) {R C r c : Nat} (hg : gud n t R C) (hr : r < R) (hc : c < C) {Q : Pic} (hQ : CP s 2 Q) (hd : drS n t R C r c Q) (k16 : Int32 → Mem → Out) (m : Nat) :
    ∃ s' Q', f_X6_drawInto_26 2 k16 (m + 1) (i3 r) (i3 c) s = f_X6_drawInto_26 2 k16 m (i3 r) (i3 ((c + 1 : Nat) : Int)) s' ∧ CP s' 2 Q' ∧ drS n t R C r (c + 1) Q' ∧ fr [2] s s' := by
  obtain ⟨g1, g2, g3, g4, g5, g6, g7, g8, g9⟩ := hg
  obtain ⟨d1, d2, d3, d4, d5, d6⟩ := hd
  have hpos : r * C + c < R * C := by
    have := Nat.mul_le_mul_right C (show r + 1 ≤ R by omega)
    rw [Nat.add_mul] at this; omega
  have hRC : R * C ≤ 36 := Nat.mul_le_mul g4.2 g5.2
  have hsg := g8 (3 + r * C + c) (by omega) (by omega)
  have hidx : ((3 : Int32) + (i3 r * i3 C)) + i3 c = i3 ((3 + r * C + c : Nat) : Int) := by
    rw [l3_3, i3_mul, i3_add, i3_add]
    congr 1
  have hsign := signAt_code hT (i := 3 + r * C + c) (by omega)
  generalize hz : sg n t (3 + r * C + c) = z at hsg hsign
  have hbF : ∃ bF : Bool, (bF = true ↔ (z = 35 ∨ z = 37)) := ⟨decide (z = 35 ∨ z = 37), by simp⟩
  have hbP : ∃ bP : Bool, (bP = true ↔ (z = 44 ∨ z = 37)) := ⟨decide (z = 44 ∨ z = 37), by simp⟩
  obtain ⟨bF, hbF⟩ := hbF
  obtain ⟨bP, hbP⟩ := hbP
  have s1 := setFilled_code hQ (r := r) (c := c) (by omega) (by omega) bF
  have hQ1 := CP_X hQ (setB (fX Q) r c bF)
  have s2 := setPinned_code hQ1 (r := r) (c := c) (by omega) (by omega) bP
  have hQ2 := CP_Pn hQ1 (setB (fP Q) r c bP)
  refine ⟨_, _, ?_, hQ2, ⟨d1, d2, d3, d4, dr_set g4.2 g5.2 hr hc (fun a b => sg n t (3 + a * C + b) = 35 ∨ sg n t (3 + a * C + b) = 37) bF (by rw [hz]; exact hbF) d5, dr_set g4.2 g5.2 hr hc (fun a b => sg n t (3 + a * C + b) = 44 ∨ sg n t (3 + a * C + b) = 37) bP (by rw [hz]; exact hbP) d6⟩, fr_tr (fr_sJ (by simp)) (fr_sJ (by simp))⟩
  have e : ∀ k : Nat, k ≤ 255 → ((i3 (z : Int) = i3 (k : Int)) = (z = k)) := fun k hk => by
    have : z ≤ 255 := by omega
    rw [i3_eq (by omega) (by omega)]; apply propext; omega
  simp only [f_X6_drawInto_26, hidx, hsign, cI_k, f_X6_drawInto_72, f_X6_drawInto_93, lt_k, inc3, hQ.2.1, d2]
  rw [if_neg (nle3 (by omega))]
  simp only [show (35 : Int32) = i3 ((35 : Nat) : Int) from l3_35, show (37 : Int32) = i3 ((37 : Nat) : Int) from l3_37, show (44 : Int32) = i3 ((44 : Nat) : Int) from l3_44, e 35 (by decide), e 37 (by decide), e 44 (by decide)]
  have e1 : (1 : Int32) = i3 (b2 true) := l3_1
  have e0 : (0 : Int32) = i3 (b2 false) := l3_0
  rcases hsg with h | h | h | h
  · have f1 : bF = false := by cases bF <;> simp_all
    have f2 : bP = false := by cases bP <;> simp_all
    subst f1 f2
    rw [if_neg (by omega), if_neg (by omega), e0, s1, cI_k, if_neg (by omega), if_neg (by omega), s2, cI_k]
  · have f1 : bF = true := by cases bF <;> simp_all
    have f2 : bP = false := by cases bP <;> simp_all
    subst f1 f2
    rw [if_pos h, e1, s1, cI_k, if_neg (by omega), if_neg (by omega), e0, s2, cI_k]
  · have f1 : bF = false := by cases bF <;> simp_all
    have f2 : bP = true := by cases bP <;> simp_all
    subst f1 f2
    rw [if_neg (by omega), if_neg (by omega), e0, s1, cI_k, if_pos h, e1, s2, cI_k]
  · have f1 : bF = true := by cases bF <;> simp_all
    have f2 : bP = true := by cases bP <;> simp_all
    subst f1 f2
    rw [if_neg (by omega), if_pos h, e1, s1, cI_k, if_neg (by omega), if_pos h, s2, cI_k]
theorem drawInto_code {μ : Mem} {n : Nat} {t : Nat → Nat} (hT : cT μ n t) {R C : Nat} (hg : gud n t R C) : ∃ s Q, F_X6_drawInto 2 μ = rV s ∧ CP s 2 Q ∧ ldP n t R C Q ∧ fr [2] μ s := by
  have hg0 := hg
  obtain ⟨g1, g2, g3, g4, g5, g6, g7, g8, g9⟩ := hg
  have h60 := hT.2.1
  have hRC : R * C ≤ 36 := Nat.mul_le_mul g4.2 g5.2
  have x1 := digitAt_code hT (i := 1) (by decide)
  have x2 := digitAt_code hT (i := 2) (by decide)
  rw [g2, show ((48 + R : Nat) : Int) - 48 = (R : Int) from by omega] at x1
  rw [g3, show ((48 + C : Nat) : Int) - 48 = (C : Int) from by omega] at x2
  obtain ⟨s0, b1, b2', b3⟩ := beginBlank_code (μ := μ) (k := 2) R C
  have d0 : ∀ i, i < 6 → dgn 0 i = 0 := fun i hi => by
    have : ∀ j : Fin 6, dgn 0 j.val = 0 := by decide +kernel
    exact this ⟨i, hi⟩
  -- behind the cells
  have wants : ∀ s Q, CP s 2 Q → drS n t R C R 0 Q → fr [2] μ s → ∃ s' Q', (cI (F_X6_cellsEnd s) (fun v20 μ17 => if (s.1 1 1) = v20 then (cI (F_X4_wantTheCounts 2 μ17) (fun v26 μ23 => rV μ23)) else (f_X6_drawInto_133 2 BIG (0 : Int32) μ17))) = rV s' ∧ CP s' 2 Q' ∧ ldP n t R C Q' ∧ fr [2] μ s' := by
    intro s Q hQ hd hf
    have hTs := cT_fr hT hf (by simp) (by simp)
    obtain ⟨d1, d2, d3, d4, d5, d6⟩ := hd
    have cX : ∀ r c, zc (fX Q) r c ↔ (r < R ∧ c < C) ∧ (sg n t (3 + r * C + c) = 35 ∨ sg n t (3 + r * C + c) = 37) := fun r c => by
      rw [d5]; exact ⟨fun q => ⟨q.1.1, q.2⟩, fun q => ⟨⟨q.1, Or.inl q.1.1⟩, q.2⟩⟩
    have cP : ∀ r c, zc (fP Q) r c ↔ (r < R ∧ c < C) ∧ (sg n t (3 + r * C + c) = 44 ∨ sg n t (3 + r * C + c) = 37) := fun r c => by
      rw [d6]; exact ⟨fun q => ⟨q.1.1, q.2⟩, fun q => ⟨⟨q.1, Or.inl q.1.1⟩, q.2⟩⟩
    have ok : okP Q := by
      unfold okP
      rw [d1, d2, d3, d4]
      exact ⟨g4.1, g4.2, g5.1, g5.2, fun r c q => ((cX r c).mp q).1, fun r c q => ((cP r c).mp q).1, fun i hi => by rw [d0 i hi]; exact ⟨by omega, fun _ => rfl⟩, fun i hi => by rw [d0 i hi]; exact ⟨by omega, fun _ => rfl⟩⟩
    rw [cellsEnd_code hTs, cI_k, hTs.1, g6]
    by_cases e : n = 3 + R * C
    · rw [if_pos (by rw [e])]
      obtain ⟨s', t1, t2, t3⟩ := wantTheCounts_code hQ ok
      have hs := wtc_same Q (nR Q + nC Q)
      have hok := wtc_ok ok (Nat.le_refl (nR Q + nC Q))
      rw [t1, cI_k]
      refine ⟨s', _, rfl, t2, ⟨hs.1.trans d1, hs.2.1.trans d2, by rw [hs.2.2.1]; exact cX, by rw [hs.2.2.2]; exact cP, hok.1, fun l hl => ?_⟩, fr_tr hf t3⟩
      rw [if_pos e, hok.2 l (by rw [d1, d2]; exact hl), if_pos (by rw [d1, d2]; exact hl), hs.2.2.1, d1]
      have := cnt_0 R (fX Q) l
      omega
    · rw [if_neg (ne3 (by omega)), show (0 : Int32) = i3 ((0 : Nat) : Int) from l3_0]
      have hw : ∀ l, l < nR Q + nC Q → (fun l => sg n t (4 + R * C + l) - 48) l ≤ 6 := fun l hl => by
        have := g9 e l (by rw [d1, d2] at hl; exact hl)
        simp only; omega
      refine loop_st (σ := Mem) (fun m i z => f_X6_drawInto_133 2 m (i3 i) z) (fun i z => CP z 2 (wts Q (fun l => sg n t (4 + R * C + l) - 48) i) ∧ fr [2] μ z)
        (fun o => ∃ s' Q', o = rV s' ∧ CP s' 2 Q' ∧ ldP n t R C Q' ∧ fr [2] μ s') (R + C) ?_ ?_ BIG 0 s (by omega) (BIG_lt (by omega)) ⟨hQ, hf⟩
      · rintro m z ⟨q1, q2⟩
        have hs := wts_same Q (fun l => sg n t (4 + R * C + l) - 48) (R + C)
        have hok := wts_ok ok hw (i := R + C) (by rw [d1, d2]; omega)
        simp only [f_X6_drawInto_133, q1.1, q1.2.1, hs.1, hs.2.1, d1, d2, i3_add]
        rw [if_pos (le3 (by omega))]
        refine ⟨z, _, rfl, q1, ⟨hs.1.trans d1, hs.2.1.trans d2, by rw [hs.2.2.1]; exact cX, by rw [hs.2.2.2]; exact cP, hok.1, fun l hl => ?_⟩, q2⟩
        have := g9 e l hl
        rw [if_neg e, hok.2 l (by rw [d1, d2]; exact hl), if_pos hl]
        omega
      · rintro m i z hi ⟨q1, q2⟩
        left
        have hs := wts_same Q (fun l => sg n t (4 + R * C + l) - 48) i
        have hok := wts_ok ok hw (i := i) (by rw [d1, d2]; omega)
        have hTz := cT_fr hT q2 (by simp) (by simp)
        have hgi := g9 e i hi
        have hdi := digitAt_code hTz (i := 4 + R * C + i) (by omega)
        rw [show (sg n t (4 + R * C + i) : Int) - 48 = ((sg n t (4 + R * C + i) - 48 : Nat) : Int) from by omega] at hdi
        obtain ⟨z', w1, w2, w3⟩ := setWanted_code q1 hok.1 (l := i) (n := sg n t (4 + R * C + i) - 48) (by rw [hs.1, hs.2.1, d1, d2]; exact hi)
        simp only [f_X6_drawInto_133, q1.1, q1.2.1, hs.1, hs.2.1, d1, d2, i3_add, cellsEnd_code hTz, cI_k, g6, l3_1, lt_k]
        rw [if_neg (nle3 (by omega)), show (((3 + R * C : Nat) : Int) + 1 + (i : Int)) = ((4 + R * C + i : Nat) : Int) from by push_cast; omega, hdi, cI_k, w1, cI_k]
        exact ⟨z', ⟨w2, fr_tr q2 w3⟩, by rw [Int.natCast_add]; exact nr rfl⟩
  simp only [F_X6_drawInto, l3_1, l3_2]
  rw [show i3 1 = i3 ((1 : Nat) : Int) from rfl, x1, cI_k, show i3 2 = i3 ((2 : Nat) : Int) from rfl, x2, cI_k, b1, cV_k, show (0 : Int32) = i3 ((0 : Nat) : Int) from l3_0]
  refine loop_st (σ := Mem × Pic) (fun m i z => f_X6_drawInto_16 2 m (i3 i) z.1) (fun i z => CP z.1 2 z.2 ∧ drS n t R C i 0 z.2 ∧ fr [2] μ z.1)
    (fun o => ∃ s Q, o = rV s ∧ CP s 2 Q ∧ ldP n t R C Q ∧ fr [2] μ s) R ?_ ?_ BIG 0 (s0, (R, C, 0, 0, 0, 0)) (by omega) (BIG_lt (by omega))
    ⟨b2', ⟨rfl, rfl, rfl, rfl, fun a b => ⟨fun q => absurd q (zc_0 _ _), fun q => by omega⟩, fun a b => ⟨fun q => absurd q (zc_0 _ _), fun q => by omega⟩⟩, b3⟩
  · rintro m ⟨s, Q⟩ ⟨q1, q2, q3⟩
    simp only at q1 q2 q3
    simp only [f_X6_drawInto_16, q1.1, q2.1]
    rw [if_pos (le3 (by omega))]
    exact wants s Q q1 q2 q3
  · rintro m r ⟨s, Q⟩ hr ⟨q1, q2, q3⟩
    simp only at q1 q2 q3
    left
    simp only [f_X6_drawInto_16, q1.1, q2.1]
    rw [if_neg (nle3 (by omega)), show (0 : Int32) = i3 ((0 : Nat) : Int) from l3_0]
    refine loop_st (σ := Mem × Pic) (fun m' i z => f_X6_drawInto_26 2 (f_X6_drawInto_16 2 m) m' (i3 r) (i3 i) z.1) (fun i z => CP z.1 2 z.2 ∧ drS n t R C r i z.2 ∧ fr [2] μ z.1)
      (fun o => ∃ s' : Mem × Pic, (CP s'.1 2 s'.2 ∧ drS n t R C (r + 1) 0 s'.2 ∧ fr [2] μ s'.1) ∧ o = f_X6_drawInto_16 2 m (i3 ((r + 1 : Nat) : Int)) s'.1) C ?_ ?_ BIG 0 (s, Q) (by omega) (BIG_lt (by omega)) ⟨q1, q2, q3⟩
    · rintro m' ⟨s, Q⟩ ⟨q1, q2, q3⟩
      simp only at q1 q2 q3
      simp only [f_X6_drawInto_26, q1.2.1, q2.2.1, lt_k, inc3]
      rw [if_pos (le3 (by omega))]
      obtain ⟨d1, d2, d3, d4, d5, d6⟩ := q2
      refine ⟨(s, Q), ⟨q1, ⟨d1, d2, d3, d4, fun a b => ?_, fun a b => ?_⟩, q3⟩, rfl⟩
      · rw [d5]
        exact ⟨fun w => ⟨⟨w.1.1, by omega⟩, w.2⟩, fun w => ⟨⟨w.1.1, by omega⟩, w.2⟩⟩
      · rw [d6]
        exact ⟨fun w => ⟨⟨w.1.1, by omega⟩, w.2⟩, fun w => ⟨⟨w.1.1, by omega⟩, w.2⟩⟩
    · rintro m' c ⟨s, Q⟩ hc ⟨q1, q2, q3⟩
      simp only at q1 q2 q3
      left
      obtain ⟨s', Q', w1, w2, w3, w4⟩ := drawCell (cT_fr hT q3 (by simp) (by simp)) hg0 hr hc q1 q2 (f_X6_drawInto_16 2 m) m'
      exact ⟨(s', Q'), ⟨w2, w3, fr_tr q3 w4⟩, w1⟩
theorem put_text {μ : Mem} {n : Nat} {t : Nat → Nat} (h : cT μ n t) (hn : n < 60) {z : Nat} (hz : z ≤ 255) : ∃ s, F_X6_put (i2c (i3 z)) μ = rI (i3 ((n + 1 : Nat) : Int)) s ∧ cT s (n + 1) (fun j => if j = n then z else t j) ∧ fr [1, 8] μ s := by
  have hc : ∀ z : Fin 256, vp_nar .char (i2c (i3 z.val)) = i3 z.val := by decide +kernel
  have hcz := hc ⟨z, by omega⟩
  simp only at hcz
  have hf : fr [1, 8] μ (sI (sI μ 8 n (i3 z)) 1 1 (i3 ((n + 1 : Nat) : Int))) := fr_tr (fr_sI (by simp)) (fr_sI (by simp))
  refine ⟨_, ?_, ⟨?_, by omega, fun j hj => ?_⟩, hf⟩
  · simp only [F_X6_put, h.1, l3_0, l3_60, lt_k, clampN (show n < 2147483648 by omega), hcz, sI_1, up2_k _ _ _ _ _ (show ¬ 1 = 8 by decide), inc3, up2_same]
    rw [if_neg (nlt3 (by omega)), if_neg (nle3 (by omega)), ck_k (i3_in (by omega) (by decide))]
  · rw [sI_1, up2_same]
  · rw [sI_1, up2_k _ _ _ _ _ (by decide), sI_1, up2_a]
    by_cases e : j = n
    · subst e; simp only [if_true, and_self]; exact ⟨trivial, hz⟩
    · simp only [e, and_false, if_false]; exact h.2.2 j (by omega)
theorem empty_text {μ : Mem} {n : Nat} {t : Nat → Nat} (h : cT μ n t) : ∃ s, F_X6_empty μ = rI (i3 n) s ∧ cT s 0 t ∧ fr [1, 8] μ s := by
  refine ⟨sI μ 1 1 (0 : Int32), ?_, ⟨?_, by omega, fun j hj => by omega⟩, fr_sI (by simp)⟩
  · simp only [F_X6_empty, lt_k, h.1]
  · rw [sI_1, up2_same, l3_0]; rfl
