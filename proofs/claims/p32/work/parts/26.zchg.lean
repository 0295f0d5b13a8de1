def mz : Mem := (fun _ _ => 0, fun _ _ => 0, fun _ _ => 0)
def chgI (x : Int64) (i n : Nat) : Int64 := (x &&& ((shlL (15 : Int64) ((4 : Int32) * i3 i)) ^^^ (-1 : Int64))) ||| (shlL (Int32.toInt64 (i3 n)) ((4 : Int32) * i3 i))
theorem chg_code (x : Int64) (i n : Nat) (μ : Mem) : F_X1_changed x (i3 i) (i3 n) μ = rJ (chgI x i n) μ := by
  simp only [F_X1_changed]; rfl
theorem rJ_inj {x y : Int64} {μ μ' : Mem} (h : rJ x μ = rJ y μ') : x = y := by
  have h1 := Option.some.inj h
  have h2 := (Prod.mk.inj h1).1
  have h3 := Sum.inl.inj h2
  exact Value.long.inj (Option.some.inj h3)
theorem dgn_chg (x : Int64) {i n : Nat} (hi : i < 16) (hn : n < 16) {j : Nat} (hj : j < 16) : dgn (chgI x i n) j = if j = i then n else dgn x j := by
  obtain ⟨y, hy, h⟩ := changed_code x hi hn mz
  rw [chg_code] at hy
  rw [rJ_inj hy]
  exact h j hj
def setW (P : Pic) (l n : Nat) : Pic := if nR P ≤ l then mkV P (chgI (wV P) (l - nR P) n) else mkU P (chgI (wU P) l n)
theorem setW_R (P : Pic) (l n : Nat) : nR (setW P l n) = nR P := by unfold setW; split <;> rfl
theorem setW_C (P : Pic) (l n : Nat) : nC (setW P l n) = nC P := by unfold setW; split <;> rfl
theorem setW_X (P : Pic) (l n : Nat) : fX (setW P l n) = fX P := by unfold setW; split <;> rfl
theorem setW_P (P : Pic) (l n : Nat) : fP (setW P l n) = fP P := by unfold setW; split <;> rfl
theorem setW_U {P : Pic} {l n : Nat} (hn : n ≤ 6) (hl : l < 12) {i : Nat} (hi : i < 6) : dgn (wU (setW P l n)) i = if l < nR P ∧ i = l then n else dgn (wU P) i := by
  unfold setW
  by_cases h : nR P ≤ l
  · rw [if_pos h, if_neg (by omega)]
  · rw [if_neg h]
    show dgn (chgI (wU P) l n) i = _
    rw [dgn_chg _ (by omega) (by omega) (by omega)]
    by_cases hil : i = l
    · rw [if_pos hil, if_pos ⟨by omega, hil⟩]
    · rw [if_neg hil, if_neg (fun q => hil q.2)]
theorem setW_V {P : Pic} {l n : Nat} (hn : n ≤ 6) (hl : l < 12) {i : Nat} (hi : i < 6) : dgn (wV (setW P l n)) i = if nR P ≤ l ∧ i = l - nR P then n else dgn (wV P) i := by
  unfold setW
  by_cases h : nR P ≤ l
  · rw [if_pos h]
    show dgn (chgI (wV P) (l - nR P) n) i = _
    rw [dgn_chg _ (by omega) (by omega) (by omega)]
    by_cases hil : i = l - nR P
    · rw [if_pos hil, if_pos ⟨h, hil⟩]
    · rw [if_neg hil, if_neg (fun q => hil q.2)]
  · rw [if_neg h, if_neg (by omega)]
theorem setW_ok {P : Pic} (ok : okP P) {l n : Nat} (hn : n ≤ 6) (hl : l < nR P + nC P) : okP (setW P l n) := by
  obtain ⟨o1, o2, o3, o4, o5, o6, o7, o8⟩ := ok
  unfold okP
  rw [setW_R, setW_C, setW_X, setW_P]
  refine ⟨o1, o2, o3, o4, o5, o6, fun i hi => ?_, fun i hi => ?_⟩
  · rw [setW_U hn (by omega) hi]
    have := o7 i hi
    split
    · exact ⟨hn, fun q => by omega⟩
    · exact this
  · rw [setW_V hn (by omega) hi]
    have := o8 i hi
    split
    · exact ⟨hn, fun q => by omega⟩
    · exact this
theorem setW_wnt {P : Pic} (ok : okP P) {l n : Nat} (hn : n ≤ 6) (hl : l < nR P + nC P) {l' : Nat} (hl' : l' < nR P + nC P) : wnt (setW P l n) l' = if l' = l then n else wnt P l' := by
  obtain ⟨o1, o2, o3, o4, -⟩ := ok
  unfold wnt
  rw [setW_R]
  by_cases h : nR P ≤ l'
  · rw [if_pos h, if_pos h, setW_V hn (by omega) (by omega)]
    by_cases e : l' = l
    · rw [if_pos e, if_pos (by omega)]
    · rw [if_neg e, if_neg (by omega)]
  · rw [if_neg h, if_neg h, setW_U hn (by omega) (by omega)]
    by_cases e : l' = l
    · rw [if_pos e, if_pos (by omega)]
    · rw [if_neg e, if_neg (by omega)]
theorem setWanted_code {μ : Mem} {k : Nat} {P : Pic} (h : CP μ k P) (ok : okP P) {l n : Nat} (hl : l < nR P + nC P) : ∃ μ', F_X4_setWanted k (i3 l) (i3 n) μ = rI (i3 (wnt P l)) μ' ∧ CP μ' k (setW P l n) ∧ fr [k] μ μ' := by
  have o1 := ok.2.1
  have o2 := ok.2.2.2.1
  have hw := wantedOf_code h ok hl
  simp only [F_X4_setWanted, hw, cI_k, h.1, lt_k]
  unfold setW
  by_cases a : nR P ≤ l
  · rw [if_pos (le3 (by omega)), if_pos a, i3_subn a]
    simp only [chg_code, cJ_k, h.2.2.2.2.2]
    exact ⟨_, rfl, CP_V h _, fr_sJ (by simp)⟩
  · rw [if_neg (nle3 (by omega)), if_neg a]
    simp only [chg_code, cJ_k, h.2.2.2.2.1]
    exact ⟨_, rfl, CP_U h _, fr_sJ (by simp)⟩
/-- the first i lines' counts made the wanted ones -/
def wtc (P : Pic) : Nat → Pic
  | 0 => P
  | i + 1 => setW (wtc P i) i (cnt (nR P) (fX P) i).toNat
theorem wtc_same (P : Pic) (i : Nat) : nR (wtc P i) = nR P ∧ nC (wtc P i) = nC P ∧ fX (wtc P i) = fX P ∧ fP (wtc P i) = fP P := by
  induction i with
  | zero => exact ⟨rfl, rfl, rfl, rfl⟩
  | succ i ih =>
    unfold wtc
    rw [setW_R, setW_C, setW_X, setW_P]
    exact ih
theorem wtc_ok {P : Pic} (ok : okP P) {i : Nat} (hi : i ≤ nR P + nC P) : okP (wtc P i) ∧ ∀ l, l < nR P + nC P → wnt (wtc P i) l = if l < i then (cnt (nR P) (fX P) l).toNat else wnt P l := by
  induction i with
  | zero => exact ⟨ok, fun l _ => by rw [if_neg (by omega)]; rfl⟩
  | succ i ih =>
    obtain ⟨h1, h2⟩ := ih (by omega)
    have hs := wtc_same P i
    have c0 := cnt_0 (nR P) (fX P) i
    have c6 := cnt_6 (nR P) (fX P) i
    unfold wtc
    refine ⟨setW_ok h1 (by omega) (by rw [hs.1, hs.2.1]; omega), fun l hl => ?_⟩
    rw [setW_wnt h1 (by omega) (by rw [hs.1, hs.2.1]; omega) (by rw [hs.1, hs.2.1]; omega), h2 l hl]
    by_cases e : l = i
    · subst e; rw [if_pos rfl, if_pos (by omega)]
    · rw [if_neg e]
      by_cases e2 : l < i
      · rw [if_pos e2, if_pos (by omega)]
      · rw [if_neg e2, if_neg (by omega)]
theorem wantTheCounts_code {μ : Mem} {k : Nat} {P : Pic} (h : CP μ k P) (ok : okP P) : ∃ μ', F_X4_wantTheCounts k μ = rI (i3 (wrg P)) μ' ∧ CP μ' k (wtc P (nR P + nC P)) ∧ fr [k] μ μ' := by
  have o1 := ok.2.1
  have o2 := ok.2.2.2.1
  simp only [F_X4_wantTheCounts]
  rw [show (0 : Int32) = i3 ((0 : Nat) : Int) from l3_0]
  refine loop_st (σ := Mem) (fun n i s => f_X4_wantTheCounts_4 k n (i3 (zs i (fun l => if cnt (nR P) (fX P) l = wnt P l then 0 else 1))) (i3 i) s)
    (fun i s => CP s k (wtc P i) ∧ fr [k] μ s)
    (fun o => ∃ μ', o = rI (i3 (wrg P)) μ' ∧ CP μ' k (wtc P (nR P + nC P)) ∧ fr [k] μ μ') (nR P + nC P) ?_ ?_ BIG 0 μ (by omega) (BIG_lt (by omega)) ⟨h, fr_rf _ _⟩
  · rintro n s ⟨h1, h2⟩
    have hs := wtc_same P (nR P + nC P)
    simp only [f_X4_wantTheCounts_4, h1.1, h1.2.1, i3_add, hs.1, hs.2.1]
    rw [if_pos (le3 (by omega))]
    exact ⟨s, rfl, h1, h2⟩
  · rintro n i s hi ⟨h1, h2⟩
    left
    have hs := wtc_same P i
    have hok := wtc_ok ok (i := i) (by omega)
    have c0 := cnt_0 (nR P) (fX P) i
    have c6 := cnt_6 (nR P) (fX P) i
    have w6 := wnt_6 ok hi
    have hc := countOf_code h1 hok.1 (l := i) (by rw [hs.1, hs.2.1]; omega)
    rw [hs.1, hs.2.2.1] at hc
    obtain ⟨s', hs1, hs2, hs3⟩ := setWanted_code h1 hok.1 (l := i) (n := (cnt (nR P) (fX P) i).toNat) (by rw [hs.1, hs.2.1]; omega)
    rw [show (((cnt (nR P) (fX P) i).toNat : Nat) : Int) = cnt (nR P) (fX P) i from by omega, hok.2 i hi, if_neg (by omega)] at hs1
    simp only [f_X4_wantTheCounts_4, h1.1, h1.2.1, i3_add, hs.1, hs.2.1, hc, cI_k, hs1, oneIf_0, oneIf_1, lt_k, inc3]
    rw [if_neg (nle3 (by omega)), zs_s]
    refine ⟨s', ⟨hs2, fr_tr h2 hs3⟩, ?_⟩
    by_cases e : cnt (nR P) (fX P) i = wnt P i
    · rw [if_pos (by rw [e]), if_pos e]
    · rw [if_neg (ne3 (by omega)), if_neg e]
theorem refill_code {μ : Mem} {k : Nat} {P : Pic} (h : CP μ k P) (y : Int64) : F_X4_refill k y μ = rI (i3 (pc (fX P ^^^ y))) (sJ μ k 2 y) := by
  simp only [F_X4_refill, pc_code, cI_k, h.2.2.1, lt_k]
/-! cutting -/
def clrD (x : Int64) (a : Nat) : Nat → Int64
  | 0 => x
  | m + 1 => chgI (clrD x a m) (a + m) 0
theorem dgn_clr (x : Int64) (a : Nat) : ∀ m, a + m ≤ 6 → ∀ j, j < 6 → dgn (clrD x a m) j = if a ≤ j ∧ j < a + m then 0 else dgn x j := by
  intro m
  induction m with
  | zero => intro _ j _; rw [if_neg (by omega)]; rfl
  | succ m ih =>
    intro hm j hj
    unfold clrD
    rw [dgn_chg _ (by omega) (by decide) (by omega), ih (by omega) j hj]
    by_cases e : j = a + m
    · rw [if_pos e, if_pos (by omega)]
    · rw [if_neg e]
      by_cases e2 : a ≤ j ∧ j < a + m
      · rw [if_pos e2, if_pos (by omega)]
      · rw [if_neg e2, if_neg (by omega)]
def cutP (P : Pic) (R C : Nat) : Pic := (R, C, fX P &&& bdI R C, fP P &&& bdI R C, clrD (wU P) R (6 - R), clrD (wV P) C (6 - C))
theorem cutP_ok {P : Pic} (ok : okP P) {R C : Nat} (hR : 1 ≤ R ∧ R ≤ 6) (hC : 1 ≤ C ∧ C ≤ 6) : okP (cutP P R C) := by
  obtain ⟨o1, o2, o3, o4, o5, o6, o7, o8⟩ := ok
  refine ⟨hR.1, hR.2, hC.1, hC.2, fun r c h => ?_, fun r c h => ?_, fun i hi => ?_, fun i hi => ?_⟩
  · exact (zc_bd hR.2 hC.2 r c).mp ((zc_and _ _ _ _).mp h).2
  · exact (zc_bd hR.2 hC.2 r c).mp ((zc_and _ _ _ _).mp h).2
  · show dgn (clrD (wU P) R (6 - R)) i ≤ 6 ∧ (R ≤ i → dgn (clrD (wU P) R (6 - R)) i = 0)
    rw [dgn_clr _ _ _ (by omega) i hi]
    have := o7 i hi
    split
    · omega
    · exact ⟨this.1, fun q => by omega⟩
  · show dgn (clrD (wV P) C (6 - C)) i ≤ 6 ∧ (C ≤ i → dgn (clrD (wV P) C (6 - C)) i = 0)
    rw [dgn_clr _ _ _ (by omega) i hi]
    have := o8 i hi
    split
    · omega
    · exact ⟨this.1, fun q => by omega⟩
theorem cutTo_code {μ : Mem} {k : Nat} {P : Pic} (h : CP μ k P) {R C : Nat} (hR : 1 ≤ R ∧ R ≤ 6) (hC : 1 ≤ C ∧ C ≤ 6) : ∃ μ', F_X4_cutTo k (i3 R) (i3 C) μ = rV μ' ∧ CP μ' k (cutP P R C) ∧ fr [k] μ μ' := by
  have key2 : ∀ U μ1, CP μ1 k (R, C, fX P &&& bdI R C, fP P &&& bdI R C, U, wV P) → ∃ μ', f_X4_cutTo_65 k BIG (i3 C) μ1 = rV μ' ∧ CP μ' k (R, C, fX P &&& bdI R C, fP P &&& bdI R C, U, clrD (wV P) C (6 - C)) ∧ fr [k] μ1 μ' := by
    intro U μ1 h1
    refine loop_st (σ := Mem) (fun n i s => f_X4_cutTo_65 k n (i3 i) s)
      (fun i s => C ≤ i ∧ CP s k (R, C, fX P &&& bdI R C, fP P &&& bdI R C, U, clrD (wV P) C (i - C)) ∧ fr [k] μ1 s)
      (fun o => ∃ μ', o = rV μ' ∧ CP μ' k (R, C, fX P &&& bdI R C, fP P &&& bdI R C, U, clrD (wV P) C (6 - C)) ∧ fr [k] μ1 μ') 6 ?_ ?_ BIG C μ1 hC.2 (BIG_lt (by decide)) ⟨Nat.le_refl _, by rw [Nat.sub_self]; exact h1, fr_rf _ _⟩
    · rintro n s ⟨-, a, b⟩
      simp only [f_X4_cutTo_65, l3_6]
      rw [if_pos (le3 (by omega))]
      exact ⟨s, rfl, a, b⟩
    · rintro n i s hi ⟨a0, a, b⟩
      left
      simp only [f_X4_cutTo_65, l3_6, a.2.2.2.2.2]
      rw [if_neg (nle3 (by omega)), show (0 : Int32) = i3 ((0 : Nat) : Int) from l3_0, chg_code]
      simp only [cJ_k, lt_k, inc3]
      refine ⟨_, ⟨by omega, ?_, fr_tr b (fr_sJ (by simp))⟩, rfl⟩
      have := CP_V a (chgI (clrD (wV P) C (i - C)) i 0)
      rw [show i + 1 - C = (i - C) + 1 from by omega]
      have e : clrD (wV P) C (i - C + 1) = chgI (clrD (wV P) C (i - C)) i 0 := by
        show chgI _ (C + (i - C)) 0 = _
        rw [show C + (i - C) = i from by omega]
      rw [e]
      exact this
  have key1 : ∀ μ1, CP μ1 k (R, C, fX P &&& bdI R C, fP P &&& bdI R C, wU P, wV P) → ∃ μ', f_X4_cutTo_38 k BIG (i3 C) (i3 R) μ1 = rV μ' ∧ CP μ' k (cutP P R C) ∧ fr [k] μ1 μ' := by
    intro μ1 h1
    refine loop_st (σ := Mem) (fun n i s => f_X4_cutTo_38 k n (i3 C) (i3 i) s)
      (fun i s => R ≤ i ∧ CP s k (R, C, fX P &&& bdI R C, fP P &&& bdI R C, clrD (wU P) R (i - R), wV P) ∧ fr [k] μ1 s)
      (fun o => ∃ μ', o = rV μ' ∧ CP μ' k (cutP P R C) ∧ fr [k] μ1 μ') 6 ?_ ?_ BIG R μ1 hR.2 (BIG_lt (by decide)) ⟨Nat.le_refl _, by rw [Nat.sub_self]; exact h1, fr_rf _ _⟩
    · rintro n s ⟨-, a, b⟩
      obtain ⟨μ', g1, g2, g3⟩ := key2 _ s a
      simp only [f_X4_cutTo_38, l3_6]
      rw [if_pos (le3 (by omega))]
      exact ⟨μ', g1, g2, fr_tr b g3⟩
    · rintro n i s hi ⟨a0, a, b⟩
      left
      simp only [f_X4_cutTo_38, l3_6, a.2.2.2.2.1]
      rw [if_neg (nle3 (by omega)), show (0 : Int32) = i3 ((0 : Nat) : Int) from l3_0, chg_code]
      simp only [cJ_k, lt_k, inc3]
      refine ⟨_, ⟨by omega, ?_, fr_tr b (fr_sJ (by simp))⟩, rfl⟩
      have := CP_U a (chgI (clrD (wU P) R (i - R)) i 0)
      rw [show i + 1 - R = (i - R) + 1 from by omega]
      have e : clrD (wU P) R (i - R + 1) = chgI (clrD (wU P) R (i - R)) i 0 := by
        show chgI _ (R + (i - R)) 0 = _
        rw [show R + (i - R) = i from by omega]
      rw [e]
      exact this
  have a0 : CP (sI (sI μ k 0 (i3 R)) k 1 (i3 C)) k (R, C, fX P, fP P, wU P, wV P) := by
    obtain ⟨h0, h1, h2, h3, h4, h5⟩ := h
    refine ⟨?_, ?_, h2, h3, h4, h5⟩ <;> simp [sI_1, up2_a]
  have a1 := CP_X a0 (fX P &&& bdI R C)
  have a2 := CP_Pn a1 (fP P &&& bdI R C)
  obtain ⟨μ', g1, g2, g3⟩ := key1 _ a2
  refine ⟨μ', ?_, g2, fr_tr (fr_tr (fr_tr (fr_tr (fr_sI (by simp)) (fr_sI (by simp))) (fr_sJ (by simp))) (fr_sJ (by simp))) g3⟩
  simp only [F_X4_cutTo, lt_k]
  rw [board_code a0, cJ_k, a0.2.2.1, board_code a1, cJ_k, a1.2.2.2.1]
  exact g1
