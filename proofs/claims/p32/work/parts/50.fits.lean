/-! the law's walk over the fitting pictures -/
noncomputable def cur (P : Pic) : Nat → Int64
  | 0 => fX P
  | k + 1 => gq P k
theorem xorc (x y : Int64) : x ^^^ y = y ^^^ x := tb_ext (fun i _ => by rw [tb_xor, tb_xor]; cases tb x i <;> cases tb y i <;> rfl)
theorem wrg_fit {P : Pic} (ok : okP P) {G : Int64} (h : fitC P G) : wrg (mkX P G) = 0 := by
  show zs (nR P + nC P) (fun l => if cnt (nR P) G l = wnt P l then 0 else 1) = 0
  rw [zs_congr (g := fun _ => 0) (fun l hl => if_pos (fit_cnt ok h hl)), zs_zero]
/-- what holds in the law's loop over the fitting pictures -/
def fS (P : Pic) (g : Int64) (k : Nat) (s : Mem) (B : Ab) : Prop := cInv s B ∧ aP B = mkX P g ∧ aSv B 0 = true ∧ aS B 0 = P ∧ ∀ i, i < 36 → s.1 29 i = i3 (tal P k (8 * (i / 6) + i % 6))
theorem frc_29 {μ μ' : Mem} (h : frc μ μ') (i : Nat) : μ'.1 29 i = μ.1 29 i := by rw [(h 29 (by decide)).1]
section FI
variable {P : Pic} {m : Nat}
theorem solveOr_k {v : Int32} {μ μ' : Mem} {a : Int32} (h : F_X7_solve a μ = rI v μ') : F_L_solveOr a μ = rI v μ' := by simp only [F_L_solveOr, h, cH_k]
theorem solveOr_x {μ μ' : Mem} {a : Int32} (h : F_X7_solve a μ = rX eSta μ') : F_L_solveOr a μ = rI (-1 : Int32) μ' := by
  simp only [F_L_solveOr, h, cH_x, if_true]
theorem nextOr_k {v : Int32} {μ μ' : Mem} (h : F_X7_next μ = rI v μ') : F_L_nextOr μ = rI v μ' := by simp only [F_L_nextOr, h, cH_k]
theorem nextOr_x {μ μ' : Mem} (h : F_X7_next μ = rX eSta μ') : F_L_nextOr μ = rI (-1 : Int32) μ' := by
  simp only [F_L_nextOr, h, cH_x, if_true]
theorem nearestOr_x {μ μ' : Mem} (h : F_X7_nearest μ = rX eSta μ') : F_L_nearestOr μ = rI (-1 : Int32) μ' := by
  simp only [F_L_nearestOr, h, cH_x, if_true]
theorem undoOr_k {v : Int32} {μ μ' : Mem} (h : F_X7_undo μ = rI v μ') : F_L_undoOr μ = rI v μ' := by simp only [F_L_undoOr, h, cH_k]
theorem undoOr_x {μ μ' : Mem} (h : F_X7_undo μ = rX eSta μ') : F_L_undoOr μ = rI (-1 : Int32) μ' := by
  simp only [F_L_undoOr, h, cH_x, if_true]
theorem fits_call (ok : okP P) (hm : cntF P m) {k : Nat} (hk : k < m) {s : Mem} {B : Ab} (h : fS P (cur P k) k s B) :
    ∃ s' B', (if k = 0 then F_L_solveOr (0 : Int32) s else F_L_nextOr s) = rI (i3 (pc (gq P k ^^^ cur P k))) s' ∧ fS P (gq P k) k s' B' := by
  obtain ⟨c, e1, e2, e3, e4⟩ := h
  cases k with
  | zero =>
    rw [if_pos rfl]
    have eP : aP B = P := e1
    rcases so_b c false with ⟨G, μ', w1, w2, w3, w4⟩ | ⟨μ', w1, w2, w3, w4⟩
    · rw [← (so_e s).1] at w1
      rw [eP] at w1 w2 w4
      have eG : gq P 0 = G := gq_eq ok (n := 0) w2
      subst eG
      refine ⟨μ', _, ?_, w4, rfl, e2, e3, fun i hi => by rw [frc_29 w3]; exact e4 i hi⟩
      rw [solveOr_k w1, xorc (gq P 0) (cur P 0)]; rfl
    · rw [eP] at w2
      exact absurd ⟨gq P 0, gq_f hm hk⟩ w2
  | succ k =>
    rw [if_neg (by omega)]
    have hs := gq_s hm (show k < m by omega)
    rcases nx_c c with ⟨G, μ', w1, w2, w3, w4⟩ | ⟨μ', w1, w2, w3, w4⟩
    · rw [e1] at w1 w2 w4
      have eG : gq P (k + 1) = G := gq_eq ok (n := k + 1) ⟨_, hs, w2⟩
      subst eG
      refine ⟨μ', _, ?_, w4, rfl, e2, e3, fun i hi => by rw [frc_29 w3]; exact e4 i hi⟩
      rw [nextOr_k w1, xorc (gq P (k + 1)) (cur P (k + 1))]
    · rw [e1] at w2
      obtain ⟨H, h1, h2⟩ := gq_s hm hk
      rw [← gq_eq ok h1] at h2
      exact absurd w2 (nxt_nno h2)
/-- the first cell that differs is filled in the later one -/
theorem low_in (ok : okP P) {c g : Int64} (h : ltF P c g) : ¬ lg_cmp (V g ^^^ V c) (0 : Int64) = 0 ∧ ¬ lg_cmp (((V g ^^^ V c) &&& (-(V g ^^^ V c))) &&& V g) (0 : Int64) = 0 := by
  obtain ⟨r, d, h1, h2, h3, h4⟩ := h
  have i1 := chg_8 ok h1
  have t1 : tb (V g ^^^ V c) (6 * r + d) = true := by
    rw [tb_xor, tb_V6 g i1.1 i1.2, tb_V6 c i1.1 i1.2, h3.2.2, tb_f (fun w => h2 ⟨by omega, by omega, w⟩)]; rfl
  have t2 : ∀ j, j < 6 * r + d → tb (V g ^^^ V c) j = false := fun j hj => by
    rw [tb_xor, tb_V, tb_V]
    by_cases q : j < 36
    · have e := h4 (j / 6) (j % 6) (by omega) (Or.inr (by omega))
      rw [← tb_iff (show j / 6 < 8 by omega) (show j % 6 < 8 by omega), ← tb_iff (show j / 6 < 8 by omega) (show j % 6 < 8 by omega)] at e
      rw [decide_eq_true q, Bool.true_and, Bool.true_and]
      cases e1 : tb g (8 * (j / 6) + j % 6) <;> cases e2 : tb c (8 * (j / 6) + j % 6)
      · rfl
      · rw [e1, e2] at e; exact absurd (e.mpr rfl) Bool.false_ne_true
      · rw [e1, e2] at e; exact absurd (e.mp rfl) Bool.false_ne_true
      · rfl
    · rw [decide_eq_false q]; rfl
  constructor
  · rw [zcmp_eq]
    intro e
    rw [e, tb_0] at t1
    cases t1
  · rw [zcmp_eq]
    intro e
    have : tb (((V g ^^^ V c) &&& (-(V g ^^^ V c))) &&& V g) (6 * r + d) = true := by
      rw [tb_and, (tb_low _ _).mpr ⟨t1, t2⟩, tb_V6 g i1.1 i1.2, h3.2.2]; rfl
    rw [e, tb_0] at this
    cases this
theorem pin_0 {X G : Int64} (h : fitP P X G) : lg_cmp ((V G ^^^ V X) &&& V (fP P)) (0 : Int64) = 0 := by
  rw [V_xor, V_and, zcmp_eq]
  have e : (G ^^^ X) &&& fP P = 0 := zc_eq_zero.mpr (fun r c q => by
    rw [zc_and, zc_xor] at q
    have := h.2 r c q.2
    rcases q.1 with w | w
    · exact w.2 (this.mp w.1)
    · exact w.1 (this.mpr w.2))
  rw [e, V_0]
theorem cInv_29 {s : Mem} {B : Ab} (h : cInv s B) (j : Nat) (v : Int32) : cInv (sI s 29 j v) B := cInv_fr h (W := [29]) (fr_sI (by simp)) (fun k hk => by simp at hk; omega)
/-- a fitting picture is counted cell by cell -/
theorem fits_tally (ok : okP P) (hm : cntF P m) {k : Nat} (hk : k < m) {s : Mem} {B : Ab} (h : fS P (gq P k) k s B) (k174 : Int32 → Int32 → Int64 → Int64 → Int32 → Int64 → Int64 → Int64 → Int32 → Int32 → Mem → Out) (x2 x3 : Int32) (x6 : Int64) (x8 : Int32) :
    ∃ s', f_L_fits_289 k174 BIG x2 x3 (V (fX P)) x6 x8 (allq P k) (someq P k) (i3 (nrq P k)) (i3 (k : Int)) (V (gq P k)) (0 : Int32) s = k174 x2 x3 (V (fX P)) x6 x8 (V (gq P k)) (allq P (k + 1)) (someq P (k + 1)) (i3 (nrq P (k + 1))) (i3 ((k + 1 : Nat) : Int)) s' ∧ fS P (cur P (k + 1)) (k + 1) s' B := by
  obtain ⟨c, e1, e2, e3, e4⟩ := h
  have gb := gq_f hm hk
  have bg := gq_brd ok hm hk
  have bx : brd (gq P k ^^^ fX P) := xor_brd ok gb.1
  have p36 := pc_36 bx
  have p0 := pc_nn (gq P k ^^^ fX P)
  have n36 := (nrq_le (P := P) k).1
  have n0 := nrq_0 (P := P) k
  rw [show (0 : Int32) = i3 ((0 : Nat) : Int) from l3_0]
  refine loop_st (σ := Mem) (fun n i s => f_L_fits_289 k174 n x2 x3 (V (fX P)) x6 x8 (allq P k) (someq P k) (i3 (nrq P k)) (i3 (k : Int)) (V (gq P k)) (i3 (i : Int)) s)
    (fun i s => cInv s B ∧ ∀ j, j < 36 → s.1 29 j = i3 (tal P (if j < i then k + 1 else k) (8 * (j / 6) + j % 6)))
    (fun o => ∃ s', o = k174 x2 x3 (V (fX P)) x6 x8 (V (gq P k)) (allq P (k + 1)) (someq P (k + 1)) (i3 (nrq P (k + 1))) (i3 ((k + 1 : Nat) : Int)) s' ∧ fS P (cur P (k + 1)) (k + 1) s' B) 36 ?_ ?_ BIG 0 s (by omega) (BIG_lt (by omega)) ⟨c, fun j hj => by rw [if_neg (by omega)]; exact e4 j hj⟩
  · rintro n s ⟨q1, q2⟩
    have el : (36 : Int32) ≤ i3 ((36 : Nat) : Int) := by decide
    refine ⟨s, ?_, q1, e1, e2, e3, fun j hj => by rw [q2 j hj, if_pos hj]⟩
    have eA : allq P k &&& V (gq P k) = allq P (k + 1) := rfl
    have eS : someq P k ||| V (gq P k) = someq P (k + 1) := rfl
    have eN : nrq P (k + 1) = if nrq P k ≤ pc (gq P k ^^^ fX P) then nrq P k else pc (gq P k ^^^ fX P) := rfl
    simp only [f_L_fits_289, if_pos el, lt_k, eA, eS, V_xor, ones_V bx, cI_k, inc3]
    rw [eN]
    by_cases q : nrq P k ≤ pc (gq P k ^^^ fX P)
    · rw [if_pos (le3 (by omega)), if_pos q]
    · rw [if_neg (nle3 (by omega)), if_neg q]
  · rintro n i s hi ⟨q1, q2⟩
    left
    have el : ¬ (36 : Int32) ≤ i3 (i : Int) := by rw [l3_36]; exact nle3 (by omega)
    have hck : ∀ O : Out, ck (inb (i3 (i : Int)) 36) O = O := fun O => ck_k (i3_in (by omega) (by decide)) O
    have v29 : s.1 29 i = i3 (tal P k (8 * (i / 6) + i % 6)) := by rw [q2 i hi, if_neg (by omega)]
    have tV : tb (V (gq P k)) i = tb (gq P k) (8 * (i / 6) + i % 6) := by rw [tb_V, decide_eq_true hi, Bool.true_and]
    simp only [f_L_fits_289, if_neg el, hck, clampN (show i < 2147483648 by omega), v29, sh_bit _ (show i < 64 by omega), tV, i3_add, lt_k, inc3]
    refine ⟨_, ⟨cInv_29 q1 i _, fun j hj => ?_⟩, rfl⟩
    rw [sI_1, up2_a]
    by_cases e : j = i
    · subst e
      rw [if_pos ⟨rfl, rfl⟩, if_pos (by omega)]
      congr 1
    · rw [if_neg (fun w => e w.2), q2 j hj]
      by_cases w : j < i
      · rw [if_pos w, if_pos (by omega)]
      · rw [if_neg w, if_neg (by omega)]
/-- one turn of the loop -/
theorem fits_turn (ok : okP P) (hm : cntF P m) {k : Nat} (hk : k < m) {s : Mem} {B : Ab} (h : fS P (cur P k) k s B) (k174 : Int32 → Int32 → Int64 → Int64 → Int32 → Int64 → Int64 → Int64 → Int32 → Int32 → Mem → Out) (x8 : Int32) (K : Nat) (hK : k < K ∧ K ≤ 100) :
    ∃ s' B', f_L_fits_190 k174 (i3 (nR P)) (i3 (nC P)) (V (fX P)) (V (fP P)) x8 (V (cur P k)) (allq P k) (someq P k) (i3 (nrq P k)) (i3 (k : Int)) (i3 (K : Int)) (i3 (k : Int)) s =
      k174 (i3 (nR P)) (i3 (nC P)) (V (fX P)) (V (fP P)) x8 (V (cur P (k + 1))) (allq P (k + 1)) (someq P (k + 1)) (i3 (nrq P (k + 1))) (i3 ((k + 1 : Nat) : Int)) s' ∧ fS P (cur P (k + 1)) (k + 1) s' B' := by
  obtain ⟨s1, B1, w1, w2⟩ := fits_call ok hm hk h
  obtain ⟨s2, t1, t2⟩ := fits_tally ok hm hk w2 k174 (i3 (nR P)) (i3 (nC P)) (V (fP P)) x8
  refine ⟨s2, B1, ?_, t2⟩
  obtain ⟨c1, e1, e2, e3, e4⟩ := w2
  have hb := bits_0 c1
  have h6 := a_6 c1
  rw [e1] at hb h6
  rw [wrg_fit ok (gq_f hm hk).1] at h6
  have el : ¬ i3 (K : Int) ≤ i3 (k : Int) := nle3 (by omega)
  have k0 : (i3 (k : Int) = 0) = (k = 0) := by rw [l3_0, i3_eq (by omega) (by omega)]; exact propext ⟨fun w => by omega, fun w => by omega⟩
  have brc : brd (gq P k ^^^ cur P k) := by
    have bc : brd (cur P k) := by
      cases k with
      | zero => exact brdX ok ok.2.2.2.2.1
      | succ k => exact gq_brd ok hm (by omega)
    refine (brd_iff _).mpr (fun r c q => ?_)
    rcases (zc_xor _ _ r c).mp q with w | w
    · exact zc_brd (gq_brd ok hm hk) w.1
    · exact zc_brd bc w.2
  have o1 : F_L_ones (V (gq P k) ^^^ V (cur P k)) s1 = rI (i3 (pc (gq P k ^^^ cur P k))) s1 := by rw [V_xor, ones_V brc]
  have fin : f_L_fits_210 k174 (i3 (nR P)) (i3 (nC P)) (V (fX P)) (V (fP P)) x8 (V (cur P k)) (allq P k) (someq P k) (i3 (nrq P k)) (i3 (k : Int)) (i3 (pc (gq P k ^^^ cur P k))) s1 =
      k174 (i3 (nR P)) (i3 (nC P)) (V (fX P)) (V (fP P)) x8 (V (cur P (k + 1))) (allq P (k + 1)) (someq P (k + 1)) (i3 (nrq P (k + 1))) (i3 ((k + 1 : Nat) : Int)) s2 := by
    have hb' : F_L_bits (0 : Int32) s1 = rJ (V (gq P k)) s1 := hb
    simp only [f_L_fits_210, hb', cJ_k, lt_k, o1, cI_k, if_true, h6, if_pos iz0, if_pos (pin_0 (gq_f hm hk))]
    by_cases q : k = 0
    · rw [if_pos (show i3 (k : Int) ≤ 0 from by rw [l3_0]; exact le3 (by omega))]
      exact t1
    · have hlt : ltF P (cur P k) (gq P k) := by
        cases k with
        | zero => exact absurd rfl q
        | succ k => exact sqn_lt ok (gq_s hm (show k < m by omega)) (gq_s hm hk) (Nat.lt_succ_self k)
      obtain ⟨l1, l2⟩ := low_in ok hlt
      rw [if_neg (show ¬ i3 (k : Int) ≤ 0 from by rw [l3_0]; exact nle3 (by omega)), if_neg l1, if_neg l2]
      exact t1
  simp only [f_L_fits_190, if_neg el, k0]
  by_cases q : k = 0
  · rw [if_pos q] at w1 ⊢
    rw [w1, cI_k]; exact fin
  · rw [if_neg q] at w1 ⊢
    rw [w1, cI_k]; exact fin
end FI
