/-! the state of the object, and what an operation keeps -/
def cInv (μ : Mem) (A : Ab) : Prop := CP μ 2 (aP A) ∧ okP (aP A) ∧ cH μ (aHn A) (aH A) ∧ cS μ (aSv A) (aS A) ∧ cT μ (aN A) (aT A)
theorem cInv_fr {W : List Nat} {μ μ' : Mem} {A : Ab} (h : cInv μ A) (hf : fr W μ μ') (hs : ∀ k, k ∈ W → k ∈ [0, 3, 5, 6, 7, 12] ∨ 29 ≤ k) : cInv μ' A := by
  have g : ∀ k, k < 29 → k ∉ [0, 3, 5, 6, 7, 12] → k ∉ W := fun k hk hn w => by
    rcases hs k w with q | q
    · exact hn q
    · omega
  refine ⟨CP_fr h.1 hf (g 2 (by decide) (by simp)), h.2.1, cH_fr h.2.2.1 hf (g 4 (by decide) (by simp)) (g 9 (by decide) (by simp)) (fun k h1 h2 => g k (by omega) (fun q => ?_)), cS_fr h.2.2.2.1 hf (g 10 (by decide) (by simp)) (g 11 (by decide) (by simp)) (g 27 (by decide) (by simp)) (g 28 (by decide) (by simp)), cT_fr h.2.2.2.2 hf (g 1 (by decide) (by simp)) (g 8 (by decide) (by simp))⟩
  simp at q; omega
def frc (μ μ' : Mem) : Prop := ∀ k, 29 ≤ k → μ'.1 k = μ.1 k ∧ μ'.2.1 k = μ.2.1 k ∧ μ'.2.2 k = μ.2.2 k
theorem frc_of {W : List Nat} {μ μ' : Mem} (h : fr W μ μ') (hs : ∀ k, k ∈ W → k < 29) : frc μ μ' := fun k hk => h k (fun w => by have := hs k w; omega)
theorem frc_rf (μ : Mem) : frc μ μ := fun _ _ => ⟨rfl, rfl, rfl⟩
theorem frc_tr {a b c : Mem} (h : frc a b) (h' : frc b c) : frc a c := fun k hk => ⟨(h' k hk).1.trans (h k hk).1, (h' k hk).2.1.trans (h k hk).2.1, (h' k hk).2.2.trans (h k hk).2.2⟩
abbrev remA (A : Ab) : Ab := (aP A, (remN (aHn A), remQ (aHn A) (aH A) (aP A)), A.2.2)
abbrev setP (A : Ab) (Q : Pic) : Ab := (Q, A.2)
theorem hW_29 (k : Nat) (h : k ∈ hW) : k < 29 := by unfold hW at h; simp at h; omega
theorem cRem {μ : Mem} {A : Ab} (h : cInv μ A) : ∃ s, F_X3_remember 2 μ = rV s ∧ frc μ s ∧ cInv s (remA A) := by
  obtain ⟨s, w1, w2, w3, w4⟩ := remember_code h.2.2.1 h.1 h.2.1
  refine ⟨s, w1, frc_of w2 hW_29, w4, h.2.1, w3, cS_fr h.2.2.2.1 w2 (by simp [hW]) (by simp [hW]) (by simp [hW]) (by simp [hW]), cT_fr h.2.2.2.2 w2 (by simp [hW]) (by simp [hW])⟩
theorem cInv_P {μ μ' : Mem} {A : Ab} {Q : Pic} (h : cInv μ A) (hf : fr [2] μ μ') (hP : CP μ' 2 Q) (ok : okP Q) : cInv μ' (setP A Q) :=
  ⟨hP, ok, cH_fr h.2.2.1 hf (by simp) (by simp) (fun k h1 h2 => by simp; omega), cS_fr h.2.2.2.1 hf (by simp) (by simp) (by simp) (by simp), cT_fr h.2.2.2.2 hf (by simp) (by simp)⟩
abbrev eIdx : String := "java/lang/IndexOutOfBoundsException"
abbrev eArg : String := "java/lang/IllegalArgumentException"
abbrev eSta : String := "java/lang/IllegalStateException"
theorem okX {P : Pic} (ok : okP P) {y : Int64} (hy : ∀ r c, zc y r c → r < nR P ∧ c < nC P) : okP (mkX P y) := by
  obtain ⟨o1, o2, o3, o4, o5, o6, o7, o8⟩ := ok
  exact ⟨o1, o2, o3, o4, hy, o6, o7, o8⟩
theorem okPn {P : Pic} (ok : okP P) {y : Int64} (hy : ∀ r c, zc y r c → r < nR P ∧ c < nC P) : okP (mkPn P y) := by
  obtain ⟨o1, o2, o3, o4, o5, o6, o7, o8⟩ := ok
  exact ⟨o1, o2, o3, o4, o5, hy, o7, o8⟩
theorem setB_in {x : Int64} {R C r c : Nat} (hr : r < R) (hc : c < C) (hR : R ≤ 6) (hC : C ≤ 6) (hx : ∀ a d, zc x a d → a < R ∧ d < C) (b : Bool) : ∀ a d, zc (setB x r c b) a d → a < R ∧ d < C := by
  intro a d q
  rw [zc_setB (by omega) (by omega)] at q
  by_cases e : a = r ∧ d = c
  · omega
  · rw [if_neg e] at q; exact hx a d q
theorem h01 : ¬ (i3 0 = i3 1) := by decide
theorem h10 : ¬ (i3 1 = i3 0) := by decide
theorem nz_k (K : Out) : ck (nz (i3 1)) K = K ∧ ck (nz (i3 0)) K = K := ⟨ck_k (by decide) K, ck_k (by decide) K⟩
theorem nzb (b : Bool) (K : Out) : ck (nz (i3 (b2 b))) K = K := by cases b; exact (nz_k K).2; exact (nz_k K).1
/-- the numbers in the frame of an operation's argument -/
abbrev inZ (v : Int) : Prop := -2147483648 ≤ v ∧ v < 2147483648
theorem natZ {v : Int} {n : Nat} (h : 0 ≤ v ∧ v < n) : ∃ m : Nat, v = m ∧ m < n := ⟨v.toNat, by omega, by omega⟩
theorem chk_cell {μ : Mem} {A : Ab} (h : cInv μ A) {r c : Int} (hr : inZ r) (hc : inZ c) : F_X7_checkCell (i3 r) (i3 c) μ = if (0 ≤ r ∧ r < nR (aP A)) ∧ 0 ≤ c ∧ c < nC (aP A) then rV μ else rX eIdx μ := by
  simp only [F_X7_checkCell, hasCell_code h.1 h.2.1 hr hc, cI_k]
  by_cases q : (0 ≤ r ∧ r < nR (aP A)) ∧ 0 ≤ c ∧ c < nC (aP A)
  · rw [if_pos q, if_pos q, if_neg (by decide)]
  · rw [if_neg q, if_neg q, if_pos (show i3 0 = (0 : Int32) from l3_0.symm)]
theorem iz0 : i3 0 = (0 : Int32) := by decide
theorem iz1 : ¬ i3 1 = (0 : Int32) := by decide
theorem jz1 : ¬ (1 : Int32) = (0 : Int32) := by decide
theorem jz2 : ¬ (2 : Int32) = (0 : Int32) := by decide
theorem jz3 : ¬ (3 : Int32) = (0 : Int32) := by decide
theorem chk_line {μ : Mem} {A : Ab} (h : cInv μ A) {l : Int} (hl : inZ l) : F_X7_checkLine (i3 l) μ = if 0 ≤ l ∧ l < nR (aP A) + nC (aP A) then rV μ else rX eIdx μ := by
  simp only [F_X7_checkLine, hasLine_code h.1 h.2.1 hl, cI_k]
  by_cases q : 0 ≤ l ∧ l < nR (aP A) + nC (aP A)
  · rw [if_pos q, if_pos q, if_neg iz1]
  · rw [if_neg q, if_neg q, if_pos iz0]
theorem chk_slot (μ : Mem) {v : Int} (hv : inZ v) : F_X7_checkSlot (i3 v) μ = if 0 ≤ v ∧ v < 2 then rV μ else rX eIdx μ := by
  simp only [F_X7_checkSlot, l3_0, l3_1]
  by_cases q : 0 ≤ v ∧ v < 2
  · rw [if_pos q]
    by_cases e : v = 0
    · subst e; rw [if_pos rfl]
    · have : v = 1 := by omega
      subst this; rw [if_neg h10, if_pos rfl]
  · rw [if_neg q, if_neg (ne3 (by omega)), if_neg (ne3 (by omega))]
theorem c_scr {μ μ' : Mem} {A : Ab} (h : cInv μ A) (hf : fr [6, 12] μ μ') : frc μ μ' ∧ cInv μ' A :=
  ⟨frc_of hf (by simp), cInv_fr h hf (fun k hk => by simp at hk; simp; omega)⟩
theorem c_take {μ : Mem} {A : Ab} (h : cInv μ A) {G : Int64} (hG : ∀ r c, zc G r c → r < nR (aP A) ∧ c < nC (aP A)) (h6 : μ.2.1 6 1 = G) :
    ∃ s1, F_X3_remember 2 μ = rV s1 ∧ s1.2.1 6 1 = G ∧ F_X4_refill 2 G s1 = rI (i3 (pc (fX (aP A) ^^^ G))) (sJ s1 2 2 G) ∧ frc μ (sJ s1 2 2 G) ∧ cInv (sJ s1 2 2 G) (setP (remA A) (mkX (aP A) G)) := by
  obtain ⟨s1, w1, w2, w3, w4⟩ := remember_code h.2.2.1 h.1 h.2.1
  obtain ⟨s1', w1', w2', w3'⟩ := cRem h
  have e : s1 = s1' := by
    rw [w1] at w1'
    have := Option.some.inj w1'
    simpa using this
  subst e
  refine ⟨s1, w1, by rw [fr_2 w2 (by simp [hW])]; exact h6, refill_code w4 G, frc_tr w2' (frc_of (W := [2]) (fr_sJ (by simp)) (by simp)), cInv_P w3' (fr_sJ (by simp)) (CP_X w4 G) (okX h.2.1 hG)⟩
theorem iz1' : ¬ i3 (b2 true) = (0 : Int32) := by decide
theorem fit_in {P : Pic} {x G : Int64} (h : fitP P x G) : ∀ r c, zc G r c → r < nR P ∧ c < nC P := h.1.1
theorem brdX {P : Pic} (ok : okP P) {y : Int64} (hy : ∀ r c, zc y r c → r < nR P ∧ c < nC P) : brd y := (brd_iff _).mpr (fun r c q => by have := hy r c q; have := ok.2.1; have := ok.2.2.2.1; omega)
def lenL (P : Pic) (l : Nat) : Nat := if nR P ≤ l then nR P else nC P
def rowL (P : Pic) (l i : Nat) : Nat := if nR P ≤ l then i else l
def colL (P : Pic) (l i : Nat) : Nat := if nR P ≤ l then l - nR P else i
theorem lin_bd {P : Pic} (ok : okP P) {l : Nat} (hl : l < nR P + nC P) {i : Nat} (hi : i < lenL P l) : rowL P l i < nR P ∧ colL P l i < nC P ∧ lenL P l ≤ 6 ∧ i < 6 := by
  have o1 := ok.2.1
  have o2 := ok.2.2.2.1
  unfold lenL at hi ⊢
  unfold rowL colL
  by_cases a : nR P ≤ l
  · simp only [if_pos a] at hi ⊢; omega
  · simp only [if_neg a] at hi ⊢; omega
theorem len6 {P : Pic} (ok : okP P) (l : Nat) : lenL P l ≤ 6 := by
  have o1 := ok.2.1
  have o2 := ok.2.2.2.1
  unfold lenL; split <;> omega
/-- the sum over a line is that over six cells -/
theorem lin_sum {P : Pic} (ok : okP P) {y : Int64} (hy : ∀ r c, zc y r c → r < nR P ∧ c < nC P) {l : Nat} (hl : l < nR P + nC P) : zs (lenL P l) (fun i => b2 (tb y (8 * rowL P l i + colL P l i))) = cnt (nR P) y l := by
  have o1 := ok.2.1
  have o2 := ok.2.2.2.1
  unfold lenL rowL colL cnt
  by_cases a : nR P ≤ l
  · simp only [if_pos a]
    refine (zs_ext0 (n := nR P) (m := 6) o1 (fun i h1 h2 => ?_)).symm
    rw [tb_f (fun q => by have := hy i (l - nR P) ⟨by omega, by omega, q⟩; omega)]; rfl
  · simp only [if_neg a]
    refine (zs_ext0 (n := nC P) (m := 6) o2 (fun i h1 h2 => ?_)).symm
    rw [tb_f (fun q => by have := hy l i ⟨by omega, by omega, q⟩; omega)]; rfl
theorem rn_s (g : Nat → Bool) (i : Nat) : rn g (i + 1) = if g i then rn g i + 1 else 0 := rfl
theorem runs_ext {g : Nat → Bool} {n : Nat} (hn : n ≤ 6) (h : ∀ i, n ≤ i → i < 6 → g i = false) : nrn g 6 = nrn g n ∧ mrn g 6 = mrn g n := by
  constructor
  · exact zs_ext0 hn (fun i h1 h2 => by rw [h i h1 h2]; rfl)
  · have : ∀ m, n ≤ m → m ≤ 6 → mrn g m = mrn g n := by
      intro m
      induction m with
      | zero => intro h1 _; rw [show n = 0 from by omega]
      | succ m ih =>
        intro h1 h2
        by_cases e : n = m + 1
        · rw [e]
        · have : mrn g (m + 1) = max (mrn g m) (rn g (m + 1)) := rfl
          rw [this, rn_s, h m (by omega) (by omega), ih (by omega) (by omega)]
          simp
    exact this 6 hn (Nat.le_refl _)
theorem lineRuns {P : Pic} (ok : okP P) {l : Nat} (hl : l < nR P + nC P) (μ : Mem) :
    F_X0_countRuns (fX P &&& lmI (nR P) (nC P) l) (if nR P ≤ l then (8 : Int32) else (1 : Int32)) μ = rI (i3 (nrn (fun i => tb (fX P) (8 * rowL P l i + colL P l i)) (lenL P l))) μ ∧
    F_X0_longestRun (fX P &&& lmI (nR P) (nC P) l) (if nR P ≤ l then (8 : Int32) else (1 : Int32)) μ = rI (i3 (mrn (fun i => tb (fX P) (8 * rowL P l i + colL P l i)) (lenL P l) : Int)) μ := by
  have o1 := ok.2.1
  have o2 := ok.2.2.2.1
  have hX := ok.2.2.2.2.1
  have h6 := len6 ok l
  have hext := runs_ext (g := fun i => tb (fX P) (8 * rowL P l i + colL P l i)) h6 (fun i h1 h2 => tb_f (fun q => by
    unfold rowL colL at q
    unfold lenL at h1
    by_cases a : nR P ≤ l
    · rw [if_pos a] at h1
      rw [if_pos a, if_pos a] at q
      have := hX i (l - nR P) ⟨by omega, by omega, q⟩; omega
    · rw [if_neg a] at h1
      rw [if_neg a, if_neg a] at q
      have := hX l i ⟨by omega, by omega, q⟩; omega))
  rw [← hext.1, ← hext.2]
  by_cases a : nR P ≤ l
  · rw [if_pos a]
    refine runs_col (l := l - nR P) (by omega) _ (fun x c => ?_) μ
    rw [zc_and, zc_lm o1 o2 hl, if_pos a]
    unfold rowL colL
    rw [if_pos a, if_pos a]
    constructor
    · rintro ⟨q1, q2, q3⟩; subst q3; exact ⟨rfl, by omega, q1.2.2⟩
    · rintro ⟨q1, q2, q3⟩; subst q1
      have : zc (fX P) x (l - nR P) := ⟨by omega, by omega, q3⟩
      exact ⟨this, hX _ _ this, rfl⟩
  · rw [if_neg a]
    refine runs_row (r := l) (by omega) _ (fun x c => ?_) μ
    rw [zc_and, zc_lm o1 o2 hl, if_neg a]
    unfold rowL colL
    rw [if_neg a, if_neg a]
    constructor
    · rintro ⟨q1, q2, q3⟩; subst q3; exact ⟨rfl, by omega, q1.2.2⟩
    · rintro ⟨q1, q2, q3⟩; subst q1
      have : zc (fX P) x c := ⟨by omega, by omega, q3⟩
      exact ⟨this, hX _ _ this, rfl⟩
theorem cnt_pins {P : Pic} (l : Nat) : cnt (nR P) (fP P &&& fX P) l + cnt (nR P) (fP P &&& (fX P ^^^ (-1 : Int64))) l = cnt (nR P) (fP P) l ∨ ¬ (l < nR P + nC P ∧ nR P ≤ 6 ∧ nC P ≤ 6) := by
  by_cases hb : l < nR P + nC P ∧ nR P ≤ 6 ∧ nC P ≤ 6
  · left
    have pt : ∀ i, i < 64 → b2 (tb (fP P &&& fX P) i) + b2 (tb (fP P &&& (fX P ^^^ (-1 : Int64))) i) = b2 (tb (fP P) i) := by
      intro i hi
      rw [tb_and, tb_and, tb_not _ hi]
      cases tb (fP P) i <;> cases tb (fX P) i <;> decide
    unfold cnt
    by_cases q : nR P ≤ l
    · rw [if_pos q, if_pos q, if_pos q]
      unfold cct
      rw [← zs_add]
      exact zs_congr (fun r hr => pt _ (by omega))
    · rw [if_neg q, if_neg q, if_neg q]
      unfold rct
      rw [← zs_add]
      exact zs_congr (fun r hr => pt _ (by omega))
  · exact Or.inr hb
theorem zs_one' (n : Nat) : zs n (fun _ => 1) = n := by
  induction n with
  | zero => rfl
  | succ n ih => rw [zs_s, ih]; omega
theorem pc_free {P : Pic} (ok : okP P) {l : Nat} (hl : l < nR P + nC P) : pc (lmI (nR P) (nC P) l &&& ((fP P &&& (fX P ^^^ (-1 : Int64))) ^^^ (-1 : Int64))) = (lenL P l : Int) - cnt (nR P) (fP P &&& (fX P ^^^ (-1 : Int64))) l := by
  have o1 := ok.2.1
  have o2 := ok.2.2.2.1
  have hZ : ∀ r c, zc (fP P &&& (fX P ^^^ (-1 : Int64))) r c → r < nR P ∧ c < nC P := fun r c q => ok.2.2.2.2.2.1 r c ((zc_rem r c).mp q).1
  generalize fP P &&& (fX P ^^^ (-1 : Int64)) = Z at hZ ⊢
  have e : lmI (nR P) (nC P) l &&& (Z ^^^ (-1 : Int64)) = (bdI (nR P) (nC P) &&& (Z ^^^ (-1 : Int64))) &&& lmI (nR P) (nC P) l := zc_ext (fun r c => by
    rw [zc_rem, zc_and, zc_rem, zc_bd o1 o2, zc_lm o1 o2 hl]
    exact ⟨fun q => ⟨⟨q.1.1, q.2⟩, q.1⟩, fun q => ⟨q.2, q.1.2⟩⟩)
  have hB : ∀ r c, zc (bdI (nR P) (nC P) &&& (Z ^^^ (-1 : Int64))) r c → r < nR P ∧ c < nC P := fun r c q => (zc_bd o1 o2 r c).mp ((zc_rem r c).mp q).1
  rw [e, pc_lm o1 o2 hB hl, ← lin_sum ok hB hl, ← lin_sum ok hZ hl]
  have : zs (lenL P l) (fun i => b2 (tb (bdI (nR P) (nC P) &&& (Z ^^^ (-1 : Int64))) (8 * rowL P l i + colL P l i))) = zs (lenL P l) (fun i => 1 - b2 (tb Z (8 * rowL P l i + colL P l i))) := by
    apply zs_congr
    intro i hi
    have hb := lin_bd ok hl hi
    have tB := tb_iff (x := bdI (nR P) (nC P) &&& (Z ^^^ (-1 : Int64))) (r := rowL P l i) (c := colL P l i) (by omega) (by omega)
    have tZ := tb_iff (x := Z) (r := rowL P l i) (c := colL P l i) (by omega) (by omega)
    rw [zc_rem, zc_bd o1 o2, ← tZ] at tB
    cases hz : tb Z (8 * rowL P l i + colL P l i)
    · rw [tB.mpr ⟨⟨hb.1, hb.2.1⟩, by rw [hz]; decide⟩]; rfl
    · rw [tb_f (fun w => (tB.mp w).2 hz)]; rfl
  rw [this, zs_sub, zs_one']
theorem pc_pinF {P : Pic} (ok : okP P) {l : Nat} (hl : l < nR P + nC P) : pc ((lmI (nR P) (nC P) l &&& fP P) &&& fX P) = cnt (nR P) (fP P &&& fX P) l := by
  have o1 := ok.2.1
  have o2 := ok.2.2.2.1
  have hZ : ∀ r c, zc (fP P &&& fX P) r c → r < nR P ∧ c < nC P := fun r c q => ok.2.2.2.2.2.1 r c ((zc_and _ _ _ _).mp q).1
  have e : (lmI (nR P) (nC P) l &&& fP P) &&& fX P = (fP P &&& fX P) &&& lmI (nR P) (nC P) l := zc_ext (fun r c => by
    simp only [zc_and]
    exact ⟨fun q => ⟨⟨q.1.2, q.2⟩, q.1.1⟩, fun q => ⟨⟨q.2, q.1.1⟩, q.1.2⟩⟩)
  rw [e, pc_lm o1 o2 hZ hl]
theorem one0 (μ : Mem) : cI (F_X7_oneIf (0 : Int32) μ) (fun v μ => rI v μ) = rI (0 : Int32) μ := by unfold F_X7_oneIf; rw [if_pos rfl, cI_k]
theorem one1 (μ : Mem) : cI (F_X7_oneIf (1 : Int32) μ) (fun v μ => rI v μ) = rI (1 : Int32) μ := by unfold F_X7_oneIf; rw [if_neg (by decide), cI_k]
theorem bt_one {x : Int64} {r c : Nat} (hr : r < 8) (hc : c < 8) (μ : Mem) : (if lg_cmp (x &&& bv (8 * r + c)) (0 : Int64) = 0 then cI (F_X7_oneIf (0 : Int32) μ) (fun v μ => rI v μ) else cI (F_X7_oneIf (1 : Int32) μ) (fun v μ => rI v μ)) = rI (i3 (b2 (tb x (8 * r + c)))) μ := by
  rw [bit_test hr hc, one0, one1]
  cases tb x (8 * r + c)
  · rfl
  · rfl
theorem b2_if (b : Bool) (μ : Mem) : (if i3 (b2 b) = 0 then rI (0 : Int32) μ else rI (1 : Int32) μ) = rI (i3 (b2 b)) μ := by cases b <;> rfl
/-- the class's cell, once the cell is there -/
theorem cell_c {μ : Mem} {A : Ab} (h : cInv μ A) {r c : Nat} (hr : inZ r) (hc : inZ c) (hr' : r < nR (aP A)) (hc' : c < nC (aP A)) (a2 : Int32) : F_X7_cell (i3 (r : Int)) (i3 (c : Int)) a2 μ =
    (if a2 = (0 : Int32) then (rI (i3 (b2 (tb (fX (aP A)) (8 * r + c)))) μ) else if a2 = (1 : Int32) then (rI (i3 (b2 (tb (fP (aP A)) (8 * r + c)))) μ) else if a2 = (2 : Int32) then (cI (F_X0_pieceNumber (fX (aP A)) (bv (8 * r + c)) μ) (fun v39 μ36 => rI v39 μ36)) else if a2 = (3 : Int32) then (cJ (F_X0_hull (fX (aP A)) μ) (fun v45 μ42 => rI (i3 (b2 (tb v45 (8 * r + c)))) μ42)) else if a2 = (4 : Int32) then (cJ (F_X2_sureCells 2 μ) (fun v62 μ59 => rI (i3 (b2 (tb v62 (8 * r + c)))) μ59)) else (rX "java/lang/IllegalArgumentException" μ)) := by
  have o1 := h.2.1.2.1
  have o2 := h.2.1.2.2.2.1
  have q : (0 ≤ (r : Int) ∧ (r : Int) < nR (aP A)) ∧ 0 ≤ (c : Int) ∧ (c : Int) < nC (aP A) := by omega
  simp only [F_X7_cell, chk_cell h hr hc, if_pos q, cV_k, bit_code, cJ_k, h.1.2.2.1, h.1.2.2.2.1, bt_one (show r < 8 by omega) (show c < 8 by omega)]
theorem loop_rd {σ : Type} (L : Nat → Nat → σ → Out) (M : Nat → Nat → Nat → Nat → σ → Out) (P : Nat → σ → Prop) (P' : Nat → Nat → σ → Prop) (Q : Out → Prop) (R C : Nat) (hC : C < 4096)
    (h0 : ∀ n s, P R s → Q (L (n + 1) R s)) (h1 : ∀ n i s, i < R → P i s → ∃ s', P' i 0 s' ∧ L (n + 1) i s = M n BIG i 0 s') (h2 : ∀ n m i s, i < R → P' i C s → ∃ s', P (i + 1) s' ∧ M n (m + 1) i C s = L n (i + 1) s')
    (h3 : ∀ n m i j s, i < R → j < C → P' i j s → ∃ s', P' i (j + 1) s' ∧ M n (m + 1) i j s = M n m i (j + 1) s') : ∀ n i s, i ≤ R → R < n + i → P i s → Q (L n i s) := by
  intro n
  induction n with
  | zero => intro i s a b; omega
  | succ n ih =>
    intro i s a b hp
    by_cases hi : i = R
    · subst hi; exact h0 n s hp
    · obtain ⟨s1, w1, w2⟩ := h1 n i s (by omega) hp
      rw [w2]
      refine loop_st (fun m j s => M n m i j s) (fun j s => P' i j s) Q C ?_ ?_ BIG 0 s1 (by omega) (BIG_lt hC) w1
      · intro m s hs
        obtain ⟨s', w1, w2⟩ := h2 n m i s (by omega) hs
        show Q (M n (m + 1) i C s)
        rw [w2]
        exact ih (i + 1) s' (by omega) (by omega) w1
      · intro m j s hj hs
        exact Or.inl (h3 n m i j s (by omega) hj hs)
theorem zs_mul6 (n : Nat) (f : Nat → Int) : zs (6 * n) f = zs n (fun j => zs 6 (fun i => f (6 * j + i))) := by
  induction n with
  | zero => rfl
  | succ n ih => rw [show 6 * (n + 1) = 6 * n + 6 from by omega, zs_split, ih]; rfl
theorem pc36 {y : Int64} (hy : brd y) : pc y = zs 36 (fun j => b2 (tb y (8 * (j / 6) + j % 6))) := by
  rw [pc_z2 hy, show (36 : Nat) = 6 * 6 from rfl, zs_mul6]
  unfold z2
  apply zs_congr; intro r hr
  apply zs_congr; intro c hc
  show b2 (tb y (8 * r + c)) = b2 (tb y (8 * ((6 * r + c) / 6) + (6 * r + c) % 6))
  rw [show (6 * r + c) / 6 = r from by omega, show (6 * r + c) % 6 = c from by omega]
theorem crn_in {P : Pic} {r s c d : Nat} (hs : s < nR P) (hd : d < nC P) (hr : r < nR P) (hc : c < nC P) (h6 : nR P ≤ 6) (h6' : nC P ≤ 6) (hX : ∀ a b, zc (fX P) a b → a < nR P ∧ b < nC P) : ∀ a b, zc (fX P ^^^ crn r s c d) a b → a < nR P ∧ b < nC P := by
  intro a b q
  rw [zc_xor, zc_crn (by omega) (by omega) (by omega) (by omega)] at q
  rcases q with q | q
  · exact hX a b q.1
  · omega
/-- the four cells told by a code are turned -/
abbrev crk (k : Nat) : Int64 := crn (k / 216) (k / 36 % 6) (k / 6 % 6) (k % 6)
theorem exq_ord {P : Pic} {k : Nat} (hq : exq P k = true) : k / 216 < k / 36 % 6 ∧ k / 6 % 6 < k % 6 := by
  unfold exq at hq
  simp only [Bool.and_eq_true, decide_eq_true_eq] at hq
  exact ⟨hq.1.1, hq.1.2⟩
theorem exq_in {P : Pic} (ok : okP P) {k : Nat} (hq : exq P k = true) : k / 36 % 6 < nR P ∧ k % 6 < nC P ∧ k / 216 < nR P ∧ k / 6 % 6 < nC P := by
  have o := exq_ord hq
  unfold exq of4 at hq
  simp only [Bool.and_eq_true, decide_eq_true_eq] at hq
  have hq2 := hq.2
  generalize k / 216 = r at *
  have hs : k / 36 % 6 < 6 := Nat.mod_lt _ (by decide)
  have hd : k % 6 < 6 := Nat.mod_lt _ (by decide)
  generalize k / 36 % 6 = s at *
  generalize k / 6 % 6 = c at *
  generalize k % 6 = d at *
  have in1 : ∀ a b, a < 6 → b < 6 → tb (fX P) (8 * a + b) = true → a < nR P ∧ b < nC P := fun a b ha hb q => ok.2.2.2.2.1 a b ⟨by omega, by omega, q⟩
  cases e1 : tb (fX P) (8 * r + c)
  · cases e2 : tb (fX P) (8 * r + d)
    · rw [e1, e2] at hq2; simp at hq2
    · cases e3 : tb (fX P) (8 * s + c)
      · rw [e1, e3] at hq2; simp at hq2
      · have a := in1 r d (by omega) (by omega) e2
        have b := in1 s c (by omega) (by omega) e3
        omega
  · cases e2 : tb (fX P) (8 * s + d)
    · rw [e1, e2] at hq2; simp at hq2
    · have a := in1 r c (by omega) (by omega) e1
      have b := in1 s d (by omega) (by omega) e2
      omega
theorem crk_in {P : Pic} (ok : okP P) {k : Nat} (hq : exq P k = true) : ∀ a b, zc (fX P ^^^ crk k) a b → a < nR P ∧ b < nC P := by
  obtain ⟨h1, h2, h3, h4⟩ := exq_in ok hq
  exact crn_in h1 h2 h3 h4 ok.2.1 ok.2.2.2.1 ok.2.2.2.2.1
theorem xor2 (x y : Int64) : (x ^^^ y) ^^^ y = x := by
  apply tb_ext
  intro i hi
  rw [tb_xor, tb_xor]
  cases tb x i <;> cases tb y i <;> rfl
theorem tol_inj {k k' : Nat} (hk : k < 1296) (hk' : k' < 1296) (h : tol k = tol k') : k = k' := by
  unfold tol at h
  omega
theorem osd_bd (b : Int64) (r c : Nat) : 0 ≤ osd b r c ∧ osd b r c ≤ 4 := by
  unfold osd
  have h : ∀ x : Bool, 0 ≤ 1 - b2 x ∧ 1 - b2 x ≤ 1 := by decide
  have h1 := h (decide (1 ≤ c) && tb b (8 * r + c - 1))
  have h2 := h (tb b (8 * r + c + 1))
  have h3 := h (decide (1 ≤ r) && tb b (8 * r + c - 8))
  have h4 := h (tb b (8 * r + c + 8))
  omega
theorem outl_bd (a b : Int64) : 0 ≤ outl a b ∧ outl a b ≤ 144 := by
  have cell : ∀ r c, 0 ≤ b2 (tb a (8 * r + c)) * osd b r c ∧ b2 (tb a (8 * r + c)) * osd b r c ≤ 4 := fun r c => by
    have := osd_bd b r c
    cases tb a (8 * r + c)
    · rw [b2_f, Int.zero_mul]; omega
    · rw [b2_t, Int.one_mul]; exact this
  have row : ∀ r, 0 ≤ zs 6 (fun c => b2 (tb a (8 * r + c)) * osd b r c) ∧ zs 6 (fun c => b2 (tb a (8 * r + c)) * osd b r c) ≤ 24 := fun r => by
    have u := zs_bnd (n := 6) (f := fun c => b2 (tb a (8 * r + c)) * osd b r c) 4 (fun c _ => (cell r c).2)
    have v : 0 ≤ zs 6 (fun c => b2 (tb a (8 * r + c)) * osd b r c) := zs_pos (fun c _ => (cell r c).1)
    omega
  have u := zs_bnd (n := 6) (f := fun r => zs 6 (fun c => b2 (tb a (8 * r + c)) * osd b r c)) 24 (fun r _ => (row r).2)
  have v : 0 ≤ zs 6 (fun r => zs 6 (fun c => b2 (tb a (8 * r + c)) * osd b r c)) := zs_pos (fun r _ => (row r).1)
  show 0 ≤ zs 6 (fun r => zs 6 (fun c => b2 (tb a (8 * r + c)) * osd b r c)) ∧ zs 6 (fun r => zs 6 (fun c => b2 (tb a (8 * r + c)) * osd b r c)) ≤ 144
  omega
noncomputable def exK (P : Pic) (i : Nat) : Nat := @Classical.epsilon Nat ⟨0⟩ (fun k => k < 1296 ∧ exq P k = true ∧ cex P k = i)
theorem exK_eq {P : Pic} {i : Nat} {v : Int} (h : isEx P i v) (hi : (i : Int) < cex P 1296) : v = tol (exK P i) ∧ exK P i < 1296 ∧ exq P (exK P i) = true := by
  rcases h with ⟨k, h1, h2, h3, h4⟩ | ⟨h1, h2⟩
  · have sp : exK P i < 1296 ∧ exq P (exK P i) = true ∧ cex P (exK P i) = i := @Classical.epsilon_spec_aux Nat ⟨0⟩ (fun k => k < 1296 ∧ exq P k = true ∧ cex P k = i) ⟨k, h1, h2, h3⟩
    have e := isEx_uni (Or.inl ⟨k, h1, h2, h3, h4⟩ : isEx P i v) (Or.inl ⟨_, sp.1, sp.2.1, sp.2.2, rfl⟩ : isEx P i (tol (exK P i)))
    exact ⟨e, sp.1, sp.2.1⟩
  · omega
noncomputable def npN (x : Int64) : Nat := @Classical.epsilon Nat ⟨0⟩ (fun n => npc (zc x) n)
theorem npN_eq {x : Int64} {n : Nat} (h : npc (zc x) n) : npN x = n := npc_inj (@Classical.epsilon_spec_aux Nat ⟨0⟩ (fun n => npc (zc x) n) ⟨n, h⟩) h
theorem cex_nn (P : Pic) (n : Nat) : 0 ≤ cex P n := zs_pos (fun i _ => b2_0 _)
theorem cex_bd (P : Pic) : cex P 1296 ≤ 1296 := by
  have := zs_bnd (n := 1296) (f := fun k => b2 (exq P k)) 1 (fun i _ => b2_1 _)
  have e : cex P 1296 = zs 1296 (fun k => b2 (exq P k)) := rfl
  omega
/-- the picture behind the exchange k -/
abbrev xk (P : Pic) (k : Nat) : Int64 := fX P ^^^ crk k
/-- the best of the first i exchanges: its number, its pieces, its outline -/
noncomputable def bxI (P : Pic) : Nat → Int32 × Int32 × Int32
  | 0 => ((-9 : Int32), (0 : Int32), (0 : Int32))
  | i + 1 => if (bxI P i).1 = (-9 : Int32) then (i3 (i : Int), i3 (npN (xk P (exK P i))), i3 (outl (xk P (exK P i)) (xk P (exK P i))))
      else if i3 (npN (xk P (exK P i)) : Int) < (bxI P i).2.1 then (i3 (i : Int), i3 (npN (xk P (exK P i))), i3 (outl (xk P (exK P i)) (xk P (exK P i))))
      else if i3 (npN (xk P (exK P i)) : Int) = (bxI P i).2.1 then (if (bxI P i).2.2 ≤ i3 (outl (xk P (exK P i)) (xk P (exK P i))) then bxI P i else (i3 (i : Int), i3 (npN (xk P (exK P i))), i3 (outl (xk P (exK P i)) (xk P (exK P i)))))
      else bxI P i
theorem bxI_s (P : Pic) (i : Nat) {k : Nat} (hk : exK P i = k) {n : Nat} (hn : npN (xk P k) = n) {o : Int} (ho : outl (xk P k) (xk P k) = o) : bxI P (i + 1) = if (bxI P i).1 = (-9 : Int32) then (i3 (i : Int), i3 n, i3 o)
      else if i3 (n : Int) < (bxI P i).2.1 then (i3 (i : Int), i3 n, i3 o)
      else if i3 (n : Int) = (bxI P i).2.1 then (if (bxI P i).2.2 ≤ i3 o then bxI P i else (i3 (i : Int), i3 n, i3 o))
      else bxI P i := by
  subst hk
  subst hn
  subst ho
  rw [bxI]
theorem bx_c {μ : Mem} {P : Pic} (h : CP μ 2 P) (ok : okP P) : F_X7_bestExchange μ = rI (bxI P (cex P 1296).toNat).1 μ := by
  have c0 := cex_nn P 1296
  have c1 := cex_bd P
  obtain ⟨N, hN⟩ : ∃ N : Nat, cex P 1296 = N := ⟨(cex P 1296).toNat, by omega⟩
  simp only [F_X7_bestExchange, countExchanges_code h ok, cI_k, hN, Int.toNat_natCast]
  rw [show f_X7_bestExchange_19 BIG (-9 : Int32) (0 : Int32) (0 : Int32) (i3 (N : Int)) (0 : Int32) μ = f_X7_bestExchange_19 BIG (bxI P 0).1 (bxI P 0).2.1 (bxI P 0).2.2 (i3 (N : Int)) (i3 ((0 : Nat) : Int)) μ from by rw [bxI]; rfl]
  refine loop_up (fun n i => f_X7_bestExchange_19 n (bxI P i).1 (bxI P i).2.1 (bxI P i).2.2 (i3 (N : Int)) (i3 i) μ) N _ (fun n => ?_) (fun n i hi => ?_) BIG 0 (by omega) (BIG_lt (by omega))
  · simp only [f_X7_bestExchange_19]
    rw [if_pos (le3 (by omega))]
  · obtain ⟨v, w1, w2⟩ := exchangeNumbered_code h ok (i := i) (by omega) (by omega)
    obtain ⟨e1, e2, e3⟩ := exK_eq w2 (by omega)
    subst e1
    have hb := crk_in ok e3
    obtain ⟨n', y1, y2, y3⟩ := countPieces_code (brdX ok hb) μ
    have e := bxI_s P i rfl (npN_eq y2) rfl
    have hX := h.2.2.1
    simp only [f_X7_bestExchange_19]
    rw [if_neg (nle3 (by omega)), w1, cI_k, cornersOf_code e2, cJ_k, lt_k, hX, y1, cI_k, outline_code (brdX ok hb) (brdX ok hb), cI_k]
    simp only [f_X7_bestExchange_88, lt_k, inc3]
    rw [e]
    split
    · rfl
    · split
      · rfl
      · split
        · split
          · rfl
          · rfl
        · rfl
theorem pcs_x {P : Pic} {y : Int64} {p : Nat} (y2 : ∀ r c, zc y r c ↔ cmp (rs (zc (fX P)) p) r c) (r c : Nat) (q : zc y r c) : zc (fX P) r c := rs_in (cmp_in ((y2 r c).mp q))
theorem sml_bd {P : Pic} {m i : Nat} : 0 ≤ sml P m i ∧ sml P m i ≤ m := by
  have a := tal_0 P m i
  have b := tal_m P m i
  unfold sml; split <;> omega
