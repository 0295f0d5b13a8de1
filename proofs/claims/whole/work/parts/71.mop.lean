/-! one operation on both sides -/
def frc (μ μ' : Mem) : Prop := ∀ k, 29 ≤ k → μ'.1 k = μ.1 k ∧ μ'.2.1 k = μ.2.1 k ∧ μ'.2.2 k = μ.2.2 k
def frm (μ μ' : Mem) : Prop := ∀ k, (k < 29 ∨ 47 < k) → μ'.1 k = μ.1 k ∧ μ'.2.1 k = μ.2.1 k ∧ μ'.2.2 k = μ.2.2 k
theorem frc_of {W : List Nat} {μ μ' : Mem} (h : fr W μ μ') (hs : ∀ k, k ∈ W → k < 29) : frc μ μ' := fun k hk => h k (fun w => by have := hs k w; omega)
theorem frm_of {W : List Nat} {μ μ' : Mem} (h : fr W μ μ') (hs : ∀ k, k ∈ W → 29 ≤ k ∧ k ≤ 47) : frm μ μ' := fun k hk => h k (fun w => by have := hs k w; omega)
theorem frc_rf (μ : Mem) : frc μ μ := fun _ _ => ⟨rfl, rfl, rfl⟩
theorem frc_tr {a b c : Mem} (h : frc a b) (h' : frc b c) : frc a c := fun k hk => ⟨(h' k hk).1.trans (h k hk).1, (h' k hk).2.1.trans (h k hk).2.1, (h' k hk).2.2.trans (h k hk).2.2⟩
theorem frm_tr {a b c : Mem} (h : frm a b) (h' : frm b c) : frm a c := fun k hk => ⟨(h' k hk).1.trans (h k hk).1, (h' k hk).2.1.trans (h k hk).2.1, (h' k hk).2.2.trans (h k hk).2.2⟩
theorem frm_rf (μ : Mem) : frm μ μ := fun _ _ => ⟨rfl, rfl, rfl⟩
theorem cInv_m {μ μ' : Mem} {A : Ab} (h : cInv μ A) (hf : frm μ μ') : cInv μ' A := by
  refine cInv_fr (W := [29, 30, 31, 32, 33, 34, 35, 36, 37, 38, 39, 40, 41, 42, 43, 44, 45, 46, 47]) h (fun k hk => hf k ?_) (fun k hk => ?_)
  · simp at hk; omega
  · simp at hk; omega
theorem mInv_c {μ μ' : Mem} {A : Ab} (h : mInv μ A) (hf : frc μ μ') : mInv μ' A :=
  mInv_k h (hf 30 (by omega)).1 (hf 31 (by omega)).1 (hf 32 (by omega)).1 (hf 34 (by omega)).1 (by rw [(hf 29 (by omega)).1]) (by rw [(hf 29 (by omega)).1]) (by rw [(hf 29 (by omega)).1])
abbrev remA (A : Ab) : Ab := (aP A, (remN (aHn A), remQ (aHn A) (aH A) (aP A)), A.2.2)
abbrev setP (A : Ab) (Q : Pic) : Ab := (Q, A.2)
theorem hW_29 (k : Nat) (h : k ∈ hW) : k < 29 := by unfold hW at h; simp at h; omega
theorem cRem {μ : Mem} {A : Ab} (h : cInv μ A) : ∃ s, F_X3_remember 2 μ = rV s ∧ frc μ s ∧ cInv s (remA A) := by
  obtain ⟨s, w1, w2, w3, w4⟩ := remember_code h.2.2.1 h.1 h.2.1
  refine ⟨s, w1, frc_of w2 hW_29, w4, h.2.1, w3, cS_fr h.2.2.2.1 w2 (by simp [hW]) (by simp [hW]) (by simp [hW]) (by simp [hW]), cT_fr h.2.2.2.2 w2 (by simp [hW]) (by simp [hW])⟩
theorem mRem {s : Mem} {A : Ab} (h : mInv s A) : ∃ z, F_X8_remembers s = rV z ∧ frm s z ∧ (∀ j, ¬ j = 2 → z.1 29 j = s.1 29 j) ∧ mInv z (remA A) := by
  obtain ⟨z, w1, w2, w3, w4⟩ := mRemembers h.2.1 h.1
  refine ⟨z, w1, frm_of w2 (by simp), w3, MN_fr h.1 w2 (by simp), w4, ⟨(w3 4 (by decide)).trans h.2.2.1.1, fun j hj hv => MP_fr (h.2.2.1.2 j hj hv) w2 (by simp)⟩, (w3 7 (by decide)).trans h.2.2.2.1, fun j hj => by rw [fr_1 w2 (by simp)]; exact h.2.2.2.2 j hj⟩
theorem cInv_P {μ μ' : Mem} {A : Ab} {Q : Pic} (h : cInv μ A) (hf : fr [2] μ μ') (hP : CP μ' 2 Q) (ok : okP Q) : cInv μ' (setP A Q) :=
  ⟨hP, ok, cH_fr h.2.2.1 hf (by simp) (by simp) (fun k h1 h2 => by simp; omega), cS_fr h.2.2.2.1 hf (by simp) (by simp) (by simp) (by simp), cT_fr h.2.2.2.2 hf (by simp) (by simp)⟩
theorem mInv_P {μ μ' : Mem} {A : Ab} {Q : Pic} (h : mInv μ A) (hf : fr [30] μ μ') (hP : MN μ' Q) : mInv μ' (setP A Q) :=
  ⟨hP, ⟨(fr_1 hf (by simp) _).trans h.2.1.1, h.2.1.2.1, fun j hj => MP_fr (h.2.1.2.2 j hj) hf (by simp)⟩, ⟨(fr_1 hf (by simp) _).trans h.2.2.1.1, fun j hj hv => MP_fr (h.2.2.1.2 j hj hv) hf (by simp)⟩, (fr_1 hf (by simp) _).trans h.2.2.2.1, fun j hj => (fr_1 hf (by simp) _).trans (h.2.2.2.2 j hj)⟩
/-- the two sides agree on an operation: a number, or an exception of the list kd, told by its place in it -/
def opOK (A : Ab) (kd : List String) (μ : Mem) (oc : Out) (om : Mem → Out) : Prop := ∃ μ1, frc μ μ1 ∧
  ((∃ v A', oc = rI v μ1 ∧ cInv μ1 A' ∧ ∀ s, mInv s A → ∃ z, om s = rI v z ∧ frm s z ∧ z.1 29 8 = i3 0 ∧ mInv z A') ∨
   (∃ E i, oc = rX E μ1 ∧ cInv μ1 A ∧ kd[i]? = some E ∧ ∀ s, mInv s A → ∃ w z, om s = rI w z ∧ frm s z ∧ z.1 29 8 = i3 ((i + 1 : Nat) : Int) ∧ mInv z A))
abbrev eIdx : String := "java/lang/IndexOutOfBoundsException"
abbrev eArg : String := "java/lang/IllegalArgumentException"
abbrev eSta : String := "java/lang/IllegalStateException"
/-- the code of the exception is written -/
theorem thr {s : Mem} {A : Ab} (h : mInv s A) (v : Int32) : frm s (sI s 29 8 v) ∧ mInv (sI s 29 8 v) A ∧ (sI s 29 8 v).1 29 8 = v :=
  ⟨frm_of (W := [29]) (fr_sI (by simp)) (by simp), mInv_sI h (Or.inr ⟨rfl, by simp⟩), by rw [sI_1, up2_same]⟩
theorem op_err {A : Ab} {kd : List String} {μ μ1 : Mem} {oc : Out} {om : Mem → Out} (hf : frc μ μ1) (hc : cInv μ1 A) (E : String) (i : Nat) (h1 : oc = rX E μ1) (h2 : kd[i]? = some E) (h3 : ∀ s, mInv s A → ∃ w z, om s = rI w z ∧ frm s z ∧ z.1 29 8 = i3 ((i + 1 : Nat) : Int) ∧ mInv z A) : opOK A kd μ oc om :=
  ⟨μ1, hf, Or.inr ⟨E, i, h1, hc, h2, h3⟩⟩
theorem okX {P : Pic} (ok : okP P) {y : Int64} (hy : ∀ r c, zc y r c → r < nR P ∧ c < nC P) : okP (mkX P y) := by
  obtain ⟨o1, o2, o3, o4, o5, o6, o7, o8⟩ := ok
  exact ⟨o1, o2, o3, o4, hy, o6, o7, o8⟩
theorem okPn {P : Pic} (ok : okP P) {y : Int64} (hy : ∀ r c, zc y r c → r < nR P ∧ c < nC P) : okP (mkPn P y) := by
  obtain ⟨o1, o2, o3, o4, o5, o6, o7, o8⟩ := ok
  exact ⟨o1, o2, o3, o4, o5, hy, o7, o8⟩
theorem setB_in {x : Int64} {R C r c : Nat} (hr : r < R) (hc : c < C) (hR : R ≤ 6) (hC : C ≤ 6) (hx : ∀ a d, zc x a d → a < R ∧ d < C) (b : Bool) : ∀ a d, zc (setB x r c b) a d → a < R ∧ d < C := by
  intro a d q
  rw [zc_setB (by omega) (by omega)] at q
  by_cases e : a = r ∧ d = c
  · omega
  · rw [if_neg e] at q; exact hx a d q
theorem nzb (b : Bool) (K : Out) : ck (nz (i3 (b2 b))) K = K := by cases b; exact (nz_k K).2; exact (nz_k K).1
/-- the numbers in the frame of an operation's argument -/
abbrev inZ (v : Int) : Prop := -2147483648 ≤ v ∧ v < 2147483648
theorem natZ {v : Int} {n : Nat} (h : 0 ≤ v ∧ v < n) : ∃ m : Nat, v = m ∧ m < n := ⟨v.toNat, by omega, by omega⟩
theorem chk_cell {μ : Mem} {A : Ab} (h : cInv μ A) {r c : Int} (hr : inZ r) (hc : inZ c) : F_X7_checkCell (i3 r) (i3 c) μ = if (0 ≤ r ∧ r < nR (aP A)) ∧ 0 ≤ c ∧ c < nC (aP A) then rV μ else rX eIdx μ := by
  simp only [F_X7_checkCell, hasCell_code h.1 h.2.1 hr hc, cI_k]
  by_cases q : (0 ≤ r ∧ r < nR (aP A)) ∧ 0 ≤ c ∧ c < nC (aP A)
  · rw [if_pos q, if_pos q, if_neg (by decide)]
  · rw [if_neg q, if_neg q, if_pos (show i3 0 = (0 : Int32) from l3_0.symm)]
theorem op_fill {μ : Mem} {A : Ab} (h : cInv μ A) {r c : Int} (hr : inZ r) (hc : inZ c) (b : Bool) : opOK A [eIdx, eSta] μ (F_X7_fill (i3 r) (i3 c) (i3 (b2 b)) μ) (F_X8_fill (i3 r) (i3 c) (i3 (b2 b))) := by
  have ok := h.2.1
  have o1 := ok.2.1
  have o2 := ok.2.2.2.1
  have z0 : i3 0 = (0 : Int32) := by decide
  have z1 : ¬ (1 : Int32) = (0 : Int32) := by decide
  have z1' : ¬ i3 1 = (0 : Int32) := by decide
  have z2 : ¬ (2 : Int32) = (0 : Int32) := by decide
  by_cases q : (0 ≤ r ∧ r < nR (aP A)) ∧ 0 ≤ c ∧ c < nC (aP A)
  · obtain ⟨r, rfl, hr'⟩ := natZ q.1
    obtain ⟨c, rfl, hc'⟩ := natZ q.2
    by_cases p : tb (fP (aP A)) (8 * r + c) = true
    · refine op_err (frc_rf μ) h eSta 1 ?_ rfl (fun s hs => ?_)
      · simp only [F_X7_fill, chk_cell h hr hc, if_pos q, cV_k, isPinned_code h.1 (show r < 8 by omega) (show c < 8 by omega), cI_k, p, b2_t, if_neg z1']
      · obtain ⟨t1, t2, t3⟩ := thr hs (2 : Int32)
        refine ⟨0, sI s 29 8 (2 : Int32), ?_, t1, by rw [t3]; decide, t2⟩
        simp only [F_X8_fill, mCell hs.1 ok hr hc, if_pos q, cI_k, if_neg z1', mPinned hs.1 (show r < 6 by omega) (show c < 6 by omega), p, b2_t, f_X8_fill_28, lt_k, t3, if_neg z2]
    · have p' : tb (fP (aP A)) (8 * r + c) = false := by cases w : tb (fP (aP A)) (8 * r + c); rfl; exact absurd w p
      obtain ⟨s1, w1, w2, w3⟩ := cRem h
      refine ⟨_, frc_tr w2 (frc_of (W := [2]) (fr_sJ (by simp)) (by simp)), Or.inl ⟨i3 (b2 (tb (fX (aP A)) (8 * r + c))), setP (remA A) (mkX (aP A) (setB (fX (aP A)) r c b)), ?_, cInv_P w3 (fr_sJ (by simp)) (CP_X w3.1 _) (okX ok (setB_in hr' hc' o1 o2 ok.2.2.2.2.1 b)), fun s hs => ?_⟩⟩
      · simp only [F_X7_fill, chk_cell h hr hc, if_pos q, cV_k, isPinned_code h.1 (show r < 8 by omega) (show c < 8 by omega), cI_k, p', b2_f, if_pos z0, w1, setFilled_code w3.1 (show r < 8 by omega) (show c < 8 by omega), nzb]
      · obtain ⟨t1, t2, t3⟩ := thr hs (0 : Int32)
        obtain ⟨u, v1, v2, v3, v4⟩ := mRem t2
        obtain ⟨y, x1, x2, x3⟩ := mFills v4.1 (show r < 6 by omega) (show c < 6 by omega) b
        refine ⟨y, ?_, frm_tr t1 (frm_tr v2 (frm_of x2 (by simp))), ?_, mInv_P v4 x2 x3⟩
        · simp only [F_X8_fill, mCell hs.1 ok hr hc, if_pos q, cI_k, if_neg z1', mPinned hs.1 (show r < 6 by omega) (show c < 6 by omega), p', b2_f, if_pos z0, f_X8_fill_28, lt_k, t3, if_true, v1, cV_k, mFilled v4.1 (show r < 6 by omega) (show c < 6 by omega), x1, nzb]
        · rw [fr_1 x2 (by simp), v3 8 (by decide), t3]; rfl
  · refine op_err (frc_rf μ) h eIdx 0 ?_ rfl (fun s hs => ?_)
    · simp only [F_X7_fill, chk_cell h hr hc, if_neg q, cV_x]
    · obtain ⟨t1, t2, t3⟩ := thr hs (1 : Int32)
      refine ⟨0, sI s 29 8 (1 : Int32), ?_, t1, by rw [t3]; decide, t2⟩
      simp only [F_X8_fill, mCell hs.1 ok hr hc, if_neg q, cI_k, if_pos z0, f_X8_fill_28, lt_k, t3, if_neg z1]
