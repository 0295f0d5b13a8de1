/-! one order of a script on both sides -/
abbrev Wr : List Nat := [30, 35, 37, 38, 39, 40, 41, 42, 43, 44, 47]
def stepR (μ : Mem) (P : Pic) (oc : Out) (om : Mem → Out) : Prop := ∃ (b : Bool) (Q : Pic) (μ' : Mem), oc = rI (i3 (b2 b)) μ' ∧ fr [3, 6, 12] μ μ' ∧ CP μ' 3 Q ∧ okP Q ∧ ∀ s, MN s P → ∃ z, om s = rI (i3 (b2 b)) z ∧ fr Wr s z ∧ MN z Q
theorem ib0 : i3 (b2 false) = (0 : Int32) := by decide
theorem ib1 : i3 (b2 true) = (1 : Int32) := by decide
theorem nz0 (K : Out) : ck (nz (0 : Int32)) K = K := ck_k (by decide) K
theorem nz1 (K : Out) : ck (nz (1 : Int32)) K = K := ck_k (by decide) K
theorem j10 : ¬ (1 : Int32) = (0 : Int32) := by decide
theorem j01 : ¬ (0 : Int32) = (1 : Int32) := by decide
theorem step0 {μ : Mem} {P : Pic} (h : CP μ 3 P) (ok : okP P) {oc : Out} {om : Mem → Out} (h1 : oc = rI (0 : Int32) μ) (h2 : ∀ s, MN s P → ∃ z, om s = rI (0 : Int32) z ∧ fr Wr s z ∧ MN z P) : stepR μ P oc om :=
  ⟨false, P, μ, by rw [h1, ib0], fr_rf _ _, h, ok, fun s hs => by rw [ib0]; exact h2 s hs⟩
theorem step00 {μ : Mem} {P : Pic} (h : CP μ 3 P) (ok : okP P) {oc : Out} {om : Mem → Out} (h1 : oc = rI (0 : Int32) μ) (h2 : ∀ s, MN s P → om s = rI (0 : Int32) s) : stepR μ P oc om :=
  step0 h ok h1 (fun s hs => ⟨s, h2 s hs, fr_rf _ _, hs⟩)
theorem two01 {e : Nat} (h : e < 2) : (e = 0 ∧ i3 (e : Int) = (0 : Int32)) ∨ (e = 1 ∧ i3 (e : Int) = (1 : Int32)) := by
  have : e = 0 ∨ e = 1 := by omega
  rcases this with rfl | rfl
  · exact Or.inl ⟨rfl, rfl⟩
  · exact Or.inr ⟨rfl, rfl⟩
theorem sFill {μ : Mem} {P : Pic} (h : CP μ 3 P) (ok : okP P) {b c e : Nat} (hb : b < 10) (hc : c < 10) (he : e < 10) : stepR μ P (cI (F_X7_scriptFills (i3 b) (i3 c) (i3 e) μ) (fun v μ => ck (nz v) (rI v μ)))
    (fun s => cI (F_X8_isCell (i3 b) (i3 c) s) (fun v9 μ6 => if v9 = 0 then (f_X8_does_81 (i3 b) (i3 c) (i3 e) (0 : Int32) μ6) else (if (2 : Int32) ≤ i3 e then (f_X8_does_81 (i3 b) (i3 c) (i3 e) (0 : Int32) μ6) else (cI (F_X8_isPinned (i3 b) (i3 c) μ6) (fun v16 μ13 => if v16 = 0 then (f_X8_does_81 (i3 b) (i3 c) (i3 e) (1 : Int32) μ13) else (f_X8_does_81 (i3 b) (i3 c) (i3 e) (0 : Int32) μ13)))))) := by
  have o1 := ok.2.1
  have o2 := ok.2.2.2.1
  have f0 : ∀ s, f_X8_does_81 (i3 b) (i3 c) (i3 e) (0 : Int32) s = rI (0 : Int32) s := fun s => by simp only [f_X8_does_81, if_true, nz0]
  have hcell := hasCell_code h ok (r := b) (c := c) (by omega) (by omega)
  have mcell : ∀ s, MN s P → _ := fun s hs => mCell (μ := s) hs ok (r := b) (c := c) (by omega) (by omega)
  by_cases q : (0 ≤ (b : Int) ∧ (b : Int) < nR P) ∧ 0 ≤ (c : Int) ∧ (c : Int) < nC P
  · rw [if_pos q] at hcell
    by_cases e2 : e < 2
    · have n1 : ¬ (1 : Int32) < i3 (e : Int) := by rw [l3_1]; exact nlt3 (by omega)
      have n2 : ¬ (2 : Int32) ≤ i3 (e : Int) := by rw [l3_2]; exact nle3 (by omega)
      have pinc := isPinned_code h (r := b) (c := c) (by omega) (by omega)
      cases t : tb (fP P) (8 * b + c)
      · rw [t, ib0] at pinc
        have key : ∀ v : Bool, i3 (e : Int) = i3 (b2 v) → stepR μ P (cI (F_X7_scriptFills (i3 b) (i3 c) (i3 e) μ) (fun v μ => ck (nz v) (rI v μ)))
            (fun s => cI (F_X8_isCell (i3 b) (i3 c) s) (fun v9 μ6 => if v9 = 0 then (f_X8_does_81 (i3 b) (i3 c) (i3 e) (0 : Int32) μ6) else (if (2 : Int32) ≤ i3 e then (f_X8_does_81 (i3 b) (i3 c) (i3 e) (0 : Int32) μ6) else (cI (F_X8_isPinned (i3 b) (i3 c) μ6) (fun v16 μ13 => if v16 = 0 then (f_X8_does_81 (i3 b) (i3 c) (i3 e) (1 : Int32) μ13) else (f_X8_does_81 (i3 b) (i3 c) (i3 e) (0 : Int32) μ13)))))) := by
          intro v hv
          refine ⟨true, mkX P (setB (fX P) b c v), sJ μ 3 2 (setB (fX P) b c v), ?_, fr_sJ (by simp), CP_X h _, okX ok (setB_in (by omega) (by omega) o1 o2 ok.2.2.2.2.1 v), fun s hs => ?_⟩
          · have sf := setFilled_code h (r := b) (c := c) (by omega) (by omega) v
            simp only [F_X7_scriptFills, if_neg n1, hcell, cI_k, if_neg iz1, pinc, if_true]
            rw [hv]
            cases v
            · rw [ib0] at sf ⊢
              rw [if_neg j01, sf, cI_k, cI_k, nz1, ib1]
            · rw [ib1] at sf ⊢
              rw [if_pos rfl, sf, cI_k, cI_k, nz1]
          · obtain ⟨z, w1, w2, w3⟩ := mFills hs (r := b) (c := c) (by omega) (by omega) v
            have mp := mPinned hs (r := b) (c := c) (by omega) (by omega)
            rw [t, ib0] at mp
            refine ⟨z, ?_, fr_w w2 (by simp), w3⟩
            have mc := mcell s hs
            rw [if_pos q] at mc
            simp only [mc, cI_k, if_neg iz1, if_neg n2, mp, if_true, f_X8_does_81, if_neg j10]
            rw [hv]
            cases v
            · rw [ib0] at w1 ⊢
              rw [if_neg j01, w1, cV_k, nz1, ib1]
            · rw [ib1] at w1 ⊢
              rw [if_pos rfl, w1, cV_k, nz1]
        rcases two01 e2 with ⟨-, e3⟩ | ⟨-, e3⟩
        · exact key false (by rw [e3, ib0])
        · exact key true (by rw [e3, ib1])
      · rw [t, ib1] at pinc
        refine step00 h ok ?_ (fun s hs => ?_)
        · simp only [F_X7_scriptFills, if_neg n1, hcell, cI_k, if_neg iz1, pinc, if_neg j10, nz0]
        · have mp := mPinned hs (r := b) (c := c) (by omega) (by omega)
          rw [t, ib1] at mp
          have mc := mcell s hs
          rw [if_pos q] at mc
          simp only [mc, cI_k, if_neg iz1, if_neg n2, mp, if_neg j10, f0]
    · refine step00 h ok ?_ (fun s hs => ?_)
      · simp only [F_X7_scriptFills, if_pos (show (1 : Int32) < i3 (e : Int) from by rw [l3_1]; exact lt3 (by omega)), cI_k, nz0]
      · have mc := mcell s hs
        rw [if_pos q] at mc
        simp only [mc, cI_k, if_neg iz1, if_pos (show (2 : Int32) ≤ i3 (e : Int) from by rw [l3_2]; exact le3 (by omega)), f0]
  · rw [if_neg q] at hcell
    refine step00 h ok ?_ (fun s hs => ?_)
    · simp only [F_X7_scriptFills, hcell, cI_k, if_pos iz0]
      split <;> rw [cI_k, nz0]
    · have mc := mcell s hs
      rw [if_neg q] at mc
      simp only [mc, cI_k, if_pos iz0, f0]
theorem sPin {μ : Mem} {P : Pic} (h : CP μ 3 P) (ok : okP P) {b c e : Nat} (hb : b < 10) (hc : c < 10) (he : e < 10) : stepR μ P (cI (F_X7_scriptPins (i3 b) (i3 c) (i3 e) μ) (fun v μ => ck (nz v) (rI v μ)))
    (fun s => cI (F_X8_isCell (i3 b) (i3 c) s) (fun v9 μ6 => if v9 = 0 then (f_X8_does_128 (i3 b) (i3 c) (i3 e) (0 : Int32) μ6) else (if (2 : Int32) ≤ i3 e then (f_X8_does_128 (i3 b) (i3 c) (i3 e) (0 : Int32) μ6) else (f_X8_does_128 (i3 b) (i3 c) (i3 e) (1 : Int32) μ6)))) := by
  have o1 := ok.2.1
  have o2 := ok.2.2.2.1
  have f0 : ∀ s, f_X8_does_128 (i3 b) (i3 c) (i3 e) (0 : Int32) s = rI (0 : Int32) s := fun s => by simp only [f_X8_does_128, if_true, nz0]
  have hcell := hasCell_code h ok (r := b) (c := c) (by omega) (by omega)
  have mcell : ∀ s, MN s P → _ := fun s hs => mCell (μ := s) hs ok (r := b) (c := c) (by omega) (by omega)
  by_cases q : (0 ≤ (b : Int) ∧ (b : Int) < nR P) ∧ 0 ≤ (c : Int) ∧ (c : Int) < nC P
  · rw [if_pos q] at hcell
    by_cases e2 : e < 2
    · have n1 : ¬ (1 : Int32) < i3 (e : Int) := by rw [l3_1]; exact nlt3 (by omega)
      have n2 : ¬ (2 : Int32) ≤ i3 (e : Int) := by rw [l3_2]; exact nle3 (by omega)
      have key : ∀ v : Bool, i3 (e : Int) = i3 (b2 v) → stepR μ P (cI (F_X7_scriptPins (i3 b) (i3 c) (i3 e) μ) (fun v μ => ck (nz v) (rI v μ)))
          (fun s => cI (F_X8_isCell (i3 b) (i3 c) s) (fun v9 μ6 => if v9 = 0 then (f_X8_does_128 (i3 b) (i3 c) (i3 e) (0 : Int32) μ6) else (if (2 : Int32) ≤ i3 e then (f_X8_does_128 (i3 b) (i3 c) (i3 e) (0 : Int32) μ6) else (f_X8_does_128 (i3 b) (i3 c) (i3 e) (1 : Int32) μ6)))) := by
        intro v hv
        refine ⟨true, mkPn P (setB (fP P) b c v), sJ μ 3 3 (setB (fP P) b c v), ?_, fr_sJ (by simp), CP_Pn h _, okPn ok (setB_in (by omega) (by omega) o1 o2 ok.2.2.2.2.2.1 v), fun s hs => ?_⟩
        · have sf := setPinned_code h (r := b) (c := c) (by omega) (by omega) v
          simp only [F_X7_scriptPins, if_neg n1, hcell, cI_k, if_neg iz1]
          rw [hv]
          cases v
          · rw [ib0] at sf ⊢
            rw [if_neg j01, sf, cI_k, cI_k, nz1, ib1]
          · rw [ib1] at sf ⊢
            rw [if_pos rfl, sf, cI_k, cI_k, nz1]
        · obtain ⟨z, w1, w2, w3⟩ := mPinsC hs (r := b) (c := c) (by omega) (by omega) v
          refine ⟨z, ?_, fr_w w2 (by simp), w3⟩
          have mc := mcell s hs
          rw [if_pos q] at mc
          simp only [mc, cI_k, if_neg iz1, if_neg n2, f_X8_does_128, if_neg j10]
          rw [hv]
          cases v
          · rw [ib0] at w1 ⊢
            rw [if_neg j01, w1, cV_k, nz1, ib1]
          · rw [ib1] at w1 ⊢
            rw [if_pos rfl, w1, cV_k, nz1]
      rcases two01 e2 with ⟨-, e3⟩ | ⟨-, e3⟩
      · exact key false (by rw [e3, ib0])
      · exact key true (by rw [e3, ib1])
    · refine step00 h ok ?_ (fun s hs => ?_)
      · simp only [F_X7_scriptPins, if_pos (show (1 : Int32) < i3 (e : Int) from by rw [l3_1]; exact lt3 (by omega)), cI_k, nz0]
      · have mc := mcell s hs
        rw [if_pos q] at mc
        simp only [mc, cI_k, if_neg iz1, if_pos (show (2 : Int32) ≤ i3 (e : Int) from by rw [l3_2]; exact le3 (by omega)), f0]
  · rw [if_neg q] at hcell
    refine step00 h ok ?_ (fun s hs => ?_)
    · simp only [F_X7_scriptPins, hcell, cI_k, if_pos iz0]
      split <;> rw [cI_k, nz0]
    · have mc := mcell s hs
      rw [if_neg q] at mc
      simp only [mc, cI_k, if_pos iz0, f0]
theorem sWant {μ : Mem} {P : Pic} (h : CP μ 3 P) (ok : okP P) {l e : Nat} (hl : l < 100) (he : e < 10) : stepR μ P (cI (F_X7_scriptWants (i3 l) (i3 e) μ) (fun v μ => ck (nz v) (rI v μ)))
    (fun s => cI (F_X8_isLine (i3 l) s) (fun v32 μ29 => if v32 = 0 then (f_X8_does_184 (i3 e) (i3 l) (0 : Int32) μ29) else (if (7 : Int32) ≤ i3 e then (f_X8_does_184 (i3 e) (i3 l) (0 : Int32) μ29) else (f_X8_does_184 (i3 e) (i3 l) (1 : Int32) μ29)))) := by
  have o1 := ok.2.1
  have o2 := ok.2.2.2.1
  have f0 : ∀ s, f_X8_does_184 (i3 e) (i3 l) (0 : Int32) s = rI (0 : Int32) s := fun s => by simp only [f_X8_does_184, if_true, nz0]
  have hline := hasLine_code h ok (l := l) (by omega)
  have mline : ∀ s, MN s P → _ := fun s hs => mLine (μ := s) hs ok (l := l) (by omega)
  by_cases q : 0 ≤ (l : Int) ∧ (l : Int) < nR P + nC P
  · rw [if_pos q] at hline
    have hl' : l < nR P + nC P := by omega
    by_cases e2 : e < 7
    · have n1 : ¬ (6 : Int32) < i3 (e : Int) := by rw [l3_6]; exact nlt3 (by omega)
      have n2 : ¬ (7 : Int32) ≤ i3 (e : Int) := by rw [l3_7]; exact nle3 (by omega)
      obtain ⟨m, w1, w2, w3⟩ := setWanted_code (n := e) h ok hl'
      refine ⟨true, setW P l e, m, ?_, fr_w w3 (by simp), w2, setW_ok ok (by omega) hl', fun s hs => ?_⟩
      · simp only [F_X7_scriptWants, if_neg n1, hline, cI_k, if_neg iz1, w1, nz1]
        rw [ib1]
      · obtain ⟨a, a1, a2, a3, a4⟩ := mWantAt hs ok hl'
        have hck : ∀ K : Out, ck (inb (i3 (a : Int)) 50) K = K := fun K => ck_k (i3_in (by omega) (by decide)) K
        refine ⟨sI s 30 a (i3 e), ?_, fr_sI (by simp), MN_W hs ok (by omega) hl' a3⟩
        have mc := mline s hs
        rw [if_pos q] at mc
        simp only [mc, cI_k, if_neg iz1, if_neg n2, f_X8_does_184, if_neg j10, a1, hck, lt_k, clampN (show a < 2147483648 by omega), nz1]
        rw [ib1]
    · refine step00 h ok ?_ (fun s hs => ?_)
      · simp only [F_X7_scriptWants, if_pos (show (6 : Int32) < i3 (e : Int) from by rw [l3_6]; exact lt3 (by omega)), cI_k, nz0]
      · have mc := mline s hs
        rw [if_pos q] at mc
        simp only [mc, cI_k, if_neg iz1, if_pos (show (7 : Int32) ≤ i3 (e : Int) from by rw [l3_7]; exact le3 (by omega)), f0]
  · rw [if_neg q] at hline
    refine step00 h ok ?_ (fun s hs => ?_)
    · simp only [F_X7_scriptWants, hline, cI_k, if_pos iz0]
      split <;> rw [cI_k, nz0]
    · have mc := mline s hs
      rw [if_neg q] at mc
      simp only [mc, cI_k, if_pos iz0, f0]
