theorem ld_val (n : Nat) (t : Nat → Nat) (i : Nat) (f p : Bool) (hf : f = true ↔ (sg n t i = 35 ∨ sg n t i = 37)) (hp : p = true ↔ (sg n t i = 44 ∨ sg n t i = 37)) {v : Int32} (h1 : sg n t i = 35 → v = 1) (h2 : sg n t i = 44 → v = 2) (h3 : sg n t i = 37 → v = 3) (h4 : ¬ sg n t i = 35 → ¬ sg n t i = 44 → ¬ sg n t i = 37 → v = 0) : v = i3 (b2 f + 2 * b2 p) := by
  by_cases a : sg n t i = 35
  · rw [h1 a, hf.mpr (Or.inl a)]
    have : p = false := by cases hh : p; rfl; exact absurd (hp.mp hh) (by omega)
    rw [this]; decide
  · by_cases b : sg n t i = 44
    · rw [h2 b, hp.mpr (Or.inl b)]
      have : f = false := by cases hh : f; rfl; exact absurd (hf.mp hh) (by omega)
      rw [this]; decide
    · by_cases c : sg n t i = 37
      · rw [h3 c, hf.mpr (Or.inr c), hp.mpr (Or.inr c)]; decide
      · rw [h4 a b c]
        have e1 : p = false := by cases hh : p; rfl; exact absurd (hp.mp hh) (by omega)
        have e2 : f = false := by cases hh : f; rfl; exact absurd (hf.mp hh) (by omega)
        rw [e1, e2]; decide
def ldI (Q : Pic) (R C i : Nat) (w : Nat → Int32) : Prop := w 0 = i3 R ∧ w 1 = i3 C ∧ (∀ r c, r < 6 → c < 6 → w (2 + 6 * r + c) = if (r < R ∧ c < C) ∧ C * r + c < i then i3 (b2 (tb (fX Q) (8 * r + c)) + 2 * b2 (tb (fP Q) (8 * r + c))) else i3 0) ∧ ∀ x, 38 ≤ x → x < 50 → w x = i3 0
theorem ld90 {s z0 : Mem} {Q : Pic} {n : Nat} {t : Nat → Nat} {R C : Nat} (hT : mT s n t) (hg : gud n t R C) (hQ : ldP n t R C Q) (hn : n ≤ 60) (hz0 : fr [30] s z0) (h0 : ldI Q R C 0 (z0.1 30)) :
    ∃ z, f_X8_load_90 BIG (i3 ((R * C : Nat) : Int)) (0 : Int32) z0 = rI (i3 (pc (fX Q))) z ∧ fr [29, 30] s z ∧ (∀ j, ¬ j = 2 → ¬ j = 4 → z.1 29 j = s.1 29 j) ∧ z.1 29 2 = i3 0 ∧ z.1 29 4 = i3 0 ∧ MN z Q := by
  have hg' := hg
  have hQ' := hQ
  obtain ⟨g1, g2, g3, g4, g5, g6, g7, g8, g9⟩ := hg
  obtain ⟨q1, q2, q3, q4, okQ, q6⟩ := hQ
  have hRC : R * C ≤ 36 := Nat.mul_le_mul g4.2 g5.2
  rw [show (0 : Int32) = i3 ((0 : Nat) : Int) from l3_0]
  refine loop_st (σ := Mem) (fun m i z => f_X8_load_90 m (i3 ((R * C : Nat) : Int)) (i3 i) z) (fun i z => fr [30] s z ∧ ldI Q R C i (z.1 30))
    (fun o => ∃ z, o = rI (i3 (pc (fX Q))) z ∧ fr [29, 30] s z ∧ (∀ j, ¬ j = 2 → ¬ j = 4 → z.1 29 j = s.1 29 j) ∧ z.1 29 2 = i3 0 ∧ z.1 29 4 = i3 0 ∧ MN z Q) (R * C) ?_ ?_ BIG 0 z0 (by omega) (BIG_lt (by omega)) ⟨hz0, h0⟩
  · rintro m z ⟨w1, w2, w3, w4, w5⟩
    have el : i3 ((R * C : Nat) : Int) ≤ i3 ((R * C : Nat) : Int) := le3 (by omega)
    have ok0 : okP ((R, C, fX Q, fP Q, 0, 0) : Pic) := ⟨g4.1, g4.2, g5.1, g5.2, fun r c w => ((q3 r c).mp w).1, fun r c w => ((q4 r c).mp w).1, fun i _ => by
      have : dgn 0 i = 0 := by unfold dgn; simp
      show dgn 0 i ≤ 6 ∧ (R ≤ i → dgn 0 i = 0)
      rw [this]; exact ⟨by omega, fun _ => rfl⟩, fun i _ => by
      have : dgn 0 i = 0 := by unfold dgn; simp
      show dgn 0 i ≤ 6 ∧ (C ≤ i → dgn 0 i = 0)
      rw [this]; exact ⟨by omega, fun _ => rfl⟩⟩
    have d0 : ∀ i, dgn 0 i = 0 := fun i => by unfold dgn; simp
    have hm : MN z ((R, C, fX Q, fP Q, 0, 0) : Pic) := by
      refine ⟨w2, w3, fun r c hr hc => ?_, fun i hi => by rw [w5 _ (by omega) (by omega)]; show i3 0 = i3 ((dgn 0 i : Nat) : Int); rw [d0]; rfl, fun i hi => by rw [w5 _ (by omega) (by omega)]; show i3 0 = i3 ((dgn 0 i : Nat) : Int); rw [d0]; rfl⟩
      rw [w4 r c hr hc]
      by_cases q : r < R ∧ c < C
      · rw [if_pos ⟨q, pos_in g5.1 g5.2 q.1 q.2⟩]
      · rw [if_neg (fun w => q w.1)]
        show i3 0 = i3 (b2 (tb (fX Q) (8 * r + c)) + 2 * b2 (tb (fP Q) (8 * r + c)))
        rw [tb_f (fun w => q ((q3 r c).mp ⟨by omega, by omega, w⟩).1), tb_f (fun w => q ((q4 r c).mp ⟨by omega, by omega, w⟩).1)]; rfl
    obtain ⟨z', x1, x2, x3, x4, x5, x6⟩ := ld166 hm ok0 (n := n) (t := t) ⟨by rw [fr_1 w1 (by simp)]; exact hT.1, fun j hj => by rw [fr_1 w1 (by simp)]; exact hT.2 j hj⟩ hg' hQ' q1.symm q2.symm rfl rfl hn
    simp only [f_X8_load_90, if_pos el]
    exact ⟨z', x1, fr_tr (fr_w w1 (by simp)) x2, fun j h2 h4 => by rw [x3 j h2 h4, fr_1 w1 (by simp)], x4, x5, x6⟩
  · rintro m i z hi ⟨w1, w2, w3, w4, w5⟩
    left
    have el : ¬ i3 ((R * C : Nat) : Int) ≤ i3 (i : Int) := nle3 (by omega)
    have i36 : i < 36 := by omega
    obtain ⟨p1, p2, p3⟩ := pos_at g5.1 g5.2 hi
    have hcol : F_X8_columns z = rI (i3 C) z := by simp only [F_X8_columns, w3]
    have nz0 : ¬ i3 (C : Int) = 0 := by rw [l3_0]; exact ne3 (by omega)
    have ckz : ∀ K : Out, ck (¬ i3 (C : Int) = 0) K = K := fun K => ck_k nz0 K
    have ed : i3 (i : Int) / i3 (C : Int) = i3 ((i / C : Nat) : Int) := divN (by omega) (by omega) (by omega)
    have em : remI (i3 (i : Int)) (i3 (C : Int)) = i3 ((i % C : Nat) : Int) := remM (by omega) (by omega) (by omega)
    have e3 : (3 : Int32) + i3 (i : Int) = i3 ((3 + i : Nat) : Int) := by rw [l3_3, i3_add]; rfl
    have c60 : ∀ K : Out, ck (inb (i3 ((3 + i : Nat) : Int)) 60) K = K := fun K => ck_k (i3_in (by omega) (by decide)) K
    have hlt : 3 + i < n := by omega
    have e34 : z.1 34 (3 + i) = i3 (t (3 + i)) := by rw [fr_1 w1 (by simp)]; exact hT.2 _ hlt
    have esg : sg n t (3 + i) = t (3 + i) := by unfold sg; rw [if_pos hlt]
    have t8 := g8 (3 + i) (by omega) (by omega)
    rw [esg] at t8
    have hk : 2 + 6 * (i / C) + i % C < 50 := by
      generalize i / C = a at *
      generalize i % C = b at *
      omega
    have at26' := at26 (i / C) (i % C)
    have c50 : ∀ K : Out, ck (inb (i3 ((2 + 6 * (i / C) + i % C : Nat) : Int)) 50) K = K := fun K => ck_k (i3_in (by omega) (by decide)) K
    have eRC : 3 + i / C * C + i % C = 3 + i := by
      have : i / C * C = C * (i / C) := Nat.mul_comm _ _
      omega
    have step : ∀ v : Int32, (sg n t (3 + i) = 35 → v = 1) → (sg n t (3 + i) = 44 → v = 2) → (sg n t (3 + i) = 37 → v = 3) → (¬ sg n t (3 + i) = 35 → ¬ sg n t (3 + i) = 44 → ¬ sg n t (3 + i) = 37 → v = 0) → fr [30] s (sI z 30 (2 + 6 * (i / C) + i % C) v) ∧ ldI Q R C (i + 1) ((sI z 30 (2 + 6 * (i / C) + i % C) v).1 30) := by
      intro v v1 v2 v3 v4
      have tX := tb_iff (x := fX Q) (r := i / C) (c := i % C) (by omega) (by omega)
      have tP := tb_iff (x := fP Q) (r := i / C) (c := i % C) (by omega) (by omega)
      rw [q3, eRC] at tX
      rw [q4, eRC] at tP
      have hv := ld_val n t (3 + i) (tb (fX Q) (8 * (i / C) + i % C)) (tb (fP Q) (8 * (i / C) + i % C)) (tX.trans ⟨fun w => w.2, fun w => ⟨⟨p1, p2⟩, w⟩⟩) (tP.trans ⟨fun w => w.2, fun w => ⟨⟨p1, p2⟩, w⟩⟩) v1 v2 v3 v4
      have e : ∀ y, (sI z 30 (2 + 6 * (i / C) + i % C) v).1 30 y = if y = 2 + 6 * (i / C) + i % C then v else z.1 30 y := fun y => by
        rw [sI_1, up2_a]
        by_cases q : y = 2 + 6 * (i / C) + i % C
        · rw [if_pos ⟨rfl, q⟩, if_pos q]
        · rw [if_neg (fun w => q w.2), if_neg q]
      refine ⟨fr_tr w1 (fr_sI (by simp)), by rw [e, if_neg (by omega)]; exact w2, by rw [e, if_neg (by omega)]; exact w3, fun r c hr hc => ?_, fun x hx hx2 => ?_⟩
      · rw [e]
        by_cases q : r = i / C ∧ c = i % C
        · rw [if_pos (by rw [q.1, q.2]), q.1, q.2, if_pos ⟨⟨p1, p2⟩, by omega⟩]; exact hv
        · have n1 : ¬ 2 + 6 * r + c = 2 + 6 * (i / C) + i % C := by
            generalize i / C = a at *
            generalize i % C = b at *
            omega
          rw [if_neg n1, w4 r c hr hc]
          by_cases q2 : (r < R ∧ c < C) ∧ C * r + c < i
          · rw [if_pos q2, if_pos ⟨q2.1, by omega⟩]
          · rw [if_neg q2, if_neg (fun w => q2 ⟨w.1, ?_⟩)]
            have ne : ¬ C * r + c = i := fun e => q (by
              have a1 := pos_lt g5.1 g5.2 (a := r) (r := i / C) w.1.2 p2
              have a2 := pos_lt g5.1 g5.2 (a := i / C) (r := r) p2 w.1.2
              rw [p3] at a1 a2
              generalize i / C = a at *
              generalize i % C = b at *
              omega)
            have := w.2
            omega
      · rw [e, if_neg (fun w => ?_)]
        · exact w5 x hx hx2
        · generalize i / C = a at *
          generalize i % C = b at *
          omega
    have ht : t (3 + i) < 1000 := by omega
    simp only [f_X8_load_90, if_neg el, e3, c60, clampN (show 3 + i < 2147483648 by omega), e34, lt_k, hcol, cI_k, ckz, ed, em, at26', c50, clampN (show 2 + 6 * (i / C) + i % C < 2147483648 by omega), inc3]
    by_cases k1 : t (3 + i) = 35
    · rw [if_pos (by rw [k1]; decide)]
      exact ⟨_, step 1 (fun _ => rfl) (fun w => by omega) (fun w => by omega) (fun w => by omega), rfl⟩
    · rw [if_neg (by rw [l3_35]; exact ne3 (by omega))]
      by_cases k2 : t (3 + i) = 44
      · rw [if_pos (by rw [k2]; decide)]
        exact ⟨_, step 2 (fun w => by omega) (fun _ => rfl) (fun w => by omega) (fun _ w => by omega), rfl⟩
      · rw [if_neg (by rw [l3_44]; exact ne3 (by omega))]
        by_cases k3 : t (3 + i) = 37
        · rw [if_pos (by rw [k3]; decide)]
          exact ⟨_, step 3 (fun w => by omega) (fun w => by omega) (fun _ => rfl) (fun _ _ w => by omega), rfl⟩
        · rw [if_neg (by rw [l3_37]; exact ne3 (by omega))]
          exact ⟨_, step 0 (fun w => by omega) (fun w => by omega) (fun w => by omega) (fun _ _ _ => rfl), rfl⟩
