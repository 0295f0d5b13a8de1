/-! piece on both sides -/
theorem or64 : ∀ n : Fin 64, ∀ k : Fin 6, i3 n.val ||| shlI (1 : Int32) (i3 k.val) = i3 ((n.val ||| 2 ^ k.val : Nat) : Int) := by decide +kernel
theorem or64l : ∀ n : Fin 64, ∀ k : Fin 6, n.val ||| 2 ^ k.val < 64 := by decide +kernel
theorem or64t : ∀ n : Fin 64, ∀ k j : Fin 6, (n.val ||| 2 ^ k.val).testBit j.val = (n.val.testBit j.val || decide (j.val = k.val)) := by decide +kernel
theorem bit64 : ∀ n : Fin 64, ∀ k : Fin 6, shrI (i3 n.val) (i3 k.val) &&& (1 : Int32) = i3 (b2 (n.val.testBit k.val)) := by decide +kernel
theorem mOnes {n : Nat} (hn : n < 64) (μ : Mem) : F_X8_ones (i3 n) μ = rI (i3 (zs 6 (fun k => b2 (n.testBit k)))) μ := by
  simp only [F_X8_ones]
  refine loop_up (fun m i => f_X8_ones_4 m (i3 n) (i3 (zs i (fun k => b2 (n.testBit k)))) (i3 i) μ) 6 _ (fun m => ?_) (fun m i hi => ?_) BIG 0 (by decide) (BIG_lt (by decide))
  · simp only [f_X8_ones_4, l3_6]
    rw [if_pos (le3 (by omega))]
  · have e := bit64 ⟨n, hn⟩ ⟨i, hi⟩
    simp only at e
    simp only [f_X8_ones_4, l3_6, lt_k, inc3, e, i3_add]
    rw [if_neg (nle3 (by omega)), zs_s]
/-- is the i-th place filled in y -/
abbrev tj (y : Int64) (j : Nat) : Bool := tb y (8 * (j / 6) + j % 6)
theorem mPieceLoop {s : Mem} {P : Pic} (h : MN s P) (ok : okP P) {y : Int64} {p : Nat} (hp : p < 36) (hy : ∀ j, j < 36 → (lab s j = p ↔ tj y j = true)) (hb : ∀ r c, zc y r c → zc (fX P) r c) (x2 : Int32) :
    ∃ (n5 n6 : Nat) (x7 : Int), n5 < 64 ∧ n6 < 64 ∧ (∀ k, k < 6 → (n5.testBit k = true ↔ ∃ j, j < 36 ∧ tj y j = true ∧ j / 6 = k)) ∧ (∀ k, k < 6 → (n6.testBit k = true ↔ ∃ j, j < 36 ∧ tj y j = true ∧ j % 6 = k)) ∧
      ((x7 = -9 ∧ ∀ j, j < 36 → ¬ tj y j = true) ∨ (∃ j, j < 36 ∧ tj y j = true ∧ (∀ i, i < j → ¬ tj y i = true) ∧ x7 = 10 * (j / 6 : Nat) + (j % 6 : Nat))) ∧
      f_X8_piece_63 BIG (i3 p) x2 (0 : Int32) (0 : Int32) (0 : Int32) (0 : Int32) (-9 : Int32) (0 : Int32) s = (if x2 = 0 then (rI (i3 (zs 36 (fun j => b2 (tj y j)))) s) else (if x2 = (1 : Int32) then (rI (i3 (zs 36 (fun j => b2 (tj y j) * osd (fX P) (j / 6) (j % 6)))) s) else (if x2 = (2 : Int32) then (cI (F_X8_ones (i3 n5) s) (fun v34 μ31 => rI v34 μ31)) else (if x2 = (3 : Int32) then (cI (F_X8_ones (i3 n6) s) (fun v29 μ26 => rI v29 μ26)) else (rI (i3 x7) s))))) := by
  rw [show f_X8_piece_63 BIG (i3 p) x2 (0 : Int32) (0 : Int32) (0 : Int32) (0 : Int32) (-9 : Int32) (0 : Int32) s = f_X8_piece_63 BIG (i3 p) x2 (i3 (zs 0 (fun j => b2 (tj y j)))) (i3 (zs 0 (fun j => b2 (tj y j) * osd (fX P) (j / 6) (j % 6)))) (i3 ((0 : Nat) : Int)) (i3 ((0 : Nat) : Int)) (i3 (-9)) (i3 ((0 : Nat) : Int)) s from by rw [zs_0, zs_0, ← l3_m9]; rfl]
  refine loop_st (σ := Nat × Nat × Int) (fun n i z => f_X8_piece_63 n (i3 p) x2 (i3 (zs i (fun j => b2 (tj y j)))) (i3 (zs i (fun j => b2 (tj y j) * osd (fX P) (j / 6) (j % 6)))) (i3 z.1) (i3 z.2.1) (i3 z.2.2) (i3 i) s)
    (fun i z => z.1 < 64 ∧ z.2.1 < 64 ∧ (∀ k, k < 6 → (z.1.testBit k = true ↔ ∃ j, j < i ∧ tj y j = true ∧ j / 6 = k)) ∧ (∀ k, k < 6 → (z.2.1.testBit k = true ↔ ∃ j, j < i ∧ tj y j = true ∧ j % 6 = k)) ∧
      ((z.2.2 = -9 ∧ ∀ j, j < i → ¬ tj y j = true) ∨ (∃ j, j < i ∧ tj y j = true ∧ (∀ i, i < j → ¬ tj y i = true) ∧ z.2.2 = 10 * (j / 6 : Nat) + (j % 6 : Nat))))
    (fun o => ∃ (n5 n6 : Nat) (x7 : Int), n5 < 64 ∧ n6 < 64 ∧ (∀ k, k < 6 → (n5.testBit k = true ↔ ∃ j, j < 36 ∧ tj y j = true ∧ j / 6 = k)) ∧ (∀ k, k < 6 → (n6.testBit k = true ↔ ∃ j, j < 36 ∧ tj y j = true ∧ j % 6 = k)) ∧
      ((x7 = -9 ∧ ∀ j, j < 36 → ¬ tj y j = true) ∨ (∃ j, j < 36 ∧ tj y j = true ∧ (∀ i, i < j → ¬ tj y i = true) ∧ x7 = 10 * (j / 6 : Nat) + (j % 6 : Nat))) ∧
      o = (if x2 = 0 then (rI (i3 (zs 36 (fun j => b2 (tj y j)))) s) else (if x2 = (1 : Int32) then (rI (i3 (zs 36 (fun j => b2 (tj y j) * osd (fX P) (j / 6) (j % 6)))) s) else (if x2 = (2 : Int32) then (cI (F_X8_ones (i3 n5) s) (fun v34 μ31 => rI v34 μ31)) else (if x2 = (3 : Int32) then (cI (F_X8_ones (i3 n6) s) (fun v29 μ26 => rI v29 μ26)) else (rI (i3 x7) s)))))) 36 ?_ ?_ BIG 0 (0, 0, -9) (by decide) (BIG_lt (by decide)) ?_
  · rintro n ⟨n5, n6, x7⟩ ⟨h1, h2, h3, h4, h5⟩
    refine ⟨n5, n6, x7, h1, h2, h3, h4, h5, ?_⟩
    simp only [f_X8_piece_63, l3_36]
    rw [if_pos (le3 (by omega))]
  · rintro n i ⟨n5, n6, x7⟩ hi ⟨h1, h2, h3, h4, h5⟩
    simp only at h1 h2 h3 h4 h5
    left
    have hck : ∀ K : Out, ck (inb (i3 (i : Int)) 36) K = K := fun K => ck_k (i3_in (by omega) (by decide)) K
    have dv : i3 (i : Int) / (6 : Int32) = i3 ((i / 6 : Nat) : Int) := by rw [l3_6, i3_div (by omega) (by decide)]; congr 1
    have rm : remI (i3 (i : Int)) (6 : Int32) = i3 ((i % 6 : Nat) : Int) := by rw [l3_6, i3_rem (by omega) (by decide)]; congr 1
    have hl : (s.1 35 i = i3 (p : Int)) = (tj y i = true) := by
      rw [lab_eq, i3_eq (lab_bd s i) (by omega)]; exact propext (hy i hi)
    have d6 : i / 6 < 6 := by omega
    have m6 : i % 6 < 6 := by omega
    have ex1 : ∀ (g : Nat → Nat) (k : Nat), (∃ j, j < i + 1 ∧ tj y j = true ∧ g j = k) ↔ ((∃ j, j < i ∧ tj y j = true ∧ g j = k) ∨ (tj y i = true ∧ g i = k)) := by
      intro g k
      constructor
      · rintro ⟨j, a, b, c⟩
        by_cases e : j = i
        · subst e; exact Or.inr ⟨b, c⟩
        · exact Or.inl ⟨j, by omega, b, c⟩
      · rintro (⟨j, a, b, c⟩ | ⟨b, c⟩)
        · exact ⟨j, by omega, b, c⟩
        · exact ⟨i, by omega, b, c⟩
    simp only [f_X8_piece_63, l3_36]
    rw [if_neg (nle3 (by omega)), hck, clampN (show i < 2147483648 by omega)]
    simp only [hl]
    by_cases t : tj y i = true
    · have cz : zc y (i / 6) (i % 6) := ⟨by omega, by omega, t⟩
      have cb := ok.2.2.2.2.1 _ _ (hb _ _ cz)
      have e1 := or64 ⟨n5, h1⟩ ⟨i / 6, d6⟩
      have e2 := or64 ⟨n6, h2⟩ ⟨i % 6, m6⟩
      have l1 := or64l ⟨n5, h1⟩ ⟨i / 6, d6⟩
      have l2 := or64l ⟨n6, h2⟩ ⟨i % 6, m6⟩
      simp only at e1 e2 l1 l2
      have S1 : i3 (zs i (fun j => b2 (tj y j))) + (1 : Int32) = i3 (zs (i + 1) (fun j => b2 (tj y j))) := by rw [l3_1, i3_add, zs_s, t, b2_t]
      have S2 : i3 (zs i (fun j => b2 (tj y j) * osd (fX P) (j / 6) (j % 6))) + i3 (osd (fX P) (i / 6) (i % 6)) = i3 (zs (i + 1) (fun j => b2 (tj y j) * osd (fX P) (j / 6) (j % 6))) := by rw [i3_add, zs_s, t, b2_t, Int.one_mul]
      have b1 : ∀ k, k < 6 → ((n5 ||| 2 ^ (i / 6)).testBit k = true ↔ ∃ j, j < i + 1 ∧ tj y j = true ∧ j / 6 = k) := by
        intro k hk
        have e := or64t ⟨n5, h1⟩ ⟨i / 6, d6⟩ ⟨k, hk⟩
        simp only at e
        rw [e, Bool.or_eq_true, h3 k hk, decide_eq_true_eq, ex1 (fun j => j / 6) k]
        exact ⟨fun q => q.elim Or.inl (fun q => Or.inr ⟨t, q.symm⟩), fun q => q.elim Or.inl (fun q => Or.inr q.2.symm)⟩
      have b2' : ∀ k, k < 6 → ((n6 ||| 2 ^ (i % 6)).testBit k = true ↔ ∃ j, j < i + 1 ∧ tj y j = true ∧ j % 6 = k) := by
        intro k hk
        have e := or64t ⟨n6, h2⟩ ⟨i % 6, m6⟩ ⟨k, hk⟩
        simp only at e
        rw [e, Bool.or_eq_true, h4 k hk, decide_eq_true_eq, ex1 (fun j => j % 6) k]
        exact ⟨fun q => q.elim Or.inl (fun q => Or.inr ⟨t, q.symm⟩), fun q => q.elim Or.inl (fun q => Or.inr q.2.symm)⟩
      rw [if_pos t]
      simp only [lt_k, dv, rm, mOpenSides h ok cb.1 cb.2, cI_k, S1, S2, e1, e2, inc3]
      rcases h5 with ⟨q1, q2⟩ | ⟨j, q1, q2, q3, q4⟩
      · subst q1
        refine ⟨(n5 ||| 2 ^ (i / 6), n6 ||| 2 ^ (i % 6), 10 * (i / 6 : Nat) + (i % 6 : Nat)), ⟨l1, l2, b1, b2', Or.inr ⟨i, by omega, t, q2, rfl⟩⟩, ?_⟩
        rw [if_pos l3_m9.symm, l3_10, i3_mul, i3_add]
      · refine ⟨(n5 ||| 2 ^ (i / 6), n6 ||| 2 ^ (i % 6), x7), ⟨l1, l2, b1, b2', Or.inr ⟨j, by omega, q2, q3, q4⟩⟩, ?_⟩
        have : ¬ i3 x7 = (-9 : Int32) := by
          have v1 : j / 6 < 6 := by omega
          have v2 : j % 6 < 6 := by omega
          rw [l3_m9, q4]
          exact ne3 (by omega)
        rw [if_neg this]
    · have t' : tj y i = false := by cases w : tj y i; rfl; exact absurd w t
      have ex0 : ∀ (g : Nat → Nat) (k : Nat), (∃ j, j < i + 1 ∧ tj y j = true ∧ g j = k) ↔ (∃ j, j < i ∧ tj y j = true ∧ g j = k) := fun g k => by
        rw [ex1]; exact ⟨fun q => q.elim id (fun q => absurd q.1 t), Or.inl⟩
      rw [if_neg t]
      simp only [lt_k, inc3]
      refine ⟨(n5, n6, x7), ⟨h1, h2, fun k hk => by rw [h3 k hk, ex0 (fun j => j / 6) k], fun k hk => by rw [h4 k hk, ex0 (fun j => j % 6) k], ?_⟩, ?_⟩
      · rcases h5 with ⟨q1, q2⟩ | ⟨j, q1, q2, q3, q4⟩
        · refine Or.inl ⟨q1, fun j hj => ?_⟩
          by_cases e : j = i
          · subst e; exact t
          · exact q2 j (by omega)
        · exact Or.inr ⟨j, by omega, q2, q3, q4⟩
      · rw [zs_s, zs_s, t', b2_f, Int.zero_mul, Int.add_zero, Int.add_zero]
  · refine ⟨by decide, by decide, fun k _ => ⟨fun q => ?_, fun ⟨j, q, _⟩ => absurd q (by omega)⟩, fun k _ => ⟨fun q => ?_, fun ⟨j, q, _⟩ => absurd q (by omega)⟩, Or.inl ⟨rfl, fun j hj => absurd hj (by omega)⟩⟩
    · rw [Nat.zero_testBit] at q; exact absurd q (by decide)
    · rw [Nat.zero_testBit] at q; exact absurd q (by decide)
theorem pcs_x {P : Pic} {y : Int64} {p : Nat} (y2 : ∀ r c, zc y r c ↔ cmp (rs (zc (fX P)) p) r c) (r c : Nat) (q : zc y r c) : zc (fX P) r c := rs_in (cmp_in ((y2 r c).mp q))
theorem outl36 (a b : Int64) : outl a b = zs 36 (fun j => b2 (tj a j) * osd b (j / 6) (j % 6)) := by
  rw [show (36 : Nat) = 6 * 6 from rfl, zs_mul6]
  unfold outl z2
  apply zs_congr; intro r hr
  apply zs_congr; intro c hc
  have e1 : (6 * r + c) / 6 = r := by omega
  have e2 : (6 * r + c) % 6 = c := by omega
  simp only [tj, e1, e2]
/-- the model's piece, once the number and the kind are good -/
theorem piece_m {z : Mem} {A : Ab} (hz : mInv z A) (ok : okP (aP A)) {y : Int64} {p : Nat} (hp : p < 36) (y2 : ∀ r c, zc y r c ↔ cmp (rs (zc (fX (aP A))) p) r c) {m : Nat} (hpm : p < m)
    (hl : ∀ j, j < 36 → (∃ m' : Nat, m' < m ∧ lab z j = m' ∧ cmp (rs (zc (fX (aP A))) m') (j / 6) (j % 6)) ∨ (lab z j = -9 ∧ ¬ zc (fX (aP A)) (j / 6) (j % 6))) (x2 : Int32) :
    ∃ (n5 n6 : Nat) (x7 : Int), n5 < 64 ∧ n6 < 64 ∧ (∀ k, k < 6 → (n5.testBit k = true ↔ ∃ j, j < 36 ∧ tj y j = true ∧ j / 6 = k)) ∧ (∀ k, k < 6 → (n6.testBit k = true ↔ ∃ j, j < 36 ∧ tj y j = true ∧ j % 6 = k)) ∧
      ((x7 = -9 ∧ ∀ j, j < 36 → ¬ tj y j = true) ∨ (∃ j, j < 36 ∧ tj y j = true ∧ (∀ i, i < j → ¬ tj y i = true) ∧ x7 = 10 * (j / 6 : Nat) + (j % 6 : Nat))) ∧
      f_X8_piece_33 (i3 p) x2 (0 : Int32) z = (if x2 = 0 then (rI (i3 (zs 36 (fun j => b2 (tj y j)))) (sI z 29 8 (0 : Int32))) else (if x2 = (1 : Int32) then (rI (i3 (outl y (fX (aP A)))) (sI z 29 8 (0 : Int32))) else (if x2 = (2 : Int32) then (rI (i3 (zs 6 (fun k => b2 (n5.testBit k)))) (sI z 29 8 (0 : Int32))) else (if x2 = (3 : Int32) then (rI (i3 (zs 6 (fun k => b2 (n6.testBit k)))) (sI z 29 8 (0 : Int32))) else (rI (i3 x7) (sI z 29 8 (0 : Int32))))))) := by
  obtain ⟨t1, t2, t3⟩ := thr hz (0 : Int32)
  have hlab : ∀ j, lab (sI z 29 8 (0 : Int32)) j = lab z j := fun j => by unfold lab; rw [sI_1, up2_k _ _ _ _ _ (by decide)]
  have hy : ∀ j, j < 36 → (lab (sI z 29 8 (0 : Int32)) j = p ↔ tj y j = true) := by
    intro j hj
    rw [hlab]
    have tY := tb_iff (x := y) (r := j / 6) (c := j % 6) (by omega) (by omega)
    rw [tY, y2]
    rcases hl j hj with ⟨m', w1, w2, w3⟩ | ⟨w1, w2⟩
    · constructor
      · intro e
        have : m' = p := by omega
        rw [← this]; exact w3
      · intro q
        rw [w2, cmp_uni w3 q]
    · constructor
      · intro e; omega
      · intro q; exact absurd (rs_in (cmp_in q)) w2
  obtain ⟨n5, n6, x7, a1, a2, a3, a4, a5, a6⟩ := mPieceLoop t2.1 ok hp hy (pcs_x y2) x2
  refine ⟨n5, n6, x7, a1, a2, a3, a4, a5, ?_⟩
  simp only [f_X8_piece_33, lt_k, t3, if_true]
  rw [a6]
  simp only [mOnes a1, mOnes a2, cI_k, outl36]
theorem op_piece {μ : Mem} {A : Ab} (h : cInv μ A) {n v : Int} (hn : inZ n) (hv : inZ v) : opOK A [eIdx, eArg] μ (F_X7_piece (i3 n) (i3 v) μ) (F_X8_piece (i3 n) (i3 v)) := by
  have ok := h.2.1
  have bX := brdX ok ok.2.2.2.2.1
  have hX := h.1.2.2.1
  obtain ⟨m, x1, x2, x3⟩ := countPieces_code bX μ
  have lays : ∀ s, mInv s A → ∃ z, F_X8_laysPieces s = rI (i3 (m : Int)) z ∧ frm s z ∧ mInv z A ∧ ∀ j, j < 36 → (∃ m' : Nat, m' < m ∧ lab z j = m' ∧ cmp (rs (zc (fX (aP A))) m') (j / 6) (j % 6)) ∨ (lab z j = -9 ∧ ¬ zc (fX (aP A)) (j / 6) (j % 6)) := by
    intro s hs
    obtain ⟨m', z, w1, w2, w3, w4, w5⟩ := mLaysPieces hs.1 ok
    have e := npc_inj w3 x2
    subst e
    obtain ⟨a, b, c⟩ := m_scr hs w2 (by simp)
    exact ⟨z, w1, a, b, w5⟩
  have inp : ∀ s, F_X8_in (i3 n) (0 : Int32) (i3 (m : Int) - (1 : Int32)) s = rI (i3 (if 0 ≤ n ∧ n ≤ (m : Int) - 1 then 1 else 0)) s := fun s => by rw [l3_0, l3_1, i3_sub]; exact in_code hn (by decide) (by omega) s
  have inv : ∀ s, F_X8_in (i3 v) (0 : Int32) (4 : Int32) s = rI (i3 (if 0 ≤ v ∧ v ≤ 4 then 1 else 0)) s := fun s => by rw [l3_0, l3_4]; exact in_code hv (by decide) (by decide) s
  have err : ∀ s, mInv s A → ¬ (0 ≤ n ∧ n ≤ (m : Int) - 1) → ∃ w z, F_X8_piece (i3 n) (i3 v) s = rI w z ∧ frm s z ∧ z.1 29 8 = i3 ((0 + 1 : Nat) : Int) ∧ mInv z A := by
    intro s hs q
    obtain ⟨z, w1, w2, w3, w4⟩ := lays s hs
    obtain ⟨t1, t2, t3⟩ := thr w3 (1 : Int32)
    refine ⟨0, sI z 29 8 (1 : Int32), ?_, frm_tr w2 t1, by rw [t3]; decide, t2⟩
    simp only [F_X8_piece, w1, cI_k, inp, if_neg q, if_pos iz0, f_X8_piece_33, lt_k, t3, if_neg jz1]
  by_cases q0 : 0 ≤ n
  · have nl : ¬ i3 n < 0 := by rw [l3_0]; exact nlt3 (by omega)
    by_cases q1 : n < m
    · obtain ⟨p, rfl, hp⟩ := natZ (v := n) (n := m) ⟨q0, q1⟩
      obtain ⟨y, y1, y2⟩ := pieceNumbered_code bX μ (p := p) (by omega)
      have bY : brd y := brd_sub bX (pcs_x y2)
      have base : F_X7_piece (i3 (p : Int)) (i3 v) μ = (if i3 v = (0 : Int32) then (rI (i3 (zs 36 (fun j => b2 (tj y j)))) μ) else if i3 v = (1 : Int32) then (rI (i3 (outl y (fX (aP A)))) μ) else if i3 v = (2 : Int32) then (rI (i3 (zs 6 (fun r => ib (∃ c, zc y r c)))) μ) else if i3 v = (3 : Int32) then (rI (i3 (zs 6 (fun c => ib (∃ r, zc y r c)))) μ) else if i3 v = (4 : Int32) then (cI (F_X0_firstPosition y μ) (fun v42 μ39 => cI (F_X0_code v42 μ39) (fun v47 μ44 => rI v47 μ44))) else (rX "java/lang/IllegalArgumentException" μ)) := by
        have e : pc y = zs 36 (fun j => b2 (tj y j)) := by
          exact pc36 bY
        simp only [F_X7_piece, if_neg nl, hX, x1, cI_k, if_pos (lt3 (a := p) (b := m) (by omega)), y1, cJ_k, pc_code, outline_code bY bX, countRowsOf_code bY, countColumnsOf_code bY, e]
      have q2 : 0 ≤ (p : Int) ∧ (p : Int) ≤ (m : Int) - 1 := by omega
      by_cases q3 : 0 ≤ v ∧ v ≤ 4
      · have mod : ∀ s, mInv s A → ∃ z, (∃ (n5 n6 : Nat) (x7 : Int), n5 < 64 ∧ n6 < 64 ∧ (∀ k, k < 6 → (n5.testBit k = true ↔ ∃ j, j < 36 ∧ tj y j = true ∧ j / 6 = k)) ∧ (∀ k, k < 6 → (n6.testBit k = true ↔ ∃ j, j < 36 ∧ tj y j = true ∧ j % 6 = k)) ∧
              ((x7 = -9 ∧ ∀ j, j < 36 → ¬ tj y j = true) ∨ (∃ j, j < 36 ∧ tj y j = true ∧ (∀ i, i < j → ¬ tj y i = true) ∧ x7 = 10 * (j / 6 : Nat) + (j % 6 : Nat))) ∧
              F_X8_piece (i3 (p : Int)) (i3 v) s = (if i3 v = 0 then (rI (i3 (zs 36 (fun j => b2 (tj y j)))) z) else (if i3 v = (1 : Int32) then (rI (i3 (outl y (fX (aP A)))) z) else (if i3 v = (2 : Int32) then (rI (i3 (zs 6 (fun k => b2 (n5.testBit k)))) z) else (if i3 v = (3 : Int32) then (rI (i3 (zs 6 (fun k => b2 (n6.testBit k)))) z) else (rI (i3 x7) z)))))) ∧ frm s z ∧ z.1 29 8 = i3 0 ∧ mInv z A := by
          intro s hs
          obtain ⟨z, w1, w2, w3, w4⟩ := lays s hs
          obtain ⟨t1, t2, t3⟩ := thr w3 (0 : Int32)
          obtain ⟨n5, n6, x7, a1, a2, a3, a4, a5, a6⟩ := piece_m w3 ok (show p < 36 by omega) y2 hp w4 (i3 v)
          refine ⟨sI z 29 8 (0 : Int32), ⟨n5, n6, x7, a1, a2, a3, a4, a5, ?_⟩, frm_tr w2 t1, by rw [t3]; rfl, t2⟩
          simp only [F_X8_piece, w1, cI_k, inp, if_pos q2, if_neg iz1, inv, if_pos q3]
          exact a6
        have v04 : v = 0 ∨ v = 1 ∨ v = 2 ∨ v = 3 ∨ v = 4 := by omega
        rcases v04 with rfl | rfl | rfl | rfl | rfl
        · refine op_val (frc_rf μ) h (v := i3 (zs 36 (fun j => b2 (tj y j)))) (by rw [base, if_pos (by decide)]) (fun s hs => ?_)
          obtain ⟨z, ⟨n5, n6, x7, a1, a2, a3, a4, a5, a6⟩, a7⟩ := mod s hs
          exact ⟨z, by rw [a6, if_pos (by decide)], a7⟩
        · refine op_val (frc_rf μ) h (v := i3 (outl y (fX (aP A)))) (by rw [base, if_neg (by decide), if_pos (by decide)]) (fun s hs => ?_)
          obtain ⟨z, ⟨n5, n6, x7, a1, a2, a3, a4, a5, a6⟩, a7⟩ := mod s hs
          exact ⟨z, by rw [a6, if_neg (by decide), if_pos (by decide)], a7⟩
        · refine op_val (frc_rf μ) h (v := i3 (zs 6 (fun r => ib (∃ c, zc y r c)))) (by rw [base, if_neg (by decide), if_neg (by decide), if_pos (by decide)]) (fun s hs => ?_)
          obtain ⟨z, ⟨n5, n6, x7, a1, a2, a3, a4, a5, a6⟩, a7⟩ := mod s hs
          refine ⟨z, ?_, a7⟩
          rw [a6, if_neg (by decide), if_neg (by decide), if_pos (by decide)]
          congr 2
          apply zs_congr
          intro r hr
          by_cases w : ∃ c, zc y r c
          · rw [ib_t w]
            obtain ⟨c, w⟩ := w
            have := zc_brd bY w
            have e1 : (6 * r + c) / 6 = r := by omega
            have e2 : (6 * r + c) % 6 = c := by omega
            rw [(a3 r hr).mpr ⟨6 * r + c, by omega, by unfold tj; rw [e1, e2]; exact w.2.2, e1⟩, b2_t]
          · rw [ib_f w]
            cases e : n5.testBit r
            · rfl
            · obtain ⟨j, j1, j2, j3⟩ := (a3 r hr).mp e
              exact absurd ⟨j % 6, by omega, by omega, by rw [← j3]; exact j2⟩ w
        · refine op_val (frc_rf μ) h (v := i3 (zs 6 (fun c => ib (∃ r, zc y r c)))) (by rw [base, if_neg (by decide), if_neg (by decide), if_neg (by decide), if_pos (by decide)]) (fun s hs => ?_)
          obtain ⟨z, ⟨n5, n6, x7, a1, a2, a3, a4, a5, a6⟩, a7⟩ := mod s hs
          refine ⟨z, ?_, a7⟩
          rw [a6, if_neg (by decide), if_neg (by decide), if_neg (by decide), if_pos (by decide)]
          congr 2
          apply zs_congr
          intro c hc
          by_cases w : ∃ r, zc y r c
          · rw [ib_t w]
            obtain ⟨r, w⟩ := w
            have := zc_brd bY w
            have e1 : (6 * r + c) / 6 = r := by omega
            have e2 : (6 * r + c) % 6 = c := by omega
            rw [(a4 c hc).mpr ⟨6 * r + c, by omega, by unfold tj; rw [e1, e2]; exact w.2.2, e2⟩, b2_t]
          · rw [ib_f w]
            cases e : n6.testBit c
            · rfl
            · obtain ⟨j, j1, j2, j3⟩ := (a4 c hc).mp e
              exact absurd ⟨j / 6, by omega, by omega, by rw [← j3]; exact j2⟩ w
        · have ne : ¬ y = 0 := by
            intro e
            obtain ⟨r, c, w⟩ := x2.2 p hp
            have h8 := zc_brd bX (rs_in w)
            by_cases w2 : ∃ r c, isF (rs (zc (fX (aP A))) p) r c
            · obtain ⟨r, c, w2⟩ := w2
              have := (y2 r c).mpr (cmp_F w2)
              rw [e] at this
              exact zc_0 r c this
            · obtain ⟨s0, hs0⟩ : ∃ x : Int64, zc x = rs (zc (fX (aP A))) p := by
                clear w w2 y1 y2 base mod
                have : ∀ p : Nat, p < 48 → ∃ x : Int64, zc x = rs (zc (fX (aP A))) p := by
                  intro p
                  induction p with
                  | zero => exact fun _ => ⟨fX (aP A), rfl⟩
                  | succ p ih =>
                    intro hp
                    obtain ⟨x, hx⟩ := ih (by omega)
                    obtain ⟨y, -, hy⟩ := pieceNumbered_code bX μ (p := p) (by omega)
                    exact ⟨_, rs_step hx (fun r c => by rw [hy, hx])⟩
                exact this p (by omega)
              have n0 : ¬ s0 = 0 := fun e0 => by rw [← hs0, e0] at w; exact zc_0 _ _ w
              obtain ⟨r', c', hF⟩ := first_ex n0
              rw [hs0] at hF
              exact w2 ⟨r', c', hF⟩
          obtain ⟨r, c, hF⟩ := first_ex ne
          have rc6 := zc_brd bY hF.1
          refine op_val (frc_rf μ) h (v := i3 (10 * (r : Int) + c)) ?_ (fun s hs => ?_)
          · rw [base, if_neg (by decide), if_neg (by decide), if_neg (by decide), if_neg (by decide), if_pos (by decide), firstPosition_code μ hF, cI_k, code_code (show 8 * r + c < 64 by omega), cI_k]
            have e1 : (8 * r + c) / 8 = r := by omega
            have e2 : (8 * r + c) % 8 = c := by omega
            rw [e1, e2]
          · obtain ⟨z, ⟨n5, n6, x7, a1, a2, a3, a4, a5, a6⟩, a7⟩ := mod s hs
            refine ⟨z, ?_, a7⟩
            rw [a6, if_neg (by decide), if_neg (by decide), if_neg (by decide), if_neg (by decide)]
            have f1 : (6 * r + c) / 6 = r := by omega
            have f2 : (6 * r + c) % 6 = c := by omega
            have tF : tj y (6 * r + c) = true := by unfold tj; rw [f1, f2]; exact hF.1.2.2
            rcases a5 with ⟨g1, g2⟩ | ⟨j, g1, g2, g3, g4⟩
            · exact absurd tF (g2 _ (by omega))
            · have k1 := hF.2 (j / 6) (j % 6) ⟨by omega, by omega, g2⟩
              have k2 : ¬ 6 * r + c < j := fun q => g3 _ q tF
              have ej : j = 6 * r + c := by omega
              rw [g4, ej, f1, f2]
      · refine op_err (frc_rf μ) h eArg 1 ?_ rfl (fun s hs => ?_)
        · rw [base, if_neg (by rw [l3_0]; exact ne3 (by omega)), if_neg (by rw [l3_1]; exact ne3 (by omega)), if_neg (by rw [l3_2]; exact ne3 (by omega)), if_neg (by rw [l3_3]; exact ne3 (by omega)), if_neg (by rw [l3_4]; exact ne3 (by omega))]
        · obtain ⟨z, w1, w2, w3, w4⟩ := lays s hs
          obtain ⟨t1, t2, t3⟩ := thr w3 (2 : Int32)
          refine ⟨0, sI z 29 8 (2 : Int32), ?_, frm_tr w2 t1, by rw [t3]; decide, t2⟩
          simp only [F_X8_piece, w1, cI_k, inp, if_pos q2, if_neg iz1, inv, if_neg q3, if_pos iz0, f_X8_piece_33, lt_k, t3, if_neg jz2]
    · refine op_err (frc_rf μ) h eIdx 0 ?_ rfl (fun s hs => err s hs (by omega))
      simp only [F_X7_piece, if_neg nl, hX, x1, cI_k, if_neg (nlt3 (a := n) (b := m) (by omega))]
  · have nl : i3 n < 0 := by rw [l3_0]; exact lt3 (by omega)
    refine op_err (frc_rf μ) h eIdx 0 ?_ rfl (fun s hs => err s hs (by omega))
    simp only [F_X7_piece, if_pos nl]
