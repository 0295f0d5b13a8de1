/-! the other orders of a script -/
abbrev k01 (v : Int32) (μ : Mem) : Out := if v = 0 then (rI (0 : Int32) μ) else (rI (1 : Int32) μ)
theorem k01_0 (μ : Mem) : k01 (0 : Int32) μ = rI (0 : Int32) μ := if_pos rfl
theorem k01_1 (μ : Mem) : k01 (1 : Int32) μ = rI (1 : Int32) μ := if_neg (by decide)
theorem stepR_c {μ : Mem} {P : Pic} {oc oc' : Out} {om om' : Mem → Out} (h : stepR μ P oc' om') (e1 : oc = oc') (e2 : ∀ s, om s = om' s) : stepR μ P oc om := by
  obtain ⟨b, Q, m, h1, h2, h3, h4, h5⟩ := h
  exact ⟨b, Q, m, e1.trans h1, h2, h3, h4, fun s hs => by rw [e2]; exact h5 s hs⟩
theorem refd1 {μ : Mem} {P : Pic} (h : CP μ 3 P) : F_X7_refilled (i3 1) μ = rI (1 : Int32) (sJ μ 3 2 (μ.2.1 6 1)) := by
  simp only [F_X7_refilled, if_neg iz1, F_X2_found, cJ_k, refill_code h, cI_k, (nz_k _).1]
  rfl
theorem refd0 (μ : Mem) : F_X7_refilled (i3 0) μ = rI (0 : Int32) μ := by
  simp only [F_X7_refilled, if_pos iz0, (nz_k _).2]
  rfl
theorem sFirst {μ : Mem} {P : Pic} (h : CP μ 3 P) (ok : okP P) (v : Bool) : stepR μ P (f_X7_succeeds_139 (i3 (b2 v)) μ)
    (fun s => cI (cI (F_X8_findsFirst (i3 (b2 v)) s) (fun w μ => if w = 0 then f_X8_doesMore_75 (0 : Int32) μ else f_X8_doesMore_75 (1 : Int32) μ)) k01) := by
  rcases findOutermost_code ok h (by simp) v with ⟨m1, w1, w2, w3⟩ | ⟨m1, w1, w2, w3⟩
  · have h1 := CP_fr h w2 (by simp)
    have hG := fit_in (isFst_fit w3)
    refine ⟨true, mkX P (m1.2.1 6 1), sJ m1 3 2 (m1.2.1 6 1), ?_, fr_tr (fr_w w2 (by simp)) (fr_sJ (by simp)), CP_X h1 _, okX ok hG, fun s hs => ?_⟩
    · simp only [f_X7_succeeds_139, w1, cI_k, refd1 h1, if_neg j10]
      rw [ib1]
    · obtain ⟨x, z, u1, u2, u3⟩ := mFindsFirst hs ok v
      rcases u3 with ⟨rfl, G, g1, g2⟩ | ⟨rfl, g1⟩
      · have eG : G = m1.2.1 6 1 := isFst_uni g1 w3
        rw [eG] at g2
        obtain ⟨z2, y1, y2, y3⟩ := mTakes (MN_fr hs u2 (by simp)) ok hG g2
        refine ⟨z2, ?_, fr_tr (fr_w u2 (by simp)) (fr_w y2 (by simp)), y3⟩
        simp only [u1, cI_k, if_neg iz1, f_X8_doesMore_75, if_neg j10, y1, nz1]
        rw [ib1]
      · exact absurd ⟨_, isFst_fit w3⟩ g1
  · refine ⟨false, P, m1, ?_, fr_w w2 (by simp), CP_fr h w2 (by simp), ok, fun s hs => ?_⟩
    · simp only [f_X7_succeeds_139, w1, cI_k, refd0, if_true]
      rw [ib0]
    · obtain ⟨x, z, u1, u2, u3⟩ := mFindsFirst hs ok v
      rcases u3 with ⟨rfl, G, g1, g2⟩ | ⟨rfl, g1⟩
      · exact absurd ⟨G, isFst_fit g1⟩ w3
      · refine ⟨z, ?_, fr_w u2 (by simp), MN_fr hs u2 (by simp)⟩
        simp only [u1, cI_k, if_pos iz0, f_X8_doesMore_75, if_true, nz0]
        rw [ib0, k01_0]
theorem sNext {μ : Mem} {P : Pic} (h : CP μ 3 P) (ok : okP P) : stepR μ P (cI (F_X2_findBehind 3 μ) (fun v43 μ40 => cI (F_X7_refilled v43 μ40) (fun v48 μ45 => if v48 = 0 then (rI (0 : Int32) μ45) else (rI (1 : Int32) μ45))))
    (fun s => cI (cI (F_X8_findsBehind s) (fun w μ => if w = 0 then f_X8_doesMore_142 (0 : Int32) μ else f_X8_doesMore_142 (1 : Int32) μ)) k01) := by
  rcases findBehind_code ok h (by simp) with ⟨m1, w1, w2, w3⟩ | ⟨m1, w1, w2, w3⟩
  · have h1 := CP_fr h w2 (by simp)
    have hG := fit_in (nxt_fit w3 (x0 := fX P) (fun _ _ _ => Iff.rfl))
    refine ⟨true, mkX P (m1.2.1 6 1), sJ m1 3 2 (m1.2.1 6 1), ?_, fr_tr (fr_w w2 (by simp)) (fr_sJ (by simp)), CP_X h1 _, okX ok hG, fun s hs => ?_⟩
    · simp only [w1, cI_k, refd1 h1, if_neg j10]
      rw [ib1]
    · obtain ⟨x, z, u1, u2, u3⟩ := mFindsBehind hs ok
      rcases u3 with ⟨rfl, G, g1, g2⟩ | ⟨rfl, g1⟩
      · have eG : G = m1.2.1 6 1 := nxt_uni ok g1 w3
        rw [eG] at g2
        obtain ⟨z2, y1, y2, y3⟩ := mTakes (MN_fr hs u2 (by simp)) ok hG g2
        refine ⟨z2, ?_, fr_tr (fr_w u2 (by simp)) (fr_w y2 (by simp)), y3⟩
        simp only [u1, cI_k, if_neg iz1, f_X8_doesMore_142, if_neg j10, y1, nz1]
        rw [ib1]
      · exact absurd g1 (nxt_nno w3)
  · refine ⟨false, P, m1, ?_, fr_w w2 (by simp), CP_fr h w2 (by simp), ok, fun s hs => ?_⟩
    · simp only [w1, cI_k, refd0, if_true]
      rw [ib0]
    · obtain ⟨x, z, u1, u2, u3⟩ := mFindsBehind hs ok
      rcases u3 with ⟨rfl, G, g1, g2⟩ | ⟨rfl, g1⟩
      · exact absurd w3 (nxt_nno g1)
      · refine ⟨z, ?_, fr_w u2 (by simp), MN_fr hs u2 (by simp)⟩
        simp only [u1, cI_k, if_pos iz0, f_X8_doesMore_142, if_true, nz0]
        rw [ib0, k01_0]
theorem sTurn {μ : Mem} {P : Pic} (h : CP μ 3 P) (ok : okP P) : stepR μ P (cI (F_X7_scriptTurns μ) (fun v35 μ32 => if v35 = 0 then (rI (0 : Int32) μ32) else (rI (1 : Int32) μ32))) (fun s => cI (f_X8_doesMore_108 (1 : Int32) s) k01) := by
  obtain ⟨m, Q, w1, w2, w3, w4⟩ := turnQuarter_code h ok
  refine ⟨true, Q, m, ?_, fr_w w4 (by simp), w2, turned_ok ok w3, fun s hs => ?_⟩
  · simp only [F_X7_scriptTurns, w1, cV_k, cI_k, if_neg j10]
    rw [ib1]
  · obtain ⟨z, y1, y2, y3⟩ := mTurns hs ok w3
    refine ⟨z, ?_, fr_w y2 (fun k hk => by simp at hk; rcases hk with rfl | rfl <;> simp), y3⟩
    simp only [f_X8_doesMore_108, if_neg j10, y1, cV_k, nz1, cI_k]
    rw [ib1]
/-- a question with the answer yes when n is at most w -/
theorem stepQ {μ : Mem} {P : Pic} (h : CP μ 3 P) (ok : okP P) {n w : Int} (hn : inZ n) (hw : inZ w) {oc : Out} {om : Mem → Out} (h1 : oc = (if i3 w < i3 n then rI (0 : Int32) μ else rI (1 : Int32) μ))
    (h2 : ∀ s, MN s P → ∃ z, om s = (if i3 w < i3 n then rI (0 : Int32) z else rI (1 : Int32) z) ∧ fr Wr s z ∧ MN z P) : stepR μ P oc om := by
  by_cases q : w < n
  · refine ⟨false, P, μ, ?_, fr_rf _ _, h, ok, fun s hs => ?_⟩
    · rw [h1, if_pos (lt3 (by omega)), ib0]
    · obtain ⟨z, z1, z2, z3⟩ := h2 s hs
      exact ⟨z, by rw [z1, if_pos (lt3 (by omega)), ib0], z2, z3⟩
  · refine ⟨true, P, μ, ?_, fr_rf _ _, h, ok, fun s hs => ?_⟩
    · rw [h1, if_neg (nlt3 (by omega)), ib1]
    · obtain ⟨z, z1, z2, z3⟩ := h2 s hs
      exact ⟨z, by rw [z1, if_neg (nlt3 (by omega)), ib1], z2, z3⟩
theorem k01_if {c : Prop} [Decidable c] (z : Mem) : cI (if c then rI (0 : Int32) z else rI (1 : Int32) z) k01 = (if c then rI (0 : Int32) z else rI (1 : Int32) z) := by
  by_cases q : c
  · rw [if_pos q, cI_k, k01_0]
  · rw [if_neg q, cI_k, k01_1]
theorem wrg_bd {P : Pic} (ok : okP P) : 0 ≤ wrg P ∧ wrg P ≤ 12 := by
  have o1 := ok.2.1
  have o2 := ok.2.2.2.1
  have a : 0 ≤ wrg P := zs_pos (fun i _ => by show (0 : Int) ≤ (if cnt (nR P) (fX P) i = wnt P i then 0 else 1); split <;> omega)
  have b := zs_bnd (n := nR P + nC P) (f := fun l => if cnt (nR P) (fX P) l = wnt P l then 0 else 1) 1 (fun i _ => by show (if cnt (nR P) (fX P) i = wnt P i then (0 : Int) else 1) ≤ 1; split <;> omega)
  have e : wrg P = zs (nR P + nC P) (fun l => if cnt (nR P) (fX P) l = wnt P l then 0 else 1) := rfl
  omega
theorem sPcs {μ : Mem} {P : Pic} (h : CP μ 3 P) (ok : okP P) {c e : Nat} (hc : c < 10) (he : e < 10) : stepR μ P (cI (F_X0_countPieces (μ.2.1 3 2) μ) (fun v56 μ53 => if (((10 : Int32) * i3 c) + i3 e) < v56 then (rI (0 : Int32) μ53) else (rI (1 : Int32) μ53)))
    (fun s => cI (cI (F_X8_laysPieces s) (fun v34 μ31 => if (((10 : Int32) * i3 c) + i3 e) < v34 then (rI (0 : Int32) μ31) else (rI (1 : Int32) μ31))) k01) := by
  have bX := brdX ok ok.2.2.2.2.1
  obtain ⟨n, x1, x2, x3⟩ := countPieces_code bX μ
  have eS : ((10 : Int32) * i3 (c : Int)) + i3 (e : Int) = i3 (10 * (c : Int) + e) := by rw [l3_10, i3_mul, i3_add]
  refine stepQ h ok (n := n) (w := 10 * (c : Int) + e) (by omega) (by omega) ?_ (fun s hs => ?_)
  · rw [h.2.2.1, x1, cI_k, eS]
  · obtain ⟨n', z, y1, y2, y3, y4, -⟩ := mLaysPieces hs ok
    have en := npc_inj y3 x2
    subst en
    exact ⟨z, by simp only [y1, cI_k, eS, k01_if], fr_w y2 (by simp), MN_fr hs y2 (by simp)⟩
theorem sOut {μ : Mem} {P : Pic} (h : CP μ 3 P) (ok : okP P) {c e : Nat} (hc : c < 10) (he : e < 10) : stepR μ P (cI (F_X0_outline (μ.2.1 3 2) (μ.2.1 3 2) μ) (fun v64 μ61 => if (((10 : Int32) * i3 c) + i3 e) < v64 then (rI (0 : Int32) μ61) else (rI (1 : Int32) μ61)))
    (fun s => cI (cI (F_X8_outline s) (fun v34 μ31 => if (((10 : Int32) * i3 c) + i3 e) < v34 then (rI (0 : Int32) μ31) else (rI (1 : Int32) μ31))) k01) := by
  have bX := brdX ok ok.2.2.2.2.1
  have bd := outl_bd (fX P) (fX P)
  have eS : ((10 : Int32) * i3 (c : Int)) + i3 (e : Int) = i3 (10 * (c : Int) + e) := by rw [l3_10, i3_mul, i3_add]
  refine stepQ h ok (n := outl (fX P) (fX P)) (w := 10 * (c : Int) + e) (by omega) (by omega) ?_ (fun s hs => ?_)
  · rw [h.2.2.1, outline_code bX bX, cI_k, eS]
  · exact ⟨s, by simp only [mOutline hs ok, cI_k, eS, k01_if], fr_rf _ _, hs⟩
theorem sWrg {μ : Mem} {P : Pic} (h : CP μ 3 P) (ok : okP P) {e : Nat} (he : e < 10) : stepR μ P (cI (F_X4_countWrongLines 3 μ) (fun v72 μ69 => if i3 e < v72 then (rI (0 : Int32) μ69) else (rI (1 : Int32) μ69)))
    (fun s => cI (cI (F_X8_wrongLines s) (fun v34 μ31 => if i3 e < v34 then (rI (0 : Int32) μ31) else (rI (1 : Int32) μ31))) k01) := by
  have bd := wrg_bd ok
  refine stepQ h ok (n := wrg P) (w := e) (by omega) (by omega) ?_ (fun s hs => ?_)
  · rw [countWrongLines_code h ok, cI_k]
  · exact ⟨s, by simp only [mWrong hs ok, cI_k, k01_if], fr_rf _ _, hs⟩
theorem i3z {n : Nat} (h : n < 1000) : (i3 (n : Int) = 0) = (n = 0) := by
  rw [l3_0, i3_eq (by omega) (by omega)]
  exact propext (by omega)
theorem sA4 {μ : Mem} {P : Pic} (h : CP μ 3 P) (ok : okP P) {b c e : Nat} (hb : b < 10) (hc : c < 10) (he : e < 10) : stepR μ P (if (i3 b + i3 c) = 0 then (if (1 : Int32) < i3 e then (rI (0 : Int32) μ) else (if i3 e = (1 : Int32) then (f_X7_succeeds_139 (1 : Int32) μ) else (f_X7_succeeds_139 (0 : Int32) μ))) else (rI (0 : Int32) μ))
    (fun s => if i3 b = 0 then (cI (F_X8_doesMore (i3 ((4 : Nat) : Int)) (i3 c) (i3 e) s) k01) else (rI (0 : Int32) s)) := by
  have f0 : ∀ s, f_X8_doesMore_75 (0 : Int32) s = rI (0 : Int32) s := fun s => by simp only [f_X8_doesMore_75, if_true, nz0]
  have p4 : i3 ((4 : Nat) : Int) = (4 : Int32) := by decide
  rw [i3_add, show (b : Int) + (c : Int) = ((b + c : Nat) : Int) from by push_cast; rfl]
  simp only [i3z (show b + c < 1000 by omega), i3z (show b < 1000 by omega)]
  by_cases qb : b = 0
  · by_cases qc : c = 0
    · have q : b + c = 0 := by omega
      have zc0 : (i3 (c : Int) = 0) := by rw [qc]; exact iz0
      rw [if_pos q]
      by_cases e2 : e < 2
      · have n1 : ¬ (1 : Int32) < i3 (e : Int) := by rw [l3_1]; exact nlt3 (by omega)
        have n2 : ¬ (2 : Int32) ≤ i3 (e : Int) := by rw [l3_2]; exact nle3 (by omega)
        rw [if_neg n1]
        rcases two01 e2 with ⟨-, e3⟩ | ⟨-, e3⟩
        · have k := sFirst h ok false
          rw [ib0] at k
          refine stepR_c k (by rw [e3, if_neg j01]) (fun s => ?_)
          simp only [if_pos qb, F_X8_doesMore, if_pos p4, if_pos zc0, if_neg n2]
          rw [e3, if_neg j01]
        · have k := sFirst h ok true
          rw [ib1] at k
          refine stepR_c k (by rw [e3, if_pos rfl]) (fun s => ?_)
          simp only [if_pos qb, F_X8_doesMore, if_pos p4, if_pos zc0, if_neg n2]
          rw [e3, if_pos rfl]
      · rw [if_pos (show (1 : Int32) < i3 (e : Int) from by rw [l3_1]; exact lt3 (by omega))]
        refine step00 h ok rfl (fun s hs => ?_)
        simp only [if_pos qb, F_X8_doesMore, if_pos p4, if_pos zc0, if_pos (show (2 : Int32) ≤ i3 (e : Int) from by rw [l3_2]; exact le3 (by omega)), f0, cI_k, k01_0]
    · rw [if_neg (show ¬ b + c = 0 by omega)]
      refine step00 h ok rfl (fun s hs => ?_)
      simp only [if_pos qb, F_X8_doesMore, if_pos p4, i3z (show c < 1000 by omega), if_neg qc, f0, cI_k, k01_0]
  · rw [if_neg (show ¬ b + c = 0 by omega)]
    refine step00 h ok rfl (fun s hs => ?_)
    simp only [if_neg qb]
theorem sA5 {μ : Mem} {P : Pic} (h : CP μ 3 P) (ok : okP P) {b c e : Nat} (hb : b < 10) (hc : c < 10) (he : e < 10) : stepR μ P (if ((i3 b + i3 c) + i3 e) = 0 then (cI (F_X7_scriptTurns μ) (fun v35 μ32 => if v35 = 0 then (rI (0 : Int32) μ32) else (rI (1 : Int32) μ32))) else (rI (0 : Int32) μ))
    (fun s => if i3 b = 0 then (cI (F_X8_doesMore (i3 ((5 : Nat) : Int)) (i3 c) (i3 e) s) k01) else (rI (0 : Int32) s)) := by
  have f0 : ∀ s, f_X8_doesMore_108 (0 : Int32) s = rI (0 : Int32) s := fun s => by simp only [f_X8_doesMore_108, if_true, nz0]
  have p4 : ¬ i3 ((5 : Nat) : Int) = (4 : Int32) := by decide
  have p5 : i3 ((5 : Nat) : Int) = (5 : Int32) := by decide
  rw [i3_add, i3_add, show (b : Int) + (c : Int) + (e : Int) = ((b + c + e : Nat) : Int) from by push_cast; rfl]
  simp only [i3z (show b + c + e < 1000 by omega), i3z (show b < 1000 by omega)]
  by_cases qb : b = 0
  · by_cases qc : c = 0
    · by_cases qe : e = 0
      · rw [if_pos (show b + c + e = 0 by omega)]
        refine stepR_c (sTurn h ok) rfl (fun s => ?_)
        simp only [if_pos qb, F_X8_doesMore, if_neg p4, if_pos p5, i3z (show c < 1000 by omega), if_pos qc, i3z (show e < 1000 by omega), if_pos qe]
      · rw [if_neg (show ¬ b + c + e = 0 by omega)]
        refine step00 h ok rfl (fun s hs => ?_)
        simp only [if_pos qb, F_X8_doesMore, if_neg p4, if_pos p5, i3z (show c < 1000 by omega), if_pos qc, i3z (show e < 1000 by omega), if_neg qe, f0, cI_k, k01_0]
    · rw [if_neg (show ¬ b + c + e = 0 by omega)]
      refine step00 h ok rfl (fun s hs => ?_)
      simp only [if_pos qb, F_X8_doesMore, if_neg p4, if_pos p5, i3z (show c < 1000 by omega), if_neg qc, f0, cI_k, k01_0]
  · rw [if_neg (show ¬ b + c + e = 0 by omega)]
    refine step00 h ok rfl (fun s hs => ?_)
    simp only [if_neg qb]
theorem sA6 {μ : Mem} {P : Pic} (h : CP μ 3 P) (ok : okP P) {b c e : Nat} (hb : b < 10) (hc : c < 10) (he : e < 10) : stepR μ P (if ((i3 b + i3 c) + i3 e) = 0 then (cI (F_X2_findBehind 3 μ) (fun v43 μ40 => cI (F_X7_refilled v43 μ40) (fun v48 μ45 => if v48 = 0 then (rI (0 : Int32) μ45) else (rI (1 : Int32) μ45)))) else (rI (0 : Int32) μ))
    (fun s => if i3 b = 0 then (cI (F_X8_doesMore (i3 ((6 : Nat) : Int)) (i3 c) (i3 e) s) k01) else (rI (0 : Int32) s)) := by
  have f0 : ∀ s, f_X8_doesMore_142 (0 : Int32) s = rI (0 : Int32) s := fun s => by simp only [f_X8_doesMore_142, if_true, nz0]
  have p4 : ¬ i3 ((6 : Nat) : Int) = (4 : Int32) := by decide
  have p5 : ¬ i3 ((6 : Nat) : Int) = (5 : Int32) := by decide
  have p6 : i3 ((6 : Nat) : Int) = (6 : Int32) := by decide
  rw [i3_add, i3_add, show (b : Int) + (c : Int) + (e : Int) = ((b + c + e : Nat) : Int) from by push_cast; rfl]
  simp only [i3z (show b + c + e < 1000 by omega), i3z (show b < 1000 by omega)]
  by_cases qb : b = 0
  · by_cases qc : c = 0
    · by_cases qe : e = 0
      · rw [if_pos (show b + c + e = 0 by omega)]
        refine stepR_c (sNext h ok) rfl (fun s => ?_)
        simp only [if_pos qb, F_X8_doesMore, if_neg p4, if_neg p5, if_pos p6, i3z (show c < 1000 by omega), if_pos qc, i3z (show e < 1000 by omega), if_pos qe]
      · rw [if_neg (show ¬ b + c + e = 0 by omega)]
        refine step00 h ok rfl (fun s hs => ?_)
        simp only [if_pos qb, F_X8_doesMore, if_neg p4, if_neg p5, if_pos p6, i3z (show c < 1000 by omega), if_pos qc, i3z (show e < 1000 by omega), if_neg qe, f0, cI_k, k01_0]
    · rw [if_neg (show ¬ b + c + e = 0 by omega)]
      refine step00 h ok rfl (fun s hs => ?_)
      simp only [if_pos qb, F_X8_doesMore, if_neg p4, if_neg p5, if_pos p6, i3z (show c < 1000 by omega), if_neg qc, f0, cI_k, k01_0]
  · rw [if_neg (show ¬ b + c + e = 0 by omega)]
    refine step00 h ok rfl (fun s hs => ?_)
    simp only [if_neg qb]
theorem sA9 {μ : Mem} {P : Pic} (h : CP μ 3 P) (ok : okP P) {b c e : Nat} (hb : b < 10) (hc : c < 10) (he : e < 10) : stepR μ P (if (i3 b + i3 c) = 0 then (cI (F_X4_countWrongLines 3 μ) (fun v72 μ69 => if i3 e < v72 then (rI (0 : Int32) μ69) else (rI (1 : Int32) μ69))) else (rI (0 : Int32) μ))
    (fun s => if i3 b = 0 then (cI (F_X8_doesMore (i3 ((9 : Nat) : Int)) (i3 c) (i3 e) s) k01) else (rI (0 : Int32) s)) := by
  have p4 : ¬ i3 ((9 : Nat) : Int) = (4 : Int32) := by decide
  have p5 : ¬ i3 ((9 : Nat) : Int) = (5 : Int32) := by decide
  have p6 : ¬ i3 ((9 : Nat) : Int) = (6 : Int32) := by decide
  have p7 : ¬ i3 ((9 : Nat) : Int) = (7 : Int32) := by decide
  have p8 : ¬ i3 ((9 : Nat) : Int) = (8 : Int32) := by decide
  have p9 : i3 ((9 : Nat) : Int) = (9 : Int32) := by decide
  rw [i3_add, show (b : Int) + (c : Int) = ((b + c : Nat) : Int) from by push_cast; rfl]
  simp only [i3z (show b + c < 1000 by omega), i3z (show b < 1000 by omega)]
  by_cases qb : b = 0
  · by_cases qc : c = 0
    · rw [if_pos (show b + c = 0 by omega)]
      refine stepR_c (sWrg h ok he) rfl (fun s => ?_)
      simp only [if_pos qb, F_X8_doesMore, if_neg p4, if_neg p5, if_neg p6, if_neg p7, if_neg p8, if_pos p9, i3z (show c < 1000 by omega), if_pos qc]
    · rw [if_neg (show ¬ b + c = 0 by omega)]
      refine step00 h ok rfl (fun s hs => ?_)
      simp only [if_pos qb, F_X8_doesMore, if_neg p4, if_neg p5, if_neg p6, if_neg p7, if_neg p8, if_pos p9, i3z (show c < 1000 by omega), if_neg qc, cI_k, k01_0]
  · rw [if_neg (show ¬ b + c = 0 by omega)]
    refine step00 h ok rfl (fun s hs => ?_)
    simp only [if_neg qb]
theorem stepAll {μ : Mem} {P : Pic} (h : CP μ 3 P) (ok : okP P) {d : Nat} (hd : d < 10000) : stepR μ P (F_X7_succeeds (i3 d) μ) (F_X8_does (i3 d)) := by
  have E0 : i3 (d : Int) / (1000 : Int32) = i3 ((d / 1000 : Nat) : Int) := by rw [l3_1000, i3_div (by omega) (by decide)]; congr 1
  have E1 : remI (i3 (d : Int) / (100 : Int32)) (10 : Int32) = i3 ((d / 100 % 10 : Nat) : Int) := by rw [l3_100, l3_10, i3_div (by omega) (by decide), i3_rem (by omega) (by decide)]; congr 1
  have E2 : remI (i3 (d : Int) / (10 : Int32)) (10 : Int32) = i3 ((d / 10 % 10 : Nat) : Int) := by rw [l3_10, i3_div (by omega) (by decide), i3_rem (by omega) (by decide)]; congr 1
  have E3 : remI (i3 (d : Int)) (10 : Int32) = i3 ((d % 10 : Nat) : Int) := by rw [l3_10, i3_rem (by omega) (by decide)]; congr 1
  have ha : d / 1000 < 10 := by omega
  have hb : d / 100 % 10 < 10 := Nat.mod_lt _ (by decide)
  have hc : d / 10 % 10 < 10 := Nat.mod_lt _ (by decide)
  have he : d % 10 < 10 := Nat.mod_lt _ (by decide)
  generalize d / 1000 = a at *
  generalize d / 100 % 10 = b at *
  generalize d / 10 % 10 = c at *
  generalize d % 10 = e at *
  have e10 : ((10 : Int32) * i3 (b : Int)) + i3 (c : Int) = i3 ((10 * b + c : Nat) : Int) := by rw [l3_10, i3_mul, i3_add]; rfl
  have A : a = 0 ∨ a = 1 ∨ a = 2 ∨ a = 3 ∨ a = 4 ∨ a = 5 ∨ a = 6 ∨ a = 7 ∨ a = 8 ∨ a = 9 := by omega
  rcases A with rfl | rfl | rfl | rfl | rfl | rfl | rfl | rfl | rfl | rfl
  · refine step00 h ok ?_ (fun s hs => ?_)
    · unfold F_X7_succeeds
      simp only [lt_k, E0, E1, E2, E3]
      rw [if_neg (by decide), if_neg (by decide), if_neg (by decide), if_neg (by decide), if_neg (by decide), if_neg (by decide), if_neg (by decide), if_neg (by decide), if_neg (by decide)]
    · unfold F_X8_does
      simp only [lt_k, E0, E1, E2, E3]
      rw [if_neg (by decide), if_neg (by decide), if_neg (by decide)]
      by_cases nb : i3 (b : Int) = 0
      · rw [if_pos nb]
        unfold F_X8_doesMore
        rw [if_neg (by decide), if_neg (by decide), if_neg (by decide), if_neg (by decide), if_neg (by decide), if_neg (by decide), cI_k, if_pos rfl]
      · rw [if_neg nb]
  · refine stepR_c (sFill h ok hb hc he) ?_ (fun s => ?_)
    · unfold F_X7_succeeds
      simp only [lt_k, E0, E1, E2, E3]
      rw [if_pos (by decide)]
    · unfold F_X8_does
      simp only [lt_k, E0, E1, E2, E3]
      rw [if_pos (by decide)]
  · refine stepR_c (sPin h ok hb hc he) ?_ (fun s => ?_)
    · unfold F_X7_succeeds
      simp only [lt_k, E0, E1, E2, E3]
      rw [if_neg (by decide), if_pos (by decide)]
    · unfold F_X8_does
      simp only [lt_k, E0, E1, E2, E3]
      rw [if_neg (by decide), if_pos (by decide)]
  · refine stepR_c (sWant h ok (show 10 * b + c < 100 by omega) he) ?_ (fun s => ?_)
    · unfold F_X7_succeeds
      simp only [lt_k, E0, E1, E2, E3, e10]
      rw [if_neg (by decide), if_neg (by decide), if_pos (by decide)]
    · unfold F_X8_does
      simp only [lt_k, E0, E1, E2, E3, e10]
      rw [if_neg (by decide), if_neg (by decide), if_pos (by decide)]
  · refine stepR_c (sA4 h ok hb hc he) ?_ (fun s => ?_)
    · unfold F_X7_succeeds
      simp only [lt_k, E0, E1, E2, E3]
      rw [if_neg (by decide), if_neg (by decide), if_neg (by decide), if_pos (by decide)]
    · unfold F_X8_does
      simp only [lt_k, E0, E1, E2, E3]
      rw [if_neg (by decide), if_neg (by decide), if_neg (by decide)]
  · refine stepR_c (sA5 h ok hb hc he) ?_ (fun s => ?_)
    · unfold F_X7_succeeds
      simp only [lt_k, E0, E1, E2, E3]
      rw [if_neg (by decide), if_neg (by decide), if_neg (by decide), if_neg (by decide), if_pos (by decide)]
    · unfold F_X8_does
      simp only [lt_k, E0, E1, E2, E3]
      rw [if_neg (by decide), if_neg (by decide), if_neg (by decide)]
  · refine stepR_c (sA6 h ok hb hc he) ?_ (fun s => ?_)
    · unfold F_X7_succeeds
      simp only [lt_k, E0, E1, E2, E3]
      rw [if_neg (by decide), if_neg (by decide), if_neg (by decide), if_neg (by decide), if_neg (by decide), if_pos (by decide)]
    · unfold F_X8_does
      simp only [lt_k, E0, E1, E2, E3]
      rw [if_neg (by decide), if_neg (by decide), if_neg (by decide)]
  · by_cases qb : b = 0
    · refine stepR_c (sPcs h ok hc he) ?_ (fun s => ?_)
      · unfold F_X7_succeeds
        simp only [lt_k, E0, E1, E2, E3]
        rw [if_neg (by decide), if_neg (by decide), if_neg (by decide), if_neg (by decide), if_neg (by decide), if_neg (by decide), if_pos (by decide), if_pos (by rw [qb]; rfl)]
      · unfold F_X8_does
        simp only [lt_k, E0, E1, E2, E3]
        rw [if_neg (by decide), if_neg (by decide), if_neg (by decide), if_pos (by rw [qb]; rfl)]
        unfold F_X8_doesMore
        rw [if_neg (by decide), if_neg (by decide), if_neg (by decide), if_pos (by decide)]
    · have nb : ¬ i3 (b : Int) = 0 := by rw [i3z (by omega)]; exact qb
      refine step00 h ok ?_ (fun s hs => ?_)
      · unfold F_X7_succeeds
        simp only [lt_k, E0, E1, E2, E3]
        rw [if_neg (by decide), if_neg (by decide), if_neg (by decide), if_neg (by decide), if_neg (by decide), if_neg (by decide), if_pos (by decide), if_neg nb]
      · unfold F_X8_does
        simp only [lt_k, E0, E1, E2, E3]
        rw [if_neg (by decide), if_neg (by decide), if_neg (by decide), if_neg nb]
  · by_cases qb : b = 0
    · refine stepR_c (sOut h ok hc he) ?_ (fun s => ?_)
      · unfold F_X7_succeeds
        simp only [lt_k, E0, E1, E2, E3]
        rw [if_neg (by decide), if_neg (by decide), if_neg (by decide), if_neg (by decide), if_neg (by decide), if_neg (by decide), if_neg (by decide), if_pos (by decide), if_pos (by rw [qb]; rfl)]
      · unfold F_X8_does
        simp only [lt_k, E0, E1, E2, E3]
        rw [if_neg (by decide), if_neg (by decide), if_neg (by decide), if_pos (by rw [qb]; rfl)]
        unfold F_X8_doesMore
        rw [if_neg (by decide), if_neg (by decide), if_neg (by decide), if_neg (by decide), if_pos (by decide)]
    · have nb : ¬ i3 (b : Int) = 0 := by rw [i3z (by omega)]; exact qb
      refine step00 h ok ?_ (fun s hs => ?_)
      · unfold F_X7_succeeds
        simp only [lt_k, E0, E1, E2, E3]
        rw [if_neg (by decide), if_neg (by decide), if_neg (by decide), if_neg (by decide), if_neg (by decide), if_neg (by decide), if_neg (by decide), if_pos (by decide), if_neg nb]
      · unfold F_X8_does
        simp only [lt_k, E0, E1, E2, E3]
        rw [if_neg (by decide), if_neg (by decide), if_neg (by decide), if_neg nb]
  · refine stepR_c (sA9 h ok hb hc he) ?_ (fun s => ?_)
    · unfold F_X7_succeeds
      simp only [lt_k, E0, E1, E2, E3]
      rw [if_neg (by decide), if_neg (by decide), if_neg (by decide), if_neg (by decide), if_neg (by decide), if_neg (by decide), if_neg (by decide), if_neg (by decide), if_pos (by decide)]
    · unfold F_X8_does
      simp only [lt_k, E0, E1, E2, E3]
      rw [if_neg (by decide), if_neg (by decide), if_neg (by decide)]
