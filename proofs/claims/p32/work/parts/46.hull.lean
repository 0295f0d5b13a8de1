/-! the law's check of the hull -/
def sn (g : Nat → Bool) : Nat → Nat
  | 0 => 0
  | i + 1 => if g i then (if sn g i = 2 then 3 else if sn g i = 3 then 3 else 1) else (if sn g i = 1 then 2 else sn g i)
theorem sn_inv (g : Nat → Bool) : ∀ i, sn g i ≤ 3 ∧ (sn g i = 1 → ∃ a, a < i ∧ g a = true) ∧ (sn g i = 2 → ∃ a b, a < b ∧ b < i ∧ g a = true ∧ g b = false) ∧ (sn g i = 3 → ∃ a b c, a < b ∧ b < c ∧ c < i ∧ g a = true ∧ g b = false ∧ g c = true)
  | 0 => ⟨Nat.zero_le _, fun h => absurd (show (0 : Nat) = 1 from h) (by decide), fun h => absurd (show (0 : Nat) = 2 from h) (by decide), fun h => absurd (show (0 : Nat) = 3 from h) (by decide)⟩
  | i + 1 => by
    obtain ⟨h0, h1, h2, h3⟩ := sn_inv g i
    have e : sn g (i + 1) = if g i then (if sn g i = 2 then 3 else if sn g i = 3 then 3 else 1) else (if sn g i = 1 then 2 else sn g i) := rfl
    rw [e]
    cases hg : g i
    · simp only [Bool.false_eq_true, if_false]
      by_cases q : sn g i = 1
      · rw [if_pos q]
        obtain ⟨a, a1, a2⟩ := h1 q
        exact ⟨by decide, fun w => absurd w (by decide), fun _ => ⟨a, i, a1, by omega, a2, hg⟩, fun w => absurd w (by decide)⟩
      · rw [if_neg q]
        refine ⟨h0, fun w => absurd w q, fun w => ?_, fun w => ?_⟩
        · obtain ⟨a, b, a1, a2, a3, a4⟩ := h2 w
          exact ⟨a, b, a1, by omega, a3, a4⟩
        · obtain ⟨a, b, c, a1, a2, a3, a4, a5, a6⟩ := h3 w
          exact ⟨a, b, c, a1, a2, by omega, a4, a5, a6⟩
    · simp only [if_true]
      by_cases q : sn g i = 2
      · rw [if_pos q]
        obtain ⟨a, b, a1, a2, a3, a4⟩ := h2 q
        exact ⟨by decide, fun w => absurd w (by decide), fun w => absurd w (by decide), fun _ => ⟨a, b, i, a1, a2, by omega, a3, a4, hg⟩⟩
      · rw [if_neg q]
        by_cases q3 : sn g i = 3
        · rw [if_pos q3]
          exact ⟨by decide, fun w => absurd w (by decide), fun w => absurd w (by decide), fun w => by
            obtain ⟨a, b, c, a1, a2, a3, a4, a5, a6⟩ := h3 q3
            exact ⟨a, b, c, a1, a2, by omega, a4, a5, a6⟩⟩
        · rw [if_neg q3]
          exact ⟨by decide, fun _ => ⟨i, by omega, hg⟩, fun w => absurd w (by decide), fun w => absurd w (by decide)⟩
section HU
variable {μ : Mem} {A : Ab}
theorem sn3 (a k : Nat) (ha : a ≤ 3) (hk : k ≤ 9) : (i3 (a : Int) = i3 (k : Int)) = (a = k) := by rw [i3_eq (by omega) (by omega)]; exact propext ⟨fun w => by omega, fun w => by omega⟩
theorem hull_line (H : Int64) {l : Nat} (hl : l < 12) (g : Nat → Bool) (hg : ∀ i, i < 6 → g i = if 6 ≤ l then tb H (8 * i + (l - 6)) else tb H (8 * l + i)) (h3 : ¬ sn g 6 = 3) (k15 : Int64 → Int64 → Int32 → Mem → Out) (x1 : Int64) :
    f_L_hull_28 k15 BIG x1 (V H) (i3 (l : Int)) (0 : Int32) (0 : Int32) μ = k15 x1 (V H) (i3 ((l + 1 : Nat) : Int)) μ := by
  rw [show f_L_hull_28 k15 BIG x1 (V H) (i3 (l : Int)) (0 : Int32) (0 : Int32) μ = f_L_hull_28 k15 BIG x1 (V H) (i3 (l : Int)) (i3 (sn g 0 : Int)) (i3 ((0 : Nat) : Int)) μ from by rw [l3_0]; exact nr rfl]
  refine loop_up (fun n i => f_L_hull_28 k15 n x1 (V H) (i3 (l : Int)) (i3 (sn g i : Int)) (i3 (i : Int)) μ) 6 _ (fun n => ?_) (fun n i hi => ?_) BIG 0 (by omega) (BIG_lt (by omega))
  · have el : (6 : Int32) ≤ i3 ((6 : Nat) : Int) := by decide
    have e3 : (i3 (sn g 6 : Int) = (3 : Int32)) = (sn g 6 = 3) := by rw [l3_3]; exact sn3 _ 3 (sn_inv g 6).1 (by decide)
    simp only [f_L_hull_28, if_pos el, e3, if_neg h3, lt_k, inc3]
  · have el : ¬ (6 : Int32) ≤ i3 (i : Int) := by rw [l3_6]; exact nle3 (by omega)
    have b3 := (sn_inv g i).1
    have e1 : (i3 (sn g i : Int) = (1 : Int32)) = (sn g i = 1) := by rw [l3_1]; exact sn3 _ 1 b3 (by decide)
    have e2 : (i3 (sn g i : Int) = (2 : Int32)) = (sn g i = 2) := by rw [l3_2]; exact sn3 _ 2 b3 (by decide)
    have e3 : (i3 (sn g i : Int) = (3 : Int32)) = (sn g i = 3) := by rw [l3_3]; exact sn3 _ 3 b3 (by decide)
    have es : sn g (i + 1) = if g i then (if sn g i = 2 then 3 else if sn g i = 3 then 3 else 1) else (if sn g i = 1 then 2 else sn g i) := rfl
    have fin : ∀ μ, f_L_hull_64 k15 (f_L_hull_28 k15 n) x1 (V H) (i3 (l : Int)) (i3 (sn g i : Int)) (i3 (i : Int)) (i3 (b2 (g i))) μ = f_L_hull_28 k15 n x1 (V H) (i3 (l : Int)) (i3 (sn g (i + 1) : Int)) (i3 ((i + 1 : Nat) : Int)) μ := by
      intro μ
      rw [es]
      cases g i
      · simp only [f_L_hull_64, b2_f, iz0, j01, if_false, e1, lt_k, inc3, Bool.false_eq_true]
        by_cases q : sn g i = 1
        · simp only [if_pos q]; rfl
        · simp only [if_neg q]
      · simp only [f_L_hull_64, b2_t, i3o, j11, if_true, e2, e3, lt_k, inc3]
        by_cases q : sn g i = 2
        · simp only [if_pos q]; rfl
        · simp only [if_neg q]
          by_cases q3 : sn g i = 3
          · simp only [if_pos q3]; rfl
          · simp only [if_neg q3]; rfl
    have hgi := hg i hi
    simp only [f_L_hull_28, if_neg el]
    by_cases a : 6 ≤ l
    · have ea : (6 : Int32) ≤ i3 (l : Int) := by rw [l3_6]; exact le3 (by omega)
      have ed : i3 (l : Int) - (6 : Int32) = i3 ((l - 6 : Nat) : Int) := by rw [l3_6, i3_sub]; congr 1; omega
      rw [if_pos a] at hgi
      rw [if_pos ea, ed, at_nat H (by omega) (by omega), cI_k, ← hgi]
      exact fin μ
    · have ea : ¬ (6 : Int32) ≤ i3 (l : Int) := by rw [l3_6]; exact nle3 (by omega)
      rw [if_neg a] at hgi
      rw [if_neg ea, at_nat H (by omega) (by omega), cI_k, ← hgi]
      exact fin μ
theorem hull_law (h : cInv μ A) : F_L_hull μ = rI (1 : Int32) μ := by
  have ok := h.2.1
  have bX := brdX ok ok.2.2.2.2.1
  obtain ⟨H, h1, h2, h3⟩ := hul_ex ok
  have sub : ∀ r c, zc (fX (aP A)) r c → zc H r c := fun r c q => (h2 r c).mpr (hul_sub q)
  have e0 : fX (aP A) &&& (H ^^^ (-1 : Int64)) = 0 := zc_eq_zero.mpr (fun r c q => ((zc_rem r c).mp q).2 (sub r c ((zc_rem r c).mp q).1))
  have hcl := hul_cl (zc (fX (aP A)))
  have zz : (fX (aP A) = 0) = (H = 0) := propext ⟨fun e => zc_eq_zero.mpr (fun r c q => by
      have := (h2 r c).mp q (fun _ _ => False) (fun a b w => by rw [e] at w; exact zc_0 a b w) ⟨fun _ _ _ _ _ _ w _ => w, fun _ _ _ _ _ _ w _ => w⟩
      exact this), fun e => zc_eq_zero.mpr (fun r c q => zc_0 r c (by rw [← e]; exact sub r c q))⟩
  simp only [F_L_hull, bits_0 h, bits_3 h h2, cJ_k]
  rw [show (0 : Int32) = i3 ((0 : Nat) : Int) from l3_0]
  refine loop_up (fun n l => f_L_hull_15 n (V (fX (aP A))) (V H) (i3 (l : Int)) μ) 12 _ (fun n => ?_) (fun n l hl => ?_) BIG 0 (by omega) (BIG_lt (by omega))
  · have el : (12 : Int32) ≤ i3 ((12 : Nat) : Int) := by decide
    have ez : lg_cmp (V (fX (aP A)) &&& (V H ^^^ (-1 : Int64))) (0 : Int64) = 0 := by rw [V_rem, e0, V_0]; decide
    simp only [f_L_hull_15, if_pos el, if_pos ez, a_9 h h1 h2, cI_k, ones_V h1, if_true, V_eq0 bX, f_L_hull_166, V_eq0 h1, zz]
    by_cases q : H = 0
    · simp only [if_pos q, j11, if_true]
    · simp only [if_neg q, if_true]
  · have el : ¬ (12 : Int32) ≤ i3 (l : Int) := by rw [show (12 : Int32) = i3 12 from by decide]; exact nle3 (by omega)
    simp only [f_L_hull_15, if_neg el]
    refine hull_line H hl (fun i => if 6 ≤ l then tb H (8 * i + (l - 6)) else tb H (8 * l + i)) (fun i hi => rfl) (fun w => ?_) _ _
    obtain ⟨a, b, c, g1, g2, g6, g3, g4, g5⟩ := (sn_inv _ 6).2.2.2 w
    by_cases q : 6 ≤ l
    · simp only [if_pos q] at g3 g4 g5
      have za : ∀ i, i < 8 → tb H (8 * i + (l - 6)) = true → zc H i (l - 6) := fun i hi w => ⟨hi, by omega, w⟩
      have := (h2 b (l - 6)).mpr (hcl.2 (l - 6) a b c (by omega) (by omega) ((h2 _ _).mp (za a (by omega) g3)) ((h2 _ _).mp (za c (by omega) g5)))
      rw [this.2.2] at g4; cases g4
    · simp only [if_neg q] at g3 g4 g5
      have za : ∀ i, i < 8 → tb H (8 * l + i) = true → zc H l i := fun i hi w => ⟨by omega, hi, w⟩
      have := (h2 l b).mpr (hcl.1 l a b c (by omega) (by omega) ((h2 _ _).mp (za a (by omega) g3)) ((h2 _ _).mp (za c (by omega) g5)))
      rw [this.2.2] at g4; cases g4
end HU
