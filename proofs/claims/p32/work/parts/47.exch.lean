/-! the law's check of the exchanges -/
theorem dig3 (a b c d : Nat) (k : Nat) (h : k = 216 * a + 36 * b + 6 * c + d) (hb : b < 6) (hc : c < 6) (hd : d < 6) : k / 216 = a ∧ k / 36 % 6 = b ∧ k / 6 % 6 = c ∧ k % 6 = d := by
  subst h
  refine ⟨by omega, ?_, ?_, by omega⟩
  · rw [show (216 * a + 36 * b + 6 * c + d) / 36 = 6 * a + b from by omega]; omega
  · rw [show (216 * a + 36 * b + 6 * c + d) / 6 = 6 * (6 * a + b) + c from by omega]; omega
theorem dig4 (k : Nat) : ∃ a b c d : Nat, k = 216 * a + 36 * b + 6 * c + d ∧ b < 6 ∧ c < 6 ∧ d < 6 := ⟨k / 6 / 6 / 6, k / 6 / 6 % 6, k / 6 % 6, k % 6, by omega, by omega, by omega, by omega⟩
theorem tol_lt {k k' : Nat} (hk : k < k') (hk' : k' < 1296) : tol k < tol k' := by
  obtain ⟨a, b, c, d, e, h1, h2, h3⟩ := dig4 k
  obtain ⟨a', b', c', d', e', h1', h2', h3'⟩ := dig4 k'
  obtain ⟨f1, f2, f3, f4⟩ := dig3 a b c d k e h1 h2 h3
  obtain ⟨f1', f2', f3', f4'⟩ := dig3 a' b' c' d' k' e' h1' h2' h3'
  unfold tol
  rw [f1, f2, f3, f4, f1', f2', f3', f4']
  omega
theorem tol_0 (k : Nat) : 0 ≤ tol k := by
  unfold tol
  omega
theorem tol_bd {k : Nat} (hk : k < 1296) : tol k ≤ 5555 := by
  unfold tol
  omega
theorem tol_d {k : Nat} (hk : k < 1296) : i3 (tol k) / (1000 : Int32) = i3 ((k / 216 : Nat) : Int) ∧ remI (i3 (tol k) / (100 : Int32)) (10 : Int32) = i3 ((k / 36 % 6 : Nat) : Int) ∧ remI (i3 (tol k) / (10 : Int32)) (10 : Int32) = i3 ((k / 6 % 6 : Nat) : Int) ∧ remI (i3 (tol k)) (10 : Int32) = i3 ((k % 6 : Nat) : Int) := by
  refine ⟨?_, ?_, ?_, ?_⟩
  · unfold tol; rw [l3_1000, i3_div (by omega) (by decide)]; congr 1; omega
  · unfold tol; rw [l3_100, l3_10, i3_div (by omega) (by decide), i3_rem (by omega) (by decide)]; congr 1; omega
  · unfold tol; rw [l3_10, i3_div (by omega) (by decide), i3_rem (by omega) (by decide)]; congr 1; omega
  · unfold tol; rw [l3_10, i3_rem (by omega) (by decide)]; congr 1; omega
/-! four cells turned -/
theorem pc_bv {r c : Nat} (hr : r < 6) (hc : c < 6) : pc (bv (8 * r + c)) = 1 := by
  have h := pc_orb brd_0 hr hc (zc_0 r c)
  have p0 : pc 0 = 0 := by decide
  rw [p0] at h
  have e : (0 : Int64) ||| bv (8 * r + c) = bv (8 * r + c) := tb_ext (fun i _ => by rw [tb_or, tb_0, Bool.false_or])
  rw [e] at h
  exact h
theorem zc_bv6 {r c : Nat} (hr : r < 6) (hc : c < 6) (a b : Nat) : zc (bv (8 * r + c)) a b ↔ a = r ∧ b = c := by
  rw [zc_bv (show 8 * r + c < 64 by omega)]; omega
theorem brd_bv {r c : Nat} (hr : r < 6) (hc : c < 6) : brd (bv (8 * r + c)) := (brd_iff _).mpr (fun a b q => by
  have := (zc_bv6 hr hc a b).mp q
  omega)
theorem crn_brd {r s c d : Nat} (hr : r < 6) (hs : s < 6) (hc : c < 6) (hd : d < 6) : brd (crn r s c d) := (brd_iff _).mpr (fun a b q => by
  have := (zc_crn (by omega) (by omega) (by omega) (by omega) a b).mp q
  omega)
theorem pc_crn {r s c d : Nat} (hrs : r < s) (hs : s < 6) (hcd : c < d) (hd : d < 6) : pc (crn r s c d) = 4 := by
  have hr : r < 6 := by omega
  have hc : c < 6 := by omega
  have b1 := brd_bv hr hc
  have b2 := brd_orb b1 hr hd
  have b3 := brd_orb b2 hs hc
  unfold crn
  rw [pc_orb b3 hs hd (fun q => by
    rw [zc_orb hs hc, zc_orb hr hd, zc_bv6 hr hc] at q; omega), pc_orb b2 hs hc (fun q => by
    rw [zc_orb hr hd, zc_bv6 hr hc] at q; omega), pc_orb b1 hr hd (fun q => by
    rw [zc_bv6 hr hc] at q; omega), pc_bv hr hc]
  rfl
theorem pc_xor {x m : Int64} (hx : brd x) (hm : brd m) : pc (x ^^^ m) + 2 * pc (x &&& m) = pc x + pc m := by
  have b1 : brd (x ^^^ m) := (brd_iff _).mpr (fun r c q => by
    rcases (zc_xor x m r c).mp q with w | w
    · exact zc_brd hx w.1
    · exact zc_brd hm w.2)
  have b2 : brd (x &&& m) := brd_sub hx (fun r c q => ((zc_and _ _ _ _).mp q).1)
  rw [pc_z2 b1, pc_z2 b2, pc_z2 hx, pc_z2 hm, Int.two_mul, ← z2_add, ← z2_add, ← z2_add]
  refine z2_congr (fun r c _ _ => ?_)
  rw [tb_xor, tb_and]
  cases tb x (8 * r + c) <;> cases tb m (8 * r + c) <;> rfl
theorem of4_t {P : Pic} {r s c d : Nat} (h : of4 P r s c d = true) : tb (fP P) (8 * r + c) = false ∧ tb (fP P) (8 * r + d) = false ∧ tb (fP P) (8 * s + c) = false ∧ tb (fP P) (8 * s + d) = false ∧ tb (fX P) (8 * s + d) = tb (fX P) (8 * r + c) ∧ tb (fX P) (8 * r + d) = !(tb (fX P) (8 * r + c)) ∧ tb (fX P) (8 * s + c) = !(tb (fX P) (8 * r + c)) := by
  unfold of4 at h
  revert h
  cases tb (fP P) (8 * r + c) <;> cases tb (fP P) (8 * r + d) <;> cases tb (fP P) (8 * s + c) <;> cases tb (fP P) (8 * s + d) <;> cases tb (fX P) (8 * r + c) <;> cases tb (fX P) (8 * r + d) <;> cases tb (fX P) (8 * s + c) <;> cases tb (fX P) (8 * s + d) <;> decide
theorem of4_i {P : Pic} {r s c d : Nat} (h1 : tb (fP P) (8 * r + c) = false ∧ tb (fP P) (8 * r + d) = false ∧ tb (fP P) (8 * s + c) = false ∧ tb (fP P) (8 * s + d) = false) (h2 : tb (fX P) (8 * s + d) = tb (fX P) (8 * r + c)) (h3 : tb (fX P) (8 * r + d) = !(tb (fX P) (8 * r + c))) (h4 : tb (fX P) (8 * s + c) = !(tb (fX P) (8 * r + c))) : of4 P r s c d = true := by
  unfold of4
  rw [h1.1, h1.2.1, h1.2.2.1, h1.2.2.2, h2, h3, h4]
  cases tb (fX P) (8 * r + c) <;> decide
theorem tb_crn {r s c d : Nat} (hr : r < 6) (hs : s < 6) (hc : c < 6) (hd : d < 6) : tb (crn r s c d) (8 * r + c) = true ∧ tb (crn r s c d) (8 * r + d) = true ∧ tb (crn r s c d) (8 * s + c) = true ∧ tb (crn r s c d) (8 * s + d) = true :=
  ⟨((zc_crn (by omega) (by omega) (by omega) (by omega) r c).mpr ⟨Or.inl rfl, Or.inl rfl⟩).2.2, ((zc_crn (by omega) (by omega) (by omega) (by omega) r d).mpr ⟨Or.inl rfl, Or.inr rfl⟩).2.2, ((zc_crn (by omega) (by omega) (by omega) (by omega) s c).mpr ⟨Or.inr rfl, Or.inl rfl⟩).2.2, ((zc_crn (by omega) (by omega) (by omega) (by omega) s d).mpr ⟨Or.inr rfl, Or.inr rfl⟩).2.2⟩
theorem of4_x {P : Pic} {r s c d : Nat} (hr : r < 6) (hs : s < 6) (hc : c < 6) (hd : d < 6) (h : of4 P r s c d = true) : of4 (mkX P (fX P ^^^ crn r s c d)) r s c d = true := by
  obtain ⟨p1, p2, p3, p4, q1, q2, q3⟩ := of4_t h
  obtain ⟨t1, t2, t3, t4⟩ := tb_crn hr hs hc hd
  refine of4_i ⟨p1, p2, p3, p4⟩ ?_ ?_ ?_
  · show tb (fX P ^^^ crn r s c d) _ = tb (fX P ^^^ crn r s c d) _
    rw [tb_xor, tb_xor, t1, t4, q1]
  · show tb (fX P ^^^ crn r s c d) _ = !(tb (fX P ^^^ crn r s c d) _)
    rw [tb_xor, tb_xor, t1, t2, q2]
    cases tb (fX P) (8 * r + c) <;> rfl
  · show tb (fX P ^^^ crn r s c d) _ = !(tb (fX P ^^^ crn r s c d) _)
    rw [tb_xor, tb_xor, t1, t3, q3]
    cases tb (fX P) (8 * r + c) <;> rfl
theorem pc_ex {P : Pic} (hX : brd (fX P)) {r s c d : Nat} (hrs : r < s) (hs : s < 6) (hcd : c < d) (hd : d < 6) (h : of4 P r s c d = true) : pc (fX P ^^^ crn r s c d) = pc (fX P) := by
  have hr : r < 6 := by omega
  have hc : c < 6 := by omega
  obtain ⟨-, -, -, -, q1, q2, q3⟩ := of4_t h
  have e := pc_xor hX (crn_brd hr hs hc hd)
  rw [pc_crn hrs hs hcd hd] at e
  have e2 : pc (fX P &&& crn r s c d) = 2 := by
    have i1 := tb_iff (x := fX P) (r := r) (c := c) (by omega) (by omega)
    have i2 := tb_iff (x := fX P) (r := r) (c := d) (by omega) (by omega)
    have i3 := tb_iff (x := fX P) (r := s) (c := c) (by omega) (by omega)
    have i4 := tb_iff (x := fX P) (r := s) (c := d) (by omega) (by omega)
    cases hq : tb (fX P) (8 * r + c)
    · rw [hq] at q1 q2 q3 i1
      rw [q1] at i4
      rw [q2] at i2
      rw [q3] at i3
      have ee : fX P &&& crn r s c d = bv (8 * r + d) ||| bv (8 * s + c) := zc_ext (fun a b => by
        rw [zc_and, zc_crn (by omega) (by omega) (by omega) (by omega), zc_orb hs hc, zc_bv6 hr hd]
        constructor
        · rintro ⟨w, (rfl | rfl), (rfl | rfl)⟩
          · exact absurd (i1.mpr w) (by decide)
          · exact Or.inl ⟨rfl, rfl⟩
          · exact Or.inr ⟨rfl, rfl⟩
          · exact absurd (i4.mpr w) (by decide)
        · rintro (⟨rfl, rfl⟩ | ⟨rfl, rfl⟩)
          · exact ⟨i2.mp rfl, Or.inl rfl, Or.inr rfl⟩
          · exact ⟨i3.mp rfl, Or.inr rfl, Or.inl rfl⟩)
      rw [ee, pc_orb (brd_bv hr hd) hs hc (fun w => by rw [zc_bv6 hr hd] at w; omega), pc_bv hr hd]; rfl
    · rw [hq] at q1 q2 q3 i1
      rw [q1] at i4
      rw [q2] at i2
      rw [q3] at i3
      have ee : fX P &&& crn r s c d = bv (8 * r + c) ||| bv (8 * s + d) := zc_ext (fun a b => by
        rw [zc_and, zc_crn (by omega) (by omega) (by omega) (by omega), zc_orb hs hd, zc_bv6 hr hc]
        constructor
        · rintro ⟨w, (rfl | rfl), (rfl | rfl)⟩
          · exact Or.inl ⟨rfl, rfl⟩
          · exact absurd (i2.mpr w) (by decide)
          · exact absurd (i3.mpr w) (by decide)
          · exact Or.inr ⟨rfl, rfl⟩
        · rintro (⟨rfl, rfl⟩ | ⟨rfl, rfl⟩)
          · exact ⟨i1.mp rfl, Or.inl rfl, Or.inl rfl⟩
          · exact ⟨i4.mp rfl, Or.inr rfl, Or.inr rfl⟩)
      rw [ee, pc_orb (brd_bv hr hc) hs hd (fun w => by rw [zc_bv6 hr hc] at w; omega), pc_bv hr hc]; rfl
  omega
/-! what is remembered -/
theorem rem1 (h : Nat) (hq : Nat → Pic) (P : Pic) (h14 : h ≤ 14) : ¬ remN h = 0 ∧ remQ h hq P (remN h - 1) = P ∧ remN h ≤ 14 := by
  by_cases q : h < 14
  · have e1 : remN h = h + 1 := if_pos q
    have f2 : remQ h hq P = fun j => if j = h then P else hq j := if_pos q
    rw [e1, f2]
    refine ⟨by omega, ?_, by omega⟩
    show (if h + 1 - 1 = h then P else _) = P
    rw [if_pos (by omega)]
  · have : h = 14 := by omega
    subst this
    exact ⟨by decide, rfl, by decide⟩
theorem rem2 (h : Nat) (hq : Nat → Pic) (P Q : Pic) (h14 : h ≤ 14) : ¬ remN (remN h) - 1 = 0 ∧ remQ (remN h) (remQ h hq P) Q (remN (remN h) - 1 - 1) = P := by
  by_cases q : h ≤ 12
  · have e1 : remN h = h + 1 := if_pos (by omega)
    have e2 : remN (h + 1) = h + 1 + 1 := if_pos (by omega)
    have f1 : remQ (h + 1) (remQ h hq P) Q = fun j => if j = h + 1 then Q else remQ h hq P j := if_pos (by omega)
    have f2 : remQ h hq P = fun j => if j = h then P else hq j := if_pos (by omega)
    rw [e1, e2, f1, f2]
    refine ⟨by omega, ?_⟩
    show (if h + 1 + 1 - 1 - 1 = h + 1 then Q else if h + 1 + 1 - 1 - 1 = h then P else _) = P
    rw [if_neg (by omega), if_pos (by omega)]
  · have : h = 13 ∨ h = 14 := by omega
    rcases this with rfl | rfl
    · exact ⟨by decide, rfl⟩
    · exact ⟨by decide, rfl⟩
theorem rem_1 (A : Ab) (Q : Pic) (h14 : aHn A ≤ 14) : ¬ aHn (actA A Q) = 0 ∧ aP (unA (actA A Q)) = aP A ∧ aHn (actA A Q) ≤ 14 := rem1 (aHn A) (aH A) (aP A) h14
theorem rem_2 (A : Ab) (Q Q' : Pic) (h14 : aHn A ≤ 14) : ¬ aHn (unA (actA (actA A Q) Q')) = 0 ∧ aP (unA (unA (actA (actA A Q) Q'))) = aP A := rem2 (aHn A) (aH A) (aP A) Q h14
theorem h14 {μ : Mem} {A : Ab} (h : cInv μ A) : aHn A ≤ 14 := by obtain ⟨_, _, _, _, w, _⟩ := h.2.2.1; exact w
/-! the best exchange -/
section BX
variable {P : Pic}
noncomputable abbrev npJ (P : Pic) (j : Nat) : Nat := npN (xk P (exK P j))
noncomputable abbrev olJ (P : Pic) (j : Nat) : Int := outl (xk P (exK P j)) (xk P (exK P j))
theorem ex_at (ok : okP P) {j : Nat} (hj : (j : Int) < cex P 1296) : exK P j < 1296 ∧ exq P (exK P j) = true ∧ npc (zc (xk P (exK P j))) (npJ P j) ∧ npJ P j ≤ 36 := by
  have c1 := cex_bd P
  obtain ⟨v, -, w⟩ := exchangeNumbered_code (μ := (fun a b => if a = 2 ∧ b = 0 then i3 (nR P) else if a = 2 ∧ b = 1 then i3 (nC P) else 0, fun a b => if a = 2 ∧ b = 2 then fX P else if a = 2 ∧ b = 3 then fP P else if a = 2 ∧ b = 4 then wU P else if a = 2 ∧ b = 5 then wV P else 0, fun _ _ => 0)) (k := 2) (P := P) ⟨rfl, rfl, rfl, rfl, rfl, rfl⟩ ok (i := (j : Int)) (by omega) (by omega)
  obtain ⟨-, e2, e3⟩ := exK_eq w hj
  have hb := crk_in ok e3
  obtain ⟨n, -, y2, y3⟩ := countPieces_code (brdX ok hb) mz
  have e := npN_eq y2
  refine ⟨e2, e3, ?_, ?_⟩
  · show npc _ (npN _)
    rw [e]; exact y2
  · show npN _ ≤ 36
    rw [e]; exact y3
theorem bx_spec (ok : okP P) {M : Int} (hM : M = cex P 1296) : ∀ i : Nat, (i : Int) ≤ M → (i = 0 ∧ (bxI P i).1 = (-9 : Int32)) ∨ (∃ b : Nat, b < i ∧ bxI P i = (i3 (b : Int), i3 (npJ P b : Int), i3 (olJ P b)) ∧ ∀ j, j < i → npJ P b < npJ P j ∨ (npJ P b = npJ P j ∧ (olJ P b < olJ P j ∨ (olJ P b = olJ P j ∧ b ≤ j)))) := by
  intro i
  induction i with
  | zero =>
    intro _
    exact Or.inl ⟨rfl, by rw [bxI.eq_1]⟩
  | succ i ih0 =>
    intro hi
    have c1 := cex_bd P
    have ih := ih0 (by omega)
    have hI := ex_at ok (j := i) (by omega)
    have oI : 0 ≤ olJ P i ∧ olJ P i ≤ 144 := outl_bd (xk P (exK P i)) (xk P (exK P i))
    right
    rw [bxI_s P i rfl rfl rfl]
    rcases ih with ⟨e0, e1⟩ | ⟨b, hb, eb, hj⟩
    · rw [if_pos e1]
      refine ⟨i, by omega, rfl, fun j hj => ?_⟩
      have : j = i := by omega
      subst this
      exact Or.inr ⟨rfl, Or.inr ⟨rfl, Nat.le_refl _⟩⟩
    · have hB := ex_at ok (j := b) (by omega)
      have oB : 0 ≤ olJ P b ∧ olJ P b ≤ 144 := outl_bd (xk P (exK P b)) (xk P (exK P b))
      have n9 : ¬ i3 (b : Int) = (-9 : Int32) := by rw [l3_m9]; exact ne3 (by omega)
      rw [eb]
      simp only
      rw [if_neg n9]
      have key : ∀ j, j < i + 1 → j < i ∨ j = i := fun j hj => by omega
      by_cases q1 : (npJ P i : Int) < npJ P b
      · rw [if_pos (show i3 (npJ P i : Int) < i3 (npJ P b : Int) from lt3 (by omega))]
        refine ⟨i, by omega, rfl, fun j hj' => ?_⟩
        rcases key j hj' with w | rfl
        · have := hj j w; omega
        · exact Or.inr ⟨rfl, Or.inr ⟨rfl, Nat.le_refl _⟩⟩
      · rw [if_neg (show ¬ i3 (npJ P i : Int) < i3 (npJ P b : Int) from nlt3 (by omega))]
        by_cases q2 : (npJ P i : Int) = npJ P b
        · rw [if_pos (show i3 (npJ P i : Int) = i3 (npJ P b : Int) from by rw [q2])]
          by_cases q3 : olJ P b ≤ olJ P i
          · rw [if_pos (show i3 (olJ P b) ≤ i3 (olJ P i) from le3 (by omega))]
            refine ⟨b, by omega, rfl, fun j hj' => ?_⟩
            rcases key j hj' with w | rfl
            · exact hj j w
            · omega
          · rw [if_neg (show ¬ i3 (olJ P b) ≤ i3 (olJ P i) from nle3 (by omega))]
            refine ⟨i, by omega, rfl, fun j hj' => ?_⟩
            rcases key j hj' with w | rfl
            · have := hj j w; omega
            · exact Or.inr ⟨rfl, Or.inr ⟨rfl, Nat.le_refl _⟩⟩
        · rw [if_neg (show ¬ i3 (npJ P i : Int) = i3 (npJ P b : Int) from ne3 (by omega))]
          refine ⟨b, by omega, rfl, fun j hj' => ?_⟩
          rcases key j hj' with w | rfl
          · exact hj j w
          · omega
end BX
