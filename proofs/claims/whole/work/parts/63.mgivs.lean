/-! giving all free cells -/
theorem divN {i n : Nat} (hi : i < 2147483648) (hn : 0 < n) (hn2 : n < 2147483648) : i3 i / i3 n = i3 ((i / n : Nat) : Int) := by rw [i3_div (by omega) (by omega)]; rfl
theorem remM {i n : Nat} (hi : i < 2147483648) (hn : 0 < n) (hn2 : n < 2147483648) : remI (i3 i) (i3 n) = i3 ((i % n : Nat) : Int) := by rw [i3_rem (by omega) (by omega)]; rfl
theorem pos_lt {C a d r c : Nat} (h1 : 1 ≤ C) (h6 : C ≤ 6) (hd : d < C) (hc : c < C) : C * a + d < C * r + c ↔ 8 * a + d < 8 * r + c := by
  have h : C = 1 ∨ C = 2 ∨ C = 3 ∨ C = 4 ∨ C = 5 ∨ C = 6 := by omega
  rcases h with rfl | rfl | rfl | rfl | rfl | rfl <;> omega
theorem pos_in {R C r c : Nat} (h1 : 1 ≤ C) (h6 : C ≤ 6) (hr : r < R) (hc : c < C) : C * r + c < R * C := by
  have h : C = 1 ∨ C = 2 ∨ C = 3 ∨ C = 4 ∨ C = 5 ∨ C = 6 := by omega
  rcases h with rfl | rfl | rfl | rfl | rfl | rfl <;> omega
theorem pos_at {R C i : Nat} (h1 : 1 ≤ C) (h6 : C ≤ 6) (hi : i < R * C) : i / C < R ∧ i % C < C ∧ C * (i / C) + i % C = i := by
  have h : C = 1 ∨ C = 2 ∨ C = 3 ∨ C = 4 ∨ C = 5 ∨ C = 6 := by omega
  rcases h with rfl | rfl | rfl | rfl | rfl | rfl <;> omega
theorem pos_36 {R C : Nat} (h1 : R ≤ 6) (h6 : C ≤ 6) : R * C ≤ 36 := Nat.mul_le_mul h1 h6
/-- the state of giving before the cell i -/
def gvI (P : Pic) (s : Mem) (b : Bool) (i : Nat) (z : Mem) : Prop := fr [37, 38, 39, 40, 41, 42, 43] s z ∧ gOK P z ∧ (∃ y, fitG P z y) ∧
  (∀ r c, r < nR P → c < nC P → (¬ zc (gFS P s) r c ∨ i ≤ nC P * r + c) → z.1 37 (6 * r + c) = s.1 37 (6 * r + c)) ∧ (∀ r c, zc (gFS P s) r c → nC P * r + c < i → ¬ z.1 37 (6 * r + c) = i3 (-1)) ∧
  ∀ r c, zc (gFS P s) r c → nC P * r + c < i → ¬ (z.1 37 (6 * r + c) = i3 1 ↔ b = true) →
    ¬ ∃ y, fitC P y ∧ (∀ a d, a < nR P → d < nC P → (¬ zc (gFS P s) a d ∨ 8 * a + d < 8 * r + c) → (zc y a d ↔ z.1 37 (6 * a + d) = i3 1)) ∧ (zc y r c ↔ b = true)
theorem b21 (w : Bool) : i3 (b2 w) = i3 1 ↔ w = true := by cases w <;> simp [b2, h01]
theorem b2m (w : Bool) : ¬ i3 (b2 w) = i3 (-1) := by cases w <;> decide
theorem b20 (w : Bool) : i3 (b2 w) = (0 : Int32) ↔ w = false := by cases w <;> decide
theorem gvStep {P : Pic} {s z z1 z3 : Mem} (ok : okP P) {b w : Bool} {i : Nat} (hi : i < nR P * nC P) (h : gvI P s b i z) (hF : z.1 37 (6 * (i / nC P) + i % nC P) = i3 (-1)) (hz : fr [37, 38, 39, 40, 41, 42, 43] z z3)
    (e1 : ∀ x, z1.1 37 x = if x = 6 * (i / nC P) + i % nC P then i3 (b2 b) else z.1 37 x) (e3 : ∀ x, z3.1 37 x = if x = 6 * (i / nC P) + i % nC P then i3 (b2 w) else z.1 37 x)
    (hw : (w = b ∧ ∃ y, fitG P z1 y) ∨ (w = !b ∧ ¬ ∃ y, fitG P z1 y)) : gvI P s b (i + 1) z3 := by
  have o1 := ok.2.1
  have o2 := ok.2.2.2.1
  have o3 := ok.2.2.1
  obtain ⟨h1, h2, ⟨y, h3⟩, h4, h5, h6⟩ := h
  obtain ⟨p1, p2, p3⟩ := pos_at o3 o2 hi
  have hFz : zc (gFS P s) (i / nC P) (i % nC P) := by
    refine Classical.byContradiction (fun q => ?_)
    have := h4 _ _ p1 p2 (Or.inl q)
    rw [hF] at this
    exact q ((zc_gF ok s _ _).mpr ⟨⟨p1, p2⟩, this.symm⟩)
  have ix : ∀ r c, r < nR P → c < nC P → (6 * r + c = 6 * (i / nC P) + i % nC P ↔ r = i / nC P ∧ c = i % nC P) := fun r c hr hc => by
    generalize i / nC P = u at *
    generalize i % nC P = v at *
    omega
  have ixp : ∀ r c, r < nR P → c < nC P → (nC P * r + c = i ↔ r = i / nC P ∧ c = i % nC P) := fun r c hr hc => by
    have a1 := pos_lt o3 o2 (a := r) (r := i / nC P) hc p2
    have a2 := pos_lt o3 o2 (a := i / nC P) (r := r) p2 hc
    rw [p3] at a1 a2
    generalize i / nC P = u at *
    generalize i % nC P = v at *
    omega
  -- fitting the two
  have fz : ∀ (v : Bool) (z' : Mem), (∀ x, z'.1 37 x = if x = 6 * (i / nC P) + i % nC P then i3 (b2 v) else z.1 37 x) → ∀ y, fitG P z' y ↔ fitG P z y ∧ (zc y (i / nC P) (i % nC P) ↔ v = true) := by
    intro v z' e y
    rw [fit37 ok, fit37 ok]
    constructor
    · rintro ⟨q1, q2⟩
      refine ⟨⟨q1, fun r c hr hc q => ?_⟩, ?_⟩
      · have := q2 r c hr hc
        rw [e] at this
        by_cases x : r = i / nC P ∧ c = i % nC P
        · rw [x.1, x.2] at q; exact absurd hF q
        · rw [if_neg (fun w => x ((ix r c hr hc).mp w))] at this
          exact this q
      · have := q2 _ _ p1 p2
        rw [e, if_pos rfl, b21] at this
        exact this (b2m v)
    · rintro ⟨⟨q1, q2⟩, q3⟩
      refine ⟨q1, fun r c hr hc => ?_⟩
      rw [e]
      by_cases x : r = i / nC P ∧ c = i % nC P
      · rw [if_pos ((ix r c hr hc).mpr x), b21, x.1, x.2]
        exact fun _ => q3
      · rw [if_neg (fun w => x ((ix r c hr hc).mp w))]
        exact q2 r c hr hc
  have cell3 : ∀ r c, r < nR P → c < nC P → z3.1 37 (6 * r + c) = if r = i / nC P ∧ c = i % nC P then i3 (b2 w) else z.1 37 (6 * r + c) := fun r c hr hc => by
    rw [e3]
    by_cases x : r = i / nC P ∧ c = i % nC P
    · rw [if_pos ((ix r c hr hc).mpr x), if_pos x]
    · rw [if_neg (fun w => x ((ix r c hr hc).mp w)), if_neg x]
  refine ⟨fr_tr h1 hz, fun r c hr hc => ?_, ?_, fun r c hr hc q => ?_, fun r c q1 q2 => ?_, fun r c q1 q2 => ?_⟩
  · rw [cell3 r c hr hc]
    by_cases x : r = i / nC P ∧ c = i % nC P
    · rw [if_pos x]; cases w
      · exact Or.inr (Or.inl rfl)
      · exact Or.inr (Or.inr rfl)
    · rw [if_neg x]; exact h2 r c hr hc
  · rcases hw with ⟨rfl, y1, hy1⟩ | ⟨rfl, hno⟩
    · exact ⟨y1, (fz w z3 e3 y1).mpr ((fz w z1 e1 y1).mp hy1)⟩
    · refine ⟨y, (fz _ z3 e3 y).mpr ⟨h3, ?_⟩⟩
      have : ¬ (zc y (i / nC P) (i % nC P) ↔ b = true) := fun q => hno ⟨y, (fz b z1 e1 y).mpr ⟨h3, q⟩⟩
      cases b
      · simp only [Bool.not_false, iff_true]
        simp only [Bool.false_eq_true, iff_false, Classical.not_not] at this
        exact this
      · simp only [Bool.not_true, Bool.false_eq_true, iff_false]
        simp only [iff_true] at this
        exact this
  · rw [cell3 r c hr hc, if_neg (fun x => ?_)]
    · exact h4 r c hr hc (q.imp id (fun q => by omega))
    · rcases q with q | q
      · rw [x.1, x.2] at q; exact q hFz
      · rw [x.1, x.2, p3] at q; omega
  · have bd := gF_board ok s r c q1
    rw [cell3 r c bd.1 bd.2]
    by_cases x : r = i / nC P ∧ c = i % nC P
    · rw [if_pos x]; exact b2m w
    · rw [if_neg x]
      exact h5 r c q1 (by have := mt (ixp r c bd.1 bd.2).mp x; omega)
  · have bd := gF_board ok s r c q1
    rw [cell3 r c bd.1 bd.2]
    by_cases x : r = i / nC P ∧ c = i % nC P
    · rw [if_pos x, b21]
      obtain ⟨rfl, rfl⟩ := x
      rcases hw with ⟨rfl, -⟩ | ⟨rfl, hno⟩
      · exact fun q => absurd Iff.rfl q
      · rintro - ⟨y', y1, y2, y3⟩
        refine hno ⟨y', (fz b z1 e1 y').mpr ⟨(fit37 ok _).mpr ⟨y1, fun r c hr hc q => ?_⟩, y3⟩⟩
        have hne : ¬ (r = i / nC P ∧ c = i % nC P) := fun x => q (by rw [x.1, x.2]; exact hF)
        have hlt : ¬ zc (gFS P s) r c ∨ 8 * r + c < 8 * (i / nC P) + i % nC P := by
          by_cases f : zc (gFS P s) r c
          · right
            rw [← pos_lt o3 o2 hc p2, p3]
            refine Classical.byContradiction (fun g => q ?_)
            rw [h4 r c hr hc (Or.inr (by omega))]
            exact ((zc_gF ok s r c).mp f).2
          · exact Or.inl f
        rw [y2 r c hr hc hlt, cell3 r c hr hc, if_neg hne]
    · rw [if_neg x]
      have hlt : nC P * r + c < i := by have := mt (ixp r c bd.1 bd.2).mp x; omega
      rintro q ⟨y', y1, y2, y3⟩
      refine h6 r c q1 hlt q ⟨y', y1, fun a d ha hd q => ?_, y3⟩
      rw [y2 a d ha hd q, cell3 a d ha hd, if_neg (fun x => ?_)]
      rcases q with q | q
      · rw [x.1, x.2] at q; exact q hFz
      · rw [← pos_lt o3 o2 hd bd.2, x.1, x.2, p3] at q
        omega
def gvQ (P : Pic) (s : Mem) (b : Bool) (o : Out) : Prop := ∃ v z, o = rI (i3 v) z ∧ fr [37, 38, 39, 40, 41, 42, 43] s z ∧
  ((v = 1 ∧ (∀ r c, r < nR P → c < nC P → z.1 37 (6 * r + c) = i3 0 ∨ z.1 37 (6 * r + c) = i3 1) ∧ grd P (zc (gFS P s)) b (g1S P z) ∧ ∀ r c, r < nR P → c < nC P → ¬ zc (gFS P s) r c → z.1 37 (6 * r + c) = s.1 37 (6 * r + c)) ∨ (v = 0 ∧ ¬ ∃ y, fitG P s y))
theorem gvEnd {P : Pic} {s z : Mem} (ok : okP P) {b : Bool} (h : gvI P s b (nR P * nC P) z) : (∀ r c, r < nR P → c < nC P → z.1 37 (6 * r + c) = i3 0 ∨ z.1 37 (6 * r + c) = i3 1) ∧ grd P (zc (gFS P s)) b (g1S P z) ∧ ∀ r c, r < nR P → c < nC P → ¬ zc (gFS P s) r c → z.1 37 (6 * r + c) = s.1 37 (6 * r + c) := by
  have o1 := ok.2.1
  have o2 := ok.2.2.2.1
  have o3 := ok.2.2.1
  obtain ⟨h1, h2, ⟨y, h3⟩, h4, h5, h6⟩ := h
  have nm : ∀ r c, r < nR P → c < nC P → ¬ z.1 37 (6 * r + c) = i3 (-1) := fun r c hr hc q => by
    by_cases f : zc (gFS P s) r c
    · exact h5 r c f (pos_in o3 o2 hr hc) q
    · rw [h4 r c hr hc (Or.inl f)] at q
      exact f ((zc_gF ok s r c).mpr ⟨⟨hr, hc⟩, q⟩)
  have hy := (fit37 ok y).mp h3
  have ey : y = g1S P z := zc_ext (fun r c => by
    rw [zc_g1 ok]
    exact ⟨fun q => by have := hy.1.1 r c q; exact ⟨this, (hy.2 r c this.1 this.2 (nm r c this.1 this.2)).mp q⟩, fun q => (hy.2 r c q.1.1 q.1.2 (nm r c q.1.1 q.1.2)).mpr q.2⟩)
  have g1 : ∀ r c, r < nR P → c < nC P → (zc (g1S P z) r c ↔ z.1 37 (6 * r + c) = i3 1) := fun r c hr hc => by
    rw [zc_g1 ok]; exact ⟨fun q => q.2, fun q => ⟨⟨hr, hc⟩, q⟩⟩
  refine ⟨fun r c hr hc => (h2 r c hr hc).resolve_left (nm r c hr hc), ⟨by rw [← ey]; exact hy.1, fun r c q1 q2 => ?_⟩, fun r c hr hc q => h4 r c hr hc (Or.inl q)⟩
  have bd := gF_board ok s r c q1
  rw [g1 r c bd.1 bd.2] at q2
  rintro ⟨y', y1, y2, y3⟩
  exact h6 r c q1 (pos_in o3 o2 bd.1 bd.2) q2 ⟨y', y1, fun a d ha hd q => (y2 a d q).trans (g1 a d ha hd), y3⟩
theorem gives_67 {P : Pic} {s z : Mem} (hm : MN s P) (ok : okP P) {b : Bool} {i : Nat} (hi : i < nR P * nC P) (h : gvI P s b i z) (hF : z.1 37 (6 * (i / nC P) + i % nC P) = i3 (-1)) (k11 : Int32 → Int32 → Mem → Out) (x2 : Int32) :
    ∃ z', f_X8_gives_67 k11 x2 (i3 i) (i3 ((6 * (i / nC P) + i % nC P : Nat) : Int)) (i3 (b2 b)) (i3 ((6 * (i / nC P) + i % nC P : Nat) : Int)) z = k11 x2 (i3 ((i + 1 : Nat) : Int)) z' ∧ gvI P s b (i + 1) z' := by
  have o1 := ok.2.1
  have o2 := ok.2.2.2.1
  have o3 := ok.2.2.1
  obtain ⟨p1, p2, p3⟩ := pos_at o3 o2 hi
  have stp := fun z1 z3 w => gvStep (z1 := z1) (z3 := z3) (w := w) ok hi h hF
  have hk : 6 * (i / nC P) + i % nC P < 36 := by
    generalize i / nC P = u at *
    generalize i % nC P = v at *
    omega
  have i36 : i < 36 := Nat.lt_of_lt_of_le hi (pos_36 o1 o2)
  have hg2 : gOK P (sI z 37 (6 * (i / nC P) + i % nC P) (i3 (b2 b))) := fun r c hr hc => by
    rw [sI_1, up2_a]
    by_cases e : 6 * r + c = 6 * (i / nC P) + i % nC P
    · rw [if_pos ⟨rfl, e⟩]; cases b
      · exact Or.inr (Or.inl rfl)
      · exact Or.inr (Or.inr rfl)
    · rw [if_neg (fun w => e w.2)]; exact h.2.1 r c hr hc
  generalize 6 * (i / nC P) + i % nC P = k at *
  have hck : ∀ K : Out, ck (inb (i3 (k : Int)) 36) K = K := fun K => ck_k (i3_in (by omega) (by decide)) K
  have e1 : ∀ x, (sI z 37 k (i3 (b2 b))).1 37 x = if x = k then i3 (b2 b) else z.1 37 x := fun x => by
    rw [sI_1, up2_a]
    by_cases e : x = k
    · rw [if_pos ⟨rfl, e⟩, if_pos e]
    · rw [if_neg (fun w => e w.2), if_neg e]
  have hm1 : MN (sI z 37 k (i3 (b2 b))) P := MN_fr hm (fr_tr h.1 (fr_sI (by simp))) (by simp)
  simp only [f_X8_gives_67, hck, clampN (show k < 2147483648 by omega), lt_k]
  obtain ⟨v, z2, w1, w2, w3⟩ := mCanFit hm1 ok hg2
  have e2 : ∀ x, z2.1 37 x = if x = k then i3 (b2 b) else z.1 37 x := fun x => by rw [fr_1 w2 (by simp), e1]
  have e3 : ∀ u x, (sI z2 37 k u).1 37 x = if x = k then u else z.1 37 x := fun u x => by
    rw [sI_1, up2_a]
    by_cases e : x = k
    · rw [if_pos ⟨rfl, e⟩, if_pos e]
    · rw [if_neg (fun w => e w.2), if_neg e, e2, if_neg e]
  have f2 : ∀ u, fr [37, 38, 39, 40, 41, 42, 43] z (sI z2 37 k u) := fun u => fr_tr (fr_sI (by simp)) (fr_tr (fr_w w2 (by simp)) (fr_sI (by simp)))
  rcases w3 with ⟨rfl, -, -, w6⟩ | ⟨rfl, w6⟩
  · have n0 : ¬ i3 1 = (0 : Int32) := by decide
    have ek : z2.1 37 k = i3 (b2 b) := by rw [e2, if_pos rfl]
    simp only [w1, cI_k, if_neg n0, hck, lt_k, inc3, ek]
    exact ⟨_, rfl, stp _ _ b (f2 _) e1 (e3 _) (Or.inl ⟨rfl, _, w6⟩)⟩
  · have n0 : i3 0 = (0 : Int32) := by decide
    have ek : (1 : Int32) - z2.1 37 k = i3 (b2 (!b)) := by rw [e2, if_pos rfl]; cases b <;> decide
    simp only [w1, cI_k, if_pos n0, hck, lt_k, inc3, ek]
    exact ⟨_, rfl, stp _ _ (!b) (f2 _) e1 (e3 _) (Or.inr ⟨rfl, w6⟩)⟩
theorem mGives {s : Mem} {P : Pic} (hm : MN s P) (ok : okP P) (hg : gOK P s) (b : Bool) {p : Nat} (hp : p ≤ nR P * nC P) (hfree : ∀ r c, zc (gFS P s) r c → p ≤ nC P * r + c) : gvQ P s b (F_X8_gives (i3 p) (i3 (b2 b)) s) := by
  have o1 := ok.2.1
  have o2 := ok.2.2.2.1
  have o3 := ok.2.2.1
  have h36 := pos_36 o1 o2
  obtain ⟨v, z, w1, w2, w3⟩ := mCanFit hm ok hg
  simp only [F_X8_gives, w1, cI_k]
  rcases w3 with ⟨rfl, -, -, w6⟩ | ⟨rfl, w6⟩
  · have n0 : ¬ i3 1 = (0 : Int32) := by decide
    rw [if_neg n0]
    have e37 : z.1 37 = s.1 37 := (w2 37 (by simp)).1
    refine loop_st (σ := Mem) (fun n i z => f_X8_gives_11 n (i3 (b2 b)) (i3 i) z) (fun i z => gvI P s b i z) (gvQ P s b) (nR P * nC P) ?_ ?_ BIG p z hp (BIG_lt (by omega)) ⟨fr_w w2 (by simp), fun r c hr hc => by rw [e37]; exact hg r c hr hc, ⟨_, (fit37 ok _).mpr (by rw [e37]; exact (fit37 ok _).mp w6)⟩, fun r c hr hc _ => by rw [e37], fun r c q1 q2 => ?_, fun r c q1 q2 => ?_⟩
    · rintro n z' h
      have hm1 := MN_fr hm h.1 (by simp)
      have er : i3 (nR P : Int) * i3 (nC P : Int) = i3 ((nR P * nC P : Nat) : Int) := i3_mul _ _
      have el : i3 ((nR P * nC P : Nat) : Int) ≤ i3 ((nR P * nC P : Nat) : Int) := le3 (by omega)
      simp only [f_X8_gives_11, rows_code hm1, cols_code hm1, cI_k, er, if_pos el]
      exact ⟨1, z', by rw [l3_1], h.1, Or.inl ⟨rfl, gvEnd ok h⟩⟩
    · rintro n i z' hi h
      left
      have hm1 := MN_fr hm h.1 (by simp)
      obtain ⟨p1, p2, p3⟩ := pos_at o3 o2 hi
      have er : i3 (nR P : Int) * i3 (nC P : Int) = i3 ((nR P * nC P : Nat) : Int) := i3_mul _ _
      have el : ¬ i3 ((nR P * nC P : Nat) : Int) ≤ i3 (i : Int) := nle3 (by omega)
      have nz0 : ¬ i3 (nC P : Int) = 0 := by rw [l3_0]; exact ne3 (by omega)
      have ckz : ∀ K : Out, ck (¬ i3 (nC P : Int) = 0) K = K := fun K => ck_k nz0 K
      have ed : i3 (i : Int) / i3 (nC P : Int) = i3 ((i / nC P : Nat) : Int) := divN (by omega) (by omega) (by omega)
      have em : remI (i3 (i : Int)) (i3 (nC P : Int)) = i3 ((i % nC P : Nat) : Int) := remM (by omega) (by omega) (by omega)
      have g67 := gives_67 hm ok hi h
      have hk : 6 * (i / nC P) + i % nC P < 36 := by
        generalize i / nC P = u at *
        generalize i % nC P = v at *
        omega
      have hv := h.2.1 _ _ p1 p2
      have at6' := at6 (i / nC P) (i % nC P)
      simp only [f_X8_gives_11, rows_code hm1, cols_code hm1, cI_k, er, if_neg el, ckz, ed, em, at6', lt_k]
      have skip : ¬ z'.1 37 (6 * (i / nC P) + i % nC P) = i3 (-1) → gvI P s b (i + 1) z' := by
        intro q
        have nF : ∀ r c, zc (gFS P s) r c → ¬ nC P * r + c = i := fun r c f e => by
          have bd := gF_board ok s r c f
          have e1 : r = i / nC P ∧ c = i % nC P := by
            have a1 := pos_lt o3 o2 (a := r) (r := i / nC P) bd.2 p2
            have a2 := pos_lt o3 o2 (a := i / nC P) (r := r) p2 bd.2
            rw [p3] at a1 a2
            generalize i / nC P = u at *
            generalize i % nC P = v at *
            omega
          have := h.2.2.2.1 r c bd.1 bd.2 (Or.inr (by omega))
          rw [((zc_gF ok s r c).mp f).2, e1.1, e1.2] at this
          exact q this
        exact ⟨h.1, h.2.1, h.2.2.1, fun r c hr hc x => h.2.2.2.1 r c hr hc (x.imp id (fun x => by omega)), fun r c x1 x2 => h.2.2.2.2.1 r c x1 (by have := nF r c x1; omega), fun r c x1 x2 => h.2.2.2.2.2 r c x1 (by have := nF r c x1; omega)⟩
      generalize 6 * (i / nC P) + i % nC P = k at *
      have hck : ∀ K : Out, ck (inb (i3 (k : Int)) 36) K = K := fun K => ck_k (i3_in (by omega) (by decide)) K
      simp only [hck, clampN (show k < 2147483648 by omega), inc3]
      rcases hv with hv | hv | hv
      · have nn : ¬ 0 ≤ z'.1 37 k := by rw [hv]; decide
        rw [if_neg nn]
        obtain ⟨z3, y1, y2⟩ := g67 hv (f_X8_gives_11 n) (i3 (b2 b))
        refine ⟨z3, y2, ?_⟩
        rw [← y1]
        cases b
        · rw [if_pos ((b20 false).mpr rfl)]; exact nr rfl
        · rw [if_neg (by decide)]; exact nr rfl
      · have nn : 0 ≤ z'.1 37 k := by rw [hv]; decide
        rw [if_pos nn]
        exact ⟨_, skip (by rw [hv]; decide), rfl⟩
      · have nn : 0 ≤ z'.1 37 k := by rw [hv]; decide
        rw [if_pos nn]
        exact ⟨_, skip (by rw [hv]; decide), rfl⟩
    · have := hfree r c q1; omega
    · have := hfree r c q1; omega
  · have n0 : i3 0 = (0 : Int32) := by decide
    rw [if_pos n0]
    exact ⟨0, z, by rw [l3_0], fr_w w2 (by simp), Or.inr ⟨rfl, w6⟩⟩
