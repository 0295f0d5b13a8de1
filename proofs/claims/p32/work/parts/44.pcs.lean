/-! pieces: their sizes, their outlines, what hangs together -/
theorem b2_split {x y : Int64} (h : ∀ r c, zc y r c → zc x r c) {r c : Nat} (hr : r < 6) (hc : c < 6) : b2 (tb x (8 * r + c)) = b2 (tb y (8 * r + c)) + b2 (tb (x &&& (y ^^^ (-1 : Int64))) (8 * r + c)) := by
  rw [tb_and, tb_not _ (show 8 * r + c < 64 by omega)]
  have hh : tb y (8 * r + c) = true → tb x (8 * r + c) = true := fun q => (h r c ⟨by omega, by omega, q⟩).2.2
  cases hy : tb y (8 * r + c)
  · cases tb x (8 * r + c) <;> rfl
  · rw [hh hy]; rfl
theorem pc_split {x y : Int64} (hx : brd x) (h : ∀ r c, zc y r c → zc x r c) : pc x = pc y + pc (x &&& (y ^^^ (-1 : Int64))) := by
  rw [pc_z2 hx, pc_z2 (brd_sub hx h), pc_z2 (brd_rem hx), ← z2_add]
  exact z2_congr (fun r c hr hc => b2_split h hr hc)
theorem outl_split {x y : Int64} (h : ∀ r c, zc y r c → zc x r c) (b : Int64) : outl x b = outl y b + outl (x &&& (y ^^^ (-1 : Int64))) b := by
  unfold outl
  rw [← z2_add]
  exact z2_congr (fun r c hr hc => by rw [b2_split h hr hc, Int.add_mul])
theorem min_ex {p : Nat → Prop} (h : ∃ n, p n) : ∃ n, p n ∧ ∀ m, m < n → ¬ p m := by
  obtain ⟨n, hn⟩ := h
  induction n using Nat.strongRecOn with
  | ind n ih =>
    by_cases q : ∃ m, m < n ∧ p m
    · obtain ⟨m, h1, h2⟩ := q
      exact ih m h1 h2
    · exact ⟨n, hn, fun m h1 h2 => q ⟨m, h1, h2⟩⟩
theorem max_ex {p : Nat → Prop} (N : Nat) (h : ∃ n, n < N ∧ p n) : ∃ n, n < N ∧ p n ∧ ∀ m, m < N → n < m → ¬ p m := by
  obtain ⟨n, h1, h2⟩ := h
  obtain ⟨k, ⟨⟨m, e1, e2, e3⟩, h4⟩⟩ := min_ex (p := fun k => ∃ m, m < N ∧ p m ∧ k = N - m) ⟨N - n, n, h1, h2, rfl⟩
  exact ⟨m, e1, e2, fun j hj hm hp => h4 (N - j) (by omega) ⟨j, hj, hp, rfl⟩⟩
theorem z2_zero : z2 (fun _ _ => 0) = 0 := by
  unfold z2
  rw [zs_congr (g := fun _ => 0) (fun r _ => zs_zero 6), zs_zero]
theorem z2_ge1 {g : Nat → Nat → Int} (h0 : ∀ r c, r < 6 → c < 6 → 0 ≤ g r c) (h1 : ∃ r c, r < 6 ∧ c < 6 ∧ 1 ≤ g r c) : 1 ≤ z2 g := by
  obtain ⟨r, c, hr, hc, hg⟩ := h1
  have := z2_lt (g := fun _ _ => 0) (h := g) h0 hr hc (by show (0 : Int) < g r c; omega)
  rw [z2_zero] at this
  omega
/-- a part of the filled cells that nothing filled hangs on has an outline of four at least -/
theorem outl_4 {x y : Int64} (hx : brd x) (hy : ∀ r c, zc y r c → zc x r c) (hcl : ∀ r c r' c', zc y r c → adj r c r' c' → zc x r' c' → zc y r' c') (h0 : ∃ r c, zc y r c) : 4 ≤ outl y x := by
  have by6 : ∀ r c, zc y r c → r < 6 ∧ c < 6 := fun r c q => zc_brd hx (hy r c q)
  have n01 : ∀ a : Bool, 0 ≤ 1 - b2 a := by decide
  have p01 : ∀ a : Bool, 0 ≤ b2 a := by decide
  have e : outl y x = z2 (fun r c => b2 (tb y (8 * r + c)) * (1 - b2 (decide (1 ≤ c) && tb x (8 * r + c - 1)))) + z2 (fun r c => b2 (tb y (8 * r + c)) * (1 - b2 (tb x (8 * r + c + 1)))) + z2 (fun r c => b2 (tb y (8 * r + c)) * (1 - b2 (decide (1 ≤ r) && tb x (8 * r + c - 8)))) + z2 (fun r c => b2 (tb y (8 * r + c)) * (1 - b2 (tb x (8 * r + c + 8)))) := by
    unfold outl
    rw [← z2_add, ← z2_add, ← z2_add]
    exact z2_congr (fun r c hr hc => by unfold osd; rw [Int.mul_add, Int.mul_add, Int.mul_add])
  obtain ⟨a0, b0, h0⟩ := h0
  have hT : ∀ {r c}, zc y r c → b2 (tb y (8 * r + c)) = 1 := fun q => by rw [q.2.2]; rfl
  obtain ⟨c1, ⟨r1, q1⟩, m1⟩ := min_ex (p := fun c => ∃ r, zc y r c) ⟨b0, a0, h0⟩
  obtain ⟨c2, -, ⟨r2, q2⟩, m2⟩ := max_ex (p := fun c => ∃ r, zc y r c) 6 ⟨b0, (by6 _ _ h0).2, a0, h0⟩
  obtain ⟨r3, ⟨c3, q3⟩, m3⟩ := min_ex (p := fun r => ∃ c, zc y r c) ⟨a0, b0, h0⟩
  obtain ⟨r4, -, ⟨c4, q4⟩, m4⟩ := max_ex (p := fun r => ∃ c, zc y r c) 6 ⟨a0, (by6 _ _ h0).1, b0, h0⟩
  have i1 := by6 _ _ q1
  have i2 := by6 _ _ q2
  have i3' := by6 _ _ q3
  have i4 := by6 _ _ q4
  have one : (1 : Int) ≤ 1 * (1 - 0) := by decide
  have s1 := z2_ge1 (g := fun r c => b2 (tb y (8 * r + c)) * (1 - b2 (decide (1 ≤ c) && tb x (8 * r + c - 1)))) (fun r c _ _ => Int.mul_nonneg (p01 _) (n01 _)) ⟨r1, c1, i1.1, i1.2, by
    have f : (decide (1 ≤ c1) && tb x (8 * r1 + c1 - 1)) = false := by
      by_cases w : 1 ≤ c1
      · refine Bool.eq_false_iff.mpr (fun v => ?_)
        simp only [decide_eq_true w, Bool.true_and] at v
        have hz : zc x r1 (c1 - 1) := ⟨by omega, by omega, by rw [show 8 * r1 + (c1 - 1) = 8 * r1 + c1 - 1 from by omega]; exact v⟩
        exact m1 (c1 - 1) (by omega) ⟨r1, hcl _ _ _ _ q1 (Or.inl ⟨rfl, Or.inr (by omega)⟩) hz⟩
      · rw [decide_eq_false w, Bool.false_and]
    show 1 ≤ b2 (tb y (8 * r1 + c1)) * (1 - b2 (decide (1 ≤ c1) && tb x (8 * r1 + c1 - 1)))
    rw [hT q1, f]; exact one⟩
  have s2 := z2_ge1 (g := fun r c => b2 (tb y (8 * r + c)) * (1 - b2 (tb x (8 * r + c + 1)))) (fun r c _ _ => Int.mul_nonneg (p01 _) (n01 _)) ⟨r2, c2, i2.1, i2.2, by
    have f : tb x (8 * r2 + c2 + 1) = false := by
      refine Bool.eq_false_iff.mpr (fun v => ?_)
      have hz : zc x r2 (c2 + 1) := ⟨by omega, by omega, v⟩
      have hy2 := hcl _ _ _ _ q2 (Or.inl ⟨rfl, Or.inl rfl⟩) hz
      exact m2 (c2 + 1) (by6 _ _ hy2).2 (by omega) ⟨r2, hy2⟩
    show 1 ≤ b2 (tb y (8 * r2 + c2)) * (1 - b2 (tb x (8 * r2 + c2 + 1)))
    rw [hT q2, f]; exact one⟩
  have s3 := z2_ge1 (g := fun r c => b2 (tb y (8 * r + c)) * (1 - b2 (decide (1 ≤ r) && tb x (8 * r + c - 8)))) (fun r c _ _ => Int.mul_nonneg (p01 _) (n01 _)) ⟨r3, c3, i3'.1, i3'.2, by
    have f : (decide (1 ≤ r3) && tb x (8 * r3 + c3 - 8)) = false := by
      by_cases w : 1 ≤ r3
      · refine Bool.eq_false_iff.mpr (fun v => ?_)
        simp only [decide_eq_true w, Bool.true_and] at v
        have hz : zc x (r3 - 1) c3 := ⟨by omega, by omega, by rw [show 8 * (r3 - 1) + c3 = 8 * r3 + c3 - 8 from by omega]; exact v⟩
        exact m3 (r3 - 1) (by omega) ⟨c3, hcl _ _ _ _ q3 (Or.inr ⟨rfl, Or.inr (by omega)⟩) hz⟩
      · rw [decide_eq_false w, Bool.false_and]
    show 1 ≤ b2 (tb y (8 * r3 + c3)) * (1 - b2 (decide (1 ≤ r3) && tb x (8 * r3 + c3 - 8)))
    rw [hT q3, f]; exact one⟩
  have s4 := z2_ge1 (g := fun r c => b2 (tb y (8 * r + c)) * (1 - b2 (tb x (8 * r + c + 8)))) (fun r c _ _ => Int.mul_nonneg (p01 _) (n01 _)) ⟨r4, c4, i4.1, i4.2, by
    have f : tb x (8 * r4 + c4 + 8) = false := by
      refine Bool.eq_false_iff.mpr (fun v => ?_)
      have hz : zc x (r4 + 1) c4 := ⟨by omega, by omega, by rw [show 8 * (r4 + 1) + c4 = 8 * r4 + c4 + 8 from by omega]; exact v⟩
      have hy2 := hcl _ _ _ _ q4 (Or.inr ⟨rfl, Or.inl rfl⟩) hz
      exact m4 (r4 + 1) (by6 _ _ hy2).1 (by omega) ⟨c4, hy2⟩
    show 1 ≤ b2 (tb y (8 * r4 + c4)) * (1 - b2 (tb x (8 * r4 + c4 + 8)))
    rw [hT q4, f]; exact one⟩
  omega
/-! rows and columns that a set has cells in -/
noncomputable def rws (y : Int64) : Int := zs 6 (fun r => ib (∃ c, zc y r c))
noncomputable def cls (y : Int64) : Int := zs 6 (fun c => ib (∃ r, zc y r c))
theorem ib_01 (p : Prop) : 0 ≤ ib p ∧ ib p ≤ 1 := by
  by_cases h : p
  · rw [ib_t h]; decide
  · rw [ib_f h]; decide
theorem ib_iff {p q : Prop} (h : p ↔ q) : ib p = ib q := by rw [propext h]
theorem zc_orb {Z : Int64} {r c : Nat} (hr : r < 6) (hc : c < 6) (a b : Nat) : zc (Z ||| bv (8 * r + c)) a b ↔ zc Z a b ∨ (a = r ∧ b = c) := by
  rw [zc_or, zc_bv (show 8 * r + c < 64 by omega)]
  exact ⟨fun q => q.elim Or.inl (fun w => Or.inr (by omega)), fun q => q.elim Or.inl (fun w => Or.inr (by omega))⟩
theorem brd_orb {Z : Int64} (hZ : brd Z) {r c : Nat} (hr : r < 6) (hc : c < 6) : brd (Z ||| bv (8 * r + c)) := (brd_iff _).mpr (fun a b q => by
  rcases (zc_orb hr hc a b).mp q with w | w
  · exact zc_brd hZ w
  · omega)
theorem pc_orb {Z : Int64} (hZ : brd Z) {r c : Nat} (hr : r < 6) (hc : c < 6) (h : ¬ zc Z r c) : pc (Z ||| bv (8 * r + c)) = pc Z + 1 := by
  rw [pc_rows (brd_orb hZ hr hc), pc_rows hZ, zs_congr (g := fun a => rct Z a + if a = r then 1 else 0) (fun a _ => rct_or hr hc h), zs_add, zs_one hr]
theorem rws_orb {Z : Int64} {r c : Nat} (hr : r < 6) (hc : c < 6) : rws (Z ||| bv (8 * r + c)) = rws Z + (1 - ib (∃ b, zc Z r b)) := by
  unfold rws
  rw [← zs_one hr (1 - ib (∃ b, zc Z r b)), ← zs_add]
  refine zs_congr (fun a _ => ?_)
  by_cases e : a = r
  · subst e
    rw [if_pos rfl, ib_t ⟨c, (zc_orb hr hc a c).mpr (Or.inr ⟨rfl, rfl⟩)⟩]; omega
  · rw [if_neg e, Int.add_zero]
    refine ib_iff ⟨fun ⟨b, q⟩ => ?_, fun ⟨b, q⟩ => ⟨b, (zc_orb hr hc a b).mpr (Or.inl q)⟩⟩
    rcases (zc_orb hr hc a b).mp q with w | w
    · exact ⟨b, w⟩
    · exact absurd w.1 e
theorem cls_orb {Z : Int64} {r c : Nat} (hr : r < 6) (hc : c < 6) : cls (Z ||| bv (8 * r + c)) = cls Z + (1 - ib (∃ a, zc Z a c)) := by
  unfold cls
  rw [← zs_one hc (1 - ib (∃ a, zc Z a c)), ← zs_add]
  refine zs_congr (fun b _ => ?_)
  by_cases e : b = c
  · subst e
    rw [if_pos rfl, ib_t ⟨r, (zc_orb hr hc r b).mpr (Or.inr ⟨rfl, rfl⟩)⟩]; omega
  · rw [if_neg e, Int.add_zero]
    refine ib_iff ⟨fun ⟨a, q⟩ => ?_, fun ⟨a, q⟩ => ⟨a, (zc_orb hr hc a b).mpr (Or.inl q)⟩⟩
    rcases (zc_orb hr hc a b).mp q with w | w
    · exact ⟨a, w⟩
    · exact absurd w.2 e
/-- cells that hang together have no more rows and columns than cells and one -/
theorem conn {x T : Int64} (hx : brd x) (hT : ∀ r c, zc T r c ↔ cmp (zc x) r c) {r0 c0 : Nat} (hF : isF (zc x) r0 c0) : rws T + cls T ≤ pc T + 1 := by
  have bT : brd T := brd_sub hx (fun r c q => cmp_in ((hT r c).mp q))
  have i0 := zc_brd hx hF.1
  have key : ∀ (k : Nat) (Z : Int64), (∀ r c, zc Z r c → zc T r c) → zc Z r0 c0 → rws Z + cls Z ≤ pc Z + 1 → pc T - pc Z ≤ k → rws T + cls T ≤ pc T + 1 := by
    intro k
    induction k with
    | zero =>
      intro Z h1 h2 h3 h4
      by_cases e : T = Z
      · rw [e]; exact h3
      · have := pc_sub_eq h1 e
        omega
    | succ k ih =>
      intro Z h1 h2 h3 h4
      by_cases e : T = Z
      · rw [e]; exact h3
      · have hlt := pc_sub_eq h1 e
        have hex : ∃ r c r' c', zc Z r c ∧ adj r c r' c' ∧ zc T r' c' ∧ ¬ zc Z r' c' := by
          refine Classical.byContradiction (fun no => e (zc_ext (fun r c => ⟨fun q => ?_, h1 r c⟩)))
          refine (hT r c).mp q (fun r c => zc Z r c) (fun a b w => ?_) (fun a b a' b' w1 w2 w3 => ?_)
          · obtain ⟨e1, e2⟩ := isF_uni w hF
            rw [e1, e2]; exact h2
          · refine Classical.byContradiction (fun w4 => no ⟨a, b, a', b', w1, w2, ?_, w4⟩)
            exact (hT a' b').mpr (cmp_adj ((hT a b).mp (h1 a b w1)) w2 w3)
        obtain ⟨r, c, r', c', g1, g2, g3, g4⟩ := hex
        have i1 := zc_brd bT g3
        have bZ : brd Z := brd_sub bT h1
        refine ih (Z ||| bv (8 * r' + c')) (fun a b q => ?_) ((zc_orb i1.1 i1.2 _ _).mpr (Or.inl h2)) ?_ ?_
        · rcases (zc_orb i1.1 i1.2 a b).mp q with w | w
          · exact h1 a b w
          · rw [w.1, w.2]; exact g3
        · rw [rws_orb i1.1 i1.2, cls_orb i1.1 i1.2, pc_orb bZ i1.1 i1.2 g4]
          have a1 := ib_01 (∃ b, zc Z r' b)
          have a2 := ib_01 (∃ a, zc Z a c')
          rcases g2 with ⟨e1, -⟩ | ⟨e1, -⟩
          · have : ib (∃ b, zc Z r' b) = 1 := ib_t ⟨c, e1 ▸ g1⟩
            omega
          · have : ib (∃ a, zc Z a c') = 1 := ib_t ⟨r, e1 ▸ g1⟩
            omega
        · rw [pc_orb bZ i1.1 i1.2 g4]; omega
  have b0 : brd (0 : Int64) := brd_0
  have z0 : ∀ a b, ¬ zc 0 a b := zc_0
  have pT := pc_le T
  refine key (pc T).toNat (0 ||| bv (8 * r0 + c0)) (fun a b q => ?_) ((zc_orb i0.1 i0.2 _ _).mpr (Or.inr ⟨rfl, rfl⟩)) ?_ ?_
  · rcases (zc_orb i0.1 i0.2 a b).mp q with w | w
    · exact absurd w (z0 a b)
    · rw [w.1, w.2]; exact (hT r0 c0).mpr (cmp_F hF)
  · rw [rws_orb i0.1 i0.2, cls_orb i0.1 i0.2, pc_orb b0 i0.1 i0.2 (z0 _ _)]
    have r0' : rws 0 = 0 := by
      unfold rws
      rw [zs_congr (g := fun _ => 0) (fun r _ => ib_f (fun ⟨c, q⟩ => z0 r c q)), zs_zero]
    have c0' : cls 0 = 0 := by
      unfold cls
      rw [zs_congr (g := fun _ => 0) (fun c _ => ib_f (fun ⟨r, q⟩ => z0 r c q)), zs_zero]
    have p0 : pc 0 = 0 := by decide
    have a1 := ib_01 (∃ b, zc 0 r0 b)
    have a2 := ib_01 (∃ a, zc 0 a c0)
    have a3 : ib (∃ b, zc 0 r0 b) = 0 := ib_f (fun ⟨b, q⟩ => z0 _ _ q)
    have a4 : ib (∃ a, zc 0 a c0) = 0 := ib_f (fun ⟨b, q⟩ => z0 _ _ q)
    omega
  · have := pc_nn (0 ||| bv (8 * r0 + c0)); have := pc_nn T; omega
theorem one_row {y : Int64} (hy : brd y) {r c : Nat} (h : zc y r c) : 1 ≤ rws y ∧ 1 ≤ cls y := by
  have i := zc_brd hy h
  have a := zs_lt (n := 6) (f := fun _ => 0) (g := fun r => ib (∃ c, zc y r c)) (fun a _ => (ib_01 _).1) r i.1 (by show (0 : Int) < ib (∃ c, zc y r c); rw [ib_t ⟨c, h⟩]; decide)
  have b := zs_lt (n := 6) (f := fun _ => 0) (g := fun c => ib (∃ r, zc y r c)) (fun a _ => (ib_01 _).1) c i.2 (by show (0 : Int) < ib (∃ r, zc y r c); rw [ib_t ⟨r, h⟩]; decide)
  rw [zs_zero] at a b
  unfold rws cls
  omega
/-! the pieces of a set, one by one -/
noncomputable def yq (x : Int64) (p : Nat) : Int64 := @Classical.epsilon Int64 ⟨0⟩ (fun y => ∀ r c, zc y r c ↔ cmp (rs (zc x) p) r c)
theorem yq_spec {x : Int64} (hx : brd x) {p : Nat} (hp : p < 48) (r c : Nat) : zc (yq x p) r c ↔ cmp (rs (zc x) p) r c := by
  obtain ⟨y, -, h⟩ := pieceNumbered_code hx mz hp
  exact @Classical.epsilon_spec_aux Int64 ⟨0⟩ (fun y => ∀ r c, zc y r c ↔ cmp (rs (zc x) p) r c) ⟨y, h⟩ r c
theorem yq_eq {x : Int64} (hx : brd x) {p : Nat} (hp : p < 48) {y : Int64} (h : ∀ r c, zc y r c ↔ cmp (rs (zc x) p) r c) : y = yq x p := zc_ext (fun r c => (h r c).trans (yq_spec hx hp r c).symm)
noncomputable def zq (x : Int64) : Nat → Int64
  | 0 => x
  | p + 1 => zq x p &&& (yq x p ^^^ (-1 : Int64))
theorem zq_rs {x : Int64} (hx : brd x) : ∀ {p : Nat}, p ≤ 48 → zc (zq x p) = rs (zc x) p
  | 0, _ => rfl
  | p + 1, hp => by
    have ih := zq_rs hx (p := p) (by omega)
    show zc (zq x p &&& (yq x p ^^^ (-1 : Int64))) = _
    exact rs_step ih (fun r c => by rw [ih]; exact yq_spec hx (by omega) r c)
theorem zq_brd {x : Int64} (hx : brd x) {p : Nat} (hp : p ≤ 48) : brd (zq x p) := brd_sub hx (fun r c q => by rw [zq_rs hx hp] at q; exact rs_in q)
theorem yq_in {x : Int64} (hx : brd x) {p : Nat} (hp : p < 48) (r c : Nat) (h : zc (yq x p) r c) : zc (zq x p) r c := by
  rw [zq_rs hx (by omega)]; exact cmp_in ((yq_spec hx hp r c).mp h)
theorem pcs_sum {x : Int64} (hx : brd x) : ∀ {p : Nat}, p ≤ 48 → zs p (fun q => pc (yq x q)) + pc (zq x p) = pc x ∧ zs p (fun q => outl (yq x q) x) + outl (zq x p) x = outl x x
  | 0, _ => ⟨by rw [zs_0, Int.zero_add]; rfl, by rw [zs_0, Int.zero_add]; rfl⟩
  | p + 1, hp => by
    obtain ⟨a, b⟩ := pcs_sum hx (p := p) (by omega)
    have c := pc_split (zq_brd hx (p := p) (by omega)) (yq_in hx (p := p) (by omega))
    have d := outl_split (yq_in hx (p := p) (by omega)) x
    rw [zs_s, zs_s]
    have e : zq x (p + 1) = zq x p &&& (yq x p ^^^ (-1 : Int64)) := rfl
    rw [← e] at c d
    constructor <;> omega
theorem pcs_all {x : Int64} (hx : brd x) {n : Nat} (hn : npc (zc x) n) (h36 : n ≤ 36) : zs n (fun q => pc (yq x q)) = pc x ∧ zs n (fun q => outl (yq x q) x) = outl x x := by
  obtain ⟨a, b⟩ := pcs_sum hx (p := n) (by omega)
  have z : zq x n = 0 := zc_eq_zero.mpr (fun r c q => by rw [zq_rs hx (by omega)] at q; exact hn.1 r c q)
  rw [z] at a b
  have p0 : pc 0 = 0 := by decide
  have o0 : outl 0 x = 0 := by
    unfold outl
    rw [z2_congr (h := fun _ _ => 0) (fun r c _ _ => by rw [tb_0]; exact Int.zero_mul _), z2_zero]
  omega
/-- a cell is in its piece, or still there -/
theorem rs_or {S : CS} {r c : Nat} (h : S r c) : ∀ m : Nat, rs S m r c ∨ ∃ k, k < m ∧ cmp (rs S k) r c
  | 0 => Or.inl h
  | m + 1 => by
    rcases rs_or h m with a | ⟨k, a, b⟩
    · by_cases q : cmp (rs S m) r c
      · exact Or.inr ⟨m, by omega, q⟩
      · exact Or.inl ⟨a, q⟩
    · exact Or.inr ⟨k, by omega, b⟩
theorem adj_sym {r c r' c' : Nat} (h : adj r c r' c') : adj r' c' r c := by unfold adj at *; omega
/-- cells beside each other are of one piece -/
theorem cmp_nb {S : CS} {m : Nat} {r c r' c' : Nat} (h : cmp (rs S m) r c) (ha : adj r c r' c') (hS : S r' c') : cmp (rs S m) r' c' := by
  rcases rs_or hS m with a | ⟨k, a, b⟩
  · exact cmp_adj h ha a
  · have h1 : rs S k r c := rs_mono (Nat.le_of_lt a) (cmp_in h)
    have h2 := cmp_adj b (adj_sym ha) h1
    exact absurd (cmp_uni h h2) (by omega)
theorem isPc_lt {S : CS} {n : Nat} (hn : npc S n) {m r c : Nat} (h : cmp (rs S m) r c) : m < n := by
  refine Classical.byContradiction (fun q => hn.1 r c ?_)
  exact rs_mono (by omega) (cmp_in h)
theorem isPc_nb {S : CS} {r c r' c' : Nat} {v v' : Int} (h : isPc S r c v) (h' : isPc S r' c' v') (hs : S r c) (hs' : S r' c') (ha : adj r c r' c') : v' = v := by
  rcases h with ⟨-, m, -, a, rfl⟩ | ⟨a, -⟩
  · rcases h' with ⟨-, m', -, a', rfl⟩ | ⟨a', -⟩
    · have := cmp_uni a' (cmp_nb a ha hs')
      omega
    · exact absurd hs' a'
  · exact absurd hs a
/-- the first cells come in the pieces' order -/
theorem first_up {S : CS} {p : Nat} {r c r' c' : Nat} (h : isF (rs S p) r c) (h' : isF (rs S (p + 1)) r' c') : r < r' ∨ (r = r' ∧ c < c') := by
  have a := h.2 r' c' h'.1.1
  rcases a with a | ⟨a, b⟩
  · exact Or.inl a
  · refine Or.inr ⟨a, Nat.lt_of_le_of_ne b (fun e => ?_)⟩
    subst a; subst e
    exact h'.1.2 (cmp_F h)
/-- what the law asks of one piece -/
theorem pc_one {x : Int64} (hx : brd x) {n p : Nat} (hn : npc (zc x) n) (hp : p < n) (h36 : n ≤ 36) : ∃ r c, isF (rs (zc x) p) r c ∧ r < 6 ∧ c < 6 ∧ isF (zc (yq x p)) r c ∧
    rws (yq x p) + cls (yq x p) ≤ pc (yq x p) + 1 ∧ 1 ≤ rws (yq x p) ∧ 1 ≤ cls (yq x p) ∧ 4 ≤ outl (yq x p) x := by
  have hz := zq_rs hx (p := p) (by omega)
  have hb := zq_brd hx (p := p) (by omega)
  have hy := yq_spec hx (p := p) (by omega)
  obtain ⟨a, b, hab⟩ := hn.2 p hp
  have h0 : ¬ zq x p = 0 := fun e => zc_0 a b (by rw [← hz, e] at hab; exact hab)
  obtain ⟨r, c, hF⟩ := first_ex h0
  have i := zc_brd hb hF.1
  have hF' := hF
  rw [hz] at hF'
  have hy0 : zc (yq x p) r c := (hy r c).mpr (cmp_F hF')
  have hy' : ∀ r c, zc (yq x p) r c ↔ cmp (zc (zq x p)) r c := fun r c => by rw [hz]; exact hy r c
  have bY : brd (yq x p) := brd_sub hb (yq_in hx (by omega))
  refine ⟨r, c, hF', i.1, i.2, ⟨hy0, fun a b q => hF'.2 a b (cmp_in ((hy a b).mp q))⟩, conn hb hy' hF, (one_row bY hy0).1, (one_row bY hy0).2, ?_⟩
  exact outl_4 hx (fun r c q => rs_in (cmp_in ((hy r c).mp q))) (fun r c r' c' q1 q2 q3 => (hy r' c').mpr (cmp_nb ((hy r c).mp q1) q2 q3)) ⟨r, c, hy0⟩
