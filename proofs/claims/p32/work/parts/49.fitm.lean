/-! fitting pictures: their order, all of them -/
def ltF (P : Pic) (x y : Int64) : Prop := ∃ r c, chg P r c ∧ ¬ zc x r c ∧ zc y r c ∧ agB P x r c y
theorem zc_c8 {x : Int64} {r c : Nat} (h : zc x r c) : c < 8 := h.2.1
section LT
variable {P : Pic}
theorem chg_8 (ok : okP P) {r c : Nat} (h : chg P r c) : r < 6 ∧ c < 6 := by
  have o1 := ok.2.1
  have o2 := ok.2.2.2.1
  have := h.1
  omega
theorem lt_irr {x : Int64} (h : ltF P x x) : False := by
  obtain ⟨r, c, -, h2, h3, -⟩ := h
  exact h2 h3
theorem lt_trans (ok : okP P) {x y z : Int64} (h : ltF P x y) (h' : ltF P y z) : ltF P x z := by
  obtain ⟨r, c, a1, a2, a3, a4⟩ := h
  obtain ⟨r', c', b1, b2, b3, b4⟩ := h'
  have i1 := chg_8 ok a1
  have i2 := chg_8 ok b1
  by_cases q : 8 * r + c < 8 * r' + c'
  · refine ⟨r, c, a1, a2, (b4 r c (by omega) (Or.inr q)).mpr a3, fun a d hd w => ?_⟩
    refine (b4 a d hd ?_).trans (a4 a d hd w)
    rcases w with w | w
    · exact Or.inl w
    · exact Or.inr (by omega)
  · by_cases q2 : 8 * r' + c' < 8 * r + c
    · refine ⟨r', c', b1, fun w => b2 ((a4 r' c' (by omega) (Or.inr q2)).mpr w), b3, fun a d hd w => ?_⟩
      refine (b4 a d hd w).trans (a4 a d hd ?_)
      rcases w with w | w
      · exact Or.inl w
      · exact Or.inr (by omega)
    · have e1 : r = r' := by omega
      have e2 : c = c' := by omega
      subst e1; subst e2
      exact absurd a3 b2
theorem lt_tri {X x y : Int64} (hx : fitP P X x) (hy : fitP P X y) : y = x ∨ ltF P x y ∨ ltF P y x := by
  by_cases e : y = x
  · exact Or.inl e
  · have hex : ∃ n, ∃ a d, d < 8 ∧ n = 8 * a + d ∧ ¬ (zc y a d ↔ zc x a d) := by
      refine Classical.byContradiction (fun no => e (zc_ext (fun r c => ?_)))
      by_cases hc : c < 8
      · exact Classical.byContradiction (fun w => no ⟨_, r, c, hc, rfl, w⟩)
      · exact ⟨fun w => absurd (zc_c8 w) hc, fun w => absurd (zc_c8 w) hc⟩
    obtain ⟨n, ⟨a, d, hd, rfl, hne⟩, hmin⟩ := min_ex hex
    have pin : ∀ r c, zc (fP P) r c → (zc y r c ↔ zc x r c) := fun r c w => (hy.2 r c w).trans (hx.2 r c w).symm
    have bef : ∀ r c, c < 8 → (zc (fP P) r c ∨ 8 * r + c < 8 * a + d) → (zc y r c ↔ zc x r c) := fun r c hc w => by
      rcases w with w | w
      · exact pin r c w
      · exact Classical.byContradiction (fun v => hmin _ w ⟨r, c, hc, rfl, v⟩)
    have hch : (zc x a d ∨ zc y a d) → chg P a d := fun w => ⟨w.elim (hx.1.1 a d) (hy.1.1 a d), fun v => hne (pin a d v)⟩
    by_cases hz : zc x a d
    · have hy0 : ¬ zc y a d := fun w => hne ⟨fun _ => hz, fun _ => w⟩
      exact Or.inr (Or.inr ⟨a, d, hch (Or.inl hz), hy0, hz, fun r c hc w => (bef r c hc w).symm⟩)
    · have hy0 : zc y a d := Classical.byContradiction (fun w => hne ⟨fun v => absurd v w, fun v => absurd v hz⟩)
      exact Or.inr (Or.inl ⟨a, d, hch (Or.inr hy0), hz, hy0, bef⟩)
theorem nxt_lt {x G : Int64} (h : nxt P x G) : ltF P x G := by
  obtain ⟨r, c, h1, h2, h3, h4, -⟩ := h
  exact ⟨r, c, h1, h2, h4, h3⟩
theorem nno_lt {x y : Int64} (h : nno P x) (hy : fitC P y) : ¬ ltF P x y := fun ⟨r, c, h1, h2, h3, h4⟩ => h r c h1 h2 ⟨y, hy, h4, h3⟩
/-- outside of what may change, fitting pictures are the same -/
theorem out_eq {X x y : Int64} (hx : fitP P X x) (hy : fitP P X y) {a d : Nat} (h : ¬ chg P a d) : zc y a d ↔ zc x a d := by
  by_cases q : a < nR P ∧ d < nC P
  · have : zc (fP P) a d := Classical.byContradiction (fun w => h ⟨q, w⟩)
    exact (hy.2 a d this).trans (hx.2 a d this).symm
  · exact ⟨fun w => absurd (hy.1.1 a d w) q, fun w => absurd (hx.1.1 a d w) q⟩
theorem bef_eq {x y : Int64} {r c a d : Nat} (h : agB P x r c y) (hb : 8 * a + d < 8 * r + c) : zc y a d ↔ zc x a d := by
  by_cases hd : d < 8
  · exact h a d hd (Or.inr hb)
  · exact ⟨fun w => absurd (zc_c8 w) hd, fun w => absurd (zc_c8 w) hd⟩
theorem first_least {X G y : Int64} (h : isFst P X false G) (hy : fitP P X y) : y = G ∨ ltF P G y := by
  rcases lt_tri (isFst_fit h) hy with e | e | ⟨r, c, a1, a2, a3, a4⟩
  · exact Or.inl e
  · exact Or.inr e
  · exfalso
    refine h.1.2 r c a1 (fun w => Bool.false_ne_true (w.mp a3)) ⟨y, hy.1, fun a d w => ?_, ⟨fun w => absurd w a2, fun w => absurd w Bool.false_ne_true⟩⟩
    rcases w with w | w
    · exact out_eq (isFst_fit h) hy w
    · exact (bef_eq a4 w).symm
theorem last_most {X G y : Int64} (h : isFst P X true G) (hy : fitP P X y) : ¬ ltF P G y := by
  rintro ⟨r, c, a1, a2, a3, a4⟩
  refine h.1.2 r c a1 (fun w => a2 (w.mpr rfl)) ⟨y, hy.1, fun a d w => ?_, ⟨fun _ => rfl, fun _ => a3⟩⟩
  rcases w with w | w
  · exact out_eq (isFst_fit h) hy w
  · exact bef_eq a4 w
theorem next_least (ok : okP P) {X x G y : Int64} (hx : ∀ r c, zc (fP P) r c → (zc x r c ↔ zc X r c)) (h : nxt P x G) (hy : fitP P X y) (hl : ltF P x y) : y = G ∨ ltF P G y := by
  have hG : fitP P X G := nxt_fit h hx
  rcases lt_tri hG hy with e | e | ⟨r', c', b1, b2, b3, b4⟩
  · exact Or.inl e
  · exact Or.inr e
  · exfalso
    obtain ⟨r, c, h1, h2, h3, h4, h5, h6⟩ := h
    obtain ⟨a, d, a1, a2, a3, a4⟩ := hl
    have i1 := chg_8 ok h1
    have i2 := chg_8 ok b1
    have i3' := chg_8 ok a1
    have hle : ¬ 8 * r + c < 8 * a + d := fun w => h6 a d a1 a2 w ⟨y, hy.1, a4, a3⟩
    by_cases q : 8 * a + d < 8 * r + c
    · have hGa : ¬ zc G a d := fun w => a2 ((h3 a d (by omega) (Or.inr q)).mp w)
      have n1 : ¬ 8 * a + d < 8 * r' + c' := fun w => hGa ((b4 a d (by omega) (Or.inr w)).mpr a3)
      have n2 : ¬ (r' = a ∧ c' = d) := fun w => b2 (by rw [w.1, w.2]; exact a3)
      have n3 : 8 * r' + c' < 8 * a + d := by omega
      have x1 := h3 r' c' (by omega) (Or.inr (by omega))
      have x2 := a4 r' c' (by omega) (Or.inr n3)
      exact b2 (x2.mpr (x1.mp b3))
    · have e1 : a = r := by omega
      have e2 : d = c := by omega
      subst e1; subst e2
      have n1 : ¬ 8 * r' + c' < 8 * a + d := fun w => b2 ((a4 r' c' (by omega) (Or.inr w)).mpr ((h3 r' c' (by omega) (Or.inr w)).mp b3))
      have n2 : ¬ (r' = a ∧ c' = d) := fun w => b2 (by rw [w.1, w.2]; exact a3)
      have n3 : 8 * a + d < 8 * r' + c' := by omega
      refine h5.2 r' c' ⟨b1, n3⟩ (fun w => Bool.false_ne_true (w.mp b3)) ⟨y, hy.1, fun p q w => ?_, ⟨fun w => absurd w b2, fun w => absurd w Bool.false_ne_true⟩⟩
      rcases w with w | w
      · by_cases v : chg P p q
        · have : ¬ 8 * a + d < 8 * p + q := fun u => w ⟨v, u⟩
          exact (bef_eq b4 (by omega)).symm
        · exact out_eq hG hy v
      · exact (bef_eq b4 w).symm
/-! the row of all fitting pictures -/
theorem sqn_lt (ok : okP P) {i j : Nat} {G G' : Int64} (h : sqn P i G) (h' : sqn P j G') (hij : i < j) : ltF P G G' := by
  induction j generalizing G' with
  | zero => omega
  | succ j ih =>
    obtain ⟨H, h1, h2⟩ := h'
    by_cases e : i = j
    · subst e
      rw [sqn_uni ok h h1]
      exact nxt_lt h2
    · exact lt_trans ok (ih h1 (by omega)) (nxt_lt h2)
theorem sqn_cover (ok : okP P) {y : Int64} (hy : fitP P (fX P) y) : ∀ {n : Nat} {G : Int64}, sqn P n G → (∃ k, k ≤ n ∧ sqn P k y) ∨ ltF P G y
  | 0, G, h => by
    rcases first_least h hy with e | e
    · exact Or.inl ⟨0, Nat.le_refl _, by rw [e]; exact h⟩
    · exact Or.inr e
  | n + 1, G, h => by
    obtain ⟨H, h1, h2⟩ := h
    rcases sqn_cover ok hy h1 with ⟨k, k1, k2⟩ | e
    · exact Or.inl ⟨k, by omega, k2⟩
    · rcases next_least ok (sqn_fit h1).2 h2 hy e with w | w
      · exact Or.inl ⟨n + 1, Nat.le_refl _, by rw [w]; exact ⟨H, h1, h2⟩⟩
      · exact Or.inr w
def memP (P : Pic) : Mem := (fun a b => if a = 2 ∧ b = 0 then i3 (nR P) else if a = 2 ∧ b = 1 then i3 (nC P) else 0, fun a b => if a = 2 ∧ b = 2 then fX P else if a = 2 ∧ b = 3 then fP P else if a = 2 ∧ b = 4 then wU P else if a = 2 ∧ b = 5 then wV P else 0, fun _ _ => 0)
theorem memP_CP (P : Pic) : CP (memP P) 2 P := ⟨rfl, rfl, rfl, rfl, rfl, rfl⟩
theorem fst_or (ok : okP P) (b : Bool) : (∃ G, isFst P (fX P) b G) ∨ ¬ ∃ y, fitP P (fX P) y := by
  rcases findOutermost_code ok (memP_CP P) (by simp) b with ⟨μ, -, -, h⟩ | ⟨μ, -, -, h⟩
  · exact Or.inl ⟨_, h⟩
  · exact Or.inr h
theorem nxt_or (ok : okP P) {x : Int64} (hx : ∀ r c, zc x r c → r < nR P ∧ c < nC P) : (∃ G, nxt P x G) ∨ nno P x := by
  rcases findBehind_code (okX ok hx) (memP_CP (mkX P x)) (by simp) with ⟨μ, -, -, h⟩ | ⟨μ, -, -, h⟩
  · exact Or.inl ⟨_, h⟩
  · exact Or.inr h
/-- all fitting pictures are told, where they are fewer than a hundred -/
theorem all_told (ok : okP P) {m : Nat} (hm : cntF P m) (h100 : m < 100) {y : Int64} (hy : fitP P (fX P) y) : ∃ k, k < m ∧ y = gq P k := by
  have hno := hm.2.2 h100
  cases m with
  | zero =>
    rcases fst_or ok false with ⟨G, h⟩ | h
    · exact absurd ⟨G, h⟩ hno
    · exact absurd ⟨y, hy⟩ h
  | succ n =>
    obtain ⟨G, hG⟩ := hm.2.1 n (by omega)
    rcases sqn_cover ok hy hG with ⟨k, k1, k2⟩ | e
    · exact ⟨k, by omega, (gq_eq ok k2).symm⟩
    · rcases nxt_or ok (fit_in (sqn_fit hG)) with ⟨G', h⟩ | h
      · exact absurd ⟨G', G, hG, h⟩ hno
      · exact absurd e (nno_lt h hy.1)
theorem gq_s {m n : Nat} (h : cntF P m) (hn : n < m) : sqn P n (gq P n) := gq_spec (h.2.1 n hn)
theorem gq_f {m n : Nat} (h : cntF P m) (hn : n < m) : fitP P (fX P) (gq P n) := sqn_fit (gq_s h hn)
theorem gq_inj (ok : okP P) {m i j : Nat} (h : cntF P m) (hi : i < m) (hj : j < m) (e : gq P i = gq P j) : i = j := by
  by_cases q : i < j
  · have := sqn_lt ok (gq_s h hi) (gq_s h hj) q
    rw [e] at this
    exact absurd this (fun w => lt_irr w)
  · by_cases q2 : j < i
    · have := sqn_lt ok (gq_s h hj) (gq_s h hi) q2
      rw [e] at this
      exact absurd this (fun w => lt_irr w)
    · omega
/-- the last one -/
theorem last_told (ok : okP P) {m : Nat} (hm : cntF P (m + 1)) (h100 : m + 1 < 100) {G : Int64} (hG : isFst P (fX P) true G) : G = gq P m := by
  obtain ⟨k, hk, e⟩ := all_told ok hm h100 (isFst_fit hG)
  by_cases q : k < m
  · have := sqn_lt ok (gq_s hm (show k < m + 1 by omega)) (gq_s hm (show m < m + 1 by omega)) q
    rw [← e] at this
    exact absurd this (last_most hG (gq_f hm (by omega)))
  · rw [e, show k = m from by omega]
theorem none_0 (ok : okP P) {m : Nat} (hm : cntF P m) : (m = 0) ↔ ¬ ∃ y, fitP P (fX P) y := by
  constructor
  · rintro rfl ⟨y, hy⟩
    obtain ⟨k, hk, -⟩ := all_told ok hm (by omega) hy
    omega
  · intro h
    refine Classical.byContradiction (fun w => h ⟨gq P 0, gq_f hm (by omega)⟩)
/-! what the law adds up over them -/
noncomputable def allq (P : Pic) : Nat → Int64
  | 0 => -1
  | k + 1 => allq P k &&& V (gq P k)
noncomputable def someq (P : Pic) : Nat → Int64
  | 0 => 0
  | k + 1 => someq P k ||| V (gq P k)
noncomputable def nrq (P : Pic) : Nat → Int
  | 0 => 36
  | k + 1 => if nrq P k ≤ pc (gq P k ^^^ fX P) then nrq P k else pc (gq P k ^^^ fX P)
theorem tb_allq (m : Nat) {i : Nat} (hi : i < 64) : tb (allq P m) i = true ↔ ∀ k, k < m → tb (V (gq P k)) i = true := by
  induction m with
  | zero =>
    show tb (-1) i = true ↔ _
    rw [tb_m1, decide_eq_true hi]
    exact ⟨fun _ k hk => absurd hk (Nat.not_lt_zero k), fun _ => rfl⟩
  | succ m ih =>
    show tb (allq P m &&& V (gq P m)) i = true ↔ _
    rw [tb_and, Bool.and_eq_true, ih]
    constructor
    · rintro ⟨a, b⟩ k hk
      by_cases e : k = m
      · rw [e]; exact b
      · exact a k (by omega)
    · intro h
      exact ⟨fun k hk => h k (by omega), h m (by omega)⟩
theorem tb_someq (m : Nat) (i : Nat) : tb (someq P m) i = true ↔ ∃ k, k < m ∧ tb (V (gq P k)) i = true := by
  induction m with
  | zero =>
    show tb 0 i = true ↔ _
    rw [tb_0]
    exact ⟨fun h => Bool.noConfusion h, fun ⟨k, hk, _⟩ => absurd hk (Nat.not_lt_zero k)⟩
  | succ m ih =>
    show tb (someq P m ||| V (gq P m)) i = true ↔ _
    rw [tb_or, Bool.or_eq_true, ih]
    constructor
    · rintro (⟨k, a, b⟩ | b)
      · exact ⟨k, by omega, b⟩
      · exact ⟨m, by omega, b⟩
    · rintro ⟨k, a, b⟩
      by_cases e : k = m
      · rw [e] at b; exact Or.inr b
      · exact Or.inl ⟨k, by omega, b⟩
theorem nrq_le : ∀ m, nrq P m ≤ 36 ∧ (∀ k, k < m → nrq P m ≤ pc (gq P k ^^^ fX P)) ∧ (nrq P m = 36 ∨ ∃ k, k < m ∧ nrq P m = pc (gq P k ^^^ fX P))
  | 0 => ⟨Int.le_refl _, fun k hk => absurd hk (Nat.not_lt_zero k), Or.inl rfl⟩
  | m + 1 => by
    obtain ⟨a, b, c⟩ := nrq_le m
    have e : nrq P (m + 1) = if nrq P m ≤ pc (gq P m ^^^ fX P) then nrq P m else pc (gq P m ^^^ fX P) := rfl
    rw [e]
    by_cases q : nrq P m ≤ pc (gq P m ^^^ fX P)
    · rw [if_pos q]
      refine ⟨a, fun k hk => ?_, c.imp id (fun ⟨k, h1, h2⟩ => ⟨k, by omega, h2⟩)⟩
      by_cases e : k = m
      · rw [e]; exact q
      · exact b k (by omega)
    · rw [if_neg q]
      refine ⟨by omega, fun k hk => ?_, Or.inr ⟨m, by omega, rfl⟩⟩
      by_cases e : k = m
      · rw [e]; exact Int.le_refl _
      · have := b k (by omega); omega
theorem gq_brd (ok : okP P) {m n : Nat} (h : cntF P m) (hn : n < m) : brd (gq P n) := brdX ok (fit_in (gq_f h hn))
theorem nrq_near (ok : okP P) {m : Nat} (h : cntF P m) (h1 : 1 ≤ m) : isNear P m (nrq P m) := by
  obtain ⟨a, b, c⟩ := nrq_le (P := P) m
  refine ⟨?_, b⟩
  rcases c with c | ⟨k, hk, e⟩
  · refine ⟨0, by omega, ?_⟩
    have := b 0 (by omega)
    have := pc_36 (xor_brd ok (gq_f h (show 0 < m by omega)).1)
    omega
  · exact ⟨k, hk, e⟩
theorem nrq_0 (m : Nat) : 0 ≤ nrq P m := by
  induction m with
  | zero => show (0 : Int) ≤ 36; decide
  | succ m ih =>
    show 0 ≤ (if nrq P m ≤ pc (gq P m ^^^ fX P) then nrq P m else pc (gq P m ^^^ fX P))
    split
    · exact ih
    · exact pc_nn _
/-- what is sure comes from all of them -/
theorem sure_all (ok : okP P) {m : Nat} (hm : cntF P m) (h1 : 1 ≤ m) (h100 : m < 100) {y K : Int64} (hy : isSure P y) (hK : fitP P (fX P) K) :
    allq P m &&& V (bdI (nR P) (nC P)) = V (y &&& K) ∧ V (bdI (nR P) (nC P)) &&& (someq P m ^^^ (-1 : Int64)) = V (y &&& (K ^^^ (-1 : Int64))) ∧ (allq P m ||| (someq P m ^^^ (-1 : Int64))) &&& V (bdI (nR P) (nC P)) = V y := by
  have o1 := ok.2.1
  have o2 := ok.2.2.2.1
  rcases hy with ⟨-, hy⟩ | ⟨hn, -⟩
  · obtain ⟨k0, hk0, eK⟩ := all_told ok hm h100 hK
    -- a cell is sure: all told ones are as K
    have su : ∀ r c, (r < nR P ∧ c < nC P) → (zc y r c ↔ ∀ k, k < m → (zc (gq P k) r c ↔ zc K r c)) := fun r c hb => by
      rw [hy]
      constructor
      · rintro ⟨-, s⟩ k hk
        exact s _ _ (gq_f hm hk) hK
      · intro s
        refine ⟨hb, fun z z' hz hz' => ?_⟩
        obtain ⟨k, hk, e⟩ := all_told ok hm h100 hz
        obtain ⟨k', hk', e'⟩ := all_told ok hm h100 hz'
        rw [e, e']
        exact (s k hk).trans (s k' hk').symm
    have cell : ∀ i, i < 36 → (i / 6 < nR P ∧ i % 6 < nC P) → (tb (allq P m) i = true ↔ (zc y (i / 6) (i % 6) ∧ zc K (i / 6) (i % 6))) ∧ (tb (someq P m) i = false ↔ (zc y (i / 6) (i % 6) ∧ ¬ zc K (i / 6) (i % 6))) := fun i hi hb => by
      have t : ∀ k, tb (V (gq P k)) i = true ↔ zc (gq P k) (i / 6) (i % 6) := fun k => by
        rw [tb_V, decide_eq_true hi, Bool.true_and]
        exact tb_iff (by omega) (by omega)
      rw [su _ _ hb]
      constructor
      · rw [tb_allq m (by omega)]
        constructor
        · intro h
          have h' : ∀ k, k < m → zc (gq P k) (i / 6) (i % 6) := fun k hk => (t k).mp (h k hk)
          have hKz : zc K (i / 6) (i % 6) := by rw [eK]; exact h' k0 hk0
          exact ⟨fun k hk => ⟨fun _ => hKz, fun _ => h' k hk⟩, hKz⟩
        · rintro ⟨h, hKz⟩ k hk
          exact (t k).mpr ((h k hk).mpr hKz)
      · have e : tb (someq P m) i = false ↔ ¬ tb (someq P m) i = true := by cases tb (someq P m) i <;> simp
        rw [e, tb_someq]
        constructor
        · intro h
          have h' : ∀ k, k < m → ¬ zc (gq P k) (i / 6) (i % 6) := fun k hk w => h ⟨k, hk, (t k).mpr w⟩
          have hKz : ¬ zc K (i / 6) (i % 6) := by rw [eK]; exact h' k0 hk0
          exact ⟨fun k hk => ⟨fun w => absurd w (h' k hk), fun w => absurd w hKz⟩, hKz⟩
        · rintro ⟨h, hKz⟩ ⟨k, hk, w⟩
          exact hKz ((h k hk).mp ((t k).mp w))
    have tB : ∀ i, i < 36 → (tb (V (bdI (nR P) (nC P))) i = true ↔ (i / 6 < nR P ∧ i % 6 < nC P)) := fun i hi => by
      rw [tb_V, decide_eq_true hi, Bool.true_and, tb_iff (by omega) (by omega), zc_bd o1 o2]
    have hyb : ∀ r c, zc y r c → r < nR P ∧ c < nC P := fun r c q => ((hy r c).mp q).1
    have big : ∀ (z : Int64) i, ¬ i < 36 → tb (V z) i = false := fun z i hi => by rw [tb_V, decide_eq_false hi, Bool.false_and]
    have eqb : ∀ {a b : Bool}, (a = true ↔ b = true) → a = b := fun {a b} h => by cases a <;> cases b <;> simp_all
    refine ⟨tb_ext (fun i hi => ?_), tb_ext (fun i hi => ?_), tb_ext (fun i hi => ?_)⟩
    · by_cases h36 : i < 36
      · apply eqb
        rw [tb_and, Bool.and_eq_true, tB i h36, tb_V, decide_eq_true h36, Bool.true_and, tb_iff (by omega) (by omega), zc_and]
        exact ⟨fun w => ((cell i h36 w.2).1).mp w.1, fun w => ⟨((cell i h36 (hyb _ _ w.1)).1).mpr w, hyb _ _ w.1⟩⟩
      · rw [tb_and, big _ i h36, big _ i h36, Bool.and_false]
    · by_cases h36 : i < 36
      · apply eqb
        rw [tb_and, tb_not _ hi, Bool.and_eq_true, tB i h36, tb_V, decide_eq_true h36, Bool.true_and, tb_iff (by omega) (by omega), zc_rem, Bool.not_eq_true']
        exact ⟨fun w => ((cell i h36 w.1).2).mp w.2, fun w => ⟨hyb _ _ w.1, ((cell i h36 (hyb _ _ w.1)).2).mpr w⟩⟩
      · rw [tb_and, big _ i h36, big _ i h36, Bool.false_and]
    · by_cases h36 : i < 36
      · apply eqb
        rw [tb_and, tb_or, tb_not _ hi, Bool.and_eq_true, tB i h36, Bool.or_eq_true, Bool.not_eq_true', tb_V, decide_eq_true h36, Bool.true_and, tb_iff (by omega) (by omega)]
        constructor
        · rintro ⟨w, hb⟩
          rcases w with w | w
          · exact (((cell i h36 hb).1).mp w).1
          · exact (((cell i h36 hb).2).mp w).1
        · intro w
          refine ⟨?_, hyb _ _ w⟩
          by_cases q : zc K (i / 6) (i % 6)
          · exact Or.inl (((cell i h36 (hyb _ _ w)).1).mpr ⟨w, q⟩)
          · exact Or.inr (((cell i h36 (hyb _ _ w)).2).mpr ⟨w, q⟩)
      · rw [tb_and, big _ i h36, big _ i h36, Bool.and_false]
  · exact absurd ⟨K, hK⟩ hn
end LT
