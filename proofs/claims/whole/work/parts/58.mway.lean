/-! the model's search of a way: seen rows in the queue, with their ways W -/
def ptr (z : Mem) (forth back : Int64) (n : Nat) (q : Nat → Nat) (W : Nat → Int64) : Prop :=
  (z.1 42 (q 0) = i3 (-1) ∧ W (q 0) = 0) ∧ ∀ j, 0 < j → j < n → ∃ b j', b < 6 ∧ j' < j ∧ z.1 42 (q j) = i3 ((b : Nat) : Int) ∧ z.1 41 b = i3 (q j') ∧ zc forth (q j') b ∧ zc back (q j) b ∧
    ¬ zc (W (q j')) (q j') b ∧ ¬ zc (W (q j') ||| bv (8 * q j' + b)) (q j) b ∧ W (q j) = (W (q j') ||| bv (8 * q j' + b)) ||| bv (8 * q j + b)
def wfI (P : Pic) (b z : Mem) (forth back : Int64) (st n S T : Nat) (q : Nat → Nat) (W : Nat → Int64) : Prop :=
  fr [41, 42, 43] b z ∧ (S < 64 ∧ T < 64) ∧ (1 ≤ n ∧ pi S = n ∧ q 0 = st) ∧ (∀ j, j < n → q j < nR P ∧ z.1 43 j = i3 (q j)) ∧
  (∀ a, S.testBit a = true ↔ ∃ j, j < n ∧ a = q j) ∧ (∀ a, a < 6 → (z.1 42 a = i3 (-9) ↔ ¬ S.testBit a = true)) ∧ (∀ c, c < 6 → (z.1 41 c = i3 (-9) ↔ ¬ T.testBit c = true)) ∧
  (∀ j, j < n → wayOK forth back S T st (q j) (W (q j))) ∧ ptr z forth back n q W ∧ (∀ c, T.testBit c = true → ∃ j, j < n ∧ z.1 41 c = i3 (q j) ∧ zc forth (q j) c)
theorem wfI_n {P : Pic} {b z : Mem} {forth back : Int64} {st n S T : Nat} {q : Nat → Nat} {W : Nat → Int64} (h : wfI P b z forth back st n S T q W) : n ≤ 6 := by
  have := pi_6 (m := S)
  have := h.2.2.1.2.1
  omega
theorem wayH_mono {forth back : Int64} {S S' T a0 c : Nat} {w : Int64} (h : wayH forth back S T a0 c w) (hS : ∀ a, S.testBit a = true → S'.testBit a = true) : wayH forth back S' T a0 c w :=
  ⟨fun a b q => ⟨(h.1 a b q).1, hS a (h.1 a b q).2.1, (h.1 a b q).2.2⟩, h.2⟩
/-- a row comes into the queue -/
theorem wfI_push {P : Pic} {b z : Mem} {forth back : Int64} {st n S T T0 : Nat} {q : Nat → Nat} {W : Nat → Int64} (o1 : nR P ≤ 6) (hd : ∀ a c, zc forth a c → ¬ zc back a c) (h : wfI P b z forth back st n S T q W)
    {i c a : Nat} (hi : i < n) (hc6 : c < 6) (hT0 : ∀ x, T0.testBit x = true → T.testBit x = true) (hTc : T.testBit c = true) (hH : wayH forth back S T0 st c (W (q i) ||| bv (8 * q i + c))) (hfc : z.1 41 c = i3 (q i)) (hff : zc forth (q i) c) (hfr : ¬ zc (W (q i)) (q i) c)
    (ha : a < nR P) (hab : zc back a c) (haS : ¬ S.testBit a = true) :
    wfI P b (sI (sI z 42 a (i3 c)) 43 n (i3 a)) forth back st (n + 1) (S ||| 2 ^ a) T (fun j => if j = n then a else q j) (fun x => if x = a then (W (q i) ||| bv (8 * q i + c)) ||| bv (8 * a + c) else W x) ∧
    (∀ x, S.testBit x = true → (S ||| 2 ^ a).testBit x = true) ∧ W (q i) = (fun x => if x = a then (W (q i) ||| bv (8 * q i + c)) ||| bv (8 * a + c) else W x) (q i) := by
  obtain ⟨h1, h2, h3, h4, h5, h6, h7, h8, h9, hX⟩ := h
  have ha6 : a < 6 := by omega
  have hS' : ∀ x, S.testBit x = true → (S ||| 2 ^ a).testBit x = true := fun x w => (m_tor _ _ _).mpr (Or.inl w)
  have hSa : (S ||| 2 ^ a).testBit a = true := (m_tor _ _ _).mpr (Or.inr ((m_tbit _ _).mpr rfl))
  have hqa : ∀ j, j < n → ¬ q j = a := fun j hj e => haS (e ▸ (h5 (q j)).mpr ⟨j, hj, rfl⟩)
  have hst : ¬ (q 0) = a := hqa 0 (by omega)
  have dis : S &&& 2 ^ a = 0 := m_disj (fun k w1 w2 => haS ((m_tbit _ _).mp w2 ▸ w1))
  have pi1 : pi (2 ^ a) = 1 := by
    have : ∀ x : Fin 6, pi (2 ^ x.val) = 1 := by decide +kernel
    exact this ⟨a, ha6⟩
  have v41 : ∀ x, (sI (sI z 42 a (i3 c)) 43 n (i3 a)).1 41 x = z.1 41 x := fun x => by
    rw [sI_1, up2_k _ _ _ _ _ (by decide), sI_1, up2_k _ _ _ _ _ (by decide)]
  have v42 : ∀ x, (sI (sI z 42 a (i3 c)) 43 n (i3 a)).1 42 x = if x = a then i3 c else z.1 42 x := fun x => by
    rw [sI_1, up2_k _ _ _ _ _ (by decide), sI_1, up2_a]
    by_cases e : x = a
    · rw [if_pos ⟨rfl, e⟩, if_pos e]
    · rw [if_neg (fun w => e w.2), if_neg e]
  have v43 : ∀ x, (sI (sI z 42 a (i3 c)) 43 n (i3 a)).1 43 x = if x = n then i3 a else z.1 43 x := fun x => by
    rw [sI_1, up2_a, sI_1]
    by_cases e : x = n
    · rw [if_pos ⟨rfl, e⟩, if_pos e]
    · rw [if_neg (fun w => e w.2), if_neg e, up2_k _ _ _ _ _ (by decide)]
  have hnew : ¬ zc (W (q i) ||| bv (8 * q i + c)) a c := fun w => haS (hH.1 a c w).2.1
  refine ⟨⟨fr_tr h1 (fr_tr (fr_sI (by simp)) (fr_sI (by simp))), ⟨m_or64 h2.1 (m_bit64 ha6), h2.2⟩, ⟨by omega, ?_, ?_⟩, fun j hj => ?_, fun x => ?_, fun x hx => ?_, fun x hx => ?_, fun j hj => ?_, ⟨?_, fun j hj hj2 => ?_⟩, fun x hx => ?_⟩, hS', ?_⟩
  · rw [pi_or h2.1 (m_bit64 ha6) dis, pi1, h3.2.1]; push_cast; rfl
  · simp only [if_neg (show ¬ 0 = n by omega)]; exact h3.2.2
  · rw [v43]
    by_cases e : j = n
    · simp only [if_pos e]; exact ⟨ha, trivial⟩
    · simp only [if_neg e]; exact h4 j (by omega)
  · rw [m_tor, m_tbit, h5]
    constructor
    · rintro (⟨j, j1, j2⟩ | e)
      · exact ⟨j, by omega, by simp only [if_neg (show ¬ j = n by omega)]; exact j2⟩
      · exact ⟨n, by omega, by simp only [if_true]; exact e⟩
    · rintro ⟨j, j1, j2⟩
      by_cases e : j = n
      · simp only [if_pos e] at j2; exact Or.inr j2
      · simp only [if_neg e] at j2; exact Or.inl ⟨j, by omega, j2⟩
  · rw [v42, m_tor, m_tbit]
    by_cases e : x = a
    · rw [if_pos e]
      constructor
      · intro w; rw [i3_eq (by omega) (by omega)] at w; omega
      · intro w; exact absurd (Or.inr e) w
    · rw [if_neg e, h6 x hx]
      constructor
      · intro w; rintro (z1 | z1)
        · exact w z1
        · exact e z1
      · intro w z1; exact w (Or.inl z1)
  · rw [v41]; exact h7 x hx
  · by_cases e : j = n
    · simp only [if_pos e, if_true]
      exact way_back hH ha6 hc6 hab (fun w => hd a c w hab) haS hS' hSa hT0 hTc
    · simp only [if_neg e, if_neg (hqa j (by omega))]
      exact wayOK_mono (h8 j (by omega)) hS' (fun _ w => w)
  · rw [v42]
    simp only [if_neg (show ¬ 0 = n by omega), if_neg hst]
    exact h9.1
  · by_cases e : j = n
    · subst e
      refine ⟨c, i, hc6, hi, ?_⟩
      simp only [if_true, if_neg (show ¬ i = j by omega), if_neg (hqa i hi), v41, v42]
      exact ⟨trivial, hfc, hff, hab, hfr, hnew, trivial⟩
    · obtain ⟨x, j', x1, x2, x3, x4, x5, x6, x7, x8, x9⟩ := h9.2 j hj (by omega)
      refine ⟨x, j', x1, x2, ?_⟩
      simp only [if_neg e, if_neg (show ¬ j' = n by omega), if_neg (hqa j (by omega)), if_neg (hqa j' (by omega)), v41, v42]
      exact ⟨x3, x4, x5, x6, x7, x8, x9⟩
  · obtain ⟨j, j1, j2, j3⟩ := hX x hx
    refine ⟨j, by omega, ?_⟩
    simp only [if_neg (show ¬ j = n by omega), v41]
    exact ⟨j2, j3⟩
  · simp only [if_neg (hqa i hi)]
/-- the way is found: it ends in c -/
def wfF (P : Pic) (b : Mem) (forth back : Int64) (st : Nat) (nd : Nat → Int) (o : Out) : Prop := ∃ (z : Mem) (n : Nat) (S T : Nat) (q : Nat → Nat) (W : Nat → Int64) (j c : Nat), o = rI (i3 c) z ∧ fr [41, 42, 43] b z ∧ n ≤ 6 ∧ (∀ k, k < n → q k < nR P) ∧ q 0 = st ∧ ptr z forth back n q W ∧ j < n ∧ c < nC P ∧ 0 < nd c ∧
  z.1 41 c = i3 (q j) ∧ zc forth (q j) c ∧ ¬ zc (W (q j)) (q j) c ∧ wayH forth back S T st c (W (q j) ||| bv (8 * q j + c))
def wfN (b : Mem) (forth back : Int64) (st : Nat) (nd : Nat → Int) (o : Out) : Prop := ∃ (z : Mem) (S T : Nat), o = rI (i3 (-9)) z ∧ fr [41, 42, 43] b z ∧ S.testBit st = true ∧ (∀ a c, S.testBit a = true → zc forth a c → T.testBit c = true) ∧
  (∀ a c, T.testBit c = true → zc back a c → S.testBit a = true) ∧ ∀ c, T.testBit c = true → nd c ≤ 0
theorem ne9 {k : Nat} (hk : k < 1000) : ¬ i3 (k : Int) = i3 (-9) := ne3 (by omega)
theorem wayRows {P : Pic} {s z : Mem} (hm : MN s P) (ok : okP P) (hz : fr [41, 42, 43] s z) {forth back : Int64} (hd : ∀ a c, zc forth a c → ¬ zc back a c)
    (hback : ∀ a c, a < nR P → c < nC P → (zc back a c ↔ s.1 37 (6 * a + c) = i3 (-1) ∧ ¬ s.1 38 (6 * a + c) = i3 0)) (hbb : ∀ a c, zc back a c → a < nR P ∧ c < nC P) (hg : gOK P s)
    {st n S T T0 : Nat} {q : Nat → Nat} {W : Nat → Int64} (h : wfI P s z forth back st n S T q W) {i c : Nat} (hi : i < n) (hc : c < nC P) (hT0 : ∀ x, T0.testBit x = true → T.testBit x = true) (hTc : T.testBit c = true)
    (hH : wayH forth back S T0 st c (W (q i) ||| bv (8 * q i + c))) (hfc : z.1 41 c = i3 (q i)) (hff : zc forth (q i) c) (hfr : ¬ zc (W (q i)) (q i) c) (k48 : Int32 → Int32 → Mem → Out) (k64 : Int32 → Int32 → Int32 → Int32 → Mem → Out) :
    ∃ n' S' q' W' z', f_X8_wayFrom_142 k48 k64 BIG (i3 n) (i3 i) (i3 (q i)) (i3 c) (0 : Int32) z = k64 (i3 ((n' : Nat) : Int)) (i3 i) (i3 (q i)) (i3 ((c + 1 : Nat) : Int)) z' ∧ wfI P s z' forth back st n' S' T q' W' ∧ n ≤ n' ∧ (∀ j, j < n → q' j = q j) ∧
      (∀ a, S.testBit a = true → S'.testBit a = true) ∧ (∀ a, zc back a c → S'.testBit a = true) := by
  have o1 := ok.2.1
  have o2 := ok.2.2.2.1
  rw [show (0 : Int32) = i3 ((0 : Nat) : Int) from l3_0]
  refine loop_st (σ := Nat × Nat × (Nat → Nat) × (Nat → Int64) × Mem) (fun m a x => f_X8_wayFrom_142 k48 k64 m (i3 x.1) (i3 i) (i3 (q i)) (i3 c) (i3 a) x.2.2.2.2)
    (fun a x => wfI P s x.2.2.2.2 forth back st x.1 x.2.1 T x.2.2.1 x.2.2.2.1 ∧ n ≤ x.1 ∧ (∀ j, j < n → x.2.2.1 j = q j) ∧ (∀ a, S.testBit a = true → x.2.1.testBit a = true) ∧ (∀ a', a' < a → zc back a' c → x.2.1.testBit a' = true) ∧
      wayH forth back x.2.1 T0 st c (x.2.2.2.1 (q i) ||| bv (8 * q i + c)) ∧ x.2.2.2.2.1 41 c = i3 (q i) ∧ ¬ zc (x.2.2.2.1 (q i)) (q i) c)
    (fun o => ∃ n' S' q' W' z', o = k64 (i3 ((n' : Nat) : Int)) (i3 i) (i3 (q i)) (i3 ((c + 1 : Nat) : Int)) z' ∧ wfI P s z' forth back st n' S' T q' W' ∧ n ≤ n' ∧ (∀ j, j < n → q' j = q j) ∧
      (∀ a, S.testBit a = true → S'.testBit a = true) ∧ (∀ a, zc back a c → S'.testBit a = true)) (nR P) ?_ ?_ BIG 0 (n, S, q, W, z) (by omega) (BIG_lt (by omega)) ⟨h, Nat.le_refl _, fun _ _ => rfl, fun _ w => w, fun a' w => by omega, hH, hfc, hfr⟩
  · rintro m ⟨n', S', q', W', z'⟩ ⟨p1, p2, p3, p4, p5, p6, p7, p8⟩
    simp only at p1 p2 p3 p4 p5 p6 p7 p8
    have hz' : MN z' P := MN_fr hm p1.1 (by simp)
    simp only [f_X8_wayFrom_142, rows_code hz', cI_k, lt_k, inc3]
    rw [if_pos (le3 (by omega))]
    exact ⟨n', S', q', W', z', rfl, p1, p2, p3, p4, fun a w => p5 a (hbb a c w).1 w⟩
  · rintro m a ⟨n', S', q', W', z'⟩ ha ⟨p1, p2, p3, p4, p5, p6, p7, p8⟩
    simp only at p1 p2 p3 p4 p5 p6 p7 p8
    left
    have hz' : MN z' P := MN_fr hm p1.1 (by simp)
    have eat : ((6 : Int32) * i3 a) + i3 c = i3 ((6 * a + c : Nat) : Int) := at6 _ _
    have hck : ∀ K : Out, ck (inb (i3 ((6 * a + c : Nat) : Int)) 36) K = K := fun K => ck_k (i3_in (by omega) (by decide)) K
    have hcka : ∀ K : Out, ck (inb (i3 (a : Int)) 6) K = K := fun K => ck_k (i3_in (by omega) (by decide)) K
    have n6 := wfI_n p1
    have el : ¬ i3 (nR P : Int) ≤ i3 (a : Int) := nle3 (by omega)
    have e37 : z'.1 37 (6 * a + c) = s.1 37 (6 * a + c) := fr_1 p1.1 (by simp) _
    have e38 : z'.1 38 (6 * a + c) = s.1 38 (6 * a + c) := fr_1 p1.1 (by simp) _
    have skip : (zc back a c → S'.testBit a = true) → (wfI P s z' forth back st n' S' T q' W' ∧ n ≤ n' ∧ (∀ j, j < n → q' j = q j) ∧ (∀ a, S.testBit a = true → S'.testBit a = true) ∧ (∀ a', a' < a + 1 → zc back a' c → S'.testBit a' = true) ∧
        wayH forth back S' T0 st c (W' (q i) ||| bv (8 * q i + c)) ∧ z'.1 41 c = i3 (q i) ∧ ¬ zc (W' (q i)) (q i) c) := by
      intro w
      refine ⟨p1, p2, p3, p4, fun a' h1 h2 => ?_, p6, p7, p8⟩
      by_cases e : a' = a
      · rw [e] at h2 ⊢; exact w h2
      · exact p5 a' (by omega) h2
    have hbi := hback a c ha hc
    simp only [f_X8_wayFrom_142, rows_code hz', cI_k, lt_k, inc3, if_neg el, eat, hck, clampN (show 6 * a + c < 2147483648 by omega), e37, e38, hcka, clampN (show a < 2147483648 by omega), l3_0, l3_m9]
    by_cases g : s.1 37 (6 * a + c) = i3 (-1)
    · rw [if_neg (by rw [g]; decide)]
      by_cases t : s.1 38 (6 * a + c) = i3 0
      · rw [if_pos t]
        exact ⟨(n', S', q', W', z'), skip (fun w => absurd t (hbi.mp w).2), rfl⟩
      · rw [if_neg t]
        have hab : zc back a c := hbi.mpr ⟨g, t⟩
        by_cases f : z'.1 42 a = i3 (-9)
        · rw [if_pos f]
          have haS : ¬ S'.testBit a = true := (p1.2.2.2.2.2.1 a (by omega)).mp f
          have hqi : q' i = q i := p3 i hi
          have hpush := wfI_push o1 hd p1 (i := i) (c := c) (a := a) (T0 := T0) (by omega) (by omega) hT0 hTc (by rw [hqi]; exact p6) (by rw [hqi]; exact p7) (by rw [hqi]; exact hff) (by rw [hqi]; exact p8) ha hab haS
          rw [hqi] at hpush
          have hn5 := wfI_n hpush.1
          rw [ck_k (i3_in (by omega) (by decide)), clampN (by omega)]
          have hqia : ¬ q i = a := fun e => haS (by rw [← e, ← hqi]; exact (p1.2.2.2.2.1 (q' i)).mpr ⟨i, by omega, rfl⟩)
          refine ⟨(n' + 1, _, _, _, _), ⟨hpush.1, by omega, fun j hj => ?_, fun x w => hpush.2.1 x (p4 x w), fun a' h1 h2 => ?_, ?_, ?_, ?_⟩, rfl⟩
          · show (if j = n' then a else q' j) = q j
            rw [if_neg (by omega)]; exact p3 j hj
          · by_cases e : a' = a
            · rw [e]; exact (m_tor _ _ _).mpr (Or.inr ((m_tbit _ _).mpr rfl))
            · exact hpush.2.1 a' (p5 a' (by omega) h2)
          · show wayH forth back (S' ||| 2 ^ a) T0 st c ((if q i = a then (W' (q i) ||| bv (8 * q i + c)) ||| bv (8 * a + c) else W' (q i)) ||| bv (8 * q i + c))
            rw [if_neg hqia]; exact wayH_mono p6 hpush.2.1
          · simp only [sI_1]; rw [up2_k _ _ _ _ _ (by decide), up2_k _ _ _ _ _ (by decide)]; exact p7
          · show ¬ zc (if q i = a then (W' (q i) ||| bv (8 * q i + c)) ||| bv (8 * a + c) else W' (q i)) (q i) c
            rw [if_neg hqia]; exact p8
        · rw [if_neg f]
          refine ⟨(n', S', q', W', z'), skip (fun _ => Classical.byContradiction (fun w => f ((p1.2.2.2.2.2.1 a (by omega)).mpr w))), rfl⟩
    · have hge : i3 0 ≤ s.1 37 (6 * a + c) := by
        rcases hg a c ha hc with w | w | w
        · exact absurd w g
        · rw [w]; decide
        · rw [w]; decide
      rw [if_pos hge]
      exact ⟨(n', S', q', W', z'), skip (fun w => absurd (hbi.mp w).1 g), rfl⟩
