/-- what the model's search goes by -/
def wyH (P : Pic) (s : Mem) (forth back : Int64) (nd : Nat → Int) : Prop := MN s P ∧ gOK P s ∧ (∀ a c, zc forth a c → ¬ zc back a c) ∧
  (∀ a c, a < nR P → c < nC P → (zc back a c ↔ s.1 37 (6 * a + c) = i3 (-1) ∧ ¬ s.1 38 (6 * a + c) = i3 0)) ∧ (∀ a c, zc back a c → a < nR P ∧ c < nC P) ∧
  (∀ a c, a < nR P → c < nC P → (zc forth a c ↔ s.1 37 (6 * a + c) = i3 (-1) ∧ s.1 38 (6 * a + c) = i3 0)) ∧ (∀ a c, zc forth a c → a < nR P ∧ c < nC P) ∧
  ∀ c, c < nC P → s.1 40 c = i3 (nd c) ∧ 0 ≤ nd c ∧ nd c ≤ 6
/-- the columns seen are closed -/
def wcl (back : Int64) (nd : Nat → Int) (S T : Nat) : Prop := ∀ x, T.testBit x = true → (∀ a, zc back a x → S.testBit a = true) ∧ nd x ≤ 0
theorem wayCol {P : Pic} {s z : Mem} (ok : okP P) {forth back : Int64} {nd : Nat → Int} (hw : wyH P s forth back nd) {st n S T : Nat} {q : Nat → Nat} {W : Nat → Int64} (h : wfI P s z forth back st n S T q W) {i c : Nat} (hi : i < n) (hc : c < nC P) (hcl : wcl back nd S T)
    (k48 : Int32 → Int32 → Mem → Out) (m : Nat) :
    (¬ (zc forth (q i) c ∧ ¬ T.testBit c = true) ∧ f_X8_wayFrom_64 k48 (m + 1) (i3 n) (i3 i) (i3 (q i)) (i3 c) z = f_X8_wayFrom_64 k48 m (i3 n) (i3 i) (i3 (q i)) (i3 ((c + 1 : Nat) : Int)) z) ∨
    (∃ n' S' T' q' W' z', f_X8_wayFrom_64 k48 (m + 1) (i3 n) (i3 i) (i3 (q i)) (i3 c) z = f_X8_wayFrom_64 k48 m (i3 ((n' : Nat) : Int)) (i3 i) (i3 (q i)) (i3 ((c + 1 : Nat) : Int)) z' ∧ wfI P s z' forth back st n' S' T' q' W' ∧ n ≤ n' ∧ (∀ j, j < n → q' j = q j) ∧ wcl back nd S' T' ∧ (∀ x, T.testBit x = true → T'.testBit x = true) ∧ T'.testBit c = true) ∨
    wfF P s forth back st nd (f_X8_wayFrom_64 k48 (m + 1) (i3 n) (i3 i) (i3 (q i)) (i3 c) z) := by
  obtain ⟨hm, hg, hd, hback, hbb, hforth, hfb, hnd⟩ := hw
  have o1 := ok.2.1
  have o2 := ok.2.2.2.1
  have h0 := h
  obtain ⟨h1, h2, h3, h4, h5, h6, h7, h8, h9, hX⟩ := h
  have hr := (h4 i hi).1
  have hz : MN z P := MN_fr hm h1 (by simp)
  have eat : ((6 : Int32) * i3 (q i)) + i3 c = i3 ((6 * q i + c : Nat) : Int) := at6 _ _
  have hck : ∀ K : Out, ck (inb (i3 ((6 * q i + c : Nat) : Int)) 36) K = K := fun K => ck_k (i3_in (by omega) (by decide)) K
  have hckc : ∀ K : Out, ck (inb (i3 (c : Int)) 6) K = K := fun K => ck_k (i3_in (by omega) (by decide)) K
  have el : ¬ i3 (nC P : Int) ≤ i3 (c : Int) := nle3 (by omega)
  have e37 : z.1 37 (6 * q i + c) = s.1 37 (6 * q i + c) := fr_1 h1 (by simp) _
  have e38 : z.1 38 (6 * q i + c) = s.1 38 (6 * q i + c) := fr_1 h1 (by simp) _
  have e40 : (sI z 41 c (i3 (q i))).1 40 c = i3 (nd c) := by rw [sI_1, up2_k _ _ _ _ _ (by decide), fr_1 h1 (by simp)]; exact (hnd c hc).1
  have hndc := (hnd c hc).2
  have hfi := hforth (q i) c hr hc
  simp only [f_X8_wayFrom_64, cols_code hz, cI_k, lt_k, inc3, if_neg el, eat, hck, clampN (show 6 * q i + c < 2147483648 by omega), e37, e38, hckc, clampN (show c < 2147483648 by omega), l3_0, l3_m9, e40]
  by_cases g : s.1 37 (6 * q i + c) = i3 (-1)
  · rw [if_neg (show ¬ i3 0 ≤ s.1 37 (6 * q i + c) by rw [g]; decide)]
    by_cases t : s.1 38 (6 * q i + c) = i3 0
    · rw [if_pos t]
      have hff : zc forth (q i) c := hfi.mpr ⟨g, t⟩
      by_cases f : z.1 41 c = i3 (-9)
      · rw [if_pos f]
        have hTc : ¬ T.testBit c = true := (h7 c (by omega)).mp f
        have hSi : S.testBit (q i) = true := (h5 (q i)).mpr ⟨i, hi, rfl⟩
        have hhalf := way_half (h8 i hi) (by omega) (by omega) hff (hd _ _ hff) hSi hTc
        have hfr : ¬ zc (W (q i)) (q i) c := fun w => hTc ((h8 i hi).1 _ _ w).2.2
        have hT' : ∀ x, T.testBit x = true → (T ||| 2 ^ c).testBit x = true := fun x w => (m_tor _ _ _).mpr (Or.inl w)
        have hTc' : (T ||| 2 ^ c).testBit c = true := (m_tor _ _ _).mpr (Or.inr ((m_tbit _ _).mpr rfl))
        have v41 : ∀ x, (sI z 41 c (i3 (q i))).1 41 x = if x = c then i3 (q i) else z.1 41 x := fun x => by
          rw [sI_1, up2_a]
          by_cases e : x = c
          · rw [if_pos ⟨rfl, e⟩, if_pos e]
          · rw [if_neg (fun w => e w.2), if_neg e]
        have hfz : fr [41, 42, 43] s (sI z 41 c (i3 (q i))) := fr_tr h1 (fr_sI (by simp))
        have hptr : ptr (sI z 41 c (i3 (q i))) forth back n q W := by
          refine ⟨⟨by rw [sI_1, up2_k _ _ _ _ _ (by decide)]; exact h9.1.1, h9.1.2⟩, fun j j1 j2 => ?_⟩
          obtain ⟨x, j', x1, x2, x3, x4, x5⟩ := h9.2 j j1 j2
          have hxc : ¬ x = c := fun e => by
            rw [e, f] at x4
            have := (h4 j' (by omega)).1
            exact ne9 (by omega) x4.symm
          exact ⟨x, j', x1, x2, by rw [sI_1, up2_k _ _ _ _ _ (by decide)]; exact x3, by rw [v41, if_neg hxc]; exact x4, x5⟩
        by_cases nz : nd c ≤ 0
        · rw [if_pos (le3 (by omega))]
          right; left
          have hI : wfI P s (sI z 41 c (i3 (q i))) forth back st n S (T ||| 2 ^ c) q W := by
            refine ⟨hfz, ⟨h2.1, m_or64 h2.2 (m_bit64 (by omega))⟩, h3, fun j hj => ⟨(h4 j hj).1, by rw [sI_1, up2_k _ _ _ _ _ (by decide)]; exact (h4 j hj).2⟩, h5, fun a ha => by rw [sI_1, up2_k _ _ _ _ _ (by decide)]; exact h6 a ha, fun x hx => ?_, fun j hj => wayOK_mono (h8 j hj) (fun _ w => w) hT', hptr, fun x hx => ?_⟩
            · rw [v41, m_tor, m_tbit]
              by_cases e : x = c
              · rw [if_pos e]
                exact ⟨fun w => absurd w (ne9 (by omega)), fun w => absurd (Or.inr e) w⟩
              · rw [if_neg e, h7 x hx]
                exact ⟨fun w z1 => z1.elim w e, fun w z1 => w (Or.inl z1)⟩
            · rw [v41]
              by_cases e : x = c
              · rw [if_pos e, e]; exact ⟨i, hi, rfl, hff⟩
              · rw [if_neg e]
                rw [m_tor, m_tbit] at hx
                exact hX x (hx.resolve_right e)
          obtain ⟨n', S', q', W', z', g1, g2, g3, g4, g5, g6⟩ := wayRows (T0 := T) hm ok hfz hd hback hbb hg hI hi hc hT' hTc' hhalf (by rw [v41, if_pos rfl]) hff hfr k48 (f_X8_wayFrom_64 k48 m)
          rw [l3_0] at g1
          refine ⟨n', S', T ||| 2 ^ c, q', W', z', g1, g2, g3, g4, fun x hx => ?_, hT', hTc'⟩
          rw [m_tor, m_tbit] at hx
          rcases hx with hx | hx
          · exact ⟨fun a w => g5 a ((hcl x hx).1 a w), (hcl x hx).2⟩
          · rw [hx]; exact ⟨g6, nz⟩
        · rw [if_neg (nle3 (by omega))]
          right; right
          exact ⟨_, n, S, T, q, W, i, c, rfl, hfz, wfI_n h0, fun k hk => (h4 k hk).1, h3.2.2, hptr, hi, hc, by omega, by rw [v41, if_pos rfl], hff, hfr, hhalf⟩
      · rw [if_neg f]
        exact Or.inl ⟨fun w => f ((h7 c (by omega)).mpr w.2), rfl⟩
    · rw [if_neg t]
      exact Or.inl ⟨fun w => t (hfi.mp w.1).2, rfl⟩
  · have hge : i3 0 ≤ s.1 37 (6 * q i + c) := by
      rcases hg (q i) c hr hc with w | w | w
      · exact absurd w g
      · rw [w]; decide
      · rw [w]; decide
    rw [if_pos hge]
    exact Or.inl ⟨fun w => g (hfi.mp w.1).1, rfl⟩
theorem wayRow {P : Pic} {s z : Mem} (ok : okP P) {forth back : Int64} {nd : Nat → Int} (hw : wyH P s forth back nd) {st n S T : Nat} {q : Nat → Nat} {W : Nat → Int64} (h : wfI P s z forth back st n S T q W) {i : Nat} (hi : i < n) (hcl : wcl back nd S T)
    (hrows : ∀ j, j < i → ∀ x, zc forth (q j) x → T.testBit x = true) (k48 : Int32 → Int32 → Mem → Out) :
    wfF P s forth back st nd (f_X8_wayFrom_64 k48 BIG (i3 n) (i3 i) (i3 (q i)) (0 : Int32) z) ∨
    ∃ n' S' T' q' W' z', f_X8_wayFrom_64 k48 BIG (i3 n) (i3 i) (i3 (q i)) (0 : Int32) z = k48 (i3 ((n' : Nat) : Int)) (i3 ((i + 1 : Nat) : Int)) z' ∧ wfI P s z' forth back st n' S' T' q' W' ∧ n ≤ n' ∧ wcl back nd S' T' ∧ ∀ j, j < i + 1 → ∀ x, zc forth (q' j) x → T'.testBit x = true := by
  have o2 := ok.2.2.2.1
  rw [show (0 : Int32) = i3 ((0 : Nat) : Int) from l3_0]
  refine loop_st (σ := Nat × Nat × Nat × (Nat → Nat) × (Nat → Int64) × Mem) (fun m c x => f_X8_wayFrom_64 k48 m (i3 x.1) (i3 i) (i3 (q i)) (i3 c) x.2.2.2.2.2)
    (fun c x => wfI P s x.2.2.2.2.2 forth back st x.1 x.2.1 x.2.2.1 x.2.2.2.1 x.2.2.2.2.1 ∧ n ≤ x.1 ∧ (∀ j, j < n → x.2.2.2.1 j = q j) ∧ wcl back nd x.2.1 x.2.2.1 ∧ (∀ j, j < i → ∀ y, zc forth (q j) y → x.2.2.1.testBit y = true) ∧ ∀ y, y < c → zc forth (q i) y → x.2.2.1.testBit y = true)
    (fun o => wfF P s forth back st nd o ∨ ∃ n' S' T' q' W' z', o = k48 (i3 ((n' : Nat) : Int)) (i3 ((i + 1 : Nat) : Int)) z' ∧ wfI P s z' forth back st n' S' T' q' W' ∧ n ≤ n' ∧ wcl back nd S' T' ∧ ∀ j, j < i + 1 → ∀ x, zc forth (q' j) x → T'.testBit x = true) (nC P) ?_ ?_ BIG 0 (n, S, T, q, W, z) (by omega) (BIG_lt (by omega)) ⟨h, Nat.le_refl _, fun _ _ => rfl, hcl, hrows, fun y w => by omega⟩
  · rintro m ⟨n', S', T', q', W', z'⟩ ⟨p1, p2, p3, p4, p5, p6⟩
    simp only at p1 p2 p3 p4 p5 p6
    right
    have hz' : MN z' P := MN_fr hw.1 p1.1 (by simp)
    simp only [f_X8_wayFrom_64, cols_code hz', cI_k, lt_k, inc3]
    rw [if_pos (le3 (by omega))]
    refine ⟨n', S', T', q', W', z', rfl, p1, p2, p4, fun j hj x w => ?_⟩
    rw [p3 j (by omega)] at w
    by_cases e : j = i
    · rw [e] at w
      exact p6 x (hw.2.2.2.2.2.2.1 _ _ w).2 w
    · exact p5 j (by omega) x w
  · rintro m c ⟨n', S', T', q', W', z'⟩ hc ⟨p1, p2, p3, p4, p5, p6⟩
    simp only at p1 p2 p3 p4 p5 p6
    have hqi : q' i = q i := p3 i hi
    rcases wayCol ok hw p1 (i := i) (c := c) (by omega) hc p4 k48 m with ⟨w1, w2⟩ | ⟨n2, S2, T2, q2, W2, z2, w1, w2, w3, w4, w5, w6, w7⟩ | w
    · left
      rw [hqi] at w1 w2
      refine ⟨(n', S', T', q', W', z'), ⟨p1, p2, p3, p4, p5, fun y hy hf => ?_⟩, w2⟩
      by_cases e : y = c
      · rw [e] at hf ⊢; exact Classical.byContradiction (fun v => w1 ⟨hf, v⟩)
      · exact p6 y (by omega) hf
    · left
      rw [hqi] at w1
      refine ⟨(n2, S2, T2, q2, W2, z2), ⟨w2, by omega, fun j hj => (w4 j (by omega)).trans (p3 j hj), w5, fun j hj y hf => w6 y (p5 j hj y hf), fun y hy hf => ?_⟩, w1⟩
      by_cases e : y = c
      · rw [e]; exact w7
      · exact w6 y (p6 y (by omega) hf)
    · right; left
      rw [hqi] at w; exact w
theorem mWayFrom {P : Pic} {s : Mem} (ok : okP P) {forth back : Int64} {nd : Nat → Int} (hw : wyH P s forth back nd) {st : Nat} (hst : st < nR P) : wfF P s forth back st nd (F_X8_wayFrom (i3 st) s) ∨ wfN s forth back st nd (F_X8_wayFrom (i3 st) s) := by
  have o1 := ok.2.1
  have o2 := ok.2.2.2.1
  have main : ∀ z0, fr [41, 42, 43] s z0 → (∀ k, k < 6 → z0.1 41 k = i3 (-9) ∧ z0.1 42 k = i3 (-9)) →
      wfF P s forth back st nd (f_X8_wayFrom_48 BIG (1 : Int32) (0 : Int32) (sI (sI z0 43 0 (i3 st)) 42 st (i3 (-1)))) ∨ wfN s forth back st nd (f_X8_wayFrom_48 BIG (1 : Int32) (0 : Int32) (sI (sI z0 43 0 (i3 st)) 42 st (i3 (-1)))) := by
    intro z0 a1 a2
    have v41 : ∀ x, (sI (sI z0 43 0 (i3 st)) 42 st (i3 (-1))).1 41 x = z0.1 41 x := fun x => by rw [sI_1, up2_k _ _ _ _ _ (by decide), sI_1, up2_k _ _ _ _ _ (by decide)]
    have v42 : ∀ x, (sI (sI z0 43 0 (i3 st)) 42 st (i3 (-1))).1 42 x = if x = st then i3 (-1) else z0.1 42 x := fun x => by
      rw [sI_1, up2_a, sI_1]
      by_cases e : x = st
      · rw [if_pos ⟨rfl, e⟩, if_pos e]
      · rw [if_neg (fun w => e w.2), if_neg e, up2_k _ _ _ _ _ (by decide)]
    have v43 : (sI (sI z0 43 0 (i3 st)) 42 st (i3 (-1))).1 43 0 = i3 st := by rw [sI_1, up2_k _ _ _ _ _ (by decide), sI_1, up2_same]
    have pi1 : pi (2 ^ st) = 1 := by
      have : ∀ x : Fin 6, pi (2 ^ x.val) = 1 := by decide +kernel
      exact this ⟨st, by omega⟩
    have hI : wfI P s (sI (sI z0 43 0 (i3 st)) 42 st (i3 (-1))) forth back st 1 (2 ^ st) 0 (fun _ => st) (fun _ => 0) := by
      have z0' : ∀ x : Int64, (0 : Int64) &&& x = 0 := fun x => zc_ext (fun r c => by rw [zc_and]; exact ⟨fun q => q.1, fun q => absurd q (zc_0 _ _)⟩)
      refine ⟨fr_tr a1 (fr_tr (fr_sI (by simp)) (fr_sI (by simp))), ⟨m_bit64 (by omega), by decide⟩, ⟨Nat.le_refl _, pi1, rfl⟩, fun j hj => ⟨hst, by rw [show j = 0 from by omega]; exact v43⟩, fun a => ?_, fun a ha => ?_, fun c hc => ?_, fun j hj => ⟨fun x y w => absurd w (zc_0 _ _), fun x _ => ?_, fun y _ => ?_⟩, ⟨⟨by rw [v42, if_pos rfl], rfl⟩, fun j j1 j2 => by omega⟩, fun c w => by simp at w⟩
      · rw [m_tbit]
        exact ⟨fun e => ⟨0, by omega, e⟩, fun ⟨_, _, e⟩ => e⟩
      · rw [v42, m_tbit]
        by_cases e : a = st
        · rw [if_pos e]
          exact ⟨fun w => absurd w (by decide), fun w => absurd e w⟩
        · rw [if_neg e]
          exact ⟨fun _ => e, fun _ => (a2 a ha).2⟩
      · rw [v41]
        exact ⟨fun _ w => by simp at w, fun _ => (a2 c hc).1⟩
      · rw [z0', z0']
        show rct 0 x - rct 0 x = (if x = st then 1 else 0) - (if x = st then 1 else 0)
        omega
      · rw [z0', z0']
    rw [show (1 : Int32) = i3 ((1 : Nat) : Int) from l3_1, show (0 : Int32) = i3 ((0 : Nat) : Int) from l3_0]
    refine loop_st (σ := Nat × Nat × Nat × (Nat → Nat) × (Nat → Int64) × Mem) (fun m i x => f_X8_wayFrom_48 m (i3 x.1) (i3 i) x.2.2.2.2.2)
      (fun i x => wfI P s x.2.2.2.2.2 forth back st x.1 x.2.1 x.2.2.1 x.2.2.2.1 x.2.2.2.2.1 ∧ wcl back nd x.2.1 x.2.2.1 ∧ i ≤ x.1 ∧ ∀ j, j < i → ∀ y, zc forth (x.2.2.2.1 j) y → x.2.2.1.testBit y = true)
      (fun o => wfF P s forth back st nd o ∨ wfN s forth back st nd o) 6 ?_ ?_ BIG 0 (1, 2 ^ st, 0, fun _ => st, fun _ => 0, _) (by decide) (BIG_lt (by decide)) ⟨hI, fun x w => by simp at w, by simp, fun j w => by omega⟩
    · rintro m ⟨n, S, T, q, W, z⟩ ⟨p1, p2, p3, p4⟩
      simp only at p1 p2 p3 p4
      right
      have n6 := wfI_n p1
      simp only [f_X8_wayFrom_48, l3_m9]
      rw [if_pos (le3 (by omega))]
      refine ⟨z, S, T, rfl, p1.1, (p1.2.2.2.2.1 st).mpr ⟨0, p1.2.2.1.1, p1.2.2.1.2.2.symm⟩, fun a c h1 h2 => ?_, fun a c h1 h2 => (p2 c h1).1 a h2, fun c h1 => (p2 c h1).2⟩
      obtain ⟨j, j1, j2⟩ := (p1.2.2.2.2.1 a).mp h1
      rw [j2] at h2
      exact p4 j (by omega) c h2
    · rintro m i ⟨n, S, T, q, W, z⟩ hi ⟨p1, p2, p3, p4⟩
      simp only at p1 p2 p3 p4
      have n6 := wfI_n p1
      by_cases e : n ≤ i
      · right; right
        simp only [f_X8_wayFrom_48, l3_m9]
        rw [if_pos (le3 (by omega))]
        refine ⟨z, S, T, rfl, p1.1, (p1.2.2.2.2.1 st).mpr ⟨0, p1.2.2.1.1, p1.2.2.1.2.2.symm⟩, fun a c h1 h2 => ?_, fun a c h1 h2 => (p2 c h1).1 a h2, fun c h1 => (p2 c h1).2⟩
        obtain ⟨j, j1, j2⟩ := (p1.2.2.2.2.1 a).mp h1
        rw [j2] at h2
        exact p4 j (by omega) c h2
      · have hin : i < n := by omega
        have hq := (p1.2.2.2.1 i hin).2
        simp only [f_X8_wayFrom_48, l3_m9, lt_k, clampN (show i < 2147483648 by omega), hq]
        rw [if_neg (nle3 (by omega)), ck_k (i3_in (by omega) (by decide))]
        rcases wayRow ok hw p1 hin p2 p4 (f_X8_wayFrom_48 m) with w | ⟨n', S', T', q', W', z', w1, w2, w3, w4, w5⟩
        · exact Or.inr (Or.inl w)
        · exact Or.inl ⟨(n', S', T', q', W', z'), ⟨w2, w4, by show i + 1 ≤ n'; omega, w5⟩, w1⟩
  simp only [F_X8_wayFrom]
  rw [show (0 : Int32) = i3 ((0 : Nat) : Int) from l3_0]
  refine loop_st (σ := Mem) (fun m k z => f_X8_wayFrom_2 m (i3 st) (i3 k) z) (fun k z => fr [41, 42, 43] s z ∧ ∀ j, j < k → z.1 41 j = i3 (-9) ∧ z.1 42 j = i3 (-9))
    (fun o => wfF P s forth back st nd o ∨ wfN s forth back st nd o) 6 ?_ ?_ BIG 0 s (by decide) (BIG_lt (by decide)) ⟨fr_rf _ _, fun j w => by omega⟩
  · rintro m z ⟨q1, q2⟩
    simp only [f_X8_wayFrom_2, l3_6, lt_k, l3_m1, clampN (show st < 2147483648 by omega)]
    rw [if_pos (le3 (by omega)), ck_k (i3_in (by omega) (by decide))]
    exact main z q1 q2
  · rintro m k z hk ⟨q1, q2⟩
    left
    simp only [f_X8_wayFrom_2, l3_6, lt_k, inc3, l3_m9, clampN (show k < 2147483648 by omega)]
    rw [if_neg (nle3 (by omega)), ck_k (i3_in (by omega) (by decide)), ck_k (i3_in (by omega) (by decide))]
    refine ⟨_, ⟨fr_tr q1 (fr_tr (fr_sI (by simp)) (fr_sI (by simp))), fun j hj => ?_⟩, rfl⟩
    have v1 : (sI (sI z 41 k (i3 (-9))) 42 k (i3 (-9))).1 41 j = if j = k then i3 (-9) else z.1 41 j := by
      rw [sI_1, up2_k _ _ _ _ _ (by decide), sI_1, up2_a]
      by_cases e : j = k
      · rw [if_pos ⟨rfl, e⟩, if_pos e]
      · rw [if_neg (fun w => e w.2), if_neg e]
    have v2 : (sI (sI z 41 k (i3 (-9))) 42 k (i3 (-9))).1 42 j = if j = k then i3 (-9) else z.1 42 j := by
      rw [sI_1, up2_a, sI_1]
      by_cases e : j = k
      · rw [if_pos ⟨rfl, e⟩, if_pos e]
      · rw [if_neg (fun w => e w.2), if_neg e, up2_k _ _ _ _ _ (by decide)]
    rw [v1, v2]
    by_cases e : j = k
    · rw [if_pos e, if_pos e]; exact ⟨rfl, rfl⟩
    · rw [if_neg e, if_neg e]; exact q2 j (by omega)
