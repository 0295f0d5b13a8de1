theorem inc3 (i : Nat) : i3 (i : Int) + (1 : Int32) = i3 ((i + 1 : Nat) : Int) := by rw [l3_1, i3_add, Int.natCast_add]; exact nr rfl
theorem and_bv0 (x : Int64) {r c : Nat} (hr : r < 8) (hc : c < 8) : (x &&& bv (8 * r + c) = 0) = ¬ zc x r c := by
  apply propext
  rw [zc_eq_zero]
  constructor
  · intro h q
    exact h r c ((zc_and _ _ _ _).mpr ⟨q, (zc_bv (by omega) _ _).mpr ⟨hc, rfl⟩⟩)
  · intro h r' c' q
    rw [zc_and, zc_bv (by omega)] at q
    have e1 : r' = r := by omega
    have e2 : c' = c := by omega
    subst e1 e2
    exact h q.1
theorem bv_t {x : Int64} {r c : Nat} (h : zc x r c) : ¬ lg_cmp (x &&& bv (8 * r + c)) 0 = 0 := by
  rw [zcmp_eq, and_bv0 x h.1 h.2.1]; exact fun q => q h
theorem bv_f {x : Int64} {r c : Nat} (hr : r < 8) (hc : c < 8) (h : ¬ zc x r c) : lg_cmp (x &&& bv (8 * r + c)) 0 = 0 := by
  rw [zcmp_eq, and_bv0 x hr hc]; exact h
theorem zc_rem {x y : Int64} (r c : Nat) : zc (x &&& (y ^^^ (-1 : Int64))) r c ↔ zc x r c ∧ ¬ zc y r c := by
  rw [zc_and, zc_not]
  constructor
  · rintro ⟨a, -, -, b⟩; exact ⟨a, b⟩
  · rintro ⟨a, b⟩; exact ⟨a, a.1, a.2.1, b⟩
theorem brd_sub {x y : Int64} (h : brd x) (hs : ∀ r c, zc y r c → zc x r c) : brd y := (brd_iff y).mpr (fun r c q => zc_brd h (hs r c q))
theorem rs_step {x rest y : Int64} {i : Nat} (h1 : zc rest = rs (zc x) i) (h2 : ∀ r c, zc y r c ↔ cmp (zc rest) r c) : zc (rest &&& (y ^^^ (-1 : Int64))) = rs (zc x) (i + 1) := by
  funext r c
  apply propext
  rw [zc_rem, h2, h1]
  exact Iff.rfl
theorem rest_lt {rest y : Int64} (h0 : ¬ rest = 0) (h2 : ∀ r c, zc y r c ↔ cmp (zc rest) r c) : pc (rest &&& (y ^^^ (-1 : Int64))) < pc rest := by
  obtain ⟨r, c, h⟩ := first_ex h0
  refine pc_mono (fun r c q => ((zc_rem r c).mp q).1) (r := r) (c := c) (fun q => ?_) h.1
  exact ((zc_rem r c).mp q).2 ((h2 r c).mpr (cmp_F h))
theorem countPieces_code {x : Int64} (hx : brd x) (μ : Mem) : ∃ n : Nat, F_X0_countPieces x μ = rI (i3 n) μ ∧ npc (zc x) n ∧ n ≤ 36 := by
  simp only [F_X0_countPieces]
  rw [show (0 : Int32) = i3 ((0 : Nat) : Int) from l3_0]
  refine loop_st (σ := Int64) (fun n i rest => f_X0_countPieces_7 n (i3 i) rest (i3 i) μ)
    (fun i rest => zc rest = rs (zc x) i ∧ (∀ m, m < i → ∃ r c, rs (zc x) m r c) ∧ pc rest + i ≤ 36)
    (fun o => ∃ n : Nat, o = rI (i3 n) μ ∧ npc (zc x) n ∧ n ≤ 36) 48 ?_ ?_ BIG 0 x (by decide) (BIG_lt (by decide)) ⟨rfl, fun m hm => by omega, by have := pc_36 hx; simpa using this⟩
  · rintro n rest ⟨-, -, h⟩
    have := pc_nn rest
    omega
  · rintro n i rest hi ⟨h1, h2, h3⟩
    have hb : brd rest := (brd_iff rest).mpr (fun r c h => zc_brd hx (rs_in (h1 ▸ h)))
    obtain ⟨y, hy, hy2⟩ := firstPiece_code hb μ
    simp only [f_X0_countPieces_7, lt_k, l3_48, hy, cJ_k, inc3, zcmp_eq]
    rw [if_neg (nle3 (by omega))]
    by_cases h0 : rest = 0
    · right
      rw [if_pos h0]
      have := pc_nn rest
      refine ⟨i, rfl, ⟨fun r c h => ?_, h2⟩, by omega⟩
      rw [← h1, h0] at h
      exact zc_0 r c h
    · left
      rw [if_neg h0]
      refine ⟨_, ⟨rs_step h1 hy2, fun m hm => ?_, ?_⟩, rfl⟩
      · by_cases hmi : m = i
        · subst hmi
          obtain ⟨r, c, h⟩ := first_ex h0
          exact ⟨r, c, h1 ▸ h.1⟩
        · exact h2 m (by omega)
      · have := rest_lt h0 hy2
        push_cast; omega
theorem pieceNumbered_code {x : Int64} (hx : brd x) (μ : Mem) {p : Nat} (hp : p < 48) : ∃ y, F_X0_pieceNumbered x (i3 p) μ = rJ y μ ∧ ∀ r c, zc y r c ↔ cmp (rs (zc x) p) r c := by
  simp only [F_X0_pieceNumbered]
  rw [show (0 : Int32) = i3 ((0 : Nat) : Int) from l3_0]
  refine loop_st (σ := Int64) (fun n i rest => f_X0_pieceNumbered_5 n (i3 p) rest (i3 i) μ)
    (fun i rest => zc rest = rs (zc x) i)
    (fun o => ∃ y, o = rJ y μ ∧ ∀ r c, zc y r c ↔ cmp (rs (zc x) p) r c) p ?_ ?_ BIG 0 x (by omega) (BIG_lt (by omega)) rfl
  · rintro n rest h1
    have hb : brd rest := (brd_iff rest).mpr (fun r c h => zc_brd hx (rs_in (h1 ▸ h)))
    obtain ⟨y, hy, hy2⟩ := firstPiece_code hb μ
    simp only [f_X0_pieceNumbered_5, hy, cJ_k]
    rw [if_pos (le3 (by omega))]
    exact ⟨y, rfl, fun r c => by rw [hy2, h1]⟩
  · rintro n i rest hi h1
    have hb : brd rest := (brd_iff rest).mpr (fun r c h => zc_brd hx (rs_in (h1 ▸ h)))
    obtain ⟨y, hy, hy2⟩ := firstPiece_code hb μ
    left
    simp only [f_X0_pieceNumbered_5, hy, cJ_k, lt_k, inc3, l3_48]
    rw [if_neg (nle3 (by omega)), if_neg (nle3 (by omega))]
    exact ⟨_, rs_step h1 hy2, rfl⟩
theorem pieceNumber_code {x : Int64} (hx : brd x) (μ : Mem) {r c : Nat} (hc : zc x r c) : ∃ m : Nat, F_X0_pieceNumber x (bv (8 * r + c)) μ = rI (i3 m) μ ∧ m < 36 ∧ cmp (rs (zc x) m) r c := by
  have hb8 := zc_brd hx hc
  simp only [F_X0_pieceNumber]
  rw [if_neg (bv_t hc), show (0 : Int32) = i3 ((0 : Nat) : Int) from l3_0]
  refine loop_st (σ := Int64) (fun n i rest => f_X0_pieceNumber_20 n (bv (8 * r + c)) (i3 i) rest (i3 i) μ)
    (fun i rest => zc rest = rs (zc x) i ∧ zc rest r c ∧ pc rest + i ≤ 36)
    (fun o => ∃ m : Nat, o = rI (i3 m) μ ∧ m < 36 ∧ cmp (rs (zc x) m) r c) 48 ?_ ?_ BIG 0 x (by decide) (BIG_lt (by decide)) ⟨rfl, hc, by have := pc_36 hx; simpa using this⟩
  · rintro n rest ⟨-, -, h⟩
    have := pc_nn rest
    omega
  · rintro n i rest hi ⟨h1, h2, h3⟩
    have hb : brd rest := (brd_iff rest).mpr (fun r c h => zc_brd hx (rs_in (h1 ▸ h)))
    have h0 : ¬ rest = 0 := fun q => by rw [q] at h2; exact zc_0 r c h2
    obtain ⟨y, hy, hy2⟩ := firstPiece_code hb μ
    have hlt := rest_lt h0 hy2
    have hnn := pc_nn (rest &&& (y ^^^ (-1 : Int64)))
    simp only [f_X0_pieceNumber_20, lt_k, l3_48, hy, cJ_k, inc3]
    rw [if_neg (nle3 (by omega))]
    by_cases hq : zc y r c
    · right
      rw [if_neg (bv_t hq)]
      exact ⟨i, rfl, by omega, by rw [← h1]; exact (hy2 r c).mp hq⟩
    · left
      rw [if_pos (bv_f (by omega) (by omega) hq)]
      exact ⟨_, ⟨rs_step h1 hy2, (zc_rem r c).mpr ⟨h2, hq⟩, by push_cast; omega⟩, rfl⟩
theorem pieceNumber_none {x : Int64} (μ : Mem) {r c : Nat} (hr : r < 8) (hc : c < 8) (h : ¬ zc x r c) : F_X0_pieceNumber x (bv (8 * r + c)) μ = rI (i3 (-9)) μ := by
  simp only [F_X0_pieceNumber]
  rw [if_pos (bv_f hr hc h), l3_m9]
theorem cmp_uni {S : CS} {m m' : Nat} {r c : Nat} (h : cmp (rs S m) r c) (h' : cmp (rs S m') r c) : m = m' := by
  by_cases hlt : m < m'
  · have h1 : rs S (m + 1) r c := rs_mono (by omega) (cmp_in h')
    exact absurd h h1.2
  · by_cases hgt : m' < m
    · have h1 : rs S (m' + 1) r c := rs_mono (by omega) (cmp_in h)
      exact absurd h' h1.2
    · omega
/-! hulls -/
def hcl (T : CS) : Prop := (∀ r c1 c c2, c1 ≤ c → c ≤ c2 → T r c1 → T r c2 → T r c) ∧ (∀ c r1 r r2, r1 ≤ r → r ≤ r2 → T r1 c → T r2 c → T r c)
def hul (S : CS) : CS := fun r c => ∀ T : CS, (∀ r c, S r c → T r c) → hcl T → T r c
theorem hul_sub {S : CS} {r c : Nat} (h : S r c) : hul S r c := fun _ h1 _ => h1 r c h
theorem hul_cl (S : CS) : hcl (hul S) :=
  ⟨fun r c1 c c2 h1 h2 h3 h4 T a b => b.1 r c1 c c2 h1 h2 (h3 T a b) (h4 T a b), fun c r1 r r2 h1 h2 h3 h4 T a b => b.2 c r1 r r2 h1 h2 (h3 T a b) (h4 T a b)⟩
theorem zc_M (r c : Nat) : zc 69540876599103 r c ↔ r < 6 ∧ c < 6 := by
  have h : ∀ i : Fin 64, tb 69540876599103 i.val = (decide (i.val / 8 < 6) && decide (i.val % 8 < 6)) := by decide +kernel
  constructor
  · rintro ⟨a, b, d⟩
    have := h ⟨8 * r + c, by omega⟩
    simp only at this
    rw [this, Bool.and_eq_true, decide_eq_true_eq, decide_eq_true_eq] at d
    omega
  · rintro ⟨a, b⟩
    refine ⟨by omega, by omega, ?_⟩
    have := h ⟨8 * r + c, by omega⟩
    simp only at this
    rw [this, Bool.and_eq_true, decide_eq_true_eq, decide_eq_true_eq]
    omega
theorem between1_code {x : Int64} (hx : brd x) (μ : Mem) : ∃ y, F_X0_between x (1 : Int32) μ = rJ y μ ∧ ∀ r c, zc y r c ↔ r < 6 ∧ c < 6 ∧ (∃ d, d ≤ c ∧ zc x r d) ∧ ∃ d, c ≤ d ∧ zc x r d := by
  simp only [F_X0_between]
  rw [show (0 : Int32) = i3 ((0 : Nat) : Int) from l3_0]
  refine loop_st (σ := Int64 × Int64) (fun n i s => f_X0_between_8 n (1 : Int32) s.1 s.2 (i3 i) μ)
    (fun i s => (∀ r c, zc s.1 r c ↔ r < 6 ∧ c < 6 ∧ ∃ d, d ≤ c ∧ c ≤ d + i ∧ zc x r d) ∧ (∀ r c, zc s.2 r c ↔ r < 6 ∧ c < 6 ∧ ∃ d, c ≤ d ∧ d ≤ c + i ∧ zc x r d))
    (fun o => ∃ y, o = rJ y μ ∧ ∀ r c, zc y r c ↔ r < 6 ∧ c < 6 ∧ (∃ d, d ≤ c ∧ zc x r d) ∧ ∃ d, c ≤ d ∧ zc x r d) 6 ?_ ?_ BIG 0 (x, x) (by decide) (BIG_lt (by decide)) ⟨fun r c => ?_, fun r c => ?_⟩
  · rintro n ⟨b, a⟩ ⟨h1, h2⟩
    simp only at h1 h2
    simp only [f_X0_between_8, l3_6]
    rw [if_pos (le3 (by omega))]
    refine ⟨_, rfl, fun r c => ?_⟩
    rw [zc_and, h1, h2]
    constructor
    · rintro ⟨⟨p, q, d, d1, d2, d3⟩, -, -, e, e1, e2, e3⟩
      exact ⟨p, q, ⟨d, d1, d3⟩, ⟨e, e1, e3⟩⟩
    · rintro ⟨p, q, ⟨d, d1, d3⟩, ⟨e, e1, e3⟩⟩
      have := zc_brd hx e3
      exact ⟨⟨p, q, d, d1, by omega, d3⟩, p, q, e, e1, by omega, e3⟩
  · rintro n i ⟨b, a⟩ hi ⟨h1, h2⟩
    simp only at h1 h2
    left
    have hb : brd b := (brd_iff b).mpr (fun r c h => ⟨((h1 r c).mp h).1, ((h1 r c).mp h).2.1⟩)
    simp only [f_X0_between_8, l3_6, F_X0_withinLines, cJ_k, lt_k, inc3]
    rw [if_neg (nle3 (by omega))]
    refine ⟨(_, _), ⟨fun r c => ?_, fun r c => ?_⟩, rfl⟩
    · simp only [zc_or, zc_and, zc_M, zc_shl1 hb, h1]
      constructor
      · rintro (⟨p, q, d, d1, d2, d3⟩ | ⟨⟨-, e, -, -, d, d1, d2, d3⟩, p, q⟩)
        · exact ⟨p, q, d, d1, by omega, d3⟩
        · exact ⟨p, q, d, by omega, by omega, d3⟩
      · rintro ⟨p, q, d, d1, d2, d3⟩
        by_cases h : c ≤ d + i
        · exact Or.inl ⟨p, q, d, d1, h, d3⟩
        · exact Or.inr ⟨⟨by omega, by omega, p, by omega, d, by omega, by omega, d3⟩, p, q⟩
    · simp only [zc_or, zc_and, zc_M]
      constructor
      · rintro (h | ⟨h, p, q⟩)
        · rw [h2] at h
          obtain ⟨p, q, d, d1, d2, d3⟩ := h
          exact ⟨p, q, d, d1, by omega, d3⟩
        · rw [zc_shr1 (by omega), h2] at h
          obtain ⟨-, -, d, d1, d2, d3⟩ := h
          exact ⟨p, q, d, by omega, by omega, d3⟩
      · rintro ⟨p, q, d, d1, d2, d3⟩
        have hd := zc_brd hx d3
        by_cases h : d ≤ c + i
        · exact Or.inl ((h2 r c).mpr ⟨p, q, d, d1, h, d3⟩)
        · refine Or.inr ⟨?_, p, q⟩
          rw [zc_shr1 (by omega), h2]
          exact ⟨p, by omega, d, by omega, by omega, d3⟩
  · constructor
    · intro h
      have := zc_brd hx h
      exact ⟨this.1, this.2, c, by omega, by omega, h⟩
    · rintro ⟨-, -, d, d1, d2, d3⟩
      rw [show c = d from by omega]; exact d3
  · constructor
    · intro h
      have := zc_brd hx h
      exact ⟨this.1, this.2, c, by omega, by omega, h⟩
    · rintro ⟨-, -, d, d1, d2, d3⟩
      rw [show c = d from by omega]; exact d3
theorem between8_code {x : Int64} (hx : brd x) (μ : Mem) : ∃ y, F_X0_between x (8 : Int32) μ = rJ y μ ∧ ∀ r c, zc y r c ↔ r < 6 ∧ c < 6 ∧ (∃ d, d ≤ r ∧ zc x d c) ∧ ∃ d, r ≤ d ∧ zc x d c := by
  simp only [F_X0_between]
  rw [show (0 : Int32) = i3 ((0 : Nat) : Int) from l3_0]
  refine loop_st (σ := Int64 × Int64) (fun n i s => f_X0_between_8 n (8 : Int32) s.1 s.2 (i3 i) μ)
    (fun i s => (∀ r c, zc s.1 r c ↔ r < 6 ∧ c < 6 ∧ ∃ d, d ≤ r ∧ r ≤ d + i ∧ zc x d c) ∧ (∀ r c, zc s.2 r c ↔ r < 6 ∧ c < 6 ∧ ∃ d, r ≤ d ∧ d ≤ r + i ∧ zc x d c))
    (fun o => ∃ y, o = rJ y μ ∧ ∀ r c, zc y r c ↔ r < 6 ∧ c < 6 ∧ (∃ d, d ≤ r ∧ zc x d c) ∧ ∃ d, r ≤ d ∧ zc x d c) 6 ?_ ?_ BIG 0 (x, x) (by decide) (BIG_lt (by decide)) ⟨fun r c => ?_, fun r c => ?_⟩
  · rintro n ⟨b, a⟩ ⟨h1, h2⟩
    simp only at h1 h2
    simp only [f_X0_between_8, l3_6]
    rw [if_pos (le3 (by omega))]
    refine ⟨_, rfl, fun r c => ?_⟩
    rw [zc_and, h1, h2]
    constructor
    · rintro ⟨⟨p, q, d, d1, d2, d3⟩, -, -, e, e1, e2, e3⟩
      exact ⟨p, q, ⟨d, d1, d3⟩, ⟨e, e1, e3⟩⟩
    · rintro ⟨p, q, ⟨d, d1, d3⟩, ⟨e, e1, e3⟩⟩
      have := zc_brd hx e3
      exact ⟨⟨p, q, d, d1, by omega, d3⟩, p, q, e, e1, by omega, e3⟩
  · rintro n i ⟨b, a⟩ hi ⟨h1, h2⟩
    simp only at h1 h2
    left
    simp only [f_X0_between_8, l3_6, F_X0_withinLines, cJ_k, lt_k, inc3]
    rw [if_neg (nle3 (by omega))]
    refine ⟨(_, _), ⟨fun r c => ?_, fun r c => ?_⟩, rfl⟩
    · simp only [zc_or, zc_and, zc_M, zc_shl8, h1]
      constructor
      · rintro (⟨p, q, d, d1, d2, d3⟩ | ⟨⟨-, e, -, -, d, d1, d2, d3⟩, p, q⟩)
        · exact ⟨p, q, d, d1, by omega, d3⟩
        · exact ⟨p, q, d, by omega, by omega, d3⟩
      · rintro ⟨p, q, d, d1, d2, d3⟩
        by_cases h : r ≤ d + i
        · exact Or.inl ⟨p, q, d, d1, h, d3⟩
        · exact Or.inr ⟨⟨by omega, by omega, by omega, q, d, by omega, by omega, d3⟩, p, q⟩
    · simp only [zc_or, zc_and, zc_M]
      constructor
      · rintro (h | ⟨h, p, q⟩)
        · rw [h2] at h
          obtain ⟨p, q, d, d1, d2, d3⟩ := h
          exact ⟨p, q, d, d1, by omega, d3⟩
        · rw [zc_shr8, h2] at h
          obtain ⟨-, -, d, d1, d2, d3⟩ := h
          exact ⟨p, q, d, by omega, by omega, d3⟩
      · rintro ⟨p, q, d, d1, d2, d3⟩
        have hd := zc_brd hx d3
        by_cases h : d ≤ r + i
        · exact Or.inl ((h2 r c).mpr ⟨p, q, d, d1, h, d3⟩)
        · refine Or.inr ⟨?_, p, q⟩
          rw [zc_shr8, h2]
          exact ⟨by omega, q, d, by omega, by omega, d3⟩
  · constructor
    · intro h
      have := zc_brd hx h
      exact ⟨this.1, this.2, r, by omega, by omega, h⟩
    · rintro ⟨-, -, d, d1, d2, d3⟩
      rw [show r = d from by omega]; exact d3
  · constructor
    · intro h
      have := zc_brd hx h
      exact ⟨this.1, this.2, r, by omega, by omega, h⟩
    · rintro ⟨-, -, d, d1, d2, d3⟩
      rw [show r = d from by omega]; exact d3
theorem pc_sub_eq {x y : Int64} (h : ∀ r c, zc x r c → zc y r c) (hne : ¬ y = x) : pc x < pc y := by
  have : ∃ r c, zc y r c ∧ ¬ zc x r c := by
    apply Classical.byContradiction
    intro hn
    apply hne
    apply zc_ext
    intro r c
    exact ⟨fun q => Classical.byContradiction (fun z => hn ⟨r, c, q, z⟩), h r c⟩
  obtain ⟨r, c, h1, h2⟩ := this
  exact pc_mono h h2 h1
theorem hull_code {x : Int64} (hx : brd x) (μ : Mem) : ∃ y, F_X0_hull x μ = rJ y μ ∧ brd y ∧ ∀ r c, zc y r c ↔ hul (zc x) r c := by
  simp only [F_X0_hull]
  rw [show (0 : Int32) = i3 ((0 : Nat) : Int) from l3_0]
  refine loop_st (σ := Int64) (fun n i s => f_X0_hull_5 n s (i3 i) μ)
    (fun i s => brd s ∧ (∀ r c, zc x r c → zc s r c) ∧ (∀ r c, zc s r c → hul (zc x) r c) ∧ (i : Int) ≤ pc s)
    (fun o => ∃ y, o = rJ y μ ∧ brd y ∧ ∀ r c, zc y r c ↔ hul (zc x) r c) 48 ?_ ?_ BIG 0 x (by decide) (BIG_lt (by decide)) ⟨hx, fun r c h => h, fun r c h => hul_sub h, pc_nn x⟩
  · rintro n s ⟨h1, -, -, h4⟩
    have := pc_36 h1
    omega
  · rintro n i s hi ⟨h1, h2, h3, h4⟩
    obtain ⟨y, hy, hy2⟩ := between1_code h1 μ
    have hyb : brd y := (brd_iff y).mpr (fun r c h => ⟨((hy2 r c).mp h).1, ((hy2 r c).mp h).2.1⟩)
    obtain ⟨z, hz, hz2⟩ := between8_code hyb μ
    have hzb : brd z := (brd_iff z).mpr (fun r c h => ⟨((hz2 r c).mp h).1, ((hz2 r c).mp h).2.1⟩)
    have sy : ∀ r c, zc s r c → zc y r c := fun r c h => (hy2 r c).mpr ⟨(zc_brd h1 h).1, (zc_brd h1 h).2, ⟨c, Nat.le_refl _, h⟩, ⟨c, Nat.le_refl _, h⟩⟩
    have yz : ∀ r c, zc y r c → zc z r c := fun r c h => (hz2 r c).mpr ⟨(zc_brd hyb h).1, (zc_brd hyb h).2, ⟨r, Nat.le_refl _, h⟩, ⟨r, Nat.le_refl _, h⟩⟩
    have yh : ∀ r c, zc y r c → hul (zc x) r c := fun r c h => by
      obtain ⟨-, -, ⟨d, d1, d2⟩, ⟨e, e1, e2⟩⟩ := (hy2 r c).mp h
      exact (hul_cl (zc x)).1 r d c e d1 e1 (h3 r d d2) (h3 r e e2)
    have zh : ∀ r c, zc z r c → hul (zc x) r c := fun r c h => by
      obtain ⟨-, -, ⟨d, d1, d2⟩, ⟨e, e1, e2⟩⟩ := (hz2 r c).mp h
      exact (hul_cl (zc x)).2 c d r e d1 e1 (yh d c d2) (yh e c e2)
    simp only [f_X0_hull_5, lt_k, l3_48, hy, hz, cJ_k, inc3, zcmp_eq]
    rw [if_neg (nle3 (by omega))]
    by_cases he : z = s
    · right
      rw [if_pos he]
      refine ⟨s, rfl, h1, fun r c => ⟨h3 r c, fun h => h (zc s) h2 ⟨?_, ?_⟩⟩⟩
      · intro r c1 c c2 a b p q
        have h6 := zc_brd h1 p
        have h7 := zc_brd h1 q
        rw [← he]
        exact yz r c ((hy2 r c).mpr ⟨h6.1, by omega, ⟨c1, a, p⟩, ⟨c2, b, q⟩⟩)
      · intro c r1 r r2 a b p q
        have h6 := zc_brd h1 p
        have h7 := zc_brd h1 q
        rw [← he]
        exact (hz2 r c).mpr ⟨by omega, h6.2, ⟨r1, a, sy r1 c p⟩, ⟨r2, b, sy r2 c q⟩⟩
    · left
      rw [if_neg he]
      have := pc_sub_eq (fun r c h => yz r c (sy r c h)) he
      exact ⟨z, ⟨hzb, fun r c h => yz r c (sy r c (h2 r c h)), zh, by push_cast; omega⟩, rfl⟩
