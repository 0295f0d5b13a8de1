theorem and_or_in {x y : Int64} {r c : Nat} (h : zc y r c) : (x ||| bv (8 * r + c)) &&& y = (x &&& y) ||| bv (8 * r + c) := by
  have h1 := h.1
  have h2 := h.2.1
  apply zc_ext
  intro a b
  rw [zc_and, zc_or, zc_or, zc_and, zc_bv (by omega)]
  constructor
  · rintro ⟨p | p, q⟩
    · exact Or.inl ⟨p, q⟩
    · exact Or.inr p
  · rintro (⟨p, q⟩ | p)
    · exact ⟨Or.inl p, q⟩
    · have e1 : a = r := by omega
      have e2 : b = c := by omega
      subst e1 e2
      exact ⟨Or.inr p, h⟩
theorem and_or_out {x y : Int64} {r c : Nat} (hr : r < 8) (hc : c < 8) (h : ¬ zc y r c) : (x ||| bv (8 * r + c)) &&& y = x &&& y := by
  apply zc_ext
  intro a b
  rw [zc_and, zc_or, zc_and, zc_bv (by omega)]
  constructor
  · rintro ⟨p | p, q⟩
    · exact ⟨p, q⟩
    · have e1 : a = r := by omega
      have e2 : b = c := by omega
      subst e1 e2
      exact absurd q h
  · exact fun ⟨p, q⟩ => ⟨Or.inl p, q⟩
theorem wayOK_mono {forth back : Int64} {S T S' T' a0 a1 : Nat} {w : Int64} (h : wayOK forth back S T a0 a1 w) (hS : ∀ a, S.testBit a = true → S'.testBit a = true) (hT : ∀ a, T.testBit a = true → T'.testBit a = true) : wayOK forth back S' T' a0 a1 w :=
  ⟨fun a b q => ⟨(h.1 a b q).1, hS a (h.1 a b q).2.1, hT b (h.1 a b q).2.2⟩, h.2⟩
/-- a way that ends in the column c -/
def wayH (forth back : Int64) (S T a0 c : Nat) (w : Int64) : Prop :=
  (∀ a b, zc w a b → (zc forth a b ∨ zc back a b) ∧ S.testBit a = true ∧ (T.testBit b = true ∨ b = c)) ∧ (∀ a, zc w a c → zc forth a c) ∧
  (∀ a, a < 6 → rct (w &&& forth) a - rct (w &&& back) a = (if a = a0 then 1 else 0)) ∧
  (∀ b, b < 6 → cct (w &&& forth) b - cct (w &&& back) b = (if b = c then 1 else 0))
theorem way_half {forth back : Int64} {S T a0 r c : Nat} {w : Int64} (h : wayOK forth back S T a0 r w) (hr : r < 6) (hc : c < 6) (hf : zc forth r c) (hb : ¬ zc back r c) (hS : S.testBit r = true) (hT : ¬ T.testBit c = true) : wayH forth back S T a0 c (w ||| bv (8 * r + c)) := by
  obtain ⟨h1, h2, h3⟩ := h
  have hw : ¬ zc w r c := fun q => hT (h1 r c q).2.2
  have hwf : ¬ zc (w &&& forth) r c := fun q => hw ((zc_and _ _ _ _).mp q).1
  refine ⟨fun a b q => ?_, fun a q => ?_, fun a ha => ?_, fun b hb' => ?_⟩
  · rw [zc_or, zc_bv (by omega)] at q
    rcases q with q | q
    · exact ⟨(h1 a b q).1, (h1 a b q).2.1, Or.inl (h1 a b q).2.2⟩
    · have e1 : a = r := by omega
      have e2 : b = c := by omega
      subst e1 e2
      exact ⟨Or.inl hf, hS, Or.inr rfl⟩
  · rw [zc_or, zc_bv (by omega)] at q
    rcases q with q | q
    · exact absurd (h1 a c q).2.2 hT
    · have e1 : a = r := by omega
      subst e1
      exact hf
  · rw [and_or_in hf, and_or_out (by omega) (by omega) hb, rct_or hr hc hwf]
    have := h2 a ha
    omega
  · rw [and_or_in hf, and_or_out (by omega) (by omega) hb, cct_or hr hc hb' hwf]
    have := h3 b hb'
    omega
theorem way_back {forth back : Int64} {S T a0 r c : Nat} {w : Int64} (h : wayH forth back S T a0 c w) (hr : r < 6) (hc : c < 6) (hb : zc back r c) (hf : ¬ zc forth r c) (hS : ¬ S.testBit r = true) {S' T' : Nat}
    (hS' : ∀ a, S.testBit a = true → S'.testBit a = true) (hSr : S'.testBit r = true) (hT' : ∀ a, T.testBit a = true → T'.testBit a = true) (hTc : T'.testBit c = true) : wayOK forth back S' T' a0 r (w ||| bv (8 * r + c)) := by
  obtain ⟨h1, h0, h2, h3⟩ := h
  have hw : ¬ zc w r c := fun q => hS (h1 r c q).2.1
  have hwb : ¬ zc (w &&& back) r c := fun q => hw ((zc_and _ _ _ _).mp q).1
  refine ⟨fun a b q => ?_, fun a ha => ?_, fun b hb' => ?_⟩
  · rw [zc_or, zc_bv (by omega)] at q
    rcases q with q | q
    · refine ⟨(h1 a b q).1, hS' a (h1 a b q).2.1, ?_⟩
      rcases (h1 a b q).2.2 with z | z
      · exact hT' b z
      · rw [z]; exact hTc
    · have e1 : a = r := by omega
      have e2 : b = c := by omega
      subst e1 e2
      exact ⟨Or.inr hb, hSr, hTc⟩
  · rw [and_or_in hb, and_or_out (by omega) (by omega) hf, rct_or hr hc hwb]
    have := h2 a ha
    omega
  · rw [and_or_in hb, and_or_out (by omega) (by omega) hf, cct_or hr hc hb' hwb]
    have := h3 b hb'
    omega
/-- between two rows of the search: S seen, L of them to come, T the columns seen -/
def shI (μ : Mem) (goals : Nat) (forth back : Int64) (st i : Nat) (S L T : Nat) (s : Mem) : Prop :=
  fr [12] μ s ∧ (S < 64 ∧ L < 64 ∧ T < 64) ∧ S.testBit st = true ∧ (∀ a, L.testBit a = true → S.testBit a = true) ∧
  (∀ a, S.testBit a = true → wayOK forth back S T st a (s.2.1 12 a)) ∧
  (∀ b, T.testBit b = true → (∀ a, zc back a b → S.testBit a = true) ∧ ¬ goals.testBit b = true) ∧
  (∀ a, S.testBit a = true → ¬ L.testBit a = true → ∀ b, zc forth a b → T.testBit b = true) ∧ pi L + i = pi S
/-- in the row r, its columns below c looked at -/
def shJ (μ : Mem) (goals : Nat) (forth back : Int64) (st i r c : Nat) (S L T : Nat) (s : Mem) : Prop :=
  fr [12] μ s ∧ (S < 64 ∧ L < 64 ∧ T < 64) ∧ S.testBit st = true ∧ (∀ a, L.testBit a = true → S.testBit a = true) ∧
  (∀ a, S.testBit a = true → wayOK forth back S T st a (s.2.1 12 a)) ∧
  (∀ b, T.testBit b = true → (∀ a, zc back a b → S.testBit a = true) ∧ ¬ goals.testBit b = true) ∧
  (∀ a, S.testBit a = true → ¬ L.testBit a = true → ¬ a = r → ∀ b, zc forth a b → T.testBit b = true) ∧ pi L + i + 1 = pi S ∧
  S.testBit r = true ∧ ¬ L.testBit r = true ∧ (∀ b, b < c → zc forth r b → T.testBit b = true)
def shF (μ : Mem) (goals : Nat) (forth back : Int64) (st : Nat) (o : Out) : Prop := ∃ μ' g w, o = rI (i3 1) μ' ∧ fr [6, 12] μ μ' ∧ μ'.2.1 6 1 = μ.2.1 6 1 ^^^ w ∧ μ'.2.1 6 2 = μ.2.1 6 2 ∧ g < 6 ∧ goals.testBit g = true ∧
  (∀ a b, zc w a b → zc forth a b ∨ zc back a b) ∧ (∀ a, zc w a g → zc forth a g) ∧
  (∀ a, a < 6 → rct (w &&& forth) a - rct (w &&& back) a = (if a = st then 1 else 0)) ∧ (∀ b, b < 6 → cct (w &&& forth) b - cct (w &&& back) b = (if b = g then 1 else 0))
def shN (μ : Mem) (goals : Nat) (forth back : Int64) (st : Nat) (o : Out) : Prop := ∃ (μ' : Mem) (S T : Nat), o = rI (i3 0) μ' ∧ fr [12] μ μ' ∧ S.testBit st = true ∧ (∀ a b, S.testBit a = true → zc forth a b → T.testBit b = true) ∧
  (∀ a b, T.testBit b = true → zc back a b → S.testBit a = true) ∧ ∀ b, T.testBit b = true → ¬ goals.testBit b = true
theorem shift_row {μ : Mem} {goals st i r : Nat} {forth back : Int64} (hg : goals < 64) (hF : brd forth) (hB : brd back) (hd : ∀ a b, zc forth a b → ¬ zc back a b) (hi : i < 6) (hr : r < 6)
    (k19 : Int32 → Int64 → Int64 → Int32 → Int32 → Int32 → Int32 → Mem → Out) (S L T : Nat) (s : Mem) (h : shJ μ goals forth back st i r 0 S L T s) :
    shF μ goals forth back st (f_X2_shift_56 k19 BIG (i3 goals) forth back (i3 S) (i3 L) (i3 T) (i3 i) (i3 r) (0 : Int32) s) ∨
    ∃ S' L' T' s', shI μ goals forth back st (i + 1) S' L' T' s' ∧ f_X2_shift_56 k19 BIG (i3 goals) forth back (i3 S) (i3 L) (i3 T) (i3 i) (i3 r) (0 : Int32) s = k19 (i3 goals) forth back (i3 S') (i3 L') (i3 T') (i3 ((i + 1 : Nat) : Int)) s' := by
  rw [show (0 : Int32) = i3 ((0 : Nat) : Int) from l3_0]
  refine loop_st (σ := Nat × Nat × Nat × Mem) (fun n c z => f_X2_shift_56 k19 n (i3 goals) forth back (i3 z.1) (i3 z.2.1) (i3 z.2.2.1) (i3 i) (i3 r) (i3 c) z.2.2.2)
    (fun c z => shJ μ goals forth back st i r c z.1 z.2.1 z.2.2.1 z.2.2.2)
    (fun o => shF μ goals forth back st o ∨ ∃ S' L' T' s', shI μ goals forth back st (i + 1) S' L' T' s' ∧ o = k19 (i3 goals) forth back (i3 S') (i3 L') (i3 T') (i3 ((i + 1 : Nat) : Int)) s') 6 ?_ ?_ BIG 0 (S, L, T, s) (by decide) (BIG_lt (by decide)) h
  · rintro n ⟨S, L, T, s⟩ ⟨h1, h2, h3, h4, h5, h6, h7, h8, h9, h10, h11⟩
    simp only at h1 h2 h3 h4 h5 h6 h7 h8 h9 h10 h11
    right
    simp only [f_X2_shift_56, l3_6, lt_k, inc3]
    rw [if_pos (le3 (by omega))]
    refine ⟨S, L, T, s, ⟨h1, h2, h3, h4, h5, h6, fun a q1 q2 b q3 => ?_, by push_cast; omega⟩, rfl⟩
    by_cases har : a = r
    · subst har
      exact h11 b (zc_brd hF q3).2 q3
    · exact h7 a q1 q2 har b q3
  · rintro n c ⟨S, L, T, s⟩ hc ⟨h1, h2, h3, h4, h5, h6, h7, h8, h9, h10, h11⟩
    simp only at h1 h2 h3 h4 h5 h6 h7 h8 h9 h10 h11
    simp only [f_X2_shift_56, l3_6, lt_k, inc3, bit_code, cJ_k, wayToRow_code hr, m_shr h2.2.2 hc, m_shr hg hc, m_bit hc, m_or h2.2.2 (m_bit64 hc)]
    rw [if_neg (nle3 (by omega))]
    have skip : (zc forth r c → T.testBit c = true) → shJ μ goals forth back st i r (c + 1) S L T s := fun hq =>
      ⟨h1, h2, h3, h4, h5, h6, h7, h8, h9, h10, fun b q1 q2 => by
        by_cases hbc : b = c
        · subst hbc; exact hq q2
        · exact h11 b (by omega) q2⟩
    by_cases hf : zc forth r c
    · rw [if_neg (bv_t hf)]
      cases hT : T.testBit c
      · rw [show b2 false = 0 from rfl, if_pos (by decide)]
        have hTc : ¬ T.testBit c = true := by rw [hT]; decide
        have hb : ¬ zc back r c := hd r c hf
        have hhalf := way_half (h5 r h9) hr hc hf hb h9 hTc
        cases hgc : goals.testBit c
        · left
          rw [show b2 false = 0 from rfl, if_pos (by decide)]
          obtain ⟨e, s', e1, e2, e3, e4, e5⟩ := enterRows_code hc h2.1 (s.2.1 12 r ||| bv (8 * r + c)) back s
          rw [e1, cI_k, m_or h2.1 e3, m_or h2.2.1 e3]
          have hT' : ∀ a, T.testBit a = true → (T ||| 2 ^ c).testBit a = true := fun a q => (m_tor _ _ _).mpr (Or.inl q)
          have hTc' : (T ||| 2 ^ c).testBit c = true := (m_tor _ _ _).mpr (Or.inr ((m_tbit _ _).mpr rfl))
          have hS' : ∀ a, S.testBit a = true → (S ||| e).testBit a = true := fun a q => (m_tor _ _ _).mpr (Or.inl q)
          have dSe : S &&& e = 0 := m_disj (fun k q1 q2 => ((e4 k).mp q2).2.2 q1)
          have dLe : L &&& e = 0 := m_disj (fun k q1 q2 => ((e4 k).mp q2).2.2 (h4 k q1))
          refine ⟨(S ||| e, L ||| e, T ||| 2 ^ c, s'), ⟨fr_tr h1 e2, ⟨m_or64 h2.1 e3, m_or64 h2.2.1 e3, m_or64 h2.2.2 (m_bit64 hc)⟩, hS' st h3, fun a q => ?_, fun a q => ?_, fun b q => ?_, fun a q1 q2 q3 b q4 => ?_, ?_, hS' r h9, fun q => ?_, fun b q1 q2 => ?_⟩, rfl⟩
          · rw [m_tor] at q ⊢
            rcases q with q | q
            · exact Or.inl (h4 a q)
            · exact Or.inr q
          · have ha6 : a < 6 := m_hi (m_or64 h2.1 e3) q
            rw [e5 a ha6]
            cases hea : e.testBit a
            · rw [if_neg (by decide)]
              rw [m_tor, hea] at q
              exact wayOK_mono (h5 a (q.resolve_right (by decide))) hS' hT'
            · rw [if_pos rfl]
              have hz := (e4 a).mp hea
              refine way_back hhalf ha6 hc hz.2.1 (fun z => hd a c z hz.2.1) hz.2.2 hS' q hT' hTc'
          · rw [m_tor] at q
            rcases q with q | q
            · exact ⟨fun a z => hS' a ((h6 b q).1 a z), (h6 b q).2⟩
            · rw [m_tbit] at q
              subst q
              refine ⟨fun a z => ?_, by rw [hgc]; decide⟩
              rw [m_tor]
              by_cases hsa : S.testBit a = true
              · exact Or.inl hsa
              · exact Or.inr ((e4 a).mpr ⟨(zc_brd hB z).1, z, hsa⟩)
          · rw [m_tor] at q1
            rcases q1 with q1 | q1
            · exact hT' b (h7 a q1 (fun z => q2 ((m_tor _ _ _).mpr (Or.inl z))) q3 b q4)
            · exact absurd ((m_tor _ _ _).mpr (Or.inr q1)) q2
          · rw [pi_or h2.2.1 e3 dLe, pi_or h2.1 e3 dSe]; omega
          · rw [m_tor] at q
            rcases q with q | q
            · exact h10 q
            · exact ((e4 r).mp q).2.2 h9
          · by_cases hbc : b = c
            · subst hbc; exact hTc'
            · exact hT' b (h11 b (by omega) q2)
        · right; left
          rw [show b2 true = 1 from rfl, if_neg (by decide), l3_1]
          refine ⟨_, c, s.2.1 12 r ||| bv (8 * r + c), rfl, fr_tr (fr_w h1 (by simp)) (fr_sJ (by simp)), ?_, ?_, hc, hgc, fun a b q => (hhalf.1 a b q).1, hhalf.2.1, hhalf.2.2.1, hhalf.2.2.2⟩
          · rw [sJ_21, up2_same, fr_2 h1 (by simp)]
          · rw [sJ_21, up2_j _ _ _ _ _ (by decide), fr_2 h1 (by simp)]
      · rw [show b2 true = 1 from rfl, if_neg (by decide)]
        exact Or.inl ⟨(S, L, T, s), skip (fun _ => hT), rfl⟩
    · rw [if_pos (bv_f (by omega) (by omega) hf)]
      exact Or.inl ⟨(S, L, T, s), skip (fun q => absurd q hf), rfl⟩
theorem shift_code {goals st : Nat} {forth back : Int64} (hg : goals < 64) (hst : st < 6) (hF : brd forth) (hB : brd back) (hd : ∀ a b, zc forth a b → ¬ zc back a b) (μ : Mem) :
    shF μ goals forth back st (F_X2_shift (i3 st) (i3 goals) forth back μ) ∨ shN μ goals forth back st (F_X2_shift (i3 st) (i3 goals) forth back μ) := by
  obtain ⟨s, hs1, hs2, hs3⟩ := forgetWays_code μ
  simp only [F_X2_shift, hs1, cV_k, lt_k, m_bit hst]
  rw [show (0 : Int32) = i3 ((0 : Nat) : Int) from l3_0]
  refine loop_st (σ := Nat × Nat × Nat × Mem) (fun n i z => f_X2_shift_19 n (i3 goals) forth back (i3 z.1) (i3 z.2.1) (i3 z.2.2.1) (i3 i) z.2.2.2)
    (fun i z => shI μ goals forth back st i z.1 z.2.1 z.2.2.1 z.2.2.2)
    (fun o => shF μ goals forth back st o ∨ shN μ goals forth back st o) 6 ?_ ?_ BIG 0 (2 ^ st, 2 ^ st, 0, s) (by decide) (BIG_lt (by decide)) ?_
  · rintro n ⟨S, L, T, s⟩ ⟨h1, h2, h3, h4, h5, h6, h7, h8⟩
    simp only at h1 h2 h3 h4 h5 h6 h7 h8
    right
    simp only [f_X2_shift_19, l3_6]
    rw [if_pos (le3 (by omega)), l3_0]
    have hL : L = 0 := by
      apply Classical.byContradiction
      intro hq
      have := pi_pos h2.2.1 hq
      have := pi_6 (m := S)
      omega
    refine ⟨s, S, T, rfl, h1, h3, fun a b q1 q2 => h7 a q1 (by rw [hL]; simp) b q2, fun a b q1 q2 => (h6 b q1).1 a q2, fun b q => (h6 b q).2⟩
  · rintro n i ⟨S, L, T, s⟩ hi ⟨h1, h2, h3, h4, h5, h6, h7, h8⟩
    simp only at h1 h2 h3 h4 h5 h6 h7 h8
    simp only [f_X2_shift_19, l3_6, m_eq0 h2.2.1]
    rw [if_neg (nle3 (by omega))]
    by_cases hL : L = 0
    · right; right
      rw [if_pos hL, l3_0]
      exact ⟨s, S, T, rfl, h1, h3, fun a b q1 q2 => h7 a q1 (by rw [hL]; simp) b q2, fun a b q1 q2 => (h6 b q1).1 a q2, fun b q => (h6 b q).2⟩
    · rw [if_neg hL, m_low h2.2.1 hL, cI_k]
      obtain ⟨c1, c2, c3, c4, c5, c6⟩ := m_clr h2.2.1 hL
      rw [c1, lt_k]
      have hj : shJ μ goals forth back st i (ctz L) 0 S (L &&& (L - 1)) T s := by
        refine ⟨h1, ⟨h2.1, c6, h2.2.2⟩, h3, fun a q => ?_, h5, h6, fun a q1 q2 q3 b q4 => ?_, by omega, h4 _ c4, ?_, fun b q => by omega⟩
        · have ha := m_hi c6 q
          rw [c2 a ha, Bool.and_eq_true] at q
          exact h4 a q.1
        · refine h7 a q1 (fun z => q2 ?_) b q4
          have ha := m_hi h2.2.1 z
          rw [c2 a ha, z, decide_eq_false q3]; rfl
        · rw [c2 _ c5, c4]; simp
      rcases shift_row hg hF hB hd hi c5 (f_X2_shift_19 n) S (L &&& (L - 1)) T s hj with hq | ⟨S', L', T', s', q1, q2⟩
      · exact Or.inr (Or.inl hq)
      · exact Or.inl ⟨(S', L', T', s'), q1, q2⟩
  · have hb : ∀ a, (2 ^ st).testBit a = true ↔ a = st := m_tbit st
    refine ⟨hs2, ⟨m_bit64 hst, m_bit64 hst, (show 0 < 64 by decide)⟩, (hb st).mpr rfl, fun a q => q, fun a q => ?_, fun b q => ?_, fun a q1 q2 => absurd q1 q2, by simp⟩
    · have ha := (hb a).mp q
      subst ha
      rw [hs3 a hst]
      have z0 : ∀ x : Int64, (0 : Int64) &&& x = 0 := fun x => zc_ext (fun r c => by rw [zc_and]; exact ⟨fun q => q.1, fun q => absurd q (zc_0 _ _)⟩)
      refine ⟨fun x y q => absurd q (zc_0 _ _), fun x _ => ?_, fun y _ => ?_⟩
      · rw [z0, z0]; omega
      · rw [z0, z0]
    · simp at q
