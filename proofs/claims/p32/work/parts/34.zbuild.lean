/-! building a fitting picture -/
theorem rct_mono {x y : Int64} {a : Nat} (ha : a < 6) (h : ∀ c, zc x a c → zc y a c) : rct x a ≤ rct y a :=
  zs_le (fun c hc => b2_imp (fun q => (h c ((tb_iff (by omega) (by omega)).mp q)).2.2))
theorem cct_mono {x y : Int64} {a : Nat} (ha : a < 6) (h : ∀ r, zc x r a → zc y r a) : cct x a ≤ cct y a :=
  zs_le (fun r hr => b2_imp (fun q => (h r ((tb_iff (by omega) (by omega)).mp q)).2.2))
theorem rct_out {x : Int64} {a : Nat} (ha : a < 6) (h : ∀ c, ¬ zc x a c) : rct x a = 0 :=
  (zs_congr (fun c hc => by rw [tb_f (fun q => h c ((tb_iff (by omega) (by omega)).mp q))]; rfl)).trans (zs_zero 6)
theorem cct_out {x : Int64} {a : Nat} (ha : a < 6) (h : ∀ r, ¬ zc x r a) : cct x a = 0 :=
  (zs_congr (fun r hr => by rw [tb_f (fun q => h r ((tb_iff (by omega) (by omega)).mp q))]; rfl)).trans (zs_zero 6)
theorem cnt_rows {P : Pic} (ok : okP P) {K : Int64} (hK : ∀ r c, zc K r c → r < nR P ∧ c < nC P) (h : ∀ l, l < nR P + nC P → cnt (nR P) K l ≤ wnt P l) : (∀ a, a < 6 → rct K a ≤ dgn (wU P) a) ∧ (∀ a, a < 6 → cct K a ≤ dgn (wV P) a) := by
  constructor
  · intro a ha
    by_cases hq : a < nR P
    · have := h a (by omega)
      unfold cnt wnt at this
      rw [if_neg (by omega), if_neg (by omega)] at this
      exact this
    · rw [rct_out ha (fun c z => hq (hK a c z).1)]; omega
  · intro a ha
    by_cases hq : a < nC P
    · have := h (nR P + a) (by omega)
      unfold cnt wnt at this
      rw [if_pos (by omega), if_pos (by omega), show nR P + a - nR P = a from by omega] at this
      exact this
    · rw [cct_out ha (fun c z => hq (hK c a z).2)]; omega
theorem fit_cnt {P : Pic} (ok : okP P) {y : Int64} (h : fitC P y) {l : Nat} (hl : l < nR P + nC P) : cnt (nR P) y l = wnt P l := by
  have o1 := ok.2.1
  have o2 := ok.2.2.2.1
  unfold cnt wnt
  by_cases hq : nR P ≤ l
  · rw [if_pos hq, if_pos hq]; exact h.2.2 _ (by omega)
  · rw [if_neg hq, if_neg hq]; exact h.2.1 _ (by omega)
theorem hasTooFull_code {μ : Mem} {k : Nat} {P : Pic} (h : CP μ k P) (ok : okP P) (hK : ∀ r c, zc (μ.2.1 6 1) r c → r < nR P ∧ c < nC P) :
    (F_X2_hasTooFullLine k μ = rI (i3 0) μ ∧ ∀ l, l < nR P + nC P → cnt (nR P) (μ.2.1 6 1) l ≤ wnt P l) ∨ (F_X2_hasTooFullLine k μ = rI (i3 1) μ ∧ ∃ l, l < nR P + nC P ∧ ¬ cnt (nR P) (μ.2.1 6 1) l ≤ wnt P l) := by
  have o1 := ok.2.1
  have o2 := ok.2.2.2.1
  simp only [F_X2_hasTooFullLine]
  rw [show (0 : Int32) = i3 ((0 : Nat) : Int) from l3_0]
  refine loop_st (σ := Unit) (fun n i _ => f_X2_hasTooFullLine_2 k n (i3 i) μ) (fun i _ => ∀ l, l < i → cnt (nR P) (μ.2.1 6 1) l ≤ wnt P l)
    (fun o => (o = rI (i3 0) μ ∧ ∀ l, l < nR P + nC P → cnt (nR P) (μ.2.1 6 1) l ≤ wnt P l) ∨ (o = rI (i3 1) μ ∧ ∃ l, l < nR P + nC P ∧ ¬ cnt (nR P) (μ.2.1 6 1) l ≤ wnt P l)) (nR P + nC P) ?_ ?_ BIG 0 () (by omega) (BIG_lt (by omega)) (fun l q => by omega)
  · rintro n - q
    left
    simp only [f_X2_hasTooFullLine_2, h.1, h.2.1, i3_add, l3_0]
    rw [if_pos (le3 (by omega))]
    exact ⟨rfl, q⟩
  · rintro n i - hi q
    have c0 := cnt_0 (nR P) (μ.2.1 6 1) i
    have c6 := cnt_6 (nR P) (μ.2.1 6 1) i
    have w6 := wnt_6 ok hi
    simp only [f_X2_hasTooFullLine_2, h.1, h.2.1, i3_add, lineMask_code h ok hi, cJ_k, pc_code, cI_k, wantedOf_code h ok hi, lt_k, inc3, l3_1, pc_lm o1 o2 hK hi]
    rw [if_neg (nle3 (by omega))]
    by_cases e : cnt (nR P) (μ.2.1 6 1) i ≤ wnt P i
    · left
      rw [if_pos (le3 (by omega))]
      refine ⟨(), fun l hl => ?_, by rw [Int.natCast_add]; exact nr rfl⟩
      by_cases hli : l = i
      · rw [hli]; exact e
      · exact q l (by omega)
    · right; right
      rw [if_neg (nle3 (by omega))]
      exact ⟨rfl, i, hi, e⟩
theorem columnsWithRoom_code {μ : Mem} {k : Nat} {P : Pic} (h : CP μ k P) (ok : okP P) (hK : brd (μ.2.1 6 1)) : ∃ g, F_X2_columnsWithRoom k μ = rI (i3 ((g : Nat) : Int)) μ ∧ g < 64 ∧ ∀ b, g.testBit b = true ↔ b < nC P ∧ cct (μ.2.1 6 1) b < dgn (wV P) b := by
  have o1 := ok.2.1
  have o2 := ok.2.2.2.1
  simp only [F_X2_columnsWithRoom]
  rw [show (0 : Int32) = i3 ((0 : Nat) : Int) from l3_0]
  refine loop_st (σ := Nat) (fun n i g => f_X2_columnsWithRoom_4 k n (i3 g) (i3 i) μ) (fun i g => g < 64 ∧ ∀ b, g.testBit b = true ↔ b < i ∧ cct (μ.2.1 6 1) b < dgn (wV P) b)
    (fun o => ∃ g, o = rI (i3 ((g : Nat) : Int)) μ ∧ g < 64 ∧ ∀ b, g.testBit b = true ↔ b < nC P ∧ cct (μ.2.1 6 1) b < dgn (wV P) b) (nC P) ?_ ?_ BIG 0 0 (by omega) (BIG_lt (by omega)) ⟨by decide, fun b => by simp⟩
  · rintro n g ⟨q1, q2⟩
    simp only [f_X2_columnsWithRoom_4, h.2.1]
    rw [if_pos (le3 (by omega))]
    exact ⟨g, rfl, q1, q2⟩
  · rintro n i g hi ⟨q1, q2⟩
    left
    have c0 := cct_0 (μ.2.1 6 1) i
    have c6 := cct_6 (μ.2.1 6 1) i
    have hw : wnt P (nR P + i) = dgn (wV P) i := by unfold wnt; rw [if_pos (by omega), show nR P + i - nR P = i from by omega]
    have w6 := wnt_6 ok (l := nR P + i) (by omega)
    rw [hw] at w6
    have hwc := wantedOf_code h ok (l := nR P + i) (by omega)
    rw [hw] at hwc
    have hpc : pc (μ.2.1 6 1 &&& shlL (1103823438081 : Int64) (i3 (i : Int))) = cct (μ.2.1 6 1) i := pc_col hK (by omega) (fun a c z => by
      rw [zc_colMask (by omega)]
      exact ⟨fun w => w.2, fun w => ⟨(zc_brd hK z).1, w⟩⟩)
    simp only [f_X2_columnsWithRoom_4, h.2.1, F_X0_columnMask, cJ_k, pc_code, cI_k, h.1, lt_k, hpc]
    rw [if_neg (nle3 (by omega)), i3_add, show (nR P : Int) + (i : Int) = ((nR P + i : Nat) : Int) from by push_cast; rfl, hwc, cI_k, m_bit (by omega), m_or q1 (m_bit64 (by omega)), inc3]
    by_cases e : (dgn (wV P) i : Int) ≤ cct (μ.2.1 6 1) i
    · rw [if_pos (le3 (by omega))]
      refine ⟨g, ⟨q1, fun b => ?_⟩, rfl⟩
      rw [q2]
      constructor
      · rintro ⟨a1, a2⟩; exact ⟨by omega, a2⟩
      · rintro ⟨a1, a2⟩
        by_cases hb : b = i
        · subst hb; omega
        · exact ⟨by omega, a2⟩
    · rw [if_neg (nle3 (by omega))]
      refine ⟨g ||| 2 ^ i, ⟨m_or64 q1 (m_bit64 (by omega)), fun b => ?_⟩, rfl⟩
      rw [m_tor, m_tbit, q2]
      constructor
      · rintro (⟨a1, a2⟩ | a1)
        · exact ⟨by omega, a2⟩
        · subst a1; exact ⟨by omega, by omega⟩
      · rintro ⟨a1, a2⟩
        by_cases hb : b = i
        · exact Or.inr hb
        · exact Or.inl ⟨by omega, a2⟩
theorem sum_eq (y : Int64) : zs 6 (fun a => rct y a) = zs 6 (fun a => cct y a) := zs_comm 6 6 (fun a b => b2 (tb y (8 * a + b)))
/-- y fits, and is as x in the cells of m -/
def fitE (P : Pic) (m x y : Int64) : Prop := fitC P y ∧ ∀ r c, zc m r c → (zc y r c ↔ zc x r c)
def bdT (P : Pic) (m x : Int64) (μ : Mem) (o : Out) : Prop := ∃ μ', o = rI (i3 1) μ' ∧ fr [6, 12] μ μ' ∧ fitE P m x (μ'.2.1 6 1) ∧ ∀ r c, zc (μ'.2.1 6 2) r c ↔ (r < nR P ∧ c < nC P) ∧ ¬ zc m r c
def bdN (P : Pic) (m x : Int64) (μ : Mem) (o : Out) : Prop := ∃ μ', o = rI (i3 0) μ' ∧ fr [6, 12] μ μ' ∧ ¬ ∃ y, fitE P m x y
/-- while the rows are being filled -/
def bdI2 (P : Pic) (m x : Int64) (μ s : Mem) : Prop := fr [6, 12] μ s ∧ (∀ r c, zc (s.2.1 6 1) r c → r < nR P ∧ c < nC P) ∧ (∀ r c, zc m r c → (zc (s.2.1 6 1) r c ↔ zc x r c)) ∧
  (∀ r c, zc (s.2.1 6 2) r c ↔ (r < nR P ∧ c < nC P) ∧ ¬ zc m r c) ∧ (∀ a, a < 6 → rct (s.2.1 6 1) a ≤ dgn (wU P) a) ∧ (∀ a, a < 6 → cct (s.2.1 6 1) a ≤ dgn (wV P) a)
theorem build_fill {μ s : Mem} {k : Nat} {P : Pic} (ok : okP P) (h : CP s k P) (hk : k ∉ [6, 12]) {m x : Int64} (hs : bdI2 P m x μ s) {r : Nat} (hr : r < nR P) (hlt : rct (s.2.1 6 1) r < dgn (wU P) r) :
    ∃ g, F_X2_columnsWithRoom k s = rI (i3 ((g : Nat) : Int)) s ∧
    ((∃ s', F_X2_shift (i3 r) (i3 g) (s.2.1 6 2 &&& (s.2.1 6 1 ^^^ (-1 : Int64))) (s.2.1 6 2 &&& s.2.1 6 1) s = rI (i3 1) s' ∧ bdI2 P m x μ s' ∧ CP s' k P ∧ ∀ a, a < 6 → rct (s'.2.1 6 1) a = rct (s.2.1 6 1) a + (if a = r then 1 else 0)) ∨
     (∃ s', F_X2_shift (i3 r) (i3 g) (s.2.1 6 2 &&& (s.2.1 6 1 ^^^ (-1 : Int64))) (s.2.1 6 2 &&& s.2.1 6 1) s = rI (i3 0) s' ∧ fr [6, 12] μ s' ∧ ¬ ∃ y, fitE P m x y)) := by
  have o1 := ok.2.1
  have o2 := ok.2.2.2.1
  obtain ⟨b1, b2', b3, b4, b5, b6⟩ := hs
  have hKb : brd (s.2.1 6 1) := (brd_iff _).mpr (fun r c q => by have := b2' r c q; omega)
  have hFb : brd (s.2.1 6 2) := (brd_iff _).mpr (fun r c q => by have := ((b4 r c).mp q).1; omega)
  obtain ⟨g, g1, g2, g3⟩ := columnsWithRoom_code h ok hKb
  refine ⟨g, g1, ?_⟩
  generalize hKK : s.2.1 6 1 = K at *
  generalize hFF : s.2.1 6 2 = F at *
  have hd : ∀ a b, zc (F &&& (K ^^^ (-1 : Int64))) a b → ¬ zc (F &&& K) a b := fun a b q1 q2 => ((zc_rem a b).mp q1).2 ((zc_and _ _ _ _).mp q2).2
  rcases shift_code g2 (show r < 6 by omega) (brd_rem hFb) (brd_sub hFb (fun a b q => ((zc_and _ _ _ _).mp q).1)) hd s with ⟨s', t, w, s1, s2, s3, s4, s5, s6, s7, s8, s9, s10⟩ | ⟨s', S, T, s1, s2, s3, s4, s5, s6⟩
  · left
    rw [hKK] at s3
    rw [hFF] at s4
    have fl := flip_up (K := K) s7 (fun a b q => ((zc_rem a b).mp q).2) (fun a b q => ((zc_and _ _ _ _).mp q).2)
    have wF : ∀ a b, zc w a b → zc F a b := fun a b q => by
      rcases s7 a b q with z | z
      · exact ((zc_and _ _ _ _).mp z).1
      · exact ((zc_and _ _ _ _).mp z).1
    have rows : ∀ a, a < 6 → rct (s'.2.1 6 1) a = rct K a + (if a = r then 1 else 0) := fun a ha => by rw [s3, fl.1 a ha, s9 a ha]
    have cols : ∀ a, a < 6 → cct (s'.2.1 6 1) a = cct K a + (if a = t then 1 else 0) := fun a ha => by rw [s3, fl.2 a ha, s10 a ha]
    refine ⟨s', s1, ⟨fr_tr b1 s2, fun a b q => ?_, fun a b q => ?_, fun a b => by rw [s4]; exact b4 a b, fun a ha => ?_, fun a ha => ?_⟩, CP_fr h s2 hk, rows⟩
    · rw [s3, zc_xor] at q
      rcases q with q | q
      · exact b2' a b q.1
      · exact ((b4 a b).mp (wF a b q.2)).1
    · rw [s3, zc_xor, ← b3 a b q]
      have hw : ¬ zc w a b := fun z => ((b4 a b).mp (wF a b z)).2 q
      simp [hw]
    · rw [rows a ha]
      by_cases e : a = r
      · rw [if_pos e, e]; omega
      · rw [if_neg e]; have := b5 a ha; omega
    · rw [cols a ha]
      have := (g3 t).mp s6
      by_cases e : a = t
      · rw [if_pos e, e]; omega
      · rw [if_neg e]; have := b6 a ha; omega
  · right
    refine ⟨s', s1, fr_tr b1 (fr_w s2 (by simp)), ?_⟩
    rintro ⟨y, y1, y2⟩
    have hcut := cut_le (S := S) (T := T) (x := K) (y := y) (fun a b ha hb q1 q2 q3 => ?_) (fun a b ha hb q1 q2 q3 => ?_)
    · have e1 : sS S K < sS S y := by
        refine zs_lt (fun a ha => ?_) r (by omega) ?_
        · cases S.testBit a
          · exact Int.le_refl _
          · show rct K a ≤ rct y a
            rw [y1.2.1 a ha]; exact b5 a ha
        · show (if S.testBit r then rct K r else 0) < (if S.testBit r then rct y r else 0)
          rw [s3]
          show rct K r < rct y r
          rw [y1.2.1 r (by omega)]; exact hlt
      have e2 : sT T y = sT T K := by
        apply zs_congr
        intro b hb
        cases ht : T.testBit b
        · rfl
        · show cct y b = cct K b
          rw [y1.2.2 b hb]
          have h1 := b6 b hb
          have h2 : ¬ (b < nC P ∧ cct K b < dgn (wV P) b) := fun q => s6 b ht ((g3 b).mpr q)
          by_cases hbc : b < nC P
          · by_cases h3 : cct K b < dgn (wV P) b
            · exact absurd ⟨hbc, h3⟩ h2
            · omega
          · have h4 := (ok.2.2.2.2.2.2.2 b hb).2 (by omega)
            have := cct_0 K b
            rw [h4] at h1 ⊢; omega
      omega
    · have hbd := y1.1 a b q3
      by_cases hm : zc m a b
      · exact (b3 a b hm).mpr ((y2 a b hm).mp q3)
      · exact Classical.byContradiction (fun q4 => q2 (s4 a b q1 ((zc_rem a b).mpr ⟨(b4 a b).mpr ⟨hbd, hm⟩, q4⟩)))
    · have hbd := b2' a b q3
      by_cases hm : zc m a b
      · exact (y2 a b hm).mpr ((b3 a b hm).mp q3)
      · exact absurd (s5 a b q2 ((zc_and _ _ _ _).mpr ⟨(b4 a b).mpr ⟨hbd, hm⟩, q3⟩)) q1
theorem build_row {μ s : Mem} {k : Nat} {P : Pic} (ok : okP P) (h : CP s k P) (hk : k ∉ [6, 12]) {m x : Int64} (hs : bdI2 P m x μ s) {r : Nat} (hr : r < nR P) (k46 : Int32 → Mem → Out) :
    bdN P m x μ (f_X2_build_80 k k46 BIG (i3 r) (i3 ((dgn (wU P) r : Int) - rct (s.2.1 6 1) r)) (0 : Int32) s) ∨
    ∃ s', bdI2 P m x μ s' ∧ CP s' k P ∧ (∀ a, a < 6 → ¬ a = r → rct (s'.2.1 6 1) a = rct (s.2.1 6 1) a) ∧ rct (s'.2.1 6 1) r = dgn (wU P) r ∧ f_X2_build_80 k k46 BIG (i3 r) (i3 ((dgn (wU P) r : Int) - rct (s.2.1 6 1) r)) (0 : Int32) s = k46 (i3 ((r + 1 : Nat) : Int)) s' := by
  have o1 := ok.2.1
  have hle := hs.2.2.2.2.1 r (by omega)
  have c0 := rct_0 (s.2.1 6 1) r
  have w6 := (ok.2.2.2.2.2.2.1 r (by omega)).1
  obtain ⟨M, hM⟩ : ∃ M : Nat, (dgn (wU P) r : Int) - rct (s.2.1 6 1) r = M := ⟨((dgn (wU P) r : Int) - rct (s.2.1 6 1) r).toNat, by omega⟩
  rw [hM, show (0 : Int32) = i3 ((0 : Nat) : Int) from l3_0]
  refine loop_st (σ := Mem) (fun n i z => f_X2_build_80 k k46 n (i3 r) (i3 M) (i3 i) z)
    (fun i z => bdI2 P m x μ z ∧ CP z k P ∧ (∀ a, a < 6 → ¬ a = r → rct (z.2.1 6 1) a = rct (s.2.1 6 1) a) ∧ rct (z.2.1 6 1) r = rct (s.2.1 6 1) r + i)
    (fun o => bdN P m x μ o ∨ ∃ s', bdI2 P m x μ s' ∧ CP s' k P ∧ (∀ a, a < 6 → ¬ a = r → rct (s'.2.1 6 1) a = rct (s.2.1 6 1) a) ∧ rct (s'.2.1 6 1) r = dgn (wU P) r ∧ o = k46 (i3 ((r + 1 : Nat) : Int)) s') M ?_ ?_ BIG 0 s (by omega) (BIG_lt (by omega)) ⟨hs, h, fun _ _ _ => rfl, by simp⟩
  · rintro n z ⟨q1, q2, q3, q4⟩
    right
    simp only [f_X2_build_80, lt_k, inc3]
    rw [if_pos (le3 (by omega))]
    exact ⟨z, q1, q2, q3, by omega, rfl⟩
  · rintro n i z hi ⟨q1, q2, q3, q4⟩
    obtain ⟨g, g1, g2⟩ := build_fill ok q2 hk q1 hr (by omega)
    simp only [f_X2_build_80, lt_k, inc3, g1, cI_k]
    rw [if_neg (nle3 (by omega))]
    rcases g2 with ⟨s', t1, t2, t3, t4⟩ | ⟨s', t1, t2, t3⟩
    · left
      rw [t1, cI_k, if_neg (by decide)]
      refine ⟨s', ⟨t2, t3, fun a ha hne => ?_, ?_⟩, rfl⟩
      · rw [t4 a ha, if_neg hne, q3 a ha hne]; omega
      · rw [t4 r (by omega), if_pos rfl, q4]; push_cast; omega
    · right; left
      rw [t1, cI_k, if_pos (by decide), l3_0]
      exact ⟨s', rfl, t2, t3⟩
theorem build_code {μ : Mem} {k : Nat} {P : Pic} (ok : okP P) (h : CP μ k P) (hk : k ∉ [6, 12]) {m x : Int64} (hx : ∀ r c, zc x r c → r < nR P ∧ c < nC P) :
    bdT P m x μ (F_X2_build k m x μ) ∨ bdN P m x μ (F_X2_build k m x μ) := by
  have o1 := ok.2.1
  have o2 := ok.2.2.2.1
  have hk6 : ¬ k = 6 := fun q => hk (by simp [q])
  have f1 : fr [6, 12] μ (sJ μ 6 1 (x &&& m)) := fr_sJ (by simp)
  have f2 : fr [6, 12] μ (sJ (sJ μ 6 1 (x &&& m)) 6 2 (bdI (nR P) (nC P) &&& (m ^^^ (-1 : Int64)))) := fr_tr f1 (fr_sJ (by simp))
  have h1 := CP_fr h f1 hk
  have h2 := CP_fr h f2 hk
  have e1 : (sJ (sJ μ 6 1 (x &&& m)) 6 2 (bdI (nR P) (nC P) &&& (m ^^^ (-1 : Int64)))).2.1 6 1 = x &&& m := by rw [sJ_21, up2_j _ _ _ _ _ (by decide), sJ_21, up2_same]
  have e2 : (sJ (sJ μ 6 1 (x &&& m)) 6 2 (bdI (nR P) (nC P) &&& (m ^^^ (-1 : Int64)))).2.1 6 2 = bdI (nR P) (nC P) &&& (m ^^^ (-1 : Int64)) := by rw [sJ_21, up2_same]
  simp only [F_X2_build, lt_k, board_code h1, cJ_k]
  generalize sJ (sJ μ 6 1 (x &&& m)) 6 2 (bdI (nR P) (nC P) &&& (m ^^^ (-1 : Int64))) = s at *
  simp only [wantedOfRows_code h2, wantedOfColumns_code h2, cI_k]
  have hKb : ∀ r c, zc (s.2.1 6 1) r c → r < nR P ∧ c < nC P := fun r c q => by rw [e1] at q; exact hx r c ((zc_and _ _ _ _).mp q).1
  have s6 : ∀ (d : Int64) (R : Nat), (∀ i, i < 6 → dgn d i ≤ 6 ∧ (R ≤ i → dgn d i = 0)) → 0 ≤ zs 6 (fun i => (dgn d i : Int)) ∧ zs 6 (fun i => (dgn d i : Int)) ≤ 36 := by
    intro d R hd
    refine ⟨zs_pos (fun i _ => by omega), ?_⟩
    have := zs_bnd (n := 6) (f := fun i => (dgn d i : Int)) 6 (fun i hi => by have := (hd i hi).1; omega)
    omega
  have sU := s6 _ _ ok.2.2.2.2.2.2.1
  have sV := s6 _ _ ok.2.2.2.2.2.2.2
  have fitsum : ∀ y, fitC P y → zs 6 (fun i => (dgn (wU P) i : Int)) = zs 6 (fun i => (dgn (wV P) i : Int)) := fun y hy => by
    rw [← zs_congr (fun a ha => hy.2.1 a ha), ← zs_congr (fun a ha => hy.2.2 a ha)]; exact sum_eq y
  by_cases hAB : zs 6 (fun i => (dgn (wU P) i : Int)) = zs 6 (fun i => (dgn (wV P) i : Int))
  · rw [if_pos (by rw [hAB])]
    rcases hasTooFull_code h2 ok hKb with ⟨t1, t2⟩ | ⟨t1, l, t2, t3⟩
    · rw [t1, cI_k, if_pos (by decide)]
      have hrc := cnt_rows ok hKb t2
      have hb : bdI2 P m x μ s := ⟨f2, hKb, fun r c q => by rw [e1, zc_and]; exact ⟨fun z => z.1, fun z => ⟨z, q⟩⟩, fun r c => by rw [e2, zc_rem, zc_bd o1 o2], hrc.1, hrc.2⟩
      rw [show (0 : Int32) = i3 ((0 : Nat) : Int) from l3_0]
      refine loop_st (σ := Mem) (fun n i z => f_X2_build_46 k n (i3 i) z) (fun i z => bdI2 P m x μ z ∧ CP z k P ∧ ∀ a, a < i → rct (z.2.1 6 1) a = dgn (wU P) a)
        (fun o => bdT P m x μ o ∨ bdN P m x μ o) (nR P) ?_ ?_ BIG 0 s (by omega) (BIG_lt (by omega)) ⟨hb, h2, fun a q => by omega⟩
      · rintro n z ⟨q1, q2, q3⟩
        left
        simp only [f_X2_build_46, q2.1, l3_1]
        rw [if_pos (le3 (by omega))]
        obtain ⟨b1, b2', b3, b4, b5, b6⟩ := q1
        have rows : ∀ a, a < 6 → rct (z.2.1 6 1) a = dgn (wU P) a := by
          intro a ha
          by_cases hq : a < nR P
          · exact q3 a hq
          · have := b5 a ha
            have := rct_0 (z.2.1 6 1) a
            have := (ok.2.2.2.2.2.2.1 a ha).2 (by omega)
            omega
        have cols : ∀ a, a < 6 → cct (z.2.1 6 1) a = dgn (wV P) a := by
          have hs : zs 6 (fun a => (dgn (wV P) a : Int) - cct (z.2.1 6 1) a) = 0 := by
            rw [zs_sub, ← hAB, ← sum_eq, zs_congr (fun a ha => rows a ha)]; omega
          intro a ha
          have := zs_eq_zero (fun a ha => by have := b6 a ha; omega) hs a ha
          omega
        exact ⟨z, rfl, b1, ⟨⟨b2', rows, cols⟩, b3⟩, b4⟩
      · rintro n i z hi ⟨q1, q2, q3⟩
        have hi' : i < nR P + nC P := by omega
        have hzb : brd (z.2.1 6 1) := (brd_iff _).mpr (fun r c q => by have := q1.2.1 r c q; omega)
        have hw := wantedOf_code q2 ok hi'
        have hwn : wnt P i = dgn (wU P) i := by unfold wnt; rw [if_neg (by omega)]
        rw [hwn] at hw
        have hpc : pc (z.2.1 6 1 &&& shlL (63 : Int64) ((8 : Int32) * i3 (i : Int))) = rct (z.2.1 6 1) i := pc_row hzb (by omega) (fun a c w => by
          rw [zc_rowMask (by omega)]
          exact ⟨fun v => v.1, fun v => ⟨v, (zc_brd hzb w).2⟩⟩)
        simp only [f_X2_build_46, q2.1, hw, cI_k, F_X0_rowMask, cJ_k, pc_code, hpc, i3_sub, lt_k]
        rw [if_neg (nle3 (by omega))]
        rcases build_row ok q2 hk q1 hi (f_X2_build_46 k n) with hq | ⟨s', t1, t2, t3, t4, t5⟩
        · exact Or.inr (Or.inr hq)
        · left
          refine ⟨s', ⟨t1, t2, fun a ha => ?_⟩, t5⟩
          by_cases hai : a = i
          · rw [hai]; exact t4
          · rw [t3 a (by omega) hai]; exact q3 a (by omega)
    · right
      rw [t1, cI_k, if_neg (by decide), l3_0]
      refine ⟨s, rfl, f2, ?_⟩
      rintro ⟨y, y1, y2⟩
      apply t3
      rw [← fit_cnt ok y1 t2, e1]
      have sub : ∀ r c, zc (x &&& m) r c → zc y r c := fun r c q => by
        rw [zc_and] at q
        exact (y2 r c q.2).mpr q.1
      unfold cnt
      by_cases hq : nR P ≤ l
      · rw [if_pos hq, if_pos hq]; exact cct_mono (by omega) (fun r q => sub _ _ q)
      · rw [if_neg hq, if_neg hq]; exact rct_mono (by omega) (fun c q => sub _ _ q)
  · right
    rw [if_neg (ne3 (by omega)), l3_0]
    exact ⟨s, rfl, f2, fun ⟨y, y1, _⟩ => hAB (fitsum y y1)⟩
