/-! all fitting pictures in their order -/
def sqn (P : Pic) : Nat → Int64 → Prop
  | 0, G => isFst P (fX P) false G
  | n + 1, G => ∃ G0, sqn P n G0 ∧ nxt P G0 G
theorem sqn_uni {P : Pic} (ok : okP P) : ∀ {n : Nat} {G G' : Int64}, sqn P n G → sqn P n G' → G = G'
  | 0, _, _, h, h' => isFst_uni h h'
  | _ + 1, _, _, ⟨G0, h1, h2⟩, ⟨G0', h1', h2'⟩ => by
    have := sqn_uni ok h1 h1'
    subst this
    exact nxt_uni ok h2 h2'
theorem sqn_fit {P : Pic} : ∀ {n : Nat} {G : Int64}, sqn P n G → fitP P (fX P) G
  | 0, _, h => isFst_fit h
  | _ + 1, _, ⟨_, h1, h2⟩ => nxt_fit h2 (sqn_fit h1).2
noncomputable def gq (P : Pic) (n : Nat) : Int64 := @Classical.epsilon Int64 ⟨0⟩ (fun G => sqn P n G)
theorem gq_spec {P : Pic} {n : Nat} (h : ∃ G, sqn P n G) : sqn P n (gq P n) := @Classical.epsilon_spec_aux Int64 ⟨0⟩ (fun G => sqn P n G) h
theorem gq_eq {P : Pic} (ok : okP P) {n : Nat} {G : Int64} (h : sqn P n G) : gq P n = G := sqn_uni ok (gq_spec ⟨G, h⟩) h
/-- m: how many there are, or 100 -/
def cntF (P : Pic) (m : Nat) : Prop := m ≤ 100 ∧ (∀ n, n < m → ∃ G, sqn P n G) ∧ (m < 100 → ¬ ∃ G, sqn P m G)
theorem cntF_uni {P : Pic} {m m' : Nat} (h : cntF P m) (h' : cntF P m') : m = m' := by
  by_cases hlt : m < m'
  · exact absurd (h'.2.1 m hlt) (h.2.2 (by have := h'.1; omega))
  · by_cases hgt : m' < m
    · exact absurd (h.2.1 m' hgt) (h'.2.2 (by have := h.1; omega))
    · omega
theorem no_first {P : Pic} (h : ¬ ∃ y, fitP P (fX P) y) : ¬ ∃ G, sqn P 0 G := fun ⟨G, q⟩ => h ⟨G, isFst_fit q⟩
theorem no_next {P : Pic} (ok : okP P) {n : Nat} {G : Int64} (h : sqn P n G) (hn : nno P G) : ¬ ∃ G', sqn P (n + 1) G' := by
  rintro ⟨G', G0, h1, h2⟩
  have := sqn_uni ok h h1
  subst this
  exact nxt_nno h2 hn
/-- v tells whether the n-th picture is there; then it is in the fitter -/
def atF (P : Pic) (n : Nat) (v : Int) (s : Mem) : Prop := (v = 1 ∧ sqn P n (s.2.1 6 1)) ∨ (v = 0 ∧ ¬ ∃ G, sqn P n G)
theorem first_at {μ : Mem} {k : Nat} {P : Pic} (ok : okP P) (h : CP μ k P) (hk : k ∉ [6, 12]) : ∃ v s, F_X2_findOutermost k (0 : Int32) μ = rI (i3 v) s ∧ fr [6, 12] μ s ∧ atF P 0 v s := by
  rcases findOutermost_code ok h hk false with ⟨s, t1, t2, t3⟩ | ⟨s, t1, t2, t3⟩
  · rw [show i3 (b2 false) = (0 : Int32) from l3_0.symm] at t1
    exact ⟨1, s, t1, t2, Or.inl ⟨rfl, t3⟩⟩
  · rw [show i3 (b2 false) = (0 : Int32) from l3_0.symm] at t1
    exact ⟨0, s, t1, t2, Or.inr ⟨rfl, no_first t3⟩⟩
theorem next_at {μ : Mem} {k : Nat} {P : Pic} (ok : okP P) (h : CP μ k P) (hk : k ∉ [6, 12]) {n : Nat} (hs : sqn P n (μ.2.1 6 1)) : ∃ v s, F_X2_advance k μ = rI (i3 v) s ∧ fr [6, 12] μ s ∧ atF P (n + 1) v s := by
  rcases advance_code ok h hk (sqn_fit hs).1 with ⟨s, t1, t2, t3⟩ | ⟨s, t1, t2, t3⟩
  · exact ⟨1, s, t1, t2, Or.inl ⟨rfl, _, hs, t3⟩⟩
  · exact ⟨0, s, t1, t2, Or.inr ⟨rfl, no_next ok hs t3⟩⟩
theorem countFitting_code {μ : Mem} {P : Pic} (ok : okP P) (h : CP μ 2 P) : ∃ m s, F_X7_countFitting μ = rI (i3 ((m : Nat) : Int)) s ∧ fr [6, 12] μ s ∧ cntF P m := by
  obtain ⟨v, s, t1, t2, t3⟩ := first_at ok h (by simp)
  simp only [F_X7_countFitting, t1, cI_k]
  rw [show (0 : Int32) = i3 ((0 : Nat) : Int) from l3_0]
  refine loop_st (σ := Int × Mem) (fun n i z => f_X7_countFitting_15 n (i3 i) (i3 z.1) z.2) (fun i z => fr [6, 12] μ z.2 ∧ atF P i z.1 z.2 ∧ ∀ n, n < i → ∃ G, sqn P n G)
    (fun o => ∃ m s, o = rI (i3 ((m : Nat) : Int)) s ∧ fr [6, 12] μ s ∧ cntF P m) 100 ?_ ?_ BIG 0 (v, s) (by decide) (BIG_lt (by decide)) ⟨t2, t3, fun n q => by omega⟩
  · rintro n ⟨v, s⟩ ⟨q1, q2, q3⟩
    simp only at q1 q2 q3
    simp only [f_X7_countFitting_15, l3_100]
    refine ⟨100, s, ?_, q1, by omega, q3, fun q => by omega⟩
    rw [if_pos (le3 (by omega))]
    split <;> rfl
  · rintro n i ⟨v, s⟩ hi ⟨q1, q2, q3⟩
    simp only at q1 q2 q3
    rcases q2 with ⟨e, q2⟩ | ⟨e, q2⟩
    · left
      subst e
      obtain ⟨v', s', g1, g2, g3⟩ := next_at ok (CP_fr h q1 (by simp)) (by simp) q2
      simp only [f_X7_countFitting_15, l3_100, lt_k, inc3, g1, cI_k]
      rw [if_neg (by decide), if_neg (nle3 (by omega))]
      exact ⟨(v', s'), ⟨fr_tr q1 g2, g3, fun m hm => by
        by_cases hmi : m = i
        · subst hmi; exact ⟨_, q2⟩
        · exact q3 m (by omega)⟩, rfl⟩
    · right
      subst e
      simp only [f_X7_countFitting_15]
      rw [if_pos (by decide)]
      exact ⟨i, s, rfl, q1, by omega, q3, fun _ => q2⟩
/-! tallies -/
noncomputable def tal (P : Pic) (m i : Nat) : Int := zs m (fun n => b2 (tb (gq P n) i))
theorem tal_0 (P : Pic) (m i : Nat) : 0 ≤ tal P m i := zs_pos (fun _ _ => b2_0 _)
theorem tal_m (P : Pic) (m i : Nat) : tal P m i ≤ m := by
  have := zs_bnd (n := m) (f := fun n => b2 (tb (gq P n) i)) 1 (fun _ _ => b2_1 _)
  unfold tal; omega
theorem i3_in {z : Int} {n : Nat} (h : 0 ≤ z ∧ z < n) (hn : n ≤ 2147483647) : inb (i3 z) n := (i3_inb (by omega)).mpr h
theorem tb_int (y : Int64) {i : Nat} (hi : i < 64) : (Int64.toInt32 (ushrL y (i3 i))) &&& (1 : Int32) = i3 (b2 (tb y i)) := by
  rw [low31 _ 1 (by decide) _ (by decide), ushrL_nat _ hi]
  congr 1
  have h : tb y i = (y.toBitVec.toNat / 2 ^ i).testBit 0 := by
    rw [Nat.testBit_div_two_pow, Nat.zero_add]; rfl
  rw [h]
  cases hq : (y.toBitVec.toNat / 2 ^ i).testBit 0
  · rw [Nat.testBit_zero, decide_eq_false_iff_not] at hq
    rw [b2_f]; omega
  · rw [Nat.testBit_zero, decide_eq_true_eq] at hq
    rw [b2_t]; omega
theorem tally_one {P : Pic} {j : Nat} (ok : okP P) {s : Mem} (h : CP s 2 P) (hs : sqn P j (s.2.1 6 1)) (ht : ∀ i, i < 48 → s.1 7 i = i3 (tal P j i)) (hj : j < 100) (k39 : Int32 → Int32 → Mem → Out) :
    ∃ v s', f_X7_tallyFitting_51 k39 BIG (i3 j) (0 : Int32) s = k39 (i3 v) (i3 ((j + 1 : Nat) : Int)) s' ∧ fr [6, 7, 12] s s' ∧ atF P (j + 1) v s' ∧ ∀ i, i < 48 → s'.1 7 i = i3 (tal P (j + 1) i) := by
  rw [show (0 : Int32) = i3 ((0 : Nat) : Int) from l3_0]
  have hg := gq_eq ok hs
  refine loop_st (σ := Mem) (fun n i z => f_X7_tallyFitting_51 k39 n (i3 j) (i3 i) z) (fun i z => fr [7] s z ∧ ∀ a, a < 48 → z.1 7 a = if a < i then i3 (tal P (j + 1) a) else i3 (tal P j a))
    (fun o => ∃ v s', o = k39 (i3 v) (i3 ((j + 1 : Nat) : Int)) s' ∧ fr [6, 7, 12] s s' ∧ atF P (j + 1) v s' ∧ ∀ i, i < 48 → s'.1 7 i = i3 (tal P (j + 1) i)) 48 ?_ ?_ BIG 0 s (by decide) (BIG_lt (by decide)) ⟨fr_rf _ _, fun a ha => by rw [if_neg (by omega)]; exact ht a ha⟩
  · rintro n z ⟨q1, q2⟩
    have hz : CP z 2 P := CP_fr h q1 (by simp)
    have hsz : sqn P j (z.2.1 6 1) := by rw [fr_2 q1 (by simp)]; exact hs
    obtain ⟨v, s', g1, g2, g3⟩ := next_at ok hz (by simp) hsz
    simp only [f_X7_tallyFitting_51, l3_48, g1, cI_k, lt_k, inc3]
    rw [if_pos (le3 (by omega))]
    refine ⟨v, s', rfl, fr_tr (fr_w q1 (by simp)) (fr_w g2 (by simp)), g3, fun i hi => ?_⟩
    rw [fr_1 g2 (by simp), q2 i hi, if_pos hi]
  · rintro n i z hi ⟨q1, q2⟩
    left
    have hc : z.2.1 6 1 = s.2.1 6 1 := fr_2 q1 (by simp) 1
    simp only [f_X7_tallyFitting_51, l3_48, F_X2_found, cJ_k, lt_k, inc3, hc, tb_int _ (show i < 64 by omega)]
    rw [if_neg (nle3 (by omega)), ck_k (i3_in (by omega) (by decide)), ck_k (i3_in (by omega) (by decide)), i3_nat (by omega) (by omega), Int.toNat_natCast]
    refine ⟨_, ⟨fr_tr q1 (fr_sI (by simp)), fun a ha => ?_⟩, rfl⟩
    rw [sI_1, up2_a]
    by_cases hai : a = i
    · subst hai
      rw [if_pos ⟨rfl, rfl⟩, if_pos (by omega), q2 a ha, if_neg (by omega), i3_add]
      unfold tal
      rw [zs_s, hg]
    · rw [if_neg (by omega), q2 a ha]
      by_cases hlt : a < i
      · rw [if_pos hlt, if_pos (by omega)]
      · rw [if_neg hlt, if_neg (by omega)]
theorem tallyFitting_code {μ : Mem} {P : Pic} (ok : okP P) (h : CP μ 2 P) {m : Nat} (hm : cntF P m) : ∃ s, F_X7_tallyFitting μ = rV s ∧ fr [6, 7, 12] μ s ∧ ∀ i, i < 48 → s.1 7 i = i3 (tal P m i) := by
  have main : ∀ s1, fr [6, 7, 12] μ s1 → (∀ i, i < 48 → s1.1 7 i = i3 (tal P 0 i)) → ∀ v, atF P 0 v s1 → ∃ s, f_X7_tallyFitting_39 BIG (i3 v) (0 : Int32) s1 = rV s ∧ fr [6, 7, 12] μ s ∧ ∀ i, i < 48 → s.1 7 i = i3 (tal P m i) := by
    intro s1 w1 w2 v w3
    rw [show (0 : Int32) = i3 ((0 : Nat) : Int) from l3_0]
    refine loop_st (σ := Int × Mem) (fun n i z => f_X7_tallyFitting_39 n (i3 z.1) (i3 i) z.2)
      (fun i z => fr [6, 7, 12] μ z.2 ∧ (∀ a, a < 48 → z.2.1 7 a = i3 (tal P i a)) ∧ atF P i z.1 z.2 ∧ i ≤ m)
      (fun o => ∃ s, o = rV s ∧ fr [6, 7, 12] μ s ∧ ∀ i, i < 48 → s.1 7 i = i3 (tal P m i)) 100 ?_ ?_ BIG 0 (v, s1) (by decide) (BIG_lt (by decide)) ⟨w1, w2, w3, Nat.zero_le _⟩
    · rintro n ⟨v, s⟩ ⟨q1, q2, q3, q4⟩
      simp only at q1 q2 q3 q4
      simp only [f_X7_tallyFitting_39, l3_100]
      have : m = 100 := by have := hm.1; omega
      refine ⟨s, ?_, q1, by rw [this]; exact q2⟩
      rw [if_pos (le3 (by omega))]
      split <;> rfl
    · rintro n i ⟨v, s⟩ hi ⟨q1, q2, q3, q4⟩
      simp only at q1 q2 q3 q4
      rcases q3 with ⟨e, q3⟩ | ⟨e, q3⟩
      · left
        subst e
        obtain ⟨v', s', g1, g2, g3, g4⟩ := tally_one ok (CP_fr h q1 (by simp)) q3 q2 hi (f_X7_tallyFitting_39 n)
        simp only [f_X7_tallyFitting_39, l3_100]
        rw [if_neg (by decide), if_neg (nle3 (by omega))]
        refine ⟨(v', s'), ⟨fr_tr q1 g2, g4, g3, ?_⟩, g1⟩
        by_cases e : i = m
        · subst e; exact absurd ⟨_, q3⟩ (hm.2.2 hi)
        · omega
      · right
        subst e
        simp only [f_X7_tallyFitting_39]
        rw [if_pos (by decide)]
        have : m = i := by
          by_cases hlt : i < m
          · exact absurd (hm.2.1 i hlt) q3
          · omega
        exact ⟨s, rfl, q1, by rw [this]; exact q2⟩
  simp only [F_X7_tallyFitting]
  rw [show (0 : Int32) = i3 ((0 : Nat) : Int) from l3_0]
  refine loop_st (σ := Mem) (fun n i z => f_X7_tallyFitting_2 n (i3 i) z) (fun i z => fr [7] μ z ∧ ∀ a, a < i → z.1 7 a = i3 0)
    (fun o => ∃ s, o = rV s ∧ fr [6, 7, 12] μ s ∧ ∀ i, i < 48 → s.1 7 i = i3 (tal P m i)) 48 ?_ ?_ BIG 0 μ (by decide) (BIG_lt (by decide)) ⟨fr_rf _ _, fun a q => by omega⟩
  · rintro n z ⟨q1, q2⟩
    obtain ⟨v, s, t1, t2, t3⟩ := first_at ok (CP_fr h q1 (by simp)) (by simp)
    simp only [f_X7_tallyFitting_2, l3_48, t1, cI_k]
    rw [if_pos (le3 (by omega))]
    exact main s (fr_tr (fr_w q1 (by simp)) (fr_w t2 (by simp))) (fun i hi => by rw [fr_1 t2 (by simp), q2 i hi]; rfl) v t3
  · rintro n i z hi ⟨q1, q2⟩
    left
    simp only [f_X7_tallyFitting_2, l3_48, lt_k, inc3]
    rw [if_neg (nle3 (by omega)), ck_k (i3_in (by omega) (by decide)), i3_nat (by omega) (by omega), Int.toNat_natCast, l3_0]
    refine ⟨_, ⟨fr_tr q1 (fr_sI (by simp)), fun a ha => ?_⟩, rfl⟩
    rw [sI_1, up2_a]
    by_cases hai : a = i
    · rw [if_pos ⟨rfl, hai⟩]
    · rw [if_neg (fun q => hai q.2)]; exact q2 a (by omega)
/-- the smaller one of the two numbers of a cell -/
noncomputable def sml (P : Pic) (m i : Nat) : Int := if tal P m i ≤ m - tal P m i then tal P m i else m - tal P m i
/-- v is the code of the cell that parts best -/
def isBest (P : Pic) (m : Nat) (v : Int) : Prop := ∃ r c, r < nR P ∧ c < nC P ∧ v = 10 * r + c ∧ (∀ a d, a < nR P → d < nC P → sml P m (8 * a + d) ≤ sml P m (8 * r + c)) ∧ ∀ a d, a < nR P → d < nC P → 8 * a + d < 8 * r + c → sml P m (8 * a + d) < sml P m (8 * r + c)
theorem isBest_uni {P : Pic} (ok : okP P) {m : Nat} {v v' : Int} (h : isBest P m v) (h' : isBest P m v') : v = v' := by
  obtain ⟨r, c, h1, h2, h3, h4, h5⟩ := h
  obtain ⟨r', c', h1', h2', h3', h4', h5'⟩ := h'
  have o2 := ok.2.2.2.1
  have a1 := h4 r' c' h1' h2'
  have a2 := h4' r c h1 h2
  have e : 8 * r + c = 8 * r' + c' := by
    by_cases hlt : 8 * r + c < 8 * r' + c'
    · have := h5' r c h1 h2 hlt; omega
    · by_cases hgt : 8 * r' + c' < 8 * r + c
      · have := h5 r' c' h1' h2' hgt; omega
      · omega
  omega
theorem parts {P : Pic} (ok : okP P) {m : Nat} (hm : cntF P m) (h2 : 2 ≤ m) : ∃ a d, a < nR P ∧ d < nC P ∧ 1 ≤ sml P m (8 * a + d) := by
  obtain ⟨G1, hG1⟩ := hm.2.1 1 (by omega)
  obtain ⟨G0, h0, hn⟩ := hG1
  have e0 := gq_eq ok h0
  have e1 := gq_eq ok (n := 1) ⟨G0, h0, hn⟩
  obtain ⟨r, c, c1, c2, c3, c4, c5, c6⟩ := hn
  refine ⟨r, c, c1.1.1, c1.1.2, ?_⟩
  have o2 := ok.2.2.2.1
  have hb := c1.1
  have t0 : tb (gq P 0) (8 * r + c) = false := by
    rw [e0]; exact tb_f (fun q => c2 ((tb_iff (by have := ok.2.1; omega) (by omega)).mp q))
  have t1 : tb (gq P 1) (8 * r + c) = true := by rw [e1]; exact c4.2.2
  have lo : 1 ≤ tal P m (8 * r + c) := by
    have := zs_lt (n := m) (f := fun _ => 0) (g := fun n => b2 (tb (gq P n) (8 * r + c))) (fun _ _ => b2_0 _) 1 (by omega) (by rw [t1]; decide)
    rw [zs_zero] at this
    exact this
  have hi : tal P m (8 * r + c) < m := by
    have := zs_lt (n := m) (g := fun _ => 1) (f := fun n => b2 (tb (gq P n) (8 * r + c))) (fun _ _ => b2_1 _) 0 (by omega) (by rw [t0]; decide)
    have h1 : ∀ m, zs m (fun _ => 1) = m := by
      intro m
      induction m with
      | zero => rfl
      | succ m ih => rw [zs_s, ih]; push_cast; rfl
    rw [h1] at this
    exact this
  unfold sml
  split <;> omega
theorem tal_off {P : Pic} {m : Nat} (hm : cntF P m) {i : Nat} (hi : i < 64) (h : ¬ (i / 8 < nR P ∧ i % 8 < nC P)) : tal P m i = 0 := by
  refine (zs_congr (fun n hn => ?_)).trans (zs_zero m)
  have hf := sqn_fit (gq_spec (hm.2.1 n hn))
  rw [tb_f (fun q => h (hf.1.1 _ _ ⟨by omega, by omega, by rw [show 8 * (i / 8) + i % 8 = i from by omega]; exact q⟩))]
  rfl
theorem min_code (a b : Int) (ha : -2147483648 ≤ a ∧ a < 2147483648) (hb : -2147483648 ≤ b ∧ b < 2147483648) (μ : Mem) : F_J9_min_7cf53 (i3 a) (i3 b) μ = rI (i3 (if a ≤ b then a else b)) μ := by
  unfold F_J9_min_7cf53
  by_cases h : a ≤ b
  · rw [if_neg (nlt3 (by omega)), if_pos h]
  · rw [if_pos (lt3 (by omega)), if_neg h]
