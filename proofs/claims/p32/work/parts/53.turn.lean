/-! a quarter: fitting pictures go with the picture -/
def mk8 : Nat → (Nat → Bool) → Int64
  | 0, _ => 0
  | n + 1, f => orB (mk8 n f) (f n) n
theorem tb_mk8 (f : Nat → Bool) : ∀ {n : Nat}, n ≤ 64 → ∀ i, tb (mk8 n f) i = (decide (i < n) && f i)
  | 0, _, i => by show tb 0 i = _; rw [tb_0, decide_eq_false (by omega), Bool.false_and]
  | n + 1, hn, i => by
    show tb (orB (mk8 n f) (f n) n) i = _
    rw [tb_orB _ _ (show n < 64 by omega), tb_mk8 f (n := n) (by omega)]
    by_cases e : i = n
    · subst e
      rw [decide_eq_false (by omega), decide_eq_true rfl, decide_eq_true (by omega)]
      simp
    · rw [decide_eq_false e, Bool.and_false, Bool.or_false]
      by_cases q : i < n
      · rw [decide_eq_true q, decide_eq_true (by omega)]
      · rw [decide_eq_false q, decide_eq_false (by omega)]
/-- a set of cells as a number -/
def ofC (f : Nat → Nat → Bool) : Int64 := mk8 64 (fun i => f (i / 8) (i % 8))
theorem zc_ofC (f : Nat → Nat → Bool) (r c : Nat) : zc (ofC f) r c ↔ r < 8 ∧ c < 8 ∧ f r c = true := by
  unfold zc ofC
  constructor
  · rintro ⟨h1, h2, h3⟩
    rw [tb_mk8 _ (Nat.le_refl _), decide_eq_true (by omega), Bool.true_and, show (8 * r + c) / 8 = r from by omega, show (8 * r + c) % 8 = c from by omega] at h3
    exact ⟨h1, h2, h3⟩
  · rintro ⟨h1, h2, h3⟩
    refine ⟨h1, h2, ?_⟩
    rw [tb_mk8 _ (Nat.le_refl _), decide_eq_true (by omega), Bool.true_and, show (8 * r + c) / 8 = r from by omega, show (8 * r + c) % 8 = c from by omega]
    exact h3
theorem zs_head (n : Nat) (f : Nat → Int) : zs (n + 1) f = f 0 + zs n (fun i => f (i + 1)) := by
  have h := zs_split 1 n f
  rw [show 1 + n = n + 1 from by omega] at h
  rw [h, show zs 1 f = f 0 from by rw [zs_s, zs_0, Int.zero_add]]
  congr 1
  exact zs_congr (fun i _ => by rw [Nat.add_comm])
theorem zs_rev : ∀ (n : Nat) (f : Nat → Int), zs n (fun b => f (n - 1 - b)) = zs n f
  | 0, _ => rfl
  | n + 1, f => by
    rw [zs_s, zs_head n f, ← zs_rev n (fun i => f (i + 1)), show n + 1 - 1 - n = 0 from by omega, Int.add_comm]
    congr 1
    exact zs_congr (fun i hi => by rw [show n + 1 - 1 - i = n - 1 - i + 1 from by omega])
theorem b2_iff {x y : Int64} {r c r' c' : Nat} (hr : r < 8) (hc : c < 8) (hr' : r' < 8) (hc' : c' < 8) (h : zc x r c ↔ zc y r' c') : b2 (tb x (8 * r + c)) = b2 (tb y (8 * r' + c')) := by
  rw [tb_eq (i := 8 * r + c) (j := 8 * r' + c') ((tb_iff hr hc).trans (h.trans (tb_iff hr' hc').symm))]
/-- one way of counting is the other's -/
theorem trn_counts {R : Nat} (hR : R ≤ 6) {y z : Int64} (hyR : ∀ r c, zc y r c → r < R) (h : ∀ a b, zc z a b ↔ b < R ∧ zc y (R - 1 - b) a) : (∀ a, a < 6 → rct z a = cct y a) ∧ (∀ b, b < R → cct z b = rct y (R - 1 - b)) ∧ (∀ b, R ≤ b → b < 6 → cct z b = 0) := by
  refine ⟨fun a ha => ?_, fun b hb => ?_, fun b h1 h2 => cct_out h2 (fun r q => by have := ((h r b).mp q).1; omega)⟩
  · unfold rct cct
    rw [zs_ext0 (n := R) (m := 6) hR (fun b h1 h2 => by rw [tb_f (fun w => by have := ((h a b).mp ⟨by omega, by omega, w⟩).1; omega)]; rfl),
      zs_ext0 (n := R) (m := 6) hR (f := fun r => b2 (tb y (8 * r + a))) (fun r h1 h2 => by rw [tb_f (fun w => by have := hyR r a ⟨by omega, by omega, w⟩; omega)]; rfl), ← zs_rev R (fun r => b2 (tb y (8 * r + a)))]
    exact zs_congr (fun b hb => b2_iff (by omega) (by omega) (by omega) (by omega) ((h a b).trans ⟨fun w => w.2, fun w => ⟨hb, w⟩⟩))
  · unfold cct rct
    exact zs_congr (fun a ha => b2_iff (by omega) (by omega) (by omega) (by omega) ((h a b).trans ⟨fun w => w.2, fun w => ⟨hb, w⟩⟩))
section TU
variable {P Q : Pic}
def tqF (P : Pic) (y : Int64) : Int64 := ofC (fun a b => decide (b < nR P) && tb y (8 * (nR P - 1 - b) + a))
def uqF (P : Pic) (z : Int64) : Int64 := ofC (fun r c => decide (r < nR P) && tb z (8 * c + (nR P - 1 - r)))
theorem zc_tq (ok : okP P) {y : Int64} (hy : ∀ r c, zc y r c → r < nR P ∧ c < nC P) (a b : Nat) : zc (tqF P y) a b ↔ b < nR P ∧ zc y (nR P - 1 - b) a := by
  have o1 := ok.2.1
  have o2 := ok.2.2.2.1
  unfold tqF
  rw [zc_ofC, Bool.and_eq_true, decide_eq_true_eq]
  constructor
  · rintro ⟨h1, h2, h3, h4⟩
    exact ⟨h3, by omega, h1, h4⟩
  · rintro ⟨h3, h4⟩
    have := hy _ _ h4
    exact ⟨by omega, by omega, h3, h4.2.2⟩
theorem zc_uq (ok : okP P) {z : Int64} (hz : ∀ r c, zc z r c → r < nC P ∧ c < nR P) (r c : Nat) : zc (uqF P z) r c ↔ r < nR P ∧ zc z c (nR P - 1 - r) := by
  have o1 := ok.2.1
  have o2 := ok.2.2.2.1
  unfold uqF
  rw [zc_ofC, Bool.and_eq_true, decide_eq_true_eq]
  constructor
  · rintro ⟨h1, h2, h3, h4⟩
    exact ⟨h3, h2, by omega, h4⟩
  · rintro ⟨h3, h4⟩
    have := hz _ _ h4
    exact ⟨by omega, by omega, h3, h4.2.2⟩
theorem tq_fit (ok : okP P) (ht : turned P Q) {y : Int64} (hy : fitP P (fX P) y) : fitP Q (fX Q) (tqF P y) := by
  have o1 := ok.2.1
  have o2 := ok.2.2.2.1
  obtain ⟨t1, t2, t3, t4, t5, t6⟩ := ht
  have hz := zc_tq ok hy.1.1
  obtain ⟨c1, c2, c3⟩ := trn_counts o1 (fun r c q => (hy.1.1 r c q).1) hz
  refine ⟨⟨fun a b q => ?_, fun a ha => ?_, fun b hb => ?_⟩, fun a b q => ?_⟩
  · have := (hz a b).mp q
    have := hy.1.1 _ _ this.2
    rw [t1, t2]; omega
  · rw [c1 a ha, hy.1.2.2 a ha, t3]
  · rw [t6 b hb]
    by_cases w : b < nR P
    · rw [if_pos w, c2 b w, hy.1.2.1 _ (by omega)]
    · rw [if_neg w, c3 b (by omega) hb]; rfl
  · rw [hz, t4]
    have := (t5 a b).mp q
    have := hy.2 _ _ this.2
    exact ⟨fun w => ⟨w.1, this.mp w.2⟩, fun w => ⟨w.1, this.mpr w.2⟩⟩
theorem tq_inj (ok : okP P) {y y' : Int64} (hy : fitP P (fX P) y) (hy' : fitP P (fX P) y') (e : tqF P y = tqF P y') : y = y' := by
  have h1 := zc_tq ok hy.1.1
  have h2 := zc_tq ok hy'.1.1
  refine zc_ext (fun r c => ?_)
  have k2 := h2 c (nR P - 1 - r)
  rw [← e] at k2
  have k := (h1 c (nR P - 1 - r)).symm.trans k2
  constructor
  · intro q
    have hb := hy.1.1 r c q
    rw [show nR P - 1 - (nR P - 1 - r) = r from by omega] at k
    exact (k.mp ⟨by omega, q⟩).2
  · intro q
    have hb := hy'.1.1 r c q
    rw [show nR P - 1 - (nR P - 1 - r) = r from by omega] at k
    exact (k.mpr ⟨by omega, q⟩).2
theorem uq_fit (ok : okP P) (ht : turned P Q) {z : Int64} (hz : fitP Q (fX Q) z) : fitP P (fX P) (uqF P z) := by
  have o1 := ok.2.1
  have o2 := ok.2.2.2.1
  obtain ⟨t1, t2, t3, t4, t5, t6⟩ := ht
  have hzb : ∀ r c, zc z r c → r < nC P ∧ c < nR P := fun r c q => by have := hz.1.1 r c q; rw [t1, t2] at this; exact this
  have hy := zc_uq ok hzb
  have hyR : ∀ r c, zc (uqF P z) r c → r < nR P := fun r c q => ((hy r c).mp q).1
  have hback : ∀ a b, zc z a b ↔ b < nR P ∧ zc (uqF P z) (nR P - 1 - b) a := fun a b => by
    rw [hy]
    constructor
    · intro q
      have := hzb a b q
      exact ⟨by omega, by omega, by rw [show nR P - 1 - (nR P - 1 - b) = b from by omega]; exact q⟩
    · rintro ⟨h1, -, h2⟩
      rw [show nR P - 1 - (nR P - 1 - b) = b from by omega] at h2
      exact h2
  obtain ⟨c1, c2, c3⟩ := trn_counts o1 hyR hback
  refine ⟨⟨fun r c q => ?_, fun r hr => ?_, fun c hc => ?_⟩, fun r c q => ?_⟩
  · have := (hy r c).mp q
    have := hzb _ _ this.2
    omega
  · by_cases w : r < nR P
    · have := c2 (nR P - 1 - r) (by omega)
      rw [show nR P - 1 - (nR P - 1 - r) = r from by omega] at this
      rw [← this, hz.1.2.2 _ (by omega), t6 _ (by omega), if_pos (by omega), show nR P - 1 - (nR P - 1 - r) = r from by omega]
    · rw [rct_out hr (fun c q => w (hyR r c q)), (ok.2.2.2.2.2.2.1 r hr).2 (by omega)]; rfl
  · rw [← c1 c hc, hz.1.2.1 c hc, t3]
  · have hp := ok.2.2.2.2.2.1 r c q
    have := hz.2 c (nR P - 1 - r) ((t5 _ _).mpr ⟨by omega, by rw [show nR P - 1 - (nR P - 1 - r) = r from by omega]; exact q⟩)
    rw [hy, this, t4, show nR P - 1 - (nR P - 1 - r) = r from by omega]
    exact ⟨fun w => w.2.2, fun w => ⟨hp.1, by omega, w⟩⟩
theorem uq_inj (ok : okP P) (ht : turned P Q) {z z' : Int64} (hz : fitP Q (fX Q) z) (hz' : fitP Q (fX Q) z') (e : uqF P z = uqF P z') : z = z' := by
  obtain ⟨t1, t2, -⟩ := ht
  have b1 : ∀ r c, zc z r c → r < nC P ∧ c < nR P := fun r c q => by have := hz.1.1 r c q; rw [t1, t2] at this; exact this
  have b2 : ∀ r c, zc z' r c → r < nC P ∧ c < nR P := fun r c q => by have := hz'.1.1 r c q; rw [t1, t2] at this; exact this
  have h1 := zc_uq ok b1
  have h2 := zc_uq ok b2
  refine zc_ext (fun a b => ?_)
  have k2 := h2 (nR P - 1 - b) a
  rw [← e] at k2
  have k := (h1 (nR P - 1 - b) a).symm.trans k2
  constructor
  · intro q
    have hb := b1 a b q
    rw [show nR P - 1 - (nR P - 1 - b) = b from by omega] at k
    exact (k.mp ⟨by omega, q⟩).2
  · intro q
    have hb := b2 a b q
    rw [show nR P - 1 - (nR P - 1 - b) = b from by omega] at k
    exact (k.mpr ⟨by omega, q⟩).2
theorem pigeon : ∀ (n m : Nat) (j : Nat → Nat), (∀ k, k < m → j k < n) → (∀ a b, a < m → b < m → j a = j b → a = b) → m ≤ n
  | 0, m, j, h, _ => by
    refine Classical.byContradiction (fun w => ?_)
    have := h 0 (by omega)
    omega
  | n + 1, m, j, h, hi => by
    by_cases q : ∃ k, k < m ∧ j k = n
    · obtain ⟨k0, hk, hj⟩ := q
      have ih := pigeon n (m - 1) (fun k => if k < k0 then j k else j (k + 1)) (fun k hk' => by
        show (if k < k0 then j k else j (k + 1)) < n
        by_cases w : k < k0
        · rw [if_pos w]
          have a := h k (by omega)
          have b : ¬ j k = n := fun e => by have := hi k k0 (by omega) hk (e.trans hj.symm); omega
          omega
        · rw [if_neg w]
          have a := h (k + 1) (by omega)
          have b : ¬ j (k + 1) = n := fun e => by have := hi (k + 1) k0 (by omega) hk (e.trans hj.symm); omega
          omega) (fun a b ha hb e => by
        have e : (if a < k0 then j a else j (a + 1)) = (if b < k0 then j b else j (b + 1)) := e
        by_cases w1 : a < k0
        · by_cases w2 : b < k0
          · rw [if_pos w1, if_pos w2] at e
            exact hi a b (by omega) (by omega) e
          · rw [if_pos w1, if_neg w2] at e
            have := hi a (b + 1) (by omega) (by omega) e
            omega
        · by_cases w2 : b < k0
          · rw [if_neg w1, if_pos w2] at e
            have := hi (a + 1) b (by omega) (by omega) e
            omega
          · rw [if_neg w1, if_neg w2] at e
            have := hi (a + 1) (b + 1) (by omega) (by omega) e
            omega)
      omega
    · have := pigeon n m j (fun k hk => by
        have a := h k hk
        have b : ¬ j k = n := fun e => q ⟨k, hk, e⟩
        omega) hi
      omega
theorem cnt_le (ok : okP P) (okQ : okP Q) {m m' : Nat} (hm : cntF P m) (hm' : cntF Q m') (f : Int64 → Int64) (hf : ∀ y, fitP P (fX P) y → fitP Q (fX Q) (f y)) (inj : ∀ y y', fitP P (fX P) y → fitP P (fX P) y' → f y = f y' → y = y') : m ≤ m' := by
  have h1 := hm.1
  refine Classical.byContradiction (fun w => ?_)
  have h99 : m' < 100 := by omega
  have ex : ∀ k, ∃ j, k < m → j < m' ∧ f (gq P k) = gq Q j := fun k => by
    by_cases hk : k < m
    · obtain ⟨j, a, b⟩ := all_told okQ hm' h99 (hf _ (gq_f hm hk))
      exact ⟨j, fun _ => ⟨a, b⟩⟩
    · exact ⟨0, fun q => absurd q hk⟩
  obtain ⟨j, hj⟩ := Classical.axiomOfChoice ex
  have := pigeon m' m j (fun k hk => (hj k hk).1) (fun a b ha hb e => by
    have e1 := (hj a ha).2
    have e2 := (hj b hb).2
    rw [e] at e1
    exact gq_inj ok hm ha hb (inj _ _ (gq_f hm ha) (gq_f hm hb) (e1.trans e2.symm)))
  omega
/-- as many fitting pictures before a quarter as behind it -/
theorem turned_cnt (ok : okP P) (ht : turned P Q) {m m' : Nat} (hm : cntF P m) (hm' : cntF Q m') : m' = m := by
  have okQ := turned_ok ok ht
  have a := cnt_le ok okQ hm hm' (tqF P) (fun y hy => tq_fit ok ht hy) (fun y y' hy hy' e => tq_inj ok hy hy' e)
  have b := cnt_le okQ ok hm' hm (uqF P) (fun z hz => uq_fit ok ht hz) (fun z z' hz hz' e => uq_inj ok ht hz hz' e)
  omega
/-- a quarter four times is none -/
theorem turn_4 {P1 P2 P3 P4 : Pic} (ok : okP P) (h1 : turned P P1) (h2 : turned P1 P2) (h3 : turned P2 P3) (h4 : turned P3 P4) : fX P4 = fX P ∧ fP P4 = fP P := by
  obtain ⟨a1, a2, -, a4, a5, -⟩ := h1
  obtain ⟨b1, b2, -, b4, b5, -⟩ := h2
  obtain ⟨c1, c2, -, c4, c5, -⟩ := h3
  obtain ⟨d1, d2, -, d4, d5, -⟩ := h4
  have e2 : nR P2 = nR P := b1.trans a2
  have e3 : nR P3 = nC P := by rw [c1, b2, a1]
  constructor
  · refine zc_ext (fun a b => ?_)
    rw [d4, c4, b4, a4, e3, e2, a1]
    constructor
    · rintro ⟨q1, q2, q3, q4, q5⟩
      rw [show nR P - 1 - (nR P - 1 - a) = a from by omega, show nC P - 1 - (nC P - 1 - b) = b from by omega] at q5
      exact q5
    · intro q
      have := ok.2.2.2.2.1 a b q
      refine ⟨by omega, by omega, by omega, by omega, ?_⟩
      rw [show nR P - 1 - (nR P - 1 - a) = a from by omega, show nC P - 1 - (nC P - 1 - b) = b from by omega]
      exact q
  · refine zc_ext (fun a b => ?_)
    rw [d5, c5, b5, a5, e3, e2, a1]
    constructor
    · rintro ⟨q1, q2, q3, q4, q5⟩
      rw [show nR P - 1 - (nR P - 1 - a) = a from by omega, show nC P - 1 - (nC P - 1 - b) = b from by omega] at q5
      exact q5
    · intro q
      have := ok.2.2.2.2.2.1 a b q
      refine ⟨by omega, by omega, by omega, by omega, ?_⟩
      rw [show nR P - 1 - (nR P - 1 - a) = a from by omega, show nC P - 1 - (nC P - 1 - b) = b from by omega]
      exact q
end TU
