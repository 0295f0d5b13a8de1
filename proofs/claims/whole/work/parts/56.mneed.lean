/-! sets out of the model's arrays -/
def mkN (f : Nat → Nat → Bool) : Nat → Int64
  | 0 => 0
  | k + 1 => if f (k / 6) (k % 6) then mkN f k ||| bv (8 * (k / 6) + k % 6) else mkN f k
theorem zc_mkN (f : Nat → Nat → Bool) : ∀ k, k ≤ 36 → ∀ r c, zc (mkN f k) r c ↔ (r < 6 ∧ c < 6 ∧ 6 * r + c < k) ∧ f r c = true := by
  intro k
  induction k with
  | zero => intro _ r c; exact ⟨fun q => absurd q (zc_0 _ _), fun q => by omega⟩
  | succ k ih =>
    intro hk r c
    have e : ∀ r c, (c < 8 ∧ 8 * r + c = 8 * (k / 6) + k % 6) ↔ (r = k / 6 ∧ c = k % 6) := fun r c => by omega
    unfold mkN
    by_cases hf : f (k / 6) (k % 6) = true
    · rw [if_pos hf, zc_or, ih (by omega), zc_bv (by omega), e]
      constructor
      · rintro (⟨q1, q2⟩ | ⟨q1, q2⟩)
        · exact ⟨by omega, q2⟩
        · subst q1 q2; exact ⟨by omega, hf⟩
      · rintro ⟨q1, q2⟩
        by_cases e2 : 6 * r + c = k
        · exact Or.inr (by omega)
        · exact Or.inl ⟨by omega, q2⟩
    · rw [if_neg hf, ih (by omega)]
      constructor
      · rintro ⟨q1, q2⟩; exact ⟨by omega, q2⟩
      · rintro ⟨q1, q2⟩
        refine ⟨?_, q2⟩
        by_cases e2 : 6 * r + c = k
        · have e3 : r = k / 6 := by omega
          have e4 : c = k % 6 := by omega
          rw [e3, e4] at q2; exact absurd q2 hf
        · omega
/-- given filled, free, taken -/
def g1S (P : Pic) (s : Mem) : Int64 := mkN (fun r c => decide (r < nR P) && decide (c < nC P) && decide (s.1 37 (6 * r + c) = i3 1)) 36
def gFS (P : Pic) (s : Mem) : Int64 := mkN (fun r c => decide (r < nR P) && decide (c < nC P) && decide (s.1 37 (6 * r + c) = i3 (-1))) 36
def tkS (s : Mem) : Int64 := mkN (fun r c => decide (s.1 38 (6 * r + c) = i3 1)) 36
theorem zc_g1 {P : Pic} (ok : okP P) (s : Mem) (r c : Nat) : zc (g1S P s) r c ↔ (r < nR P ∧ c < nC P) ∧ s.1 37 (6 * r + c) = i3 1 := by
  have o1 := ok.2.1
  have o2 := ok.2.2.2.1
  unfold g1S
  rw [zc_mkN _ 36 (Nat.le_refl _)]
  simp only [Bool.and_eq_true, decide_eq_true_eq]
  constructor
  · rintro ⟨q1, q2, q3⟩; exact ⟨q2, q3⟩
  · rintro ⟨q2, q3⟩; exact ⟨by omega, q2, q3⟩
theorem zc_gF {P : Pic} (ok : okP P) (s : Mem) (r c : Nat) : zc (gFS P s) r c ↔ (r < nR P ∧ c < nC P) ∧ s.1 37 (6 * r + c) = i3 (-1) := by
  have o1 := ok.2.1
  have o2 := ok.2.2.2.1
  unfold gFS
  rw [zc_mkN _ 36 (Nat.le_refl _)]
  simp only [Bool.and_eq_true, decide_eq_true_eq]
  constructor
  · rintro ⟨q1, q2, q3⟩; exact ⟨q2, q3⟩
  · rintro ⟨q2, q3⟩; exact ⟨by omega, q2, q3⟩
theorem zc_tk (s : Mem) (r c : Nat) : zc (tkS s) r c ↔ (r < 6 ∧ c < 6) ∧ s.1 38 (6 * r + c) = i3 1 := by
  unfold tkS
  rw [zc_mkN _ 36 (Nat.le_refl _)]
  simp only [decide_eq_true_eq]
  constructor
  · rintro ⟨q1, q2⟩; exact ⟨by omega, q2⟩
  · rintro ⟨q1, q2⟩; exact ⟨by omega, q2⟩
/-- each cell of the board is given or free -/
def gOK (P : Pic) (s : Mem) : Prop := ∀ r c, r < nR P → c < nC P → s.1 37 (6 * r + c) = i3 (-1) ∨ s.1 37 (6 * r + c) = i3 0 ∨ s.1 37 (6 * r + c) = i3 1
/-- y fits, and has the given cells as given -/
def fitG (P : Pic) (s : Mem) (y : Int64) : Prop := fitC P y ∧ ∀ r c, r < nR P → c < nC P → ¬ zc (gFS P s) r c → (zc y r c ↔ zc (g1S P s) r c)
theorem cut_no {P : Pic} (ok : okP P) {K F : Int64} (hK : ∀ r c, zc K r c → r < nR P ∧ c < nC P) (hc : ∀ a, a < 6 → cct K a ≤ dgn (wV P) a) (hrr : ∀ a, a < 6 → rct K a ≤ dgn (wU P) a)
    {r : Nat} (hr : r < 6) (hlt : rct K r < dgn (wU P) r) {S T : Nat} (hS : S.testBit r = true) (h1 : ∀ a b, S.testBit a = true → zc F a b → ¬ zc K a b → T.testBit b = true) (h2 : ∀ a b, T.testBit b = true → zc F a b → zc K a b → S.testBit a = true)
    (hT : ∀ b, b < 6 → T.testBit b = true → dgn (wV P) b ≤ cct K b) {y : Int64} (hy : fitC P y) (hag : ∀ a b, a < nR P → b < nC P → ¬ zc F a b → (zc y a b ↔ zc K a b)) : False := by
  have hcut := cut_le (S := S) (T := T) (x := K) (y := y) (fun a b ha hb q1 q2 q3 => ?_) (fun a b ha hb q1 q2 q3 => ?_)
  · have e1 : sS S K < sS S y := by
      refine zs_lt (fun a ha => ?_) r hr ?_
      · cases S.testBit a
        · exact Int.le_refl _
        · show rct K a ≤ rct y a
          rw [hy.2.1 a ha]; exact hrr a ha
      · show (if S.testBit r then rct K r else 0) < (if S.testBit r then rct y r else 0)
        rw [hS]
        show rct K r < rct y r
        rw [hy.2.1 r hr]; exact hlt
    have e2 : sT T y = sT T K := by
      apply zs_congr
      intro b hb
      cases ht : T.testBit b
      · rfl
      · show cct y b = cct K b
        rw [hy.2.2 b hb]
        have q1 := hc b hb
        have q2 := hT b hb ht
        omega
    omega
  · have hbd := hy.1 a b q3
    by_cases hf : zc F a b
    · exact Classical.byContradiction (fun q4 => q2 (h1 a b q1 hf q4))
    · exact (hag a b hbd.1 hbd.2 hf).mp q3
  · have hbd := hK a b q3
    by_cases hf : zc F a b
    · exact absurd (h2 a b q2 hf q3) q1
    · exact (hag a b hbd.1 hbd.2 hf).mpr q3
/-! what the lines need -/
theorem cnt_mono {P : Pic} (ok : okP P) {x y : Int64} {l : Nat} (hl : l < nR P + nC P) (h : ∀ r c, zc x r c → zc y r c) : cnt (nR P) x l ≤ cnt (nR P) y l := by
  have o1 := ok.2.1
  have o2 := ok.2.2.2.1
  unfold cnt
  by_cases q : nR P ≤ l
  · rw [if_pos q, if_pos q]; exact cct_mono (by omega) (fun r q => h _ _ q)
  · rw [if_neg q, if_neg q]; exact rct_mono (by omega) (fun c q => h _ _ q)
theorem cnt_dis {P : Pic} (ok : okP P) {x y : Int64} {l : Nat} (hl : l < nR P + nC P) (h : ∀ r c, zc x r c → ¬ zc y r c) : cnt (nR P) (x ||| y) l = cnt (nR P) x l + cnt (nR P) y l := by
  have o1 := ok.2.1
  have o2 := ok.2.2.2.1
  have pt : ∀ r c, r < 6 → c < 6 → b2 (tb (x ||| y) (8 * r + c)) = b2 (tb x (8 * r + c)) + b2 (tb y (8 * r + c)) := by
    intro r c hr hc
    rw [tb_or]
    cases hx : tb x (8 * r + c)
    · cases tb y (8 * r + c) <;> decide
    · rw [tb_f (fun q => h r c ⟨by omega, by omega, hx⟩ ⟨by omega, by omega, q⟩)]; decide
  unfold cnt
  by_cases q : nR P ≤ l
  · rw [if_pos q, if_pos q, if_pos q]
    unfold cct
    rw [← zs_add]
    exact zs_congr (fun r hr => pt r _ hr (by omega))
  · rw [if_neg q, if_neg q, if_neg q]
    unfold rct
    rw [← zs_add]
    exact zs_congr (fun c hc => pt _ c (by omega) hc)
/-- the needs stand in the places 39 and 40 -/
def ndR (P : Pic) (z : Mem) (d : Nat → Int) : Prop := (∀ r, r < nR P → z.1 39 r = i3 (d r)) ∧ ∀ c, c < nC P → z.1 40 c = i3 (d (nR P + c))
theorem fitG_g1 {P : Pic} (ok : okP P) {s : Mem} {y : Int64} (h : fitG P s y) (r c : Nat) (q : zc (g1S P s) r c) : zc y r c := by
  have := (zc_g1 ok s r c).mp q
  refine (h.2 r c this.1.1 this.1.2 (fun w => ?_)).mpr q
  have := ((zc_gF ok s r c).mp w).2
  rw [‹(r < nR P ∧ c < nC P) ∧ s.1 37 (6 * r + c) = i3 1›.2] at this
  exact absurd this (by decide)
theorem fitG_up {P : Pic} {s : Mem} {y : Int64} (h : fitG P s y) (r c : Nat) (q : zc y r c) : zc (g1S P s ||| gFS P s) r c := by
  rw [zc_or]
  have hb := h.1.1 r c q
  by_cases hf : zc (gFS P s) r c
  · exact Or.inr hf
  · exact Or.inl ((h.2 r c hb.1 hb.2 hf).mp q)
theorem g1F_dis {P : Pic} (ok : okP P) (s : Mem) (r c : Nat) (q : zc (g1S P s) r c) : ¬ zc (gFS P s) r c := by
  intro w
  have h1 := ((zc_g1 ok s r c).mp q).2
  have h2 := ((zc_gF ok s r c).mp w).2
  rw [h1] at h2
  exact absurd h2 (by decide)
theorem hasNeeds_line {s z : Mem} {P : Pic} (h : MN z P) (ok : okP P) (hg : gOK P s) (hz : fr [39, 40] s z) {l : Nat} (hl : l < nR P + nC P) (k4 : Int32 → Int32 → Mem → Out) (sum : Int) (hsum : -1000 ≤ sum ∧ sum ≤ 1000) :
    let d := (wnt P l : Int) - cnt (nR P) (g1S P s) l
    (¬ (0 ≤ d ∧ d ≤ cnt (nR P) (gFS P s) l) ∧ f_X8_hasNeeds_34 k4 BIG (i3 sum) (i3 l) (i3 (wnt P l)) (0 : Int32) (0 : Int32) z = rI (i3 0) z) ∨
    ((0 ≤ d ∧ d ≤ cnt (nR P) (gFS P s) l) ∧ ∃ z', f_X8_hasNeeds_34 k4 BIG (i3 sum) (i3 l) (i3 (wnt P l)) (0 : Int32) (0 : Int32) z = k4 (i3 (if nR P ≤ l then sum - d else sum + d)) (i3 ((l + 1 : Nat) : Int)) z' ∧ z' = (if nR P ≤ l then sI z 40 (l - nR P) (i3 d) else sI z 39 l (i3 d))) := by
  have o1 := ok.2.1
  have o2 := ok.2.2.2.1
  have h6 := len6 ok l
  have w6 := wnt_6 ok hl
  intro d
  have b1 : ∀ r c, zc (g1S P s) r c → r < nR P ∧ c < nC P := fun r c q => ((zc_g1 ok s r c).mp q).1
  have bF : ∀ r c, zc (gFS P s) r c → r < nR P ∧ c < nC P := fun r c q => ((zc_gF ok s r c).mp q).1
  have e1 := lin_sum ok b1 hl
  have eF := lin_sum ok bF hl
  have c1 := cnt_0 (nR P) (g1S P s) l
  have c16 := cnt_6 (nR P) (g1S P s) l
  have cF := cnt_0 (nR P) (gFS P s) l
  have cF6 := cnt_6 (nR P) (gFS P s) l
  have st : f_X8_hasNeeds_34 k4 BIG (i3 sum) (i3 l) (i3 (wnt P l)) (0 : Int32) (0 : Int32) z = f_X8_hasNeeds_34 k4 BIG (i3 sum) (i3 l) (i3 ((wnt P l : Int) - zs 0 (fun i => b2 (tb (g1S P s) (8 * rowL P l i + colL P l i))))) (i3 (zs 0 (fun i => b2 (tb (gFS P s) (8 * rowL P l i + colL P l i))))) (i3 ((0 : Nat) : Int)) z := by
    rw [zs_0, zs_0, Int.sub_zero, show (0 : Int32) = i3 0 from l3_0]; exact nr rfl
  rw [st]
  -- the sums over the line
  have run : ∀ Q : Out → Prop, (∀ n, Q (f_X8_hasNeeds_34 k4 (n + 1) (i3 sum) (i3 l) (i3 d) (i3 (cnt (nR P) (gFS P s) l)) (i3 (lenL P l)) z)) → Q (f_X8_hasNeeds_34 k4 BIG (i3 sum) (i3 l) (i3 ((wnt P l : Int) - zs 0 (fun i => b2 (tb (g1S P s) (8 * rowL P l i + colL P l i))))) (i3 (zs 0 (fun i => b2 (tb (gFS P s) (8 * rowL P l i + colL P l i))))) (i3 ((0 : Nat) : Int)) z) := by
    intro Q hQ
    refine loop_st (σ := Unit) (fun n i _ => f_X8_hasNeeds_34 k4 n (i3 sum) (i3 l) (i3 ((wnt P l : Int) - zs i (fun i => b2 (tb (g1S P s) (8 * rowL P l i + colL P l i))))) (i3 (zs i (fun i => b2 (tb (gFS P s) (8 * rowL P l i + colL P l i))))) (i3 i) z) (fun _ _ => True) Q (lenL P l) ?_ ?_ BIG 0 () (by omega) (BIG_lt (by omega)) trivial
    · rintro n - -
      have := hQ n
      rw [← eF] at this
      have e : d = (wnt P l : Int) - zs (lenL P l) (fun i => b2 (tb (g1S P s) (8 * rowL P l i + colL P l i))) := by rw [e1]
      rw [e] at this
      exact this
    · rintro n i - hi -
      left
      have hb := lin_bd ok hl hi
      have eat : ((6 : Int32) * i3 (rowL P l i)) + i3 (colL P l i) = i3 (hat P l i) := at6 _ _
      have hbb := hat_bd ok hl hi
      have hck : ∀ K : Out, ck (inb (i3 (hat P l i : Int)) 36) K = K := fun K => ck_k (i3_in (by omega) (by decide)) K
      have ez : z.1 37 (hat P l i) = s.1 37 (6 * rowL P l i + colL P l i) := by rw [fr_1 hz (by simp)]; rfl
      have el : ¬ i3 (lenL P l : Int) ≤ i3 (i : Int) := nle3 (by omega)
      simp only [f_X8_hasNeeds_34, mLen h ok hl, cI_k, if_neg el, mRow h ok hl i, mCol h ok hl i, lt_k, eat, hck, clampN (show hat P l i < 2147483648 by omega), ez, f_X8_hasNeeds_81, inc3]
      have t1 := zc_g1 ok s (rowL P l i) (colL P l i)
      have tF := zc_gF ok s (rowL P l i) (colL P l i)
      rw [← tb_iff (by omega) (by omega)] at t1 tF
      refine ⟨(), trivial, ?_⟩
      rw [l3_1, l3_0, zs_s, zs_s]
      rcases hg _ _ hb.1 hb.2.1 with w | w | w
      · rw [w] at t1 tF ⊢
        have f1 : tb (g1S P s) (8 * rowL P l i + colL P l i) = false := tb_f (fun q => absurd (t1.mp q).2 (by decide))
        have f2 : tb (gFS P s) (8 * rowL P l i + colL P l i) = true := tF.mpr ⟨⟨hb.1, hb.2.1⟩, rfl⟩
        rw [f1, f2, if_neg (by decide), if_neg (by decide), i3_sub, i3_add, b2_f, b2_t]
        congr 2 <;> omega
      · rw [w] at t1 tF ⊢
        have f1 : tb (g1S P s) (8 * rowL P l i + colL P l i) = false := tb_f (fun q => absurd (t1.mp q).2 (by decide))
        have f2 : tb (gFS P s) (8 * rowL P l i + colL P l i) = false := tb_f (fun q => absurd (tF.mp q).2 (by decide))
        rw [f1, f2, if_neg (by decide), if_pos (by decide), i3_sub, i3_add, b2_f]
        congr 2 <;> omega
      · rw [w] at t1 tF ⊢
        have f1 : tb (g1S P s) (8 * rowL P l i + colL P l i) = true := t1.mpr ⟨⟨hb.1, hb.2.1⟩, rfl⟩
        have f2 : tb (gFS P s) (8 * rowL P l i + colL P l i) = false := tb_f (fun q => absurd (tF.mp q).2 (by decide))
        rw [f1, f2, if_pos (by decide), if_pos (by decide), i3_sub, i3_add, b2_f, b2_t]
        congr 2 <;> omega
  refine run (fun o => (¬ (0 ≤ d ∧ d ≤ cnt (nR P) (gFS P s) l) ∧ o = rI (i3 0) z) ∨ ((0 ≤ d ∧ d ≤ cnt (nR P) (gFS P s) l) ∧ ∃ z', o = k4 (i3 (if nR P ≤ l then sum - d else sum + d)) (i3 ((l + 1 : Nat) : Int)) z' ∧ z' = (if nR P ≤ l then sI z 40 (l - nR P) (i3 d) else sI z 39 l (i3 d)))) (fun n => ?_)
  have hd : -6 ≤ d ∧ d ≤ 6 := by show -6 ≤ (wnt P l : Int) - cnt (nR P) (g1S P s) l ∧ (wnt P l : Int) - cnt (nR P) (g1S P s) l ≤ 6; omega
  generalize d = d at hd ⊢
  have el : i3 (lenL P l : Int) ≤ i3 (lenL P l : Int) := le3 (by omega)
  simp only [f_X8_hasNeeds_34, mLen h ok hl, cI_k, if_pos el, l3_0, in_code (show -2147483648 ≤ d ∧ d < 2147483648 by omega) (show -2147483648 ≤ (0 : Int) ∧ (0 : Int) < 2147483648 by decide) (show -2147483648 ≤ cnt (nR P) (gFS P s) l ∧ cnt (nR P) (gFS P s) l < 2147483648 by omega), rows_code h, f_X8_hasNeeds_131, lt_k, inc3]
  by_cases q : 0 ≤ d ∧ d ≤ cnt (nR P) (gFS P s) l
  · right
    refine ⟨q, ?_⟩
    rw [if_pos q, if_neg (by decide)]
    by_cases a : nR P ≤ l
    · rw [if_pos (le3 (by omega)), if_pos (le3 (by omega)), i3_subn a, ck_k (i3_in (by omega) (by decide)), clampN (by omega), i3_neg, i3_add, if_pos a, if_pos a]
      exact ⟨_, rfl, rfl⟩
    · rw [if_neg (nle3 (by omega)), if_neg (nle3 (by omega)), ck_k (i3_in (by omega) (by decide)), clampN (by omega), i3_add, if_neg a, if_neg a]
      exact ⟨_, rfl, rfl⟩
  · left
    rw [if_neg q, if_pos rfl]
    exact ⟨q, rfl⟩
