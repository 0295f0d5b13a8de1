/-! the way from a row to a column -/
theorem m_shr {m k : Nat} (hm : m < 64) (hk : k < 6) : (shrI (i3 m) (i3 k)) &&& (1 : Int32) = i3 (b2 (m.testBit k)) := by
  have h : ∀ (m : Fin 64) (k : Fin 6), (shrI (i3 m.val) (i3 k.val)) &&& (1 : Int32) = i3 (b2 (m.val.testBit k.val)) := by decide +kernel
  exact h ⟨m, hm⟩ ⟨k, hk⟩
theorem m_nshr {m k : Nat} (hm : m < 64) (hk : k < 6) : (shrI (i3 m ^^^ (-1 : Int32)) (i3 k)) &&& (1 : Int32) = i3 (b2 (!(m.testBit k))) := by
  have h : ∀ (m : Fin 64) (k : Fin 6), (shrI (i3 m.val ^^^ (-1 : Int32)) (i3 k.val)) &&& (1 : Int32) = i3 (b2 (!(m.val.testBit k.val))) := by decide +kernel
  exact h ⟨m, hm⟩ ⟨k, hk⟩
theorem m_or {a b : Nat} (ha : a < 64) (hb : b < 64) : i3 a ||| i3 b = i3 ((a ||| b : Nat) : Int) := by
  have h : ∀ a b : Fin 64, i3 (a.val : Int) ||| i3 (b.val : Int) = i3 ((a.val ||| b.val : Nat) : Int) := by decide +kernel
  exact h ⟨a, ha⟩ ⟨b, hb⟩
theorem m_bit {k : Nat} (hk : k < 6) : shlI (1 : Int32) (i3 k) = i3 ((2 ^ k : Nat) : Int) := by
  have h : ∀ k : Fin 6, shlI (1 : Int32) (i3 k.val) = i3 ((2 ^ k.val : Nat) : Int) := by decide +kernel
  exact h ⟨k, hk⟩
theorem m_bit64 {k : Nat} (hk : k < 6) : 2 ^ k < 64 := Nat.pow_lt_pow_right (a := 2) (by decide) (show k < 6 from hk)
theorem m_or64 {a b : Nat} (ha : a < 64) (hb : b < 64) : a ||| b < 64 := Nat.or_lt_two_pow (n := 6) ha hb
theorem m_hi {m k : Nat} (hm : m < 64) (h : m.testBit k = true) : k < 6 := by
  by_cases hk : k < 6
  · exact hk
  · have : m.testBit k = false := Nat.testBit_lt_two_pow (Nat.lt_of_lt_of_le (show m < 2 ^ 6 from hm) (Nat.pow_le_pow_right (by decide) (by omega)))
    rw [this] at h; cases h
theorem m_tbit (k a : Nat) : (2 ^ k).testBit a = true ↔ a = k := by
  rw [Nat.testBit_two_pow]
  simp only [decide_eq_true_eq]
  exact ⟨fun h => h.symm, fun h => h.symm⟩
theorem m_tor (m n a : Nat) : (m ||| n).testBit a = true ↔ m.testBit a = true ∨ n.testBit a = true := by rw [Nat.testBit_or, Bool.or_eq_true]
def ctz (m : Nat) : Nat := if m.testBit 0 then 0 else if m.testBit 1 then 1 else if m.testBit 2 then 2 else if m.testBit 3 then 3 else if m.testBit 4 then 4 else 5
theorem m_low {m : Nat} (hm : m < 64) (h0 : ¬ m = 0) (μ : Mem) : F_J6_bitCount_0f7a4 ((i3 m &&& (-(i3 m))) - (1 : Int32)) μ = rI (i3 (ctz m)) μ := by
  have h1 : ∀ x, F_J6_bitCount_0f7a4 x μ = rI (gJ6 x) μ := fun x => rfl
  have h : ∀ m : Fin 64, ¬ m.val = 0 → gJ6 ((i3 m.val &&& (-(i3 m.val))) - (1 : Int32)) = i3 (ctz m.val) := by decide +kernel
  rw [h1, h ⟨m, hm⟩ h0]
theorem m_clr {m : Nat} (hm : m < 64) (h0 : ¬ m = 0) : i3 m &&& (i3 m - (1 : Int32)) = i3 ((m &&& (m - 1) : Nat) : Int) ∧ (∀ k, k < 6 → (m &&& (m - 1)).testBit k = (m.testBit k && !(decide (k = ctz m)))) ∧ pi (m &&& (m - 1)) + 1 = pi m ∧ m.testBit (ctz m) = true ∧ ctz m < 6 ∧ m &&& (m - 1) < 64 := by
  have h : ∀ m : Fin 64, ¬ m.val = 0 → i3 m.val &&& (i3 m.val - (1 : Int32)) = i3 ((m.val &&& (m.val - 1) : Nat) : Int) ∧ (∀ k : Fin 6, (m.val &&& (m.val - 1)).testBit k.val = (m.val.testBit k.val && !(decide (k.val = ctz m.val)))) ∧ pi (m.val &&& (m.val - 1)) + 1 = pi m.val ∧ m.val.testBit (ctz m.val) = true ∧ ctz m.val < 6 ∧ m.val &&& (m.val - 1) < 64 := by decide +kernel
  obtain ⟨a, b, c⟩ := h ⟨m, hm⟩ h0
  exact ⟨a, fun k hk => b ⟨k, hk⟩, c⟩
theorem m_eq0 {m : Nat} (hm : m < 64) : (i3 m = (0 : Int32)) = (m = 0) := by
  rw [l3_0, i3_eq (by omega) (by omega)]
  apply propext; omega
theorem pi_or {a b : Nat} (ha : a < 64) (hb : b < 64) (h : a &&& b = 0) : pi (a ||| b) = pi a + pi b := by
  have h1 : ∀ a b : Fin 64, a.val &&& b.val = 0 → pi (a.val ||| b.val) = pi a.val + pi b.val := by decide +kernel
  exact h1 ⟨a, ha⟩ ⟨b, hb⟩ h
theorem pi_6 {m : Nat} : pi m ≤ 6 := by
  have := zs_bnd (n := 6) (f := fun i => b2 (m.testBit i)) 1 (fun i _ => b2_1 _)
  unfold pi; omega
theorem pi_pos {m : Nat} (hm : m < 64) (h0 : ¬ m = 0) : 0 < pi m := by
  have h : ∀ m : Fin 64, ¬ m.val = 0 → 0 < pi m.val := by decide +kernel
  exact h ⟨m, hm⟩ h0
theorem m_disj {a b : Nat} (h : ∀ k, a.testBit k = true → ¬ b.testBit k = true) : a &&& b = 0 := by
  apply Nat.eq_of_testBit_eq
  intro k
  rw [Nat.testBit_and, Nat.zero_testBit]
  cases ha : a.testBit k
  · rfl
  · have := h k ha
    cases hb : b.testBit k
    · rfl
    · exact absurd hb this
theorem and_bvt {x : Int64} {r c : Nat} (h : zc x r c) : x &&& bv (8 * r + c) = bv (8 * r + c) := by
  apply zc_ext
  intro a b
  rw [zc_and, zc_bv (by have := h.1; have := h.2.1; omega)]
  constructor
  · exact fun q => q.2
  · intro q
    have h1 := h.1
    have h2 := h.2.1
    have e1 : a = r := by omega
    have e2 : b = c := by omega
    subst e1 e2
    exact ⟨h, q⟩
theorem inb6 {r : Nat} (h : r < 6) : inb (i3 r) 6 := (i3_inb (by omega)).mpr (by omega)
theorem enterRows_code {c S : Nat} (hc : c < 6) (hS : S < 64) (way back : Int64) (μ : Mem) : ∃ (e : Nat) (s : Mem), F_X2_enterRows (i3 c) way back (i3 S ^^^ (-1 : Int32)) μ = rI (i3 e) s ∧ fr [12] μ s ∧ e < 64 ∧ (∀ a, e.testBit a = true ↔ a < 6 ∧ zc back a c ∧ ¬ S.testBit a = true) ∧
    ∀ a, a < 6 → s.2.1 12 a = if e.testBit a then way ||| bv (8 * a + c) else μ.2.1 12 a := by
  simp only [F_X2_enterRows]
  rw [show (0 : Int32) = i3 ((0 : Nat) : Int) from l3_0]
  refine loop_st (σ := Nat × Mem) (fun n i s => f_X2_enterRows_6 n (i3 c) way back (i3 S ^^^ (-1 : Int32)) (i3 s.1) (i3 i) s.2)
    (fun i s => fr [12] μ s.2 ∧ s.1 < 64 ∧ (∀ a, s.1.testBit a = true ↔ a < i ∧ zc back a c ∧ ¬ S.testBit a = true) ∧ ∀ a, a < 6 → s.2.2.1 12 a = if s.1.testBit a then way ||| bv (8 * a + c) else μ.2.1 12 a)
    (fun o => ∃ (e : Nat) (s : Mem), o = rI (i3 e) s ∧ fr [12] μ s ∧ e < 64 ∧ (∀ a, e.testBit a = true ↔ a < 6 ∧ zc back a c ∧ ¬ S.testBit a = true) ∧ ∀ a, a < 6 → s.2.1 12 a = if e.testBit a then way ||| bv (8 * a + c) else μ.2.1 12 a) 6 ?_ ?_ BIG 0 (0, μ) (by decide) (BIG_lt (by decide)) ⟨fr_rf _ _, (show 0 < 64 by decide), fun a => ?_, fun a _ => ?_⟩
  · rintro n ⟨e, s⟩ ⟨h1, h2, h3, h4⟩
    simp only [f_X2_enterRows_6, l3_6]
    rw [if_pos (le3 (by omega))]
    exact ⟨e, s, rfl, h1, h2, h3, h4⟩
  · rintro n i ⟨e, s⟩ hi ⟨h1, h2, h3, h4⟩
    simp only at h1 h2 h3 h4
    left
    have hbv : shlL (1 : Int64) ((8 : Int32) * i3 i + i3 c) = bv (8 * i + c) := by
      rw [l3_8, i3_mul, i3_add]
      unfold bv
      rw [show (8 : Int) * (i : Int) + (c : Int) = ((8 * i + c : Nat) : Int) from by push_cast; rfl]
    simp only [f_X2_enterRows_6, l3_6, hbv, lt_k, inc3, m_nshr hS hi]
    rw [if_neg (nle3 (by omega))]
    have keep : ∀ q, (¬ zc back i c ∨ S.testBit i = true) → (q = e) → (∀ a, q.testBit a = true ↔ a < i + 1 ∧ zc back a c ∧ ¬ S.testBit a = true) := by
      intro q h5 hq a
      rw [hq, h3]
      constructor
      · rintro ⟨p1, p2, p3⟩; exact ⟨by omega, p2, p3⟩
      · rintro ⟨p1, p2, p3⟩
        by_cases hai : a = i
        · subst hai
          rcases h5 with h5 | h5
          · exact absurd p2 h5
          · exact absurd h5 p3
        · exact ⟨by omega, p2, p3⟩
    by_cases hb : zc back i c
    · rw [if_neg (bv_t hb)]
      cases hs : S.testBit i
      · rw [show b2 (!false) = 1 from rfl, if_neg (by decide), ck_k (inb6 hi), i3_nat (by omega) (by omega), m_bit hi, m_or h2 (m_bit64 hi)]
        refine ⟨(_, _), ⟨fr_tr h1 (fr_sJ (by simp)), m_or64 h2 (m_bit64 hi), fun a => ?_, fun a ha => ?_⟩, rfl⟩
        · rw [m_tor, m_tbit, h3]
          constructor
          · rintro (⟨p1, p2, p3⟩ | p)
            · exact ⟨by omega, p2, p3⟩
            · subst p; exact ⟨by omega, hb, by rw [hs]; decide⟩
          · rintro ⟨p1, p2, p3⟩
            by_cases hai : a = i
            · exact Or.inr hai
            · exact Or.inl ⟨by omega, p2, p3⟩
        · show up2 s.2.1 12 (Int.toNat (i : Int)) (way ||| (back &&& bv (8 * i + c))) 12 a = _
          rw [Int.toNat_natCast, and_bvt hb, up2_a]
          by_cases hai : a = i
          · subst hai
            rw [if_pos ⟨rfl, rfl⟩, if_pos ((m_tor _ _ _).mpr (Or.inr ((m_tbit _ _).mpr rfl)))]
          · rw [if_neg (fun q => hai q.2), h4 a ha]
            have : (e ||| 2 ^ i).testBit a = e.testBit a := by
              rw [Nat.testBit_or]
              have : (2 ^ i).testBit a = false := by
                cases hq : (2 ^ i).testBit a
                · rfl
                · exact absurd ((m_tbit _ _).mp hq) hai
              rw [this, Bool.or_false]
            simp only [this]
      · rw [show b2 (!true) = 0 from rfl, if_pos (by decide)]
        exact ⟨(e, s), ⟨h1, h2, keep e (Or.inr hs) rfl, h4⟩, rfl⟩
    · rw [if_pos (bv_f (by omega) (by omega) hb)]
      exact ⟨(e, s), ⟨h1, h2, keep e (Or.inl hb) rfl, h4⟩, rfl⟩
  · constructor
    · intro h; simp at h
    · rintro ⟨h, -⟩; omega
  · simp
theorem forgetWays_code (μ : Mem) : ∃ s, F_X2_forgetWays μ = rV s ∧ fr [12] μ s ∧ ∀ a, a < 6 → s.2.1 12 a = 0 := by
  simp only [F_X2_forgetWays]
  rw [show (0 : Int32) = i3 ((0 : Nat) : Int) from l3_0]
  refine loop_st (σ := Mem) (fun n i s => f_X2_forgetWays_2 n (i3 i) s) (fun i s => fr [12] μ s ∧ ∀ a, a < i → s.2.1 12 a = 0)
    (fun o => ∃ s, o = rV s ∧ fr [12] μ s ∧ ∀ a, a < 6 → s.2.1 12 a = 0) 6 ?_ ?_ BIG 0 μ (by decide) (BIG_lt (by decide)) ⟨fr_rf _ _, fun a h => by omega⟩
  · rintro n s ⟨h1, h2⟩
    simp only [f_X2_forgetWays_2, l3_6]
    rw [if_pos (le3 (by omega))]
    exact ⟨s, rfl, h1, h2⟩
  · rintro n i s hi ⟨h1, h2⟩
    left
    simp only [f_X2_forgetWays_2, l3_6, lt_k, inc3]
    rw [if_neg (nle3 (by omega)), ck_k (inb6 hi), i3_nat (by omega) (by omega)]
    refine ⟨_, ⟨fr_tr h1 (fr_sJ (by simp)), fun a ha => ?_⟩, rfl⟩
    rw [sJ_21, up2_a]
    by_cases hai : a = i
    · rw [if_pos ⟨rfl, by omega⟩]
    · rw [if_neg (by omega)]; exact h2 a (by omega)
theorem wayToRow_code {r : Nat} (hr : r < 6) (μ : Mem) : F_X2_wayToRow (i3 r) μ = rJ (μ.2.1 12 r) μ := by
  simp only [F_X2_wayToRow, l3_0, l3_6]
  rw [if_neg (nlt3 (by omega)), if_neg (nle3 (by omega)), ck_k (inb6 hr), i3_nat (by omega) (by omega), Int.toNat_natCast]
/-- w leads from the row a0 to the row a1 (its balance of forth and back), by rows of S and columns of T -/
def wayOK (forth back : Int64) (S T a0 a1 : Nat) (w : Int64) : Prop :=
  (∀ a b, zc w a b → (zc forth a b ∨ zc back a b) ∧ S.testBit a = true ∧ T.testBit b = true) ∧
  (∀ a, a < 6 → rct (w &&& forth) a - rct (w &&& back) a = (if a = a0 then 1 else 0) - (if a = a1 then 1 else 0)) ∧
  (∀ b, b < 6 → cct (w &&& forth) b = cct (w &&& back) b)
theorem rct_or {x : Int64} {a b r : Nat} (ha : a < 6) (hb : b < 6) (h : ¬ zc x a b) : rct (x ||| bv (8 * a + b)) r = rct x r + if r = a then 1 else 0 := by
  unfold rct
  have e : ∀ c, c < 6 → b2 (tb (x ||| bv (8 * a + b)) (8 * r + c)) = b2 (tb x (8 * r + c)) + (if c = b then (if r = a then 1 else 0) else 0) := by
    intro c hc
    rw [tb_or, tb_bv (by omega)]
    by_cases h1 : r = a ∧ c = b
    · obtain ⟨rfl, rfl⟩ := h1
      have : tb x (8 * r + c) = false := tb_f (fun q => h ⟨by omega, by omega, q⟩)
      rw [this]; simp [b2]
    · have h4 : ¬ 8 * r + c = 8 * a + b := by omega
      rw [decide_eq_false h4, Bool.or_false]
      by_cases h2 : c = b
      · rw [if_pos h2, if_neg (fun q => h1 ⟨q, h2⟩)]; omega
      · rw [if_neg h2]; omega
  rw [zs_congr e, zs_add, zs_one hb]
theorem cct_or {x : Int64} {a b c : Nat} (ha : a < 6) (hb : b < 6) (hc : c < 6) (h : ¬ zc x a b) : cct (x ||| bv (8 * a + b)) c = cct x c + if c = b then 1 else 0 := by
  unfold cct
  have e : ∀ r, r < 6 → b2 (tb (x ||| bv (8 * a + b)) (8 * r + c)) = b2 (tb x (8 * r + c)) + (if r = a then (if c = b then 1 else 0) else 0) := by
    intro r hr
    rw [tb_or, tb_bv (by omega)]
    by_cases h1 : r = a ∧ c = b
    · obtain ⟨rfl, rfl⟩ := h1
      have : tb x (8 * r + c) = false := tb_f (fun q => h ⟨by omega, by omega, q⟩)
      rw [this]; simp [b2]
    · have h4 : ¬ 8 * r + c = 8 * a + b := by omega
      rw [decide_eq_false h4, Bool.or_false]
      by_cases h2 : r = a
      · rw [if_pos h2, if_neg (fun q => h1 ⟨h2, q⟩)]; omega
      · rw [if_neg h2]; omega
  rw [zs_congr e, zs_add, zs_one ha]
