/-! hulls of the model: the place 36 -/
def hv (s : Mem) : Prop := ∀ j, j < 36 → s.1 36 j = i3 0 ∨ s.1 36 j = i3 1
def hn (s : Mem) : Int := zs 36 (fun j => if s.1 36 j = i3 1 then 1 else 0)
theorem hn_bd (s : Mem) : 0 ≤ hn s ∧ hn s ≤ 36 := by
  constructor
  · exact zs_pos (fun i _ => by split <;> omega)
  · have := zs_bnd (n := 36) (f := fun j => if s.1 36 j = i3 1 then (1 : Int) else 0) 1 (fun i _ => by split <;> omega)
    unfold hn; omega
def hat (P : Pic) (l i : Nat) : Nat := 6 * rowL P l i + colL P l i
def hl (P : Pic) (s : Mem) (l i : Nat) : Prop := s.1 36 (hat P l i) = i3 1
theorem hat_bd {P : Pic} (ok : okP P) {l : Nat} (hl : l < nR P + nC P) {i : Nat} (hi : i < lenL P l) : hat P l i < 36 := by
  have := lin_bd ok hl hi
  have := ok.2.1
  have := ok.2.2.2.1
  unfold hat; omega
theorem hat_inj {P : Pic} {l i j : Nat} (h : hat P l i = hat P l j) : i = j := by
  unfold hat rowL colL at h
  by_cases q : nR P ≤ l
  · simp only [if_pos q] at h; omega
  · simp only [if_neg q] at h; omega
theorem h01 : ¬ (i3 0 = i3 1) := by decide
theorem h10 : ¬ (i3 1 = i3 0) := by decide
theorem nar1 : vp_nar .boolean (1 : Int32) = i3 1 := by decide
theorem nar0 : vp_nar .boolean (0 : Int32) = i3 0 := by decide
/-- what comes of filling a line of the hull -/
def fhR (P : Pic) (s : Mem) (l : Nat) (o : Out) : Prop := ∃ v z, o = rI (i3 v) z ∧ fr [36] s z ∧ hv z ∧ (∀ j, j < 36 → s.1 36 j = i3 1 → z.1 36 j = i3 1) ∧
  (∀ j, j < 36 → z.1 36 j = i3 1 → s.1 36 j = i3 1 ∨ ∃ a i b, a ≤ i ∧ i ≤ b ∧ b < lenL P l ∧ hl P s l a ∧ hl P s l b ∧ j = hat P l i) ∧
  ((v = 0 ∧ (∀ j, j < 36 → z.1 36 j = s.1 36 j) ∧ ∀ a i b, a ≤ i → i ≤ b → b < lenL P l → hl P s l a → hl P s l b → hl P s l i) ∨ (v = 1 ∧ hn s < hn z))
theorem mFillTwo {s : Mem} {P : Pic} (h : MN s P) (ok : okP P) (hvs : hv s) {l : Nat} (hll : l < nR P + nC P) {f g : Nat} (hfg : f ≤ g) (hg : g < lenL P l) (hf : hl P s l f) (hgg : hl P s l g) (hall : ∀ j, j < lenL P l → hl P s l j → f ≤ j ∧ j ≤ g) :
    fhR P s l (f_X8_fillsHull_86 BIG (i3 l) (i3 f) (i3 g) (0 : Int32) (i3 f) s) := by
  have h6 := len6 ok l
  rw [l3_0]
  refine loop_st (σ := Int × Mem) (fun n i z => f_X8_fillsHull_86 n (i3 l) (i3 f) (i3 g) (i3 z.1) (i3 i) z.2)
    (fun i z => f ≤ i ∧ fr [36] s z.2 ∧ hv z.2 ∧ (∀ j, j < 36 → s.1 36 j = i3 1 → z.2.1 36 j = i3 1) ∧ (∀ j, j < 36 → z.2.1 36 j = i3 1 → s.1 36 j = i3 1 ∨ ∃ i', f ≤ i' ∧ i' < i ∧ j = hat P l i') ∧
      ((z.1 = 0 ∧ (∀ j, j < 36 → z.2.1 36 j = s.1 36 j) ∧ ∀ i', f ≤ i' → i' < i → hl P s l i') ∨ (z.1 = 1 ∧ hn s < hn z.2)))
    (fhR P s l) g ?_ ?_ BIG f (0, s) hfg (BIG_lt (by omega)) ⟨Nat.le_refl _, fr_rf _ _, hvs, fun _ _ q => q, fun _ _ q => Or.inl q, Or.inl ⟨rfl, fun _ _ => rfl, fun i' q1 q2 => by omega⟩⟩
  · rintro n ⟨v, z⟩ ⟨q0, q1, q2, q3, q4, q5⟩
    simp only at q0 q1 q2 q3 q4 q5
    have hv01 : v = 0 ∨ v = 1 := by rcases q5 with ⟨a, -⟩ | ⟨a, -⟩ <;> omega
    simp only [f_X8_fillsHull_86, l3_m9]
    rw [if_neg (ne3 (by omega)), if_pos (le3 (by omega)), ck_k (nz01 (by rcases hv01 with rfl | rfl; exact Or.inl rfl; exact Or.inr rfl))]
    refine ⟨v, z, rfl, q1, q2, q3, fun j hj w => ?_, ?_⟩
    · rcases q4 j hj w with a | ⟨i', a1, a2, a3⟩
      · exact Or.inl a
      · exact Or.inr ⟨f, i', g, a1, by omega, hg, hf, hgg, a3⟩
    · rcases q5 with ⟨a, b, d⟩ | a
      · refine Or.inl ⟨a, b, fun a' i b' w1 w2 w3 w4 w5 => ?_⟩
        have h1 := hall a' (by omega) w4
        have h2 := hall b' w3 w5
        by_cases e : i = g
        · rw [e]; exact hgg
        · exact d i (by omega) (by omega)
      · exact Or.inr a
  · rintro n i ⟨v, z⟩ hi ⟨q0, q1, q2, q3, q4, q5⟩
    simp only at q0 q1 q2 q3 q4 q5
    left
    have hz : MN z P := MN_fr h q1 (by simp)
    have hb := hat_bd ok hll (show i < lenL P l by omega)
    have eat : ((6 : Int32) * i3 (rowL P l i)) + i3 (colL P l i) = i3 (hat P l i) := at6 _ _
    -- the cell comes into the hull
    have come : ∀ d : Int, ((d = 0 ∧ v = 0 ∧ z.1 36 (hat P l i) = i3 1) ∨ (d = 1 ∧ (v = 1 ∨ (v = 0 ∧ z.1 36 (hat P l i) = i3 0)))) →
        (f ≤ i + 1 ∧ fr [36] s (sI z 36 (hat P l i) (i3 1)) ∧ hv (sI z 36 (hat P l i) (i3 1)) ∧ (∀ j, j < 36 → s.1 36 j = i3 1 → (sI z 36 (hat P l i) (i3 1)).1 36 j = i3 1) ∧
        (∀ j, j < 36 → (sI z 36 (hat P l i) (i3 1)).1 36 j = i3 1 → s.1 36 j = i3 1 ∨ ∃ i', f ≤ i' ∧ i' < i + 1 ∧ j = hat P l i') ∧
        ((d = 0 ∧ (∀ j, j < 36 → (sI z 36 (hat P l i) (i3 1)).1 36 j = s.1 36 j) ∧ ∀ i', f ≤ i' → i' < i + 1 → hl P s l i') ∨ (d = 1 ∧ hn s < hn (sI z 36 (hat P l i) (i3 1))))) := by
      intro d hd
      have val : ∀ j, (sI z 36 (hat P l i) (i3 1)).1 36 j = if j = hat P l i then i3 1 else z.1 36 j := fun j => by
        rw [sI_1, up2_a]
        by_cases e : j = hat P l i
        · rw [if_pos ⟨rfl, e⟩, if_pos e]
        · rw [if_neg (fun w => e w.2), if_neg e]
      have mono : hn z ≤ hn (sI z 36 (hat P l i) (i3 1)) := zs_le (fun j _ => by
        rw [val]
        by_cases e : j = hat P l i
        · rw [if_pos e, if_pos rfl]; split <;> omega
        · rw [if_neg e]; exact Int.le_refl _)
      refine ⟨by omega, fr_tr q1 (fr_sI (by simp)), fun j hj => ?_, fun j hj w => ?_, fun j hj w => ?_, ?_⟩
      · rw [val]
        by_cases e : j = hat P l i
        · rw [if_pos e]; exact Or.inr rfl
        · rw [if_neg e]; exact q2 j hj
      · rw [val]
        by_cases e : j = hat P l i
        · rw [if_pos e]
        · rw [if_neg e]; exact q3 j hj w
      · rw [val] at w
        by_cases e : j = hat P l i
        · exact Or.inr ⟨i, q0, by omega, e⟩
        · rw [if_neg e] at w
          rcases q4 j hj w with a | ⟨i', a1, a2, a3⟩
          · exact Or.inl a
          · exact Or.inr ⟨i', a1, by omega, a3⟩
      · rcases hd with ⟨rfl, rfl, d3⟩ | ⟨rfl, d2⟩
        · left
          rcases q5 with ⟨-, b, d⟩ | ⟨a, -⟩
          · refine ⟨rfl, fun j hj => ?_, fun i' w1 w2 => ?_⟩
            · rw [val]
              by_cases e : j = hat P l i
              · rw [if_pos e, ← b j hj, e, d3]
              · rw [if_neg e]; exact b j hj
            · by_cases e : i' = i
              · rw [e]; unfold hl; rw [← b _ hb]; exact d3
              · exact d i' w1 (by omega)
          · omega
        · right
          refine ⟨rfl, ?_⟩
          rcases d2 with rfl | ⟨rfl, d3⟩
          · rcases q5 with ⟨a, -⟩ | ⟨-, a⟩
            · omega
            · omega
          · have : hn z < hn (sI z 36 (hat P l i) (i3 1)) := by
              refine zs_lt (fun j _ => ?_) (hat P l i) hb ?_
              · rw [val]
                by_cases e : j = hat P l i
                · rw [if_pos e, if_pos rfl]; split <;> omega
                · rw [if_neg e]; exact Int.le_refl _
              · rw [val, if_pos rfl, if_pos rfl, d3, if_neg h01]; decide
            rcases q5 with ⟨-, b, -⟩ | ⟨a, -⟩
            · have : hn z = hn s := zs_congr (fun j hj => by rw [b j hj])
              omega
            · omega
    have hck : ∀ K : Out, ck (inb (i3 (hat P l i : Int)) 36) K = K := fun K => ck_k (i3_in (by omega) (by decide)) K
    have e9 : ¬ i3 (f : Int) = i3 (-9) := ne3 (by omega)
    have eg : ¬ i3 (g : Int) ≤ i3 (i : Int) := nle3 (by omega)
    simp only [f_X8_fillsHull_86, l3_m9, if_neg e9, if_neg eg, mRow hz ok hll i, mCol hz ok hll i, cI_k, lt_k, eat, hck, clampN (show hat P l i < 2147483648 by omega), f_X8_fillsHull_138, nar1, inc3]
    rw [l3_0, l3_1]
    have hv01 : v = 0 ∨ v = 1 := by rcases q5 with ⟨a, -⟩ | ⟨a, -⟩ <;> omega
    rcases hv01 with rfl | rfl
    · rw [if_pos rfl]
      rcases q2 _ hb with w | w
      · rw [if_pos w]
        exact ⟨(1, _), come 1 (Or.inr ⟨rfl, Or.inr ⟨rfl, w⟩⟩), rfl⟩
      · rw [if_neg (by rw [w]; exact h10)]
        exact ⟨(0, _), come 0 (Or.inl ⟨rfl, rfl, w⟩), rfl⟩
    · rw [if_neg h10]
      exact ⟨(1, _), come 1 (Or.inr ⟨rfl, Or.inl rfl⟩), rfl⟩
theorem mFillsHull {s : Mem} {P : Pic} (h : MN s P) (ok : okP P) (hvs : hv s) {l : Nat} (hll : l < nR P + nC P) : fhR P s l (F_X8_fillsHull (i3 l) s) := by
  have h6 := len6 ok l
  simp only [F_X8_fillsHull, l3_m9]
  rw [show (0 : Int32) = i3 ((0 : Nat) : Int) from l3_0]
  refine loop_st (σ := Int × Int) (fun n i z => f_X8_fillsHull_9 n (i3 l) (i3 z.1) (i3 z.2) (i3 i) s)
    (fun i z => (z.1 = -9 ∧ z.2 = -9 ∧ ∀ j, j < i → ¬ hl P s l j) ∨ ∃ f g : Nat, z.1 = f ∧ z.2 = g ∧ f ≤ g ∧ g < i ∧ hl P s l f ∧ hl P s l g ∧ ∀ j, j < i → hl P s l j → f ≤ j ∧ j ≤ g)
    (fhR P s l) (lenL P l) ?_ ?_ BIG 0 (-9, -9) (by omega) (BIG_lt (by omega)) (Or.inl ⟨rfl, rfl, fun j q => by omega⟩)
  · rintro n ⟨f, g⟩ q
    simp only at q
    simp only [f_X8_fillsHull_9, mLen h ok hll, cI_k]
    rw [if_pos (le3 (by omega))]
    rcases q with ⟨rfl, rfl, q⟩ | ⟨f', g', rfl, rfl, q1, q2, q3, q4, q5⟩
    · have : f_X8_fillsHull_86 BIG (i3 l) (i3 (-9)) (i3 (-9)) (0 : Int32) (i3 (-9)) s = rI (i3 0) s := by
        obtain ⟨m, hB⟩ : ∃ m, BIG = m + 1 := ⟨4095, rfl⟩
        rw [hB]
        simp only [f_X8_fillsHull_86, l3_m9, l3_0]
        rw [ck_k (nz01 (Or.inl rfl))]
        simp only [if_true]
      rw [this]
      exact ⟨0, s, rfl, fr_rf _ _, hvs, fun _ _ w => w, fun _ _ w => Or.inl w, Or.inl ⟨rfl, fun _ _ => rfl, fun a i b w1 w2 w3 w4 _ => absurd w4 (q a (by omega))⟩⟩
    · exact mFillTwo h ok hvs hll q1 q2 q3 q4 q5
  · rintro n i ⟨f, g⟩ hi q
    simp only at q
    left
    have hb := hat_bd ok hll hi
    have eat : ((6 : Int32) * i3 (rowL P l i)) + i3 (colL P l i) = i3 (hat P l i) := at6 _ _
    have hck : ∀ K : Out, ck (inb (i3 (hat P l i : Int)) 36) K = K := fun K => ck_k (i3_in (by omega) (by decide)) K
    have el : ¬ i3 (lenL P l : Int) ≤ i3 (i : Int) := nle3 (by omega)
    simp only [f_X8_fillsHull_9, mLen h ok hll, cI_k, if_neg el, mRow h ok hll i, mCol h ok hll i, lt_k, eat, hck, clampN (show hat P l i < 2147483648 by omega), f_X8_fillsHull_61, inc3]
    rw [l3_0, l3_m9]
    rcases hvs _ hb with w | w
    · rw [w, if_pos rfl, if_pos rfl]
      refine ⟨(f, g), ?_, rfl⟩
      have nh : ¬ hl P s l i := fun z => by unfold hl at z; rw [w] at z; exact h01 z
      rcases q with ⟨q1, q2, q3⟩ | ⟨f', g', q1, q2, q3, q4, q5, q6, q7⟩
      · refine Or.inl ⟨q1, q2, fun j hj => ?_⟩
        by_cases e : j = i
        · rw [e]; exact nh
        · exact q3 j (by omega)
      · refine Or.inr ⟨f', g', q1, q2, q3, by omega, q5, q6, fun j hj z => ?_⟩
        by_cases e : j = i
        · rw [e] at z; exact absurd z nh
        · exact q7 j (by omega) z
    · rw [w, if_neg h10, if_neg h10, if_neg h10]
      rcases q with ⟨q1, q2, q3⟩ | ⟨f', g', q1, q2, q3, q4, q5, q6, q7⟩
      · subst q1 q2
        rw [if_pos rfl]
        refine ⟨(i, i), Or.inr ⟨i, i, rfl, rfl, Nat.le_refl _, by omega, w, w, fun j hj z => ?_⟩, rfl⟩
        by_cases e : j = i
        · omega
        · exact absurd z (q3 j (by omega))
      · rw [if_neg (ne3 (by omega))]
        refine ⟨(f, i), Or.inr ⟨f', i, q1, rfl, by omega, by omega, q5, w, fun j hj z => ?_⟩, rfl⟩
        by_cases e : j = i
        · omega
        · have := q7 j (by omega) z; omega
