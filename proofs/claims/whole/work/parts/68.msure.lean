/-! the sure cells, the model's way -/
def suV (P : Pic) (K : Int64) (r c : Nat) (v : Int32) : Prop := (sureC P (fX P) r c ∧ v = i3 (b2 (tb K (8 * r + c)))) ∨ (¬ sureC P (fX P) r c ∧ v = i3 (-1))
def suQ (P : Pic) (s : Mem) (o : Out) : Prop := ∃ v z, o = rI (i3 v) z ∧ fr [37, 38, 39, 40, 41, 42, 43, 46] s z ∧
  ((v = 1 ∧ ∃ K, fitP P (fX P) K ∧ ∀ r c, r < nR P → c < nC P → suV P K r c (z.1 46 (6 * r + c))) ∨ (v = 0 ∧ ¬ ∃ y, fitP P (fX P) y))
theorem su77 {P : Pic} {s z : Mem} (hm : MN s P) (ok : okP P) {K : Int64} (hK : fitP P (fX P) K) {i j : Nat} (hi : i < nR P) (hj : j < nC P) (hz : fr [37, 38, 39, 40, 41, 42, 43, 46] s z) (h46 : z.1 46 (6 * i + j) = i3 (b2 (tb K (8 * i + j)))) (k67 : Int32 → Mem → Out) (m : Nat) :
    ∃ z', f_X8_laysSures_77 k67 (m + 1) (i3 i) (i3 j) z = f_X8_laysSures_77 k67 m (i3 i) (i3 ((j + 1 : Nat) : Int)) z' ∧ fr [37, 38, 39, 40, 41, 42, 43, 46] s z' ∧ suV P K i j (z'.1 46 (6 * i + j)) ∧ ∀ x, ¬ x = 6 * i + j → z'.1 46 x = z.1 46 x := by
  have o1 := ok.2.1
  have o2 := ok.2.2.2.1
  have hmz := MN_fr hm hz (by simp)
  have el : ¬ i3 (nC P : Int) ≤ i3 (j : Int) := nle3 (by omega)
  have hck : ∀ O : Out, ck (inb (i3 ((6 * i + j : Nat) : Int)) 36) O = O := fun O => ck_k (i3_in (by omega) (by decide)) O
  have tK := tb_iff (x := K) (r := i) (c := j) (by omega) (by omega)
  simp only [f_X8_laysSures_77, cols_code hmz, cI_k, if_neg el, at6, lt_k, mPinned hmz (show i < 6 by omega) (show j < 6 by omega), hck, clampN (show 6 * i + j < 2147483648 by omega), inc3]
  rcases b2_3 (tb (fP P) (8 * i + j)) with ⟨a1, a2⟩ | ⟨a1, a2⟩
  · have n0 : ¬ i3 1 = (0 : Int32) := by decide
    simp only [a2, if_neg n0]
    have hp : zc (fP P) i j := (tb_iff (by omega) (by omega)).mp a1
    exact ⟨z, rfl, hz, Or.inl ⟨fun y y' q q' => (q.2 i j hp).trans (q'.2 i j hp).symm, h46⟩, fun _ _ => rfl⟩
  · have n0 : i3 0 = (0 : Int32) := by decide
    simp only [a2, if_pos n0]
    obtain ⟨z1, w1, w2, w3⟩ := mGivesPins hmz ok
    obtain ⟨g1, g2, g3⟩ := gp_facts ok w3
    have e46 : z1.1 46 (6 * i + j) = i3 (b2 (tb K (8 * i + j))) := by rw [fr_1 w2 (by simp)]; exact h46
    have ev : (1 : Int32) - i3 (b2 (tb K (8 * i + j))) = i3 (b2 (! tb K (8 * i + j))) := by cases tb K (8 * i + j) <;> decide
    have e37 : ∀ a d, a < nR P → d < nC P → (sI z1 37 (6 * i + j) (i3 (b2 (! tb K (8 * i + j))))).1 37 (6 * a + d) = if a = i ∧ d = j then i3 (b2 (! tb K (8 * i + j))) else gpV P a d := fun a d ha hd => by
      rw [sI_1, up2_a]
      by_cases e : a = i ∧ d = j
      · rw [if_pos ⟨rfl, by omega⟩, if_pos e]
      · rw [if_neg (fun w => e (by omega)), if_neg e]; exact w3 a d ha hd
    have hf2 : fr [37, 38, 39, 40, 41, 42, 43, 46] s (sI z1 37 (6 * i + j) (i3 (b2 (! tb K (8 * i + j))))) := fr_tr hz (fr_tr (fr_w w2 (by simp)) (fr_sI (by simp)))
    have hfit : ∀ y, fitG P (sI z1 37 (6 * i + j) (i3 (b2 (! tb K (8 * i + j))))) y ↔ fitP P (fX P) y ∧ ¬ (zc y i j ↔ zc K i j) := by
      intro y
      have hx : (zc y i j ↔ (! tb K (8 * i + j)) = true) ↔ ¬ (zc y i j ↔ zc K i j) := by
        rw [← tK]
        cases tb K (8 * i + j) <;> simp
      rw [fit37 ok, ← g3 y, fit37 ok]
      constructor
      · rintro ⟨q1, q2⟩
        refine ⟨⟨q1, fun r c hr hc q => ?_⟩, ?_⟩
        · have := q2 r c hr hc
          rw [e37 r c hr hc, if_neg (fun e => q (by rw [e.1, e.2, w3 i j hi hj, gpV_m1, a1]; decide))] at this
          rw [w3 r c hr hc] at q ⊢
          exact this q
        · have := q2 i j hi hj
          rw [e37 i j hi hj, if_pos ⟨rfl, rfl⟩, b21] at this
          exact hx.mp (this (b2m _))
      · rintro ⟨⟨q1, q2⟩, q3⟩
        refine ⟨q1, fun r c hr hc => ?_⟩
        rw [e37 r c hr hc]
        by_cases e : r = i ∧ c = j
        · rw [if_pos e, b21, e.1, e.2]; exact fun _ => hx.mpr q3
        · rw [if_neg e, ← w3 r c hr hc]; exact q2 r c hr hc
    have hg2 : gOK P (sI z1 37 (6 * i + j) (i3 (b2 (! tb K (8 * i + j))))) := fun r c hr hc => by
      rw [e37 r c hr hc]
      by_cases e : r = i ∧ c = j
      · rw [if_pos e]; cases tb K (8 * i + j)
        · exact Or.inr (Or.inr rfl)
        · exact Or.inr (Or.inl rfl)
      · rw [if_neg e]; exact gpV_ok P r c
    obtain ⟨v, z3, u1, u2, u3⟩ := mCanFit (MN_fr hm hf2 (by simp)) ok hg2
    have f46 : ∀ x, z3.1 46 x = z.1 46 x := fun x => by rw [fr_1 u2 (by simp), sI_1, up2_k _ _ _ _ _ (by decide), fr_1 w2 (by simp)]
    simp only [w1, cV_k, hck, e46, ev, lt_k, u1, cI_k]
    have hf3 : ∀ u, fr [37, 38, 39, 40, 41, 42, 43, 46] s (sI z3 46 (6 * i + j) u) := fun u => fr_tr hf2 (fr_tr (fr_w u2 (by simp)) (fr_sI (by simp)))
    have oth : ∀ u x, ¬ x = 6 * i + j → (sI z3 46 (6 * i + j) u).1 46 x = z.1 46 x := fun u x hx => by rw [sI_1, up2_a, if_neg (fun w => hx w.2)]; exact f46 x
    have own : ∀ u, (sI z3 46 (6 * i + j) u).1 46 (6 * i + j) = u := fun u => by rw [sI_1, up2_same]
    rcases u3 with ⟨rfl, -, -, x1⟩ | ⟨rfl, x1⟩
    · have n0 : ¬ i3 1 = (0 : Int32) := by decide
      simp only [if_neg n0]
      refine ⟨_, rfl, hf3 _, Or.inr ⟨fun hs => ?_, by rw [own]; exact l3_m1⟩, oth _⟩
      have := (hfit _).mp x1
      exact this.2 (hs _ _ this.1 hK)
    · have n0 : i3 0 = (0 : Int32) := by decide
      simp only [if_pos n0]
      refine ⟨_, rfl, hf3 _, Or.inl ⟨fun y y' q q' => ?_, by rw [own, f46]; exact h46⟩, oth _⟩
      have b1 : zc y i j ↔ zc K i j := Classical.byContradiction (fun w => x1 ⟨y, (hfit y).mpr ⟨q, w⟩⟩)
      have b2' : zc y' i j ↔ zc K i j := Classical.byContradiction (fun w => x1 ⟨y', (hfit y').mpr ⟨q', w⟩⟩)
      exact b1.trans b2'.symm
theorem mSures {P : Pic} {s : Mem} (hm : MN s P) (ok : okP P) : suQ P s (F_X8_laysSures s) := by
  have o1 := ok.2.1
  have o2 := ok.2.2.2.1
  obtain ⟨z1, w1, w2, w3⟩ := mGivesPins hm ok
  obtain ⟨g1, g2, g3⟩ := gp_facts ok w3
  obtain ⟨v, z2, u1, u2, u3⟩ := mCanFit (MN_fr hm w2 (by simp)) ok g1
  simp only [F_X8_laysSures, w1, cV_k, u1, cI_k]
  have hf2 : fr [37, 38, 39, 40, 41, 42, 43, 46] s z2 := fr_tr (fr_w w2 (by simp)) (fr_w u2 (by simp))
  rcases u3 with ⟨rfl, x1, x2, x3⟩ | ⟨rfl, x1⟩
  · have n0 : ¬ i3 1 = (0 : Int32) := by decide
    rw [if_neg n0]
    have hK := (g3 _).mp x3
    have hbits : ∀ r c, r < nR P → c < nC P → z2.1 37 (6 * r + c) = i3 (-1) ∧ z2.1 38 (6 * r + c) = i3 (b2 (tb (g1S P z1 ||| tkS z2) (8 * r + c))) ∨ z2.1 37 (6 * r + c) = i3 (b2 (tb (g1S P z1 ||| tkS z2) (8 * r + c))) := by
      intro r c hr hc
      have tK := tb_iff (x := g1S P z1 ||| tkS z2) (r := r) (c := c) (by omega) (by omega)
      rw [zc_or, zc_g1 ok, zc_tk] at tK
      have ntk : ¬ z1.1 37 (6 * r + c) = i3 (-1) → ¬ zc (tkS z2) r c := fun q w => q ((zc_gF ok z1 r c).mp (x2 r c w)).2
      rw [fr_1 u2 (by simp)]
      rcases g1 r c hr hc with q | q | q
      · left
        refine ⟨q, ?_⟩
        rcases x1 (6 * r + c) (by omega) with t | t
        · rw [tb_f (fun w => ?_)]
          · exact t
          · rcases tK.mp w with w | w
            · rw [q] at w; exact absurd w.2 (by decide)
            · rw [t] at w; exact h01 w.2
        · rw [tK.mpr (Or.inr ⟨by omega, t⟩)]; exact t
      · right
        rw [q, tb_f (fun w => ?_)]
        · rfl
        · rcases tK.mp w with w | w
          · rw [q] at w; exact h01 w.2
          · exact ntk (by rw [q]; decide) ((zc_tk _ _ _).mpr w)
      · right
        rw [q, tK.mpr (Or.inl ⟨⟨hr, hc⟩, q⟩)]; rfl
    generalize g1S P z1 ||| tkS z2 = K at *
    rw [show (0 : Int32) = i3 ((0 : Nat) : Int) from l3_0]
    refine loop_st (σ := Mem) (fun n i z => f_X8_laysSures_15 n (i3 i) z) (fun i z => fr [46] z2 z ∧ ∀ r c, r < nR P → c < nC P → 6 * r + c < i → z.1 46 (6 * r + c) = i3 (b2 (tb K (8 * r + c)))) (suQ P s) 36 ?_ ?_ BIG 0 z2 (by omega) (BIG_lt (by omega)) ⟨fr_rf _ _, fun r c _ _ q => by omega⟩
    · rintro n z ⟨q1, q2⟩
      have e36 : (36 : Int32) = i3 ((36 : Nat) : Int) := by decide
      have el : i3 ((36 : Nat) : Int) ≤ i3 ((36 : Nat) : Int) := le3 (by omega)
      simp only [f_X8_laysSures_15, e36, if_pos el]
      rw [show (0 : Int32) = i3 ((0 : Nat) : Int) from l3_0]
      refine loop_rc (σ := Mem) (fun n i z => f_X8_laysSures_67 n (i3 i) z) (fun n m i j z => f_X8_laysSures_77 (f_X8_laysSures_67 n) m (i3 i) (i3 j) z)
        (fun i j z => fr [37, 38, 39, 40, 41, 42, 43, 46] s z ∧ ∀ r c, r < nR P → c < nC P → ((r < i ∨ r = i ∧ c < j) → suV P K r c (z.1 46 (6 * r + c))) ∧ (¬ (r < i ∨ r = i ∧ c < j) → z.1 46 (6 * r + c) = i3 (b2 (tb K (8 * r + c)))))
        (suQ P s) (nR P) (nC P) (by omega) ?_ ?_ ?_ ?_ BIG 0 z (by omega) (BIG_lt (by omega)) ⟨fr_tr hf2 (fr_w q1 (by simp)), fun r c hr hc => ⟨fun w => by omega, fun _ => q2 r c hr hc (by omega)⟩⟩
      · rintro n z ⟨p1, p2⟩
        have el : i3 (nR P : Int) ≤ i3 (nR P : Int) := le3 (by omega)
        simp only [f_X8_laysSures_67, rows_code (MN_fr hm p1 (by simp)), cI_k, if_pos el]
        exact ⟨1, z, by rw [l3_1], p1, Or.inl ⟨rfl, K, hK, fun r c hr hc => (p2 r c hr hc).1 (Or.inl hr)⟩⟩
      · rintro n i z hi ⟨p1, p2⟩
        have el : ¬ i3 (nR P : Int) ≤ i3 (i : Int) := nle3 (by omega)
        simp only [f_X8_laysSures_67, rows_code (MN_fr hm p1 (by simp)), cI_k, if_neg el, l3_0]
        rfl
      · rintro n m i z hi ⟨p1, p2⟩
        have el : i3 (nC P : Int) ≤ i3 (nC P : Int) := le3 (by omega)
        simp only [f_X8_laysSures_77, cols_code (MN_fr hm p1 (by simp)), cI_k, if_pos el, lt_k, inc3]
        exact ⟨z, ⟨p1, fun r c hr hc => ⟨fun w => (p2 r c hr hc).1 (by omega), fun w => (p2 r c hr hc).2 (by omega)⟩⟩, rfl⟩
      · rintro n m i j z hi hj ⟨p1, p2⟩
        left
        obtain ⟨z', t1, t2, t3, t4⟩ := su77 hm ok hK hi hj p1 ((p2 i j hi hj).2 (by omega)) (f_X8_laysSures_67 n) m
        refine ⟨z', ⟨t2, fun r c hr hc => ?_⟩, t1⟩
        by_cases e : r = i ∧ c = j
        · rw [e.1, e.2]; exact ⟨fun _ => t3, fun w => by omega⟩
        · rw [t4 _ (by omega)]
          exact ⟨fun w => (p2 r c hr hc).1 (by omega), fun w => (p2 r c hr hc).2 (by omega)⟩
    · rintro n i z hi ⟨q1, q2⟩
      left
      have el : ¬ (36 : Int32) ≤ i3 (i : Int) := by rw [show (36 : Int32) = i3 ((36 : Nat) : Int) from by decide]; exact nle3 (by omega)
      have hck : ∀ O : Out, ck (inb (i3 (i : Int)) 36) O = O := fun O => ck_k (i3_in (by omega) (by decide)) O
      have f37 : ∀ x, z.1 37 x = z2.1 37 x := fun x => fr_1 q1 (by simp) x
      have f38 : ∀ x, z.1 38 x = z2.1 38 x := fun x => fr_1 q1 (by simp) x
      have step : ∀ u : Int32, (∀ r c, r < nR P → c < nC P → 6 * r + c = i → u = i3 (b2 (tb K (8 * r + c)))) → fr [46] z2 (sI z 46 i u) ∧ ∀ r c, r < nR P → c < nC P → 6 * r + c < i + 1 → (sI z 46 i u).1 46 (6 * r + c) = i3 (b2 (tb K (8 * r + c))) := by
        intro u hu
        refine ⟨fr_tr q1 (fr_sI (by simp)), fun r c hr hc q => ?_⟩
        rw [sI_1, up2_a]
        by_cases e : 6 * r + c = i
        · rw [if_pos ⟨rfl, e⟩]; exact hu r c hr hc e
        · rw [if_neg (fun w => e w.2)]; exact q2 r c hr hc (by omega)
      simp only [f_X8_laysSures_15, if_neg el, hck, clampN (show i < 2147483648 by omega), lt_k, inc3, f37, f38]
      by_cases e1 : z2.1 37 i < 0
      · rw [if_pos e1]
        have hh : ∀ r c, r < nR P → c < nC P → 6 * r + c = i → z2.1 38 i = i3 (b2 (tb K (8 * r + c))) := fun r c hr hc e => by
          rcases hbits r c hr hc with q | q
          · rw [← e]; exact q.2
          · rw [← e, q] at e1; exact absurd e1 (by cases tb K (8 * r + c) <;> decide)
        by_cases e2 : z2.1 38 i = 0
        · rw [if_pos e2]; exact ⟨_, step _ (fun r c hr hc e => by rw [← hh r c hr hc e]; exact e2.symm), rfl⟩
        · rw [if_neg e2]
          refine ⟨_, step _ (fun r c hr hc e => ?_), rfl⟩
          have := hh r c hr hc e
          rcases b2_3 (tb K (8 * r + c)) with ⟨-, a2⟩ | ⟨-, a2⟩
          · rw [a2]; exact l3_1
          · rw [a2] at this; exact absurd this e2
      · rw [if_neg e1]
        refine ⟨_, step _ (fun r c hr hc e => ?_), rfl⟩
        rcases hbits r c hr hc with q | q
        · rw [← e, q.1] at e1; exact absurd (by decide) e1
        · rw [← e]; exact q
  · have n0 : i3 0 = (0 : Int32) := by decide
    rw [if_pos n0]
    exact ⟨0, z2, by rw [l3_0], hf2, Or.inr ⟨rfl, fun ⟨y, hy⟩ => x1 ⟨y, (g3 y).mpr hy⟩⟩⟩
