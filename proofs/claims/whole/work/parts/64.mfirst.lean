/-! the outermost picture, the model's way -/
def c44 (P : Pic) (z : Mem) (G : Int64) : Prop := ∀ r c, r < nR P → c < nC P → z.1 44 (6 * r + c) = i3 (b2 (tb G (8 * r + c)))
theorem mKeeps (s : Mem) : ∃ z, F_X8_keepsGiven s = rV z ∧ fr [44] s z ∧ ∀ j, j < 36 → z.1 44 j = s.1 37 j := by
  simp only [F_X8_keepsGiven]
  rw [show (0 : Int32) = i3 ((0 : Nat) : Int) from l3_0]
  refine loop_st (σ := Mem) (fun n i z => f_X8_keepsGiven_2 n (i3 i) z) (fun i z => fr [44] s z ∧ ∀ j, j < i → z.1 44 j = s.1 37 j) (fun o => ∃ z, o = rV z ∧ fr [44] s z ∧ ∀ j, j < 36 → z.1 44 j = s.1 37 j) 36 ?_ ?_ BIG 0 s (by omega) (BIG_lt (by omega)) ⟨fr_rf _ _, fun j hj => by omega⟩
  · rintro n z ⟨q1, q2⟩
    have e36 : (36 : Int32) = i3 ((36 : Nat) : Int) := by decide
    have el : i3 ((36 : Nat) : Int) ≤ i3 ((36 : Nat) : Int) := le3 (by omega)
    simp only [f_X8_keepsGiven_2, e36, if_pos el]
    exact ⟨z, rfl, q1, q2⟩
  · rintro n i z hi ⟨q1, q2⟩
    left
    have el : ¬ (36 : Int32) ≤ i3 (i : Int) := by rw [show (36 : Int32) = i3 ((36 : Nat) : Int) from by decide]; exact nle3 (by omega)
    have hck : ∀ K : Out, ck (inb (i3 (i : Int)) 36) K = K := fun K => ck_k (i3_in (by omega) (by decide)) K
    simp only [f_X8_keepsGiven_2, if_neg el, hck, clampN (show i < 2147483648 by omega), lt_k, inc3]
    refine ⟨_, ⟨fr_tr q1 (fr_sI (by simp)), fun j hj => ?_⟩, rfl⟩
    rw [sI_1, up2_a]
    by_cases e : j = i
    · rw [if_pos ⟨rfl, e⟩, e, fr_1 q1 (by simp)]
    · rw [if_neg (fun w => e w.2)]; exact q2 j (by omega)
theorem mTells {s : Mem} {P : Pic} (h : MN s P) (ok : okP P) : ∃ z, F_X8_tellsCells s = rV z ∧ fr [44] s z ∧ c44 P z (fX P) := by
  have o1 := ok.2.1
  have o2 := ok.2.2.2.1
  simp only [F_X8_tellsCells]
  rw [show (0 : Int32) = i3 ((0 : Nat) : Int) from l3_0]
  refine loop_rc (σ := Mem) (fun n i z => f_X8_tellsCells_2 n (i3 i) z) (fun n m i j z => f_X8_tellsCells_12 (f_X8_tellsCells_2 n) m (i3 i) (i3 j) z)
    (fun i j z => fr [44] s z ∧ ∀ r c, r < nR P → c < nC P → (r < i ∨ r = i ∧ c < j) → z.1 44 (6 * r + c) = i3 (b2 (tb (fX P) (8 * r + c))))
    (fun o => ∃ z, o = rV z ∧ fr [44] s z ∧ c44 P z (fX P)) (nR P) (nC P) (by omega) ?_ ?_ ?_ ?_ BIG 0 s (by omega) (BIG_lt (by omega)) ⟨fr_rf _ _, fun r c _ _ q => by omega⟩
  · rintro n z ⟨q1, q2⟩
    have el : i3 (nR P : Int) ≤ i3 (nR P : Int) := le3 (by omega)
    simp only [f_X8_tellsCells_2, rows_code (MN_fr h q1 (by simp)), cI_k, if_pos el]
    exact ⟨z, rfl, q1, fun r c hr hc => q2 r c hr hc (Or.inl hr)⟩
  · rintro n i z hi ⟨q1, q2⟩
    have el : ¬ i3 (nR P : Int) ≤ i3 (i : Int) := nle3 (by omega)
    simp only [f_X8_tellsCells_2, rows_code (MN_fr h q1 (by simp)), cI_k, if_neg el, l3_0]
    rfl
  · rintro n m i z hi ⟨q1, q2⟩
    have el : i3 (nC P : Int) ≤ i3 (nC P : Int) := le3 (by omega)
    simp only [f_X8_tellsCells_12, cols_code (MN_fr h q1 (by simp)), cI_k, if_pos el, lt_k, inc3]
    exact ⟨z, ⟨q1, fun r c hr hc q => q2 r c hr hc (by omega)⟩, rfl⟩
  · rintro n m i j z hi hj ⟨q1, q2⟩
    left
    have hm := MN_fr h q1 (by simp)
    have el : ¬ i3 (nC P : Int) ≤ i3 (j : Int) := nle3 (by omega)
    have hck : ∀ K : Out, ck (inb (i3 ((6 * i + j : Nat) : Int)) 36) K = K := fun K => ck_k (i3_in (by omega) (by decide)) K
    have step : ∀ v, v = i3 (b2 (tb (fX P) (8 * i + j))) → fr [44] s (sI z 44 (6 * i + j) v) ∧ ∀ r c, r < nR P → c < nC P → (r < i ∨ r = i ∧ c < j + 1) → (sI z 44 (6 * i + j) v).1 44 (6 * r + c) = i3 (b2 (tb (fX P) (8 * r + c))) := by
      intro v hv
      refine ⟨fr_tr q1 (fr_sI (by simp)), fun r c hr hc q => ?_⟩
      rw [sI_1, up2_a]
      by_cases e : 6 * r + c = 6 * i + j
      · rw [if_pos ⟨rfl, e⟩, hv]
        have e1 : r = i := by omega
        have e2 : c = j := by omega
        rw [e1, e2]
      · rw [if_neg (fun w => e w.2)]; exact q2 r c hr hc (by omega)
    simp only [f_X8_tellsCells_12, cols_code hm, cI_k, if_neg el, mFilled hm (show i < 6 by omega) (show j < 6 by omega), at6, hck, lt_k, inc3, clampN (show 6 * i + j < 2147483648 by omega)]
    rcases b2_3 (tb (fX P) (8 * i + j)) with ⟨a1, a2⟩ | ⟨a1, a2⟩
    · have n0 : ¬ i3 1 = (0 : Int32) := by decide
      simp only [a2, if_neg n0] at step ⊢
      exact ⟨_, step _ l3_1, rfl⟩
    · have n1 : i3 0 = (0 : Int32) := by decide
      simp only [a2, if_pos n1] at step ⊢
      exact ⟨_, step _ l3_0, rfl⟩
theorem gpV_m1 {P : Pic} {r c : Nat} : gpV P r c = i3 (-1) ↔ ¬ tb (fP P) (8 * r + c) = true := by
  unfold gpV
  by_cases h : tb (fP P) (8 * r + c) = true
  · rw [if_pos h]; exact ⟨fun q => absurd q (b2m _), fun q => absurd h q⟩
  · rw [if_neg h]; exact ⟨fun _ => h, fun _ => rfl⟩
theorem gpV_1 {P : Pic} {r c : Nat} (h : tb (fP P) (8 * r + c) = true) : gpV P r c = i3 1 ↔ tb (fX P) (8 * r + c) = true := by
  unfold gpV
  rw [if_pos h, b21]
theorem gpV_ok (P : Pic) (r c : Nat) : gpV P r c = i3 (-1) ∨ gpV P r c = i3 0 ∨ gpV P r c = i3 1 := by
  unfold gpV
  by_cases h : tb (fP P) (8 * r + c) = true
  · rw [if_pos h]; cases tb (fX P) (8 * r + c)
    · exact Or.inr (Or.inl rfl)
    · exact Or.inr (Or.inr rfl)
  · rw [if_neg h]; exact Or.inl rfl
theorem gp_facts {P : Pic} (ok : okP P) {z : Mem} (hz : ∀ r c, r < nR P → c < nC P → z.1 37 (6 * r + c) = gpV P r c) : gOK P z ∧ (∀ r c, zc (gFS P z) r c ↔ chg P r c) ∧ ∀ y, fitG P z y ↔ fitP P (fX P) y := by
  have o1 := ok.2.1
  have o2 := ok.2.2.2.1
  refine ⟨fun r c hr hc => by rw [hz r c hr hc]; exact gpV_ok P r c, fun r c => ?_, fun y => ?_⟩
  · rw [zc_gF ok]
    unfold chg
    constructor
    · rintro ⟨q1, q2⟩
      rw [hz r c q1.1 q1.2, gpV_m1] at q2
      exact ⟨q1, fun w => q2 w.2.2⟩
    · rintro ⟨q1, q2⟩
      refine ⟨q1, ?_⟩
      rw [hz r c q1.1 q1.2, gpV_m1]
      exact fun w => q2 ((tb_iff (by omega) (by omega)).mp w)
  · rw [fit37 ok]
    unfold fitP
    constructor
    · rintro ⟨q1, q2⟩
      refine ⟨q1, fun r c hp => ?_⟩
      have bd := ok.2.2.2.2.2.1 r c hp
      have := q2 r c bd.1 bd.2
      rw [hz r c bd.1 bd.2, gpV_m1, gpV_1 hp.2.2] at this
      rw [this (fun w => w hp.2.2), tb_iff (by omega) (by omega)]
    · rintro ⟨q1, q2⟩
      refine ⟨q1, fun r c hr hc => ?_⟩
      rw [hz r c hr hc, gpV_m1]
      intro w
      have w' := Classical.not_not.mp w
      rw [gpV_1 w', q2 r c ((tb_iff (by omega) (by omega)).mp w'), tb_iff (by omega) (by omega)]
theorem c44_of {P : Pic} (ok : okP P) {z z2 : Mem} (h01' : ∀ r c, r < nR P → c < nC P → z.1 37 (6 * r + c) = i3 0 ∨ z.1 37 (6 * r + c) = i3 1) (e : ∀ j, j < 36 → z2.1 44 j = z.1 37 j) : c44 P z2 (g1S P z) := by
  have o1 := ok.2.1
  have o2 := ok.2.2.2.1
  intro r c hr hc
  rw [e _ (by omega)]
  have := zc_g1 ok z r c
  rw [← tb_iff (by omega) (by omega)] at this
  rcases h01' r c hr hc with w | w
  · rw [w] at this ⊢
    rw [tb_f (fun q => h01 (this.mp q).2)]; rfl
  · rw [w] at this ⊢
    rw [this.mpr ⟨⟨hr, hc⟩, rfl⟩]; rfl
theorem nz_k (K : Out) : ck (nz (i3 1)) K = K ∧ ck (nz (i3 0)) K = K := ⟨ck_k (by decide) K, ck_k (by decide) K⟩
theorem mFindsFirst {s : Mem} {P : Pic} (h : MN s P) (ok : okP P) (b : Bool) : ∃ v z, F_X8_findsFirst (i3 (b2 b)) s = rI (i3 v) z ∧ fr [37, 38, 39, 40, 41, 42, 43, 44] s z ∧
    ((v = 1 ∧ ∃ G, isFst P (fX P) b G ∧ c44 P z G) ∨ (v = 0 ∧ ¬ ∃ y, fitP P (fX P) y)) := by
  have o1 := ok.2.1
  have o2 := ok.2.2.2.1
  obtain ⟨z1, w1, w2, w3⟩ := mGivesPins h ok
  obtain ⟨g1, g2, g3⟩ := gp_facts ok w3
  obtain ⟨v, z2, u1, u2, u3⟩ := mGives (MN_fr h w2 (by simp)) ok g1 b (p := 0) (Nat.zero_le _) (fun r c _ => Nat.zero_le _)
  obtain ⟨z3, t1, t2, t3⟩ := mKeeps z2
  have e0 : (0 : Int32) = i3 ((0 : Nat) : Int) := l3_0
  simp only [F_X8_findsFirst, w1, cV_k, e0, u1, cI_k, t1]
  have hf : fr [37, 38, 39, 40, 41, 42, 43, 44] s z3 := fr_tr (fr_w w2 (by simp)) (fr_tr (fr_w u2 (by simp)) (fr_w t2 (by simp)))
  rcases u3 with ⟨rfl, x1, x2, x3⟩ | ⟨rfl, x1⟩
  · refine ⟨1, z3, (nz_k _).1, hf, Or.inl ⟨rfl, g1S P z2, ⟨grd_F x2 g2, fun r c hp => ?_⟩, c44_of ok x1 t3⟩⟩
    have bd := ok.2.2.2.2.2.1 r c hp
    have nF : ¬ zc (gFS P z1) r c := fun q => ((g2 r c).mp q).2 hp
    rw [zc_g1 ok, x3 r c bd.1 bd.2 nF, w3 r c bd.1 bd.2, gpV_1 hp.2.2, tb_iff (by omega) (by omega)]
    exact ⟨fun q => q.2, fun q => ⟨bd, q⟩⟩
  · exact ⟨0, z3, (nz_k _).2, hf, Or.inr ⟨rfl, fun ⟨y, hy⟩ => x1 ⟨y, (g3 y).mpr hy⟩⟩⟩
