def tv (z : Mem) : Prop := ∀ j, j < 36 → z.1 38 j = i3 0 ∨ z.1 38 j = i3 1
theorem tk_set {z : Mem} {a c : Nat} (ha : a < 6) (hc : c < 6) (v : Int32) (r d : Nat) : zc (tkS (sI z 38 (6 * a + c) v)) r d ↔ if r = a ∧ d = c then v = i3 1 else zc (tkS z) r d := by
  rw [zc_tk, zc_tk, sI_1, up2_a]
  by_cases e : r = a ∧ d = c
  · rw [if_pos e, if_pos ⟨rfl, by omega⟩]
    exact ⟨fun q => q.2, fun q => ⟨by omega, q⟩⟩
  · rw [if_neg e]
    by_cases hb : r < 6 ∧ d < 6
    · rw [if_neg (fun w => e (by have := w.2; omega))]
    · exact ⟨fun q => absurd q.1 hb, fun q => absurd q.1 hb⟩
theorem tk_flip {z : Mem} {a c : Nat} (ha : a < 6) (hc : c < 6) (v : Int32) (h : v = i3 1 ↔ ¬ zc (tkS z) a c) : tkS (sI z 38 (6 * a + c) v) = tkS z ^^^ bv (8 * a + c) := by
  apply zc_ext
  intro r d
  rw [tk_set ha hc, zc_xor, zc_bv (by omega)]
  by_cases e : r = a ∧ d = c
  · obtain ⟨rfl, rfl⟩ := e
    rw [if_pos ⟨rfl, rfl⟩, h]
    have : d < 8 ∧ 8 * r + d = 8 * r + d := ⟨by omega, rfl⟩
    simp [this]
  · rw [if_neg e]
    have : ¬ (d < 8 ∧ 8 * r + d = 8 * a + c) := by omega
    simp [this]
theorem tv_set {z : Mem} {j : Nat} {v : Int32} (h : tv z) (hv : v = i3 0 ∨ v = i3 1) : tv (sI z 38 j v) := by
  intro i hi
  rw [sI_1, up2_a]
  by_cases e : i = j
  · rw [if_pos ⟨rfl, e⟩]; exact hv
  · rw [if_neg (fun w => e w.2)]; exact h i hi
theorem xor3 {T W A B : Prop} (h1 : B → ¬ W) (h2 : A → ¬ W) (h3 : B → ¬ A) : ((((T ∧ ¬ A) ∨ (¬ T ∧ A)) ∧ ¬ B ∨ ¬ ((T ∧ ¬ A) ∨ (¬ T ∧ A)) ∧ B) ∧ ¬ W ∨ ¬ (((T ∧ ¬ A) ∨ (¬ T ∧ A)) ∧ ¬ B ∨ ¬ ((T ∧ ¬ A) ∨ (¬ T ∧ A)) ∧ B) ∧ W) ↔ (T ∧ ¬ ((W ∨ B) ∨ A) ∨ ¬ T ∧ ((W ∨ B) ∨ A)) := by
  by_cases W <;> by_cases A <;> by_cases B <;> by_cases T <;> simp_all
/-- the cells of the way are turned, from the end on -/
theorem mTurnWay {P : Pic} (ok : okP P) {zb : Mem} {forth back : Int64} {n : Nat} {q : Nat → Nat} {W : Nat → Int64} (hp : ptr zb forth back n q W) (hq : ∀ k, k < n → q k < nR P) (hd : ∀ a c, zc forth a c → ¬ zc back a c) (hbb : ∀ a c, zc back a c → a < nR P ∧ c < nC P) {r : Nat} (hr : r < nR P)
    (k32 : Int32 → Mem → Out) (k40 : Int32 → Mem → Out) : ∀ j, j < n → ∀ m z c, j + 1 < m → fr [38] zb z → tv z → c < nC P → zb.1 41 c = i3 (q j) → zc forth (q j) c → ¬ zc (W (q j)) (q j) c →
      (∀ a b, zc (W (q j) ||| bv (8 * q j + c)) a b → (zc (tkS z) a b ↔ zc back a b)) →
      ∃ z', f_X8_canFit_73 k32 k40 m (i3 r) (i3 c) z = k40 (i3 r) (sI z' 39 r (z'.1 39 r - (1 : Int32))) ∧ fr [38] zb z' ∧ tv z' ∧ tkS z' = tkS z ^^^ (W (q j) ||| bv (8 * q j + c)) := by
  have o1 := ok.2.1
  have o2 := ok.2.2.2.1
  intro j
  induction j using Nat.strongRecOn with
  | _ j ih =>
    intro hj m z c hm hf htv hc h41 hff hfr hst
    obtain ⟨m, rfl⟩ : ∃ k, m = k + 1 := ⟨m - 1, by omega⟩
    have hqj := hq j hj
    have e41 : z.1 41 c = i3 (q j) := by rw [fr_1 hf (by simp)]; exact h41
    have eat : ((6 : Int32) * i3 (q j)) + i3 c = i3 ((6 * q j + c : Nat) : Int) := at6 _ _
    have hck : ∀ K : Out, ck (inb (i3 ((6 * q j + c : Nat) : Int)) 36) K = K := fun K => ck_k (i3_in (by omega) (by decide)) K
    have hckc : ∀ K : Out, ck (inb (i3 (c : Int)) 6) K = K := fun K => ck_k (i3_in (by omega) (by decide)) K
    have hckq : ∀ K : Out, ck (inb (i3 (q j : Int)) 6) K = K := fun K => ck_k (i3_in (by omega) (by decide)) K
    have el : ¬ i3 (c : Int) < i3 0 := nlt3 (by omega)
    have nar0' : vp_nar .boolean (i3 0) = i3 0 := by decide
    have e42 : z.1 42 (q j) = zb.1 42 (q j) := fr_1 hf (by simp) _
    have hnt : ¬ zc (tkS z) (q j) c := fun w => hd _ _ hff ((hst (q j) c ((zc_or _ _ _ _).mpr (Or.inr ((zc_bv (by omega) _ _).mpr ⟨by omega, rfl⟩)))).mp w)
    have f1 := tk_flip (z := z) (a := q j) (c := c) (by omega) (by omega) (i3 1) ⟨fun _ => hnt, fun _ => rfl⟩
    have g1 : fr [38] zb (sI z 38 (6 * q j + c) (i3 1)) := fr_tr hf (fr_sI (by simp))
    have t1 := tv_set (j := 6 * q j + c) htv (Or.inr rfl : i3 1 = i3 0 ∨ i3 1 = i3 1)
    simp only [f_X8_canFit_73, l3_0, if_neg el, hckc, clampN (show c < 2147483648 by omega), e41, lt_k, hckq, clampN (show q j < 2147483648 by omega), e42, eat, hck, clampN (show 6 * q j + c < 2147483648 by omega), nar1, nar0']
    by_cases e0 : j = 0
    · subst e0
      have hb1 := hp.1.1
      obtain ⟨m, rfl⟩ : ∃ k, m = k + 1 := ⟨m - 1, by omega⟩
      have em : i3 (-1) < i3 0 := by decide
      have hckr : ∀ K : Out, ck (inb (i3 (r : Int)) 6) K = K := fun K => ck_k (i3_in (by omega) (by decide)) K
      rw [hb1, if_pos em]
      simp only [f_X8_canFit_73, l3_0, if_pos em, hckr, clampN (show r < 2147483648 by omega), lt_k]
      refine ⟨_, rfl, g1, t1, ?_⟩
      rw [f1, hp.1.2]
      have : (0 : Int64) ||| bv (8 * q 0 + c) = bv (8 * q 0 + c) := zc_ext (fun a b => by rw [zc_or]; exact ⟨fun w => w.resolve_left (zc_0 _ _), Or.inr⟩)
      rw [this]
    · obtain ⟨b, j', b1, b2, b3, b4, b5, b6, b7, b8, b9⟩ := hp.2 j (by omega) hj
      have hbC := (hbb _ _ b6).2
      have hbc : ¬ b = c := fun e => by rw [e] at b6; exact hd _ _ hff b6
      have nlt : ¬ i3 (b : Int) < i3 0 := nlt3 (by omega)
      have eat2 : ((6 : Int32) * i3 (q j)) + i3 b = i3 ((6 * q j + b : Nat) : Int) := at6 _ _
      have hck2 : ∀ K : Out, ck (inb (i3 ((6 * q j + b : Nat) : Int)) 36) K = K := fun K => ck_k (i3_in (by omega) (by decide)) K
      rw [b3, if_neg nlt, eat2, hck2, clampN (by omega)]
      have inW : ∀ a d, zc (W (q j') ||| bv (8 * q j' + b)) a d → zc (W (q j)) a d := fun a d w => by rw [b9, zc_or]; exact Or.inl w
      have qb : zc (W (q j)) (q j) b := by rw [b9, zc_or]; exact Or.inr ((zc_bv (by omega) _ _).mpr ⟨by omega, rfl⟩)
      have htk : zc (tkS z) (q j) b := (hst (q j) b ((zc_or _ _ _ _).mpr (Or.inl qb))).mpr b6
      have htk1 : zc (tkS (sI z 38 (6 * q j + c) (i3 1))) (q j) b := by rw [tk_set (by omega) (by omega), if_neg (fun w => hbc w.2)]; exact htk
      have f2 := tk_flip (z := sI z 38 (6 * q j + c) (i3 1)) (a := q j) (c := b) (by omega) (by omega) (i3 0) ⟨fun w => absurd w h01, fun w => absurd htk1 w⟩
      have g2 : fr [38] zb (sI (sI z 38 (6 * q j + c) (i3 1)) 38 (6 * q j + b) (i3 0)) := fr_tr g1 (fr_sI (by simp))
      have t2 := tv_set (j := 6 * q j + b) t1 (Or.inl rfl : i3 0 = i3 0 ∨ i3 0 = i3 1)
      have noC : ¬ zc (W (q j') ||| bv (8 * q j' + b)) (q j) c := fun w => hfr (inW _ _ w)
      obtain ⟨z', w1, w2, w3, w4⟩ := ih j' b2 (by omega) m _ b (by omega) g2 t2 hbC b4 b5 b7 (fun a d w => by
        have n1 : ¬ (a = q j ∧ d = b) := fun e => b8 (e.1 ▸ e.2 ▸ w)
        have n2 : ¬ (a = q j ∧ d = c) := fun e => noC (e.1 ▸ e.2 ▸ w)
        rw [tk_set (by omega) (by omega), if_neg n1, tk_set (by omega) (by omega), if_neg n2]
        exact hst a d ((zc_or _ _ _ _).mpr (Or.inl (inW a d w))))
      refine ⟨z', w1, w2, w3, ?_⟩
      rw [w4, f2, f1, b9]
      apply zc_ext
      intro a d
      have e1 : zc (bv (8 * q j + b)) a d ↔ a = q j ∧ d = b := by rw [zc_bv (by omega)]; omega
      have e2 : zc (bv (8 * q j + c)) a d ↔ a = q j ∧ d = c := by rw [zc_bv (by omega)]; omega
      rw [zc_xor, zc_xor, zc_xor, zc_xor, zc_or (W (q j') ||| bv (8 * q j' + b) ||| bv (8 * q j + b)), zc_or (W (q j') ||| bv (8 * q j' + b)), e1, e2]
      exact xor3 (fun n => fun w => b8 (n.1 ▸ n.2 ▸ w)) (fun n => fun w => noC (n.1 ▸ n.2 ▸ w)) (fun n w => hbc (n.2.symm.trans w.2))
