/-! going through the fitting pictures -/
def atM (P : Pic) (n : Nat) (v : Int) (z : Mem) : Prop := (v = 1 ∧ ∃ G, sqn P n G ∧ c44 P z G) ∨ (v = 0 ∧ ¬ ∃ G, sqn P n G)
def tlM (P : Pic) (n : Nat) (z : Mem) : Prop := ∀ r c, r < 6 → c < 6 → z.1 45 (6 * r + c) = i3 (tal P n (8 * r + c))
/-- the smallest distance up to now -/
def neM (P : Pic) (n : Nat) (z : Mem) : Prop := ∃ w : Int, z.1 29 20 = i3 w ∧ (0 ≤ w ∧ w ≤ 36) ∧ (∀ k, k < n → w ≤ pc (gq P k ^^^ fX P)) ∧ (n = 0 ∧ w = 36 ∨ ∃ k, k < n ∧ w = pc (gq P k ^^^ fX P))
/-- the frame: of the place 29 the number 20 alone -/
def fq (s z : Mem) : Prop := fr [29, 37, 38, 39, 40, 41, 42, 43, 44, 45] s z ∧ ∀ j, ¬ j = 20 → z.1 29 j = s.1 29 j
theorem fq_rf (s : Mem) : fq s s := ⟨fr_rf _ _, fun _ _ => rfl⟩
theorem fq_tr {a b c : Mem} (h : fq a b) (h' : fq b c) : fq a c := ⟨fr_tr h.1 h'.1, fun j hj => (h'.2 j hj).trans (h.2 j hj)⟩
theorem fq_of {W : List Nat} {a b : Mem} (h : fr W a b) (hs : ∀ k, k ∈ W → k ∈ [29, 37, 38, 39, 40, 41, 42, 43, 44, 45]) (h29 : 29 ∉ W) : fq a b := ⟨fr_w h hs, fun j _ => fr_1 h h29 j⟩
theorem pc_36b {P : Pic} (ok : okP P) {y : Int64} (hy : ∀ r c, zc y r c → r < nR P ∧ c < nC P) : pc y ≤ 36 ∧ 0 ≤ pc y := by
  have o1 := ok.2.1
  rw [← pc_rows ok hy]
  have u := zs_bnd (n := nR P) (f := fun l => rct y l) 6 (fun l _ => rct_6 y l)
  have v : 0 ≤ zs (nR P) (fun l => rct y l) := zs_pos (fun l _ => rct_0 y l)
  omega
theorem go76 {P : Pic} {z : Mem} (h : MN z P) (ok : okP P) {n : Nat} {G : Int64} (hs : sqn P n G) (h44 : c44 P z G) (ht : tlM P n z) (hn : n < 101) (k35 : Int32 → Int32 → Mem → Out) (x1 : Int32) :
    ∃ v z', f_X8_goesThrough_76 k35 BIG x1 (0 : Int32) z = k35 x1 (i3 v) z' ∧ fq z z' ∧ z'.1 29 20 = z.1 29 20 ∧ atM P (n + 1) v z' ∧ tlM P (n + 1) z' := by
  have o1 := ok.2.1
  have o2 := ok.2.2.2.1
  have hf := sqn_fit hs
  have hg := gq_eq ok hs
  rw [show (0 : Int32) = i3 ((0 : Nat) : Int) from l3_0]
  refine loop_st (σ := Mem) (fun m j z => f_X8_goesThrough_76 k35 m x1 (i3 j) z) (fun j y => fr [45] z y ∧ ∀ r c, r < 6 → c < 6 → y.1 45 (6 * r + c) = i3 (if 6 * r + c < j then tal P (n + 1) (8 * r + c) else tal P n (8 * r + c)))
    (fun o => ∃ v z', o = k35 x1 (i3 v) z' ∧ fq z z' ∧ z'.1 29 20 = z.1 29 20 ∧ atM P (n + 1) v z' ∧ tlM P (n + 1) z') 36 ?_ ?_ BIG 0 z (by omega) (BIG_lt (by omega)) ⟨fr_rf _ _, fun r c hr hc => by rw [if_neg (by omega)]; exact ht r c hr hc⟩
  · rintro m y ⟨q1, q2⟩
    have hm := MN_fr h q1 (by simp)
    have e36 : (36 : Int32) = i3 ((36 : Nat) : Int) := by decide
    have el : i3 ((36 : Nat) : Int) ≤ i3 ((36 : Nat) : Int) := le3 (by omega)
    obtain ⟨v, z2, u1, u2, u3⟩ := mFindsNext hm ok (fun r c hr hc => by rw [fr_1 q1 (by simp)]; exact h44 r c hr hc) hf.1.1 hf.2
    simp only [f_X8_goesThrough_76, e36, if_pos el, u1, cI_k]
    refine ⟨v, z2, rfl, fq_tr (fq_of q1 (by simp) (by simp)) (fq_of u2 (by simp) (by simp)), ?_, ?_, fun r c hr hc => ?_⟩
    · rw [fr_1 u2 (by simp), fr_1 q1 (by simp)]
    · rcases u3 with ⟨rfl, G', a1, a2⟩ | ⟨rfl, a1, -⟩
      · exact Or.inl ⟨rfl, G', ⟨G, hs, a1⟩, a2⟩
      · exact Or.inr ⟨rfl, no_next ok hs a1⟩
    · rw [fr_1 u2 (by simp), q2 r c hr hc, if_pos (by omega)]
  · rintro m j y hj ⟨q1, q2⟩
    left
    have hm := MN_fr h q1 (by simp)
    have el : ¬ (36 : Int32) ≤ i3 (j : Int) := by rw [show (36 : Int32) = i3 ((36 : Nat) : Int) from by decide]; exact nle3 (by omega)
    have hck : ∀ K : Out, ck (inb (i3 (j : Int)) 36) K = K := fun K => ck_k (i3_in (by omega) (by decide)) K
    have e1 : i3 (j : Int) / (6 : Int32) = i3 ((j / 6 : Nat) : Int) := by rw [l3_6, i3_div (by omega) (by decide)]; congr 1
    have e4 : remI (i3 (j : Int)) (6 : Int32) = i3 ((j % 6 : Nat) : Int) := by rw [l3_6, i3_rem (by omega) (by decide)]; congr 1
    have j6 : 6 * (j / 6) + j % 6 = j := by omega
    have hq := q2 (j / 6) (j % 6) (by omega) (by omega)
    rw [if_neg (by omega), j6] at hq
    have t0 := tal_0 P n (8 * (j / 6) + j % 6)
    have t1 := tal_m P n (8 * (j / 6) + j % 6)
    have step : ∀ u : Int, u = b2 (tb G (8 * (j / 6) + j % 6)) → fr [45] z (sI y 45 j (i3 (tal P n (8 * (j / 6) + j % 6)) + i3 u)) ∧ ∀ r c, r < 6 → c < 6 → (sI y 45 j (i3 (tal P n (8 * (j / 6) + j % 6)) + i3 u)).1 45 (6 * r + c) = i3 (if 6 * r + c < j + 1 then tal P (n + 1) (8 * r + c) else tal P n (8 * r + c)) := by
      intro u hu
      refine ⟨fr_tr q1 (fr_sI (by simp)), fun r c hr hc => ?_⟩
      rw [sI_1, up2_a]
      by_cases e : 6 * r + c = j
      · rw [if_pos ⟨rfl, e⟩, if_pos (by omega), i3_add, hu]
        have a1 : r = j / 6 := by omega
        have a2 : c = j % 6 := by omega
        rw [a1, a2]
        unfold tal
        rw [zs_s, hg]
      · rw [if_neg (fun w => e w.2), q2 r c hr hc]
        by_cases e2 : 6 * r + c < j
        · rw [if_pos e2, if_pos (by omega)]
        · rw [if_neg e2, if_neg (by omega)]
    have y44 : ∀ x, y.1 44 x = z.1 44 x := fun x => fr_1 q1 (by simp) x
    simp only [f_X8_goesThrough_76, if_neg el, hck, clampN (show j < 2147483648 by omega), y44, e1, e4, mCellN hm ok (show j / 6 < 2147483648 by omega) (show j % 6 < 2147483648 by omega), cI_k, hq, lt_k, inc3]
    by_cases bd : j / 6 < nR P ∧ j % 6 < nC P
    · have h4 := h44 _ _ bd.1 bd.2
      rw [j6] at h4
      have n0 : ¬ i3 1 = (0 : Int32) := by decide
      simp only [h4, if_pos bd, if_neg n0]
      rcases b2_3 (tb G (8 * (j / 6) + j % 6)) with ⟨a1, a2⟩ | ⟨a1, a2⟩
      · have n1 : i3 1 = (1 : Int32) := by decide
        simp only [a2, if_pos n1]
        exact ⟨_, step 1 a2.symm, rfl⟩
      · have n1 : ¬ i3 0 = (1 : Int32) := by decide
        simp only [a2, if_neg n1]
        exact ⟨_, step 0 a2.symm, rfl⟩
    · have n0 : i3 0 = (0 : Int32) := by decide
      have hz : b2 (tb G (8 * (j / 6) + j % 6)) = 0 := by rw [tb_f (fun q => bd (hf.1.1 _ _ ⟨by omega, by omega, q⟩))]; rfl
      simp only [if_neg bd, if_pos n0]
      by_cases e : z.1 44 j = (1 : Int32)
      · rw [if_pos e]; exact ⟨_, step 0 hz.symm, rfl⟩
      · rw [if_neg e]; exact ⟨_, step 0 hz.symm, rfl⟩
def gtQ (P : Pic) (s : Mem) (o : Out) : Prop := ∃ m z, o = rI (i3 ((m : Nat) : Int)) z ∧ fq s z ∧ cntF P m ∧ (m < 100 → tlM P m z) ∧ (1 ≤ m → m < 100 → ∃ v, z.1 29 20 = i3 v ∧ isNear P m v)
theorem mGoes {P : Pic} {s : Mem} (h : MN s P) (ok : okP P) : gtQ P s (F_X8_goesThrough s) := by
  have o1 := ok.2.1
  have o2 := ok.2.2.2.1
  simp only [F_X8_goesThrough]
  rw [show (0 : Int32) = i3 ((0 : Nat) : Int) from l3_0]
  refine loop_st (σ := Mem) (fun n j z => f_X8_goesThrough_2 n (i3 j) z) (fun j z => fr [45] s z ∧ ∀ i, i < j → z.1 45 i = i3 0) (gtQ P s) 36 ?_ ?_ BIG 0 s (by omega) (BIG_lt (by omega)) ⟨fr_rf _ _, fun i hi => by omega⟩
  · rintro n z ⟨q1, q2⟩
    have e36 : (36 : Int32) = i3 ((36 : Nat) : Int) := by decide
    have el : i3 ((36 : Nat) : Int) ≤ i3 ((36 : Nat) : Int) := le3 (by omega)
    have hf2 : fq s (sI z 29 20 (i3 ((36 : Nat) : Int))) := fq_tr (fq_of q1 (by simp) (by simp)) ⟨fr_sI (by simp), fun j hj => by rw [sI_1, up2_a, if_neg (fun w => hj w.2)]⟩
    have hm2 : MN (sI z 29 20 (i3 ((36 : Nat) : Int))) P := MN_fr h hf2.1 (by simp)
    obtain ⟨v, z3, u1, u2, u3⟩ := mFindsFirst hm2 ok false
    have e0 : (0 : Int32) = i3 (b2 false) := l3_0
    have hat : atM P 0 v z3 := by
      rcases u3 with ⟨rfl, G, a1, a2⟩ | ⟨rfl, a1⟩
      · exact Or.inl ⟨rfl, G, a1, a2⟩
      · exact Or.inr ⟨rfl, no_first a1⟩
    have htl : tlM P 0 z3 := fun r c hr hc => by
      rw [fr_1 u2 (by simp), sI_1, up2_k _ _ _ _ _ (by decide), q2 _ (by omega)]; rfl
    have hne : neM P 0 z3 := ⟨36, by rw [fr_1 u2 (by simp), sI_1, up2_same]; rfl, by decide, fun k hk => by omega, Or.inl ⟨rfl, rfl⟩⟩
    simp only [f_X8_goesThrough_2, e36, if_pos el, lt_k, e0, u1, cI_k]
    rw [show i3 (b2 false) = i3 ((0 : Nat) : Int) from rfl]
    refine loop_st (σ := Int × Mem) (fun n i y => f_X8_goesThrough_35 n (i3 i) (i3 y.1) y.2) (fun i y => fq s y.2 ∧ atM P i y.1 y.2 ∧ (∀ n, n < i → ∃ G, sqn P n G) ∧ tlM P i y.2 ∧ neM P i y.2) (gtQ P s) 101 ?_ ?_ BIG 0 (v, z3) (by omega) (BIG_lt (by omega)) ⟨fq_tr hf2 (fq_of u2 (by simp) (by simp)), hat, fun n hn => by omega, htl, hne⟩
    · rintro n ⟨v, y⟩ ⟨w1, w2, w3, w4, w5⟩
      simp only at w1 w2 w3 w4 w5
      have l1 : (100 : Int32) < i3 ((101 : Nat) : Int) := by rw [l3_100]; exact lt3 (by omega)
      have l2 : ¬ i3 ((101 : Nat) : Int) ≤ (100 : Int32) := by rw [l3_100]; exact nle3 (by omega)
      have rr : f_X8_goesThrough_35 (n + 1) (i3 ((101 : Nat) : Int)) (i3 v) y = rI (i3 ((100 : Nat) : Int)) y := by
        simp only [f_X8_goesThrough_35, f_X8_goesThrough_140, if_pos l1, if_neg l2]
        split <;> rfl
      exact ⟨100, y, rr, w1, ⟨Nat.le_refl _, fun n hn => w3 n (by omega), fun q => by omega⟩, fun q => by omega, fun _ q => by omega⟩
    · rintro n i ⟨v, y⟩ hi ⟨w1, w2, w3, w4, w5⟩
      simp only at w1 w2 w3 w4 w5
      rcases w2 with ⟨rfl, G, hs, h44⟩ | ⟨rfl, hno⟩
      · left
        have hm := MN_fr h w1.1 (by simp)
        have hf := sqn_fit hs
        have hg := gq_eq ok hs
        have hx : ∀ r c, zc (G ^^^ fX P) r c → r < nR P ∧ c < nC P := fun r c q => by
          rw [zc_xor] at q
          rcases q with q | q
          · exact hf.1.1 r c q.1
          · exact ok.2.2.2.2.1 r c q.2
        have hpc := pc_36b ok hx
        obtain ⟨w, b1, b2', b3, b4⟩ := w5
        have n0 : ¬ i3 1 = (0 : Int32) := by decide
        have l1 : ¬ (100 : Int32) < i3 (i : Int) := by rw [l3_100]; exact nlt3 (by omega)
        have set20 : ∀ u : Int, u = (if w ≤ pc (G ^^^ fX P) then w else pc (G ^^^ fX P)) → fq s (sI y 29 20 (i3 u)) ∧ neM P (i + 1) (sI y 29 20 (i3 u)) := by
          intro u hu
          refine ⟨fq_tr w1 ⟨fr_sI (by simp), fun j hj => by rw [sI_1, up2_a, if_neg (fun w => hj w.2)]⟩, u, by rw [sI_1, up2_same], ?_, fun k hk => ?_, Or.inr ?_⟩
          · split at hu <;> omega
          · by_cases e : k = i
            · subst e; rw [hg]; split at hu <;> omega
            · have := b3 k (by omega); split at hu <;> omega
          · by_cases e : w ≤ pc (G ^^^ fX P)
            · rw [if_pos e] at hu
              rcases b4 with ⟨rfl, c1⟩ | ⟨k, c1, c2⟩
              · exact ⟨0, by omega, by rw [hg]; omega⟩
              · exact ⟨k, by omega, by rw [hu]; exact c2⟩
            · rw [if_neg e] at hu
              exact ⟨i, by omega, by rw [hg]; exact hu⟩
        have go : ∀ u : Int, u = (if w ≤ pc (G ^^^ fX P) then w else pc (G ^^^ fX P)) → ∃ y' : Int × Mem, (fq s y'.2 ∧ atM P (i + 1) y'.1 y'.2 ∧ (∀ n, n < i + 1 → ∃ G, sqn P n G) ∧ tlM P (i + 1) y'.2 ∧ neM P (i + 1) y'.2) ∧
            f_X8_goesThrough_76 (f_X8_goesThrough_35 n) BIG (i3 ((i + 1 : Nat) : Int)) (0 : Int32) (sI y 29 20 (i3 u)) = f_X8_goesThrough_35 n (i3 ((i + 1 : Nat) : Int)) (i3 y'.1) y'.2 := by
          intro u hu
          obtain ⟨s1, s2⟩ := set20 u hu
          have hms := MN_fr h s1.1 (by simp)
          obtain ⟨v', y', t1, t2, t3, t4, t5⟩ := go76 hms ok hs (fun r c hr hc => by rw [sI_1, up2_k _ _ _ _ _ (by decide)]; exact h44 r c hr hc) (fun r c hr hc => by rw [sI_1, up2_k _ _ _ _ _ (by decide)]; exact w4 r c hr hc) hi (f_X8_goesThrough_35 n) (i3 ((i + 1 : Nat) : Int))
          refine ⟨(v', y'), ⟨fq_tr s1 t2, t4, fun m hm => ?_, t5, ?_⟩, t1⟩
          · by_cases e : m = i
            · subst e; exact ⟨G, hs⟩
            · exact w3 m (by omega)
          · obtain ⟨w', d1, d2⟩ := s2
            exact ⟨w', by rw [t3]; exact d1, d2⟩
        simp only [f_X8_goesThrough_35, if_neg n0, if_neg l1, lt_k, inc3, mDiffers hm ok hf.1.1 h44, cI_k, b1]
        by_cases e : w ≤ pc (G ^^^ fX P)
        · have le : i3 w ≤ i3 (pc (G ^^^ fX P)) := le3 (by omega)
          rw [if_pos le]
          exact go w (by rw [if_pos e])
        · have le : ¬ i3 w ≤ i3 (pc (G ^^^ fX P)) := nle3 (by omega)
          rw [if_neg le]
          exact go _ (by rw [if_neg e])
      · right
        have n0 : i3 0 = (0 : Int32) := by decide
        have le : i3 (i : Int) ≤ (100 : Int32) := by rw [l3_100]; exact le3 (by omega)
        simp only [f_X8_goesThrough_35, if_pos n0, f_X8_goesThrough_140, if_pos le]
        refine ⟨i, y, rfl, w1, ⟨by omega, w3, fun _ => hno⟩, fun _ => w4, fun q1 q2 => ?_⟩
        obtain ⟨w, b1, b2', b3, b4⟩ := w5
        exact ⟨w, b1, b4.resolve_left (fun e => by omega), b3⟩
  · rintro n i z hi ⟨q1, q2⟩
    left
    have el : ¬ (36 : Int32) ≤ i3 (i : Int) := by rw [show (36 : Int32) = i3 ((36 : Nat) : Int) from by decide]; exact nle3 (by omega)
    have hck : ∀ K : Out, ck (inb (i3 (i : Int)) 36) K = K := fun K => ck_k (i3_in (by omega) (by decide)) K
    simp only [f_X8_goesThrough_2, if_neg el, hck, clampN (show i < 2147483648 by omega), lt_k, inc3]
    refine ⟨_, ⟨fr_tr q1 (fr_sI (by simp)), fun j hj => ?_⟩, rfl⟩
    rw [sI_1, up2_a]
    by_cases e : j = i
    · rw [if_pos ⟨rfl, e⟩]; rfl
    · rw [if_neg (fun w => e w.2)]; exact q2 j (by omega)
