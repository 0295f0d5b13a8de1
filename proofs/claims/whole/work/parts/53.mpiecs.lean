theorem rs_board {P : Pic} (ok : okP P) {n r c : Nat} (h : rs (zc (fX P)) n r c) : r < nR P ∧ c < nC P ∧ r < 6 ∧ c < 6 := by
  have := ok.2.2.2.2.1 r c (rs_in h)
  have := ok.2.1
  have := ok.2.2.2.1
  omega
theorem lbT_done {P : Pic} {s : Mem} (ok : okP P) {p k : Nat} (hF : isF (rs (zc (fX P)) p) (k / 6) (k % 6)) (hk : lab s k = p) (ht : lbT P p s) (hcl : ∀ i, i < 36 → ¬ (fre P s i ∧ bes P s p (i / 6) (i % 6))) : lbL P (p + 1) s := by
  intro j hj
  rcases ht j hj with ⟨m, m1, m2, m3⟩ | ⟨m1, m2⟩ | ⟨m1, m2⟩
  · exact Or.inl ⟨m, by omega, m2, m3⟩
  · exact Or.inl ⟨p, by omega, m1, m2⟩
  · refine Or.inr ⟨m1, ?_⟩
    rcases m2 with m2 | m2
    · left
      refine ⟨m2, fun hc => ?_⟩
      have hT := hc (fun r c => (r < 6 ∧ c < 6) ∧ lab s (6 * r + c) = p ∧ r < nR P ∧ c < nC P) (fun r c q => ?_) (fun r c r' c' q ha hq => ?_)
      · have e : 6 * (j / 6) + j % 6 = j := by omega
        rw [e] at hT
        omega
      · obtain ⟨e1, e2⟩ := isF_uni q hF
        subst e1 e2
        have hb := rs_board ok q.1
        refine ⟨by omega, ?_, hb.1, hb.2.1⟩
        rw [show 6 * (k / 6) + k % 6 = k from by omega]; exact hk
      · have hb := rs_board ok hq
        refine ⟨by omega, ?_, hb.1, hb.2.1⟩
        have h1 := ht (6 * r' + c') (by omega)
        rw [show (6 * r' + c') / 6 = r' from by omega, show (6 * r' + c') % 6 = c' from by omega] at h1
        rcases h1 with ⟨m, w1, w2, w3⟩ | ⟨w1, w2⟩ | ⟨w1, w2⟩
        · exact absurd w3 (rs_mono (show m + 1 ≤ p by omega) hq).2
        · exact w1
        · exfalso
          refine hcl (6 * r' + c') (by omega) ⟨⟨?_, w1⟩, ?_⟩
          · rw [show (6 * r' + c') / 6 = r' from by omega, show (6 * r' + c') % 6 = c' from by omega]; exact rs_in hq
          · rw [show (6 * r' + c') / 6 = r' from by omega, show (6 * r' + c') % 6 = c' from by omega]
            exact adj_bes q.2.2.1 q.2.2.2 q.2.1 ha
    · exact Or.inr m2
theorem mLaysOne {s : Mem} {P : Pic} (h : MN s P) (ok : okP P) {p k : Nat} (hp : p ≤ k) (hk : k < 36) (hF : isF (rs (zc (fX P)) p) (k / 6) (k % 6)) (hl : lbL P p s) (k26 : Int32 → Int32 → Mem → Out) :
    ∃ s', f_X8_laysPieces_84 k26 BIG (i3 p) (i3 k) (1 : Int32) (sI s 35 k (i3 p)) = k26 (i3 ((p + 1 : Nat) : Int)) (i3 ((k + 1 : Nat) : Int)) s' ∧ fr [35] s s' ∧ lbL P (p + 1) s' := by
  have hset := lab_set s k (v := (p : Int)) (by omega)
  have ht0 : lbT P p (sI s 35 k (i3 p)) := by
    intro j hj
    rw [hset]
    by_cases e : j = k
    · subst e
      rw [if_pos rfl]
      exact Or.inr (Or.inl ⟨rfl, cmp_F hF⟩)
    · rw [if_neg e]
      rcases hl j hj with q | q
      · exact Or.inl q
      · exact Or.inr (Or.inr q)
  rw [l3_1]
  refine zloop_m (fun n (z : Int × Mem) => f_X8_laysPieces_84 k26 n (i3 p) (i3 k) (i3 z.1) z.2)
    (fun z => fr [35] s z.2 ∧ lbT P p z.2 ∧ lab z.2 k = p ∧ ((z.1 = 0 ∧ ∀ i, i < 36 → ¬ (fre P z.2 i ∧ bes P z.2 p (i / 6) (i % 6))) ∨ z.1 = 1))
    (fun z => if z.1 = 0 then 0 else (n9 z.2).toNat + 1)
    (fun o => ∃ s', o = k26 (i3 ((p + 1 : Nat) : Int)) (i3 ((k + 1 : Nat) : Int)) s' ∧ fr [35] s s' ∧ lbL P (p + 1) s') ?_ BIG (1, sI s 35 k (i3 p)) ⟨fr_sI (by simp), ht0, by rw [hset, if_pos rfl], Or.inr rfl⟩ ?_
  · rintro n ⟨v, z⟩ ⟨q1, q2, q3, q4⟩
    simp only at q1 q2 q3 q4
    rcases q4 with ⟨e, q4⟩ | e
    · right
      subst e
      simp only [f_X8_laysPieces_84, lt_k, inc3]
      rw [if_pos (by decide)]
      exact ⟨z, rfl, q1, lbT_done ok hF q3 q2 q4⟩
    · left
      subst e
      obtain ⟨v', z', w1, w2, w3, w4, w5⟩ := mSpreads (MN_fr h q1 (by simp)) ok (p := p) (by omega) q2
      simp only [f_X8_laysPieces_84, w1, cI_k]
      rw [if_neg (by decide)]
      refine ⟨(v', z'), ⟨fr_tr q1 w2, w3, (w4 k hk (by rw [q3]; omega)).trans q3, ?_⟩, ?_, rfl⟩
      · rcases w5 with ⟨a, b⟩ | ⟨a, -⟩
        · exact Or.inl ⟨a, b⟩
        · exact Or.inr a
      · show (if v' = 0 then 0 else (n9 z').toNat + 1) < (if (1 : Int) = 0 then 0 else (n9 z).toNat + 1)
        rw [if_neg (show ¬ (1 : Int) = 0 by decide)]
        have := n9_bd z'
        rcases w5 with ⟨a, b⟩ | ⟨a, b⟩
        · rw [if_pos a]; omega
        · rw [if_neg (by omega)]; omega
  · have := n9_bd (sI s 35 k (i3 p))
    show (if (1 : Int) = 0 then 0 else (n9 (sI s 35 k (i3 p))).toNat + 1) < BIG
    rw [if_neg (by decide)]
    unfold BIG; omega
theorem mLaysPieces {s : Mem} {P : Pic} (h : MN s P) (ok : okP P) : ∃ n s', F_X8_laysPieces s = rI (i3 ((n : Nat) : Int)) s' ∧ fr [35] s s' ∧ npc (zc (fX P)) n ∧ n ≤ 36 ∧
    ∀ j, j < 36 → (∃ m : Nat, m < n ∧ lab s' j = m ∧ cmp (rs (zc (fX P)) m) (j / 6) (j % 6)) ∨ (lab s' j = -9 ∧ ¬ zc (fX P) (j / 6) (j % 6)) := by
  have o1 := ok.2.1
  have o2 := ok.2.2.2.1
  have h10 : ¬ (i3 1 = i3 0) := by decide
  have main : ∀ z0, fr [35] s z0 → (∀ j, j < 36 → lab z0 j = -9) → ∃ n s', f_X8_laysPieces_26 BIG (0 : Int32) (0 : Int32) z0 = rI (i3 ((n : Nat) : Int)) s' ∧ fr [35] s s' ∧ npc (zc (fX P)) n ∧ n ≤ 36 ∧
      ∀ j, j < 36 → (∃ m : Nat, m < n ∧ lab s' j = m ∧ cmp (rs (zc (fX P)) m) (j / 6) (j % 6)) ∨ (lab s' j = -9 ∧ ¬ zc (fX P) (j / 6) (j % 6)) := by
    intro z0 hz0 h9
    rw [show (0 : Int32) = i3 ((0 : Nat) : Int) from l3_0]
    refine loop_st (σ := Nat × Mem) (fun n k z => f_X8_laysPieces_26 n (i3 z.1) (i3 k) z.2)
      (fun k z => fr [35] s z.2 ∧ lbL P z.1 z.2 ∧ (∀ j, j < k → ¬ rs (zc (fX P)) z.1 (j / 6) (j % 6)) ∧ (∀ m, m < z.1 → ∃ r c, rs (zc (fX P)) m r c) ∧ z.1 ≤ k)
      (fun o => ∃ n s', o = rI (i3 ((n : Nat) : Int)) s' ∧ fr [35] s s' ∧ npc (zc (fX P)) n ∧ n ≤ 36 ∧
        ∀ j, j < 36 → (∃ m : Nat, m < n ∧ lab s' j = m ∧ cmp (rs (zc (fX P)) m) (j / 6) (j % 6)) ∨ (lab s' j = -9 ∧ ¬ zc (fX P) (j / 6) (j % 6))) 36 ?_ ?_ BIG 0 (0, z0) (by decide) (BIG_lt (by decide))
      ⟨hz0, fun j hj => Or.inr ⟨h9 j hj, (Classical.em _).imp (fun q => q) (fun q => q)⟩, fun j q => by omega, fun m q => by omega, Nat.le_refl _⟩
    · rintro n ⟨p, z⟩ ⟨q1, q2, q3, q4, q5⟩
      simp only at q1 q2 q3 q4 q5
      simp only [f_X8_laysPieces_26, l3_36]
      rw [if_pos (le3 (by omega))]
      refine ⟨p, z, rfl, q1, ⟨fun r c q => ?_, q4⟩, q5, fun j hj => ?_⟩
      · have hb := rs_board ok q
        have := q3 (6 * r + c) (by omega)
        rw [show (6 * r + c) / 6 = r from by omega, show (6 * r + c) % 6 = c from by omega] at this
        exact this q
      · rcases q2 j hj with w | ⟨w1, w2⟩
        · exact Or.inl w
        · exact Or.inr ⟨w1, w2.resolve_left (q3 j hj)⟩
    · rintro n k ⟨p, z⟩ hk ⟨q1, q2, q3, q4, q5⟩
      simp only at q1 q2 q3 q4 q5
      left
      have hz : MN z P := MN_fr h q1 (by simp)
      have e1 : i3 (k : Int) / (6 : Int32) = i3 ((k / 6 : Nat) : Int) := by rw [l3_6, i3_div (by omega) (by decide)]; congr 1
      have e4 : remI (i3 (k : Int)) (6 : Int32) = i3 ((k % 6 : Nat) : Int) := by rw [l3_6, i3_rem (by omega) (by decide)]; congr 1
      have e6 : ¬ (36 : Int32) ≤ i3 (k : Int) := by rw [l3_36]; exact nle3 (by omega)
      have eq9 : (z.1 35 k = (-9 : Int32)) = (lab z k = -9) := by rw [lab_eq, l3_m9, i3_eq (lab_bd _ _) (by omega)]
      have hck : ∀ K : Out, ck (inb (i3 (k : Int)) 36) K = K := fun K => ck_k (i3_in (by omega) (by decide)) K
      have pass : ¬ rs (zc (fX P)) p (k / 6) (k % 6) → (fr [35] s z ∧ lbL P p z ∧ (∀ j, j < k + 1 → ¬ rs (zc (fX P)) p (j / 6) (j % 6)) ∧ (∀ m, m < p → ∃ r c, rs (zc (fX P)) m r c) ∧ p ≤ k + 1) := by
        intro w
        refine ⟨q1, q2, fun j hj => ?_, q4, by omega⟩
        by_cases e : j = k
        · rw [e]; exact w
        · exact q3 j (by omega)
      simp only [f_X8_laysPieces_26, e1, e4, lt_k, if_neg e6, mCellN hz ok (show k / 6 < 2147483648 by omega) (show k % 6 < 2147483648 by omega), cI_k, mFilled hz (show k / 6 < 6 by omega) (show k % 6 < 6 by omega), clampN (show k < 2147483648 by omega), eq9, l3_0, hck, inc3]
      by_cases hb : k / 6 < nR P ∧ k % 6 < nC P
      · rw [if_pos hb, if_neg h10]
        by_cases hf : zc (fX P) (k / 6) (k % 6)
        · rw [hf.2.2, show i3 (b2 true) = i3 1 from rfl, if_neg h10]
          by_cases hl : lab z k = -9
          · rw [if_pos hl]
            have hrs : rs (zc (fX P)) p (k / 6) (k % 6) := by
              rcases q2 k hk with ⟨m, m1, m2, m3⟩ | ⟨m1, m2⟩
              · omega
              · exact m2.resolve_right (fun w => w hf)
            have hF : isF (rs (zc (fX P)) p) (k / 6) (k % 6) := by
              refine ⟨hrs, fun r' c' w => ?_⟩
              have hb' := rs_board ok w
              have : ¬ 6 * r' + c' < k := fun lt => by
                have := q3 _ lt
                rw [show (6 * r' + c') / 6 = r' from by omega, show (6 * r' + c') % 6 = c' from by omega] at this
                exact this w
              omega
            obtain ⟨s', w1, w2, w3⟩ := mLaysOne hz ok q5 hk hF q2 (f_X8_laysPieces_26 n)
            rw [w1]
            refine ⟨(p + 1, s'), ⟨fr_tr q1 w2, w3, fun j hj => ?_, fun m hm => ?_, by show p + 1 ≤ k + 1; omega⟩, rfl⟩
            · rintro ⟨a, b⟩
              by_cases e : j = k
              · rw [e] at b; exact b (cmp_F hF)
              · exact q3 j (by omega) a
            · by_cases e : m = p
              · rw [e]; exact ⟨_, _, hrs⟩
              · exact q4 m (by have : m < p + 1 := hm; omega)
          · rw [if_neg hl]
            refine ⟨(p, z), pass (fun w => ?_), rfl⟩
            rcases q2 k hk with ⟨m, m1, m2, m3⟩ | ⟨m1, m2⟩
            · exact (rs_mono (show m + 1 ≤ p by omega) w).2 m3
            · exact hl m1
        · rw [tb_f (fun q => hf ⟨by omega, by omega, q⟩), show i3 (b2 false) = i3 0 from rfl, if_pos rfl]
          exact ⟨(p, z), pass (fun w => hf (rs_in w)), rfl⟩
      · rw [if_neg hb, if_pos rfl]
        exact ⟨(p, z), pass (fun w => hb ⟨(rs_board ok w).1, (rs_board ok w).2.1⟩), rfl⟩
  simp only [F_X8_laysPieces]
  rw [show f_X8_laysPieces_4 BIG (0 : Int32) (0 : Int32) s = f_X8_laysPieces_4 BIG (0 : Int32) (i3 ((0 : Nat) : Int)) s from by rw [show i3 ((0 : Nat) : Int) = (0 : Int32) from l3_0.symm]]
  refine loop_st (σ := Mem) (fun n k z => f_X8_laysPieces_4 n (0 : Int32) (i3 k) z) (fun k z => fr [35] s z ∧ ∀ j, j < k → lab z j = -9)
    (fun o => ∃ n s', o = rI (i3 ((n : Nat) : Int)) s' ∧ fr [35] s s' ∧ npc (zc (fX P)) n ∧ n ≤ 36 ∧
      ∀ j, j < 36 → (∃ m : Nat, m < n ∧ lab s' j = m ∧ cmp (rs (zc (fX P)) m) (j / 6) (j % 6)) ∨ (lab s' j = -9 ∧ ¬ zc (fX P) (j / 6) (j % 6))) 36 ?_ ?_ BIG 0 s (by decide) (BIG_lt (by decide)) ⟨fr_rf _ _, fun j q => by omega⟩
  · rintro n z ⟨q1, q2⟩
    simp only [f_X8_laysPieces_4, l3_36]
    rw [if_pos (le3 (by omega))]
    exact main z q1 q2
  · rintro n k z hk ⟨q1, q2⟩
    left
    have e6 : ¬ (36 : Int32) ≤ i3 (k : Int) := by rw [l3_36]; exact nle3 (by omega)
    simp only [f_X8_laysPieces_4, if_neg e6, lt_k, inc3, clampN (show k < 2147483648 by omega), l3_m9]
    rw [ck_k (i3_in (by omega) (by decide))]
    refine ⟨_, ⟨fr_tr q1 (fr_sI (by simp)), fun j hj => ?_⟩, rfl⟩
    rw [lab_set z k (by decide)]
    by_cases e : j = k
    · rw [if_pos e]
    · rw [if_neg e]; exact q2 j (by omega)
