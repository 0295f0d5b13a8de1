/-! pieces of the model: labels in the place 35 -/
def lab (s : Mem) (j : Nat) : Int := (s.1 35 j).toInt
theorem lab_eq (s : Mem) (j : Nat) : s.1 35 j = i3 (lab s j) := (Int32.ofInt_toInt _).symm
theorem lab_bd (s : Mem) (j : Nat) : -2147483648 ≤ lab s j ∧ lab s j < 2147483648 := by
  have h1 := (s.1 35 j).le_toInt
  have h2 := (s.1 35 j).toInt_lt
  unfold lab; omega
theorem lab_set (s : Mem) (j : Nat) {v : Int} (hv : -2147483648 ≤ v ∧ v < 2147483648) (i : Nat) : lab (sI s 35 j (i3 v)) i = if i = j then v else lab s i := by
  unfold lab
  rw [sI_1, up2_a]
  by_cases e : i = j
  · rw [if_pos ⟨rfl, e⟩, if_pos e, i3_toInt hv.1 hv.2]
  · rw [if_neg (fun q => e q.2), if_neg e]
/-- the piece at a place, -9 outside -/
def pat (P : Pic) (s : Mem) (r c : Int) : Int := if (0 ≤ r ∧ r < nR P) ∧ 0 ≤ c ∧ c < nC P then lab s (6 * r + c).toNat else -9
theorem pat_bd (P : Pic) (s : Mem) (r c : Int) : -2147483648 ≤ pat P s r c ∧ pat P s r c < 2147483648 := by
  unfold pat; split
  · exact lab_bd _ _
  · omega
theorem mPieceAt {s : Mem} {P : Pic} (h : MN s P) (ok : okP P) {r c : Int} (hr : -10 ≤ r ∧ r < 100) (hc : -10 ≤ c ∧ c < 100) : F_X8_pieceAt (i3 r) (i3 c) s = rI (i3 (pat P s r c)) s := by
  have o1 := ok.2.1
  have o2 := ok.2.2.2.1
  simp only [F_X8_pieceAt, mCell h ok (show -2147483648 ≤ r ∧ r < 2147483648 by omega) (show -2147483648 ≤ c ∧ c < 2147483648 by omega), cI_k, l3_0, l3_m9, l3_6, i3_mul, i3_add]
  unfold pat
  by_cases q : (0 ≤ r ∧ r < nR P) ∧ 0 ≤ c ∧ c < nC P
  · rw [if_pos q, if_neg (by decide), if_pos q, ck_k (i3_in (by omega) (by decide)), i3_nat (by omega) (by omega), lab_eq]
  · rw [if_neg q, if_pos rfl, if_neg q]
def bes (P : Pic) (s : Mem) (n : Int) (r c : Nat) : Prop := pat P s ((r : Int) - 1) c = n ∨ pat P s ((r : Int) + 1) c = n ∨ pat P s r ((c : Int) - 1) = n ∨ pat P s r ((c : Int) + 1) = n
/-- the cell k is filled and has no piece yet -/
def fre (P : Pic) (s : Mem) (k : Nat) : Prop := zc (fX P) (k / 6) (k % 6) ∧ lab s k = -9
theorem mSpStep {s : Mem} {P : Pic} (h : MN s P) (ok : okP P) {p : Int} (hp : 0 ≤ p ∧ p ≤ 36) {k : Nat} (hk : k < 36) (v : Int32) (n : Nat) :
    (fre P s k ∧ bes P s p (k / 6) (k % 6) ∧ f_X8_spreads_4 (n + 1) (i3 p) v (i3 k) s = f_X8_spreads_4 n (i3 p) (i3 1) (i3 ((k + 1 : Nat) : Int)) (sI s 35 k (i3 p))) ∨
    (¬ (fre P s k ∧ bes P s p (k / 6) (k % 6)) ∧ f_X8_spreads_4 (n + 1) (i3 p) v (i3 k) s = f_X8_spreads_4 n (i3 p) v (i3 ((k + 1 : Nat) : Int)) s) := by
  have o1 := ok.2.1
  have o2 := ok.2.2.2.1
  have e1 : i3 (k : Int) / (6 : Int32) = i3 ((k / 6 : Nat) : Int) := by rw [l3_6, i3_div (by omega) (by decide)]; congr 1
  have e4 : remI (i3 (k : Int)) (6 : Int32) = i3 ((k % 6 : Nat) : Int) := by rw [l3_6, i3_rem (by omega) (by decide)]; congr 1
  have p1 := mPieceAt h ok (r := ((k / 6 : Nat) : Int) - 1) (c := ((k % 6 : Nat) : Int)) (by omega) (by omega)
  have p2 := mPieceAt h ok (r := ((k / 6 : Nat) : Int) + 1) (c := ((k % 6 : Nat) : Int)) (by omega) (by omega)
  have p3 := mPieceAt h ok (r := ((k / 6 : Nat) : Int)) (c := ((k % 6 : Nat) : Int) - 1) (by omega) (by omega)
  have p4 := mPieceAt h ok (r := ((k / 6 : Nat) : Int)) (c := ((k % 6 : Nat) : Int) + 1) (by omega) (by omega)
  have q1 := pat_bd P s (((k / 6 : Nat) : Int) - 1) ((k % 6 : Nat) : Int)
  have q2 := pat_bd P s (((k / 6 : Nat) : Int) + 1) ((k % 6 : Nat) : Int)
  have q3 := pat_bd P s ((k / 6 : Nat) : Int) (((k % 6 : Nat) : Int) - 1)
  have q4 := pat_bd P s ((k / 6 : Nat) : Int) (((k % 6 : Nat) : Int) + 1)
  have eqp : ∀ x : Int, (-2147483648 ≤ x ∧ x < 2147483648) → ((i3 x = i3 p) = (x = p)) := fun x hx => i3_eq hx (by omega)
  have h10 : ¬ (i3 1 = i3 0) := by decide
  have ek : (k : Int) + 1 = ((k + 1 : Nat) : Int) := by push_cast; rfl
  have hck : ∀ K : Out, ck (inb (i3 (k : Int)) 36) K = K := fun K => ck_k (i3_in (by omega) (by decide)) K
  -- behind the first part: d tells whether the cell is free
  have snd : ∀ d : Int, (d = 0 ∨ d = 1) → (d = 1 ∧ bes P s p (k / 6) (k % 6) ∧ f_X8_spreads_60 (f_X8_spreads_4 n) (i3 p) v (i3 k) (i3 ((k / 6 : Nat) : Int)) (i3 ((k % 6 : Nat) : Int)) (i3 d) s = f_X8_spreads_4 n (i3 p) (i3 1) (i3 ((k + 1 : Nat) : Int)) (sI s 35 k (i3 p))) ∨
      (¬ (d = 1 ∧ bes P s p (k / 6) (k % 6)) ∧ f_X8_spreads_60 (f_X8_spreads_4 n) (i3 p) v (i3 k) (i3 ((k / 6 : Nat) : Int)) (i3 ((k % 6 : Nat) : Int)) (i3 d) s = f_X8_spreads_4 n (i3 p) v (i3 ((k + 1 : Nat) : Int)) s) := by
    intro d hd
    simp only [f_X8_spreads_60, l3_1, i3_sub, i3_add, p1, p2, p3, p4, cI_k, eqp _ q1, eqp _ q2, eqp _ q3, eqp _ q4, f_X8_spreads_123, lt_k, l3_0, ek, clampN (show k < 2147483648 by omega), hck]
    by_cases b : bes P s p (k / 6) (k % 6)
    · rcases hd with rfl | rfl
      · right
        refine ⟨fun q => absurd q.1 (by decide), ?_⟩
        simp only [if_true, ite_self]
      · left
        refine ⟨rfl, b, ?_⟩
        simp only [h10, if_false]
        unfold bes at b
        by_cases b1 : pat P s ((k / 6 : Nat) - 1 : Int) ((k % 6 : Nat) : Int) = p
        · rw [if_pos b1]
        · rw [if_neg b1]
          by_cases b2 : pat P s ((k / 6 : Nat) + 1 : Int) ((k % 6 : Nat) : Int) = p
          · rw [if_pos b2]
          · rw [if_neg b2]
            by_cases b3 : pat P s ((k / 6 : Nat) : Int) ((k % 6 : Nat) - 1 : Int) = p
            · rw [if_pos b3]
            · rw [if_neg b3]
              by_cases b4 : pat P s ((k / 6 : Nat) : Int) ((k % 6 : Nat) + 1 : Int) = p
              · rw [if_pos b4]
              · exact absurd b (by rintro (z | z | z | z) <;> contradiction)
    · right
      refine ⟨fun q => b q.2, ?_⟩
      have b1 : ¬ pat P s ((k / 6 : Nat) - 1 : Int) ((k % 6 : Nat) : Int) = p := fun z => b (Or.inl z)
      have b2 : ¬ pat P s ((k / 6 : Nat) + 1 : Int) ((k % 6 : Nat) : Int) = p := fun z => b (Or.inr (Or.inl z))
      have b3 : ¬ pat P s ((k / 6 : Nat) : Int) ((k % 6 : Nat) - 1 : Int) = p := fun z => b (Or.inr (Or.inr (Or.inl z)))
      have b4 : ¬ pat P s ((k / 6 : Nat) : Int) ((k % 6 : Nat) + 1 : Int) = p := fun z => b (Or.inr (Or.inr (Or.inr z)))
      rw [if_neg b1, if_neg b2, if_neg b3, if_neg b4]
      simp only [if_true, ite_self]
  have e6 : ¬ (36 : Int32) ≤ i3 (k : Int) := by rw [l3_36]; exact nle3 (by omega)
  have eq9 : (s.1 35 k = (-9 : Int32)) = (lab s k = -9) := by rw [lab_eq, l3_m9, i3_eq (lab_bd _ _) (by omega)]
  have hX := ok.2.2.2.2.1
  simp only [f_X8_spreads_4, e1, e4, lt_k, if_neg e6, mCellN h ok (show k / 6 < 2147483648 by omega) (show k % 6 < 2147483648 by omega), cI_k, mFilled h (show k / 6 < 6 by omega) (show k % 6 < 6 by omega), clampN (show k < 2147483648 by omega), eq9, l3_0, l3_1, hck]
  by_cases hb : k / 6 < nR P ∧ k % 6 < nC P
  · rw [if_pos hb, if_neg h10]
    by_cases hf : zc (fX P) (k / 6) (k % 6)
    · rw [hf.2.2, show i3 (b2 true) = i3 1 from rfl, if_neg h10]
      by_cases hl : lab s k = -9
      · rw [if_pos hl]
        rcases snd 1 (Or.inr rfl) with ⟨_, w2, w3⟩ | ⟨w1, w2⟩
        · exact Or.inl ⟨⟨hf, hl⟩, w2, w3⟩
        · exact Or.inr ⟨fun q => w1 ⟨rfl, q.2⟩, w2⟩
      · rw [if_neg hl]
        rcases snd 0 (Or.inl rfl) with ⟨w1, _⟩ | ⟨w1, w2⟩
        · exact absurd w1 (by decide)
        · exact Or.inr ⟨fun q => hl q.1.2, w2⟩
    · rw [tb_f (fun q => hf ⟨by omega, by omega, q⟩), show i3 (b2 false) = i3 0 from rfl, if_pos rfl]
      rcases snd 0 (Or.inl rfl) with ⟨w1, _⟩ | ⟨w1, w2⟩
      · exact absurd w1 (by decide)
      · exact Or.inr ⟨fun q => hf q.1.1, w2⟩
  · rw [if_neg hb, if_pos rfl]
    rcases snd 0 (Or.inl rfl) with ⟨w1, _⟩ | ⟨w1, w2⟩
    · exact absurd w1 (by decide)
    · exact Or.inr ⟨fun q => hb (hX _ _ q.1.1), w2⟩
/-- p pieces and a part of the piece p have their labels -/
def lbT (P : Pic) (p : Nat) (s : Mem) : Prop := ∀ j, j < 36 → (∃ m : Nat, m < p ∧ lab s j = m ∧ cmp (rs (zc (fX P)) m) (j / 6) (j % 6)) ∨ (lab s j = p ∧ cmp (rs (zc (fX P)) p) (j / 6) (j % 6)) ∨
  (lab s j = -9 ∧ (rs (zc (fX P)) p (j / 6) (j % 6) ∨ ¬ zc (fX P) (j / 6) (j % 6)))
def lbL (P : Pic) (p : Nat) (s : Mem) : Prop := ∀ j, j < 36 → (∃ m : Nat, m < p ∧ lab s j = m ∧ cmp (rs (zc (fX P)) m) (j / 6) (j % 6)) ∨ (lab s j = -9 ∧ (rs (zc (fX P)) p (j / 6) (j % 6) ∨ ¬ zc (fX P) (j / 6) (j % 6)))
def n9 (s : Mem) : Int := zs 36 (fun j => if lab s j = -9 then 1 else 0)
theorem n9_bd (s : Mem) : 0 ≤ n9 s ∧ n9 s ≤ 36 := by
  constructor
  · exact zs_pos (fun i _ => by split <;> omega)
  · have := zs_bnd (n := 36) (f := fun j => if lab s j = -9 then (1 : Int) else 0) 1 (fun i _ => by split <;> omega)
    unfold n9; omega
theorem bes_adj {P : Pic} {s : Mem} {p : Nat} (o1 : nR P ≤ 6) (o2 : nC P ≤ 6) {r c : Nat} (h : bes P s p r c) : ∃ r' c', r' < nR P ∧ c' < nC P ∧ lab s (6 * r' + c') = p ∧ adj r' c' r c := by
  have key : ∀ x y : Int, pat P s x y = p → (0 ≤ x ∧ x < nR P) ∧ (0 ≤ y ∧ y < nC P) ∧ lab s (6 * x.toNat + y.toNat) = p := by
    intro x y q
    unfold pat at q
    by_cases hb : (0 ≤ x ∧ x < nR P) ∧ 0 ≤ y ∧ y < nC P
    · rw [if_pos hb, show (6 * x + y).toNat = 6 * x.toNat + y.toNat from by omega] at q
      exact ⟨hb.1, hb.2, q⟩
    · rw [if_neg hb] at q; omega
  rcases h with q | q | q | q
  · obtain ⟨a, b, d⟩ := key _ _ q
    exact ⟨_, _, by omega, by omega, d, Or.inr ⟨by omega, Or.inl (by omega)⟩⟩
  · obtain ⟨a, b, d⟩ := key _ _ q
    exact ⟨_, _, by omega, by omega, d, Or.inr ⟨by omega, Or.inr (by omega)⟩⟩
  · obtain ⟨a, b, d⟩ := key _ _ q
    exact ⟨_, _, by omega, by omega, d, Or.inl ⟨by omega, Or.inl (by omega)⟩⟩
  · obtain ⟨a, b, d⟩ := key _ _ q
    exact ⟨_, _, by omega, by omega, d, Or.inl ⟨by omega, Or.inr (by omega)⟩⟩
theorem adj_bes {P : Pic} {s : Mem} {p : Nat} {r c r' c' : Nat} (hr' : r' < nR P) (hc' : c' < nC P) (hl : lab s (6 * r' + c') = p) (ha : adj r' c' r c) : bes P s p r c := by
  have key : ∀ x y : Int, x = r' → y = c' → pat P s x y = p := by
    intro x y hx hy
    unfold pat
    rw [if_pos (by omega), show (6 * x + y).toNat = 6 * r' + c' from by omega, hl]
  rcases ha with ⟨e, e2 | e2⟩ | ⟨e, e2 | e2⟩
  · exact Or.inr (Or.inr (Or.inl (key _ _ (by omega) (by omega))))
  · exact Or.inr (Or.inr (Or.inr (key _ _ (by omega) (by omega))))
  · exact Or.inl (key _ _ (by omega) (by omega))
  · exact Or.inr (Or.inl (key _ _ (by omega) (by omega)))
theorem mSpreads {s : Mem} {P : Pic} (h : MN s P) (ok : okP P) {p : Nat} (hp : p ≤ 36) (ht : lbT P p s) :
    ∃ v s', F_X8_spreads (i3 p) s = rI (i3 v) s' ∧ fr [35] s s' ∧ lbT P p s' ∧ (∀ i, i < 36 → ¬ lab s i = -9 → lab s' i = lab s i) ∧
      ((v = 0 ∧ (∀ i, i < 36 → ¬ (fre P s' i ∧ bes P s' p (i / 6) (i % 6)))) ∨ (v = 1 ∧ n9 s' < n9 s)) := by
  have o1 := ok.2.1
  have o2 := ok.2.2.2.1
  simp only [F_X8_spreads]
  rw [show (0 : Int32) = i3 0 from l3_0]
  refine loop_st (σ := Int × Mem) (fun n i z => f_X8_spreads_4 n (i3 p) (i3 z.1) (i3 i) z.2)
    (fun i z => fr [35] s z.2 ∧ lbT P p z.2 ∧ (∀ i, i < 36 → ¬ lab s i = -9 → lab z.2 i = lab s i) ∧ ((z.1 = 0 ∧ z.2 = s ∧ ∀ j, j < i → ¬ (fre P s j ∧ bes P s p (j / 6) (j % 6))) ∨ (z.1 = 1 ∧ n9 z.2 < n9 s)))
    (fun o => ∃ v s', o = rI (i3 v) s' ∧ fr [35] s s' ∧ lbT P p s' ∧ (∀ i, i < 36 → ¬ lab s i = -9 → lab s' i = lab s i) ∧
      ((v = 0 ∧ (∀ i, i < 36 → ¬ (fre P s' i ∧ bes P s' p (i / 6) (i % 6)))) ∨ (v = 1 ∧ n9 s' < n9 s))) 36 ?_ ?_ BIG 0 (0, s) (by decide) (BIG_lt (by decide)) ⟨fr_rf _ _, ht, fun _ _ _ => rfl, Or.inl ⟨rfl, rfl, fun j q => by omega⟩⟩
  · rintro n ⟨v, z⟩ ⟨q1, q2, q3, q4⟩
    simp only at q1 q2 q3 q4
    have hv : v = 0 ∨ v = 1 := by rcases q4 with ⟨a, -⟩ | ⟨a, -⟩ <;> omega
    simp only [f_X8_spreads_4, l3_36]
    rw [if_pos (le3 (by omega)), ck_k (nz01 (by rcases hv with rfl | rfl; exact Or.inl rfl; exact Or.inr rfl))]
    refine ⟨v, z, rfl, q1, q2, q3, ?_⟩
    rcases q4 with ⟨a, b, d⟩ | a
    · subst b; exact Or.inl ⟨a, d⟩
    · exact Or.inr a
  · rintro n i ⟨v, z⟩ hi ⟨q1, q2, q3, q4⟩
    simp only at q1 q2 q3 q4
    left
    have hz : MN z P := MN_fr h q1 (by simp)
    rcases mSpStep hz ok (p := p) (by omega) hi (i3 v) n with ⟨w1, w2, w3⟩ | ⟨w1, w2⟩
    · have hset := lab_set z i (v := (p : Int)) (by omega)
      have hi9 : lab s i = -9 := by
        apply Classical.byContradiction
        intro q
        have := q3 i hi q
        rw [w1.2] at this
        exact q this.symm
      refine ⟨(1, sI z 35 i (i3 p)), ⟨fr_tr q1 (fr_sI (by simp)), fun j hj => ?_, fun j hj q => ?_, Or.inr ⟨rfl, ?_⟩⟩, w3⟩
      · show (∃ m : Nat, m < p ∧ lab (sI z 35 i (i3 p)) j = m ∧ _) ∨ _
        rw [hset]
        by_cases e : j = i
        · subst e
          rw [if_pos rfl]
          right; left
          refine ⟨rfl, ?_⟩
          have hrs : rs (zc (fX P)) p (j / 6) (j % 6) := by
            rcases q2 j hi with ⟨m, m1, m2, m3⟩ | ⟨m1, m2⟩ | ⟨m1, m2⟩
            · have := w1.2; omega
            · have := w1.2; omega
            · exact m2.resolve_right (fun z => z w1.1)
          obtain ⟨r', c', b1, b2, b3, b4⟩ := bes_adj o1 o2 w2
          have hj' : 6 * r' + c' < 36 := by omega
          have hcm : cmp (rs (zc (fX P)) p) r' c' := by
            have := q2 (6 * r' + c') hj'
            rw [show (6 * r' + c') / 6 = r' from by omega, show (6 * r' + c') % 6 = c' from by omega] at this
            rcases this with ⟨m, m1, m2, m3⟩ | ⟨m1, m2⟩ | ⟨m1, m2⟩
            · omega
            · exact m2
            · omega
          exact cmp_adj hcm b4 hrs
        · rw [if_neg e]; exact q2 j hj
      · show lab (sI z 35 i (i3 p)) j = lab s j
        rw [hset, if_neg (fun e => q (by rw [e]; exact hi9))]
        exact q3 j hj q
      · have step : n9 (sI z 35 i (i3 p)) < n9 z := by
          refine zs_lt (fun j _ => ?_) i hi ?_
          · rw [hset]
            by_cases e : j = i
            · rw [if_pos e, if_neg (by omega)]; split <;> omega
            · rw [if_neg e]; exact Int.le_refl _
          · rw [hset, if_pos rfl, if_neg (by omega), if_pos w1.2]; decide
        show n9 (sI z 35 i (i3 p)) < n9 s
        rcases q4 with ⟨-, b, -⟩ | ⟨-, b⟩
        · rw [← b]; exact step
        · omega
    · refine ⟨(v, z), ⟨q1, q2, q3, ?_⟩, w2⟩
      rcases q4 with ⟨a, b, d⟩ | a
      · left
        refine ⟨a, b, fun j hj => ?_⟩
        by_cases e : j = i
        · rw [e, ← b]; exact w1
        · exact d j (by omega)
      · exact Or.inr a
