/-- the cells of the hull as laid -/
def HS (s : Mem) : CS := fun r c => (r < 6 ∧ c < 6) ∧ s.1 36 (6 * r + c) = i3 1
theorem zs_mul6 (n : Nat) (f : Nat → Int) : zs (6 * n) f = zs n (fun j => zs 6 (fun i => f (6 * j + i))) := by
  induction n with
  | zero => rfl
  | succ n ih => rw [show 6 * (n + 1) = 6 * n + 6 from by omega, zs_split, ih]; rfl
theorem hn_pc {s : Mem} {y : Int64} (hy : brd y) (h : ∀ r c, zc y r c ↔ HS s r c) : pc y = hn s := by
  rw [pc_z2 hy]
  unfold hn
  rw [show (36 : Nat) = 6 * 6 from rfl, zs_mul6]
  unfold z2
  apply zs_congr; intro r hr
  apply zs_congr; intro c hc
  show b2 (tb y (8 * r + c)) = if s.1 36 (6 * r + c) = i3 1 then 1 else 0
  by_cases q : s.1 36 (6 * r + c) = i3 1
  · rw [if_pos q, ((h r c).mpr ⟨⟨hr, hc⟩, q⟩).2.2]; rfl
  · rw [if_neg q, tb_f (fun z => q ((h r c).mp ⟨by omega, by omega, z⟩).2)]; rfl
theorem HS_line {P : Pic} (ok : okP P) {s : Mem} {l i : Nat} (hll : l < nR P + nC P) (hi : i < lenL P l) : hl P s l i ↔ HS s (rowL P l i) (colL P l i) := by
  have hb := lin_bd ok hll hi
  have o1 := ok.2.1
  have o2 := ok.2.2.2.1
  unfold hl HS hat
  exact ⟨fun q => ⟨by omega, q⟩, fun q => q.2⟩
theorem hul_board {P : Pic} (ok : okP P) {r c : Nat} (h : hul (zc (fX P)) r c) : r < nR P ∧ c < nC P :=
  h (fun r c => r < nR P ∧ c < nC P) ok.2.2.2.2.1 ⟨fun r c1 c c2 h1 h2 q1 q2 => by omega, fun c r1 r r2 h1 h2 q1 q2 => by omega⟩
theorem hat_hul {P : Pic} (ok : okP P) {s : Mem} (hs : ∀ r c, HS s r c → hul (zc (fX P)) r c) {l a i b : Nat} (hll : l < nR P + nC P) (h1 : a ≤ i) (h2 : i ≤ b) (h3 : b < lenL P l) (ha : hl P s l a) (hb : hl P s l b) : hul (zc (fX P)) (rowL P l i) (colL P l i) := by
  have qa := hs _ _ ((HS_line ok hll (by omega)).mp ha)
  have qb := hs _ _ ((HS_line ok hll h3).mp hb)
  unfold rowL colL at qa qb ⊢
  by_cases q : nR P ≤ l
  · simp only [if_pos q] at qa qb ⊢
    exact (hul_cl _).2 _ a i b h1 h2 qa qb
  · simp only [if_neg q] at qa qb ⊢
    exact (hul_cl _).1 _ a i b h1 h2 qa qb
/-- the line l is closed -/
def lcl (P : Pic) (s : Mem) (l : Nat) : Prop := ∀ a i b, a ≤ i → i ≤ b → b < lenL P l → hl P s l a → hl P s l b → hl P s l i
theorem lcl_all {P : Pic} (ok : okP P) {s : Mem} (hb : ∀ r c, HS s r c → r < nR P ∧ c < nC P) (h : ∀ l, l < nR P + nC P → lcl P s l) : hcl (HS s) := by
  constructor
  · intro r c1 c c2 h1 h2 q1 q2
    have b1 := hb _ _ q1
    have b2 := hb _ _ q2
    have hlen : lenL P r = nC P := by unfold lenL; rw [if_neg (by omega)]
    have hrow : ∀ i, rowL P r i = r := fun i => by unfold rowL; rw [if_neg (by omega)]
    have hcol : ∀ i, colL P r i = i := fun i => by unfold colL; rw [if_neg (by omega)]
    have := h r (by omega) c1 c c2 h1 h2 (by rw [hlen]; omega) ((HS_line ok (by omega) (by rw [hlen]; omega)).mpr (by rw [hrow, hcol]; exact q1)) ((HS_line ok (by omega) (by rw [hlen]; omega)).mpr (by rw [hrow, hcol]; exact q2))
    have := (HS_line ok (by omega) (by rw [hlen]; omega)).mp this
    rw [hrow, hcol] at this
    exact this
  · intro c r1 r r2 h1 h2 q1 q2
    have b1 := hb _ _ q1
    have b2 := hb _ _ q2
    have hlen : lenL P (nR P + c) = nR P := by unfold lenL; rw [if_pos (by omega)]
    have hrow : ∀ i, rowL P (nR P + c) i = i := fun i => by unfold rowL; rw [if_pos (by omega)]
    have hcol : ∀ i, colL P (nR P + c) i = c := fun i => by unfold colL; rw [if_pos (by omega)]; omega
    have := h (nR P + c) (by omega) r1 r r2 h1 h2 (by rw [hlen]; omega) ((HS_line ok (by omega) (by rw [hlen]; omega)).mpr (by rw [hrow, hcol]; exact q1)) ((HS_line ok (by omega) (by rw [hlen]; omega)).mpr (by rw [hrow, hcol]; exact q2))
    have := (HS_line ok (by omega) (by rw [hlen]; omega)).mp this
    rw [hrow, hcol] at this
    exact this
theorem mLaysHull {s : Mem} {P : Pic} (h : MN s P) (ok : okP P) : ∃ z, F_X8_laysHull s = rI (i3 (hn z)) z ∧ fr [36] s z ∧ hv z ∧ ∀ r c, HS z r c ↔ hul (zc (fX P)) r c := by
  have o1 := ok.2.1
  have o2 := ok.2.2.2.1
  -- the cells are counted
  have count : ∀ z, fr [36] s z → hv z → (∀ r c, HS z r c ↔ hul (zc (fX P)) r c) → f_X8_laysHull_111 BIG (0 : Int32) (0 : Int32) z = rI (i3 (hn z)) z := by
    intro z _ hz _
    rw [show f_X8_laysHull_111 BIG (0 : Int32) (0 : Int32) z = f_X8_laysHull_111 BIG (i3 (zs 0 (fun j => if z.1 36 j = i3 1 then 1 else 0))) (i3 ((0 : Nat) : Int)) z from by rw [show (0 : Int32) = i3 0 from l3_0]; exact nr rfl]
    refine loop_up (fun n i => f_X8_laysHull_111 n (i3 (zs i (fun j => if z.1 36 j = i3 1 then 1 else 0))) (i3 i) z) 36 _ (fun n => ?_) (fun n i hi => ?_) BIG 0 (by decide) (BIG_lt (by decide))
    · simp only [f_X8_laysHull_111, l3_36]
      rw [if_pos (le3 (by omega))]; rfl
    · have e6 : ¬ (36 : Int32) ≤ i3 (i : Int) := by rw [l3_36]; exact nle3 (by omega)
      have hck : ∀ K : Out, ck (inb (i3 (i : Int)) 36) K = K := fun K => ck_k (i3_in (by omega) (by decide)) K
      simp only [f_X8_laysHull_111, if_neg e6, hck, clampN (show i < 2147483648 by omega), lt_k, inc3]
      rw [l3_0, l3_1, i3_add, i3_add, zs_s]
      rcases hz i hi with w | w
      · rw [w, if_pos rfl, if_neg h01]
      · rw [w, if_neg h10, if_pos rfl]
  -- one pass over the lines
  have pass : ∀ z0, fr [36] s z0 → hv z0 → (∀ r c, zc (fX P) r c → HS z0 r c) → (∀ r c, HS z0 r c → hul (zc (fX P)) r c) → ∀ k57 : Int32 → Mem → Out,
      ∃ v z, f_X8_laysHull_65 k57 BIG (0 : Int32) (0 : Int32) z0 = k57 (i3 v) z ∧ fr [36] s z ∧ hv z ∧ (∀ r c, zc (fX P) r c → HS z r c) ∧ (∀ r c, HS z r c → hul (zc (fX P)) r c) ∧ ((v = 0 ∧ ∀ l, l < nR P + nC P → lcl P z l) ∨ (v = 1 ∧ hn z0 < hn z)) := by
    intro z0 a1 a2 a3 a4 k57
    rw [show f_X8_laysHull_65 k57 BIG (0 : Int32) (0 : Int32) z0 = f_X8_laysHull_65 k57 BIG (i3 0) (i3 ((0 : Nat) : Int)) z0 from by rw [show (0 : Int32) = i3 0 from l3_0]; exact nr rfl]
    refine loop_st (σ := Int × Mem) (fun n i z => f_X8_laysHull_65 k57 n (i3 z.1) (i3 i) z.2)
      (fun i z => fr [36] s z.2 ∧ hv z.2 ∧ (∀ r c, zc (fX P) r c → HS z.2 r c) ∧ (∀ r c, HS z.2 r c → hul (zc (fX P)) r c) ∧ ((z.1 = 0 ∧ (∀ j, j < 36 → z.2.1 36 j = z0.1 36 j) ∧ ∀ l, l < i → lcl P z.2 l) ∨ (z.1 = 1 ∧ hn z0 < hn z.2)))
      (fun o => ∃ v z, o = k57 (i3 v) z ∧ fr [36] s z ∧ hv z ∧ (∀ r c, zc (fX P) r c → HS z r c) ∧ (∀ r c, HS z r c → hul (zc (fX P)) r c) ∧ ((v = 0 ∧ ∀ l, l < nR P + nC P → lcl P z l) ∨ (v = 1 ∧ hn z0 < hn z))) (nR P + nC P) ?_ ?_ BIG 0 (0, z0) (by omega) (BIG_lt (by omega))
      ⟨a1, a2, a3, a4, Or.inl ⟨rfl, fun _ _ => rfl, fun l q => by omega⟩⟩
    · rintro n ⟨v, z⟩ ⟨q1, q2, q3, q4, q5⟩
      simp only at q1 q2 q3 q4 q5
      have hz : MN z P := MN_fr h q1 (by simp)
      simp only [f_X8_laysHull_65, rows_code hz, cols_code hz, cI_k, i3_add]
      rw [if_pos (le3 (by omega))]
      refine ⟨v, z, rfl, q1, q2, q3, q4, ?_⟩
      rcases q5 with ⟨a, -, b⟩ | a
      · exact Or.inl ⟨a, b⟩
      · exact Or.inr a
    · rintro n l ⟨v, z⟩ hll ⟨q1, q2, q3, q4, q5⟩
      simp only at q1 q2 q3 q4 q5
      left
      have hz : MN z P := MN_fr h q1 (by simp)
      obtain ⟨v', z', f1, f2, f3, f4, f5, f6⟩ := mFillsHull hz ok q2 hll
      have el : ¬ i3 ((nR P : Int) + (nC P : Int)) ≤ i3 (l : Int) := nle3 (by omega)
      simp only [f_X8_laysHull_65, rows_code hz, cols_code hz, cI_k, i3_add, if_neg el, f1, lt_k, inc3]
      rw [l3_0, l3_1]
      have g3 : ∀ r c, zc (fX P) r c → HS z' r c := fun r c w => by
        have := q3 r c w
        exact ⟨this.1, f4 _ (by have := this.1; omega) this.2⟩
      have g4 : ∀ r c, HS z' r c → hul (zc (fX P)) r c := fun r c w => by
        rcases f5 (6 * r + c) (by have := w.1; omega) w.2 with a | ⟨a, i, b, w1, w2, w3, w4, w5, w6⟩
        · exact q4 r c ⟨w.1, a⟩
        · have hh := hat_hul ok q4 hll w1 w2 w3 w4 w5
          have hbd := lin_bd ok hll (show i < lenL P l by omega)
          unfold hat at w6
          have e1 : r = rowL P l i := by have := w.1; omega
          have e2 : c = colL P l i := by have := w.1; omega
          rw [e1, e2]; exact hh
      have hmono : hn z ≤ hn z' := zs_le (fun j hj => by
        by_cases e : z.1 36 j = i3 1
        · rw [if_pos e, if_pos (f4 j hj e)]; exact Int.le_refl _
        · rw [if_neg e]; split <;> omega)
      rcases q5 with ⟨a, b, d⟩ | ⟨a, b⟩
      · subst a
        rw [if_pos rfl]
        rcases f6 with ⟨e, e2, e3⟩ | ⟨e, e2⟩
        · subst e
          rw [if_pos rfl]
          refine ⟨(0, z'), ⟨fr_tr q1 f2, f3, g3, g4, Or.inl ⟨rfl, fun j hj => (e2 j hj).trans (b j hj), fun l' hl' => ?_⟩⟩, rfl⟩
          have conv : ∀ i, i < lenL P l' → (hl P z' l' i ↔ hl P z l' i) := fun i hi => by
            unfold hl; rw [e2 _ (hat_bd ok (by omega) hi)]
          intro a i b w1 w2 w3 w4 w5
          rw [conv _ (by omega)] at w4 ⊢
          rw [conv _ w3] at w5
          by_cases el' : l' = l
          · subst el'; exact e3 a i b w1 w2 w3 w4 w5
          · exact d l' (by omega) a i b w1 w2 w3 w4 w5
        · subst e
          rw [if_neg h10]
          refine ⟨(1, z'), ⟨fr_tr q1 f2, f3, g3, g4, Or.inr ⟨rfl, ?_⟩⟩, rfl⟩
          have : hn z = hn z0 := zs_congr (fun j hj => by rw [b j hj])
          show hn z0 < hn z'
          omega
      · subst a
        rw [if_neg h10]
        exact ⟨(1, z'), ⟨fr_tr q1 f2, f3, g3, g4, Or.inr ⟨rfl, by show hn z0 < hn z'; omega⟩⟩, rfl⟩
  -- passes until nothing comes
  have main : ∀ z0, fr [36] s z0 → hv z0 → (∀ r c, HS z0 r c ↔ zc (fX P) r c) → ∃ z, f_X8_laysHull_57 BIG (1 : Int32) z0 = rI (i3 (hn z)) z ∧ fr [36] s z ∧ hv z ∧ ∀ r c, HS z r c ↔ hul (zc (fX P)) r c := by
    intro z0 a1 a2 a3
    rw [l3_1]
    refine zloop_m (fun n (z : Int × Mem) => f_X8_laysHull_57 n (i3 z.1) z.2)
      (fun z => fr [36] s z.2 ∧ hv z.2 ∧ (∀ r c, zc (fX P) r c → HS z.2 r c) ∧ (∀ r c, HS z.2 r c → hul (zc (fX P)) r c) ∧ ((z.1 = 0 ∧ ∀ l, l < nR P + nC P → lcl P z.2 l) ∨ z.1 = 1))
      (fun z => if z.1 = 0 then 0 else (36 - hn z.2).toNat + 1)
      (fun o => ∃ z, o = rI (i3 (hn z)) z ∧ fr [36] s z ∧ hv z ∧ ∀ r c, HS z r c ↔ hul (zc (fX P)) r c) ?_ BIG (1, z0) ⟨a1, a2, fun r c q => (a3 r c).mpr q, fun r c q => hul_sub ((a3 r c).mp q), Or.inr rfl⟩ ?_
    · rintro n ⟨v, z⟩ ⟨q1, q2, q3, q4, q5⟩
      simp only at q1 q2 q3 q4 q5
      rcases q5 with ⟨a, b⟩ | a
      · right
        subst a
        have hall : ∀ r c, HS z r c ↔ hul (zc (fX P)) r c := fun r c => ⟨q4 r c, fun w => w (HS z) q3 (lcl_all ok (fun r c w => hul_board ok (q4 r c w)) b)⟩
        simp only [f_X8_laysHull_57]
        rw [if_pos (by decide), count z q1 q2 hall]
        exact ⟨z, rfl, q1, q2, hall⟩
      · left
        subst a
        obtain ⟨v', z', w1, w2, w3, w4, w5, w6⟩ := pass z q1 q2 q3 q4 (f_X8_laysHull_57 n)
        simp only [f_X8_laysHull_57]
        rw [if_neg (by decide), w1]
        refine ⟨(v', z'), ⟨w2, w3, w4, w5, ?_⟩, ?_, rfl⟩
        · rcases w6 with ⟨a, b⟩ | ⟨a, -⟩
          · exact Or.inl ⟨a, b⟩
          · exact Or.inr a
        · show (if v' = 0 then 0 else (36 - hn z').toNat + 1) < (if (1 : Int) = 0 then 0 else (36 - hn z).toNat + 1)
          rw [if_neg (show ¬ (1 : Int) = 0 by decide)]
          have := hn_bd z'
          rcases w6 with ⟨a, b⟩ | ⟨a, b⟩
          · rw [if_pos a]; omega
          · rw [if_neg (by omega)]; omega
    · have := hn_bd z0
      show (if (1 : Int) = 0 then 0 else (36 - hn z0).toNat + 1) < BIG
      rw [if_neg (by decide)]
      unfold BIG; omega
  simp only [F_X8_laysHull]
  rw [show (0 : Int32) = i3 ((0 : Nat) : Int) from l3_0]
  refine loop_st (σ := Mem) (fun n k z => f_X8_laysHull_2 n (i3 k) z)
    (fun k z => fr [36] s z ∧ ∀ j, j < k → z.1 36 j = i3 (b2 (tb (fX P) (8 * (j / 6) + j % 6))))
    (fun o => ∃ z, o = rI (i3 (hn z)) z ∧ fr [36] s z ∧ hv z ∧ ∀ r c, HS z r c ↔ hul (zc (fX P)) r c) 36 ?_ ?_ BIG 0 s (by decide) (BIG_lt (by decide)) ⟨fr_rf _ _, fun j q => by omega⟩
  · rintro n z ⟨q1, q2⟩
    simp only [f_X8_laysHull_2, l3_36]
    rw [if_pos (le3 (by omega))]
    refine main z q1 (fun j hj => ?_) (fun r c => ?_)
    · rw [q2 j hj]
      cases tb (fX P) (8 * (j / 6) + j % 6)
      · exact Or.inl rfl
      · exact Or.inr rfl
    · constructor
      · rintro ⟨w1, w2⟩
        rw [q2 _ (by omega), show (6 * r + c) / 6 = r from by omega, show (6 * r + c) % 6 = c from by omega] at w2
        refine ⟨by omega, by omega, ?_⟩
        cases ht : tb (fX P) (8 * r + c)
        · rw [ht] at w2; exact absurd w2 h01
        · rfl
      · intro w
        have hb := zc_brd (okP_x ok) w
        refine ⟨hb, ?_⟩
        rw [q2 _ (by omega), show (6 * r + c) / 6 = r from by omega, show (6 * r + c) % 6 = c from by omega, w.2.2]
        rfl
  · rintro n k z hk ⟨q1, q2⟩
    left
    have hz : MN z P := MN_fr h q1 (by simp)
    have e1 : i3 (k : Int) / (6 : Int32) = i3 ((k / 6 : Nat) : Int) := by rw [l3_6, i3_div (by omega) (by decide)]; congr 1
    have e4 : remI (i3 (k : Int)) (6 : Int32) = i3 ((k % 6 : Nat) : Int) := by rw [l3_6, i3_rem (by omega) (by decide)]; congr 1
    have e6 : ¬ (36 : Int32) ≤ i3 (k : Int) := by rw [l3_36]; exact nle3 (by omega)
    have hck : ∀ K : Out, ck (inb (i3 (k : Int)) 36) K = K := fun K => ck_k (i3_in (by omega) (by decide)) K
    have put : ∀ d : Int, d = b2 (tb (fX P) (8 * (k / 6) + k % 6)) → (fr [36] s (sI z 36 k (i3 d)) ∧ ∀ j, j < k + 1 → (sI z 36 k (i3 d)).1 36 j = i3 (b2 (tb (fX P) (8 * (j / 6) + j % 6)))) := by
      intro d hd
      refine ⟨fr_tr q1 (fr_sI (by simp)), fun j hj => ?_⟩
      rw [sI_1, up2_a]
      by_cases e : j = k
      · rw [if_pos ⟨rfl, e⟩, e, hd]
      · rw [if_neg (fun w => e w.2)]; exact q2 j (by omega)
    simp only [f_X8_laysHull_2, e1, e4, lt_k, if_neg e6, mCellN hz ok (show k / 6 < 2147483648 by omega) (show k % 6 < 2147483648 by omega), cI_k, mFilled hz (show k / 6 < 6 by omega) (show k % 6 < 6 by omega), clampN (show k < 2147483648 by omega), hck, inc3, nar0, nar1]
    rw [l3_0]
    by_cases hb : k / 6 < nR P ∧ k % 6 < nC P
    · rw [if_pos hb, if_neg h10]
      cases ht : tb (fX P) (8 * (k / 6) + k % 6)
      · rw [show i3 (b2 false) = i3 0 from rfl, if_pos rfl]
        exact ⟨_, put 0 (by rw [ht]; rfl), rfl⟩
      · rw [show i3 (b2 true) = i3 1 from rfl, if_neg h10]
        exact ⟨_, put 1 (by rw [ht]; rfl), rfl⟩
    · rw [if_neg hb, if_pos rfl]
      exact ⟨_, put 0 (by rw [tb_f (fun w => hb (ok.2.2.2.2.1 _ _ ⟨by omega, by omega, w⟩))]; rfl), rfl⟩
