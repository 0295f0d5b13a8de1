/-! the next picture, the model's way -/
/-- the given cells when the cell i is to be filled: the ones before as X, the one filled, the pins -/
def nxV (P : Pic) (X : Int64) (i : Nat) (r c : Nat) : Int32 := if nC P * r + c < i then i3 (b2 (tb X (8 * r + c))) else gpV P r c
def fnI (P : Pic) (s : Mem) (X : Int64) (m : Nat) (z : Mem) : Prop := fr [37, 38, 39, 40, 41, 42, 43] s z ∧ m ≤ nR P * nC P ∧ ∀ a d, chg P a d → ¬ zc X a d → m ≤ nC P * a + d → ¬ nxE P X a d
def fnQ (P : Pic) (s : Mem) (X : Int64) (o : Out) : Prop := ∃ v z, o = rI (i3 v) z ∧ fr [37, 38, 39, 40, 41, 42, 43, 44] s z ∧ ((v = 1 ∧ ∃ G, nxt P X G ∧ c44 P z G) ∨ (v = 0 ∧ nno P X ∧ c44 P z X))
theorem nx_facts {P : Pic} (ok : okP P) {X : Int64} (hX : ∀ r c, zc X r c → r < nR P ∧ c < nC P) (hp : ∀ r c, zc (fP P) r c → (zc X r c ↔ zc (fX P) r c)) {r c : Nat} (hc : chg P r c) {z : Mem}
    (hz : ∀ a d, a < nR P → d < nC P → z.1 37 (6 * a + d) = if a = r ∧ d = c then i3 1 else nxV P X (nC P * r + c) a d) :
    gOK P z ∧ (∀ a d, zc (gFS P z) a d ↔ aft P r c a d) ∧ ∀ y, fitG P z y ↔ fitC P y ∧ agB P X r c y ∧ zc y r c := by
  have o1 := ok.2.1
  have o2 := ok.2.2.2.1
  have o3 := ok.2.2.1
  have lt : ∀ a d, d < nC P → (nC P * a + d < nC P * r + c ↔ 8 * a + d < 8 * r + c) := fun a d hd => pos_lt o3 o2 hd hc.1.2
  have val : ∀ a d, a < nR P → d < nC P → (z.1 37 (6 * a + d) = i3 (-1) ↔ aft P r c a d) ∧ (¬ aft P r c a d → (z.1 37 (6 * a + d) = i3 1 ↔ (a = r ∧ d = c) ∨ (¬ (a = r ∧ d = c) ∧ zc X a d))) := by
    intro a d ha hd
    rw [hz a d ha hd]
    have tX := tb_iff (x := X) (r := a) (c := d) (by omega) (by omega)
    have tP := tb_iff (x := fP P) (r := a) (c := d) (by omega) (by omega)
    have tF := tb_iff (x := fX P) (r := a) (c := d) (by omega) (by omega)
    unfold aft
    by_cases x : a = r ∧ d = c
    · rw [if_pos x]
      refine ⟨⟨fun q => absurd q (by decide), fun q => ?_⟩, fun _ => ⟨fun _ => Or.inl x, fun _ => rfl⟩⟩
      rw [x.1, x.2] at q; have := q.2; omega
    · rw [if_neg x]
      unfold nxV
      by_cases q : nC P * a + d < nC P * r + c
      · rw [if_pos q, b21, tX]
        have := (lt a d hd).mp q
        exact ⟨⟨fun w => absurd w (b2m _), fun w => by have := w.2; omega⟩, fun _ => ⟨fun w => Or.inr ⟨x, w⟩, fun w => w.elim (fun e => absurd e x) (fun e => e.2)⟩⟩
      · rw [if_neg q, gpV_m1, tP]
        have q2 := mt (lt a d hd).mpr q
        have ne : ¬ 8 * a + d = 8 * r + c := fun e => x (by have := hc.1.2; omega)
        refine ⟨⟨fun w => ⟨⟨⟨ha, hd⟩, w⟩, by omega⟩, fun w => w.1.2⟩, fun w => ?_⟩
        have w2 : zc (fP P) a d := Classical.byContradiction (fun e => w ⟨⟨⟨ha, hd⟩, e⟩, by omega⟩)
        rw [gpV_1 (tP.mpr w2), tF, ← hp a d w2]
        exact ⟨fun e => Or.inr ⟨x, e⟩, fun e => e.elim (fun e => absurd e x) (fun e => e.2)⟩
  have gF : ∀ a d, zc (gFS P z) a d ↔ aft P r c a d := fun a d => by
    rw [zc_gF ok]
    exact ⟨fun q => ((val a d q.1.1 q.1.2).1).mp q.2, fun q => ⟨q.1.1, ((val a d q.1.1.1 q.1.1.2).1).mpr q⟩⟩
  refine ⟨fun a d ha hd => ?_, gF, fun y => ?_⟩
  · rw [hz a d ha hd]
    by_cases x : a = r ∧ d = c
    · rw [if_pos x]; exact Or.inr (Or.inr rfl)
    · rw [if_neg x]
      unfold nxV
      by_cases q : nC P * a + d < nC P * r + c
      · rw [if_pos q]
        cases tb X (8 * a + d)
        · exact Or.inr (Or.inl rfl)
        · exact Or.inr (Or.inr rfl)
      · rw [if_neg q]; exact gpV_ok P a d
  · rw [fit37 ok]
    have naft : ∀ a d, (zc (fP P) a d ∨ 8 * a + d < 8 * r + c) → ¬ aft P r c a d := fun a d q w => by
      rcases q with q | q
      · exact w.1.2 q
      · have := w.2; omega
    constructor
    · rintro ⟨q1, q2⟩
      refine ⟨q1, fun a d hd8 q => ?_, ?_⟩
      · by_cases bd : a < nR P ∧ d < nC P
        · have na := naft a d q
          have := q2 a d bd.1 bd.2 (fun w => na (((val a d bd.1 bd.2).1).mp w))
          rw [this, ((val a d bd.1 bd.2).2) na]
          have x : ¬ (a = r ∧ d = c) := fun e => by
            rcases q with q | q
            · rw [e.1, e.2] at q; exact hc.2 q
            · omega
          exact ⟨fun e => e.elim (fun e => absurd e x) (fun e => e.2), fun e => Or.inr ⟨x, e⟩⟩
        · exact ⟨fun e => absurd (q1.1 a d e) bd, fun e => absurd (hX a d e) bd⟩
      · have na : ¬ aft P r c r c := fun w => by have := w.2; omega
        rw [q2 r c hc.1.1 hc.1.2 (fun w => na (((val r c hc.1.1 hc.1.2).1).mp w)), ((val r c hc.1.1 hc.1.2).2) na]
        exact Or.inl ⟨rfl, rfl⟩
    · rintro ⟨q1, q2, q3⟩
      refine ⟨q1, fun a d ha hd q => ?_⟩
      have na : ¬ aft P r c a d := fun w => q (((val a d ha hd).1).mpr w)
      rw [((val a d ha hd).2) na]
      by_cases x : a = r ∧ d = c
      · rw [x.1, x.2]; exact ⟨fun _ => Or.inl ⟨rfl, rfl⟩, fun _ => q3⟩
      · have h2 : zc (fP P) a d ∨ 8 * a + d < 8 * r + c := by
          by_cases w : zc (fP P) a d
          · exact Or.inl w
          · right
            have : ¬ 8 * r + c < 8 * a + d := fun e => na ⟨⟨⟨ha, hd⟩, w⟩, e⟩
            have ne : ¬ 8 * a + d = 8 * r + c := fun e => x (by have := hc.1.2; omega)
            omega
        rw [q2 a d (by omega) h2]
        exact ⟨fun e => Or.inr ⟨x, e⟩, fun e => e.elim (fun e => absurd e x) (fun e => e.2)⟩
/-- the loop that gives the cells before -/
theorem fn70 {P : Pic} {s z : Mem} (hm : MN s P) (ok : okP P) {X : Int64} (h44 : c44 P s X) (hX : ∀ r c, zc X r c → r < nR P ∧ c < nC P) (hp : ∀ r c, zc (fP P) r c → (zc X r c ↔ zc (fX P) r c)) {i : Nat} (hi : i < nR P * nC P)
    (hc : chg P (i / nC P) (i % nC P)) (hn : ¬ zc X (i / nC P) (i % nC P)) (h : fnI P s X (i + 1) z) (hz : ∀ r c, r < nR P → c < nC P → z.1 37 (6 * r + c) = gpV P r c) (k14 : Int32 → Mem → Out) :
    (∃ z', fnI P s X i z' ∧ f_X8_findsNext_70 k14 BIG (i3 i) (i3 ((6 * (i / nC P) + i % nC P : Nat) : Int)) (0 : Int32) z = k14 (i3 ((i : Int) - 1)) z') ∨
    fnQ P s X (f_X8_findsNext_70 k14 BIG (i3 i) (i3 ((6 * (i / nC P) + i % nC P : Nat) : Int)) (0 : Int32) z) := by
  have o1 := ok.2.1
  have o2 := ok.2.2.2.1
  have o3 := ok.2.2.1
  have h36 := pos_36 o1 o2
  obtain ⟨p1, p2, p3⟩ := pos_at o3 o2 hi
  rw [show (0 : Int32) = i3 ((0 : Nat) : Int) from l3_0]
  refine loop_st (σ := Mem) (fun n j z => f_X8_findsNext_70 k14 n (i3 i) (i3 ((6 * (i / nC P) + i % nC P : Nat) : Int)) (i3 j) z)
    (fun j z => fnI P s X (i + 1) z ∧ ∀ a d, a < nR P → d < nC P → z.1 37 (6 * a + d) = nxV P X j a d)
    (fun o => (∃ z', fnI P s X i z' ∧ o = k14 (i3 ((i : Int) - 1)) z') ∨ fnQ P s X o) i ?_ ?_ BIG 0 z (by omega) (BIG_lt (by omega)) ⟨h, fun a d ha hd => by rw [hz a d ha hd]; unfold nxV; rw [if_neg (by omega)]⟩
  · rintro n z ⟨q1, q2⟩
    have el : i3 (i : Int) ≤ i3 (i : Int) := le3 (by omega)
    have hk : 6 * (i / nC P) + i % nC P < 36 := by
      generalize i / nC P = u at *
      generalize i % nC P = v at *
      omega
    have hval : ∀ a d, a < nR P → d < nC P → (sI z 37 (6 * (i / nC P) + i % nC P) (1 : Int32)).1 37 (6 * a + d) = if a = i / nC P ∧ d = i % nC P then i3 1 else nxV P X (nC P * (i / nC P) + i % nC P) a d := fun a d ha hd => by
      have ix : (6 * a + d = 6 * (i / nC P) + i % nC P ↔ a = i / nC P ∧ d = i % nC P) := by
        generalize i / nC P = u at *
        generalize i % nC P = v at *
        omega
      rw [sI_1, up2_a]
      by_cases x : a = i / nC P ∧ d = i % nC P
      · rw [if_pos ⟨rfl, ix.mpr x⟩, if_pos x]; rfl
      · rw [if_neg (fun w => x (ix.mp w.2)), if_neg x, p3]; exact q2 a d ha hd
    obtain ⟨g1, g2, g3⟩ := nx_facts ok hX hp hc hval
    have hck : ∀ K : Out, ck (inb (i3 ((6 * (i / nC P) + i % nC P : Nat) : Int)) 36) K = K := fun K => ck_k (i3_in (by omega) (by decide)) K
    have hf1 : fr [37, 38, 39, 40, 41, 42, 43] s (sI z 37 (6 * (i / nC P) + i % nC P) (1 : Int32)) := fr_tr q1.1 (fr_sI (by simp))
    have e0 : (0 : Int32) = i3 (b2 false) := l3_0
    have hgv := mGives (MN_fr hm hf1 (by simp)) ok g1 false (p := i + 1) (by omega) (fun r c f => by
      have := (g2 r c).mp f
      have lt := pos_lt o3 o2 (a := i / nC P) (d := i % nC P) (r := r) (c := c) p2 this.1.1.2
      have := this.2
      rw [p3] at lt
      omega)
    obtain ⟨v, z2, u1, u2, u3⟩ := hgv
    have hf2 : fr [37, 38, 39, 40, 41, 42, 43] s z2 := fr_tr hf1 u2
    have nl : ∀ a d, d < nC P → (nC P * a + d = i → a = i / nC P ∧ d = i % nC P) := fun a d hd e => by
      have a1 := pos_lt o3 o2 (a := a) (r := i / nC P) hd p2
      have a2 := pos_lt o3 o2 (a := i / nC P) (r := a) p2 hd
      rw [p3] at a1 a2
      generalize i / nC P = u at *
      generalize i % nC P = v at *
      omega
    simp only [f_X8_findsNext_70, if_pos el, hck, clampN (show 6 * (i / nC P) + i % nC P < 2147483648 by omega), lt_k, inc3, dec3]
    rcases u3 with ⟨rfl, x1, x2, x3⟩ | ⟨rfl, x1⟩
    · right
      obtain ⟨z3, t1, t2, t3⟩ := mKeeps z2
      have n0 : ¬ i3 1 = i3 (b2 false) := by decide
      simp only [e0, u1, cI_k, if_neg n0, t1, cV_k]
      refine ⟨1, z3, by rw [l3_1], fr_tr (fr_w hf2 (by simp)) (fr_w t2 (by simp)), Or.inl ⟨rfl, g1S P z2, ?_, c44_of ok x1 t3⟩⟩
      have hfit := (g3 (g1S P z2)).mp ((fit37 ok _).mpr ⟨x2.1, fun a d ha hd q => by
        have nF : ¬ zc (gFS P (sI z 37 (6 * (i / nC P) + i % nC P) (1 : Int32))) a d := fun w => q ((zc_gF ok _ _ _).mp w).2
        rw [zc_g1 ok, x3 a d ha hd nF]
        exact ⟨fun w => w.2, fun w => ⟨⟨ha, hd⟩, w⟩⟩⟩)
      refine ⟨i / nC P, i % nC P, hc, hn, hfit.2.1, hfit.2.2, grd_F x2 g2, fun a d h1 h2 h3 => q1.2.2 a d h1 h2 ?_⟩
      have lt := pos_lt o3 o2 (a := i / nC P) (d := i % nC P) (r := a) (c := d) p2 h1.1.2
      rw [p3] at lt
      omega
    · left
      have n0 : i3 0 = i3 (b2 false) := by decide
      simp only [e0, u1, cI_k, if_pos n0]
      refine ⟨z2, ⟨hf2, by omega, fun a d h1 h2 h3 => ?_⟩, rfl⟩
      by_cases x : nC P * a + d = i
      · obtain ⟨rfl, rfl⟩ := nl a d h1.1.2 x
        rintro ⟨y, y1, y2, y3⟩
        exact x1 ⟨y, (g3 y).mpr ⟨y1, y2, y3⟩⟩
      · exact q1.2.2 a d h1 h2 (by omega)
  · rintro n j z hj ⟨q1, q2⟩
    left
    have hm1 := MN_fr hm q1.1 (by simp)
    have el : ¬ i3 (i : Int) ≤ i3 (j : Int) := nle3 (by omega)
    have nz0 : ¬ i3 (nC P : Int) = 0 := by rw [l3_0]; exact ne3 (by omega)
    have ckz : ∀ K : Out, ck (¬ i3 (nC P : Int) = 0) K = K := fun K => ck_k nz0 K
    have ed : i3 (j : Int) / i3 (nC P : Int) = i3 ((j / nC P : Nat) : Int) := divN (by omega) (by omega) (by omega)
    have em : remI (i3 (j : Int)) (i3 (nC P : Int)) = i3 ((j % nC P : Nat) : Int) := remM (by omega) (by omega) (by omega)
    obtain ⟨r1, r2, r3⟩ := pos_at o3 o2 (show j < nR P * nC P by omega)
    have hk : 6 * (j / nC P) + j % nC P < 36 := by
      generalize j / nC P = u at *
      generalize j % nC P = v at *
      omega
    have at6' := at6 (j / nC P) (j % nC P)
    have hck : ∀ K : Out, ck (inb (i3 ((6 * (j / nC P) + j % nC P : Nat) : Int)) 36) K = K := fun K => ck_k (i3_in (by omega) (by decide)) K
    have e44 : z.1 44 (6 * (j / nC P) + j % nC P) = i3 (b2 (tb X (8 * (j / nC P) + j % nC P))) := by rw [fr_1 q1.1 (by simp)]; exact h44 _ _ r1 r2
    simp only [f_X8_findsNext_70, if_neg el, cols_code hm1, cI_k, ckz, ed, em, at6', lt_k, hck, clampN (show 6 * (j / nC P) + j % nC P < 2147483648 by omega), e44, inc3]
    refine ⟨_, ⟨⟨fr_tr q1.1 (fr_sI (by simp)), q1.2⟩, fun a d ha hd => ?_⟩, rfl⟩
    have ix : (6 * a + d = 6 * (j / nC P) + j % nC P ↔ a = j / nC P ∧ d = j % nC P) := by
      generalize j / nC P = u at *
      generalize j % nC P = v at *
      omega
    have nl : nC P * a + d = j → a = j / nC P ∧ d = j % nC P := fun e => by
      have a1 := pos_lt o3 o2 (a := a) (r := j / nC P) hd r2
      have a2 := pos_lt o3 o2 (a := j / nC P) (r := a) r2 hd
      rw [r3] at a1 a2
      generalize j / nC P = u at *
      generalize j % nC P = v at *
      omega
    rw [sI_1, up2_a]
    by_cases x : a = j / nC P ∧ d = j % nC P
    · rw [if_pos ⟨rfl, ix.mpr x⟩]
      unfold nxV
      rw [x.1, x.2, r3, if_pos (by omega)]
    · rw [if_neg (fun w => x (ix.mp w.2)), q2 a d ha hd]
      unfold nxV
      by_cases y : nC P * a + d < j
      · rw [if_pos y, if_pos (by omega)]
      · rw [if_neg y, if_neg (fun w => x (nl (by omega)))]
theorem mFindsNext {P : Pic} {s : Mem} (hm : MN s P) (ok : okP P) {X : Int64} (h44 : c44 P s X) (hX : ∀ r c, zc X r c → r < nR P ∧ c < nC P) (hp : ∀ r c, zc (fP P) r c → (zc X r c ↔ zc (fX P) r c)) : fnQ P s X (F_X8_findsNext s) := by
  have o1 := ok.2.1
  have o2 := ok.2.2.2.1
  have o3 := ok.2.2.1
  have h36 := pos_36 o1 o2
  have er : i3 (nR P : Int) * i3 (nC P : Int) = i3 ((nR P * nC P : Nat) : Int) := i3_mul _ _
  have e1 : i3 ((nR P * nC P : Nat) : Int) - (1 : Int32) = i3 (((nR P * nC P : Nat) : Int) - 1) := by rw [l3_1, i3_sub]
  simp only [F_X8_findsNext, rows_code hm, cols_code hm, cI_k, lt_k, er, e1]
  refine loop_dn (σ := Mem) (fun n m z => f_X8_findsNext_14 n (i3 ((m : Int) - 1)) z) (fun m z => fnI P s X m z) (fnQ P s X) ?_ ?_ BIG (nR P * nC P) s (by rw [show BIG = 4096 from rfl]; omega) ⟨fr_rf _ _, Nat.le_refl _, fun a d h1 _ h3 => by have := pos_in (R := nR P) o3 o2 h1.1.1 h1.1.2; omega⟩
  · rintro n z ⟨q1, q2, q3⟩
    have em : i3 (((0 : Nat) : Int) - 1) < 0 := by decide
    simp only [f_X8_findsNext_14, if_pos em]
    exact ⟨0, z, by rw [l3_0], fr_w q1 (by simp), Or.inr ⟨rfl, fun a d h1 h2 => q3 a d h1 h2 (Nat.zero_le _), fun r c hr hc => by rw [fr_1 q1 (by simp)]; exact h44 r c hr hc⟩⟩
  · rintro n i z ⟨q1, q2, q3⟩
    have hi : i < nR P * nC P := by omega
    have hm1 := MN_fr hm q1 (by simp)
    have ei : i3 (((i + 1 : Nat) : Int) - 1) = i3 (i : Int) := by congr 1; omega
    obtain ⟨p1, p2, p3⟩ := pos_at o3 o2 hi
    have nl : ¬ i3 (i : Int) < 0 := by rw [l3_0]; exact nlt3 (by omega)
    have nz0 : ¬ i3 (nC P : Int) = 0 := by rw [l3_0]; exact ne3 (by omega)
    have ckz : ∀ K : Out, ck (¬ i3 (nC P : Int) = 0) K = K := fun K => ck_k nz0 K
    have ed : i3 (i : Int) / i3 (nC P : Int) = i3 ((i / nC P : Nat) : Int) := divN (by omega) (by omega) (by omega)
    have em : remI (i3 (i : Int)) (i3 (nC P : Int)) = i3 ((i % nC P : Nat) : Int) := remM (by omega) (by omega) (by omega)
    have hk : 6 * (i / nC P) + i % nC P < 36 := by
      generalize i / nC P = u at *
      generalize i % nC P = v at *
      omega
    have at6' := at6 (i / nC P) (i % nC P)
    have hck : ∀ K : Out, ck (inb (i3 ((6 * (i / nC P) + i % nC P : Nat) : Int)) 36) K = K := fun K => ck_k (i3_in (by omega) (by decide)) K
    have e44 : z.1 44 (6 * (i / nC P) + i % nC P) = i3 (b2 (tb X (8 * (i / nC P) + i % nC P))) := by rw [fr_1 q1 (by simp)]; exact h44 _ _ p1 p2
    have tX := tb_iff (x := X) (r := i / nC P) (c := i % nC P) (by omega) (by omega)
    have tP := tb_iff (x := fP P) (r := i / nC P) (c := i % nC P) (by omega) (by omega)
    have nlc : ∀ a d, d < nC P → (nC P * a + d = i → a = i / nC P ∧ d = i % nC P) := fun a d hd e => by
      have a1 := pos_lt o3 o2 (a := a) (r := i / nC P) hd p2
      have a2 := pos_lt o3 o2 (a := i / nC P) (r := a) p2 hd
      rw [p3] at a1 a2
      generalize i / nC P = u at *
      generalize i % nC P = v at *
      omega
    have skip : (zc X (i / nC P) (i % nC P) ∨ zc (fP P) (i / nC P) (i % nC P)) → fnI P s X i z := fun q => ⟨q1, by omega, fun a d h1 h2 h3 => by
      by_cases x : nC P * a + d = i
      · obtain ⟨rfl, rfl⟩ := nlc a d h1.1.2 x
        rcases q with q | q
        · exact absurd q h2
        · exact absurd q h1.2
      · exact q3 a d h1 h2 (by omega)⟩
    have z3 := mPinned hm1 (show i / nC P < 6 by omega) (show i % nC P < 6 by omega)
    simp only [ei, f_X8_findsNext_14, if_neg nl, cols_code hm1, cI_k, ckz, ed, em, at6', lt_k, hck, clampN (show 6 * (i / nC P) + i % nC P < 2147483648 by omega), e44, dec3, z3]
    rcases b2_3 (tb X (8 * (i / nC P) + i % nC P)) with ⟨a1, a2⟩ | ⟨a1, a2⟩
    · left
      have n0 : ¬ i3 1 = (0 : Int32) := by decide
      simp only [a2, if_neg n0]
      exact ⟨z, skip (Or.inl (tX.mp a1)), rfl⟩
    · have n0 : i3 0 = (0 : Int32) := by decide
      have hX0 : ¬ zc X (i / nC P) (i % nC P) := fun w => by rw [tX.mpr w] at a1; exact absurd a1 (by decide)
      simp only [a2, if_pos n0]
      rcases b2_3 (tb (fP P) (8 * (i / nC P) + i % nC P)) with ⟨c1, c2⟩ | ⟨c1, c2⟩
      · left
        have n0 : ¬ i3 1 = (0 : Int32) := by decide
        simp only [c2, if_neg n0]
        exact ⟨z, skip (Or.inr (tP.mp c1)), rfl⟩
      · have n0 : i3 0 = (0 : Int32) := by decide
        have hP0 : ¬ zc (fP P) (i / nC P) (i % nC P) := fun w => by rw [tP.mpr w] at c1; exact absurd c1 (by decide)
        obtain ⟨z1, w1, w2, w3⟩ := mGivesPins hm1 ok
        simp only [c2, if_pos n0, w1, cV_k]
        exact fn70 hm ok h44 hX hp hi ⟨⟨p1, p2⟩, hP0⟩ hX0 ⟨fr_tr q1 (fr_w w2 (by simp)), q2, q3⟩ w3 (f_X8_findsNext_14 n)
theorem mFindsBehind {P : Pic} {s : Mem} (hm : MN s P) (ok : okP P) : ∃ v z, F_X8_findsBehind s = rI (i3 v) z ∧ fr [37, 38, 39, 40, 41, 42, 43, 44] s z ∧ ((v = 1 ∧ ∃ G, nxt P (fX P) G ∧ c44 P z G) ∨ (v = 0 ∧ nno P (fX P))) := by
  obtain ⟨z1, w1, w2, w3⟩ := mTells hm ok
  obtain ⟨v, z2, u1, u2, u3⟩ := mFindsNext (MN_fr hm w2 (by simp)) ok w3 ok.2.2.2.2.1 (fun r c _ => Iff.rfl)
  simp only [F_X8_findsBehind, w1, cV_k, u1, cI_k]
  have hf : fr [37, 38, 39, 40, 41, 42, 43, 44] s z2 := fr_tr (fr_w w2 (by simp)) u2
  rcases u3 with ⟨rfl, x⟩ | ⟨rfl, x⟩
  · exact ⟨1, z2, (nz_k _).1, hf, Or.inl ⟨rfl, x⟩⟩
  · exact ⟨0, z2, (nz_k _).2, hf, Or.inr ⟨rfl, x.1⟩⟩
