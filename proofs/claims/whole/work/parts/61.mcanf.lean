/-! can the picture fit -/
def cfI (P : Pic) (s z : Mem) (r : Nat) : Prop := fr [38, 39, 40, 41, 42, 43] s z ∧ tv z ∧ (∀ a c, zc (tkS z) a c → zc (gFS P s) a c) ∧
  (∀ a, a < nR P → z.1 39 a = i3 (dN P s a - rct (tkS z) a) ∧ rct (tkS z) a ≤ dN P s a) ∧ (∀ c, c < nC P → z.1 40 c = i3 (dN P s (nR P + c) - cct (tkS z) c) ∧ cct (tkS z) c ≤ dN P s (nR P + c)) ∧
  ∀ a, a < r → rct (tkS z) a = dN P s a
def cfQ (P : Pic) (s : Mem) (o : Out) : Prop := ∃ v z, o = rI (i3 v) z ∧ fr [38, 39, 40, 41, 42, 43] s z ∧
  ((v = 1 ∧ tv z ∧ (∀ a c, zc (tkS z) a c → zc (gFS P s) a c) ∧ fitG P s (g1S P s ||| tkS z)) ∨ (v = 0 ∧ ¬ ∃ y, fitG P s y))
theorem cnt_r {x : Int64} {R a : Nat} (h : a < R) : cnt R x a = rct x a := by unfold cnt; rw [if_neg (by omega)]
theorem cnt_c {x : Int64} {R c : Nat} : cnt R x (R + c) = cct x c := by unfold cnt; rw [if_pos (by omega), show R + c - R = c from by omega]
theorem tk_38 {z z' : Mem} (h : z'.1 38 = z.1 38) : tkS z' = tkS z := by unfold tkS; rw [h]
theorem cfK {P : Pic} (ok : okP P) {s z : Mem} {r : Nat} (h : cfI P s z r) : (∀ a c, zc (g1S P s ||| tkS z) a c → a < nR P ∧ c < nC P) ∧ ∀ l, l < nR P + nC P → cnt (nR P) (g1S P s ||| tkS z) l = (wnt P l : Int) - dN P s l + cnt (nR P) (tkS z) l ∧ cnt (nR P) (tkS z) l ≤ dN P s l := by
  refine ⟨fun a c q => ?_, fun l hl => ⟨?_, ?_⟩⟩
  · rcases (zc_or _ _ _ _).mp q with q | q
    · exact g1_board ok s a c q
    · exact gF_board ok s a c (h.2.2.1 a c q)
  · rw [cnt_dis ok hl (fun a c q w => g1F_dis ok s a c q (h.2.2.1 a c w))]
    unfold dN; omega
  · by_cases q : l < nR P
    · rw [cnt_r q]; exact (h.2.2.2.1 l q).2
    · have := (h.2.2.2.2.1 (l - nR P) (by omega)).2
      rw [show nR P + (l - nR P) = l from by omega] at this
      rw [show cnt (nR P) (tkS z) l = cct (tkS z) (l - nR P) from by unfold cnt; rw [if_pos (by omega)]]
      exact this
theorem dN_6 {P : Pic} (ok : okP P) (s : Mem) {l : Nat} (hl : l < nR P + nC P) : dN P s l ≤ 6 := by
  have w6 := wnt_6 ok hl
  have c1 := cnt_0 (nR P) (g1S P s) l
  unfold dN; omega
theorem ptr_40 {z : Mem} {forth back : Int64} {n : Nat} {q : Nat → Nat} {W : Nat → Int64} {c : Nat} {v : Int32} (h : ptr z forth back n q W) : ptr (sI z 40 c v) forth back n q W := by
  have e1 : (sI z 40 c v).1 41 = z.1 41 := funext (fun x => by rw [sI_1, up2_k _ _ _ _ _ (by decide)])
  have e2 : (sI z 40 c v).1 42 = z.1 42 := funext (fun x => by rw [sI_1, up2_k _ _ _ _ _ (by decide)])
  unfold ptr
  rw [e1, e2]
  exact h
theorem canAug {P : Pic} {s z : Mem} {r : Nat} (hm : MN s P) (ok : okP P) (hg : gOK P s) (h : cfI P s z r) (hr : r < nR P) (hlt : rct (tkS z) r < dN P s r) (k32 : Int32 → Mem → Out) (m : Nat) :
    (∃ z', f_X8_canFit_40 k32 (m + 1) (i3 r) z = f_X8_canFit_40 k32 m (i3 r) z' ∧ cfI P s z' r ∧ rct (tkS z') r = rct (tkS z) r + 1) ∨ cfQ P s (f_X8_canFit_40 k32 (m + 1) (i3 r) z) := by
  have o1 := ok.2.1
  have o2 := ok.2.2.2.1
  obtain ⟨hK1, hK2⟩ := cfK ok h
  obtain ⟨h1, h2, h3, h4, h5, h6⟩ := h
  have d6 := dN_6 ok s (l := r) (by omega)
  have c0 := rct_0 (tkS z) r
  have hck : ∀ K : Out, ck (inb (i3 (r : Int)) 6) K = K := fun K => ck_k (i3_in (by omega) (by decide)) K
  have np : ¬ i3 (dN P s r - rct (tkS z) r) ≤ i3 0 := nle3 (by omega)
  have e37 : ∀ x, z.1 37 x = s.1 37 x := fun x => fr_1 h1 (by simp) x
  have hmz : MN z P := MN_fr hm h1 (by simp)
  have hgz : gOK P z := fun a c ha hc => by rw [e37]; exact hg a c ha hc
  -- forth and back
  have hfo : ∀ a c, zc (gFS P s &&& (tkS z ^^^ (-1 : Int64))) a c ↔ zc (gFS P s) a c ∧ ¬ zc (tkS z) a c := fun a c => zc_rem a c
  have hba : ∀ a c, zc (gFS P s &&& tkS z) a c ↔ zc (gFS P s) a c ∧ zc (tkS z) a c := fun a c => zc_and _ _ _ _
  generalize (gFS P s &&& (tkS z ^^^ (-1 : Int64))) = forth at hfo
  generalize (gFS P s &&& tkS z) = back at hba
  have hd : ∀ a c, zc forth a c → ¬ zc back a c := fun a c q w => ((hfo a c).mp q).2 ((hba a c).mp w).2
  have hbb : ∀ a c, zc back a c → a < nR P ∧ c < nC P := fun a c w => gF_board ok s a c ((hba a c).mp w).1
  have hfb : ∀ a c, zc forth a c → a < nR P ∧ c < nC P := fun a c w => gF_board ok s a c ((hfo a c).mp w).1
  have t38 : ∀ a c, a < nR P → c < nC P → (zc (tkS z) a c ↔ ¬ z.1 38 (6 * a + c) = i3 0) := fun a c ha hc => by
    rw [zc_tk]
    rcases h2 (6 * a + c) (by omega) with w | w
    · rw [w]; exact ⟨fun q => absurd q.2 h01, fun q => absurd rfl q⟩
    · rw [w]; exact ⟨fun _ => h10, fun _ => ⟨by omega, rfl⟩⟩
  have hw : wyH P z forth back (fun c => dN P s (nR P + c) - cct (tkS z) c) := by
    refine ⟨hmz, hgz, hd, fun a c ha hc => ?_, hbb, fun a c ha hc => ?_, hfb, fun c hc => ?_⟩
    · rw [hba, zc_gF ok, t38 a c ha hc, e37]
      exact ⟨fun q => ⟨q.1.2, q.2⟩, fun q => ⟨⟨⟨ha, hc⟩, q.1⟩, q.2⟩⟩
    · rw [hfo, zc_gF ok, t38 a c ha hc, e37]
      exact ⟨fun q => ⟨q.1.2, Classical.not_not.mp q.2⟩, fun q => ⟨⟨⟨ha, hc⟩, q.1⟩, fun w => w q.2⟩⟩
    · have a1 := h5 c hc
      have a2 := cct_0 (tkS z) c
      have a3 := dN_6 ok s (l := nR P + c) (by omega)
      exact ⟨a1.1, by show 0 ≤ dN P s (nR P + c) - cct (tkS z) c; omega, by show dN P s (nR P + c) - cct (tkS z) c ≤ 6; omega⟩
  simp only [f_X8_canFit_40, l3_0, hck, clampN (show r < 2147483648 by omega), (h4 r hr).1, if_neg np]
  rcases mWayFrom ok hw hr with ⟨z1, n, S, T, q, W, j, c, w1, w2, w3, w4, w5, w6, w7, w8, w9, w10, w11, w12, w13⟩ | ⟨z1, S, T, w1, w2, w3, w4, w5, w6⟩
  · left
    have hckc : ∀ K : Out, ck (inb (i3 (c : Int)) 6) K = K := fun K => ck_k (i3_in (by omega) (by decide)) K
    have n9 : ¬ i3 (c : Int) = (-9 : Int32) := by rw [l3_m9]; exact ne9 (by omega)
    have e40 : z1.1 40 c = i3 (dN P s (nR P + c) - cct (tkS z) c) := by rw [fr_1 w2 (by simp)]; exact (h5 c w8).1
    simp only [w1, cI_k, if_neg n9, hckc, clampN (show c < 2147483648 by omega), lt_k, e40]
    have tz1 : z1.1 38 = z.1 38 := (w2 38 (by simp)).1
    have tz2 : ∀ v, (sI z1 40 c v).1 38 = z.1 38 := fun v => by rw [← tz1]; exact funext (fun x => by rw [sI_1, up2_k _ _ _ _ _ (by decide)])
    have hst : ∀ v, ∀ a b, zc (W (q j) ||| bv (8 * q j + c)) a b → (zc (tkS (sI z1 40 c v)) a b ↔ zc back a b) := fun v a b hz => by
      rw [tk_38 (tz2 v), hba]
      rcases (w13.1 a b hz).1 with g | g
      · have := (hfo a b).mp g
        exact ⟨fun e => absurd e this.2, fun e => e.2⟩
      · have := (hba a b).mp g
        exact ⟨fun e => this, fun e => e.2⟩
    obtain ⟨z', v1, v2, v3, v4⟩ := mTurnWay ok (zb := sI z1 40 c (i3 (dN P s (nR P + c) - cct (tkS z) c) - (1 : Int32))) (ptr_40 w6) w4 hd hbb hr k32 (f_X8_canFit_40 k32 m) j w7 BIG _ c (by rw [show BIG = 4096 from rfl]; omega) (fr_rf _ _)
      (fun x hx => by rw [tz2]; exact h2 x hx) w8 (by rw [sI_1, up2_k _ _ _ _ _ (by decide)]; exact w10) w11 w12 (hst _)
    rw [v1]
    refine ⟨_, rfl, ?_⟩
    have etk : tkS (sI z' 39 r (z'.1 39 r - (1 : Int32))) = tkS z' := tk_38 (funext (fun x => by rw [sI_1, up2_k _ _ _ _ _ (by decide)]))
    rw [tk_38 (tz2 _)] at v4
    have fl := flip_up (K := tkS z) (w := W (q j) ||| bv (8 * q j + c)) (f := forth) (b := back) (fun a b hz => (w13.1 a b hz).1) (fun a b hz => ((hfo a b).mp hz).2) (fun a b hz => ((hba a b).mp hz).2)
    have er : ∀ a, a < 6 → rct (tkS z') a = rct (tkS z) a + (if a = r then 1 else 0) := fun a ha => by rw [v4, fl.1 a ha, w13.2.2.1 a ha]
    have ec : ∀ b, b < 6 → cct (tkS z') b = cct (tkS z) b + (if b = c then 1 else 0) := fun a ha => by rw [v4, fl.2 a ha, w13.2.2.2 a ha]
    have e39 : ∀ a, z'.1 39 a = z.1 39 a := fun a => by rw [fr_1 v2 (by simp), sI_1, up2_k _ _ _ _ _ (by decide), fr_1 w2 (by simp)]
    have e40' : ∀ a, z'.1 40 a = if a = c then i3 (dN P s (nR P + c) - cct (tkS z) c) - (1 : Int32) else z.1 40 a := fun a => by
      rw [fr_1 v2 (by simp), sI_1, up2_a]
      by_cases e : a = c
      · rw [if_pos ⟨rfl, e⟩, if_pos e]
      · rw [if_neg (fun w => e w.2), if_neg e, fr_1 w2 (by simp)]
    have ec' := er r (by omega)
    rw [if_pos rfl] at ec'
    refine ⟨⟨?_, fun x hx => ?_, fun a b hz => ?_, fun a ha => ?_, fun b hb => ?_, fun a ha => ?_⟩, ?_⟩
    · exact fr_tr h1 (fr_tr (fr_w w2 (by simp)) (fr_tr (fr_sI (by simp)) (fr_tr (fr_w v2 (by simp)) (fr_sI (by simp)))))
    · rw [sI_1, up2_k _ _ _ _ _ (by decide)]; exact v3 x hx
    · rw [etk, v4, zc_xor] at hz
      rcases hz with ⟨g, -⟩ | ⟨-, g⟩
      · exact h3 a b g
      · rcases (w13.1 a b g).1 with g | g
        · exact ((hfo a b).mp g).1
        · exact ((hba a b).mp g).1
    · rw [etk, er a (by omega), sI_1, up2_a]
      by_cases e : a = r
      · subst e
        rw [if_pos ⟨rfl, rfl⟩, if_pos rfl, e39, (h4 a ha).1, l3_1, i3_sub]
        exact ⟨by congr 1; omega, by omega⟩
      · rw [if_neg (fun w => e w.2), if_neg e, e39, (h4 a ha).1]
        exact ⟨by congr 1; omega, by have := (h4 a ha).2; omega⟩
    · rw [etk, ec b (by omega), sI_1, up2_k _ _ _ _ _ (by decide), e40']
      by_cases e : b = c
      · subst e
        have w9' : 0 < dN P s (nR P + b) - cct (tkS z) b := w9
        rw [if_pos rfl, if_pos rfl, l3_1, i3_sub]
        exact ⟨by congr 1; omega, by omega⟩
      · rw [if_neg e, if_neg e, (h5 b hb).1]
        exact ⟨by congr 1; omega, by have := (h5 b hb).2; omega⟩
    · rw [etk, er a (by omega), if_neg (by omega)]
      have := h6 a ha
      omega
    · rw [etk]; exact ec'
  · right
    have e9 : i3 (-9) = (-9 : Int32) := l3_m9.symm
    simp only [w1, cI_k, if_pos e9]
    refine ⟨0, z1, rfl, fr_tr h1 (fr_w w2 (by simp)), Or.inr ⟨rfl, fun ⟨y, hy⟩ => ?_⟩⟩
    have hrows := cnt_rows ok hK1 (fun l hl => by have := hK2 l hl; omega)
    have hKr := hK2 r (by omega)
    rw [cnt_r hr, cnt_r hr, show wnt P r = dgn (wU P) r from by unfold wnt; rw [if_neg (by omega)]] at hKr
    refine cut_no ok (K := g1S P s ||| tkS z) (F := gFS P s) hK1 hrows.2 hrows.1 (r := r) (by omega) (by omega) w3 (fun a b q1 q2 q3 => w4 a b q1 ((hfo a b).mpr ⟨q2, fun e => q3 ((zc_or _ _ _ _).mpr (Or.inr e))⟩)) (fun a b q1 q2 q3 => w5 a b q1 ((hba a b).mpr ⟨q2, ?_⟩)) (fun b hb q1 => ?_) hy.1 (fun a b ha hb q1 => ?_)
    · rcases (zc_or _ _ _ _).mp q3 with e | e
      · exact absurd q2 (g1F_dis ok s a b e)
      · exact e
    · by_cases hq : b < nC P
      · have a1 : dN P s (nR P + b) - cct (tkS z) b ≤ 0 := w6 b q1
        have a2 := (hK2 (nR P + b) (by omega)).1
        rw [cnt_c, cnt_c, show wnt P (nR P + b) = dgn (wV P) b from by unfold wnt; rw [if_pos (by omega), show nR P + b - nR P = b from by omega]] at a2
        omega
      · rw [(ok.2.2.2.2.2.2.2 b hb).2 (by omega)]
        exact cct_0 _ _
    · rw [hy.2 a b ha hb q1, zc_or]
      exact ⟨Or.inl, fun e => e.elim id (fun e => absurd (h3 a b e) q1)⟩

theorem canRow {P : Pic} {s : Mem} (hm : MN s P) (ok : okP P) (hg : gOK P s) {r : Nat} (hr : r < nR P) (k32 : Int32 → Mem → Out)
    (hk : ∀ z', cfI P s z' (r + 1) → cfQ P s (k32 (i3 ((r + 1 : Nat) : Int)) z')) : ∀ d : Nat, ∀ m z, d < m → cfI P s z r → dN P s r - rct (tkS z) r = d → cfQ P s (f_X8_canFit_40 k32 m (i3 r) z) := by
  have o1 := ok.2.1
  intro d
  induction d with
  | zero =>
    intro m z hm' h hz
    obtain ⟨m, rfl⟩ : ∃ k, m = k + 1 := ⟨m - 1, by omega⟩
    have hck : ∀ K : Out, ck (inb (i3 (r : Int)) 6) K = K := fun K => ck_k (i3_in (by omega) (by decide)) K
    have np : i3 (dN P s r - rct (tkS z) r) ≤ i3 0 := le3 (by omega)
    simp only [f_X8_canFit_40, l3_0, hck, clampN (show r < 2147483648 by omega), (h.2.2.2.1 r hr).1, if_pos np, lt_k, inc3]
    refine hk z ⟨h.1, h.2.1, h.2.2.1, h.2.2.2.1, h.2.2.2.2.1, fun a ha => ?_⟩
    by_cases e : a = r
    · subst e; omega
    · exact h.2.2.2.2.2 a (by omega)
  | succ d ih =>
    intro m z hm' h hz
    obtain ⟨m, rfl⟩ : ∃ k, m = k + 1 := ⟨m - 1, by omega⟩
    rcases canAug hm ok hg h hr (by omega) k32 m with ⟨z', w1, w2, w3⟩ | w
    · rw [w1]
      exact ih m z' (by omega) w2 (by omega)
    · exact w
theorem canRows {P : Pic} {s : Mem} (hm : MN s P) (ok : okP P) (hg : gOK P s) (w6 : zs 6 (fun i => (dgn (wU P) i : Int)) = zs 6 (fun i => (dgn (wV P) i : Int))) : ∀ n r z3, r ≤ nR P → nR P < n + r → cfI P s z3 r → cfQ P s (f_X8_canFit_32 n (i3 r) z3) := by
  have o1 := ok.2.1
  have o2 := ok.2.2.2.1
  intro n
  induction n with
  | zero => intro r z3 h1 h2; omega
  | succ n ih =>
    intro r z3 hr1 hr2 h
    by_cases hr : r < nR P
    · have hm3 : MN z3 P := MN_fr hm h.1 (by simp)
      have el : ¬ i3 (nR P : Int) ≤ i3 (r : Int) := nle3 (by omega)
      simp only [f_X8_canFit_32, rows_code hm3, cI_k, if_neg el]
      have hc := (h.2.2.2.1 r hr).2
      have c0 := rct_0 (tkS z3) r
      have d6 := dN_6 ok s (l := r) (by omega)
      exact canRow hm ok hg hr _ (fun z' h' => ih (r + 1) z' (by omega) (by omega) h') (dN P s r - rct (tkS z3) r).toNat BIG z3 (by rw [show BIG = 4096 from rfl]; omega) h (by omega)
    · have er : r = nR P := by omega
      subst er
      have hm3 : MN z3 P := MN_fr hm h.1 (by simp)
      have el : i3 (nR P : Int) ≤ i3 (nR P : Int) := le3 (by omega)
      simp only [f_X8_canFit_32, rows_code hm3, cI_k, if_pos el]
      refine ⟨1, z3, by rw [l3_1], h.1, Or.inl ⟨rfl, h.2.1, h.2.2.1, ?_⟩⟩
      obtain ⟨hK1, hK2⟩ := cfK ok h
      have htb : ∀ a c, zc (tkS z3) a c → a < nR P ∧ c < nC P := fun a c q => gF_board ok s a c (h.2.2.1 a c q)
      -- the sums over rows and columns
      have s1 : zs 6 (fun a => rct (tkS z3) a) = zs (nR P) (fun a => dN P s a) := by
        rw [zs_ext0 o1 (fun i a1 a2 => rct_out a2 (fun c q => by have := htb i c q; omega))]
        exact zs_congr (fun i hi => h.2.2.2.2.2 i hi)
      have s2 : zs 6 (fun a => cct (tkS z3) a) = zs (nC P) (fun a => cct (tkS z3) a) := zs_ext0 o2 (fun i a1 a2 => cct_out a2 (fun c q => by have := htb c i q; omega))
      have s3 := dN_sum ok s
      rw [w6, Int.sub_self, zs_split] at s3
      have s4 : zs (nR P) (fun l => if nR P ≤ l then -(dN P s l) else dN P s l) = zs (nR P) (fun a => dN P s a) := zs_congr (fun i hi => by rw [if_neg (by omega)])
      have s5 : zs (nC P) (fun i => if nR P ≤ nR P + i then -(dN P s (nR P + i)) else dN P s (nR P + i)) = -(zs (nC P) (fun i => dN P s (nR P + i))) := by
        rw [← zs_neg]; exact zs_congr (fun i hi => by rw [if_pos (by omega)])
      rw [s4, s5] at s3
      have s6 := sum_eq (tkS z3)
      have s8 : zs (nC P) (fun i => dN P s (nR P + i)) = zs (nC P) (fun a => cct (tkS z3) a) := by rw [← s2, ← s6, s1]; omega
      have s7 := zs_eq_zero (n := nC P) (f := fun c => dN P s (nR P + c) - cct (tkS z3) c) (fun c hc => by have := (h.2.2.2.2.1 c hc).2; show 0 ≤ dN P s (nR P + c) - cct (tkS z3) c; omega) (by rw [zs_sub, s8]; exact Int.sub_self _)
      have eqw : ∀ l, l < nR P + nC P → cnt (nR P) (g1S P s ||| tkS z3) l = wnt P l := fun l hl => by
        have a1 := (hK2 l hl).1
        by_cases q : l < nR P
        · have a2 := h.2.2.2.2.2 l q
          rw [cnt_r (x := tkS z3) q] at a1
          omega
        · have a2 := s7 (l - nR P) (by omega)
          have a3 : dN P s (nR P + (l - nR P)) - cct (tkS z3) (l - nR P) = 0 := a2
          rw [show nR P + (l - nR P) = l from by omega] at a3
          rw [show cnt (nR P) (tkS z3) l = cct (tkS z3) (l - nR P) from by unfold cnt; rw [if_pos (by omega)]] at a1
          omega
      refine ⟨⟨hK1, fun a ha => ?_, fun a ha => ?_⟩, fun a c ha hc q => ?_⟩
      · by_cases q : a < nR P
        · have := eqw a (by omega)
          rw [cnt_r q, show wnt P a = dgn (wU P) a from by unfold wnt; rw [if_neg (by omega)]] at this
          exact this
        · rw [(ok.2.2.2.2.2.2.1 a ha).2 (by omega)]
          exact rct_out ha (fun c w => q (hK1 a c w).1)
      · by_cases q : a < nC P
        · have := eqw (nR P + a) (by omega)
          rw [cnt_c, show wnt P (nR P + a) = dgn (wV P) a from by unfold wnt; rw [if_pos (by omega), show nR P + a - nR P = a from by omega]] at this
          exact this
        · rw [(ok.2.2.2.2.2.2.2 a ha).2 (by omega)]
          exact cct_out ha (fun c w => q (hK1 c a w).2)
      · rw [zc_or]
        exact ⟨fun e => e.elim id (fun e => absurd (h.2.2.1 a c e) q), Or.inl⟩
theorem mCanFit {P : Pic} {s : Mem} (hm : MN s P) (ok : okP P) (hg : gOK P s) : cfQ P s (F_X8_canFit s) := by
  have o1 := ok.2.1
  have o2 := ok.2.2.2.1
  simp only [F_X8_canFit]
  rw [show (0 : Int32) = i3 ((0 : Nat) : Int) from l3_0]
  refine loop_st (σ := Mem) (fun n i z => f_X8_canFit_2 n (i3 i) z) (fun i z => fr [38] s z ∧ ∀ j, j < i → z.1 38 j = i3 0) (cfQ P s) 36 ?_ ?_ BIG 0 s (by omega) (BIG_lt (by omega)) ⟨fr_rf _ _, fun j hj => by omega⟩
  · rintro n z ⟨q1, q2⟩
    have tkz : ∀ z2 : Mem, z2.1 38 = z.1 38 → ∀ a c, ¬ zc (tkS z2) a c := fun z2 e a c q => by
      have := (zc_tk z2 a c).mp q
      rw [e, q2 _ (by omega)] at this
      exact h01 this.2
    have hmz : MN z P := MN_fr hm q1 (by simp)
    have e37 : z.1 37 = s.1 37 := (q1 37 (by simp)).1
    have hgz : gOK P z := fun a c ha hc => by rw [e37]; exact hg a c ha hc
    have eg1 : g1S P z = g1S P s := by unfold g1S; rw [e37]
    have egF : gFS P z = gFS P s := by unfold gFS; rw [e37]
    have edN : dN P z = dN P s := funext (fun l => by unfold dN; rw [eg1])
    have efit : ∀ y, fitG P z y ↔ fitG P s y := fun y => by unfold fitG; rw [eg1, egF]
    have el : i3 ((36 : Nat) : Int) ≤ i3 ((36 : Nat) : Int) := le3 (by omega)
    have e36 : (36 : Int32) = i3 ((36 : Nat) : Int) := by decide
    simp only [f_X8_canFit_2, e36, if_pos el]
    obtain ⟨v, z2, w1, w2, w3⟩ := mHasNeeds hmz ok hgz
    rcases w3 with ⟨rfl, w4, w5, w6⟩ | ⟨rfl, w4⟩
    · have n0 : ¬ i3 1 = (0 : Int32) := by decide
      simp only [w1, cI_k, if_neg n0]
      rw [show (0 : Int32) = i3 ((0 : Nat) : Int) from l3_0]
      rw [edN] at w4 w5
      have t38 : z2.1 38 = z.1 38 := (w2 38 (by simp)).1
      have tk0 := tkz z2 t38
      have r0 : ∀ a, a < 6 → rct (tkS z2) a = 0 := fun a ha => rct_out ha (fun c => tk0 a c)
      have c0 : ∀ a, a < 6 → cct (tkS z2) a = 0 := fun a ha => cct_out ha (fun c => tk0 c a)
      exact canRows hm ok hg w6 BIG 0 z2 (by omega) (BIG_lt (by omega)) ⟨fr_tr (fr_w q1 (by simp)) (fr_w w2 (by simp)), fun j hj => Or.inl (by rw [t38]; exact q2 j (by omega)), fun a c q => absurd q (tk0 a c), fun a ha => by rw [r0 a (by omega), Int.sub_zero]; exact ⟨w4.1 a ha, w5 a (by omega)⟩, fun c hc => by rw [c0 c (by omega), Int.sub_zero]; exact ⟨w4.2 c hc, w5 _ (by omega)⟩, fun a ha => by omega⟩
    · have n0 : i3 0 = (0 : Int32) := by decide
      simp only [w1, cI_k, if_pos n0]
      refine ⟨0, z2, by rw [l3_0], fr_tr (fr_w q1 (by simp)) (fr_w w2 (by simp)), Or.inr ⟨rfl, fun ⟨y, hy⟩ => w4 ⟨y, (efit y).mpr hy⟩⟩⟩
  · rintro n i z hi ⟨q1, q2⟩
    left
    have el : ¬ (36 : Int32) ≤ i3 (i : Int) := by rw [show (36 : Int32) = i3 ((36 : Nat) : Int) from by decide]; exact nle3 (by omega)
    have hck : ∀ K : Out, ck (inb (i3 (i : Int)) 36) K = K := fun K => ck_k (i3_in (by omega) (by decide)) K
    have nar0' : vp_nar .boolean (0 : Int32) = i3 0 := by decide
    simp only [f_X8_canFit_2, if_neg el, hck, clampN (show i < 2147483648 by omega), lt_k, inc3, nar0']
    refine ⟨_, ⟨fr_tr q1 (fr_sI (by simp)), fun j hj => ?_⟩, rfl⟩
    rw [sI_1, up2_a]
    by_cases e : j = i
    · rw [if_pos ⟨rfl, e⟩]
    · rw [if_neg (fun w => e w.2)]; exact q2 j (by omega)
