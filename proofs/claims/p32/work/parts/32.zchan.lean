/-! cuts -/
theorem z2_le {g h : Nat → Nat → Int} (e : ∀ r c, r < 6 → c < 6 → g r c ≤ h r c) : z2 g ≤ z2 h := zs_le (fun r hr => zs_le (fun c hc => e r c hr hc))
theorem z2_lt {g h : Nat → Nat → Int} (e : ∀ r c, r < 6 → c < 6 → g r c ≤ h r c) {r c : Nat} (hr : r < 6) (hc : c < 6) (hl : g r c < h r c) : z2 g < z2 h :=
  zs_lt (fun a ha => zs_le (fun b hb => e a b ha hb)) r hr (zs_lt (fun b hb => e r b hr hb) c hc hl)
theorem z2_sub (g h : Nat → Nat → Int) : z2 (fun r c => g r c - h r c) = z2 g - z2 h := by
  unfold z2; rw [← zs_sub]; exact zs_congr (fun r _ => zs_sub 6 _ _)
def sS (S : Nat) (x : Int64) : Int := zs 6 (fun a => if S.testBit a then rct x a else 0)
def sT (T : Nat) (x : Int64) : Int := zs 6 (fun b => if T.testBit b then cct x b else 0)
theorem sS_z2 (S : Nat) (x : Int64) : sS S x = z2 (fun a b => if S.testBit a then b2 (tb x (8 * a + b)) else 0) := by
  apply zs_congr
  intro a _
  show (if S.testBit a then rct x a else 0) = zs 6 (fun b => if S.testBit a then b2 (tb x (8 * a + b)) else 0)
  cases S.testBit a
  · exact (zs_zero 6).symm
  · rfl
theorem sT_z2 (T : Nat) (x : Int64) : sT T x = z2 (fun a b => if T.testBit b then b2 (tb x (8 * a + b)) else 0) := by
  unfold z2
  rw [zs_comm]
  apply zs_congr
  intro b _
  show (if T.testBit b then cct x b else 0) = zs 6 (fun a => if T.testBit b then b2 (tb x (8 * a + b)) else 0)
  cases T.testBit b
  · exact (zs_zero 6).symm
  · rfl
theorem b2_imp {x y : Bool} (h : x = true → y = true) : b2 x ≤ b2 y := by
  cases x
  · exact b2_0 y
  · rw [h rfl]; exact Int.le_refl _
theorem cut_z2 (S T : Nat) (x : Int64) : sS S x - sT T x = z2 (fun a b => (if S.testBit a then b2 (tb x (8 * a + b)) else 0) - (if T.testBit b then b2 (tb x (8 * a + b)) else 0)) := by
  rw [sS_z2, sT_z2, z2_sub]
theorem cut_pt {S T : Nat} {x y : Int64} (h1 : ∀ a b, a < 6 → b < 6 → S.testBit a = true → ¬ T.testBit b = true → zc y a b → zc x a b) (h2 : ∀ a b, a < 6 → b < 6 → ¬ S.testBit a = true → T.testBit b = true → zc x a b → zc y a b) (a b : Nat) (ha : a < 6) (hb : b < 6) :
    (if S.testBit a then b2 (tb y (8 * a + b)) else 0) - (if T.testBit b then b2 (tb y (8 * a + b)) else 0) ≤ (if S.testBit a then b2 (tb x (8 * a + b)) else 0) - (if T.testBit b then b2 (tb x (8 * a + b)) else 0) := by
  have t1 := fun p q => b2_imp (fun z => (tb_iff (x := x) (show a < 8 by omega) (show b < 8 by omega)).mpr (h1 a b ha hb p q ((tb_iff (by omega) (by omega)).mp z)))
  have t2 := fun p q => b2_imp (fun z => (tb_iff (x := y) (show a < 8 by omega) (show b < 8 by omega)).mpr (h2 a b ha hb p q ((tb_iff (by omega) (by omega)).mp z)))
  cases hs : S.testBit a <;> cases ht : T.testBit b
  · simp
  · have := t2 (by rw [hs]; decide) ht
    simp only [Bool.false_eq_true, if_false, if_true]; omega
  · have := t1 hs (by rw [ht]; decide)
    simp only [Bool.false_eq_true, if_false, if_true]; omega
  · simp
theorem cut_le {S T : Nat} {x y : Int64} (h1 : ∀ a b, a < 6 → b < 6 → S.testBit a = true → ¬ T.testBit b = true → zc y a b → zc x a b) (h2 : ∀ a b, a < 6 → b < 6 → ¬ S.testBit a = true → T.testBit b = true → zc x a b → zc y a b) :
    sS S y - sT T y ≤ sS S x - sT T x := by
  rw [cut_z2, cut_z2]
  exact z2_le (cut_pt h1 h2)
theorem cut_lt {S T : Nat} {x y : Int64} (h1 : ∀ a b, a < 6 → b < 6 → S.testBit a = true → ¬ T.testBit b = true → zc y a b → zc x a b) (h2 : ∀ a b, a < 6 → b < 6 → ¬ S.testBit a = true → T.testBit b = true → zc x a b → zc y a b)
    {a b : Nat} (ha : a < 6) (hb : b < 6) (hs : S.testBit a = true) (ht : ¬ T.testBit b = true) (hx : zc x a b) (hy : ¬ zc y a b) : sS S y - sT T y < sS S x - sT T x := by
  rw [cut_z2, cut_z2]
  refine z2_lt (cut_pt h1 h2) ha hb ?_
  have e1 : tb x (8 * a + b) = true := (tb_iff (by omega) (by omega)).mpr hx
  have e2 : tb y (8 * a + b) = false := tb_f (fun z => hy ((tb_iff (by omega) (by omega)).mp z))
  have e3 : T.testBit b = false := by cases hq : T.testBit b; rfl; exact absurd hq ht
  rw [e1, e2, e3, hs]
  decide
theorem sS_congr {S : Nat} {x y : Int64} (h : ∀ a, a < 6 → rct x a = rct y a) : sS S x = sS S y := zs_congr (fun a ha => by rw [h a ha])
theorem sT_congr {T : Nat} {x y : Int64} (h : ∀ a, a < 6 → cct x a = cct y a) : sT T x = sT T y := zs_congr (fun a ha => by rw [h a ha])
/-! what a way does to the counts -/
theorem flip_pt {K w f b : Bool} (h1 : w = true → f = true ∨ b = true) (h2 : f = true → K = false ∧ b = false) (h3 : b = true → K = true) : b2 (K ^^ w) = b2 K + (b2 (w && f) - b2 (w && b)) := by
  revert h1 h2 h3
  cases K <;> cases w <;> cases f <;> cases b <;> decide
theorem flip_pd {K w f b : Bool} (h1 : w = true → f = true ∨ b = true) (h2 : f = true → K = true ∧ b = false) (h3 : b = true → K = false) : b2 (K ^^ w) = b2 K - (b2 (w && f) - b2 (w && b)) := by
  revert h1 h2 h3
  cases K <;> cases w <;> cases f <;> cases b <;> decide
theorem flip_up {K w f b : Int64} (h1 : ∀ r c, zc w r c → zc f r c ∨ zc b r c) (h2 : ∀ r c, zc f r c → ¬ zc K r c) (h3 : ∀ r c, zc b r c → zc K r c) :
    (∀ a, a < 6 → rct (K ^^^ w) a = rct K a + (rct (w &&& f) a - rct (w &&& b) a)) ∧ (∀ a, a < 6 → cct (K ^^^ w) a = cct K a + (cct (w &&& f) a - cct (w &&& b) a)) := by
  have pt : ∀ r c, r < 6 → c < 6 → b2 (tb (K ^^^ w) (8 * r + c)) = b2 (tb K (8 * r + c)) + (b2 (tb (w &&& f) (8 * r + c)) - b2 (tb (w &&& b) (8 * r + c))) := by
    intro r c hr hc
    rw [tb_xor, tb_and, tb_and]
    have q1 := h1 r c
    have q2 := h2 r c
    have q3 := h3 r c
    simp only [← tb_iff (show r < 8 by omega) (show c < 8 by omega)] at q1 q2 q3
    refine flip_pt q1 (fun z => ⟨tb_f (q2 z), tb_f (fun z2 => q2 z (q3 z2))⟩) q3
  constructor
  · intro a ha
    unfold rct
    rw [zs_congr (fun c hc => pt a c ha hc), zs_add, zs_sub]
  · intro a ha
    unfold cct
    rw [zs_congr (fun r hr => pt r a hr ha), zs_add, zs_sub]
theorem flip_dn {K w f b : Int64} (h1 : ∀ r c, zc w r c → zc f r c ∨ zc b r c) (h2 : ∀ r c, zc f r c → zc K r c) (h3 : ∀ r c, zc b r c → ¬ zc K r c) :
    (∀ a, a < 6 → rct (K ^^^ w) a = rct K a - (rct (w &&& f) a - rct (w &&& b) a)) ∧ (∀ a, a < 6 → cct (K ^^^ w) a = cct K a - (cct (w &&& f) a - cct (w &&& b) a)) := by
  have pt : ∀ r c, r < 6 → c < 6 → b2 (tb (K ^^^ w) (8 * r + c)) = b2 (tb K (8 * r + c)) - (b2 (tb (w &&& f) (8 * r + c)) - b2 (tb (w &&& b) (8 * r + c))) := by
    intro r c hr hc
    rw [tb_xor, tb_and, tb_and]
    have q1 := h1 r c
    have q2 := h2 r c
    have q3 := h3 r c
    simp only [← tb_iff (show r < 8 by omega) (show c < 8 by omega)] at q1 q2 q3
    refine flip_pd q1 (fun z => ⟨q2 z, tb_f (fun z2 => q3 z2 (q2 z))⟩) (fun z => tb_f (q3 z))
  constructor
  · intro a ha
    unfold rct
    rw [zs_congr (fun c hc => pt a c ha hc), zs_sub, zs_sub]
  · intro a ha
    unfold cct
    rw [zs_congr (fun r hr => pt r a hr ha), zs_sub, zs_sub]
theorem flip_one {x : Int64} {r c : Nat} (hr : r < 6) (hc : c < 6) : (∀ a, a < 6 → rct (x ^^^ bv (8 * r + c)) a = rct x a + (if a = r then 1 - 2 * b2 (tb x (8 * r + c)) else 0)) ∧ (∀ a, a < 6 → cct (x ^^^ bv (8 * r + c)) a = cct x a + (if a = c then 1 - 2 * b2 (tb x (8 * r + c)) else 0)) := by
  have pt : ∀ a b, a < 6 → b < 6 → b2 (tb (x ^^^ bv (8 * r + c)) (8 * a + b)) = b2 (tb x (8 * a + b)) + (if a = r ∧ b = c then 1 - 2 * b2 (tb x (8 * r + c)) else 0) := by
    intro a b ha hb
    rw [tb_xor, tb_bv (by omega)]
    by_cases h : a = r ∧ b = c
    · obtain ⟨rfl, rfl⟩ := h
      rw [if_pos ⟨rfl, rfl⟩]
      cases tb x (8 * a + b) <;> simp [b2]
    · rw [if_neg h, decide_eq_false (by omega), Bool.xor_false]; omega
  constructor
  · intro a ha
    unfold rct
    rw [zs_congr (fun b hb => pt a b ha hb), zs_add]
    congr 1
    by_cases h : a = r
    · rw [if_pos h]
      have e : ∀ b, b < 6 → (if a = r ∧ b = c then 1 - 2 * b2 (tb x (8 * r + c)) else 0) = if b = c then 1 - 2 * b2 (tb x (8 * r + c)) else 0 := by
        intro b _; simp [h]
      rw [zs_congr e, zs_one hc]
    · rw [if_neg h]
      exact (zs_congr (fun b _ => if_neg (fun q => h q.1))).trans (zs_zero 6)
  · intro b hb
    unfold cct
    rw [zs_congr (fun a ha => pt a b ha hb), zs_add]
    congr 1
    by_cases h : b = c
    · rw [if_pos h]
      have e : ∀ a, a < 6 → (if a = r ∧ b = c then 1 - 2 * b2 (tb x (8 * r + c)) else 0) = if a = r then 1 - 2 * b2 (tb x (8 * r + c)) else 0 := by
        intro a _; simp [h]
      rw [zs_congr e, zs_one hr]
    · rw [if_neg h]
      exact (zs_congr (fun a _ => if_neg (fun q => h q.2))).trans (zs_zero 6)
/-! changing one cell -/
def chT (μ : Mem) (r c : Nat) (o : Out) : Prop := ∃ μ', o = rI (i3 1) μ' ∧ fr [6, 12] μ μ' ∧ μ'.2.1 6 2 = μ.2.1 6 2 ∧
  (∀ a b, ¬ (a = r ∧ b = c) → ¬ zc (μ.2.1 6 2) a b → (zc (μ'.2.1 6 1) a b ↔ zc (μ.2.1 6 1) a b)) ∧ (zc (μ'.2.1 6 1) r c ↔ ¬ zc (μ.2.1 6 1) r c) ∧
  (∀ a, a < 6 → rct (μ'.2.1 6 1) a = rct (μ.2.1 6 1) a) ∧ (∀ a, a < 6 → cct (μ'.2.1 6 1) a = cct (μ.2.1 6 1) a)
def chF (μ : Mem) (r c : Nat) (o : Out) : Prop := ∃ μ', o = rI (i3 0) μ' ∧ fr [12] μ μ' ∧
  ∀ y, brd y → (∀ a, a < 6 → rct y a = rct (μ.2.1 6 1) a) → (∀ a, a < 6 → cct y a = cct (μ.2.1 6 1) a) → (∀ a b, ¬ (a = r ∧ b = c) → ¬ zc (μ.2.1 6 2) a b → (zc y a b ↔ zc (μ.2.1 6 1) a b)) → (zc y r c ↔ zc (μ.2.1 6 1) r c)
theorem zc_xor (x y : Int64) (r c : Nat) : zc (x ^^^ y) r c ↔ (zc x r c ∧ ¬ zc y r c) ∨ (¬ zc x r c ∧ zc y r c) := by
  unfold zc
  rw [tb_xor]
  by_cases h : r < 8 ∧ c < 8
  · simp only [h.1, h.2, true_and]
    cases tb x (8 * r + c) <;> cases tb y (8 * r + c) <;> simp
  · constructor
    · rintro ⟨a, b, -⟩; exact absurd ⟨a, b⟩ h
    · rintro (⟨⟨a, b, -⟩, -⟩ | ⟨-, a, b, -⟩) <;> exact absurd ⟨a, b⟩ h
theorem change_code {μ : Mem} (hK : brd (μ.2.1 6 1)) (hF : brd (μ.2.1 6 2)) {r c : Nat} (hr : r < 6) (hc : c < 6) :
    chT μ r c (F_X2_change (i3 ((8 * r + c : Nat) : Int)) μ) ∨ chF μ r c (F_X2_change (i3 ((8 * r + c : Nat) : Int)) μ) := by
  generalize hk : μ.2.1 6 1 = K at hK
  generalize hf : μ.2.1 6 2 = F at hF
  have hbv : shlL (1 : Int64) (i3 ((8 * r + c : Nat) : Int)) = bv (8 * r + c) := rfl
  have e8 : (8 * r + c) / 8 = r := by omega
  have e9 : (8 * r + c) % 8 = c := by omega
  have nz0 : ∀ k : Out, ck (nz (i3 0)) k = k := fun k => ck_k (nz01 (Or.inl rfl)) k
  have nz1 : ∀ k : Out, ck (nz (i3 1)) k = k := fun k => ck_k (nz01 (Or.inr rfl)) k
  have bFK : brd (F &&& K) := brd_sub hF (fun a b q => ((zc_and _ _ _ _).mp q).1)
  have bFn : brd (F &&& (K ^^^ (-1 : Int64))) := brd_rem hF
  by_cases hz : zc K r c
  · -- the cell is filled: forth by empty cells
    have hd : ∀ a b, zc (F &&& (K ^^^ (-1 : Int64))) a b → ¬ zc (F &&& K) a b := fun a b q1 q2 => ((zc_rem a b).mp q1).2 ((zc_and _ _ _ _).mp q2).2
    have hF' : F_X2_change (i3 ((8 * r + c : Nat) : Int)) μ = cI (F_X2_shift (i3 r) (i3 ((2 ^ c : Nat) : Int)) (F &&& (K ^^^ (-1 : Int64))) (F &&& K) μ) (fun v22 μ19 => if v22 = 0 then (ck (nz v22) (rI v22 μ19)) else (lt (sJ μ19 6 1 ((μ19.2.1 6 1) ^^^ bv (8 * r + c))) (fun μ25 => ck (nz v22) (rI v22 μ25)))) := by
      simp only [F_X2_change, lt_k, hbv, hk, f_X2_change_20, hf, rowAt_code (show 8 * r + c < 64 by omega), columnAt_code (show 8 * r + c < 64 by omega), cI_k, e8, e9, m_bit hc]
      rw [if_neg (bv_t hz), if_neg (by decide), if_neg (by decide)]
      simp only [f_X2_change_83, lt_k]
    rw [hF']
    rcases shift_code (m_bit64 hc) hr bFn bFK hd μ with ⟨μ', g, w, s1, s2, s3, s4, s5, s6, s7, s8, s9, s10⟩ | ⟨μ', S, T, s1, s2, s3, s4, s5, s6⟩
    · left
      have hg := (m_tbit _ _).mp s6
      subst hg
      rw [s1, cI_k, if_neg (by decide), lt_k, nz1]
      rw [hk] at s3
      have hwi : ¬ zc w r g := fun q => ((zc_rem r g).mp (s8 r q)).2 hz
      have fl := flip_up (K := K) s7 (fun a b q => ((zc_rem a b).mp q).2) (fun a b q => ((zc_and _ _ _ _).mp q).2)
      have f1 := flip_one (x := K ^^^ w) hr hc
      have hKw : tb (K ^^^ w) (8 * r + g) = true := ((zc_xor K w r g).mpr (Or.inl ⟨hz, hwi⟩)).2.2
      refine ⟨_, rfl, fr_tr s2 (fr_sJ (by simp)), ?_, fun a b q1 q2 => ?_, ?_, fun a ha => ?_, fun a ha => ?_⟩
      · rw [sJ_21, up2_j _ _ _ _ _ (by decide), s4]
      · rw [sJ_21, up2_same, s3, zc_xor, zc_xor, zc_bv (by omega), hk]
        have hw : ¬ zc w a b := by
          intro q
          rw [hf] at q2
          rcases s7 a b q with z | z
          · exact q2 ((zc_and _ _ _ _).mp z).1
          · exact q2 ((zc_and _ _ _ _).mp z).1
        have hb : ¬ (b < 8 ∧ 8 * a + b = 8 * r + g) := by omega
        simp [hw, hb]
      · rw [sJ_21, up2_same, s3, zc_xor, zc_xor, zc_bv (by omega), hk]
        have hb : g < 8 ∧ 8 * r + g = 8 * r + g := by omega
        simp [hwi, hz, hb]
      · rw [sJ_21, up2_same, s3, f1.1 a ha, fl.1 a ha, s9 a ha, hKw, b2_t, hk]
        by_cases e : a = r
        · rw [if_pos e, if_pos e]; omega
        · rw [if_neg e, if_neg e]; omega
      · rw [sJ_21, up2_same, s3, f1.2 a ha, fl.2 a ha, s10 a ha, hKw, b2_t, hk]
        by_cases e : a = g
        · rw [if_pos e, if_pos e]; omega
        · rw [if_neg e, if_neg e]; omega
    · right
      rw [s1, cI_k, if_pos (by decide), nz0]
      refine ⟨μ', rfl, s2, fun y y0 y1 y2 y3 => ?_⟩
      rw [hk] at y1 y2 y3 ⊢
      rw [hf] at y3
      refine ⟨fun _ => hz, fun _ => Classical.byContradiction (fun hy => ?_)⟩
      have hTc : ¬ T.testBit c = true := fun q => s6 c q ((m_tbit _ _).mpr rfl)
      have hlt := cut_lt (S := S) (T := T) (x := K) (y := y) (fun a b ha hb q1 q2 q3 => ?_) (fun a b ha hb q1 q2 q3 => ?_) hr hc s3 hTc hz hy
      · rw [sS_congr y1, sT_congr y2] at hlt
        omega
      · by_cases e : a = r ∧ b = c
        · obtain ⟨rfl, rfl⟩ := e; exact hz
        · by_cases hfr : zc F a b
          · exact Classical.byContradiction (fun q4 => q2 (s4 a b q1 ((zc_rem a b).mpr ⟨hfr, q4⟩)))
          · exact (y3 a b e hfr).mp q3
      · by_cases e : a = r ∧ b = c
        · obtain ⟨rfl, rfl⟩ := e; exact absurd s3 q1
        · by_cases hfr : zc F a b
          · exact absurd (s5 a b q2 ((zc_and _ _ _ _).mpr ⟨hfr, q3⟩)) q1
          · exact (y3 a b e hfr).mpr q3
  · have hd : ∀ a b, zc (F &&& K) a b → ¬ zc (F &&& (K ^^^ (-1 : Int64))) a b := fun a b q1 q2 => ((zc_rem a b).mp q2).2 ((zc_and _ _ _ _).mp q1).2
    have hF' : F_X2_change (i3 ((8 * r + c : Nat) : Int)) μ = cI (F_X2_shift (i3 r) (i3 ((2 ^ c : Nat) : Int)) (F &&& K) (F &&& (K ^^^ (-1 : Int64))) μ) (fun v22 μ19 => if v22 = 0 then (ck (nz v22) (rI v22 μ19)) else (lt (sJ μ19 6 1 ((μ19.2.1 6 1) ^^^ bv (8 * r + c))) (fun μ25 => ck (nz v22) (rI v22 μ25)))) := by
      simp only [F_X2_change, lt_k, hbv, hk, f_X2_change_20, hf, rowAt_code (show 8 * r + c < 64 by omega), columnAt_code (show 8 * r + c < 64 by omega), cI_k, e8, e9, m_bit hc]
      rw [if_pos (bv_f (by omega) (by omega) hz), if_pos (by decide), if_pos (by decide)]
      simp only [f_X2_change_83, lt_k]
    rw [hF']
    rcases shift_code (m_bit64 hc) hr bFK bFn hd μ with ⟨μ', g, w, s1, s2, s3, s4, s5, s6, s7, s8, s9, s10⟩ | ⟨μ', S, T, s1, s2, s3, s4, s5, s6⟩
    · left
      have hg := (m_tbit _ _).mp s6
      subst hg
      rw [s1, cI_k, if_neg (by decide), lt_k, nz1]
      rw [hk] at s3
      have hwi : ¬ zc w r g := fun q => hz ((zc_and _ _ _ _).mp (s8 r q)).2
      have fl := flip_dn (K := K) s7 (fun a b q => ((zc_and _ _ _ _).mp q).2) (fun a b q => ((zc_rem a b).mp q).2)
      have f1 := flip_one (x := K ^^^ w) hr hc
      have hKw : tb (K ^^^ w) (8 * r + g) = false := tb_f (fun q => by
        have := (zc_xor K w r g).mp ⟨by omega, by omega, q⟩
        rcases this with z | z
        · exact hz z.1
        · exact hwi z.2)
      refine ⟨_, rfl, fr_tr s2 (fr_sJ (by simp)), ?_, fun a b q1 q2 => ?_, ?_, fun a ha => ?_, fun a ha => ?_⟩
      · rw [sJ_21, up2_j _ _ _ _ _ (by decide), s4]
      · rw [sJ_21, up2_same, s3, zc_xor, zc_xor, zc_bv (by omega), hk]
        have hw : ¬ zc w a b := by
          intro q
          rw [hf] at q2
          rcases s7 a b q with z | z
          · exact q2 ((zc_and _ _ _ _).mp z).1
          · exact q2 ((zc_and _ _ _ _).mp z).1
        have hb : ¬ (b < 8 ∧ 8 * a + b = 8 * r + g) := by omega
        simp [hw, hb]
      · rw [sJ_21, up2_same, s3, zc_xor, zc_xor, zc_bv (by omega), hk]
        have hb : g < 8 ∧ 8 * r + g = 8 * r + g := by omega
        simp [hwi, hz, hb]
      · rw [sJ_21, up2_same, s3, f1.1 a ha, fl.1 a ha, s9 a ha, hKw, b2_f, hk]
        by_cases e : a = r
        · rw [if_pos e, if_pos e]; omega
        · rw [if_neg e, if_neg e]; omega
      · rw [sJ_21, up2_same, s3, f1.2 a ha, fl.2 a ha, s10 a ha, hKw, b2_f, hk]
        by_cases e : a = g
        · rw [if_pos e, if_pos e]; omega
        · rw [if_neg e, if_neg e]; omega
    · right
      rw [s1, cI_k, if_pos (by decide), nz0]
      refine ⟨μ', rfl, s2, fun y y0 y1 y2 y3 => ?_⟩
      rw [hk] at y1 y2 y3 ⊢
      rw [hf] at y3
      refine ⟨fun hy => Classical.byContradiction (fun _ => ?_), fun q => absurd q hz⟩
      have hTc : ¬ T.testBit c = true := fun q => s6 c q ((m_tbit _ _).mpr rfl)
      have hlt := cut_lt (S := S) (T := T) (x := y) (y := K) (fun a b ha hb q1 q2 q3 => ?_) (fun a b ha hb q1 q2 q3 => ?_) hr hc s3 hTc hy hz
      · rw [sS_congr y1, sT_congr y2] at hlt
        omega
      · by_cases e : a = r ∧ b = c
        · obtain ⟨rfl, rfl⟩ := e; exact hy
        · by_cases hfr : zc F a b
          · exact absurd (s4 a b q1 ((zc_and _ _ _ _).mpr ⟨hfr, q3⟩)) q2
          · exact (y3 a b e hfr).mpr q3
      · by_cases e : a = r ∧ b = c
        · obtain ⟨rfl, rfl⟩ := e; exact absurd s3 q1
        · by_cases hfr : zc F a b
          · exact Classical.byContradiction (fun q4 => q1 (s5 a b q2 ((zc_rem a b).mpr ⟨hfr, q4⟩)))
          · exact (y3 a b e hfr).mp q3
