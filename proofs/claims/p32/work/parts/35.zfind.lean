theorem bit_test0 {x : Int64} {r c : Nat} (hr : r < 8) (hc : c < 8) {α : Type} (a b : α) : (if lg_cmp (x &&& bv (8 * r + c)) 0 = i3 0 then a else b) = if tb x (8 * r + c) then b else a := by
  simp only [← l3_0]; exact bit_test hr hc a b
/-- the cells that may change -/
def chg (P : Pic) : CS := fun r c => (r < nR P ∧ c < nC P) ∧ ¬ zc (fP P) r c
/-- y fits and has the pinned cells as x has them -/
def fitP (P : Pic) (x y : Int64) : Prop := fitC P y ∧ ∀ r c, zc (fP P) r c → (zc y r c ↔ zc x r c)
def isFst (P : Pic) (x : Int64) (b : Bool) (G : Int64) : Prop := grd P (chg P) b G ∧ ∀ r c, zc (fP P) r c → (zc G r c ↔ zc x r c)
theorem isFst_fit {P : Pic} {x : Int64} {b : Bool} {G : Int64} (h : isFst P x b G) : fitP P x G := ⟨h.1.1, h.2⟩
theorem grd_F {P : Pic} {F F' : CS} {b : Bool} {G : Int64} (h : grd P F b G) (e : ∀ r c, F r c ↔ F' r c) : grd P F' b G := by
  have : F = F' := funext fun r => funext fun c => propext (e r c)
  rw [← this]; exact h
theorem isFst_uni {P : Pic} {x : Int64} {b : Bool} {G G' : Int64} (h : isFst P x b G) (h' : isFst P x b G') : G = G' := by
  refine grd_uni h.1 h'.1 (fun r c q => ?_)
  by_cases hp : zc (fP P) r c
  · rw [h.2 r c hp, h'.2 r c hp]
  · by_cases hb : r < nR P ∧ c < nC P
    · exact absurd ⟨hb, hp⟩ q
    · exact ⟨fun z => absurd (h.1.1.1 r c z) hb, fun z => absurd (h'.1.1.1 r c z) hb⟩
theorem findOutermost_code {μ : Mem} {k : Nat} {P : Pic} (ok : okP P) (h : CP μ k P) (hk : k ∉ [6, 12]) (b : Bool) :
    (∃ μ', F_X2_findOutermost k (i3 (b2 b)) μ = rI (i3 1) μ' ∧ fr [6, 12] μ μ' ∧ isFst P (fX P) b (μ'.2.1 6 1)) ∨
    (∃ μ', F_X2_findOutermost k (i3 (b2 b)) μ = rI (i3 0) μ' ∧ fr [6, 12] μ μ' ∧ ¬ ∃ y, fitP P (fX P) y) := by
  simp only [F_X2_findOutermost, h.2.2.1, h.2.2.2.1]
  rcases build_code ok h hk (m := fP P) (x := fX P) ok.2.2.2.2.1 with ⟨s, t1, t2, t3, t4⟩ | ⟨s, t1, t2, t3⟩
  · left
    obtain ⟨s', g1, g2, g3, g4⟩ := settle_code ok t3.1 (fun r c q => ((t4 r c).mp q).1) b
    rw [t1, cI_k, if_neg (by decide), g1, cV_k, l3_1]
    exact ⟨s', rfl, fr_tr t2 g2, grd_F g3 t4, fun r c q => (g4 r c (fun z => ((t4 r c).mp z).2 q)).trans (t3.2 r c q)⟩
  · right
    rw [t1, cI_k, if_pos (by decide), l3_0]
    exact ⟨s, rfl, t2, t3⟩
/-- y is as x in the pinned cells and ahead of (r, c) -/
def agB (P : Pic) (x : Int64) (r c : Nat) (y : Int64) : Prop := ∀ a d, d < 8 → (zc (fP P) a d ∨ 8 * a + d < 8 * r + c) → (zc y a d ↔ zc x a d)
def nxE (P : Pic) (x : Int64) (r c : Nat) : Prop := ∃ y, fitC P y ∧ agB P x r c y ∧ zc y r c
def aft (P : Pic) (r c : Nat) : CS := fun a d => chg P a d ∧ 8 * r + c < 8 * a + d
/-- G is the next fitting picture behind x -/
def nxt (P : Pic) (x G : Int64) : Prop := ∃ r c, chg P r c ∧ ¬ zc x r c ∧ agB P x r c G ∧ zc G r c ∧ grd P (aft P r c) false G ∧ ∀ a d, chg P a d → ¬ zc x a d → 8 * r + c < 8 * a + d → ¬ nxE P x a d
def nno (P : Pic) (x : Int64) : Prop := ∀ a d, chg P a d → ¬ zc x a d → ¬ nxE P x a d
theorem nxt_nno {P : Pic} {x G : Int64} (h : nxt P x G) : ¬ nno P x := by
  obtain ⟨r, c, h1, h2, h3, h4, h5, h6⟩ := h
  exact fun q => q r c h1 h2 ⟨G, h5.1, h3, h4⟩
theorem nxt_uni {P : Pic} (ok : okP P) {x G G' : Int64} (h : nxt P x G) (h' : nxt P x G') : G = G' := by
  obtain ⟨r, c, h1, h2, h3, h4, h5, h6⟩ := h
  obtain ⟨r', c', h1', h2', h3', h4', h5', h6'⟩ := h'
  have o2 := ok.2.2.2.1
  have e : 8 * r + c = 8 * r' + c' := by
    by_cases hlt : 8 * r + c < 8 * r' + c'
    · exact absurd ⟨G', h5'.1, h3', h4'⟩ (h6 r' c' h1' h2' hlt)
    · by_cases hgt : 8 * r' + c' < 8 * r + c
      · exact absurd ⟨G, h5.1, h3, h4⟩ (h6' r c h1 h2 hgt)
      · omega
  have b1 := h1.1
  have b2 := h1'.1
  have er : r = r' := by omega
  have ec : c = c' := by omega
  subst er ec
  refine grd_uni h5 h5' (fun a d q => ?_)
  by_cases hd : d < 8
  · by_cases hp : zc (fP P) a d ∨ 8 * a + d < 8 * r + c
    · rw [h3 a d hd hp, h3' a d hd hp]
    · by_cases hb : a < nR P ∧ d < nC P
      · have : 8 * a + d = 8 * r + c := by
          by_cases hlt : 8 * r + c < 8 * a + d
          · exact absurd ⟨⟨hb, fun z => hp (Or.inl z)⟩, hlt⟩ q
          · have : ¬ 8 * a + d < 8 * r + c := fun z => hp (Or.inr z)
            omega
        have ea : a = r := by omega
        have ed : d = c := by omega
        subst ea ed
        exact ⟨fun _ => h4', fun _ => h4⟩
      · exact ⟨fun z => absurd (h5.1.1 a d z) hb, fun z => absurd (h5'.1.1 a d z) hb⟩
  · exact ⟨fun z => absurd z.2.1 hd, fun z => absurd z.2.1 hd⟩
theorem nxt_fit {P : Pic} {x x0 G : Int64} (h : nxt P x G) (hx : ∀ r c, zc (fP P) r c → (zc x r c ↔ zc x0 r c)) : fitP P x0 G := by
  obtain ⟨r, c, h1, h2, h3, h4, h5, h6⟩ := h
  exact ⟨h5.1, fun a d q => (h3 a d q.2.1 (Or.inl q)).trans (hx a d q)⟩
/-- a loop that counts down -/
theorem loop_dn {σ : Type} (L : Nat → Nat → σ → Out) (P : Nat → σ → Prop) (Q : Out → Prop) (h0 : ∀ n s, P 0 s → Q (L (n + 1) 0 s))
    (h1 : ∀ n m s, P (m + 1) s → (∃ s', P m s' ∧ L (n + 1) (m + 1) s = L n m s') ∨ Q (L (n + 1) (m + 1) s)) : ∀ n m s, m < n → P m s → Q (L n m s) := by
  intro n
  induction n with
  | zero => intro m s h _; omega
  | succ n ih =>
    intro m s hm hp
    cases m with
    | zero => exact h0 n s hp
    | succ m =>
      rcases h1 n m s hp with ⟨s', h5, h6⟩ | h7
      · rw [h6]; exact ih m s' (by omega) h5
      · exact h7
theorem bvm1 {k : Nat} (hk : k < 64) (i : Nat) (hi : i < 64) : tb (bv k - 1) i = decide (i < k) := by
  have h : ∀ (k i : Fin 64), tb (bv k.val - 1) i.val = decide (i.val < k.val) := by decide +kernel
  exact h ⟨k, hk⟩ ⟨i, hi⟩
theorem zc_upto {p : Int64} {r c : Nat} (hr : r < 6) (hc : c < 8) (a d : Nat) : zc ((p ||| bv (8 * r + c)) ||| (bv (8 * r + c) - 1)) a d ↔ zc p a d ∨ (d < 8 ∧ 8 * a + d ≤ 8 * r + c) := by
  have hm : zc (bv (8 * r + c) - 1) a d ↔ d < 8 ∧ 8 * a + d < 8 * r + c := by
    constructor
    · rintro ⟨q1, q2, q3⟩
      rw [bvm1 (by omega) _ (by omega), decide_eq_true_eq] at q3
      exact ⟨q2, q3⟩
    · rintro ⟨q2, q3⟩
      refine ⟨by omega, q2, ?_⟩
      rw [bvm1 (by omega) _ (by omega), decide_eq_true_eq]
      exact q3
  rw [zc_or, zc_or, zc_bv (by omega), hm]
  constructor
  · rintro ((q | q) | q)
    · exact Or.inl q
    · exact Or.inr (by omega)
    · exact Or.inr (by omega)
  · rintro (q | q)
    · exact Or.inl (Or.inl q)
    · by_cases e : 8 * a + d = 8 * r + c
      · exact Or.inl (Or.inr ⟨q.1, e⟩)
      · exact Or.inr ⟨q.1, by omega⟩
theorem findBehind_code {μ : Mem} {k : Nat} {P : Pic} (ok : okP P) (h : CP μ k P) (hk : k ∉ [6, 12]) :
    (∃ μ', F_X2_findBehind k μ = rI (i3 1) μ' ∧ fr [6, 12] μ μ' ∧ nxt P (fX P) (μ'.2.1 6 1)) ∨ (∃ μ', F_X2_findBehind k μ = rI (i3 0) μ' ∧ fr [6, 12] μ μ' ∧ nno P (fX P)) := by
  have o1 := ok.2.1
  have o2 := ok.2.2.2.1
  simp only [F_X2_findBehind, board_code h, cJ_k, lt_k, h.2.2.1, h.2.2.2.1]
  have hfa : ∀ r c, zc ((bdI (nR P) (nC P) &&& (fP P ^^^ (-1 : Int64))) &&& (fX P ^^^ (-1 : Int64))) r c ↔ chg P r c ∧ ¬ zc (fX P) r c := fun r c => by
    rw [zc_rem, zc_rem, zc_bd o1 o2]; exact Iff.rfl
  generalize (bdI (nR P) (nC P) &&& (fP P ^^^ (-1 : Int64))) &&& (fX P ^^^ (-1 : Int64)) = fa at hfa
  rw [show (47 : Int32) = i3 (((48 : Nat) : Int) - 1) from l3_47]
  refine loop_dn (σ := Mem) (fun n m s => f_X2_findBehind_27 k n fa (i3 ((m : Int) - 1)) s) (fun m s => m ≤ 48 ∧ fr [6, 12] μ s ∧ ∀ a d, chg P a d → ¬ zc (fX P) a d → m ≤ 8 * a + d → ¬ nxE P (fX P) a d)
    (fun o => (∃ μ', o = rI (i3 1) μ' ∧ fr [6, 12] μ μ' ∧ nxt P (fX P) (μ'.2.1 6 1)) ∨ (∃ μ', o = rI (i3 0) μ' ∧ fr [6, 12] μ μ' ∧ nno P (fX P))) ?_ ?_ BIG 48 μ (by unfold BIG; omega) ⟨by omega, fr_rf _ _, fun a d q1 q2 q3 => by have := q1.1; omega⟩
  · rintro n s ⟨-, q1, q2⟩
    right
    simp only [f_X2_findBehind_27, l3_0]
    rw [if_pos (lt3 (by omega))]
    exact ⟨s, rfl, q1, fun a d z1 z2 => q2 a d z1 z2 (by omega)⟩
  · rintro n m s ⟨q0, q1, q2⟩
    have hP := CP_fr h q1 hk
    have em : ((m + 1 : Nat) : Int) - 1 = ((m : Nat) : Int) := by omega
    have e8 : 8 * (m / 8) + m % 8 = m := by omega
    have hbv : shlL (1 : Int64) (i3 (m : Int)) = bv (8 * (m / 8) + m % 8) := by rw [e8]; rfl
    have r8 : m / 8 < 8 := by omega
    have c8 : m % 8 < 8 := by omega
    simp only [f_X2_findBehind_27, em, hbv, lt_k, dec3, bit_test0 r8 c8, hP.2.2.1, hP.2.2.2.1, l3_0]
    rw [if_neg (nlt3 (by omega))]
    by_cases hz : zc fa (m / 8) (m % 8)
    · rw [if_pos hz.2.2]
      have hch := (hfa _ _).mp hz
      have hx : ∀ r c, zc (fX P ||| bv (8 * (m / 8) + m % 8)) r c → r < nR P ∧ c < nC P := by
        intro r c q
        rw [zc_or, zc_bv (by omega)] at q
        rcases q with q | q
        · exact ok.2.2.2.2.1 r c q
        · have := hch.1.1
          omega
      have hag : ∀ y, (∀ a d, zc ((fP P ||| bv (8 * (m / 8) + m % 8)) ||| (bv (8 * (m / 8) + m % 8) - 1)) a d → (zc y a d ↔ zc (fX P ||| bv (8 * (m / 8) + m % 8)) a d)) ↔ agB P (fX P) (m / 8) (m % 8) y ∧ zc y (m / 8) (m % 8) := by
        intro y
        constructor
        · intro q
          refine ⟨fun a d hd z => ?_, ?_⟩
          · have h2 : ¬ (d < 8 ∧ 8 * a + d = 8 * (m / 8) + m % 8) := by
              rintro ⟨z1, z2⟩
              rcases z with z | z
              · have ea : a = m / 8 := by omega
                have ed : d = m % 8 := by omega
                subst ea ed
                exact hch.1.2 z
              · omega
            rw [q a d ((zc_upto (by omega) c8 a d).mpr (z.imp id (fun w => ⟨hd, by omega⟩))), zc_or, zc_bv (by omega)]
            exact ⟨fun w => w.resolve_right h2, Or.inl⟩
          · exact (q _ _ ((zc_upto (by omega) c8 _ _).mpr (Or.inr ⟨c8, Nat.le_refl _⟩))).mpr ((zc_or _ _ _ _).mpr (Or.inr ((zc_bv (by omega) _ _).mpr ⟨c8, rfl⟩)))
        · rintro ⟨q1, q2⟩ a d z
          rw [zc_upto (by omega) c8] at z
          rw [zc_or, zc_bv (by omega)]
          by_cases e : d < 8 ∧ 8 * a + d = 8 * (m / 8) + m % 8
          · have ea : a = m / 8 := by omega
            have ed : d = m % 8 := by omega
            subst ea ed
            exact ⟨fun _ => Or.inr e, fun _ => q2⟩
          · by_cases hd : d < 8
            · rw [q1 a d hd (z.imp id (fun w => by omega))]
              exact ⟨Or.inl, fun w => w.resolve_right e⟩
            · exact ⟨fun w => absurd w.2.1 hd, fun w => w.elim (fun v => absurd v.2.1 hd) (fun v => absurd v.1 hd)⟩
      rcases build_code ok hP hk (m := (fP P ||| bv (8 * (m / 8) + m % 8)) ||| (bv (8 * (m / 8) + m % 8) - 1)) (x := fX P ||| bv (8 * (m / 8) + m % 8)) hx with ⟨s', t1, t2, t3, t4⟩ | ⟨s', t1, t2, t3⟩
      · right; left
        obtain ⟨s'', g1, g2, g3, g4⟩ := settle_code ok t3.1 (fun r c q => ((t4 r c).mp q).1) false
        rw [show i3 (b2 false) = i3 0 from rfl] at g1
        rw [t1, cI_k, if_neg (by decide), g1, cV_k, l3_1]
        have hG := (hag (s''.2.1 6 1)).mp (fun a d z => (g4 a d (fun w => ((t4 a d).mp w).2 z)).trans (t3.2 a d z))
        refine ⟨s'', rfl, fr_tr q1 (fr_tr t2 g2), m / 8, m % 8, hch.1, hch.2, hG.1, hG.2, grd_F g3 (fun a d => ?_), fun a d z1 z2 z3 => q2 a d z1 z2 (by omega)⟩
        rw [t4, zc_upto (by omega) c8]
        constructor
        · rintro ⟨w1, w2⟩
          refine ⟨⟨w1, fun w => w2 (Or.inl w)⟩, ?_⟩
          have : ¬ (d < 8 ∧ 8 * a + d ≤ 8 * (m / 8) + m % 8) := fun w => w2 (Or.inr w)
          omega
        · rintro ⟨⟨w1, w2⟩, w3⟩
          exact ⟨w1, fun w => w.elim w2 (fun v => by omega)⟩
      · left
        rw [t1, cI_k, if_pos (by decide)]
        refine ⟨s', ⟨by omega, fr_tr q1 t2, fun a d z1 z2 z3 => ?_⟩, rfl⟩
        by_cases e : 8 * a + d = m
        · have := z1.1
          have ea : a = m / 8 := by omega
          have ed : d = m % 8 := by omega
          subst ea ed
          rintro ⟨y, y1, y2, y3⟩
          exact t3 ⟨y, y1, (hag y).mpr ⟨y2, y3⟩⟩
        · exact q2 a d z1 z2 (by omega)
    · rw [if_neg (fun w => hz ⟨r8, c8, w⟩)]
      left
      refine ⟨s, ⟨by omega, q1, fun a d z1 z2 z3 => ?_⟩, rfl⟩
      by_cases e : 8 * a + d = m
      · have := z1.1
        have ea : a = m / 8 := by omega
        have ed : d = m % 8 := by omega
        subst ea ed
        exact absurd ((hfa _ _).mpr ⟨z1, z2⟩) hz
      · exact q2 a d z1 z2 (by omega)
theorem advance_code {μ : Mem} {k : Nat} {P : Pic} (ok : okP P) (h : CP μ k P) (hk : k ∉ [6, 12]) (hK : fitC P (μ.2.1 6 1)) :
    (∃ μ', F_X2_advance k μ = rI (i3 1) μ' ∧ fr [6, 12] μ μ' ∧ nxt P (μ.2.1 6 1) (μ'.2.1 6 1)) ∨ (∃ μ', F_X2_advance k μ = rI (i3 0) μ' ∧ fr [6, 12] μ μ' ∧ nno P (μ.2.1 6 1)) := by
  have o1 := ok.2.1
  have o2 := ok.2.2.2.1
  simp only [F_X2_advance, board_code h, cJ_k, lt_k, h.2.2.2.1]
  have hfa : ∀ r c, zc (bdI (nR P) (nC P) &&& (fP P ^^^ (-1 : Int64))) r c ↔ chg P r c := fun r c => by
    rw [zc_rem, zc_bd o1 o2]; exact Iff.rfl
  generalize bdI (nR P) (nC P) &&& (fP P ^^^ (-1 : Int64)) = fa at hfa
  generalize hKK : μ.2.1 6 1 = K at *
  have s0 : fr [6, 12] μ (sJ μ 6 2 0) := fr_sJ (by simp)
  rw [show (47 : Int32) = i3 (((48 : Nat) : Int) - 1) from l3_47]
  refine loop_dn (σ := Mem) (fun n m s => f_X2_advance_23 k n fa (i3 ((m : Int) - 1)) s)
    (fun m s => m ≤ 48 ∧ fr [6, 12] μ s ∧ s.2.1 6 1 = K ∧ (∀ a d, zc (s.2.1 6 2) a d ↔ chg P a d ∧ m ≤ 8 * a + d) ∧ ∀ a d, chg P a d → ¬ zc K a d → m ≤ 8 * a + d → ¬ nxE P K a d)
    (fun o => (∃ μ', o = rI (i3 1) μ' ∧ fr [6, 12] μ μ' ∧ nxt P K (μ'.2.1 6 1)) ∨ (∃ μ', o = rI (i3 0) μ' ∧ fr [6, 12] μ μ' ∧ nno P K)) ?_ ?_ BIG 48 (sJ μ 6 2 0) (by unfold BIG; omega)
    ⟨by omega, s0, by rw [sJ_21, up2_j _ _ _ _ _ (by decide), hKK], fun a d => by
      rw [sJ_21, up2_same]
      exact ⟨fun q => absurd q (zc_0 _ _), fun q => by have := q.1.1; omega⟩, fun a d q1 q2 q3 => by have := q1.1; omega⟩
  · rintro n s ⟨-, q1, -, -, q2⟩
    right
    simp only [f_X2_advance_23, l3_0]
    rw [if_pos (lt3 (by omega))]
    exact ⟨s, rfl, q1, fun a d z1 z2 => q2 a d z1 z2 (by omega)⟩
  · rintro n m s ⟨q0, q1, q2, q3, q4⟩
    have em : ((m + 1 : Nat) : Int) - 1 = ((m : Nat) : Int) := by omega
    have e8 : 8 * (m / 8) + m % 8 = m := by omega
    have hbv : shlL (1 : Int64) (i3 (m : Int)) = bv (8 * (m / 8) + m % 8) := by rw [e8]; rfl
    have r8 : m / 8 < 8 := by omega
    have c8 : m % 8 < 8 := by omega
    -- the place is passed
    have pass : ∀ s', fr [6, 12] μ s' → s'.2.1 6 1 = K → s'.2.1 6 2 = s.2.1 6 2 → zc fa (m / 8) (m % 8) → (zc K (m / 8) (m % 8) ∨ ¬ nxE P K (m / 8) (m % 8)) →
        (m ≤ 48 ∧ fr [6, 12] μ (sJ s' 6 2 (s'.2.1 6 2 ||| bv (8 * (m / 8) + m % 8))) ∧ (sJ s' 6 2 (s'.2.1 6 2 ||| bv (8 * (m / 8) + m % 8))).2.1 6 1 = K ∧
        (∀ a d, zc ((sJ s' 6 2 (s'.2.1 6 2 ||| bv (8 * (m / 8) + m % 8))).2.1 6 2) a d ↔ chg P a d ∧ m ≤ 8 * a + d) ∧ ∀ a d, chg P a d → ¬ zc K a d → m ≤ 8 * a + d → ¬ nxE P K a d) := by
      intro s' w1 w2 w3 w4 w5
      refine ⟨by omega, fr_tr w1 (fr_sJ (by simp)), by rw [sJ_21, up2_j _ _ _ _ _ (by decide), w2], fun a d => ?_, fun a d z1 z2 z3 => ?_⟩
      · rw [sJ_21, up2_same, w3, zc_or, q3, zc_bv (by omega)]
        constructor
        · rintro (⟨z1, z2⟩ | z)
          · exact ⟨z1, by omega⟩
          · have ea : a = m / 8 := by omega
            have ed : d = m % 8 := by omega
            subst ea ed
            exact ⟨(hfa _ _).mp w4, by omega⟩
        · rintro ⟨z1, z2⟩
          have := z1.1
          by_cases e : 8 * a + d = m
          · exact Or.inr (by omega)
          · exact Or.inl ⟨z1, by omega⟩
      · by_cases e : 8 * a + d = m
        · have := z1.1
          have ea : a = m / 8 := by omega
          have ed : d = m % 8 := by omega
          subst ea ed
          exact w5.resolve_left z2
        · exact q4 a d z1 z2 (by omega)
    simp only [f_X2_advance_23, em, hbv, lt_k, dec3, bit_test0 r8 c8, l3_0, f_X2_advance_71, q2]
    rw [if_neg (nlt3 (by omega))]
    by_cases hz : zc fa (m / 8) (m % 8)
    · rw [if_pos hz.2.2]
      have hch := (hfa _ _).mp hz
      by_cases hkz : zc K (m / 8) (m % 8)
      · rw [if_pos hkz.2.2]
        exact Or.inl ⟨_, pass s q1 q2 rfl hz (Or.inl hkz), rfl⟩
      · rw [if_neg (fun w => hkz ⟨r8, c8, w⟩)]
        have hFb : brd (s.2.1 6 2) := (brd_iff _).mpr (fun r c q => by have := ((q3 r c).mp q).1.1; omega)
        have hcc := change_code (μ := s) (by rw [q2]; exact fit_brd ok hK) hFb (r := m / 8) (c := m % 8) (by omega) (by have := hch.1; omega)
        rw [e8, chT, chF, q2] at hcc
        rcases hcc with ⟨s', t1, t2, t3, t4, t5, t6, t7⟩ | ⟨s', t1, t2, t3⟩
        · right; left
          have hfit : fitC P (s'.2.1 6 1) := by
            refine ⟨fun r c q => ?_, fun a ha => (t6 a ha).trans (hK.2.1 a ha), fun a ha => (t7 a ha).trans (hK.2.2 a ha)⟩
            by_cases e : r = m / 8 ∧ c = m % 8
            · rw [e.1, e.2]; exact hch.1
            · by_cases hf : zc (s.2.1 6 2) r c
              · exact ((q3 r c).mp hf).1.1
              · exact hK.1 r c ((t4 r c e hf).mp q)
          obtain ⟨s'', g1, g2, g3, g4⟩ := settle_code ok hfit (fun r c q => by rw [t3] at q; exact ((q3 r c).mp q).1.1) false
          rw [show i3 (b2 false) = i3 0 from rfl] at g1
          rw [t1, cI_k, if_neg (by decide), g1, cV_k, l3_1]
          rw [t3] at g3 g4
          have nin : ¬ zc (s.2.1 6 2) (m / 8) (m % 8) := fun w => by have := ((q3 _ _).mp w).2; omega
          refine ⟨s'', rfl, fr_tr q1 (fr_tr t2 g2), m / 8, m % 8, hch, hkz, fun a d hd z => ?_, (g4 _ _ nin).mpr (t5.mpr hkz), grd_F g3 (fun a d => ?_), fun a d z1 z2 z3 => q4 a d z1 z2 (by omega)⟩
          · have nf : ¬ zc (s.2.1 6 2) a d := fun w => by
              have := (q3 a d).mp w
              rcases z with z | z
              · exact this.1.2 z
              · omega
            have ne : ¬ (a = m / 8 ∧ d = m % 8) := by
              rintro ⟨ea, ed⟩
              rcases z with z | z
              · rw [ea, ed] at z; exact hch.2 z
              · omega
            rw [g4 a d nf, t4 a d ne nf]
          · rw [q3]
            exact ⟨fun w => ⟨w.1, by omega⟩, fun w => ⟨w.1, by have := w.2; omega⟩⟩
        · left
          rw [t1, cI_k, if_pos (by decide)]
          refine ⟨_, pass s' (fr_tr q1 (fr_w t2 (by simp))) (by rw [fr_2 t2 (by simp), q2]) (by rw [fr_2 t2 (by simp)]) hz (Or.inr ?_), rfl⟩
          rintro ⟨y, y1, y2, y3⟩
          have := t3 y (fit_brd ok y1) (fun a ha => (y1.2.1 a ha).trans (hK.2.1 a ha).symm) (fun a ha => (y1.2.2 a ha).trans (hK.2.2 a ha).symm) (fun a d z1 z2 => by
            by_cases hd : d < 8
            · by_cases hb : a < nR P ∧ d < nC P
              · by_cases hp : zc (fP P) a d
                · exact y2 a d hd (Or.inl hp)
                · refine y2 a d hd (Or.inr ?_)
                  have : ¬ m + 1 ≤ 8 * a + d := fun w => z2 ((q3 a d).mpr ⟨⟨hb, hp⟩, w⟩)
                  have : ¬ 8 * a + d = m := fun w => z1 (by omega)
                  omega
              · exact ⟨fun w => absurd (y1.1 a d w) hb, fun w => absurd (hK.1 a d w) hb⟩
            · exact ⟨fun w => absurd w.2.1 hd, fun w => absurd w.2.1 hd⟩)
          exact hkz (this.mp y3)
    · rw [if_neg (fun w => hz ⟨r8, c8, w⟩)]
      left
      have hno : ∀ a d, chg P a d → ¬ 8 * a + d = m := by
        intro a d z1 e
        have := z1.1
        have ea : a = m / 8 := by omega
        have ed : d = m % 8 := by omega
        subst ea ed
        exact hz ((hfa _ _).mpr z1)
      refine ⟨s, ⟨by omega, q1, q2, fun a d => ?_, fun a d z1 z2 z3 => q4 a d z1 z2 (by have := hno a d z1; omega)⟩, rfl⟩
      rw [q3]
      exact ⟨fun w => ⟨w.1, by omega⟩, fun w => ⟨w.1, by have := hno a d w.1; omega⟩⟩
/-- the cell is the same in all fitting pictures -/
def sureC (P : Pic) (x : Int64) (r c : Nat) : Prop := ∀ y y', fitP P x y → fitP P x y' → (zc y r c ↔ zc y' r c)
theorem sureCells_code {μ : Mem} {k : Nat} {P : Pic} (ok : okP P) (h : CP μ k P) (hk : k ∉ [6, 12]) :
    (∃ μ' y, F_X2_sureCells k μ = rJ y μ' ∧ fr [6, 12] μ μ' ∧ fitP P (fX P) (μ'.2.1 6 1) ∧ ∀ r c, zc y r c ↔ (r < nR P ∧ c < nC P) ∧ sureC P (fX P) r c) ∨
    (∃ μ', F_X2_sureCells k μ = rJ 0 μ' ∧ fr [6, 12] μ μ' ∧ ¬ ∃ y, fitP P (fX P) y) := by
  have o1 := ok.2.1
  have o2 := ok.2.2.2.1
  simp only [F_X2_sureCells, h.2.2.1, h.2.2.2.1]
  rcases build_code ok h hk (m := fP P) (x := fX P) ok.2.2.2.2.1 with ⟨s, t1, t2, t3, t4⟩ | ⟨s, t1, t2, t3⟩
  · left
    have hP := CP_fr h t2 hk
    rw [t1, cI_k, if_neg (by decide), board_code hP, cJ_k, show (0 : Int32) = i3 ((0 : Nat) : Int) from l3_0]
    refine loop_st (σ := Int64 × Mem) (fun n i z => f_X2_sureCells_26 k n z.1 (i3 i) z.2)
      (fun i z => fr [6, 12] μ z.2 ∧ fitP P (fX P) (z.2.2.1 6 1) ∧ (∀ r c, zc (z.2.2.1 6 2) r c ↔ chg P r c) ∧ ∀ r c, zc z.1 r c ↔ (r < nR P ∧ c < nC P) ∧ (chg P r c → 8 * r + c < i → sureC P (fX P) r c))
      (fun o => ∃ μ' y, o = rJ y μ' ∧ fr [6, 12] μ μ' ∧ fitP P (fX P) (μ'.2.1 6 1) ∧ ∀ r c, zc y r c ↔ (r < nR P ∧ c < nC P) ∧ sureC P (fX P) r c) 48 ?_ ?_ BIG 0 (bdI (nR P) (nC P), s) (by decide) (BIG_lt (by decide))
      ⟨t2, t3, t4, fun r c => by rw [zc_bd o1 o2]; exact ⟨fun q => ⟨q, fun _ w => by omega⟩, fun q => q.1⟩⟩
    · rintro n ⟨y, s⟩ ⟨q1, q2, q3, q4⟩
      simp only at q1 q2 q3 q4
      simp only [f_X2_sureCells_26, l3_48]
      rw [if_pos (le3 (by omega))]
      refine ⟨s, y, rfl, q1, q2, fun r c => ?_⟩
      rw [q4]
      constructor
      · rintro ⟨z1, z2⟩
        refine ⟨z1, ?_⟩
        by_cases hp : zc (fP P) r c
        · exact fun y y' w1 w2 => (w1.2 r c hp).trans (w2.2 r c hp).symm
        · exact z2 ⟨z1, hp⟩ (by omega)
      · rintro ⟨z1, z2⟩; exact ⟨z1, fun _ _ => z2⟩
    · rintro n i ⟨y, s⟩ hi ⟨q1, q2, q3, q4⟩
      simp only at q1 q2 q3 q4
      left
      have e8 : 8 * (i / 8) + i % 8 = i := by omega
      have hbv : shlL (1 : Int64) (i3 (i : Int)) = bv (8 * (i / 8) + i % 8) := by rw [e8]; rfl
      have r8 : i / 8 < 8 := by omega
      have c8 : i % 8 < 8 := by omega
      simp only [f_X2_sureCells_26, l3_48, hbv, lt_k, inc3, bit_test r8 c8]
      rw [if_neg (nle3 (by omega))]
      by_cases hz : zc (s.2.1 6 2) (i / 8) (i % 8)
      · rw [if_pos hz.2.2]
        have hch := (q3 _ _).mp hz
        have hFb : brd (s.2.1 6 2) := (brd_iff _).mpr (fun r c q => by have := ((q3 r c).mp q).1; omega)
        have hcc := change_code (μ := s) (fit_brd ok q2.1) hFb (r := i / 8) (c := i % 8) (by omega) (by have := hch.1; omega)
        rw [e8] at hcc
        rcases hcc with ⟨s', t1, t2, t3, t4, t5, t6, t7⟩ | ⟨s', t1, t2, t3⟩
        · have hfit : fitP P (fX P) (s'.2.1 6 1) := by
            refine ⟨⟨fun r c q => ?_, fun a ha => (t6 a ha).trans (q2.1.2.1 a ha), fun a ha => (t7 a ha).trans (q2.1.2.2 a ha)⟩, fun r c q => ?_⟩
            · by_cases e : r = i / 8 ∧ c = i % 8
              · rw [e.1, e.2]; exact hch.1
              · by_cases hf : zc (s.2.1 6 2) r c
                · exact ((q3 r c).mp hf).1
                · exact q2.1.1 r c ((t4 r c e hf).mp q)
            · refine (t4 r c (fun e => ?_) (fun w => ((q3 r c).mp w).2 q)).trans (q2.2 r c q)
              rw [e.1, e.2] at q; exact hch.2 q
          rw [t1, cI_k, if_neg (by decide)]
          refine ⟨(_, _), ⟨fr_tr q1 t2, hfit, fun r c => by rw [t3]; exact q3 r c, fun r c => ?_⟩, rfl⟩
          rw [zc_rem, q4, zc_bv (by omega)]
          constructor
          · rintro ⟨⟨z1, z2⟩, z3⟩
            exact ⟨z1, fun w1 w2 => z2 w1 (by omega)⟩
          · rintro ⟨z1, z2⟩
            refine ⟨⟨z1, fun w1 w2 => z2 w1 (by omega)⟩, fun w => ?_⟩
            have er : r = i / 8 := by omega
            have ec : c = i % 8 := by omega
            subst er ec
            have := z2 hch (by omega) _ _ q2 hfit
            rw [t5] at this
            by_cases hh : zc (s.2.1 6 1) (i / 8) (i % 8)
            · exact (this.mp hh) hh
            · exact hh (this.mpr hh)
        · rw [t1, cI_k, if_pos (by decide)]
          have k1 : s'.2.1 6 1 = s.2.1 6 1 := by rw [fr_2 t2 (by simp)]
          have k2 : s'.2.1 6 2 = s.2.1 6 2 := by rw [fr_2 t2 (by simp)]
          refine ⟨(y, s'), ⟨fr_tr q1 (fr_w t2 (by simp)), by rw [k1]; exact q2, fun r c => by rw [k2]; exact q3 r c, fun r c => ?_⟩, rfl⟩
          show zc y r c ↔ _
          rw [q4]
          refine ⟨fun ⟨z1, z2⟩ => ⟨z1, fun w1 w2 => ?_⟩, fun ⟨z1, z2⟩ => ⟨z1, fun w1 w2 => z2 w1 (by omega)⟩⟩
          by_cases e : 8 * r + c = i
          · have := w1.1
            have er : r = i / 8 := by omega
            have ec : c = i % 8 := by omega
            subst er ec
            have one : ∀ z, fitP P (fX P) z → (zc z (i / 8) (i % 8) ↔ zc (s.2.1 6 1) (i / 8) (i % 8)) := fun z w => t3 z (fit_brd ok w.1) (fun a ha => (w.1.2.1 a ha).trans (q2.1.2.1 a ha).symm) (fun a ha => (w.1.2.2 a ha).trans (q2.1.2.2 a ha).symm) (fun a d _ v2 => by
              by_cases hp : zc (fP P) a d
              · exact (w.2 a d hp).trans (q2.2 a d hp).symm
              · have hb : ¬ (a < nR P ∧ d < nC P) := fun v => v2 ((q3 a d).mpr ⟨v, hp⟩)
                exact ⟨fun v => absurd (w.1.1 a d v) hb, fun v => absurd (q2.1.1 a d v) hb⟩)
            exact fun z z' v1 v2 => (one z v1).trans (one z' v2).symm
          · exact z2 w1 (by omega)
      · rw [if_neg (fun w => hz ⟨r8, c8, w⟩)]
        refine ⟨(y, s), ⟨q1, q2, q3, fun r c => ?_⟩, rfl⟩
        show zc y r c ↔ _
        rw [q4]
        refine ⟨fun ⟨z1, z2⟩ => ⟨z1, fun w1 w2 => z2 w1 ?_⟩, fun ⟨z1, z2⟩ => ⟨z1, fun w1 w2 => z2 w1 (by omega)⟩⟩
        by_cases e : 8 * r + c = i
        · have := w1.1
          have er : r = i / 8 := by omega
          have ec : c = i % 8 := by omega
          subst er ec
          exact absurd ((q3 _ _).mpr w1) hz
        · omega
  · right
    rw [t1, cI_k, if_pos (by decide)]
    exact ⟨s, rfl, t2, t3⟩
