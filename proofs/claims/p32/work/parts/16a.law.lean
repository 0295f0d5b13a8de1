def F_L_at (a0 : Int64) (a1 : Int32) (a2 : Int32) (μ : Mem) : Out := if a1 < 0 then (rI (0 : Int32) μ) else (if (5 : Int32) < a1 then (rI (0 : Int32) μ) else (if a2 < 0 then (rI (0 : Int32) μ) else (if a2 ≤ (5 : Int32) then (rI ((Int64.toInt32 (shrL a0 (((6 : Int32) * a1) + a2))) &&& (1 : Int32)) μ) else (rI (0 : Int32) μ))))
def Γ_L_at : Gam := fun as μ r μ' => ∃ (a0 : Int64) (a1 : Int32) (a2 : Int32), as = [.long a0, .int a1, .int a2] ∧ F_L_at a0 a1 a2 μ = some (r, μ')
def mL_at : MI := (cL_at, [], [], [], [], [], [], (29, none), (some .int))
set_option maxHeartbeats 4000000 in
theorem b_L_at : ∀ as μ r μ', Γ_L_at as μ r μ' → (elvL as).length ≤ 4 ∧ G mL_at (Qe r μ') 0 (elv as 4) [] μ (rc r 0) := by
  intro as μ r μ' h
  obtain ⟨a0, a1, a2, rfl, h⟩ := h
  refine ⟨Nat.le_of_ble_eq_true rfl, ?_⟩
  show G mL_at (Qe r μ') 0 [some (.long a0), none, some (.int a1), some (.int a2)] [] μ (rc r 0)
  unfold F_L_at at h
  have hb9 : rc r 0 ≤ rc r 0 := Nat.le_refl _
  refine e_iload_n dL_at_0 rfl ?_
  refine e_if_lt (tgt := 18) dL_at_1 rfl (fun hc1 => ?_) (fun hc1 => ?_)
  · rw [if_pos hc1] at h
    refine e_iconst dL_at_18 ci_0 ?_
    refine e_goto (tgt := 33) dL_at_19 rfl ?_
    exact e_iret .int dL_at_33 rfl rfl (ret_eq h)
  · rw [if_neg hc1] at h
    refine e_iload_n dL_at_4 rfl ?_
    refine e_iconst dL_at_5 ci_5 ?_
    refine e_ic_gt (tgt := 18) dL_at_6 rfl (fun hc2 => ?_) (fun hc2 => ?_)
    · rw [if_pos hc2] at h
      refine e_iconst dL_at_18 ci_0 ?_
      refine e_goto (tgt := 33) dL_at_19 rfl ?_
      exact e_iret .int dL_at_33 rfl rfl (ret_eq h)
    · rw [if_neg hc2] at h
      refine e_iload_n dL_at_9 rfl ?_
      refine e_if_lt (tgt := 18) dL_at_10 rfl (fun hc3 => ?_) (fun hc3 => ?_)
      · rw [if_pos hc3] at h
        refine e_iconst dL_at_18 ci_0 ?_
        refine e_goto (tgt := 33) dL_at_19 rfl ?_
        exact e_iret .int dL_at_33 rfl rfl (ret_eq h)
      · rw [if_neg hc3] at h
        refine e_iload_n dL_at_13 rfl ?_
        refine e_iconst dL_at_14 ci_5 ?_
        refine e_ic_le (tgt := 22) dL_at_15 rfl (fun hc4 => ?_) (fun hc4 => ?_)
        · rw [if_pos hc4] at h
          refine e_lload_n dL_at_22 rfl ?_
          refine e_bipush dL_at_23 cb_6 ?_
          refine e_iload_n dL_at_25 rfl ?_
          refine e_imul dL_at_26 ?_
          refine e_iload_n dL_at_27 rfl ?_
          refine e_iadd dL_at_28 ?_
          refine e_lshr dL_at_29 ?_
          refine e_l2i dL_at_30 ?_
          refine e_iconst dL_at_31 ci_1 ?_
          refine e_iand dL_at_32 ?_
          exact e_iret .int dL_at_33 rfl rfl (ret_eq h)
        · rw [if_neg hc4] at h
          refine e_iconst dL_at_18 ci_0 ?_
          refine e_goto (tgt := 33) dL_at_19 rfl ?_
          exact e_iret .int dL_at_33 rfl rfl (ret_eq h)
set_option maxRecDepth 20000 in
theorem ok_L_at (l : Launch) (hl : l.stackTraces = false) : MOK l yL_at.cls 1 0 mL_at := ⟨lk_all (nil_all), fun ix ci j h => lk_all (P := fun ix q => FldOK yL_at.cls ix q.1 q.2) (nil_all) ix (ci, j) h, lk_all (nil_all), lk_all (nil_all), lk_all (nil_all)⟩
theorem hd_L_at : CallHd yL_at 3 := ⟨by decide +kernel, by decide +kernel, by decide +kernel⟩
theorem sc_L_at (l : Launch) (hl : l.stackTraces = false) : SCon l yL_at cL_at 4 (some .int) 1 0 0 Γ_L_at := scon_of mL_at cls_ok hl (by decide +kernel) rfl rfl (ok_L_at l hl) rfl rfl b_L_at
def f_L_bits_18 (k5 : Int32 → Int64 → Int32 → Mem → Out) : Nat → Int32 → Int64 → Int32 → Int32 → Mem → Out
  | 0, _, _, _, _, _ => none
  | n + 1, x1, x2, x4, x5, μ => cI (F_X7_about (1 : Int32) μ) (fun v11 μ8 => if v11 ≤ x5 then (lt (x4 + (1 : Int32)) (fun v13 => k5 x1 x2 v13 μ8)) else (cI (F_X7_cell x4 x5 x1 μ8) (fun v18 μ15 => lt (x2 ||| (shlL (Int32.toInt64 v18) (((6 : Int32) * x4) + x5))) (fun v19 => lt (x5 + (1 : Int32)) (fun v20 => f_L_bits_18 k5 n x1 v19 x4 v20 μ15)))))
def f_L_bits_5 : Nat → Int32 → Int64 → Int32 → Mem → Out
  | 0, _, _, _, _ => none
  | n + 1, x1, x2, x4, μ => cI (F_X7_about (0 : Int32) μ) (fun v5 μ2 => if v5 ≤ x4 then (rJ x2 μ2) else (f_L_bits_18 (f_L_bits_5 n) BIG x1 x2 x4 (0 : Int32) μ2))
def F_L_bits (a1 : Int32) (μ : Mem) : Out := f_L_bits_5 BIG a1 (0 : Int64) (0 : Int32) μ
def Γ_L_bits : Gam := fun as μ r μ' => ∃ (a1 : Int32), as = [.ref 0, .int a1] ∧ F_L_bits a1 μ = some (r, μ')
def mL_bits : MI := (cL_bits, [(27, (1, 1, 1, 5, Γ_X7_about)), (30, (1, 3, 1, 5, Γ_X7_cell))], [], [], [], [], [], (29, none), (some .long))
set_option maxHeartbeats 4000000 in
theorem g_L_bits_18 {r : Res} {μ' : Mem} {k5 : Int32 → Int64 → Int32 → Mem → Out} (hk5 : ∀ (x1 : Int32) (x2 : Int64) (x4 : Int32), ∀ (μ : Mem) (b : Nat), rc r 1 ≤ b → k5 x1 x2 x4 μ = some (r, μ') → G mL_bits (Qe r μ') 5 [some (.ref 0), some (.int x1), some (.long x2), none, some (.int x4), none] [] μ b) : ∀ n : Nat, ∀ (x1 : Int32) (x2 : Int64) (x4 : Int32) (x5 : Int32), ∀ (μ : Mem) (b : Nat), rc r 1 ≤ b → f_L_bits_18 k5 n x1 x2 x4 x5 μ = some (r, μ') → G mL_bits (Qe r μ') 18 [some (.ref 0), some (.int x1), some (.long x2), none, some (.int x4), some (.int x5)] [] μ b := by
  intro n
  induction n with
  | zero => intro x1 x2 x4 x5 μ b hb9 h; exact nomatch (show (none : Out) = some _ from h)
  | succ n ih =>
    intro x1 x2 x4 x5 μ b hb9 h
    rw [f_L_bits_18.eq_2] at h
    refine e_iload dL_bits_18 rfl ?_
    refine e_aload_n dL_bits_20 rfl ?_
    refine e_iconst dL_bits_21 ci_1 ?_
    refine cI_go h (fun E9 hc7 hr10 => e_VX [.int (1 : Int32)] [.int x5] dL_bits_22 rfl rfl rfl rfl ⟨Nat.le_of_ble_eq_true rfl, rfl⟩ (Nat.le_of_ble_eq_true rfl) (hbr hr10 hb9 (Nat.le_of_ble_eq_true rfl)) ⟨(1 : Int32), rfl, hc7⟩ rfl ⟨hr10.symm, rfl⟩) (fun v11 μ8 hc7 h => ?_)
    refine e_VI [.int (1 : Int32)] [.int x5] dL_bits_22 rfl rfl rfl rfl ⟨Nat.le_of_ble_eq_true rfl, rfl⟩ (Nat.le_of_ble_eq_true rfl) ⟨(1 : Int32), rfl, hc7⟩ ?_
    refine e_ic_ge (tgt := 56) dL_bits_25 rfl (fun hc12 => ?_) (fun hc12 => ?_)
    · rw [if_pos hc12] at h
      refine e_iincN 4 (1 : Int32) dL_bits_56 rfl ci_1 h (fun y9 => [some (.ref 0), some (.int x1), some (.long x2), none, some (.int y9), some (.int x5)]) (fun _ => rfl) (fun v13 ev13 h => ?_)
      refine e_goto (tgt := 5) dL_bits_59 rfl ?_
      exact e_le (hk5 x1 x2 v13 μ8 _ hb9 h) ⟨rfl, rfl, rfl, rfl, trivial⟩
    · rw [if_neg hc12] at h
      refine e_lload_n dL_bits_28 rfl ?_
      refine e_aload_n dL_bits_29 rfl ?_
      refine e_iload dL_bits_30 rfl ?_
      refine e_iload dL_bits_32 rfl ?_
      refine e_iload_n dL_bits_34 rfl ?_
      refine cI_go h (fun E16 hc14 hr17 => e_VX [.int x4, .int x5, .int x1] [.long x2] dL_bits_35 rfl rfl rfl rfl ⟨Nat.le_of_ble_eq_true rfl, rfl⟩ (Nat.le_of_ble_eq_true rfl) (hbr hr17 hb9 (Nat.le_of_ble_eq_true rfl)) ⟨x4, x5, x1, rfl, hc14⟩ rfl ⟨hr17.symm, rfl⟩) (fun v18 μ15 hc14 h => ?_)
      refine e_VI [.int x4, .int x5, .int x1] [.long x2] dL_bits_35 rfl rfl rfl rfl ⟨Nat.le_of_ble_eq_true rfl, rfl⟩ (Nat.le_of_ble_eq_true rfl) ⟨x4, x5, x1, rfl, hc14⟩ ?_
      refine e_i2l dL_bits_38 ?_
      refine e_bipush dL_bits_39 cb_6 ?_
      refine e_iload dL_bits_41 rfl ?_
      refine e_imul dL_bits_43 ?_
      refine e_iload dL_bits_44 rfl ?_
      refine e_iadd dL_bits_46 ?_
      refine e_lshl dL_bits_47 ?_
      refine e_lor dL_bits_48 ?_
      refine e_naJ h (fun v19 ev19 h => ?_)
      refine e_lstore_nL [some (.ref 0), some (.int x1), some (.long v19), none, some (.int x4), some (.int x5)] dL_bits_49 (Nat.le_of_ble_eq_true rfl) rfl ?_
      refine e_iincN 5 (1 : Int32) dL_bits_50 rfl ci_1 h (fun y9 => [some (.ref 0), some (.int x1), some (.long v19), none, some (.int x4), some (.int y9)]) (fun _ => rfl) (fun v20 ev20 h => ?_)
      refine e_goto (tgt := 18) dL_bits_53 rfl ?_
      exact e_le (ih x1 v19 x4 v20 μ15 _ hb9 h) ⟨rfl, rfl, rfl, rfl, rfl, trivial⟩
set_option maxHeartbeats 4000000 in
theorem g_L_bits_5 {r : Res} {μ' : Mem} : ∀ n : Nat, ∀ (x1 : Int32) (x2 : Int64) (x4 : Int32), ∀ (μ : Mem) (b : Nat), rc r 1 ≤ b → f_L_bits_5 n x1 x2 x4 μ = some (r, μ') → G mL_bits (Qe r μ') 5 [some (.ref 0), some (.int x1), some (.long x2), none, some (.int x4), none] [] μ b := by
  intro n
  induction n with
  | zero => intro x1 x2 x4 μ b hb9 h; exact nomatch (show (none : Out) = some _ from h)
  | succ n ih =>
    intro x1 x2 x4 μ b hb9 h
    rw [f_L_bits_5.eq_2] at h
    refine e_iload dL_bits_5 rfl ?_
    refine e_aload_n dL_bits_7 rfl ?_
    refine e_iconst dL_bits_8 ci_0 ?_
    refine cI_go h (fun E3 hc1 hr4 => e_VX [.int (0 : Int32)] [.int x4] dL_bits_9 rfl rfl rfl rfl ⟨Nat.le_of_ble_eq_true rfl, rfl⟩ (Nat.le_of_ble_eq_true rfl) (hbr hr4 hb9 (Nat.le_of_ble_eq_true rfl)) ⟨(0 : Int32), rfl, hc1⟩ rfl ⟨hr4.symm, rfl⟩) (fun v5 μ2 hc1 h => ?_)
    refine e_VI [.int (0 : Int32)] [.int x4] dL_bits_9 rfl rfl rfl rfl ⟨Nat.le_of_ble_eq_true rfl, rfl⟩ (Nat.le_of_ble_eq_true rfl) ⟨(0 : Int32), rfl, hc1⟩ ?_
    refine e_ic_ge (tgt := 62) dL_bits_12 rfl (fun hc6 => ?_) (fun hc6 => ?_)
    · rw [if_pos hc6] at h
      refine e_lload_n dL_bits_62 rfl ?_
      exact e_lret dL_bits_63 rfl (ret_eq h)
    · rw [if_neg hc6] at h
      refine e_iconst dL_bits_15 ci_0 ?_
      refine e_istoreL [some (.ref 0), some (.int x1), some (.long x2), none, some (.int x4), some (.int (0 : Int32))] dL_bits_16 (Nat.le_of_ble_eq_true rfl) rfl ?_
      exact e_le (g_L_bits_18 ih BIG x1 x2 x4 (0 : Int32) μ2 _ hb9 h) ⟨rfl, rfl, rfl, rfl, rfl, trivial⟩
set_option maxHeartbeats 4000000 in
theorem b_L_bits : ∀ as μ r μ', Γ_L_bits as μ r μ' → (elvL as).length ≤ 6 ∧ G mL_bits (Qe r μ') 0 (elv as 6) [] μ (rc r 1) := by
  intro as μ r μ' h
  obtain ⟨a1, rfl, h⟩ := h
  refine ⟨Nat.le_of_ble_eq_true rfl, ?_⟩
  show G mL_bits (Qe r μ') 0 [some (.ref 0), some (.int a1), none, none, none, none] [] μ (rc r 1)
  unfold F_L_bits at h
  have hb9 : rc r 1 ≤ rc r 1 := Nat.le_refl _
  refine e_lconst (v := (0 : Int64)) dL_bits_0 rfl ?_
  refine e_lstore_nL [some (.ref 0), some (.int a1), some (.long (0 : Int64)), none, none, none] dL_bits_1 (Nat.le_of_ble_eq_true rfl) rfl ?_
  refine e_iconst dL_bits_2 ci_0 ?_
  refine e_istoreL [some (.ref 0), some (.int a1), some (.long (0 : Int64)), none, some (.int (0 : Int32)), none] dL_bits_3 (Nat.le_of_ble_eq_true rfl) rfl ?_
  exact e_le (g_L_bits_5 BIG a1 (0 : Int64) (0 : Int32) μ _ hb9 h) ⟨rfl, rfl, rfl, rfl, trivial⟩
set_option maxRecDepth 20000 in
theorem ok_L_bits (l : Launch) (hl : l.stackTraces = false) : MOK l yL_bits.cls 8 145 mL_bits := ⟨lk_all (List.forall_mem_cons.mpr ⟨⟨yX7_about, cX7_about, 2, (some .int), 6, 90, by decide, by decide, t_1 1 rfl rfl, hd_X7_about, Or.inr (Or.inl ⟨rfl, sc_X7_about l hl, t_1 148 rfl rfl, t_1 145 rfl rfl, t_1 146 rfl rfl, _, rfl, t_1 147 rfl rfl⟩)⟩, List.forall_mem_cons.mpr ⟨⟨yX7_cell, cX7_cell, 6, (some .int), 7, 120, by decide, by decide, t_1 1 rfl rfl, hd_X7_cell, Or.inr (Or.inl ⟨rfl, sc_X7_cell l hl, t_2 119 rfl rfl, t_2 116 rfl rfl, t_2 117 rfl rfl, _, rfl, t_2 118 rfl rfl⟩)⟩, nil_all⟩⟩), fun ix ci j h => lk_all (P := fun ix q => FldOK yL_bits.cls ix q.1 q.2) (nil_all) ix (ci, j) h, lk_all (nil_all), lk_all (nil_all), lk_all (nil_all)⟩
theorem hd_L_bits : CallHd yL_bits 2 := ⟨by decide +kernel, by decide +kernel, by decide +kernel⟩
theorem sc_L_bits (l : Launch) (hl : l.stackTraces = false) : SCon l yL_bits cL_bits 6 (some .long) 8 145 1 Γ_L_bits := scon_of mL_bits cls_ok hl (by decide +kernel) rfl rfl (ok_L_bits l hl) rfl rfl b_L_bits
def F_L_cell (L : Nat) (xs : Nat → Int32) (a1 : Int32) (μ : Mem) : Out := if (Int32.ofNat L) ≤ a1 then (rI ((763049417 : Int32) * (a1 + (3 : Int32))) μ) else (ck (inb a1 L) (rI (xs (Int32.toNatClampNeg a1)) μ))
def Γ_L_cell (L : Nat) (xs : Nat → Int32) : Gam := fun as μ r μ' => ∃ (a1 : Int32), as = [.ref SCR, .int a1] ∧ F_L_cell L xs a1 μ = some (r, μ')
def mL_cell (L : Nat) (xs : Nat → Int32) : MI := (cL_cell, [], [], [(7, 763049417)], [], [], [], (29, some (L, xs)), (some .int))
set_option maxHeartbeats 4000000 in
theorem b_L_cell (L : Nat) (xs : Nat → Int32) : ∀ as μ r μ', Γ_L_cell L xs as μ r μ' → (elvL as).length ≤ 2 ∧ G (mL_cell L xs) (Qe r μ') 0 (elv as 2) [] μ (rc r 0) := by
  intro as μ r μ' h
  obtain ⟨a1, rfl, h⟩ := h
  refine ⟨Nat.le_of_ble_eq_true rfl, ?_⟩
  show G (mL_cell L xs) (Qe r μ') 0 [some (.ref SCR), some (.int a1)] [] μ (rc r 0)
  unfold F_L_cell at h
  have hb9 : rc r 0 ≤ rc r 0 := Nat.le_refl _
  refine e_iload_n dL_cell_0 rfl ?_
  refine e_aload_n dL_cell_1 rfl ?_
  refine e_alenS dL_cell_2 rfl ?_
  refine e_ic_ge (tgt := 12) dL_cell_3 rfl (fun hc1 => ?_) (fun hc1 => ?_)
  · rw [if_pos hc1] at h
    refine e_ldc (v := (763049417 : Int32)) dL_cell_12 rfl ?_
    refine e_iload_n dL_cell_14 rfl ?_
    refine e_iconst dL_cell_15 ci_3 ?_
    refine e_iadd dL_cell_16 ?_
    refine e_imul dL_cell_17 ?_
    exact e_iret .int dL_cell_18 rfl rfl (ret_eq h)
  · rw [if_neg hc1] at h
    refine e_aload_n dL_cell_6 rfl ?_
    refine e_iload_n dL_cell_7 rfl ?_
    obtain ⟨hc2, h⟩ := ck_eq h
    refine e_ialoadS dL_cell_8 rfl hc2 ?_
    refine e_goto (tgt := 18) dL_cell_9 rfl ?_
    exact e_iret .int dL_cell_18 rfl rfl (ret_eq h)
set_option maxRecDepth 20000 in
theorem ok_L_cell (l : Launch) (hl : l.stackTraces = false) (L : Nat) (xs : Nat → Int32) : MOK l yL_cell.cls 1 0 (mL_cell L xs) := ⟨lk_all (nil_all), fun ix ci j h => lk_all (P := fun ix q => FldOK yL_cell.cls ix q.1 q.2) (nil_all) ix (ci, j) h, lk_all (List.forall_mem_cons.mpr ⟨t_3 108 rfl rfl, nil_all⟩), lk_all (nil_all), lk_all (nil_all)⟩
theorem hd_L_cell : CallHd yL_cell 2 := ⟨by decide +kernel, by decide +kernel, by decide +kernel⟩
theorem sc_L_cell (l : Launch) (hl : l.stackTraces = false) (L : Nat) (xs : Nat → Int32) : SConS l yL_cell cL_cell 2 (some .int) 1 0 0 (Γ_L_cell L xs) (some (L, xs)) := scon_ofS (mL_cell L xs) cls_ok hl (by decide +kernel) rfl rfl (ok_L_cell l hl L xs) rfl rfl (b_L_cell L xs)
def F_L_nearestOr (μ : Mem) : Out := cIH (F_X7_nearest μ) (fun E6 μ2 => if E6 = "java/lang/IllegalStateException" then (rI (-1 : Int32) μ2) else (none)) (fun v5 μ2 => rI v5 μ2)
def Γ_L_nearestOr : Gam := fun as μ r μ' => as = [.ref 0] ∧ F_L_nearestOr μ = some (r, μ')
def mL_nearestOr : MI := (cL_nearestOr, [(21, (1, 0, 1, 5, Γ_X7_nearest))], [], [], [], [], [((1, "java/lang/IllegalStateException"), 5, 1)], (29, none), (some .int))
set_option maxHeartbeats 4000000 in
theorem b_L_nearestOr : ∀ as μ r μ', Γ_L_nearestOr as μ r μ' → (elvL as).length ≤ 2 ∧ G mL_nearestOr (Qe r μ') 0 (elv as 2) [] μ (1) := by
  intro as μ r μ' h
  obtain ⟨rfl, h⟩ := h
  refine ⟨Nat.le_of_ble_eq_true rfl, ?_⟩
  show G mL_nearestOr (Qe r μ') 0 [some (.ref 0), none] [] μ (1)
  unfold F_L_nearestOr at h
  have hb9 : 1 ≤ 1 := Nat.le_refl _
  refine e_aload_n dL_nearestOr_0 rfl ?_
  refine cIH_go h (fun E6 μ2 hc1 h => ?_) (fun v5 μ2 hc1 h => ?_)
  · by_cases hE7 : E6 = "java/lang/IllegalStateException"
    · rw [if_pos hE7] at h
      subst hE7
      refine e_VH [] [] [some (.ref 0), none] dL_nearestOr_1 rfl rfl rfl rfl ⟨Nat.le_of_ble_eq_true rfl, rfl⟩ (Nat.le_of_ble_eq_true rfl) (by omega) ⟨rfl, hc1⟩ (by decide +kernel) (Nat.le_of_ble_eq_true rfl) (Or.inr ⟨1, rfl, dL_nearestOr_5, rfl⟩) rfl ?_
      refine e_iconst dL_nearestOr_6 ci_m1 ?_
      exact e_iret .int dL_nearestOr_7 rfl rfl (ret_eq h)
    rw [if_neg hE7] at h
    exact nomatch h
  · refine e_VI [] [] dL_nearestOr_1 rfl rfl rfl rfl ⟨Nat.le_of_ble_eq_true rfl, rfl⟩ (Nat.le_of_ble_eq_true rfl) ⟨rfl, hc1⟩ ?_
    exact e_iret .int dL_nearestOr_4 rfl rfl (ret_eq h)
set_option maxRecDepth 20000 in
theorem ok_L_nearestOr (l : Launch) (hl : l.stackTraces = false) : MOK l yL_nearestOr.cls 8 189 mL_nearestOr := ⟨lk_all (List.forall_mem_cons.mpr ⟨⟨yX7_nearest, cX7_nearest, 2, (some .int), 7, 168, by decide, by decide, t_1 1 rfl rfl, hd_X7_nearest, Or.inr (Or.inl ⟨rfl, sc_X7_nearest l hl, t_3 72 rfl rfl, t_3 69 rfl rfl, t_3 70 rfl rfl, _, rfl, t_3 71 rfl rfl⟩)⟩, nil_all⟩), fun ix ci j h => lk_all (P := fun ix q => FldOK yL_nearestOr.cls ix q.1 q.2) (nil_all) ix (ci, j) h, lk_all (nil_all), lk_all (nil_all), lk_all (nil_all)⟩
theorem hd_L_nearestOr : CallHd yL_nearestOr 1 := ⟨by decide +kernel, by decide +kernel, by decide +kernel⟩
theorem hc_L_nearestOr : HC yL_nearestOr.cls [(0, 4, 5, 15)] mL_nearestOr := fun pc E h hq => (show ∀ q ∈ mHnd mL_nearestOr, ∃ (pre suf : List (Nat × Nat × Nat × Nat)) (x : Nat × Nat × Nat × Nat), [(0, 4, 5, 15)] = pre ++ x :: suf ∧ (∀ z ∈ pre, ¬ z.2.2.2 = 0 ∧ ∃ nm ∈ xcH, Cond.classLink yL_nearestOr.cls z.2.2.2 nm ∈ TB ∧ q.1.2 ≠ nm) ∧ covers ⟨x.1, x.2.1, x.2.2.1, x.2.2.2⟩ q.1.1 = true ∧ ¬ x.2.2.2 = 0 ∧ Cond.classLink yL_nearestOr.cls x.2.2.2 q.1.2 ∈ TB ∧ q.1.2 ∈ xcL ∧ x.2.2.1 = q.2.1 from List.forall_mem_cons.mpr ⟨⟨[], [], (0, 4, 5, 15), rfl, nil_all, rfl, by decide, t_3 116 rfl rfl, List.mem_of_getElem? (i := 1) rfl, rfl⟩, nil_all⟩) ((pc, E), h) (lk_mem hq)
theorem sc_L_nearestOr (l : Launch) (hl : l.stackTraces = false) : SConH l yL_nearestOr cL_nearestOr 2 (some .int) [(0, 4, 5, 15)] 8 189 1 Γ_L_nearestOr := scon_ofH mL_nearestOr cls_ok hl (by decide +kernel) rfl rfl (ok_L_nearestOr l hl) (by decide) rfl hc_L_nearestOr rfl b_L_nearestOr
def F_L_nextOr (μ : Mem) : Out := cIH (F_X7_next μ) (fun E6 μ2 => if E6 = "java/lang/IllegalStateException" then (rI (-1 : Int32) μ2) else (none)) (fun v5 μ2 => rI v5 μ2)
def Γ_L_nextOr : Gam := fun as μ r μ' => as = [.ref 0] ∧ F_L_nextOr μ = some (r, μ')
def mL_nextOr : MI := (cL_nextOr, [(17, (1, 0, 1, 5, Γ_X7_next))], [], [], [], [], [((1, "java/lang/IllegalStateException"), 5, 1)], (29, none), (some .int))
set_option maxHeartbeats 4000000 in
theorem b_L_nextOr : ∀ as μ r μ', Γ_L_nextOr as μ r μ' → (elvL as).length ≤ 2 ∧ G mL_nextOr (Qe r μ') 0 (elv as 2) [] μ (1) := by
  intro as μ r μ' h
  obtain ⟨rfl, h⟩ := h
  refine ⟨Nat.le_of_ble_eq_true rfl, ?_⟩
  show G mL_nextOr (Qe r μ') 0 [some (.ref 0), none] [] μ (1)
  unfold F_L_nextOr at h
  have hb9 : 1 ≤ 1 := Nat.le_refl _
  refine e_aload_n dL_nextOr_0 rfl ?_
  refine cIH_go h (fun E6 μ2 hc1 h => ?_) (fun v5 μ2 hc1 h => ?_)
  · by_cases hE7 : E6 = "java/lang/IllegalStateException"
    · rw [if_pos hE7] at h
      subst hE7
      refine e_VH [] [] [some (.ref 0), none] dL_nextOr_1 rfl rfl rfl rfl ⟨Nat.le_of_ble_eq_true rfl, rfl⟩ (Nat.le_of_ble_eq_true rfl) (by omega) ⟨rfl, hc1⟩ (by decide +kernel) (Nat.le_of_ble_eq_true rfl) (Or.inr ⟨1, rfl, dL_nextOr_5, rfl⟩) rfl ?_
      refine e_iconst dL_nextOr_6 ci_m1 ?_
      exact e_iret .int dL_nextOr_7 rfl rfl (ret_eq h)
    rw [if_neg hE7] at h
    exact nomatch h
  · refine e_VI [] [] dL_nextOr_1 rfl rfl rfl rfl ⟨Nat.le_of_ble_eq_true rfl, rfl⟩ (Nat.le_of_ble_eq_true rfl) ⟨rfl, hc1⟩ ?_
    exact e_iret .int dL_nextOr_4 rfl rfl (ret_eq h)
set_option maxRecDepth 20000 in
theorem ok_L_nextOr (l : Launch) (hl : l.stackTraces = false) : MOK l yL_nextOr.cls 7 165 mL_nextOr := ⟨lk_all (List.forall_mem_cons.mpr ⟨⟨yX7_next, cX7_next, 1, (some .int), 6, 145, by decide, by decide, t_1 1 rfl rfl, hd_X7_next, Or.inr (Or.inl ⟨rfl, sc_X7_next l hl, t_4 5 rfl rfl, t_4 2 rfl rfl, t_4 3 rfl rfl, _, rfl, t_4 4 rfl rfl⟩)⟩, nil_all⟩), fun ix ci j h => lk_all (P := fun ix q => FldOK yL_nextOr.cls ix q.1 q.2) (nil_all) ix (ci, j) h, lk_all (nil_all), lk_all (nil_all), lk_all (nil_all)⟩
theorem hd_L_nextOr : CallHd yL_nextOr 1 := ⟨by decide +kernel, by decide +kernel, by decide +kernel⟩
theorem hc_L_nextOr : HC yL_nextOr.cls [(0, 4, 5, 15)] mL_nextOr := fun pc E h hq => (show ∀ q ∈ mHnd mL_nextOr, ∃ (pre suf : List (Nat × Nat × Nat × Nat)) (x : Nat × Nat × Nat × Nat), [(0, 4, 5, 15)] = pre ++ x :: suf ∧ (∀ z ∈ pre, ¬ z.2.2.2 = 0 ∧ ∃ nm ∈ xcH, Cond.classLink yL_nextOr.cls z.2.2.2 nm ∈ TB ∧ q.1.2 ≠ nm) ∧ covers ⟨x.1, x.2.1, x.2.2.1, x.2.2.2⟩ q.1.1 = true ∧ ¬ x.2.2.2 = 0 ∧ Cond.classLink yL_nextOr.cls x.2.2.2 q.1.2 ∈ TB ∧ q.1.2 ∈ xcL ∧ x.2.2.1 = q.2.1 from List.forall_mem_cons.mpr ⟨⟨[], [], (0, 4, 5, 15), rfl, nil_all, rfl, by decide, t_3 116 rfl rfl, List.mem_of_getElem? (i := 1) rfl, rfl⟩, nil_all⟩) ((pc, E), h) (lk_mem hq)
theorem sc_L_nextOr (l : Launch) (hl : l.stackTraces = false) : SConH l yL_nextOr cL_nextOr 2 (some .int) [(0, 4, 5, 15)] 7 165 1 Γ_L_nextOr := scon_ofH mL_nextOr cls_ok hl (by decide +kernel) rfl rfl (ok_L_nextOr l hl) (by decide) rfl hc_L_nextOr rfl b_L_nextOr
def f_L_ones_4 : Nat → Int64 → Int32 → Int32 → Mem → Out
  | 0, _, _, _, _ => none
  | n + 1, x0, x2, x3, μ => if (36 : Int32) ≤ x3 then (rI x2 μ) else (lt (x2 + ((Int64.toInt32 (shrL x0 x3)) &&& (1 : Int32))) (fun v2 => lt (x3 + (1 : Int32)) (fun v3 => f_L_ones_4 n x0 v2 v3 μ)))
def F_L_ones (a0 : Int64) (μ : Mem) : Out := f_L_ones_4 BIG a0 (0 : Int32) (0 : Int32) μ
def Γ_L_ones : Gam := fun as μ r μ' => ∃ (a0 : Int64), as = [.long a0] ∧ F_L_ones a0 μ = some (r, μ')
def mL_ones : MI := (cL_ones, [], [], [], [], [], [], (29, none), (some .int))
set_option maxHeartbeats 4000000 in
theorem g_L_ones_4 {r : Res} {μ' : Mem} : ∀ n : Nat, ∀ (x0 : Int64) (x2 : Int32) (x3 : Int32), ∀ (μ : Mem) (b : Nat), rc r 0 ≤ b → f_L_ones_4 n x0 x2 x3 μ = some (r, μ') → G mL_ones (Qe r μ') 4 [some (.long x0), none, some (.int x2), some (.int x3)] [] μ b := by
  intro n
  induction n with
  | zero => intro x0 x2 x3 μ b hb9 h; exact nomatch (show (none : Out) = some _ from h)
  | succ n ih =>
    intro x0 x2 x3 μ b hb9 h
    rw [f_L_ones_4.eq_2] at h
    refine e_iload_n dL_ones_4 rfl ?_
    refine e_bipush dL_ones_5 cb_36 ?_
    refine e_ic_ge (tgt := 25) dL_ones_7 rfl (fun hc1 => ?_) (fun hc1 => ?_)
    · rw [if_pos hc1] at h
      refine e_iload_n dL_ones_25 rfl ?_
      exact e_iret .int dL_ones_26 rfl rfl (ret_eq h)
    · rw [if_neg hc1] at h
      refine e_iload_n dL_ones_10 rfl ?_
      refine e_lload_n dL_ones_11 rfl ?_
      refine e_iload_n dL_ones_12 rfl ?_
      refine e_lshr dL_ones_13 ?_
      refine e_l2i dL_ones_14 ?_
      refine e_iconst dL_ones_15 ci_1 ?_
      refine e_iand dL_ones_16 ?_
      refine e_iadd dL_ones_17 ?_
      refine e_naI h (fun v2 ev2 h => ?_)
      refine e_istore_nL [some (.long x0), none, some (.int v2), some (.int x3)] dL_ones_18 (Nat.le_of_ble_eq_true rfl) rfl ?_
      refine e_iincN 3 (1 : Int32) dL_ones_19 rfl ci_1 h (fun y9 => [some (.long x0), none, some (.int v2), some (.int y9)]) (fun _ => rfl) (fun v3 ev3 h => ?_)
      refine e_goto (tgt := 4) dL_ones_22 rfl ?_
      exact e_le (ih x0 v2 v3 μ _ hb9 h) ⟨rfl, rfl, rfl, trivial⟩
set_option maxHeartbeats 4000000 in
theorem b_L_ones : ∀ as μ r μ', Γ_L_ones as μ r μ' → (elvL as).length ≤ 4 ∧ G mL_ones (Qe r μ') 0 (elv as 4) [] μ (rc r 0) := by
  intro as μ r μ' h
  obtain ⟨a0, rfl, h⟩ := h
  refine ⟨Nat.le_of_ble_eq_true rfl, ?_⟩
  show G mL_ones (Qe r μ') 0 [some (.long a0), none, none, none] [] μ (rc r 0)
  unfold F_L_ones at h
  have hb9 : rc r 0 ≤ rc r 0 := Nat.le_refl _
  refine e_iconst dL_ones_0 ci_0 ?_
  refine e_istore_nL [some (.long a0), none, some (.int (0 : Int32)), none] dL_ones_1 (Nat.le_of_ble_eq_true rfl) rfl ?_
  refine e_iconst dL_ones_2 ci_0 ?_
  refine e_istore_nL [some (.long a0), none, some (.int (0 : Int32)), some (.int (0 : Int32))] dL_ones_3 (Nat.le_of_ble_eq_true rfl) rfl ?_
  exact e_le (g_L_ones_4 BIG a0 (0 : Int32) (0 : Int32) μ _ hb9 h) ⟨rfl, rfl, rfl, trivial⟩
set_option maxRecDepth 20000 in
theorem ok_L_ones (l : Launch) (hl : l.stackTraces = false) : MOK l yL_ones.cls 1 0 mL_ones := ⟨lk_all (nil_all), fun ix ci j h => lk_all (P := fun ix q => FldOK yL_ones.cls ix q.1 q.2) (nil_all) ix (ci, j) h, lk_all (nil_all), lk_all (nil_all), lk_all (nil_all)⟩
theorem hd_L_ones : CallHd yL_ones 1 := ⟨by decide +kernel, by decide +kernel, by decide +kernel⟩
theorem sc_L_ones (l : Launch) (hl : l.stackTraces = false) : SCon l yL_ones cL_ones 4 (some .int) 1 0 0 Γ_L_ones := scon_of mL_ones cls_ok hl (by decide +kernel) rfl rfl (ok_L_ones l hl) rfl rfl b_L_ones
def F_L_solveOr (a1 : Int32) (μ : Mem) : Out := cIH (F_X7_solve a1 μ) (fun E6 μ2 => if E6 = "java/lang/IllegalStateException" then (rI (-1 : Int32) μ2) else (none)) (fun v5 μ2 => rI v5 μ2)
def Γ_L_solveOr : Gam := fun as μ r μ' => ∃ (a1 : Int32), as = [.ref 0, .int a1] ∧ F_L_solveOr a1 μ = some (r, μ')
def mL_solveOr : MI := (cL_solveOr, [(9, (1, 1, 1, 5, Γ_X7_solve))], [], [], [], [], [((2, "java/lang/IllegalStateException"), 6, 2)], (29, none), (some .int))
set_option maxHeartbeats 4000000 in
theorem b_L_solveOr : ∀ as μ r μ', Γ_L_solveOr as μ r μ' → (elvL as).length ≤ 3 ∧ G mL_solveOr (Qe r μ') 0 (elv as 3) [] μ (1) := by
  intro as μ r μ' h
  obtain ⟨a1, rfl, h⟩ := h
  refine ⟨Nat.le_of_ble_eq_true rfl, ?_⟩
  show G mL_solveOr (Qe r μ') 0 [some (.ref 0), some (.int a1), none] [] μ (1)
  unfold F_L_solveOr at h
  have hb9 : 1 ≤ 1 := Nat.le_refl _
  refine e_aload_n dL_solveOr_0 rfl ?_
  refine e_iload_n dL_solveOr_1 rfl ?_
  refine cIH_go h (fun E6 μ2 hc1 h => ?_) (fun v5 μ2 hc1 h => ?_)
  · by_cases hE7 : E6 = "java/lang/IllegalStateException"
    · rw [if_pos hE7] at h
      subst hE7
      refine e_VH [.int a1] [] [some (.ref 0), some (.int a1), none] dL_solveOr_2 rfl rfl rfl rfl ⟨Nat.le_of_ble_eq_true rfl, rfl⟩ (Nat.le_of_ble_eq_true rfl) (by omega) ⟨a1, rfl, hc1⟩ (by decide +kernel) (Nat.le_of_ble_eq_true rfl) (Or.inr ⟨2, rfl, dL_solveOr_6, rfl⟩) rfl ?_
      refine e_iconst dL_solveOr_7 ci_m1 ?_
      exact e_iret .int dL_solveOr_8 rfl rfl (ret_eq h)
    rw [if_neg hE7] at h
    exact nomatch h
  · refine e_VI [.int a1] [] dL_solveOr_2 rfl rfl rfl rfl ⟨Nat.le_of_ble_eq_true rfl, rfl⟩ (Nat.le_of_ble_eq_true rfl) ⟨a1, rfl, hc1⟩ ?_
    exact e_iret .int dL_solveOr_5 rfl rfl (ret_eq h)
set_option maxRecDepth 20000 in
theorem ok_L_solveOr (l : Launch) (hl : l.stackTraces = false) : MOK l yL_solveOr.cls 7 162 mL_solveOr := ⟨lk_all (List.forall_mem_cons.mpr ⟨⟨yX7_solve, cX7_solve, 2, (some .int), 6, 141, by decide, by decide, t_1 1 rfl rfl, hd_X7_solve, Or.inr (Or.inl ⟨rfl, sc_X7_solve l hl, t_3 232 rfl rfl, t_3 229 rfl rfl, t_3 230 rfl rfl, _, rfl, t_3 231 rfl rfl⟩)⟩, nil_all⟩), fun ix ci j h => lk_all (P := fun ix q => FldOK yL_solveOr.cls ix q.1 q.2) (nil_all) ix (ci, j) h, lk_all (nil_all), lk_all (nil_all), lk_all (nil_all)⟩
theorem hd_L_solveOr : CallHd yL_solveOr 2 := ⟨by decide +kernel, by decide +kernel, by decide +kernel⟩
theorem hc_L_solveOr : HC yL_solveOr.cls [(0, 5, 6, 15)] mL_solveOr := fun pc E h hq => (show ∀ q ∈ mHnd mL_solveOr, ∃ (pre suf : List (Nat × Nat × Nat × Nat)) (x : Nat × Nat × Nat × Nat), [(0, 5, 6, 15)] = pre ++ x :: suf ∧ (∀ z ∈ pre, ¬ z.2.2.2 = 0 ∧ ∃ nm ∈ xcH, Cond.classLink yL_solveOr.cls z.2.2.2 nm ∈ TB ∧ q.1.2 ≠ nm) ∧ covers ⟨x.1, x.2.1, x.2.2.1, x.2.2.2⟩ q.1.1 = true ∧ ¬ x.2.2.2 = 0 ∧ Cond.classLink yL_solveOr.cls x.2.2.2 q.1.2 ∈ TB ∧ q.1.2 ∈ xcL ∧ x.2.2.1 = q.2.1 from List.forall_mem_cons.mpr ⟨⟨[], [], (0, 5, 6, 15), rfl, nil_all, rfl, by decide, t_3 116 rfl rfl, List.mem_of_getElem? (i := 1) rfl, rfl⟩, nil_all⟩) ((pc, E), h) (lk_mem hq)
theorem sc_L_solveOr (l : Launch) (hl : l.stackTraces = false) : SConH l yL_solveOr cL_solveOr 3 (some .int) [(0, 5, 6, 15)] 7 162 1 Γ_L_solveOr := scon_ofH mL_solveOr cls_ok hl (by decide +kernel) rfl rfl (ok_L_solveOr l hl) (by decide) rfl hc_L_solveOr rfl b_L_solveOr
def F_L_undoOr (μ : Mem) : Out := cIH (F_X7_undo μ) (fun E6 μ2 => if E6 = "java/lang/IllegalStateException" then (rI (-1 : Int32) μ2) else (none)) (fun v5 μ2 => rI v5 μ2)
def Γ_L_undoOr : Gam := fun as μ r μ' => as = [.ref 0] ∧ F_L_undoOr μ = some (r, μ')
def mL_undoOr : MI := (cL_undoOr, [(24, (1, 0, 1, 5, Γ_X7_undo))], [], [], [], [], [((1, "java/lang/IllegalStateException"), 5, 1)], (29, none), (some .int))
set_option maxHeartbeats 4000000 in
theorem b_L_undoOr : ∀ as μ r μ', Γ_L_undoOr as μ r μ' → (elvL as).length ≤ 2 ∧ G mL_undoOr (Qe r μ') 0 (elv as 2) [] μ (1) := by
  intro as μ r μ' h
  obtain ⟨rfl, h⟩ := h
  refine ⟨Nat.le_of_ble_eq_true rfl, ?_⟩
  show G mL_undoOr (Qe r μ') 0 [some (.ref 0), none] [] μ (1)
  unfold F_L_undoOr at h
  have hb9 : 1 ≤ 1 := Nat.le_refl _
  refine e_aload_n dL_undoOr_0 rfl ?_
  refine cIH_go h (fun E6 μ2 hc1 h => ?_) (fun v5 μ2 hc1 h => ?_)
  · by_cases hE7 : E6 = "java/lang/IllegalStateException"
    · rw [if_pos hE7] at h
      subst hE7
      refine e_VH [] [] [some (.ref 0), none] dL_undoOr_1 rfl rfl rfl rfl ⟨Nat.le_of_ble_eq_true rfl, rfl⟩ (Nat.le_of_ble_eq_true rfl) (by omega) ⟨rfl, hc1⟩ (by decide +kernel) (Nat.le_of_ble_eq_true rfl) (Or.inr ⟨1, rfl, dL_undoOr_5, rfl⟩) rfl ?_
      refine e_iconst dL_undoOr_6 ci_m1 ?_
      exact e_iret .int dL_undoOr_7 rfl rfl (ret_eq h)
    rw [if_neg hE7] at h
    exact nomatch h
  · refine e_VI [] [] dL_undoOr_1 rfl rfl rfl rfl ⟨Nat.le_of_ble_eq_true rfl, rfl⟩ (Nat.le_of_ble_eq_true rfl) ⟨rfl, hc1⟩ ?_
    exact e_iret .int dL_undoOr_4 rfl rfl (ret_eq h)
set_option maxRecDepth 20000 in
theorem ok_L_undoOr (l : Launch) (hl : l.stackTraces = false) : MOK l yL_undoOr.cls 7 110 mL_undoOr := ⟨lk_all (List.forall_mem_cons.mpr ⟨⟨yX7_undo, cX7_undo, 1, (some .int), 6, 90, by decide, by decide, t_1 1 rfl rfl, hd_X7_undo, Or.inr (Or.inl ⟨rfl, sc_X7_undo l hl, t_3 120 rfl rfl, t_3 117 rfl rfl, t_3 118 rfl rfl, _, rfl, t_3 119 rfl rfl⟩)⟩, nil_all⟩), fun ix ci j h => lk_all (P := fun ix q => FldOK yL_undoOr.cls ix q.1 q.2) (nil_all) ix (ci, j) h, lk_all (nil_all), lk_all (nil_all), lk_all (nil_all)⟩
theorem hd_L_undoOr : CallHd yL_undoOr 1 := ⟨by decide +kernel, by decide +kernel, by decide +kernel⟩
theorem hc_L_undoOr : HC yL_undoOr.cls [(0, 4, 5, 15)] mL_undoOr := fun pc E h hq => (show ∀ q ∈ mHnd mL_undoOr, ∃ (pre suf : List (Nat × Nat × Nat × Nat)) (x : Nat × Nat × Nat × Nat), [(0, 4, 5, 15)] = pre ++ x :: suf ∧ (∀ z ∈ pre, ¬ z.2.2.2 = 0 ∧ ∃ nm ∈ xcH, Cond.classLink yL_undoOr.cls z.2.2.2 nm ∈ TB ∧ q.1.2 ≠ nm) ∧ covers ⟨x.1, x.2.1, x.2.2.1, x.2.2.2⟩ q.1.1 = true ∧ ¬ x.2.2.2 = 0 ∧ Cond.classLink yL_undoOr.cls x.2.2.2 q.1.2 ∈ TB ∧ q.1.2 ∈ xcL ∧ x.2.2.1 = q.2.1 from List.forall_mem_cons.mpr ⟨⟨[], [], (0, 4, 5, 15), rfl, nil_all, rfl, by decide, t_3 116 rfl rfl, List.mem_of_getElem? (i := 1) rfl, rfl⟩, nil_all⟩) ((pc, E), h) (lk_mem hq)
theorem sc_L_undoOr (l : Launch) (hl : l.stackTraces = false) : SConH l yL_undoOr cL_undoOr 2 (some .int) [(0, 4, 5, 15)] 7 110 1 Γ_L_undoOr := scon_ofH mL_undoOr cls_ok hl (by decide +kernel) rfl rfl (ok_L_undoOr l hl) (by decide) rfl hc_L_undoOr rfl b_L_undoOr
def F_L_up (a0 : Int32) (a1 : Int32) (μ : Mem) : Out := ck (¬ a1 = 0) (rI (remI (a0 &&& (2147483647 : Int32)) a1) μ)
def Γ_L_up : Gam := fun as μ r μ' => ∃ (a0 : Int32) (a1 : Int32), as = [.int a0, .int a1] ∧ F_L_up a0 a1 μ = some (r, μ')
def mL_up : MI := (cL_up, [], [], [(8, 2147483647)], [], [], [], (29, none), (some .int))
set_option maxHeartbeats 4000000 in
theorem b_L_up : ∀ as μ r μ', Γ_L_up as μ r μ' → (elvL as).length ≤ 2 ∧ G mL_up (Qe r μ') 0 (elv as 2) [] μ (rc r 0) := by
  intro as μ r μ' h
  obtain ⟨a0, a1, rfl, h⟩ := h
  refine ⟨Nat.le_of_ble_eq_true rfl, ?_⟩
  show G mL_up (Qe r μ') 0 [some (.int a0), some (.int a1)] [] μ (rc r 0)
  unfold F_L_up at h
  have hb9 : rc r 0 ≤ rc r 0 := Nat.le_refl _
  refine e_iload_n dL_up_0 rfl ?_
  refine e_ldc (v := (2147483647 : Int32)) dL_up_1 rfl ?_
  refine e_iand dL_up_3 ?_
  refine e_iload_n dL_up_4 rfl ?_
  obtain ⟨hc1, h⟩ := ck_eq h
  refine e_irem dL_up_5 hc1 ?_
  exact e_iret .int dL_up_6 rfl rfl (ret_eq h)
set_option maxRecDepth 20000 in
theorem ok_L_up (l : Launch) (hl : l.stackTraces = false) : MOK l yL_up.cls 1 0 mL_up := ⟨lk_all (nil_all), fun ix ci j h => lk_all (P := fun ix q => FldOK yL_up.cls ix q.1 q.2) (nil_all) ix (ci, j) h, lk_all (List.forall_mem_cons.mpr ⟨t_3 112 rfl rfl, nil_all⟩), lk_all (nil_all), lk_all (nil_all)⟩
theorem hd_L_up : CallHd yL_up 2 := ⟨by decide +kernel, by decide +kernel, by decide +kernel⟩
theorem sc_L_up (l : Launch) (hl : l.stackTraces = false) : SCon l yL_up cL_up 2 (some .int) 1 0 0 Γ_L_up := scon_of mL_up cls_ok hl (by decide +kernel) rfl rfl (ok_L_up l hl) rfl rfl b_L_up
