def f_X2_enterRows_6 : Nat → Int32 → Int64 → Int64 → Int32 → Int32 → Int32 → Mem → Out
  | 0, _, _, _, _, _, _, _ => none
  | n + 1, x1, x2, x4, x6, x7, x8, μ => if (6 : Int32) ≤ x8 then (rI x7 μ) else (lt (x4 &&& (shlL (1 : Int64) (((8 : Int32) * x8) + x1))) (fun v2 => if (lg_cmp v2 (0 : Int64)) = 0 then (lt (x8 + (1 : Int32)) (fun v4 => f_X2_enterRows_6 n x1 x2 x4 x6 x7 v4 μ)) else (if ((shrI x6 x8) &&& (1 : Int32)) = 0 then (lt (x8 + (1 : Int32)) (fun v6 => f_X2_enterRows_6 n x1 x2 x4 x6 x7 v6 μ)) else (ck (inb x8 6) (lt (sJ μ 12 (Int32.toNatClampNeg x8) (x2 ||| v2)) (fun μ8 => lt (x7 ||| (shlI (1 : Int32) x8)) (fun v9 => lt (x8 + (1 : Int32)) (fun v10 => f_X2_enterRows_6 n x1 x2 x4 x6 v9 v10 μ8))))))))
def F_X2_enterRows (a0 : Int32) (a1 : Int64) (a2 : Int64) (a3 : Int32) (μ : Mem) : Out := f_X2_enterRows_6 BIG a0 a1 a2 a3 (0 : Int32) (0 : Int32) μ
def Γ_X2_enterRows : Gam := fun as μ r μ' => ∃ (a0 : Int32) (a1 : Int64) (a2 : Int64) (a3 : Int32), as = [.ref 6, .int a0, .long a1, .long a2, .int a3] ∧ F_X2_enterRows a0 a1 a2 a3 μ = some (r, μ')
def mX2_enterRows : MI := (cX2_enterRows, [], [(9, 0, 0)], [], [], [], [], (29, none), (some .int))
set_option maxHeartbeats 4000000 in
theorem g_X2_enterRows_6 {r : Res} {μ' : Mem} : ∀ n : Nat, ∀ (x1 : Int32) (x2 : Int64) (x4 : Int64) (x6 : Int32) (x7 : Int32) (x8 : Int32), ∀ (μ : Mem) (b : Nat), rc r 0 ≤ b → f_X2_enterRows_6 n x1 x2 x4 x6 x7 x8 μ = some (r, μ') → G mX2_enterRows (Qe r μ') 6 [some (.ref 6), some (.int x1), some (.long x2), none, some (.long x4), none, some (.int x6), some (.int x7), some (.int x8), none, none] [] μ b := by
  intro n
  induction n with
  | zero => intro x1 x2 x4 x6 x7 x8 μ b hb9 h; exact nomatch (show (none : Out) = some _ from h)
  | succ n ih =>
    intro x1 x2 x4 x6 x7 x8 μ b hb9 h
    rw [f_X2_enterRows_6.eq_2] at h
    refine e_iload dX2_enterRows_6 rfl ?_
    refine e_aload_n dX2_enterRows_8 rfl ?_
    refine e_get (ci := 0) (j := 0) (t := 2) (v := .ref 12) dX2_enterRows_9 rfl (by decide) rfl rfl rfl ?_
    refine e_alen (t := 1) (n := 6) (v := (6 : Int32)) dX2_enterRows_12 (by decide) rfl (by decide) rfl ?_
    refine e_ic_ge (tgt := 73) dX2_enterRows_13 rfl (fun hc1 => ?_) (fun hc1 => ?_)
    · rw [if_pos hc1] at h
      refine e_iload dX2_enterRows_73 rfl ?_
      exact e_iret .int dX2_enterRows_75 rfl rfl (ret_eq h)
    · rw [if_neg hc1] at h
      refine e_lload dX2_enterRows_16 rfl ?_
      refine e_lconst (v := (1 : Int64)) dX2_enterRows_18 rfl ?_
      refine e_bipush dX2_enterRows_19 cb_8 ?_
      refine e_iload dX2_enterRows_21 rfl ?_
      refine e_imul dX2_enterRows_23 ?_
      refine e_iload_n dX2_enterRows_24 rfl ?_
      refine e_iadd dX2_enterRows_25 ?_
      refine e_lshl dX2_enterRows_26 ?_
      refine e_land dX2_enterRows_27 ?_
      refine e_naJ h (fun v2 ev2 h => ?_)
      refine e_lstoreL [some (.ref 6), some (.int x1), some (.long x2), none, some (.long x4), none, some (.int x6), some (.int x7), some (.int x8), some (.long v2), none] dX2_enterRows_28 (Nat.le_of_ble_eq_true rfl) rfl ?_
      refine e_lload dX2_enterRows_30 rfl ?_
      refine e_lconst (v := (0 : Int64)) dX2_enterRows_32 rfl ?_
      refine e_lcmp dX2_enterRows_33 ?_
      refine e_if_eq (tgt := 67) dX2_enterRows_34 rfl (fun hc3 => ?_) (fun hc3 => ?_)
      · rw [if_pos hc3] at h
        refine e_iincN 8 (1 : Int32) dX2_enterRows_67 rfl ci_1 h (fun y9 => [some (.ref 6), some (.int x1), some (.long x2), none, some (.long x4), none, some (.int x6), some (.int x7), some (.int y9), some (.long v2), none]) (fun _ => rfl) (fun v4 ev4 h => ?_)
        refine e_goto (tgt := 6) dX2_enterRows_70 rfl ?_
        exact e_le (ih x1 x2 x4 x6 x7 v4 μ _ hb9 h) ⟨rfl, rfl, rfl, rfl, rfl, rfl, rfl, trivial⟩
      · rw [if_neg hc3] at h
        refine e_iload dX2_enterRows_37 rfl ?_
        refine e_iload dX2_enterRows_39 rfl ?_
        refine e_ishr dX2_enterRows_41 ?_
        refine e_iconst dX2_enterRows_42 ci_1 ?_
        refine e_iand dX2_enterRows_43 ?_
        refine e_if_eq (tgt := 67) dX2_enterRows_44 rfl (fun hc5 => ?_) (fun hc5 => ?_)
        · rw [if_pos hc5] at h
          refine e_iincN 8 (1 : Int32) dX2_enterRows_67 rfl ci_1 h (fun y9 => [some (.ref 6), some (.int x1), some (.long x2), none, some (.long x4), none, some (.int x6), some (.int x7), some (.int y9), some (.long v2), none]) (fun _ => rfl) (fun v6 ev6 h => ?_)
          refine e_goto (tgt := 6) dX2_enterRows_70 rfl ?_
          exact e_le (ih x1 x2 x4 x6 x7 v6 μ _ hb9 h) ⟨rfl, rfl, rfl, rfl, rfl, rfl, rfl, trivial⟩
        · rw [if_neg hc5] at h
          refine e_aload_n dX2_enterRows_47 rfl ?_
          refine e_get (ci := 0) (j := 0) (t := 2) (v := .ref 12) dX2_enterRows_48 rfl (by decide) rfl rfl rfl ?_
          refine e_iload dX2_enterRows_51 rfl ?_
          refine e_lload_n dX2_enterRows_53 rfl ?_
          refine e_lload dX2_enterRows_54 rfl ?_
          refine e_lor dX2_enterRows_56 ?_
          obtain ⟨hc7, h⟩ := ck_eq h
          refine e_lastore (n := 6) dX2_enterRows_57 (by decide) rfl hc7 ?_
          refine e_naM (e := sJ μ 12 (Int32.toNatClampNeg x8) (x2 ||| v2)) h (fun μ8 eμ8 h => ?_)
          refine e_iload dX2_enterRows_58 rfl ?_
          refine e_iconst dX2_enterRows_60 ci_1 ?_
          refine e_iload dX2_enterRows_61 rfl ?_
          refine e_ishl dX2_enterRows_63 ?_
          refine e_ior dX2_enterRows_64 ?_
          refine e_naI h (fun v9 ev9 h => ?_)
          refine e_istoreL [some (.ref 6), some (.int x1), some (.long x2), none, some (.long x4), none, some (.int x6), some (.int v9), some (.int x8), some (.long v2), none] dX2_enterRows_65 (Nat.le_of_ble_eq_true rfl) rfl ?_
          refine e_iincN 8 (1 : Int32) dX2_enterRows_67 rfl ci_1 h (fun y9 => [some (.ref 6), some (.int x1), some (.long x2), none, some (.long x4), none, some (.int x6), some (.int v9), some (.int y9), some (.long v2), none]) (fun _ => rfl) (fun v10 ev10 h => ?_)
          refine e_goto (tgt := 6) dX2_enterRows_70 rfl ?_
          exact e_le (ih x1 x2 x4 x6 v9 v10 μ8 _ hb9 h) ⟨rfl, rfl, rfl, rfl, rfl, rfl, rfl, trivial⟩
set_option maxHeartbeats 4000000 in
theorem b_X2_enterRows : ∀ as μ r μ', Γ_X2_enterRows as μ r μ' → (elvL as).length ≤ 11 ∧ G mX2_enterRows (Qe r μ') 0 (elv as 11) [] μ (rc r 0) := by
  intro as μ r μ' h
  obtain ⟨a0, a1, a2, a3, rfl, h⟩ := h
  refine ⟨Nat.le_of_ble_eq_true rfl, ?_⟩
  show G mX2_enterRows (Qe r μ') 0 [some (.ref 6), some (.int a0), some (.long a1), none, some (.long a2), none, some (.int a3), none, none, none, none] [] μ (rc r 0)
  unfold F_X2_enterRows at h
  have hb9 : rc r 0 ≤ rc r 0 := Nat.le_refl _
  refine e_iconst dX2_enterRows_0 ci_0 ?_
  refine e_istoreL [some (.ref 6), some (.int a0), some (.long a1), none, some (.long a2), none, some (.int a3), some (.int (0 : Int32)), none, none, none] dX2_enterRows_1 (Nat.le_of_ble_eq_true rfl) rfl ?_
  refine e_iconst dX2_enterRows_3 ci_0 ?_
  refine e_istoreL [some (.ref 6), some (.int a0), some (.long a1), none, some (.long a2), none, some (.int a3), some (.int (0 : Int32)), some (.int (0 : Int32)), none, none] dX2_enterRows_4 (Nat.le_of_ble_eq_true rfl) rfl ?_
  exact e_le (g_X2_enterRows_6 BIG a0 a1 a2 a3 (0 : Int32) (0 : Int32) μ _ hb9 h) ⟨rfl, rfl, rfl, rfl, rfl, rfl, rfl, trivial⟩
set_option maxRecDepth 20000 in
theorem ok_X2_enterRows (l : Launch) (hl : l.stackTraces = false) : MOK l yX2_enterRows.cls 1 0 mX2_enterRows := ⟨lk_all (nil_all), fun ix ci j h => lk_all (P := fun ix q => FldOK yX2_enterRows.cls ix q.1 q.2) (List.forall_mem_cons.mpr ⟨⟨_, rfl, by decide, t_1 111 rfl rfl⟩, nil_all⟩) ix (ci, j) h, lk_all (nil_all), lk_all (nil_all), lk_all (nil_all)⟩
theorem hd_X2_enterRows : CallHd yX2_enterRows 4 := ⟨by decide +kernel, by decide +kernel, by decide +kernel⟩
theorem sc_X2_enterRows (l : Launch) (hl : l.stackTraces = false) : SCon l yX2_enterRows cX2_enterRows 11 (some .int) 1 0 0 Γ_X2_enterRows := scon_of mX2_enterRows cls_ok hl (by decide +kernel) rfl rfl (ok_X2_enterRows l hl) rfl rfl b_X2_enterRows
def f_X2_forgetWays_2 : Nat → Int32 → Mem → Out
  | 0, _, _ => none
  | n + 1, x1, μ => if (6 : Int32) ≤ x1 then (rV μ) else (ck (inb x1 6) (lt (sJ μ 12 (Int32.toNatClampNeg x1) (0 : Int64)) (fun μ3 => lt (x1 + (1 : Int32)) (fun v4 => f_X2_forgetWays_2 n v4 μ3))))
def F_X2_forgetWays (μ : Mem) : Out := f_X2_forgetWays_2 BIG (0 : Int32) μ
def Γ_X2_forgetWays : Gam := fun as μ r μ' => as = [.ref 6] ∧ F_X2_forgetWays μ = some (r, μ')
def mX2_forgetWays : MI := (cX2_forgetWays, [], [(9, 0, 0)], [], [], [], [], (29, none), none)
set_option maxHeartbeats 4000000 in
theorem g_X2_forgetWays_2 {r : Res} {μ' : Mem} : ∀ n : Nat, ∀ (x1 : Int32), ∀ (μ : Mem) (b : Nat), rc r 0 ≤ b → f_X2_forgetWays_2 n x1 μ = some (r, μ') → G mX2_forgetWays (Qe r μ') 2 [some (.ref 6), some (.int x1)] [] μ b := by
  intro n
  induction n with
  | zero => intro x1 μ b hb9 h; exact nomatch (show (none : Out) = some _ from h)
  | succ n ih =>
    intro x1 μ b hb9 h
    rw [f_X2_forgetWays_2.eq_2] at h
    refine e_iload_n dX2_forgetWays_2 rfl ?_
    refine e_aload_n dX2_forgetWays_3 rfl ?_
    refine e_get (ci := 0) (j := 0) (t := 2) (v := .ref 12) dX2_forgetWays_4 rfl (by decide) rfl rfl rfl ?_
    refine e_alen (t := 1) (n := 6) (v := (6 : Int32)) dX2_forgetWays_7 (by decide) rfl (by decide) rfl ?_
    refine e_ic_ge (tgt := 24) dX2_forgetWays_8 rfl (fun hc1 => ?_) (fun hc1 => ?_)
    · rw [if_pos hc1] at h
      exact e_vret dX2_forgetWays_24 rfl (ret_eq h)
    · rw [if_neg hc1] at h
      refine e_aload_n dX2_forgetWays_11 rfl ?_
      refine e_get (ci := 0) (j := 0) (t := 2) (v := .ref 12) dX2_forgetWays_12 rfl (by decide) rfl rfl rfl ?_
      refine e_iload_n dX2_forgetWays_15 rfl ?_
      refine e_lconst (v := (0 : Int64)) dX2_forgetWays_16 rfl ?_
      obtain ⟨hc2, h⟩ := ck_eq h
      refine e_lastore (n := 6) dX2_forgetWays_17 (by decide) rfl hc2 ?_
      refine e_naM (e := sJ μ 12 (Int32.toNatClampNeg x1) (0 : Int64)) h (fun μ3 eμ3 h => ?_)
      refine e_iincN 1 (1 : Int32) dX2_forgetWays_18 rfl ci_1 h (fun y9 => [some (.ref 6), some (.int y9)]) (fun _ => rfl) (fun v4 ev4 h => ?_)
      refine e_goto (tgt := 2) dX2_forgetWays_21 rfl ?_
      exact e_le (ih v4 μ3 _ hb9 h) ⟨rfl, rfl, trivial⟩
set_option maxHeartbeats 4000000 in
theorem b_X2_forgetWays : ∀ as μ r μ', Γ_X2_forgetWays as μ r μ' → (elvL as).length ≤ 2 ∧ G mX2_forgetWays (Qe r μ') 0 (elv as 2) [] μ (rc r 0) := by
  intro as μ r μ' h
  obtain ⟨rfl, h⟩ := h
  refine ⟨Nat.le_of_ble_eq_true rfl, ?_⟩
  show G mX2_forgetWays (Qe r μ') 0 [some (.ref 6), none] [] μ (rc r 0)
  unfold F_X2_forgetWays at h
  have hb9 : rc r 0 ≤ rc r 0 := Nat.le_refl _
  refine e_iconst dX2_forgetWays_0 ci_0 ?_
  refine e_istore_nL [some (.ref 6), some (.int (0 : Int32))] dX2_forgetWays_1 (Nat.le_of_ble_eq_true rfl) rfl ?_
  exact e_le (g_X2_forgetWays_2 BIG (0 : Int32) μ _ hb9 h) ⟨rfl, rfl, trivial⟩
set_option maxRecDepth 20000 in
theorem ok_X2_forgetWays (l : Launch) (hl : l.stackTraces = false) : MOK l yX2_forgetWays.cls 1 0 mX2_forgetWays := ⟨lk_all (nil_all), fun ix ci j h => lk_all (P := fun ix q => FldOK yX2_forgetWays.cls ix q.1 q.2) (List.forall_mem_cons.mpr ⟨⟨_, rfl, by decide, t_1 111 rfl rfl⟩, nil_all⟩) ix (ci, j) h, lk_all (nil_all), lk_all (nil_all), lk_all (nil_all)⟩
theorem hd_X2_forgetWays : CallHd yX2_forgetWays 0 := ⟨by decide +kernel, by decide +kernel, by decide +kernel⟩
theorem sc_X2_forgetWays (l : Launch) (hl : l.stackTraces = false) : SCon l yX2_forgetWays cX2_forgetWays 2 none 1 0 0 Γ_X2_forgetWays := scon_of mX2_forgetWays cls_ok hl (by decide +kernel) rfl rfl (ok_X2_forgetWays l hl) rfl rfl b_X2_forgetWays
def F_X2_wayToRow (a0 : Int32) (μ : Mem) : Out := if a0 < 0 then (rJ (0 : Int64) μ) else (if (6 : Int32) ≤ a0 then (rJ (0 : Int64) μ) else (ck (inb a0 6) (rJ (μ.2.1 12 (Int32.toNatClampNeg a0)) μ)))
def Γ_X2_wayToRow : Gam := fun as μ r μ' => ∃ (a0 : Int32), as = [.ref 6, .int a0] ∧ F_X2_wayToRow a0 μ = some (r, μ')
def mX2_wayToRow : MI := (cX2_wayToRow, [], [(9, 0, 0)], [], [], [], [], (29, none), (some .long))
set_option maxHeartbeats 4000000 in
theorem b_X2_wayToRow : ∀ as μ r μ', Γ_X2_wayToRow as μ r μ' → (elvL as).length ≤ 2 ∧ G mX2_wayToRow (Qe r μ') 0 (elv as 2) [] μ (rc r 0) := by
  intro as μ r μ' h
  obtain ⟨a0, rfl, h⟩ := h
  refine ⟨Nat.le_of_ble_eq_true rfl, ?_⟩
  show G mX2_wayToRow (Qe r μ') 0 [some (.ref 6), some (.int a0)] [] μ (rc r 0)
  unfold F_X2_wayToRow at h
  have hb9 : rc r 0 ≤ rc r 0 := Nat.le_refl _
  refine e_iload_n dX2_wayToRow_0 rfl ?_
  refine e_if_lt (tgt := 22) dX2_wayToRow_1 rfl (fun hc1 => ?_) (fun hc1 => ?_)
  · rw [if_pos hc1] at h
    refine e_lconst (v := (0 : Int64)) dX2_wayToRow_22 rfl ?_
    exact e_lret dX2_wayToRow_23 rfl (ret_eq h)
  · rw [if_neg hc1] at h
    refine e_iload_n dX2_wayToRow_4 rfl ?_
    refine e_aload_n dX2_wayToRow_5 rfl ?_
    refine e_get (ci := 0) (j := 0) (t := 2) (v := .ref 12) dX2_wayToRow_6 rfl (by decide) rfl rfl rfl ?_
    refine e_alen (t := 1) (n := 6) (v := (6 : Int32)) dX2_wayToRow_9 (by decide) rfl (by decide) rfl ?_
    refine e_ic_ge (tgt := 22) dX2_wayToRow_10 rfl (fun hc2 => ?_) (fun hc2 => ?_)
    · rw [if_pos hc2] at h
      refine e_lconst (v := (0 : Int64)) dX2_wayToRow_22 rfl ?_
      exact e_lret dX2_wayToRow_23 rfl (ret_eq h)
    · rw [if_neg hc2] at h
      refine e_aload_n dX2_wayToRow_13 rfl ?_
      refine e_get (ci := 0) (j := 0) (t := 2) (v := .ref 12) dX2_wayToRow_14 rfl (by decide) rfl rfl rfl ?_
      refine e_iload_n dX2_wayToRow_17 rfl ?_
      obtain ⟨hc3, h⟩ := ck_eq h
      refine e_laload (n := 6) dX2_wayToRow_18 (by decide) rfl hc3 ?_
      refine e_goto (tgt := 23) dX2_wayToRow_19 rfl ?_
      exact e_lret dX2_wayToRow_23 rfl (ret_eq h)
set_option maxRecDepth 20000 in
theorem ok_X2_wayToRow (l : Launch) (hl : l.stackTraces = false) : MOK l yX2_wayToRow.cls 1 0 mX2_wayToRow := ⟨lk_all (nil_all), fun ix ci j h => lk_all (P := fun ix q => FldOK yX2_wayToRow.cls ix q.1 q.2) (List.forall_mem_cons.mpr ⟨⟨_, rfl, by decide, t_1 111 rfl rfl⟩, nil_all⟩) ix (ci, j) h, lk_all (nil_all), lk_all (nil_all), lk_all (nil_all)⟩
theorem hd_X2_wayToRow : CallHd yX2_wayToRow 1 := ⟨by decide +kernel, by decide +kernel, by decide +kernel⟩
theorem sc_X2_wayToRow (l : Launch) (hl : l.stackTraces = false) : SCon l yX2_wayToRow cX2_wayToRow 2 (some .long) 1 0 0 Γ_X2_wayToRow := scon_of mX2_wayToRow cls_ok hl (by decide +kernel) rfl rfl (ok_X2_wayToRow l hl) rfl rfl b_X2_wayToRow
def f_X2_shift_56 (k19 : Int32 → Int64 → Int64 → Int32 → Int32 → Int32 → Int32 → Mem → Out) : Nat → Int32 → Int64 → Int64 → Int32 → Int32 → Int32 → Int32 → Int32 → Int32 → Mem → Out
  | 0, _, _, _, _, _, _, _, _, _, _ => none
  | n + 1, x2, x3, x5, x7, x8, x9, x10, x11, x12, μ => if (6 : Int32) ≤ x12 then (lt (x10 + (1 : Int32)) (fun v15 => k19 x2 x3 x5 x7 x8 x9 v15 μ)) else (cJ (F_X0_bit x11 x12 μ) (fun v20 μ17 => if (lg_cmp (x3 &&& v20) (0 : Int64)) = 0 then (lt (x12 + (1 : Int32)) (fun v22 => f_X2_shift_56 k19 n x2 x3 x5 x7 x8 x9 x10 x11 v22 μ17)) else (if ((shrI x9 x12) &&& (1 : Int32)) = 0 then (lt (x9 ||| (shlI (1 : Int32) x12)) (fun v24 => cJ (F_X2_wayToRow x11 μ17) (fun v29 μ26 => cJ (F_X0_bit x11 x12 μ26) (fun v34 μ31 => lt (v29 ||| v34) (fun v35 => if ((shrI x2 x12) &&& (1 : Int32)) = 0 then (cI (F_X2_enterRows x12 v35 x5 (x7 ^^^ (-1 : Int32)) μ31) (fun v41 μ38 => lt (x7 ||| v41) (fun v42 => lt (x8 ||| v41) (fun v43 => lt (x12 + (1 : Int32)) (fun v44 => f_X2_shift_56 k19 n x2 x3 x5 v42 v43 v24 x10 x11 v44 μ38))))) else (lt (sJ μ31 6 1 ((μ31.2.1 6 1) ^^^ v35)) (fun μ45 => rI (1 : Int32) μ45))))))) else (lt (x12 + (1 : Int32)) (fun v46 => f_X2_shift_56 k19 n x2 x3 x5 x7 x8 x9 x10 x11 v46 μ17)))))
def f_X2_shift_19 : Nat → Int32 → Int64 → Int64 → Int32 → Int32 → Int32 → Int32 → Mem → Out
  | 0, _, _, _, _, _, _, _, _ => none
  | n + 1, x2, x3, x5, x7, x8, x9, x10, μ => if (6 : Int32) ≤ x10 then (rI (0 : Int32) μ) else (if x8 = 0 then (rI (0 : Int32) μ) else (cI (F_J6_bitCount_0f7a4 ((x8 &&& (-x8)) - (1 : Int32)) μ) (fun v12 μ9 => lt (x8 &&& (x8 - (1 : Int32))) (fun v13 => f_X2_shift_56 (f_X2_shift_19 n) BIG x2 x3 x5 x7 v13 x9 x10 v12 (0 : Int32) μ9))))
def F_X2_shift (a0 : Int32) (a1 : Int32) (a2 : Int64) (a3 : Int64) (μ : Mem) : Out := cV (F_X2_forgetWays μ) (fun μ2 => lt (shlI (1 : Int32) a0) (fun v5 => f_X2_shift_19 BIG a1 a2 a3 v5 v5 (0 : Int32) (0 : Int32) μ2))
def Γ_X2_shift : Gam := fun as μ r μ' => ∃ (a0 : Int32) (a1 : Int32) (a2 : Int64) (a3 : Int64), as = [.ref 6, .int a0, .int a1, .long a2, .long a3] ∧ F_X2_shift a0 a1 a2 a3 μ = some (r, μ')
def mX2_shift : MI := (cX2_shift, [(102, (1, 0, 0, 0, Γ_X2_forgetWays)), (105, (0, 1, 0, 0, Γ_J6_bitCount_0f7a4)), (109, (0, 2, 0, 0, Γ_X0_bit)), (113, (1, 1, 0, 0, Γ_X2_wayToRow)), (116, (1, 4, 0, 0, Γ_X2_enterRows))], [(15, 0, 1)], [], [], [], [], (29, none), (some .boolean))
set_option maxHeartbeats 4000000 in
theorem g_X2_shift_56 {r : Res} {μ' : Mem} {k19 : Int32 → Int64 → Int64 → Int32 → Int32 → Int32 → Int32 → Mem → Out} (hk19 : ∀ (x2 : Int32) (x3 : Int64) (x5 : Int64) (x7 : Int32) (x8 : Int32) (x9 : Int32) (x10 : Int32), ∀ (μ : Mem) (b : Nat), rc r 0 ≤ b → k19 x2 x3 x5 x7 x8 x9 x10 μ = some (r, μ') → G mX2_shift (Qe r μ') 19 [some (.ref 6), none, some (.int x2), some (.long x3), none, some (.long x5), none, some (.int x7), some (.int x8), some (.int x9), some (.int x10), none, none, none, none, none] [] μ b) : ∀ n : Nat, ∀ (x2 : Int32) (x3 : Int64) (x5 : Int64) (x7 : Int32) (x8 : Int32) (x9 : Int32) (x10 : Int32) (x11 : Int32) (x12 : Int32), ∀ (μ : Mem) (b : Nat), rc r 0 ≤ b → f_X2_shift_56 k19 n x2 x3 x5 x7 x8 x9 x10 x11 x12 μ = some (r, μ') → G mX2_shift (Qe r μ') 56 [some (.ref 6), none, some (.int x2), some (.long x3), none, some (.long x5), none, some (.int x7), some (.int x8), some (.int x9), some (.int x10), some (.int x11), some (.int x12), none, none, none] [] μ b := by
  intro n
  induction n with
  | zero => intro x2 x3 x5 x7 x8 x9 x10 x11 x12 μ b hb9 h; exact nomatch (show (none : Out) = some _ from h)
  | succ n ih =>
    intro x2 x3 x5 x7 x8 x9 x10 x11 x12 μ b hb9 h
    rw [f_X2_shift_56.eq_2] at h
    refine e_iload dX2_shift_56 rfl ?_
    refine e_bipush dX2_shift_58 cb_6 ?_
    refine e_ic_ge (tgt := 173) dX2_shift_60 rfl (fun hc14 => ?_) (fun hc14 => ?_)
    · rw [if_pos hc14] at h
      refine e_iincN 10 (1 : Int32) dX2_shift_173 rfl ci_1 h (fun y9 => [some (.ref 6), none, some (.int x2), some (.long x3), none, some (.long x5), none, some (.int x7), some (.int x8), some (.int x9), some (.int y9), some (.int x11), some (.int x12), none, none, none]) (fun _ => rfl) (fun v15 ev15 h => ?_)
      refine e_goto (tgt := 19) dX2_shift_176 rfl ?_
      exact e_le (hk19 x2 x3 x5 x7 x8 x9 v15 μ _ hb9 h) ⟨rfl, rfl, rfl, rfl, rfl, rfl, rfl, rfl, trivial⟩
    · rw [if_neg hc14] at h
      refine e_lload_n dX2_shift_63 rfl ?_
      refine e_iload dX2_shift_64 rfl ?_
      refine e_iload dX2_shift_66 rfl ?_
      refine cJ_go h (fun E18 hc16 hr19 => e_SX [.int x11, .int x12] [.long x3] dX2_shift_68 rfl (by decide) rfl rfl (Nat.le_of_ble_eq_true rfl) (hbr hr19 hb9 (Nat.le_of_ble_eq_true rfl)) ⟨x11, x12, rfl, hc16⟩ rfl ⟨hr19.symm, rfl⟩) (fun v20 μ17 hc16 h => ?_)
      refine e_SJ [.int x11, .int x12] [.long x3] dX2_shift_68 rfl (by decide) rfl rfl (Nat.le_of_ble_eq_true rfl) ⟨x11, x12, rfl, hc16⟩ ?_
      refine e_land dX2_shift_71 ?_
      refine e_lconst (v := (0 : Int64)) dX2_shift_72 rfl ?_
      refine e_lcmp dX2_shift_73 ?_
      refine e_if_eq (tgt := 167) dX2_shift_74 rfl (fun hc21 => ?_) (fun hc21 => ?_)
      · rw [if_pos hc21] at h
        refine e_iincN 12 (1 : Int32) dX2_shift_167 rfl ci_1 h (fun y9 => [some (.ref 6), none, some (.int x2), some (.long x3), none, some (.long x5), none, some (.int x7), some (.int x8), some (.int x9), some (.int x10), some (.int x11), some (.int y9), none, none, none]) (fun _ => rfl) (fun v22 ev22 h => ?_)
        refine e_goto (tgt := 56) dX2_shift_170 rfl ?_
        exact e_le (ih x2 x3 x5 x7 x8 x9 x10 x11 v22 μ17 _ hb9 h) ⟨rfl, rfl, rfl, rfl, rfl, rfl, rfl, rfl, rfl, rfl, trivial⟩
      · rw [if_neg hc21] at h
        refine e_iload dX2_shift_77 rfl ?_
        refine e_iload dX2_shift_79 rfl ?_
        refine e_ishr dX2_shift_81 ?_
        refine e_iconst dX2_shift_82 ci_1 ?_
        refine e_iand dX2_shift_83 ?_
        refine e_if_eq (tgt := 90) dX2_shift_84 rfl (fun hc23 => ?_) (fun hc23 => ?_)
        · rw [if_pos hc23] at h
          refine e_iload dX2_shift_90 rfl ?_
          refine e_iconst dX2_shift_92 ci_1 ?_
          refine e_iload dX2_shift_93 rfl ?_
          refine e_ishl dX2_shift_95 ?_
          refine e_ior dX2_shift_96 ?_
          refine e_naI h (fun v24 ev24 h => ?_)
          refine e_istoreL [some (.ref 6), none, some (.int x2), some (.long x3), none, some (.long x5), none, some (.int x7), some (.int x8), some (.int v24), some (.int x10), some (.int x11), some (.int x12), none, none, none] dX2_shift_97 (Nat.le_of_ble_eq_true rfl) rfl ?_
          refine e_aload_n dX2_shift_99 rfl ?_
          refine e_iload dX2_shift_100 rfl ?_
          refine cJ_go h (fun E27 hc25 hr28 => e_VX [.int x11] [] dX2_shift_102 rfl rfl rfl rfl ⟨Nat.le_of_ble_eq_true rfl, rfl⟩ (Nat.le_of_ble_eq_true rfl) (hbr hr28 hb9 (Nat.le_of_ble_eq_true rfl)) ⟨x11, rfl, hc25⟩ rfl ⟨hr28.symm, rfl⟩) (fun v29 μ26 hc25 h => ?_)
          refine e_VJ [.int x11] [] dX2_shift_102 rfl rfl rfl rfl ⟨Nat.le_of_ble_eq_true rfl, rfl⟩ (Nat.le_of_ble_eq_true rfl) ⟨x11, rfl, hc25⟩ ?_
          refine e_iload dX2_shift_105 rfl ?_
          refine e_iload dX2_shift_107 rfl ?_
          refine cJ_go h (fun E32 hc30 hr33 => e_SX [.int x11, .int x12] [.long v29] dX2_shift_109 rfl (by decide) rfl rfl (Nat.le_of_ble_eq_true rfl) (hbr hr33 hb9 (Nat.le_of_ble_eq_true rfl)) ⟨x11, x12, rfl, hc30⟩ rfl ⟨hr33.symm, rfl⟩) (fun v34 μ31 hc30 h => ?_)
          refine e_SJ [.int x11, .int x12] [.long v29] dX2_shift_109 rfl (by decide) rfl rfl (Nat.le_of_ble_eq_true rfl) ⟨x11, x12, rfl, hc30⟩ ?_
          refine e_lor dX2_shift_112 ?_
          refine e_naJ h (fun v35 ev35 h => ?_)
          refine e_lstoreL [some (.ref 6), none, some (.int x2), some (.long x3), none, some (.long x5), none, some (.int x7), some (.int x8), some (.int v24), some (.int x10), some (.int x11), some (.int x12), some (.long v35), none, none] dX2_shift_113 (Nat.le_of_ble_eq_true rfl) rfl ?_
          refine e_iload_n dX2_shift_115 rfl ?_
          refine e_iload dX2_shift_116 rfl ?_
          refine e_ishr dX2_shift_118 ?_
          refine e_iconst dX2_shift_119 ci_1 ?_
          refine e_iand dX2_shift_120 ?_
          refine e_if_eq (tgt := 137) dX2_shift_121 rfl (fun hc36 => ?_) (fun hc36 => ?_)
          · rw [if_pos hc36] at h
            refine e_aload_n dX2_shift_137 rfl ?_
            refine e_iload dX2_shift_138 rfl ?_
            refine e_lload dX2_shift_140 rfl ?_
            refine e_lload dX2_shift_142 rfl ?_
            refine e_iload dX2_shift_144 rfl ?_
            refine e_iconst dX2_shift_146 ci_m1 ?_
            refine e_ixor dX2_shift_147 ?_
            refine cI_go h (fun E39 hc37 hr40 => e_VX [.int x12, .long v35, .long x5, .int (x7 ^^^ (-1 : Int32))] [] dX2_shift_148 rfl rfl rfl rfl ⟨Nat.le_of_ble_eq_true rfl, rfl⟩ (Nat.le_of_ble_eq_true rfl) (hbr hr40 hb9 (Nat.le_of_ble_eq_true rfl)) ⟨x12, v35, x5, x7 ^^^ (-1 : Int32), rfl, hc37⟩ rfl ⟨hr40.symm, rfl⟩) (fun v41 μ38 hc37 h => ?_)
            refine e_VI [.int x12, .long v35, .long x5, .int (x7 ^^^ (-1 : Int32))] [] dX2_shift_148 rfl rfl rfl rfl ⟨Nat.le_of_ble_eq_true rfl, rfl⟩ (Nat.le_of_ble_eq_true rfl) ⟨x12, v35, x5, x7 ^^^ (-1 : Int32), rfl, hc37⟩ ?_
            refine e_istoreL [some (.ref 6), none, some (.int x2), some (.long x3), none, some (.long x5), none, some (.int x7), some (.int x8), some (.int v24), some (.int x10), some (.int x11), some (.int x12), some (.long v35), none, some (.int v41)] dX2_shift_151 (Nat.le_of_ble_eq_true rfl) rfl ?_
            refine e_iload dX2_shift_153 rfl ?_
            refine e_iload dX2_shift_155 rfl ?_
            refine e_ior dX2_shift_157 ?_
            refine e_naI h (fun v42 ev42 h => ?_)
            refine e_istoreL [some (.ref 6), none, some (.int x2), some (.long x3), none, some (.long x5), none, some (.int v42), some (.int x8), some (.int v24), some (.int x10), some (.int x11), some (.int x12), some (.long v35), none, some (.int v41)] dX2_shift_158 (Nat.le_of_ble_eq_true rfl) rfl ?_
            refine e_iload dX2_shift_160 rfl ?_
            refine e_iload dX2_shift_162 rfl ?_
            refine e_ior dX2_shift_164 ?_
            refine e_naI h (fun v43 ev43 h => ?_)
            refine e_istoreL [some (.ref 6), none, some (.int x2), some (.long x3), none, some (.long x5), none, some (.int v42), some (.int v43), some (.int v24), some (.int x10), some (.int x11), some (.int x12), some (.long v35), none, some (.int v41)] dX2_shift_165 (Nat.le_of_ble_eq_true rfl) rfl ?_
            refine e_iincN 12 (1 : Int32) dX2_shift_167 rfl ci_1 h (fun y9 => [some (.ref 6), none, some (.int x2), some (.long x3), none, some (.long x5), none, some (.int v42), some (.int v43), some (.int v24), some (.int x10), some (.int x11), some (.int y9), some (.long v35), none, some (.int v41)]) (fun _ => rfl) (fun v44 ev44 h => ?_)
            refine e_goto (tgt := 56) dX2_shift_170 rfl ?_
            exact e_le (ih x2 x3 x5 v42 v43 v24 x10 x11 v44 μ38 _ hb9 h) ⟨rfl, rfl, rfl, rfl, rfl, rfl, rfl, rfl, rfl, rfl, trivial⟩
          · rw [if_neg hc36] at h
            refine e_aload_n dX2_shift_124 rfl ?_
            refine e_dup dX2_shift_125 rfl ?_
            refine e_get (ci := 0) (j := 1) (t := 1) (v := .long (μ31.2.1 6 1)) dX2_shift_126 rfl (by decide) rfl rfl rfl ?_
            refine e_lload dX2_shift_129 rfl ?_
            refine e_lxor dX2_shift_131 ?_
            refine e_putJ (ci := 0) (j := 1) dX2_shift_132 rfl (by decide) rfl rfl ?_
            refine e_naM (e := sJ μ31 6 1 ((μ31.2.1 6 1) ^^^ v35)) h (fun μ45 eμ45 h => ?_)
            refine e_iconst dX2_shift_135 ci_1 ?_
            exact e_iret .boolean dX2_shift_136 rfl rfl (ret_eq h)
        · rw [if_neg hc23] at h
          refine e_goto (tgt := 167) dX2_shift_87 rfl ?_
          refine e_iincN 12 (1 : Int32) dX2_shift_167 rfl ci_1 h (fun y9 => [some (.ref 6), none, some (.int x2), some (.long x3), none, some (.long x5), none, some (.int x7), some (.int x8), some (.int x9), some (.int x10), some (.int x11), some (.int y9), none, none, none]) (fun _ => rfl) (fun v46 ev46 h => ?_)
          refine e_goto (tgt := 56) dX2_shift_170 rfl ?_
          exact e_le (ih x2 x3 x5 x7 x8 x9 x10 x11 v46 μ17 _ hb9 h) ⟨rfl, rfl, rfl, rfl, rfl, rfl, rfl, rfl, rfl, rfl, trivial⟩
set_option maxHeartbeats 4000000 in
theorem g_X2_shift_19 {r : Res} {μ' : Mem} : ∀ n : Nat, ∀ (x2 : Int32) (x3 : Int64) (x5 : Int64) (x7 : Int32) (x8 : Int32) (x9 : Int32) (x10 : Int32), ∀ (μ : Mem) (b : Nat), rc r 0 ≤ b → f_X2_shift_19 n x2 x3 x5 x7 x8 x9 x10 μ = some (r, μ') → G mX2_shift (Qe r μ') 19 [some (.ref 6), none, some (.int x2), some (.long x3), none, some (.long x5), none, some (.int x7), some (.int x8), some (.int x9), some (.int x10), none, none, none, none, none] [] μ b := by
  intro n
  induction n with
  | zero => intro x2 x3 x5 x7 x8 x9 x10 μ b hb9 h; exact nomatch (show (none : Out) = some _ from h)
  | succ n ih =>
    intro x2 x3 x5 x7 x8 x9 x10 μ b hb9 h
    rw [f_X2_shift_19.eq_2] at h
    refine e_iload dX2_shift_19 rfl ?_
    refine e_bipush dX2_shift_21 cb_6 ?_
    refine e_ic_ge (tgt := 179) dX2_shift_23 rfl (fun hc6 => ?_) (fun hc6 => ?_)
    · rw [if_pos hc6] at h
      refine e_iconst dX2_shift_179 ci_0 ?_
      exact e_iret .boolean dX2_shift_180 rfl rfl (ret_eq h)
    · rw [if_neg hc6] at h
      refine e_iload dX2_shift_26 rfl ?_
      refine e_if_eq (tgt := 179) dX2_shift_28 rfl (fun hc7 => ?_) (fun hc7 => ?_)
      · rw [if_pos hc7] at h
        refine e_iconst dX2_shift_179 ci_0 ?_
        exact e_iret .boolean dX2_shift_180 rfl rfl (ret_eq h)
      · rw [if_neg hc7] at h
        refine e_iload dX2_shift_31 rfl ?_
        refine e_iload dX2_shift_33 rfl ?_
        refine e_ineg dX2_shift_35 ?_
        refine e_iand dX2_shift_36 ?_
        refine e_iconst dX2_shift_37 ci_1 ?_
        refine e_isub dX2_shift_38 ?_
        refine cI_go h (fun E10 hc8 hr11 => e_SX [.int ((x8 &&& (-x8)) - (1 : Int32))] [] dX2_shift_39 rfl (by decide) rfl rfl (Nat.le_of_ble_eq_true rfl) (hbr hr11 hb9 (Nat.le_of_ble_eq_true rfl)) ⟨(x8 &&& (-x8)) - (1 : Int32), rfl, hc8⟩ rfl ⟨hr11.symm, rfl⟩) (fun v12 μ9 hc8 h => ?_)
        refine e_SI [.int ((x8 &&& (-x8)) - (1 : Int32))] [] dX2_shift_39 rfl (by decide) rfl rfl (Nat.le_of_ble_eq_true rfl) ⟨(x8 &&& (-x8)) - (1 : Int32), rfl, hc8⟩ ?_
        refine e_istoreL [some (.ref 6), none, some (.int x2), some (.long x3), none, some (.long x5), none, some (.int x7), some (.int x8), some (.int x9), some (.int x10), some (.int v12), none, none, none, none] dX2_shift_42 (Nat.le_of_ble_eq_true rfl) rfl ?_
        refine e_iload dX2_shift_44 rfl ?_
        refine e_iload dX2_shift_46 rfl ?_
        refine e_iconst dX2_shift_48 ci_1 ?_
        refine e_isub dX2_shift_49 ?_
        refine e_iand dX2_shift_50 ?_
        refine e_naI h (fun v13 ev13 h => ?_)
        refine e_istoreL [some (.ref 6), none, some (.int x2), some (.long x3), none, some (.long x5), none, some (.int x7), some (.int v13), some (.int x9), some (.int x10), some (.int v12), none, none, none, none] dX2_shift_51 (Nat.le_of_ble_eq_true rfl) rfl ?_
        refine e_iconst dX2_shift_53 ci_0 ?_
        refine e_istoreL [some (.ref 6), none, some (.int x2), some (.long x3), none, some (.long x5), none, some (.int x7), some (.int v13), some (.int x9), some (.int x10), some (.int v12), some (.int (0 : Int32)), none, none, none] dX2_shift_54 (Nat.le_of_ble_eq_true rfl) rfl ?_
        exact e_le (g_X2_shift_56 ih BIG x2 x3 x5 x7 v13 x9 x10 v12 (0 : Int32) μ9 _ hb9 h) ⟨rfl, rfl, rfl, rfl, rfl, rfl, rfl, rfl, rfl, rfl, trivial⟩
set_option maxHeartbeats 4000000 in
theorem b_X2_shift : ∀ as μ r μ', Γ_X2_shift as μ r μ' → (elvL as).length ≤ 16 ∧ G mX2_shift (Qe r μ') 0 (elv as 16) [] μ (rc r 0) := by
  intro as μ r μ' h
  obtain ⟨a0, a1, a2, a3, rfl, h⟩ := h
  refine ⟨Nat.le_of_ble_eq_true rfl, ?_⟩
  show G mX2_shift (Qe r μ') 0 [some (.ref 6), some (.int a0), some (.int a1), some (.long a2), none, some (.long a3), none, none, none, none, none, none, none, none, none, none] [] μ (rc r 0)
  unfold F_X2_shift at h
  have hb9 : rc r 0 ≤ rc r 0 := Nat.le_refl _
  refine e_aload_n dX2_shift_0 rfl ?_
  refine cV_go h (fun E3 hc1 hr4 => e_VX [] [] dX2_shift_1 rfl rfl rfl rfl ⟨Nat.le_of_ble_eq_true rfl, rfl⟩ (Nat.le_of_ble_eq_true rfl) (hbr hr4 hb9 (Nat.le_of_ble_eq_true rfl)) ⟨rfl, hc1⟩ rfl ⟨hr4.symm, rfl⟩) (fun μ2 hc1 h => ?_)
  refine e_VV [] [] dX2_shift_1 rfl rfl rfl rfl ⟨Nat.le_of_ble_eq_true rfl, rfl⟩ (Nat.le_of_ble_eq_true rfl) ⟨rfl, hc1⟩ ?_
  refine e_iconst dX2_shift_4 ci_1 ?_
  refine e_iload_n dX2_shift_5 rfl ?_
  refine e_ishl dX2_shift_6 ?_
  refine e_naI h (fun v5 ev5 h => ?_)
  refine e_istoreL [some (.ref 6), some (.int a0), some (.int a1), some (.long a2), none, some (.long a3), none, some (.int v5), none, none, none, none, none, none, none, none] dX2_shift_7 (Nat.le_of_ble_eq_true rfl) rfl ?_
  refine e_iload dX2_shift_9 rfl ?_
  refine e_istoreL [some (.ref 6), some (.int a0), some (.int a1), some (.long a2), none, some (.long a3), none, some (.int v5), some (.int v5), none, none, none, none, none, none, none] dX2_shift_11 (Nat.le_of_ble_eq_true rfl) rfl ?_
  refine e_iconst dX2_shift_13 ci_0 ?_
  refine e_istoreL [some (.ref 6), some (.int a0), some (.int a1), some (.long a2), none, some (.long a3), none, some (.int v5), some (.int v5), some (.int (0 : Int32)), none, none, none, none, none, none] dX2_shift_14 (Nat.le_of_ble_eq_true rfl) rfl ?_
  refine e_iconst dX2_shift_16 ci_0 ?_
  refine e_istoreL [some (.ref 6), some (.int a0), some (.int a1), some (.long a2), none, some (.long a3), none, some (.int v5), some (.int v5), some (.int (0 : Int32)), some (.int (0 : Int32)), none, none, none, none, none] dX2_shift_17 (Nat.le_of_ble_eq_true rfl) rfl ?_
  exact e_le (g_X2_shift_19 BIG a1 a2 a3 v5 v5 (0 : Int32) (0 : Int32) μ2 _ hb9 h) ⟨rfl, rfl, rfl, rfl, rfl, rfl, rfl, rfl, trivial⟩
set_option maxRecDepth 20000 in
theorem ok_X2_shift (l : Launch) (hl : l.stackTraces = false) : MOK l yX2_shift.cls 2 30 mX2_shift := ⟨lk_all (List.forall_mem_cons.mpr ⟨⟨yX2_forgetWays, cX2_forgetWays, 2, none, 1, 0, by decide, by decide, t_1 6 rfl rfl, hd_X2_forgetWays, Or.inr (Or.inl ⟨rfl, sc_X2_forgetWays l hl, t_2 168 rfl rfl, t_2 165 rfl rfl, t_2 167 rfl rfl, _, rfl, t_p 8 rfl⟩)⟩, List.forall_mem_cons.mpr ⟨⟨yJ6_bitCount_0f7a4, cJ6_bitCount_0f7a4, 1, (some .int), 1, 0, by decide, by decide, t_1 10 rfl rfl, hd_J6_bitCount_0f7a4, Or.inl ⟨rfl, sc_J6_bitCount_0f7a4 l hl, t_2 2 rfl rfl, t_2 169 rfl rfl, t_2 1 rfl rfl⟩⟩, List.forall_mem_cons.mpr ⟨⟨yX0_bit, cX0_bit, 2, (some .long), 1, 0, by decide, by decide, t_1 9 rfl rfl, hd_X0_bit, Or.inl ⟨rfl, sc_X0_bit l hl, t_2 131 rfl rfl, t_2 170 rfl rfl, t_2 130 rfl rfl⟩⟩, List.forall_mem_cons.mpr ⟨⟨yX2_wayToRow, cX2_wayToRow, 2, (some .long), 1, 0, by decide, by decide, t_1 6 rfl rfl, hd_X2_wayToRow, Or.inr (Or.inl ⟨rfl, sc_X2_wayToRow l hl, t_2 174 rfl rfl, t_2 171 rfl rfl, t_2 173 rfl rfl, _, rfl, t_p 9 rfl⟩)⟩, List.forall_mem_cons.mpr ⟨⟨yX2_enterRows, cX2_enterRows, 11, (some .int), 1, 0, by decide, by decide, t_1 6 rfl rfl, hd_X2_enterRows, Or.inr (Or.inl ⟨rfl, sc_X2_enterRows l hl, t_2 178 rfl rfl, t_2 175 rfl rfl, t_2 177 rfl rfl, _, rfl, t_p 10 rfl⟩)⟩, nil_all⟩⟩⟩⟩⟩), fun ix ci j h => lk_all (P := fun ix q => FldOK yX2_shift.cls ix q.1 q.2) (List.forall_mem_cons.mpr ⟨⟨_, rfl, by decide, t_1 112 rfl rfl⟩, nil_all⟩) ix (ci, j) h, lk_all (nil_all), lk_all (nil_all), lk_all (nil_all)⟩
theorem hd_X2_shift : CallHd yX2_shift 4 := ⟨by decide +kernel, by decide +kernel, by decide +kernel⟩
theorem sc_X2_shift (l : Launch) (hl : l.stackTraces = false) : SCon l yX2_shift cX2_shift 16 (some .boolean) 2 30 0 Γ_X2_shift := scon_of mX2_shift cls_ok hl (by decide +kernel) rfl rfl (ok_X2_shift l hl) rfl rfl b_X2_shift
def f_X2_change_83 (x2 : Int64) (s0 : Int64) (s1 : Int64) (s2 : Int32) (s3 : Int32) (μ : Mem) : Out := cI (F_X2_shift s3 s2 s1 s0 μ) (fun v22 μ19 => if v22 = 0 then (ck (nz v22) (rI v22 μ19)) else (lt (sJ μ19 6 1 ((μ19.2.1 6 1) ^^^ x2)) (fun μ25 => ck (nz v22) (rI v22 μ25))))
def f_X2_change_20 (x1 : Int32) (x2 : Int64) (s0 : Int32) (μ : Mem) : Out := lt ((μ.2.1 6 2) &&& (μ.2.1 6 1)) (fun v3 => lt ((μ.2.1 6 2) &&& ((μ.2.1 6 1) ^^^ (-1 : Int64))) (fun v4 => cI (F_X0_rowAt x1 μ) (fun v9 μ6 => cI (F_X0_columnAt x1 μ6) (fun v14 μ11 => if s0 = 0 then (if s0 = 0 then (f_X2_change_83 x2 v4 v3 (shlI (1 : Int32) v14) v9 μ11) else (f_X2_change_83 x2 v3 v3 (shlI (1 : Int32) v14) v9 μ11)) else (if s0 = 0 then (f_X2_change_83 x2 v4 v4 (shlI (1 : Int32) v14) v9 μ11) else (f_X2_change_83 x2 v3 v4 (shlI (1 : Int32) v14) v9 μ11))))))
def F_X2_change (a0 : Int32) (μ : Mem) : Out := lt (shlL (1 : Int64) a0) (fun v1 => if (lg_cmp ((μ.2.1 6 1) &&& v1) (0 : Int64)) = 0 then (f_X2_change_20 a0 v1 (0 : Int32) μ) else (f_X2_change_20 a0 v1 (1 : Int32) μ))
def Γ_X2_change : Gam := fun as μ r μ' => ∃ (a0 : Int32), as = [.ref 6, .int a0] ∧ F_X2_change a0 μ = some (r, μ')
def mX2_change : MI := (cX2_change, [(83, (1, 4, 0, 0, Γ_X2_shift)), (96, (0, 1, 0, 0, Γ_X0_rowAt)), (99, (0, 1, 0, 0, Γ_X0_columnAt))], [(15, 0, 1), (19, 0, 2)], [], [(42, -1)], [], [], (29, none), (some .boolean))
set_option maxHeartbeats 4000000 in
theorem g_X2_change_83 {r : Res} {μ' : Mem} : ∀ (x2 : Int64) (s0 : Int64) (s1 : Int64) (s2 : Int32) (s3 : Int32), ∀ (μ : Mem) (b : Nat), rc r 0 ≤ b → f_X2_change_83 x2 s0 s1 s2 s3 μ = some (r, μ') → G mX2_change (Qe r μ') 83 [some (.ref 6), none, some (.long x2), none, none, none, none, none, none, none] [.long s0, .long s1, .int s2, .int s3, .ref 6] μ b := by
  intro x2 s0 s1 s2 s3 μ b hb9 h
  unfold f_X2_change_83 at h
  refine cI_go h (fun E20 hc18 hr21 => e_VX [.int s3, .int s2, .long s1, .long s0] [] dX2_change_83 rfl rfl rfl rfl ⟨Nat.le_of_ble_eq_true rfl, rfl⟩ (Nat.le_of_ble_eq_true rfl) (hbr hr21 hb9 (Nat.le_of_ble_eq_true rfl)) ⟨s3, s2, s1, s0, rfl, hc18⟩ rfl ⟨hr21.symm, rfl⟩) (fun v22 μ19 hc18 h => ?_)
  refine e_VI [.int s3, .int s2, .long s1, .long s0] [] dX2_change_83 rfl rfl rfl rfl ⟨Nat.le_of_ble_eq_true rfl, rfl⟩ (Nat.le_of_ble_eq_true rfl) ⟨s3, s2, s1, s0, rfl, hc18⟩ ?_
  refine e_istoreL [some (.ref 6), none, some (.long x2), none, none, none, none, none, none, some (.int v22)] dX2_change_86 (Nat.le_of_ble_eq_true rfl) rfl ?_
  refine e_iload dX2_change_88 rfl ?_
  refine e_if_eq (tgt := 103) dX2_change_90 rfl (fun hc23 => ?_) (fun hc23 => ?_)
  · rw [if_pos hc23] at h
    refine e_iload dX2_change_103 rfl ?_
    obtain ⟨hc24, h⟩ := ck_eq h
    exact e_iret .boolean dX2_change_105 rfl hc24 (ret_eq h)
  · rw [if_neg hc23] at h
    refine e_aload_n dX2_change_93 rfl ?_
    refine e_dup dX2_change_94 rfl ?_
    refine e_get (ci := 0) (j := 1) (t := 1) (v := .long (μ19.2.1 6 1)) dX2_change_95 rfl (by decide) rfl rfl rfl ?_
    refine e_lload_n dX2_change_98 rfl ?_
    refine e_lxor dX2_change_99 ?_
    refine e_putJ (ci := 0) (j := 1) dX2_change_100 rfl (by decide) rfl rfl ?_
    refine e_naM (e := sJ μ19 6 1 ((μ19.2.1 6 1) ^^^ x2)) h (fun μ25 eμ25 h => ?_)
    refine e_iload dX2_change_103 rfl ?_
    obtain ⟨hc26, h⟩ := ck_eq h
    exact e_iret .boolean dX2_change_105 rfl hc26 (ret_eq h)
set_option maxHeartbeats 4000000 in
theorem g_X2_change_20 {r : Res} {μ' : Mem} : ∀ (x1 : Int32) (x2 : Int64) (s0 : Int32), ∀ (μ : Mem) (b : Nat), rc r 0 ≤ b → f_X2_change_20 x1 x2 s0 μ = some (r, μ') → G mX2_change (Qe r μ') 20 [some (.ref 6), some (.int x1), some (.long x2), none, none, none, none, none, none, none] [.int s0] μ b := by
  intro x1 x2 s0 μ b hb9 h
  unfold f_X2_change_20 at h
  refine e_istoreL [some (.ref 6), some (.int x1), some (.long x2), none, some (.int s0), none, none, none, none, none] dX2_change_20 (Nat.le_of_ble_eq_true rfl) rfl ?_
  refine e_aload_n dX2_change_22 rfl ?_
  refine e_get (ci := 0) (j := 2) (t := 1) (v := .long (μ.2.1 6 2)) dX2_change_23 rfl (by decide) rfl rfl rfl ?_
  refine e_aload_n dX2_change_26 rfl ?_
  refine e_get (ci := 0) (j := 1) (t := 1) (v := .long (μ.2.1 6 1)) dX2_change_27 rfl (by decide) rfl rfl rfl ?_
  refine e_land dX2_change_30 ?_
  refine e_naJ h (fun v3 ev3 h => ?_)
  refine e_lstoreL [some (.ref 6), some (.int x1), some (.long x2), none, some (.int s0), some (.long v3), none, none, none, none] dX2_change_31 (Nat.le_of_ble_eq_true rfl) rfl ?_
  refine e_aload_n dX2_change_33 rfl ?_
  refine e_get (ci := 0) (j := 2) (t := 1) (v := .long (μ.2.1 6 2)) dX2_change_34 rfl (by decide) rfl rfl rfl ?_
  refine e_aload_n dX2_change_37 rfl ?_
  refine e_get (ci := 0) (j := 1) (t := 1) (v := .long (μ.2.1 6 1)) dX2_change_38 rfl (by decide) rfl rfl rfl ?_
  refine e_ldc2 (v := (-1 : Int64)) dX2_change_41 rfl ?_
  refine e_lxor dX2_change_44 ?_
  refine e_land dX2_change_45 ?_
  refine e_naJ h (fun v4 ev4 h => ?_)
  refine e_lstoreL [some (.ref 6), some (.int x1), some (.long x2), none, some (.int s0), some (.long v3), none, some (.long v4), none, none] dX2_change_46 (Nat.le_of_ble_eq_true rfl) rfl ?_
  refine e_aload_n dX2_change_48 rfl ?_
  refine e_iload_n dX2_change_49 rfl ?_
  refine cI_go h (fun E7 hc5 hr8 => e_SX [.int x1] [.ref 6] dX2_change_50 rfl (by decide) rfl rfl (Nat.le_of_ble_eq_true rfl) (hbr hr8 hb9 (Nat.le_of_ble_eq_true rfl)) ⟨x1, rfl, hc5⟩ rfl ⟨hr8.symm, rfl⟩) (fun v9 μ6 hc5 h => ?_)
  refine e_SI [.int x1] [.ref 6] dX2_change_50 rfl (by decide) rfl rfl (Nat.le_of_ble_eq_true rfl) ⟨x1, rfl, hc5⟩ ?_
  refine e_iconst dX2_change_53 ci_1 ?_
  refine e_iload_n dX2_change_54 rfl ?_
  refine cI_go h (fun E12 hc10 hr13 => e_SX [.int x1] [.int (1 : Int32), .int v9, .ref 6] dX2_change_55 rfl (by decide) rfl rfl (Nat.le_of_ble_eq_true rfl) (hbr hr13 hb9 (Nat.le_of_ble_eq_true rfl)) ⟨x1, rfl, hc10⟩ rfl ⟨hr13.symm, rfl⟩) (fun v14 μ11 hc10 h => ?_)
  refine e_SI [.int x1] [.int (1 : Int32), .int v9, .ref 6] dX2_change_55 rfl (by decide) rfl rfl (Nat.le_of_ble_eq_true rfl) ⟨x1, rfl, hc10⟩ ?_
  refine e_ishl dX2_change_58 ?_
  refine e_iload dX2_change_59 rfl ?_
  refine e_if_eq (tgt := 69) dX2_change_61 rfl (fun hc15 => ?_) (fun hc15 => ?_)
  · rw [if_pos hc15] at h
    refine e_lload dX2_change_69 rfl ?_
    refine e_iload dX2_change_71 rfl ?_
    refine e_if_eq (tgt := 81) dX2_change_73 rfl (fun hc16 => ?_) (fun hc16 => ?_)
    · rw [if_pos hc16] at h
      refine e_lload dX2_change_81 rfl ?_
      exact e_le (g_X2_change_83 x2 v4 v3 (shlI (1 : Int32) v14) v9 μ11 _ hb9 h) ⟨rfl, rfl, trivial⟩
    · rw [if_neg hc16] at h
      refine e_lload dX2_change_76 rfl ?_
      refine e_goto (tgt := 83) dX2_change_78 rfl ?_
      exact e_le (g_X2_change_83 x2 v3 v3 (shlI (1 : Int32) v14) v9 μ11 _ hb9 h) ⟨rfl, rfl, trivial⟩
  · rw [if_neg hc15] at h
    refine e_lload dX2_change_64 rfl ?_
    refine e_goto (tgt := 71) dX2_change_66 rfl ?_
    refine e_iload dX2_change_71 rfl ?_
    refine e_if_eq (tgt := 81) dX2_change_73 rfl (fun hc17 => ?_) (fun hc17 => ?_)
    · rw [if_pos hc17] at h
      refine e_lload dX2_change_81 rfl ?_
      exact e_le (g_X2_change_83 x2 v4 v4 (shlI (1 : Int32) v14) v9 μ11 _ hb9 h) ⟨rfl, rfl, trivial⟩
    · rw [if_neg hc17] at h
      refine e_lload dX2_change_76 rfl ?_
      refine e_goto (tgt := 83) dX2_change_78 rfl ?_
      exact e_le (g_X2_change_83 x2 v3 v4 (shlI (1 : Int32) v14) v9 μ11 _ hb9 h) ⟨rfl, rfl, trivial⟩
set_option maxHeartbeats 4000000 in
theorem b_X2_change : ∀ as μ r μ', Γ_X2_change as μ r μ' → (elvL as).length ≤ 10 ∧ G mX2_change (Qe r μ') 0 (elv as 10) [] μ (rc r 0) := by
  intro as μ r μ' h
  obtain ⟨a0, rfl, h⟩ := h
  refine ⟨Nat.le_of_ble_eq_true rfl, ?_⟩
  show G mX2_change (Qe r μ') 0 [some (.ref 6), some (.int a0), none, none, none, none, none, none, none, none] [] μ (rc r 0)
  unfold F_X2_change at h
  have hb9 : rc r 0 ≤ rc r 0 := Nat.le_refl _
  refine e_lconst (v := (1 : Int64)) dX2_change_0 rfl ?_
  refine e_iload_n dX2_change_1 rfl ?_
  refine e_lshl dX2_change_2 ?_
  refine e_naJ h (fun v1 ev1 h => ?_)
  refine e_lstore_nL [some (.ref 6), some (.int a0), some (.long v1), none, none, none, none, none, none, none] dX2_change_3 (Nat.le_of_ble_eq_true rfl) rfl ?_
  refine e_aload_n dX2_change_4 rfl ?_
  refine e_get (ci := 0) (j := 1) (t := 1) (v := .long (μ.2.1 6 1)) dX2_change_5 rfl (by decide) rfl rfl rfl ?_
  refine e_lload_n dX2_change_8 rfl ?_
  refine e_land dX2_change_9 ?_
  refine e_lconst (v := (0 : Int64)) dX2_change_10 rfl ?_
  refine e_lcmp dX2_change_11 ?_
  refine e_if_eq (tgt := 19) dX2_change_12 rfl (fun hc2 => ?_) (fun hc2 => ?_)
  · rw [if_pos hc2] at h
    refine e_iconst dX2_change_19 ci_0 ?_
    exact e_le (g_X2_change_20 a0 v1 (0 : Int32) μ _ hb9 h) ⟨rfl, rfl, rfl, trivial⟩
  · rw [if_neg hc2] at h
    refine e_iconst dX2_change_15 ci_1 ?_
    refine e_goto (tgt := 20) dX2_change_16 rfl ?_
    exact e_le (g_X2_change_20 a0 v1 (1 : Int32) μ _ hb9 h) ⟨rfl, rfl, rfl, trivial⟩
set_option maxRecDepth 20000 in
theorem ok_X2_change (l : Launch) (hl : l.stackTraces = false) : MOK l yX2_change.cls 3 65 mX2_change := ⟨lk_all (List.forall_mem_cons.mpr ⟨⟨yX2_shift, cX2_shift, 16, (some .boolean), 2, 30, by decide, by decide, t_1 6 rfl rfl, hd_X2_shift, Or.inr (Or.inl ⟨rfl, sc_X2_shift l hl, t_2 164 rfl rfl, t_2 161 rfl rfl, t_2 163 rfl rfl, _, rfl, t_p 7 rfl⟩)⟩, List.forall_mem_cons.mpr ⟨⟨yX0_rowAt, cX0_rowAt, 1, (some .int), 1, 0, by decide, by decide, t_1 9 rfl rfl, hd_X0_rowAt, Or.inl ⟨rfl, sc_X0_rowAt l hl, t_2 185 rfl rfl, t_2 183 rfl rfl, t_2 184 rfl rfl⟩⟩, List.forall_mem_cons.mpr ⟨⟨yX0_columnAt, cX0_columnAt, 1, (some .int), 1, 0, by decide, by decide, t_1 9 rfl rfl, hd_X0_columnAt, Or.inl ⟨rfl, sc_X0_columnAt l hl, t_2 188 rfl rfl, t_2 186 rfl rfl, t_2 187 rfl rfl⟩⟩, nil_all⟩⟩⟩), fun ix ci j h => lk_all (P := fun ix q => FldOK yX2_change.cls ix q.1 q.2) (List.forall_mem_cons.mpr ⟨⟨_, rfl, by decide, t_1 112 rfl rfl⟩, List.forall_mem_cons.mpr ⟨⟨_, rfl, by decide, t_1 113 rfl rfl⟩, nil_all⟩⟩) ix (ci, j) h, lk_all (nil_all), lk_all (List.forall_mem_cons.mpr ⟨t_2 145 rfl rfl, nil_all⟩), lk_all (nil_all)⟩
theorem hd_X2_change : CallHd yX2_change 1 := ⟨by decide +kernel, by decide +kernel, by decide +kernel⟩
theorem sc_X2_change (l : Launch) (hl : l.stackTraces = false) : SCon l yX2_change cX2_change 10 (some .boolean) 3 65 0 Γ_X2_change := scon_of mX2_change cls_ok hl (by decide +kernel) rfl rfl (ok_X2_change l hl) rfl rfl b_X2_change
def f_X2_settle_28 (k2 : Int32 → Int32 → Mem → Out) (x1 : Int32) (x2 : Int32) (x3 : Int64) (s0 : Int32) (μ : Mem) : Out := if (lg_cmp ((μ.2.1 6 2) &&& x3) (0 : Int64)) = 0 then (lt (x2 + (1 : Int32)) (fun v5 => k2 x1 v5 μ)) else (lt (sJ μ 6 2 ((μ.2.1 6 2) &&& (x3 ^^^ (-1 : Int64)))) (fun μ6 => if s0 = x1 then (lt (x2 + (1 : Int32)) (fun v8 => k2 x1 v8 μ6)) else (cI (F_X2_change x2 μ6) (fun v13 μ10 => lt (x2 + (1 : Int32)) (fun v14 => k2 x1 v14 μ10)))))
def f_X2_settle_2 : Nat → Int32 → Int32 → Mem → Out
  | 0, _, _, _ => none
  | n + 1, x1, x2, μ => if (48 : Int32) ≤ x2 then (rV μ) else (lt (shlL (1 : Int64) x2) (fun v2 => if (lg_cmp ((μ.2.1 6 1) &&& v2) (0 : Int64)) = 0 then (f_X2_settle_28 (f_X2_settle_2 n) x1 x2 v2 (0 : Int32) μ) else (f_X2_settle_28 (f_X2_settle_2 n) x1 x2 v2 (1 : Int32) μ)))
def F_X2_settle (a0 : Int32) (μ : Mem) : Out := f_X2_settle_2 BIG a0 (0 : Int32) μ
def Γ_X2_settle : Gam := fun as μ r μ' => ∃ (a0 : Int32), as = [.ref 6, .int a0] ∧ F_X2_settle a0 μ = some (r, μ')
def mX2_settle : MI := (cX2_settle, [(46, (1, 1, 0, 0, Γ_X2_change))], [(15, 0, 1), (19, 0, 2)], [], [(42, -1)], [], [], (29, none), none)
set_option maxHeartbeats 4000000 in
theorem g_X2_settle_28 {r : Res} {μ' : Mem} {k2 : Int32 → Int32 → Mem → Out} (hk2 : ∀ (x1 : Int32) (x2 : Int32), ∀ (μ : Mem) (b : Nat), rc r 0 ≤ b → k2 x1 x2 μ = some (r, μ') → G mX2_settle (Qe r μ') 2 [some (.ref 6), some (.int x1), some (.int x2), none, none, none] [] μ b) : ∀ (x1 : Int32) (x2 : Int32) (x3 : Int64) (s0 : Int32), ∀ (μ : Mem) (b : Nat), rc r 0 ≤ b → f_X2_settle_28 k2 x1 x2 x3 s0 μ = some (r, μ') → G mX2_settle (Qe r μ') 28 [some (.ref 6), some (.int x1), some (.int x2), some (.long x3), none, none] [.int s0] μ b := by
  intro x1 x2 x3 s0 μ b hb9 h
  unfold f_X2_settle_28 at h
  refine e_istoreL [some (.ref 6), some (.int x1), some (.int x2), some (.long x3), none, some (.int s0)] dX2_settle_28 (Nat.le_of_ble_eq_true rfl) rfl ?_
  refine e_aload_n dX2_settle_30 rfl ?_
  refine e_get (ci := 0) (j := 2) (t := 1) (v := .long (μ.2.1 6 2)) dX2_settle_31 rfl (by decide) rfl rfl rfl ?_
  refine e_lload_n dX2_settle_34 rfl ?_
  refine e_land dX2_settle_35 ?_
  refine e_lconst (v := (0 : Int64)) dX2_settle_36 rfl ?_
  refine e_lcmp dX2_settle_37 ?_
  refine e_if_eq (tgt := 67) dX2_settle_38 rfl (fun hc4 => ?_) (fun hc4 => ?_)
  · rw [if_pos hc4] at h
    refine e_iincN 2 (1 : Int32) dX2_settle_67 rfl ci_1 h (fun y9 => [some (.ref 6), some (.int x1), some (.int y9), some (.long x3), none, some (.int s0)]) (fun _ => rfl) (fun v5 ev5 h => ?_)
    refine e_goto (tgt := 2) dX2_settle_70 rfl ?_
    exact e_le (hk2 x1 v5 μ _ hb9 h) ⟨rfl, rfl, rfl, trivial⟩
  · rw [if_neg hc4] at h
    refine e_aload_n dX2_settle_41 rfl ?_
    refine e_dup dX2_settle_42 rfl ?_
    refine e_get (ci := 0) (j := 2) (t := 1) (v := .long (μ.2.1 6 2)) dX2_settle_43 rfl (by decide) rfl rfl rfl ?_
    refine e_lload_n dX2_settle_46 rfl ?_
    refine e_ldc2 (v := (-1 : Int64)) dX2_settle_47 rfl ?_
    refine e_lxor dX2_settle_50 ?_
    refine e_land dX2_settle_51 ?_
    refine e_putJ (ci := 0) (j := 2) dX2_settle_52 rfl (by decide) rfl rfl ?_
    refine e_naM (e := sJ μ 6 2 ((μ.2.1 6 2) &&& (x3 ^^^ (-1 : Int64)))) h (fun μ6 eμ6 h => ?_)
    refine e_iload dX2_settle_55 rfl ?_
    refine e_iload_n dX2_settle_57 rfl ?_
    refine e_ic_eq (tgt := 67) dX2_settle_58 rfl (fun hc7 => ?_) (fun hc7 => ?_)
    · rw [if_pos hc7] at h
      refine e_iincN 2 (1 : Int32) dX2_settle_67 rfl ci_1 h (fun y9 => [some (.ref 6), some (.int x1), some (.int y9), some (.long x3), none, some (.int s0)]) (fun _ => rfl) (fun v8 ev8 h => ?_)
      refine e_goto (tgt := 2) dX2_settle_70 rfl ?_
      exact e_le (hk2 x1 v8 μ6 _ hb9 h) ⟨rfl, rfl, rfl, trivial⟩
    · rw [if_neg hc7] at h
      refine e_aload_n dX2_settle_61 rfl ?_
      refine e_iload_n dX2_settle_62 rfl ?_
      refine cI_go h (fun E11 hc9 hr12 => e_VX [.int x2] [] dX2_settle_63 rfl rfl rfl rfl ⟨Nat.le_of_ble_eq_true rfl, rfl⟩ (Nat.le_of_ble_eq_true rfl) (hbr hr12 hb9 (Nat.le_of_ble_eq_true rfl)) ⟨x2, rfl, hc9⟩ rfl ⟨hr12.symm, rfl⟩) (fun v13 μ10 hc9 h => ?_)
      refine e_VI [.int x2] [] dX2_settle_63 rfl rfl rfl rfl ⟨Nat.le_of_ble_eq_true rfl, rfl⟩ (Nat.le_of_ble_eq_true rfl) ⟨x2, rfl, hc9⟩ ?_
      refine e_pop dX2_settle_66 rfl ?_
      refine e_iincN 2 (1 : Int32) dX2_settle_67 rfl ci_1 h (fun y9 => [some (.ref 6), some (.int x1), some (.int y9), some (.long x3), none, some (.int s0)]) (fun _ => rfl) (fun v14 ev14 h => ?_)
      refine e_goto (tgt := 2) dX2_settle_70 rfl ?_
      exact e_le (hk2 x1 v14 μ10 _ hb9 h) ⟨rfl, rfl, rfl, trivial⟩
set_option maxHeartbeats 4000000 in
theorem g_X2_settle_2 {r : Res} {μ' : Mem} : ∀ n : Nat, ∀ (x1 : Int32) (x2 : Int32), ∀ (μ : Mem) (b : Nat), rc r 0 ≤ b → f_X2_settle_2 n x1 x2 μ = some (r, μ') → G mX2_settle (Qe r μ') 2 [some (.ref 6), some (.int x1), some (.int x2), none, none, none] [] μ b := by
  intro n
  induction n with
  | zero => intro x1 x2 μ b hb9 h; exact nomatch (show (none : Out) = some _ from h)
  | succ n ih =>
    intro x1 x2 μ b hb9 h
    rw [f_X2_settle_2.eq_2] at h
    refine e_iload_n dX2_settle_2 rfl ?_
    refine e_bipush dX2_settle_3 cb_48 ?_
    refine e_ic_ge (tgt := 73) dX2_settle_5 rfl (fun hc1 => ?_) (fun hc1 => ?_)
    · rw [if_pos hc1] at h
      exact e_vret dX2_settle_73 rfl (ret_eq h)
    · rw [if_neg hc1] at h
      refine e_lconst (v := (1 : Int64)) dX2_settle_8 rfl ?_
      refine e_iload_n dX2_settle_9 rfl ?_
      refine e_lshl dX2_settle_10 ?_
      refine e_naJ h (fun v2 ev2 h => ?_)
      refine e_lstore_nL [some (.ref 6), some (.int x1), some (.int x2), some (.long v2), none, none] dX2_settle_11 (Nat.le_of_ble_eq_true rfl) rfl ?_
      refine e_aload_n dX2_settle_12 rfl ?_
      refine e_get (ci := 0) (j := 1) (t := 1) (v := .long (μ.2.1 6 1)) dX2_settle_13 rfl (by decide) rfl rfl rfl ?_
      refine e_lload_n dX2_settle_16 rfl ?_
      refine e_land dX2_settle_17 ?_
      refine e_lconst (v := (0 : Int64)) dX2_settle_18 rfl ?_
      refine e_lcmp dX2_settle_19 ?_
      refine e_if_eq (tgt := 27) dX2_settle_20 rfl (fun hc3 => ?_) (fun hc3 => ?_)
      · rw [if_pos hc3] at h
        refine e_iconst dX2_settle_27 ci_0 ?_
        exact e_le (g_X2_settle_28 ih x1 x2 v2 (0 : Int32) μ _ hb9 h) ⟨rfl, rfl, rfl, rfl, trivial⟩
      · rw [if_neg hc3] at h
        refine e_iconst dX2_settle_23 ci_1 ?_
        refine e_goto (tgt := 28) dX2_settle_24 rfl ?_
        exact e_le (g_X2_settle_28 ih x1 x2 v2 (1 : Int32) μ _ hb9 h) ⟨rfl, rfl, rfl, rfl, trivial⟩
set_option maxHeartbeats 4000000 in
theorem b_X2_settle : ∀ as μ r μ', Γ_X2_settle as μ r μ' → (elvL as).length ≤ 6 ∧ G mX2_settle (Qe r μ') 0 (elv as 6) [] μ (rc r 0) := by
  intro as μ r μ' h
  obtain ⟨a0, rfl, h⟩ := h
  refine ⟨Nat.le_of_ble_eq_true rfl, ?_⟩
  show G mX2_settle (Qe r μ') 0 [some (.ref 6), some (.int a0), none, none, none, none] [] μ (rc r 0)
  unfold F_X2_settle at h
  have hb9 : rc r 0 ≤ rc r 0 := Nat.le_refl _
  refine e_iconst dX2_settle_0 ci_0 ?_
  refine e_istore_nL [some (.ref 6), some (.int a0), some (.int (0 : Int32)), none, none, none] dX2_settle_1 (Nat.le_of_ble_eq_true rfl) rfl ?_
  exact e_le (g_X2_settle_2 BIG a0 (0 : Int32) μ _ hb9 h) ⟨rfl, rfl, rfl, trivial⟩
set_option maxRecDepth 20000 in
theorem ok_X2_settle (l : Launch) (hl : l.stackTraces = false) : MOK l yX2_settle.cls 4 94 mX2_settle := ⟨lk_all (List.forall_mem_cons.mpr ⟨⟨yX2_change, cX2_change, 10, (some .boolean), 3, 65, by decide, by decide, t_1 6 rfl rfl, hd_X2_change, Or.inr (Or.inl ⟨rfl, sc_X2_change l hl, t_2 182 rfl rfl, t_2 179 rfl rfl, t_2 181 rfl rfl, _, rfl, t_p 11 rfl⟩)⟩, nil_all⟩), fun ix ci j h => lk_all (P := fun ix q => FldOK yX2_settle.cls ix q.1 q.2) (List.forall_mem_cons.mpr ⟨⟨_, rfl, by decide, t_1 112 rfl rfl⟩, List.forall_mem_cons.mpr ⟨⟨_, rfl, by decide, t_1 113 rfl rfl⟩, nil_all⟩⟩) ix (ci, j) h, lk_all (nil_all), lk_all (List.forall_mem_cons.mpr ⟨t_2 145 rfl rfl, nil_all⟩), lk_all (nil_all)⟩
theorem hd_X2_settle : CallHd yX2_settle 1 := ⟨by decide +kernel, by decide +kernel, by decide +kernel⟩
theorem sc_X2_settle (l : Launch) (hl : l.stackTraces = false) : SCon l yX2_settle cX2_settle 6 none 4 94 0 Γ_X2_settle := scon_of mX2_settle cls_ok hl (by decide +kernel) rfl rfl (ok_X2_settle l hl) rfl rfl b_X2_settle
def f_X2_advance_71 (k1 : Nat) (k23 : Int64 → Int32 → Mem → Out) (x2 : Int64) (x4 : Int32) (x5 : Int64) (μ : Mem) : Out := lt (sJ μ 6 2 ((μ.2.1 6 2) ||| x5)) (fun μ23 => lt (x4 + (-1 : Int32)) (fun v24 => k23 x2 v24 μ23))
def f_X2_advance_23 (k1 : Nat) : Nat → Int64 → Int32 → Mem → Out
  | 0, _, _, _ => none
  | n + 1, x2, x4, μ => if x4 < 0 then (rI (0 : Int32) μ) else (lt (shlL (1 : Int64) x4) (fun v9 => if (lg_cmp (x2 &&& v9) (0 : Int64)) = 0 then (lt (x4 + (-1 : Int32)) (fun v11 => f_X2_advance_23 k1 n x2 v11 μ)) else (if (lg_cmp ((μ.2.1 6 1) &&& v9) (0 : Int64)) = 0 then (cI (F_X2_change x4 μ) (fun v17 μ14 => if v17 = 0 then (f_X2_advance_71 k1 (f_X2_advance_23 k1 n) x2 x4 v9 μ14) else (cV (F_X2_settle (0 : Int32) μ14) (fun μ20 => rI (1 : Int32) μ20)))) else (f_X2_advance_71 k1 (f_X2_advance_23 k1 n) x2 x4 v9 μ))))
def F_X2_advance (k1 : Nat) (μ : Mem) : Out := cJ (F_X4_board k1 μ) (fun v5 μ2 => lt (v5 &&& ((μ2.2.1 k1 3) ^^^ (-1 : Int64))) (fun v6 => lt (sJ μ2 6 2 (0 : Int64)) (fun μ7 => f_X2_advance_23 k1 BIG v6 (47 : Int32) μ7)))
def Γ_X2_advance : Gam := fun as μ r μ' => ∃ (k1 : Nat), as = [.ref 6, .ref k1] ∧ okO k1 2 ∧ F_X2_advance k1 μ = some (r, μ')
def mX2_advance : MI := (cX2_advance, [(34, (1, 1, 0, 0, Γ_X2_settle)), (38, (1, 0, 0, 2, Γ_X4_board)), (46, (1, 1, 0, 0, Γ_X2_change))], [(15, 0, 1), (19, 0, 2), (22, 2, 3)], [], [(42, -1)], [], [], (29, none), (some .boolean))
set_option maxHeartbeats 4000000 in
theorem g_X2_advance_71 {r : Res} {μ' : Mem} (k1 : Nat) (ho1 : okO k1 2) {k23 : Int64 → Int32 → Mem → Out} (hk23 : ∀ (x2 : Int64) (x4 : Int32), ∀ (μ : Mem) (b : Nat), rc r 0 ≤ b → k23 x2 x4 μ = some (r, μ') → G mX2_advance (Qe r μ') 23 [some (.ref 6), none, some (.long x2), none, some (.int x4), none, none] [] μ b) : ∀ (x2 : Int64) (x4 : Int32) (x5 : Int64), ∀ (μ : Mem) (b : Nat), rc r 0 ≤ b → f_X2_advance_71 k1 k23 x2 x4 x5 μ = some (r, μ') → G mX2_advance (Qe r μ') 71 [some (.ref 6), none, some (.long x2), none, some (.int x4), some (.long x5), none] [] μ b := by
  intro x2 x4 x5 μ b hb9 h
  unfold f_X2_advance_71 at h
  refine e_aload_n dX2_advance_71 rfl ?_
  refine e_dup dX2_advance_72 rfl ?_
  refine e_get (ci := 0) (j := 2) (t := 1) (v := .long (μ.2.1 6 2)) dX2_advance_73 rfl (by decide) rfl rfl rfl ?_
  refine e_lload dX2_advance_76 rfl ?_
  refine e_lor dX2_advance_78 ?_
  refine e_putJ (ci := 0) (j := 2) dX2_advance_79 rfl (by decide) rfl rfl ?_
  refine e_naM (e := sJ μ 6 2 ((μ.2.1 6 2) ||| x5)) h (fun μ23 eμ23 h => ?_)
  refine e_iincN 4 (-1 : Int32) dX2_advance_82 rfl ci_m1 h (fun y9 => [some (.ref 6), none, some (.long x2), none, some (.int y9), some (.long x5), none]) (fun _ => rfl) (fun v24 ev24 h => ?_)
  refine e_goto (tgt := 23) dX2_advance_85 rfl ?_
  exact e_le (hk23 x2 v24 μ23 _ hb9 h) ⟨rfl, rfl, rfl, trivial⟩
set_option maxHeartbeats 4000000 in
theorem g_X2_advance_23 {r : Res} {μ' : Mem} (k1 : Nat) (ho1 : okO k1 2) : ∀ n : Nat, ∀ (x2 : Int64) (x4 : Int32), ∀ (μ : Mem) (b : Nat), rc r 0 ≤ b → f_X2_advance_23 k1 n x2 x4 μ = some (r, μ') → G mX2_advance (Qe r μ') 23 [some (.ref 6), none, some (.long x2), none, some (.int x4), none, none] [] μ b := by
  intro n
  induction n with
  | zero => intro x2 x4 μ b hb9 h; exact nomatch (show (none : Out) = some _ from h)
  | succ n ih =>
    intro x2 x4 μ b hb9 h
    rw [f_X2_advance_23.eq_2] at h
    refine e_iload dX2_advance_23 rfl ?_
    refine e_if_lt (tgt := 88) dX2_advance_25 rfl (fun hc8 => ?_) (fun hc8 => ?_)
    · rw [if_pos hc8] at h
      refine e_iconst dX2_advance_88 ci_0 ?_
      exact e_iret .boolean dX2_advance_89 rfl rfl (ret_eq h)
    · rw [if_neg hc8] at h
      refine e_lconst (v := (1 : Int64)) dX2_advance_28 rfl ?_
      refine e_iload dX2_advance_29 rfl ?_
      refine e_lshl dX2_advance_31 ?_
      refine e_naJ h (fun v9 ev9 h => ?_)
      refine e_lstoreL [some (.ref 6), none, some (.long x2), none, some (.int x4), some (.long v9), none] dX2_advance_32 (Nat.le_of_ble_eq_true rfl) rfl ?_
      refine e_lload_n dX2_advance_34 rfl ?_
      refine e_lload dX2_advance_35 rfl ?_
      refine e_land dX2_advance_37 ?_
      refine e_lconst (v := (0 : Int64)) dX2_advance_38 rfl ?_
      refine e_lcmp dX2_advance_39 ?_
      refine e_if_eq (tgt := 82) dX2_advance_40 rfl (fun hc10 => ?_) (fun hc10 => ?_)
      · rw [if_pos hc10] at h
        refine e_iincN 4 (-1 : Int32) dX2_advance_82 rfl ci_m1 h (fun y9 => [some (.ref 6), none, some (.long x2), none, some (.int y9), some (.long v9), none]) (fun _ => rfl) (fun v11 ev11 h => ?_)
        refine e_goto (tgt := 23) dX2_advance_85 rfl ?_
        exact e_le (ih x2 v11 μ _ hb9 h) ⟨rfl, rfl, rfl, trivial⟩
      · rw [if_neg hc10] at h
        refine e_aload_n dX2_advance_43 rfl ?_
        refine e_get (ci := 0) (j := 1) (t := 1) (v := .long (μ.2.1 6 1)) dX2_advance_44 rfl (by decide) rfl rfl rfl ?_
        refine e_lload dX2_advance_47 rfl ?_
        refine e_land dX2_advance_49 ?_
        refine e_lconst (v := (0 : Int64)) dX2_advance_50 rfl ?_
        refine e_lcmp dX2_advance_51 ?_
        refine e_if_ne (tgt := 71) dX2_advance_52 rfl (fun hc12 => ?_) (fun hc12 => ?_)
        · rw [if_neg hc12] at h
          exact e_le (g_X2_advance_71 k1 ho1 ih x2 x4 v9 μ _ hb9 h) ⟨rfl, rfl, rfl, rfl, trivial⟩
        · rw [if_pos hc12] at h
          refine e_aload_n dX2_advance_55 rfl ?_
          refine e_iload dX2_advance_56 rfl ?_
          refine cI_go h (fun E15 hc13 hr16 => e_VX [.int x4] [] dX2_advance_58 rfl rfl rfl rfl ⟨Nat.le_of_ble_eq_true rfl, rfl⟩ (Nat.le_of_ble_eq_true rfl) (hbr hr16 hb9 (Nat.le_of_ble_eq_true rfl)) ⟨x4, rfl, hc13⟩ rfl ⟨hr16.symm, rfl⟩) (fun v17 μ14 hc13 h => ?_)
          refine e_VI [.int x4] [] dX2_advance_58 rfl rfl rfl rfl ⟨Nat.le_of_ble_eq_true rfl, rfl⟩ (Nat.le_of_ble_eq_true rfl) ⟨x4, rfl, hc13⟩ ?_
          refine e_if_eq (tgt := 71) dX2_advance_61 rfl (fun hc18 => ?_) (fun hc18 => ?_)
          · rw [if_pos hc18] at h
            exact e_le (g_X2_advance_71 k1 ho1 ih x2 x4 v9 μ14 _ hb9 h) ⟨rfl, rfl, rfl, rfl, trivial⟩
          · rw [if_neg hc18] at h
            refine e_aload_n dX2_advance_64 rfl ?_
            refine e_iconst dX2_advance_65 ci_0 ?_
            refine cV_go h (fun E21 hc19 hr22 => e_VX [.int (0 : Int32)] [] dX2_advance_66 rfl rfl rfl rfl ⟨Nat.le_of_ble_eq_true rfl, rfl⟩ (Nat.le_of_ble_eq_true rfl) (hbr hr22 hb9 (Nat.le_of_ble_eq_true rfl)) ⟨(0 : Int32), rfl, hc19⟩ rfl ⟨hr22.symm, rfl⟩) (fun μ20 hc19 h => ?_)
            refine e_VV [.int (0 : Int32)] [] dX2_advance_66 rfl rfl rfl rfl ⟨Nat.le_of_ble_eq_true rfl, rfl⟩ (Nat.le_of_ble_eq_true rfl) ⟨(0 : Int32), rfl, hc19⟩ ?_
            refine e_iconst dX2_advance_69 ci_1 ?_
            exact e_iret .boolean dX2_advance_70 rfl rfl (ret_eq h)
set_option maxHeartbeats 4000000 in
theorem b_X2_advance : ∀ as μ r μ', Γ_X2_advance as μ r μ' → (elvL as).length ≤ 7 ∧ G mX2_advance (Qe r μ') 0 (elv as 7) [] μ (rc r 0) := by
  intro as μ r μ' h
  obtain ⟨k1, rfl, ho1, h⟩ := h
  refine ⟨Nat.le_of_ble_eq_true rfl, ?_⟩
  show G mX2_advance (Qe r μ') 0 [some (.ref 6), some (.ref k1), none, none, none, none, none] [] μ (rc r 0)
  unfold F_X2_advance at h
  have hb9 : rc r 0 ≤ rc r 0 := Nat.le_refl _
  refine e_aload_n dX2_advance_0 rfl ?_
  refine cJ_go h (fun E3 hc1 hr4 => e_VX [] [] dX2_advance_1 rfl rfl rfl rfl ho1 (Nat.le_of_ble_eq_true rfl) (hbr hr4 hb9 (Nat.le_of_ble_eq_true rfl)) ⟨k1, rfl, ho1, hc1⟩ rfl ⟨hr4.symm, rfl⟩) (fun v5 μ2 hc1 h => ?_)
  refine e_VJ [] [] dX2_advance_1 rfl rfl rfl rfl ho1 (Nat.le_of_ble_eq_true rfl) ⟨k1, rfl, ho1, hc1⟩ ?_
  refine e_aload_n dX2_advance_4 rfl ?_
  refine e_get (ci := 2) (j := 3) (t := 1) (v := .long (μ2.2.1 k1 3)) dX2_advance_5 rfl ho1.1 ho1.2 rfl rfl ?_
  refine e_ldc2 (v := (-1 : Int64)) dX2_advance_8 rfl ?_
  refine e_lxor dX2_advance_11 ?_
  refine e_land dX2_advance_12 ?_
  refine e_naJ h (fun v6 ev6 h => ?_)
  refine e_lstore_nL [some (.ref 6), some (.ref k1), some (.long v6), none, none, none, none] dX2_advance_13 (Nat.le_of_ble_eq_true rfl) rfl ?_
  refine e_aload_n dX2_advance_14 rfl ?_
  refine e_lconst (v := (0 : Int64)) dX2_advance_15 rfl ?_
  refine e_putJ (ci := 0) (j := 2) dX2_advance_16 rfl (by decide) rfl rfl ?_
  refine e_naM (e := sJ μ2 6 2 (0 : Int64)) h (fun μ7 eμ7 h => ?_)
  refine e_bipush dX2_advance_19 cb_47 ?_
  refine e_istoreL [some (.ref 6), some (.ref k1), some (.long v6), none, some (.int (47 : Int32)), none, none] dX2_advance_21 (Nat.le_of_ble_eq_true rfl) rfl ?_
  exact e_le (g_X2_advance_23 k1 ho1 BIG v6 (47 : Int32) μ7 _ hb9 h) ⟨rfl, rfl, rfl, trivial⟩
set_option maxRecDepth 20000 in
theorem ok_X2_advance (l : Launch) (hl : l.stackTraces = false) : MOK l yX2_advance.cls 5 119 mX2_advance := ⟨lk_all (List.forall_mem_cons.mpr ⟨⟨yX2_settle, cX2_settle, 6, none, 4, 94, by decide, by decide, t_1 6 rfl rfl, hd_X2_settle, Or.inr (Or.inl ⟨rfl, sc_X2_settle l hl, t_3 55 rfl rfl, t_3 52 rfl rfl, t_3 54 rfl rfl, _, rfl, t_p 14 rfl⟩)⟩, List.forall_mem_cons.mpr ⟨⟨yX4_board, cX4_board, 1, (some .long), 1, 0, by decide, by decide, t_1 3 rfl rfl, hd_X4_board, Or.inr (Or.inl ⟨rfl, sc_X4_board l hl, t_1 189 rfl rfl, t_2 144 rfl rfl, t_1 187 rfl rfl, _, rfl, t_1 188 rfl rfl⟩)⟩, List.forall_mem_cons.mpr ⟨⟨yX2_change, cX2_change, 10, (some .boolean), 3, 65, by decide, by decide, t_1 6 rfl rfl, hd_X2_change, Or.inr (Or.inl ⟨rfl, sc_X2_change l hl, t_2 182 rfl rfl, t_2 179 rfl rfl, t_2 181 rfl rfl, _, rfl, t_p 11 rfl⟩)⟩, nil_all⟩⟩⟩), fun ix ci j h => lk_all (P := fun ix q => FldOK yX2_advance.cls ix q.1 q.2) (List.forall_mem_cons.mpr ⟨⟨_, rfl, by decide, t_1 112 rfl rfl⟩, List.forall_mem_cons.mpr ⟨⟨_, rfl, by decide, t_1 113 rfl rfl⟩, List.forall_mem_cons.mpr ⟨⟨_, rfl, by decide, t_1 56 rfl rfl⟩, nil_all⟩⟩⟩) ix (ci, j) h, lk_all (nil_all), lk_all (List.forall_mem_cons.mpr ⟨t_2 145 rfl rfl, nil_all⟩), lk_all (nil_all)⟩
theorem hd_X2_advance : CallHd yX2_advance 1 := ⟨by decide +kernel, by decide +kernel, by decide +kernel⟩
theorem sc_X2_advance (l : Launch) (hl : l.stackTraces = false) : SCon l yX2_advance cX2_advance 7 (some .boolean) 5 119 0 Γ_X2_advance := scon_of mX2_advance cls_ok hl (by decide +kernel) rfl rfl (ok_X2_advance l hl) rfl rfl b_X2_advance
def f_X2_columnsWithRoom_4 (k1 : Nat) : Nat → Int32 → Int32 → Mem → Out
  | 0, _, _, _ => none
  | n + 1, x2, x3, μ => if (μ.1 k1 1) ≤ x3 then (rI x2 μ) else (cJ (F_X0_columnMask x3 μ) (fun v6 μ3 => cI (F_J13_bitCount_95d88 ((μ.2.1 6 1) &&& v6) μ3) (fun v11 μ8 => cI (F_X4_wantedOf k1 ((μ8.1 k1 0) + x3) μ8) (fun v16 μ13 => if v16 ≤ v11 then (lt (x3 + (1 : Int32)) (fun v18 => f_X2_columnsWithRoom_4 k1 n x2 v18 μ13)) else (lt (x2 ||| (shlI (1 : Int32) x3)) (fun v19 => lt (x3 + (1 : Int32)) (fun v20 => f_X2_columnsWithRoom_4 k1 n v19 v20 μ13)))))))
def F_X2_columnsWithRoom (k1 : Nat) (μ : Mem) : Out := f_X2_columnsWithRoom_4 k1 BIG (0 : Int32) (0 : Int32) μ
def Γ_X2_columnsWithRoom : Gam := fun as μ r μ' => ∃ (k1 : Nat), as = [.ref 6, .ref k1] ∧ okO k1 2 ∧ F_X2_columnsWithRoom k1 μ = some (r, μ')
def mX2_columnsWithRoom : MI := (cX2_columnsWithRoom, [(65, (1, 1, 0, 2, Γ_X4_wantedOf)), (73, (0, 1, 0, 0, Γ_J13_bitCount_95d88)), (93, (0, 1, 0, 0, Γ_X0_columnMask))], [(15, 0, 1), (61, 2, 0), (87, 2, 1)], [], [], [], [], (29, none), (some .int))
set_option maxHeartbeats 4000000 in
theorem g_X2_columnsWithRoom_4 {r : Res} {μ' : Mem} (k1 : Nat) (ho1 : okO k1 2) : ∀ n : Nat, ∀ (x2 : Int32) (x3 : Int32), ∀ (μ : Mem) (b : Nat), rc r 0 ≤ b → f_X2_columnsWithRoom_4 k1 n x2 x3 μ = some (r, μ') → G mX2_columnsWithRoom (Qe r μ') 4 [some (.ref 6), some (.ref k1), some (.int x2), some (.int x3)] [] μ b := by
  intro n
  induction n with
  | zero => intro x2 x3 μ b hb9 h; exact nomatch (show (none : Out) = some _ from h)
  | succ n ih =>
    intro x2 x3 μ b hb9 h
    rw [f_X2_columnsWithRoom_4.eq_2] at h
    refine e_iload_n dX2_columnsWithRoom_4 rfl ?_
    refine e_aload_n dX2_columnsWithRoom_5 rfl ?_
    refine e_get (ci := 2) (j := 1) (t := 0) (v := .int (μ.1 k1 1)) dX2_columnsWithRoom_6 rfl ho1.1 ho1.2 rfl rfl ?_
    refine e_ic_ge (tgt := 49) dX2_columnsWithRoom_9 rfl (fun hc1 => ?_) (fun hc1 => ?_)
    · rw [if_pos hc1] at h
      refine e_iload_n dX2_columnsWithRoom_49 rfl ?_
      exact e_iret .int dX2_columnsWithRoom_50 rfl rfl (ret_eq h)
    · rw [if_neg hc1] at h
      refine e_aload_n dX2_columnsWithRoom_12 rfl ?_
      refine e_get (ci := 0) (j := 1) (t := 1) (v := .long (μ.2.1 6 1)) dX2_columnsWithRoom_13 rfl (by decide) rfl rfl rfl ?_
      refine e_iload_n dX2_columnsWithRoom_16 rfl ?_
      refine cJ_go h (fun E4 hc2 hr5 => e_SX [.int x3] [.long (μ.2.1 6 1)] dX2_columnsWithRoom_17 rfl (by decide) rfl rfl (Nat.le_of_ble_eq_true rfl) (hbr hr5 hb9 (Nat.le_of_ble_eq_true rfl)) ⟨x3, rfl, hc2⟩ rfl ⟨hr5.symm, rfl⟩) (fun v6 μ3 hc2 h => ?_)
      refine e_SJ [.int x3] [.long (μ.2.1 6 1)] dX2_columnsWithRoom_17 rfl (by decide) rfl rfl (Nat.le_of_ble_eq_true rfl) ⟨x3, rfl, hc2⟩ ?_
      refine e_land dX2_columnsWithRoom_20 ?_
      refine cI_go h (fun E9 hc7 hr10 => e_SX [.long ((μ.2.1 6 1) &&& v6)] [] dX2_columnsWithRoom_21 rfl (by decide) rfl rfl (Nat.le_of_ble_eq_true rfl) (hbr hr10 hb9 (Nat.le_of_ble_eq_true rfl)) ⟨(μ.2.1 6 1) &&& v6, rfl, hc7⟩ rfl ⟨hr10.symm, rfl⟩) (fun v11 μ8 hc7 h => ?_)
      refine e_SI [.long ((μ.2.1 6 1) &&& v6)] [] dX2_columnsWithRoom_21 rfl (by decide) rfl rfl (Nat.le_of_ble_eq_true rfl) ⟨(μ.2.1 6 1) &&& v6, rfl, hc7⟩ ?_
      refine e_aload_n dX2_columnsWithRoom_24 rfl ?_
      refine e_aload_n dX2_columnsWithRoom_25 rfl ?_
      refine e_get (ci := 2) (j := 0) (t := 0) (v := .int (μ8.1 k1 0)) dX2_columnsWithRoom_26 rfl ho1.1 ho1.2 rfl rfl ?_
      refine e_iload_n dX2_columnsWithRoom_29 rfl ?_
      refine e_iadd dX2_columnsWithRoom_30 ?_
      refine cI_go h (fun E14 hc12 hr15 => e_VX [.int ((μ8.1 k1 0) + x3)] [.int v11] dX2_columnsWithRoom_31 rfl rfl rfl rfl ho1 (Nat.le_of_ble_eq_true rfl) (hbr hr15 hb9 (Nat.le_of_ble_eq_true rfl)) ⟨k1, (μ8.1 k1 0) + x3, rfl, ho1, hc12⟩ rfl ⟨hr15.symm, rfl⟩) (fun v16 μ13 hc12 h => ?_)
      refine e_VI [.int ((μ8.1 k1 0) + x3)] [.int v11] dX2_columnsWithRoom_31 rfl rfl rfl rfl ho1 (Nat.le_of_ble_eq_true rfl) ⟨k1, (μ8.1 k1 0) + x3, rfl, ho1, hc12⟩ ?_
      refine e_ic_ge (tgt := 43) dX2_columnsWithRoom_34 rfl (fun hc17 => ?_) (fun hc17 => ?_)
      · rw [if_pos hc17] at h
        refine e_iincN 3 (1 : Int32) dX2_columnsWithRoom_43 rfl ci_1 h (fun y9 => [some (.ref 6), some (.ref k1), some (.int x2), some (.int y9)]) (fun _ => rfl) (fun v18 ev18 h => ?_)
        refine e_goto (tgt := 4) dX2_columnsWithRoom_46 rfl ?_
        exact e_le (ih x2 v18 μ13 _ hb9 h) ⟨rfl, rfl, rfl, rfl, trivial⟩
      · rw [if_neg hc17] at h
        refine e_iload_n dX2_columnsWithRoom_37 rfl ?_
        refine e_iconst dX2_columnsWithRoom_38 ci_1 ?_
        refine e_iload_n dX2_columnsWithRoom_39 rfl ?_
        refine e_ishl dX2_columnsWithRoom_40 ?_
        refine e_ior dX2_columnsWithRoom_41 ?_
        refine e_naI h (fun v19 ev19 h => ?_)
        refine e_istore_nL [some (.ref 6), some (.ref k1), some (.int v19), some (.int x3)] dX2_columnsWithRoom_42 (Nat.le_of_ble_eq_true rfl) rfl ?_
        refine e_iincN 3 (1 : Int32) dX2_columnsWithRoom_43 rfl ci_1 h (fun y9 => [some (.ref 6), some (.ref k1), some (.int v19), some (.int y9)]) (fun _ => rfl) (fun v20 ev20 h => ?_)
        refine e_goto (tgt := 4) dX2_columnsWithRoom_46 rfl ?_
        exact e_le (ih v19 v20 μ13 _ hb9 h) ⟨rfl, rfl, rfl, rfl, trivial⟩
set_option maxHeartbeats 4000000 in
theorem b_X2_columnsWithRoom : ∀ as μ r μ', Γ_X2_columnsWithRoom as μ r μ' → (elvL as).length ≤ 4 ∧ G mX2_columnsWithRoom (Qe r μ') 0 (elv as 4) [] μ (rc r 0) := by
  intro as μ r μ' h
  obtain ⟨k1, rfl, ho1, h⟩ := h
  refine ⟨Nat.le_of_ble_eq_true rfl, ?_⟩
  show G mX2_columnsWithRoom (Qe r μ') 0 [some (.ref 6), some (.ref k1), none, none] [] μ (rc r 0)
  unfold F_X2_columnsWithRoom at h
  have hb9 : rc r 0 ≤ rc r 0 := Nat.le_refl _
  refine e_iconst dX2_columnsWithRoom_0 ci_0 ?_
  refine e_istore_nL [some (.ref 6), some (.ref k1), some (.int (0 : Int32)), none] dX2_columnsWithRoom_1 (Nat.le_of_ble_eq_true rfl) rfl ?_
  refine e_iconst dX2_columnsWithRoom_2 ci_0 ?_
  refine e_istore_nL [some (.ref 6), some (.ref k1), some (.int (0 : Int32)), some (.int (0 : Int32))] dX2_columnsWithRoom_3 (Nat.le_of_ble_eq_true rfl) rfl ?_
  exact e_le (g_X2_columnsWithRoom_4 k1 ho1 BIG (0 : Int32) (0 : Int32) μ _ hb9 h) ⟨rfl, rfl, rfl, rfl, trivial⟩
set_option maxRecDepth 20000 in
theorem ok_X2_columnsWithRoom (l : Launch) (hl : l.stackTraces = false) : MOK l yX2_columnsWithRoom.cls 3 43 mX2_columnsWithRoom := ⟨lk_all (List.forall_mem_cons.mpr ⟨⟨yX4_wantedOf, cX4_wantedOf, 2, (some .int), 2, 22, by decide, by decide, t_1 3 rfl rfl, hd_X4_wantedOf, Or.inr (Or.inl ⟨rfl, sc_X4_wantedOf l hl, t_1 202 rfl rfl, t_2 154 rfl rfl, t_1 200 rfl rfl, _, rfl, t_1 201 rfl rfl⟩)⟩, List.forall_mem_cons.mpr ⟨⟨yJ13_bitCount_95d88, cJ13_bitCount_95d88, 2, (some .int), 1, 0, by decide, by decide, t_1 7 rfl rfl, hd_J13_bitCount_95d88, Or.inl ⟨rfl, sc_J13_bitCount_95d88 l hl, t_1 155 rfl rfl, t_2 153 rfl rfl, t_1 154 rfl rfl⟩⟩, List.forall_mem_cons.mpr ⟨⟨yX0_columnMask, cX0_columnMask, 1, (some .long), 1, 0, by decide, by decide, t_1 9 rfl rfl, hd_X0_columnMask, Or.inl ⟨rfl, sc_X0_columnMask l hl, t_1 197 rfl rfl, t_2 160 rfl rfl, t_1 196 rfl rfl⟩⟩, nil_all⟩⟩⟩), fun ix ci j h => lk_all (P := fun ix q => FldOK yX2_columnsWithRoom.cls ix q.1 q.2) (List.forall_mem_cons.mpr ⟨⟨_, rfl, by decide, t_1 112 rfl rfl⟩, List.forall_mem_cons.mpr ⟨⟨_, rfl, by decide, t_1 48 rfl rfl⟩, List.forall_mem_cons.mpr ⟨⟨_, rfl, by decide, t_1 51 rfl rfl⟩, nil_all⟩⟩⟩) ix (ci, j) h, lk_all (nil_all), lk_all (nil_all), lk_all (nil_all)⟩
theorem hd_X2_columnsWithRoom : CallHd yX2_columnsWithRoom 1 := ⟨by decide +kernel, by decide +kernel, by decide +kernel⟩
theorem sc_X2_columnsWithRoom (l : Launch) (hl : l.stackTraces = false) : SCon l yX2_columnsWithRoom cX2_columnsWithRoom 4 (some .int) 3 43 0 Γ_X2_columnsWithRoom := scon_of mX2_columnsWithRoom cls_ok hl (by decide +kernel) rfl rfl (ok_X2_columnsWithRoom l hl) rfl rfl b_X2_columnsWithRoom
def f_X2_hasTooFullLine_2 (k1 : Nat) : Nat → Int32 → Mem → Out
  | 0, _, _ => none
  | n + 1, x2, μ => if ((μ.1 k1 0) + (μ.1 k1 1)) ≤ x2 then (rI (0 : Int32) μ) else (cJ (F_X4_lineMask k1 x2 μ) (fun v6 μ3 => cI (F_J13_bitCount_95d88 ((μ.2.1 6 1) &&& v6) μ3) (fun v11 μ8 => cI (F_X4_wantedOf k1 x2 μ8) (fun v16 μ13 => if v11 ≤ v16 then (lt (x2 + (1 : Int32)) (fun v18 => f_X2_hasTooFullLine_2 k1 n v18 μ13)) else (rI (1 : Int32) μ13)))))
def F_X2_hasTooFullLine (k1 : Nat) (μ : Mem) : Out := f_X2_hasTooFullLine_2 k1 BIG (0 : Int32) μ
def Γ_X2_hasTooFullLine : Gam := fun as μ r μ' => ∃ (k1 : Nat), as = [.ref 6, .ref k1] ∧ okO k1 2 ∧ F_X2_hasTooFullLine k1 μ = some (r, μ')
def mX2_hasTooFullLine : MI := (cX2_hasTooFullLine, [(65, (1, 1, 0, 2, Γ_X4_wantedOf)), (73, (0, 1, 0, 0, Γ_J13_bitCount_95d88)), (90, (1, 1, 0, 2, Γ_X4_lineMask))], [(15, 0, 1), (61, 2, 0), (87, 2, 1)], [], [], [], [], (29, none), (some .boolean))
set_option maxHeartbeats 4000000 in
theorem g_X2_hasTooFullLine_2 {r : Res} {μ' : Mem} (k1 : Nat) (ho1 : okO k1 2) : ∀ n : Nat, ∀ (x2 : Int32), ∀ (μ : Mem) (b : Nat), rc r 0 ≤ b → f_X2_hasTooFullLine_2 k1 n x2 μ = some (r, μ') → G mX2_hasTooFullLine (Qe r μ') 2 [some (.ref 6), some (.ref k1), some (.int x2)] [] μ b := by
  intro n
  induction n with
  | zero => intro x2 μ b hb9 h; exact nomatch (show (none : Out) = some _ from h)
  | succ n ih =>
    intro x2 μ b hb9 h
    rw [f_X2_hasTooFullLine_2.eq_2] at h
    refine e_iload_n dX2_hasTooFullLine_2 rfl ?_
    refine e_aload_n dX2_hasTooFullLine_3 rfl ?_
    refine e_get (ci := 2) (j := 0) (t := 0) (v := .int (μ.1 k1 0)) dX2_hasTooFullLine_4 rfl ho1.1 ho1.2 rfl rfl ?_
    refine e_aload_n dX2_hasTooFullLine_7 rfl ?_
    refine e_get (ci := 2) (j := 1) (t := 0) (v := .int (μ.1 k1 1)) dX2_hasTooFullLine_8 rfl ho1.1 ho1.2 rfl rfl ?_
    refine e_iadd dX2_hasTooFullLine_11 ?_
    refine e_ic_ge (tgt := 44) dX2_hasTooFullLine_12 rfl (fun hc1 => ?_) (fun hc1 => ?_)
    · rw [if_pos hc1] at h
      refine e_iconst dX2_hasTooFullLine_44 ci_0 ?_
      exact e_iret .boolean dX2_hasTooFullLine_45 rfl rfl (ret_eq h)
    · rw [if_neg hc1] at h
      refine e_aload_n dX2_hasTooFullLine_15 rfl ?_
      refine e_get (ci := 0) (j := 1) (t := 1) (v := .long (μ.2.1 6 1)) dX2_hasTooFullLine_16 rfl (by decide) rfl rfl rfl ?_
      refine e_aload_n dX2_hasTooFullLine_19 rfl ?_
      refine e_iload_n dX2_hasTooFullLine_20 rfl ?_
      refine cJ_go h (fun E4 hc2 hr5 => e_VX [.int x2] [.long (μ.2.1 6 1)] dX2_hasTooFullLine_21 rfl rfl rfl rfl ho1 (Nat.le_of_ble_eq_true rfl) (hbr hr5 hb9 (Nat.le_of_ble_eq_true rfl)) ⟨k1, x2, rfl, ho1, hc2⟩ rfl ⟨hr5.symm, rfl⟩) (fun v6 μ3 hc2 h => ?_)
      refine e_VJ [.int x2] [.long (μ.2.1 6 1)] dX2_hasTooFullLine_21 rfl rfl rfl rfl ho1 (Nat.le_of_ble_eq_true rfl) ⟨k1, x2, rfl, ho1, hc2⟩ ?_
      refine e_land dX2_hasTooFullLine_24 ?_
      refine cI_go h (fun E9 hc7 hr10 => e_SX [.long ((μ.2.1 6 1) &&& v6)] [] dX2_hasTooFullLine_25 rfl (by decide) rfl rfl (Nat.le_of_ble_eq_true rfl) (hbr hr10 hb9 (Nat.le_of_ble_eq_true rfl)) ⟨(μ.2.1 6 1) &&& v6, rfl, hc7⟩ rfl ⟨hr10.symm, rfl⟩) (fun v11 μ8 hc7 h => ?_)
      refine e_SI [.long ((μ.2.1 6 1) &&& v6)] [] dX2_hasTooFullLine_25 rfl (by decide) rfl rfl (Nat.le_of_ble_eq_true rfl) ⟨(μ.2.1 6 1) &&& v6, rfl, hc7⟩ ?_
      refine e_aload_n dX2_hasTooFullLine_28 rfl ?_
      refine e_iload_n dX2_hasTooFullLine_29 rfl ?_
      refine cI_go h (fun E14 hc12 hr15 => e_VX [.int x2] [.int v11] dX2_hasTooFullLine_30 rfl rfl rfl rfl ho1 (Nat.le_of_ble_eq_true rfl) (hbr hr15 hb9 (Nat.le_of_ble_eq_true rfl)) ⟨k1, x2, rfl, ho1, hc12⟩ rfl ⟨hr15.symm, rfl⟩) (fun v16 μ13 hc12 h => ?_)
      refine e_VI [.int x2] [.int v11] dX2_hasTooFullLine_30 rfl rfl rfl rfl ho1 (Nat.le_of_ble_eq_true rfl) ⟨k1, x2, rfl, ho1, hc12⟩ ?_
      refine e_ic_le (tgt := 38) dX2_hasTooFullLine_33 rfl (fun hc17 => ?_) (fun hc17 => ?_)
      · rw [if_pos hc17] at h
        refine e_iincN 2 (1 : Int32) dX2_hasTooFullLine_38 rfl ci_1 h (fun y9 => [some (.ref 6), some (.ref k1), some (.int y9)]) (fun _ => rfl) (fun v18 ev18 h => ?_)
        refine e_goto (tgt := 2) dX2_hasTooFullLine_41 rfl ?_
        exact e_le (ih v18 μ13 _ hb9 h) ⟨rfl, rfl, rfl, trivial⟩
      · rw [if_neg hc17] at h
        refine e_iconst dX2_hasTooFullLine_36 ci_1 ?_
        exact e_iret .boolean dX2_hasTooFullLine_37 rfl rfl (ret_eq h)
set_option maxHeartbeats 4000000 in
theorem b_X2_hasTooFullLine : ∀ as μ r μ', Γ_X2_hasTooFullLine as μ r μ' → (elvL as).length ≤ 3 ∧ G mX2_hasTooFullLine (Qe r μ') 0 (elv as 3) [] μ (rc r 0) := by
  intro as μ r μ' h
  obtain ⟨k1, rfl, ho1, h⟩ := h
  refine ⟨Nat.le_of_ble_eq_true rfl, ?_⟩
  show G mX2_hasTooFullLine (Qe r μ') 0 [some (.ref 6), some (.ref k1), none] [] μ (rc r 0)
  unfold F_X2_hasTooFullLine at h
  have hb9 : rc r 0 ≤ rc r 0 := Nat.le_refl _
  refine e_iconst dX2_hasTooFullLine_0 ci_0 ?_
  refine e_istore_nL [some (.ref 6), some (.ref k1), some (.int (0 : Int32))] dX2_hasTooFullLine_1 (Nat.le_of_ble_eq_true rfl) rfl ?_
  exact e_le (g_X2_hasTooFullLine_2 k1 ho1 BIG (0 : Int32) μ _ hb9 h) ⟨rfl, rfl, rfl, trivial⟩
set_option maxRecDepth 20000 in
theorem ok_X2_hasTooFullLine (l : Launch) (hl : l.stackTraces = false) : MOK l yX2_hasTooFullLine.cls 3 43 mX2_hasTooFullLine := ⟨lk_all (List.forall_mem_cons.mpr ⟨⟨yX4_wantedOf, cX4_wantedOf, 2, (some .int), 2, 22, by decide, by decide, t_1 3 rfl rfl, hd_X4_wantedOf, Or.inr (Or.inl ⟨rfl, sc_X4_wantedOf l hl, t_1 202 rfl rfl, t_2 154 rfl rfl, t_1 200 rfl rfl, _, rfl, t_1 201 rfl rfl⟩)⟩, List.forall_mem_cons.mpr ⟨⟨yJ13_bitCount_95d88, cJ13_bitCount_95d88, 2, (some .int), 1, 0, by decide, by decide, t_1 7 rfl rfl, hd_J13_bitCount_95d88, Or.inl ⟨rfl, sc_J13_bitCount_95d88 l hl, t_1 155 rfl rfl, t_2 153 rfl rfl, t_1 154 rfl rfl⟩⟩, List.forall_mem_cons.mpr ⟨⟨yX4_lineMask, cX4_lineMask, 2, (some .long), 2, 20, by decide, by decide, t_1 3 rfl rfl, hd_X4_lineMask, Or.inr (Or.inl ⟨rfl, sc_X4_lineMask l hl, t_1 185 rfl rfl, t_2 152 rfl rfl, t_1 183 rfl rfl, _, rfl, t_1 184 rfl rfl⟩)⟩, nil_all⟩⟩⟩), fun ix ci j h => lk_all (P := fun ix q => FldOK yX2_hasTooFullLine.cls ix q.1 q.2) (List.forall_mem_cons.mpr ⟨⟨_, rfl, by decide, t_1 112 rfl rfl⟩, List.forall_mem_cons.mpr ⟨⟨_, rfl, by decide, t_1 48 rfl rfl⟩, List.forall_mem_cons.mpr ⟨⟨_, rfl, by decide, t_1 51 rfl rfl⟩, nil_all⟩⟩⟩) ix (ci, j) h, lk_all (nil_all), lk_all (nil_all), lk_all (nil_all)⟩
theorem hd_X2_hasTooFullLine : CallHd yX2_hasTooFullLine 1 := ⟨by decide +kernel, by decide +kernel, by decide +kernel⟩
theorem sc_X2_hasTooFullLine (l : Launch) (hl : l.stackTraces = false) : SCon l yX2_hasTooFullLine cX2_hasTooFullLine 3 (some .boolean) 3 43 0 Γ_X2_hasTooFullLine := scon_of mX2_hasTooFullLine cls_ok hl (by decide +kernel) rfl rfl (ok_X2_hasTooFullLine l hl) rfl rfl b_X2_hasTooFullLine
def f_X2_build_80 (k1 : Nat) (k46 : Int32 → Mem → Out) : Nat → Int32 → Int32 → Int32 → Mem → Out
  | 0, _, _, _, _ => none
  | n + 1, x6, x7, x8, μ => if x7 ≤ x8 then (lt (x6 + (1 : Int32)) (fun v43 => k46 v43 μ)) else (cI (F_X2_columnsWithRoom k1 μ) (fun v48 μ45 => cI (F_X2_shift x6 v48 ((μ45.2.1 6 2) &&& ((μ45.2.1 6 1) ^^^ (-1 : Int64))) ((μ45.2.1 6 2) &&& (μ45.2.1 6 1)) μ45) (fun v53 μ50 => if v53 = 0 then (rI (0 : Int32) μ50) else (lt (x8 + (1 : Int32)) (fun v55 => f_X2_build_80 k1 k46 n x6 x7 v55 μ50)))))
def f_X2_build_46 (k1 : Nat) : Nat → Int32 → Mem → Out
  | 0, _, _ => none
  | n + 1, x6, μ => if (μ.1 k1 0) ≤ x6 then (rI (1 : Int32) μ) else (cI (F_X4_wantedOf k1 x6 μ) (fun v30 μ27 => cJ (F_X0_rowMask x6 μ27) (fun v35 μ32 => cI (F_J13_bitCount_95d88 ((μ27.2.1 6 1) &&& v35) μ32) (fun v40 μ37 => lt (v30 - v40) (fun v41 => f_X2_build_80 k1 (f_X2_build_46 k1 n) BIG x6 v41 (0 : Int32) μ37)))))
def F_X2_build (k1 : Nat) (a1 : Int64) (a2 : Int64) (μ : Mem) : Out := lt (sJ μ 6 1 (a2 &&& a1)) (fun μ1 => cJ (F_X4_board k1 μ1) (fun v6 μ3 => lt (sJ μ3 6 2 (v6 &&& (a1 ^^^ (-1 : Int64)))) (fun μ7 => cI (F_X4_wantedOfRows k1 μ7) (fun v12 μ9 => cI (F_X4_wantedOfColumns k1 μ9) (fun v17 μ14 => if v12 = v17 then (cI (F_X2_hasTooFullLine k1 μ14) (fun v23 μ20 => if v23 = 0 then (f_X2_build_46 k1 BIG (0 : Int32) μ20) else (rI (0 : Int32) μ20))) else (rI (0 : Int32) μ14))))))
def Γ_X2_build : Gam := fun as μ r μ' => ∃ (k1 : Nat) (a1 : Int64) (a2 : Int64), as = [.ref 6, .ref k1, .long a1, .long a2] ∧ okO k1 2 ∧ F_X2_build k1 a1 a2 μ = some (r, μ')
def mX2_build : MI := (cX2_build, [(38, (1, 0, 0, 2, Γ_X4_board)), (50, (1, 0, 0, 2, Γ_X4_wantedOfRows)), (54, (1, 0, 0, 2, Γ_X4_wantedOfColumns)), (57, (1, 1, 0, 0, Γ_X2_hasTooFullLine)), (65, (1, 1, 0, 2, Γ_X4_wantedOf)), (69, (0, 1, 0, 0, Γ_X0_rowMask)), (73, (0, 1, 0, 0, Γ_J13_bitCount_95d88)), (79, (1, 1, 0, 0, Γ_X2_columnsWithRoom)), (83, (1, 4, 0, 0, Γ_X2_shift))], [(15, 0, 1), (19, 0, 2), (61, 2, 0)], [], [(42, -1)], [], [], (29, none), (some .boolean))
set_option maxHeartbeats 4000000 in
theorem g_X2_build_80 {r : Res} {μ' : Mem} (k1 : Nat) (ho1 : okO k1 2) {k46 : Int32 → Mem → Out} (hk46 : ∀ (x6 : Int32), ∀ (μ : Mem) (b : Nat), rc r 0 ≤ b → k46 x6 μ = some (r, μ') → G mX2_build (Qe r μ') 46 [some (.ref 6), some (.ref k1), none, none, none, none, some (.int x6), none, none] [] μ b) : ∀ n : Nat, ∀ (x6 : Int32) (x7 : Int32) (x8 : Int32), ∀ (μ : Mem) (b : Nat), rc r 0 ≤ b → f_X2_build_80 k1 k46 n x6 x7 x8 μ = some (r, μ') → G mX2_build (Qe r μ') 80 [some (.ref 6), some (.ref k1), none, none, none, none, some (.int x6), some (.int x7), some (.int x8)] [] μ b := by
  intro n
  induction n with
  | zero => intro x6 x7 x8 μ b hb9 h; exact nomatch (show (none : Out) = some _ from h)
  | succ n ih =>
    intro x6 x7 x8 μ b hb9 h
    rw [f_X2_build_80.eq_2] at h
    refine e_iload dX2_build_80 rfl ?_
    refine e_iload dX2_build_82 rfl ?_
    refine e_ic_ge (tgt := 131) dX2_build_84 rfl (fun hc42 => ?_) (fun hc42 => ?_)
    · rw [if_pos hc42] at h
      refine e_iincN 6 (1 : Int32) dX2_build_131 rfl ci_1 h (fun y9 => [some (.ref 6), some (.ref k1), none, none, none, none, some (.int y9), some (.int x7), some (.int x8)]) (fun _ => rfl) (fun v43 ev43 h => ?_)
      refine e_goto (tgt := 46) dX2_build_134 rfl ?_
      exact e_le (hk46 v43 μ _ hb9 h) ⟨rfl, rfl, rfl, trivial⟩
    · rw [if_neg hc42] at h
      refine e_aload_n dX2_build_87 rfl ?_
      refine e_iload dX2_build_88 rfl ?_
      refine e_aload_n dX2_build_90 rfl ?_
      refine e_aload_n dX2_build_91 rfl ?_
      refine cI_go h (fun E46 hc44 hr47 => e_VX [.ref k1] [.int x6, .ref 6] dX2_build_92 rfl rfl rfl rfl ⟨Nat.le_of_ble_eq_true rfl, rfl⟩ (Nat.le_of_ble_eq_true rfl) (hbr hr47 hb9 (Nat.le_of_ble_eq_true rfl)) ⟨k1, rfl, ho1, hc44⟩ rfl ⟨hr47.symm, rfl⟩) (fun v48 μ45 hc44 h => ?_)
      refine e_VI [.ref k1] [.int x6, .ref 6] dX2_build_92 rfl rfl rfl rfl ⟨Nat.le_of_ble_eq_true rfl, rfl⟩ (Nat.le_of_ble_eq_true rfl) ⟨k1, rfl, ho1, hc44⟩ ?_
      refine e_aload_n dX2_build_95 rfl ?_
      refine e_get (ci := 0) (j := 2) (t := 1) (v := .long (μ45.2.1 6 2)) dX2_build_96 rfl (by decide) rfl rfl rfl ?_
      refine e_aload_n dX2_build_99 rfl ?_
      refine e_get (ci := 0) (j := 1) (t := 1) (v := .long (μ45.2.1 6 1)) dX2_build_100 rfl (by decide) rfl rfl rfl ?_
      refine e_ldc2 (v := (-1 : Int64)) dX2_build_103 rfl ?_
      refine e_lxor dX2_build_106 ?_
      refine e_land dX2_build_107 ?_
      refine e_aload_n dX2_build_108 rfl ?_
      refine e_get (ci := 0) (j := 2) (t := 1) (v := .long (μ45.2.1 6 2)) dX2_build_109 rfl (by decide) rfl rfl rfl ?_
      refine e_aload_n dX2_build_112 rfl ?_
      refine e_get (ci := 0) (j := 1) (t := 1) (v := .long (μ45.2.1 6 1)) dX2_build_113 rfl (by decide) rfl rfl rfl ?_
      refine e_land dX2_build_116 ?_
      refine cI_go h (fun E51 hc49 hr52 => e_VX [.int x6, .int v48, .long ((μ45.2.1 6 2) &&& ((μ45.2.1 6 1) ^^^ (-1 : Int64))), .long ((μ45.2.1 6 2) &&& (μ45.2.1 6 1))] [] dX2_build_117 rfl rfl rfl rfl ⟨Nat.le_of_ble_eq_true rfl, rfl⟩ (Nat.le_of_ble_eq_true rfl) (hbr hr52 hb9 (Nat.le_of_ble_eq_true rfl)) ⟨x6, v48, (μ45.2.1 6 2) &&& ((μ45.2.1 6 1) ^^^ (-1 : Int64)), (μ45.2.1 6 2) &&& (μ45.2.1 6 1), rfl, hc49⟩ rfl ⟨hr52.symm, rfl⟩) (fun v53 μ50 hc49 h => ?_)
      refine e_VI [.int x6, .int v48, .long ((μ45.2.1 6 2) &&& ((μ45.2.1 6 1) ^^^ (-1 : Int64))), .long ((μ45.2.1 6 2) &&& (μ45.2.1 6 1))] [] dX2_build_117 rfl rfl rfl rfl ⟨Nat.le_of_ble_eq_true rfl, rfl⟩ (Nat.le_of_ble_eq_true rfl) ⟨x6, v48, (μ45.2.1 6 2) &&& ((μ45.2.1 6 1) ^^^ (-1 : Int64)), (μ45.2.1 6 2) &&& (μ45.2.1 6 1), rfl, hc49⟩ ?_
      refine e_if_ne (tgt := 125) dX2_build_120 rfl (fun hc54 => ?_) (fun hc54 => ?_)
      · rw [if_neg hc54] at h
        refine e_iincN 8 (1 : Int32) dX2_build_125 rfl ci_1 h (fun y9 => [some (.ref 6), some (.ref k1), none, none, none, none, some (.int x6), some (.int x7), some (.int y9)]) (fun _ => rfl) (fun v55 ev55 h => ?_)
        refine e_goto (tgt := 80) dX2_build_128 rfl ?_
        exact e_le (ih x6 x7 v55 μ50 _ hb9 h) ⟨rfl, rfl, rfl, rfl, rfl, trivial⟩
      · rw [if_pos hc54] at h
        refine e_iconst dX2_build_123 ci_0 ?_
        exact e_iret .boolean dX2_build_124 rfl rfl (ret_eq h)
set_option maxHeartbeats 4000000 in
theorem g_X2_build_46 {r : Res} {μ' : Mem} (k1 : Nat) (ho1 : okO k1 2) : ∀ n : Nat, ∀ (x6 : Int32), ∀ (μ : Mem) (b : Nat), rc r 0 ≤ b → f_X2_build_46 k1 n x6 μ = some (r, μ') → G mX2_build (Qe r μ') 46 [some (.ref 6), some (.ref k1), none, none, none, none, some (.int x6), none, none] [] μ b := by
  intro n
  induction n with
  | zero => intro x6 μ b hb9 h; exact nomatch (show (none : Out) = some _ from h)
  | succ n ih =>
    intro x6 μ b hb9 h
    rw [f_X2_build_46.eq_2] at h
    refine e_iload dX2_build_46 rfl ?_
    refine e_aload_n dX2_build_48 rfl ?_
    refine e_get (ci := 2) (j := 0) (t := 0) (v := .int (μ.1 k1 0)) dX2_build_49 rfl ho1.1 ho1.2 rfl rfl ?_
    refine e_ic_ge (tgt := 137) dX2_build_52 rfl (fun hc25 => ?_) (fun hc25 => ?_)
    · rw [if_pos hc25] at h
      refine e_iconst dX2_build_137 ci_1 ?_
      exact e_iret .boolean dX2_build_138 rfl rfl (ret_eq h)
    · rw [if_neg hc25] at h
      refine e_aload_n dX2_build_55 rfl ?_
      refine e_iload dX2_build_56 rfl ?_
      refine cI_go h (fun E28 hc26 hr29 => e_VX [.int x6] [] dX2_build_58 rfl rfl rfl rfl ho1 (Nat.le_of_ble_eq_true rfl) (hbr hr29 hb9 (Nat.le_of_ble_eq_true rfl)) ⟨k1, x6, rfl, ho1, hc26⟩ rfl ⟨hr29.symm, rfl⟩) (fun v30 μ27 hc26 h => ?_)
      refine e_VI [.int x6] [] dX2_build_58 rfl rfl rfl rfl ho1 (Nat.le_of_ble_eq_true rfl) ⟨k1, x6, rfl, ho1, hc26⟩ ?_
      refine e_aload_n dX2_build_61 rfl ?_
      refine e_get (ci := 0) (j := 1) (t := 1) (v := .long (μ27.2.1 6 1)) dX2_build_62 rfl (by decide) rfl rfl rfl ?_
      refine e_iload dX2_build_65 rfl ?_
      refine cJ_go h (fun E33 hc31 hr34 => e_SX [.int x6] [.long (μ27.2.1 6 1), .int v30] dX2_build_67 rfl (by decide) rfl rfl (Nat.le_of_ble_eq_true rfl) (hbr hr34 hb9 (Nat.le_of_ble_eq_true rfl)) ⟨x6, rfl, hc31⟩ rfl ⟨hr34.symm, rfl⟩) (fun v35 μ32 hc31 h => ?_)
      refine e_SJ [.int x6] [.long (μ27.2.1 6 1), .int v30] dX2_build_67 rfl (by decide) rfl rfl (Nat.le_of_ble_eq_true rfl) ⟨x6, rfl, hc31⟩ ?_
      refine e_land dX2_build_70 ?_
      refine cI_go h (fun E38 hc36 hr39 => e_SX [.long ((μ27.2.1 6 1) &&& v35)] [.int v30] dX2_build_71 rfl (by decide) rfl rfl (Nat.le_of_ble_eq_true rfl) (hbr hr39 hb9 (Nat.le_of_ble_eq_true rfl)) ⟨(μ27.2.1 6 1) &&& v35, rfl, hc36⟩ rfl ⟨hr39.symm, rfl⟩) (fun v40 μ37 hc36 h => ?_)
      refine e_SI [.long ((μ27.2.1 6 1) &&& v35)] [.int v30] dX2_build_71 rfl (by decide) rfl rfl (Nat.le_of_ble_eq_true rfl) ⟨(μ27.2.1 6 1) &&& v35, rfl, hc36⟩ ?_
      refine e_isub dX2_build_74 ?_
      refine e_naI h (fun v41 ev41 h => ?_)
      refine e_istoreL [some (.ref 6), some (.ref k1), none, none, none, none, some (.int x6), some (.int v41), none] dX2_build_75 (Nat.le_of_ble_eq_true rfl) rfl ?_
      refine e_iconst dX2_build_77 ci_0 ?_
      refine e_istoreL [some (.ref 6), some (.ref k1), none, none, none, none, some (.int x6), some (.int v41), some (.int (0 : Int32))] dX2_build_78 (Nat.le_of_ble_eq_true rfl) rfl ?_
      exact e_le (g_X2_build_80 k1 ho1 ih BIG x6 v41 (0 : Int32) μ37 _ hb9 h) ⟨rfl, rfl, rfl, rfl, rfl, trivial⟩
set_option maxHeartbeats 4000000 in
theorem b_X2_build : ∀ as μ r μ', Γ_X2_build as μ r μ' → (elvL as).length ≤ 9 ∧ G mX2_build (Qe r μ') 0 (elv as 9) [] μ (rc r 0) := by
  intro as μ r μ' h
  obtain ⟨k1, a1, a2, rfl, ho1, h⟩ := h
  refine ⟨Nat.le_of_ble_eq_true rfl, ?_⟩
  show G mX2_build (Qe r μ') 0 [some (.ref 6), some (.ref k1), some (.long a1), none, some (.long a2), none, none, none, none] [] μ (rc r 0)
  unfold F_X2_build at h
  have hb9 : rc r 0 ≤ rc r 0 := Nat.le_refl _
  refine e_aload_n dX2_build_0 rfl ?_
  refine e_lload dX2_build_1 rfl ?_
  refine e_lload_n dX2_build_3 rfl ?_
  refine e_land dX2_build_4 ?_
  refine e_putJ (ci := 0) (j := 1) dX2_build_5 rfl (by decide) rfl rfl ?_
  refine e_naM (e := sJ μ 6 1 (a2 &&& a1)) h (fun μ1 eμ1 h => ?_)
  refine e_aload_n dX2_build_8 rfl ?_
  refine e_aload_n dX2_build_9 rfl ?_
  refine cJ_go h (fun E4 hc2 hr5 => e_VX [] [.ref 6] dX2_build_10 rfl rfl rfl rfl ho1 (Nat.le_of_ble_eq_true rfl) (hbr hr5 hb9 (Nat.le_of_ble_eq_true rfl)) ⟨k1, rfl, ho1, hc2⟩ rfl ⟨hr5.symm, rfl⟩) (fun v6 μ3 hc2 h => ?_)
  refine e_VJ [] [.ref 6] dX2_build_10 rfl rfl rfl rfl ho1 (Nat.le_of_ble_eq_true rfl) ⟨k1, rfl, ho1, hc2⟩ ?_
  refine e_lload_n dX2_build_13 rfl ?_
  refine e_ldc2 (v := (-1 : Int64)) dX2_build_14 rfl ?_
  refine e_lxor dX2_build_17 ?_
  refine e_land dX2_build_18 ?_
  refine e_putJ (ci := 0) (j := 2) dX2_build_19 rfl (by decide) rfl rfl ?_
  refine e_naM (e := sJ μ3 6 2 (v6 &&& (a1 ^^^ (-1 : Int64)))) h (fun μ7 eμ7 h => ?_)
  refine e_aload_n dX2_build_22 rfl ?_
  refine cI_go h (fun E10 hc8 hr11 => e_VX [] [] dX2_build_23 rfl rfl rfl rfl ho1 (Nat.le_of_ble_eq_true rfl) (hbr hr11 hb9 (Nat.le_of_ble_eq_true rfl)) ⟨k1, rfl, ho1, hc8⟩ rfl ⟨hr11.symm, rfl⟩) (fun v12 μ9 hc8 h => ?_)
  refine e_VI [] [] dX2_build_23 rfl rfl rfl rfl ho1 (Nat.le_of_ble_eq_true rfl) ⟨k1, rfl, ho1, hc8⟩ ?_
  refine e_aload_n dX2_build_26 rfl ?_
  refine cI_go h (fun E15 hc13 hr16 => e_VX [] [.int v12] dX2_build_27 rfl rfl rfl rfl ho1 (Nat.le_of_ble_eq_true rfl) (hbr hr16 hb9 (Nat.le_of_ble_eq_true rfl)) ⟨k1, rfl, ho1, hc13⟩ rfl ⟨hr16.symm, rfl⟩) (fun v17 μ14 hc13 h => ?_)
  refine e_VI [] [.int v12] dX2_build_27 rfl rfl rfl rfl ho1 (Nat.le_of_ble_eq_true rfl) ⟨k1, rfl, ho1, hc13⟩ ?_
  refine e_ic_ne (tgt := 41) dX2_build_30 rfl (fun hc18 => ?_) (fun hc18 => ?_)
  · rw [if_neg hc18] at h
    refine e_iconst dX2_build_41 ci_0 ?_
    exact e_iret .boolean dX2_build_42 rfl rfl (ret_eq h)
  · rw [if_pos hc18] at h
    refine e_aload_n dX2_build_33 rfl ?_
    refine e_aload_n dX2_build_34 rfl ?_
    refine cI_go h (fun E21 hc19 hr22 => e_VX [.ref k1] [] dX2_build_35 rfl rfl rfl rfl ⟨Nat.le_of_ble_eq_true rfl, rfl⟩ (Nat.le_of_ble_eq_true rfl) (hbr hr22 hb9 (Nat.le_of_ble_eq_true rfl)) ⟨k1, rfl, ho1, hc19⟩ rfl ⟨hr22.symm, rfl⟩) (fun v23 μ20 hc19 h => ?_)
    refine e_VI [.ref k1] [] dX2_build_35 rfl rfl rfl rfl ⟨Nat.le_of_ble_eq_true rfl, rfl⟩ (Nat.le_of_ble_eq_true rfl) ⟨k1, rfl, ho1, hc19⟩ ?_
    refine e_if_eq (tgt := 43) dX2_build_38 rfl (fun hc24 => ?_) (fun hc24 => ?_)
    · rw [if_pos hc24] at h
      refine e_iconst dX2_build_43 ci_0 ?_
      refine e_istoreL [some (.ref 6), some (.ref k1), some (.long a1), none, some (.long a2), none, some (.int (0 : Int32)), none, none] dX2_build_44 (Nat.le_of_ble_eq_true rfl) rfl ?_
      exact e_le (g_X2_build_46 k1 ho1 BIG (0 : Int32) μ20 _ hb9 h) ⟨rfl, rfl, rfl, trivial⟩
    · rw [if_neg hc24] at h
      refine e_iconst dX2_build_41 ci_0 ?_
      exact e_iret .boolean dX2_build_42 rfl rfl (ret_eq h)
set_option maxRecDepth 20000 in
theorem ok_X2_build (l : Launch) (hl : l.stackTraces = false) : MOK l yX2_build.cls 4 66 mX2_build := ⟨lk_all (List.forall_mem_cons.mpr ⟨⟨yX4_board, cX4_board, 1, (some .long), 1, 0, by decide, by decide, t_1 3 rfl rfl, hd_X4_board, Or.inr (Or.inl ⟨rfl, sc_X4_board l hl, t_1 189 rfl rfl, t_2 144 rfl rfl, t_1 187 rfl rfl, _, rfl, t_1 188 rfl rfl⟩)⟩, List.forall_mem_cons.mpr ⟨⟨yX4_wantedOfRows, cX4_wantedOfRows, 1, (some .int), 3, 45, by decide, by decide, t_1 3 rfl rfl, hd_X4_wantedOfRows, Or.inr (Or.inl ⟨rfl, sc_X4_wantedOfRows l hl, t_1 163 rfl rfl, t_2 146 rfl rfl, t_1 161 rfl rfl, _, rfl, t_1 162 rfl rfl⟩)⟩, List.forall_mem_cons.mpr ⟨⟨yX4_wantedOfColumns, cX4_wantedOfColumns, 1, (some .int), 3, 45, by decide, by decide, t_1 3 rfl rfl, hd_X4_wantedOfColumns, Or.inr (Or.inl ⟨rfl, sc_X4_wantedOfColumns l hl, t_1 173 rfl rfl, t_2 147 rfl rfl, t_1 171 rfl rfl, _, rfl, t_1 172 rfl rfl⟩)⟩, List.forall_mem_cons.mpr ⟨⟨yX2_hasTooFullLine, cX2_hasTooFullLine, 3, (some .boolean), 3, 43, by decide, by decide, t_1 6 rfl rfl, hd_X2_hasTooFullLine, Or.inr (Or.inl ⟨rfl, sc_X2_hasTooFullLine l hl, t_2 151 rfl rfl, t_2 148 rfl rfl, t_2 150 rfl rfl, _, rfl, t_p 5 rfl⟩)⟩, List.forall_mem_cons.mpr ⟨⟨yX4_wantedOf, cX4_wantedOf, 2, (some .int), 2, 22, by decide, by decide, t_1 3 rfl rfl, hd_X4_wantedOf, Or.inr (Or.inl ⟨rfl, sc_X4_wantedOf l hl, t_1 202 rfl rfl, t_2 154 rfl rfl, t_1 200 rfl rfl, _, rfl, t_1 201 rfl rfl⟩)⟩, List.forall_mem_cons.mpr ⟨⟨yX0_rowMask, cX0_rowMask, 1, (some .long), 1, 0, by decide, by decide, t_1 9 rfl rfl, hd_X0_rowMask, Or.inl ⟨rfl, sc_X0_rowMask l hl, t_1 193 rfl rfl, t_2 155 rfl rfl, t_1 192 rfl rfl⟩⟩, List.forall_mem_cons.mpr ⟨⟨yJ13_bitCount_95d88, cJ13_bitCount_95d88, 2, (some .int), 1, 0, by decide, by decide, t_1 7 rfl rfl, hd_J13_bitCount_95d88, Or.inl ⟨rfl, sc_J13_bitCount_95d88 l hl, t_1 155 rfl rfl, t_2 153 rfl rfl, t_1 154 rfl rfl⟩⟩, List.forall_mem_cons.mpr ⟨⟨yX2_columnsWithRoom, cX2_columnsWithRoom, 4, (some .int), 3, 43, by decide, by decide, t_1 6 rfl rfl, hd_X2_columnsWithRoom, Or.inr (Or.inl ⟨rfl, sc_X2_columnsWithRoom l hl, t_2 159 rfl rfl, t_2 156 rfl rfl, t_2 158 rfl rfl, _, rfl, t_p 6 rfl⟩)⟩, List.forall_mem_cons.mpr ⟨⟨yX2_shift, cX2_shift, 16, (some .boolean), 2, 30, by decide, by decide, t_1 6 rfl rfl, hd_X2_shift, Or.inr (Or.inl ⟨rfl, sc_X2_shift l hl, t_2 164 rfl rfl, t_2 161 rfl rfl, t_2 163 rfl rfl, _, rfl, t_p 7 rfl⟩)⟩, nil_all⟩⟩⟩⟩⟩⟩⟩⟩⟩), fun ix ci j h => lk_all (P := fun ix q => FldOK yX2_build.cls ix q.1 q.2) (List.forall_mem_cons.mpr ⟨⟨_, rfl, by decide, t_1 112 rfl rfl⟩, List.forall_mem_cons.mpr ⟨⟨_, rfl, by decide, t_1 113 rfl rfl⟩, List.forall_mem_cons.mpr ⟨⟨_, rfl, by decide, t_1 48 rfl rfl⟩, nil_all⟩⟩⟩) ix (ci, j) h, lk_all (nil_all), lk_all (List.forall_mem_cons.mpr ⟨t_2 145 rfl rfl, nil_all⟩), lk_all (nil_all)⟩
theorem hd_X2_build : CallHd yX2_build 3 := ⟨by decide +kernel, by decide +kernel, by decide +kernel⟩
theorem sc_X2_build (l : Launch) (hl : l.stackTraces = false) : SCon l yX2_build cX2_build 9 (some .boolean) 4 66 0 Γ_X2_build := scon_of mX2_build cls_ok hl (by decide +kernel) rfl rfl (ok_X2_build l hl) rfl rfl b_X2_build
def f_X2_findBehind_27 (k1 : Nat) : Nat → Int64 → Int32 → Mem → Out
  | 0, _, _, _ => none
  | n + 1, x2, x4, μ => if x4 < 0 then (rI (0 : Int32) μ) else (lt (shlL (1 : Int64) x4) (fun v8 => if (lg_cmp (x2 &&& v8) (0 : Int64)) = 0 then (lt (x4 + (-1 : Int32)) (fun v10 => f_X2_findBehind_27 k1 n x2 v10 μ)) else (cI (F_X2_build k1 (((μ.2.1 k1 3) ||| v8) ||| (v8 - (1 : Int64))) ((μ.2.1 k1 2) ||| v8) μ) (fun v15 μ12 => if v15 = 0 then (lt (x4 + (-1 : Int32)) (fun v17 => f_X2_findBehind_27 k1 n x2 v17 μ12)) else (cV (F_X2_settle (0 : Int32) μ12) (fun μ19 => rI (1 : Int32) μ19))))))
def F_X2_findBehind (k1 : Nat) (μ : Mem) : Out := cJ (F_X4_board k1 μ) (fun v5 μ2 => lt ((v5 &&& ((μ2.2.1 k1 3) ^^^ (-1 : Int64))) &&& ((μ2.2.1 k1 2) ^^^ (-1 : Int64))) (fun v6 => f_X2_findBehind_27 k1 BIG v6 (47 : Int32) μ2))
def Γ_X2_findBehind : Gam := fun as μ r μ' => ∃ (k1 : Nat), as = [.ref 6, .ref k1] ∧ okO k1 2 ∧ F_X2_findBehind k1 μ = some (r, μ')
def mX2_findBehind : MI := (cX2_findBehind, [(30, (1, 3, 0, 0, Γ_X2_build)), (34, (1, 1, 0, 0, Γ_X2_settle)), (38, (1, 0, 0, 2, Γ_X4_board))], [(22, 2, 3), (27, 2, 2)], [], [(42, -1)], [], [], (29, none), (some .boolean))
set_option maxHeartbeats 4000000 in
theorem g_X2_findBehind_27 {r : Res} {μ' : Mem} (k1 : Nat) (ho1 : okO k1 2) : ∀ n : Nat, ∀ (x2 : Int64) (x4 : Int32), ∀ (μ : Mem) (b : Nat), rc r 0 ≤ b → f_X2_findBehind_27 k1 n x2 x4 μ = some (r, μ') → G mX2_findBehind (Qe r μ') 27 [some (.ref 6), some (.ref k1), some (.long x2), none, some (.int x4), none, none] [] μ b := by
  intro n
  induction n with
  | zero => intro x2 x4 μ b hb9 h; exact nomatch (show (none : Out) = some _ from h)
  | succ n ih =>
    intro x2 x4 μ b hb9 h
    rw [f_X2_findBehind_27.eq_2] at h
    refine e_iload dX2_findBehind_27 rfl ?_
    refine e_if_lt (tgt := 87) dX2_findBehind_29 rfl (fun hc7 => ?_) (fun hc7 => ?_)
    · rw [if_pos hc7] at h
      refine e_iconst dX2_findBehind_87 ci_0 ?_
      exact e_iret .boolean dX2_findBehind_88 rfl rfl (ret_eq h)
    · rw [if_neg hc7] at h
      refine e_lconst (v := (1 : Int64)) dX2_findBehind_32 rfl ?_
      refine e_iload dX2_findBehind_33 rfl ?_
      refine e_lshl dX2_findBehind_35 ?_
      refine e_naJ h (fun v8 ev8 h => ?_)
      refine e_lstoreL [some (.ref 6), some (.ref k1), some (.long x2), none, some (.int x4), some (.long v8), none] dX2_findBehind_36 (Nat.le_of_ble_eq_true rfl) rfl ?_
      refine e_lload_n dX2_findBehind_38 rfl ?_
      refine e_lload dX2_findBehind_39 rfl ?_
      refine e_land dX2_findBehind_41 ?_
      refine e_lconst (v := (0 : Int64)) dX2_findBehind_42 rfl ?_
      refine e_lcmp dX2_findBehind_43 ?_
      refine e_if_eq (tgt := 81) dX2_findBehind_44 rfl (fun hc9 => ?_) (fun hc9 => ?_)
      · rw [if_pos hc9] at h
        refine e_iincN 4 (-1 : Int32) dX2_findBehind_81 rfl ci_m1 h (fun y9 => [some (.ref 6), some (.ref k1), some (.long x2), none, some (.int y9), some (.long v8), none]) (fun _ => rfl) (fun v10 ev10 h => ?_)
        refine e_goto (tgt := 27) dX2_findBehind_84 rfl ?_
        exact e_le (ih x2 v10 μ _ hb9 h) ⟨rfl, rfl, rfl, rfl, trivial⟩
      · rw [if_neg hc9] at h
        refine e_aload_n dX2_findBehind_47 rfl ?_
        refine e_aload_n dX2_findBehind_48 rfl ?_
        refine e_aload_n dX2_findBehind_49 rfl ?_
        refine e_get (ci := 2) (j := 3) (t := 1) (v := .long (μ.2.1 k1 3)) dX2_findBehind_50 rfl ho1.1 ho1.2 rfl rfl ?_
        refine e_lload dX2_findBehind_53 rfl ?_
        refine e_lor dX2_findBehind_55 ?_
        refine e_lload dX2_findBehind_56 rfl ?_
        refine e_lconst (v := (1 : Int64)) dX2_findBehind_58 rfl ?_
        refine e_lsub dX2_findBehind_59 ?_
        refine e_lor dX2_findBehind_60 ?_
        refine e_aload_n dX2_findBehind_61 rfl ?_
        refine e_get (ci := 2) (j := 2) (t := 1) (v := .long (μ.2.1 k1 2)) dX2_findBehind_62 rfl ho1.1 ho1.2 rfl rfl ?_
        refine e_lload dX2_findBehind_65 rfl ?_
        refine e_lor dX2_findBehind_67 ?_
        refine cI_go h (fun E13 hc11 hr14 => e_VX [.ref k1, .long (((μ.2.1 k1 3) ||| v8) ||| (v8 - (1 : Int64))), .long ((μ.2.1 k1 2) ||| v8)] [] dX2_findBehind_68 rfl rfl rfl rfl ⟨Nat.le_of_ble_eq_true rfl, rfl⟩ (Nat.le_of_ble_eq_true rfl) (hbr hr14 hb9 (Nat.le_of_ble_eq_true rfl)) ⟨k1, ((μ.2.1 k1 3) ||| v8) ||| (v8 - (1 : Int64)), (μ.2.1 k1 2) ||| v8, rfl, ho1, hc11⟩ rfl ⟨hr14.symm, rfl⟩) (fun v15 μ12 hc11 h => ?_)
        refine e_VI [.ref k1, .long (((μ.2.1 k1 3) ||| v8) ||| (v8 - (1 : Int64))), .long ((μ.2.1 k1 2) ||| v8)] [] dX2_findBehind_68 rfl rfl rfl rfl ⟨Nat.le_of_ble_eq_true rfl, rfl⟩ (Nat.le_of_ble_eq_true rfl) ⟨k1, ((μ.2.1 k1 3) ||| v8) ||| (v8 - (1 : Int64)), (μ.2.1 k1 2) ||| v8, rfl, ho1, hc11⟩ ?_
        refine e_if_eq (tgt := 81) dX2_findBehind_71 rfl (fun hc16 => ?_) (fun hc16 => ?_)
        · rw [if_pos hc16] at h
          refine e_iincN 4 (-1 : Int32) dX2_findBehind_81 rfl ci_m1 h (fun y9 => [some (.ref 6), some (.ref k1), some (.long x2), none, some (.int y9), some (.long v8), none]) (fun _ => rfl) (fun v17 ev17 h => ?_)
          refine e_goto (tgt := 27) dX2_findBehind_84 rfl ?_
          exact e_le (ih x2 v17 μ12 _ hb9 h) ⟨rfl, rfl, rfl, rfl, trivial⟩
        · rw [if_neg hc16] at h
          refine e_aload_n dX2_findBehind_74 rfl ?_
          refine e_iconst dX2_findBehind_75 ci_0 ?_
          refine cV_go h (fun E20 hc18 hr21 => e_VX [.int (0 : Int32)] [] dX2_findBehind_76 rfl rfl rfl rfl ⟨Nat.le_of_ble_eq_true rfl, rfl⟩ (Nat.le_of_ble_eq_true rfl) (hbr hr21 hb9 (Nat.le_of_ble_eq_true rfl)) ⟨(0 : Int32), rfl, hc18⟩ rfl ⟨hr21.symm, rfl⟩) (fun μ19 hc18 h => ?_)
          refine e_VV [.int (0 : Int32)] [] dX2_findBehind_76 rfl rfl rfl rfl ⟨Nat.le_of_ble_eq_true rfl, rfl⟩ (Nat.le_of_ble_eq_true rfl) ⟨(0 : Int32), rfl, hc18⟩ ?_
          refine e_iconst dX2_findBehind_79 ci_1 ?_
          exact e_iret .boolean dX2_findBehind_80 rfl rfl (ret_eq h)
set_option maxHeartbeats 4000000 in
theorem b_X2_findBehind : ∀ as μ r μ', Γ_X2_findBehind as μ r μ' → (elvL as).length ≤ 7 ∧ G mX2_findBehind (Qe r μ') 0 (elv as 7) [] μ (rc r 0) := by
  intro as μ r μ' h
  obtain ⟨k1, rfl, ho1, h⟩ := h
  refine ⟨Nat.le_of_ble_eq_true rfl, ?_⟩
  show G mX2_findBehind (Qe r μ') 0 [some (.ref 6), some (.ref k1), none, none, none, none, none] [] μ (rc r 0)
  unfold F_X2_findBehind at h
  have hb9 : rc r 0 ≤ rc r 0 := Nat.le_refl _
  refine e_aload_n dX2_findBehind_0 rfl ?_
  refine cJ_go h (fun E3 hc1 hr4 => e_VX [] [] dX2_findBehind_1 rfl rfl rfl rfl ho1 (Nat.le_of_ble_eq_true rfl) (hbr hr4 hb9 (Nat.le_of_ble_eq_true rfl)) ⟨k1, rfl, ho1, hc1⟩ rfl ⟨hr4.symm, rfl⟩) (fun v5 μ2 hc1 h => ?_)
  refine e_VJ [] [] dX2_findBehind_1 rfl rfl rfl rfl ho1 (Nat.le_of_ble_eq_true rfl) ⟨k1, rfl, ho1, hc1⟩ ?_
  refine e_aload_n dX2_findBehind_4 rfl ?_
  refine e_get (ci := 2) (j := 3) (t := 1) (v := .long (μ2.2.1 k1 3)) dX2_findBehind_5 rfl ho1.1 ho1.2 rfl rfl ?_
  refine e_ldc2 (v := (-1 : Int64)) dX2_findBehind_8 rfl ?_
  refine e_lxor dX2_findBehind_11 ?_
  refine e_land dX2_findBehind_12 ?_
  refine e_aload_n dX2_findBehind_13 rfl ?_
  refine e_get (ci := 2) (j := 2) (t := 1) (v := .long (μ2.2.1 k1 2)) dX2_findBehind_14 rfl ho1.1 ho1.2 rfl rfl ?_
  refine e_ldc2 (v := (-1 : Int64)) dX2_findBehind_17 rfl ?_
  refine e_lxor dX2_findBehind_20 ?_
  refine e_land dX2_findBehind_21 ?_
  refine e_naJ h (fun v6 ev6 h => ?_)
  refine e_lstore_nL [some (.ref 6), some (.ref k1), some (.long v6), none, none, none, none] dX2_findBehind_22 (Nat.le_of_ble_eq_true rfl) rfl ?_
  refine e_bipush dX2_findBehind_23 cb_47 ?_
  refine e_istoreL [some (.ref 6), some (.ref k1), some (.long v6), none, some (.int (47 : Int32)), none, none] dX2_findBehind_25 (Nat.le_of_ble_eq_true rfl) rfl ?_
  exact e_le (g_X2_findBehind_27 k1 ho1 BIG v6 (47 : Int32) μ2 _ hb9 h) ⟨rfl, rfl, rfl, rfl, trivial⟩
set_option maxRecDepth 20000 in
theorem ok_X2_findBehind (l : Launch) (hl : l.stackTraces = false) : MOK l yX2_findBehind.cls 5 119 mX2_findBehind := ⟨lk_all (List.forall_mem_cons.mpr ⟨⟨yX2_build, cX2_build, 9, (some .boolean), 4, 66, by decide, by decide, t_1 6 rfl rfl, hd_X2_build, Or.inr (Or.inl ⟨rfl, sc_X2_build l hl, t_2 143 rfl rfl, t_2 140 rfl rfl, t_2 142 rfl rfl, _, rfl, t_p 4 rfl⟩)⟩, List.forall_mem_cons.mpr ⟨⟨yX2_settle, cX2_settle, 6, none, 4, 94, by decide, by decide, t_1 6 rfl rfl, hd_X2_settle, Or.inr (Or.inl ⟨rfl, sc_X2_settle l hl, t_3 55 rfl rfl, t_3 52 rfl rfl, t_3 54 rfl rfl, _, rfl, t_p 14 rfl⟩)⟩, List.forall_mem_cons.mpr ⟨⟨yX4_board, cX4_board, 1, (some .long), 1, 0, by decide, by decide, t_1 3 rfl rfl, hd_X4_board, Or.inr (Or.inl ⟨rfl, sc_X4_board l hl, t_1 189 rfl rfl, t_2 144 rfl rfl, t_1 187 rfl rfl, _, rfl, t_1 188 rfl rfl⟩)⟩, nil_all⟩⟩⟩), fun ix ci j h => lk_all (P := fun ix q => FldOK yX2_findBehind.cls ix q.1 q.2) (List.forall_mem_cons.mpr ⟨⟨_, rfl, by decide, t_1 56 rfl rfl⟩, List.forall_mem_cons.mpr ⟨⟨_, rfl, by decide, t_1 53 rfl rfl⟩, nil_all⟩⟩) ix (ci, j) h, lk_all (nil_all), lk_all (List.forall_mem_cons.mpr ⟨t_2 145 rfl rfl, nil_all⟩), lk_all (nil_all)⟩
theorem hd_X2_findBehind : CallHd yX2_findBehind 1 := ⟨by decide +kernel, by decide +kernel, by decide +kernel⟩
theorem sc_X2_findBehind (l : Launch) (hl : l.stackTraces = false) : SCon l yX2_findBehind cX2_findBehind 7 (some .boolean) 5 119 0 Γ_X2_findBehind := scon_of mX2_findBehind cls_ok hl (by decide +kernel) rfl rfl (ok_X2_findBehind l hl) rfl rfl b_X2_findBehind
def F_X2_findOutermost (k1 : Nat) (a1 : Int32) (μ : Mem) : Out := cI (F_X2_build k1 (μ.2.1 k1 3) (μ.2.1 k1 2) μ) (fun v5 μ2 => if v5 = 0 then (rI (0 : Int32) μ2) else (cV (F_X2_settle a1 μ2) (fun μ8 => rI (1 : Int32) μ8)))
def Γ_X2_findOutermost : Gam := fun as μ r μ' => ∃ (k1 : Nat) (a1 : Int32), as = [.ref 6, .ref k1, .int a1] ∧ okO k1 2 ∧ F_X2_findOutermost k1 a1 μ = some (r, μ')
def mX2_findOutermost : MI := (cX2_findOutermost, [(30, (1, 3, 0, 0, Γ_X2_build)), (34, (1, 1, 0, 0, Γ_X2_settle))], [(22, 2, 3), (27, 2, 2)], [], [], [], [], (29, none), (some .boolean))
set_option maxHeartbeats 4000000 in
theorem b_X2_findOutermost : ∀ as μ r μ', Γ_X2_findOutermost as μ r μ' → (elvL as).length ≤ 3 ∧ G mX2_findOutermost (Qe r μ') 0 (elv as 3) [] μ (rc r 0) := by
  intro as μ r μ' h
  obtain ⟨k1, a1, rfl, ho1, h⟩ := h
  refine ⟨Nat.le_of_ble_eq_true rfl, ?_⟩
  show G mX2_findOutermost (Qe r μ') 0 [some (.ref 6), some (.ref k1), some (.int a1)] [] μ (rc r 0)
  unfold F_X2_findOutermost at h
  have hb9 : rc r 0 ≤ rc r 0 := Nat.le_refl _
  refine e_aload_n dX2_findOutermost_0 rfl ?_
  refine e_aload_n dX2_findOutermost_1 rfl ?_
  refine e_aload_n dX2_findOutermost_2 rfl ?_
  refine e_get (ci := 2) (j := 3) (t := 1) (v := .long (μ.2.1 k1 3)) dX2_findOutermost_3 rfl ho1.1 ho1.2 rfl rfl ?_
  refine e_aload_n dX2_findOutermost_6 rfl ?_
  refine e_get (ci := 2) (j := 2) (t := 1) (v := .long (μ.2.1 k1 2)) dX2_findOutermost_7 rfl ho1.1 ho1.2 rfl rfl ?_
  refine cI_go h (fun E3 hc1 hr4 => e_VX [.ref k1, .long (μ.2.1 k1 3), .long (μ.2.1 k1 2)] [] dX2_findOutermost_10 rfl rfl rfl rfl ⟨Nat.le_of_ble_eq_true rfl, rfl⟩ (Nat.le_of_ble_eq_true rfl) (hbr hr4 hb9 (Nat.le_of_ble_eq_true rfl)) ⟨k1, μ.2.1 k1 3, μ.2.1 k1 2, rfl, ho1, hc1⟩ rfl ⟨hr4.symm, rfl⟩) (fun v5 μ2 hc1 h => ?_)
  refine e_VI [.ref k1, .long (μ.2.1 k1 3), .long (μ.2.1 k1 2)] [] dX2_findOutermost_10 rfl rfl rfl rfl ⟨Nat.le_of_ble_eq_true rfl, rfl⟩ (Nat.le_of_ble_eq_true rfl) ⟨k1, μ.2.1 k1 3, μ.2.1 k1 2, rfl, ho1, hc1⟩ ?_
  refine e_if_ne (tgt := 18) dX2_findOutermost_13 rfl (fun hc6 => ?_) (fun hc6 => ?_)
  · rw [if_neg hc6] at h
    refine e_aload_n dX2_findOutermost_18 rfl ?_
    refine e_iload_n dX2_findOutermost_19 rfl ?_
    refine cV_go h (fun E9 hc7 hr10 => e_VX [.int a1] [] dX2_findOutermost_20 rfl rfl rfl rfl ⟨Nat.le_of_ble_eq_true rfl, rfl⟩ (Nat.le_of_ble_eq_true rfl) (hbr hr10 hb9 (Nat.le_of_ble_eq_true rfl)) ⟨a1, rfl, hc7⟩ rfl ⟨hr10.symm, rfl⟩) (fun μ8 hc7 h => ?_)
    refine e_VV [.int a1] [] dX2_findOutermost_20 rfl rfl rfl rfl ⟨Nat.le_of_ble_eq_true rfl, rfl⟩ (Nat.le_of_ble_eq_true rfl) ⟨a1, rfl, hc7⟩ ?_
    refine e_iconst dX2_findOutermost_23 ci_1 ?_
    exact e_iret .boolean dX2_findOutermost_24 rfl rfl (ret_eq h)
  · rw [if_pos hc6] at h
    refine e_iconst dX2_findOutermost_16 ci_0 ?_
    exact e_iret .boolean dX2_findOutermost_17 rfl rfl (ret_eq h)
set_option maxRecDepth 20000 in
theorem ok_X2_findOutermost (l : Launch) (hl : l.stackTraces = false) : MOK l yX2_findOutermost.cls 5 119 mX2_findOutermost := ⟨lk_all (List.forall_mem_cons.mpr ⟨⟨yX2_build, cX2_build, 9, (some .boolean), 4, 66, by decide, by decide, t_1 6 rfl rfl, hd_X2_build, Or.inr (Or.inl ⟨rfl, sc_X2_build l hl, t_2 143 rfl rfl, t_2 140 rfl rfl, t_2 142 rfl rfl, _, rfl, t_p 4 rfl⟩)⟩, List.forall_mem_cons.mpr ⟨⟨yX2_settle, cX2_settle, 6, none, 4, 94, by decide, by decide, t_1 6 rfl rfl, hd_X2_settle, Or.inr (Or.inl ⟨rfl, sc_X2_settle l hl, t_3 55 rfl rfl, t_3 52 rfl rfl, t_3 54 rfl rfl, _, rfl, t_p 14 rfl⟩)⟩, nil_all⟩⟩), fun ix ci j h => lk_all (P := fun ix q => FldOK yX2_findOutermost.cls ix q.1 q.2) (List.forall_mem_cons.mpr ⟨⟨_, rfl, by decide, t_1 56 rfl rfl⟩, List.forall_mem_cons.mpr ⟨⟨_, rfl, by decide, t_1 53 rfl rfl⟩, nil_all⟩⟩) ix (ci, j) h, lk_all (nil_all), lk_all (nil_all), lk_all (nil_all)⟩
theorem hd_X2_findOutermost : CallHd yX2_findOutermost 2 := ⟨by decide +kernel, by decide +kernel, by decide +kernel⟩
theorem sc_X2_findOutermost (l : Launch) (hl : l.stackTraces = false) : SCon l yX2_findOutermost cX2_findOutermost 3 (some .boolean) 5 119 0 Γ_X2_findOutermost := scon_of mX2_findOutermost cls_ok hl (by decide +kernel) rfl rfl (ok_X2_findOutermost l hl) rfl rfl b_X2_findOutermost
def F_X2_found (μ : Mem) : Out := rJ (μ.2.1 6 1) μ
def Γ_X2_found : Gam := fun as μ r μ' => as = [.ref 6] ∧ F_X2_found μ = some (r, μ')
def mX2_found : MI := (cX2_found, [], [(15, 0, 1)], [], [], [], [], (29, none), (some .long))
set_option maxHeartbeats 4000000 in
theorem b_X2_found : ∀ as μ r μ', Γ_X2_found as μ r μ' → (elvL as).length ≤ 1 ∧ G mX2_found (Qe r μ') 0 (elv as 1) [] μ (rc r 0) := by
  intro as μ r μ' h
  obtain ⟨rfl, h⟩ := h
  refine ⟨Nat.le_of_ble_eq_true rfl, ?_⟩
  show G mX2_found (Qe r μ') 0 [some (.ref 6)] [] μ (rc r 0)
  unfold F_X2_found at h
  have hb9 : rc r 0 ≤ rc r 0 := Nat.le_refl _
  refine e_aload_n dX2_found_0 rfl ?_
  refine e_get (ci := 0) (j := 1) (t := 1) (v := .long (μ.2.1 6 1)) dX2_found_1 rfl (by decide) rfl rfl rfl ?_
  exact e_lret dX2_found_4 rfl (ret_eq h)
set_option maxRecDepth 20000 in
theorem ok_X2_found (l : Launch) (hl : l.stackTraces = false) : MOK l yX2_found.cls 1 0 mX2_found := ⟨lk_all (nil_all), fun ix ci j h => lk_all (P := fun ix q => FldOK yX2_found.cls ix q.1 q.2) (List.forall_mem_cons.mpr ⟨⟨_, rfl, by decide, t_1 112 rfl rfl⟩, nil_all⟩) ix (ci, j) h, lk_all (nil_all), lk_all (nil_all), lk_all (nil_all)⟩
theorem hd_X2_found : CallHd yX2_found 0 := ⟨by decide +kernel, by decide +kernel, by decide +kernel⟩
theorem sc_X2_found (l : Launch) (hl : l.stackTraces = false) : SCon l yX2_found cX2_found 1 (some .long) 1 0 0 Γ_X2_found := scon_of mX2_found cls_ok hl (by decide +kernel) rfl rfl (ok_X2_found l hl) rfl rfl b_X2_found
def f_X2_sureCells_26 (k1 : Nat) : Nat → Int64 → Int32 → Mem → Out
  | 0, _, _, _ => none
  | n + 1, x2, x4, μ => if (48 : Int32) ≤ x4 then (rJ x2 μ) else (lt (shlL (1 : Int64) x4) (fun v13 => if (lg_cmp ((μ.2.1 6 2) &&& v13) (0 : Int64)) = 0 then (lt (x4 + (1 : Int32)) (fun v15 => f_X2_sureCells_26 k1 n x2 v15 μ)) else (cI (F_X2_change x4 μ) (fun v20 μ17 => if v20 = 0 then (lt (x4 + (1 : Int32)) (fun v22 => f_X2_sureCells_26 k1 n x2 v22 μ17)) else (lt (x2 &&& (v13 ^^^ (-1 : Int64))) (fun v23 => lt (x4 + (1 : Int32)) (fun v24 => f_X2_sureCells_26 k1 n v23 v24 μ17)))))))
def F_X2_sureCells (k1 : Nat) (μ : Mem) : Out := cI (F_X2_build k1 (μ.2.1 k1 3) (μ.2.1 k1 2) μ) (fun v5 μ2 => if v5 = 0 then (rJ (0 : Int64) μ2) else (cJ (F_X4_board k1 μ2) (fun v11 μ8 => f_X2_sureCells_26 k1 BIG v11 (0 : Int32) μ8)))
def Γ_X2_sureCells : Gam := fun as μ r μ' => ∃ (k1 : Nat), as = [.ref 6, .ref k1] ∧ okO k1 2 ∧ F_X2_sureCells k1 μ = some (r, μ')
def mX2_sureCells : MI := (cX2_sureCells, [(30, (1, 3, 0, 0, Γ_X2_build)), (38, (1, 0, 0, 2, Γ_X4_board)), (46, (1, 1, 0, 0, Γ_X2_change))], [(19, 0, 2), (22, 2, 3), (27, 2, 2)], [], [(42, -1)], [], [], (29, none), (some .long))
set_option maxHeartbeats 4000000 in
theorem g_X2_sureCells_26 {r : Res} {μ' : Mem} (k1 : Nat) (ho1 : okO k1 2) : ∀ n : Nat, ∀ (x2 : Int64) (x4 : Int32), ∀ (μ : Mem) (b : Nat), rc r 0 ≤ b → f_X2_sureCells_26 k1 n x2 x4 μ = some (r, μ') → G mX2_sureCells (Qe r μ') 26 [some (.ref 6), none, some (.long x2), none, some (.int x4), none, none] [] μ b := by
  intro n
  induction n with
  | zero => intro x2 x4 μ b hb9 h; exact nomatch (show (none : Out) = some _ from h)
  | succ n ih =>
    intro x2 x4 μ b hb9 h
    rw [f_X2_sureCells_26.eq_2] at h
    refine e_iload dX2_sureCells_26 rfl ?_
    refine e_bipush dX2_sureCells_28 cb_48 ?_
    refine e_ic_ge (tgt := 75) dX2_sureCells_30 rfl (fun hc12 => ?_) (fun hc12 => ?_)
    · rw [if_pos hc12] at h
      refine e_lload_n dX2_sureCells_75 rfl ?_
      exact e_lret dX2_sureCells_76 rfl (ret_eq h)
    · rw [if_neg hc12] at h
      refine e_lconst (v := (1 : Int64)) dX2_sureCells_33 rfl ?_
      refine e_iload dX2_sureCells_34 rfl ?_
      refine e_lshl dX2_sureCells_36 ?_
      refine e_naJ h (fun v13 ev13 h => ?_)
      refine e_lstoreL [some (.ref 6), none, some (.long x2), none, some (.int x4), some (.long v13), none] dX2_sureCells_37 (Nat.le_of_ble_eq_true rfl) rfl ?_
      refine e_aload_n dX2_sureCells_39 rfl ?_
      refine e_get (ci := 0) (j := 2) (t := 1) (v := .long (μ.2.1 6 2)) dX2_sureCells_40 rfl (by decide) rfl rfl rfl ?_
      refine e_lload dX2_sureCells_43 rfl ?_
      refine e_land dX2_sureCells_45 ?_
      refine e_lconst (v := (0 : Int64)) dX2_sureCells_46 rfl ?_
      refine e_lcmp dX2_sureCells_47 ?_
      refine e_if_eq (tgt := 69) dX2_sureCells_48 rfl (fun hc14 => ?_) (fun hc14 => ?_)
      · rw [if_pos hc14] at h
        refine e_iincN 4 (1 : Int32) dX2_sureCells_69 rfl ci_1 h (fun y9 => [some (.ref 6), none, some (.long x2), none, some (.int y9), some (.long v13), none]) (fun _ => rfl) (fun v15 ev15 h => ?_)
        refine e_goto (tgt := 26) dX2_sureCells_72 rfl ?_
        exact e_le (ih x2 v15 μ _ hb9 h) ⟨rfl, rfl, rfl, trivial⟩
      · rw [if_neg hc14] at h
        refine e_aload_n dX2_sureCells_51 rfl ?_
        refine e_iload dX2_sureCells_52 rfl ?_
        refine cI_go h (fun E18 hc16 hr19 => e_VX [.int x4] [] dX2_sureCells_54 rfl rfl rfl rfl ⟨Nat.le_of_ble_eq_true rfl, rfl⟩ (Nat.le_of_ble_eq_true rfl) (hbr hr19 hb9 (Nat.le_of_ble_eq_true rfl)) ⟨x4, rfl, hc16⟩ rfl ⟨hr19.symm, rfl⟩) (fun v20 μ17 hc16 h => ?_)
        refine e_VI [.int x4] [] dX2_sureCells_54 rfl rfl rfl rfl ⟨Nat.le_of_ble_eq_true rfl, rfl⟩ (Nat.le_of_ble_eq_true rfl) ⟨x4, rfl, hc16⟩ ?_
        refine e_if_eq (tgt := 69) dX2_sureCells_57 rfl (fun hc21 => ?_) (fun hc21 => ?_)
        · rw [if_pos hc21] at h
          refine e_iincN 4 (1 : Int32) dX2_sureCells_69 rfl ci_1 h (fun y9 => [some (.ref 6), none, some (.long x2), none, some (.int y9), some (.long v13), none]) (fun _ => rfl) (fun v22 ev22 h => ?_)
          refine e_goto (tgt := 26) dX2_sureCells_72 rfl ?_
          exact e_le (ih x2 v22 μ17 _ hb9 h) ⟨rfl, rfl, rfl, trivial⟩
        · rw [if_neg hc21] at h
          refine e_lload_n dX2_sureCells_60 rfl ?_
          refine e_lload dX2_sureCells_61 rfl ?_
          refine e_ldc2 (v := (-1 : Int64)) dX2_sureCells_63 rfl ?_
          refine e_lxor dX2_sureCells_66 ?_
          refine e_land dX2_sureCells_67 ?_
          refine e_naJ h (fun v23 ev23 h => ?_)
          refine e_lstore_nL [some (.ref 6), none, some (.long v23), none, some (.int x4), some (.long v13), none] dX2_sureCells_68 (Nat.le_of_ble_eq_true rfl) rfl ?_
          refine e_iincN 4 (1 : Int32) dX2_sureCells_69 rfl ci_1 h (fun y9 => [some (.ref 6), none, some (.long v23), none, some (.int y9), some (.long v13), none]) (fun _ => rfl) (fun v24 ev24 h => ?_)
          refine e_goto (tgt := 26) dX2_sureCells_72 rfl ?_
          exact e_le (ih v23 v24 μ17 _ hb9 h) ⟨rfl, rfl, rfl, trivial⟩
set_option maxHeartbeats 4000000 in
theorem b_X2_sureCells : ∀ as μ r μ', Γ_X2_sureCells as μ r μ' → (elvL as).length ≤ 7 ∧ G mX2_sureCells (Qe r μ') 0 (elv as 7) [] μ (rc r 0) := by
  intro as μ r μ' h
  obtain ⟨k1, rfl, ho1, h⟩ := h
  refine ⟨Nat.le_of_ble_eq_true rfl, ?_⟩
  show G mX2_sureCells (Qe r μ') 0 [some (.ref 6), some (.ref k1), none, none, none, none, none] [] μ (rc r 0)
  unfold F_X2_sureCells at h
  have hb9 : rc r 0 ≤ rc r 0 := Nat.le_refl _
  refine e_aload_n dX2_sureCells_0 rfl ?_
  refine e_aload_n dX2_sureCells_1 rfl ?_
  refine e_aload_n dX2_sureCells_2 rfl ?_
  refine e_get (ci := 2) (j := 3) (t := 1) (v := .long (μ.2.1 k1 3)) dX2_sureCells_3 rfl ho1.1 ho1.2 rfl rfl ?_
  refine e_aload_n dX2_sureCells_6 rfl ?_
  refine e_get (ci := 2) (j := 2) (t := 1) (v := .long (μ.2.1 k1 2)) dX2_sureCells_7 rfl ho1.1 ho1.2 rfl rfl ?_
  refine cI_go h (fun E3 hc1 hr4 => e_VX [.ref k1, .long (μ.2.1 k1 3), .long (μ.2.1 k1 2)] [] dX2_sureCells_10 rfl rfl rfl rfl ⟨Nat.le_of_ble_eq_true rfl, rfl⟩ (Nat.le_of_ble_eq_true rfl) (hbr hr4 hb9 (Nat.le_of_ble_eq_true rfl)) ⟨k1, μ.2.1 k1 3, μ.2.1 k1 2, rfl, ho1, hc1⟩ rfl ⟨hr4.symm, rfl⟩) (fun v5 μ2 hc1 h => ?_)
  refine e_VI [.ref k1, .long (μ.2.1 k1 3), .long (μ.2.1 k1 2)] [] dX2_sureCells_10 rfl rfl rfl rfl ⟨Nat.le_of_ble_eq_true rfl, rfl⟩ (Nat.le_of_ble_eq_true rfl) ⟨k1, μ.2.1 k1 3, μ.2.1 k1 2, rfl, ho1, hc1⟩ ?_
  refine e_if_ne (tgt := 18) dX2_sureCells_13 rfl (fun hc6 => ?_) (fun hc6 => ?_)
  · rw [if_neg hc6] at h
    refine e_aload_n dX2_sureCells_18 rfl ?_
    refine cJ_go h (fun E9 hc7 hr10 => e_VX [] [] dX2_sureCells_19 rfl rfl rfl rfl ho1 (Nat.le_of_ble_eq_true rfl) (hbr hr10 hb9 (Nat.le_of_ble_eq_true rfl)) ⟨k1, rfl, ho1, hc7⟩ rfl ⟨hr10.symm, rfl⟩) (fun v11 μ8 hc7 h => ?_)
    refine e_VJ [] [] dX2_sureCells_19 rfl rfl rfl rfl ho1 (Nat.le_of_ble_eq_true rfl) ⟨k1, rfl, ho1, hc7⟩ ?_
    refine e_lstore_nL [some (.ref 6), some (.ref k1), some (.long v11), none, none, none, none] dX2_sureCells_22 (Nat.le_of_ble_eq_true rfl) rfl ?_
    refine e_iconst dX2_sureCells_23 ci_0 ?_
    refine e_istoreL [some (.ref 6), some (.ref k1), some (.long v11), none, some (.int (0 : Int32)), none, none] dX2_sureCells_24 (Nat.le_of_ble_eq_true rfl) rfl ?_
    exact e_le (g_X2_sureCells_26 k1 ho1 BIG v11 (0 : Int32) μ8 _ hb9 h) ⟨rfl, rfl, rfl, trivial⟩
  · rw [if_pos hc6] at h
    refine e_lconst (v := (0 : Int64)) dX2_sureCells_16 rfl ?_
    exact e_lret dX2_sureCells_17 rfl (ret_eq h)
set_option maxRecDepth 20000 in
theorem ok_X2_sureCells (l : Launch) (hl : l.stackTraces = false) : MOK l yX2_sureCells.cls 5 94 mX2_sureCells := ⟨lk_all (List.forall_mem_cons.mpr ⟨⟨yX2_build, cX2_build, 9, (some .boolean), 4, 66, by decide, by decide, t_1 6 rfl rfl, hd_X2_build, Or.inr (Or.inl ⟨rfl, sc_X2_build l hl, t_2 143 rfl rfl, t_2 140 rfl rfl, t_2 142 rfl rfl, _, rfl, t_p 4 rfl⟩)⟩, List.forall_mem_cons.mpr ⟨⟨yX4_board, cX4_board, 1, (some .long), 1, 0, by decide, by decide, t_1 3 rfl rfl, hd_X4_board, Or.inr (Or.inl ⟨rfl, sc_X4_board l hl, t_1 189 rfl rfl, t_2 144 rfl rfl, t_1 187 rfl rfl, _, rfl, t_1 188 rfl rfl⟩)⟩, List.forall_mem_cons.mpr ⟨⟨yX2_change, cX2_change, 10, (some .boolean), 3, 65, by decide, by decide, t_1 6 rfl rfl, hd_X2_change, Or.inr (Or.inl ⟨rfl, sc_X2_change l hl, t_2 182 rfl rfl, t_2 179 rfl rfl, t_2 181 rfl rfl, _, rfl, t_p 11 rfl⟩)⟩, nil_all⟩⟩⟩), fun ix ci j h => lk_all (P := fun ix q => FldOK yX2_sureCells.cls ix q.1 q.2) (List.forall_mem_cons.mpr ⟨⟨_, rfl, by decide, t_1 113 rfl rfl⟩, List.forall_mem_cons.mpr ⟨⟨_, rfl, by decide, t_1 56 rfl rfl⟩, List.forall_mem_cons.mpr ⟨⟨_, rfl, by decide, t_1 53 rfl rfl⟩, nil_all⟩⟩⟩) ix (ci, j) h, lk_all (nil_all), lk_all (List.forall_mem_cons.mpr ⟨t_2 145 rfl rfl, nil_all⟩), lk_all (nil_all)⟩
theorem hd_X2_sureCells : CallHd yX2_sureCells 1 := ⟨by decide +kernel, by decide +kernel, by decide +kernel⟩
theorem sc_X2_sureCells (l : Launch) (hl : l.stackTraces = false) : SCon l yX2_sureCells cX2_sureCells 7 (some .long) 5 94 0 Γ_X2_sureCells := scon_of mX2_sureCells cls_ok hl (by decide +kernel) rfl rfl (ok_X2_sureCells l hl) rfl rfl b_X2_sureCells
