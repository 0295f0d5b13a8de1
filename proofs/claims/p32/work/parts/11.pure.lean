def F_J13_bitCount_95d88 (a0 : Int64) (μ : Mem) : Out := lt (a0 - ((ushrL a0 (1 : Int32)) &&& (6148914691236517205 : Int64))) (fun v1 => lt ((v1 &&& (3689348814741910323 : Int64)) + ((ushrL v1 (2 : Int32)) &&& (3689348814741910323 : Int64))) (fun v2 => lt ((v2 + (ushrL v2 (4 : Int32))) &&& (1085102592571150095 : Int64)) (fun v3 => lt (v3 + (ushrL v3 (8 : Int32))) (fun v4 => lt (v4 + (ushrL v4 (16 : Int32))) (fun v5 => lt (v5 + (ushrL v5 (32 : Int32))) (fun v6 => rI ((Int64.toInt32 v6) &&& (127 : Int32)) μ))))))
def Γ_J13_bitCount_95d88 : Gam := fun as μ r μ' => ∃ (a0 : Int64), as = [.long a0] ∧ F_J13_bitCount_95d88 a0 μ = some (r, μ')
def mJ13_bitCount_95d88 : MI := (cJ13_bitCount_95d88, [], [], [], [(314, 6148914691236517205), (316, 3689348814741910323), (318, 1085102592571150095)], [], [], (29, none), (some .int))
set_option maxHeartbeats 4000000 in
theorem b_J13_bitCount_95d88 : ∀ as μ r μ', Γ_J13_bitCount_95d88 as μ r μ' → (elvL as).length ≤ 2 ∧ G mJ13_bitCount_95d88 (Qe r μ') 0 (elv as 2) [] μ (rc r 0) := by
  intro as μ r μ' h
  obtain ⟨a0, rfl, h⟩ := h
  refine ⟨Nat.le_of_ble_eq_true rfl, ?_⟩
  show G mJ13_bitCount_95d88 (Qe r μ') 0 [some (.long a0), none] [] μ (rc r 0)
  unfold F_J13_bitCount_95d88 at h
  have hb9 : rc r 0 ≤ rc r 0 := Nat.le_refl _
  refine e_lload_n dJ13_bitCount_95d88_0 rfl ?_
  refine e_lload_n dJ13_bitCount_95d88_1 rfl ?_
  refine e_iconst dJ13_bitCount_95d88_2 ci_1 ?_
  refine e_lushr dJ13_bitCount_95d88_3 ?_
  refine e_ldc2 (v := (6148914691236517205 : Int64)) dJ13_bitCount_95d88_4 rfl ?_
  refine e_land dJ13_bitCount_95d88_7 ?_
  refine e_lsub dJ13_bitCount_95d88_8 ?_
  refine e_naJ h (fun v1 ev1 h => ?_)
  refine e_lstore_nL [some (.long v1), none] dJ13_bitCount_95d88_9 (Nat.le_of_ble_eq_true rfl) rfl ?_
  refine e_lload_n dJ13_bitCount_95d88_10 rfl ?_
  refine e_ldc2 (v := (3689348814741910323 : Int64)) dJ13_bitCount_95d88_11 rfl ?_
  refine e_land dJ13_bitCount_95d88_14 ?_
  refine e_lload_n dJ13_bitCount_95d88_15 rfl ?_
  refine e_iconst dJ13_bitCount_95d88_16 ci_2 ?_
  refine e_lushr dJ13_bitCount_95d88_17 ?_
  refine e_ldc2 (v := (3689348814741910323 : Int64)) dJ13_bitCount_95d88_18 rfl ?_
  refine e_land dJ13_bitCount_95d88_21 ?_
  refine e_ladd dJ13_bitCount_95d88_22 ?_
  refine e_naJ h (fun v2 ev2 h => ?_)
  refine e_lstore_nL [some (.long v2), none] dJ13_bitCount_95d88_23 (Nat.le_of_ble_eq_true rfl) rfl ?_
  refine e_lload_n dJ13_bitCount_95d88_24 rfl ?_
  refine e_lload_n dJ13_bitCount_95d88_25 rfl ?_
  refine e_iconst dJ13_bitCount_95d88_26 ci_4 ?_
  refine e_lushr dJ13_bitCount_95d88_27 ?_
  refine e_ladd dJ13_bitCount_95d88_28 ?_
  refine e_ldc2 (v := (1085102592571150095 : Int64)) dJ13_bitCount_95d88_29 rfl ?_
  refine e_land dJ13_bitCount_95d88_32 ?_
  refine e_naJ h (fun v3 ev3 h => ?_)
  refine e_lstore_nL [some (.long v3), none] dJ13_bitCount_95d88_33 (Nat.le_of_ble_eq_true rfl) rfl ?_
  refine e_lload_n dJ13_bitCount_95d88_34 rfl ?_
  refine e_lload_n dJ13_bitCount_95d88_35 rfl ?_
  refine e_bipush dJ13_bitCount_95d88_36 cb_8 ?_
  refine e_lushr dJ13_bitCount_95d88_38 ?_
  refine e_ladd dJ13_bitCount_95d88_39 ?_
  refine e_naJ h (fun v4 ev4 h => ?_)
  refine e_lstore_nL [some (.long v4), none] dJ13_bitCount_95d88_40 (Nat.le_of_ble_eq_true rfl) rfl ?_
  refine e_lload_n dJ13_bitCount_95d88_41 rfl ?_
  refine e_lload_n dJ13_bitCount_95d88_42 rfl ?_
  refine e_bipush dJ13_bitCount_95d88_43 cb_16 ?_
  refine e_lushr dJ13_bitCount_95d88_45 ?_
  refine e_ladd dJ13_bitCount_95d88_46 ?_
  refine e_naJ h (fun v5 ev5 h => ?_)
  refine e_lstore_nL [some (.long v5), none] dJ13_bitCount_95d88_47 (Nat.le_of_ble_eq_true rfl) rfl ?_
  refine e_lload_n dJ13_bitCount_95d88_48 rfl ?_
  refine e_lload_n dJ13_bitCount_95d88_49 rfl ?_
  refine e_bipush dJ13_bitCount_95d88_50 cb_32 ?_
  refine e_lushr dJ13_bitCount_95d88_52 ?_
  refine e_ladd dJ13_bitCount_95d88_53 ?_
  refine e_naJ h (fun v6 ev6 h => ?_)
  refine e_lstore_nL [some (.long v6), none] dJ13_bitCount_95d88_54 (Nat.le_of_ble_eq_true rfl) rfl ?_
  refine e_lload_n dJ13_bitCount_95d88_55 rfl ?_
  refine e_l2i dJ13_bitCount_95d88_56 ?_
  refine e_bipush dJ13_bitCount_95d88_57 cb_127 ?_
  refine e_iand dJ13_bitCount_95d88_59 ?_
  exact e_iret .int dJ13_bitCount_95d88_60 rfl rfl (ret_eq h)
set_option maxRecDepth 20000 in
theorem ok_J13_bitCount_95d88 (l : Launch) (hl : l.stackTraces = false) : MOK l yJ13_bitCount_95d88.cls 1 0 mJ13_bitCount_95d88 := ⟨lk_all (nil_all), fun ix ci j h => lk_all (P := fun ix q => FldOK yJ13_bitCount_95d88.cls ix q.1 q.2) (nil_all) ix (ci, j) h, lk_all (nil_all), lk_all (List.forall_mem_cons.mpr ⟨t_1 156 rfl rfl, List.forall_mem_cons.mpr ⟨t_1 157 rfl rfl, List.forall_mem_cons.mpr ⟨t_1 158 rfl rfl, nil_all⟩⟩⟩), lk_all (nil_all)⟩
theorem hd_J13_bitCount_95d88 : CallHd yJ13_bitCount_95d88 1 := ⟨by decide +kernel, by decide +kernel, by decide +kernel⟩
theorem sc_J13_bitCount_95d88 (l : Launch) (hl : l.stackTraces = false) : SCon l yJ13_bitCount_95d88 cJ13_bitCount_95d88 2 (some .int) 1 0 0 Γ_J13_bitCount_95d88 := scon_of mJ13_bitCount_95d88 cls_ok hl (by decide +kernel) rfl rfl (ok_J13_bitCount_95d88 l hl) rfl rfl b_J13_bitCount_95d88
def F_J6_bitCount_0f7a4 (a0 : Int32) (μ : Mem) : Out := lt (a0 - ((ushrI a0 (1 : Int32)) &&& (1431655765 : Int32))) (fun v1 => lt ((v1 &&& (858993459 : Int32)) + ((ushrI v1 (2 : Int32)) &&& (858993459 : Int32))) (fun v2 => lt ((v2 + (ushrI v2 (4 : Int32))) &&& (252645135 : Int32)) (fun v3 => lt (v3 + (ushrI v3 (8 : Int32))) (fun v4 => lt (v4 + (ushrI v4 (16 : Int32))) (fun v5 => rI (v5 &&& (63 : Int32)) μ)))))
def Γ_J6_bitCount_0f7a4 : Gam := fun as μ r μ' => ∃ (a0 : Int32), as = [.int a0] ∧ F_J6_bitCount_0f7a4 a0 μ = some (r, μ')
def mJ6_bitCount_0f7a4 : MI := (cJ6_bitCount_0f7a4, [], [], [(265, 1431655765), (266, 858993459), (267, 252645135)], [], [], [], (29, none), (some .int))
set_option maxHeartbeats 4000000 in
theorem b_J6_bitCount_0f7a4 : ∀ as μ r μ', Γ_J6_bitCount_0f7a4 as μ r μ' → (elvL as).length ≤ 1 ∧ G mJ6_bitCount_0f7a4 (Qe r μ') 0 (elv as 1) [] μ (rc r 0) := by
  intro as μ r μ' h
  obtain ⟨a0, rfl, h⟩ := h
  refine ⟨Nat.le_of_ble_eq_true rfl, ?_⟩
  show G mJ6_bitCount_0f7a4 (Qe r μ') 0 [some (.int a0)] [] μ (rc r 0)
  unfold F_J6_bitCount_0f7a4 at h
  have hb9 : rc r 0 ≤ rc r 0 := Nat.le_refl _
  refine e_iload_n dJ6_bitCount_0f7a4_0 rfl ?_
  refine e_iload_n dJ6_bitCount_0f7a4_1 rfl ?_
  refine e_iconst dJ6_bitCount_0f7a4_2 ci_1 ?_
  refine e_iushr dJ6_bitCount_0f7a4_3 ?_
  refine e_ldc_w (v := (1431655765 : Int32)) dJ6_bitCount_0f7a4_4 rfl ?_
  refine e_iand dJ6_bitCount_0f7a4_7 ?_
  refine e_isub dJ6_bitCount_0f7a4_8 ?_
  refine e_naI h (fun v1 ev1 h => ?_)
  refine e_istore_nL [some (.int v1)] dJ6_bitCount_0f7a4_9 (Nat.le_of_ble_eq_true rfl) rfl ?_
  refine e_iload_n dJ6_bitCount_0f7a4_10 rfl ?_
  refine e_ldc_w (v := (858993459 : Int32)) dJ6_bitCount_0f7a4_11 rfl ?_
  refine e_iand dJ6_bitCount_0f7a4_14 ?_
  refine e_iload_n dJ6_bitCount_0f7a4_15 rfl ?_
  refine e_iconst dJ6_bitCount_0f7a4_16 ci_2 ?_
  refine e_iushr dJ6_bitCount_0f7a4_17 ?_
  refine e_ldc_w (v := (858993459 : Int32)) dJ6_bitCount_0f7a4_18 rfl ?_
  refine e_iand dJ6_bitCount_0f7a4_21 ?_
  refine e_iadd dJ6_bitCount_0f7a4_22 ?_
  refine e_naI h (fun v2 ev2 h => ?_)
  refine e_istore_nL [some (.int v2)] dJ6_bitCount_0f7a4_23 (Nat.le_of_ble_eq_true rfl) rfl ?_
  refine e_iload_n dJ6_bitCount_0f7a4_24 rfl ?_
  refine e_iload_n dJ6_bitCount_0f7a4_25 rfl ?_
  refine e_iconst dJ6_bitCount_0f7a4_26 ci_4 ?_
  refine e_iushr dJ6_bitCount_0f7a4_27 ?_
  refine e_iadd dJ6_bitCount_0f7a4_28 ?_
  refine e_ldc_w (v := (252645135 : Int32)) dJ6_bitCount_0f7a4_29 rfl ?_
  refine e_iand dJ6_bitCount_0f7a4_32 ?_
  refine e_naI h (fun v3 ev3 h => ?_)
  refine e_istore_nL [some (.int v3)] dJ6_bitCount_0f7a4_33 (Nat.le_of_ble_eq_true rfl) rfl ?_
  refine e_iload_n dJ6_bitCount_0f7a4_34 rfl ?_
  refine e_iload_n dJ6_bitCount_0f7a4_35 rfl ?_
  refine e_bipush dJ6_bitCount_0f7a4_36 cb_8 ?_
  refine e_iushr dJ6_bitCount_0f7a4_38 ?_
  refine e_iadd dJ6_bitCount_0f7a4_39 ?_
  refine e_naI h (fun v4 ev4 h => ?_)
  refine e_istore_nL [some (.int v4)] dJ6_bitCount_0f7a4_40 (Nat.le_of_ble_eq_true rfl) rfl ?_
  refine e_iload_n dJ6_bitCount_0f7a4_41 rfl ?_
  refine e_iload_n dJ6_bitCount_0f7a4_42 rfl ?_
  refine e_bipush dJ6_bitCount_0f7a4_43 cb_16 ?_
  refine e_iushr dJ6_bitCount_0f7a4_45 ?_
  refine e_iadd dJ6_bitCount_0f7a4_46 ?_
  refine e_naI h (fun v5 ev5 h => ?_)
  refine e_istore_nL [some (.int v5)] dJ6_bitCount_0f7a4_47 (Nat.le_of_ble_eq_true rfl) rfl ?_
  refine e_iload_n dJ6_bitCount_0f7a4_48 rfl ?_
  refine e_bipush dJ6_bitCount_0f7a4_49 cb_63 ?_
  refine e_iand dJ6_bitCount_0f7a4_51 ?_
  exact e_iret .int dJ6_bitCount_0f7a4_52 rfl rfl (ret_eq h)
set_option maxRecDepth 20000 in
theorem ok_J6_bitCount_0f7a4 (l : Launch) (hl : l.stackTraces = false) : MOK l yJ6_bitCount_0f7a4.cls 1 0 mJ6_bitCount_0f7a4 := ⟨lk_all (nil_all), fun ix ci j h => lk_all (P := fun ix q => FldOK yJ6_bitCount_0f7a4.cls ix q.1 q.2) (nil_all) ix (ci, j) h, lk_all (List.forall_mem_cons.mpr ⟨t_2 3 rfl rfl, List.forall_mem_cons.mpr ⟨t_2 4 rfl rfl, List.forall_mem_cons.mpr ⟨t_2 5 rfl rfl, nil_all⟩⟩⟩), lk_all (nil_all), lk_all (nil_all)⟩
theorem hd_J6_bitCount_0f7a4 : CallHd yJ6_bitCount_0f7a4 1 := ⟨by decide +kernel, by decide +kernel, by decide +kernel⟩
theorem sc_J6_bitCount_0f7a4 (l : Launch) (hl : l.stackTraces = false) : SCon l yJ6_bitCount_0f7a4 cJ6_bitCount_0f7a4 1 (some .int) 1 0 0 Γ_J6_bitCount_0f7a4 := scon_of mJ6_bitCount_0f7a4 cls_ok hl (by decide +kernel) rfl rfl (ok_J6_bitCount_0f7a4 l hl) rfl rfl b_J6_bitCount_0f7a4
theorem hd_J9_min_7cf53 : CallHd yJ9_min_7cf53 2 := ⟨by decide +kernel, by decide +kernel, by decide +kernel⟩
def F_X0_withinLines (a0 : Int64) (μ : Mem) : Out := rJ (a0 &&& (69540876599103 : Int64)) μ
def Γ_X0_withinLines : Gam := fun as μ r μ' => ∃ (a0 : Int64), as = [.long a0] ∧ F_X0_withinLines a0 μ = some (r, μ')
def mX0_withinLines : MI := (cX0_withinLines, [], [], [], [(52, 69540876599103)], [], [], (29, none), (some .long))
set_option maxHeartbeats 4000000 in
theorem b_X0_withinLines : ∀ as μ r μ', Γ_X0_withinLines as μ r μ' → (elvL as).length ≤ 2 ∧ G mX0_withinLines (Qe r μ') 0 (elv as 2) [] μ (rc r 0) := by
  intro as μ r μ' h
  obtain ⟨a0, rfl, h⟩ := h
  refine ⟨Nat.le_of_ble_eq_true rfl, ?_⟩
  show G mX0_withinLines (Qe r μ') 0 [some (.long a0), none] [] μ (rc r 0)
  unfold F_X0_withinLines at h
  have hb9 : rc r 0 ≤ rc r 0 := Nat.le_refl _
  refine e_lload_n dX0_withinLines_0 rfl ?_
  refine e_ldc2 (v := (69540876599103 : Int64)) dX0_withinLines_1 rfl ?_
  refine e_land dX0_withinLines_4 ?_
  exact e_lret dX0_withinLines_5 rfl (ret_eq h)
set_option maxRecDepth 20000 in
theorem ok_X0_withinLines (l : Launch) (hl : l.stackTraces = false) : MOK l yX0_withinLines.cls 1 0 mX0_withinLines := ⟨lk_all (nil_all), fun ix ci j h => lk_all (P := fun ix q => FldOK yX0_withinLines.cls ix q.1 q.2) (nil_all) ix (ci, j) h, lk_all (nil_all), lk_all (List.forall_mem_cons.mpr ⟨t_1 227 rfl rfl, nil_all⟩), lk_all (nil_all)⟩
theorem hd_X0_withinLines : CallHd yX0_withinLines 1 := ⟨by decide +kernel, by decide +kernel, by decide +kernel⟩
theorem sc_X0_withinLines (l : Launch) (hl : l.stackTraces = false) : SCon l yX0_withinLines cX0_withinLines 2 (some .long) 1 0 0 Γ_X0_withinLines := scon_of mX0_withinLines cls_ok hl (by decide +kernel) rfl rfl (ok_X0_withinLines l hl) rfl rfl b_X0_withinLines
def f_X0_between_8 : Nat → Int32 → Int64 → Int64 → Int32 → Mem → Out
  | 0, _, _, _, _, _ => none
  | n + 1, x2, x3, x5, x7, μ => if (6 : Int32) ≤ x7 then (rJ (x3 &&& x5) μ) else (cJ (F_X0_withinLines (shlL x3 x2) μ) (fun v6 μ3 => lt (x3 ||| v6) (fun v7 => cJ (F_X0_withinLines (ushrL x5 x2) μ3) (fun v12 μ9 => lt (x5 ||| v12) (fun v13 => lt (x7 + (1 : Int32)) (fun v14 => f_X0_between_8 n x2 v7 v13 v14 μ9))))))
def F_X0_between (a0 : Int64) (a1 : Int32) (μ : Mem) : Out := f_X0_between_8 BIG a1 a0 a0 (0 : Int32) μ
def Γ_X0_between : Gam := fun as μ r μ' => ∃ (a0 : Int64) (a1 : Int32), as = [.long a0, .int a1] ∧ F_X0_between a0 a1 μ = some (r, μ')
def mX0_between : MI := (cX0_between, [(49, (0, 1, 0, 0, Γ_X0_withinLines))], [], [], [], [], [], (29, none), (some .long))
set_option maxHeartbeats 4000000 in
theorem g_X0_between_8 {r : Res} {μ' : Mem} : ∀ n : Nat, ∀ (x2 : Int32) (x3 : Int64) (x5 : Int64) (x7 : Int32), ∀ (μ : Mem) (b : Nat), rc r 0 ≤ b → f_X0_between_8 n x2 x3 x5 x7 μ = some (r, μ') → G mX0_between (Qe r μ') 8 [none, none, some (.int x2), some (.long x3), none, some (.long x5), none, some (.int x7)] [] μ b := by
  intro n
  induction n with
  | zero => intro x2 x3 x5 x7 μ b hb9 h; exact nomatch (show (none : Out) = some _ from h)
  | succ n ih =>
    intro x2 x3 x5 x7 μ b hb9 h
    rw [f_X0_between_8.eq_2] at h
    refine e_iload dX0_between_8 rfl ?_
    refine e_bipush dX0_between_10 cb_6 ?_
    refine e_ic_ge (tgt := 42) dX0_between_12 rfl (fun hc1 => ?_) (fun hc1 => ?_)
    · rw [if_pos hc1] at h
      refine e_lload_n dX0_between_42 rfl ?_
      refine e_lload dX0_between_43 rfl ?_
      refine e_land dX0_between_45 ?_
      exact e_lret dX0_between_46 rfl (ret_eq h)
    · rw [if_neg hc1] at h
      refine e_lload_n dX0_between_15 rfl ?_
      refine e_lload_n dX0_between_16 rfl ?_
      refine e_iload_n dX0_between_17 rfl ?_
      refine e_lshl dX0_between_18 ?_
      refine cJ_go h (fun E4 hc2 hr5 => e_SX [.long (shlL x3 x2)] [.long x3] dX0_between_19 rfl (by decide) rfl rfl (Nat.le_of_ble_eq_true rfl) (hbr hr5 hb9 (Nat.le_of_ble_eq_true rfl)) ⟨shlL x3 x2, rfl, hc2⟩ rfl ⟨hr5.symm, rfl⟩) (fun v6 μ3 hc2 h => ?_)
      refine e_SJ [.long (shlL x3 x2)] [.long x3] dX0_between_19 rfl (by decide) rfl rfl (Nat.le_of_ble_eq_true rfl) ⟨shlL x3 x2, rfl, hc2⟩ ?_
      refine e_lor dX0_between_22 ?_
      refine e_naJ h (fun v7 ev7 h => ?_)
      refine e_lstore_nL [none, none, some (.int x2), some (.long v7), none, some (.long x5), none, some (.int x7)] dX0_between_23 (Nat.le_of_ble_eq_true rfl) rfl ?_
      refine e_lload dX0_between_24 rfl ?_
      refine e_lload dX0_between_26 rfl ?_
      refine e_iload_n dX0_between_28 rfl ?_
      refine e_lushr dX0_between_29 ?_
      refine cJ_go h (fun E10 hc8 hr11 => e_SX [.long (ushrL x5 x2)] [.long x5] dX0_between_30 rfl (by decide) rfl rfl (Nat.le_of_ble_eq_true rfl) (hbr hr11 hb9 (Nat.le_of_ble_eq_true rfl)) ⟨ushrL x5 x2, rfl, hc8⟩ rfl ⟨hr11.symm, rfl⟩) (fun v12 μ9 hc8 h => ?_)
      refine e_SJ [.long (ushrL x5 x2)] [.long x5] dX0_between_30 rfl (by decide) rfl rfl (Nat.le_of_ble_eq_true rfl) ⟨ushrL x5 x2, rfl, hc8⟩ ?_
      refine e_lor dX0_between_33 ?_
      refine e_naJ h (fun v13 ev13 h => ?_)
      refine e_lstoreL [none, none, some (.int x2), some (.long v7), none, some (.long v13), none, some (.int x7)] dX0_between_34 (Nat.le_of_ble_eq_true rfl) rfl ?_
      refine e_iincN 7 (1 : Int32) dX0_between_36 rfl ci_1 h (fun y9 => [none, none, some (.int x2), some (.long v7), none, some (.long v13), none, some (.int y9)]) (fun _ => rfl) (fun v14 ev14 h => ?_)
      refine e_goto (tgt := 8) dX0_between_39 rfl ?_
      exact e_le (ih x2 v7 v13 v14 μ9 _ hb9 h) ⟨rfl, rfl, rfl, rfl, trivial⟩
set_option maxHeartbeats 4000000 in
theorem b_X0_between : ∀ as μ r μ', Γ_X0_between as μ r μ' → (elvL as).length ≤ 8 ∧ G mX0_between (Qe r μ') 0 (elv as 8) [] μ (rc r 0) := by
  intro as μ r μ' h
  obtain ⟨a0, a1, rfl, h⟩ := h
  refine ⟨Nat.le_of_ble_eq_true rfl, ?_⟩
  show G mX0_between (Qe r μ') 0 [some (.long a0), none, some (.int a1), none, none, none, none, none] [] μ (rc r 0)
  unfold F_X0_between at h
  have hb9 : rc r 0 ≤ rc r 0 := Nat.le_refl _
  refine e_lload_n dX0_between_0 rfl ?_
  refine e_lstore_nL [some (.long a0), none, some (.int a1), some (.long a0), none, none, none, none] dX0_between_1 (Nat.le_of_ble_eq_true rfl) rfl ?_
  refine e_lload_n dX0_between_2 rfl ?_
  refine e_lstoreL [some (.long a0), none, some (.int a1), some (.long a0), none, some (.long a0), none, none] dX0_between_3 (Nat.le_of_ble_eq_true rfl) rfl ?_
  refine e_iconst dX0_between_5 ci_0 ?_
  refine e_istoreL [some (.long a0), none, some (.int a1), some (.long a0), none, some (.long a0), none, some (.int (0 : Int32))] dX0_between_6 (Nat.le_of_ble_eq_true rfl) rfl ?_
  exact e_le (g_X0_between_8 BIG a1 a0 a0 (0 : Int32) μ _ hb9 h) ⟨rfl, rfl, rfl, rfl, trivial⟩
set_option maxRecDepth 20000 in
theorem ok_X0_between (l : Launch) (hl : l.stackTraces = false) : MOK l yX0_between.cls 2 21 mX0_between := ⟨lk_all (List.forall_mem_cons.mpr ⟨⟨yX0_withinLines, cX0_withinLines, 2, (some .long), 1, 0, by decide, by decide, t_1 9 rfl rfl, hd_X0_withinLines, Or.inl ⟨rfl, sc_X0_withinLines l hl, t_1 226 rfl rfl, t_1 224 rfl rfl, t_1 225 rfl rfl⟩⟩, nil_all⟩), fun ix ci j h => lk_all (P := fun ix q => FldOK yX0_between.cls ix q.1 q.2) (nil_all) ix (ci, j) h, lk_all (nil_all), lk_all (nil_all), lk_all (nil_all)⟩
theorem hd_X0_between : CallHd yX0_between 2 := ⟨by decide +kernel, by decide +kernel, by decide +kernel⟩
theorem sc_X0_between (l : Launch) (hl : l.stackTraces = false) : SCon l yX0_between cX0_between 8 (some .long) 2 21 0 Γ_X0_between := scon_of mX0_between cls_ok hl (by decide +kernel) rfl rfl (ok_X0_between l hl) rfl rfl b_X0_between
def F_X0_bit (a0 : Int32) (a1 : Int32) (μ : Mem) : Out := rJ (shlL (1 : Int64) (((8 : Int32) * a0) + a1)) μ
def Γ_X0_bit : Gam := fun as μ r μ' => ∃ (a0 : Int32) (a1 : Int32), as = [.int a0, .int a1] ∧ F_X0_bit a0 a1 μ = some (r, μ')
def mX0_bit : MI := (cX0_bit, [], [], [], [], [], [], (29, none), (some .long))
set_option maxHeartbeats 4000000 in
theorem b_X0_bit : ∀ as μ r μ', Γ_X0_bit as μ r μ' → (elvL as).length ≤ 2 ∧ G mX0_bit (Qe r μ') 0 (elv as 2) [] μ (rc r 0) := by
  intro as μ r μ' h
  obtain ⟨a0, a1, rfl, h⟩ := h
  refine ⟨Nat.le_of_ble_eq_true rfl, ?_⟩
  show G mX0_bit (Qe r μ') 0 [some (.int a0), some (.int a1)] [] μ (rc r 0)
  unfold F_X0_bit at h
  have hb9 : rc r 0 ≤ rc r 0 := Nat.le_refl _
  refine e_lconst (v := (1 : Int64)) dX0_bit_0 rfl ?_
  refine e_bipush dX0_bit_1 cb_8 ?_
  refine e_iload_n dX0_bit_3 rfl ?_
  refine e_imul dX0_bit_4 ?_
  refine e_iload_n dX0_bit_5 rfl ?_
  refine e_iadd dX0_bit_6 ?_
  refine e_lshl dX0_bit_7 ?_
  exact e_lret dX0_bit_8 rfl (ret_eq h)
set_option maxRecDepth 20000 in
theorem ok_X0_bit (l : Launch) (hl : l.stackTraces = false) : MOK l yX0_bit.cls 1 0 mX0_bit := ⟨lk_all (nil_all), fun ix ci j h => lk_all (P := fun ix q => FldOK yX0_bit.cls ix q.1 q.2) (nil_all) ix (ci, j) h, lk_all (nil_all), lk_all (nil_all), lk_all (nil_all)⟩
theorem hd_X0_bit : CallHd yX0_bit 2 := ⟨by decide +kernel, by decide +kernel, by decide +kernel⟩
theorem sc_X0_bit (l : Launch) (hl : l.stackTraces = false) : SCon l yX0_bit cX0_bit 2 (some .long) 1 0 0 Γ_X0_bit := scon_of mX0_bit cls_ok hl (by decide +kernel) rfl rfl (ok_X0_bit l hl) rfl rfl b_X0_bit
def F_X0_columnAt (a0 : Int32) (μ : Mem) : Out := rI (a0 &&& (7 : Int32)) μ
def Γ_X0_columnAt : Gam := fun as μ r μ' => ∃ (a0 : Int32), as = [.int a0] ∧ F_X0_columnAt a0 μ = some (r, μ')
def mX0_columnAt : MI := (cX0_columnAt, [], [], [], [], [], [], (29, none), (some .int))
set_option maxHeartbeats 4000000 in
theorem b_X0_columnAt : ∀ as μ r μ', Γ_X0_columnAt as μ r μ' → (elvL as).length ≤ 1 ∧ G mX0_columnAt (Qe r μ') 0 (elv as 1) [] μ (rc r 0) := by
  intro as μ r μ' h
  obtain ⟨a0, rfl, h⟩ := h
  refine ⟨Nat.le_of_ble_eq_true rfl, ?_⟩
  show G mX0_columnAt (Qe r μ') 0 [some (.int a0)] [] μ (rc r 0)
  unfold F_X0_columnAt at h
  have hb9 : rc r 0 ≤ rc r 0 := Nat.le_refl _
  refine e_iload_n dX0_columnAt_0 rfl ?_
  refine e_bipush dX0_columnAt_1 cb_7 ?_
  refine e_iand dX0_columnAt_3 ?_
  exact e_iret .int dX0_columnAt_4 rfl rfl (ret_eq h)
set_option maxRecDepth 20000 in
theorem ok_X0_columnAt (l : Launch) (hl : l.stackTraces = false) : MOK l yX0_columnAt.cls 1 0 mX0_columnAt := ⟨lk_all (nil_all), fun ix ci j h => lk_all (P := fun ix q => FldOK yX0_columnAt.cls ix q.1 q.2) (nil_all) ix (ci, j) h, lk_all (nil_all), lk_all (nil_all), lk_all (nil_all)⟩
theorem hd_X0_columnAt : CallHd yX0_columnAt 1 := ⟨by decide +kernel, by decide +kernel, by decide +kernel⟩
theorem sc_X0_columnAt (l : Launch) (hl : l.stackTraces = false) : SCon l yX0_columnAt cX0_columnAt 1 (some .int) 1 0 0 Γ_X0_columnAt := scon_of mX0_columnAt cls_ok hl (by decide +kernel) rfl rfl (ok_X0_columnAt l hl) rfl rfl b_X0_columnAt
def F_X0_rowAt (a0 : Int32) (μ : Mem) : Out := rI (shrI a0 (3 : Int32)) μ
def Γ_X0_rowAt : Gam := fun as μ r μ' => ∃ (a0 : Int32), as = [.int a0] ∧ F_X0_rowAt a0 μ = some (r, μ')
def mX0_rowAt : MI := (cX0_rowAt, [], [], [], [], [], [], (29, none), (some .int))
set_option maxHeartbeats 4000000 in
theorem b_X0_rowAt : ∀ as μ r μ', Γ_X0_rowAt as μ r μ' → (elvL as).length ≤ 1 ∧ G mX0_rowAt (Qe r μ') 0 (elv as 1) [] μ (rc r 0) := by
  intro as μ r μ' h
  obtain ⟨a0, rfl, h⟩ := h
  refine ⟨Nat.le_of_ble_eq_true rfl, ?_⟩
  show G mX0_rowAt (Qe r μ') 0 [some (.int a0)] [] μ (rc r 0)
  unfold F_X0_rowAt at h
  have hb9 : rc r 0 ≤ rc r 0 := Nat.le_refl _
  refine e_iload_n dX0_rowAt_0 rfl ?_
  refine e_iconst dX0_rowAt_1 ci_3 ?_
  refine e_ishr dX0_rowAt_2 ?_
  exact e_iret .int dX0_rowAt_3 rfl rfl (ret_eq h)
set_option maxRecDepth 20000 in
theorem ok_X0_rowAt (l : Launch) (hl : l.stackTraces = false) : MOK l yX0_rowAt.cls 1 0 mX0_rowAt := ⟨lk_all (nil_all), fun ix ci j h => lk_all (P := fun ix q => FldOK yX0_rowAt.cls ix q.1 q.2) (nil_all) ix (ci, j) h, lk_all (nil_all), lk_all (nil_all), lk_all (nil_all)⟩
theorem hd_X0_rowAt : CallHd yX0_rowAt 1 := ⟨by decide +kernel, by decide +kernel, by decide +kernel⟩
theorem sc_X0_rowAt (l : Launch) (hl : l.stackTraces = false) : SCon l yX0_rowAt cX0_rowAt 1 (some .int) 1 0 0 Γ_X0_rowAt := scon_of mX0_rowAt cls_ok hl (by decide +kernel) rfl rfl (ok_X0_rowAt l hl) rfl rfl b_X0_rowAt
def F_X0_code (a0 : Int32) (μ : Mem) : Out := cI (F_X0_rowAt a0 μ) (fun v5 μ2 => cI (F_X0_columnAt a0 μ2) (fun v10 μ7 => rI (((10 : Int32) * v5) + v10) μ7))
def Γ_X0_code : Gam := fun as μ r μ' => ∃ (a0 : Int32), as = [.int a0] ∧ F_X0_code a0 μ = some (r, μ')
def mX0_code : MI := (cX0_code, [(15, (0, 1, 0, 0, Γ_X0_rowAt)), (19, (0, 1, 0, 0, Γ_X0_columnAt))], [], [], [], [], [], (29, none), (some .int))
set_option maxHeartbeats 4000000 in
theorem b_X0_code : ∀ as μ r μ', Γ_X0_code as μ r μ' → (elvL as).length ≤ 1 ∧ G mX0_code (Qe r μ') 0 (elv as 1) [] μ (rc r 0) := by
  intro as μ r μ' h
  obtain ⟨a0, rfl, h⟩ := h
  refine ⟨Nat.le_of_ble_eq_true rfl, ?_⟩
  show G mX0_code (Qe r μ') 0 [some (.int a0)] [] μ (rc r 0)
  unfold F_X0_code at h
  have hb9 : rc r 0 ≤ rc r 0 := Nat.le_refl _
  refine e_bipush dX0_code_0 cb_10 ?_
  refine e_iload_n dX0_code_2 rfl ?_
  refine cI_go h (fun E3 hc1 hr4 => e_SX [.int a0] [.int (10 : Int32)] dX0_code_3 rfl (by decide) rfl rfl (Nat.le_of_ble_eq_true rfl) (hbr hr4 hb9 (Nat.le_of_ble_eq_true rfl)) ⟨a0, rfl, hc1⟩ rfl ⟨hr4.symm, rfl⟩) (fun v5 μ2 hc1 h => ?_)
  refine e_SI [.int a0] [.int (10 : Int32)] dX0_code_3 rfl (by decide) rfl rfl (Nat.le_of_ble_eq_true rfl) ⟨a0, rfl, hc1⟩ ?_
  refine e_imul dX0_code_6 ?_
  refine e_iload_n dX0_code_7 rfl ?_
  refine cI_go h (fun E8 hc6 hr9 => e_SX [.int a0] [.int ((10 : Int32) * v5)] dX0_code_8 rfl (by decide) rfl rfl (Nat.le_of_ble_eq_true rfl) (hbr hr9 hb9 (Nat.le_of_ble_eq_true rfl)) ⟨a0, rfl, hc6⟩ rfl ⟨hr9.symm, rfl⟩) (fun v10 μ7 hc6 h => ?_)
  refine e_SI [.int a0] [.int ((10 : Int32) * v5)] dX0_code_8 rfl (by decide) rfl rfl (Nat.le_of_ble_eq_true rfl) ⟨a0, rfl, hc6⟩ ?_
  refine e_iadd dX0_code_11 ?_
  exact e_iret .int dX0_code_12 rfl rfl (ret_eq h)
set_option maxRecDepth 20000 in
theorem ok_X0_code (l : Launch) (hl : l.stackTraces = false) : MOK l yX0_code.cls 2 20 mX0_code := ⟨lk_all (List.forall_mem_cons.mpr ⟨⟨yX0_rowAt, cX0_rowAt, 1, (some .int), 1, 0, by decide, by decide, t_1 9 rfl rfl, hd_X0_rowAt, Or.inl ⟨rfl, sc_X0_rowAt l hl, t_2 185 rfl rfl, t_3 175 rfl rfl, t_2 184 rfl rfl⟩⟩, List.forall_mem_cons.mpr ⟨⟨yX0_columnAt, cX0_columnAt, 1, (some .int), 1, 0, by decide, by decide, t_1 9 rfl rfl, hd_X0_columnAt, Or.inl ⟨rfl, sc_X0_columnAt l hl, t_2 188 rfl rfl, t_3 176 rfl rfl, t_2 187 rfl rfl⟩⟩, nil_all⟩⟩), fun ix ci j h => lk_all (P := fun ix q => FldOK yX0_code.cls ix q.1 q.2) (nil_all) ix (ci, j) h, lk_all (nil_all), lk_all (nil_all), lk_all (nil_all)⟩
theorem hd_X0_code : CallHd yX0_code 1 := ⟨by decide +kernel, by decide +kernel, by decide +kernel⟩
theorem sc_X0_code (l : Launch) (hl : l.stackTraces = false) : SCon l yX0_code cX0_code 1 (some .int) 2 20 0 Γ_X0_code := scon_of mX0_code cls_ok hl (by decide +kernel) rfl rfl (ok_X0_code l hl) rfl rfl b_X0_code
def F_X0_columnMask (a0 : Int32) (μ : Mem) : Out := rJ (shlL (1103823438081 : Int64) a0) μ
def Γ_X0_columnMask : Gam := fun as μ r μ' => ∃ (a0 : Int32), as = [.int a0] ∧ F_X0_columnMask a0 μ = some (r, μ')
def mX0_columnMask : MI := (cX0_columnMask, [], [], [], [(13, 1103823438081)], [], [], (29, none), (some .long))
set_option maxHeartbeats 4000000 in
theorem b_X0_columnMask : ∀ as μ r μ', Γ_X0_columnMask as μ r μ' → (elvL as).length ≤ 1 ∧ G mX0_columnMask (Qe r μ') 0 (elv as 1) [] μ (rc r 0) := by
  intro as μ r μ' h
  obtain ⟨a0, rfl, h⟩ := h
  refine ⟨Nat.le_of_ble_eq_true rfl, ?_⟩
  show G mX0_columnMask (Qe r μ') 0 [some (.int a0)] [] μ (rc r 0)
  unfold F_X0_columnMask at h
  have hb9 : rc r 0 ≤ rc r 0 := Nat.le_refl _
  refine e_ldc2 (v := (1103823438081 : Int64)) dX0_columnMask_0 rfl ?_
  refine e_iload_n dX0_columnMask_3 rfl ?_
  refine e_lshl dX0_columnMask_4 ?_
  exact e_lret dX0_columnMask_5 rfl (ret_eq h)
set_option maxRecDepth 20000 in
theorem ok_X0_columnMask (l : Launch) (hl : l.stackTraces = false) : MOK l yX0_columnMask.cls 1 0 mX0_columnMask := ⟨lk_all (nil_all), fun ix ci j h => lk_all (P := fun ix q => FldOK yX0_columnMask.cls ix q.1 q.2) (nil_all) ix (ci, j) h, lk_all (nil_all), lk_all (List.forall_mem_cons.mpr ⟨t_1 198 rfl rfl, nil_all⟩), lk_all (nil_all)⟩
theorem hd_X0_columnMask : CallHd yX0_columnMask 1 := ⟨by decide +kernel, by decide +kernel, by decide +kernel⟩
theorem sc_X0_columnMask (l : Launch) (hl : l.stackTraces = false) : SCon l yX0_columnMask cX0_columnMask 1 (some .long) 1 0 0 Γ_X0_columnMask := scon_of mX0_columnMask cls_ok hl (by decide +kernel) rfl rfl (ok_X0_columnMask l hl) rfl rfl b_X0_columnMask
def F_X0_corners (a0 : Int32) (a1 : Int32) (a2 : Int32) (a3 : Int32) (μ : Mem) : Out := cJ (F_X0_bit a0 a2 μ) (fun v5 μ2 => cJ (F_X0_bit a0 a3 μ2) (fun v10 μ7 => cJ (F_X0_bit a1 a2 μ7) (fun v15 μ12 => cJ (F_X0_bit a1 a3 μ12) (fun v20 μ17 => rJ (((v5 ||| v10) ||| v15) ||| v20) μ17))))
def Γ_X0_corners : Gam := fun as μ r μ' => ∃ (a0 : Int32) (a1 : Int32) (a2 : Int32) (a3 : Int32), as = [.int a0, .int a1, .int a2, .int a3] ∧ F_X0_corners a0 a1 a2 a3 μ = some (r, μ')
def mX0_corners : MI := (cX0_corners, [(54, (0, 2, 0, 0, Γ_X0_bit))], [], [], [], [], [], (29, none), (some .long))
set_option maxHeartbeats 4000000 in
theorem b_X0_corners : ∀ as μ r μ', Γ_X0_corners as μ r μ' → (elvL as).length ≤ 4 ∧ G mX0_corners (Qe r μ') 0 (elv as 4) [] μ (rc r 0) := by
  intro as μ r μ' h
  obtain ⟨a0, a1, a2, a3, rfl, h⟩ := h
  refine ⟨Nat.le_of_ble_eq_true rfl, ?_⟩
  show G mX0_corners (Qe r μ') 0 [some (.int a0), some (.int a1), some (.int a2), some (.int a3)] [] μ (rc r 0)
  unfold F_X0_corners at h
  have hb9 : rc r 0 ≤ rc r 0 := Nat.le_refl _
  refine e_iload_n dX0_corners_0 rfl ?_
  refine e_iload_n dX0_corners_1 rfl ?_
  refine cJ_go h (fun E3 hc1 hr4 => e_SX [.int a0, .int a2] [] dX0_corners_2 rfl (by decide) rfl rfl (Nat.le_of_ble_eq_true rfl) (hbr hr4 hb9 (Nat.le_of_ble_eq_true rfl)) ⟨a0, a2, rfl, hc1⟩ rfl ⟨hr4.symm, rfl⟩) (fun v5 μ2 hc1 h => ?_)
  refine e_SJ [.int a0, .int a2] [] dX0_corners_2 rfl (by decide) rfl rfl (Nat.le_of_ble_eq_true rfl) ⟨a0, a2, rfl, hc1⟩ ?_
  refine e_iload_n dX0_corners_5 rfl ?_
  refine e_iload_n dX0_corners_6 rfl ?_
  refine cJ_go h (fun E8 hc6 hr9 => e_SX [.int a0, .int a3] [.long v5] dX0_corners_7 rfl (by decide) rfl rfl (Nat.le_of_ble_eq_true rfl) (hbr hr9 hb9 (Nat.le_of_ble_eq_true rfl)) ⟨a0, a3, rfl, hc6⟩ rfl ⟨hr9.symm, rfl⟩) (fun v10 μ7 hc6 h => ?_)
  refine e_SJ [.int a0, .int a3] [.long v5] dX0_corners_7 rfl (by decide) rfl rfl (Nat.le_of_ble_eq_true rfl) ⟨a0, a3, rfl, hc6⟩ ?_
  refine e_lor dX0_corners_10 ?_
  refine e_iload_n dX0_corners_11 rfl ?_
  refine e_iload_n dX0_corners_12 rfl ?_
  refine cJ_go h (fun E13 hc11 hr14 => e_SX [.int a1, .int a2] [.long (v5 ||| v10)] dX0_corners_13 rfl (by decide) rfl rfl (Nat.le_of_ble_eq_true rfl) (hbr hr14 hb9 (Nat.le_of_ble_eq_true rfl)) ⟨a1, a2, rfl, hc11⟩ rfl ⟨hr14.symm, rfl⟩) (fun v15 μ12 hc11 h => ?_)
  refine e_SJ [.int a1, .int a2] [.long (v5 ||| v10)] dX0_corners_13 rfl (by decide) rfl rfl (Nat.le_of_ble_eq_true rfl) ⟨a1, a2, rfl, hc11⟩ ?_
  refine e_lor dX0_corners_16 ?_
  refine e_iload_n dX0_corners_17 rfl ?_
  refine e_iload_n dX0_corners_18 rfl ?_
  refine cJ_go h (fun E18 hc16 hr19 => e_SX [.int a1, .int a3] [.long ((v5 ||| v10) ||| v15)] dX0_corners_19 rfl (by decide) rfl rfl (Nat.le_of_ble_eq_true rfl) (hbr hr19 hb9 (Nat.le_of_ble_eq_true rfl)) ⟨a1, a3, rfl, hc16⟩ rfl ⟨hr19.symm, rfl⟩) (fun v20 μ17 hc16 h => ?_)
  refine e_SJ [.int a1, .int a3] [.long ((v5 ||| v10) ||| v15)] dX0_corners_19 rfl (by decide) rfl rfl (Nat.le_of_ble_eq_true rfl) ⟨a1, a3, rfl, hc16⟩ ?_
  refine e_lor dX0_corners_22 ?_
  exact e_lret dX0_corners_23 rfl (ret_eq h)
set_option maxRecDepth 20000 in
theorem ok_X0_corners (l : Launch) (hl : l.stackTraces = false) : MOK l yX0_corners.cls 2 21 mX0_corners := ⟨lk_all (List.forall_mem_cons.mpr ⟨⟨yX0_bit, cX0_bit, 2, (some .long), 1, 0, by decide, by decide, t_1 9 rfl rfl, hd_X0_bit, Or.inl ⟨rfl, sc_X0_bit l hl, t_2 131 rfl rfl, t_3 100 rfl rfl, t_2 130 rfl rfl⟩⟩, nil_all⟩), fun ix ci j h => lk_all (P := fun ix q => FldOK yX0_corners.cls ix q.1 q.2) (nil_all) ix (ci, j) h, lk_all (nil_all), lk_all (nil_all), lk_all (nil_all)⟩
theorem hd_X0_corners : CallHd yX0_corners 4 := ⟨by decide +kernel, by decide +kernel, by decide +kernel⟩
theorem sc_X0_corners (l : Launch) (hl : l.stackTraces = false) : SCon l yX0_corners cX0_corners 4 (some .long) 2 21 0 Γ_X0_corners := scon_of mX0_corners cls_ok hl (by decide +kernel) rfl rfl (ok_X0_corners l hl) rfl rfl b_X0_corners
def F_X0_cornersOf (a0 : Int32) (μ : Mem) : Out := if 0 ≤ a0 then (cJ (F_X0_corners (a0 / (1000 : Int32)) (remI (a0 / (100 : Int32)) (10 : Int32)) (remI (a0 / (10 : Int32)) (10 : Int32)) (remI a0 (10 : Int32)) μ) (fun v6 μ3 => rJ v6 μ3)) else (rJ (0 : Int64) μ)
def Γ_X0_cornersOf : Gam := fun as μ r μ' => ∃ (a0 : Int32), as = [.int a0] ∧ F_X0_cornersOf a0 μ = some (r, μ')
def mX0_cornersOf : MI := (cX0_cornersOf, [(58, (0, 4, 0, 0, Γ_X0_corners))], [], [], [], [], [], (29, none), (some .long))
set_option maxHeartbeats 4000000 in
theorem b_X0_cornersOf : ∀ as μ r μ', Γ_X0_cornersOf as μ r μ' → (elvL as).length ≤ 1 ∧ G mX0_cornersOf (Qe r μ') 0 (elv as 1) [] μ (rc r 0) := by
  intro as μ r μ' h
  obtain ⟨a0, rfl, h⟩ := h
  refine ⟨Nat.le_of_ble_eq_true rfl, ?_⟩
  show G mX0_cornersOf (Qe r μ') 0 [some (.int a0)] [] μ (rc r 0)
  unfold F_X0_cornersOf at h
  have hb9 : rc r 0 ≤ rc r 0 := Nat.le_refl _
  refine e_iload_n dX0_cornersOf_0 rfl ?_
  refine e_if_ge (tgt := 6) dX0_cornersOf_1 rfl (fun hc1 => ?_) (fun hc1 => ?_)
  · rw [if_pos hc1] at h
    refine e_iload_n dX0_cornersOf_6 rfl ?_
    refine e_sipush dX0_cornersOf_7 cs_1000 ?_
    refine e_idiv dX0_cornersOf_10 (by decide) ?_
    refine e_iload_n dX0_cornersOf_11 rfl ?_
    refine e_bipush dX0_cornersOf_12 cb_100 ?_
    refine e_idiv dX0_cornersOf_14 (by decide) ?_
    refine e_bipush dX0_cornersOf_15 cb_10 ?_
    refine e_irem dX0_cornersOf_17 (by decide) ?_
    refine e_iload_n dX0_cornersOf_18 rfl ?_
    refine e_bipush dX0_cornersOf_19 cb_10 ?_
    refine e_idiv dX0_cornersOf_21 (by decide) ?_
    refine e_bipush dX0_cornersOf_22 cb_10 ?_
    refine e_irem dX0_cornersOf_24 (by decide) ?_
    refine e_iload_n dX0_cornersOf_25 rfl ?_
    refine e_bipush dX0_cornersOf_26 cb_10 ?_
    refine e_irem dX0_cornersOf_28 (by decide) ?_
    refine cJ_go h (fun E4 hc2 hr5 => e_SX [.int (a0 / (1000 : Int32)), .int (remI (a0 / (100 : Int32)) (10 : Int32)), .int (remI (a0 / (10 : Int32)) (10 : Int32)), .int (remI a0 (10 : Int32))] [] dX0_cornersOf_29 rfl (by decide) rfl rfl (Nat.le_of_ble_eq_true rfl) (hbr hr5 hb9 (Nat.le_of_ble_eq_true rfl)) ⟨a0 / (1000 : Int32), remI (a0 / (100 : Int32)) (10 : Int32), remI (a0 / (10 : Int32)) (10 : Int32), remI a0 (10 : Int32), rfl, hc2⟩ rfl ⟨hr5.symm, rfl⟩) (fun v6 μ3 hc2 h => ?_)
    refine e_SJ [.int (a0 / (1000 : Int32)), .int (remI (a0 / (100 : Int32)) (10 : Int32)), .int (remI (a0 / (10 : Int32)) (10 : Int32)), .int (remI a0 (10 : Int32))] [] dX0_cornersOf_29 rfl (by decide) rfl rfl (Nat.le_of_ble_eq_true rfl) ⟨a0 / (1000 : Int32), remI (a0 / (100 : Int32)) (10 : Int32), remI (a0 / (10 : Int32)) (10 : Int32), remI a0 (10 : Int32), rfl, hc2⟩ ?_
    exact e_lret dX0_cornersOf_32 rfl (ret_eq h)
  · rw [if_neg hc1] at h
    refine e_lconst (v := (0 : Int64)) dX0_cornersOf_4 rfl ?_
    exact e_lret dX0_cornersOf_5 rfl (ret_eq h)
set_option maxRecDepth 20000 in
theorem ok_X0_cornersOf (l : Launch) (hl : l.stackTraces = false) : MOK l yX0_cornersOf.cls 3 44 mX0_cornersOf := ⟨lk_all (List.forall_mem_cons.mpr ⟨⟨yX0_corners, cX0_corners, 4, (some .long), 2, 21, by decide, by decide, t_1 9 rfl rfl, hd_X0_corners, Or.inl ⟨rfl, sc_X0_corners l hl, t_3 99 rfl rfl, t_3 104 rfl rfl, t_3 98 rfl rfl⟩⟩, nil_all⟩), fun ix ci j h => lk_all (P := fun ix q => FldOK yX0_cornersOf.cls ix q.1 q.2) (nil_all) ix (ci, j) h, lk_all (nil_all), lk_all (nil_all), lk_all (nil_all)⟩
theorem hd_X0_cornersOf : CallHd yX0_cornersOf 1 := ⟨by decide +kernel, by decide +kernel, by decide +kernel⟩
theorem sc_X0_cornersOf (l : Launch) (hl : l.stackTraces = false) : SCon l yX0_cornersOf cX0_cornersOf 1 (some .long) 3 44 0 Γ_X0_cornersOf := scon_of mX0_cornersOf cls_ok hl (by decide +kernel) rfl rfl (ok_X0_cornersOf l hl) rfl rfl b_X0_cornersOf
def F_X7_oneIf (a0 : Int32) (μ : Mem) : Out := if a0 = 0 then (rI (0 : Int32) μ) else (rI (1 : Int32) μ)
def Γ_X7_oneIf : Gam := fun as μ r μ' => ∃ (a0 : Int32), as = [.int a0] ∧ F_X7_oneIf a0 μ = some (r, μ')
def mX7_oneIf : MI := (cX7_oneIf, [], [], [], [], [], [], (29, none), (some .int))
set_option maxHeartbeats 4000000 in
theorem b_X7_oneIf : ∀ as μ r μ', Γ_X7_oneIf as μ r μ' → (elvL as).length ≤ 1 ∧ G mX7_oneIf (Qe r μ') 0 (elv as 1) [] μ (rc r 0) := by
  intro as μ r μ' h
  obtain ⟨a0, rfl, h⟩ := h
  refine ⟨Nat.le_of_ble_eq_true rfl, ?_⟩
  show G mX7_oneIf (Qe r μ') 0 [some (.int a0)] [] μ (rc r 0)
  unfold F_X7_oneIf at h
  have hb9 : rc r 0 ≤ rc r 0 := Nat.le_refl _
  refine e_iload_n dX7_oneIf_0 rfl ?_
  refine e_if_eq (tgt := 8) dX7_oneIf_1 rfl (fun hc1 => ?_) (fun hc1 => ?_)
  · rw [if_pos hc1] at h
    refine e_iconst dX7_oneIf_8 ci_0 ?_
    exact e_iret .int dX7_oneIf_9 rfl rfl (ret_eq h)
  · rw [if_neg hc1] at h
    refine e_iconst dX7_oneIf_4 ci_1 ?_
    refine e_goto (tgt := 9) dX7_oneIf_5 rfl ?_
    exact e_iret .int dX7_oneIf_9 rfl rfl (ret_eq h)
set_option maxRecDepth 20000 in
theorem ok_X7_oneIf (l : Launch) (hl : l.stackTraces = false) : MOK l yX7_oneIf.cls 1 0 mX7_oneIf := ⟨lk_all (nil_all), fun ix ci j h => lk_all (P := fun ix q => FldOK yX7_oneIf.cls ix q.1 q.2) (nil_all) ix (ci, j) h, lk_all (nil_all), lk_all (nil_all), lk_all (nil_all)⟩
theorem hd_X7_oneIf : CallHd yX7_oneIf 1 := ⟨by decide +kernel, by decide +kernel, by decide +kernel⟩
theorem sc_X7_oneIf (l : Launch) (hl : l.stackTraces = false) : SCon l yX7_oneIf cX7_oneIf 1 (some .int) 1 0 0 Γ_X7_oneIf := scon_of mX7_oneIf cls_ok hl (by decide +kernel) rfl rfl (ok_X7_oneIf l hl) rfl rfl b_X7_oneIf
def f_X0_countColumnsOf_4 : Nat → Int64 → Int32 → Int32 → Mem → Out
  | 0, _, _, _, _ => none
  | n + 1, x0, x2, x3, μ => if (6 : Int32) ≤ x3 then (rI x2 μ) else (cJ (F_X0_columnMask x3 μ) (fun v6 μ3 => if (lg_cmp (x0 &&& v6) (0 : Int64)) = 0 then (cI (F_X7_oneIf (0 : Int32) μ3) (fun v12 μ9 => lt (x2 + v12) (fun v13 => lt (x3 + (1 : Int32)) (fun v14 => f_X0_countColumnsOf_4 n x0 v13 v14 μ9)))) else (cI (F_X7_oneIf (1 : Int32) μ3) (fun v19 μ16 => lt (x2 + v19) (fun v20 => lt (x3 + (1 : Int32)) (fun v21 => f_X0_countColumnsOf_4 n x0 v20 v21 μ16))))))
def F_X0_countColumnsOf (a0 : Int64) (μ : Mem) : Out := f_X0_countColumnsOf_4 BIG a0 (0 : Int32) (0 : Int32) μ
def Γ_X0_countColumnsOf : Gam := fun as μ r μ' => ∃ (a0 : Int64), as = [.long a0] ∧ F_X0_countColumnsOf a0 μ = some (r, μ')
def mX0_countColumnsOf : MI := (cX0_countColumnsOf, [(34, (2, 1, 0, 0, Γ_X7_oneIf)), (38, (0, 1, 0, 0, Γ_X0_columnMask))], [], [], [], [], [], (29, none), (some .int))
set_option maxHeartbeats 4000000 in
theorem g_X0_countColumnsOf_4 {r : Res} {μ' : Mem} : ∀ n : Nat, ∀ (x0 : Int64) (x2 : Int32) (x3 : Int32), ∀ (μ : Mem) (b : Nat), rc r 0 ≤ b → f_X0_countColumnsOf_4 n x0 x2 x3 μ = some (r, μ') → G mX0_countColumnsOf (Qe r μ') 4 [some (.long x0), none, some (.int x2), some (.int x3)] [] μ b := by
  intro n
  induction n with
  | zero => intro x0 x2 x3 μ b hb9 h; exact nomatch (show (none : Out) = some _ from h)
  | succ n ih =>
    intro x0 x2 x3 μ b hb9 h
    rw [f_X0_countColumnsOf_4.eq_2] at h
    refine e_iload_n dX0_countColumnsOf_4 rfl ?_
    refine e_bipush dX0_countColumnsOf_5 cb_6 ?_
    refine e_ic_ge (tgt := 38) dX0_countColumnsOf_7 rfl (fun hc1 => ?_) (fun hc1 => ?_)
    · rw [if_pos hc1] at h
      refine e_iload_n dX0_countColumnsOf_38 rfl ?_
      exact e_iret .int dX0_countColumnsOf_39 rfl rfl (ret_eq h)
    · rw [if_neg hc1] at h
      refine e_iload_n dX0_countColumnsOf_10 rfl ?_
      refine e_lload_n dX0_countColumnsOf_11 rfl ?_
      refine e_iload_n dX0_countColumnsOf_12 rfl ?_
      refine cJ_go h (fun E4 hc2 hr5 => e_SX [.int x3] [.long x0, .int x2] dX0_countColumnsOf_13 rfl (by decide) rfl rfl (Nat.le_of_ble_eq_true rfl) (hbr hr5 hb9 (Nat.le_of_ble_eq_true rfl)) ⟨x3, rfl, hc2⟩ rfl ⟨hr5.symm, rfl⟩) (fun v6 μ3 hc2 h => ?_)
      refine e_SJ [.int x3] [.long x0, .int x2] dX0_countColumnsOf_13 rfl (by decide) rfl rfl (Nat.le_of_ble_eq_true rfl) ⟨x3, rfl, hc2⟩ ?_
      refine e_land dX0_countColumnsOf_16 ?_
      refine e_lconst (v := (0 : Int64)) dX0_countColumnsOf_17 rfl ?_
      refine e_lcmp dX0_countColumnsOf_18 ?_
      refine e_if_eq (tgt := 26) dX0_countColumnsOf_19 rfl (fun hc7 => ?_) (fun hc7 => ?_)
      · rw [if_pos hc7] at h
        refine e_iconst dX0_countColumnsOf_26 ci_0 ?_
        refine cI_go h (fun E10 hc8 hr11 => e_SX [.int (0 : Int32)] [.int x2] dX0_countColumnsOf_27 rfl (by decide) rfl rfl (Nat.le_of_ble_eq_true rfl) (hbr hr11 hb9 (Nat.le_of_ble_eq_true rfl)) ⟨(0 : Int32), rfl, hc8⟩ rfl ⟨hr11.symm, rfl⟩) (fun v12 μ9 hc8 h => ?_)
        refine e_SI [.int (0 : Int32)] [.int x2] dX0_countColumnsOf_27 rfl (by decide) rfl rfl (Nat.le_of_ble_eq_true rfl) ⟨(0 : Int32), rfl, hc8⟩ ?_
        refine e_iadd dX0_countColumnsOf_30 ?_
        refine e_naI h (fun v13 ev13 h => ?_)
        refine e_istore_nL [some (.long x0), none, some (.int v13), some (.int x3)] dX0_countColumnsOf_31 (Nat.le_of_ble_eq_true rfl) rfl ?_
        refine e_iincN 3 (1 : Int32) dX0_countColumnsOf_32 rfl ci_1 h (fun y9 => [some (.long x0), none, some (.int v13), some (.int y9)]) (fun _ => rfl) (fun v14 ev14 h => ?_)
        refine e_goto (tgt := 4) dX0_countColumnsOf_35 rfl ?_
        exact e_le (ih x0 v13 v14 μ9 _ hb9 h) ⟨rfl, rfl, rfl, trivial⟩
      · rw [if_neg hc7] at h
        refine e_iconst dX0_countColumnsOf_22 ci_1 ?_
        refine e_goto (tgt := 27) dX0_countColumnsOf_23 rfl ?_
        refine cI_go h (fun E17 hc15 hr18 => e_SX [.int (1 : Int32)] [.int x2] dX0_countColumnsOf_27 rfl (by decide) rfl rfl (Nat.le_of_ble_eq_true rfl) (hbr hr18 hb9 (Nat.le_of_ble_eq_true rfl)) ⟨(1 : Int32), rfl, hc15⟩ rfl ⟨hr18.symm, rfl⟩) (fun v19 μ16 hc15 h => ?_)
        refine e_SI [.int (1 : Int32)] [.int x2] dX0_countColumnsOf_27 rfl (by decide) rfl rfl (Nat.le_of_ble_eq_true rfl) ⟨(1 : Int32), rfl, hc15⟩ ?_
        refine e_iadd dX0_countColumnsOf_30 ?_
        refine e_naI h (fun v20 ev20 h => ?_)
        refine e_istore_nL [some (.long x0), none, some (.int v20), some (.int x3)] dX0_countColumnsOf_31 (Nat.le_of_ble_eq_true rfl) rfl ?_
        refine e_iincN 3 (1 : Int32) dX0_countColumnsOf_32 rfl ci_1 h (fun y9 => [some (.long x0), none, some (.int v20), some (.int y9)]) (fun _ => rfl) (fun v21 ev21 h => ?_)
        refine e_goto (tgt := 4) dX0_countColumnsOf_35 rfl ?_
        exact e_le (ih x0 v20 v21 μ16 _ hb9 h) ⟨rfl, rfl, rfl, trivial⟩
set_option maxHeartbeats 4000000 in
theorem b_X0_countColumnsOf : ∀ as μ r μ', Γ_X0_countColumnsOf as μ r μ' → (elvL as).length ≤ 4 ∧ G mX0_countColumnsOf (Qe r μ') 0 (elv as 4) [] μ (rc r 0) := by
  intro as μ r μ' h
  obtain ⟨a0, rfl, h⟩ := h
  refine ⟨Nat.le_of_ble_eq_true rfl, ?_⟩
  show G mX0_countColumnsOf (Qe r μ') 0 [some (.long a0), none, none, none] [] μ (rc r 0)
  unfold F_X0_countColumnsOf at h
  have hb9 : rc r 0 ≤ rc r 0 := Nat.le_refl _
  refine e_iconst dX0_countColumnsOf_0 ci_0 ?_
  refine e_istore_nL [some (.long a0), none, some (.int (0 : Int32)), none] dX0_countColumnsOf_1 (Nat.le_of_ble_eq_true rfl) rfl ?_
  refine e_iconst dX0_countColumnsOf_2 ci_0 ?_
  refine e_istore_nL [some (.long a0), none, some (.int (0 : Int32)), some (.int (0 : Int32))] dX0_countColumnsOf_3 (Nat.le_of_ble_eq_true rfl) rfl ?_
  exact e_le (g_X0_countColumnsOf_4 BIG a0 (0 : Int32) (0 : Int32) μ _ hb9 h) ⟨rfl, rfl, rfl, trivial⟩
set_option maxRecDepth 20000 in
theorem ok_X0_countColumnsOf (l : Launch) (hl : l.stackTraces = false) : MOK l yX0_countColumnsOf.cls 2 20 mX0_countColumnsOf := ⟨lk_all (List.forall_mem_cons.mpr ⟨⟨yX7_oneIf, cX7_oneIf, 1, (some .int), 1, 0, by decide, by decide, t_1 1 rfl rfl, hd_X7_oneIf, Or.inr (Or.inr (Or.inl ⟨rfl, sc_X7_oneIf l hl, t_1 206 rfl rfl, List.mem_of_getElem? (i := 1) rfl, t_1 205 rfl rfl⟩))⟩, List.forall_mem_cons.mpr ⟨⟨yX0_columnMask, cX0_columnMask, 1, (some .long), 1, 0, by decide, by decide, t_1 9 rfl rfl, hd_X0_columnMask, Or.inl ⟨rfl, sc_X0_columnMask l hl, t_1 197 rfl rfl, t_3 168 rfl rfl, t_1 196 rfl rfl⟩⟩, nil_all⟩⟩), fun ix ci j h => lk_all (P := fun ix q => FldOK yX0_countColumnsOf.cls ix q.1 q.2) (nil_all) ix (ci, j) h, lk_all (nil_all), lk_all (nil_all), lk_all (nil_all)⟩
theorem hd_X0_countColumnsOf : CallHd yX0_countColumnsOf 1 := ⟨by decide +kernel, by decide +kernel, by decide +kernel⟩
theorem sc_X0_countColumnsOf (l : Launch) (hl : l.stackTraces = false) : SCon l yX0_countColumnsOf cX0_countColumnsOf 4 (some .int) 2 20 0 Γ_X0_countColumnsOf := scon_of mX0_countColumnsOf cls_ok hl (by decide +kernel) rfl rfl (ok_X0_countColumnsOf l hl) rfl rfl b_X0_countColumnsOf
def f_X0_firstPiece_8 : Nat → Int64 → Int64 → Int32 → Mem → Out
  | 0, _, _, _, _ => none
  | n + 1, x0, x2, x4, μ => if (48 : Int32) ≤ x4 then (rJ x2 μ) else (lt (x0 &&& ((((x2 ||| (shlL x2 (1 : Int32))) ||| (ushrL x2 (1 : Int32))) ||| (shlL x2 (8 : Int32))) ||| (ushrL x2 (8 : Int32)))) (fun v3 => if (lg_cmp v3 x2) = 0 then (rJ x2 μ) else (lt (x4 + (1 : Int32)) (fun v5 => f_X0_firstPiece_8 n x0 v3 v5 μ))))
def F_X0_firstPiece (a0 : Int64) (μ : Mem) : Out := lt (a0 &&& (-a0)) (fun v1 => f_X0_firstPiece_8 BIG a0 v1 (0 : Int32) μ)
def Γ_X0_firstPiece : Gam := fun as μ r μ' => ∃ (a0 : Int64), as = [.long a0] ∧ F_X0_firstPiece a0 μ = some (r, μ')
def mX0_firstPiece : MI := (cX0_firstPiece, [], [], [], [], [], [], (29, none), (some .long))
set_option maxHeartbeats 4000000 in
theorem g_X0_firstPiece_8 {r : Res} {μ' : Mem} : ∀ n : Nat, ∀ (x0 : Int64) (x2 : Int64) (x4 : Int32), ∀ (μ : Mem) (b : Nat), rc r 0 ≤ b → f_X0_firstPiece_8 n x0 x2 x4 μ = some (r, μ') → G mX0_firstPiece (Qe r μ') 8 [some (.long x0), none, some (.long x2), none, some (.int x4), none, none] [] μ b := by
  intro n
  induction n with
  | zero => intro x0 x2 x4 μ b hb9 h; exact nomatch (show (none : Out) = some _ from h)
  | succ n ih =>
    intro x0 x2 x4 μ b hb9 h
    rw [f_X0_firstPiece_8.eq_2] at h
    refine e_iload dX0_firstPiece_8 rfl ?_
    refine e_bipush dX0_firstPiece_10 cb_48 ?_
    refine e_ic_ge (tgt := 57) dX0_firstPiece_12 rfl (fun hc2 => ?_) (fun hc2 => ?_)
    · rw [if_pos hc2] at h
      refine e_lload_n dX0_firstPiece_57 rfl ?_
      exact e_lret dX0_firstPiece_58 rfl (ret_eq h)
    · rw [if_neg hc2] at h
      refine e_lload_n dX0_firstPiece_15 rfl ?_
      refine e_lload_n dX0_firstPiece_16 rfl ?_
      refine e_lload_n dX0_firstPiece_17 rfl ?_
      refine e_iconst dX0_firstPiece_18 ci_1 ?_
      refine e_lshl dX0_firstPiece_19 ?_
      refine e_lor dX0_firstPiece_20 ?_
      refine e_lload_n dX0_firstPiece_21 rfl ?_
      refine e_iconst dX0_firstPiece_22 ci_1 ?_
      refine e_lushr dX0_firstPiece_23 ?_
      refine e_lor dX0_firstPiece_24 ?_
      refine e_lload_n dX0_firstPiece_25 rfl ?_
      refine e_bipush dX0_firstPiece_26 cb_8 ?_
      refine e_lshl dX0_firstPiece_28 ?_
      refine e_lor dX0_firstPiece_29 ?_
      refine e_lload_n dX0_firstPiece_30 rfl ?_
      refine e_bipush dX0_firstPiece_31 cb_8 ?_
      refine e_lushr dX0_firstPiece_33 ?_
      refine e_lor dX0_firstPiece_34 ?_
      refine e_land dX0_firstPiece_35 ?_
      refine e_naJ h (fun v3 ev3 h => ?_)
      refine e_lstoreL [some (.long x0), none, some (.long x2), none, some (.int x4), some (.long v3), none] dX0_firstPiece_36 (Nat.le_of_ble_eq_true rfl) rfl ?_
      refine e_lload dX0_firstPiece_38 rfl ?_
      refine e_lload_n dX0_firstPiece_40 rfl ?_
      refine e_lcmp dX0_firstPiece_41 ?_
      refine e_if_ne (tgt := 48) dX0_firstPiece_42 rfl (fun hc4 => ?_) (fun hc4 => ?_)
      · rw [if_neg hc4] at h
        refine e_lload dX0_firstPiece_48 rfl ?_
        refine e_lstore_nL [some (.long x0), none, some (.long v3), none, some (.int x4), some (.long v3), none] dX0_firstPiece_50 (Nat.le_of_ble_eq_true rfl) rfl ?_
        refine e_iincN 4 (1 : Int32) dX0_firstPiece_51 rfl ci_1 h (fun y9 => [some (.long x0), none, some (.long v3), none, some (.int y9), some (.long v3), none]) (fun _ => rfl) (fun v5 ev5 h => ?_)
        refine e_goto (tgt := 8) dX0_firstPiece_54 rfl ?_
        exact e_le (ih x0 v3 v5 μ _ hb9 h) ⟨rfl, rfl, rfl, trivial⟩
      · rw [if_pos hc4] at h
        refine e_goto (tgt := 57) dX0_firstPiece_45 rfl ?_
        refine e_lload_n dX0_firstPiece_57 rfl ?_
        exact e_lret dX0_firstPiece_58 rfl (ret_eq h)
set_option maxHeartbeats 4000000 in
theorem b_X0_firstPiece : ∀ as μ r μ', Γ_X0_firstPiece as μ r μ' → (elvL as).length ≤ 7 ∧ G mX0_firstPiece (Qe r μ') 0 (elv as 7) [] μ (rc r 0) := by
  intro as μ r μ' h
  obtain ⟨a0, rfl, h⟩ := h
  refine ⟨Nat.le_of_ble_eq_true rfl, ?_⟩
  show G mX0_firstPiece (Qe r μ') 0 [some (.long a0), none, none, none, none, none, none] [] μ (rc r 0)
  unfold F_X0_firstPiece at h
  have hb9 : rc r 0 ≤ rc r 0 := Nat.le_refl _
  refine e_lload_n dX0_firstPiece_0 rfl ?_
  refine e_lload_n dX0_firstPiece_1 rfl ?_
  refine e_lneg dX0_firstPiece_2 ?_
  refine e_land dX0_firstPiece_3 ?_
  refine e_naJ h (fun v1 ev1 h => ?_)
  refine e_lstore_nL [some (.long a0), none, some (.long v1), none, none, none, none] dX0_firstPiece_4 (Nat.le_of_ble_eq_true rfl) rfl ?_
  refine e_iconst dX0_firstPiece_5 ci_0 ?_
  refine e_istoreL [some (.long a0), none, some (.long v1), none, some (.int (0 : Int32)), none, none] dX0_firstPiece_6 (Nat.le_of_ble_eq_true rfl) rfl ?_
  exact e_le (g_X0_firstPiece_8 BIG a0 v1 (0 : Int32) μ _ hb9 h) ⟨rfl, rfl, rfl, trivial⟩
set_option maxRecDepth 20000 in
theorem ok_X0_firstPiece (l : Launch) (hl : l.stackTraces = false) : MOK l yX0_firstPiece.cls 1 0 mX0_firstPiece := ⟨lk_all (nil_all), fun ix ci j h => lk_all (P := fun ix q => FldOK yX0_firstPiece.cls ix q.1 q.2) (nil_all) ix (ci, j) h, lk_all (nil_all), lk_all (nil_all), lk_all (nil_all)⟩
theorem hd_X0_firstPiece : CallHd yX0_firstPiece 1 := ⟨by decide +kernel, by decide +kernel, by decide +kernel⟩
theorem sc_X0_firstPiece (l : Launch) (hl : l.stackTraces = false) : SCon l yX0_firstPiece cX0_firstPiece 7 (some .long) 1 0 0 Γ_X0_firstPiece := scon_of mX0_firstPiece cls_ok hl (by decide +kernel) rfl rfl (ok_X0_firstPiece l hl) rfl rfl b_X0_firstPiece
def f_X0_countPieces_7 : Nat → Int32 → Int64 → Int32 → Mem → Out
  | 0, _, _, _, _ => none
  | n + 1, x2, x3, x5, μ => if (48 : Int32) ≤ x5 then (rI x2 μ) else (if (lg_cmp x3 (0 : Int64)) = 0 then (rI x2 μ) else (lt (x2 + (1 : Int32)) (fun v3 => cJ (F_X0_firstPiece x3 μ) (fun v8 μ5 => lt (x3 &&& (v8 ^^^ (-1 : Int64))) (fun v9 => lt (x5 + (1 : Int32)) (fun v10 => f_X0_countPieces_7 n v3 v9 v10 μ5))))))
def F_X0_countPieces (a0 : Int64) (μ : Mem) : Out := f_X0_countPieces_7 BIG (0 : Int32) a0 (0 : Int32) μ
def Γ_X0_countPieces : Gam := fun as μ r μ' => ∃ (a0 : Int64), as = [.long a0] ∧ F_X0_countPieces a0 μ = some (r, μ')
def mX0_countPieces : MI := (cX0_countPieces, [(41, (0, 1, 0, 0, Γ_X0_firstPiece))], [], [], [(28, -1)], [], [], (29, none), (some .int))
set_option maxHeartbeats 4000000 in
theorem g_X0_countPieces_7 {r : Res} {μ' : Mem} : ∀ n : Nat, ∀ (x2 : Int32) (x3 : Int64) (x5 : Int32), ∀ (μ : Mem) (b : Nat), rc r 0 ≤ b → f_X0_countPieces_7 n x2 x3 x5 μ = some (r, μ') → G mX0_countPieces (Qe r μ') 7 [none, none, some (.int x2), some (.long x3), none, some (.int x5)] [] μ b := by
  intro n
  induction n with
  | zero => intro x2 x3 x5 μ b hb9 h; exact nomatch (show (none : Out) = some _ from h)
  | succ n ih =>
    intro x2 x3 x5 μ b hb9 h
    rw [f_X0_countPieces_7.eq_2] at h
    refine e_iload dX0_countPieces_7 rfl ?_
    refine e_bipush dX0_countPieces_9 cb_48 ?_
    refine e_ic_ge (tgt := 40) dX0_countPieces_11 rfl (fun hc1 => ?_) (fun hc1 => ?_)
    · rw [if_pos hc1] at h
      refine e_iload_n dX0_countPieces_40 rfl ?_
      exact e_iret .int dX0_countPieces_41 rfl rfl (ret_eq h)
    · rw [if_neg hc1] at h
      refine e_lload_n dX0_countPieces_14 rfl ?_
      refine e_lconst (v := (0 : Int64)) dX0_countPieces_15 rfl ?_
      refine e_lcmp dX0_countPieces_16 ?_
      refine e_if_eq (tgt := 40) dX0_countPieces_17 rfl (fun hc2 => ?_) (fun hc2 => ?_)
      · rw [if_pos hc2] at h
        refine e_iload_n dX0_countPieces_40 rfl ?_
        exact e_iret .int dX0_countPieces_41 rfl rfl (ret_eq h)
      · rw [if_neg hc2] at h
        refine e_iincN 2 (1 : Int32) dX0_countPieces_20 rfl ci_1 h (fun y9 => [none, none, some (.int y9), some (.long x3), none, some (.int x5)]) (fun _ => rfl) (fun v3 ev3 h => ?_)
        refine e_lload_n dX0_countPieces_23 rfl ?_
        refine e_lload_n dX0_countPieces_24 rfl ?_
        refine cJ_go h (fun E6 hc4 hr7 => e_SX [.long x3] [.long x3] dX0_countPieces_25 rfl (by decide) rfl rfl (Nat.le_of_ble_eq_true rfl) (hbr hr7 hb9 (Nat.le_of_ble_eq_true rfl)) ⟨x3, rfl, hc4⟩ rfl ⟨hr7.symm, rfl⟩) (fun v8 μ5 hc4 h => ?_)
        refine e_SJ [.long x3] [.long x3] dX0_countPieces_25 rfl (by decide) rfl rfl (Nat.le_of_ble_eq_true rfl) ⟨x3, rfl, hc4⟩ ?_
        refine e_ldc2 (v := (-1 : Int64)) dX0_countPieces_28 rfl ?_
        refine e_lxor dX0_countPieces_31 ?_
        refine e_land dX0_countPieces_32 ?_
        refine e_naJ h (fun v9 ev9 h => ?_)
        refine e_lstore_nL [none, none, some (.int v3), some (.long v9), none, some (.int x5)] dX0_countPieces_33 (Nat.le_of_ble_eq_true rfl) rfl ?_
        refine e_iincN 5 (1 : Int32) dX0_countPieces_34 rfl ci_1 h (fun y9 => [none, none, some (.int v3), some (.long v9), none, some (.int y9)]) (fun _ => rfl) (fun v10 ev10 h => ?_)
        refine e_goto (tgt := 7) dX0_countPieces_37 rfl ?_
        exact e_le (ih v3 v9 v10 μ5 _ hb9 h) ⟨rfl, rfl, rfl, trivial⟩
set_option maxHeartbeats 4000000 in
theorem b_X0_countPieces : ∀ as μ r μ', Γ_X0_countPieces as μ r μ' → (elvL as).length ≤ 6 ∧ G mX0_countPieces (Qe r μ') 0 (elv as 6) [] μ (rc r 0) := by
  intro as μ r μ' h
  obtain ⟨a0, rfl, h⟩ := h
  refine ⟨Nat.le_of_ble_eq_true rfl, ?_⟩
  show G mX0_countPieces (Qe r μ') 0 [some (.long a0), none, none, none, none, none] [] μ (rc r 0)
  unfold F_X0_countPieces at h
  have hb9 : rc r 0 ≤ rc r 0 := Nat.le_refl _
  refine e_iconst dX0_countPieces_0 ci_0 ?_
  refine e_istore_nL [some (.long a0), none, some (.int (0 : Int32)), none, none, none] dX0_countPieces_1 (Nat.le_of_ble_eq_true rfl) rfl ?_
  refine e_lload_n dX0_countPieces_2 rfl ?_
  refine e_lstore_nL [some (.long a0), none, some (.int (0 : Int32)), some (.long a0), none, none] dX0_countPieces_3 (Nat.le_of_ble_eq_true rfl) rfl ?_
  refine e_iconst dX0_countPieces_4 ci_0 ?_
  refine e_istoreL [some (.long a0), none, some (.int (0 : Int32)), some (.long a0), none, some (.int (0 : Int32))] dX0_countPieces_5 (Nat.le_of_ble_eq_true rfl) rfl ?_
  exact e_le (g_X0_countPieces_7 BIG (0 : Int32) a0 (0 : Int32) μ _ hb9 h) ⟨rfl, rfl, rfl, trivial⟩
set_option maxRecDepth 20000 in
theorem ok_X0_countPieces (l : Launch) (hl : l.stackTraces = false) : MOK l yX0_countPieces.cls 2 26 mX0_countPieces := ⟨lk_all (List.forall_mem_cons.mpr ⟨⟨yX0_firstPiece, cX0_firstPiece, 7, (some .long), 1, 0, by decide, by decide, t_1 9 rfl rfl, hd_X0_firstPiece, Or.inl ⟨rfl, sc_X0_firstPiece l hl, t_1 212 rfl rfl, t_1 210 rfl rfl, t_1 211 rfl rfl⟩⟩, nil_all⟩), fun ix ci j h => lk_all (P := fun ix q => FldOK yX0_countPieces.cls ix q.1 q.2) (nil_all) ix (ci, j) h, lk_all (nil_all), lk_all (List.forall_mem_cons.mpr ⟨t_1 213 rfl rfl, nil_all⟩), lk_all (nil_all)⟩
theorem hd_X0_countPieces : CallHd yX0_countPieces 1 := ⟨by decide +kernel, by decide +kernel, by decide +kernel⟩
theorem sc_X0_countPieces (l : Launch) (hl : l.stackTraces = false) : SCon l yX0_countPieces cX0_countPieces 6 (some .int) 2 26 0 Γ_X0_countPieces := scon_of mX0_countPieces cls_ok hl (by decide +kernel) rfl rfl (ok_X0_countPieces l hl) rfl rfl b_X0_countPieces
def F_X0_rowMask (a0 : Int32) (μ : Mem) : Out := rJ (shlL (63 : Int64) ((8 : Int32) * a0)) μ
def Γ_X0_rowMask : Gam := fun as μ r μ' => ∃ (a0 : Int32), as = [.int a0] ∧ F_X0_rowMask a0 μ = some (r, μ')
def mX0_rowMask : MI := (cX0_rowMask, [], [], [], [(11, 63)], [], [], (29, none), (some .long))
set_option maxHeartbeats 4000000 in
theorem b_X0_rowMask : ∀ as μ r μ', Γ_X0_rowMask as μ r μ' → (elvL as).length ≤ 1 ∧ G mX0_rowMask (Qe r μ') 0 (elv as 1) [] μ (rc r 0) := by
  intro as μ r μ' h
  obtain ⟨a0, rfl, h⟩ := h
  refine ⟨Nat.le_of_ble_eq_true rfl, ?_⟩
  show G mX0_rowMask (Qe r μ') 0 [some (.int a0)] [] μ (rc r 0)
  unfold F_X0_rowMask at h
  have hb9 : rc r 0 ≤ rc r 0 := Nat.le_refl _
  refine e_ldc2 (v := (63 : Int64)) dX0_rowMask_0 rfl ?_
  refine e_bipush dX0_rowMask_3 cb_8 ?_
  refine e_iload_n dX0_rowMask_5 rfl ?_
  refine e_imul dX0_rowMask_6 ?_
  refine e_lshl dX0_rowMask_7 ?_
  exact e_lret dX0_rowMask_8 rfl (ret_eq h)
set_option maxRecDepth 20000 in
theorem ok_X0_rowMask (l : Launch) (hl : l.stackTraces = false) : MOK l yX0_rowMask.cls 1 0 mX0_rowMask := ⟨lk_all (nil_all), fun ix ci j h => lk_all (P := fun ix q => FldOK yX0_rowMask.cls ix q.1 q.2) (nil_all) ix (ci, j) h, lk_all (nil_all), lk_all (List.forall_mem_cons.mpr ⟨t_1 194 rfl rfl, nil_all⟩), lk_all (nil_all)⟩
theorem hd_X0_rowMask : CallHd yX0_rowMask 1 := ⟨by decide +kernel, by decide +kernel, by decide +kernel⟩
theorem sc_X0_rowMask (l : Launch) (hl : l.stackTraces = false) : SCon l yX0_rowMask cX0_rowMask 1 (some .long) 1 0 0 Γ_X0_rowMask := scon_of mX0_rowMask cls_ok hl (by decide +kernel) rfl rfl (ok_X0_rowMask l hl) rfl rfl b_X0_rowMask
def f_X0_countRowsOf_4 : Nat → Int64 → Int32 → Int32 → Mem → Out
  | 0, _, _, _, _ => none
  | n + 1, x0, x2, x3, μ => if (6 : Int32) ≤ x3 then (rI x2 μ) else (cJ (F_X0_rowMask x3 μ) (fun v6 μ3 => if (lg_cmp (x0 &&& v6) (0 : Int64)) = 0 then (cI (F_X7_oneIf (0 : Int32) μ3) (fun v12 μ9 => lt (x2 + v12) (fun v13 => lt (x3 + (1 : Int32)) (fun v14 => f_X0_countRowsOf_4 n x0 v13 v14 μ9)))) else (cI (F_X7_oneIf (1 : Int32) μ3) (fun v19 μ16 => lt (x2 + v19) (fun v20 => lt (x3 + (1 : Int32)) (fun v21 => f_X0_countRowsOf_4 n x0 v20 v21 μ16))))))
def F_X0_countRowsOf (a0 : Int64) (μ : Mem) : Out := f_X0_countRowsOf_4 BIG a0 (0 : Int32) (0 : Int32) μ
def Γ_X0_countRowsOf : Gam := fun as μ r μ' => ∃ (a0 : Int64), as = [.long a0] ∧ F_X0_countRowsOf a0 μ = some (r, μ')
def mX0_countRowsOf : MI := (cX0_countRowsOf, [(30, (0, 1, 0, 0, Γ_X0_rowMask)), (34, (2, 1, 0, 0, Γ_X7_oneIf))], [], [], [], [], [], (29, none), (some .int))
set_option maxHeartbeats 4000000 in
theorem g_X0_countRowsOf_4 {r : Res} {μ' : Mem} : ∀ n : Nat, ∀ (x0 : Int64) (x2 : Int32) (x3 : Int32), ∀ (μ : Mem) (b : Nat), rc r 0 ≤ b → f_X0_countRowsOf_4 n x0 x2 x3 μ = some (r, μ') → G mX0_countRowsOf (Qe r μ') 4 [some (.long x0), none, some (.int x2), some (.int x3)] [] μ b := by
  intro n
  induction n with
  | zero => intro x0 x2 x3 μ b hb9 h; exact nomatch (show (none : Out) = some _ from h)
  | succ n ih =>
    intro x0 x2 x3 μ b hb9 h
    rw [f_X0_countRowsOf_4.eq_2] at h
    refine e_iload_n dX0_countRowsOf_4 rfl ?_
    refine e_bipush dX0_countRowsOf_5 cb_6 ?_
    refine e_ic_ge (tgt := 38) dX0_countRowsOf_7 rfl (fun hc1 => ?_) (fun hc1 => ?_)
    · rw [if_pos hc1] at h
      refine e_iload_n dX0_countRowsOf_38 rfl ?_
      exact e_iret .int dX0_countRowsOf_39 rfl rfl (ret_eq h)
    · rw [if_neg hc1] at h
      refine e_iload_n dX0_countRowsOf_10 rfl ?_
      refine e_lload_n dX0_countRowsOf_11 rfl ?_
      refine e_iload_n dX0_countRowsOf_12 rfl ?_
      refine cJ_go h (fun E4 hc2 hr5 => e_SX [.int x3] [.long x0, .int x2] dX0_countRowsOf_13 rfl (by decide) rfl rfl (Nat.le_of_ble_eq_true rfl) (hbr hr5 hb9 (Nat.le_of_ble_eq_true rfl)) ⟨x3, rfl, hc2⟩ rfl ⟨hr5.symm, rfl⟩) (fun v6 μ3 hc2 h => ?_)
      refine e_SJ [.int x3] [.long x0, .int x2] dX0_countRowsOf_13 rfl (by decide) rfl rfl (Nat.le_of_ble_eq_true rfl) ⟨x3, rfl, hc2⟩ ?_
      refine e_land dX0_countRowsOf_16 ?_
      refine e_lconst (v := (0 : Int64)) dX0_countRowsOf_17 rfl ?_
      refine e_lcmp dX0_countRowsOf_18 ?_
      refine e_if_eq (tgt := 26) dX0_countRowsOf_19 rfl (fun hc7 => ?_) (fun hc7 => ?_)
      · rw [if_pos hc7] at h
        refine e_iconst dX0_countRowsOf_26 ci_0 ?_
        refine cI_go h (fun E10 hc8 hr11 => e_SX [.int (0 : Int32)] [.int x2] dX0_countRowsOf_27 rfl (by decide) rfl rfl (Nat.le_of_ble_eq_true rfl) (hbr hr11 hb9 (Nat.le_of_ble_eq_true rfl)) ⟨(0 : Int32), rfl, hc8⟩ rfl ⟨hr11.symm, rfl⟩) (fun v12 μ9 hc8 h => ?_)
        refine e_SI [.int (0 : Int32)] [.int x2] dX0_countRowsOf_27 rfl (by decide) rfl rfl (Nat.le_of_ble_eq_true rfl) ⟨(0 : Int32), rfl, hc8⟩ ?_
        refine e_iadd dX0_countRowsOf_30 ?_
        refine e_naI h (fun v13 ev13 h => ?_)
        refine e_istore_nL [some (.long x0), none, some (.int v13), some (.int x3)] dX0_countRowsOf_31 (Nat.le_of_ble_eq_true rfl) rfl ?_
        refine e_iincN 3 (1 : Int32) dX0_countRowsOf_32 rfl ci_1 h (fun y9 => [some (.long x0), none, some (.int v13), some (.int y9)]) (fun _ => rfl) (fun v14 ev14 h => ?_)
        refine e_goto (tgt := 4) dX0_countRowsOf_35 rfl ?_
        exact e_le (ih x0 v13 v14 μ9 _ hb9 h) ⟨rfl, rfl, rfl, trivial⟩
      · rw [if_neg hc7] at h
        refine e_iconst dX0_countRowsOf_22 ci_1 ?_
        refine e_goto (tgt := 27) dX0_countRowsOf_23 rfl ?_
        refine cI_go h (fun E17 hc15 hr18 => e_SX [.int (1 : Int32)] [.int x2] dX0_countRowsOf_27 rfl (by decide) rfl rfl (Nat.le_of_ble_eq_true rfl) (hbr hr18 hb9 (Nat.le_of_ble_eq_true rfl)) ⟨(1 : Int32), rfl, hc15⟩ rfl ⟨hr18.symm, rfl⟩) (fun v19 μ16 hc15 h => ?_)
        refine e_SI [.int (1 : Int32)] [.int x2] dX0_countRowsOf_27 rfl (by decide) rfl rfl (Nat.le_of_ble_eq_true rfl) ⟨(1 : Int32), rfl, hc15⟩ ?_
        refine e_iadd dX0_countRowsOf_30 ?_
        refine e_naI h (fun v20 ev20 h => ?_)
        refine e_istore_nL [some (.long x0), none, some (.int v20), some (.int x3)] dX0_countRowsOf_31 (Nat.le_of_ble_eq_true rfl) rfl ?_
        refine e_iincN 3 (1 : Int32) dX0_countRowsOf_32 rfl ci_1 h (fun y9 => [some (.long x0), none, some (.int v20), some (.int y9)]) (fun _ => rfl) (fun v21 ev21 h => ?_)
        refine e_goto (tgt := 4) dX0_countRowsOf_35 rfl ?_
        exact e_le (ih x0 v20 v21 μ16 _ hb9 h) ⟨rfl, rfl, rfl, trivial⟩
set_option maxHeartbeats 4000000 in
theorem b_X0_countRowsOf : ∀ as μ r μ', Γ_X0_countRowsOf as μ r μ' → (elvL as).length ≤ 4 ∧ G mX0_countRowsOf (Qe r μ') 0 (elv as 4) [] μ (rc r 0) := by
  intro as μ r μ' h
  obtain ⟨a0, rfl, h⟩ := h
  refine ⟨Nat.le_of_ble_eq_true rfl, ?_⟩
  show G mX0_countRowsOf (Qe r μ') 0 [some (.long a0), none, none, none] [] μ (rc r 0)
  unfold F_X0_countRowsOf at h
  have hb9 : rc r 0 ≤ rc r 0 := Nat.le_refl _
  refine e_iconst dX0_countRowsOf_0 ci_0 ?_
  refine e_istore_nL [some (.long a0), none, some (.int (0 : Int32)), none] dX0_countRowsOf_1 (Nat.le_of_ble_eq_true rfl) rfl ?_
  refine e_iconst dX0_countRowsOf_2 ci_0 ?_
  refine e_istore_nL [some (.long a0), none, some (.int (0 : Int32)), some (.int (0 : Int32))] dX0_countRowsOf_3 (Nat.le_of_ble_eq_true rfl) rfl ?_
  exact e_le (g_X0_countRowsOf_4 BIG a0 (0 : Int32) (0 : Int32) μ _ hb9 h) ⟨rfl, rfl, rfl, trivial⟩
set_option maxRecDepth 20000 in
theorem ok_X0_countRowsOf (l : Launch) (hl : l.stackTraces = false) : MOK l yX0_countRowsOf.cls 2 20 mX0_countRowsOf := ⟨lk_all (List.forall_mem_cons.mpr ⟨⟨yX0_rowMask, cX0_rowMask, 1, (some .long), 1, 0, by decide, by decide, t_1 9 rfl rfl, hd_X0_rowMask, Or.inl ⟨rfl, sc_X0_rowMask l hl, t_1 193 rfl rfl, t_3 163 rfl rfl, t_1 192 rfl rfl⟩⟩, List.forall_mem_cons.mpr ⟨⟨yX7_oneIf, cX7_oneIf, 1, (some .int), 1, 0, by decide, by decide, t_1 1 rfl rfl, hd_X7_oneIf, Or.inr (Or.inr (Or.inl ⟨rfl, sc_X7_oneIf l hl, t_1 206 rfl rfl, List.mem_of_getElem? (i := 1) rfl, t_1 205 rfl rfl⟩))⟩, nil_all⟩⟩), fun ix ci j h => lk_all (P := fun ix q => FldOK yX0_countRowsOf.cls ix q.1 q.2) (nil_all) ix (ci, j) h, lk_all (nil_all), lk_all (nil_all), lk_all (nil_all)⟩
theorem hd_X0_countRowsOf : CallHd yX0_countRowsOf 1 := ⟨by decide +kernel, by decide +kernel, by decide +kernel⟩
theorem sc_X0_countRowsOf (l : Launch) (hl : l.stackTraces = false) : SCon l yX0_countRowsOf cX0_countRowsOf 4 (some .int) 2 20 0 Γ_X0_countRowsOf := scon_of mX0_countRowsOf cls_ok hl (by decide +kernel) rfl rfl (ok_X0_countRowsOf l hl) rfl rfl b_X0_countRowsOf
def F_X0_countRuns (a0 : Int64) (a1 : Int32) (μ : Mem) : Out := cI (F_J13_bitCount_95d88 (a0 &&& ((shlL a0 a1) ^^^ (-1 : Int64))) μ) (fun v5 μ2 => rI v5 μ2)
def Γ_X0_countRuns : Gam := fun as μ r μ' => ∃ (a0 : Int64) (a1 : Int32), as = [.long a0, .int a1] ∧ F_X0_countRuns a0 a1 μ = some (r, μ')
def mX0_countRuns : MI := (cX0_countRuns, [(22, (0, 1, 0, 0, Γ_J13_bitCount_95d88))], [], [], [(28, -1)], [], [], (29, none), (some .int))
set_option maxHeartbeats 4000000 in
theorem b_X0_countRuns : ∀ as μ r μ', Γ_X0_countRuns as μ r μ' → (elvL as).length ≤ 3 ∧ G mX0_countRuns (Qe r μ') 0 (elv as 3) [] μ (rc r 0) := by
  intro as μ r μ' h
  obtain ⟨a0, a1, rfl, h⟩ := h
  refine ⟨Nat.le_of_ble_eq_true rfl, ?_⟩
  show G mX0_countRuns (Qe r μ') 0 [some (.long a0), none, some (.int a1)] [] μ (rc r 0)
  unfold F_X0_countRuns at h
  have hb9 : rc r 0 ≤ rc r 0 := Nat.le_refl _
  refine e_lload_n dX0_countRuns_0 rfl ?_
  refine e_lload_n dX0_countRuns_1 rfl ?_
  refine e_iload_n dX0_countRuns_2 rfl ?_
  refine e_lshl dX0_countRuns_3 ?_
  refine e_ldc2 (v := (-1 : Int64)) dX0_countRuns_4 rfl ?_
  refine e_lxor dX0_countRuns_7 ?_
  refine e_land dX0_countRuns_8 ?_
  refine cI_go h (fun E3 hc1 hr4 => e_SX [.long (a0 &&& ((shlL a0 a1) ^^^ (-1 : Int64)))] [] dX0_countRuns_9 rfl (by decide) rfl rfl (Nat.le_of_ble_eq_true rfl) (hbr hr4 hb9 (Nat.le_of_ble_eq_true rfl)) ⟨a0 &&& ((shlL a0 a1) ^^^ (-1 : Int64)), rfl, hc1⟩ rfl ⟨hr4.symm, rfl⟩) (fun v5 μ2 hc1 h => ?_)
  refine e_SI [.long (a0 &&& ((shlL a0 a1) ^^^ (-1 : Int64)))] [] dX0_countRuns_9 rfl (by decide) rfl rfl (Nat.le_of_ble_eq_true rfl) ⟨a0 &&& ((shlL a0 a1) ^^^ (-1 : Int64)), rfl, hc1⟩ ?_
  exact e_iret .int dX0_countRuns_12 rfl rfl (ret_eq h)
set_option maxRecDepth 20000 in
theorem ok_X0_countRuns (l : Launch) (hl : l.stackTraces = false) : MOK l yX0_countRuns.cls 2 21 mX0_countRuns := ⟨lk_all (List.forall_mem_cons.mpr ⟨⟨yJ13_bitCount_95d88, cJ13_bitCount_95d88, 2, (some .int), 1, 0, by decide, by decide, t_1 7 rfl rfl, hd_J13_bitCount_95d88, Or.inl ⟨rfl, sc_J13_bitCount_95d88 l hl, t_1 155 rfl rfl, t_1 217 rfl rfl, t_1 154 rfl rfl⟩⟩, nil_all⟩), fun ix ci j h => lk_all (P := fun ix q => FldOK yX0_countRuns.cls ix q.1 q.2) (nil_all) ix (ci, j) h, lk_all (nil_all), lk_all (List.forall_mem_cons.mpr ⟨t_1 213 rfl rfl, nil_all⟩), lk_all (nil_all)⟩
theorem hd_X0_countRuns : CallHd yX0_countRuns 2 := ⟨by decide +kernel, by decide +kernel, by decide +kernel⟩
theorem sc_X0_countRuns (l : Launch) (hl : l.stackTraces = false) : SCon l yX0_countRuns cX0_countRuns 3 (some .int) 2 21 0 Γ_X0_countRuns := scon_of mX0_countRuns cls_ok hl (by decide +kernel) rfl rfl (ok_X0_countRuns l hl) rfl rfl b_X0_countRuns
def F_X0_firstPosition (a0 : Int64) (μ : Mem) : Out := cI (F_J13_bitCount_95d88 ((a0 &&& (-a0)) - (1 : Int64)) μ) (fun v5 μ2 => rI v5 μ2)
def Γ_X0_firstPosition : Gam := fun as μ r μ' => ∃ (a0 : Int64), as = [.long a0] ∧ F_X0_firstPosition a0 μ = some (r, μ')
def mX0_firstPosition : MI := (cX0_firstPosition, [(22, (0, 1, 0, 0, Γ_J13_bitCount_95d88))], [], [], [], [], [], (29, none), (some .int))
set_option maxHeartbeats 4000000 in
theorem b_X0_firstPosition : ∀ as μ r μ', Γ_X0_firstPosition as μ r μ' → (elvL as).length ≤ 2 ∧ G mX0_firstPosition (Qe r μ') 0 (elv as 2) [] μ (rc r 0) := by
  intro as μ r μ' h
  obtain ⟨a0, rfl, h⟩ := h
  refine ⟨Nat.le_of_ble_eq_true rfl, ?_⟩
  show G mX0_firstPosition (Qe r μ') 0 [some (.long a0), none] [] μ (rc r 0)
  unfold F_X0_firstPosition at h
  have hb9 : rc r 0 ≤ rc r 0 := Nat.le_refl _
  refine e_lload_n dX0_firstPosition_0 rfl ?_
  refine e_lload_n dX0_firstPosition_1 rfl ?_
  refine e_lneg dX0_firstPosition_2 ?_
  refine e_land dX0_firstPosition_3 ?_
  refine e_lconst (v := (1 : Int64)) dX0_firstPosition_4 rfl ?_
  refine e_lsub dX0_firstPosition_5 ?_
  refine cI_go h (fun E3 hc1 hr4 => e_SX [.long ((a0 &&& (-a0)) - (1 : Int64))] [] dX0_firstPosition_6 rfl (by decide) rfl rfl (Nat.le_of_ble_eq_true rfl) (hbr hr4 hb9 (Nat.le_of_ble_eq_true rfl)) ⟨(a0 &&& (-a0)) - (1 : Int64), rfl, hc1⟩ rfl ⟨hr4.symm, rfl⟩) (fun v5 μ2 hc1 h => ?_)
  refine e_SI [.long ((a0 &&& (-a0)) - (1 : Int64))] [] dX0_firstPosition_6 rfl (by decide) rfl rfl (Nat.le_of_ble_eq_true rfl) ⟨(a0 &&& (-a0)) - (1 : Int64), rfl, hc1⟩ ?_
  exact e_iret .int dX0_firstPosition_9 rfl rfl (ret_eq h)
set_option maxRecDepth 20000 in
theorem ok_X0_firstPosition (l : Launch) (hl : l.stackTraces = false) : MOK l yX0_firstPosition.cls 2 21 mX0_firstPosition := ⟨lk_all (List.forall_mem_cons.mpr ⟨⟨yJ13_bitCount_95d88, cJ13_bitCount_95d88, 2, (some .int), 1, 0, by decide, by decide, t_1 7 rfl rfl, hd_J13_bitCount_95d88, Or.inl ⟨rfl, sc_J13_bitCount_95d88 l hl, t_1 155 rfl rfl, t_1 217 rfl rfl, t_1 154 rfl rfl⟩⟩, nil_all⟩), fun ix ci j h => lk_all (P := fun ix q => FldOK yX0_firstPosition.cls ix q.1 q.2) (nil_all) ix (ci, j) h, lk_all (nil_all), lk_all (nil_all), lk_all (nil_all)⟩
theorem hd_X0_firstPosition : CallHd yX0_firstPosition 1 := ⟨by decide +kernel, by decide +kernel, by decide +kernel⟩
theorem sc_X0_firstPosition (l : Launch) (hl : l.stackTraces = false) : SCon l yX0_firstPosition cX0_firstPosition 2 (some .int) 2 21 0 Γ_X0_firstPosition := scon_of mX0_firstPosition cls_ok hl (by decide +kernel) rfl rfl (ok_X0_firstPosition l hl) rfl rfl b_X0_firstPosition
def f_X0_hull_5 : Nat → Int64 → Int32 → Mem → Out
  | 0, _, _, _ => none
  | n + 1, x2, x4, μ => if (48 : Int32) ≤ x4 then (rJ x2 μ) else (cJ (F_X0_between x2 (1 : Int32) μ) (fun v6 μ3 => cJ (F_X0_between v6 (8 : Int32) μ3) (fun v11 μ8 => if (lg_cmp v11 x2) = 0 then (rJ x2 μ8) else (lt (x4 + (1 : Int32)) (fun v13 => f_X0_hull_5 n v11 v13 μ8)))))
def F_X0_hull (a0 : Int64) (μ : Mem) : Out := f_X0_hull_5 BIG a0 (0 : Int32) μ
def Γ_X0_hull : Gam := fun as μ r μ' => ∃ (a0 : Int64), as = [.long a0] ∧ F_X0_hull a0 μ = some (r, μ')
def mX0_hull : MI := (cX0_hull, [(45, (0, 2, 0, 0, Γ_X0_between))], [], [], [], [], [], (29, none), (some .long))
set_option maxHeartbeats 4000000 in
theorem g_X0_hull_5 {r : Res} {μ' : Mem} : ∀ n : Nat, ∀ (x2 : Int64) (x4 : Int32), ∀ (μ : Mem) (b : Nat), rc r 0 ≤ b → f_X0_hull_5 n x2 x4 μ = some (r, μ') → G mX0_hull (Qe r μ') 5 [none, none, some (.long x2), none, some (.int x4), none, none] [] μ b := by
  intro n
  induction n with
  | zero => intro x2 x4 μ b hb9 h; exact nomatch (show (none : Out) = some _ from h)
  | succ n ih =>
    intro x2 x4 μ b hb9 h
    rw [f_X0_hull_5.eq_2] at h
    refine e_iload dX0_hull_5 rfl ?_
    refine e_bipush dX0_hull_7 cb_48 ?_
    refine e_ic_ge (tgt := 43) dX0_hull_9 rfl (fun hc1 => ?_) (fun hc1 => ?_)
    · rw [if_pos hc1] at h
      refine e_lload_n dX0_hull_43 rfl ?_
      exact e_lret dX0_hull_44 rfl (ret_eq h)
    · rw [if_neg hc1] at h
      refine e_lload_n dX0_hull_12 rfl ?_
      refine e_iconst dX0_hull_13 ci_1 ?_
      refine cJ_go h (fun E4 hc2 hr5 => e_SX [.long x2, .int (1 : Int32)] [] dX0_hull_14 rfl (by decide) rfl rfl (Nat.le_of_ble_eq_true rfl) (hbr hr5 hb9 (Nat.le_of_ble_eq_true rfl)) ⟨x2, (1 : Int32), rfl, hc2⟩ rfl ⟨hr5.symm, rfl⟩) (fun v6 μ3 hc2 h => ?_)
      refine e_SJ [.long x2, .int (1 : Int32)] [] dX0_hull_14 rfl (by decide) rfl rfl (Nat.le_of_ble_eq_true rfl) ⟨x2, (1 : Int32), rfl, hc2⟩ ?_
      refine e_bipush dX0_hull_17 cb_8 ?_
      refine cJ_go h (fun E9 hc7 hr10 => e_SX [.long v6, .int (8 : Int32)] [] dX0_hull_19 rfl (by decide) rfl rfl (Nat.le_of_ble_eq_true rfl) (hbr hr10 hb9 (Nat.le_of_ble_eq_true rfl)) ⟨v6, (8 : Int32), rfl, hc7⟩ rfl ⟨hr10.symm, rfl⟩) (fun v11 μ8 hc7 h => ?_)
      refine e_SJ [.long v6, .int (8 : Int32)] [] dX0_hull_19 rfl (by decide) rfl rfl (Nat.le_of_ble_eq_true rfl) ⟨v6, (8 : Int32), rfl, hc7⟩ ?_
      refine e_lstoreL [none, none, some (.long x2), none, some (.int x4), some (.long v11), none] dX0_hull_22 (Nat.le_of_ble_eq_true rfl) rfl ?_
      refine e_lload dX0_hull_24 rfl ?_
      refine e_lload_n dX0_hull_26 rfl ?_
      refine e_lcmp dX0_hull_27 ?_
      refine e_if_ne (tgt := 34) dX0_hull_28 rfl (fun hc12 => ?_) (fun hc12 => ?_)
      · rw [if_neg hc12] at h
        refine e_lload dX0_hull_34 rfl ?_
        refine e_lstore_nL [none, none, some (.long v11), none, some (.int x4), some (.long v11), none] dX0_hull_36 (Nat.le_of_ble_eq_true rfl) rfl ?_
        refine e_iincN 4 (1 : Int32) dX0_hull_37 rfl ci_1 h (fun y9 => [none, none, some (.long v11), none, some (.int y9), some (.long v11), none]) (fun _ => rfl) (fun v13 ev13 h => ?_)
        refine e_goto (tgt := 5) dX0_hull_40 rfl ?_
        exact e_le (ih v11 v13 μ8 _ hb9 h) ⟨rfl, rfl, trivial⟩
      · rw [if_pos hc12] at h
        refine e_goto (tgt := 43) dX0_hull_31 rfl ?_
        refine e_lload_n dX0_hull_43 rfl ?_
        exact e_lret dX0_hull_44 rfl (ret_eq h)
set_option maxHeartbeats 4000000 in
theorem b_X0_hull : ∀ as μ r μ', Γ_X0_hull as μ r μ' → (elvL as).length ≤ 7 ∧ G mX0_hull (Qe r μ') 0 (elv as 7) [] μ (rc r 0) := by
  intro as μ r μ' h
  obtain ⟨a0, rfl, h⟩ := h
  refine ⟨Nat.le_of_ble_eq_true rfl, ?_⟩
  show G mX0_hull (Qe r μ') 0 [some (.long a0), none, none, none, none, none, none] [] μ (rc r 0)
  unfold F_X0_hull at h
  have hb9 : rc r 0 ≤ rc r 0 := Nat.le_refl _
  refine e_lload_n dX0_hull_0 rfl ?_
  refine e_lstore_nL [some (.long a0), none, some (.long a0), none, none, none, none] dX0_hull_1 (Nat.le_of_ble_eq_true rfl) rfl ?_
  refine e_iconst dX0_hull_2 ci_0 ?_
  refine e_istoreL [some (.long a0), none, some (.long a0), none, some (.int (0 : Int32)), none, none] dX0_hull_3 (Nat.le_of_ble_eq_true rfl) rfl ?_
  exact e_le (g_X0_hull_5 BIG a0 (0 : Int32) μ _ hb9 h) ⟨rfl, rfl, trivial⟩
set_option maxRecDepth 20000 in
theorem ok_X0_hull (l : Launch) (hl : l.stackTraces = false) : MOK l yX0_hull.cls 3 48 mX0_hull := ⟨lk_all (List.forall_mem_cons.mpr ⟨⟨yX0_between, cX0_between, 8, (some .long), 2, 21, by decide, by decide, t_1 9 rfl rfl, hd_X0_between, Or.inl ⟨rfl, sc_X0_between l hl, t_1 223 rfl rfl, t_1 221 rfl rfl, t_1 222 rfl rfl⟩⟩, nil_all⟩), fun ix ci j h => lk_all (P := fun ix q => FldOK yX0_hull.cls ix q.1 q.2) (nil_all) ix (ci, j) h, lk_all (nil_all), lk_all (nil_all), lk_all (nil_all)⟩
theorem hd_X0_hull : CallHd yX0_hull 1 := ⟨by decide +kernel, by decide +kernel, by decide +kernel⟩
theorem sc_X0_hull (l : Launch) (hl : l.stackTraces = false) : SCon l yX0_hull cX0_hull 7 (some .long) 3 48 0 Γ_X0_hull := scon_of mX0_hull cls_ok hl (by decide +kernel) rfl rfl (ok_X0_hull l hl) rfl rfl b_X0_hull
def F_X0_inRow (a0 : Int64) (a1 : Int32) (μ : Mem) : Out := rI ((Int64.toInt32 (ushrL a0 ((8 : Int32) * a1))) &&& (63 : Int32)) μ
def Γ_X0_inRow : Gam := fun as μ r μ' => ∃ (a0 : Int64) (a1 : Int32), as = [.long a0, .int a1] ∧ F_X0_inRow a0 a1 μ = some (r, μ')
def mX0_inRow : MI := (cX0_inRow, [], [], [], [], [], [], (29, none), (some .int))
set_option maxHeartbeats 4000000 in
theorem b_X0_inRow : ∀ as μ r μ', Γ_X0_inRow as μ r μ' → (elvL as).length ≤ 3 ∧ G mX0_inRow (Qe r μ') 0 (elv as 3) [] μ (rc r 0) := by
  intro as μ r μ' h
  obtain ⟨a0, a1, rfl, h⟩ := h
  refine ⟨Nat.le_of_ble_eq_true rfl, ?_⟩
  show G mX0_inRow (Qe r μ') 0 [some (.long a0), none, some (.int a1)] [] μ (rc r 0)
  unfold F_X0_inRow at h
  have hb9 : rc r 0 ≤ rc r 0 := Nat.le_refl _
  refine e_lload_n dX0_inRow_0 rfl ?_
  refine e_bipush dX0_inRow_1 cb_8 ?_
  refine e_iload_n dX0_inRow_3 rfl ?_
  refine e_imul dX0_inRow_4 ?_
  refine e_lushr dX0_inRow_5 ?_
  refine e_l2i dX0_inRow_6 ?_
  refine e_bipush dX0_inRow_7 cb_63 ?_
  refine e_iand dX0_inRow_9 ?_
  exact e_iret .int dX0_inRow_10 rfl rfl (ret_eq h)
set_option maxRecDepth 20000 in
theorem ok_X0_inRow (l : Launch) (hl : l.stackTraces = false) : MOK l yX0_inRow.cls 1 0 mX0_inRow := ⟨lk_all (nil_all), fun ix ci j h => lk_all (P := fun ix q => FldOK yX0_inRow.cls ix q.1 q.2) (nil_all) ix (ci, j) h, lk_all (nil_all), lk_all (nil_all), lk_all (nil_all)⟩
theorem hd_X0_inRow : CallHd yX0_inRow 2 := ⟨by decide +kernel, by decide +kernel, by decide +kernel⟩
theorem sc_X0_inRow (l : Launch) (hl : l.stackTraces = false) : SCon l yX0_inRow cX0_inRow 3 (some .int) 1 0 0 Γ_X0_inRow := scon_of mX0_inRow cls_ok hl (by decide +kernel) rfl rfl (ok_X0_inRow l hl) rfl rfl b_X0_inRow
def f_X0_longestRun_8 : Nat → Int32 → Int32 → Int64 → Int32 → Mem → Out
  | 0, _, _, _, _, _ => none
  | n + 1, x2, x3, x4, x6, μ => if (6 : Int32) ≤ x6 then (rI x3 μ) else (if (lg_cmp x4 (0 : Int64)) = 0 then (rI x3 μ) else (lt (x3 + (1 : Int32)) (fun v3 => lt (x4 &&& (shlL x4 x2)) (fun v4 => lt (x6 + (1 : Int32)) (fun v5 => f_X0_longestRun_8 n x2 v3 v4 v5 μ)))))
def F_X0_longestRun (a0 : Int64) (a1 : Int32) (μ : Mem) : Out := f_X0_longestRun_8 BIG a1 (0 : Int32) a0 (0 : Int32) μ
def Γ_X0_longestRun : Gam := fun as μ r μ' => ∃ (a0 : Int64) (a1 : Int32), as = [.long a0, .int a1] ∧ F_X0_longestRun a0 a1 μ = some (r, μ')
def mX0_longestRun : MI := (cX0_longestRun, [], [], [], [], [], [], (29, none), (some .int))
set_option maxHeartbeats 4000000 in
theorem g_X0_longestRun_8 {r : Res} {μ' : Mem} : ∀ n : Nat, ∀ (x2 : Int32) (x3 : Int32) (x4 : Int64) (x6 : Int32), ∀ (μ : Mem) (b : Nat), rc r 0 ≤ b → f_X0_longestRun_8 n x2 x3 x4 x6 μ = some (r, μ') → G mX0_longestRun (Qe r μ') 8 [none, none, some (.int x2), some (.int x3), some (.long x4), none, some (.int x6)] [] μ b := by
  intro n
  induction n with
  | zero => intro x2 x3 x4 x6 μ b hb9 h; exact nomatch (show (none : Out) = some _ from h)
  | succ n ih =>
    intro x2 x3 x4 x6 μ b hb9 h
    rw [f_X0_longestRun_8.eq_2] at h
    refine e_iload dX0_longestRun_8 rfl ?_
    refine e_bipush dX0_longestRun_10 cb_6 ?_
    refine e_ic_ge (tgt := 40) dX0_longestRun_12 rfl (fun hc1 => ?_) (fun hc1 => ?_)
    · rw [if_pos hc1] at h
      refine e_iload_n dX0_longestRun_40 rfl ?_
      exact e_iret .int dX0_longestRun_41 rfl rfl (ret_eq h)
    · rw [if_neg hc1] at h
      refine e_lload dX0_longestRun_15 rfl ?_
      refine e_lconst (v := (0 : Int64)) dX0_longestRun_17 rfl ?_
      refine e_lcmp dX0_longestRun_18 ?_
      refine e_if_eq (tgt := 40) dX0_longestRun_19 rfl (fun hc2 => ?_) (fun hc2 => ?_)
      · rw [if_pos hc2] at h
        refine e_iload_n dX0_longestRun_40 rfl ?_
        exact e_iret .int dX0_longestRun_41 rfl rfl (ret_eq h)
      · rw [if_neg hc2] at h
        refine e_iincN 3 (1 : Int32) dX0_longestRun_22 rfl ci_1 h (fun y9 => [none, none, some (.int x2), some (.int y9), some (.long x4), none, some (.int x6)]) (fun _ => rfl) (fun v3 ev3 h => ?_)
        refine e_lload dX0_longestRun_25 rfl ?_
        refine e_lload dX0_longestRun_27 rfl ?_
        refine e_iload_n dX0_longestRun_29 rfl ?_
        refine e_lshl dX0_longestRun_30 ?_
        refine e_land dX0_longestRun_31 ?_
        refine e_naJ h (fun v4 ev4 h => ?_)
        refine e_lstoreL [none, none, some (.int x2), some (.int v3), some (.long v4), none, some (.int x6)] dX0_longestRun_32 (Nat.le_of_ble_eq_true rfl) rfl ?_
        refine e_iincN 6 (1 : Int32) dX0_longestRun_34 rfl ci_1 h (fun y9 => [none, none, some (.int x2), some (.int v3), some (.long v4), none, some (.int y9)]) (fun _ => rfl) (fun v5 ev5 h => ?_)
        refine e_goto (tgt := 8) dX0_longestRun_37 rfl ?_
        exact e_le (ih x2 v3 v4 v5 μ _ hb9 h) ⟨rfl, rfl, rfl, rfl, trivial⟩
set_option maxHeartbeats 4000000 in
theorem b_X0_longestRun : ∀ as μ r μ', Γ_X0_longestRun as μ r μ' → (elvL as).length ≤ 7 ∧ G mX0_longestRun (Qe r μ') 0 (elv as 7) [] μ (rc r 0) := by
  intro as μ r μ' h
  obtain ⟨a0, a1, rfl, h⟩ := h
  refine ⟨Nat.le_of_ble_eq_true rfl, ?_⟩
  show G mX0_longestRun (Qe r μ') 0 [some (.long a0), none, some (.int a1), none, none, none, none] [] μ (rc r 0)
  unfold F_X0_longestRun at h
  have hb9 : rc r 0 ≤ rc r 0 := Nat.le_refl _
  refine e_iconst dX0_longestRun_0 ci_0 ?_
  refine e_istore_nL [some (.long a0), none, some (.int a1), some (.int (0 : Int32)), none, none, none] dX0_longestRun_1 (Nat.le_of_ble_eq_true rfl) rfl ?_
  refine e_lload_n dX0_longestRun_2 rfl ?_
  refine e_lstoreL [some (.long a0), none, some (.int a1), some (.int (0 : Int32)), some (.long a0), none, none] dX0_longestRun_3 (Nat.le_of_ble_eq_true rfl) rfl ?_
  refine e_iconst dX0_longestRun_5 ci_0 ?_
  refine e_istoreL [some (.long a0), none, some (.int a1), some (.int (0 : Int32)), some (.long a0), none, some (.int (0 : Int32))] dX0_longestRun_6 (Nat.le_of_ble_eq_true rfl) rfl ?_
  exact e_le (g_X0_longestRun_8 BIG a1 (0 : Int32) a0 (0 : Int32) μ _ hb9 h) ⟨rfl, rfl, rfl, rfl, trivial⟩
set_option maxRecDepth 20000 in
theorem ok_X0_longestRun (l : Launch) (hl : l.stackTraces = false) : MOK l yX0_longestRun.cls 1 0 mX0_longestRun := ⟨lk_all (nil_all), fun ix ci j h => lk_all (P := fun ix q => FldOK yX0_longestRun.cls ix q.1 q.2) (nil_all) ix (ci, j) h, lk_all (nil_all), lk_all (nil_all), lk_all (nil_all)⟩
theorem hd_X0_longestRun : CallHd yX0_longestRun 2 := ⟨by decide +kernel, by decide +kernel, by decide +kernel⟩
theorem sc_X0_longestRun (l : Launch) (hl : l.stackTraces = false) : SCon l yX0_longestRun cX0_longestRun 7 (some .int) 1 0 0 Γ_X0_longestRun := scon_of mX0_longestRun cls_ok hl (by decide +kernel) rfl rfl (ok_X0_longestRun l hl) rfl rfl b_X0_longestRun
def F_X0_outline (a0 : Int64) (a1 : Int64) (μ : Mem) : Out := cI (F_J13_bitCount_95d88 (a0 &&& ((shlL a1 (1 : Int32)) ^^^ (-1 : Int64))) μ) (fun v5 μ2 => cI (F_J13_bitCount_95d88 (a0 &&& ((ushrL a1 (1 : Int32)) ^^^ (-1 : Int64))) μ2) (fun v10 μ7 => cI (F_J13_bitCount_95d88 (a0 &&& ((shlL a1 (8 : Int32)) ^^^ (-1 : Int64))) μ7) (fun v15 μ12 => cI (F_J13_bitCount_95d88 (a0 &&& ((ushrL a1 (8 : Int32)) ^^^ (-1 : Int64))) μ12) (fun v20 μ17 => rI (((v5 + v10) + v15) + v20) μ17))))
def Γ_X0_outline : Gam := fun as μ r μ' => ∃ (a0 : Int64) (a1 : Int64), as = [.long a0, .long a1] ∧ F_X0_outline a0 a1 μ = some (r, μ')
def mX0_outline : MI := (cX0_outline, [(22, (0, 1, 0, 0, Γ_J13_bitCount_95d88))], [], [], [(28, -1)], [], [], (29, none), (some .int))
set_option maxHeartbeats 4000000 in
theorem b_X0_outline : ∀ as μ r μ', Γ_X0_outline as μ r μ' → (elvL as).length ≤ 4 ∧ G mX0_outline (Qe r μ') 0 (elv as 4) [] μ (rc r 0) := by
  intro as μ r μ' h
  obtain ⟨a0, a1, rfl, h⟩ := h
  refine ⟨Nat.le_of_ble_eq_true rfl, ?_⟩
  show G mX0_outline (Qe r μ') 0 [some (.long a0), none, some (.long a1), none] [] μ (rc r 0)
  unfold F_X0_outline at h
  have hb9 : rc r 0 ≤ rc r 0 := Nat.le_refl _
  refine e_lload_n dX0_outline_0 rfl ?_
  refine e_lload_n dX0_outline_1 rfl ?_
  refine e_iconst dX0_outline_2 ci_1 ?_
  refine e_lshl dX0_outline_3 ?_
  refine e_ldc2 (v := (-1 : Int64)) dX0_outline_4 rfl ?_
  refine e_lxor dX0_outline_7 ?_
  refine e_land dX0_outline_8 ?_
  refine cI_go h (fun E3 hc1 hr4 => e_SX [.long (a0 &&& ((shlL a1 (1 : Int32)) ^^^ (-1 : Int64)))] [] dX0_outline_9 rfl (by decide) rfl rfl (Nat.le_of_ble_eq_true rfl) (hbr hr4 hb9 (Nat.le_of_ble_eq_true rfl)) ⟨a0 &&& ((shlL a1 (1 : Int32)) ^^^ (-1 : Int64)), rfl, hc1⟩ rfl ⟨hr4.symm, rfl⟩) (fun v5 μ2 hc1 h => ?_)
  refine e_SI [.long (a0 &&& ((shlL a1 (1 : Int32)) ^^^ (-1 : Int64)))] [] dX0_outline_9 rfl (by decide) rfl rfl (Nat.le_of_ble_eq_true rfl) ⟨a0 &&& ((shlL a1 (1 : Int32)) ^^^ (-1 : Int64)), rfl, hc1⟩ ?_
  refine e_lload_n dX0_outline_12 rfl ?_
  refine e_lload_n dX0_outline_13 rfl ?_
  refine e_iconst dX0_outline_14 ci_1 ?_
  refine e_lushr dX0_outline_15 ?_
  refine e_ldc2 (v := (-1 : Int64)) dX0_outline_16 rfl ?_
  refine e_lxor dX0_outline_19 ?_
  refine e_land dX0_outline_20 ?_
  refine cI_go h (fun E8 hc6 hr9 => e_SX [.long (a0 &&& ((ushrL a1 (1 : Int32)) ^^^ (-1 : Int64)))] [.int v5] dX0_outline_21 rfl (by decide) rfl rfl (Nat.le_of_ble_eq_true rfl) (hbr hr9 hb9 (Nat.le_of_ble_eq_true rfl)) ⟨a0 &&& ((ushrL a1 (1 : Int32)) ^^^ (-1 : Int64)), rfl, hc6⟩ rfl ⟨hr9.symm, rfl⟩) (fun v10 μ7 hc6 h => ?_)
  refine e_SI [.long (a0 &&& ((ushrL a1 (1 : Int32)) ^^^ (-1 : Int64)))] [.int v5] dX0_outline_21 rfl (by decide) rfl rfl (Nat.le_of_ble_eq_true rfl) ⟨a0 &&& ((ushrL a1 (1 : Int32)) ^^^ (-1 : Int64)), rfl, hc6⟩ ?_
  refine e_iadd dX0_outline_24 ?_
  refine e_lload_n dX0_outline_25 rfl ?_
  refine e_lload_n dX0_outline_26 rfl ?_
  refine e_bipush dX0_outline_27 cb_8 ?_
  refine e_lshl dX0_outline_29 ?_
  refine e_ldc2 (v := (-1 : Int64)) dX0_outline_30 rfl ?_
  refine e_lxor dX0_outline_33 ?_
  refine e_land dX0_outline_34 ?_
  refine cI_go h (fun E13 hc11 hr14 => e_SX [.long (a0 &&& ((shlL a1 (8 : Int32)) ^^^ (-1 : Int64)))] [.int (v5 + v10)] dX0_outline_35 rfl (by decide) rfl rfl (Nat.le_of_ble_eq_true rfl) (hbr hr14 hb9 (Nat.le_of_ble_eq_true rfl)) ⟨a0 &&& ((shlL a1 (8 : Int32)) ^^^ (-1 : Int64)), rfl, hc11⟩ rfl ⟨hr14.symm, rfl⟩) (fun v15 μ12 hc11 h => ?_)
  refine e_SI [.long (a0 &&& ((shlL a1 (8 : Int32)) ^^^ (-1 : Int64)))] [.int (v5 + v10)] dX0_outline_35 rfl (by decide) rfl rfl (Nat.le_of_ble_eq_true rfl) ⟨a0 &&& ((shlL a1 (8 : Int32)) ^^^ (-1 : Int64)), rfl, hc11⟩ ?_
  refine e_iadd dX0_outline_38 ?_
  refine e_lload_n dX0_outline_39 rfl ?_
  refine e_lload_n dX0_outline_40 rfl ?_
  refine e_bipush dX0_outline_41 cb_8 ?_
  refine e_lushr dX0_outline_43 ?_
  refine e_ldc2 (v := (-1 : Int64)) dX0_outline_44 rfl ?_
  refine e_lxor dX0_outline_47 ?_
  refine e_land dX0_outline_48 ?_
  refine cI_go h (fun E18 hc16 hr19 => e_SX [.long (a0 &&& ((ushrL a1 (8 : Int32)) ^^^ (-1 : Int64)))] [.int ((v5 + v10) + v15)] dX0_outline_49 rfl (by decide) rfl rfl (Nat.le_of_ble_eq_true rfl) (hbr hr19 hb9 (Nat.le_of_ble_eq_true rfl)) ⟨a0 &&& ((ushrL a1 (8 : Int32)) ^^^ (-1 : Int64)), rfl, hc16⟩ rfl ⟨hr19.symm, rfl⟩) (fun v20 μ17 hc16 h => ?_)
  refine e_SI [.long (a0 &&& ((ushrL a1 (8 : Int32)) ^^^ (-1 : Int64)))] [.int ((v5 + v10) + v15)] dX0_outline_49 rfl (by decide) rfl rfl (Nat.le_of_ble_eq_true rfl) ⟨a0 &&& ((ushrL a1 (8 : Int32)) ^^^ (-1 : Int64)), rfl, hc16⟩ ?_
  refine e_iadd dX0_outline_52 ?_
  exact e_iret .int dX0_outline_53 rfl rfl (ret_eq h)
set_option maxRecDepth 20000 in
theorem ok_X0_outline (l : Launch) (hl : l.stackTraces = false) : MOK l yX0_outline.cls 2 21 mX0_outline := ⟨lk_all (List.forall_mem_cons.mpr ⟨⟨yJ13_bitCount_95d88, cJ13_bitCount_95d88, 2, (some .int), 1, 0, by decide, by decide, t_1 7 rfl rfl, hd_J13_bitCount_95d88, Or.inl ⟨rfl, sc_J13_bitCount_95d88 l hl, t_1 155 rfl rfl, t_1 217 rfl rfl, t_1 154 rfl rfl⟩⟩, nil_all⟩), fun ix ci j h => lk_all (P := fun ix q => FldOK yX0_outline.cls ix q.1 q.2) (nil_all) ix (ci, j) h, lk_all (nil_all), lk_all (List.forall_mem_cons.mpr ⟨t_1 213 rfl rfl, nil_all⟩), lk_all (nil_all)⟩
theorem hd_X0_outline : CallHd yX0_outline 2 := ⟨by decide +kernel, by decide +kernel, by decide +kernel⟩
theorem sc_X0_outline (l : Launch) (hl : l.stackTraces = false) : SCon l yX0_outline cX0_outline 4 (some .int) 2 21 0 Γ_X0_outline := scon_of mX0_outline cls_ok hl (by decide +kernel) rfl rfl (ok_X0_outline l hl) rfl rfl b_X0_outline
def f_X0_pieceNumber_20 : Nat → Int64 → Int32 → Int64 → Int32 → Mem → Out
  | 0, _, _, _, _, _ => none
  | n + 1, x2, x4, x5, x7, μ => if (48 : Int32) ≤ x7 then (rI x4 μ) else (cJ (F_X0_firstPiece x5 μ) (fun v7 μ4 => if (lg_cmp (v7 &&& x2) (0 : Int64)) = 0 then (lt (x4 + (1 : Int32)) (fun v9 => cJ (F_X0_firstPiece x5 μ4) (fun v14 μ11 => lt (x5 &&& (v14 ^^^ (-1 : Int64))) (fun v15 => lt (x7 + (1 : Int32)) (fun v16 => f_X0_pieceNumber_20 n x2 v9 v15 v16 μ11))))) else (rI x4 μ4)))
def F_X0_pieceNumber (a0 : Int64) (a1 : Int64) (μ : Mem) : Out := if (lg_cmp (a0 &&& a1) (0 : Int64)) = 0 then (rI (-9 : Int32) μ) else (f_X0_pieceNumber_20 BIG a1 (0 : Int32) a0 (0 : Int32) μ)
def Γ_X0_pieceNumber : Gam := fun as μ r μ' => ∃ (a0 : Int64) (a1 : Int64), as = [.long a0, .long a1] ∧ F_X0_pieceNumber a0 a1 μ = some (r, μ')
def mX0_pieceNumber : MI := (cX0_pieceNumber, [(41, (0, 1, 0, 0, Γ_X0_firstPiece))], [], [], [(28, -1)], [], [], (29, none), (some .int))
set_option maxHeartbeats 4000000 in
theorem g_X0_pieceNumber_20 {r : Res} {μ' : Mem} : ∀ n : Nat, ∀ (x2 : Int64) (x4 : Int32) (x5 : Int64) (x7 : Int32), ∀ (μ : Mem) (b : Nat), rc r 0 ≤ b → f_X0_pieceNumber_20 n x2 x4 x5 x7 μ = some (r, μ') → G mX0_pieceNumber (Qe r μ') 20 [none, none, some (.long x2), none, some (.int x4), some (.long x5), none, some (.int x7)] [] μ b := by
  intro n
  induction n with
  | zero => intro x2 x4 x5 x7 μ b hb9 h; exact nomatch (show (none : Out) = some _ from h)
  | succ n ih =>
    intro x2 x4 x5 x7 μ b hb9 h
    rw [f_X0_pieceNumber_20.eq_2] at h
    refine e_iload dX0_pieceNumber_20 rfl ?_
    refine e_bipush dX0_pieceNumber_22 cb_48 ?_
    refine e_ic_ge (tgt := 62) dX0_pieceNumber_24 rfl (fun hc2 => ?_) (fun hc2 => ?_)
    · rw [if_pos hc2] at h
      refine e_iload dX0_pieceNumber_62 rfl ?_
      exact e_iret .int dX0_pieceNumber_64 rfl rfl (ret_eq h)
    · rw [if_neg hc2] at h
      refine e_lload dX0_pieceNumber_27 rfl ?_
      refine cJ_go h (fun E5 hc3 hr6 => e_SX [.long x5] [] dX0_pieceNumber_29 rfl (by decide) rfl rfl (Nat.le_of_ble_eq_true rfl) (hbr hr6 hb9 (Nat.le_of_ble_eq_true rfl)) ⟨x5, rfl, hc3⟩ rfl ⟨hr6.symm, rfl⟩) (fun v7 μ4 hc3 h => ?_)
      refine e_SJ [.long x5] [] dX0_pieceNumber_29 rfl (by decide) rfl rfl (Nat.le_of_ble_eq_true rfl) ⟨x5, rfl, hc3⟩ ?_
      refine e_lload_n dX0_pieceNumber_32 rfl ?_
      refine e_land dX0_pieceNumber_33 ?_
      refine e_lconst (v := (0 : Int64)) dX0_pieceNumber_34 rfl ?_
      refine e_lcmp dX0_pieceNumber_35 ?_
      refine e_if_ne (tgt := 62) dX0_pieceNumber_36 rfl (fun hc8 => ?_) (fun hc8 => ?_)
      · rw [if_neg hc8] at h
        refine e_iload dX0_pieceNumber_62 rfl ?_
        exact e_iret .int dX0_pieceNumber_64 rfl rfl (ret_eq h)
      · rw [if_pos hc8] at h
        refine e_iincN 4 (1 : Int32) dX0_pieceNumber_39 rfl ci_1 h (fun y9 => [none, none, some (.long x2), none, some (.int y9), some (.long x5), none, some (.int x7)]) (fun _ => rfl) (fun v9 ev9 h => ?_)
        refine e_lload dX0_pieceNumber_42 rfl ?_
        refine e_lload dX0_pieceNumber_44 rfl ?_
        refine cJ_go h (fun E12 hc10 hr13 => e_SX [.long x5] [.long x5] dX0_pieceNumber_46 rfl (by decide) rfl rfl (Nat.le_of_ble_eq_true rfl) (hbr hr13 hb9 (Nat.le_of_ble_eq_true rfl)) ⟨x5, rfl, hc10⟩ rfl ⟨hr13.symm, rfl⟩) (fun v14 μ11 hc10 h => ?_)
        refine e_SJ [.long x5] [.long x5] dX0_pieceNumber_46 rfl (by decide) rfl rfl (Nat.le_of_ble_eq_true rfl) ⟨x5, rfl, hc10⟩ ?_
        refine e_ldc2 (v := (-1 : Int64)) dX0_pieceNumber_49 rfl ?_
        refine e_lxor dX0_pieceNumber_52 ?_
        refine e_land dX0_pieceNumber_53 ?_
        refine e_naJ h (fun v15 ev15 h => ?_)
        refine e_lstoreL [none, none, some (.long x2), none, some (.int v9), some (.long v15), none, some (.int x7)] dX0_pieceNumber_54 (Nat.le_of_ble_eq_true rfl) rfl ?_
        refine e_iincN 7 (1 : Int32) dX0_pieceNumber_56 rfl ci_1 h (fun y9 => [none, none, some (.long x2), none, some (.int v9), some (.long v15), none, some (.int y9)]) (fun _ => rfl) (fun v16 ev16 h => ?_)
        refine e_goto (tgt := 20) dX0_pieceNumber_59 rfl ?_
        exact e_le (ih x2 v9 v15 v16 μ11 _ hb9 h) ⟨rfl, rfl, rfl, rfl, trivial⟩
set_option maxHeartbeats 4000000 in
theorem b_X0_pieceNumber : ∀ as μ r μ', Γ_X0_pieceNumber as μ r μ' → (elvL as).length ≤ 8 ∧ G mX0_pieceNumber (Qe r μ') 0 (elv as 8) [] μ (rc r 0) := by
  intro as μ r μ' h
  obtain ⟨a0, a1, rfl, h⟩ := h
  refine ⟨Nat.le_of_ble_eq_true rfl, ?_⟩
  show G mX0_pieceNumber (Qe r μ') 0 [some (.long a0), none, some (.long a1), none, none, none, none, none] [] μ (rc r 0)
  unfold F_X0_pieceNumber at h
  have hb9 : rc r 0 ≤ rc r 0 := Nat.le_refl _
  refine e_lload_n dX0_pieceNumber_0 rfl ?_
  refine e_lload_n dX0_pieceNumber_1 rfl ?_
  refine e_land dX0_pieceNumber_2 ?_
  refine e_lconst (v := (0 : Int64)) dX0_pieceNumber_3 rfl ?_
  refine e_lcmp dX0_pieceNumber_4 ?_
  refine e_if_ne (tgt := 11) dX0_pieceNumber_5 rfl (fun hc1 => ?_) (fun hc1 => ?_)
  · rw [if_neg hc1] at h
    refine e_iconst dX0_pieceNumber_11 ci_0 ?_
    refine e_istoreL [some (.long a0), none, some (.long a1), none, some (.int (0 : Int32)), none, none, none] dX0_pieceNumber_12 (Nat.le_of_ble_eq_true rfl) rfl ?_
    refine e_lload_n dX0_pieceNumber_14 rfl ?_
    refine e_lstoreL [some (.long a0), none, some (.long a1), none, some (.int (0 : Int32)), some (.long a0), none, none] dX0_pieceNumber_15 (Nat.le_of_ble_eq_true rfl) rfl ?_
    refine e_iconst dX0_pieceNumber_17 ci_0 ?_
    refine e_istoreL [some (.long a0), none, some (.long a1), none, some (.int (0 : Int32)), some (.long a0), none, some (.int (0 : Int32))] dX0_pieceNumber_18 (Nat.le_of_ble_eq_true rfl) rfl ?_
    exact e_le (g_X0_pieceNumber_20 BIG a1 (0 : Int32) a0 (0 : Int32) μ _ hb9 h) ⟨rfl, rfl, rfl, rfl, trivial⟩
  · rw [if_pos hc1] at h
    refine e_bipush dX0_pieceNumber_8 cb_m9 ?_
    exact e_iret .int dX0_pieceNumber_10 rfl rfl (ret_eq h)
set_option maxRecDepth 20000 in
theorem ok_X0_pieceNumber (l : Launch) (hl : l.stackTraces = false) : MOK l yX0_pieceNumber.cls 2 26 mX0_pieceNumber := ⟨lk_all (List.forall_mem_cons.mpr ⟨⟨yX0_firstPiece, cX0_firstPiece, 7, (some .long), 1, 0, by decide, by decide, t_1 9 rfl rfl, hd_X0_firstPiece, Or.inl ⟨rfl, sc_X0_firstPiece l hl, t_1 212 rfl rfl, t_1 210 rfl rfl, t_1 211 rfl rfl⟩⟩, nil_all⟩), fun ix ci j h => lk_all (P := fun ix q => FldOK yX0_pieceNumber.cls ix q.1 q.2) (nil_all) ix (ci, j) h, lk_all (nil_all), lk_all (List.forall_mem_cons.mpr ⟨t_1 213 rfl rfl, nil_all⟩), lk_all (nil_all)⟩
theorem hd_X0_pieceNumber : CallHd yX0_pieceNumber 2 := ⟨by decide +kernel, by decide +kernel, by decide +kernel⟩
theorem sc_X0_pieceNumber (l : Launch) (hl : l.stackTraces = false) : SCon l yX0_pieceNumber cX0_pieceNumber 8 (some .int) 2 26 0 Γ_X0_pieceNumber := scon_of mX0_pieceNumber cls_ok hl (by decide +kernel) rfl rfl (ok_X0_pieceNumber l hl) rfl rfl b_X0_pieceNumber
def f_X0_pieceNumbered_5 : Nat → Int32 → Int64 → Int32 → Mem → Out
  | 0, _, _, _, _ => none
  | n + 1, x2, x3, x5, μ => if x2 ≤ x5 then (cJ (F_X0_firstPiece x3 μ) (fun v6 μ3 => rJ v6 μ3)) else (if (48 : Int32) ≤ x5 then (cJ (F_X0_firstPiece x3 μ) (fun v12 μ9 => rJ v12 μ9)) else (cJ (F_X0_firstPiece x3 μ) (fun v17 μ14 => lt (x3 &&& (v17 ^^^ (-1 : Int64))) (fun v18 => lt (x5 + (1 : Int32)) (fun v19 => f_X0_pieceNumbered_5 n x2 v18 v19 μ14)))))
def F_X0_pieceNumbered (a0 : Int64) (a1 : Int32) (μ : Mem) : Out := f_X0_pieceNumbered_5 BIG a1 a0 (0 : Int32) μ
def Γ_X0_pieceNumbered : Gam := fun as μ r μ' => ∃ (a0 : Int64) (a1 : Int32), as = [.long a0, .int a1] ∧ F_X0_pieceNumbered a0 a1 μ = some (r, μ')
def mX0_pieceNumbered : MI := (cX0_pieceNumbered, [(41, (0, 1, 0, 0, Γ_X0_firstPiece))], [], [], [(28, -1)], [], [], (29, none), (some .long))
set_option maxHeartbeats 4000000 in
theorem g_X0_pieceNumbered_5 {r : Res} {μ' : Mem} : ∀ n : Nat, ∀ (x2 : Int32) (x3 : Int64) (x5 : Int32), ∀ (μ : Mem) (b : Nat), rc r 0 ≤ b → f_X0_pieceNumbered_5 n x2 x3 x5 μ = some (r, μ') → G mX0_pieceNumbered (Qe r μ') 5 [none, none, some (.int x2), some (.long x3), none, some (.int x5)] [] μ b := by
  intro n
  induction n with
  | zero => intro x2 x3 x5 μ b hb9 h; exact nomatch (show (none : Out) = some _ from h)
  | succ n ih =>
    intro x2 x3 x5 μ b hb9 h
    rw [f_X0_pieceNumbered_5.eq_2] at h
    refine e_iload dX0_pieceNumbered_5 rfl ?_
    refine e_iload_n dX0_pieceNumbered_7 rfl ?_
    refine e_ic_ge (tgt := 35) dX0_pieceNumbered_8 rfl (fun hc1 => ?_) (fun hc1 => ?_)
    · rw [if_pos hc1] at h
      refine e_lload_n dX0_pieceNumbered_35 rfl ?_
      refine cJ_go h (fun E4 hc2 hr5 => e_SX [.long x3] [] dX0_pieceNumbered_36 rfl (by decide) rfl rfl (Nat.le_of_ble_eq_true rfl) (hbr hr5 hb9 (Nat.le_of_ble_eq_true rfl)) ⟨x3, rfl, hc2⟩ rfl ⟨hr5.symm, rfl⟩) (fun v6 μ3 hc2 h => ?_)
      refine e_SJ [.long x3] [] dX0_pieceNumbered_36 rfl (by decide) rfl rfl (Nat.le_of_ble_eq_true rfl) ⟨x3, rfl, hc2⟩ ?_
      exact e_lret dX0_pieceNumbered_39 rfl (ret_eq h)
    · rw [if_neg hc1] at h
      refine e_iload dX0_pieceNumbered_11 rfl ?_
      refine e_bipush dX0_pieceNumbered_13 cb_48 ?_
      refine e_ic_ge (tgt := 35) dX0_pieceNumbered_15 rfl (fun hc7 => ?_) (fun hc7 => ?_)
      · rw [if_pos hc7] at h
        refine e_lload_n dX0_pieceNumbered_35 rfl ?_
        refine cJ_go h (fun E10 hc8 hr11 => e_SX [.long x3] [] dX0_pieceNumbered_36 rfl (by decide) rfl rfl (Nat.le_of_ble_eq_true rfl) (hbr hr11 hb9 (Nat.le_of_ble_eq_true rfl)) ⟨x3, rfl, hc8⟩ rfl ⟨hr11.symm, rfl⟩) (fun v12 μ9 hc8 h => ?_)
        refine e_SJ [.long x3] [] dX0_pieceNumbered_36 rfl (by decide) rfl rfl (Nat.le_of_ble_eq_true rfl) ⟨x3, rfl, hc8⟩ ?_
        exact e_lret dX0_pieceNumbered_39 rfl (ret_eq h)
      · rw [if_neg hc7] at h
        refine e_lload_n dX0_pieceNumbered_18 rfl ?_
        refine e_lload_n dX0_pieceNumbered_19 rfl ?_
        refine cJ_go h (fun E15 hc13 hr16 => e_SX [.long x3] [.long x3] dX0_pieceNumbered_20 rfl (by decide) rfl rfl (Nat.le_of_ble_eq_true rfl) (hbr hr16 hb9 (Nat.le_of_ble_eq_true rfl)) ⟨x3, rfl, hc13⟩ rfl ⟨hr16.symm, rfl⟩) (fun v17 μ14 hc13 h => ?_)
        refine e_SJ [.long x3] [.long x3] dX0_pieceNumbered_20 rfl (by decide) rfl rfl (Nat.le_of_ble_eq_true rfl) ⟨x3, rfl, hc13⟩ ?_
        refine e_ldc2 (v := (-1 : Int64)) dX0_pieceNumbered_23 rfl ?_
        refine e_lxor dX0_pieceNumbered_26 ?_
        refine e_land dX0_pieceNumbered_27 ?_
        refine e_naJ h (fun v18 ev18 h => ?_)
        refine e_lstore_nL [none, none, some (.int x2), some (.long v18), none, some (.int x5)] dX0_pieceNumbered_28 (Nat.le_of_ble_eq_true rfl) rfl ?_
        refine e_iincN 5 (1 : Int32) dX0_pieceNumbered_29 rfl ci_1 h (fun y9 => [none, none, some (.int x2), some (.long v18), none, some (.int y9)]) (fun _ => rfl) (fun v19 ev19 h => ?_)
        refine e_goto (tgt := 5) dX0_pieceNumbered_32 rfl ?_
        exact e_le (ih x2 v18 v19 μ14 _ hb9 h) ⟨rfl, rfl, rfl, trivial⟩
set_option maxHeartbeats 4000000 in
theorem b_X0_pieceNumbered : ∀ as μ r μ', Γ_X0_pieceNumbered as μ r μ' → (elvL as).length ≤ 6 ∧ G mX0_pieceNumbered (Qe r μ') 0 (elv as 6) [] μ (rc r 0) := by
  intro as μ r μ' h
  obtain ⟨a0, a1, rfl, h⟩ := h
  refine ⟨Nat.le_of_ble_eq_true rfl, ?_⟩
  show G mX0_pieceNumbered (Qe r μ') 0 [some (.long a0), none, some (.int a1), none, none, none] [] μ (rc r 0)
  unfold F_X0_pieceNumbered at h
  have hb9 : rc r 0 ≤ rc r 0 := Nat.le_refl _
  refine e_lload_n dX0_pieceNumbered_0 rfl ?_
  refine e_lstore_nL [some (.long a0), none, some (.int a1), some (.long a0), none, none] dX0_pieceNumbered_1 (Nat.le_of_ble_eq_true rfl) rfl ?_
  refine e_iconst dX0_pieceNumbered_2 ci_0 ?_
  refine e_istoreL [some (.long a0), none, some (.int a1), some (.long a0), none, some (.int (0 : Int32))] dX0_pieceNumbered_3 (Nat.le_of_ble_eq_true rfl) rfl ?_
  exact e_le (g_X0_pieceNumbered_5 BIG a1 a0 (0 : Int32) μ _ hb9 h) ⟨rfl, rfl, rfl, trivial⟩
set_option maxRecDepth 20000 in
theorem ok_X0_pieceNumbered (l : Launch) (hl : l.stackTraces = false) : MOK l yX0_pieceNumbered.cls 2 26 mX0_pieceNumbered := ⟨lk_all (List.forall_mem_cons.mpr ⟨⟨yX0_firstPiece, cX0_firstPiece, 7, (some .long), 1, 0, by decide, by decide, t_1 9 rfl rfl, hd_X0_firstPiece, Or.inl ⟨rfl, sc_X0_firstPiece l hl, t_1 212 rfl rfl, t_1 210 rfl rfl, t_1 211 rfl rfl⟩⟩, nil_all⟩), fun ix ci j h => lk_all (P := fun ix q => FldOK yX0_pieceNumbered.cls ix q.1 q.2) (nil_all) ix (ci, j) h, lk_all (nil_all), lk_all (List.forall_mem_cons.mpr ⟨t_1 213 rfl rfl, nil_all⟩), lk_all (nil_all)⟩
theorem hd_X0_pieceNumbered : CallHd yX0_pieceNumbered 2 := ⟨by decide +kernel, by decide +kernel, by decide +kernel⟩
theorem sc_X0_pieceNumbered (l : Launch) (hl : l.stackTraces = false) : SCon l yX0_pieceNumbered cX0_pieceNumbered 6 (some .long) 2 26 0 Γ_X0_pieceNumbered := scon_of mX0_pieceNumbered cls_ok hl (by decide +kernel) rfl rfl (ok_X0_pieceNumbered l hl) rfl rfl b_X0_pieceNumbered
def F_X1_changed (a0 : Int64) (a1 : Int32) (a2 : Int32) (μ : Mem) : Out := rJ ((a0 &&& ((shlL (15 : Int64) ((4 : Int32) * a1)) ^^^ (-1 : Int64))) ||| (shlL (Int32.toInt64 a2) ((4 : Int32) * a1))) μ
def Γ_X1_changed : Gam := fun as μ r μ' => ∃ (a0 : Int64) (a1 : Int32) (a2 : Int32), as = [.long a0, .int a1, .int a2] ∧ F_X1_changed a0 a1 a2 μ = some (r, μ')
def mX1_changed : MI := (cX1_changed, [], [], [], [(9, 15), (11, -1)], [], [], (29, none), (some .long))
set_option maxHeartbeats 4000000 in
theorem b_X1_changed : ∀ as μ r μ', Γ_X1_changed as μ r μ' → (elvL as).length ≤ 4 ∧ G mX1_changed (Qe r μ') 0 (elv as 4) [] μ (rc r 0) := by
  intro as μ r μ' h
  obtain ⟨a0, a1, a2, rfl, h⟩ := h
  refine ⟨Nat.le_of_ble_eq_true rfl, ?_⟩
  show G mX1_changed (Qe r μ') 0 [some (.long a0), none, some (.int a1), some (.int a2)] [] μ (rc r 0)
  unfold F_X1_changed at h
  have hb9 : rc r 0 ≤ rc r 0 := Nat.le_refl _
  refine e_lload_n dX1_changed_0 rfl ?_
  refine e_ldc2 (v := (15 : Int64)) dX1_changed_1 rfl ?_
  refine e_iconst dX1_changed_4 ci_4 ?_
  refine e_iload_n dX1_changed_5 rfl ?_
  refine e_imul dX1_changed_6 ?_
  refine e_lshl dX1_changed_7 ?_
  refine e_ldc2 (v := (-1 : Int64)) dX1_changed_8 rfl ?_
  refine e_lxor dX1_changed_11 ?_
  refine e_land dX1_changed_12 ?_
  refine e_iload_n dX1_changed_13 rfl ?_
  refine e_i2l dX1_changed_14 ?_
  refine e_iconst dX1_changed_15 ci_4 ?_
  refine e_iload_n dX1_changed_16 rfl ?_
  refine e_imul dX1_changed_17 ?_
  refine e_lshl dX1_changed_18 ?_
  refine e_lor dX1_changed_19 ?_
  exact e_lret dX1_changed_20 rfl (ret_eq h)
set_option maxRecDepth 20000 in
theorem ok_X1_changed (l : Launch) (hl : l.stackTraces = false) : MOK l yX1_changed.cls 1 0 mX1_changed := ⟨lk_all (nil_all), fun ix ci j h => lk_all (P := fun ix q => FldOK yX1_changed.cls ix q.1 q.2) (nil_all) ix (ci, j) h, lk_all (nil_all), lk_all (List.forall_mem_cons.mpr ⟨t_2 213 rfl rfl, List.forall_mem_cons.mpr ⟨t_2 214 rfl rfl, nil_all⟩⟩), lk_all (nil_all)⟩
theorem hd_X1_changed : CallHd yX1_changed 3 := ⟨by decide +kernel, by decide +kernel, by decide +kernel⟩
theorem sc_X1_changed (l : Launch) (hl : l.stackTraces = false) : SCon l yX1_changed cX1_changed 4 (some .long) 1 0 0 Γ_X1_changed := scon_of mX1_changed cls_ok hl (by decide +kernel) rfl rfl (ok_X1_changed l hl) rfl rfl b_X1_changed
def F_X1_digit (a0 : Int64) (a1 : Int32) (μ : Mem) : Out := rI ((Int64.toInt32 (ushrL a0 ((4 : Int32) * a1))) &&& (15 : Int32)) μ
def Γ_X1_digit : Gam := fun as μ r μ' => ∃ (a0 : Int64) (a1 : Int32), as = [.long a0, .int a1] ∧ F_X1_digit a0 a1 μ = some (r, μ')
def mX1_digit : MI := (cX1_digit, [], [], [], [], [], [], (29, none), (some .int))
set_option maxHeartbeats 4000000 in
theorem b_X1_digit : ∀ as μ r μ', Γ_X1_digit as μ r μ' → (elvL as).length ≤ 3 ∧ G mX1_digit (Qe r μ') 0 (elv as 3) [] μ (rc r 0) := by
  intro as μ r μ' h
  obtain ⟨a0, a1, rfl, h⟩ := h
  refine ⟨Nat.le_of_ble_eq_true rfl, ?_⟩
  show G mX1_digit (Qe r μ') 0 [some (.long a0), none, some (.int a1)] [] μ (rc r 0)
  unfold F_X1_digit at h
  have hb9 : rc r 0 ≤ rc r 0 := Nat.le_refl _
  refine e_lload_n dX1_digit_0 rfl ?_
  refine e_iconst dX1_digit_1 ci_4 ?_
  refine e_iload_n dX1_digit_2 rfl ?_
  refine e_imul dX1_digit_3 ?_
  refine e_lushr dX1_digit_4 ?_
  refine e_l2i dX1_digit_5 ?_
  refine e_bipush dX1_digit_6 cb_15 ?_
  refine e_iand dX1_digit_8 ?_
  exact e_iret .int dX1_digit_9 rfl rfl (ret_eq h)
set_option maxRecDepth 20000 in
theorem ok_X1_digit (l : Launch) (hl : l.stackTraces = false) : MOK l yX1_digit.cls 1 0 mX1_digit := ⟨lk_all (nil_all), fun ix ci j h => lk_all (P := fun ix q => FldOK yX1_digit.cls ix q.1 q.2) (nil_all) ix (ci, j) h, lk_all (nil_all), lk_all (nil_all), lk_all (nil_all)⟩
theorem hd_X1_digit : CallHd yX1_digit 2 := ⟨by decide +kernel, by decide +kernel, by decide +kernel⟩
theorem sc_X1_digit (l : Launch) (hl : l.stackTraces = false) : SCon l yX1_digit cX1_digit 3 (some .int) 1 0 0 Γ_X1_digit := scon_of mX1_digit cls_ok hl (by decide +kernel) rfl rfl (ok_X1_digit l hl) rfl rfl b_X1_digit
def f_X1_total_4 : Nat → Int64 → Int32 → Int32 → Mem → Out
  | 0, _, _, _, _ => none
  | n + 1, x0, x2, x3, μ => if (6 : Int32) ≤ x3 then (rI x2 μ) else (cI (F_X1_digit x0 x3 μ) (fun v6 μ3 => lt (x2 + v6) (fun v7 => lt (x3 + (1 : Int32)) (fun v8 => f_X1_total_4 n x0 v7 v8 μ3))))
def F_X1_total (a0 : Int64) (μ : Mem) : Out := f_X1_total_4 BIG a0 (0 : Int32) (0 : Int32) μ
def Γ_X1_total : Gam := fun as μ r μ' => ∃ (a0 : Int64), as = [.long a0] ∧ F_X1_total a0 μ = some (r, μ')
def mX1_total : MI := (cX1_total, [(13, (0, 2, 0, 0, Γ_X1_digit))], [], [], [], [], [], (29, none), (some .int))
set_option maxHeartbeats 4000000 in
theorem g_X1_total_4 {r : Res} {μ' : Mem} : ∀ n : Nat, ∀ (x0 : Int64) (x2 : Int32) (x3 : Int32), ∀ (μ : Mem) (b : Nat), rc r 0 ≤ b → f_X1_total_4 n x0 x2 x3 μ = some (r, μ') → G mX1_total (Qe r μ') 4 [some (.long x0), none, some (.int x2), some (.int x3)] [] μ b := by
  intro n
  induction n with
  | zero => intro x0 x2 x3 μ b hb9 h; exact nomatch (show (none : Out) = some _ from h)
  | succ n ih =>
    intro x0 x2 x3 μ b hb9 h
    rw [f_X1_total_4.eq_2] at h
    refine e_iload_n dX1_total_4 rfl ?_
    refine e_bipush dX1_total_5 cb_6 ?_
    refine e_ic_ge (tgt := 24) dX1_total_7 rfl (fun hc1 => ?_) (fun hc1 => ?_)
    · rw [if_pos hc1] at h
      refine e_iload_n dX1_total_24 rfl ?_
      exact e_iret .int dX1_total_25 rfl rfl (ret_eq h)
    · rw [if_neg hc1] at h
      refine e_iload_n dX1_total_10 rfl ?_
      refine e_lload_n dX1_total_11 rfl ?_
      refine e_iload_n dX1_total_12 rfl ?_
      refine cI_go h (fun E4 hc2 hr5 => e_SX [.long x0, .int x3] [.int x2] dX1_total_13 rfl (by decide) rfl rfl (Nat.le_of_ble_eq_true rfl) (hbr hr5 hb9 (Nat.le_of_ble_eq_true rfl)) ⟨x0, x3, rfl, hc2⟩ rfl ⟨hr5.symm, rfl⟩) (fun v6 μ3 hc2 h => ?_)
      refine e_SI [.long x0, .int x3] [.int x2] dX1_total_13 rfl (by decide) rfl rfl (Nat.le_of_ble_eq_true rfl) ⟨x0, x3, rfl, hc2⟩ ?_
      refine e_iadd dX1_total_16 ?_
      refine e_naI h (fun v7 ev7 h => ?_)
      refine e_istore_nL [some (.long x0), none, some (.int v7), some (.int x3)] dX1_total_17 (Nat.le_of_ble_eq_true rfl) rfl ?_
      refine e_iincN 3 (1 : Int32) dX1_total_18 rfl ci_1 h (fun y9 => [some (.long x0), none, some (.int v7), some (.int y9)]) (fun _ => rfl) (fun v8 ev8 h => ?_)
      refine e_goto (tgt := 4) dX1_total_21 rfl ?_
      exact e_le (ih x0 v7 v8 μ3 _ hb9 h) ⟨rfl, rfl, rfl, trivial⟩
set_option maxHeartbeats 4000000 in
theorem b_X1_total : ∀ as μ r μ', Γ_X1_total as μ r μ' → (elvL as).length ≤ 4 ∧ G mX1_total (Qe r μ') 0 (elv as 4) [] μ (rc r 0) := by
  intro as μ r μ' h
  obtain ⟨a0, rfl, h⟩ := h
  refine ⟨Nat.le_of_ble_eq_true rfl, ?_⟩
  show G mX1_total (Qe r μ') 0 [some (.long a0), none, none, none] [] μ (rc r 0)
  unfold F_X1_total at h
  have hb9 : rc r 0 ≤ rc r 0 := Nat.le_refl _
  refine e_iconst dX1_total_0 ci_0 ?_
  refine e_istore_nL [some (.long a0), none, some (.int (0 : Int32)), none] dX1_total_1 (Nat.le_of_ble_eq_true rfl) rfl ?_
  refine e_iconst dX1_total_2 ci_0 ?_
  refine e_istore_nL [some (.long a0), none, some (.int (0 : Int32)), some (.int (0 : Int32))] dX1_total_3 (Nat.le_of_ble_eq_true rfl) rfl ?_
  exact e_le (g_X1_total_4 BIG a0 (0 : Int32) (0 : Int32) μ _ hb9 h) ⟨rfl, rfl, rfl, trivial⟩
set_option maxRecDepth 20000 in
theorem ok_X1_total (l : Launch) (hl : l.stackTraces = false) : MOK l yX1_total.cls 2 22 mX1_total := ⟨lk_all (List.forall_mem_cons.mpr ⟨⟨yX1_digit, cX1_digit, 3, (some .int), 1, 0, by decide, by decide, t_1 8 rfl rfl, hd_X1_digit, Or.inl ⟨rfl, sc_X1_digit l hl, t_1 169 rfl rfl, t_1 167 rfl rfl, t_1 168 rfl rfl⟩⟩, nil_all⟩), fun ix ci j h => lk_all (P := fun ix q => FldOK yX1_total.cls ix q.1 q.2) (nil_all) ix (ci, j) h, lk_all (nil_all), lk_all (nil_all), lk_all (nil_all)⟩
theorem hd_X1_total : CallHd yX1_total 1 := ⟨by decide +kernel, by decide +kernel, by decide +kernel⟩
theorem sc_X1_total (l : Launch) (hl : l.stackTraces = false) : SCon l yX1_total cX1_total 4 (some .int) 2 22 0 Γ_X1_total := scon_of mX1_total cls_ok hl (by decide +kernel) rfl rfl (ok_X1_total l hl) rfl rfl b_X1_total
