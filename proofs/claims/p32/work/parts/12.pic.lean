def F_X4_board (k0 : Nat) (μ : Mem) : Out := rJ ((((shlL (1 : Int64) (μ.1 k0 1)) - (1 : Int64)) * (1103823438081 : Int64)) &&& ((shlL (1 : Int64) ((8 : Int32) * (μ.1 k0 0))) - (1 : Int64))) μ
def Γ_X4_board : Gam := fun as μ r μ' => ∃ (k0 : Nat), as = [.ref k0] ∧ okO k0 2 ∧ F_X4_board k0 μ = some (r, μ')
def mX4_board : MI := (cX4_board, [], [(9, 2, 0), (15, 2, 1)], [], [(33, 1103823438081)], [], [], (29, none), (some .long))
set_option maxHeartbeats 4000000 in
theorem b_X4_board : ∀ as μ r μ', Γ_X4_board as μ r μ' → (elvL as).length ≤ 1 ∧ G mX4_board (Qe r μ') 0 (elv as 1) [] μ (rc r 0) := by
  intro as μ r μ' h
  obtain ⟨k0, rfl, ho0, h⟩ := h
  refine ⟨Nat.le_of_ble_eq_true rfl, ?_⟩
  show G mX4_board (Qe r μ') 0 [some (.ref k0)] [] μ (rc r 0)
  unfold F_X4_board at h
  have hb9 : rc r 0 ≤ rc r 0 := Nat.le_refl _
  refine e_lconst (v := (1 : Int64)) dX4_board_0 rfl ?_
  refine e_aload_n dX4_board_1 rfl ?_
  refine e_get (ci := 2) (j := 1) (t := 0) (v := .int (μ.1 k0 1)) dX4_board_2 rfl ho0.1 ho0.2 rfl rfl ?_
  refine e_lshl dX4_board_5 ?_
  refine e_lconst (v := (1 : Int64)) dX4_board_6 rfl ?_
  refine e_lsub dX4_board_7 ?_
  refine e_ldc2 (v := (1103823438081 : Int64)) dX4_board_8 rfl ?_
  refine e_lmul dX4_board_11 ?_
  refine e_lconst (v := (1 : Int64)) dX4_board_12 rfl ?_
  refine e_bipush dX4_board_13 cb_8 ?_
  refine e_aload_n dX4_board_15 rfl ?_
  refine e_get (ci := 2) (j := 0) (t := 0) (v := .int (μ.1 k0 0)) dX4_board_16 rfl ho0.1 ho0.2 rfl rfl ?_
  refine e_imul dX4_board_19 ?_
  refine e_lshl dX4_board_20 ?_
  refine e_lconst (v := (1 : Int64)) dX4_board_21 rfl ?_
  refine e_lsub dX4_board_22 ?_
  refine e_land dX4_board_23 ?_
  exact e_lret dX4_board_24 rfl (ret_eq h)
set_option maxRecDepth 20000 in
theorem ok_X4_board (l : Launch) (hl : l.stackTraces = false) : MOK l yX4_board.cls 1 0 mX4_board := ⟨lk_all (nil_all), fun ix ci j h => lk_all (P := fun ix q => FldOK yX4_board.cls ix q.1 q.2) (List.forall_mem_cons.mpr ⟨⟨_, rfl, by decide, t_1 46 rfl rfl⟩, List.forall_mem_cons.mpr ⟨⟨_, rfl, by decide, t_1 49 rfl rfl⟩, nil_all⟩⟩) ix (ci, j) h, lk_all (nil_all), lk_all (List.forall_mem_cons.mpr ⟨t_1 190 rfl rfl, nil_all⟩), lk_all (nil_all)⟩
theorem hd_X4_board : CallHd yX4_board 0 := ⟨by decide +kernel, by decide +kernel, by decide +kernel⟩
theorem sc_X4_board (l : Launch) (hl : l.stackTraces = false) : SCon l yX4_board cX4_board 1 (some .long) 1 0 0 Γ_X4_board := scon_of mX4_board cls_ok hl (by decide +kernel) rfl rfl (ok_X4_board l hl) rfl rfl b_X4_board
def F_X4_canExchange (k0 : Nat) (a0 : Int32) (a1 : Int32) (a2 : Int32) (a3 : Int32) (μ : Mem) : Out := cJ (F_X0_corners a0 a1 a2 a3 μ) (fun v5 μ2 => lt ((μ2.2.1 k0 2) &&& v5) (fun v6 => if (lg_cmp ((μ2.2.1 k0 3) &&& v5) (0 : Int64)) = 0 then (cJ (F_X0_bit a0 a2 μ2) (fun v12 μ9 => cJ (F_X0_bit a1 a3 μ9) (fun v17 μ14 => if (lg_cmp v6 (v12 ||| v17)) = 0 then (rI (1 : Int32) μ14) else (cJ (F_X0_bit a0 a3 μ14) (fun v23 μ20 => cJ (F_X0_bit a1 a2 μ20) (fun v28 μ25 => if (lg_cmp v6 (v23 ||| v28)) = 0 then (rI (1 : Int32) μ25) else (rI (0 : Int32) μ25))))))) else (rI (0 : Int32) μ2)))
def Γ_X4_canExchange : Gam := fun as μ r μ' => ∃ (k0 : Nat) (a0 : Int32) (a1 : Int32) (a2 : Int32) (a3 : Int32), as = [.ref k0, .int a0, .int a1, .int a2, .int a3] ∧ okO k0 2 ∧ F_X4_canExchange k0 a0 a1 a2 a3 μ = some (r, μ')
def mX4_canExchange : MI := (cX4_canExchange, [(75, (0, 2, 0, 0, Γ_X0_bit)), (96, (0, 4, 0, 0, Γ_X0_corners))], [(18, 2, 2), (22, 2, 3)], [], [], [], [], (29, none), (some .boolean))
set_option maxHeartbeats 4000000 in
theorem b_X4_canExchange : ∀ as μ r μ', Γ_X4_canExchange as μ r μ' → (elvL as).length ≤ 9 ∧ G mX4_canExchange (Qe r μ') 0 (elv as 9) [] μ (rc r 0) := by
  intro as μ r μ' h
  obtain ⟨k0, a0, a1, a2, a3, rfl, ho0, h⟩ := h
  refine ⟨Nat.le_of_ble_eq_true rfl, ?_⟩
  show G mX4_canExchange (Qe r μ') 0 [some (.ref k0), some (.int a0), some (.int a1), some (.int a2), some (.int a3), none, none, none, none] [] μ (rc r 0)
  unfold F_X4_canExchange at h
  have hb9 : rc r 0 ≤ rc r 0 := Nat.le_refl _
  refine e_iload_n dX4_canExchange_0 rfl ?_
  refine e_iload_n dX4_canExchange_1 rfl ?_
  refine e_iload_n dX4_canExchange_2 rfl ?_
  refine e_iload dX4_canExchange_3 rfl ?_
  refine cJ_go h (fun E3 hc1 hr4 => e_SX [.int a0, .int a1, .int a2, .int a3] [] dX4_canExchange_5 rfl (by decide) rfl rfl (Nat.le_of_ble_eq_true rfl) (hbr hr4 hb9 (Nat.le_of_ble_eq_true rfl)) ⟨a0, a1, a2, a3, rfl, hc1⟩ rfl ⟨hr4.symm, rfl⟩) (fun v5 μ2 hc1 h => ?_)
  refine e_SJ [.int a0, .int a1, .int a2, .int a3] [] dX4_canExchange_5 rfl (by decide) rfl rfl (Nat.le_of_ble_eq_true rfl) ⟨a0, a1, a2, a3, rfl, hc1⟩ ?_
  refine e_lstoreL [some (.ref k0), some (.int a0), some (.int a1), some (.int a2), some (.int a3), some (.long v5), none, none, none] dX4_canExchange_8 (Nat.le_of_ble_eq_true rfl) rfl ?_
  refine e_aload_n dX4_canExchange_10 rfl ?_
  refine e_get (ci := 2) (j := 2) (t := 1) (v := .long (μ2.2.1 k0 2)) dX4_canExchange_11 rfl ho0.1 ho0.2 rfl rfl ?_
  refine e_lload dX4_canExchange_14 rfl ?_
  refine e_land dX4_canExchange_16 ?_
  refine e_naJ h (fun v6 ev6 h => ?_)
  refine e_lstoreL [some (.ref k0), some (.int a0), some (.int a1), some (.int a2), some (.int a3), some (.long v5), none, some (.long v6), none] dX4_canExchange_17 (Nat.le_of_ble_eq_true rfl) rfl ?_
  refine e_aload_n dX4_canExchange_19 rfl ?_
  refine e_get (ci := 2) (j := 3) (t := 1) (v := .long (μ2.2.1 k0 3)) dX4_canExchange_20 rfl ho0.1 ho0.2 rfl rfl ?_
  refine e_lload dX4_canExchange_23 rfl ?_
  refine e_land dX4_canExchange_25 ?_
  refine e_lconst (v := (0 : Int64)) dX4_canExchange_26 rfl ?_
  refine e_lcmp dX4_canExchange_27 ?_
  refine e_if_ne (tgt := 71) dX4_canExchange_28 rfl (fun hc7 => ?_) (fun hc7 => ?_)
  · rw [if_neg hc7] at h
    refine e_iconst dX4_canExchange_71 ci_0 ?_
    exact e_iret .boolean dX4_canExchange_72 rfl rfl (ret_eq h)
  · rw [if_pos hc7] at h
    refine e_lload dX4_canExchange_31 rfl ?_
    refine e_iload_n dX4_canExchange_33 rfl ?_
    refine e_iload_n dX4_canExchange_34 rfl ?_
    refine cJ_go h (fun E10 hc8 hr11 => e_SX [.int a0, .int a2] [.long v6] dX4_canExchange_35 rfl (by decide) rfl rfl (Nat.le_of_ble_eq_true rfl) (hbr hr11 hb9 (Nat.le_of_ble_eq_true rfl)) ⟨a0, a2, rfl, hc8⟩ rfl ⟨hr11.symm, rfl⟩) (fun v12 μ9 hc8 h => ?_)
    refine e_SJ [.int a0, .int a2] [.long v6] dX4_canExchange_35 rfl (by decide) rfl rfl (Nat.le_of_ble_eq_true rfl) ⟨a0, a2, rfl, hc8⟩ ?_
    refine e_iload_n dX4_canExchange_38 rfl ?_
    refine e_iload dX4_canExchange_39 rfl ?_
    refine cJ_go h (fun E15 hc13 hr16 => e_SX [.int a1, .int a3] [.long v12, .long v6] dX4_canExchange_41 rfl (by decide) rfl rfl (Nat.le_of_ble_eq_true rfl) (hbr hr16 hb9 (Nat.le_of_ble_eq_true rfl)) ⟨a1, a3, rfl, hc13⟩ rfl ⟨hr16.symm, rfl⟩) (fun v17 μ14 hc13 h => ?_)
    refine e_SJ [.int a1, .int a3] [.long v12, .long v6] dX4_canExchange_41 rfl (by decide) rfl rfl (Nat.le_of_ble_eq_true rfl) ⟨a1, a3, rfl, hc13⟩ ?_
    refine e_lor dX4_canExchange_44 ?_
    refine e_lcmp dX4_canExchange_45 ?_
    refine e_if_eq (tgt := 67) dX4_canExchange_46 rfl (fun hc18 => ?_) (fun hc18 => ?_)
    · rw [if_pos hc18] at h
      refine e_iconst dX4_canExchange_67 ci_1 ?_
      refine e_goto (tgt := 72) dX4_canExchange_68 rfl ?_
      exact e_iret .boolean dX4_canExchange_72 rfl rfl (ret_eq h)
    · rw [if_neg hc18] at h
      refine e_lload dX4_canExchange_49 rfl ?_
      refine e_iload_n dX4_canExchange_51 rfl ?_
      refine e_iload dX4_canExchange_52 rfl ?_
      refine cJ_go h (fun E21 hc19 hr22 => e_SX [.int a0, .int a3] [.long v6] dX4_canExchange_54 rfl (by decide) rfl rfl (Nat.le_of_ble_eq_true rfl) (hbr hr22 hb9 (Nat.le_of_ble_eq_true rfl)) ⟨a0, a3, rfl, hc19⟩ rfl ⟨hr22.symm, rfl⟩) (fun v23 μ20 hc19 h => ?_)
      refine e_SJ [.int a0, .int a3] [.long v6] dX4_canExchange_54 rfl (by decide) rfl rfl (Nat.le_of_ble_eq_true rfl) ⟨a0, a3, rfl, hc19⟩ ?_
      refine e_iload_n dX4_canExchange_57 rfl ?_
      refine e_iload_n dX4_canExchange_58 rfl ?_
      refine cJ_go h (fun E26 hc24 hr27 => e_SX [.int a1, .int a2] [.long v23, .long v6] dX4_canExchange_59 rfl (by decide) rfl rfl (Nat.le_of_ble_eq_true rfl) (hbr hr27 hb9 (Nat.le_of_ble_eq_true rfl)) ⟨a1, a2, rfl, hc24⟩ rfl ⟨hr27.symm, rfl⟩) (fun v28 μ25 hc24 h => ?_)
      refine e_SJ [.int a1, .int a2] [.long v23, .long v6] dX4_canExchange_59 rfl (by decide) rfl rfl (Nat.le_of_ble_eq_true rfl) ⟨a1, a2, rfl, hc24⟩ ?_
      refine e_lor dX4_canExchange_62 ?_
      refine e_lcmp dX4_canExchange_63 ?_
      refine e_if_ne (tgt := 71) dX4_canExchange_64 rfl (fun hc29 => ?_) (fun hc29 => ?_)
      · rw [if_neg hc29] at h
        refine e_iconst dX4_canExchange_71 ci_0 ?_
        exact e_iret .boolean dX4_canExchange_72 rfl rfl (ret_eq h)
      · rw [if_pos hc29] at h
        refine e_iconst dX4_canExchange_67 ci_1 ?_
        refine e_goto (tgt := 72) dX4_canExchange_68 rfl ?_
        exact e_iret .boolean dX4_canExchange_72 rfl rfl (ret_eq h)
set_option maxRecDepth 20000 in
theorem ok_X4_canExchange (l : Launch) (hl : l.stackTraces = false) : MOK l yX4_canExchange.cls 3 44 mX4_canExchange := ⟨lk_all (List.forall_mem_cons.mpr ⟨⟨yX0_bit, cX0_bit, 2, (some .long), 1, 0, by decide, by decide, t_1 9 rfl rfl, hd_X0_bit, Or.inl ⟨rfl, sc_X0_bit l hl, t_2 131 rfl rfl, t_2 223 rfl rfl, t_2 130 rfl rfl⟩⟩, List.forall_mem_cons.mpr ⟨⟨yX0_corners, cX0_corners, 4, (some .long), 2, 21, by decide, by decide, t_1 9 rfl rfl, hd_X0_corners, Or.inl ⟨rfl, sc_X0_corners l hl, t_3 99 rfl rfl, t_3 97 rfl rfl, t_3 98 rfl rfl⟩⟩, nil_all⟩⟩), fun ix ci j h => lk_all (P := fun ix q => FldOK yX4_canExchange.cls ix q.1 q.2) (List.forall_mem_cons.mpr ⟨⟨_, rfl, by decide, t_1 52 rfl rfl⟩, List.forall_mem_cons.mpr ⟨⟨_, rfl, by decide, t_1 55 rfl rfl⟩, nil_all⟩⟩) ix (ci, j) h, lk_all (nil_all), lk_all (nil_all), lk_all (nil_all)⟩
theorem hd_X4_canExchange : CallHd yX4_canExchange 4 := ⟨by decide +kernel, by decide +kernel, by decide +kernel⟩
theorem sc_X4_canExchange (l : Launch) (hl : l.stackTraces = false) : SCon l yX4_canExchange cX4_canExchange 9 (some .boolean) 3 44 0 Γ_X4_canExchange := scon_of mX4_canExchange cls_ok hl (by decide +kernel) rfl rfl (ok_X4_canExchange l hl) rfl rfl b_X4_canExchange
def F_X4_copyFrom (k0 : Nat) (k1 : Nat) (μ : Mem) : Out := lt (sI μ k0 0 (μ.1 k1 0)) (fun μ1 => lt (sI μ1 k0 1 (μ1.1 k1 1)) (fun μ2 => lt (sJ μ2 k0 2 (μ2.2.1 k1 2)) (fun μ3 => lt (sJ μ3 k0 3 (μ3.2.1 k1 3)) (fun μ4 => lt (sJ μ4 k0 4 (μ4.2.1 k1 4)) (fun μ5 => lt (sJ μ5 k0 5 (μ5.2.1 k1 5)) (fun μ6 => rV μ6))))))
def Γ_X4_copyFrom : Gam := fun as μ r μ' => ∃ (k0 : Nat) (k1 : Nat), as = [.ref k0, .ref k1] ∧ okO k0 2 ∧ okO k1 2 ∧ F_X4_copyFrom k0 k1 μ = some (r, μ')
def mX4_copyFrom : MI := (cX4_copyFrom, [], [(9, 2, 0), (15, 2, 1), (18, 2, 2), (22, 2, 3), (25, 2, 4), (28, 2, 5)], [], [], [], [], (29, none), none)
set_option maxHeartbeats 4000000 in
theorem b_X4_copyFrom : ∀ as μ r μ', Γ_X4_copyFrom as μ r μ' → (elvL as).length ≤ 2 ∧ G mX4_copyFrom (Qe r μ') 0 (elv as 2) [] μ (rc r 0) := by
  intro as μ r μ' h
  obtain ⟨k0, k1, rfl, ho0, ho1, h⟩ := h
  refine ⟨Nat.le_of_ble_eq_true rfl, ?_⟩
  show G mX4_copyFrom (Qe r μ') 0 [some (.ref k0), some (.ref k1)] [] μ (rc r 0)
  unfold F_X4_copyFrom at h
  have hb9 : rc r 0 ≤ rc r 0 := Nat.le_refl _
  refine e_aload_n dX4_copyFrom_0 rfl ?_
  refine e_aload_n dX4_copyFrom_1 rfl ?_
  refine e_get (ci := 2) (j := 0) (t := 0) (v := .int (μ.1 k1 0)) dX4_copyFrom_2 rfl ho1.1 ho1.2 rfl rfl ?_
  refine e_putI (ci := 2) (j := 0) dX4_copyFrom_5 rfl ho0.1 ho0.2 rfl ?_
  refine e_naM (e := sI μ k0 0 (μ.1 k1 0)) h (fun μ1 eμ1 h => ?_)
  refine e_aload_n dX4_copyFrom_8 rfl ?_
  refine e_aload_n dX4_copyFrom_9 rfl ?_
  refine e_get (ci := 2) (j := 1) (t := 0) (v := .int (μ1.1 k1 1)) dX4_copyFrom_10 rfl ho1.1 ho1.2 rfl rfl ?_
  refine e_putI (ci := 2) (j := 1) dX4_copyFrom_13 rfl ho0.1 ho0.2 rfl ?_
  refine e_naM (e := sI μ1 k0 1 (μ1.1 k1 1)) h (fun μ2 eμ2 h => ?_)
  refine e_aload_n dX4_copyFrom_16 rfl ?_
  refine e_aload_n dX4_copyFrom_17 rfl ?_
  refine e_get (ci := 2) (j := 2) (t := 1) (v := .long (μ2.2.1 k1 2)) dX4_copyFrom_18 rfl ho1.1 ho1.2 rfl rfl ?_
  refine e_putJ (ci := 2) (j := 2) dX4_copyFrom_21 rfl ho0.1 ho0.2 rfl ?_
  refine e_naM (e := sJ μ2 k0 2 (μ2.2.1 k1 2)) h (fun μ3 eμ3 h => ?_)
  refine e_aload_n dX4_copyFrom_24 rfl ?_
  refine e_aload_n dX4_copyFrom_25 rfl ?_
  refine e_get (ci := 2) (j := 3) (t := 1) (v := .long (μ3.2.1 k1 3)) dX4_copyFrom_26 rfl ho1.1 ho1.2 rfl rfl ?_
  refine e_putJ (ci := 2) (j := 3) dX4_copyFrom_29 rfl ho0.1 ho0.2 rfl ?_
  refine e_naM (e := sJ μ3 k0 3 (μ3.2.1 k1 3)) h (fun μ4 eμ4 h => ?_)
  refine e_aload_n dX4_copyFrom_32 rfl ?_
  refine e_aload_n dX4_copyFrom_33 rfl ?_
  refine e_get (ci := 2) (j := 4) (t := 1) (v := .long (μ4.2.1 k1 4)) dX4_copyFrom_34 rfl ho1.1 ho1.2 rfl rfl ?_
  refine e_putJ (ci := 2) (j := 4) dX4_copyFrom_37 rfl ho0.1 ho0.2 rfl ?_
  refine e_naM (e := sJ μ4 k0 4 (μ4.2.1 k1 4)) h (fun μ5 eμ5 h => ?_)
  refine e_aload_n dX4_copyFrom_40 rfl ?_
  refine e_aload_n dX4_copyFrom_41 rfl ?_
  refine e_get (ci := 2) (j := 5) (t := 1) (v := .long (μ5.2.1 k1 5)) dX4_copyFrom_42 rfl ho1.1 ho1.2 rfl rfl ?_
  refine e_putJ (ci := 2) (j := 5) dX4_copyFrom_45 rfl ho0.1 ho0.2 rfl ?_
  refine e_naM (e := sJ μ5 k0 5 (μ5.2.1 k1 5)) h (fun μ6 eμ6 h => ?_)
  exact e_vret dX4_copyFrom_48 rfl (ret_eq h)
set_option maxRecDepth 20000 in
theorem ok_X4_copyFrom (l : Launch) (hl : l.stackTraces = false) : MOK l yX4_copyFrom.cls 1 0 mX4_copyFrom := ⟨lk_all (nil_all), fun ix ci j h => lk_all (P := fun ix q => FldOK yX4_copyFrom.cls ix q.1 q.2) (List.forall_mem_cons.mpr ⟨⟨_, rfl, by decide, t_1 46 rfl rfl⟩, List.forall_mem_cons.mpr ⟨⟨_, rfl, by decide, t_1 49 rfl rfl⟩, List.forall_mem_cons.mpr ⟨⟨_, rfl, by decide, t_1 52 rfl rfl⟩, List.forall_mem_cons.mpr ⟨⟨_, rfl, by decide, t_1 55 rfl rfl⟩, List.forall_mem_cons.mpr ⟨⟨_, rfl, by decide, t_1 58 rfl rfl⟩, List.forall_mem_cons.mpr ⟨⟨_, rfl, by decide, t_1 59 rfl rfl⟩, nil_all⟩⟩⟩⟩⟩⟩) ix (ci, j) h, lk_all (nil_all), lk_all (nil_all), lk_all (nil_all)⟩
theorem hd_X4_copyFrom : CallHd yX4_copyFrom 1 := ⟨by decide +kernel, by decide +kernel, by decide +kernel⟩
theorem sc_X4_copyFrom (l : Launch) (hl : l.stackTraces = false) : SCon l yX4_copyFrom cX4_copyFrom 2 none 1 0 0 Γ_X4_copyFrom := scon_of mX4_copyFrom cls_ok hl (by decide +kernel) rfl rfl (ok_X4_copyFrom l hl) rfl rfl b_X4_copyFrom
def F_X4_countExchangesOf (k0 : Nat) (a0 : Int32) (a1 : Int32) (μ : Mem) : Out := lt ((μ.2.1 k0 3) ^^^ (-1 : Int64)) (fun v1 => cI (F_X0_inRow v1 a0 μ) (fun v6 μ3 => cI (F_X0_inRow v1 a1 μ3) (fun v11 μ8 => lt (v6 &&& v11) (fun v12 => cI (F_X0_inRow (μ8.2.1 k0 2) a0 μ8) (fun v17 μ14 => cI (F_X0_inRow (μ14.2.1 k0 2) a1 μ14) (fun v22 μ19 => lt ((v12 &&& v17) &&& (v22 ^^^ (-1 : Int32))) (fun v23 => cI (F_X0_inRow (μ19.2.1 k0 2) a1 μ19) (fun v28 μ25 => cI (F_X0_inRow (μ25.2.1 k0 2) a0 μ25) (fun v33 μ30 => lt ((v12 &&& v28) &&& (v33 ^^^ (-1 : Int32))) (fun v34 => cI (F_J6_bitCount_0f7a4 v23 μ30) (fun v39 μ36 => cI (F_J6_bitCount_0f7a4 v34 μ36) (fun v44 μ41 => rI (v39 * v44) μ41))))))))))))
def Γ_X4_countExchangesOf : Gam := fun as μ r μ' => ∃ (k0 : Nat) (a0 : Int32) (a1 : Int32), as = [.ref k0, .int a0, .int a1] ∧ okO k0 2 ∧ F_X4_countExchangesOf k0 a0 a1 μ = some (r, μ')
def mX4_countExchangesOf : MI := (cX4_countExchangesOf, [(103, (0, 2, 0, 0, Γ_X0_inRow)), (106, (0, 1, 0, 0, Γ_J6_bitCount_0f7a4))], [(18, 2, 2), (22, 2, 3)], [], [(79, -1)], [], [], (29, none), (some .int))
set_option maxHeartbeats 4000000 in
theorem b_X4_countExchangesOf : ∀ as μ r μ', Γ_X4_countExchangesOf as μ r μ' → (elvL as).length ≤ 8 ∧ G mX4_countExchangesOf (Qe r μ') 0 (elv as 8) [] μ (rc r 0) := by
  intro as μ r μ' h
  obtain ⟨k0, a0, a1, rfl, ho0, h⟩ := h
  refine ⟨Nat.le_of_ble_eq_true rfl, ?_⟩
  show G mX4_countExchangesOf (Qe r μ') 0 [some (.ref k0), some (.int a0), some (.int a1), none, none, none, none, none] [] μ (rc r 0)
  unfold F_X4_countExchangesOf at h
  have hb9 : rc r 0 ≤ rc r 0 := Nat.le_refl _
  refine e_aload_n dX4_countExchangesOf_0 rfl ?_
  refine e_get (ci := 2) (j := 3) (t := 1) (v := .long (μ.2.1 k0 3)) dX4_countExchangesOf_1 rfl ho0.1 ho0.2 rfl rfl ?_
  refine e_ldc2 (v := (-1 : Int64)) dX4_countExchangesOf_4 rfl ?_
  refine e_lxor dX4_countExchangesOf_7 ?_
  refine e_naJ h (fun v1 ev1 h => ?_)
  refine e_lstore_nL [some (.ref k0), some (.int a0), some (.int a1), some (.long v1), none, none, none, none] dX4_countExchangesOf_8 (Nat.le_of_ble_eq_true rfl) rfl ?_
  refine e_lload_n dX4_countExchangesOf_9 rfl ?_
  refine e_iload_n dX4_countExchangesOf_10 rfl ?_
  refine cI_go h (fun E4 hc2 hr5 => e_SX [.long v1, .int a0] [] dX4_countExchangesOf_11 rfl (by decide) rfl rfl (Nat.le_of_ble_eq_true rfl) (hbr hr5 hb9 (Nat.le_of_ble_eq_true rfl)) ⟨v1, a0, rfl, hc2⟩ rfl ⟨hr5.symm, rfl⟩) (fun v6 μ3 hc2 h => ?_)
  refine e_SI [.long v1, .int a0] [] dX4_countExchangesOf_11 rfl (by decide) rfl rfl (Nat.le_of_ble_eq_true rfl) ⟨v1, a0, rfl, hc2⟩ ?_
  refine e_lload_n dX4_countExchangesOf_14 rfl ?_
  refine e_iload_n dX4_countExchangesOf_15 rfl ?_
  refine cI_go h (fun E9 hc7 hr10 => e_SX [.long v1, .int a1] [.int v6] dX4_countExchangesOf_16 rfl (by decide) rfl rfl (Nat.le_of_ble_eq_true rfl) (hbr hr10 hb9 (Nat.le_of_ble_eq_true rfl)) ⟨v1, a1, rfl, hc7⟩ rfl ⟨hr10.symm, rfl⟩) (fun v11 μ8 hc7 h => ?_)
  refine e_SI [.long v1, .int a1] [.int v6] dX4_countExchangesOf_16 rfl (by decide) rfl rfl (Nat.le_of_ble_eq_true rfl) ⟨v1, a1, rfl, hc7⟩ ?_
  refine e_iand dX4_countExchangesOf_19 ?_
  refine e_naI h (fun v12 ev12 h => ?_)
  refine e_istoreL [some (.ref k0), some (.int a0), some (.int a1), some (.long v1), none, some (.int v12), none, none] dX4_countExchangesOf_20 (Nat.le_of_ble_eq_true rfl) rfl ?_
  refine e_iload dX4_countExchangesOf_22 rfl ?_
  refine e_aload_n dX4_countExchangesOf_24 rfl ?_
  refine e_get (ci := 2) (j := 2) (t := 1) (v := .long (μ8.2.1 k0 2)) dX4_countExchangesOf_25 rfl ho0.1 ho0.2 rfl rfl ?_
  refine e_iload_n dX4_countExchangesOf_28 rfl ?_
  refine cI_go h (fun E15 hc13 hr16 => e_SX [.long (μ8.2.1 k0 2), .int a0] [.int v12] dX4_countExchangesOf_29 rfl (by decide) rfl rfl (Nat.le_of_ble_eq_true rfl) (hbr hr16 hb9 (Nat.le_of_ble_eq_true rfl)) ⟨μ8.2.1 k0 2, a0, rfl, hc13⟩ rfl ⟨hr16.symm, rfl⟩) (fun v17 μ14 hc13 h => ?_)
  refine e_SI [.long (μ8.2.1 k0 2), .int a0] [.int v12] dX4_countExchangesOf_29 rfl (by decide) rfl rfl (Nat.le_of_ble_eq_true rfl) ⟨μ8.2.1 k0 2, a0, rfl, hc13⟩ ?_
  refine e_iand dX4_countExchangesOf_32 ?_
  refine e_aload_n dX4_countExchangesOf_33 rfl ?_
  refine e_get (ci := 2) (j := 2) (t := 1) (v := .long (μ14.2.1 k0 2)) dX4_countExchangesOf_34 rfl ho0.1 ho0.2 rfl rfl ?_
  refine e_iload_n dX4_countExchangesOf_37 rfl ?_
  refine cI_go h (fun E20 hc18 hr21 => e_SX [.long (μ14.2.1 k0 2), .int a1] [.int (v12 &&& v17)] dX4_countExchangesOf_38 rfl (by decide) rfl rfl (Nat.le_of_ble_eq_true rfl) (hbr hr21 hb9 (Nat.le_of_ble_eq_true rfl)) ⟨μ14.2.1 k0 2, a1, rfl, hc18⟩ rfl ⟨hr21.symm, rfl⟩) (fun v22 μ19 hc18 h => ?_)
  refine e_SI [.long (μ14.2.1 k0 2), .int a1] [.int (v12 &&& v17)] dX4_countExchangesOf_38 rfl (by decide) rfl rfl (Nat.le_of_ble_eq_true rfl) ⟨μ14.2.1 k0 2, a1, rfl, hc18⟩ ?_
  refine e_iconst dX4_countExchangesOf_41 ci_m1 ?_
  refine e_ixor dX4_countExchangesOf_42 ?_
  refine e_iand dX4_countExchangesOf_43 ?_
  refine e_naI h (fun v23 ev23 h => ?_)
  refine e_istoreL [some (.ref k0), some (.int a0), some (.int a1), some (.long v1), none, some (.int v12), some (.int v23), none] dX4_countExchangesOf_44 (Nat.le_of_ble_eq_true rfl) rfl ?_
  refine e_iload dX4_countExchangesOf_46 rfl ?_
  refine e_aload_n dX4_countExchangesOf_48 rfl ?_
  refine e_get (ci := 2) (j := 2) (t := 1) (v := .long (μ19.2.1 k0 2)) dX4_countExchangesOf_49 rfl ho0.1 ho0.2 rfl rfl ?_
  refine e_iload_n dX4_countExchangesOf_52 rfl ?_
  refine cI_go h (fun E26 hc24 hr27 => e_SX [.long (μ19.2.1 k0 2), .int a1] [.int v12] dX4_countExchangesOf_53 rfl (by decide) rfl rfl (Nat.le_of_ble_eq_true rfl) (hbr hr27 hb9 (Nat.le_of_ble_eq_true rfl)) ⟨μ19.2.1 k0 2, a1, rfl, hc24⟩ rfl ⟨hr27.symm, rfl⟩) (fun v28 μ25 hc24 h => ?_)
  refine e_SI [.long (μ19.2.1 k0 2), .int a1] [.int v12] dX4_countExchangesOf_53 rfl (by decide) rfl rfl (Nat.le_of_ble_eq_true rfl) ⟨μ19.2.1 k0 2, a1, rfl, hc24⟩ ?_
  refine e_iand dX4_countExchangesOf_56 ?_
  refine e_aload_n dX4_countExchangesOf_57 rfl ?_
  refine e_get (ci := 2) (j := 2) (t := 1) (v := .long (μ25.2.1 k0 2)) dX4_countExchangesOf_58 rfl ho0.1 ho0.2 rfl rfl ?_
  refine e_iload_n dX4_countExchangesOf_61 rfl ?_
  refine cI_go h (fun E31 hc29 hr32 => e_SX [.long (μ25.2.1 k0 2), .int a0] [.int (v12 &&& v28)] dX4_countExchangesOf_62 rfl (by decide) rfl rfl (Nat.le_of_ble_eq_true rfl) (hbr hr32 hb9 (Nat.le_of_ble_eq_true rfl)) ⟨μ25.2.1 k0 2, a0, rfl, hc29⟩ rfl ⟨hr32.symm, rfl⟩) (fun v33 μ30 hc29 h => ?_)
  refine e_SI [.long (μ25.2.1 k0 2), .int a0] [.int (v12 &&& v28)] dX4_countExchangesOf_62 rfl (by decide) rfl rfl (Nat.le_of_ble_eq_true rfl) ⟨μ25.2.1 k0 2, a0, rfl, hc29⟩ ?_
  refine e_iconst dX4_countExchangesOf_65 ci_m1 ?_
  refine e_ixor dX4_countExchangesOf_66 ?_
  refine e_iand dX4_countExchangesOf_67 ?_
  refine e_naI h (fun v34 ev34 h => ?_)
  refine e_istoreL [some (.ref k0), some (.int a0), some (.int a1), some (.long v1), none, some (.int v12), some (.int v23), some (.int v34)] dX4_countExchangesOf_68 (Nat.le_of_ble_eq_true rfl) rfl ?_
  refine e_iload dX4_countExchangesOf_70 rfl ?_
  refine cI_go h (fun E37 hc35 hr38 => e_SX [.int v23] [] dX4_countExchangesOf_72 rfl (by decide) rfl rfl (Nat.le_of_ble_eq_true rfl) (hbr hr38 hb9 (Nat.le_of_ble_eq_true rfl)) ⟨v23, rfl, hc35⟩ rfl ⟨hr38.symm, rfl⟩) (fun v39 μ36 hc35 h => ?_)
  refine e_SI [.int v23] [] dX4_countExchangesOf_72 rfl (by decide) rfl rfl (Nat.le_of_ble_eq_true rfl) ⟨v23, rfl, hc35⟩ ?_
  refine e_iload dX4_countExchangesOf_75 rfl ?_
  refine cI_go h (fun E42 hc40 hr43 => e_SX [.int v34] [.int v39] dX4_countExchangesOf_77 rfl (by decide) rfl rfl (Nat.le_of_ble_eq_true rfl) (hbr hr43 hb9 (Nat.le_of_ble_eq_true rfl)) ⟨v34, rfl, hc40⟩ rfl ⟨hr43.symm, rfl⟩) (fun v44 μ41 hc40 h => ?_)
  refine e_SI [.int v34] [.int v39] dX4_countExchangesOf_77 rfl (by decide) rfl rfl (Nat.le_of_ble_eq_true rfl) ⟨v34, rfl, hc40⟩ ?_
  refine e_imul dX4_countExchangesOf_80 ?_
  exact e_iret .int dX4_countExchangesOf_81 rfl rfl (ret_eq h)
set_option maxRecDepth 20000 in
theorem ok_X4_countExchangesOf (l : Launch) (hl : l.stackTraces = false) : MOK l yX4_countExchangesOf.cls 2 22 mX4_countExchangesOf := ⟨lk_all (List.forall_mem_cons.mpr ⟨⟨yX0_inRow, cX0_inRow, 3, (some .int), 1, 0, by decide, by decide, t_1 9 rfl rfl, hd_X0_inRow, Or.inl ⟨rfl, sc_X0_inRow l hl, t_1 239 rfl rfl, t_1 237 rfl rfl, t_1 238 rfl rfl⟩⟩, List.forall_mem_cons.mpr ⟨⟨yJ6_bitCount_0f7a4, cJ6_bitCount_0f7a4, 1, (some .int), 1, 0, by decide, by decide, t_1 10 rfl rfl, hd_J6_bitCount_0f7a4, Or.inl ⟨rfl, sc_J6_bitCount_0f7a4 l hl, t_2 2 rfl rfl, t_2 0 rfl rfl, t_2 1 rfl rfl⟩⟩, nil_all⟩⟩), fun ix ci j h => lk_all (P := fun ix q => FldOK yX4_countExchangesOf.cls ix q.1 q.2) (List.forall_mem_cons.mpr ⟨⟨_, rfl, by decide, t_1 52 rfl rfl⟩, List.forall_mem_cons.mpr ⟨⟨_, rfl, by decide, t_1 55 rfl rfl⟩, nil_all⟩⟩) ix (ci, j) h, lk_all (nil_all), lk_all (List.forall_mem_cons.mpr ⟨t_1 236 rfl rfl, nil_all⟩), lk_all (nil_all)⟩
theorem hd_X4_countExchangesOf : CallHd yX4_countExchangesOf 2 := ⟨by decide +kernel, by decide +kernel, by decide +kernel⟩
theorem sc_X4_countExchangesOf (l : Launch) (hl : l.stackTraces = false) : SCon l yX4_countExchangesOf cX4_countExchangesOf 8 (some .int) 2 22 0 Γ_X4_countExchangesOf := scon_of mX4_countExchangesOf cls_ok hl (by decide +kernel) rfl rfl (ok_X4_countExchangesOf l hl) rfl rfl b_X4_countExchangesOf
def f_X4_countExchanges_16 (k0 : Nat) (k4 : Int32 → Int32 → Mem → Out) : Nat → Int32 → Int32 → Int32 → Mem → Out
  | 0, _, _, _, _ => none
  | n + 1, x1, x2, x3, μ => if (μ.1 k0 0) ≤ x3 then (lt (x2 + (1 : Int32)) (fun v4 => k4 x1 v4 μ)) else (cI (F_X4_countExchangesOf k0 x2 x3 μ) (fun v9 μ6 => lt (x1 + v9) (fun v10 => lt (x3 + (1 : Int32)) (fun v11 => f_X4_countExchanges_16 k0 k4 n v10 x2 v11 μ6))))
def f_X4_countExchanges_4 (k0 : Nat) : Nat → Int32 → Int32 → Mem → Out
  | 0, _, _, _ => none
  | n + 1, x1, x2, μ => if (μ.1 k0 0) ≤ x2 then (rI x1 μ) else (lt (x2 + (1 : Int32)) (fun v2 => f_X4_countExchanges_16 k0 (f_X4_countExchanges_4 k0 n) BIG x1 x2 v2 μ))
def F_X4_countExchanges (k0 : Nat) (μ : Mem) : Out := f_X4_countExchanges_4 k0 BIG (0 : Int32) (0 : Int32) μ
def Γ_X4_countExchanges : Gam := fun as μ r μ' => ∃ (k0 : Nat), as = [.ref k0] ∧ okO k0 2 ∧ F_X4_countExchanges k0 μ = some (r, μ')
def mX4_countExchanges : MI := (cX4_countExchanges, [(100, (1, 2, 0, 2, Γ_X4_countExchangesOf))], [(9, 2, 0)], [], [], [], [], (29, none), (some .int))
set_option maxHeartbeats 4000000 in
theorem g_X4_countExchanges_16 {r : Res} {μ' : Mem} (k0 : Nat) (ho0 : okO k0 2) {k4 : Int32 → Int32 → Mem → Out} (hk4 : ∀ (x1 : Int32) (x2 : Int32), ∀ (μ : Mem) (b : Nat), rc r 0 ≤ b → k4 x1 x2 μ = some (r, μ') → G mX4_countExchanges (Qe r μ') 4 [some (.ref k0), some (.int x1), some (.int x2), none] [] μ b) : ∀ n : Nat, ∀ (x1 : Int32) (x2 : Int32) (x3 : Int32), ∀ (μ : Mem) (b : Nat), rc r 0 ≤ b → f_X4_countExchanges_16 k0 k4 n x1 x2 x3 μ = some (r, μ') → G mX4_countExchanges (Qe r μ') 16 [some (.ref k0), some (.int x1), some (.int x2), some (.int x3)] [] μ b := by
  intro n
  induction n with
  | zero => intro x1 x2 x3 μ b hb9 h; exact nomatch (show (none : Out) = some _ from h)
  | succ n ih =>
    intro x1 x2 x3 μ b hb9 h
    rw [f_X4_countExchanges_16.eq_2] at h
    refine e_iload_n dX4_countExchanges_16 rfl ?_
    refine e_aload_n dX4_countExchanges_17 rfl ?_
    refine e_get (ci := 2) (j := 0) (t := 0) (v := .int (μ.1 k0 0)) dX4_countExchanges_18 rfl ho0.1 ho0.2 rfl rfl ?_
    refine e_ic_ge (tgt := 39) dX4_countExchanges_21 rfl (fun hc3 => ?_) (fun hc3 => ?_)
    · rw [if_pos hc3] at h
      refine e_iincN 2 (1 : Int32) dX4_countExchanges_39 rfl ci_1 h (fun y9 => [some (.ref k0), some (.int x1), some (.int y9), some (.int x3)]) (fun _ => rfl) (fun v4 ev4 h => ?_)
      refine e_goto (tgt := 4) dX4_countExchanges_42 rfl ?_
      exact e_le (hk4 x1 v4 μ _ hb9 h) ⟨rfl, rfl, rfl, trivial⟩
    · rw [if_neg hc3] at h
      refine e_iload_n dX4_countExchanges_24 rfl ?_
      refine e_aload_n dX4_countExchanges_25 rfl ?_
      refine e_iload_n dX4_countExchanges_26 rfl ?_
      refine e_iload_n dX4_countExchanges_27 rfl ?_
      refine cI_go h (fun E7 hc5 hr8 => e_VX [.int x2, .int x3] [.int x1] dX4_countExchanges_28 rfl rfl rfl rfl ho0 (Nat.le_of_ble_eq_true rfl) (hbr hr8 hb9 (Nat.le_of_ble_eq_true rfl)) ⟨k0, x2, x3, rfl, ho0, hc5⟩ rfl ⟨hr8.symm, rfl⟩) (fun v9 μ6 hc5 h => ?_)
      refine e_VI [.int x2, .int x3] [.int x1] dX4_countExchanges_28 rfl rfl rfl rfl ho0 (Nat.le_of_ble_eq_true rfl) ⟨k0, x2, x3, rfl, ho0, hc5⟩ ?_
      refine e_iadd dX4_countExchanges_31 ?_
      refine e_naI h (fun v10 ev10 h => ?_)
      refine e_istore_nL [some (.ref k0), some (.int v10), some (.int x2), some (.int x3)] dX4_countExchanges_32 (Nat.le_of_ble_eq_true rfl) rfl ?_
      refine e_iincN 3 (1 : Int32) dX4_countExchanges_33 rfl ci_1 h (fun y9 => [some (.ref k0), some (.int v10), some (.int x2), some (.int y9)]) (fun _ => rfl) (fun v11 ev11 h => ?_)
      refine e_goto (tgt := 16) dX4_countExchanges_36 rfl ?_
      exact e_le (ih v10 x2 v11 μ6 _ hb9 h) ⟨rfl, rfl, rfl, rfl, trivial⟩
set_option maxHeartbeats 4000000 in
theorem g_X4_countExchanges_4 {r : Res} {μ' : Mem} (k0 : Nat) (ho0 : okO k0 2) : ∀ n : Nat, ∀ (x1 : Int32) (x2 : Int32), ∀ (μ : Mem) (b : Nat), rc r 0 ≤ b → f_X4_countExchanges_4 k0 n x1 x2 μ = some (r, μ') → G mX4_countExchanges (Qe r μ') 4 [some (.ref k0), some (.int x1), some (.int x2), none] [] μ b := by
  intro n
  induction n with
  | zero => intro x1 x2 μ b hb9 h; exact nomatch (show (none : Out) = some _ from h)
  | succ n ih =>
    intro x1 x2 μ b hb9 h
    rw [f_X4_countExchanges_4.eq_2] at h
    refine e_iload_n dX4_countExchanges_4 rfl ?_
    refine e_aload_n dX4_countExchanges_5 rfl ?_
    refine e_get (ci := 2) (j := 0) (t := 0) (v := .int (μ.1 k0 0)) dX4_countExchanges_6 rfl ho0.1 ho0.2 rfl rfl ?_
    refine e_ic_ge (tgt := 45) dX4_countExchanges_9 rfl (fun hc1 => ?_) (fun hc1 => ?_)
    · rw [if_pos hc1] at h
      refine e_iload_n dX4_countExchanges_45 rfl ?_
      exact e_iret .int dX4_countExchanges_46 rfl rfl (ret_eq h)
    · rw [if_neg hc1] at h
      refine e_iload_n dX4_countExchanges_12 rfl ?_
      refine e_iconst dX4_countExchanges_13 ci_1 ?_
      refine e_iadd dX4_countExchanges_14 ?_
      refine e_naI h (fun v2 ev2 h => ?_)
      refine e_istore_nL [some (.ref k0), some (.int x1), some (.int x2), some (.int v2)] dX4_countExchanges_15 (Nat.le_of_ble_eq_true rfl) rfl ?_
      exact e_le (g_X4_countExchanges_16 k0 ho0 ih BIG x1 x2 v2 μ _ hb9 h) ⟨rfl, rfl, rfl, rfl, trivial⟩
set_option maxHeartbeats 4000000 in
theorem b_X4_countExchanges : ∀ as μ r μ', Γ_X4_countExchanges as μ r μ' → (elvL as).length ≤ 4 ∧ G mX4_countExchanges (Qe r μ') 0 (elv as 4) [] μ (rc r 0) := by
  intro as μ r μ' h
  obtain ⟨k0, rfl, ho0, h⟩ := h
  refine ⟨Nat.le_of_ble_eq_true rfl, ?_⟩
  show G mX4_countExchanges (Qe r μ') 0 [some (.ref k0), none, none, none] [] μ (rc r 0)
  unfold F_X4_countExchanges at h
  have hb9 : rc r 0 ≤ rc r 0 := Nat.le_refl _
  refine e_iconst dX4_countExchanges_0 ci_0 ?_
  refine e_istore_nL [some (.ref k0), some (.int (0 : Int32)), none, none] dX4_countExchanges_1 (Nat.le_of_ble_eq_true rfl) rfl ?_
  refine e_iconst dX4_countExchanges_2 ci_0 ?_
  refine e_istore_nL [some (.ref k0), some (.int (0 : Int32)), some (.int (0 : Int32)), none] dX4_countExchanges_3 (Nat.le_of_ble_eq_true rfl) rfl ?_
  exact e_le (g_X4_countExchanges_4 k0 ho0 BIG (0 : Int32) (0 : Int32) μ _ hb9 h) ⟨rfl, rfl, rfl, trivial⟩
set_option maxRecDepth 20000 in
theorem ok_X4_countExchanges (l : Launch) (hl : l.stackTraces = false) : MOK l yX4_countExchanges.cls 3 49 mX4_countExchanges := ⟨lk_all (List.forall_mem_cons.mpr ⟨⟨yX4_countExchangesOf, cX4_countExchangesOf, 8, (some .int), 2, 22, by decide, by decide, t_1 3 rfl rfl, hd_X4_countExchangesOf, Or.inr (Or.inl ⟨rfl, sc_X4_countExchangesOf l hl, t_1 235 rfl rfl, t_1 232 rfl rfl, t_1 234 rfl rfl, _, rfl, t_p 0 rfl⟩)⟩, nil_all⟩), fun ix ci j h => lk_all (P := fun ix q => FldOK yX4_countExchanges.cls ix q.1 q.2) (List.forall_mem_cons.mpr ⟨⟨_, rfl, by decide, t_1 46 rfl rfl⟩, nil_all⟩) ix (ci, j) h, lk_all (nil_all), lk_all (nil_all), lk_all (nil_all)⟩
theorem hd_X4_countExchanges : CallHd yX4_countExchanges 0 := ⟨by decide +kernel, by decide +kernel, by decide +kernel⟩
theorem sc_X4_countExchanges (l : Launch) (hl : l.stackTraces = false) : SCon l yX4_countExchanges cX4_countExchanges 4 (some .int) 3 49 0 Γ_X4_countExchanges := scon_of mX4_countExchanges cls_ok hl (by decide +kernel) rfl rfl (ok_X4_countExchanges l hl) rfl rfl b_X4_countExchanges
def F_X4_countFilled (k0 : Nat) (μ : Mem) : Out := cI (F_J13_bitCount_95d88 (μ.2.1 k0 2) μ) (fun v5 μ2 => rI v5 μ2)
def Γ_X4_countFilled : Gam := fun as μ r μ' => ∃ (k0 : Nat), as = [.ref k0] ∧ okO k0 2 ∧ F_X4_countFilled k0 μ = some (r, μ')
def mX4_countFilled : MI := (cX4_countFilled, [(46, (0, 1, 0, 0, Γ_J13_bitCount_95d88))], [(18, 2, 2)], [], [], [], [], (29, none), (some .int))
set_option maxHeartbeats 4000000 in
theorem b_X4_countFilled : ∀ as μ r μ', Γ_X4_countFilled as μ r μ' → (elvL as).length ≤ 1 ∧ G mX4_countFilled (Qe r μ') 0 (elv as 1) [] μ (rc r 0) := by
  intro as μ r μ' h
  obtain ⟨k0, rfl, ho0, h⟩ := h
  refine ⟨Nat.le_of_ble_eq_true rfl, ?_⟩
  show G mX4_countFilled (Qe r μ') 0 [some (.ref k0)] [] μ (rc r 0)
  unfold F_X4_countFilled at h
  have hb9 : rc r 0 ≤ rc r 0 := Nat.le_refl _
  refine e_aload_n dX4_countFilled_0 rfl ?_
  refine e_get (ci := 2) (j := 2) (t := 1) (v := .long (μ.2.1 k0 2)) dX4_countFilled_1 rfl ho0.1 ho0.2 rfl rfl ?_
  refine cI_go h (fun E3 hc1 hr4 => e_SX [.long (μ.2.1 k0 2)] [] dX4_countFilled_4 rfl (by decide) rfl rfl (Nat.le_of_ble_eq_true rfl) (hbr hr4 hb9 (Nat.le_of_ble_eq_true rfl)) ⟨μ.2.1 k0 2, rfl, hc1⟩ rfl ⟨hr4.symm, rfl⟩) (fun v5 μ2 hc1 h => ?_)
  refine e_SI [.long (μ.2.1 k0 2)] [] dX4_countFilled_4 rfl (by decide) rfl rfl (Nat.le_of_ble_eq_true rfl) ⟨μ.2.1 k0 2, rfl, hc1⟩ ?_
  exact e_iret .int dX4_countFilled_7 rfl rfl (ret_eq h)
set_option maxRecDepth 20000 in
theorem ok_X4_countFilled (l : Launch) (hl : l.stackTraces = false) : MOK l yX4_countFilled.cls 2 21 mX4_countFilled := ⟨lk_all (List.forall_mem_cons.mpr ⟨⟨yJ13_bitCount_95d88, cJ13_bitCount_95d88, 2, (some .int), 1, 0, by decide, by decide, t_1 7 rfl rfl, hd_J13_bitCount_95d88, Or.inl ⟨rfl, sc_J13_bitCount_95d88 l hl, t_1 155 rfl rfl, t_1 153 rfl rfl, t_1 154 rfl rfl⟩⟩, nil_all⟩), fun ix ci j h => lk_all (P := fun ix q => FldOK yX4_countFilled.cls ix q.1 q.2) (List.forall_mem_cons.mpr ⟨⟨_, rfl, by decide, t_1 52 rfl rfl⟩, nil_all⟩) ix (ci, j) h, lk_all (nil_all), lk_all (nil_all), lk_all (nil_all)⟩
theorem hd_X4_countFilled : CallHd yX4_countFilled 0 := ⟨by decide +kernel, by decide +kernel, by decide +kernel⟩
theorem sc_X4_countFilled (l : Launch) (hl : l.stackTraces = false) : SCon l yX4_countFilled cX4_countFilled 1 (some .int) 2 21 0 Γ_X4_countFilled := scon_of mX4_countFilled cls_ok hl (by decide +kernel) rfl rfl (ok_X4_countFilled l hl) rfl rfl b_X4_countFilled
def F_X4_lineMask (k0 : Nat) (a0 : Int32) (μ : Mem) : Out := cJ (F_X4_board k0 μ) (fun v5 μ2 => if (μ2.1 k0 0) ≤ a0 then (cJ (F_X0_columnMask (a0 - (μ2.1 k0 0)) μ2) (fun v11 μ8 => rJ (v5 &&& v11) μ8)) else (cJ (F_X0_rowMask a0 μ2) (fun v16 μ13 => rJ (v5 &&& v16) μ13)))
def Γ_X4_lineMask : Gam := fun as μ r μ' => ∃ (k0 : Nat) (a0 : Int32), as = [.ref k0, .int a0] ∧ okO k0 2 ∧ F_X4_lineMask k0 a0 μ = some (r, μ')
def mX4_lineMask : MI := (cX4_lineMask, [(35, (1, 0, 0, 2, Γ_X4_board)), (39, (0, 1, 0, 0, Γ_X0_rowMask)), (43, (0, 1, 0, 0, Γ_X0_columnMask))], [(9, 2, 0)], [], [], [], [], (29, none), (some .long))
set_option maxHeartbeats 4000000 in
theorem b_X4_lineMask : ∀ as μ r μ', Γ_X4_lineMask as μ r μ' → (elvL as).length ≤ 2 ∧ G mX4_lineMask (Qe r μ') 0 (elv as 2) [] μ (rc r 0) := by
  intro as μ r μ' h
  obtain ⟨k0, a0, rfl, ho0, h⟩ := h
  refine ⟨Nat.le_of_ble_eq_true rfl, ?_⟩
  show G mX4_lineMask (Qe r μ') 0 [some (.ref k0), some (.int a0)] [] μ (rc r 0)
  unfold F_X4_lineMask at h
  have hb9 : rc r 0 ≤ rc r 0 := Nat.le_refl _
  refine e_aload_n dX4_lineMask_0 rfl ?_
  refine cJ_go h (fun E3 hc1 hr4 => e_VX [] [] dX4_lineMask_1 rfl rfl rfl rfl ho0 (Nat.le_of_ble_eq_true rfl) (hbr hr4 hb9 (Nat.le_of_ble_eq_true rfl)) ⟨k0, rfl, ho0, hc1⟩ rfl ⟨hr4.symm, rfl⟩) (fun v5 μ2 hc1 h => ?_)
  refine e_VJ [] [] dX4_lineMask_1 rfl rfl rfl rfl ho0 (Nat.le_of_ble_eq_true rfl) ⟨k0, rfl, ho0, hc1⟩ ?_
  refine e_iload_n dX4_lineMask_4 rfl ?_
  refine e_aload_n dX4_lineMask_5 rfl ?_
  refine e_get (ci := 2) (j := 0) (t := 0) (v := .int (μ2.1 k0 0)) dX4_lineMask_6 rfl ho0.1 ho0.2 rfl rfl ?_
  refine e_ic_ge (tgt := 19) dX4_lineMask_9 rfl (fun hc6 => ?_) (fun hc6 => ?_)
  · rw [if_pos hc6] at h
    refine e_iload_n dX4_lineMask_19 rfl ?_
    refine e_aload_n dX4_lineMask_20 rfl ?_
    refine e_get (ci := 2) (j := 0) (t := 0) (v := .int (μ2.1 k0 0)) dX4_lineMask_21 rfl ho0.1 ho0.2 rfl rfl ?_
    refine e_isub dX4_lineMask_24 ?_
    refine cJ_go h (fun E9 hc7 hr10 => e_SX [.int (a0 - (μ2.1 k0 0))] [.long v5] dX4_lineMask_25 rfl (by decide) rfl rfl (Nat.le_of_ble_eq_true rfl) (hbr hr10 hb9 (Nat.le_of_ble_eq_true rfl)) ⟨a0 - (μ2.1 k0 0), rfl, hc7⟩ rfl ⟨hr10.symm, rfl⟩) (fun v11 μ8 hc7 h => ?_)
    refine e_SJ [.int (a0 - (μ2.1 k0 0))] [.long v5] dX4_lineMask_25 rfl (by decide) rfl rfl (Nat.le_of_ble_eq_true rfl) ⟨a0 - (μ2.1 k0 0), rfl, hc7⟩ ?_
    refine e_land dX4_lineMask_28 ?_
    exact e_lret dX4_lineMask_29 rfl (ret_eq h)
  · rw [if_neg hc6] at h
    refine e_iload_n dX4_lineMask_12 rfl ?_
    refine cJ_go h (fun E14 hc12 hr15 => e_SX [.int a0] [.long v5] dX4_lineMask_13 rfl (by decide) rfl rfl (Nat.le_of_ble_eq_true rfl) (hbr hr15 hb9 (Nat.le_of_ble_eq_true rfl)) ⟨a0, rfl, hc12⟩ rfl ⟨hr15.symm, rfl⟩) (fun v16 μ13 hc12 h => ?_)
    refine e_SJ [.int a0] [.long v5] dX4_lineMask_13 rfl (by decide) rfl rfl (Nat.le_of_ble_eq_true rfl) ⟨a0, rfl, hc12⟩ ?_
    refine e_goto (tgt := 28) dX4_lineMask_16 rfl ?_
    refine e_land dX4_lineMask_28 ?_
    exact e_lret dX4_lineMask_29 rfl (ret_eq h)
set_option maxRecDepth 20000 in
theorem ok_X4_lineMask (l : Launch) (hl : l.stackTraces = false) : MOK l yX4_lineMask.cls 2 20 mX4_lineMask := ⟨lk_all (List.forall_mem_cons.mpr ⟨⟨yX4_board, cX4_board, 1, (some .long), 1, 0, by decide, by decide, t_1 3 rfl rfl, hd_X4_board, Or.inr (Or.inl ⟨rfl, sc_X4_board l hl, t_1 189 rfl rfl, t_1 186 rfl rfl, t_1 187 rfl rfl, _, rfl, t_1 188 rfl rfl⟩)⟩, List.forall_mem_cons.mpr ⟨⟨yX0_rowMask, cX0_rowMask, 1, (some .long), 1, 0, by decide, by decide, t_1 9 rfl rfl, hd_X0_rowMask, Or.inl ⟨rfl, sc_X0_rowMask l hl, t_1 193 rfl rfl, t_1 191 rfl rfl, t_1 192 rfl rfl⟩⟩, List.forall_mem_cons.mpr ⟨⟨yX0_columnMask, cX0_columnMask, 1, (some .long), 1, 0, by decide, by decide, t_1 9 rfl rfl, hd_X0_columnMask, Or.inl ⟨rfl, sc_X0_columnMask l hl, t_1 197 rfl rfl, t_1 195 rfl rfl, t_1 196 rfl rfl⟩⟩, nil_all⟩⟩⟩), fun ix ci j h => lk_all (P := fun ix q => FldOK yX4_lineMask.cls ix q.1 q.2) (List.forall_mem_cons.mpr ⟨⟨_, rfl, by decide, t_1 46 rfl rfl⟩, nil_all⟩) ix (ci, j) h, lk_all (nil_all), lk_all (nil_all), lk_all (nil_all)⟩
theorem hd_X4_lineMask : CallHd yX4_lineMask 1 := ⟨by decide +kernel, by decide +kernel, by decide +kernel⟩
theorem sc_X4_lineMask (l : Launch) (hl : l.stackTraces = false) : SCon l yX4_lineMask cX4_lineMask 2 (some .long) 2 20 0 Γ_X4_lineMask := scon_of mX4_lineMask cls_ok hl (by decide +kernel) rfl rfl (ok_X4_lineMask l hl) rfl rfl b_X4_lineMask
def F_X4_countOf (k0 : Nat) (a0 : Int32) (μ : Mem) : Out := cJ (F_X4_lineMask k0 a0 μ) (fun v5 μ2 => cI (F_J13_bitCount_95d88 ((μ.2.1 k0 2) &&& v5) μ2) (fun v10 μ7 => rI v10 μ7))
def Γ_X4_countOf : Gam := fun as μ r μ' => ∃ (k0 : Nat) (a0 : Int32), as = [.ref k0, .int a0] ∧ okO k0 2 ∧ F_X4_countOf k0 a0 μ = some (r, μ')
def mX4_countOf : MI := (cX4_countOf, [(46, (0, 1, 0, 0, Γ_J13_bitCount_95d88)), (52, (1, 1, 0, 2, Γ_X4_lineMask))], [(18, 2, 2)], [], [], [], [], (29, none), (some .int))
set_option maxHeartbeats 4000000 in
theorem b_X4_countOf : ∀ as μ r μ', Γ_X4_countOf as μ r μ' → (elvL as).length ≤ 2 ∧ G mX4_countOf (Qe r μ') 0 (elv as 2) [] μ (rc r 0) := by
  intro as μ r μ' h
  obtain ⟨k0, a0, rfl, ho0, h⟩ := h
  refine ⟨Nat.le_of_ble_eq_true rfl, ?_⟩
  show G mX4_countOf (Qe r μ') 0 [some (.ref k0), some (.int a0)] [] μ (rc r 0)
  unfold F_X4_countOf at h
  have hb9 : rc r 0 ≤ rc r 0 := Nat.le_refl _
  refine e_aload_n dX4_countOf_0 rfl ?_
  refine e_get (ci := 2) (j := 2) (t := 1) (v := .long (μ.2.1 k0 2)) dX4_countOf_1 rfl ho0.1 ho0.2 rfl rfl ?_
  refine e_aload_n dX4_countOf_4 rfl ?_
  refine e_iload_n dX4_countOf_5 rfl ?_
  refine cJ_go h (fun E3 hc1 hr4 => e_VX [.int a0] [.long (μ.2.1 k0 2)] dX4_countOf_6 rfl rfl rfl rfl ho0 (Nat.le_of_ble_eq_true rfl) (hbr hr4 hb9 (Nat.le_of_ble_eq_true rfl)) ⟨k0, a0, rfl, ho0, hc1⟩ rfl ⟨hr4.symm, rfl⟩) (fun v5 μ2 hc1 h => ?_)
  refine e_VJ [.int a0] [.long (μ.2.1 k0 2)] dX4_countOf_6 rfl rfl rfl rfl ho0 (Nat.le_of_ble_eq_true rfl) ⟨k0, a0, rfl, ho0, hc1⟩ ?_
  refine e_land dX4_countOf_9 ?_
  refine cI_go h (fun E8 hc6 hr9 => e_SX [.long ((μ.2.1 k0 2) &&& v5)] [] dX4_countOf_10 rfl (by decide) rfl rfl (Nat.le_of_ble_eq_true rfl) (hbr hr9 hb9 (Nat.le_of_ble_eq_true rfl)) ⟨(μ.2.1 k0 2) &&& v5, rfl, hc6⟩ rfl ⟨hr9.symm, rfl⟩) (fun v10 μ7 hc6 h => ?_)
  refine e_SI [.long ((μ.2.1 k0 2) &&& v5)] [] dX4_countOf_10 rfl (by decide) rfl rfl (Nat.le_of_ble_eq_true rfl) ⟨(μ.2.1 k0 2) &&& v5, rfl, hc6⟩ ?_
  exact e_iret .int dX4_countOf_13 rfl rfl (ret_eq h)
set_option maxRecDepth 20000 in
theorem ok_X4_countOf (l : Launch) (hl : l.stackTraces = false) : MOK l yX4_countOf.cls 3 41 mX4_countOf := ⟨lk_all (List.forall_mem_cons.mpr ⟨⟨yJ13_bitCount_95d88, cJ13_bitCount_95d88, 2, (some .int), 1, 0, by decide, by decide, t_1 7 rfl rfl, hd_J13_bitCount_95d88, Or.inl ⟨rfl, sc_J13_bitCount_95d88 l hl, t_1 155 rfl rfl, t_1 153 rfl rfl, t_1 154 rfl rfl⟩⟩, List.forall_mem_cons.mpr ⟨⟨yX4_lineMask, cX4_lineMask, 2, (some .long), 2, 20, by decide, by decide, t_1 3 rfl rfl, hd_X4_lineMask, Or.inr (Or.inl ⟨rfl, sc_X4_lineMask l hl, t_1 185 rfl rfl, t_1 182 rfl rfl, t_1 183 rfl rfl, _, rfl, t_1 184 rfl rfl⟩)⟩, nil_all⟩⟩), fun ix ci j h => lk_all (P := fun ix q => FldOK yX4_countOf.cls ix q.1 q.2) (List.forall_mem_cons.mpr ⟨⟨_, rfl, by decide, t_1 52 rfl rfl⟩, nil_all⟩) ix (ci, j) h, lk_all (nil_all), lk_all (nil_all), lk_all (nil_all)⟩
theorem hd_X4_countOf : CallHd yX4_countOf 1 := ⟨by decide +kernel, by decide +kernel, by decide +kernel⟩
theorem sc_X4_countOf (l : Launch) (hl : l.stackTraces = false) : SCon l yX4_countOf cX4_countOf 2 (some .int) 3 41 0 Γ_X4_countOf := scon_of mX4_countOf cls_ok hl (by decide +kernel) rfl rfl (ok_X4_countOf l hl) rfl rfl b_X4_countOf
def F_X4_wantedOf (k0 : Nat) (a0 : Int32) (μ : Mem) : Out := if (μ.1 k0 0) ≤ a0 then (cI (F_X1_digit (μ.2.1 k0 5) (a0 - (μ.1 k0 0)) μ) (fun v6 μ3 => rI v6 μ3)) else (cI (F_X1_digit (μ.2.1 k0 4) a0 μ) (fun v11 μ8 => rI v11 μ8))
def Γ_X4_wantedOf : Gam := fun as μ r μ' => ∃ (k0 : Nat) (a0 : Int32), as = [.ref k0, .int a0] ∧ okO k0 2 ∧ F_X4_wantedOf k0 a0 μ = some (r, μ')
def mX4_wantedOf : MI := (cX4_wantedOf, [(55, (0, 2, 0, 0, Γ_X1_digit))], [(9, 2, 0), (25, 2, 4), (28, 2, 5)], [], [], [], [], (29, none), (some .int))
set_option maxHeartbeats 4000000 in
theorem b_X4_wantedOf : ∀ as μ r μ', Γ_X4_wantedOf as μ r μ' → (elvL as).length ≤ 2 ∧ G mX4_wantedOf (Qe r μ') 0 (elv as 2) [] μ (rc r 0) := by
  intro as μ r μ' h
  obtain ⟨k0, a0, rfl, ho0, h⟩ := h
  refine ⟨Nat.le_of_ble_eq_true rfl, ?_⟩
  show G mX4_wantedOf (Qe r μ') 0 [some (.ref k0), some (.int a0)] [] μ (rc r 0)
  unfold F_X4_wantedOf at h
  have hb9 : rc r 0 ≤ rc r 0 := Nat.le_refl _
  refine e_iload_n dX4_wantedOf_0 rfl ?_
  refine e_aload_n dX4_wantedOf_1 rfl ?_
  refine e_get (ci := 2) (j := 0) (t := 0) (v := .int (μ.1 k0 0)) dX4_wantedOf_2 rfl ho0.1 ho0.2 rfl rfl ?_
  refine e_ic_ge (tgt := 19) dX4_wantedOf_5 rfl (fun hc1 => ?_) (fun hc1 => ?_)
  · rw [if_pos hc1] at h
    refine e_aload_n dX4_wantedOf_19 rfl ?_
    refine e_get (ci := 2) (j := 5) (t := 1) (v := .long (μ.2.1 k0 5)) dX4_wantedOf_20 rfl ho0.1 ho0.2 rfl rfl ?_
    refine e_iload_n dX4_wantedOf_23 rfl ?_
    refine e_aload_n dX4_wantedOf_24 rfl ?_
    refine e_get (ci := 2) (j := 0) (t := 0) (v := .int (μ.1 k0 0)) dX4_wantedOf_25 rfl ho0.1 ho0.2 rfl rfl ?_
    refine e_isub dX4_wantedOf_28 ?_
    refine cI_go h (fun E4 hc2 hr5 => e_SX [.long (μ.2.1 k0 5), .int (a0 - (μ.1 k0 0))] [] dX4_wantedOf_29 rfl (by decide) rfl rfl (Nat.le_of_ble_eq_true rfl) (hbr hr5 hb9 (Nat.le_of_ble_eq_true rfl)) ⟨μ.2.1 k0 5, a0 - (μ.1 k0 0), rfl, hc2⟩ rfl ⟨hr5.symm, rfl⟩) (fun v6 μ3 hc2 h => ?_)
    refine e_SI [.long (μ.2.1 k0 5), .int (a0 - (μ.1 k0 0))] [] dX4_wantedOf_29 rfl (by decide) rfl rfl (Nat.le_of_ble_eq_true rfl) ⟨μ.2.1 k0 5, a0 - (μ.1 k0 0), rfl, hc2⟩ ?_
    exact e_iret .int dX4_wantedOf_32 rfl rfl (ret_eq h)
  · rw [if_neg hc1] at h
    refine e_aload_n dX4_wantedOf_8 rfl ?_
    refine e_get (ci := 2) (j := 4) (t := 1) (v := .long (μ.2.1 k0 4)) dX4_wantedOf_9 rfl ho0.1 ho0.2 rfl rfl ?_
    refine e_iload_n dX4_wantedOf_12 rfl ?_
    refine cI_go h (fun E9 hc7 hr10 => e_SX [.long (μ.2.1 k0 4), .int a0] [] dX4_wantedOf_13 rfl (by decide) rfl rfl (Nat.le_of_ble_eq_true rfl) (hbr hr10 hb9 (Nat.le_of_ble_eq_true rfl)) ⟨μ.2.1 k0 4, a0, rfl, hc7⟩ rfl ⟨hr10.symm, rfl⟩) (fun v11 μ8 hc7 h => ?_)
    refine e_SI [.long (μ.2.1 k0 4), .int a0] [] dX4_wantedOf_13 rfl (by decide) rfl rfl (Nat.le_of_ble_eq_true rfl) ⟨μ.2.1 k0 4, a0, rfl, hc7⟩ ?_
    refine e_goto (tgt := 32) dX4_wantedOf_16 rfl ?_
    exact e_iret .int dX4_wantedOf_32 rfl rfl (ret_eq h)
set_option maxRecDepth 20000 in
theorem ok_X4_wantedOf (l : Launch) (hl : l.stackTraces = false) : MOK l yX4_wantedOf.cls 2 22 mX4_wantedOf := ⟨lk_all (List.forall_mem_cons.mpr ⟨⟨yX1_digit, cX1_digit, 3, (some .int), 1, 0, by decide, by decide, t_1 8 rfl rfl, hd_X1_digit, Or.inl ⟨rfl, sc_X1_digit l hl, t_1 169 rfl rfl, t_1 203 rfl rfl, t_1 168 rfl rfl⟩⟩, nil_all⟩), fun ix ci j h => lk_all (P := fun ix q => FldOK yX4_wantedOf.cls ix q.1 q.2) (List.forall_mem_cons.mpr ⟨⟨_, rfl, by decide, t_1 46 rfl rfl⟩, List.forall_mem_cons.mpr ⟨⟨_, rfl, by decide, t_1 58 rfl rfl⟩, List.forall_mem_cons.mpr ⟨⟨_, rfl, by decide, t_1 59 rfl rfl⟩, nil_all⟩⟩⟩) ix (ci, j) h, lk_all (nil_all), lk_all (nil_all), lk_all (nil_all)⟩
theorem hd_X4_wantedOf : CallHd yX4_wantedOf 1 := ⟨by decide +kernel, by decide +kernel, by decide +kernel⟩
theorem sc_X4_wantedOf (l : Launch) (hl : l.stackTraces = false) : SCon l yX4_wantedOf cX4_wantedOf 2 (some .int) 2 22 0 Γ_X4_wantedOf := scon_of mX4_wantedOf cls_ok hl (by decide +kernel) rfl rfl (ok_X4_wantedOf l hl) rfl rfl b_X4_wantedOf
def f_X4_countWrongLines_4 (k0 : Nat) : Nat → Int32 → Int32 → Mem → Out
  | 0, _, _, _ => none
  | n + 1, x1, x2, μ => if ((μ.1 k0 0) + (μ.1 k0 1)) ≤ x2 then (rI x1 μ) else (cI (F_X4_countOf k0 x2 μ) (fun v6 μ3 => cI (F_X4_wantedOf k0 x2 μ3) (fun v11 μ8 => if v6 = v11 then (cI (F_X7_oneIf (0 : Int32) μ8) (fun v17 μ14 => lt (x1 + v17) (fun v18 => lt (x2 + (1 : Int32)) (fun v19 => f_X4_countWrongLines_4 k0 n v18 v19 μ14)))) else (cI (F_X7_oneIf (1 : Int32) μ8) (fun v24 μ21 => lt (x1 + v24) (fun v25 => lt (x2 + (1 : Int32)) (fun v26 => f_X4_countWrongLines_4 k0 n v25 v26 μ21)))))))
def F_X4_countWrongLines (k0 : Nat) (μ : Mem) : Out := f_X4_countWrongLines_4 k0 BIG (0 : Int32) (0 : Int32) μ
def Γ_X4_countWrongLines : Gam := fun as μ r μ' => ∃ (k0 : Nat), as = [.ref k0] ∧ okO k0 2 ∧ F_X4_countWrongLines k0 μ = some (r, μ')
def mX4_countWrongLines : MI := (cX4_countWrongLines, [(64, (1, 1, 0, 2, Γ_X4_countOf)), (68, (1, 1, 0, 2, Γ_X4_wantedOf)), (71, (2, 1, 0, 0, Γ_X7_oneIf))], [(9, 2, 0), (15, 2, 1)], [], [], [], [], (29, none), (some .int))
set_option maxHeartbeats 4000000 in
theorem g_X4_countWrongLines_4 {r : Res} {μ' : Mem} (k0 : Nat) (ho0 : okO k0 2) : ∀ n : Nat, ∀ (x1 : Int32) (x2 : Int32), ∀ (μ : Mem) (b : Nat), rc r 0 ≤ b → f_X4_countWrongLines_4 k0 n x1 x2 μ = some (r, μ') → G mX4_countWrongLines (Qe r μ') 4 [some (.ref k0), some (.int x1), some (.int x2)] [] μ b := by
  intro n
  induction n with
  | zero => intro x1 x2 μ b hb9 h; exact nomatch (show (none : Out) = some _ from h)
  | succ n ih =>
    intro x1 x2 μ b hb9 h
    rw [f_X4_countWrongLines_4.eq_2] at h
    refine e_iload_n dX4_countWrongLines_4 rfl ?_
    refine e_aload_n dX4_countWrongLines_5 rfl ?_
    refine e_get (ci := 2) (j := 0) (t := 0) (v := .int (μ.1 k0 0)) dX4_countWrongLines_6 rfl ho0.1 ho0.2 rfl rfl ?_
    refine e_aload_n dX4_countWrongLines_9 rfl ?_
    refine e_get (ci := 2) (j := 1) (t := 0) (v := .int (μ.1 k0 1)) dX4_countWrongLines_10 rfl ho0.1 ho0.2 rfl rfl ?_
    refine e_iadd dX4_countWrongLines_13 ?_
    refine e_ic_ge (tgt := 47) dX4_countWrongLines_14 rfl (fun hc1 => ?_) (fun hc1 => ?_)
    · rw [if_pos hc1] at h
      refine e_iload_n dX4_countWrongLines_47 rfl ?_
      exact e_iret .int dX4_countWrongLines_48 rfl rfl (ret_eq h)
    · rw [if_neg hc1] at h
      refine e_iload_n dX4_countWrongLines_17 rfl ?_
      refine e_aload_n dX4_countWrongLines_18 rfl ?_
      refine e_iload_n dX4_countWrongLines_19 rfl ?_
      refine cI_go h (fun E4 hc2 hr5 => e_VX [.int x2] [.int x1] dX4_countWrongLines_20 rfl rfl rfl rfl ho0 (Nat.le_of_ble_eq_true rfl) (hbr hr5 hb9 (Nat.le_of_ble_eq_true rfl)) ⟨k0, x2, rfl, ho0, hc2⟩ rfl ⟨hr5.symm, rfl⟩) (fun v6 μ3 hc2 h => ?_)
      refine e_VI [.int x2] [.int x1] dX4_countWrongLines_20 rfl rfl rfl rfl ho0 (Nat.le_of_ble_eq_true rfl) ⟨k0, x2, rfl, ho0, hc2⟩ ?_
      refine e_aload_n dX4_countWrongLines_23 rfl ?_
      refine e_iload_n dX4_countWrongLines_24 rfl ?_
      refine cI_go h (fun E9 hc7 hr10 => e_VX [.int x2] [.int v6, .int x1] dX4_countWrongLines_25 rfl rfl rfl rfl ho0 (Nat.le_of_ble_eq_true rfl) (hbr hr10 hb9 (Nat.le_of_ble_eq_true rfl)) ⟨k0, x2, rfl, ho0, hc7⟩ rfl ⟨hr10.symm, rfl⟩) (fun v11 μ8 hc7 h => ?_)
      refine e_VI [.int x2] [.int v6, .int x1] dX4_countWrongLines_25 rfl rfl rfl rfl ho0 (Nat.le_of_ble_eq_true rfl) ⟨k0, x2, rfl, ho0, hc7⟩ ?_
      refine e_ic_eq (tgt := 35) dX4_countWrongLines_28 rfl (fun hc12 => ?_) (fun hc12 => ?_)
      · rw [if_pos hc12] at h
        refine e_iconst dX4_countWrongLines_35 ci_0 ?_
        refine cI_go h (fun E15 hc13 hr16 => e_SX [.int (0 : Int32)] [.int x1] dX4_countWrongLines_36 rfl (by decide) rfl rfl (Nat.le_of_ble_eq_true rfl) (hbr hr16 hb9 (Nat.le_of_ble_eq_true rfl)) ⟨(0 : Int32), rfl, hc13⟩ rfl ⟨hr16.symm, rfl⟩) (fun v17 μ14 hc13 h => ?_)
        refine e_SI [.int (0 : Int32)] [.int x1] dX4_countWrongLines_36 rfl (by decide) rfl rfl (Nat.le_of_ble_eq_true rfl) ⟨(0 : Int32), rfl, hc13⟩ ?_
        refine e_iadd dX4_countWrongLines_39 ?_
        refine e_naI h (fun v18 ev18 h => ?_)
        refine e_istore_nL [some (.ref k0), some (.int v18), some (.int x2)] dX4_countWrongLines_40 (Nat.le_of_ble_eq_true rfl) rfl ?_
        refine e_iincN 2 (1 : Int32) dX4_countWrongLines_41 rfl ci_1 h (fun y9 => [some (.ref k0), some (.int v18), some (.int y9)]) (fun _ => rfl) (fun v19 ev19 h => ?_)
        refine e_goto (tgt := 4) dX4_countWrongLines_44 rfl ?_
        exact e_le (ih v18 v19 μ14 _ hb9 h) ⟨rfl, rfl, rfl, trivial⟩
      · rw [if_neg hc12] at h
        refine e_iconst dX4_countWrongLines_31 ci_1 ?_
        refine e_goto (tgt := 36) dX4_countWrongLines_32 rfl ?_
        refine cI_go h (fun E22 hc20 hr23 => e_SX [.int (1 : Int32)] [.int x1] dX4_countWrongLines_36 rfl (by decide) rfl rfl (Nat.le_of_ble_eq_true rfl) (hbr hr23 hb9 (Nat.le_of_ble_eq_true rfl)) ⟨(1 : Int32), rfl, hc20⟩ rfl ⟨hr23.symm, rfl⟩) (fun v24 μ21 hc20 h => ?_)
        refine e_SI [.int (1 : Int32)] [.int x1] dX4_countWrongLines_36 rfl (by decide) rfl rfl (Nat.le_of_ble_eq_true rfl) ⟨(1 : Int32), rfl, hc20⟩ ?_
        refine e_iadd dX4_countWrongLines_39 ?_
        refine e_naI h (fun v25 ev25 h => ?_)
        refine e_istore_nL [some (.ref k0), some (.int v25), some (.int x2)] dX4_countWrongLines_40 (Nat.le_of_ble_eq_true rfl) rfl ?_
        refine e_iincN 2 (1 : Int32) dX4_countWrongLines_41 rfl ci_1 h (fun y9 => [some (.ref k0), some (.int v25), some (.int y9)]) (fun _ => rfl) (fun v26 ev26 h => ?_)
        refine e_goto (tgt := 4) dX4_countWrongLines_44 rfl ?_
        exact e_le (ih v25 v26 μ21 _ hb9 h) ⟨rfl, rfl, rfl, trivial⟩
set_option maxHeartbeats 4000000 in
theorem b_X4_countWrongLines : ∀ as μ r μ', Γ_X4_countWrongLines as μ r μ' → (elvL as).length ≤ 3 ∧ G mX4_countWrongLines (Qe r μ') 0 (elv as 3) [] μ (rc r 0) := by
  intro as μ r μ' h
  obtain ⟨k0, rfl, ho0, h⟩ := h
  refine ⟨Nat.le_of_ble_eq_true rfl, ?_⟩
  show G mX4_countWrongLines (Qe r μ') 0 [some (.ref k0), none, none] [] μ (rc r 0)
  unfold F_X4_countWrongLines at h
  have hb9 : rc r 0 ≤ rc r 0 := Nat.le_refl _
  refine e_iconst dX4_countWrongLines_0 ci_0 ?_
  refine e_istore_nL [some (.ref k0), some (.int (0 : Int32)), none] dX4_countWrongLines_1 (Nat.le_of_ble_eq_true rfl) rfl ?_
  refine e_iconst dX4_countWrongLines_2 ci_0 ?_
  refine e_istore_nL [some (.ref k0), some (.int (0 : Int32)), some (.int (0 : Int32))] dX4_countWrongLines_3 (Nat.le_of_ble_eq_true rfl) rfl ?_
  exact e_le (g_X4_countWrongLines_4 k0 ho0 BIG (0 : Int32) (0 : Int32) μ _ hb9 h) ⟨rfl, rfl, rfl, trivial⟩
set_option maxRecDepth 20000 in
theorem ok_X4_countWrongLines (l : Launch) (hl : l.stackTraces = false) : MOK l yX4_countWrongLines.cls 4 62 mX4_countWrongLines := ⟨lk_all (List.forall_mem_cons.mpr ⟨⟨yX4_countOf, cX4_countOf, 2, (some .int), 3, 41, by decide, by decide, t_1 3 rfl rfl, hd_X4_countOf, Or.inr (Or.inl ⟨rfl, sc_X4_countOf l hl, t_1 181 rfl rfl, t_1 178 rfl rfl, t_1 179 rfl rfl, _, rfl, t_1 180 rfl rfl⟩)⟩, List.forall_mem_cons.mpr ⟨⟨yX4_wantedOf, cX4_wantedOf, 2, (some .int), 2, 22, by decide, by decide, t_1 3 rfl rfl, hd_X4_wantedOf, Or.inr (Or.inl ⟨rfl, sc_X4_wantedOf l hl, t_1 202 rfl rfl, t_1 199 rfl rfl, t_1 200 rfl rfl, _, rfl, t_1 201 rfl rfl⟩)⟩, List.forall_mem_cons.mpr ⟨⟨yX7_oneIf, cX7_oneIf, 1, (some .int), 1, 0, by decide, by decide, t_1 1 rfl rfl, hd_X7_oneIf, Or.inr (Or.inr (Or.inl ⟨rfl, sc_X7_oneIf l hl, t_1 206 rfl rfl, List.mem_of_getElem? (i := 0) rfl, t_1 205 rfl rfl⟩))⟩, nil_all⟩⟩⟩), fun ix ci j h => lk_all (P := fun ix q => FldOK yX4_countWrongLines.cls ix q.1 q.2) (List.forall_mem_cons.mpr ⟨⟨_, rfl, by decide, t_1 46 rfl rfl⟩, List.forall_mem_cons.mpr ⟨⟨_, rfl, by decide, t_1 49 rfl rfl⟩, nil_all⟩⟩) ix (ci, j) h, lk_all (nil_all), lk_all (nil_all), lk_all (nil_all)⟩
theorem hd_X4_countWrongLines : CallHd yX4_countWrongLines 0 := ⟨by decide +kernel, by decide +kernel, by decide +kernel⟩
theorem sc_X4_countWrongLines (l : Launch) (hl : l.stackTraces = false) : SCon l yX4_countWrongLines cX4_countWrongLines 3 (some .int) 4 62 0 Γ_X4_countWrongLines := scon_of mX4_countWrongLines cls_ok hl (by decide +kernel) rfl rfl (ok_X4_countWrongLines l hl) rfl rfl b_X4_countWrongLines
def f_X4_cutTo_65 (k0 : Nat) : Nat → Int32 → Mem → Out
  | 0, _, _ => none
  | n + 1, x3, μ => if (6 : Int32) ≤ x3 then (rV μ) else (cJ (F_X1_changed (μ.2.1 k0 5) x3 (0 : Int32) μ) (fun v28 μ25 => lt (sJ μ25 k0 5 v28) (fun μ29 => lt (x3 + (1 : Int32)) (fun v30 => f_X4_cutTo_65 k0 n v30 μ29))))
def f_X4_cutTo_38 (k0 : Nat) : Nat → Int32 → Int32 → Mem → Out
  | 0, _, _, _ => none
  | n + 1, x2, x3, μ => if (6 : Int32) ≤ x3 then (f_X4_cutTo_65 k0 BIG x2 μ) else (cJ (F_X1_changed (μ.2.1 k0 4) x3 (0 : Int32) μ) (fun v20 μ17 => lt (sJ μ17 k0 4 v20) (fun μ21 => lt (x3 + (1 : Int32)) (fun v22 => f_X4_cutTo_38 k0 n x2 v22 μ21))))
def F_X4_cutTo (k0 : Nat) (a0 : Int32) (a1 : Int32) (μ : Mem) : Out := lt (sI μ k0 0 a0) (fun μ1 => lt (sI μ1 k0 1 a1) (fun μ2 => cJ (F_X4_board k0 μ2) (fun v7 μ4 => lt (sJ μ4 k0 2 ((μ2.2.1 k0 2) &&& v7)) (fun μ8 => cJ (F_X4_board k0 μ8) (fun v13 μ10 => lt (sJ μ10 k0 3 ((μ8.2.1 k0 3) &&& v13)) (fun μ14 => f_X4_cutTo_38 k0 BIG a1 a0 μ14))))))
def Γ_X4_cutTo : Gam := fun as μ r μ' => ∃ (k0 : Nat) (a0 : Int32) (a1 : Int32), as = [.ref k0, .int a0, .int a1] ∧ okO k0 2 ∧ F_X4_cutTo k0 a0 a1 μ = some (r, μ')
def mX4_cutTo : MI := (cX4_cutTo, [(35, (1, 0, 0, 2, Γ_X4_board)), (81, (0, 3, 0, 0, Γ_X1_changed))], [(9, 2, 0), (15, 2, 1), (18, 2, 2), (22, 2, 3), (25, 2, 4), (28, 2, 5)], [], [], [], [], (29, none), none)
set_option maxHeartbeats 4000000 in
theorem g_X4_cutTo_65 {r : Res} {μ' : Mem} (k0 : Nat) (ho0 : okO k0 2) : ∀ n : Nat, ∀ (x3 : Int32), ∀ (μ : Mem) (b : Nat), rc r 0 ≤ b → f_X4_cutTo_65 k0 n x3 μ = some (r, μ') → G mX4_cutTo (Qe r μ') 65 [some (.ref k0), none, none, some (.int x3)] [] μ b := by
  intro n
  induction n with
  | zero => intro x3 μ b hb9 h; exact nomatch (show (none : Out) = some _ from h)
  | succ n ih =>
    intro x3 μ b hb9 h
    rw [f_X4_cutTo_65.eq_2] at h
    refine e_iload_n dX4_cutTo_65 rfl ?_
    refine e_bipush dX4_cutTo_66 cb_6 ?_
    refine e_ic_ge (tgt := 90) dX4_cutTo_68 rfl (fun hc23 => ?_) (fun hc23 => ?_)
    · rw [if_pos hc23] at h
      exact e_vret dX4_cutTo_90 rfl (ret_eq h)
    · rw [if_neg hc23] at h
      refine e_aload_n dX4_cutTo_71 rfl ?_
      refine e_aload_n dX4_cutTo_72 rfl ?_
      refine e_get (ci := 2) (j := 5) (t := 1) (v := .long (μ.2.1 k0 5)) dX4_cutTo_73 rfl ho0.1 ho0.2 rfl rfl ?_
      refine e_iload_n dX4_cutTo_76 rfl ?_
      refine e_iconst dX4_cutTo_77 ci_0 ?_
      refine cJ_go h (fun E26 hc24 hr27 => e_SX [.long (μ.2.1 k0 5), .int x3, .int (0 : Int32)] [.ref k0] dX4_cutTo_78 rfl (by decide) rfl rfl (Nat.le_of_ble_eq_true rfl) (hbr hr27 hb9 (Nat.le_of_ble_eq_true rfl)) ⟨μ.2.1 k0 5, x3, (0 : Int32), rfl, hc24⟩ rfl ⟨hr27.symm, rfl⟩) (fun v28 μ25 hc24 h => ?_)
      refine e_SJ [.long (μ.2.1 k0 5), .int x3, .int (0 : Int32)] [.ref k0] dX4_cutTo_78 rfl (by decide) rfl rfl (Nat.le_of_ble_eq_true rfl) ⟨μ.2.1 k0 5, x3, (0 : Int32), rfl, hc24⟩ ?_
      refine e_putJ (ci := 2) (j := 5) dX4_cutTo_81 rfl ho0.1 ho0.2 rfl ?_
      refine e_naM (e := sJ μ25 k0 5 v28) h (fun μ29 eμ29 h => ?_)
      refine e_iincN 3 (1 : Int32) dX4_cutTo_84 rfl ci_1 h (fun y9 => [some (.ref k0), none, none, some (.int y9)]) (fun _ => rfl) (fun v30 ev30 h => ?_)
      refine e_goto (tgt := 65) dX4_cutTo_87 rfl ?_
      exact e_le (ih v30 μ29 _ hb9 h) ⟨rfl, rfl, trivial⟩
set_option maxHeartbeats 4000000 in
theorem g_X4_cutTo_38 {r : Res} {μ' : Mem} (k0 : Nat) (ho0 : okO k0 2) : ∀ n : Nat, ∀ (x2 : Int32) (x3 : Int32), ∀ (μ : Mem) (b : Nat), rc r 0 ≤ b → f_X4_cutTo_38 k0 n x2 x3 μ = some (r, μ') → G mX4_cutTo (Qe r μ') 38 [some (.ref k0), none, some (.int x2), some (.int x3)] [] μ b := by
  intro n
  induction n with
  | zero => intro x2 x3 μ b hb9 h; exact nomatch (show (none : Out) = some _ from h)
  | succ n ih =>
    intro x2 x3 μ b hb9 h
    rw [f_X4_cutTo_38.eq_2] at h
    refine e_iload_n dX4_cutTo_38 rfl ?_
    refine e_bipush dX4_cutTo_39 cb_6 ?_
    refine e_ic_ge (tgt := 63) dX4_cutTo_41 rfl (fun hc15 => ?_) (fun hc15 => ?_)
    · rw [if_pos hc15] at h
      refine e_iload_n dX4_cutTo_63 rfl ?_
      refine e_istore_nL [some (.ref k0), none, some (.int x2), some (.int x2)] dX4_cutTo_64 (Nat.le_of_ble_eq_true rfl) rfl ?_
      exact e_le (g_X4_cutTo_65 k0 ho0 BIG x2 μ _ hb9 h) ⟨rfl, rfl, trivial⟩
    · rw [if_neg hc15] at h
      refine e_aload_n dX4_cutTo_44 rfl ?_
      refine e_aload_n dX4_cutTo_45 rfl ?_
      refine e_get (ci := 2) (j := 4) (t := 1) (v := .long (μ.2.1 k0 4)) dX4_cutTo_46 rfl ho0.1 ho0.2 rfl rfl ?_
      refine e_iload_n dX4_cutTo_49 rfl ?_
      refine e_iconst dX4_cutTo_50 ci_0 ?_
      refine cJ_go h (fun E18 hc16 hr19 => e_SX [.long (μ.2.1 k0 4), .int x3, .int (0 : Int32)] [.ref k0] dX4_cutTo_51 rfl (by decide) rfl rfl (Nat.le_of_ble_eq_true rfl) (hbr hr19 hb9 (Nat.le_of_ble_eq_true rfl)) ⟨μ.2.1 k0 4, x3, (0 : Int32), rfl, hc16⟩ rfl ⟨hr19.symm, rfl⟩) (fun v20 μ17 hc16 h => ?_)
      refine e_SJ [.long (μ.2.1 k0 4), .int x3, .int (0 : Int32)] [.ref k0] dX4_cutTo_51 rfl (by decide) rfl rfl (Nat.le_of_ble_eq_true rfl) ⟨μ.2.1 k0 4, x3, (0 : Int32), rfl, hc16⟩ ?_
      refine e_putJ (ci := 2) (j := 4) dX4_cutTo_54 rfl ho0.1 ho0.2 rfl ?_
      refine e_naM (e := sJ μ17 k0 4 v20) h (fun μ21 eμ21 h => ?_)
      refine e_iincN 3 (1 : Int32) dX4_cutTo_57 rfl ci_1 h (fun y9 => [some (.ref k0), none, some (.int x2), some (.int y9)]) (fun _ => rfl) (fun v22 ev22 h => ?_)
      refine e_goto (tgt := 38) dX4_cutTo_60 rfl ?_
      exact e_le (ih x2 v22 μ21 _ hb9 h) ⟨rfl, rfl, rfl, trivial⟩
set_option maxHeartbeats 4000000 in
theorem b_X4_cutTo : ∀ as μ r μ', Γ_X4_cutTo as μ r μ' → (elvL as).length ≤ 4 ∧ G mX4_cutTo (Qe r μ') 0 (elv as 4) [] μ (rc r 0) := by
  intro as μ r μ' h
  obtain ⟨k0, a0, a1, rfl, ho0, h⟩ := h
  refine ⟨Nat.le_of_ble_eq_true rfl, ?_⟩
  show G mX4_cutTo (Qe r μ') 0 [some (.ref k0), some (.int a0), some (.int a1), none] [] μ (rc r 0)
  unfold F_X4_cutTo at h
  have hb9 : rc r 0 ≤ rc r 0 := Nat.le_refl _
  refine e_aload_n dX4_cutTo_0 rfl ?_
  refine e_iload_n dX4_cutTo_1 rfl ?_
  refine e_putI (ci := 2) (j := 0) dX4_cutTo_2 rfl ho0.1 ho0.2 rfl ?_
  refine e_naM (e := sI μ k0 0 a0) h (fun μ1 eμ1 h => ?_)
  refine e_aload_n dX4_cutTo_5 rfl ?_
  refine e_iload_n dX4_cutTo_6 rfl ?_
  refine e_putI (ci := 2) (j := 1) dX4_cutTo_7 rfl ho0.1 ho0.2 rfl ?_
  refine e_naM (e := sI μ1 k0 1 a1) h (fun μ2 eμ2 h => ?_)
  refine e_aload_n dX4_cutTo_10 rfl ?_
  refine e_dup dX4_cutTo_11 rfl ?_
  refine e_get (ci := 2) (j := 2) (t := 1) (v := .long (μ2.2.1 k0 2)) dX4_cutTo_12 rfl ho0.1 ho0.2 rfl rfl ?_
  refine e_aload_n dX4_cutTo_15 rfl ?_
  refine cJ_go h (fun E5 hc3 hr6 => e_VX [] [.long (μ2.2.1 k0 2), .ref k0] dX4_cutTo_16 rfl rfl rfl rfl ho0 (Nat.le_of_ble_eq_true rfl) (hbr hr6 hb9 (Nat.le_of_ble_eq_true rfl)) ⟨k0, rfl, ho0, hc3⟩ rfl ⟨hr6.symm, rfl⟩) (fun v7 μ4 hc3 h => ?_)
  refine e_VJ [] [.long (μ2.2.1 k0 2), .ref k0] dX4_cutTo_16 rfl rfl rfl rfl ho0 (Nat.le_of_ble_eq_true rfl) ⟨k0, rfl, ho0, hc3⟩ ?_
  refine e_land dX4_cutTo_19 ?_
  refine e_putJ (ci := 2) (j := 2) dX4_cutTo_20 rfl ho0.1 ho0.2 rfl ?_
  refine e_naM (e := sJ μ4 k0 2 ((μ2.2.1 k0 2) &&& v7)) h (fun μ8 eμ8 h => ?_)
  refine e_aload_n dX4_cutTo_23 rfl ?_
  refine e_dup dX4_cutTo_24 rfl ?_
  refine e_get (ci := 2) (j := 3) (t := 1) (v := .long (μ8.2.1 k0 3)) dX4_cutTo_25 rfl ho0.1 ho0.2 rfl rfl ?_
  refine e_aload_n dX4_cutTo_28 rfl ?_
  refine cJ_go h (fun E11 hc9 hr12 => e_VX [] [.long (μ8.2.1 k0 3), .ref k0] dX4_cutTo_29 rfl rfl rfl rfl ho0 (Nat.le_of_ble_eq_true rfl) (hbr hr12 hb9 (Nat.le_of_ble_eq_true rfl)) ⟨k0, rfl, ho0, hc9⟩ rfl ⟨hr12.symm, rfl⟩) (fun v13 μ10 hc9 h => ?_)
  refine e_VJ [] [.long (μ8.2.1 k0 3), .ref k0] dX4_cutTo_29 rfl rfl rfl rfl ho0 (Nat.le_of_ble_eq_true rfl) ⟨k0, rfl, ho0, hc9⟩ ?_
  refine e_land dX4_cutTo_32 ?_
  refine e_putJ (ci := 2) (j := 3) dX4_cutTo_33 rfl ho0.1 ho0.2 rfl ?_
  refine e_naM (e := sJ μ10 k0 3 ((μ8.2.1 k0 3) &&& v13)) h (fun μ14 eμ14 h => ?_)
  refine e_iload_n dX4_cutTo_36 rfl ?_
  refine e_istore_nL [some (.ref k0), some (.int a0), some (.int a1), some (.int a0)] dX4_cutTo_37 (Nat.le_of_ble_eq_true rfl) rfl ?_
  exact e_le (g_X4_cutTo_38 k0 ho0 BIG a1 a0 μ14 _ hb9 h) ⟨rfl, rfl, rfl, trivial⟩
set_option maxRecDepth 20000 in
theorem ok_X4_cutTo (l : Launch) (hl : l.stackTraces = false) : MOK l yX4_cutTo.cls 2 23 mX4_cutTo := ⟨lk_all (List.forall_mem_cons.mpr ⟨⟨yX4_board, cX4_board, 1, (some .long), 1, 0, by decide, by decide, t_1 3 rfl rfl, hd_X4_board, Or.inr (Or.inl ⟨rfl, sc_X4_board l hl, t_1 189 rfl rfl, t_1 186 rfl rfl, t_1 187 rfl rfl, _, rfl, t_1 188 rfl rfl⟩)⟩, List.forall_mem_cons.mpr ⟨⟨yX1_changed, cX1_changed, 4, (some .long), 1, 0, by decide, by decide, t_1 8 rfl rfl, hd_X1_changed, Or.inl ⟨rfl, sc_X1_changed l hl, t_2 212 rfl rfl, t_2 210 rfl rfl, t_2 211 rfl rfl⟩⟩, nil_all⟩⟩), fun ix ci j h => lk_all (P := fun ix q => FldOK yX4_cutTo.cls ix q.1 q.2) (List.forall_mem_cons.mpr ⟨⟨_, rfl, by decide, t_1 46 rfl rfl⟩, List.forall_mem_cons.mpr ⟨⟨_, rfl, by decide, t_1 49 rfl rfl⟩, List.forall_mem_cons.mpr ⟨⟨_, rfl, by decide, t_1 52 rfl rfl⟩, List.forall_mem_cons.mpr ⟨⟨_, rfl, by decide, t_1 55 rfl rfl⟩, List.forall_mem_cons.mpr ⟨⟨_, rfl, by decide, t_1 58 rfl rfl⟩, List.forall_mem_cons.mpr ⟨⟨_, rfl, by decide, t_1 59 rfl rfl⟩, nil_all⟩⟩⟩⟩⟩⟩) ix (ci, j) h, lk_all (nil_all), lk_all (nil_all), lk_all (nil_all)⟩
theorem hd_X4_cutTo : CallHd yX4_cutTo 2 := ⟨by decide +kernel, by decide +kernel, by decide +kernel⟩
theorem sc_X4_cutTo (l : Launch) (hl : l.stackTraces = false) : SCon l yX4_cutTo cX4_cutTo 4 none 2 23 0 Γ_X4_cutTo := scon_of mX4_cutTo cls_ok hl (by decide +kernel) rfl rfl (ok_X4_cutTo l hl) rfl rfl b_X4_cutTo
def f_X4_exchangedColumns_21 (k0 : Nat) (k6 : Int32 → Int32 → Int32 → Int32 → Mem → Out) : Nat → Int32 → Int32 → Int32 → Int32 → Int32 → Mem → Out
  | 0, _, _, _, _, _, _ => none
  | n + 1, x1, x2, x4, x5, x6, μ => if (μ.1 k0 1) ≤ x6 then (lt (x5 + (1 : Int32)) (fun v4 => k6 x1 x2 x4 v4 μ)) else (cI (F_X4_canExchange k0 x1 x2 x5 x6 μ) (fun v9 μ6 => if v9 = 0 then (lt (x6 + (1 : Int32)) (fun v11 => f_X4_exchangedColumns_21 k0 k6 n x1 x2 x4 x5 v11 μ6)) else (if x4 = 0 then (rI (((10 : Int32) * x5) + x6) μ6) else (lt (x4 + (-1 : Int32)) (fun v13 => lt (x6 + (1 : Int32)) (fun v14 => f_X4_exchangedColumns_21 k0 k6 n x1 x2 v13 x5 v14 μ6))))))
def f_X4_exchangedColumns_6 (k0 : Nat) : Nat → Int32 → Int32 → Int32 → Int32 → Mem → Out
  | 0, _, _, _, _, _ => none
  | n + 1, x1, x2, x4, x5, μ => if (μ.1 k0 1) ≤ x5 then (rI (0 : Int32) μ) else (lt (x5 + (1 : Int32)) (fun v2 => f_X4_exchangedColumns_21 k0 (f_X4_exchangedColumns_6 k0 n) BIG x1 x2 x4 x5 v2 μ))
def F_X4_exchangedColumns (k0 : Nat) (a0 : Int32) (a1 : Int32) (a2 : Int32) (μ : Mem) : Out := f_X4_exchangedColumns_6 k0 BIG a0 a1 a2 (0 : Int32) μ
def Γ_X4_exchangedColumns : Gam := fun as μ r μ' => ∃ (k0 : Nat) (a0 : Int32) (a1 : Int32) (a2 : Int32), as = [.ref k0, .int a0, .int a1, .int a2] ∧ okO k0 2 ∧ F_X4_exchangedColumns k0 a0 a1 a2 μ = some (r, μ')
def mX4_exchangedColumns : MI := (cX4_exchangedColumns, [(114, (1, 4, 0, 2, Γ_X4_canExchange))], [(15, 2, 1)], [], [], [], [], (29, none), (some .int))
set_option maxHeartbeats 4000000 in
theorem g_X4_exchangedColumns_21 {r : Res} {μ' : Mem} (k0 : Nat) (ho0 : okO k0 2) {k6 : Int32 → Int32 → Int32 → Int32 → Mem → Out} (hk6 : ∀ (x1 : Int32) (x2 : Int32) (x4 : Int32) (x5 : Int32), ∀ (μ : Mem) (b : Nat), rc r 0 ≤ b → k6 x1 x2 x4 x5 μ = some (r, μ') → G mX4_exchangedColumns (Qe r μ') 6 [some (.ref k0), some (.int x1), some (.int x2), none, some (.int x4), some (.int x5), none] [] μ b) : ∀ n : Nat, ∀ (x1 : Int32) (x2 : Int32) (x4 : Int32) (x5 : Int32) (x6 : Int32), ∀ (μ : Mem) (b : Nat), rc r 0 ≤ b → f_X4_exchangedColumns_21 k0 k6 n x1 x2 x4 x5 x6 μ = some (r, μ') → G mX4_exchangedColumns (Qe r μ') 21 [some (.ref k0), some (.int x1), some (.int x2), none, some (.int x4), some (.int x5), some (.int x6)] [] μ b := by
  intro n
  induction n with
  | zero => intro x1 x2 x4 x5 x6 μ b hb9 h; exact nomatch (show (none : Out) = some _ from h)
  | succ n ih =>
    intro x1 x2 x4 x5 x6 μ b hb9 h
    rw [f_X4_exchangedColumns_21.eq_2] at h
    refine e_iload dX4_exchangedColumns_21 rfl ?_
    refine e_aload_n dX4_exchangedColumns_23 rfl ?_
    refine e_get (ci := 2) (j := 1) (t := 0) (v := .int (μ.1 k0 1)) dX4_exchangedColumns_24 rfl ho0.1 ho0.2 rfl rfl ?_
    refine e_ic_ge (tgt := 66) dX4_exchangedColumns_27 rfl (fun hc3 => ?_) (fun hc3 => ?_)
    · rw [if_pos hc3] at h
      refine e_iincN 5 (1 : Int32) dX4_exchangedColumns_66 rfl ci_1 h (fun y9 => [some (.ref k0), some (.int x1), some (.int x2), none, some (.int x4), some (.int y9), some (.int x6)]) (fun _ => rfl) (fun v4 ev4 h => ?_)
      refine e_goto (tgt := 6) dX4_exchangedColumns_69 rfl ?_
      exact e_le (hk6 x1 x2 x4 v4 μ _ hb9 h) ⟨rfl, rfl, rfl, rfl, rfl, trivial⟩
    · rw [if_neg hc3] at h
      refine e_aload_n dX4_exchangedColumns_30 rfl ?_
      refine e_iload_n dX4_exchangedColumns_31 rfl ?_
      refine e_iload_n dX4_exchangedColumns_32 rfl ?_
      refine e_iload dX4_exchangedColumns_33 rfl ?_
      refine e_iload dX4_exchangedColumns_35 rfl ?_
      refine cI_go h (fun E7 hc5 hr8 => e_VX [.int x1, .int x2, .int x5, .int x6] [] dX4_exchangedColumns_37 rfl rfl rfl rfl ho0 (Nat.le_of_ble_eq_true rfl) (hbr hr8 hb9 (Nat.le_of_ble_eq_true rfl)) ⟨k0, x1, x2, x5, x6, rfl, ho0, hc5⟩ rfl ⟨hr8.symm, rfl⟩) (fun v9 μ6 hc5 h => ?_)
      refine e_VI [.int x1, .int x2, .int x5, .int x6] [] dX4_exchangedColumns_37 rfl rfl rfl rfl ho0 (Nat.le_of_ble_eq_true rfl) ⟨k0, x1, x2, x5, x6, rfl, ho0, hc5⟩ ?_
      refine e_if_eq (tgt := 60) dX4_exchangedColumns_40 rfl (fun hc10 => ?_) (fun hc10 => ?_)
      · rw [if_pos hc10] at h
        refine e_iincN 6 (1 : Int32) dX4_exchangedColumns_60 rfl ci_1 h (fun y9 => [some (.ref k0), some (.int x1), some (.int x2), none, some (.int x4), some (.int x5), some (.int y9)]) (fun _ => rfl) (fun v11 ev11 h => ?_)
        refine e_goto (tgt := 21) dX4_exchangedColumns_63 rfl ?_
        exact e_le (ih x1 x2 x4 x5 v11 μ6 _ hb9 h) ⟨rfl, rfl, rfl, rfl, rfl, rfl, trivial⟩
      · rw [if_neg hc10] at h
        refine e_iload dX4_exchangedColumns_43 rfl ?_
        refine e_if_ne (tgt := 57) dX4_exchangedColumns_45 rfl (fun hc12 => ?_) (fun hc12 => ?_)
        · rw [if_neg hc12] at h
          refine e_iincN 4 (-1 : Int32) dX4_exchangedColumns_57 rfl ci_m1 h (fun y9 => [some (.ref k0), some (.int x1), some (.int x2), none, some (.int y9), some (.int x5), some (.int x6)]) (fun _ => rfl) (fun v13 ev13 h => ?_)
          refine e_iincN 6 (1 : Int32) dX4_exchangedColumns_60 rfl ci_1 h (fun y9 => [some (.ref k0), some (.int x1), some (.int x2), none, some (.int v13), some (.int x5), some (.int y9)]) (fun _ => rfl) (fun v14 ev14 h => ?_)
          refine e_goto (tgt := 21) dX4_exchangedColumns_63 rfl ?_
          exact e_le (ih x1 x2 v13 x5 v14 μ6 _ hb9 h) ⟨rfl, rfl, rfl, rfl, rfl, rfl, trivial⟩
        · rw [if_pos hc12] at h
          refine e_bipush dX4_exchangedColumns_48 cb_10 ?_
          refine e_iload dX4_exchangedColumns_50 rfl ?_
          refine e_imul dX4_exchangedColumns_52 ?_
          refine e_iload dX4_exchangedColumns_53 rfl ?_
          refine e_iadd dX4_exchangedColumns_55 ?_
          exact e_iret .int dX4_exchangedColumns_56 rfl rfl (ret_eq h)
set_option maxHeartbeats 4000000 in
theorem g_X4_exchangedColumns_6 {r : Res} {μ' : Mem} (k0 : Nat) (ho0 : okO k0 2) : ∀ n : Nat, ∀ (x1 : Int32) (x2 : Int32) (x4 : Int32) (x5 : Int32), ∀ (μ : Mem) (b : Nat), rc r 0 ≤ b → f_X4_exchangedColumns_6 k0 n x1 x2 x4 x5 μ = some (r, μ') → G mX4_exchangedColumns (Qe r μ') 6 [some (.ref k0), some (.int x1), some (.int x2), none, some (.int x4), some (.int x5), none] [] μ b := by
  intro n
  induction n with
  | zero => intro x1 x2 x4 x5 μ b hb9 h; exact nomatch (show (none : Out) = some _ from h)
  | succ n ih =>
    intro x1 x2 x4 x5 μ b hb9 h
    rw [f_X4_exchangedColumns_6.eq_2] at h
    refine e_iload dX4_exchangedColumns_6 rfl ?_
    refine e_aload_n dX4_exchangedColumns_8 rfl ?_
    refine e_get (ci := 2) (j := 1) (t := 0) (v := .int (μ.1 k0 1)) dX4_exchangedColumns_9 rfl ho0.1 ho0.2 rfl rfl ?_
    refine e_ic_ge (tgt := 72) dX4_exchangedColumns_12 rfl (fun hc1 => ?_) (fun hc1 => ?_)
    · rw [if_pos hc1] at h
      refine e_iconst dX4_exchangedColumns_72 ci_0 ?_
      exact e_iret .int dX4_exchangedColumns_73 rfl rfl (ret_eq h)
    · rw [if_neg hc1] at h
      refine e_iload dX4_exchangedColumns_15 rfl ?_
      refine e_iconst dX4_exchangedColumns_17 ci_1 ?_
      refine e_iadd dX4_exchangedColumns_18 ?_
      refine e_naI h (fun v2 ev2 h => ?_)
      refine e_istoreL [some (.ref k0), some (.int x1), some (.int x2), none, some (.int x4), some (.int x5), some (.int v2)] dX4_exchangedColumns_19 (Nat.le_of_ble_eq_true rfl) rfl ?_
      exact e_le (g_X4_exchangedColumns_21 k0 ho0 ih BIG x1 x2 x4 x5 v2 μ _ hb9 h) ⟨rfl, rfl, rfl, rfl, rfl, rfl, trivial⟩
set_option maxHeartbeats 4000000 in
theorem b_X4_exchangedColumns : ∀ as μ r μ', Γ_X4_exchangedColumns as μ r μ' → (elvL as).length ≤ 7 ∧ G mX4_exchangedColumns (Qe r μ') 0 (elv as 7) [] μ (rc r 0) := by
  intro as μ r μ' h
  obtain ⟨k0, a0, a1, a2, rfl, ho0, h⟩ := h
  refine ⟨Nat.le_of_ble_eq_true rfl, ?_⟩
  show G mX4_exchangedColumns (Qe r μ') 0 [some (.ref k0), some (.int a0), some (.int a1), some (.int a2), none, none, none] [] μ (rc r 0)
  unfold F_X4_exchangedColumns at h
  have hb9 : rc r 0 ≤ rc r 0 := Nat.le_refl _
  refine e_iload_n dX4_exchangedColumns_0 rfl ?_
  refine e_istoreL [some (.ref k0), some (.int a0), some (.int a1), some (.int a2), some (.int a2), none, none] dX4_exchangedColumns_1 (Nat.le_of_ble_eq_true rfl) rfl ?_
  refine e_iconst dX4_exchangedColumns_3 ci_0 ?_
  refine e_istoreL [some (.ref k0), some (.int a0), some (.int a1), some (.int a2), some (.int a2), some (.int (0 : Int32)), none] dX4_exchangedColumns_4 (Nat.le_of_ble_eq_true rfl) rfl ?_
  exact e_le (g_X4_exchangedColumns_6 k0 ho0 BIG a0 a1 a2 (0 : Int32) μ _ hb9 h) ⟨rfl, rfl, rfl, rfl, rfl, trivial⟩
set_option maxRecDepth 20000 in
theorem ok_X4_exchangedColumns (l : Launch) (hl : l.stackTraces = false) : MOK l yX4_exchangedColumns.cls 4 72 mX4_exchangedColumns := ⟨lk_all (List.forall_mem_cons.mpr ⟨⟨yX4_canExchange, cX4_canExchange, 9, (some .boolean), 3, 44, by decide, by decide, t_1 3 rfl rfl, hd_X4_canExchange, Or.inr (Or.inl ⟨rfl, sc_X4_canExchange l hl, t_3 96 rfl rfl, t_3 93 rfl rfl, t_3 94 rfl rfl, _, rfl, t_3 95 rfl rfl⟩)⟩, nil_all⟩), fun ix ci j h => lk_all (P := fun ix q => FldOK yX4_exchangedColumns.cls ix q.1 q.2) (List.forall_mem_cons.mpr ⟨⟨_, rfl, by decide, t_1 49 rfl rfl⟩, nil_all⟩) ix (ci, j) h, lk_all (nil_all), lk_all (nil_all), lk_all (nil_all)⟩
theorem hd_X4_exchangedColumns : CallHd yX4_exchangedColumns 3 := ⟨by decide +kernel, by decide +kernel, by decide +kernel⟩
theorem sc_X4_exchangedColumns (l : Launch) (hl : l.stackTraces = false) : SCon l yX4_exchangedColumns cX4_exchangedColumns 7 (some .int) 4 72 0 Γ_X4_exchangedColumns := scon_of mX4_exchangedColumns cls_ok hl (by decide +kernel) rfl rfl (ok_X4_exchangedColumns l hl) rfl rfl b_X4_exchangedColumns
def f_X4_exchangeNumbered_17 (k0 : Nat) (k4 : Int32 → Int32 → Mem → Out) : Nat → Int32 → Int32 → Int32 → Mem → Out
  | 0, _, _, _, _ => none
  | n + 1, x2, x3, x4, μ => if (μ.1 k0 0) ≤ x4 then (lt (x3 + (1 : Int32)) (fun v4 => k4 x2 v4 μ)) else (cI (F_X4_countExchangesOf k0 x3 x4 μ) (fun v9 μ6 => if v9 ≤ x2 then (lt (x2 - v9) (fun v11 => lt (x4 + (1 : Int32)) (fun v12 => f_X4_exchangeNumbered_17 k0 k4 n v11 x3 v12 μ6))) else (cI (F_X4_exchangedColumns k0 x3 x4 x2 μ6) (fun v17 μ14 => rI ((((1000 : Int32) * x3) + ((100 : Int32) * x4)) + v17) μ14))))
def f_X4_exchangeNumbered_4 (k0 : Nat) : Nat → Int32 → Int32 → Mem → Out
  | 0, _, _, _ => none
  | n + 1, x2, x3, μ => if (μ.1 k0 0) ≤ x3 then (rI (-9 : Int32) μ) else (lt (x3 + (1 : Int32)) (fun v2 => f_X4_exchangeNumbered_17 k0 (f_X4_exchangeNumbered_4 k0 n) BIG x2 x3 v2 μ))
def F_X4_exchangeNumbered (k0 : Nat) (a0 : Int32) (μ : Mem) : Out := f_X4_exchangeNumbered_4 k0 BIG a0 (0 : Int32) μ
def Γ_X4_exchangeNumbered : Gam := fun as μ r μ' => ∃ (k0 : Nat) (a0 : Int32), as = [.ref k0, .int a0] ∧ okO k0 2 ∧ F_X4_exchangeNumbered k0 a0 μ = some (r, μ')
def mX4_exchangeNumbered : MI := (cX4_exchangeNumbered, [(100, (1, 2, 0, 2, Γ_X4_countExchangesOf)), (110, (1, 3, 0, 2, Γ_X4_exchangedColumns))], [(9, 2, 0)], [], [], [], [], (29, none), (some .int))
set_option maxHeartbeats 4000000 in
theorem g_X4_exchangeNumbered_17 {r : Res} {μ' : Mem} (k0 : Nat) (ho0 : okO k0 2) {k4 : Int32 → Int32 → Mem → Out} (hk4 : ∀ (x2 : Int32) (x3 : Int32), ∀ (μ : Mem) (b : Nat), rc r 0 ≤ b → k4 x2 x3 μ = some (r, μ') → G mX4_exchangeNumbered (Qe r μ') 4 [some (.ref k0), none, some (.int x2), some (.int x3), none, none] [] μ b) : ∀ n : Nat, ∀ (x2 : Int32) (x3 : Int32) (x4 : Int32), ∀ (μ : Mem) (b : Nat), rc r 0 ≤ b → f_X4_exchangeNumbered_17 k0 k4 n x2 x3 x4 μ = some (r, μ') → G mX4_exchangeNumbered (Qe r μ') 17 [some (.ref k0), none, some (.int x2), some (.int x3), some (.int x4), none] [] μ b := by
  intro n
  induction n with
  | zero => intro x2 x3 x4 μ b hb9 h; exact nomatch (show (none : Out) = some _ from h)
  | succ n ih =>
    intro x2 x3 x4 μ b hb9 h
    rw [f_X4_exchangeNumbered_17.eq_2] at h
    refine e_iload dX4_exchangeNumbered_17 rfl ?_
    refine e_aload_n dX4_exchangeNumbered_19 rfl ?_
    refine e_get (ci := 2) (j := 0) (t := 0) (v := .int (μ.1 k0 0)) dX4_exchangeNumbered_20 rfl ho0.1 ho0.2 rfl rfl ?_
    refine e_ic_ge (tgt := 73) dX4_exchangeNumbered_23 rfl (fun hc3 => ?_) (fun hc3 => ?_)
    · rw [if_pos hc3] at h
      refine e_iincN 3 (1 : Int32) dX4_exchangeNumbered_73 rfl ci_1 h (fun y9 => [some (.ref k0), none, some (.int x2), some (.int y9), some (.int x4), none]) (fun _ => rfl) (fun v4 ev4 h => ?_)
      refine e_goto (tgt := 4) dX4_exchangeNumbered_76 rfl ?_
      exact e_le (hk4 x2 v4 μ _ hb9 h) ⟨rfl, rfl, rfl, trivial⟩
    · rw [if_neg hc3] at h
      refine e_aload_n dX4_exchangeNumbered_26 rfl ?_
      refine e_iload_n dX4_exchangeNumbered_27 rfl ?_
      refine e_iload dX4_exchangeNumbered_28 rfl ?_
      refine cI_go h (fun E7 hc5 hr8 => e_VX [.int x3, .int x4] [] dX4_exchangeNumbered_30 rfl rfl rfl rfl ho0 (Nat.le_of_ble_eq_true rfl) (hbr hr8 hb9 (Nat.le_of_ble_eq_true rfl)) ⟨k0, x3, x4, rfl, ho0, hc5⟩ rfl ⟨hr8.symm, rfl⟩) (fun v9 μ6 hc5 h => ?_)
      refine e_VI [.int x3, .int x4] [] dX4_exchangeNumbered_30 rfl rfl rfl rfl ho0 (Nat.le_of_ble_eq_true rfl) ⟨k0, x3, x4, rfl, ho0, hc5⟩ ?_
      refine e_istoreL [some (.ref k0), none, some (.int x2), some (.int x3), some (.int x4), some (.int v9)] dX4_exchangeNumbered_33 (Nat.le_of_ble_eq_true rfl) rfl ?_
      refine e_iload_n dX4_exchangeNumbered_35 rfl ?_
      refine e_iload dX4_exchangeNumbered_36 rfl ?_
      refine e_ic_ge (tgt := 62) dX4_exchangeNumbered_38 rfl (fun hc10 => ?_) (fun hc10 => ?_)
      · rw [if_pos hc10] at h
        refine e_iload_n dX4_exchangeNumbered_62 rfl ?_
        refine e_iload dX4_exchangeNumbered_63 rfl ?_
        refine e_isub dX4_exchangeNumbered_65 ?_
        refine e_naI h (fun v11 ev11 h => ?_)
        refine e_istore_nL [some (.ref k0), none, some (.int v11), some (.int x3), some (.int x4), some (.int v9)] dX4_exchangeNumbered_66 (Nat.le_of_ble_eq_true rfl) rfl ?_
        refine e_iincN 4 (1 : Int32) dX4_exchangeNumbered_67 rfl ci_1 h (fun y9 => [some (.ref k0), none, some (.int v11), some (.int x3), some (.int y9), some (.int v9)]) (fun _ => rfl) (fun v12 ev12 h => ?_)
        refine e_goto (tgt := 17) dX4_exchangeNumbered_70 rfl ?_
        exact e_le (ih v11 x3 v12 μ6 _ hb9 h) ⟨rfl, rfl, rfl, rfl, trivial⟩
      · rw [if_neg hc10] at h
        refine e_sipush dX4_exchangeNumbered_41 cs_1000 ?_
        refine e_iload_n dX4_exchangeNumbered_44 rfl ?_
        refine e_imul dX4_exchangeNumbered_45 ?_
        refine e_bipush dX4_exchangeNumbered_46 cb_100 ?_
        refine e_iload dX4_exchangeNumbered_48 rfl ?_
        refine e_imul dX4_exchangeNumbered_50 ?_
        refine e_iadd dX4_exchangeNumbered_51 ?_
        refine e_aload_n dX4_exchangeNumbered_52 rfl ?_
        refine e_iload_n dX4_exchangeNumbered_53 rfl ?_
        refine e_iload dX4_exchangeNumbered_54 rfl ?_
        refine e_iload_n dX4_exchangeNumbered_56 rfl ?_
        refine cI_go h (fun E15 hc13 hr16 => e_VX [.int x3, .int x4, .int x2] [.int (((1000 : Int32) * x3) + ((100 : Int32) * x4))] dX4_exchangeNumbered_57 rfl rfl rfl rfl ho0 (Nat.le_of_ble_eq_true rfl) (hbr hr16 hb9 (Nat.le_of_ble_eq_true rfl)) ⟨k0, x3, x4, x2, rfl, ho0, hc13⟩ rfl ⟨hr16.symm, rfl⟩) (fun v17 μ14 hc13 h => ?_)
        refine e_VI [.int x3, .int x4, .int x2] [.int (((1000 : Int32) * x3) + ((100 : Int32) * x4))] dX4_exchangeNumbered_57 rfl rfl rfl rfl ho0 (Nat.le_of_ble_eq_true rfl) ⟨k0, x3, x4, x2, rfl, ho0, hc13⟩ ?_
        refine e_iadd dX4_exchangeNumbered_60 ?_
        exact e_iret .int dX4_exchangeNumbered_61 rfl rfl (ret_eq h)
set_option maxHeartbeats 4000000 in
theorem g_X4_exchangeNumbered_4 {r : Res} {μ' : Mem} (k0 : Nat) (ho0 : okO k0 2) : ∀ n : Nat, ∀ (x2 : Int32) (x3 : Int32), ∀ (μ : Mem) (b : Nat), rc r 0 ≤ b → f_X4_exchangeNumbered_4 k0 n x2 x3 μ = some (r, μ') → G mX4_exchangeNumbered (Qe r μ') 4 [some (.ref k0), none, some (.int x2), some (.int x3), none, none] [] μ b := by
  intro n
  induction n with
  | zero => intro x2 x3 μ b hb9 h; exact nomatch (show (none : Out) = some _ from h)
  | succ n ih =>
    intro x2 x3 μ b hb9 h
    rw [f_X4_exchangeNumbered_4.eq_2] at h
    refine e_iload_n dX4_exchangeNumbered_4 rfl ?_
    refine e_aload_n dX4_exchangeNumbered_5 rfl ?_
    refine e_get (ci := 2) (j := 0) (t := 0) (v := .int (μ.1 k0 0)) dX4_exchangeNumbered_6 rfl ho0.1 ho0.2 rfl rfl ?_
    refine e_ic_ge (tgt := 79) dX4_exchangeNumbered_9 rfl (fun hc1 => ?_) (fun hc1 => ?_)
    · rw [if_pos hc1] at h
      refine e_bipush dX4_exchangeNumbered_79 cb_m9 ?_
      exact e_iret .int dX4_exchangeNumbered_81 rfl rfl (ret_eq h)
    · rw [if_neg hc1] at h
      refine e_iload_n dX4_exchangeNumbered_12 rfl ?_
      refine e_iconst dX4_exchangeNumbered_13 ci_1 ?_
      refine e_iadd dX4_exchangeNumbered_14 ?_
      refine e_naI h (fun v2 ev2 h => ?_)
      refine e_istoreL [some (.ref k0), none, some (.int x2), some (.int x3), some (.int v2), none] dX4_exchangeNumbered_15 (Nat.le_of_ble_eq_true rfl) rfl ?_
      exact e_le (g_X4_exchangeNumbered_17 k0 ho0 ih BIG x2 x3 v2 μ _ hb9 h) ⟨rfl, rfl, rfl, rfl, trivial⟩
set_option maxHeartbeats 4000000 in
theorem b_X4_exchangeNumbered : ∀ as μ r μ', Γ_X4_exchangeNumbered as μ r μ' → (elvL as).length ≤ 6 ∧ G mX4_exchangeNumbered (Qe r μ') 0 (elv as 6) [] μ (rc r 0) := by
  intro as μ r μ' h
  obtain ⟨k0, a0, rfl, ho0, h⟩ := h
  refine ⟨Nat.le_of_ble_eq_true rfl, ?_⟩
  show G mX4_exchangeNumbered (Qe r μ') 0 [some (.ref k0), some (.int a0), none, none, none, none] [] μ (rc r 0)
  unfold F_X4_exchangeNumbered at h
  have hb9 : rc r 0 ≤ rc r 0 := Nat.le_refl _
  refine e_iload_n dX4_exchangeNumbered_0 rfl ?_
  refine e_istore_nL [some (.ref k0), some (.int a0), some (.int a0), none, none, none] dX4_exchangeNumbered_1 (Nat.le_of_ble_eq_true rfl) rfl ?_
  refine e_iconst dX4_exchangeNumbered_2 ci_0 ?_
  refine e_istore_nL [some (.ref k0), some (.int a0), some (.int a0), some (.int (0 : Int32)), none, none] dX4_exchangeNumbered_3 (Nat.le_of_ble_eq_true rfl) rfl ?_
  exact e_le (g_X4_exchangeNumbered_4 k0 ho0 BIG a0 (0 : Int32) μ _ hb9 h) ⟨rfl, rfl, rfl, trivial⟩
set_option maxRecDepth 20000 in
theorem ok_X4_exchangeNumbered (l : Launch) (hl : l.stackTraces = false) : MOK l yX4_exchangeNumbered.cls 5 98 mX4_exchangeNumbered := ⟨lk_all (List.forall_mem_cons.mpr ⟨⟨yX4_countExchangesOf, cX4_countExchangesOf, 8, (some .int), 2, 22, by decide, by decide, t_1 3 rfl rfl, hd_X4_countExchangesOf, Or.inr (Or.inl ⟨rfl, sc_X4_countExchangesOf l hl, t_1 235 rfl rfl, t_1 232 rfl rfl, t_1 234 rfl rfl, _, rfl, t_p 0 rfl⟩)⟩, List.forall_mem_cons.mpr ⟨⟨yX4_exchangedColumns, cX4_exchangedColumns, 7, (some .int), 4, 72, by decide, by decide, t_1 3 rfl rfl, hd_X4_exchangedColumns, Or.inr (Or.inl ⟨rfl, sc_X4_exchangedColumns l hl, t_3 92 rfl rfl, t_3 89 rfl rfl, t_3 91 rfl rfl, _, rfl, t_p 16 rfl⟩)⟩, nil_all⟩⟩), fun ix ci j h => lk_all (P := fun ix q => FldOK yX4_exchangeNumbered.cls ix q.1 q.2) (List.forall_mem_cons.mpr ⟨⟨_, rfl, by decide, t_1 46 rfl rfl⟩, nil_all⟩) ix (ci, j) h, lk_all (nil_all), lk_all (nil_all), lk_all (nil_all)⟩
theorem hd_X4_exchangeNumbered : CallHd yX4_exchangeNumbered 1 := ⟨by decide +kernel, by decide +kernel, by decide +kernel⟩
theorem sc_X4_exchangeNumbered (l : Launch) (hl : l.stackTraces = false) : SCon l yX4_exchangeNumbered cX4_exchangeNumbered 6 (some .int) 5 98 0 Γ_X4_exchangeNumbered := scon_of mX4_exchangeNumbered cls_ok hl (by decide +kernel) rfl rfl (ok_X4_exchangeNumbered l hl) rfl rfl b_X4_exchangeNumbered
def F_X4_hasCell (k0 : Nat) (a0 : Int32) (a1 : Int32) (μ : Mem) : Out := if a0 < 0 then (rI (0 : Int32) μ) else (if (μ.1 k0 0) ≤ a0 then (rI (0 : Int32) μ) else (if a1 < 0 then (rI (0 : Int32) μ) else (if (μ.1 k0 1) ≤ a1 then (rI (0 : Int32) μ) else (rI (1 : Int32) μ))))
def Γ_X4_hasCell : Gam := fun as μ r μ' => ∃ (k0 : Nat) (a0 : Int32) (a1 : Int32), as = [.ref k0, .int a0, .int a1] ∧ okO k0 2 ∧ F_X4_hasCell k0 a0 a1 μ = some (r, μ')
def mX4_hasCell : MI := (cX4_hasCell, [], [(9, 2, 0), (15, 2, 1)], [], [], [], [], (29, none), (some .boolean))
set_option maxHeartbeats 4000000 in
theorem b_X4_hasCell : ∀ as μ r μ', Γ_X4_hasCell as μ r μ' → (elvL as).length ≤ 3 ∧ G mX4_hasCell (Qe r μ') 0 (elv as 3) [] μ (rc r 0) := by
  intro as μ r μ' h
  obtain ⟨k0, a0, a1, rfl, ho0, h⟩ := h
  refine ⟨Nat.le_of_ble_eq_true rfl, ?_⟩
  show G mX4_hasCell (Qe r μ') 0 [some (.ref k0), some (.int a0), some (.int a1)] [] μ (rc r 0)
  unfold F_X4_hasCell at h
  have hb9 : rc r 0 ≤ rc r 0 := Nat.le_refl _
  refine e_iload_n dX4_hasCell_0 rfl ?_
  refine e_if_lt (tgt := 28) dX4_hasCell_1 rfl (fun hc1 => ?_) (fun hc1 => ?_)
  · rw [if_pos hc1] at h
    refine e_iconst dX4_hasCell_28 ci_0 ?_
    exact e_iret .boolean dX4_hasCell_29 rfl rfl (ret_eq h)
  · rw [if_neg hc1] at h
    refine e_iload_n dX4_hasCell_4 rfl ?_
    refine e_aload_n dX4_hasCell_5 rfl ?_
    refine e_get (ci := 2) (j := 0) (t := 0) (v := .int (μ.1 k0 0)) dX4_hasCell_6 rfl ho0.1 ho0.2 rfl rfl ?_
    refine e_ic_ge (tgt := 28) dX4_hasCell_9 rfl (fun hc2 => ?_) (fun hc2 => ?_)
    · rw [if_pos hc2] at h
      refine e_iconst dX4_hasCell_28 ci_0 ?_
      exact e_iret .boolean dX4_hasCell_29 rfl rfl (ret_eq h)
    · rw [if_neg hc2] at h
      refine e_iload_n dX4_hasCell_12 rfl ?_
      refine e_if_lt (tgt := 28) dX4_hasCell_13 rfl (fun hc3 => ?_) (fun hc3 => ?_)
      · rw [if_pos hc3] at h
        refine e_iconst dX4_hasCell_28 ci_0 ?_
        exact e_iret .boolean dX4_hasCell_29 rfl rfl (ret_eq h)
      · rw [if_neg hc3] at h
        refine e_iload_n dX4_hasCell_16 rfl ?_
        refine e_aload_n dX4_hasCell_17 rfl ?_
        refine e_get (ci := 2) (j := 1) (t := 0) (v := .int (μ.1 k0 1)) dX4_hasCell_18 rfl ho0.1 ho0.2 rfl rfl ?_
        refine e_ic_ge (tgt := 28) dX4_hasCell_21 rfl (fun hc4 => ?_) (fun hc4 => ?_)
        · rw [if_pos hc4] at h
          refine e_iconst dX4_hasCell_28 ci_0 ?_
          exact e_iret .boolean dX4_hasCell_29 rfl rfl (ret_eq h)
        · rw [if_neg hc4] at h
          refine e_iconst dX4_hasCell_24 ci_1 ?_
          refine e_goto (tgt := 29) dX4_hasCell_25 rfl ?_
          exact e_iret .boolean dX4_hasCell_29 rfl rfl (ret_eq h)
set_option maxRecDepth 20000 in
theorem ok_X4_hasCell (l : Launch) (hl : l.stackTraces = false) : MOK l yX4_hasCell.cls 1 0 mX4_hasCell := ⟨lk_all (nil_all), fun ix ci j h => lk_all (P := fun ix q => FldOK yX4_hasCell.cls ix q.1 q.2) (List.forall_mem_cons.mpr ⟨⟨_, rfl, by decide, t_1 46 rfl rfl⟩, List.forall_mem_cons.mpr ⟨⟨_, rfl, by decide, t_1 49 rfl rfl⟩, nil_all⟩⟩) ix (ci, j) h, lk_all (nil_all), lk_all (nil_all), lk_all (nil_all)⟩
theorem hd_X4_hasCell : CallHd yX4_hasCell 2 := ⟨by decide +kernel, by decide +kernel, by decide +kernel⟩
theorem sc_X4_hasCell (l : Launch) (hl : l.stackTraces = false) : SCon l yX4_hasCell cX4_hasCell 3 (some .boolean) 1 0 0 Γ_X4_hasCell := scon_of mX4_hasCell cls_ok hl (by decide +kernel) rfl rfl (ok_X4_hasCell l hl) rfl rfl b_X4_hasCell
def F_X4_hasLine (k0 : Nat) (a0 : Int32) (μ : Mem) : Out := if a0 < 0 then (rI (0 : Int32) μ) else (if ((μ.1 k0 0) + (μ.1 k0 1)) ≤ a0 then (rI (0 : Int32) μ) else (rI (1 : Int32) μ))
def Γ_X4_hasLine : Gam := fun as μ r μ' => ∃ (k0 : Nat) (a0 : Int32), as = [.ref k0, .int a0] ∧ okO k0 2 ∧ F_X4_hasLine k0 a0 μ = some (r, μ')
def mX4_hasLine : MI := (cX4_hasLine, [], [(9, 2, 0), (15, 2, 1)], [], [], [], [], (29, none), (some .boolean))
set_option maxHeartbeats 4000000 in
theorem b_X4_hasLine : ∀ as μ r μ', Γ_X4_hasLine as μ r μ' → (elvL as).length ≤ 2 ∧ G mX4_hasLine (Qe r μ') 0 (elv as 2) [] μ (rc r 0) := by
  intro as μ r μ' h
  obtain ⟨k0, a0, rfl, ho0, h⟩ := h
  refine ⟨Nat.le_of_ble_eq_true rfl, ?_⟩
  show G mX4_hasLine (Qe r μ') 0 [some (.ref k0), some (.int a0)] [] μ (rc r 0)
  unfold F_X4_hasLine at h
  have hb9 : rc r 0 ≤ rc r 0 := Nat.le_refl _
  refine e_iload_n dX4_hasLine_0 rfl ?_
  refine e_if_lt (tgt := 21) dX4_hasLine_1 rfl (fun hc1 => ?_) (fun hc1 => ?_)
  · rw [if_pos hc1] at h
    refine e_iconst dX4_hasLine_21 ci_0 ?_
    exact e_iret .boolean dX4_hasLine_22 rfl rfl (ret_eq h)
  · rw [if_neg hc1] at h
    refine e_iload_n dX4_hasLine_4 rfl ?_
    refine e_aload_n dX4_hasLine_5 rfl ?_
    refine e_get (ci := 2) (j := 0) (t := 0) (v := .int (μ.1 k0 0)) dX4_hasLine_6 rfl ho0.1 ho0.2 rfl rfl ?_
    refine e_aload_n dX4_hasLine_9 rfl ?_
    refine e_get (ci := 2) (j := 1) (t := 0) (v := .int (μ.1 k0 1)) dX4_hasLine_10 rfl ho0.1 ho0.2 rfl rfl ?_
    refine e_iadd dX4_hasLine_13 ?_
    refine e_ic_ge (tgt := 21) dX4_hasLine_14 rfl (fun hc2 => ?_) (fun hc2 => ?_)
    · rw [if_pos hc2] at h
      refine e_iconst dX4_hasLine_21 ci_0 ?_
      exact e_iret .boolean dX4_hasLine_22 rfl rfl (ret_eq h)
    · rw [if_neg hc2] at h
      refine e_iconst dX4_hasLine_17 ci_1 ?_
      refine e_goto (tgt := 22) dX4_hasLine_18 rfl ?_
      exact e_iret .boolean dX4_hasLine_22 rfl rfl (ret_eq h)
set_option maxRecDepth 20000 in
theorem ok_X4_hasLine (l : Launch) (hl : l.stackTraces = false) : MOK l yX4_hasLine.cls 1 0 mX4_hasLine := ⟨lk_all (nil_all), fun ix ci j h => lk_all (P := fun ix q => FldOK yX4_hasLine.cls ix q.1 q.2) (List.forall_mem_cons.mpr ⟨⟨_, rfl, by decide, t_1 46 rfl rfl⟩, List.forall_mem_cons.mpr ⟨⟨_, rfl, by decide, t_1 49 rfl rfl⟩, nil_all⟩⟩) ix (ci, j) h, lk_all (nil_all), lk_all (nil_all), lk_all (nil_all)⟩
theorem hd_X4_hasLine : CallHd yX4_hasLine 1 := ⟨by decide +kernel, by decide +kernel, by decide +kernel⟩
theorem sc_X4_hasLine (l : Launch) (hl : l.stackTraces = false) : SCon l yX4_hasLine cX4_hasLine 2 (some .boolean) 1 0 0 Γ_X4_hasLine := scon_of mX4_hasLine cls_ok hl (by decide +kernel) rfl rfl (ok_X4_hasLine l hl) rfl rfl b_X4_hasLine
def F_X4_isPinned (k0 : Nat) (a0 : Int32) (a1 : Int32) (μ : Mem) : Out := cJ (F_X0_bit a0 a1 μ) (fun v5 μ2 => if (lg_cmp ((μ.2.1 k0 3) &&& v5) (0 : Int64)) = 0 then (rI (0 : Int32) μ2) else (rI (1 : Int32) μ2))
def Γ_X4_isPinned : Gam := fun as μ r μ' => ∃ (k0 : Nat) (a0 : Int32) (a1 : Int32), as = [.ref k0, .int a0, .int a1] ∧ okO k0 2 ∧ F_X4_isPinned k0 a0 a1 μ = some (r, μ')
def mX4_isPinned : MI := (cX4_isPinned, [(75, (0, 2, 0, 0, Γ_X0_bit))], [(22, 2, 3)], [], [], [], [], (29, none), (some .boolean))
set_option maxHeartbeats 4000000 in
theorem b_X4_isPinned : ∀ as μ r μ', Γ_X4_isPinned as μ r μ' → (elvL as).length ≤ 3 ∧ G mX4_isPinned (Qe r μ') 0 (elv as 3) [] μ (rc r 0) := by
  intro as μ r μ' h
  obtain ⟨k0, a0, a1, rfl, ho0, h⟩ := h
  refine ⟨Nat.le_of_ble_eq_true rfl, ?_⟩
  show G mX4_isPinned (Qe r μ') 0 [some (.ref k0), some (.int a0), some (.int a1)] [] μ (rc r 0)
  unfold F_X4_isPinned at h
  have hb9 : rc r 0 ≤ rc r 0 := Nat.le_refl _
  refine e_aload_n dX4_isPinned_0 rfl ?_
  refine e_get (ci := 2) (j := 3) (t := 1) (v := .long (μ.2.1 k0 3)) dX4_isPinned_1 rfl ho0.1 ho0.2 rfl rfl ?_
  refine e_iload_n dX4_isPinned_4 rfl ?_
  refine e_iload_n dX4_isPinned_5 rfl ?_
  refine cJ_go h (fun E3 hc1 hr4 => e_SX [.int a0, .int a1] [.long (μ.2.1 k0 3)] dX4_isPinned_6 rfl (by decide) rfl rfl (Nat.le_of_ble_eq_true rfl) (hbr hr4 hb9 (Nat.le_of_ble_eq_true rfl)) ⟨a0, a1, rfl, hc1⟩ rfl ⟨hr4.symm, rfl⟩) (fun v5 μ2 hc1 h => ?_)
  refine e_SJ [.int a0, .int a1] [.long (μ.2.1 k0 3)] dX4_isPinned_6 rfl (by decide) rfl rfl (Nat.le_of_ble_eq_true rfl) ⟨a0, a1, rfl, hc1⟩ ?_
  refine e_land dX4_isPinned_9 ?_
  refine e_lconst (v := (0 : Int64)) dX4_isPinned_10 rfl ?_
  refine e_lcmp dX4_isPinned_11 ?_
  refine e_if_eq (tgt := 19) dX4_isPinned_12 rfl (fun hc6 => ?_) (fun hc6 => ?_)
  · rw [if_pos hc6] at h
    refine e_iconst dX4_isPinned_19 ci_0 ?_
    exact e_iret .boolean dX4_isPinned_20 rfl rfl (ret_eq h)
  · rw [if_neg hc6] at h
    refine e_iconst dX4_isPinned_15 ci_1 ?_
    refine e_goto (tgt := 20) dX4_isPinned_16 rfl ?_
    exact e_iret .boolean dX4_isPinned_20 rfl rfl (ret_eq h)
set_option maxRecDepth 20000 in
theorem ok_X4_isPinned (l : Launch) (hl : l.stackTraces = false) : MOK l yX4_isPinned.cls 2 21 mX4_isPinned := ⟨lk_all (List.forall_mem_cons.mpr ⟨⟨yX0_bit, cX0_bit, 2, (some .long), 1, 0, by decide, by decide, t_1 9 rfl rfl, hd_X0_bit, Or.inl ⟨rfl, sc_X0_bit l hl, t_2 131 rfl rfl, t_2 223 rfl rfl, t_2 130 rfl rfl⟩⟩, nil_all⟩), fun ix ci j h => lk_all (P := fun ix q => FldOK yX4_isPinned.cls ix q.1 q.2) (List.forall_mem_cons.mpr ⟨⟨_, rfl, by decide, t_1 55 rfl rfl⟩, nil_all⟩) ix (ci, j) h, lk_all (nil_all), lk_all (nil_all), lk_all (nil_all)⟩
theorem hd_X4_isPinned : CallHd yX4_isPinned 2 := ⟨by decide +kernel, by decide +kernel, by decide +kernel⟩
theorem sc_X4_isPinned (l : Launch) (hl : l.stackTraces = false) : SCon l yX4_isPinned cX4_isPinned 3 (some .boolean) 2 21 0 Γ_X4_isPinned := scon_of mX4_isPinned cls_ok hl (by decide +kernel) rfl rfl (ok_X4_isPinned l hl) rfl rfl b_X4_isPinned
def F_X4_refill (k0 : Nat) (a0 : Int64) (μ : Mem) : Out := cI (F_J13_bitCount_95d88 ((μ.2.1 k0 2) ^^^ a0) μ) (fun v5 μ2 => lt (sJ μ2 k0 2 a0) (fun μ6 => rI v5 μ6))
def Γ_X4_refill : Gam := fun as μ r μ' => ∃ (k0 : Nat) (a0 : Int64), as = [.ref k0, .long a0] ∧ okO k0 2 ∧ F_X4_refill k0 a0 μ = some (r, μ')
def mX4_refill : MI := (cX4_refill, [(46, (0, 1, 0, 0, Γ_J13_bitCount_95d88))], [(18, 2, 2)], [], [], [], [], (29, none), (some .int))
set_option maxHeartbeats 4000000 in
theorem b_X4_refill : ∀ as μ r μ', Γ_X4_refill as μ r μ' → (elvL as).length ≤ 4 ∧ G mX4_refill (Qe r μ') 0 (elv as 4) [] μ (rc r 0) := by
  intro as μ r μ' h
  obtain ⟨k0, a0, rfl, ho0, h⟩ := h
  refine ⟨Nat.le_of_ble_eq_true rfl, ?_⟩
  show G mX4_refill (Qe r μ') 0 [some (.ref k0), some (.long a0), none, none] [] μ (rc r 0)
  unfold F_X4_refill at h
  have hb9 : rc r 0 ≤ rc r 0 := Nat.le_refl _
  refine e_aload_n dX4_refill_0 rfl ?_
  refine e_get (ci := 2) (j := 2) (t := 1) (v := .long (μ.2.1 k0 2)) dX4_refill_1 rfl ho0.1 ho0.2 rfl rfl ?_
  refine e_lload_n dX4_refill_4 rfl ?_
  refine e_lxor dX4_refill_5 ?_
  refine cI_go h (fun E3 hc1 hr4 => e_SX [.long ((μ.2.1 k0 2) ^^^ a0)] [] dX4_refill_6 rfl (by decide) rfl rfl (Nat.le_of_ble_eq_true rfl) (hbr hr4 hb9 (Nat.le_of_ble_eq_true rfl)) ⟨(μ.2.1 k0 2) ^^^ a0, rfl, hc1⟩ rfl ⟨hr4.symm, rfl⟩) (fun v5 μ2 hc1 h => ?_)
  refine e_SI [.long ((μ.2.1 k0 2) ^^^ a0)] [] dX4_refill_6 rfl (by decide) rfl rfl (Nat.le_of_ble_eq_true rfl) ⟨(μ.2.1 k0 2) ^^^ a0, rfl, hc1⟩ ?_
  refine e_istore_nL [some (.ref k0), some (.long a0), none, some (.int v5)] dX4_refill_9 (Nat.le_of_ble_eq_true rfl) rfl ?_
  refine e_aload_n dX4_refill_10 rfl ?_
  refine e_lload_n dX4_refill_11 rfl ?_
  refine e_putJ (ci := 2) (j := 2) dX4_refill_12 rfl ho0.1 ho0.2 rfl ?_
  refine e_naM (e := sJ μ2 k0 2 a0) h (fun μ6 eμ6 h => ?_)
  refine e_iload_n dX4_refill_15 rfl ?_
  exact e_iret .int dX4_refill_16 rfl rfl (ret_eq h)
set_option maxRecDepth 20000 in
theorem ok_X4_refill (l : Launch) (hl : l.stackTraces = false) : MOK l yX4_refill.cls 2 21 mX4_refill := ⟨lk_all (List.forall_mem_cons.mpr ⟨⟨yJ13_bitCount_95d88, cJ13_bitCount_95d88, 2, (some .int), 1, 0, by decide, by decide, t_1 7 rfl rfl, hd_J13_bitCount_95d88, Or.inl ⟨rfl, sc_J13_bitCount_95d88 l hl, t_1 155 rfl rfl, t_1 153 rfl rfl, t_1 154 rfl rfl⟩⟩, nil_all⟩), fun ix ci j h => lk_all (P := fun ix q => FldOK yX4_refill.cls ix q.1 q.2) (List.forall_mem_cons.mpr ⟨⟨_, rfl, by decide, t_1 52 rfl rfl⟩, nil_all⟩) ix (ci, j) h, lk_all (nil_all), lk_all (nil_all), lk_all (nil_all)⟩
theorem hd_X4_refill : CallHd yX4_refill 1 := ⟨by decide +kernel, by decide +kernel, by decide +kernel⟩
theorem sc_X4_refill (l : Launch) (hl : l.stackTraces = false) : SCon l yX4_refill cX4_refill 4 (some .int) 2 21 0 Γ_X4_refill := scon_of mX4_refill cls_ok hl (by decide +kernel) rfl rfl (ok_X4_refill l hl) rfl rfl b_X4_refill
def f_X4_setFilled_24 (k0 : Nat) (x3 : Int32) (x4 : Int64) (s0 : Int32) (μ : Mem) : Out := if x3 = 0 then (lt (sJ μ k0 2 ((μ.2.1 k0 2) &&& (x4 ^^^ (-1 : Int64)))) (fun μ8 => ck (nz s0) (rI s0 μ8))) else (lt (sJ μ k0 2 ((μ.2.1 k0 2) ||| x4)) (fun μ10 => ck (nz s0) (rI s0 μ10)))
def F_X4_setFilled (k0 : Nat) (a0 : Int32) (a1 : Int32) (a2 : Int32) (μ : Mem) : Out := cJ (F_X0_bit a0 a1 μ) (fun v5 μ2 => if (lg_cmp ((μ2.2.1 k0 2) &&& v5) (0 : Int64)) = 0 then (f_X4_setFilled_24 k0 a2 v5 (0 : Int32) μ2) else (f_X4_setFilled_24 k0 a2 v5 (1 : Int32) μ2))
def Γ_X4_setFilled : Gam := fun as μ r μ' => ∃ (k0 : Nat) (a0 : Int32) (a1 : Int32) (a2 : Int32), as = [.ref k0, .int a0, .int a1, .int a2] ∧ okO k0 2 ∧ F_X4_setFilled k0 a0 a1 a2 μ = some (r, μ')
def mX4_setFilled : MI := (cX4_setFilled, [(75, (0, 2, 0, 0, Γ_X0_bit))], [(18, 2, 2)], [], [(79, -1)], [], [], (29, none), (some .boolean))
set_option maxHeartbeats 4000000 in
theorem g_X4_setFilled_24 {r : Res} {μ' : Mem} (k0 : Nat) (ho0 : okO k0 2) : ∀ (x3 : Int32) (x4 : Int64) (s0 : Int32), ∀ (μ : Mem) (b : Nat), rc r 0 ≤ b → f_X4_setFilled_24 k0 x3 x4 s0 μ = some (r, μ') → G mX4_setFilled (Qe r μ') 24 [some (.ref k0), none, none, some (.int x3), some (.long x4), none, none] [.int s0] μ b := by
  intro x3 x4 s0 μ b hb9 h
  unfold f_X4_setFilled_24 at h
  refine e_istoreL [some (.ref k0), none, none, some (.int x3), some (.long x4), none, some (.int s0)] dX4_setFilled_24 (Nat.le_of_ble_eq_true rfl) rfl ?_
  refine e_aload_n dX4_setFilled_26 rfl ?_
  refine e_iload_n dX4_setFilled_27 rfl ?_
  refine e_if_eq (tgt := 41) dX4_setFilled_28 rfl (fun hc7 => ?_) (fun hc7 => ?_)
  · rw [if_pos hc7] at h
    refine e_aload_n dX4_setFilled_41 rfl ?_
    refine e_get (ci := 2) (j := 2) (t := 1) (v := .long (μ.2.1 k0 2)) dX4_setFilled_42 rfl ho0.1 ho0.2 rfl rfl ?_
    refine e_lload dX4_setFilled_45 rfl ?_
    refine e_ldc2 (v := (-1 : Int64)) dX4_setFilled_47 rfl ?_
    refine e_lxor dX4_setFilled_50 ?_
    refine e_land dX4_setFilled_51 ?_
    refine e_putJ (ci := 2) (j := 2) dX4_setFilled_52 rfl ho0.1 ho0.2 rfl ?_
    refine e_naM (e := sJ μ k0 2 ((μ.2.1 k0 2) &&& (x4 ^^^ (-1 : Int64)))) h (fun μ8 eμ8 h => ?_)
    refine e_iload dX4_setFilled_55 rfl ?_
    obtain ⟨hc9, h⟩ := ck_eq h
    exact e_iret .boolean dX4_setFilled_57 rfl hc9 (ret_eq h)
  · rw [if_neg hc7] at h
    refine e_aload_n dX4_setFilled_31 rfl ?_
    refine e_get (ci := 2) (j := 2) (t := 1) (v := .long (μ.2.1 k0 2)) dX4_setFilled_32 rfl ho0.1 ho0.2 rfl rfl ?_
    refine e_lload dX4_setFilled_35 rfl ?_
    refine e_lor dX4_setFilled_37 ?_
    refine e_goto (tgt := 52) dX4_setFilled_38 rfl ?_
    refine e_putJ (ci := 2) (j := 2) dX4_setFilled_52 rfl ho0.1 ho0.2 rfl ?_
    refine e_naM (e := sJ μ k0 2 ((μ.2.1 k0 2) ||| x4)) h (fun μ10 eμ10 h => ?_)
    refine e_iload dX4_setFilled_55 rfl ?_
    obtain ⟨hc11, h⟩ := ck_eq h
    exact e_iret .boolean dX4_setFilled_57 rfl hc11 (ret_eq h)
set_option maxHeartbeats 4000000 in
theorem b_X4_setFilled : ∀ as μ r μ', Γ_X4_setFilled as μ r μ' → (elvL as).length ≤ 7 ∧ G mX4_setFilled (Qe r μ') 0 (elv as 7) [] μ (rc r 0) := by
  intro as μ r μ' h
  obtain ⟨k0, a0, a1, a2, rfl, ho0, h⟩ := h
  refine ⟨Nat.le_of_ble_eq_true rfl, ?_⟩
  show G mX4_setFilled (Qe r μ') 0 [some (.ref k0), some (.int a0), some (.int a1), some (.int a2), none, none, none] [] μ (rc r 0)
  unfold F_X4_setFilled at h
  have hb9 : rc r 0 ≤ rc r 0 := Nat.le_refl _
  refine e_iload_n dX4_setFilled_0 rfl ?_
  refine e_iload_n dX4_setFilled_1 rfl ?_
  refine cJ_go h (fun E3 hc1 hr4 => e_SX [.int a0, .int a1] [] dX4_setFilled_2 rfl (by decide) rfl rfl (Nat.le_of_ble_eq_true rfl) (hbr hr4 hb9 (Nat.le_of_ble_eq_true rfl)) ⟨a0, a1, rfl, hc1⟩ rfl ⟨hr4.symm, rfl⟩) (fun v5 μ2 hc1 h => ?_)
  refine e_SJ [.int a0, .int a1] [] dX4_setFilled_2 rfl (by decide) rfl rfl (Nat.le_of_ble_eq_true rfl) ⟨a0, a1, rfl, hc1⟩ ?_
  refine e_lstoreL [some (.ref k0), some (.int a0), some (.int a1), some (.int a2), some (.long v5), none, none] dX4_setFilled_5 (Nat.le_of_ble_eq_true rfl) rfl ?_
  refine e_aload_n dX4_setFilled_7 rfl ?_
  refine e_get (ci := 2) (j := 2) (t := 1) (v := .long (μ2.2.1 k0 2)) dX4_setFilled_8 rfl ho0.1 ho0.2 rfl rfl ?_
  refine e_lload dX4_setFilled_11 rfl ?_
  refine e_land dX4_setFilled_13 ?_
  refine e_lconst (v := (0 : Int64)) dX4_setFilled_14 rfl ?_
  refine e_lcmp dX4_setFilled_15 ?_
  refine e_if_eq (tgt := 23) dX4_setFilled_16 rfl (fun hc6 => ?_) (fun hc6 => ?_)
  · rw [if_pos hc6] at h
    refine e_iconst dX4_setFilled_23 ci_0 ?_
    exact e_le (g_X4_setFilled_24 k0 ho0 a2 v5 (0 : Int32) μ2 _ hb9 h) ⟨rfl, rfl, rfl, trivial⟩
  · rw [if_neg hc6] at h
    refine e_iconst dX4_setFilled_19 ci_1 ?_
    refine e_goto (tgt := 24) dX4_setFilled_20 rfl ?_
    exact e_le (g_X4_setFilled_24 k0 ho0 a2 v5 (1 : Int32) μ2 _ hb9 h) ⟨rfl, rfl, rfl, trivial⟩
set_option maxRecDepth 20000 in
theorem ok_X4_setFilled (l : Launch) (hl : l.stackTraces = false) : MOK l yX4_setFilled.cls 2 21 mX4_setFilled := ⟨lk_all (List.forall_mem_cons.mpr ⟨⟨yX0_bit, cX0_bit, 2, (some .long), 1, 0, by decide, by decide, t_1 9 rfl rfl, hd_X0_bit, Or.inl ⟨rfl, sc_X0_bit l hl, t_2 131 rfl rfl, t_2 223 rfl rfl, t_2 130 rfl rfl⟩⟩, nil_all⟩), fun ix ci j h => lk_all (P := fun ix q => FldOK yX4_setFilled.cls ix q.1 q.2) (List.forall_mem_cons.mpr ⟨⟨_, rfl, by decide, t_1 52 rfl rfl⟩, nil_all⟩) ix (ci, j) h, lk_all (nil_all), lk_all (List.forall_mem_cons.mpr ⟨t_1 236 rfl rfl, nil_all⟩), lk_all (nil_all)⟩
theorem hd_X4_setFilled : CallHd yX4_setFilled 3 := ⟨by decide +kernel, by decide +kernel, by decide +kernel⟩
theorem sc_X4_setFilled (l : Launch) (hl : l.stackTraces = false) : SCon l yX4_setFilled cX4_setFilled 7 (some .boolean) 2 21 0 Γ_X4_setFilled := scon_of mX4_setFilled cls_ok hl (by decide +kernel) rfl rfl (ok_X4_setFilled l hl) rfl rfl b_X4_setFilled
def f_X4_setPinned_24 (k0 : Nat) (x3 : Int32) (x4 : Int64) (s0 : Int32) (μ : Mem) : Out := if x3 = 0 then (lt (sJ μ k0 3 ((μ.2.1 k0 3) &&& (x4 ^^^ (-1 : Int64)))) (fun μ8 => ck (nz s0) (rI s0 μ8))) else (lt (sJ μ k0 3 ((μ.2.1 k0 3) ||| x4)) (fun μ10 => ck (nz s0) (rI s0 μ10)))
def F_X4_setPinned (k0 : Nat) (a0 : Int32) (a1 : Int32) (a2 : Int32) (μ : Mem) : Out := cJ (F_X0_bit a0 a1 μ) (fun v5 μ2 => if (lg_cmp ((μ2.2.1 k0 3) &&& v5) (0 : Int64)) = 0 then (f_X4_setPinned_24 k0 a2 v5 (0 : Int32) μ2) else (f_X4_setPinned_24 k0 a2 v5 (1 : Int32) μ2))
def Γ_X4_setPinned : Gam := fun as μ r μ' => ∃ (k0 : Nat) (a0 : Int32) (a1 : Int32) (a2 : Int32), as = [.ref k0, .int a0, .int a1, .int a2] ∧ okO k0 2 ∧ F_X4_setPinned k0 a0 a1 a2 μ = some (r, μ')
def mX4_setPinned : MI := (cX4_setPinned, [(75, (0, 2, 0, 0, Γ_X0_bit))], [(22, 2, 3)], [], [(79, -1)], [], [], (29, none), (some .boolean))
set_option maxHeartbeats 4000000 in
theorem g_X4_setPinned_24 {r : Res} {μ' : Mem} (k0 : Nat) (ho0 : okO k0 2) : ∀ (x3 : Int32) (x4 : Int64) (s0 : Int32), ∀ (μ : Mem) (b : Nat), rc r 0 ≤ b → f_X4_setPinned_24 k0 x3 x4 s0 μ = some (r, μ') → G mX4_setPinned (Qe r μ') 24 [some (.ref k0), none, none, some (.int x3), some (.long x4), none, none] [.int s0] μ b := by
  intro x3 x4 s0 μ b hb9 h
  unfold f_X4_setPinned_24 at h
  refine e_istoreL [some (.ref k0), none, none, some (.int x3), some (.long x4), none, some (.int s0)] dX4_setPinned_24 (Nat.le_of_ble_eq_true rfl) rfl ?_
  refine e_aload_n dX4_setPinned_26 rfl ?_
  refine e_iload_n dX4_setPinned_27 rfl ?_
  refine e_if_eq (tgt := 41) dX4_setPinned_28 rfl (fun hc7 => ?_) (fun hc7 => ?_)
  · rw [if_pos hc7] at h
    refine e_aload_n dX4_setPinned_41 rfl ?_
    refine e_get (ci := 2) (j := 3) (t := 1) (v := .long (μ.2.1 k0 3)) dX4_setPinned_42 rfl ho0.1 ho0.2 rfl rfl ?_
    refine e_lload dX4_setPinned_45 rfl ?_
    refine e_ldc2 (v := (-1 : Int64)) dX4_setPinned_47 rfl ?_
    refine e_lxor dX4_setPinned_50 ?_
    refine e_land dX4_setPinned_51 ?_
    refine e_putJ (ci := 2) (j := 3) dX4_setPinned_52 rfl ho0.1 ho0.2 rfl ?_
    refine e_naM (e := sJ μ k0 3 ((μ.2.1 k0 3) &&& (x4 ^^^ (-1 : Int64)))) h (fun μ8 eμ8 h => ?_)
    refine e_iload dX4_setPinned_55 rfl ?_
    obtain ⟨hc9, h⟩ := ck_eq h
    exact e_iret .boolean dX4_setPinned_57 rfl hc9 (ret_eq h)
  · rw [if_neg hc7] at h
    refine e_aload_n dX4_setPinned_31 rfl ?_
    refine e_get (ci := 2) (j := 3) (t := 1) (v := .long (μ.2.1 k0 3)) dX4_setPinned_32 rfl ho0.1 ho0.2 rfl rfl ?_
    refine e_lload dX4_setPinned_35 rfl ?_
    refine e_lor dX4_setPinned_37 ?_
    refine e_goto (tgt := 52) dX4_setPinned_38 rfl ?_
    refine e_putJ (ci := 2) (j := 3) dX4_setPinned_52 rfl ho0.1 ho0.2 rfl ?_
    refine e_naM (e := sJ μ k0 3 ((μ.2.1 k0 3) ||| x4)) h (fun μ10 eμ10 h => ?_)
    refine e_iload dX4_setPinned_55 rfl ?_
    obtain ⟨hc11, h⟩ := ck_eq h
    exact e_iret .boolean dX4_setPinned_57 rfl hc11 (ret_eq h)
set_option maxHeartbeats 4000000 in
theorem b_X4_setPinned : ∀ as μ r μ', Γ_X4_setPinned as μ r μ' → (elvL as).length ≤ 7 ∧ G mX4_setPinned (Qe r μ') 0 (elv as 7) [] μ (rc r 0) := by
  intro as μ r μ' h
  obtain ⟨k0, a0, a1, a2, rfl, ho0, h⟩ := h
  refine ⟨Nat.le_of_ble_eq_true rfl, ?_⟩
  show G mX4_setPinned (Qe r μ') 0 [some (.ref k0), some (.int a0), some (.int a1), some (.int a2), none, none, none] [] μ (rc r 0)
  unfold F_X4_setPinned at h
  have hb9 : rc r 0 ≤ rc r 0 := Nat.le_refl _
  refine e_iload_n dX4_setPinned_0 rfl ?_
  refine e_iload_n dX4_setPinned_1 rfl ?_
  refine cJ_go h (fun E3 hc1 hr4 => e_SX [.int a0, .int a1] [] dX4_setPinned_2 rfl (by decide) rfl rfl (Nat.le_of_ble_eq_true rfl) (hbr hr4 hb9 (Nat.le_of_ble_eq_true rfl)) ⟨a0, a1, rfl, hc1⟩ rfl ⟨hr4.symm, rfl⟩) (fun v5 μ2 hc1 h => ?_)
  refine e_SJ [.int a0, .int a1] [] dX4_setPinned_2 rfl (by decide) rfl rfl (Nat.le_of_ble_eq_true rfl) ⟨a0, a1, rfl, hc1⟩ ?_
  refine e_lstoreL [some (.ref k0), some (.int a0), some (.int a1), some (.int a2), some (.long v5), none, none] dX4_setPinned_5 (Nat.le_of_ble_eq_true rfl) rfl ?_
  refine e_aload_n dX4_setPinned_7 rfl ?_
  refine e_get (ci := 2) (j := 3) (t := 1) (v := .long (μ2.2.1 k0 3)) dX4_setPinned_8 rfl ho0.1 ho0.2 rfl rfl ?_
  refine e_lload dX4_setPinned_11 rfl ?_
  refine e_land dX4_setPinned_13 ?_
  refine e_lconst (v := (0 : Int64)) dX4_setPinned_14 rfl ?_
  refine e_lcmp dX4_setPinned_15 ?_
  refine e_if_eq (tgt := 23) dX4_setPinned_16 rfl (fun hc6 => ?_) (fun hc6 => ?_)
  · rw [if_pos hc6] at h
    refine e_iconst dX4_setPinned_23 ci_0 ?_
    exact e_le (g_X4_setPinned_24 k0 ho0 a2 v5 (0 : Int32) μ2 _ hb9 h) ⟨rfl, rfl, rfl, trivial⟩
  · rw [if_neg hc6] at h
    refine e_iconst dX4_setPinned_19 ci_1 ?_
    refine e_goto (tgt := 24) dX4_setPinned_20 rfl ?_
    exact e_le (g_X4_setPinned_24 k0 ho0 a2 v5 (1 : Int32) μ2 _ hb9 h) ⟨rfl, rfl, rfl, trivial⟩
set_option maxRecDepth 20000 in
theorem ok_X4_setPinned (l : Launch) (hl : l.stackTraces = false) : MOK l yX4_setPinned.cls 2 21 mX4_setPinned := ⟨lk_all (List.forall_mem_cons.mpr ⟨⟨yX0_bit, cX0_bit, 2, (some .long), 1, 0, by decide, by decide, t_1 9 rfl rfl, hd_X0_bit, Or.inl ⟨rfl, sc_X0_bit l hl, t_2 131 rfl rfl, t_2 223 rfl rfl, t_2 130 rfl rfl⟩⟩, nil_all⟩), fun ix ci j h => lk_all (P := fun ix q => FldOK yX4_setPinned.cls ix q.1 q.2) (List.forall_mem_cons.mpr ⟨⟨_, rfl, by decide, t_1 55 rfl rfl⟩, nil_all⟩) ix (ci, j) h, lk_all (nil_all), lk_all (List.forall_mem_cons.mpr ⟨t_1 236 rfl rfl, nil_all⟩), lk_all (nil_all)⟩
theorem hd_X4_setPinned : CallHd yX4_setPinned 3 := ⟨by decide +kernel, by decide +kernel, by decide +kernel⟩
theorem sc_X4_setPinned (l : Launch) (hl : l.stackTraces = false) : SCon l yX4_setPinned cX4_setPinned 7 (some .boolean) 2 21 0 Γ_X4_setPinned := scon_of mX4_setPinned cls_ok hl (by decide +kernel) rfl rfl (ok_X4_setPinned l hl) rfl rfl b_X4_setPinned
def F_X4_setWanted (k0 : Nat) (a0 : Int32) (a1 : Int32) (μ : Mem) : Out := cI (F_X4_wantedOf k0 a0 μ) (fun v5 μ2 => if (μ2.1 k0 0) ≤ a0 then (cJ (F_X1_changed (μ2.2.1 k0 5) (a0 - (μ2.1 k0 0)) a1 μ2) (fun v11 μ8 => lt (sJ μ8 k0 5 v11) (fun μ12 => rI v5 μ12))) else (cJ (F_X1_changed (μ2.2.1 k0 4) a0 a1 μ2) (fun v17 μ14 => lt (sJ μ14 k0 4 v17) (fun μ18 => rI v5 μ18))))
def Γ_X4_setWanted : Gam := fun as μ r μ' => ∃ (k0 : Nat) (a0 : Int32) (a1 : Int32), as = [.ref k0, .int a0, .int a1] ∧ okO k0 2 ∧ F_X4_setWanted k0 a0 a1 μ = some (r, μ')
def mX4_setWanted : MI := (cX4_setWanted, [(68, (1, 1, 0, 2, Γ_X4_wantedOf)), (81, (0, 3, 0, 0, Γ_X1_changed))], [(9, 2, 0), (25, 2, 4), (28, 2, 5)], [], [], [], [], (29, none), (some .int))
set_option maxHeartbeats 4000000 in
theorem b_X4_setWanted : ∀ as μ r μ', Γ_X4_setWanted as μ r μ' → (elvL as).length ≤ 4 ∧ G mX4_setWanted (Qe r μ') 0 (elv as 4) [] μ (rc r 0) := by
  intro as μ r μ' h
  obtain ⟨k0, a0, a1, rfl, ho0, h⟩ := h
  refine ⟨Nat.le_of_ble_eq_true rfl, ?_⟩
  show G mX4_setWanted (Qe r μ') 0 [some (.ref k0), some (.int a0), some (.int a1), none] [] μ (rc r 0)
  unfold F_X4_setWanted at h
  have hb9 : rc r 0 ≤ rc r 0 := Nat.le_refl _
  refine e_aload_n dX4_setWanted_0 rfl ?_
  refine e_iload_n dX4_setWanted_1 rfl ?_
  refine cI_go h (fun E3 hc1 hr4 => e_VX [.int a0] [] dX4_setWanted_2 rfl rfl rfl rfl ho0 (Nat.le_of_ble_eq_true rfl) (hbr hr4 hb9 (Nat.le_of_ble_eq_true rfl)) ⟨k0, a0, rfl, ho0, hc1⟩ rfl ⟨hr4.symm, rfl⟩) (fun v5 μ2 hc1 h => ?_)
  refine e_VI [.int a0] [] dX4_setWanted_2 rfl rfl rfl rfl ho0 (Nat.le_of_ble_eq_true rfl) ⟨k0, a0, rfl, ho0, hc1⟩ ?_
  refine e_istore_nL [some (.ref k0), some (.int a0), some (.int a1), some (.int v5)] dX4_setWanted_5 (Nat.le_of_ble_eq_true rfl) rfl ?_
  refine e_iload_n dX4_setWanted_6 rfl ?_
  refine e_aload_n dX4_setWanted_7 rfl ?_
  refine e_get (ci := 2) (j := 0) (t := 0) (v := .int (μ2.1 k0 0)) dX4_setWanted_8 rfl ho0.1 ho0.2 rfl rfl ?_
  refine e_ic_ge (tgt := 30) dX4_setWanted_11 rfl (fun hc6 => ?_) (fun hc6 => ?_)
  · rw [if_pos hc6] at h
    refine e_aload_n dX4_setWanted_30 rfl ?_
    refine e_aload_n dX4_setWanted_31 rfl ?_
    refine e_get (ci := 2) (j := 5) (t := 1) (v := .long (μ2.2.1 k0 5)) dX4_setWanted_32 rfl ho0.1 ho0.2 rfl rfl ?_
    refine e_iload_n dX4_setWanted_35 rfl ?_
    refine e_aload_n dX4_setWanted_36 rfl ?_
    refine e_get (ci := 2) (j := 0) (t := 0) (v := .int (μ2.1 k0 0)) dX4_setWanted_37 rfl ho0.1 ho0.2 rfl rfl ?_
    refine e_isub dX4_setWanted_40 ?_
    refine e_iload_n dX4_setWanted_41 rfl ?_
    refine cJ_go h (fun E9 hc7 hr10 => e_SX [.long (μ2.2.1 k0 5), .int (a0 - (μ2.1 k0 0)), .int a1] [.ref k0] dX4_setWanted_42 rfl (by decide) rfl rfl (Nat.le_of_ble_eq_true rfl) (hbr hr10 hb9 (Nat.le_of_ble_eq_true rfl)) ⟨μ2.2.1 k0 5, a0 - (μ2.1 k0 0), a1, rfl, hc7⟩ rfl ⟨hr10.symm, rfl⟩) (fun v11 μ8 hc7 h => ?_)
    refine e_SJ [.long (μ2.2.1 k0 5), .int (a0 - (μ2.1 k0 0)), .int a1] [.ref k0] dX4_setWanted_42 rfl (by decide) rfl rfl (Nat.le_of_ble_eq_true rfl) ⟨μ2.2.1 k0 5, a0 - (μ2.1 k0 0), a1, rfl, hc7⟩ ?_
    refine e_putJ (ci := 2) (j := 5) dX4_setWanted_45 rfl ho0.1 ho0.2 rfl ?_
    refine e_naM (e := sJ μ8 k0 5 v11) h (fun μ12 eμ12 h => ?_)
    refine e_iload_n dX4_setWanted_48 rfl ?_
    exact e_iret .int dX4_setWanted_49 rfl rfl (ret_eq h)
  · rw [if_neg hc6] at h
    refine e_aload_n dX4_setWanted_14 rfl ?_
    refine e_aload_n dX4_setWanted_15 rfl ?_
    refine e_get (ci := 2) (j := 4) (t := 1) (v := .long (μ2.2.1 k0 4)) dX4_setWanted_16 rfl ho0.1 ho0.2 rfl rfl ?_
    refine e_iload_n dX4_setWanted_19 rfl ?_
    refine e_iload_n dX4_setWanted_20 rfl ?_
    refine cJ_go h (fun E15 hc13 hr16 => e_SX [.long (μ2.2.1 k0 4), .int a0, .int a1] [.ref k0] dX4_setWanted_21 rfl (by decide) rfl rfl (Nat.le_of_ble_eq_true rfl) (hbr hr16 hb9 (Nat.le_of_ble_eq_true rfl)) ⟨μ2.2.1 k0 4, a0, a1, rfl, hc13⟩ rfl ⟨hr16.symm, rfl⟩) (fun v17 μ14 hc13 h => ?_)
    refine e_SJ [.long (μ2.2.1 k0 4), .int a0, .int a1] [.ref k0] dX4_setWanted_21 rfl (by decide) rfl rfl (Nat.le_of_ble_eq_true rfl) ⟨μ2.2.1 k0 4, a0, a1, rfl, hc13⟩ ?_
    refine e_putJ (ci := 2) (j := 4) dX4_setWanted_24 rfl ho0.1 ho0.2 rfl ?_
    refine e_naM (e := sJ μ14 k0 4 v17) h (fun μ18 eμ18 h => ?_)
    refine e_goto (tgt := 48) dX4_setWanted_27 rfl ?_
    refine e_iload_n dX4_setWanted_48 rfl ?_
    exact e_iret .int dX4_setWanted_49 rfl rfl (ret_eq h)
set_option maxRecDepth 20000 in
theorem ok_X4_setWanted (l : Launch) (hl : l.stackTraces = false) : MOK l yX4_setWanted.cls 3 43 mX4_setWanted := ⟨lk_all (List.forall_mem_cons.mpr ⟨⟨yX4_wantedOf, cX4_wantedOf, 2, (some .int), 2, 22, by decide, by decide, t_1 3 rfl rfl, hd_X4_wantedOf, Or.inr (Or.inl ⟨rfl, sc_X4_wantedOf l hl, t_1 202 rfl rfl, t_1 199 rfl rfl, t_1 200 rfl rfl, _, rfl, t_1 201 rfl rfl⟩)⟩, List.forall_mem_cons.mpr ⟨⟨yX1_changed, cX1_changed, 4, (some .long), 1, 0, by decide, by decide, t_1 8 rfl rfl, hd_X1_changed, Or.inl ⟨rfl, sc_X1_changed l hl, t_2 212 rfl rfl, t_2 210 rfl rfl, t_2 211 rfl rfl⟩⟩, nil_all⟩⟩), fun ix ci j h => lk_all (P := fun ix q => FldOK yX4_setWanted.cls ix q.1 q.2) (List.forall_mem_cons.mpr ⟨⟨_, rfl, by decide, t_1 46 rfl rfl⟩, List.forall_mem_cons.mpr ⟨⟨_, rfl, by decide, t_1 58 rfl rfl⟩, List.forall_mem_cons.mpr ⟨⟨_, rfl, by decide, t_1 59 rfl rfl⟩, nil_all⟩⟩⟩) ix (ci, j) h, lk_all (nil_all), lk_all (nil_all), lk_all (nil_all)⟩
theorem hd_X4_setWanted : CallHd yX4_setWanted 2 := ⟨by decide +kernel, by decide +kernel, by decide +kernel⟩
theorem sc_X4_setWanted (l : Launch) (hl : l.stackTraces = false) : SCon l yX4_setWanted cX4_setWanted 4 (some .int) 3 43 0 Γ_X4_setWanted := scon_of mX4_setWanted cls_ok hl (by decide +kernel) rfl rfl (ok_X4_setWanted l hl) rfl rfl b_X4_setWanted
def F_X4_stepIn (k0 : Nat) (a0 : Int32) (μ : Mem) : Out := if (μ.1 k0 0) ≤ a0 then (rI (8 : Int32) μ) else (rI (1 : Int32) μ)
def Γ_X4_stepIn : Gam := fun as μ r μ' => ∃ (k0 : Nat) (a0 : Int32), as = [.ref k0, .int a0] ∧ okO k0 2 ∧ F_X4_stepIn k0 a0 μ = some (r, μ')
def mX4_stepIn : MI := (cX4_stepIn, [], [(9, 2, 0)], [], [], [], [], (29, none), (some .int))
set_option maxHeartbeats 4000000 in
theorem b_X4_stepIn : ∀ as μ r μ', Γ_X4_stepIn as μ r μ' → (elvL as).length ≤ 2 ∧ G mX4_stepIn (Qe r μ') 0 (elv as 2) [] μ (rc r 0) := by
  intro as μ r μ' h
  obtain ⟨k0, a0, rfl, ho0, h⟩ := h
  refine ⟨Nat.le_of_ble_eq_true rfl, ?_⟩
  show G mX4_stepIn (Qe r μ') 0 [some (.ref k0), some (.int a0)] [] μ (rc r 0)
  unfold F_X4_stepIn at h
  have hb9 : rc r 0 ≤ rc r 0 := Nat.le_refl _
  refine e_iload_n dX4_stepIn_0 rfl ?_
  refine e_aload_n dX4_stepIn_1 rfl ?_
  refine e_get (ci := 2) (j := 0) (t := 0) (v := .int (μ.1 k0 0)) dX4_stepIn_2 rfl ho0.1 ho0.2 rfl rfl ?_
  refine e_ic_ge (tgt := 12) dX4_stepIn_5 rfl (fun hc1 => ?_) (fun hc1 => ?_)
  · rw [if_pos hc1] at h
    refine e_bipush dX4_stepIn_12 cb_8 ?_
    exact e_iret .int dX4_stepIn_14 rfl rfl (ret_eq h)
  · rw [if_neg hc1] at h
    refine e_iconst dX4_stepIn_8 ci_1 ?_
    refine e_goto (tgt := 14) dX4_stepIn_9 rfl ?_
    exact e_iret .int dX4_stepIn_14 rfl rfl (ret_eq h)
set_option maxRecDepth 20000 in
theorem ok_X4_stepIn (l : Launch) (hl : l.stackTraces = false) : MOK l yX4_stepIn.cls 1 0 mX4_stepIn := ⟨lk_all (nil_all), fun ix ci j h => lk_all (P := fun ix q => FldOK yX4_stepIn.cls ix q.1 q.2) (List.forall_mem_cons.mpr ⟨⟨_, rfl, by decide, t_1 46 rfl rfl⟩, nil_all⟩) ix (ci, j) h, lk_all (nil_all), lk_all (nil_all), lk_all (nil_all)⟩
theorem hd_X4_stepIn : CallHd yX4_stepIn 1 := ⟨by decide +kernel, by decide +kernel, by decide +kernel⟩
theorem sc_X4_stepIn (l : Launch) (hl : l.stackTraces = false) : SCon l yX4_stepIn cX4_stepIn 2 (some .int) 1 0 0 Γ_X4_stepIn := scon_of mX4_stepIn cls_ok hl (by decide +kernel) rfl rfl (ok_X4_stepIn l hl) rfl rfl b_X4_stepIn
def f_X4_turnQuarter_140 (k0 : Nat) (k66 : Int64 → Int64 → Int64 → Int32 → Int32 → Int32 → Mem → Out) (k105 : Int64 → Int64 → Int64 → Int32 → Int32 → Int32 → Int32 → Int32 → Mem → Out) (x1 : Int64) (x3 : Int64) (x5 : Int64) (x7 : Int32) (x8 : Int32) (x9 : Int32) (x10 : Int32) (x11 : Int32) (x12 : Int64) (s0 : Int32) (s1 : Int32) (s2 : Int32) (μ : Mem) : Out := cI (F_X4_setFilled k0 s2 s1 s0 μ) (fun v37 μ34 => if (lg_cmp (x3 &&& x12) (0 : Int64)) = 0 then (cI (F_X4_setPinned k0 x11 x10 (0 : Int32) μ34) (fun v43 μ40 => lt (x11 + (1 : Int32)) (fun v44 => k105 x1 x3 x5 x7 x8 x9 x10 v44 μ40))) else (cI (F_X4_setPinned k0 x11 x10 (1 : Int32) μ34) (fun v49 μ46 => lt (x11 + (1 : Int32)) (fun v50 => k105 x1 x3 x5 x7 x8 x9 x10 v50 μ46))))
def f_X4_turnQuarter_105 (k0 : Nat) (k66 : Int64 → Int64 → Int64 → Int32 → Int32 → Int32 → Mem → Out) : Nat → Int64 → Int64 → Int64 → Int32 → Int32 → Int32 → Int32 → Int32 → Mem → Out
  | 0, _, _, _, _, _, _, _, _, _ => none
  | n + 1, x1, x3, x5, x7, x8, x9, x10, x11, μ => if x8 ≤ x11 then (lt (x9 + (1 : Int32)) (fun v26 => k66 x1 x3 x5 x7 x8 v26 μ)) else (cJ (F_X0_bit x9 x11 μ) (fun v31 μ28 => if (lg_cmp (x1 &&& v31) (0 : Int64)) = 0 then (f_X4_turnQuarter_140 k0 k66 (f_X4_turnQuarter_105 k0 k66 n) x1 x3 x5 x7 x8 x9 x10 x11 v31 (0 : Int32) x10 x11 μ28) else (f_X4_turnQuarter_140 k0 k66 (f_X4_turnQuarter_105 k0 k66 n) x1 x3 x5 x7 x8 x9 x10 x11 v31 (1 : Int32) x10 x11 μ28)))
def f_X4_turnQuarter_66 (k0 : Nat) : Nat → Int64 → Int64 → Int64 → Int32 → Int32 → Int32 → Mem → Out
  | 0, _, _, _, _, _, _, _ => none
  | n + 1, x1, x3, x5, x7, x8, x9, μ => if x7 ≤ x9 then (rV μ) else (lt ((x7 - (1 : Int32)) - x9) (fun v13 => cI (F_X1_digit x5 x9 μ) (fun v18 μ15 => cJ (F_X1_changed (μ.2.1 k0 5) v13 v18 μ15) (fun v23 μ20 => lt (sJ μ20 k0 5 v23) (fun μ24 => f_X4_turnQuarter_105 k0 (f_X4_turnQuarter_66 k0 n) BIG x1 x3 x5 x7 x8 x9 v13 (0 : Int32) μ24)))))
def F_X4_turnQuarter (k0 : Nat) (μ : Mem) : Out := lt (μ.2.1 k0 2) (fun v1 => lt (μ.2.1 k0 3) (fun v2 => lt (μ.2.1 k0 4) (fun v3 => lt (μ.1 k0 0) (fun v4 => lt (μ.1 k0 1) (fun v5 => lt (sI μ k0 0 v5) (fun μ6 => lt (sI μ6 k0 1 v4) (fun μ7 => lt (sJ μ7 k0 4 (μ7.2.1 k0 5)) (fun μ8 => lt (sJ μ8 k0 5 (0 : Int64)) (fun μ9 => lt (sJ μ9 k0 2 (0 : Int64)) (fun μ10 => lt (sJ μ10 k0 3 (0 : Int64)) (fun μ11 => f_X4_turnQuarter_66 k0 BIG v1 v2 v3 v4 v5 (0 : Int32) μ11)))))))))))
def Γ_X4_turnQuarter : Gam := fun as μ r μ' => ∃ (k0 : Nat), as = [.ref k0] ∧ okO k0 2 ∧ F_X4_turnQuarter k0 μ = some (r, μ')
def mX4_turnQuarter : MI := (cX4_turnQuarter, [(55, (0, 2, 0, 0, Γ_X1_digit)), (75, (0, 2, 0, 0, Γ_X0_bit)), (81, (0, 3, 0, 0, Γ_X1_changed)), (89, (1, 3, 0, 2, Γ_X4_setFilled)), (93, (1, 3, 0, 2, Γ_X4_setPinned))], [(9, 2, 0), (15, 2, 1), (18, 2, 2), (22, 2, 3), (25, 2, 4), (28, 2, 5)], [], [], [], [], (29, none), none)
set_option maxHeartbeats 4000000 in
theorem g_X4_turnQuarter_140 {r : Res} {μ' : Mem} (k0 : Nat) (ho0 : okO k0 2) {k66 : Int64 → Int64 → Int64 → Int32 → Int32 → Int32 → Mem → Out} {k105 : Int64 → Int64 → Int64 → Int32 → Int32 → Int32 → Int32 → Int32 → Mem → Out} (hk66 : ∀ (x1 : Int64) (x3 : Int64) (x5 : Int64) (x7 : Int32) (x8 : Int32) (x9 : Int32), ∀ (μ : Mem) (b : Nat), rc r 0 ≤ b → k66 x1 x3 x5 x7 x8 x9 μ = some (r, μ') → G mX4_turnQuarter (Qe r μ') 66 [some (.ref k0), some (.long x1), none, some (.long x3), none, some (.long x5), none, some (.int x7), some (.int x8), some (.int x9), none, none, none, none] [] μ b) (hk105 : ∀ (x1 : Int64) (x3 : Int64) (x5 : Int64) (x7 : Int32) (x8 : Int32) (x9 : Int32) (x10 : Int32) (x11 : Int32), ∀ (μ : Mem) (b : Nat), rc r 0 ≤ b → k105 x1 x3 x5 x7 x8 x9 x10 x11 μ = some (r, μ') → G mX4_turnQuarter (Qe r μ') 105 [some (.ref k0), some (.long x1), none, some (.long x3), none, some (.long x5), none, some (.int x7), some (.int x8), some (.int x9), some (.int x10), some (.int x11), none, none] [] μ b) : ∀ (x1 : Int64) (x3 : Int64) (x5 : Int64) (x7 : Int32) (x8 : Int32) (x9 : Int32) (x10 : Int32) (x11 : Int32) (x12 : Int64) (s0 : Int32) (s1 : Int32) (s2 : Int32), ∀ (μ : Mem) (b : Nat), rc r 0 ≤ b → f_X4_turnQuarter_140 k0 k66 k105 x1 x3 x5 x7 x8 x9 x10 x11 x12 s0 s1 s2 μ = some (r, μ') → G mX4_turnQuarter (Qe r μ') 140 [some (.ref k0), some (.long x1), none, some (.long x3), none, some (.long x5), none, some (.int x7), some (.int x8), some (.int x9), some (.int x10), some (.int x11), some (.long x12), none] [.int s0, .int s1, .int s2, .ref k0] μ b := by
  intro x1 x3 x5 x7 x8 x9 x10 x11 x12 s0 s1 s2 μ b hb9 h
  unfold f_X4_turnQuarter_140 at h
  refine cI_go h (fun E35 hc33 hr36 => e_VX [.int s2, .int s1, .int s0] [] dX4_turnQuarter_140 rfl rfl rfl rfl ho0 (Nat.le_of_ble_eq_true rfl) (hbr hr36 hb9 (Nat.le_of_ble_eq_true rfl)) ⟨k0, s2, s1, s0, rfl, ho0, hc33⟩ rfl ⟨hr36.symm, rfl⟩) (fun v37 μ34 hc33 h => ?_)
  refine e_VI [.int s2, .int s1, .int s0] [] dX4_turnQuarter_140 rfl rfl rfl rfl ho0 (Nat.le_of_ble_eq_true rfl) ⟨k0, s2, s1, s0, rfl, ho0, hc33⟩ ?_
  refine e_pop dX4_turnQuarter_143 rfl ?_
  refine e_aload_n dX4_turnQuarter_144 rfl ?_
  refine e_iload dX4_turnQuarter_145 rfl ?_
  refine e_iload dX4_turnQuarter_147 rfl ?_
  refine e_lload_n dX4_turnQuarter_149 rfl ?_
  refine e_lload dX4_turnQuarter_150 rfl ?_
  refine e_land dX4_turnQuarter_152 ?_
  refine e_lconst (v := (0 : Int64)) dX4_turnQuarter_153 rfl ?_
  refine e_lcmp dX4_turnQuarter_154 ?_
  refine e_if_eq (tgt := 162) dX4_turnQuarter_155 rfl (fun hc38 => ?_) (fun hc38 => ?_)
  · rw [if_pos hc38] at h
    refine e_iconst dX4_turnQuarter_162 ci_0 ?_
    refine cI_go h (fun E41 hc39 hr42 => e_VX [.int x11, .int x10, .int (0 : Int32)] [] dX4_turnQuarter_163 rfl rfl rfl rfl ho0 (Nat.le_of_ble_eq_true rfl) (hbr hr42 hb9 (Nat.le_of_ble_eq_true rfl)) ⟨k0, x11, x10, (0 : Int32), rfl, ho0, hc39⟩ rfl ⟨hr42.symm, rfl⟩) (fun v43 μ40 hc39 h => ?_)
    refine e_VI [.int x11, .int x10, .int (0 : Int32)] [] dX4_turnQuarter_163 rfl rfl rfl rfl ho0 (Nat.le_of_ble_eq_true rfl) ⟨k0, x11, x10, (0 : Int32), rfl, ho0, hc39⟩ ?_
    refine e_pop dX4_turnQuarter_166 rfl ?_
    refine e_iincN 11 (1 : Int32) dX4_turnQuarter_167 rfl ci_1 h (fun y9 => [some (.ref k0), some (.long x1), none, some (.long x3), none, some (.long x5), none, some (.int x7), some (.int x8), some (.int x9), some (.int x10), some (.int y9), some (.long x12), none]) (fun _ => rfl) (fun v44 ev44 h => ?_)
    refine e_goto (tgt := 105) dX4_turnQuarter_170 rfl ?_
    exact e_le (hk105 x1 x3 x5 x7 x8 x9 x10 v44 μ40 _ hb9 h) ⟨rfl, rfl, rfl, rfl, rfl, rfl, rfl, rfl, rfl, trivial⟩
  · rw [if_neg hc38] at h
    refine e_iconst dX4_turnQuarter_158 ci_1 ?_
    refine e_goto (tgt := 163) dX4_turnQuarter_159 rfl ?_
    refine cI_go h (fun E47 hc45 hr48 => e_VX [.int x11, .int x10, .int (1 : Int32)] [] dX4_turnQuarter_163 rfl rfl rfl rfl ho0 (Nat.le_of_ble_eq_true rfl) (hbr hr48 hb9 (Nat.le_of_ble_eq_true rfl)) ⟨k0, x11, x10, (1 : Int32), rfl, ho0, hc45⟩ rfl ⟨hr48.symm, rfl⟩) (fun v49 μ46 hc45 h => ?_)
    refine e_VI [.int x11, .int x10, .int (1 : Int32)] [] dX4_turnQuarter_163 rfl rfl rfl rfl ho0 (Nat.le_of_ble_eq_true rfl) ⟨k0, x11, x10, (1 : Int32), rfl, ho0, hc45⟩ ?_
    refine e_pop dX4_turnQuarter_166 rfl ?_
    refine e_iincN 11 (1 : Int32) dX4_turnQuarter_167 rfl ci_1 h (fun y9 => [some (.ref k0), some (.long x1), none, some (.long x3), none, some (.long x5), none, some (.int x7), some (.int x8), some (.int x9), some (.int x10), some (.int y9), some (.long x12), none]) (fun _ => rfl) (fun v50 ev50 h => ?_)
    refine e_goto (tgt := 105) dX4_turnQuarter_170 rfl ?_
    exact e_le (hk105 x1 x3 x5 x7 x8 x9 x10 v50 μ46 _ hb9 h) ⟨rfl, rfl, rfl, rfl, rfl, rfl, rfl, rfl, rfl, trivial⟩
set_option maxHeartbeats 4000000 in
theorem g_X4_turnQuarter_105 {r : Res} {μ' : Mem} (k0 : Nat) (ho0 : okO k0 2) {k66 : Int64 → Int64 → Int64 → Int32 → Int32 → Int32 → Mem → Out} (hk66 : ∀ (x1 : Int64) (x3 : Int64) (x5 : Int64) (x7 : Int32) (x8 : Int32) (x9 : Int32), ∀ (μ : Mem) (b : Nat), rc r 0 ≤ b → k66 x1 x3 x5 x7 x8 x9 μ = some (r, μ') → G mX4_turnQuarter (Qe r μ') 66 [some (.ref k0), some (.long x1), none, some (.long x3), none, some (.long x5), none, some (.int x7), some (.int x8), some (.int x9), none, none, none, none] [] μ b) : ∀ n : Nat, ∀ (x1 : Int64) (x3 : Int64) (x5 : Int64) (x7 : Int32) (x8 : Int32) (x9 : Int32) (x10 : Int32) (x11 : Int32), ∀ (μ : Mem) (b : Nat), rc r 0 ≤ b → f_X4_turnQuarter_105 k0 k66 n x1 x3 x5 x7 x8 x9 x10 x11 μ = some (r, μ') → G mX4_turnQuarter (Qe r μ') 105 [some (.ref k0), some (.long x1), none, some (.long x3), none, some (.long x5), none, some (.int x7), some (.int x8), some (.int x9), some (.int x10), some (.int x11), none, none] [] μ b := by
  intro n
  induction n with
  | zero => intro x1 x3 x5 x7 x8 x9 x10 x11 μ b hb9 h; exact nomatch (show (none : Out) = some _ from h)
  | succ n ih =>
    intro x1 x3 x5 x7 x8 x9 x10 x11 μ b hb9 h
    rw [f_X4_turnQuarter_105.eq_2] at h
    refine e_iload dX4_turnQuarter_105 rfl ?_
    refine e_iload dX4_turnQuarter_107 rfl ?_
    refine e_ic_ge (tgt := 173) dX4_turnQuarter_109 rfl (fun hc25 => ?_) (fun hc25 => ?_)
    · rw [if_pos hc25] at h
      refine e_iincN 9 (1 : Int32) dX4_turnQuarter_173 rfl ci_1 h (fun y9 => [some (.ref k0), some (.long x1), none, some (.long x3), none, some (.long x5), none, some (.int x7), some (.int x8), some (.int y9), some (.int x10), some (.int x11), none, none]) (fun _ => rfl) (fun v26 ev26 h => ?_)
      refine e_goto (tgt := 66) dX4_turnQuarter_176 rfl ?_
      exact e_le (hk66 x1 x3 x5 x7 x8 v26 μ _ hb9 h) ⟨rfl, rfl, rfl, rfl, rfl, rfl, rfl, trivial⟩
    · rw [if_neg hc25] at h
      refine e_iload dX4_turnQuarter_112 rfl ?_
      refine e_iload dX4_turnQuarter_114 rfl ?_
      refine cJ_go h (fun E29 hc27 hr30 => e_SX [.int x9, .int x11] [] dX4_turnQuarter_116 rfl (by decide) rfl rfl (Nat.le_of_ble_eq_true rfl) (hbr hr30 hb9 (Nat.le_of_ble_eq_true rfl)) ⟨x9, x11, rfl, hc27⟩ rfl ⟨hr30.symm, rfl⟩) (fun v31 μ28 hc27 h => ?_)
      refine e_SJ [.int x9, .int x11] [] dX4_turnQuarter_116 rfl (by decide) rfl rfl (Nat.le_of_ble_eq_true rfl) ⟨x9, x11, rfl, hc27⟩ ?_
      refine e_lstoreL [some (.ref k0), some (.long x1), none, some (.long x3), none, some (.long x5), none, some (.int x7), some (.int x8), some (.int x9), some (.int x10), some (.int x11), some (.long v31), none] dX4_turnQuarter_119 (Nat.le_of_ble_eq_true rfl) rfl ?_
      refine e_aload_n dX4_turnQuarter_121 rfl ?_
      refine e_iload dX4_turnQuarter_122 rfl ?_
      refine e_iload dX4_turnQuarter_124 rfl ?_
      refine e_lload_n dX4_turnQuarter_126 rfl ?_
      refine e_lload dX4_turnQuarter_127 rfl ?_
      refine e_land dX4_turnQuarter_129 ?_
      refine e_lconst (v := (0 : Int64)) dX4_turnQuarter_130 rfl ?_
      refine e_lcmp dX4_turnQuarter_131 ?_
      refine e_if_eq (tgt := 139) dX4_turnQuarter_132 rfl (fun hc32 => ?_) (fun hc32 => ?_)
      · rw [if_pos hc32] at h
        refine e_iconst dX4_turnQuarter_139 ci_0 ?_
        exact e_le (g_X4_turnQuarter_140 k0 ho0 hk66 ih x1 x3 x5 x7 x8 x9 x10 x11 v31 (0 : Int32) x10 x11 μ28 _ hb9 h) ⟨rfl, rfl, rfl, rfl, rfl, rfl, rfl, rfl, rfl, rfl, trivial⟩
      · rw [if_neg hc32] at h
        refine e_iconst dX4_turnQuarter_135 ci_1 ?_
        refine e_goto (tgt := 140) dX4_turnQuarter_136 rfl ?_
        exact e_le (g_X4_turnQuarter_140 k0 ho0 hk66 ih x1 x3 x5 x7 x8 x9 x10 x11 v31 (1 : Int32) x10 x11 μ28 _ hb9 h) ⟨rfl, rfl, rfl, rfl, rfl, rfl, rfl, rfl, rfl, rfl, trivial⟩
set_option maxHeartbeats 4000000 in
theorem g_X4_turnQuarter_66 {r : Res} {μ' : Mem} (k0 : Nat) (ho0 : okO k0 2) : ∀ n : Nat, ∀ (x1 : Int64) (x3 : Int64) (x5 : Int64) (x7 : Int32) (x8 : Int32) (x9 : Int32), ∀ (μ : Mem) (b : Nat), rc r 0 ≤ b → f_X4_turnQuarter_66 k0 n x1 x3 x5 x7 x8 x9 μ = some (r, μ') → G mX4_turnQuarter (Qe r μ') 66 [some (.ref k0), some (.long x1), none, some (.long x3), none, some (.long x5), none, some (.int x7), some (.int x8), some (.int x9), none, none, none, none] [] μ b := by
  intro n
  induction n with
  | zero => intro x1 x3 x5 x7 x8 x9 μ b hb9 h; exact nomatch (show (none : Out) = some _ from h)
  | succ n ih =>
    intro x1 x3 x5 x7 x8 x9 μ b hb9 h
    rw [f_X4_turnQuarter_66.eq_2] at h
    refine e_iload dX4_turnQuarter_66 rfl ?_
    refine e_iload dX4_turnQuarter_68 rfl ?_
    refine e_ic_ge (tgt := 179) dX4_turnQuarter_70 rfl (fun hc12 => ?_) (fun hc12 => ?_)
    · rw [if_pos hc12] at h
      exact e_vret dX4_turnQuarter_179 rfl (ret_eq h)
    · rw [if_neg hc12] at h
      refine e_iload dX4_turnQuarter_73 rfl ?_
      refine e_iconst dX4_turnQuarter_75 ci_1 ?_
      refine e_isub dX4_turnQuarter_76 ?_
      refine e_iload dX4_turnQuarter_77 rfl ?_
      refine e_isub dX4_turnQuarter_79 ?_
      refine e_naI h (fun v13 ev13 h => ?_)
      refine e_istoreL [some (.ref k0), some (.long x1), none, some (.long x3), none, some (.long x5), none, some (.int x7), some (.int x8), some (.int x9), some (.int v13), none, none, none] dX4_turnQuarter_80 (Nat.le_of_ble_eq_true rfl) rfl ?_
      refine e_aload_n dX4_turnQuarter_82 rfl ?_
      refine e_aload_n dX4_turnQuarter_83 rfl ?_
      refine e_get (ci := 2) (j := 5) (t := 1) (v := .long (μ.2.1 k0 5)) dX4_turnQuarter_84 rfl ho0.1 ho0.2 rfl rfl ?_
      refine e_iload dX4_turnQuarter_87 rfl ?_
      refine e_lload dX4_turnQuarter_89 rfl ?_
      refine e_iload dX4_turnQuarter_91 rfl ?_
      refine cI_go h (fun E16 hc14 hr17 => e_SX [.long x5, .int x9] [.int v13, .long (μ.2.1 k0 5), .ref k0] dX4_turnQuarter_93 rfl (by decide) rfl rfl (Nat.le_of_ble_eq_true rfl) (hbr hr17 hb9 (Nat.le_of_ble_eq_true rfl)) ⟨x5, x9, rfl, hc14⟩ rfl ⟨hr17.symm, rfl⟩) (fun v18 μ15 hc14 h => ?_)
      refine e_SI [.long x5, .int x9] [.int v13, .long (μ.2.1 k0 5), .ref k0] dX4_turnQuarter_93 rfl (by decide) rfl rfl (Nat.le_of_ble_eq_true rfl) ⟨x5, x9, rfl, hc14⟩ ?_
      refine cJ_go h (fun E21 hc19 hr22 => e_SX [.long (μ.2.1 k0 5), .int v13, .int v18] [.ref k0] dX4_turnQuarter_96 rfl (by decide) rfl rfl (Nat.le_of_ble_eq_true rfl) (hbr hr22 hb9 (Nat.le_of_ble_eq_true rfl)) ⟨μ.2.1 k0 5, v13, v18, rfl, hc19⟩ rfl ⟨hr22.symm, rfl⟩) (fun v23 μ20 hc19 h => ?_)
      refine e_SJ [.long (μ.2.1 k0 5), .int v13, .int v18] [.ref k0] dX4_turnQuarter_96 rfl (by decide) rfl rfl (Nat.le_of_ble_eq_true rfl) ⟨μ.2.1 k0 5, v13, v18, rfl, hc19⟩ ?_
      refine e_putJ (ci := 2) (j := 5) dX4_turnQuarter_99 rfl ho0.1 ho0.2 rfl ?_
      refine e_naM (e := sJ μ20 k0 5 v23) h (fun μ24 eμ24 h => ?_)
      refine e_iconst dX4_turnQuarter_102 ci_0 ?_
      refine e_istoreL [some (.ref k0), some (.long x1), none, some (.long x3), none, some (.long x5), none, some (.int x7), some (.int x8), some (.int x9), some (.int v13), some (.int (0 : Int32)), none, none] dX4_turnQuarter_103 (Nat.le_of_ble_eq_true rfl) rfl ?_
      exact e_le (g_X4_turnQuarter_105 k0 ho0 ih BIG x1 x3 x5 x7 x8 x9 v13 (0 : Int32) μ24 _ hb9 h) ⟨rfl, rfl, rfl, rfl, rfl, rfl, rfl, rfl, rfl, trivial⟩
set_option maxHeartbeats 4000000 in
theorem b_X4_turnQuarter : ∀ as μ r μ', Γ_X4_turnQuarter as μ r μ' → (elvL as).length ≤ 14 ∧ G mX4_turnQuarter (Qe r μ') 0 (elv as 14) [] μ (rc r 0) := by
  intro as μ r μ' h
  obtain ⟨k0, rfl, ho0, h⟩ := h
  refine ⟨Nat.le_of_ble_eq_true rfl, ?_⟩
  show G mX4_turnQuarter (Qe r μ') 0 [some (.ref k0), none, none, none, none, none, none, none, none, none, none, none, none, none] [] μ (rc r 0)
  unfold F_X4_turnQuarter at h
  have hb9 : rc r 0 ≤ rc r 0 := Nat.le_refl _
  refine e_aload_n dX4_turnQuarter_0 rfl ?_
  refine e_get (ci := 2) (j := 2) (t := 1) (v := .long (μ.2.1 k0 2)) dX4_turnQuarter_1 rfl ho0.1 ho0.2 rfl rfl ?_
  refine e_naJ h (fun v1 ev1 h => ?_)
  refine e_lstore_nL [some (.ref k0), some (.long v1), none, none, none, none, none, none, none, none, none, none, none, none] dX4_turnQuarter_4 (Nat.le_of_ble_eq_true rfl) rfl ?_
  refine e_aload_n dX4_turnQuarter_5 rfl ?_
  refine e_get (ci := 2) (j := 3) (t := 1) (v := .long (μ.2.1 k0 3)) dX4_turnQuarter_6 rfl ho0.1 ho0.2 rfl rfl ?_
  refine e_naJ h (fun v2 ev2 h => ?_)
  refine e_lstore_nL [some (.ref k0), some (.long v1), none, some (.long v2), none, none, none, none, none, none, none, none, none, none] dX4_turnQuarter_9 (Nat.le_of_ble_eq_true rfl) rfl ?_
  refine e_aload_n dX4_turnQuarter_10 rfl ?_
  refine e_get (ci := 2) (j := 4) (t := 1) (v := .long (μ.2.1 k0 4)) dX4_turnQuarter_11 rfl ho0.1 ho0.2 rfl rfl ?_
  refine e_naJ h (fun v3 ev3 h => ?_)
  refine e_lstoreL [some (.ref k0), some (.long v1), none, some (.long v2), none, some (.long v3), none, none, none, none, none, none, none, none] dX4_turnQuarter_14 (Nat.le_of_ble_eq_true rfl) rfl ?_
  refine e_aload_n dX4_turnQuarter_16 rfl ?_
  refine e_get (ci := 2) (j := 0) (t := 0) (v := .int (μ.1 k0 0)) dX4_turnQuarter_17 rfl ho0.1 ho0.2 rfl rfl ?_
  refine e_naI h (fun v4 ev4 h => ?_)
  refine e_istoreL [some (.ref k0), some (.long v1), none, some (.long v2), none, some (.long v3), none, some (.int v4), none, none, none, none, none, none] dX4_turnQuarter_20 (Nat.le_of_ble_eq_true rfl) rfl ?_
  refine e_aload_n dX4_turnQuarter_22 rfl ?_
  refine e_get (ci := 2) (j := 1) (t := 0) (v := .int (μ.1 k0 1)) dX4_turnQuarter_23 rfl ho0.1 ho0.2 rfl rfl ?_
  refine e_naI h (fun v5 ev5 h => ?_)
  refine e_istoreL [some (.ref k0), some (.long v1), none, some (.long v2), none, some (.long v3), none, some (.int v4), some (.int v5), none, none, none, none, none] dX4_turnQuarter_26 (Nat.le_of_ble_eq_true rfl) rfl ?_
  refine e_aload_n dX4_turnQuarter_28 rfl ?_
  refine e_iload dX4_turnQuarter_29 rfl ?_
  refine e_putI (ci := 2) (j := 0) dX4_turnQuarter_31 rfl ho0.1 ho0.2 rfl ?_
  refine e_naM (e := sI μ k0 0 v5) h (fun μ6 eμ6 h => ?_)
  refine e_aload_n dX4_turnQuarter_34 rfl ?_
  refine e_iload dX4_turnQuarter_35 rfl ?_
  refine e_putI (ci := 2) (j := 1) dX4_turnQuarter_37 rfl ho0.1 ho0.2 rfl ?_
  refine e_naM (e := sI μ6 k0 1 v4) h (fun μ7 eμ7 h => ?_)
  refine e_aload_n dX4_turnQuarter_40 rfl ?_
  refine e_aload_n dX4_turnQuarter_41 rfl ?_
  refine e_get (ci := 2) (j := 5) (t := 1) (v := .long (μ7.2.1 k0 5)) dX4_turnQuarter_42 rfl ho0.1 ho0.2 rfl rfl ?_
  refine e_putJ (ci := 2) (j := 4) dX4_turnQuarter_45 rfl ho0.1 ho0.2 rfl ?_
  refine e_naM (e := sJ μ7 k0 4 (μ7.2.1 k0 5)) h (fun μ8 eμ8 h => ?_)
  refine e_aload_n dX4_turnQuarter_48 rfl ?_
  refine e_lconst (v := (0 : Int64)) dX4_turnQuarter_49 rfl ?_
  refine e_putJ (ci := 2) (j := 5) dX4_turnQuarter_50 rfl ho0.1 ho0.2 rfl ?_
  refine e_naM (e := sJ μ8 k0 5 (0 : Int64)) h (fun μ9 eμ9 h => ?_)
  refine e_aload_n dX4_turnQuarter_53 rfl ?_
  refine e_lconst (v := (0 : Int64)) dX4_turnQuarter_54 rfl ?_
  refine e_putJ (ci := 2) (j := 2) dX4_turnQuarter_55 rfl ho0.1 ho0.2 rfl ?_
  refine e_naM (e := sJ μ9 k0 2 (0 : Int64)) h (fun μ10 eμ10 h => ?_)
  refine e_aload_n dX4_turnQuarter_58 rfl ?_
  refine e_lconst (v := (0 : Int64)) dX4_turnQuarter_59 rfl ?_
  refine e_putJ (ci := 2) (j := 3) dX4_turnQuarter_60 rfl ho0.1 ho0.2 rfl ?_
  refine e_naM (e := sJ μ10 k0 3 (0 : Int64)) h (fun μ11 eμ11 h => ?_)
  refine e_iconst dX4_turnQuarter_63 ci_0 ?_
  refine e_istoreL [some (.ref k0), some (.long v1), none, some (.long v2), none, some (.long v3), none, some (.int v4), some (.int v5), some (.int (0 : Int32)), none, none, none, none] dX4_turnQuarter_64 (Nat.le_of_ble_eq_true rfl) rfl ?_
  exact e_le (g_X4_turnQuarter_66 k0 ho0 BIG v1 v2 v3 v4 v5 (0 : Int32) μ11 _ hb9 h) ⟨rfl, rfl, rfl, rfl, rfl, rfl, rfl, trivial⟩
set_option maxRecDepth 20000 in
theorem ok_X4_turnQuarter (l : Launch) (hl : l.stackTraces = false) : MOK l yX4_turnQuarter.cls 3 47 mX4_turnQuarter := ⟨lk_all (List.forall_mem_cons.mpr ⟨⟨yX1_digit, cX1_digit, 3, (some .int), 1, 0, by decide, by decide, t_1 8 rfl rfl, hd_X1_digit, Or.inl ⟨rfl, sc_X1_digit l hl, t_1 169 rfl rfl, t_1 203 rfl rfl, t_1 168 rfl rfl⟩⟩, List.forall_mem_cons.mpr ⟨⟨yX0_bit, cX0_bit, 2, (some .long), 1, 0, by decide, by decide, t_1 9 rfl rfl, hd_X0_bit, Or.inl ⟨rfl, sc_X0_bit l hl, t_2 131 rfl rfl, t_2 223 rfl rfl, t_2 130 rfl rfl⟩⟩, List.forall_mem_cons.mpr ⟨⟨yX1_changed, cX1_changed, 4, (some .long), 1, 0, by decide, by decide, t_1 8 rfl rfl, hd_X1_changed, Or.inl ⟨rfl, sc_X1_changed l hl, t_2 212 rfl rfl, t_2 210 rfl rfl, t_2 211 rfl rfl⟩⟩, List.forall_mem_cons.mpr ⟨⟨yX4_setFilled, cX4_setFilled, 7, (some .boolean), 2, 21, by decide, by decide, t_1 3 rfl rfl, hd_X4_setFilled, Or.inr (Or.inl ⟨rfl, sc_X4_setFilled l hl, t_3 3 rfl rfl, t_3 38 rfl rfl, t_3 1 rfl rfl, _, rfl, t_3 2 rfl rfl⟩)⟩, List.forall_mem_cons.mpr ⟨⟨yX4_setPinned, cX4_setPinned, 7, (some .boolean), 2, 21, by decide, by decide, t_1 3 rfl rfl, hd_X4_setPinned, Or.inr (Or.inl ⟨rfl, sc_X4_setPinned l hl, t_3 11 rfl rfl, t_3 39 rfl rfl, t_3 9 rfl rfl, _, rfl, t_3 10 rfl rfl⟩)⟩, nil_all⟩⟩⟩⟩⟩), fun ix ci j h => lk_all (P := fun ix q => FldOK yX4_turnQuarter.cls ix q.1 q.2) (List.forall_mem_cons.mpr ⟨⟨_, rfl, by decide, t_1 46 rfl rfl⟩, List.forall_mem_cons.mpr ⟨⟨_, rfl, by decide, t_1 49 rfl rfl⟩, List.forall_mem_cons.mpr ⟨⟨_, rfl, by decide, t_1 52 rfl rfl⟩, List.forall_mem_cons.mpr ⟨⟨_, rfl, by decide, t_1 55 rfl rfl⟩, List.forall_mem_cons.mpr ⟨⟨_, rfl, by decide, t_1 58 rfl rfl⟩, List.forall_mem_cons.mpr ⟨⟨_, rfl, by decide, t_1 59 rfl rfl⟩, nil_all⟩⟩⟩⟩⟩⟩) ix (ci, j) h, lk_all (nil_all), lk_all (nil_all), lk_all (nil_all)⟩
theorem hd_X4_turnQuarter : CallHd yX4_turnQuarter 0 := ⟨by decide +kernel, by decide +kernel, by decide +kernel⟩
theorem sc_X4_turnQuarter (l : Launch) (hl : l.stackTraces = false) : SCon l yX4_turnQuarter cX4_turnQuarter 14 none 3 47 0 Γ_X4_turnQuarter := scon_of mX4_turnQuarter cls_ok hl (by decide +kernel) rfl rfl (ok_X4_turnQuarter l hl) rfl rfl b_X4_turnQuarter
def f_X4_wantTheCounts_4 (k0 : Nat) : Nat → Int32 → Int32 → Mem → Out
  | 0, _, _, _ => none
  | n + 1, x1, x2, μ => if ((μ.1 k0 0) + (μ.1 k0 1)) ≤ x2 then (rI x1 μ) else (cI (F_X4_countOf k0 x2 μ) (fun v6 μ3 => cI (F_X4_setWanted k0 x2 v6 μ3) (fun v11 μ8 => if v11 = v6 then (cI (F_X7_oneIf (0 : Int32) μ8) (fun v17 μ14 => lt (x1 + v17) (fun v18 => lt (x2 + (1 : Int32)) (fun v19 => f_X4_wantTheCounts_4 k0 n v18 v19 μ14)))) else (cI (F_X7_oneIf (1 : Int32) μ8) (fun v24 μ21 => lt (x1 + v24) (fun v25 => lt (x2 + (1 : Int32)) (fun v26 => f_X4_wantTheCounts_4 k0 n v25 v26 μ21)))))))
def F_X4_wantTheCounts (k0 : Nat) (μ : Mem) : Out := f_X4_wantTheCounts_4 k0 BIG (0 : Int32) (0 : Int32) μ
def Γ_X4_wantTheCounts : Gam := fun as μ r μ' => ∃ (k0 : Nat), as = [.ref k0] ∧ okO k0 2 ∧ F_X4_wantTheCounts k0 μ = some (r, μ')
def mX4_wantTheCounts : MI := (cX4_wantTheCounts, [(64, (1, 1, 0, 2, Γ_X4_countOf)), (71, (2, 1, 0, 0, Γ_X7_oneIf)), (85, (1, 2, 0, 2, Γ_X4_setWanted))], [(9, 2, 0), (15, 2, 1)], [], [], [], [], (29, none), (some .int))
set_option maxHeartbeats 4000000 in
theorem g_X4_wantTheCounts_4 {r : Res} {μ' : Mem} (k0 : Nat) (ho0 : okO k0 2) : ∀ n : Nat, ∀ (x1 : Int32) (x2 : Int32), ∀ (μ : Mem) (b : Nat), rc r 0 ≤ b → f_X4_wantTheCounts_4 k0 n x1 x2 μ = some (r, μ') → G mX4_wantTheCounts (Qe r μ') 4 [some (.ref k0), some (.int x1), some (.int x2), none] [] μ b := by
  intro n
  induction n with
  | zero => intro x1 x2 μ b hb9 h; exact nomatch (show (none : Out) = some _ from h)
  | succ n ih =>
    intro x1 x2 μ b hb9 h
    rw [f_X4_wantTheCounts_4.eq_2] at h
    refine e_iload_n dX4_wantTheCounts_4 rfl ?_
    refine e_aload_n dX4_wantTheCounts_5 rfl ?_
    refine e_get (ci := 2) (j := 0) (t := 0) (v := .int (μ.1 k0 0)) dX4_wantTheCounts_6 rfl ho0.1 ho0.2 rfl rfl ?_
    refine e_aload_n dX4_wantTheCounts_9 rfl ?_
    refine e_get (ci := 2) (j := 1) (t := 0) (v := .int (μ.1 k0 1)) dX4_wantTheCounts_10 rfl ho0.1 ho0.2 rfl rfl ?_
    refine e_iadd dX4_wantTheCounts_13 ?_
    refine e_ic_ge (tgt := 50) dX4_wantTheCounts_14 rfl (fun hc1 => ?_) (fun hc1 => ?_)
    · rw [if_pos hc1] at h
      refine e_iload_n dX4_wantTheCounts_50 rfl ?_
      exact e_iret .int dX4_wantTheCounts_51 rfl rfl (ret_eq h)
    · rw [if_neg hc1] at h
      refine e_aload_n dX4_wantTheCounts_17 rfl ?_
      refine e_iload_n dX4_wantTheCounts_18 rfl ?_
      refine cI_go h (fun E4 hc2 hr5 => e_VX [.int x2] [] dX4_wantTheCounts_19 rfl rfl rfl rfl ho0 (Nat.le_of_ble_eq_true rfl) (hbr hr5 hb9 (Nat.le_of_ble_eq_true rfl)) ⟨k0, x2, rfl, ho0, hc2⟩ rfl ⟨hr5.symm, rfl⟩) (fun v6 μ3 hc2 h => ?_)
      refine e_VI [.int x2] [] dX4_wantTheCounts_19 rfl rfl rfl rfl ho0 (Nat.le_of_ble_eq_true rfl) ⟨k0, x2, rfl, ho0, hc2⟩ ?_
      refine e_istore_nL [some (.ref k0), some (.int x1), some (.int x2), some (.int v6)] dX4_wantTheCounts_22 (Nat.le_of_ble_eq_true rfl) rfl ?_
      refine e_iload_n dX4_wantTheCounts_23 rfl ?_
      refine e_aload_n dX4_wantTheCounts_24 rfl ?_
      refine e_iload_n dX4_wantTheCounts_25 rfl ?_
      refine e_iload_n dX4_wantTheCounts_26 rfl ?_
      refine cI_go h (fun E9 hc7 hr10 => e_VX [.int x2, .int v6] [.int x1] dX4_wantTheCounts_27 rfl rfl rfl rfl ho0 (Nat.le_of_ble_eq_true rfl) (hbr hr10 hb9 (Nat.le_of_ble_eq_true rfl)) ⟨k0, x2, v6, rfl, ho0, hc7⟩ rfl ⟨hr10.symm, rfl⟩) (fun v11 μ8 hc7 h => ?_)
      refine e_VI [.int x2, .int v6] [.int x1] dX4_wantTheCounts_27 rfl rfl rfl rfl ho0 (Nat.le_of_ble_eq_true rfl) ⟨k0, x2, v6, rfl, ho0, hc7⟩ ?_
      refine e_iload_n dX4_wantTheCounts_30 rfl ?_
      refine e_ic_eq (tgt := 38) dX4_wantTheCounts_31 rfl (fun hc12 => ?_) (fun hc12 => ?_)
      · rw [if_pos hc12] at h
        refine e_iconst dX4_wantTheCounts_38 ci_0 ?_
        refine cI_go h (fun E15 hc13 hr16 => e_SX [.int (0 : Int32)] [.int x1] dX4_wantTheCounts_39 rfl (by decide) rfl rfl (Nat.le_of_ble_eq_true rfl) (hbr hr16 hb9 (Nat.le_of_ble_eq_true rfl)) ⟨(0 : Int32), rfl, hc13⟩ rfl ⟨hr16.symm, rfl⟩) (fun v17 μ14 hc13 h => ?_)
        refine e_SI [.int (0 : Int32)] [.int x1] dX4_wantTheCounts_39 rfl (by decide) rfl rfl (Nat.le_of_ble_eq_true rfl) ⟨(0 : Int32), rfl, hc13⟩ ?_
        refine e_iadd dX4_wantTheCounts_42 ?_
        refine e_naI h (fun v18 ev18 h => ?_)
        refine e_istore_nL [some (.ref k0), some (.int v18), some (.int x2), some (.int v6)] dX4_wantTheCounts_43 (Nat.le_of_ble_eq_true rfl) rfl ?_
        refine e_iincN 2 (1 : Int32) dX4_wantTheCounts_44 rfl ci_1 h (fun y9 => [some (.ref k0), some (.int v18), some (.int y9), some (.int v6)]) (fun _ => rfl) (fun v19 ev19 h => ?_)
        refine e_goto (tgt := 4) dX4_wantTheCounts_47 rfl ?_
        exact e_le (ih v18 v19 μ14 _ hb9 h) ⟨rfl, rfl, rfl, trivial⟩
      · rw [if_neg hc12] at h
        refine e_iconst dX4_wantTheCounts_34 ci_1 ?_
        refine e_goto (tgt := 39) dX4_wantTheCounts_35 rfl ?_
        refine cI_go h (fun E22 hc20 hr23 => e_SX [.int (1 : Int32)] [.int x1] dX4_wantTheCounts_39 rfl (by decide) rfl rfl (Nat.le_of_ble_eq_true rfl) (hbr hr23 hb9 (Nat.le_of_ble_eq_true rfl)) ⟨(1 : Int32), rfl, hc20⟩ rfl ⟨hr23.symm, rfl⟩) (fun v24 μ21 hc20 h => ?_)
        refine e_SI [.int (1 : Int32)] [.int x1] dX4_wantTheCounts_39 rfl (by decide) rfl rfl (Nat.le_of_ble_eq_true rfl) ⟨(1 : Int32), rfl, hc20⟩ ?_
        refine e_iadd dX4_wantTheCounts_42 ?_
        refine e_naI h (fun v25 ev25 h => ?_)
        refine e_istore_nL [some (.ref k0), some (.int v25), some (.int x2), some (.int v6)] dX4_wantTheCounts_43 (Nat.le_of_ble_eq_true rfl) rfl ?_
        refine e_iincN 2 (1 : Int32) dX4_wantTheCounts_44 rfl ci_1 h (fun y9 => [some (.ref k0), some (.int v25), some (.int y9), some (.int v6)]) (fun _ => rfl) (fun v26 ev26 h => ?_)
        refine e_goto (tgt := 4) dX4_wantTheCounts_47 rfl ?_
        exact e_le (ih v25 v26 μ21 _ hb9 h) ⟨rfl, rfl, rfl, trivial⟩
set_option maxHeartbeats 4000000 in
theorem b_X4_wantTheCounts : ∀ as μ r μ', Γ_X4_wantTheCounts as μ r μ' → (elvL as).length ≤ 4 ∧ G mX4_wantTheCounts (Qe r μ') 0 (elv as 4) [] μ (rc r 0) := by
  intro as μ r μ' h
  obtain ⟨k0, rfl, ho0, h⟩ := h
  refine ⟨Nat.le_of_ble_eq_true rfl, ?_⟩
  show G mX4_wantTheCounts (Qe r μ') 0 [some (.ref k0), none, none, none] [] μ (rc r 0)
  unfold F_X4_wantTheCounts at h
  have hb9 : rc r 0 ≤ rc r 0 := Nat.le_refl _
  refine e_iconst dX4_wantTheCounts_0 ci_0 ?_
  refine e_istore_nL [some (.ref k0), some (.int (0 : Int32)), none, none] dX4_wantTheCounts_1 (Nat.le_of_ble_eq_true rfl) rfl ?_
  refine e_iconst dX4_wantTheCounts_2 ci_0 ?_
  refine e_istore_nL [some (.ref k0), some (.int (0 : Int32)), some (.int (0 : Int32)), none] dX4_wantTheCounts_3 (Nat.le_of_ble_eq_true rfl) rfl ?_
  exact e_le (g_X4_wantTheCounts_4 k0 ho0 BIG (0 : Int32) (0 : Int32) μ _ hb9 h) ⟨rfl, rfl, rfl, trivial⟩
set_option maxRecDepth 20000 in
theorem ok_X4_wantTheCounts (l : Launch) (hl : l.stackTraces = false) : MOK l yX4_wantTheCounts.cls 4 66 mX4_wantTheCounts := ⟨lk_all (List.forall_mem_cons.mpr ⟨⟨yX4_countOf, cX4_countOf, 2, (some .int), 3, 41, by decide, by decide, t_1 3 rfl rfl, hd_X4_countOf, Or.inr (Or.inl ⟨rfl, sc_X4_countOf l hl, t_1 181 rfl rfl, t_1 178 rfl rfl, t_1 179 rfl rfl, _, rfl, t_1 180 rfl rfl⟩)⟩, List.forall_mem_cons.mpr ⟨⟨yX7_oneIf, cX7_oneIf, 1, (some .int), 1, 0, by decide, by decide, t_1 1 rfl rfl, hd_X7_oneIf, Or.inr (Or.inr (Or.inl ⟨rfl, sc_X7_oneIf l hl, t_1 206 rfl rfl, List.mem_of_getElem? (i := 0) rfl, t_1 205 rfl rfl⟩))⟩, List.forall_mem_cons.mpr ⟨⟨yX4_setWanted, cX4_setWanted, 4, (some .int), 3, 43, by decide, by decide, t_1 3 rfl rfl, hd_X4_setWanted, Or.inr (Or.inl ⟨rfl, sc_X4_setWanted l hl, t_3 20 rfl rfl, t_3 29 rfl rfl, t_3 18 rfl rfl, _, rfl, t_3 19 rfl rfl⟩)⟩, nil_all⟩⟩⟩), fun ix ci j h => lk_all (P := fun ix q => FldOK yX4_wantTheCounts.cls ix q.1 q.2) (List.forall_mem_cons.mpr ⟨⟨_, rfl, by decide, t_1 46 rfl rfl⟩, List.forall_mem_cons.mpr ⟨⟨_, rfl, by decide, t_1 49 rfl rfl⟩, nil_all⟩⟩) ix (ci, j) h, lk_all (nil_all), lk_all (nil_all), lk_all (nil_all)⟩
theorem hd_X4_wantTheCounts : CallHd yX4_wantTheCounts 0 := ⟨by decide +kernel, by decide +kernel, by decide +kernel⟩
theorem sc_X4_wantTheCounts (l : Launch) (hl : l.stackTraces = false) : SCon l yX4_wantTheCounts cX4_wantTheCounts 4 (some .int) 4 66 0 Γ_X4_wantTheCounts := scon_of mX4_wantTheCounts cls_ok hl (by decide +kernel) rfl rfl (ok_X4_wantTheCounts l hl) rfl rfl b_X4_wantTheCounts
def F_X4_wantedOfColumns (k0 : Nat) (μ : Mem) : Out := cI (F_X1_total (μ.2.1 k0 5) μ) (fun v5 μ2 => rI v5 μ2)
def Γ_X4_wantedOfColumns : Gam := fun as μ r μ' => ∃ (k0 : Nat), as = [.ref k0] ∧ okO k0 2 ∧ F_X4_wantedOfColumns k0 μ = some (r, μ')
def mX4_wantedOfColumns : MI := (cX4_wantedOfColumns, [(61, (0, 1, 0, 0, Γ_X1_total))], [(28, 2, 5)], [], [], [], [], (29, none), (some .int))
set_option maxHeartbeats 4000000 in
theorem b_X4_wantedOfColumns : ∀ as μ r μ', Γ_X4_wantedOfColumns as μ r μ' → (elvL as).length ≤ 1 ∧ G mX4_wantedOfColumns (Qe r μ') 0 (elv as 1) [] μ (rc r 0) := by
  intro as μ r μ' h
  obtain ⟨k0, rfl, ho0, h⟩ := h
  refine ⟨Nat.le_of_ble_eq_true rfl, ?_⟩
  show G mX4_wantedOfColumns (Qe r μ') 0 [some (.ref k0)] [] μ (rc r 0)
  unfold F_X4_wantedOfColumns at h
  have hb9 : rc r 0 ≤ rc r 0 := Nat.le_refl _
  refine e_aload_n dX4_wantedOfColumns_0 rfl ?_
  refine e_get (ci := 2) (j := 5) (t := 1) (v := .long (μ.2.1 k0 5)) dX4_wantedOfColumns_1 rfl ho0.1 ho0.2 rfl rfl ?_
  refine cI_go h (fun E3 hc1 hr4 => e_SX [.long (μ.2.1 k0 5)] [] dX4_wantedOfColumns_4 rfl (by decide) rfl rfl (Nat.le_of_ble_eq_true rfl) (hbr hr4 hb9 (Nat.le_of_ble_eq_true rfl)) ⟨μ.2.1 k0 5, rfl, hc1⟩ rfl ⟨hr4.symm, rfl⟩) (fun v5 μ2 hc1 h => ?_)
  refine e_SI [.long (μ.2.1 k0 5)] [] dX4_wantedOfColumns_4 rfl (by decide) rfl rfl (Nat.le_of_ble_eq_true rfl) ⟨μ.2.1 k0 5, rfl, hc1⟩ ?_
  exact e_iret .int dX4_wantedOfColumns_7 rfl rfl (ret_eq h)
set_option maxRecDepth 20000 in
theorem ok_X4_wantedOfColumns (l : Launch) (hl : l.stackTraces = false) : MOK l yX4_wantedOfColumns.cls 3 45 mX4_wantedOfColumns := ⟨lk_all (List.forall_mem_cons.mpr ⟨⟨yX1_total, cX1_total, 4, (some .int), 2, 22, by decide, by decide, t_1 8 rfl rfl, hd_X1_total, Or.inl ⟨rfl, sc_X1_total l hl, t_1 166 rfl rfl, t_1 164 rfl rfl, t_1 165 rfl rfl⟩⟩, nil_all⟩), fun ix ci j h => lk_all (P := fun ix q => FldOK yX4_wantedOfColumns.cls ix q.1 q.2) (List.forall_mem_cons.mpr ⟨⟨_, rfl, by decide, t_1 59 rfl rfl⟩, nil_all⟩) ix (ci, j) h, lk_all (nil_all), lk_all (nil_all), lk_all (nil_all)⟩
theorem hd_X4_wantedOfColumns : CallHd yX4_wantedOfColumns 0 := ⟨by decide +kernel, by decide +kernel, by decide +kernel⟩
theorem sc_X4_wantedOfColumns (l : Launch) (hl : l.stackTraces = false) : SCon l yX4_wantedOfColumns cX4_wantedOfColumns 1 (some .int) 3 45 0 Γ_X4_wantedOfColumns := scon_of mX4_wantedOfColumns cls_ok hl (by decide +kernel) rfl rfl (ok_X4_wantedOfColumns l hl) rfl rfl b_X4_wantedOfColumns
def F_X4_wantedOfRows (k0 : Nat) (μ : Mem) : Out := cI (F_X1_total (μ.2.1 k0 4) μ) (fun v5 μ2 => rI v5 μ2)
def Γ_X4_wantedOfRows : Gam := fun as μ r μ' => ∃ (k0 : Nat), as = [.ref k0] ∧ okO k0 2 ∧ F_X4_wantedOfRows k0 μ = some (r, μ')
def mX4_wantedOfRows : MI := (cX4_wantedOfRows, [(61, (0, 1, 0, 0, Γ_X1_total))], [(25, 2, 4)], [], [], [], [], (29, none), (some .int))
set_option maxHeartbeats 4000000 in
theorem b_X4_wantedOfRows : ∀ as μ r μ', Γ_X4_wantedOfRows as μ r μ' → (elvL as).length ≤ 1 ∧ G mX4_wantedOfRows (Qe r μ') 0 (elv as 1) [] μ (rc r 0) := by
  intro as μ r μ' h
  obtain ⟨k0, rfl, ho0, h⟩ := h
  refine ⟨Nat.le_of_ble_eq_true rfl, ?_⟩
  show G mX4_wantedOfRows (Qe r μ') 0 [some (.ref k0)] [] μ (rc r 0)
  unfold F_X4_wantedOfRows at h
  have hb9 : rc r 0 ≤ rc r 0 := Nat.le_refl _
  refine e_aload_n dX4_wantedOfRows_0 rfl ?_
  refine e_get (ci := 2) (j := 4) (t := 1) (v := .long (μ.2.1 k0 4)) dX4_wantedOfRows_1 rfl ho0.1 ho0.2 rfl rfl ?_
  refine cI_go h (fun E3 hc1 hr4 => e_SX [.long (μ.2.1 k0 4)] [] dX4_wantedOfRows_4 rfl (by decide) rfl rfl (Nat.le_of_ble_eq_true rfl) (hbr hr4 hb9 (Nat.le_of_ble_eq_true rfl)) ⟨μ.2.1 k0 4, rfl, hc1⟩ rfl ⟨hr4.symm, rfl⟩) (fun v5 μ2 hc1 h => ?_)
  refine e_SI [.long (μ.2.1 k0 4)] [] dX4_wantedOfRows_4 rfl (by decide) rfl rfl (Nat.le_of_ble_eq_true rfl) ⟨μ.2.1 k0 4, rfl, hc1⟩ ?_
  exact e_iret .int dX4_wantedOfRows_7 rfl rfl (ret_eq h)
set_option maxRecDepth 20000 in
theorem ok_X4_wantedOfRows (l : Launch) (hl : l.stackTraces = false) : MOK l yX4_wantedOfRows.cls 3 45 mX4_wantedOfRows := ⟨lk_all (List.forall_mem_cons.mpr ⟨⟨yX1_total, cX1_total, 4, (some .int), 2, 22, by decide, by decide, t_1 8 rfl rfl, hd_X1_total, Or.inl ⟨rfl, sc_X1_total l hl, t_1 166 rfl rfl, t_1 164 rfl rfl, t_1 165 rfl rfl⟩⟩, nil_all⟩), fun ix ci j h => lk_all (P := fun ix q => FldOK yX4_wantedOfRows.cls ix q.1 q.2) (List.forall_mem_cons.mpr ⟨⟨_, rfl, by decide, t_1 58 rfl rfl⟩, nil_all⟩) ix (ci, j) h, lk_all (nil_all), lk_all (nil_all), lk_all (nil_all)⟩
theorem hd_X4_wantedOfRows : CallHd yX4_wantedOfRows 0 := ⟨by decide +kernel, by decide +kernel, by decide +kernel⟩
theorem sc_X4_wantedOfRows (l : Launch) (hl : l.stackTraces = false) : SCon l yX4_wantedOfRows cX4_wantedOfRows 1 (some .int) 3 45 0 Γ_X4_wantedOfRows := scon_of mX4_wantedOfRows cls_ok hl (by decide +kernel) rfl rfl (ok_X4_wantedOfRows l hl) rfl rfl b_X4_wantedOfRows
