def F_X8_columns (μ : Mem) : Out := rI (μ.1 30 1) μ
def Γ_X8_columns : Gam := fun as μ r μ' => as = [.ref 29] ∧ F_X8_columns μ = some (r, μ')
def mX8_columns : MI := (cX8_columns, [], [(7, 6, 0)], [], [], [], [], none, (some .int))
set_option maxHeartbeats 4000000 in
theorem b_X8_columns : ∀ as μ r μ', Γ_X8_columns as μ r μ' → (elvL as).length ≤ 1 ∧ G mX8_columns (Qe r μ') 0 (elv as 1) [] μ 0 := by
  intro as μ r μ' h
  obtain ⟨rfl, h⟩ := h
  refine ⟨Nat.le_of_ble_eq_true rfl, ?_⟩
  show G mX8_columns (Qe r μ') 0 [some (.ref 29)] [] μ 0
  unfold F_X8_columns at h
  have hb9 : 0 ≤ 0 := Nat.le_refl _
  refine e_aload_n dX8_columns_0 rfl ?_
  refine e_get (ci := 6) (j := 0) (t := 2) (v := .ref 30) dX8_columns_1 rfl (by decide) rfl rfl rfl ?_
  refine e_iconst dX8_columns_4 ci_1 ?_
  refine e_ialoadL (μ.1 30 1) (n := 50) dX8_columns_5 (by decide) rfl (by decide : inb (1 : Int32) 50) rfl ?_
  exact e_iret .int dX8_columns_6 rfl rfl (ret_eq h)
set_option maxRecDepth 20000 in
theorem ok_X8_columns (l : Launch) (hl : l.stackTraces = false) : MOK l yX8_columns.cls 1 0 mX8_columns := ⟨lk_all (nil_all), fun ix ci j h => lk_all (P := fun ix q => FldOK yX8_columns.cls ix q.1 q.2) (List.forall_mem_cons.mpr ⟨⟨_, rfl, by decide, t_4 178 rfl rfl⟩, nil_all⟩) ix (ci, j) h, lk_all (nil_all), lk_all (nil_all), lk_all (nil_all)⟩
theorem hd_X8_columns : CallHd yX8_columns 0 := ⟨by decide +kernel, by decide +kernel, by decide +kernel⟩
theorem sc_X8_columns (l : Launch) (hl : l.stackTraces = false) : SCon l yX8_columns cX8_columns 1 (some .int) 1 0 0 Γ_X8_columns := scon_of mX8_columns cls_ok hl (by decide +kernel) rfl rfl (ok_X8_columns l hl) rfl rfl b_X8_columns
def F_X8_isFilled (a0 : Int32) (a1 : Int32) (μ : Mem) : Out := ck (inb (((2 : Int32) + ((6 : Int32) * a0)) + a1) 50) (if ((μ.1 30 (Int32.toNatClampNeg (((2 : Int32) + ((6 : Int32) * a0)) + a1))) &&& (1 : Int32)) = (1 : Int32) then (rI (1 : Int32) μ) else (rI (0 : Int32) μ))
def Γ_X8_isFilled : Gam := fun as μ r μ' => ∃ (a0 : Int32) (a1 : Int32), as = [.ref 29, .int a0, .int a1] ∧ F_X8_isFilled a0 a1 μ = some (r, μ')
def mX8_isFilled : MI := (cX8_isFilled, [], [(7, 6, 0)], [], [], [], [], none, (some .boolean))
set_option maxHeartbeats 4000000 in
theorem b_X8_isFilled : ∀ as μ r μ', Γ_X8_isFilled as μ r μ' → (elvL as).length ≤ 3 ∧ G mX8_isFilled (Qe r μ') 0 (elv as 3) [] μ 0 := by
  intro as μ r μ' h
  obtain ⟨a0, a1, rfl, h⟩ := h
  refine ⟨Nat.le_of_ble_eq_true rfl, ?_⟩
  show G mX8_isFilled (Qe r μ') 0 [some (.ref 29), some (.int a0), some (.int a1)] [] μ 0
  unfold F_X8_isFilled at h
  have hb9 : 0 ≤ 0 := Nat.le_refl _
  refine e_aload_n dX8_isFilled_0 rfl ?_
  refine e_get (ci := 6) (j := 0) (t := 2) (v := .ref 30) dX8_isFilled_1 rfl (by decide) rfl rfl rfl ?_
  refine e_iconst dX8_isFilled_4 ci_2 ?_
  refine e_bipush dX8_isFilled_5 cb_6 ?_
  refine e_iload_n dX8_isFilled_7 rfl ?_
  refine e_imul dX8_isFilled_8 ?_
  refine e_iadd dX8_isFilled_9 ?_
  refine e_iload_n dX8_isFilled_10 rfl ?_
  refine e_iadd dX8_isFilled_11 ?_
  obtain ⟨hc1, h⟩ := ck_eq h
  refine e_ialoadL (μ.1 30 (Int32.toNatClampNeg (((2 : Int32) + ((6 : Int32) * a0)) + a1))) (n := 50) dX8_isFilled_12 (by decide) rfl hc1 rfl ?_
  refine e_iconst dX8_isFilled_13 ci_1 ?_
  refine e_iand dX8_isFilled_14 ?_
  refine e_iconst dX8_isFilled_15 ci_1 ?_
  refine e_ic_ne (tgt := 23) dX8_isFilled_16 rfl (fun hc2 => ?_) (fun hc2 => ?_)
  · rw [if_neg hc2] at h
    refine e_iconst dX8_isFilled_23 ci_0 ?_
    exact e_iret .boolean dX8_isFilled_24 rfl rfl (ret_eq h)
  · rw [if_pos hc2] at h
    refine e_iconst dX8_isFilled_19 ci_1 ?_
    refine e_goto (tgt := 24) dX8_isFilled_20 rfl ?_
    exact e_iret .boolean dX8_isFilled_24 rfl rfl (ret_eq h)
set_option maxRecDepth 20000 in
theorem ok_X8_isFilled (l : Launch) (hl : l.stackTraces = false) : MOK l yX8_isFilled.cls 1 0 mX8_isFilled := ⟨lk_all (nil_all), fun ix ci j h => lk_all (P := fun ix q => FldOK yX8_isFilled.cls ix q.1 q.2) (List.forall_mem_cons.mpr ⟨⟨_, rfl, by decide, t_4 178 rfl rfl⟩, nil_all⟩) ix (ci, j) h, lk_all (nil_all), lk_all (nil_all), lk_all (nil_all)⟩
theorem hd_X8_isFilled : CallHd yX8_isFilled 2 := ⟨by decide +kernel, by decide +kernel, by decide +kernel⟩
theorem sc_X8_isFilled (l : Launch) (hl : l.stackTraces = false) : SCon l yX8_isFilled cX8_isFilled 3 (some .boolean) 1 0 0 Γ_X8_isFilled := scon_of mX8_isFilled cls_ok hl (by decide +kernel) rfl rfl (ok_X8_isFilled l hl) rfl rfl b_X8_isFilled
def F_X8_isPinned (a0 : Int32) (a1 : Int32) (μ : Mem) : Out := ck (inb (((2 : Int32) + ((6 : Int32) * a0)) + a1) 50) (if ((μ.1 30 (Int32.toNatClampNeg (((2 : Int32) + ((6 : Int32) * a0)) + a1))) &&& (2 : Int32)) = (2 : Int32) then (rI (1 : Int32) μ) else (rI (0 : Int32) μ))
def Γ_X8_isPinned : Gam := fun as μ r μ' => ∃ (a0 : Int32) (a1 : Int32), as = [.ref 29, .int a0, .int a1] ∧ F_X8_isPinned a0 a1 μ = some (r, μ')
def mX8_isPinned : MI := (cX8_isPinned, [], [(7, 6, 0)], [], [], [], [], none, (some .boolean))
set_option maxHeartbeats 4000000 in
theorem b_X8_isPinned : ∀ as μ r μ', Γ_X8_isPinned as μ r μ' → (elvL as).length ≤ 3 ∧ G mX8_isPinned (Qe r μ') 0 (elv as 3) [] μ 0 := by
  intro as μ r μ' h
  obtain ⟨a0, a1, rfl, h⟩ := h
  refine ⟨Nat.le_of_ble_eq_true rfl, ?_⟩
  show G mX8_isPinned (Qe r μ') 0 [some (.ref 29), some (.int a0), some (.int a1)] [] μ 0
  unfold F_X8_isPinned at h
  have hb9 : 0 ≤ 0 := Nat.le_refl _
  refine e_aload_n dX8_isPinned_0 rfl ?_
  refine e_get (ci := 6) (j := 0) (t := 2) (v := .ref 30) dX8_isPinned_1 rfl (by decide) rfl rfl rfl ?_
  refine e_iconst dX8_isPinned_4 ci_2 ?_
  refine e_bipush dX8_isPinned_5 cb_6 ?_
  refine e_iload_n dX8_isPinned_7 rfl ?_
  refine e_imul dX8_isPinned_8 ?_
  refine e_iadd dX8_isPinned_9 ?_
  refine e_iload_n dX8_isPinned_10 rfl ?_
  refine e_iadd dX8_isPinned_11 ?_
  obtain ⟨hc1, h⟩ := ck_eq h
  refine e_ialoadL (μ.1 30 (Int32.toNatClampNeg (((2 : Int32) + ((6 : Int32) * a0)) + a1))) (n := 50) dX8_isPinned_12 (by decide) rfl hc1 rfl ?_
  refine e_iconst dX8_isPinned_13 ci_2 ?_
  refine e_iand dX8_isPinned_14 ?_
  refine e_iconst dX8_isPinned_15 ci_2 ?_
  refine e_ic_ne (tgt := 23) dX8_isPinned_16 rfl (fun hc2 => ?_) (fun hc2 => ?_)
  · rw [if_neg hc2] at h
    refine e_iconst dX8_isPinned_23 ci_0 ?_
    exact e_iret .boolean dX8_isPinned_24 rfl rfl (ret_eq h)
  · rw [if_pos hc2] at h
    refine e_iconst dX8_isPinned_19 ci_1 ?_
    refine e_goto (tgt := 24) dX8_isPinned_20 rfl ?_
    exact e_iret .boolean dX8_isPinned_24 rfl rfl (ret_eq h)
set_option maxRecDepth 20000 in
theorem ok_X8_isPinned (l : Launch) (hl : l.stackTraces = false) : MOK l yX8_isPinned.cls 1 0 mX8_isPinned := ⟨lk_all (nil_all), fun ix ci j h => lk_all (P := fun ix q => FldOK yX8_isPinned.cls ix q.1 q.2) (List.forall_mem_cons.mpr ⟨⟨_, rfl, by decide, t_4 178 rfl rfl⟩, nil_all⟩) ix (ci, j) h, lk_all (nil_all), lk_all (nil_all), lk_all (nil_all)⟩
theorem hd_X8_isPinned : CallHd yX8_isPinned 2 := ⟨by decide +kernel, by decide +kernel, by decide +kernel⟩
theorem sc_X8_isPinned (l : Launch) (hl : l.stackTraces = false) : SCon l yX8_isPinned cX8_isPinned 3 (some .boolean) 1 0 0 Γ_X8_isPinned := scon_of mX8_isPinned cls_ok hl (by decide +kernel) rfl rfl (ok_X8_isPinned l hl) rfl rfl b_X8_isPinned
def f_X8_isOfFour_43 (x1 : Int32) (x2 : Int32) (x3 : Int32) (x4 : Int32) (s0 : Int32) (μ : Mem) : Out := cI (F_X8_isFilled x1 x3 μ) (fun v29 μ26 => if s0 = 0 then (cI (F_X8_isFilled x2 x4 μ26) (fun v35 μ32 => if v35 = v29 then (cI (F_X8_isFilled x1 x4 μ32) (fun v41 μ38 => if v41 = v29 then (rI (0 : Int32) μ38) else (cI (F_X8_isFilled x2 x3 μ38) (fun v47 μ44 => if v47 = v29 then (rI (0 : Int32) μ44) else (rI (1 : Int32) μ44))))) else (rI (0 : Int32) μ32))) else (rI (0 : Int32) μ26))
def F_X8_isOfFour (a0 : Int32) (a1 : Int32) (a2 : Int32) (a3 : Int32) (μ : Mem) : Out := cI (F_X8_isPinned a0 a2 μ) (fun v5 μ2 => if v5 = 0 then (cI (F_X8_isPinned a0 a3 μ2) (fun v11 μ8 => if v11 = 0 then (cI (F_X8_isPinned a1 a2 μ8) (fun v17 μ14 => if v17 = 0 then (cI (F_X8_isPinned a1 a3 μ14) (fun v23 μ20 => if v23 = 0 then (f_X8_isOfFour_43 a0 a1 a2 a3 (0 : Int32) μ20) else (f_X8_isOfFour_43 a0 a1 a2 a3 (1 : Int32) μ20))) else (f_X8_isOfFour_43 a0 a1 a2 a3 (1 : Int32) μ14))) else (f_X8_isOfFour_43 a0 a1 a2 a3 (1 : Int32) μ8))) else (f_X8_isOfFour_43 a0 a1 a2 a3 (1 : Int32) μ2))
def Γ_X8_isOfFour : Gam := fun as μ r μ' => ∃ (a0 : Int32) (a1 : Int32) (a2 : Int32) (a3 : Int32), as = [.ref 29, .int a0, .int a1, .int a2, .int a3] ∧ F_X8_isOfFour a0 a1 a2 a3 μ = some (r, μ')
def mX8_isOfFour : MI := (cX8_isOfFour, [(98, (1, 2, 0, 6, Γ_X8_isFilled)), (145, (1, 2, 0, 6, Γ_X8_isPinned))], [], [], [], [], [], none, (some .boolean))
set_option maxHeartbeats 4000000 in
theorem g_X8_isOfFour_43 {r : Res} {μ' : Mem} : ∀ (x1 : Int32) (x2 : Int32) (x3 : Int32) (x4 : Int32) (s0 : Int32), ∀ (μ : Mem) (b : Nat), 0 ≤ b → f_X8_isOfFour_43 x1 x2 x3 x4 s0 μ = some (r, μ') → G mX8_isOfFour (Qe r μ') 43 [some (.ref 29), some (.int x1), some (.int x2), some (.int x3), some (.int x4), none, none] [.int s0] μ b := by
  intro x1 x2 x3 x4 s0 μ b hb9 h
  unfold f_X8_isOfFour_43 at h
  refine e_istoreL [some (.ref 29), some (.int x1), some (.int x2), some (.int x3), some (.int x4), some (.int s0), none] dX8_isOfFour_43 (Nat.le_of_ble_eq_true rfl) rfl ?_
  refine e_aload_n dX8_isOfFour_45 rfl ?_
  refine e_iload_n dX8_isOfFour_46 rfl ?_
  refine e_iload_n dX8_isOfFour_47 rfl ?_
  refine cI_go h (fun E27 hc25 hr28 => e_VX [.int x1, .int x3] [] dX8_isOfFour_48 rfl rfl rfl rfl (by decide) (Nat.le_of_ble_eq_true rfl) (by omega) ⟨x1, x3, rfl, hc25⟩ rfl ⟨hr28.symm, rfl⟩) (fun v29 μ26 hc25 h => ?_)
  refine e_VI [.int x1, .int x3] [] dX8_isOfFour_48 rfl rfl rfl rfl (by decide) (Nat.le_of_ble_eq_true rfl) (by omega) ⟨x1, x3, rfl, hc25⟩ ?_
  refine e_istoreL [some (.ref 29), some (.int x1), some (.int x2), some (.int x3), some (.int x4), some (.int s0), some (.int v29)] dX8_isOfFour_51 (Nat.le_of_ble_eq_true rfl) rfl ?_
  refine e_iload dX8_isOfFour_53 rfl ?_
  refine e_if_ne (tgt := 97) dX8_isOfFour_55 rfl (fun hc30 => ?_) (fun hc30 => ?_)
  · rw [if_neg hc30] at h
    refine e_iconst dX8_isOfFour_97 ci_0 ?_
    exact e_iret .boolean dX8_isOfFour_98 rfl rfl (ret_eq h)
  · rw [if_pos hc30] at h
    refine e_aload_n dX8_isOfFour_58 rfl ?_
    refine e_iload_n dX8_isOfFour_59 rfl ?_
    refine e_iload dX8_isOfFour_60 rfl ?_
    refine cI_go h (fun E33 hc31 hr34 => e_VX [.int x2, .int x4] [] dX8_isOfFour_62 rfl rfl rfl rfl (by decide) (Nat.le_of_ble_eq_true rfl) (by omega) ⟨x2, x4, rfl, hc31⟩ rfl ⟨hr34.symm, rfl⟩) (fun v35 μ32 hc31 h => ?_)
    refine e_VI [.int x2, .int x4] [] dX8_isOfFour_62 rfl rfl rfl rfl (by decide) (Nat.le_of_ble_eq_true rfl) (by omega) ⟨x2, x4, rfl, hc31⟩ ?_
    refine e_iload dX8_isOfFour_65 rfl ?_
    refine e_ic_ne (tgt := 97) dX8_isOfFour_67 rfl (fun hc36 => ?_) (fun hc36 => ?_)
    · rw [if_neg hc36] at h
      refine e_iconst dX8_isOfFour_97 ci_0 ?_
      exact e_iret .boolean dX8_isOfFour_98 rfl rfl (ret_eq h)
    · rw [if_pos hc36] at h
      refine e_aload_n dX8_isOfFour_70 rfl ?_
      refine e_iload_n dX8_isOfFour_71 rfl ?_
      refine e_iload dX8_isOfFour_72 rfl ?_
      refine cI_go h (fun E39 hc37 hr40 => e_VX [.int x1, .int x4] [] dX8_isOfFour_74 rfl rfl rfl rfl (by decide) (Nat.le_of_ble_eq_true rfl) (by omega) ⟨x1, x4, rfl, hc37⟩ rfl ⟨hr40.symm, rfl⟩) (fun v41 μ38 hc37 h => ?_)
      refine e_VI [.int x1, .int x4] [] dX8_isOfFour_74 rfl rfl rfl rfl (by decide) (Nat.le_of_ble_eq_true rfl) (by omega) ⟨x1, x4, rfl, hc37⟩ ?_
      refine e_iload dX8_isOfFour_77 rfl ?_
      refine e_ic_eq (tgt := 97) dX8_isOfFour_79 rfl (fun hc42 => ?_) (fun hc42 => ?_)
      · rw [if_pos hc42] at h
        refine e_iconst dX8_isOfFour_97 ci_0 ?_
        exact e_iret .boolean dX8_isOfFour_98 rfl rfl (ret_eq h)
      · rw [if_neg hc42] at h
        refine e_aload_n dX8_isOfFour_82 rfl ?_
        refine e_iload_n dX8_isOfFour_83 rfl ?_
        refine e_iload_n dX8_isOfFour_84 rfl ?_
        refine cI_go h (fun E45 hc43 hr46 => e_VX [.int x2, .int x3] [] dX8_isOfFour_85 rfl rfl rfl rfl (by decide) (Nat.le_of_ble_eq_true rfl) (by omega) ⟨x2, x3, rfl, hc43⟩ rfl ⟨hr46.symm, rfl⟩) (fun v47 μ44 hc43 h => ?_)
        refine e_VI [.int x2, .int x3] [] dX8_isOfFour_85 rfl rfl rfl rfl (by decide) (Nat.le_of_ble_eq_true rfl) (by omega) ⟨x2, x3, rfl, hc43⟩ ?_
        refine e_iload dX8_isOfFour_88 rfl ?_
        refine e_ic_eq (tgt := 97) dX8_isOfFour_90 rfl (fun hc48 => ?_) (fun hc48 => ?_)
        · rw [if_pos hc48] at h
          refine e_iconst dX8_isOfFour_97 ci_0 ?_
          exact e_iret .boolean dX8_isOfFour_98 rfl rfl (ret_eq h)
        · rw [if_neg hc48] at h
          refine e_iconst dX8_isOfFour_93 ci_1 ?_
          refine e_goto (tgt := 98) dX8_isOfFour_94 rfl ?_
          exact e_iret .boolean dX8_isOfFour_98 rfl rfl (ret_eq h)
set_option maxHeartbeats 4000000 in
theorem b_X8_isOfFour : ∀ as μ r μ', Γ_X8_isOfFour as μ r μ' → (elvL as).length ≤ 7 ∧ G mX8_isOfFour (Qe r μ') 0 (elv as 7) [] μ 0 := by
  intro as μ r μ' h
  obtain ⟨a0, a1, a2, a3, rfl, h⟩ := h
  refine ⟨Nat.le_of_ble_eq_true rfl, ?_⟩
  show G mX8_isOfFour (Qe r μ') 0 [some (.ref 29), some (.int a0), some (.int a1), some (.int a2), some (.int a3), none, none] [] μ 0
  unfold F_X8_isOfFour at h
  have hb9 : 0 ≤ 0 := Nat.le_refl _
  refine e_aload_n dX8_isOfFour_0 rfl ?_
  refine e_iload_n dX8_isOfFour_1 rfl ?_
  refine e_iload_n dX8_isOfFour_2 rfl ?_
  refine cI_go h (fun E3 hc1 hr4 => e_VX [.int a0, .int a2] [] dX8_isOfFour_3 rfl rfl rfl rfl (by decide) (Nat.le_of_ble_eq_true rfl) (by omega) ⟨a0, a2, rfl, hc1⟩ rfl ⟨hr4.symm, rfl⟩) (fun v5 μ2 hc1 h => ?_)
  refine e_VI [.int a0, .int a2] [] dX8_isOfFour_3 rfl rfl rfl rfl (by decide) (Nat.le_of_ble_eq_true rfl) (by omega) ⟨a0, a2, rfl, hc1⟩ ?_
  refine e_if_ne (tgt := 38) dX8_isOfFour_6 rfl (fun hc6 => ?_) (fun hc6 => ?_)
  · rw [if_neg hc6] at h
    refine e_iconst dX8_isOfFour_38 ci_1 ?_
    refine e_goto (tgt := 43) dX8_isOfFour_39 rfl ?_
    exact e_le (g_X8_isOfFour_43 a0 a1 a2 a3 (1 : Int32) μ2 _ (by omega) h) ⟨rfl, rfl, rfl, rfl, rfl, trivial⟩
  · rw [if_pos hc6] at h
    refine e_aload_n dX8_isOfFour_9 rfl ?_
    refine e_iload_n dX8_isOfFour_10 rfl ?_
    refine e_iload dX8_isOfFour_11 rfl ?_
    refine cI_go h (fun E9 hc7 hr10 => e_VX [.int a0, .int a3] [] dX8_isOfFour_13 rfl rfl rfl rfl (by decide) (Nat.le_of_ble_eq_true rfl) (by omega) ⟨a0, a3, rfl, hc7⟩ rfl ⟨hr10.symm, rfl⟩) (fun v11 μ8 hc7 h => ?_)
    refine e_VI [.int a0, .int a3] [] dX8_isOfFour_13 rfl rfl rfl rfl (by decide) (Nat.le_of_ble_eq_true rfl) (by omega) ⟨a0, a3, rfl, hc7⟩ ?_
    refine e_if_ne (tgt := 38) dX8_isOfFour_16 rfl (fun hc12 => ?_) (fun hc12 => ?_)
    · rw [if_neg hc12] at h
      refine e_iconst dX8_isOfFour_38 ci_1 ?_
      refine e_goto (tgt := 43) dX8_isOfFour_39 rfl ?_
      exact e_le (g_X8_isOfFour_43 a0 a1 a2 a3 (1 : Int32) μ8 _ (by omega) h) ⟨rfl, rfl, rfl, rfl, rfl, trivial⟩
    · rw [if_pos hc12] at h
      refine e_aload_n dX8_isOfFour_19 rfl ?_
      refine e_iload_n dX8_isOfFour_20 rfl ?_
      refine e_iload_n dX8_isOfFour_21 rfl ?_
      refine cI_go h (fun E15 hc13 hr16 => e_VX [.int a1, .int a2] [] dX8_isOfFour_22 rfl rfl rfl rfl (by decide) (Nat.le_of_ble_eq_true rfl) (by omega) ⟨a1, a2, rfl, hc13⟩ rfl ⟨hr16.symm, rfl⟩) (fun v17 μ14 hc13 h => ?_)
      refine e_VI [.int a1, .int a2] [] dX8_isOfFour_22 rfl rfl rfl rfl (by decide) (Nat.le_of_ble_eq_true rfl) (by omega) ⟨a1, a2, rfl, hc13⟩ ?_
      refine e_if_ne (tgt := 38) dX8_isOfFour_25 rfl (fun hc18 => ?_) (fun hc18 => ?_)
      · rw [if_neg hc18] at h
        refine e_iconst dX8_isOfFour_38 ci_1 ?_
        refine e_goto (tgt := 43) dX8_isOfFour_39 rfl ?_
        exact e_le (g_X8_isOfFour_43 a0 a1 a2 a3 (1 : Int32) μ14 _ (by omega) h) ⟨rfl, rfl, rfl, rfl, rfl, trivial⟩
      · rw [if_pos hc18] at h
        refine e_aload_n dX8_isOfFour_28 rfl ?_
        refine e_iload_n dX8_isOfFour_29 rfl ?_
        refine e_iload dX8_isOfFour_30 rfl ?_
        refine cI_go h (fun E21 hc19 hr22 => e_VX [.int a1, .int a3] [] dX8_isOfFour_32 rfl rfl rfl rfl (by decide) (Nat.le_of_ble_eq_true rfl) (by omega) ⟨a1, a3, rfl, hc19⟩ rfl ⟨hr22.symm, rfl⟩) (fun v23 μ20 hc19 h => ?_)
        refine e_VI [.int a1, .int a3] [] dX8_isOfFour_32 rfl rfl rfl rfl (by decide) (Nat.le_of_ble_eq_true rfl) (by omega) ⟨a1, a3, rfl, hc19⟩ ?_
        refine e_if_eq (tgt := 42) dX8_isOfFour_35 rfl (fun hc24 => ?_) (fun hc24 => ?_)
        · rw [if_pos hc24] at h
          refine e_iconst dX8_isOfFour_42 ci_0 ?_
          exact e_le (g_X8_isOfFour_43 a0 a1 a2 a3 (0 : Int32) μ20 _ (by omega) h) ⟨rfl, rfl, rfl, rfl, rfl, trivial⟩
        · rw [if_neg hc24] at h
          refine e_iconst dX8_isOfFour_38 ci_1 ?_
          refine e_goto (tgt := 43) dX8_isOfFour_39 rfl ?_
          exact e_le (g_X8_isOfFour_43 a0 a1 a2 a3 (1 : Int32) μ20 _ (by omega) h) ⟨rfl, rfl, rfl, rfl, rfl, trivial⟩
set_option maxRecDepth 20000 in
theorem ok_X8_isOfFour (l : Launch) (hl : l.stackTraces = false) : MOK l yX8_isOfFour.cls 2 22 mX8_isOfFour := ⟨lk_all (List.forall_mem_cons.mpr ⟨⟨yX8_isFilled, cX8_isFilled, 3, (some .boolean), 1, 0, by decide, by decide, t_1 7 rfl rfl, hd_X8_isFilled, Or.inr (Or.inl ⟨rfl, sc_X8_isFilled l hl, t_5 73 rfl rfl, t_5 70 rfl rfl, t_5 72 rfl rfl, _, rfl, t_p 42 rfl⟩)⟩, List.forall_mem_cons.mpr ⟨⟨yX8_isPinned, cX8_isPinned, 3, (some .boolean), 1, 0, by decide, by decide, t_1 7 rfl rfl, hd_X8_isPinned, Or.inr (Or.inl ⟨rfl, sc_X8_isPinned l hl, t_5 89 rfl rfl, t_5 86 rfl rfl, t_5 88 rfl rfl, _, rfl, t_p 45 rfl⟩)⟩, nil_all⟩⟩), fun ix ci j h => lk_all (P := fun ix q => FldOK yX8_isOfFour.cls ix q.1 q.2) (nil_all) ix (ci, j) h, lk_all (nil_all), lk_all (nil_all), lk_all (nil_all)⟩
theorem hd_X8_isOfFour : CallHd yX8_isOfFour 4 := ⟨by decide +kernel, by decide +kernel, by decide +kernel⟩
theorem sc_X8_isOfFour (l : Launch) (hl : l.stackTraces = false) : SCon l yX8_isOfFour cX8_isOfFour 7 (some .boolean) 2 22 0 Γ_X8_isOfFour := scon_of mX8_isOfFour cls_ok hl (by decide +kernel) rfl rfl (ok_X8_isOfFour l hl) rfl rfl b_X8_isOfFour
def F_X8_rows (μ : Mem) : Out := rI (μ.1 30 0) μ
def Γ_X8_rows : Gam := fun as μ r μ' => as = [.ref 29] ∧ F_X8_rows μ = some (r, μ')
def mX8_rows : MI := (cX8_rows, [], [(7, 6, 0)], [], [], [], [], none, (some .int))
set_option maxHeartbeats 4000000 in
theorem b_X8_rows : ∀ as μ r μ', Γ_X8_rows as μ r μ' → (elvL as).length ≤ 1 ∧ G mX8_rows (Qe r μ') 0 (elv as 1) [] μ 0 := by
  intro as μ r μ' h
  obtain ⟨rfl, h⟩ := h
  refine ⟨Nat.le_of_ble_eq_true rfl, ?_⟩
  show G mX8_rows (Qe r μ') 0 [some (.ref 29)] [] μ 0
  unfold F_X8_rows at h
  have hb9 : 0 ≤ 0 := Nat.le_refl _
  refine e_aload_n dX8_rows_0 rfl ?_
  refine e_get (ci := 6) (j := 0) (t := 2) (v := .ref 30) dX8_rows_1 rfl (by decide) rfl rfl rfl ?_
  refine e_iconst dX8_rows_4 ci_0 ?_
  refine e_ialoadL (μ.1 30 0) (n := 50) dX8_rows_5 (by decide) rfl (by decide : inb (0 : Int32) 50) rfl ?_
  exact e_iret .int dX8_rows_6 rfl rfl (ret_eq h)
set_option maxRecDepth 20000 in
theorem ok_X8_rows (l : Launch) (hl : l.stackTraces = false) : MOK l yX8_rows.cls 1 0 mX8_rows := ⟨lk_all (nil_all), fun ix ci j h => lk_all (P := fun ix q => FldOK yX8_rows.cls ix q.1 q.2) (List.forall_mem_cons.mpr ⟨⟨_, rfl, by decide, t_4 178 rfl rfl⟩, nil_all⟩) ix (ci, j) h, lk_all (nil_all), lk_all (nil_all), lk_all (nil_all)⟩
theorem hd_X8_rows : CallHd yX8_rows 0 := ⟨by decide +kernel, by decide +kernel, by decide +kernel⟩
theorem sc_X8_rows (l : Launch) (hl : l.stackTraces = false) : SCon l yX8_rows cX8_rows 1 (some .int) 1 0 0 Γ_X8_rows := scon_of mX8_rows cls_ok hl (by decide +kernel) rfl rfl (ok_X8_rows l hl) rfl rfl b_X8_rows
def f_X8_exchangeOf_4 : Nat → Int32 → Int32 → Int32 → Mem → Out
  | 0, _, _, _, _ => none
  | n + 1, x1, x2, x3, μ => if (1296 : Int32) ≤ x3 then (if x1 = (-9 : Int32) then (rI x2 μ) else (rI (-9 : Int32) μ)) else (lt (x3 / (216 : Int32)) (fun v3 => lt (remI (x3 / (36 : Int32)) (6 : Int32)) (fun v4 => lt (remI (x3 / (6 : Int32)) (6 : Int32)) (fun v5 => lt (remI x3 (6 : Int32)) (fun v6 => if v4 ≤ v3 then (lt (x3 + (1 : Int32)) (fun v8 => f_X8_exchangeOf_4 n x1 x2 v8 μ)) else (if v6 ≤ v5 then (lt (x3 + (1 : Int32)) (fun v10 => f_X8_exchangeOf_4 n x1 x2 v10 μ)) else (cI (F_X8_rows μ) (fun v15 μ12 => if v15 ≤ v4 then (lt (x3 + (1 : Int32)) (fun v17 => f_X8_exchangeOf_4 n x1 x2 v17 μ12)) else (cI (F_X8_columns μ12) (fun v22 μ19 => if v22 ≤ v6 then (lt (x3 + (1 : Int32)) (fun v24 => f_X8_exchangeOf_4 n x1 x2 v24 μ19)) else (cI (F_X8_isOfFour v3 v4 v5 v6 μ19) (fun v29 μ26 => if v29 = 0 then (lt (x3 + (1 : Int32)) (fun v31 => f_X8_exchangeOf_4 n x1 x2 v31 μ26)) else (if x2 = x1 then (rI (((((1000 : Int32) * v3) + ((100 : Int32) * v4)) + ((10 : Int32) * v5)) + v6) μ26) else (lt (x2 + (1 : Int32)) (fun v33 => lt (x3 + (1 : Int32)) (fun v34 => f_X8_exchangeOf_4 n x1 v33 v34 μ26))))))))))))))))
def F_X8_exchangeOf (a0 : Int32) (μ : Mem) : Out := f_X8_exchangeOf_4 BIG a0 (0 : Int32) (0 : Int32) μ
def Γ_X8_exchangeOf : Gam := fun as μ r μ' => ∃ (a0 : Int32), as = [.ref 29, .int a0] ∧ F_X8_exchangeOf a0 μ = some (r, μ')
def mX8_exchangeOf : MI := (cX8_exchangeOf, [(76, (1, 0, 0, 6, Γ_X8_rows)), (84, (1, 0, 0, 6, Γ_X8_columns)), (148, (1, 4, 0, 6, Γ_X8_isOfFour))], [], [], [], [], [], none, (some .int))
set_option maxHeartbeats 4000000 in
theorem g_X8_exchangeOf_4 {r : Res} {μ' : Mem} : ∀ n : Nat, ∀ (x1 : Int32) (x2 : Int32) (x3 : Int32), ∀ (μ : Mem) (b : Nat), 0 ≤ b → f_X8_exchangeOf_4 n x1 x2 x3 μ = some (r, μ') → G mX8_exchangeOf (Qe r μ') 4 [some (.ref 29), some (.int x1), some (.int x2), some (.int x3), none, none, none, none] [] μ b := by
  intro n
  induction n with
  | zero => intro x1 x2 x3 μ b hb9 h; exact nomatch (show (none : Out) = some _ from h)
  | succ n ih =>
    intro x1 x2 x3 μ b hb9 h
    rw [f_X8_exchangeOf_4.eq_2] at h
    refine e_iload_n dX8_exchangeOf_4 rfl ?_
    refine e_sipush dX8_exchangeOf_5 cs_1296 ?_
    refine e_ic_ge (tgt := 125) dX8_exchangeOf_8 rfl (fun hc1 => ?_) (fun hc1 => ?_)
    · rw [if_pos hc1] at h
      refine e_iload_n dX8_exchangeOf_125 rfl ?_
      refine e_bipush dX8_exchangeOf_126 cb_m9 ?_
      refine e_ic_ne (tgt := 135) dX8_exchangeOf_128 rfl (fun hc2 => ?_) (fun hc2 => ?_)
      · rw [if_neg hc2] at h
        refine e_bipush dX8_exchangeOf_135 cb_m9 ?_
        exact e_iret .int dX8_exchangeOf_137 rfl rfl (ret_eq h)
      · rw [if_pos hc2] at h
        refine e_iload_n dX8_exchangeOf_131 rfl ?_
        refine e_goto (tgt := 137) dX8_exchangeOf_132 rfl ?_
        exact e_iret .int dX8_exchangeOf_137 rfl rfl (ret_eq h)
    · rw [if_neg hc1] at h
      refine e_iload_n dX8_exchangeOf_11 rfl ?_
      refine e_sipush dX8_exchangeOf_12 cs_216 ?_
      refine e_idiv dX8_exchangeOf_15 (by decide) ?_
      refine e_naI h (fun v3 ev3 h => ?_)
      refine e_istoreL [some (.ref 29), some (.int x1), some (.int x2), some (.int x3), some (.int v3), none, none, none] dX8_exchangeOf_16 (Nat.le_of_ble_eq_true rfl) rfl ?_
      refine e_iload_n dX8_exchangeOf_18 rfl ?_
      refine e_bipush dX8_exchangeOf_19 cb_36 ?_
      refine e_idiv dX8_exchangeOf_21 (by decide) ?_
      refine e_bipush dX8_exchangeOf_22 cb_6 ?_
      refine e_irem dX8_exchangeOf_24 (by decide) ?_
      refine e_naI h (fun v4 ev4 h => ?_)
      refine e_istoreL [some (.ref 29), some (.int x1), some (.int x2), some (.int x3), some (.int v3), some (.int v4), none, none] dX8_exchangeOf_25 (Nat.le_of_ble_eq_true rfl) rfl ?_
      refine e_iload_n dX8_exchangeOf_27 rfl ?_
      refine e_bipush dX8_exchangeOf_28 cb_6 ?_
      refine e_idiv dX8_exchangeOf_30 (by decide) ?_
      refine e_bipush dX8_exchangeOf_31 cb_6 ?_
      refine e_irem dX8_exchangeOf_33 (by decide) ?_
      refine e_naI h (fun v5 ev5 h => ?_)
      refine e_istoreL [some (.ref 29), some (.int x1), some (.int x2), some (.int x3), some (.int v3), some (.int v4), some (.int v5), none] dX8_exchangeOf_34 (Nat.le_of_ble_eq_true rfl) rfl ?_
      refine e_iload_n dX8_exchangeOf_36 rfl ?_
      refine e_bipush dX8_exchangeOf_37 cb_6 ?_
      refine e_irem dX8_exchangeOf_39 (by decide) ?_
      refine e_naI h (fun v6 ev6 h => ?_)
      refine e_istoreL [some (.ref 29), some (.int x1), some (.int x2), some (.int x3), some (.int v3), some (.int v4), some (.int v5), some (.int v6)] dX8_exchangeOf_40 (Nat.le_of_ble_eq_true rfl) rfl ?_
      refine e_iload dX8_exchangeOf_42 rfl ?_
      refine e_iload dX8_exchangeOf_44 rfl ?_
      refine e_ic_ge (tgt := 119) dX8_exchangeOf_46 rfl (fun hc7 => ?_) (fun hc7 => ?_)
      · rw [if_pos hc7] at h
        refine e_iincN 3 (1 : Int32) dX8_exchangeOf_119 rfl ci_1 h (fun y9 => [some (.ref 29), some (.int x1), some (.int x2), some (.int y9), some (.int v3), some (.int v4), some (.int v5), some (.int v6)]) (fun _ => rfl) (fun v8 ev8 h => ?_)
        refine e_goto (tgt := 4) dX8_exchangeOf_122 rfl ?_
        exact e_le (ih x1 x2 v8 μ _ (by omega) h) ⟨rfl, rfl, rfl, rfl, trivial⟩
      · rw [if_neg hc7] at h
        refine e_iload dX8_exchangeOf_49 rfl ?_
        refine e_iload dX8_exchangeOf_51 rfl ?_
        refine e_ic_ge (tgt := 119) dX8_exchangeOf_53 rfl (fun hc9 => ?_) (fun hc9 => ?_)
        · rw [if_pos hc9] at h
          refine e_iincN 3 (1 : Int32) dX8_exchangeOf_119 rfl ci_1 h (fun y9 => [some (.ref 29), some (.int x1), some (.int x2), some (.int y9), some (.int v3), some (.int v4), some (.int v5), some (.int v6)]) (fun _ => rfl) (fun v10 ev10 h => ?_)
          refine e_goto (tgt := 4) dX8_exchangeOf_122 rfl ?_
          exact e_le (ih x1 x2 v10 μ _ (by omega) h) ⟨rfl, rfl, rfl, rfl, trivial⟩
        · rw [if_neg hc9] at h
          refine e_iload dX8_exchangeOf_56 rfl ?_
          refine e_aload_n dX8_exchangeOf_58 rfl ?_
          refine cI_go h (fun E13 hc11 hr14 => e_VX [] [.int v4] dX8_exchangeOf_59 rfl rfl rfl rfl (by decide) (Nat.le_of_ble_eq_true rfl) (by omega) ⟨rfl, hc11⟩ rfl ⟨hr14.symm, rfl⟩) (fun v15 μ12 hc11 h => ?_)
          refine e_VI [] [.int v4] dX8_exchangeOf_59 rfl rfl rfl rfl (by decide) (Nat.le_of_ble_eq_true rfl) (by omega) ⟨rfl, hc11⟩ ?_
          refine e_ic_ge (tgt := 119) dX8_exchangeOf_62 rfl (fun hc16 => ?_) (fun hc16 => ?_)
          · rw [if_pos hc16] at h
            refine e_iincN 3 (1 : Int32) dX8_exchangeOf_119 rfl ci_1 h (fun y9 => [some (.ref 29), some (.int x1), some (.int x2), some (.int y9), some (.int v3), some (.int v4), some (.int v5), some (.int v6)]) (fun _ => rfl) (fun v17 ev17 h => ?_)
            refine e_goto (tgt := 4) dX8_exchangeOf_122 rfl ?_
            exact e_le (ih x1 x2 v17 μ12 _ (by omega) h) ⟨rfl, rfl, rfl, rfl, trivial⟩
          · rw [if_neg hc16] at h
            refine e_iload dX8_exchangeOf_65 rfl ?_
            refine e_aload_n dX8_exchangeOf_67 rfl ?_
            refine cI_go h (fun E20 hc18 hr21 => e_VX [] [.int v6] dX8_exchangeOf_68 rfl rfl rfl rfl (by decide) (Nat.le_of_ble_eq_true rfl) (by omega) ⟨rfl, hc18⟩ rfl ⟨hr21.symm, rfl⟩) (fun v22 μ19 hc18 h => ?_)
            refine e_VI [] [.int v6] dX8_exchangeOf_68 rfl rfl rfl rfl (by decide) (Nat.le_of_ble_eq_true rfl) (by omega) ⟨rfl, hc18⟩ ?_
            refine e_ic_ge (tgt := 119) dX8_exchangeOf_71 rfl (fun hc23 => ?_) (fun hc23 => ?_)
            · rw [if_pos hc23] at h
              refine e_iincN 3 (1 : Int32) dX8_exchangeOf_119 rfl ci_1 h (fun y9 => [some (.ref 29), some (.int x1), some (.int x2), some (.int y9), some (.int v3), some (.int v4), some (.int v5), some (.int v6)]) (fun _ => rfl) (fun v24 ev24 h => ?_)
              refine e_goto (tgt := 4) dX8_exchangeOf_122 rfl ?_
              exact e_le (ih x1 x2 v24 μ19 _ (by omega) h) ⟨rfl, rfl, rfl, rfl, trivial⟩
            · rw [if_neg hc23] at h
              refine e_aload_n dX8_exchangeOf_74 rfl ?_
              refine e_iload dX8_exchangeOf_75 rfl ?_
              refine e_iload dX8_exchangeOf_77 rfl ?_
              refine e_iload dX8_exchangeOf_79 rfl ?_
              refine e_iload dX8_exchangeOf_81 rfl ?_
              refine cI_go h (fun E27 hc25 hr28 => e_VX [.int v3, .int v4, .int v5, .int v6] [] dX8_exchangeOf_83 rfl rfl rfl rfl (by decide) (Nat.le_of_ble_eq_true rfl) (by omega) ⟨v3, v4, v5, v6, rfl, hc25⟩ rfl ⟨hr28.symm, rfl⟩) (fun v29 μ26 hc25 h => ?_)
              refine e_VI [.int v3, .int v4, .int v5, .int v6] [] dX8_exchangeOf_83 rfl rfl rfl rfl (by decide) (Nat.le_of_ble_eq_true rfl) (by omega) ⟨v3, v4, v5, v6, rfl, hc25⟩ ?_
              refine e_if_eq (tgt := 119) dX8_exchangeOf_86 rfl (fun hc30 => ?_) (fun hc30 => ?_)
              · rw [if_pos hc30] at h
                refine e_iincN 3 (1 : Int32) dX8_exchangeOf_119 rfl ci_1 h (fun y9 => [some (.ref 29), some (.int x1), some (.int x2), some (.int y9), some (.int v3), some (.int v4), some (.int v5), some (.int v6)]) (fun _ => rfl) (fun v31 ev31 h => ?_)
                refine e_goto (tgt := 4) dX8_exchangeOf_122 rfl ?_
                exact e_le (ih x1 x2 v31 μ26 _ (by omega) h) ⟨rfl, rfl, rfl, rfl, trivial⟩
              · rw [if_neg hc30] at h
                refine e_iload_n dX8_exchangeOf_89 rfl ?_
                refine e_iload_n dX8_exchangeOf_90 rfl ?_
                refine e_ic_ne (tgt := 116) dX8_exchangeOf_91 rfl (fun hc32 => ?_) (fun hc32 => ?_)
                · rw [if_neg hc32] at h
                  refine e_iincN 2 (1 : Int32) dX8_exchangeOf_116 rfl ci_1 h (fun y9 => [some (.ref 29), some (.int x1), some (.int y9), some (.int x3), some (.int v3), some (.int v4), some (.int v5), some (.int v6)]) (fun _ => rfl) (fun v33 ev33 h => ?_)
                  refine e_iincN 3 (1 : Int32) dX8_exchangeOf_119 rfl ci_1 h (fun y9 => [some (.ref 29), some (.int x1), some (.int v33), some (.int y9), some (.int v3), some (.int v4), some (.int v5), some (.int v6)]) (fun _ => rfl) (fun v34 ev34 h => ?_)
                  refine e_goto (tgt := 4) dX8_exchangeOf_122 rfl ?_
                  exact e_le (ih x1 v33 v34 μ26 _ (by omega) h) ⟨rfl, rfl, rfl, rfl, trivial⟩
                · rw [if_pos hc32] at h
                  refine e_sipush dX8_exchangeOf_94 cs_1000 ?_
                  refine e_iload dX8_exchangeOf_97 rfl ?_
                  refine e_imul dX8_exchangeOf_99 ?_
                  refine e_bipush dX8_exchangeOf_100 cb_100 ?_
                  refine e_iload dX8_exchangeOf_102 rfl ?_
                  refine e_imul dX8_exchangeOf_104 ?_
                  refine e_iadd dX8_exchangeOf_105 ?_
                  refine e_bipush dX8_exchangeOf_106 cb_10 ?_
                  refine e_iload dX8_exchangeOf_108 rfl ?_
                  refine e_imul dX8_exchangeOf_110 ?_
                  refine e_iadd dX8_exchangeOf_111 ?_
                  refine e_iload dX8_exchangeOf_112 rfl ?_
                  refine e_iadd dX8_exchangeOf_114 ?_
                  exact e_iret .int dX8_exchangeOf_115 rfl rfl (ret_eq h)
set_option maxHeartbeats 4000000 in
theorem b_X8_exchangeOf : ∀ as μ r μ', Γ_X8_exchangeOf as μ r μ' → (elvL as).length ≤ 8 ∧ G mX8_exchangeOf (Qe r μ') 0 (elv as 8) [] μ 0 := by
  intro as μ r μ' h
  obtain ⟨a0, rfl, h⟩ := h
  refine ⟨Nat.le_of_ble_eq_true rfl, ?_⟩
  show G mX8_exchangeOf (Qe r μ') 0 [some (.ref 29), some (.int a0), none, none, none, none, none, none] [] μ 0
  unfold F_X8_exchangeOf at h
  have hb9 : 0 ≤ 0 := Nat.le_refl _
  refine e_iconst dX8_exchangeOf_0 ci_0 ?_
  refine e_istore_nL [some (.ref 29), some (.int a0), some (.int (0 : Int32)), none, none, none, none, none] dX8_exchangeOf_1 (Nat.le_of_ble_eq_true rfl) rfl ?_
  refine e_iconst dX8_exchangeOf_2 ci_0 ?_
  refine e_istore_nL [some (.ref 29), some (.int a0), some (.int (0 : Int32)), some (.int (0 : Int32)), none, none, none, none] dX8_exchangeOf_3 (Nat.le_of_ble_eq_true rfl) rfl ?_
  exact e_le (g_X8_exchangeOf_4 BIG a0 (0 : Int32) (0 : Int32) μ _ (by omega) h) ⟨rfl, rfl, rfl, rfl, trivial⟩
set_option maxRecDepth 20000 in
theorem ok_X8_exchangeOf (l : Launch) (hl : l.stackTraces = false) : MOK l yX8_exchangeOf.cls 3 48 mX8_exchangeOf := ⟨lk_all (List.forall_mem_cons.mpr ⟨⟨yX8_rows, cX8_rows, 1, (some .int), 1, 0, by decide, by decide, t_1 7 rfl rfl, hd_X8_rows, Or.inr (Or.inl ⟨rfl, sc_X8_rows l hl, t_5 45 rfl rfl, t_5 42 rfl rfl, t_5 44 rfl rfl, _, rfl, t_p 35 rfl⟩)⟩, List.forall_mem_cons.mpr ⟨⟨yX8_columns, cX8_columns, 1, (some .int), 1, 0, by decide, by decide, t_1 7 rfl rfl, hd_X8_columns, Or.inr (Or.inl ⟨rfl, sc_X8_columns l hl, t_5 49 rfl rfl, t_5 46 rfl rfl, t_5 48 rfl rfl, _, rfl, t_p 36 rfl⟩)⟩, List.forall_mem_cons.mpr ⟨⟨yX8_isOfFour, cX8_isOfFour, 7, (some .boolean), 2, 22, by decide, by decide, t_1 7 rfl rfl, hd_X8_isOfFour, Or.inr (Or.inl ⟨rfl, sc_X8_isOfFour l hl, t_5 141 rfl rfl, t_5 138 rfl rfl, t_5 140 rfl rfl, _, rfl, t_p 58 rfl⟩)⟩, nil_all⟩⟩⟩), fun ix ci j h => lk_all (P := fun ix q => FldOK yX8_exchangeOf.cls ix q.1 q.2) (nil_all) ix (ci, j) h, lk_all (nil_all), lk_all (nil_all), lk_all (nil_all)⟩
theorem hd_X8_exchangeOf : CallHd yX8_exchangeOf 1 := ⟨by decide +kernel, by decide +kernel, by decide +kernel⟩
theorem sc_X8_exchangeOf (l : Launch) (hl : l.stackTraces = false) : SCon l yX8_exchangeOf cX8_exchangeOf 8 (some .int) 3 48 0 Γ_X8_exchangeOf := scon_of mX8_exchangeOf cls_ok hl (by decide +kernel) rfl rfl (ok_X8_exchangeOf l hl) rfl rfl b_X8_exchangeOf
def F_X8_columnOf (a0 : Int32) (a1 : Int32) (μ : Mem) : Out := cI (F_X8_rows μ) (fun v5 μ2 => if v5 ≤ a0 then (cI (F_X8_rows μ2) (fun v11 μ8 => rI (a0 - v11) μ8)) else (rI a1 μ2))
def Γ_X8_columnOf : Gam := fun as μ r μ' => ∃ (a0 : Int32) (a1 : Int32), as = [.ref 29, .int a0, .int a1] ∧ F_X8_columnOf a0 a1 μ = some (r, μ')
def mX8_columnOf : MI := (cX8_columnOf, [(76, (1, 0, 0, 6, Γ_X8_rows))], [], [], [], [], [], none, (some .int))
set_option maxHeartbeats 4000000 in
theorem b_X8_columnOf : ∀ as μ r μ', Γ_X8_columnOf as μ r μ' → (elvL as).length ≤ 3 ∧ G mX8_columnOf (Qe r μ') 0 (elv as 3) [] μ 0 := by
  intro as μ r μ' h
  obtain ⟨a0, a1, rfl, h⟩ := h
  refine ⟨Nat.le_of_ble_eq_true rfl, ?_⟩
  show G mX8_columnOf (Qe r μ') 0 [some (.ref 29), some (.int a0), some (.int a1)] [] μ 0
  unfold F_X8_columnOf at h
  have hb9 : 0 ≤ 0 := Nat.le_refl _
  refine e_iload_n dX8_columnOf_0 rfl ?_
  refine e_aload_n dX8_columnOf_1 rfl ?_
  refine cI_go h (fun E3 hc1 hr4 => e_VX [] [.int a0] dX8_columnOf_2 rfl rfl rfl rfl (by decide) (Nat.le_of_ble_eq_true rfl) (by omega) ⟨rfl, hc1⟩ rfl ⟨hr4.symm, rfl⟩) (fun v5 μ2 hc1 h => ?_)
  refine e_VI [] [.int a0] dX8_columnOf_2 rfl rfl rfl rfl (by decide) (Nat.le_of_ble_eq_true rfl) (by omega) ⟨rfl, hc1⟩ ?_
  refine e_ic_ge (tgt := 12) dX8_columnOf_5 rfl (fun hc6 => ?_) (fun hc6 => ?_)
  · rw [if_pos hc6] at h
    refine e_iload_n dX8_columnOf_12 rfl ?_
    refine e_aload_n dX8_columnOf_13 rfl ?_
    refine cI_go h (fun E9 hc7 hr10 => e_VX [] [.int a0] dX8_columnOf_14 rfl rfl rfl rfl (by decide) (Nat.le_of_ble_eq_true rfl) (by omega) ⟨rfl, hc7⟩ rfl ⟨hr10.symm, rfl⟩) (fun v11 μ8 hc7 h => ?_)
    refine e_VI [] [.int a0] dX8_columnOf_14 rfl rfl rfl rfl (by decide) (Nat.le_of_ble_eq_true rfl) (by omega) ⟨rfl, hc7⟩ ?_
    refine e_isub dX8_columnOf_17 ?_
    exact e_iret .int dX8_columnOf_18 rfl rfl (ret_eq h)
  · rw [if_neg hc6] at h
    refine e_iload_n dX8_columnOf_8 rfl ?_
    refine e_goto (tgt := 18) dX8_columnOf_9 rfl ?_
    exact e_iret .int dX8_columnOf_18 rfl rfl (ret_eq h)
set_option maxRecDepth 20000 in
theorem ok_X8_columnOf (l : Launch) (hl : l.stackTraces = false) : MOK l yX8_columnOf.cls 2 20 mX8_columnOf := ⟨lk_all (List.forall_mem_cons.mpr ⟨⟨yX8_rows, cX8_rows, 1, (some .int), 1, 0, by decide, by decide, t_1 7 rfl rfl, hd_X8_rows, Or.inr (Or.inl ⟨rfl, sc_X8_rows l hl, t_5 45 rfl rfl, t_5 42 rfl rfl, t_5 44 rfl rfl, _, rfl, t_p 35 rfl⟩)⟩, nil_all⟩), fun ix ci j h => lk_all (P := fun ix q => FldOK yX8_columnOf.cls ix q.1 q.2) (nil_all) ix (ci, j) h, lk_all (nil_all), lk_all (nil_all), lk_all (nil_all)⟩
theorem hd_X8_columnOf : CallHd yX8_columnOf 2 := ⟨by decide +kernel, by decide +kernel, by decide +kernel⟩
theorem sc_X8_columnOf (l : Launch) (hl : l.stackTraces = false) : SCon l yX8_columnOf cX8_columnOf 3 (some .int) 2 20 0 Γ_X8_columnOf := scon_of mX8_columnOf cls_ok hl (by decide +kernel) rfl rfl (ok_X8_columnOf l hl) rfl rfl b_X8_columnOf
def F_X8_lengthOf (a0 : Int32) (μ : Mem) : Out := cI (F_X8_rows μ) (fun v5 μ2 => if v5 ≤ a0 then (cI (F_X8_rows μ2) (fun v11 μ8 => rI v11 μ8)) else (cI (F_X8_columns μ2) (fun v16 μ13 => rI v16 μ13)))
def Γ_X8_lengthOf : Gam := fun as μ r μ' => ∃ (a0 : Int32), as = [.ref 29, .int a0] ∧ F_X8_lengthOf a0 μ = some (r, μ')
def mX8_lengthOf : MI := (cX8_lengthOf, [(76, (1, 0, 0, 6, Γ_X8_rows)), (84, (1, 0, 0, 6, Γ_X8_columns))], [], [], [], [], [], none, (some .int))
set_option maxHeartbeats 4000000 in
theorem b_X8_lengthOf : ∀ as μ r μ', Γ_X8_lengthOf as μ r μ' → (elvL as).length ≤ 2 ∧ G mX8_lengthOf (Qe r μ') 0 (elv as 2) [] μ 0 := by
  intro as μ r μ' h
  obtain ⟨a0, rfl, h⟩ := h
  refine ⟨Nat.le_of_ble_eq_true rfl, ?_⟩
  show G mX8_lengthOf (Qe r μ') 0 [some (.ref 29), some (.int a0)] [] μ 0
  unfold F_X8_lengthOf at h
  have hb9 : 0 ≤ 0 := Nat.le_refl _
  refine e_iload_n dX8_lengthOf_0 rfl ?_
  refine e_aload_n dX8_lengthOf_1 rfl ?_
  refine cI_go h (fun E3 hc1 hr4 => e_VX [] [.int a0] dX8_lengthOf_2 rfl rfl rfl rfl (by decide) (Nat.le_of_ble_eq_true rfl) (by omega) ⟨rfl, hc1⟩ rfl ⟨hr4.symm, rfl⟩) (fun v5 μ2 hc1 h => ?_)
  refine e_VI [] [.int a0] dX8_lengthOf_2 rfl rfl rfl rfl (by decide) (Nat.le_of_ble_eq_true rfl) (by omega) ⟨rfl, hc1⟩ ?_
  refine e_ic_ge (tgt := 15) dX8_lengthOf_5 rfl (fun hc6 => ?_) (fun hc6 => ?_)
  · rw [if_pos hc6] at h
    refine e_aload_n dX8_lengthOf_15 rfl ?_
    refine cI_go h (fun E9 hc7 hr10 => e_VX [] [] dX8_lengthOf_16 rfl rfl rfl rfl (by decide) (Nat.le_of_ble_eq_true rfl) (by omega) ⟨rfl, hc7⟩ rfl ⟨hr10.symm, rfl⟩) (fun v11 μ8 hc7 h => ?_)
    refine e_VI [] [] dX8_lengthOf_16 rfl rfl rfl rfl (by decide) (Nat.le_of_ble_eq_true rfl) (by omega) ⟨rfl, hc7⟩ ?_
    exact e_iret .int dX8_lengthOf_19 rfl rfl (ret_eq h)
  · rw [if_neg hc6] at h
    refine e_aload_n dX8_lengthOf_8 rfl ?_
    refine cI_go h (fun E14 hc12 hr15 => e_VX [] [] dX8_lengthOf_9 rfl rfl rfl rfl (by decide) (Nat.le_of_ble_eq_true rfl) (by omega) ⟨rfl, hc12⟩ rfl ⟨hr15.symm, rfl⟩) (fun v16 μ13 hc12 h => ?_)
    refine e_VI [] [] dX8_lengthOf_9 rfl rfl rfl rfl (by decide) (Nat.le_of_ble_eq_true rfl) (by omega) ⟨rfl, hc12⟩ ?_
    refine e_goto (tgt := 19) dX8_lengthOf_12 rfl ?_
    exact e_iret .int dX8_lengthOf_19 rfl rfl (ret_eq h)
set_option maxRecDepth 20000 in
theorem ok_X8_lengthOf (l : Launch) (hl : l.stackTraces = false) : MOK l yX8_lengthOf.cls 2 20 mX8_lengthOf := ⟨lk_all (List.forall_mem_cons.mpr ⟨⟨yX8_rows, cX8_rows, 1, (some .int), 1, 0, by decide, by decide, t_1 7 rfl rfl, hd_X8_rows, Or.inr (Or.inl ⟨rfl, sc_X8_rows l hl, t_5 45 rfl rfl, t_5 42 rfl rfl, t_5 44 rfl rfl, _, rfl, t_p 35 rfl⟩)⟩, List.forall_mem_cons.mpr ⟨⟨yX8_columns, cX8_columns, 1, (some .int), 1, 0, by decide, by decide, t_1 7 rfl rfl, hd_X8_columns, Or.inr (Or.inl ⟨rfl, sc_X8_columns l hl, t_5 49 rfl rfl, t_5 46 rfl rfl, t_5 48 rfl rfl, _, rfl, t_p 36 rfl⟩)⟩, nil_all⟩⟩), fun ix ci j h => lk_all (P := fun ix q => FldOK yX8_lengthOf.cls ix q.1 q.2) (nil_all) ix (ci, j) h, lk_all (nil_all), lk_all (nil_all), lk_all (nil_all)⟩
theorem hd_X8_lengthOf : CallHd yX8_lengthOf 1 := ⟨by decide +kernel, by decide +kernel, by decide +kernel⟩
theorem sc_X8_lengthOf (l : Launch) (hl : l.stackTraces = false) : SCon l yX8_lengthOf cX8_lengthOf 2 (some .int) 2 20 0 Γ_X8_lengthOf := scon_of mX8_lengthOf cls_ok hl (by decide +kernel) rfl rfl (ok_X8_lengthOf l hl) rfl rfl b_X8_lengthOf
def F_X8_rowOf (a0 : Int32) (a1 : Int32) (μ : Mem) : Out := cI (F_X8_rows μ) (fun v5 μ2 => if v5 ≤ a0 then (rI a1 μ2) else (rI a0 μ2))
def Γ_X8_rowOf : Gam := fun as μ r μ' => ∃ (a0 : Int32) (a1 : Int32), as = [.ref 29, .int a0, .int a1] ∧ F_X8_rowOf a0 a1 μ = some (r, μ')
def mX8_rowOf : MI := (cX8_rowOf, [(76, (1, 0, 0, 6, Γ_X8_rows))], [], [], [], [], [], none, (some .int))
set_option maxHeartbeats 4000000 in
theorem b_X8_rowOf : ∀ as μ r μ', Γ_X8_rowOf as μ r μ' → (elvL as).length ≤ 3 ∧ G mX8_rowOf (Qe r μ') 0 (elv as 3) [] μ 0 := by
  intro as μ r μ' h
  obtain ⟨a0, a1, rfl, h⟩ := h
  refine ⟨Nat.le_of_ble_eq_true rfl, ?_⟩
  show G mX8_rowOf (Qe r μ') 0 [some (.ref 29), some (.int a0), some (.int a1)] [] μ 0
  unfold F_X8_rowOf at h
  have hb9 : 0 ≤ 0 := Nat.le_refl _
  refine e_iload_n dX8_rowOf_0 rfl ?_
  refine e_aload_n dX8_rowOf_1 rfl ?_
  refine cI_go h (fun E3 hc1 hr4 => e_VX [] [.int a0] dX8_rowOf_2 rfl rfl rfl rfl (by decide) (Nat.le_of_ble_eq_true rfl) (by omega) ⟨rfl, hc1⟩ rfl ⟨hr4.symm, rfl⟩) (fun v5 μ2 hc1 h => ?_)
  refine e_VI [] [.int a0] dX8_rowOf_2 rfl rfl rfl rfl (by decide) (Nat.le_of_ble_eq_true rfl) (by omega) ⟨rfl, hc1⟩ ?_
  refine e_ic_ge (tgt := 12) dX8_rowOf_5 rfl (fun hc6 => ?_) (fun hc6 => ?_)
  · rw [if_pos hc6] at h
    refine e_iload_n dX8_rowOf_12 rfl ?_
    exact e_iret .int dX8_rowOf_13 rfl rfl (ret_eq h)
  · rw [if_neg hc6] at h
    refine e_iload_n dX8_rowOf_8 rfl ?_
    refine e_goto (tgt := 13) dX8_rowOf_9 rfl ?_
    exact e_iret .int dX8_rowOf_13 rfl rfl (ret_eq h)
set_option maxRecDepth 20000 in
theorem ok_X8_rowOf (l : Launch) (hl : l.stackTraces = false) : MOK l yX8_rowOf.cls 2 20 mX8_rowOf := ⟨lk_all (List.forall_mem_cons.mpr ⟨⟨yX8_rows, cX8_rows, 1, (some .int), 1, 0, by decide, by decide, t_1 7 rfl rfl, hd_X8_rows, Or.inr (Or.inl ⟨rfl, sc_X8_rows l hl, t_5 45 rfl rfl, t_5 42 rfl rfl, t_5 44 rfl rfl, _, rfl, t_p 35 rfl⟩)⟩, nil_all⟩), fun ix ci j h => lk_all (P := fun ix q => FldOK yX8_rowOf.cls ix q.1 q.2) (nil_all) ix (ci, j) h, lk_all (nil_all), lk_all (nil_all), lk_all (nil_all)⟩
theorem hd_X8_rowOf : CallHd yX8_rowOf 2 := ⟨by decide +kernel, by decide +kernel, by decide +kernel⟩
theorem sc_X8_rowOf (l : Launch) (hl : l.stackTraces = false) : SCon l yX8_rowOf cX8_rowOf 3 (some .int) 2 20 0 Γ_X8_rowOf := scon_of mX8_rowOf cls_ok hl (by decide +kernel) rfl rfl (ok_X8_rowOf l hl) rfl rfl b_X8_rowOf
def f_X8_countOf_4 : Nat → Int32 → Int32 → Int32 → Mem → Out
  | 0, _, _, _, _ => none
  | n + 1, x1, x2, x3, μ => cI (F_X8_lengthOf x1 μ) (fun v5 μ2 => if v5 ≤ x3 then (rI x2 μ2) else (cI (F_X8_rowOf x1 x3 μ2) (fun v11 μ8 => cI (F_X8_columnOf x1 x3 μ8) (fun v16 μ13 => cI (F_X8_isFilled v11 v16 μ13) (fun v21 μ18 => if v21 = 0 then (lt (x2 + (0 : Int32)) (fun v23 => lt (x3 + (1 : Int32)) (fun v24 => f_X8_countOf_4 n x1 v23 v24 μ18))) else (lt (x2 + (1 : Int32)) (fun v25 => lt (x3 + (1 : Int32)) (fun v26 => f_X8_countOf_4 n x1 v25 v26 μ18))))))))
def F_X8_countOf (a0 : Int32) (μ : Mem) : Out := f_X8_countOf_4 BIG a0 (0 : Int32) (0 : Int32) μ
def Γ_X8_countOf : Gam := fun as μ r μ' => ∃ (a0 : Int32), as = [.ref 29, .int a0] ∧ F_X8_countOf a0 μ = some (r, μ')
def mX8_countOf : MI := (cX8_countOf, [(87, (1, 1, 0, 6, Γ_X8_lengthOf)), (91, (1, 2, 0, 6, Γ_X8_rowOf)), (95, (1, 2, 0, 6, Γ_X8_columnOf)), (98, (1, 2, 0, 6, Γ_X8_isFilled))], [], [], [], [], [], none, (some .int))
set_option maxHeartbeats 4000000 in
theorem g_X8_countOf_4 {r : Res} {μ' : Mem} : ∀ n : Nat, ∀ (x1 : Int32) (x2 : Int32) (x3 : Int32), ∀ (μ : Mem) (b : Nat), 0 ≤ b → f_X8_countOf_4 n x1 x2 x3 μ = some (r, μ') → G mX8_countOf (Qe r μ') 4 [some (.ref 29), some (.int x1), some (.int x2), some (.int x3)] [] μ b := by
  intro n
  induction n with
  | zero => intro x1 x2 x3 μ b hb9 h; exact nomatch (show (none : Out) = some _ from h)
  | succ n ih =>
    intro x1 x2 x3 μ b hb9 h
    rw [f_X8_countOf_4.eq_2] at h
    refine e_iload_n dX8_countOf_4 rfl ?_
    refine e_aload_n dX8_countOf_5 rfl ?_
    refine e_iload_n dX8_countOf_6 rfl ?_
    refine cI_go h (fun E3 hc1 hr4 => e_VX [.int x1] [.int x3] dX8_countOf_7 rfl rfl rfl rfl (by decide) (Nat.le_of_ble_eq_true rfl) (by omega) ⟨x1, rfl, hc1⟩ rfl ⟨hr4.symm, rfl⟩) (fun v5 μ2 hc1 h => ?_)
    refine e_VI [.int x1] [.int x3] dX8_countOf_7 rfl rfl rfl rfl (by decide) (Nat.le_of_ble_eq_true rfl) (by omega) ⟨x1, rfl, hc1⟩ ?_
    refine e_ic_ge (tgt := 46) dX8_countOf_10 rfl (fun hc6 => ?_) (fun hc6 => ?_)
    · rw [if_pos hc6] at h
      refine e_iload_n dX8_countOf_46 rfl ?_
      exact e_iret .int dX8_countOf_47 rfl rfl (ret_eq h)
    · rw [if_neg hc6] at h
      refine e_iload_n dX8_countOf_13 rfl ?_
      refine e_aload_n dX8_countOf_14 rfl ?_
      refine e_aload_n dX8_countOf_15 rfl ?_
      refine e_iload_n dX8_countOf_16 rfl ?_
      refine e_iload_n dX8_countOf_17 rfl ?_
      refine cI_go h (fun E9 hc7 hr10 => e_VX [.int x1, .int x3] [.ref 29, .int x2] dX8_countOf_18 rfl rfl rfl rfl (by decide) (Nat.le_of_ble_eq_true rfl) (by omega) ⟨x1, x3, rfl, hc7⟩ rfl ⟨hr10.symm, rfl⟩) (fun v11 μ8 hc7 h => ?_)
      refine e_VI [.int x1, .int x3] [.ref 29, .int x2] dX8_countOf_18 rfl rfl rfl rfl (by decide) (Nat.le_of_ble_eq_true rfl) (by omega) ⟨x1, x3, rfl, hc7⟩ ?_
      refine e_aload_n dX8_countOf_21 rfl ?_
      refine e_iload_n dX8_countOf_22 rfl ?_
      refine e_iload_n dX8_countOf_23 rfl ?_
      refine cI_go h (fun E14 hc12 hr15 => e_VX [.int x1, .int x3] [.int v11, .ref 29, .int x2] dX8_countOf_24 rfl rfl rfl rfl (by decide) (Nat.le_of_ble_eq_true rfl) (by omega) ⟨x1, x3, rfl, hc12⟩ rfl ⟨hr15.symm, rfl⟩) (fun v16 μ13 hc12 h => ?_)
      refine e_VI [.int x1, .int x3] [.int v11, .ref 29, .int x2] dX8_countOf_24 rfl rfl rfl rfl (by decide) (Nat.le_of_ble_eq_true rfl) (by omega) ⟨x1, x3, rfl, hc12⟩ ?_
      refine cI_go h (fun E19 hc17 hr20 => e_VX [.int v11, .int v16] [.int x2] dX8_countOf_27 rfl rfl rfl rfl (by decide) (Nat.le_of_ble_eq_true rfl) (by omega) ⟨v11, v16, rfl, hc17⟩ rfl ⟨hr20.symm, rfl⟩) (fun v21 μ18 hc17 h => ?_)
      refine e_VI [.int v11, .int v16] [.int x2] dX8_countOf_27 rfl rfl rfl rfl (by decide) (Nat.le_of_ble_eq_true rfl) (by omega) ⟨v11, v16, rfl, hc17⟩ ?_
      refine e_if_eq (tgt := 37) dX8_countOf_30 rfl (fun hc22 => ?_) (fun hc22 => ?_)
      · rw [if_pos hc22] at h
        refine e_iconst dX8_countOf_37 ci_0 ?_
        refine e_iadd dX8_countOf_38 ?_
        refine e_naI h (fun v23 ev23 h => ?_)
        refine e_istore_nL [some (.ref 29), some (.int x1), some (.int v23), some (.int x3)] dX8_countOf_39 (Nat.le_of_ble_eq_true rfl) rfl ?_
        refine e_iincN 3 (1 : Int32) dX8_countOf_40 rfl ci_1 h (fun y9 => [some (.ref 29), some (.int x1), some (.int v23), some (.int y9)]) (fun _ => rfl) (fun v24 ev24 h => ?_)
        refine e_goto (tgt := 4) dX8_countOf_43 rfl ?_
        exact e_le (ih x1 v23 v24 μ18 _ (by omega) h) ⟨rfl, rfl, rfl, rfl, trivial⟩
      · rw [if_neg hc22] at h
        refine e_iconst dX8_countOf_33 ci_1 ?_
        refine e_goto (tgt := 38) dX8_countOf_34 rfl ?_
        refine e_iadd dX8_countOf_38 ?_
        refine e_naI h (fun v25 ev25 h => ?_)
        refine e_istore_nL [some (.ref 29), some (.int x1), some (.int v25), some (.int x3)] dX8_countOf_39 (Nat.le_of_ble_eq_true rfl) rfl ?_
        refine e_iincN 3 (1 : Int32) dX8_countOf_40 rfl ci_1 h (fun y9 => [some (.ref 29), some (.int x1), some (.int v25), some (.int y9)]) (fun _ => rfl) (fun v26 ev26 h => ?_)
        refine e_goto (tgt := 4) dX8_countOf_43 rfl ?_
        exact e_le (ih x1 v25 v26 μ18 _ (by omega) h) ⟨rfl, rfl, rfl, rfl, trivial⟩
set_option maxHeartbeats 4000000 in
theorem b_X8_countOf : ∀ as μ r μ', Γ_X8_countOf as μ r μ' → (elvL as).length ≤ 4 ∧ G mX8_countOf (Qe r μ') 0 (elv as 4) [] μ 0 := by
  intro as μ r μ' h
  obtain ⟨a0, rfl, h⟩ := h
  refine ⟨Nat.le_of_ble_eq_true rfl, ?_⟩
  show G mX8_countOf (Qe r μ') 0 [some (.ref 29), some (.int a0), none, none] [] μ 0
  unfold F_X8_countOf at h
  have hb9 : 0 ≤ 0 := Nat.le_refl _
  refine e_iconst dX8_countOf_0 ci_0 ?_
  refine e_istore_nL [some (.ref 29), some (.int a0), some (.int (0 : Int32)), none] dX8_countOf_1 (Nat.le_of_ble_eq_true rfl) rfl ?_
  refine e_iconst dX8_countOf_2 ci_0 ?_
  refine e_istore_nL [some (.ref 29), some (.int a0), some (.int (0 : Int32)), some (.int (0 : Int32))] dX8_countOf_3 (Nat.le_of_ble_eq_true rfl) rfl ?_
  exact e_le (g_X8_countOf_4 BIG a0 (0 : Int32) (0 : Int32) μ _ (by omega) h) ⟨rfl, rfl, rfl, rfl, trivial⟩
set_option maxRecDepth 20000 in
theorem ok_X8_countOf (l : Launch) (hl : l.stackTraces = false) : MOK l yX8_countOf.cls 3 42 mX8_countOf := ⟨lk_all (List.forall_mem_cons.mpr ⟨⟨yX8_lengthOf, cX8_lengthOf, 2, (some .int), 2, 20, by decide, by decide, t_1 7 rfl rfl, hd_X8_lengthOf, Or.inr (Or.inl ⟨rfl, sc_X8_lengthOf l hl, t_5 61 rfl rfl, t_5 58 rfl rfl, t_5 60 rfl rfl, _, rfl, t_p 39 rfl⟩)⟩, List.forall_mem_cons.mpr ⟨⟨yX8_rowOf, cX8_rowOf, 3, (some .int), 2, 20, by decide, by decide, t_1 7 rfl rfl, hd_X8_rowOf, Or.inr (Or.inl ⟨rfl, sc_X8_rowOf l hl, t_5 65 rfl rfl, t_5 62 rfl rfl, t_5 64 rfl rfl, _, rfl, t_p 40 rfl⟩)⟩, List.forall_mem_cons.mpr ⟨⟨yX8_columnOf, cX8_columnOf, 3, (some .int), 2, 20, by decide, by decide, t_1 7 rfl rfl, hd_X8_columnOf, Or.inr (Or.inl ⟨rfl, sc_X8_columnOf l hl, t_5 69 rfl rfl, t_5 66 rfl rfl, t_5 68 rfl rfl, _, rfl, t_p 41 rfl⟩)⟩, List.forall_mem_cons.mpr ⟨⟨yX8_isFilled, cX8_isFilled, 3, (some .boolean), 1, 0, by decide, by decide, t_1 7 rfl rfl, hd_X8_isFilled, Or.inr (Or.inl ⟨rfl, sc_X8_isFilled l hl, t_5 73 rfl rfl, t_5 70 rfl rfl, t_5 72 rfl rfl, _, rfl, t_p 42 rfl⟩)⟩, nil_all⟩⟩⟩⟩), fun ix ci j h => lk_all (P := fun ix q => FldOK yX8_countOf.cls ix q.1 q.2) (nil_all) ix (ci, j) h, lk_all (nil_all), lk_all (nil_all), lk_all (nil_all)⟩
theorem hd_X8_countOf : CallHd yX8_countOf 1 := ⟨by decide +kernel, by decide +kernel, by decide +kernel⟩
theorem sc_X8_countOf (l : Launch) (hl : l.stackTraces = false) : SCon l yX8_countOf cX8_countOf 4 (some .int) 3 42 0 Γ_X8_countOf := scon_of mX8_countOf cls_ok hl (by decide +kernel) rfl rfl (ok_X8_countOf l hl) rfl rfl b_X8_countOf
def f_X8_filledMany_4 : Nat → Int32 → Int32 → Mem → Out
  | 0, _, _, _ => none
  | n + 1, x1, x2, μ => cI (F_X8_rows μ) (fun v5 μ2 => if v5 ≤ x2 then (rI x1 μ2) else (cI (F_X8_countOf x2 μ2) (fun v11 μ8 => lt (x1 + v11) (fun v12 => lt (x2 + (1 : Int32)) (fun v13 => f_X8_filledMany_4 n v12 v13 μ8)))))
def F_X8_filledMany (μ : Mem) : Out := f_X8_filledMany_4 BIG (0 : Int32) (0 : Int32) μ
def Γ_X8_filledMany : Gam := fun as μ r μ' => as = [.ref 29] ∧ F_X8_filledMany μ = some (r, μ')
def mX8_filledMany : MI := (cX8_filledMany, [(76, (1, 0, 0, 6, Γ_X8_rows)), (102, (1, 1, 0, 6, Γ_X8_countOf))], [], [], [], [], [], none, (some .int))
set_option maxHeartbeats 4000000 in
theorem g_X8_filledMany_4 {r : Res} {μ' : Mem} : ∀ n : Nat, ∀ (x1 : Int32) (x2 : Int32), ∀ (μ : Mem) (b : Nat), 0 ≤ b → f_X8_filledMany_4 n x1 x2 μ = some (r, μ') → G mX8_filledMany (Qe r μ') 4 [some (.ref 29), some (.int x1), some (.int x2)] [] μ b := by
  intro n
  induction n with
  | zero => intro x1 x2 μ b hb9 h; exact nomatch (show (none : Out) = some _ from h)
  | succ n ih =>
    intro x1 x2 μ b hb9 h
    rw [f_X8_filledMany_4.eq_2] at h
    refine e_iload_n dX8_filledMany_4 rfl ?_
    refine e_aload_n dX8_filledMany_5 rfl ?_
    refine cI_go h (fun E3 hc1 hr4 => e_VX [] [.int x2] dX8_filledMany_6 rfl rfl rfl rfl (by decide) (Nat.le_of_ble_eq_true rfl) (by omega) ⟨rfl, hc1⟩ rfl ⟨hr4.symm, rfl⟩) (fun v5 μ2 hc1 h => ?_)
    refine e_VI [] [.int x2] dX8_filledMany_6 rfl rfl rfl rfl (by decide) (Nat.le_of_ble_eq_true rfl) (by omega) ⟨rfl, hc1⟩ ?_
    refine e_ic_ge (tgt := 26) dX8_filledMany_9 rfl (fun hc6 => ?_) (fun hc6 => ?_)
    · rw [if_pos hc6] at h
      refine e_iload_n dX8_filledMany_26 rfl ?_
      exact e_iret .int dX8_filledMany_27 rfl rfl (ret_eq h)
    · rw [if_neg hc6] at h
      refine e_iload_n dX8_filledMany_12 rfl ?_
      refine e_aload_n dX8_filledMany_13 rfl ?_
      refine e_iload_n dX8_filledMany_14 rfl ?_
      refine cI_go h (fun E9 hc7 hr10 => e_VX [.int x2] [.int x1] dX8_filledMany_15 rfl rfl rfl rfl (by decide) (Nat.le_of_ble_eq_true rfl) (by omega) ⟨x2, rfl, hc7⟩ rfl ⟨hr10.symm, rfl⟩) (fun v11 μ8 hc7 h => ?_)
      refine e_VI [.int x2] [.int x1] dX8_filledMany_15 rfl rfl rfl rfl (by decide) (Nat.le_of_ble_eq_true rfl) (by omega) ⟨x2, rfl, hc7⟩ ?_
      refine e_iadd dX8_filledMany_18 ?_
      refine e_naI h (fun v12 ev12 h => ?_)
      refine e_istore_nL [some (.ref 29), some (.int v12), some (.int x2)] dX8_filledMany_19 (Nat.le_of_ble_eq_true rfl) rfl ?_
      refine e_iincN 2 (1 : Int32) dX8_filledMany_20 rfl ci_1 h (fun y9 => [some (.ref 29), some (.int v12), some (.int y9)]) (fun _ => rfl) (fun v13 ev13 h => ?_)
      refine e_goto (tgt := 4) dX8_filledMany_23 rfl ?_
      exact e_le (ih v12 v13 μ8 _ (by omega) h) ⟨rfl, rfl, rfl, trivial⟩
set_option maxHeartbeats 4000000 in
theorem b_X8_filledMany : ∀ as μ r μ', Γ_X8_filledMany as μ r μ' → (elvL as).length ≤ 3 ∧ G mX8_filledMany (Qe r μ') 0 (elv as 3) [] μ 0 := by
  intro as μ r μ' h
  obtain ⟨rfl, h⟩ := h
  refine ⟨Nat.le_of_ble_eq_true rfl, ?_⟩
  show G mX8_filledMany (Qe r μ') 0 [some (.ref 29), none, none] [] μ 0
  unfold F_X8_filledMany at h
  have hb9 : 0 ≤ 0 := Nat.le_refl _
  refine e_iconst dX8_filledMany_0 ci_0 ?_
  refine e_istore_nL [some (.ref 29), some (.int (0 : Int32)), none] dX8_filledMany_1 (Nat.le_of_ble_eq_true rfl) rfl ?_
  refine e_iconst dX8_filledMany_2 ci_0 ?_
  refine e_istore_nL [some (.ref 29), some (.int (0 : Int32)), some (.int (0 : Int32))] dX8_filledMany_3 (Nat.le_of_ble_eq_true rfl) rfl ?_
  exact e_le (g_X8_filledMany_4 BIG (0 : Int32) (0 : Int32) μ _ (by omega) h) ⟨rfl, rfl, rfl, trivial⟩
set_option maxRecDepth 20000 in
theorem ok_X8_filledMany (l : Launch) (hl : l.stackTraces = false) : MOK l yX8_filledMany.cls 4 65 mX8_filledMany := ⟨lk_all (List.forall_mem_cons.mpr ⟨⟨yX8_rows, cX8_rows, 1, (some .int), 1, 0, by decide, by decide, t_1 7 rfl rfl, hd_X8_rows, Or.inr (Or.inl ⟨rfl, sc_X8_rows l hl, t_5 45 rfl rfl, t_5 42 rfl rfl, t_5 44 rfl rfl, _, rfl, t_p 35 rfl⟩)⟩, List.forall_mem_cons.mpr ⟨⟨yX8_countOf, cX8_countOf, 4, (some .int), 3, 42, by decide, by decide, t_1 7 rfl rfl, hd_X8_countOf, Or.inr (Or.inl ⟨rfl, sc_X8_countOf l hl, t_5 57 rfl rfl, t_5 54 rfl rfl, t_5 56 rfl rfl, _, rfl, t_p 38 rfl⟩)⟩, nil_all⟩⟩), fun ix ci j h => lk_all (P := fun ix q => FldOK yX8_filledMany.cls ix q.1 q.2) (nil_all) ix (ci, j) h, lk_all (nil_all), lk_all (nil_all), lk_all (nil_all)⟩
theorem hd_X8_filledMany : CallHd yX8_filledMany 0 := ⟨by decide +kernel, by decide +kernel, by decide +kernel⟩
theorem sc_X8_filledMany (l : Launch) (hl : l.stackTraces = false) : SCon l yX8_filledMany cX8_filledMany 3 (some .int) 4 65 0 Γ_X8_filledMany := scon_of mX8_filledMany cls_ok hl (by decide +kernel) rfl rfl (ok_X8_filledMany l hl) rfl rfl b_X8_filledMany
def F_X8_in (a0 : Int32) (a1 : Int32) (a2 : Int32) (μ : Mem) : Out := if a0 < a1 then (rI (0 : Int32) μ) else (if a2 < a0 then (rI (0 : Int32) μ) else (rI (1 : Int32) μ))
def Γ_X8_in : Gam := fun as μ r μ' => ∃ (a0 : Int32) (a1 : Int32) (a2 : Int32), as = [.int a0, .int a1, .int a2] ∧ F_X8_in a0 a1 a2 μ = some (r, μ')
def mX8_in : MI := (cX8_in, [], [], [], [], [], [], none, (some .boolean))
set_option maxHeartbeats 4000000 in
theorem b_X8_in : ∀ as μ r μ', Γ_X8_in as μ r μ' → (elvL as).length ≤ 3 ∧ G mX8_in (Qe r μ') 0 (elv as 3) [] μ 0 := by
  intro as μ r μ' h
  obtain ⟨a0, a1, a2, rfl, h⟩ := h
  refine ⟨Nat.le_of_ble_eq_true rfl, ?_⟩
  show G mX8_in (Qe r μ') 0 [some (.int a0), some (.int a1), some (.int a2)] [] μ 0
  unfold F_X8_in at h
  have hb9 : 0 ≤ 0 := Nat.le_refl _
  refine e_iload_n dX8_in_0 rfl ?_
  refine e_iload_n dX8_in_1 rfl ?_
  refine e_ic_lt (tgt := 14) dX8_in_2 rfl (fun hc1 => ?_) (fun hc1 => ?_)
  · rw [if_pos hc1] at h
    refine e_iconst dX8_in_14 ci_0 ?_
    exact e_iret .boolean dX8_in_15 rfl rfl (ret_eq h)
  · rw [if_neg hc1] at h
    refine e_iload_n dX8_in_5 rfl ?_
    refine e_iload_n dX8_in_6 rfl ?_
    refine e_ic_gt (tgt := 14) dX8_in_7 rfl (fun hc2 => ?_) (fun hc2 => ?_)
    · rw [if_pos hc2] at h
      refine e_iconst dX8_in_14 ci_0 ?_
      exact e_iret .boolean dX8_in_15 rfl rfl (ret_eq h)
    · rw [if_neg hc2] at h
      refine e_iconst dX8_in_10 ci_1 ?_
      refine e_goto (tgt := 15) dX8_in_11 rfl ?_
      exact e_iret .boolean dX8_in_15 rfl rfl (ret_eq h)
set_option maxRecDepth 20000 in
theorem ok_X8_in (l : Launch) (hl : l.stackTraces = false) : MOK l yX8_in.cls 1 0 mX8_in := ⟨lk_all (nil_all), fun ix ci j h => lk_all (P := fun ix q => FldOK yX8_in.cls ix q.1 q.2) (nil_all) ix (ci, j) h, lk_all (nil_all), lk_all (nil_all), lk_all (nil_all)⟩
theorem hd_X8_in : CallHd yX8_in 3 := ⟨by decide +kernel, by decide +kernel, by decide +kernel⟩
theorem sc_X8_in (l : Launch) (hl : l.stackTraces = false) : SCon l yX8_in cX8_in 3 (some .boolean) 1 0 0 Γ_X8_in := scon_of mX8_in cls_ok hl (by decide +kernel) rfl rfl (ok_X8_in l hl) rfl rfl b_X8_in
def f_X8_fillsHull_61 (k9 : Int32 → Int32 → Int32 → Int32 → Mem → Out) (x1 : Int32) (x3 : Int32) (x4 : Int32) (x5 : Int32) (s0 : Int32) (μ : Mem) : Out := if x5 = 0 then (lt (x4 + (1 : Int32)) (fun v40 => k9 x1 s0 x3 v40 μ)) else (lt (x4 + (1 : Int32)) (fun v41 => k9 x1 s0 x4 v41 μ))
def f_X8_fillsHull_138 (k86 : Int32 → Int32 → Int32 → Int32 → Int32 → Mem → Out) (x1 : Int32) (x2 : Int32) (x3 : Int32) (x5 : Int32) (x6 : Int32) (s0 : Int32) (μ : Mem) : Out := ck (inb x6 36) (lt (sI μ 36 (Int32.toNatClampNeg x6) (vp_nar .boolean (1 : Int32))) (fun μ43 => lt (x5 + (1 : Int32)) (fun v44 => k86 x1 x2 x3 s0 v44 μ43)))
def f_X8_fillsHull_86 : Nat → Int32 → Int32 → Int32 → Int32 → Int32 → Mem → Out
  | 0, _, _, _, _, _, _ => none
  | n + 1, x1, x2, x3, x4, x5, μ => if x2 = (-9 : Int32) then (ck (nz x4) (rI x4 μ)) else (if x3 ≤ x5 then (ck (nz x4) (rI x4 μ)) else (cI (F_X8_rowOf x1 x5 μ) (fun v29 μ26 => cI (F_X8_columnOf x1 x5 μ26) (fun v34 μ31 => lt (((6 : Int32) * v29) + v34) (fun v35 => if x4 = 0 then (ck (inb v35 36) (if (μ31.1 36 (Int32.toNatClampNeg v35)) = 0 then (f_X8_fillsHull_138 (f_X8_fillsHull_86 n) x1 x2 x3 x5 v35 (1 : Int32) μ31) else (f_X8_fillsHull_138 (f_X8_fillsHull_86 n) x1 x2 x3 x5 v35 (0 : Int32) μ31))) else (f_X8_fillsHull_138 (f_X8_fillsHull_86 n) x1 x2 x3 x5 v35 (1 : Int32) μ31))))))
def f_X8_fillsHull_9 : Nat → Int32 → Int32 → Int32 → Int32 → Mem → Out
  | 0, _, _, _, _, _ => none
  | n + 1, x1, x2, x3, x4, μ => cI (F_X8_lengthOf x1 μ) (fun v5 μ2 => if v5 ≤ x4 then (f_X8_fillsHull_86 BIG x1 x2 x3 (0 : Int32) x2 μ2) else (cI (F_X8_rowOf x1 x4 μ2) (fun v11 μ8 => cI (F_X8_columnOf x1 x4 μ8) (fun v16 μ13 => ck (inb (((6 : Int32) * v11) + v16) 36) (lt (μ13.1 36 (Int32.toNatClampNeg (((6 : Int32) * v11) + v16))) (fun v18 => if v18 = 0 then (f_X8_fillsHull_61 (f_X8_fillsHull_9 n) x1 x3 x4 v18 x2 μ13) else (if x2 = (-9 : Int32) then (f_X8_fillsHull_61 (f_X8_fillsHull_9 n) x1 x3 x4 v18 x4 μ13) else (f_X8_fillsHull_61 (f_X8_fillsHull_9 n) x1 x3 x4 v18 x2 μ13))))))))
def F_X8_fillsHull (a0 : Int32) (μ : Mem) : Out := f_X8_fillsHull_9 BIG a0 (-9 : Int32) (-9 : Int32) (0 : Int32) μ
def Γ_X8_fillsHull : Gam := fun as μ r μ' => ∃ (a0 : Int32), as = [.ref 29, .int a0] ∧ F_X8_fillsHull a0 μ = some (r, μ')
def mX8_fillsHull : MI := (cX8_fillsHull, [(87, (1, 1, 0, 6, Γ_X8_lengthOf)), (91, (1, 2, 0, 6, Γ_X8_rowOf)), (95, (1, 2, 0, 6, Γ_X8_columnOf))], [(28, 6, 10)], [], [], [], [], none, (some .boolean))
set_option maxHeartbeats 4000000 in
theorem g_X8_fillsHull_61 {r : Res} {μ' : Mem} {k9 : Int32 → Int32 → Int32 → Int32 → Mem → Out} (hk9 : ∀ (x1 : Int32) (x2 : Int32) (x3 : Int32) (x4 : Int32), ∀ (μ : Mem) (b : Nat), 0 ≤ b → k9 x1 x2 x3 x4 μ = some (r, μ') → G mX8_fillsHull (Qe r μ') 9 [some (.ref 29), some (.int x1), some (.int x2), some (.int x3), some (.int x4), none, none] [] μ b) : ∀ (x1 : Int32) (x3 : Int32) (x4 : Int32) (x5 : Int32) (s0 : Int32), ∀ (μ : Mem) (b : Nat), 0 ≤ b → f_X8_fillsHull_61 k9 x1 x3 x4 x5 s0 μ = some (r, μ') → G mX8_fillsHull (Qe r μ') 61 [some (.ref 29), some (.int x1), none, some (.int x3), some (.int x4), some (.int x5), none] [.int s0] μ b := by
  intro x1 x3 x4 x5 s0 μ b hb9 h
  unfold f_X8_fillsHull_61 at h
  refine e_istore_nL [some (.ref 29), some (.int x1), some (.int s0), some (.int x3), some (.int x4), some (.int x5), none] dX8_fillsHull_61 (Nat.le_of_ble_eq_true rfl) rfl ?_
  refine e_iload dX8_fillsHull_62 rfl ?_
  refine e_if_eq (tgt := 72) dX8_fillsHull_64 rfl (fun hc39 => ?_) (fun hc39 => ?_)
  · rw [if_pos hc39] at h
    refine e_iload_n dX8_fillsHull_72 rfl ?_
    refine e_istore_nL [some (.ref 29), some (.int x1), some (.int s0), some (.int x3), some (.int x4), some (.int x5), none] dX8_fillsHull_73 (Nat.le_of_ble_eq_true rfl) rfl ?_
    refine e_iincN 4 (1 : Int32) dX8_fillsHull_74 rfl ci_1 h (fun y9 => [some (.ref 29), some (.int x1), some (.int s0), some (.int x3), some (.int y9), some (.int x5), none]) (fun _ => rfl) (fun v40 ev40 h => ?_)
    refine e_goto (tgt := 9) dX8_fillsHull_77 rfl ?_
    exact e_le (hk9 x1 s0 x3 v40 μ _ (by omega) h) ⟨rfl, rfl, rfl, rfl, rfl, trivial⟩
  · rw [if_neg hc39] at h
    refine e_iload dX8_fillsHull_67 rfl ?_
    refine e_goto (tgt := 73) dX8_fillsHull_69 rfl ?_
    refine e_istore_nL [some (.ref 29), some (.int x1), some (.int s0), some (.int x4), some (.int x4), some (.int x5), none] dX8_fillsHull_73 (Nat.le_of_ble_eq_true rfl) rfl ?_
    refine e_iincN 4 (1 : Int32) dX8_fillsHull_74 rfl ci_1 h (fun y9 => [some (.ref 29), some (.int x1), some (.int s0), some (.int x4), some (.int y9), some (.int x5), none]) (fun _ => rfl) (fun v41 ev41 h => ?_)
    refine e_goto (tgt := 9) dX8_fillsHull_77 rfl ?_
    exact e_le (hk9 x1 s0 x4 v41 μ _ (by omega) h) ⟨rfl, rfl, rfl, rfl, rfl, trivial⟩
set_option maxHeartbeats 4000000 in
theorem g_X8_fillsHull_138 {r : Res} {μ' : Mem} {k86 : Int32 → Int32 → Int32 → Int32 → Int32 → Mem → Out} (hk86 : ∀ (x1 : Int32) (x2 : Int32) (x3 : Int32) (x4 : Int32) (x5 : Int32), ∀ (μ : Mem) (b : Nat), 0 ≤ b → k86 x1 x2 x3 x4 x5 μ = some (r, μ') → G mX8_fillsHull (Qe r μ') 86 [some (.ref 29), some (.int x1), some (.int x2), some (.int x3), some (.int x4), some (.int x5), none] [] μ b) : ∀ (x1 : Int32) (x2 : Int32) (x3 : Int32) (x5 : Int32) (x6 : Int32) (s0 : Int32), ∀ (μ : Mem) (b : Nat), 0 ≤ b → f_X8_fillsHull_138 k86 x1 x2 x3 x5 x6 s0 μ = some (r, μ') → G mX8_fillsHull (Qe r μ') 138 [some (.ref 29), some (.int x1), some (.int x2), some (.int x3), none, some (.int x5), some (.int x6)] [.int s0] μ b := by
  intro x1 x2 x3 x5 x6 s0 μ b hb9 h
  unfold f_X8_fillsHull_138 at h
  refine e_istoreL [some (.ref 29), some (.int x1), some (.int x2), some (.int x3), some (.int s0), some (.int x5), some (.int x6)] dX8_fillsHull_138 (Nat.le_of_ble_eq_true rfl) rfl ?_
  refine e_aload_n dX8_fillsHull_140 rfl ?_
  refine e_get (ci := 6) (j := 10) (t := 2) (v := .ref 36) dX8_fillsHull_141 rfl (by decide) rfl rfl rfl ?_
  refine e_iload dX8_fillsHull_144 rfl ?_
  refine e_iconst dX8_fillsHull_146 ci_1 ?_
  obtain ⟨hc42, h⟩ := ck_eq h
  refine e_bastore (n := 36) dX8_fillsHull_147 (by decide) rfl hc42 ?_
  refine e_naM (e := sI μ 36 (Int32.toNatClampNeg x6) (vp_nar .boolean (1 : Int32))) h (fun μ43 eμ43 h => ?_)
  refine e_iincN 5 (1 : Int32) dX8_fillsHull_148 rfl ci_1 h (fun y9 => [some (.ref 29), some (.int x1), some (.int x2), some (.int x3), some (.int s0), some (.int y9), some (.int x6)]) (fun _ => rfl) (fun v44 ev44 h => ?_)
  refine e_goto (tgt := 86) dX8_fillsHull_151 rfl ?_
  exact e_le (hk86 x1 x2 x3 s0 v44 μ43 _ (by omega) h) ⟨rfl, rfl, rfl, rfl, rfl, rfl, trivial⟩
set_option maxHeartbeats 4000000 in
theorem g_X8_fillsHull_86 {r : Res} {μ' : Mem} : ∀ n : Nat, ∀ (x1 : Int32) (x2 : Int32) (x3 : Int32) (x4 : Int32) (x5 : Int32), ∀ (μ : Mem) (b : Nat), 0 ≤ b → f_X8_fillsHull_86 n x1 x2 x3 x4 x5 μ = some (r, μ') → G mX8_fillsHull (Qe r μ') 86 [some (.ref 29), some (.int x1), some (.int x2), some (.int x3), some (.int x4), some (.int x5), none] [] μ b := by
  intro n
  induction n with
  | zero => intro x1 x2 x3 x4 x5 μ b hb9 h; exact nomatch (show (none : Out) = some _ from h)
  | succ n ih =>
    intro x1 x2 x3 x4 x5 μ b hb9 h
    rw [f_X8_fillsHull_86.eq_2] at h
    refine e_iload_n dX8_fillsHull_86 rfl ?_
    refine e_bipush dX8_fillsHull_87 cb_m9 ?_
    refine e_ic_eq (tgt := 154) dX8_fillsHull_89 rfl (fun hc21 => ?_) (fun hc21 => ?_)
    · rw [if_pos hc21] at h
      refine e_iload dX8_fillsHull_154 rfl ?_
      obtain ⟨hc22, h⟩ := ck_eq h
      exact e_iret .boolean dX8_fillsHull_156 rfl hc22 (ret_eq h)
    · rw [if_neg hc21] at h
      refine e_iload dX8_fillsHull_92 rfl ?_
      refine e_iload_n dX8_fillsHull_94 rfl ?_
      refine e_ic_ge (tgt := 154) dX8_fillsHull_95 rfl (fun hc23 => ?_) (fun hc23 => ?_)
      · rw [if_pos hc23] at h
        refine e_iload dX8_fillsHull_154 rfl ?_
        obtain ⟨hc24, h⟩ := ck_eq h
        exact e_iret .boolean dX8_fillsHull_156 rfl hc24 (ret_eq h)
      · rw [if_neg hc23] at h
        refine e_bipush dX8_fillsHull_98 cb_6 ?_
        refine e_aload_n dX8_fillsHull_100 rfl ?_
        refine e_iload_n dX8_fillsHull_101 rfl ?_
        refine e_iload dX8_fillsHull_102 rfl ?_
        refine cI_go h (fun E27 hc25 hr28 => e_VX [.int x1, .int x5] [.int (6 : Int32)] dX8_fillsHull_104 rfl rfl rfl rfl (by decide) (Nat.le_of_ble_eq_true rfl) (by omega) ⟨x1, x5, rfl, hc25⟩ rfl ⟨hr28.symm, rfl⟩) (fun v29 μ26 hc25 h => ?_)
        refine e_VI [.int x1, .int x5] [.int (6 : Int32)] dX8_fillsHull_104 rfl rfl rfl rfl (by decide) (Nat.le_of_ble_eq_true rfl) (by omega) ⟨x1, x5, rfl, hc25⟩ ?_
        refine e_imul dX8_fillsHull_107 ?_
        refine e_aload_n dX8_fillsHull_108 rfl ?_
        refine e_iload_n dX8_fillsHull_109 rfl ?_
        refine e_iload dX8_fillsHull_110 rfl ?_
        refine cI_go h (fun E32 hc30 hr33 => e_VX [.int x1, .int x5] [.int ((6 : Int32) * v29)] dX8_fillsHull_112 rfl rfl rfl rfl (by decide) (Nat.le_of_ble_eq_true rfl) (by omega) ⟨x1, x5, rfl, hc30⟩ rfl ⟨hr33.symm, rfl⟩) (fun v34 μ31 hc30 h => ?_)
        refine e_VI [.int x1, .int x5] [.int ((6 : Int32) * v29)] dX8_fillsHull_112 rfl rfl rfl rfl (by decide) (Nat.le_of_ble_eq_true rfl) (by omega) ⟨x1, x5, rfl, hc30⟩ ?_
        refine e_iadd dX8_fillsHull_115 ?_
        refine e_naI h (fun v35 ev35 h => ?_)
        refine e_istoreL [some (.ref 29), some (.int x1), some (.int x2), some (.int x3), some (.int x4), some (.int x5), some (.int v35)] dX8_fillsHull_116 (Nat.le_of_ble_eq_true rfl) rfl ?_
        refine e_iload dX8_fillsHull_118 rfl ?_
        refine e_if_ne (tgt := 133) dX8_fillsHull_120 rfl (fun hc36 => ?_) (fun hc36 => ?_)
        · rw [if_neg hc36] at h
          refine e_iconst dX8_fillsHull_133 ci_1 ?_
          refine e_goto (tgt := 138) dX8_fillsHull_134 rfl ?_
          exact e_le (g_X8_fillsHull_138 ih x1 x2 x3 x5 v35 (1 : Int32) μ31 _ (by omega) h) ⟨rfl, rfl, rfl, rfl, rfl, rfl, trivial⟩
        · rw [if_pos hc36] at h
          refine e_aload_n dX8_fillsHull_123 rfl ?_
          refine e_get (ci := 6) (j := 10) (t := 2) (v := .ref 36) dX8_fillsHull_124 rfl (by decide) rfl rfl rfl ?_
          refine e_iload dX8_fillsHull_127 rfl ?_
          obtain ⟨hc37, h⟩ := ck_eq h
          refine e_baload (n := 36) dX8_fillsHull_129 (by decide) rfl hc37 ?_
          refine e_if_ne (tgt := 137) dX8_fillsHull_130 rfl (fun hc38 => ?_) (fun hc38 => ?_)
          · rw [if_neg hc38] at h
            refine e_iconst dX8_fillsHull_137 ci_0 ?_
            exact e_le (g_X8_fillsHull_138 ih x1 x2 x3 x5 v35 (0 : Int32) μ31 _ (by omega) h) ⟨rfl, rfl, rfl, rfl, rfl, rfl, trivial⟩
          · rw [if_pos hc38] at h
            refine e_iconst dX8_fillsHull_133 ci_1 ?_
            refine e_goto (tgt := 138) dX8_fillsHull_134 rfl ?_
            exact e_le (g_X8_fillsHull_138 ih x1 x2 x3 x5 v35 (1 : Int32) μ31 _ (by omega) h) ⟨rfl, rfl, rfl, rfl, rfl, rfl, trivial⟩
set_option maxHeartbeats 4000000 in
theorem g_X8_fillsHull_9 {r : Res} {μ' : Mem} : ∀ n : Nat, ∀ (x1 : Int32) (x2 : Int32) (x3 : Int32) (x4 : Int32), ∀ (μ : Mem) (b : Nat), 0 ≤ b → f_X8_fillsHull_9 n x1 x2 x3 x4 μ = some (r, μ') → G mX8_fillsHull (Qe r μ') 9 [some (.ref 29), some (.int x1), some (.int x2), some (.int x3), some (.int x4), none, none] [] μ b := by
  intro n
  induction n with
  | zero => intro x1 x2 x3 x4 μ b hb9 h; exact nomatch (show (none : Out) = some _ from h)
  | succ n ih =>
    intro x1 x2 x3 x4 μ b hb9 h
    rw [f_X8_fillsHull_9.eq_2] at h
    refine e_iload dX8_fillsHull_9 rfl ?_
    refine e_aload_n dX8_fillsHull_11 rfl ?_
    refine e_iload_n dX8_fillsHull_12 rfl ?_
    refine cI_go h (fun E3 hc1 hr4 => e_VX [.int x1] [.int x4] dX8_fillsHull_13 rfl rfl rfl rfl (by decide) (Nat.le_of_ble_eq_true rfl) (by omega) ⟨x1, rfl, hc1⟩ rfl ⟨hr4.symm, rfl⟩) (fun v5 μ2 hc1 h => ?_)
    refine e_VI [.int x1] [.int x4] dX8_fillsHull_13 rfl rfl rfl rfl (by decide) (Nat.le_of_ble_eq_true rfl) (by omega) ⟨x1, rfl, hc1⟩ ?_
    refine e_ic_ge (tgt := 80) dX8_fillsHull_16 rfl (fun hc6 => ?_) (fun hc6 => ?_)
    · rw [if_pos hc6] at h
      refine e_iconst dX8_fillsHull_80 ci_0 ?_
      refine e_istoreL [some (.ref 29), some (.int x1), some (.int x2), some (.int x3), some (.int (0 : Int32)), none, none] dX8_fillsHull_81 (Nat.le_of_ble_eq_true rfl) rfl ?_
      refine e_iload_n dX8_fillsHull_83 rfl ?_
      refine e_istoreL [some (.ref 29), some (.int x1), some (.int x2), some (.int x3), some (.int (0 : Int32)), some (.int x2), none] dX8_fillsHull_84 (Nat.le_of_ble_eq_true rfl) rfl ?_
      exact e_le (g_X8_fillsHull_86 BIG x1 x2 x3 (0 : Int32) x2 μ2 _ (by omega) h) ⟨rfl, rfl, rfl, rfl, rfl, rfl, trivial⟩
    · rw [if_neg hc6] at h
      refine e_aload_n dX8_fillsHull_19 rfl ?_
      refine e_get (ci := 6) (j := 10) (t := 2) (v := .ref 36) dX8_fillsHull_20 rfl (by decide) rfl rfl rfl ?_
      refine e_bipush dX8_fillsHull_23 cb_6 ?_
      refine e_aload_n dX8_fillsHull_25 rfl ?_
      refine e_iload_n dX8_fillsHull_26 rfl ?_
      refine e_iload dX8_fillsHull_27 rfl ?_
      refine cI_go h (fun E9 hc7 hr10 => e_VX [.int x1, .int x4] [.int (6 : Int32), .ref 36] dX8_fillsHull_29 rfl rfl rfl rfl (by decide) (Nat.le_of_ble_eq_true rfl) (by omega) ⟨x1, x4, rfl, hc7⟩ rfl ⟨hr10.symm, rfl⟩) (fun v11 μ8 hc7 h => ?_)
      refine e_VI [.int x1, .int x4] [.int (6 : Int32), .ref 36] dX8_fillsHull_29 rfl rfl rfl rfl (by decide) (Nat.le_of_ble_eq_true rfl) (by omega) ⟨x1, x4, rfl, hc7⟩ ?_
      refine e_imul dX8_fillsHull_32 ?_
      refine e_aload_n dX8_fillsHull_33 rfl ?_
      refine e_iload_n dX8_fillsHull_34 rfl ?_
      refine e_iload dX8_fillsHull_35 rfl ?_
      refine cI_go h (fun E14 hc12 hr15 => e_VX [.int x1, .int x4] [.int ((6 : Int32) * v11), .ref 36] dX8_fillsHull_37 rfl rfl rfl rfl (by decide) (Nat.le_of_ble_eq_true rfl) (by omega) ⟨x1, x4, rfl, hc12⟩ rfl ⟨hr15.symm, rfl⟩) (fun v16 μ13 hc12 h => ?_)
      refine e_VI [.int x1, .int x4] [.int ((6 : Int32) * v11), .ref 36] dX8_fillsHull_37 rfl rfl rfl rfl (by decide) (Nat.le_of_ble_eq_true rfl) (by omega) ⟨x1, x4, rfl, hc12⟩ ?_
      refine e_iadd dX8_fillsHull_40 ?_
      obtain ⟨hc17, h⟩ := ck_eq h
      refine e_baload (n := 36) dX8_fillsHull_41 (by decide) rfl hc17 ?_
      refine e_naI h (fun v18 ev18 h => ?_)
      refine e_istoreL [some (.ref 29), some (.int x1), some (.int x2), some (.int x3), some (.int x4), some (.int v18), none] dX8_fillsHull_42 (Nat.le_of_ble_eq_true rfl) rfl ?_
      refine e_iload dX8_fillsHull_44 rfl ?_
      refine e_if_eq (tgt := 60) dX8_fillsHull_46 rfl (fun hc19 => ?_) (fun hc19 => ?_)
      · rw [if_pos hc19] at h
        refine e_iload_n dX8_fillsHull_60 rfl ?_
        exact e_le (g_X8_fillsHull_61 ih x1 x3 x4 v18 x2 μ13 _ (by omega) h) ⟨rfl, rfl, rfl, rfl, rfl, trivial⟩
      · rw [if_neg hc19] at h
        refine e_iload_n dX8_fillsHull_49 rfl ?_
        refine e_bipush dX8_fillsHull_50 cb_m9 ?_
        refine e_ic_ne (tgt := 60) dX8_fillsHull_52 rfl (fun hc20 => ?_) (fun hc20 => ?_)
        · rw [if_neg hc20] at h
          refine e_iload_n dX8_fillsHull_60 rfl ?_
          exact e_le (g_X8_fillsHull_61 ih x1 x3 x4 v18 x2 μ13 _ (by omega) h) ⟨rfl, rfl, rfl, rfl, rfl, trivial⟩
        · rw [if_pos hc20] at h
          refine e_iload dX8_fillsHull_55 rfl ?_
          refine e_goto (tgt := 61) dX8_fillsHull_57 rfl ?_
          exact e_le (g_X8_fillsHull_61 ih x1 x3 x4 v18 x4 μ13 _ (by omega) h) ⟨rfl, rfl, rfl, rfl, rfl, trivial⟩
set_option maxHeartbeats 4000000 in
theorem b_X8_fillsHull : ∀ as μ r μ', Γ_X8_fillsHull as μ r μ' → (elvL as).length ≤ 7 ∧ G mX8_fillsHull (Qe r μ') 0 (elv as 7) [] μ 0 := by
  intro as μ r μ' h
  obtain ⟨a0, rfl, h⟩ := h
  refine ⟨Nat.le_of_ble_eq_true rfl, ?_⟩
  show G mX8_fillsHull (Qe r μ') 0 [some (.ref 29), some (.int a0), none, none, none, none, none] [] μ 0
  unfold F_X8_fillsHull at h
  have hb9 : 0 ≤ 0 := Nat.le_refl _
  refine e_bipush dX8_fillsHull_0 cb_m9 ?_
  refine e_istore_nL [some (.ref 29), some (.int a0), some (.int (-9 : Int32)), none, none, none, none] dX8_fillsHull_2 (Nat.le_of_ble_eq_true rfl) rfl ?_
  refine e_bipush dX8_fillsHull_3 cb_m9 ?_
  refine e_istore_nL [some (.ref 29), some (.int a0), some (.int (-9 : Int32)), some (.int (-9 : Int32)), none, none, none] dX8_fillsHull_5 (Nat.le_of_ble_eq_true rfl) rfl ?_
  refine e_iconst dX8_fillsHull_6 ci_0 ?_
  refine e_istoreL [some (.ref 29), some (.int a0), some (.int (-9 : Int32)), some (.int (-9 : Int32)), some (.int (0 : Int32)), none, none] dX8_fillsHull_7 (Nat.le_of_ble_eq_true rfl) rfl ?_
  exact e_le (g_X8_fillsHull_9 BIG a0 (-9 : Int32) (-9 : Int32) (0 : Int32) μ _ (by omega) h) ⟨rfl, rfl, rfl, rfl, rfl, trivial⟩
set_option maxRecDepth 20000 in
theorem ok_X8_fillsHull (l : Launch) (hl : l.stackTraces = false) : MOK l yX8_fillsHull.cls 3 42 mX8_fillsHull := ⟨lk_all (List.forall_mem_cons.mpr ⟨⟨yX8_lengthOf, cX8_lengthOf, 2, (some .int), 2, 20, by decide, by decide, t_1 7 rfl rfl, hd_X8_lengthOf, Or.inr (Or.inl ⟨rfl, sc_X8_lengthOf l hl, t_5 61 rfl rfl, t_5 58 rfl rfl, t_5 60 rfl rfl, _, rfl, t_p 39 rfl⟩)⟩, List.forall_mem_cons.mpr ⟨⟨yX8_rowOf, cX8_rowOf, 3, (some .int), 2, 20, by decide, by decide, t_1 7 rfl rfl, hd_X8_rowOf, Or.inr (Or.inl ⟨rfl, sc_X8_rowOf l hl, t_5 65 rfl rfl, t_5 62 rfl rfl, t_5 64 rfl rfl, _, rfl, t_p 40 rfl⟩)⟩, List.forall_mem_cons.mpr ⟨⟨yX8_columnOf, cX8_columnOf, 3, (some .int), 2, 20, by decide, by decide, t_1 7 rfl rfl, hd_X8_columnOf, Or.inr (Or.inl ⟨rfl, sc_X8_columnOf l hl, t_5 69 rfl rfl, t_5 66 rfl rfl, t_5 68 rfl rfl, _, rfl, t_p 41 rfl⟩)⟩, nil_all⟩⟩⟩), fun ix ci j h => lk_all (P := fun ix q => FldOK yX8_fillsHull.cls ix q.1 q.2) (List.forall_mem_cons.mpr ⟨⟨_, rfl, by decide, t_4 188 rfl rfl⟩, nil_all⟩) ix (ci, j) h, lk_all (nil_all), lk_all (nil_all), lk_all (nil_all)⟩
theorem hd_X8_fillsHull : CallHd yX8_fillsHull 1 := ⟨by decide +kernel, by decide +kernel, by decide +kernel⟩
theorem sc_X8_fillsHull (l : Launch) (hl : l.stackTraces = false) : SCon l yX8_fillsHull cX8_fillsHull 7 (some .boolean) 3 42 0 Γ_X8_fillsHull := scon_of mX8_fillsHull cls_ok hl (by decide +kernel) rfl rfl (ok_X8_fillsHull l hl) rfl rfl b_X8_fillsHull
def F_X8_isCell (a0 : Int32) (a1 : Int32) (μ : Mem) : Out := cI (F_X8_rows μ) (fun v5 μ2 => cI (F_X8_in a0 (0 : Int32) (v5 - (1 : Int32)) μ2) (fun v10 μ7 => if v10 = 0 then (rI (0 : Int32) μ7) else (cI (F_X8_columns μ7) (fun v16 μ13 => cI (F_X8_in a1 (0 : Int32) (v16 - (1 : Int32)) μ13) (fun v21 μ18 => if v21 = 0 then (rI (0 : Int32) μ18) else (rI (1 : Int32) μ18))))))
def Γ_X8_isCell : Gam := fun as μ r μ' => ∃ (a0 : Int32) (a1 : Int32), as = [.ref 29, .int a0, .int a1] ∧ F_X8_isCell a0 a1 μ = some (r, μ')
def mX8_isCell : MI := (cX8_isCell, [(76, (1, 0, 0, 6, Γ_X8_rows)), (80, (0, 3, 0, 0, Γ_X8_in)), (84, (1, 0, 0, 6, Γ_X8_columns))], [], [], [], [], [], none, (some .boolean))
set_option maxHeartbeats 4000000 in
theorem b_X8_isCell : ∀ as μ r μ', Γ_X8_isCell as μ r μ' → (elvL as).length ≤ 3 ∧ G mX8_isCell (Qe r μ') 0 (elv as 3) [] μ 0 := by
  intro as μ r μ' h
  obtain ⟨a0, a1, rfl, h⟩ := h
  refine ⟨Nat.le_of_ble_eq_true rfl, ?_⟩
  show G mX8_isCell (Qe r μ') 0 [some (.ref 29), some (.int a0), some (.int a1)] [] μ 0
  unfold F_X8_isCell at h
  have hb9 : 0 ≤ 0 := Nat.le_refl _
  refine e_iload_n dX8_isCell_0 rfl ?_
  refine e_iconst dX8_isCell_1 ci_0 ?_
  refine e_aload_n dX8_isCell_2 rfl ?_
  refine cI_go h (fun E3 hc1 hr4 => e_VX [] [.int (0 : Int32), .int a0] dX8_isCell_3 rfl rfl rfl rfl (by decide) (Nat.le_of_ble_eq_true rfl) (by omega) ⟨rfl, hc1⟩ rfl ⟨hr4.symm, rfl⟩) (fun v5 μ2 hc1 h => ?_)
  refine e_VI [] [.int (0 : Int32), .int a0] dX8_isCell_3 rfl rfl rfl rfl (by decide) (Nat.le_of_ble_eq_true rfl) (by omega) ⟨rfl, hc1⟩ ?_
  refine e_iconst dX8_isCell_6 ci_1 ?_
  refine e_isub dX8_isCell_7 ?_
  refine cI_go h (fun E8 hc6 hr9 => e_SX [.int a0, .int (0 : Int32), .int (v5 - (1 : Int32))] [] dX8_isCell_8 rfl (by decide) rfl rfl (Nat.le_of_ble_eq_true rfl) (by omega) ⟨a0, (0 : Int32), v5 - (1 : Int32), rfl, hc6⟩ rfl ⟨hr9.symm, rfl⟩) (fun v10 μ7 hc6 h => ?_)
  refine e_SI [.int a0, .int (0 : Int32), .int (v5 - (1 : Int32))] [] dX8_isCell_8 rfl (by decide) rfl rfl (Nat.le_of_ble_eq_true rfl) (by omega) ⟨a0, (0 : Int32), v5 - (1 : Int32), rfl, hc6⟩ ?_
  refine e_if_eq (tgt := 32) dX8_isCell_11 rfl (fun hc11 => ?_) (fun hc11 => ?_)
  · rw [if_pos hc11] at h
    refine e_iconst dX8_isCell_32 ci_0 ?_
    exact e_iret .boolean dX8_isCell_33 rfl rfl (ret_eq h)
  · rw [if_neg hc11] at h
    refine e_iload_n dX8_isCell_14 rfl ?_
    refine e_iconst dX8_isCell_15 ci_0 ?_
    refine e_aload_n dX8_isCell_16 rfl ?_
    refine cI_go h (fun E14 hc12 hr15 => e_VX [] [.int (0 : Int32), .int a1] dX8_isCell_17 rfl rfl rfl rfl (by decide) (Nat.le_of_ble_eq_true rfl) (by omega) ⟨rfl, hc12⟩ rfl ⟨hr15.symm, rfl⟩) (fun v16 μ13 hc12 h => ?_)
    refine e_VI [] [.int (0 : Int32), .int a1] dX8_isCell_17 rfl rfl rfl rfl (by decide) (Nat.le_of_ble_eq_true rfl) (by omega) ⟨rfl, hc12⟩ ?_
    refine e_iconst dX8_isCell_20 ci_1 ?_
    refine e_isub dX8_isCell_21 ?_
    refine cI_go h (fun E19 hc17 hr20 => e_SX [.int a1, .int (0 : Int32), .int (v16 - (1 : Int32))] [] dX8_isCell_22 rfl (by decide) rfl rfl (Nat.le_of_ble_eq_true rfl) (by omega) ⟨a1, (0 : Int32), v16 - (1 : Int32), rfl, hc17⟩ rfl ⟨hr20.symm, rfl⟩) (fun v21 μ18 hc17 h => ?_)
    refine e_SI [.int a1, .int (0 : Int32), .int (v16 - (1 : Int32))] [] dX8_isCell_22 rfl (by decide) rfl rfl (Nat.le_of_ble_eq_true rfl) (by omega) ⟨a1, (0 : Int32), v16 - (1 : Int32), rfl, hc17⟩ ?_
    refine e_if_eq (tgt := 32) dX8_isCell_25 rfl (fun hc22 => ?_) (fun hc22 => ?_)
    · rw [if_pos hc22] at h
      refine e_iconst dX8_isCell_32 ci_0 ?_
      exact e_iret .boolean dX8_isCell_33 rfl rfl (ret_eq h)
    · rw [if_neg hc22] at h
      refine e_iconst dX8_isCell_28 ci_1 ?_
      refine e_goto (tgt := 33) dX8_isCell_29 rfl ?_
      exact e_iret .boolean dX8_isCell_33 rfl rfl (ret_eq h)
set_option maxRecDepth 20000 in
theorem ok_X8_isCell (l : Launch) (hl : l.stackTraces = false) : MOK l yX8_isCell.cls 2 22 mX8_isCell := ⟨lk_all (List.forall_mem_cons.mpr ⟨⟨yX8_rows, cX8_rows, 1, (some .int), 1, 0, by decide, by decide, t_1 7 rfl rfl, hd_X8_rows, Or.inr (Or.inl ⟨rfl, sc_X8_rows l hl, t_5 45 rfl rfl, t_5 42 rfl rfl, t_5 44 rfl rfl, _, rfl, t_p 35 rfl⟩)⟩, List.forall_mem_cons.mpr ⟨⟨yX8_in, cX8_in, 3, (some .boolean), 1, 0, by decide, by decide, t_1 7 rfl rfl, hd_X8_in, Or.inl ⟨rfl, sc_X8_in l hl, t_5 18 rfl rfl, t_5 16 rfl rfl, t_5 17 rfl rfl⟩⟩, List.forall_mem_cons.mpr ⟨⟨yX8_columns, cX8_columns, 1, (some .int), 1, 0, by decide, by decide, t_1 7 rfl rfl, hd_X8_columns, Or.inr (Or.inl ⟨rfl, sc_X8_columns l hl, t_5 49 rfl rfl, t_5 46 rfl rfl, t_5 48 rfl rfl, _, rfl, t_p 36 rfl⟩)⟩, nil_all⟩⟩⟩), fun ix ci j h => lk_all (P := fun ix q => FldOK yX8_isCell.cls ix q.1 q.2) (nil_all) ix (ci, j) h, lk_all (nil_all), lk_all (nil_all), lk_all (nil_all)⟩
theorem hd_X8_isCell : CallHd yX8_isCell 2 := ⟨by decide +kernel, by decide +kernel, by decide +kernel⟩
theorem sc_X8_isCell (l : Launch) (hl : l.stackTraces = false) : SCon l yX8_isCell cX8_isCell 3 (some .boolean) 2 22 0 Γ_X8_isCell := scon_of mX8_isCell cls_ok hl (by decide +kernel) rfl rfl (ok_X8_isCell l hl) rfl rfl b_X8_isCell
def f_X8_laysHull_65 (k57 : Int32 → Mem → Out) : Nat → Int32 → Int32 → Mem → Out
  | 0, _, _, _ => none
  | n + 1, x1, x2, μ => cI (F_X8_rows μ) (fun v35 μ32 => cI (F_X8_columns μ32) (fun v40 μ37 => if (v35 + v40) ≤ x2 then (k57 x1 μ37) else (cI (F_X8_fillsHull x2 μ37) (fun v46 μ43 => if x1 = 0 then (if v46 = 0 then (lt (x2 + (1 : Int32)) (fun v50 => f_X8_laysHull_65 k57 n (0 : Int32) v50 μ43)) else (lt (x2 + (1 : Int32)) (fun v51 => f_X8_laysHull_65 k57 n (1 : Int32) v51 μ43))) else (lt (x2 + (1 : Int32)) (fun v48 => f_X8_laysHull_65 k57 n (1 : Int32) v48 μ43))))))
def f_X8_laysHull_111 : Nat → Int32 → Int32 → Mem → Out
  | 0, _, _, _ => none
  | n + 1, x2, x3, μ => if (36 : Int32) ≤ x3 then (rI x2 μ) else (ck (inb x3 36) (if (μ.1 36 (Int32.toNatClampNeg x3)) = 0 then (lt (x2 + (0 : Int32)) (fun v27 => lt (x3 + (1 : Int32)) (fun v28 => f_X8_laysHull_111 n v27 v28 μ))) else (lt (x2 + (1 : Int32)) (fun v29 => lt (x3 + (1 : Int32)) (fun v30 => f_X8_laysHull_111 n v29 v30 μ)))))
def f_X8_laysHull_57 : Nat → Int32 → Mem → Out
  | 0, _, _ => none
  | n + 1, x1, μ => if x1 = 0 then (f_X8_laysHull_111 BIG (0 : Int32) (0 : Int32) μ) else (f_X8_laysHull_65 (f_X8_laysHull_57 n) BIG (0 : Int32) (0 : Int32) μ)
def f_X8_laysHull_2 : Nat → Int32 → Mem → Out
  | 0, _, _ => none
  | n + 1, x1, μ => if (36 : Int32) ≤ x1 then (f_X8_laysHull_57 BIG (1 : Int32) μ) else (cI (F_X8_isCell (x1 / (6 : Int32)) (remI x1 (6 : Int32)) μ) (fun v6 μ3 => if v6 = 0 then (ck (inb x1 36) (lt (sI μ3 36 (Int32.toNatClampNeg x1) (vp_nar .boolean (0 : Int32))) (fun μ9 => lt (x1 + (1 : Int32)) (fun v10 => f_X8_laysHull_2 n v10 μ9)))) else (cI (F_X8_isFilled (x1 / (6 : Int32)) (remI x1 (6 : Int32)) μ3) (fun v15 μ12 => if v15 = 0 then (ck (inb x1 36) (lt (sI μ12 36 (Int32.toNatClampNeg x1) (vp_nar .boolean (0 : Int32))) (fun μ18 => lt (x1 + (1 : Int32)) (fun v19 => f_X8_laysHull_2 n v19 μ18)))) else (ck (inb x1 36) (lt (sI μ12 36 (Int32.toNatClampNeg x1) (vp_nar .boolean (1 : Int32))) (fun μ21 => lt (x1 + (1 : Int32)) (fun v22 => f_X8_laysHull_2 n v22 μ21))))))))
def F_X8_laysHull (μ : Mem) : Out := f_X8_laysHull_2 BIG (0 : Int32) μ
def Γ_X8_laysHull : Gam := fun as μ r μ' => as = [.ref 29] ∧ F_X8_laysHull μ = some (r, μ')
def mX8_laysHull : MI := (cX8_laysHull, [(76, (1, 0, 0, 6, Γ_X8_rows)), (84, (1, 0, 0, 6, Γ_X8_columns)), (98, (1, 2, 0, 6, Γ_X8_isFilled)), (127, (1, 2, 0, 6, Γ_X8_isCell)), (142, (1, 1, 0, 6, Γ_X8_fillsHull))], [(28, 6, 10)], [], [], [], [], none, (some .int))
set_option maxHeartbeats 4000000 in
theorem g_X8_laysHull_65 {r : Res} {μ' : Mem} {k57 : Int32 → Mem → Out} (hk57 : ∀ (x1 : Int32), ∀ (μ : Mem) (b : Nat), 0 ≤ b → k57 x1 μ = some (r, μ') → G mX8_laysHull (Qe r μ') 57 [some (.ref 29), some (.int x1), none, none] [] μ b) : ∀ n : Nat, ∀ (x1 : Int32) (x2 : Int32), ∀ (μ : Mem) (b : Nat), 0 ≤ b → f_X8_laysHull_65 k57 n x1 x2 μ = some (r, μ') → G mX8_laysHull (Qe r μ') 65 [some (.ref 29), some (.int x1), some (.int x2), none] [] μ b := by
  intro n
  induction n with
  | zero => intro x1 x2 μ b hb9 h; exact nomatch (show (none : Out) = some _ from h)
  | succ n ih =>
    intro x1 x2 μ b hb9 h
    rw [f_X8_laysHull_65.eq_2] at h
    refine e_iload_n dX8_laysHull_65 rfl ?_
    refine e_aload_n dX8_laysHull_66 rfl ?_
    refine cI_go h (fun E33 hc31 hr34 => e_VX [] [.int x2] dX8_laysHull_67 rfl rfl rfl rfl (by decide) (Nat.le_of_ble_eq_true rfl) (by omega) ⟨rfl, hc31⟩ rfl ⟨hr34.symm, rfl⟩) (fun v35 μ32 hc31 h => ?_)
    refine e_VI [] [.int x2] dX8_laysHull_67 rfl rfl rfl rfl (by decide) (Nat.le_of_ble_eq_true rfl) (by omega) ⟨rfl, hc31⟩ ?_
    refine e_aload_n dX8_laysHull_70 rfl ?_
    refine cI_go h (fun E38 hc36 hr39 => e_VX [] [.int v35, .int x2] dX8_laysHull_71 rfl rfl rfl rfl (by decide) (Nat.le_of_ble_eq_true rfl) (by omega) ⟨rfl, hc36⟩ rfl ⟨hr39.symm, rfl⟩) (fun v40 μ37 hc36 h => ?_)
    refine e_VI [] [.int v35, .int x2] dX8_laysHull_71 rfl rfl rfl rfl (by decide) (Nat.le_of_ble_eq_true rfl) (by omega) ⟨rfl, hc36⟩ ?_
    refine e_iadd dX8_laysHull_74 ?_
    refine e_ic_ge (tgt := 104) dX8_laysHull_75 rfl (fun hc41 => ?_) (fun hc41 => ?_)
    · rw [if_pos hc41] at h
      refine e_goto (tgt := 57) dX8_laysHull_104 rfl ?_
      exact e_le (hk57 x1 μ37 _ (by omega) h) ⟨rfl, rfl, trivial⟩
    · rw [if_neg hc41] at h
      refine e_aload_n dX8_laysHull_78 rfl ?_
      refine e_iload_n dX8_laysHull_79 rfl ?_
      refine cI_go h (fun E44 hc42 hr45 => e_VX [.int x2] [] dX8_laysHull_80 rfl rfl rfl rfl (by decide) (Nat.le_of_ble_eq_true rfl) (by omega) ⟨x2, rfl, hc42⟩ rfl ⟨hr45.symm, rfl⟩) (fun v46 μ43 hc42 h => ?_)
      refine e_VI [.int x2] [] dX8_laysHull_80 rfl rfl rfl rfl (by decide) (Nat.le_of_ble_eq_true rfl) (by omega) ⟨x2, rfl, hc42⟩ ?_
      refine e_istore_nL [some (.ref 29), some (.int x1), some (.int x2), some (.int v46)] dX8_laysHull_83 (Nat.le_of_ble_eq_true rfl) rfl ?_
      refine e_iload_n dX8_laysHull_84 rfl ?_
      refine e_if_ne (tgt := 92) dX8_laysHull_85 rfl (fun hc47 => ?_) (fun hc47 => ?_)
      · rw [if_neg hc47] at h
        refine e_iconst dX8_laysHull_92 ci_1 ?_
        refine e_goto (tgt := 97) dX8_laysHull_93 rfl ?_
        refine e_istore_nL [some (.ref 29), some (.int (1 : Int32)), some (.int x2), some (.int v46)] dX8_laysHull_97 (Nat.le_of_ble_eq_true rfl) rfl ?_
        refine e_iincN 2 (1 : Int32) dX8_laysHull_98 rfl ci_1 h (fun y9 => [some (.ref 29), some (.int (1 : Int32)), some (.int y9), some (.int v46)]) (fun _ => rfl) (fun v48 ev48 h => ?_)
        refine e_goto (tgt := 65) dX8_laysHull_101 rfl ?_
        exact e_le (ih (1 : Int32) v48 μ43 _ (by omega) h) ⟨rfl, rfl, rfl, trivial⟩
      · rw [if_pos hc47] at h
        refine e_iload_n dX8_laysHull_88 rfl ?_
        refine e_if_eq (tgt := 96) dX8_laysHull_89 rfl (fun hc49 => ?_) (fun hc49 => ?_)
        · rw [if_pos hc49] at h
          refine e_iconst dX8_laysHull_96 ci_0 ?_
          refine e_istore_nL [some (.ref 29), some (.int (0 : Int32)), some (.int x2), some (.int v46)] dX8_laysHull_97 (Nat.le_of_ble_eq_true rfl) rfl ?_
          refine e_iincN 2 (1 : Int32) dX8_laysHull_98 rfl ci_1 h (fun y9 => [some (.ref 29), some (.int (0 : Int32)), some (.int y9), some (.int v46)]) (fun _ => rfl) (fun v50 ev50 h => ?_)
          refine e_goto (tgt := 65) dX8_laysHull_101 rfl ?_
          exact e_le (ih (0 : Int32) v50 μ43 _ (by omega) h) ⟨rfl, rfl, rfl, trivial⟩
        · rw [if_neg hc49] at h
          refine e_iconst dX8_laysHull_92 ci_1 ?_
          refine e_goto (tgt := 97) dX8_laysHull_93 rfl ?_
          refine e_istore_nL [some (.ref 29), some (.int (1 : Int32)), some (.int x2), some (.int v46)] dX8_laysHull_97 (Nat.le_of_ble_eq_true rfl) rfl ?_
          refine e_iincN 2 (1 : Int32) dX8_laysHull_98 rfl ci_1 h (fun y9 => [some (.ref 29), some (.int (1 : Int32)), some (.int y9), some (.int v46)]) (fun _ => rfl) (fun v51 ev51 h => ?_)
          refine e_goto (tgt := 65) dX8_laysHull_101 rfl ?_
          exact e_le (ih (1 : Int32) v51 μ43 _ (by omega) h) ⟨rfl, rfl, rfl, trivial⟩
set_option maxHeartbeats 4000000 in
theorem g_X8_laysHull_111 {r : Res} {μ' : Mem} : ∀ n : Nat, ∀ (x2 : Int32) (x3 : Int32), ∀ (μ : Mem) (b : Nat), 0 ≤ b → f_X8_laysHull_111 n x2 x3 μ = some (r, μ') → G mX8_laysHull (Qe r μ') 111 [some (.ref 29), none, some (.int x2), some (.int x3)] [] μ b := by
  intro n
  induction n with
  | zero => intro x2 x3 μ b hb9 h; exact nomatch (show (none : Out) = some _ from h)
  | succ n ih =>
    intro x2 x3 μ b hb9 h
    rw [f_X8_laysHull_111.eq_2] at h
    refine e_iload_n dX8_laysHull_111 rfl ?_
    refine e_bipush dX8_laysHull_112 cb_36 ?_
    refine e_ic_ge (tgt := 140) dX8_laysHull_114 rfl (fun hc24 => ?_) (fun hc24 => ?_)
    · rw [if_pos hc24] at h
      refine e_iload_n dX8_laysHull_140 rfl ?_
      exact e_iret .int dX8_laysHull_141 rfl rfl (ret_eq h)
    · rw [if_neg hc24] at h
      refine e_iload_n dX8_laysHull_117 rfl ?_
      refine e_aload_n dX8_laysHull_118 rfl ?_
      refine e_get (ci := 6) (j := 10) (t := 2) (v := .ref 36) dX8_laysHull_119 rfl (by decide) rfl rfl rfl ?_
      refine e_iload_n dX8_laysHull_122 rfl ?_
      obtain ⟨hc25, h⟩ := ck_eq h
      refine e_baload (n := 36) dX8_laysHull_123 (by decide) rfl hc25 ?_
      refine e_if_eq (tgt := 131) dX8_laysHull_124 rfl (fun hc26 => ?_) (fun hc26 => ?_)
      · rw [if_pos hc26] at h
        refine e_iconst dX8_laysHull_131 ci_0 ?_
        refine e_iadd dX8_laysHull_132 ?_
        refine e_naI h (fun v27 ev27 h => ?_)
        refine e_istore_nL [some (.ref 29), none, some (.int v27), some (.int x3)] dX8_laysHull_133 (Nat.le_of_ble_eq_true rfl) rfl ?_
        refine e_iincN 3 (1 : Int32) dX8_laysHull_134 rfl ci_1 h (fun y9 => [some (.ref 29), none, some (.int v27), some (.int y9)]) (fun _ => rfl) (fun v28 ev28 h => ?_)
        refine e_goto (tgt := 111) dX8_laysHull_137 rfl ?_
        exact e_le (ih v27 v28 μ _ (by omega) h) ⟨rfl, rfl, rfl, trivial⟩
      · rw [if_neg hc26] at h
        refine e_iconst dX8_laysHull_127 ci_1 ?_
        refine e_goto (tgt := 132) dX8_laysHull_128 rfl ?_
        refine e_iadd dX8_laysHull_132 ?_
        refine e_naI h (fun v29 ev29 h => ?_)
        refine e_istore_nL [some (.ref 29), none, some (.int v29), some (.int x3)] dX8_laysHull_133 (Nat.le_of_ble_eq_true rfl) rfl ?_
        refine e_iincN 3 (1 : Int32) dX8_laysHull_134 rfl ci_1 h (fun y9 => [some (.ref 29), none, some (.int v29), some (.int y9)]) (fun _ => rfl) (fun v30 ev30 h => ?_)
        refine e_goto (tgt := 111) dX8_laysHull_137 rfl ?_
        exact e_le (ih v29 v30 μ _ (by omega) h) ⟨rfl, rfl, rfl, trivial⟩
set_option maxHeartbeats 4000000 in
theorem g_X8_laysHull_57 {r : Res} {μ' : Mem} : ∀ n : Nat, ∀ (x1 : Int32), ∀ (μ : Mem) (b : Nat), 0 ≤ b → f_X8_laysHull_57 n x1 μ = some (r, μ') → G mX8_laysHull (Qe r μ') 57 [some (.ref 29), some (.int x1), none, none] [] μ b := by
  intro n
  induction n with
  | zero => intro x1 μ b hb9 h; exact nomatch (show (none : Out) = some _ from h)
  | succ n ih =>
    intro x1 μ b hb9 h
    rw [f_X8_laysHull_57.eq_2] at h
    refine e_iload_n dX8_laysHull_57 rfl ?_
    refine e_if_eq (tgt := 107) dX8_laysHull_58 rfl (fun hc23 => ?_) (fun hc23 => ?_)
    · rw [if_pos hc23] at h
      refine e_iconst dX8_laysHull_107 ci_0 ?_
      refine e_istore_nL [some (.ref 29), some (.int x1), some (.int (0 : Int32)), none] dX8_laysHull_108 (Nat.le_of_ble_eq_true rfl) rfl ?_
      refine e_iconst dX8_laysHull_109 ci_0 ?_
      refine e_istore_nL [some (.ref 29), some (.int x1), some (.int (0 : Int32)), some (.int (0 : Int32))] dX8_laysHull_110 (Nat.le_of_ble_eq_true rfl) rfl ?_
      exact e_le (g_X8_laysHull_111 BIG (0 : Int32) (0 : Int32) μ _ (by omega) h) ⟨rfl, rfl, rfl, trivial⟩
    · rw [if_neg hc23] at h
      refine e_iconst dX8_laysHull_61 ci_0 ?_
      refine e_istore_nL [some (.ref 29), some (.int (0 : Int32)), none, none] dX8_laysHull_62 (Nat.le_of_ble_eq_true rfl) rfl ?_
      refine e_iconst dX8_laysHull_63 ci_0 ?_
      refine e_istore_nL [some (.ref 29), some (.int (0 : Int32)), some (.int (0 : Int32)), none] dX8_laysHull_64 (Nat.le_of_ble_eq_true rfl) rfl ?_
      exact e_le (g_X8_laysHull_65 ih BIG (0 : Int32) (0 : Int32) μ _ (by omega) h) ⟨rfl, rfl, rfl, trivial⟩
set_option maxHeartbeats 4000000 in
theorem g_X8_laysHull_2 {r : Res} {μ' : Mem} : ∀ n : Nat, ∀ (x1 : Int32), ∀ (μ : Mem) (b : Nat), 0 ≤ b → f_X8_laysHull_2 n x1 μ = some (r, μ') → G mX8_laysHull (Qe r μ') 2 [some (.ref 29), some (.int x1), none, none] [] μ b := by
  intro n
  induction n with
  | zero => intro x1 μ b hb9 h; exact nomatch (show (none : Out) = some _ from h)
  | succ n ih =>
    intro x1 μ b hb9 h
    rw [f_X8_laysHull_2.eq_2] at h
    refine e_iload_n dX8_laysHull_2 rfl ?_
    refine e_bipush dX8_laysHull_3 cb_36 ?_
    refine e_ic_ge (tgt := 55) dX8_laysHull_5 rfl (fun hc1 => ?_) (fun hc1 => ?_)
    · rw [if_pos hc1] at h
      refine e_iconst dX8_laysHull_55 ci_1 ?_
      refine e_istore_nL [some (.ref 29), some (.int (1 : Int32)), none, none] dX8_laysHull_56 (Nat.le_of_ble_eq_true rfl) rfl ?_
      exact e_le (g_X8_laysHull_57 BIG (1 : Int32) μ _ (by omega) h) ⟨rfl, rfl, trivial⟩
    · rw [if_neg hc1] at h
      refine e_aload_n dX8_laysHull_8 rfl ?_
      refine e_get (ci := 6) (j := 10) (t := 2) (v := .ref 36) dX8_laysHull_9 rfl (by decide) rfl rfl rfl ?_
      refine e_iload_n dX8_laysHull_12 rfl ?_
      refine e_aload_n dX8_laysHull_13 rfl ?_
      refine e_iload_n dX8_laysHull_14 rfl ?_
      refine e_bipush dX8_laysHull_15 cb_6 ?_
      refine e_idiv dX8_laysHull_17 (by decide) ?_
      refine e_iload_n dX8_laysHull_18 rfl ?_
      refine e_bipush dX8_laysHull_19 cb_6 ?_
      refine e_irem dX8_laysHull_21 (by decide) ?_
      refine cI_go h (fun E4 hc2 hr5 => e_VX [.int (x1 / (6 : Int32)), .int (remI x1 (6 : Int32))] [.int x1, .ref 36] dX8_laysHull_22 rfl rfl rfl rfl (by decide) (Nat.le_of_ble_eq_true rfl) (by omega) ⟨x1 / (6 : Int32), remI x1 (6 : Int32), rfl, hc2⟩ rfl ⟨hr5.symm, rfl⟩) (fun v6 μ3 hc2 h => ?_)
      refine e_VI [.int (x1 / (6 : Int32)), .int (remI x1 (6 : Int32))] [.int x1, .ref 36] dX8_laysHull_22 rfl rfl rfl rfl (by decide) (Nat.le_of_ble_eq_true rfl) (by omega) ⟨x1 / (6 : Int32), remI x1 (6 : Int32), rfl, hc2⟩ ?_
      refine e_if_eq (tgt := 47) dX8_laysHull_25 rfl (fun hc7 => ?_) (fun hc7 => ?_)
      · rw [if_pos hc7] at h
        refine e_iconst dX8_laysHull_47 ci_0 ?_
        obtain ⟨hc8, h⟩ := ck_eq h
        refine e_bastore (n := 36) dX8_laysHull_48 (by decide) rfl hc8 ?_
        refine e_naM (e := sI μ3 36 (Int32.toNatClampNeg x1) (vp_nar .boolean (0 : Int32))) h (fun μ9 eμ9 h => ?_)
        refine e_iincN 1 (1 : Int32) dX8_laysHull_49 rfl ci_1 h (fun y9 => [some (.ref 29), some (.int y9), none, none]) (fun _ => rfl) (fun v10 ev10 h => ?_)
        refine e_goto (tgt := 2) dX8_laysHull_52 rfl ?_
        exact e_le (ih v10 μ9 _ (by omega) h) ⟨rfl, rfl, trivial⟩
      · rw [if_neg hc7] at h
        refine e_aload_n dX8_laysHull_28 rfl ?_
        refine e_iload_n dX8_laysHull_29 rfl ?_
        refine e_bipush dX8_laysHull_30 cb_6 ?_
        refine e_idiv dX8_laysHull_32 (by decide) ?_
        refine e_iload_n dX8_laysHull_33 rfl ?_
        refine e_bipush dX8_laysHull_34 cb_6 ?_
        refine e_irem dX8_laysHull_36 (by decide) ?_
        refine cI_go h (fun E13 hc11 hr14 => e_VX [.int (x1 / (6 : Int32)), .int (remI x1 (6 : Int32))] [.int x1, .ref 36] dX8_laysHull_37 rfl rfl rfl rfl (by decide) (Nat.le_of_ble_eq_true rfl) (by omega) ⟨x1 / (6 : Int32), remI x1 (6 : Int32), rfl, hc11⟩ rfl ⟨hr14.symm, rfl⟩) (fun v15 μ12 hc11 h => ?_)
        refine e_VI [.int (x1 / (6 : Int32)), .int (remI x1 (6 : Int32))] [.int x1, .ref 36] dX8_laysHull_37 rfl rfl rfl rfl (by decide) (Nat.le_of_ble_eq_true rfl) (by omega) ⟨x1 / (6 : Int32), remI x1 (6 : Int32), rfl, hc11⟩ ?_
        refine e_if_eq (tgt := 47) dX8_laysHull_40 rfl (fun hc16 => ?_) (fun hc16 => ?_)
        · rw [if_pos hc16] at h
          refine e_iconst dX8_laysHull_47 ci_0 ?_
          obtain ⟨hc17, h⟩ := ck_eq h
          refine e_bastore (n := 36) dX8_laysHull_48 (by decide) rfl hc17 ?_
          refine e_naM (e := sI μ12 36 (Int32.toNatClampNeg x1) (vp_nar .boolean (0 : Int32))) h (fun μ18 eμ18 h => ?_)
          refine e_iincN 1 (1 : Int32) dX8_laysHull_49 rfl ci_1 h (fun y9 => [some (.ref 29), some (.int y9), none, none]) (fun _ => rfl) (fun v19 ev19 h => ?_)
          refine e_goto (tgt := 2) dX8_laysHull_52 rfl ?_
          exact e_le (ih v19 μ18 _ (by omega) h) ⟨rfl, rfl, trivial⟩
        · rw [if_neg hc16] at h
          refine e_iconst dX8_laysHull_43 ci_1 ?_
          refine e_goto (tgt := 48) dX8_laysHull_44 rfl ?_
          obtain ⟨hc20, h⟩ := ck_eq h
          refine e_bastore (n := 36) dX8_laysHull_48 (by decide) rfl hc20 ?_
          refine e_naM (e := sI μ12 36 (Int32.toNatClampNeg x1) (vp_nar .boolean (1 : Int32))) h (fun μ21 eμ21 h => ?_)
          refine e_iincN 1 (1 : Int32) dX8_laysHull_49 rfl ci_1 h (fun y9 => [some (.ref 29), some (.int y9), none, none]) (fun _ => rfl) (fun v22 ev22 h => ?_)
          refine e_goto (tgt := 2) dX8_laysHull_52 rfl ?_
          exact e_le (ih v22 μ21 _ (by omega) h) ⟨rfl, rfl, trivial⟩
set_option maxHeartbeats 4000000 in
theorem b_X8_laysHull : ∀ as μ r μ', Γ_X8_laysHull as μ r μ' → (elvL as).length ≤ 4 ∧ G mX8_laysHull (Qe r μ') 0 (elv as 4) [] μ 0 := by
  intro as μ r μ' h
  obtain ⟨rfl, h⟩ := h
  refine ⟨Nat.le_of_ble_eq_true rfl, ?_⟩
  show G mX8_laysHull (Qe r μ') 0 [some (.ref 29), none, none, none] [] μ 0
  unfold F_X8_laysHull at h
  have hb9 : 0 ≤ 0 := Nat.le_refl _
  refine e_iconst dX8_laysHull_0 ci_0 ?_
  refine e_istore_nL [some (.ref 29), some (.int (0 : Int32)), none, none] dX8_laysHull_1 (Nat.le_of_ble_eq_true rfl) rfl ?_
  exact e_le (g_X8_laysHull_2 BIG (0 : Int32) μ _ (by omega) h) ⟨rfl, rfl, trivial⟩
set_option maxRecDepth 20000 in
theorem ok_X8_laysHull (l : Launch) (hl : l.stackTraces = false) : MOK l yX8_laysHull.cls 4 68 mX8_laysHull := ⟨lk_all (List.forall_mem_cons.mpr ⟨⟨yX8_rows, cX8_rows, 1, (some .int), 1, 0, by decide, by decide, t_1 7 rfl rfl, hd_X8_rows, Or.inr (Or.inl ⟨rfl, sc_X8_rows l hl, t_5 45 rfl rfl, t_5 42 rfl rfl, t_5 44 rfl rfl, _, rfl, t_p 35 rfl⟩)⟩, List.forall_mem_cons.mpr ⟨⟨yX8_columns, cX8_columns, 1, (some .int), 1, 0, by decide, by decide, t_1 7 rfl rfl, hd_X8_columns, Or.inr (Or.inl ⟨rfl, sc_X8_columns l hl, t_5 49 rfl rfl, t_5 46 rfl rfl, t_5 48 rfl rfl, _, rfl, t_p 36 rfl⟩)⟩, List.forall_mem_cons.mpr ⟨⟨yX8_isFilled, cX8_isFilled, 3, (some .boolean), 1, 0, by decide, by decide, t_1 7 rfl rfl, hd_X8_isFilled, Or.inr (Or.inl ⟨rfl, sc_X8_isFilled l hl, t_5 73 rfl rfl, t_5 70 rfl rfl, t_5 72 rfl rfl, _, rfl, t_p 42 rfl⟩)⟩, List.forall_mem_cons.mpr ⟨⟨yX8_isCell, cX8_isCell, 3, (some .boolean), 2, 22, by decide, by decide, t_1 7 rfl rfl, hd_X8_isCell, Or.inr (Or.inl ⟨rfl, sc_X8_isCell l hl, t_5 105 rfl rfl, t_5 102 rfl rfl, t_5 104 rfl rfl, _, rfl, t_p 49 rfl⟩)⟩, List.forall_mem_cons.mpr ⟨⟨yX8_fillsHull, cX8_fillsHull, 7, (some .boolean), 3, 42, by decide, by decide, t_1 7 rfl rfl, hd_X8_fillsHull, Or.inr (Or.inl ⟨rfl, sc_X8_fillsHull l hl, t_5 133 rfl rfl, t_5 130 rfl rfl, t_5 132 rfl rfl, _, rfl, t_p 56 rfl⟩)⟩, nil_all⟩⟩⟩⟩⟩), fun ix ci j h => lk_all (P := fun ix q => FldOK yX8_laysHull.cls ix q.1 q.2) (List.forall_mem_cons.mpr ⟨⟨_, rfl, by decide, t_4 188 rfl rfl⟩, nil_all⟩) ix (ci, j) h, lk_all (nil_all), lk_all (nil_all), lk_all (nil_all)⟩
theorem hd_X8_laysHull : CallHd yX8_laysHull 0 := ⟨by decide +kernel, by decide +kernel, by decide +kernel⟩
theorem sc_X8_laysHull (l : Launch) (hl : l.stackTraces = false) : SCon l yX8_laysHull cX8_laysHull 4 (some .int) 4 68 0 Γ_X8_laysHull := scon_of mX8_laysHull cls_ok hl (by decide +kernel) rfl rfl (ok_X8_laysHull l hl) rfl rfl b_X8_laysHull
def F_X8_pieceAt (a0 : Int32) (a1 : Int32) (μ : Mem) : Out := cI (F_X8_isCell a0 a1 μ) (fun v5 μ2 => if v5 = 0 then (rI (-9 : Int32) μ2) else (ck (inb (((6 : Int32) * a0) + a1) 36) (rI (μ2.1 35 (Int32.toNatClampNeg (((6 : Int32) * a0) + a1))) μ2)))
def Γ_X8_pieceAt : Gam := fun as μ r μ' => ∃ (a0 : Int32) (a1 : Int32), as = [.ref 29, .int a0, .int a1] ∧ F_X8_pieceAt a0 a1 μ = some (r, μ')
def mX8_pieceAt : MI := (cX8_pieceAt, [(127, (1, 2, 0, 6, Γ_X8_isCell))], [(25, 6, 9)], [], [], [], [], none, (some .int))
set_option maxHeartbeats 4000000 in
theorem b_X8_pieceAt : ∀ as μ r μ', Γ_X8_pieceAt as μ r μ' → (elvL as).length ≤ 3 ∧ G mX8_pieceAt (Qe r μ') 0 (elv as 3) [] μ 0 := by
  intro as μ r μ' h
  obtain ⟨a0, a1, rfl, h⟩ := h
  refine ⟨Nat.le_of_ble_eq_true rfl, ?_⟩
  show G mX8_pieceAt (Qe r μ') 0 [some (.ref 29), some (.int a0), some (.int a1)] [] μ 0
  unfold F_X8_pieceAt at h
  have hb9 : 0 ≤ 0 := Nat.le_refl _
  refine e_aload_n dX8_pieceAt_0 rfl ?_
  refine e_iload_n dX8_pieceAt_1 rfl ?_
  refine e_iload_n dX8_pieceAt_2 rfl ?_
  refine cI_go h (fun E3 hc1 hr4 => e_VX [.int a0, .int a1] [] dX8_pieceAt_3 rfl rfl rfl rfl (by decide) (Nat.le_of_ble_eq_true rfl) (by omega) ⟨a0, a1, rfl, hc1⟩ rfl ⟨hr4.symm, rfl⟩) (fun v5 μ2 hc1 h => ?_)
  refine e_VI [.int a0, .int a1] [] dX8_pieceAt_3 rfl rfl rfl rfl (by decide) (Nat.le_of_ble_eq_true rfl) (by omega) ⟨a0, a1, rfl, hc1⟩ ?_
  refine e_if_eq (tgt := 23) dX8_pieceAt_6 rfl (fun hc6 => ?_) (fun hc6 => ?_)
  · rw [if_pos hc6] at h
    refine e_bipush dX8_pieceAt_23 cb_m9 ?_
    exact e_iret .int dX8_pieceAt_25 rfl rfl (ret_eq h)
  · rw [if_neg hc6] at h
    refine e_aload_n dX8_pieceAt_9 rfl ?_
    refine e_get (ci := 6) (j := 9) (t := 2) (v := .ref 35) dX8_pieceAt_10 rfl (by decide) rfl rfl rfl ?_
    refine e_bipush dX8_pieceAt_13 cb_6 ?_
    refine e_iload_n dX8_pieceAt_15 rfl ?_
    refine e_imul dX8_pieceAt_16 ?_
    refine e_iload_n dX8_pieceAt_17 rfl ?_
    refine e_iadd dX8_pieceAt_18 ?_
    obtain ⟨hc7, h⟩ := ck_eq h
    refine e_ialoadL (μ2.1 35 (Int32.toNatClampNeg (((6 : Int32) * a0) + a1))) (n := 36) dX8_pieceAt_19 (by decide) rfl hc7 rfl ?_
    refine e_goto (tgt := 25) dX8_pieceAt_20 rfl ?_
    exact e_iret .int dX8_pieceAt_25 rfl rfl (ret_eq h)
set_option maxRecDepth 20000 in
theorem ok_X8_pieceAt (l : Launch) (hl : l.stackTraces = false) : MOK l yX8_pieceAt.cls 3 44 mX8_pieceAt := ⟨lk_all (List.forall_mem_cons.mpr ⟨⟨yX8_isCell, cX8_isCell, 3, (some .boolean), 2, 22, by decide, by decide, t_1 7 rfl rfl, hd_X8_isCell, Or.inr (Or.inl ⟨rfl, sc_X8_isCell l hl, t_5 105 rfl rfl, t_5 102 rfl rfl, t_5 104 rfl rfl, _, rfl, t_p 49 rfl⟩)⟩, nil_all⟩), fun ix ci j h => lk_all (P := fun ix q => FldOK yX8_pieceAt.cls ix q.1 q.2) (List.forall_mem_cons.mpr ⟨⟨_, rfl, by decide, t_4 187 rfl rfl⟩, nil_all⟩) ix (ci, j) h, lk_all (nil_all), lk_all (nil_all), lk_all (nil_all)⟩
theorem hd_X8_pieceAt : CallHd yX8_pieceAt 2 := ⟨by decide +kernel, by decide +kernel, by decide +kernel⟩
theorem sc_X8_pieceAt (l : Launch) (hl : l.stackTraces = false) : SCon l yX8_pieceAt cX8_pieceAt 3 (some .int) 3 44 0 Γ_X8_pieceAt := scon_of mX8_pieceAt cls_ok hl (by decide +kernel) rfl rfl (ok_X8_pieceAt l hl) rfl rfl b_X8_pieceAt
def f_X8_spreads_123 (k4 : Int32 → Int32 → Int32 → Mem → Out) (x1 : Int32) (x2 : Int32) (x3 : Int32) (x6 : Int32) (s0 : Int32) (μ : Mem) : Out := if x6 = 0 then (lt (x3 + (1 : Int32)) (fun v44 => k4 x1 x2 v44 μ)) else (if s0 = 0 then (lt (x3 + (1 : Int32)) (fun v46 => k4 x1 x2 v46 μ)) else (ck (inb x3 36) (lt (sI μ 35 (Int32.toNatClampNeg x3) x1) (fun μ48 => lt (x3 + (1 : Int32)) (fun v49 => k4 x1 (1 : Int32) v49 μ48)))))
def f_X8_spreads_60 (k4 : Int32 → Int32 → Int32 → Mem → Out) (x1 : Int32) (x2 : Int32) (x3 : Int32) (x4 : Int32) (x5 : Int32) (s0 : Int32) (μ : Mem) : Out := cI (F_X8_pieceAt (x4 - (1 : Int32)) x5 μ) (fun v23 μ20 => if v23 = x1 then (f_X8_spreads_123 k4 x1 x2 x3 s0 (1 : Int32) μ20) else (cI (F_X8_pieceAt (x4 + (1 : Int32)) x5 μ20) (fun v29 μ26 => if v29 = x1 then (f_X8_spreads_123 k4 x1 x2 x3 s0 (1 : Int32) μ26) else (cI (F_X8_pieceAt x4 (x5 - (1 : Int32)) μ26) (fun v35 μ32 => if v35 = x1 then (f_X8_spreads_123 k4 x1 x2 x3 s0 (1 : Int32) μ32) else (cI (F_X8_pieceAt x4 (x5 + (1 : Int32)) μ32) (fun v41 μ38 => if v41 = x1 then (f_X8_spreads_123 k4 x1 x2 x3 s0 (1 : Int32) μ38) else (f_X8_spreads_123 k4 x1 x2 x3 s0 (0 : Int32) μ38))))))))
def f_X8_spreads_4 : Nat → Int32 → Int32 → Int32 → Mem → Out
  | 0, _, _, _, _ => none
  | n + 1, x1, x2, x3, μ => if (36 : Int32) ≤ x3 then (ck (nz x2) (rI x2 μ)) else (lt (x3 / (6 : Int32)) (fun v3 => lt (remI x3 (6 : Int32)) (fun v4 => cI (F_X8_isCell v3 v4 μ) (fun v9 μ6 => if v9 = 0 then (f_X8_spreads_60 (f_X8_spreads_4 n) x1 x2 x3 v3 v4 (0 : Int32) μ6) else (cI (F_X8_isFilled v3 v4 μ6) (fun v15 μ12 => if v15 = 0 then (f_X8_spreads_60 (f_X8_spreads_4 n) x1 x2 x3 v3 v4 (0 : Int32) μ12) else (ck (inb x3 36) (if (μ12.1 35 (Int32.toNatClampNeg x3)) = (-9 : Int32) then (f_X8_spreads_60 (f_X8_spreads_4 n) x1 x2 x3 v3 v4 (1 : Int32) μ12) else (f_X8_spreads_60 (f_X8_spreads_4 n) x1 x2 x3 v3 v4 (0 : Int32) μ12)))))))))
def F_X8_spreads (a0 : Int32) (μ : Mem) : Out := f_X8_spreads_4 BIG a0 (0 : Int32) (0 : Int32) μ
def Γ_X8_spreads : Gam := fun as μ r μ' => ∃ (a0 : Int32), as = [.ref 29, .int a0] ∧ F_X8_spreads a0 μ = some (r, μ')
def mX8_spreads : MI := (cX8_spreads, [(98, (1, 2, 0, 6, Γ_X8_isFilled)), (127, (1, 2, 0, 6, Γ_X8_isCell)), (133, (1, 2, 0, 6, Γ_X8_pieceAt))], [(25, 6, 9)], [], [], [], [], none, (some .boolean))
set_option maxHeartbeats 4000000 in
theorem g_X8_spreads_123 {r : Res} {μ' : Mem} {k4 : Int32 → Int32 → Int32 → Mem → Out} (hk4 : ∀ (x1 : Int32) (x2 : Int32) (x3 : Int32), ∀ (μ : Mem) (b : Nat), 0 ≤ b → k4 x1 x2 x3 μ = some (r, μ') → G mX8_spreads (Qe r μ') 4 [some (.ref 29), some (.int x1), some (.int x2), some (.int x3), none, none, none, none] [] μ b) : ∀ (x1 : Int32) (x2 : Int32) (x3 : Int32) (x6 : Int32) (s0 : Int32), ∀ (μ : Mem) (b : Nat), 0 ≤ b → f_X8_spreads_123 k4 x1 x2 x3 x6 s0 μ = some (r, μ') → G mX8_spreads (Qe r μ') 123 [some (.ref 29), some (.int x1), some (.int x2), some (.int x3), none, none, some (.int x6), none] [.int s0] μ b := by
  intro x1 x2 x3 x6 s0 μ b hb9 h
  unfold f_X8_spreads_123 at h
  refine e_istoreL [some (.ref 29), some (.int x1), some (.int x2), some (.int x3), none, none, some (.int x6), some (.int s0)] dX8_spreads_123 (Nat.le_of_ble_eq_true rfl) rfl ?_
  refine e_iload dX8_spreads_125 rfl ?_
  refine e_if_eq (tgt := 144) dX8_spreads_127 rfl (fun hc43 => ?_) (fun hc43 => ?_)
  · rw [if_pos hc43] at h
    refine e_iincN 3 (1 : Int32) dX8_spreads_144 rfl ci_1 h (fun y9 => [some (.ref 29), some (.int x1), some (.int x2), some (.int y9), none, none, some (.int x6), some (.int s0)]) (fun _ => rfl) (fun v44 ev44 h => ?_)
    refine e_goto (tgt := 4) dX8_spreads_147 rfl ?_
    exact e_le (hk4 x1 x2 v44 μ _ (by omega) h) ⟨rfl, rfl, rfl, rfl, trivial⟩
  · rw [if_neg hc43] at h
    refine e_iload dX8_spreads_130 rfl ?_
    refine e_if_eq (tgt := 144) dX8_spreads_132 rfl (fun hc45 => ?_) (fun hc45 => ?_)
    · rw [if_pos hc45] at h
      refine e_iincN 3 (1 : Int32) dX8_spreads_144 rfl ci_1 h (fun y9 => [some (.ref 29), some (.int x1), some (.int x2), some (.int y9), none, none, some (.int x6), some (.int s0)]) (fun _ => rfl) (fun v46 ev46 h => ?_)
      refine e_goto (tgt := 4) dX8_spreads_147 rfl ?_
      exact e_le (hk4 x1 x2 v46 μ _ (by omega) h) ⟨rfl, rfl, rfl, rfl, trivial⟩
    · rw [if_neg hc45] at h
      refine e_aload_n dX8_spreads_135 rfl ?_
      refine e_get (ci := 6) (j := 9) (t := 2) (v := .ref 35) dX8_spreads_136 rfl (by decide) rfl rfl rfl ?_
      refine e_iload_n dX8_spreads_139 rfl ?_
      refine e_iload_n dX8_spreads_140 rfl ?_
      obtain ⟨hc47, h⟩ := ck_eq h
      refine e_iastore (n := 36) dX8_spreads_141 (by decide) rfl hc47 ?_
      refine e_naM (e := sI μ 35 (Int32.toNatClampNeg x3) x1) h (fun μ48 eμ48 h => ?_)
      refine e_iconst dX8_spreads_142 ci_1 ?_
      refine e_istore_nL [some (.ref 29), some (.int x1), some (.int (1 : Int32)), some (.int x3), none, none, some (.int x6), some (.int s0)] dX8_spreads_143 (Nat.le_of_ble_eq_true rfl) rfl ?_
      refine e_iincN 3 (1 : Int32) dX8_spreads_144 rfl ci_1 h (fun y9 => [some (.ref 29), some (.int x1), some (.int (1 : Int32)), some (.int y9), none, none, some (.int x6), some (.int s0)]) (fun _ => rfl) (fun v49 ev49 h => ?_)
      refine e_goto (tgt := 4) dX8_spreads_147 rfl ?_
      exact e_le (hk4 x1 (1 : Int32) v49 μ48 _ (by omega) h) ⟨rfl, rfl, rfl, rfl, trivial⟩
set_option maxHeartbeats 4000000 in
theorem g_X8_spreads_60 {r : Res} {μ' : Mem} {k4 : Int32 → Int32 → Int32 → Mem → Out} (hk4 : ∀ (x1 : Int32) (x2 : Int32) (x3 : Int32), ∀ (μ : Mem) (b : Nat), 0 ≤ b → k4 x1 x2 x3 μ = some (r, μ') → G mX8_spreads (Qe r μ') 4 [some (.ref 29), some (.int x1), some (.int x2), some (.int x3), none, none, none, none] [] μ b) : ∀ (x1 : Int32) (x2 : Int32) (x3 : Int32) (x4 : Int32) (x5 : Int32) (s0 : Int32), ∀ (μ : Mem) (b : Nat), 0 ≤ b → f_X8_spreads_60 k4 x1 x2 x3 x4 x5 s0 μ = some (r, μ') → G mX8_spreads (Qe r μ') 60 [some (.ref 29), some (.int x1), some (.int x2), some (.int x3), some (.int x4), some (.int x5), none, none] [.int s0] μ b := by
  intro x1 x2 x3 x4 x5 s0 μ b hb9 h
  unfold f_X8_spreads_60 at h
  refine e_istoreL [some (.ref 29), some (.int x1), some (.int x2), some (.int x3), some (.int x4), some (.int x5), some (.int s0), none] dX8_spreads_60 (Nat.le_of_ble_eq_true rfl) rfl ?_
  refine e_aload_n dX8_spreads_62 rfl ?_
  refine e_iload dX8_spreads_63 rfl ?_
  refine e_iconst dX8_spreads_65 ci_1 ?_
  refine e_isub dX8_spreads_66 ?_
  refine e_iload dX8_spreads_67 rfl ?_
  refine cI_go h (fun E21 hc19 hr22 => e_VX [.int (x4 - (1 : Int32)), .int x5] [] dX8_spreads_69 rfl rfl rfl rfl (by decide) (Nat.le_of_ble_eq_true rfl) (by omega) ⟨x4 - (1 : Int32), x5, rfl, hc19⟩ rfl ⟨hr22.symm, rfl⟩) (fun v23 μ20 hc19 h => ?_)
  refine e_VI [.int (x4 - (1 : Int32)), .int x5] [] dX8_spreads_69 rfl rfl rfl rfl (by decide) (Nat.le_of_ble_eq_true rfl) (by omega) ⟨x4 - (1 : Int32), x5, rfl, hc19⟩ ?_
  refine e_iload_n dX8_spreads_72 rfl ?_
  refine e_ic_eq (tgt := 118) dX8_spreads_73 rfl (fun hc24 => ?_) (fun hc24 => ?_)
  · rw [if_pos hc24] at h
    refine e_iconst dX8_spreads_118 ci_1 ?_
    refine e_goto (tgt := 123) dX8_spreads_119 rfl ?_
    exact e_le (g_X8_spreads_123 hk4 x1 x2 x3 s0 (1 : Int32) μ20 _ (by omega) h) ⟨rfl, rfl, rfl, rfl, rfl, trivial⟩
  · rw [if_neg hc24] at h
    refine e_aload_n dX8_spreads_76 rfl ?_
    refine e_iload dX8_spreads_77 rfl ?_
    refine e_iconst dX8_spreads_79 ci_1 ?_
    refine e_iadd dX8_spreads_80 ?_
    refine e_iload dX8_spreads_81 rfl ?_
    refine cI_go h (fun E27 hc25 hr28 => e_VX [.int (x4 + (1 : Int32)), .int x5] [] dX8_spreads_83 rfl rfl rfl rfl (by decide) (Nat.le_of_ble_eq_true rfl) (by omega) ⟨x4 + (1 : Int32), x5, rfl, hc25⟩ rfl ⟨hr28.symm, rfl⟩) (fun v29 μ26 hc25 h => ?_)
    refine e_VI [.int (x4 + (1 : Int32)), .int x5] [] dX8_spreads_83 rfl rfl rfl rfl (by decide) (Nat.le_of_ble_eq_true rfl) (by omega) ⟨x4 + (1 : Int32), x5, rfl, hc25⟩ ?_
    refine e_iload_n dX8_spreads_86 rfl ?_
    refine e_ic_eq (tgt := 118) dX8_spreads_87 rfl (fun hc30 => ?_) (fun hc30 => ?_)
    · rw [if_pos hc30] at h
      refine e_iconst dX8_spreads_118 ci_1 ?_
      refine e_goto (tgt := 123) dX8_spreads_119 rfl ?_
      exact e_le (g_X8_spreads_123 hk4 x1 x2 x3 s0 (1 : Int32) μ26 _ (by omega) h) ⟨rfl, rfl, rfl, rfl, rfl, trivial⟩
    · rw [if_neg hc30] at h
      refine e_aload_n dX8_spreads_90 rfl ?_
      refine e_iload dX8_spreads_91 rfl ?_
      refine e_iload dX8_spreads_93 rfl ?_
      refine e_iconst dX8_spreads_95 ci_1 ?_
      refine e_isub dX8_spreads_96 ?_
      refine cI_go h (fun E33 hc31 hr34 => e_VX [.int x4, .int (x5 - (1 : Int32))] [] dX8_spreads_97 rfl rfl rfl rfl (by decide) (Nat.le_of_ble_eq_true rfl) (by omega) ⟨x4, x5 - (1 : Int32), rfl, hc31⟩ rfl ⟨hr34.symm, rfl⟩) (fun v35 μ32 hc31 h => ?_)
      refine e_VI [.int x4, .int (x5 - (1 : Int32))] [] dX8_spreads_97 rfl rfl rfl rfl (by decide) (Nat.le_of_ble_eq_true rfl) (by omega) ⟨x4, x5 - (1 : Int32), rfl, hc31⟩ ?_
      refine e_iload_n dX8_spreads_100 rfl ?_
      refine e_ic_eq (tgt := 118) dX8_spreads_101 rfl (fun hc36 => ?_) (fun hc36 => ?_)
      · rw [if_pos hc36] at h
        refine e_iconst dX8_spreads_118 ci_1 ?_
        refine e_goto (tgt := 123) dX8_spreads_119 rfl ?_
        exact e_le (g_X8_spreads_123 hk4 x1 x2 x3 s0 (1 : Int32) μ32 _ (by omega) h) ⟨rfl, rfl, rfl, rfl, rfl, trivial⟩
      · rw [if_neg hc36] at h
        refine e_aload_n dX8_spreads_104 rfl ?_
        refine e_iload dX8_spreads_105 rfl ?_
        refine e_iload dX8_spreads_107 rfl ?_
        refine e_iconst dX8_spreads_109 ci_1 ?_
        refine e_iadd dX8_spreads_110 ?_
        refine cI_go h (fun E39 hc37 hr40 => e_VX [.int x4, .int (x5 + (1 : Int32))] [] dX8_spreads_111 rfl rfl rfl rfl (by decide) (Nat.le_of_ble_eq_true rfl) (by omega) ⟨x4, x5 + (1 : Int32), rfl, hc37⟩ rfl ⟨hr40.symm, rfl⟩) (fun v41 μ38 hc37 h => ?_)
        refine e_VI [.int x4, .int (x5 + (1 : Int32))] [] dX8_spreads_111 rfl rfl rfl rfl (by decide) (Nat.le_of_ble_eq_true rfl) (by omega) ⟨x4, x5 + (1 : Int32), rfl, hc37⟩ ?_
        refine e_iload_n dX8_spreads_114 rfl ?_
        refine e_ic_ne (tgt := 122) dX8_spreads_115 rfl (fun hc42 => ?_) (fun hc42 => ?_)
        · rw [if_neg hc42] at h
          refine e_iconst dX8_spreads_122 ci_0 ?_
          exact e_le (g_X8_spreads_123 hk4 x1 x2 x3 s0 (0 : Int32) μ38 _ (by omega) h) ⟨rfl, rfl, rfl, rfl, rfl, trivial⟩
        · rw [if_pos hc42] at h
          refine e_iconst dX8_spreads_118 ci_1 ?_
          refine e_goto (tgt := 123) dX8_spreads_119 rfl ?_
          exact e_le (g_X8_spreads_123 hk4 x1 x2 x3 s0 (1 : Int32) μ38 _ (by omega) h) ⟨rfl, rfl, rfl, rfl, rfl, trivial⟩
set_option maxHeartbeats 4000000 in
theorem g_X8_spreads_4 {r : Res} {μ' : Mem} : ∀ n : Nat, ∀ (x1 : Int32) (x2 : Int32) (x3 : Int32), ∀ (μ : Mem) (b : Nat), 0 ≤ b → f_X8_spreads_4 n x1 x2 x3 μ = some (r, μ') → G mX8_spreads (Qe r μ') 4 [some (.ref 29), some (.int x1), some (.int x2), some (.int x3), none, none, none, none] [] μ b := by
  intro n
  induction n with
  | zero => intro x1 x2 x3 μ b hb9 h; exact nomatch (show (none : Out) = some _ from h)
  | succ n ih =>
    intro x1 x2 x3 μ b hb9 h
    rw [f_X8_spreads_4.eq_2] at h
    refine e_iload_n dX8_spreads_4 rfl ?_
    refine e_bipush dX8_spreads_5 cb_36 ?_
    refine e_ic_ge (tgt := 150) dX8_spreads_7 rfl (fun hc1 => ?_) (fun hc1 => ?_)
    · rw [if_pos hc1] at h
      refine e_iload_n dX8_spreads_150 rfl ?_
      obtain ⟨hc2, h⟩ := ck_eq h
      exact e_iret .boolean dX8_spreads_151 rfl hc2 (ret_eq h)
    · rw [if_neg hc1] at h
      refine e_iload_n dX8_spreads_10 rfl ?_
      refine e_bipush dX8_spreads_11 cb_6 ?_
      refine e_idiv dX8_spreads_13 (by decide) ?_
      refine e_naI h (fun v3 ev3 h => ?_)
      refine e_istoreL [some (.ref 29), some (.int x1), some (.int x2), some (.int x3), some (.int v3), none, none, none] dX8_spreads_14 (Nat.le_of_ble_eq_true rfl) rfl ?_
      refine e_iload_n dX8_spreads_16 rfl ?_
      refine e_bipush dX8_spreads_17 cb_6 ?_
      refine e_irem dX8_spreads_19 (by decide) ?_
      refine e_naI h (fun v4 ev4 h => ?_)
      refine e_istoreL [some (.ref 29), some (.int x1), some (.int x2), some (.int x3), some (.int v3), some (.int v4), none, none] dX8_spreads_20 (Nat.le_of_ble_eq_true rfl) rfl ?_
      refine e_aload_n dX8_spreads_22 rfl ?_
      refine e_iload dX8_spreads_23 rfl ?_
      refine e_iload dX8_spreads_25 rfl ?_
      refine cI_go h (fun E7 hc5 hr8 => e_VX [.int v3, .int v4] [] dX8_spreads_27 rfl rfl rfl rfl (by decide) (Nat.le_of_ble_eq_true rfl) (by omega) ⟨v3, v4, rfl, hc5⟩ rfl ⟨hr8.symm, rfl⟩) (fun v9 μ6 hc5 h => ?_)
      refine e_VI [.int v3, .int v4] [] dX8_spreads_27 rfl rfl rfl rfl (by decide) (Nat.le_of_ble_eq_true rfl) (by omega) ⟨v3, v4, rfl, hc5⟩ ?_
      refine e_if_eq (tgt := 59) dX8_spreads_30 rfl (fun hc10 => ?_) (fun hc10 => ?_)
      · rw [if_pos hc10] at h
        refine e_iconst dX8_spreads_59 ci_0 ?_
        exact e_le (g_X8_spreads_60 ih x1 x2 x3 v3 v4 (0 : Int32) μ6 _ (by omega) h) ⟨rfl, rfl, rfl, rfl, rfl, rfl, trivial⟩
      · rw [if_neg hc10] at h
        refine e_aload_n dX8_spreads_33 rfl ?_
        refine e_iload dX8_spreads_34 rfl ?_
        refine e_iload dX8_spreads_36 rfl ?_
        refine cI_go h (fun E13 hc11 hr14 => e_VX [.int v3, .int v4] [] dX8_spreads_38 rfl rfl rfl rfl (by decide) (Nat.le_of_ble_eq_true rfl) (by omega) ⟨v3, v4, rfl, hc11⟩ rfl ⟨hr14.symm, rfl⟩) (fun v15 μ12 hc11 h => ?_)
        refine e_VI [.int v3, .int v4] [] dX8_spreads_38 rfl rfl rfl rfl (by decide) (Nat.le_of_ble_eq_true rfl) (by omega) ⟨v3, v4, rfl, hc11⟩ ?_
        refine e_if_eq (tgt := 59) dX8_spreads_41 rfl (fun hc16 => ?_) (fun hc16 => ?_)
        · rw [if_pos hc16] at h
          refine e_iconst dX8_spreads_59 ci_0 ?_
          exact e_le (g_X8_spreads_60 ih x1 x2 x3 v3 v4 (0 : Int32) μ12 _ (by omega) h) ⟨rfl, rfl, rfl, rfl, rfl, rfl, trivial⟩
        · rw [if_neg hc16] at h
          refine e_aload_n dX8_spreads_44 rfl ?_
          refine e_get (ci := 6) (j := 9) (t := 2) (v := .ref 35) dX8_spreads_45 rfl (by decide) rfl rfl rfl ?_
          refine e_iload_n dX8_spreads_48 rfl ?_
          obtain ⟨hc17, h⟩ := ck_eq h
          refine e_ialoadL (μ12.1 35 (Int32.toNatClampNeg x3)) (n := 36) dX8_spreads_49 (by decide) rfl hc17 rfl ?_
          refine e_bipush dX8_spreads_50 cb_m9 ?_
          refine e_ic_ne (tgt := 59) dX8_spreads_52 rfl (fun hc18 => ?_) (fun hc18 => ?_)
          · rw [if_neg hc18] at h
            refine e_iconst dX8_spreads_59 ci_0 ?_
            exact e_le (g_X8_spreads_60 ih x1 x2 x3 v3 v4 (0 : Int32) μ12 _ (by omega) h) ⟨rfl, rfl, rfl, rfl, rfl, rfl, trivial⟩
          · rw [if_pos hc18] at h
            refine e_iconst dX8_spreads_55 ci_1 ?_
            refine e_goto (tgt := 60) dX8_spreads_56 rfl ?_
            exact e_le (g_X8_spreads_60 ih x1 x2 x3 v3 v4 (1 : Int32) μ12 _ (by omega) h) ⟨rfl, rfl, rfl, rfl, rfl, rfl, trivial⟩
set_option maxHeartbeats 4000000 in
theorem b_X8_spreads : ∀ as μ r μ', Γ_X8_spreads as μ r μ' → (elvL as).length ≤ 8 ∧ G mX8_spreads (Qe r μ') 0 (elv as 8) [] μ 0 := by
  intro as μ r μ' h
  obtain ⟨a0, rfl, h⟩ := h
  refine ⟨Nat.le_of_ble_eq_true rfl, ?_⟩
  show G mX8_spreads (Qe r μ') 0 [some (.ref 29), some (.int a0), none, none, none, none, none, none] [] μ 0
  unfold F_X8_spreads at h
  have hb9 : 0 ≤ 0 := Nat.le_refl _
  refine e_iconst dX8_spreads_0 ci_0 ?_
  refine e_istore_nL [some (.ref 29), some (.int a0), some (.int (0 : Int32)), none, none, none, none, none] dX8_spreads_1 (Nat.le_of_ble_eq_true rfl) rfl ?_
  refine e_iconst dX8_spreads_2 ci_0 ?_
  refine e_istore_nL [some (.ref 29), some (.int a0), some (.int (0 : Int32)), some (.int (0 : Int32)), none, none, none, none] dX8_spreads_3 (Nat.le_of_ble_eq_true rfl) rfl ?_
  exact e_le (g_X8_spreads_4 BIG a0 (0 : Int32) (0 : Int32) μ _ (by omega) h) ⟨rfl, rfl, rfl, rfl, trivial⟩
set_option maxRecDepth 20000 in
theorem ok_X8_spreads (l : Launch) (hl : l.stackTraces = false) : MOK l yX8_spreads.cls 4 66 mX8_spreads := ⟨lk_all (List.forall_mem_cons.mpr ⟨⟨yX8_isFilled, cX8_isFilled, 3, (some .boolean), 1, 0, by decide, by decide, t_1 7 rfl rfl, hd_X8_isFilled, Or.inr (Or.inl ⟨rfl, sc_X8_isFilled l hl, t_5 73 rfl rfl, t_5 70 rfl rfl, t_5 72 rfl rfl, _, rfl, t_p 42 rfl⟩)⟩, List.forall_mem_cons.mpr ⟨⟨yX8_isCell, cX8_isCell, 3, (some .boolean), 2, 22, by decide, by decide, t_1 7 rfl rfl, hd_X8_isCell, Or.inr (Or.inl ⟨rfl, sc_X8_isCell l hl, t_5 105 rfl rfl, t_5 102 rfl rfl, t_5 104 rfl rfl, _, rfl, t_p 49 rfl⟩)⟩, List.forall_mem_cons.mpr ⟨⟨yX8_pieceAt, cX8_pieceAt, 3, (some .int), 3, 44, by decide, by decide, t_1 7 rfl rfl, hd_X8_pieceAt, Or.inr (Or.inl ⟨rfl, sc_X8_pieceAt l hl, t_5 113 rfl rfl, t_5 110 rfl rfl, t_5 112 rfl rfl, _, rfl, t_p 51 rfl⟩)⟩, nil_all⟩⟩⟩), fun ix ci j h => lk_all (P := fun ix q => FldOK yX8_spreads.cls ix q.1 q.2) (List.forall_mem_cons.mpr ⟨⟨_, rfl, by decide, t_4 187 rfl rfl⟩, nil_all⟩) ix (ci, j) h, lk_all (nil_all), lk_all (nil_all), lk_all (nil_all)⟩
theorem hd_X8_spreads : CallHd yX8_spreads 1 := ⟨by decide +kernel, by decide +kernel, by decide +kernel⟩
theorem sc_X8_spreads (l : Launch) (hl : l.stackTraces = false) : SCon l yX8_spreads cX8_spreads 8 (some .boolean) 4 66 0 Γ_X8_spreads := scon_of mX8_spreads cls_ok hl (by decide +kernel) rfl rfl (ok_X8_spreads l hl) rfl rfl b_X8_spreads
def f_X8_laysPieces_84 (k26 : Int32 → Int32 → Mem → Out) : Nat → Int32 → Int32 → Int32 → Mem → Out
  | 0, _, _, _, _ => none
  | n + 1, x1, x2, x5, μ => if x5 = 0 then (lt (x1 + (1 : Int32)) (fun v28 => lt (x2 + (1 : Int32)) (fun v29 => k26 v28 v29 μ))) else (cI (F_X8_spreads x1 μ) (fun v34 μ31 => f_X8_laysPieces_84 k26 n x1 x2 v34 μ31))
def f_X8_laysPieces_26 : Nat → Int32 → Int32 → Mem → Out
  | 0, _, _, _ => none
  | n + 1, x1, x2, μ => if (36 : Int32) ≤ x2 then (rI x1 μ) else (lt (x2 / (6 : Int32)) (fun v6 => lt (remI x2 (6 : Int32)) (fun v7 => cI (F_X8_isCell v6 v7 μ) (fun v12 μ9 => if v12 = 0 then (lt (x2 + (1 : Int32)) (fun v14 => f_X8_laysPieces_26 n x1 v14 μ9)) else (cI (F_X8_isFilled v6 v7 μ9) (fun v19 μ16 => if v19 = 0 then (lt (x2 + (1 : Int32)) (fun v21 => f_X8_laysPieces_26 n x1 v21 μ16)) else (ck (inb x2 36) (if (μ16.1 35 (Int32.toNatClampNeg x2)) = (-9 : Int32) then (ck (inb x2 36) (lt (sI μ16 35 (Int32.toNatClampNeg x2) x1) (fun μ26 => f_X8_laysPieces_84 (f_X8_laysPieces_26 n) BIG x1 x2 (1 : Int32) μ26))) else (lt (x2 + (1 : Int32)) (fun v24 => f_X8_laysPieces_26 n x1 v24 μ16))))))))))
def f_X8_laysPieces_4 : Nat → Int32 → Int32 → Mem → Out
  | 0, _, _, _ => none
  | n + 1, x1, x2, μ => if (36 : Int32) ≤ x2 then (f_X8_laysPieces_26 BIG x1 (0 : Int32) μ) else (ck (inb x2 36) (lt (sI μ 35 (Int32.toNatClampNeg x2) (-9 : Int32)) (fun μ3 => lt (x2 + (1 : Int32)) (fun v4 => f_X8_laysPieces_4 n x1 v4 μ3))))
def F_X8_laysPieces (μ : Mem) : Out := f_X8_laysPieces_4 BIG (0 : Int32) (0 : Int32) μ
def Γ_X8_laysPieces : Gam := fun as μ r μ' => as = [.ref 29] ∧ F_X8_laysPieces μ = some (r, μ')
def mX8_laysPieces : MI := (cX8_laysPieces, [(98, (1, 2, 0, 6, Γ_X8_isFilled)), (127, (1, 2, 0, 6, Γ_X8_isCell)), (130, (1, 1, 0, 6, Γ_X8_spreads))], [(25, 6, 9)], [], [], [], [], none, (some .int))
set_option maxHeartbeats 4000000 in
theorem g_X8_laysPieces_84 {r : Res} {μ' : Mem} {k26 : Int32 → Int32 → Mem → Out} (hk26 : ∀ (x1 : Int32) (x2 : Int32), ∀ (μ : Mem) (b : Nat), 0 ≤ b → k26 x1 x2 μ = some (r, μ') → G mX8_laysPieces (Qe r μ') 26 [some (.ref 29), some (.int x1), some (.int x2), none, none, none] [] μ b) : ∀ n : Nat, ∀ (x1 : Int32) (x2 : Int32) (x5 : Int32), ∀ (μ : Mem) (b : Nat), 0 ≤ b → f_X8_laysPieces_84 k26 n x1 x2 x5 μ = some (r, μ') → G mX8_laysPieces (Qe r μ') 84 [some (.ref 29), some (.int x1), some (.int x2), none, none, some (.int x5)] [] μ b := by
  intro n
  induction n with
  | zero => intro x1 x2 x5 μ b hb9 h; exact nomatch (show (none : Out) = some _ from h)
  | succ n ih =>
    intro x1 x2 x5 μ b hb9 h
    rw [f_X8_laysPieces_84.eq_2] at h
    refine e_iload dX8_laysPieces_84 rfl ?_
    refine e_if_eq (tgt := 99) dX8_laysPieces_86 rfl (fun hc27 => ?_) (fun hc27 => ?_)
    · rw [if_pos hc27] at h
      refine e_iincN 1 (1 : Int32) dX8_laysPieces_99 rfl ci_1 h (fun y9 => [some (.ref 29), some (.int y9), some (.int x2), none, none, some (.int x5)]) (fun _ => rfl) (fun v28 ev28 h => ?_)
      refine e_iincN 2 (1 : Int32) dX8_laysPieces_102 rfl ci_1 h (fun y9 => [some (.ref 29), some (.int v28), some (.int y9), none, none, some (.int x5)]) (fun _ => rfl) (fun v29 ev29 h => ?_)
      refine e_goto (tgt := 26) dX8_laysPieces_105 rfl ?_
      exact e_le (hk26 v28 v29 μ _ (by omega) h) ⟨rfl, rfl, rfl, trivial⟩
    · rw [if_neg hc27] at h
      refine e_aload_n dX8_laysPieces_89 rfl ?_
      refine e_iload_n dX8_laysPieces_90 rfl ?_
      refine cI_go h (fun E32 hc30 hr33 => e_VX [.int x1] [] dX8_laysPieces_91 rfl rfl rfl rfl (by decide) (Nat.le_of_ble_eq_true rfl) (by omega) ⟨x1, rfl, hc30⟩ rfl ⟨hr33.symm, rfl⟩) (fun v34 μ31 hc30 h => ?_)
      refine e_VI [.int x1] [] dX8_laysPieces_91 rfl rfl rfl rfl (by decide) (Nat.le_of_ble_eq_true rfl) (by omega) ⟨x1, rfl, hc30⟩ ?_
      refine e_istoreL [some (.ref 29), some (.int x1), some (.int x2), none, none, some (.int v34)] dX8_laysPieces_94 (Nat.le_of_ble_eq_true rfl) rfl ?_
      refine e_goto (tgt := 84) dX8_laysPieces_96 rfl ?_
      exact e_le (ih x1 x2 v34 μ31 _ (by omega) h) ⟨rfl, rfl, rfl, rfl, trivial⟩
set_option maxHeartbeats 4000000 in
theorem g_X8_laysPieces_26 {r : Res} {μ' : Mem} : ∀ n : Nat, ∀ (x1 : Int32) (x2 : Int32), ∀ (μ : Mem) (b : Nat), 0 ≤ b → f_X8_laysPieces_26 n x1 x2 μ = some (r, μ') → G mX8_laysPieces (Qe r μ') 26 [some (.ref 29), some (.int x1), some (.int x2), none, none, none] [] μ b := by
  intro n
  induction n with
  | zero => intro x1 x2 μ b hb9 h; exact nomatch (show (none : Out) = some _ from h)
  | succ n ih =>
    intro x1 x2 μ b hb9 h
    rw [f_X8_laysPieces_26.eq_2] at h
    refine e_iload_n dX8_laysPieces_26 rfl ?_
    refine e_bipush dX8_laysPieces_27 cb_36 ?_
    refine e_ic_ge (tgt := 108) dX8_laysPieces_29 rfl (fun hc5 => ?_) (fun hc5 => ?_)
    · rw [if_pos hc5] at h
      refine e_iload_n dX8_laysPieces_108 rfl ?_
      exact e_iret .int dX8_laysPieces_109 rfl rfl (ret_eq h)
    · rw [if_neg hc5] at h
      refine e_iload_n dX8_laysPieces_32 rfl ?_
      refine e_bipush dX8_laysPieces_33 cb_6 ?_
      refine e_idiv dX8_laysPieces_35 (by decide) ?_
      refine e_naI h (fun v6 ev6 h => ?_)
      refine e_istore_nL [some (.ref 29), some (.int x1), some (.int x2), some (.int v6), none, none] dX8_laysPieces_36 (Nat.le_of_ble_eq_true rfl) rfl ?_
      refine e_iload_n dX8_laysPieces_37 rfl ?_
      refine e_bipush dX8_laysPieces_38 cb_6 ?_
      refine e_irem dX8_laysPieces_40 (by decide) ?_
      refine e_naI h (fun v7 ev7 h => ?_)
      refine e_istoreL [some (.ref 29), some (.int x1), some (.int x2), some (.int v6), some (.int v7), none] dX8_laysPieces_41 (Nat.le_of_ble_eq_true rfl) rfl ?_
      refine e_aload_n dX8_laysPieces_43 rfl ?_
      refine e_iload_n dX8_laysPieces_44 rfl ?_
      refine e_iload dX8_laysPieces_45 rfl ?_
      refine cI_go h (fun E10 hc8 hr11 => e_VX [.int v6, .int v7] [] dX8_laysPieces_47 rfl rfl rfl rfl (by decide) (Nat.le_of_ble_eq_true rfl) (by omega) ⟨v6, v7, rfl, hc8⟩ rfl ⟨hr11.symm, rfl⟩) (fun v12 μ9 hc8 h => ?_)
      refine e_VI [.int v6, .int v7] [] dX8_laysPieces_47 rfl rfl rfl rfl (by decide) (Nat.le_of_ble_eq_true rfl) (by omega) ⟨v6, v7, rfl, hc8⟩ ?_
      refine e_if_eq (tgt := 102) dX8_laysPieces_50 rfl (fun hc13 => ?_) (fun hc13 => ?_)
      · rw [if_pos hc13] at h
        refine e_iincN 2 (1 : Int32) dX8_laysPieces_102 rfl ci_1 h (fun y9 => [some (.ref 29), some (.int x1), some (.int y9), some (.int v6), some (.int v7), none]) (fun _ => rfl) (fun v14 ev14 h => ?_)
        refine e_goto (tgt := 26) dX8_laysPieces_105 rfl ?_
        exact e_le (ih x1 v14 μ9 _ (by omega) h) ⟨rfl, rfl, rfl, trivial⟩
      · rw [if_neg hc13] at h
        refine e_aload_n dX8_laysPieces_53 rfl ?_
        refine e_iload_n dX8_laysPieces_54 rfl ?_
        refine e_iload dX8_laysPieces_55 rfl ?_
        refine cI_go h (fun E17 hc15 hr18 => e_VX [.int v6, .int v7] [] dX8_laysPieces_57 rfl rfl rfl rfl (by decide) (Nat.le_of_ble_eq_true rfl) (by omega) ⟨v6, v7, rfl, hc15⟩ rfl ⟨hr18.symm, rfl⟩) (fun v19 μ16 hc15 h => ?_)
        refine e_VI [.int v6, .int v7] [] dX8_laysPieces_57 rfl rfl rfl rfl (by decide) (Nat.le_of_ble_eq_true rfl) (by omega) ⟨v6, v7, rfl, hc15⟩ ?_
        refine e_if_eq (tgt := 102) dX8_laysPieces_60 rfl (fun hc20 => ?_) (fun hc20 => ?_)
        · rw [if_pos hc20] at h
          refine e_iincN 2 (1 : Int32) dX8_laysPieces_102 rfl ci_1 h (fun y9 => [some (.ref 29), some (.int x1), some (.int y9), some (.int v6), some (.int v7), none]) (fun _ => rfl) (fun v21 ev21 h => ?_)
          refine e_goto (tgt := 26) dX8_laysPieces_105 rfl ?_
          exact e_le (ih x1 v21 μ16 _ (by omega) h) ⟨rfl, rfl, rfl, trivial⟩
        · rw [if_neg hc20] at h
          refine e_aload_n dX8_laysPieces_63 rfl ?_
          refine e_get (ci := 6) (j := 9) (t := 2) (v := .ref 35) dX8_laysPieces_64 rfl (by decide) rfl rfl rfl ?_
          refine e_iload_n dX8_laysPieces_67 rfl ?_
          obtain ⟨hc22, h⟩ := ck_eq h
          refine e_ialoadL (μ16.1 35 (Int32.toNatClampNeg x2)) (n := 36) dX8_laysPieces_68 (by decide) rfl hc22 rfl ?_
          refine e_bipush dX8_laysPieces_69 cb_m9 ?_
          refine e_ic_ne (tgt := 102) dX8_laysPieces_71 rfl (fun hc23 => ?_) (fun hc23 => ?_)
          · rw [if_neg hc23] at h
            refine e_iincN 2 (1 : Int32) dX8_laysPieces_102 rfl ci_1 h (fun y9 => [some (.ref 29), some (.int x1), some (.int y9), some (.int v6), some (.int v7), none]) (fun _ => rfl) (fun v24 ev24 h => ?_)
            refine e_goto (tgt := 26) dX8_laysPieces_105 rfl ?_
            exact e_le (ih x1 v24 μ16 _ (by omega) h) ⟨rfl, rfl, rfl, trivial⟩
          · rw [if_pos hc23] at h
            refine e_aload_n dX8_laysPieces_74 rfl ?_
            refine e_get (ci := 6) (j := 9) (t := 2) (v := .ref 35) dX8_laysPieces_75 rfl (by decide) rfl rfl rfl ?_
            refine e_iload_n dX8_laysPieces_78 rfl ?_
            refine e_iload_n dX8_laysPieces_79 rfl ?_
            obtain ⟨hc25, h⟩ := ck_eq h
            refine e_iastore (n := 36) dX8_laysPieces_80 (by decide) rfl hc25 ?_
            refine e_naM (e := sI μ16 35 (Int32.toNatClampNeg x2) x1) h (fun μ26 eμ26 h => ?_)
            refine e_iconst dX8_laysPieces_81 ci_1 ?_
            refine e_istoreL [some (.ref 29), some (.int x1), some (.int x2), some (.int v6), some (.int v7), some (.int (1 : Int32))] dX8_laysPieces_82 (Nat.le_of_ble_eq_true rfl) rfl ?_
            exact e_le (g_X8_laysPieces_84 ih BIG x1 x2 (1 : Int32) μ26 _ (by omega) h) ⟨rfl, rfl, rfl, rfl, trivial⟩
set_option maxHeartbeats 4000000 in
theorem g_X8_laysPieces_4 {r : Res} {μ' : Mem} : ∀ n : Nat, ∀ (x1 : Int32) (x2 : Int32), ∀ (μ : Mem) (b : Nat), 0 ≤ b → f_X8_laysPieces_4 n x1 x2 μ = some (r, μ') → G mX8_laysPieces (Qe r μ') 4 [some (.ref 29), some (.int x1), some (.int x2), none, none, none] [] μ b := by
  intro n
  induction n with
  | zero => intro x1 x2 μ b hb9 h; exact nomatch (show (none : Out) = some _ from h)
  | succ n ih =>
    intro x1 x2 μ b hb9 h
    rw [f_X8_laysPieces_4.eq_2] at h
    refine e_iload_n dX8_laysPieces_4 rfl ?_
    refine e_bipush dX8_laysPieces_5 cb_36 ?_
    refine e_ic_ge (tgt := 24) dX8_laysPieces_7 rfl (fun hc1 => ?_) (fun hc1 => ?_)
    · rw [if_pos hc1] at h
      refine e_iconst dX8_laysPieces_24 ci_0 ?_
      refine e_istore_nL [some (.ref 29), some (.int x1), some (.int (0 : Int32)), none, none, none] dX8_laysPieces_25 (Nat.le_of_ble_eq_true rfl) rfl ?_
      exact e_le (g_X8_laysPieces_26 BIG x1 (0 : Int32) μ _ (by omega) h) ⟨rfl, rfl, rfl, trivial⟩
    · rw [if_neg hc1] at h
      refine e_aload_n dX8_laysPieces_10 rfl ?_
      refine e_get (ci := 6) (j := 9) (t := 2) (v := .ref 35) dX8_laysPieces_11 rfl (by decide) rfl rfl rfl ?_
      refine e_iload_n dX8_laysPieces_14 rfl ?_
      refine e_bipush dX8_laysPieces_15 cb_m9 ?_
      obtain ⟨hc2, h⟩ := ck_eq h
      refine e_iastore (n := 36) dX8_laysPieces_17 (by decide) rfl hc2 ?_
      refine e_naM (e := sI μ 35 (Int32.toNatClampNeg x2) (-9 : Int32)) h (fun μ3 eμ3 h => ?_)
      refine e_iincN 2 (1 : Int32) dX8_laysPieces_18 rfl ci_1 h (fun y9 => [some (.ref 29), some (.int x1), some (.int y9), none, none, none]) (fun _ => rfl) (fun v4 ev4 h => ?_)
      refine e_goto (tgt := 4) dX8_laysPieces_21 rfl ?_
      exact e_le (ih x1 v4 μ3 _ (by omega) h) ⟨rfl, rfl, rfl, trivial⟩
set_option maxHeartbeats 4000000 in
theorem b_X8_laysPieces : ∀ as μ r μ', Γ_X8_laysPieces as μ r μ' → (elvL as).length ≤ 6 ∧ G mX8_laysPieces (Qe r μ') 0 (elv as 6) [] μ 0 := by
  intro as μ r μ' h
  obtain ⟨rfl, h⟩ := h
  refine ⟨Nat.le_of_ble_eq_true rfl, ?_⟩
  show G mX8_laysPieces (Qe r μ') 0 [some (.ref 29), none, none, none, none, none] [] μ 0
  unfold F_X8_laysPieces at h
  have hb9 : 0 ≤ 0 := Nat.le_refl _
  refine e_iconst dX8_laysPieces_0 ci_0 ?_
  refine e_istore_nL [some (.ref 29), some (.int (0 : Int32)), none, none, none, none] dX8_laysPieces_1 (Nat.le_of_ble_eq_true rfl) rfl ?_
  refine e_iconst dX8_laysPieces_2 ci_0 ?_
  refine e_istore_nL [some (.ref 29), some (.int (0 : Int32)), some (.int (0 : Int32)), none, none, none] dX8_laysPieces_3 (Nat.le_of_ble_eq_true rfl) rfl ?_
  exact e_le (g_X8_laysPieces_4 BIG (0 : Int32) (0 : Int32) μ _ (by omega) h) ⟨rfl, rfl, rfl, trivial⟩
set_option maxRecDepth 20000 in
theorem ok_X8_laysPieces (l : Launch) (hl : l.stackTraces = false) : MOK l yX8_laysPieces.cls 5 93 mX8_laysPieces := ⟨lk_all (List.forall_mem_cons.mpr ⟨⟨yX8_isFilled, cX8_isFilled, 3, (some .boolean), 1, 0, by decide, by decide, t_1 7 rfl rfl, hd_X8_isFilled, Or.inr (Or.inl ⟨rfl, sc_X8_isFilled l hl, t_5 73 rfl rfl, t_5 70 rfl rfl, t_5 72 rfl rfl, _, rfl, t_p 42 rfl⟩)⟩, List.forall_mem_cons.mpr ⟨⟨yX8_isCell, cX8_isCell, 3, (some .boolean), 2, 22, by decide, by decide, t_1 7 rfl rfl, hd_X8_isCell, Or.inr (Or.inl ⟨rfl, sc_X8_isCell l hl, t_5 105 rfl rfl, t_5 102 rfl rfl, t_5 104 rfl rfl, _, rfl, t_p 49 rfl⟩)⟩, List.forall_mem_cons.mpr ⟨⟨yX8_spreads, cX8_spreads, 8, (some .boolean), 4, 66, by decide, by decide, t_1 7 rfl rfl, hd_X8_spreads, Or.inr (Or.inl ⟨rfl, sc_X8_spreads l hl, t_5 109 rfl rfl, t_5 106 rfl rfl, t_5 108 rfl rfl, _, rfl, t_p 50 rfl⟩)⟩, nil_all⟩⟩⟩), fun ix ci j h => lk_all (P := fun ix q => FldOK yX8_laysPieces.cls ix q.1 q.2) (List.forall_mem_cons.mpr ⟨⟨_, rfl, by decide, t_4 187 rfl rfl⟩, nil_all⟩) ix (ci, j) h, lk_all (nil_all), lk_all (nil_all), lk_all (nil_all)⟩
theorem hd_X8_laysPieces : CallHd yX8_laysPieces 0 := ⟨by decide +kernel, by decide +kernel, by decide +kernel⟩
theorem sc_X8_laysPieces (l : Launch) (hl : l.stackTraces = false) : SCon l yX8_laysPieces cX8_laysPieces 6 (some .int) 5 93 0 Γ_X8_laysPieces := scon_of mX8_laysPieces cls_ok hl (by decide +kernel) rfl rfl (ok_X8_laysPieces l hl) rfl rfl b_X8_laysPieces
def F_X8_openSide (a0 : Int32) (a1 : Int32) (μ : Mem) : Out := cI (F_X8_isCell a0 a1 μ) (fun v5 μ2 => if v5 = 0 then (rI (1 : Int32) μ2) else (cI (F_X8_isFilled a0 a1 μ2) (fun v11 μ8 => if v11 = 0 then (rI (1 : Int32) μ8) else (rI (0 : Int32) μ8))))
def Γ_X8_openSide : Gam := fun as μ r μ' => ∃ (a0 : Int32) (a1 : Int32), as = [.ref 29, .int a0, .int a1] ∧ F_X8_openSide a0 a1 μ = some (r, μ')
def mX8_openSide : MI := (cX8_openSide, [(98, (1, 2, 0, 6, Γ_X8_isFilled)), (127, (1, 2, 0, 6, Γ_X8_isCell))], [], [], [], [], [], none, (some .int))
set_option maxHeartbeats 4000000 in
theorem b_X8_openSide : ∀ as μ r μ', Γ_X8_openSide as μ r μ' → (elvL as).length ≤ 3 ∧ G mX8_openSide (Qe r μ') 0 (elv as 3) [] μ 0 := by
  intro as μ r μ' h
  obtain ⟨a0, a1, rfl, h⟩ := h
  refine ⟨Nat.le_of_ble_eq_true rfl, ?_⟩
  show G mX8_openSide (Qe r μ') 0 [some (.ref 29), some (.int a0), some (.int a1)] [] μ 0
  unfold F_X8_openSide at h
  have hb9 : 0 ≤ 0 := Nat.le_refl _
  refine e_aload_n dX8_openSide_0 rfl ?_
  refine e_iload_n dX8_openSide_1 rfl ?_
  refine e_iload_n dX8_openSide_2 rfl ?_
  refine cI_go h (fun E3 hc1 hr4 => e_VX [.int a0, .int a1] [] dX8_openSide_3 rfl rfl rfl rfl (by decide) (Nat.le_of_ble_eq_true rfl) (by omega) ⟨a0, a1, rfl, hc1⟩ rfl ⟨hr4.symm, rfl⟩) (fun v5 μ2 hc1 h => ?_)
  refine e_VI [.int a0, .int a1] [] dX8_openSide_3 rfl rfl rfl rfl (by decide) (Nat.le_of_ble_eq_true rfl) (by omega) ⟨a0, a1, rfl, hc1⟩ ?_
  refine e_if_eq (tgt := 22) dX8_openSide_6 rfl (fun hc6 => ?_) (fun hc6 => ?_)
  · rw [if_pos hc6] at h
    refine e_iconst dX8_openSide_22 ci_1 ?_
    exact e_iret .int dX8_openSide_23 rfl rfl (ret_eq h)
  · rw [if_neg hc6] at h
    refine e_aload_n dX8_openSide_9 rfl ?_
    refine e_iload_n dX8_openSide_10 rfl ?_
    refine e_iload_n dX8_openSide_11 rfl ?_
    refine cI_go h (fun E9 hc7 hr10 => e_VX [.int a0, .int a1] [] dX8_openSide_12 rfl rfl rfl rfl (by decide) (Nat.le_of_ble_eq_true rfl) (by omega) ⟨a0, a1, rfl, hc7⟩ rfl ⟨hr10.symm, rfl⟩) (fun v11 μ8 hc7 h => ?_)
    refine e_VI [.int a0, .int a1] [] dX8_openSide_12 rfl rfl rfl rfl (by decide) (Nat.le_of_ble_eq_true rfl) (by omega) ⟨a0, a1, rfl, hc7⟩ ?_
    refine e_if_eq (tgt := 22) dX8_openSide_15 rfl (fun hc12 => ?_) (fun hc12 => ?_)
    · rw [if_pos hc12] at h
      refine e_iconst dX8_openSide_22 ci_1 ?_
      exact e_iret .int dX8_openSide_23 rfl rfl (ret_eq h)
    · rw [if_neg hc12] at h
      refine e_iconst dX8_openSide_18 ci_0 ?_
      refine e_goto (tgt := 23) dX8_openSide_19 rfl ?_
      exact e_iret .int dX8_openSide_23 rfl rfl (ret_eq h)
set_option maxRecDepth 20000 in
theorem ok_X8_openSide (l : Launch) (hl : l.stackTraces = false) : MOK l yX8_openSide.cls 3 44 mX8_openSide := ⟨lk_all (List.forall_mem_cons.mpr ⟨⟨yX8_isFilled, cX8_isFilled, 3, (some .boolean), 1, 0, by decide, by decide, t_1 7 rfl rfl, hd_X8_isFilled, Or.inr (Or.inl ⟨rfl, sc_X8_isFilled l hl, t_5 73 rfl rfl, t_5 70 rfl rfl, t_5 72 rfl rfl, _, rfl, t_p 42 rfl⟩)⟩, List.forall_mem_cons.mpr ⟨⟨yX8_isCell, cX8_isCell, 3, (some .boolean), 2, 22, by decide, by decide, t_1 7 rfl rfl, hd_X8_isCell, Or.inr (Or.inl ⟨rfl, sc_X8_isCell l hl, t_5 105 rfl rfl, t_5 102 rfl rfl, t_5 104 rfl rfl, _, rfl, t_p 49 rfl⟩)⟩, nil_all⟩⟩), fun ix ci j h => lk_all (P := fun ix q => FldOK yX8_openSide.cls ix q.1 q.2) (nil_all) ix (ci, j) h, lk_all (nil_all), lk_all (nil_all), lk_all (nil_all)⟩
theorem hd_X8_openSide : CallHd yX8_openSide 2 := ⟨by decide +kernel, by decide +kernel, by decide +kernel⟩
theorem sc_X8_openSide (l : Launch) (hl : l.stackTraces = false) : SCon l yX8_openSide cX8_openSide 3 (some .int) 3 44 0 Γ_X8_openSide := scon_of mX8_openSide cls_ok hl (by decide +kernel) rfl rfl (ok_X8_openSide l hl) rfl rfl b_X8_openSide
def F_X8_openSides (a0 : Int32) (a1 : Int32) (μ : Mem) : Out := cI (F_X8_openSide (a0 - (1 : Int32)) a1 μ) (fun v5 μ2 => cI (F_X8_openSide (a0 + (1 : Int32)) a1 μ2) (fun v10 μ7 => cI (F_X8_openSide a0 (a1 - (1 : Int32)) μ7) (fun v15 μ12 => cI (F_X8_openSide a0 (a1 + (1 : Int32)) μ12) (fun v20 μ17 => rI (((v5 + v10) + v15) + v20) μ17))))
def Γ_X8_openSides : Gam := fun as μ r μ' => ∃ (a0 : Int32) (a1 : Int32), as = [.ref 29, .int a0, .int a1] ∧ F_X8_openSides a0 a1 μ = some (r, μ')
def mX8_openSides : MI := (cX8_openSides, [(136, (1, 2, 0, 6, Γ_X8_openSide))], [], [], [], [], [], none, (some .int))
set_option maxHeartbeats 4000000 in
theorem b_X8_openSides : ∀ as μ r μ', Γ_X8_openSides as μ r μ' → (elvL as).length ≤ 3 ∧ G mX8_openSides (Qe r μ') 0 (elv as 3) [] μ 0 := by
  intro as μ r μ' h
  obtain ⟨a0, a1, rfl, h⟩ := h
  refine ⟨Nat.le_of_ble_eq_true rfl, ?_⟩
  show G mX8_openSides (Qe r μ') 0 [some (.ref 29), some (.int a0), some (.int a1)] [] μ 0
  unfold F_X8_openSides at h
  have hb9 : 0 ≤ 0 := Nat.le_refl _
  refine e_aload_n dX8_openSides_0 rfl ?_
  refine e_iload_n dX8_openSides_1 rfl ?_
  refine e_iconst dX8_openSides_2 ci_1 ?_
  refine e_isub dX8_openSides_3 ?_
  refine e_iload_n dX8_openSides_4 rfl ?_
  refine cI_go h (fun E3 hc1 hr4 => e_VX [.int (a0 - (1 : Int32)), .int a1] [] dX8_openSides_5 rfl rfl rfl rfl (by decide) (Nat.le_of_ble_eq_true rfl) (by omega) ⟨a0 - (1 : Int32), a1, rfl, hc1⟩ rfl ⟨hr4.symm, rfl⟩) (fun v5 μ2 hc1 h => ?_)
  refine e_VI [.int (a0 - (1 : Int32)), .int a1] [] dX8_openSides_5 rfl rfl rfl rfl (by decide) (Nat.le_of_ble_eq_true rfl) (by omega) ⟨a0 - (1 : Int32), a1, rfl, hc1⟩ ?_
  refine e_aload_n dX8_openSides_8 rfl ?_
  refine e_iload_n dX8_openSides_9 rfl ?_
  refine e_iconst dX8_openSides_10 ci_1 ?_
  refine e_iadd dX8_openSides_11 ?_
  refine e_iload_n dX8_openSides_12 rfl ?_
  refine cI_go h (fun E8 hc6 hr9 => e_VX [.int (a0 + (1 : Int32)), .int a1] [.int v5] dX8_openSides_13 rfl rfl rfl rfl (by decide) (Nat.le_of_ble_eq_true rfl) (by omega) ⟨a0 + (1 : Int32), a1, rfl, hc6⟩ rfl ⟨hr9.symm, rfl⟩) (fun v10 μ7 hc6 h => ?_)
  refine e_VI [.int (a0 + (1 : Int32)), .int a1] [.int v5] dX8_openSides_13 rfl rfl rfl rfl (by decide) (Nat.le_of_ble_eq_true rfl) (by omega) ⟨a0 + (1 : Int32), a1, rfl, hc6⟩ ?_
  refine e_iadd dX8_openSides_16 ?_
  refine e_aload_n dX8_openSides_17 rfl ?_
  refine e_iload_n dX8_openSides_18 rfl ?_
  refine e_iload_n dX8_openSides_19 rfl ?_
  refine e_iconst dX8_openSides_20 ci_1 ?_
  refine e_isub dX8_openSides_21 ?_
  refine cI_go h (fun E13 hc11 hr14 => e_VX [.int a0, .int (a1 - (1 : Int32))] [.int (v5 + v10)] dX8_openSides_22 rfl rfl rfl rfl (by decide) (Nat.le_of_ble_eq_true rfl) (by omega) ⟨a0, a1 - (1 : Int32), rfl, hc11⟩ rfl ⟨hr14.symm, rfl⟩) (fun v15 μ12 hc11 h => ?_)
  refine e_VI [.int a0, .int (a1 - (1 : Int32))] [.int (v5 + v10)] dX8_openSides_22 rfl rfl rfl rfl (by decide) (Nat.le_of_ble_eq_true rfl) (by omega) ⟨a0, a1 - (1 : Int32), rfl, hc11⟩ ?_
  refine e_iadd dX8_openSides_25 ?_
  refine e_aload_n dX8_openSides_26 rfl ?_
  refine e_iload_n dX8_openSides_27 rfl ?_
  refine e_iload_n dX8_openSides_28 rfl ?_
  refine e_iconst dX8_openSides_29 ci_1 ?_
  refine e_iadd dX8_openSides_30 ?_
  refine cI_go h (fun E18 hc16 hr19 => e_VX [.int a0, .int (a1 + (1 : Int32))] [.int ((v5 + v10) + v15)] dX8_openSides_31 rfl rfl rfl rfl (by decide) (Nat.le_of_ble_eq_true rfl) (by omega) ⟨a0, a1 + (1 : Int32), rfl, hc16⟩ rfl ⟨hr19.symm, rfl⟩) (fun v20 μ17 hc16 h => ?_)
  refine e_VI [.int a0, .int (a1 + (1 : Int32))] [.int ((v5 + v10) + v15)] dX8_openSides_31 rfl rfl rfl rfl (by decide) (Nat.le_of_ble_eq_true rfl) (by omega) ⟨a0, a1 + (1 : Int32), rfl, hc16⟩ ?_
  refine e_iadd dX8_openSides_34 ?_
  exact e_iret .int dX8_openSides_35 rfl rfl (ret_eq h)
set_option maxRecDepth 20000 in
theorem ok_X8_openSides (l : Launch) (hl : l.stackTraces = false) : MOK l yX8_openSides.cls 4 66 mX8_openSides := ⟨lk_all (List.forall_mem_cons.mpr ⟨⟨yX8_openSide, cX8_openSide, 3, (some .int), 3, 44, by decide, by decide, t_1 7 rfl rfl, hd_X8_openSide, Or.inr (Or.inl ⟨rfl, sc_X8_openSide l hl, t_5 125 rfl rfl, t_5 122 rfl rfl, t_5 124 rfl rfl, _, rfl, t_p 54 rfl⟩)⟩, nil_all⟩), fun ix ci j h => lk_all (P := fun ix q => FldOK yX8_openSides.cls ix q.1 q.2) (nil_all) ix (ci, j) h, lk_all (nil_all), lk_all (nil_all), lk_all (nil_all)⟩
theorem hd_X8_openSides : CallHd yX8_openSides 2 := ⟨by decide +kernel, by decide +kernel, by decide +kernel⟩
theorem sc_X8_openSides (l : Launch) (hl : l.stackTraces = false) : SCon l yX8_openSides cX8_openSides 3 (some .int) 4 66 0 Γ_X8_openSides := scon_of mX8_openSides cls_ok hl (by decide +kernel) rfl rfl (ok_X8_openSides l hl) rfl rfl b_X8_openSides
def f_X8_outline_14 (k4 : Int32 → Int32 → Mem → Out) : Nat → Int32 → Int32 → Int32 → Mem → Out
  | 0, _, _, _, _ => none
  | n + 1, x1, x2, x3, μ => cI (F_X8_columns μ) (fun v11 μ8 => if v11 ≤ x3 then (lt (x2 + (1 : Int32)) (fun v13 => k4 x1 v13 μ8)) else (cI (F_X8_isFilled x2 x3 μ8) (fun v18 μ15 => if v18 = 0 then (lt (x1 + (0 : Int32)) (fun v20 => lt (x3 + (1 : Int32)) (fun v21 => f_X8_outline_14 k4 n v20 x2 v21 μ15))) else (cI (F_X8_openSides x2 x3 μ15) (fun v26 μ23 => lt (x1 + v26) (fun v27 => lt (x3 + (1 : Int32)) (fun v28 => f_X8_outline_14 k4 n v27 x2 v28 μ23)))))))
def f_X8_outline_4 : Nat → Int32 → Int32 → Mem → Out
  | 0, _, _, _ => none
  | n + 1, x1, x2, μ => cI (F_X8_rows μ) (fun v5 μ2 => if v5 ≤ x2 then (rI x1 μ2) else (f_X8_outline_14 (f_X8_outline_4 n) BIG x1 x2 (0 : Int32) μ2))
def F_X8_outline (μ : Mem) : Out := f_X8_outline_4 BIG (0 : Int32) (0 : Int32) μ
def Γ_X8_outline : Gam := fun as μ r μ' => as = [.ref 29] ∧ F_X8_outline μ = some (r, μ')
def mX8_outline : MI := (cX8_outline, [(76, (1, 0, 0, 6, Γ_X8_rows)), (84, (1, 0, 0, 6, Γ_X8_columns)), (98, (1, 2, 0, 6, Γ_X8_isFilled)), (139, (1, 2, 0, 6, Γ_X8_openSides))], [], [], [], [], [], none, (some .int))
set_option maxHeartbeats 4000000 in
theorem g_X8_outline_14 {r : Res} {μ' : Mem} {k4 : Int32 → Int32 → Mem → Out} (hk4 : ∀ (x1 : Int32) (x2 : Int32), ∀ (μ : Mem) (b : Nat), 0 ≤ b → k4 x1 x2 μ = some (r, μ') → G mX8_outline (Qe r μ') 4 [some (.ref 29), some (.int x1), some (.int x2), none] [] μ b) : ∀ n : Nat, ∀ (x1 : Int32) (x2 : Int32) (x3 : Int32), ∀ (μ : Mem) (b : Nat), 0 ≤ b → f_X8_outline_14 k4 n x1 x2 x3 μ = some (r, μ') → G mX8_outline (Qe r μ') 14 [some (.ref 29), some (.int x1), some (.int x2), some (.int x3)] [] μ b := by
  intro n
  induction n with
  | zero => intro x1 x2 x3 μ b hb9 h; exact nomatch (show (none : Out) = some _ from h)
  | succ n ih =>
    intro x1 x2 x3 μ b hb9 h
    rw [f_X8_outline_14.eq_2] at h
    refine e_iload_n dX8_outline_14 rfl ?_
    refine e_aload_n dX8_outline_15 rfl ?_
    refine cI_go h (fun E9 hc7 hr10 => e_VX [] [.int x3] dX8_outline_16 rfl rfl rfl rfl (by decide) (Nat.le_of_ble_eq_true rfl) (by omega) ⟨rfl, hc7⟩ rfl ⟨hr10.symm, rfl⟩) (fun v11 μ8 hc7 h => ?_)
    refine e_VI [] [.int x3] dX8_outline_16 rfl rfl rfl rfl (by decide) (Nat.le_of_ble_eq_true rfl) (by omega) ⟨rfl, hc7⟩ ?_
    refine e_ic_ge (tgt := 50) dX8_outline_19 rfl (fun hc12 => ?_) (fun hc12 => ?_)
    · rw [if_pos hc12] at h
      refine e_iincN 2 (1 : Int32) dX8_outline_50 rfl ci_1 h (fun y9 => [some (.ref 29), some (.int x1), some (.int y9), some (.int x3)]) (fun _ => rfl) (fun v13 ev13 h => ?_)
      refine e_goto (tgt := 4) dX8_outline_53 rfl ?_
      exact e_le (hk4 x1 v13 μ8 _ (by omega) h) ⟨rfl, rfl, rfl, trivial⟩
    · rw [if_neg hc12] at h
      refine e_iload_n dX8_outline_22 rfl ?_
      refine e_aload_n dX8_outline_23 rfl ?_
      refine e_iload_n dX8_outline_24 rfl ?_
      refine e_iload_n dX8_outline_25 rfl ?_
      refine cI_go h (fun E16 hc14 hr17 => e_VX [.int x2, .int x3] [.int x1] dX8_outline_26 rfl rfl rfl rfl (by decide) (Nat.le_of_ble_eq_true rfl) (by omega) ⟨x2, x3, rfl, hc14⟩ rfl ⟨hr17.symm, rfl⟩) (fun v18 μ15 hc14 h => ?_)
      refine e_VI [.int x2, .int x3] [.int x1] dX8_outline_26 rfl rfl rfl rfl (by decide) (Nat.le_of_ble_eq_true rfl) (by omega) ⟨x2, x3, rfl, hc14⟩ ?_
      refine e_if_eq (tgt := 41) dX8_outline_29 rfl (fun hc19 => ?_) (fun hc19 => ?_)
      · rw [if_pos hc19] at h
        refine e_iconst dX8_outline_41 ci_0 ?_
        refine e_iadd dX8_outline_42 ?_
        refine e_naI h (fun v20 ev20 h => ?_)
        refine e_istore_nL [some (.ref 29), some (.int v20), some (.int x2), some (.int x3)] dX8_outline_43 (Nat.le_of_ble_eq_true rfl) rfl ?_
        refine e_iincN 3 (1 : Int32) dX8_outline_44 rfl ci_1 h (fun y9 => [some (.ref 29), some (.int v20), some (.int x2), some (.int y9)]) (fun _ => rfl) (fun v21 ev21 h => ?_)
        refine e_goto (tgt := 14) dX8_outline_47 rfl ?_
        exact e_le (ih v20 x2 v21 μ15 _ (by omega) h) ⟨rfl, rfl, rfl, rfl, trivial⟩
      · rw [if_neg hc19] at h
        refine e_aload_n dX8_outline_32 rfl ?_
        refine e_iload_n dX8_outline_33 rfl ?_
        refine e_iload_n dX8_outline_34 rfl ?_
        refine cI_go h (fun E24 hc22 hr25 => e_VX [.int x2, .int x3] [.int x1] dX8_outline_35 rfl rfl rfl rfl (by decide) (Nat.le_of_ble_eq_true rfl) (by omega) ⟨x2, x3, rfl, hc22⟩ rfl ⟨hr25.symm, rfl⟩) (fun v26 μ23 hc22 h => ?_)
        refine e_VI [.int x2, .int x3] [.int x1] dX8_outline_35 rfl rfl rfl rfl (by decide) (Nat.le_of_ble_eq_true rfl) (by omega) ⟨x2, x3, rfl, hc22⟩ ?_
        refine e_goto (tgt := 42) dX8_outline_38 rfl ?_
        refine e_iadd dX8_outline_42 ?_
        refine e_naI h (fun v27 ev27 h => ?_)
        refine e_istore_nL [some (.ref 29), some (.int v27), some (.int x2), some (.int x3)] dX8_outline_43 (Nat.le_of_ble_eq_true rfl) rfl ?_
        refine e_iincN 3 (1 : Int32) dX8_outline_44 rfl ci_1 h (fun y9 => [some (.ref 29), some (.int v27), some (.int x2), some (.int y9)]) (fun _ => rfl) (fun v28 ev28 h => ?_)
        refine e_goto (tgt := 14) dX8_outline_47 rfl ?_
        exact e_le (ih v27 x2 v28 μ23 _ (by omega) h) ⟨rfl, rfl, rfl, rfl, trivial⟩
set_option maxHeartbeats 4000000 in
theorem g_X8_outline_4 {r : Res} {μ' : Mem} : ∀ n : Nat, ∀ (x1 : Int32) (x2 : Int32), ∀ (μ : Mem) (b : Nat), 0 ≤ b → f_X8_outline_4 n x1 x2 μ = some (r, μ') → G mX8_outline (Qe r μ') 4 [some (.ref 29), some (.int x1), some (.int x2), none] [] μ b := by
  intro n
  induction n with
  | zero => intro x1 x2 μ b hb9 h; exact nomatch (show (none : Out) = some _ from h)
  | succ n ih =>
    intro x1 x2 μ b hb9 h
    rw [f_X8_outline_4.eq_2] at h
    refine e_iload_n dX8_outline_4 rfl ?_
    refine e_aload_n dX8_outline_5 rfl ?_
    refine cI_go h (fun E3 hc1 hr4 => e_VX [] [.int x2] dX8_outline_6 rfl rfl rfl rfl (by decide) (Nat.le_of_ble_eq_true rfl) (by omega) ⟨rfl, hc1⟩ rfl ⟨hr4.symm, rfl⟩) (fun v5 μ2 hc1 h => ?_)
    refine e_VI [] [.int x2] dX8_outline_6 rfl rfl rfl rfl (by decide) (Nat.le_of_ble_eq_true rfl) (by omega) ⟨rfl, hc1⟩ ?_
    refine e_ic_ge (tgt := 56) dX8_outline_9 rfl (fun hc6 => ?_) (fun hc6 => ?_)
    · rw [if_pos hc6] at h
      refine e_iload_n dX8_outline_56 rfl ?_
      exact e_iret .int dX8_outline_57 rfl rfl (ret_eq h)
    · rw [if_neg hc6] at h
      refine e_iconst dX8_outline_12 ci_0 ?_
      refine e_istore_nL [some (.ref 29), some (.int x1), some (.int x2), some (.int (0 : Int32))] dX8_outline_13 (Nat.le_of_ble_eq_true rfl) rfl ?_
      exact e_le (g_X8_outline_14 ih BIG x1 x2 (0 : Int32) μ2 _ (by omega) h) ⟨rfl, rfl, rfl, rfl, trivial⟩
set_option maxHeartbeats 4000000 in
theorem b_X8_outline : ∀ as μ r μ', Γ_X8_outline as μ r μ' → (elvL as).length ≤ 4 ∧ G mX8_outline (Qe r μ') 0 (elv as 4) [] μ 0 := by
  intro as μ r μ' h
  obtain ⟨rfl, h⟩ := h
  refine ⟨Nat.le_of_ble_eq_true rfl, ?_⟩
  show G mX8_outline (Qe r μ') 0 [some (.ref 29), none, none, none] [] μ 0
  unfold F_X8_outline at h
  have hb9 : 0 ≤ 0 := Nat.le_refl _
  refine e_iconst dX8_outline_0 ci_0 ?_
  refine e_istore_nL [some (.ref 29), some (.int (0 : Int32)), none, none] dX8_outline_1 (Nat.le_of_ble_eq_true rfl) rfl ?_
  refine e_iconst dX8_outline_2 ci_0 ?_
  refine e_istore_nL [some (.ref 29), some (.int (0 : Int32)), some (.int (0 : Int32)), none] dX8_outline_3 (Nat.le_of_ble_eq_true rfl) rfl ?_
  exact e_le (g_X8_outline_4 BIG (0 : Int32) (0 : Int32) μ _ (by omega) h) ⟨rfl, rfl, rfl, trivial⟩
set_option maxRecDepth 20000 in
theorem ok_X8_outline (l : Launch) (hl : l.stackTraces = false) : MOK l yX8_outline.cls 5 88 mX8_outline := ⟨lk_all (List.forall_mem_cons.mpr ⟨⟨yX8_rows, cX8_rows, 1, (some .int), 1, 0, by decide, by decide, t_1 7 rfl rfl, hd_X8_rows, Or.inr (Or.inl ⟨rfl, sc_X8_rows l hl, t_5 45 rfl rfl, t_5 42 rfl rfl, t_5 44 rfl rfl, _, rfl, t_p 35 rfl⟩)⟩, List.forall_mem_cons.mpr ⟨⟨yX8_columns, cX8_columns, 1, (some .int), 1, 0, by decide, by decide, t_1 7 rfl rfl, hd_X8_columns, Or.inr (Or.inl ⟨rfl, sc_X8_columns l hl, t_5 49 rfl rfl, t_5 46 rfl rfl, t_5 48 rfl rfl, _, rfl, t_p 36 rfl⟩)⟩, List.forall_mem_cons.mpr ⟨⟨yX8_isFilled, cX8_isFilled, 3, (some .boolean), 1, 0, by decide, by decide, t_1 7 rfl rfl, hd_X8_isFilled, Or.inr (Or.inl ⟨rfl, sc_X8_isFilled l hl, t_5 73 rfl rfl, t_5 70 rfl rfl, t_5 72 rfl rfl, _, rfl, t_p 42 rfl⟩)⟩, List.forall_mem_cons.mpr ⟨⟨yX8_openSides, cX8_openSides, 3, (some .int), 4, 66, by decide, by decide, t_1 7 rfl rfl, hd_X8_openSides, Or.inr (Or.inl ⟨rfl, sc_X8_openSides l hl, t_5 121 rfl rfl, t_5 118 rfl rfl, t_5 120 rfl rfl, _, rfl, t_p 53 rfl⟩)⟩, nil_all⟩⟩⟩⟩), fun ix ci j h => lk_all (P := fun ix q => FldOK yX8_outline.cls ix q.1 q.2) (nil_all) ix (ci, j) h, lk_all (nil_all), lk_all (nil_all), lk_all (nil_all)⟩
theorem hd_X8_outline : CallHd yX8_outline 0 := ⟨by decide +kernel, by decide +kernel, by decide +kernel⟩
theorem sc_X8_outline (l : Launch) (hl : l.stackTraces = false) : SCon l yX8_outline cX8_outline 4 (some .int) 5 88 0 Γ_X8_outline := scon_of mX8_outline cls_ok hl (by decide +kernel) rfl rfl (ok_X8_outline l hl) rfl rfl b_X8_outline
def f_X8_pinnedMany_14 (k4 : Int32 → Int32 → Mem → Out) : Nat → Int32 → Int32 → Int32 → Mem → Out
  | 0, _, _, _, _ => none
  | n + 1, x1, x2, x3, μ => cI (F_X8_columns μ) (fun v11 μ8 => if v11 ≤ x3 then (lt (x2 + (1 : Int32)) (fun v13 => k4 x1 v13 μ8)) else (cI (F_X8_isPinned x2 x3 μ8) (fun v18 μ15 => if v18 = 0 then (lt (x1 + (0 : Int32)) (fun v20 => lt (x3 + (1 : Int32)) (fun v21 => f_X8_pinnedMany_14 k4 n v20 x2 v21 μ15))) else (lt (x1 + (1 : Int32)) (fun v22 => lt (x3 + (1 : Int32)) (fun v23 => f_X8_pinnedMany_14 k4 n v22 x2 v23 μ15))))))
def f_X8_pinnedMany_4 : Nat → Int32 → Int32 → Mem → Out
  | 0, _, _, _ => none
  | n + 1, x1, x2, μ => cI (F_X8_rows μ) (fun v5 μ2 => if v5 ≤ x2 then (rI x1 μ2) else (f_X8_pinnedMany_14 (f_X8_pinnedMany_4 n) BIG x1 x2 (0 : Int32) μ2))
def F_X8_pinnedMany (μ : Mem) : Out := f_X8_pinnedMany_4 BIG (0 : Int32) (0 : Int32) μ
def Γ_X8_pinnedMany : Gam := fun as μ r μ' => as = [.ref 29] ∧ F_X8_pinnedMany μ = some (r, μ')
def mX8_pinnedMany : MI := (cX8_pinnedMany, [(76, (1, 0, 0, 6, Γ_X8_rows)), (84, (1, 0, 0, 6, Γ_X8_columns)), (145, (1, 2, 0, 6, Γ_X8_isPinned))], [], [], [], [], [], none, (some .int))
set_option maxHeartbeats 4000000 in
theorem g_X8_pinnedMany_14 {r : Res} {μ' : Mem} {k4 : Int32 → Int32 → Mem → Out} (hk4 : ∀ (x1 : Int32) (x2 : Int32), ∀ (μ : Mem) (b : Nat), 0 ≤ b → k4 x1 x2 μ = some (r, μ') → G mX8_pinnedMany (Qe r μ') 4 [some (.ref 29), some (.int x1), some (.int x2), none] [] μ b) : ∀ n : Nat, ∀ (x1 : Int32) (x2 : Int32) (x3 : Int32), ∀ (μ : Mem) (b : Nat), 0 ≤ b → f_X8_pinnedMany_14 k4 n x1 x2 x3 μ = some (r, μ') → G mX8_pinnedMany (Qe r μ') 14 [some (.ref 29), some (.int x1), some (.int x2), some (.int x3)] [] μ b := by
  intro n
  induction n with
  | zero => intro x1 x2 x3 μ b hb9 h; exact nomatch (show (none : Out) = some _ from h)
  | succ n ih =>
    intro x1 x2 x3 μ b hb9 h
    rw [f_X8_pinnedMany_14.eq_2] at h
    refine e_iload_n dX8_pinnedMany_14 rfl ?_
    refine e_aload_n dX8_pinnedMany_15 rfl ?_
    refine cI_go h (fun E9 hc7 hr10 => e_VX [] [.int x3] dX8_pinnedMany_16 rfl rfl rfl rfl (by decide) (Nat.le_of_ble_eq_true rfl) (by omega) ⟨rfl, hc7⟩ rfl ⟨hr10.symm, rfl⟩) (fun v11 μ8 hc7 h => ?_)
    refine e_VI [] [.int x3] dX8_pinnedMany_16 rfl rfl rfl rfl (by decide) (Nat.le_of_ble_eq_true rfl) (by omega) ⟨rfl, hc7⟩ ?_
    refine e_ic_ge (tgt := 45) dX8_pinnedMany_19 rfl (fun hc12 => ?_) (fun hc12 => ?_)
    · rw [if_pos hc12] at h
      refine e_iincN 2 (1 : Int32) dX8_pinnedMany_45 rfl ci_1 h (fun y9 => [some (.ref 29), some (.int x1), some (.int y9), some (.int x3)]) (fun _ => rfl) (fun v13 ev13 h => ?_)
      refine e_goto (tgt := 4) dX8_pinnedMany_48 rfl ?_
      exact e_le (hk4 x1 v13 μ8 _ (by omega) h) ⟨rfl, rfl, rfl, trivial⟩
    · rw [if_neg hc12] at h
      refine e_iload_n dX8_pinnedMany_22 rfl ?_
      refine e_aload_n dX8_pinnedMany_23 rfl ?_
      refine e_iload_n dX8_pinnedMany_24 rfl ?_
      refine e_iload_n dX8_pinnedMany_25 rfl ?_
      refine cI_go h (fun E16 hc14 hr17 => e_VX [.int x2, .int x3] [.int x1] dX8_pinnedMany_26 rfl rfl rfl rfl (by decide) (Nat.le_of_ble_eq_true rfl) (by omega) ⟨x2, x3, rfl, hc14⟩ rfl ⟨hr17.symm, rfl⟩) (fun v18 μ15 hc14 h => ?_)
      refine e_VI [.int x2, .int x3] [.int x1] dX8_pinnedMany_26 rfl rfl rfl rfl (by decide) (Nat.le_of_ble_eq_true rfl) (by omega) ⟨x2, x3, rfl, hc14⟩ ?_
      refine e_if_eq (tgt := 36) dX8_pinnedMany_29 rfl (fun hc19 => ?_) (fun hc19 => ?_)
      · rw [if_pos hc19] at h
        refine e_iconst dX8_pinnedMany_36 ci_0 ?_
        refine e_iadd dX8_pinnedMany_37 ?_
        refine e_naI h (fun v20 ev20 h => ?_)
        refine e_istore_nL [some (.ref 29), some (.int v20), some (.int x2), some (.int x3)] dX8_pinnedMany_38 (Nat.le_of_ble_eq_true rfl) rfl ?_
        refine e_iincN 3 (1 : Int32) dX8_pinnedMany_39 rfl ci_1 h (fun y9 => [some (.ref 29), some (.int v20), some (.int x2), some (.int y9)]) (fun _ => rfl) (fun v21 ev21 h => ?_)
        refine e_goto (tgt := 14) dX8_pinnedMany_42 rfl ?_
        exact e_le (ih v20 x2 v21 μ15 _ (by omega) h) ⟨rfl, rfl, rfl, rfl, trivial⟩
      · rw [if_neg hc19] at h
        refine e_iconst dX8_pinnedMany_32 ci_1 ?_
        refine e_goto (tgt := 37) dX8_pinnedMany_33 rfl ?_
        refine e_iadd dX8_pinnedMany_37 ?_
        refine e_naI h (fun v22 ev22 h => ?_)
        refine e_istore_nL [some (.ref 29), some (.int v22), some (.int x2), some (.int x3)] dX8_pinnedMany_38 (Nat.le_of_ble_eq_true rfl) rfl ?_
        refine e_iincN 3 (1 : Int32) dX8_pinnedMany_39 rfl ci_1 h (fun y9 => [some (.ref 29), some (.int v22), some (.int x2), some (.int y9)]) (fun _ => rfl) (fun v23 ev23 h => ?_)
        refine e_goto (tgt := 14) dX8_pinnedMany_42 rfl ?_
        exact e_le (ih v22 x2 v23 μ15 _ (by omega) h) ⟨rfl, rfl, rfl, rfl, trivial⟩
set_option maxHeartbeats 4000000 in
theorem g_X8_pinnedMany_4 {r : Res} {μ' : Mem} : ∀ n : Nat, ∀ (x1 : Int32) (x2 : Int32), ∀ (μ : Mem) (b : Nat), 0 ≤ b → f_X8_pinnedMany_4 n x1 x2 μ = some (r, μ') → G mX8_pinnedMany (Qe r μ') 4 [some (.ref 29), some (.int x1), some (.int x2), none] [] μ b := by
  intro n
  induction n with
  | zero => intro x1 x2 μ b hb9 h; exact nomatch (show (none : Out) = some _ from h)
  | succ n ih =>
    intro x1 x2 μ b hb9 h
    rw [f_X8_pinnedMany_4.eq_2] at h
    refine e_iload_n dX8_pinnedMany_4 rfl ?_
    refine e_aload_n dX8_pinnedMany_5 rfl ?_
    refine cI_go h (fun E3 hc1 hr4 => e_VX [] [.int x2] dX8_pinnedMany_6 rfl rfl rfl rfl (by decide) (Nat.le_of_ble_eq_true rfl) (by omega) ⟨rfl, hc1⟩ rfl ⟨hr4.symm, rfl⟩) (fun v5 μ2 hc1 h => ?_)
    refine e_VI [] [.int x2] dX8_pinnedMany_6 rfl rfl rfl rfl (by decide) (Nat.le_of_ble_eq_true rfl) (by omega) ⟨rfl, hc1⟩ ?_
    refine e_ic_ge (tgt := 51) dX8_pinnedMany_9 rfl (fun hc6 => ?_) (fun hc6 => ?_)
    · rw [if_pos hc6] at h
      refine e_iload_n dX8_pinnedMany_51 rfl ?_
      exact e_iret .int dX8_pinnedMany_52 rfl rfl (ret_eq h)
    · rw [if_neg hc6] at h
      refine e_iconst dX8_pinnedMany_12 ci_0 ?_
      refine e_istore_nL [some (.ref 29), some (.int x1), some (.int x2), some (.int (0 : Int32))] dX8_pinnedMany_13 (Nat.le_of_ble_eq_true rfl) rfl ?_
      exact e_le (g_X8_pinnedMany_14 ih BIG x1 x2 (0 : Int32) μ2 _ (by omega) h) ⟨rfl, rfl, rfl, rfl, trivial⟩
set_option maxHeartbeats 4000000 in
theorem b_X8_pinnedMany : ∀ as μ r μ', Γ_X8_pinnedMany as μ r μ' → (elvL as).length ≤ 4 ∧ G mX8_pinnedMany (Qe r μ') 0 (elv as 4) [] μ 0 := by
  intro as μ r μ' h
  obtain ⟨rfl, h⟩ := h
  refine ⟨Nat.le_of_ble_eq_true rfl, ?_⟩
  show G mX8_pinnedMany (Qe r μ') 0 [some (.ref 29), none, none, none] [] μ 0
  unfold F_X8_pinnedMany at h
  have hb9 : 0 ≤ 0 := Nat.le_refl _
  refine e_iconst dX8_pinnedMany_0 ci_0 ?_
  refine e_istore_nL [some (.ref 29), some (.int (0 : Int32)), none, none] dX8_pinnedMany_1 (Nat.le_of_ble_eq_true rfl) rfl ?_
  refine e_iconst dX8_pinnedMany_2 ci_0 ?_
  refine e_istore_nL [some (.ref 29), some (.int (0 : Int32)), some (.int (0 : Int32)), none] dX8_pinnedMany_3 (Nat.le_of_ble_eq_true rfl) rfl ?_
  exact e_le (g_X8_pinnedMany_4 BIG (0 : Int32) (0 : Int32) μ _ (by omega) h) ⟨rfl, rfl, rfl, trivial⟩
set_option maxRecDepth 20000 in
theorem ok_X8_pinnedMany (l : Launch) (hl : l.stackTraces = false) : MOK l yX8_pinnedMany.cls 2 22 mX8_pinnedMany := ⟨lk_all (List.forall_mem_cons.mpr ⟨⟨yX8_rows, cX8_rows, 1, (some .int), 1, 0, by decide, by decide, t_1 7 rfl rfl, hd_X8_rows, Or.inr (Or.inl ⟨rfl, sc_X8_rows l hl, t_5 45 rfl rfl, t_5 42 rfl rfl, t_5 44 rfl rfl, _, rfl, t_p 35 rfl⟩)⟩, List.forall_mem_cons.mpr ⟨⟨yX8_columns, cX8_columns, 1, (some .int), 1, 0, by decide, by decide, t_1 7 rfl rfl, hd_X8_columns, Or.inr (Or.inl ⟨rfl, sc_X8_columns l hl, t_5 49 rfl rfl, t_5 46 rfl rfl, t_5 48 rfl rfl, _, rfl, t_p 36 rfl⟩)⟩, List.forall_mem_cons.mpr ⟨⟨yX8_isPinned, cX8_isPinned, 3, (some .boolean), 1, 0, by decide, by decide, t_1 7 rfl rfl, hd_X8_isPinned, Or.inr (Or.inl ⟨rfl, sc_X8_isPinned l hl, t_5 89 rfl rfl, t_5 86 rfl rfl, t_5 88 rfl rfl, _, rfl, t_p 45 rfl⟩)⟩, nil_all⟩⟩⟩), fun ix ci j h => lk_all (P := fun ix q => FldOK yX8_pinnedMany.cls ix q.1 q.2) (nil_all) ix (ci, j) h, lk_all (nil_all), lk_all (nil_all), lk_all (nil_all)⟩
theorem hd_X8_pinnedMany : CallHd yX8_pinnedMany 0 := ⟨by decide +kernel, by decide +kernel, by decide +kernel⟩
theorem sc_X8_pinnedMany (l : Launch) (hl : l.stackTraces = false) : SCon l yX8_pinnedMany cX8_pinnedMany 4 (some .int) 2 22 0 Γ_X8_pinnedMany := scon_of mX8_pinnedMany cls_ok hl (by decide +kernel) rfl rfl (ok_X8_pinnedMany l hl) rfl rfl b_X8_pinnedMany
def F_X8_wantAt (a0 : Int32) (μ : Mem) : Out := cI (F_X8_rows μ) (fun v5 μ2 => if v5 ≤ a0 then (cI (F_X8_rows μ2) (fun v11 μ8 => rI (((44 : Int32) + a0) - v11) μ8)) else (rI ((38 : Int32) + a0) μ2))
def Γ_X8_wantAt : Gam := fun as μ r μ' => ∃ (a0 : Int32), as = [.ref 29, .int a0] ∧ F_X8_wantAt a0 μ = some (r, μ')
def mX8_wantAt : MI := (cX8_wantAt, [(76, (1, 0, 0, 6, Γ_X8_rows))], [], [], [], [], [], none, (some .int))
set_option maxHeartbeats 4000000 in
theorem b_X8_wantAt : ∀ as μ r μ', Γ_X8_wantAt as μ r μ' → (elvL as).length ≤ 2 ∧ G mX8_wantAt (Qe r μ') 0 (elv as 2) [] μ 0 := by
  intro as μ r μ' h
  obtain ⟨a0, rfl, h⟩ := h
  refine ⟨Nat.le_of_ble_eq_true rfl, ?_⟩
  show G mX8_wantAt (Qe r μ') 0 [some (.ref 29), some (.int a0)] [] μ 0
  unfold F_X8_wantAt at h
  have hb9 : 0 ≤ 0 := Nat.le_refl _
  refine e_iload_n dX8_wantAt_0 rfl ?_
  refine e_aload_n dX8_wantAt_1 rfl ?_
  refine cI_go h (fun E3 hc1 hr4 => e_VX [] [.int a0] dX8_wantAt_2 rfl rfl rfl rfl (by decide) (Nat.le_of_ble_eq_true rfl) (by omega) ⟨rfl, hc1⟩ rfl ⟨hr4.symm, rfl⟩) (fun v5 μ2 hc1 h => ?_)
  refine e_VI [] [.int a0] dX8_wantAt_2 rfl rfl rfl rfl (by decide) (Nat.le_of_ble_eq_true rfl) (by omega) ⟨rfl, hc1⟩ ?_
  refine e_ic_ge (tgt := 15) dX8_wantAt_5 rfl (fun hc6 => ?_) (fun hc6 => ?_)
  · rw [if_pos hc6] at h
    refine e_bipush dX8_wantAt_15 cb_44 ?_
    refine e_iload_n dX8_wantAt_17 rfl ?_
    refine e_iadd dX8_wantAt_18 ?_
    refine e_aload_n dX8_wantAt_19 rfl ?_
    refine cI_go h (fun E9 hc7 hr10 => e_VX [] [.int ((44 : Int32) + a0)] dX8_wantAt_20 rfl rfl rfl rfl (by decide) (Nat.le_of_ble_eq_true rfl) (by omega) ⟨rfl, hc7⟩ rfl ⟨hr10.symm, rfl⟩) (fun v11 μ8 hc7 h => ?_)
    refine e_VI [] [.int ((44 : Int32) + a0)] dX8_wantAt_20 rfl rfl rfl rfl (by decide) (Nat.le_of_ble_eq_true rfl) (by omega) ⟨rfl, hc7⟩ ?_
    refine e_isub dX8_wantAt_23 ?_
    exact e_iret .int dX8_wantAt_24 rfl rfl (ret_eq h)
  · rw [if_neg hc6] at h
    refine e_bipush dX8_wantAt_8 cb_38 ?_
    refine e_iload_n dX8_wantAt_10 rfl ?_
    refine e_iadd dX8_wantAt_11 ?_
    refine e_goto (tgt := 24) dX8_wantAt_12 rfl ?_
    exact e_iret .int dX8_wantAt_24 rfl rfl (ret_eq h)
set_option maxRecDepth 20000 in
theorem ok_X8_wantAt (l : Launch) (hl : l.stackTraces = false) : MOK l yX8_wantAt.cls 2 20 mX8_wantAt := ⟨lk_all (List.forall_mem_cons.mpr ⟨⟨yX8_rows, cX8_rows, 1, (some .int), 1, 0, by decide, by decide, t_1 7 rfl rfl, hd_X8_rows, Or.inr (Or.inl ⟨rfl, sc_X8_rows l hl, t_5 45 rfl rfl, t_5 42 rfl rfl, t_5 44 rfl rfl, _, rfl, t_p 35 rfl⟩)⟩, nil_all⟩), fun ix ci j h => lk_all (P := fun ix q => FldOK yX8_wantAt.cls ix q.1 q.2) (nil_all) ix (ci, j) h, lk_all (nil_all), lk_all (nil_all), lk_all (nil_all)⟩
theorem hd_X8_wantAt : CallHd yX8_wantAt 1 := ⟨by decide +kernel, by decide +kernel, by decide +kernel⟩
theorem sc_X8_wantAt (l : Launch) (hl : l.stackTraces = false) : SCon l yX8_wantAt cX8_wantAt 2 (some .int) 2 20 0 Γ_X8_wantAt := scon_of mX8_wantAt cls_ok hl (by decide +kernel) rfl rfl (ok_X8_wantAt l hl) rfl rfl b_X8_wantAt
def f_X8_wantsOf_5 : Nat → Int32 → Int32 → Int32 → Mem → Out
  | 0, _, _, _, _ => none
  | n + 1, x2, x3, x4, μ => if x2 ≤ x4 then (rI x3 μ) else (cI (F_X8_wantAt x4 μ) (fun v6 μ3 => ck (inb v6 50) (lt (x3 + (μ3.1 30 (Int32.toNatClampNeg v6))) (fun v8 => lt (x4 + (1 : Int32)) (fun v9 => f_X8_wantsOf_5 n x2 v8 v9 μ3)))))
def F_X8_wantsOf (a0 : Int32) (a1 : Int32) (μ : Mem) : Out := f_X8_wantsOf_5 BIG a1 (0 : Int32) a0 μ
def Γ_X8_wantsOf : Gam := fun as μ r μ' => ∃ (a0 : Int32) (a1 : Int32), as = [.ref 29, .int a0, .int a1] ∧ F_X8_wantsOf a0 a1 μ = some (r, μ')
def mX8_wantsOf : MI := (cX8_wantsOf, [(105, (1, 1, 0, 6, Γ_X8_wantAt))], [(7, 6, 0)], [], [], [], [], none, (some .int))
set_option maxHeartbeats 4000000 in
theorem g_X8_wantsOf_5 {r : Res} {μ' : Mem} : ∀ n : Nat, ∀ (x2 : Int32) (x3 : Int32) (x4 : Int32), ∀ (μ : Mem) (b : Nat), 0 ≤ b → f_X8_wantsOf_5 n x2 x3 x4 μ = some (r, μ') → G mX8_wantsOf (Qe r μ') 5 [some (.ref 29), none, some (.int x2), some (.int x3), some (.int x4)] [] μ b := by
  intro n
  induction n with
  | zero => intro x2 x3 x4 μ b hb9 h; exact nomatch (show (none : Out) = some _ from h)
  | succ n ih =>
    intro x2 x3 x4 μ b hb9 h
    rw [f_X8_wantsOf_5.eq_2] at h
    refine e_iload dX8_wantsOf_5 rfl ?_
    refine e_iload_n dX8_wantsOf_7 rfl ?_
    refine e_ic_ge (tgt := 31) dX8_wantsOf_8 rfl (fun hc1 => ?_) (fun hc1 => ?_)
    · rw [if_pos hc1] at h
      refine e_iload_n dX8_wantsOf_31 rfl ?_
      exact e_iret .int dX8_wantsOf_32 rfl rfl (ret_eq h)
    · rw [if_neg hc1] at h
      refine e_iload_n dX8_wantsOf_11 rfl ?_
      refine e_aload_n dX8_wantsOf_12 rfl ?_
      refine e_get (ci := 6) (j := 0) (t := 2) (v := .ref 30) dX8_wantsOf_13 rfl (by decide) rfl rfl rfl ?_
      refine e_aload_n dX8_wantsOf_16 rfl ?_
      refine e_iload dX8_wantsOf_17 rfl ?_
      refine cI_go h (fun E4 hc2 hr5 => e_VX [.int x4] [.ref 30, .int x3] dX8_wantsOf_19 rfl rfl rfl rfl (by decide) (Nat.le_of_ble_eq_true rfl) (by omega) ⟨x4, rfl, hc2⟩ rfl ⟨hr5.symm, rfl⟩) (fun v6 μ3 hc2 h => ?_)
      refine e_VI [.int x4] [.ref 30, .int x3] dX8_wantsOf_19 rfl rfl rfl rfl (by decide) (Nat.le_of_ble_eq_true rfl) (by omega) ⟨x4, rfl, hc2⟩ ?_
      obtain ⟨hc7, h⟩ := ck_eq h
      refine e_ialoadL (μ3.1 30 (Int32.toNatClampNeg v6)) (n := 50) dX8_wantsOf_22 (by decide) rfl hc7 rfl ?_
      refine e_iadd dX8_wantsOf_23 ?_
      refine e_naI h (fun v8 ev8 h => ?_)
      refine e_istore_nL [some (.ref 29), none, some (.int x2), some (.int v8), some (.int x4)] dX8_wantsOf_24 (Nat.le_of_ble_eq_true rfl) rfl ?_
      refine e_iincN 4 (1 : Int32) dX8_wantsOf_25 rfl ci_1 h (fun y9 => [some (.ref 29), none, some (.int x2), some (.int v8), some (.int y9)]) (fun _ => rfl) (fun v9 ev9 h => ?_)
      refine e_goto (tgt := 5) dX8_wantsOf_28 rfl ?_
      exact e_le (ih x2 v8 v9 μ3 _ (by omega) h) ⟨rfl, rfl, rfl, rfl, trivial⟩
set_option maxHeartbeats 4000000 in
theorem b_X8_wantsOf : ∀ as μ r μ', Γ_X8_wantsOf as μ r μ' → (elvL as).length ≤ 5 ∧ G mX8_wantsOf (Qe r μ') 0 (elv as 5) [] μ 0 := by
  intro as μ r μ' h
  obtain ⟨a0, a1, rfl, h⟩ := h
  refine ⟨Nat.le_of_ble_eq_true rfl, ?_⟩
  show G mX8_wantsOf (Qe r μ') 0 [some (.ref 29), some (.int a0), some (.int a1), none, none] [] μ 0
  unfold F_X8_wantsOf at h
  have hb9 : 0 ≤ 0 := Nat.le_refl _
  refine e_iconst dX8_wantsOf_0 ci_0 ?_
  refine e_istore_nL [some (.ref 29), some (.int a0), some (.int a1), some (.int (0 : Int32)), none] dX8_wantsOf_1 (Nat.le_of_ble_eq_true rfl) rfl ?_
  refine e_iload_n dX8_wantsOf_2 rfl ?_
  refine e_istoreL [some (.ref 29), some (.int a0), some (.int a1), some (.int (0 : Int32)), some (.int a0)] dX8_wantsOf_3 (Nat.le_of_ble_eq_true rfl) rfl ?_
  exact e_le (g_X8_wantsOf_5 BIG a1 (0 : Int32) a0 μ _ (by omega) h) ⟨rfl, rfl, rfl, rfl, trivial⟩
set_option maxRecDepth 20000 in
theorem ok_X8_wantsOf (l : Launch) (hl : l.stackTraces = false) : MOK l yX8_wantsOf.cls 3 41 mX8_wantsOf := ⟨lk_all (List.forall_mem_cons.mpr ⟨⟨yX8_wantAt, cX8_wantAt, 2, (some .int), 2, 20, by decide, by decide, t_1 7 rfl rfl, hd_X8_wantAt, Or.inr (Or.inl ⟨rfl, sc_X8_wantAt l hl, t_5 53 rfl rfl, t_5 50 rfl rfl, t_5 52 rfl rfl, _, rfl, t_p 37 rfl⟩)⟩, nil_all⟩), fun ix ci j h => lk_all (P := fun ix q => FldOK yX8_wantsOf.cls ix q.1 q.2) (List.forall_mem_cons.mpr ⟨⟨_, rfl, by decide, t_4 178 rfl rfl⟩, nil_all⟩) ix (ci, j) h, lk_all (nil_all), lk_all (nil_all), lk_all (nil_all)⟩
theorem hd_X8_wantsOf : CallHd yX8_wantsOf 2 := ⟨by decide +kernel, by decide +kernel, by decide +kernel⟩
theorem sc_X8_wantsOf (l : Launch) (hl : l.stackTraces = false) : SCon l yX8_wantsOf cX8_wantsOf 5 (some .int) 3 41 0 Γ_X8_wantsOf := scon_of mX8_wantsOf cls_ok hl (by decide +kernel) rfl rfl (ok_X8_wantsOf l hl) rfl rfl b_X8_wantsOf
def f_X8_wrongLines_4 : Nat → Int32 → Int32 → Mem → Out
  | 0, _, _, _ => none
  | n + 1, x1, x2, μ => cI (F_X8_rows μ) (fun v5 μ2 => cI (F_X8_columns μ2) (fun v10 μ7 => if (v5 + v10) ≤ x2 then (rI x1 μ7) else (cI (F_X8_countOf x2 μ7) (fun v16 μ13 => cI (F_X8_wantAt x2 μ13) (fun v21 μ18 => ck (inb v21 50) (if v16 = (μ18.1 30 (Int32.toNatClampNeg v21)) then (lt (x1 + (0 : Int32)) (fun v24 => lt (x2 + (1 : Int32)) (fun v25 => f_X8_wrongLines_4 n v24 v25 μ18))) else (lt (x1 + (1 : Int32)) (fun v26 => lt (x2 + (1 : Int32)) (fun v27 => f_X8_wrongLines_4 n v26 v27 μ18)))))))))
def F_X8_wrongLines (μ : Mem) : Out := f_X8_wrongLines_4 BIG (0 : Int32) (0 : Int32) μ
def Γ_X8_wrongLines : Gam := fun as μ r μ' => as = [.ref 29] ∧ F_X8_wrongLines μ = some (r, μ')
def mX8_wrongLines : MI := (cX8_wrongLines, [(76, (1, 0, 0, 6, Γ_X8_rows)), (84, (1, 0, 0, 6, Γ_X8_columns)), (102, (1, 1, 0, 6, Γ_X8_countOf)), (105, (1, 1, 0, 6, Γ_X8_wantAt))], [(7, 6, 0)], [], [], [], [], none, (some .int))
set_option maxHeartbeats 4000000 in
theorem g_X8_wrongLines_4 {r : Res} {μ' : Mem} : ∀ n : Nat, ∀ (x1 : Int32) (x2 : Int32), ∀ (μ : Mem) (b : Nat), 0 ≤ b → f_X8_wrongLines_4 n x1 x2 μ = some (r, μ') → G mX8_wrongLines (Qe r μ') 4 [some (.ref 29), some (.int x1), some (.int x2)] [] μ b := by
  intro n
  induction n with
  | zero => intro x1 x2 μ b hb9 h; exact nomatch (show (none : Out) = some _ from h)
  | succ n ih =>
    intro x1 x2 μ b hb9 h
    rw [f_X8_wrongLines_4.eq_2] at h
    refine e_iload_n dX8_wrongLines_4 rfl ?_
    refine e_aload_n dX8_wrongLines_5 rfl ?_
    refine cI_go h (fun E3 hc1 hr4 => e_VX [] [.int x2] dX8_wrongLines_6 rfl rfl rfl rfl (by decide) (Nat.le_of_ble_eq_true rfl) (by omega) ⟨rfl, hc1⟩ rfl ⟨hr4.symm, rfl⟩) (fun v5 μ2 hc1 h => ?_)
    refine e_VI [] [.int x2] dX8_wrongLines_6 rfl rfl rfl rfl (by decide) (Nat.le_of_ble_eq_true rfl) (by omega) ⟨rfl, hc1⟩ ?_
    refine e_aload_n dX8_wrongLines_9 rfl ?_
    refine cI_go h (fun E8 hc6 hr9 => e_VX [] [.int v5, .int x2] dX8_wrongLines_10 rfl rfl rfl rfl (by decide) (Nat.le_of_ble_eq_true rfl) (by omega) ⟨rfl, hc6⟩ rfl ⟨hr9.symm, rfl⟩) (fun v10 μ7 hc6 h => ?_)
    refine e_VI [] [.int v5, .int x2] dX8_wrongLines_10 rfl rfl rfl rfl (by decide) (Nat.le_of_ble_eq_true rfl) (by omega) ⟨rfl, hc6⟩ ?_
    refine e_iadd dX8_wrongLines_13 ?_
    refine e_ic_ge (tgt := 49) dX8_wrongLines_14 rfl (fun hc11 => ?_) (fun hc11 => ?_)
    · rw [if_pos hc11] at h
      refine e_iload_n dX8_wrongLines_49 rfl ?_
      exact e_iret .int dX8_wrongLines_50 rfl rfl (ret_eq h)
    · rw [if_neg hc11] at h
      refine e_iload_n dX8_wrongLines_17 rfl ?_
      refine e_aload_n dX8_wrongLines_18 rfl ?_
      refine e_iload_n dX8_wrongLines_19 rfl ?_
      refine cI_go h (fun E14 hc12 hr15 => e_VX [.int x2] [.int x1] dX8_wrongLines_20 rfl rfl rfl rfl (by decide) (Nat.le_of_ble_eq_true rfl) (by omega) ⟨x2, rfl, hc12⟩ rfl ⟨hr15.symm, rfl⟩) (fun v16 μ13 hc12 h => ?_)
      refine e_VI [.int x2] [.int x1] dX8_wrongLines_20 rfl rfl rfl rfl (by decide) (Nat.le_of_ble_eq_true rfl) (by omega) ⟨x2, rfl, hc12⟩ ?_
      refine e_aload_n dX8_wrongLines_23 rfl ?_
      refine e_get (ci := 6) (j := 0) (t := 2) (v := .ref 30) dX8_wrongLines_24 rfl (by decide) rfl rfl rfl ?_
      refine e_aload_n dX8_wrongLines_27 rfl ?_
      refine e_iload_n dX8_wrongLines_28 rfl ?_
      refine cI_go h (fun E19 hc17 hr20 => e_VX [.int x2] [.ref 30, .int v16, .int x1] dX8_wrongLines_29 rfl rfl rfl rfl (by decide) (Nat.le_of_ble_eq_true rfl) (by omega) ⟨x2, rfl, hc17⟩ rfl ⟨hr20.symm, rfl⟩) (fun v21 μ18 hc17 h => ?_)
      refine e_VI [.int x2] [.ref 30, .int v16, .int x1] dX8_wrongLines_29 rfl rfl rfl rfl (by decide) (Nat.le_of_ble_eq_true rfl) (by omega) ⟨x2, rfl, hc17⟩ ?_
      obtain ⟨hc22, h⟩ := ck_eq h
      refine e_ialoadL (μ18.1 30 (Int32.toNatClampNeg v21)) (n := 50) dX8_wrongLines_32 (by decide) rfl hc22 rfl ?_
      refine e_ic_eq (tgt := 40) dX8_wrongLines_33 rfl (fun hc23 => ?_) (fun hc23 => ?_)
      · rw [if_pos hc23] at h
        refine e_iconst dX8_wrongLines_40 ci_0 ?_
        refine e_iadd dX8_wrongLines_41 ?_
        refine e_naI h (fun v24 ev24 h => ?_)
        refine e_istore_nL [some (.ref 29), some (.int v24), some (.int x2)] dX8_wrongLines_42 (Nat.le_of_ble_eq_true rfl) rfl ?_
        refine e_iincN 2 (1 : Int32) dX8_wrongLines_43 rfl ci_1 h (fun y9 => [some (.ref 29), some (.int v24), some (.int y9)]) (fun _ => rfl) (fun v25 ev25 h => ?_)
        refine e_goto (tgt := 4) dX8_wrongLines_46 rfl ?_
        exact e_le (ih v24 v25 μ18 _ (by omega) h) ⟨rfl, rfl, rfl, trivial⟩
      · rw [if_neg hc23] at h
        refine e_iconst dX8_wrongLines_36 ci_1 ?_
        refine e_goto (tgt := 41) dX8_wrongLines_37 rfl ?_
        refine e_iadd dX8_wrongLines_41 ?_
        refine e_naI h (fun v26 ev26 h => ?_)
        refine e_istore_nL [some (.ref 29), some (.int v26), some (.int x2)] dX8_wrongLines_42 (Nat.le_of_ble_eq_true rfl) rfl ?_
        refine e_iincN 2 (1 : Int32) dX8_wrongLines_43 rfl ci_1 h (fun y9 => [some (.ref 29), some (.int v26), some (.int y9)]) (fun _ => rfl) (fun v27 ev27 h => ?_)
        refine e_goto (tgt := 4) dX8_wrongLines_46 rfl ?_
        exact e_le (ih v26 v27 μ18 _ (by omega) h) ⟨rfl, rfl, rfl, trivial⟩
set_option maxHeartbeats 4000000 in
theorem b_X8_wrongLines : ∀ as μ r μ', Γ_X8_wrongLines as μ r μ' → (elvL as).length ≤ 3 ∧ G mX8_wrongLines (Qe r μ') 0 (elv as 3) [] μ 0 := by
  intro as μ r μ' h
  obtain ⟨rfl, h⟩ := h
  refine ⟨Nat.le_of_ble_eq_true rfl, ?_⟩
  show G mX8_wrongLines (Qe r μ') 0 [some (.ref 29), none, none] [] μ 0
  unfold F_X8_wrongLines at h
  have hb9 : 0 ≤ 0 := Nat.le_refl _
  refine e_iconst dX8_wrongLines_0 ci_0 ?_
  refine e_istore_nL [some (.ref 29), some (.int (0 : Int32)), none] dX8_wrongLines_1 (Nat.le_of_ble_eq_true rfl) rfl ?_
  refine e_iconst dX8_wrongLines_2 ci_0 ?_
  refine e_istore_nL [some (.ref 29), some (.int (0 : Int32)), some (.int (0 : Int32))] dX8_wrongLines_3 (Nat.le_of_ble_eq_true rfl) rfl ?_
  exact e_le (g_X8_wrongLines_4 BIG (0 : Int32) (0 : Int32) μ _ (by omega) h) ⟨rfl, rfl, rfl, trivial⟩
set_option maxRecDepth 20000 in
theorem ok_X8_wrongLines (l : Launch) (hl : l.stackTraces = false) : MOK l yX8_wrongLines.cls 4 65 mX8_wrongLines := ⟨lk_all (List.forall_mem_cons.mpr ⟨⟨yX8_rows, cX8_rows, 1, (some .int), 1, 0, by decide, by decide, t_1 7 rfl rfl, hd_X8_rows, Or.inr (Or.inl ⟨rfl, sc_X8_rows l hl, t_5 45 rfl rfl, t_5 42 rfl rfl, t_5 44 rfl rfl, _, rfl, t_p 35 rfl⟩)⟩, List.forall_mem_cons.mpr ⟨⟨yX8_columns, cX8_columns, 1, (some .int), 1, 0, by decide, by decide, t_1 7 rfl rfl, hd_X8_columns, Or.inr (Or.inl ⟨rfl, sc_X8_columns l hl, t_5 49 rfl rfl, t_5 46 rfl rfl, t_5 48 rfl rfl, _, rfl, t_p 36 rfl⟩)⟩, List.forall_mem_cons.mpr ⟨⟨yX8_countOf, cX8_countOf, 4, (some .int), 3, 42, by decide, by decide, t_1 7 rfl rfl, hd_X8_countOf, Or.inr (Or.inl ⟨rfl, sc_X8_countOf l hl, t_5 57 rfl rfl, t_5 54 rfl rfl, t_5 56 rfl rfl, _, rfl, t_p 38 rfl⟩)⟩, List.forall_mem_cons.mpr ⟨⟨yX8_wantAt, cX8_wantAt, 2, (some .int), 2, 20, by decide, by decide, t_1 7 rfl rfl, hd_X8_wantAt, Or.inr (Or.inl ⟨rfl, sc_X8_wantAt l hl, t_5 53 rfl rfl, t_5 50 rfl rfl, t_5 52 rfl rfl, _, rfl, t_p 37 rfl⟩)⟩, nil_all⟩⟩⟩⟩), fun ix ci j h => lk_all (P := fun ix q => FldOK yX8_wrongLines.cls ix q.1 q.2) (List.forall_mem_cons.mpr ⟨⟨_, rfl, by decide, t_4 178 rfl rfl⟩, nil_all⟩) ix (ci, j) h, lk_all (nil_all), lk_all (nil_all), lk_all (nil_all)⟩
theorem hd_X8_wrongLines : CallHd yX8_wrongLines 0 := ⟨by decide +kernel, by decide +kernel, by decide +kernel⟩
theorem sc_X8_wrongLines (l : Launch) (hl : l.stackTraces = false) : SCon l yX8_wrongLines cX8_wrongLines 3 (some .int) 4 65 0 Γ_X8_wrongLines := scon_of mX8_wrongLines cls_ok hl (by decide +kernel) rfl rfl (ok_X8_wrongLines l hl) rfl rfl b_X8_wrongLines
def f_X8_about_16 (x1 : Int32) (s0 : Int32) (μ : Mem) : Out := lt (sI μ 29 8 s0) (fun μ7 => if x1 = (0 : Int32) then (ck (inb x1 50) (rI (μ7.1 30 (Int32.toNatClampNeg x1)) μ7)) else if x1 = (1 : Int32) then (ck (inb x1 50) (rI (μ7.1 30 (Int32.toNatClampNeg x1)) μ7)) else if x1 = (2 : Int32) then (cI (F_X8_filledMany μ7) (fun v17 μ14 => rI v17 μ14)) else if x1 = (3 : Int32) then (cI (F_X8_pinnedMany μ7) (fun v23 μ20 => rI v23 μ20)) else if x1 = (4 : Int32) then (cI (F_X8_rows μ7) (fun v29 μ26 => cI (F_X8_wantsOf (0 : Int32) v29 μ26) (fun v34 μ31 => rI v34 μ31))) else if x1 = (5 : Int32) then (cI (F_X8_rows μ7) (fun v40 μ37 => cI (F_X8_rows μ37) (fun v45 μ42 => cI (F_X8_columns μ42) (fun v50 μ47 => cI (F_X8_wantsOf v40 (v45 + v50) μ47) (fun v55 μ52 => rI v55 μ52))))) else if x1 = (6 : Int32) then (cI (F_X8_wrongLines μ7) (fun v61 μ58 => rI v61 μ58)) else if x1 = (7 : Int32) then (cI (F_X8_laysPieces μ7) (fun v67 μ64 => rI v67 μ64)) else if x1 = (8 : Int32) then (cI (F_X8_outline μ7) (fun v73 μ70 => rI v73 μ70)) else if x1 = (9 : Int32) then (cI (F_X8_laysHull μ7) (fun v79 μ76 => rI v79 μ76)) else if x1 = (10 : Int32) then (cI (F_X8_exchangeOf (-9 : Int32) μ7) (fun v85 μ82 => rI v85 μ82)) else (rI (0 : Int32) μ7))
def F_X8_about (a0 : Int32) (μ : Mem) : Out := cI (F_X8_in a0 (0 : Int32) (10 : Int32) μ) (fun v5 μ2 => if v5 = 0 then (f_X8_about_16 a0 (1 : Int32) μ2) else (f_X8_about_16 a0 (0 : Int32) μ2))
def Γ_X8_about : Gam := fun as μ r μ' => ∃ (a0 : Int32), as = [.ref 29, .int a0] ∧ F_X8_about a0 μ = some (r, μ')
def mX8_about : MI := (cX8_about, [(76, (1, 0, 0, 6, Γ_X8_rows)), (80, (0, 3, 0, 0, Γ_X8_in)), (84, (1, 0, 0, 6, Γ_X8_columns)), (124, (1, 0, 0, 6, Γ_X8_filledMany)), (193, (1, 0, 0, 6, Γ_X8_pinnedMany)), (196, (1, 2, 0, 6, Γ_X8_wantsOf)), (199, (1, 0, 0, 6, Γ_X8_wrongLines)), (202, (1, 0, 0, 6, Γ_X8_laysPieces)), (205, (1, 0, 0, 6, Γ_X8_outline)), (208, (1, 0, 0, 6, Γ_X8_laysHull)), (211, (1, 1, 0, 6, Γ_X8_exchangeOf))], [(7, 6, 0), (65, 6, 8)], [], [], [], [], none, (some .int))
set_option maxHeartbeats 4000000 in
theorem g_X8_about_16 {r : Res} {μ' : Mem} : ∀ (x1 : Int32) (s0 : Int32), ∀ (μ : Mem) (b : Nat), 0 ≤ b → f_X8_about_16 x1 s0 μ = some (r, μ') → G mX8_about (Qe r μ') 16 [some (.ref 29), some (.int x1)] [.int s0, .ref 29] μ b := by
  intro x1 s0 μ b hb9 h
  unfold f_X8_about_16 at h
  refine e_putI (ci := 6) (j := 8) dX8_about_16 rfl (by decide) rfl rfl ?_
  refine e_naM (e := sI μ 29 8 s0) h (fun μ7 eμ7 h => ?_)
  refine e_iload_n dX8_about_19 rfl ?_
  by_cases hc8 : x1 = (0 : Int32)
  · rw [if_pos hc8] at h
    refine e_tsL (0 : Int32) (tgt := 80) hc8 dX8_about_20 (by decide) (by decide) rfl rfl ?_
    refine e_aload_n dX8_about_80 rfl ?_
    refine e_get (ci := 6) (j := 0) (t := 2) (v := .ref 30) dX8_about_81 rfl (by decide) rfl rfl rfl ?_
    refine e_iload_n dX8_about_84 rfl ?_
    obtain ⟨hc9, h⟩ := ck_eq h
    refine e_ialoadL (μ7.1 30 (Int32.toNatClampNeg x1)) (n := 50) dX8_about_85 (by decide) rfl hc9 rfl ?_
    exact e_iret .int dX8_about_86 rfl rfl (ret_eq h)
  rw [if_neg hc8] at h
  by_cases hc10 : x1 = (1 : Int32)
  · rw [if_pos hc10] at h
    refine e_tsL (1 : Int32) (tgt := 80) hc10 dX8_about_20 (by decide) (by decide) rfl rfl ?_
    refine e_aload_n dX8_about_80 rfl ?_
    refine e_get (ci := 6) (j := 0) (t := 2) (v := .ref 30) dX8_about_81 rfl (by decide) rfl rfl rfl ?_
    refine e_iload_n dX8_about_84 rfl ?_
    obtain ⟨hc11, h⟩ := ck_eq h
    refine e_ialoadL (μ7.1 30 (Int32.toNatClampNeg x1)) (n := 50) dX8_about_85 (by decide) rfl hc11 rfl ?_
    exact e_iret .int dX8_about_86 rfl rfl (ret_eq h)
  rw [if_neg hc10] at h
  by_cases hc12 : x1 = (2 : Int32)
  · rw [if_pos hc12] at h
    refine e_tsL (2 : Int32) (tgt := 87) hc12 dX8_about_20 (by decide) (by decide) rfl rfl ?_
    refine e_aload_n dX8_about_87 rfl ?_
    refine cI_go h (fun E15 hc13 hr16 => e_VX [] [] dX8_about_88 rfl rfl rfl rfl (by decide) (Nat.le_of_ble_eq_true rfl) (by omega) ⟨rfl, hc13⟩ rfl ⟨hr16.symm, rfl⟩) (fun v17 μ14 hc13 h => ?_)
    refine e_VI [] [] dX8_about_88 rfl rfl rfl rfl (by decide) (Nat.le_of_ble_eq_true rfl) (by omega) ⟨rfl, hc13⟩ ?_
    exact e_iret .int dX8_about_91 rfl rfl (ret_eq h)
  rw [if_neg hc12] at h
  by_cases hc18 : x1 = (3 : Int32)
  · rw [if_pos hc18] at h
    refine e_tsL (3 : Int32) (tgt := 92) hc18 dX8_about_20 (by decide) (by decide) rfl rfl ?_
    refine e_aload_n dX8_about_92 rfl ?_
    refine cI_go h (fun E21 hc19 hr22 => e_VX [] [] dX8_about_93 rfl rfl rfl rfl (by decide) (Nat.le_of_ble_eq_true rfl) (by omega) ⟨rfl, hc19⟩ rfl ⟨hr22.symm, rfl⟩) (fun v23 μ20 hc19 h => ?_)
    refine e_VI [] [] dX8_about_93 rfl rfl rfl rfl (by decide) (Nat.le_of_ble_eq_true rfl) (by omega) ⟨rfl, hc19⟩ ?_
    exact e_iret .int dX8_about_96 rfl rfl (ret_eq h)
  rw [if_neg hc18] at h
  by_cases hc24 : x1 = (4 : Int32)
  · rw [if_pos hc24] at h
    refine e_tsL (4 : Int32) (tgt := 97) hc24 dX8_about_20 (by decide) (by decide) rfl rfl ?_
    refine e_aload_n dX8_about_97 rfl ?_
    refine e_iconst dX8_about_98 ci_0 ?_
    refine e_aload_n dX8_about_99 rfl ?_
    refine cI_go h (fun E27 hc25 hr28 => e_VX [] [.int (0 : Int32), .ref 29] dX8_about_100 rfl rfl rfl rfl (by decide) (Nat.le_of_ble_eq_true rfl) (by omega) ⟨rfl, hc25⟩ rfl ⟨hr28.symm, rfl⟩) (fun v29 μ26 hc25 h => ?_)
    refine e_VI [] [.int (0 : Int32), .ref 29] dX8_about_100 rfl rfl rfl rfl (by decide) (Nat.le_of_ble_eq_true rfl) (by omega) ⟨rfl, hc25⟩ ?_
    refine cI_go h (fun E32 hc30 hr33 => e_VX [.int (0 : Int32), .int v29] [] dX8_about_103 rfl rfl rfl rfl (by decide) (Nat.le_of_ble_eq_true rfl) (by omega) ⟨(0 : Int32), v29, rfl, hc30⟩ rfl ⟨hr33.symm, rfl⟩) (fun v34 μ31 hc30 h => ?_)
    refine e_VI [.int (0 : Int32), .int v29] [] dX8_about_103 rfl rfl rfl rfl (by decide) (Nat.le_of_ble_eq_true rfl) (by omega) ⟨(0 : Int32), v29, rfl, hc30⟩ ?_
    exact e_iret .int dX8_about_106 rfl rfl (ret_eq h)
  rw [if_neg hc24] at h
  by_cases hc35 : x1 = (5 : Int32)
  · rw [if_pos hc35] at h
    refine e_tsL (5 : Int32) (tgt := 107) hc35 dX8_about_20 (by decide) (by decide) rfl rfl ?_
    refine e_aload_n dX8_about_107 rfl ?_
    refine e_aload_n dX8_about_108 rfl ?_
    refine cI_go h (fun E38 hc36 hr39 => e_VX [] [.ref 29] dX8_about_109 rfl rfl rfl rfl (by decide) (Nat.le_of_ble_eq_true rfl) (by omega) ⟨rfl, hc36⟩ rfl ⟨hr39.symm, rfl⟩) (fun v40 μ37 hc36 h => ?_)
    refine e_VI [] [.ref 29] dX8_about_109 rfl rfl rfl rfl (by decide) (Nat.le_of_ble_eq_true rfl) (by omega) ⟨rfl, hc36⟩ ?_
    refine e_aload_n dX8_about_112 rfl ?_
    refine cI_go h (fun E43 hc41 hr44 => e_VX [] [.int v40, .ref 29] dX8_about_113 rfl rfl rfl rfl (by decide) (Nat.le_of_ble_eq_true rfl) (by omega) ⟨rfl, hc41⟩ rfl ⟨hr44.symm, rfl⟩) (fun v45 μ42 hc41 h => ?_)
    refine e_VI [] [.int v40, .ref 29] dX8_about_113 rfl rfl rfl rfl (by decide) (Nat.le_of_ble_eq_true rfl) (by omega) ⟨rfl, hc41⟩ ?_
    refine e_aload_n dX8_about_116 rfl ?_
    refine cI_go h (fun E48 hc46 hr49 => e_VX [] [.int v45, .int v40, .ref 29] dX8_about_117 rfl rfl rfl rfl (by decide) (Nat.le_of_ble_eq_true rfl) (by omega) ⟨rfl, hc46⟩ rfl ⟨hr49.symm, rfl⟩) (fun v50 μ47 hc46 h => ?_)
    refine e_VI [] [.int v45, .int v40, .ref 29] dX8_about_117 rfl rfl rfl rfl (by decide) (Nat.le_of_ble_eq_true rfl) (by omega) ⟨rfl, hc46⟩ ?_
    refine e_iadd dX8_about_120 ?_
    refine cI_go h (fun E53 hc51 hr54 => e_VX [.int v40, .int (v45 + v50)] [] dX8_about_121 rfl rfl rfl rfl (by decide) (Nat.le_of_ble_eq_true rfl) (by omega) ⟨v40, v45 + v50, rfl, hc51⟩ rfl ⟨hr54.symm, rfl⟩) (fun v55 μ52 hc51 h => ?_)
    refine e_VI [.int v40, .int (v45 + v50)] [] dX8_about_121 rfl rfl rfl rfl (by decide) (Nat.le_of_ble_eq_true rfl) (by omega) ⟨v40, v45 + v50, rfl, hc51⟩ ?_
    exact e_iret .int dX8_about_124 rfl rfl (ret_eq h)
  rw [if_neg hc35] at h
  by_cases hc56 : x1 = (6 : Int32)
  · rw [if_pos hc56] at h
    refine e_tsL (6 : Int32) (tgt := 125) hc56 dX8_about_20 (by decide) (by decide) rfl rfl ?_
    refine e_aload_n dX8_about_125 rfl ?_
    refine cI_go h (fun E59 hc57 hr60 => e_VX [] [] dX8_about_126 rfl rfl rfl rfl (by decide) (Nat.le_of_ble_eq_true rfl) (by omega) ⟨rfl, hc57⟩ rfl ⟨hr60.symm, rfl⟩) (fun v61 μ58 hc57 h => ?_)
    refine e_VI [] [] dX8_about_126 rfl rfl rfl rfl (by decide) (Nat.le_of_ble_eq_true rfl) (by omega) ⟨rfl, hc57⟩ ?_
    exact e_iret .int dX8_about_129 rfl rfl (ret_eq h)
  rw [if_neg hc56] at h
  by_cases hc62 : x1 = (7 : Int32)
  · rw [if_pos hc62] at h
    refine e_tsL (7 : Int32) (tgt := 130) hc62 dX8_about_20 (by decide) (by decide) rfl rfl ?_
    refine e_aload_n dX8_about_130 rfl ?_
    refine cI_go h (fun E65 hc63 hr66 => e_VX [] [] dX8_about_131 rfl rfl rfl rfl (by decide) (Nat.le_of_ble_eq_true rfl) (by omega) ⟨rfl, hc63⟩ rfl ⟨hr66.symm, rfl⟩) (fun v67 μ64 hc63 h => ?_)
    refine e_VI [] [] dX8_about_131 rfl rfl rfl rfl (by decide) (Nat.le_of_ble_eq_true rfl) (by omega) ⟨rfl, hc63⟩ ?_
    exact e_iret .int dX8_about_134 rfl rfl (ret_eq h)
  rw [if_neg hc62] at h
  by_cases hc68 : x1 = (8 : Int32)
  · rw [if_pos hc68] at h
    refine e_tsL (8 : Int32) (tgt := 135) hc68 dX8_about_20 (by decide) (by decide) rfl rfl ?_
    refine e_aload_n dX8_about_135 rfl ?_
    refine cI_go h (fun E71 hc69 hr72 => e_VX [] [] dX8_about_136 rfl rfl rfl rfl (by decide) (Nat.le_of_ble_eq_true rfl) (by omega) ⟨rfl, hc69⟩ rfl ⟨hr72.symm, rfl⟩) (fun v73 μ70 hc69 h => ?_)
    refine e_VI [] [] dX8_about_136 rfl rfl rfl rfl (by decide) (Nat.le_of_ble_eq_true rfl) (by omega) ⟨rfl, hc69⟩ ?_
    exact e_iret .int dX8_about_139 rfl rfl (ret_eq h)
  rw [if_neg hc68] at h
  by_cases hc74 : x1 = (9 : Int32)
  · rw [if_pos hc74] at h
    refine e_tsL (9 : Int32) (tgt := 140) hc74 dX8_about_20 (by decide) (by decide) rfl rfl ?_
    refine e_aload_n dX8_about_140 rfl ?_
    refine cI_go h (fun E77 hc75 hr78 => e_VX [] [] dX8_about_141 rfl rfl rfl rfl (by decide) (Nat.le_of_ble_eq_true rfl) (by omega) ⟨rfl, hc75⟩ rfl ⟨hr78.symm, rfl⟩) (fun v79 μ76 hc75 h => ?_)
    refine e_VI [] [] dX8_about_141 rfl rfl rfl rfl (by decide) (Nat.le_of_ble_eq_true rfl) (by omega) ⟨rfl, hc75⟩ ?_
    exact e_iret .int dX8_about_144 rfl rfl (ret_eq h)
  rw [if_neg hc74] at h
  by_cases hc80 : x1 = (10 : Int32)
  · rw [if_pos hc80] at h
    refine e_tsL (10 : Int32) (tgt := 145) hc80 dX8_about_20 (by decide) (by decide) rfl rfl ?_
    refine e_aload_n dX8_about_145 rfl ?_
    refine e_bipush dX8_about_146 cb_m9 ?_
    refine cI_go h (fun E83 hc81 hr84 => e_VX [.int (-9 : Int32)] [] dX8_about_148 rfl rfl rfl rfl (by decide) (Nat.le_of_ble_eq_true rfl) (by omega) ⟨(-9 : Int32), rfl, hc81⟩ rfl ⟨hr84.symm, rfl⟩) (fun v85 μ82 hc81 h => ?_)
    refine e_VI [.int (-9 : Int32)] [] dX8_about_148 rfl rfl rfl rfl (by decide) (Nat.le_of_ble_eq_true rfl) (by omega) ⟨(-9 : Int32), rfl, hc81⟩ ?_
    exact e_iret .int dX8_about_151 rfl rfl (ret_eq h)
  rw [if_neg hc80] at h
  refine e_tsOut (tgt := 152) dX8_about_20 (ts_out_0_10 hc8 hc10 hc12 hc18 hc24 hc35 hc56 hc62 hc68 hc74 hc80) rfl ?_
  refine e_iconst dX8_about_152 ci_0 ?_
  exact e_iret .int dX8_about_153 rfl rfl (ret_eq h)
set_option maxHeartbeats 4000000 in
theorem b_X8_about : ∀ as μ r μ', Γ_X8_about as μ r μ' → (elvL as).length ≤ 2 ∧ G mX8_about (Qe r μ') 0 (elv as 2) [] μ 0 := by
  intro as μ r μ' h
  obtain ⟨a0, rfl, h⟩ := h
  refine ⟨Nat.le_of_ble_eq_true rfl, ?_⟩
  show G mX8_about (Qe r μ') 0 [some (.ref 29), some (.int a0)] [] μ 0
  unfold F_X8_about at h
  have hb9 : 0 ≤ 0 := Nat.le_refl _
  refine e_aload_n dX8_about_0 rfl ?_
  refine e_iload_n dX8_about_1 rfl ?_
  refine e_iconst dX8_about_2 ci_0 ?_
  refine e_bipush dX8_about_3 cb_10 ?_
  refine cI_go h (fun E3 hc1 hr4 => e_SX [.int a0, .int (0 : Int32), .int (10 : Int32)] [.ref 29] dX8_about_5 rfl (by decide) rfl rfl (Nat.le_of_ble_eq_true rfl) (by omega) ⟨a0, (0 : Int32), (10 : Int32), rfl, hc1⟩ rfl ⟨hr4.symm, rfl⟩) (fun v5 μ2 hc1 h => ?_)
  refine e_SI [.int a0, .int (0 : Int32), .int (10 : Int32)] [.ref 29] dX8_about_5 rfl (by decide) rfl rfl (Nat.le_of_ble_eq_true rfl) (by omega) ⟨a0, (0 : Int32), (10 : Int32), rfl, hc1⟩ ?_
  refine e_if_ne (tgt := 15) dX8_about_8 rfl (fun hc6 => ?_) (fun hc6 => ?_)
  · rw [if_neg hc6] at h
    refine e_iconst dX8_about_15 ci_0 ?_
    exact e_le (g_X8_about_16 a0 (0 : Int32) μ2 _ (by omega) h) ⟨rfl, rfl, trivial⟩
  · rw [if_pos hc6] at h
    refine e_iconst dX8_about_11 ci_1 ?_
    refine e_goto (tgt := 16) dX8_about_12 rfl ?_
    exact e_le (g_X8_about_16 a0 (1 : Int32) μ2 _ (by omega) h) ⟨rfl, rfl, trivial⟩
set_option maxRecDepth 20000 in
theorem ok_X8_about (l : Launch) (hl : l.stackTraces = false) : MOK l yX8_about.cls 6 118 mX8_about := ⟨lk_all (List.forall_mem_cons.mpr ⟨⟨yX8_rows, cX8_rows, 1, (some .int), 1, 0, by decide, by decide, t_1 7 rfl rfl, hd_X8_rows, Or.inr (Or.inl ⟨rfl, sc_X8_rows l hl, t_5 45 rfl rfl, t_5 42 rfl rfl, t_5 44 rfl rfl, _, rfl, t_p 35 rfl⟩)⟩, List.forall_mem_cons.mpr ⟨⟨yX8_in, cX8_in, 3, (some .boolean), 1, 0, by decide, by decide, t_1 7 rfl rfl, hd_X8_in, Or.inl ⟨rfl, sc_X8_in l hl, t_5 18 rfl rfl, t_5 16 rfl rfl, t_5 17 rfl rfl⟩⟩, List.forall_mem_cons.mpr ⟨⟨yX8_columns, cX8_columns, 1, (some .int), 1, 0, by decide, by decide, t_1 7 rfl rfl, hd_X8_columns, Or.inr (Or.inl ⟨rfl, sc_X8_columns l hl, t_5 49 rfl rfl, t_5 46 rfl rfl, t_5 48 rfl rfl, _, rfl, t_p 36 rfl⟩)⟩, List.forall_mem_cons.mpr ⟨⟨yX8_filledMany, cX8_filledMany, 3, (some .int), 4, 65, by decide, by decide, t_1 7 rfl rfl, hd_X8_filledMany, Or.inr (Or.inl ⟨rfl, sc_X8_filledMany l hl, t_5 77 rfl rfl, t_5 74 rfl rfl, t_5 76 rfl rfl, _, rfl, t_p 43 rfl⟩)⟩, List.forall_mem_cons.mpr ⟨⟨yX8_pinnedMany, cX8_pinnedMany, 4, (some .int), 2, 22, by decide, by decide, t_1 7 rfl rfl, hd_X8_pinnedMany, Or.inr (Or.inl ⟨rfl, sc_X8_pinnedMany l hl, t_5 85 rfl rfl, t_5 82 rfl rfl, t_5 84 rfl rfl, _, rfl, t_p 44 rfl⟩)⟩, List.forall_mem_cons.mpr ⟨⟨yX8_wantsOf, cX8_wantsOf, 5, (some .int), 3, 41, by decide, by decide, t_1 7 rfl rfl, hd_X8_wantsOf, Or.inr (Or.inl ⟨rfl, sc_X8_wantsOf l hl, t_5 93 rfl rfl, t_5 90 rfl rfl, t_5 92 rfl rfl, _, rfl, t_p 46 rfl⟩)⟩, List.forall_mem_cons.mpr ⟨⟨yX8_wrongLines, cX8_wrongLines, 3, (some .int), 4, 65, by decide, by decide, t_1 7 rfl rfl, hd_X8_wrongLines, Or.inr (Or.inl ⟨rfl, sc_X8_wrongLines l hl, t_5 97 rfl rfl, t_5 94 rfl rfl, t_5 96 rfl rfl, _, rfl, t_p 47 rfl⟩)⟩, List.forall_mem_cons.mpr ⟨⟨yX8_laysPieces, cX8_laysPieces, 6, (some .int), 5, 93, by decide, by decide, t_1 7 rfl rfl, hd_X8_laysPieces, Or.inr (Or.inl ⟨rfl, sc_X8_laysPieces l hl, t_5 101 rfl rfl, t_5 98 rfl rfl, t_5 100 rfl rfl, _, rfl, t_p 48 rfl⟩)⟩, List.forall_mem_cons.mpr ⟨⟨yX8_outline, cX8_outline, 4, (some .int), 5, 88, by decide, by decide, t_1 7 rfl rfl, hd_X8_outline, Or.inr (Or.inl ⟨rfl, sc_X8_outline l hl, t_5 117 rfl rfl, t_5 114 rfl rfl, t_5 116 rfl rfl, _, rfl, t_p 52 rfl⟩)⟩, List.forall_mem_cons.mpr ⟨⟨yX8_laysHull, cX8_laysHull, 4, (some .int), 4, 68, by decide, by decide, t_1 7 rfl rfl, hd_X8_laysHull, Or.inr (Or.inl ⟨rfl, sc_X8_laysHull l hl, t_5 129 rfl rfl, t_5 126 rfl rfl, t_5 128 rfl rfl, _, rfl, t_p 55 rfl⟩)⟩, List.forall_mem_cons.mpr ⟨⟨yX8_exchangeOf, cX8_exchangeOf, 8, (some .int), 3, 48, by decide, by decide, t_1 7 rfl rfl, hd_X8_exchangeOf, Or.inr (Or.inl ⟨rfl, sc_X8_exchangeOf l hl, t_5 137 rfl rfl, t_5 134 rfl rfl, t_5 136 rfl rfl, _, rfl, t_p 57 rfl⟩)⟩, nil_all⟩⟩⟩⟩⟩⟩⟩⟩⟩⟩⟩), fun ix ci j h => lk_all (P := fun ix q => FldOK yX8_about.cls ix q.1 q.2) (List.forall_mem_cons.mpr ⟨⟨_, rfl, by decide, t_4 178 rfl rfl⟩, List.forall_mem_cons.mpr ⟨⟨_, rfl, by decide, t_4 186 rfl rfl⟩, nil_all⟩⟩) ix (ci, j) h, lk_all (nil_all), lk_all (nil_all), lk_all (nil_all)⟩
theorem hd_X8_about : CallHd yX8_about 1 := ⟨by decide +kernel, by decide +kernel, by decide +kernel⟩
theorem sc_X8_about (l : Launch) (hl : l.stackTraces = false) : SCon l yX8_about cX8_about 2 (some .int) 6 118 0 Γ_X8_about := scon_of mX8_about cls_ok hl (by decide +kernel) rfl rfl (ok_X8_about l hl) rfl rfl b_X8_about
def f_X8_append_30 (x1 : Int32) (s0 : Int32) (μ : Mem) : Out := lt (sI μ 29 8 s0) (fun μ8 => if (μ8.1 29 8) = 0 then (ck (inb (μ8.1 29 7) 60) (lt (sI μ8 34 (Int32.toNatClampNeg (μ8.1 29 7)) x1) (fun μ11 => lt (sI μ11 29 7 ((μ11.1 29 7) + (1 : Int32))) (fun μ12 => rI (μ12.1 29 7) μ12)))) else (rI (0 : Int32) μ8))
def F_X8_append (a0 : Int32) (μ : Mem) : Out := cI (F_X8_in a0 (0 : Int32) (255 : Int32) μ) (fun v5 μ2 => if v5 = 0 then (f_X8_append_30 a0 (1 : Int32) μ2) else (if (μ2.1 29 7) = (60 : Int32) then (f_X8_append_30 a0 (2 : Int32) μ2) else (f_X8_append_30 a0 (0 : Int32) μ2)))
def Γ_X8_append : Gam := fun as μ r μ' => ∃ (a0 : Int32), as = [.ref 29, .int a0] ∧ F_X8_append a0 μ = some (r, μ')
def mX8_append : MI := (cX8_append, [(80, (0, 3, 0, 0, Γ_X8_in))], [(22, 6, 6), (65, 6, 8), (108, 6, 7)], [], [], [], [], none, (some .int))
set_option maxHeartbeats 4000000 in
theorem g_X8_append_30 {r : Res} {μ' : Mem} : ∀ (x1 : Int32) (s0 : Int32), ∀ (μ : Mem) (b : Nat), 0 ≤ b → f_X8_append_30 x1 s0 μ = some (r, μ') → G mX8_append (Qe r μ') 30 [some (.ref 29), some (.int x1)] [.int s0, .ref 29] μ b := by
  intro x1 s0 μ b hb9 h
  unfold f_X8_append_30 at h
  refine e_putI (ci := 6) (j := 8) dX8_append_30 rfl (by decide) rfl rfl ?_
  refine e_naM (e := sI μ 29 8 s0) h (fun μ8 eμ8 h => ?_)
  refine e_aload_n dX8_append_33 rfl ?_
  refine e_get (ci := 6) (j := 8) (t := 0) (v := .int (μ8.1 29 8)) dX8_append_34 rfl (by decide) rfl rfl rfl ?_
  refine e_if_eq (tgt := 42) dX8_append_37 rfl (fun hc9 => ?_) (fun hc9 => ?_)
  · rw [if_pos hc9] at h
    refine e_aload_n dX8_append_42 rfl ?_
    refine e_get (ci := 6) (j := 6) (t := 2) (v := .ref 34) dX8_append_43 rfl (by decide) rfl rfl rfl ?_
    refine e_aload_n dX8_append_46 rfl ?_
    refine e_get (ci := 6) (j := 7) (t := 0) (v := .int (μ8.1 29 7)) dX8_append_47 rfl (by decide) rfl rfl rfl ?_
    refine e_iload_n dX8_append_50 rfl ?_
    obtain ⟨hc10, h⟩ := ck_eq h
    refine e_iastore (n := 60) dX8_append_51 (by decide) rfl hc10 ?_
    refine e_naM (e := sI μ8 34 (Int32.toNatClampNeg (μ8.1 29 7)) x1) h (fun μ11 eμ11 h => ?_)
    refine e_aload_n dX8_append_52 rfl ?_
    refine e_dup dX8_append_53 rfl ?_
    refine e_get (ci := 6) (j := 7) (t := 0) (v := .int (μ11.1 29 7)) dX8_append_54 rfl (by decide) rfl rfl rfl ?_
    refine e_iconst dX8_append_57 ci_1 ?_
    refine e_iadd dX8_append_58 ?_
    refine e_putI (ci := 6) (j := 7) dX8_append_59 rfl (by decide) rfl rfl ?_
    refine e_naM (e := sI μ11 29 7 ((μ11.1 29 7) + (1 : Int32))) h (fun μ12 eμ12 h => ?_)
    refine e_aload_n dX8_append_62 rfl ?_
    refine e_get (ci := 6) (j := 7) (t := 0) (v := .int (μ12.1 29 7)) dX8_append_63 rfl (by decide) rfl rfl rfl ?_
    exact e_iret .int dX8_append_66 rfl rfl (ret_eq h)
  · rw [if_neg hc9] at h
    refine e_iconst dX8_append_40 ci_0 ?_
    exact e_iret .int dX8_append_41 rfl rfl (ret_eq h)
set_option maxHeartbeats 4000000 in
theorem b_X8_append : ∀ as μ r μ', Γ_X8_append as μ r μ' → (elvL as).length ≤ 2 ∧ G mX8_append (Qe r μ') 0 (elv as 2) [] μ 0 := by
  intro as μ r μ' h
  obtain ⟨a0, rfl, h⟩ := h
  refine ⟨Nat.le_of_ble_eq_true rfl, ?_⟩
  show G mX8_append (Qe r μ') 0 [some (.ref 29), some (.int a0)] [] μ 0
  unfold F_X8_append at h
  have hb9 : 0 ≤ 0 := Nat.le_refl _
  refine e_aload_n dX8_append_0 rfl ?_
  refine e_iload_n dX8_append_1 rfl ?_
  refine e_iconst dX8_append_2 ci_0 ?_
  refine e_sipush dX8_append_3 cs_255 ?_
  refine cI_go h (fun E3 hc1 hr4 => e_SX [.int a0, .int (0 : Int32), .int (255 : Int32)] [.ref 29] dX8_append_6 rfl (by decide) rfl rfl (Nat.le_of_ble_eq_true rfl) (by omega) ⟨a0, (0 : Int32), (255 : Int32), rfl, hc1⟩ rfl ⟨hr4.symm, rfl⟩) (fun v5 μ2 hc1 h => ?_)
  refine e_SI [.int a0, .int (0 : Int32), .int (255 : Int32)] [.ref 29] dX8_append_6 rfl (by decide) rfl rfl (Nat.le_of_ble_eq_true rfl) (by omega) ⟨a0, (0 : Int32), (255 : Int32), rfl, hc1⟩ ?_
  refine e_if_ne (tgt := 16) dX8_append_9 rfl (fun hc6 => ?_) (fun hc6 => ?_)
  · rw [if_neg hc6] at h
    refine e_aload_n dX8_append_16 rfl ?_
    refine e_get (ci := 6) (j := 7) (t := 0) (v := .int (μ2.1 29 7)) dX8_append_17 rfl (by decide) rfl rfl rfl ?_
    refine e_bipush dX8_append_20 cb_60 ?_
    refine e_ic_ne (tgt := 29) dX8_append_22 rfl (fun hc7 => ?_) (fun hc7 => ?_)
    · rw [if_neg hc7] at h
      refine e_iconst dX8_append_29 ci_0 ?_
      exact e_le (g_X8_append_30 a0 (0 : Int32) μ2 _ (by omega) h) ⟨rfl, rfl, trivial⟩
    · rw [if_pos hc7] at h
      refine e_iconst dX8_append_25 ci_2 ?_
      refine e_goto (tgt := 30) dX8_append_26 rfl ?_
      exact e_le (g_X8_append_30 a0 (2 : Int32) μ2 _ (by omega) h) ⟨rfl, rfl, trivial⟩
  · rw [if_pos hc6] at h
    refine e_iconst dX8_append_12 ci_1 ?_
    refine e_goto (tgt := 30) dX8_append_13 rfl ?_
    exact e_le (g_X8_append_30 a0 (1 : Int32) μ2 _ (by omega) h) ⟨rfl, rfl, trivial⟩
set_option maxRecDepth 20000 in
theorem ok_X8_append (l : Launch) (hl : l.stackTraces = false) : MOK l yX8_append.cls 2 22 mX8_append := ⟨lk_all (List.forall_mem_cons.mpr ⟨⟨yX8_in, cX8_in, 3, (some .boolean), 1, 0, by decide, by decide, t_1 7 rfl rfl, hd_X8_in, Or.inl ⟨rfl, sc_X8_in l hl, t_5 18 rfl rfl, t_5 16 rfl rfl, t_5 17 rfl rfl⟩⟩, nil_all⟩), fun ix ci j h => lk_all (P := fun ix q => FldOK yX8_append.cls ix q.1 q.2) (List.forall_mem_cons.mpr ⟨⟨_, rfl, by decide, t_4 184 rfl rfl⟩, List.forall_mem_cons.mpr ⟨⟨_, rfl, by decide, t_4 186 rfl rfl⟩, List.forall_mem_cons.mpr ⟨⟨_, rfl, by decide, t_4 185 rfl rfl⟩, nil_all⟩⟩⟩) ix (ci, j) h, lk_all (nil_all), lk_all (nil_all), lk_all (nil_all)⟩
theorem hd_X8_append : CallHd yX8_append 1 := ⟨by decide +kernel, by decide +kernel, by decide +kernel⟩
theorem sc_X8_append (l : Launch) (hl : l.stackTraces = false) : SCon l yX8_append cX8_append 2 (some .int) 2 22 0 Γ_X8_append := scon_of mX8_append cls_ok hl (by decide +kernel) rfl rfl (ok_X8_append l hl) rfl rfl b_X8_append
def F_X8_turnsFour (a0 : Int32) (a1 : Int32) (a2 : Int32) (a3 : Int32) (μ : Mem) : Out := ck (inb (((2 : Int32) + ((6 : Int32) * a0)) + a2) 50) (ck (inb (((2 : Int32) + ((6 : Int32) * a0)) + a2) 50) (lt (sI μ 30 (Int32.toNatClampNeg (((2 : Int32) + ((6 : Int32) * a0)) + a2)) ((μ.1 30 (Int32.toNatClampNeg (((2 : Int32) + ((6 : Int32) * a0)) + a2))) ^^^ (1 : Int32))) (fun μ3 => ck (inb (((2 : Int32) + ((6 : Int32) * a0)) + a3) 50) (ck (inb (((2 : Int32) + ((6 : Int32) * a0)) + a3) 50) (lt (sI μ3 30 (Int32.toNatClampNeg (((2 : Int32) + ((6 : Int32) * a0)) + a3)) ((μ3.1 30 (Int32.toNatClampNeg (((2 : Int32) + ((6 : Int32) * a0)) + a3))) ^^^ (1 : Int32))) (fun μ6 => ck (inb (((2 : Int32) + ((6 : Int32) * a1)) + a2) 50) (ck (inb (((2 : Int32) + ((6 : Int32) * a1)) + a2) 50) (lt (sI μ6 30 (Int32.toNatClampNeg (((2 : Int32) + ((6 : Int32) * a1)) + a2)) ((μ6.1 30 (Int32.toNatClampNeg (((2 : Int32) + ((6 : Int32) * a1)) + a2))) ^^^ (1 : Int32))) (fun μ9 => ck (inb (((2 : Int32) + ((6 : Int32) * a1)) + a3) 50) (ck (inb (((2 : Int32) + ((6 : Int32) * a1)) + a3) 50) (lt (sI μ9 30 (Int32.toNatClampNeg (((2 : Int32) + ((6 : Int32) * a1)) + a3)) ((μ9.1 30 (Int32.toNatClampNeg (((2 : Int32) + ((6 : Int32) * a1)) + a3))) ^^^ (1 : Int32))) (fun μ12 => rV μ12))))))))))))
def Γ_X8_turnsFour : Gam := fun as μ r μ' => ∃ (a0 : Int32) (a1 : Int32) (a2 : Int32) (a3 : Int32), as = [.ref 29, .int a0, .int a1, .int a2, .int a3] ∧ F_X8_turnsFour a0 a1 a2 a3 μ = some (r, μ')
def mX8_turnsFour : MI := (cX8_turnsFour, [], [(7, 6, 0)], [], [], [], [], none, none)
set_option maxHeartbeats 4000000 in
theorem b_X8_turnsFour : ∀ as μ r μ', Γ_X8_turnsFour as μ r μ' → (elvL as).length ≤ 5 ∧ G mX8_turnsFour (Qe r μ') 0 (elv as 5) [] μ 0 := by
  intro as μ r μ' h
  obtain ⟨a0, a1, a2, a3, rfl, h⟩ := h
  refine ⟨Nat.le_of_ble_eq_true rfl, ?_⟩
  show G mX8_turnsFour (Qe r μ') 0 [some (.ref 29), some (.int a0), some (.int a1), some (.int a2), some (.int a3)] [] μ 0
  unfold F_X8_turnsFour at h
  have hb9 : 0 ≤ 0 := Nat.le_refl _
  refine e_aload_n dX8_turnsFour_0 rfl ?_
  refine e_get (ci := 6) (j := 0) (t := 2) (v := .ref 30) dX8_turnsFour_1 rfl (by decide) rfl rfl rfl ?_
  refine e_iconst dX8_turnsFour_4 ci_2 ?_
  refine e_bipush dX8_turnsFour_5 cb_6 ?_
  refine e_iload_n dX8_turnsFour_7 rfl ?_
  refine e_imul dX8_turnsFour_8 ?_
  refine e_iadd dX8_turnsFour_9 ?_
  refine e_iload_n dX8_turnsFour_10 rfl ?_
  refine e_iadd dX8_turnsFour_11 ?_
  refine e_dup2 dX8_turnsFour_12 rfl rfl ?_
  obtain ⟨hc1, h⟩ := ck_eq h
  refine e_ialoadL (μ.1 30 (Int32.toNatClampNeg (((2 : Int32) + ((6 : Int32) * a0)) + a2))) (n := 50) dX8_turnsFour_13 (by decide) rfl hc1 rfl ?_
  refine e_iconst dX8_turnsFour_14 ci_1 ?_
  refine e_ixor dX8_turnsFour_15 ?_
  obtain ⟨hc2, h⟩ := ck_eq h
  refine e_iastore (n := 50) dX8_turnsFour_16 (by decide) rfl hc2 ?_
  refine e_naM (e := sI μ 30 (Int32.toNatClampNeg (((2 : Int32) + ((6 : Int32) * a0)) + a2)) ((μ.1 30 (Int32.toNatClampNeg (((2 : Int32) + ((6 : Int32) * a0)) + a2))) ^^^ (1 : Int32))) h (fun μ3 eμ3 h => ?_)
  refine e_aload_n dX8_turnsFour_17 rfl ?_
  refine e_get (ci := 6) (j := 0) (t := 2) (v := .ref 30) dX8_turnsFour_18 rfl (by decide) rfl rfl rfl ?_
  refine e_iconst dX8_turnsFour_21 ci_2 ?_
  refine e_bipush dX8_turnsFour_22 cb_6 ?_
  refine e_iload_n dX8_turnsFour_24 rfl ?_
  refine e_imul dX8_turnsFour_25 ?_
  refine e_iadd dX8_turnsFour_26 ?_
  refine e_iload dX8_turnsFour_27 rfl ?_
  refine e_iadd dX8_turnsFour_29 ?_
  refine e_dup2 dX8_turnsFour_30 rfl rfl ?_
  obtain ⟨hc4, h⟩ := ck_eq h
  refine e_ialoadL (μ3.1 30 (Int32.toNatClampNeg (((2 : Int32) + ((6 : Int32) * a0)) + a3))) (n := 50) dX8_turnsFour_31 (by decide) rfl hc4 rfl ?_
  refine e_iconst dX8_turnsFour_32 ci_1 ?_
  refine e_ixor dX8_turnsFour_33 ?_
  obtain ⟨hc5, h⟩ := ck_eq h
  refine e_iastore (n := 50) dX8_turnsFour_34 (by decide) rfl hc5 ?_
  refine e_naM (e := sI μ3 30 (Int32.toNatClampNeg (((2 : Int32) + ((6 : Int32) * a0)) + a3)) ((μ3.1 30 (Int32.toNatClampNeg (((2 : Int32) + ((6 : Int32) * a0)) + a3))) ^^^ (1 : Int32))) h (fun μ6 eμ6 h => ?_)
  refine e_aload_n dX8_turnsFour_35 rfl ?_
  refine e_get (ci := 6) (j := 0) (t := 2) (v := .ref 30) dX8_turnsFour_36 rfl (by decide) rfl rfl rfl ?_
  refine e_iconst dX8_turnsFour_39 ci_2 ?_
  refine e_bipush dX8_turnsFour_40 cb_6 ?_
  refine e_iload_n dX8_turnsFour_42 rfl ?_
  refine e_imul dX8_turnsFour_43 ?_
  refine e_iadd dX8_turnsFour_44 ?_
  refine e_iload_n dX8_turnsFour_45 rfl ?_
  refine e_iadd dX8_turnsFour_46 ?_
  refine e_dup2 dX8_turnsFour_47 rfl rfl ?_
  obtain ⟨hc7, h⟩ := ck_eq h
  refine e_ialoadL (μ6.1 30 (Int32.toNatClampNeg (((2 : Int32) + ((6 : Int32) * a1)) + a2))) (n := 50) dX8_turnsFour_48 (by decide) rfl hc7 rfl ?_
  refine e_iconst dX8_turnsFour_49 ci_1 ?_
  refine e_ixor dX8_turnsFour_50 ?_
  obtain ⟨hc8, h⟩ := ck_eq h
  refine e_iastore (n := 50) dX8_turnsFour_51 (by decide) rfl hc8 ?_
  refine e_naM (e := sI μ6 30 (Int32.toNatClampNeg (((2 : Int32) + ((6 : Int32) * a1)) + a2)) ((μ6.1 30 (Int32.toNatClampNeg (((2 : Int32) + ((6 : Int32) * a1)) + a2))) ^^^ (1 : Int32))) h (fun μ9 eμ9 h => ?_)
  refine e_aload_n dX8_turnsFour_52 rfl ?_
  refine e_get (ci := 6) (j := 0) (t := 2) (v := .ref 30) dX8_turnsFour_53 rfl (by decide) rfl rfl rfl ?_
  refine e_iconst dX8_turnsFour_56 ci_2 ?_
  refine e_bipush dX8_turnsFour_57 cb_6 ?_
  refine e_iload_n dX8_turnsFour_59 rfl ?_
  refine e_imul dX8_turnsFour_60 ?_
  refine e_iadd dX8_turnsFour_61 ?_
  refine e_iload dX8_turnsFour_62 rfl ?_
  refine e_iadd dX8_turnsFour_64 ?_
  refine e_dup2 dX8_turnsFour_65 rfl rfl ?_
  obtain ⟨hc10, h⟩ := ck_eq h
  refine e_ialoadL (μ9.1 30 (Int32.toNatClampNeg (((2 : Int32) + ((6 : Int32) * a1)) + a3))) (n := 50) dX8_turnsFour_66 (by decide) rfl hc10 rfl ?_
  refine e_iconst dX8_turnsFour_67 ci_1 ?_
  refine e_ixor dX8_turnsFour_68 ?_
  obtain ⟨hc11, h⟩ := ck_eq h
  refine e_iastore (n := 50) dX8_turnsFour_69 (by decide) rfl hc11 ?_
  refine e_naM (e := sI μ9 30 (Int32.toNatClampNeg (((2 : Int32) + ((6 : Int32) * a1)) + a3)) ((μ9.1 30 (Int32.toNatClampNeg (((2 : Int32) + ((6 : Int32) * a1)) + a3))) ^^^ (1 : Int32))) h (fun μ12 eμ12 h => ?_)
  exact e_vret dX8_turnsFour_70 rfl (ret_eq h)
set_option maxRecDepth 20000 in
theorem ok_X8_turnsFour (l : Launch) (hl : l.stackTraces = false) : MOK l yX8_turnsFour.cls 1 0 mX8_turnsFour := ⟨lk_all (nil_all), fun ix ci j h => lk_all (P := fun ix q => FldOK yX8_turnsFour.cls ix q.1 q.2) (List.forall_mem_cons.mpr ⟨⟨_, rfl, by decide, t_4 178 rfl rfl⟩, nil_all⟩) ix (ci, j) h, lk_all (nil_all), lk_all (nil_all), lk_all (nil_all)⟩
theorem hd_X8_turnsFour : CallHd yX8_turnsFour 4 := ⟨by decide +kernel, by decide +kernel, by decide +kernel⟩
theorem sc_X8_turnsFour (l : Launch) (hl : l.stackTraces = false) : SCon l yX8_turnsFour cX8_turnsFour 5 none 1 0 0 Γ_X8_turnsFour := scon_of mX8_turnsFour cls_ok hl (by decide +kernel) rfl rfl (ok_X8_turnsFour l hl) rfl rfl b_X8_turnsFour
def F_X8_turnsTold (a0 : Int32) (μ : Mem) : Out := cV (F_X8_turnsFour (a0 / (1000 : Int32)) (remI (a0 / (100 : Int32)) (10 : Int32)) (remI (a0 / (10 : Int32)) (10 : Int32)) (remI a0 (10 : Int32)) μ) (fun μ2 => rV μ2)
def Γ_X8_turnsTold : Gam := fun as μ r μ' => ∃ (a0 : Int32), as = [.ref 29, .int a0] ∧ F_X8_turnsTold a0 μ = some (r, μ')
def mX8_turnsTold : MI := (cX8_turnsTold, [(152, (1, 4, 0, 6, Γ_X8_turnsFour))], [], [], [], [], [], none, none)
set_option maxHeartbeats 4000000 in
theorem b_X8_turnsTold : ∀ as μ r μ', Γ_X8_turnsTold as μ r μ' → (elvL as).length ≤ 2 ∧ G mX8_turnsTold (Qe r μ') 0 (elv as 2) [] μ 0 := by
  intro as μ r μ' h
  obtain ⟨a0, rfl, h⟩ := h
  refine ⟨Nat.le_of_ble_eq_true rfl, ?_⟩
  show G mX8_turnsTold (Qe r μ') 0 [some (.ref 29), some (.int a0)] [] μ 0
  unfold F_X8_turnsTold at h
  have hb9 : 0 ≤ 0 := Nat.le_refl _
  refine e_aload_n dX8_turnsTold_0 rfl ?_
  refine e_iload_n dX8_turnsTold_1 rfl ?_
  refine e_sipush dX8_turnsTold_2 cs_1000 ?_
  refine e_idiv dX8_turnsTold_5 (by decide) ?_
  refine e_iload_n dX8_turnsTold_6 rfl ?_
  refine e_bipush dX8_turnsTold_7 cb_100 ?_
  refine e_idiv dX8_turnsTold_9 (by decide) ?_
  refine e_bipush dX8_turnsTold_10 cb_10 ?_
  refine e_irem dX8_turnsTold_12 (by decide) ?_
  refine e_iload_n dX8_turnsTold_13 rfl ?_
  refine e_bipush dX8_turnsTold_14 cb_10 ?_
  refine e_idiv dX8_turnsTold_16 (by decide) ?_
  refine e_bipush dX8_turnsTold_17 cb_10 ?_
  refine e_irem dX8_turnsTold_19 (by decide) ?_
  refine e_iload_n dX8_turnsTold_20 rfl ?_
  refine e_bipush dX8_turnsTold_21 cb_10 ?_
  refine e_irem dX8_turnsTold_23 (by decide) ?_
  refine cV_go h (fun E3 hc1 hr4 => e_VX [.int (a0 / (1000 : Int32)), .int (remI (a0 / (100 : Int32)) (10 : Int32)), .int (remI (a0 / (10 : Int32)) (10 : Int32)), .int (remI a0 (10 : Int32))] [] dX8_turnsTold_24 rfl rfl rfl rfl (by decide) (Nat.le_of_ble_eq_true rfl) (by omega) ⟨a0 / (1000 : Int32), remI (a0 / (100 : Int32)) (10 : Int32), remI (a0 / (10 : Int32)) (10 : Int32), remI a0 (10 : Int32), rfl, hc1⟩ rfl ⟨hr4.symm, rfl⟩) (fun μ2 hc1 h => ?_)
  refine e_VV [.int (a0 / (1000 : Int32)), .int (remI (a0 / (100 : Int32)) (10 : Int32)), .int (remI (a0 / (10 : Int32)) (10 : Int32)), .int (remI a0 (10 : Int32))] [] dX8_turnsTold_24 rfl rfl rfl rfl (by decide) (Nat.le_of_ble_eq_true rfl) (by omega) ⟨a0 / (1000 : Int32), remI (a0 / (100 : Int32)) (10 : Int32), remI (a0 / (10 : Int32)) (10 : Int32), remI a0 (10 : Int32), rfl, hc1⟩ ?_
  exact e_vret dX8_turnsTold_27 rfl (ret_eq h)
set_option maxRecDepth 20000 in
theorem ok_X8_turnsTold (l : Launch) (hl : l.stackTraces = false) : MOK l yX8_turnsTold.cls 2 24 mX8_turnsTold := ⟨lk_all (List.forall_mem_cons.mpr ⟨⟨yX8_turnsFour, cX8_turnsFour, 5, none, 1, 0, by decide, by decide, t_1 7 rfl rfl, hd_X8_turnsFour, Or.inr (Or.inl ⟨rfl, sc_X8_turnsFour l hl, t_5 239 rfl rfl, t_5 236 rfl rfl, t_5 238 rfl rfl, _, rfl, t_p 70 rfl⟩)⟩, nil_all⟩), fun ix ci j h => lk_all (P := fun ix q => FldOK yX8_turnsTold.cls ix q.1 q.2) (nil_all) ix (ci, j) h, lk_all (nil_all), lk_all (nil_all), lk_all (nil_all)⟩
theorem hd_X8_turnsTold : CallHd yX8_turnsTold 1 := ⟨by decide +kernel, by decide +kernel, by decide +kernel⟩
theorem sc_X8_turnsTold (l : Launch) (hl : l.stackTraces = false) : SCon l yX8_turnsTold cX8_turnsTold 2 none 2 24 0 Γ_X8_turnsTold := scon_of mX8_turnsTold cls_ok hl (by decide +kernel) rfl rfl (ok_X8_turnsTold l hl) rfl rfl b_X8_turnsTold
def f_X8_bestExchange_86 (k23 : Int32 → Int32 → Int32 → Int32 → Int32 → Mem → Out) (x1 : Int32) (x5 : Int32) (x7 : Int32) (x8 : Int32) (μ : Mem) : Out := lt (x5 + (1 : Int32)) (fun v37 => k23 x1 x5 x7 x8 v37 μ)
def f_X8_bestExchange_23 : Nat → Int32 → Int32 → Int32 → Int32 → Int32 → Mem → Out
  | 0, _, _, _, _, _, _ => none
  | n + 1, x1, x2, x3, x4, x5, μ => if x1 ≤ x5 then (rI x2 μ) else (cI (F_X8_exchangeOf x5 μ) (fun v12 μ9 => cV (F_X8_turnsTold v12 μ9) (fun μ14 => cI (F_X8_laysPieces μ14) (fun v21 μ18 => cI (F_X8_outline μ18) (fun v26 μ23 => cV (F_X8_turnsTold v12 μ23) (fun μ28 => if x2 = (-9 : Int32) then (f_X8_bestExchange_86 (f_X8_bestExchange_23 n) x1 x5 v21 v26 μ28) else (if v21 < x3 then (f_X8_bestExchange_86 (f_X8_bestExchange_23 n) x1 x5 v21 v26 μ28) else (if v21 = x3 then (if x4 ≤ v26 then (lt (x5 + (1 : Int32)) (fun v36 => f_X8_bestExchange_23 n x1 x2 x3 x4 v36 μ28)) else (f_X8_bestExchange_86 (f_X8_bestExchange_23 n) x1 x5 v21 v26 μ28)) else (lt (x5 + (1 : Int32)) (fun v34 => f_X8_bestExchange_23 n x1 x2 x3 x4 v34 μ28))))))))))
def F_X8_bestExchange (μ : Mem) : Out := lt (sI μ 29 8 (0 : Int32)) (fun μ1 => cI (F_X8_exchangeOf (-9 : Int32) μ1) (fun v6 μ3 => f_X8_bestExchange_23 BIG v6 (-9 : Int32) (0 : Int32) (0 : Int32) (0 : Int32) μ3))
def Γ_X8_bestExchange : Gam := fun as μ r μ' => as = [.ref 29] ∧ F_X8_bestExchange μ = some (r, μ')
def mX8_bestExchange : MI := (cX8_bestExchange, [(202, (1, 0, 0, 6, Γ_X8_laysPieces)), (205, (1, 0, 0, 6, Γ_X8_outline)), (211, (1, 1, 0, 6, Γ_X8_exchangeOf)), (251, (1, 1, 0, 6, Γ_X8_turnsTold))], [(65, 6, 8)], [], [], [], [], none, (some .int))
set_option maxHeartbeats 4000000 in
theorem g_X8_bestExchange_86 {r : Res} {μ' : Mem} {k23 : Int32 → Int32 → Int32 → Int32 → Int32 → Mem → Out} (hk23 : ∀ (x1 : Int32) (x2 : Int32) (x3 : Int32) (x4 : Int32) (x5 : Int32), ∀ (μ : Mem) (b : Nat), 0 ≤ b → k23 x1 x2 x3 x4 x5 μ = some (r, μ') → G mX8_bestExchange (Qe r μ') 23 [some (.ref 29), some (.int x1), some (.int x2), some (.int x3), some (.int x4), some (.int x5), none, none, none] [] μ b) : ∀ (x1 : Int32) (x5 : Int32) (x7 : Int32) (x8 : Int32), ∀ (μ : Mem) (b : Nat), 0 ≤ b → f_X8_bestExchange_86 k23 x1 x5 x7 x8 μ = some (r, μ') → G mX8_bestExchange (Qe r μ') 86 [some (.ref 29), some (.int x1), none, none, none, some (.int x5), none, some (.int x7), some (.int x8)] [] μ b := by
  intro x1 x5 x7 x8 μ b hb9 h
  unfold f_X8_bestExchange_86 at h
  refine e_iload dX8_bestExchange_86 rfl ?_
  refine e_istore_nL [some (.ref 29), some (.int x1), some (.int x5), none, none, some (.int x5), none, some (.int x7), some (.int x8)] dX8_bestExchange_88 (Nat.le_of_ble_eq_true rfl) rfl ?_
  refine e_iload dX8_bestExchange_89 rfl ?_
  refine e_istore_nL [some (.ref 29), some (.int x1), some (.int x5), some (.int x7), none, some (.int x5), none, some (.int x7), some (.int x8)] dX8_bestExchange_91 (Nat.le_of_ble_eq_true rfl) rfl ?_
  refine e_iload dX8_bestExchange_92 rfl ?_
  refine e_istoreL [some (.ref 29), some (.int x1), some (.int x5), some (.int x7), some (.int x8), some (.int x5), none, some (.int x7), some (.int x8)] dX8_bestExchange_94 (Nat.le_of_ble_eq_true rfl) rfl ?_
  refine e_iincN 5 (1 : Int32) dX8_bestExchange_96 rfl ci_1 h (fun y9 => [some (.ref 29), some (.int x1), some (.int x5), some (.int x7), some (.int x8), some (.int y9), none, some (.int x7), some (.int x8)]) (fun _ => rfl) (fun v37 ev37 h => ?_)
  refine e_goto (tgt := 23) dX8_bestExchange_99 rfl ?_
  exact e_le (hk23 x1 x5 x7 x8 v37 μ _ (by omega) h) ⟨rfl, rfl, rfl, rfl, rfl, rfl, trivial⟩
set_option maxHeartbeats 4000000 in
theorem g_X8_bestExchange_23 {r : Res} {μ' : Mem} : ∀ n : Nat, ∀ (x1 : Int32) (x2 : Int32) (x3 : Int32) (x4 : Int32) (x5 : Int32), ∀ (μ : Mem) (b : Nat), 0 ≤ b → f_X8_bestExchange_23 n x1 x2 x3 x4 x5 μ = some (r, μ') → G mX8_bestExchange (Qe r μ') 23 [some (.ref 29), some (.int x1), some (.int x2), some (.int x3), some (.int x4), some (.int x5), none, none, none] [] μ b := by
  intro n
  induction n with
  | zero => intro x1 x2 x3 x4 x5 μ b hb9 h; exact nomatch (show (none : Out) = some _ from h)
  | succ n ih =>
    intro x1 x2 x3 x4 x5 μ b hb9 h
    rw [f_X8_bestExchange_23.eq_2] at h
    refine e_iload dX8_bestExchange_23 rfl ?_
    refine e_iload_n dX8_bestExchange_25 rfl ?_
    refine e_ic_ge (tgt := 102) dX8_bestExchange_26 rfl (fun hc7 => ?_) (fun hc7 => ?_)
    · rw [if_pos hc7] at h
      refine e_iload_n dX8_bestExchange_102 rfl ?_
      exact e_iret .int dX8_bestExchange_103 rfl rfl (ret_eq h)
    · rw [if_neg hc7] at h
      refine e_aload_n dX8_bestExchange_29 rfl ?_
      refine e_iload dX8_bestExchange_30 rfl ?_
      refine cI_go h (fun E10 hc8 hr11 => e_VX [.int x5] [] dX8_bestExchange_32 rfl rfl rfl rfl (by decide) (Nat.le_of_ble_eq_true rfl) (by omega) ⟨x5, rfl, hc8⟩ rfl ⟨hr11.symm, rfl⟩) (fun v12 μ9 hc8 h => ?_)
      refine e_VI [.int x5] [] dX8_bestExchange_32 rfl rfl rfl rfl (by decide) (Nat.le_of_ble_eq_true rfl) (by omega) ⟨x5, rfl, hc8⟩ ?_
      refine e_istoreL [some (.ref 29), some (.int x1), some (.int x2), some (.int x3), some (.int x4), some (.int x5), some (.int v12), none, none] dX8_bestExchange_35 (Nat.le_of_ble_eq_true rfl) rfl ?_
      refine e_aload_n dX8_bestExchange_37 rfl ?_
      refine e_iload dX8_bestExchange_38 rfl ?_
      refine cV_go h (fun E15 hc13 hr16 => e_VX [.int v12] [] dX8_bestExchange_40 rfl rfl rfl rfl (by decide) (Nat.le_of_ble_eq_true rfl) (by omega) ⟨v12, rfl, hc13⟩ rfl ⟨hr16.symm, rfl⟩) (fun μ14 hc13 h => ?_)
      refine e_VV [.int v12] [] dX8_bestExchange_40 rfl rfl rfl rfl (by decide) (Nat.le_of_ble_eq_true rfl) (by omega) ⟨v12, rfl, hc13⟩ ?_
      refine e_aload_n dX8_bestExchange_43 rfl ?_
      refine cI_go h (fun E19 hc17 hr20 => e_VX [] [] dX8_bestExchange_44 rfl rfl rfl rfl (by decide) (Nat.le_of_ble_eq_true rfl) (by omega) ⟨rfl, hc17⟩ rfl ⟨hr20.symm, rfl⟩) (fun v21 μ18 hc17 h => ?_)
      refine e_VI [] [] dX8_bestExchange_44 rfl rfl rfl rfl (by decide) (Nat.le_of_ble_eq_true rfl) (by omega) ⟨rfl, hc17⟩ ?_
      refine e_istoreL [some (.ref 29), some (.int x1), some (.int x2), some (.int x3), some (.int x4), some (.int x5), some (.int v12), some (.int v21), none] dX8_bestExchange_47 (Nat.le_of_ble_eq_true rfl) rfl ?_
      refine e_aload_n dX8_bestExchange_49 rfl ?_
      refine cI_go h (fun E24 hc22 hr25 => e_VX [] [] dX8_bestExchange_50 rfl rfl rfl rfl (by decide) (Nat.le_of_ble_eq_true rfl) (by omega) ⟨rfl, hc22⟩ rfl ⟨hr25.symm, rfl⟩) (fun v26 μ23 hc22 h => ?_)
      refine e_VI [] [] dX8_bestExchange_50 rfl rfl rfl rfl (by decide) (Nat.le_of_ble_eq_true rfl) (by omega) ⟨rfl, hc22⟩ ?_
      refine e_istoreL [some (.ref 29), some (.int x1), some (.int x2), some (.int x3), some (.int x4), some (.int x5), some (.int v12), some (.int v21), some (.int v26)] dX8_bestExchange_53 (Nat.le_of_ble_eq_true rfl) rfl ?_
      refine e_aload_n dX8_bestExchange_55 rfl ?_
      refine e_iload dX8_bestExchange_56 rfl ?_
      refine cV_go h (fun E29 hc27 hr30 => e_VX [.int v12] [] dX8_bestExchange_58 rfl rfl rfl rfl (by decide) (Nat.le_of_ble_eq_true rfl) (by omega) ⟨v12, rfl, hc27⟩ rfl ⟨hr30.symm, rfl⟩) (fun μ28 hc27 h => ?_)
      refine e_VV [.int v12] [] dX8_bestExchange_58 rfl rfl rfl rfl (by decide) (Nat.le_of_ble_eq_true rfl) (by omega) ⟨v12, rfl, hc27⟩ ?_
      refine e_iload_n dX8_bestExchange_61 rfl ?_
      refine e_bipush dX8_bestExchange_62 cb_m9 ?_
      refine e_ic_eq (tgt := 86) dX8_bestExchange_64 rfl (fun hc31 => ?_) (fun hc31 => ?_)
      · rw [if_pos hc31] at h
        exact e_le (g_X8_bestExchange_86 ih x1 x5 v21 v26 μ28 _ (by omega) h) ⟨rfl, rfl, rfl, rfl, rfl, trivial⟩
      · rw [if_neg hc31] at h
        refine e_iload dX8_bestExchange_67 rfl ?_
        refine e_iload_n dX8_bestExchange_69 rfl ?_
        refine e_ic_lt (tgt := 86) dX8_bestExchange_70 rfl (fun hc32 => ?_) (fun hc32 => ?_)
        · rw [if_pos hc32] at h
          exact e_le (g_X8_bestExchange_86 ih x1 x5 v21 v26 μ28 _ (by omega) h) ⟨rfl, rfl, rfl, rfl, rfl, trivial⟩
        · rw [if_neg hc32] at h
          refine e_iload dX8_bestExchange_73 rfl ?_
          refine e_iload_n dX8_bestExchange_75 rfl ?_
          refine e_ic_ne (tgt := 96) dX8_bestExchange_76 rfl (fun hc33 => ?_) (fun hc33 => ?_)
          · rw [if_neg hc33] at h
            refine e_iincN 5 (1 : Int32) dX8_bestExchange_96 rfl ci_1 h (fun y9 => [some (.ref 29), some (.int x1), some (.int x2), some (.int x3), some (.int x4), some (.int y9), some (.int v12), some (.int v21), some (.int v26)]) (fun _ => rfl) (fun v34 ev34 h => ?_)
            refine e_goto (tgt := 23) dX8_bestExchange_99 rfl ?_
            exact e_le (ih x1 x2 x3 x4 v34 μ28 _ (by omega) h) ⟨rfl, rfl, rfl, rfl, rfl, rfl, trivial⟩
          · rw [if_pos hc33] at h
            refine e_iload dX8_bestExchange_79 rfl ?_
            refine e_iload dX8_bestExchange_81 rfl ?_
            refine e_ic_ge (tgt := 96) dX8_bestExchange_83 rfl (fun hc35 => ?_) (fun hc35 => ?_)
            · rw [if_pos hc35] at h
              refine e_iincN 5 (1 : Int32) dX8_bestExchange_96 rfl ci_1 h (fun y9 => [some (.ref 29), some (.int x1), some (.int x2), some (.int x3), some (.int x4), some (.int y9), some (.int v12), some (.int v21), some (.int v26)]) (fun _ => rfl) (fun v36 ev36 h => ?_)
              refine e_goto (tgt := 23) dX8_bestExchange_99 rfl ?_
              exact e_le (ih x1 x2 x3 x4 v36 μ28 _ (by omega) h) ⟨rfl, rfl, rfl, rfl, rfl, rfl, trivial⟩
            · rw [if_neg hc35] at h
              exact e_le (g_X8_bestExchange_86 ih x1 x5 v21 v26 μ28 _ (by omega) h) ⟨rfl, rfl, rfl, rfl, rfl, trivial⟩
set_option maxHeartbeats 4000000 in
theorem b_X8_bestExchange : ∀ as μ r μ', Γ_X8_bestExchange as μ r μ' → (elvL as).length ≤ 9 ∧ G mX8_bestExchange (Qe r μ') 0 (elv as 9) [] μ 0 := by
  intro as μ r μ' h
  obtain ⟨rfl, h⟩ := h
  refine ⟨Nat.le_of_ble_eq_true rfl, ?_⟩
  show G mX8_bestExchange (Qe r μ') 0 [some (.ref 29), none, none, none, none, none, none, none, none] [] μ 0
  unfold F_X8_bestExchange at h
  have hb9 : 0 ≤ 0 := Nat.le_refl _
  refine e_aload_n dX8_bestExchange_0 rfl ?_
  refine e_iconst dX8_bestExchange_1 ci_0 ?_
  refine e_putI (ci := 6) (j := 8) dX8_bestExchange_2 rfl (by decide) rfl rfl ?_
  refine e_naM (e := sI μ 29 8 (0 : Int32)) h (fun μ1 eμ1 h => ?_)
  refine e_aload_n dX8_bestExchange_5 rfl ?_
  refine e_bipush dX8_bestExchange_6 cb_m9 ?_
  refine cI_go h (fun E4 hc2 hr5 => e_VX [.int (-9 : Int32)] [] dX8_bestExchange_8 rfl rfl rfl rfl (by decide) (Nat.le_of_ble_eq_true rfl) (by omega) ⟨(-9 : Int32), rfl, hc2⟩ rfl ⟨hr5.symm, rfl⟩) (fun v6 μ3 hc2 h => ?_)
  refine e_VI [.int (-9 : Int32)] [] dX8_bestExchange_8 rfl rfl rfl rfl (by decide) (Nat.le_of_ble_eq_true rfl) (by omega) ⟨(-9 : Int32), rfl, hc2⟩ ?_
  refine e_istore_nL [some (.ref 29), some (.int v6), none, none, none, none, none, none, none] dX8_bestExchange_11 (Nat.le_of_ble_eq_true rfl) rfl ?_
  refine e_bipush dX8_bestExchange_12 cb_m9 ?_
  refine e_istore_nL [some (.ref 29), some (.int v6), some (.int (-9 : Int32)), none, none, none, none, none, none] dX8_bestExchange_14 (Nat.le_of_ble_eq_true rfl) rfl ?_
  refine e_iconst dX8_bestExchange_15 ci_0 ?_
  refine e_istore_nL [some (.ref 29), some (.int v6), some (.int (-9 : Int32)), some (.int (0 : Int32)), none, none, none, none, none] dX8_bestExchange_16 (Nat.le_of_ble_eq_true rfl) rfl ?_
  refine e_iconst dX8_bestExchange_17 ci_0 ?_
  refine e_istoreL [some (.ref 29), some (.int v6), some (.int (-9 : Int32)), some (.int (0 : Int32)), some (.int (0 : Int32)), none, none, none, none] dX8_bestExchange_18 (Nat.le_of_ble_eq_true rfl) rfl ?_
  refine e_iconst dX8_bestExchange_20 ci_0 ?_
  refine e_istoreL [some (.ref 29), some (.int v6), some (.int (-9 : Int32)), some (.int (0 : Int32)), some (.int (0 : Int32)), some (.int (0 : Int32)), none, none, none] dX8_bestExchange_21 (Nat.le_of_ble_eq_true rfl) rfl ?_
  exact e_le (g_X8_bestExchange_23 BIG v6 (-9 : Int32) (0 : Int32) (0 : Int32) (0 : Int32) μ3 _ (by omega) h) ⟨rfl, rfl, rfl, rfl, rfl, rfl, trivial⟩
set_option maxRecDepth 20000 in
theorem ok_X8_bestExchange (l : Launch) (hl : l.stackTraces = false) : MOK l yX8_bestExchange.cls 6 118 mX8_bestExchange := ⟨lk_all (List.forall_mem_cons.mpr ⟨⟨yX8_laysPieces, cX8_laysPieces, 6, (some .int), 5, 93, by decide, by decide, t_1 7 rfl rfl, hd_X8_laysPieces, Or.inr (Or.inl ⟨rfl, sc_X8_laysPieces l hl, t_5 101 rfl rfl, t_5 98 rfl rfl, t_5 100 rfl rfl, _, rfl, t_p 48 rfl⟩)⟩, List.forall_mem_cons.mpr ⟨⟨yX8_outline, cX8_outline, 4, (some .int), 5, 88, by decide, by decide, t_1 7 rfl rfl, hd_X8_outline, Or.inr (Or.inl ⟨rfl, sc_X8_outline l hl, t_5 117 rfl rfl, t_5 114 rfl rfl, t_5 116 rfl rfl, _, rfl, t_p 52 rfl⟩)⟩, List.forall_mem_cons.mpr ⟨⟨yX8_exchangeOf, cX8_exchangeOf, 8, (some .int), 3, 48, by decide, by decide, t_1 7 rfl rfl, hd_X8_exchangeOf, Or.inr (Or.inl ⟨rfl, sc_X8_exchangeOf l hl, t_5 137 rfl rfl, t_5 134 rfl rfl, t_5 136 rfl rfl, _, rfl, t_p 57 rfl⟩)⟩, List.forall_mem_cons.mpr ⟨⟨yX8_turnsTold, cX8_turnsTold, 2, none, 2, 24, by decide, by decide, t_1 7 rfl rfl, hd_X8_turnsTold, Or.inr (Or.inl ⟨rfl, sc_X8_turnsTold l hl, t_6 79 rfl rfl, t_6 76 rfl rfl, t_6 78 rfl rfl, _, rfl, t_p 81 rfl⟩)⟩, nil_all⟩⟩⟩⟩), fun ix ci j h => lk_all (P := fun ix q => FldOK yX8_bestExchange.cls ix q.1 q.2) (List.forall_mem_cons.mpr ⟨⟨_, rfl, by decide, t_4 186 rfl rfl⟩, nil_all⟩) ix (ci, j) h, lk_all (nil_all), lk_all (nil_all), lk_all (nil_all)⟩
theorem hd_X8_bestExchange : CallHd yX8_bestExchange 0 := ⟨by decide +kernel, by decide +kernel, by decide +kernel⟩
theorem sc_X8_bestExchange (l : Launch) (hl : l.stackTraces = false) : SCon l yX8_bestExchange cX8_bestExchange 9 (some .int) 6 118 0 Γ_X8_bestExchange := scon_of mX8_bestExchange cls_ok hl (by decide +kernel) rfl rfl (ok_X8_bestExchange l hl) rfl rfl b_X8_bestExchange
def f_X8_hasNeeds_81 (k4 : Int32 → Int32 → Mem → Out) (k34 : Int32 → Int32 → Int32 → Int32 → Int32 → Mem → Out) (x1 : Int32) (x2 : Int32) (x4 : Int32) (x5 : Int32) (x6 : Int32) (s0 : Int32) (s1 : Int32) (μ : Mem) : Out := lt (s1 - s0) (fun v69 => if 0 ≤ x6 then (lt (x4 + (0 : Int32)) (fun v71 => lt (x5 + (1 : Int32)) (fun v72 => k34 x1 x2 v69 v71 v72 μ))) else (lt (x4 + (1 : Int32)) (fun v73 => lt (x5 + (1 : Int32)) (fun v74 => k34 x1 x2 v69 v73 v74 μ))))
def f_X8_hasNeeds_131 (k4 : Int32 → Int32 → Mem → Out) (x2 : Int32) (x3 : Int32) (s0 : Int32) (s1 : Int32) (μ : Mem) : Out := lt (s1 + s0) (fun v51 => cI (F_X8_rows μ) (fun v56 μ53 => if v56 ≤ x2 then (cI (F_X8_rows μ53) (fun v62 μ59 => ck (inb (x2 - v62) 6) (lt (sI μ59 40 (Int32.toNatClampNeg (x2 - v62)) x3) (fun μ64 => lt (x2 + (1 : Int32)) (fun v65 => k4 v51 v65 μ64))))) else (ck (inb x2 6) (lt (sI μ53 39 (Int32.toNatClampNeg x2) x3) (fun μ67 => lt (x2 + (1 : Int32)) (fun v68 => k4 v51 v68 μ67))))))
def f_X8_hasNeeds_34 (k4 : Int32 → Int32 → Mem → Out) : Nat → Int32 → Int32 → Int32 → Int32 → Int32 → Mem → Out
  | 0, _, _, _, _, _, _ => none
  | n + 1, x1, x2, x3, x4, x5, μ => cI (F_X8_lengthOf x2 μ) (fun v24 μ21 => if v24 ≤ x5 then (cI (F_X8_in x3 (0 : Int32) x4 μ21) (fun v30 μ27 => if v30 = 0 then (rI (0 : Int32) μ27) else (cI (F_X8_rows μ27) (fun v36 μ33 => if v36 ≤ x2 then (f_X8_hasNeeds_131 k4 x2 x3 (-x3) x1 μ33) else (f_X8_hasNeeds_131 k4 x2 x3 x3 x1 μ33))))) else (cI (F_X8_rowOf x2 x5 μ21) (fun v42 μ39 => cI (F_X8_columnOf x2 x5 μ39) (fun v47 μ44 => ck (inb (((6 : Int32) * v42) + v47) 36) (lt (μ44.1 37 (Int32.toNatClampNeg (((6 : Int32) * v42) + v47))) (fun v49 => if v49 = (1 : Int32) then (f_X8_hasNeeds_81 k4 (f_X8_hasNeeds_34 k4 n) x1 x2 x4 x5 v49 (1 : Int32) x3 μ44) else (f_X8_hasNeeds_81 k4 (f_X8_hasNeeds_34 k4 n) x1 x2 x4 x5 v49 (0 : Int32) x3 μ44)))))))
def f_X8_hasNeeds_4 : Nat → Int32 → Int32 → Mem → Out
  | 0, _, _, _ => none
  | n + 1, x1, x2, μ => cI (F_X8_rows μ) (fun v5 μ2 => cI (F_X8_columns μ2) (fun v10 μ7 => if (v5 + v10) ≤ x2 then (if x1 = 0 then (rI (1 : Int32) μ7) else (rI (0 : Int32) μ7)) else (cI (F_X8_wantAt x2 μ7) (fun v17 μ14 => ck (inb v17 50) (lt (μ14.1 30 (Int32.toNatClampNeg v17)) (fun v19 => f_X8_hasNeeds_34 (f_X8_hasNeeds_4 n) BIG x1 x2 v19 (0 : Int32) (0 : Int32) μ14))))))
def F_X8_hasNeeds (μ : Mem) : Out := f_X8_hasNeeds_4 BIG (0 : Int32) (0 : Int32) μ
def Γ_X8_hasNeeds : Gam := fun as μ r μ' => as = [.ref 29] ∧ F_X8_hasNeeds μ = some (r, μ')
def mX8_hasNeeds : MI := (cX8_hasNeeds, [(76, (1, 0, 0, 6, Γ_X8_rows)), (80, (0, 3, 0, 0, Γ_X8_in)), (84, (1, 0, 0, 6, Γ_X8_columns)), (87, (1, 1, 0, 6, Γ_X8_lengthOf)), (91, (1, 2, 0, 6, Γ_X8_rowOf)), (95, (1, 2, 0, 6, Γ_X8_columnOf)), (105, (1, 1, 0, 6, Γ_X8_wantAt))], [(7, 6, 0), (32, 6, 11), (38, 6, 13), (41, 6, 14)], [], [], [], [], none, (some .boolean))
set_option maxHeartbeats 4000000 in
theorem g_X8_hasNeeds_81 {r : Res} {μ' : Mem} {k4 : Int32 → Int32 → Mem → Out} {k34 : Int32 → Int32 → Int32 → Int32 → Int32 → Mem → Out} (hk4 : ∀ (x1 : Int32) (x2 : Int32), ∀ (μ : Mem) (b : Nat), 0 ≤ b → k4 x1 x2 μ = some (r, μ') → G mX8_hasNeeds (Qe r μ') 4 [some (.ref 29), some (.int x1), some (.int x2), none, none, none, none] [] μ b) (hk34 : ∀ (x1 : Int32) (x2 : Int32) (x3 : Int32) (x4 : Int32) (x5 : Int32), ∀ (μ : Mem) (b : Nat), 0 ≤ b → k34 x1 x2 x3 x4 x5 μ = some (r, μ') → G mX8_hasNeeds (Qe r μ') 34 [some (.ref 29), some (.int x1), some (.int x2), some (.int x3), some (.int x4), some (.int x5), none] [] μ b) : ∀ (x1 : Int32) (x2 : Int32) (x4 : Int32) (x5 : Int32) (x6 : Int32) (s0 : Int32) (s1 : Int32), ∀ (μ : Mem) (b : Nat), 0 ≤ b → f_X8_hasNeeds_81 k4 k34 x1 x2 x4 x5 x6 s0 s1 μ = some (r, μ') → G mX8_hasNeeds (Qe r μ') 81 [some (.ref 29), some (.int x1), some (.int x2), none, some (.int x4), some (.int x5), some (.int x6)] [.int s0, .int s1] μ b := by
  intro x1 x2 x4 x5 x6 s0 s1 μ b hb9 h
  unfold f_X8_hasNeeds_81 at h
  refine e_isub dX8_hasNeeds_81 ?_
  refine e_naI h (fun v69 ev69 h => ?_)
  refine e_istore_nL [some (.ref 29), some (.int x1), some (.int x2), some (.int v69), some (.int x4), some (.int x5), some (.int x6)] dX8_hasNeeds_82 (Nat.le_of_ble_eq_true rfl) rfl ?_
  refine e_iload dX8_hasNeeds_83 rfl ?_
  refine e_iload dX8_hasNeeds_85 rfl ?_
  refine e_if_ge (tgt := 94) dX8_hasNeeds_87 rfl (fun hc70 => ?_) (fun hc70 => ?_)
  · rw [if_pos hc70] at h
    refine e_iconst dX8_hasNeeds_94 ci_0 ?_
    refine e_iadd dX8_hasNeeds_95 ?_
    refine e_naI h (fun v71 ev71 h => ?_)
    refine e_istoreL [some (.ref 29), some (.int x1), some (.int x2), some (.int v69), some (.int v71), some (.int x5), some (.int x6)] dX8_hasNeeds_96 (Nat.le_of_ble_eq_true rfl) rfl ?_
    refine e_iincN 5 (1 : Int32) dX8_hasNeeds_98 rfl ci_1 h (fun y9 => [some (.ref 29), some (.int x1), some (.int x2), some (.int v69), some (.int v71), some (.int y9), some (.int x6)]) (fun _ => rfl) (fun v72 ev72 h => ?_)
    refine e_goto (tgt := 34) dX8_hasNeeds_101 rfl ?_
    exact e_le (hk34 x1 x2 v69 v71 v72 μ _ (by omega) h) ⟨rfl, rfl, rfl, rfl, rfl, rfl, trivial⟩
  · rw [if_neg hc70] at h
    refine e_iconst dX8_hasNeeds_90 ci_1 ?_
    refine e_goto (tgt := 95) dX8_hasNeeds_91 rfl ?_
    refine e_iadd dX8_hasNeeds_95 ?_
    refine e_naI h (fun v73 ev73 h => ?_)
    refine e_istoreL [some (.ref 29), some (.int x1), some (.int x2), some (.int v69), some (.int v73), some (.int x5), some (.int x6)] dX8_hasNeeds_96 (Nat.le_of_ble_eq_true rfl) rfl ?_
    refine e_iincN 5 (1 : Int32) dX8_hasNeeds_98 rfl ci_1 h (fun y9 => [some (.ref 29), some (.int x1), some (.int x2), some (.int v69), some (.int v73), some (.int y9), some (.int x6)]) (fun _ => rfl) (fun v74 ev74 h => ?_)
    refine e_goto (tgt := 34) dX8_hasNeeds_101 rfl ?_
    exact e_le (hk34 x1 x2 v69 v73 v74 μ _ (by omega) h) ⟨rfl, rfl, rfl, rfl, rfl, rfl, trivial⟩
set_option maxHeartbeats 4000000 in
theorem g_X8_hasNeeds_131 {r : Res} {μ' : Mem} {k4 : Int32 → Int32 → Mem → Out} (hk4 : ∀ (x1 : Int32) (x2 : Int32), ∀ (μ : Mem) (b : Nat), 0 ≤ b → k4 x1 x2 μ = some (r, μ') → G mX8_hasNeeds (Qe r μ') 4 [some (.ref 29), some (.int x1), some (.int x2), none, none, none, none] [] μ b) : ∀ (x2 : Int32) (x3 : Int32) (s0 : Int32) (s1 : Int32), ∀ (μ : Mem) (b : Nat), 0 ≤ b → f_X8_hasNeeds_131 k4 x2 x3 s0 s1 μ = some (r, μ') → G mX8_hasNeeds (Qe r μ') 131 [some (.ref 29), none, some (.int x2), some (.int x3), none, none, none] [.int s0, .int s1] μ b := by
  intro x2 x3 s0 s1 μ b hb9 h
  unfold f_X8_hasNeeds_131 at h
  refine e_iadd dX8_hasNeeds_131 ?_
  refine e_naI h (fun v51 ev51 h => ?_)
  refine e_istore_nL [some (.ref 29), some (.int v51), some (.int x2), some (.int x3), none, none, none] dX8_hasNeeds_132 (Nat.le_of_ble_eq_true rfl) rfl ?_
  refine e_iload_n dX8_hasNeeds_133 rfl ?_
  refine e_aload_n dX8_hasNeeds_134 rfl ?_
  refine cI_go h (fun E54 hc52 hr55 => e_VX [] [.int x2] dX8_hasNeeds_135 rfl rfl rfl rfl (by decide) (Nat.le_of_ble_eq_true rfl) (by omega) ⟨rfl, hc52⟩ rfl ⟨hr55.symm, rfl⟩) (fun v56 μ53 hc52 h => ?_)
  refine e_VI [] [.int x2] dX8_hasNeeds_135 rfl rfl rfl rfl (by decide) (Nat.le_of_ble_eq_true rfl) (by omega) ⟨rfl, hc52⟩ ?_
  refine e_ic_ge (tgt := 151) dX8_hasNeeds_138 rfl (fun hc57 => ?_) (fun hc57 => ?_)
  · rw [if_pos hc57] at h
    refine e_aload_n dX8_hasNeeds_151 rfl ?_
    refine e_get (ci := 6) (j := 14) (t := 2) (v := .ref 40) dX8_hasNeeds_152 rfl (by decide) rfl rfl rfl ?_
    refine e_iload_n dX8_hasNeeds_155 rfl ?_
    refine e_aload_n dX8_hasNeeds_156 rfl ?_
    refine cI_go h (fun E60 hc58 hr61 => e_VX [] [.int x2, .ref 40] dX8_hasNeeds_157 rfl rfl rfl rfl (by decide) (Nat.le_of_ble_eq_true rfl) (by omega) ⟨rfl, hc58⟩ rfl ⟨hr61.symm, rfl⟩) (fun v62 μ59 hc58 h => ?_)
    refine e_VI [] [.int x2, .ref 40] dX8_hasNeeds_157 rfl rfl rfl rfl (by decide) (Nat.le_of_ble_eq_true rfl) (by omega) ⟨rfl, hc58⟩ ?_
    refine e_isub dX8_hasNeeds_160 ?_
    refine e_iload_n dX8_hasNeeds_161 rfl ?_
    obtain ⟨hc63, h⟩ := ck_eq h
    refine e_iastore (n := 6) dX8_hasNeeds_162 (by decide) rfl hc63 ?_
    refine e_naM (e := sI μ59 40 (Int32.toNatClampNeg (x2 - v62)) x3) h (fun μ64 eμ64 h => ?_)
    refine e_iincN 2 (1 : Int32) dX8_hasNeeds_163 rfl ci_1 h (fun y9 => [some (.ref 29), some (.int v51), some (.int y9), some (.int x3), none, none, none]) (fun _ => rfl) (fun v65 ev65 h => ?_)
    refine e_goto (tgt := 4) dX8_hasNeeds_166 rfl ?_
    exact e_le (hk4 v51 v65 μ64 _ (by omega) h) ⟨rfl, rfl, rfl, trivial⟩
  · rw [if_neg hc57] at h
    refine e_aload_n dX8_hasNeeds_141 rfl ?_
    refine e_get (ci := 6) (j := 13) (t := 2) (v := .ref 39) dX8_hasNeeds_142 rfl (by decide) rfl rfl rfl ?_
    refine e_iload_n dX8_hasNeeds_145 rfl ?_
    refine e_iload_n dX8_hasNeeds_146 rfl ?_
    obtain ⟨hc66, h⟩ := ck_eq h
    refine e_iastore (n := 6) dX8_hasNeeds_147 (by decide) rfl hc66 ?_
    refine e_naM (e := sI μ53 39 (Int32.toNatClampNeg x2) x3) h (fun μ67 eμ67 h => ?_)
    refine e_goto (tgt := 163) dX8_hasNeeds_148 rfl ?_
    refine e_iincN 2 (1 : Int32) dX8_hasNeeds_163 rfl ci_1 h (fun y9 => [some (.ref 29), some (.int v51), some (.int y9), some (.int x3), none, none, none]) (fun _ => rfl) (fun v68 ev68 h => ?_)
    refine e_goto (tgt := 4) dX8_hasNeeds_166 rfl ?_
    exact e_le (hk4 v51 v68 μ67 _ (by omega) h) ⟨rfl, rfl, rfl, trivial⟩
set_option maxHeartbeats 4000000 in
theorem g_X8_hasNeeds_34 {r : Res} {μ' : Mem} {k4 : Int32 → Int32 → Mem → Out} (hk4 : ∀ (x1 : Int32) (x2 : Int32), ∀ (μ : Mem) (b : Nat), 0 ≤ b → k4 x1 x2 μ = some (r, μ') → G mX8_hasNeeds (Qe r μ') 4 [some (.ref 29), some (.int x1), some (.int x2), none, none, none, none] [] μ b) : ∀ n : Nat, ∀ (x1 : Int32) (x2 : Int32) (x3 : Int32) (x4 : Int32) (x5 : Int32), ∀ (μ : Mem) (b : Nat), 0 ≤ b → f_X8_hasNeeds_34 k4 n x1 x2 x3 x4 x5 μ = some (r, μ') → G mX8_hasNeeds (Qe r μ') 34 [some (.ref 29), some (.int x1), some (.int x2), some (.int x3), some (.int x4), some (.int x5), none] [] μ b := by
  intro n
  induction n with
  | zero => intro x1 x2 x3 x4 x5 μ b hb9 h; exact nomatch (show (none : Out) = some _ from h)
  | succ n ih =>
    intro x1 x2 x3 x4 x5 μ b hb9 h
    rw [f_X8_hasNeeds_34.eq_2] at h
    refine e_iload dX8_hasNeeds_34 rfl ?_
    refine e_aload_n dX8_hasNeeds_36 rfl ?_
    refine e_iload_n dX8_hasNeeds_37 rfl ?_
    refine cI_go h (fun E22 hc20 hr23 => e_VX [.int x2] [.int x5] dX8_hasNeeds_38 rfl rfl rfl rfl (by decide) (Nat.le_of_ble_eq_true rfl) (by omega) ⟨x2, rfl, hc20⟩ rfl ⟨hr23.symm, rfl⟩) (fun v24 μ21 hc20 h => ?_)
    refine e_VI [.int x2] [.int x5] dX8_hasNeeds_38 rfl rfl rfl rfl (by decide) (Nat.le_of_ble_eq_true rfl) (by omega) ⟨x2, rfl, hc20⟩ ?_
    refine e_ic_ge (tgt := 104) dX8_hasNeeds_41 rfl (fun hc25 => ?_) (fun hc25 => ?_)
    · rw [if_pos hc25] at h
      refine e_iload_n dX8_hasNeeds_104 rfl ?_
      refine e_iconst dX8_hasNeeds_105 ci_0 ?_
      refine e_iload dX8_hasNeeds_106 rfl ?_
      refine cI_go h (fun E28 hc26 hr29 => e_SX [.int x3, .int (0 : Int32), .int x4] [] dX8_hasNeeds_108 rfl (by decide) rfl rfl (Nat.le_of_ble_eq_true rfl) (by omega) ⟨x3, (0 : Int32), x4, rfl, hc26⟩ rfl ⟨hr29.symm, rfl⟩) (fun v30 μ27 hc26 h => ?_)
      refine e_SI [.int x3, .int (0 : Int32), .int x4] [] dX8_hasNeeds_108 rfl (by decide) rfl rfl (Nat.le_of_ble_eq_true rfl) (by omega) ⟨x3, (0 : Int32), x4, rfl, hc26⟩ ?_
      refine e_if_ne (tgt := 116) dX8_hasNeeds_111 rfl (fun hc31 => ?_) (fun hc31 => ?_)
      · rw [if_neg hc31] at h
        refine e_iload_n dX8_hasNeeds_116 rfl ?_
        refine e_iload_n dX8_hasNeeds_117 rfl ?_
        refine e_aload_n dX8_hasNeeds_118 rfl ?_
        refine cI_go h (fun E34 hc32 hr35 => e_VX [] [.int x2, .int x1] dX8_hasNeeds_119 rfl rfl rfl rfl (by decide) (Nat.le_of_ble_eq_true rfl) (by omega) ⟨rfl, hc32⟩ rfl ⟨hr35.symm, rfl⟩) (fun v36 μ33 hc32 h => ?_)
        refine e_VI [] [.int x2, .int x1] dX8_hasNeeds_119 rfl rfl rfl rfl (by decide) (Nat.le_of_ble_eq_true rfl) (by omega) ⟨rfl, hc32⟩ ?_
        refine e_ic_ge (tgt := 129) dX8_hasNeeds_122 rfl (fun hc37 => ?_) (fun hc37 => ?_)
        · rw [if_pos hc37] at h
          refine e_iload_n dX8_hasNeeds_129 rfl ?_
          refine e_ineg dX8_hasNeeds_130 ?_
          exact e_le (g_X8_hasNeeds_131 hk4 x2 x3 (-x3) x1 μ33 _ (by omega) h) ⟨rfl, rfl, rfl, trivial⟩
        · rw [if_neg hc37] at h
          refine e_iload_n dX8_hasNeeds_125 rfl ?_
          refine e_goto (tgt := 131) dX8_hasNeeds_126 rfl ?_
          exact e_le (g_X8_hasNeeds_131 hk4 x2 x3 x3 x1 μ33 _ (by omega) h) ⟨rfl, rfl, rfl, trivial⟩
      · rw [if_pos hc31] at h
        refine e_iconst dX8_hasNeeds_114 ci_0 ?_
        exact e_iret .boolean dX8_hasNeeds_115 rfl rfl (ret_eq h)
    · rw [if_neg hc25] at h
      refine e_aload_n dX8_hasNeeds_44 rfl ?_
      refine e_get (ci := 6) (j := 11) (t := 2) (v := .ref 37) dX8_hasNeeds_45 rfl (by decide) rfl rfl rfl ?_
      refine e_bipush dX8_hasNeeds_48 cb_6 ?_
      refine e_aload_n dX8_hasNeeds_50 rfl ?_
      refine e_iload_n dX8_hasNeeds_51 rfl ?_
      refine e_iload dX8_hasNeeds_52 rfl ?_
      refine cI_go h (fun E40 hc38 hr41 => e_VX [.int x2, .int x5] [.int (6 : Int32), .ref 37] dX8_hasNeeds_54 rfl rfl rfl rfl (by decide) (Nat.le_of_ble_eq_true rfl) (by omega) ⟨x2, x5, rfl, hc38⟩ rfl ⟨hr41.symm, rfl⟩) (fun v42 μ39 hc38 h => ?_)
      refine e_VI [.int x2, .int x5] [.int (6 : Int32), .ref 37] dX8_hasNeeds_54 rfl rfl rfl rfl (by decide) (Nat.le_of_ble_eq_true rfl) (by omega) ⟨x2, x5, rfl, hc38⟩ ?_
      refine e_imul dX8_hasNeeds_57 ?_
      refine e_aload_n dX8_hasNeeds_58 rfl ?_
      refine e_iload_n dX8_hasNeeds_59 rfl ?_
      refine e_iload dX8_hasNeeds_60 rfl ?_
      refine cI_go h (fun E45 hc43 hr46 => e_VX [.int x2, .int x5] [.int ((6 : Int32) * v42), .ref 37] dX8_hasNeeds_62 rfl rfl rfl rfl (by decide) (Nat.le_of_ble_eq_true rfl) (by omega) ⟨x2, x5, rfl, hc43⟩ rfl ⟨hr46.symm, rfl⟩) (fun v47 μ44 hc43 h => ?_)
      refine e_VI [.int x2, .int x5] [.int ((6 : Int32) * v42), .ref 37] dX8_hasNeeds_62 rfl rfl rfl rfl (by decide) (Nat.le_of_ble_eq_true rfl) (by omega) ⟨x2, x5, rfl, hc43⟩ ?_
      refine e_iadd dX8_hasNeeds_65 ?_
      obtain ⟨hc48, h⟩ := ck_eq h
      refine e_ialoadL (μ44.1 37 (Int32.toNatClampNeg (((6 : Int32) * v42) + v47))) (n := 36) dX8_hasNeeds_66 (by decide) rfl hc48 rfl ?_
      refine e_naI h (fun v49 ev49 h => ?_)
      refine e_istoreL [some (.ref 29), some (.int x1), some (.int x2), some (.int x3), some (.int x4), some (.int x5), some (.int v49)] dX8_hasNeeds_67 (Nat.le_of_ble_eq_true rfl) rfl ?_
      refine e_iload_n dX8_hasNeeds_69 rfl ?_
      refine e_iload dX8_hasNeeds_70 rfl ?_
      refine e_iconst dX8_hasNeeds_72 ci_1 ?_
      refine e_ic_ne (tgt := 80) dX8_hasNeeds_73 rfl (fun hc50 => ?_) (fun hc50 => ?_)
      · rw [if_neg hc50] at h
        refine e_iconst dX8_hasNeeds_80 ci_0 ?_
        exact e_le (g_X8_hasNeeds_81 hk4 ih x1 x2 x4 x5 v49 (0 : Int32) x3 μ44 _ (by omega) h) ⟨rfl, rfl, rfl, rfl, rfl, rfl, trivial⟩
      · rw [if_pos hc50] at h
        refine e_iconst dX8_hasNeeds_76 ci_1 ?_
        refine e_goto (tgt := 81) dX8_hasNeeds_77 rfl ?_
        exact e_le (g_X8_hasNeeds_81 hk4 ih x1 x2 x4 x5 v49 (1 : Int32) x3 μ44 _ (by omega) h) ⟨rfl, rfl, rfl, rfl, rfl, rfl, trivial⟩
set_option maxHeartbeats 4000000 in
theorem g_X8_hasNeeds_4 {r : Res} {μ' : Mem} : ∀ n : Nat, ∀ (x1 : Int32) (x2 : Int32), ∀ (μ : Mem) (b : Nat), 0 ≤ b → f_X8_hasNeeds_4 n x1 x2 μ = some (r, μ') → G mX8_hasNeeds (Qe r μ') 4 [some (.ref 29), some (.int x1), some (.int x2), none, none, none, none] [] μ b := by
  intro n
  induction n with
  | zero => intro x1 x2 μ b hb9 h; exact nomatch (show (none : Out) = some _ from h)
  | succ n ih =>
    intro x1 x2 μ b hb9 h
    rw [f_X8_hasNeeds_4.eq_2] at h
    refine e_iload_n dX8_hasNeeds_4 rfl ?_
    refine e_aload_n dX8_hasNeeds_5 rfl ?_
    refine cI_go h (fun E3 hc1 hr4 => e_VX [] [.int x2] dX8_hasNeeds_6 rfl rfl rfl rfl (by decide) (Nat.le_of_ble_eq_true rfl) (by omega) ⟨rfl, hc1⟩ rfl ⟨hr4.symm, rfl⟩) (fun v5 μ2 hc1 h => ?_)
    refine e_VI [] [.int x2] dX8_hasNeeds_6 rfl rfl rfl rfl (by decide) (Nat.le_of_ble_eq_true rfl) (by omega) ⟨rfl, hc1⟩ ?_
    refine e_aload_n dX8_hasNeeds_9 rfl ?_
    refine cI_go h (fun E8 hc6 hr9 => e_VX [] [.int v5, .int x2] dX8_hasNeeds_10 rfl rfl rfl rfl (by decide) (Nat.le_of_ble_eq_true rfl) (by omega) ⟨rfl, hc6⟩ rfl ⟨hr9.symm, rfl⟩) (fun v10 μ7 hc6 h => ?_)
    refine e_VI [] [.int v5, .int x2] dX8_hasNeeds_10 rfl rfl rfl rfl (by decide) (Nat.le_of_ble_eq_true rfl) (by omega) ⟨rfl, hc6⟩ ?_
    refine e_iadd dX8_hasNeeds_13 ?_
    refine e_ic_ge (tgt := 169) dX8_hasNeeds_14 rfl (fun hc11 => ?_) (fun hc11 => ?_)
    · rw [if_pos hc11] at h
      refine e_iload_n dX8_hasNeeds_169 rfl ?_
      refine e_if_ne (tgt := 177) dX8_hasNeeds_170 rfl (fun hc12 => ?_) (fun hc12 => ?_)
      · rw [if_neg hc12] at h
        refine e_iconst dX8_hasNeeds_177 ci_0 ?_
        exact e_iret .boolean dX8_hasNeeds_178 rfl rfl (ret_eq h)
      · rw [if_pos hc12] at h
        refine e_iconst dX8_hasNeeds_173 ci_1 ?_
        refine e_goto (tgt := 178) dX8_hasNeeds_174 rfl ?_
        exact e_iret .boolean dX8_hasNeeds_178 rfl rfl (ret_eq h)
    · rw [if_neg hc11] at h
      refine e_aload_n dX8_hasNeeds_17 rfl ?_
      refine e_get (ci := 6) (j := 0) (t := 2) (v := .ref 30) dX8_hasNeeds_18 rfl (by decide) rfl rfl rfl ?_
      refine e_aload_n dX8_hasNeeds_21 rfl ?_
      refine e_iload_n dX8_hasNeeds_22 rfl ?_
      refine cI_go h (fun E15 hc13 hr16 => e_VX [.int x2] [.ref 30] dX8_hasNeeds_23 rfl rfl rfl rfl (by decide) (Nat.le_of_ble_eq_true rfl) (by omega) ⟨x2, rfl, hc13⟩ rfl ⟨hr16.symm, rfl⟩) (fun v17 μ14 hc13 h => ?_)
      refine e_VI [.int x2] [.ref 30] dX8_hasNeeds_23 rfl rfl rfl rfl (by decide) (Nat.le_of_ble_eq_true rfl) (by omega) ⟨x2, rfl, hc13⟩ ?_
      obtain ⟨hc18, h⟩ := ck_eq h
      refine e_ialoadL (μ14.1 30 (Int32.toNatClampNeg v17)) (n := 50) dX8_hasNeeds_26 (by decide) rfl hc18 rfl ?_
      refine e_naI h (fun v19 ev19 h => ?_)
      refine e_istore_nL [some (.ref 29), some (.int x1), some (.int x2), some (.int v19), none, none, none] dX8_hasNeeds_27 (Nat.le_of_ble_eq_true rfl) rfl ?_
      refine e_iconst dX8_hasNeeds_28 ci_0 ?_
      refine e_istoreL [some (.ref 29), some (.int x1), some (.int x2), some (.int v19), some (.int (0 : Int32)), none, none] dX8_hasNeeds_29 (Nat.le_of_ble_eq_true rfl) rfl ?_
      refine e_iconst dX8_hasNeeds_31 ci_0 ?_
      refine e_istoreL [some (.ref 29), some (.int x1), some (.int x2), some (.int v19), some (.int (0 : Int32)), some (.int (0 : Int32)), none] dX8_hasNeeds_32 (Nat.le_of_ble_eq_true rfl) rfl ?_
      exact e_le (g_X8_hasNeeds_34 ih BIG x1 x2 v19 (0 : Int32) (0 : Int32) μ14 _ (by omega) h) ⟨rfl, rfl, rfl, rfl, rfl, rfl, trivial⟩
set_option maxHeartbeats 4000000 in
theorem b_X8_hasNeeds : ∀ as μ r μ', Γ_X8_hasNeeds as μ r μ' → (elvL as).length ≤ 7 ∧ G mX8_hasNeeds (Qe r μ') 0 (elv as 7) [] μ 0 := by
  intro as μ r μ' h
  obtain ⟨rfl, h⟩ := h
  refine ⟨Nat.le_of_ble_eq_true rfl, ?_⟩
  show G mX8_hasNeeds (Qe r μ') 0 [some (.ref 29), none, none, none, none, none, none] [] μ 0
  unfold F_X8_hasNeeds at h
  have hb9 : 0 ≤ 0 := Nat.le_refl _
  refine e_iconst dX8_hasNeeds_0 ci_0 ?_
  refine e_istore_nL [some (.ref 29), some (.int (0 : Int32)), none, none, none, none, none] dX8_hasNeeds_1 (Nat.le_of_ble_eq_true rfl) rfl ?_
  refine e_iconst dX8_hasNeeds_2 ci_0 ?_
  refine e_istore_nL [some (.ref 29), some (.int (0 : Int32)), some (.int (0 : Int32)), none, none, none, none] dX8_hasNeeds_3 (Nat.le_of_ble_eq_true rfl) rfl ?_
  exact e_le (g_X8_hasNeeds_4 BIG (0 : Int32) (0 : Int32) μ _ (by omega) h) ⟨rfl, rfl, rfl, trivial⟩
set_option maxRecDepth 20000 in
theorem ok_X8_hasNeeds (l : Launch) (hl : l.stackTraces = false) : MOK l yX8_hasNeeds.cls 3 42 mX8_hasNeeds := ⟨lk_all (List.forall_mem_cons.mpr ⟨⟨yX8_rows, cX8_rows, 1, (some .int), 1, 0, by decide, by decide, t_1 7 rfl rfl, hd_X8_rows, Or.inr (Or.inl ⟨rfl, sc_X8_rows l hl, t_5 45 rfl rfl, t_5 42 rfl rfl, t_5 44 rfl rfl, _, rfl, t_p 35 rfl⟩)⟩, List.forall_mem_cons.mpr ⟨⟨yX8_in, cX8_in, 3, (some .boolean), 1, 0, by decide, by decide, t_1 7 rfl rfl, hd_X8_in, Or.inl ⟨rfl, sc_X8_in l hl, t_5 18 rfl rfl, t_5 16 rfl rfl, t_5 17 rfl rfl⟩⟩, List.forall_mem_cons.mpr ⟨⟨yX8_columns, cX8_columns, 1, (some .int), 1, 0, by decide, by decide, t_1 7 rfl rfl, hd_X8_columns, Or.inr (Or.inl ⟨rfl, sc_X8_columns l hl, t_5 49 rfl rfl, t_5 46 rfl rfl, t_5 48 rfl rfl, _, rfl, t_p 36 rfl⟩)⟩, List.forall_mem_cons.mpr ⟨⟨yX8_lengthOf, cX8_lengthOf, 2, (some .int), 2, 20, by decide, by decide, t_1 7 rfl rfl, hd_X8_lengthOf, Or.inr (Or.inl ⟨rfl, sc_X8_lengthOf l hl, t_5 61 rfl rfl, t_5 58 rfl rfl, t_5 60 rfl rfl, _, rfl, t_p 39 rfl⟩)⟩, List.forall_mem_cons.mpr ⟨⟨yX8_rowOf, cX8_rowOf, 3, (some .int), 2, 20, by decide, by decide, t_1 7 rfl rfl, hd_X8_rowOf, Or.inr (Or.inl ⟨rfl, sc_X8_rowOf l hl, t_5 65 rfl rfl, t_5 62 rfl rfl, t_5 64 rfl rfl, _, rfl, t_p 40 rfl⟩)⟩, List.forall_mem_cons.mpr ⟨⟨yX8_columnOf, cX8_columnOf, 3, (some .int), 2, 20, by decide, by decide, t_1 7 rfl rfl, hd_X8_columnOf, Or.inr (Or.inl ⟨rfl, sc_X8_columnOf l hl, t_5 69 rfl rfl, t_5 66 rfl rfl, t_5 68 rfl rfl, _, rfl, t_p 41 rfl⟩)⟩, List.forall_mem_cons.mpr ⟨⟨yX8_wantAt, cX8_wantAt, 2, (some .int), 2, 20, by decide, by decide, t_1 7 rfl rfl, hd_X8_wantAt, Or.inr (Or.inl ⟨rfl, sc_X8_wantAt l hl, t_5 53 rfl rfl, t_5 50 rfl rfl, t_5 52 rfl rfl, _, rfl, t_p 37 rfl⟩)⟩, nil_all⟩⟩⟩⟩⟩⟩⟩), fun ix ci j h => lk_all (P := fun ix q => FldOK yX8_hasNeeds.cls ix q.1 q.2) (List.forall_mem_cons.mpr ⟨⟨_, rfl, by decide, t_4 178 rfl rfl⟩, List.forall_mem_cons.mpr ⟨⟨_, rfl, by decide, t_4 189 rfl rfl⟩, List.forall_mem_cons.mpr ⟨⟨_, rfl, by decide, t_4 191 rfl rfl⟩, List.forall_mem_cons.mpr ⟨⟨_, rfl, by decide, t_4 192 rfl rfl⟩, nil_all⟩⟩⟩⟩) ix (ci, j) h, lk_all (nil_all), lk_all (nil_all), lk_all (nil_all)⟩
theorem hd_X8_hasNeeds : CallHd yX8_hasNeeds 0 := ⟨by decide +kernel, by decide +kernel, by decide +kernel⟩
theorem sc_X8_hasNeeds (l : Launch) (hl : l.stackTraces = false) : SCon l yX8_hasNeeds cX8_hasNeeds 7 (some .boolean) 3 42 0 Γ_X8_hasNeeds := scon_of mX8_hasNeeds cls_ok hl (by decide +kernel) rfl rfl (ok_X8_hasNeeds l hl) rfl rfl b_X8_hasNeeds
def f_X8_wayFrom_142 (k48 : Int32 → Int32 → Mem → Out) (k64 : Int32 → Int32 → Int32 → Int32 → Mem → Out) : Nat → Int32 → Int32 → Int32 → Int32 → Int32 → Mem → Out
  | 0, _, _, _, _, _, _ => none
  | n + 1, x2, x3, x4, x5, x6, μ => cI (F_X8_rows μ) (fun v37 μ34 => if v37 ≤ x6 then (lt (x5 + (1 : Int32)) (fun v39 => k64 x2 x3 x4 v39 μ34)) else (ck (inb (((6 : Int32) * x6) + x5) 36) (if 0 ≤ (μ34.1 37 (Int32.toNatClampNeg (((6 : Int32) * x6) + x5))) then (lt (x6 + (1 : Int32)) (fun v42 => f_X8_wayFrom_142 k48 k64 n x2 x3 x4 x5 v42 μ34)) else (ck (inb (((6 : Int32) * x6) + x5) 36) (if (μ34.1 38 (Int32.toNatClampNeg (((6 : Int32) * x6) + x5))) = 0 then (lt (x6 + (1 : Int32)) (fun v45 => f_X8_wayFrom_142 k48 k64 n x2 x3 x4 x5 v45 μ34)) else (ck (inb x6 6) (if (μ34.1 42 (Int32.toNatClampNeg x6)) = (-9 : Int32) then (ck (inb x6 6) (lt (sI μ34 42 (Int32.toNatClampNeg x6) x5) (fun μ50 => ck (inb x2 6) (lt (sI μ50 43 (Int32.toNatClampNeg x2) x6) (fun μ52 => lt (x2 + (1 : Int32)) (fun v53 => lt (x6 + (1 : Int32)) (fun v54 => f_X8_wayFrom_142 k48 k64 n v53 x3 x4 x5 v54 μ52))))))) else (lt (x6 + (1 : Int32)) (fun v48 => f_X8_wayFrom_142 k48 k64 n x2 x3 x4 x5 v48 μ34)))))))))
def f_X8_wayFrom_64 (k48 : Int32 → Int32 → Mem → Out) : Nat → Int32 → Int32 → Int32 → Int32 → Mem → Out
  | 0, _, _, _, _, _ => none
  | n + 1, x2, x3, x4, x5, μ => cI (F_X8_columns μ) (fun v17 μ14 => if v17 ≤ x5 then (lt (x3 + (1 : Int32)) (fun v19 => k48 x2 v19 μ14)) else (ck (inb (((6 : Int32) * x4) + x5) 36) (if 0 ≤ (μ14.1 37 (Int32.toNatClampNeg (((6 : Int32) * x4) + x5))) then (lt (x5 + (1 : Int32)) (fun v22 => f_X8_wayFrom_64 k48 n x2 x3 x4 v22 μ14)) else (ck (inb (((6 : Int32) * x4) + x5) 36) (if (μ14.1 38 (Int32.toNatClampNeg (((6 : Int32) * x4) + x5))) = 0 then (ck (inb x5 6) (if (μ14.1 41 (Int32.toNatClampNeg x5)) = (-9 : Int32) then (ck (inb x5 6) (lt (sI μ14 41 (Int32.toNatClampNeg x5) x4) (fun μ30 => ck (inb x5 6) (if (μ30.1 40 (Int32.toNatClampNeg x5)) ≤ 0 then (f_X8_wayFrom_142 k48 (f_X8_wayFrom_64 k48 n) BIG x2 x3 x4 x5 (0 : Int32) μ30) else (rI x5 μ30))))) else (lt (x5 + (1 : Int32)) (fun v28 => f_X8_wayFrom_64 k48 n x2 x3 x4 v28 μ14)))) else (lt (x5 + (1 : Int32)) (fun v25 => f_X8_wayFrom_64 k48 n x2 x3 x4 v25 μ14)))))))
def f_X8_wayFrom_48 : Nat → Int32 → Int32 → Mem → Out
  | 0, _, _, _ => none
  | n + 1, x2, x3, μ => if x2 ≤ x3 then (rI (-9 : Int32) μ) else (ck (inb x3 6) (lt (μ.1 43 (Int32.toNatClampNeg x3)) (fun v12 => f_X8_wayFrom_64 (f_X8_wayFrom_48 n) BIG x2 x3 v12 (0 : Int32) μ)))
def f_X8_wayFrom_2 : Nat → Int32 → Int32 → Mem → Out
  | 0, _, _, _ => none
  | n + 1, x1, x2, μ => if (6 : Int32) ≤ x2 then (lt (sI μ 43 0 x1) (fun μ2 => ck (inb x1 6) (lt (sI μ2 42 (Int32.toNatClampNeg x1) (-1 : Int32)) (fun μ4 => f_X8_wayFrom_48 BIG (1 : Int32) (0 : Int32) μ4)))) else (ck (inb x2 6) (lt (sI μ 41 (Int32.toNatClampNeg x2) (-9 : Int32)) (fun μ6 => ck (inb x2 6) (lt (sI μ6 42 (Int32.toNatClampNeg x2) (-9 : Int32)) (fun μ8 => lt (x2 + (1 : Int32)) (fun v9 => f_X8_wayFrom_2 n x1 v9 μ8))))))
def F_X8_wayFrom (a0 : Int32) (μ : Mem) : Out := f_X8_wayFrom_2 BIG a0 (0 : Int32) μ
def Γ_X8_wayFrom : Gam := fun as μ r μ' => ∃ (a0 : Int32), as = [.ref 29, .int a0] ∧ F_X8_wayFrom a0 μ = some (r, μ')
def mX8_wayFrom : MI := (cX8_wayFrom, [(76, (1, 0, 0, 6, Γ_X8_rows)), (84, (1, 0, 0, 6, Γ_X8_columns))], [(32, 6, 11), (35, 6, 12), (41, 6, 14), (44, 6, 15), (47, 6, 16), (50, 6, 17)], [], [], [], [], none, (some .int))
set_option maxHeartbeats 4000000 in
theorem g_X8_wayFrom_142 {r : Res} {μ' : Mem} {k48 : Int32 → Int32 → Mem → Out} {k64 : Int32 → Int32 → Int32 → Int32 → Mem → Out} (hk48 : ∀ (x2 : Int32) (x3 : Int32), ∀ (μ : Mem) (b : Nat), 0 ≤ b → k48 x2 x3 μ = some (r, μ') → G mX8_wayFrom (Qe r μ') 48 [some (.ref 29), none, some (.int x2), some (.int x3), none, none, none] [] μ b) (hk64 : ∀ (x2 : Int32) (x3 : Int32) (x4 : Int32) (x5 : Int32), ∀ (μ : Mem) (b : Nat), 0 ≤ b → k64 x2 x3 x4 x5 μ = some (r, μ') → G mX8_wayFrom (Qe r μ') 64 [some (.ref 29), none, some (.int x2), some (.int x3), some (.int x4), some (.int x5), none] [] μ b) : ∀ n : Nat, ∀ (x2 : Int32) (x3 : Int32) (x4 : Int32) (x5 : Int32) (x6 : Int32), ∀ (μ : Mem) (b : Nat), 0 ≤ b → f_X8_wayFrom_142 k48 k64 n x2 x3 x4 x5 x6 μ = some (r, μ') → G mX8_wayFrom (Qe r μ') 142 [some (.ref 29), none, some (.int x2), some (.int x3), some (.int x4), some (.int x5), some (.int x6)] [] μ b := by
  intro n
  induction n with
  | zero => intro x2 x3 x4 x5 x6 μ b hb9 h; exact nomatch (show (none : Out) = some _ from h)
  | succ n ih =>
    intro x2 x3 x4 x5 x6 μ b hb9 h
    rw [f_X8_wayFrom_142.eq_2] at h
    refine e_iload dX8_wayFrom_142 rfl ?_
    refine e_aload_n dX8_wayFrom_144 rfl ?_
    refine cI_go h (fun E35 hc33 hr36 => e_VX [] [.int x6] dX8_wayFrom_145 rfl rfl rfl rfl (by decide) (Nat.le_of_ble_eq_true rfl) (by omega) ⟨rfl, hc33⟩ rfl ⟨hr36.symm, rfl⟩) (fun v37 μ34 hc33 h => ?_)
    refine e_VI [] [.int x6] dX8_wayFrom_145 rfl rfl rfl rfl (by decide) (Nat.le_of_ble_eq_true rfl) (by omega) ⟨rfl, hc33⟩ ?_
    refine e_ic_ge (tgt := 221) dX8_wayFrom_148 rfl (fun hc38 => ?_) (fun hc38 => ?_)
    · rw [if_pos hc38] at h
      refine e_iincN 5 (1 : Int32) dX8_wayFrom_221 rfl ci_1 h (fun y9 => [some (.ref 29), none, some (.int x2), some (.int x3), some (.int x4), some (.int y9), some (.int x6)]) (fun _ => rfl) (fun v39 ev39 h => ?_)
      refine e_goto (tgt := 64) dX8_wayFrom_224 rfl ?_
      exact e_le (hk64 x2 x3 x4 v39 μ34 _ (by omega) h) ⟨rfl, rfl, rfl, rfl, rfl, trivial⟩
    · rw [if_neg hc38] at h
      refine e_aload_n dX8_wayFrom_151 rfl ?_
      refine e_get (ci := 6) (j := 11) (t := 2) (v := .ref 37) dX8_wayFrom_152 rfl (by decide) rfl rfl rfl ?_
      refine e_bipush dX8_wayFrom_155 cb_6 ?_
      refine e_iload dX8_wayFrom_157 rfl ?_
      refine e_imul dX8_wayFrom_159 ?_
      refine e_iload dX8_wayFrom_160 rfl ?_
      refine e_iadd dX8_wayFrom_162 ?_
      obtain ⟨hc40, h⟩ := ck_eq h
      refine e_ialoadL (μ34.1 37 (Int32.toNatClampNeg (((6 : Int32) * x6) + x5))) (n := 36) dX8_wayFrom_163 (by decide) rfl hc40 rfl ?_
      refine e_if_ge (tgt := 215) dX8_wayFrom_164 rfl (fun hc41 => ?_) (fun hc41 => ?_)
      · rw [if_pos hc41] at h
        refine e_iincN 6 (1 : Int32) dX8_wayFrom_215 rfl ci_1 h (fun y9 => [some (.ref 29), none, some (.int x2), some (.int x3), some (.int x4), some (.int x5), some (.int y9)]) (fun _ => rfl) (fun v42 ev42 h => ?_)
        refine e_goto (tgt := 142) dX8_wayFrom_218 rfl ?_
        exact e_le (ih x2 x3 x4 x5 v42 μ34 _ (by omega) h) ⟨rfl, rfl, rfl, rfl, rfl, rfl, trivial⟩
      · rw [if_neg hc41] at h
        refine e_aload_n dX8_wayFrom_167 rfl ?_
        refine e_get (ci := 6) (j := 12) (t := 2) (v := .ref 38) dX8_wayFrom_168 rfl (by decide) rfl rfl rfl ?_
        refine e_bipush dX8_wayFrom_171 cb_6 ?_
        refine e_iload dX8_wayFrom_173 rfl ?_
        refine e_imul dX8_wayFrom_175 ?_
        refine e_iload dX8_wayFrom_176 rfl ?_
        refine e_iadd dX8_wayFrom_178 ?_
        obtain ⟨hc43, h⟩ := ck_eq h
        refine e_baload (n := 36) dX8_wayFrom_179 (by decide) rfl hc43 ?_
        refine e_if_eq (tgt := 215) dX8_wayFrom_180 rfl (fun hc44 => ?_) (fun hc44 => ?_)
        · rw [if_pos hc44] at h
          refine e_iincN 6 (1 : Int32) dX8_wayFrom_215 rfl ci_1 h (fun y9 => [some (.ref 29), none, some (.int x2), some (.int x3), some (.int x4), some (.int x5), some (.int y9)]) (fun _ => rfl) (fun v45 ev45 h => ?_)
          refine e_goto (tgt := 142) dX8_wayFrom_218 rfl ?_
          exact e_le (ih x2 x3 x4 x5 v45 μ34 _ (by omega) h) ⟨rfl, rfl, rfl, rfl, rfl, rfl, trivial⟩
        · rw [if_neg hc44] at h
          refine e_aload_n dX8_wayFrom_183 rfl ?_
          refine e_get (ci := 6) (j := 16) (t := 2) (v := .ref 42) dX8_wayFrom_184 rfl (by decide) rfl rfl rfl ?_
          refine e_iload dX8_wayFrom_187 rfl ?_
          obtain ⟨hc46, h⟩ := ck_eq h
          refine e_ialoadL (μ34.1 42 (Int32.toNatClampNeg x6)) (n := 6) dX8_wayFrom_189 (by decide) rfl hc46 rfl ?_
          refine e_bipush dX8_wayFrom_190 cb_m9 ?_
          refine e_ic_ne (tgt := 215) dX8_wayFrom_192 rfl (fun hc47 => ?_) (fun hc47 => ?_)
          · rw [if_neg hc47] at h
            refine e_iincN 6 (1 : Int32) dX8_wayFrom_215 rfl ci_1 h (fun y9 => [some (.ref 29), none, some (.int x2), some (.int x3), some (.int x4), some (.int x5), some (.int y9)]) (fun _ => rfl) (fun v48 ev48 h => ?_)
            refine e_goto (tgt := 142) dX8_wayFrom_218 rfl ?_
            exact e_le (ih x2 x3 x4 x5 v48 μ34 _ (by omega) h) ⟨rfl, rfl, rfl, rfl, rfl, rfl, trivial⟩
          · rw [if_pos hc47] at h
            refine e_aload_n dX8_wayFrom_195 rfl ?_
            refine e_get (ci := 6) (j := 16) (t := 2) (v := .ref 42) dX8_wayFrom_196 rfl (by decide) rfl rfl rfl ?_
            refine e_iload dX8_wayFrom_199 rfl ?_
            refine e_iload dX8_wayFrom_201 rfl ?_
            obtain ⟨hc49, h⟩ := ck_eq h
            refine e_iastore (n := 6) dX8_wayFrom_203 (by decide) rfl hc49 ?_
            refine e_naM (e := sI μ34 42 (Int32.toNatClampNeg x6) x5) h (fun μ50 eμ50 h => ?_)
            refine e_aload_n dX8_wayFrom_204 rfl ?_
            refine e_get (ci := 6) (j := 17) (t := 2) (v := .ref 43) dX8_wayFrom_205 rfl (by decide) rfl rfl rfl ?_
            refine e_iload_n dX8_wayFrom_208 rfl ?_
            refine e_iload dX8_wayFrom_209 rfl ?_
            obtain ⟨hc51, h⟩ := ck_eq h
            refine e_iastore (n := 6) dX8_wayFrom_211 (by decide) rfl hc51 ?_
            refine e_naM (e := sI μ50 43 (Int32.toNatClampNeg x2) x6) h (fun μ52 eμ52 h => ?_)
            refine e_iincN 2 (1 : Int32) dX8_wayFrom_212 rfl ci_1 h (fun y9 => [some (.ref 29), none, some (.int y9), some (.int x3), some (.int x4), some (.int x5), some (.int x6)]) (fun _ => rfl) (fun v53 ev53 h => ?_)
            refine e_iincN 6 (1 : Int32) dX8_wayFrom_215 rfl ci_1 h (fun y9 => [some (.ref 29), none, some (.int v53), some (.int x3), some (.int x4), some (.int x5), some (.int y9)]) (fun _ => rfl) (fun v54 ev54 h => ?_)
            refine e_goto (tgt := 142) dX8_wayFrom_218 rfl ?_
            exact e_le (ih v53 x3 x4 x5 v54 μ52 _ (by omega) h) ⟨rfl, rfl, rfl, rfl, rfl, rfl, trivial⟩
set_option maxHeartbeats 4000000 in
theorem g_X8_wayFrom_64 {r : Res} {μ' : Mem} {k48 : Int32 → Int32 → Mem → Out} (hk48 : ∀ (x2 : Int32) (x3 : Int32), ∀ (μ : Mem) (b : Nat), 0 ≤ b → k48 x2 x3 μ = some (r, μ') → G mX8_wayFrom (Qe r μ') 48 [some (.ref 29), none, some (.int x2), some (.int x3), none, none, none] [] μ b) : ∀ n : Nat, ∀ (x2 : Int32) (x3 : Int32) (x4 : Int32) (x5 : Int32), ∀ (μ : Mem) (b : Nat), 0 ≤ b → f_X8_wayFrom_64 k48 n x2 x3 x4 x5 μ = some (r, μ') → G mX8_wayFrom (Qe r μ') 64 [some (.ref 29), none, some (.int x2), some (.int x3), some (.int x4), some (.int x5), none] [] μ b := by
  intro n
  induction n with
  | zero => intro x2 x3 x4 x5 μ b hb9 h; exact nomatch (show (none : Out) = some _ from h)
  | succ n ih =>
    intro x2 x3 x4 x5 μ b hb9 h
    rw [f_X8_wayFrom_64.eq_2] at h
    refine e_iload dX8_wayFrom_64 rfl ?_
    refine e_aload_n dX8_wayFrom_66 rfl ?_
    refine cI_go h (fun E15 hc13 hr16 => e_VX [] [.int x5] dX8_wayFrom_67 rfl rfl rfl rfl (by decide) (Nat.le_of_ble_eq_true rfl) (by omega) ⟨rfl, hc13⟩ rfl ⟨hr16.symm, rfl⟩) (fun v17 μ14 hc13 h => ?_)
    refine e_VI [] [.int x5] dX8_wayFrom_67 rfl rfl rfl rfl (by decide) (Nat.le_of_ble_eq_true rfl) (by omega) ⟨rfl, hc13⟩ ?_
    refine e_ic_ge (tgt := 227) dX8_wayFrom_70 rfl (fun hc18 => ?_) (fun hc18 => ?_)
    · rw [if_pos hc18] at h
      refine e_iincN 3 (1 : Int32) dX8_wayFrom_227 rfl ci_1 h (fun y9 => [some (.ref 29), none, some (.int x2), some (.int y9), some (.int x4), some (.int x5), none]) (fun _ => rfl) (fun v19 ev19 h => ?_)
      refine e_goto (tgt := 48) dX8_wayFrom_230 rfl ?_
      exact e_le (hk48 x2 v19 μ14 _ (by omega) h) ⟨rfl, rfl, rfl, trivial⟩
    · rw [if_neg hc18] at h
      refine e_aload_n dX8_wayFrom_73 rfl ?_
      refine e_get (ci := 6) (j := 11) (t := 2) (v := .ref 37) dX8_wayFrom_74 rfl (by decide) rfl rfl rfl ?_
      refine e_bipush dX8_wayFrom_77 cb_6 ?_
      refine e_iload dX8_wayFrom_79 rfl ?_
      refine e_imul dX8_wayFrom_81 ?_
      refine e_iload dX8_wayFrom_82 rfl ?_
      refine e_iadd dX8_wayFrom_84 ?_
      obtain ⟨hc20, h⟩ := ck_eq h
      refine e_ialoadL (μ14.1 37 (Int32.toNatClampNeg (((6 : Int32) * x4) + x5))) (n := 36) dX8_wayFrom_85 (by decide) rfl hc20 rfl ?_
      refine e_if_ge (tgt := 221) dX8_wayFrom_86 rfl (fun hc21 => ?_) (fun hc21 => ?_)
      · rw [if_pos hc21] at h
        refine e_iincN 5 (1 : Int32) dX8_wayFrom_221 rfl ci_1 h (fun y9 => [some (.ref 29), none, some (.int x2), some (.int x3), some (.int x4), some (.int y9), none]) (fun _ => rfl) (fun v22 ev22 h => ?_)
        refine e_goto (tgt := 64) dX8_wayFrom_224 rfl ?_
        exact e_le (ih x2 x3 x4 v22 μ14 _ (by omega) h) ⟨rfl, rfl, rfl, rfl, rfl, trivial⟩
      · rw [if_neg hc21] at h
        refine e_aload_n dX8_wayFrom_89 rfl ?_
        refine e_get (ci := 6) (j := 12) (t := 2) (v := .ref 38) dX8_wayFrom_90 rfl (by decide) rfl rfl rfl ?_
        refine e_bipush dX8_wayFrom_93 cb_6 ?_
        refine e_iload dX8_wayFrom_95 rfl ?_
        refine e_imul dX8_wayFrom_97 ?_
        refine e_iload dX8_wayFrom_98 rfl ?_
        refine e_iadd dX8_wayFrom_100 ?_
        obtain ⟨hc23, h⟩ := ck_eq h
        refine e_baload (n := 36) dX8_wayFrom_101 (by decide) rfl hc23 ?_
        refine e_if_ne (tgt := 221) dX8_wayFrom_102 rfl (fun hc24 => ?_) (fun hc24 => ?_)
        · rw [if_neg hc24] at h
          refine e_iincN 5 (1 : Int32) dX8_wayFrom_221 rfl ci_1 h (fun y9 => [some (.ref 29), none, some (.int x2), some (.int x3), some (.int x4), some (.int y9), none]) (fun _ => rfl) (fun v25 ev25 h => ?_)
          refine e_goto (tgt := 64) dX8_wayFrom_224 rfl ?_
          exact e_le (ih x2 x3 x4 v25 μ14 _ (by omega) h) ⟨rfl, rfl, rfl, rfl, rfl, trivial⟩
        · rw [if_pos hc24] at h
          refine e_aload_n dX8_wayFrom_105 rfl ?_
          refine e_get (ci := 6) (j := 15) (t := 2) (v := .ref 41) dX8_wayFrom_106 rfl (by decide) rfl rfl rfl ?_
          refine e_iload dX8_wayFrom_109 rfl ?_
          obtain ⟨hc26, h⟩ := ck_eq h
          refine e_ialoadL (μ14.1 41 (Int32.toNatClampNeg x5)) (n := 6) dX8_wayFrom_111 (by decide) rfl hc26 rfl ?_
          refine e_bipush dX8_wayFrom_112 cb_m9 ?_
          refine e_ic_ne (tgt := 221) dX8_wayFrom_114 rfl (fun hc27 => ?_) (fun hc27 => ?_)
          · rw [if_neg hc27] at h
            refine e_iincN 5 (1 : Int32) dX8_wayFrom_221 rfl ci_1 h (fun y9 => [some (.ref 29), none, some (.int x2), some (.int x3), some (.int x4), some (.int y9), none]) (fun _ => rfl) (fun v28 ev28 h => ?_)
            refine e_goto (tgt := 64) dX8_wayFrom_224 rfl ?_
            exact e_le (ih x2 x3 x4 v28 μ14 _ (by omega) h) ⟨rfl, rfl, rfl, rfl, rfl, trivial⟩
          · rw [if_pos hc27] at h
            refine e_aload_n dX8_wayFrom_117 rfl ?_
            refine e_get (ci := 6) (j := 15) (t := 2) (v := .ref 41) dX8_wayFrom_118 rfl (by decide) rfl rfl rfl ?_
            refine e_iload dX8_wayFrom_121 rfl ?_
            refine e_iload dX8_wayFrom_123 rfl ?_
            obtain ⟨hc29, h⟩ := ck_eq h
            refine e_iastore (n := 6) dX8_wayFrom_125 (by decide) rfl hc29 ?_
            refine e_naM (e := sI μ14 41 (Int32.toNatClampNeg x5) x4) h (fun μ30 eμ30 h => ?_)
            refine e_aload_n dX8_wayFrom_126 rfl ?_
            refine e_get (ci := 6) (j := 14) (t := 2) (v := .ref 40) dX8_wayFrom_127 rfl (by decide) rfl rfl rfl ?_
            refine e_iload dX8_wayFrom_130 rfl ?_
            obtain ⟨hc31, h⟩ := ck_eq h
            refine e_ialoadL (μ30.1 40 (Int32.toNatClampNeg x5)) (n := 6) dX8_wayFrom_132 (by decide) rfl hc31 rfl ?_
            refine e_if_le (tgt := 139) dX8_wayFrom_133 rfl (fun hc32 => ?_) (fun hc32 => ?_)
            · rw [if_pos hc32] at h
              refine e_iconst dX8_wayFrom_139 ci_0 ?_
              refine e_istoreL [some (.ref 29), none, some (.int x2), some (.int x3), some (.int x4), some (.int x5), some (.int (0 : Int32))] dX8_wayFrom_140 (Nat.le_of_ble_eq_true rfl) rfl ?_
              exact e_le (g_X8_wayFrom_142 hk48 ih BIG x2 x3 x4 x5 (0 : Int32) μ30 _ (by omega) h) ⟨rfl, rfl, rfl, rfl, rfl, rfl, trivial⟩
            · rw [if_neg hc32] at h
              refine e_iload dX8_wayFrom_136 rfl ?_
              exact e_iret .int dX8_wayFrom_138 rfl rfl (ret_eq h)
set_option maxHeartbeats 4000000 in
theorem g_X8_wayFrom_48 {r : Res} {μ' : Mem} : ∀ n : Nat, ∀ (x2 : Int32) (x3 : Int32), ∀ (μ : Mem) (b : Nat), 0 ≤ b → f_X8_wayFrom_48 n x2 x3 μ = some (r, μ') → G mX8_wayFrom (Qe r μ') 48 [some (.ref 29), none, some (.int x2), some (.int x3), none, none, none] [] μ b := by
  intro n
  induction n with
  | zero => intro x2 x3 μ b hb9 h; exact nomatch (show (none : Out) = some _ from h)
  | succ n ih =>
    intro x2 x3 μ b hb9 h
    rw [f_X8_wayFrom_48.eq_2] at h
    refine e_iload_n dX8_wayFrom_48 rfl ?_
    refine e_iload_n dX8_wayFrom_49 rfl ?_
    refine e_ic_ge (tgt := 233) dX8_wayFrom_50 rfl (fun hc10 => ?_) (fun hc10 => ?_)
    · rw [if_pos hc10] at h
      refine e_bipush dX8_wayFrom_233 cb_m9 ?_
      exact e_iret .int dX8_wayFrom_235 rfl rfl (ret_eq h)
    · rw [if_neg hc10] at h
      refine e_aload_n dX8_wayFrom_53 rfl ?_
      refine e_get (ci := 6) (j := 17) (t := 2) (v := .ref 43) dX8_wayFrom_54 rfl (by decide) rfl rfl rfl ?_
      refine e_iload_n dX8_wayFrom_57 rfl ?_
      obtain ⟨hc11, h⟩ := ck_eq h
      refine e_ialoadL (μ.1 43 (Int32.toNatClampNeg x3)) (n := 6) dX8_wayFrom_58 (by decide) rfl hc11 rfl ?_
      refine e_naI h (fun v12 ev12 h => ?_)
      refine e_istoreL [some (.ref 29), none, some (.int x2), some (.int x3), some (.int v12), none, none] dX8_wayFrom_59 (Nat.le_of_ble_eq_true rfl) rfl ?_
      refine e_iconst dX8_wayFrom_61 ci_0 ?_
      refine e_istoreL [some (.ref 29), none, some (.int x2), some (.int x3), some (.int v12), some (.int (0 : Int32)), none] dX8_wayFrom_62 (Nat.le_of_ble_eq_true rfl) rfl ?_
      exact e_le (g_X8_wayFrom_64 ih BIG x2 x3 v12 (0 : Int32) μ _ (by omega) h) ⟨rfl, rfl, rfl, rfl, rfl, trivial⟩
set_option maxHeartbeats 4000000 in
theorem g_X8_wayFrom_2 {r : Res} {μ' : Mem} : ∀ n : Nat, ∀ (x1 : Int32) (x2 : Int32), ∀ (μ : Mem) (b : Nat), 0 ≤ b → f_X8_wayFrom_2 n x1 x2 μ = some (r, μ') → G mX8_wayFrom (Qe r μ') 2 [some (.ref 29), some (.int x1), some (.int x2), none, none, none, none] [] μ b := by
  intro n
  induction n with
  | zero => intro x1 x2 μ b hb9 h; exact nomatch (show (none : Out) = some _ from h)
  | succ n ih =>
    intro x1 x2 μ b hb9 h
    rw [f_X8_wayFrom_2.eq_2] at h
    refine e_iload_n dX8_wayFrom_2 rfl ?_
    refine e_bipush dX8_wayFrom_3 cb_6 ?_
    refine e_ic_ge (tgt := 30) dX8_wayFrom_5 rfl (fun hc1 => ?_) (fun hc1 => ?_)
    · rw [if_pos hc1] at h
      refine e_iconst dX8_wayFrom_30 ci_1 ?_
      refine e_istore_nL [some (.ref 29), some (.int x1), some (.int (1 : Int32)), none, none, none, none] dX8_wayFrom_31 (Nat.le_of_ble_eq_true rfl) rfl ?_
      refine e_aload_n dX8_wayFrom_32 rfl ?_
      refine e_get (ci := 6) (j := 17) (t := 2) (v := .ref 43) dX8_wayFrom_33 rfl (by decide) rfl rfl rfl ?_
      refine e_iconst dX8_wayFrom_36 ci_0 ?_
      refine e_iload_n dX8_wayFrom_37 rfl ?_
      refine e_iastore (n := 6) dX8_wayFrom_38 (by decide) rfl (by decide : inb (0 : Int32) 6) ?_
      refine e_naM (e := sI μ 43 0 x1) h (fun μ2 eμ2 h => ?_)
      refine e_aload_n dX8_wayFrom_39 rfl ?_
      refine e_get (ci := 6) (j := 16) (t := 2) (v := .ref 42) dX8_wayFrom_40 rfl (by decide) rfl rfl rfl ?_
      refine e_iload_n dX8_wayFrom_43 rfl ?_
      refine e_iconst dX8_wayFrom_44 ci_m1 ?_
      obtain ⟨hc3, h⟩ := ck_eq h
      refine e_iastore (n := 6) dX8_wayFrom_45 (by decide) rfl hc3 ?_
      refine e_naM (e := sI μ2 42 (Int32.toNatClampNeg x1) (-1 : Int32)) h (fun μ4 eμ4 h => ?_)
      refine e_iconst dX8_wayFrom_46 ci_0 ?_
      refine e_istore_nL [some (.ref 29), some (.int x1), some (.int (1 : Int32)), some (.int (0 : Int32)), none, none, none] dX8_wayFrom_47 (Nat.le_of_ble_eq_true rfl) rfl ?_
      exact e_le (g_X8_wayFrom_48 BIG (1 : Int32) (0 : Int32) μ4 _ (by omega) h) ⟨rfl, rfl, rfl, trivial⟩
    · rw [if_neg hc1] at h
      refine e_aload_n dX8_wayFrom_8 rfl ?_
      refine e_get (ci := 6) (j := 15) (t := 2) (v := .ref 41) dX8_wayFrom_9 rfl (by decide) rfl rfl rfl ?_
      refine e_iload_n dX8_wayFrom_12 rfl ?_
      refine e_bipush dX8_wayFrom_13 cb_m9 ?_
      obtain ⟨hc5, h⟩ := ck_eq h
      refine e_iastore (n := 6) dX8_wayFrom_15 (by decide) rfl hc5 ?_
      refine e_naM (e := sI μ 41 (Int32.toNatClampNeg x2) (-9 : Int32)) h (fun μ6 eμ6 h => ?_)
      refine e_aload_n dX8_wayFrom_16 rfl ?_
      refine e_get (ci := 6) (j := 16) (t := 2) (v := .ref 42) dX8_wayFrom_17 rfl (by decide) rfl rfl rfl ?_
      refine e_iload_n dX8_wayFrom_20 rfl ?_
      refine e_bipush dX8_wayFrom_21 cb_m9 ?_
      obtain ⟨hc7, h⟩ := ck_eq h
      refine e_iastore (n := 6) dX8_wayFrom_23 (by decide) rfl hc7 ?_
      refine e_naM (e := sI μ6 42 (Int32.toNatClampNeg x2) (-9 : Int32)) h (fun μ8 eμ8 h => ?_)
      refine e_iincN 2 (1 : Int32) dX8_wayFrom_24 rfl ci_1 h (fun y9 => [some (.ref 29), some (.int x1), some (.int y9), none, none, none, none]) (fun _ => rfl) (fun v9 ev9 h => ?_)
      refine e_goto (tgt := 2) dX8_wayFrom_27 rfl ?_
      exact e_le (ih x1 v9 μ8 _ (by omega) h) ⟨rfl, rfl, rfl, trivial⟩
set_option maxHeartbeats 4000000 in
theorem b_X8_wayFrom : ∀ as μ r μ', Γ_X8_wayFrom as μ r μ' → (elvL as).length ≤ 7 ∧ G mX8_wayFrom (Qe r μ') 0 (elv as 7) [] μ 0 := by
  intro as μ r μ' h
  obtain ⟨a0, rfl, h⟩ := h
  refine ⟨Nat.le_of_ble_eq_true rfl, ?_⟩
  show G mX8_wayFrom (Qe r μ') 0 [some (.ref 29), some (.int a0), none, none, none, none, none] [] μ 0
  unfold F_X8_wayFrom at h
  have hb9 : 0 ≤ 0 := Nat.le_refl _
  refine e_iconst dX8_wayFrom_0 ci_0 ?_
  refine e_istore_nL [some (.ref 29), some (.int a0), some (.int (0 : Int32)), none, none, none, none] dX8_wayFrom_1 (Nat.le_of_ble_eq_true rfl) rfl ?_
  exact e_le (g_X8_wayFrom_2 BIG a0 (0 : Int32) μ _ (by omega) h) ⟨rfl, rfl, rfl, trivial⟩
set_option maxRecDepth 20000 in
theorem ok_X8_wayFrom (l : Launch) (hl : l.stackTraces = false) : MOK l yX8_wayFrom.cls 2 20 mX8_wayFrom := ⟨lk_all (List.forall_mem_cons.mpr ⟨⟨yX8_rows, cX8_rows, 1, (some .int), 1, 0, by decide, by decide, t_1 7 rfl rfl, hd_X8_rows, Or.inr (Or.inl ⟨rfl, sc_X8_rows l hl, t_5 45 rfl rfl, t_5 42 rfl rfl, t_5 44 rfl rfl, _, rfl, t_p 35 rfl⟩)⟩, List.forall_mem_cons.mpr ⟨⟨yX8_columns, cX8_columns, 1, (some .int), 1, 0, by decide, by decide, t_1 7 rfl rfl, hd_X8_columns, Or.inr (Or.inl ⟨rfl, sc_X8_columns l hl, t_5 49 rfl rfl, t_5 46 rfl rfl, t_5 48 rfl rfl, _, rfl, t_p 36 rfl⟩)⟩, nil_all⟩⟩), fun ix ci j h => lk_all (P := fun ix q => FldOK yX8_wayFrom.cls ix q.1 q.2) (List.forall_mem_cons.mpr ⟨⟨_, rfl, by decide, t_4 189 rfl rfl⟩, List.forall_mem_cons.mpr ⟨⟨_, rfl, by decide, t_4 190 rfl rfl⟩, List.forall_mem_cons.mpr ⟨⟨_, rfl, by decide, t_4 192 rfl rfl⟩, List.forall_mem_cons.mpr ⟨⟨_, rfl, by decide, t_4 193 rfl rfl⟩, List.forall_mem_cons.mpr ⟨⟨_, rfl, by decide, t_4 194 rfl rfl⟩, List.forall_mem_cons.mpr ⟨⟨_, rfl, by decide, t_4 195 rfl rfl⟩, nil_all⟩⟩⟩⟩⟩⟩) ix (ci, j) h, lk_all (nil_all), lk_all (nil_all), lk_all (nil_all)⟩
theorem hd_X8_wayFrom : CallHd yX8_wayFrom 1 := ⟨by decide +kernel, by decide +kernel, by decide +kernel⟩
theorem sc_X8_wayFrom (l : Launch) (hl : l.stackTraces = false) : SCon l yX8_wayFrom cX8_wayFrom 7 (some .int) 2 20 0 Γ_X8_wayFrom := scon_of mX8_wayFrom cls_ok hl (by decide +kernel) rfl rfl (ok_X8_wayFrom l hl) rfl rfl b_X8_wayFrom
def f_X8_canFit_73 (k32 : Int32 → Mem → Out) (k40 : Int32 → Mem → Out) : Nat → Int32 → Int32 → Mem → Out
  | 0, _, _, _ => none
  | n + 1, x1, x2, μ => if x2 < 0 then (ck (inb x1 6) (ck (inb x1 6) (lt (sI μ 39 (Int32.toNatClampNeg x1) ((μ.1 39 (Int32.toNatClampNeg x1)) - (1 : Int32))) (fun μ32 => k40 x1 μ32)))) else (ck (inb x2 6) (lt (μ.1 41 (Int32.toNatClampNeg x2)) (fun v34 => ck (inb v34 6) (lt (μ.1 42 (Int32.toNatClampNeg v34)) (fun v36 => ck (inb (((6 : Int32) * v34) + x2) 36) (lt (sI μ 38 (Int32.toNatClampNeg (((6 : Int32) * v34) + x2)) (vp_nar .boolean (1 : Int32))) (fun μ38 => if v36 < 0 then (f_X8_canFit_73 k32 k40 n x1 v36 μ38) else (ck (inb (((6 : Int32) * v34) + v36) 36) (lt (sI μ38 38 (Int32.toNatClampNeg (((6 : Int32) * v34) + v36)) (vp_nar .boolean (0 : Int32))) (fun μ41 => f_X8_canFit_73 k32 k40 n x1 v36 μ41))))))))))
def f_X8_canFit_40 (k32 : Int32 → Mem → Out) : Nat → Int32 → Mem → Out
  | 0, _, _ => none
  | n + 1, x1, μ => ck (inb x1 6) (if (μ.1 39 (Int32.toNatClampNeg x1)) ≤ 0 then (lt (x1 + (1 : Int32)) (fun v19 => k32 v19 μ)) else (cI (F_X8_wayFrom x1 μ) (fun v24 μ21 => if v24 = (-9 : Int32) then (rI (0 : Int32) μ21) else (ck (inb v24 6) (ck (inb v24 6) (lt (sI μ21 40 (Int32.toNatClampNeg v24) ((μ21.1 40 (Int32.toNatClampNeg v24)) - (1 : Int32))) (fun μ28 => f_X8_canFit_73 k32 (f_X8_canFit_40 k32 n) BIG x1 v24 μ28)))))))
def f_X8_canFit_32 : Nat → Int32 → Mem → Out
  | 0, _, _ => none
  | n + 1, x1, μ => cI (F_X8_rows μ) (fun v15 μ12 => if v15 ≤ x1 then (rI (1 : Int32) μ12) else (f_X8_canFit_40 (f_X8_canFit_32 n) BIG x1 μ12))
def f_X8_canFit_2 : Nat → Int32 → Mem → Out
  | 0, _, _ => none
  | n + 1, x1, μ => if (36 : Int32) ≤ x1 then (cI (F_X8_hasNeeds μ) (fun v6 μ3 => if v6 = 0 then (rI (0 : Int32) μ3) else (f_X8_canFit_32 BIG (0 : Int32) μ3))) else (ck (inb x1 36) (lt (sI μ 38 (Int32.toNatClampNeg x1) (vp_nar .boolean (0 : Int32))) (fun μ9 => lt (x1 + (1 : Int32)) (fun v10 => f_X8_canFit_2 n v10 μ9))))
def F_X8_canFit (μ : Mem) : Out := f_X8_canFit_2 BIG (0 : Int32) μ
def Γ_X8_canFit : Gam := fun as μ r μ' => as = [.ref 29] ∧ F_X8_canFit μ = some (r, μ')
def mX8_canFit : MI := (cX8_canFit, [(76, (1, 0, 0, 6, Γ_X8_rows)), (156, (1, 0, 0, 6, Γ_X8_hasNeeds)), (160, (1, 1, 0, 6, Γ_X8_wayFrom))], [(35, 6, 12), (38, 6, 13), (41, 6, 14), (44, 6, 15), (47, 6, 16)], [], [], [], [], none, (some .boolean))
set_option maxHeartbeats 4000000 in
theorem g_X8_canFit_73 {r : Res} {μ' : Mem} {k32 : Int32 → Mem → Out} {k40 : Int32 → Mem → Out} (hk32 : ∀ (x1 : Int32), ∀ (μ : Mem) (b : Nat), 0 ≤ b → k32 x1 μ = some (r, μ') → G mX8_canFit (Qe r μ') 32 [some (.ref 29), some (.int x1), none, none, none] [] μ b) (hk40 : ∀ (x1 : Int32), ∀ (μ : Mem) (b : Nat), 0 ≤ b → k40 x1 μ = some (r, μ') → G mX8_canFit (Qe r μ') 40 [some (.ref 29), some (.int x1), none, none, none] [] μ b) : ∀ n : Nat, ∀ (x1 : Int32) (x2 : Int32), ∀ (μ : Mem) (b : Nat), 0 ≤ b → f_X8_canFit_73 k32 k40 n x1 x2 μ = some (r, μ') → G mX8_canFit (Qe r μ') 73 [some (.ref 29), some (.int x1), some (.int x2), none, none] [] μ b := by
  intro n
  induction n with
  | zero => intro x1 x2 μ b hb9 h; exact nomatch (show (none : Out) = some _ from h)
  | succ n ih =>
    intro x1 x2 μ b hb9 h
    rw [f_X8_canFit_73.eq_2] at h
    refine e_iload_n dX8_canFit_73 rfl ?_
    refine e_if_lt (tgt := 128) dX8_canFit_74 rfl (fun hc29 => ?_) (fun hc29 => ?_)
    · rw [if_pos hc29] at h
      refine e_aload_n dX8_canFit_128 rfl ?_
      refine e_get (ci := 6) (j := 13) (t := 2) (v := .ref 39) dX8_canFit_129 rfl (by decide) rfl rfl rfl ?_
      refine e_iload_n dX8_canFit_132 rfl ?_
      refine e_dup2 dX8_canFit_133 rfl rfl ?_
      obtain ⟨hc30, h⟩ := ck_eq h
      refine e_ialoadL (μ.1 39 (Int32.toNatClampNeg x1)) (n := 6) dX8_canFit_134 (by decide) rfl hc30 rfl ?_
      refine e_iconst dX8_canFit_135 ci_1 ?_
      refine e_isub dX8_canFit_136 ?_
      obtain ⟨hc31, h⟩ := ck_eq h
      refine e_iastore (n := 6) dX8_canFit_137 (by decide) rfl hc31 ?_
      refine e_naM (e := sI μ 39 (Int32.toNatClampNeg x1) ((μ.1 39 (Int32.toNatClampNeg x1)) - (1 : Int32))) h (fun μ32 eμ32 h => ?_)
      refine e_goto (tgt := 40) dX8_canFit_138 rfl ?_
      exact e_le (hk40 x1 μ32 _ (by omega) h) ⟨rfl, rfl, trivial⟩
    · rw [if_neg hc29] at h
      refine e_aload_n dX8_canFit_77 rfl ?_
      refine e_get (ci := 6) (j := 15) (t := 2) (v := .ref 41) dX8_canFit_78 rfl (by decide) rfl rfl rfl ?_
      refine e_iload_n dX8_canFit_81 rfl ?_
      obtain ⟨hc33, h⟩ := ck_eq h
      refine e_ialoadL (μ.1 41 (Int32.toNatClampNeg x2)) (n := 6) dX8_canFit_82 (by decide) rfl hc33 rfl ?_
      refine e_naI h (fun v34 ev34 h => ?_)
      refine e_istore_nL [some (.ref 29), some (.int x1), some (.int x2), some (.int v34), none] dX8_canFit_83 (Nat.le_of_ble_eq_true rfl) rfl ?_
      refine e_aload_n dX8_canFit_84 rfl ?_
      refine e_get (ci := 6) (j := 16) (t := 2) (v := .ref 42) dX8_canFit_85 rfl (by decide) rfl rfl rfl ?_
      refine e_iload_n dX8_canFit_88 rfl ?_
      obtain ⟨hc35, h⟩ := ck_eq h
      refine e_ialoadL (μ.1 42 (Int32.toNatClampNeg v34)) (n := 6) dX8_canFit_89 (by decide) rfl hc35 rfl ?_
      refine e_naI h (fun v36 ev36 h => ?_)
      refine e_istoreL [some (.ref 29), some (.int x1), some (.int x2), some (.int v34), some (.int v36)] dX8_canFit_90 (Nat.le_of_ble_eq_true rfl) rfl ?_
      refine e_aload_n dX8_canFit_92 rfl ?_
      refine e_get (ci := 6) (j := 12) (t := 2) (v := .ref 38) dX8_canFit_93 rfl (by decide) rfl rfl rfl ?_
      refine e_bipush dX8_canFit_96 cb_6 ?_
      refine e_iload_n dX8_canFit_98 rfl ?_
      refine e_imul dX8_canFit_99 ?_
      refine e_iload_n dX8_canFit_100 rfl ?_
      refine e_iadd dX8_canFit_101 ?_
      refine e_iconst dX8_canFit_102 ci_1 ?_
      obtain ⟨hc37, h⟩ := ck_eq h
      refine e_bastore (n := 36) dX8_canFit_103 (by decide) rfl hc37 ?_
      refine e_naM (e := sI μ 38 (Int32.toNatClampNeg (((6 : Int32) * v34) + x2)) (vp_nar .boolean (1 : Int32))) h (fun μ38 eμ38 h => ?_)
      refine e_iload dX8_canFit_104 rfl ?_
      refine e_if_lt (tgt := 122) dX8_canFit_106 rfl (fun hc39 => ?_) (fun hc39 => ?_)
      · rw [if_pos hc39] at h
        refine e_iload dX8_canFit_122 rfl ?_
        refine e_istore_nL [some (.ref 29), some (.int x1), some (.int v36), some (.int v34), some (.int v36)] dX8_canFit_124 (Nat.le_of_ble_eq_true rfl) rfl ?_
        refine e_goto (tgt := 73) dX8_canFit_125 rfl ?_
        exact e_le (ih x1 v36 μ38 _ (by omega) h) ⟨rfl, rfl, rfl, trivial⟩
      · rw [if_neg hc39] at h
        refine e_aload_n dX8_canFit_109 rfl ?_
        refine e_get (ci := 6) (j := 12) (t := 2) (v := .ref 38) dX8_canFit_110 rfl (by decide) rfl rfl rfl ?_
        refine e_bipush dX8_canFit_113 cb_6 ?_
        refine e_iload_n dX8_canFit_115 rfl ?_
        refine e_imul dX8_canFit_116 ?_
        refine e_iload dX8_canFit_117 rfl ?_
        refine e_iadd dX8_canFit_119 ?_
        refine e_iconst dX8_canFit_120 ci_0 ?_
        obtain ⟨hc40, h⟩ := ck_eq h
        refine e_bastore (n := 36) dX8_canFit_121 (by decide) rfl hc40 ?_
        refine e_naM (e := sI μ38 38 (Int32.toNatClampNeg (((6 : Int32) * v34) + v36)) (vp_nar .boolean (0 : Int32))) h (fun μ41 eμ41 h => ?_)
        refine e_iload dX8_canFit_122 rfl ?_
        refine e_istore_nL [some (.ref 29), some (.int x1), some (.int v36), some (.int v34), some (.int v36)] dX8_canFit_124 (Nat.le_of_ble_eq_true rfl) rfl ?_
        refine e_goto (tgt := 73) dX8_canFit_125 rfl ?_
        exact e_le (ih x1 v36 μ41 _ (by omega) h) ⟨rfl, rfl, rfl, trivial⟩
set_option maxHeartbeats 4000000 in
theorem g_X8_canFit_40 {r : Res} {μ' : Mem} {k32 : Int32 → Mem → Out} (hk32 : ∀ (x1 : Int32), ∀ (μ : Mem) (b : Nat), 0 ≤ b → k32 x1 μ = some (r, μ') → G mX8_canFit (Qe r μ') 32 [some (.ref 29), some (.int x1), none, none, none] [] μ b) : ∀ n : Nat, ∀ (x1 : Int32), ∀ (μ : Mem) (b : Nat), 0 ≤ b → f_X8_canFit_40 k32 n x1 μ = some (r, μ') → G mX8_canFit (Qe r μ') 40 [some (.ref 29), some (.int x1), none, none, none] [] μ b := by
  intro n
  induction n with
  | zero => intro x1 μ b hb9 h; exact nomatch (show (none : Out) = some _ from h)
  | succ n ih =>
    intro x1 μ b hb9 h
    rw [f_X8_canFit_40.eq_2] at h
    refine e_aload_n dX8_canFit_40 rfl ?_
    refine e_get (ci := 6) (j := 13) (t := 2) (v := .ref 39) dX8_canFit_41 rfl (by decide) rfl rfl rfl ?_
    refine e_iload_n dX8_canFit_44 rfl ?_
    obtain ⟨hc17, h⟩ := ck_eq h
    refine e_ialoadL (μ.1 39 (Int32.toNatClampNeg x1)) (n := 6) dX8_canFit_45 (by decide) rfl hc17 rfl ?_
    refine e_if_le (tgt := 141) dX8_canFit_46 rfl (fun hc18 => ?_) (fun hc18 => ?_)
    · rw [if_pos hc18] at h
      refine e_iincN 1 (1 : Int32) dX8_canFit_141 rfl ci_1 h (fun y9 => [some (.ref 29), some (.int y9), none, none, none]) (fun _ => rfl) (fun v19 ev19 h => ?_)
      refine e_goto (tgt := 32) dX8_canFit_144 rfl ?_
      exact e_le (hk32 v19 μ _ (by omega) h) ⟨rfl, rfl, trivial⟩
    · rw [if_neg hc18] at h
      refine e_aload_n dX8_canFit_49 rfl ?_
      refine e_iload_n dX8_canFit_50 rfl ?_
      refine cI_go h (fun E22 hc20 hr23 => e_VX [.int x1] [] dX8_canFit_51 rfl rfl rfl rfl (by decide) (Nat.le_of_ble_eq_true rfl) (by omega) ⟨x1, rfl, hc20⟩ rfl ⟨hr23.symm, rfl⟩) (fun v24 μ21 hc20 h => ?_)
      refine e_VI [.int x1] [] dX8_canFit_51 rfl rfl rfl rfl (by decide) (Nat.le_of_ble_eq_true rfl) (by omega) ⟨x1, rfl, hc20⟩ ?_
      refine e_istore_nL [some (.ref 29), some (.int x1), some (.int v24), none, none] dX8_canFit_54 (Nat.le_of_ble_eq_true rfl) rfl ?_
      refine e_iload_n dX8_canFit_55 rfl ?_
      refine e_bipush dX8_canFit_56 cb_m9 ?_
      refine e_ic_ne (tgt := 63) dX8_canFit_58 rfl (fun hc25 => ?_) (fun hc25 => ?_)
      · rw [if_neg hc25] at h
        refine e_aload_n dX8_canFit_63 rfl ?_
        refine e_get (ci := 6) (j := 14) (t := 2) (v := .ref 40) dX8_canFit_64 rfl (by decide) rfl rfl rfl ?_
        refine e_iload_n dX8_canFit_67 rfl ?_
        refine e_dup2 dX8_canFit_68 rfl rfl ?_
        obtain ⟨hc26, h⟩ := ck_eq h
        refine e_ialoadL (μ21.1 40 (Int32.toNatClampNeg v24)) (n := 6) dX8_canFit_69 (by decide) rfl hc26 rfl ?_
        refine e_iconst dX8_canFit_70 ci_1 ?_
        refine e_isub dX8_canFit_71 ?_
        obtain ⟨hc27, h⟩ := ck_eq h
        refine e_iastore (n := 6) dX8_canFit_72 (by decide) rfl hc27 ?_
        refine e_naM (e := sI μ21 40 (Int32.toNatClampNeg v24) ((μ21.1 40 (Int32.toNatClampNeg v24)) - (1 : Int32))) h (fun μ28 eμ28 h => ?_)
        exact e_le (g_X8_canFit_73 hk32 ih BIG x1 v24 μ28 _ (by omega) h) ⟨rfl, rfl, rfl, trivial⟩
      · rw [if_pos hc25] at h
        refine e_iconst dX8_canFit_61 ci_0 ?_
        exact e_iret .boolean dX8_canFit_62 rfl rfl (ret_eq h)
set_option maxHeartbeats 4000000 in
theorem g_X8_canFit_32 {r : Res} {μ' : Mem} : ∀ n : Nat, ∀ (x1 : Int32), ∀ (μ : Mem) (b : Nat), 0 ≤ b → f_X8_canFit_32 n x1 μ = some (r, μ') → G mX8_canFit (Qe r μ') 32 [some (.ref 29), some (.int x1), none, none, none] [] μ b := by
  intro n
  induction n with
  | zero => intro x1 μ b hb9 h; exact nomatch (show (none : Out) = some _ from h)
  | succ n ih =>
    intro x1 μ b hb9 h
    rw [f_X8_canFit_32.eq_2] at h
    refine e_iload_n dX8_canFit_32 rfl ?_
    refine e_aload_n dX8_canFit_33 rfl ?_
    refine cI_go h (fun E13 hc11 hr14 => e_VX [] [.int x1] dX8_canFit_34 rfl rfl rfl rfl (by decide) (Nat.le_of_ble_eq_true rfl) (by omega) ⟨rfl, hc11⟩ rfl ⟨hr14.symm, rfl⟩) (fun v15 μ12 hc11 h => ?_)
    refine e_VI [] [.int x1] dX8_canFit_34 rfl rfl rfl rfl (by decide) (Nat.le_of_ble_eq_true rfl) (by omega) ⟨rfl, hc11⟩ ?_
    refine e_ic_ge (tgt := 147) dX8_canFit_37 rfl (fun hc16 => ?_) (fun hc16 => ?_)
    · rw [if_pos hc16] at h
      refine e_iconst dX8_canFit_147 ci_1 ?_
      exact e_iret .boolean dX8_canFit_148 rfl rfl (ret_eq h)
    · rw [if_neg hc16] at h
      exact e_le (g_X8_canFit_40 ih BIG x1 μ12 _ (by omega) h) ⟨rfl, rfl, trivial⟩
set_option maxHeartbeats 4000000 in
theorem g_X8_canFit_2 {r : Res} {μ' : Mem} : ∀ n : Nat, ∀ (x1 : Int32), ∀ (μ : Mem) (b : Nat), 0 ≤ b → f_X8_canFit_2 n x1 μ = some (r, μ') → G mX8_canFit (Qe r μ') 2 [some (.ref 29), some (.int x1), none, none, none] [] μ b := by
  intro n
  induction n with
  | zero => intro x1 μ b hb9 h; exact nomatch (show (none : Out) = some _ from h)
  | succ n ih =>
    intro x1 μ b hb9 h
    rw [f_X8_canFit_2.eq_2] at h
    refine e_iload_n dX8_canFit_2 rfl ?_
    refine e_bipush dX8_canFit_3 cb_36 ?_
    refine e_ic_ge (tgt := 21) dX8_canFit_5 rfl (fun hc1 => ?_) (fun hc1 => ?_)
    · rw [if_pos hc1] at h
      refine e_aload_n dX8_canFit_21 rfl ?_
      refine cI_go h (fun E4 hc2 hr5 => e_VX [] [] dX8_canFit_22 rfl rfl rfl rfl (by decide) (Nat.le_of_ble_eq_true rfl) (by omega) ⟨rfl, hc2⟩ rfl ⟨hr5.symm, rfl⟩) (fun v6 μ3 hc2 h => ?_)
      refine e_VI [] [] dX8_canFit_22 rfl rfl rfl rfl (by decide) (Nat.le_of_ble_eq_true rfl) (by omega) ⟨rfl, hc2⟩ ?_
      refine e_if_ne (tgt := 30) dX8_canFit_25 rfl (fun hc7 => ?_) (fun hc7 => ?_)
      · rw [if_neg hc7] at h
        refine e_iconst dX8_canFit_30 ci_0 ?_
        refine e_istore_nL [some (.ref 29), some (.int (0 : Int32)), none, none, none] dX8_canFit_31 (Nat.le_of_ble_eq_true rfl) rfl ?_
        exact e_le (g_X8_canFit_32 BIG (0 : Int32) μ3 _ (by omega) h) ⟨rfl, rfl, trivial⟩
      · rw [if_pos hc7] at h
        refine e_iconst dX8_canFit_28 ci_0 ?_
        exact e_iret .boolean dX8_canFit_29 rfl rfl (ret_eq h)
    · rw [if_neg hc1] at h
      refine e_aload_n dX8_canFit_8 rfl ?_
      refine e_get (ci := 6) (j := 12) (t := 2) (v := .ref 38) dX8_canFit_9 rfl (by decide) rfl rfl rfl ?_
      refine e_iload_n dX8_canFit_12 rfl ?_
      refine e_iconst dX8_canFit_13 ci_0 ?_
      obtain ⟨hc8, h⟩ := ck_eq h
      refine e_bastore (n := 36) dX8_canFit_14 (by decide) rfl hc8 ?_
      refine e_naM (e := sI μ 38 (Int32.toNatClampNeg x1) (vp_nar .boolean (0 : Int32))) h (fun μ9 eμ9 h => ?_)
      refine e_iincN 1 (1 : Int32) dX8_canFit_15 rfl ci_1 h (fun y9 => [some (.ref 29), some (.int y9), none, none, none]) (fun _ => rfl) (fun v10 ev10 h => ?_)
      refine e_goto (tgt := 2) dX8_canFit_18 rfl ?_
      exact e_le (ih v10 μ9 _ (by omega) h) ⟨rfl, rfl, trivial⟩
set_option maxHeartbeats 4000000 in
theorem b_X8_canFit : ∀ as μ r μ', Γ_X8_canFit as μ r μ' → (elvL as).length ≤ 5 ∧ G mX8_canFit (Qe r μ') 0 (elv as 5) [] μ 0 := by
  intro as μ r μ' h
  obtain ⟨rfl, h⟩ := h
  refine ⟨Nat.le_of_ble_eq_true rfl, ?_⟩
  show G mX8_canFit (Qe r μ') 0 [some (.ref 29), none, none, none, none] [] μ 0
  unfold F_X8_canFit at h
  have hb9 : 0 ≤ 0 := Nat.le_refl _
  refine e_iconst dX8_canFit_0 ci_0 ?_
  refine e_istore_nL [some (.ref 29), some (.int (0 : Int32)), none, none, none] dX8_canFit_1 (Nat.le_of_ble_eq_true rfl) rfl ?_
  exact e_le (g_X8_canFit_2 BIG (0 : Int32) μ _ (by omega) h) ⟨rfl, rfl, trivial⟩
set_option maxRecDepth 20000 in
theorem ok_X8_canFit (l : Launch) (hl : l.stackTraces = false) : MOK l yX8_canFit.cls 4 68 mX8_canFit := ⟨lk_all (List.forall_mem_cons.mpr ⟨⟨yX8_rows, cX8_rows, 1, (some .int), 1, 0, by decide, by decide, t_1 7 rfl rfl, hd_X8_rows, Or.inr (Or.inl ⟨rfl, sc_X8_rows l hl, t_5 45 rfl rfl, t_5 42 rfl rfl, t_5 44 rfl rfl, _, rfl, t_p 35 rfl⟩)⟩, List.forall_mem_cons.mpr ⟨⟨yX8_hasNeeds, cX8_hasNeeds, 7, (some .boolean), 3, 42, by decide, by decide, t_1 7 rfl rfl, hd_X8_hasNeeds, Or.inr (Or.inl ⟨rfl, sc_X8_hasNeeds l hl, t_5 177 rfl rfl, t_5 174 rfl rfl, t_5 176 rfl rfl, _, rfl, t_p 65 rfl⟩)⟩, List.forall_mem_cons.mpr ⟨⟨yX8_wayFrom, cX8_wayFrom, 7, (some .int), 2, 20, by decide, by decide, t_1 7 rfl rfl, hd_X8_wayFrom, Or.inr (Or.inl ⟨rfl, sc_X8_wayFrom l hl, t_5 181 rfl rfl, t_5 178 rfl rfl, t_5 180 rfl rfl, _, rfl, t_p 66 rfl⟩)⟩, nil_all⟩⟩⟩), fun ix ci j h => lk_all (P := fun ix q => FldOK yX8_canFit.cls ix q.1 q.2) (List.forall_mem_cons.mpr ⟨⟨_, rfl, by decide, t_4 190 rfl rfl⟩, List.forall_mem_cons.mpr ⟨⟨_, rfl, by decide, t_4 191 rfl rfl⟩, List.forall_mem_cons.mpr ⟨⟨_, rfl, by decide, t_4 192 rfl rfl⟩, List.forall_mem_cons.mpr ⟨⟨_, rfl, by decide, t_4 193 rfl rfl⟩, List.forall_mem_cons.mpr ⟨⟨_, rfl, by decide, t_4 194 rfl rfl⟩, nil_all⟩⟩⟩⟩⟩) ix (ci, j) h, lk_all (nil_all), lk_all (nil_all), lk_all (nil_all)⟩
theorem hd_X8_canFit : CallHd yX8_canFit 0 := ⟨by decide +kernel, by decide +kernel, by decide +kernel⟩
theorem sc_X8_canFit (l : Launch) (hl : l.stackTraces = false) : SCon l yX8_canFit cX8_canFit 5 (some .boolean) 4 68 0 Γ_X8_canFit := scon_of mX8_canFit cls_ok hl (by decide +kernel) rfl rfl (ok_X8_canFit l hl) rfl rfl b_X8_canFit
def f_X8_givesPins_12 (k2 : Int32 → Mem → Out) : Nat → Int32 → Int32 → Mem → Out
  | 0, _, _, _ => none
  | n + 1, x1, x2, μ => cI (F_X8_columns μ) (fun v11 μ8 => if v11 ≤ x2 then (lt (x1 + (1 : Int32)) (fun v13 => k2 v13 μ8)) else (cI (F_X8_isPinned x1 x2 μ8) (fun v18 μ15 => if v18 = 0 then (ck (inb (((6 : Int32) * x1) + x2) 36) (lt (sI μ15 37 (Int32.toNatClampNeg (((6 : Int32) * x1) + x2)) (-1 : Int32)) (fun μ21 => lt (x2 + (1 : Int32)) (fun v22 => f_X8_givesPins_12 k2 n x1 v22 μ21)))) else (cI (F_X8_isFilled x1 x2 μ15) (fun v27 μ24 => if v27 = 0 then (ck (inb (((6 : Int32) * x1) + x2) 36) (lt (sI μ24 37 (Int32.toNatClampNeg (((6 : Int32) * x1) + x2)) (0 : Int32)) (fun μ30 => lt (x2 + (1 : Int32)) (fun v31 => f_X8_givesPins_12 k2 n x1 v31 μ30)))) else (ck (inb (((6 : Int32) * x1) + x2) 36) (lt (sI μ24 37 (Int32.toNatClampNeg (((6 : Int32) * x1) + x2)) (1 : Int32)) (fun μ33 => lt (x2 + (1 : Int32)) (fun v34 => f_X8_givesPins_12 k2 n x1 v34 μ33)))))))))
def f_X8_givesPins_2 : Nat → Int32 → Mem → Out
  | 0, _, _ => none
  | n + 1, x1, μ => cI (F_X8_rows μ) (fun v5 μ2 => if v5 ≤ x1 then (rV μ2) else (f_X8_givesPins_12 (f_X8_givesPins_2 n) BIG x1 (0 : Int32) μ2))
def F_X8_givesPins (μ : Mem) : Out := f_X8_givesPins_2 BIG (0 : Int32) μ
def Γ_X8_givesPins : Gam := fun as μ r μ' => as = [.ref 29] ∧ F_X8_givesPins μ = some (r, μ')
def mX8_givesPins : MI := (cX8_givesPins, [(76, (1, 0, 0, 6, Γ_X8_rows)), (84, (1, 0, 0, 6, Γ_X8_columns)), (98, (1, 2, 0, 6, Γ_X8_isFilled)), (145, (1, 2, 0, 6, Γ_X8_isPinned))], [(32, 6, 11)], [], [], [], [], none, none)
set_option maxHeartbeats 4000000 in
theorem g_X8_givesPins_12 {r : Res} {μ' : Mem} {k2 : Int32 → Mem → Out} (hk2 : ∀ (x1 : Int32), ∀ (μ : Mem) (b : Nat), 0 ≤ b → k2 x1 μ = some (r, μ') → G mX8_givesPins (Qe r μ') 2 [some (.ref 29), some (.int x1), none] [] μ b) : ∀ n : Nat, ∀ (x1 : Int32) (x2 : Int32), ∀ (μ : Mem) (b : Nat), 0 ≤ b → f_X8_givesPins_12 k2 n x1 x2 μ = some (r, μ') → G mX8_givesPins (Qe r μ') 12 [some (.ref 29), some (.int x1), some (.int x2)] [] μ b := by
  intro n
  induction n with
  | zero => intro x1 x2 μ b hb9 h; exact nomatch (show (none : Out) = some _ from h)
  | succ n ih =>
    intro x1 x2 μ b hb9 h
    rw [f_X8_givesPins_12.eq_2] at h
    refine e_iload_n dX8_givesPins_12 rfl ?_
    refine e_aload_n dX8_givesPins_13 rfl ?_
    refine cI_go h (fun E9 hc7 hr10 => e_VX [] [.int x2] dX8_givesPins_14 rfl rfl rfl rfl (by decide) (Nat.le_of_ble_eq_true rfl) (by omega) ⟨rfl, hc7⟩ rfl ⟨hr10.symm, rfl⟩) (fun v11 μ8 hc7 h => ?_)
    refine e_VI [] [.int x2] dX8_givesPins_14 rfl rfl rfl rfl (by decide) (Nat.le_of_ble_eq_true rfl) (by omega) ⟨rfl, hc7⟩ ?_
    refine e_ic_ge (tgt := 64) dX8_givesPins_17 rfl (fun hc12 => ?_) (fun hc12 => ?_)
    · rw [if_pos hc12] at h
      refine e_iincN 1 (1 : Int32) dX8_givesPins_64 rfl ci_1 h (fun y9 => [some (.ref 29), some (.int y9), some (.int x2)]) (fun _ => rfl) (fun v13 ev13 h => ?_)
      refine e_goto (tgt := 2) dX8_givesPins_67 rfl ?_
      exact e_le (hk2 v13 μ8 _ (by omega) h) ⟨rfl, rfl, trivial⟩
    · rw [if_neg hc12] at h
      refine e_aload_n dX8_givesPins_20 rfl ?_
      refine e_get (ci := 6) (j := 11) (t := 2) (v := .ref 37) dX8_givesPins_21 rfl (by decide) rfl rfl rfl ?_
      refine e_bipush dX8_givesPins_24 cb_6 ?_
      refine e_iload_n dX8_givesPins_26 rfl ?_
      refine e_imul dX8_givesPins_27 ?_
      refine e_iload_n dX8_givesPins_28 rfl ?_
      refine e_iadd dX8_givesPins_29 ?_
      refine e_aload_n dX8_givesPins_30 rfl ?_
      refine e_iload_n dX8_givesPins_31 rfl ?_
      refine e_iload_n dX8_givesPins_32 rfl ?_
      refine cI_go h (fun E16 hc14 hr17 => e_VX [.int x1, .int x2] [.int (((6 : Int32) * x1) + x2), .ref 37] dX8_givesPins_33 rfl rfl rfl rfl (by decide) (Nat.le_of_ble_eq_true rfl) (by omega) ⟨x1, x2, rfl, hc14⟩ rfl ⟨hr17.symm, rfl⟩) (fun v18 μ15 hc14 h => ?_)
      refine e_VI [.int x1, .int x2] [.int (((6 : Int32) * x1) + x2), .ref 37] dX8_givesPins_33 rfl rfl rfl rfl (by decide) (Nat.le_of_ble_eq_true rfl) (by omega) ⟨x1, x2, rfl, hc14⟩ ?_
      refine e_if_eq (tgt := 56) dX8_givesPins_36 rfl (fun hc19 => ?_) (fun hc19 => ?_)
      · rw [if_pos hc19] at h
        refine e_iconst dX8_givesPins_56 ci_m1 ?_
        obtain ⟨hc20, h⟩ := ck_eq h
        refine e_iastore (n := 36) dX8_givesPins_57 (by decide) rfl hc20 ?_
        refine e_naM (e := sI μ15 37 (Int32.toNatClampNeg (((6 : Int32) * x1) + x2)) (-1 : Int32)) h (fun μ21 eμ21 h => ?_)
        refine e_iincN 2 (1 : Int32) dX8_givesPins_58 rfl ci_1 h (fun y9 => [some (.ref 29), some (.int x1), some (.int y9)]) (fun _ => rfl) (fun v22 ev22 h => ?_)
        refine e_goto (tgt := 12) dX8_givesPins_61 rfl ?_
        exact e_le (ih x1 v22 μ21 _ (by omega) h) ⟨rfl, rfl, rfl, trivial⟩
      · rw [if_neg hc19] at h
        refine e_aload_n dX8_givesPins_39 rfl ?_
        refine e_iload_n dX8_givesPins_40 rfl ?_
        refine e_iload_n dX8_givesPins_41 rfl ?_
        refine cI_go h (fun E25 hc23 hr26 => e_VX [.int x1, .int x2] [.int (((6 : Int32) * x1) + x2), .ref 37] dX8_givesPins_42 rfl rfl rfl rfl (by decide) (Nat.le_of_ble_eq_true rfl) (by omega) ⟨x1, x2, rfl, hc23⟩ rfl ⟨hr26.symm, rfl⟩) (fun v27 μ24 hc23 h => ?_)
        refine e_VI [.int x1, .int x2] [.int (((6 : Int32) * x1) + x2), .ref 37] dX8_givesPins_42 rfl rfl rfl rfl (by decide) (Nat.le_of_ble_eq_true rfl) (by omega) ⟨x1, x2, rfl, hc23⟩ ?_
        refine e_if_eq (tgt := 52) dX8_givesPins_45 rfl (fun hc28 => ?_) (fun hc28 => ?_)
        · rw [if_pos hc28] at h
          refine e_iconst dX8_givesPins_52 ci_0 ?_
          refine e_goto (tgt := 57) dX8_givesPins_53 rfl ?_
          obtain ⟨hc29, h⟩ := ck_eq h
          refine e_iastore (n := 36) dX8_givesPins_57 (by decide) rfl hc29 ?_
          refine e_naM (e := sI μ24 37 (Int32.toNatClampNeg (((6 : Int32) * x1) + x2)) (0 : Int32)) h (fun μ30 eμ30 h => ?_)
          refine e_iincN 2 (1 : Int32) dX8_givesPins_58 rfl ci_1 h (fun y9 => [some (.ref 29), some (.int x1), some (.int y9)]) (fun _ => rfl) (fun v31 ev31 h => ?_)
          refine e_goto (tgt := 12) dX8_givesPins_61 rfl ?_
          exact e_le (ih x1 v31 μ30 _ (by omega) h) ⟨rfl, rfl, rfl, trivial⟩
        · rw [if_neg hc28] at h
          refine e_iconst dX8_givesPins_48 ci_1 ?_
          refine e_goto (tgt := 57) dX8_givesPins_49 rfl ?_
          obtain ⟨hc32, h⟩ := ck_eq h
          refine e_iastore (n := 36) dX8_givesPins_57 (by decide) rfl hc32 ?_
          refine e_naM (e := sI μ24 37 (Int32.toNatClampNeg (((6 : Int32) * x1) + x2)) (1 : Int32)) h (fun μ33 eμ33 h => ?_)
          refine e_iincN 2 (1 : Int32) dX8_givesPins_58 rfl ci_1 h (fun y9 => [some (.ref 29), some (.int x1), some (.int y9)]) (fun _ => rfl) (fun v34 ev34 h => ?_)
          refine e_goto (tgt := 12) dX8_givesPins_61 rfl ?_
          exact e_le (ih x1 v34 μ33 _ (by omega) h) ⟨rfl, rfl, rfl, trivial⟩
set_option maxHeartbeats 4000000 in
theorem g_X8_givesPins_2 {r : Res} {μ' : Mem} : ∀ n : Nat, ∀ (x1 : Int32), ∀ (μ : Mem) (b : Nat), 0 ≤ b → f_X8_givesPins_2 n x1 μ = some (r, μ') → G mX8_givesPins (Qe r μ') 2 [some (.ref 29), some (.int x1), none] [] μ b := by
  intro n
  induction n with
  | zero => intro x1 μ b hb9 h; exact nomatch (show (none : Out) = some _ from h)
  | succ n ih =>
    intro x1 μ b hb9 h
    rw [f_X8_givesPins_2.eq_2] at h
    refine e_iload_n dX8_givesPins_2 rfl ?_
    refine e_aload_n dX8_givesPins_3 rfl ?_
    refine cI_go h (fun E3 hc1 hr4 => e_VX [] [.int x1] dX8_givesPins_4 rfl rfl rfl rfl (by decide) (Nat.le_of_ble_eq_true rfl) (by omega) ⟨rfl, hc1⟩ rfl ⟨hr4.symm, rfl⟩) (fun v5 μ2 hc1 h => ?_)
    refine e_VI [] [.int x1] dX8_givesPins_4 rfl rfl rfl rfl (by decide) (Nat.le_of_ble_eq_true rfl) (by omega) ⟨rfl, hc1⟩ ?_
    refine e_ic_ge (tgt := 70) dX8_givesPins_7 rfl (fun hc6 => ?_) (fun hc6 => ?_)
    · rw [if_pos hc6] at h
      exact e_vret dX8_givesPins_70 rfl (ret_eq h)
    · rw [if_neg hc6] at h
      refine e_iconst dX8_givesPins_10 ci_0 ?_
      refine e_istore_nL [some (.ref 29), some (.int x1), some (.int (0 : Int32))] dX8_givesPins_11 (Nat.le_of_ble_eq_true rfl) rfl ?_
      exact e_le (g_X8_givesPins_12 ih BIG x1 (0 : Int32) μ2 _ (by omega) h) ⟨rfl, rfl, rfl, trivial⟩
set_option maxHeartbeats 4000000 in
theorem b_X8_givesPins : ∀ as μ r μ', Γ_X8_givesPins as μ r μ' → (elvL as).length ≤ 3 ∧ G mX8_givesPins (Qe r μ') 0 (elv as 3) [] μ 0 := by
  intro as μ r μ' h
  obtain ⟨rfl, h⟩ := h
  refine ⟨Nat.le_of_ble_eq_true rfl, ?_⟩
  show G mX8_givesPins (Qe r μ') 0 [some (.ref 29), none, none] [] μ 0
  unfold F_X8_givesPins at h
  have hb9 : 0 ≤ 0 := Nat.le_refl _
  refine e_iconst dX8_givesPins_0 ci_0 ?_
  refine e_istore_nL [some (.ref 29), some (.int (0 : Int32)), none] dX8_givesPins_1 (Nat.le_of_ble_eq_true rfl) rfl ?_
  exact e_le (g_X8_givesPins_2 BIG (0 : Int32) μ _ (by omega) h) ⟨rfl, rfl, trivial⟩
set_option maxRecDepth 20000 in
theorem ok_X8_givesPins (l : Launch) (hl : l.stackTraces = false) : MOK l yX8_givesPins.cls 2 22 mX8_givesPins := ⟨lk_all (List.forall_mem_cons.mpr ⟨⟨yX8_rows, cX8_rows, 1, (some .int), 1, 0, by decide, by decide, t_1 7 rfl rfl, hd_X8_rows, Or.inr (Or.inl ⟨rfl, sc_X8_rows l hl, t_5 45 rfl rfl, t_5 42 rfl rfl, t_5 44 rfl rfl, _, rfl, t_p 35 rfl⟩)⟩, List.forall_mem_cons.mpr ⟨⟨yX8_columns, cX8_columns, 1, (some .int), 1, 0, by decide, by decide, t_1 7 rfl rfl, hd_X8_columns, Or.inr (Or.inl ⟨rfl, sc_X8_columns l hl, t_5 49 rfl rfl, t_5 46 rfl rfl, t_5 48 rfl rfl, _, rfl, t_p 36 rfl⟩)⟩, List.forall_mem_cons.mpr ⟨⟨yX8_isFilled, cX8_isFilled, 3, (some .boolean), 1, 0, by decide, by decide, t_1 7 rfl rfl, hd_X8_isFilled, Or.inr (Or.inl ⟨rfl, sc_X8_isFilled l hl, t_5 73 rfl rfl, t_5 70 rfl rfl, t_5 72 rfl rfl, _, rfl, t_p 42 rfl⟩)⟩, List.forall_mem_cons.mpr ⟨⟨yX8_isPinned, cX8_isPinned, 3, (some .boolean), 1, 0, by decide, by decide, t_1 7 rfl rfl, hd_X8_isPinned, Or.inr (Or.inl ⟨rfl, sc_X8_isPinned l hl, t_5 89 rfl rfl, t_5 86 rfl rfl, t_5 88 rfl rfl, _, rfl, t_p 45 rfl⟩)⟩, nil_all⟩⟩⟩⟩), fun ix ci j h => lk_all (P := fun ix q => FldOK yX8_givesPins.cls ix q.1 q.2) (List.forall_mem_cons.mpr ⟨⟨_, rfl, by decide, t_4 189 rfl rfl⟩, nil_all⟩) ix (ci, j) h, lk_all (nil_all), lk_all (nil_all), lk_all (nil_all)⟩
theorem hd_X8_givesPins : CallHd yX8_givesPins 0 := ⟨by decide +kernel, by decide +kernel, by decide +kernel⟩
theorem sc_X8_givesPins (l : Launch) (hl : l.stackTraces = false) : SCon l yX8_givesPins cX8_givesPins 3 none 2 22 0 Γ_X8_givesPins := scon_of mX8_givesPins cls_ok hl (by decide +kernel) rfl rfl (ok_X8_givesPins l hl) rfl rfl b_X8_givesPins
def f_X8_laysSures_77 (k67 : Int32 → Mem → Out) : Nat → Int32 → Int32 → Mem → Out
  | 0, _, _, _ => none
  | n + 1, x1, x2, μ => cI (F_X8_columns μ) (fun v36 μ33 => if v36 ≤ x2 then (lt (x1 + (1 : Int32)) (fun v38 => k67 v38 μ33)) else (lt (((6 : Int32) * x1) + x2) (fun v39 => cI (F_X8_isPinned x1 x2 μ33) (fun v44 μ41 => if v44 = 0 then (cV (F_X8_givesPins μ41) (fun μ48 => ck (inb v39 36) (ck (inb v39 36) (lt (sI μ48 37 (Int32.toNatClampNeg v39) ((1 : Int32) - (μ48.1 46 (Int32.toNatClampNeg v39)))) (fun μ53 => cI (F_X8_canFit μ53) (fun v58 μ55 => if v58 = 0 then (ck (inb v39 36) (ck (inb v39 36) (lt (sI μ55 46 (Int32.toNatClampNeg v39) (μ55.1 46 (Int32.toNatClampNeg v39))) (fun μ62 => lt (x2 + (1 : Int32)) (fun v63 => f_X8_laysSures_77 k67 n x1 v63 μ62))))) else (ck (inb v39 36) (lt (sI μ55 46 (Int32.toNatClampNeg v39) (-1 : Int32)) (fun μ65 => lt (x2 + (1 : Int32)) (fun v66 => f_X8_laysSures_77 k67 n x1 v66 μ65)))))))))) else (lt (x2 + (1 : Int32)) (fun v46 => f_X8_laysSures_77 k67 n x1 v46 μ41))))))
def f_X8_laysSures_67 : Nat → Int32 → Mem → Out
  | 0, _, _ => none
  | n + 1, x1, μ => cI (F_X8_rows μ) (fun v30 μ27 => if v30 ≤ x1 then (rI (1 : Int32) μ27) else (f_X8_laysSures_77 (f_X8_laysSures_67 n) BIG x1 (0 : Int32) μ27))
def f_X8_laysSures_15 : Nat → Int32 → Mem → Out
  | 0, _, _ => none
  | n + 1, x1, μ => if (36 : Int32) ≤ x1 then (f_X8_laysSures_67 BIG (0 : Int32) μ) else (ck (inb x1 36) (if (μ.1 37 (Int32.toNatClampNeg x1)) < 0 then (ck (inb x1 36) (if (μ.1 38 (Int32.toNatClampNeg x1)) = 0 then (ck (inb x1 36) (lt (sI μ 46 (Int32.toNatClampNeg x1) (0 : Int32)) (fun μ17 => lt (x1 + (1 : Int32)) (fun v18 => f_X8_laysSures_15 n v18 μ17)))) else (ck (inb x1 36) (lt (sI μ 46 (Int32.toNatClampNeg x1) (1 : Int32)) (fun μ20 => lt (x1 + (1 : Int32)) (fun v21 => f_X8_laysSures_15 n v21 μ20)))))) else (ck (inb x1 36) (ck (inb x1 36) (lt (sI μ 46 (Int32.toNatClampNeg x1) (μ.1 37 (Int32.toNatClampNeg x1))) (fun μ24 => lt (x1 + (1 : Int32)) (fun v25 => f_X8_laysSures_15 n v25 μ24)))))))
def F_X8_laysSures (μ : Mem) : Out := cV (F_X8_givesPins μ) (fun μ2 => cI (F_X8_canFit μ2) (fun v9 μ6 => if v9 = 0 then (rI (0 : Int32) μ6) else (f_X8_laysSures_15 BIG (0 : Int32) μ6)))
def Γ_X8_laysSures : Gam := fun as μ r μ' => as = [.ref 29] ∧ F_X8_laysSures μ = some (r, μ')
def mX8_laysSures : MI := (cX8_laysSures, [(76, (1, 0, 0, 6, Γ_X8_rows)), (84, (1, 0, 0, 6, Γ_X8_columns)), (145, (1, 2, 0, 6, Γ_X8_isPinned)), (163, (1, 0, 0, 6, Γ_X8_canFit)), (166, (1, 0, 0, 6, Γ_X8_givesPins))], [(32, 6, 11), (35, 6, 12), (59, 6, 21)], [], [], [], [], none, (some .boolean))
set_option maxHeartbeats 4000000 in
theorem g_X8_laysSures_77 {r : Res} {μ' : Mem} {k67 : Int32 → Mem → Out} (hk67 : ∀ (x1 : Int32), ∀ (μ : Mem) (b : Nat), 0 ≤ b → k67 x1 μ = some (r, μ') → G mX8_laysSures (Qe r μ') 67 [some (.ref 29), some (.int x1), none, none] [] μ b) : ∀ n : Nat, ∀ (x1 : Int32) (x2 : Int32), ∀ (μ : Mem) (b : Nat), 0 ≤ b → f_X8_laysSures_77 k67 n x1 x2 μ = some (r, μ') → G mX8_laysSures (Qe r μ') 77 [some (.ref 29), some (.int x1), some (.int x2), none] [] μ b := by
  intro n
  induction n with
  | zero => intro x1 x2 μ b hb9 h; exact nomatch (show (none : Out) = some _ from h)
  | succ n ih =>
    intro x1 x2 μ b hb9 h
    rw [f_X8_laysSures_77.eq_2] at h
    refine e_iload_n dX8_laysSures_77 rfl ?_
    refine e_aload_n dX8_laysSures_78 rfl ?_
    refine cI_go h (fun E34 hc32 hr35 => e_VX [] [.int x2] dX8_laysSures_79 rfl rfl rfl rfl (by decide) (Nat.le_of_ble_eq_true rfl) (by omega) ⟨rfl, hc32⟩ rfl ⟨hr35.symm, rfl⟩) (fun v36 μ33 hc32 h => ?_)
    refine e_VI [] [.int x2] dX8_laysSures_79 rfl rfl rfl rfl (by decide) (Nat.le_of_ble_eq_true rfl) (by omega) ⟨rfl, hc32⟩ ?_
    refine e_ic_ge (tgt := 148) dX8_laysSures_82 rfl (fun hc37 => ?_) (fun hc37 => ?_)
    · rw [if_pos hc37] at h
      refine e_iincN 1 (1 : Int32) dX8_laysSures_148 rfl ci_1 h (fun y9 => [some (.ref 29), some (.int y9), some (.int x2), none]) (fun _ => rfl) (fun v38 ev38 h => ?_)
      refine e_goto (tgt := 67) dX8_laysSures_151 rfl ?_
      exact e_le (hk67 v38 μ33 _ (by omega) h) ⟨rfl, rfl, trivial⟩
    · rw [if_neg hc37] at h
      refine e_bipush dX8_laysSures_85 cb_6 ?_
      refine e_iload_n dX8_laysSures_87 rfl ?_
      refine e_imul dX8_laysSures_88 ?_
      refine e_iload_n dX8_laysSures_89 rfl ?_
      refine e_iadd dX8_laysSures_90 ?_
      refine e_naI h (fun v39 ev39 h => ?_)
      refine e_istore_nL [some (.ref 29), some (.int x1), some (.int x2), some (.int v39)] dX8_laysSures_91 (Nat.le_of_ble_eq_true rfl) rfl ?_
      refine e_aload_n dX8_laysSures_92 rfl ?_
      refine e_iload_n dX8_laysSures_93 rfl ?_
      refine e_iload_n dX8_laysSures_94 rfl ?_
      refine cI_go h (fun E42 hc40 hr43 => e_VX [.int x1, .int x2] [] dX8_laysSures_95 rfl rfl rfl rfl (by decide) (Nat.le_of_ble_eq_true rfl) (by omega) ⟨x1, x2, rfl, hc40⟩ rfl ⟨hr43.symm, rfl⟩) (fun v44 μ41 hc40 h => ?_)
      refine e_VI [.int x1, .int x2] [] dX8_laysSures_95 rfl rfl rfl rfl (by decide) (Nat.le_of_ble_eq_true rfl) (by omega) ⟨x1, x2, rfl, hc40⟩ ?_
      refine e_if_ne (tgt := 142) dX8_laysSures_98 rfl (fun hc45 => ?_) (fun hc45 => ?_)
      · rw [if_neg hc45] at h
        refine e_iincN 2 (1 : Int32) dX8_laysSures_142 rfl ci_1 h (fun y9 => [some (.ref 29), some (.int x1), some (.int y9), some (.int v39)]) (fun _ => rfl) (fun v46 ev46 h => ?_)
        refine e_goto (tgt := 77) dX8_laysSures_145 rfl ?_
        exact e_le (ih x1 v46 μ41 _ (by omega) h) ⟨rfl, rfl, rfl, trivial⟩
      · rw [if_pos hc45] at h
        refine e_aload_n dX8_laysSures_101 rfl ?_
        refine cV_go h (fun E49 hc47 hr50 => e_VX [] [] dX8_laysSures_102 rfl rfl rfl rfl (by decide) (Nat.le_of_ble_eq_true rfl) (by omega) ⟨rfl, hc47⟩ rfl ⟨hr50.symm, rfl⟩) (fun μ48 hc47 h => ?_)
        refine e_VV [] [] dX8_laysSures_102 rfl rfl rfl rfl (by decide) (Nat.le_of_ble_eq_true rfl) (by omega) ⟨rfl, hc47⟩ ?_
        refine e_aload_n dX8_laysSures_105 rfl ?_
        refine e_get (ci := 6) (j := 11) (t := 2) (v := .ref 37) dX8_laysSures_106 rfl (by decide) rfl rfl rfl ?_
        refine e_iload_n dX8_laysSures_109 rfl ?_
        refine e_iconst dX8_laysSures_110 ci_1 ?_
        refine e_aload_n dX8_laysSures_111 rfl ?_
        refine e_get (ci := 6) (j := 21) (t := 2) (v := .ref 46) dX8_laysSures_112 rfl (by decide) rfl rfl rfl ?_
        refine e_iload_n dX8_laysSures_115 rfl ?_
        obtain ⟨hc51, h⟩ := ck_eq h
        refine e_ialoadL (μ48.1 46 (Int32.toNatClampNeg v39)) (n := 36) dX8_laysSures_116 (by decide) rfl hc51 rfl ?_
        refine e_isub dX8_laysSures_117 ?_
        obtain ⟨hc52, h⟩ := ck_eq h
        refine e_iastore (n := 36) dX8_laysSures_118 (by decide) rfl hc52 ?_
        refine e_naM (e := sI μ48 37 (Int32.toNatClampNeg v39) ((1 : Int32) - (μ48.1 46 (Int32.toNatClampNeg v39)))) h (fun μ53 eμ53 h => ?_)
        refine e_aload_n dX8_laysSures_119 rfl ?_
        refine e_get (ci := 6) (j := 21) (t := 2) (v := .ref 46) dX8_laysSures_120 rfl (by decide) rfl rfl rfl ?_
        refine e_iload_n dX8_laysSures_123 rfl ?_
        refine e_aload_n dX8_laysSures_124 rfl ?_
        refine cI_go h (fun E56 hc54 hr57 => e_VX [] [.int v39, .ref 46] dX8_laysSures_125 rfl rfl rfl rfl (by decide) (Nat.le_of_ble_eq_true rfl) (by omega) ⟨rfl, hc54⟩ rfl ⟨hr57.symm, rfl⟩) (fun v58 μ55 hc54 h => ?_)
        refine e_VI [] [.int v39, .ref 46] dX8_laysSures_125 rfl rfl rfl rfl (by decide) (Nat.le_of_ble_eq_true rfl) (by omega) ⟨rfl, hc54⟩ ?_
        refine e_if_eq (tgt := 135) dX8_laysSures_128 rfl (fun hc59 => ?_) (fun hc59 => ?_)
        · rw [if_pos hc59] at h
          refine e_aload_n dX8_laysSures_135 rfl ?_
          refine e_get (ci := 6) (j := 21) (t := 2) (v := .ref 46) dX8_laysSures_136 rfl (by decide) rfl rfl rfl ?_
          refine e_iload_n dX8_laysSures_139 rfl ?_
          obtain ⟨hc60, h⟩ := ck_eq h
          refine e_ialoadL (μ55.1 46 (Int32.toNatClampNeg v39)) (n := 36) dX8_laysSures_140 (by decide) rfl hc60 rfl ?_
          obtain ⟨hc61, h⟩ := ck_eq h
          refine e_iastore (n := 36) dX8_laysSures_141 (by decide) rfl hc61 ?_
          refine e_naM (e := sI μ55 46 (Int32.toNatClampNeg v39) (μ55.1 46 (Int32.toNatClampNeg v39))) h (fun μ62 eμ62 h => ?_)
          refine e_iincN 2 (1 : Int32) dX8_laysSures_142 rfl ci_1 h (fun y9 => [some (.ref 29), some (.int x1), some (.int y9), some (.int v39)]) (fun _ => rfl) (fun v63 ev63 h => ?_)
          refine e_goto (tgt := 77) dX8_laysSures_145 rfl ?_
          exact e_le (ih x1 v63 μ62 _ (by omega) h) ⟨rfl, rfl, rfl, trivial⟩
        · rw [if_neg hc59] at h
          refine e_iconst dX8_laysSures_131 ci_m1 ?_
          refine e_goto (tgt := 141) dX8_laysSures_132 rfl ?_
          obtain ⟨hc64, h⟩ := ck_eq h
          refine e_iastore (n := 36) dX8_laysSures_141 (by decide) rfl hc64 ?_
          refine e_naM (e := sI μ55 46 (Int32.toNatClampNeg v39) (-1 : Int32)) h (fun μ65 eμ65 h => ?_)
          refine e_iincN 2 (1 : Int32) dX8_laysSures_142 rfl ci_1 h (fun y9 => [some (.ref 29), some (.int x1), some (.int y9), some (.int v39)]) (fun _ => rfl) (fun v66 ev66 h => ?_)
          refine e_goto (tgt := 77) dX8_laysSures_145 rfl ?_
          exact e_le (ih x1 v66 μ65 _ (by omega) h) ⟨rfl, rfl, rfl, trivial⟩
set_option maxHeartbeats 4000000 in
theorem g_X8_laysSures_67 {r : Res} {μ' : Mem} : ∀ n : Nat, ∀ (x1 : Int32), ∀ (μ : Mem) (b : Nat), 0 ≤ b → f_X8_laysSures_67 n x1 μ = some (r, μ') → G mX8_laysSures (Qe r μ') 67 [some (.ref 29), some (.int x1), none, none] [] μ b := by
  intro n
  induction n with
  | zero => intro x1 μ b hb9 h; exact nomatch (show (none : Out) = some _ from h)
  | succ n ih =>
    intro x1 μ b hb9 h
    rw [f_X8_laysSures_67.eq_2] at h
    refine e_iload_n dX8_laysSures_67 rfl ?_
    refine e_aload_n dX8_laysSures_68 rfl ?_
    refine cI_go h (fun E28 hc26 hr29 => e_VX [] [.int x1] dX8_laysSures_69 rfl rfl rfl rfl (by decide) (Nat.le_of_ble_eq_true rfl) (by omega) ⟨rfl, hc26⟩ rfl ⟨hr29.symm, rfl⟩) (fun v30 μ27 hc26 h => ?_)
    refine e_VI [] [.int x1] dX8_laysSures_69 rfl rfl rfl rfl (by decide) (Nat.le_of_ble_eq_true rfl) (by omega) ⟨rfl, hc26⟩ ?_
    refine e_ic_ge (tgt := 154) dX8_laysSures_72 rfl (fun hc31 => ?_) (fun hc31 => ?_)
    · rw [if_pos hc31] at h
      refine e_iconst dX8_laysSures_154 ci_1 ?_
      exact e_iret .boolean dX8_laysSures_155 rfl rfl (ret_eq h)
    · rw [if_neg hc31] at h
      refine e_iconst dX8_laysSures_75 ci_0 ?_
      refine e_istore_nL [some (.ref 29), some (.int x1), some (.int (0 : Int32)), none] dX8_laysSures_76 (Nat.le_of_ble_eq_true rfl) rfl ?_
      exact e_le (g_X8_laysSures_77 ih BIG x1 (0 : Int32) μ27 _ (by omega) h) ⟨rfl, rfl, rfl, trivial⟩
set_option maxHeartbeats 4000000 in
theorem g_X8_laysSures_15 {r : Res} {μ' : Mem} : ∀ n : Nat, ∀ (x1 : Int32), ∀ (μ : Mem) (b : Nat), 0 ≤ b → f_X8_laysSures_15 n x1 μ = some (r, μ') → G mX8_laysSures (Qe r μ') 15 [some (.ref 29), some (.int x1), none, none] [] μ b := by
  intro n
  induction n with
  | zero => intro x1 μ b hb9 h; exact nomatch (show (none : Out) = some _ from h)
  | succ n ih =>
    intro x1 μ b hb9 h
    rw [f_X8_laysSures_15.eq_2] at h
    refine e_iload_n dX8_laysSures_15 rfl ?_
    refine e_bipush dX8_laysSures_16 cb_36 ?_
    refine e_ic_ge (tgt := 65) dX8_laysSures_18 rfl (fun hc11 => ?_) (fun hc11 => ?_)
    · rw [if_pos hc11] at h
      refine e_iconst dX8_laysSures_65 ci_0 ?_
      refine e_istore_nL [some (.ref 29), some (.int (0 : Int32)), none, none] dX8_laysSures_66 (Nat.le_of_ble_eq_true rfl) rfl ?_
      exact e_le (g_X8_laysSures_67 BIG (0 : Int32) μ _ (by omega) h) ⟨rfl, rfl, trivial⟩
    · rw [if_neg hc11] at h
      refine e_aload_n dX8_laysSures_21 rfl ?_
      refine e_get (ci := 6) (j := 21) (t := 2) (v := .ref 46) dX8_laysSures_22 rfl (by decide) rfl rfl rfl ?_
      refine e_iload_n dX8_laysSures_25 rfl ?_
      refine e_aload_n dX8_laysSures_26 rfl ?_
      refine e_get (ci := 6) (j := 11) (t := 2) (v := .ref 37) dX8_laysSures_27 rfl (by decide) rfl rfl rfl ?_
      refine e_iload_n dX8_laysSures_30 rfl ?_
      obtain ⟨hc12, h⟩ := ck_eq h
      refine e_ialoadL (μ.1 37 (Int32.toNatClampNeg x1)) (n := 36) dX8_laysSures_31 (by decide) rfl hc12 rfl ?_
      refine e_if_lt (tgt := 44) dX8_laysSures_32 rfl (fun hc13 => ?_) (fun hc13 => ?_)
      · rw [if_pos hc13] at h
        refine e_aload_n dX8_laysSures_44 rfl ?_
        refine e_get (ci := 6) (j := 12) (t := 2) (v := .ref 38) dX8_laysSures_45 rfl (by decide) rfl rfl rfl ?_
        refine e_iload_n dX8_laysSures_48 rfl ?_
        obtain ⟨hc14, h⟩ := ck_eq h
        refine e_baload (n := 36) dX8_laysSures_49 (by decide) rfl hc14 ?_
        refine e_if_eq (tgt := 57) dX8_laysSures_50 rfl (fun hc15 => ?_) (fun hc15 => ?_)
        · rw [if_pos hc15] at h
          refine e_iconst dX8_laysSures_57 ci_0 ?_
          obtain ⟨hc16, h⟩ := ck_eq h
          refine e_iastore (n := 36) dX8_laysSures_58 (by decide) rfl hc16 ?_
          refine e_naM (e := sI μ 46 (Int32.toNatClampNeg x1) (0 : Int32)) h (fun μ17 eμ17 h => ?_)
          refine e_iincN 1 (1 : Int32) dX8_laysSures_59 rfl ci_1 h (fun y9 => [some (.ref 29), some (.int y9), none, none]) (fun _ => rfl) (fun v18 ev18 h => ?_)
          refine e_goto (tgt := 15) dX8_laysSures_62 rfl ?_
          exact e_le (ih v18 μ17 _ (by omega) h) ⟨rfl, rfl, trivial⟩
        · rw [if_neg hc15] at h
          refine e_iconst dX8_laysSures_53 ci_1 ?_
          refine e_goto (tgt := 58) dX8_laysSures_54 rfl ?_
          obtain ⟨hc19, h⟩ := ck_eq h
          refine e_iastore (n := 36) dX8_laysSures_58 (by decide) rfl hc19 ?_
          refine e_naM (e := sI μ 46 (Int32.toNatClampNeg x1) (1 : Int32)) h (fun μ20 eμ20 h => ?_)
          refine e_iincN 1 (1 : Int32) dX8_laysSures_59 rfl ci_1 h (fun y9 => [some (.ref 29), some (.int y9), none, none]) (fun _ => rfl) (fun v21 ev21 h => ?_)
          refine e_goto (tgt := 15) dX8_laysSures_62 rfl ?_
          exact e_le (ih v21 μ20 _ (by omega) h) ⟨rfl, rfl, trivial⟩
      · rw [if_neg hc13] at h
        refine e_aload_n dX8_laysSures_35 rfl ?_
        refine e_get (ci := 6) (j := 11) (t := 2) (v := .ref 37) dX8_laysSures_36 rfl (by decide) rfl rfl rfl ?_
        refine e_iload_n dX8_laysSures_39 rfl ?_
        obtain ⟨hc22, h⟩ := ck_eq h
        refine e_ialoadL (μ.1 37 (Int32.toNatClampNeg x1)) (n := 36) dX8_laysSures_40 (by decide) rfl hc22 rfl ?_
        refine e_goto (tgt := 58) dX8_laysSures_41 rfl ?_
        obtain ⟨hc23, h⟩ := ck_eq h
        refine e_iastore (n := 36) dX8_laysSures_58 (by decide) rfl hc23 ?_
        refine e_naM (e := sI μ 46 (Int32.toNatClampNeg x1) (μ.1 37 (Int32.toNatClampNeg x1))) h (fun μ24 eμ24 h => ?_)
        refine e_iincN 1 (1 : Int32) dX8_laysSures_59 rfl ci_1 h (fun y9 => [some (.ref 29), some (.int y9), none, none]) (fun _ => rfl) (fun v25 ev25 h => ?_)
        refine e_goto (tgt := 15) dX8_laysSures_62 rfl ?_
        exact e_le (ih v25 μ24 _ (by omega) h) ⟨rfl, rfl, trivial⟩
set_option maxHeartbeats 4000000 in
theorem b_X8_laysSures : ∀ as μ r μ', Γ_X8_laysSures as μ r μ' → (elvL as).length ≤ 4 ∧ G mX8_laysSures (Qe r μ') 0 (elv as 4) [] μ 0 := by
  intro as μ r μ' h
  obtain ⟨rfl, h⟩ := h
  refine ⟨Nat.le_of_ble_eq_true rfl, ?_⟩
  show G mX8_laysSures (Qe r μ') 0 [some (.ref 29), none, none, none] [] μ 0
  unfold F_X8_laysSures at h
  have hb9 : 0 ≤ 0 := Nat.le_refl _
  refine e_aload_n dX8_laysSures_0 rfl ?_
  refine cV_go h (fun E3 hc1 hr4 => e_VX [] [] dX8_laysSures_1 rfl rfl rfl rfl (by decide) (Nat.le_of_ble_eq_true rfl) (by omega) ⟨rfl, hc1⟩ rfl ⟨hr4.symm, rfl⟩) (fun μ2 hc1 h => ?_)
  refine e_VV [] [] dX8_laysSures_1 rfl rfl rfl rfl (by decide) (Nat.le_of_ble_eq_true rfl) (by omega) ⟨rfl, hc1⟩ ?_
  refine e_aload_n dX8_laysSures_4 rfl ?_
  refine cI_go h (fun E7 hc5 hr8 => e_VX [] [] dX8_laysSures_5 rfl rfl rfl rfl (by decide) (Nat.le_of_ble_eq_true rfl) (by omega) ⟨rfl, hc5⟩ rfl ⟨hr8.symm, rfl⟩) (fun v9 μ6 hc5 h => ?_)
  refine e_VI [] [] dX8_laysSures_5 rfl rfl rfl rfl (by decide) (Nat.le_of_ble_eq_true rfl) (by omega) ⟨rfl, hc5⟩ ?_
  refine e_if_ne (tgt := 13) dX8_laysSures_8 rfl (fun hc10 => ?_) (fun hc10 => ?_)
  · rw [if_neg hc10] at h
    refine e_iconst dX8_laysSures_13 ci_0 ?_
    refine e_istore_nL [some (.ref 29), some (.int (0 : Int32)), none, none] dX8_laysSures_14 (Nat.le_of_ble_eq_true rfl) rfl ?_
    exact e_le (g_X8_laysSures_15 BIG (0 : Int32) μ6 _ (by omega) h) ⟨rfl, rfl, trivial⟩
  · rw [if_pos hc10] at h
    refine e_iconst dX8_laysSures_11 ci_0 ?_
    exact e_iret .boolean dX8_laysSures_12 rfl rfl (ret_eq h)
set_option maxRecDepth 20000 in
theorem ok_X8_laysSures (l : Launch) (hl : l.stackTraces = false) : MOK l yX8_laysSures.cls 5 92 mX8_laysSures := ⟨lk_all (List.forall_mem_cons.mpr ⟨⟨yX8_rows, cX8_rows, 1, (some .int), 1, 0, by decide, by decide, t_1 7 rfl rfl, hd_X8_rows, Or.inr (Or.inl ⟨rfl, sc_X8_rows l hl, t_5 45 rfl rfl, t_5 42 rfl rfl, t_5 44 rfl rfl, _, rfl, t_p 35 rfl⟩)⟩, List.forall_mem_cons.mpr ⟨⟨yX8_columns, cX8_columns, 1, (some .int), 1, 0, by decide, by decide, t_1 7 rfl rfl, hd_X8_columns, Or.inr (Or.inl ⟨rfl, sc_X8_columns l hl, t_5 49 rfl rfl, t_5 46 rfl rfl, t_5 48 rfl rfl, _, rfl, t_p 36 rfl⟩)⟩, List.forall_mem_cons.mpr ⟨⟨yX8_isPinned, cX8_isPinned, 3, (some .boolean), 1, 0, by decide, by decide, t_1 7 rfl rfl, hd_X8_isPinned, Or.inr (Or.inl ⟨rfl, sc_X8_isPinned l hl, t_5 89 rfl rfl, t_5 86 rfl rfl, t_5 88 rfl rfl, _, rfl, t_p 45 rfl⟩)⟩, List.forall_mem_cons.mpr ⟨⟨yX8_canFit, cX8_canFit, 5, (some .boolean), 4, 68, by decide, by decide, t_1 7 rfl rfl, hd_X8_canFit, Or.inr (Or.inl ⟨rfl, sc_X8_canFit l hl, t_5 173 rfl rfl, t_5 170 rfl rfl, t_5 172 rfl rfl, _, rfl, t_p 64 rfl⟩)⟩, List.forall_mem_cons.mpr ⟨⟨yX8_givesPins, cX8_givesPins, 3, none, 2, 22, by decide, by decide, t_1 7 rfl rfl, hd_X8_givesPins, Or.inr (Or.inl ⟨rfl, sc_X8_givesPins l hl, t_5 169 rfl rfl, t_5 166 rfl rfl, t_5 168 rfl rfl, _, rfl, t_p 63 rfl⟩)⟩, nil_all⟩⟩⟩⟩⟩), fun ix ci j h => lk_all (P := fun ix q => FldOK yX8_laysSures.cls ix q.1 q.2) (List.forall_mem_cons.mpr ⟨⟨_, rfl, by decide, t_4 189 rfl rfl⟩, List.forall_mem_cons.mpr ⟨⟨_, rfl, by decide, t_4 190 rfl rfl⟩, List.forall_mem_cons.mpr ⟨⟨_, rfl, by decide, t_4 199 rfl rfl⟩, nil_all⟩⟩⟩) ix (ci, j) h, lk_all (nil_all), lk_all (nil_all), lk_all (nil_all)⟩
theorem hd_X8_laysSures : CallHd yX8_laysSures 0 := ⟨by decide +kernel, by decide +kernel, by decide +kernel⟩
theorem sc_X8_laysSures (l : Launch) (hl : l.stackTraces = false) : SCon l yX8_laysSures cX8_laysSures 4 (some .boolean) 5 92 0 Γ_X8_laysSures := scon_of mX8_laysSures cls_ok hl (by decide +kernel) rfl rfl (ok_X8_laysSures l hl) rfl rfl b_X8_laysSures
def f_X8_cell_28 (x1 : Int32) (x2 : Int32) (x3 : Int32) (s0 : Int32) (μ : Mem) : Out := lt (sI μ 29 8 s0) (fun μ13 => if (μ13.1 29 8) = 0 then (if x3 = (0 : Int32) then (cI (F_X8_isFilled x1 x2 μ13) (fun v20 μ17 => if v20 = 0 then (rI (0 : Int32) μ17) else (rI (1 : Int32) μ17))) else if x3 = (1 : Int32) then (cI (F_X8_isPinned x1 x2 μ13) (fun v27 μ24 => if v27 = 0 then (rI (0 : Int32) μ24) else (rI (1 : Int32) μ24))) else if x3 = (2 : Int32) then (cI (F_X8_laysPieces μ13) (fun v34 μ31 => if v34 ≤ 0 then (rI (-9 : Int32) μ31) else (ck (inb (((6 : Int32) * x1) + x2) 36) (rI (μ31.1 35 (Int32.toNatClampNeg (((6 : Int32) * x1) + x2))) μ31)))) else if x3 = (3 : Int32) then (cI (F_X8_laysHull μ13) (fun v42 μ39 => if v42 ≤ 0 then (rI (0 : Int32) μ39) else (ck (inb (((6 : Int32) * x1) + x2) 36) (if (μ39.1 36 (Int32.toNatClampNeg (((6 : Int32) * x1) + x2))) = 0 then (rI (0 : Int32) μ39) else (rI (1 : Int32) μ39))))) else (cI (F_X8_laysSures μ13) (fun v50 μ47 => if v50 = 0 then (rI (0 : Int32) μ47) else (ck (inb (((6 : Int32) * x1) + x2) 36) (if (μ47.1 46 (Int32.toNatClampNeg (((6 : Int32) * x1) + x2))) < 0 then (rI (0 : Int32) μ47) else (rI (1 : Int32) μ47)))))) else (rI (0 : Int32) μ13))
def F_X8_cell (a0 : Int32) (a1 : Int32) (a2 : Int32) (μ : Mem) : Out := cI (F_X8_isCell a0 a1 μ) (fun v5 μ2 => if v5 = 0 then (f_X8_cell_28 a0 a1 a2 (1 : Int32) μ2) else (cI (F_X8_in a2 (0 : Int32) (4 : Int32) μ2) (fun v11 μ8 => if v11 = 0 then (f_X8_cell_28 a0 a1 a2 (2 : Int32) μ8) else (f_X8_cell_28 a0 a1 a2 (0 : Int32) μ8))))
def Γ_X8_cell : Gam := fun as μ r μ' => ∃ (a0 : Int32) (a1 : Int32) (a2 : Int32), as = [.ref 29, .int a0, .int a1, .int a2] ∧ F_X8_cell a0 a1 a2 μ = some (r, μ')
def mX8_cell : MI := (cX8_cell, [(80, (0, 3, 0, 0, Γ_X8_in)), (98, (1, 2, 0, 6, Γ_X8_isFilled)), (127, (1, 2, 0, 6, Γ_X8_isCell)), (145, (1, 2, 0, 6, Γ_X8_isPinned)), (202, (1, 0, 0, 6, Γ_X8_laysPieces)), (208, (1, 0, 0, 6, Γ_X8_laysHull)), (224, (1, 0, 0, 6, Γ_X8_laysSures))], [(25, 6, 9), (28, 6, 10), (59, 6, 21), (65, 6, 8)], [], [], [], [], none, (some .int))
set_option maxHeartbeats 4000000 in
theorem g_X8_cell_28 {r : Res} {μ' : Mem} : ∀ (x1 : Int32) (x2 : Int32) (x3 : Int32) (s0 : Int32), ∀ (μ : Mem) (b : Nat), 0 ≤ b → f_X8_cell_28 x1 x2 x3 s0 μ = some (r, μ') → G mX8_cell (Qe r μ') 28 [some (.ref 29), some (.int x1), some (.int x2), some (.int x3), none] [.int s0, .ref 29] μ b := by
  intro x1 x2 x3 s0 μ b hb9 h
  unfold f_X8_cell_28 at h
  refine e_putI (ci := 6) (j := 8) dX8_cell_28 rfl (by decide) rfl rfl ?_
  refine e_naM (e := sI μ 29 8 s0) h (fun μ13 eμ13 h => ?_)
  refine e_aload_n dX8_cell_31 rfl ?_
  refine e_get (ci := 6) (j := 8) (t := 0) (v := .int (μ13.1 29 8)) dX8_cell_32 rfl (by decide) rfl rfl rfl ?_
  refine e_if_eq (tgt := 40) dX8_cell_35 rfl (fun hc14 => ?_) (fun hc14 => ?_)
  · rw [if_pos hc14] at h
    refine e_iconst dX8_cell_40 ci_0 ?_
    refine e_istoreL [some (.ref 29), some (.int x1), some (.int x2), some (.int x3), some (.int (0 : Int32))] dX8_cell_41 (Nat.le_of_ble_eq_true rfl) rfl ?_
    refine e_iload_n dX8_cell_43 rfl ?_
    by_cases hc15 : x3 = (0 : Int32)
    · rw [if_pos hc15] at h
      refine e_tsL (0 : Int32) (tgt := 76) hc15 dX8_cell_44 (by decide) (by decide) rfl rfl ?_
      refine e_aload_n dX8_cell_76 rfl ?_
      refine e_iload_n dX8_cell_77 rfl ?_
      refine e_iload_n dX8_cell_78 rfl ?_
      refine cI_go h (fun E18 hc16 hr19 => e_VX [.int x1, .int x2] [] dX8_cell_79 rfl rfl rfl rfl (by decide) (Nat.le_of_ble_eq_true rfl) (by omega) ⟨x1, x2, rfl, hc16⟩ rfl ⟨hr19.symm, rfl⟩) (fun v20 μ17 hc16 h => ?_)
      refine e_VI [.int x1, .int x2] [] dX8_cell_79 rfl rfl rfl rfl (by decide) (Nat.le_of_ble_eq_true rfl) (by omega) ⟨x1, x2, rfl, hc16⟩ ?_
      refine e_if_eq (tgt := 89) dX8_cell_82 rfl (fun hc21 => ?_) (fun hc21 => ?_)
      · rw [if_pos hc21] at h
        refine e_iconst dX8_cell_89 ci_0 ?_
        exact e_iret .int dX8_cell_90 rfl rfl (ret_eq h)
      · rw [if_neg hc21] at h
        refine e_iconst dX8_cell_85 ci_1 ?_
        refine e_goto (tgt := 90) dX8_cell_86 rfl ?_
        exact e_iret .int dX8_cell_90 rfl rfl (ret_eq h)
    rw [if_neg hc15] at h
    by_cases hc22 : x3 = (1 : Int32)
    · rw [if_pos hc22] at h
      refine e_tsL (1 : Int32) (tgt := 91) hc22 dX8_cell_44 (by decide) (by decide) rfl rfl ?_
      refine e_aload_n dX8_cell_91 rfl ?_
      refine e_iload_n dX8_cell_92 rfl ?_
      refine e_iload_n dX8_cell_93 rfl ?_
      refine cI_go h (fun E25 hc23 hr26 => e_VX [.int x1, .int x2] [] dX8_cell_94 rfl rfl rfl rfl (by decide) (Nat.le_of_ble_eq_true rfl) (by omega) ⟨x1, x2, rfl, hc23⟩ rfl ⟨hr26.symm, rfl⟩) (fun v27 μ24 hc23 h => ?_)
      refine e_VI [.int x1, .int x2] [] dX8_cell_94 rfl rfl rfl rfl (by decide) (Nat.le_of_ble_eq_true rfl) (by omega) ⟨x1, x2, rfl, hc23⟩ ?_
      refine e_if_eq (tgt := 104) dX8_cell_97 rfl (fun hc28 => ?_) (fun hc28 => ?_)
      · rw [if_pos hc28] at h
        refine e_iconst dX8_cell_104 ci_0 ?_
        exact e_iret .int dX8_cell_105 rfl rfl (ret_eq h)
      · rw [if_neg hc28] at h
        refine e_iconst dX8_cell_100 ci_1 ?_
        refine e_goto (tgt := 105) dX8_cell_101 rfl ?_
        exact e_iret .int dX8_cell_105 rfl rfl (ret_eq h)
    rw [if_neg hc22] at h
    by_cases hc29 : x3 = (2 : Int32)
    · rw [if_pos hc29] at h
      refine e_tsL (2 : Int32) (tgt := 106) hc29 dX8_cell_44 (by decide) (by decide) rfl rfl ?_
      refine e_aload_n dX8_cell_106 rfl ?_
      refine cI_go h (fun E32 hc30 hr33 => e_VX [] [] dX8_cell_107 rfl rfl rfl rfl (by decide) (Nat.le_of_ble_eq_true rfl) (by omega) ⟨rfl, hc30⟩ rfl ⟨hr33.symm, rfl⟩) (fun v34 μ31 hc30 h => ?_)
      refine e_VI [] [] dX8_cell_107 rfl rfl rfl rfl (by decide) (Nat.le_of_ble_eq_true rfl) (by omega) ⟨rfl, hc30⟩ ?_
      refine e_istoreL [some (.ref 29), some (.int x1), some (.int x2), some (.int x3), some (.int v34)] dX8_cell_110 (Nat.le_of_ble_eq_true rfl) rfl ?_
      refine e_iload dX8_cell_112 rfl ?_
      refine e_if_le (tgt := 131) dX8_cell_114 rfl (fun hc35 => ?_) (fun hc35 => ?_)
      · rw [if_pos hc35] at h
        refine e_bipush dX8_cell_131 cb_m9 ?_
        exact e_iret .int dX8_cell_133 rfl rfl (ret_eq h)
      · rw [if_neg hc35] at h
        refine e_aload_n dX8_cell_117 rfl ?_
        refine e_get (ci := 6) (j := 9) (t := 2) (v := .ref 35) dX8_cell_118 rfl (by decide) rfl rfl rfl ?_
        refine e_bipush dX8_cell_121 cb_6 ?_
        refine e_iload_n dX8_cell_123 rfl ?_
        refine e_imul dX8_cell_124 ?_
        refine e_iload_n dX8_cell_125 rfl ?_
        refine e_iadd dX8_cell_126 ?_
        obtain ⟨hc36, h⟩ := ck_eq h
        refine e_ialoadL (μ31.1 35 (Int32.toNatClampNeg (((6 : Int32) * x1) + x2))) (n := 36) dX8_cell_127 (by decide) rfl hc36 rfl ?_
        refine e_goto (tgt := 133) dX8_cell_128 rfl ?_
        exact e_iret .int dX8_cell_133 rfl rfl (ret_eq h)
    rw [if_neg hc29] at h
    by_cases hc37 : x3 = (3 : Int32)
    · rw [if_pos hc37] at h
      refine e_tsL (3 : Int32) (tgt := 134) hc37 dX8_cell_44 (by decide) (by decide) rfl rfl ?_
      refine e_aload_n dX8_cell_134 rfl ?_
      refine cI_go h (fun E40 hc38 hr41 => e_VX [] [] dX8_cell_135 rfl rfl rfl rfl (by decide) (Nat.le_of_ble_eq_true rfl) (by omega) ⟨rfl, hc38⟩ rfl ⟨hr41.symm, rfl⟩) (fun v42 μ39 hc38 h => ?_)
      refine e_VI [] [] dX8_cell_135 rfl rfl rfl rfl (by decide) (Nat.le_of_ble_eq_true rfl) (by omega) ⟨rfl, hc38⟩ ?_
      refine e_istoreL [some (.ref 29), some (.int x1), some (.int x2), some (.int x3), some (.int v42)] dX8_cell_138 (Nat.le_of_ble_eq_true rfl) rfl ?_
      refine e_iload dX8_cell_140 rfl ?_
      refine e_if_le (tgt := 163) dX8_cell_142 rfl (fun hc43 => ?_) (fun hc43 => ?_)
      · rw [if_pos hc43] at h
        refine e_iconst dX8_cell_163 ci_0 ?_
        exact e_iret .int dX8_cell_164 rfl rfl (ret_eq h)
      · rw [if_neg hc43] at h
        refine e_aload_n dX8_cell_145 rfl ?_
        refine e_get (ci := 6) (j := 10) (t := 2) (v := .ref 36) dX8_cell_146 rfl (by decide) rfl rfl rfl ?_
        refine e_bipush dX8_cell_149 cb_6 ?_
        refine e_iload_n dX8_cell_151 rfl ?_
        refine e_imul dX8_cell_152 ?_
        refine e_iload_n dX8_cell_153 rfl ?_
        refine e_iadd dX8_cell_154 ?_
        obtain ⟨hc44, h⟩ := ck_eq h
        refine e_baload (n := 36) dX8_cell_155 (by decide) rfl hc44 ?_
        refine e_if_eq (tgt := 163) dX8_cell_156 rfl (fun hc45 => ?_) (fun hc45 => ?_)
        · rw [if_pos hc45] at h
          refine e_iconst dX8_cell_163 ci_0 ?_
          exact e_iret .int dX8_cell_164 rfl rfl (ret_eq h)
        · rw [if_neg hc45] at h
          refine e_iconst dX8_cell_159 ci_1 ?_
          refine e_goto (tgt := 164) dX8_cell_160 rfl ?_
          exact e_iret .int dX8_cell_164 rfl rfl (ret_eq h)
    rw [if_neg hc37] at h
    refine e_tsOut (tgt := 165) dX8_cell_44 (ts_out_0_3 hc15 hc22 hc29 hc37) rfl ?_
    refine e_aload_n dX8_cell_165 rfl ?_
    refine cI_go h (fun E48 hc46 hr49 => e_VX [] [] dX8_cell_166 rfl rfl rfl rfl (by decide) (Nat.le_of_ble_eq_true rfl) (by omega) ⟨rfl, hc46⟩ rfl ⟨hr49.symm, rfl⟩) (fun v50 μ47 hc46 h => ?_)
    refine e_VI [] [] dX8_cell_166 rfl rfl rfl rfl (by decide) (Nat.le_of_ble_eq_true rfl) (by omega) ⟨rfl, hc46⟩ ?_
    refine e_if_eq (tgt := 190) dX8_cell_169 rfl (fun hc51 => ?_) (fun hc51 => ?_)
    · rw [if_pos hc51] at h
      refine e_iconst dX8_cell_190 ci_0 ?_
      exact e_iret .int dX8_cell_191 rfl rfl (ret_eq h)
    · rw [if_neg hc51] at h
      refine e_aload_n dX8_cell_172 rfl ?_
      refine e_get (ci := 6) (j := 21) (t := 2) (v := .ref 46) dX8_cell_173 rfl (by decide) rfl rfl rfl ?_
      refine e_bipush dX8_cell_176 cb_6 ?_
      refine e_iload_n dX8_cell_178 rfl ?_
      refine e_imul dX8_cell_179 ?_
      refine e_iload_n dX8_cell_180 rfl ?_
      refine e_iadd dX8_cell_181 ?_
      obtain ⟨hc52, h⟩ := ck_eq h
      refine e_ialoadL (μ47.1 46 (Int32.toNatClampNeg (((6 : Int32) * x1) + x2))) (n := 36) dX8_cell_182 (by decide) rfl hc52 rfl ?_
      refine e_if_lt (tgt := 190) dX8_cell_183 rfl (fun hc53 => ?_) (fun hc53 => ?_)
      · rw [if_pos hc53] at h
        refine e_iconst dX8_cell_190 ci_0 ?_
        exact e_iret .int dX8_cell_191 rfl rfl (ret_eq h)
      · rw [if_neg hc53] at h
        refine e_iconst dX8_cell_186 ci_1 ?_
        refine e_goto (tgt := 191) dX8_cell_187 rfl ?_
        exact e_iret .int dX8_cell_191 rfl rfl (ret_eq h)
  · rw [if_neg hc14] at h
    refine e_iconst dX8_cell_38 ci_0 ?_
    exact e_iret .int dX8_cell_39 rfl rfl (ret_eq h)
set_option maxHeartbeats 4000000 in
theorem b_X8_cell : ∀ as μ r μ', Γ_X8_cell as μ r μ' → (elvL as).length ≤ 5 ∧ G mX8_cell (Qe r μ') 0 (elv as 5) [] μ 0 := by
  intro as μ r μ' h
  obtain ⟨a0, a1, a2, rfl, h⟩ := h
  refine ⟨Nat.le_of_ble_eq_true rfl, ?_⟩
  show G mX8_cell (Qe r μ') 0 [some (.ref 29), some (.int a0), some (.int a1), some (.int a2), none] [] μ 0
  unfold F_X8_cell at h
  have hb9 : 0 ≤ 0 := Nat.le_refl _
  refine e_aload_n dX8_cell_0 rfl ?_
  refine e_aload_n dX8_cell_1 rfl ?_
  refine e_iload_n dX8_cell_2 rfl ?_
  refine e_iload_n dX8_cell_3 rfl ?_
  refine cI_go h (fun E3 hc1 hr4 => e_VX [.int a0, .int a1] [.ref 29] dX8_cell_4 rfl rfl rfl rfl (by decide) (Nat.le_of_ble_eq_true rfl) (by omega) ⟨a0, a1, rfl, hc1⟩ rfl ⟨hr4.symm, rfl⟩) (fun v5 μ2 hc1 h => ?_)
  refine e_VI [.int a0, .int a1] [.ref 29] dX8_cell_4 rfl rfl rfl rfl (by decide) (Nat.le_of_ble_eq_true rfl) (by omega) ⟨a0, a1, rfl, hc1⟩ ?_
  refine e_if_ne (tgt := 14) dX8_cell_7 rfl (fun hc6 => ?_) (fun hc6 => ?_)
  · rw [if_neg hc6] at h
    refine e_iload_n dX8_cell_14 rfl ?_
    refine e_iconst dX8_cell_15 ci_0 ?_
    refine e_iconst dX8_cell_16 ci_4 ?_
    refine cI_go h (fun E9 hc7 hr10 => e_SX [.int a2, .int (0 : Int32), .int (4 : Int32)] [.ref 29] dX8_cell_17 rfl (by decide) rfl rfl (Nat.le_of_ble_eq_true rfl) (by omega) ⟨a2, (0 : Int32), (4 : Int32), rfl, hc7⟩ rfl ⟨hr10.symm, rfl⟩) (fun v11 μ8 hc7 h => ?_)
    refine e_SI [.int a2, .int (0 : Int32), .int (4 : Int32)] [.ref 29] dX8_cell_17 rfl (by decide) rfl rfl (Nat.le_of_ble_eq_true rfl) (by omega) ⟨a2, (0 : Int32), (4 : Int32), rfl, hc7⟩ ?_
    refine e_if_ne (tgt := 27) dX8_cell_20 rfl (fun hc12 => ?_) (fun hc12 => ?_)
    · rw [if_neg hc12] at h
      refine e_iconst dX8_cell_27 ci_0 ?_
      exact e_le (g_X8_cell_28 a0 a1 a2 (0 : Int32) μ8 _ (by omega) h) ⟨rfl, rfl, rfl, rfl, trivial⟩
    · rw [if_pos hc12] at h
      refine e_iconst dX8_cell_23 ci_2 ?_
      refine e_goto (tgt := 28) dX8_cell_24 rfl ?_
      exact e_le (g_X8_cell_28 a0 a1 a2 (2 : Int32) μ8 _ (by omega) h) ⟨rfl, rfl, rfl, rfl, trivial⟩
  · rw [if_pos hc6] at h
    refine e_iconst dX8_cell_10 ci_1 ?_
    refine e_goto (tgt := 28) dX8_cell_11 rfl ?_
    exact e_le (g_X8_cell_28 a0 a1 a2 (1 : Int32) μ2 _ (by omega) h) ⟨rfl, rfl, rfl, rfl, trivial⟩
set_option maxRecDepth 20000 in
theorem ok_X8_cell (l : Launch) (hl : l.stackTraces = false) : MOK l yX8_cell.cls 6 118 mX8_cell := ⟨lk_all (List.forall_mem_cons.mpr ⟨⟨yX8_in, cX8_in, 3, (some .boolean), 1, 0, by decide, by decide, t_1 7 rfl rfl, hd_X8_in, Or.inl ⟨rfl, sc_X8_in l hl, t_5 18 rfl rfl, t_5 16 rfl rfl, t_5 17 rfl rfl⟩⟩, List.forall_mem_cons.mpr ⟨⟨yX8_isFilled, cX8_isFilled, 3, (some .boolean), 1, 0, by decide, by decide, t_1 7 rfl rfl, hd_X8_isFilled, Or.inr (Or.inl ⟨rfl, sc_X8_isFilled l hl, t_5 73 rfl rfl, t_5 70 rfl rfl, t_5 72 rfl rfl, _, rfl, t_p 42 rfl⟩)⟩, List.forall_mem_cons.mpr ⟨⟨yX8_isCell, cX8_isCell, 3, (some .boolean), 2, 22, by decide, by decide, t_1 7 rfl rfl, hd_X8_isCell, Or.inr (Or.inl ⟨rfl, sc_X8_isCell l hl, t_5 105 rfl rfl, t_5 102 rfl rfl, t_5 104 rfl rfl, _, rfl, t_p 49 rfl⟩)⟩, List.forall_mem_cons.mpr ⟨⟨yX8_isPinned, cX8_isPinned, 3, (some .boolean), 1, 0, by decide, by decide, t_1 7 rfl rfl, hd_X8_isPinned, Or.inr (Or.inl ⟨rfl, sc_X8_isPinned l hl, t_5 89 rfl rfl, t_5 86 rfl rfl, t_5 88 rfl rfl, _, rfl, t_p 45 rfl⟩)⟩, List.forall_mem_cons.mpr ⟨⟨yX8_laysPieces, cX8_laysPieces, 6, (some .int), 5, 93, by decide, by decide, t_1 7 rfl rfl, hd_X8_laysPieces, Or.inr (Or.inl ⟨rfl, sc_X8_laysPieces l hl, t_5 101 rfl rfl, t_5 98 rfl rfl, t_5 100 rfl rfl, _, rfl, t_p 48 rfl⟩)⟩, List.forall_mem_cons.mpr ⟨⟨yX8_laysHull, cX8_laysHull, 4, (some .int), 4, 68, by decide, by decide, t_1 7 rfl rfl, hd_X8_laysHull, Or.inr (Or.inl ⟨rfl, sc_X8_laysHull l hl, t_5 129 rfl rfl, t_5 126 rfl rfl, t_5 128 rfl rfl, _, rfl, t_p 55 rfl⟩)⟩, List.forall_mem_cons.mpr ⟨⟨yX8_laysSures, cX8_laysSures, 4, (some .boolean), 5, 92, by decide, by decide, t_1 7 rfl rfl, hd_X8_laysSures, Or.inr (Or.inl ⟨rfl, sc_X8_laysSures l hl, t_5 165 rfl rfl, t_5 162 rfl rfl, t_5 164 rfl rfl, _, rfl, t_p 62 rfl⟩)⟩, nil_all⟩⟩⟩⟩⟩⟩⟩), fun ix ci j h => lk_all (P := fun ix q => FldOK yX8_cell.cls ix q.1 q.2) (List.forall_mem_cons.mpr ⟨⟨_, rfl, by decide, t_4 187 rfl rfl⟩, List.forall_mem_cons.mpr ⟨⟨_, rfl, by decide, t_4 188 rfl rfl⟩, List.forall_mem_cons.mpr ⟨⟨_, rfl, by decide, t_4 199 rfl rfl⟩, List.forall_mem_cons.mpr ⟨⟨_, rfl, by decide, t_4 186 rfl rfl⟩, nil_all⟩⟩⟩⟩) ix (ci, j) h, lk_all (nil_all), lk_all (nil_all), lk_all (nil_all)⟩
theorem hd_X8_cell : CallHd yX8_cell 3 := ⟨by decide +kernel, by decide +kernel, by decide +kernel⟩
theorem sc_X8_cell (l : Launch) (hl : l.stackTraces = false) : SCon l yX8_cell cX8_cell 5 (some .int) 6 118 0 Γ_X8_cell := scon_of mX8_cell cls_ok hl (by decide +kernel) rfl rfl (ok_X8_cell l hl) rfl rfl b_X8_cell
def F_X8_clearText (μ : Mem) : Out := lt (sI μ 29 8 (0 : Int32)) (fun μ1 => lt (μ1.1 29 7) (fun v2 => lt (sI μ1 29 7 (0 : Int32)) (fun μ3 => rI v2 μ3)))
def Γ_X8_clearText : Gam := fun as μ r μ' => as = [.ref 29] ∧ F_X8_clearText μ = some (r, μ')
def mX8_clearText : MI := (cX8_clearText, [], [(65, 6, 8), (108, 6, 7)], [], [], [], [], none, (some .int))
set_option maxHeartbeats 4000000 in
theorem b_X8_clearText : ∀ as μ r μ', Γ_X8_clearText as μ r μ' → (elvL as).length ≤ 2 ∧ G mX8_clearText (Qe r μ') 0 (elv as 2) [] μ 0 := by
  intro as μ r μ' h
  obtain ⟨rfl, h⟩ := h
  refine ⟨Nat.le_of_ble_eq_true rfl, ?_⟩
  show G mX8_clearText (Qe r μ') 0 [some (.ref 29), none] [] μ 0
  unfold F_X8_clearText at h
  have hb9 : 0 ≤ 0 := Nat.le_refl _
  refine e_aload_n dX8_clearText_0 rfl ?_
  refine e_iconst dX8_clearText_1 ci_0 ?_
  refine e_putI (ci := 6) (j := 8) dX8_clearText_2 rfl (by decide) rfl rfl ?_
  refine e_naM (e := sI μ 29 8 (0 : Int32)) h (fun μ1 eμ1 h => ?_)
  refine e_aload_n dX8_clearText_5 rfl ?_
  refine e_get (ci := 6) (j := 7) (t := 0) (v := .int (μ1.1 29 7)) dX8_clearText_6 rfl (by decide) rfl rfl rfl ?_
  refine e_naI h (fun v2 ev2 h => ?_)
  refine e_istore_nL [some (.ref 29), some (.int v2)] dX8_clearText_9 (Nat.le_of_ble_eq_true rfl) rfl ?_
  refine e_aload_n dX8_clearText_10 rfl ?_
  refine e_iconst dX8_clearText_11 ci_0 ?_
  refine e_putI (ci := 6) (j := 7) dX8_clearText_12 rfl (by decide) rfl rfl ?_
  refine e_naM (e := sI μ1 29 7 (0 : Int32)) h (fun μ3 eμ3 h => ?_)
  refine e_iload_n dX8_clearText_15 rfl ?_
  exact e_iret .int dX8_clearText_16 rfl rfl (ret_eq h)
set_option maxRecDepth 20000 in
theorem ok_X8_clearText (l : Launch) (hl : l.stackTraces = false) : MOK l yX8_clearText.cls 1 0 mX8_clearText := ⟨lk_all (nil_all), fun ix ci j h => lk_all (P := fun ix q => FldOK yX8_clearText.cls ix q.1 q.2) (List.forall_mem_cons.mpr ⟨⟨_, rfl, by decide, t_4 186 rfl rfl⟩, List.forall_mem_cons.mpr ⟨⟨_, rfl, by decide, t_4 185 rfl rfl⟩, nil_all⟩⟩) ix (ci, j) h, lk_all (nil_all), lk_all (nil_all), lk_all (nil_all)⟩
theorem hd_X8_clearText : CallHd yX8_clearText 0 := ⟨by decide +kernel, by decide +kernel, by decide +kernel⟩
theorem sc_X8_clearText (l : Launch) (hl : l.stackTraces = false) : SCon l yX8_clearText cX8_clearText 2 (some .int) 1 0 0 Γ_X8_clearText := scon_of mX8_clearText cls_ok hl (by decide +kernel) rfl rfl (ok_X8_clearText l hl) rfl rfl b_X8_clearText
def f_X8_copies_3 (k1 : Nat) (k3 : Nat) : Nat → Int32 → Int32 → Int32 → Mem → Out
  | 0, _, _, _, _ => none
  | n + 1, x1, x3, x4, μ => if (50 : Int32) ≤ x4 then (rV μ) else (ck (inb (x1 + x4) (aLen k1)) (ck (inb (x3 + x4) (aLen k3)) (lt (sI μ k3 (Int32.toNatClampNeg (x3 + x4)) (μ.1 k1 (Int32.toNatClampNeg (x1 + x4)))) (fun μ4 => lt (x4 + (1 : Int32)) (fun v5 => f_X8_copies_3 k1 k3 n x1 x3 v5 μ4)))))
def F_X8_copies (k1 : Nat) (a1 : Int32) (k3 : Nat) (a3 : Int32) (μ : Mem) : Out := f_X8_copies_3 k1 k3 BIG a1 a3 (0 : Int32) μ
def Γ_X8_copies : Gam := fun as μ r μ' => ∃ (k1 : Nat) (a1 : Int32) (k3 : Nat) (a3 : Int32), as = [.ref k1, .int a1, .ref k3, .int a3] ∧ isA k1 0 ∧ isA k3 0 ∧ F_X8_copies k1 a1 k3 a3 μ = some (r, μ')
def mX8_copies : MI := (cX8_copies, [], [], [], [], [], [], none, none)
set_option maxHeartbeats 4000000 in
theorem g_X8_copies_3 {r : Res} {μ' : Mem} (k1 : Nat) (k3 : Nat) (ho1 : isA k1 0) (ho3 : isA k3 0) : ∀ n : Nat, ∀ (x1 : Int32) (x3 : Int32) (x4 : Int32), ∀ (μ : Mem) (b : Nat), 0 ≤ b → f_X8_copies_3 k1 k3 n x1 x3 x4 μ = some (r, μ') → G mX8_copies (Qe r μ') 3 [some (.ref k1), some (.int x1), some (.ref k3), some (.int x3), some (.int x4)] [] μ b := by
  intro n
  induction n with
  | zero => intro x1 x3 x4 μ b hb9 h; exact nomatch (show (none : Out) = some _ from h)
  | succ n ih =>
    intro x1 x3 x4 μ b hb9 h
    rw [f_X8_copies_3.eq_2] at h
    refine e_iload dX8_copies_3 rfl ?_
    refine e_bipush dX8_copies_5 cb_50 ?_
    refine e_ic_ge (tgt := 28) dX8_copies_7 rfl (fun hc1 => ?_) (fun hc1 => ?_)
    · rw [if_pos hc1] at h
      exact e_vret dX8_copies_28 rfl (ret_eq h)
    · rw [if_neg hc1] at h
      refine e_aload_n dX8_copies_10 rfl ?_
      refine e_iload_n dX8_copies_11 rfl ?_
      refine e_iload dX8_copies_12 rfl ?_
      refine e_iadd dX8_copies_14 ?_
      refine e_aload_n dX8_copies_15 rfl ?_
      refine e_iload_n dX8_copies_16 rfl ?_
      refine e_iload dX8_copies_17 rfl ?_
      refine e_iadd dX8_copies_19 ?_
      obtain ⟨hc2, h⟩ := ck_eq h
      refine e_ialoadL (μ.1 k1 (Int32.toNatClampNeg (x1 + x4))) (n := (aLen k1)) dX8_copies_20 ho1.1 ho1.2 hc2 rfl ?_
      obtain ⟨hc3, h⟩ := ck_eq h
      refine e_iastore (n := (aLen k3)) dX8_copies_21 ho3.1 ho3.2 hc3 ?_
      refine e_naM (e := sI μ k3 (Int32.toNatClampNeg (x3 + x4)) (μ.1 k1 (Int32.toNatClampNeg (x1 + x4)))) h (fun μ4 eμ4 h => ?_)
      refine e_iincN 4 (1 : Int32) dX8_copies_22 rfl ci_1 h (fun y9 => [some (.ref k1), some (.int x1), some (.ref k3), some (.int x3), some (.int y9)]) (fun _ => rfl) (fun v5 ev5 h => ?_)
      refine e_goto (tgt := 3) dX8_copies_25 rfl ?_
      exact e_le (ih x1 x3 v5 μ4 _ (by omega) h) ⟨rfl, rfl, rfl, rfl, rfl, trivial⟩
set_option maxHeartbeats 4000000 in
theorem b_X8_copies : ∀ as μ r μ', Γ_X8_copies as μ r μ' → (elvL as).length ≤ 5 ∧ G mX8_copies (Qe r μ') 0 (elv as 5) [] μ 0 := by
  intro as μ r μ' h
  obtain ⟨k1, a1, k3, a3, rfl, ho1, ho3, h⟩ := h
  refine ⟨Nat.le_of_ble_eq_true rfl, ?_⟩
  show G mX8_copies (Qe r μ') 0 [some (.ref k1), some (.int a1), some (.ref k3), some (.int a3), none] [] μ 0
  unfold F_X8_copies at h
  have hb9 : 0 ≤ 0 := Nat.le_refl _
  refine e_iconst dX8_copies_0 ci_0 ?_
  refine e_istoreL [some (.ref k1), some (.int a1), some (.ref k3), some (.int a3), some (.int (0 : Int32))] dX8_copies_1 (Nat.le_of_ble_eq_true rfl) rfl ?_
  exact e_le (g_X8_copies_3 k1 k3 ho1 ho3 BIG a1 a3 (0 : Int32) μ _ (by omega) h) ⟨rfl, rfl, rfl, rfl, rfl, trivial⟩
set_option maxRecDepth 20000 in
theorem ok_X8_copies (l : Launch) (hl : l.stackTraces = false) : MOK l yX8_copies.cls 1 0 mX8_copies := ⟨lk_all (nil_all), fun ix ci j h => lk_all (P := fun ix q => FldOK yX8_copies.cls ix q.1 q.2) (nil_all) ix (ci, j) h, lk_all (nil_all), lk_all (nil_all), lk_all (nil_all)⟩
theorem hd_X8_copies : CallHd yX8_copies 4 := ⟨by decide +kernel, by decide +kernel, by decide +kernel⟩
theorem sc_X8_copies (l : Launch) (hl : l.stackTraces = false) : SCon l yX8_copies cX8_copies 5 none 1 0 0 Γ_X8_copies := scon_of mX8_copies cls_ok hl (by decide +kernel) rfl rfl (ok_X8_copies l hl) rfl rfl b_X8_copies
def f_X8_differsBy_43 (k4 : Int32 → Int32 → Mem → Out) (k14 : Int32 → Int32 → Int32 → Mem → Out) (x2 : Int32) (x3 : Int32) (s0 : Int32) (s1 : Int32) (μ : Mem) : Out := cI (F_X8_isFilled x2 x3 μ) (fun v20 μ17 => if s0 = v20 then (lt (s1 + (0 : Int32)) (fun v24 => lt (x3 + (1 : Int32)) (fun v25 => k14 v24 x2 v25 μ17))) else (lt (s1 + (1 : Int32)) (fun v22 => lt (x3 + (1 : Int32)) (fun v23 => k14 v22 x2 v23 μ17))))
def f_X8_differsBy_14 (k4 : Int32 → Int32 → Mem → Out) : Nat → Int32 → Int32 → Int32 → Mem → Out
  | 0, _, _, _, _ => none
  | n + 1, x1, x2, x3, μ => cI (F_X8_columns μ) (fun v11 μ8 => if v11 ≤ x3 then (lt (x2 + (1 : Int32)) (fun v13 => k4 x1 v13 μ8)) else (ck (inb (((6 : Int32) * x2) + x3) 36) (if (μ8.1 44 (Int32.toNatClampNeg (((6 : Int32) * x2) + x3))) = (1 : Int32) then (f_X8_differsBy_43 k4 (f_X8_differsBy_14 k4 n) x2 x3 (1 : Int32) x1 μ8) else (f_X8_differsBy_43 k4 (f_X8_differsBy_14 k4 n) x2 x3 (0 : Int32) x1 μ8))))
def f_X8_differsBy_4 : Nat → Int32 → Int32 → Mem → Out
  | 0, _, _, _ => none
  | n + 1, x1, x2, μ => cI (F_X8_rows μ) (fun v5 μ2 => if v5 ≤ x2 then (rI x1 μ2) else (f_X8_differsBy_14 (f_X8_differsBy_4 n) BIG x1 x2 (0 : Int32) μ2))
def F_X8_differsBy (μ : Mem) : Out := f_X8_differsBy_4 BIG (0 : Int32) (0 : Int32) μ
def Γ_X8_differsBy : Gam := fun as μ r μ' => as = [.ref 29] ∧ F_X8_differsBy μ = some (r, μ')
def mX8_differsBy : MI := (cX8_differsBy, [(76, (1, 0, 0, 6, Γ_X8_rows)), (84, (1, 0, 0, 6, Γ_X8_columns)), (98, (1, 2, 0, 6, Γ_X8_isFilled))], [(53, 6, 18)], [], [], [], [], none, (some .int))
set_option maxHeartbeats 4000000 in
theorem g_X8_differsBy_43 {r : Res} {μ' : Mem} {k4 : Int32 → Int32 → Mem → Out} {k14 : Int32 → Int32 → Int32 → Mem → Out} (hk4 : ∀ (x1 : Int32) (x2 : Int32), ∀ (μ : Mem) (b : Nat), 0 ≤ b → k4 x1 x2 μ = some (r, μ') → G mX8_differsBy (Qe r μ') 4 [some (.ref 29), some (.int x1), some (.int x2), none] [] μ b) (hk14 : ∀ (x1 : Int32) (x2 : Int32) (x3 : Int32), ∀ (μ : Mem) (b : Nat), 0 ≤ b → k14 x1 x2 x3 μ = some (r, μ') → G mX8_differsBy (Qe r μ') 14 [some (.ref 29), some (.int x1), some (.int x2), some (.int x3)] [] μ b) : ∀ (x2 : Int32) (x3 : Int32) (s0 : Int32) (s1 : Int32), ∀ (μ : Mem) (b : Nat), 0 ≤ b → f_X8_differsBy_43 k4 k14 x2 x3 s0 s1 μ = some (r, μ') → G mX8_differsBy (Qe r μ') 43 [some (.ref 29), none, some (.int x2), some (.int x3)] [.int s0, .int s1] μ b := by
  intro x2 x3 s0 s1 μ b hb9 h
  unfold f_X8_differsBy_43 at h
  refine e_aload_n dX8_differsBy_43 rfl ?_
  refine e_iload_n dX8_differsBy_44 rfl ?_
  refine e_iload_n dX8_differsBy_45 rfl ?_
  refine cI_go h (fun E18 hc16 hr19 => e_VX [.int x2, .int x3] [.int s0, .int s1] dX8_differsBy_46 rfl rfl rfl rfl (by decide) (Nat.le_of_ble_eq_true rfl) (by omega) ⟨x2, x3, rfl, hc16⟩ rfl ⟨hr19.symm, rfl⟩) (fun v20 μ17 hc16 h => ?_)
  refine e_VI [.int x2, .int x3] [.int s0, .int s1] dX8_differsBy_46 rfl rfl rfl rfl (by decide) (Nat.le_of_ble_eq_true rfl) (by omega) ⟨x2, x3, rfl, hc16⟩ ?_
  refine e_ic_ne (tgt := 56) dX8_differsBy_49 rfl (fun hc21 => ?_) (fun hc21 => ?_)
  · rw [if_neg hc21] at h
    refine e_iconst dX8_differsBy_56 ci_1 ?_
    refine e_iadd dX8_differsBy_57 ?_
    refine e_naI h (fun v22 ev22 h => ?_)
    refine e_istore_nL [some (.ref 29), some (.int v22), some (.int x2), some (.int x3)] dX8_differsBy_58 (Nat.le_of_ble_eq_true rfl) rfl ?_
    refine e_iincN 3 (1 : Int32) dX8_differsBy_59 rfl ci_1 h (fun y9 => [some (.ref 29), some (.int v22), some (.int x2), some (.int y9)]) (fun _ => rfl) (fun v23 ev23 h => ?_)
    refine e_goto (tgt := 14) dX8_differsBy_62 rfl ?_
    exact e_le (hk14 v22 x2 v23 μ17 _ (by omega) h) ⟨rfl, rfl, rfl, rfl, trivial⟩
  · rw [if_pos hc21] at h
    refine e_iconst dX8_differsBy_52 ci_0 ?_
    refine e_goto (tgt := 57) dX8_differsBy_53 rfl ?_
    refine e_iadd dX8_differsBy_57 ?_
    refine e_naI h (fun v24 ev24 h => ?_)
    refine e_istore_nL [some (.ref 29), some (.int v24), some (.int x2), some (.int x3)] dX8_differsBy_58 (Nat.le_of_ble_eq_true rfl) rfl ?_
    refine e_iincN 3 (1 : Int32) dX8_differsBy_59 rfl ci_1 h (fun y9 => [some (.ref 29), some (.int v24), some (.int x2), some (.int y9)]) (fun _ => rfl) (fun v25 ev25 h => ?_)
    refine e_goto (tgt := 14) dX8_differsBy_62 rfl ?_
    exact e_le (hk14 v24 x2 v25 μ17 _ (by omega) h) ⟨rfl, rfl, rfl, rfl, trivial⟩
set_option maxHeartbeats 4000000 in
theorem g_X8_differsBy_14 {r : Res} {μ' : Mem} {k4 : Int32 → Int32 → Mem → Out} (hk4 : ∀ (x1 : Int32) (x2 : Int32), ∀ (μ : Mem) (b : Nat), 0 ≤ b → k4 x1 x2 μ = some (r, μ') → G mX8_differsBy (Qe r μ') 4 [some (.ref 29), some (.int x1), some (.int x2), none] [] μ b) : ∀ n : Nat, ∀ (x1 : Int32) (x2 : Int32) (x3 : Int32), ∀ (μ : Mem) (b : Nat), 0 ≤ b → f_X8_differsBy_14 k4 n x1 x2 x3 μ = some (r, μ') → G mX8_differsBy (Qe r μ') 14 [some (.ref 29), some (.int x1), some (.int x2), some (.int x3)] [] μ b := by
  intro n
  induction n with
  | zero => intro x1 x2 x3 μ b hb9 h; exact nomatch (show (none : Out) = some _ from h)
  | succ n ih =>
    intro x1 x2 x3 μ b hb9 h
    rw [f_X8_differsBy_14.eq_2] at h
    refine e_iload_n dX8_differsBy_14 rfl ?_
    refine e_aload_n dX8_differsBy_15 rfl ?_
    refine cI_go h (fun E9 hc7 hr10 => e_VX [] [.int x3] dX8_differsBy_16 rfl rfl rfl rfl (by decide) (Nat.le_of_ble_eq_true rfl) (by omega) ⟨rfl, hc7⟩ rfl ⟨hr10.symm, rfl⟩) (fun v11 μ8 hc7 h => ?_)
    refine e_VI [] [.int x3] dX8_differsBy_16 rfl rfl rfl rfl (by decide) (Nat.le_of_ble_eq_true rfl) (by omega) ⟨rfl, hc7⟩ ?_
    refine e_ic_ge (tgt := 65) dX8_differsBy_19 rfl (fun hc12 => ?_) (fun hc12 => ?_)
    · rw [if_pos hc12] at h
      refine e_iincN 2 (1 : Int32) dX8_differsBy_65 rfl ci_1 h (fun y9 => [some (.ref 29), some (.int x1), some (.int y9), some (.int x3)]) (fun _ => rfl) (fun v13 ev13 h => ?_)
      refine e_goto (tgt := 4) dX8_differsBy_68 rfl ?_
      exact e_le (hk4 x1 v13 μ8 _ (by omega) h) ⟨rfl, rfl, rfl, trivial⟩
    · rw [if_neg hc12] at h
      refine e_iload_n dX8_differsBy_22 rfl ?_
      refine e_aload_n dX8_differsBy_23 rfl ?_
      refine e_get (ci := 6) (j := 18) (t := 2) (v := .ref 44) dX8_differsBy_24 rfl (by decide) rfl rfl rfl ?_
      refine e_bipush dX8_differsBy_27 cb_6 ?_
      refine e_iload_n dX8_differsBy_29 rfl ?_
      refine e_imul dX8_differsBy_30 ?_
      refine e_iload_n dX8_differsBy_31 rfl ?_
      refine e_iadd dX8_differsBy_32 ?_
      obtain ⟨hc14, h⟩ := ck_eq h
      refine e_ialoadL (μ8.1 44 (Int32.toNatClampNeg (((6 : Int32) * x2) + x3))) (n := 36) dX8_differsBy_33 (by decide) rfl hc14 rfl ?_
      refine e_iconst dX8_differsBy_34 ci_1 ?_
      refine e_ic_ne (tgt := 42) dX8_differsBy_35 rfl (fun hc15 => ?_) (fun hc15 => ?_)
      · rw [if_neg hc15] at h
        refine e_iconst dX8_differsBy_42 ci_0 ?_
        exact e_le (g_X8_differsBy_43 hk4 ih x2 x3 (0 : Int32) x1 μ8 _ (by omega) h) ⟨rfl, rfl, rfl, trivial⟩
      · rw [if_pos hc15] at h
        refine e_iconst dX8_differsBy_38 ci_1 ?_
        refine e_goto (tgt := 43) dX8_differsBy_39 rfl ?_
        exact e_le (g_X8_differsBy_43 hk4 ih x2 x3 (1 : Int32) x1 μ8 _ (by omega) h) ⟨rfl, rfl, rfl, trivial⟩
set_option maxHeartbeats 4000000 in
theorem g_X8_differsBy_4 {r : Res} {μ' : Mem} : ∀ n : Nat, ∀ (x1 : Int32) (x2 : Int32), ∀ (μ : Mem) (b : Nat), 0 ≤ b → f_X8_differsBy_4 n x1 x2 μ = some (r, μ') → G mX8_differsBy (Qe r μ') 4 [some (.ref 29), some (.int x1), some (.int x2), none] [] μ b := by
  intro n
  induction n with
  | zero => intro x1 x2 μ b hb9 h; exact nomatch (show (none : Out) = some _ from h)
  | succ n ih =>
    intro x1 x2 μ b hb9 h
    rw [f_X8_differsBy_4.eq_2] at h
    refine e_iload_n dX8_differsBy_4 rfl ?_
    refine e_aload_n dX8_differsBy_5 rfl ?_
    refine cI_go h (fun E3 hc1 hr4 => e_VX [] [.int x2] dX8_differsBy_6 rfl rfl rfl rfl (by decide) (Nat.le_of_ble_eq_true rfl) (by omega) ⟨rfl, hc1⟩ rfl ⟨hr4.symm, rfl⟩) (fun v5 μ2 hc1 h => ?_)
    refine e_VI [] [.int x2] dX8_differsBy_6 rfl rfl rfl rfl (by decide) (Nat.le_of_ble_eq_true rfl) (by omega) ⟨rfl, hc1⟩ ?_
    refine e_ic_ge (tgt := 71) dX8_differsBy_9 rfl (fun hc6 => ?_) (fun hc6 => ?_)
    · rw [if_pos hc6] at h
      refine e_iload_n dX8_differsBy_71 rfl ?_
      exact e_iret .int dX8_differsBy_72 rfl rfl (ret_eq h)
    · rw [if_neg hc6] at h
      refine e_iconst dX8_differsBy_12 ci_0 ?_
      refine e_istore_nL [some (.ref 29), some (.int x1), some (.int x2), some (.int (0 : Int32))] dX8_differsBy_13 (Nat.le_of_ble_eq_true rfl) rfl ?_
      exact e_le (g_X8_differsBy_14 ih BIG x1 x2 (0 : Int32) μ2 _ (by omega) h) ⟨rfl, rfl, rfl, rfl, trivial⟩
set_option maxHeartbeats 4000000 in
theorem b_X8_differsBy : ∀ as μ r μ', Γ_X8_differsBy as μ r μ' → (elvL as).length ≤ 4 ∧ G mX8_differsBy (Qe r μ') 0 (elv as 4) [] μ 0 := by
  intro as μ r μ' h
  obtain ⟨rfl, h⟩ := h
  refine ⟨Nat.le_of_ble_eq_true rfl, ?_⟩
  show G mX8_differsBy (Qe r μ') 0 [some (.ref 29), none, none, none] [] μ 0
  unfold F_X8_differsBy at h
  have hb9 : 0 ≤ 0 := Nat.le_refl _
  refine e_iconst dX8_differsBy_0 ci_0 ?_
  refine e_istore_nL [some (.ref 29), some (.int (0 : Int32)), none, none] dX8_differsBy_1 (Nat.le_of_ble_eq_true rfl) rfl ?_
  refine e_iconst dX8_differsBy_2 ci_0 ?_
  refine e_istore_nL [some (.ref 29), some (.int (0 : Int32)), some (.int (0 : Int32)), none] dX8_differsBy_3 (Nat.le_of_ble_eq_true rfl) rfl ?_
  exact e_le (g_X8_differsBy_4 BIG (0 : Int32) (0 : Int32) μ _ (by omega) h) ⟨rfl, rfl, rfl, trivial⟩
set_option maxRecDepth 20000 in
theorem ok_X8_differsBy (l : Launch) (hl : l.stackTraces = false) : MOK l yX8_differsBy.cls 2 22 mX8_differsBy := ⟨lk_all (List.forall_mem_cons.mpr ⟨⟨yX8_rows, cX8_rows, 1, (some .int), 1, 0, by decide, by decide, t_1 7 rfl rfl, hd_X8_rows, Or.inr (Or.inl ⟨rfl, sc_X8_rows l hl, t_5 45 rfl rfl, t_5 42 rfl rfl, t_5 44 rfl rfl, _, rfl, t_p 35 rfl⟩)⟩, List.forall_mem_cons.mpr ⟨⟨yX8_columns, cX8_columns, 1, (some .int), 1, 0, by decide, by decide, t_1 7 rfl rfl, hd_X8_columns, Or.inr (Or.inl ⟨rfl, sc_X8_columns l hl, t_5 49 rfl rfl, t_5 46 rfl rfl, t_5 48 rfl rfl, _, rfl, t_p 36 rfl⟩)⟩, List.forall_mem_cons.mpr ⟨⟨yX8_isFilled, cX8_isFilled, 3, (some .boolean), 1, 0, by decide, by decide, t_1 7 rfl rfl, hd_X8_isFilled, Or.inr (Or.inl ⟨rfl, sc_X8_isFilled l hl, t_5 73 rfl rfl, t_5 70 rfl rfl, t_5 72 rfl rfl, _, rfl, t_p 42 rfl⟩)⟩, nil_all⟩⟩⟩), fun ix ci j h => lk_all (P := fun ix q => FldOK yX8_differsBy.cls ix q.1 q.2) (List.forall_mem_cons.mpr ⟨⟨_, rfl, by decide, t_4 196 rfl rfl⟩, nil_all⟩) ix (ci, j) h, lk_all (nil_all), lk_all (nil_all), lk_all (nil_all)⟩
theorem hd_X8_differsBy : CallHd yX8_differsBy 0 := ⟨by decide +kernel, by decide +kernel, by decide +kernel⟩
theorem sc_X8_differsBy (l : Launch) (hl : l.stackTraces = false) : SCon l yX8_differsBy cX8_differsBy 4 (some .int) 2 22 0 Γ_X8_differsBy := scon_of mX8_differsBy cls_ok hl (by decide +kernel) rfl rfl (ok_X8_differsBy l hl) rfl rfl b_X8_differsBy
def f_X8_gives_67 (k11 : Int32 → Int32 → Mem → Out) (x2 : Int32) (x3 : Int32) (x4 : Int32) (s0 : Int32) (s1 : Int32) (μ : Mem) : Out := ck (inb s1 36) (lt (sI μ 37 (Int32.toNatClampNeg s1) s0) (fun μ36 => cI (F_X8_canFit μ36) (fun v41 μ38 => if v41 = 0 then (ck (inb x4 36) (ck (inb x4 36) (lt (sI μ38 37 (Int32.toNatClampNeg x4) ((1 : Int32) - (μ38.1 37 (Int32.toNatClampNeg x4)))) (fun μ45 => lt (x3 + (1 : Int32)) (fun v46 => k11 x2 v46 μ45))))) else (ck (inb x4 36) (ck (inb x4 36) (lt (sI μ38 37 (Int32.toNatClampNeg x4) (μ38.1 37 (Int32.toNatClampNeg x4))) (fun μ49 => lt (x3 + (1 : Int32)) (fun v50 => k11 x2 v50 μ49))))))))
def f_X8_gives_11 : Nat → Int32 → Int32 → Mem → Out
  | 0, _, _, _ => none
  | n + 1, x2, x3, μ => cI (F_X8_rows μ) (fun v11 μ8 => cI (F_X8_columns μ8) (fun v16 μ13 => if (v11 * v16) ≤ x3 then (rI (1 : Int32) μ13) else (cI (F_X8_columns μ13) (fun v22 μ19 => ck (¬ v22 = 0) (cI (F_X8_columns μ19) (fun v28 μ25 => ck (¬ v28 = 0) (lt (((6 : Int32) * (x3 / v22)) + (remI x3 v28)) (fun v30 => ck (inb v30 36) (if 0 ≤ (μ25.1 37 (Int32.toNatClampNeg v30)) then (lt (x3 + (1 : Int32)) (fun v33 => f_X8_gives_11 n x2 v33 μ25)) else (if x2 = 0 then (f_X8_gives_67 (f_X8_gives_11 n) x2 x3 v30 (0 : Int32) v30 μ25) else (f_X8_gives_67 (f_X8_gives_11 n) x2 x3 v30 (1 : Int32) v30 μ25)))))))))))
def F_X8_gives (a0 : Int32) (a1 : Int32) (μ : Mem) : Out := cI (F_X8_canFit μ) (fun v5 μ2 => if v5 = 0 then (rI (0 : Int32) μ2) else (f_X8_gives_11 BIG a1 a0 μ2))
def Γ_X8_gives : Gam := fun as μ r μ' => ∃ (a0 : Int32) (a1 : Int32), as = [.ref 29, .int a0, .int a1] ∧ F_X8_gives a0 a1 μ = some (r, μ')
def mX8_gives : MI := (cX8_gives, [(76, (1, 0, 0, 6, Γ_X8_rows)), (84, (1, 0, 0, 6, Γ_X8_columns)), (163, (1, 0, 0, 6, Γ_X8_canFit))], [(32, 6, 11)], [], [], [], [], none, (some .boolean))
set_option maxHeartbeats 4000000 in
theorem g_X8_gives_67 {r : Res} {μ' : Mem} {k11 : Int32 → Int32 → Mem → Out} (hk11 : ∀ (x2 : Int32) (x3 : Int32), ∀ (μ : Mem) (b : Nat), 0 ≤ b → k11 x2 x3 μ = some (r, μ') → G mX8_gives (Qe r μ') 11 [some (.ref 29), none, some (.int x2), some (.int x3), none] [] μ b) : ∀ (x2 : Int32) (x3 : Int32) (x4 : Int32) (s0 : Int32) (s1 : Int32), ∀ (μ : Mem) (b : Nat), 0 ≤ b → f_X8_gives_67 k11 x2 x3 x4 s0 s1 μ = some (r, μ') → G mX8_gives (Qe r μ') 67 [some (.ref 29), none, some (.int x2), some (.int x3), some (.int x4)] [.int s0, .int s1, .ref 37] μ b := by
  intro x2 x3 x4 s0 s1 μ b hb9 h
  unfold f_X8_gives_67 at h
  obtain ⟨hc35, h⟩ := ck_eq h
  refine e_iastore (n := 36) dX8_gives_67 (by decide) rfl hc35 ?_
  refine e_naM (e := sI μ 37 (Int32.toNatClampNeg s1) s0) h (fun μ36 eμ36 h => ?_)
  refine e_aload_n dX8_gives_68 rfl ?_
  refine e_get (ci := 6) (j := 11) (t := 2) (v := .ref 37) dX8_gives_69 rfl (by decide) rfl rfl rfl ?_
  refine e_iload dX8_gives_72 rfl ?_
  refine e_aload_n dX8_gives_74 rfl ?_
  refine cI_go h (fun E39 hc37 hr40 => e_VX [] [.int x4, .ref 37] dX8_gives_75 rfl rfl rfl rfl (by decide) (Nat.le_of_ble_eq_true rfl) (by omega) ⟨rfl, hc37⟩ rfl ⟨hr40.symm, rfl⟩) (fun v41 μ38 hc37 h => ?_)
  refine e_VI [] [.int x4, .ref 37] dX8_gives_75 rfl rfl rfl rfl (by decide) (Nat.le_of_ble_eq_true rfl) (by omega) ⟨rfl, hc37⟩ ?_
  refine e_if_eq (tgt := 91) dX8_gives_78 rfl (fun hc42 => ?_) (fun hc42 => ?_)
  · rw [if_pos hc42] at h
    refine e_iconst dX8_gives_91 ci_1 ?_
    refine e_aload_n dX8_gives_92 rfl ?_
    refine e_get (ci := 6) (j := 11) (t := 2) (v := .ref 37) dX8_gives_93 rfl (by decide) rfl rfl rfl ?_
    refine e_iload dX8_gives_96 rfl ?_
    obtain ⟨hc43, h⟩ := ck_eq h
    refine e_ialoadL (μ38.1 37 (Int32.toNatClampNeg x4)) (n := 36) dX8_gives_98 (by decide) rfl hc43 rfl ?_
    refine e_isub dX8_gives_99 ?_
    obtain ⟨hc44, h⟩ := ck_eq h
    refine e_iastore (n := 36) dX8_gives_100 (by decide) rfl hc44 ?_
    refine e_naM (e := sI μ38 37 (Int32.toNatClampNeg x4) ((1 : Int32) - (μ38.1 37 (Int32.toNatClampNeg x4)))) h (fun μ45 eμ45 h => ?_)
    refine e_iincN 3 (1 : Int32) dX8_gives_101 rfl ci_1 h (fun y9 => [some (.ref 29), none, some (.int x2), some (.int y9), some (.int x4)]) (fun _ => rfl) (fun v46 ev46 h => ?_)
    refine e_goto (tgt := 11) dX8_gives_104 rfl ?_
    exact e_le (hk11 x2 v46 μ45 _ (by omega) h) ⟨rfl, rfl, rfl, trivial⟩
  · rw [if_neg hc42] at h
    refine e_aload_n dX8_gives_81 rfl ?_
    refine e_get (ci := 6) (j := 11) (t := 2) (v := .ref 37) dX8_gives_82 rfl (by decide) rfl rfl rfl ?_
    refine e_iload dX8_gives_85 rfl ?_
    obtain ⟨hc47, h⟩ := ck_eq h
    refine e_ialoadL (μ38.1 37 (Int32.toNatClampNeg x4)) (n := 36) dX8_gives_87 (by decide) rfl hc47 rfl ?_
    refine e_goto (tgt := 100) dX8_gives_88 rfl ?_
    obtain ⟨hc48, h⟩ := ck_eq h
    refine e_iastore (n := 36) dX8_gives_100 (by decide) rfl hc48 ?_
    refine e_naM (e := sI μ38 37 (Int32.toNatClampNeg x4) (μ38.1 37 (Int32.toNatClampNeg x4))) h (fun μ49 eμ49 h => ?_)
    refine e_iincN 3 (1 : Int32) dX8_gives_101 rfl ci_1 h (fun y9 => [some (.ref 29), none, some (.int x2), some (.int y9), some (.int x4)]) (fun _ => rfl) (fun v50 ev50 h => ?_)
    refine e_goto (tgt := 11) dX8_gives_104 rfl ?_
    exact e_le (hk11 x2 v50 μ49 _ (by omega) h) ⟨rfl, rfl, rfl, trivial⟩
set_option maxHeartbeats 4000000 in
theorem g_X8_gives_11 {r : Res} {μ' : Mem} : ∀ n : Nat, ∀ (x2 : Int32) (x3 : Int32), ∀ (μ : Mem) (b : Nat), 0 ≤ b → f_X8_gives_11 n x2 x3 μ = some (r, μ') → G mX8_gives (Qe r μ') 11 [some (.ref 29), none, some (.int x2), some (.int x3), none] [] μ b := by
  intro n
  induction n with
  | zero => intro x2 x3 μ b hb9 h; exact nomatch (show (none : Out) = some _ from h)
  | succ n ih =>
    intro x2 x3 μ b hb9 h
    rw [f_X8_gives_11.eq_2] at h
    refine e_iload_n dX8_gives_11 rfl ?_
    refine e_aload_n dX8_gives_12 rfl ?_
    refine cI_go h (fun E9 hc7 hr10 => e_VX [] [.int x3] dX8_gives_13 rfl rfl rfl rfl (by decide) (Nat.le_of_ble_eq_true rfl) (by omega) ⟨rfl, hc7⟩ rfl ⟨hr10.symm, rfl⟩) (fun v11 μ8 hc7 h => ?_)
    refine e_VI [] [.int x3] dX8_gives_13 rfl rfl rfl rfl (by decide) (Nat.le_of_ble_eq_true rfl) (by omega) ⟨rfl, hc7⟩ ?_
    refine e_aload_n dX8_gives_16 rfl ?_
    refine cI_go h (fun E14 hc12 hr15 => e_VX [] [.int v11, .int x3] dX8_gives_17 rfl rfl rfl rfl (by decide) (Nat.le_of_ble_eq_true rfl) (by omega) ⟨rfl, hc12⟩ rfl ⟨hr15.symm, rfl⟩) (fun v16 μ13 hc12 h => ?_)
    refine e_VI [] [.int v11, .int x3] dX8_gives_17 rfl rfl rfl rfl (by decide) (Nat.le_of_ble_eq_true rfl) (by omega) ⟨rfl, hc12⟩ ?_
    refine e_imul dX8_gives_20 ?_
    refine e_ic_ge (tgt := 107) dX8_gives_21 rfl (fun hc17 => ?_) (fun hc17 => ?_)
    · rw [if_pos hc17] at h
      refine e_iconst dX8_gives_107 ci_1 ?_
      exact e_iret .boolean dX8_gives_108 rfl rfl (ret_eq h)
    · rw [if_neg hc17] at h
      refine e_bipush dX8_gives_24 cb_6 ?_
      refine e_iload_n dX8_gives_26 rfl ?_
      refine e_aload_n dX8_gives_27 rfl ?_
      refine cI_go h (fun E20 hc18 hr21 => e_VX [] [.int x3, .int (6 : Int32)] dX8_gives_28 rfl rfl rfl rfl (by decide) (Nat.le_of_ble_eq_true rfl) (by omega) ⟨rfl, hc18⟩ rfl ⟨hr21.symm, rfl⟩) (fun v22 μ19 hc18 h => ?_)
      refine e_VI [] [.int x3, .int (6 : Int32)] dX8_gives_28 rfl rfl rfl rfl (by decide) (Nat.le_of_ble_eq_true rfl) (by omega) ⟨rfl, hc18⟩ ?_
      obtain ⟨hc23, h⟩ := ck_eq h
      refine e_idiv dX8_gives_31 hc23 ?_
      refine e_imul dX8_gives_32 ?_
      refine e_iload_n dX8_gives_33 rfl ?_
      refine e_aload_n dX8_gives_34 rfl ?_
      refine cI_go h (fun E26 hc24 hr27 => e_VX [] [.int x3, .int ((6 : Int32) * (x3 / v22))] dX8_gives_35 rfl rfl rfl rfl (by decide) (Nat.le_of_ble_eq_true rfl) (by omega) ⟨rfl, hc24⟩ rfl ⟨hr27.symm, rfl⟩) (fun v28 μ25 hc24 h => ?_)
      refine e_VI [] [.int x3, .int ((6 : Int32) * (x3 / v22))] dX8_gives_35 rfl rfl rfl rfl (by decide) (Nat.le_of_ble_eq_true rfl) (by omega) ⟨rfl, hc24⟩ ?_
      obtain ⟨hc29, h⟩ := ck_eq h
      refine e_irem dX8_gives_38 hc29 ?_
      refine e_iadd dX8_gives_39 ?_
      refine e_naI h (fun v30 ev30 h => ?_)
      refine e_istoreL [some (.ref 29), none, some (.int x2), some (.int x3), some (.int v30)] dX8_gives_40 (Nat.le_of_ble_eq_true rfl) rfl ?_
      refine e_aload_n dX8_gives_42 rfl ?_
      refine e_get (ci := 6) (j := 11) (t := 2) (v := .ref 37) dX8_gives_43 rfl (by decide) rfl rfl rfl ?_
      refine e_iload dX8_gives_46 rfl ?_
      obtain ⟨hc31, h⟩ := ck_eq h
      refine e_ialoadL (μ25.1 37 (Int32.toNatClampNeg v30)) (n := 36) dX8_gives_48 (by decide) rfl hc31 rfl ?_
      refine e_if_ge (tgt := 101) dX8_gives_49 rfl (fun hc32 => ?_) (fun hc32 => ?_)
      · rw [if_pos hc32] at h
        refine e_iincN 3 (1 : Int32) dX8_gives_101 rfl ci_1 h (fun y9 => [some (.ref 29), none, some (.int x2), some (.int y9), some (.int v30)]) (fun _ => rfl) (fun v33 ev33 h => ?_)
        refine e_goto (tgt := 11) dX8_gives_104 rfl ?_
        exact e_le (ih x2 v33 μ25 _ (by omega) h) ⟨rfl, rfl, rfl, trivial⟩
      · rw [if_neg hc32] at h
        refine e_aload_n dX8_gives_52 rfl ?_
        refine e_get (ci := 6) (j := 11) (t := 2) (v := .ref 37) dX8_gives_53 rfl (by decide) rfl rfl rfl ?_
        refine e_iload dX8_gives_56 rfl ?_
        refine e_iload_n dX8_gives_58 rfl ?_
        refine e_if_eq (tgt := 66) dX8_gives_59 rfl (fun hc34 => ?_) (fun hc34 => ?_)
        · rw [if_pos hc34] at h
          refine e_iconst dX8_gives_66 ci_0 ?_
          exact e_le (g_X8_gives_67 ih x2 x3 v30 (0 : Int32) v30 μ25 _ (by omega) h) ⟨rfl, rfl, rfl, rfl, trivial⟩
        · rw [if_neg hc34] at h
          refine e_iconst dX8_gives_62 ci_1 ?_
          refine e_goto (tgt := 67) dX8_gives_63 rfl ?_
          exact e_le (g_X8_gives_67 ih x2 x3 v30 (1 : Int32) v30 μ25 _ (by omega) h) ⟨rfl, rfl, rfl, rfl, trivial⟩
set_option maxHeartbeats 4000000 in
theorem b_X8_gives : ∀ as μ r μ', Γ_X8_gives as μ r μ' → (elvL as).length ≤ 5 ∧ G mX8_gives (Qe r μ') 0 (elv as 5) [] μ 0 := by
  intro as μ r μ' h
  obtain ⟨a0, a1, rfl, h⟩ := h
  refine ⟨Nat.le_of_ble_eq_true rfl, ?_⟩
  show G mX8_gives (Qe r μ') 0 [some (.ref 29), some (.int a0), some (.int a1), none, none] [] μ 0
  unfold F_X8_gives at h
  have hb9 : 0 ≤ 0 := Nat.le_refl _
  refine e_aload_n dX8_gives_0 rfl ?_
  refine cI_go h (fun E3 hc1 hr4 => e_VX [] [] dX8_gives_1 rfl rfl rfl rfl (by decide) (Nat.le_of_ble_eq_true rfl) (by omega) ⟨rfl, hc1⟩ rfl ⟨hr4.symm, rfl⟩) (fun v5 μ2 hc1 h => ?_)
  refine e_VI [] [] dX8_gives_1 rfl rfl rfl rfl (by decide) (Nat.le_of_ble_eq_true rfl) (by omega) ⟨rfl, hc1⟩ ?_
  refine e_if_ne (tgt := 9) dX8_gives_4 rfl (fun hc6 => ?_) (fun hc6 => ?_)
  · rw [if_neg hc6] at h
    refine e_iload_n dX8_gives_9 rfl ?_
    refine e_istore_nL [some (.ref 29), some (.int a0), some (.int a1), some (.int a0), none] dX8_gives_10 (Nat.le_of_ble_eq_true rfl) rfl ?_
    exact e_le (g_X8_gives_11 BIG a1 a0 μ2 _ (by omega) h) ⟨rfl, rfl, rfl, trivial⟩
  · rw [if_pos hc6] at h
    refine e_iconst dX8_gives_7 ci_0 ?_
    exact e_iret .boolean dX8_gives_8 rfl rfl (ret_eq h)
set_option maxRecDepth 20000 in
theorem ok_X8_gives (l : Launch) (hl : l.stackTraces = false) : MOK l yX8_gives.cls 5 92 mX8_gives := ⟨lk_all (List.forall_mem_cons.mpr ⟨⟨yX8_rows, cX8_rows, 1, (some .int), 1, 0, by decide, by decide, t_1 7 rfl rfl, hd_X8_rows, Or.inr (Or.inl ⟨rfl, sc_X8_rows l hl, t_5 45 rfl rfl, t_5 42 rfl rfl, t_5 44 rfl rfl, _, rfl, t_p 35 rfl⟩)⟩, List.forall_mem_cons.mpr ⟨⟨yX8_columns, cX8_columns, 1, (some .int), 1, 0, by decide, by decide, t_1 7 rfl rfl, hd_X8_columns, Or.inr (Or.inl ⟨rfl, sc_X8_columns l hl, t_5 49 rfl rfl, t_5 46 rfl rfl, t_5 48 rfl rfl, _, rfl, t_p 36 rfl⟩)⟩, List.forall_mem_cons.mpr ⟨⟨yX8_canFit, cX8_canFit, 5, (some .boolean), 4, 68, by decide, by decide, t_1 7 rfl rfl, hd_X8_canFit, Or.inr (Or.inl ⟨rfl, sc_X8_canFit l hl, t_5 173 rfl rfl, t_5 170 rfl rfl, t_5 172 rfl rfl, _, rfl, t_p 64 rfl⟩)⟩, nil_all⟩⟩⟩), fun ix ci j h => lk_all (P := fun ix q => FldOK yX8_gives.cls ix q.1 q.2) (List.forall_mem_cons.mpr ⟨⟨_, rfl, by decide, t_4 189 rfl rfl⟩, nil_all⟩) ix (ci, j) h, lk_all (nil_all), lk_all (nil_all), lk_all (nil_all)⟩
theorem hd_X8_gives : CallHd yX8_gives 2 := ⟨by decide +kernel, by decide +kernel, by decide +kernel⟩
theorem sc_X8_gives (l : Launch) (hl : l.stackTraces = false) : SCon l yX8_gives cX8_gives 5 (some .boolean) 5 92 0 Γ_X8_gives := scon_of mX8_gives cls_ok hl (by decide +kernel) rfl rfl (ok_X8_gives l hl) rfl rfl b_X8_gives
def f_X8_keepsGiven_2 : Nat → Int32 → Mem → Out
  | 0, _, _ => none
  | n + 1, x1, μ => if (36 : Int32) ≤ x1 then (rV μ) else (ck (inb x1 36) (ck (inb x1 36) (lt (sI μ 44 (Int32.toNatClampNeg x1) (μ.1 37 (Int32.toNatClampNeg x1))) (fun μ4 => lt (x1 + (1 : Int32)) (fun v5 => f_X8_keepsGiven_2 n v5 μ4)))))
def F_X8_keepsGiven (μ : Mem) : Out := f_X8_keepsGiven_2 BIG (0 : Int32) μ
def Γ_X8_keepsGiven : Gam := fun as μ r μ' => as = [.ref 29] ∧ F_X8_keepsGiven μ = some (r, μ')
def mX8_keepsGiven : MI := (cX8_keepsGiven, [], [(32, 6, 11), (53, 6, 18)], [], [], [], [], none, none)
set_option maxHeartbeats 4000000 in
theorem g_X8_keepsGiven_2 {r : Res} {μ' : Mem} : ∀ n : Nat, ∀ (x1 : Int32), ∀ (μ : Mem) (b : Nat), 0 ≤ b → f_X8_keepsGiven_2 n x1 μ = some (r, μ') → G mX8_keepsGiven (Qe r μ') 2 [some (.ref 29), some (.int x1)] [] μ b := by
  intro n
  induction n with
  | zero => intro x1 μ b hb9 h; exact nomatch (show (none : Out) = some _ from h)
  | succ n ih =>
    intro x1 μ b hb9 h
    rw [f_X8_keepsGiven_2.eq_2] at h
    refine e_iload_n dX8_keepsGiven_2 rfl ?_
    refine e_bipush dX8_keepsGiven_3 cb_36 ?_
    refine e_ic_ge (tgt := 26) dX8_keepsGiven_5 rfl (fun hc1 => ?_) (fun hc1 => ?_)
    · rw [if_pos hc1] at h
      exact e_vret dX8_keepsGiven_26 rfl (ret_eq h)
    · rw [if_neg hc1] at h
      refine e_aload_n dX8_keepsGiven_8 rfl ?_
      refine e_get (ci := 6) (j := 18) (t := 2) (v := .ref 44) dX8_keepsGiven_9 rfl (by decide) rfl rfl rfl ?_
      refine e_iload_n dX8_keepsGiven_12 rfl ?_
      refine e_aload_n dX8_keepsGiven_13 rfl ?_
      refine e_get (ci := 6) (j := 11) (t := 2) (v := .ref 37) dX8_keepsGiven_14 rfl (by decide) rfl rfl rfl ?_
      refine e_iload_n dX8_keepsGiven_17 rfl ?_
      obtain ⟨hc2, h⟩ := ck_eq h
      refine e_ialoadL (μ.1 37 (Int32.toNatClampNeg x1)) (n := 36) dX8_keepsGiven_18 (by decide) rfl hc2 rfl ?_
      obtain ⟨hc3, h⟩ := ck_eq h
      refine e_iastore (n := 36) dX8_keepsGiven_19 (by decide) rfl hc3 ?_
      refine e_naM (e := sI μ 44 (Int32.toNatClampNeg x1) (μ.1 37 (Int32.toNatClampNeg x1))) h (fun μ4 eμ4 h => ?_)
      refine e_iincN 1 (1 : Int32) dX8_keepsGiven_20 rfl ci_1 h (fun y9 => [some (.ref 29), some (.int y9)]) (fun _ => rfl) (fun v5 ev5 h => ?_)
      refine e_goto (tgt := 2) dX8_keepsGiven_23 rfl ?_
      exact e_le (ih v5 μ4 _ (by omega) h) ⟨rfl, rfl, trivial⟩
set_option maxHeartbeats 4000000 in
theorem b_X8_keepsGiven : ∀ as μ r μ', Γ_X8_keepsGiven as μ r μ' → (elvL as).length ≤ 2 ∧ G mX8_keepsGiven (Qe r μ') 0 (elv as 2) [] μ 0 := by
  intro as μ r μ' h
  obtain ⟨rfl, h⟩ := h
  refine ⟨Nat.le_of_ble_eq_true rfl, ?_⟩
  show G mX8_keepsGiven (Qe r μ') 0 [some (.ref 29), none] [] μ 0
  unfold F_X8_keepsGiven at h
  have hb9 : 0 ≤ 0 := Nat.le_refl _
  refine e_iconst dX8_keepsGiven_0 ci_0 ?_
  refine e_istore_nL [some (.ref 29), some (.int (0 : Int32))] dX8_keepsGiven_1 (Nat.le_of_ble_eq_true rfl) rfl ?_
  exact e_le (g_X8_keepsGiven_2 BIG (0 : Int32) μ _ (by omega) h) ⟨rfl, rfl, trivial⟩
set_option maxRecDepth 20000 in
theorem ok_X8_keepsGiven (l : Launch) (hl : l.stackTraces = false) : MOK l yX8_keepsGiven.cls 1 0 mX8_keepsGiven := ⟨lk_all (nil_all), fun ix ci j h => lk_all (P := fun ix q => FldOK yX8_keepsGiven.cls ix q.1 q.2) (List.forall_mem_cons.mpr ⟨⟨_, rfl, by decide, t_4 189 rfl rfl⟩, List.forall_mem_cons.mpr ⟨⟨_, rfl, by decide, t_4 196 rfl rfl⟩, nil_all⟩⟩) ix (ci, j) h, lk_all (nil_all), lk_all (nil_all), lk_all (nil_all)⟩
theorem hd_X8_keepsGiven : CallHd yX8_keepsGiven 0 := ⟨by decide +kernel, by decide +kernel, by decide +kernel⟩
theorem sc_X8_keepsGiven (l : Launch) (hl : l.stackTraces = false) : SCon l yX8_keepsGiven cX8_keepsGiven 2 none 1 0 0 Γ_X8_keepsGiven := scon_of mX8_keepsGiven cls_ok hl (by decide +kernel) rfl rfl (ok_X8_keepsGiven l hl) rfl rfl b_X8_keepsGiven
def f_X8_findsNext_70 (k14 : Int32 → Mem → Out) : Nat → Int32 → Int32 → Int32 → Mem → Out
  | 0, _, _, _, _ => none
  | n + 1, x2, x3, x4, μ => if x2 ≤ x4 then (ck (inb x3 36) (lt (sI μ 37 (Int32.toNatClampNeg x3) (1 : Int32)) (fun μ55 => cI (F_X8_gives (x2 + (1 : Int32)) (0 : Int32) μ55) (fun v60 μ57 => if v60 = 0 then (lt (x2 + (-1 : Int32)) (fun v62 => k14 v62 μ57)) else (cV (F_X8_keepsGiven μ57) (fun μ64 => rI (1 : Int32) μ64)))))) else (cI (F_X8_columns μ) (fun v71 μ68 => ck (¬ v71 = 0) (cI (F_X8_columns μ68) (fun v77 μ74 => ck (¬ v77 = 0) (lt (((6 : Int32) * (x4 / v71)) + (remI x4 v77)) (fun v79 => ck (inb v79 36) (ck (inb v79 36) (lt (sI μ74 37 (Int32.toNatClampNeg v79) (μ74.1 44 (Int32.toNatClampNeg v79))) (fun μ82 => lt (x4 + (1 : Int32)) (fun v83 => f_X8_findsNext_70 k14 n x2 x3 v83 μ82))))))))))
def f_X8_findsNext_14 : Nat → Int32 → Mem → Out
  | 0, _, _ => none
  | n + 1, x2, μ => if x2 < 0 then (rI (0 : Int32) μ) else (cI (F_X8_columns μ) (fun v18 μ15 => ck (¬ v18 = 0) (cI (F_X8_columns μ15) (fun v24 μ21 => ck (¬ v24 = 0) (lt (((6 : Int32) * (x2 / v18)) + (remI x2 v24)) (fun v26 => ck (inb v26 36) (if (μ21.1 44 (Int32.toNatClampNeg v26)) = 0 then (cI (F_X8_columns μ21) (fun v34 μ31 => ck (¬ v34 = 0) (cI (F_X8_columns μ31) (fun v40 μ37 => ck (¬ v40 = 0) (cI (F_X8_isPinned (x2 / v34) (remI x2 v40) μ37) (fun v46 μ43 => if v46 = 0 then (cV (F_X8_givesPins μ43) (fun μ50 => f_X8_findsNext_70 (f_X8_findsNext_14 n) BIG x2 v26 (0 : Int32) μ50)) else (lt (x2 + (-1 : Int32)) (fun v48 => f_X8_findsNext_14 n v48 μ43)))))))) else (lt (x2 + (-1 : Int32)) (fun v29 => f_X8_findsNext_14 n v29 μ21)))))))))
def F_X8_findsNext (μ : Mem) : Out := cI (F_X8_rows μ) (fun v5 μ2 => cI (F_X8_columns μ2) (fun v10 μ7 => lt (v5 * v10) (fun v11 => lt (v11 - (1 : Int32)) (fun v12 => f_X8_findsNext_14 BIG v12 μ7))))
def Γ_X8_findsNext : Gam := fun as μ r μ' => as = [.ref 29] ∧ F_X8_findsNext μ = some (r, μ')
def mX8_findsNext : MI := (cX8_findsNext, [(76, (1, 0, 0, 6, Γ_X8_rows)), (84, (1, 0, 0, 6, Γ_X8_columns)), (145, (1, 2, 0, 6, Γ_X8_isPinned)), (166, (1, 0, 0, 6, Γ_X8_givesPins)), (169, (1, 2, 0, 6, Γ_X8_gives)), (173, (1, 0, 0, 6, Γ_X8_keepsGiven))], [(32, 6, 11), (53, 6, 18)], [], [], [], [], none, (some .boolean))
set_option maxHeartbeats 4000000 in
theorem g_X8_findsNext_70 {r : Res} {μ' : Mem} {k14 : Int32 → Mem → Out} (hk14 : ∀ (x2 : Int32), ∀ (μ : Mem) (b : Nat), 0 ≤ b → k14 x2 μ = some (r, μ') → G mX8_findsNext (Qe r μ') 14 [some (.ref 29), none, some (.int x2), none, none, none] [] μ b) : ∀ n : Nat, ∀ (x2 : Int32) (x3 : Int32) (x4 : Int32), ∀ (μ : Mem) (b : Nat), 0 ≤ b → f_X8_findsNext_70 k14 n x2 x3 x4 μ = some (r, μ') → G mX8_findsNext (Qe r μ') 70 [some (.ref 29), none, some (.int x2), some (.int x3), some (.int x4), none] [] μ b := by
  intro n
  induction n with
  | zero => intro x2 x3 x4 μ b hb9 h; exact nomatch (show (none : Out) = some _ from h)
  | succ n ih =>
    intro x2 x3 x4 μ b hb9 h
    rw [f_X8_findsNext_70.eq_2] at h
    refine e_iload dX8_findsNext_70 rfl ?_
    refine e_iload_n dX8_findsNext_72 rfl ?_
    refine e_ic_ge (tgt := 116) dX8_findsNext_73 rfl (fun hc53 => ?_) (fun hc53 => ?_)
    · rw [if_pos hc53] at h
      refine e_aload_n dX8_findsNext_116 rfl ?_
      refine e_get (ci := 6) (j := 11) (t := 2) (v := .ref 37) dX8_findsNext_117 rfl (by decide) rfl rfl rfl ?_
      refine e_iload_n dX8_findsNext_120 rfl ?_
      refine e_iconst dX8_findsNext_121 ci_1 ?_
      obtain ⟨hc54, h⟩ := ck_eq h
      refine e_iastore (n := 36) dX8_findsNext_122 (by decide) rfl hc54 ?_
      refine e_naM (e := sI μ 37 (Int32.toNatClampNeg x3) (1 : Int32)) h (fun μ55 eμ55 h => ?_)
      refine e_aload_n dX8_findsNext_123 rfl ?_
      refine e_iload_n dX8_findsNext_124 rfl ?_
      refine e_iconst dX8_findsNext_125 ci_1 ?_
      refine e_iadd dX8_findsNext_126 ?_
      refine e_iconst dX8_findsNext_127 ci_0 ?_
      refine cI_go h (fun E58 hc56 hr59 => e_VX [.int (x2 + (1 : Int32)), .int (0 : Int32)] [] dX8_findsNext_128 rfl rfl rfl rfl (by decide) (Nat.le_of_ble_eq_true rfl) (by omega) ⟨x2 + (1 : Int32), (0 : Int32), rfl, hc56⟩ rfl ⟨hr59.symm, rfl⟩) (fun v60 μ57 hc56 h => ?_)
      refine e_VI [.int (x2 + (1 : Int32)), .int (0 : Int32)] [] dX8_findsNext_128 rfl rfl rfl rfl (by decide) (Nat.le_of_ble_eq_true rfl) (by omega) ⟨x2 + (1 : Int32), (0 : Int32), rfl, hc56⟩ ?_
      refine e_if_eq (tgt := 140) dX8_findsNext_131 rfl (fun hc61 => ?_) (fun hc61 => ?_)
      · rw [if_pos hc61] at h
        refine e_iincN 2 (-1 : Int32) dX8_findsNext_140 rfl ci_m1 h (fun y9 => [some (.ref 29), none, some (.int y9), some (.int x3), some (.int x4), none]) (fun _ => rfl) (fun v62 ev62 h => ?_)
        refine e_goto (tgt := 14) dX8_findsNext_143 rfl ?_
        exact e_le (hk14 v62 μ57 _ (by omega) h) ⟨rfl, rfl, trivial⟩
      · rw [if_neg hc61] at h
        refine e_aload_n dX8_findsNext_134 rfl ?_
        refine cV_go h (fun E65 hc63 hr66 => e_VX [] [] dX8_findsNext_135 rfl rfl rfl rfl (by decide) (Nat.le_of_ble_eq_true rfl) (by omega) ⟨rfl, hc63⟩ rfl ⟨hr66.symm, rfl⟩) (fun μ64 hc63 h => ?_)
        refine e_VV [] [] dX8_findsNext_135 rfl rfl rfl rfl (by decide) (Nat.le_of_ble_eq_true rfl) (by omega) ⟨rfl, hc63⟩ ?_
        refine e_iconst dX8_findsNext_138 ci_1 ?_
        exact e_iret .boolean dX8_findsNext_139 rfl rfl (ret_eq h)
    · rw [if_neg hc53] at h
      refine e_bipush dX8_findsNext_76 cb_6 ?_
      refine e_iload dX8_findsNext_78 rfl ?_
      refine e_aload_n dX8_findsNext_80 rfl ?_
      refine cI_go h (fun E69 hc67 hr70 => e_VX [] [.int x4, .int (6 : Int32)] dX8_findsNext_81 rfl rfl rfl rfl (by decide) (Nat.le_of_ble_eq_true rfl) (by omega) ⟨rfl, hc67⟩ rfl ⟨hr70.symm, rfl⟩) (fun v71 μ68 hc67 h => ?_)
      refine e_VI [] [.int x4, .int (6 : Int32)] dX8_findsNext_81 rfl rfl rfl rfl (by decide) (Nat.le_of_ble_eq_true rfl) (by omega) ⟨rfl, hc67⟩ ?_
      obtain ⟨hc72, h⟩ := ck_eq h
      refine e_idiv dX8_findsNext_84 hc72 ?_
      refine e_imul dX8_findsNext_85 ?_
      refine e_iload dX8_findsNext_86 rfl ?_
      refine e_aload_n dX8_findsNext_88 rfl ?_
      refine cI_go h (fun E75 hc73 hr76 => e_VX [] [.int x4, .int ((6 : Int32) * (x4 / v71))] dX8_findsNext_89 rfl rfl rfl rfl (by decide) (Nat.le_of_ble_eq_true rfl) (by omega) ⟨rfl, hc73⟩ rfl ⟨hr76.symm, rfl⟩) (fun v77 μ74 hc73 h => ?_)
      refine e_VI [] [.int x4, .int ((6 : Int32) * (x4 / v71))] dX8_findsNext_89 rfl rfl rfl rfl (by decide) (Nat.le_of_ble_eq_true rfl) (by omega) ⟨rfl, hc73⟩ ?_
      obtain ⟨hc78, h⟩ := ck_eq h
      refine e_irem dX8_findsNext_92 hc78 ?_
      refine e_iadd dX8_findsNext_93 ?_
      refine e_naI h (fun v79 ev79 h => ?_)
      refine e_istoreL [some (.ref 29), none, some (.int x2), some (.int x3), some (.int x4), some (.int v79)] dX8_findsNext_94 (Nat.le_of_ble_eq_true rfl) rfl ?_
      refine e_aload_n dX8_findsNext_96 rfl ?_
      refine e_get (ci := 6) (j := 11) (t := 2) (v := .ref 37) dX8_findsNext_97 rfl (by decide) rfl rfl rfl ?_
      refine e_iload dX8_findsNext_100 rfl ?_
      refine e_aload_n dX8_findsNext_102 rfl ?_
      refine e_get (ci := 6) (j := 18) (t := 2) (v := .ref 44) dX8_findsNext_103 rfl (by decide) rfl rfl rfl ?_
      refine e_iload dX8_findsNext_106 rfl ?_
      obtain ⟨hc80, h⟩ := ck_eq h
      refine e_ialoadL (μ74.1 44 (Int32.toNatClampNeg v79)) (n := 36) dX8_findsNext_108 (by decide) rfl hc80 rfl ?_
      obtain ⟨hc81, h⟩ := ck_eq h
      refine e_iastore (n := 36) dX8_findsNext_109 (by decide) rfl hc81 ?_
      refine e_naM (e := sI μ74 37 (Int32.toNatClampNeg v79) (μ74.1 44 (Int32.toNatClampNeg v79))) h (fun μ82 eμ82 h => ?_)
      refine e_iincN 4 (1 : Int32) dX8_findsNext_110 rfl ci_1 h (fun y9 => [some (.ref 29), none, some (.int x2), some (.int x3), some (.int y9), some (.int v79)]) (fun _ => rfl) (fun v83 ev83 h => ?_)
      refine e_goto (tgt := 70) dX8_findsNext_113 rfl ?_
      exact e_le (ih x2 x3 v83 μ82 _ (by omega) h) ⟨rfl, rfl, rfl, rfl, trivial⟩
set_option maxHeartbeats 4000000 in
theorem g_X8_findsNext_14 {r : Res} {μ' : Mem} : ∀ n : Nat, ∀ (x2 : Int32), ∀ (μ : Mem) (b : Nat), 0 ≤ b → f_X8_findsNext_14 n x2 μ = some (r, μ') → G mX8_findsNext (Qe r μ') 14 [some (.ref 29), none, some (.int x2), none, none, none] [] μ b := by
  intro n
  induction n with
  | zero => intro x2 μ b hb9 h; exact nomatch (show (none : Out) = some _ from h)
  | succ n ih =>
    intro x2 μ b hb9 h
    rw [f_X8_findsNext_14.eq_2] at h
    refine e_iload_n dX8_findsNext_14 rfl ?_
    refine e_if_lt (tgt := 146) dX8_findsNext_15 rfl (fun hc13 => ?_) (fun hc13 => ?_)
    · rw [if_pos hc13] at h
      refine e_iconst dX8_findsNext_146 ci_0 ?_
      exact e_iret .boolean dX8_findsNext_147 rfl rfl (ret_eq h)
    · rw [if_neg hc13] at h
      refine e_bipush dX8_findsNext_18 cb_6 ?_
      refine e_iload_n dX8_findsNext_20 rfl ?_
      refine e_aload_n dX8_findsNext_21 rfl ?_
      refine cI_go h (fun E16 hc14 hr17 => e_VX [] [.int x2, .int (6 : Int32)] dX8_findsNext_22 rfl rfl rfl rfl (by decide) (Nat.le_of_ble_eq_true rfl) (by omega) ⟨rfl, hc14⟩ rfl ⟨hr17.symm, rfl⟩) (fun v18 μ15 hc14 h => ?_)
      refine e_VI [] [.int x2, .int (6 : Int32)] dX8_findsNext_22 rfl rfl rfl rfl (by decide) (Nat.le_of_ble_eq_true rfl) (by omega) ⟨rfl, hc14⟩ ?_
      obtain ⟨hc19, h⟩ := ck_eq h
      refine e_idiv dX8_findsNext_25 hc19 ?_
      refine e_imul dX8_findsNext_26 ?_
      refine e_iload_n dX8_findsNext_27 rfl ?_
      refine e_aload_n dX8_findsNext_28 rfl ?_
      refine cI_go h (fun E22 hc20 hr23 => e_VX [] [.int x2, .int ((6 : Int32) * (x2 / v18))] dX8_findsNext_29 rfl rfl rfl rfl (by decide) (Nat.le_of_ble_eq_true rfl) (by omega) ⟨rfl, hc20⟩ rfl ⟨hr23.symm, rfl⟩) (fun v24 μ21 hc20 h => ?_)
      refine e_VI [] [.int x2, .int ((6 : Int32) * (x2 / v18))] dX8_findsNext_29 rfl rfl rfl rfl (by decide) (Nat.le_of_ble_eq_true rfl) (by omega) ⟨rfl, hc20⟩ ?_
      obtain ⟨hc25, h⟩ := ck_eq h
      refine e_irem dX8_findsNext_32 hc25 ?_
      refine e_iadd dX8_findsNext_33 ?_
      refine e_naI h (fun v26 ev26 h => ?_)
      refine e_istore_nL [some (.ref 29), none, some (.int x2), some (.int v26), none, none] dX8_findsNext_34 (Nat.le_of_ble_eq_true rfl) rfl ?_
      refine e_aload_n dX8_findsNext_35 rfl ?_
      refine e_get (ci := 6) (j := 18) (t := 2) (v := .ref 44) dX8_findsNext_36 rfl (by decide) rfl rfl rfl ?_
      refine e_iload_n dX8_findsNext_39 rfl ?_
      obtain ⟨hc27, h⟩ := ck_eq h
      refine e_ialoadL (μ21.1 44 (Int32.toNatClampNeg v26)) (n := 36) dX8_findsNext_40 (by decide) rfl hc27 rfl ?_
      refine e_if_ne (tgt := 140) dX8_findsNext_41 rfl (fun hc28 => ?_) (fun hc28 => ?_)
      · rw [if_neg hc28] at h
        refine e_iincN 2 (-1 : Int32) dX8_findsNext_140 rfl ci_m1 h (fun y9 => [some (.ref 29), none, some (.int y9), some (.int v26), none, none]) (fun _ => rfl) (fun v29 ev29 h => ?_)
        refine e_goto (tgt := 14) dX8_findsNext_143 rfl ?_
        exact e_le (ih v29 μ21 _ (by omega) h) ⟨rfl, rfl, trivial⟩
      · rw [if_pos hc28] at h
        refine e_aload_n dX8_findsNext_44 rfl ?_
        refine e_iload_n dX8_findsNext_45 rfl ?_
        refine e_aload_n dX8_findsNext_46 rfl ?_
        refine cI_go h (fun E32 hc30 hr33 => e_VX [] [.int x2, .ref 29] dX8_findsNext_47 rfl rfl rfl rfl (by decide) (Nat.le_of_ble_eq_true rfl) (by omega) ⟨rfl, hc30⟩ rfl ⟨hr33.symm, rfl⟩) (fun v34 μ31 hc30 h => ?_)
        refine e_VI [] [.int x2, .ref 29] dX8_findsNext_47 rfl rfl rfl rfl (by decide) (Nat.le_of_ble_eq_true rfl) (by omega) ⟨rfl, hc30⟩ ?_
        obtain ⟨hc35, h⟩ := ck_eq h
        refine e_idiv dX8_findsNext_50 hc35 ?_
        refine e_iload_n dX8_findsNext_51 rfl ?_
        refine e_aload_n dX8_findsNext_52 rfl ?_
        refine cI_go h (fun E38 hc36 hr39 => e_VX [] [.int x2, .int (x2 / v34), .ref 29] dX8_findsNext_53 rfl rfl rfl rfl (by decide) (Nat.le_of_ble_eq_true rfl) (by omega) ⟨rfl, hc36⟩ rfl ⟨hr39.symm, rfl⟩) (fun v40 μ37 hc36 h => ?_)
        refine e_VI [] [.int x2, .int (x2 / v34), .ref 29] dX8_findsNext_53 rfl rfl rfl rfl (by decide) (Nat.le_of_ble_eq_true rfl) (by omega) ⟨rfl, hc36⟩ ?_
        obtain ⟨hc41, h⟩ := ck_eq h
        refine e_irem dX8_findsNext_56 hc41 ?_
        refine cI_go h (fun E44 hc42 hr45 => e_VX [.int (x2 / v34), .int (remI x2 v40)] [] dX8_findsNext_57 rfl rfl rfl rfl (by decide) (Nat.le_of_ble_eq_true rfl) (by omega) ⟨x2 / v34, remI x2 v40, rfl, hc42⟩ rfl ⟨hr45.symm, rfl⟩) (fun v46 μ43 hc42 h => ?_)
        refine e_VI [.int (x2 / v34), .int (remI x2 v40)] [] dX8_findsNext_57 rfl rfl rfl rfl (by decide) (Nat.le_of_ble_eq_true rfl) (by omega) ⟨x2 / v34, remI x2 v40, rfl, hc42⟩ ?_
        refine e_if_ne (tgt := 140) dX8_findsNext_60 rfl (fun hc47 => ?_) (fun hc47 => ?_)
        · rw [if_neg hc47] at h
          refine e_iincN 2 (-1 : Int32) dX8_findsNext_140 rfl ci_m1 h (fun y9 => [some (.ref 29), none, some (.int y9), some (.int v26), none, none]) (fun _ => rfl) (fun v48 ev48 h => ?_)
          refine e_goto (tgt := 14) dX8_findsNext_143 rfl ?_
          exact e_le (ih v48 μ43 _ (by omega) h) ⟨rfl, rfl, trivial⟩
        · rw [if_pos hc47] at h
          refine e_aload_n dX8_findsNext_63 rfl ?_
          refine cV_go h (fun E51 hc49 hr52 => e_VX [] [] dX8_findsNext_64 rfl rfl rfl rfl (by decide) (Nat.le_of_ble_eq_true rfl) (by omega) ⟨rfl, hc49⟩ rfl ⟨hr52.symm, rfl⟩) (fun μ50 hc49 h => ?_)
          refine e_VV [] [] dX8_findsNext_64 rfl rfl rfl rfl (by decide) (Nat.le_of_ble_eq_true rfl) (by omega) ⟨rfl, hc49⟩ ?_
          refine e_iconst dX8_findsNext_67 ci_0 ?_
          refine e_istoreL [some (.ref 29), none, some (.int x2), some (.int v26), some (.int (0 : Int32)), none] dX8_findsNext_68 (Nat.le_of_ble_eq_true rfl) rfl ?_
          exact e_le (g_X8_findsNext_70 ih BIG x2 v26 (0 : Int32) μ50 _ (by omega) h) ⟨rfl, rfl, rfl, rfl, trivial⟩
set_option maxHeartbeats 4000000 in
theorem b_X8_findsNext : ∀ as μ r μ', Γ_X8_findsNext as μ r μ' → (elvL as).length ≤ 6 ∧ G mX8_findsNext (Qe r μ') 0 (elv as 6) [] μ 0 := by
  intro as μ r μ' h
  obtain ⟨rfl, h⟩ := h
  refine ⟨Nat.le_of_ble_eq_true rfl, ?_⟩
  show G mX8_findsNext (Qe r μ') 0 [some (.ref 29), none, none, none, none, none] [] μ 0
  unfold F_X8_findsNext at h
  have hb9 : 0 ≤ 0 := Nat.le_refl _
  refine e_aload_n dX8_findsNext_0 rfl ?_
  refine cI_go h (fun E3 hc1 hr4 => e_VX [] [] dX8_findsNext_1 rfl rfl rfl rfl (by decide) (Nat.le_of_ble_eq_true rfl) (by omega) ⟨rfl, hc1⟩ rfl ⟨hr4.symm, rfl⟩) (fun v5 μ2 hc1 h => ?_)
  refine e_VI [] [] dX8_findsNext_1 rfl rfl rfl rfl (by decide) (Nat.le_of_ble_eq_true rfl) (by omega) ⟨rfl, hc1⟩ ?_
  refine e_aload_n dX8_findsNext_4 rfl ?_
  refine cI_go h (fun E8 hc6 hr9 => e_VX [] [.int v5] dX8_findsNext_5 rfl rfl rfl rfl (by decide) (Nat.le_of_ble_eq_true rfl) (by omega) ⟨rfl, hc6⟩ rfl ⟨hr9.symm, rfl⟩) (fun v10 μ7 hc6 h => ?_)
  refine e_VI [] [.int v5] dX8_findsNext_5 rfl rfl rfl rfl (by decide) (Nat.le_of_ble_eq_true rfl) (by omega) ⟨rfl, hc6⟩ ?_
  refine e_imul dX8_findsNext_8 ?_
  refine e_naI h (fun v11 ev11 h => ?_)
  refine e_istore_nL [some (.ref 29), some (.int v11), none, none, none, none] dX8_findsNext_9 (Nat.le_of_ble_eq_true rfl) rfl ?_
  refine e_iload_n dX8_findsNext_10 rfl ?_
  refine e_iconst dX8_findsNext_11 ci_1 ?_
  refine e_isub dX8_findsNext_12 ?_
  refine e_naI h (fun v12 ev12 h => ?_)
  refine e_istore_nL [some (.ref 29), some (.int v11), some (.int v12), none, none, none] dX8_findsNext_13 (Nat.le_of_ble_eq_true rfl) rfl ?_
  exact e_le (g_X8_findsNext_14 BIG v12 μ7 _ (by omega) h) ⟨rfl, rfl, trivial⟩
set_option maxRecDepth 20000 in
theorem ok_X8_findsNext (l : Launch) (hl : l.stackTraces = false) : MOK l yX8_findsNext.cls 6 116 mX8_findsNext := ⟨lk_all (List.forall_mem_cons.mpr ⟨⟨yX8_rows, cX8_rows, 1, (some .int), 1, 0, by decide, by decide, t_1 7 rfl rfl, hd_X8_rows, Or.inr (Or.inl ⟨rfl, sc_X8_rows l hl, t_5 45 rfl rfl, t_5 42 rfl rfl, t_5 44 rfl rfl, _, rfl, t_p 35 rfl⟩)⟩, List.forall_mem_cons.mpr ⟨⟨yX8_columns, cX8_columns, 1, (some .int), 1, 0, by decide, by decide, t_1 7 rfl rfl, hd_X8_columns, Or.inr (Or.inl ⟨rfl, sc_X8_columns l hl, t_5 49 rfl rfl, t_5 46 rfl rfl, t_5 48 rfl rfl, _, rfl, t_p 36 rfl⟩)⟩, List.forall_mem_cons.mpr ⟨⟨yX8_isPinned, cX8_isPinned, 3, (some .boolean), 1, 0, by decide, by decide, t_1 7 rfl rfl, hd_X8_isPinned, Or.inr (Or.inl ⟨rfl, sc_X8_isPinned l hl, t_5 89 rfl rfl, t_5 86 rfl rfl, t_5 88 rfl rfl, _, rfl, t_p 45 rfl⟩)⟩, List.forall_mem_cons.mpr ⟨⟨yX8_givesPins, cX8_givesPins, 3, none, 2, 22, by decide, by decide, t_1 7 rfl rfl, hd_X8_givesPins, Or.inr (Or.inl ⟨rfl, sc_X8_givesPins l hl, t_5 169 rfl rfl, t_5 166 rfl rfl, t_5 168 rfl rfl, _, rfl, t_p 63 rfl⟩)⟩, List.forall_mem_cons.mpr ⟨⟨yX8_gives, cX8_gives, 5, (some .boolean), 5, 92, by decide, by decide, t_1 7 rfl rfl, hd_X8_gives, Or.inr (Or.inl ⟨rfl, sc_X8_gives l hl, t_6 11 rfl rfl, t_6 8 rfl rfl, t_6 10 rfl rfl, _, rfl, t_p 72 rfl⟩)⟩, List.forall_mem_cons.mpr ⟨⟨yX8_keepsGiven, cX8_keepsGiven, 2, none, 1, 0, by decide, by decide, t_1 7 rfl rfl, hd_X8_keepsGiven, Or.inr (Or.inl ⟨rfl, sc_X8_keepsGiven l hl, t_6 15 rfl rfl, t_6 12 rfl rfl, t_6 14 rfl rfl, _, rfl, t_p 73 rfl⟩)⟩, nil_all⟩⟩⟩⟩⟩⟩), fun ix ci j h => lk_all (P := fun ix q => FldOK yX8_findsNext.cls ix q.1 q.2) (List.forall_mem_cons.mpr ⟨⟨_, rfl, by decide, t_4 189 rfl rfl⟩, List.forall_mem_cons.mpr ⟨⟨_, rfl, by decide, t_4 196 rfl rfl⟩, nil_all⟩⟩) ix (ci, j) h, lk_all (nil_all), lk_all (nil_all), lk_all (nil_all)⟩
theorem hd_X8_findsNext : CallHd yX8_findsNext 0 := ⟨by decide +kernel, by decide +kernel, by decide +kernel⟩
theorem sc_X8_findsNext (l : Launch) (hl : l.stackTraces = false) : SCon l yX8_findsNext cX8_findsNext 6 (some .boolean) 6 116 0 Γ_X8_findsNext := scon_of mX8_findsNext cls_ok hl (by decide +kernel) rfl rfl (ok_X8_findsNext l hl) rfl rfl b_X8_findsNext
def f_X8_tellsCells_12 (k2 : Int32 → Mem → Out) : Nat → Int32 → Int32 → Mem → Out
  | 0, _, _, _ => none
  | n + 1, x1, x2, μ => cI (F_X8_columns μ) (fun v11 μ8 => if v11 ≤ x2 then (lt (x1 + (1 : Int32)) (fun v13 => k2 v13 μ8)) else (cI (F_X8_isFilled x1 x2 μ8) (fun v18 μ15 => if v18 = 0 then (ck (inb (((6 : Int32) * x1) + x2) 36) (lt (sI μ15 44 (Int32.toNatClampNeg (((6 : Int32) * x1) + x2)) (0 : Int32)) (fun μ21 => lt (x2 + (1 : Int32)) (fun v22 => f_X8_tellsCells_12 k2 n x1 v22 μ21)))) else (ck (inb (((6 : Int32) * x1) + x2) 36) (lt (sI μ15 44 (Int32.toNatClampNeg (((6 : Int32) * x1) + x2)) (1 : Int32)) (fun μ24 => lt (x2 + (1 : Int32)) (fun v25 => f_X8_tellsCells_12 k2 n x1 v25 μ24)))))))
def f_X8_tellsCells_2 : Nat → Int32 → Mem → Out
  | 0, _, _ => none
  | n + 1, x1, μ => cI (F_X8_rows μ) (fun v5 μ2 => if v5 ≤ x1 then (rV μ2) else (f_X8_tellsCells_12 (f_X8_tellsCells_2 n) BIG x1 (0 : Int32) μ2))
def F_X8_tellsCells (μ : Mem) : Out := f_X8_tellsCells_2 BIG (0 : Int32) μ
def Γ_X8_tellsCells : Gam := fun as μ r μ' => as = [.ref 29] ∧ F_X8_tellsCells μ = some (r, μ')
def mX8_tellsCells : MI := (cX8_tellsCells, [(76, (1, 0, 0, 6, Γ_X8_rows)), (84, (1, 0, 0, 6, Γ_X8_columns)), (98, (1, 2, 0, 6, Γ_X8_isFilled))], [(53, 6, 18)], [], [], [], [], none, none)
set_option maxHeartbeats 4000000 in
theorem g_X8_tellsCells_12 {r : Res} {μ' : Mem} {k2 : Int32 → Mem → Out} (hk2 : ∀ (x1 : Int32), ∀ (μ : Mem) (b : Nat), 0 ≤ b → k2 x1 μ = some (r, μ') → G mX8_tellsCells (Qe r μ') 2 [some (.ref 29), some (.int x1), none] [] μ b) : ∀ n : Nat, ∀ (x1 : Int32) (x2 : Int32), ∀ (μ : Mem) (b : Nat), 0 ≤ b → f_X8_tellsCells_12 k2 n x1 x2 μ = some (r, μ') → G mX8_tellsCells (Qe r μ') 12 [some (.ref 29), some (.int x1), some (.int x2)] [] μ b := by
  intro n
  induction n with
  | zero => intro x1 x2 μ b hb9 h; exact nomatch (show (none : Out) = some _ from h)
  | succ n ih =>
    intro x1 x2 μ b hb9 h
    rw [f_X8_tellsCells_12.eq_2] at h
    refine e_iload_n dX8_tellsCells_12 rfl ?_
    refine e_aload_n dX8_tellsCells_13 rfl ?_
    refine cI_go h (fun E9 hc7 hr10 => e_VX [] [.int x2] dX8_tellsCells_14 rfl rfl rfl rfl (by decide) (Nat.le_of_ble_eq_true rfl) (by omega) ⟨rfl, hc7⟩ rfl ⟨hr10.symm, rfl⟩) (fun v11 μ8 hc7 h => ?_)
    refine e_VI [] [.int x2] dX8_tellsCells_14 rfl rfl rfl rfl (by decide) (Nat.le_of_ble_eq_true rfl) (by omega) ⟨rfl, hc7⟩ ?_
    refine e_ic_ge (tgt := 51) dX8_tellsCells_17 rfl (fun hc12 => ?_) (fun hc12 => ?_)
    · rw [if_pos hc12] at h
      refine e_iincN 1 (1 : Int32) dX8_tellsCells_51 rfl ci_1 h (fun y9 => [some (.ref 29), some (.int y9), some (.int x2)]) (fun _ => rfl) (fun v13 ev13 h => ?_)
      refine e_goto (tgt := 2) dX8_tellsCells_54 rfl ?_
      exact e_le (hk2 v13 μ8 _ (by omega) h) ⟨rfl, rfl, trivial⟩
    · rw [if_neg hc12] at h
      refine e_aload_n dX8_tellsCells_20 rfl ?_
      refine e_get (ci := 6) (j := 18) (t := 2) (v := .ref 44) dX8_tellsCells_21 rfl (by decide) rfl rfl rfl ?_
      refine e_bipush dX8_tellsCells_24 cb_6 ?_
      refine e_iload_n dX8_tellsCells_26 rfl ?_
      refine e_imul dX8_tellsCells_27 ?_
      refine e_iload_n dX8_tellsCells_28 rfl ?_
      refine e_iadd dX8_tellsCells_29 ?_
      refine e_aload_n dX8_tellsCells_30 rfl ?_
      refine e_iload_n dX8_tellsCells_31 rfl ?_
      refine e_iload_n dX8_tellsCells_32 rfl ?_
      refine cI_go h (fun E16 hc14 hr17 => e_VX [.int x1, .int x2] [.int (((6 : Int32) * x1) + x2), .ref 44] dX8_tellsCells_33 rfl rfl rfl rfl (by decide) (Nat.le_of_ble_eq_true rfl) (by omega) ⟨x1, x2, rfl, hc14⟩ rfl ⟨hr17.symm, rfl⟩) (fun v18 μ15 hc14 h => ?_)
      refine e_VI [.int x1, .int x2] [.int (((6 : Int32) * x1) + x2), .ref 44] dX8_tellsCells_33 rfl rfl rfl rfl (by decide) (Nat.le_of_ble_eq_true rfl) (by omega) ⟨x1, x2, rfl, hc14⟩ ?_
      refine e_if_eq (tgt := 43) dX8_tellsCells_36 rfl (fun hc19 => ?_) (fun hc19 => ?_)
      · rw [if_pos hc19] at h
        refine e_iconst dX8_tellsCells_43 ci_0 ?_
        obtain ⟨hc20, h⟩ := ck_eq h
        refine e_iastore (n := 36) dX8_tellsCells_44 (by decide) rfl hc20 ?_
        refine e_naM (e := sI μ15 44 (Int32.toNatClampNeg (((6 : Int32) * x1) + x2)) (0 : Int32)) h (fun μ21 eμ21 h => ?_)
        refine e_iincN 2 (1 : Int32) dX8_tellsCells_45 rfl ci_1 h (fun y9 => [some (.ref 29), some (.int x1), some (.int y9)]) (fun _ => rfl) (fun v22 ev22 h => ?_)
        refine e_goto (tgt := 12) dX8_tellsCells_48 rfl ?_
        exact e_le (ih x1 v22 μ21 _ (by omega) h) ⟨rfl, rfl, rfl, trivial⟩
      · rw [if_neg hc19] at h
        refine e_iconst dX8_tellsCells_39 ci_1 ?_
        refine e_goto (tgt := 44) dX8_tellsCells_40 rfl ?_
        obtain ⟨hc23, h⟩ := ck_eq h
        refine e_iastore (n := 36) dX8_tellsCells_44 (by decide) rfl hc23 ?_
        refine e_naM (e := sI μ15 44 (Int32.toNatClampNeg (((6 : Int32) * x1) + x2)) (1 : Int32)) h (fun μ24 eμ24 h => ?_)
        refine e_iincN 2 (1 : Int32) dX8_tellsCells_45 rfl ci_1 h (fun y9 => [some (.ref 29), some (.int x1), some (.int y9)]) (fun _ => rfl) (fun v25 ev25 h => ?_)
        refine e_goto (tgt := 12) dX8_tellsCells_48 rfl ?_
        exact e_le (ih x1 v25 μ24 _ (by omega) h) ⟨rfl, rfl, rfl, trivial⟩
set_option maxHeartbeats 4000000 in
theorem g_X8_tellsCells_2 {r : Res} {μ' : Mem} : ∀ n : Nat, ∀ (x1 : Int32), ∀ (μ : Mem) (b : Nat), 0 ≤ b → f_X8_tellsCells_2 n x1 μ = some (r, μ') → G mX8_tellsCells (Qe r μ') 2 [some (.ref 29), some (.int x1), none] [] μ b := by
  intro n
  induction n with
  | zero => intro x1 μ b hb9 h; exact nomatch (show (none : Out) = some _ from h)
  | succ n ih =>
    intro x1 μ b hb9 h
    rw [f_X8_tellsCells_2.eq_2] at h
    refine e_iload_n dX8_tellsCells_2 rfl ?_
    refine e_aload_n dX8_tellsCells_3 rfl ?_
    refine cI_go h (fun E3 hc1 hr4 => e_VX [] [.int x1] dX8_tellsCells_4 rfl rfl rfl rfl (by decide) (Nat.le_of_ble_eq_true rfl) (by omega) ⟨rfl, hc1⟩ rfl ⟨hr4.symm, rfl⟩) (fun v5 μ2 hc1 h => ?_)
    refine e_VI [] [.int x1] dX8_tellsCells_4 rfl rfl rfl rfl (by decide) (Nat.le_of_ble_eq_true rfl) (by omega) ⟨rfl, hc1⟩ ?_
    refine e_ic_ge (tgt := 57) dX8_tellsCells_7 rfl (fun hc6 => ?_) (fun hc6 => ?_)
    · rw [if_pos hc6] at h
      exact e_vret dX8_tellsCells_57 rfl (ret_eq h)
    · rw [if_neg hc6] at h
      refine e_iconst dX8_tellsCells_10 ci_0 ?_
      refine e_istore_nL [some (.ref 29), some (.int x1), some (.int (0 : Int32))] dX8_tellsCells_11 (Nat.le_of_ble_eq_true rfl) rfl ?_
      exact e_le (g_X8_tellsCells_12 ih BIG x1 (0 : Int32) μ2 _ (by omega) h) ⟨rfl, rfl, rfl, trivial⟩
set_option maxHeartbeats 4000000 in
theorem b_X8_tellsCells : ∀ as μ r μ', Γ_X8_tellsCells as μ r μ' → (elvL as).length ≤ 3 ∧ G mX8_tellsCells (Qe r μ') 0 (elv as 3) [] μ 0 := by
  intro as μ r μ' h
  obtain ⟨rfl, h⟩ := h
  refine ⟨Nat.le_of_ble_eq_true rfl, ?_⟩
  show G mX8_tellsCells (Qe r μ') 0 [some (.ref 29), none, none] [] μ 0
  unfold F_X8_tellsCells at h
  have hb9 : 0 ≤ 0 := Nat.le_refl _
  refine e_iconst dX8_tellsCells_0 ci_0 ?_
  refine e_istore_nL [some (.ref 29), some (.int (0 : Int32)), none] dX8_tellsCells_1 (Nat.le_of_ble_eq_true rfl) rfl ?_
  exact e_le (g_X8_tellsCells_2 BIG (0 : Int32) μ _ (by omega) h) ⟨rfl, rfl, trivial⟩
set_option maxRecDepth 20000 in
theorem ok_X8_tellsCells (l : Launch) (hl : l.stackTraces = false) : MOK l yX8_tellsCells.cls 2 22 mX8_tellsCells := ⟨lk_all (List.forall_mem_cons.mpr ⟨⟨yX8_rows, cX8_rows, 1, (some .int), 1, 0, by decide, by decide, t_1 7 rfl rfl, hd_X8_rows, Or.inr (Or.inl ⟨rfl, sc_X8_rows l hl, t_5 45 rfl rfl, t_5 42 rfl rfl, t_5 44 rfl rfl, _, rfl, t_p 35 rfl⟩)⟩, List.forall_mem_cons.mpr ⟨⟨yX8_columns, cX8_columns, 1, (some .int), 1, 0, by decide, by decide, t_1 7 rfl rfl, hd_X8_columns, Or.inr (Or.inl ⟨rfl, sc_X8_columns l hl, t_5 49 rfl rfl, t_5 46 rfl rfl, t_5 48 rfl rfl, _, rfl, t_p 36 rfl⟩)⟩, List.forall_mem_cons.mpr ⟨⟨yX8_isFilled, cX8_isFilled, 3, (some .boolean), 1, 0, by decide, by decide, t_1 7 rfl rfl, hd_X8_isFilled, Or.inr (Or.inl ⟨rfl, sc_X8_isFilled l hl, t_5 73 rfl rfl, t_5 70 rfl rfl, t_5 72 rfl rfl, _, rfl, t_p 42 rfl⟩)⟩, nil_all⟩⟩⟩), fun ix ci j h => lk_all (P := fun ix q => FldOK yX8_tellsCells.cls ix q.1 q.2) (List.forall_mem_cons.mpr ⟨⟨_, rfl, by decide, t_4 196 rfl rfl⟩, nil_all⟩) ix (ci, j) h, lk_all (nil_all), lk_all (nil_all), lk_all (nil_all)⟩
theorem hd_X8_tellsCells : CallHd yX8_tellsCells 0 := ⟨by decide +kernel, by decide +kernel, by decide +kernel⟩
theorem sc_X8_tellsCells (l : Launch) (hl : l.stackTraces = false) : SCon l yX8_tellsCells cX8_tellsCells 3 none 2 22 0 Γ_X8_tellsCells := scon_of mX8_tellsCells cls_ok hl (by decide +kernel) rfl rfl (ok_X8_tellsCells l hl) rfl rfl b_X8_tellsCells
def F_X8_findsBehind (μ : Mem) : Out := cV (F_X8_tellsCells μ) (fun μ2 => cI (F_X8_findsNext μ2) (fun v9 μ6 => ck (nz v9) (rI v9 μ6)))
def Γ_X8_findsBehind : Gam := fun as μ r μ' => as = [.ref 29] ∧ F_X8_findsBehind μ = some (r, μ')
def mX8_findsBehind : MI := (cX8_findsBehind, [(190, (1, 0, 0, 6, Γ_X8_findsNext)), (239, (1, 0, 0, 6, Γ_X8_tellsCells))], [], [], [], [], [], none, (some .boolean))
set_option maxHeartbeats 4000000 in
theorem b_X8_findsBehind : ∀ as μ r μ', Γ_X8_findsBehind as μ r μ' → (elvL as).length ≤ 1 ∧ G mX8_findsBehind (Qe r μ') 0 (elv as 1) [] μ 0 := by
  intro as μ r μ' h
  obtain ⟨rfl, h⟩ := h
  refine ⟨Nat.le_of_ble_eq_true rfl, ?_⟩
  show G mX8_findsBehind (Qe r μ') 0 [some (.ref 29)] [] μ 0
  unfold F_X8_findsBehind at h
  have hb9 : 0 ≤ 0 := Nat.le_refl _
  refine e_aload_n dX8_findsBehind_0 rfl ?_
  refine cV_go h (fun E3 hc1 hr4 => e_VX [] [] dX8_findsBehind_1 rfl rfl rfl rfl (by decide) (Nat.le_of_ble_eq_true rfl) (by omega) ⟨rfl, hc1⟩ rfl ⟨hr4.symm, rfl⟩) (fun μ2 hc1 h => ?_)
  refine e_VV [] [] dX8_findsBehind_1 rfl rfl rfl rfl (by decide) (Nat.le_of_ble_eq_true rfl) (by omega) ⟨rfl, hc1⟩ ?_
  refine e_aload_n dX8_findsBehind_4 rfl ?_
  refine cI_go h (fun E7 hc5 hr8 => e_VX [] [] dX8_findsBehind_5 rfl rfl rfl rfl (by decide) (Nat.le_of_ble_eq_true rfl) (by omega) ⟨rfl, hc5⟩ rfl ⟨hr8.symm, rfl⟩) (fun v9 μ6 hc5 h => ?_)
  refine e_VI [] [] dX8_findsBehind_5 rfl rfl rfl rfl (by decide) (Nat.le_of_ble_eq_true rfl) (by omega) ⟨rfl, hc5⟩ ?_
  obtain ⟨hc10, h⟩ := ck_eq h
  exact e_iret .boolean dX8_findsBehind_8 rfl hc10 (ret_eq h)
set_option maxRecDepth 20000 in
theorem ok_X8_findsBehind (l : Launch) (hl : l.stackTraces = false) : MOK l yX8_findsBehind.cls 7 141 mX8_findsBehind := ⟨lk_all (List.forall_mem_cons.mpr ⟨⟨yX8_findsNext, cX8_findsNext, 6, (some .boolean), 6, 116, by decide, by decide, t_1 7 rfl rfl, hd_X8_findsNext, Or.inr (Or.inl ⟨rfl, sc_X8_findsNext l hl, t_6 39 rfl rfl, t_6 36 rfl rfl, t_6 38 rfl rfl, _, rfl, t_p 78 rfl⟩)⟩, List.forall_mem_cons.mpr ⟨⟨yX8_tellsCells, cX8_tellsCells, 3, none, 2, 22, by decide, by decide, t_1 7 rfl rfl, hd_X8_tellsCells, Or.inr (Or.inl ⟨rfl, sc_X8_tellsCells l hl, t_6 35 rfl rfl, t_6 32 rfl rfl, t_6 34 rfl rfl, _, rfl, t_p 77 rfl⟩)⟩, nil_all⟩⟩), fun ix ci j h => lk_all (P := fun ix q => FldOK yX8_findsBehind.cls ix q.1 q.2) (nil_all) ix (ci, j) h, lk_all (nil_all), lk_all (nil_all), lk_all (nil_all)⟩
theorem hd_X8_findsBehind : CallHd yX8_findsBehind 0 := ⟨by decide +kernel, by decide +kernel, by decide +kernel⟩
theorem sc_X8_findsBehind (l : Launch) (hl : l.stackTraces = false) : SCon l yX8_findsBehind cX8_findsBehind 1 (some .boolean) 7 141 0 Γ_X8_findsBehind := scon_of mX8_findsBehind cls_ok hl (by decide +kernel) rfl rfl (ok_X8_findsBehind l hl) rfl rfl b_X8_findsBehind
def F_X8_findsFirst (a0 : Int32) (μ : Mem) : Out := cV (F_X8_givesPins μ) (fun μ2 => cI (F_X8_gives (0 : Int32) a0 μ2) (fun v9 μ6 => cV (F_X8_keepsGiven μ6) (fun μ11 => ck (nz v9) (rI v9 μ11))))
def Γ_X8_findsFirst : Gam := fun as μ r μ' => ∃ (a0 : Int32), as = [.ref 29, .int a0] ∧ F_X8_findsFirst a0 μ = some (r, μ')
def mX8_findsFirst : MI := (cX8_findsFirst, [(166, (1, 0, 0, 6, Γ_X8_givesPins)), (169, (1, 2, 0, 6, Γ_X8_gives)), (173, (1, 0, 0, 6, Γ_X8_keepsGiven))], [], [], [], [], [], none, (some .boolean))
set_option maxHeartbeats 4000000 in
theorem b_X8_findsFirst : ∀ as μ r μ', Γ_X8_findsFirst as μ r μ' → (elvL as).length ≤ 3 ∧ G mX8_findsFirst (Qe r μ') 0 (elv as 3) [] μ 0 := by
  intro as μ r μ' h
  obtain ⟨a0, rfl, h⟩ := h
  refine ⟨Nat.le_of_ble_eq_true rfl, ?_⟩
  show G mX8_findsFirst (Qe r μ') 0 [some (.ref 29), some (.int a0), none] [] μ 0
  unfold F_X8_findsFirst at h
  have hb9 : 0 ≤ 0 := Nat.le_refl _
  refine e_aload_n dX8_findsFirst_0 rfl ?_
  refine cV_go h (fun E3 hc1 hr4 => e_VX [] [] dX8_findsFirst_1 rfl rfl rfl rfl (by decide) (Nat.le_of_ble_eq_true rfl) (by omega) ⟨rfl, hc1⟩ rfl ⟨hr4.symm, rfl⟩) (fun μ2 hc1 h => ?_)
  refine e_VV [] [] dX8_findsFirst_1 rfl rfl rfl rfl (by decide) (Nat.le_of_ble_eq_true rfl) (by omega) ⟨rfl, hc1⟩ ?_
  refine e_aload_n dX8_findsFirst_4 rfl ?_
  refine e_iconst dX8_findsFirst_5 ci_0 ?_
  refine e_iload_n dX8_findsFirst_6 rfl ?_
  refine cI_go h (fun E7 hc5 hr8 => e_VX [.int (0 : Int32), .int a0] [] dX8_findsFirst_7 rfl rfl rfl rfl (by decide) (Nat.le_of_ble_eq_true rfl) (by omega) ⟨(0 : Int32), a0, rfl, hc5⟩ rfl ⟨hr8.symm, rfl⟩) (fun v9 μ6 hc5 h => ?_)
  refine e_VI [.int (0 : Int32), .int a0] [] dX8_findsFirst_7 rfl rfl rfl rfl (by decide) (Nat.le_of_ble_eq_true rfl) (by omega) ⟨(0 : Int32), a0, rfl, hc5⟩ ?_
  refine e_istore_nL [some (.ref 29), some (.int a0), some (.int v9)] dX8_findsFirst_10 (Nat.le_of_ble_eq_true rfl) rfl ?_
  refine e_aload_n dX8_findsFirst_11 rfl ?_
  refine cV_go h (fun E12 hc10 hr13 => e_VX [] [] dX8_findsFirst_12 rfl rfl rfl rfl (by decide) (Nat.le_of_ble_eq_true rfl) (by omega) ⟨rfl, hc10⟩ rfl ⟨hr13.symm, rfl⟩) (fun μ11 hc10 h => ?_)
  refine e_VV [] [] dX8_findsFirst_12 rfl rfl rfl rfl (by decide) (Nat.le_of_ble_eq_true rfl) (by omega) ⟨rfl, hc10⟩ ?_
  refine e_iload_n dX8_findsFirst_15 rfl ?_
  obtain ⟨hc14, h⟩ := ck_eq h
  exact e_iret .boolean dX8_findsFirst_16 rfl hc14 (ret_eq h)
set_option maxRecDepth 20000 in
theorem ok_X8_findsFirst (l : Launch) (hl : l.stackTraces = false) : MOK l yX8_findsFirst.cls 6 116 mX8_findsFirst := ⟨lk_all (List.forall_mem_cons.mpr ⟨⟨yX8_givesPins, cX8_givesPins, 3, none, 2, 22, by decide, by decide, t_1 7 rfl rfl, hd_X8_givesPins, Or.inr (Or.inl ⟨rfl, sc_X8_givesPins l hl, t_5 169 rfl rfl, t_5 166 rfl rfl, t_5 168 rfl rfl, _, rfl, t_p 63 rfl⟩)⟩, List.forall_mem_cons.mpr ⟨⟨yX8_gives, cX8_gives, 5, (some .boolean), 5, 92, by decide, by decide, t_1 7 rfl rfl, hd_X8_gives, Or.inr (Or.inl ⟨rfl, sc_X8_gives l hl, t_6 11 rfl rfl, t_6 8 rfl rfl, t_6 10 rfl rfl, _, rfl, t_p 72 rfl⟩)⟩, List.forall_mem_cons.mpr ⟨⟨yX8_keepsGiven, cX8_keepsGiven, 2, none, 1, 0, by decide, by decide, t_1 7 rfl rfl, hd_X8_keepsGiven, Or.inr (Or.inl ⟨rfl, sc_X8_keepsGiven l hl, t_6 15 rfl rfl, t_6 12 rfl rfl, t_6 14 rfl rfl, _, rfl, t_p 73 rfl⟩)⟩, nil_all⟩⟩⟩), fun ix ci j h => lk_all (P := fun ix q => FldOK yX8_findsFirst.cls ix q.1 q.2) (nil_all) ix (ci, j) h, lk_all (nil_all), lk_all (nil_all), lk_all (nil_all)⟩
theorem hd_X8_findsFirst : CallHd yX8_findsFirst 1 := ⟨by decide +kernel, by decide +kernel, by decide +kernel⟩
theorem sc_X8_findsFirst (l : Launch) (hl : l.stackTraces = false) : SCon l yX8_findsFirst cX8_findsFirst 3 (some .boolean) 6 116 0 Γ_X8_findsFirst := scon_of mX8_findsFirst cls_ok hl (by decide +kernel) rfl rfl (ok_X8_findsFirst l hl) rfl rfl b_X8_findsFirst
def F_X8_fills (a0 : Int32) (a1 : Int32) (a2 : Int32) (μ : Mem) : Out := lt (((2 : Int32) + ((6 : Int32) * a0)) + a1) (fun v1 => if a2 = 0 then (ck (inb v1 50) (ck (inb v1 50) (lt (sI μ 30 (Int32.toNatClampNeg v1) ((μ.1 30 (Int32.toNatClampNeg v1)) &&& (2 : Int32))) (fun μ5 => rV μ5)))) else (ck (inb v1 50) (ck (inb v1 50) (lt (sI μ 30 (Int32.toNatClampNeg v1) ((μ.1 30 (Int32.toNatClampNeg v1)) ||| (1 : Int32))) (fun μ8 => rV μ8)))))
def Γ_X8_fills : Gam := fun as μ r μ' => ∃ (a0 : Int32) (a1 : Int32) (a2 : Int32), as = [.ref 29, .int a0, .int a1, .int a2] ∧ F_X8_fills a0 a1 a2 μ = some (r, μ')
def mX8_fills : MI := (cX8_fills, [], [(7, 6, 0)], [], [], [], [], none, none)
set_option maxHeartbeats 4000000 in
theorem b_X8_fills : ∀ as μ r μ', Γ_X8_fills as μ r μ' → (elvL as).length ≤ 5 ∧ G mX8_fills (Qe r μ') 0 (elv as 5) [] μ 0 := by
  intro as μ r μ' h
  obtain ⟨a0, a1, a2, rfl, h⟩ := h
  refine ⟨Nat.le_of_ble_eq_true rfl, ?_⟩
  show G mX8_fills (Qe r μ') 0 [some (.ref 29), some (.int a0), some (.int a1), some (.int a2), none] [] μ 0
  unfold F_X8_fills at h
  have hb9 : 0 ≤ 0 := Nat.le_refl _
  refine e_iconst dX8_fills_0 ci_2 ?_
  refine e_bipush dX8_fills_1 cb_6 ?_
  refine e_iload_n dX8_fills_3 rfl ?_
  refine e_imul dX8_fills_4 ?_
  refine e_iadd dX8_fills_5 ?_
  refine e_iload_n dX8_fills_6 rfl ?_
  refine e_iadd dX8_fills_7 ?_
  refine e_naI h (fun v1 ev1 h => ?_)
  refine e_istoreL [some (.ref 29), some (.int a0), some (.int a1), some (.int a2), some (.int v1)] dX8_fills_8 (Nat.le_of_ble_eq_true rfl) rfl ?_
  refine e_aload_n dX8_fills_10 rfl ?_
  refine e_get (ci := 6) (j := 0) (t := 2) (v := .ref 30) dX8_fills_11 rfl (by decide) rfl rfl rfl ?_
  refine e_iload dX8_fills_14 rfl ?_
  refine e_iload_n dX8_fills_16 rfl ?_
  refine e_if_eq (tgt := 32) dX8_fills_17 rfl (fun hc2 => ?_) (fun hc2 => ?_)
  · rw [if_pos hc2] at h
    refine e_aload_n dX8_fills_32 rfl ?_
    refine e_get (ci := 6) (j := 0) (t := 2) (v := .ref 30) dX8_fills_33 rfl (by decide) rfl rfl rfl ?_
    refine e_iload dX8_fills_36 rfl ?_
    obtain ⟨hc3, h⟩ := ck_eq h
    refine e_ialoadL (μ.1 30 (Int32.toNatClampNeg v1)) (n := 50) dX8_fills_38 (by decide) rfl hc3 rfl ?_
    refine e_iconst dX8_fills_39 ci_2 ?_
    refine e_iand dX8_fills_40 ?_
    obtain ⟨hc4, h⟩ := ck_eq h
    refine e_iastore (n := 50) dX8_fills_41 (by decide) rfl hc4 ?_
    refine e_naM (e := sI μ 30 (Int32.toNatClampNeg v1) ((μ.1 30 (Int32.toNatClampNeg v1)) &&& (2 : Int32))) h (fun μ5 eμ5 h => ?_)
    exact e_vret dX8_fills_42 rfl (ret_eq h)
  · rw [if_neg hc2] at h
    refine e_aload_n dX8_fills_20 rfl ?_
    refine e_get (ci := 6) (j := 0) (t := 2) (v := .ref 30) dX8_fills_21 rfl (by decide) rfl rfl rfl ?_
    refine e_iload dX8_fills_24 rfl ?_
    obtain ⟨hc6, h⟩ := ck_eq h
    refine e_ialoadL (μ.1 30 (Int32.toNatClampNeg v1)) (n := 50) dX8_fills_26 (by decide) rfl hc6 rfl ?_
    refine e_iconst dX8_fills_27 ci_1 ?_
    refine e_ior dX8_fills_28 ?_
    refine e_goto (tgt := 41) dX8_fills_29 rfl ?_
    obtain ⟨hc7, h⟩ := ck_eq h
    refine e_iastore (n := 50) dX8_fills_41 (by decide) rfl hc7 ?_
    refine e_naM (e := sI μ 30 (Int32.toNatClampNeg v1) ((μ.1 30 (Int32.toNatClampNeg v1)) ||| (1 : Int32))) h (fun μ8 eμ8 h => ?_)
    exact e_vret dX8_fills_42 rfl (ret_eq h)
set_option maxRecDepth 20000 in
theorem ok_X8_fills (l : Launch) (hl : l.stackTraces = false) : MOK l yX8_fills.cls 1 0 mX8_fills := ⟨lk_all (nil_all), fun ix ci j h => lk_all (P := fun ix q => FldOK yX8_fills.cls ix q.1 q.2) (List.forall_mem_cons.mpr ⟨⟨_, rfl, by decide, t_4 178 rfl rfl⟩, nil_all⟩) ix (ci, j) h, lk_all (nil_all), lk_all (nil_all), lk_all (nil_all)⟩
theorem hd_X8_fills : CallHd yX8_fills 3 := ⟨by decide +kernel, by decide +kernel, by decide +kernel⟩
theorem sc_X8_fills (l : Launch) (hl : l.stackTraces = false) : SCon l yX8_fills cX8_fills 5 none 1 0 0 Γ_X8_fills := scon_of mX8_fills cls_ok hl (by decide +kernel) rfl rfl (ok_X8_fills l hl) rfl rfl b_X8_fills
def f_X8_takesPicture_17 (k7 : Int32 → Int32 → Mem → Out) : Nat → Int32 → Int32 → Int32 → Mem → Out
  | 0, _, _, _, _ => none
  | n + 1, x1, x2, x3, μ => cI (F_X8_columns μ) (fun v16 μ13 => if v16 ≤ x3 then (lt (x2 + (1 : Int32)) (fun v18 => k7 x1 v18 μ13)) else (ck (inb (((6 : Int32) * x2) + x3) 36) (if (μ13.1 44 (Int32.toNatClampNeg (((6 : Int32) * x2) + x3))) = (1 : Int32) then (cV (F_X8_fills x2 x3 (1 : Int32) μ13) (fun μ27 => lt (x3 + (1 : Int32)) (fun v30 => f_X8_takesPicture_17 k7 n x1 x2 v30 μ27))) else (cV (F_X8_fills x2 x3 (0 : Int32) μ13) (fun μ22 => lt (x3 + (1 : Int32)) (fun v25 => f_X8_takesPicture_17 k7 n x1 x2 v25 μ22))))))
def f_X8_takesPicture_7 : Nat → Int32 → Int32 → Mem → Out
  | 0, _, _, _ => none
  | n + 1, x1, x2, μ => cI (F_X8_rows μ) (fun v10 μ7 => if v10 ≤ x2 then (rI x1 μ7) else (f_X8_takesPicture_17 (f_X8_takesPicture_7 n) BIG x1 x2 (0 : Int32) μ7))
def F_X8_takesPicture (μ : Mem) : Out := cI (F_X8_differsBy μ) (fun v5 μ2 => f_X8_takesPicture_7 BIG v5 (0 : Int32) μ2)
def Γ_X8_takesPicture : Gam := fun as μ r μ' => as = [.ref 29] ∧ F_X8_takesPicture μ = some (r, μ')
def mX8_takesPicture : MI := (cX8_takesPicture, [(76, (1, 0, 0, 6, Γ_X8_rows)), (84, (1, 0, 0, 6, Γ_X8_columns)), (176, (1, 0, 0, 6, Γ_X8_differsBy)), (179, (1, 3, 0, 6, Γ_X8_fills))], [(53, 6, 18)], [], [], [], [], none, (some .int))
set_option maxHeartbeats 4000000 in
theorem g_X8_takesPicture_17 {r : Res} {μ' : Mem} {k7 : Int32 → Int32 → Mem → Out} (hk7 : ∀ (x1 : Int32) (x2 : Int32), ∀ (μ : Mem) (b : Nat), 0 ≤ b → k7 x1 x2 μ = some (r, μ') → G mX8_takesPicture (Qe r μ') 7 [some (.ref 29), some (.int x1), some (.int x2), none] [] μ b) : ∀ n : Nat, ∀ (x1 : Int32) (x2 : Int32) (x3 : Int32), ∀ (μ : Mem) (b : Nat), 0 ≤ b → f_X8_takesPicture_17 k7 n x1 x2 x3 μ = some (r, μ') → G mX8_takesPicture (Qe r μ') 17 [some (.ref 29), some (.int x1), some (.int x2), some (.int x3)] [] μ b := by
  intro n
  induction n with
  | zero => intro x1 x2 x3 μ b hb9 h; exact nomatch (show (none : Out) = some _ from h)
  | succ n ih =>
    intro x1 x2 x3 μ b hb9 h
    rw [f_X8_takesPicture_17.eq_2] at h
    refine e_iload_n dX8_takesPicture_17 rfl ?_
    refine e_aload_n dX8_takesPicture_18 rfl ?_
    refine cI_go h (fun E14 hc12 hr15 => e_VX [] [.int x3] dX8_takesPicture_19 rfl rfl rfl rfl (by decide) (Nat.le_of_ble_eq_true rfl) (by omega) ⟨rfl, hc12⟩ rfl ⟨hr15.symm, rfl⟩) (fun v16 μ13 hc12 h => ?_)
    refine e_VI [] [.int x3] dX8_takesPicture_19 rfl rfl rfl rfl (by decide) (Nat.le_of_ble_eq_true rfl) (by omega) ⟨rfl, hc12⟩ ?_
    refine e_ic_ge (tgt := 57) dX8_takesPicture_22 rfl (fun hc17 => ?_) (fun hc17 => ?_)
    · rw [if_pos hc17] at h
      refine e_iincN 2 (1 : Int32) dX8_takesPicture_57 rfl ci_1 h (fun y9 => [some (.ref 29), some (.int x1), some (.int y9), some (.int x3)]) (fun _ => rfl) (fun v18 ev18 h => ?_)
      refine e_goto (tgt := 7) dX8_takesPicture_60 rfl ?_
      exact e_le (hk7 x1 v18 μ13 _ (by omega) h) ⟨rfl, rfl, rfl, trivial⟩
    · rw [if_neg hc17] at h
      refine e_aload_n dX8_takesPicture_25 rfl ?_
      refine e_iload_n dX8_takesPicture_26 rfl ?_
      refine e_iload_n dX8_takesPicture_27 rfl ?_
      refine e_aload_n dX8_takesPicture_28 rfl ?_
      refine e_get (ci := 6) (j := 18) (t := 2) (v := .ref 44) dX8_takesPicture_29 rfl (by decide) rfl rfl rfl ?_
      refine e_bipush dX8_takesPicture_32 cb_6 ?_
      refine e_iload_n dX8_takesPicture_34 rfl ?_
      refine e_imul dX8_takesPicture_35 ?_
      refine e_iload_n dX8_takesPicture_36 rfl ?_
      refine e_iadd dX8_takesPicture_37 ?_
      obtain ⟨hc19, h⟩ := ck_eq h
      refine e_ialoadL (μ13.1 44 (Int32.toNatClampNeg (((6 : Int32) * x2) + x3))) (n := 36) dX8_takesPicture_38 (by decide) rfl hc19 rfl ?_
      refine e_iconst dX8_takesPicture_39 ci_1 ?_
      refine e_ic_ne (tgt := 47) dX8_takesPicture_40 rfl (fun hc20 => ?_) (fun hc20 => ?_)
      · rw [if_neg hc20] at h
        refine e_iconst dX8_takesPicture_47 ci_0 ?_
        refine cV_go h (fun E23 hc21 hr24 => e_VX [.int x2, .int x3, .int (0 : Int32)] [] dX8_takesPicture_48 rfl rfl rfl rfl (by decide) (Nat.le_of_ble_eq_true rfl) (by omega) ⟨x2, x3, (0 : Int32), rfl, hc21⟩ rfl ⟨hr24.symm, rfl⟩) (fun μ22 hc21 h => ?_)
        refine e_VV [.int x2, .int x3, .int (0 : Int32)] [] dX8_takesPicture_48 rfl rfl rfl rfl (by decide) (Nat.le_of_ble_eq_true rfl) (by omega) ⟨x2, x3, (0 : Int32), rfl, hc21⟩ ?_
        refine e_iincN 3 (1 : Int32) dX8_takesPicture_51 rfl ci_1 h (fun y9 => [some (.ref 29), some (.int x1), some (.int x2), some (.int y9)]) (fun _ => rfl) (fun v25 ev25 h => ?_)
        refine e_goto (tgt := 17) dX8_takesPicture_54 rfl ?_
        exact e_le (ih x1 x2 v25 μ22 _ (by omega) h) ⟨rfl, rfl, rfl, rfl, trivial⟩
      · rw [if_pos hc20] at h
        refine e_iconst dX8_takesPicture_43 ci_1 ?_
        refine e_goto (tgt := 48) dX8_takesPicture_44 rfl ?_
        refine cV_go h (fun E28 hc26 hr29 => e_VX [.int x2, .int x3, .int (1 : Int32)] [] dX8_takesPicture_48 rfl rfl rfl rfl (by decide) (Nat.le_of_ble_eq_true rfl) (by omega) ⟨x2, x3, (1 : Int32), rfl, hc26⟩ rfl ⟨hr29.symm, rfl⟩) (fun μ27 hc26 h => ?_)
        refine e_VV [.int x2, .int x3, .int (1 : Int32)] [] dX8_takesPicture_48 rfl rfl rfl rfl (by decide) (Nat.le_of_ble_eq_true rfl) (by omega) ⟨x2, x3, (1 : Int32), rfl, hc26⟩ ?_
        refine e_iincN 3 (1 : Int32) dX8_takesPicture_51 rfl ci_1 h (fun y9 => [some (.ref 29), some (.int x1), some (.int x2), some (.int y9)]) (fun _ => rfl) (fun v30 ev30 h => ?_)
        refine e_goto (tgt := 17) dX8_takesPicture_54 rfl ?_
        exact e_le (ih x1 x2 v30 μ27 _ (by omega) h) ⟨rfl, rfl, rfl, rfl, trivial⟩
set_option maxHeartbeats 4000000 in
theorem g_X8_takesPicture_7 {r : Res} {μ' : Mem} : ∀ n : Nat, ∀ (x1 : Int32) (x2 : Int32), ∀ (μ : Mem) (b : Nat), 0 ≤ b → f_X8_takesPicture_7 n x1 x2 μ = some (r, μ') → G mX8_takesPicture (Qe r μ') 7 [some (.ref 29), some (.int x1), some (.int x2), none] [] μ b := by
  intro n
  induction n with
  | zero => intro x1 x2 μ b hb9 h; exact nomatch (show (none : Out) = some _ from h)
  | succ n ih =>
    intro x1 x2 μ b hb9 h
    rw [f_X8_takesPicture_7.eq_2] at h
    refine e_iload_n dX8_takesPicture_7 rfl ?_
    refine e_aload_n dX8_takesPicture_8 rfl ?_
    refine cI_go h (fun E8 hc6 hr9 => e_VX [] [.int x2] dX8_takesPicture_9 rfl rfl rfl rfl (by decide) (Nat.le_of_ble_eq_true rfl) (by omega) ⟨rfl, hc6⟩ rfl ⟨hr9.symm, rfl⟩) (fun v10 μ7 hc6 h => ?_)
    refine e_VI [] [.int x2] dX8_takesPicture_9 rfl rfl rfl rfl (by decide) (Nat.le_of_ble_eq_true rfl) (by omega) ⟨rfl, hc6⟩ ?_
    refine e_ic_ge (tgt := 63) dX8_takesPicture_12 rfl (fun hc11 => ?_) (fun hc11 => ?_)
    · rw [if_pos hc11] at h
      refine e_iload_n dX8_takesPicture_63 rfl ?_
      exact e_iret .int dX8_takesPicture_64 rfl rfl (ret_eq h)
    · rw [if_neg hc11] at h
      refine e_iconst dX8_takesPicture_15 ci_0 ?_
      refine e_istore_nL [some (.ref 29), some (.int x1), some (.int x2), some (.int (0 : Int32))] dX8_takesPicture_16 (Nat.le_of_ble_eq_true rfl) rfl ?_
      exact e_le (g_X8_takesPicture_17 ih BIG x1 x2 (0 : Int32) μ7 _ (by omega) h) ⟨rfl, rfl, rfl, rfl, trivial⟩
set_option maxHeartbeats 4000000 in
theorem b_X8_takesPicture : ∀ as μ r μ', Γ_X8_takesPicture as μ r μ' → (elvL as).length ≤ 4 ∧ G mX8_takesPicture (Qe r μ') 0 (elv as 4) [] μ 0 := by
  intro as μ r μ' h
  obtain ⟨rfl, h⟩ := h
  refine ⟨Nat.le_of_ble_eq_true rfl, ?_⟩
  show G mX8_takesPicture (Qe r μ') 0 [some (.ref 29), none, none, none] [] μ 0
  unfold F_X8_takesPicture at h
  have hb9 : 0 ≤ 0 := Nat.le_refl _
  refine e_aload_n dX8_takesPicture_0 rfl ?_
  refine cI_go h (fun E3 hc1 hr4 => e_VX [] [] dX8_takesPicture_1 rfl rfl rfl rfl (by decide) (Nat.le_of_ble_eq_true rfl) (by omega) ⟨rfl, hc1⟩ rfl ⟨hr4.symm, rfl⟩) (fun v5 μ2 hc1 h => ?_)
  refine e_VI [] [] dX8_takesPicture_1 rfl rfl rfl rfl (by decide) (Nat.le_of_ble_eq_true rfl) (by omega) ⟨rfl, hc1⟩ ?_
  refine e_istore_nL [some (.ref 29), some (.int v5), none, none] dX8_takesPicture_4 (Nat.le_of_ble_eq_true rfl) rfl ?_
  refine e_iconst dX8_takesPicture_5 ci_0 ?_
  refine e_istore_nL [some (.ref 29), some (.int v5), some (.int (0 : Int32)), none] dX8_takesPicture_6 (Nat.le_of_ble_eq_true rfl) rfl ?_
  exact e_le (g_X8_takesPicture_7 BIG v5 (0 : Int32) μ2 _ (by omega) h) ⟨rfl, rfl, rfl, trivial⟩
set_option maxRecDepth 20000 in
theorem ok_X8_takesPicture (l : Launch) (hl : l.stackTraces = false) : MOK l yX8_takesPicture.cls 3 45 mX8_takesPicture := ⟨lk_all (List.forall_mem_cons.mpr ⟨⟨yX8_rows, cX8_rows, 1, (some .int), 1, 0, by decide, by decide, t_1 7 rfl rfl, hd_X8_rows, Or.inr (Or.inl ⟨rfl, sc_X8_rows l hl, t_5 45 rfl rfl, t_5 42 rfl rfl, t_5 44 rfl rfl, _, rfl, t_p 35 rfl⟩)⟩, List.forall_mem_cons.mpr ⟨⟨yX8_columns, cX8_columns, 1, (some .int), 1, 0, by decide, by decide, t_1 7 rfl rfl, hd_X8_columns, Or.inr (Or.inl ⟨rfl, sc_X8_columns l hl, t_5 49 rfl rfl, t_5 46 rfl rfl, t_5 48 rfl rfl, _, rfl, t_p 36 rfl⟩)⟩, List.forall_mem_cons.mpr ⟨⟨yX8_differsBy, cX8_differsBy, 4, (some .int), 2, 22, by decide, by decide, t_1 7 rfl rfl, hd_X8_differsBy, Or.inr (Or.inl ⟨rfl, sc_X8_differsBy l hl, t_6 23 rfl rfl, t_6 20 rfl rfl, t_6 22 rfl rfl, _, rfl, t_p 75 rfl⟩)⟩, List.forall_mem_cons.mpr ⟨⟨yX8_fills, cX8_fills, 5, none, 1, 0, by decide, by decide, t_1 7 rfl rfl, hd_X8_fills, Or.inr (Or.inl ⟨rfl, sc_X8_fills l hl, t_5 215 rfl rfl, t_5 212 rfl rfl, t_5 214 rfl rfl, _, rfl, t_p 68 rfl⟩)⟩, nil_all⟩⟩⟩⟩), fun ix ci j h => lk_all (P := fun ix q => FldOK yX8_takesPicture.cls ix q.1 q.2) (List.forall_mem_cons.mpr ⟨⟨_, rfl, by decide, t_4 196 rfl rfl⟩, nil_all⟩) ix (ci, j) h, lk_all (nil_all), lk_all (nil_all), lk_all (nil_all)⟩
theorem hd_X8_takesPicture : CallHd yX8_takesPicture 0 := ⟨by decide +kernel, by decide +kernel, by decide +kernel⟩
theorem sc_X8_takesPicture (l : Launch) (hl : l.stackTraces = false) : SCon l yX8_takesPicture cX8_takesPicture 4 (some .int) 3 45 0 Γ_X8_takesPicture := scon_of mX8_takesPicture cls_ok hl (by decide +kernel) rfl rfl (ok_X8_takesPicture l hl) rfl rfl b_X8_takesPicture
def f_X8_turns_77 (k47 : Int32 → Int32 → Int32 → Mem → Out) : Nat → Int32 → Int32 → Int32 → Int32 → Mem → Out
  | 0, _, _, _, _, _ => none
  | n + 1, x1, x2, x3, x4, μ => if x2 ≤ x4 then (lt (x3 + (1 : Int32)) (fun v31 => k47 x1 x2 v31 μ)) else (ck (inb (((2 : Int32) + ((6 : Int32) * x3)) + x4) 50) (ck (inb (((((2 : Int32) + ((6 : Int32) * x4)) + x1) - (1 : Int32)) - x3) 50) (lt (sI μ 47 (Int32.toNatClampNeg (((((2 : Int32) + ((6 : Int32) * x4)) + x1) - (1 : Int32)) - x3)) (μ.1 30 (Int32.toNatClampNeg (((2 : Int32) + ((6 : Int32) * x3)) + x4)))) (fun μ34 => lt (x4 + (1 : Int32)) (fun v35 => f_X8_turns_77 k47 n x1 x2 x3 v35 μ34)))))
def f_X8_turns_129 : Nat → Int32 → Int32 → Mem → Out
  | 0, _, _, _ => none
  | n + 1, x2, x3, μ => if x2 ≤ x3 then (cV (F_X8_copies 47 (0 : Int32) 30 (0 : Int32) μ) (fun μ23 => rV μ23)) else (ck (inb ((44 : Int32) + x3) 50) (ck (inb ((38 : Int32) + x3) 50) (lt (sI μ 47 (Int32.toNatClampNeg ((38 : Int32) + x3)) (μ.1 30 (Int32.toNatClampNeg ((44 : Int32) + x3)))) (fun μ28 => lt (x3 + (1 : Int32)) (fun v29 => f_X8_turns_129 n x2 v29 μ28)))))
def f_X8_turns_47 : Nat → Int32 → Int32 → Int32 → Mem → Out
  | 0, _, _, _, _ => none
  | n + 1, x1, x2, x3, μ => if x1 ≤ x3 then (f_X8_turns_129 BIG x2 (0 : Int32) μ) else (ck (inb ((38 : Int32) + x3) 50) (ck (inb ((((44 : Int32) + x1) - (1 : Int32)) - x3) 50) (lt (sI μ 47 (Int32.toNatClampNeg ((((44 : Int32) + x1) - (1 : Int32)) - x3)) (μ.1 30 (Int32.toNatClampNeg ((38 : Int32) + x3)))) (fun μ20 => f_X8_turns_77 (f_X8_turns_47 n) BIG x1 x2 x3 (0 : Int32) μ20))))
def f_X8_turns_12 : Nat → Int32 → Int32 → Int32 → Mem → Out
  | 0, _, _, _, _ => none
  | n + 1, x1, x2, x3, μ => if (50 : Int32) ≤ x3 then (lt (sI μ 47 0 x2) (fun μ12 => lt (sI μ12 47 1 x1) (fun μ13 => f_X8_turns_47 BIG x1 x2 (0 : Int32) μ13))) else (ck (inb x3 50) (lt (sI μ 47 (Int32.toNatClampNeg x3) (0 : Int32)) (fun μ15 => lt (x3 + (1 : Int32)) (fun v16 => f_X8_turns_12 n x1 x2 v16 μ15))))
def F_X8_turns (μ : Mem) : Out := cI (F_X8_rows μ) (fun v5 μ2 => cI (F_X8_columns μ2) (fun v10 μ7 => f_X8_turns_12 BIG v5 v10 (0 : Int32) μ7))
def Γ_X8_turns : Gam := fun as μ r μ' => as = [.ref 29] ∧ F_X8_turns μ = some (r, μ')
def mX8_turns : MI := (cX8_turns, [(72, (0, 4, 0, 0, Γ_X8_copies)), (76, (1, 0, 0, 6, Γ_X8_rows)), (84, (1, 0, 0, 6, Γ_X8_columns))], [(7, 6, 0), (62, 6, 22)], [], [], [], [], none, none)
set_option maxHeartbeats 4000000 in
theorem g_X8_turns_77 {r : Res} {μ' : Mem} {k47 : Int32 → Int32 → Int32 → Mem → Out} (hk47 : ∀ (x1 : Int32) (x2 : Int32) (x3 : Int32), ∀ (μ : Mem) (b : Nat), 0 ≤ b → k47 x1 x2 x3 μ = some (r, μ') → G mX8_turns (Qe r μ') 47 [some (.ref 29), some (.int x1), some (.int x2), some (.int x3), none] [] μ b) : ∀ n : Nat, ∀ (x1 : Int32) (x2 : Int32) (x3 : Int32) (x4 : Int32), ∀ (μ : Mem) (b : Nat), 0 ≤ b → f_X8_turns_77 k47 n x1 x2 x3 x4 μ = some (r, μ') → G mX8_turns (Qe r μ') 77 [some (.ref 29), some (.int x1), some (.int x2), some (.int x3), some (.int x4)] [] μ b := by
  intro n
  induction n with
  | zero => intro x1 x2 x3 x4 μ b hb9 h; exact nomatch (show (none : Out) = some _ from h)
  | succ n ih =>
    intro x1 x2 x3 x4 μ b hb9 h
    rw [f_X8_turns_77.eq_2] at h
    refine e_iload dX8_turns_77 rfl ?_
    refine e_iload_n dX8_turns_79 rfl ?_
    refine e_ic_ge (tgt := 121) dX8_turns_80 rfl (fun hc30 => ?_) (fun hc30 => ?_)
    · rw [if_pos hc30] at h
      refine e_iincN 3 (1 : Int32) dX8_turns_121 rfl ci_1 h (fun y9 => [some (.ref 29), some (.int x1), some (.int x2), some (.int y9), some (.int x4)]) (fun _ => rfl) (fun v31 ev31 h => ?_)
      refine e_goto (tgt := 47) dX8_turns_124 rfl ?_
      exact e_le (hk47 x1 x2 v31 μ _ (by omega) h) ⟨rfl, rfl, rfl, rfl, trivial⟩
    · rw [if_neg hc30] at h
      refine e_aload_n dX8_turns_83 rfl ?_
      refine e_get (ci := 6) (j := 22) (t := 2) (v := .ref 47) dX8_turns_84 rfl (by decide) rfl rfl rfl ?_
      refine e_iconst dX8_turns_87 ci_2 ?_
      refine e_bipush dX8_turns_88 cb_6 ?_
      refine e_iload dX8_turns_90 rfl ?_
      refine e_imul dX8_turns_92 ?_
      refine e_iadd dX8_turns_93 ?_
      refine e_iload_n dX8_turns_94 rfl ?_
      refine e_iadd dX8_turns_95 ?_
      refine e_iconst dX8_turns_96 ci_1 ?_
      refine e_isub dX8_turns_97 ?_
      refine e_iload_n dX8_turns_98 rfl ?_
      refine e_isub dX8_turns_99 ?_
      refine e_aload_n dX8_turns_100 rfl ?_
      refine e_get (ci := 6) (j := 0) (t := 2) (v := .ref 30) dX8_turns_101 rfl (by decide) rfl rfl rfl ?_
      refine e_iconst dX8_turns_104 ci_2 ?_
      refine e_bipush dX8_turns_105 cb_6 ?_
      refine e_iload_n dX8_turns_107 rfl ?_
      refine e_imul dX8_turns_108 ?_
      refine e_iadd dX8_turns_109 ?_
      refine e_iload dX8_turns_110 rfl ?_
      refine e_iadd dX8_turns_112 ?_
      obtain ⟨hc32, h⟩ := ck_eq h
      refine e_ialoadL (μ.1 30 (Int32.toNatClampNeg (((2 : Int32) + ((6 : Int32) * x3)) + x4))) (n := 50) dX8_turns_113 (by decide) rfl hc32 rfl ?_
      obtain ⟨hc33, h⟩ := ck_eq h
      refine e_iastore (n := 50) dX8_turns_114 (by decide) rfl hc33 ?_
      refine e_naM (e := sI μ 47 (Int32.toNatClampNeg (((((2 : Int32) + ((6 : Int32) * x4)) + x1) - (1 : Int32)) - x3)) (μ.1 30 (Int32.toNatClampNeg (((2 : Int32) + ((6 : Int32) * x3)) + x4)))) h (fun μ34 eμ34 h => ?_)
      refine e_iincN 4 (1 : Int32) dX8_turns_115 rfl ci_1 h (fun y9 => [some (.ref 29), some (.int x1), some (.int x2), some (.int x3), some (.int y9)]) (fun _ => rfl) (fun v35 ev35 h => ?_)
      refine e_goto (tgt := 77) dX8_turns_118 rfl ?_
      exact e_le (ih x1 x2 x3 v35 μ34 _ (by omega) h) ⟨rfl, rfl, rfl, rfl, rfl, trivial⟩
set_option maxHeartbeats 4000000 in
theorem g_X8_turns_129 {r : Res} {μ' : Mem} : ∀ n : Nat, ∀ (x2 : Int32) (x3 : Int32), ∀ (μ : Mem) (b : Nat), 0 ≤ b → f_X8_turns_129 n x2 x3 μ = some (r, μ') → G mX8_turns (Qe r μ') 129 [some (.ref 29), none, some (.int x2), some (.int x3), none] [] μ b := by
  intro n
  induction n with
  | zero => intro x2 x3 μ b hb9 h; exact nomatch (show (none : Out) = some _ from h)
  | succ n ih =>
    intro x2 x3 μ b hb9 h
    rw [f_X8_turns_129.eq_2] at h
    refine e_iload_n dX8_turns_129 rfl ?_
    refine e_iload_n dX8_turns_130 rfl ?_
    refine e_ic_ge (tgt := 158) dX8_turns_131 rfl (fun hc21 => ?_) (fun hc21 => ?_)
    · rw [if_pos hc21] at h
      refine e_aload_n dX8_turns_158 rfl ?_
      refine e_get (ci := 6) (j := 22) (t := 2) (v := .ref 47) dX8_turns_159 rfl (by decide) rfl rfl rfl ?_
      refine e_iconst dX8_turns_162 ci_0 ?_
      refine e_aload_n dX8_turns_163 rfl ?_
      refine e_get (ci := 6) (j := 0) (t := 2) (v := .ref 30) dX8_turns_164 rfl (by decide) rfl rfl rfl ?_
      refine e_iconst dX8_turns_167 ci_0 ?_
      refine cV_go h (fun E24 hc22 hr25 => e_SX [.ref 47, .int (0 : Int32), .ref 30, .int (0 : Int32)] [] dX8_turns_168 rfl (by decide) rfl rfl (Nat.le_of_ble_eq_true rfl) (by omega) ⟨47, (0 : Int32), 30, (0 : Int32), rfl, (by decide), (by decide), hc22⟩ rfl ⟨hr25.symm, rfl⟩) (fun μ23 hc22 h => ?_)
      refine e_SV [.ref 47, .int (0 : Int32), .ref 30, .int (0 : Int32)] [] dX8_turns_168 rfl (by decide) rfl rfl (Nat.le_of_ble_eq_true rfl) (by omega) ⟨47, (0 : Int32), 30, (0 : Int32), rfl, (by decide), (by decide), hc22⟩ ?_
      exact e_vret dX8_turns_171 rfl (ret_eq h)
    · rw [if_neg hc21] at h
      refine e_aload_n dX8_turns_134 rfl ?_
      refine e_get (ci := 6) (j := 22) (t := 2) (v := .ref 47) dX8_turns_135 rfl (by decide) rfl rfl rfl ?_
      refine e_bipush dX8_turns_138 cb_38 ?_
      refine e_iload_n dX8_turns_140 rfl ?_
      refine e_iadd dX8_turns_141 ?_
      refine e_aload_n dX8_turns_142 rfl ?_
      refine e_get (ci := 6) (j := 0) (t := 2) (v := .ref 30) dX8_turns_143 rfl (by decide) rfl rfl rfl ?_
      refine e_bipush dX8_turns_146 cb_44 ?_
      refine e_iload_n dX8_turns_148 rfl ?_
      refine e_iadd dX8_turns_149 ?_
      obtain ⟨hc26, h⟩ := ck_eq h
      refine e_ialoadL (μ.1 30 (Int32.toNatClampNeg ((44 : Int32) + x3))) (n := 50) dX8_turns_150 (by decide) rfl hc26 rfl ?_
      obtain ⟨hc27, h⟩ := ck_eq h
      refine e_iastore (n := 50) dX8_turns_151 (by decide) rfl hc27 ?_
      refine e_naM (e := sI μ 47 (Int32.toNatClampNeg ((38 : Int32) + x3)) (μ.1 30 (Int32.toNatClampNeg ((44 : Int32) + x3)))) h (fun μ28 eμ28 h => ?_)
      refine e_iincN 3 (1 : Int32) dX8_turns_152 rfl ci_1 h (fun y9 => [some (.ref 29), none, some (.int x2), some (.int y9), none]) (fun _ => rfl) (fun v29 ev29 h => ?_)
      refine e_goto (tgt := 129) dX8_turns_155 rfl ?_
      exact e_le (ih x2 v29 μ28 _ (by omega) h) ⟨rfl, rfl, rfl, trivial⟩
set_option maxHeartbeats 4000000 in
theorem g_X8_turns_47 {r : Res} {μ' : Mem} : ∀ n : Nat, ∀ (x1 : Int32) (x2 : Int32) (x3 : Int32), ∀ (μ : Mem) (b : Nat), 0 ≤ b → f_X8_turns_47 n x1 x2 x3 μ = some (r, μ') → G mX8_turns (Qe r μ') 47 [some (.ref 29), some (.int x1), some (.int x2), some (.int x3), none] [] μ b := by
  intro n
  induction n with
  | zero => intro x1 x2 x3 μ b hb9 h; exact nomatch (show (none : Out) = some _ from h)
  | succ n ih =>
    intro x1 x2 x3 μ b hb9 h
    rw [f_X8_turns_47.eq_2] at h
    refine e_iload_n dX8_turns_47 rfl ?_
    refine e_iload_n dX8_turns_48 rfl ?_
    refine e_ic_ge (tgt := 127) dX8_turns_49 rfl (fun hc17 => ?_) (fun hc17 => ?_)
    · rw [if_pos hc17] at h
      refine e_iconst dX8_turns_127 ci_0 ?_
      refine e_istore_nL [some (.ref 29), some (.int x1), some (.int x2), some (.int (0 : Int32)), none] dX8_turns_128 (Nat.le_of_ble_eq_true rfl) rfl ?_
      exact e_le (g_X8_turns_129 BIG x2 (0 : Int32) μ _ (by omega) h) ⟨rfl, rfl, rfl, trivial⟩
    · rw [if_neg hc17] at h
      refine e_aload_n dX8_turns_52 rfl ?_
      refine e_get (ci := 6) (j := 22) (t := 2) (v := .ref 47) dX8_turns_53 rfl (by decide) rfl rfl rfl ?_
      refine e_bipush dX8_turns_56 cb_44 ?_
      refine e_iload_n dX8_turns_58 rfl ?_
      refine e_iadd dX8_turns_59 ?_
      refine e_iconst dX8_turns_60 ci_1 ?_
      refine e_isub dX8_turns_61 ?_
      refine e_iload_n dX8_turns_62 rfl ?_
      refine e_isub dX8_turns_63 ?_
      refine e_aload_n dX8_turns_64 rfl ?_
      refine e_get (ci := 6) (j := 0) (t := 2) (v := .ref 30) dX8_turns_65 rfl (by decide) rfl rfl rfl ?_
      refine e_bipush dX8_turns_68 cb_38 ?_
      refine e_iload_n dX8_turns_70 rfl ?_
      refine e_iadd dX8_turns_71 ?_
      obtain ⟨hc18, h⟩ := ck_eq h
      refine e_ialoadL (μ.1 30 (Int32.toNatClampNeg ((38 : Int32) + x3))) (n := 50) dX8_turns_72 (by decide) rfl hc18 rfl ?_
      obtain ⟨hc19, h⟩ := ck_eq h
      refine e_iastore (n := 50) dX8_turns_73 (by decide) rfl hc19 ?_
      refine e_naM (e := sI μ 47 (Int32.toNatClampNeg ((((44 : Int32) + x1) - (1 : Int32)) - x3)) (μ.1 30 (Int32.toNatClampNeg ((38 : Int32) + x3)))) h (fun μ20 eμ20 h => ?_)
      refine e_iconst dX8_turns_74 ci_0 ?_
      refine e_istoreL [some (.ref 29), some (.int x1), some (.int x2), some (.int x3), some (.int (0 : Int32))] dX8_turns_75 (Nat.le_of_ble_eq_true rfl) rfl ?_
      exact e_le (g_X8_turns_77 ih BIG x1 x2 x3 (0 : Int32) μ20 _ (by omega) h) ⟨rfl, rfl, rfl, rfl, rfl, trivial⟩
set_option maxHeartbeats 4000000 in
theorem g_X8_turns_12 {r : Res} {μ' : Mem} : ∀ n : Nat, ∀ (x1 : Int32) (x2 : Int32) (x3 : Int32), ∀ (μ : Mem) (b : Nat), 0 ≤ b → f_X8_turns_12 n x1 x2 x3 μ = some (r, μ') → G mX8_turns (Qe r μ') 12 [some (.ref 29), some (.int x1), some (.int x2), some (.int x3), none] [] μ b := by
  intro n
  induction n with
  | zero => intro x1 x2 x3 μ b hb9 h; exact nomatch (show (none : Out) = some _ from h)
  | succ n ih =>
    intro x1 x2 x3 μ b hb9 h
    rw [f_X8_turns_12.eq_2] at h
    refine e_iload_n dX8_turns_12 rfl ?_
    refine e_bipush dX8_turns_13 cb_50 ?_
    refine e_ic_ge (tgt := 31) dX8_turns_15 rfl (fun hc11 => ?_) (fun hc11 => ?_)
    · rw [if_pos hc11] at h
      refine e_aload_n dX8_turns_31 rfl ?_
      refine e_get (ci := 6) (j := 22) (t := 2) (v := .ref 47) dX8_turns_32 rfl (by decide) rfl rfl rfl ?_
      refine e_iconst dX8_turns_35 ci_0 ?_
      refine e_iload_n dX8_turns_36 rfl ?_
      refine e_iastore (n := 50) dX8_turns_37 (by decide) rfl (by decide : inb (0 : Int32) 50) ?_
      refine e_naM (e := sI μ 47 0 x2) h (fun μ12 eμ12 h => ?_)
      refine e_aload_n dX8_turns_38 rfl ?_
      refine e_get (ci := 6) (j := 22) (t := 2) (v := .ref 47) dX8_turns_39 rfl (by decide) rfl rfl rfl ?_
      refine e_iconst dX8_turns_42 ci_1 ?_
      refine e_iload_n dX8_turns_43 rfl ?_
      refine e_iastore (n := 50) dX8_turns_44 (by decide) rfl (by decide : inb (1 : Int32) 50) ?_
      refine e_naM (e := sI μ12 47 1 x1) h (fun μ13 eμ13 h => ?_)
      refine e_iconst dX8_turns_45 ci_0 ?_
      refine e_istore_nL [some (.ref 29), some (.int x1), some (.int x2), some (.int (0 : Int32)), none] dX8_turns_46 (Nat.le_of_ble_eq_true rfl) rfl ?_
      exact e_le (g_X8_turns_47 BIG x1 x2 (0 : Int32) μ13 _ (by omega) h) ⟨rfl, rfl, rfl, rfl, trivial⟩
    · rw [if_neg hc11] at h
      refine e_aload_n dX8_turns_18 rfl ?_
      refine e_get (ci := 6) (j := 22) (t := 2) (v := .ref 47) dX8_turns_19 rfl (by decide) rfl rfl rfl ?_
      refine e_iload_n dX8_turns_22 rfl ?_
      refine e_iconst dX8_turns_23 ci_0 ?_
      obtain ⟨hc14, h⟩ := ck_eq h
      refine e_iastore (n := 50) dX8_turns_24 (by decide) rfl hc14 ?_
      refine e_naM (e := sI μ 47 (Int32.toNatClampNeg x3) (0 : Int32)) h (fun μ15 eμ15 h => ?_)
      refine e_iincN 3 (1 : Int32) dX8_turns_25 rfl ci_1 h (fun y9 => [some (.ref 29), some (.int x1), some (.int x2), some (.int y9), none]) (fun _ => rfl) (fun v16 ev16 h => ?_)
      refine e_goto (tgt := 12) dX8_turns_28 rfl ?_
      exact e_le (ih x1 x2 v16 μ15 _ (by omega) h) ⟨rfl, rfl, rfl, rfl, trivial⟩
set_option maxHeartbeats 4000000 in
theorem b_X8_turns : ∀ as μ r μ', Γ_X8_turns as μ r μ' → (elvL as).length ≤ 5 ∧ G mX8_turns (Qe r μ') 0 (elv as 5) [] μ 0 := by
  intro as μ r μ' h
  obtain ⟨rfl, h⟩ := h
  refine ⟨Nat.le_of_ble_eq_true rfl, ?_⟩
  show G mX8_turns (Qe r μ') 0 [some (.ref 29), none, none, none, none] [] μ 0
  unfold F_X8_turns at h
  have hb9 : 0 ≤ 0 := Nat.le_refl _
  refine e_aload_n dX8_turns_0 rfl ?_
  refine cI_go h (fun E3 hc1 hr4 => e_VX [] [] dX8_turns_1 rfl rfl rfl rfl (by decide) (Nat.le_of_ble_eq_true rfl) (by omega) ⟨rfl, hc1⟩ rfl ⟨hr4.symm, rfl⟩) (fun v5 μ2 hc1 h => ?_)
  refine e_VI [] [] dX8_turns_1 rfl rfl rfl rfl (by decide) (Nat.le_of_ble_eq_true rfl) (by omega) ⟨rfl, hc1⟩ ?_
  refine e_istore_nL [some (.ref 29), some (.int v5), none, none, none] dX8_turns_4 (Nat.le_of_ble_eq_true rfl) rfl ?_
  refine e_aload_n dX8_turns_5 rfl ?_
  refine cI_go h (fun E8 hc6 hr9 => e_VX [] [] dX8_turns_6 rfl rfl rfl rfl (by decide) (Nat.le_of_ble_eq_true rfl) (by omega) ⟨rfl, hc6⟩ rfl ⟨hr9.symm, rfl⟩) (fun v10 μ7 hc6 h => ?_)
  refine e_VI [] [] dX8_turns_6 rfl rfl rfl rfl (by decide) (Nat.le_of_ble_eq_true rfl) (by omega) ⟨rfl, hc6⟩ ?_
  refine e_istore_nL [some (.ref 29), some (.int v5), some (.int v10), none, none] dX8_turns_9 (Nat.le_of_ble_eq_true rfl) rfl ?_
  refine e_iconst dX8_turns_10 ci_0 ?_
  refine e_istore_nL [some (.ref 29), some (.int v5), some (.int v10), some (.int (0 : Int32)), none] dX8_turns_11 (Nat.le_of_ble_eq_true rfl) rfl ?_
  exact e_le (g_X8_turns_12 BIG v5 v10 (0 : Int32) μ7 _ (by omega) h) ⟨rfl, rfl, rfl, rfl, trivial⟩
set_option maxRecDepth 20000 in
theorem ok_X8_turns (l : Launch) (hl : l.stackTraces = false) : MOK l yX8_turns.cls 2 24 mX8_turns := ⟨lk_all (List.forall_mem_cons.mpr ⟨⟨yX8_copies, cX8_copies, 5, none, 1, 0, by decide, by decide, t_1 7 rfl rfl, hd_X8_copies, Or.inl ⟨rfl, sc_X8_copies l hl, t_5 207 rfl rfl, t_5 205 rfl rfl, t_5 206 rfl rfl⟩⟩, List.forall_mem_cons.mpr ⟨⟨yX8_rows, cX8_rows, 1, (some .int), 1, 0, by decide, by decide, t_1 7 rfl rfl, hd_X8_rows, Or.inr (Or.inl ⟨rfl, sc_X8_rows l hl, t_5 45 rfl rfl, t_5 42 rfl rfl, t_5 44 rfl rfl, _, rfl, t_p 35 rfl⟩)⟩, List.forall_mem_cons.mpr ⟨⟨yX8_columns, cX8_columns, 1, (some .int), 1, 0, by decide, by decide, t_1 7 rfl rfl, hd_X8_columns, Or.inr (Or.inl ⟨rfl, sc_X8_columns l hl, t_5 49 rfl rfl, t_5 46 rfl rfl, t_5 48 rfl rfl, _, rfl, t_p 36 rfl⟩)⟩, nil_all⟩⟩⟩), fun ix ci j h => lk_all (P := fun ix q => FldOK yX8_turns.cls ix q.1 q.2) (List.forall_mem_cons.mpr ⟨⟨_, rfl, by decide, t_4 178 rfl rfl⟩, List.forall_mem_cons.mpr ⟨⟨_, rfl, by decide, t_4 200 rfl rfl⟩, nil_all⟩⟩) ix (ci, j) h, lk_all (nil_all), lk_all (nil_all), lk_all (nil_all)⟩
theorem hd_X8_turns : CallHd yX8_turns 0 := ⟨by decide +kernel, by decide +kernel, by decide +kernel⟩
theorem sc_X8_turns (l : Launch) (hl : l.stackTraces = false) : SCon l yX8_turns cX8_turns 5 none 2 24 0 Γ_X8_turns := scon_of mX8_turns cls_ok hl (by decide +kernel) rfl rfl (ok_X8_turns l hl) rfl rfl b_X8_turns
def f_X8_doesMore_75 (s0 : Int32) (μ : Mem) : Out := if s0 = 0 then (ck (nz s0) (rI s0 μ)) else (cI (F_X8_takesPicture μ) (fun v57 μ54 => ck (nz s0) (rI s0 μ54)))
def f_X8_doesMore_108 (s0 : Int32) (μ : Mem) : Out := if s0 = 0 then (ck (nz s0) (rI s0 μ)) else (cV (F_X8_turns μ) (fun μ62 => ck (nz s0) (rI s0 μ62)))
def f_X8_doesMore_142 (s0 : Int32) (μ : Mem) : Out := if s0 = 0 then (ck (nz s0) (rI s0 μ)) else (cI (F_X8_takesPicture μ) (fun v72 μ69 => ck (nz s0) (rI s0 μ69)))
def F_X8_doesMore (a0 : Int32) (a1 : Int32) (a2 : Int32) (μ : Mem) : Out := if a0 = (4 : Int32) then (if a1 = 0 then (if (2 : Int32) ≤ a2 then (f_X8_doesMore_75 (0 : Int32) μ) else (if a2 = (1 : Int32) then (cI (F_X8_findsFirst (1 : Int32) μ) (fun v15 μ12 => if v15 = 0 then (f_X8_doesMore_75 (0 : Int32) μ12) else (f_X8_doesMore_75 (1 : Int32) μ12))) else (cI (F_X8_findsFirst (0 : Int32) μ) (fun v9 μ6 => if v9 = 0 then (f_X8_doesMore_75 (0 : Int32) μ6) else (f_X8_doesMore_75 (1 : Int32) μ6))))) else (f_X8_doesMore_75 (0 : Int32) μ)) else if a0 = (5 : Int32) then (if a1 = 0 then (if a2 = 0 then (f_X8_doesMore_108 (1 : Int32) μ) else (f_X8_doesMore_108 (0 : Int32) μ)) else (f_X8_doesMore_108 (0 : Int32) μ)) else if a0 = (6 : Int32) then (if a1 = 0 then (if a2 = 0 then (cI (F_X8_findsBehind μ) (fun v27 μ24 => if v27 = 0 then (f_X8_doesMore_142 (0 : Int32) μ24) else (f_X8_doesMore_142 (1 : Int32) μ24))) else (f_X8_doesMore_142 (0 : Int32) μ)) else (f_X8_doesMore_142 (0 : Int32) μ)) else if a0 = (7 : Int32) then (cI (F_X8_laysPieces μ) (fun v34 μ31 => if (((10 : Int32) * a1) + a2) < v34 then (rI (0 : Int32) μ31) else (rI (1 : Int32) μ31))) else if a0 = (8 : Int32) then (cI (F_X8_outline μ) (fun v41 μ38 => if (((10 : Int32) * a1) + a2) < v41 then (rI (0 : Int32) μ38) else (rI (1 : Int32) μ38))) else if a0 = (9 : Int32) then (if a1 = 0 then (cI (F_X8_wrongLines μ) (fun v49 μ46 => if a2 < v49 then (rI (0 : Int32) μ46) else (rI (1 : Int32) μ46))) else (rI (0 : Int32) μ)) else (rI (0 : Int32) μ)
def Γ_X8_doesMore : Gam := fun as μ r μ' => ∃ (a0 : Int32) (a1 : Int32) (a2 : Int32), as = [.ref 29, .int a0, .int a1, .int a2] ∧ F_X8_doesMore a0 a1 a2 μ = some (r, μ')
def mX8_doesMore : MI := (cX8_doesMore, [(186, (1, 1, 0, 6, Γ_X8_findsFirst)), (199, (1, 0, 0, 6, Γ_X8_wrongLines)), (202, (1, 0, 0, 6, Γ_X8_laysPieces)), (205, (1, 0, 0, 6, Γ_X8_outline)), (236, (1, 0, 0, 6, Γ_X8_takesPicture)), (242, (1, 0, 0, 6, Γ_X8_findsBehind)), (245, (1, 0, 0, 6, Γ_X8_turns))], [], [], [], [], [], none, (some .boolean))
set_option maxHeartbeats 4000000 in
theorem g_X8_doesMore_75 {r : Res} {μ' : Mem} : ∀ (s0 : Int32), ∀ (μ : Mem) (b : Nat), 0 ≤ b → f_X8_doesMore_75 s0 μ = some (r, μ') → G mX8_doesMore (Qe r μ') 75 [some (.ref 29), none, none, none, none, none] [.int s0] μ b := by
  intro s0 μ b hb9 h
  unfold f_X8_doesMore_75 at h
  refine e_istoreL [some (.ref 29), none, none, none, some (.int s0), none] dX8_doesMore_75 (Nat.le_of_ble_eq_true rfl) rfl ?_
  refine e_iload dX8_doesMore_77 rfl ?_
  refine e_if_eq (tgt := 89) dX8_doesMore_79 rfl (fun hc51 => ?_) (fun hc51 => ?_)
  · rw [if_pos hc51] at h
    refine e_iconst dX8_doesMore_89 ci_0 ?_
    refine e_istoreL [some (.ref 29), none, none, none, some (.int s0), some (.int (0 : Int32))] dX8_doesMore_90 (Nat.le_of_ble_eq_true rfl) rfl ?_
    refine e_iload dX8_doesMore_92 rfl ?_
    obtain ⟨hc52, h⟩ := ck_eq h
    exact e_iret .boolean dX8_doesMore_94 rfl hc52 (ret_eq h)
  · rw [if_neg hc51] at h
    refine e_aload_n dX8_doesMore_82 rfl ?_
    refine cI_go h (fun E55 hc53 hr56 => e_VX [] [] dX8_doesMore_83 rfl rfl rfl rfl (by decide) (Nat.le_of_ble_eq_true rfl) (by omega) ⟨rfl, hc53⟩ rfl ⟨hr56.symm, rfl⟩) (fun v57 μ54 hc53 h => ?_)
    refine e_VI [] [] dX8_doesMore_83 rfl rfl rfl rfl (by decide) (Nat.le_of_ble_eq_true rfl) (by omega) ⟨rfl, hc53⟩ ?_
    refine e_goto (tgt := 90) dX8_doesMore_86 rfl ?_
    refine e_istoreL [some (.ref 29), none, none, none, some (.int s0), some (.int v57)] dX8_doesMore_90 (Nat.le_of_ble_eq_true rfl) rfl ?_
    refine e_iload dX8_doesMore_92 rfl ?_
    obtain ⟨hc58, h⟩ := ck_eq h
    exact e_iret .boolean dX8_doesMore_94 rfl hc58 (ret_eq h)
set_option maxHeartbeats 4000000 in
theorem g_X8_doesMore_108 {r : Res} {μ' : Mem} : ∀ (s0 : Int32), ∀ (μ : Mem) (b : Nat), 0 ≤ b → f_X8_doesMore_108 s0 μ = some (r, μ') → G mX8_doesMore (Qe r μ') 108 [some (.ref 29), none, none, none, none, none] [.int s0] μ b := by
  intro s0 μ b hb9 h
  unfold f_X8_doesMore_108 at h
  refine e_istoreL [some (.ref 29), none, none, none, some (.int s0), none] dX8_doesMore_108 (Nat.le_of_ble_eq_true rfl) rfl ?_
  refine e_iload dX8_doesMore_110 rfl ?_
  refine e_if_eq (tgt := 119) dX8_doesMore_112 rfl (fun hc59 => ?_) (fun hc59 => ?_)
  · rw [if_pos hc59] at h
    refine e_iload dX8_doesMore_119 rfl ?_
    obtain ⟨hc60, h⟩ := ck_eq h
    exact e_iret .boolean dX8_doesMore_121 rfl hc60 (ret_eq h)
  · rw [if_neg hc59] at h
    refine e_aload_n dX8_doesMore_115 rfl ?_
    refine cV_go h (fun E63 hc61 hr64 => e_VX [] [] dX8_doesMore_116 rfl rfl rfl rfl (by decide) (Nat.le_of_ble_eq_true rfl) (by omega) ⟨rfl, hc61⟩ rfl ⟨hr64.symm, rfl⟩) (fun μ62 hc61 h => ?_)
    refine e_VV [] [] dX8_doesMore_116 rfl rfl rfl rfl (by decide) (Nat.le_of_ble_eq_true rfl) (by omega) ⟨rfl, hc61⟩ ?_
    refine e_iload dX8_doesMore_119 rfl ?_
    obtain ⟨hc65, h⟩ := ck_eq h
    exact e_iret .boolean dX8_doesMore_121 rfl hc65 (ret_eq h)
set_option maxHeartbeats 4000000 in
theorem g_X8_doesMore_142 {r : Res} {μ' : Mem} : ∀ (s0 : Int32), ∀ (μ : Mem) (b : Nat), 0 ≤ b → f_X8_doesMore_142 s0 μ = some (r, μ') → G mX8_doesMore (Qe r μ') 142 [some (.ref 29), none, none, none, none, none] [.int s0] μ b := by
  intro s0 μ b hb9 h
  unfold f_X8_doesMore_142 at h
  refine e_istoreL [some (.ref 29), none, none, none, some (.int s0), none] dX8_doesMore_142 (Nat.le_of_ble_eq_true rfl) rfl ?_
  refine e_iload dX8_doesMore_144 rfl ?_
  refine e_if_eq (tgt := 156) dX8_doesMore_146 rfl (fun hc66 => ?_) (fun hc66 => ?_)
  · rw [if_pos hc66] at h
    refine e_iconst dX8_doesMore_156 ci_0 ?_
    refine e_istoreL [some (.ref 29), none, none, none, some (.int s0), some (.int (0 : Int32))] dX8_doesMore_157 (Nat.le_of_ble_eq_true rfl) rfl ?_
    refine e_iload dX8_doesMore_159 rfl ?_
    obtain ⟨hc67, h⟩ := ck_eq h
    exact e_iret .boolean dX8_doesMore_161 rfl hc67 (ret_eq h)
  · rw [if_neg hc66] at h
    refine e_aload_n dX8_doesMore_149 rfl ?_
    refine cI_go h (fun E70 hc68 hr71 => e_VX [] [] dX8_doesMore_150 rfl rfl rfl rfl (by decide) (Nat.le_of_ble_eq_true rfl) (by omega) ⟨rfl, hc68⟩ rfl ⟨hr71.symm, rfl⟩) (fun v72 μ69 hc68 h => ?_)
    refine e_VI [] [] dX8_doesMore_150 rfl rfl rfl rfl (by decide) (Nat.le_of_ble_eq_true rfl) (by omega) ⟨rfl, hc68⟩ ?_
    refine e_goto (tgt := 157) dX8_doesMore_153 rfl ?_
    refine e_istoreL [some (.ref 29), none, none, none, some (.int s0), some (.int v72)] dX8_doesMore_157 (Nat.le_of_ble_eq_true rfl) rfl ?_
    refine e_iload dX8_doesMore_159 rfl ?_
    obtain ⟨hc73, h⟩ := ck_eq h
    exact e_iret .boolean dX8_doesMore_161 rfl hc73 (ret_eq h)
set_option maxHeartbeats 4000000 in
theorem b_X8_doesMore : ∀ as μ r μ', Γ_X8_doesMore as μ r μ' → (elvL as).length ≤ 6 ∧ G mX8_doesMore (Qe r μ') 0 (elv as 6) [] μ 0 := by
  intro as μ r μ' h
  obtain ⟨a0, a1, a2, rfl, h⟩ := h
  refine ⟨Nat.le_of_ble_eq_true rfl, ?_⟩
  show G mX8_doesMore (Qe r μ') 0 [some (.ref 29), some (.int a0), some (.int a1), some (.int a2), none, none] [] μ 0
  unfold F_X8_doesMore at h
  have hb9 : 0 ≤ 0 := Nat.le_refl _
  refine e_iconst dX8_doesMore_0 ci_0 ?_
  refine e_istoreL [some (.ref 29), some (.int a0), some (.int a1), some (.int a2), some (.int (0 : Int32)), none] dX8_doesMore_1 (Nat.le_of_ble_eq_true rfl) rfl ?_
  refine e_iconst dX8_doesMore_3 ci_0 ?_
  refine e_istoreL [some (.ref 29), some (.int a0), some (.int a1), some (.int a2), some (.int (0 : Int32)), some (.int (0 : Int32))] dX8_doesMore_4 (Nat.le_of_ble_eq_true rfl) rfl ?_
  refine e_iload_n dX8_doesMore_6 rfl ?_
  by_cases hc1 : a0 = (4 : Int32)
  · rw [if_pos hc1] at h
    refine e_tsL (4 : Int32) (tgt := 44) hc1 dX8_doesMore_7 (by decide) (by decide) rfl rfl ?_
    refine e_iload_n dX8_doesMore_44 rfl ?_
    refine e_if_ne (tgt := 74) dX8_doesMore_45 rfl (fun hc2 => ?_) (fun hc2 => ?_)
    · rw [if_neg hc2] at h
      refine e_iconst dX8_doesMore_74 ci_0 ?_
      exact e_le (g_X8_doesMore_75 (0 : Int32) μ _ (by omega) h) ⟨rfl, trivial⟩
    · rw [if_pos hc2] at h
      refine e_iload_n dX8_doesMore_48 rfl ?_
      refine e_iconst dX8_doesMore_49 ci_2 ?_
      refine e_ic_ge (tgt := 74) dX8_doesMore_50 rfl (fun hc3 => ?_) (fun hc3 => ?_)
      · rw [if_pos hc3] at h
        refine e_iconst dX8_doesMore_74 ci_0 ?_
        exact e_le (g_X8_doesMore_75 (0 : Int32) μ _ (by omega) h) ⟨rfl, trivial⟩
      · rw [if_neg hc3] at h
        refine e_aload_n dX8_doesMore_53 rfl ?_
        refine e_iload_n dX8_doesMore_54 rfl ?_
        refine e_iconst dX8_doesMore_55 ci_1 ?_
        refine e_ic_ne (tgt := 63) dX8_doesMore_56 rfl (fun hc4 => ?_) (fun hc4 => ?_)
        · rw [if_neg hc4] at h
          refine e_iconst dX8_doesMore_63 ci_0 ?_
          refine cI_go h (fun E7 hc5 hr8 => e_VX [.int (0 : Int32)] [] dX8_doesMore_64 rfl rfl rfl rfl (by decide) (Nat.le_of_ble_eq_true rfl) (by omega) ⟨(0 : Int32), rfl, hc5⟩ rfl ⟨hr8.symm, rfl⟩) (fun v9 μ6 hc5 h => ?_)
          refine e_VI [.int (0 : Int32)] [] dX8_doesMore_64 rfl rfl rfl rfl (by decide) (Nat.le_of_ble_eq_true rfl) (by omega) ⟨(0 : Int32), rfl, hc5⟩ ?_
          refine e_if_eq (tgt := 74) dX8_doesMore_67 rfl (fun hc10 => ?_) (fun hc10 => ?_)
          · rw [if_pos hc10] at h
            refine e_iconst dX8_doesMore_74 ci_0 ?_
            exact e_le (g_X8_doesMore_75 (0 : Int32) μ6 _ (by omega) h) ⟨rfl, trivial⟩
          · rw [if_neg hc10] at h
            refine e_iconst dX8_doesMore_70 ci_1 ?_
            refine e_goto (tgt := 75) dX8_doesMore_71 rfl ?_
            exact e_le (g_X8_doesMore_75 (1 : Int32) μ6 _ (by omega) h) ⟨rfl, trivial⟩
        · rw [if_pos hc4] at h
          refine e_iconst dX8_doesMore_59 ci_1 ?_
          refine e_goto (tgt := 64) dX8_doesMore_60 rfl ?_
          refine cI_go h (fun E13 hc11 hr14 => e_VX [.int (1 : Int32)] [] dX8_doesMore_64 rfl rfl rfl rfl (by decide) (Nat.le_of_ble_eq_true rfl) (by omega) ⟨(1 : Int32), rfl, hc11⟩ rfl ⟨hr14.symm, rfl⟩) (fun v15 μ12 hc11 h => ?_)
          refine e_VI [.int (1 : Int32)] [] dX8_doesMore_64 rfl rfl rfl rfl (by decide) (Nat.le_of_ble_eq_true rfl) (by omega) ⟨(1 : Int32), rfl, hc11⟩ ?_
          refine e_if_eq (tgt := 74) dX8_doesMore_67 rfl (fun hc16 => ?_) (fun hc16 => ?_)
          · rw [if_pos hc16] at h
            refine e_iconst dX8_doesMore_74 ci_0 ?_
            exact e_le (g_X8_doesMore_75 (0 : Int32) μ12 _ (by omega) h) ⟨rfl, trivial⟩
          · rw [if_neg hc16] at h
            refine e_iconst dX8_doesMore_70 ci_1 ?_
            refine e_goto (tgt := 75) dX8_doesMore_71 rfl ?_
            exact e_le (g_X8_doesMore_75 (1 : Int32) μ12 _ (by omega) h) ⟨rfl, trivial⟩
  rw [if_neg hc1] at h
  by_cases hc17 : a0 = (5 : Int32)
  · rw [if_pos hc17] at h
    refine e_tsL (5 : Int32) (tgt := 95) hc17 dX8_doesMore_7 (by decide) (by decide) rfl rfl ?_
    refine e_iload_n dX8_doesMore_95 rfl ?_
    refine e_if_ne (tgt := 107) dX8_doesMore_96 rfl (fun hc18 => ?_) (fun hc18 => ?_)
    · rw [if_neg hc18] at h
      refine e_iconst dX8_doesMore_107 ci_0 ?_
      exact e_le (g_X8_doesMore_108 (0 : Int32) μ _ (by omega) h) ⟨rfl, trivial⟩
    · rw [if_pos hc18] at h
      refine e_iload_n dX8_doesMore_99 rfl ?_
      refine e_if_ne (tgt := 107) dX8_doesMore_100 rfl (fun hc19 => ?_) (fun hc19 => ?_)
      · rw [if_neg hc19] at h
        refine e_iconst dX8_doesMore_107 ci_0 ?_
        exact e_le (g_X8_doesMore_108 (0 : Int32) μ _ (by omega) h) ⟨rfl, trivial⟩
      · rw [if_pos hc19] at h
        refine e_iconst dX8_doesMore_103 ci_1 ?_
        refine e_goto (tgt := 108) dX8_doesMore_104 rfl ?_
        exact e_le (g_X8_doesMore_108 (1 : Int32) μ _ (by omega) h) ⟨rfl, trivial⟩
  rw [if_neg hc17] at h
  by_cases hc20 : a0 = (6 : Int32)
  · rw [if_pos hc20] at h
    refine e_tsL (6 : Int32) (tgt := 122) hc20 dX8_doesMore_7 (by decide) (by decide) rfl rfl ?_
    refine e_iload_n dX8_doesMore_122 rfl ?_
    refine e_if_ne (tgt := 141) dX8_doesMore_123 rfl (fun hc21 => ?_) (fun hc21 => ?_)
    · rw [if_neg hc21] at h
      refine e_iconst dX8_doesMore_141 ci_0 ?_
      exact e_le (g_X8_doesMore_142 (0 : Int32) μ _ (by omega) h) ⟨rfl, trivial⟩
    · rw [if_pos hc21] at h
      refine e_iload_n dX8_doesMore_126 rfl ?_
      refine e_if_ne (tgt := 141) dX8_doesMore_127 rfl (fun hc22 => ?_) (fun hc22 => ?_)
      · rw [if_neg hc22] at h
        refine e_iconst dX8_doesMore_141 ci_0 ?_
        exact e_le (g_X8_doesMore_142 (0 : Int32) μ _ (by omega) h) ⟨rfl, trivial⟩
      · rw [if_pos hc22] at h
        refine e_aload_n dX8_doesMore_130 rfl ?_
        refine cI_go h (fun E25 hc23 hr26 => e_VX [] [] dX8_doesMore_131 rfl rfl rfl rfl (by decide) (Nat.le_of_ble_eq_true rfl) (by omega) ⟨rfl, hc23⟩ rfl ⟨hr26.symm, rfl⟩) (fun v27 μ24 hc23 h => ?_)
        refine e_VI [] [] dX8_doesMore_131 rfl rfl rfl rfl (by decide) (Nat.le_of_ble_eq_true rfl) (by omega) ⟨rfl, hc23⟩ ?_
        refine e_if_eq (tgt := 141) dX8_doesMore_134 rfl (fun hc28 => ?_) (fun hc28 => ?_)
        · rw [if_pos hc28] at h
          refine e_iconst dX8_doesMore_141 ci_0 ?_
          exact e_le (g_X8_doesMore_142 (0 : Int32) μ24 _ (by omega) h) ⟨rfl, trivial⟩
        · rw [if_neg hc28] at h
          refine e_iconst dX8_doesMore_137 ci_1 ?_
          refine e_goto (tgt := 142) dX8_doesMore_138 rfl ?_
          exact e_le (g_X8_doesMore_142 (1 : Int32) μ24 _ (by omega) h) ⟨rfl, trivial⟩
  rw [if_neg hc20] at h
  by_cases hc29 : a0 = (7 : Int32)
  · rw [if_pos hc29] at h
    refine e_tsL (7 : Int32) (tgt := 162) hc29 dX8_doesMore_7 (by decide) (by decide) rfl rfl ?_
    refine e_aload_n dX8_doesMore_162 rfl ?_
    refine cI_go h (fun E32 hc30 hr33 => e_VX [] [] dX8_doesMore_163 rfl rfl rfl rfl (by decide) (Nat.le_of_ble_eq_true rfl) (by omega) ⟨rfl, hc30⟩ rfl ⟨hr33.symm, rfl⟩) (fun v34 μ31 hc30 h => ?_)
    refine e_VI [] [] dX8_doesMore_163 rfl rfl rfl rfl (by decide) (Nat.le_of_ble_eq_true rfl) (by omega) ⟨rfl, hc30⟩ ?_
    refine e_bipush dX8_doesMore_166 cb_10 ?_
    refine e_iload_n dX8_doesMore_168 rfl ?_
    refine e_imul dX8_doesMore_169 ?_
    refine e_iload_n dX8_doesMore_170 rfl ?_
    refine e_iadd dX8_doesMore_171 ?_
    refine e_ic_gt (tgt := 179) dX8_doesMore_172 rfl (fun hc35 => ?_) (fun hc35 => ?_)
    · rw [if_pos hc35] at h
      refine e_iconst dX8_doesMore_179 ci_0 ?_
      exact e_iret .boolean dX8_doesMore_180 rfl rfl (ret_eq h)
    · rw [if_neg hc35] at h
      refine e_iconst dX8_doesMore_175 ci_1 ?_
      refine e_goto (tgt := 180) dX8_doesMore_176 rfl ?_
      exact e_iret .boolean dX8_doesMore_180 rfl rfl (ret_eq h)
  rw [if_neg hc29] at h
  by_cases hc36 : a0 = (8 : Int32)
  · rw [if_pos hc36] at h
    refine e_tsL (8 : Int32) (tgt := 181) hc36 dX8_doesMore_7 (by decide) (by decide) rfl rfl ?_
    refine e_aload_n dX8_doesMore_181 rfl ?_
    refine cI_go h (fun E39 hc37 hr40 => e_VX [] [] dX8_doesMore_182 rfl rfl rfl rfl (by decide) (Nat.le_of_ble_eq_true rfl) (by omega) ⟨rfl, hc37⟩ rfl ⟨hr40.symm, rfl⟩) (fun v41 μ38 hc37 h => ?_)
    refine e_VI [] [] dX8_doesMore_182 rfl rfl rfl rfl (by decide) (Nat.le_of_ble_eq_true rfl) (by omega) ⟨rfl, hc37⟩ ?_
    refine e_bipush dX8_doesMore_185 cb_10 ?_
    refine e_iload_n dX8_doesMore_187 rfl ?_
    refine e_imul dX8_doesMore_188 ?_
    refine e_iload_n dX8_doesMore_189 rfl ?_
    refine e_iadd dX8_doesMore_190 ?_
    refine e_ic_gt (tgt := 198) dX8_doesMore_191 rfl (fun hc42 => ?_) (fun hc42 => ?_)
    · rw [if_pos hc42] at h
      refine e_iconst dX8_doesMore_198 ci_0 ?_
      exact e_iret .boolean dX8_doesMore_199 rfl rfl (ret_eq h)
    · rw [if_neg hc42] at h
      refine e_iconst dX8_doesMore_194 ci_1 ?_
      refine e_goto (tgt := 199) dX8_doesMore_195 rfl ?_
      exact e_iret .boolean dX8_doesMore_199 rfl rfl (ret_eq h)
  rw [if_neg hc36] at h
  by_cases hc43 : a0 = (9 : Int32)
  · rw [if_pos hc43] at h
    refine e_tsL (9 : Int32) (tgt := 200) hc43 dX8_doesMore_7 (by decide) (by decide) rfl rfl ?_
    refine e_iload_n dX8_doesMore_200 rfl ?_
    refine e_if_ne (tgt := 216) dX8_doesMore_201 rfl (fun hc44 => ?_) (fun hc44 => ?_)
    · rw [if_neg hc44] at h
      refine e_iconst dX8_doesMore_216 ci_0 ?_
      exact e_iret .boolean dX8_doesMore_217 rfl rfl (ret_eq h)
    · rw [if_pos hc44] at h
      refine e_aload_n dX8_doesMore_204 rfl ?_
      refine cI_go h (fun E47 hc45 hr48 => e_VX [] [] dX8_doesMore_205 rfl rfl rfl rfl (by decide) (Nat.le_of_ble_eq_true rfl) (by omega) ⟨rfl, hc45⟩ rfl ⟨hr48.symm, rfl⟩) (fun v49 μ46 hc45 h => ?_)
      refine e_VI [] [] dX8_doesMore_205 rfl rfl rfl rfl (by decide) (Nat.le_of_ble_eq_true rfl) (by omega) ⟨rfl, hc45⟩ ?_
      refine e_iload_n dX8_doesMore_208 rfl ?_
      refine e_ic_gt (tgt := 216) dX8_doesMore_209 rfl (fun hc50 => ?_) (fun hc50 => ?_)
      · rw [if_pos hc50] at h
        refine e_iconst dX8_doesMore_216 ci_0 ?_
        exact e_iret .boolean dX8_doesMore_217 rfl rfl (ret_eq h)
      · rw [if_neg hc50] at h
        refine e_iconst dX8_doesMore_212 ci_1 ?_
        refine e_goto (tgt := 217) dX8_doesMore_213 rfl ?_
        exact e_iret .boolean dX8_doesMore_217 rfl rfl (ret_eq h)
  rw [if_neg hc43] at h
  refine e_tsOut (tgt := 218) dX8_doesMore_7 (ts_out_4_9 hc1 hc17 hc20 hc29 hc36 hc43) rfl ?_
  refine e_iconst dX8_doesMore_218 ci_0 ?_
  exact e_iret .boolean dX8_doesMore_219 rfl rfl (ret_eq h)
set_option maxRecDepth 20000 in
theorem ok_X8_doesMore (l : Launch) (hl : l.stackTraces = false) : MOK l yX8_doesMore.cls 8 161 mX8_doesMore := ⟨lk_all (List.forall_mem_cons.mpr ⟨⟨yX8_findsFirst, cX8_findsFirst, 3, (some .boolean), 6, 116, by decide, by decide, t_1 7 rfl rfl, hd_X8_findsFirst, Or.inr (Or.inl ⟨rfl, sc_X8_findsFirst l hl, t_6 7 rfl rfl, t_6 4 rfl rfl, t_6 6 rfl rfl, _, rfl, t_p 71 rfl⟩)⟩, List.forall_mem_cons.mpr ⟨⟨yX8_wrongLines, cX8_wrongLines, 3, (some .int), 4, 65, by decide, by decide, t_1 7 rfl rfl, hd_X8_wrongLines, Or.inr (Or.inl ⟨rfl, sc_X8_wrongLines l hl, t_5 97 rfl rfl, t_5 94 rfl rfl, t_5 96 rfl rfl, _, rfl, t_p 47 rfl⟩)⟩, List.forall_mem_cons.mpr ⟨⟨yX8_laysPieces, cX8_laysPieces, 6, (some .int), 5, 93, by decide, by decide, t_1 7 rfl rfl, hd_X8_laysPieces, Or.inr (Or.inl ⟨rfl, sc_X8_laysPieces l hl, t_5 101 rfl rfl, t_5 98 rfl rfl, t_5 100 rfl rfl, _, rfl, t_p 48 rfl⟩)⟩, List.forall_mem_cons.mpr ⟨⟨yX8_outline, cX8_outline, 4, (some .int), 5, 88, by decide, by decide, t_1 7 rfl rfl, hd_X8_outline, Or.inr (Or.inl ⟨rfl, sc_X8_outline l hl, t_5 117 rfl rfl, t_5 114 rfl rfl, t_5 116 rfl rfl, _, rfl, t_p 52 rfl⟩)⟩, List.forall_mem_cons.mpr ⟨⟨yX8_takesPicture, cX8_takesPicture, 4, (some .int), 3, 45, by decide, by decide, t_1 7 rfl rfl, hd_X8_takesPicture, Or.inr (Or.inl ⟨rfl, sc_X8_takesPicture l hl, t_6 19 rfl rfl, t_6 16 rfl rfl, t_6 18 rfl rfl, _, rfl, t_p 74 rfl⟩)⟩, List.forall_mem_cons.mpr ⟨⟨yX8_findsBehind, cX8_findsBehind, 1, (some .boolean), 7, 141, by decide, by decide, t_1 7 rfl rfl, hd_X8_findsBehind, Or.inr (Or.inl ⟨rfl, sc_X8_findsBehind l hl, t_6 31 rfl rfl, t_6 28 rfl rfl, t_6 30 rfl rfl, _, rfl, t_p 76 rfl⟩)⟩, List.forall_mem_cons.mpr ⟨⟨yX8_turns, cX8_turns, 5, none, 2, 24, by decide, by decide, t_1 7 rfl rfl, hd_X8_turns, Or.inr (Or.inl ⟨rfl, sc_X8_turns l hl, t_6 47 rfl rfl, t_6 44 rfl rfl, t_6 46 rfl rfl, _, rfl, t_p 79 rfl⟩)⟩, nil_all⟩⟩⟩⟩⟩⟩⟩), fun ix ci j h => lk_all (P := fun ix q => FldOK yX8_doesMore.cls ix q.1 q.2) (nil_all) ix (ci, j) h, lk_all (nil_all), lk_all (nil_all), lk_all (nil_all)⟩
theorem hd_X8_doesMore : CallHd yX8_doesMore 3 := ⟨by decide +kernel, by decide +kernel, by decide +kernel⟩
theorem sc_X8_doesMore (l : Launch) (hl : l.stackTraces = false) : SCon l yX8_doesMore cX8_doesMore 6 (some .boolean) 8 161 0 Γ_X8_doesMore := scon_of mX8_doesMore cls_ok hl (by decide +kernel) rfl rfl (ok_X8_doesMore l hl) rfl rfl b_X8_doesMore
def F_X8_isLine (a0 : Int32) (μ : Mem) : Out := cI (F_X8_rows μ) (fun v5 μ2 => cI (F_X8_columns μ2) (fun v10 μ7 => cI (F_X8_in a0 (0 : Int32) ((v5 + v10) - (1 : Int32)) μ7) (fun v15 μ12 => ck (nz v15) (rI v15 μ12))))
def Γ_X8_isLine : Gam := fun as μ r μ' => ∃ (a0 : Int32), as = [.ref 29, .int a0] ∧ F_X8_isLine a0 μ = some (r, μ')
def mX8_isLine : MI := (cX8_isLine, [(76, (1, 0, 0, 6, Γ_X8_rows)), (80, (0, 3, 0, 0, Γ_X8_in)), (84, (1, 0, 0, 6, Γ_X8_columns))], [], [], [], [], [], none, (some .boolean))
set_option maxHeartbeats 4000000 in
theorem b_X8_isLine : ∀ as μ r μ', Γ_X8_isLine as μ r μ' → (elvL as).length ≤ 2 ∧ G mX8_isLine (Qe r μ') 0 (elv as 2) [] μ 0 := by
  intro as μ r μ' h
  obtain ⟨a0, rfl, h⟩ := h
  refine ⟨Nat.le_of_ble_eq_true rfl, ?_⟩
  show G mX8_isLine (Qe r μ') 0 [some (.ref 29), some (.int a0)] [] μ 0
  unfold F_X8_isLine at h
  have hb9 : 0 ≤ 0 := Nat.le_refl _
  refine e_iload_n dX8_isLine_0 rfl ?_
  refine e_iconst dX8_isLine_1 ci_0 ?_
  refine e_aload_n dX8_isLine_2 rfl ?_
  refine cI_go h (fun E3 hc1 hr4 => e_VX [] [.int (0 : Int32), .int a0] dX8_isLine_3 rfl rfl rfl rfl (by decide) (Nat.le_of_ble_eq_true rfl) (by omega) ⟨rfl, hc1⟩ rfl ⟨hr4.symm, rfl⟩) (fun v5 μ2 hc1 h => ?_)
  refine e_VI [] [.int (0 : Int32), .int a0] dX8_isLine_3 rfl rfl rfl rfl (by decide) (Nat.le_of_ble_eq_true rfl) (by omega) ⟨rfl, hc1⟩ ?_
  refine e_aload_n dX8_isLine_6 rfl ?_
  refine cI_go h (fun E8 hc6 hr9 => e_VX [] [.int v5, .int (0 : Int32), .int a0] dX8_isLine_7 rfl rfl rfl rfl (by decide) (Nat.le_of_ble_eq_true rfl) (by omega) ⟨rfl, hc6⟩ rfl ⟨hr9.symm, rfl⟩) (fun v10 μ7 hc6 h => ?_)
  refine e_VI [] [.int v5, .int (0 : Int32), .int a0] dX8_isLine_7 rfl rfl rfl rfl (by decide) (Nat.le_of_ble_eq_true rfl) (by omega) ⟨rfl, hc6⟩ ?_
  refine e_iadd dX8_isLine_10 ?_
  refine e_iconst dX8_isLine_11 ci_1 ?_
  refine e_isub dX8_isLine_12 ?_
  refine cI_go h (fun E13 hc11 hr14 => e_SX [.int a0, .int (0 : Int32), .int ((v5 + v10) - (1 : Int32))] [] dX8_isLine_13 rfl (by decide) rfl rfl (Nat.le_of_ble_eq_true rfl) (by omega) ⟨a0, (0 : Int32), (v5 + v10) - (1 : Int32), rfl, hc11⟩ rfl ⟨hr14.symm, rfl⟩) (fun v15 μ12 hc11 h => ?_)
  refine e_SI [.int a0, .int (0 : Int32), .int ((v5 + v10) - (1 : Int32))] [] dX8_isLine_13 rfl (by decide) rfl rfl (Nat.le_of_ble_eq_true rfl) (by omega) ⟨a0, (0 : Int32), (v5 + v10) - (1 : Int32), rfl, hc11⟩ ?_
  obtain ⟨hc16, h⟩ := ck_eq h
  exact e_iret .boolean dX8_isLine_16 rfl hc16 (ret_eq h)
set_option maxRecDepth 20000 in
theorem ok_X8_isLine (l : Launch) (hl : l.stackTraces = false) : MOK l yX8_isLine.cls 2 22 mX8_isLine := ⟨lk_all (List.forall_mem_cons.mpr ⟨⟨yX8_rows, cX8_rows, 1, (some .int), 1, 0, by decide, by decide, t_1 7 rfl rfl, hd_X8_rows, Or.inr (Or.inl ⟨rfl, sc_X8_rows l hl, t_5 45 rfl rfl, t_5 42 rfl rfl, t_5 44 rfl rfl, _, rfl, t_p 35 rfl⟩)⟩, List.forall_mem_cons.mpr ⟨⟨yX8_in, cX8_in, 3, (some .boolean), 1, 0, by decide, by decide, t_1 7 rfl rfl, hd_X8_in, Or.inl ⟨rfl, sc_X8_in l hl, t_5 18 rfl rfl, t_5 16 rfl rfl, t_5 17 rfl rfl⟩⟩, List.forall_mem_cons.mpr ⟨⟨yX8_columns, cX8_columns, 1, (some .int), 1, 0, by decide, by decide, t_1 7 rfl rfl, hd_X8_columns, Or.inr (Or.inl ⟨rfl, sc_X8_columns l hl, t_5 49 rfl rfl, t_5 46 rfl rfl, t_5 48 rfl rfl, _, rfl, t_p 36 rfl⟩)⟩, nil_all⟩⟩⟩), fun ix ci j h => lk_all (P := fun ix q => FldOK yX8_isLine.cls ix q.1 q.2) (nil_all) ix (ci, j) h, lk_all (nil_all), lk_all (nil_all), lk_all (nil_all)⟩
theorem hd_X8_isLine : CallHd yX8_isLine 1 := ⟨by decide +kernel, by decide +kernel, by decide +kernel⟩
theorem sc_X8_isLine (l : Launch) (hl : l.stackTraces = false) : SCon l yX8_isLine cX8_isLine 2 (some .boolean) 2 22 0 Γ_X8_isLine := scon_of mX8_isLine cls_ok hl (by decide +kernel) rfl rfl (ok_X8_isLine l hl) rfl rfl b_X8_isLine
def F_X8_pins (a0 : Int32) (a1 : Int32) (a2 : Int32) (μ : Mem) : Out := lt (((2 : Int32) + ((6 : Int32) * a0)) + a1) (fun v1 => if a2 = 0 then (ck (inb v1 50) (ck (inb v1 50) (lt (sI μ 30 (Int32.toNatClampNeg v1) ((μ.1 30 (Int32.toNatClampNeg v1)) &&& (1 : Int32))) (fun μ5 => rV μ5)))) else (ck (inb v1 50) (ck (inb v1 50) (lt (sI μ 30 (Int32.toNatClampNeg v1) ((μ.1 30 (Int32.toNatClampNeg v1)) ||| (2 : Int32))) (fun μ8 => rV μ8)))))
def Γ_X8_pins : Gam := fun as μ r μ' => ∃ (a0 : Int32) (a1 : Int32) (a2 : Int32), as = [.ref 29, .int a0, .int a1, .int a2] ∧ F_X8_pins a0 a1 a2 μ = some (r, μ')
def mX8_pins : MI := (cX8_pins, [], [(7, 6, 0)], [], [], [], [], none, none)
set_option maxHeartbeats 4000000 in
theorem b_X8_pins : ∀ as μ r μ', Γ_X8_pins as μ r μ' → (elvL as).length ≤ 5 ∧ G mX8_pins (Qe r μ') 0 (elv as 5) [] μ 0 := by
  intro as μ r μ' h
  obtain ⟨a0, a1, a2, rfl, h⟩ := h
  refine ⟨Nat.le_of_ble_eq_true rfl, ?_⟩
  show G mX8_pins (Qe r μ') 0 [some (.ref 29), some (.int a0), some (.int a1), some (.int a2), none] [] μ 0
  unfold F_X8_pins at h
  have hb9 : 0 ≤ 0 := Nat.le_refl _
  refine e_iconst dX8_pins_0 ci_2 ?_
  refine e_bipush dX8_pins_1 cb_6 ?_
  refine e_iload_n dX8_pins_3 rfl ?_
  refine e_imul dX8_pins_4 ?_
  refine e_iadd dX8_pins_5 ?_
  refine e_iload_n dX8_pins_6 rfl ?_
  refine e_iadd dX8_pins_7 ?_
  refine e_naI h (fun v1 ev1 h => ?_)
  refine e_istoreL [some (.ref 29), some (.int a0), some (.int a1), some (.int a2), some (.int v1)] dX8_pins_8 (Nat.le_of_ble_eq_true rfl) rfl ?_
  refine e_aload_n dX8_pins_10 rfl ?_
  refine e_get (ci := 6) (j := 0) (t := 2) (v := .ref 30) dX8_pins_11 rfl (by decide) rfl rfl rfl ?_
  refine e_iload dX8_pins_14 rfl ?_
  refine e_iload_n dX8_pins_16 rfl ?_
  refine e_if_eq (tgt := 32) dX8_pins_17 rfl (fun hc2 => ?_) (fun hc2 => ?_)
  · rw [if_pos hc2] at h
    refine e_aload_n dX8_pins_32 rfl ?_
    refine e_get (ci := 6) (j := 0) (t := 2) (v := .ref 30) dX8_pins_33 rfl (by decide) rfl rfl rfl ?_
    refine e_iload dX8_pins_36 rfl ?_
    obtain ⟨hc3, h⟩ := ck_eq h
    refine e_ialoadL (μ.1 30 (Int32.toNatClampNeg v1)) (n := 50) dX8_pins_38 (by decide) rfl hc3 rfl ?_
    refine e_iconst dX8_pins_39 ci_1 ?_
    refine e_iand dX8_pins_40 ?_
    obtain ⟨hc4, h⟩ := ck_eq h
    refine e_iastore (n := 50) dX8_pins_41 (by decide) rfl hc4 ?_
    refine e_naM (e := sI μ 30 (Int32.toNatClampNeg v1) ((μ.1 30 (Int32.toNatClampNeg v1)) &&& (1 : Int32))) h (fun μ5 eμ5 h => ?_)
    exact e_vret dX8_pins_42 rfl (ret_eq h)
  · rw [if_neg hc2] at h
    refine e_aload_n dX8_pins_20 rfl ?_
    refine e_get (ci := 6) (j := 0) (t := 2) (v := .ref 30) dX8_pins_21 rfl (by decide) rfl rfl rfl ?_
    refine e_iload dX8_pins_24 rfl ?_
    obtain ⟨hc6, h⟩ := ck_eq h
    refine e_ialoadL (μ.1 30 (Int32.toNatClampNeg v1)) (n := 50) dX8_pins_26 (by decide) rfl hc6 rfl ?_
    refine e_iconst dX8_pins_27 ci_2 ?_
    refine e_ior dX8_pins_28 ?_
    refine e_goto (tgt := 41) dX8_pins_29 rfl ?_
    obtain ⟨hc7, h⟩ := ck_eq h
    refine e_iastore (n := 50) dX8_pins_41 (by decide) rfl hc7 ?_
    refine e_naM (e := sI μ 30 (Int32.toNatClampNeg v1) ((μ.1 30 (Int32.toNatClampNeg v1)) ||| (2 : Int32))) h (fun μ8 eμ8 h => ?_)
    exact e_vret dX8_pins_42 rfl (ret_eq h)
set_option maxRecDepth 20000 in
theorem ok_X8_pins (l : Launch) (hl : l.stackTraces = false) : MOK l yX8_pins.cls 1 0 mX8_pins := ⟨lk_all (nil_all), fun ix ci j h => lk_all (P := fun ix q => FldOK yX8_pins.cls ix q.1 q.2) (List.forall_mem_cons.mpr ⟨⟨_, rfl, by decide, t_4 178 rfl rfl⟩, nil_all⟩) ix (ci, j) h, lk_all (nil_all), lk_all (nil_all), lk_all (nil_all)⟩
theorem hd_X8_pins : CallHd yX8_pins 3 := ⟨by decide +kernel, by decide +kernel, by decide +kernel⟩
theorem sc_X8_pins (l : Launch) (hl : l.stackTraces = false) : SCon l yX8_pins cX8_pins 5 none 1 0 0 Γ_X8_pins := scon_of mX8_pins cls_ok hl (by decide +kernel) rfl rfl (ok_X8_pins l hl) rfl rfl b_X8_pins
def f_X8_does_81 (x2 : Int32) (x3 : Int32) (x4 : Int32) (s0 : Int32) (μ : Mem) : Out := if s0 = 0 then (ck (nz s0) (rI s0 μ)) else (if x4 = (1 : Int32) then (cV (F_X8_fills x2 x3 (1 : Int32) μ) (fun μ51 => ck (nz s0) (rI s0 μ51))) else (cV (F_X8_fills x2 x3 (0 : Int32) μ) (fun μ46 => ck (nz s0) (rI s0 μ46))))
def f_X8_does_128 (x2 : Int32) (x3 : Int32) (x4 : Int32) (s0 : Int32) (μ : Mem) : Out := if s0 = 0 then (ck (nz s0) (rI s0 μ)) else (if x4 = (1 : Int32) then (cV (F_X8_pins x2 x3 (1 : Int32) μ) (fun μ64 => ck (nz s0) (rI s0 μ64))) else (cV (F_X8_pins x2 x3 (0 : Int32) μ) (fun μ59 => ck (nz s0) (rI s0 μ59))))
def f_X8_does_184 (x4 : Int32) (x7 : Int32) (s0 : Int32) (μ : Mem) : Out := if s0 = 0 then (ck (nz s0) (rI s0 μ)) else (cI (F_X8_wantAt x7 μ) (fun v74 μ71 => ck (inb v74 50) (lt (sI μ71 30 (Int32.toNatClampNeg v74) x4) (fun μ76 => ck (nz s0) (rI s0 μ76)))))
def F_X8_does (a0 : Int32) (μ : Mem) : Out := lt (remI (a0 / (100 : Int32)) (10 : Int32)) (fun v1 => lt (remI (a0 / (10 : Int32)) (10 : Int32)) (fun v2 => lt (remI a0 (10 : Int32)) (fun v3 => if (a0 / (1000 : Int32)) = (1 : Int32) then (cI (F_X8_isCell v1 v2 μ) (fun v9 μ6 => if v9 = 0 then (f_X8_does_81 v1 v2 v3 (0 : Int32) μ6) else (if (2 : Int32) ≤ v3 then (f_X8_does_81 v1 v2 v3 (0 : Int32) μ6) else (cI (F_X8_isPinned v1 v2 μ6) (fun v16 μ13 => if v16 = 0 then (f_X8_does_81 v1 v2 v3 (1 : Int32) μ13) else (f_X8_does_81 v1 v2 v3 (0 : Int32) μ13)))))) else if (a0 / (1000 : Int32)) = (2 : Int32) then (cI (F_X8_isCell v1 v2 μ) (fun v23 μ20 => if v23 = 0 then (f_X8_does_128 v1 v2 v3 (0 : Int32) μ20) else (if (2 : Int32) ≤ v3 then (f_X8_does_128 v1 v2 v3 (0 : Int32) μ20) else (f_X8_does_128 v1 v2 v3 (1 : Int32) μ20)))) else if (a0 / (1000 : Int32)) = (3 : Int32) then (lt (((10 : Int32) * v1) + v2) (fun v27 => cI (F_X8_isLine v27 μ) (fun v32 μ29 => if v32 = 0 then (f_X8_does_184 v3 v27 (0 : Int32) μ29) else (if (7 : Int32) ≤ v3 then (f_X8_does_184 v3 v27 (0 : Int32) μ29) else (f_X8_does_184 v3 v27 (1 : Int32) μ29))))) else (if v1 = 0 then (cI (F_X8_doesMore (a0 / (1000 : Int32)) v2 v3 μ) (fun v40 μ37 => if v40 = 0 then (rI (0 : Int32) μ37) else (rI (1 : Int32) μ37))) else (rI (0 : Int32) μ)))))
def Γ_X8_does : Gam := fun as μ r μ' => ∃ (a0 : Int32), as = [.ref 29, .int a0] ∧ F_X8_does a0 μ = some (r, μ')
def mX8_does : MI := (cX8_does, [(105, (1, 1, 0, 6, Γ_X8_wantAt)), (127, (1, 2, 0, 6, Γ_X8_isCell)), (145, (1, 2, 0, 6, Γ_X8_isPinned)), (179, (1, 3, 0, 6, Γ_X8_fills)), (214, (1, 1, 0, 6, Γ_X8_isLine)), (233, (1, 3, 0, 6, Γ_X8_pins)), (255, (1, 3, 0, 6, Γ_X8_doesMore))], [(7, 6, 0)], [], [], [], [], none, (some .boolean))
set_option maxHeartbeats 4000000 in
theorem g_X8_does_81 {r : Res} {μ' : Mem} : ∀ (x2 : Int32) (x3 : Int32) (x4 : Int32) (s0 : Int32), ∀ (μ : Mem) (b : Nat), 0 ≤ b → f_X8_does_81 x2 x3 x4 s0 μ = some (r, μ') → G mX8_does (Qe r μ') 81 [some (.ref 29), none, some (.int x2), some (.int x3), some (.int x4), none, none, none, none] [.int s0] μ b := by
  intro x2 x3 x4 s0 μ b hb9 h
  unfold f_X8_does_81 at h
  refine e_istoreL [some (.ref 29), none, some (.int x2), some (.int x3), some (.int x4), some (.int s0), none, none, none] dX8_does_81 (Nat.le_of_ble_eq_true rfl) rfl ?_
  refine e_iload dX8_does_83 rfl ?_
  refine e_if_eq (tgt := 105) dX8_does_85 rfl (fun hc42 => ?_) (fun hc42 => ?_)
  · rw [if_pos hc42] at h
    refine e_iload dX8_does_105 rfl ?_
    obtain ⟨hc43, h⟩ := ck_eq h
    exact e_iret .boolean dX8_does_107 rfl hc43 (ret_eq h)
  · rw [if_neg hc42] at h
    refine e_aload_n dX8_does_88 rfl ?_
    refine e_iload_n dX8_does_89 rfl ?_
    refine e_iload_n dX8_does_90 rfl ?_
    refine e_iload dX8_does_91 rfl ?_
    refine e_iconst dX8_does_93 ci_1 ?_
    refine e_ic_ne (tgt := 101) dX8_does_94 rfl (fun hc44 => ?_) (fun hc44 => ?_)
    · rw [if_neg hc44] at h
      refine e_iconst dX8_does_101 ci_0 ?_
      refine cV_go h (fun E47 hc45 hr48 => e_VX [.int x2, .int x3, .int (0 : Int32)] [] dX8_does_102 rfl rfl rfl rfl (by decide) (Nat.le_of_ble_eq_true rfl) (by omega) ⟨x2, x3, (0 : Int32), rfl, hc45⟩ rfl ⟨hr48.symm, rfl⟩) (fun μ46 hc45 h => ?_)
      refine e_VV [.int x2, .int x3, .int (0 : Int32)] [] dX8_does_102 rfl rfl rfl rfl (by decide) (Nat.le_of_ble_eq_true rfl) (by omega) ⟨x2, x3, (0 : Int32), rfl, hc45⟩ ?_
      refine e_iload dX8_does_105 rfl ?_
      obtain ⟨hc49, h⟩ := ck_eq h
      exact e_iret .boolean dX8_does_107 rfl hc49 (ret_eq h)
    · rw [if_pos hc44] at h
      refine e_iconst dX8_does_97 ci_1 ?_
      refine e_goto (tgt := 102) dX8_does_98 rfl ?_
      refine cV_go h (fun E52 hc50 hr53 => e_VX [.int x2, .int x3, .int (1 : Int32)] [] dX8_does_102 rfl rfl rfl rfl (by decide) (Nat.le_of_ble_eq_true rfl) (by omega) ⟨x2, x3, (1 : Int32), rfl, hc50⟩ rfl ⟨hr53.symm, rfl⟩) (fun μ51 hc50 h => ?_)
      refine e_VV [.int x2, .int x3, .int (1 : Int32)] [] dX8_does_102 rfl rfl rfl rfl (by decide) (Nat.le_of_ble_eq_true rfl) (by omega) ⟨x2, x3, (1 : Int32), rfl, hc50⟩ ?_
      refine e_iload dX8_does_105 rfl ?_
      obtain ⟨hc54, h⟩ := ck_eq h
      exact e_iret .boolean dX8_does_107 rfl hc54 (ret_eq h)
set_option maxHeartbeats 4000000 in
theorem g_X8_does_128 {r : Res} {μ' : Mem} : ∀ (x2 : Int32) (x3 : Int32) (x4 : Int32) (s0 : Int32), ∀ (μ : Mem) (b : Nat), 0 ≤ b → f_X8_does_128 x2 x3 x4 s0 μ = some (r, μ') → G mX8_does (Qe r μ') 128 [some (.ref 29), none, some (.int x2), some (.int x3), some (.int x4), none, none, none, none] [.int s0] μ b := by
  intro x2 x3 x4 s0 μ b hb9 h
  unfold f_X8_does_128 at h
  refine e_istoreL [some (.ref 29), none, some (.int x2), some (.int x3), some (.int x4), none, some (.int s0), none, none] dX8_does_128 (Nat.le_of_ble_eq_true rfl) rfl ?_
  refine e_iload dX8_does_130 rfl ?_
  refine e_if_eq (tgt := 152) dX8_does_132 rfl (fun hc55 => ?_) (fun hc55 => ?_)
  · rw [if_pos hc55] at h
    refine e_iload dX8_does_152 rfl ?_
    obtain ⟨hc56, h⟩ := ck_eq h
    exact e_iret .boolean dX8_does_154 rfl hc56 (ret_eq h)
  · rw [if_neg hc55] at h
    refine e_aload_n dX8_does_135 rfl ?_
    refine e_iload_n dX8_does_136 rfl ?_
    refine e_iload_n dX8_does_137 rfl ?_
    refine e_iload dX8_does_138 rfl ?_
    refine e_iconst dX8_does_140 ci_1 ?_
    refine e_ic_ne (tgt := 148) dX8_does_141 rfl (fun hc57 => ?_) (fun hc57 => ?_)
    · rw [if_neg hc57] at h
      refine e_iconst dX8_does_148 ci_0 ?_
      refine cV_go h (fun E60 hc58 hr61 => e_VX [.int x2, .int x3, .int (0 : Int32)] [] dX8_does_149 rfl rfl rfl rfl (by decide) (Nat.le_of_ble_eq_true rfl) (by omega) ⟨x2, x3, (0 : Int32), rfl, hc58⟩ rfl ⟨hr61.symm, rfl⟩) (fun μ59 hc58 h => ?_)
      refine e_VV [.int x2, .int x3, .int (0 : Int32)] [] dX8_does_149 rfl rfl rfl rfl (by decide) (Nat.le_of_ble_eq_true rfl) (by omega) ⟨x2, x3, (0 : Int32), rfl, hc58⟩ ?_
      refine e_iload dX8_does_152 rfl ?_
      obtain ⟨hc62, h⟩ := ck_eq h
      exact e_iret .boolean dX8_does_154 rfl hc62 (ret_eq h)
    · rw [if_pos hc57] at h
      refine e_iconst dX8_does_144 ci_1 ?_
      refine e_goto (tgt := 149) dX8_does_145 rfl ?_
      refine cV_go h (fun E65 hc63 hr66 => e_VX [.int x2, .int x3, .int (1 : Int32)] [] dX8_does_149 rfl rfl rfl rfl (by decide) (Nat.le_of_ble_eq_true rfl) (by omega) ⟨x2, x3, (1 : Int32), rfl, hc63⟩ rfl ⟨hr66.symm, rfl⟩) (fun μ64 hc63 h => ?_)
      refine e_VV [.int x2, .int x3, .int (1 : Int32)] [] dX8_does_149 rfl rfl rfl rfl (by decide) (Nat.le_of_ble_eq_true rfl) (by omega) ⟨x2, x3, (1 : Int32), rfl, hc63⟩ ?_
      refine e_iload dX8_does_152 rfl ?_
      obtain ⟨hc67, h⟩ := ck_eq h
      exact e_iret .boolean dX8_does_154 rfl hc67 (ret_eq h)
set_option maxHeartbeats 4000000 in
theorem g_X8_does_184 {r : Res} {μ' : Mem} : ∀ (x4 : Int32) (x7 : Int32) (s0 : Int32), ∀ (μ : Mem) (b : Nat), 0 ≤ b → f_X8_does_184 x4 x7 s0 μ = some (r, μ') → G mX8_does (Qe r μ') 184 [some (.ref 29), none, none, none, some (.int x4), none, none, some (.int x7), none] [.int s0] μ b := by
  intro x4 x7 s0 μ b hb9 h
  unfold f_X8_does_184 at h
  refine e_istoreL [some (.ref 29), none, none, none, some (.int x4), none, none, some (.int x7), some (.int s0)] dX8_does_184 (Nat.le_of_ble_eq_true rfl) rfl ?_
  refine e_iload dX8_does_186 rfl ?_
  refine e_if_eq (tgt := 204) dX8_does_188 rfl (fun hc68 => ?_) (fun hc68 => ?_)
  · rw [if_pos hc68] at h
    refine e_iload dX8_does_204 rfl ?_
    obtain ⟨hc69, h⟩ := ck_eq h
    exact e_iret .boolean dX8_does_206 rfl hc69 (ret_eq h)
  · rw [if_neg hc68] at h
    refine e_aload_n dX8_does_191 rfl ?_
    refine e_get (ci := 6) (j := 0) (t := 2) (v := .ref 30) dX8_does_192 rfl (by decide) rfl rfl rfl ?_
    refine e_aload_n dX8_does_195 rfl ?_
    refine e_iload dX8_does_196 rfl ?_
    refine cI_go h (fun E72 hc70 hr73 => e_VX [.int x7] [.ref 30] dX8_does_198 rfl rfl rfl rfl (by decide) (Nat.le_of_ble_eq_true rfl) (by omega) ⟨x7, rfl, hc70⟩ rfl ⟨hr73.symm, rfl⟩) (fun v74 μ71 hc70 h => ?_)
    refine e_VI [.int x7] [.ref 30] dX8_does_198 rfl rfl rfl rfl (by decide) (Nat.le_of_ble_eq_true rfl) (by omega) ⟨x7, rfl, hc70⟩ ?_
    refine e_iload dX8_does_201 rfl ?_
    obtain ⟨hc75, h⟩ := ck_eq h
    refine e_iastore (n := 50) dX8_does_203 (by decide) rfl hc75 ?_
    refine e_naM (e := sI μ71 30 (Int32.toNatClampNeg v74) x4) h (fun μ76 eμ76 h => ?_)
    refine e_iload dX8_does_204 rfl ?_
    obtain ⟨hc77, h⟩ := ck_eq h
    exact e_iret .boolean dX8_does_206 rfl hc77 (ret_eq h)
set_option maxHeartbeats 4000000 in
theorem b_X8_does : ∀ as μ r μ', Γ_X8_does as μ r μ' → (elvL as).length ≤ 9 ∧ G mX8_does (Qe r μ') 0 (elv as 9) [] μ 0 := by
  intro as μ r μ' h
  obtain ⟨a0, rfl, h⟩ := h
  refine ⟨Nat.le_of_ble_eq_true rfl, ?_⟩
  show G mX8_does (Qe r μ') 0 [some (.ref 29), some (.int a0), none, none, none, none, none, none, none] [] μ 0
  unfold F_X8_does at h
  have hb9 : 0 ≤ 0 := Nat.le_refl _
  refine e_iload_n dX8_does_0 rfl ?_
  refine e_bipush dX8_does_1 cb_100 ?_
  refine e_idiv dX8_does_3 (by decide) ?_
  refine e_bipush dX8_does_4 cb_10 ?_
  refine e_irem dX8_does_6 (by decide) ?_
  refine e_naI h (fun v1 ev1 h => ?_)
  refine e_istore_nL [some (.ref 29), some (.int a0), some (.int v1), none, none, none, none, none, none] dX8_does_7 (Nat.le_of_ble_eq_true rfl) rfl ?_
  refine e_iload_n dX8_does_8 rfl ?_
  refine e_bipush dX8_does_9 cb_10 ?_
  refine e_idiv dX8_does_11 (by decide) ?_
  refine e_bipush dX8_does_12 cb_10 ?_
  refine e_irem dX8_does_14 (by decide) ?_
  refine e_naI h (fun v2 ev2 h => ?_)
  refine e_istore_nL [some (.ref 29), some (.int a0), some (.int v1), some (.int v2), none, none, none, none, none] dX8_does_15 (Nat.le_of_ble_eq_true rfl) rfl ?_
  refine e_iload_n dX8_does_16 rfl ?_
  refine e_bipush dX8_does_17 cb_10 ?_
  refine e_irem dX8_does_19 (by decide) ?_
  refine e_naI h (fun v3 ev3 h => ?_)
  refine e_istoreL [some (.ref 29), some (.int a0), some (.int v1), some (.int v2), some (.int v3), none, none, none, none] dX8_does_20 (Nat.le_of_ble_eq_true rfl) rfl ?_
  refine e_iload_n dX8_does_22 rfl ?_
  refine e_sipush dX8_does_23 cs_1000 ?_
  refine e_idiv dX8_does_26 (by decide) ?_
  by_cases hc4 : (a0 / (1000 : Int32)) = (1 : Int32)
  · rw [if_pos hc4] at h
    refine e_tsL (1 : Int32) (tgt := 52) hc4 dX8_does_27 (by decide) (by decide) rfl rfl ?_
    refine e_aload_n dX8_does_52 rfl ?_
    refine e_iload_n dX8_does_53 rfl ?_
    refine e_iload_n dX8_does_54 rfl ?_
    refine cI_go h (fun E7 hc5 hr8 => e_VX [.int v1, .int v2] [] dX8_does_55 rfl rfl rfl rfl (by decide) (Nat.le_of_ble_eq_true rfl) (by omega) ⟨v1, v2, rfl, hc5⟩ rfl ⟨hr8.symm, rfl⟩) (fun v9 μ6 hc5 h => ?_)
    refine e_VI [.int v1, .int v2] [] dX8_does_55 rfl rfl rfl rfl (by decide) (Nat.le_of_ble_eq_true rfl) (by omega) ⟨v1, v2, rfl, hc5⟩ ?_
    refine e_if_eq (tgt := 80) dX8_does_58 rfl (fun hc10 => ?_) (fun hc10 => ?_)
    · rw [if_pos hc10] at h
      refine e_iconst dX8_does_80 ci_0 ?_
      exact e_le (g_X8_does_81 v1 v2 v3 (0 : Int32) μ6 _ (by omega) h) ⟨rfl, rfl, rfl, rfl, trivial⟩
    · rw [if_neg hc10] at h
      refine e_iload dX8_does_61 rfl ?_
      refine e_iconst dX8_does_63 ci_2 ?_
      refine e_ic_ge (tgt := 80) dX8_does_64 rfl (fun hc11 => ?_) (fun hc11 => ?_)
      · rw [if_pos hc11] at h
        refine e_iconst dX8_does_80 ci_0 ?_
        exact e_le (g_X8_does_81 v1 v2 v3 (0 : Int32) μ6 _ (by omega) h) ⟨rfl, rfl, rfl, rfl, trivial⟩
      · rw [if_neg hc11] at h
        refine e_aload_n dX8_does_67 rfl ?_
        refine e_iload_n dX8_does_68 rfl ?_
        refine e_iload_n dX8_does_69 rfl ?_
        refine cI_go h (fun E14 hc12 hr15 => e_VX [.int v1, .int v2] [] dX8_does_70 rfl rfl rfl rfl (by decide) (Nat.le_of_ble_eq_true rfl) (by omega) ⟨v1, v2, rfl, hc12⟩ rfl ⟨hr15.symm, rfl⟩) (fun v16 μ13 hc12 h => ?_)
        refine e_VI [.int v1, .int v2] [] dX8_does_70 rfl rfl rfl rfl (by decide) (Nat.le_of_ble_eq_true rfl) (by omega) ⟨v1, v2, rfl, hc12⟩ ?_
        refine e_if_ne (tgt := 80) dX8_does_73 rfl (fun hc17 => ?_) (fun hc17 => ?_)
        · rw [if_neg hc17] at h
          refine e_iconst dX8_does_80 ci_0 ?_
          exact e_le (g_X8_does_81 v1 v2 v3 (0 : Int32) μ13 _ (by omega) h) ⟨rfl, rfl, rfl, rfl, trivial⟩
        · rw [if_pos hc17] at h
          refine e_iconst dX8_does_76 ci_1 ?_
          refine e_goto (tgt := 81) dX8_does_77 rfl ?_
          exact e_le (g_X8_does_81 v1 v2 v3 (1 : Int32) μ13 _ (by omega) h) ⟨rfl, rfl, rfl, rfl, trivial⟩
  rw [if_neg hc4] at h
  by_cases hc18 : (a0 / (1000 : Int32)) = (2 : Int32)
  · rw [if_pos hc18] at h
    refine e_tsL (2 : Int32) (tgt := 108) hc18 dX8_does_27 (by decide) (by decide) rfl rfl ?_
    refine e_aload_n dX8_does_108 rfl ?_
    refine e_iload_n dX8_does_109 rfl ?_
    refine e_iload_n dX8_does_110 rfl ?_
    refine cI_go h (fun E21 hc19 hr22 => e_VX [.int v1, .int v2] [] dX8_does_111 rfl rfl rfl rfl (by decide) (Nat.le_of_ble_eq_true rfl) (by omega) ⟨v1, v2, rfl, hc19⟩ rfl ⟨hr22.symm, rfl⟩) (fun v23 μ20 hc19 h => ?_)
    refine e_VI [.int v1, .int v2] [] dX8_does_111 rfl rfl rfl rfl (by decide) (Nat.le_of_ble_eq_true rfl) (by omega) ⟨v1, v2, rfl, hc19⟩ ?_
    refine e_if_eq (tgt := 127) dX8_does_114 rfl (fun hc24 => ?_) (fun hc24 => ?_)
    · rw [if_pos hc24] at h
      refine e_iconst dX8_does_127 ci_0 ?_
      exact e_le (g_X8_does_128 v1 v2 v3 (0 : Int32) μ20 _ (by omega) h) ⟨rfl, rfl, rfl, rfl, trivial⟩
    · rw [if_neg hc24] at h
      refine e_iload dX8_does_117 rfl ?_
      refine e_iconst dX8_does_119 ci_2 ?_
      refine e_ic_ge (tgt := 127) dX8_does_120 rfl (fun hc25 => ?_) (fun hc25 => ?_)
      · rw [if_pos hc25] at h
        refine e_iconst dX8_does_127 ci_0 ?_
        exact e_le (g_X8_does_128 v1 v2 v3 (0 : Int32) μ20 _ (by omega) h) ⟨rfl, rfl, rfl, rfl, trivial⟩
      · rw [if_neg hc25] at h
        refine e_iconst dX8_does_123 ci_1 ?_
        refine e_goto (tgt := 128) dX8_does_124 rfl ?_
        exact e_le (g_X8_does_128 v1 v2 v3 (1 : Int32) μ20 _ (by omega) h) ⟨rfl, rfl, rfl, rfl, trivial⟩
  rw [if_neg hc18] at h
  by_cases hc26 : (a0 / (1000 : Int32)) = (3 : Int32)
  · rw [if_pos hc26] at h
    refine e_tsL (3 : Int32) (tgt := 155) hc26 dX8_does_27 (by decide) (by decide) rfl rfl ?_
    refine e_bipush dX8_does_155 cb_10 ?_
    refine e_iload_n dX8_does_157 rfl ?_
    refine e_imul dX8_does_158 ?_
    refine e_iload_n dX8_does_159 rfl ?_
    refine e_iadd dX8_does_160 ?_
    refine e_naI h (fun v27 ev27 h => ?_)
    refine e_istoreL [some (.ref 29), some (.int a0), some (.int v1), some (.int v2), some (.int v3), none, none, some (.int v27), none] dX8_does_161 (Nat.le_of_ble_eq_true rfl) rfl ?_
    refine e_aload_n dX8_does_163 rfl ?_
    refine e_iload dX8_does_164 rfl ?_
    refine cI_go h (fun E30 hc28 hr31 => e_VX [.int v27] [] dX8_does_166 rfl rfl rfl rfl (by decide) (Nat.le_of_ble_eq_true rfl) (by omega) ⟨v27, rfl, hc28⟩ rfl ⟨hr31.symm, rfl⟩) (fun v32 μ29 hc28 h => ?_)
    refine e_VI [.int v27] [] dX8_does_166 rfl rfl rfl rfl (by decide) (Nat.le_of_ble_eq_true rfl) (by omega) ⟨v27, rfl, hc28⟩ ?_
    refine e_if_eq (tgt := 183) dX8_does_169 rfl (fun hc33 => ?_) (fun hc33 => ?_)
    · rw [if_pos hc33] at h
      refine e_iconst dX8_does_183 ci_0 ?_
      exact e_le (g_X8_does_184 v3 v27 (0 : Int32) μ29 _ (by omega) h) ⟨rfl, rfl, rfl, trivial⟩
    · rw [if_neg hc33] at h
      refine e_iload dX8_does_172 rfl ?_
      refine e_bipush dX8_does_174 cb_7 ?_
      refine e_ic_ge (tgt := 183) dX8_does_176 rfl (fun hc34 => ?_) (fun hc34 => ?_)
      · rw [if_pos hc34] at h
        refine e_iconst dX8_does_183 ci_0 ?_
        exact e_le (g_X8_does_184 v3 v27 (0 : Int32) μ29 _ (by omega) h) ⟨rfl, rfl, rfl, trivial⟩
      · rw [if_neg hc34] at h
        refine e_iconst dX8_does_179 ci_1 ?_
        refine e_goto (tgt := 184) dX8_does_180 rfl ?_
        exact e_le (g_X8_does_184 v3 v27 (1 : Int32) μ29 _ (by omega) h) ⟨rfl, rfl, rfl, trivial⟩
  rw [if_neg hc26] at h
  refine e_tsOut (tgt := 207) dX8_does_27 (ts_out_1_3 hc4 hc18 hc26) rfl ?_
  refine e_iload_n dX8_does_207 rfl ?_
  refine e_if_ne (tgt := 230) dX8_does_208 rfl (fun hc35 => ?_) (fun hc35 => ?_)
  · rw [if_neg hc35] at h
    refine e_iconst dX8_does_230 ci_0 ?_
    exact e_iret .boolean dX8_does_231 rfl rfl (ret_eq h)
  · rw [if_pos hc35] at h
    refine e_aload_n dX8_does_211 rfl ?_
    refine e_iload_n dX8_does_212 rfl ?_
    refine e_sipush dX8_does_213 cs_1000 ?_
    refine e_idiv dX8_does_216 (by decide) ?_
    refine e_iload_n dX8_does_217 rfl ?_
    refine e_iload dX8_does_218 rfl ?_
    refine cI_go h (fun E38 hc36 hr39 => e_VX [.int (a0 / (1000 : Int32)), .int v2, .int v3] [] dX8_does_220 rfl rfl rfl rfl (by decide) (Nat.le_of_ble_eq_true rfl) (by omega) ⟨a0 / (1000 : Int32), v2, v3, rfl, hc36⟩ rfl ⟨hr39.symm, rfl⟩) (fun v40 μ37 hc36 h => ?_)
    refine e_VI [.int (a0 / (1000 : Int32)), .int v2, .int v3] [] dX8_does_220 rfl rfl rfl rfl (by decide) (Nat.le_of_ble_eq_true rfl) (by omega) ⟨a0 / (1000 : Int32), v2, v3, rfl, hc36⟩ ?_
    refine e_if_eq (tgt := 230) dX8_does_223 rfl (fun hc41 => ?_) (fun hc41 => ?_)
    · rw [if_pos hc41] at h
      refine e_iconst dX8_does_230 ci_0 ?_
      exact e_iret .boolean dX8_does_231 rfl rfl (ret_eq h)
    · rw [if_neg hc41] at h
      refine e_iconst dX8_does_226 ci_1 ?_
      refine e_goto (tgt := 231) dX8_does_227 rfl ?_
      exact e_iret .boolean dX8_does_231 rfl rfl (ret_eq h)
set_option maxRecDepth 20000 in
theorem ok_X8_does (l : Launch) (hl : l.stackTraces = false) : MOK l yX8_does.cls 9 186 mX8_does := ⟨lk_all (List.forall_mem_cons.mpr ⟨⟨yX8_wantAt, cX8_wantAt, 2, (some .int), 2, 20, by decide, by decide, t_1 7 rfl rfl, hd_X8_wantAt, Or.inr (Or.inl ⟨rfl, sc_X8_wantAt l hl, t_5 53 rfl rfl, t_5 50 rfl rfl, t_5 52 rfl rfl, _, rfl, t_p 37 rfl⟩)⟩, List.forall_mem_cons.mpr ⟨⟨yX8_isCell, cX8_isCell, 3, (some .boolean), 2, 22, by decide, by decide, t_1 7 rfl rfl, hd_X8_isCell, Or.inr (Or.inl ⟨rfl, sc_X8_isCell l hl, t_5 105 rfl rfl, t_5 102 rfl rfl, t_5 104 rfl rfl, _, rfl, t_p 49 rfl⟩)⟩, List.forall_mem_cons.mpr ⟨⟨yX8_isPinned, cX8_isPinned, 3, (some .boolean), 1, 0, by decide, by decide, t_1 7 rfl rfl, hd_X8_isPinned, Or.inr (Or.inl ⟨rfl, sc_X8_isPinned l hl, t_5 89 rfl rfl, t_5 86 rfl rfl, t_5 88 rfl rfl, _, rfl, t_p 45 rfl⟩)⟩, List.forall_mem_cons.mpr ⟨⟨yX8_fills, cX8_fills, 5, none, 1, 0, by decide, by decide, t_1 7 rfl rfl, hd_X8_fills, Or.inr (Or.inl ⟨rfl, sc_X8_fills l hl, t_5 215 rfl rfl, t_5 212 rfl rfl, t_5 214 rfl rfl, _, rfl, t_p 68 rfl⟩)⟩, List.forall_mem_cons.mpr ⟨⟨yX8_isLine, cX8_isLine, 2, (some .boolean), 2, 22, by decide, by decide, t_1 7 rfl rfl, hd_X8_isLine, Or.inr (Or.inl ⟨rfl, sc_X8_isLine l hl, t_5 149 rfl rfl, t_5 146 rfl rfl, t_5 148 rfl rfl, _, rfl, t_p 59 rfl⟩)⟩, List.forall_mem_cons.mpr ⟨⟨yX8_pins, cX8_pins, 5, none, 1, 0, by decide, by decide, t_1 7 rfl rfl, hd_X8_pins, Or.inr (Or.inl ⟨rfl, sc_X8_pins l hl, t_5 223 rfl rfl, t_5 220 rfl rfl, t_5 222 rfl rfl, _, rfl, t_p 69 rfl⟩)⟩, List.forall_mem_cons.mpr ⟨⟨yX8_doesMore, cX8_doesMore, 6, (some .boolean), 8, 161, by decide, by decide, t_1 7 rfl rfl, hd_X8_doesMore, Or.inr (Or.inl ⟨rfl, sc_X8_doesMore l hl, t_6 96 rfl rfl, t_6 93 rfl rfl, t_6 95 rfl rfl, _, rfl, t_p 83 rfl⟩)⟩, nil_all⟩⟩⟩⟩⟩⟩⟩), fun ix ci j h => lk_all (P := fun ix q => FldOK yX8_does.cls ix q.1 q.2) (List.forall_mem_cons.mpr ⟨⟨_, rfl, by decide, t_4 178 rfl rfl⟩, nil_all⟩) ix (ci, j) h, lk_all (nil_all), lk_all (nil_all), lk_all (nil_all)⟩
theorem hd_X8_does : CallHd yX8_does 1 := ⟨by decide +kernel, by decide +kernel, by decide +kernel⟩
theorem sc_X8_does (l : Launch) (hl : l.stackTraces = false) : SCon l yX8_does cX8_does 9 (some .boolean) 9 186 0 Γ_X8_does := scon_of mX8_does cls_ok hl (by decide +kernel) rfl rfl (ok_X8_does l hl) rfl rfl b_X8_does
def F_X8_isMark (a0 : Int32) (μ : Mem) : Out := if a0 = (46 : Int32) then (rI (1 : Int32) μ) else (if a0 = (35 : Int32) then (rI (1 : Int32) μ) else (if a0 = (44 : Int32) then (rI (1 : Int32) μ) else (if a0 = (37 : Int32) then (rI (1 : Int32) μ) else (rI (0 : Int32) μ))))
def Γ_X8_isMark : Gam := fun as μ r μ' => ∃ (a0 : Int32), as = [.int a0] ∧ F_X8_isMark a0 μ = some (r, μ')
def mX8_isMark : MI := (cX8_isMark, [], [], [], [], [], [], none, (some .boolean))
set_option maxHeartbeats 4000000 in
theorem b_X8_isMark : ∀ as μ r μ', Γ_X8_isMark as μ r μ' → (elvL as).length ≤ 1 ∧ G mX8_isMark (Qe r μ') 0 (elv as 1) [] μ 0 := by
  intro as μ r μ' h
  obtain ⟨a0, rfl, h⟩ := h
  refine ⟨Nat.le_of_ble_eq_true rfl, ?_⟩
  show G mX8_isMark (Qe r μ') 0 [some (.int a0)] [] μ 0
  unfold F_X8_isMark at h
  have hb9 : 0 ≤ 0 := Nat.le_refl _
  refine e_iload_n dX8_isMark_0 rfl ?_
  refine e_bipush dX8_isMark_1 cb_46 ?_
  refine e_ic_eq (tgt := 24) dX8_isMark_3 rfl (fun hc1 => ?_) (fun hc1 => ?_)
  · rw [if_pos hc1] at h
    refine e_iconst dX8_isMark_24 ci_1 ?_
    refine e_goto (tgt := 29) dX8_isMark_25 rfl ?_
    exact e_iret .boolean dX8_isMark_29 rfl rfl (ret_eq h)
  · rw [if_neg hc1] at h
    refine e_iload_n dX8_isMark_6 rfl ?_
    refine e_bipush dX8_isMark_7 cb_35 ?_
    refine e_ic_eq (tgt := 24) dX8_isMark_9 rfl (fun hc2 => ?_) (fun hc2 => ?_)
    · rw [if_pos hc2] at h
      refine e_iconst dX8_isMark_24 ci_1 ?_
      refine e_goto (tgt := 29) dX8_isMark_25 rfl ?_
      exact e_iret .boolean dX8_isMark_29 rfl rfl (ret_eq h)
    · rw [if_neg hc2] at h
      refine e_iload_n dX8_isMark_12 rfl ?_
      refine e_bipush dX8_isMark_13 cb_44 ?_
      refine e_ic_eq (tgt := 24) dX8_isMark_15 rfl (fun hc3 => ?_) (fun hc3 => ?_)
      · rw [if_pos hc3] at h
        refine e_iconst dX8_isMark_24 ci_1 ?_
        refine e_goto (tgt := 29) dX8_isMark_25 rfl ?_
        exact e_iret .boolean dX8_isMark_29 rfl rfl (ret_eq h)
      · rw [if_neg hc3] at h
        refine e_iload_n dX8_isMark_18 rfl ?_
        refine e_bipush dX8_isMark_19 cb_37 ?_
        refine e_ic_ne (tgt := 28) dX8_isMark_21 rfl (fun hc4 => ?_) (fun hc4 => ?_)
        · rw [if_neg hc4] at h
          refine e_iconst dX8_isMark_28 ci_0 ?_
          exact e_iret .boolean dX8_isMark_29 rfl rfl (ret_eq h)
        · rw [if_pos hc4] at h
          refine e_iconst dX8_isMark_24 ci_1 ?_
          refine e_goto (tgt := 29) dX8_isMark_25 rfl ?_
          exact e_iret .boolean dX8_isMark_29 rfl rfl (ret_eq h)
set_option maxRecDepth 20000 in
theorem ok_X8_isMark (l : Launch) (hl : l.stackTraces = false) : MOK l yX8_isMark.cls 1 0 mX8_isMark := ⟨lk_all (nil_all), fun ix ci j h => lk_all (P := fun ix q => FldOK yX8_isMark.cls ix q.1 q.2) (nil_all) ix (ci, j) h, lk_all (nil_all), lk_all (nil_all), lk_all (nil_all)⟩
theorem hd_X8_isMark : CallHd yX8_isMark 1 := ⟨by decide +kernel, by decide +kernel, by decide +kernel⟩
theorem sc_X8_isMark (l : Launch) (hl : l.stackTraces = false) : SCon l yX8_isMark cX8_isMark 1 (some .boolean) 1 0 0 Γ_X8_isMark := scon_of mX8_isMark cls_ok hl (by decide +kernel) rfl rfl (ok_X8_isMark l hl) rfl rfl b_X8_isMark
def F_X8_signAt (a0 : Int32) (μ : Mem) : Out := if (μ.1 29 7) ≤ a0 then (rI (-9 : Int32) μ) else (ck (inb a0 60) (rI (μ.1 34 (Int32.toNatClampNeg a0)) μ))
def Γ_X8_signAt : Gam := fun as μ r μ' => ∃ (a0 : Int32), as = [.ref 29, .int a0] ∧ F_X8_signAt a0 μ = some (r, μ')
def mX8_signAt : MI := (cX8_signAt, [], [(22, 6, 6), (108, 6, 7)], [], [], [], [], none, (some .int))
set_option maxHeartbeats 4000000 in
theorem b_X8_signAt : ∀ as μ r μ', Γ_X8_signAt as μ r μ' → (elvL as).length ≤ 2 ∧ G mX8_signAt (Qe r μ') 0 (elv as 2) [] μ 0 := by
  intro as μ r μ' h
  obtain ⟨a0, rfl, h⟩ := h
  refine ⟨Nat.le_of_ble_eq_true rfl, ?_⟩
  show G mX8_signAt (Qe r μ') 0 [some (.ref 29), some (.int a0)] [] μ 0
  unfold F_X8_signAt at h
  have hb9 : 0 ≤ 0 := Nat.le_refl _
  refine e_iload_n dX8_signAt_0 rfl ?_
  refine e_aload_n dX8_signAt_1 rfl ?_
  refine e_get (ci := 6) (j := 7) (t := 0) (v := .int (μ.1 29 7)) dX8_signAt_2 rfl (by decide) rfl rfl rfl ?_
  refine e_ic_ge (tgt := 17) dX8_signAt_5 rfl (fun hc1 => ?_) (fun hc1 => ?_)
  · rw [if_pos hc1] at h
    refine e_bipush dX8_signAt_17 cb_m9 ?_
    exact e_iret .int dX8_signAt_19 rfl rfl (ret_eq h)
  · rw [if_neg hc1] at h
    refine e_aload_n dX8_signAt_8 rfl ?_
    refine e_get (ci := 6) (j := 6) (t := 2) (v := .ref 34) dX8_signAt_9 rfl (by decide) rfl rfl rfl ?_
    refine e_iload_n dX8_signAt_12 rfl ?_
    obtain ⟨hc2, h⟩ := ck_eq h
    refine e_ialoadL (μ.1 34 (Int32.toNatClampNeg a0)) (n := 60) dX8_signAt_13 (by decide) rfl hc2 rfl ?_
    refine e_goto (tgt := 19) dX8_signAt_14 rfl ?_
    exact e_iret .int dX8_signAt_19 rfl rfl (ret_eq h)
set_option maxRecDepth 20000 in
theorem ok_X8_signAt (l : Launch) (hl : l.stackTraces = false) : MOK l yX8_signAt.cls 1 0 mX8_signAt := ⟨lk_all (nil_all), fun ix ci j h => lk_all (P := fun ix q => FldOK yX8_signAt.cls ix q.1 q.2) (List.forall_mem_cons.mpr ⟨⟨_, rfl, by decide, t_4 184 rfl rfl⟩, List.forall_mem_cons.mpr ⟨⟨_, rfl, by decide, t_4 185 rfl rfl⟩, nil_all⟩⟩) ix (ci, j) h, lk_all (nil_all), lk_all (nil_all), lk_all (nil_all)⟩
theorem hd_X8_signAt : CallHd yX8_signAt 1 := ⟨by decide +kernel, by decide +kernel, by decide +kernel⟩
theorem sc_X8_signAt (l : Launch) (hl : l.stackTraces = false) : SCon l yX8_signAt cX8_signAt 2 (some .int) 1 0 0 Γ_X8_signAt := scon_of mX8_signAt cls_ok hl (by decide +kernel) rfl rfl (ok_X8_signAt l hl) rfl rfl b_X8_signAt
def f_X8_faultOf_139 : Nat → Int32 → Int32 → Int32 → Mem → Out
  | 0, _, _, _, _ => none
  | n + 1, x1, x3, x4, μ => if (x3 + x1) < x4 then (if ((x3 + x1) + (1 : Int32)) = (μ.1 29 7) then (rI (-9 : Int32) μ) else (rI ((x3 + x1) + (1 : Int32)) μ)) else (cI (F_X8_signAt x4 μ) (fun v79 μ76 => cI (F_X8_in v79 (48 : Int32) (54 : Int32) μ76) (fun v84 μ81 => if v84 = 0 then (rI x4 μ81) else (lt (x4 + (1 : Int32)) (fun v86 => f_X8_faultOf_139 n x1 x3 v86 μ81)))))
def f_X8_faultOf_81 : Nat → Int32 → Int32 → Int32 → Mem → Out
  | 0, _, _, _, _ => none
  | n + 1, x1, x2, x3, μ => if ((3 : Int32) + x2) ≤ x3 then (lt ((3 : Int32) + x2) (fun v52 => if v52 = (μ.1 29 7) then (rI (-9 : Int32) μ) else (cI (F_X8_signAt v52 μ) (fun v58 μ55 => if v58 = (58 : Int32) then (lt (v52 + (1 : Int32)) (fun v60 => f_X8_faultOf_139 BIG x1 v52 v60 μ55)) else (rI v52 μ55))))) else (cI (F_X8_signAt x3 μ) (fun v65 μ62 => cI (F_X8_isMark v65 μ62) (fun v70 μ67 => if v70 = 0 then (rI x3 μ67) else (lt (x3 + (1 : Int32)) (fun v72 => f_X8_faultOf_81 n x1 x2 v72 μ67)))))
def F_X8_faultOf (μ : Mem) : Out := cI (F_X8_signAt (0 : Int32) μ) (fun v5 μ2 => if v5 = (80 : Int32) then (cI (F_X8_signAt (1 : Int32) μ2) (fun v11 μ8 => cI (F_X8_in v11 (49 : Int32) (54 : Int32) μ8) (fun v16 μ13 => if v16 = 0 then (rI (1 : Int32) μ13) else (cI (F_X8_signAt (2 : Int32) μ13) (fun v22 μ19 => cI (F_X8_in v22 (49 : Int32) (54 : Int32) μ19) (fun v27 μ24 => if v27 = 0 then (rI (2 : Int32) μ24) else (cI (F_X8_signAt (1 : Int32) μ24) (fun v33 μ30 => cI (F_X8_signAt (2 : Int32) μ30) (fun v38 μ35 => lt ((v33 + v38) - (96 : Int32)) (fun v39 => cI (F_X8_signAt (1 : Int32) μ35) (fun v44 μ41 => cI (F_X8_signAt (2 : Int32) μ41) (fun v49 μ46 => lt ((v44 - (48 : Int32)) * (v49 - (48 : Int32))) (fun v50 => f_X8_faultOf_81 BIG v39 v50 (3 : Int32) μ46))))))))))))) else (rI (0 : Int32) μ2))
def Γ_X8_faultOf : Gam := fun as μ r μ' => as = [.ref 29] ∧ F_X8_faultOf μ = some (r, μ')
def mX8_faultOf : MI := (cX8_faultOf, [(80, (0, 3, 0, 0, Γ_X8_in)), (111, (1, 1, 0, 6, Γ_X8_signAt)), (114, (0, 1, 0, 0, Γ_X8_isMark))], [(108, 6, 7)], [], [], [], [], none, (some .int))
set_option maxHeartbeats 4000000 in
theorem g_X8_faultOf_139 {r : Res} {μ' : Mem} : ∀ n : Nat, ∀ (x1 : Int32) (x3 : Int32) (x4 : Int32), ∀ (μ : Mem) (b : Nat), 0 ≤ b → f_X8_faultOf_139 n x1 x3 x4 μ = some (r, μ') → G mX8_faultOf (Qe r μ') 139 [some (.ref 29), some (.int x1), none, some (.int x3), some (.int x4)] [] μ b := by
  intro n
  induction n with
  | zero => intro x1 x3 x4 μ b hb9 h; exact nomatch (show (none : Out) = some _ from h)
  | succ n ih =>
    intro x1 x3 x4 μ b hb9 h
    rw [f_X8_faultOf_139.eq_2] at h
    refine e_iload dX8_faultOf_139 rfl ?_
    refine e_iload_n dX8_faultOf_141 rfl ?_
    refine e_iload_n dX8_faultOf_142 rfl ?_
    refine e_iadd dX8_faultOf_143 ?_
    refine e_ic_gt (tgt := 172) dX8_faultOf_144 rfl (fun hc73 => ?_) (fun hc73 => ?_)
    · rw [if_pos hc73] at h
      refine e_iload_n dX8_faultOf_172 rfl ?_
      refine e_iload_n dX8_faultOf_173 rfl ?_
      refine e_iadd dX8_faultOf_174 ?_
      refine e_iconst dX8_faultOf_175 ci_1 ?_
      refine e_iadd dX8_faultOf_176 ?_
      refine e_aload_n dX8_faultOf_177 rfl ?_
      refine e_get (ci := 6) (j := 7) (t := 0) (v := .int (μ.1 29 7)) dX8_faultOf_178 rfl (by decide) rfl rfl rfl ?_
      refine e_ic_ne (tgt := 189) dX8_faultOf_181 rfl (fun hc74 => ?_) (fun hc74 => ?_)
      · rw [if_neg hc74] at h
        refine e_iload_n dX8_faultOf_189 rfl ?_
        refine e_iload_n dX8_faultOf_190 rfl ?_
        refine e_iadd dX8_faultOf_191 ?_
        refine e_iconst dX8_faultOf_192 ci_1 ?_
        refine e_iadd dX8_faultOf_193 ?_
        exact e_iret .int dX8_faultOf_194 rfl rfl (ret_eq h)
      · rw [if_pos hc74] at h
        refine e_bipush dX8_faultOf_184 cb_m9 ?_
        refine e_goto (tgt := 194) dX8_faultOf_186 rfl ?_
        exact e_iret .int dX8_faultOf_194 rfl rfl (ret_eq h)
    · rw [if_neg hc73] at h
      refine e_aload_n dX8_faultOf_147 rfl ?_
      refine e_iload dX8_faultOf_148 rfl ?_
      refine cI_go h (fun E77 hc75 hr78 => e_VX [.int x4] [] dX8_faultOf_150 rfl rfl rfl rfl (by decide) (Nat.le_of_ble_eq_true rfl) (by omega) ⟨x4, rfl, hc75⟩ rfl ⟨hr78.symm, rfl⟩) (fun v79 μ76 hc75 h => ?_)
      refine e_VI [.int x4] [] dX8_faultOf_150 rfl rfl rfl rfl (by decide) (Nat.le_of_ble_eq_true rfl) (by omega) ⟨x4, rfl, hc75⟩ ?_
      refine e_bipush dX8_faultOf_153 cb_48 ?_
      refine e_bipush dX8_faultOf_155 cb_54 ?_
      refine cI_go h (fun E82 hc80 hr83 => e_SX [.int v79, .int (48 : Int32), .int (54 : Int32)] [] dX8_faultOf_157 rfl (by decide) rfl rfl (Nat.le_of_ble_eq_true rfl) (by omega) ⟨v79, (48 : Int32), (54 : Int32), rfl, hc80⟩ rfl ⟨hr83.symm, rfl⟩) (fun v84 μ81 hc80 h => ?_)
      refine e_SI [.int v79, .int (48 : Int32), .int (54 : Int32)] [] dX8_faultOf_157 rfl (by decide) rfl rfl (Nat.le_of_ble_eq_true rfl) (by omega) ⟨v79, (48 : Int32), (54 : Int32), rfl, hc80⟩ ?_
      refine e_if_ne (tgt := 166) dX8_faultOf_160 rfl (fun hc85 => ?_) (fun hc85 => ?_)
      · rw [if_neg hc85] at h
        refine e_iincN 4 (1 : Int32) dX8_faultOf_166 rfl ci_1 h (fun y9 => [some (.ref 29), some (.int x1), none, some (.int x3), some (.int y9)]) (fun _ => rfl) (fun v86 ev86 h => ?_)
        refine e_goto (tgt := 139) dX8_faultOf_169 rfl ?_
        exact e_le (ih x1 x3 v86 μ81 _ (by omega) h) ⟨rfl, rfl, rfl, rfl, trivial⟩
      · rw [if_pos hc85] at h
        refine e_iload dX8_faultOf_163 rfl ?_
        exact e_iret .int dX8_faultOf_165 rfl rfl (ret_eq h)
set_option maxHeartbeats 4000000 in
theorem g_X8_faultOf_81 {r : Res} {μ' : Mem} : ∀ n : Nat, ∀ (x1 : Int32) (x2 : Int32) (x3 : Int32), ∀ (μ : Mem) (b : Nat), 0 ≤ b → f_X8_faultOf_81 n x1 x2 x3 μ = some (r, μ') → G mX8_faultOf (Qe r μ') 81 [some (.ref 29), some (.int x1), some (.int x2), some (.int x3), none] [] μ b := by
  intro n
  induction n with
  | zero => intro x1 x2 x3 μ b hb9 h; exact nomatch (show (none : Out) = some _ from h)
  | succ n ih =>
    intro x1 x2 x3 μ b hb9 h
    rw [f_X8_faultOf_81.eq_2] at h
    refine e_iload_n dX8_faultOf_81 rfl ?_
    refine e_iconst dX8_faultOf_82 ci_3 ?_
    refine e_iload_n dX8_faultOf_83 rfl ?_
    refine e_iadd dX8_faultOf_84 ?_
    refine e_ic_ge (tgt := 107) dX8_faultOf_85 rfl (fun hc51 => ?_) (fun hc51 => ?_)
    · rw [if_pos hc51] at h
      refine e_iconst dX8_faultOf_107 ci_3 ?_
      refine e_iload_n dX8_faultOf_108 rfl ?_
      refine e_iadd dX8_faultOf_109 ?_
      refine e_naI h (fun v52 ev52 h => ?_)
      refine e_istore_nL [some (.ref 29), some (.int x1), some (.int x2), some (.int v52), none] dX8_faultOf_110 (Nat.le_of_ble_eq_true rfl) rfl ?_
      refine e_iload_n dX8_faultOf_111 rfl ?_
      refine e_aload_n dX8_faultOf_112 rfl ?_
      refine e_get (ci := 6) (j := 7) (t := 0) (v := .int (μ.1 29 7)) dX8_faultOf_113 rfl (by decide) rfl rfl rfl ?_
      refine e_ic_ne (tgt := 122) dX8_faultOf_116 rfl (fun hc53 => ?_) (fun hc53 => ?_)
      · rw [if_neg hc53] at h
        refine e_aload_n dX8_faultOf_122 rfl ?_
        refine e_iload_n dX8_faultOf_123 rfl ?_
        refine cI_go h (fun E56 hc54 hr57 => e_VX [.int v52] [] dX8_faultOf_124 rfl rfl rfl rfl (by decide) (Nat.le_of_ble_eq_true rfl) (by omega) ⟨v52, rfl, hc54⟩ rfl ⟨hr57.symm, rfl⟩) (fun v58 μ55 hc54 h => ?_)
        refine e_VI [.int v52] [] dX8_faultOf_124 rfl rfl rfl rfl (by decide) (Nat.le_of_ble_eq_true rfl) (by omega) ⟨v52, rfl, hc54⟩ ?_
        refine e_bipush dX8_faultOf_127 cb_58 ?_
        refine e_ic_eq (tgt := 134) dX8_faultOf_129 rfl (fun hc59 => ?_) (fun hc59 => ?_)
        · rw [if_pos hc59] at h
          refine e_iload_n dX8_faultOf_134 rfl ?_
          refine e_iconst dX8_faultOf_135 ci_1 ?_
          refine e_iadd dX8_faultOf_136 ?_
          refine e_naI h (fun v60 ev60 h => ?_)
          refine e_istoreL [some (.ref 29), some (.int x1), some (.int x2), some (.int v52), some (.int v60)] dX8_faultOf_137 (Nat.le_of_ble_eq_true rfl) rfl ?_
          exact e_le (g_X8_faultOf_139 BIG x1 v52 v60 μ55 _ (by omega) h) ⟨rfl, rfl, rfl, rfl, trivial⟩
        · rw [if_neg hc59] at h
          refine e_iload_n dX8_faultOf_132 rfl ?_
          exact e_iret .int dX8_faultOf_133 rfl rfl (ret_eq h)
      · rw [if_pos hc53] at h
        refine e_bipush dX8_faultOf_119 cb_m9 ?_
        exact e_iret .int dX8_faultOf_121 rfl rfl (ret_eq h)
    · rw [if_neg hc51] at h
      refine e_aload_n dX8_faultOf_88 rfl ?_
      refine e_iload_n dX8_faultOf_89 rfl ?_
      refine cI_go h (fun E63 hc61 hr64 => e_VX [.int x3] [] dX8_faultOf_90 rfl rfl rfl rfl (by decide) (Nat.le_of_ble_eq_true rfl) (by omega) ⟨x3, rfl, hc61⟩ rfl ⟨hr64.symm, rfl⟩) (fun v65 μ62 hc61 h => ?_)
      refine e_VI [.int x3] [] dX8_faultOf_90 rfl rfl rfl rfl (by decide) (Nat.le_of_ble_eq_true rfl) (by omega) ⟨x3, rfl, hc61⟩ ?_
      refine cI_go h (fun E68 hc66 hr69 => e_SX [.int v65] [] dX8_faultOf_93 rfl (by decide) rfl rfl (Nat.le_of_ble_eq_true rfl) (by omega) ⟨v65, rfl, hc66⟩ rfl ⟨hr69.symm, rfl⟩) (fun v70 μ67 hc66 h => ?_)
      refine e_SI [.int v65] [] dX8_faultOf_93 rfl (by decide) rfl rfl (Nat.le_of_ble_eq_true rfl) (by omega) ⟨v65, rfl, hc66⟩ ?_
      refine e_if_ne (tgt := 101) dX8_faultOf_96 rfl (fun hc71 => ?_) (fun hc71 => ?_)
      · rw [if_neg hc71] at h
        refine e_iincN 3 (1 : Int32) dX8_faultOf_101 rfl ci_1 h (fun y9 => [some (.ref 29), some (.int x1), some (.int x2), some (.int y9), none]) (fun _ => rfl) (fun v72 ev72 h => ?_)
        refine e_goto (tgt := 81) dX8_faultOf_104 rfl ?_
        exact e_le (ih x1 x2 v72 μ67 _ (by omega) h) ⟨rfl, rfl, rfl, rfl, trivial⟩
      · rw [if_pos hc71] at h
        refine e_iload_n dX8_faultOf_99 rfl ?_
        exact e_iret .int dX8_faultOf_100 rfl rfl (ret_eq h)
set_option maxHeartbeats 4000000 in
theorem b_X8_faultOf : ∀ as μ r μ', Γ_X8_faultOf as μ r μ' → (elvL as).length ≤ 5 ∧ G mX8_faultOf (Qe r μ') 0 (elv as 5) [] μ 0 := by
  intro as μ r μ' h
  obtain ⟨rfl, h⟩ := h
  refine ⟨Nat.le_of_ble_eq_true rfl, ?_⟩
  show G mX8_faultOf (Qe r μ') 0 [some (.ref 29), none, none, none, none] [] μ 0
  unfold F_X8_faultOf at h
  have hb9 : 0 ≤ 0 := Nat.le_refl _
  refine e_aload_n dX8_faultOf_0 rfl ?_
  refine e_iconst dX8_faultOf_1 ci_0 ?_
  refine cI_go h (fun E3 hc1 hr4 => e_VX [.int (0 : Int32)] [] dX8_faultOf_2 rfl rfl rfl rfl (by decide) (Nat.le_of_ble_eq_true rfl) (by omega) ⟨(0 : Int32), rfl, hc1⟩ rfl ⟨hr4.symm, rfl⟩) (fun v5 μ2 hc1 h => ?_)
  refine e_VI [.int (0 : Int32)] [] dX8_faultOf_2 rfl rfl rfl rfl (by decide) (Nat.le_of_ble_eq_true rfl) (by omega) ⟨(0 : Int32), rfl, hc1⟩ ?_
  refine e_bipush dX8_faultOf_5 cb_80 ?_
  refine e_ic_eq (tgt := 12) dX8_faultOf_7 rfl (fun hc6 => ?_) (fun hc6 => ?_)
  · rw [if_pos hc6] at h
    refine e_aload_n dX8_faultOf_12 rfl ?_
    refine e_iconst dX8_faultOf_13 ci_1 ?_
    refine cI_go h (fun E9 hc7 hr10 => e_VX [.int (1 : Int32)] [] dX8_faultOf_14 rfl rfl rfl rfl (by decide) (Nat.le_of_ble_eq_true rfl) (by omega) ⟨(1 : Int32), rfl, hc7⟩ rfl ⟨hr10.symm, rfl⟩) (fun v11 μ8 hc7 h => ?_)
    refine e_VI [.int (1 : Int32)] [] dX8_faultOf_14 rfl rfl rfl rfl (by decide) (Nat.le_of_ble_eq_true rfl) (by omega) ⟨(1 : Int32), rfl, hc7⟩ ?_
    refine e_bipush dX8_faultOf_17 cb_49 ?_
    refine e_bipush dX8_faultOf_19 cb_54 ?_
    refine cI_go h (fun E14 hc12 hr15 => e_SX [.int v11, .int (49 : Int32), .int (54 : Int32)] [] dX8_faultOf_21 rfl (by decide) rfl rfl (Nat.le_of_ble_eq_true rfl) (by omega) ⟨v11, (49 : Int32), (54 : Int32), rfl, hc12⟩ rfl ⟨hr15.symm, rfl⟩) (fun v16 μ13 hc12 h => ?_)
    refine e_SI [.int v11, .int (49 : Int32), .int (54 : Int32)] [] dX8_faultOf_21 rfl (by decide) rfl rfl (Nat.le_of_ble_eq_true rfl) (by omega) ⟨v11, (49 : Int32), (54 : Int32), rfl, hc12⟩ ?_
    refine e_if_ne (tgt := 29) dX8_faultOf_24 rfl (fun hc17 => ?_) (fun hc17 => ?_)
    · rw [if_neg hc17] at h
      refine e_aload_n dX8_faultOf_29 rfl ?_
      refine e_iconst dX8_faultOf_30 ci_2 ?_
      refine cI_go h (fun E20 hc18 hr21 => e_VX [.int (2 : Int32)] [] dX8_faultOf_31 rfl rfl rfl rfl (by decide) (Nat.le_of_ble_eq_true rfl) (by omega) ⟨(2 : Int32), rfl, hc18⟩ rfl ⟨hr21.symm, rfl⟩) (fun v22 μ19 hc18 h => ?_)
      refine e_VI [.int (2 : Int32)] [] dX8_faultOf_31 rfl rfl rfl rfl (by decide) (Nat.le_of_ble_eq_true rfl) (by omega) ⟨(2 : Int32), rfl, hc18⟩ ?_
      refine e_bipush dX8_faultOf_34 cb_49 ?_
      refine e_bipush dX8_faultOf_36 cb_54 ?_
      refine cI_go h (fun E25 hc23 hr26 => e_SX [.int v22, .int (49 : Int32), .int (54 : Int32)] [] dX8_faultOf_38 rfl (by decide) rfl rfl (Nat.le_of_ble_eq_true rfl) (by omega) ⟨v22, (49 : Int32), (54 : Int32), rfl, hc23⟩ rfl ⟨hr26.symm, rfl⟩) (fun v27 μ24 hc23 h => ?_)
      refine e_SI [.int v22, .int (49 : Int32), .int (54 : Int32)] [] dX8_faultOf_38 rfl (by decide) rfl rfl (Nat.le_of_ble_eq_true rfl) (by omega) ⟨v22, (49 : Int32), (54 : Int32), rfl, hc23⟩ ?_
      refine e_if_ne (tgt := 46) dX8_faultOf_41 rfl (fun hc28 => ?_) (fun hc28 => ?_)
      · rw [if_neg hc28] at h
        refine e_aload_n dX8_faultOf_46 rfl ?_
        refine e_iconst dX8_faultOf_47 ci_1 ?_
        refine cI_go h (fun E31 hc29 hr32 => e_VX [.int (1 : Int32)] [] dX8_faultOf_48 rfl rfl rfl rfl (by decide) (Nat.le_of_ble_eq_true rfl) (by omega) ⟨(1 : Int32), rfl, hc29⟩ rfl ⟨hr32.symm, rfl⟩) (fun v33 μ30 hc29 h => ?_)
        refine e_VI [.int (1 : Int32)] [] dX8_faultOf_48 rfl rfl rfl rfl (by decide) (Nat.le_of_ble_eq_true rfl) (by omega) ⟨(1 : Int32), rfl, hc29⟩ ?_
        refine e_aload_n dX8_faultOf_51 rfl ?_
        refine e_iconst dX8_faultOf_52 ci_2 ?_
        refine cI_go h (fun E36 hc34 hr37 => e_VX [.int (2 : Int32)] [.int v33] dX8_faultOf_53 rfl rfl rfl rfl (by decide) (Nat.le_of_ble_eq_true rfl) (by omega) ⟨(2 : Int32), rfl, hc34⟩ rfl ⟨hr37.symm, rfl⟩) (fun v38 μ35 hc34 h => ?_)
        refine e_VI [.int (2 : Int32)] [.int v33] dX8_faultOf_53 rfl rfl rfl rfl (by decide) (Nat.le_of_ble_eq_true rfl) (by omega) ⟨(2 : Int32), rfl, hc34⟩ ?_
        refine e_iadd dX8_faultOf_56 ?_
        refine e_bipush dX8_faultOf_57 cb_96 ?_
        refine e_isub dX8_faultOf_59 ?_
        refine e_naI h (fun v39 ev39 h => ?_)
        refine e_istore_nL [some (.ref 29), some (.int v39), none, none, none] dX8_faultOf_60 (Nat.le_of_ble_eq_true rfl) rfl ?_
        refine e_aload_n dX8_faultOf_61 rfl ?_
        refine e_iconst dX8_faultOf_62 ci_1 ?_
        refine cI_go h (fun E42 hc40 hr43 => e_VX [.int (1 : Int32)] [] dX8_faultOf_63 rfl rfl rfl rfl (by decide) (Nat.le_of_ble_eq_true rfl) (by omega) ⟨(1 : Int32), rfl, hc40⟩ rfl ⟨hr43.symm, rfl⟩) (fun v44 μ41 hc40 h => ?_)
        refine e_VI [.int (1 : Int32)] [] dX8_faultOf_63 rfl rfl rfl rfl (by decide) (Nat.le_of_ble_eq_true rfl) (by omega) ⟨(1 : Int32), rfl, hc40⟩ ?_
        refine e_bipush dX8_faultOf_66 cb_48 ?_
        refine e_isub dX8_faultOf_68 ?_
        refine e_aload_n dX8_faultOf_69 rfl ?_
        refine e_iconst dX8_faultOf_70 ci_2 ?_
        refine cI_go h (fun E47 hc45 hr48 => e_VX [.int (2 : Int32)] [.int (v44 - (48 : Int32))] dX8_faultOf_71 rfl rfl rfl rfl (by decide) (Nat.le_of_ble_eq_true rfl) (by omega) ⟨(2 : Int32), rfl, hc45⟩ rfl ⟨hr48.symm, rfl⟩) (fun v49 μ46 hc45 h => ?_)
        refine e_VI [.int (2 : Int32)] [.int (v44 - (48 : Int32))] dX8_faultOf_71 rfl rfl rfl rfl (by decide) (Nat.le_of_ble_eq_true rfl) (by omega) ⟨(2 : Int32), rfl, hc45⟩ ?_
        refine e_bipush dX8_faultOf_74 cb_48 ?_
        refine e_isub dX8_faultOf_76 ?_
        refine e_imul dX8_faultOf_77 ?_
        refine e_naI h (fun v50 ev50 h => ?_)
        refine e_istore_nL [some (.ref 29), some (.int v39), some (.int v50), none, none] dX8_faultOf_78 (Nat.le_of_ble_eq_true rfl) rfl ?_
        refine e_iconst dX8_faultOf_79 ci_3 ?_
        refine e_istore_nL [some (.ref 29), some (.int v39), some (.int v50), some (.int (3 : Int32)), none] dX8_faultOf_80 (Nat.le_of_ble_eq_true rfl) rfl ?_
        exact e_le (g_X8_faultOf_81 BIG v39 v50 (3 : Int32) μ46 _ (by omega) h) ⟨rfl, rfl, rfl, rfl, trivial⟩
      · rw [if_pos hc28] at h
        refine e_iconst dX8_faultOf_44 ci_2 ?_
        exact e_iret .int dX8_faultOf_45 rfl rfl (ret_eq h)
    · rw [if_pos hc17] at h
      refine e_iconst dX8_faultOf_27 ci_1 ?_
      exact e_iret .int dX8_faultOf_28 rfl rfl (ret_eq h)
  · rw [if_neg hc6] at h
    refine e_iconst dX8_faultOf_10 ci_0 ?_
    exact e_iret .int dX8_faultOf_11 rfl rfl (ret_eq h)
set_option maxRecDepth 20000 in
theorem ok_X8_faultOf (l : Launch) (hl : l.stackTraces = false) : MOK l yX8_faultOf.cls 2 22 mX8_faultOf := ⟨lk_all (List.forall_mem_cons.mpr ⟨⟨yX8_in, cX8_in, 3, (some .boolean), 1, 0, by decide, by decide, t_1 7 rfl rfl, hd_X8_in, Or.inl ⟨rfl, sc_X8_in l hl, t_5 18 rfl rfl, t_5 16 rfl rfl, t_5 17 rfl rfl⟩⟩, List.forall_mem_cons.mpr ⟨⟨yX8_signAt, cX8_signAt, 2, (some .int), 1, 0, by decide, by decide, t_1 7 rfl rfl, hd_X8_signAt, Or.inr (Or.inl ⟨rfl, sc_X8_signAt l hl, t_5 34 rfl rfl, t_5 31 rfl rfl, t_5 33 rfl rfl, _, rfl, t_p 34 rfl⟩)⟩, List.forall_mem_cons.mpr ⟨⟨yX8_isMark, cX8_isMark, 1, (some .boolean), 1, 0, by decide, by decide, t_1 7 rfl rfl, hd_X8_isMark, Or.inl ⟨rfl, sc_X8_isMark l hl, t_5 37 rfl rfl, t_5 35 rfl rfl, t_5 36 rfl rfl⟩⟩, nil_all⟩⟩⟩), fun ix ci j h => lk_all (P := fun ix q => FldOK yX8_faultOf.cls ix q.1 q.2) (List.forall_mem_cons.mpr ⟨⟨_, rfl, by decide, t_4 185 rfl rfl⟩, nil_all⟩) ix (ci, j) h, lk_all (nil_all), lk_all (nil_all), lk_all (nil_all)⟩
theorem hd_X8_faultOf : CallHd yX8_faultOf 0 := ⟨by decide +kernel, by decide +kernel, by decide +kernel⟩
theorem sc_X8_faultOf (l : Launch) (hl : l.stackTraces = false) : SCon l yX8_faultOf cX8_faultOf 5 (some .int) 2 22 0 Γ_X8_faultOf := scon_of mX8_faultOf cls_ok hl (by decide +kernel) rfl rfl (ok_X8_faultOf l hl) rfl rfl b_X8_faultOf
def F_X8_errorPosition (μ : Mem) : Out := lt (sI μ 29 8 (0 : Int32)) (fun μ1 => cI (F_X8_faultOf μ1) (fun v6 μ3 => rI v6 μ3))
def Γ_X8_errorPosition : Gam := fun as μ r μ' => as = [.ref 29] ∧ F_X8_errorPosition μ = some (r, μ')
def mX8_errorPosition : MI := (cX8_errorPosition, [(118, (1, 0, 0, 6, Γ_X8_faultOf))], [(65, 6, 8)], [], [], [], [], none, (some .int))
set_option maxHeartbeats 4000000 in
theorem b_X8_errorPosition : ∀ as μ r μ', Γ_X8_errorPosition as μ r μ' → (elvL as).length ≤ 1 ∧ G mX8_errorPosition (Qe r μ') 0 (elv as 1) [] μ 0 := by
  intro as μ r μ' h
  obtain ⟨rfl, h⟩ := h
  refine ⟨Nat.le_of_ble_eq_true rfl, ?_⟩
  show G mX8_errorPosition (Qe r μ') 0 [some (.ref 29)] [] μ 0
  unfold F_X8_errorPosition at h
  have hb9 : 0 ≤ 0 := Nat.le_refl _
  refine e_aload_n dX8_errorPosition_0 rfl ?_
  refine e_iconst dX8_errorPosition_1 ci_0 ?_
  refine e_putI (ci := 6) (j := 8) dX8_errorPosition_2 rfl (by decide) rfl rfl ?_
  refine e_naM (e := sI μ 29 8 (0 : Int32)) h (fun μ1 eμ1 h => ?_)
  refine e_aload_n dX8_errorPosition_5 rfl ?_
  refine cI_go h (fun E4 hc2 hr5 => e_VX [] [] dX8_errorPosition_6 rfl rfl rfl rfl (by decide) (Nat.le_of_ble_eq_true rfl) (by omega) ⟨rfl, hc2⟩ rfl ⟨hr5.symm, rfl⟩) (fun v6 μ3 hc2 h => ?_)
  refine e_VI [] [] dX8_errorPosition_6 rfl rfl rfl rfl (by decide) (Nat.le_of_ble_eq_true rfl) (by omega) ⟨rfl, hc2⟩ ?_
  exact e_iret .int dX8_errorPosition_9 rfl rfl (ret_eq h)
set_option maxRecDepth 20000 in
theorem ok_X8_errorPosition (l : Launch) (hl : l.stackTraces = false) : MOK l yX8_errorPosition.cls 3 46 mX8_errorPosition := ⟨lk_all (List.forall_mem_cons.mpr ⟨⟨yX8_faultOf, cX8_faultOf, 5, (some .int), 2, 22, by decide, by decide, t_1 7 rfl rfl, hd_X8_faultOf, Or.inr (Or.inl ⟨rfl, sc_X8_faultOf l hl, t_5 30 rfl rfl, t_5 27 rfl rfl, t_5 29 rfl rfl, _, rfl, t_p 33 rfl⟩)⟩, nil_all⟩), fun ix ci j h => lk_all (P := fun ix q => FldOK yX8_errorPosition.cls ix q.1 q.2) (List.forall_mem_cons.mpr ⟨⟨_, rfl, by decide, t_4 186 rfl rfl⟩, nil_all⟩) ix (ci, j) h, lk_all (nil_all), lk_all (nil_all), lk_all (nil_all)⟩
theorem hd_X8_errorPosition : CallHd yX8_errorPosition 0 := ⟨by decide +kernel, by decide +kernel, by decide +kernel⟩
theorem sc_X8_errorPosition (l : Launch) (hl : l.stackTraces = false) : SCon l yX8_errorPosition cX8_errorPosition 1 (some .int) 3 46 0 Γ_X8_errorPosition := scon_of mX8_errorPosition cls_ok hl (by decide +kernel) rfl rfl (ok_X8_errorPosition l hl) rfl rfl b_X8_errorPosition
def f_X8_remembers_45 (μ : Mem) : Out := cV (F_X8_copies 30 (0 : Int32) 31 ((μ.1 29 2) * (50 : Int32)) μ) (fun μ3 => lt (sI μ3 29 2 ((μ3.1 29 2) + (1 : Int32))) (fun μ6 => rV μ6))
def f_X8_remembers_11 : Nat → Int32 → Mem → Out
  | 0, _, _ => none
  | n + 1, x1, μ => if (650 : Int32) ≤ x1 then (lt (sI μ 29 2 (13 : Int32)) (fun μ8 => f_X8_remembers_45 μ8)) else (ck (inb (x1 + (50 : Int32)) 700) (ck (inb x1 700) (lt (sI μ 31 (Int32.toNatClampNeg x1) (μ.1 31 (Int32.toNatClampNeg (x1 + (50 : Int32))))) (fun μ11 => lt (x1 + (1 : Int32)) (fun v12 => f_X8_remembers_11 n v12 μ11)))))
def F_X8_remembers (μ : Mem) : Out := if (μ.1 29 2) = (14 : Int32) then (f_X8_remembers_11 BIG (0 : Int32) μ) else (f_X8_remembers_45 μ)
def Γ_X8_remembers : Gam := fun as μ r μ' => as = [.ref 29] ∧ F_X8_remembers μ = some (r, μ')
def mX8_remembers : MI := (cX8_remembers, [(72, (0, 4, 0, 0, Γ_X8_copies))], [(7, 6, 0), (13, 6, 1), (69, 6, 2)], [], [], [], [], none, none)
set_option maxHeartbeats 4000000 in
theorem g_X8_remembers_45 {r : Res} {μ' : Mem} : ∀ (μ : Mem) (b : Nat), 0 ≤ b → f_X8_remembers_45 μ = some (r, μ') → G mX8_remembers (Qe r μ') 45 [some (.ref 29), none] [] μ b := by
  intro μ b hb9 h
  unfold f_X8_remembers_45 at h
  refine e_aload_n dX8_remembers_45 rfl ?_
  refine e_get (ci := 6) (j := 0) (t := 2) (v := .ref 30) dX8_remembers_46 rfl (by decide) rfl rfl rfl ?_
  refine e_iconst dX8_remembers_49 ci_0 ?_
  refine e_aload_n dX8_remembers_50 rfl ?_
  refine e_get (ci := 6) (j := 1) (t := 2) (v := .ref 31) dX8_remembers_51 rfl (by decide) rfl rfl rfl ?_
  refine e_aload_n dX8_remembers_54 rfl ?_
  refine e_get (ci := 6) (j := 2) (t := 0) (v := .int (μ.1 29 2)) dX8_remembers_55 rfl (by decide) rfl rfl rfl ?_
  refine e_bipush dX8_remembers_58 cb_50 ?_
  refine e_imul dX8_remembers_60 ?_
  refine cV_go h (fun E4 hc2 hr5 => e_SX [.ref 30, .int (0 : Int32), .ref 31, .int ((μ.1 29 2) * (50 : Int32))] [] dX8_remembers_61 rfl (by decide) rfl rfl (Nat.le_of_ble_eq_true rfl) (by omega) ⟨30, (0 : Int32), 31, (μ.1 29 2) * (50 : Int32), rfl, (by decide), (by decide), hc2⟩ rfl ⟨hr5.symm, rfl⟩) (fun μ3 hc2 h => ?_)
  refine e_SV [.ref 30, .int (0 : Int32), .ref 31, .int ((μ.1 29 2) * (50 : Int32))] [] dX8_remembers_61 rfl (by decide) rfl rfl (Nat.le_of_ble_eq_true rfl) (by omega) ⟨30, (0 : Int32), 31, (μ.1 29 2) * (50 : Int32), rfl, (by decide), (by decide), hc2⟩ ?_
  refine e_aload_n dX8_remembers_64 rfl ?_
  refine e_dup dX8_remembers_65 rfl ?_
  refine e_get (ci := 6) (j := 2) (t := 0) (v := .int (μ3.1 29 2)) dX8_remembers_66 rfl (by decide) rfl rfl rfl ?_
  refine e_iconst dX8_remembers_69 ci_1 ?_
  refine e_iadd dX8_remembers_70 ?_
  refine e_putI (ci := 6) (j := 2) dX8_remembers_71 rfl (by decide) rfl rfl ?_
  refine e_naM (e := sI μ3 29 2 ((μ3.1 29 2) + (1 : Int32))) h (fun μ6 eμ6 h => ?_)
  exact e_vret dX8_remembers_74 rfl (ret_eq h)
set_option maxHeartbeats 4000000 in
theorem g_X8_remembers_11 {r : Res} {μ' : Mem} : ∀ n : Nat, ∀ (x1 : Int32), ∀ (μ : Mem) (b : Nat), 0 ≤ b → f_X8_remembers_11 n x1 μ = some (r, μ') → G mX8_remembers (Qe r μ') 11 [some (.ref 29), some (.int x1)] [] μ b := by
  intro n
  induction n with
  | zero => intro x1 μ b hb9 h; exact nomatch (show (none : Out) = some _ from h)
  | succ n ih =>
    intro x1 μ b hb9 h
    rw [f_X8_remembers_11.eq_2] at h
    refine e_iload_n dX8_remembers_11 rfl ?_
    refine e_sipush dX8_remembers_12 cs_650 ?_
    refine e_ic_ge (tgt := 39) dX8_remembers_15 rfl (fun hc7 => ?_) (fun hc7 => ?_)
    · rw [if_pos hc7] at h
      refine e_aload_n dX8_remembers_39 rfl ?_
      refine e_bipush dX8_remembers_40 cb_13 ?_
      refine e_putI (ci := 6) (j := 2) dX8_remembers_42 rfl (by decide) rfl rfl ?_
      refine e_naM (e := sI μ 29 2 (13 : Int32)) h (fun μ8 eμ8 h => ?_)
      exact e_le (g_X8_remembers_45 μ8 _ (by omega) h) ⟨rfl, trivial⟩
    · rw [if_neg hc7] at h
      refine e_aload_n dX8_remembers_18 rfl ?_
      refine e_get (ci := 6) (j := 1) (t := 2) (v := .ref 31) dX8_remembers_19 rfl (by decide) rfl rfl rfl ?_
      refine e_iload_n dX8_remembers_22 rfl ?_
      refine e_aload_n dX8_remembers_23 rfl ?_
      refine e_get (ci := 6) (j := 1) (t := 2) (v := .ref 31) dX8_remembers_24 rfl (by decide) rfl rfl rfl ?_
      refine e_iload_n dX8_remembers_27 rfl ?_
      refine e_bipush dX8_remembers_28 cb_50 ?_
      refine e_iadd dX8_remembers_30 ?_
      obtain ⟨hc9, h⟩ := ck_eq h
      refine e_ialoadL (μ.1 31 (Int32.toNatClampNeg (x1 + (50 : Int32)))) (n := 700) dX8_remembers_31 (by decide) rfl hc9 rfl ?_
      obtain ⟨hc10, h⟩ := ck_eq h
      refine e_iastore (n := 700) dX8_remembers_32 (by decide) rfl hc10 ?_
      refine e_naM (e := sI μ 31 (Int32.toNatClampNeg x1) (μ.1 31 (Int32.toNatClampNeg (x1 + (50 : Int32))))) h (fun μ11 eμ11 h => ?_)
      refine e_iincN 1 (1 : Int32) dX8_remembers_33 rfl ci_1 h (fun y9 => [some (.ref 29), some (.int y9)]) (fun _ => rfl) (fun v12 ev12 h => ?_)
      refine e_goto (tgt := 11) dX8_remembers_36 rfl ?_
      exact e_le (ih v12 μ11 _ (by omega) h) ⟨rfl, rfl, trivial⟩
set_option maxHeartbeats 4000000 in
theorem b_X8_remembers : ∀ as μ r μ', Γ_X8_remembers as μ r μ' → (elvL as).length ≤ 2 ∧ G mX8_remembers (Qe r μ') 0 (elv as 2) [] μ 0 := by
  intro as μ r μ' h
  obtain ⟨rfl, h⟩ := h
  refine ⟨Nat.le_of_ble_eq_true rfl, ?_⟩
  show G mX8_remembers (Qe r μ') 0 [some (.ref 29), none] [] μ 0
  unfold F_X8_remembers at h
  have hb9 : 0 ≤ 0 := Nat.le_refl _
  refine e_aload_n dX8_remembers_0 rfl ?_
  refine e_get (ci := 6) (j := 2) (t := 0) (v := .int (μ.1 29 2)) dX8_remembers_1 rfl (by decide) rfl rfl rfl ?_
  refine e_bipush dX8_remembers_4 cb_14 ?_
  refine e_ic_ne (tgt := 45) dX8_remembers_6 rfl (fun hc1 => ?_) (fun hc1 => ?_)
  · rw [if_neg hc1] at h
    exact e_le (g_X8_remembers_45 μ _ (by omega) h) ⟨rfl, trivial⟩
  · rw [if_pos hc1] at h
    refine e_iconst dX8_remembers_9 ci_0 ?_
    refine e_istore_nL [some (.ref 29), some (.int (0 : Int32))] dX8_remembers_10 (Nat.le_of_ble_eq_true rfl) rfl ?_
    exact e_le (g_X8_remembers_11 BIG (0 : Int32) μ _ (by omega) h) ⟨rfl, rfl, trivial⟩
set_option maxRecDepth 20000 in
theorem ok_X8_remembers (l : Launch) (hl : l.stackTraces = false) : MOK l yX8_remembers.cls 2 24 mX8_remembers := ⟨lk_all (List.forall_mem_cons.mpr ⟨⟨yX8_copies, cX8_copies, 5, none, 1, 0, by decide, by decide, t_1 7 rfl rfl, hd_X8_copies, Or.inl ⟨rfl, sc_X8_copies l hl, t_5 207 rfl rfl, t_5 205 rfl rfl, t_5 206 rfl rfl⟩⟩, nil_all⟩), fun ix ci j h => lk_all (P := fun ix q => FldOK yX8_remembers.cls ix q.1 q.2) (List.forall_mem_cons.mpr ⟨⟨_, rfl, by decide, t_4 178 rfl rfl⟩, List.forall_mem_cons.mpr ⟨⟨_, rfl, by decide, t_4 179 rfl rfl⟩, List.forall_mem_cons.mpr ⟨⟨_, rfl, by decide, t_4 180 rfl rfl⟩, nil_all⟩⟩⟩) ix (ci, j) h, lk_all (nil_all), lk_all (nil_all), lk_all (nil_all)⟩
theorem hd_X8_remembers : CallHd yX8_remembers 0 := ⟨by decide +kernel, by decide +kernel, by decide +kernel⟩
theorem sc_X8_remembers (l : Launch) (hl : l.stackTraces = false) : SCon l yX8_remembers cX8_remembers 2 none 2 24 0 Γ_X8_remembers := scon_of mX8_remembers cls_ok hl (by decide +kernel) rfl rfl (ok_X8_remembers l hl) rfl rfl b_X8_remembers
def f_X8_exchange_68 (x1 : Int32) (x2 : Int32) (x3 : Int32) (x4 : Int32) (s0 : Int32) (μ : Mem) : Out := lt (sI μ 29 8 s0) (fun μ22 => if (μ22.1 29 8) = 0 then (cV (F_X8_remembers μ22) (fun μ25 => cV (F_X8_turnsFour x1 x2 x3 x4 μ25) (fun μ29 => cI (F_X8_laysPieces μ29) (fun v36 μ33 => rI v36 μ33)))) else (rI (0 : Int32) μ22))
def f_X8_exchange_24 (x1 : Int32) (x2 : Int32) (x3 : Int32) (x4 : Int32) (s0 : Int32) (μ : Mem) : Out := if s0 = 0 then (f_X8_exchange_68 x1 x2 x3 x4 (1 : Int32) μ) else (if x2 ≤ x1 then (f_X8_exchange_68 x1 x2 x3 x4 (2 : Int32) μ) else (if x3 < x4 then (cI (F_X8_isOfFour x1 x2 x3 x4 μ) (fun v20 μ17 => if v20 = 0 then (f_X8_exchange_68 x1 x2 x3 x4 (3 : Int32) μ17) else (f_X8_exchange_68 x1 x2 x3 x4 (0 : Int32) μ17))) else (f_X8_exchange_68 x1 x2 x3 x4 (2 : Int32) μ)))
def F_X8_exchange (a0 : Int32) (a1 : Int32) (a2 : Int32) (a3 : Int32) (μ : Mem) : Out := cI (F_X8_isCell a0 a2 μ) (fun v5 μ2 => if v5 = 0 then (f_X8_exchange_24 a0 a1 a2 a3 (0 : Int32) μ2) else (cI (F_X8_isCell a1 a3 μ2) (fun v11 μ8 => if v11 = 0 then (f_X8_exchange_24 a0 a1 a2 a3 (0 : Int32) μ8) else (f_X8_exchange_24 a0 a1 a2 a3 (1 : Int32) μ8))))
def Γ_X8_exchange : Gam := fun as μ r μ' => ∃ (a0 : Int32) (a1 : Int32) (a2 : Int32) (a3 : Int32), as = [.ref 29, .int a0, .int a1, .int a2, .int a3] ∧ F_X8_exchange a0 a1 a2 a3 μ = some (r, μ')
def mX8_exchange : MI := (cX8_exchange, [(127, (1, 2, 0, 6, Γ_X8_isCell)), (148, (1, 4, 0, 6, Γ_X8_isOfFour)), (152, (1, 4, 0, 6, Γ_X8_turnsFour)), (202, (1, 0, 0, 6, Γ_X8_laysPieces)), (230, (1, 0, 0, 6, Γ_X8_remembers))], [(65, 6, 8)], [], [], [], [], none, (some .int))
set_option maxHeartbeats 4000000 in
theorem g_X8_exchange_68 {r : Res} {μ' : Mem} : ∀ (x1 : Int32) (x2 : Int32) (x3 : Int32) (x4 : Int32) (s0 : Int32), ∀ (μ : Mem) (b : Nat), 0 ≤ b → f_X8_exchange_68 x1 x2 x3 x4 s0 μ = some (r, μ') → G mX8_exchange (Qe r μ') 68 [some (.ref 29), some (.int x1), some (.int x2), some (.int x3), some (.int x4), none] [.int s0, .ref 29] μ b := by
  intro x1 x2 x3 x4 s0 μ b hb9 h
  unfold f_X8_exchange_68 at h
  refine e_putI (ci := 6) (j := 8) dX8_exchange_68 rfl (by decide) rfl rfl ?_
  refine e_naM (e := sI μ 29 8 s0) h (fun μ22 eμ22 h => ?_)
  refine e_aload_n dX8_exchange_71 rfl ?_
  refine e_get (ci := 6) (j := 8) (t := 0) (v := .int (μ22.1 29 8)) dX8_exchange_72 rfl (by decide) rfl rfl rfl ?_
  refine e_if_eq (tgt := 80) dX8_exchange_75 rfl (fun hc23 => ?_) (fun hc23 => ?_)
  · rw [if_pos hc23] at h
    refine e_aload_n dX8_exchange_80 rfl ?_
    refine cV_go h (fun E26 hc24 hr27 => e_VX [] [] dX8_exchange_81 rfl rfl rfl rfl (by decide) (Nat.le_of_ble_eq_true rfl) (by omega) ⟨rfl, hc24⟩ rfl ⟨hr27.symm, rfl⟩) (fun μ25 hc24 h => ?_)
    refine e_VV [] [] dX8_exchange_81 rfl rfl rfl rfl (by decide) (Nat.le_of_ble_eq_true rfl) (by omega) ⟨rfl, hc24⟩ ?_
    refine e_aload_n dX8_exchange_84 rfl ?_
    refine e_iload_n dX8_exchange_85 rfl ?_
    refine e_iload_n dX8_exchange_86 rfl ?_
    refine e_iload_n dX8_exchange_87 rfl ?_
    refine e_iload dX8_exchange_88 rfl ?_
    refine cV_go h (fun E30 hc28 hr31 => e_VX [.int x1, .int x2, .int x3, .int x4] [] dX8_exchange_90 rfl rfl rfl rfl (by decide) (Nat.le_of_ble_eq_true rfl) (by omega) ⟨x1, x2, x3, x4, rfl, hc28⟩ rfl ⟨hr31.symm, rfl⟩) (fun μ29 hc28 h => ?_)
    refine e_VV [.int x1, .int x2, .int x3, .int x4] [] dX8_exchange_90 rfl rfl rfl rfl (by decide) (Nat.le_of_ble_eq_true rfl) (by omega) ⟨x1, x2, x3, x4, rfl, hc28⟩ ?_
    refine e_aload_n dX8_exchange_93 rfl ?_
    refine cI_go h (fun E34 hc32 hr35 => e_VX [] [] dX8_exchange_94 rfl rfl rfl rfl (by decide) (Nat.le_of_ble_eq_true rfl) (by omega) ⟨rfl, hc32⟩ rfl ⟨hr35.symm, rfl⟩) (fun v36 μ33 hc32 h => ?_)
    refine e_VI [] [] dX8_exchange_94 rfl rfl rfl rfl (by decide) (Nat.le_of_ble_eq_true rfl) (by omega) ⟨rfl, hc32⟩ ?_
    exact e_iret .int dX8_exchange_97 rfl rfl (ret_eq h)
  · rw [if_neg hc23] at h
    refine e_iconst dX8_exchange_78 ci_0 ?_
    exact e_iret .int dX8_exchange_79 rfl rfl (ret_eq h)
set_option maxHeartbeats 4000000 in
theorem g_X8_exchange_24 {r : Res} {μ' : Mem} : ∀ (x1 : Int32) (x2 : Int32) (x3 : Int32) (x4 : Int32) (s0 : Int32), ∀ (μ : Mem) (b : Nat), 0 ≤ b → f_X8_exchange_24 x1 x2 x3 x4 s0 μ = some (r, μ') → G mX8_exchange (Qe r μ') 24 [some (.ref 29), some (.int x1), some (.int x2), some (.int x3), some (.int x4), none] [.int s0] μ b := by
  intro x1 x2 x3 x4 s0 μ b hb9 h
  unfold f_X8_exchange_24 at h
  refine e_istoreL [some (.ref 29), some (.int x1), some (.int x2), some (.int x3), some (.int x4), some (.int s0)] dX8_exchange_24 (Nat.le_of_ble_eq_true rfl) rfl ?_
  refine e_aload_n dX8_exchange_26 rfl ?_
  refine e_iload dX8_exchange_27 rfl ?_
  refine e_if_ne (tgt := 36) dX8_exchange_29 rfl (fun hc13 => ?_) (fun hc13 => ?_)
  · rw [if_neg hc13] at h
    refine e_iload_n dX8_exchange_36 rfl ?_
    refine e_iload_n dX8_exchange_37 rfl ?_
    refine e_ic_le (tgt := 47) dX8_exchange_38 rfl (fun hc14 => ?_) (fun hc14 => ?_)
    · rw [if_pos hc14] at h
      refine e_iconst dX8_exchange_47 ci_2 ?_
      refine e_goto (tgt := 68) dX8_exchange_48 rfl ?_
      exact e_le (g_X8_exchange_68 x1 x2 x3 x4 (2 : Int32) μ _ (by omega) h) ⟨rfl, rfl, rfl, rfl, rfl, trivial⟩
    · rw [if_neg hc14] at h
      refine e_iload dX8_exchange_41 rfl ?_
      refine e_iload_n dX8_exchange_43 rfl ?_
      refine e_ic_gt (tgt := 51) dX8_exchange_44 rfl (fun hc15 => ?_) (fun hc15 => ?_)
      · rw [if_pos hc15] at h
        refine e_aload_n dX8_exchange_51 rfl ?_
        refine e_iload_n dX8_exchange_52 rfl ?_
        refine e_iload_n dX8_exchange_53 rfl ?_
        refine e_iload_n dX8_exchange_54 rfl ?_
        refine e_iload dX8_exchange_55 rfl ?_
        refine cI_go h (fun E18 hc16 hr19 => e_VX [.int x1, .int x2, .int x3, .int x4] [.ref 29] dX8_exchange_57 rfl rfl rfl rfl (by decide) (Nat.le_of_ble_eq_true rfl) (by omega) ⟨x1, x2, x3, x4, rfl, hc16⟩ rfl ⟨hr19.symm, rfl⟩) (fun v20 μ17 hc16 h => ?_)
        refine e_VI [.int x1, .int x2, .int x3, .int x4] [.ref 29] dX8_exchange_57 rfl rfl rfl rfl (by decide) (Nat.le_of_ble_eq_true rfl) (by omega) ⟨x1, x2, x3, x4, rfl, hc16⟩ ?_
        refine e_if_ne (tgt := 67) dX8_exchange_60 rfl (fun hc21 => ?_) (fun hc21 => ?_)
        · rw [if_neg hc21] at h
          refine e_iconst dX8_exchange_67 ci_0 ?_
          exact e_le (g_X8_exchange_68 x1 x2 x3 x4 (0 : Int32) μ17 _ (by omega) h) ⟨rfl, rfl, rfl, rfl, rfl, trivial⟩
        · rw [if_pos hc21] at h
          refine e_iconst dX8_exchange_63 ci_3 ?_
          refine e_goto (tgt := 68) dX8_exchange_64 rfl ?_
          exact e_le (g_X8_exchange_68 x1 x2 x3 x4 (3 : Int32) μ17 _ (by omega) h) ⟨rfl, rfl, rfl, rfl, rfl, trivial⟩
      · rw [if_neg hc15] at h
        refine e_iconst dX8_exchange_47 ci_2 ?_
        refine e_goto (tgt := 68) dX8_exchange_48 rfl ?_
        exact e_le (g_X8_exchange_68 x1 x2 x3 x4 (2 : Int32) μ _ (by omega) h) ⟨rfl, rfl, rfl, rfl, rfl, trivial⟩
  · rw [if_pos hc13] at h
    refine e_iconst dX8_exchange_32 ci_1 ?_
    refine e_goto (tgt := 68) dX8_exchange_33 rfl ?_
    exact e_le (g_X8_exchange_68 x1 x2 x3 x4 (1 : Int32) μ _ (by omega) h) ⟨rfl, rfl, rfl, rfl, rfl, trivial⟩
set_option maxHeartbeats 4000000 in
theorem b_X8_exchange : ∀ as μ r μ', Γ_X8_exchange as μ r μ' → (elvL as).length ≤ 6 ∧ G mX8_exchange (Qe r μ') 0 (elv as 6) [] μ 0 := by
  intro as μ r μ' h
  obtain ⟨a0, a1, a2, a3, rfl, h⟩ := h
  refine ⟨Nat.le_of_ble_eq_true rfl, ?_⟩
  show G mX8_exchange (Qe r μ') 0 [some (.ref 29), some (.int a0), some (.int a1), some (.int a2), some (.int a3), none] [] μ 0
  unfold F_X8_exchange at h
  have hb9 : 0 ≤ 0 := Nat.le_refl _
  refine e_aload_n dX8_exchange_0 rfl ?_
  refine e_iload_n dX8_exchange_1 rfl ?_
  refine e_iload_n dX8_exchange_2 rfl ?_
  refine cI_go h (fun E3 hc1 hr4 => e_VX [.int a0, .int a2] [] dX8_exchange_3 rfl rfl rfl rfl (by decide) (Nat.le_of_ble_eq_true rfl) (by omega) ⟨a0, a2, rfl, hc1⟩ rfl ⟨hr4.symm, rfl⟩) (fun v5 μ2 hc1 h => ?_)
  refine e_VI [.int a0, .int a2] [] dX8_exchange_3 rfl rfl rfl rfl (by decide) (Nat.le_of_ble_eq_true rfl) (by omega) ⟨a0, a2, rfl, hc1⟩ ?_
  refine e_if_eq (tgt := 23) dX8_exchange_6 rfl (fun hc6 => ?_) (fun hc6 => ?_)
  · rw [if_pos hc6] at h
    refine e_iconst dX8_exchange_23 ci_0 ?_
    exact e_le (g_X8_exchange_24 a0 a1 a2 a3 (0 : Int32) μ2 _ (by omega) h) ⟨rfl, rfl, rfl, rfl, rfl, trivial⟩
  · rw [if_neg hc6] at h
    refine e_aload_n dX8_exchange_9 rfl ?_
    refine e_iload_n dX8_exchange_10 rfl ?_
    refine e_iload dX8_exchange_11 rfl ?_
    refine cI_go h (fun E9 hc7 hr10 => e_VX [.int a1, .int a3] [] dX8_exchange_13 rfl rfl rfl rfl (by decide) (Nat.le_of_ble_eq_true rfl) (by omega) ⟨a1, a3, rfl, hc7⟩ rfl ⟨hr10.symm, rfl⟩) (fun v11 μ8 hc7 h => ?_)
    refine e_VI [.int a1, .int a3] [] dX8_exchange_13 rfl rfl rfl rfl (by decide) (Nat.le_of_ble_eq_true rfl) (by omega) ⟨a1, a3, rfl, hc7⟩ ?_
    refine e_if_eq (tgt := 23) dX8_exchange_16 rfl (fun hc12 => ?_) (fun hc12 => ?_)
    · rw [if_pos hc12] at h
      refine e_iconst dX8_exchange_23 ci_0 ?_
      exact e_le (g_X8_exchange_24 a0 a1 a2 a3 (0 : Int32) μ8 _ (by omega) h) ⟨rfl, rfl, rfl, rfl, rfl, trivial⟩
    · rw [if_neg hc12] at h
      refine e_iconst dX8_exchange_19 ci_1 ?_
      refine e_goto (tgt := 24) dX8_exchange_20 rfl ?_
      exact e_le (g_X8_exchange_24 a0 a1 a2 a3 (1 : Int32) μ8 _ (by omega) h) ⟨rfl, rfl, rfl, rfl, rfl, trivial⟩
set_option maxRecDepth 20000 in
theorem ok_X8_exchange (l : Launch) (hl : l.stackTraces = false) : MOK l yX8_exchange.cls 6 118 mX8_exchange := ⟨lk_all (List.forall_mem_cons.mpr ⟨⟨yX8_isCell, cX8_isCell, 3, (some .boolean), 2, 22, by decide, by decide, t_1 7 rfl rfl, hd_X8_isCell, Or.inr (Or.inl ⟨rfl, sc_X8_isCell l hl, t_5 105 rfl rfl, t_5 102 rfl rfl, t_5 104 rfl rfl, _, rfl, t_p 49 rfl⟩)⟩, List.forall_mem_cons.mpr ⟨⟨yX8_isOfFour, cX8_isOfFour, 7, (some .boolean), 2, 22, by decide, by decide, t_1 7 rfl rfl, hd_X8_isOfFour, Or.inr (Or.inl ⟨rfl, sc_X8_isOfFour l hl, t_5 141 rfl rfl, t_5 138 rfl rfl, t_5 140 rfl rfl, _, rfl, t_p 58 rfl⟩)⟩, List.forall_mem_cons.mpr ⟨⟨yX8_turnsFour, cX8_turnsFour, 5, none, 1, 0, by decide, by decide, t_1 7 rfl rfl, hd_X8_turnsFour, Or.inr (Or.inl ⟨rfl, sc_X8_turnsFour l hl, t_5 239 rfl rfl, t_5 236 rfl rfl, t_5 238 rfl rfl, _, rfl, t_p 70 rfl⟩)⟩, List.forall_mem_cons.mpr ⟨⟨yX8_laysPieces, cX8_laysPieces, 6, (some .int), 5, 93, by decide, by decide, t_1 7 rfl rfl, hd_X8_laysPieces, Or.inr (Or.inl ⟨rfl, sc_X8_laysPieces l hl, t_5 101 rfl rfl, t_5 98 rfl rfl, t_5 100 rfl rfl, _, rfl, t_p 48 rfl⟩)⟩, List.forall_mem_cons.mpr ⟨⟨yX8_remembers, cX8_remembers, 2, none, 2, 24, by decide, by decide, t_1 7 rfl rfl, hd_X8_remembers, Or.inr (Or.inl ⟨rfl, sc_X8_remembers l hl, t_5 204 rfl rfl, t_5 201 rfl rfl, t_5 203 rfl rfl, _, rfl, t_p 67 rfl⟩)⟩, nil_all⟩⟩⟩⟩⟩), fun ix ci j h => lk_all (P := fun ix q => FldOK yX8_exchange.cls ix q.1 q.2) (List.forall_mem_cons.mpr ⟨⟨_, rfl, by decide, t_4 186 rfl rfl⟩, nil_all⟩) ix (ci, j) h, lk_all (nil_all), lk_all (nil_all), lk_all (nil_all)⟩
theorem hd_X8_exchange : CallHd yX8_exchange 4 := ⟨by decide +kernel, by decide +kernel, by decide +kernel⟩
theorem sc_X8_exchange (l : Launch) (hl : l.stackTraces = false) : SCon l yX8_exchange cX8_exchange 6 (some .int) 6 118 0 Γ_X8_exchange := scon_of mX8_exchange cls_ok hl (by decide +kernel) rfl rfl (ok_X8_exchange l hl) rfl rfl b_X8_exchange
def f_X8_exchangeAt_10 (x1 : Int32) (s0 : Int32) (μ : Mem) : Out := lt (sI μ 29 8 s0) (fun μ2 => if (μ2.1 29 8) = 0 then (cI (F_X8_exchangeOf x1 μ2) (fun v8 μ5 => rI v8 μ5)) else (rI (0 : Int32) μ2))
def F_X8_exchangeAt (a0 : Int32) (μ : Mem) : Out := if 0 ≤ a0 then (f_X8_exchangeAt_10 a0 (0 : Int32) μ) else (f_X8_exchangeAt_10 a0 (1 : Int32) μ)
def Γ_X8_exchangeAt : Gam := fun as μ r μ' => ∃ (a0 : Int32), as = [.ref 29, .int a0] ∧ F_X8_exchangeAt a0 μ = some (r, μ')
def mX8_exchangeAt : MI := (cX8_exchangeAt, [(211, (1, 1, 0, 6, Γ_X8_exchangeOf))], [(65, 6, 8)], [], [], [], [], none, (some .int))
set_option maxHeartbeats 4000000 in
theorem g_X8_exchangeAt_10 {r : Res} {μ' : Mem} : ∀ (x1 : Int32) (s0 : Int32), ∀ (μ : Mem) (b : Nat), 0 ≤ b → f_X8_exchangeAt_10 x1 s0 μ = some (r, μ') → G mX8_exchangeAt (Qe r μ') 10 [some (.ref 29), some (.int x1)] [.int s0, .ref 29] μ b := by
  intro x1 s0 μ b hb9 h
  unfold f_X8_exchangeAt_10 at h
  refine e_putI (ci := 6) (j := 8) dX8_exchangeAt_10 rfl (by decide) rfl rfl ?_
  refine e_naM (e := sI μ 29 8 s0) h (fun μ2 eμ2 h => ?_)
  refine e_aload_n dX8_exchangeAt_13 rfl ?_
  refine e_get (ci := 6) (j := 8) (t := 0) (v := .int (μ2.1 29 8)) dX8_exchangeAt_14 rfl (by decide) rfl rfl rfl ?_
  refine e_if_eq (tgt := 24) dX8_exchangeAt_17 rfl (fun hc3 => ?_) (fun hc3 => ?_)
  · rw [if_pos hc3] at h
    refine e_aload_n dX8_exchangeAt_24 rfl ?_
    refine e_iload_n dX8_exchangeAt_25 rfl ?_
    refine cI_go h (fun E6 hc4 hr7 => e_VX [.int x1] [] dX8_exchangeAt_26 rfl rfl rfl rfl (by decide) (Nat.le_of_ble_eq_true rfl) (by omega) ⟨x1, rfl, hc4⟩ rfl ⟨hr7.symm, rfl⟩) (fun v8 μ5 hc4 h => ?_)
    refine e_VI [.int x1] [] dX8_exchangeAt_26 rfl rfl rfl rfl (by decide) (Nat.le_of_ble_eq_true rfl) (by omega) ⟨x1, rfl, hc4⟩ ?_
    exact e_iret .int dX8_exchangeAt_29 rfl rfl (ret_eq h)
  · rw [if_neg hc3] at h
    refine e_iconst dX8_exchangeAt_20 ci_0 ?_
    refine e_goto (tgt := 29) dX8_exchangeAt_21 rfl ?_
    exact e_iret .int dX8_exchangeAt_29 rfl rfl (ret_eq h)
set_option maxHeartbeats 4000000 in
theorem b_X8_exchangeAt : ∀ as μ r μ', Γ_X8_exchangeAt as μ r μ' → (elvL as).length ≤ 2 ∧ G mX8_exchangeAt (Qe r μ') 0 (elv as 2) [] μ 0 := by
  intro as μ r μ' h
  obtain ⟨a0, rfl, h⟩ := h
  refine ⟨Nat.le_of_ble_eq_true rfl, ?_⟩
  show G mX8_exchangeAt (Qe r μ') 0 [some (.ref 29), some (.int a0)] [] μ 0
  unfold F_X8_exchangeAt at h
  have hb9 : 0 ≤ 0 := Nat.le_refl _
  refine e_aload_n dX8_exchangeAt_0 rfl ?_
  refine e_iload_n dX8_exchangeAt_1 rfl ?_
  refine e_if_ge (tgt := 9) dX8_exchangeAt_2 rfl (fun hc1 => ?_) (fun hc1 => ?_)
  · rw [if_pos hc1] at h
    refine e_iconst dX8_exchangeAt_9 ci_0 ?_
    exact e_le (g_X8_exchangeAt_10 a0 (0 : Int32) μ _ (by omega) h) ⟨rfl, rfl, trivial⟩
  · rw [if_neg hc1] at h
    refine e_iconst dX8_exchangeAt_5 ci_1 ?_
    refine e_goto (tgt := 10) dX8_exchangeAt_6 rfl ?_
    exact e_le (g_X8_exchangeAt_10 a0 (1 : Int32) μ _ (by omega) h) ⟨rfl, rfl, trivial⟩
set_option maxRecDepth 20000 in
theorem ok_X8_exchangeAt (l : Launch) (hl : l.stackTraces = false) : MOK l yX8_exchangeAt.cls 4 75 mX8_exchangeAt := ⟨lk_all (List.forall_mem_cons.mpr ⟨⟨yX8_exchangeOf, cX8_exchangeOf, 8, (some .int), 3, 48, by decide, by decide, t_1 7 rfl rfl, hd_X8_exchangeOf, Or.inr (Or.inl ⟨rfl, sc_X8_exchangeOf l hl, t_5 137 rfl rfl, t_5 134 rfl rfl, t_5 136 rfl rfl, _, rfl, t_p 57 rfl⟩)⟩, nil_all⟩), fun ix ci j h => lk_all (P := fun ix q => FldOK yX8_exchangeAt.cls ix q.1 q.2) (List.forall_mem_cons.mpr ⟨⟨_, rfl, by decide, t_4 186 rfl rfl⟩, nil_all⟩) ix (ci, j) h, lk_all (nil_all), lk_all (nil_all), lk_all (nil_all)⟩
theorem hd_X8_exchangeAt : CallHd yX8_exchangeAt 1 := ⟨by decide +kernel, by decide +kernel, by decide +kernel⟩
theorem sc_X8_exchangeAt (l : Launch) (hl : l.stackTraces = false) : SCon l yX8_exchangeAt cX8_exchangeAt 2 (some .int) 4 75 0 Γ_X8_exchangeAt := scon_of mX8_exchangeAt cls_ok hl (by decide +kernel) rfl rfl (ok_X8_exchangeAt l hl) rfl rfl b_X8_exchangeAt
def f_X8_fill_28 (x1 : Int32) (x2 : Int32) (x3 : Int32) (s0 : Int32) (μ : Mem) : Out := lt (sI μ 29 8 s0) (fun μ13 => if (μ13.1 29 8) = 0 then (cV (F_X8_remembers μ13) (fun μ16 => cI (F_X8_isFilled x1 x2 μ16) (fun v23 μ20 => cV (F_X8_fills x1 x2 x3 μ20) (fun μ25 => ck (nz v23) (rI v23 μ25))))) else (rI (0 : Int32) μ13))
def F_X8_fill (a0 : Int32) (a1 : Int32) (a2 : Int32) (μ : Mem) : Out := cI (F_X8_isCell a0 a1 μ) (fun v5 μ2 => if v5 = 0 then (f_X8_fill_28 a0 a1 a2 (1 : Int32) μ2) else (cI (F_X8_isPinned a0 a1 μ2) (fun v11 μ8 => if v11 = 0 then (f_X8_fill_28 a0 a1 a2 (0 : Int32) μ8) else (f_X8_fill_28 a0 a1 a2 (2 : Int32) μ8))))
def Γ_X8_fill : Gam := fun as μ r μ' => ∃ (a0 : Int32) (a1 : Int32) (a2 : Int32), as = [.ref 29, .int a0, .int a1, .int a2] ∧ F_X8_fill a0 a1 a2 μ = some (r, μ')
def mX8_fill : MI := (cX8_fill, [(98, (1, 2, 0, 6, Γ_X8_isFilled)), (127, (1, 2, 0, 6, Γ_X8_isCell)), (145, (1, 2, 0, 6, Γ_X8_isPinned)), (179, (1, 3, 0, 6, Γ_X8_fills)), (230, (1, 0, 0, 6, Γ_X8_remembers))], [(65, 6, 8)], [], [], [], [], none, (some .boolean))
set_option maxHeartbeats 4000000 in
theorem g_X8_fill_28 {r : Res} {μ' : Mem} : ∀ (x1 : Int32) (x2 : Int32) (x3 : Int32) (s0 : Int32), ∀ (μ : Mem) (b : Nat), 0 ≤ b → f_X8_fill_28 x1 x2 x3 s0 μ = some (r, μ') → G mX8_fill (Qe r μ') 28 [some (.ref 29), some (.int x1), some (.int x2), some (.int x3), none] [.int s0, .ref 29] μ b := by
  intro x1 x2 x3 s0 μ b hb9 h
  unfold f_X8_fill_28 at h
  refine e_putI (ci := 6) (j := 8) dX8_fill_28 rfl (by decide) rfl rfl ?_
  refine e_naM (e := sI μ 29 8 s0) h (fun μ13 eμ13 h => ?_)
  refine e_aload_n dX8_fill_31 rfl ?_
  refine e_get (ci := 6) (j := 8) (t := 0) (v := .int (μ13.1 29 8)) dX8_fill_32 rfl (by decide) rfl rfl rfl ?_
  refine e_if_eq (tgt := 40) dX8_fill_35 rfl (fun hc14 => ?_) (fun hc14 => ?_)
  · rw [if_pos hc14] at h
    refine e_aload_n dX8_fill_40 rfl ?_
    refine cV_go h (fun E17 hc15 hr18 => e_VX [] [] dX8_fill_41 rfl rfl rfl rfl (by decide) (Nat.le_of_ble_eq_true rfl) (by omega) ⟨rfl, hc15⟩ rfl ⟨hr18.symm, rfl⟩) (fun μ16 hc15 h => ?_)
    refine e_VV [] [] dX8_fill_41 rfl rfl rfl rfl (by decide) (Nat.le_of_ble_eq_true rfl) (by omega) ⟨rfl, hc15⟩ ?_
    refine e_aload_n dX8_fill_44 rfl ?_
    refine e_iload_n dX8_fill_45 rfl ?_
    refine e_iload_n dX8_fill_46 rfl ?_
    refine cI_go h (fun E21 hc19 hr22 => e_VX [.int x1, .int x2] [] dX8_fill_47 rfl rfl rfl rfl (by decide) (Nat.le_of_ble_eq_true rfl) (by omega) ⟨x1, x2, rfl, hc19⟩ rfl ⟨hr22.symm, rfl⟩) (fun v23 μ20 hc19 h => ?_)
    refine e_VI [.int x1, .int x2] [] dX8_fill_47 rfl rfl rfl rfl (by decide) (Nat.le_of_ble_eq_true rfl) (by omega) ⟨x1, x2, rfl, hc19⟩ ?_
    refine e_istoreL [some (.ref 29), some (.int x1), some (.int x2), some (.int x3), some (.int v23)] dX8_fill_50 (Nat.le_of_ble_eq_true rfl) rfl ?_
    refine e_aload_n dX8_fill_52 rfl ?_
    refine e_iload_n dX8_fill_53 rfl ?_
    refine e_iload_n dX8_fill_54 rfl ?_
    refine e_iload_n dX8_fill_55 rfl ?_
    refine cV_go h (fun E26 hc24 hr27 => e_VX [.int x1, .int x2, .int x3] [] dX8_fill_56 rfl rfl rfl rfl (by decide) (Nat.le_of_ble_eq_true rfl) (by omega) ⟨x1, x2, x3, rfl, hc24⟩ rfl ⟨hr27.symm, rfl⟩) (fun μ25 hc24 h => ?_)
    refine e_VV [.int x1, .int x2, .int x3] [] dX8_fill_56 rfl rfl rfl rfl (by decide) (Nat.le_of_ble_eq_true rfl) (by omega) ⟨x1, x2, x3, rfl, hc24⟩ ?_
    refine e_iload dX8_fill_59 rfl ?_
    obtain ⟨hc28, h⟩ := ck_eq h
    exact e_iret .boolean dX8_fill_61 rfl hc28 (ret_eq h)
  · rw [if_neg hc14] at h
    refine e_iconst dX8_fill_38 ci_0 ?_
    exact e_iret .boolean dX8_fill_39 rfl rfl (ret_eq h)
set_option maxHeartbeats 4000000 in
theorem b_X8_fill : ∀ as μ r μ', Γ_X8_fill as μ r μ' → (elvL as).length ≤ 5 ∧ G mX8_fill (Qe r μ') 0 (elv as 5) [] μ 0 := by
  intro as μ r μ' h
  obtain ⟨a0, a1, a2, rfl, h⟩ := h
  refine ⟨Nat.le_of_ble_eq_true rfl, ?_⟩
  show G mX8_fill (Qe r μ') 0 [some (.ref 29), some (.int a0), some (.int a1), some (.int a2), none] [] μ 0
  unfold F_X8_fill at h
  have hb9 : 0 ≤ 0 := Nat.le_refl _
  refine e_aload_n dX8_fill_0 rfl ?_
  refine e_aload_n dX8_fill_1 rfl ?_
  refine e_iload_n dX8_fill_2 rfl ?_
  refine e_iload_n dX8_fill_3 rfl ?_
  refine cI_go h (fun E3 hc1 hr4 => e_VX [.int a0, .int a1] [.ref 29] dX8_fill_4 rfl rfl rfl rfl (by decide) (Nat.le_of_ble_eq_true rfl) (by omega) ⟨a0, a1, rfl, hc1⟩ rfl ⟨hr4.symm, rfl⟩) (fun v5 μ2 hc1 h => ?_)
  refine e_VI [.int a0, .int a1] [.ref 29] dX8_fill_4 rfl rfl rfl rfl (by decide) (Nat.le_of_ble_eq_true rfl) (by omega) ⟨a0, a1, rfl, hc1⟩ ?_
  refine e_if_ne (tgt := 14) dX8_fill_7 rfl (fun hc6 => ?_) (fun hc6 => ?_)
  · rw [if_neg hc6] at h
    refine e_aload_n dX8_fill_14 rfl ?_
    refine e_iload_n dX8_fill_15 rfl ?_
    refine e_iload_n dX8_fill_16 rfl ?_
    refine cI_go h (fun E9 hc7 hr10 => e_VX [.int a0, .int a1] [.ref 29] dX8_fill_17 rfl rfl rfl rfl (by decide) (Nat.le_of_ble_eq_true rfl) (by omega) ⟨a0, a1, rfl, hc7⟩ rfl ⟨hr10.symm, rfl⟩) (fun v11 μ8 hc7 h => ?_)
    refine e_VI [.int a0, .int a1] [.ref 29] dX8_fill_17 rfl rfl rfl rfl (by decide) (Nat.le_of_ble_eq_true rfl) (by omega) ⟨a0, a1, rfl, hc7⟩ ?_
    refine e_if_eq (tgt := 27) dX8_fill_20 rfl (fun hc12 => ?_) (fun hc12 => ?_)
    · rw [if_pos hc12] at h
      refine e_iconst dX8_fill_27 ci_0 ?_
      exact e_le (g_X8_fill_28 a0 a1 a2 (0 : Int32) μ8 _ (by omega) h) ⟨rfl, rfl, rfl, rfl, trivial⟩
    · rw [if_neg hc12] at h
      refine e_iconst dX8_fill_23 ci_2 ?_
      refine e_goto (tgt := 28) dX8_fill_24 rfl ?_
      exact e_le (g_X8_fill_28 a0 a1 a2 (2 : Int32) μ8 _ (by omega) h) ⟨rfl, rfl, rfl, rfl, trivial⟩
  · rw [if_pos hc6] at h
    refine e_iconst dX8_fill_10 ci_1 ?_
    refine e_goto (tgt := 28) dX8_fill_11 rfl ?_
    exact e_le (g_X8_fill_28 a0 a1 a2 (1 : Int32) μ2 _ (by omega) h) ⟨rfl, rfl, rfl, rfl, trivial⟩
set_option maxRecDepth 20000 in
theorem ok_X8_fill (l : Launch) (hl : l.stackTraces = false) : MOK l yX8_fill.cls 3 45 mX8_fill := ⟨lk_all (List.forall_mem_cons.mpr ⟨⟨yX8_isFilled, cX8_isFilled, 3, (some .boolean), 1, 0, by decide, by decide, t_1 7 rfl rfl, hd_X8_isFilled, Or.inr (Or.inl ⟨rfl, sc_X8_isFilled l hl, t_5 73 rfl rfl, t_5 70 rfl rfl, t_5 72 rfl rfl, _, rfl, t_p 42 rfl⟩)⟩, List.forall_mem_cons.mpr ⟨⟨yX8_isCell, cX8_isCell, 3, (some .boolean), 2, 22, by decide, by decide, t_1 7 rfl rfl, hd_X8_isCell, Or.inr (Or.inl ⟨rfl, sc_X8_isCell l hl, t_5 105 rfl rfl, t_5 102 rfl rfl, t_5 104 rfl rfl, _, rfl, t_p 49 rfl⟩)⟩, List.forall_mem_cons.mpr ⟨⟨yX8_isPinned, cX8_isPinned, 3, (some .boolean), 1, 0, by decide, by decide, t_1 7 rfl rfl, hd_X8_isPinned, Or.inr (Or.inl ⟨rfl, sc_X8_isPinned l hl, t_5 89 rfl rfl, t_5 86 rfl rfl, t_5 88 rfl rfl, _, rfl, t_p 45 rfl⟩)⟩, List.forall_mem_cons.mpr ⟨⟨yX8_fills, cX8_fills, 5, none, 1, 0, by decide, by decide, t_1 7 rfl rfl, hd_X8_fills, Or.inr (Or.inl ⟨rfl, sc_X8_fills l hl, t_5 215 rfl rfl, t_5 212 rfl rfl, t_5 214 rfl rfl, _, rfl, t_p 68 rfl⟩)⟩, List.forall_mem_cons.mpr ⟨⟨yX8_remembers, cX8_remembers, 2, none, 2, 24, by decide, by decide, t_1 7 rfl rfl, hd_X8_remembers, Or.inr (Or.inl ⟨rfl, sc_X8_remembers l hl, t_5 204 rfl rfl, t_5 201 rfl rfl, t_5 203 rfl rfl, _, rfl, t_p 67 rfl⟩)⟩, nil_all⟩⟩⟩⟩⟩), fun ix ci j h => lk_all (P := fun ix q => FldOK yX8_fill.cls ix q.1 q.2) (List.forall_mem_cons.mpr ⟨⟨_, rfl, by decide, t_4 186 rfl rfl⟩, nil_all⟩) ix (ci, j) h, lk_all (nil_all), lk_all (nil_all), lk_all (nil_all)⟩
theorem hd_X8_fill : CallHd yX8_fill 3 := ⟨by decide +kernel, by decide +kernel, by decide +kernel⟩
theorem sc_X8_fill (l : Launch) (hl : l.stackTraces = false) : SCon l yX8_fill cX8_fill 5 (some .boolean) 3 45 0 Γ_X8_fill := scon_of mX8_fill cls_ok hl (by decide +kernel) rfl rfl (ok_X8_fill l hl) rfl rfl b_X8_fill
def f_X8_goesThrough_76 (k35 : Int32 → Int32 → Mem → Out) : Nat → Int32 → Int32 → Mem → Out
  | 0, _, _, _ => none
  | n + 1, x1, x4, μ => if (36 : Int32) ≤ x4 then (cI (F_X8_findsNext μ) (fun v28 μ25 => k35 x1 v28 μ25)) else (ck (inb x4 36) (ck (inb x4 36) (if (μ.1 44 (Int32.toNatClampNeg x4)) = (1 : Int32) then (cI (F_X8_isCell (x4 / (6 : Int32)) (remI x4 (6 : Int32)) μ) (fun v39 μ36 => if v39 = 0 then (ck (inb x4 36) (lt (sI μ36 45 (Int32.toNatClampNeg x4) ((μ.1 45 (Int32.toNatClampNeg x4)) + (0 : Int32))) (fun μ42 => lt (x4 + (1 : Int32)) (fun v43 => f_X8_goesThrough_76 k35 n x1 v43 μ42)))) else (ck (inb x4 36) (lt (sI μ36 45 (Int32.toNatClampNeg x4) ((μ.1 45 (Int32.toNatClampNeg x4)) + (1 : Int32))) (fun μ45 => lt (x4 + (1 : Int32)) (fun v46 => f_X8_goesThrough_76 k35 n x1 v46 μ45)))))) else (ck (inb x4 36) (lt (sI μ 45 (Int32.toNatClampNeg x4) ((μ.1 45 (Int32.toNatClampNeg x4)) + (0 : Int32))) (fun μ33 => lt (x4 + (1 : Int32)) (fun v34 => f_X8_goesThrough_76 k35 n x1 v34 μ33)))))))
def f_X8_goesThrough_140 (x1 : Int32) (μ : Mem) : Out := if x1 ≤ (100 : Int32) then (rI x1 μ) else (rI (100 : Int32) μ)
def f_X8_goesThrough_35 : Nat → Int32 → Int32 → Mem → Out
  | 0, _, _, _ => none
  | n + 1, x1, x2, μ => if x2 = 0 then (f_X8_goesThrough_140 x1 μ) else (if (100 : Int32) < x1 then (f_X8_goesThrough_140 x1 μ) else (lt (x1 + (1 : Int32)) (fun v13 => cI (F_X8_differsBy μ) (fun v18 μ15 => if (μ15.1 29 20) ≤ v18 then (lt (sI μ15 29 20 (μ15.1 29 20)) (fun μ20 => f_X8_goesThrough_76 (f_X8_goesThrough_35 n) BIG v13 (0 : Int32) μ20)) else (lt (sI μ15 29 20 v18) (fun μ21 => f_X8_goesThrough_76 (f_X8_goesThrough_35 n) BIG v13 (0 : Int32) μ21))))))
def f_X8_goesThrough_2 : Nat → Int32 → Mem → Out
  | 0, _, _ => none
  | n + 1, x1, μ => if (36 : Int32) ≤ x1 then (lt (sI μ 29 20 (36 : Int32)) (fun μ2 => cI (F_X8_findsFirst (0 : Int32) μ2) (fun v7 μ4 => f_X8_goesThrough_35 BIG (0 : Int32) v7 μ4))) else (ck (inb x1 36) (lt (sI μ 45 (Int32.toNatClampNeg x1) (0 : Int32)) (fun μ9 => lt (x1 + (1 : Int32)) (fun v10 => f_X8_goesThrough_2 n v10 μ9))))
def F_X8_goesThrough (μ : Mem) : Out := f_X8_goesThrough_2 BIG (0 : Int32) μ
def Γ_X8_goesThrough : Gam := fun as μ r μ' => as = [.ref 29] ∧ F_X8_goesThrough μ = some (r, μ')
def mX8_goesThrough : MI := (cX8_goesThrough, [(127, (1, 2, 0, 6, Γ_X8_isCell)), (176, (1, 0, 0, 6, Γ_X8_differsBy)), (186, (1, 1, 0, 6, Γ_X8_findsFirst)), (190, (1, 0, 0, 6, Γ_X8_findsNext))], [(53, 6, 18), (56, 6, 19), (183, 6, 20)], [], [], [], [], none, (some .int))
set_option maxHeartbeats 4000000 in
theorem g_X8_goesThrough_76 {r : Res} {μ' : Mem} {k35 : Int32 → Int32 → Mem → Out} (hk35 : ∀ (x1 : Int32) (x2 : Int32), ∀ (μ : Mem) (b : Nat), 0 ≤ b → k35 x1 x2 μ = some (r, μ') → G mX8_goesThrough (Qe r μ') 35 [some (.ref 29), some (.int x1), some (.int x2), none, none] [] μ b) : ∀ n : Nat, ∀ (x1 : Int32) (x4 : Int32), ∀ (μ : Mem) (b : Nat), 0 ≤ b → f_X8_goesThrough_76 k35 n x1 x4 μ = some (r, μ') → G mX8_goesThrough (Qe r μ') 76 [some (.ref 29), some (.int x1), none, none, some (.int x4)] [] μ b := by
  intro n
  induction n with
  | zero => intro x1 x4 μ b hb9 h; exact nomatch (show (none : Out) = some _ from h)
  | succ n ih =>
    intro x1 x4 μ b hb9 h
    rw [f_X8_goesThrough_76.eq_2] at h
    refine e_iload dX8_goesThrough_76 rfl ?_
    refine e_bipush dX8_goesThrough_78 cb_36 ?_
    refine e_ic_ge (tgt := 132) dX8_goesThrough_80 rfl (fun hc23 => ?_) (fun hc23 => ?_)
    · rw [if_pos hc23] at h
      refine e_aload_n dX8_goesThrough_132 rfl ?_
      refine cI_go h (fun E26 hc24 hr27 => e_VX [] [] dX8_goesThrough_133 rfl rfl rfl rfl (by decide) (Nat.le_of_ble_eq_true rfl) (by omega) ⟨rfl, hc24⟩ rfl ⟨hr27.symm, rfl⟩) (fun v28 μ25 hc24 h => ?_)
      refine e_VI [] [] dX8_goesThrough_133 rfl rfl rfl rfl (by decide) (Nat.le_of_ble_eq_true rfl) (by omega) ⟨rfl, hc24⟩ ?_
      refine e_istore_nL [some (.ref 29), some (.int x1), some (.int v28), none, some (.int x4)] dX8_goesThrough_136 (Nat.le_of_ble_eq_true rfl) rfl ?_
      refine e_goto (tgt := 35) dX8_goesThrough_137 rfl ?_
      exact e_le (hk35 x1 v28 μ25 _ (by omega) h) ⟨rfl, rfl, rfl, trivial⟩
    · rw [if_neg hc23] at h
      refine e_aload_n dX8_goesThrough_83 rfl ?_
      refine e_get (ci := 6) (j := 19) (t := 2) (v := .ref 45) dX8_goesThrough_84 rfl (by decide) rfl rfl rfl ?_
      refine e_iload dX8_goesThrough_87 rfl ?_
      refine e_dup2 dX8_goesThrough_89 rfl rfl ?_
      obtain ⟨hc29, h⟩ := ck_eq h
      refine e_ialoadL (μ.1 45 (Int32.toNatClampNeg x4)) (n := 36) dX8_goesThrough_90 (by decide) rfl hc29 rfl ?_
      refine e_aload_n dX8_goesThrough_91 rfl ?_
      refine e_get (ci := 6) (j := 18) (t := 2) (v := .ref 44) dX8_goesThrough_92 rfl (by decide) rfl rfl rfl ?_
      refine e_iload dX8_goesThrough_95 rfl ?_
      obtain ⟨hc30, h⟩ := ck_eq h
      refine e_ialoadL (μ.1 44 (Int32.toNatClampNeg x4)) (n := 36) dX8_goesThrough_97 (by decide) rfl hc30 rfl ?_
      refine e_iconst dX8_goesThrough_98 ci_1 ?_
      refine e_ic_ne (tgt := 123) dX8_goesThrough_99 rfl (fun hc31 => ?_) (fun hc31 => ?_)
      · rw [if_neg hc31] at h
        refine e_iconst dX8_goesThrough_123 ci_0 ?_
        refine e_iadd dX8_goesThrough_124 ?_
        obtain ⟨hc32, h⟩ := ck_eq h
        refine e_iastore (n := 36) dX8_goesThrough_125 (by decide) rfl hc32 ?_
        refine e_naM (e := sI μ 45 (Int32.toNatClampNeg x4) ((μ.1 45 (Int32.toNatClampNeg x4)) + (0 : Int32))) h (fun μ33 eμ33 h => ?_)
        refine e_iincN 4 (1 : Int32) dX8_goesThrough_126 rfl ci_1 h (fun y9 => [some (.ref 29), some (.int x1), none, none, some (.int y9)]) (fun _ => rfl) (fun v34 ev34 h => ?_)
        refine e_goto (tgt := 76) dX8_goesThrough_129 rfl ?_
        exact e_le (ih x1 v34 μ33 _ (by omega) h) ⟨rfl, rfl, rfl, trivial⟩
      · rw [if_pos hc31] at h
        refine e_aload_n dX8_goesThrough_102 rfl ?_
        refine e_iload dX8_goesThrough_103 rfl ?_
        refine e_bipush dX8_goesThrough_105 cb_6 ?_
        refine e_idiv dX8_goesThrough_107 (by decide) ?_
        refine e_iload dX8_goesThrough_108 rfl ?_
        refine e_bipush dX8_goesThrough_110 cb_6 ?_
        refine e_irem dX8_goesThrough_112 (by decide) ?_
        refine cI_go h (fun E37 hc35 hr38 => e_VX [.int (x4 / (6 : Int32)), .int (remI x4 (6 : Int32))] [.int (μ.1 45 (Int32.toNatClampNeg x4)), .int x4, .ref 45] dX8_goesThrough_113 rfl rfl rfl rfl (by decide) (Nat.le_of_ble_eq_true rfl) (by omega) ⟨x4 / (6 : Int32), remI x4 (6 : Int32), rfl, hc35⟩ rfl ⟨hr38.symm, rfl⟩) (fun v39 μ36 hc35 h => ?_)
        refine e_VI [.int (x4 / (6 : Int32)), .int (remI x4 (6 : Int32))] [.int (μ.1 45 (Int32.toNatClampNeg x4)), .int x4, .ref 45] dX8_goesThrough_113 rfl rfl rfl rfl (by decide) (Nat.le_of_ble_eq_true rfl) (by omega) ⟨x4 / (6 : Int32), remI x4 (6 : Int32), rfl, hc35⟩ ?_
        refine e_if_eq (tgt := 123) dX8_goesThrough_116 rfl (fun hc40 => ?_) (fun hc40 => ?_)
        · rw [if_pos hc40] at h
          refine e_iconst dX8_goesThrough_123 ci_0 ?_
          refine e_iadd dX8_goesThrough_124 ?_
          obtain ⟨hc41, h⟩ := ck_eq h
          refine e_iastore (n := 36) dX8_goesThrough_125 (by decide) rfl hc41 ?_
          refine e_naM (e := sI μ36 45 (Int32.toNatClampNeg x4) ((μ.1 45 (Int32.toNatClampNeg x4)) + (0 : Int32))) h (fun μ42 eμ42 h => ?_)
          refine e_iincN 4 (1 : Int32) dX8_goesThrough_126 rfl ci_1 h (fun y9 => [some (.ref 29), some (.int x1), none, none, some (.int y9)]) (fun _ => rfl) (fun v43 ev43 h => ?_)
          refine e_goto (tgt := 76) dX8_goesThrough_129 rfl ?_
          exact e_le (ih x1 v43 μ42 _ (by omega) h) ⟨rfl, rfl, rfl, trivial⟩
        · rw [if_neg hc40] at h
          refine e_iconst dX8_goesThrough_119 ci_1 ?_
          refine e_goto (tgt := 124) dX8_goesThrough_120 rfl ?_
          refine e_iadd dX8_goesThrough_124 ?_
          obtain ⟨hc44, h⟩ := ck_eq h
          refine e_iastore (n := 36) dX8_goesThrough_125 (by decide) rfl hc44 ?_
          refine e_naM (e := sI μ36 45 (Int32.toNatClampNeg x4) ((μ.1 45 (Int32.toNatClampNeg x4)) + (1 : Int32))) h (fun μ45 eμ45 h => ?_)
          refine e_iincN 4 (1 : Int32) dX8_goesThrough_126 rfl ci_1 h (fun y9 => [some (.ref 29), some (.int x1), none, none, some (.int y9)]) (fun _ => rfl) (fun v46 ev46 h => ?_)
          refine e_goto (tgt := 76) dX8_goesThrough_129 rfl ?_
          exact e_le (ih x1 v46 μ45 _ (by omega) h) ⟨rfl, rfl, rfl, trivial⟩
set_option maxHeartbeats 4000000 in
theorem g_X8_goesThrough_140 {r : Res} {μ' : Mem} : ∀ (x1 : Int32), ∀ (μ : Mem) (b : Nat), 0 ≤ b → f_X8_goesThrough_140 x1 μ = some (r, μ') → G mX8_goesThrough (Qe r μ') 140 [none, some (.int x1), none, none, none] [] μ b := by
  intro x1 μ b hb9 h
  unfold f_X8_goesThrough_140 at h
  refine e_iload_n dX8_goesThrough_140 rfl ?_
  refine e_bipush dX8_goesThrough_141 cb_100 ?_
  refine e_ic_le (tgt := 151) dX8_goesThrough_143 rfl (fun hc22 => ?_) (fun hc22 => ?_)
  · rw [if_pos hc22] at h
    refine e_iload_n dX8_goesThrough_151 rfl ?_
    exact e_iret .int dX8_goesThrough_152 rfl rfl (ret_eq h)
  · rw [if_neg hc22] at h
    refine e_bipush dX8_goesThrough_146 cb_100 ?_
    refine e_goto (tgt := 152) dX8_goesThrough_148 rfl ?_
    exact e_iret .int dX8_goesThrough_152 rfl rfl (ret_eq h)
set_option maxHeartbeats 4000000 in
theorem g_X8_goesThrough_35 {r : Res} {μ' : Mem} : ∀ n : Nat, ∀ (x1 : Int32) (x2 : Int32), ∀ (μ : Mem) (b : Nat), 0 ≤ b → f_X8_goesThrough_35 n x1 x2 μ = some (r, μ') → G mX8_goesThrough (Qe r μ') 35 [some (.ref 29), some (.int x1), some (.int x2), none, none] [] μ b := by
  intro n
  induction n with
  | zero => intro x1 x2 μ b hb9 h; exact nomatch (show (none : Out) = some _ from h)
  | succ n ih =>
    intro x1 x2 μ b hb9 h
    rw [f_X8_goesThrough_35.eq_2] at h
    refine e_iload_n dX8_goesThrough_35 rfl ?_
    refine e_if_eq (tgt := 140) dX8_goesThrough_36 rfl (fun hc11 => ?_) (fun hc11 => ?_)
    · rw [if_pos hc11] at h
      exact e_le (g_X8_goesThrough_140 x1 μ _ (by omega) h) ⟨rfl, trivial⟩
    · rw [if_neg hc11] at h
      refine e_iload_n dX8_goesThrough_39 rfl ?_
      refine e_bipush dX8_goesThrough_40 cb_100 ?_
      refine e_ic_gt (tgt := 140) dX8_goesThrough_42 rfl (fun hc12 => ?_) (fun hc12 => ?_)
      · rw [if_pos hc12] at h
        exact e_le (g_X8_goesThrough_140 x1 μ _ (by omega) h) ⟨rfl, trivial⟩
      · rw [if_neg hc12] at h
        refine e_iincN 1 (1 : Int32) dX8_goesThrough_45 rfl ci_1 h (fun y9 => [some (.ref 29), some (.int y9), some (.int x2), none, none]) (fun _ => rfl) (fun v13 ev13 h => ?_)
        refine e_aload_n dX8_goesThrough_48 rfl ?_
        refine cI_go h (fun E16 hc14 hr17 => e_VX [] [] dX8_goesThrough_49 rfl rfl rfl rfl (by decide) (Nat.le_of_ble_eq_true rfl) (by omega) ⟨rfl, hc14⟩ rfl ⟨hr17.symm, rfl⟩) (fun v18 μ15 hc14 h => ?_)
        refine e_VI [] [] dX8_goesThrough_49 rfl rfl rfl rfl (by decide) (Nat.le_of_ble_eq_true rfl) (by omega) ⟨rfl, hc14⟩ ?_
        refine e_istore_nL [some (.ref 29), some (.int v13), some (.int x2), some (.int v18), none] dX8_goesThrough_52 (Nat.le_of_ble_eq_true rfl) rfl ?_
        refine e_aload_n dX8_goesThrough_53 rfl ?_
        refine e_iload_n dX8_goesThrough_54 rfl ?_
        refine e_aload_n dX8_goesThrough_55 rfl ?_
        refine e_get (ci := 6) (j := 20) (t := 0) (v := .int (μ15.1 29 20)) dX8_goesThrough_56 rfl (by decide) rfl rfl rfl ?_
        refine e_ic_ge (tgt := 66) dX8_goesThrough_59 rfl (fun hc19 => ?_) (fun hc19 => ?_)
        · rw [if_pos hc19] at h
          refine e_aload_n dX8_goesThrough_66 rfl ?_
          refine e_get (ci := 6) (j := 20) (t := 0) (v := .int (μ15.1 29 20)) dX8_goesThrough_67 rfl (by decide) rfl rfl rfl ?_
          refine e_putI (ci := 6) (j := 20) dX8_goesThrough_70 rfl (by decide) rfl rfl ?_
          refine e_naM (e := sI μ15 29 20 (μ15.1 29 20)) h (fun μ20 eμ20 h => ?_)
          refine e_iconst dX8_goesThrough_73 ci_0 ?_
          refine e_istoreL [some (.ref 29), some (.int v13), some (.int x2), some (.int v18), some (.int (0 : Int32))] dX8_goesThrough_74 (Nat.le_of_ble_eq_true rfl) rfl ?_
          exact e_le (g_X8_goesThrough_76 ih BIG v13 (0 : Int32) μ20 _ (by omega) h) ⟨rfl, rfl, rfl, trivial⟩
        · rw [if_neg hc19] at h
          refine e_iload_n dX8_goesThrough_62 rfl ?_
          refine e_goto (tgt := 70) dX8_goesThrough_63 rfl ?_
          refine e_putI (ci := 6) (j := 20) dX8_goesThrough_70 rfl (by decide) rfl rfl ?_
          refine e_naM (e := sI μ15 29 20 v18) h (fun μ21 eμ21 h => ?_)
          refine e_iconst dX8_goesThrough_73 ci_0 ?_
          refine e_istoreL [some (.ref 29), some (.int v13), some (.int x2), some (.int v18), some (.int (0 : Int32))] dX8_goesThrough_74 (Nat.le_of_ble_eq_true rfl) rfl ?_
          exact e_le (g_X8_goesThrough_76 ih BIG v13 (0 : Int32) μ21 _ (by omega) h) ⟨rfl, rfl, rfl, trivial⟩
set_option maxHeartbeats 4000000 in
theorem g_X8_goesThrough_2 {r : Res} {μ' : Mem} : ∀ n : Nat, ∀ (x1 : Int32), ∀ (μ : Mem) (b : Nat), 0 ≤ b → f_X8_goesThrough_2 n x1 μ = some (r, μ') → G mX8_goesThrough (Qe r μ') 2 [some (.ref 29), some (.int x1), none, none, none] [] μ b := by
  intro n
  induction n with
  | zero => intro x1 μ b hb9 h; exact nomatch (show (none : Out) = some _ from h)
  | succ n ih =>
    intro x1 μ b hb9 h
    rw [f_X8_goesThrough_2.eq_2] at h
    refine e_iload_n dX8_goesThrough_2 rfl ?_
    refine e_bipush dX8_goesThrough_3 cb_36 ?_
    refine e_ic_ge (tgt := 21) dX8_goesThrough_5 rfl (fun hc1 => ?_) (fun hc1 => ?_)
    · rw [if_pos hc1] at h
      refine e_iconst dX8_goesThrough_21 ci_0 ?_
      refine e_istore_nL [some (.ref 29), some (.int (0 : Int32)), none, none, none] dX8_goesThrough_22 (Nat.le_of_ble_eq_true rfl) rfl ?_
      refine e_aload_n dX8_goesThrough_23 rfl ?_
      refine e_bipush dX8_goesThrough_24 cb_36 ?_
      refine e_putI (ci := 6) (j := 20) dX8_goesThrough_26 rfl (by decide) rfl rfl ?_
      refine e_naM (e := sI μ 29 20 (36 : Int32)) h (fun μ2 eμ2 h => ?_)
      refine e_aload_n dX8_goesThrough_29 rfl ?_
      refine e_iconst dX8_goesThrough_30 ci_0 ?_
      refine cI_go h (fun E5 hc3 hr6 => e_VX [.int (0 : Int32)] [] dX8_goesThrough_31 rfl rfl rfl rfl (by decide) (Nat.le_of_ble_eq_true rfl) (by omega) ⟨(0 : Int32), rfl, hc3⟩ rfl ⟨hr6.symm, rfl⟩) (fun v7 μ4 hc3 h => ?_)
      refine e_VI [.int (0 : Int32)] [] dX8_goesThrough_31 rfl rfl rfl rfl (by decide) (Nat.le_of_ble_eq_true rfl) (by omega) ⟨(0 : Int32), rfl, hc3⟩ ?_
      refine e_istore_nL [some (.ref 29), some (.int (0 : Int32)), some (.int v7), none, none] dX8_goesThrough_34 (Nat.le_of_ble_eq_true rfl) rfl ?_
      exact e_le (g_X8_goesThrough_35 BIG (0 : Int32) v7 μ4 _ (by omega) h) ⟨rfl, rfl, rfl, trivial⟩
    · rw [if_neg hc1] at h
      refine e_aload_n dX8_goesThrough_8 rfl ?_
      refine e_get (ci := 6) (j := 19) (t := 2) (v := .ref 45) dX8_goesThrough_9 rfl (by decide) rfl rfl rfl ?_
      refine e_iload_n dX8_goesThrough_12 rfl ?_
      refine e_iconst dX8_goesThrough_13 ci_0 ?_
      obtain ⟨hc8, h⟩ := ck_eq h
      refine e_iastore (n := 36) dX8_goesThrough_14 (by decide) rfl hc8 ?_
      refine e_naM (e := sI μ 45 (Int32.toNatClampNeg x1) (0 : Int32)) h (fun μ9 eμ9 h => ?_)
      refine e_iincN 1 (1 : Int32) dX8_goesThrough_15 rfl ci_1 h (fun y9 => [some (.ref 29), some (.int y9), none, none, none]) (fun _ => rfl) (fun v10 ev10 h => ?_)
      refine e_goto (tgt := 2) dX8_goesThrough_18 rfl ?_
      exact e_le (ih v10 μ9 _ (by omega) h) ⟨rfl, rfl, trivial⟩
set_option maxHeartbeats 4000000 in
theorem b_X8_goesThrough : ∀ as μ r μ', Γ_X8_goesThrough as μ r μ' → (elvL as).length ≤ 5 ∧ G mX8_goesThrough (Qe r μ') 0 (elv as 5) [] μ 0 := by
  intro as μ r μ' h
  obtain ⟨rfl, h⟩ := h
  refine ⟨Nat.le_of_ble_eq_true rfl, ?_⟩
  show G mX8_goesThrough (Qe r μ') 0 [some (.ref 29), none, none, none, none] [] μ 0
  unfold F_X8_goesThrough at h
  have hb9 : 0 ≤ 0 := Nat.le_refl _
  refine e_iconst dX8_goesThrough_0 ci_0 ?_
  refine e_istore_nL [some (.ref 29), some (.int (0 : Int32)), none, none, none] dX8_goesThrough_1 (Nat.le_of_ble_eq_true rfl) rfl ?_
  exact e_le (g_X8_goesThrough_2 BIG (0 : Int32) μ _ (by omega) h) ⟨rfl, rfl, trivial⟩
set_option maxRecDepth 20000 in
theorem ok_X8_goesThrough (l : Launch) (hl : l.stackTraces = false) : MOK l yX8_goesThrough.cls 7 141 mX8_goesThrough := ⟨lk_all (List.forall_mem_cons.mpr ⟨⟨yX8_isCell, cX8_isCell, 3, (some .boolean), 2, 22, by decide, by decide, t_1 7 rfl rfl, hd_X8_isCell, Or.inr (Or.inl ⟨rfl, sc_X8_isCell l hl, t_5 105 rfl rfl, t_5 102 rfl rfl, t_5 104 rfl rfl, _, rfl, t_p 49 rfl⟩)⟩, List.forall_mem_cons.mpr ⟨⟨yX8_differsBy, cX8_differsBy, 4, (some .int), 2, 22, by decide, by decide, t_1 7 rfl rfl, hd_X8_differsBy, Or.inr (Or.inl ⟨rfl, sc_X8_differsBy l hl, t_6 23 rfl rfl, t_6 20 rfl rfl, t_6 22 rfl rfl, _, rfl, t_p 75 rfl⟩)⟩, List.forall_mem_cons.mpr ⟨⟨yX8_findsFirst, cX8_findsFirst, 3, (some .boolean), 6, 116, by decide, by decide, t_1 7 rfl rfl, hd_X8_findsFirst, Or.inr (Or.inl ⟨rfl, sc_X8_findsFirst l hl, t_6 7 rfl rfl, t_6 4 rfl rfl, t_6 6 rfl rfl, _, rfl, t_p 71 rfl⟩)⟩, List.forall_mem_cons.mpr ⟨⟨yX8_findsNext, cX8_findsNext, 6, (some .boolean), 6, 116, by decide, by decide, t_1 7 rfl rfl, hd_X8_findsNext, Or.inr (Or.inl ⟨rfl, sc_X8_findsNext l hl, t_6 39 rfl rfl, t_6 36 rfl rfl, t_6 38 rfl rfl, _, rfl, t_p 78 rfl⟩)⟩, nil_all⟩⟩⟩⟩), fun ix ci j h => lk_all (P := fun ix q => FldOK yX8_goesThrough.cls ix q.1 q.2) (List.forall_mem_cons.mpr ⟨⟨_, rfl, by decide, t_4 196 rfl rfl⟩, List.forall_mem_cons.mpr ⟨⟨_, rfl, by decide, t_4 197 rfl rfl⟩, List.forall_mem_cons.mpr ⟨⟨_, rfl, by decide, t_4 198 rfl rfl⟩, nil_all⟩⟩⟩) ix (ci, j) h, lk_all (nil_all), lk_all (nil_all), lk_all (nil_all)⟩
theorem hd_X8_goesThrough : CallHd yX8_goesThrough 0 := ⟨by decide +kernel, by decide +kernel, by decide +kernel⟩
theorem sc_X8_goesThrough (l : Launch) (hl : l.stackTraces = false) : SCon l yX8_goesThrough cX8_goesThrough 5 (some .int) 7 141 0 Γ_X8_goesThrough := scon_of mX8_goesThrough cls_ok hl (by decide +kernel) rfl rfl (ok_X8_goesThrough l hl) rfl rfl b_X8_goesThrough
def F_X8_howMany (μ : Mem) : Out := lt (sI μ 29 8 (0 : Int32)) (fun μ1 => cI (F_X8_goesThrough μ1) (fun v6 μ3 => rI v6 μ3))
def Γ_X8_howMany : Gam := fun as μ r μ' => as = [.ref 29] ∧ F_X8_howMany μ = some (r, μ')
def mX8_howMany : MI := (cX8_howMany, [(248, (1, 0, 0, 6, Γ_X8_goesThrough))], [(65, 6, 8)], [], [], [], [], none, (some .int))
set_option maxHeartbeats 4000000 in
theorem b_X8_howMany : ∀ as μ r μ', Γ_X8_howMany as μ r μ' → (elvL as).length ≤ 1 ∧ G mX8_howMany (Qe r μ') 0 (elv as 1) [] μ 0 := by
  intro as μ r μ' h
  obtain ⟨rfl, h⟩ := h
  refine ⟨Nat.le_of_ble_eq_true rfl, ?_⟩
  show G mX8_howMany (Qe r μ') 0 [some (.ref 29)] [] μ 0
  unfold F_X8_howMany at h
  have hb9 : 0 ≤ 0 := Nat.le_refl _
  refine e_aload_n dX8_howMany_0 rfl ?_
  refine e_iconst dX8_howMany_1 ci_0 ?_
  refine e_putI (ci := 6) (j := 8) dX8_howMany_2 rfl (by decide) rfl rfl ?_
  refine e_naM (e := sI μ 29 8 (0 : Int32)) h (fun μ1 eμ1 h => ?_)
  refine e_aload_n dX8_howMany_5 rfl ?_
  refine cI_go h (fun E4 hc2 hr5 => e_VX [] [] dX8_howMany_6 rfl rfl rfl rfl (by decide) (Nat.le_of_ble_eq_true rfl) (by omega) ⟨rfl, hc2⟩ rfl ⟨hr5.symm, rfl⟩) (fun v6 μ3 hc2 h => ?_)
  refine e_VI [] [] dX8_howMany_6 rfl rfl rfl rfl (by decide) (Nat.le_of_ble_eq_true rfl) (by omega) ⟨rfl, hc2⟩ ?_
  exact e_iret .int dX8_howMany_9 rfl rfl (ret_eq h)
set_option maxRecDepth 20000 in
theorem ok_X8_howMany (l : Launch) (hl : l.stackTraces = false) : MOK l yX8_howMany.cls 8 165 mX8_howMany := ⟨lk_all (List.forall_mem_cons.mpr ⟨⟨yX8_goesThrough, cX8_goesThrough, 5, (some .int), 7, 141, by decide, by decide, t_1 7 rfl rfl, hd_X8_goesThrough, Or.inr (Or.inl ⟨rfl, sc_X8_goesThrough l hl, t_6 59 rfl rfl, t_6 56 rfl rfl, t_6 58 rfl rfl, _, rfl, t_p 80 rfl⟩)⟩, nil_all⟩), fun ix ci j h => lk_all (P := fun ix q => FldOK yX8_howMany.cls ix q.1 q.2) (List.forall_mem_cons.mpr ⟨⟨_, rfl, by decide, t_4 186 rfl rfl⟩, nil_all⟩) ix (ci, j) h, lk_all (nil_all), lk_all (nil_all), lk_all (nil_all)⟩
theorem hd_X8_howMany : CallHd yX8_howMany 0 := ⟨by decide +kernel, by decide +kernel, by decide +kernel⟩
theorem sc_X8_howMany (l : Launch) (hl : l.stackTraces = false) : SCon l yX8_howMany cX8_howMany 1 (some .int) 8 165 0 Γ_X8_howMany := scon_of mX8_howMany cls_ok hl (by decide +kernel) rfl rfl (ok_X8_howMany l hl) rfl rfl b_X8_howMany
def f_X8_pinsOf_5 : Nat → Int32 → Int32 → Int32 → Int32 → Mem → Out
  | 0, _, _, _, _, _ => none
  | n + 1, x1, x2, x3, x4, μ => cI (F_X8_lengthOf x1 μ) (fun v5 μ2 => if v5 ≤ x4 then (rI x3 μ2) else (cI (F_X8_rowOf x1 x4 μ2) (fun v11 μ8 => cI (F_X8_columnOf x1 x4 μ8) (fun v16 μ13 => cI (F_X8_isPinned v11 v16 μ13) (fun v21 μ18 => if v21 = 0 then (lt (x3 + (0 : Int32)) (fun v23 => lt (x4 + (1 : Int32)) (fun v24 => f_X8_pinsOf_5 n x1 x2 v23 v24 μ18))) else (cI (F_X8_isFilled v11 v16 μ18) (fun v29 μ26 => if v29 = x2 then (lt (x3 + (1 : Int32)) (fun v33 => lt (x4 + (1 : Int32)) (fun v34 => f_X8_pinsOf_5 n x1 x2 v33 v34 μ26))) else (lt (x3 + (0 : Int32)) (fun v31 => lt (x4 + (1 : Int32)) (fun v32 => f_X8_pinsOf_5 n x1 x2 v31 v32 μ26))))))))))
def F_X8_pinsOf (a0 : Int32) (a1 : Int32) (μ : Mem) : Out := f_X8_pinsOf_5 BIG a0 a1 (0 : Int32) (0 : Int32) μ
def Γ_X8_pinsOf : Gam := fun as μ r μ' => ∃ (a0 : Int32) (a1 : Int32), as = [.ref 29, .int a0, .int a1] ∧ F_X8_pinsOf a0 a1 μ = some (r, μ')
def mX8_pinsOf : MI := (cX8_pinsOf, [(87, (1, 1, 0, 6, Γ_X8_lengthOf)), (91, (1, 2, 0, 6, Γ_X8_rowOf)), (95, (1, 2, 0, 6, Γ_X8_columnOf)), (98, (1, 2, 0, 6, Γ_X8_isFilled)), (145, (1, 2, 0, 6, Γ_X8_isPinned))], [], [], [], [], [], none, (some .int))
set_option maxHeartbeats 4000000 in
theorem g_X8_pinsOf_5 {r : Res} {μ' : Mem} : ∀ n : Nat, ∀ (x1 : Int32) (x2 : Int32) (x3 : Int32) (x4 : Int32), ∀ (μ : Mem) (b : Nat), 0 ≤ b → f_X8_pinsOf_5 n x1 x2 x3 x4 μ = some (r, μ') → G mX8_pinsOf (Qe r μ') 5 [some (.ref 29), some (.int x1), some (.int x2), some (.int x3), some (.int x4), none, none] [] μ b := by
  intro n
  induction n with
  | zero => intro x1 x2 x3 x4 μ b hb9 h; exact nomatch (show (none : Out) = some _ from h)
  | succ n ih =>
    intro x1 x2 x3 x4 μ b hb9 h
    rw [f_X8_pinsOf_5.eq_2] at h
    refine e_iload dX8_pinsOf_5 rfl ?_
    refine e_aload_n dX8_pinsOf_7 rfl ?_
    refine e_iload_n dX8_pinsOf_8 rfl ?_
    refine cI_go h (fun E3 hc1 hr4 => e_VX [.int x1] [.int x4] dX8_pinsOf_9 rfl rfl rfl rfl (by decide) (Nat.le_of_ble_eq_true rfl) (by omega) ⟨x1, rfl, hc1⟩ rfl ⟨hr4.symm, rfl⟩) (fun v5 μ2 hc1 h => ?_)
    refine e_VI [.int x1] [.int x4] dX8_pinsOf_9 rfl rfl rfl rfl (by decide) (Nat.le_of_ble_eq_true rfl) (by omega) ⟨x1, rfl, hc1⟩ ?_
    refine e_ic_ge (tgt := 70) dX8_pinsOf_12 rfl (fun hc6 => ?_) (fun hc6 => ?_)
    · rw [if_pos hc6] at h
      refine e_iload_n dX8_pinsOf_70 rfl ?_
      exact e_iret .int dX8_pinsOf_71 rfl rfl (ret_eq h)
    · rw [if_neg hc6] at h
      refine e_aload_n dX8_pinsOf_15 rfl ?_
      refine e_iload_n dX8_pinsOf_16 rfl ?_
      refine e_iload dX8_pinsOf_17 rfl ?_
      refine cI_go h (fun E9 hc7 hr10 => e_VX [.int x1, .int x4] [] dX8_pinsOf_19 rfl rfl rfl rfl (by decide) (Nat.le_of_ble_eq_true rfl) (by omega) ⟨x1, x4, rfl, hc7⟩ rfl ⟨hr10.symm, rfl⟩) (fun v11 μ8 hc7 h => ?_)
      refine e_VI [.int x1, .int x4] [] dX8_pinsOf_19 rfl rfl rfl rfl (by decide) (Nat.le_of_ble_eq_true rfl) (by omega) ⟨x1, x4, rfl, hc7⟩ ?_
      refine e_istoreL [some (.ref 29), some (.int x1), some (.int x2), some (.int x3), some (.int x4), some (.int v11), none] dX8_pinsOf_22 (Nat.le_of_ble_eq_true rfl) rfl ?_
      refine e_aload_n dX8_pinsOf_24 rfl ?_
      refine e_iload_n dX8_pinsOf_25 rfl ?_
      refine e_iload dX8_pinsOf_26 rfl ?_
      refine cI_go h (fun E14 hc12 hr15 => e_VX [.int x1, .int x4] [] dX8_pinsOf_28 rfl rfl rfl rfl (by decide) (Nat.le_of_ble_eq_true rfl) (by omega) ⟨x1, x4, rfl, hc12⟩ rfl ⟨hr15.symm, rfl⟩) (fun v16 μ13 hc12 h => ?_)
      refine e_VI [.int x1, .int x4] [] dX8_pinsOf_28 rfl rfl rfl rfl (by decide) (Nat.le_of_ble_eq_true rfl) (by omega) ⟨x1, x4, rfl, hc12⟩ ?_
      refine e_istoreL [some (.ref 29), some (.int x1), some (.int x2), some (.int x3), some (.int x4), some (.int v11), some (.int v16)] dX8_pinsOf_31 (Nat.le_of_ble_eq_true rfl) rfl ?_
      refine e_iload_n dX8_pinsOf_33 rfl ?_
      refine e_aload_n dX8_pinsOf_34 rfl ?_
      refine e_iload dX8_pinsOf_35 rfl ?_
      refine e_iload dX8_pinsOf_37 rfl ?_
      refine cI_go h (fun E19 hc17 hr20 => e_VX [.int v11, .int v16] [.int x3] dX8_pinsOf_39 rfl rfl rfl rfl (by decide) (Nat.le_of_ble_eq_true rfl) (by omega) ⟨v11, v16, rfl, hc17⟩ rfl ⟨hr20.symm, rfl⟩) (fun v21 μ18 hc17 h => ?_)
      refine e_VI [.int v11, .int v16] [.int x3] dX8_pinsOf_39 rfl rfl rfl rfl (by decide) (Nat.le_of_ble_eq_true rfl) (by omega) ⟨v11, v16, rfl, hc17⟩ ?_
      refine e_if_eq (tgt := 61) dX8_pinsOf_42 rfl (fun hc22 => ?_) (fun hc22 => ?_)
      · rw [if_pos hc22] at h
        refine e_iconst dX8_pinsOf_61 ci_0 ?_
        refine e_iadd dX8_pinsOf_62 ?_
        refine e_naI h (fun v23 ev23 h => ?_)
        refine e_istore_nL [some (.ref 29), some (.int x1), some (.int x2), some (.int v23), some (.int x4), some (.int v11), some (.int v16)] dX8_pinsOf_63 (Nat.le_of_ble_eq_true rfl) rfl ?_
        refine e_iincN 4 (1 : Int32) dX8_pinsOf_64 rfl ci_1 h (fun y9 => [some (.ref 29), some (.int x1), some (.int x2), some (.int v23), some (.int y9), some (.int v11), some (.int v16)]) (fun _ => rfl) (fun v24 ev24 h => ?_)
        refine e_goto (tgt := 5) dX8_pinsOf_67 rfl ?_
        exact e_le (ih x1 x2 v23 v24 μ18 _ (by omega) h) ⟨rfl, rfl, rfl, rfl, rfl, trivial⟩
      · rw [if_neg hc22] at h
        refine e_aload_n dX8_pinsOf_45 rfl ?_
        refine e_iload dX8_pinsOf_46 rfl ?_
        refine e_iload dX8_pinsOf_48 rfl ?_
        refine cI_go h (fun E27 hc25 hr28 => e_VX [.int v11, .int v16] [.int x3] dX8_pinsOf_50 rfl rfl rfl rfl (by decide) (Nat.le_of_ble_eq_true rfl) (by omega) ⟨v11, v16, rfl, hc25⟩ rfl ⟨hr28.symm, rfl⟩) (fun v29 μ26 hc25 h => ?_)
        refine e_VI [.int v11, .int v16] [.int x3] dX8_pinsOf_50 rfl rfl rfl rfl (by decide) (Nat.le_of_ble_eq_true rfl) (by omega) ⟨v11, v16, rfl, hc25⟩ ?_
        refine e_iload_n dX8_pinsOf_53 rfl ?_
        refine e_ic_ne (tgt := 61) dX8_pinsOf_54 rfl (fun hc30 => ?_) (fun hc30 => ?_)
        · rw [if_neg hc30] at h
          refine e_iconst dX8_pinsOf_61 ci_0 ?_
          refine e_iadd dX8_pinsOf_62 ?_
          refine e_naI h (fun v31 ev31 h => ?_)
          refine e_istore_nL [some (.ref 29), some (.int x1), some (.int x2), some (.int v31), some (.int x4), some (.int v11), some (.int v16)] dX8_pinsOf_63 (Nat.le_of_ble_eq_true rfl) rfl ?_
          refine e_iincN 4 (1 : Int32) dX8_pinsOf_64 rfl ci_1 h (fun y9 => [some (.ref 29), some (.int x1), some (.int x2), some (.int v31), some (.int y9), some (.int v11), some (.int v16)]) (fun _ => rfl) (fun v32 ev32 h => ?_)
          refine e_goto (tgt := 5) dX8_pinsOf_67 rfl ?_
          exact e_le (ih x1 x2 v31 v32 μ26 _ (by omega) h) ⟨rfl, rfl, rfl, rfl, rfl, trivial⟩
        · rw [if_pos hc30] at h
          refine e_iconst dX8_pinsOf_57 ci_1 ?_
          refine e_goto (tgt := 62) dX8_pinsOf_58 rfl ?_
          refine e_iadd dX8_pinsOf_62 ?_
          refine e_naI h (fun v33 ev33 h => ?_)
          refine e_istore_nL [some (.ref 29), some (.int x1), some (.int x2), some (.int v33), some (.int x4), some (.int v11), some (.int v16)] dX8_pinsOf_63 (Nat.le_of_ble_eq_true rfl) rfl ?_
          refine e_iincN 4 (1 : Int32) dX8_pinsOf_64 rfl ci_1 h (fun y9 => [some (.ref 29), some (.int x1), some (.int x2), some (.int v33), some (.int y9), some (.int v11), some (.int v16)]) (fun _ => rfl) (fun v34 ev34 h => ?_)
          refine e_goto (tgt := 5) dX8_pinsOf_67 rfl ?_
          exact e_le (ih x1 x2 v33 v34 μ26 _ (by omega) h) ⟨rfl, rfl, rfl, rfl, rfl, trivial⟩
set_option maxHeartbeats 4000000 in
theorem b_X8_pinsOf : ∀ as μ r μ', Γ_X8_pinsOf as μ r μ' → (elvL as).length ≤ 7 ∧ G mX8_pinsOf (Qe r μ') 0 (elv as 7) [] μ 0 := by
  intro as μ r μ' h
  obtain ⟨a0, a1, rfl, h⟩ := h
  refine ⟨Nat.le_of_ble_eq_true rfl, ?_⟩
  show G mX8_pinsOf (Qe r μ') 0 [some (.ref 29), some (.int a0), some (.int a1), none, none, none, none] [] μ 0
  unfold F_X8_pinsOf at h
  have hb9 : 0 ≤ 0 := Nat.le_refl _
  refine e_iconst dX8_pinsOf_0 ci_0 ?_
  refine e_istore_nL [some (.ref 29), some (.int a0), some (.int a1), some (.int (0 : Int32)), none, none, none] dX8_pinsOf_1 (Nat.le_of_ble_eq_true rfl) rfl ?_
  refine e_iconst dX8_pinsOf_2 ci_0 ?_
  refine e_istoreL [some (.ref 29), some (.int a0), some (.int a1), some (.int (0 : Int32)), some (.int (0 : Int32)), none, none] dX8_pinsOf_3 (Nat.le_of_ble_eq_true rfl) rfl ?_
  exact e_le (g_X8_pinsOf_5 BIG a0 a1 (0 : Int32) (0 : Int32) μ _ (by omega) h) ⟨rfl, rfl, rfl, rfl, rfl, trivial⟩
set_option maxRecDepth 20000 in
theorem ok_X8_pinsOf (l : Launch) (hl : l.stackTraces = false) : MOK l yX8_pinsOf.cls 3 42 mX8_pinsOf := ⟨lk_all (List.forall_mem_cons.mpr ⟨⟨yX8_lengthOf, cX8_lengthOf, 2, (some .int), 2, 20, by decide, by decide, t_1 7 rfl rfl, hd_X8_lengthOf, Or.inr (Or.inl ⟨rfl, sc_X8_lengthOf l hl, t_5 61 rfl rfl, t_5 58 rfl rfl, t_5 60 rfl rfl, _, rfl, t_p 39 rfl⟩)⟩, List.forall_mem_cons.mpr ⟨⟨yX8_rowOf, cX8_rowOf, 3, (some .int), 2, 20, by decide, by decide, t_1 7 rfl rfl, hd_X8_rowOf, Or.inr (Or.inl ⟨rfl, sc_X8_rowOf l hl, t_5 65 rfl rfl, t_5 62 rfl rfl, t_5 64 rfl rfl, _, rfl, t_p 40 rfl⟩)⟩, List.forall_mem_cons.mpr ⟨⟨yX8_columnOf, cX8_columnOf, 3, (some .int), 2, 20, by decide, by decide, t_1 7 rfl rfl, hd_X8_columnOf, Or.inr (Or.inl ⟨rfl, sc_X8_columnOf l hl, t_5 69 rfl rfl, t_5 66 rfl rfl, t_5 68 rfl rfl, _, rfl, t_p 41 rfl⟩)⟩, List.forall_mem_cons.mpr ⟨⟨yX8_isFilled, cX8_isFilled, 3, (some .boolean), 1, 0, by decide, by decide, t_1 7 rfl rfl, hd_X8_isFilled, Or.inr (Or.inl ⟨rfl, sc_X8_isFilled l hl, t_5 73 rfl rfl, t_5 70 rfl rfl, t_5 72 rfl rfl, _, rfl, t_p 42 rfl⟩)⟩, List.forall_mem_cons.mpr ⟨⟨yX8_isPinned, cX8_isPinned, 3, (some .boolean), 1, 0, by decide, by decide, t_1 7 rfl rfl, hd_X8_isPinned, Or.inr (Or.inl ⟨rfl, sc_X8_isPinned l hl, t_5 89 rfl rfl, t_5 86 rfl rfl, t_5 88 rfl rfl, _, rfl, t_p 45 rfl⟩)⟩, nil_all⟩⟩⟩⟩⟩), fun ix ci j h => lk_all (P := fun ix q => FldOK yX8_pinsOf.cls ix q.1 q.2) (nil_all) ix (ci, j) h, lk_all (nil_all), lk_all (nil_all), lk_all (nil_all)⟩
theorem hd_X8_pinsOf : CallHd yX8_pinsOf 2 := ⟨by decide +kernel, by decide +kernel, by decide +kernel⟩
theorem sc_X8_pinsOf (l : Launch) (hl : l.stackTraces = false) : SCon l yX8_pinsOf cX8_pinsOf 7 (some .int) 3 42 0 Γ_X8_pinsOf := scon_of mX8_pinsOf cls_ok hl (by decide +kernel) rfl rfl (ok_X8_pinsOf l hl) rfl rfl b_X8_pinsOf
def f_X8_runsOf_64 (k11 : Int32 → Int32 → Int32 → Int32 → Int32 → Int32 → Mem → Out) (x1 : Int32) (x2 : Int32) (x4 : Int32) (x5 : Int32) (x6 : Int32) (s0 : Int32) (s1 : Int32) (μ : Mem) : Out := lt (s1 + s0) (fun v25 => if x5 ≤ x4 then (lt (x6 + (1 : Int32)) (fun v27 => k11 x1 x2 v25 x4 x5 v27 μ)) else (lt (x6 + (1 : Int32)) (fun v28 => k11 x1 x2 v25 x5 x5 v28 μ)))
def f_X8_runsOf_50 (k11 : Int32 → Int32 → Int32 → Int32 → Int32 → Int32 → Mem → Out) (x1 : Int32) (x2 : Int32) (x3 : Int32) (x4 : Int32) (x6 : Int32) (s0 : Int32) (μ : Mem) : Out := if s0 = (1 : Int32) then (f_X8_runsOf_64 k11 x1 x2 x4 s0 x6 (1 : Int32) x3 μ) else (f_X8_runsOf_64 k11 x1 x2 x4 s0 x6 (0 : Int32) x3 μ)
def f_X8_runsOf_11 : Nat → Int32 → Int32 → Int32 → Int32 → Int32 → Int32 → Mem → Out
  | 0, _, _, _, _, _, _, _ => none
  | n + 1, x1, x2, x3, x4, x5, x6, μ => cI (F_X8_lengthOf x1 μ) (fun v5 μ2 => if v5 ≤ x6 then (if x2 = 0 then (rI x3 μ2) else (rI x4 μ2)) else (cI (F_X8_rowOf x1 x6 μ2) (fun v12 μ9 => cI (F_X8_columnOf x1 x6 μ9) (fun v17 μ14 => cI (F_X8_isFilled v12 v17 μ14) (fun v22 μ19 => if v22 = 0 then (f_X8_runsOf_50 (f_X8_runsOf_11 n) x1 x2 x3 x4 x6 (0 : Int32) μ19) else (f_X8_runsOf_50 (f_X8_runsOf_11 n) x1 x2 x3 x4 x6 (x5 + (1 : Int32)) μ19))))))
def F_X8_runsOf (a0 : Int32) (a1 : Int32) (μ : Mem) : Out := f_X8_runsOf_11 BIG a0 a1 (0 : Int32) (0 : Int32) (0 : Int32) (0 : Int32) μ
def Γ_X8_runsOf : Gam := fun as μ r μ' => ∃ (a0 : Int32) (a1 : Int32), as = [.ref 29, .int a0, .int a1] ∧ F_X8_runsOf a0 a1 μ = some (r, μ')
def mX8_runsOf : MI := (cX8_runsOf, [(87, (1, 1, 0, 6, Γ_X8_lengthOf)), (91, (1, 2, 0, 6, Γ_X8_rowOf)), (95, (1, 2, 0, 6, Γ_X8_columnOf)), (98, (1, 2, 0, 6, Γ_X8_isFilled))], [], [], [], [], [], none, (some .int))
set_option maxHeartbeats 4000000 in
theorem g_X8_runsOf_64 {r : Res} {μ' : Mem} {k11 : Int32 → Int32 → Int32 → Int32 → Int32 → Int32 → Mem → Out} (hk11 : ∀ (x1 : Int32) (x2 : Int32) (x3 : Int32) (x4 : Int32) (x5 : Int32) (x6 : Int32), ∀ (μ : Mem) (b : Nat), 0 ≤ b → k11 x1 x2 x3 x4 x5 x6 μ = some (r, μ') → G mX8_runsOf (Qe r μ') 11 [some (.ref 29), some (.int x1), some (.int x2), some (.int x3), some (.int x4), some (.int x5), some (.int x6)] [] μ b) : ∀ (x1 : Int32) (x2 : Int32) (x4 : Int32) (x5 : Int32) (x6 : Int32) (s0 : Int32) (s1 : Int32), ∀ (μ : Mem) (b : Nat), 0 ≤ b → f_X8_runsOf_64 k11 x1 x2 x4 x5 x6 s0 s1 μ = some (r, μ') → G mX8_runsOf (Qe r μ') 64 [some (.ref 29), some (.int x1), some (.int x2), none, some (.int x4), some (.int x5), some (.int x6)] [.int s0, .int s1] μ b := by
  intro x1 x2 x4 x5 x6 s0 s1 μ b hb9 h
  unfold f_X8_runsOf_64 at h
  refine e_iadd dX8_runsOf_64 ?_
  refine e_naI h (fun v25 ev25 h => ?_)
  refine e_istore_nL [some (.ref 29), some (.int x1), some (.int x2), some (.int v25), some (.int x4), some (.int x5), some (.int x6)] dX8_runsOf_65 (Nat.le_of_ble_eq_true rfl) rfl ?_
  refine e_iload dX8_runsOf_66 rfl ?_
  refine e_iload dX8_runsOf_68 rfl ?_
  refine e_ic_le (tgt := 78) dX8_runsOf_70 rfl (fun hc26 => ?_) (fun hc26 => ?_)
  · rw [if_pos hc26] at h
    refine e_iload dX8_runsOf_78 rfl ?_
    refine e_istoreL [some (.ref 29), some (.int x1), some (.int x2), some (.int v25), some (.int x4), some (.int x5), some (.int x6)] dX8_runsOf_80 (Nat.le_of_ble_eq_true rfl) rfl ?_
    refine e_iincN 6 (1 : Int32) dX8_runsOf_82 rfl ci_1 h (fun y9 => [some (.ref 29), some (.int x1), some (.int x2), some (.int v25), some (.int x4), some (.int x5), some (.int y9)]) (fun _ => rfl) (fun v27 ev27 h => ?_)
    refine e_goto (tgt := 11) dX8_runsOf_85 rfl ?_
    exact e_le (hk11 x1 x2 v25 x4 x5 v27 μ _ (by omega) h) ⟨rfl, rfl, rfl, rfl, rfl, rfl, rfl, trivial⟩
  · rw [if_neg hc26] at h
    refine e_iload dX8_runsOf_73 rfl ?_
    refine e_goto (tgt := 80) dX8_runsOf_75 rfl ?_
    refine e_istoreL [some (.ref 29), some (.int x1), some (.int x2), some (.int v25), some (.int x5), some (.int x5), some (.int x6)] dX8_runsOf_80 (Nat.le_of_ble_eq_true rfl) rfl ?_
    refine e_iincN 6 (1 : Int32) dX8_runsOf_82 rfl ci_1 h (fun y9 => [some (.ref 29), some (.int x1), some (.int x2), some (.int v25), some (.int x5), some (.int x5), some (.int y9)]) (fun _ => rfl) (fun v28 ev28 h => ?_)
    refine e_goto (tgt := 11) dX8_runsOf_85 rfl ?_
    exact e_le (hk11 x1 x2 v25 x5 x5 v28 μ _ (by omega) h) ⟨rfl, rfl, rfl, rfl, rfl, rfl, rfl, trivial⟩
set_option maxHeartbeats 4000000 in
theorem g_X8_runsOf_50 {r : Res} {μ' : Mem} {k11 : Int32 → Int32 → Int32 → Int32 → Int32 → Int32 → Mem → Out} (hk11 : ∀ (x1 : Int32) (x2 : Int32) (x3 : Int32) (x4 : Int32) (x5 : Int32) (x6 : Int32), ∀ (μ : Mem) (b : Nat), 0 ≤ b → k11 x1 x2 x3 x4 x5 x6 μ = some (r, μ') → G mX8_runsOf (Qe r μ') 11 [some (.ref 29), some (.int x1), some (.int x2), some (.int x3), some (.int x4), some (.int x5), some (.int x6)] [] μ b) : ∀ (x1 : Int32) (x2 : Int32) (x3 : Int32) (x4 : Int32) (x6 : Int32) (s0 : Int32), ∀ (μ : Mem) (b : Nat), 0 ≤ b → f_X8_runsOf_50 k11 x1 x2 x3 x4 x6 s0 μ = some (r, μ') → G mX8_runsOf (Qe r μ') 50 [some (.ref 29), some (.int x1), some (.int x2), some (.int x3), some (.int x4), none, some (.int x6)] [.int s0] μ b := by
  intro x1 x2 x3 x4 x6 s0 μ b hb9 h
  unfold f_X8_runsOf_50 at h
  refine e_istoreL [some (.ref 29), some (.int x1), some (.int x2), some (.int x3), some (.int x4), some (.int s0), some (.int x6)] dX8_runsOf_50 (Nat.le_of_ble_eq_true rfl) rfl ?_
  refine e_iload_n dX8_runsOf_52 rfl ?_
  refine e_iload dX8_runsOf_53 rfl ?_
  refine e_iconst dX8_runsOf_55 ci_1 ?_
  refine e_ic_ne (tgt := 63) dX8_runsOf_56 rfl (fun hc24 => ?_) (fun hc24 => ?_)
  · rw [if_neg hc24] at h
    refine e_iconst dX8_runsOf_63 ci_0 ?_
    exact e_le (g_X8_runsOf_64 hk11 x1 x2 x4 s0 x6 (0 : Int32) x3 μ _ (by omega) h) ⟨rfl, rfl, rfl, rfl, rfl, rfl, trivial⟩
  · rw [if_pos hc24] at h
    refine e_iconst dX8_runsOf_59 ci_1 ?_
    refine e_goto (tgt := 64) dX8_runsOf_60 rfl ?_
    exact e_le (g_X8_runsOf_64 hk11 x1 x2 x4 s0 x6 (1 : Int32) x3 μ _ (by omega) h) ⟨rfl, rfl, rfl, rfl, rfl, rfl, trivial⟩
set_option maxHeartbeats 4000000 in
theorem g_X8_runsOf_11 {r : Res} {μ' : Mem} : ∀ n : Nat, ∀ (x1 : Int32) (x2 : Int32) (x3 : Int32) (x4 : Int32) (x5 : Int32) (x6 : Int32), ∀ (μ : Mem) (b : Nat), 0 ≤ b → f_X8_runsOf_11 n x1 x2 x3 x4 x5 x6 μ = some (r, μ') → G mX8_runsOf (Qe r μ') 11 [some (.ref 29), some (.int x1), some (.int x2), some (.int x3), some (.int x4), some (.int x5), some (.int x6)] [] μ b := by
  intro n
  induction n with
  | zero => intro x1 x2 x3 x4 x5 x6 μ b hb9 h; exact nomatch (show (none : Out) = some _ from h)
  | succ n ih =>
    intro x1 x2 x3 x4 x5 x6 μ b hb9 h
    rw [f_X8_runsOf_11.eq_2] at h
    refine e_iload dX8_runsOf_11 rfl ?_
    refine e_aload_n dX8_runsOf_13 rfl ?_
    refine e_iload_n dX8_runsOf_14 rfl ?_
    refine cI_go h (fun E3 hc1 hr4 => e_VX [.int x1] [.int x6] dX8_runsOf_15 rfl rfl rfl rfl (by decide) (Nat.le_of_ble_eq_true rfl) (by omega) ⟨x1, rfl, hc1⟩ rfl ⟨hr4.symm, rfl⟩) (fun v5 μ2 hc1 h => ?_)
    refine e_VI [.int x1] [.int x6] dX8_runsOf_15 rfl rfl rfl rfl (by decide) (Nat.le_of_ble_eq_true rfl) (by omega) ⟨x1, rfl, hc1⟩ ?_
    refine e_ic_ge (tgt := 88) dX8_runsOf_18 rfl (fun hc6 => ?_) (fun hc6 => ?_)
    · rw [if_pos hc6] at h
      refine e_iload_n dX8_runsOf_88 rfl ?_
      refine e_if_eq (tgt := 97) dX8_runsOf_89 rfl (fun hc7 => ?_) (fun hc7 => ?_)
      · rw [if_pos hc7] at h
        refine e_iload_n dX8_runsOf_97 rfl ?_
        exact e_iret .int dX8_runsOf_98 rfl rfl (ret_eq h)
      · rw [if_neg hc7] at h
        refine e_iload dX8_runsOf_92 rfl ?_
        refine e_goto (tgt := 98) dX8_runsOf_94 rfl ?_
        exact e_iret .int dX8_runsOf_98 rfl rfl (ret_eq h)
    · rw [if_neg hc6] at h
      refine e_aload_n dX8_runsOf_21 rfl ?_
      refine e_aload_n dX8_runsOf_22 rfl ?_
      refine e_iload_n dX8_runsOf_23 rfl ?_
      refine e_iload dX8_runsOf_24 rfl ?_
      refine cI_go h (fun E10 hc8 hr11 => e_VX [.int x1, .int x6] [.ref 29] dX8_runsOf_26 rfl rfl rfl rfl (by decide) (Nat.le_of_ble_eq_true rfl) (by omega) ⟨x1, x6, rfl, hc8⟩ rfl ⟨hr11.symm, rfl⟩) (fun v12 μ9 hc8 h => ?_)
      refine e_VI [.int x1, .int x6] [.ref 29] dX8_runsOf_26 rfl rfl rfl rfl (by decide) (Nat.le_of_ble_eq_true rfl) (by omega) ⟨x1, x6, rfl, hc8⟩ ?_
      refine e_aload_n dX8_runsOf_29 rfl ?_
      refine e_iload_n dX8_runsOf_30 rfl ?_
      refine e_iload dX8_runsOf_31 rfl ?_
      refine cI_go h (fun E15 hc13 hr16 => e_VX [.int x1, .int x6] [.int v12, .ref 29] dX8_runsOf_33 rfl rfl rfl rfl (by decide) (Nat.le_of_ble_eq_true rfl) (by omega) ⟨x1, x6, rfl, hc13⟩ rfl ⟨hr16.symm, rfl⟩) (fun v17 μ14 hc13 h => ?_)
      refine e_VI [.int x1, .int x6] [.int v12, .ref 29] dX8_runsOf_33 rfl rfl rfl rfl (by decide) (Nat.le_of_ble_eq_true rfl) (by omega) ⟨x1, x6, rfl, hc13⟩ ?_
      refine cI_go h (fun E20 hc18 hr21 => e_VX [.int v12, .int v17] [] dX8_runsOf_36 rfl rfl rfl rfl (by decide) (Nat.le_of_ble_eq_true rfl) (by omega) ⟨v12, v17, rfl, hc18⟩ rfl ⟨hr21.symm, rfl⟩) (fun v22 μ19 hc18 h => ?_)
      refine e_VI [.int v12, .int v17] [] dX8_runsOf_36 rfl rfl rfl rfl (by decide) (Nat.le_of_ble_eq_true rfl) (by omega) ⟨v12, v17, rfl, hc18⟩ ?_
      refine e_if_eq (tgt := 49) dX8_runsOf_39 rfl (fun hc23 => ?_) (fun hc23 => ?_)
      · rw [if_pos hc23] at h
        refine e_iconst dX8_runsOf_49 ci_0 ?_
        exact e_le (g_X8_runsOf_50 ih x1 x2 x3 x4 x6 (0 : Int32) μ19 _ (by omega) h) ⟨rfl, rfl, rfl, rfl, rfl, rfl, trivial⟩
      · rw [if_neg hc23] at h
        refine e_iload dX8_runsOf_42 rfl ?_
        refine e_iconst dX8_runsOf_44 ci_1 ?_
        refine e_iadd dX8_runsOf_45 ?_
        refine e_goto (tgt := 50) dX8_runsOf_46 rfl ?_
        exact e_le (g_X8_runsOf_50 ih x1 x2 x3 x4 x6 (x5 + (1 : Int32)) μ19 _ (by omega) h) ⟨rfl, rfl, rfl, rfl, rfl, rfl, trivial⟩
set_option maxHeartbeats 4000000 in
theorem b_X8_runsOf : ∀ as μ r μ', Γ_X8_runsOf as μ r μ' → (elvL as).length ≤ 7 ∧ G mX8_runsOf (Qe r μ') 0 (elv as 7) [] μ 0 := by
  intro as μ r μ' h
  obtain ⟨a0, a1, rfl, h⟩ := h
  refine ⟨Nat.le_of_ble_eq_true rfl, ?_⟩
  show G mX8_runsOf (Qe r μ') 0 [some (.ref 29), some (.int a0), some (.int a1), none, none, none, none] [] μ 0
  unfold F_X8_runsOf at h
  have hb9 : 0 ≤ 0 := Nat.le_refl _
  refine e_iconst dX8_runsOf_0 ci_0 ?_
  refine e_istore_nL [some (.ref 29), some (.int a0), some (.int a1), some (.int (0 : Int32)), none, none, none] dX8_runsOf_1 (Nat.le_of_ble_eq_true rfl) rfl ?_
  refine e_iconst dX8_runsOf_2 ci_0 ?_
  refine e_istoreL [some (.ref 29), some (.int a0), some (.int a1), some (.int (0 : Int32)), some (.int (0 : Int32)), none, none] dX8_runsOf_3 (Nat.le_of_ble_eq_true rfl) rfl ?_
  refine e_iconst dX8_runsOf_5 ci_0 ?_
  refine e_istoreL [some (.ref 29), some (.int a0), some (.int a1), some (.int (0 : Int32)), some (.int (0 : Int32)), some (.int (0 : Int32)), none] dX8_runsOf_6 (Nat.le_of_ble_eq_true rfl) rfl ?_
  refine e_iconst dX8_runsOf_8 ci_0 ?_
  refine e_istoreL [some (.ref 29), some (.int a0), some (.int a1), some (.int (0 : Int32)), some (.int (0 : Int32)), some (.int (0 : Int32)), some (.int (0 : Int32))] dX8_runsOf_9 (Nat.le_of_ble_eq_true rfl) rfl ?_
  exact e_le (g_X8_runsOf_11 BIG a0 a1 (0 : Int32) (0 : Int32) (0 : Int32) (0 : Int32) μ _ (by omega) h) ⟨rfl, rfl, rfl, rfl, rfl, rfl, rfl, trivial⟩
set_option maxRecDepth 20000 in
theorem ok_X8_runsOf (l : Launch) (hl : l.stackTraces = false) : MOK l yX8_runsOf.cls 3 42 mX8_runsOf := ⟨lk_all (List.forall_mem_cons.mpr ⟨⟨yX8_lengthOf, cX8_lengthOf, 2, (some .int), 2, 20, by decide, by decide, t_1 7 rfl rfl, hd_X8_lengthOf, Or.inr (Or.inl ⟨rfl, sc_X8_lengthOf l hl, t_5 61 rfl rfl, t_5 58 rfl rfl, t_5 60 rfl rfl, _, rfl, t_p 39 rfl⟩)⟩, List.forall_mem_cons.mpr ⟨⟨yX8_rowOf, cX8_rowOf, 3, (some .int), 2, 20, by decide, by decide, t_1 7 rfl rfl, hd_X8_rowOf, Or.inr (Or.inl ⟨rfl, sc_X8_rowOf l hl, t_5 65 rfl rfl, t_5 62 rfl rfl, t_5 64 rfl rfl, _, rfl, t_p 40 rfl⟩)⟩, List.forall_mem_cons.mpr ⟨⟨yX8_columnOf, cX8_columnOf, 3, (some .int), 2, 20, by decide, by decide, t_1 7 rfl rfl, hd_X8_columnOf, Or.inr (Or.inl ⟨rfl, sc_X8_columnOf l hl, t_5 69 rfl rfl, t_5 66 rfl rfl, t_5 68 rfl rfl, _, rfl, t_p 41 rfl⟩)⟩, List.forall_mem_cons.mpr ⟨⟨yX8_isFilled, cX8_isFilled, 3, (some .boolean), 1, 0, by decide, by decide, t_1 7 rfl rfl, hd_X8_isFilled, Or.inr (Or.inl ⟨rfl, sc_X8_isFilled l hl, t_5 73 rfl rfl, t_5 70 rfl rfl, t_5 72 rfl rfl, _, rfl, t_p 42 rfl⟩)⟩, nil_all⟩⟩⟩⟩), fun ix ci j h => lk_all (P := fun ix q => FldOK yX8_runsOf.cls ix q.1 q.2) (nil_all) ix (ci, j) h, lk_all (nil_all), lk_all (nil_all), lk_all (nil_all)⟩
theorem hd_X8_runsOf : CallHd yX8_runsOf 2 := ⟨by decide +kernel, by decide +kernel, by decide +kernel⟩
theorem sc_X8_runsOf (l : Launch) (hl : l.stackTraces = false) : SCon l yX8_runsOf cX8_runsOf 7 (some .int) 3 42 0 Γ_X8_runsOf := scon_of mX8_runsOf cls_ok hl (by decide +kernel) rfl rfl (ok_X8_runsOf l hl) rfl rfl b_X8_runsOf
def f_X8_line_89 (x1 : Int32) (x2 : Int32) (μ : Mem) : Out := if x2 = (3 : Int32) then (cI (F_X8_runsOf x1 (1 : Int32) μ) (fun v50 μ47 => rI v50 μ47)) else (cI (F_X8_runsOf x1 (0 : Int32) μ) (fun v45 μ42 => rI v45 μ42))
def f_X8_line_27 (x1 : Int32) (x2 : Int32) (s0 : Int32) (μ : Mem) : Out := lt (sI μ 29 8 s0) (fun μ13 => if (μ13.1 29 8) = 0 then (if x2 = (0 : Int32) then (cI (F_X8_countOf x1 μ13) (fun v20 μ17 => rI v20 μ17)) else if x2 = (1 : Int32) then (cI (F_X8_wantAt x1 μ13) (fun v26 μ23 => ck (inb v26 50) (rI (μ23.1 30 (Int32.toNatClampNeg v26)) μ23))) else if x2 = (2 : Int32) then (f_X8_line_89 x1 x2 μ13) else if x2 = (3 : Int32) then (f_X8_line_89 x1 x2 μ13) else (cI (F_X8_pinsOf x1 (1 : Int32) μ13) (fun v34 μ31 => cI (F_X8_pinsOf x1 (0 : Int32) μ31) (fun v39 μ36 => rI (v34 + v39) μ36)))) else (rI (0 : Int32) μ13))
def F_X8_line (a0 : Int32) (a1 : Int32) (μ : Mem) : Out := cI (F_X8_isLine a0 μ) (fun v5 μ2 => if v5 = 0 then (f_X8_line_27 a0 a1 (1 : Int32) μ2) else (cI (F_X8_in a1 (0 : Int32) (4 : Int32) μ2) (fun v11 μ8 => if v11 = 0 then (f_X8_line_27 a0 a1 (2 : Int32) μ8) else (f_X8_line_27 a0 a1 (0 : Int32) μ8))))
def Γ_X8_line : Gam := fun as μ r μ' => ∃ (a0 : Int32) (a1 : Int32), as = [.ref 29, .int a0, .int a1] ∧ F_X8_line a0 a1 μ = some (r, μ')
def mX8_line : MI := (cX8_line, [(80, (0, 3, 0, 0, Γ_X8_in)), (102, (1, 1, 0, 6, Γ_X8_countOf)), (105, (1, 1, 0, 6, Γ_X8_wantAt)), (214, (1, 1, 0, 6, Γ_X8_isLine)), (217, (1, 2, 0, 6, Γ_X8_runsOf)), (221, (1, 2, 0, 6, Γ_X8_pinsOf))], [(7, 6, 0), (65, 6, 8)], [], [], [], [], none, (some .int))
set_option maxHeartbeats 4000000 in
theorem g_X8_line_89 {r : Res} {μ' : Mem} : ∀ (x1 : Int32) (x2 : Int32), ∀ (μ : Mem) (b : Nat), 0 ≤ b → f_X8_line_89 x1 x2 μ = some (r, μ') → G mX8_line (Qe r μ') 89 [some (.ref 29), some (.int x1), some (.int x2)] [] μ b := by
  intro x1 x2 μ b hb9 h
  unfold f_X8_line_89 at h
  refine e_aload_n dX8_line_89 rfl ?_
  refine e_iload_n dX8_line_90 rfl ?_
  refine e_iload_n dX8_line_91 rfl ?_
  refine e_iconst dX8_line_92 ci_3 ?_
  refine e_ic_ne (tgt := 100) dX8_line_93 rfl (fun hc40 => ?_) (fun hc40 => ?_)
  · rw [if_neg hc40] at h
    refine e_iconst dX8_line_100 ci_0 ?_
    refine cI_go h (fun E43 hc41 hr44 => e_VX [.int x1, .int (0 : Int32)] [] dX8_line_101 rfl rfl rfl rfl (by decide) (Nat.le_of_ble_eq_true rfl) (by omega) ⟨x1, (0 : Int32), rfl, hc41⟩ rfl ⟨hr44.symm, rfl⟩) (fun v45 μ42 hc41 h => ?_)
    refine e_VI [.int x1, .int (0 : Int32)] [] dX8_line_101 rfl rfl rfl rfl (by decide) (Nat.le_of_ble_eq_true rfl) (by omega) ⟨x1, (0 : Int32), rfl, hc41⟩ ?_
    exact e_iret .int dX8_line_104 rfl rfl (ret_eq h)
  · rw [if_pos hc40] at h
    refine e_iconst dX8_line_96 ci_1 ?_
    refine e_goto (tgt := 101) dX8_line_97 rfl ?_
    refine cI_go h (fun E48 hc46 hr49 => e_VX [.int x1, .int (1 : Int32)] [] dX8_line_101 rfl rfl rfl rfl (by decide) (Nat.le_of_ble_eq_true rfl) (by omega) ⟨x1, (1 : Int32), rfl, hc46⟩ rfl ⟨hr49.symm, rfl⟩) (fun v50 μ47 hc46 h => ?_)
    refine e_VI [.int x1, .int (1 : Int32)] [] dX8_line_101 rfl rfl rfl rfl (by decide) (Nat.le_of_ble_eq_true rfl) (by omega) ⟨x1, (1 : Int32), rfl, hc46⟩ ?_
    exact e_iret .int dX8_line_104 rfl rfl (ret_eq h)
set_option maxHeartbeats 4000000 in
theorem g_X8_line_27 {r : Res} {μ' : Mem} : ∀ (x1 : Int32) (x2 : Int32) (s0 : Int32), ∀ (μ : Mem) (b : Nat), 0 ≤ b → f_X8_line_27 x1 x2 s0 μ = some (r, μ') → G mX8_line (Qe r μ') 27 [some (.ref 29), some (.int x1), some (.int x2)] [.int s0, .ref 29] μ b := by
  intro x1 x2 s0 μ b hb9 h
  unfold f_X8_line_27 at h
  refine e_putI (ci := 6) (j := 8) dX8_line_27 rfl (by decide) rfl rfl ?_
  refine e_naM (e := sI μ 29 8 s0) h (fun μ13 eμ13 h => ?_)
  refine e_aload_n dX8_line_30 rfl ?_
  refine e_get (ci := 6) (j := 8) (t := 0) (v := .int (μ13.1 29 8)) dX8_line_31 rfl (by decide) rfl rfl rfl ?_
  refine e_if_eq (tgt := 39) dX8_line_34 rfl (fun hc14 => ?_) (fun hc14 => ?_)
  · rw [if_pos hc14] at h
    refine e_iload_n dX8_line_39 rfl ?_
    by_cases hc15 : x2 = (0 : Int32)
    · rw [if_pos hc15] at h
      refine e_tsL (0 : Int32) (tgt := 72) hc15 dX8_line_40 (by decide) (by decide) rfl rfl ?_
      refine e_aload_n dX8_line_72 rfl ?_
      refine e_iload_n dX8_line_73 rfl ?_
      refine cI_go h (fun E18 hc16 hr19 => e_VX [.int x1] [] dX8_line_74 rfl rfl rfl rfl (by decide) (Nat.le_of_ble_eq_true rfl) (by omega) ⟨x1, rfl, hc16⟩ rfl ⟨hr19.symm, rfl⟩) (fun v20 μ17 hc16 h => ?_)
      refine e_VI [.int x1] [] dX8_line_74 rfl rfl rfl rfl (by decide) (Nat.le_of_ble_eq_true rfl) (by omega) ⟨x1, rfl, hc16⟩ ?_
      exact e_iret .int dX8_line_77 rfl rfl (ret_eq h)
    rw [if_neg hc15] at h
    by_cases hc21 : x2 = (1 : Int32)
    · rw [if_pos hc21] at h
      refine e_tsL (1 : Int32) (tgt := 78) hc21 dX8_line_40 (by decide) (by decide) rfl rfl ?_
      refine e_aload_n dX8_line_78 rfl ?_
      refine e_get (ci := 6) (j := 0) (t := 2) (v := .ref 30) dX8_line_79 rfl (by decide) rfl rfl rfl ?_
      refine e_aload_n dX8_line_82 rfl ?_
      refine e_iload_n dX8_line_83 rfl ?_
      refine cI_go h (fun E24 hc22 hr25 => e_VX [.int x1] [.ref 30] dX8_line_84 rfl rfl rfl rfl (by decide) (Nat.le_of_ble_eq_true rfl) (by omega) ⟨x1, rfl, hc22⟩ rfl ⟨hr25.symm, rfl⟩) (fun v26 μ23 hc22 h => ?_)
      refine e_VI [.int x1] [.ref 30] dX8_line_84 rfl rfl rfl rfl (by decide) (Nat.le_of_ble_eq_true rfl) (by omega) ⟨x1, rfl, hc22⟩ ?_
      obtain ⟨hc27, h⟩ := ck_eq h
      refine e_ialoadL (μ23.1 30 (Int32.toNatClampNeg v26)) (n := 50) dX8_line_87 (by decide) rfl hc27 rfl ?_
      exact e_iret .int dX8_line_88 rfl rfl (ret_eq h)
    rw [if_neg hc21] at h
    by_cases hc28 : x2 = (2 : Int32)
    · rw [if_pos hc28] at h
      refine e_tsL (2 : Int32) (tgt := 89) hc28 dX8_line_40 (by decide) (by decide) rfl rfl ?_
      exact e_le (g_X8_line_89 x1 x2 μ13 _ (by omega) h) ⟨rfl, rfl, rfl, trivial⟩
    rw [if_neg hc28] at h
    by_cases hc29 : x2 = (3 : Int32)
    · rw [if_pos hc29] at h
      refine e_tsL (3 : Int32) (tgt := 89) hc29 dX8_line_40 (by decide) (by decide) rfl rfl ?_
      exact e_le (g_X8_line_89 x1 x2 μ13 _ (by omega) h) ⟨rfl, rfl, rfl, trivial⟩
    rw [if_neg hc29] at h
    refine e_tsOut (tgt := 105) dX8_line_40 (ts_out_0_3 hc15 hc21 hc28 hc29) rfl ?_
    refine e_aload_n dX8_line_105 rfl ?_
    refine e_iload_n dX8_line_106 rfl ?_
    refine e_iconst dX8_line_107 ci_1 ?_
    refine cI_go h (fun E32 hc30 hr33 => e_VX [.int x1, .int (1 : Int32)] [] dX8_line_108 rfl rfl rfl rfl (by decide) (Nat.le_of_ble_eq_true rfl) (by omega) ⟨x1, (1 : Int32), rfl, hc30⟩ rfl ⟨hr33.symm, rfl⟩) (fun v34 μ31 hc30 h => ?_)
    refine e_VI [.int x1, .int (1 : Int32)] [] dX8_line_108 rfl rfl rfl rfl (by decide) (Nat.le_of_ble_eq_true rfl) (by omega) ⟨x1, (1 : Int32), rfl, hc30⟩ ?_
    refine e_aload_n dX8_line_111 rfl ?_
    refine e_iload_n dX8_line_112 rfl ?_
    refine e_iconst dX8_line_113 ci_0 ?_
    refine cI_go h (fun E37 hc35 hr38 => e_VX [.int x1, .int (0 : Int32)] [.int v34] dX8_line_114 rfl rfl rfl rfl (by decide) (Nat.le_of_ble_eq_true rfl) (by omega) ⟨x1, (0 : Int32), rfl, hc35⟩ rfl ⟨hr38.symm, rfl⟩) (fun v39 μ36 hc35 h => ?_)
    refine e_VI [.int x1, .int (0 : Int32)] [.int v34] dX8_line_114 rfl rfl rfl rfl (by decide) (Nat.le_of_ble_eq_true rfl) (by omega) ⟨x1, (0 : Int32), rfl, hc35⟩ ?_
    refine e_iadd dX8_line_117 ?_
    exact e_iret .int dX8_line_118 rfl rfl (ret_eq h)
  · rw [if_neg hc14] at h
    refine e_iconst dX8_line_37 ci_0 ?_
    exact e_iret .int dX8_line_38 rfl rfl (ret_eq h)
set_option maxHeartbeats 4000000 in
theorem b_X8_line : ∀ as μ r μ', Γ_X8_line as μ r μ' → (elvL as).length ≤ 3 ∧ G mX8_line (Qe r μ') 0 (elv as 3) [] μ 0 := by
  intro as μ r μ' h
  obtain ⟨a0, a1, rfl, h⟩ := h
  refine ⟨Nat.le_of_ble_eq_true rfl, ?_⟩
  show G mX8_line (Qe r μ') 0 [some (.ref 29), some (.int a0), some (.int a1)] [] μ 0
  unfold F_X8_line at h
  have hb9 : 0 ≤ 0 := Nat.le_refl _
  refine e_aload_n dX8_line_0 rfl ?_
  refine e_aload_n dX8_line_1 rfl ?_
  refine e_iload_n dX8_line_2 rfl ?_
  refine cI_go h (fun E3 hc1 hr4 => e_VX [.int a0] [.ref 29] dX8_line_3 rfl rfl rfl rfl (by decide) (Nat.le_of_ble_eq_true rfl) (by omega) ⟨a0, rfl, hc1⟩ rfl ⟨hr4.symm, rfl⟩) (fun v5 μ2 hc1 h => ?_)
  refine e_VI [.int a0] [.ref 29] dX8_line_3 rfl rfl rfl rfl (by decide) (Nat.le_of_ble_eq_true rfl) (by omega) ⟨a0, rfl, hc1⟩ ?_
  refine e_if_ne (tgt := 13) dX8_line_6 rfl (fun hc6 => ?_) (fun hc6 => ?_)
  · rw [if_neg hc6] at h
    refine e_iload_n dX8_line_13 rfl ?_
    refine e_iconst dX8_line_14 ci_0 ?_
    refine e_iconst dX8_line_15 ci_4 ?_
    refine cI_go h (fun E9 hc7 hr10 => e_SX [.int a1, .int (0 : Int32), .int (4 : Int32)] [.ref 29] dX8_line_16 rfl (by decide) rfl rfl (Nat.le_of_ble_eq_true rfl) (by omega) ⟨a1, (0 : Int32), (4 : Int32), rfl, hc7⟩ rfl ⟨hr10.symm, rfl⟩) (fun v11 μ8 hc7 h => ?_)
    refine e_SI [.int a1, .int (0 : Int32), .int (4 : Int32)] [.ref 29] dX8_line_16 rfl (by decide) rfl rfl (Nat.le_of_ble_eq_true rfl) (by omega) ⟨a1, (0 : Int32), (4 : Int32), rfl, hc7⟩ ?_
    refine e_if_ne (tgt := 26) dX8_line_19 rfl (fun hc12 => ?_) (fun hc12 => ?_)
    · rw [if_neg hc12] at h
      refine e_iconst dX8_line_26 ci_0 ?_
      exact e_le (g_X8_line_27 a0 a1 (0 : Int32) μ8 _ (by omega) h) ⟨rfl, rfl, rfl, trivial⟩
    · rw [if_pos hc12] at h
      refine e_iconst dX8_line_22 ci_2 ?_
      refine e_goto (tgt := 27) dX8_line_23 rfl ?_
      exact e_le (g_X8_line_27 a0 a1 (2 : Int32) μ8 _ (by omega) h) ⟨rfl, rfl, rfl, trivial⟩
  · rw [if_pos hc6] at h
    refine e_iconst dX8_line_9 ci_1 ?_
    refine e_goto (tgt := 27) dX8_line_10 rfl ?_
    exact e_le (g_X8_line_27 a0 a1 (1 : Int32) μ2 _ (by omega) h) ⟨rfl, rfl, rfl, trivial⟩
set_option maxRecDepth 20000 in
theorem ok_X8_line (l : Launch) (hl : l.stackTraces = false) : MOK l yX8_line.cls 4 68 mX8_line := ⟨lk_all (List.forall_mem_cons.mpr ⟨⟨yX8_in, cX8_in, 3, (some .boolean), 1, 0, by decide, by decide, t_1 7 rfl rfl, hd_X8_in, Or.inl ⟨rfl, sc_X8_in l hl, t_5 18 rfl rfl, t_5 16 rfl rfl, t_5 17 rfl rfl⟩⟩, List.forall_mem_cons.mpr ⟨⟨yX8_countOf, cX8_countOf, 4, (some .int), 3, 42, by decide, by decide, t_1 7 rfl rfl, hd_X8_countOf, Or.inr (Or.inl ⟨rfl, sc_X8_countOf l hl, t_5 57 rfl rfl, t_5 54 rfl rfl, t_5 56 rfl rfl, _, rfl, t_p 38 rfl⟩)⟩, List.forall_mem_cons.mpr ⟨⟨yX8_wantAt, cX8_wantAt, 2, (some .int), 2, 20, by decide, by decide, t_1 7 rfl rfl, hd_X8_wantAt, Or.inr (Or.inl ⟨rfl, sc_X8_wantAt l hl, t_5 53 rfl rfl, t_5 50 rfl rfl, t_5 52 rfl rfl, _, rfl, t_p 37 rfl⟩)⟩, List.forall_mem_cons.mpr ⟨⟨yX8_isLine, cX8_isLine, 2, (some .boolean), 2, 22, by decide, by decide, t_1 7 rfl rfl, hd_X8_isLine, Or.inr (Or.inl ⟨rfl, sc_X8_isLine l hl, t_5 149 rfl rfl, t_5 146 rfl rfl, t_5 148 rfl rfl, _, rfl, t_p 59 rfl⟩)⟩, List.forall_mem_cons.mpr ⟨⟨yX8_runsOf, cX8_runsOf, 7, (some .int), 3, 42, by decide, by decide, t_1 7 rfl rfl, hd_X8_runsOf, Or.inr (Or.inl ⟨rfl, sc_X8_runsOf l hl, t_5 153 rfl rfl, t_5 150 rfl rfl, t_5 152 rfl rfl, _, rfl, t_p 60 rfl⟩)⟩, List.forall_mem_cons.mpr ⟨⟨yX8_pinsOf, cX8_pinsOf, 7, (some .int), 3, 42, by decide, by decide, t_1 7 rfl rfl, hd_X8_pinsOf, Or.inr (Or.inl ⟨rfl, sc_X8_pinsOf l hl, t_5 157 rfl rfl, t_5 154 rfl rfl, t_5 156 rfl rfl, _, rfl, t_p 61 rfl⟩)⟩, nil_all⟩⟩⟩⟩⟩⟩), fun ix ci j h => lk_all (P := fun ix q => FldOK yX8_line.cls ix q.1 q.2) (List.forall_mem_cons.mpr ⟨⟨_, rfl, by decide, t_4 178 rfl rfl⟩, List.forall_mem_cons.mpr ⟨⟨_, rfl, by decide, t_4 186 rfl rfl⟩, nil_all⟩⟩) ix (ci, j) h, lk_all (nil_all), lk_all (nil_all), lk_all (nil_all)⟩
theorem hd_X8_line : CallHd yX8_line 2 := ⟨by decide +kernel, by decide +kernel, by decide +kernel⟩
theorem sc_X8_line (l : Launch) (hl : l.stackTraces = false) : SCon l yX8_line cX8_line 3 (some .int) 4 68 0 Γ_X8_line := scon_of mX8_line cls_ok hl (by decide +kernel) rfl rfl (ok_X8_line l hl) rfl rfl b_X8_line
def f_X8_load_166 : Nat → Int32 → Int32 → Mem → Out
  | 0, _, _, _ => none
  | n + 1, x1, x2, μ => cI (F_X8_rows μ) (fun v60 μ57 => cI (F_X8_columns μ57) (fun v65 μ62 => if (v60 + v65) ≤ x2 then (lt (sI μ62 29 2 (0 : Int32)) (fun μ67 => lt (sI μ67 29 4 (0 : Int32)) (fun μ68 => cI (F_X8_filledMany μ68) (fun v73 μ70 => rI v73 μ70)))) else (cI (F_X8_wantAt x2 μ62) (fun v78 μ75 => if (μ75.1 29 7) ≤ ((3 : Int32) + x1) then (cI (F_X8_countOf x2 μ75) (fun v84 μ81 => ck (inb v78 50) (lt (sI μ81 30 (Int32.toNatClampNeg v78) v84) (fun μ86 => lt (x2 + (1 : Int32)) (fun v87 => f_X8_load_166 n x1 v87 μ86))))) else (ck (inb (((4 : Int32) + x1) + x2) 60) (ck (inb v78 50) (lt (sI μ75 30 (Int32.toNatClampNeg v78) ((μ75.1 34 (Int32.toNatClampNeg (((4 : Int32) + x1) + x2))) - (48 : Int32))) (fun μ90 => lt (x2 + (1 : Int32)) (fun v91 => f_X8_load_166 n x1 v91 μ90)))))))))
def f_X8_load_90 : Nat → Int32 → Int32 → Mem → Out
  | 0, _, _, _ => none
  | n + 1, x1, x2, μ => if x1 ≤ x2 then (f_X8_load_166 BIG x1 (0 : Int32) μ) else (ck (inb ((3 : Int32) + x2) 60) (lt (μ.1 34 (Int32.toNatClampNeg ((3 : Int32) + x2))) (fun v28 => cI (F_X8_columns μ) (fun v33 μ30 => ck (¬ v33 = 0) (cI (F_X8_columns μ30) (fun v39 μ36 => ck (¬ v39 = 0) (if v28 = (35 : Int32) then (ck (inb (((2 : Int32) + ((6 : Int32) * (x2 / v33))) + (remI x2 v39)) 50) (lt (sI μ36 30 (Int32.toNatClampNeg (((2 : Int32) + ((6 : Int32) * (x2 / v33))) + (remI x2 v39))) (1 : Int32)) (fun μ54 => lt (x2 + (1 : Int32)) (fun v55 => f_X8_load_90 n x1 v55 μ54)))) else (if v28 = (44 : Int32) then (ck (inb (((2 : Int32) + ((6 : Int32) * (x2 / v33))) + (remI x2 v39)) 50) (lt (sI μ36 30 (Int32.toNatClampNeg (((2 : Int32) + ((6 : Int32) * (x2 / v33))) + (remI x2 v39))) (2 : Int32)) (fun μ51 => lt (x2 + (1 : Int32)) (fun v52 => f_X8_load_90 n x1 v52 μ51)))) else (if v28 = (37 : Int32) then (ck (inb (((2 : Int32) + ((6 : Int32) * (x2 / v33))) + (remI x2 v39)) 50) (lt (sI μ36 30 (Int32.toNatClampNeg (((2 : Int32) + ((6 : Int32) * (x2 / v33))) + (remI x2 v39))) (3 : Int32)) (fun μ48 => lt (x2 + (1 : Int32)) (fun v49 => f_X8_load_90 n x1 v49 μ48)))) else (ck (inb (((2 : Int32) + ((6 : Int32) * (x2 / v33))) + (remI x2 v39)) 50) (lt (sI μ36 30 (Int32.toNatClampNeg (((2 : Int32) + ((6 : Int32) * (x2 / v33))) + (remI x2 v39))) (0 : Int32)) (fun μ45 => lt (x2 + (1 : Int32)) (fun v46 => f_X8_load_90 n x1 v46 μ45)))))))))))))
def f_X8_load_29 : Nat → Int32 → Mem → Out
  | 0, _, _ => none
  | n + 1, x1, μ => if (50 : Int32) ≤ x1 then (lt (sI μ 30 0 ((μ.1 34 1) - (48 : Int32))) (fun μ10 => lt (sI μ10 30 1 ((μ10.1 34 2) - (48 : Int32))) (fun μ11 => cI (F_X8_rows μ11) (fun v16 μ13 => cI (F_X8_columns μ13) (fun v21 μ18 => lt (v16 * v21) (fun v22 => f_X8_load_90 BIG v22 (0 : Int32) μ18)))))) else (ck (inb x1 50) (lt (sI μ 30 (Int32.toNatClampNeg x1) (0 : Int32)) (fun μ24 => lt (x1 + (1 : Int32)) (fun v25 => f_X8_load_29 n v25 μ24))))
def f_X8_load_15 (s0 : Int32) (μ : Mem) : Out := lt (sI μ 29 8 s0) (fun μ7 => if (μ7.1 29 8) = 0 then (f_X8_load_29 BIG (0 : Int32) μ7) else (rI (0 : Int32) μ7))
def F_X8_load (μ : Mem) : Out := cI (F_X8_faultOf μ) (fun v5 μ2 => if v5 = (-9 : Int32) then (f_X8_load_15 (0 : Int32) μ2) else (f_X8_load_15 (1 : Int32) μ2))
def Γ_X8_load : Gam := fun as μ r μ' => as = [.ref 29] ∧ F_X8_load μ = some (r, μ')
def mX8_load : MI := (cX8_load, [(76, (1, 0, 0, 6, Γ_X8_rows)), (84, (1, 0, 0, 6, Γ_X8_columns)), (102, (1, 1, 0, 6, Γ_X8_countOf)), (105, (1, 1, 0, 6, Γ_X8_wantAt)), (118, (1, 0, 0, 6, Γ_X8_faultOf)), (124, (1, 0, 0, 6, Γ_X8_filledMany))], [(7, 6, 0), (22, 6, 6), (65, 6, 8), (69, 6, 2), (108, 6, 7), (121, 6, 4)], [], [], [], [], none, (some .int))
set_option maxHeartbeats 4000000 in
theorem g_X8_load_166 {r : Res} {μ' : Mem} : ∀ n : Nat, ∀ (x1 : Int32) (x2 : Int32), ∀ (μ : Mem) (b : Nat), 0 ≤ b → f_X8_load_166 n x1 x2 μ = some (r, μ') → G mX8_load (Qe r μ') 166 [some (.ref 29), some (.int x1), some (.int x2), none] [] μ b := by
  intro n
  induction n with
  | zero => intro x1 x2 μ b hb9 h; exact nomatch (show (none : Out) = some _ from h)
  | succ n ih =>
    intro x1 x2 μ b hb9 h
    rw [f_X8_load_166.eq_2] at h
    refine e_iload_n dX8_load_166 rfl ?_
    refine e_aload_n dX8_load_167 rfl ?_
    refine cI_go h (fun E58 hc56 hr59 => e_VX [] [.int x2] dX8_load_168 rfl rfl rfl rfl (by decide) (Nat.le_of_ble_eq_true rfl) (by omega) ⟨rfl, hc56⟩ rfl ⟨hr59.symm, rfl⟩) (fun v60 μ57 hc56 h => ?_)
    refine e_VI [] [.int x2] dX8_load_168 rfl rfl rfl rfl (by decide) (Nat.le_of_ble_eq_true rfl) (by omega) ⟨rfl, hc56⟩ ?_
    refine e_aload_n dX8_load_171 rfl ?_
    refine cI_go h (fun E63 hc61 hr64 => e_VX [] [.int v60, .int x2] dX8_load_172 rfl rfl rfl rfl (by decide) (Nat.le_of_ble_eq_true rfl) (by omega) ⟨rfl, hc61⟩ rfl ⟨hr64.symm, rfl⟩) (fun v65 μ62 hc61 h => ?_)
    refine e_VI [] [.int v60, .int x2] dX8_load_172 rfl rfl rfl rfl (by decide) (Nat.le_of_ble_eq_true rfl) (by omega) ⟨rfl, hc61⟩ ?_
    refine e_iadd dX8_load_175 ?_
    refine e_ic_ge (tgt := 226) dX8_load_176 rfl (fun hc66 => ?_) (fun hc66 => ?_)
    · rw [if_pos hc66] at h
      refine e_aload_n dX8_load_226 rfl ?_
      refine e_iconst dX8_load_227 ci_0 ?_
      refine e_putI (ci := 6) (j := 2) dX8_load_228 rfl (by decide) rfl rfl ?_
      refine e_naM (e := sI μ62 29 2 (0 : Int32)) h (fun μ67 eμ67 h => ?_)
      refine e_aload_n dX8_load_231 rfl ?_
      refine e_iconst dX8_load_232 ci_0 ?_
      refine e_putI (ci := 6) (j := 4) dX8_load_233 rfl (by decide) rfl rfl ?_
      refine e_naM (e := sI μ67 29 4 (0 : Int32)) h (fun μ68 eμ68 h => ?_)
      refine e_aload_n dX8_load_236 rfl ?_
      refine cI_go h (fun E71 hc69 hr72 => e_VX [] [] dX8_load_237 rfl rfl rfl rfl (by decide) (Nat.le_of_ble_eq_true rfl) (by omega) ⟨rfl, hc69⟩ rfl ⟨hr72.symm, rfl⟩) (fun v73 μ70 hc69 h => ?_)
      refine e_VI [] [] dX8_load_237 rfl rfl rfl rfl (by decide) (Nat.le_of_ble_eq_true rfl) (by omega) ⟨rfl, hc69⟩ ?_
      exact e_iret .int dX8_load_240 rfl rfl (ret_eq h)
    · rw [if_neg hc66] at h
      refine e_aload_n dX8_load_179 rfl ?_
      refine e_get (ci := 6) (j := 0) (t := 2) (v := .ref 30) dX8_load_180 rfl (by decide) rfl rfl rfl ?_
      refine e_aload_n dX8_load_183 rfl ?_
      refine e_iload_n dX8_load_184 rfl ?_
      refine cI_go h (fun E76 hc74 hr77 => e_VX [.int x2] [.ref 30] dX8_load_185 rfl rfl rfl rfl (by decide) (Nat.le_of_ble_eq_true rfl) (by omega) ⟨x2, rfl, hc74⟩ rfl ⟨hr77.symm, rfl⟩) (fun v78 μ75 hc74 h => ?_)
      refine e_VI [.int x2] [.ref 30] dX8_load_185 rfl rfl rfl rfl (by decide) (Nat.le_of_ble_eq_true rfl) (by omega) ⟨x2, rfl, hc74⟩ ?_
      refine e_aload_n dX8_load_188 rfl ?_
      refine e_get (ci := 6) (j := 7) (t := 0) (v := .int (μ75.1 29 7)) dX8_load_189 rfl (by decide) rfl rfl rfl ?_
      refine e_iconst dX8_load_192 ci_3 ?_
      refine e_iload_n dX8_load_193 rfl ?_
      refine e_iadd dX8_load_194 ?_
      refine e_ic_le (tgt := 214) dX8_load_195 rfl (fun hc79 => ?_) (fun hc79 => ?_)
      · rw [if_pos hc79] at h
        refine e_aload_n dX8_load_214 rfl ?_
        refine e_iload_n dX8_load_215 rfl ?_
        refine cI_go h (fun E82 hc80 hr83 => e_VX [.int x2] [.int v78, .ref 30] dX8_load_216 rfl rfl rfl rfl (by decide) (Nat.le_of_ble_eq_true rfl) (by omega) ⟨x2, rfl, hc80⟩ rfl ⟨hr83.symm, rfl⟩) (fun v84 μ81 hc80 h => ?_)
        refine e_VI [.int x2] [.int v78, .ref 30] dX8_load_216 rfl rfl rfl rfl (by decide) (Nat.le_of_ble_eq_true rfl) (by omega) ⟨x2, rfl, hc80⟩ ?_
        obtain ⟨hc85, h⟩ := ck_eq h
        refine e_iastore (n := 50) dX8_load_219 (by decide) rfl hc85 ?_
        refine e_naM (e := sI μ81 30 (Int32.toNatClampNeg v78) v84) h (fun μ86 eμ86 h => ?_)
        refine e_iincN 2 (1 : Int32) dX8_load_220 rfl ci_1 h (fun y9 => [some (.ref 29), some (.int x1), some (.int y9), none]) (fun _ => rfl) (fun v87 ev87 h => ?_)
        refine e_goto (tgt := 166) dX8_load_223 rfl ?_
        exact e_le (ih x1 v87 μ86 _ (by omega) h) ⟨rfl, rfl, rfl, trivial⟩
      · rw [if_neg hc79] at h
        refine e_aload_n dX8_load_198 rfl ?_
        refine e_get (ci := 6) (j := 6) (t := 2) (v := .ref 34) dX8_load_199 rfl (by decide) rfl rfl rfl ?_
        refine e_iconst dX8_load_202 ci_4 ?_
        refine e_iload_n dX8_load_203 rfl ?_
        refine e_iadd dX8_load_204 ?_
        refine e_iload_n dX8_load_205 rfl ?_
        refine e_iadd dX8_load_206 ?_
        obtain ⟨hc88, h⟩ := ck_eq h
        refine e_ialoadL (μ75.1 34 (Int32.toNatClampNeg (((4 : Int32) + x1) + x2))) (n := 60) dX8_load_207 (by decide) rfl hc88 rfl ?_
        refine e_bipush dX8_load_208 cb_48 ?_
        refine e_isub dX8_load_210 ?_
        refine e_goto (tgt := 219) dX8_load_211 rfl ?_
        obtain ⟨hc89, h⟩ := ck_eq h
        refine e_iastore (n := 50) dX8_load_219 (by decide) rfl hc89 ?_
        refine e_naM (e := sI μ75 30 (Int32.toNatClampNeg v78) ((μ75.1 34 (Int32.toNatClampNeg (((4 : Int32) + x1) + x2))) - (48 : Int32))) h (fun μ90 eμ90 h => ?_)
        refine e_iincN 2 (1 : Int32) dX8_load_220 rfl ci_1 h (fun y9 => [some (.ref 29), some (.int x1), some (.int y9), none]) (fun _ => rfl) (fun v91 ev91 h => ?_)
        refine e_goto (tgt := 166) dX8_load_223 rfl ?_
        exact e_le (ih x1 v91 μ90 _ (by omega) h) ⟨rfl, rfl, rfl, trivial⟩
set_option maxHeartbeats 4000000 in
theorem g_X8_load_90 {r : Res} {μ' : Mem} : ∀ n : Nat, ∀ (x1 : Int32) (x2 : Int32), ∀ (μ : Mem) (b : Nat), 0 ≤ b → f_X8_load_90 n x1 x2 μ = some (r, μ') → G mX8_load (Qe r μ') 90 [some (.ref 29), some (.int x1), some (.int x2), none] [] μ b := by
  intro n
  induction n with
  | zero => intro x1 x2 μ b hb9 h; exact nomatch (show (none : Out) = some _ from h)
  | succ n ih =>
    intro x1 x2 μ b hb9 h
    rw [f_X8_load_90.eq_2] at h
    refine e_iload_n dX8_load_90 rfl ?_
    refine e_iload_n dX8_load_91 rfl ?_
    refine e_ic_ge (tgt := 164) dX8_load_92 rfl (fun hc26 => ?_) (fun hc26 => ?_)
    · rw [if_pos hc26] at h
      refine e_iconst dX8_load_164 ci_0 ?_
      refine e_istore_nL [some (.ref 29), some (.int x1), some (.int (0 : Int32)), none] dX8_load_165 (Nat.le_of_ble_eq_true rfl) rfl ?_
      exact e_le (g_X8_load_166 BIG x1 (0 : Int32) μ _ (by omega) h) ⟨rfl, rfl, rfl, trivial⟩
    · rw [if_neg hc26] at h
      refine e_aload_n dX8_load_95 rfl ?_
      refine e_get (ci := 6) (j := 6) (t := 2) (v := .ref 34) dX8_load_96 rfl (by decide) rfl rfl rfl ?_
      refine e_iconst dX8_load_99 ci_3 ?_
      refine e_iload_n dX8_load_100 rfl ?_
      refine e_iadd dX8_load_101 ?_
      obtain ⟨hc27, h⟩ := ck_eq h
      refine e_ialoadL (μ.1 34 (Int32.toNatClampNeg ((3 : Int32) + x2))) (n := 60) dX8_load_102 (by decide) rfl hc27 rfl ?_
      refine e_naI h (fun v28 ev28 h => ?_)
      refine e_istore_nL [some (.ref 29), some (.int x1), some (.int x2), some (.int v28)] dX8_load_103 (Nat.le_of_ble_eq_true rfl) rfl ?_
      refine e_aload_n dX8_load_104 rfl ?_
      refine e_get (ci := 6) (j := 0) (t := 2) (v := .ref 30) dX8_load_105 rfl (by decide) rfl rfl rfl ?_
      refine e_iconst dX8_load_108 ci_2 ?_
      refine e_bipush dX8_load_109 cb_6 ?_
      refine e_iload_n dX8_load_111 rfl ?_
      refine e_aload_n dX8_load_112 rfl ?_
      refine cI_go h (fun E31 hc29 hr32 => e_VX [] [.int x2, .int (6 : Int32), .int (2 : Int32), .ref 30] dX8_load_113 rfl rfl rfl rfl (by decide) (Nat.le_of_ble_eq_true rfl) (by omega) ⟨rfl, hc29⟩ rfl ⟨hr32.symm, rfl⟩) (fun v33 μ30 hc29 h => ?_)
      refine e_VI [] [.int x2, .int (6 : Int32), .int (2 : Int32), .ref 30] dX8_load_113 rfl rfl rfl rfl (by decide) (Nat.le_of_ble_eq_true rfl) (by omega) ⟨rfl, hc29⟩ ?_
      obtain ⟨hc34, h⟩ := ck_eq h
      refine e_idiv dX8_load_116 hc34 ?_
      refine e_imul dX8_load_117 ?_
      refine e_iadd dX8_load_118 ?_
      refine e_iload_n dX8_load_119 rfl ?_
      refine e_aload_n dX8_load_120 rfl ?_
      refine cI_go h (fun E37 hc35 hr38 => e_VX [] [.int x2, .int ((2 : Int32) + ((6 : Int32) * (x2 / v33))), .ref 30] dX8_load_121 rfl rfl rfl rfl (by decide) (Nat.le_of_ble_eq_true rfl) (by omega) ⟨rfl, hc35⟩ rfl ⟨hr38.symm, rfl⟩) (fun v39 μ36 hc35 h => ?_)
      refine e_VI [] [.int x2, .int ((2 : Int32) + ((6 : Int32) * (x2 / v33))), .ref 30] dX8_load_121 rfl rfl rfl rfl (by decide) (Nat.le_of_ble_eq_true rfl) (by omega) ⟨rfl, hc35⟩ ?_
      obtain ⟨hc40, h⟩ := ck_eq h
      refine e_irem dX8_load_124 hc40 ?_
      refine e_iadd dX8_load_125 ?_
      refine e_iload_n dX8_load_126 rfl ?_
      refine e_bipush dX8_load_127 cb_35 ?_
      refine e_ic_ne (tgt := 136) dX8_load_129 rfl (fun hc41 => ?_) (fun hc41 => ?_)
      · rw [if_neg hc41] at h
        refine e_iload_n dX8_load_136 rfl ?_
        refine e_bipush dX8_load_137 cb_44 ?_
        refine e_ic_ne (tgt := 146) dX8_load_139 rfl (fun hc42 => ?_) (fun hc42 => ?_)
        · rw [if_neg hc42] at h
          refine e_iload_n dX8_load_146 rfl ?_
          refine e_bipush dX8_load_147 cb_37 ?_
          refine e_ic_ne (tgt := 156) dX8_load_149 rfl (fun hc43 => ?_) (fun hc43 => ?_)
          · rw [if_neg hc43] at h
            refine e_iconst dX8_load_156 ci_0 ?_
            obtain ⟨hc44, h⟩ := ck_eq h
            refine e_iastore (n := 50) dX8_load_157 (by decide) rfl hc44 ?_
            refine e_naM (e := sI μ36 30 (Int32.toNatClampNeg (((2 : Int32) + ((6 : Int32) * (x2 / v33))) + (remI x2 v39))) (0 : Int32)) h (fun μ45 eμ45 h => ?_)
            refine e_iincN 2 (1 : Int32) dX8_load_158 rfl ci_1 h (fun y9 => [some (.ref 29), some (.int x1), some (.int y9), some (.int v28)]) (fun _ => rfl) (fun v46 ev46 h => ?_)
            refine e_goto (tgt := 90) dX8_load_161 rfl ?_
            exact e_le (ih x1 v46 μ45 _ (by omega) h) ⟨rfl, rfl, rfl, trivial⟩
          · rw [if_pos hc43] at h
            refine e_iconst dX8_load_152 ci_3 ?_
            refine e_goto (tgt := 157) dX8_load_153 rfl ?_
            obtain ⟨hc47, h⟩ := ck_eq h
            refine e_iastore (n := 50) dX8_load_157 (by decide) rfl hc47 ?_
            refine e_naM (e := sI μ36 30 (Int32.toNatClampNeg (((2 : Int32) + ((6 : Int32) * (x2 / v33))) + (remI x2 v39))) (3 : Int32)) h (fun μ48 eμ48 h => ?_)
            refine e_iincN 2 (1 : Int32) dX8_load_158 rfl ci_1 h (fun y9 => [some (.ref 29), some (.int x1), some (.int y9), some (.int v28)]) (fun _ => rfl) (fun v49 ev49 h => ?_)
            refine e_goto (tgt := 90) dX8_load_161 rfl ?_
            exact e_le (ih x1 v49 μ48 _ (by omega) h) ⟨rfl, rfl, rfl, trivial⟩
        · rw [if_pos hc42] at h
          refine e_iconst dX8_load_142 ci_2 ?_
          refine e_goto (tgt := 157) dX8_load_143 rfl ?_
          obtain ⟨hc50, h⟩ := ck_eq h
          refine e_iastore (n := 50) dX8_load_157 (by decide) rfl hc50 ?_
          refine e_naM (e := sI μ36 30 (Int32.toNatClampNeg (((2 : Int32) + ((6 : Int32) * (x2 / v33))) + (remI x2 v39))) (2 : Int32)) h (fun μ51 eμ51 h => ?_)
          refine e_iincN 2 (1 : Int32) dX8_load_158 rfl ci_1 h (fun y9 => [some (.ref 29), some (.int x1), some (.int y9), some (.int v28)]) (fun _ => rfl) (fun v52 ev52 h => ?_)
          refine e_goto (tgt := 90) dX8_load_161 rfl ?_
          exact e_le (ih x1 v52 μ51 _ (by omega) h) ⟨rfl, rfl, rfl, trivial⟩
      · rw [if_pos hc41] at h
        refine e_iconst dX8_load_132 ci_1 ?_
        refine e_goto (tgt := 157) dX8_load_133 rfl ?_
        obtain ⟨hc53, h⟩ := ck_eq h
        refine e_iastore (n := 50) dX8_load_157 (by decide) rfl hc53 ?_
        refine e_naM (e := sI μ36 30 (Int32.toNatClampNeg (((2 : Int32) + ((6 : Int32) * (x2 / v33))) + (remI x2 v39))) (1 : Int32)) h (fun μ54 eμ54 h => ?_)
        refine e_iincN 2 (1 : Int32) dX8_load_158 rfl ci_1 h (fun y9 => [some (.ref 29), some (.int x1), some (.int y9), some (.int v28)]) (fun _ => rfl) (fun v55 ev55 h => ?_)
        refine e_goto (tgt := 90) dX8_load_161 rfl ?_
        exact e_le (ih x1 v55 μ54 _ (by omega) h) ⟨rfl, rfl, rfl, trivial⟩
set_option maxHeartbeats 4000000 in
theorem g_X8_load_29 {r : Res} {μ' : Mem} : ∀ n : Nat, ∀ (x1 : Int32), ∀ (μ : Mem) (b : Nat), 0 ≤ b → f_X8_load_29 n x1 μ = some (r, μ') → G mX8_load (Qe r μ') 29 [some (.ref 29), some (.int x1), none, none] [] μ b := by
  intro n
  induction n with
  | zero => intro x1 μ b hb9 h; exact nomatch (show (none : Out) = some _ from h)
  | succ n ih =>
    intro x1 μ b hb9 h
    rw [f_X8_load_29.eq_2] at h
    refine e_iload_n dX8_load_29 rfl ?_
    refine e_bipush dX8_load_30 cb_50 ?_
    refine e_ic_ge (tgt := 48) dX8_load_32 rfl (fun hc9 => ?_) (fun hc9 => ?_)
    · rw [if_pos hc9] at h
      refine e_aload_n dX8_load_48 rfl ?_
      refine e_get (ci := 6) (j := 0) (t := 2) (v := .ref 30) dX8_load_49 rfl (by decide) rfl rfl rfl ?_
      refine e_iconst dX8_load_52 ci_0 ?_
      refine e_aload_n dX8_load_53 rfl ?_
      refine e_get (ci := 6) (j := 6) (t := 2) (v := .ref 34) dX8_load_54 rfl (by decide) rfl rfl rfl ?_
      refine e_iconst dX8_load_57 ci_1 ?_
      refine e_ialoadL (μ.1 34 1) (n := 60) dX8_load_58 (by decide) rfl (by decide : inb (1 : Int32) 60) rfl ?_
      refine e_bipush dX8_load_59 cb_48 ?_
      refine e_isub dX8_load_61 ?_
      refine e_iastore (n := 50) dX8_load_62 (by decide) rfl (by decide : inb (0 : Int32) 50) ?_
      refine e_naM (e := sI μ 30 0 ((μ.1 34 1) - (48 : Int32))) h (fun μ10 eμ10 h => ?_)
      refine e_aload_n dX8_load_63 rfl ?_
      refine e_get (ci := 6) (j := 0) (t := 2) (v := .ref 30) dX8_load_64 rfl (by decide) rfl rfl rfl ?_
      refine e_iconst dX8_load_67 ci_1 ?_
      refine e_aload_n dX8_load_68 rfl ?_
      refine e_get (ci := 6) (j := 6) (t := 2) (v := .ref 34) dX8_load_69 rfl (by decide) rfl rfl rfl ?_
      refine e_iconst dX8_load_72 ci_2 ?_
      refine e_ialoadL (μ10.1 34 2) (n := 60) dX8_load_73 (by decide) rfl (by decide : inb (2 : Int32) 60) rfl ?_
      refine e_bipush dX8_load_74 cb_48 ?_
      refine e_isub dX8_load_76 ?_
      refine e_iastore (n := 50) dX8_load_77 (by decide) rfl (by decide : inb (1 : Int32) 50) ?_
      refine e_naM (e := sI μ10 30 1 ((μ10.1 34 2) - (48 : Int32))) h (fun μ11 eμ11 h => ?_)
      refine e_aload_n dX8_load_78 rfl ?_
      refine cI_go h (fun E14 hc12 hr15 => e_VX [] [] dX8_load_79 rfl rfl rfl rfl (by decide) (Nat.le_of_ble_eq_true rfl) (by omega) ⟨rfl, hc12⟩ rfl ⟨hr15.symm, rfl⟩) (fun v16 μ13 hc12 h => ?_)
      refine e_VI [] [] dX8_load_79 rfl rfl rfl rfl (by decide) (Nat.le_of_ble_eq_true rfl) (by omega) ⟨rfl, hc12⟩ ?_
      refine e_aload_n dX8_load_82 rfl ?_
      refine cI_go h (fun E19 hc17 hr20 => e_VX [] [.int v16] dX8_load_83 rfl rfl rfl rfl (by decide) (Nat.le_of_ble_eq_true rfl) (by omega) ⟨rfl, hc17⟩ rfl ⟨hr20.symm, rfl⟩) (fun v21 μ18 hc17 h => ?_)
      refine e_VI [] [.int v16] dX8_load_83 rfl rfl rfl rfl (by decide) (Nat.le_of_ble_eq_true rfl) (by omega) ⟨rfl, hc17⟩ ?_
      refine e_imul dX8_load_86 ?_
      refine e_naI h (fun v22 ev22 h => ?_)
      refine e_istore_nL [some (.ref 29), some (.int v22), none, none] dX8_load_87 (Nat.le_of_ble_eq_true rfl) rfl ?_
      refine e_iconst dX8_load_88 ci_0 ?_
      refine e_istore_nL [some (.ref 29), some (.int v22), some (.int (0 : Int32)), none] dX8_load_89 (Nat.le_of_ble_eq_true rfl) rfl ?_
      exact e_le (g_X8_load_90 BIG v22 (0 : Int32) μ18 _ (by omega) h) ⟨rfl, rfl, rfl, trivial⟩
    · rw [if_neg hc9] at h
      refine e_aload_n dX8_load_35 rfl ?_
      refine e_get (ci := 6) (j := 0) (t := 2) (v := .ref 30) dX8_load_36 rfl (by decide) rfl rfl rfl ?_
      refine e_iload_n dX8_load_39 rfl ?_
      refine e_iconst dX8_load_40 ci_0 ?_
      obtain ⟨hc23, h⟩ := ck_eq h
      refine e_iastore (n := 50) dX8_load_41 (by decide) rfl hc23 ?_
      refine e_naM (e := sI μ 30 (Int32.toNatClampNeg x1) (0 : Int32)) h (fun μ24 eμ24 h => ?_)
      refine e_iincN 1 (1 : Int32) dX8_load_42 rfl ci_1 h (fun y9 => [some (.ref 29), some (.int y9), none, none]) (fun _ => rfl) (fun v25 ev25 h => ?_)
      refine e_goto (tgt := 29) dX8_load_45 rfl ?_
      exact e_le (ih v25 μ24 _ (by omega) h) ⟨rfl, rfl, trivial⟩
set_option maxHeartbeats 4000000 in
theorem g_X8_load_15 {r : Res} {μ' : Mem} : ∀ (s0 : Int32), ∀ (μ : Mem) (b : Nat), 0 ≤ b → f_X8_load_15 s0 μ = some (r, μ') → G mX8_load (Qe r μ') 15 [some (.ref 29), none, none, none] [.int s0, .ref 29] μ b := by
  intro s0 μ b hb9 h
  unfold f_X8_load_15 at h
  refine e_putI (ci := 6) (j := 8) dX8_load_15 rfl (by decide) rfl rfl ?_
  refine e_naM (e := sI μ 29 8 s0) h (fun μ7 eμ7 h => ?_)
  refine e_aload_n dX8_load_18 rfl ?_
  refine e_get (ci := 6) (j := 8) (t := 0) (v := .int (μ7.1 29 8)) dX8_load_19 rfl (by decide) rfl rfl rfl ?_
  refine e_if_eq (tgt := 27) dX8_load_22 rfl (fun hc8 => ?_) (fun hc8 => ?_)
  · rw [if_pos hc8] at h
    refine e_iconst dX8_load_27 ci_0 ?_
    refine e_istore_nL [some (.ref 29), some (.int (0 : Int32)), none, none] dX8_load_28 (Nat.le_of_ble_eq_true rfl) rfl ?_
    exact e_le (g_X8_load_29 BIG (0 : Int32) μ7 _ (by omega) h) ⟨rfl, rfl, trivial⟩
  · rw [if_neg hc8] at h
    refine e_iconst dX8_load_25 ci_0 ?_
    exact e_iret .int dX8_load_26 rfl rfl (ret_eq h)
set_option maxHeartbeats 4000000 in
theorem b_X8_load : ∀ as μ r μ', Γ_X8_load as μ r μ' → (elvL as).length ≤ 4 ∧ G mX8_load (Qe r μ') 0 (elv as 4) [] μ 0 := by
  intro as μ r μ' h
  obtain ⟨rfl, h⟩ := h
  refine ⟨Nat.le_of_ble_eq_true rfl, ?_⟩
  show G mX8_load (Qe r μ') 0 [some (.ref 29), none, none, none] [] μ 0
  unfold F_X8_load at h
  have hb9 : 0 ≤ 0 := Nat.le_refl _
  refine e_aload_n dX8_load_0 rfl ?_
  refine e_aload_n dX8_load_1 rfl ?_
  refine cI_go h (fun E3 hc1 hr4 => e_VX [] [.ref 29] dX8_load_2 rfl rfl rfl rfl (by decide) (Nat.le_of_ble_eq_true rfl) (by omega) ⟨rfl, hc1⟩ rfl ⟨hr4.symm, rfl⟩) (fun v5 μ2 hc1 h => ?_)
  refine e_VI [] [.ref 29] dX8_load_2 rfl rfl rfl rfl (by decide) (Nat.le_of_ble_eq_true rfl) (by omega) ⟨rfl, hc1⟩ ?_
  refine e_bipush dX8_load_5 cb_m9 ?_
  refine e_ic_eq (tgt := 14) dX8_load_7 rfl (fun hc6 => ?_) (fun hc6 => ?_)
  · rw [if_pos hc6] at h
    refine e_iconst dX8_load_14 ci_0 ?_
    exact e_le (g_X8_load_15 (0 : Int32) μ2 _ (by omega) h) ⟨rfl, trivial⟩
  · rw [if_neg hc6] at h
    refine e_iconst dX8_load_10 ci_1 ?_
    refine e_goto (tgt := 15) dX8_load_11 rfl ?_
    exact e_le (g_X8_load_15 (1 : Int32) μ2 _ (by omega) h) ⟨rfl, trivial⟩
set_option maxRecDepth 20000 in
theorem ok_X8_load (l : Launch) (hl : l.stackTraces = false) : MOK l yX8_load.cls 5 87 mX8_load := ⟨lk_all (List.forall_mem_cons.mpr ⟨⟨yX8_rows, cX8_rows, 1, (some .int), 1, 0, by decide, by decide, t_1 7 rfl rfl, hd_X8_rows, Or.inr (Or.inl ⟨rfl, sc_X8_rows l hl, t_5 45 rfl rfl, t_5 42 rfl rfl, t_5 44 rfl rfl, _, rfl, t_p 35 rfl⟩)⟩, List.forall_mem_cons.mpr ⟨⟨yX8_columns, cX8_columns, 1, (some .int), 1, 0, by decide, by decide, t_1 7 rfl rfl, hd_X8_columns, Or.inr (Or.inl ⟨rfl, sc_X8_columns l hl, t_5 49 rfl rfl, t_5 46 rfl rfl, t_5 48 rfl rfl, _, rfl, t_p 36 rfl⟩)⟩, List.forall_mem_cons.mpr ⟨⟨yX8_countOf, cX8_countOf, 4, (some .int), 3, 42, by decide, by decide, t_1 7 rfl rfl, hd_X8_countOf, Or.inr (Or.inl ⟨rfl, sc_X8_countOf l hl, t_5 57 rfl rfl, t_5 54 rfl rfl, t_5 56 rfl rfl, _, rfl, t_p 38 rfl⟩)⟩, List.forall_mem_cons.mpr ⟨⟨yX8_wantAt, cX8_wantAt, 2, (some .int), 2, 20, by decide, by decide, t_1 7 rfl rfl, hd_X8_wantAt, Or.inr (Or.inl ⟨rfl, sc_X8_wantAt l hl, t_5 53 rfl rfl, t_5 50 rfl rfl, t_5 52 rfl rfl, _, rfl, t_p 37 rfl⟩)⟩, List.forall_mem_cons.mpr ⟨⟨yX8_faultOf, cX8_faultOf, 5, (some .int), 2, 22, by decide, by decide, t_1 7 rfl rfl, hd_X8_faultOf, Or.inr (Or.inl ⟨rfl, sc_X8_faultOf l hl, t_5 30 rfl rfl, t_5 27 rfl rfl, t_5 29 rfl rfl, _, rfl, t_p 33 rfl⟩)⟩, List.forall_mem_cons.mpr ⟨⟨yX8_filledMany, cX8_filledMany, 3, (some .int), 4, 65, by decide, by decide, t_1 7 rfl rfl, hd_X8_filledMany, Or.inr (Or.inl ⟨rfl, sc_X8_filledMany l hl, t_5 77 rfl rfl, t_5 74 rfl rfl, t_5 76 rfl rfl, _, rfl, t_p 43 rfl⟩)⟩, nil_all⟩⟩⟩⟩⟩⟩), fun ix ci j h => lk_all (P := fun ix q => FldOK yX8_load.cls ix q.1 q.2) (List.forall_mem_cons.mpr ⟨⟨_, rfl, by decide, t_4 178 rfl rfl⟩, List.forall_mem_cons.mpr ⟨⟨_, rfl, by decide, t_4 184 rfl rfl⟩, List.forall_mem_cons.mpr ⟨⟨_, rfl, by decide, t_4 186 rfl rfl⟩, List.forall_mem_cons.mpr ⟨⟨_, rfl, by decide, t_4 180 rfl rfl⟩, List.forall_mem_cons.mpr ⟨⟨_, rfl, by decide, t_4 185 rfl rfl⟩, List.forall_mem_cons.mpr ⟨⟨_, rfl, by decide, t_4 182 rfl rfl⟩, nil_all⟩⟩⟩⟩⟩⟩) ix (ci, j) h, lk_all (nil_all), lk_all (nil_all), lk_all (nil_all)⟩
theorem hd_X8_load : CallHd yX8_load 0 := ⟨by decide +kernel, by decide +kernel, by decide +kernel⟩
theorem sc_X8_load (l : Launch) (hl : l.stackTraces = false) : SCon l yX8_load cX8_load 4 (some .int) 5 87 0 Γ_X8_load := scon_of mX8_load cls_ok hl (by decide +kernel) rfl rfl (ok_X8_load l hl) rfl rfl b_X8_load
def f_X8_nearest_21 (s0 : Int32) (μ : Mem) : Out := lt (sI μ 29 8 s0) (fun μ8 => if (μ8.1 29 8) = 0 then (rI (μ8.1 29 20) μ8) else (rI (0 : Int32) μ8))
def F_X8_nearest (μ : Mem) : Out := cI (F_X8_goesThrough μ) (fun v5 μ2 => if v5 = 0 then (f_X8_nearest_21 (1 : Int32) μ2) else (if v5 = (100 : Int32) then (f_X8_nearest_21 (1 : Int32) μ2) else (f_X8_nearest_21 (0 : Int32) μ2)))
def Γ_X8_nearest : Gam := fun as μ r μ' => as = [.ref 29] ∧ F_X8_nearest μ = some (r, μ')
def mX8_nearest : MI := (cX8_nearest, [(248, (1, 0, 0, 6, Γ_X8_goesThrough))], [(65, 6, 8), (183, 6, 20)], [], [], [], [], none, (some .int))
set_option maxHeartbeats 4000000 in
theorem g_X8_nearest_21 {r : Res} {μ' : Mem} : ∀ (s0 : Int32), ∀ (μ : Mem) (b : Nat), 0 ≤ b → f_X8_nearest_21 s0 μ = some (r, μ') → G mX8_nearest (Qe r μ') 21 [some (.ref 29), none] [.int s0, .ref 29] μ b := by
  intro s0 μ b hb9 h
  unfold f_X8_nearest_21 at h
  refine e_putI (ci := 6) (j := 8) dX8_nearest_21 rfl (by decide) rfl rfl ?_
  refine e_naM (e := sI μ 29 8 s0) h (fun μ8 eμ8 h => ?_)
  refine e_aload_n dX8_nearest_24 rfl ?_
  refine e_get (ci := 6) (j := 8) (t := 0) (v := .int (μ8.1 29 8)) dX8_nearest_25 rfl (by decide) rfl rfl rfl ?_
  refine e_if_eq (tgt := 35) dX8_nearest_28 rfl (fun hc9 => ?_) (fun hc9 => ?_)
  · rw [if_pos hc9] at h
    refine e_aload_n dX8_nearest_35 rfl ?_
    refine e_get (ci := 6) (j := 20) (t := 0) (v := .int (μ8.1 29 20)) dX8_nearest_36 rfl (by decide) rfl rfl rfl ?_
    exact e_iret .int dX8_nearest_39 rfl rfl (ret_eq h)
  · rw [if_neg hc9] at h
    refine e_iconst dX8_nearest_31 ci_0 ?_
    refine e_goto (tgt := 39) dX8_nearest_32 rfl ?_
    exact e_iret .int dX8_nearest_39 rfl rfl (ret_eq h)
set_option maxHeartbeats 4000000 in
theorem b_X8_nearest : ∀ as μ r μ', Γ_X8_nearest as μ r μ' → (elvL as).length ≤ 2 ∧ G mX8_nearest (Qe r μ') 0 (elv as 2) [] μ 0 := by
  intro as μ r μ' h
  obtain ⟨rfl, h⟩ := h
  refine ⟨Nat.le_of_ble_eq_true rfl, ?_⟩
  show G mX8_nearest (Qe r μ') 0 [some (.ref 29), none] [] μ 0
  unfold F_X8_nearest at h
  have hb9 : 0 ≤ 0 := Nat.le_refl _
  refine e_aload_n dX8_nearest_0 rfl ?_
  refine cI_go h (fun E3 hc1 hr4 => e_VX [] [] dX8_nearest_1 rfl rfl rfl rfl (by decide) (Nat.le_of_ble_eq_true rfl) (by omega) ⟨rfl, hc1⟩ rfl ⟨hr4.symm, rfl⟩) (fun v5 μ2 hc1 h => ?_)
  refine e_VI [] [] dX8_nearest_1 rfl rfl rfl rfl (by decide) (Nat.le_of_ble_eq_true rfl) (by omega) ⟨rfl, hc1⟩ ?_
  refine e_istore_nL [some (.ref 29), some (.int v5)] dX8_nearest_4 (Nat.le_of_ble_eq_true rfl) rfl ?_
  refine e_aload_n dX8_nearest_5 rfl ?_
  refine e_iload_n dX8_nearest_6 rfl ?_
  refine e_if_eq (tgt := 16) dX8_nearest_7 rfl (fun hc6 => ?_) (fun hc6 => ?_)
  · rw [if_pos hc6] at h
    refine e_iconst dX8_nearest_16 ci_1 ?_
    refine e_goto (tgt := 21) dX8_nearest_17 rfl ?_
    exact e_le (g_X8_nearest_21 (1 : Int32) μ2 _ (by omega) h) ⟨rfl, trivial⟩
  · rw [if_neg hc6] at h
    refine e_iload_n dX8_nearest_10 rfl ?_
    refine e_bipush dX8_nearest_11 cb_100 ?_
    refine e_ic_ne (tgt := 20) dX8_nearest_13 rfl (fun hc7 => ?_) (fun hc7 => ?_)
    · rw [if_neg hc7] at h
      refine e_iconst dX8_nearest_20 ci_0 ?_
      exact e_le (g_X8_nearest_21 (0 : Int32) μ2 _ (by omega) h) ⟨rfl, trivial⟩
    · rw [if_pos hc7] at h
      refine e_iconst dX8_nearest_16 ci_1 ?_
      refine e_goto (tgt := 21) dX8_nearest_17 rfl ?_
      exact e_le (g_X8_nearest_21 (1 : Int32) μ2 _ (by omega) h) ⟨rfl, trivial⟩
set_option maxRecDepth 20000 in
theorem ok_X8_nearest (l : Launch) (hl : l.stackTraces = false) : MOK l yX8_nearest.cls 8 165 mX8_nearest := ⟨lk_all (List.forall_mem_cons.mpr ⟨⟨yX8_goesThrough, cX8_goesThrough, 5, (some .int), 7, 141, by decide, by decide, t_1 7 rfl rfl, hd_X8_goesThrough, Or.inr (Or.inl ⟨rfl, sc_X8_goesThrough l hl, t_6 59 rfl rfl, t_6 56 rfl rfl, t_6 58 rfl rfl, _, rfl, t_p 80 rfl⟩)⟩, nil_all⟩), fun ix ci j h => lk_all (P := fun ix q => FldOK yX8_nearest.cls ix q.1 q.2) (List.forall_mem_cons.mpr ⟨⟨_, rfl, by decide, t_4 186 rfl rfl⟩, List.forall_mem_cons.mpr ⟨⟨_, rfl, by decide, t_4 198 rfl rfl⟩, nil_all⟩⟩) ix (ci, j) h, lk_all (nil_all), lk_all (nil_all), lk_all (nil_all)⟩
theorem hd_X8_nearest : CallHd yX8_nearest 0 := ⟨by decide +kernel, by decide +kernel, by decide +kernel⟩
theorem sc_X8_nearest (l : Launch) (hl : l.stackTraces = false) : SCon l yX8_nearest cX8_nearest 2 (some .int) 8 165 0 Γ_X8_nearest := scon_of mX8_nearest cls_ok hl (by decide +kernel) rfl rfl (ok_X8_nearest l hl) rfl rfl b_X8_nearest
def f_X8_next_13 (s0 : Int32) (μ : Mem) : Out := lt (sI μ 29 8 s0) (fun μ7 => if (μ7.1 29 8) = 0 then (cV (F_X8_remembers μ7) (fun μ10 => cI (F_X8_takesPicture μ10) (fun v17 μ14 => rI v17 μ14))) else (rI (0 : Int32) μ7))
def F_X8_next (μ : Mem) : Out := cI (F_X8_findsBehind μ) (fun v5 μ2 => if v5 = 0 then (f_X8_next_13 (1 : Int32) μ2) else (f_X8_next_13 (0 : Int32) μ2))
def Γ_X8_next : Gam := fun as μ r μ' => as = [.ref 29] ∧ F_X8_next μ = some (r, μ')
def mX8_next : MI := (cX8_next, [(230, (1, 0, 0, 6, Γ_X8_remembers)), (236, (1, 0, 0, 6, Γ_X8_takesPicture)), (242, (1, 0, 0, 6, Γ_X8_findsBehind))], [(65, 6, 8)], [], [], [], [], none, (some .int))
set_option maxHeartbeats 4000000 in
theorem g_X8_next_13 {r : Res} {μ' : Mem} : ∀ (s0 : Int32), ∀ (μ : Mem) (b : Nat), 0 ≤ b → f_X8_next_13 s0 μ = some (r, μ') → G mX8_next (Qe r μ') 13 [some (.ref 29)] [.int s0, .ref 29] μ b := by
  intro s0 μ b hb9 h
  unfold f_X8_next_13 at h
  refine e_putI (ci := 6) (j := 8) dX8_next_13 rfl (by decide) rfl rfl ?_
  refine e_naM (e := sI μ 29 8 s0) h (fun μ7 eμ7 h => ?_)
  refine e_aload_n dX8_next_16 rfl ?_
  refine e_get (ci := 6) (j := 8) (t := 0) (v := .int (μ7.1 29 8)) dX8_next_17 rfl (by decide) rfl rfl rfl ?_
  refine e_if_eq (tgt := 25) dX8_next_20 rfl (fun hc8 => ?_) (fun hc8 => ?_)
  · rw [if_pos hc8] at h
    refine e_aload_n dX8_next_25 rfl ?_
    refine cV_go h (fun E11 hc9 hr12 => e_VX [] [] dX8_next_26 rfl rfl rfl rfl (by decide) (Nat.le_of_ble_eq_true rfl) (by omega) ⟨rfl, hc9⟩ rfl ⟨hr12.symm, rfl⟩) (fun μ10 hc9 h => ?_)
    refine e_VV [] [] dX8_next_26 rfl rfl rfl rfl (by decide) (Nat.le_of_ble_eq_true rfl) (by omega) ⟨rfl, hc9⟩ ?_
    refine e_aload_n dX8_next_29 rfl ?_
    refine cI_go h (fun E15 hc13 hr16 => e_VX [] [] dX8_next_30 rfl rfl rfl rfl (by decide) (Nat.le_of_ble_eq_true rfl) (by omega) ⟨rfl, hc13⟩ rfl ⟨hr16.symm, rfl⟩) (fun v17 μ14 hc13 h => ?_)
    refine e_VI [] [] dX8_next_30 rfl rfl rfl rfl (by decide) (Nat.le_of_ble_eq_true rfl) (by omega) ⟨rfl, hc13⟩ ?_
    exact e_iret .int dX8_next_33 rfl rfl (ret_eq h)
  · rw [if_neg hc8] at h
    refine e_iconst dX8_next_23 ci_0 ?_
    exact e_iret .int dX8_next_24 rfl rfl (ret_eq h)
set_option maxHeartbeats 4000000 in
theorem b_X8_next : ∀ as μ r μ', Γ_X8_next as μ r μ' → (elvL as).length ≤ 1 ∧ G mX8_next (Qe r μ') 0 (elv as 1) [] μ 0 := by
  intro as μ r μ' h
  obtain ⟨rfl, h⟩ := h
  refine ⟨Nat.le_of_ble_eq_true rfl, ?_⟩
  show G mX8_next (Qe r μ') 0 [some (.ref 29)] [] μ 0
  unfold F_X8_next at h
  have hb9 : 0 ≤ 0 := Nat.le_refl _
  refine e_aload_n dX8_next_0 rfl ?_
  refine e_aload_n dX8_next_1 rfl ?_
  refine cI_go h (fun E3 hc1 hr4 => e_VX [] [.ref 29] dX8_next_2 rfl rfl rfl rfl (by decide) (Nat.le_of_ble_eq_true rfl) (by omega) ⟨rfl, hc1⟩ rfl ⟨hr4.symm, rfl⟩) (fun v5 μ2 hc1 h => ?_)
  refine e_VI [] [.ref 29] dX8_next_2 rfl rfl rfl rfl (by decide) (Nat.le_of_ble_eq_true rfl) (by omega) ⟨rfl, hc1⟩ ?_
  refine e_if_ne (tgt := 12) dX8_next_5 rfl (fun hc6 => ?_) (fun hc6 => ?_)
  · rw [if_neg hc6] at h
    refine e_iconst dX8_next_12 ci_0 ?_
    exact e_le (g_X8_next_13 (0 : Int32) μ2 _ (by omega) h) ⟨rfl, trivial⟩
  · rw [if_pos hc6] at h
    refine e_iconst dX8_next_8 ci_1 ?_
    refine e_goto (tgt := 13) dX8_next_9 rfl ?_
    exact e_le (g_X8_next_13 (1 : Int32) μ2 _ (by omega) h) ⟨rfl, trivial⟩
set_option maxRecDepth 20000 in
theorem ok_X8_next (l : Launch) (hl : l.stackTraces = false) : MOK l yX8_next.cls 8 161 mX8_next := ⟨lk_all (List.forall_mem_cons.mpr ⟨⟨yX8_remembers, cX8_remembers, 2, none, 2, 24, by decide, by decide, t_1 7 rfl rfl, hd_X8_remembers, Or.inr (Or.inl ⟨rfl, sc_X8_remembers l hl, t_5 204 rfl rfl, t_5 201 rfl rfl, t_5 203 rfl rfl, _, rfl, t_p 67 rfl⟩)⟩, List.forall_mem_cons.mpr ⟨⟨yX8_takesPicture, cX8_takesPicture, 4, (some .int), 3, 45, by decide, by decide, t_1 7 rfl rfl, hd_X8_takesPicture, Or.inr (Or.inl ⟨rfl, sc_X8_takesPicture l hl, t_6 19 rfl rfl, t_6 16 rfl rfl, t_6 18 rfl rfl, _, rfl, t_p 74 rfl⟩)⟩, List.forall_mem_cons.mpr ⟨⟨yX8_findsBehind, cX8_findsBehind, 1, (some .boolean), 7, 141, by decide, by decide, t_1 7 rfl rfl, hd_X8_findsBehind, Or.inr (Or.inl ⟨rfl, sc_X8_findsBehind l hl, t_6 31 rfl rfl, t_6 28 rfl rfl, t_6 30 rfl rfl, _, rfl, t_p 76 rfl⟩)⟩, nil_all⟩⟩⟩), fun ix ci j h => lk_all (P := fun ix q => FldOK yX8_next.cls ix q.1 q.2) (List.forall_mem_cons.mpr ⟨⟨_, rfl, by decide, t_4 186 rfl rfl⟩, nil_all⟩) ix (ci, j) h, lk_all (nil_all), lk_all (nil_all), lk_all (nil_all)⟩
theorem hd_X8_next : CallHd yX8_next 0 := ⟨by decide +kernel, by decide +kernel, by decide +kernel⟩
theorem sc_X8_next (l : Launch) (hl : l.stackTraces = false) : SCon l yX8_next cX8_next 1 (some .int) 8 161 0 Γ_X8_next := scon_of mX8_next cls_ok hl (by decide +kernel) rfl rfl (ok_X8_next l hl) rfl rfl b_X8_next
def f_X8_ones_4 : Nat → Int32 → Int32 → Int32 → Mem → Out
  | 0, _, _, _, _ => none
  | n + 1, x0, x1, x2, μ => if (6 : Int32) ≤ x2 then (rI x1 μ) else (lt (x1 + ((shrI x0 x2) &&& (1 : Int32))) (fun v2 => lt (x2 + (1 : Int32)) (fun v3 => f_X8_ones_4 n x0 v2 v3 μ)))
def F_X8_ones (a0 : Int32) (μ : Mem) : Out := f_X8_ones_4 BIG a0 (0 : Int32) (0 : Int32) μ
def Γ_X8_ones : Gam := fun as μ r μ' => ∃ (a0 : Int32), as = [.int a0] ∧ F_X8_ones a0 μ = some (r, μ')
def mX8_ones : MI := (cX8_ones, [], [], [], [], [], [], none, (some .int))
set_option maxHeartbeats 4000000 in
theorem g_X8_ones_4 {r : Res} {μ' : Mem} : ∀ n : Nat, ∀ (x0 : Int32) (x1 : Int32) (x2 : Int32), ∀ (μ : Mem) (b : Nat), 0 ≤ b → f_X8_ones_4 n x0 x1 x2 μ = some (r, μ') → G mX8_ones (Qe r μ') 4 [some (.int x0), some (.int x1), some (.int x2)] [] μ b := by
  intro n
  induction n with
  | zero => intro x0 x1 x2 μ b hb9 h; exact nomatch (show (none : Out) = some _ from h)
  | succ n ih =>
    intro x0 x1 x2 μ b hb9 h
    rw [f_X8_ones_4.eq_2] at h
    refine e_iload_n dX8_ones_4 rfl ?_
    refine e_bipush dX8_ones_5 cb_6 ?_
    refine e_ic_ge (tgt := 24) dX8_ones_7 rfl (fun hc1 => ?_) (fun hc1 => ?_)
    · rw [if_pos hc1] at h
      refine e_iload_n dX8_ones_24 rfl ?_
      exact e_iret .int dX8_ones_25 rfl rfl (ret_eq h)
    · rw [if_neg hc1] at h
      refine e_iload_n dX8_ones_10 rfl ?_
      refine e_iload_n dX8_ones_11 rfl ?_
      refine e_iload_n dX8_ones_12 rfl ?_
      refine e_ishr dX8_ones_13 ?_
      refine e_iconst dX8_ones_14 ci_1 ?_
      refine e_iand dX8_ones_15 ?_
      refine e_iadd dX8_ones_16 ?_
      refine e_naI h (fun v2 ev2 h => ?_)
      refine e_istore_nL [some (.int x0), some (.int v2), some (.int x2)] dX8_ones_17 (Nat.le_of_ble_eq_true rfl) rfl ?_
      refine e_iincN 2 (1 : Int32) dX8_ones_18 rfl ci_1 h (fun y9 => [some (.int x0), some (.int v2), some (.int y9)]) (fun _ => rfl) (fun v3 ev3 h => ?_)
      refine e_goto (tgt := 4) dX8_ones_21 rfl ?_
      exact e_le (ih x0 v2 v3 μ _ (by omega) h) ⟨rfl, rfl, rfl, trivial⟩
set_option maxHeartbeats 4000000 in
theorem b_X8_ones : ∀ as μ r μ', Γ_X8_ones as μ r μ' → (elvL as).length ≤ 3 ∧ G mX8_ones (Qe r μ') 0 (elv as 3) [] μ 0 := by
  intro as μ r μ' h
  obtain ⟨a0, rfl, h⟩ := h
  refine ⟨Nat.le_of_ble_eq_true rfl, ?_⟩
  show G mX8_ones (Qe r μ') 0 [some (.int a0), none, none] [] μ 0
  unfold F_X8_ones at h
  have hb9 : 0 ≤ 0 := Nat.le_refl _
  refine e_iconst dX8_ones_0 ci_0 ?_
  refine e_istore_nL [some (.int a0), some (.int (0 : Int32)), none] dX8_ones_1 (Nat.le_of_ble_eq_true rfl) rfl ?_
  refine e_iconst dX8_ones_2 ci_0 ?_
  refine e_istore_nL [some (.int a0), some (.int (0 : Int32)), some (.int (0 : Int32))] dX8_ones_3 (Nat.le_of_ble_eq_true rfl) rfl ?_
  exact e_le (g_X8_ones_4 BIG a0 (0 : Int32) (0 : Int32) μ _ (by omega) h) ⟨rfl, rfl, rfl, trivial⟩
set_option maxRecDepth 20000 in
theorem ok_X8_ones (l : Launch) (hl : l.stackTraces = false) : MOK l yX8_ones.cls 1 0 mX8_ones := ⟨lk_all (nil_all), fun ix ci j h => lk_all (P := fun ix q => FldOK yX8_ones.cls ix q.1 q.2) (nil_all) ix (ci, j) h, lk_all (nil_all), lk_all (nil_all), lk_all (nil_all)⟩
theorem hd_X8_ones : CallHd yX8_ones 1 := ⟨by decide +kernel, by decide +kernel, by decide +kernel⟩
theorem sc_X8_ones (l : Launch) (hl : l.stackTraces = false) : SCon l yX8_ones cX8_ones 3 (some .int) 1 0 0 Γ_X8_ones := scon_of mX8_ones cls_ok hl (by decide +kernel) rfl rfl (ok_X8_ones l hl) rfl rfl b_X8_ones
def f_X8_piece_63 : Nat → Int32 → Int32 → Int32 → Int32 → Int32 → Int32 → Int32 → Int32 → Mem → Out
  | 0, _, _, _, _, _, _, _, _, _ => none
  | n + 1, x1, x2, x3, x4, x5, x6, x7, x8, μ => if (36 : Int32) ≤ x8 then (if x2 = 0 then (rI x3 μ) else (if x2 = (1 : Int32) then (rI x4 μ) else (if x2 = (2 : Int32) then (cI (F_X8_ones x5 μ) (fun v34 μ31 => rI v34 μ31)) else (if x2 = (3 : Int32) then (cI (F_X8_ones x6 μ) (fun v29 μ26 => rI v29 μ26)) else (rI x7 μ))))) else (ck (inb x8 36) (if (μ.1 35 (Int32.toNatClampNeg x8)) = x1 then (lt (x3 + (1 : Int32)) (fun v38 => cI (F_X8_openSides (x8 / (6 : Int32)) (remI x8 (6 : Int32)) μ) (fun v43 μ40 => lt (x4 + v43) (fun v44 => lt (x5 ||| (shlI (1 : Int32) (x8 / (6 : Int32)))) (fun v45 => lt (x6 ||| (shlI (1 : Int32) (remI x8 (6 : Int32)))) (fun v46 => if x7 = (-9 : Int32) then (lt (((10 : Int32) * (x8 / (6 : Int32))) + (remI x8 (6 : Int32))) (fun v49 => lt (x8 + (1 : Int32)) (fun v50 => f_X8_piece_63 n x1 x2 v38 v44 v45 v46 v49 v50 μ40))) else (lt (x8 + (1 : Int32)) (fun v48 => f_X8_piece_63 n x1 x2 v38 v44 v45 v46 x7 v48 μ40)))))))) else (lt (x8 + (1 : Int32)) (fun v37 => f_X8_piece_63 n x1 x2 x3 x4 x5 x6 x7 v37 μ))))
def f_X8_piece_33 (x1 : Int32) (x2 : Int32) (s0 : Int32) (μ : Mem) : Out := lt (sI μ 29 8 s0) (fun μ18 => if (μ18.1 29 8) = 0 then (f_X8_piece_63 BIG x1 x2 (0 : Int32) (0 : Int32) (0 : Int32) (0 : Int32) (-9 : Int32) (0 : Int32) μ18) else (rI (0 : Int32) μ18))
def F_X8_piece (a0 : Int32) (a1 : Int32) (μ : Mem) : Out := cI (F_X8_laysPieces μ) (fun v5 μ2 => cI (F_X8_in a0 (0 : Int32) (v5 - (1 : Int32)) μ2) (fun v10 μ7 => if v10 = 0 then (f_X8_piece_33 a0 a1 (1 : Int32) μ7) else (cI (F_X8_in a1 (0 : Int32) (4 : Int32) μ7) (fun v16 μ13 => if v16 = 0 then (f_X8_piece_33 a0 a1 (2 : Int32) μ13) else (f_X8_piece_33 a0 a1 (0 : Int32) μ13)))))
def Γ_X8_piece : Gam := fun as μ r μ' => ∃ (a0 : Int32) (a1 : Int32), as = [.ref 29, .int a0, .int a1] ∧ F_X8_piece a0 a1 μ = some (r, μ')
def mX8_piece : MI := (cX8_piece, [(80, (0, 3, 0, 0, Γ_X8_in)), (139, (1, 2, 0, 6, Γ_X8_openSides)), (202, (1, 0, 0, 6, Γ_X8_laysPieces)), (227, (0, 1, 0, 0, Γ_X8_ones))], [(25, 6, 9), (65, 6, 8)], [], [], [], [], none, (some .int))
set_option maxHeartbeats 4000000 in
theorem g_X8_piece_63 {r : Res} {μ' : Mem} : ∀ n : Nat, ∀ (x1 : Int32) (x2 : Int32) (x3 : Int32) (x4 : Int32) (x5 : Int32) (x6 : Int32) (x7 : Int32) (x8 : Int32), ∀ (μ : Mem) (b : Nat), 0 ≤ b → f_X8_piece_63 n x1 x2 x3 x4 x5 x6 x7 x8 μ = some (r, μ') → G mX8_piece (Qe r μ') 63 [some (.ref 29), some (.int x1), some (.int x2), some (.int x3), some (.int x4), some (.int x5), some (.int x6), some (.int x7), some (.int x8)] [] μ b := by
  intro n
  induction n with
  | zero => intro x1 x2 x3 x4 x5 x6 x7 x8 μ b hb9 h; exact nomatch (show (none : Out) = some _ from h)
  | succ n ih =>
    intro x1 x2 x3 x4 x5 x6 x7 x8 μ b hb9 h
    rw [f_X8_piece_63.eq_2] at h
    refine e_iload dX8_piece_63 rfl ?_
    refine e_bipush dX8_piece_65 cb_36 ?_
    refine e_ic_ge (tgt := 161) dX8_piece_67 rfl (fun hc20 => ?_) (fun hc20 => ?_)
    · rw [if_pos hc20] at h
      refine e_iload_n dX8_piece_161 rfl ?_
      refine e_if_ne (tgt := 169) dX8_piece_162 rfl (fun hc21 => ?_) (fun hc21 => ?_)
      · rw [if_neg hc21] at h
        refine e_iload_n dX8_piece_169 rfl ?_
        refine e_iconst dX8_piece_170 ci_1 ?_
        refine e_ic_ne (tgt := 179) dX8_piece_171 rfl (fun hc22 => ?_) (fun hc22 => ?_)
        · rw [if_neg hc22] at h
          refine e_iload_n dX8_piece_179 rfl ?_
          refine e_iconst dX8_piece_180 ci_2 ?_
          refine e_ic_ne (tgt := 192) dX8_piece_181 rfl (fun hc23 => ?_) (fun hc23 => ?_)
          · rw [if_neg hc23] at h
            refine e_iload_n dX8_piece_192 rfl ?_
            refine e_iconst dX8_piece_193 ci_3 ?_
            refine e_ic_ne (tgt := 205) dX8_piece_194 rfl (fun hc24 => ?_) (fun hc24 => ?_)
            · rw [if_neg hc24] at h
              refine e_iload dX8_piece_205 rfl ?_
              exact e_iret .int dX8_piece_207 rfl rfl (ret_eq h)
            · rw [if_pos hc24] at h
              refine e_iload dX8_piece_197 rfl ?_
              refine cI_go h (fun E27 hc25 hr28 => e_SX [.int x6] [] dX8_piece_199 rfl (by decide) rfl rfl (Nat.le_of_ble_eq_true rfl) (by omega) ⟨x6, rfl, hc25⟩ rfl ⟨hr28.symm, rfl⟩) (fun v29 μ26 hc25 h => ?_)
              refine e_SI [.int x6] [] dX8_piece_199 rfl (by decide) rfl rfl (Nat.le_of_ble_eq_true rfl) (by omega) ⟨x6, rfl, hc25⟩ ?_
              refine e_goto (tgt := 207) dX8_piece_202 rfl ?_
              exact e_iret .int dX8_piece_207 rfl rfl (ret_eq h)
          · rw [if_pos hc23] at h
            refine e_iload dX8_piece_184 rfl ?_
            refine cI_go h (fun E32 hc30 hr33 => e_SX [.int x5] [] dX8_piece_186 rfl (by decide) rfl rfl (Nat.le_of_ble_eq_true rfl) (by omega) ⟨x5, rfl, hc30⟩ rfl ⟨hr33.symm, rfl⟩) (fun v34 μ31 hc30 h => ?_)
            refine e_SI [.int x5] [] dX8_piece_186 rfl (by decide) rfl rfl (Nat.le_of_ble_eq_true rfl) (by omega) ⟨x5, rfl, hc30⟩ ?_
            refine e_goto (tgt := 207) dX8_piece_189 rfl ?_
            exact e_iret .int dX8_piece_207 rfl rfl (ret_eq h)
        · rw [if_pos hc22] at h
          refine e_iload dX8_piece_174 rfl ?_
          refine e_goto (tgt := 207) dX8_piece_176 rfl ?_
          exact e_iret .int dX8_piece_207 rfl rfl (ret_eq h)
      · rw [if_pos hc21] at h
        refine e_iload_n dX8_piece_165 rfl ?_
        refine e_goto (tgt := 207) dX8_piece_166 rfl ?_
        exact e_iret .int dX8_piece_207 rfl rfl (ret_eq h)
    · rw [if_neg hc20] at h
      refine e_aload_n dX8_piece_70 rfl ?_
      refine e_get (ci := 6) (j := 9) (t := 2) (v := .ref 35) dX8_piece_71 rfl (by decide) rfl rfl rfl ?_
      refine e_iload dX8_piece_74 rfl ?_
      obtain ⟨hc35, h⟩ := ck_eq h
      refine e_ialoadL (μ.1 35 (Int32.toNatClampNeg x8)) (n := 36) dX8_piece_76 (by decide) rfl hc35 rfl ?_
      refine e_iload_n dX8_piece_77 rfl ?_
      refine e_ic_ne (tgt := 155) dX8_piece_78 rfl (fun hc36 => ?_) (fun hc36 => ?_)
      · rw [if_neg hc36] at h
        refine e_iincN 8 (1 : Int32) dX8_piece_155 rfl ci_1 h (fun y9 => [some (.ref 29), some (.int x1), some (.int x2), some (.int x3), some (.int x4), some (.int x5), some (.int x6), some (.int x7), some (.int y9)]) (fun _ => rfl) (fun v37 ev37 h => ?_)
        refine e_goto (tgt := 63) dX8_piece_158 rfl ?_
        exact e_le (ih x1 x2 x3 x4 x5 x6 x7 v37 μ _ (by omega) h) ⟨rfl, rfl, rfl, rfl, rfl, rfl, rfl, rfl, rfl, trivial⟩
      · rw [if_pos hc36] at h
        refine e_iincN 3 (1 : Int32) dX8_piece_81 rfl ci_1 h (fun y9 => [some (.ref 29), some (.int x1), some (.int x2), some (.int y9), some (.int x4), some (.int x5), some (.int x6), some (.int x7), some (.int x8)]) (fun _ => rfl) (fun v38 ev38 h => ?_)
        refine e_iload dX8_piece_84 rfl ?_
        refine e_aload_n dX8_piece_86 rfl ?_
        refine e_iload dX8_piece_87 rfl ?_
        refine e_bipush dX8_piece_89 cb_6 ?_
        refine e_idiv dX8_piece_91 (by decide) ?_
        refine e_iload dX8_piece_92 rfl ?_
        refine e_bipush dX8_piece_94 cb_6 ?_
        refine e_irem dX8_piece_96 (by decide) ?_
        refine cI_go h (fun E41 hc39 hr42 => e_VX [.int (x8 / (6 : Int32)), .int (remI x8 (6 : Int32))] [.int x4] dX8_piece_97 rfl rfl rfl rfl (by decide) (Nat.le_of_ble_eq_true rfl) (by omega) ⟨x8 / (6 : Int32), remI x8 (6 : Int32), rfl, hc39⟩ rfl ⟨hr42.symm, rfl⟩) (fun v43 μ40 hc39 h => ?_)
        refine e_VI [.int (x8 / (6 : Int32)), .int (remI x8 (6 : Int32))] [.int x4] dX8_piece_97 rfl rfl rfl rfl (by decide) (Nat.le_of_ble_eq_true rfl) (by omega) ⟨x8 / (6 : Int32), remI x8 (6 : Int32), rfl, hc39⟩ ?_
        refine e_iadd dX8_piece_100 ?_
        refine e_naI h (fun v44 ev44 h => ?_)
        refine e_istoreL [some (.ref 29), some (.int x1), some (.int x2), some (.int v38), some (.int v44), some (.int x5), some (.int x6), some (.int x7), some (.int x8)] dX8_piece_101 (Nat.le_of_ble_eq_true rfl) rfl ?_
        refine e_iload dX8_piece_103 rfl ?_
        refine e_iconst dX8_piece_105 ci_1 ?_
        refine e_iload dX8_piece_106 rfl ?_
        refine e_bipush dX8_piece_108 cb_6 ?_
        refine e_idiv dX8_piece_110 (by decide) ?_
        refine e_ishl dX8_piece_111 ?_
        refine e_ior dX8_piece_112 ?_
        refine e_naI h (fun v45 ev45 h => ?_)
        refine e_istoreL [some (.ref 29), some (.int x1), some (.int x2), some (.int v38), some (.int v44), some (.int v45), some (.int x6), some (.int x7), some (.int x8)] dX8_piece_113 (Nat.le_of_ble_eq_true rfl) rfl ?_
        refine e_iload dX8_piece_115 rfl ?_
        refine e_iconst dX8_piece_117 ci_1 ?_
        refine e_iload dX8_piece_118 rfl ?_
        refine e_bipush dX8_piece_120 cb_6 ?_
        refine e_irem dX8_piece_122 (by decide) ?_
        refine e_ishl dX8_piece_123 ?_
        refine e_ior dX8_piece_124 ?_
        refine e_naI h (fun v46 ev46 h => ?_)
        refine e_istoreL [some (.ref 29), some (.int x1), some (.int x2), some (.int v38), some (.int v44), some (.int v45), some (.int v46), some (.int x7), some (.int x8)] dX8_piece_125 (Nat.le_of_ble_eq_true rfl) rfl ?_
        refine e_iload dX8_piece_127 rfl ?_
        refine e_bipush dX8_piece_129 cb_m9 ?_
        refine e_ic_ne (tgt := 151) dX8_piece_131 rfl (fun hc47 => ?_) (fun hc47 => ?_)
        · rw [if_neg hc47] at h
          refine e_iload dX8_piece_151 rfl ?_
          refine e_istoreL [some (.ref 29), some (.int x1), some (.int x2), some (.int v38), some (.int v44), some (.int v45), some (.int v46), some (.int x7), some (.int x8)] dX8_piece_153 (Nat.le_of_ble_eq_true rfl) rfl ?_
          refine e_iincN 8 (1 : Int32) dX8_piece_155 rfl ci_1 h (fun y9 => [some (.ref 29), some (.int x1), some (.int x2), some (.int v38), some (.int v44), some (.int v45), some (.int v46), some (.int x7), some (.int y9)]) (fun _ => rfl) (fun v48 ev48 h => ?_)
          refine e_goto (tgt := 63) dX8_piece_158 rfl ?_
          exact e_le (ih x1 x2 v38 v44 v45 v46 x7 v48 μ40 _ (by omega) h) ⟨rfl, rfl, rfl, rfl, rfl, rfl, rfl, rfl, rfl, trivial⟩
        · rw [if_pos hc47] at h
          refine e_bipush dX8_piece_134 cb_10 ?_
          refine e_iload dX8_piece_136 rfl ?_
          refine e_bipush dX8_piece_138 cb_6 ?_
          refine e_idiv dX8_piece_140 (by decide) ?_
          refine e_imul dX8_piece_141 ?_
          refine e_iload dX8_piece_142 rfl ?_
          refine e_bipush dX8_piece_144 cb_6 ?_
          refine e_irem dX8_piece_146 (by decide) ?_
          refine e_iadd dX8_piece_147 ?_
          refine e_goto (tgt := 153) dX8_piece_148 rfl ?_
          refine e_naI h (fun v49 ev49 h => ?_)
          refine e_istoreL [some (.ref 29), some (.int x1), some (.int x2), some (.int v38), some (.int v44), some (.int v45), some (.int v46), some (.int v49), some (.int x8)] dX8_piece_153 (Nat.le_of_ble_eq_true rfl) rfl ?_
          refine e_iincN 8 (1 : Int32) dX8_piece_155 rfl ci_1 h (fun y9 => [some (.ref 29), some (.int x1), some (.int x2), some (.int v38), some (.int v44), some (.int v45), some (.int v46), some (.int v49), some (.int y9)]) (fun _ => rfl) (fun v50 ev50 h => ?_)
          refine e_goto (tgt := 63) dX8_piece_158 rfl ?_
          exact e_le (ih x1 x2 v38 v44 v45 v46 v49 v50 μ40 _ (by omega) h) ⟨rfl, rfl, rfl, rfl, rfl, rfl, rfl, rfl, rfl, trivial⟩
set_option maxHeartbeats 4000000 in
theorem g_X8_piece_33 {r : Res} {μ' : Mem} : ∀ (x1 : Int32) (x2 : Int32) (s0 : Int32), ∀ (μ : Mem) (b : Nat), 0 ≤ b → f_X8_piece_33 x1 x2 s0 μ = some (r, μ') → G mX8_piece (Qe r μ') 33 [some (.ref 29), some (.int x1), some (.int x2), none, none, none, none, none, none] [.int s0, .ref 29] μ b := by
  intro x1 x2 s0 μ b hb9 h
  unfold f_X8_piece_33 at h
  refine e_putI (ci := 6) (j := 8) dX8_piece_33 rfl (by decide) rfl rfl ?_
  refine e_naM (e := sI μ 29 8 s0) h (fun μ18 eμ18 h => ?_)
  refine e_aload_n dX8_piece_36 rfl ?_
  refine e_get (ci := 6) (j := 8) (t := 0) (v := .int (μ18.1 29 8)) dX8_piece_37 rfl (by decide) rfl rfl rfl ?_
  refine e_if_eq (tgt := 45) dX8_piece_40 rfl (fun hc19 => ?_) (fun hc19 => ?_)
  · rw [if_pos hc19] at h
    refine e_iconst dX8_piece_45 ci_0 ?_
    refine e_istore_nL [some (.ref 29), some (.int x1), some (.int x2), some (.int (0 : Int32)), none, none, none, none, none] dX8_piece_46 (Nat.le_of_ble_eq_true rfl) rfl ?_
    refine e_iconst dX8_piece_47 ci_0 ?_
    refine e_istoreL [some (.ref 29), some (.int x1), some (.int x2), some (.int (0 : Int32)), some (.int (0 : Int32)), none, none, none, none] dX8_piece_48 (Nat.le_of_ble_eq_true rfl) rfl ?_
    refine e_iconst dX8_piece_50 ci_0 ?_
    refine e_istoreL [some (.ref 29), some (.int x1), some (.int x2), some (.int (0 : Int32)), some (.int (0 : Int32)), some (.int (0 : Int32)), none, none, none] dX8_piece_51 (Nat.le_of_ble_eq_true rfl) rfl ?_
    refine e_iconst dX8_piece_53 ci_0 ?_
    refine e_istoreL [some (.ref 29), some (.int x1), some (.int x2), some (.int (0 : Int32)), some (.int (0 : Int32)), some (.int (0 : Int32)), some (.int (0 : Int32)), none, none] dX8_piece_54 (Nat.le_of_ble_eq_true rfl) rfl ?_
    refine e_bipush dX8_piece_56 cb_m9 ?_
    refine e_istoreL [some (.ref 29), some (.int x1), some (.int x2), some (.int (0 : Int32)), some (.int (0 : Int32)), some (.int (0 : Int32)), some (.int (0 : Int32)), some (.int (-9 : Int32)), none] dX8_piece_58 (Nat.le_of_ble_eq_true rfl) rfl ?_
    refine e_iconst dX8_piece_60 ci_0 ?_
    refine e_istoreL [some (.ref 29), some (.int x1), some (.int x2), some (.int (0 : Int32)), some (.int (0 : Int32)), some (.int (0 : Int32)), some (.int (0 : Int32)), some (.int (-9 : Int32)), some (.int (0 : Int32))] dX8_piece_61 (Nat.le_of_ble_eq_true rfl) rfl ?_
    exact e_le (g_X8_piece_63 BIG x1 x2 (0 : Int32) (0 : Int32) (0 : Int32) (0 : Int32) (-9 : Int32) (0 : Int32) μ18 _ (by omega) h) ⟨rfl, rfl, rfl, rfl, rfl, rfl, rfl, rfl, rfl, trivial⟩
  · rw [if_neg hc19] at h
    refine e_iconst dX8_piece_43 ci_0 ?_
    exact e_iret .int dX8_piece_44 rfl rfl (ret_eq h)
set_option maxHeartbeats 4000000 in
theorem b_X8_piece : ∀ as μ r μ', Γ_X8_piece as μ r μ' → (elvL as).length ≤ 9 ∧ G mX8_piece (Qe r μ') 0 (elv as 9) [] μ 0 := by
  intro as μ r μ' h
  obtain ⟨a0, a1, rfl, h⟩ := h
  refine ⟨Nat.le_of_ble_eq_true rfl, ?_⟩
  show G mX8_piece (Qe r μ') 0 [some (.ref 29), some (.int a0), some (.int a1), none, none, none, none, none, none] [] μ 0
  unfold F_X8_piece at h
  have hb9 : 0 ≤ 0 := Nat.le_refl _
  refine e_aload_n dX8_piece_0 rfl ?_
  refine e_iload_n dX8_piece_1 rfl ?_
  refine e_iconst dX8_piece_2 ci_0 ?_
  refine e_aload_n dX8_piece_3 rfl ?_
  refine cI_go h (fun E3 hc1 hr4 => e_VX [] [.int (0 : Int32), .int a0, .ref 29] dX8_piece_4 rfl rfl rfl rfl (by decide) (Nat.le_of_ble_eq_true rfl) (by omega) ⟨rfl, hc1⟩ rfl ⟨hr4.symm, rfl⟩) (fun v5 μ2 hc1 h => ?_)
  refine e_VI [] [.int (0 : Int32), .int a0, .ref 29] dX8_piece_4 rfl rfl rfl rfl (by decide) (Nat.le_of_ble_eq_true rfl) (by omega) ⟨rfl, hc1⟩ ?_
  refine e_iconst dX8_piece_7 ci_1 ?_
  refine e_isub dX8_piece_8 ?_
  refine cI_go h (fun E8 hc6 hr9 => e_SX [.int a0, .int (0 : Int32), .int (v5 - (1 : Int32))] [.ref 29] dX8_piece_9 rfl (by decide) rfl rfl (Nat.le_of_ble_eq_true rfl) (by omega) ⟨a0, (0 : Int32), v5 - (1 : Int32), rfl, hc6⟩ rfl ⟨hr9.symm, rfl⟩) (fun v10 μ7 hc6 h => ?_)
  refine e_SI [.int a0, .int (0 : Int32), .int (v5 - (1 : Int32))] [.ref 29] dX8_piece_9 rfl (by decide) rfl rfl (Nat.le_of_ble_eq_true rfl) (by omega) ⟨a0, (0 : Int32), v5 - (1 : Int32), rfl, hc6⟩ ?_
  refine e_if_ne (tgt := 19) dX8_piece_12 rfl (fun hc11 => ?_) (fun hc11 => ?_)
  · rw [if_neg hc11] at h
    refine e_iload_n dX8_piece_19 rfl ?_
    refine e_iconst dX8_piece_20 ci_0 ?_
    refine e_iconst dX8_piece_21 ci_4 ?_
    refine cI_go h (fun E14 hc12 hr15 => e_SX [.int a1, .int (0 : Int32), .int (4 : Int32)] [.ref 29] dX8_piece_22 rfl (by decide) rfl rfl (Nat.le_of_ble_eq_true rfl) (by omega) ⟨a1, (0 : Int32), (4 : Int32), rfl, hc12⟩ rfl ⟨hr15.symm, rfl⟩) (fun v16 μ13 hc12 h => ?_)
    refine e_SI [.int a1, .int (0 : Int32), .int (4 : Int32)] [.ref 29] dX8_piece_22 rfl (by decide) rfl rfl (Nat.le_of_ble_eq_true rfl) (by omega) ⟨a1, (0 : Int32), (4 : Int32), rfl, hc12⟩ ?_
    refine e_if_ne (tgt := 32) dX8_piece_25 rfl (fun hc17 => ?_) (fun hc17 => ?_)
    · rw [if_neg hc17] at h
      refine e_iconst dX8_piece_32 ci_0 ?_
      exact e_le (g_X8_piece_33 a0 a1 (0 : Int32) μ13 _ (by omega) h) ⟨rfl, rfl, rfl, trivial⟩
    · rw [if_pos hc17] at h
      refine e_iconst dX8_piece_28 ci_2 ?_
      refine e_goto (tgt := 33) dX8_piece_29 rfl ?_
      exact e_le (g_X8_piece_33 a0 a1 (2 : Int32) μ13 _ (by omega) h) ⟨rfl, rfl, rfl, trivial⟩
  · rw [if_pos hc11] at h
    refine e_iconst dX8_piece_15 ci_1 ?_
    refine e_goto (tgt := 33) dX8_piece_16 rfl ?_
    exact e_le (g_X8_piece_33 a0 a1 (1 : Int32) μ7 _ (by omega) h) ⟨rfl, rfl, rfl, trivial⟩
set_option maxRecDepth 20000 in
theorem ok_X8_piece (l : Launch) (hl : l.stackTraces = false) : MOK l yX8_piece.cls 6 118 mX8_piece := ⟨lk_all (List.forall_mem_cons.mpr ⟨⟨yX8_in, cX8_in, 3, (some .boolean), 1, 0, by decide, by decide, t_1 7 rfl rfl, hd_X8_in, Or.inl ⟨rfl, sc_X8_in l hl, t_5 18 rfl rfl, t_5 16 rfl rfl, t_5 17 rfl rfl⟩⟩, List.forall_mem_cons.mpr ⟨⟨yX8_openSides, cX8_openSides, 3, (some .int), 4, 66, by decide, by decide, t_1 7 rfl rfl, hd_X8_openSides, Or.inr (Or.inl ⟨rfl, sc_X8_openSides l hl, t_5 121 rfl rfl, t_5 118 rfl rfl, t_5 120 rfl rfl, _, rfl, t_p 53 rfl⟩)⟩, List.forall_mem_cons.mpr ⟨⟨yX8_laysPieces, cX8_laysPieces, 6, (some .int), 5, 93, by decide, by decide, t_1 7 rfl rfl, hd_X8_laysPieces, Or.inr (Or.inl ⟨rfl, sc_X8_laysPieces l hl, t_5 101 rfl rfl, t_5 98 rfl rfl, t_5 100 rfl rfl, _, rfl, t_p 48 rfl⟩)⟩, List.forall_mem_cons.mpr ⟨⟨yX8_ones, cX8_ones, 3, (some .int), 1, 0, by decide, by decide, t_1 7 rfl rfl, hd_X8_ones, Or.inl ⟨rfl, sc_X8_ones l hl, t_5 188 rfl rfl, t_5 186 rfl rfl, t_5 187 rfl rfl⟩⟩, nil_all⟩⟩⟩⟩), fun ix ci j h => lk_all (P := fun ix q => FldOK yX8_piece.cls ix q.1 q.2) (List.forall_mem_cons.mpr ⟨⟨_, rfl, by decide, t_4 187 rfl rfl⟩, List.forall_mem_cons.mpr ⟨⟨_, rfl, by decide, t_4 186 rfl rfl⟩, nil_all⟩⟩) ix (ci, j) h, lk_all (nil_all), lk_all (nil_all), lk_all (nil_all)⟩
theorem hd_X8_piece : CallHd yX8_piece 2 := ⟨by decide +kernel, by decide +kernel, by decide +kernel⟩
theorem sc_X8_piece (l : Launch) (hl : l.stackTraces = false) : SCon l yX8_piece cX8_piece 9 (some .int) 6 118 0 Γ_X8_piece := scon_of mX8_piece cls_ok hl (by decide +kernel) rfl rfl (ok_X8_piece l hl) rfl rfl b_X8_piece
def f_X8_pin_15 (x1 : Int32) (x2 : Int32) (x3 : Int32) (s0 : Int32) (μ : Mem) : Out := lt (sI μ 29 8 s0) (fun μ7 => if (μ7.1 29 8) = 0 then (cV (F_X8_remembers μ7) (fun μ10 => cI (F_X8_isPinned x1 x2 μ10) (fun v17 μ14 => cV (F_X8_pins x1 x2 x3 μ14) (fun μ19 => ck (nz v17) (rI v17 μ19))))) else (rI (0 : Int32) μ7))
def F_X8_pin (a0 : Int32) (a1 : Int32) (a2 : Int32) (μ : Mem) : Out := cI (F_X8_isCell a0 a1 μ) (fun v5 μ2 => if v5 = 0 then (f_X8_pin_15 a0 a1 a2 (1 : Int32) μ2) else (f_X8_pin_15 a0 a1 a2 (0 : Int32) μ2))
def Γ_X8_pin : Gam := fun as μ r μ' => ∃ (a0 : Int32) (a1 : Int32) (a2 : Int32), as = [.ref 29, .int a0, .int a1, .int a2] ∧ F_X8_pin a0 a1 a2 μ = some (r, μ')
def mX8_pin : MI := (cX8_pin, [(127, (1, 2, 0, 6, Γ_X8_isCell)), (145, (1, 2, 0, 6, Γ_X8_isPinned)), (230, (1, 0, 0, 6, Γ_X8_remembers)), (233, (1, 3, 0, 6, Γ_X8_pins))], [(65, 6, 8)], [], [], [], [], none, (some .boolean))
set_option maxHeartbeats 4000000 in
theorem g_X8_pin_15 {r : Res} {μ' : Mem} : ∀ (x1 : Int32) (x2 : Int32) (x3 : Int32) (s0 : Int32), ∀ (μ : Mem) (b : Nat), 0 ≤ b → f_X8_pin_15 x1 x2 x3 s0 μ = some (r, μ') → G mX8_pin (Qe r μ') 15 [some (.ref 29), some (.int x1), some (.int x2), some (.int x3), none] [.int s0, .ref 29] μ b := by
  intro x1 x2 x3 s0 μ b hb9 h
  unfold f_X8_pin_15 at h
  refine e_putI (ci := 6) (j := 8) dX8_pin_15 rfl (by decide) rfl rfl ?_
  refine e_naM (e := sI μ 29 8 s0) h (fun μ7 eμ7 h => ?_)
  refine e_aload_n dX8_pin_18 rfl ?_
  refine e_get (ci := 6) (j := 8) (t := 0) (v := .int (μ7.1 29 8)) dX8_pin_19 rfl (by decide) rfl rfl rfl ?_
  refine e_if_eq (tgt := 27) dX8_pin_22 rfl (fun hc8 => ?_) (fun hc8 => ?_)
  · rw [if_pos hc8] at h
    refine e_aload_n dX8_pin_27 rfl ?_
    refine cV_go h (fun E11 hc9 hr12 => e_VX [] [] dX8_pin_28 rfl rfl rfl rfl (by decide) (Nat.le_of_ble_eq_true rfl) (by omega) ⟨rfl, hc9⟩ rfl ⟨hr12.symm, rfl⟩) (fun μ10 hc9 h => ?_)
    refine e_VV [] [] dX8_pin_28 rfl rfl rfl rfl (by decide) (Nat.le_of_ble_eq_true rfl) (by omega) ⟨rfl, hc9⟩ ?_
    refine e_aload_n dX8_pin_31 rfl ?_
    refine e_iload_n dX8_pin_32 rfl ?_
    refine e_iload_n dX8_pin_33 rfl ?_
    refine cI_go h (fun E15 hc13 hr16 => e_VX [.int x1, .int x2] [] dX8_pin_34 rfl rfl rfl rfl (by decide) (Nat.le_of_ble_eq_true rfl) (by omega) ⟨x1, x2, rfl, hc13⟩ rfl ⟨hr16.symm, rfl⟩) (fun v17 μ14 hc13 h => ?_)
    refine e_VI [.int x1, .int x2] [] dX8_pin_34 rfl rfl rfl rfl (by decide) (Nat.le_of_ble_eq_true rfl) (by omega) ⟨x1, x2, rfl, hc13⟩ ?_
    refine e_istoreL [some (.ref 29), some (.int x1), some (.int x2), some (.int x3), some (.int v17)] dX8_pin_37 (Nat.le_of_ble_eq_true rfl) rfl ?_
    refine e_aload_n dX8_pin_39 rfl ?_
    refine e_iload_n dX8_pin_40 rfl ?_
    refine e_iload_n dX8_pin_41 rfl ?_
    refine e_iload_n dX8_pin_42 rfl ?_
    refine cV_go h (fun E20 hc18 hr21 => e_VX [.int x1, .int x2, .int x3] [] dX8_pin_43 rfl rfl rfl rfl (by decide) (Nat.le_of_ble_eq_true rfl) (by omega) ⟨x1, x2, x3, rfl, hc18⟩ rfl ⟨hr21.symm, rfl⟩) (fun μ19 hc18 h => ?_)
    refine e_VV [.int x1, .int x2, .int x3] [] dX8_pin_43 rfl rfl rfl rfl (by decide) (Nat.le_of_ble_eq_true rfl) (by omega) ⟨x1, x2, x3, rfl, hc18⟩ ?_
    refine e_iload dX8_pin_46 rfl ?_
    obtain ⟨hc22, h⟩ := ck_eq h
    exact e_iret .boolean dX8_pin_48 rfl hc22 (ret_eq h)
  · rw [if_neg hc8] at h
    refine e_iconst dX8_pin_25 ci_0 ?_
    exact e_iret .boolean dX8_pin_26 rfl rfl (ret_eq h)
set_option maxHeartbeats 4000000 in
theorem b_X8_pin : ∀ as μ r μ', Γ_X8_pin as μ r μ' → (elvL as).length ≤ 5 ∧ G mX8_pin (Qe r μ') 0 (elv as 5) [] μ 0 := by
  intro as μ r μ' h
  obtain ⟨a0, a1, a2, rfl, h⟩ := h
  refine ⟨Nat.le_of_ble_eq_true rfl, ?_⟩
  show G mX8_pin (Qe r μ') 0 [some (.ref 29), some (.int a0), some (.int a1), some (.int a2), none] [] μ 0
  unfold F_X8_pin at h
  have hb9 : 0 ≤ 0 := Nat.le_refl _
  refine e_aload_n dX8_pin_0 rfl ?_
  refine e_aload_n dX8_pin_1 rfl ?_
  refine e_iload_n dX8_pin_2 rfl ?_
  refine e_iload_n dX8_pin_3 rfl ?_
  refine cI_go h (fun E3 hc1 hr4 => e_VX [.int a0, .int a1] [.ref 29] dX8_pin_4 rfl rfl rfl rfl (by decide) (Nat.le_of_ble_eq_true rfl) (by omega) ⟨a0, a1, rfl, hc1⟩ rfl ⟨hr4.symm, rfl⟩) (fun v5 μ2 hc1 h => ?_)
  refine e_VI [.int a0, .int a1] [.ref 29] dX8_pin_4 rfl rfl rfl rfl (by decide) (Nat.le_of_ble_eq_true rfl) (by omega) ⟨a0, a1, rfl, hc1⟩ ?_
  refine e_if_ne (tgt := 14) dX8_pin_7 rfl (fun hc6 => ?_) (fun hc6 => ?_)
  · rw [if_neg hc6] at h
    refine e_iconst dX8_pin_14 ci_0 ?_
    exact e_le (g_X8_pin_15 a0 a1 a2 (0 : Int32) μ2 _ (by omega) h) ⟨rfl, rfl, rfl, rfl, trivial⟩
  · rw [if_pos hc6] at h
    refine e_iconst dX8_pin_10 ci_1 ?_
    refine e_goto (tgt := 15) dX8_pin_11 rfl ?_
    exact e_le (g_X8_pin_15 a0 a1 a2 (1 : Int32) μ2 _ (by omega) h) ⟨rfl, rfl, rfl, rfl, trivial⟩
set_option maxRecDepth 20000 in
theorem ok_X8_pin (l : Launch) (hl : l.stackTraces = false) : MOK l yX8_pin.cls 3 45 mX8_pin := ⟨lk_all (List.forall_mem_cons.mpr ⟨⟨yX8_isCell, cX8_isCell, 3, (some .boolean), 2, 22, by decide, by decide, t_1 7 rfl rfl, hd_X8_isCell, Or.inr (Or.inl ⟨rfl, sc_X8_isCell l hl, t_5 105 rfl rfl, t_5 102 rfl rfl, t_5 104 rfl rfl, _, rfl, t_p 49 rfl⟩)⟩, List.forall_mem_cons.mpr ⟨⟨yX8_isPinned, cX8_isPinned, 3, (some .boolean), 1, 0, by decide, by decide, t_1 7 rfl rfl, hd_X8_isPinned, Or.inr (Or.inl ⟨rfl, sc_X8_isPinned l hl, t_5 89 rfl rfl, t_5 86 rfl rfl, t_5 88 rfl rfl, _, rfl, t_p 45 rfl⟩)⟩, List.forall_mem_cons.mpr ⟨⟨yX8_remembers, cX8_remembers, 2, none, 2, 24, by decide, by decide, t_1 7 rfl rfl, hd_X8_remembers, Or.inr (Or.inl ⟨rfl, sc_X8_remembers l hl, t_5 204 rfl rfl, t_5 201 rfl rfl, t_5 203 rfl rfl, _, rfl, t_p 67 rfl⟩)⟩, List.forall_mem_cons.mpr ⟨⟨yX8_pins, cX8_pins, 5, none, 1, 0, by decide, by decide, t_1 7 rfl rfl, hd_X8_pins, Or.inr (Or.inl ⟨rfl, sc_X8_pins l hl, t_5 223 rfl rfl, t_5 220 rfl rfl, t_5 222 rfl rfl, _, rfl, t_p 69 rfl⟩)⟩, nil_all⟩⟩⟩⟩), fun ix ci j h => lk_all (P := fun ix q => FldOK yX8_pin.cls ix q.1 q.2) (List.forall_mem_cons.mpr ⟨⟨_, rfl, by decide, t_4 186 rfl rfl⟩, nil_all⟩) ix (ci, j) h, lk_all (nil_all), lk_all (nil_all), lk_all (nil_all)⟩
theorem hd_X8_pin : CallHd yX8_pin 3 := ⟨by decide +kernel, by decide +kernel, by decide +kernel⟩
theorem sc_X8_pin (l : Launch) (hl : l.stackTraces = false) : SCon l yX8_pin cX8_pin 5 (some .boolean) 3 45 0 Γ_X8_pin := scon_of mX8_pin cls_ok hl (by decide +kernel) rfl rfl (ok_X8_pin l hl) rfl rfl b_X8_pin
def f_X8_resize_139 (k107 : Int32 → Int32 → Int32 → Mem → Out) (x1 : Int32) (x2 : Int32) (x3 : Int32) (s0 : Int32) (s1 : Int32) (μ : Mem) : Out := ck (inb s1 50) (lt (sI μ 30 (Int32.toNatClampNeg s1) s0) (fun μ44 => if x2 ≤ x3 then (ck (inb ((44 : Int32) + x3) 50) (lt (sI μ44 30 (Int32.toNatClampNeg ((44 : Int32) + x3)) (0 : Int32)) (fun μ47 => lt (x3 + (1 : Int32)) (fun v48 => k107 x1 x2 v48 μ47)))) else (ck (inb ((44 : Int32) + x3) 50) (ck (inb ((44 : Int32) + x3) 50) (lt (sI μ44 30 (Int32.toNatClampNeg ((44 : Int32) + x3)) (μ44.1 30 (Int32.toNatClampNeg ((44 : Int32) + x3)))) (fun μ51 => lt (x3 + (1 : Int32)) (fun v52 => k107 x1 x2 v52 μ51)))))))
def f_X8_resize_107 : Nat → Int32 → Int32 → Int32 → Mem → Out
  | 0, _, _, _, _ => none
  | n + 1, x1, x2, x3, μ => if (6 : Int32) ≤ x3 then (cI (F_X8_filledMany μ) (fun v40 μ37 => rI v40 μ37)) else (if x1 ≤ x3 then (f_X8_resize_139 (f_X8_resize_107 n) x1 x2 x3 (0 : Int32) ((38 : Int32) + x3) μ) else (ck (inb ((38 : Int32) + x3) 50) (f_X8_resize_139 (f_X8_resize_107 n) x1 x2 x3 (μ.1 30 (Int32.toNatClampNeg ((38 : Int32) + x3))) ((38 : Int32) + x3) μ)))
def f_X8_resize_58 : Nat → Int32 → Int32 → Int32 → Mem → Out
  | 0, _, _, _, _ => none
  | n + 1, x1, x2, x3, μ => if (36 : Int32) ≤ x3 then (f_X8_resize_107 BIG x1 x2 (0 : Int32) μ) else (cI (F_X8_isCell (x3 / (6 : Int32)) (remI x3 (6 : Int32)) μ) (fun v26 μ23 => if v26 = 0 then (ck (inb ((2 : Int32) + x3) 50) (lt (sI μ23 30 (Int32.toNatClampNeg ((2 : Int32) + x3)) (0 : Int32)) (fun μ29 => lt (x3 + (1 : Int32)) (fun v30 => f_X8_resize_58 n x1 x2 v30 μ29)))) else (ck (inb ((2 : Int32) + x3) 50) (ck (inb ((2 : Int32) + x3) 50) (lt (sI μ23 30 (Int32.toNatClampNeg ((2 : Int32) + x3)) (μ23.1 30 (Int32.toNatClampNeg ((2 : Int32) + x3)))) (fun μ33 => lt (x3 + (1 : Int32)) (fun v34 => f_X8_resize_58 n x1 x2 v34 μ33)))))))
def f_X8_resize_26 (x1 : Int32) (x2 : Int32) (s0 : Int32) (μ : Mem) : Out := lt (sI μ 29 8 s0) (fun μ13 => if (μ13.1 29 8) = 0 then (cV (F_X8_remembers μ13) (fun μ16 => lt (sI μ16 30 0 x1) (fun μ19 => lt (sI μ19 30 1 x2) (fun μ20 => f_X8_resize_58 BIG x1 x2 (0 : Int32) μ20)))) else (rI (0 : Int32) μ13))
def F_X8_resize (a0 : Int32) (a1 : Int32) (μ : Mem) : Out := cI (F_X8_in a0 (1 : Int32) (6 : Int32) μ) (fun v5 μ2 => if v5 = 0 then (f_X8_resize_26 a0 a1 (1 : Int32) μ2) else (cI (F_X8_in a1 (1 : Int32) (6 : Int32) μ2) (fun v11 μ8 => if v11 = 0 then (f_X8_resize_26 a0 a1 (1 : Int32) μ8) else (f_X8_resize_26 a0 a1 (0 : Int32) μ8))))
def Γ_X8_resize : Gam := fun as μ r μ' => ∃ (a0 : Int32) (a1 : Int32), as = [.ref 29, .int a0, .int a1] ∧ F_X8_resize a0 a1 μ = some (r, μ')
def mX8_resize : MI := (cX8_resize, [(80, (0, 3, 0, 0, Γ_X8_in)), (124, (1, 0, 0, 6, Γ_X8_filledMany)), (127, (1, 2, 0, 6, Γ_X8_isCell)), (230, (1, 0, 0, 6, Γ_X8_remembers))], [(7, 6, 0), (65, 6, 8)], [], [], [], [], none, (some .int))
set_option maxHeartbeats 4000000 in
theorem g_X8_resize_139 {r : Res} {μ' : Mem} {k107 : Int32 → Int32 → Int32 → Mem → Out} (hk107 : ∀ (x1 : Int32) (x2 : Int32) (x3 : Int32), ∀ (μ : Mem) (b : Nat), 0 ≤ b → k107 x1 x2 x3 μ = some (r, μ') → G mX8_resize (Qe r μ') 107 [some (.ref 29), some (.int x1), some (.int x2), some (.int x3)] [] μ b) : ∀ (x1 : Int32) (x2 : Int32) (x3 : Int32) (s0 : Int32) (s1 : Int32), ∀ (μ : Mem) (b : Nat), 0 ≤ b → f_X8_resize_139 k107 x1 x2 x3 s0 s1 μ = some (r, μ') → G mX8_resize (Qe r μ') 139 [some (.ref 29), some (.int x1), some (.int x2), some (.int x3)] [.int s0, .int s1, .ref 30] μ b := by
  intro x1 x2 x3 s0 s1 μ b hb9 h
  unfold f_X8_resize_139 at h
  obtain ⟨hc43, h⟩ := ck_eq h
  refine e_iastore (n := 50) dX8_resize_139 (by decide) rfl hc43 ?_
  refine e_naM (e := sI μ 30 (Int32.toNatClampNeg s1) s0) h (fun μ44 eμ44 h => ?_)
  refine e_aload_n dX8_resize_140 rfl ?_
  refine e_get (ci := 6) (j := 0) (t := 2) (v := .ref 30) dX8_resize_141 rfl (by decide) rfl rfl rfl ?_
  refine e_bipush dX8_resize_144 cb_44 ?_
  refine e_iload_n dX8_resize_146 rfl ?_
  refine e_iadd dX8_resize_147 ?_
  refine e_iload_n dX8_resize_148 rfl ?_
  refine e_iload_n dX8_resize_149 rfl ?_
  refine e_ic_ge (tgt := 165) dX8_resize_150 rfl (fun hc45 => ?_) (fun hc45 => ?_)
  · rw [if_pos hc45] at h
    refine e_iconst dX8_resize_165 ci_0 ?_
    obtain ⟨hc46, h⟩ := ck_eq h
    refine e_iastore (n := 50) dX8_resize_166 (by decide) rfl hc46 ?_
    refine e_naM (e := sI μ44 30 (Int32.toNatClampNeg ((44 : Int32) + x3)) (0 : Int32)) h (fun μ47 eμ47 h => ?_)
    refine e_iincN 3 (1 : Int32) dX8_resize_167 rfl ci_1 h (fun y9 => [some (.ref 29), some (.int x1), some (.int x2), some (.int y9)]) (fun _ => rfl) (fun v48 ev48 h => ?_)
    refine e_goto (tgt := 107) dX8_resize_170 rfl ?_
    exact e_le (hk107 x1 x2 v48 μ47 _ (by omega) h) ⟨rfl, rfl, rfl, rfl, trivial⟩
  · rw [if_neg hc45] at h
    refine e_aload_n dX8_resize_153 rfl ?_
    refine e_get (ci := 6) (j := 0) (t := 2) (v := .ref 30) dX8_resize_154 rfl (by decide) rfl rfl rfl ?_
    refine e_bipush dX8_resize_157 cb_44 ?_
    refine e_iload_n dX8_resize_159 rfl ?_
    refine e_iadd dX8_resize_160 ?_
    obtain ⟨hc49, h⟩ := ck_eq h
    refine e_ialoadL (μ44.1 30 (Int32.toNatClampNeg ((44 : Int32) + x3))) (n := 50) dX8_resize_161 (by decide) rfl hc49 rfl ?_
    refine e_goto (tgt := 166) dX8_resize_162 rfl ?_
    obtain ⟨hc50, h⟩ := ck_eq h
    refine e_iastore (n := 50) dX8_resize_166 (by decide) rfl hc50 ?_
    refine e_naM (e := sI μ44 30 (Int32.toNatClampNeg ((44 : Int32) + x3)) (μ44.1 30 (Int32.toNatClampNeg ((44 : Int32) + x3)))) h (fun μ51 eμ51 h => ?_)
    refine e_iincN 3 (1 : Int32) dX8_resize_167 rfl ci_1 h (fun y9 => [some (.ref 29), some (.int x1), some (.int x2), some (.int y9)]) (fun _ => rfl) (fun v52 ev52 h => ?_)
    refine e_goto (tgt := 107) dX8_resize_170 rfl ?_
    exact e_le (hk107 x1 x2 v52 μ51 _ (by omega) h) ⟨rfl, rfl, rfl, rfl, trivial⟩
set_option maxHeartbeats 4000000 in
theorem g_X8_resize_107 {r : Res} {μ' : Mem} : ∀ n : Nat, ∀ (x1 : Int32) (x2 : Int32) (x3 : Int32), ∀ (μ : Mem) (b : Nat), 0 ≤ b → f_X8_resize_107 n x1 x2 x3 μ = some (r, μ') → G mX8_resize (Qe r μ') 107 [some (.ref 29), some (.int x1), some (.int x2), some (.int x3)] [] μ b := by
  intro n
  induction n with
  | zero => intro x1 x2 x3 μ b hb9 h; exact nomatch (show (none : Out) = some _ from h)
  | succ n ih =>
    intro x1 x2 x3 μ b hb9 h
    rw [f_X8_resize_107.eq_2] at h
    refine e_iload_n dX8_resize_107 rfl ?_
    refine e_bipush dX8_resize_108 cb_6 ?_
    refine e_ic_ge (tgt := 173) dX8_resize_110 rfl (fun hc35 => ?_) (fun hc35 => ?_)
    · rw [if_pos hc35] at h
      refine e_aload_n dX8_resize_173 rfl ?_
      refine cI_go h (fun E38 hc36 hr39 => e_VX [] [] dX8_resize_174 rfl rfl rfl rfl (by decide) (Nat.le_of_ble_eq_true rfl) (by omega) ⟨rfl, hc36⟩ rfl ⟨hr39.symm, rfl⟩) (fun v40 μ37 hc36 h => ?_)
      refine e_VI [] [] dX8_resize_174 rfl rfl rfl rfl (by decide) (Nat.le_of_ble_eq_true rfl) (by omega) ⟨rfl, hc36⟩ ?_
      exact e_iret .int dX8_resize_177 rfl rfl (ret_eq h)
    · rw [if_neg hc35] at h
      refine e_aload_n dX8_resize_113 rfl ?_
      refine e_get (ci := 6) (j := 0) (t := 2) (v := .ref 30) dX8_resize_114 rfl (by decide) rfl rfl rfl ?_
      refine e_bipush dX8_resize_117 cb_38 ?_
      refine e_iload_n dX8_resize_119 rfl ?_
      refine e_iadd dX8_resize_120 ?_
      refine e_iload_n dX8_resize_121 rfl ?_
      refine e_iload_n dX8_resize_122 rfl ?_
      refine e_ic_ge (tgt := 138) dX8_resize_123 rfl (fun hc41 => ?_) (fun hc41 => ?_)
      · rw [if_pos hc41] at h
        refine e_iconst dX8_resize_138 ci_0 ?_
        exact e_le (g_X8_resize_139 ih x1 x2 x3 (0 : Int32) ((38 : Int32) + x3) μ _ (by omega) h) ⟨rfl, rfl, rfl, rfl, trivial⟩
      · rw [if_neg hc41] at h
        refine e_aload_n dX8_resize_126 rfl ?_
        refine e_get (ci := 6) (j := 0) (t := 2) (v := .ref 30) dX8_resize_127 rfl (by decide) rfl rfl rfl ?_
        refine e_bipush dX8_resize_130 cb_38 ?_
        refine e_iload_n dX8_resize_132 rfl ?_
        refine e_iadd dX8_resize_133 ?_
        obtain ⟨hc42, h⟩ := ck_eq h
        refine e_ialoadL (μ.1 30 (Int32.toNatClampNeg ((38 : Int32) + x3))) (n := 50) dX8_resize_134 (by decide) rfl hc42 rfl ?_
        refine e_goto (tgt := 139) dX8_resize_135 rfl ?_
        exact e_le (g_X8_resize_139 ih x1 x2 x3 (μ.1 30 (Int32.toNatClampNeg ((38 : Int32) + x3))) ((38 : Int32) + x3) μ _ (by omega) h) ⟨rfl, rfl, rfl, rfl, trivial⟩
set_option maxHeartbeats 4000000 in
theorem g_X8_resize_58 {r : Res} {μ' : Mem} : ∀ n : Nat, ∀ (x1 : Int32) (x2 : Int32) (x3 : Int32), ∀ (μ : Mem) (b : Nat), 0 ≤ b → f_X8_resize_58 n x1 x2 x3 μ = some (r, μ') → G mX8_resize (Qe r μ') 58 [some (.ref 29), some (.int x1), some (.int x2), some (.int x3)] [] μ b := by
  intro n
  induction n with
  | zero => intro x1 x2 x3 μ b hb9 h; exact nomatch (show (none : Out) = some _ from h)
  | succ n ih =>
    intro x1 x2 x3 μ b hb9 h
    rw [f_X8_resize_58.eq_2] at h
    refine e_iload_n dX8_resize_58 rfl ?_
    refine e_bipush dX8_resize_59 cb_36 ?_
    refine e_ic_ge (tgt := 105) dX8_resize_61 rfl (fun hc21 => ?_) (fun hc21 => ?_)
    · rw [if_pos hc21] at h
      refine e_iconst dX8_resize_105 ci_0 ?_
      refine e_istore_nL [some (.ref 29), some (.int x1), some (.int x2), some (.int (0 : Int32))] dX8_resize_106 (Nat.le_of_ble_eq_true rfl) rfl ?_
      exact e_le (g_X8_resize_107 BIG x1 x2 (0 : Int32) μ _ (by omega) h) ⟨rfl, rfl, rfl, rfl, trivial⟩
    · rw [if_neg hc21] at h
      refine e_aload_n dX8_resize_64 rfl ?_
      refine e_get (ci := 6) (j := 0) (t := 2) (v := .ref 30) dX8_resize_65 rfl (by decide) rfl rfl rfl ?_
      refine e_iconst dX8_resize_68 ci_2 ?_
      refine e_iload_n dX8_resize_69 rfl ?_
      refine e_iadd dX8_resize_70 ?_
      refine e_aload_n dX8_resize_71 rfl ?_
      refine e_iload_n dX8_resize_72 rfl ?_
      refine e_bipush dX8_resize_73 cb_6 ?_
      refine e_idiv dX8_resize_75 (by decide) ?_
      refine e_iload_n dX8_resize_76 rfl ?_
      refine e_bipush dX8_resize_77 cb_6 ?_
      refine e_irem dX8_resize_79 (by decide) ?_
      refine cI_go h (fun E24 hc22 hr25 => e_VX [.int (x3 / (6 : Int32)), .int (remI x3 (6 : Int32))] [.int ((2 : Int32) + x3), .ref 30] dX8_resize_80 rfl rfl rfl rfl (by decide) (Nat.le_of_ble_eq_true rfl) (by omega) ⟨x3 / (6 : Int32), remI x3 (6 : Int32), rfl, hc22⟩ rfl ⟨hr25.symm, rfl⟩) (fun v26 μ23 hc22 h => ?_)
      refine e_VI [.int (x3 / (6 : Int32)), .int (remI x3 (6 : Int32))] [.int ((2 : Int32) + x3), .ref 30] dX8_resize_80 rfl rfl rfl rfl (by decide) (Nat.le_of_ble_eq_true rfl) (by omega) ⟨x3 / (6 : Int32), remI x3 (6 : Int32), rfl, hc22⟩ ?_
      refine e_if_eq (tgt := 97) dX8_resize_83 rfl (fun hc27 => ?_) (fun hc27 => ?_)
      · rw [if_pos hc27] at h
        refine e_iconst dX8_resize_97 ci_0 ?_
        obtain ⟨hc28, h⟩ := ck_eq h
        refine e_iastore (n := 50) dX8_resize_98 (by decide) rfl hc28 ?_
        refine e_naM (e := sI μ23 30 (Int32.toNatClampNeg ((2 : Int32) + x3)) (0 : Int32)) h (fun μ29 eμ29 h => ?_)
        refine e_iincN 3 (1 : Int32) dX8_resize_99 rfl ci_1 h (fun y9 => [some (.ref 29), some (.int x1), some (.int x2), some (.int y9)]) (fun _ => rfl) (fun v30 ev30 h => ?_)
        refine e_goto (tgt := 58) dX8_resize_102 rfl ?_
        exact e_le (ih x1 x2 v30 μ29 _ (by omega) h) ⟨rfl, rfl, rfl, rfl, trivial⟩
      · rw [if_neg hc27] at h
        refine e_aload_n dX8_resize_86 rfl ?_
        refine e_get (ci := 6) (j := 0) (t := 2) (v := .ref 30) dX8_resize_87 rfl (by decide) rfl rfl rfl ?_
        refine e_iconst dX8_resize_90 ci_2 ?_
        refine e_iload_n dX8_resize_91 rfl ?_
        refine e_iadd dX8_resize_92 ?_
        obtain ⟨hc31, h⟩ := ck_eq h
        refine e_ialoadL (μ23.1 30 (Int32.toNatClampNeg ((2 : Int32) + x3))) (n := 50) dX8_resize_93 (by decide) rfl hc31 rfl ?_
        refine e_goto (tgt := 98) dX8_resize_94 rfl ?_
        obtain ⟨hc32, h⟩ := ck_eq h
        refine e_iastore (n := 50) dX8_resize_98 (by decide) rfl hc32 ?_
        refine e_naM (e := sI μ23 30 (Int32.toNatClampNeg ((2 : Int32) + x3)) (μ23.1 30 (Int32.toNatClampNeg ((2 : Int32) + x3)))) h (fun μ33 eμ33 h => ?_)
        refine e_iincN 3 (1 : Int32) dX8_resize_99 rfl ci_1 h (fun y9 => [some (.ref 29), some (.int x1), some (.int x2), some (.int y9)]) (fun _ => rfl) (fun v34 ev34 h => ?_)
        refine e_goto (tgt := 58) dX8_resize_102 rfl ?_
        exact e_le (ih x1 x2 v34 μ33 _ (by omega) h) ⟨rfl, rfl, rfl, rfl, trivial⟩
set_option maxHeartbeats 4000000 in
theorem g_X8_resize_26 {r : Res} {μ' : Mem} : ∀ (x1 : Int32) (x2 : Int32) (s0 : Int32), ∀ (μ : Mem) (b : Nat), 0 ≤ b → f_X8_resize_26 x1 x2 s0 μ = some (r, μ') → G mX8_resize (Qe r μ') 26 [some (.ref 29), some (.int x1), some (.int x2), none] [.int s0, .ref 29] μ b := by
  intro x1 x2 s0 μ b hb9 h
  unfold f_X8_resize_26 at h
  refine e_putI (ci := 6) (j := 8) dX8_resize_26 rfl (by decide) rfl rfl ?_
  refine e_naM (e := sI μ 29 8 s0) h (fun μ13 eμ13 h => ?_)
  refine e_aload_n dX8_resize_29 rfl ?_
  refine e_get (ci := 6) (j := 8) (t := 0) (v := .int (μ13.1 29 8)) dX8_resize_30 rfl (by decide) rfl rfl rfl ?_
  refine e_if_eq (tgt := 38) dX8_resize_33 rfl (fun hc14 => ?_) (fun hc14 => ?_)
  · rw [if_pos hc14] at h
    refine e_aload_n dX8_resize_38 rfl ?_
    refine cV_go h (fun E17 hc15 hr18 => e_VX [] [] dX8_resize_39 rfl rfl rfl rfl (by decide) (Nat.le_of_ble_eq_true rfl) (by omega) ⟨rfl, hc15⟩ rfl ⟨hr18.symm, rfl⟩) (fun μ16 hc15 h => ?_)
    refine e_VV [] [] dX8_resize_39 rfl rfl rfl rfl (by decide) (Nat.le_of_ble_eq_true rfl) (by omega) ⟨rfl, hc15⟩ ?_
    refine e_aload_n dX8_resize_42 rfl ?_
    refine e_get (ci := 6) (j := 0) (t := 2) (v := .ref 30) dX8_resize_43 rfl (by decide) rfl rfl rfl ?_
    refine e_iconst dX8_resize_46 ci_0 ?_
    refine e_iload_n dX8_resize_47 rfl ?_
    refine e_iastore (n := 50) dX8_resize_48 (by decide) rfl (by decide : inb (0 : Int32) 50) ?_
    refine e_naM (e := sI μ16 30 0 x1) h (fun μ19 eμ19 h => ?_)
    refine e_aload_n dX8_resize_49 rfl ?_
    refine e_get (ci := 6) (j := 0) (t := 2) (v := .ref 30) dX8_resize_50 rfl (by decide) rfl rfl rfl ?_
    refine e_iconst dX8_resize_53 ci_1 ?_
    refine e_iload_n dX8_resize_54 rfl ?_
    refine e_iastore (n := 50) dX8_resize_55 (by decide) rfl (by decide : inb (1 : Int32) 50) ?_
    refine e_naM (e := sI μ19 30 1 x2) h (fun μ20 eμ20 h => ?_)
    refine e_iconst dX8_resize_56 ci_0 ?_
    refine e_istore_nL [some (.ref 29), some (.int x1), some (.int x2), some (.int (0 : Int32))] dX8_resize_57 (Nat.le_of_ble_eq_true rfl) rfl ?_
    exact e_le (g_X8_resize_58 BIG x1 x2 (0 : Int32) μ20 _ (by omega) h) ⟨rfl, rfl, rfl, rfl, trivial⟩
  · rw [if_neg hc14] at h
    refine e_iconst dX8_resize_36 ci_0 ?_
    exact e_iret .int dX8_resize_37 rfl rfl (ret_eq h)
set_option maxHeartbeats 4000000 in
theorem b_X8_resize : ∀ as μ r μ', Γ_X8_resize as μ r μ' → (elvL as).length ≤ 4 ∧ G mX8_resize (Qe r μ') 0 (elv as 4) [] μ 0 := by
  intro as μ r μ' h
  obtain ⟨a0, a1, rfl, h⟩ := h
  refine ⟨Nat.le_of_ble_eq_true rfl, ?_⟩
  show G mX8_resize (Qe r μ') 0 [some (.ref 29), some (.int a0), some (.int a1), none] [] μ 0
  unfold F_X8_resize at h
  have hb9 : 0 ≤ 0 := Nat.le_refl _
  refine e_aload_n dX8_resize_0 rfl ?_
  refine e_iload_n dX8_resize_1 rfl ?_
  refine e_iconst dX8_resize_2 ci_1 ?_
  refine e_bipush dX8_resize_3 cb_6 ?_
  refine cI_go h (fun E3 hc1 hr4 => e_SX [.int a0, .int (1 : Int32), .int (6 : Int32)] [.ref 29] dX8_resize_5 rfl (by decide) rfl rfl (Nat.le_of_ble_eq_true rfl) (by omega) ⟨a0, (1 : Int32), (6 : Int32), rfl, hc1⟩ rfl ⟨hr4.symm, rfl⟩) (fun v5 μ2 hc1 h => ?_)
  refine e_SI [.int a0, .int (1 : Int32), .int (6 : Int32)] [.ref 29] dX8_resize_5 rfl (by decide) rfl rfl (Nat.le_of_ble_eq_true rfl) (by omega) ⟨a0, (1 : Int32), (6 : Int32), rfl, hc1⟩ ?_
  refine e_if_eq (tgt := 21) dX8_resize_8 rfl (fun hc6 => ?_) (fun hc6 => ?_)
  · rw [if_pos hc6] at h
    refine e_iconst dX8_resize_21 ci_1 ?_
    refine e_goto (tgt := 26) dX8_resize_22 rfl ?_
    exact e_le (g_X8_resize_26 a0 a1 (1 : Int32) μ2 _ (by omega) h) ⟨rfl, rfl, rfl, trivial⟩
  · rw [if_neg hc6] at h
    refine e_iload_n dX8_resize_11 rfl ?_
    refine e_iconst dX8_resize_12 ci_1 ?_
    refine e_bipush dX8_resize_13 cb_6 ?_
    refine cI_go h (fun E9 hc7 hr10 => e_SX [.int a1, .int (1 : Int32), .int (6 : Int32)] [.ref 29] dX8_resize_15 rfl (by decide) rfl rfl (Nat.le_of_ble_eq_true rfl) (by omega) ⟨a1, (1 : Int32), (6 : Int32), rfl, hc7⟩ rfl ⟨hr10.symm, rfl⟩) (fun v11 μ8 hc7 h => ?_)
    refine e_SI [.int a1, .int (1 : Int32), .int (6 : Int32)] [.ref 29] dX8_resize_15 rfl (by decide) rfl rfl (Nat.le_of_ble_eq_true rfl) (by omega) ⟨a1, (1 : Int32), (6 : Int32), rfl, hc7⟩ ?_
    refine e_if_ne (tgt := 25) dX8_resize_18 rfl (fun hc12 => ?_) (fun hc12 => ?_)
    · rw [if_neg hc12] at h
      refine e_iconst dX8_resize_25 ci_0 ?_
      exact e_le (g_X8_resize_26 a0 a1 (0 : Int32) μ8 _ (by omega) h) ⟨rfl, rfl, rfl, trivial⟩
    · rw [if_pos hc12] at h
      refine e_iconst dX8_resize_21 ci_1 ?_
      refine e_goto (tgt := 26) dX8_resize_22 rfl ?_
      exact e_le (g_X8_resize_26 a0 a1 (1 : Int32) μ8 _ (by omega) h) ⟨rfl, rfl, rfl, trivial⟩
set_option maxRecDepth 20000 in
theorem ok_X8_resize (l : Launch) (hl : l.stackTraces = false) : MOK l yX8_resize.cls 5 87 mX8_resize := ⟨lk_all (List.forall_mem_cons.mpr ⟨⟨yX8_in, cX8_in, 3, (some .boolean), 1, 0, by decide, by decide, t_1 7 rfl rfl, hd_X8_in, Or.inl ⟨rfl, sc_X8_in l hl, t_5 18 rfl rfl, t_5 16 rfl rfl, t_5 17 rfl rfl⟩⟩, List.forall_mem_cons.mpr ⟨⟨yX8_filledMany, cX8_filledMany, 3, (some .int), 4, 65, by decide, by decide, t_1 7 rfl rfl, hd_X8_filledMany, Or.inr (Or.inl ⟨rfl, sc_X8_filledMany l hl, t_5 77 rfl rfl, t_5 74 rfl rfl, t_5 76 rfl rfl, _, rfl, t_p 43 rfl⟩)⟩, List.forall_mem_cons.mpr ⟨⟨yX8_isCell, cX8_isCell, 3, (some .boolean), 2, 22, by decide, by decide, t_1 7 rfl rfl, hd_X8_isCell, Or.inr (Or.inl ⟨rfl, sc_X8_isCell l hl, t_5 105 rfl rfl, t_5 102 rfl rfl, t_5 104 rfl rfl, _, rfl, t_p 49 rfl⟩)⟩, List.forall_mem_cons.mpr ⟨⟨yX8_remembers, cX8_remembers, 2, none, 2, 24, by decide, by decide, t_1 7 rfl rfl, hd_X8_remembers, Or.inr (Or.inl ⟨rfl, sc_X8_remembers l hl, t_5 204 rfl rfl, t_5 201 rfl rfl, t_5 203 rfl rfl, _, rfl, t_p 67 rfl⟩)⟩, nil_all⟩⟩⟩⟩), fun ix ci j h => lk_all (P := fun ix q => FldOK yX8_resize.cls ix q.1 q.2) (List.forall_mem_cons.mpr ⟨⟨_, rfl, by decide, t_4 178 rfl rfl⟩, List.forall_mem_cons.mpr ⟨⟨_, rfl, by decide, t_4 186 rfl rfl⟩, nil_all⟩⟩) ix (ci, j) h, lk_all (nil_all), lk_all (nil_all), lk_all (nil_all)⟩
theorem hd_X8_resize : CallHd yX8_resize 2 := ⟨by decide +kernel, by decide +kernel, by decide +kernel⟩
theorem sc_X8_resize (l : Launch) (hl : l.stackTraces = false) : SCon l yX8_resize cX8_resize 4 (some .int) 5 87 0 Γ_X8_resize := scon_of mX8_resize cls_ok hl (by decide +kernel) rfl rfl (ok_X8_resize l hl) rfl rfl b_X8_resize
def f_X8_restore_30 (x1 : Int32) (s0 : Int32) (μ : Mem) : Out := lt (sI μ 29 8 s0) (fun μ8 => if (μ8.1 29 8) = 0 then (cV (F_X8_copies 32 ((50 : Int32) * x1) 30 (0 : Int32) μ8) (fun μ11 => lt (sI μ11 29 2 (0 : Int32)) (fun μ14 => cI (F_X8_filledMany μ14) (fun v19 μ16 => rI v19 μ16)))) else (rI (0 : Int32) μ8))
def F_X8_restore (a0 : Int32) (μ : Mem) : Out := cI (F_X8_in a0 (0 : Int32) (1 : Int32) μ) (fun v5 μ2 => if v5 = 0 then (f_X8_restore_30 a0 (1 : Int32) μ2) else (if ((shrI (μ2.1 29 4) a0) &&& (1 : Int32)) = 0 then (f_X8_restore_30 a0 (2 : Int32) μ2) else (f_X8_restore_30 a0 (0 : Int32) μ2)))
def Γ_X8_restore : Gam := fun as μ r μ' => ∃ (a0 : Int32), as = [.ref 29, .int a0] ∧ F_X8_restore a0 μ = some (r, μ')
def mX8_restore : MI := (cX8_restore, [(72, (0, 4, 0, 0, Γ_X8_copies)), (80, (0, 3, 0, 0, Γ_X8_in)), (124, (1, 0, 0, 6, Γ_X8_filledMany))], [(7, 6, 0), (16, 6, 3), (65, 6, 8), (69, 6, 2), (121, 6, 4)], [], [], [], [], none, (some .int))
set_option maxHeartbeats 4000000 in
theorem g_X8_restore_30 {r : Res} {μ' : Mem} : ∀ (x1 : Int32) (s0 : Int32), ∀ (μ : Mem) (b : Nat), 0 ≤ b → f_X8_restore_30 x1 s0 μ = some (r, μ') → G mX8_restore (Qe r μ') 30 [some (.ref 29), some (.int x1)] [.int s0, .ref 29] μ b := by
  intro x1 s0 μ b hb9 h
  unfold f_X8_restore_30 at h
  refine e_putI (ci := 6) (j := 8) dX8_restore_30 rfl (by decide) rfl rfl ?_
  refine e_naM (e := sI μ 29 8 s0) h (fun μ8 eμ8 h => ?_)
  refine e_aload_n dX8_restore_33 rfl ?_
  refine e_get (ci := 6) (j := 8) (t := 0) (v := .int (μ8.1 29 8)) dX8_restore_34 rfl (by decide) rfl rfl rfl ?_
  refine e_if_eq (tgt := 42) dX8_restore_37 rfl (fun hc9 => ?_) (fun hc9 => ?_)
  · rw [if_pos hc9] at h
    refine e_aload_n dX8_restore_42 rfl ?_
    refine e_get (ci := 6) (j := 3) (t := 2) (v := .ref 32) dX8_restore_43 rfl (by decide) rfl rfl rfl ?_
    refine e_bipush dX8_restore_46 cb_50 ?_
    refine e_iload_n dX8_restore_48 rfl ?_
    refine e_imul dX8_restore_49 ?_
    refine e_aload_n dX8_restore_50 rfl ?_
    refine e_get (ci := 6) (j := 0) (t := 2) (v := .ref 30) dX8_restore_51 rfl (by decide) rfl rfl rfl ?_
    refine e_iconst dX8_restore_54 ci_0 ?_
    refine cV_go h (fun E12 hc10 hr13 => e_SX [.ref 32, .int ((50 : Int32) * x1), .ref 30, .int (0 : Int32)] [] dX8_restore_55 rfl (by decide) rfl rfl (Nat.le_of_ble_eq_true rfl) (by omega) ⟨32, (50 : Int32) * x1, 30, (0 : Int32), rfl, (by decide), (by decide), hc10⟩ rfl ⟨hr13.symm, rfl⟩) (fun μ11 hc10 h => ?_)
    refine e_SV [.ref 32, .int ((50 : Int32) * x1), .ref 30, .int (0 : Int32)] [] dX8_restore_55 rfl (by decide) rfl rfl (Nat.le_of_ble_eq_true rfl) (by omega) ⟨32, (50 : Int32) * x1, 30, (0 : Int32), rfl, (by decide), (by decide), hc10⟩ ?_
    refine e_aload_n dX8_restore_58 rfl ?_
    refine e_iconst dX8_restore_59 ci_0 ?_
    refine e_putI (ci := 6) (j := 2) dX8_restore_60 rfl (by decide) rfl rfl ?_
    refine e_naM (e := sI μ11 29 2 (0 : Int32)) h (fun μ14 eμ14 h => ?_)
    refine e_aload_n dX8_restore_63 rfl ?_
    refine cI_go h (fun E17 hc15 hr18 => e_VX [] [] dX8_restore_64 rfl rfl rfl rfl (by decide) (Nat.le_of_ble_eq_true rfl) (by omega) ⟨rfl, hc15⟩ rfl ⟨hr18.symm, rfl⟩) (fun v19 μ16 hc15 h => ?_)
    refine e_VI [] [] dX8_restore_64 rfl rfl rfl rfl (by decide) (Nat.le_of_ble_eq_true rfl) (by omega) ⟨rfl, hc15⟩ ?_
    exact e_iret .int dX8_restore_67 rfl rfl (ret_eq h)
  · rw [if_neg hc9] at h
    refine e_iconst dX8_restore_40 ci_0 ?_
    exact e_iret .int dX8_restore_41 rfl rfl (ret_eq h)
set_option maxHeartbeats 4000000 in
theorem b_X8_restore : ∀ as μ r μ', Γ_X8_restore as μ r μ' → (elvL as).length ≤ 2 ∧ G mX8_restore (Qe r μ') 0 (elv as 2) [] μ 0 := by
  intro as μ r μ' h
  obtain ⟨a0, rfl, h⟩ := h
  refine ⟨Nat.le_of_ble_eq_true rfl, ?_⟩
  show G mX8_restore (Qe r μ') 0 [some (.ref 29), some (.int a0)] [] μ 0
  unfold F_X8_restore at h
  have hb9 : 0 ≤ 0 := Nat.le_refl _
  refine e_aload_n dX8_restore_0 rfl ?_
  refine e_iload_n dX8_restore_1 rfl ?_
  refine e_iconst dX8_restore_2 ci_0 ?_
  refine e_iconst dX8_restore_3 ci_1 ?_
  refine cI_go h (fun E3 hc1 hr4 => e_SX [.int a0, .int (0 : Int32), .int (1 : Int32)] [.ref 29] dX8_restore_4 rfl (by decide) rfl rfl (Nat.le_of_ble_eq_true rfl) (by omega) ⟨a0, (0 : Int32), (1 : Int32), rfl, hc1⟩ rfl ⟨hr4.symm, rfl⟩) (fun v5 μ2 hc1 h => ?_)
  refine e_SI [.int a0, .int (0 : Int32), .int (1 : Int32)] [.ref 29] dX8_restore_4 rfl (by decide) rfl rfl (Nat.le_of_ble_eq_true rfl) (by omega) ⟨a0, (0 : Int32), (1 : Int32), rfl, hc1⟩ ?_
  refine e_if_ne (tgt := 14) dX8_restore_7 rfl (fun hc6 => ?_) (fun hc6 => ?_)
  · rw [if_neg hc6] at h
    refine e_aload_n dX8_restore_14 rfl ?_
    refine e_get (ci := 6) (j := 4) (t := 0) (v := .int (μ2.1 29 4)) dX8_restore_15 rfl (by decide) rfl rfl rfl ?_
    refine e_iload_n dX8_restore_18 rfl ?_
    refine e_ishr dX8_restore_19 ?_
    refine e_iconst dX8_restore_20 ci_1 ?_
    refine e_iand dX8_restore_21 ?_
    refine e_if_ne (tgt := 29) dX8_restore_22 rfl (fun hc7 => ?_) (fun hc7 => ?_)
    · rw [if_neg hc7] at h
      refine e_iconst dX8_restore_29 ci_0 ?_
      exact e_le (g_X8_restore_30 a0 (0 : Int32) μ2 _ (by omega) h) ⟨rfl, rfl, trivial⟩
    · rw [if_pos hc7] at h
      refine e_iconst dX8_restore_25 ci_2 ?_
      refine e_goto (tgt := 30) dX8_restore_26 rfl ?_
      exact e_le (g_X8_restore_30 a0 (2 : Int32) μ2 _ (by omega) h) ⟨rfl, rfl, trivial⟩
  · rw [if_pos hc6] at h
    refine e_iconst dX8_restore_10 ci_1 ?_
    refine e_goto (tgt := 30) dX8_restore_11 rfl ?_
    exact e_le (g_X8_restore_30 a0 (1 : Int32) μ2 _ (by omega) h) ⟨rfl, rfl, trivial⟩
set_option maxRecDepth 20000 in
theorem ok_X8_restore (l : Launch) (hl : l.stackTraces = false) : MOK l yX8_restore.cls 5 87 mX8_restore := ⟨lk_all (List.forall_mem_cons.mpr ⟨⟨yX8_copies, cX8_copies, 5, none, 1, 0, by decide, by decide, t_1 7 rfl rfl, hd_X8_copies, Or.inl ⟨rfl, sc_X8_copies l hl, t_5 207 rfl rfl, t_5 205 rfl rfl, t_5 206 rfl rfl⟩⟩, List.forall_mem_cons.mpr ⟨⟨yX8_in, cX8_in, 3, (some .boolean), 1, 0, by decide, by decide, t_1 7 rfl rfl, hd_X8_in, Or.inl ⟨rfl, sc_X8_in l hl, t_5 18 rfl rfl, t_5 16 rfl rfl, t_5 17 rfl rfl⟩⟩, List.forall_mem_cons.mpr ⟨⟨yX8_filledMany, cX8_filledMany, 3, (some .int), 4, 65, by decide, by decide, t_1 7 rfl rfl, hd_X8_filledMany, Or.inr (Or.inl ⟨rfl, sc_X8_filledMany l hl, t_5 77 rfl rfl, t_5 74 rfl rfl, t_5 76 rfl rfl, _, rfl, t_p 43 rfl⟩)⟩, nil_all⟩⟩⟩), fun ix ci j h => lk_all (P := fun ix q => FldOK yX8_restore.cls ix q.1 q.2) (List.forall_mem_cons.mpr ⟨⟨_, rfl, by decide, t_4 178 rfl rfl⟩, List.forall_mem_cons.mpr ⟨⟨_, rfl, by decide, t_4 181 rfl rfl⟩, List.forall_mem_cons.mpr ⟨⟨_, rfl, by decide, t_4 186 rfl rfl⟩, List.forall_mem_cons.mpr ⟨⟨_, rfl, by decide, t_4 180 rfl rfl⟩, List.forall_mem_cons.mpr ⟨⟨_, rfl, by decide, t_4 182 rfl rfl⟩, nil_all⟩⟩⟩⟩⟩) ix (ci, j) h, lk_all (nil_all), lk_all (nil_all), lk_all (nil_all)⟩
theorem hd_X8_restore : CallHd yX8_restore 1 := ⟨by decide +kernel, by decide +kernel, by decide +kernel⟩
theorem sc_X8_restore (l : Launch) (hl : l.stackTraces = false) : SCon l yX8_restore cX8_restore 2 (some .int) 5 87 0 Γ_X8_restore := scon_of mX8_restore cls_ok hl (by decide +kernel) rfl rfl (ok_X8_restore l hl) rfl rfl b_X8_restore
def f_X8_ten_4 : Nat → Int32 → Int64 → Int32 → Mem → Out
  | 0, _, _, _, _ => none
  | n + 1, x0, x1, x3, μ => if x0 ≤ x3 then (rJ x1 μ) else (lt ((10 : Int64) * x1) (fun v2 => lt (x3 + (1 : Int32)) (fun v3 => f_X8_ten_4 n x0 v2 v3 μ)))
def F_X8_ten (a0 : Int32) (μ : Mem) : Out := f_X8_ten_4 BIG a0 (1 : Int64) (0 : Int32) μ
def Γ_X8_ten : Gam := fun as μ r μ' => ∃ (a0 : Int32), as = [.int a0] ∧ F_X8_ten a0 μ = some (r, μ')
def mX8_ten : MI := (cX8_ten, [], [], [], [(258, 10)], [], [], none, (some .long))
set_option maxHeartbeats 4000000 in
theorem g_X8_ten_4 {r : Res} {μ' : Mem} : ∀ n : Nat, ∀ (x0 : Int32) (x1 : Int64) (x3 : Int32), ∀ (μ : Mem) (b : Nat), 0 ≤ b → f_X8_ten_4 n x0 x1 x3 μ = some (r, μ') → G mX8_ten (Qe r μ') 4 [some (.int x0), some (.long x1), none, some (.int x3)] [] μ b := by
  intro n
  induction n with
  | zero => intro x0 x1 x3 μ b hb9 h; exact nomatch (show (none : Out) = some _ from h)
  | succ n ih =>
    intro x0 x1 x3 μ b hb9 h
    rw [f_X8_ten_4.eq_2] at h
    refine e_iload_n dX8_ten_4 rfl ?_
    refine e_iload_n dX8_ten_5 rfl ?_
    refine e_ic_ge (tgt := 21) dX8_ten_6 rfl (fun hc1 => ?_) (fun hc1 => ?_)
    · rw [if_pos hc1] at h
      refine e_lload_n dX8_ten_21 rfl ?_
      exact e_lret dX8_ten_22 rfl (ret_eq h)
    · rw [if_neg hc1] at h
      refine e_ldc2 (v := (10 : Int64)) dX8_ten_9 rfl ?_
      refine e_lload_n dX8_ten_12 rfl ?_
      refine e_lmul dX8_ten_13 ?_
      refine e_naJ h (fun v2 ev2 h => ?_)
      refine e_lstore_nL [some (.int x0), some (.long v2), none, some (.int x3)] dX8_ten_14 (Nat.le_of_ble_eq_true rfl) rfl ?_
      refine e_iincN 3 (1 : Int32) dX8_ten_15 rfl ci_1 h (fun y9 => [some (.int x0), some (.long v2), none, some (.int y9)]) (fun _ => rfl) (fun v3 ev3 h => ?_)
      refine e_goto (tgt := 4) dX8_ten_18 rfl ?_
      exact e_le (ih x0 v2 v3 μ _ (by omega) h) ⟨rfl, rfl, rfl, trivial⟩
set_option maxHeartbeats 4000000 in
theorem b_X8_ten : ∀ as μ r μ', Γ_X8_ten as μ r μ' → (elvL as).length ≤ 4 ∧ G mX8_ten (Qe r μ') 0 (elv as 4) [] μ 0 := by
  intro as μ r μ' h
  obtain ⟨a0, rfl, h⟩ := h
  refine ⟨Nat.le_of_ble_eq_true rfl, ?_⟩
  show G mX8_ten (Qe r μ') 0 [some (.int a0), none, none, none] [] μ 0
  unfold F_X8_ten at h
  have hb9 : 0 ≤ 0 := Nat.le_refl _
  refine e_lconst (v := (1 : Int64)) dX8_ten_0 rfl ?_
  refine e_lstore_nL [some (.int a0), some (.long (1 : Int64)), none, none] dX8_ten_1 (Nat.le_of_ble_eq_true rfl) rfl ?_
  refine e_iconst dX8_ten_2 ci_0 ?_
  refine e_istore_nL [some (.int a0), some (.long (1 : Int64)), none, some (.int (0 : Int32))] dX8_ten_3 (Nat.le_of_ble_eq_true rfl) rfl ?_
  exact e_le (g_X8_ten_4 BIG a0 (1 : Int64) (0 : Int32) μ _ (by omega) h) ⟨rfl, rfl, rfl, trivial⟩
set_option maxRecDepth 20000 in
theorem ok_X8_ten (l : Launch) (hl : l.stackTraces = false) : MOK l yX8_ten.cls 1 0 mX8_ten := ⟨lk_all (nil_all), fun ix ci j h => lk_all (P := fun ix q => FldOK yX8_ten.cls ix q.1 q.2) (nil_all) ix (ci, j) h, lk_all (nil_all), lk_all (List.forall_mem_cons.mpr ⟨t_6 87 rfl rfl, nil_all⟩), lk_all (nil_all)⟩
theorem hd_X8_ten : CallHd yX8_ten 1 := ⟨by decide +kernel, by decide +kernel, by decide +kernel⟩
theorem sc_X8_ten (l : Launch) (hl : l.stackTraces = false) : SCon l yX8_ten cX8_ten 4 (some .long) 1 0 0 Γ_X8_ten := scon_of mX8_ten cls_ok hl (by decide +kernel) rfl rfl (ok_X8_ten l hl) rfl rfl b_X8_ten
def f_X8_runScript_121 (x4 : Int32) (μ : Mem) : Out := cV (F_X8_copies 33 (0 : Int32) 30 (0 : Int32) μ) (fun μ38 => rI x4 μ38)
def f_X8_runScript_64 : Nat → Int32 → Int64 → Int32 → Int32 → Mem → Out
  | 0, _, _, _, _, _ => none
  | n + 1, x1, x2, x4, x5, μ => if x1 ≤ x5 then (f_X8_runScript_121 x4 μ) else (if x4 = (-9 : Int32) then (cJ (F_X8_ten ((4 : Int32) * ((x1 - (1 : Int32)) - x5)) μ) (fun v26 μ23 => ck (¬ v26 = 0) (lt (Int64.toInt32 (remL (x2 / v26) (10000 : Int64))) (fun v28 => cI (F_X8_does v28 μ23) (fun v33 μ30 => if v33 = 0 then (lt (x5 + (1 : Int32)) (fun v35 => f_X8_runScript_64 n x1 x2 x5 v35 μ30)) else (lt (x5 + (1 : Int32)) (fun v36 => f_X8_runScript_64 n x1 x2 (-9 : Int32) v36 μ30))))))) else (f_X8_runScript_121 x4 μ))
def f_X8_runScript_32 (x1 : Int32) (x2 : Int64) (s0 : Int32) (μ : Mem) : Out := lt (sI μ 29 8 s0) (fun μ14 => if (μ14.1 29 8) = 0 then (cV (F_X8_copies 30 (0 : Int32) 33 (0 : Int32) μ14) (fun μ17 => f_X8_runScript_64 BIG x1 x2 (-9 : Int32) (0 : Int32) μ17)) else (rI (0 : Int32) μ14))
def F_X8_runScript (a0 : Int32) (a1 : Int64) (μ : Mem) : Out := cI (F_X8_in a0 (1 : Int32) (4 : Int32) μ) (fun v5 μ2 => if v5 = 0 then (f_X8_runScript_32 a0 a1 (1 : Int32) μ2) else (if (lg_cmp a1 (0 : Int64)) < 0 then (f_X8_runScript_32 a0 a1 (1 : Int32) μ2) else (cJ (F_X8_ten ((4 : Int32) * a0) μ2) (fun v12 μ9 => if (lg_cmp a1 v12) < 0 then (f_X8_runScript_32 a0 a1 (0 : Int32) μ9) else (f_X8_runScript_32 a0 a1 (1 : Int32) μ9)))))
def Γ_X8_runScript : Gam := fun as μ r μ' => ∃ (a0 : Int32) (a1 : Int64), as = [.ref 29, .int a0, .long a1] ∧ F_X8_runScript a0 a1 μ = some (r, μ')
def mX8_runScript : MI := (cX8_runScript, [(72, (0, 4, 0, 0, Γ_X8_copies)), (80, (0, 3, 0, 0, Γ_X8_in)), (260, (0, 1, 0, 0, Γ_X8_ten)), (266, (1, 1, 0, 6, Γ_X8_does))], [(7, 6, 0), (19, 6, 5), (65, 6, 8)], [], [(264, 10000)], [], [], none, (some .int))
set_option maxHeartbeats 4000000 in
theorem g_X8_runScript_121 {r : Res} {μ' : Mem} : ∀ (x4 : Int32), ∀ (μ : Mem) (b : Nat), 0 ≤ b → f_X8_runScript_121 x4 μ = some (r, μ') → G mX8_runScript (Qe r μ') 121 [some (.ref 29), none, none, none, some (.int x4), none, none] [] μ b := by
  intro x4 μ b hb9 h
  unfold f_X8_runScript_121 at h
  refine e_aload_n dX8_runScript_121 rfl ?_
  refine e_get (ci := 6) (j := 5) (t := 2) (v := .ref 33) dX8_runScript_122 rfl (by decide) rfl rfl rfl ?_
  refine e_iconst dX8_runScript_125 ci_0 ?_
  refine e_aload_n dX8_runScript_126 rfl ?_
  refine e_get (ci := 6) (j := 0) (t := 2) (v := .ref 30) dX8_runScript_127 rfl (by decide) rfl rfl rfl ?_
  refine e_iconst dX8_runScript_130 ci_0 ?_
  refine cV_go h (fun E39 hc37 hr40 => e_SX [.ref 33, .int (0 : Int32), .ref 30, .int (0 : Int32)] [] dX8_runScript_131 rfl (by decide) rfl rfl (Nat.le_of_ble_eq_true rfl) (by omega) ⟨33, (0 : Int32), 30, (0 : Int32), rfl, (by decide), (by decide), hc37⟩ rfl ⟨hr40.symm, rfl⟩) (fun μ38 hc37 h => ?_)
  refine e_SV [.ref 33, .int (0 : Int32), .ref 30, .int (0 : Int32)] [] dX8_runScript_131 rfl (by decide) rfl rfl (Nat.le_of_ble_eq_true rfl) (by omega) ⟨33, (0 : Int32), 30, (0 : Int32), rfl, (by decide), (by decide), hc37⟩ ?_
  refine e_iload dX8_runScript_134 rfl ?_
  exact e_iret .int dX8_runScript_136 rfl rfl (ret_eq h)
set_option maxHeartbeats 4000000 in
theorem g_X8_runScript_64 {r : Res} {μ' : Mem} : ∀ n : Nat, ∀ (x1 : Int32) (x2 : Int64) (x4 : Int32) (x5 : Int32), ∀ (μ : Mem) (b : Nat), 0 ≤ b → f_X8_runScript_64 n x1 x2 x4 x5 μ = some (r, μ') → G mX8_runScript (Qe r μ') 64 [some (.ref 29), some (.int x1), some (.long x2), none, some (.int x4), some (.int x5), none] [] μ b := by
  intro n
  induction n with
  | zero => intro x1 x2 x4 x5 μ b hb9 h; exact nomatch (show (none : Out) = some _ from h)
  | succ n ih =>
    intro x1 x2 x4 x5 μ b hb9 h
    rw [f_X8_runScript_64.eq_2] at h
    refine e_iload dX8_runScript_64 rfl ?_
    refine e_iload_n dX8_runScript_66 rfl ?_
    refine e_ic_ge (tgt := 121) dX8_runScript_67 rfl (fun hc20 => ?_) (fun hc20 => ?_)
    · rw [if_pos hc20] at h
      exact e_le (g_X8_runScript_121 x4 μ _ (by omega) h) ⟨rfl, rfl, trivial⟩
    · rw [if_neg hc20] at h
      refine e_iload dX8_runScript_70 rfl ?_
      refine e_bipush dX8_runScript_72 cb_m9 ?_
      refine e_ic_ne (tgt := 121) dX8_runScript_74 rfl (fun hc21 => ?_) (fun hc21 => ?_)
      · rw [if_neg hc21] at h
        exact e_le (g_X8_runScript_121 x4 μ _ (by omega) h) ⟨rfl, rfl, trivial⟩
      · rw [if_pos hc21] at h
        refine e_lload_n dX8_runScript_77 rfl ?_
        refine e_iconst dX8_runScript_78 ci_4 ?_
        refine e_iload_n dX8_runScript_79 rfl ?_
        refine e_iconst dX8_runScript_80 ci_1 ?_
        refine e_isub dX8_runScript_81 ?_
        refine e_iload dX8_runScript_82 rfl ?_
        refine e_isub dX8_runScript_84 ?_
        refine e_imul dX8_runScript_85 ?_
        refine cJ_go h (fun E24 hc22 hr25 => e_SX [.int ((4 : Int32) * ((x1 - (1 : Int32)) - x5))] [.long x2] dX8_runScript_86 rfl (by decide) rfl rfl (Nat.le_of_ble_eq_true rfl) (by omega) ⟨(4 : Int32) * ((x1 - (1 : Int32)) - x5), rfl, hc22⟩ rfl ⟨hr25.symm, rfl⟩) (fun v26 μ23 hc22 h => ?_)
        refine e_SJ [.int ((4 : Int32) * ((x1 - (1 : Int32)) - x5))] [.long x2] dX8_runScript_86 rfl (by decide) rfl rfl (Nat.le_of_ble_eq_true rfl) (by omega) ⟨(4 : Int32) * ((x1 - (1 : Int32)) - x5), rfl, hc22⟩ ?_
        obtain ⟨hc27, h⟩ := ck_eq h
        refine e_ldiv dX8_runScript_89 hc27 ?_
        refine e_ldc2 (v := (10000 : Int64)) dX8_runScript_90 rfl ?_
        refine e_lrem dX8_runScript_93 (by decide) ?_
        refine e_l2i dX8_runScript_94 ?_
        refine e_naI h (fun v28 ev28 h => ?_)
        refine e_istoreL [some (.ref 29), some (.int x1), some (.long x2), none, some (.int x4), some (.int x5), some (.int v28)] dX8_runScript_95 (Nat.le_of_ble_eq_true rfl) rfl ?_
        refine e_aload_n dX8_runScript_97 rfl ?_
        refine e_iload dX8_runScript_98 rfl ?_
        refine cI_go h (fun E31 hc29 hr32 => e_VX [.int v28] [] dX8_runScript_100 rfl rfl rfl rfl (by decide) (Nat.le_of_ble_eq_true rfl) (by omega) ⟨v28, rfl, hc29⟩ rfl ⟨hr32.symm, rfl⟩) (fun v33 μ30 hc29 h => ?_)
        refine e_VI [.int v28] [] dX8_runScript_100 rfl rfl rfl rfl (by decide) (Nat.le_of_ble_eq_true rfl) (by omega) ⟨v28, rfl, hc29⟩ ?_
        refine e_if_eq (tgt := 111) dX8_runScript_103 rfl (fun hc34 => ?_) (fun hc34 => ?_)
        · rw [if_pos hc34] at h
          refine e_iload dX8_runScript_111 rfl ?_
          refine e_istoreL [some (.ref 29), some (.int x1), some (.long x2), none, some (.int x5), some (.int x5), some (.int v28)] dX8_runScript_113 (Nat.le_of_ble_eq_true rfl) rfl ?_
          refine e_iincN 5 (1 : Int32) dX8_runScript_115 rfl ci_1 h (fun y9 => [some (.ref 29), some (.int x1), some (.long x2), none, some (.int x5), some (.int y9), some (.int v28)]) (fun _ => rfl) (fun v35 ev35 h => ?_)
          refine e_goto (tgt := 64) dX8_runScript_118 rfl ?_
          exact e_le (ih x1 x2 x5 v35 μ30 _ (by omega) h) ⟨rfl, rfl, rfl, rfl, rfl, trivial⟩
        · rw [if_neg hc34] at h
          refine e_bipush dX8_runScript_106 cb_m9 ?_
          refine e_goto (tgt := 113) dX8_runScript_108 rfl ?_
          refine e_istoreL [some (.ref 29), some (.int x1), some (.long x2), none, some (.int (-9 : Int32)), some (.int x5), some (.int v28)] dX8_runScript_113 (Nat.le_of_ble_eq_true rfl) rfl ?_
          refine e_iincN 5 (1 : Int32) dX8_runScript_115 rfl ci_1 h (fun y9 => [some (.ref 29), some (.int x1), some (.long x2), none, some (.int (-9 : Int32)), some (.int y9), some (.int v28)]) (fun _ => rfl) (fun v36 ev36 h => ?_)
          refine e_goto (tgt := 64) dX8_runScript_118 rfl ?_
          exact e_le (ih x1 x2 (-9 : Int32) v36 μ30 _ (by omega) h) ⟨rfl, rfl, rfl, rfl, rfl, trivial⟩
set_option maxHeartbeats 4000000 in
theorem g_X8_runScript_32 {r : Res} {μ' : Mem} : ∀ (x1 : Int32) (x2 : Int64) (s0 : Int32), ∀ (μ : Mem) (b : Nat), 0 ≤ b → f_X8_runScript_32 x1 x2 s0 μ = some (r, μ') → G mX8_runScript (Qe r μ') 32 [some (.ref 29), some (.int x1), some (.long x2), none, none, none, none] [.int s0, .ref 29] μ b := by
  intro x1 x2 s0 μ b hb9 h
  unfold f_X8_runScript_32 at h
  refine e_putI (ci := 6) (j := 8) dX8_runScript_32 rfl (by decide) rfl rfl ?_
  refine e_naM (e := sI μ 29 8 s0) h (fun μ14 eμ14 h => ?_)
  refine e_aload_n dX8_runScript_35 rfl ?_
  refine e_get (ci := 6) (j := 8) (t := 0) (v := .int (μ14.1 29 8)) dX8_runScript_36 rfl (by decide) rfl rfl rfl ?_
  refine e_if_eq (tgt := 44) dX8_runScript_39 rfl (fun hc15 => ?_) (fun hc15 => ?_)
  · rw [if_pos hc15] at h
    refine e_aload_n dX8_runScript_44 rfl ?_
    refine e_get (ci := 6) (j := 0) (t := 2) (v := .ref 30) dX8_runScript_45 rfl (by decide) rfl rfl rfl ?_
    refine e_iconst dX8_runScript_48 ci_0 ?_
    refine e_aload_n dX8_runScript_49 rfl ?_
    refine e_get (ci := 6) (j := 5) (t := 2) (v := .ref 33) dX8_runScript_50 rfl (by decide) rfl rfl rfl ?_
    refine e_iconst dX8_runScript_53 ci_0 ?_
    refine cV_go h (fun E18 hc16 hr19 => e_SX [.ref 30, .int (0 : Int32), .ref 33, .int (0 : Int32)] [] dX8_runScript_54 rfl (by decide) rfl rfl (Nat.le_of_ble_eq_true rfl) (by omega) ⟨30, (0 : Int32), 33, (0 : Int32), rfl, (by decide), (by decide), hc16⟩ rfl ⟨hr19.symm, rfl⟩) (fun μ17 hc16 h => ?_)
    refine e_SV [.ref 30, .int (0 : Int32), .ref 33, .int (0 : Int32)] [] dX8_runScript_54 rfl (by decide) rfl rfl (Nat.le_of_ble_eq_true rfl) (by omega) ⟨30, (0 : Int32), 33, (0 : Int32), rfl, (by decide), (by decide), hc16⟩ ?_
    refine e_bipush dX8_runScript_57 cb_m9 ?_
    refine e_istoreL [some (.ref 29), some (.int x1), some (.long x2), none, some (.int (-9 : Int32)), none, none] dX8_runScript_59 (Nat.le_of_ble_eq_true rfl) rfl ?_
    refine e_iconst dX8_runScript_61 ci_0 ?_
    refine e_istoreL [some (.ref 29), some (.int x1), some (.long x2), none, some (.int (-9 : Int32)), some (.int (0 : Int32)), none] dX8_runScript_62 (Nat.le_of_ble_eq_true rfl) rfl ?_
    exact e_le (g_X8_runScript_64 BIG x1 x2 (-9 : Int32) (0 : Int32) μ17 _ (by omega) h) ⟨rfl, rfl, rfl, rfl, rfl, trivial⟩
  · rw [if_neg hc15] at h
    refine e_iconst dX8_runScript_42 ci_0 ?_
    exact e_iret .int dX8_runScript_43 rfl rfl (ret_eq h)
set_option maxHeartbeats 4000000 in
theorem b_X8_runScript : ∀ as μ r μ', Γ_X8_runScript as μ r μ' → (elvL as).length ≤ 7 ∧ G mX8_runScript (Qe r μ') 0 (elv as 7) [] μ 0 := by
  intro as μ r μ' h
  obtain ⟨a0, a1, rfl, h⟩ := h
  refine ⟨Nat.le_of_ble_eq_true rfl, ?_⟩
  show G mX8_runScript (Qe r μ') 0 [some (.ref 29), some (.int a0), some (.long a1), none, none, none, none] [] μ 0
  unfold F_X8_runScript at h
  have hb9 : 0 ≤ 0 := Nat.le_refl _
  refine e_aload_n dX8_runScript_0 rfl ?_
  refine e_iload_n dX8_runScript_1 rfl ?_
  refine e_iconst dX8_runScript_2 ci_1 ?_
  refine e_iconst dX8_runScript_3 ci_4 ?_
  refine cI_go h (fun E3 hc1 hr4 => e_SX [.int a0, .int (1 : Int32), .int (4 : Int32)] [.ref 29] dX8_runScript_4 rfl (by decide) rfl rfl (Nat.le_of_ble_eq_true rfl) (by omega) ⟨a0, (1 : Int32), (4 : Int32), rfl, hc1⟩ rfl ⟨hr4.symm, rfl⟩) (fun v5 μ2 hc1 h => ?_)
  refine e_SI [.int a0, .int (1 : Int32), .int (4 : Int32)] [.ref 29] dX8_runScript_4 rfl (by decide) rfl rfl (Nat.le_of_ble_eq_true rfl) (by omega) ⟨a0, (1 : Int32), (4 : Int32), rfl, hc1⟩ ?_
  refine e_if_eq (tgt := 27) dX8_runScript_7 rfl (fun hc6 => ?_) (fun hc6 => ?_)
  · rw [if_pos hc6] at h
    refine e_iconst dX8_runScript_27 ci_1 ?_
    refine e_goto (tgt := 32) dX8_runScript_28 rfl ?_
    exact e_le (g_X8_runScript_32 a0 a1 (1 : Int32) μ2 _ (by omega) h) ⟨rfl, rfl, rfl, trivial⟩
  · rw [if_neg hc6] at h
    refine e_lload_n dX8_runScript_10 rfl ?_
    refine e_lconst (v := (0 : Int64)) dX8_runScript_11 rfl ?_
    refine e_lcmp dX8_runScript_12 ?_
    refine e_if_lt (tgt := 27) dX8_runScript_13 rfl (fun hc7 => ?_) (fun hc7 => ?_)
    · rw [if_pos hc7] at h
      refine e_iconst dX8_runScript_27 ci_1 ?_
      refine e_goto (tgt := 32) dX8_runScript_28 rfl ?_
      exact e_le (g_X8_runScript_32 a0 a1 (1 : Int32) μ2 _ (by omega) h) ⟨rfl, rfl, rfl, trivial⟩
    · rw [if_neg hc7] at h
      refine e_lload_n dX8_runScript_16 rfl ?_
      refine e_iconst dX8_runScript_17 ci_4 ?_
      refine e_iload_n dX8_runScript_18 rfl ?_
      refine e_imul dX8_runScript_19 ?_
      refine cJ_go h (fun E10 hc8 hr11 => e_SX [.int ((4 : Int32) * a0)] [.long a1, .ref 29] dX8_runScript_20 rfl (by decide) rfl rfl (Nat.le_of_ble_eq_true rfl) (by omega) ⟨(4 : Int32) * a0, rfl, hc8⟩ rfl ⟨hr11.symm, rfl⟩) (fun v12 μ9 hc8 h => ?_)
      refine e_SJ [.int ((4 : Int32) * a0)] [.long a1, .ref 29] dX8_runScript_20 rfl (by decide) rfl rfl (Nat.le_of_ble_eq_true rfl) (by omega) ⟨(4 : Int32) * a0, rfl, hc8⟩ ?_
      refine e_lcmp dX8_runScript_23 ?_
      refine e_if_lt (tgt := 31) dX8_runScript_24 rfl (fun hc13 => ?_) (fun hc13 => ?_)
      · rw [if_pos hc13] at h
        refine e_iconst dX8_runScript_31 ci_0 ?_
        exact e_le (g_X8_runScript_32 a0 a1 (0 : Int32) μ9 _ (by omega) h) ⟨rfl, rfl, rfl, trivial⟩
      · rw [if_neg hc13] at h
        refine e_iconst dX8_runScript_27 ci_1 ?_
        refine e_goto (tgt := 32) dX8_runScript_28 rfl ?_
        exact e_le (g_X8_runScript_32 a0 a1 (1 : Int32) μ9 _ (by omega) h) ⟨rfl, rfl, rfl, trivial⟩
set_option maxRecDepth 20000 in
theorem ok_X8_runScript (l : Launch) (hl : l.stackTraces = false) : MOK l yX8_runScript.cls 10 214 mX8_runScript := ⟨lk_all (List.forall_mem_cons.mpr ⟨⟨yX8_copies, cX8_copies, 5, none, 1, 0, by decide, by decide, t_1 7 rfl rfl, hd_X8_copies, Or.inl ⟨rfl, sc_X8_copies l hl, t_5 207 rfl rfl, t_5 205 rfl rfl, t_5 206 rfl rfl⟩⟩, List.forall_mem_cons.mpr ⟨⟨yX8_in, cX8_in, 3, (some .boolean), 1, 0, by decide, by decide, t_1 7 rfl rfl, hd_X8_in, Or.inl ⟨rfl, sc_X8_in l hl, t_5 18 rfl rfl, t_5 16 rfl rfl, t_5 17 rfl rfl⟩⟩, List.forall_mem_cons.mpr ⟨⟨yX8_ten, cX8_ten, 4, (some .long), 1, 0, by decide, by decide, t_1 7 rfl rfl, hd_X8_ten, Or.inl ⟨rfl, sc_X8_ten l hl, t_6 86 rfl rfl, t_6 84 rfl rfl, t_6 85 rfl rfl⟩⟩, List.forall_mem_cons.mpr ⟨⟨yX8_does, cX8_does, 9, (some .boolean), 9, 186, by decide, by decide, t_1 7 rfl rfl, hd_X8_does, Or.inr (Or.inl ⟨rfl, sc_X8_does l hl, t_6 92 rfl rfl, t_6 89 rfl rfl, t_6 91 rfl rfl, _, rfl, t_p 82 rfl⟩)⟩, nil_all⟩⟩⟩⟩), fun ix ci j h => lk_all (P := fun ix q => FldOK yX8_runScript.cls ix q.1 q.2) (List.forall_mem_cons.mpr ⟨⟨_, rfl, by decide, t_4 178 rfl rfl⟩, List.forall_mem_cons.mpr ⟨⟨_, rfl, by decide, t_4 183 rfl rfl⟩, List.forall_mem_cons.mpr ⟨⟨_, rfl, by decide, t_4 186 rfl rfl⟩, nil_all⟩⟩⟩) ix (ci, j) h, lk_all (nil_all), lk_all (List.forall_mem_cons.mpr ⟨t_6 88 rfl rfl, nil_all⟩), lk_all (nil_all)⟩
theorem hd_X8_runScript : CallHd yX8_runScript 2 := ⟨by decide +kernel, by decide +kernel, by decide +kernel⟩
theorem sc_X8_runScript (l : Launch) (hl : l.stackTraces = false) : SCon l yX8_runScript cX8_runScript 7 (some .int) 10 214 0 Γ_X8_runScript := scon_of mX8_runScript cls_ok hl (by decide +kernel) rfl rfl (ok_X8_runScript l hl) rfl rfl b_X8_runScript
def f_X8_save_15 (x1 : Int32) (s0 : Int32) (μ : Mem) : Out := lt (sI μ 29 8 s0) (fun μ7 => if (μ7.1 29 8) = 0 then (cV (F_X8_copies 30 (0 : Int32) 32 ((50 : Int32) * x1) μ7) (fun μ10 => lt (sI μ10 29 4 ((μ10.1 29 4) ||| (shlI (1 : Int32) x1))) (fun μ13 => cI (F_X8_filledMany μ13) (fun v18 μ15 => rI v18 μ15)))) else (rI (0 : Int32) μ7))
def F_X8_save (a0 : Int32) (μ : Mem) : Out := cI (F_X8_in a0 (0 : Int32) (1 : Int32) μ) (fun v5 μ2 => if v5 = 0 then (f_X8_save_15 a0 (1 : Int32) μ2) else (f_X8_save_15 a0 (0 : Int32) μ2))
def Γ_X8_save : Gam := fun as μ r μ' => ∃ (a0 : Int32), as = [.ref 29, .int a0] ∧ F_X8_save a0 μ = some (r, μ')
def mX8_save : MI := (cX8_save, [(72, (0, 4, 0, 0, Γ_X8_copies)), (80, (0, 3, 0, 0, Γ_X8_in)), (124, (1, 0, 0, 6, Γ_X8_filledMany))], [(7, 6, 0), (16, 6, 3), (65, 6, 8), (121, 6, 4)], [], [], [], [], none, (some .int))
set_option maxHeartbeats 4000000 in
theorem g_X8_save_15 {r : Res} {μ' : Mem} : ∀ (x1 : Int32) (s0 : Int32), ∀ (μ : Mem) (b : Nat), 0 ≤ b → f_X8_save_15 x1 s0 μ = some (r, μ') → G mX8_save (Qe r μ') 15 [some (.ref 29), some (.int x1)] [.int s0, .ref 29] μ b := by
  intro x1 s0 μ b hb9 h
  unfold f_X8_save_15 at h
  refine e_putI (ci := 6) (j := 8) dX8_save_15 rfl (by decide) rfl rfl ?_
  refine e_naM (e := sI μ 29 8 s0) h (fun μ7 eμ7 h => ?_)
  refine e_aload_n dX8_save_18 rfl ?_
  refine e_get (ci := 6) (j := 8) (t := 0) (v := .int (μ7.1 29 8)) dX8_save_19 rfl (by decide) rfl rfl rfl ?_
  refine e_if_eq (tgt := 27) dX8_save_22 rfl (fun hc8 => ?_) (fun hc8 => ?_)
  · rw [if_pos hc8] at h
    refine e_aload_n dX8_save_27 rfl ?_
    refine e_get (ci := 6) (j := 0) (t := 2) (v := .ref 30) dX8_save_28 rfl (by decide) rfl rfl rfl ?_
    refine e_iconst dX8_save_31 ci_0 ?_
    refine e_aload_n dX8_save_32 rfl ?_
    refine e_get (ci := 6) (j := 3) (t := 2) (v := .ref 32) dX8_save_33 rfl (by decide) rfl rfl rfl ?_
    refine e_bipush dX8_save_36 cb_50 ?_
    refine e_iload_n dX8_save_38 rfl ?_
    refine e_imul dX8_save_39 ?_
    refine cV_go h (fun E11 hc9 hr12 => e_SX [.ref 30, .int (0 : Int32), .ref 32, .int ((50 : Int32) * x1)] [] dX8_save_40 rfl (by decide) rfl rfl (Nat.le_of_ble_eq_true rfl) (by omega) ⟨30, (0 : Int32), 32, (50 : Int32) * x1, rfl, (by decide), (by decide), hc9⟩ rfl ⟨hr12.symm, rfl⟩) (fun μ10 hc9 h => ?_)
    refine e_SV [.ref 30, .int (0 : Int32), .ref 32, .int ((50 : Int32) * x1)] [] dX8_save_40 rfl (by decide) rfl rfl (Nat.le_of_ble_eq_true rfl) (by omega) ⟨30, (0 : Int32), 32, (50 : Int32) * x1, rfl, (by decide), (by decide), hc9⟩ ?_
    refine e_aload_n dX8_save_43 rfl ?_
    refine e_dup dX8_save_44 rfl ?_
    refine e_get (ci := 6) (j := 4) (t := 0) (v := .int (μ10.1 29 4)) dX8_save_45 rfl (by decide) rfl rfl rfl ?_
    refine e_iconst dX8_save_48 ci_1 ?_
    refine e_iload_n dX8_save_49 rfl ?_
    refine e_ishl dX8_save_50 ?_
    refine e_ior dX8_save_51 ?_
    refine e_putI (ci := 6) (j := 4) dX8_save_52 rfl (by decide) rfl rfl ?_
    refine e_naM (e := sI μ10 29 4 ((μ10.1 29 4) ||| (shlI (1 : Int32) x1))) h (fun μ13 eμ13 h => ?_)
    refine e_aload_n dX8_save_55 rfl ?_
    refine cI_go h (fun E16 hc14 hr17 => e_VX [] [] dX8_save_56 rfl rfl rfl rfl (by decide) (Nat.le_of_ble_eq_true rfl) (by omega) ⟨rfl, hc14⟩ rfl ⟨hr17.symm, rfl⟩) (fun v18 μ15 hc14 h => ?_)
    refine e_VI [] [] dX8_save_56 rfl rfl rfl rfl (by decide) (Nat.le_of_ble_eq_true rfl) (by omega) ⟨rfl, hc14⟩ ?_
    exact e_iret .int dX8_save_59 rfl rfl (ret_eq h)
  · rw [if_neg hc8] at h
    refine e_iconst dX8_save_25 ci_0 ?_
    exact e_iret .int dX8_save_26 rfl rfl (ret_eq h)
set_option maxHeartbeats 4000000 in
theorem b_X8_save : ∀ as μ r μ', Γ_X8_save as μ r μ' → (elvL as).length ≤ 2 ∧ G mX8_save (Qe r μ') 0 (elv as 2) [] μ 0 := by
  intro as μ r μ' h
  obtain ⟨a0, rfl, h⟩ := h
  refine ⟨Nat.le_of_ble_eq_true rfl, ?_⟩
  show G mX8_save (Qe r μ') 0 [some (.ref 29), some (.int a0)] [] μ 0
  unfold F_X8_save at h
  have hb9 : 0 ≤ 0 := Nat.le_refl _
  refine e_aload_n dX8_save_0 rfl ?_
  refine e_iload_n dX8_save_1 rfl ?_
  refine e_iconst dX8_save_2 ci_0 ?_
  refine e_iconst dX8_save_3 ci_1 ?_
  refine cI_go h (fun E3 hc1 hr4 => e_SX [.int a0, .int (0 : Int32), .int (1 : Int32)] [.ref 29] dX8_save_4 rfl (by decide) rfl rfl (Nat.le_of_ble_eq_true rfl) (by omega) ⟨a0, (0 : Int32), (1 : Int32), rfl, hc1⟩ rfl ⟨hr4.symm, rfl⟩) (fun v5 μ2 hc1 h => ?_)
  refine e_SI [.int a0, .int (0 : Int32), .int (1 : Int32)] [.ref 29] dX8_save_4 rfl (by decide) rfl rfl (Nat.le_of_ble_eq_true rfl) (by omega) ⟨a0, (0 : Int32), (1 : Int32), rfl, hc1⟩ ?_
  refine e_if_ne (tgt := 14) dX8_save_7 rfl (fun hc6 => ?_) (fun hc6 => ?_)
  · rw [if_neg hc6] at h
    refine e_iconst dX8_save_14 ci_0 ?_
    exact e_le (g_X8_save_15 a0 (0 : Int32) μ2 _ (by omega) h) ⟨rfl, rfl, trivial⟩
  · rw [if_pos hc6] at h
    refine e_iconst dX8_save_10 ci_1 ?_
    refine e_goto (tgt := 15) dX8_save_11 rfl ?_
    exact e_le (g_X8_save_15 a0 (1 : Int32) μ2 _ (by omega) h) ⟨rfl, rfl, trivial⟩
set_option maxRecDepth 20000 in
theorem ok_X8_save (l : Launch) (hl : l.stackTraces = false) : MOK l yX8_save.cls 5 87 mX8_save := ⟨lk_all (List.forall_mem_cons.mpr ⟨⟨yX8_copies, cX8_copies, 5, none, 1, 0, by decide, by decide, t_1 7 rfl rfl, hd_X8_copies, Or.inl ⟨rfl, sc_X8_copies l hl, t_5 207 rfl rfl, t_5 205 rfl rfl, t_5 206 rfl rfl⟩⟩, List.forall_mem_cons.mpr ⟨⟨yX8_in, cX8_in, 3, (some .boolean), 1, 0, by decide, by decide, t_1 7 rfl rfl, hd_X8_in, Or.inl ⟨rfl, sc_X8_in l hl, t_5 18 rfl rfl, t_5 16 rfl rfl, t_5 17 rfl rfl⟩⟩, List.forall_mem_cons.mpr ⟨⟨yX8_filledMany, cX8_filledMany, 3, (some .int), 4, 65, by decide, by decide, t_1 7 rfl rfl, hd_X8_filledMany, Or.inr (Or.inl ⟨rfl, sc_X8_filledMany l hl, t_5 77 rfl rfl, t_5 74 rfl rfl, t_5 76 rfl rfl, _, rfl, t_p 43 rfl⟩)⟩, nil_all⟩⟩⟩), fun ix ci j h => lk_all (P := fun ix q => FldOK yX8_save.cls ix q.1 q.2) (List.forall_mem_cons.mpr ⟨⟨_, rfl, by decide, t_4 178 rfl rfl⟩, List.forall_mem_cons.mpr ⟨⟨_, rfl, by decide, t_4 181 rfl rfl⟩, List.forall_mem_cons.mpr ⟨⟨_, rfl, by decide, t_4 186 rfl rfl⟩, List.forall_mem_cons.mpr ⟨⟨_, rfl, by decide, t_4 182 rfl rfl⟩, nil_all⟩⟩⟩⟩) ix (ci, j) h, lk_all (nil_all), lk_all (nil_all), lk_all (nil_all)⟩
theorem hd_X8_save : CallHd yX8_save 1 := ⟨by decide +kernel, by decide +kernel, by decide +kernel⟩
theorem sc_X8_save (l : Launch) (hl : l.stackTraces = false) : SCon l yX8_save cX8_save 2 (some .int) 5 87 0 Γ_X8_save := scon_of mX8_save cls_ok hl (by decide +kernel) rfl rfl (ok_X8_save l hl) rfl rfl b_X8_save
def f_X8_simulate_47 : Nat → Int32 → Int64 → Int32 → Mem → Out
  | 0, _, _, _, _ => none
  | n + 1, x3, x4, x6, μ => if x3 ≤ x6 then (cI (F_X8_laysPieces μ) (fun v18 μ15 => cI (F_X8_outline μ15) (fun v23 μ20 => lt (((100 : Int32) * v18) + v23) (fun v24 => cV (F_X8_copies 33 (0 : Int32) 30 (0 : Int32) μ20) (fun μ26 => rI v24 μ26))))) else (lt ((x4 * (6364136223846793005 : Int64)) + (1442695040888963407 : Int64)) (fun v29 => cI (F_X8_exchangeOf (-9 : Int32) μ) (fun v34 μ31 => if v34 ≤ 0 then (lt (x6 + (1 : Int32)) (fun v36 => f_X8_simulate_47 n x3 v29 v36 μ31)) else (ck (¬ v34 = 0) (cI (F_X8_exchangeOf (remI (Int64.toInt32 (ushrL v29 (33 : Int32))) v34) μ31) (fun v42 μ39 => cV (F_X8_turnsTold v42 μ39) (fun μ44 => lt (x6 + (1 : Int32)) (fun v47 => f_X8_simulate_47 n x3 v29 v47 μ44))))))))
def f_X8_simulate_16 (x1 : Int64) (x3 : Int32) (s0 : Int32) (μ : Mem) : Out := lt (sI μ 29 8 s0) (fun μ7 => if (μ7.1 29 8) = 0 then (cV (F_X8_copies 30 (0 : Int32) 33 (0 : Int32) μ7) (fun μ10 => f_X8_simulate_47 BIG x3 x1 (0 : Int32) μ10)) else (rI (0 : Int32) μ7))
def F_X8_simulate (a0 : Int64) (a1 : Int32) (μ : Mem) : Out := cI (F_X8_in a1 (1 : Int32) (99 : Int32) μ) (fun v5 μ2 => if v5 = 0 then (f_X8_simulate_16 a0 a1 (1 : Int32) μ2) else (f_X8_simulate_16 a0 a1 (0 : Int32) μ2))
def Γ_X8_simulate : Gam := fun as μ r μ' => ∃ (a0 : Int64) (a1 : Int32), as = [.ref 29, .long a0, .int a1] ∧ F_X8_simulate a0 a1 μ = some (r, μ')
def mX8_simulate : MI := (cX8_simulate, [(72, (0, 4, 0, 0, Γ_X8_copies)), (80, (0, 3, 0, 0, Γ_X8_in)), (202, (1, 0, 0, 6, Γ_X8_laysPieces)), (205, (1, 0, 0, 6, Γ_X8_outline)), (211, (1, 1, 0, 6, Γ_X8_exchangeOf)), (251, (1, 1, 0, 6, Γ_X8_turnsTold))], [(7, 6, 0), (19, 6, 5), (65, 6, 8)], [], [(269, 6364136223846793005), (271, 1442695040888963407)], [], [], none, (some .int))
set_option maxHeartbeats 4000000 in
theorem g_X8_simulate_47 {r : Res} {μ' : Mem} : ∀ n : Nat, ∀ (x3 : Int32) (x4 : Int64) (x6 : Int32), ∀ (μ : Mem) (b : Nat), 0 ≤ b → f_X8_simulate_47 n x3 x4 x6 μ = some (r, μ') → G mX8_simulate (Qe r μ') 47 [some (.ref 29), none, none, some (.int x3), some (.long x4), none, some (.int x6), none] [] μ b := by
  intro n
  induction n with
  | zero => intro x3 x4 x6 μ b hb9 h; exact nomatch (show (none : Out) = some _ from h)
  | succ n ih =>
    intro x3 x4 x6 μ b hb9 h
    rw [f_X8_simulate_47.eq_2] at h
    refine e_iload dX8_simulate_47 rfl ?_
    refine e_iload_n dX8_simulate_49 rfl ?_
    refine e_ic_ge (tgt := 101) dX8_simulate_50 rfl (fun hc13 => ?_) (fun hc13 => ?_)
    · rw [if_pos hc13] at h
      refine e_bipush dX8_simulate_101 cb_100 ?_
      refine e_aload_n dX8_simulate_103 rfl ?_
      refine cI_go h (fun E16 hc14 hr17 => e_VX [] [.int (100 : Int32)] dX8_simulate_104 rfl rfl rfl rfl (by decide) (Nat.le_of_ble_eq_true rfl) (by omega) ⟨rfl, hc14⟩ rfl ⟨hr17.symm, rfl⟩) (fun v18 μ15 hc14 h => ?_)
      refine e_VI [] [.int (100 : Int32)] dX8_simulate_104 rfl rfl rfl rfl (by decide) (Nat.le_of_ble_eq_true rfl) (by omega) ⟨rfl, hc14⟩ ?_
      refine e_imul dX8_simulate_107 ?_
      refine e_aload_n dX8_simulate_108 rfl ?_
      refine cI_go h (fun E21 hc19 hr22 => e_VX [] [.int ((100 : Int32) * v18)] dX8_simulate_109 rfl rfl rfl rfl (by decide) (Nat.le_of_ble_eq_true rfl) (by omega) ⟨rfl, hc19⟩ rfl ⟨hr22.symm, rfl⟩) (fun v23 μ20 hc19 h => ?_)
      refine e_VI [] [.int ((100 : Int32) * v18)] dX8_simulate_109 rfl rfl rfl rfl (by decide) (Nat.le_of_ble_eq_true rfl) (by omega) ⟨rfl, hc19⟩ ?_
      refine e_iadd dX8_simulate_112 ?_
      refine e_naI h (fun v24 ev24 h => ?_)
      refine e_istoreL [some (.ref 29), none, none, some (.int x3), some (.long x4), none, some (.int v24), none] dX8_simulate_113 (Nat.le_of_ble_eq_true rfl) rfl ?_
      refine e_aload_n dX8_simulate_115 rfl ?_
      refine e_get (ci := 6) (j := 5) (t := 2) (v := .ref 33) dX8_simulate_116 rfl (by decide) rfl rfl rfl ?_
      refine e_iconst dX8_simulate_119 ci_0 ?_
      refine e_aload_n dX8_simulate_120 rfl ?_
      refine e_get (ci := 6) (j := 0) (t := 2) (v := .ref 30) dX8_simulate_121 rfl (by decide) rfl rfl rfl ?_
      refine e_iconst dX8_simulate_124 ci_0 ?_
      refine cV_go h (fun E27 hc25 hr28 => e_SX [.ref 33, .int (0 : Int32), .ref 30, .int (0 : Int32)] [] dX8_simulate_125 rfl (by decide) rfl rfl (Nat.le_of_ble_eq_true rfl) (by omega) ⟨33, (0 : Int32), 30, (0 : Int32), rfl, (by decide), (by decide), hc25⟩ rfl ⟨hr28.symm, rfl⟩) (fun μ26 hc25 h => ?_)
      refine e_SV [.ref 33, .int (0 : Int32), .ref 30, .int (0 : Int32)] [] dX8_simulate_125 rfl (by decide) rfl rfl (Nat.le_of_ble_eq_true rfl) (by omega) ⟨33, (0 : Int32), 30, (0 : Int32), rfl, (by decide), (by decide), hc25⟩ ?_
      refine e_iload dX8_simulate_128 rfl ?_
      exact e_iret .int dX8_simulate_130 rfl rfl (ret_eq h)
    · rw [if_neg hc13] at h
      refine e_lload dX8_simulate_53 rfl ?_
      refine e_ldc2 (v := (6364136223846793005 : Int64)) dX8_simulate_55 rfl ?_
      refine e_lmul dX8_simulate_58 ?_
      refine e_ldc2 (v := (1442695040888963407 : Int64)) dX8_simulate_59 rfl ?_
      refine e_ladd dX8_simulate_62 ?_
      refine e_naJ h (fun v29 ev29 h => ?_)
      refine e_lstoreL [some (.ref 29), none, none, some (.int x3), some (.long v29), none, some (.int x6), none] dX8_simulate_63 (Nat.le_of_ble_eq_true rfl) rfl ?_
      refine e_aload_n dX8_simulate_65 rfl ?_
      refine e_bipush dX8_simulate_66 cb_m9 ?_
      refine cI_go h (fun E32 hc30 hr33 => e_VX [.int (-9 : Int32)] [] dX8_simulate_68 rfl rfl rfl rfl (by decide) (Nat.le_of_ble_eq_true rfl) (by omega) ⟨(-9 : Int32), rfl, hc30⟩ rfl ⟨hr33.symm, rfl⟩) (fun v34 μ31 hc30 h => ?_)
      refine e_VI [.int (-9 : Int32)] [] dX8_simulate_68 rfl rfl rfl rfl (by decide) (Nat.le_of_ble_eq_true rfl) (by omega) ⟨(-9 : Int32), rfl, hc30⟩ ?_
      refine e_istoreL [some (.ref 29), none, none, some (.int x3), some (.long v29), none, some (.int x6), some (.int v34)] dX8_simulate_71 (Nat.le_of_ble_eq_true rfl) rfl ?_
      refine e_iload dX8_simulate_73 rfl ?_
      refine e_if_le (tgt := 95) dX8_simulate_75 rfl (fun hc35 => ?_) (fun hc35 => ?_)
      · rw [if_pos hc35] at h
        refine e_iincN 6 (1 : Int32) dX8_simulate_95 rfl ci_1 h (fun y9 => [some (.ref 29), none, none, some (.int x3), some (.long v29), none, some (.int y9), some (.int v34)]) (fun _ => rfl) (fun v36 ev36 h => ?_)
        refine e_goto (tgt := 47) dX8_simulate_98 rfl ?_
        exact e_le (ih x3 v29 v36 μ31 _ (by omega) h) ⟨rfl, rfl, rfl, rfl, trivial⟩
      · rw [if_neg hc35] at h
        refine e_aload_n dX8_simulate_78 rfl ?_
        refine e_aload_n dX8_simulate_79 rfl ?_
        refine e_lload dX8_simulate_80 rfl ?_
        refine e_bipush dX8_simulate_82 cb_33 ?_
        refine e_lushr dX8_simulate_84 ?_
        refine e_l2i dX8_simulate_85 ?_
        refine e_iload dX8_simulate_86 rfl ?_
        obtain ⟨hc37, h⟩ := ck_eq h
        refine e_irem dX8_simulate_88 hc37 ?_
        refine cI_go h (fun E40 hc38 hr41 => e_VX [.int (remI (Int64.toInt32 (ushrL v29 (33 : Int32))) v34)] [.ref 29] dX8_simulate_89 rfl rfl rfl rfl (by decide) (Nat.le_of_ble_eq_true rfl) (by omega) ⟨remI (Int64.toInt32 (ushrL v29 (33 : Int32))) v34, rfl, hc38⟩ rfl ⟨hr41.symm, rfl⟩) (fun v42 μ39 hc38 h => ?_)
        refine e_VI [.int (remI (Int64.toInt32 (ushrL v29 (33 : Int32))) v34)] [.ref 29] dX8_simulate_89 rfl rfl rfl rfl (by decide) (Nat.le_of_ble_eq_true rfl) (by omega) ⟨remI (Int64.toInt32 (ushrL v29 (33 : Int32))) v34, rfl, hc38⟩ ?_
        refine cV_go h (fun E45 hc43 hr46 => e_VX [.int v42] [] dX8_simulate_92 rfl rfl rfl rfl (by decide) (Nat.le_of_ble_eq_true rfl) (by omega) ⟨v42, rfl, hc43⟩ rfl ⟨hr46.symm, rfl⟩) (fun μ44 hc43 h => ?_)
        refine e_VV [.int v42] [] dX8_simulate_92 rfl rfl rfl rfl (by decide) (Nat.le_of_ble_eq_true rfl) (by omega) ⟨v42, rfl, hc43⟩ ?_
        refine e_iincN 6 (1 : Int32) dX8_simulate_95 rfl ci_1 h (fun y9 => [some (.ref 29), none, none, some (.int x3), some (.long v29), none, some (.int y9), some (.int v34)]) (fun _ => rfl) (fun v47 ev47 h => ?_)
        refine e_goto (tgt := 47) dX8_simulate_98 rfl ?_
        exact e_le (ih x3 v29 v47 μ44 _ (by omega) h) ⟨rfl, rfl, rfl, rfl, trivial⟩
set_option maxHeartbeats 4000000 in
theorem g_X8_simulate_16 {r : Res} {μ' : Mem} : ∀ (x1 : Int64) (x3 : Int32) (s0 : Int32), ∀ (μ : Mem) (b : Nat), 0 ≤ b → f_X8_simulate_16 x1 x3 s0 μ = some (r, μ') → G mX8_simulate (Qe r μ') 16 [some (.ref 29), some (.long x1), none, some (.int x3), none, none, none, none] [.int s0, .ref 29] μ b := by
  intro x1 x3 s0 μ b hb9 h
  unfold f_X8_simulate_16 at h
  refine e_putI (ci := 6) (j := 8) dX8_simulate_16 rfl (by decide) rfl rfl ?_
  refine e_naM (e := sI μ 29 8 s0) h (fun μ7 eμ7 h => ?_)
  refine e_aload_n dX8_simulate_19 rfl ?_
  refine e_get (ci := 6) (j := 8) (t := 0) (v := .int (μ7.1 29 8)) dX8_simulate_20 rfl (by decide) rfl rfl rfl ?_
  refine e_if_eq (tgt := 28) dX8_simulate_23 rfl (fun hc8 => ?_) (fun hc8 => ?_)
  · rw [if_pos hc8] at h
    refine e_aload_n dX8_simulate_28 rfl ?_
    refine e_get (ci := 6) (j := 0) (t := 2) (v := .ref 30) dX8_simulate_29 rfl (by decide) rfl rfl rfl ?_
    refine e_iconst dX8_simulate_32 ci_0 ?_
    refine e_aload_n dX8_simulate_33 rfl ?_
    refine e_get (ci := 6) (j := 5) (t := 2) (v := .ref 33) dX8_simulate_34 rfl (by decide) rfl rfl rfl ?_
    refine e_iconst dX8_simulate_37 ci_0 ?_
    refine cV_go h (fun E11 hc9 hr12 => e_SX [.ref 30, .int (0 : Int32), .ref 33, .int (0 : Int32)] [] dX8_simulate_38 rfl (by decide) rfl rfl (Nat.le_of_ble_eq_true rfl) (by omega) ⟨30, (0 : Int32), 33, (0 : Int32), rfl, (by decide), (by decide), hc9⟩ rfl ⟨hr12.symm, rfl⟩) (fun μ10 hc9 h => ?_)
    refine e_SV [.ref 30, .int (0 : Int32), .ref 33, .int (0 : Int32)] [] dX8_simulate_38 rfl (by decide) rfl rfl (Nat.le_of_ble_eq_true rfl) (by omega) ⟨30, (0 : Int32), 33, (0 : Int32), rfl, (by decide), (by decide), hc9⟩ ?_
    refine e_lload_n dX8_simulate_41 rfl ?_
    refine e_lstoreL [some (.ref 29), some (.long x1), none, some (.int x3), some (.long x1), none, none, none] dX8_simulate_42 (Nat.le_of_ble_eq_true rfl) rfl ?_
    refine e_iconst dX8_simulate_44 ci_0 ?_
    refine e_istoreL [some (.ref 29), some (.long x1), none, some (.int x3), some (.long x1), none, some (.int (0 : Int32)), none] dX8_simulate_45 (Nat.le_of_ble_eq_true rfl) rfl ?_
    exact e_le (g_X8_simulate_47 BIG x3 x1 (0 : Int32) μ10 _ (by omega) h) ⟨rfl, rfl, rfl, rfl, trivial⟩
  · rw [if_neg hc8] at h
    refine e_iconst dX8_simulate_26 ci_0 ?_
    exact e_iret .int dX8_simulate_27 rfl rfl (ret_eq h)
set_option maxHeartbeats 4000000 in
theorem b_X8_simulate : ∀ as μ r μ', Γ_X8_simulate as μ r μ' → (elvL as).length ≤ 8 ∧ G mX8_simulate (Qe r μ') 0 (elv as 8) [] μ 0 := by
  intro as μ r μ' h
  obtain ⟨a0, a1, rfl, h⟩ := h
  refine ⟨Nat.le_of_ble_eq_true rfl, ?_⟩
  show G mX8_simulate (Qe r μ') 0 [some (.ref 29), some (.long a0), none, some (.int a1), none, none, none, none] [] μ 0
  unfold F_X8_simulate at h
  have hb9 : 0 ≤ 0 := Nat.le_refl _
  refine e_aload_n dX8_simulate_0 rfl ?_
  refine e_iload_n dX8_simulate_1 rfl ?_
  refine e_iconst dX8_simulate_2 ci_1 ?_
  refine e_bipush dX8_simulate_3 cb_99 ?_
  refine cI_go h (fun E3 hc1 hr4 => e_SX [.int a1, .int (1 : Int32), .int (99 : Int32)] [.ref 29] dX8_simulate_5 rfl (by decide) rfl rfl (Nat.le_of_ble_eq_true rfl) (by omega) ⟨a1, (1 : Int32), (99 : Int32), rfl, hc1⟩ rfl ⟨hr4.symm, rfl⟩) (fun v5 μ2 hc1 h => ?_)
  refine e_SI [.int a1, .int (1 : Int32), .int (99 : Int32)] [.ref 29] dX8_simulate_5 rfl (by decide) rfl rfl (Nat.le_of_ble_eq_true rfl) (by omega) ⟨a1, (1 : Int32), (99 : Int32), rfl, hc1⟩ ?_
  refine e_if_ne (tgt := 15) dX8_simulate_8 rfl (fun hc6 => ?_) (fun hc6 => ?_)
  · rw [if_neg hc6] at h
    refine e_iconst dX8_simulate_15 ci_0 ?_
    exact e_le (g_X8_simulate_16 a0 a1 (0 : Int32) μ2 _ (by omega) h) ⟨rfl, rfl, rfl, trivial⟩
  · rw [if_pos hc6] at h
    refine e_iconst dX8_simulate_11 ci_1 ?_
    refine e_goto (tgt := 16) dX8_simulate_12 rfl ?_
    exact e_le (g_X8_simulate_16 a0 a1 (1 : Int32) μ2 _ (by omega) h) ⟨rfl, rfl, rfl, trivial⟩
set_option maxRecDepth 20000 in
theorem ok_X8_simulate (l : Launch) (hl : l.stackTraces = false) : MOK l yX8_simulate.cls 6 118 mX8_simulate := ⟨lk_all (List.forall_mem_cons.mpr ⟨⟨yX8_copies, cX8_copies, 5, none, 1, 0, by decide, by decide, t_1 7 rfl rfl, hd_X8_copies, Or.inl ⟨rfl, sc_X8_copies l hl, t_5 207 rfl rfl, t_5 205 rfl rfl, t_5 206 rfl rfl⟩⟩, List.forall_mem_cons.mpr ⟨⟨yX8_in, cX8_in, 3, (some .boolean), 1, 0, by decide, by decide, t_1 7 rfl rfl, hd_X8_in, Or.inl ⟨rfl, sc_X8_in l hl, t_5 18 rfl rfl, t_5 16 rfl rfl, t_5 17 rfl rfl⟩⟩, List.forall_mem_cons.mpr ⟨⟨yX8_laysPieces, cX8_laysPieces, 6, (some .int), 5, 93, by decide, by decide, t_1 7 rfl rfl, hd_X8_laysPieces, Or.inr (Or.inl ⟨rfl, sc_X8_laysPieces l hl, t_5 101 rfl rfl, t_5 98 rfl rfl, t_5 100 rfl rfl, _, rfl, t_p 48 rfl⟩)⟩, List.forall_mem_cons.mpr ⟨⟨yX8_outline, cX8_outline, 4, (some .int), 5, 88, by decide, by decide, t_1 7 rfl rfl, hd_X8_outline, Or.inr (Or.inl ⟨rfl, sc_X8_outline l hl, t_5 117 rfl rfl, t_5 114 rfl rfl, t_5 116 rfl rfl, _, rfl, t_p 52 rfl⟩)⟩, List.forall_mem_cons.mpr ⟨⟨yX8_exchangeOf, cX8_exchangeOf, 8, (some .int), 3, 48, by decide, by decide, t_1 7 rfl rfl, hd_X8_exchangeOf, Or.inr (Or.inl ⟨rfl, sc_X8_exchangeOf l hl, t_5 137 rfl rfl, t_5 134 rfl rfl, t_5 136 rfl rfl, _, rfl, t_p 57 rfl⟩)⟩, List.forall_mem_cons.mpr ⟨⟨yX8_turnsTold, cX8_turnsTold, 2, none, 2, 24, by decide, by decide, t_1 7 rfl rfl, hd_X8_turnsTold, Or.inr (Or.inl ⟨rfl, sc_X8_turnsTold l hl, t_6 79 rfl rfl, t_6 76 rfl rfl, t_6 78 rfl rfl, _, rfl, t_p 81 rfl⟩)⟩, nil_all⟩⟩⟩⟩⟩⟩), fun ix ci j h => lk_all (P := fun ix q => FldOK yX8_simulate.cls ix q.1 q.2) (List.forall_mem_cons.mpr ⟨⟨_, rfl, by decide, t_4 178 rfl rfl⟩, List.forall_mem_cons.mpr ⟨⟨_, rfl, by decide, t_4 183 rfl rfl⟩, List.forall_mem_cons.mpr ⟨⟨_, rfl, by decide, t_4 186 rfl rfl⟩, nil_all⟩⟩⟩) ix (ci, j) h, lk_all (nil_all), lk_all (List.forall_mem_cons.mpr ⟨t_6 101 rfl rfl, List.forall_mem_cons.mpr ⟨t_6 102 rfl rfl, nil_all⟩⟩), lk_all (nil_all)⟩
theorem hd_X8_simulate : CallHd yX8_simulate 2 := ⟨by decide +kernel, by decide +kernel, by decide +kernel⟩
theorem sc_X8_simulate (l : Launch) (hl : l.stackTraces = false) : SCon l yX8_simulate cX8_simulate 8 (some .int) 6 118 0 Γ_X8_simulate := scon_of mX8_simulate cls_ok hl (by decide +kernel) rfl rfl (ok_X8_simulate l hl) rfl rfl b_X8_simulate
def f_X8_solve_36 (s0 : Int32) (μ : Mem) : Out := lt (sI μ 29 8 s0) (fun μ20 => if (μ20.1 29 8) = 0 then (cV (F_X8_remembers μ20) (fun μ23 => cI (F_X8_takesPicture μ23) (fun v30 μ27 => rI v30 μ27))) else (rI (0 : Int32) μ20))
def F_X8_solve (a0 : Int32) (μ : Mem) : Out := cI (F_X8_in a0 (0 : Int32) (1 : Int32) μ) (fun v5 μ2 => if v5 = 0 then (f_X8_solve_36 (1 : Int32) μ2) else (if a0 = (1 : Int32) then (cI (F_X8_findsFirst (1 : Int32) μ2) (fun v18 μ15 => if v18 = 0 then (f_X8_solve_36 (2 : Int32) μ15) else (f_X8_solve_36 (0 : Int32) μ15))) else (cI (F_X8_findsFirst (0 : Int32) μ2) (fun v12 μ9 => if v12 = 0 then (f_X8_solve_36 (2 : Int32) μ9) else (f_X8_solve_36 (0 : Int32) μ9)))))
def Γ_X8_solve : Gam := fun as μ r μ' => ∃ (a0 : Int32), as = [.ref 29, .int a0] ∧ F_X8_solve a0 μ = some (r, μ')
def mX8_solve : MI := (cX8_solve, [(80, (0, 3, 0, 0, Γ_X8_in)), (186, (1, 1, 0, 6, Γ_X8_findsFirst)), (230, (1, 0, 0, 6, Γ_X8_remembers)), (236, (1, 0, 0, 6, Γ_X8_takesPicture))], [(65, 6, 8)], [], [], [], [], none, (some .int))
set_option maxHeartbeats 4000000 in
theorem g_X8_solve_36 {r : Res} {μ' : Mem} : ∀ (s0 : Int32), ∀ (μ : Mem) (b : Nat), 0 ≤ b → f_X8_solve_36 s0 μ = some (r, μ') → G mX8_solve (Qe r μ') 36 [some (.ref 29), none] [.int s0, .ref 29] μ b := by
  intro s0 μ b hb9 h
  unfold f_X8_solve_36 at h
  refine e_putI (ci := 6) (j := 8) dX8_solve_36 rfl (by decide) rfl rfl ?_
  refine e_naM (e := sI μ 29 8 s0) h (fun μ20 eμ20 h => ?_)
  refine e_aload_n dX8_solve_39 rfl ?_
  refine e_get (ci := 6) (j := 8) (t := 0) (v := .int (μ20.1 29 8)) dX8_solve_40 rfl (by decide) rfl rfl rfl ?_
  refine e_if_eq (tgt := 48) dX8_solve_43 rfl (fun hc21 => ?_) (fun hc21 => ?_)
  · rw [if_pos hc21] at h
    refine e_aload_n dX8_solve_48 rfl ?_
    refine cV_go h (fun E24 hc22 hr25 => e_VX [] [] dX8_solve_49 rfl rfl rfl rfl (by decide) (Nat.le_of_ble_eq_true rfl) (by omega) ⟨rfl, hc22⟩ rfl ⟨hr25.symm, rfl⟩) (fun μ23 hc22 h => ?_)
    refine e_VV [] [] dX8_solve_49 rfl rfl rfl rfl (by decide) (Nat.le_of_ble_eq_true rfl) (by omega) ⟨rfl, hc22⟩ ?_
    refine e_aload_n dX8_solve_52 rfl ?_
    refine cI_go h (fun E28 hc26 hr29 => e_VX [] [] dX8_solve_53 rfl rfl rfl rfl (by decide) (Nat.le_of_ble_eq_true rfl) (by omega) ⟨rfl, hc26⟩ rfl ⟨hr29.symm, rfl⟩) (fun v30 μ27 hc26 h => ?_)
    refine e_VI [] [] dX8_solve_53 rfl rfl rfl rfl (by decide) (Nat.le_of_ble_eq_true rfl) (by omega) ⟨rfl, hc26⟩ ?_
    exact e_iret .int dX8_solve_56 rfl rfl (ret_eq h)
  · rw [if_neg hc21] at h
    refine e_iconst dX8_solve_46 ci_0 ?_
    exact e_iret .int dX8_solve_47 rfl rfl (ret_eq h)
set_option maxHeartbeats 4000000 in
theorem b_X8_solve : ∀ as μ r μ', Γ_X8_solve as μ r μ' → (elvL as).length ≤ 2 ∧ G mX8_solve (Qe r μ') 0 (elv as 2) [] μ 0 := by
  intro as μ r μ' h
  obtain ⟨a0, rfl, h⟩ := h
  refine ⟨Nat.le_of_ble_eq_true rfl, ?_⟩
  show G mX8_solve (Qe r μ') 0 [some (.ref 29), some (.int a0)] [] μ 0
  unfold F_X8_solve at h
  have hb9 : 0 ≤ 0 := Nat.le_refl _
  refine e_aload_n dX8_solve_0 rfl ?_
  refine e_iload_n dX8_solve_1 rfl ?_
  refine e_iconst dX8_solve_2 ci_0 ?_
  refine e_iconst dX8_solve_3 ci_1 ?_
  refine cI_go h (fun E3 hc1 hr4 => e_SX [.int a0, .int (0 : Int32), .int (1 : Int32)] [.ref 29] dX8_solve_4 rfl (by decide) rfl rfl (Nat.le_of_ble_eq_true rfl) (by omega) ⟨a0, (0 : Int32), (1 : Int32), rfl, hc1⟩ rfl ⟨hr4.symm, rfl⟩) (fun v5 μ2 hc1 h => ?_)
  refine e_SI [.int a0, .int (0 : Int32), .int (1 : Int32)] [.ref 29] dX8_solve_4 rfl (by decide) rfl rfl (Nat.le_of_ble_eq_true rfl) (by omega) ⟨a0, (0 : Int32), (1 : Int32), rfl, hc1⟩ ?_
  refine e_if_ne (tgt := 14) dX8_solve_7 rfl (fun hc6 => ?_) (fun hc6 => ?_)
  · rw [if_neg hc6] at h
    refine e_aload_n dX8_solve_14 rfl ?_
    refine e_iload_n dX8_solve_15 rfl ?_
    refine e_iconst dX8_solve_16 ci_1 ?_
    refine e_ic_ne (tgt := 24) dX8_solve_17 rfl (fun hc7 => ?_) (fun hc7 => ?_)
    · rw [if_neg hc7] at h
      refine e_iconst dX8_solve_24 ci_0 ?_
      refine cI_go h (fun E10 hc8 hr11 => e_VX [.int (0 : Int32)] [.ref 29] dX8_solve_25 rfl rfl rfl rfl (by decide) (Nat.le_of_ble_eq_true rfl) (by omega) ⟨(0 : Int32), rfl, hc8⟩ rfl ⟨hr11.symm, rfl⟩) (fun v12 μ9 hc8 h => ?_)
      refine e_VI [.int (0 : Int32)] [.ref 29] dX8_solve_25 rfl rfl rfl rfl (by decide) (Nat.le_of_ble_eq_true rfl) (by omega) ⟨(0 : Int32), rfl, hc8⟩ ?_
      refine e_if_ne (tgt := 35) dX8_solve_28 rfl (fun hc13 => ?_) (fun hc13 => ?_)
      · rw [if_neg hc13] at h
        refine e_iconst dX8_solve_35 ci_0 ?_
        exact e_le (g_X8_solve_36 (0 : Int32) μ9 _ (by omega) h) ⟨rfl, trivial⟩
      · rw [if_pos hc13] at h
        refine e_iconst dX8_solve_31 ci_2 ?_
        refine e_goto (tgt := 36) dX8_solve_32 rfl ?_
        exact e_le (g_X8_solve_36 (2 : Int32) μ9 _ (by omega) h) ⟨rfl, trivial⟩
    · rw [if_pos hc7] at h
      refine e_iconst dX8_solve_20 ci_1 ?_
      refine e_goto (tgt := 25) dX8_solve_21 rfl ?_
      refine cI_go h (fun E16 hc14 hr17 => e_VX [.int (1 : Int32)] [.ref 29] dX8_solve_25 rfl rfl rfl rfl (by decide) (Nat.le_of_ble_eq_true rfl) (by omega) ⟨(1 : Int32), rfl, hc14⟩ rfl ⟨hr17.symm, rfl⟩) (fun v18 μ15 hc14 h => ?_)
      refine e_VI [.int (1 : Int32)] [.ref 29] dX8_solve_25 rfl rfl rfl rfl (by decide) (Nat.le_of_ble_eq_true rfl) (by omega) ⟨(1 : Int32), rfl, hc14⟩ ?_
      refine e_if_ne (tgt := 35) dX8_solve_28 rfl (fun hc19 => ?_) (fun hc19 => ?_)
      · rw [if_neg hc19] at h
        refine e_iconst dX8_solve_35 ci_0 ?_
        exact e_le (g_X8_solve_36 (0 : Int32) μ15 _ (by omega) h) ⟨rfl, trivial⟩
      · rw [if_pos hc19] at h
        refine e_iconst dX8_solve_31 ci_2 ?_
        refine e_goto (tgt := 36) dX8_solve_32 rfl ?_
        exact e_le (g_X8_solve_36 (2 : Int32) μ15 _ (by omega) h) ⟨rfl, trivial⟩
  · rw [if_pos hc6] at h
    refine e_iconst dX8_solve_10 ci_1 ?_
    refine e_goto (tgt := 36) dX8_solve_11 rfl ?_
    exact e_le (g_X8_solve_36 (1 : Int32) μ2 _ (by omega) h) ⟨rfl, trivial⟩
set_option maxRecDepth 20000 in
theorem ok_X8_solve (l : Launch) (hl : l.stackTraces = false) : MOK l yX8_solve.cls 7 138 mX8_solve := ⟨lk_all (List.forall_mem_cons.mpr ⟨⟨yX8_in, cX8_in, 3, (some .boolean), 1, 0, by decide, by decide, t_1 7 rfl rfl, hd_X8_in, Or.inl ⟨rfl, sc_X8_in l hl, t_5 18 rfl rfl, t_5 16 rfl rfl, t_5 17 rfl rfl⟩⟩, List.forall_mem_cons.mpr ⟨⟨yX8_findsFirst, cX8_findsFirst, 3, (some .boolean), 6, 116, by decide, by decide, t_1 7 rfl rfl, hd_X8_findsFirst, Or.inr (Or.inl ⟨rfl, sc_X8_findsFirst l hl, t_6 7 rfl rfl, t_6 4 rfl rfl, t_6 6 rfl rfl, _, rfl, t_p 71 rfl⟩)⟩, List.forall_mem_cons.mpr ⟨⟨yX8_remembers, cX8_remembers, 2, none, 2, 24, by decide, by decide, t_1 7 rfl rfl, hd_X8_remembers, Or.inr (Or.inl ⟨rfl, sc_X8_remembers l hl, t_5 204 rfl rfl, t_5 201 rfl rfl, t_5 203 rfl rfl, _, rfl, t_p 67 rfl⟩)⟩, List.forall_mem_cons.mpr ⟨⟨yX8_takesPicture, cX8_takesPicture, 4, (some .int), 3, 45, by decide, by decide, t_1 7 rfl rfl, hd_X8_takesPicture, Or.inr (Or.inl ⟨rfl, sc_X8_takesPicture l hl, t_6 19 rfl rfl, t_6 16 rfl rfl, t_6 18 rfl rfl, _, rfl, t_p 74 rfl⟩)⟩, nil_all⟩⟩⟩⟩), fun ix ci j h => lk_all (P := fun ix q => FldOK yX8_solve.cls ix q.1 q.2) (List.forall_mem_cons.mpr ⟨⟨_, rfl, by decide, t_4 186 rfl rfl⟩, nil_all⟩) ix (ci, j) h, lk_all (nil_all), lk_all (nil_all), lk_all (nil_all)⟩
theorem hd_X8_solve : CallHd yX8_solve 1 := ⟨by decide +kernel, by decide +kernel, by decide +kernel⟩
theorem sc_X8_solve (l : Launch) (hl : l.stackTraces = false) : SCon l yX8_solve cX8_solve 2 (some .int) 7 138 0 Γ_X8_solve := scon_of mX8_solve cls_ok hl (by decide +kernel) rfl rfl (ok_X8_solve l hl) rfl rfl b_X8_solve
def f_X8_split_128 (k18 : Int32 → Int32 → Int32 → Int32 → Mem → Out) (x1 : Int32) (x3 : Int32) (x4 : Int32) (x5 : Int32) (x6 : Int32) (s0 : Int32) (μ : Mem) : Out := if x6 = 0 then (lt (x4 + (1 : Int32)) (fun v28 => k18 x1 s0 x3 v28 μ)) else (lt (x4 + (1 : Int32)) (fun v29 => k18 x1 s0 x5 v29 μ))
def f_X8_split_103 (k18 : Int32 → Int32 → Int32 → Int32 → Mem → Out) (x1 : Int32) (x2 : Int32) (x3 : Int32) (x4 : Int32) (x5 : Int32) (s0 : Int32) (μ : Mem) : Out := if s0 = 0 then (f_X8_split_128 k18 x1 x3 x4 x5 s0 x2 μ) else (f_X8_split_128 k18 x1 x3 x4 x5 s0 (((10 : Int32) * (x4 / (6 : Int32))) + (remI x4 (6 : Int32))) μ)
def f_X8_split_73 (k18 : Int32 → Int32 → Int32 → Int32 → Mem → Out) (x1 : Int32) (x2 : Int32) (x3 : Int32) (x4 : Int32) (s0 : Int32) (μ : Mem) : Out := cI (F_X8_isCell (x4 / (6 : Int32)) (remI x4 (6 : Int32)) μ) (fun v23 μ20 => if v23 = 0 then (f_X8_split_103 k18 x1 x2 x3 x4 s0 (0 : Int32) μ20) else (if s0 ≤ x3 then (f_X8_split_103 k18 x1 x2 x3 x4 s0 (0 : Int32) μ20) else (f_X8_split_103 k18 x1 x2 x3 x4 s0 (1 : Int32) μ20)))
def f_X8_split_18 : Nat → Int32 → Int32 → Int32 → Int32 → Mem → Out
  | 0, _, _, _, _, _ => none
  | n + 1, x1, x2, x3, x4, μ => if (36 : Int32) ≤ x4 then (rI x2 μ) else (cI (F_X8_in x1 (2 : Int32) (99 : Int32) μ) (fun v12 μ9 => if v12 = 0 then (rI x2 μ9) else (ck (inb x4 36) (ck (inb x4 36) (if (x1 - (μ9.1 45 (Int32.toNatClampNeg x4))) ≤ (μ9.1 45 (Int32.toNatClampNeg x4)) then (ck (inb x4 36) (f_X8_split_73 (f_X8_split_18 n) x1 x2 x3 x4 (x1 - (μ9.1 45 (Int32.toNatClampNeg x4))) μ9)) else (ck (inb x4 36) (f_X8_split_73 (f_X8_split_18 n) x1 x2 x3 x4 (μ9.1 45 (Int32.toNatClampNeg x4)) μ9)))))))
def F_X8_split (μ : Mem) : Out := lt (sI μ 29 8 (0 : Int32)) (fun μ1 => cI (F_X8_goesThrough μ1) (fun v6 μ3 => f_X8_split_18 BIG v6 (-9 : Int32) (-1 : Int32) (0 : Int32) μ3))
def Γ_X8_split : Gam := fun as μ r μ' => as = [.ref 29] ∧ F_X8_split μ = some (r, μ')
def mX8_split : MI := (cX8_split, [(80, (0, 3, 0, 0, Γ_X8_in)), (127, (1, 2, 0, 6, Γ_X8_isCell)), (248, (1, 0, 0, 6, Γ_X8_goesThrough))], [(56, 6, 19), (65, 6, 8)], [], [], [], [], none, (some .int))
set_option maxHeartbeats 4000000 in
theorem g_X8_split_128 {r : Res} {μ' : Mem} {k18 : Int32 → Int32 → Int32 → Int32 → Mem → Out} (hk18 : ∀ (x1 : Int32) (x2 : Int32) (x3 : Int32) (x4 : Int32), ∀ (μ : Mem) (b : Nat), 0 ≤ b → k18 x1 x2 x3 x4 μ = some (r, μ') → G mX8_split (Qe r μ') 18 [some (.ref 29), some (.int x1), some (.int x2), some (.int x3), some (.int x4), none, none] [] μ b) : ∀ (x1 : Int32) (x3 : Int32) (x4 : Int32) (x5 : Int32) (x6 : Int32) (s0 : Int32), ∀ (μ : Mem) (b : Nat), 0 ≤ b → f_X8_split_128 k18 x1 x3 x4 x5 x6 s0 μ = some (r, μ') → G mX8_split (Qe r μ') 128 [some (.ref 29), some (.int x1), none, some (.int x3), some (.int x4), some (.int x5), some (.int x6)] [.int s0] μ b := by
  intro x1 x3 x4 x5 x6 s0 μ b hb9 h
  unfold f_X8_split_128 at h
  refine e_istore_nL [some (.ref 29), some (.int x1), some (.int s0), some (.int x3), some (.int x4), some (.int x5), some (.int x6)] dX8_split_128 (Nat.le_of_ble_eq_true rfl) rfl ?_
  refine e_iload dX8_split_129 rfl ?_
  refine e_if_eq (tgt := 139) dX8_split_131 rfl (fun hc27 => ?_) (fun hc27 => ?_)
  · rw [if_pos hc27] at h
    refine e_iload_n dX8_split_139 rfl ?_
    refine e_istore_nL [some (.ref 29), some (.int x1), some (.int s0), some (.int x3), some (.int x4), some (.int x5), some (.int x6)] dX8_split_140 (Nat.le_of_ble_eq_true rfl) rfl ?_
    refine e_iincN 4 (1 : Int32) dX8_split_141 rfl ci_1 h (fun y9 => [some (.ref 29), some (.int x1), some (.int s0), some (.int x3), some (.int y9), some (.int x5), some (.int x6)]) (fun _ => rfl) (fun v28 ev28 h => ?_)
    refine e_goto (tgt := 18) dX8_split_144 rfl ?_
    exact e_le (hk18 x1 s0 x3 v28 μ _ (by omega) h) ⟨rfl, rfl, rfl, rfl, rfl, trivial⟩
  · rw [if_neg hc27] at h
    refine e_iload dX8_split_134 rfl ?_
    refine e_goto (tgt := 140) dX8_split_136 rfl ?_
    refine e_istore_nL [some (.ref 29), some (.int x1), some (.int s0), some (.int x5), some (.int x4), some (.int x5), some (.int x6)] dX8_split_140 (Nat.le_of_ble_eq_true rfl) rfl ?_
    refine e_iincN 4 (1 : Int32) dX8_split_141 rfl ci_1 h (fun y9 => [some (.ref 29), some (.int x1), some (.int s0), some (.int x5), some (.int y9), some (.int x5), some (.int x6)]) (fun _ => rfl) (fun v29 ev29 h => ?_)
    refine e_goto (tgt := 18) dX8_split_144 rfl ?_
    exact e_le (hk18 x1 s0 x5 v29 μ _ (by omega) h) ⟨rfl, rfl, rfl, rfl, rfl, trivial⟩
set_option maxHeartbeats 4000000 in
theorem g_X8_split_103 {r : Res} {μ' : Mem} {k18 : Int32 → Int32 → Int32 → Int32 → Mem → Out} (hk18 : ∀ (x1 : Int32) (x2 : Int32) (x3 : Int32) (x4 : Int32), ∀ (μ : Mem) (b : Nat), 0 ≤ b → k18 x1 x2 x3 x4 μ = some (r, μ') → G mX8_split (Qe r μ') 18 [some (.ref 29), some (.int x1), some (.int x2), some (.int x3), some (.int x4), none, none] [] μ b) : ∀ (x1 : Int32) (x2 : Int32) (x3 : Int32) (x4 : Int32) (x5 : Int32) (s0 : Int32), ∀ (μ : Mem) (b : Nat), 0 ≤ b → f_X8_split_103 k18 x1 x2 x3 x4 x5 s0 μ = some (r, μ') → G mX8_split (Qe r μ') 103 [some (.ref 29), some (.int x1), some (.int x2), some (.int x3), some (.int x4), some (.int x5), none] [.int s0] μ b := by
  intro x1 x2 x3 x4 x5 s0 μ b hb9 h
  unfold f_X8_split_103 at h
  refine e_istoreL [some (.ref 29), some (.int x1), some (.int x2), some (.int x3), some (.int x4), some (.int x5), some (.int s0)] dX8_split_103 (Nat.le_of_ble_eq_true rfl) rfl ?_
  refine e_iload dX8_split_105 rfl ?_
  refine e_if_eq (tgt := 127) dX8_split_107 rfl (fun hc26 => ?_) (fun hc26 => ?_)
  · rw [if_pos hc26] at h
    refine e_iload_n dX8_split_127 rfl ?_
    exact e_le (g_X8_split_128 hk18 x1 x3 x4 x5 s0 x2 μ _ (by omega) h) ⟨rfl, rfl, rfl, rfl, rfl, rfl, trivial⟩
  · rw [if_neg hc26] at h
    refine e_bipush dX8_split_110 cb_10 ?_
    refine e_iload dX8_split_112 rfl ?_
    refine e_bipush dX8_split_114 cb_6 ?_
    refine e_idiv dX8_split_116 (by decide) ?_
    refine e_imul dX8_split_117 ?_
    refine e_iload dX8_split_118 rfl ?_
    refine e_bipush dX8_split_120 cb_6 ?_
    refine e_irem dX8_split_122 (by decide) ?_
    refine e_iadd dX8_split_123 ?_
    refine e_goto (tgt := 128) dX8_split_124 rfl ?_
    exact e_le (g_X8_split_128 hk18 x1 x3 x4 x5 s0 (((10 : Int32) * (x4 / (6 : Int32))) + (remI x4 (6 : Int32))) μ _ (by omega) h) ⟨rfl, rfl, rfl, rfl, rfl, rfl, trivial⟩
set_option maxHeartbeats 4000000 in
theorem g_X8_split_73 {r : Res} {μ' : Mem} {k18 : Int32 → Int32 → Int32 → Int32 → Mem → Out} (hk18 : ∀ (x1 : Int32) (x2 : Int32) (x3 : Int32) (x4 : Int32), ∀ (μ : Mem) (b : Nat), 0 ≤ b → k18 x1 x2 x3 x4 μ = some (r, μ') → G mX8_split (Qe r μ') 18 [some (.ref 29), some (.int x1), some (.int x2), some (.int x3), some (.int x4), none, none] [] μ b) : ∀ (x1 : Int32) (x2 : Int32) (x3 : Int32) (x4 : Int32) (s0 : Int32), ∀ (μ : Mem) (b : Nat), 0 ≤ b → f_X8_split_73 k18 x1 x2 x3 x4 s0 μ = some (r, μ') → G mX8_split (Qe r μ') 73 [some (.ref 29), some (.int x1), some (.int x2), some (.int x3), some (.int x4), none, none] [.int s0] μ b := by
  intro x1 x2 x3 x4 s0 μ b hb9 h
  unfold f_X8_split_73 at h
  refine e_istoreL [some (.ref 29), some (.int x1), some (.int x2), some (.int x3), some (.int x4), some (.int s0), none] dX8_split_73 (Nat.le_of_ble_eq_true rfl) rfl ?_
  refine e_aload_n dX8_split_75 rfl ?_
  refine e_iload dX8_split_76 rfl ?_
  refine e_bipush dX8_split_78 cb_6 ?_
  refine e_idiv dX8_split_80 (by decide) ?_
  refine e_iload dX8_split_81 rfl ?_
  refine e_bipush dX8_split_83 cb_6 ?_
  refine e_irem dX8_split_85 (by decide) ?_
  refine cI_go h (fun E21 hc19 hr22 => e_VX [.int (x4 / (6 : Int32)), .int (remI x4 (6 : Int32))] [] dX8_split_86 rfl rfl rfl rfl (by decide) (Nat.le_of_ble_eq_true rfl) (by omega) ⟨x4 / (6 : Int32), remI x4 (6 : Int32), rfl, hc19⟩ rfl ⟨hr22.symm, rfl⟩) (fun v23 μ20 hc19 h => ?_)
  refine e_VI [.int (x4 / (6 : Int32)), .int (remI x4 (6 : Int32))] [] dX8_split_86 rfl rfl rfl rfl (by decide) (Nat.le_of_ble_eq_true rfl) (by omega) ⟨x4 / (6 : Int32), remI x4 (6 : Int32), rfl, hc19⟩ ?_
  refine e_if_eq (tgt := 102) dX8_split_89 rfl (fun hc24 => ?_) (fun hc24 => ?_)
  · rw [if_pos hc24] at h
    refine e_iconst dX8_split_102 ci_0 ?_
    exact e_le (g_X8_split_103 hk18 x1 x2 x3 x4 s0 (0 : Int32) μ20 _ (by omega) h) ⟨rfl, rfl, rfl, rfl, rfl, rfl, trivial⟩
  · rw [if_neg hc24] at h
    refine e_iload dX8_split_92 rfl ?_
    refine e_iload_n dX8_split_94 rfl ?_
    refine e_ic_le (tgt := 102) dX8_split_95 rfl (fun hc25 => ?_) (fun hc25 => ?_)
    · rw [if_pos hc25] at h
      refine e_iconst dX8_split_102 ci_0 ?_
      exact e_le (g_X8_split_103 hk18 x1 x2 x3 x4 s0 (0 : Int32) μ20 _ (by omega) h) ⟨rfl, rfl, rfl, rfl, rfl, rfl, trivial⟩
    · rw [if_neg hc25] at h
      refine e_iconst dX8_split_98 ci_1 ?_
      refine e_goto (tgt := 103) dX8_split_99 rfl ?_
      exact e_le (g_X8_split_103 hk18 x1 x2 x3 x4 s0 (1 : Int32) μ20 _ (by omega) h) ⟨rfl, rfl, rfl, rfl, rfl, rfl, trivial⟩
set_option maxHeartbeats 4000000 in
theorem g_X8_split_18 {r : Res} {μ' : Mem} : ∀ n : Nat, ∀ (x1 : Int32) (x2 : Int32) (x3 : Int32) (x4 : Int32), ∀ (μ : Mem) (b : Nat), 0 ≤ b → f_X8_split_18 n x1 x2 x3 x4 μ = some (r, μ') → G mX8_split (Qe r μ') 18 [some (.ref 29), some (.int x1), some (.int x2), some (.int x3), some (.int x4), none, none] [] μ b := by
  intro n
  induction n with
  | zero => intro x1 x2 x3 x4 μ b hb9 h; exact nomatch (show (none : Out) = some _ from h)
  | succ n ih =>
    intro x1 x2 x3 x4 μ b hb9 h
    rw [f_X8_split_18.eq_2] at h
    refine e_iload dX8_split_18 rfl ?_
    refine e_bipush dX8_split_20 cb_36 ?_
    refine e_ic_ge (tgt := 147) dX8_split_22 rfl (fun hc7 => ?_) (fun hc7 => ?_)
    · rw [if_pos hc7] at h
      refine e_iload_n dX8_split_147 rfl ?_
      exact e_iret .int dX8_split_148 rfl rfl (ret_eq h)
    · rw [if_neg hc7] at h
      refine e_iload_n dX8_split_25 rfl ?_
      refine e_iconst dX8_split_26 ci_2 ?_
      refine e_bipush dX8_split_27 cb_99 ?_
      refine cI_go h (fun E10 hc8 hr11 => e_SX [.int x1, .int (2 : Int32), .int (99 : Int32)] [] dX8_split_29 rfl (by decide) rfl rfl (Nat.le_of_ble_eq_true rfl) (by omega) ⟨x1, (2 : Int32), (99 : Int32), rfl, hc8⟩ rfl ⟨hr11.symm, rfl⟩) (fun v12 μ9 hc8 h => ?_)
      refine e_SI [.int x1, .int (2 : Int32), .int (99 : Int32)] [] dX8_split_29 rfl (by decide) rfl rfl (Nat.le_of_ble_eq_true rfl) (by omega) ⟨x1, (2 : Int32), (99 : Int32), rfl, hc8⟩ ?_
      refine e_if_eq (tgt := 147) dX8_split_32 rfl (fun hc13 => ?_) (fun hc13 => ?_)
      · rw [if_pos hc13] at h
        refine e_iload_n dX8_split_147 rfl ?_
        exact e_iret .int dX8_split_148 rfl rfl (ret_eq h)
      · rw [if_neg hc13] at h
        refine e_aload_n dX8_split_35 rfl ?_
        refine e_get (ci := 6) (j := 19) (t := 2) (v := .ref 45) dX8_split_36 rfl (by decide) rfl rfl rfl ?_
        refine e_iload dX8_split_39 rfl ?_
        obtain ⟨hc14, h⟩ := ck_eq h
        refine e_ialoadL (μ9.1 45 (Int32.toNatClampNeg x4)) (n := 36) dX8_split_41 (by decide) rfl hc14 rfl ?_
        refine e_iload_n dX8_split_42 rfl ?_
        refine e_aload_n dX8_split_43 rfl ?_
        refine e_get (ci := 6) (j := 19) (t := 2) (v := .ref 45) dX8_split_44 rfl (by decide) rfl rfl rfl ?_
        refine e_iload dX8_split_47 rfl ?_
        obtain ⟨hc15, h⟩ := ck_eq h
        refine e_ialoadL (μ9.1 45 (Int32.toNatClampNeg x4)) (n := 36) dX8_split_49 (by decide) rfl hc15 rfl ?_
        refine e_isub dX8_split_50 ?_
        refine e_ic_ge (tgt := 64) dX8_split_51 rfl (fun hc16 => ?_) (fun hc16 => ?_)
        · rw [if_pos hc16] at h
          refine e_iload_n dX8_split_64 rfl ?_
          refine e_aload_n dX8_split_65 rfl ?_
          refine e_get (ci := 6) (j := 19) (t := 2) (v := .ref 45) dX8_split_66 rfl (by decide) rfl rfl rfl ?_
          refine e_iload dX8_split_69 rfl ?_
          obtain ⟨hc17, h⟩ := ck_eq h
          refine e_ialoadL (μ9.1 45 (Int32.toNatClampNeg x4)) (n := 36) dX8_split_71 (by decide) rfl hc17 rfl ?_
          refine e_isub dX8_split_72 ?_
          exact e_le (g_X8_split_73 ih x1 x2 x3 x4 (x1 - (μ9.1 45 (Int32.toNatClampNeg x4))) μ9 _ (by omega) h) ⟨rfl, rfl, rfl, rfl, rfl, trivial⟩
        · rw [if_neg hc16] at h
          refine e_aload_n dX8_split_54 rfl ?_
          refine e_get (ci := 6) (j := 19) (t := 2) (v := .ref 45) dX8_split_55 rfl (by decide) rfl rfl rfl ?_
          refine e_iload dX8_split_58 rfl ?_
          obtain ⟨hc18, h⟩ := ck_eq h
          refine e_ialoadL (μ9.1 45 (Int32.toNatClampNeg x4)) (n := 36) dX8_split_60 (by decide) rfl hc18 rfl ?_
          refine e_goto (tgt := 73) dX8_split_61 rfl ?_
          exact e_le (g_X8_split_73 ih x1 x2 x3 x4 (μ9.1 45 (Int32.toNatClampNeg x4)) μ9 _ (by omega) h) ⟨rfl, rfl, rfl, rfl, rfl, trivial⟩
set_option maxHeartbeats 4000000 in
theorem b_X8_split : ∀ as μ r μ', Γ_X8_split as μ r μ' → (elvL as).length ≤ 7 ∧ G mX8_split (Qe r μ') 0 (elv as 7) [] μ 0 := by
  intro as μ r μ' h
  obtain ⟨rfl, h⟩ := h
  refine ⟨Nat.le_of_ble_eq_true rfl, ?_⟩
  show G mX8_split (Qe r μ') 0 [some (.ref 29), none, none, none, none, none, none] [] μ 0
  unfold F_X8_split at h
  have hb9 : 0 ≤ 0 := Nat.le_refl _
  refine e_aload_n dX8_split_0 rfl ?_
  refine e_iconst dX8_split_1 ci_0 ?_
  refine e_putI (ci := 6) (j := 8) dX8_split_2 rfl (by decide) rfl rfl ?_
  refine e_naM (e := sI μ 29 8 (0 : Int32)) h (fun μ1 eμ1 h => ?_)
  refine e_aload_n dX8_split_5 rfl ?_
  refine cI_go h (fun E4 hc2 hr5 => e_VX [] [] dX8_split_6 rfl rfl rfl rfl (by decide) (Nat.le_of_ble_eq_true rfl) (by omega) ⟨rfl, hc2⟩ rfl ⟨hr5.symm, rfl⟩) (fun v6 μ3 hc2 h => ?_)
  refine e_VI [] [] dX8_split_6 rfl rfl rfl rfl (by decide) (Nat.le_of_ble_eq_true rfl) (by omega) ⟨rfl, hc2⟩ ?_
  refine e_istore_nL [some (.ref 29), some (.int v6), none, none, none, none, none] dX8_split_9 (Nat.le_of_ble_eq_true rfl) rfl ?_
  refine e_bipush dX8_split_10 cb_m9 ?_
  refine e_istore_nL [some (.ref 29), some (.int v6), some (.int (-9 : Int32)), none, none, none, none] dX8_split_12 (Nat.le_of_ble_eq_true rfl) rfl ?_
  refine e_iconst dX8_split_13 ci_m1 ?_
  refine e_istore_nL [some (.ref 29), some (.int v6), some (.int (-9 : Int32)), some (.int (-1 : Int32)), none, none, none] dX8_split_14 (Nat.le_of_ble_eq_true rfl) rfl ?_
  refine e_iconst dX8_split_15 ci_0 ?_
  refine e_istoreL [some (.ref 29), some (.int v6), some (.int (-9 : Int32)), some (.int (-1 : Int32)), some (.int (0 : Int32)), none, none] dX8_split_16 (Nat.le_of_ble_eq_true rfl) rfl ?_
  exact e_le (g_X8_split_18 BIG v6 (-9 : Int32) (-1 : Int32) (0 : Int32) μ3 _ (by omega) h) ⟨rfl, rfl, rfl, rfl, rfl, trivial⟩
set_option maxRecDepth 20000 in
theorem ok_X8_split (l : Launch) (hl : l.stackTraces = false) : MOK l yX8_split.cls 8 165 mX8_split := ⟨lk_all (List.forall_mem_cons.mpr ⟨⟨yX8_in, cX8_in, 3, (some .boolean), 1, 0, by decide, by decide, t_1 7 rfl rfl, hd_X8_in, Or.inl ⟨rfl, sc_X8_in l hl, t_5 18 rfl rfl, t_5 16 rfl rfl, t_5 17 rfl rfl⟩⟩, List.forall_mem_cons.mpr ⟨⟨yX8_isCell, cX8_isCell, 3, (some .boolean), 2, 22, by decide, by decide, t_1 7 rfl rfl, hd_X8_isCell, Or.inr (Or.inl ⟨rfl, sc_X8_isCell l hl, t_5 105 rfl rfl, t_5 102 rfl rfl, t_5 104 rfl rfl, _, rfl, t_p 49 rfl⟩)⟩, List.forall_mem_cons.mpr ⟨⟨yX8_goesThrough, cX8_goesThrough, 5, (some .int), 7, 141, by decide, by decide, t_1 7 rfl rfl, hd_X8_goesThrough, Or.inr (Or.inl ⟨rfl, sc_X8_goesThrough l hl, t_6 59 rfl rfl, t_6 56 rfl rfl, t_6 58 rfl rfl, _, rfl, t_p 80 rfl⟩)⟩, nil_all⟩⟩⟩), fun ix ci j h => lk_all (P := fun ix q => FldOK yX8_split.cls ix q.1 q.2) (List.forall_mem_cons.mpr ⟨⟨_, rfl, by decide, t_4 197 rfl rfl⟩, List.forall_mem_cons.mpr ⟨⟨_, rfl, by decide, t_4 186 rfl rfl⟩, nil_all⟩⟩) ix (ci, j) h, lk_all (nil_all), lk_all (nil_all), lk_all (nil_all)⟩
theorem hd_X8_split : CallHd yX8_split 0 := ⟨by decide +kernel, by decide +kernel, by decide +kernel⟩
theorem sc_X8_split (l : Launch) (hl : l.stackTraces = false) : SCon l yX8_split cX8_split 7 (some .int) 8 165 0 Γ_X8_split := scon_of mX8_split cls_ok hl (by decide +kernel) rfl rfl (ok_X8_split l hl) rfl rfl b_X8_split
def f_X8_sure_60 (k15 : Int32 → Int32 → Int32 → Int32 → Mem → Out) (x1 : Int32) (x2 : Int32) (x4 : Int32) (s0 : Int32) (s1 : Int32) (s2 : Int32) (μ : Mem) : Out := if s1 = s0 then (lt (s2 + (1 : Int32)) (fun v22 => lt (x4 + (1 : Int32)) (fun v23 => k15 x1 x2 v22 v23 μ))) else (lt (s2 + (0 : Int32)) (fun v20 => lt (x4 + (1 : Int32)) (fun v21 => k15 x1 x2 v20 v21 μ)))
def f_X8_sure_15 : Nat → Int32 → Int32 → Int32 → Int32 → Mem → Out
  | 0, _, _, _, _, _ => none
  | n + 1, x1, x2, x3, x4, μ => if (36 : Int32) ≤ x4 then (rI x3 μ) else (if x2 = 0 then (rI x3 μ) else (cI (F_X8_isCell (x4 / (6 : Int32)) (remI x4 (6 : Int32)) μ) (fun v13 μ10 => if v13 = 0 then (lt (x3 + (0 : Int32)) (fun v15 => lt (x4 + (1 : Int32)) (fun v16 => f_X8_sure_15 n x1 x2 v15 v16 μ10))) else (ck (inb x4 36) (if x1 = 0 then (f_X8_sure_60 (f_X8_sure_15 n) x1 x2 x4 (0 : Int32) (μ10.1 46 (Int32.toNatClampNeg x4)) x3 μ10) else (f_X8_sure_60 (f_X8_sure_15 n) x1 x2 x4 (1 : Int32) (μ10.1 46 (Int32.toNatClampNeg x4)) x3 μ10))))))
def F_X8_sure (a0 : Int32) (μ : Mem) : Out := lt (sI μ 29 8 (0 : Int32)) (fun μ1 => cI (F_X8_laysSures μ1) (fun v6 μ3 => f_X8_sure_15 BIG a0 v6 (0 : Int32) (0 : Int32) μ3))
def Γ_X8_sure : Gam := fun as μ r μ' => ∃ (a0 : Int32), as = [.ref 29, .int a0] ∧ F_X8_sure a0 μ = some (r, μ')
def mX8_sure : MI := (cX8_sure, [(127, (1, 2, 0, 6, Γ_X8_isCell)), (224, (1, 0, 0, 6, Γ_X8_laysSures))], [(59, 6, 21), (65, 6, 8)], [], [], [], [], none, (some .int))
set_option maxHeartbeats 4000000 in
theorem g_X8_sure_60 {r : Res} {μ' : Mem} {k15 : Int32 → Int32 → Int32 → Int32 → Mem → Out} (hk15 : ∀ (x1 : Int32) (x2 : Int32) (x3 : Int32) (x4 : Int32), ∀ (μ : Mem) (b : Nat), 0 ≤ b → k15 x1 x2 x3 x4 μ = some (r, μ') → G mX8_sure (Qe r μ') 15 [some (.ref 29), some (.int x1), some (.int x2), some (.int x3), some (.int x4)] [] μ b) : ∀ (x1 : Int32) (x2 : Int32) (x4 : Int32) (s0 : Int32) (s1 : Int32) (s2 : Int32), ∀ (μ : Mem) (b : Nat), 0 ≤ b → f_X8_sure_60 k15 x1 x2 x4 s0 s1 s2 μ = some (r, μ') → G mX8_sure (Qe r μ') 60 [some (.ref 29), some (.int x1), some (.int x2), none, some (.int x4)] [.int s0, .int s1, .int s2] μ b := by
  intro x1 x2 x4 s0 s1 s2 μ b hb9 h
  unfold f_X8_sure_60 at h
  refine e_ic_ne (tgt := 67) dX8_sure_60 rfl (fun hc19 => ?_) (fun hc19 => ?_)
  · rw [if_neg hc19] at h
    refine e_iconst dX8_sure_67 ci_0 ?_
    refine e_iadd dX8_sure_68 ?_
    refine e_naI h (fun v20 ev20 h => ?_)
    refine e_istore_nL [some (.ref 29), some (.int x1), some (.int x2), some (.int v20), some (.int x4)] dX8_sure_69 (Nat.le_of_ble_eq_true rfl) rfl ?_
    refine e_iincN 4 (1 : Int32) dX8_sure_70 rfl ci_1 h (fun y9 => [some (.ref 29), some (.int x1), some (.int x2), some (.int v20), some (.int y9)]) (fun _ => rfl) (fun v21 ev21 h => ?_)
    refine e_goto (tgt := 15) dX8_sure_73 rfl ?_
    exact e_le (hk15 x1 x2 v20 v21 μ _ (by omega) h) ⟨rfl, rfl, rfl, rfl, rfl, trivial⟩
  · rw [if_pos hc19] at h
    refine e_iconst dX8_sure_63 ci_1 ?_
    refine e_goto (tgt := 68) dX8_sure_64 rfl ?_
    refine e_iadd dX8_sure_68 ?_
    refine e_naI h (fun v22 ev22 h => ?_)
    refine e_istore_nL [some (.ref 29), some (.int x1), some (.int x2), some (.int v22), some (.int x4)] dX8_sure_69 (Nat.le_of_ble_eq_true rfl) rfl ?_
    refine e_iincN 4 (1 : Int32) dX8_sure_70 rfl ci_1 h (fun y9 => [some (.ref 29), some (.int x1), some (.int x2), some (.int v22), some (.int y9)]) (fun _ => rfl) (fun v23 ev23 h => ?_)
    refine e_goto (tgt := 15) dX8_sure_73 rfl ?_
    exact e_le (hk15 x1 x2 v22 v23 μ _ (by omega) h) ⟨rfl, rfl, rfl, rfl, rfl, trivial⟩
set_option maxHeartbeats 4000000 in
theorem g_X8_sure_15 {r : Res} {μ' : Mem} : ∀ n : Nat, ∀ (x1 : Int32) (x2 : Int32) (x3 : Int32) (x4 : Int32), ∀ (μ : Mem) (b : Nat), 0 ≤ b → f_X8_sure_15 n x1 x2 x3 x4 μ = some (r, μ') → G mX8_sure (Qe r μ') 15 [some (.ref 29), some (.int x1), some (.int x2), some (.int x3), some (.int x4)] [] μ b := by
  intro n
  induction n with
  | zero => intro x1 x2 x3 x4 μ b hb9 h; exact nomatch (show (none : Out) = some _ from h)
  | succ n ih =>
    intro x1 x2 x3 x4 μ b hb9 h
    rw [f_X8_sure_15.eq_2] at h
    refine e_iload dX8_sure_15 rfl ?_
    refine e_bipush dX8_sure_17 cb_36 ?_
    refine e_ic_ge (tgt := 76) dX8_sure_19 rfl (fun hc7 => ?_) (fun hc7 => ?_)
    · rw [if_pos hc7] at h
      refine e_iload_n dX8_sure_76 rfl ?_
      exact e_iret .int dX8_sure_77 rfl rfl (ret_eq h)
    · rw [if_neg hc7] at h
      refine e_iload_n dX8_sure_22 rfl ?_
      refine e_if_eq (tgt := 76) dX8_sure_23 rfl (fun hc8 => ?_) (fun hc8 => ?_)
      · rw [if_pos hc8] at h
        refine e_iload_n dX8_sure_76 rfl ?_
        exact e_iret .int dX8_sure_77 rfl rfl (ret_eq h)
      · rw [if_neg hc8] at h
        refine e_iload_n dX8_sure_26 rfl ?_
        refine e_aload_n dX8_sure_27 rfl ?_
        refine e_iload dX8_sure_28 rfl ?_
        refine e_bipush dX8_sure_30 cb_6 ?_
        refine e_idiv dX8_sure_32 (by decide) ?_
        refine e_iload dX8_sure_33 rfl ?_
        refine e_bipush dX8_sure_35 cb_6 ?_
        refine e_irem dX8_sure_37 (by decide) ?_
        refine cI_go h (fun E11 hc9 hr12 => e_VX [.int (x4 / (6 : Int32)), .int (remI x4 (6 : Int32))] [.int x3] dX8_sure_38 rfl rfl rfl rfl (by decide) (Nat.le_of_ble_eq_true rfl) (by omega) ⟨x4 / (6 : Int32), remI x4 (6 : Int32), rfl, hc9⟩ rfl ⟨hr12.symm, rfl⟩) (fun v13 μ10 hc9 h => ?_)
        refine e_VI [.int (x4 / (6 : Int32)), .int (remI x4 (6 : Int32))] [.int x3] dX8_sure_38 rfl rfl rfl rfl (by decide) (Nat.le_of_ble_eq_true rfl) (by omega) ⟨x4 / (6 : Int32), remI x4 (6 : Int32), rfl, hc9⟩ ?_
        refine e_if_eq (tgt := 67) dX8_sure_41 rfl (fun hc14 => ?_) (fun hc14 => ?_)
        · rw [if_pos hc14] at h
          refine e_iconst dX8_sure_67 ci_0 ?_
          refine e_iadd dX8_sure_68 ?_
          refine e_naI h (fun v15 ev15 h => ?_)
          refine e_istore_nL [some (.ref 29), some (.int x1), some (.int x2), some (.int v15), some (.int x4)] dX8_sure_69 (Nat.le_of_ble_eq_true rfl) rfl ?_
          refine e_iincN 4 (1 : Int32) dX8_sure_70 rfl ci_1 h (fun y9 => [some (.ref 29), some (.int x1), some (.int x2), some (.int v15), some (.int y9)]) (fun _ => rfl) (fun v16 ev16 h => ?_)
          refine e_goto (tgt := 15) dX8_sure_73 rfl ?_
          exact e_le (ih x1 x2 v15 v16 μ10 _ (by omega) h) ⟨rfl, rfl, rfl, rfl, rfl, trivial⟩
        · rw [if_neg hc14] at h
          refine e_aload_n dX8_sure_44 rfl ?_
          refine e_get (ci := 6) (j := 21) (t := 2) (v := .ref 46) dX8_sure_45 rfl (by decide) rfl rfl rfl ?_
          refine e_iload dX8_sure_48 rfl ?_
          obtain ⟨hc17, h⟩ := ck_eq h
          refine e_ialoadL (μ10.1 46 (Int32.toNatClampNeg x4)) (n := 36) dX8_sure_50 (by decide) rfl hc17 rfl ?_
          refine e_iload_n dX8_sure_51 rfl ?_
          refine e_if_eq (tgt := 59) dX8_sure_52 rfl (fun hc18 => ?_) (fun hc18 => ?_)
          · rw [if_pos hc18] at h
            refine e_iconst dX8_sure_59 ci_0 ?_
            exact e_le (g_X8_sure_60 ih x1 x2 x4 (0 : Int32) (μ10.1 46 (Int32.toNatClampNeg x4)) x3 μ10 _ (by omega) h) ⟨rfl, rfl, rfl, rfl, trivial⟩
          · rw [if_neg hc18] at h
            refine e_iconst dX8_sure_55 ci_1 ?_
            refine e_goto (tgt := 60) dX8_sure_56 rfl ?_
            exact e_le (g_X8_sure_60 ih x1 x2 x4 (1 : Int32) (μ10.1 46 (Int32.toNatClampNeg x4)) x3 μ10 _ (by omega) h) ⟨rfl, rfl, rfl, rfl, trivial⟩
set_option maxHeartbeats 4000000 in
theorem b_X8_sure : ∀ as μ r μ', Γ_X8_sure as μ r μ' → (elvL as).length ≤ 5 ∧ G mX8_sure (Qe r μ') 0 (elv as 5) [] μ 0 := by
  intro as μ r μ' h
  obtain ⟨a0, rfl, h⟩ := h
  refine ⟨Nat.le_of_ble_eq_true rfl, ?_⟩
  show G mX8_sure (Qe r μ') 0 [some (.ref 29), some (.int a0), none, none, none] [] μ 0
  unfold F_X8_sure at h
  have hb9 : 0 ≤ 0 := Nat.le_refl _
  refine e_aload_n dX8_sure_0 rfl ?_
  refine e_iconst dX8_sure_1 ci_0 ?_
  refine e_putI (ci := 6) (j := 8) dX8_sure_2 rfl (by decide) rfl rfl ?_
  refine e_naM (e := sI μ 29 8 (0 : Int32)) h (fun μ1 eμ1 h => ?_)
  refine e_aload_n dX8_sure_5 rfl ?_
  refine cI_go h (fun E4 hc2 hr5 => e_VX [] [] dX8_sure_6 rfl rfl rfl rfl (by decide) (Nat.le_of_ble_eq_true rfl) (by omega) ⟨rfl, hc2⟩ rfl ⟨hr5.symm, rfl⟩) (fun v6 μ3 hc2 h => ?_)
  refine e_VI [] [] dX8_sure_6 rfl rfl rfl rfl (by decide) (Nat.le_of_ble_eq_true rfl) (by omega) ⟨rfl, hc2⟩ ?_
  refine e_istore_nL [some (.ref 29), some (.int a0), some (.int v6), none, none] dX8_sure_9 (Nat.le_of_ble_eq_true rfl) rfl ?_
  refine e_iconst dX8_sure_10 ci_0 ?_
  refine e_istore_nL [some (.ref 29), some (.int a0), some (.int v6), some (.int (0 : Int32)), none] dX8_sure_11 (Nat.le_of_ble_eq_true rfl) rfl ?_
  refine e_iconst dX8_sure_12 ci_0 ?_
  refine e_istoreL [some (.ref 29), some (.int a0), some (.int v6), some (.int (0 : Int32)), some (.int (0 : Int32))] dX8_sure_13 (Nat.le_of_ble_eq_true rfl) rfl ?_
  exact e_le (g_X8_sure_15 BIG a0 v6 (0 : Int32) (0 : Int32) μ3 _ (by omega) h) ⟨rfl, rfl, rfl, rfl, rfl, trivial⟩
set_option maxRecDepth 20000 in
theorem ok_X8_sure (l : Launch) (hl : l.stackTraces = false) : MOK l yX8_sure.cls 6 115 mX8_sure := ⟨lk_all (List.forall_mem_cons.mpr ⟨⟨yX8_isCell, cX8_isCell, 3, (some .boolean), 2, 22, by decide, by decide, t_1 7 rfl rfl, hd_X8_isCell, Or.inr (Or.inl ⟨rfl, sc_X8_isCell l hl, t_5 105 rfl rfl, t_5 102 rfl rfl, t_5 104 rfl rfl, _, rfl, t_p 49 rfl⟩)⟩, List.forall_mem_cons.mpr ⟨⟨yX8_laysSures, cX8_laysSures, 4, (some .boolean), 5, 92, by decide, by decide, t_1 7 rfl rfl, hd_X8_laysSures, Or.inr (Or.inl ⟨rfl, sc_X8_laysSures l hl, t_5 165 rfl rfl, t_5 162 rfl rfl, t_5 164 rfl rfl, _, rfl, t_p 62 rfl⟩)⟩, nil_all⟩⟩), fun ix ci j h => lk_all (P := fun ix q => FldOK yX8_sure.cls ix q.1 q.2) (List.forall_mem_cons.mpr ⟨⟨_, rfl, by decide, t_4 199 rfl rfl⟩, List.forall_mem_cons.mpr ⟨⟨_, rfl, by decide, t_4 186 rfl rfl⟩, nil_all⟩⟩) ix (ci, j) h, lk_all (nil_all), lk_all (nil_all), lk_all (nil_all)⟩
theorem hd_X8_sure : CallHd yX8_sure 1 := ⟨by decide +kernel, by decide +kernel, by decide +kernel⟩
theorem sc_X8_sure (l : Launch) (hl : l.stackTraces = false) : SCon l yX8_sure cX8_sure 5 (some .int) 6 115 0 Γ_X8_sure := scon_of mX8_sure cls_ok hl (by decide +kernel) rfl rfl (ok_X8_sure l hl) rfl rfl b_X8_sure
def F_X8_thrown (μ : Mem) : Out := rI (μ.1 29 8) μ
def Γ_X8_thrown : Gam := fun as μ r μ' => as = [.ref 29] ∧ F_X8_thrown μ = some (r, μ')
def mX8_thrown : MI := (cX8_thrown, [], [(65, 6, 8)], [], [], [], [], none, (some .int))
set_option maxHeartbeats 4000000 in
theorem b_X8_thrown : ∀ as μ r μ', Γ_X8_thrown as μ r μ' → (elvL as).length ≤ 1 ∧ G mX8_thrown (Qe r μ') 0 (elv as 1) [] μ 0 := by
  intro as μ r μ' h
  obtain ⟨rfl, h⟩ := h
  refine ⟨Nat.le_of_ble_eq_true rfl, ?_⟩
  show G mX8_thrown (Qe r μ') 0 [some (.ref 29)] [] μ 0
  unfold F_X8_thrown at h
  have hb9 : 0 ≤ 0 := Nat.le_refl _
  refine e_aload_n dX8_thrown_0 rfl ?_
  refine e_get (ci := 6) (j := 8) (t := 0) (v := .int (μ.1 29 8)) dX8_thrown_1 rfl (by decide) rfl rfl rfl ?_
  exact e_iret .int dX8_thrown_4 rfl rfl (ret_eq h)
set_option maxRecDepth 20000 in
theorem ok_X8_thrown (l : Launch) (hl : l.stackTraces = false) : MOK l yX8_thrown.cls 1 0 mX8_thrown := ⟨lk_all (nil_all), fun ix ci j h => lk_all (P := fun ix q => FldOK yX8_thrown.cls ix q.1 q.2) (List.forall_mem_cons.mpr ⟨⟨_, rfl, by decide, t_4 186 rfl rfl⟩, nil_all⟩) ix (ci, j) h, lk_all (nil_all), lk_all (nil_all), lk_all (nil_all)⟩
theorem hd_X8_thrown : CallHd yX8_thrown 0 := ⟨by decide +kernel, by decide +kernel, by decide +kernel⟩
theorem sc_X8_thrown (l : Launch) (hl : l.stackTraces = false) : SCon l yX8_thrown cX8_thrown 1 (some .int) 1 0 0 Γ_X8_thrown := scon_of mX8_thrown cls_ok hl (by decide +kernel) rfl rfl (ok_X8_thrown l hl) rfl rfl b_X8_thrown
def F_X8_turn (μ : Mem) : Out := lt (sI μ 29 8 (0 : Int32)) (fun μ1 => cV (F_X8_remembers μ1) (fun μ3 => cV (F_X8_turns μ3) (fun μ7 => cI (F_X8_rows μ7) (fun v14 μ11 => rI v14 μ11))))
def Γ_X8_turn : Gam := fun as μ r μ' => as = [.ref 29] ∧ F_X8_turn μ = some (r, μ')
def mX8_turn : MI := (cX8_turn, [(76, (1, 0, 0, 6, Γ_X8_rows)), (230, (1, 0, 0, 6, Γ_X8_remembers)), (245, (1, 0, 0, 6, Γ_X8_turns))], [(65, 6, 8)], [], [], [], [], none, (some .int))
set_option maxHeartbeats 4000000 in
theorem b_X8_turn : ∀ as μ r μ', Γ_X8_turn as μ r μ' → (elvL as).length ≤ 1 ∧ G mX8_turn (Qe r μ') 0 (elv as 1) [] μ 0 := by
  intro as μ r μ' h
  obtain ⟨rfl, h⟩ := h
  refine ⟨Nat.le_of_ble_eq_true rfl, ?_⟩
  show G mX8_turn (Qe r μ') 0 [some (.ref 29)] [] μ 0
  unfold F_X8_turn at h
  have hb9 : 0 ≤ 0 := Nat.le_refl _
  refine e_aload_n dX8_turn_0 rfl ?_
  refine e_iconst dX8_turn_1 ci_0 ?_
  refine e_putI (ci := 6) (j := 8) dX8_turn_2 rfl (by decide) rfl rfl ?_
  refine e_naM (e := sI μ 29 8 (0 : Int32)) h (fun μ1 eμ1 h => ?_)
  refine e_aload_n dX8_turn_5 rfl ?_
  refine cV_go h (fun E4 hc2 hr5 => e_VX [] [] dX8_turn_6 rfl rfl rfl rfl (by decide) (Nat.le_of_ble_eq_true rfl) (by omega) ⟨rfl, hc2⟩ rfl ⟨hr5.symm, rfl⟩) (fun μ3 hc2 h => ?_)
  refine e_VV [] [] dX8_turn_6 rfl rfl rfl rfl (by decide) (Nat.le_of_ble_eq_true rfl) (by omega) ⟨rfl, hc2⟩ ?_
  refine e_aload_n dX8_turn_9 rfl ?_
  refine cV_go h (fun E8 hc6 hr9 => e_VX [] [] dX8_turn_10 rfl rfl rfl rfl (by decide) (Nat.le_of_ble_eq_true rfl) (by omega) ⟨rfl, hc6⟩ rfl ⟨hr9.symm, rfl⟩) (fun μ7 hc6 h => ?_)
  refine e_VV [] [] dX8_turn_10 rfl rfl rfl rfl (by decide) (Nat.le_of_ble_eq_true rfl) (by omega) ⟨rfl, hc6⟩ ?_
  refine e_aload_n dX8_turn_13 rfl ?_
  refine cI_go h (fun E12 hc10 hr13 => e_VX [] [] dX8_turn_14 rfl rfl rfl rfl (by decide) (Nat.le_of_ble_eq_true rfl) (by omega) ⟨rfl, hc10⟩ rfl ⟨hr13.symm, rfl⟩) (fun v14 μ11 hc10 h => ?_)
  refine e_VI [] [] dX8_turn_14 rfl rfl rfl rfl (by decide) (Nat.le_of_ble_eq_true rfl) (by omega) ⟨rfl, hc10⟩ ?_
  exact e_iret .int dX8_turn_17 rfl rfl (ret_eq h)
set_option maxRecDepth 20000 in
theorem ok_X8_turn (l : Launch) (hl : l.stackTraces = false) : MOK l yX8_turn.cls 3 48 mX8_turn := ⟨lk_all (List.forall_mem_cons.mpr ⟨⟨yX8_rows, cX8_rows, 1, (some .int), 1, 0, by decide, by decide, t_1 7 rfl rfl, hd_X8_rows, Or.inr (Or.inl ⟨rfl, sc_X8_rows l hl, t_5 45 rfl rfl, t_5 42 rfl rfl, t_5 44 rfl rfl, _, rfl, t_p 35 rfl⟩)⟩, List.forall_mem_cons.mpr ⟨⟨yX8_remembers, cX8_remembers, 2, none, 2, 24, by decide, by decide, t_1 7 rfl rfl, hd_X8_remembers, Or.inr (Or.inl ⟨rfl, sc_X8_remembers l hl, t_5 204 rfl rfl, t_5 201 rfl rfl, t_5 203 rfl rfl, _, rfl, t_p 67 rfl⟩)⟩, List.forall_mem_cons.mpr ⟨⟨yX8_turns, cX8_turns, 5, none, 2, 24, by decide, by decide, t_1 7 rfl rfl, hd_X8_turns, Or.inr (Or.inl ⟨rfl, sc_X8_turns l hl, t_6 47 rfl rfl, t_6 44 rfl rfl, t_6 46 rfl rfl, _, rfl, t_p 79 rfl⟩)⟩, nil_all⟩⟩⟩), fun ix ci j h => lk_all (P := fun ix q => FldOK yX8_turn.cls ix q.1 q.2) (List.forall_mem_cons.mpr ⟨⟨_, rfl, by decide, t_4 186 rfl rfl⟩, nil_all⟩) ix (ci, j) h, lk_all (nil_all), lk_all (nil_all), lk_all (nil_all)⟩
theorem hd_X8_turn : CallHd yX8_turn 0 := ⟨by decide +kernel, by decide +kernel, by decide +kernel⟩
theorem sc_X8_turn (l : Launch) (hl : l.stackTraces = false) : SCon l yX8_turn cX8_turn 1 (some .int) 3 48 0 Γ_X8_turn := scon_of mX8_turn cls_ok hl (by decide +kernel) rfl rfl (ok_X8_turn l hl) rfl rfl b_X8_turn
def f_X8_undo_13 (s0 : Int32) (μ : Mem) : Out := lt (sI μ 29 8 s0) (fun μ2 => if (μ2.1 29 8) = 0 then (lt (sI μ2 29 2 ((μ2.1 29 2) - (1 : Int32))) (fun μ4 => cV (F_X8_copies 31 ((μ4.1 29 2) * (50 : Int32)) 30 (0 : Int32) μ4) (fun μ6 => rI (μ6.1 29 2) μ6))) else (rI (0 : Int32) μ2))
def F_X8_undo (μ : Mem) : Out := if (μ.1 29 2) = 0 then (f_X8_undo_13 (1 : Int32) μ) else (f_X8_undo_13 (0 : Int32) μ)
def Γ_X8_undo : Gam := fun as μ r μ' => as = [.ref 29] ∧ F_X8_undo μ = some (r, μ')
def mX8_undo : MI := (cX8_undo, [(72, (0, 4, 0, 0, Γ_X8_copies))], [(7, 6, 0), (13, 6, 1), (65, 6, 8), (69, 6, 2)], [], [], [], [], none, (some .int))
set_option maxHeartbeats 4000000 in
theorem g_X8_undo_13 {r : Res} {μ' : Mem} : ∀ (s0 : Int32), ∀ (μ : Mem) (b : Nat), 0 ≤ b → f_X8_undo_13 s0 μ = some (r, μ') → G mX8_undo (Qe r μ') 13 [some (.ref 29)] [.int s0, .ref 29] μ b := by
  intro s0 μ b hb9 h
  unfold f_X8_undo_13 at h
  refine e_putI (ci := 6) (j := 8) dX8_undo_13 rfl (by decide) rfl rfl ?_
  refine e_naM (e := sI μ 29 8 s0) h (fun μ2 eμ2 h => ?_)
  refine e_aload_n dX8_undo_16 rfl ?_
  refine e_get (ci := 6) (j := 8) (t := 0) (v := .int (μ2.1 29 8)) dX8_undo_17 rfl (by decide) rfl rfl rfl ?_
  refine e_if_eq (tgt := 25) dX8_undo_20 rfl (fun hc3 => ?_) (fun hc3 => ?_)
  · rw [if_pos hc3] at h
    refine e_aload_n dX8_undo_25 rfl ?_
    refine e_dup dX8_undo_26 rfl ?_
    refine e_get (ci := 6) (j := 2) (t := 0) (v := .int (μ2.1 29 2)) dX8_undo_27 rfl (by decide) rfl rfl rfl ?_
    refine e_iconst dX8_undo_30 ci_1 ?_
    refine e_isub dX8_undo_31 ?_
    refine e_putI (ci := 6) (j := 2) dX8_undo_32 rfl (by decide) rfl rfl ?_
    refine e_naM (e := sI μ2 29 2 ((μ2.1 29 2) - (1 : Int32))) h (fun μ4 eμ4 h => ?_)
    refine e_aload_n dX8_undo_35 rfl ?_
    refine e_get (ci := 6) (j := 1) (t := 2) (v := .ref 31) dX8_undo_36 rfl (by decide) rfl rfl rfl ?_
    refine e_aload_n dX8_undo_39 rfl ?_
    refine e_get (ci := 6) (j := 2) (t := 0) (v := .int (μ4.1 29 2)) dX8_undo_40 rfl (by decide) rfl rfl rfl ?_
    refine e_bipush dX8_undo_43 cb_50 ?_
    refine e_imul dX8_undo_45 ?_
    refine e_aload_n dX8_undo_46 rfl ?_
    refine e_get (ci := 6) (j := 0) (t := 2) (v := .ref 30) dX8_undo_47 rfl (by decide) rfl rfl rfl ?_
    refine e_iconst dX8_undo_50 ci_0 ?_
    refine cV_go h (fun E7 hc5 hr8 => e_SX [.ref 31, .int ((μ4.1 29 2) * (50 : Int32)), .ref 30, .int (0 : Int32)] [] dX8_undo_51 rfl (by decide) rfl rfl (Nat.le_of_ble_eq_true rfl) (by omega) ⟨31, (μ4.1 29 2) * (50 : Int32), 30, (0 : Int32), rfl, (by decide), (by decide), hc5⟩ rfl ⟨hr8.symm, rfl⟩) (fun μ6 hc5 h => ?_)
    refine e_SV [.ref 31, .int ((μ4.1 29 2) * (50 : Int32)), .ref 30, .int (0 : Int32)] [] dX8_undo_51 rfl (by decide) rfl rfl (Nat.le_of_ble_eq_true rfl) (by omega) ⟨31, (μ4.1 29 2) * (50 : Int32), 30, (0 : Int32), rfl, (by decide), (by decide), hc5⟩ ?_
    refine e_aload_n dX8_undo_54 rfl ?_
    refine e_get (ci := 6) (j := 2) (t := 0) (v := .int (μ6.1 29 2)) dX8_undo_55 rfl (by decide) rfl rfl rfl ?_
    exact e_iret .int dX8_undo_58 rfl rfl (ret_eq h)
  · rw [if_neg hc3] at h
    refine e_iconst dX8_undo_23 ci_0 ?_
    exact e_iret .int dX8_undo_24 rfl rfl (ret_eq h)
set_option maxHeartbeats 4000000 in
theorem b_X8_undo : ∀ as μ r μ', Γ_X8_undo as μ r μ' → (elvL as).length ≤ 1 ∧ G mX8_undo (Qe r μ') 0 (elv as 1) [] μ 0 := by
  intro as μ r μ' h
  obtain ⟨rfl, h⟩ := h
  refine ⟨Nat.le_of_ble_eq_true rfl, ?_⟩
  show G mX8_undo (Qe r μ') 0 [some (.ref 29)] [] μ 0
  unfold F_X8_undo at h
  have hb9 : 0 ≤ 0 := Nat.le_refl _
  refine e_aload_n dX8_undo_0 rfl ?_
  refine e_aload_n dX8_undo_1 rfl ?_
  refine e_get (ci := 6) (j := 2) (t := 0) (v := .int (μ.1 29 2)) dX8_undo_2 rfl (by decide) rfl rfl rfl ?_
  refine e_if_ne (tgt := 12) dX8_undo_5 rfl (fun hc1 => ?_) (fun hc1 => ?_)
  · rw [if_neg hc1] at h
    refine e_iconst dX8_undo_12 ci_0 ?_
    exact e_le (g_X8_undo_13 (0 : Int32) μ _ (by omega) h) ⟨rfl, trivial⟩
  · rw [if_pos hc1] at h
    refine e_iconst dX8_undo_8 ci_1 ?_
    refine e_goto (tgt := 13) dX8_undo_9 rfl ?_
    exact e_le (g_X8_undo_13 (1 : Int32) μ _ (by omega) h) ⟨rfl, trivial⟩
set_option maxRecDepth 20000 in
theorem ok_X8_undo (l : Launch) (hl : l.stackTraces = false) : MOK l yX8_undo.cls 2 24 mX8_undo := ⟨lk_all (List.forall_mem_cons.mpr ⟨⟨yX8_copies, cX8_copies, 5, none, 1, 0, by decide, by decide, t_1 7 rfl rfl, hd_X8_copies, Or.inl ⟨rfl, sc_X8_copies l hl, t_5 207 rfl rfl, t_5 205 rfl rfl, t_5 206 rfl rfl⟩⟩, nil_all⟩), fun ix ci j h => lk_all (P := fun ix q => FldOK yX8_undo.cls ix q.1 q.2) (List.forall_mem_cons.mpr ⟨⟨_, rfl, by decide, t_4 178 rfl rfl⟩, List.forall_mem_cons.mpr ⟨⟨_, rfl, by decide, t_4 179 rfl rfl⟩, List.forall_mem_cons.mpr ⟨⟨_, rfl, by decide, t_4 186 rfl rfl⟩, List.forall_mem_cons.mpr ⟨⟨_, rfl, by decide, t_4 180 rfl rfl⟩, nil_all⟩⟩⟩⟩) ix (ci, j) h, lk_all (nil_all), lk_all (nil_all), lk_all (nil_all)⟩
theorem hd_X8_undo : CallHd yX8_undo 0 := ⟨by decide +kernel, by decide +kernel, by decide +kernel⟩
theorem sc_X8_undo (l : Launch) (hl : l.stackTraces = false) : SCon l yX8_undo cX8_undo 1 (some .int) 2 24 0 Γ_X8_undo := scon_of mX8_undo cls_ok hl (by decide +kernel) rfl rfl (ok_X8_undo l hl) rfl rfl b_X8_undo
def f_X8_want_28 (x1 : Int32) (x2 : Int32) (s0 : Int32) (μ : Mem) : Out := lt (sI μ 29 8 s0) (fun μ13 => if (μ13.1 29 8) = 0 then (cV (F_X8_remembers μ13) (fun μ16 => cI (F_X8_wantAt x1 μ16) (fun v23 μ20 => ck (inb v23 50) (lt (μ20.1 30 (Int32.toNatClampNeg v23)) (fun v25 => cI (F_X8_wantAt x1 μ20) (fun v30 μ27 => ck (inb v30 50) (lt (sI μ27 30 (Int32.toNatClampNeg v30) x2) (fun μ32 => rI v25 μ32)))))))) else (rI (0 : Int32) μ13))
def F_X8_want (a0 : Int32) (a1 : Int32) (μ : Mem) : Out := cI (F_X8_isLine a0 μ) (fun v5 μ2 => if v5 = 0 then (f_X8_want_28 a0 a1 (1 : Int32) μ2) else (cI (F_X8_in a1 (0 : Int32) (6 : Int32) μ2) (fun v11 μ8 => if v11 = 0 then (f_X8_want_28 a0 a1 (2 : Int32) μ8) else (f_X8_want_28 a0 a1 (0 : Int32) μ8))))
def Γ_X8_want : Gam := fun as μ r μ' => ∃ (a0 : Int32) (a1 : Int32), as = [.ref 29, .int a0, .int a1] ∧ F_X8_want a0 a1 μ = some (r, μ')
def mX8_want : MI := (cX8_want, [(80, (0, 3, 0, 0, Γ_X8_in)), (105, (1, 1, 0, 6, Γ_X8_wantAt)), (214, (1, 1, 0, 6, Γ_X8_isLine)), (230, (1, 0, 0, 6, Γ_X8_remembers))], [(7, 6, 0), (65, 6, 8)], [], [], [], [], none, (some .int))
set_option maxHeartbeats 4000000 in
theorem g_X8_want_28 {r : Res} {μ' : Mem} : ∀ (x1 : Int32) (x2 : Int32) (s0 : Int32), ∀ (μ : Mem) (b : Nat), 0 ≤ b → f_X8_want_28 x1 x2 s0 μ = some (r, μ') → G mX8_want (Qe r μ') 28 [some (.ref 29), some (.int x1), some (.int x2), none] [.int s0, .ref 29] μ b := by
  intro x1 x2 s0 μ b hb9 h
  unfold f_X8_want_28 at h
  refine e_putI (ci := 6) (j := 8) dX8_want_28 rfl (by decide) rfl rfl ?_
  refine e_naM (e := sI μ 29 8 s0) h (fun μ13 eμ13 h => ?_)
  refine e_aload_n dX8_want_31 rfl ?_
  refine e_get (ci := 6) (j := 8) (t := 0) (v := .int (μ13.1 29 8)) dX8_want_32 rfl (by decide) rfl rfl rfl ?_
  refine e_if_eq (tgt := 40) dX8_want_35 rfl (fun hc14 => ?_) (fun hc14 => ?_)
  · rw [if_pos hc14] at h
    refine e_aload_n dX8_want_40 rfl ?_
    refine cV_go h (fun E17 hc15 hr18 => e_VX [] [] dX8_want_41 rfl rfl rfl rfl (by decide) (Nat.le_of_ble_eq_true rfl) (by omega) ⟨rfl, hc15⟩ rfl ⟨hr18.symm, rfl⟩) (fun μ16 hc15 h => ?_)
    refine e_VV [] [] dX8_want_41 rfl rfl rfl rfl (by decide) (Nat.le_of_ble_eq_true rfl) (by omega) ⟨rfl, hc15⟩ ?_
    refine e_aload_n dX8_want_44 rfl ?_
    refine e_get (ci := 6) (j := 0) (t := 2) (v := .ref 30) dX8_want_45 rfl (by decide) rfl rfl rfl ?_
    refine e_aload_n dX8_want_48 rfl ?_
    refine e_iload_n dX8_want_49 rfl ?_
    refine cI_go h (fun E21 hc19 hr22 => e_VX [.int x1] [.ref 30] dX8_want_50 rfl rfl rfl rfl (by decide) (Nat.le_of_ble_eq_true rfl) (by omega) ⟨x1, rfl, hc19⟩ rfl ⟨hr22.symm, rfl⟩) (fun v23 μ20 hc19 h => ?_)
    refine e_VI [.int x1] [.ref 30] dX8_want_50 rfl rfl rfl rfl (by decide) (Nat.le_of_ble_eq_true rfl) (by omega) ⟨x1, rfl, hc19⟩ ?_
    obtain ⟨hc24, h⟩ := ck_eq h
    refine e_ialoadL (μ20.1 30 (Int32.toNatClampNeg v23)) (n := 50) dX8_want_53 (by decide) rfl hc24 rfl ?_
    refine e_naI h (fun v25 ev25 h => ?_)
    refine e_istore_nL [some (.ref 29), some (.int x1), some (.int x2), some (.int v25)] dX8_want_54 (Nat.le_of_ble_eq_true rfl) rfl ?_
    refine e_aload_n dX8_want_55 rfl ?_
    refine e_get (ci := 6) (j := 0) (t := 2) (v := .ref 30) dX8_want_56 rfl (by decide) rfl rfl rfl ?_
    refine e_aload_n dX8_want_59 rfl ?_
    refine e_iload_n dX8_want_60 rfl ?_
    refine cI_go h (fun E28 hc26 hr29 => e_VX [.int x1] [.ref 30] dX8_want_61 rfl rfl rfl rfl (by decide) (Nat.le_of_ble_eq_true rfl) (by omega) ⟨x1, rfl, hc26⟩ rfl ⟨hr29.symm, rfl⟩) (fun v30 μ27 hc26 h => ?_)
    refine e_VI [.int x1] [.ref 30] dX8_want_61 rfl rfl rfl rfl (by decide) (Nat.le_of_ble_eq_true rfl) (by omega) ⟨x1, rfl, hc26⟩ ?_
    refine e_iload_n dX8_want_64 rfl ?_
    obtain ⟨hc31, h⟩ := ck_eq h
    refine e_iastore (n := 50) dX8_want_65 (by decide) rfl hc31 ?_
    refine e_naM (e := sI μ27 30 (Int32.toNatClampNeg v30) x2) h (fun μ32 eμ32 h => ?_)
    refine e_iload_n dX8_want_66 rfl ?_
    exact e_iret .int dX8_want_67 rfl rfl (ret_eq h)
  · rw [if_neg hc14] at h
    refine e_iconst dX8_want_38 ci_0 ?_
    exact e_iret .int dX8_want_39 rfl rfl (ret_eq h)
set_option maxHeartbeats 4000000 in
theorem b_X8_want : ∀ as μ r μ', Γ_X8_want as μ r μ' → (elvL as).length ≤ 4 ∧ G mX8_want (Qe r μ') 0 (elv as 4) [] μ 0 := by
  intro as μ r μ' h
  obtain ⟨a0, a1, rfl, h⟩ := h
  refine ⟨Nat.le_of_ble_eq_true rfl, ?_⟩
  show G mX8_want (Qe r μ') 0 [some (.ref 29), some (.int a0), some (.int a1), none] [] μ 0
  unfold F_X8_want at h
  have hb9 : 0 ≤ 0 := Nat.le_refl _
  refine e_aload_n dX8_want_0 rfl ?_
  refine e_aload_n dX8_want_1 rfl ?_
  refine e_iload_n dX8_want_2 rfl ?_
  refine cI_go h (fun E3 hc1 hr4 => e_VX [.int a0] [.ref 29] dX8_want_3 rfl rfl rfl rfl (by decide) (Nat.le_of_ble_eq_true rfl) (by omega) ⟨a0, rfl, hc1⟩ rfl ⟨hr4.symm, rfl⟩) (fun v5 μ2 hc1 h => ?_)
  refine e_VI [.int a0] [.ref 29] dX8_want_3 rfl rfl rfl rfl (by decide) (Nat.le_of_ble_eq_true rfl) (by omega) ⟨a0, rfl, hc1⟩ ?_
  refine e_if_ne (tgt := 13) dX8_want_6 rfl (fun hc6 => ?_) (fun hc6 => ?_)
  · rw [if_neg hc6] at h
    refine e_iload_n dX8_want_13 rfl ?_
    refine e_iconst dX8_want_14 ci_0 ?_
    refine e_bipush dX8_want_15 cb_6 ?_
    refine cI_go h (fun E9 hc7 hr10 => e_SX [.int a1, .int (0 : Int32), .int (6 : Int32)] [.ref 29] dX8_want_17 rfl (by decide) rfl rfl (Nat.le_of_ble_eq_true rfl) (by omega) ⟨a1, (0 : Int32), (6 : Int32), rfl, hc7⟩ rfl ⟨hr10.symm, rfl⟩) (fun v11 μ8 hc7 h => ?_)
    refine e_SI [.int a1, .int (0 : Int32), .int (6 : Int32)] [.ref 29] dX8_want_17 rfl (by decide) rfl rfl (Nat.le_of_ble_eq_true rfl) (by omega) ⟨a1, (0 : Int32), (6 : Int32), rfl, hc7⟩ ?_
    refine e_if_ne (tgt := 27) dX8_want_20 rfl (fun hc12 => ?_) (fun hc12 => ?_)
    · rw [if_neg hc12] at h
      refine e_iconst dX8_want_27 ci_0 ?_
      exact e_le (g_X8_want_28 a0 a1 (0 : Int32) μ8 _ (by omega) h) ⟨rfl, rfl, rfl, trivial⟩
    · rw [if_pos hc12] at h
      refine e_iconst dX8_want_23 ci_2 ?_
      refine e_goto (tgt := 28) dX8_want_24 rfl ?_
      exact e_le (g_X8_want_28 a0 a1 (2 : Int32) μ8 _ (by omega) h) ⟨rfl, rfl, rfl, trivial⟩
  · rw [if_pos hc6] at h
    refine e_iconst dX8_want_9 ci_1 ?_
    refine e_goto (tgt := 28) dX8_want_10 rfl ?_
    exact e_le (g_X8_want_28 a0 a1 (1 : Int32) μ2 _ (by omega) h) ⟨rfl, rfl, rfl, trivial⟩
set_option maxRecDepth 20000 in
theorem ok_X8_want (l : Launch) (hl : l.stackTraces = false) : MOK l yX8_want.cls 3 45 mX8_want := ⟨lk_all (List.forall_mem_cons.mpr ⟨⟨yX8_in, cX8_in, 3, (some .boolean), 1, 0, by decide, by decide, t_1 7 rfl rfl, hd_X8_in, Or.inl ⟨rfl, sc_X8_in l hl, t_5 18 rfl rfl, t_5 16 rfl rfl, t_5 17 rfl rfl⟩⟩, List.forall_mem_cons.mpr ⟨⟨yX8_wantAt, cX8_wantAt, 2, (some .int), 2, 20, by decide, by decide, t_1 7 rfl rfl, hd_X8_wantAt, Or.inr (Or.inl ⟨rfl, sc_X8_wantAt l hl, t_5 53 rfl rfl, t_5 50 rfl rfl, t_5 52 rfl rfl, _, rfl, t_p 37 rfl⟩)⟩, List.forall_mem_cons.mpr ⟨⟨yX8_isLine, cX8_isLine, 2, (some .boolean), 2, 22, by decide, by decide, t_1 7 rfl rfl, hd_X8_isLine, Or.inr (Or.inl ⟨rfl, sc_X8_isLine l hl, t_5 149 rfl rfl, t_5 146 rfl rfl, t_5 148 rfl rfl, _, rfl, t_p 59 rfl⟩)⟩, List.forall_mem_cons.mpr ⟨⟨yX8_remembers, cX8_remembers, 2, none, 2, 24, by decide, by decide, t_1 7 rfl rfl, hd_X8_remembers, Or.inr (Or.inl ⟨rfl, sc_X8_remembers l hl, t_5 204 rfl rfl, t_5 201 rfl rfl, t_5 203 rfl rfl, _, rfl, t_p 67 rfl⟩)⟩, nil_all⟩⟩⟩⟩), fun ix ci j h => lk_all (P := fun ix q => FldOK yX8_want.cls ix q.1 q.2) (List.forall_mem_cons.mpr ⟨⟨_, rfl, by decide, t_4 178 rfl rfl⟩, List.forall_mem_cons.mpr ⟨⟨_, rfl, by decide, t_4 186 rfl rfl⟩, nil_all⟩⟩) ix (ci, j) h, lk_all (nil_all), lk_all (nil_all), lk_all (nil_all)⟩
theorem hd_X8_want : CallHd yX8_want 2 := ⟨by decide +kernel, by decide +kernel, by decide +kernel⟩
theorem sc_X8_want (l : Launch) (hl : l.stackTraces = false) : SCon l yX8_want cX8_want 4 (some .int) 3 45 0 Γ_X8_want := scon_of mX8_want cls_ok hl (by decide +kernel) rfl rfl (ok_X8_want l hl) rfl rfl b_X8_want
def f_X8_wantAll_16 : Nat → Int32 → Int32 → Mem → Out
  | 0, _, _, _ => none
  | n + 1, x1, x2, μ => cI (F_X8_rows μ) (fun v15 μ12 => cI (F_X8_columns μ12) (fun v20 μ17 => if (v15 + v20) ≤ x2 then (rI x1 μ17) else (cI (F_X8_wantAt x2 μ17) (fun v26 μ23 => cI (F_X8_countOf x2 μ23) (fun v31 μ28 => ck (inb v26 50) (lt (sI μ28 30 (Int32.toNatClampNeg v26) v31) (fun μ33 => lt (x2 + (1 : Int32)) (fun v34 => f_X8_wantAll_16 n x1 v34 μ33))))))))
def F_X8_wantAll (μ : Mem) : Out := lt (sI μ 29 8 (0 : Int32)) (fun μ1 => cV (F_X8_remembers μ1) (fun μ3 => cI (F_X8_wrongLines μ3) (fun v10 μ7 => f_X8_wantAll_16 BIG v10 (0 : Int32) μ7)))
def Γ_X8_wantAll : Gam := fun as μ r μ' => as = [.ref 29] ∧ F_X8_wantAll μ = some (r, μ')
def mX8_wantAll : MI := (cX8_wantAll, [(76, (1, 0, 0, 6, Γ_X8_rows)), (84, (1, 0, 0, 6, Γ_X8_columns)), (102, (1, 1, 0, 6, Γ_X8_countOf)), (105, (1, 1, 0, 6, Γ_X8_wantAt)), (199, (1, 0, 0, 6, Γ_X8_wrongLines)), (230, (1, 0, 0, 6, Γ_X8_remembers))], [(7, 6, 0), (65, 6, 8)], [], [], [], [], none, (some .int))
set_option maxHeartbeats 4000000 in
theorem g_X8_wantAll_16 {r : Res} {μ' : Mem} : ∀ n : Nat, ∀ (x1 : Int32) (x2 : Int32), ∀ (μ : Mem) (b : Nat), 0 ≤ b → f_X8_wantAll_16 n x1 x2 μ = some (r, μ') → G mX8_wantAll (Qe r μ') 16 [some (.ref 29), some (.int x1), some (.int x2)] [] μ b := by
  intro n
  induction n with
  | zero => intro x1 x2 μ b hb9 h; exact nomatch (show (none : Out) = some _ from h)
  | succ n ih =>
    intro x1 x2 μ b hb9 h
    rw [f_X8_wantAll_16.eq_2] at h
    refine e_iload_n dX8_wantAll_16 rfl ?_
    refine e_aload_n dX8_wantAll_17 rfl ?_
    refine cI_go h (fun E13 hc11 hr14 => e_VX [] [.int x2] dX8_wantAll_18 rfl rfl rfl rfl (by decide) (Nat.le_of_ble_eq_true rfl) (by omega) ⟨rfl, hc11⟩ rfl ⟨hr14.symm, rfl⟩) (fun v15 μ12 hc11 h => ?_)
    refine e_VI [] [.int x2] dX8_wantAll_18 rfl rfl rfl rfl (by decide) (Nat.le_of_ble_eq_true rfl) (by omega) ⟨rfl, hc11⟩ ?_
    refine e_aload_n dX8_wantAll_21 rfl ?_
    refine cI_go h (fun E18 hc16 hr19 => e_VX [] [.int v15, .int x2] dX8_wantAll_22 rfl rfl rfl rfl (by decide) (Nat.le_of_ble_eq_true rfl) (by omega) ⟨rfl, hc16⟩ rfl ⟨hr19.symm, rfl⟩) (fun v20 μ17 hc16 h => ?_)
    refine e_VI [] [.int v15, .int x2] dX8_wantAll_22 rfl rfl rfl rfl (by decide) (Nat.le_of_ble_eq_true rfl) (by omega) ⟨rfl, hc16⟩ ?_
    refine e_iadd dX8_wantAll_25 ?_
    refine e_ic_ge (tgt := 50) dX8_wantAll_26 rfl (fun hc21 => ?_) (fun hc21 => ?_)
    · rw [if_pos hc21] at h
      refine e_iload_n dX8_wantAll_50 rfl ?_
      exact e_iret .int dX8_wantAll_51 rfl rfl (ret_eq h)
    · rw [if_neg hc21] at h
      refine e_aload_n dX8_wantAll_29 rfl ?_
      refine e_get (ci := 6) (j := 0) (t := 2) (v := .ref 30) dX8_wantAll_30 rfl (by decide) rfl rfl rfl ?_
      refine e_aload_n dX8_wantAll_33 rfl ?_
      refine e_iload_n dX8_wantAll_34 rfl ?_
      refine cI_go h (fun E24 hc22 hr25 => e_VX [.int x2] [.ref 30] dX8_wantAll_35 rfl rfl rfl rfl (by decide) (Nat.le_of_ble_eq_true rfl) (by omega) ⟨x2, rfl, hc22⟩ rfl ⟨hr25.symm, rfl⟩) (fun v26 μ23 hc22 h => ?_)
      refine e_VI [.int x2] [.ref 30] dX8_wantAll_35 rfl rfl rfl rfl (by decide) (Nat.le_of_ble_eq_true rfl) (by omega) ⟨x2, rfl, hc22⟩ ?_
      refine e_aload_n dX8_wantAll_38 rfl ?_
      refine e_iload_n dX8_wantAll_39 rfl ?_
      refine cI_go h (fun E29 hc27 hr30 => e_VX [.int x2] [.int v26, .ref 30] dX8_wantAll_40 rfl rfl rfl rfl (by decide) (Nat.le_of_ble_eq_true rfl) (by omega) ⟨x2, rfl, hc27⟩ rfl ⟨hr30.symm, rfl⟩) (fun v31 μ28 hc27 h => ?_)
      refine e_VI [.int x2] [.int v26, .ref 30] dX8_wantAll_40 rfl rfl rfl rfl (by decide) (Nat.le_of_ble_eq_true rfl) (by omega) ⟨x2, rfl, hc27⟩ ?_
      obtain ⟨hc32, h⟩ := ck_eq h
      refine e_iastore (n := 50) dX8_wantAll_43 (by decide) rfl hc32 ?_
      refine e_naM (e := sI μ28 30 (Int32.toNatClampNeg v26) v31) h (fun μ33 eμ33 h => ?_)
      refine e_iincN 2 (1 : Int32) dX8_wantAll_44 rfl ci_1 h (fun y9 => [some (.ref 29), some (.int x1), some (.int y9)]) (fun _ => rfl) (fun v34 ev34 h => ?_)
      refine e_goto (tgt := 16) dX8_wantAll_47 rfl ?_
      exact e_le (ih x1 v34 μ33 _ (by omega) h) ⟨rfl, rfl, rfl, trivial⟩
set_option maxHeartbeats 4000000 in
theorem b_X8_wantAll : ∀ as μ r μ', Γ_X8_wantAll as μ r μ' → (elvL as).length ≤ 3 ∧ G mX8_wantAll (Qe r μ') 0 (elv as 3) [] μ 0 := by
  intro as μ r μ' h
  obtain ⟨rfl, h⟩ := h
  refine ⟨Nat.le_of_ble_eq_true rfl, ?_⟩
  show G mX8_wantAll (Qe r μ') 0 [some (.ref 29), none, none] [] μ 0
  unfold F_X8_wantAll at h
  have hb9 : 0 ≤ 0 := Nat.le_refl _
  refine e_aload_n dX8_wantAll_0 rfl ?_
  refine e_iconst dX8_wantAll_1 ci_0 ?_
  refine e_putI (ci := 6) (j := 8) dX8_wantAll_2 rfl (by decide) rfl rfl ?_
  refine e_naM (e := sI μ 29 8 (0 : Int32)) h (fun μ1 eμ1 h => ?_)
  refine e_aload_n dX8_wantAll_5 rfl ?_
  refine cV_go h (fun E4 hc2 hr5 => e_VX [] [] dX8_wantAll_6 rfl rfl rfl rfl (by decide) (Nat.le_of_ble_eq_true rfl) (by omega) ⟨rfl, hc2⟩ rfl ⟨hr5.symm, rfl⟩) (fun μ3 hc2 h => ?_)
  refine e_VV [] [] dX8_wantAll_6 rfl rfl rfl rfl (by decide) (Nat.le_of_ble_eq_true rfl) (by omega) ⟨rfl, hc2⟩ ?_
  refine e_aload_n dX8_wantAll_9 rfl ?_
  refine cI_go h (fun E8 hc6 hr9 => e_VX [] [] dX8_wantAll_10 rfl rfl rfl rfl (by decide) (Nat.le_of_ble_eq_true rfl) (by omega) ⟨rfl, hc6⟩ rfl ⟨hr9.symm, rfl⟩) (fun v10 μ7 hc6 h => ?_)
  refine e_VI [] [] dX8_wantAll_10 rfl rfl rfl rfl (by decide) (Nat.le_of_ble_eq_true rfl) (by omega) ⟨rfl, hc6⟩ ?_
  refine e_istore_nL [some (.ref 29), some (.int v10), none] dX8_wantAll_13 (Nat.le_of_ble_eq_true rfl) rfl ?_
  refine e_iconst dX8_wantAll_14 ci_0 ?_
  refine e_istore_nL [some (.ref 29), some (.int v10), some (.int (0 : Int32))] dX8_wantAll_15 (Nat.le_of_ble_eq_true rfl) rfl ?_
  exact e_le (g_X8_wantAll_16 BIG v10 (0 : Int32) μ7 _ (by omega) h) ⟨rfl, rfl, rfl, trivial⟩
set_option maxRecDepth 20000 in
theorem ok_X8_wantAll (l : Launch) (hl : l.stackTraces = false) : MOK l yX8_wantAll.cls 5 87 mX8_wantAll := ⟨lk_all (List.forall_mem_cons.mpr ⟨⟨yX8_rows, cX8_rows, 1, (some .int), 1, 0, by decide, by decide, t_1 7 rfl rfl, hd_X8_rows, Or.inr (Or.inl ⟨rfl, sc_X8_rows l hl, t_5 45 rfl rfl, t_5 42 rfl rfl, t_5 44 rfl rfl, _, rfl, t_p 35 rfl⟩)⟩, List.forall_mem_cons.mpr ⟨⟨yX8_columns, cX8_columns, 1, (some .int), 1, 0, by decide, by decide, t_1 7 rfl rfl, hd_X8_columns, Or.inr (Or.inl ⟨rfl, sc_X8_columns l hl, t_5 49 rfl rfl, t_5 46 rfl rfl, t_5 48 rfl rfl, _, rfl, t_p 36 rfl⟩)⟩, List.forall_mem_cons.mpr ⟨⟨yX8_countOf, cX8_countOf, 4, (some .int), 3, 42, by decide, by decide, t_1 7 rfl rfl, hd_X8_countOf, Or.inr (Or.inl ⟨rfl, sc_X8_countOf l hl, t_5 57 rfl rfl, t_5 54 rfl rfl, t_5 56 rfl rfl, _, rfl, t_p 38 rfl⟩)⟩, List.forall_mem_cons.mpr ⟨⟨yX8_wantAt, cX8_wantAt, 2, (some .int), 2, 20, by decide, by decide, t_1 7 rfl rfl, hd_X8_wantAt, Or.inr (Or.inl ⟨rfl, sc_X8_wantAt l hl, t_5 53 rfl rfl, t_5 50 rfl rfl, t_5 52 rfl rfl, _, rfl, t_p 37 rfl⟩)⟩, List.forall_mem_cons.mpr ⟨⟨yX8_wrongLines, cX8_wrongLines, 3, (some .int), 4, 65, by decide, by decide, t_1 7 rfl rfl, hd_X8_wrongLines, Or.inr (Or.inl ⟨rfl, sc_X8_wrongLines l hl, t_5 97 rfl rfl, t_5 94 rfl rfl, t_5 96 rfl rfl, _, rfl, t_p 47 rfl⟩)⟩, List.forall_mem_cons.mpr ⟨⟨yX8_remembers, cX8_remembers, 2, none, 2, 24, by decide, by decide, t_1 7 rfl rfl, hd_X8_remembers, Or.inr (Or.inl ⟨rfl, sc_X8_remembers l hl, t_5 204 rfl rfl, t_5 201 rfl rfl, t_5 203 rfl rfl, _, rfl, t_p 67 rfl⟩)⟩, nil_all⟩⟩⟩⟩⟩⟩), fun ix ci j h => lk_all (P := fun ix q => FldOK yX8_wantAll.cls ix q.1 q.2) (List.forall_mem_cons.mpr ⟨⟨_, rfl, by decide, t_4 178 rfl rfl⟩, List.forall_mem_cons.mpr ⟨⟨_, rfl, by decide, t_4 186 rfl rfl⟩, nil_all⟩⟩) ix (ci, j) h, lk_all (nil_all), lk_all (nil_all), lk_all (nil_all)⟩
theorem hd_X8_wantAll : CallHd yX8_wantAll 0 := ⟨by decide +kernel, by decide +kernel, by decide +kernel⟩
theorem sc_X8_wantAll (l : Launch) (hl : l.stackTraces = false) : SCon l yX8_wantAll cX8_wantAll 3 (some .int) 5 87 0 Γ_X8_wantAll := scon_of mX8_wantAll cls_ok hl (by decide +kernel) rfl rfl (ok_X8_wantAll l hl) rfl rfl b_X8_wantAll
def f_X8_whyNot_14 (x1 : Int32) (s0 : Int32) (μ : Mem) : Out := lt (sI μ 29 8 s0) (fun μ7 => if (μ7.1 29 8) = 0 then (cI (F_X8_wantAt x1 μ7) (fun v13 μ10 => ck (inb v13 50) (lt (μ10.1 30 (Int32.toNatClampNeg v13)) (fun v15 => cI (F_X8_countOf x1 μ10) (fun v20 μ17 => if v20 = v15 then (rI (0 : Int32) μ17) else (cI (F_X8_lengthOf x1 μ17) (fun v26 μ23 => cI (F_X8_pinsOf x1 (0 : Int32) μ23) (fun v31 μ28 => if v15 ≤ (v26 - v31) then (cI (F_X8_pinsOf x1 (1 : Int32) μ28) (fun v37 μ34 => if v37 ≤ v15 then (rI (3 : Int32) μ34) else (rI (2 : Int32) μ34))) else (rI (1 : Int32) μ28))))))))) else (rI (0 : Int32) μ7))
def F_X8_whyNot (a0 : Int32) (μ : Mem) : Out := cI (F_X8_isLine a0 μ) (fun v5 μ2 => if v5 = 0 then (f_X8_whyNot_14 a0 (1 : Int32) μ2) else (f_X8_whyNot_14 a0 (0 : Int32) μ2))
def Γ_X8_whyNot : Gam := fun as μ r μ' => ∃ (a0 : Int32), as = [.ref 29, .int a0] ∧ F_X8_whyNot a0 μ = some (r, μ')
def mX8_whyNot : MI := (cX8_whyNot, [(87, (1, 1, 0, 6, Γ_X8_lengthOf)), (102, (1, 1, 0, 6, Γ_X8_countOf)), (105, (1, 1, 0, 6, Γ_X8_wantAt)), (214, (1, 1, 0, 6, Γ_X8_isLine)), (221, (1, 2, 0, 6, Γ_X8_pinsOf))], [(7, 6, 0), (65, 6, 8)], [], [], [], [], none, (some .int))
set_option maxHeartbeats 4000000 in
theorem g_X8_whyNot_14 {r : Res} {μ' : Mem} : ∀ (x1 : Int32) (s0 : Int32), ∀ (μ : Mem) (b : Nat), 0 ≤ b → f_X8_whyNot_14 x1 s0 μ = some (r, μ') → G mX8_whyNot (Qe r μ') 14 [some (.ref 29), some (.int x1), none] [.int s0, .ref 29] μ b := by
  intro x1 s0 μ b hb9 h
  unfold f_X8_whyNot_14 at h
  refine e_putI (ci := 6) (j := 8) dX8_whyNot_14 rfl (by decide) rfl rfl ?_
  refine e_naM (e := sI μ 29 8 s0) h (fun μ7 eμ7 h => ?_)
  refine e_aload_n dX8_whyNot_17 rfl ?_
  refine e_get (ci := 6) (j := 8) (t := 0) (v := .int (μ7.1 29 8)) dX8_whyNot_18 rfl (by decide) rfl rfl rfl ?_
  refine e_if_eq (tgt := 26) dX8_whyNot_21 rfl (fun hc8 => ?_) (fun hc8 => ?_)
  · rw [if_pos hc8] at h
    refine e_aload_n dX8_whyNot_26 rfl ?_
    refine e_get (ci := 6) (j := 0) (t := 2) (v := .ref 30) dX8_whyNot_27 rfl (by decide) rfl rfl rfl ?_
    refine e_aload_n dX8_whyNot_30 rfl ?_
    refine e_iload_n dX8_whyNot_31 rfl ?_
    refine cI_go h (fun E11 hc9 hr12 => e_VX [.int x1] [.ref 30] dX8_whyNot_32 rfl rfl rfl rfl (by decide) (Nat.le_of_ble_eq_true rfl) (by omega) ⟨x1, rfl, hc9⟩ rfl ⟨hr12.symm, rfl⟩) (fun v13 μ10 hc9 h => ?_)
    refine e_VI [.int x1] [.ref 30] dX8_whyNot_32 rfl rfl rfl rfl (by decide) (Nat.le_of_ble_eq_true rfl) (by omega) ⟨x1, rfl, hc9⟩ ?_
    obtain ⟨hc14, h⟩ := ck_eq h
    refine e_ialoadL (μ10.1 30 (Int32.toNatClampNeg v13)) (n := 50) dX8_whyNot_35 (by decide) rfl hc14 rfl ?_
    refine e_naI h (fun v15 ev15 h => ?_)
    refine e_istore_nL [some (.ref 29), some (.int x1), some (.int v15)] dX8_whyNot_36 (Nat.le_of_ble_eq_true rfl) rfl ?_
    refine e_aload_n dX8_whyNot_37 rfl ?_
    refine e_iload_n dX8_whyNot_38 rfl ?_
    refine cI_go h (fun E18 hc16 hr19 => e_VX [.int x1] [] dX8_whyNot_39 rfl rfl rfl rfl (by decide) (Nat.le_of_ble_eq_true rfl) (by omega) ⟨x1, rfl, hc16⟩ rfl ⟨hr19.symm, rfl⟩) (fun v20 μ17 hc16 h => ?_)
    refine e_VI [.int x1] [] dX8_whyNot_39 rfl rfl rfl rfl (by decide) (Nat.le_of_ble_eq_true rfl) (by omega) ⟨x1, rfl, hc16⟩ ?_
    refine e_iload_n dX8_whyNot_42 rfl ?_
    refine e_ic_ne (tgt := 50) dX8_whyNot_43 rfl (fun hc21 => ?_) (fun hc21 => ?_)
    · rw [if_neg hc21] at h
      refine e_iload_n dX8_whyNot_50 rfl ?_
      refine e_aload_n dX8_whyNot_51 rfl ?_
      refine e_iload_n dX8_whyNot_52 rfl ?_
      refine cI_go h (fun E24 hc22 hr25 => e_VX [.int x1] [.int v15] dX8_whyNot_53 rfl rfl rfl rfl (by decide) (Nat.le_of_ble_eq_true rfl) (by omega) ⟨x1, rfl, hc22⟩ rfl ⟨hr25.symm, rfl⟩) (fun v26 μ23 hc22 h => ?_)
      refine e_VI [.int x1] [.int v15] dX8_whyNot_53 rfl rfl rfl rfl (by decide) (Nat.le_of_ble_eq_true rfl) (by omega) ⟨x1, rfl, hc22⟩ ?_
      refine e_aload_n dX8_whyNot_56 rfl ?_
      refine e_iload_n dX8_whyNot_57 rfl ?_
      refine e_iconst dX8_whyNot_58 ci_0 ?_
      refine cI_go h (fun E29 hc27 hr30 => e_VX [.int x1, .int (0 : Int32)] [.int v26, .int v15] dX8_whyNot_59 rfl rfl rfl rfl (by decide) (Nat.le_of_ble_eq_true rfl) (by omega) ⟨x1, (0 : Int32), rfl, hc27⟩ rfl ⟨hr30.symm, rfl⟩) (fun v31 μ28 hc27 h => ?_)
      refine e_VI [.int x1, .int (0 : Int32)] [.int v26, .int v15] dX8_whyNot_59 rfl rfl rfl rfl (by decide) (Nat.le_of_ble_eq_true rfl) (by omega) ⟨x1, (0 : Int32), rfl, hc27⟩ ?_
      refine e_isub dX8_whyNot_62 ?_
      refine e_ic_le (tgt := 70) dX8_whyNot_63 rfl (fun hc32 => ?_) (fun hc32 => ?_)
      · rw [if_pos hc32] at h
        refine e_iload_n dX8_whyNot_70 rfl ?_
        refine e_aload_n dX8_whyNot_71 rfl ?_
        refine e_iload_n dX8_whyNot_72 rfl ?_
        refine e_iconst dX8_whyNot_73 ci_1 ?_
        refine cI_go h (fun E35 hc33 hr36 => e_VX [.int x1, .int (1 : Int32)] [.int v15] dX8_whyNot_74 rfl rfl rfl rfl (by decide) (Nat.le_of_ble_eq_true rfl) (by omega) ⟨x1, (1 : Int32), rfl, hc33⟩ rfl ⟨hr36.symm, rfl⟩) (fun v37 μ34 hc33 h => ?_)
        refine e_VI [.int x1, .int (1 : Int32)] [.int v15] dX8_whyNot_74 rfl rfl rfl rfl (by decide) (Nat.le_of_ble_eq_true rfl) (by omega) ⟨x1, (1 : Int32), rfl, hc33⟩ ?_
        refine e_ic_ge (tgt := 84) dX8_whyNot_77 rfl (fun hc38 => ?_) (fun hc38 => ?_)
        · rw [if_pos hc38] at h
          refine e_iconst dX8_whyNot_84 ci_3 ?_
          exact e_iret .int dX8_whyNot_85 rfl rfl (ret_eq h)
        · rw [if_neg hc38] at h
          refine e_iconst dX8_whyNot_80 ci_2 ?_
          refine e_goto (tgt := 85) dX8_whyNot_81 rfl ?_
          exact e_iret .int dX8_whyNot_85 rfl rfl (ret_eq h)
      · rw [if_neg hc32] at h
        refine e_iconst dX8_whyNot_66 ci_1 ?_
        refine e_goto (tgt := 85) dX8_whyNot_67 rfl ?_
        exact e_iret .int dX8_whyNot_85 rfl rfl (ret_eq h)
    · rw [if_pos hc21] at h
      refine e_iconst dX8_whyNot_46 ci_0 ?_
      refine e_goto (tgt := 85) dX8_whyNot_47 rfl ?_
      exact e_iret .int dX8_whyNot_85 rfl rfl (ret_eq h)
  · rw [if_neg hc8] at h
    refine e_iconst dX8_whyNot_24 ci_0 ?_
    exact e_iret .int dX8_whyNot_25 rfl rfl (ret_eq h)
set_option maxHeartbeats 4000000 in
theorem b_X8_whyNot : ∀ as μ r μ', Γ_X8_whyNot as μ r μ' → (elvL as).length ≤ 3 ∧ G mX8_whyNot (Qe r μ') 0 (elv as 3) [] μ 0 := by
  intro as μ r μ' h
  obtain ⟨a0, rfl, h⟩ := h
  refine ⟨Nat.le_of_ble_eq_true rfl, ?_⟩
  show G mX8_whyNot (Qe r μ') 0 [some (.ref 29), some (.int a0), none] [] μ 0
  unfold F_X8_whyNot at h
  have hb9 : 0 ≤ 0 := Nat.le_refl _
  refine e_aload_n dX8_whyNot_0 rfl ?_
  refine e_aload_n dX8_whyNot_1 rfl ?_
  refine e_iload_n dX8_whyNot_2 rfl ?_
  refine cI_go h (fun E3 hc1 hr4 => e_VX [.int a0] [.ref 29] dX8_whyNot_3 rfl rfl rfl rfl (by decide) (Nat.le_of_ble_eq_true rfl) (by omega) ⟨a0, rfl, hc1⟩ rfl ⟨hr4.symm, rfl⟩) (fun v5 μ2 hc1 h => ?_)
  refine e_VI [.int a0] [.ref 29] dX8_whyNot_3 rfl rfl rfl rfl (by decide) (Nat.le_of_ble_eq_true rfl) (by omega) ⟨a0, rfl, hc1⟩ ?_
  refine e_if_ne (tgt := 13) dX8_whyNot_6 rfl (fun hc6 => ?_) (fun hc6 => ?_)
  · rw [if_neg hc6] at h
    refine e_iconst dX8_whyNot_13 ci_0 ?_
    exact e_le (g_X8_whyNot_14 a0 (0 : Int32) μ2 _ (by omega) h) ⟨rfl, rfl, trivial⟩
  · rw [if_pos hc6] at h
    refine e_iconst dX8_whyNot_9 ci_1 ?_
    refine e_goto (tgt := 14) dX8_whyNot_10 rfl ?_
    exact e_le (g_X8_whyNot_14 a0 (1 : Int32) μ2 _ (by omega) h) ⟨rfl, rfl, trivial⟩
set_option maxRecDepth 20000 in
theorem ok_X8_whyNot (l : Launch) (hl : l.stackTraces = false) : MOK l yX8_whyNot.cls 4 68 mX8_whyNot := ⟨lk_all (List.forall_mem_cons.mpr ⟨⟨yX8_lengthOf, cX8_lengthOf, 2, (some .int), 2, 20, by decide, by decide, t_1 7 rfl rfl, hd_X8_lengthOf, Or.inr (Or.inl ⟨rfl, sc_X8_lengthOf l hl, t_5 61 rfl rfl, t_5 58 rfl rfl, t_5 60 rfl rfl, _, rfl, t_p 39 rfl⟩)⟩, List.forall_mem_cons.mpr ⟨⟨yX8_countOf, cX8_countOf, 4, (some .int), 3, 42, by decide, by decide, t_1 7 rfl rfl, hd_X8_countOf, Or.inr (Or.inl ⟨rfl, sc_X8_countOf l hl, t_5 57 rfl rfl, t_5 54 rfl rfl, t_5 56 rfl rfl, _, rfl, t_p 38 rfl⟩)⟩, List.forall_mem_cons.mpr ⟨⟨yX8_wantAt, cX8_wantAt, 2, (some .int), 2, 20, by decide, by decide, t_1 7 rfl rfl, hd_X8_wantAt, Or.inr (Or.inl ⟨rfl, sc_X8_wantAt l hl, t_5 53 rfl rfl, t_5 50 rfl rfl, t_5 52 rfl rfl, _, rfl, t_p 37 rfl⟩)⟩, List.forall_mem_cons.mpr ⟨⟨yX8_isLine, cX8_isLine, 2, (some .boolean), 2, 22, by decide, by decide, t_1 7 rfl rfl, hd_X8_isLine, Or.inr (Or.inl ⟨rfl, sc_X8_isLine l hl, t_5 149 rfl rfl, t_5 146 rfl rfl, t_5 148 rfl rfl, _, rfl, t_p 59 rfl⟩)⟩, List.forall_mem_cons.mpr ⟨⟨yX8_pinsOf, cX8_pinsOf, 7, (some .int), 3, 42, by decide, by decide, t_1 7 rfl rfl, hd_X8_pinsOf, Or.inr (Or.inl ⟨rfl, sc_X8_pinsOf l hl, t_5 157 rfl rfl, t_5 154 rfl rfl, t_5 156 rfl rfl, _, rfl, t_p 61 rfl⟩)⟩, nil_all⟩⟩⟩⟩⟩), fun ix ci j h => lk_all (P := fun ix q => FldOK yX8_whyNot.cls ix q.1 q.2) (List.forall_mem_cons.mpr ⟨⟨_, rfl, by decide, t_4 178 rfl rfl⟩, List.forall_mem_cons.mpr ⟨⟨_, rfl, by decide, t_4 186 rfl rfl⟩, nil_all⟩⟩) ix (ci, j) h, lk_all (nil_all), lk_all (nil_all), lk_all (nil_all)⟩
theorem hd_X8_whyNot : CallHd yX8_whyNot 1 := ⟨by decide +kernel, by decide +kernel, by decide +kernel⟩
theorem sc_X8_whyNot (l : Launch) (hl : l.stackTraces = false) : SCon l yX8_whyNot cX8_whyNot 3 (some .int) 4 68 0 Γ_X8_whyNot := scon_of mX8_whyNot cls_ok hl (by decide +kernel) rfl rfl (ok_X8_whyNot l hl) rfl rfl b_X8_whyNot
