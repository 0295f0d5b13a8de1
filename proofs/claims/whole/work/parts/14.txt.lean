def F_X3_forgetAll (μ : Mem) : Out := lt (sI μ 4 1 (0 : Int32)) (fun μ1 => rV μ1)
def Γ_X3_forgetAll : Gam := fun as μ r μ' => as = [.ref 4] ∧ F_X3_forgetAll μ = some (r, μ')
def mX3_forgetAll : MI := (cX3_forgetAll, [], [(15, 1, 1)], [], [], [], [], none, none)
set_option maxHeartbeats 4000000 in
theorem b_X3_forgetAll : ∀ as μ r μ', Γ_X3_forgetAll as μ r μ' → (elvL as).length ≤ 1 ∧ G mX3_forgetAll (Qe r μ') 0 (elv as 1) [] μ 0 := by
  intro as μ r μ' h
  obtain ⟨rfl, h⟩ := h
  refine ⟨Nat.le_of_ble_eq_true rfl, ?_⟩
  show G mX3_forgetAll (Qe r μ') 0 [some (.ref 4)] [] μ 0
  unfold F_X3_forgetAll at h
  have hb9 : 0 ≤ 0 := Nat.le_refl _
  refine e_aload_n dX3_forgetAll_0 rfl ?_
  refine e_iconst dX3_forgetAll_1 ci_0 ?_
  refine e_putI (ci := 1) (j := 1) dX3_forgetAll_2 rfl (by decide) rfl rfl ?_
  refine e_naM (e := sI μ 4 1 (0 : Int32)) h (fun μ1 eμ1 h => ?_)
  exact e_vret dX3_forgetAll_5 rfl (ret_eq h)
set_option maxRecDepth 20000 in
theorem ok_X3_forgetAll (l : Launch) (hl : l.stackTraces = false) : MOK l yX3_forgetAll.cls 1 0 mX3_forgetAll := ⟨lk_all (nil_all), fun ix ci j h => lk_all (P := fun ix q => FldOK yX3_forgetAll.cls ix q.1 q.2) (List.forall_mem_cons.mpr ⟨⟨_, rfl, by decide, t_1 86 rfl rfl⟩, nil_all⟩) ix (ci, j) h, lk_all (nil_all), lk_all (nil_all), lk_all (nil_all)⟩
theorem hd_X3_forgetAll : CallHd yX3_forgetAll 0 := ⟨by decide +kernel, by decide +kernel, by decide +kernel⟩
theorem sc_X3_forgetAll (l : Launch) (hl : l.stackTraces = false) : SCon l yX3_forgetAll cX3_forgetAll 1 none 1 0 0 Γ_X3_forgetAll := scon_of mX3_forgetAll cls_ok hl (by decide +kernel) rfl rfl (ok_X3_forgetAll l hl) rfl rfl b_X3_forgetAll
def f_X3_forgetOldest_2 : Nat → Int32 → Mem → Out
  | 0, _, _ => none
  | n + 1, x1, μ => if (14 : Int32) ≤ x1 then (lt (sI μ 4 1 ((μ.1 4 1) - (1 : Int32))) (fun μ2 => rV μ2)) else (ck (inb (x1 - (1 : Int32)) 14) (lt (μ.2.2 9 (Int32.toNatClampNeg (x1 - (1 : Int32)))) (fun q4 => ck (okO q4 2) (ck (inb x1 14) (lt (μ.2.2 9 (Int32.toNatClampNeg x1)) (fun q7 => ck (okO q7 2) (ck (inb (x1 - (1 : Int32)) 14) (lt (sR μ 9 (Int32.toNatClampNeg (x1 - (1 : Int32))) q7) (fun μ10 => ck (inb x1 14) (lt (sR μ10 9 (Int32.toNatClampNeg x1) q4) (fun μ12 => lt (x1 + (1 : Int32)) (fun v13 => f_X3_forgetOldest_2 n v13 μ12))))))))))))
def F_X3_forgetOldest (μ : Mem) : Out := f_X3_forgetOldest_2 BIG (1 : Int32) μ
def Γ_X3_forgetOldest : Gam := fun as μ r μ' => as = [.ref 4] ∧ F_X3_forgetOldest μ = some (r, μ')
def mX3_forgetOldest : MI := (cX3_forgetOldest, [], [(11, 1, 0), (15, 1, 1)], [], [], [], [], none, none)
set_option maxHeartbeats 4000000 in
theorem g_X3_forgetOldest_2 {r : Res} {μ' : Mem} : ∀ n : Nat, ∀ (x1 : Int32), ∀ (μ : Mem) (b : Nat), 0 ≤ b → f_X3_forgetOldest_2 n x1 μ = some (r, μ') → G mX3_forgetOldest (Qe r μ') 2 [some (.ref 4), some (.int x1), none] [] μ b := by
  intro n
  induction n with
  | zero => intro x1 μ b hb9 h; exact nomatch (show (none : Out) = some _ from h)
  | succ n ih =>
    intro x1 μ b hb9 h
    rw [f_X3_forgetOldest_2.eq_2] at h
    refine e_iload_n dX3_forgetOldest_2 rfl ?_
    refine e_aload_n dX3_forgetOldest_3 rfl ?_
    refine e_get (ci := 1) (j := 0) (t := 2) (v := .ref 9) dX3_forgetOldest_4 rfl (by decide) rfl rfl rfl ?_
    refine e_alen (t := 4) (n := 14) (v := (14 : Int32)) dX3_forgetOldest_7 (by decide) rfl (by decide) rfl ?_
    refine e_ic_ge (tgt := 47) dX3_forgetOldest_8 rfl (fun hc1 => ?_) (fun hc1 => ?_)
    · rw [if_pos hc1] at h
      refine e_aload_n dX3_forgetOldest_47 rfl ?_
      refine e_dup dX3_forgetOldest_48 rfl ?_
      refine e_get (ci := 1) (j := 1) (t := 0) (v := .int (μ.1 4 1)) dX3_forgetOldest_49 rfl (by decide) rfl rfl rfl ?_
      refine e_iconst dX3_forgetOldest_52 ci_1 ?_
      refine e_isub dX3_forgetOldest_53 ?_
      refine e_putI (ci := 1) (j := 1) dX3_forgetOldest_54 rfl (by decide) rfl rfl ?_
      refine e_naM (e := sI μ 4 1 ((μ.1 4 1) - (1 : Int32))) h (fun μ2 eμ2 h => ?_)
      exact e_vret dX3_forgetOldest_57 rfl (ret_eq h)
    · rw [if_neg hc1] at h
      refine e_aload_n dX3_forgetOldest_11 rfl ?_
      refine e_get (ci := 1) (j := 0) (t := 2) (v := .ref 9) dX3_forgetOldest_12 rfl (by decide) rfl rfl rfl ?_
      refine e_iload_n dX3_forgetOldest_15 rfl ?_
      refine e_iconst dX3_forgetOldest_16 ci_1 ?_
      refine e_isub dX3_forgetOldest_17 ?_
      obtain ⟨hc3, h⟩ := ck_eq h
      refine e_aaload (n := 14) dX3_forgetOldest_18 (by decide) rfl hc3 ?_
      refine e_naA h (fun q4 eq4 h => ?_)
      obtain ⟨hq5, h⟩ := ck_eq h
      refine e_astore_nL [some (.ref 4), some (.int x1), some (.ref q4)] dX3_forgetOldest_19 (Nat.le_of_ble_eq_true rfl) rfl ?_
      refine e_aload_n dX3_forgetOldest_20 rfl ?_
      refine e_get (ci := 1) (j := 0) (t := 2) (v := .ref 9) dX3_forgetOldest_21 rfl (by decide) rfl rfl rfl ?_
      refine e_iload_n dX3_forgetOldest_24 rfl ?_
      refine e_iconst dX3_forgetOldest_25 ci_1 ?_
      refine e_isub dX3_forgetOldest_26 ?_
      refine e_aload_n dX3_forgetOldest_27 rfl ?_
      refine e_get (ci := 1) (j := 0) (t := 2) (v := .ref 9) dX3_forgetOldest_28 rfl (by decide) rfl rfl rfl ?_
      refine e_iload_n dX3_forgetOldest_31 rfl ?_
      obtain ⟨hc6, h⟩ := ck_eq h
      refine e_aaload (n := 14) dX3_forgetOldest_32 (by decide) rfl hc6 ?_
      refine e_naA h (fun q7 eq7 h => ?_)
      obtain ⟨hq8, h⟩ := ck_eq h
      obtain ⟨hc9, h⟩ := ck_eq h
      refine e_aastore (n := 14) dX3_forgetOldest_33 (by decide) rfl hc9 hq8.1 hq8.2 ?_
      refine e_naM (e := sR μ 9 (Int32.toNatClampNeg (x1 - (1 : Int32))) q7) h (fun μ10 eμ10 h => ?_)
      refine e_aload_n dX3_forgetOldest_34 rfl ?_
      refine e_get (ci := 1) (j := 0) (t := 2) (v := .ref 9) dX3_forgetOldest_35 rfl (by decide) rfl rfl rfl ?_
      refine e_iload_n dX3_forgetOldest_38 rfl ?_
      refine e_aload_n dX3_forgetOldest_39 rfl ?_
      obtain ⟨hc11, h⟩ := ck_eq h
      refine e_aastore (n := 14) dX3_forgetOldest_40 (by decide) rfl hc11 hq5.1 hq5.2 ?_
      refine e_naM (e := sR μ10 9 (Int32.toNatClampNeg x1) q4) h (fun μ12 eμ12 h => ?_)
      refine e_iincN 1 (1 : Int32) dX3_forgetOldest_41 rfl ci_1 h (fun y9 => [some (.ref 4), some (.int y9), some (.ref q4)]) (fun _ => rfl) (fun v13 ev13 h => ?_)
      refine e_goto (tgt := 2) dX3_forgetOldest_44 rfl ?_
      exact e_le (ih v13 μ12 _ (by omega) h) ⟨rfl, rfl, trivial⟩
set_option maxHeartbeats 4000000 in
theorem b_X3_forgetOldest : ∀ as μ r μ', Γ_X3_forgetOldest as μ r μ' → (elvL as).length ≤ 3 ∧ G mX3_forgetOldest (Qe r μ') 0 (elv as 3) [] μ 0 := by
  intro as μ r μ' h
  obtain ⟨rfl, h⟩ := h
  refine ⟨Nat.le_of_ble_eq_true rfl, ?_⟩
  show G mX3_forgetOldest (Qe r μ') 0 [some (.ref 4), none, none] [] μ 0
  unfold F_X3_forgetOldest at h
  have hb9 : 0 ≤ 0 := Nat.le_refl _
  refine e_iconst dX3_forgetOldest_0 ci_1 ?_
  refine e_istore_nL [some (.ref 4), some (.int (1 : Int32)), none] dX3_forgetOldest_1 (Nat.le_of_ble_eq_true rfl) rfl ?_
  exact e_le (g_X3_forgetOldest_2 BIG (1 : Int32) μ _ (by omega) h) ⟨rfl, rfl, trivial⟩
set_option maxRecDepth 20000 in
theorem ok_X3_forgetOldest (l : Launch) (hl : l.stackTraces = false) : MOK l yX3_forgetOldest.cls 1 0 mX3_forgetOldest := ⟨lk_all (nil_all), fun ix ci j h => lk_all (P := fun ix q => FldOK yX3_forgetOldest.cls ix q.1 q.2) (List.forall_mem_cons.mpr ⟨⟨_, rfl, by decide, t_1 85 rfl rfl⟩, List.forall_mem_cons.mpr ⟨⟨_, rfl, by decide, t_1 86 rfl rfl⟩, nil_all⟩⟩) ix (ci, j) h, lk_all (nil_all), lk_all (nil_all), lk_all (nil_all)⟩
theorem hd_X3_forgetOldest : CallHd yX3_forgetOldest 0 := ⟨by decide +kernel, by decide +kernel, by decide +kernel⟩
theorem sc_X3_forgetOldest (l : Launch) (hl : l.stackTraces = false) : SCon l yX3_forgetOldest cX3_forgetOldest 3 none 1 0 0 Γ_X3_forgetOldest := scon_of mX3_forgetOldest cls_ok hl (by decide +kernel) rfl rfl (ok_X3_forgetOldest l hl) rfl rfl b_X3_forgetOldest
def F_X3_isEmpty (μ : Mem) : Out := if (μ.1 4 1) = 0 then (rI (1 : Int32) μ) else (rI (0 : Int32) μ)
def Γ_X3_isEmpty : Gam := fun as μ r μ' => as = [.ref 4] ∧ F_X3_isEmpty μ = some (r, μ')
def mX3_isEmpty : MI := (cX3_isEmpty, [], [(15, 1, 1)], [], [], [], [], none, (some .boolean))
set_option maxHeartbeats 4000000 in
theorem b_X3_isEmpty : ∀ as μ r μ', Γ_X3_isEmpty as μ r μ' → (elvL as).length ≤ 1 ∧ G mX3_isEmpty (Qe r μ') 0 (elv as 1) [] μ 0 := by
  intro as μ r μ' h
  obtain ⟨rfl, h⟩ := h
  refine ⟨Nat.le_of_ble_eq_true rfl, ?_⟩
  show G mX3_isEmpty (Qe r μ') 0 [some (.ref 4)] [] μ 0
  unfold F_X3_isEmpty at h
  have hb9 : 0 ≤ 0 := Nat.le_refl _
  refine e_aload_n dX3_isEmpty_0 rfl ?_
  refine e_get (ci := 1) (j := 1) (t := 0) (v := .int (μ.1 4 1)) dX3_isEmpty_1 rfl (by decide) rfl rfl rfl ?_
  refine e_if_ne (tgt := 11) dX3_isEmpty_4 rfl (fun hc1 => ?_) (fun hc1 => ?_)
  · rw [if_neg hc1] at h
    refine e_iconst dX3_isEmpty_11 ci_0 ?_
    exact e_iret .boolean dX3_isEmpty_12 rfl rfl (ret_eq h)
  · rw [if_pos hc1] at h
    refine e_iconst dX3_isEmpty_7 ci_1 ?_
    refine e_goto (tgt := 12) dX3_isEmpty_8 rfl ?_
    exact e_iret .boolean dX3_isEmpty_12 rfl rfl (ret_eq h)
set_option maxRecDepth 20000 in
theorem ok_X3_isEmpty (l : Launch) (hl : l.stackTraces = false) : MOK l yX3_isEmpty.cls 1 0 mX3_isEmpty := ⟨lk_all (nil_all), fun ix ci j h => lk_all (P := fun ix q => FldOK yX3_isEmpty.cls ix q.1 q.2) (List.forall_mem_cons.mpr ⟨⟨_, rfl, by decide, t_1 86 rfl rfl⟩, nil_all⟩) ix (ci, j) h, lk_all (nil_all), lk_all (nil_all), lk_all (nil_all)⟩
theorem hd_X3_isEmpty : CallHd yX3_isEmpty 0 := ⟨by decide +kernel, by decide +kernel, by decide +kernel⟩
theorem sc_X3_isEmpty (l : Launch) (hl : l.stackTraces = false) : SCon l yX3_isEmpty cX3_isEmpty 1 (some .boolean) 1 0 0 Γ_X3_isEmpty := scon_of mX3_isEmpty cls_ok hl (by decide +kernel) rfl rfl (ok_X3_isEmpty l hl) rfl rfl b_X3_isEmpty
def f_X3_remember_16 (k1 : Nat) (μ : Mem) : Out := if (μ.1 4 1) < 0 then (rV μ) else (if (14 : Int32) ≤ (μ.1 4 1) then (rV μ) else (ck (inb (μ.1 4 1) 14) (lt (μ.2.2 9 (Int32.toNatClampNeg (μ.1 4 1))) (fun q9 => ck (okO q9 2) (ck (inb (μ.1 4 1) 14) (lt (μ.2.2 9 (Int32.toNatClampNeg (μ.1 4 1))) (fun q12 => ck (okO q12 2) (cV (F_X4_copyFrom q12 k1 μ) (fun μ15 => lt (sI μ15 4 1 ((μ15.1 4 1) + (1 : Int32))) (fun μ18 => rV μ18))))))))))
def F_X3_remember (k1 : Nat) (μ : Mem) : Out := if (μ.1 4 1) < (14 : Int32) then (f_X3_remember_16 k1 μ) else (cV (F_X3_forgetOldest μ) (fun μ3 => f_X3_remember_16 k1 μ3))
def Γ_X3_remember : Gam := fun as μ r μ' => ∃ (k1 : Nat), as = [.ref 4, .ref k1] ∧ okO k1 2 ∧ F_X3_remember k1 μ = some (r, μ')
def mX3_remember : MI := (cX3_remember, [(20, (1, 0, 0, 1, Γ_X3_forgetOldest)), (23, (1, 1, 0, 2, Γ_X4_copyFrom))], [(11, 1, 0), (15, 1, 1)], [], [], [], [], none, none)
set_option maxHeartbeats 4000000 in
theorem g_X3_remember_16 {r : Res} {μ' : Mem} (k1 : Nat) (ho1 : okO k1 2) : ∀ (μ : Mem) (b : Nat), 0 ≤ b → f_X3_remember_16 k1 μ = some (r, μ') → G mX3_remember (Qe r μ') 16 [some (.ref 4), some (.ref k1)] [] μ b := by
  intro μ b hb9 h
  unfold f_X3_remember_16 at h
  refine e_aload_n dX3_remember_16 rfl ?_
  refine e_get (ci := 1) (j := 1) (t := 0) (v := .int (μ.1 4 1)) dX3_remember_17 rfl (by decide) rfl rfl rfl ?_
  refine e_if_lt (tgt := 70) dX3_remember_20 rfl (fun hc6 => ?_) (fun hc6 => ?_)
  · rw [if_pos hc6] at h
    exact e_vret dX3_remember_70 rfl (ret_eq h)
  · rw [if_neg hc6] at h
    refine e_aload_n dX3_remember_23 rfl ?_
    refine e_get (ci := 1) (j := 1) (t := 0) (v := .int (μ.1 4 1)) dX3_remember_24 rfl (by decide) rfl rfl rfl ?_
    refine e_aload_n dX3_remember_27 rfl ?_
    refine e_get (ci := 1) (j := 0) (t := 2) (v := .ref 9) dX3_remember_28 rfl (by decide) rfl rfl rfl ?_
    refine e_alen (t := 4) (n := 14) (v := (14 : Int32)) dX3_remember_31 (by decide) rfl (by decide) rfl ?_
    refine e_ic_ge (tgt := 70) dX3_remember_32 rfl (fun hc7 => ?_) (fun hc7 => ?_)
    · rw [if_pos hc7] at h
      exact e_vret dX3_remember_70 rfl (ret_eq h)
    · rw [if_neg hc7] at h
      refine e_aload_n dX3_remember_35 rfl ?_
      refine e_get (ci := 1) (j := 0) (t := 2) (v := .ref 9) dX3_remember_36 rfl (by decide) rfl rfl rfl ?_
      refine e_aload_n dX3_remember_39 rfl ?_
      refine e_get (ci := 1) (j := 1) (t := 0) (v := .int (μ.1 4 1)) dX3_remember_40 rfl (by decide) rfl rfl rfl ?_
      obtain ⟨hc8, h⟩ := ck_eq h
      refine e_aaload (n := 14) dX3_remember_43 (by decide) rfl hc8 ?_
      refine e_naA h (fun q9 eq9 h => ?_)
      obtain ⟨hq10, h⟩ := ck_eq h
      refine e_ifnull dX3_remember_44 ?_
      refine e_aload_n dX3_remember_47 rfl ?_
      refine e_get (ci := 1) (j := 0) (t := 2) (v := .ref 9) dX3_remember_48 rfl (by decide) rfl rfl rfl ?_
      refine e_aload_n dX3_remember_51 rfl ?_
      refine e_get (ci := 1) (j := 1) (t := 0) (v := .int (μ.1 4 1)) dX3_remember_52 rfl (by decide) rfl rfl rfl ?_
      obtain ⟨hc11, h⟩ := ck_eq h
      refine e_aaload (n := 14) dX3_remember_55 (by decide) rfl hc11 ?_
      refine e_naA h (fun q12 eq12 h => ?_)
      obtain ⟨hq13, h⟩ := ck_eq h
      refine e_aload_n dX3_remember_56 rfl ?_
      refine cV_go h (fun E16 hc14 hr17 => e_VX [.ref k1] [] dX3_remember_57 rfl rfl rfl rfl hq13 (Nat.le_of_ble_eq_true rfl) (by omega) ⟨q12, k1, rfl, hq13, ho1, hc14⟩ rfl ⟨hr17.symm, rfl⟩) (fun μ15 hc14 h => ?_)
      refine e_VV [.ref k1] [] dX3_remember_57 rfl rfl rfl rfl hq13 (Nat.le_of_ble_eq_true rfl) (by omega) ⟨q12, k1, rfl, hq13, ho1, hc14⟩ ?_
      refine e_aload_n dX3_remember_60 rfl ?_
      refine e_dup dX3_remember_61 rfl ?_
      refine e_get (ci := 1) (j := 1) (t := 0) (v := .int (μ15.1 4 1)) dX3_remember_62 rfl (by decide) rfl rfl rfl ?_
      refine e_iconst dX3_remember_65 ci_1 ?_
      refine e_iadd dX3_remember_66 ?_
      refine e_putI (ci := 1) (j := 1) dX3_remember_67 rfl (by decide) rfl rfl ?_
      refine e_naM (e := sI μ15 4 1 ((μ15.1 4 1) + (1 : Int32))) h (fun μ18 eμ18 h => ?_)
      exact e_vret dX3_remember_70 rfl (ret_eq h)
set_option maxHeartbeats 4000000 in
theorem b_X3_remember : ∀ as μ r μ', Γ_X3_remember as μ r μ' → (elvL as).length ≤ 2 ∧ G mX3_remember (Qe r μ') 0 (elv as 2) [] μ 0 := by
  intro as μ r μ' h
  obtain ⟨k1, rfl, ho1, h⟩ := h
  refine ⟨Nat.le_of_ble_eq_true rfl, ?_⟩
  show G mX3_remember (Qe r μ') 0 [some (.ref 4), some (.ref k1)] [] μ 0
  unfold F_X3_remember at h
  have hb9 : 0 ≤ 0 := Nat.le_refl _
  refine e_aload_n dX3_remember_0 rfl ?_
  refine e_get (ci := 1) (j := 1) (t := 0) (v := .int (μ.1 4 1)) dX3_remember_1 rfl (by decide) rfl rfl rfl ?_
  refine e_aload_n dX3_remember_4 rfl ?_
  refine e_get (ci := 1) (j := 0) (t := 2) (v := .ref 9) dX3_remember_5 rfl (by decide) rfl rfl rfl ?_
  refine e_alen (t := 4) (n := 14) (v := (14 : Int32)) dX3_remember_8 (by decide) rfl (by decide) rfl ?_
  refine e_ic_lt (tgt := 16) dX3_remember_9 rfl (fun hc1 => ?_) (fun hc1 => ?_)
  · rw [if_pos hc1] at h
    exact e_le (g_X3_remember_16 k1 ho1 μ _ (by omega) h) ⟨rfl, rfl, trivial⟩
  · rw [if_neg hc1] at h
    refine e_aload_n dX3_remember_12 rfl ?_
    refine cV_go h (fun E4 hc2 hr5 => e_VX [] [] dX3_remember_13 rfl rfl rfl rfl (by decide) (Nat.le_of_ble_eq_true rfl) (by omega) ⟨rfl, hc2⟩ rfl ⟨hr5.symm, rfl⟩) (fun μ3 hc2 h => ?_)
    refine e_VV [] [] dX3_remember_13 rfl rfl rfl rfl (by decide) (Nat.le_of_ble_eq_true rfl) (by omega) ⟨rfl, hc2⟩ ?_
    exact e_le (g_X3_remember_16 k1 ho1 μ3 _ (by omega) h) ⟨rfl, rfl, trivial⟩
set_option maxRecDepth 20000 in
theorem ok_X3_remember (l : Launch) (hl : l.stackTraces = false) : MOK l yX3_remember.cls 2 22 mX3_remember := ⟨lk_all (List.forall_mem_cons.mpr ⟨⟨yX3_forgetOldest, cX3_forgetOldest, 3, none, 1, 0, by decide, by decide, t_1 4 rfl rfl, hd_X3_forgetOldest, Or.inr (Or.inl ⟨rfl, sc_X3_forgetOldest l hl, t_1 206 rfl rfl, t_1 203 rfl rfl, t_1 205 rfl rfl, _, rfl, t_p 7 rfl⟩)⟩, List.forall_mem_cons.mpr ⟨⟨yX4_copyFrom, cX4_copyFrom, 2, none, 1, 0, by decide, by decide, t_1 3 rfl rfl, hd_X4_copyFrom, Or.inr (Or.inl ⟨rfl, sc_X4_copyFrom l hl, t_1 210 rfl rfl, t_1 207 rfl rfl, t_1 208 rfl rfl, _, rfl, t_1 209 rfl rfl⟩)⟩, nil_all⟩⟩), fun ix ci j h => lk_all (P := fun ix q => FldOK yX3_remember.cls ix q.1 q.2) (List.forall_mem_cons.mpr ⟨⟨_, rfl, by decide, t_1 85 rfl rfl⟩, List.forall_mem_cons.mpr ⟨⟨_, rfl, by decide, t_1 86 rfl rfl⟩, nil_all⟩⟩) ix (ci, j) h, lk_all (nil_all), lk_all (nil_all), lk_all (nil_all)⟩
theorem hd_X3_remember : CallHd yX3_remember 1 := ⟨by decide +kernel, by decide +kernel, by decide +kernel⟩
theorem sc_X3_remember (l : Launch) (hl : l.stackTraces = false) : SCon l yX3_remember cX3_remember 2 none 2 22 0 Γ_X3_remember := scon_of mX3_remember cls_ok hl (by decide +kernel) rfl rfl (ok_X3_remember l hl) rfl rfl b_X3_remember
def F_X3_takeBack (k1 : Nat) (μ : Mem) : Out := if (μ.1 4 1) ≤ 0 then (rI (μ.1 4 1) μ) else (if (14 : Int32) < (μ.1 4 1) then (rI (μ.1 4 1) μ) else (ck (inb ((μ.1 4 1) - (1 : Int32)) 14) (lt (μ.2.2 9 (Int32.toNatClampNeg ((μ.1 4 1) - (1 : Int32)))) (fun q4 => ck (okO q4 2) (lt (sI μ 4 1 ((μ.1 4 1) - (1 : Int32))) (fun μ6 => ck (inb (μ6.1 4 1) 14) (lt (μ6.2.2 9 (Int32.toNatClampNeg (μ6.1 4 1))) (fun q8 => ck (okO q8 2) (cV (F_X4_copyFrom k1 q8 μ6) (fun μ11 => rI (μ11.1 4 1) μ11))))))))))
def Γ_X3_takeBack : Gam := fun as μ r μ' => ∃ (k1 : Nat), as = [.ref 4, .ref k1] ∧ okO k1 2 ∧ F_X3_takeBack k1 μ = some (r, μ')
def mX3_takeBack : MI := (cX3_takeBack, [(23, (1, 1, 0, 2, Γ_X4_copyFrom))], [(11, 1, 0), (15, 1, 1)], [], [], [], [], none, (some .int))
set_option maxHeartbeats 4000000 in
theorem b_X3_takeBack : ∀ as μ r μ', Γ_X3_takeBack as μ r μ' → (elvL as).length ≤ 2 ∧ G mX3_takeBack (Qe r μ') 0 (elv as 2) [] μ 0 := by
  intro as μ r μ' h
  obtain ⟨k1, rfl, ho1, h⟩ := h
  refine ⟨Nat.le_of_ble_eq_true rfl, ?_⟩
  show G mX3_takeBack (Qe r μ') 0 [some (.ref 4), some (.ref k1)] [] μ 0
  unfold F_X3_takeBack at h
  have hb9 : 0 ≤ 0 := Nat.le_refl _
  refine e_aload_n dX3_takeBack_0 rfl ?_
  refine e_get (ci := 1) (j := 1) (t := 0) (v := .int (μ.1 4 1)) dX3_takeBack_1 rfl (by decide) rfl rfl rfl ?_
  refine e_if_le (tgt := 56) dX3_takeBack_4 rfl (fun hc1 => ?_) (fun hc1 => ?_)
  · rw [if_pos hc1] at h
    refine e_aload_n dX3_takeBack_56 rfl ?_
    refine e_get (ci := 1) (j := 1) (t := 0) (v := .int (μ.1 4 1)) dX3_takeBack_57 rfl (by decide) rfl rfl rfl ?_
    exact e_iret .int dX3_takeBack_60 rfl rfl (ret_eq h)
  · rw [if_neg hc1] at h
    refine e_aload_n dX3_takeBack_7 rfl ?_
    refine e_get (ci := 1) (j := 1) (t := 0) (v := .int (μ.1 4 1)) dX3_takeBack_8 rfl (by decide) rfl rfl rfl ?_
    refine e_aload_n dX3_takeBack_11 rfl ?_
    refine e_get (ci := 1) (j := 0) (t := 2) (v := .ref 9) dX3_takeBack_12 rfl (by decide) rfl rfl rfl ?_
    refine e_alen (t := 4) (n := 14) (v := (14 : Int32)) dX3_takeBack_15 (by decide) rfl (by decide) rfl ?_
    refine e_ic_gt (tgt := 56) dX3_takeBack_16 rfl (fun hc2 => ?_) (fun hc2 => ?_)
    · rw [if_pos hc2] at h
      refine e_aload_n dX3_takeBack_56 rfl ?_
      refine e_get (ci := 1) (j := 1) (t := 0) (v := .int (μ.1 4 1)) dX3_takeBack_57 rfl (by decide) rfl rfl rfl ?_
      exact e_iret .int dX3_takeBack_60 rfl rfl (ret_eq h)
    · rw [if_neg hc2] at h
      refine e_aload_n dX3_takeBack_19 rfl ?_
      refine e_get (ci := 1) (j := 0) (t := 2) (v := .ref 9) dX3_takeBack_20 rfl (by decide) rfl rfl rfl ?_
      refine e_aload_n dX3_takeBack_23 rfl ?_
      refine e_get (ci := 1) (j := 1) (t := 0) (v := .int (μ.1 4 1)) dX3_takeBack_24 rfl (by decide) rfl rfl rfl ?_
      refine e_iconst dX3_takeBack_27 ci_1 ?_
      refine e_isub dX3_takeBack_28 ?_
      obtain ⟨hc3, h⟩ := ck_eq h
      refine e_aaload (n := 14) dX3_takeBack_29 (by decide) rfl hc3 ?_
      refine e_naA h (fun q4 eq4 h => ?_)
      obtain ⟨hq5, h⟩ := ck_eq h
      refine e_ifnull dX3_takeBack_30 ?_
      refine e_aload_n dX3_takeBack_33 rfl ?_
      refine e_dup dX3_takeBack_34 rfl ?_
      refine e_get (ci := 1) (j := 1) (t := 0) (v := .int (μ.1 4 1)) dX3_takeBack_35 rfl (by decide) rfl rfl rfl ?_
      refine e_iconst dX3_takeBack_38 ci_1 ?_
      refine e_isub dX3_takeBack_39 ?_
      refine e_putI (ci := 1) (j := 1) dX3_takeBack_40 rfl (by decide) rfl rfl ?_
      refine e_naM (e := sI μ 4 1 ((μ.1 4 1) - (1 : Int32))) h (fun μ6 eμ6 h => ?_)
      refine e_aload_n dX3_takeBack_43 rfl ?_
      refine e_aload_n dX3_takeBack_44 rfl ?_
      refine e_get (ci := 1) (j := 0) (t := 2) (v := .ref 9) dX3_takeBack_45 rfl (by decide) rfl rfl rfl ?_
      refine e_aload_n dX3_takeBack_48 rfl ?_
      refine e_get (ci := 1) (j := 1) (t := 0) (v := .int (μ6.1 4 1)) dX3_takeBack_49 rfl (by decide) rfl rfl rfl ?_
      obtain ⟨hc7, h⟩ := ck_eq h
      refine e_aaload (n := 14) dX3_takeBack_52 (by decide) rfl hc7 ?_
      refine e_naA h (fun q8 eq8 h => ?_)
      obtain ⟨hq9, h⟩ := ck_eq h
      refine cV_go h (fun E12 hc10 hr13 => e_VX [.ref q8] [] dX3_takeBack_53 rfl rfl rfl rfl ho1 (Nat.le_of_ble_eq_true rfl) (by omega) ⟨k1, q8, rfl, ho1, hq9, hc10⟩ rfl ⟨hr13.symm, rfl⟩) (fun μ11 hc10 h => ?_)
      refine e_VV [.ref q8] [] dX3_takeBack_53 rfl rfl rfl rfl ho1 (Nat.le_of_ble_eq_true rfl) (by omega) ⟨k1, q8, rfl, ho1, hq9, hc10⟩ ?_
      refine e_aload_n dX3_takeBack_56 rfl ?_
      refine e_get (ci := 1) (j := 1) (t := 0) (v := .int (μ11.1 4 1)) dX3_takeBack_57 rfl (by decide) rfl rfl rfl ?_
      exact e_iret .int dX3_takeBack_60 rfl rfl (ret_eq h)
set_option maxRecDepth 20000 in
theorem ok_X3_takeBack (l : Launch) (hl : l.stackTraces = false) : MOK l yX3_takeBack.cls 2 21 mX3_takeBack := ⟨lk_all (List.forall_mem_cons.mpr ⟨⟨yX4_copyFrom, cX4_copyFrom, 2, none, 1, 0, by decide, by decide, t_1 3 rfl rfl, hd_X4_copyFrom, Or.inr (Or.inl ⟨rfl, sc_X4_copyFrom l hl, t_1 210 rfl rfl, t_1 207 rfl rfl, t_1 208 rfl rfl, _, rfl, t_1 209 rfl rfl⟩)⟩, nil_all⟩), fun ix ci j h => lk_all (P := fun ix q => FldOK yX3_takeBack.cls ix q.1 q.2) (List.forall_mem_cons.mpr ⟨⟨_, rfl, by decide, t_1 85 rfl rfl⟩, List.forall_mem_cons.mpr ⟨⟨_, rfl, by decide, t_1 86 rfl rfl⟩, nil_all⟩⟩) ix (ci, j) h, lk_all (nil_all), lk_all (nil_all), lk_all (nil_all)⟩
theorem hd_X3_takeBack : CallHd yX3_takeBack 1 := ⟨by decide +kernel, by decide +kernel, by decide +kernel⟩
theorem sc_X3_takeBack (l : Launch) (hl : l.stackTraces = false) : SCon l yX3_takeBack cX3_takeBack 2 (some .int) 2 21 0 Γ_X3_takeBack := scon_of mX3_takeBack cls_ok hl (by decide +kernel) rfl rfl (ok_X3_takeBack l hl) rfl rfl b_X3_takeBack
def F_X5_bringBack (a0 : Int32) (k2 : Nat) (μ : Mem) : Out := if a0 < 0 then (rV μ) else (if (2 : Int32) ≤ a0 then (rV μ) else (ck (inb a0 2) (lt (μ.2.2 10 (Int32.toNatClampNeg a0)) (fun q4 => ck (okO q4 2) (ck (inb a0 2) (lt (μ.2.2 10 (Int32.toNatClampNeg a0)) (fun q7 => ck (okO q7 2) (cV (F_X4_copyFrom k2 q7 μ) (fun μ10 => rV μ10)))))))))
def Γ_X5_bringBack : Gam := fun as μ r μ' => ∃ (a0 : Int32) (k2 : Nat), as = [.ref 5, .int a0, .ref k2] ∧ okO k2 2 ∧ F_X5_bringBack a0 k2 μ = some (r, μ')
def mX5_bringBack : MI := (cX5_bringBack, [(20, (1, 1, 0, 2, Γ_X4_copyFrom))], [(11, 3, 0)], [], [], [], [], none, none)
set_option maxHeartbeats 4000000 in
theorem b_X5_bringBack : ∀ as μ r μ', Γ_X5_bringBack as μ r μ' → (elvL as).length ≤ 3 ∧ G mX5_bringBack (Qe r μ') 0 (elv as 3) [] μ 0 := by
  intro as μ r μ' h
  obtain ⟨a0, k2, rfl, ho2, h⟩ := h
  refine ⟨Nat.le_of_ble_eq_true rfl, ?_⟩
  show G mX5_bringBack (Qe r μ') 0 [some (.ref 5), some (.int a0), some (.ref k2)] [] μ 0
  unfold F_X5_bringBack at h
  have hb9 : 0 ≤ 0 := Nat.le_refl _
  refine e_iload_n dX5_bringBack_0 rfl ?_
  refine e_if_lt (tgt := 32) dX5_bringBack_1 rfl (fun hc1 => ?_) (fun hc1 => ?_)
  · rw [if_pos hc1] at h
    exact e_vret dX5_bringBack_32 rfl (ret_eq h)
  · rw [if_neg hc1] at h
    refine e_iload_n dX5_bringBack_4 rfl ?_
    refine e_aload_n dX5_bringBack_5 rfl ?_
    refine e_get (ci := 3) (j := 0) (t := 2) (v := .ref 10) dX5_bringBack_6 rfl (by decide) rfl rfl rfl ?_
    refine e_alen (t := 4) (n := 2) (v := (2 : Int32)) dX5_bringBack_9 (by decide) rfl (by decide) rfl ?_
    refine e_ic_ge (tgt := 32) dX5_bringBack_10 rfl (fun hc2 => ?_) (fun hc2 => ?_)
    · rw [if_pos hc2] at h
      exact e_vret dX5_bringBack_32 rfl (ret_eq h)
    · rw [if_neg hc2] at h
      refine e_aload_n dX5_bringBack_13 rfl ?_
      refine e_get (ci := 3) (j := 0) (t := 2) (v := .ref 10) dX5_bringBack_14 rfl (by decide) rfl rfl rfl ?_
      refine e_iload_n dX5_bringBack_17 rfl ?_
      obtain ⟨hc3, h⟩ := ck_eq h
      refine e_aaload (n := 2) dX5_bringBack_18 (by decide) rfl hc3 ?_
      refine e_naA h (fun q4 eq4 h => ?_)
      obtain ⟨hq5, h⟩ := ck_eq h
      refine e_ifnull dX5_bringBack_19 ?_
      refine e_aload_n dX5_bringBack_22 rfl ?_
      refine e_aload_n dX5_bringBack_23 rfl ?_
      refine e_get (ci := 3) (j := 0) (t := 2) (v := .ref 10) dX5_bringBack_24 rfl (by decide) rfl rfl rfl ?_
      refine e_iload_n dX5_bringBack_27 rfl ?_
      obtain ⟨hc6, h⟩ := ck_eq h
      refine e_aaload (n := 2) dX5_bringBack_28 (by decide) rfl hc6 ?_
      refine e_naA h (fun q7 eq7 h => ?_)
      obtain ⟨hq8, h⟩ := ck_eq h
      refine cV_go h (fun E11 hc9 hr12 => e_VX [.ref q7] [] dX5_bringBack_29 rfl rfl rfl rfl ho2 (Nat.le_of_ble_eq_true rfl) (by omega) ⟨k2, q7, rfl, ho2, hq8, hc9⟩ rfl ⟨hr12.symm, rfl⟩) (fun μ10 hc9 h => ?_)
      refine e_VV [.ref q7] [] dX5_bringBack_29 rfl rfl rfl rfl ho2 (Nat.le_of_ble_eq_true rfl) (by omega) ⟨k2, q7, rfl, ho2, hq8, hc9⟩ ?_
      exact e_vret dX5_bringBack_32 rfl (ret_eq h)
set_option maxRecDepth 20000 in
theorem ok_X5_bringBack (l : Launch) (hl : l.stackTraces = false) : MOK l yX5_bringBack.cls 2 21 mX5_bringBack := ⟨lk_all (List.forall_mem_cons.mpr ⟨⟨yX4_copyFrom, cX4_copyFrom, 2, none, 1, 0, by decide, by decide, t_1 3 rfl rfl, hd_X4_copyFrom, Or.inr (Or.inl ⟨rfl, sc_X4_copyFrom l hl, t_1 210 rfl rfl, t_4 155 rfl rfl, t_1 208 rfl rfl, _, rfl, t_1 209 rfl rfl⟩)⟩, nil_all⟩), fun ix ci j h => lk_all (P := fun ix q => FldOK yX5_bringBack.cls ix q.1 q.2) (List.forall_mem_cons.mpr ⟨⟨_, rfl, by decide, t_1 100 rfl rfl⟩, nil_all⟩) ix (ci, j) h, lk_all (nil_all), lk_all (nil_all), lk_all (nil_all)⟩
theorem hd_X5_bringBack : CallHd yX5_bringBack 2 := ⟨by decide +kernel, by decide +kernel, by decide +kernel⟩
theorem sc_X5_bringBack (l : Launch) (hl : l.stackTraces = false) : SCon l yX5_bringBack cX5_bringBack 3 none 2 21 0 Γ_X5_bringBack := scon_of mX5_bringBack cls_ok hl (by decide +kernel) rfl rfl (ok_X5_bringBack l hl) rfl rfl b_X5_bringBack
def f_X5_forgetAll_2 : Nat → Int32 → Mem → Out
  | 0, _, _ => none
  | n + 1, x1, μ => if (2 : Int32) ≤ x1 then (rV μ) else (ck (inb x1 2) (lt (sI μ 11 (Int32.toNatClampNeg x1) (vp_nar .boolean (0 : Int32))) (fun μ3 => lt (x1 + (1 : Int32)) (fun v4 => f_X5_forgetAll_2 n v4 μ3))))
def F_X5_forgetAll (μ : Mem) : Out := f_X5_forgetAll_2 BIG (0 : Int32) μ
def Γ_X5_forgetAll : Gam := fun as μ r μ' => as = [.ref 5] ∧ F_X5_forgetAll μ = some (r, μ')
def mX5_forgetAll : MI := (cX5_forgetAll, [], [(15, 3, 1)], [], [], [], [], none, none)
set_option maxHeartbeats 4000000 in
theorem g_X5_forgetAll_2 {r : Res} {μ' : Mem} : ∀ n : Nat, ∀ (x1 : Int32), ∀ (μ : Mem) (b : Nat), 0 ≤ b → f_X5_forgetAll_2 n x1 μ = some (r, μ') → G mX5_forgetAll (Qe r μ') 2 [some (.ref 5), some (.int x1)] [] μ b := by
  intro n
  induction n with
  | zero => intro x1 μ b hb9 h; exact nomatch (show (none : Out) = some _ from h)
  | succ n ih =>
    intro x1 μ b hb9 h
    rw [f_X5_forgetAll_2.eq_2] at h
    refine e_iload_n dX5_forgetAll_2 rfl ?_
    refine e_aload_n dX5_forgetAll_3 rfl ?_
    refine e_get (ci := 3) (j := 1) (t := 2) (v := .ref 11) dX5_forgetAll_4 rfl (by decide) rfl rfl rfl ?_
    refine e_alen (t := 3) (n := 2) (v := (2 : Int32)) dX5_forgetAll_7 (by decide) rfl (by decide) rfl ?_
    refine e_ic_ge (tgt := 24) dX5_forgetAll_8 rfl (fun hc1 => ?_) (fun hc1 => ?_)
    · rw [if_pos hc1] at h
      exact e_vret dX5_forgetAll_24 rfl (ret_eq h)
    · rw [if_neg hc1] at h
      refine e_aload_n dX5_forgetAll_11 rfl ?_
      refine e_get (ci := 3) (j := 1) (t := 2) (v := .ref 11) dX5_forgetAll_12 rfl (by decide) rfl rfl rfl ?_
      refine e_iload_n dX5_forgetAll_15 rfl ?_
      refine e_iconst dX5_forgetAll_16 ci_0 ?_
      obtain ⟨hc2, h⟩ := ck_eq h
      refine e_bastore (n := 2) dX5_forgetAll_17 (by decide) rfl hc2 ?_
      refine e_naM (e := sI μ 11 (Int32.toNatClampNeg x1) (vp_nar .boolean (0 : Int32))) h (fun μ3 eμ3 h => ?_)
      refine e_iincN 1 (1 : Int32) dX5_forgetAll_18 rfl ci_1 h (fun y9 => [some (.ref 5), some (.int y9)]) (fun _ => rfl) (fun v4 ev4 h => ?_)
      refine e_goto (tgt := 2) dX5_forgetAll_21 rfl ?_
      exact e_le (ih v4 μ3 _ (by omega) h) ⟨rfl, rfl, trivial⟩
set_option maxHeartbeats 4000000 in
theorem b_X5_forgetAll : ∀ as μ r μ', Γ_X5_forgetAll as μ r μ' → (elvL as).length ≤ 2 ∧ G mX5_forgetAll (Qe r μ') 0 (elv as 2) [] μ 0 := by
  intro as μ r μ' h
  obtain ⟨rfl, h⟩ := h
  refine ⟨Nat.le_of_ble_eq_true rfl, ?_⟩
  show G mX5_forgetAll (Qe r μ') 0 [some (.ref 5), none] [] μ 0
  unfold F_X5_forgetAll at h
  have hb9 : 0 ≤ 0 := Nat.le_refl _
  refine e_iconst dX5_forgetAll_0 ci_0 ?_
  refine e_istore_nL [some (.ref 5), some (.int (0 : Int32))] dX5_forgetAll_1 (Nat.le_of_ble_eq_true rfl) rfl ?_
  exact e_le (g_X5_forgetAll_2 BIG (0 : Int32) μ _ (by omega) h) ⟨rfl, rfl, trivial⟩
set_option maxRecDepth 20000 in
theorem ok_X5_forgetAll (l : Launch) (hl : l.stackTraces = false) : MOK l yX5_forgetAll.cls 1 0 mX5_forgetAll := ⟨lk_all (nil_all), fun ix ci j h => lk_all (P := fun ix q => FldOK yX5_forgetAll.cls ix q.1 q.2) (List.forall_mem_cons.mpr ⟨⟨_, rfl, by decide, t_1 101 rfl rfl⟩, nil_all⟩) ix (ci, j) h, lk_all (nil_all), lk_all (nil_all), lk_all (nil_all)⟩
theorem hd_X5_forgetAll : CallHd yX5_forgetAll 0 := ⟨by decide +kernel, by decide +kernel, by decide +kernel⟩
theorem sc_X5_forgetAll (l : Launch) (hl : l.stackTraces = false) : SCon l yX5_forgetAll cX5_forgetAll 2 none 1 0 0 Γ_X5_forgetAll := scon_of mX5_forgetAll cls_ok hl (by decide +kernel) rfl rfl (ok_X5_forgetAll l hl) rfl rfl b_X5_forgetAll
def F_X5_has (a0 : Int32) (μ : Mem) : Out := if a0 < 0 then (rI (0 : Int32) μ) else (if (2 : Int32) ≤ a0 then (rI (0 : Int32) μ) else (ck (inb a0 2) (if (μ.1 11 (Int32.toNatClampNeg a0)) = 0 then (rI (0 : Int32) μ) else (rI (1 : Int32) μ))))
def Γ_X5_has : Gam := fun as μ r μ' => ∃ (a0 : Int32), as = [.ref 5, .int a0] ∧ F_X5_has a0 μ = some (r, μ')
def mX5_has : MI := (cX5_has, [], [(15, 3, 1)], [], [], [], [], none, (some .boolean))
set_option maxHeartbeats 4000000 in
theorem b_X5_has : ∀ as μ r μ', Γ_X5_has as μ r μ' → (elvL as).length ≤ 2 ∧ G mX5_has (Qe r μ') 0 (elv as 2) [] μ 0 := by
  intro as μ r μ' h
  obtain ⟨a0, rfl, h⟩ := h
  refine ⟨Nat.le_of_ble_eq_true rfl, ?_⟩
  show G mX5_has (Qe r μ') 0 [some (.ref 5), some (.int a0)] [] μ 0
  unfold F_X5_has at h
  have hb9 : 0 ≤ 0 := Nat.le_refl _
  refine e_iload_n dX5_has_0 rfl ?_
  refine e_if_lt (tgt := 26) dX5_has_1 rfl (fun hc1 => ?_) (fun hc1 => ?_)
  · rw [if_pos hc1] at h
    refine e_iconst dX5_has_26 ci_0 ?_
    exact e_iret .boolean dX5_has_27 rfl rfl (ret_eq h)
  · rw [if_neg hc1] at h
    refine e_iload_n dX5_has_4 rfl ?_
    refine e_aload_n dX5_has_5 rfl ?_
    refine e_get (ci := 3) (j := 1) (t := 2) (v := .ref 11) dX5_has_6 rfl (by decide) rfl rfl rfl ?_
    refine e_alen (t := 3) (n := 2) (v := (2 : Int32)) dX5_has_9 (by decide) rfl (by decide) rfl ?_
    refine e_ic_ge (tgt := 26) dX5_has_10 rfl (fun hc2 => ?_) (fun hc2 => ?_)
    · rw [if_pos hc2] at h
      refine e_iconst dX5_has_26 ci_0 ?_
      exact e_iret .boolean dX5_has_27 rfl rfl (ret_eq h)
    · rw [if_neg hc2] at h
      refine e_aload_n dX5_has_13 rfl ?_
      refine e_get (ci := 3) (j := 1) (t := 2) (v := .ref 11) dX5_has_14 rfl (by decide) rfl rfl rfl ?_
      refine e_iload_n dX5_has_17 rfl ?_
      obtain ⟨hc3, h⟩ := ck_eq h
      refine e_baload (n := 2) dX5_has_18 (by decide) rfl hc3 ?_
      refine e_if_eq (tgt := 26) dX5_has_19 rfl (fun hc4 => ?_) (fun hc4 => ?_)
      · rw [if_pos hc4] at h
        refine e_iconst dX5_has_26 ci_0 ?_
        exact e_iret .boolean dX5_has_27 rfl rfl (ret_eq h)
      · rw [if_neg hc4] at h
        refine e_iconst dX5_has_22 ci_1 ?_
        refine e_goto (tgt := 27) dX5_has_23 rfl ?_
        exact e_iret .boolean dX5_has_27 rfl rfl (ret_eq h)
set_option maxRecDepth 20000 in
theorem ok_X5_has (l : Launch) (hl : l.stackTraces = false) : MOK l yX5_has.cls 1 0 mX5_has := ⟨lk_all (nil_all), fun ix ci j h => lk_all (P := fun ix q => FldOK yX5_has.cls ix q.1 q.2) (List.forall_mem_cons.mpr ⟨⟨_, rfl, by decide, t_1 101 rfl rfl⟩, nil_all⟩) ix (ci, j) h, lk_all (nil_all), lk_all (nil_all), lk_all (nil_all)⟩
theorem hd_X5_has : CallHd yX5_has 1 := ⟨by decide +kernel, by decide +kernel, by decide +kernel⟩
theorem sc_X5_has (l : Launch) (hl : l.stackTraces = false) : SCon l yX5_has cX5_has 2 (some .boolean) 1 0 0 Γ_X5_has := scon_of mX5_has cls_ok hl (by decide +kernel) rfl rfl (ok_X5_has l hl) rfl rfl b_X5_has
def F_X5_put (a0 : Int32) (k2 : Nat) (μ : Mem) : Out := if a0 < 0 then (rV μ) else (if (2 : Int32) ≤ a0 then (rV μ) else (if (2 : Int32) ≤ a0 then (rV μ) else (ck (inb a0 2) (lt (μ.2.2 10 (Int32.toNatClampNeg a0)) (fun q5 => ck (okO q5 2) (ck (inb a0 2) (lt (μ.2.2 10 (Int32.toNatClampNeg a0)) (fun q8 => ck (okO q8 2) (cV (F_X4_copyFrom q8 k2 μ) (fun μ11 => ck (inb a0 2) (lt (sI μ11 11 (Int32.toNatClampNeg a0) (vp_nar .boolean (1 : Int32))) (fun μ15 => rV μ15))))))))))))
def Γ_X5_put : Gam := fun as μ r μ' => ∃ (a0 : Int32) (k2 : Nat), as = [.ref 5, .int a0, .ref k2] ∧ okO k2 2 ∧ F_X5_put a0 k2 μ = some (r, μ')
def mX5_put : MI := (cX5_put, [(20, (1, 1, 0, 2, Γ_X4_copyFrom))], [(11, 3, 0), (15, 3, 1)], [], [], [], [], none, none)
set_option maxHeartbeats 4000000 in
theorem b_X5_put : ∀ as μ r μ', Γ_X5_put as μ r μ' → (elvL as).length ≤ 3 ∧ G mX5_put (Qe r μ') 0 (elv as 3) [] μ 0 := by
  intro as μ r μ' h
  obtain ⟨a0, k2, rfl, ho2, h⟩ := h
  refine ⟨Nat.le_of_ble_eq_true rfl, ?_⟩
  show G mX5_put (Qe r μ') 0 [some (.ref 5), some (.int a0), some (.ref k2)] [] μ 0
  unfold F_X5_put at h
  have hb9 : 0 ≤ 0 := Nat.le_refl _
  refine e_iload_n dX5_put_0 rfl ?_
  refine e_if_lt (tgt := 48) dX5_put_1 rfl (fun hc1 => ?_) (fun hc1 => ?_)
  · rw [if_pos hc1] at h
    exact e_vret dX5_put_48 rfl (ret_eq h)
  · rw [if_neg hc1] at h
    refine e_iload_n dX5_put_4 rfl ?_
    refine e_aload_n dX5_put_5 rfl ?_
    refine e_get (ci := 3) (j := 1) (t := 2) (v := .ref 11) dX5_put_6 rfl (by decide) rfl rfl rfl ?_
    refine e_alen (t := 3) (n := 2) (v := (2 : Int32)) dX5_put_9 (by decide) rfl (by decide) rfl ?_
    refine e_ic_ge (tgt := 48) dX5_put_10 rfl (fun hc2 => ?_) (fun hc2 => ?_)
    · rw [if_pos hc2] at h
      exact e_vret dX5_put_48 rfl (ret_eq h)
    · rw [if_neg hc2] at h
      refine e_iload_n dX5_put_13 rfl ?_
      refine e_aload_n dX5_put_14 rfl ?_
      refine e_get (ci := 3) (j := 0) (t := 2) (v := .ref 10) dX5_put_15 rfl (by decide) rfl rfl rfl ?_
      refine e_alen (t := 4) (n := 2) (v := (2 : Int32)) dX5_put_18 (by decide) rfl (by decide) rfl ?_
      refine e_ic_ge (tgt := 48) dX5_put_19 rfl (fun hc3 => ?_) (fun hc3 => ?_)
      · rw [if_pos hc3] at h
        exact e_vret dX5_put_48 rfl (ret_eq h)
      · rw [if_neg hc3] at h
        refine e_aload_n dX5_put_22 rfl ?_
        refine e_get (ci := 3) (j := 0) (t := 2) (v := .ref 10) dX5_put_23 rfl (by decide) rfl rfl rfl ?_
        refine e_iload_n dX5_put_26 rfl ?_
        obtain ⟨hc4, h⟩ := ck_eq h
        refine e_aaload (n := 2) dX5_put_27 (by decide) rfl hc4 ?_
        refine e_naA h (fun q5 eq5 h => ?_)
        obtain ⟨hq6, h⟩ := ck_eq h
        refine e_ifnull dX5_put_28 ?_
        refine e_aload_n dX5_put_31 rfl ?_
        refine e_get (ci := 3) (j := 0) (t := 2) (v := .ref 10) dX5_put_32 rfl (by decide) rfl rfl rfl ?_
        refine e_iload_n dX5_put_35 rfl ?_
        obtain ⟨hc7, h⟩ := ck_eq h
        refine e_aaload (n := 2) dX5_put_36 (by decide) rfl hc7 ?_
        refine e_naA h (fun q8 eq8 h => ?_)
        obtain ⟨hq9, h⟩ := ck_eq h
        refine e_aload_n dX5_put_37 rfl ?_
        refine cV_go h (fun E12 hc10 hr13 => e_VX [.ref k2] [] dX5_put_38 rfl rfl rfl rfl hq9 (Nat.le_of_ble_eq_true rfl) (by omega) ⟨q8, k2, rfl, hq9, ho2, hc10⟩ rfl ⟨hr13.symm, rfl⟩) (fun μ11 hc10 h => ?_)
        refine e_VV [.ref k2] [] dX5_put_38 rfl rfl rfl rfl hq9 (Nat.le_of_ble_eq_true rfl) (by omega) ⟨q8, k2, rfl, hq9, ho2, hc10⟩ ?_
        refine e_aload_n dX5_put_41 rfl ?_
        refine e_get (ci := 3) (j := 1) (t := 2) (v := .ref 11) dX5_put_42 rfl (by decide) rfl rfl rfl ?_
        refine e_iload_n dX5_put_45 rfl ?_
        refine e_iconst dX5_put_46 ci_1 ?_
        obtain ⟨hc14, h⟩ := ck_eq h
        refine e_bastore (n := 2) dX5_put_47 (by decide) rfl hc14 ?_
        refine e_naM (e := sI μ11 11 (Int32.toNatClampNeg a0) (vp_nar .boolean (1 : Int32))) h (fun μ15 eμ15 h => ?_)
        exact e_vret dX5_put_48 rfl (ret_eq h)
set_option maxRecDepth 20000 in
theorem ok_X5_put (l : Launch) (hl : l.stackTraces = false) : MOK l yX5_put.cls 2 21 mX5_put := ⟨lk_all (List.forall_mem_cons.mpr ⟨⟨yX4_copyFrom, cX4_copyFrom, 2, none, 1, 0, by decide, by decide, t_1 3 rfl rfl, hd_X4_copyFrom, Or.inr (Or.inl ⟨rfl, sc_X4_copyFrom l hl, t_1 210 rfl rfl, t_4 155 rfl rfl, t_1 208 rfl rfl, _, rfl, t_1 209 rfl rfl⟩)⟩, nil_all⟩), fun ix ci j h => lk_all (P := fun ix q => FldOK yX5_put.cls ix q.1 q.2) (List.forall_mem_cons.mpr ⟨⟨_, rfl, by decide, t_1 100 rfl rfl⟩, List.forall_mem_cons.mpr ⟨⟨_, rfl, by decide, t_1 101 rfl rfl⟩, nil_all⟩⟩) ix (ci, j) h, lk_all (nil_all), lk_all (nil_all), lk_all (nil_all)⟩
theorem hd_X5_put : CallHd yX5_put 2 := ⟨by decide +kernel, by decide +kernel, by decide +kernel⟩
theorem sc_X5_put (l : Launch) (hl : l.stackTraces = false) : SCon l yX5_put cX5_put 3 none 2 21 0 Γ_X5_put := scon_of mX5_put cls_ok hl (by decide +kernel) rfl rfl (ok_X5_put l hl) rfl rfl b_X5_put
def F_X6_signAt (a0 : Int32) (μ : Mem) : Out := if a0 < 0 then (rI (0 : Int32) μ) else (if (μ.1 1 1) ≤ a0 then (rI (0 : Int32) μ) else (if (60 : Int32) ≤ a0 then (rI (0 : Int32) μ) else (ck (inb a0 60) (ck (nc (μ.1 8 (Int32.toNatClampNeg a0))) (rI (μ.1 8 (Int32.toNatClampNeg a0)) μ)))))
def Γ_X6_signAt : Gam := fun as μ r μ' => ∃ (a0 : Int32), as = [.ref 1, .int a0] ∧ F_X6_signAt a0 μ = some (r, μ')
def mX6_signAt : MI := (cX6_signAt, [], [(11, 4, 0), (15, 4, 1)], [], [], [], [], none, (some .char))
set_option maxHeartbeats 4000000 in
theorem b_X6_signAt : ∀ as μ r μ', Γ_X6_signAt as μ r μ' → (elvL as).length ≤ 2 ∧ G mX6_signAt (Qe r μ') 0 (elv as 2) [] μ 0 := by
  intro as μ r μ' h
  obtain ⟨a0, rfl, h⟩ := h
  refine ⟨Nat.le_of_ble_eq_true rfl, ?_⟩
  show G mX6_signAt (Qe r μ') 0 [some (.ref 1), some (.int a0)] [] μ 0
  unfold F_X6_signAt at h
  have hb9 : 0 ≤ 0 := Nat.le_refl _
  refine e_iload_n dX6_signAt_0 rfl ?_
  refine e_if_lt (tgt := 30) dX6_signAt_1 rfl (fun hc1 => ?_) (fun hc1 => ?_)
  · rw [if_pos hc1] at h
    refine e_iconst dX6_signAt_30 ci_0 ?_
    exact e_iret .char dX6_signAt_31 rfl rfl (ret_eq h)
  · rw [if_neg hc1] at h
    refine e_iload_n dX6_signAt_4 rfl ?_
    refine e_aload_n dX6_signAt_5 rfl ?_
    refine e_get (ci := 4) (j := 1) (t := 0) (v := .int (μ.1 1 1)) dX6_signAt_6 rfl (by decide) rfl rfl rfl ?_
    refine e_ic_ge (tgt := 30) dX6_signAt_9 rfl (fun hc2 => ?_) (fun hc2 => ?_)
    · rw [if_pos hc2] at h
      refine e_iconst dX6_signAt_30 ci_0 ?_
      exact e_iret .char dX6_signAt_31 rfl rfl (ret_eq h)
    · rw [if_neg hc2] at h
      refine e_iload_n dX6_signAt_12 rfl ?_
      refine e_aload_n dX6_signAt_13 rfl ?_
      refine e_get (ci := 4) (j := 0) (t := 2) (v := .ref 8) dX6_signAt_14 rfl (by decide) rfl rfl rfl ?_
      refine e_alen (t := 2) (n := 60) (v := (60 : Int32)) dX6_signAt_17 (by decide) rfl (by decide) rfl ?_
      refine e_ic_ge (tgt := 30) dX6_signAt_18 rfl (fun hc3 => ?_) (fun hc3 => ?_)
      · rw [if_pos hc3] at h
        refine e_iconst dX6_signAt_30 ci_0 ?_
        exact e_iret .char dX6_signAt_31 rfl rfl (ret_eq h)
      · rw [if_neg hc3] at h
        refine e_aload_n dX6_signAt_21 rfl ?_
        refine e_get (ci := 4) (j := 0) (t := 2) (v := .ref 8) dX6_signAt_22 rfl (by decide) rfl rfl rfl ?_
        refine e_iload_n dX6_signAt_25 rfl ?_
        obtain ⟨hc4, h⟩ := ck_eq h
        refine e_caload (n := 60) dX6_signAt_26 (by decide) rfl hc4 ?_
        refine e_goto (tgt := 31) dX6_signAt_27 rfl ?_
        obtain ⟨hc5, h⟩ := ck_eq h
        exact e_iret .char dX6_signAt_31 rfl hc5 (ret_eq h)
set_option maxRecDepth 20000 in
theorem ok_X6_signAt (l : Launch) (hl : l.stackTraces = false) : MOK l yX6_signAt.cls 1 0 mX6_signAt := ⟨lk_all (nil_all), fun ix ci j h => lk_all (P := fun ix q => FldOK yX6_signAt.cls ix q.1 q.2) (List.forall_mem_cons.mpr ⟨⟨_, rfl, by decide, t_1 33 rfl rfl⟩, List.forall_mem_cons.mpr ⟨⟨_, rfl, by decide, t_1 34 rfl rfl⟩, nil_all⟩⟩) ix (ci, j) h, lk_all (nil_all), lk_all (nil_all), lk_all (nil_all)⟩
theorem hd_X6_signAt : CallHd yX6_signAt 1 := ⟨by decide +kernel, by decide +kernel, by decide +kernel⟩
theorem sc_X6_signAt (l : Launch) (hl : l.stackTraces = false) : SCon l yX6_signAt cX6_signAt 2 (some .char) 1 0 0 Γ_X6_signAt := scon_of mX6_signAt cls_ok hl (by decide +kernel) rfl rfl (ok_X6_signAt l hl) rfl rfl b_X6_signAt
def F_X6_digitAt (a0 : Int32) (μ : Mem) : Out := cI (F_X6_signAt a0 μ) (fun v5 μ2 => rI (v5 - (48 : Int32)) μ2)
def Γ_X6_digitAt : Gam := fun as μ r μ' => ∃ (a0 : Int32), as = [.ref 1, .int a0] ∧ F_X6_digitAt a0 μ = some (r, μ')
def mX6_digitAt : MI := (cX6_digitAt, [(19, (1, 1, 0, 4, Γ_X6_signAt))], [], [], [], [], [], none, (some .int))
set_option maxHeartbeats 4000000 in
theorem b_X6_digitAt : ∀ as μ r μ', Γ_X6_digitAt as μ r μ' → (elvL as).length ≤ 2 ∧ G mX6_digitAt (Qe r μ') 0 (elv as 2) [] μ 0 := by
  intro as μ r μ' h
  obtain ⟨a0, rfl, h⟩ := h
  refine ⟨Nat.le_of_ble_eq_true rfl, ?_⟩
  show G mX6_digitAt (Qe r μ') 0 [some (.ref 1), some (.int a0)] [] μ 0
  unfold F_X6_digitAt at h
  have hb9 : 0 ≤ 0 := Nat.le_refl _
  refine e_aload_n dX6_digitAt_0 rfl ?_
  refine e_iload_n dX6_digitAt_1 rfl ?_
  refine cI_go h (fun E3 hc1 hr4 => e_VX [.int a0] [] dX6_digitAt_2 rfl rfl rfl rfl (by decide) (Nat.le_of_ble_eq_true rfl) (by omega) ⟨a0, rfl, hc1⟩ rfl ⟨hr4.symm, rfl⟩) (fun v5 μ2 hc1 h => ?_)
  refine e_VI [.int a0] [] dX6_digitAt_2 rfl rfl rfl rfl (by decide) (Nat.le_of_ble_eq_true rfl) (by omega) ⟨a0, rfl, hc1⟩ ?_
  refine e_bipush dX6_digitAt_5 cb_48 ?_
  refine e_isub dX6_digitAt_7 ?_
  exact e_iret .int dX6_digitAt_8 rfl rfl (ret_eq h)
set_option maxRecDepth 20000 in
theorem ok_X6_digitAt (l : Launch) (hl : l.stackTraces = false) : MOK l yX6_digitAt.cls 2 21 mX6_digitAt := ⟨lk_all (List.forall_mem_cons.mpr ⟨⟨yX6_signAt, cX6_signAt, 2, (some .char), 1, 0, by decide, by decide, t_1 2 rfl rfl, hd_X6_signAt, Or.inr (Or.inl ⟨rfl, sc_X6_signAt l hl, t_1 171 rfl rfl, t_1 168 rfl rfl, t_1 170 rfl rfl, _, rfl, t_p 1 rfl⟩)⟩, nil_all⟩), fun ix ci j h => lk_all (P := fun ix q => FldOK yX6_digitAt.cls ix q.1 q.2) (nil_all) ix (ci, j) h, lk_all (nil_all), lk_all (nil_all), lk_all (nil_all)⟩
theorem hd_X6_digitAt : CallHd yX6_digitAt 1 := ⟨by decide +kernel, by decide +kernel, by decide +kernel⟩
theorem sc_X6_digitAt (l : Launch) (hl : l.stackTraces = false) : SCon l yX6_digitAt cX6_digitAt 2 (some .int) 2 21 0 Γ_X6_digitAt := scon_of mX6_digitAt cls_ok hl (by decide +kernel) rfl rfl (ok_X6_digitAt l hl) rfl rfl b_X6_digitAt
def F_X6_cellsEnd (μ : Mem) : Out := cI (F_X6_digitAt (1 : Int32) μ) (fun v5 μ2 => cI (F_X6_digitAt (2 : Int32) μ2) (fun v10 μ7 => rI ((3 : Int32) + (v5 * v10)) μ7))
def Γ_X6_cellsEnd : Gam := fun as μ r μ' => as = [.ref 1] ∧ F_X6_cellsEnd μ = some (r, μ')
def mX6_cellsEnd : MI := (cX6_cellsEnd, [(23, (1, 1, 0, 4, Γ_X6_digitAt))], [], [], [], [], [], none, (some .int))
set_option maxHeartbeats 4000000 in
theorem b_X6_cellsEnd : ∀ as μ r μ', Γ_X6_cellsEnd as μ r μ' → (elvL as).length ≤ 1 ∧ G mX6_cellsEnd (Qe r μ') 0 (elv as 1) [] μ 0 := by
  intro as μ r μ' h
  obtain ⟨rfl, h⟩ := h
  refine ⟨Nat.le_of_ble_eq_true rfl, ?_⟩
  show G mX6_cellsEnd (Qe r μ') 0 [some (.ref 1)] [] μ 0
  unfold F_X6_cellsEnd at h
  have hb9 : 0 ≤ 0 := Nat.le_refl _
  refine e_iconst dX6_cellsEnd_0 ci_3 ?_
  refine e_aload_n dX6_cellsEnd_1 rfl ?_
  refine e_iconst dX6_cellsEnd_2 ci_1 ?_
  refine cI_go h (fun E3 hc1 hr4 => e_VX [.int (1 : Int32)] [.int (3 : Int32)] dX6_cellsEnd_3 rfl rfl rfl rfl (by decide) (Nat.le_of_ble_eq_true rfl) (by omega) ⟨(1 : Int32), rfl, hc1⟩ rfl ⟨hr4.symm, rfl⟩) (fun v5 μ2 hc1 h => ?_)
  refine e_VI [.int (1 : Int32)] [.int (3 : Int32)] dX6_cellsEnd_3 rfl rfl rfl rfl (by decide) (Nat.le_of_ble_eq_true rfl) (by omega) ⟨(1 : Int32), rfl, hc1⟩ ?_
  refine e_aload_n dX6_cellsEnd_6 rfl ?_
  refine e_iconst dX6_cellsEnd_7 ci_2 ?_
  refine cI_go h (fun E8 hc6 hr9 => e_VX [.int (2 : Int32)] [.int v5, .int (3 : Int32)] dX6_cellsEnd_8 rfl rfl rfl rfl (by decide) (Nat.le_of_ble_eq_true rfl) (by omega) ⟨(2 : Int32), rfl, hc6⟩ rfl ⟨hr9.symm, rfl⟩) (fun v10 μ7 hc6 h => ?_)
  refine e_VI [.int (2 : Int32)] [.int v5, .int (3 : Int32)] dX6_cellsEnd_8 rfl rfl rfl rfl (by decide) (Nat.le_of_ble_eq_true rfl) (by omega) ⟨(2 : Int32), rfl, hc6⟩ ?_
  refine e_imul dX6_cellsEnd_11 ?_
  refine e_iadd dX6_cellsEnd_12 ?_
  exact e_iret .int dX6_cellsEnd_13 rfl rfl (ret_eq h)
set_option maxRecDepth 20000 in
theorem ok_X6_cellsEnd (l : Launch) (hl : l.stackTraces = false) : MOK l yX6_cellsEnd.cls 3 42 mX6_cellsEnd := ⟨lk_all (List.forall_mem_cons.mpr ⟨⟨yX6_digitAt, cX6_digitAt, 2, (some .int), 2, 21, by decide, by decide, t_1 2 rfl rfl, hd_X6_digitAt, Or.inr (Or.inl ⟨rfl, sc_X6_digitAt l hl, t_1 179 rfl rfl, t_1 176 rfl rfl, t_1 178 rfl rfl, _, rfl, t_p 3 rfl⟩)⟩, nil_all⟩), fun ix ci j h => lk_all (P := fun ix q => FldOK yX6_cellsEnd.cls ix q.1 q.2) (nil_all) ix (ci, j) h, lk_all (nil_all), lk_all (nil_all), lk_all (nil_all)⟩
theorem hd_X6_cellsEnd : CallHd yX6_cellsEnd 0 := ⟨by decide +kernel, by decide +kernel, by decide +kernel⟩
theorem sc_X6_cellsEnd (l : Launch) (hl : l.stackTraces = false) : SCon l yX6_cellsEnd cX6_cellsEnd 1 (some .int) 3 42 0 Γ_X6_cellsEnd := scon_of mX6_cellsEnd cls_ok hl (by decide +kernel) rfl rfl (ok_X6_cellsEnd l hl) rfl rfl b_X6_cellsEnd
def f_X6_drawInto_93 (k1 : Nat) (k16 : Int32 → Mem → Out) (k26 : Int32 → Int32 → Mem → Out) (x2 : Int32) (x3 : Int32) (s0 : Int32) (s1 : Int32) (μ : Mem) : Out := cI (F_X4_setPinned k1 s1 s0 (1 : Int32) μ) (fun v70 μ67 => lt (x3 + (1 : Int32)) (fun v71 => k26 x2 v71 μ67))
def f_X6_drawInto_72 (k1 : Nat) (k16 : Int32 → Mem → Out) (k26 : Int32 → Int32 → Mem → Out) (x2 : Int32) (x3 : Int32) (x4 : Int32) (s0 : Int32) (s1 : Int32) (s2 : Int32) (μ : Mem) : Out := cI (F_X4_setFilled k1 s2 s1 s0 μ) (fun v57 μ54 => if x4 = (44 : Int32) then (f_X6_drawInto_93 k1 k16 k26 x2 x3 x3 x2 μ54) else (if x4 = (37 : Int32) then (f_X6_drawInto_93 k1 k16 k26 x2 x3 x3 x2 μ54) else (cI (F_X4_setPinned k1 x2 x3 (0 : Int32) μ54) (fun v64 μ61 => lt (x3 + (1 : Int32)) (fun v65 => k26 x2 v65 μ61)))))
def f_X6_drawInto_26 (k1 : Nat) (k16 : Int32 → Mem → Out) : Nat → Int32 → Int32 → Mem → Out
  | 0, _, _, _ => none
  | n + 1, x2, x3, μ => if (μ.1 k1 1) ≤ x3 then (lt (x2 + (1 : Int32)) (fun v45 => k16 v45 μ)) else (cI (F_X6_signAt (((3 : Int32) + (x2 * (μ.1 k1 1))) + x3) μ) (fun v50 μ47 => if v50 = (35 : Int32) then (f_X6_drawInto_72 k1 k16 (f_X6_drawInto_26 k1 k16 n) x2 x3 v50 (1 : Int32) x3 x2 μ47) else (if v50 = (37 : Int32) then (f_X6_drawInto_72 k1 k16 (f_X6_drawInto_26 k1 k16 n) x2 x3 v50 (1 : Int32) x3 x2 μ47) else (f_X6_drawInto_72 k1 k16 (f_X6_drawInto_26 k1 k16 n) x2 x3 v50 (0 : Int32) x3 x2 μ47))))
def f_X6_drawInto_133 (k1 : Nat) : Nat → Int32 → Mem → Out
  | 0, _, _ => none
  | n + 1, x2, μ => if ((μ.1 k1 0) + (μ.1 k1 1)) ≤ x2 then (rV μ) else (cI (F_X6_cellsEnd μ) (fun v32 μ29 => cI (F_X6_digitAt ((v32 + (1 : Int32)) + x2) μ29) (fun v37 μ34 => cI (F_X4_setWanted k1 x2 v37 μ34) (fun v42 μ39 => lt (x2 + (1 : Int32)) (fun v43 => f_X6_drawInto_133 k1 n v43 μ39)))))
def f_X6_drawInto_16 (k1 : Nat) : Nat → Int32 → Mem → Out
  | 0, _, _ => none
  | n + 1, x2, μ => if (μ.1 k1 0) ≤ x2 then (cI (F_X6_cellsEnd μ) (fun v20 μ17 => if (μ.1 1 1) = v20 then (cI (F_X4_wantTheCounts k1 μ17) (fun v26 μ23 => rV μ23)) else (f_X6_drawInto_133 k1 BIG (0 : Int32) μ17))) else (f_X6_drawInto_26 k1 (f_X6_drawInto_16 k1 n) BIG x2 (0 : Int32) μ)
def F_X6_drawInto (k1 : Nat) (μ : Mem) : Out := cI (F_X6_digitAt (1 : Int32) μ) (fun v5 μ2 => cI (F_X6_digitAt (2 : Int32) μ2) (fun v10 μ7 => cV (F_X4_beginBlank k1 v5 v10 μ7) (fun μ12 => f_X6_drawInto_16 k1 BIG (0 : Int32) μ12)))
def Γ_X6_drawInto : Gam := fun as μ r μ' => ∃ (k1 : Nat), as = [.ref 1, .ref k1] ∧ okO k1 2 ∧ F_X6_drawInto k1 μ = some (r, μ')
def mX6_drawInto : MI := (cX6_drawInto, [(19, (1, 1, 0, 4, Γ_X6_signAt)), (23, (1, 1, 0, 4, Γ_X6_digitAt)), (39, (1, 0, 0, 4, Γ_X6_cellsEnd)), (50, (1, 2, 0, 2, Γ_X4_beginBlank)), (62, (1, 3, 0, 2, Γ_X4_setFilled)), (66, (1, 3, 0, 2, Γ_X4_setPinned)), (69, (1, 0, 0, 2, Γ_X4_wantTheCounts)), (72, (1, 2, 0, 2, Γ_X4_setWanted))], [(15, 4, 1), (56, 2, 0), (59, 2, 1)], [], [], [], [], none, none)
set_option maxHeartbeats 4000000 in
theorem g_X6_drawInto_93 {r : Res} {μ' : Mem} (k1 : Nat) (ho1 : okO k1 2) {k16 : Int32 → Mem → Out} {k26 : Int32 → Int32 → Mem → Out} (hk16 : ∀ (x2 : Int32), ∀ (μ : Mem) (b : Nat), 0 ≤ b → k16 x2 μ = some (r, μ') → G mX6_drawInto (Qe r μ') 16 [some (.ref 1), some (.ref k1), some (.int x2), none, none] [] μ b) (hk26 : ∀ (x2 : Int32) (x3 : Int32), ∀ (μ : Mem) (b : Nat), 0 ≤ b → k26 x2 x3 μ = some (r, μ') → G mX6_drawInto (Qe r μ') 26 [some (.ref 1), some (.ref k1), some (.int x2), some (.int x3), none] [] μ b) : ∀ (x2 : Int32) (x3 : Int32) (s0 : Int32) (s1 : Int32), ∀ (μ : Mem) (b : Nat), 0 ≤ b → f_X6_drawInto_93 k1 k16 k26 x2 x3 s0 s1 μ = some (r, μ') → G mX6_drawInto (Qe r μ') 93 [some (.ref 1), some (.ref k1), some (.int x2), some (.int x3), none] [.int s0, .int s1, .ref k1] μ b := by
  intro x2 x3 s0 s1 μ b hb9 h
  unfold f_X6_drawInto_93 at h
  refine e_iconst dX6_drawInto_93 ci_1 ?_
  refine e_goto (tgt := 98) dX6_drawInto_94 rfl ?_
  refine cI_go h (fun E68 hc66 hr69 => e_VX [.int s1, .int s0, .int (1 : Int32)] [] dX6_drawInto_98 rfl rfl rfl rfl ho1 (Nat.le_of_ble_eq_true rfl) (by omega) ⟨k1, s1, s0, (1 : Int32), rfl, ho1, hc66⟩ rfl ⟨hr69.symm, rfl⟩) (fun v70 μ67 hc66 h => ?_)
  refine e_VI [.int s1, .int s0, .int (1 : Int32)] [] dX6_drawInto_98 rfl rfl rfl rfl ho1 (Nat.le_of_ble_eq_true rfl) (by omega) ⟨k1, s1, s0, (1 : Int32), rfl, ho1, hc66⟩ ?_
  refine e_pop dX6_drawInto_101 rfl ?_
  refine e_iincN 3 (1 : Int32) dX6_drawInto_102 rfl ci_1 h (fun y9 => [some (.ref 1), some (.ref k1), some (.int x2), some (.int y9), none]) (fun _ => rfl) (fun v71 ev71 h => ?_)
  refine e_goto (tgt := 26) dX6_drawInto_105 rfl ?_
  exact e_le (hk26 x2 v71 μ67 _ (by omega) h) ⟨rfl, rfl, rfl, rfl, trivial⟩
set_option maxHeartbeats 4000000 in
theorem g_X6_drawInto_72 {r : Res} {μ' : Mem} (k1 : Nat) (ho1 : okO k1 2) {k16 : Int32 → Mem → Out} {k26 : Int32 → Int32 → Mem → Out} (hk16 : ∀ (x2 : Int32), ∀ (μ : Mem) (b : Nat), 0 ≤ b → k16 x2 μ = some (r, μ') → G mX6_drawInto (Qe r μ') 16 [some (.ref 1), some (.ref k1), some (.int x2), none, none] [] μ b) (hk26 : ∀ (x2 : Int32) (x3 : Int32), ∀ (μ : Mem) (b : Nat), 0 ≤ b → k26 x2 x3 μ = some (r, μ') → G mX6_drawInto (Qe r μ') 26 [some (.ref 1), some (.ref k1), some (.int x2), some (.int x3), none] [] μ b) : ∀ (x2 : Int32) (x3 : Int32) (x4 : Int32) (s0 : Int32) (s1 : Int32) (s2 : Int32), ∀ (μ : Mem) (b : Nat), 0 ≤ b → f_X6_drawInto_72 k1 k16 k26 x2 x3 x4 s0 s1 s2 μ = some (r, μ') → G mX6_drawInto (Qe r μ') 72 [some (.ref 1), some (.ref k1), some (.int x2), some (.int x3), some (.int x4)] [.int s0, .int s1, .int s2, .ref k1] μ b := by
  intro x2 x3 x4 s0 s1 s2 μ b hb9 h
  unfold f_X6_drawInto_72 at h
  refine cI_go h (fun E55 hc53 hr56 => e_VX [.int s2, .int s1, .int s0] [] dX6_drawInto_72 rfl rfl rfl rfl ho1 (Nat.le_of_ble_eq_true rfl) (by omega) ⟨k1, s2, s1, s0, rfl, ho1, hc53⟩ rfl ⟨hr56.symm, rfl⟩) (fun v57 μ54 hc53 h => ?_)
  refine e_VI [.int s2, .int s1, .int s0] [] dX6_drawInto_72 rfl rfl rfl rfl ho1 (Nat.le_of_ble_eq_true rfl) (by omega) ⟨k1, s2, s1, s0, rfl, ho1, hc53⟩ ?_
  refine e_pop dX6_drawInto_75 rfl ?_
  refine e_aload_n dX6_drawInto_76 rfl ?_
  refine e_iload_n dX6_drawInto_77 rfl ?_
  refine e_iload_n dX6_drawInto_78 rfl ?_
  refine e_iload dX6_drawInto_79 rfl ?_
  refine e_bipush dX6_drawInto_81 cb_44 ?_
  refine e_ic_eq (tgt := 93) dX6_drawInto_83 rfl (fun hc58 => ?_) (fun hc58 => ?_)
  · rw [if_pos hc58] at h
    exact e_le (g_X6_drawInto_93 k1 ho1 hk16 hk26 x2 x3 x3 x2 μ54 _ (by omega) h) ⟨rfl, rfl, rfl, rfl, trivial⟩
  · rw [if_neg hc58] at h
    refine e_iload dX6_drawInto_86 rfl ?_
    refine e_bipush dX6_drawInto_88 cb_37 ?_
    refine e_ic_ne (tgt := 97) dX6_drawInto_90 rfl (fun hc59 => ?_) (fun hc59 => ?_)
    · rw [if_neg hc59] at h
      refine e_iconst dX6_drawInto_97 ci_0 ?_
      refine cI_go h (fun E62 hc60 hr63 => e_VX [.int x2, .int x3, .int (0 : Int32)] [] dX6_drawInto_98 rfl rfl rfl rfl ho1 (Nat.le_of_ble_eq_true rfl) (by omega) ⟨k1, x2, x3, (0 : Int32), rfl, ho1, hc60⟩ rfl ⟨hr63.symm, rfl⟩) (fun v64 μ61 hc60 h => ?_)
      refine e_VI [.int x2, .int x3, .int (0 : Int32)] [] dX6_drawInto_98 rfl rfl rfl rfl ho1 (Nat.le_of_ble_eq_true rfl) (by omega) ⟨k1, x2, x3, (0 : Int32), rfl, ho1, hc60⟩ ?_
      refine e_pop dX6_drawInto_101 rfl ?_
      refine e_iincN 3 (1 : Int32) dX6_drawInto_102 rfl ci_1 h (fun y9 => [some (.ref 1), some (.ref k1), some (.int x2), some (.int y9), some (.int x4)]) (fun _ => rfl) (fun v65 ev65 h => ?_)
      refine e_goto (tgt := 26) dX6_drawInto_105 rfl ?_
      exact e_le (hk26 x2 v65 μ61 _ (by omega) h) ⟨rfl, rfl, rfl, rfl, trivial⟩
    · rw [if_pos hc59] at h
      exact e_le (g_X6_drawInto_93 k1 ho1 hk16 hk26 x2 x3 x3 x2 μ54 _ (by omega) h) ⟨rfl, rfl, rfl, rfl, trivial⟩
set_option maxHeartbeats 4000000 in
theorem g_X6_drawInto_26 {r : Res} {μ' : Mem} (k1 : Nat) (ho1 : okO k1 2) {k16 : Int32 → Mem → Out} (hk16 : ∀ (x2 : Int32), ∀ (μ : Mem) (b : Nat), 0 ≤ b → k16 x2 μ = some (r, μ') → G mX6_drawInto (Qe r μ') 16 [some (.ref 1), some (.ref k1), some (.int x2), none, none] [] μ b) : ∀ n : Nat, ∀ (x2 : Int32) (x3 : Int32), ∀ (μ : Mem) (b : Nat), 0 ≤ b → f_X6_drawInto_26 k1 k16 n x2 x3 μ = some (r, μ') → G mX6_drawInto (Qe r μ') 26 [some (.ref 1), some (.ref k1), some (.int x2), some (.int x3), none] [] μ b := by
  intro n
  induction n with
  | zero => intro x2 x3 μ b hb9 h; exact nomatch (show (none : Out) = some _ from h)
  | succ n ih =>
    intro x2 x3 μ b hb9 h
    rw [f_X6_drawInto_26.eq_2] at h
    refine e_iload_n dX6_drawInto_26 rfl ?_
    refine e_aload_n dX6_drawInto_27 rfl ?_
    refine e_get (ci := 2) (j := 1) (t := 0) (v := .int (μ.1 k1 1)) dX6_drawInto_28 rfl ho1.1 ho1.2 rfl rfl ?_
    refine e_ic_ge (tgt := 108) dX6_drawInto_31 rfl (fun hc44 => ?_) (fun hc44 => ?_)
    · rw [if_pos hc44] at h
      refine e_iincN 2 (1 : Int32) dX6_drawInto_108 rfl ci_1 h (fun y9 => [some (.ref 1), some (.ref k1), some (.int y9), some (.int x3), none]) (fun _ => rfl) (fun v45 ev45 h => ?_)
      refine e_goto (tgt := 16) dX6_drawInto_111 rfl ?_
      exact e_le (hk16 v45 μ _ (by omega) h) ⟨rfl, rfl, rfl, trivial⟩
    · rw [if_neg hc44] at h
      refine e_aload_n dX6_drawInto_34 rfl ?_
      refine e_iconst dX6_drawInto_35 ci_3 ?_
      refine e_iload_n dX6_drawInto_36 rfl ?_
      refine e_aload_n dX6_drawInto_37 rfl ?_
      refine e_get (ci := 2) (j := 1) (t := 0) (v := .int (μ.1 k1 1)) dX6_drawInto_38 rfl ho1.1 ho1.2 rfl rfl ?_
      refine e_imul dX6_drawInto_41 ?_
      refine e_iadd dX6_drawInto_42 ?_
      refine e_iload_n dX6_drawInto_43 rfl ?_
      refine e_iadd dX6_drawInto_44 ?_
      refine cI_go h (fun E48 hc46 hr49 => e_VX [.int (((3 : Int32) + (x2 * (μ.1 k1 1))) + x3)] [] dX6_drawInto_45 rfl rfl rfl rfl (by decide) (Nat.le_of_ble_eq_true rfl) (by omega) ⟨((3 : Int32) + (x2 * (μ.1 k1 1))) + x3, rfl, hc46⟩ rfl ⟨hr49.symm, rfl⟩) (fun v50 μ47 hc46 h => ?_)
      refine e_VI [.int (((3 : Int32) + (x2 * (μ.1 k1 1))) + x3)] [] dX6_drawInto_45 rfl rfl rfl rfl (by decide) (Nat.le_of_ble_eq_true rfl) (by omega) ⟨((3 : Int32) + (x2 * (μ.1 k1 1))) + x3, rfl, hc46⟩ ?_
      refine e_istoreL [some (.ref 1), some (.ref k1), some (.int x2), some (.int x3), some (.int v50)] dX6_drawInto_48 (Nat.le_of_ble_eq_true rfl) rfl ?_
      refine e_aload_n dX6_drawInto_50 rfl ?_
      refine e_iload_n dX6_drawInto_51 rfl ?_
      refine e_iload_n dX6_drawInto_52 rfl ?_
      refine e_iload dX6_drawInto_53 rfl ?_
      refine e_bipush dX6_drawInto_55 cb_35 ?_
      refine e_ic_eq (tgt := 67) dX6_drawInto_57 rfl (fun hc51 => ?_) (fun hc51 => ?_)
      · rw [if_pos hc51] at h
        refine e_iconst dX6_drawInto_67 ci_1 ?_
        refine e_goto (tgt := 72) dX6_drawInto_68 rfl ?_
        exact e_le (g_X6_drawInto_72 k1 ho1 hk16 ih x2 x3 v50 (1 : Int32) x3 x2 μ47 _ (by omega) h) ⟨rfl, rfl, rfl, rfl, rfl, trivial⟩
      · rw [if_neg hc51] at h
        refine e_iload dX6_drawInto_60 rfl ?_
        refine e_bipush dX6_drawInto_62 cb_37 ?_
        refine e_ic_ne (tgt := 71) dX6_drawInto_64 rfl (fun hc52 => ?_) (fun hc52 => ?_)
        · rw [if_neg hc52] at h
          refine e_iconst dX6_drawInto_71 ci_0 ?_
          exact e_le (g_X6_drawInto_72 k1 ho1 hk16 ih x2 x3 v50 (0 : Int32) x3 x2 μ47 _ (by omega) h) ⟨rfl, rfl, rfl, rfl, rfl, trivial⟩
        · rw [if_pos hc52] at h
          refine e_iconst dX6_drawInto_67 ci_1 ?_
          refine e_goto (tgt := 72) dX6_drawInto_68 rfl ?_
          exact e_le (g_X6_drawInto_72 k1 ho1 hk16 ih x2 x3 v50 (1 : Int32) x3 x2 μ47 _ (by omega) h) ⟨rfl, rfl, rfl, rfl, rfl, trivial⟩
set_option maxHeartbeats 4000000 in
theorem g_X6_drawInto_133 {r : Res} {μ' : Mem} (k1 : Nat) (ho1 : okO k1 2) : ∀ n : Nat, ∀ (x2 : Int32), ∀ (μ : Mem) (b : Nat), 0 ≤ b → f_X6_drawInto_133 k1 n x2 μ = some (r, μ') → G mX6_drawInto (Qe r μ') 133 [some (.ref 1), some (.ref k1), some (.int x2), none, none] [] μ b := by
  intro n
  induction n with
  | zero => intro x2 μ b hb9 h; exact nomatch (show (none : Out) = some _ from h)
  | succ n ih =>
    intro x2 μ b hb9 h
    rw [f_X6_drawInto_133.eq_2] at h
    refine e_iload_n dX6_drawInto_133 rfl ?_
    refine e_aload_n dX6_drawInto_134 rfl ?_
    refine e_get (ci := 2) (j := 0) (t := 0) (v := .int (μ.1 k1 0)) dX6_drawInto_135 rfl ho1.1 ho1.2 rfl rfl ?_
    refine e_aload_n dX6_drawInto_138 rfl ?_
    refine e_get (ci := 2) (j := 1) (t := 0) (v := .int (μ.1 k1 1)) dX6_drawInto_139 rfl ho1.1 ho1.2 rfl rfl ?_
    refine e_iadd dX6_drawInto_142 ?_
    refine e_ic_ge (tgt := 170) dX6_drawInto_143 rfl (fun hc27 => ?_) (fun hc27 => ?_)
    · rw [if_pos hc27] at h
      exact e_vret dX6_drawInto_170 rfl (ret_eq h)
    · rw [if_neg hc27] at h
      refine e_aload_n dX6_drawInto_146 rfl ?_
      refine e_iload_n dX6_drawInto_147 rfl ?_
      refine e_aload_n dX6_drawInto_148 rfl ?_
      refine e_aload_n dX6_drawInto_149 rfl ?_
      refine cI_go h (fun E30 hc28 hr31 => e_VX [] [.ref 1, .int x2, .ref k1] dX6_drawInto_150 rfl rfl rfl rfl (by decide) (Nat.le_of_ble_eq_true rfl) (by omega) ⟨rfl, hc28⟩ rfl ⟨hr31.symm, rfl⟩) (fun v32 μ29 hc28 h => ?_)
      refine e_VI [] [.ref 1, .int x2, .ref k1] dX6_drawInto_150 rfl rfl rfl rfl (by decide) (Nat.le_of_ble_eq_true rfl) (by omega) ⟨rfl, hc28⟩ ?_
      refine e_iconst dX6_drawInto_153 ci_1 ?_
      refine e_iadd dX6_drawInto_154 ?_
      refine e_iload_n dX6_drawInto_155 rfl ?_
      refine e_iadd dX6_drawInto_156 ?_
      refine cI_go h (fun E35 hc33 hr36 => e_VX [.int ((v32 + (1 : Int32)) + x2)] [.int x2, .ref k1] dX6_drawInto_157 rfl rfl rfl rfl (by decide) (Nat.le_of_ble_eq_true rfl) (by omega) ⟨(v32 + (1 : Int32)) + x2, rfl, hc33⟩ rfl ⟨hr36.symm, rfl⟩) (fun v37 μ34 hc33 h => ?_)
      refine e_VI [.int ((v32 + (1 : Int32)) + x2)] [.int x2, .ref k1] dX6_drawInto_157 rfl rfl rfl rfl (by decide) (Nat.le_of_ble_eq_true rfl) (by omega) ⟨(v32 + (1 : Int32)) + x2, rfl, hc33⟩ ?_
      refine cI_go h (fun E40 hc38 hr41 => e_VX [.int x2, .int v37] [] dX6_drawInto_160 rfl rfl rfl rfl ho1 (Nat.le_of_ble_eq_true rfl) (by omega) ⟨k1, x2, v37, rfl, ho1, hc38⟩ rfl ⟨hr41.symm, rfl⟩) (fun v42 μ39 hc38 h => ?_)
      refine e_VI [.int x2, .int v37] [] dX6_drawInto_160 rfl rfl rfl rfl ho1 (Nat.le_of_ble_eq_true rfl) (by omega) ⟨k1, x2, v37, rfl, ho1, hc38⟩ ?_
      refine e_pop dX6_drawInto_163 rfl ?_
      refine e_iincN 2 (1 : Int32) dX6_drawInto_164 rfl ci_1 h (fun y9 => [some (.ref 1), some (.ref k1), some (.int y9), none, none]) (fun _ => rfl) (fun v43 ev43 h => ?_)
      refine e_goto (tgt := 133) dX6_drawInto_167 rfl ?_
      exact e_le (ih v43 μ39 _ (by omega) h) ⟨rfl, rfl, rfl, trivial⟩
set_option maxHeartbeats 4000000 in
theorem g_X6_drawInto_16 {r : Res} {μ' : Mem} (k1 : Nat) (ho1 : okO k1 2) : ∀ n : Nat, ∀ (x2 : Int32), ∀ (μ : Mem) (b : Nat), 0 ≤ b → f_X6_drawInto_16 k1 n x2 μ = some (r, μ') → G mX6_drawInto (Qe r μ') 16 [some (.ref 1), some (.ref k1), some (.int x2), none, none] [] μ b := by
  intro n
  induction n with
  | zero => intro x2 μ b hb9 h; exact nomatch (show (none : Out) = some _ from h)
  | succ n ih =>
    intro x2 μ b hb9 h
    rw [f_X6_drawInto_16.eq_2] at h
    refine e_iload_n dX6_drawInto_16 rfl ?_
    refine e_aload_n dX6_drawInto_17 rfl ?_
    refine e_get (ci := 2) (j := 0) (t := 0) (v := .int (μ.1 k1 0)) dX6_drawInto_18 rfl ho1.1 ho1.2 rfl rfl ?_
    refine e_ic_ge (tgt := 114) dX6_drawInto_21 rfl (fun hc15 => ?_) (fun hc15 => ?_)
    · rw [if_pos hc15] at h
      refine e_aload_n dX6_drawInto_114 rfl ?_
      refine e_get (ci := 4) (j := 1) (t := 0) (v := .int (μ.1 1 1)) dX6_drawInto_115 rfl (by decide) rfl rfl rfl ?_
      refine e_aload_n dX6_drawInto_118 rfl ?_
      refine cI_go h (fun E18 hc16 hr19 => e_VX [] [.int (μ.1 1 1)] dX6_drawInto_119 rfl rfl rfl rfl (by decide) (Nat.le_of_ble_eq_true rfl) (by omega) ⟨rfl, hc16⟩ rfl ⟨hr19.symm, rfl⟩) (fun v20 μ17 hc16 h => ?_)
      refine e_VI [] [.int (μ.1 1 1)] dX6_drawInto_119 rfl rfl rfl rfl (by decide) (Nat.le_of_ble_eq_true rfl) (by omega) ⟨rfl, hc16⟩ ?_
      refine e_ic_ne (tgt := 131) dX6_drawInto_122 rfl (fun hc21 => ?_) (fun hc21 => ?_)
      · rw [if_neg hc21] at h
        refine e_iconst dX6_drawInto_131 ci_0 ?_
        refine e_istore_nL [some (.ref 1), some (.ref k1), some (.int (0 : Int32)), none, none] dX6_drawInto_132 (Nat.le_of_ble_eq_true rfl) rfl ?_
        exact e_le (g_X6_drawInto_133 k1 ho1 BIG (0 : Int32) μ17 _ (by omega) h) ⟨rfl, rfl, rfl, trivial⟩
      · rw [if_pos hc21] at h
        refine e_aload_n dX6_drawInto_125 rfl ?_
        refine cI_go h (fun E24 hc22 hr25 => e_VX [] [] dX6_drawInto_126 rfl rfl rfl rfl ho1 (Nat.le_of_ble_eq_true rfl) (by omega) ⟨k1, rfl, ho1, hc22⟩ rfl ⟨hr25.symm, rfl⟩) (fun v26 μ23 hc22 h => ?_)
        refine e_VI [] [] dX6_drawInto_126 rfl rfl rfl rfl ho1 (Nat.le_of_ble_eq_true rfl) (by omega) ⟨k1, rfl, ho1, hc22⟩ ?_
        refine e_pop dX6_drawInto_129 rfl ?_
        exact e_vret dX6_drawInto_130 rfl (ret_eq h)
    · rw [if_neg hc15] at h
      refine e_iconst dX6_drawInto_24 ci_0 ?_
      refine e_istore_nL [some (.ref 1), some (.ref k1), some (.int x2), some (.int (0 : Int32)), none] dX6_drawInto_25 (Nat.le_of_ble_eq_true rfl) rfl ?_
      exact e_le (g_X6_drawInto_26 k1 ho1 ih BIG x2 (0 : Int32) μ _ (by omega) h) ⟨rfl, rfl, rfl, rfl, trivial⟩
set_option maxHeartbeats 4000000 in
theorem b_X6_drawInto : ∀ as μ r μ', Γ_X6_drawInto as μ r μ' → (elvL as).length ≤ 5 ∧ G mX6_drawInto (Qe r μ') 0 (elv as 5) [] μ 0 := by
  intro as μ r μ' h
  obtain ⟨k1, rfl, ho1, h⟩ := h
  refine ⟨Nat.le_of_ble_eq_true rfl, ?_⟩
  show G mX6_drawInto (Qe r μ') 0 [some (.ref 1), some (.ref k1), none, none, none] [] μ 0
  unfold F_X6_drawInto at h
  have hb9 : 0 ≤ 0 := Nat.le_refl _
  refine e_aload_n dX6_drawInto_0 rfl ?_
  refine e_aload_n dX6_drawInto_1 rfl ?_
  refine e_iconst dX6_drawInto_2 ci_1 ?_
  refine cI_go h (fun E3 hc1 hr4 => e_VX [.int (1 : Int32)] [.ref k1] dX6_drawInto_3 rfl rfl rfl rfl (by decide) (Nat.le_of_ble_eq_true rfl) (by omega) ⟨(1 : Int32), rfl, hc1⟩ rfl ⟨hr4.symm, rfl⟩) (fun v5 μ2 hc1 h => ?_)
  refine e_VI [.int (1 : Int32)] [.ref k1] dX6_drawInto_3 rfl rfl rfl rfl (by decide) (Nat.le_of_ble_eq_true rfl) (by omega) ⟨(1 : Int32), rfl, hc1⟩ ?_
  refine e_aload_n dX6_drawInto_6 rfl ?_
  refine e_iconst dX6_drawInto_7 ci_2 ?_
  refine cI_go h (fun E8 hc6 hr9 => e_VX [.int (2 : Int32)] [.int v5, .ref k1] dX6_drawInto_8 rfl rfl rfl rfl (by decide) (Nat.le_of_ble_eq_true rfl) (by omega) ⟨(2 : Int32), rfl, hc6⟩ rfl ⟨hr9.symm, rfl⟩) (fun v10 μ7 hc6 h => ?_)
  refine e_VI [.int (2 : Int32)] [.int v5, .ref k1] dX6_drawInto_8 rfl rfl rfl rfl (by decide) (Nat.le_of_ble_eq_true rfl) (by omega) ⟨(2 : Int32), rfl, hc6⟩ ?_
  refine cV_go h (fun E13 hc11 hr14 => e_VX [.int v5, .int v10] [] dX6_drawInto_11 rfl rfl rfl rfl ho1 (Nat.le_of_ble_eq_true rfl) (by omega) ⟨k1, v5, v10, rfl, ho1, hc11⟩ rfl ⟨hr14.symm, rfl⟩) (fun μ12 hc11 h => ?_)
  refine e_VV [.int v5, .int v10] [] dX6_drawInto_11 rfl rfl rfl rfl ho1 (Nat.le_of_ble_eq_true rfl) (by omega) ⟨k1, v5, v10, rfl, ho1, hc11⟩ ?_
  refine e_iconst dX6_drawInto_14 ci_0 ?_
  refine e_istore_nL [some (.ref 1), some (.ref k1), some (.int (0 : Int32)), none, none] dX6_drawInto_15 (Nat.le_of_ble_eq_true rfl) rfl ?_
  exact e_le (g_X6_drawInto_16 k1 ho1 BIG (0 : Int32) μ12 _ (by omega) h) ⟨rfl, rfl, rfl, trivial⟩
set_option maxRecDepth 20000 in
theorem ok_X6_drawInto (l : Launch) (hl : l.stackTraces = false) : MOK l yX6_drawInto.cls 5 89 mX6_drawInto := ⟨lk_all (List.forall_mem_cons.mpr ⟨⟨yX6_signAt, cX6_signAt, 2, (some .char), 1, 0, by decide, by decide, t_1 2 rfl rfl, hd_X6_signAt, Or.inr (Or.inl ⟨rfl, sc_X6_signAt l hl, t_1 171 rfl rfl, t_1 168 rfl rfl, t_1 170 rfl rfl, _, rfl, t_p 1 rfl⟩)⟩, List.forall_mem_cons.mpr ⟨⟨yX6_digitAt, cX6_digitAt, 2, (some .int), 2, 21, by decide, by decide, t_1 2 rfl rfl, hd_X6_digitAt, Or.inr (Or.inl ⟨rfl, sc_X6_digitAt l hl, t_1 179 rfl rfl, t_1 176 rfl rfl, t_1 178 rfl rfl, _, rfl, t_p 3 rfl⟩)⟩, List.forall_mem_cons.mpr ⟨⟨yX6_cellsEnd, cX6_cellsEnd, 1, (some .int), 3, 42, by decide, by decide, t_1 2 rfl rfl, hd_X6_cellsEnd, Or.inr (Or.inl ⟨rfl, sc_X6_cellsEnd l hl, t_1 183 rfl rfl, t_1 180 rfl rfl, t_1 182 rfl rfl, _, rfl, t_p 4 rfl⟩)⟩, List.forall_mem_cons.mpr ⟨⟨yX4_beginBlank, cX4_beginBlank, 3, none, 1, 0, by decide, by decide, t_1 3 rfl rfl, hd_X4_beginBlank, Or.inr (Or.inl ⟨rfl, sc_X4_beginBlank l hl, t_3 82 rfl rfl, t_3 79 rfl rfl, t_3 80 rfl rfl, _, rfl, t_3 81 rfl rfl⟩)⟩, List.forall_mem_cons.mpr ⟨⟨yX4_setFilled, cX4_setFilled, 7, (some .boolean), 2, 21, by decide, by decide, t_1 3 rfl rfl, hd_X4_setFilled, Or.inr (Or.inl ⟨rfl, sc_X4_setFilled l hl, t_2 35 rfl rfl, t_3 83 rfl rfl, t_2 33 rfl rfl, _, rfl, t_2 34 rfl rfl⟩)⟩, List.forall_mem_cons.mpr ⟨⟨yX4_setPinned, cX4_setPinned, 7, (some .boolean), 2, 21, by decide, by decide, t_1 3 rfl rfl, hd_X4_setPinned, Or.inr (Or.inl ⟨rfl, sc_X4_setPinned l hl, t_2 40 rfl rfl, t_3 84 rfl rfl, t_2 38 rfl rfl, _, rfl, t_2 39 rfl rfl⟩)⟩, List.forall_mem_cons.mpr ⟨⟨yX4_wantTheCounts, cX4_wantTheCounts, 4, (some .int), 4, 66, by decide, by decide, t_1 3 rfl rfl, hd_X4_wantTheCounts, Or.inr (Or.inl ⟨rfl, sc_X4_wantTheCounts l hl, t_1 214 rfl rfl, t_3 85 rfl rfl, t_1 212 rfl rfl, _, rfl, t_1 213 rfl rfl⟩)⟩, List.forall_mem_cons.mpr ⟨⟨yX4_setWanted, cX4_setWanted, 4, (some .int), 3, 43, by decide, by decide, t_1 3 rfl rfl, hd_X4_setWanted, Or.inr (Or.inl ⟨rfl, sc_X4_setWanted l hl, t_2 5 rfl rfl, t_3 86 rfl rfl, t_2 3 rfl rfl, _, rfl, t_2 4 rfl rfl⟩)⟩, nil_all⟩⟩⟩⟩⟩⟩⟩⟩), fun ix ci j h => lk_all (P := fun ix q => FldOK yX6_drawInto.cls ix q.1 q.2) (List.forall_mem_cons.mpr ⟨⟨_, rfl, by decide, t_1 34 rfl rfl⟩, List.forall_mem_cons.mpr ⟨⟨_, rfl, by decide, t_1 50 rfl rfl⟩, List.forall_mem_cons.mpr ⟨⟨_, rfl, by decide, t_1 54 rfl rfl⟩, nil_all⟩⟩⟩) ix (ci, j) h, lk_all (nil_all), lk_all (nil_all), lk_all (nil_all)⟩
theorem hd_X6_drawInto : CallHd yX6_drawInto 1 := ⟨by decide +kernel, by decide +kernel, by decide +kernel⟩
theorem sc_X6_drawInto (l : Launch) (hl : l.stackTraces = false) : SCon l yX6_drawInto cX6_drawInto 5 none 5 89 0 Γ_X6_drawInto := scon_of mX6_drawInto cls_ok hl (by decide +kernel) rfl rfl (ok_X6_drawInto l hl) rfl rfl b_X6_drawInto
def F_X6_empty (μ : Mem) : Out := lt (μ.1 1 1) (fun v1 => lt (sI μ 1 1 (0 : Int32)) (fun μ2 => rI v1 μ2))
def Γ_X6_empty : Gam := fun as μ r μ' => as = [.ref 1] ∧ F_X6_empty μ = some (r, μ')
def mX6_empty : MI := (cX6_empty, [], [(15, 4, 1)], [], [], [], [], none, (some .int))
set_option maxHeartbeats 4000000 in
theorem b_X6_empty : ∀ as μ r μ', Γ_X6_empty as μ r μ' → (elvL as).length ≤ 2 ∧ G mX6_empty (Qe r μ') 0 (elv as 2) [] μ 0 := by
  intro as μ r μ' h
  obtain ⟨rfl, h⟩ := h
  refine ⟨Nat.le_of_ble_eq_true rfl, ?_⟩
  show G mX6_empty (Qe r μ') 0 [some (.ref 1), none] [] μ 0
  unfold F_X6_empty at h
  have hb9 : 0 ≤ 0 := Nat.le_refl _
  refine e_aload_n dX6_empty_0 rfl ?_
  refine e_get (ci := 4) (j := 1) (t := 0) (v := .int (μ.1 1 1)) dX6_empty_1 rfl (by decide) rfl rfl rfl ?_
  refine e_naI h (fun v1 ev1 h => ?_)
  refine e_istore_nL [some (.ref 1), some (.int v1)] dX6_empty_4 (Nat.le_of_ble_eq_true rfl) rfl ?_
  refine e_aload_n dX6_empty_5 rfl ?_
  refine e_iconst dX6_empty_6 ci_0 ?_
  refine e_putI (ci := 4) (j := 1) dX6_empty_7 rfl (by decide) rfl rfl ?_
  refine e_naM (e := sI μ 1 1 (0 : Int32)) h (fun μ2 eμ2 h => ?_)
  refine e_iload_n dX6_empty_10 rfl ?_
  exact e_iret .int dX6_empty_11 rfl rfl (ret_eq h)
set_option maxRecDepth 20000 in
theorem ok_X6_empty (l : Launch) (hl : l.stackTraces = false) : MOK l yX6_empty.cls 1 0 mX6_empty := ⟨lk_all (nil_all), fun ix ci j h => lk_all (P := fun ix q => FldOK yX6_empty.cls ix q.1 q.2) (List.forall_mem_cons.mpr ⟨⟨_, rfl, by decide, t_1 34 rfl rfl⟩, nil_all⟩) ix (ci, j) h, lk_all (nil_all), lk_all (nil_all), lk_all (nil_all)⟩
theorem hd_X6_empty : CallHd yX6_empty 0 := ⟨by decide +kernel, by decide +kernel, by decide +kernel⟩
theorem sc_X6_empty (l : Launch) (hl : l.stackTraces = false) : SCon l yX6_empty cX6_empty 2 (some .int) 1 0 0 Γ_X6_empty := scon_of mX6_empty cls_ok hl (by decide +kernel) rfl rfl (ok_X6_empty l hl) rfl rfl b_X6_empty
def F_X6_isCellSign (a0 : Int32) (μ : Mem) : Out := if a0 = (46 : Int32) then (rI (1 : Int32) μ) else (if a0 = (35 : Int32) then (rI (1 : Int32) μ) else (if a0 = (44 : Int32) then (rI (1 : Int32) μ) else (if a0 = (37 : Int32) then (rI (1 : Int32) μ) else (rI (0 : Int32) μ))))
def Γ_X6_isCellSign : Gam := fun as μ r μ' => ∃ (a0 : Int32), as = [.int a0] ∧ F_X6_isCellSign a0 μ = some (r, μ')
def mX6_isCellSign : MI := (cX6_isCellSign, [], [], [], [], [], [], none, (some .boolean))
set_option maxHeartbeats 4000000 in
theorem b_X6_isCellSign : ∀ as μ r μ', Γ_X6_isCellSign as μ r μ' → (elvL as).length ≤ 1 ∧ G mX6_isCellSign (Qe r μ') 0 (elv as 1) [] μ 0 := by
  intro as μ r μ' h
  obtain ⟨a0, rfl, h⟩ := h
  refine ⟨Nat.le_of_ble_eq_true rfl, ?_⟩
  show G mX6_isCellSign (Qe r μ') 0 [some (.int a0)] [] μ 0
  unfold F_X6_isCellSign at h
  have hb9 : 0 ≤ 0 := Nat.le_refl _
  refine e_iload_n dX6_isCellSign_0 rfl ?_
  refine e_bipush dX6_isCellSign_1 cb_46 ?_
  refine e_ic_eq (tgt := 24) dX6_isCellSign_3 rfl (fun hc1 => ?_) (fun hc1 => ?_)
  · rw [if_pos hc1] at h
    refine e_iconst dX6_isCellSign_24 ci_1 ?_
    refine e_goto (tgt := 29) dX6_isCellSign_25 rfl ?_
    exact e_iret .boolean dX6_isCellSign_29 rfl rfl (ret_eq h)
  · rw [if_neg hc1] at h
    refine e_iload_n dX6_isCellSign_6 rfl ?_
    refine e_bipush dX6_isCellSign_7 cb_35 ?_
    refine e_ic_eq (tgt := 24) dX6_isCellSign_9 rfl (fun hc2 => ?_) (fun hc2 => ?_)
    · rw [if_pos hc2] at h
      refine e_iconst dX6_isCellSign_24 ci_1 ?_
      refine e_goto (tgt := 29) dX6_isCellSign_25 rfl ?_
      exact e_iret .boolean dX6_isCellSign_29 rfl rfl (ret_eq h)
    · rw [if_neg hc2] at h
      refine e_iload_n dX6_isCellSign_12 rfl ?_
      refine e_bipush dX6_isCellSign_13 cb_44 ?_
      refine e_ic_eq (tgt := 24) dX6_isCellSign_15 rfl (fun hc3 => ?_) (fun hc3 => ?_)
      · rw [if_pos hc3] at h
        refine e_iconst dX6_isCellSign_24 ci_1 ?_
        refine e_goto (tgt := 29) dX6_isCellSign_25 rfl ?_
        exact e_iret .boolean dX6_isCellSign_29 rfl rfl (ret_eq h)
      · rw [if_neg hc3] at h
        refine e_iload_n dX6_isCellSign_18 rfl ?_
        refine e_bipush dX6_isCellSign_19 cb_37 ?_
        refine e_ic_ne (tgt := 28) dX6_isCellSign_21 rfl (fun hc4 => ?_) (fun hc4 => ?_)
        · rw [if_neg hc4] at h
          refine e_iconst dX6_isCellSign_28 ci_0 ?_
          exact e_iret .boolean dX6_isCellSign_29 rfl rfl (ret_eq h)
        · rw [if_pos hc4] at h
          refine e_iconst dX6_isCellSign_24 ci_1 ?_
          refine e_goto (tgt := 29) dX6_isCellSign_25 rfl ?_
          exact e_iret .boolean dX6_isCellSign_29 rfl rfl (ret_eq h)
set_option maxRecDepth 20000 in
theorem ok_X6_isCellSign (l : Launch) (hl : l.stackTraces = false) : MOK l yX6_isCellSign.cls 1 0 mX6_isCellSign := ⟨lk_all (nil_all), fun ix ci j h => lk_all (P := fun ix q => FldOK yX6_isCellSign.cls ix q.1 q.2) (nil_all) ix (ci, j) h, lk_all (nil_all), lk_all (nil_all), lk_all (nil_all)⟩
theorem hd_X6_isCellSign : CallHd yX6_isCellSign 1 := ⟨by decide +kernel, by decide +kernel, by decide +kernel⟩
theorem sc_X6_isCellSign (l : Launch) (hl : l.stackTraces = false) : SCon l yX6_isCellSign cX6_isCellSign 1 (some .boolean) 1 0 0 Γ_X6_isCellSign := scon_of mX6_isCellSign cls_ok hl (by decide +kernel) rfl rfl (ok_X6_isCellSign l hl) rfl rfl b_X6_isCellSign
def F_X6_isDigit (a0 : Int32) (a1 : Int32) (μ : Mem) : Out := cI (F_X6_digitAt a0 μ) (fun v5 μ2 => if v5 < a1 then (rI (0 : Int32) μ2) else (cI (F_X6_digitAt a0 μ2) (fun v11 μ8 => if (6 : Int32) < v11 then (rI (0 : Int32) μ8) else (rI (1 : Int32) μ8))))
def Γ_X6_isDigit : Gam := fun as μ r μ' => ∃ (a0 : Int32) (a1 : Int32), as = [.ref 1, .int a0, .int a1] ∧ F_X6_isDigit a0 a1 μ = some (r, μ')
def mX6_isDigit : MI := (cX6_isDigit, [(23, (1, 1, 0, 4, Γ_X6_digitAt))], [], [], [], [], [], none, (some .boolean))
set_option maxHeartbeats 4000000 in
theorem b_X6_isDigit : ∀ as μ r μ', Γ_X6_isDigit as μ r μ' → (elvL as).length ≤ 3 ∧ G mX6_isDigit (Qe r μ') 0 (elv as 3) [] μ 0 := by
  intro as μ r μ' h
  obtain ⟨a0, a1, rfl, h⟩ := h
  refine ⟨Nat.le_of_ble_eq_true rfl, ?_⟩
  show G mX6_isDigit (Qe r μ') 0 [some (.ref 1), some (.int a0), some (.int a1)] [] μ 0
  unfold F_X6_isDigit at h
  have hb9 : 0 ≤ 0 := Nat.le_refl _
  refine e_aload_n dX6_isDigit_0 rfl ?_
  refine e_iload_n dX6_isDigit_1 rfl ?_
  refine cI_go h (fun E3 hc1 hr4 => e_VX [.int a0] [] dX6_isDigit_2 rfl rfl rfl rfl (by decide) (Nat.le_of_ble_eq_true rfl) (by omega) ⟨a0, rfl, hc1⟩ rfl ⟨hr4.symm, rfl⟩) (fun v5 μ2 hc1 h => ?_)
  refine e_VI [.int a0] [] dX6_isDigit_2 rfl rfl rfl rfl (by decide) (Nat.le_of_ble_eq_true rfl) (by omega) ⟨a0, rfl, hc1⟩ ?_
  refine e_iload_n dX6_isDigit_5 rfl ?_
  refine e_ic_lt (tgt := 23) dX6_isDigit_6 rfl (fun hc6 => ?_) (fun hc6 => ?_)
  · rw [if_pos hc6] at h
    refine e_iconst dX6_isDigit_23 ci_0 ?_
    exact e_iret .boolean dX6_isDigit_24 rfl rfl (ret_eq h)
  · rw [if_neg hc6] at h
    refine e_aload_n dX6_isDigit_9 rfl ?_
    refine e_iload_n dX6_isDigit_10 rfl ?_
    refine cI_go h (fun E9 hc7 hr10 => e_VX [.int a0] [] dX6_isDigit_11 rfl rfl rfl rfl (by decide) (Nat.le_of_ble_eq_true rfl) (by omega) ⟨a0, rfl, hc7⟩ rfl ⟨hr10.symm, rfl⟩) (fun v11 μ8 hc7 h => ?_)
    refine e_VI [.int a0] [] dX6_isDigit_11 rfl rfl rfl rfl (by decide) (Nat.le_of_ble_eq_true rfl) (by omega) ⟨a0, rfl, hc7⟩ ?_
    refine e_bipush dX6_isDigit_14 cb_6 ?_
    refine e_ic_gt (tgt := 23) dX6_isDigit_16 rfl (fun hc12 => ?_) (fun hc12 => ?_)
    · rw [if_pos hc12] at h
      refine e_iconst dX6_isDigit_23 ci_0 ?_
      exact e_iret .boolean dX6_isDigit_24 rfl rfl (ret_eq h)
    · rw [if_neg hc12] at h
      refine e_iconst dX6_isDigit_19 ci_1 ?_
      refine e_goto (tgt := 24) dX6_isDigit_20 rfl ?_
      exact e_iret .boolean dX6_isDigit_24 rfl rfl (ret_eq h)
set_option maxRecDepth 20000 in
theorem ok_X6_isDigit (l : Launch) (hl : l.stackTraces = false) : MOK l yX6_isDigit.cls 3 42 mX6_isDigit := ⟨lk_all (List.forall_mem_cons.mpr ⟨⟨yX6_digitAt, cX6_digitAt, 2, (some .int), 2, 21, by decide, by decide, t_1 2 rfl rfl, hd_X6_digitAt, Or.inr (Or.inl ⟨rfl, sc_X6_digitAt l hl, t_1 179 rfl rfl, t_1 176 rfl rfl, t_1 178 rfl rfl, _, rfl, t_p 3 rfl⟩)⟩, nil_all⟩), fun ix ci j h => lk_all (P := fun ix q => FldOK yX6_isDigit.cls ix q.1 q.2) (nil_all) ix (ci, j) h, lk_all (nil_all), lk_all (nil_all), lk_all (nil_all)⟩
theorem hd_X6_isDigit : CallHd yX6_isDigit 2 := ⟨by decide +kernel, by decide +kernel, by decide +kernel⟩
theorem sc_X6_isDigit (l : Launch) (hl : l.stackTraces = false) : SCon l yX6_isDigit cX6_isDigit 3 (some .boolean) 3 42 0 Γ_X6_isDigit := scon_of mX6_isDigit cls_ok hl (by decide +kernel) rfl rfl (ok_X6_isDigit l hl) rfl rfl b_X6_isDigit
def F_X6_wantsEnd (μ : Mem) : Out := cI (F_X6_cellsEnd μ) (fun v5 μ2 => cI (F_X6_digitAt (1 : Int32) μ2) (fun v10 μ7 => cI (F_X6_digitAt (2 : Int32) μ7) (fun v15 μ12 => rI (((v5 + (1 : Int32)) + v10) + v15) μ12)))
def Γ_X6_wantsEnd : Gam := fun as μ r μ' => as = [.ref 1] ∧ F_X6_wantsEnd μ = some (r, μ')
def mX6_wantsEnd : MI := (cX6_wantsEnd, [(23, (1, 1, 0, 4, Γ_X6_digitAt)), (39, (1, 0, 0, 4, Γ_X6_cellsEnd))], [], [], [], [], [], none, (some .int))
set_option maxHeartbeats 4000000 in
theorem b_X6_wantsEnd : ∀ as μ r μ', Γ_X6_wantsEnd as μ r μ' → (elvL as).length ≤ 1 ∧ G mX6_wantsEnd (Qe r μ') 0 (elv as 1) [] μ 0 := by
  intro as μ r μ' h
  obtain ⟨rfl, h⟩ := h
  refine ⟨Nat.le_of_ble_eq_true rfl, ?_⟩
  show G mX6_wantsEnd (Qe r μ') 0 [some (.ref 1)] [] μ 0
  unfold F_X6_wantsEnd at h
  have hb9 : 0 ≤ 0 := Nat.le_refl _
  refine e_aload_n dX6_wantsEnd_0 rfl ?_
  refine cI_go h (fun E3 hc1 hr4 => e_VX [] [] dX6_wantsEnd_1 rfl rfl rfl rfl (by decide) (Nat.le_of_ble_eq_true rfl) (by omega) ⟨rfl, hc1⟩ rfl ⟨hr4.symm, rfl⟩) (fun v5 μ2 hc1 h => ?_)
  refine e_VI [] [] dX6_wantsEnd_1 rfl rfl rfl rfl (by decide) (Nat.le_of_ble_eq_true rfl) (by omega) ⟨rfl, hc1⟩ ?_
  refine e_iconst dX6_wantsEnd_4 ci_1 ?_
  refine e_iadd dX6_wantsEnd_5 ?_
  refine e_aload_n dX6_wantsEnd_6 rfl ?_
  refine e_iconst dX6_wantsEnd_7 ci_1 ?_
  refine cI_go h (fun E8 hc6 hr9 => e_VX [.int (1 : Int32)] [.int (v5 + (1 : Int32))] dX6_wantsEnd_8 rfl rfl rfl rfl (by decide) (Nat.le_of_ble_eq_true rfl) (by omega) ⟨(1 : Int32), rfl, hc6⟩ rfl ⟨hr9.symm, rfl⟩) (fun v10 μ7 hc6 h => ?_)
  refine e_VI [.int (1 : Int32)] [.int (v5 + (1 : Int32))] dX6_wantsEnd_8 rfl rfl rfl rfl (by decide) (Nat.le_of_ble_eq_true rfl) (by omega) ⟨(1 : Int32), rfl, hc6⟩ ?_
  refine e_iadd dX6_wantsEnd_11 ?_
  refine e_aload_n dX6_wantsEnd_12 rfl ?_
  refine e_iconst dX6_wantsEnd_13 ci_2 ?_
  refine cI_go h (fun E13 hc11 hr14 => e_VX [.int (2 : Int32)] [.int ((v5 + (1 : Int32)) + v10)] dX6_wantsEnd_14 rfl rfl rfl rfl (by decide) (Nat.le_of_ble_eq_true rfl) (by omega) ⟨(2 : Int32), rfl, hc11⟩ rfl ⟨hr14.symm, rfl⟩) (fun v15 μ12 hc11 h => ?_)
  refine e_VI [.int (2 : Int32)] [.int ((v5 + (1 : Int32)) + v10)] dX6_wantsEnd_14 rfl rfl rfl rfl (by decide) (Nat.le_of_ble_eq_true rfl) (by omega) ⟨(2 : Int32), rfl, hc11⟩ ?_
  refine e_iadd dX6_wantsEnd_17 ?_
  exact e_iret .int dX6_wantsEnd_18 rfl rfl (ret_eq h)
set_option maxRecDepth 20000 in
theorem ok_X6_wantsEnd (l : Launch) (hl : l.stackTraces = false) : MOK l yX6_wantsEnd.cls 4 62 mX6_wantsEnd := ⟨lk_all (List.forall_mem_cons.mpr ⟨⟨yX6_digitAt, cX6_digitAt, 2, (some .int), 2, 21, by decide, by decide, t_1 2 rfl rfl, hd_X6_digitAt, Or.inr (Or.inl ⟨rfl, sc_X6_digitAt l hl, t_1 179 rfl rfl, t_1 176 rfl rfl, t_1 178 rfl rfl, _, rfl, t_p 3 rfl⟩)⟩, List.forall_mem_cons.mpr ⟨⟨yX6_cellsEnd, cX6_cellsEnd, 1, (some .int), 3, 42, by decide, by decide, t_1 2 rfl rfl, hd_X6_cellsEnd, Or.inr (Or.inl ⟨rfl, sc_X6_cellsEnd l hl, t_1 183 rfl rfl, t_1 180 rfl rfl, t_1 182 rfl rfl, _, rfl, t_p 4 rfl⟩)⟩, nil_all⟩⟩), fun ix ci j h => lk_all (P := fun ix q => FldOK yX6_wantsEnd.cls ix q.1 q.2) (nil_all) ix (ci, j) h, lk_all (nil_all), lk_all (nil_all), lk_all (nil_all)⟩
theorem hd_X6_wantsEnd : CallHd yX6_wantsEnd 0 := ⟨by decide +kernel, by decide +kernel, by decide +kernel⟩
theorem sc_X6_wantsEnd (l : Launch) (hl : l.stackTraces = false) : SCon l yX6_wantsEnd cX6_wantsEnd 1 (some .int) 4 62 0 Γ_X6_wantsEnd := scon_of mX6_wantsEnd cls_ok hl (by decide +kernel) rfl rfl (ok_X6_wantsEnd l hl) rfl rfl b_X6_wantsEnd
def F_X6_isAllowed (a0 : Int32) (μ : Mem) : Out := if a0 = 0 then (cI (F_X6_signAt a0 μ) (fun v54 μ51 => if v54 = (80 : Int32) then (rI (1 : Int32) μ51) else (rI (0 : Int32) μ51))) else (if (3 : Int32) ≤ a0 then (cI (F_X6_cellsEnd μ) (fun v7 μ4 => if v7 ≤ a0 then (cI (F_X6_cellsEnd μ4) (fun v13 μ10 => if a0 = v13 then (cI (F_X6_signAt a0 μ10) (fun v31 μ28 => if v31 = (58 : Int32) then (rI (1 : Int32) μ28) else (rI (0 : Int32) μ28))) else (cI (F_X6_wantsEnd μ10) (fun v19 μ16 => if v19 ≤ a0 then (rI (0 : Int32) μ16) else (cI (F_X6_isDigit a0 (0 : Int32) μ16) (fun v25 μ22 => if v25 = 0 then (rI (0 : Int32) μ22) else (rI (1 : Int32) μ22))))))) else (cI (F_X6_signAt a0 μ4) (fun v37 μ34 => cI (F_X6_isCellSign v37 μ34) (fun v42 μ39 => ck (nz v42) (rI v42 μ39)))))) else (cI (F_X6_isDigit a0 (1 : Int32) μ) (fun v48 μ45 => ck (nz v48) (rI v48 μ45))))
def Γ_X6_isAllowed : Gam := fun as μ r μ' => ∃ (a0 : Int32), as = [.ref 1, .int a0] ∧ F_X6_isAllowed a0 μ = some (r, μ')
def mX6_isAllowed : MI := (cX6_isAllowed, [(19, (1, 1, 0, 4, Γ_X6_signAt)), (35, (1, 2, 0, 4, Γ_X6_isDigit)), (39, (1, 0, 0, 4, Γ_X6_cellsEnd)), (43, (0, 1, 0, 0, Γ_X6_isCellSign)), (47, (1, 0, 0, 4, Γ_X6_wantsEnd))], [], [], [], [], [], none, (some .boolean))
set_option maxHeartbeats 4000000 in
theorem b_X6_isAllowed : ∀ as μ r μ', Γ_X6_isAllowed as μ r μ' → (elvL as).length ≤ 2 ∧ G mX6_isAllowed (Qe r μ') 0 (elv as 2) [] μ 0 := by
  intro as μ r μ' h
  obtain ⟨a0, rfl, h⟩ := h
  refine ⟨Nat.le_of_ble_eq_true rfl, ?_⟩
  show G mX6_isAllowed (Qe r μ') 0 [some (.ref 1), some (.int a0)] [] μ 0
  unfold F_X6_isAllowed at h
  have hb9 : 0 ≤ 0 := Nat.le_refl _
  refine e_iload_n dX6_isAllowed_0 rfl ?_
  refine e_if_ne (tgt := 20) dX6_isAllowed_1 rfl (fun hc1 => ?_) (fun hc1 => ?_)
  · rw [if_neg hc1] at h
    refine e_iload_n dX6_isAllowed_20 rfl ?_
    refine e_iconst dX6_isAllowed_21 ci_3 ?_
    refine e_ic_ge (tgt := 32) dX6_isAllowed_22 rfl (fun hc2 => ?_) (fun hc2 => ?_)
    · rw [if_pos hc2] at h
      refine e_iload_n dX6_isAllowed_32 rfl ?_
      refine e_aload_n dX6_isAllowed_33 rfl ?_
      refine cI_go h (fun E5 hc3 hr6 => e_VX [] [.int a0] dX6_isAllowed_34 rfl rfl rfl rfl (by decide) (Nat.le_of_ble_eq_true rfl) (by omega) ⟨rfl, hc3⟩ rfl ⟨hr6.symm, rfl⟩) (fun v7 μ4 hc3 h => ?_)
      refine e_VI [] [.int a0] dX6_isAllowed_34 rfl rfl rfl rfl (by decide) (Nat.le_of_ble_eq_true rfl) (by omega) ⟨rfl, hc3⟩ ?_
      refine e_ic_ge (tgt := 49) dX6_isAllowed_37 rfl (fun hc8 => ?_) (fun hc8 => ?_)
      · rw [if_pos hc8] at h
        refine e_iload_n dX6_isAllowed_49 rfl ?_
        refine e_aload_n dX6_isAllowed_50 rfl ?_
        refine cI_go h (fun E11 hc9 hr12 => e_VX [] [.int a0] dX6_isAllowed_51 rfl rfl rfl rfl (by decide) (Nat.le_of_ble_eq_true rfl) (by omega) ⟨rfl, hc9⟩ rfl ⟨hr12.symm, rfl⟩) (fun v13 μ10 hc9 h => ?_)
        refine e_VI [] [.int a0] dX6_isAllowed_51 rfl rfl rfl rfl (by decide) (Nat.le_of_ble_eq_true rfl) (by omega) ⟨rfl, hc9⟩ ?_
        refine e_ic_ne (tgt := 73) dX6_isAllowed_54 rfl (fun hc14 => ?_) (fun hc14 => ?_)
        · rw [if_neg hc14] at h
          refine e_iload_n dX6_isAllowed_73 rfl ?_
          refine e_aload_n dX6_isAllowed_74 rfl ?_
          refine cI_go h (fun E17 hc15 hr18 => e_VX [] [.int a0] dX6_isAllowed_75 rfl rfl rfl rfl (by decide) (Nat.le_of_ble_eq_true rfl) (by omega) ⟨rfl, hc15⟩ rfl ⟨hr18.symm, rfl⟩) (fun v19 μ16 hc15 h => ?_)
          refine e_VI [] [.int a0] dX6_isAllowed_75 rfl rfl rfl rfl (by decide) (Nat.le_of_ble_eq_true rfl) (by omega) ⟨rfl, hc15⟩ ?_
          refine e_ic_ge (tgt := 94) dX6_isAllowed_78 rfl (fun hc20 => ?_) (fun hc20 => ?_)
          · rw [if_pos hc20] at h
            refine e_iconst dX6_isAllowed_94 ci_0 ?_
            exact e_iret .boolean dX6_isAllowed_95 rfl rfl (ret_eq h)
          · rw [if_neg hc20] at h
            refine e_aload_n dX6_isAllowed_81 rfl ?_
            refine e_iload_n dX6_isAllowed_82 rfl ?_
            refine e_iconst dX6_isAllowed_83 ci_0 ?_
            refine cI_go h (fun E23 hc21 hr24 => e_VX [.int a0, .int (0 : Int32)] [] dX6_isAllowed_84 rfl rfl rfl rfl (by decide) (Nat.le_of_ble_eq_true rfl) (by omega) ⟨a0, (0 : Int32), rfl, hc21⟩ rfl ⟨hr24.symm, rfl⟩) (fun v25 μ22 hc21 h => ?_)
            refine e_VI [.int a0, .int (0 : Int32)] [] dX6_isAllowed_84 rfl rfl rfl rfl (by decide) (Nat.le_of_ble_eq_true rfl) (by omega) ⟨a0, (0 : Int32), rfl, hc21⟩ ?_
            refine e_if_eq (tgt := 94) dX6_isAllowed_87 rfl (fun hc26 => ?_) (fun hc26 => ?_)
            · rw [if_pos hc26] at h
              refine e_iconst dX6_isAllowed_94 ci_0 ?_
              exact e_iret .boolean dX6_isAllowed_95 rfl rfl (ret_eq h)
            · rw [if_neg hc26] at h
              refine e_iconst dX6_isAllowed_90 ci_1 ?_
              refine e_goto (tgt := 95) dX6_isAllowed_91 rfl ?_
              exact e_iret .boolean dX6_isAllowed_95 rfl rfl (ret_eq h)
        · rw [if_pos hc14] at h
          refine e_aload_n dX6_isAllowed_57 rfl ?_
          refine e_iload_n dX6_isAllowed_58 rfl ?_
          refine cI_go h (fun E29 hc27 hr30 => e_VX [.int a0] [] dX6_isAllowed_59 rfl rfl rfl rfl (by decide) (Nat.le_of_ble_eq_true rfl) (by omega) ⟨a0, rfl, hc27⟩ rfl ⟨hr30.symm, rfl⟩) (fun v31 μ28 hc27 h => ?_)
          refine e_VI [.int a0] [] dX6_isAllowed_59 rfl rfl rfl rfl (by decide) (Nat.le_of_ble_eq_true rfl) (by omega) ⟨a0, rfl, hc27⟩ ?_
          refine e_bipush dX6_isAllowed_62 cb_58 ?_
          refine e_ic_ne (tgt := 71) dX6_isAllowed_64 rfl (fun hc32 => ?_) (fun hc32 => ?_)
          · rw [if_neg hc32] at h
            refine e_iconst dX6_isAllowed_71 ci_0 ?_
            exact e_iret .boolean dX6_isAllowed_72 rfl rfl (ret_eq h)
          · rw [if_pos hc32] at h
            refine e_iconst dX6_isAllowed_67 ci_1 ?_
            refine e_goto (tgt := 72) dX6_isAllowed_68 rfl ?_
            exact e_iret .boolean dX6_isAllowed_72 rfl rfl (ret_eq h)
      · rw [if_neg hc8] at h
        refine e_aload_n dX6_isAllowed_40 rfl ?_
        refine e_iload_n dX6_isAllowed_41 rfl ?_
        refine cI_go h (fun E35 hc33 hr36 => e_VX [.int a0] [] dX6_isAllowed_42 rfl rfl rfl rfl (by decide) (Nat.le_of_ble_eq_true rfl) (by omega) ⟨a0, rfl, hc33⟩ rfl ⟨hr36.symm, rfl⟩) (fun v37 μ34 hc33 h => ?_)
        refine e_VI [.int a0] [] dX6_isAllowed_42 rfl rfl rfl rfl (by decide) (Nat.le_of_ble_eq_true rfl) (by omega) ⟨a0, rfl, hc33⟩ ?_
        refine cI_go h (fun E40 hc38 hr41 => e_SX [.int v37] [] dX6_isAllowed_45 rfl (by decide) rfl rfl (Nat.le_of_ble_eq_true rfl) (by omega) ⟨v37, rfl, hc38⟩ rfl ⟨hr41.symm, rfl⟩) (fun v42 μ39 hc38 h => ?_)
        refine e_SI [.int v37] [] dX6_isAllowed_45 rfl (by decide) rfl rfl (Nat.le_of_ble_eq_true rfl) (by omega) ⟨v37, rfl, hc38⟩ ?_
        obtain ⟨hc43, h⟩ := ck_eq h
        exact e_iret .boolean dX6_isAllowed_48 rfl hc43 (ret_eq h)
    · rw [if_neg hc2] at h
      refine e_aload_n dX6_isAllowed_25 rfl ?_
      refine e_iload_n dX6_isAllowed_26 rfl ?_
      refine e_iconst dX6_isAllowed_27 ci_1 ?_
      refine cI_go h (fun E46 hc44 hr47 => e_VX [.int a0, .int (1 : Int32)] [] dX6_isAllowed_28 rfl rfl rfl rfl (by decide) (Nat.le_of_ble_eq_true rfl) (by omega) ⟨a0, (1 : Int32), rfl, hc44⟩ rfl ⟨hr47.symm, rfl⟩) (fun v48 μ45 hc44 h => ?_)
      refine e_VI [.int a0, .int (1 : Int32)] [] dX6_isAllowed_28 rfl rfl rfl rfl (by decide) (Nat.le_of_ble_eq_true rfl) (by omega) ⟨a0, (1 : Int32), rfl, hc44⟩ ?_
      obtain ⟨hc49, h⟩ := ck_eq h
      exact e_iret .boolean dX6_isAllowed_31 rfl hc49 (ret_eq h)
  · rw [if_pos hc1] at h
    refine e_aload_n dX6_isAllowed_4 rfl ?_
    refine e_iload_n dX6_isAllowed_5 rfl ?_
    refine cI_go h (fun E52 hc50 hr53 => e_VX [.int a0] [] dX6_isAllowed_6 rfl rfl rfl rfl (by decide) (Nat.le_of_ble_eq_true rfl) (by omega) ⟨a0, rfl, hc50⟩ rfl ⟨hr53.symm, rfl⟩) (fun v54 μ51 hc50 h => ?_)
    refine e_VI [.int a0] [] dX6_isAllowed_6 rfl rfl rfl rfl (by decide) (Nat.le_of_ble_eq_true rfl) (by omega) ⟨a0, rfl, hc50⟩ ?_
    refine e_bipush dX6_isAllowed_9 cb_80 ?_
    refine e_ic_ne (tgt := 18) dX6_isAllowed_11 rfl (fun hc55 => ?_) (fun hc55 => ?_)
    · rw [if_neg hc55] at h
      refine e_iconst dX6_isAllowed_18 ci_0 ?_
      exact e_iret .boolean dX6_isAllowed_19 rfl rfl (ret_eq h)
    · rw [if_pos hc55] at h
      refine e_iconst dX6_isAllowed_14 ci_1 ?_
      refine e_goto (tgt := 19) dX6_isAllowed_15 rfl ?_
      exact e_iret .boolean dX6_isAllowed_19 rfl rfl (ret_eq h)
set_option maxRecDepth 20000 in
theorem ok_X6_isAllowed (l : Launch) (hl : l.stackTraces = false) : MOK l yX6_isAllowed.cls 5 82 mX6_isAllowed := ⟨lk_all (List.forall_mem_cons.mpr ⟨⟨yX6_signAt, cX6_signAt, 2, (some .char), 1, 0, by decide, by decide, t_1 2 rfl rfl, hd_X6_signAt, Or.inr (Or.inl ⟨rfl, sc_X6_signAt l hl, t_1 171 rfl rfl, t_1 168 rfl rfl, t_1 170 rfl rfl, _, rfl, t_p 1 rfl⟩)⟩, List.forall_mem_cons.mpr ⟨⟨yX6_isDigit, cX6_isDigit, 3, (some .boolean), 3, 42, by decide, by decide, t_1 2 rfl rfl, hd_X6_isDigit, Or.inr (Or.inl ⟨rfl, sc_X6_isDigit l hl, t_1 175 rfl rfl, t_1 172 rfl rfl, t_1 174 rfl rfl, _, rfl, t_p 2 rfl⟩)⟩, List.forall_mem_cons.mpr ⟨⟨yX6_cellsEnd, cX6_cellsEnd, 1, (some .int), 3, 42, by decide, by decide, t_1 2 rfl rfl, hd_X6_cellsEnd, Or.inr (Or.inl ⟨rfl, sc_X6_cellsEnd l hl, t_1 183 rfl rfl, t_1 180 rfl rfl, t_1 182 rfl rfl, _, rfl, t_p 4 rfl⟩)⟩, List.forall_mem_cons.mpr ⟨⟨yX6_isCellSign, cX6_isCellSign, 1, (some .boolean), 1, 0, by decide, by decide, t_1 2 rfl rfl, hd_X6_isCellSign, Or.inl ⟨rfl, sc_X6_isCellSign l hl, t_1 186 rfl rfl, t_1 184 rfl rfl, t_1 185 rfl rfl⟩⟩, List.forall_mem_cons.mpr ⟨⟨yX6_wantsEnd, cX6_wantsEnd, 1, (some .int), 4, 62, by decide, by decide, t_1 2 rfl rfl, hd_X6_wantsEnd, Or.inr (Or.inl ⟨rfl, sc_X6_wantsEnd l hl, t_1 190 rfl rfl, t_1 187 rfl rfl, t_1 189 rfl rfl, _, rfl, t_p 5 rfl⟩)⟩, nil_all⟩⟩⟩⟩⟩), fun ix ci j h => lk_all (P := fun ix q => FldOK yX6_isAllowed.cls ix q.1 q.2) (nil_all) ix (ci, j) h, lk_all (nil_all), lk_all (nil_all), lk_all (nil_all)⟩
theorem hd_X6_isAllowed : CallHd yX6_isAllowed 1 := ⟨by decide +kernel, by decide +kernel, by decide +kernel⟩
theorem sc_X6_isAllowed (l : Launch) (hl : l.stackTraces = false) : SCon l yX6_isAllowed cX6_isAllowed 2 (some .boolean) 5 82 0 Γ_X6_isAllowed := scon_of mX6_isAllowed cls_ok hl (by decide +kernel) rfl rfl (ok_X6_isAllowed l hl) rfl rfl b_X6_isAllowed
def F_X6_isWhole (μ : Mem) : Out := if (μ.1 1 1) < (3 : Int32) then (rI (0 : Int32) μ) else (cI (F_X6_cellsEnd μ) (fun v6 μ3 => if (μ.1 1 1) = v6 then (rI (1 : Int32) μ3) else (cI (F_X6_wantsEnd μ3) (fun v12 μ9 => if (μ3.1 1 1) = v12 then (rI (1 : Int32) μ9) else (rI (0 : Int32) μ9)))))
def Γ_X6_isWhole : Gam := fun as μ r μ' => as = [.ref 1] ∧ F_X6_isWhole μ = some (r, μ')
def mX6_isWhole : MI := (cX6_isWhole, [(39, (1, 0, 0, 4, Γ_X6_cellsEnd)), (47, (1, 0, 0, 4, Γ_X6_wantsEnd))], [(15, 4, 1)], [], [], [], [], none, (some .boolean))
set_option maxHeartbeats 4000000 in
theorem b_X6_isWhole : ∀ as μ r μ', Γ_X6_isWhole as μ r μ' → (elvL as).length ≤ 1 ∧ G mX6_isWhole (Qe r μ') 0 (elv as 1) [] μ 0 := by
  intro as μ r μ' h
  obtain ⟨rfl, h⟩ := h
  refine ⟨Nat.le_of_ble_eq_true rfl, ?_⟩
  show G mX6_isWhole (Qe r μ') 0 [some (.ref 1)] [] μ 0
  unfold F_X6_isWhole at h
  have hb9 : 0 ≤ 0 := Nat.le_refl _
  refine e_aload_n dX6_isWhole_0 rfl ?_
  refine e_get (ci := 4) (j := 1) (t := 0) (v := .int (μ.1 1 1)) dX6_isWhole_1 rfl (by decide) rfl rfl rfl ?_
  refine e_iconst dX6_isWhole_4 ci_3 ?_
  refine e_ic_lt (tgt := 34) dX6_isWhole_5 rfl (fun hc1 => ?_) (fun hc1 => ?_)
  · rw [if_pos hc1] at h
    refine e_iconst dX6_isWhole_34 ci_0 ?_
    exact e_iret .boolean dX6_isWhole_35 rfl rfl (ret_eq h)
  · rw [if_neg hc1] at h
    refine e_aload_n dX6_isWhole_8 rfl ?_
    refine e_get (ci := 4) (j := 1) (t := 0) (v := .int (μ.1 1 1)) dX6_isWhole_9 rfl (by decide) rfl rfl rfl ?_
    refine e_aload_n dX6_isWhole_12 rfl ?_
    refine cI_go h (fun E4 hc2 hr5 => e_VX [] [.int (μ.1 1 1)] dX6_isWhole_13 rfl rfl rfl rfl (by decide) (Nat.le_of_ble_eq_true rfl) (by omega) ⟨rfl, hc2⟩ rfl ⟨hr5.symm, rfl⟩) (fun v6 μ3 hc2 h => ?_)
    refine e_VI [] [.int (μ.1 1 1)] dX6_isWhole_13 rfl rfl rfl rfl (by decide) (Nat.le_of_ble_eq_true rfl) (by omega) ⟨rfl, hc2⟩ ?_
    refine e_ic_eq (tgt := 30) dX6_isWhole_16 rfl (fun hc7 => ?_) (fun hc7 => ?_)
    · rw [if_pos hc7] at h
      refine e_iconst dX6_isWhole_30 ci_1 ?_
      refine e_goto (tgt := 35) dX6_isWhole_31 rfl ?_
      exact e_iret .boolean dX6_isWhole_35 rfl rfl (ret_eq h)
    · rw [if_neg hc7] at h
      refine e_aload_n dX6_isWhole_19 rfl ?_
      refine e_get (ci := 4) (j := 1) (t := 0) (v := .int (μ3.1 1 1)) dX6_isWhole_20 rfl (by decide) rfl rfl rfl ?_
      refine e_aload_n dX6_isWhole_23 rfl ?_
      refine cI_go h (fun E10 hc8 hr11 => e_VX [] [.int (μ3.1 1 1)] dX6_isWhole_24 rfl rfl rfl rfl (by decide) (Nat.le_of_ble_eq_true rfl) (by omega) ⟨rfl, hc8⟩ rfl ⟨hr11.symm, rfl⟩) (fun v12 μ9 hc8 h => ?_)
      refine e_VI [] [.int (μ3.1 1 1)] dX6_isWhole_24 rfl rfl rfl rfl (by decide) (Nat.le_of_ble_eq_true rfl) (by omega) ⟨rfl, hc8⟩ ?_
      refine e_ic_ne (tgt := 34) dX6_isWhole_27 rfl (fun hc13 => ?_) (fun hc13 => ?_)
      · rw [if_neg hc13] at h
        refine e_iconst dX6_isWhole_34 ci_0 ?_
        exact e_iret .boolean dX6_isWhole_35 rfl rfl (ret_eq h)
      · rw [if_pos hc13] at h
        refine e_iconst dX6_isWhole_30 ci_1 ?_
        refine e_goto (tgt := 35) dX6_isWhole_31 rfl ?_
        exact e_iret .boolean dX6_isWhole_35 rfl rfl (ret_eq h)
set_option maxRecDepth 20000 in
theorem ok_X6_isWhole (l : Launch) (hl : l.stackTraces = false) : MOK l yX6_isWhole.cls 5 82 mX6_isWhole := ⟨lk_all (List.forall_mem_cons.mpr ⟨⟨yX6_cellsEnd, cX6_cellsEnd, 1, (some .int), 3, 42, by decide, by decide, t_1 2 rfl rfl, hd_X6_cellsEnd, Or.inr (Or.inl ⟨rfl, sc_X6_cellsEnd l hl, t_1 183 rfl rfl, t_1 180 rfl rfl, t_1 182 rfl rfl, _, rfl, t_p 4 rfl⟩)⟩, List.forall_mem_cons.mpr ⟨⟨yX6_wantsEnd, cX6_wantsEnd, 1, (some .int), 4, 62, by decide, by decide, t_1 2 rfl rfl, hd_X6_wantsEnd, Or.inr (Or.inl ⟨rfl, sc_X6_wantsEnd l hl, t_1 190 rfl rfl, t_1 187 rfl rfl, t_1 189 rfl rfl, _, rfl, t_p 5 rfl⟩)⟩, nil_all⟩⟩), fun ix ci j h => lk_all (P := fun ix q => FldOK yX6_isWhole.cls ix q.1 q.2) (List.forall_mem_cons.mpr ⟨⟨_, rfl, by decide, t_1 34 rfl rfl⟩, nil_all⟩) ix (ci, j) h, lk_all (nil_all), lk_all (nil_all), lk_all (nil_all)⟩
theorem hd_X6_isWhole : CallHd yX6_isWhole 0 := ⟨by decide +kernel, by decide +kernel, by decide +kernel⟩
theorem sc_X6_isWhole (l : Launch) (hl : l.stackTraces = false) : SCon l yX6_isWhole cX6_isWhole 1 (some .boolean) 5 82 0 Γ_X6_isWhole := scon_of mX6_isWhole cls_ok hl (by decide +kernel) rfl rfl (ok_X6_isWhole l hl) rfl rfl b_X6_isWhole
def f_X6_firstError_2 : Nat → Int32 → Mem → Out
  | 0, _, _ => none
  | n + 1, x1, μ => if (μ.1 1 1) ≤ x1 then (cI (F_X6_isWhole μ) (fun v6 μ3 => if v6 = 0 then (rI (μ3.1 1 1) μ3) else (rI (-9 : Int32) μ3))) else (cI (F_X6_isAllowed x1 μ) (fun v12 μ9 => if v12 = 0 then (rI x1 μ9) else (lt (x1 + (1 : Int32)) (fun v14 => f_X6_firstError_2 n v14 μ9))))
def F_X6_firstError (μ : Mem) : Out := f_X6_firstError_2 BIG (0 : Int32) μ
def Γ_X6_firstError : Gam := fun as μ r μ' => as = [.ref 1] ∧ F_X6_firstError μ = some (r, μ')
def mX6_firstError : MI := (cX6_firstError, [(27, (1, 1, 0, 4, Γ_X6_isAllowed)), (31, (1, 0, 0, 4, Γ_X6_isWhole))], [(15, 4, 1)], [], [], [], [], none, (some .int))
set_option maxHeartbeats 4000000 in
theorem g_X6_firstError_2 {r : Res} {μ' : Mem} : ∀ n : Nat, ∀ (x1 : Int32), ∀ (μ : Mem) (b : Nat), 0 ≤ b → f_X6_firstError_2 n x1 μ = some (r, μ') → G mX6_firstError (Qe r μ') 2 [some (.ref 1), some (.int x1)] [] μ b := by
  intro n
  induction n with
  | zero => intro x1 μ b hb9 h; exact nomatch (show (none : Out) = some _ from h)
  | succ n ih =>
    intro x1 μ b hb9 h
    rw [f_X6_firstError_2.eq_2] at h
    refine e_iload_n dX6_firstError_2 rfl ?_
    refine e_aload_n dX6_firstError_3 rfl ?_
    refine e_get (ci := 4) (j := 1) (t := 0) (v := .int (μ.1 1 1)) dX6_firstError_4 rfl (by decide) rfl rfl rfl ?_
    refine e_ic_ge (tgt := 26) dX6_firstError_7 rfl (fun hc1 => ?_) (fun hc1 => ?_)
    · rw [if_pos hc1] at h
      refine e_aload_n dX6_firstError_26 rfl ?_
      refine cI_go h (fun E4 hc2 hr5 => e_VX [] [] dX6_firstError_27 rfl rfl rfl rfl (by decide) (Nat.le_of_ble_eq_true rfl) (by omega) ⟨rfl, hc2⟩ rfl ⟨hr5.symm, rfl⟩) (fun v6 μ3 hc2 h => ?_)
      refine e_VI [] [] dX6_firstError_27 rfl rfl rfl rfl (by decide) (Nat.le_of_ble_eq_true rfl) (by omega) ⟨rfl, hc2⟩ ?_
      refine e_if_eq (tgt := 38) dX6_firstError_30 rfl (fun hc7 => ?_) (fun hc7 => ?_)
      · rw [if_pos hc7] at h
        refine e_aload_n dX6_firstError_38 rfl ?_
        refine e_get (ci := 4) (j := 1) (t := 0) (v := .int (μ3.1 1 1)) dX6_firstError_39 rfl (by decide) rfl rfl rfl ?_
        exact e_iret .int dX6_firstError_42 rfl rfl (ret_eq h)
      · rw [if_neg hc7] at h
        refine e_bipush dX6_firstError_33 cb_m9 ?_
        refine e_goto (tgt := 42) dX6_firstError_35 rfl ?_
        exact e_iret .int dX6_firstError_42 rfl rfl (ret_eq h)
    · rw [if_neg hc1] at h
      refine e_aload_n dX6_firstError_10 rfl ?_
      refine e_iload_n dX6_firstError_11 rfl ?_
      refine cI_go h (fun E10 hc8 hr11 => e_VX [.int x1] [] dX6_firstError_12 rfl rfl rfl rfl (by decide) (Nat.le_of_ble_eq_true rfl) (by omega) ⟨x1, rfl, hc8⟩ rfl ⟨hr11.symm, rfl⟩) (fun v12 μ9 hc8 h => ?_)
      refine e_VI [.int x1] [] dX6_firstError_12 rfl rfl rfl rfl (by decide) (Nat.le_of_ble_eq_true rfl) (by omega) ⟨x1, rfl, hc8⟩ ?_
      refine e_if_ne (tgt := 20) dX6_firstError_15 rfl (fun hc13 => ?_) (fun hc13 => ?_)
      · rw [if_neg hc13] at h
        refine e_iincN 1 (1 : Int32) dX6_firstError_20 rfl ci_1 h (fun y9 => [some (.ref 1), some (.int y9)]) (fun _ => rfl) (fun v14 ev14 h => ?_)
        refine e_goto (tgt := 2) dX6_firstError_23 rfl ?_
        exact e_le (ih v14 μ9 _ (by omega) h) ⟨rfl, rfl, trivial⟩
      · rw [if_pos hc13] at h
        refine e_iload_n dX6_firstError_18 rfl ?_
        exact e_iret .int dX6_firstError_19 rfl rfl (ret_eq h)
set_option maxHeartbeats 4000000 in
theorem b_X6_firstError : ∀ as μ r μ', Γ_X6_firstError as μ r μ' → (elvL as).length ≤ 2 ∧ G mX6_firstError (Qe r μ') 0 (elv as 2) [] μ 0 := by
  intro as μ r μ' h
  obtain ⟨rfl, h⟩ := h
  refine ⟨Nat.le_of_ble_eq_true rfl, ?_⟩
  show G mX6_firstError (Qe r μ') 0 [some (.ref 1), none] [] μ 0
  unfold F_X6_firstError at h
  have hb9 : 0 ≤ 0 := Nat.le_refl _
  refine e_iconst dX6_firstError_0 ci_0 ?_
  refine e_istore_nL [some (.ref 1), some (.int (0 : Int32))] dX6_firstError_1 (Nat.le_of_ble_eq_true rfl) rfl ?_
  exact e_le (g_X6_firstError_2 BIG (0 : Int32) μ _ (by omega) h) ⟨rfl, rfl, trivial⟩
set_option maxRecDepth 20000 in
theorem ok_X6_firstError (l : Launch) (hl : l.stackTraces = false) : MOK l yX6_firstError.cls 6 103 mX6_firstError := ⟨lk_all (List.forall_mem_cons.mpr ⟨⟨yX6_isAllowed, cX6_isAllowed, 2, (some .boolean), 5, 82, by decide, by decide, t_1 2 rfl rfl, hd_X6_isAllowed, Or.inr (Or.inl ⟨rfl, sc_X6_isAllowed l hl, t_1 167 rfl rfl, t_1 164 rfl rfl, t_1 166 rfl rfl, _, rfl, t_p 0 rfl⟩)⟩, List.forall_mem_cons.mpr ⟨⟨yX6_isWhole, cX6_isWhole, 1, (some .boolean), 5, 82, by decide, by decide, t_1 2 rfl rfl, hd_X6_isWhole, Or.inr (Or.inl ⟨rfl, sc_X6_isWhole l hl, t_1 194 rfl rfl, t_1 191 rfl rfl, t_1 193 rfl rfl, _, rfl, t_p 6 rfl⟩)⟩, nil_all⟩⟩), fun ix ci j h => lk_all (P := fun ix q => FldOK yX6_firstError.cls ix q.1 q.2) (List.forall_mem_cons.mpr ⟨⟨_, rfl, by decide, t_1 34 rfl rfl⟩, nil_all⟩) ix (ci, j) h, lk_all (nil_all), lk_all (nil_all), lk_all (nil_all)⟩
theorem hd_X6_firstError : CallHd yX6_firstError 0 := ⟨by decide +kernel, by decide +kernel, by decide +kernel⟩
theorem sc_X6_firstError (l : Launch) (hl : l.stackTraces = false) : SCon l yX6_firstError cX6_firstError 2 (some .int) 6 103 0 Γ_X6_firstError := scon_of mX6_firstError cls_ok hl (by decide +kernel) rfl rfl (ok_X6_firstError l hl) rfl rfl b_X6_firstError
def F_X6_isFull (μ : Mem) : Out := if (μ.1 1 1) < (60 : Int32) then (rI (0 : Int32) μ) else (rI (1 : Int32) μ)
def Γ_X6_isFull : Gam := fun as μ r μ' => as = [.ref 1] ∧ F_X6_isFull μ = some (r, μ')
def mX6_isFull : MI := (cX6_isFull, [], [(11, 4, 0), (15, 4, 1)], [], [], [], [], none, (some .boolean))
set_option maxHeartbeats 4000000 in
theorem b_X6_isFull : ∀ as μ r μ', Γ_X6_isFull as μ r μ' → (elvL as).length ≤ 1 ∧ G mX6_isFull (Qe r μ') 0 (elv as 1) [] μ 0 := by
  intro as μ r μ' h
  obtain ⟨rfl, h⟩ := h
  refine ⟨Nat.le_of_ble_eq_true rfl, ?_⟩
  show G mX6_isFull (Qe r μ') 0 [some (.ref 1)] [] μ 0
  unfold F_X6_isFull at h
  have hb9 : 0 ≤ 0 := Nat.le_refl _
  refine e_aload_n dX6_isFull_0 rfl ?_
  refine e_get (ci := 4) (j := 1) (t := 0) (v := .int (μ.1 1 1)) dX6_isFull_1 rfl (by decide) rfl rfl rfl ?_
  refine e_aload_n dX6_isFull_4 rfl ?_
  refine e_get (ci := 4) (j := 0) (t := 2) (v := .ref 8) dX6_isFull_5 rfl (by decide) rfl rfl rfl ?_
  refine e_alen (t := 2) (n := 60) (v := (60 : Int32)) dX6_isFull_8 (by decide) rfl (by decide) rfl ?_
  refine e_ic_lt (tgt := 16) dX6_isFull_9 rfl (fun hc1 => ?_) (fun hc1 => ?_)
  · rw [if_pos hc1] at h
    refine e_iconst dX6_isFull_16 ci_0 ?_
    exact e_iret .boolean dX6_isFull_17 rfl rfl (ret_eq h)
  · rw [if_neg hc1] at h
    refine e_iconst dX6_isFull_12 ci_1 ?_
    refine e_goto (tgt := 17) dX6_isFull_13 rfl ?_
    exact e_iret .boolean dX6_isFull_17 rfl rfl (ret_eq h)
set_option maxRecDepth 20000 in
theorem ok_X6_isFull (l : Launch) (hl : l.stackTraces = false) : MOK l yX6_isFull.cls 1 0 mX6_isFull := ⟨lk_all (nil_all), fun ix ci j h => lk_all (P := fun ix q => FldOK yX6_isFull.cls ix q.1 q.2) (List.forall_mem_cons.mpr ⟨⟨_, rfl, by decide, t_1 33 rfl rfl⟩, List.forall_mem_cons.mpr ⟨⟨_, rfl, by decide, t_1 34 rfl rfl⟩, nil_all⟩⟩) ix (ci, j) h, lk_all (nil_all), lk_all (nil_all), lk_all (nil_all)⟩
theorem hd_X6_isFull : CallHd yX6_isFull 0 := ⟨by decide +kernel, by decide +kernel, by decide +kernel⟩
theorem sc_X6_isFull (l : Launch) (hl : l.stackTraces = false) : SCon l yX6_isFull cX6_isFull 1 (some .boolean) 1 0 0 Γ_X6_isFull := scon_of mX6_isFull cls_ok hl (by decide +kernel) rfl rfl (ok_X6_isFull l hl) rfl rfl b_X6_isFull
def F_X6_put (a0 : Int32) (μ : Mem) : Out := if (μ.1 1 1) < 0 then (rI (μ.1 1 1) μ) else (if (60 : Int32) ≤ (μ.1 1 1) then (rI (μ.1 1 1) μ) else (ck (inb (μ.1 1 1) 60) (lt (sI μ 8 (Int32.toNatClampNeg (μ.1 1 1)) (vp_nar .char a0)) (fun μ4 => lt (sI μ4 1 1 ((μ4.1 1 1) + (1 : Int32))) (fun μ5 => rI (μ5.1 1 1) μ5)))))
def Γ_X6_put : Gam := fun as μ r μ' => ∃ (a0 : Int32), as = [.ref 1, .int a0] ∧ F_X6_put a0 μ = some (r, μ')
def mX6_put : MI := (cX6_put, [], [(11, 4, 0), (15, 4, 1)], [], [], [], [], none, (some .int))
set_option maxHeartbeats 4000000 in
theorem b_X6_put : ∀ as μ r μ', Γ_X6_put as μ r μ' → (elvL as).length ≤ 2 ∧ G mX6_put (Qe r μ') 0 (elv as 2) [] μ 0 := by
  intro as μ r μ' h
  obtain ⟨a0, rfl, h⟩ := h
  refine ⟨Nat.le_of_ble_eq_true rfl, ?_⟩
  show G mX6_put (Qe r μ') 0 [some (.ref 1), some (.int a0)] [] μ 0
  unfold F_X6_put at h
  have hb9 : 0 ≤ 0 := Nat.le_refl _
  refine e_aload_n dX6_put_0 rfl ?_
  refine e_get (ci := 4) (j := 1) (t := 0) (v := .int (μ.1 1 1)) dX6_put_1 rfl (by decide) rfl rfl rfl ?_
  refine e_if_lt (tgt := 39) dX6_put_4 rfl (fun hc1 => ?_) (fun hc1 => ?_)
  · rw [if_pos hc1] at h
    refine e_aload_n dX6_put_39 rfl ?_
    refine e_get (ci := 4) (j := 1) (t := 0) (v := .int (μ.1 1 1)) dX6_put_40 rfl (by decide) rfl rfl rfl ?_
    exact e_iret .int dX6_put_43 rfl rfl (ret_eq h)
  · rw [if_neg hc1] at h
    refine e_aload_n dX6_put_7 rfl ?_
    refine e_get (ci := 4) (j := 1) (t := 0) (v := .int (μ.1 1 1)) dX6_put_8 rfl (by decide) rfl rfl rfl ?_
    refine e_aload_n dX6_put_11 rfl ?_
    refine e_get (ci := 4) (j := 0) (t := 2) (v := .ref 8) dX6_put_12 rfl (by decide) rfl rfl rfl ?_
    refine e_alen (t := 2) (n := 60) (v := (60 : Int32)) dX6_put_15 (by decide) rfl (by decide) rfl ?_
    refine e_ic_ge (tgt := 39) dX6_put_16 rfl (fun hc2 => ?_) (fun hc2 => ?_)
    · rw [if_pos hc2] at h
      refine e_aload_n dX6_put_39 rfl ?_
      refine e_get (ci := 4) (j := 1) (t := 0) (v := .int (μ.1 1 1)) dX6_put_40 rfl (by decide) rfl rfl rfl ?_
      exact e_iret .int dX6_put_43 rfl rfl (ret_eq h)
    · rw [if_neg hc2] at h
      refine e_aload_n dX6_put_19 rfl ?_
      refine e_get (ci := 4) (j := 0) (t := 2) (v := .ref 8) dX6_put_20 rfl (by decide) rfl rfl rfl ?_
      refine e_aload_n dX6_put_23 rfl ?_
      refine e_get (ci := 4) (j := 1) (t := 0) (v := .int (μ.1 1 1)) dX6_put_24 rfl (by decide) rfl rfl rfl ?_
      refine e_iload_n dX6_put_27 rfl ?_
      obtain ⟨hc3, h⟩ := ck_eq h
      refine e_castore (n := 60) dX6_put_28 (by decide) rfl hc3 ?_
      refine e_naM (e := sI μ 8 (Int32.toNatClampNeg (μ.1 1 1)) (vp_nar .char a0)) h (fun μ4 eμ4 h => ?_)
      refine e_aload_n dX6_put_29 rfl ?_
      refine e_dup dX6_put_30 rfl ?_
      refine e_get (ci := 4) (j := 1) (t := 0) (v := .int (μ4.1 1 1)) dX6_put_31 rfl (by decide) rfl rfl rfl ?_
      refine e_iconst dX6_put_34 ci_1 ?_
      refine e_iadd dX6_put_35 ?_
      refine e_putI (ci := 4) (j := 1) dX6_put_36 rfl (by decide) rfl rfl ?_
      refine e_naM (e := sI μ4 1 1 ((μ4.1 1 1) + (1 : Int32))) h (fun μ5 eμ5 h => ?_)
      refine e_aload_n dX6_put_39 rfl ?_
      refine e_get (ci := 4) (j := 1) (t := 0) (v := .int (μ5.1 1 1)) dX6_put_40 rfl (by decide) rfl rfl rfl ?_
      exact e_iret .int dX6_put_43 rfl rfl (ret_eq h)
set_option maxRecDepth 20000 in
theorem ok_X6_put (l : Launch) (hl : l.stackTraces = false) : MOK l yX6_put.cls 1 0 mX6_put := ⟨lk_all (nil_all), fun ix ci j h => lk_all (P := fun ix q => FldOK yX6_put.cls ix q.1 q.2) (List.forall_mem_cons.mpr ⟨⟨_, rfl, by decide, t_1 33 rfl rfl⟩, List.forall_mem_cons.mpr ⟨⟨_, rfl, by decide, t_1 34 rfl rfl⟩, nil_all⟩⟩) ix (ci, j) h, lk_all (nil_all), lk_all (nil_all), lk_all (nil_all)⟩
theorem hd_X6_put : CallHd yX6_put 1 := ⟨by decide +kernel, by decide +kernel, by decide +kernel⟩
theorem sc_X6_put (l : Launch) (hl : l.stackTraces = false) : SCon l yX6_put cX6_put 2 (some .int) 1 0 0 Γ_X6_put := scon_of mX6_put cls_ok hl (by decide +kernel) rfl rfl (ok_X6_put l hl) rfl rfl b_X6_put
