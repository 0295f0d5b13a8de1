def F_X3_forgetAll (μ : Mem) : Out := lt (sI μ 4 1 (0 : Int32)) (fun μ1 => rV μ1)
def Γ_X3_forgetAll : Gam := fun as μ r μ' => as = [.ref 4] ∧ F_X3_forgetAll μ = some (r, μ')
def mX3_forgetAll : MI := (cX3_forgetAll, [], [(15, 1, 1)], [], [], [], [], (29, none), none)
set_option maxHeartbeats 4000000 in
theorem b_X3_forgetAll : ∀ as μ r μ', Γ_X3_forgetAll as μ r μ' → (elvL as).length ≤ 1 ∧ G mX3_forgetAll (Qe r μ') 0 (elv as 1) [] μ (rc r 0) := by
  intro as μ r μ' h
  obtain ⟨rfl, h⟩ := h
  refine ⟨Nat.le_of_ble_eq_true rfl, ?_⟩
  show G mX3_forgetAll (Qe r μ') 0 [some (.ref 4)] [] μ (rc r 0)
  unfold F_X3_forgetAll at h
  have hb9 : rc r 0 ≤ rc r 0 := Nat.le_refl _
  refine e_aload_n dX3_forgetAll_0 rfl ?_
  refine e_iconst dX3_forgetAll_1 ci_0 ?_
  refine e_putI (ci := 1) (j := 1) dX3_forgetAll_2 rfl (by decide) rfl rfl ?_
  refine e_naM (e := sI μ 4 1 (0 : Int32)) h (fun μ1 eμ1 h => ?_)
  exact e_vret dX3_forgetAll_5 rfl (ret_eq h)
set_option maxRecDepth 20000 in
theorem ok_X3_forgetAll (l : Launch) (hl : l.stackTraces = false) : MOK l yX3_forgetAll.cls 1 0 mX3_forgetAll := ⟨lk_all (nil_all), fun ix ci j h => lk_all (P := fun ix q => FldOK yX3_forgetAll.cls ix q.1 q.2) (List.forall_mem_cons.mpr ⟨⟨_, rfl, by decide, t_1 83 rfl rfl⟩, nil_all⟩) ix (ci, j) h, lk_all (nil_all), lk_all (nil_all), lk_all (nil_all)⟩
theorem hd_X3_forgetAll : CallHd yX3_forgetAll 0 := ⟨by decide +kernel, by decide +kernel, by decide +kernel⟩
theorem sc_X3_forgetAll (l : Launch) (hl : l.stackTraces = false) : SCon l yX3_forgetAll cX3_forgetAll 1 none 1 0 0 Γ_X3_forgetAll := scon_of mX3_forgetAll cls_ok hl (by decide +kernel) rfl rfl (ok_X3_forgetAll l hl) rfl rfl b_X3_forgetAll
def f_X3_forgetOldest_2 : Nat → Int32 → Mem → Out
  | 0, _, _ => none
  | n + 1, x1, μ => if (14 : Int32) ≤ x1 then (lt (sI μ 4 1 ((μ.1 4 1) - (1 : Int32))) (fun μ2 => rV μ2)) else (ck (inb (x1 - (1 : Int32)) 14) (lt (μ.2.2 9 (Int32.toNatClampNeg (x1 - (1 : Int32)))) (fun q4 => ck (okO q4 2) (ck (inb x1 14) (lt (μ.2.2 9 (Int32.toNatClampNeg x1)) (fun q7 => ck (okO q7 2) (ck (inb (x1 - (1 : Int32)) 14) (lt (sR μ 9 (Int32.toNatClampNeg (x1 - (1 : Int32))) q7) (fun μ10 => ck (inb x1 14) (lt (sR μ10 9 (Int32.toNatClampNeg x1) q4) (fun μ12 => lt (x1 + (1 : Int32)) (fun v13 => f_X3_forgetOldest_2 n v13 μ12))))))))))))
def F_X3_forgetOldest (μ : Mem) : Out := f_X3_forgetOldest_2 BIG (1 : Int32) μ
def Γ_X3_forgetOldest : Gam := fun as μ r μ' => as = [.ref 4] ∧ F_X3_forgetOldest μ = some (r, μ')
def mX3_forgetOldest : MI := (cX3_forgetOldest, [], [(11, 1, 0), (15, 1, 1)], [], [], [], [], (29, none), none)
set_option maxHeartbeats 4000000 in
theorem g_X3_forgetOldest_2 {r : Res} {μ' : Mem} : ∀ n : Nat, ∀ (x1 : Int32), ∀ (μ : Mem) (b : Nat), rc r 0 ≤ b → f_X3_forgetOldest_2 n x1 μ = some (r, μ') → G mX3_forgetOldest (Qe r μ') 2 [some (.ref 4), some (.int x1), none] [] μ b := by
  intro n
  induction n with
  | zero => intro x1 μ b hb9 h; exact nomatch (show (none : Out) = some _ from h)
  | succ n ih =>
    intro x1 μ b hb9 h
    rw [f_X3_forgetOldest_2.eq_2] at h
    refine e_iload_n dX3_forgetOldest_2 rfl ?_
    refine e_aload_n dX3_forgetOldest_3 rfl ?_
    refine e_get (ci := 1) (j := 0) (t := 2) (v := .ref 9) dX3_forgetOldest_4 rfl (by decide) rfl rfl rfl ?_
    refine e_alen (t := 4) (n := 14) (v := (14 : Int32)) dX3_forgetOldest_7 (by decide) rfl (by decide) rfl ?_
    refine e_ic_ge (tgt := 47) dX3_forgetOldest_8 rfl (fun hc1 => ?_) (fun hc1 => ?_)
    · rw [if_pos hc1] at h
      refine e_aload_n dX3_forgetOldest_47 rfl ?_
      refine e_dup dX3_forgetOldest_48 rfl ?_
      refine e_get (ci := 1) (j := 1) (t := 0) (v := .int (μ.1 4 1)) dX3_forgetOldest_49 rfl (by decide) rfl rfl rfl ?_
      refine e_iconst dX3_forgetOldest_52 ci_1 ?_
      refine e_isub dX3_forgetOldest_53 ?_
      refine e_putI (ci := 1) (j := 1) dX3_forgetOldest_54 rfl (by decide) rfl rfl ?_
      refine e_naM (e := sI μ 4 1 ((μ.1 4 1) - (1 : Int32))) h (fun μ2 eμ2 h => ?_)
      exact e_vret dX3_forgetOldest_57 rfl (ret_eq h)
    · rw [if_neg hc1] at h
      refine e_aload_n dX3_forgetOldest_11 rfl ?_
      refine e_get (ci := 1) (j := 0) (t := 2) (v := .ref 9) dX3_forgetOldest_12 rfl (by decide) rfl rfl rfl ?_
      refine e_iload_n dX3_forgetOldest_15 rfl ?_
      refine e_iconst dX3_forgetOldest_16 ci_1 ?_
      refine e_isub dX3_forgetOldest_17 ?_
      obtain ⟨hc3, h⟩ := ck_eq h
      refine e_aaload (n := 14) dX3_forgetOldest_18 (by decide) rfl hc3 (ck_eq (show ck (okO (μ.2.2 9 (Int32.toNatClampNeg (x1 - (1 : Int32)))) 2) _ = some _ from h)).1.1 ?_
      refine e_naA h (fun q4 eq4 h => ?_)
      obtain ⟨hq5, h⟩ := ck_eq h
      refine e_astore_nL [some (.ref 4), some (.int x1), some (.ref q4)] dX3_forgetOldest_19 (Nat.le_of_ble_eq_true rfl) rfl ?_
      refine e_aload_n dX3_forgetOldest_20 rfl ?_
      refine e_get (ci := 1) (j := 0) (t := 2) (v := .ref 9) dX3_forgetOldest_21 rfl (by decide) rfl rfl rfl ?_
      refine e_iload_n dX3_forgetOldest_24 rfl ?_
      refine e_iconst dX3_forgetOldest_25 ci_1 ?_
      refine e_isub dX3_forgetOldest_26 ?_
      refine e_aload_n dX3_forgetOldest_27 rfl ?_
      refine e_get (ci := 1) (j := 0) (t := 2) (v := .ref 9) dX3_forgetOldest_28 rfl (by decide) rfl rfl rfl ?_
      refine e_iload_n dX3_forgetOldest_31 rfl ?_
      obtain ⟨hc6, h⟩ := ck_eq h
      refine e_aaload (n := 14) dX3_forgetOldest_32 (by decide) rfl hc6 (ck_eq (show ck (okO (μ.2.2 9 (Int32.toNatClampNeg x1)) 2) _ = some _ from h)).1.1 ?_
      refine e_naA h (fun q7 eq7 h => ?_)
      obtain ⟨hq8, h⟩ := ck_eq h
      obtain ⟨hc9, h⟩ := ck_eq h
      refine e_aastore (n := 14) dX3_forgetOldest_33 (by decide) rfl hc9 hq8.1 hq8.2 ?_
      refine e_naM (e := sR μ 9 (Int32.toNatClampNeg (x1 - (1 : Int32))) q7) h (fun μ10 eμ10 h => ?_)
      refine e_aload_n dX3_forgetOldest_34 rfl ?_
      refine e_get (ci := 1) (j := 0) (t := 2) (v := .ref 9) dX3_forgetOldest_35 rfl (by decide) rfl rfl rfl ?_
      refine e_iload_n dX3_forgetOldest_38 rfl ?_
      refine e_aload_n dX3_forgetOldest_39 rfl ?_
      obtain ⟨hc11, h⟩ := ck_eq h
      refine e_aastore (n := 14) dX3_forgetOldest_40 (by decide) rfl hc11 hq5.1 hq5.2 ?_
      refine e_naM (e := sR μ10 9 (Int32.toNatClampNeg x1) q4) h (fun μ12 eμ12 h => ?_)
      refine e_iincN 1 (1 : Int32) dX3_forgetOldest_41 rfl ci_1 h (fun y9 => [some (.ref 4), some (.int y9), some (.ref q4)]) (fun _ => rfl) (fun v13 ev13 h => ?_)
      refine e_goto (tgt := 2) dX3_forgetOldest_44 rfl ?_
      exact e_le (ih v13 μ12 _ hb9 h) ⟨rfl, rfl, trivial⟩
set_option maxHeartbeats 4000000 in
theorem b_X3_forgetOldest : ∀ as μ r μ', Γ_X3_forgetOldest as μ r μ' → (elvL as).length ≤ 3 ∧ G mX3_forgetOldest (Qe r μ') 0 (elv as 3) [] μ (rc r 0) := by
  intro as μ r μ' h
  obtain ⟨rfl, h⟩ := h
  refine ⟨Nat.le_of_ble_eq_true rfl, ?_⟩
  show G mX3_forgetOldest (Qe r μ') 0 [some (.ref 4), none, none] [] μ (rc r 0)
  unfold F_X3_forgetOldest at h
  have hb9 : rc r 0 ≤ rc r 0 := Nat.le_refl _
  refine e_iconst dX3_forgetOldest_0 ci_1 ?_
  refine e_istore_nL [some (.ref 4), some (.int (1 : Int32)), none] dX3_forgetOldest_1 (Nat.le_of_ble_eq_true rfl) rfl ?_
  exact e_le (g_X3_forgetOldest_2 BIG (1 : Int32) μ _ hb9 h) ⟨rfl, rfl, trivial⟩
set_option maxRecDepth 20000 in
theorem ok_X3_forgetOldest (l : Launch) (hl : l.stackTraces = false) : MOK l yX3_forgetOldest.cls 1 0 mX3_forgetOldest := ⟨lk_all (nil_all), fun ix ci j h => lk_all (P := fun ix q => FldOK yX3_forgetOldest.cls ix q.1 q.2) (List.forall_mem_cons.mpr ⟨⟨_, rfl, by decide, t_1 82 rfl rfl⟩, List.forall_mem_cons.mpr ⟨⟨_, rfl, by decide, t_1 83 rfl rfl⟩, nil_all⟩⟩) ix (ci, j) h, lk_all (nil_all), lk_all (nil_all), lk_all (nil_all)⟩
theorem hd_X3_forgetOldest : CallHd yX3_forgetOldest 0 := ⟨by decide +kernel, by decide +kernel, by decide +kernel⟩
theorem sc_X3_forgetOldest (l : Launch) (hl : l.stackTraces = false) : SCon l yX3_forgetOldest cX3_forgetOldest 3 none 1 0 0 Γ_X3_forgetOldest := scon_of mX3_forgetOldest cls_ok hl (by decide +kernel) rfl rfl (ok_X3_forgetOldest l hl) rfl rfl b_X3_forgetOldest
def F_X3_isEmpty (μ : Mem) : Out := if (μ.1 4 1) = 0 then (rI (1 : Int32) μ) else (rI (0 : Int32) μ)
def Γ_X3_isEmpty : Gam := fun as μ r μ' => as = [.ref 4] ∧ F_X3_isEmpty μ = some (r, μ')
def mX3_isEmpty : MI := (cX3_isEmpty, [], [(15, 1, 1)], [], [], [], [], (29, none), (some .boolean))
set_option maxHeartbeats 4000000 in
theorem b_X3_isEmpty : ∀ as μ r μ', Γ_X3_isEmpty as μ r μ' → (elvL as).length ≤ 1 ∧ G mX3_isEmpty (Qe r μ') 0 (elv as 1) [] μ (rc r 0) := by
  intro as μ r μ' h
  obtain ⟨rfl, h⟩ := h
  refine ⟨Nat.le_of_ble_eq_true rfl, ?_⟩
  show G mX3_isEmpty (Qe r μ') 0 [some (.ref 4)] [] μ (rc r 0)
  unfold F_X3_isEmpty at h
  have hb9 : rc r 0 ≤ rc r 0 := Nat.le_refl _
  refine e_aload_n dX3_isEmpty_0 rfl ?_
  refine e_get (ci := 1) (j := 1) (t := 0) (v := .int (μ.1 4 1)) dX3_isEmpty_1 rfl (by decide) rfl rfl rfl ?_
  refine e_if_ne (tgt := 11) dX3_isEmpty_4 rfl (fun hc1 => ?_) (fun hc1 => ?_)
  · rw [if_neg hc1] at h
    refine e_iconst dX3_isEmpty_11 ci_0 ?_
    exact e_iret .boolean dX3_isEmpty_12 rfl rfl (ret_eq h)
  · rw [if_pos hc1] at h
    refine e_iconst dX3_isEmpty_7 ci_1 ?_
    refine e_goto (tgt := 12) dX3_isEmpty_8 rfl ?_
    exact e_iret .boolean dX3_isEmpty_12 rfl rfl (ret_eq h)
set_option maxRecDepth 20000 in
theorem ok_X3_isEmpty (l : Launch) (hl : l.stackTraces = false) : MOK l yX3_isEmpty.cls 1 0 mX3_isEmpty := ⟨lk_all (nil_all), fun ix ci j h => lk_all (P := fun ix q => FldOK yX3_isEmpty.cls ix q.1 q.2) (List.forall_mem_cons.mpr ⟨⟨_, rfl, by decide, t_1 83 rfl rfl⟩, nil_all⟩) ix (ci, j) h, lk_all (nil_all), lk_all (nil_all), lk_all (nil_all)⟩
theorem hd_X3_isEmpty : CallHd yX3_isEmpty 0 := ⟨by decide +kernel, by decide +kernel, by decide +kernel⟩
theorem sc_X3_isEmpty (l : Launch) (hl : l.stackTraces = false) : SCon l yX3_isEmpty cX3_isEmpty 1 (some .boolean) 1 0 0 Γ_X3_isEmpty := scon_of mX3_isEmpty cls_ok hl (by decide +kernel) rfl rfl (ok_X3_isEmpty l hl) rfl rfl b_X3_isEmpty
def f_X3_remember_16 (k1 : Nat) (μ : Mem) : Out := if (μ.1 4 1) < 0 then (rV μ) else (if (14 : Int32) ≤ (μ.1 4 1) then (rV μ) else (ck (inb (μ.1 4 1) 14) (lt (μ.2.2 9 (Int32.toNatClampNeg (μ.1 4 1))) (fun q9 => ck (okO q9 2) (ck (inb (μ.1 4 1) 14) (lt (μ.2.2 9 (Int32.toNatClampNeg (μ.1 4 1))) (fun q12 => ck (okO q12 2) (cV (F_X4_copyFrom q12 k1 μ) (fun μ15 => lt (sI μ15 4 1 ((μ15.1 4 1) + (1 : Int32))) (fun μ18 => rV μ18))))))))))
def F_X3_remember (k1 : Nat) (μ : Mem) : Out := if (μ.1 4 1) < (14 : Int32) then (f_X3_remember_16 k1 μ) else (cV (F_X3_forgetOldest μ) (fun μ3 => f_X3_remember_16 k1 μ3))
def Γ_X3_remember : Gam := fun as μ r μ' => ∃ (k1 : Nat), as = [.ref 4, .ref k1] ∧ okO k1 2 ∧ F_X3_remember k1 μ = some (r, μ')
def mX3_remember : MI := (cX3_remember, [(20, (1, 0, 0, 1, Γ_X3_forgetOldest)), (23, (1, 1, 0, 2, Γ_X4_copyFrom))], [(11, 1, 0), (15, 1, 1)], [], [], [], [], (29, none), none)
set_option maxHeartbeats 4000000 in
theorem g_X3_remember_16 {r : Res} {μ' : Mem} (k1 : Nat) (ho1 : okO k1 2) : ∀ (μ : Mem) (b : Nat), rc r 0 ≤ b → f_X3_remember_16 k1 μ = some (r, μ') → G mX3_remember (Qe r μ') 16 [some (.ref 4), some (.ref k1)] [] μ b := by
  intro μ b hb9 h
  unfold f_X3_remember_16 at h
  refine e_aload_n dX3_remember_16 rfl ?_
  refine e_get (ci := 1) (j := 1) (t := 0) (v := .int (μ.1 4 1)) dX3_remember_17 rfl (by decide) rfl rfl rfl ?_
  refine e_if_lt (tgt := 70) dX3_remember_20 rfl (fun hc6 => ?_) (fun hc6 => ?_)
  · rw [if_pos hc6] at h
    exact e_vret dX3_remember_70 rfl (ret_eq h)
  · rw [if_neg hc6] at h
    refine e_aload_n dX3_remember_23 rfl ?_
    refine e_get (ci := 1) (j := 1) (t := 0) (v := .int (μ.1 4 1)) dX3_remember_24 rfl (by decide) rfl rfl rfl ?_
    refine e_aload_n dX3_remember_27 rfl ?_
    refine e_get (ci := 1) (j := 0) (t := 2) (v := .ref 9) dX3_remember_28 rfl (by decide) rfl rfl rfl ?_
    refine e_alen (t := 4) (n := 14) (v := (14 : Int32)) dX3_remember_31 (by decide) rfl (by decide) rfl ?_
    refine e_ic_ge (tgt := 70) dX3_remember_32 rfl (fun hc7 => ?_) (fun hc7 => ?_)
    · rw [if_pos hc7] at h
      exact e_vret dX3_remember_70 rfl (ret_eq h)
    · rw [if_neg hc7] at h
      refine e_aload_n dX3_remember_35 rfl ?_
      refine e_get (ci := 1) (j := 0) (t := 2) (v := .ref 9) dX3_remember_36 rfl (by decide) rfl rfl rfl ?_
      refine e_aload_n dX3_remember_39 rfl ?_
      refine e_get (ci := 1) (j := 1) (t := 0) (v := .int (μ.1 4 1)) dX3_remember_40 rfl (by decide) rfl rfl rfl ?_
      obtain ⟨hc8, h⟩ := ck_eq h
      refine e_aaload (n := 14) dX3_remember_43 (by decide) rfl hc8 (ck_eq (show ck (okO (μ.2.2 9 (Int32.toNatClampNeg (μ.1 4 1))) 2) _ = some _ from h)).1.1 ?_
      refine e_naA h (fun q9 eq9 h => ?_)
      obtain ⟨hq10, h⟩ := ck_eq h
      refine e_ifnull dX3_remember_44 ?_
      refine e_aload_n dX3_remember_47 rfl ?_
      refine e_get (ci := 1) (j := 0) (t := 2) (v := .ref 9) dX3_remember_48 rfl (by decide) rfl rfl rfl ?_
      refine e_aload_n dX3_remember_51 rfl ?_
      refine e_get (ci := 1) (j := 1) (t := 0) (v := .int (μ.1 4 1)) dX3_remember_52 rfl (by decide) rfl rfl rfl ?_
      obtain ⟨hc11, h⟩ := ck_eq h
      refine e_aaload (n := 14) dX3_remember_55 (by decide) rfl hc11 (ck_eq (show ck (okO (μ.2.2 9 (Int32.toNatClampNeg (μ.1 4 1))) 2) _ = some _ from h)).1.1 ?_
      refine e_naA h (fun q12 eq12 h => ?_)
      obtain ⟨hq13, h⟩ := ck_eq h
      refine e_aload_n dX3_remember_56 rfl ?_
      refine cV_go h (fun E16 hc14 hr17 => e_VX [.ref k1] [] dX3_remember_57 rfl rfl rfl rfl hq13 (Nat.le_of_ble_eq_true rfl) (hbr hr17 hb9 (Nat.le_of_ble_eq_true rfl)) ⟨q12, k1, rfl, hq13, ho1, hc14⟩ rfl ⟨hr17.symm, rfl⟩) (fun μ15 hc14 h => ?_)
      refine e_VV [.ref k1] [] dX3_remember_57 rfl rfl rfl rfl hq13 (Nat.le_of_ble_eq_true rfl) ⟨q12, k1, rfl, hq13, ho1, hc14⟩ ?_
      refine e_aload_n dX3_remember_60 rfl ?_
      refine e_dup dX3_remember_61 rfl ?_
      refine e_get (ci := 1) (j := 1) (t := 0) (v := .int (μ15.1 4 1)) dX3_remember_62 rfl (by decide) rfl rfl rfl ?_
      refine e_iconst dX3_remember_65 ci_1 ?_
      refine e_iadd dX3_remember_66 ?_
      refine e_putI (ci := 1) (j := 1) dX3_remember_67 rfl (by decide) rfl rfl ?_
      refine e_naM (e := sI μ15 4 1 ((μ15.1 4 1) + (1 : Int32))) h (fun μ18 eμ18 h => ?_)
      exact e_vret dX3_remember_70 rfl (ret_eq h)
set_option maxHeartbeats 4000000 in
theorem b_X3_remember : ∀ as μ r μ', Γ_X3_remember as μ r μ' → (elvL as).length ≤ 2 ∧ G mX3_remember (Qe r μ') 0 (elv as 2) [] μ (rc r 0) := by
  intro as μ r μ' h
  obtain ⟨k1, rfl, ho1, h⟩ := h
  refine ⟨Nat.le_of_ble_eq_true rfl, ?_⟩
  show G mX3_remember (Qe r μ') 0 [some (.ref 4), some (.ref k1)] [] μ (rc r 0)
  unfold F_X3_remember at h
  have hb9 : rc r 0 ≤ rc r 0 := Nat.le_refl _
  refine e_aload_n dX3_remember_0 rfl ?_
  refine e_get (ci := 1) (j := 1) (t := 0) (v := .int (μ.1 4 1)) dX3_remember_1 rfl (by decide) rfl rfl rfl ?_
  refine e_aload_n dX3_remember_4 rfl ?_
  refine e_get (ci := 1) (j := 0) (t := 2) (v := .ref 9) dX3_remember_5 rfl (by decide) rfl rfl rfl ?_
  refine e_alen (t := 4) (n := 14) (v := (14 : Int32)) dX3_remember_8 (by decide) rfl (by decide) rfl ?_
  refine e_ic_lt (tgt := 16) dX3_remember_9 rfl (fun hc1 => ?_) (fun hc1 => ?_)
  · rw [if_pos hc1] at h
    exact e_le (g_X3_remember_16 k1 ho1 μ _ hb9 h) ⟨rfl, rfl, trivial⟩
  · rw [if_neg hc1] at h
    refine e_aload_n dX3_remember_12 rfl ?_
    refine cV_go h (fun E4 hc2 hr5 => e_VX [] [] dX3_remember_13 rfl rfl rfl rfl ⟨Nat.le_of_ble_eq_true rfl, rfl⟩ (Nat.le_of_ble_eq_true rfl) (hbr hr5 hb9 (Nat.le_of_ble_eq_true rfl)) ⟨rfl, hc2⟩ rfl ⟨hr5.symm, rfl⟩) (fun μ3 hc2 h => ?_)
    refine e_VV [] [] dX3_remember_13 rfl rfl rfl rfl ⟨Nat.le_of_ble_eq_true rfl, rfl⟩ (Nat.le_of_ble_eq_true rfl) ⟨rfl, hc2⟩ ?_
    exact e_le (g_X3_remember_16 k1 ho1 μ3 _ hb9 h) ⟨rfl, rfl, trivial⟩
set_option maxRecDepth 20000 in
theorem ok_X3_remember (l : Launch) (hl : l.stackTraces = false) : MOK l yX3_remember.cls 2 22 mX3_remember := ⟨lk_all (List.forall_mem_cons.mpr ⟨⟨yX3_forgetOldest, cX3_forgetOldest, 3, none, 1, 0, by decide, by decide, t_1 4 rfl rfl, hd_X3_forgetOldest, Or.inr (Or.inl ⟨rfl, sc_X3_forgetOldest l hl, t_2 201 rfl rfl, t_2 198 rfl rfl, t_2 200 rfl rfl, _, rfl, t_p 12 rfl⟩)⟩, List.forall_mem_cons.mpr ⟨⟨yX4_copyFrom, cX4_copyFrom, 2, none, 1, 0, by decide, by decide, t_1 3 rfl rfl, hd_X4_copyFrom, Or.inr (Or.inl ⟨rfl, sc_X4_copyFrom l hl, t_2 205 rfl rfl, t_2 202 rfl rfl, t_2 203 rfl rfl, _, rfl, t_2 204 rfl rfl⟩)⟩, nil_all⟩⟩), fun ix ci j h => lk_all (P := fun ix q => FldOK yX3_remember.cls ix q.1 q.2) (List.forall_mem_cons.mpr ⟨⟨_, rfl, by decide, t_1 82 rfl rfl⟩, List.forall_mem_cons.mpr ⟨⟨_, rfl, by decide, t_1 83 rfl rfl⟩, nil_all⟩⟩) ix (ci, j) h, lk_all (nil_all), lk_all (nil_all), lk_all (nil_all)⟩
theorem hd_X3_remember : CallHd yX3_remember 1 := ⟨by decide +kernel, by decide +kernel, by decide +kernel⟩
theorem sc_X3_remember (l : Launch) (hl : l.stackTraces = false) : SCon l yX3_remember cX3_remember 2 none 2 22 0 Γ_X3_remember := scon_of mX3_remember cls_ok hl (by decide +kernel) rfl rfl (ok_X3_remember l hl) rfl rfl b_X3_remember
def F_X3_takeBack (k1 : Nat) (μ : Mem) : Out := if (μ.1 4 1) ≤ 0 then (rI (μ.1 4 1) μ) else (if (14 : Int32) < (μ.1 4 1) then (rI (μ.1 4 1) μ) else (ck (inb ((μ.1 4 1) - (1 : Int32)) 14) (lt (μ.2.2 9 (Int32.toNatClampNeg ((μ.1 4 1) - (1 : Int32)))) (fun q4 => ck (okO q4 2) (lt (sI μ 4 1 ((μ.1 4 1) - (1 : Int32))) (fun μ6 => ck (inb (μ6.1 4 1) 14) (lt (μ6.2.2 9 (Int32.toNatClampNeg (μ6.1 4 1))) (fun q8 => ck (okO q8 2) (cV (F_X4_copyFrom k1 q8 μ6) (fun μ11 => rI (μ11.1 4 1) μ11))))))))))
def Γ_X3_takeBack : Gam := fun as μ r μ' => ∃ (k1 : Nat), as = [.ref 4, .ref k1] ∧ okO k1 2 ∧ F_X3_takeBack k1 μ = some (r, μ')
def mX3_takeBack : MI := (cX3_takeBack, [(23, (1, 1, 0, 2, Γ_X4_copyFrom))], [(11, 1, 0), (15, 1, 1)], [], [], [], [], (29, none), (some .int))
set_option maxHeartbeats 4000000 in
theorem b_X3_takeBack : ∀ as μ r μ', Γ_X3_takeBack as μ r μ' → (elvL as).length ≤ 2 ∧ G mX3_takeBack (Qe r μ') 0 (elv as 2) [] μ (rc r 0) := by
  intro as μ r μ' h
  obtain ⟨k1, rfl, ho1, h⟩ := h
  refine ⟨Nat.le_of_ble_eq_true rfl, ?_⟩
  show G mX3_takeBack (Qe r μ') 0 [some (.ref 4), some (.ref k1)] [] μ (rc r 0)
  unfold F_X3_takeBack at h
  have hb9 : rc r 0 ≤ rc r 0 := Nat.le_refl _
  refine e_aload_n dX3_takeBack_0 rfl ?_
  refine e_get (ci := 1) (j := 1) (t := 0) (v := .int (μ.1 4 1)) dX3_takeBack_1 rfl (by decide) rfl rfl rfl ?_
  refine e_if_le (tgt := 56) dX3_takeBack_4 rfl (fun hc1 => ?_) (fun hc1 => ?_)
  · rw [if_pos hc1] at h
    refine e_aload_n dX3_takeBack_56 rfl ?_
    refine e_get (ci := 1) (j := 1) (t := 0) (v := .int (μ.1 4 1)) dX3_takeBack_57 rfl (by decide) rfl rfl rfl ?_
    exact e_iret .int dX3_takeBack_60 rfl rfl (ret_eq h)
  · rw [if_neg hc1] at h
    refine e_aload_n dX3_takeBack_7 rfl ?_
    refine e_get (ci := 1) (j := 1) (t := 0) (v := .int (μ.1 4 1)) dX3_takeBack_8 rfl (by decide) rfl rfl rfl ?_
    refine e_aload_n dX3_takeBack_11 rfl ?_
    refine e_get (ci := 1) (j := 0) (t := 2) (v := .ref 9) dX3_takeBack_12 rfl (by decide) rfl rfl rfl ?_
    refine e_alen (t := 4) (n := 14) (v := (14 : Int32)) dX3_takeBack_15 (by decide) rfl (by decide) rfl ?_
    refine e_ic_gt (tgt := 56) dX3_takeBack_16 rfl (fun hc2 => ?_) (fun hc2 => ?_)
    · rw [if_pos hc2] at h
      refine e_aload_n dX3_takeBack_56 rfl ?_
      refine e_get (ci := 1) (j := 1) (t := 0) (v := .int (μ.1 4 1)) dX3_takeBack_57 rfl (by decide) rfl rfl rfl ?_
      exact e_iret .int dX3_takeBack_60 rfl rfl (ret_eq h)
    · rw [if_neg hc2] at h
      refine e_aload_n dX3_takeBack_19 rfl ?_
      refine e_get (ci := 1) (j := 0) (t := 2) (v := .ref 9) dX3_takeBack_20 rfl (by decide) rfl rfl rfl ?_
      refine e_aload_n dX3_takeBack_23 rfl ?_
      refine e_get (ci := 1) (j := 1) (t := 0) (v := .int (μ.1 4 1)) dX3_takeBack_24 rfl (by decide) rfl rfl rfl ?_
      refine e_iconst dX3_takeBack_27 ci_1 ?_
      refine e_isub dX3_takeBack_28 ?_
      obtain ⟨hc3, h⟩ := ck_eq h
      refine e_aaload (n := 14) dX3_takeBack_29 (by decide) rfl hc3 (ck_eq (show ck (okO (μ.2.2 9 (Int32.toNatClampNeg ((μ.1 4 1) - (1 : Int32)))) 2) _ = some _ from h)).1.1 ?_
      refine e_naA h (fun q4 eq4 h => ?_)
      obtain ⟨hq5, h⟩ := ck_eq h
      refine e_ifnull dX3_takeBack_30 ?_
      refine e_aload_n dX3_takeBack_33 rfl ?_
      refine e_dup dX3_takeBack_34 rfl ?_
      refine e_get (ci := 1) (j := 1) (t := 0) (v := .int (μ.1 4 1)) dX3_takeBack_35 rfl (by decide) rfl rfl rfl ?_
      refine e_iconst dX3_takeBack_38 ci_1 ?_
      refine e_isub dX3_takeBack_39 ?_
      refine e_putI (ci := 1) (j := 1) dX3_takeBack_40 rfl (by decide) rfl rfl ?_
      refine e_naM (e := sI μ 4 1 ((μ.1 4 1) - (1 : Int32))) h (fun μ6 eμ6 h => ?_)
      refine e_aload_n dX3_takeBack_43 rfl ?_
      refine e_aload_n dX3_takeBack_44 rfl ?_
      refine e_get (ci := 1) (j := 0) (t := 2) (v := .ref 9) dX3_takeBack_45 rfl (by decide) rfl rfl rfl ?_
      refine e_aload_n dX3_takeBack_48 rfl ?_
      refine e_get (ci := 1) (j := 1) (t := 0) (v := .int (μ6.1 4 1)) dX3_takeBack_49 rfl (by decide) rfl rfl rfl ?_
      obtain ⟨hc7, h⟩ := ck_eq h
      refine e_aaload (n := 14) dX3_takeBack_52 (by decide) rfl hc7 (ck_eq (show ck (okO (μ6.2.2 9 (Int32.toNatClampNeg (μ6.1 4 1))) 2) _ = some _ from h)).1.1 ?_
      refine e_naA h (fun q8 eq8 h => ?_)
      obtain ⟨hq9, h⟩ := ck_eq h
      refine cV_go h (fun E12 hc10 hr13 => e_VX [.ref q8] [] dX3_takeBack_53 rfl rfl rfl rfl ho1 (Nat.le_of_ble_eq_true rfl) (hbr hr13 hb9 (Nat.le_of_ble_eq_true rfl)) ⟨k1, q8, rfl, ho1, hq9, hc10⟩ rfl ⟨hr13.symm, rfl⟩) (fun μ11 hc10 h => ?_)
      refine e_VV [.ref q8] [] dX3_takeBack_53 rfl rfl rfl rfl ho1 (Nat.le_of_ble_eq_true rfl) ⟨k1, q8, rfl, ho1, hq9, hc10⟩ ?_
      refine e_aload_n dX3_takeBack_56 rfl ?_
      refine e_get (ci := 1) (j := 1) (t := 0) (v := .int (μ11.1 4 1)) dX3_takeBack_57 rfl (by decide) rfl rfl rfl ?_
      exact e_iret .int dX3_takeBack_60 rfl rfl (ret_eq h)
set_option maxRecDepth 20000 in
theorem ok_X3_takeBack (l : Launch) (hl : l.stackTraces = false) : MOK l yX3_takeBack.cls 2 21 mX3_takeBack := ⟨lk_all (List.forall_mem_cons.mpr ⟨⟨yX4_copyFrom, cX4_copyFrom, 2, none, 1, 0, by decide, by decide, t_1 3 rfl rfl, hd_X4_copyFrom, Or.inr (Or.inl ⟨rfl, sc_X4_copyFrom l hl, t_2 205 rfl rfl, t_2 202 rfl rfl, t_2 203 rfl rfl, _, rfl, t_2 204 rfl rfl⟩)⟩, nil_all⟩), fun ix ci j h => lk_all (P := fun ix q => FldOK yX3_takeBack.cls ix q.1 q.2) (List.forall_mem_cons.mpr ⟨⟨_, rfl, by decide, t_1 82 rfl rfl⟩, List.forall_mem_cons.mpr ⟨⟨_, rfl, by decide, t_1 83 rfl rfl⟩, nil_all⟩⟩) ix (ci, j) h, lk_all (nil_all), lk_all (nil_all), lk_all (nil_all)⟩
theorem hd_X3_takeBack : CallHd yX3_takeBack 1 := ⟨by decide +kernel, by decide +kernel, by decide +kernel⟩
theorem sc_X3_takeBack (l : Launch) (hl : l.stackTraces = false) : SCon l yX3_takeBack cX3_takeBack 2 (some .int) 2 21 0 Γ_X3_takeBack := scon_of mX3_takeBack cls_ok hl (by decide +kernel) rfl rfl (ok_X3_takeBack l hl) rfl rfl b_X3_takeBack
def F_X5_bringBack (a0 : Int32) (k2 : Nat) (μ : Mem) : Out := if a0 < 0 then (rV μ) else (if (2 : Int32) ≤ a0 then (rV μ) else (ck (inb a0 2) (lt (μ.2.2 10 (Int32.toNatClampNeg a0)) (fun q4 => ck (okO q4 2) (ck (inb a0 2) (lt (μ.2.2 10 (Int32.toNatClampNeg a0)) (fun q7 => ck (okO q7 2) (cV (F_X4_copyFrom k2 q7 μ) (fun μ10 => rV μ10)))))))))
def Γ_X5_bringBack : Gam := fun as μ r μ' => ∃ (a0 : Int32) (k2 : Nat), as = [.ref 5, .int a0, .ref k2] ∧ okO k2 2 ∧ F_X5_bringBack a0 k2 μ = some (r, μ')
def mX5_bringBack : MI := (cX5_bringBack, [(20, (1, 1, 0, 2, Γ_X4_copyFrom))], [(11, 3, 0)], [], [], [], [], (29, none), none)
set_option maxHeartbeats 4000000 in
theorem b_X5_bringBack : ∀ as μ r μ', Γ_X5_bringBack as μ r μ' → (elvL as).length ≤ 3 ∧ G mX5_bringBack (Qe r μ') 0 (elv as 3) [] μ (rc r 0) := by
  intro as μ r μ' h
  obtain ⟨a0, k2, rfl, ho2, h⟩ := h
  refine ⟨Nat.le_of_ble_eq_true rfl, ?_⟩
  show G mX5_bringBack (Qe r μ') 0 [some (.ref 5), some (.int a0), some (.ref k2)] [] μ (rc r 0)
  unfold F_X5_bringBack at h
  have hb9 : rc r 0 ≤ rc r 0 := Nat.le_refl _
  refine e_iload_n dX5_bringBack_0 rfl ?_
  refine e_if_lt (tgt := 32) dX5_bringBack_1 rfl (fun hc1 => ?_) (fun hc1 => ?_)
  · rw [if_pos hc1] at h
    exact e_vret dX5_bringBack_32 rfl (ret_eq h)
  · rw [if_neg hc1] at h
    refine e_iload_n dX5_bringBack_4 rfl ?_
    refine e_aload_n dX5_bringBack_5 rfl ?_
    refine e_get (ci := 3) (j := 0) (t := 2) (v := .ref 10) dX5_bringBack_6 rfl (by decide) rfl rfl rfl ?_
    refine e_alen (t := 4) (n := 2) (v := (2 : Int32)) dX5_bringBack_9 (by decide) rfl (by decide) rfl ?_
    refine e_ic_ge (tgt := 32) dX5_bringBack_10 rfl (fun hc2 => ?_) (fun hc2 => ?_)
    · rw [if_pos hc2] at h
      exact e_vret dX5_bringBack_32 rfl (ret_eq h)
    · rw [if_neg hc2] at h
      refine e_aload_n dX5_bringBack_13 rfl ?_
      refine e_get (ci := 3) (j := 0) (t := 2) (v := .ref 10) dX5_bringBack_14 rfl (by decide) rfl rfl rfl ?_
      refine e_iload_n dX5_bringBack_17 rfl ?_
      obtain ⟨hc3, h⟩ := ck_eq h
      refine e_aaload (n := 2) dX5_bringBack_18 (by decide) rfl hc3 (ck_eq (show ck (okO (μ.2.2 10 (Int32.toNatClampNeg a0)) 2) _ = some _ from h)).1.1 ?_
      refine e_naA h (fun q4 eq4 h => ?_)
      obtain ⟨hq5, h⟩ := ck_eq h
      refine e_ifnull dX5_bringBack_19 ?_
      refine e_aload_n dX5_bringBack_22 rfl ?_
      refine e_aload_n dX5_bringBack_23 rfl ?_
      refine e_get (ci := 3) (j := 0) (t := 2) (v := .ref 10) dX5_bringBack_24 rfl (by decide) rfl rfl rfl ?_
      refine e_iload_n dX5_bringBack_27 rfl ?_
      obtain ⟨hc6, h⟩ := ck_eq h
      refine e_aaload (n := 2) dX5_bringBack_28 (by decide) rfl hc6 (ck_eq (show ck (okO (μ.2.2 10 (Int32.toNatClampNeg a0)) 2) _ = some _ from h)).1.1 ?_
      refine e_naA h (fun q7 eq7 h => ?_)
      obtain ⟨hq8, h⟩ := ck_eq h
      refine cV_go h (fun E11 hc9 hr12 => e_VX [.ref q7] [] dX5_bringBack_29 rfl rfl rfl rfl ho2 (Nat.le_of_ble_eq_true rfl) (hbr hr12 hb9 (Nat.le_of_ble_eq_true rfl)) ⟨k2, q7, rfl, ho2, hq8, hc9⟩ rfl ⟨hr12.symm, rfl⟩) (fun μ10 hc9 h => ?_)
      refine e_VV [.ref q7] [] dX5_bringBack_29 rfl rfl rfl rfl ho2 (Nat.le_of_ble_eq_true rfl) ⟨k2, q7, rfl, ho2, hq8, hc9⟩ ?_
      exact e_vret dX5_bringBack_32 rfl (ret_eq h)
set_option maxRecDepth 20000 in
theorem ok_X5_bringBack (l : Launch) (hl : l.stackTraces = false) : MOK l yX5_bringBack.cls 2 21 mX5_bringBack := ⟨lk_all (List.forall_mem_cons.mpr ⟨⟨yX4_copyFrom, cX4_copyFrom, 2, none, 1, 0, by decide, by decide, t_1 3 rfl rfl, hd_X4_copyFrom, Or.inr (Or.inl ⟨rfl, sc_X4_copyFrom l hl, t_2 205 rfl rfl, t_3 213 rfl rfl, t_2 203 rfl rfl, _, rfl, t_2 204 rfl rfl⟩)⟩, nil_all⟩), fun ix ci j h => lk_all (P := fun ix q => FldOK yX5_bringBack.cls ix q.1 q.2) (List.forall_mem_cons.mpr ⟨⟨_, rfl, by decide, t_1 97 rfl rfl⟩, nil_all⟩) ix (ci, j) h, lk_all (nil_all), lk_all (nil_all), lk_all (nil_all)⟩
theorem hd_X5_bringBack : CallHd yX5_bringBack 2 := ⟨by decide +kernel, by decide +kernel, by decide +kernel⟩
theorem sc_X5_bringBack (l : Launch) (hl : l.stackTraces = false) : SCon l yX5_bringBack cX5_bringBack 3 none 2 21 0 Γ_X5_bringBack := scon_of mX5_bringBack cls_ok hl (by decide +kernel) rfl rfl (ok_X5_bringBack l hl) rfl rfl b_X5_bringBack
def F_X5_has (a0 : Int32) (μ : Mem) : Out := if a0 < 0 then (rI (0 : Int32) μ) else (if (2 : Int32) ≤ a0 then (rI (0 : Int32) μ) else (ck (inb a0 2) (if (μ.1 11 (Int32.toNatClampNeg a0)) = 0 then (rI (0 : Int32) μ) else (rI (1 : Int32) μ))))
def Γ_X5_has : Gam := fun as μ r μ' => ∃ (a0 : Int32), as = [.ref 5, .int a0] ∧ F_X5_has a0 μ = some (r, μ')
def mX5_has : MI := (cX5_has, [], [(15, 3, 1)], [], [], [], [], (29, none), (some .boolean))
set_option maxHeartbeats 4000000 in
theorem b_X5_has : ∀ as μ r μ', Γ_X5_has as μ r μ' → (elvL as).length ≤ 2 ∧ G mX5_has (Qe r μ') 0 (elv as 2) [] μ (rc r 0) := by
  intro as μ r μ' h
  obtain ⟨a0, rfl, h⟩ := h
  refine ⟨Nat.le_of_ble_eq_true rfl, ?_⟩
  show G mX5_has (Qe r μ') 0 [some (.ref 5), some (.int a0)] [] μ (rc r 0)
  unfold F_X5_has at h
  have hb9 : rc r 0 ≤ rc r 0 := Nat.le_refl _
  refine e_iload_n dX5_has_0 rfl ?_
  refine e_if_lt (tgt := 26) dX5_has_1 rfl (fun hc1 => ?_) (fun hc1 => ?_)
  · rw [if_pos hc1] at h
    refine e_iconst dX5_has_26 ci_0 ?_
    exact e_iret .boolean dX5_has_27 rfl rfl (ret_eq h)
  · rw [if_neg hc1] at h
    refine e_iload_n dX5_has_4 rfl ?_
    refine e_aload_n dX5_has_5 rfl ?_
    refine e_get (ci := 3) (j := 1) (t := 2) (v := .ref 11) dX5_has_6 rfl (by decide) rfl rfl rfl ?_
    refine e_alen (t := 3) (n := 2) (v := (2 : Int32)) dX5_has_9 (by decide) rfl (by decide) rfl ?_
    refine e_ic_ge (tgt := 26) dX5_has_10 rfl (fun hc2 => ?_) (fun hc2 => ?_)
    · rw [if_pos hc2] at h
      refine e_iconst dX5_has_26 ci_0 ?_
      exact e_iret .boolean dX5_has_27 rfl rfl (ret_eq h)
    · rw [if_neg hc2] at h
      refine e_aload_n dX5_has_13 rfl ?_
      refine e_get (ci := 3) (j := 1) (t := 2) (v := .ref 11) dX5_has_14 rfl (by decide) rfl rfl rfl ?_
      refine e_iload_n dX5_has_17 rfl ?_
      obtain ⟨hc3, h⟩ := ck_eq h
      refine e_baload (n := 2) dX5_has_18 (by decide) rfl hc3 ?_
      refine e_if_eq (tgt := 26) dX5_has_19 rfl (fun hc4 => ?_) (fun hc4 => ?_)
      · rw [if_pos hc4] at h
        refine e_iconst dX5_has_26 ci_0 ?_
        exact e_iret .boolean dX5_has_27 rfl rfl (ret_eq h)
      · rw [if_neg hc4] at h
        refine e_iconst dX5_has_22 ci_1 ?_
        refine e_goto (tgt := 27) dX5_has_23 rfl ?_
        exact e_iret .boolean dX5_has_27 rfl rfl (ret_eq h)
set_option maxRecDepth 20000 in
theorem ok_X5_has (l : Launch) (hl : l.stackTraces = false) : MOK l yX5_has.cls 1 0 mX5_has := ⟨lk_all (nil_all), fun ix ci j h => lk_all (P := fun ix q => FldOK yX5_has.cls ix q.1 q.2) (List.forall_mem_cons.mpr ⟨⟨_, rfl, by decide, t_1 98 rfl rfl⟩, nil_all⟩) ix (ci, j) h, lk_all (nil_all), lk_all (nil_all), lk_all (nil_all)⟩
theorem hd_X5_has : CallHd yX5_has 1 := ⟨by decide +kernel, by decide +kernel, by decide +kernel⟩
theorem sc_X5_has (l : Launch) (hl : l.stackTraces = false) : SCon l yX5_has cX5_has 2 (some .boolean) 1 0 0 Γ_X5_has := scon_of mX5_has cls_ok hl (by decide +kernel) rfl rfl (ok_X5_has l hl) rfl rfl b_X5_has
def F_X5_put (a0 : Int32) (k2 : Nat) (μ : Mem) : Out := if a0 < 0 then (rV μ) else (if (2 : Int32) ≤ a0 then (rV μ) else (if (2 : Int32) ≤ a0 then (rV μ) else (ck (inb a0 2) (lt (μ.2.2 10 (Int32.toNatClampNeg a0)) (fun q5 => ck (okO q5 2) (ck (inb a0 2) (lt (μ.2.2 10 (Int32.toNatClampNeg a0)) (fun q8 => ck (okO q8 2) (cV (F_X4_copyFrom q8 k2 μ) (fun μ11 => ck (inb a0 2) (lt (sI μ11 11 (Int32.toNatClampNeg a0) (vp_nar .boolean (1 : Int32))) (fun μ15 => rV μ15))))))))))))
def Γ_X5_put : Gam := fun as μ r μ' => ∃ (a0 : Int32) (k2 : Nat), as = [.ref 5, .int a0, .ref k2] ∧ okO k2 2 ∧ F_X5_put a0 k2 μ = some (r, μ')
def mX5_put : MI := (cX5_put, [(20, (1, 1, 0, 2, Γ_X4_copyFrom))], [(11, 3, 0), (15, 3, 1)], [], [], [], [], (29, none), none)
set_option maxHeartbeats 4000000 in
theorem b_X5_put : ∀ as μ r μ', Γ_X5_put as μ r μ' → (elvL as).length ≤ 3 ∧ G mX5_put (Qe r μ') 0 (elv as 3) [] μ (rc r 0) := by
  intro as μ r μ' h
  obtain ⟨a0, k2, rfl, ho2, h⟩ := h
  refine ⟨Nat.le_of_ble_eq_true rfl, ?_⟩
  show G mX5_put (Qe r μ') 0 [some (.ref 5), some (.int a0), some (.ref k2)] [] μ (rc r 0)
  unfold F_X5_put at h
  have hb9 : rc r 0 ≤ rc r 0 := Nat.le_refl _
  refine e_iload_n dX5_put_0 rfl ?_
  refine e_if_lt (tgt := 48) dX5_put_1 rfl (fun hc1 => ?_) (fun hc1 => ?_)
  · rw [if_pos hc1] at h
    exact e_vret dX5_put_48 rfl (ret_eq h)
  · rw [if_neg hc1] at h
    refine e_iload_n dX5_put_4 rfl ?_
    refine e_aload_n dX5_put_5 rfl ?_
    refine e_get (ci := 3) (j := 1) (t := 2) (v := .ref 11) dX5_put_6 rfl (by decide) rfl rfl rfl ?_
    refine e_alen (t := 3) (n := 2) (v := (2 : Int32)) dX5_put_9 (by decide) rfl (by decide) rfl ?_
    refine e_ic_ge (tgt := 48) dX5_put_10 rfl (fun hc2 => ?_) (fun hc2 => ?_)
    · rw [if_pos hc2] at h
      exact e_vret dX5_put_48 rfl (ret_eq h)
    · rw [if_neg hc2] at h
      refine e_iload_n dX5_put_13 rfl ?_
      refine e_aload_n dX5_put_14 rfl ?_
      refine e_get (ci := 3) (j := 0) (t := 2) (v := .ref 10) dX5_put_15 rfl (by decide) rfl rfl rfl ?_
      refine e_alen (t := 4) (n := 2) (v := (2 : Int32)) dX5_put_18 (by decide) rfl (by decide) rfl ?_
      refine e_ic_ge (tgt := 48) dX5_put_19 rfl (fun hc3 => ?_) (fun hc3 => ?_)
      · rw [if_pos hc3] at h
        exact e_vret dX5_put_48 rfl (ret_eq h)
      · rw [if_neg hc3] at h
        refine e_aload_n dX5_put_22 rfl ?_
        refine e_get (ci := 3) (j := 0) (t := 2) (v := .ref 10) dX5_put_23 rfl (by decide) rfl rfl rfl ?_
        refine e_iload_n dX5_put_26 rfl ?_
        obtain ⟨hc4, h⟩ := ck_eq h
        refine e_aaload (n := 2) dX5_put_27 (by decide) rfl hc4 (ck_eq (show ck (okO (μ.2.2 10 (Int32.toNatClampNeg a0)) 2) _ = some _ from h)).1.1 ?_
        refine e_naA h (fun q5 eq5 h => ?_)
        obtain ⟨hq6, h⟩ := ck_eq h
        refine e_ifnull dX5_put_28 ?_
        refine e_aload_n dX5_put_31 rfl ?_
        refine e_get (ci := 3) (j := 0) (t := 2) (v := .ref 10) dX5_put_32 rfl (by decide) rfl rfl rfl ?_
        refine e_iload_n dX5_put_35 rfl ?_
        obtain ⟨hc7, h⟩ := ck_eq h
        refine e_aaload (n := 2) dX5_put_36 (by decide) rfl hc7 (ck_eq (show ck (okO (μ.2.2 10 (Int32.toNatClampNeg a0)) 2) _ = some _ from h)).1.1 ?_
        refine e_naA h (fun q8 eq8 h => ?_)
        obtain ⟨hq9, h⟩ := ck_eq h
        refine e_aload_n dX5_put_37 rfl ?_
        refine cV_go h (fun E12 hc10 hr13 => e_VX [.ref k2] [] dX5_put_38 rfl rfl rfl rfl hq9 (Nat.le_of_ble_eq_true rfl) (hbr hr13 hb9 (Nat.le_of_ble_eq_true rfl)) ⟨q8, k2, rfl, hq9, ho2, hc10⟩ rfl ⟨hr13.symm, rfl⟩) (fun μ11 hc10 h => ?_)
        refine e_VV [.ref k2] [] dX5_put_38 rfl rfl rfl rfl hq9 (Nat.le_of_ble_eq_true rfl) ⟨q8, k2, rfl, hq9, ho2, hc10⟩ ?_
        refine e_aload_n dX5_put_41 rfl ?_
        refine e_get (ci := 3) (j := 1) (t := 2) (v := .ref 11) dX5_put_42 rfl (by decide) rfl rfl rfl ?_
        refine e_iload_n dX5_put_45 rfl ?_
        refine e_iconst dX5_put_46 ci_1 ?_
        obtain ⟨hc14, h⟩ := ck_eq h
        refine e_bastore (n := 2) dX5_put_47 (by decide) rfl hc14 ?_
        refine e_naM (e := sI μ11 11 (Int32.toNatClampNeg a0) (vp_nar .boolean (1 : Int32))) h (fun μ15 eμ15 h => ?_)
        exact e_vret dX5_put_48 rfl (ret_eq h)
set_option maxRecDepth 20000 in
theorem ok_X5_put (l : Launch) (hl : l.stackTraces = false) : MOK l yX5_put.cls 2 21 mX5_put := ⟨lk_all (List.forall_mem_cons.mpr ⟨⟨yX4_copyFrom, cX4_copyFrom, 2, none, 1, 0, by decide, by decide, t_1 3 rfl rfl, hd_X4_copyFrom, Or.inr (Or.inl ⟨rfl, sc_X4_copyFrom l hl, t_2 205 rfl rfl, t_3 213 rfl rfl, t_2 203 rfl rfl, _, rfl, t_2 204 rfl rfl⟩)⟩, nil_all⟩), fun ix ci j h => lk_all (P := fun ix q => FldOK yX5_put.cls ix q.1 q.2) (List.forall_mem_cons.mpr ⟨⟨_, rfl, by decide, t_1 97 rfl rfl⟩, List.forall_mem_cons.mpr ⟨⟨_, rfl, by decide, t_1 98 rfl rfl⟩, nil_all⟩⟩) ix (ci, j) h, lk_all (nil_all), lk_all (nil_all), lk_all (nil_all)⟩
theorem hd_X5_put : CallHd yX5_put 2 := ⟨by decide +kernel, by decide +kernel, by decide +kernel⟩
theorem sc_X5_put (l : Launch) (hl : l.stackTraces = false) : SCon l yX5_put cX5_put 3 none 2 21 0 Γ_X5_put := scon_of mX5_put cls_ok hl (by decide +kernel) rfl rfl (ok_X5_put l hl) rfl rfl b_X5_put
