def F_L_about (a1 : Int32) (μ : Mem) : Out := cIH (F_X7_about a1 μ) (fun E6 μ2 => if E6 = "java/lang/IllegalArgumentException" then (rI (1 : Int32) μ2) else (none)) (fun v5 μ2 => lt (sJ μ2 48 0 (Int32.toInt64 v5)) (fun μ8 => rI (0 : Int32) μ8))
def Γ_L_about : Gam := fun as μ r μ' => ∃ (a1 : Int32), as = [.ref 0, .int a1, .ref 48] ∧ F_L_about a1 μ = some (r, μ')
def mL_about : MI := (cL_about, [(21, (1, 1, 1, 5, Γ_X7_about))], [], [], [], [], [((4, "java/lang/IllegalArgumentException"), 12, 3)], none, (some .int))
set_option maxHeartbeats 4000000 in
theorem b_L_about : ∀ as μ r μ', Γ_L_about as μ r μ' → (elvL as).length ≤ 4 ∧ G mL_about (Qe r μ') 0 (elv as 4) [] μ 1 := by
  intro as μ r μ' h
  obtain ⟨a1, rfl, h⟩ := h
  refine ⟨Nat.le_of_ble_eq_true rfl, ?_⟩
  show G mL_about (Qe r μ') 0 [some (.ref 0), some (.int a1), some (.ref 48), none] [] μ 1
  unfold F_L_about at h
  have hb9 : 1 ≤ 1 := Nat.le_refl _
  refine e_aload_n dL_about_0 rfl ?_
  refine e_iconst dL_about_1 ci_0 ?_
  refine e_aload_n dL_about_2 rfl ?_
  refine e_iload_n dL_about_3 rfl ?_
  refine cIH_go h (fun E6 μ2 hc1 h => ?_) (fun v5 μ2 hc1 h => ?_)
  · by_cases hE7 : E6 = "java/lang/IllegalArgumentException"
    · rw [if_pos hE7] at h
      subst hE7
      refine e_VH [.int a1] [.int (0 : Int32), .ref 48] [some (.ref 0), some (.int a1), some (.ref 48), none] dL_about_4 rfl rfl rfl rfl (by decide) (Nat.le_of_ble_eq_true rfl) (by omega) ⟨a1, rfl, hc1⟩ (by decide +kernel) (Nat.le_of_ble_eq_true rfl) (Or.inr ⟨3, rfl, dL_about_12, rfl⟩) rfl ?_
      refine e_iconst dL_about_13 ci_1 ?_
      exact e_iret .int dL_about_14 rfl rfl (ret_eq h)
    rw [if_neg hE7] at h
    exact nomatch h
  · refine e_VI [.int a1] [.int (0 : Int32), .ref 48] dL_about_4 rfl rfl rfl rfl (by decide) (Nat.le_of_ble_eq_true rfl) (by omega) ⟨a1, rfl, hc1⟩ ?_
    refine e_i2l dL_about_7 ?_
    refine e_lastore (n := 1) dL_about_8 (by decide) rfl (by decide : inb (0 : Int32) 1) ?_
    refine e_naM (e := sJ μ2 48 0 (Int32.toInt64 v5)) h (fun μ8 eμ8 h => ?_)
    refine e_goto (tgt := 15) dL_about_9 rfl ?_
    refine e_iconst dL_about_15 ci_0 ?_
    exact e_iret .int dL_about_16 rfl rfl (ret_eq h)
set_option maxRecDepth 20000 in
theorem ok_L_about (l : Launch) (hl : l.stackTraces = false) : MOK l yL_about.cls 7 111 mL_about := ⟨lk_all (List.forall_mem_cons.mpr ⟨⟨yX7_about, cX7_about, 2, (some .int), 6, 90, by decide, by decide, t_1 1 rfl rfl, hd_X7_about, Or.inr (Or.inl ⟨rfl, sc_X7_about l hl, t_3 105 rfl rfl, t_3 102 rfl rfl, t_3 103 rfl rfl, _, rfl, t_3 104 rfl rfl⟩)⟩, nil_all⟩), fun ix ci j h => lk_all (P := fun ix q => FldOK yL_about.cls ix q.1 q.2) (nil_all) ix (ci, j) h, lk_all (nil_all), lk_all (nil_all), lk_all (nil_all)⟩
theorem hd_L_about : CallHd yL_about 3 := ⟨by decide +kernel, by decide +kernel, by decide +kernel⟩
theorem hc_L_about : HC yL_about.cls [(0, 9, 12, 13)] mL_about := fun pc E h hq => (show ∀ q ∈ mHnd mL_about, ∃ (pre suf : List (Nat × Nat × Nat × Nat)) (x : Nat × Nat × Nat × Nat), [(0, 9, 12, 13)] = pre ++ x :: suf ∧ (∀ z ∈ pre, ¬ z.2.2.2 = 0 ∧ ∃ nm ∈ xcL, Cond.classLink yL_about.cls z.2.2.2 nm ∈ TB ∧ q.1.2 ≠ nm) ∧ covers ⟨x.1, x.2.1, x.2.2.1, x.2.2.2⟩ q.1.1 = true ∧ ¬ x.2.2.2 = 0 ∧ Cond.classLink yL_about.cls x.2.2.2 q.1.2 ∈ TB ∧ q.1.2 ∈ xcL ∧ x.2.2.1 = q.2.1 from List.forall_mem_cons.mpr ⟨⟨[], [], (0, 9, 12, 13), rfl, nil_all, rfl, by decide, t_2 209 rfl rfl, List.mem_of_getElem? (i := 0) rfl, rfl⟩, nil_all⟩) ((pc, E), h) (lk_mem hq)
theorem sc_L_about (l : Launch) (hl : l.stackTraces = false) : SConH l yL_about cL_about 4 (some .int) [(0, 9, 12, 13)] 7 111 1 Γ_L_about := scon_ofH mL_about cls_ok hl (by decide +kernel) rfl rfl (ok_L_about l hl) (by decide) rfl hc_L_about rfl b_L_about
def F_L_append (a1 : Int32) (μ : Mem) : Out := cIH (F_X7_append a1 μ) (fun E6 μ2 => if E6 = "java/lang/IllegalArgumentException" then (rI (1 : Int32) μ2) else (if E6 = "java/lang/IllegalStateException" then (rI (2 : Int32) μ2) else (none))) (fun v5 μ2 => lt (sJ μ2 48 0 (Int32.toInt64 v5)) (fun μ9 => rI (0 : Int32) μ9))
def Γ_L_append : Gam := fun as μ r μ' => ∃ (a1 : Int32), as = [.ref 0, .int a1, .ref 48] ∧ F_L_append a1 μ = some (r, μ')
def mL_append : MI := (cL_append, [(7, (1, 1, 1, 5, Γ_X7_append))], [], [], [], [], [((4, "java/lang/IllegalArgumentException"), 12, 3), ((4, "java/lang/IllegalStateException"), 15, 3)], none, (some .int))
set_option maxHeartbeats 4000000 in
theorem b_L_append : ∀ as μ r μ', Γ_L_append as μ r μ' → (elvL as).length ≤ 4 ∧ G mL_append (Qe r μ') 0 (elv as 4) [] μ 1 := by
  intro as μ r μ' h
  obtain ⟨a1, rfl, h⟩ := h
  refine ⟨Nat.le_of_ble_eq_true rfl, ?_⟩
  show G mL_append (Qe r μ') 0 [some (.ref 0), some (.int a1), some (.ref 48), none] [] μ 1
  unfold F_L_append at h
  have hb9 : 1 ≤ 1 := Nat.le_refl _
  refine e_aload_n dL_append_0 rfl ?_
  refine e_iconst dL_append_1 ci_0 ?_
  refine e_aload_n dL_append_2 rfl ?_
  refine e_iload_n dL_append_3 rfl ?_
  refine cIH_go h (fun E6 μ2 hc1 h => ?_) (fun v5 μ2 hc1 h => ?_)
  · by_cases hE7 : E6 = "java/lang/IllegalArgumentException"
    · rw [if_pos hE7] at h
      subst hE7
      refine e_VH [.int a1] [.int (0 : Int32), .ref 48] [some (.ref 0), some (.int a1), some (.ref 48), none] dL_append_4 rfl rfl rfl rfl (by decide) (Nat.le_of_ble_eq_true rfl) (by omega) ⟨a1, rfl, hc1⟩ (by decide +kernel) (Nat.le_of_ble_eq_true rfl) (Or.inr ⟨3, rfl, dL_append_12, rfl⟩) rfl ?_
      refine e_iconst dL_append_13 ci_1 ?_
      exact e_iret .int dL_append_14 rfl rfl (ret_eq h)
    rw [if_neg hE7] at h
    by_cases hE8 : E6 = "java/lang/IllegalStateException"
    · rw [if_pos hE8] at h
      subst hE8
      refine e_VH [.int a1] [.int (0 : Int32), .ref 48] [some (.ref 0), some (.int a1), some (.ref 48), none] dL_append_4 rfl rfl rfl rfl (by decide) (Nat.le_of_ble_eq_true rfl) (by omega) ⟨a1, rfl, hc1⟩ (by decide +kernel) (Nat.le_of_ble_eq_true rfl) (Or.inr ⟨3, rfl, dL_append_15, rfl⟩) rfl ?_
      refine e_iconst dL_append_16 ci_2 ?_
      exact e_iret .int dL_append_17 rfl rfl (ret_eq h)
    rw [if_neg hE8] at h
    exact nomatch h
  · refine e_VI [.int a1] [.int (0 : Int32), .ref 48] dL_append_4 rfl rfl rfl rfl (by decide) (Nat.le_of_ble_eq_true rfl) (by omega) ⟨a1, rfl, hc1⟩ ?_
    refine e_i2l dL_append_7 ?_
    refine e_lastore (n := 1) dL_append_8 (by decide) rfl (by decide : inb (0 : Int32) 1) ?_
    refine e_naM (e := sJ μ2 48 0 (Int32.toInt64 v5)) h (fun μ9 eμ9 h => ?_)
    refine e_goto (tgt := 18) dL_append_9 rfl ?_
    refine e_iconst dL_append_18 ci_0 ?_
    exact e_iret .int dL_append_19 rfl rfl (ret_eq h)
set_option maxRecDepth 20000 in
theorem ok_L_append (l : Launch) (hl : l.stackTraces = false) : MOK l yL_append.cls 7 111 mL_append := ⟨lk_all (List.forall_mem_cons.mpr ⟨⟨yX7_append, cX7_append, 2, (some .int), 6, 90, by decide, by decide, t_1 1 rfl rfl, hd_X7_append, Or.inr (Or.inl ⟨rfl, sc_X7_append l hl, t_2 214 rfl rfl, t_2 211 rfl rfl, t_2 212 rfl rfl, _, rfl, t_2 213 rfl rfl⟩)⟩, nil_all⟩), fun ix ci j h => lk_all (P := fun ix q => FldOK yL_append.cls ix q.1 q.2) (nil_all) ix (ci, j) h, lk_all (nil_all), lk_all (nil_all), lk_all (nil_all)⟩
theorem hd_L_append : CallHd yL_append 3 := ⟨by decide +kernel, by decide +kernel, by decide +kernel⟩
theorem hc_L_append : HC yL_append.cls [(0, 9, 12, 13), (0, 9, 15, 15)] mL_append := fun pc E h hq => (show ∀ q ∈ mHnd mL_append, ∃ (pre suf : List (Nat × Nat × Nat × Nat)) (x : Nat × Nat × Nat × Nat), [(0, 9, 12, 13), (0, 9, 15, 15)] = pre ++ x :: suf ∧ (∀ z ∈ pre, ¬ z.2.2.2 = 0 ∧ ∃ nm ∈ xcL, Cond.classLink yL_append.cls z.2.2.2 nm ∈ TB ∧ q.1.2 ≠ nm) ∧ covers ⟨x.1, x.2.1, x.2.2.1, x.2.2.2⟩ q.1.1 = true ∧ ¬ x.2.2.2 = 0 ∧ Cond.classLink yL_append.cls x.2.2.2 q.1.2 ∈ TB ∧ q.1.2 ∈ xcL ∧ x.2.2.1 = q.2.1 from List.forall_mem_cons.mpr ⟨⟨[], [(0, 9, 15, 15)], (0, 9, 12, 13), rfl, nil_all, rfl, by decide, t_2 209 rfl rfl, List.mem_of_getElem? (i := 0) rfl, rfl⟩, List.forall_mem_cons.mpr ⟨⟨[(0, 9, 12, 13)], [], (0, 9, 15, 15), rfl, List.forall_mem_cons.mpr ⟨⟨by decide, "java/lang/IllegalArgumentException", List.mem_of_getElem? (i := 0) rfl, t_2 209 rfl rfl, by decide⟩, nil_all⟩, rfl, by decide, t_2 210 rfl rfl, List.mem_of_getElem? (i := 1) rfl, rfl⟩, nil_all⟩⟩) ((pc, E), h) (lk_mem hq)
theorem sc_L_append (l : Launch) (hl : l.stackTraces = false) : SConH l yL_append cL_append 4 (some .int) [(0, 9, 12, 13), (0, 9, 15, 15)] 7 111 1 Γ_L_append := scon_ofH mL_append cls_ok hl (by decide +kernel) rfl rfl (ok_L_append l hl) (by decide) rfl hc_L_append rfl b_L_append
def F_L_cell (a1 : Int32) (a2 : Int32) (a3 : Int32) (μ : Mem) : Out := cIH (F_X7_cell a1 a2 a3 μ) (fun E6 μ2 => if E6 = "java/lang/IndexOutOfBoundsException" then (rI (1 : Int32) μ2) else (if E6 = "java/lang/IllegalArgumentException" then (rI (2 : Int32) μ2) else (none))) (fun v5 μ2 => lt (sJ μ2 48 0 (Int32.toInt64 v5)) (fun μ9 => rI (0 : Int32) μ9))
def Γ_L_cell : Gam := fun as μ r μ' => ∃ (a1 : Int32) (a2 : Int32) (a3 : Int32), as = [.ref 0, .int a1, .int a2, .int a3, .ref 48] ∧ F_L_cell a1 a2 a3 μ = some (r, μ')
def mL_cell : MI := (cL_cell, [(30, (1, 3, 2, 5, Γ_X7_cell))], [], [], [], [], [((7, "java/lang/IllegalArgumentException"), 19, 5), ((7, "java/lang/IndexOutOfBoundsException"), 15, 5)], none, (some .int))
set_option maxHeartbeats 4000000 in
theorem b_L_cell : ∀ as μ r μ', Γ_L_cell as μ r μ' → (elvL as).length ≤ 6 ∧ G mL_cell (Qe r μ') 0 (elv as 6) [] μ 2 := by
  intro as μ r μ' h
  obtain ⟨a1, a2, a3, rfl, h⟩ := h
  refine ⟨Nat.le_of_ble_eq_true rfl, ?_⟩
  show G mL_cell (Qe r μ') 0 [some (.ref 0), some (.int a1), some (.int a2), some (.int a3), some (.ref 48), none] [] μ 2
  unfold F_L_cell at h
  have hb9 : 2 ≤ 2 := Nat.le_refl _
  refine e_aload dL_cell_0 rfl ?_
  refine e_iconst dL_cell_2 ci_0 ?_
  refine e_aload_n dL_cell_3 rfl ?_
  refine e_iload_n dL_cell_4 rfl ?_
  refine e_iload_n dL_cell_5 rfl ?_
  refine e_iload_n dL_cell_6 rfl ?_
  refine cIH_go h (fun E6 μ2 hc1 h => ?_) (fun v5 μ2 hc1 h => ?_)
  · by_cases hE7 : E6 = "java/lang/IndexOutOfBoundsException"
    · rw [if_pos hE7] at h
      subst hE7
      refine e_VH [.int a1, .int a2, .int a3] [.int (0 : Int32), .ref 48] [some (.ref 0), some (.int a1), some (.int a2), some (.int a3), some (.ref 48), none] dL_cell_7 rfl rfl rfl rfl (by decide) (Nat.le_of_ble_eq_true rfl) (by omega) ⟨a1, a2, a3, rfl, hc1⟩ (by decide +kernel) (Nat.le_of_ble_eq_true rfl) (Or.inl ⟨dL_cell_15, rfl⟩) rfl ?_
      refine e_iconst dL_cell_17 ci_1 ?_
      exact e_iret .int dL_cell_18 rfl rfl (ret_eq h)
    rw [if_neg hE7] at h
    by_cases hE8 : E6 = "java/lang/IllegalArgumentException"
    · rw [if_pos hE8] at h
      subst hE8
      refine e_VH [.int a1, .int a2, .int a3] [.int (0 : Int32), .ref 48] [some (.ref 0), some (.int a1), some (.int a2), some (.int a3), some (.ref 48), none] dL_cell_7 rfl rfl rfl rfl (by decide) (Nat.le_of_ble_eq_true rfl) (by omega) ⟨a1, a2, a3, rfl, hc1⟩ (by decide +kernel) (Nat.le_of_ble_eq_true rfl) (Or.inl ⟨dL_cell_19, rfl⟩) rfl ?_
      refine e_iconst dL_cell_21 ci_2 ?_
      exact e_iret .int dL_cell_22 rfl rfl (ret_eq h)
    rw [if_neg hE8] at h
    exact nomatch h
  · refine e_VI [.int a1, .int a2, .int a3] [.int (0 : Int32), .ref 48] dL_cell_7 rfl rfl rfl rfl (by decide) (Nat.le_of_ble_eq_true rfl) (by omega) ⟨a1, a2, a3, rfl, hc1⟩ ?_
    refine e_i2l dL_cell_10 ?_
    refine e_lastore (n := 1) dL_cell_11 (by decide) rfl (by decide : inb (0 : Int32) 1) ?_
    refine e_naM (e := sJ μ2 48 0 (Int32.toInt64 v5)) h (fun μ9 eμ9 h => ?_)
    refine e_goto (tgt := 23) dL_cell_12 rfl ?_
    refine e_iconst dL_cell_23 ci_0 ?_
    exact e_iret .int dL_cell_24 rfl rfl (ret_eq h)
set_option maxRecDepth 20000 in
theorem ok_L_cell (l : Launch) (hl : l.stackTraces = false) : MOK l yL_cell.cls 8 145 mL_cell := ⟨lk_all (List.forall_mem_cons.mpr ⟨⟨yX7_cell, cX7_cell, 6, (some .int), 7, 120, by decide, by decide, t_1 1 rfl rfl, hd_X7_cell, Or.inr (Or.inl ⟨rfl, sc_X7_cell l hl, t_3 175 rfl rfl, t_3 172 rfl rfl, t_3 173 rfl rfl, _, rfl, t_3 174 rfl rfl⟩)⟩, nil_all⟩), fun ix ci j h => lk_all (P := fun ix q => FldOK yL_cell.cls ix q.1 q.2) (nil_all) ix (ci, j) h, lk_all (nil_all), lk_all (nil_all), lk_all (nil_all)⟩
theorem hd_L_cell : CallHd yL_cell 5 := ⟨by decide +kernel, by decide +kernel, by decide +kernel⟩
theorem hc_L_cell : HC yL_cell.cls [(0, 12, 15, 28), (0, 12, 19, 13)] mL_cell := fun pc E h hq => (show ∀ q ∈ mHnd mL_cell, ∃ (pre suf : List (Nat × Nat × Nat × Nat)) (x : Nat × Nat × Nat × Nat), [(0, 12, 15, 28), (0, 12, 19, 13)] = pre ++ x :: suf ∧ (∀ z ∈ pre, ¬ z.2.2.2 = 0 ∧ ∃ nm ∈ xcL, Cond.classLink yL_cell.cls z.2.2.2 nm ∈ TB ∧ q.1.2 ≠ nm) ∧ covers ⟨x.1, x.2.1, x.2.2.1, x.2.2.2⟩ q.1.1 = true ∧ ¬ x.2.2.2 = 0 ∧ Cond.classLink yL_cell.cls x.2.2.2 q.1.2 ∈ TB ∧ q.1.2 ∈ xcL ∧ x.2.2.1 = q.2.1 from List.forall_mem_cons.mpr ⟨⟨[(0, 12, 15, 28)], [], (0, 12, 19, 13), rfl, List.forall_mem_cons.mpr ⟨⟨by decide, "java/lang/IndexOutOfBoundsException", List.mem_of_getElem? (i := 2) rfl, t_3 126 rfl rfl, by decide⟩, nil_all⟩, rfl, by decide, t_2 209 rfl rfl, List.mem_of_getElem? (i := 0) rfl, rfl⟩, List.forall_mem_cons.mpr ⟨⟨[], [(0, 12, 19, 13)], (0, 12, 15, 28), rfl, nil_all, rfl, by decide, t_3 126 rfl rfl, List.mem_of_getElem? (i := 2) rfl, rfl⟩, nil_all⟩⟩) ((pc, E), h) (lk_mem hq)
theorem sc_L_cell (l : Launch) (hl : l.stackTraces = false) : SConH l yL_cell cL_cell 6 (some .int) [(0, 12, 15, 28), (0, 12, 19, 13)] 8 145 2 Γ_L_cell := scon_ofH mL_cell cls_ok hl (by decide +kernel) rfl rfl (ok_L_cell l hl) (by decide) rfl hc_L_cell rfl b_L_cell
def F_L_exchange (a1 : Int32) (a2 : Int32) (a3 : Int32) (a4 : Int32) (μ : Mem) : Out := cIH (F_X7_exchange a1 a2 a3 a4 μ) (fun E6 μ2 => if E6 = "java/lang/IndexOutOfBoundsException" then (rI (1 : Int32) μ2) else (if E6 = "java/lang/IllegalArgumentException" then (rI (2 : Int32) μ2) else (if E6 = "java/lang/IllegalStateException" then (rI (3 : Int32) μ2) else (none)))) (fun v5 μ2 => lt (sJ μ2 48 0 (Int32.toInt64 v5)) (fun μ10 => rI (0 : Int32) μ10))
def Γ_L_exchange : Gam := fun as μ r μ' => ∃ (a1 : Int32) (a2 : Int32) (a3 : Int32) (a4 : Int32), as = [.ref 0, .int a1, .int a2, .int a3, .int a4, .ref 48] ∧ F_L_exchange a1 a2 a3 a4 μ = some (r, μ')
def mL_exchange : MI := (cL_exchange, [(56, (1, 4, 3, 5, Γ_X7_exchange))], [], [], [], [], [((9, "java/lang/IllegalArgumentException"), 21, 6), ((9, "java/lang/IllegalStateException"), 25, 6), ((9, "java/lang/IndexOutOfBoundsException"), 17, 6)], none, (some .int))
set_option maxHeartbeats 4000000 in
theorem b_L_exchange : ∀ as μ r μ', Γ_L_exchange as μ r μ' → (elvL as).length ≤ 7 ∧ G mL_exchange (Qe r μ') 0 (elv as 7) [] μ 3 := by
  intro as μ r μ' h
  obtain ⟨a1, a2, a3, a4, rfl, h⟩ := h
  refine ⟨Nat.le_of_ble_eq_true rfl, ?_⟩
  show G mL_exchange (Qe r μ') 0 [some (.ref 0), some (.int a1), some (.int a2), some (.int a3), some (.int a4), some (.ref 48), none] [] μ 3
  unfold F_L_exchange at h
  have hb9 : 3 ≤ 3 := Nat.le_refl _
  refine e_aload dL_exchange_0 rfl ?_
  refine e_iconst dL_exchange_2 ci_0 ?_
  refine e_aload_n dL_exchange_3 rfl ?_
  refine e_iload_n dL_exchange_4 rfl ?_
  refine e_iload_n dL_exchange_5 rfl ?_
  refine e_iload_n dL_exchange_6 rfl ?_
  refine e_iload dL_exchange_7 rfl ?_
  refine cIH_go h (fun E6 μ2 hc1 h => ?_) (fun v5 μ2 hc1 h => ?_)
  · by_cases hE7 : E6 = "java/lang/IndexOutOfBoundsException"
    · rw [if_pos hE7] at h
      subst hE7
      refine e_VH [.int a1, .int a2, .int a3, .int a4] [.int (0 : Int32), .ref 48] [some (.ref 0), some (.int a1), some (.int a2), some (.int a3), some (.int a4), some (.ref 48), none] dL_exchange_9 rfl rfl rfl rfl (by decide) (Nat.le_of_ble_eq_true rfl) (by omega) ⟨a1, a2, a3, a4, rfl, hc1⟩ (by decide +kernel) (Nat.le_of_ble_eq_true rfl) (Or.inl ⟨dL_exchange_17, rfl⟩) rfl ?_
      refine e_iconst dL_exchange_19 ci_1 ?_
      exact e_iret .int dL_exchange_20 rfl rfl (ret_eq h)
    rw [if_neg hE7] at h
    by_cases hE8 : E6 = "java/lang/IllegalArgumentException"
    · rw [if_pos hE8] at h
      subst hE8
      refine e_VH [.int a1, .int a2, .int a3, .int a4] [.int (0 : Int32), .ref 48] [some (.ref 0), some (.int a1), some (.int a2), some (.int a3), some (.int a4), some (.ref 48), none] dL_exchange_9 rfl rfl rfl rfl (by decide) (Nat.le_of_ble_eq_true rfl) (by omega) ⟨a1, a2, a3, a4, rfl, hc1⟩ (by decide +kernel) (Nat.le_of_ble_eq_true rfl) (Or.inl ⟨dL_exchange_21, rfl⟩) rfl ?_
      refine e_iconst dL_exchange_23 ci_2 ?_
      exact e_iret .int dL_exchange_24 rfl rfl (ret_eq h)
    rw [if_neg hE8] at h
    by_cases hE9 : E6 = "java/lang/IllegalStateException"
    · rw [if_pos hE9] at h
      subst hE9
      refine e_VH [.int a1, .int a2, .int a3, .int a4] [.int (0 : Int32), .ref 48] [some (.ref 0), some (.int a1), some (.int a2), some (.int a3), some (.int a4), some (.ref 48), none] dL_exchange_9 rfl rfl rfl rfl (by decide) (Nat.le_of_ble_eq_true rfl) (by omega) ⟨a1, a2, a3, a4, rfl, hc1⟩ (by decide +kernel) (Nat.le_of_ble_eq_true rfl) (Or.inl ⟨dL_exchange_25, rfl⟩) rfl ?_
      refine e_iconst dL_exchange_27 ci_3 ?_
      exact e_iret .int dL_exchange_28 rfl rfl (ret_eq h)
    rw [if_neg hE9] at h
    exact nomatch h
  · refine e_VI [.int a1, .int a2, .int a3, .int a4] [.int (0 : Int32), .ref 48] dL_exchange_9 rfl rfl rfl rfl (by decide) (Nat.le_of_ble_eq_true rfl) (by omega) ⟨a1, a2, a3, a4, rfl, hc1⟩ ?_
    refine e_i2l dL_exchange_12 ?_
    refine e_lastore (n := 1) dL_exchange_13 (by decide) rfl (by decide : inb (0 : Int32) 1) ?_
    refine e_naM (e := sJ μ2 48 0 (Int32.toInt64 v5)) h (fun μ10 eμ10 h => ?_)
    refine e_goto (tgt := 29) dL_exchange_14 rfl ?_
    refine e_iconst dL_exchange_29 ci_0 ?_
    exact e_iret .int dL_exchange_30 rfl rfl (ret_eq h)
set_option maxRecDepth 20000 in
theorem ok_L_exchange (l : Launch) (hl : l.stackTraces = false) : MOK l yL_exchange.cls 8 136 mL_exchange := ⟨lk_all (List.forall_mem_cons.mpr ⟨⟨yX7_exchange, cX7_exchange, 5, (some .int), 7, 112, by decide, by decide, t_1 1 rfl rfl, hd_X7_exchange, Or.inr (Or.inl ⟨rfl, sc_X7_exchange l hl, t_4 36 rfl rfl, t_4 33 rfl rfl, t_4 34 rfl rfl, _, rfl, t_4 35 rfl rfl⟩)⟩, nil_all⟩), fun ix ci j h => lk_all (P := fun ix q => FldOK yL_exchange.cls ix q.1 q.2) (nil_all) ix (ci, j) h, lk_all (nil_all), lk_all (nil_all), lk_all (nil_all)⟩
theorem hd_L_exchange : CallHd yL_exchange 6 := ⟨by decide +kernel, by decide +kernel, by decide +kernel⟩
theorem hc_L_exchange : HC yL_exchange.cls [(0, 14, 17, 28), (0, 14, 21, 13), (0, 14, 25, 15)] mL_exchange := fun pc E h hq => (show ∀ q ∈ mHnd mL_exchange, ∃ (pre suf : List (Nat × Nat × Nat × Nat)) (x : Nat × Nat × Nat × Nat), [(0, 14, 17, 28), (0, 14, 21, 13), (0, 14, 25, 15)] = pre ++ x :: suf ∧ (∀ z ∈ pre, ¬ z.2.2.2 = 0 ∧ ∃ nm ∈ xcL, Cond.classLink yL_exchange.cls z.2.2.2 nm ∈ TB ∧ q.1.2 ≠ nm) ∧ covers ⟨x.1, x.2.1, x.2.2.1, x.2.2.2⟩ q.1.1 = true ∧ ¬ x.2.2.2 = 0 ∧ Cond.classLink yL_exchange.cls x.2.2.2 q.1.2 ∈ TB ∧ q.1.2 ∈ xcL ∧ x.2.2.1 = q.2.1 from List.forall_mem_cons.mpr ⟨⟨[(0, 14, 17, 28)], [(0, 14, 25, 15)], (0, 14, 21, 13), rfl, List.forall_mem_cons.mpr ⟨⟨by decide, "java/lang/IndexOutOfBoundsException", List.mem_of_getElem? (i := 2) rfl, t_3 126 rfl rfl, by decide⟩, nil_all⟩, rfl, by decide, t_2 209 rfl rfl, List.mem_of_getElem? (i := 0) rfl, rfl⟩, List.forall_mem_cons.mpr ⟨⟨[(0, 14, 17, 28), (0, 14, 21, 13)], [], (0, 14, 25, 15), rfl, List.forall_mem_cons.mpr ⟨⟨by decide, "java/lang/IndexOutOfBoundsException", List.mem_of_getElem? (i := 2) rfl, t_3 126 rfl rfl, by decide⟩, List.forall_mem_cons.mpr ⟨⟨by decide, "java/lang/IllegalArgumentException", List.mem_of_getElem? (i := 0) rfl, t_2 209 rfl rfl, by decide⟩, nil_all⟩⟩, rfl, by decide, t_2 210 rfl rfl, List.mem_of_getElem? (i := 1) rfl, rfl⟩, List.forall_mem_cons.mpr ⟨⟨[], [(0, 14, 21, 13), (0, 14, 25, 15)], (0, 14, 17, 28), rfl, nil_all, rfl, by decide, t_3 126 rfl rfl, List.mem_of_getElem? (i := 2) rfl, rfl⟩, nil_all⟩⟩⟩) ((pc, E), h) (lk_mem hq)
theorem sc_L_exchange (l : Launch) (hl : l.stackTraces = false) : SConH l yL_exchange cL_exchange 7 (some .int) [(0, 14, 17, 28), (0, 14, 21, 13), (0, 14, 25, 15)] 8 136 3 Γ_L_exchange := scon_ofH mL_exchange cls_ok hl (by decide +kernel) rfl rfl (ok_L_exchange l hl) (by decide) rfl hc_L_exchange rfl b_L_exchange
def F_L_exchangeAt (a1 : Int32) (μ : Mem) : Out := cIH (F_X7_exchangeAt a1 μ) (fun E6 μ2 => if E6 = "java/lang/IllegalArgumentException" then (rI (1 : Int32) μ2) else (none)) (fun v5 μ2 => lt (sJ μ2 48 0 (Int32.toInt64 v5)) (fun μ8 => rI (0 : Int32) μ8))
def Γ_L_exchangeAt : Gam := fun as μ r μ' => ∃ (a1 : Int32), as = [.ref 0, .int a1, .ref 48] ∧ F_L_exchangeAt a1 μ = some (r, μ')
def mL_exchangeAt : MI := (cL_exchangeAt, [(37, (1, 1, 1, 5, Γ_X7_exchangeAt))], [], [], [], [], [((4, "java/lang/IllegalArgumentException"), 12, 3)], none, (some .int))
set_option maxHeartbeats 4000000 in
theorem b_L_exchangeAt : ∀ as μ r μ', Γ_L_exchangeAt as μ r μ' → (elvL as).length ≤ 4 ∧ G mL_exchangeAt (Qe r μ') 0 (elv as 4) [] μ 1 := by
  intro as μ r μ' h
  obtain ⟨a1, rfl, h⟩ := h
  refine ⟨Nat.le_of_ble_eq_true rfl, ?_⟩
  show G mL_exchangeAt (Qe r μ') 0 [some (.ref 0), some (.int a1), some (.ref 48), none] [] μ 1
  unfold F_L_exchangeAt at h
  have hb9 : 1 ≤ 1 := Nat.le_refl _
  refine e_aload_n dL_exchangeAt_0 rfl ?_
  refine e_iconst dL_exchangeAt_1 ci_0 ?_
  refine e_aload_n dL_exchangeAt_2 rfl ?_
  refine e_iload_n dL_exchangeAt_3 rfl ?_
  refine cIH_go h (fun E6 μ2 hc1 h => ?_) (fun v5 μ2 hc1 h => ?_)
  · by_cases hE7 : E6 = "java/lang/IllegalArgumentException"
    · rw [if_pos hE7] at h
      subst hE7
      refine e_VH [.int a1] [.int (0 : Int32), .ref 48] [some (.ref 0), some (.int a1), some (.ref 48), none] dL_exchangeAt_4 rfl rfl rfl rfl (by decide) (Nat.le_of_ble_eq_true rfl) (by omega) ⟨a1, rfl, hc1⟩ (by decide +kernel) (Nat.le_of_ble_eq_true rfl) (Or.inr ⟨3, rfl, dL_exchangeAt_12, rfl⟩) rfl ?_
      refine e_iconst dL_exchangeAt_13 ci_1 ?_
      exact e_iret .int dL_exchangeAt_14 rfl rfl (ret_eq h)
    rw [if_neg hE7] at h
    exact nomatch h
  · refine e_VI [.int a1] [.int (0 : Int32), .ref 48] dL_exchangeAt_4 rfl rfl rfl rfl (by decide) (Nat.le_of_ble_eq_true rfl) (by omega) ⟨a1, rfl, hc1⟩ ?_
    refine e_i2l dL_exchangeAt_7 ?_
    refine e_lastore (n := 1) dL_exchangeAt_8 (by decide) rfl (by decide : inb (0 : Int32) 1) ?_
    refine e_naM (e := sJ μ2 48 0 (Int32.toInt64 v5)) h (fun μ8 eμ8 h => ?_)
    refine e_goto (tgt := 15) dL_exchangeAt_9 rfl ?_
    refine e_iconst dL_exchangeAt_15 ci_0 ?_
    exact e_iret .int dL_exchangeAt_16 rfl rfl (ret_eq h)
set_option maxRecDepth 20000 in
theorem ok_L_exchangeAt (l : Launch) (hl : l.stackTraces = false) : MOK l yL_exchangeAt.cls 7 144 mL_exchangeAt := ⟨lk_all (List.forall_mem_cons.mpr ⟨⟨yX7_exchangeAt, cX7_exchangeAt, 2, (some .int), 6, 123, by decide, by decide, t_1 1 rfl rfl, hd_X7_exchangeAt, Or.inr (Or.inl ⟨rfl, sc_X7_exchangeAt l hl, t_3 219 rfl rfl, t_3 216 rfl rfl, t_3 217 rfl rfl, _, rfl, t_3 218 rfl rfl⟩)⟩, nil_all⟩), fun ix ci j h => lk_all (P := fun ix q => FldOK yL_exchangeAt.cls ix q.1 q.2) (nil_all) ix (ci, j) h, lk_all (nil_all), lk_all (nil_all), lk_all (nil_all)⟩
theorem hd_L_exchangeAt : CallHd yL_exchangeAt 3 := ⟨by decide +kernel, by decide +kernel, by decide +kernel⟩
theorem hc_L_exchangeAt : HC yL_exchangeAt.cls [(0, 9, 12, 13)] mL_exchangeAt := fun pc E h hq => (show ∀ q ∈ mHnd mL_exchangeAt, ∃ (pre suf : List (Nat × Nat × Nat × Nat)) (x : Nat × Nat × Nat × Nat), [(0, 9, 12, 13)] = pre ++ x :: suf ∧ (∀ z ∈ pre, ¬ z.2.2.2 = 0 ∧ ∃ nm ∈ xcL, Cond.classLink yL_exchangeAt.cls z.2.2.2 nm ∈ TB ∧ q.1.2 ≠ nm) ∧ covers ⟨x.1, x.2.1, x.2.2.1, x.2.2.2⟩ q.1.1 = true ∧ ¬ x.2.2.2 = 0 ∧ Cond.classLink yL_exchangeAt.cls x.2.2.2 q.1.2 ∈ TB ∧ q.1.2 ∈ xcL ∧ x.2.2.1 = q.2.1 from List.forall_mem_cons.mpr ⟨⟨[], [], (0, 9, 12, 13), rfl, nil_all, rfl, by decide, t_2 209 rfl rfl, List.mem_of_getElem? (i := 0) rfl, rfl⟩, nil_all⟩) ((pc, E), h) (lk_mem hq)
theorem sc_L_exchangeAt (l : Launch) (hl : l.stackTraces = false) : SConH l yL_exchangeAt cL_exchangeAt 4 (some .int) [(0, 9, 12, 13)] 7 144 1 Γ_L_exchangeAt := scon_ofH mL_exchangeAt cls_ok hl (by decide +kernel) rfl rfl (ok_L_exchangeAt l hl) (by decide) rfl hc_L_exchangeAt rfl b_L_exchangeAt
def F_L_fill (a1 : Int32) (a2 : Int32) (a3 : Int32) (μ : Mem) : Out := cIH (F_X7_fill a1 a2 a3 μ) (fun E6 μ2 => if E6 = "java/lang/IndexOutOfBoundsException" then (rI (1 : Int32) μ2) else (if E6 = "java/lang/IllegalStateException" then (rI (2 : Int32) μ2) else (none))) (fun v5 μ2 => if v5 = 0 then (lt (sJ μ2 48 0 (0 : Int64)) (fun μ10 => rI (0 : Int32) μ10)) else (lt (sJ μ2 48 0 (1 : Int64)) (fun μ11 => rI (0 : Int32) μ11)))
def Γ_L_fill : Gam := fun as μ r μ' => ∃ (a1 : Int32) (a2 : Int32) (a3 : Int32), as = [.ref 0, .int a1, .int a2, .int a3, .ref 48] ∧ F_L_fill a1 a2 a3 μ = some (r, μ')
def mL_fill : MI := (cL_fill, [(46, (1, 3, 2, 5, Γ_X7_fill))], [], [], [], [], [((7, "java/lang/IllegalStateException"), 26, 5), ((7, "java/lang/IndexOutOfBoundsException"), 22, 5)], none, (some .int))
set_option maxHeartbeats 4000000 in
theorem b_L_fill : ∀ as μ r μ', Γ_L_fill as μ r μ' → (elvL as).length ≤ 6 ∧ G mL_fill (Qe r μ') 0 (elv as 6) [] μ 2 := by
  intro as μ r μ' h
  obtain ⟨a1, a2, a3, rfl, h⟩ := h
  refine ⟨Nat.le_of_ble_eq_true rfl, ?_⟩
  show G mL_fill (Qe r μ') 0 [some (.ref 0), some (.int a1), some (.int a2), some (.int a3), some (.ref 48), none] [] μ 2
  unfold F_L_fill at h
  have hb9 : 2 ≤ 2 := Nat.le_refl _
  refine e_aload dL_fill_0 rfl ?_
  refine e_iconst dL_fill_2 ci_0 ?_
  refine e_aload_n dL_fill_3 rfl ?_
  refine e_iload_n dL_fill_4 rfl ?_
  refine e_iload_n dL_fill_5 rfl ?_
  refine e_iload_n dL_fill_6 rfl ?_
  refine cIH_go h (fun E6 μ2 hc1 h => ?_) (fun v5 μ2 hc1 h => ?_)
  · by_cases hE7 : E6 = "java/lang/IndexOutOfBoundsException"
    · rw [if_pos hE7] at h
      subst hE7
      refine e_VH [.int a1, .int a2, .int a3] [.int (0 : Int32), .ref 48] [some (.ref 0), some (.int a1), some (.int a2), some (.int a3), some (.ref 48), none] dL_fill_7 rfl rfl rfl rfl (by decide) (Nat.le_of_ble_eq_true rfl) (by omega) ⟨a1, a2, a3, rfl, hc1⟩ (by decide +kernel) (Nat.le_of_ble_eq_true rfl) (Or.inl ⟨dL_fill_22, rfl⟩) rfl ?_
      refine e_iconst dL_fill_24 ci_1 ?_
      exact e_iret .int dL_fill_25 rfl rfl (ret_eq h)
    rw [if_neg hE7] at h
    by_cases hE8 : E6 = "java/lang/IllegalStateException"
    · rw [if_pos hE8] at h
      subst hE8
      refine e_VH [.int a1, .int a2, .int a3] [.int (0 : Int32), .ref 48] [some (.ref 0), some (.int a1), some (.int a2), some (.int a3), some (.ref 48), none] dL_fill_7 rfl rfl rfl rfl (by decide) (Nat.le_of_ble_eq_true rfl) (by omega) ⟨a1, a2, a3, rfl, hc1⟩ (by decide +kernel) (Nat.le_of_ble_eq_true rfl) (Or.inl ⟨dL_fill_26, rfl⟩) rfl ?_
      refine e_iconst dL_fill_28 ci_2 ?_
      exact e_iret .int dL_fill_29 rfl rfl (ret_eq h)
    rw [if_neg hE8] at h
    exact nomatch h
  · refine e_VI [.int a1, .int a2, .int a3] [.int (0 : Int32), .ref 48] dL_fill_7 rfl rfl rfl rfl (by decide) (Nat.le_of_ble_eq_true rfl) (by omega) ⟨a1, a2, a3, rfl, hc1⟩ ?_
    refine e_if_eq (tgt := 17) dL_fill_10 rfl (fun hc9 => ?_) (fun hc9 => ?_)
    · rw [if_pos hc9] at h
      refine e_lconst (v := (0 : Int64)) dL_fill_17 rfl ?_
      refine e_lastore (n := 1) dL_fill_18 (by decide) rfl (by decide : inb (0 : Int32) 1) ?_
      refine e_naM (e := sJ μ2 48 0 (0 : Int64)) h (fun μ10 eμ10 h => ?_)
      refine e_goto (tgt := 30) dL_fill_19 rfl ?_
      refine e_iconst dL_fill_30 ci_0 ?_
      exact e_iret .int dL_fill_31 rfl rfl (ret_eq h)
    · rw [if_neg hc9] at h
      refine e_lconst (v := (1 : Int64)) dL_fill_13 rfl ?_
      refine e_goto (tgt := 18) dL_fill_14 rfl ?_
      refine e_lastore (n := 1) dL_fill_18 (by decide) rfl (by decide : inb (0 : Int32) 1) ?_
      refine e_naM (e := sJ μ2 48 0 (1 : Int64)) h (fun μ11 eμ11 h => ?_)
      refine e_goto (tgt := 30) dL_fill_19 rfl ?_
      refine e_iconst dL_fill_30 ci_0 ?_
      exact e_iret .int dL_fill_31 rfl rfl (ret_eq h)
set_option maxRecDepth 20000 in
theorem ok_L_fill (l : Launch) (hl : l.stackTraces = false) : MOK l yL_fill.cls 8 135 mL_fill := ⟨lk_all (List.forall_mem_cons.mpr ⟨⟨yX7_fill, cX7_fill, 4, (some .boolean), 7, 112, by decide, by decide, t_1 1 rfl rfl, hd_X7_fill, Or.inr (Or.inl ⟨rfl, sc_X7_fill l hl, t_4 6 rfl rfl, t_4 3 rfl rfl, t_4 4 rfl rfl, _, rfl, t_4 5 rfl rfl⟩)⟩, nil_all⟩), fun ix ci j h => lk_all (P := fun ix q => FldOK yL_fill.cls ix q.1 q.2) (nil_all) ix (ci, j) h, lk_all (nil_all), lk_all (nil_all), lk_all (nil_all)⟩
theorem hd_L_fill : CallHd yL_fill 5 := ⟨by decide +kernel, by decide +kernel, by decide +kernel⟩
theorem hc_L_fill : HC yL_fill.cls [(0, 19, 22, 28), (0, 19, 26, 15)] mL_fill := fun pc E h hq => (show ∀ q ∈ mHnd mL_fill, ∃ (pre suf : List (Nat × Nat × Nat × Nat)) (x : Nat × Nat × Nat × Nat), [(0, 19, 22, 28), (0, 19, 26, 15)] = pre ++ x :: suf ∧ (∀ z ∈ pre, ¬ z.2.2.2 = 0 ∧ ∃ nm ∈ xcL, Cond.classLink yL_fill.cls z.2.2.2 nm ∈ TB ∧ q.1.2 ≠ nm) ∧ covers ⟨x.1, x.2.1, x.2.2.1, x.2.2.2⟩ q.1.1 = true ∧ ¬ x.2.2.2 = 0 ∧ Cond.classLink yL_fill.cls x.2.2.2 q.1.2 ∈ TB ∧ q.1.2 ∈ xcL ∧ x.2.2.1 = q.2.1 from List.forall_mem_cons.mpr ⟨⟨[(0, 19, 22, 28)], [], (0, 19, 26, 15), rfl, List.forall_mem_cons.mpr ⟨⟨by decide, "java/lang/IndexOutOfBoundsException", List.mem_of_getElem? (i := 2) rfl, t_3 126 rfl rfl, by decide⟩, nil_all⟩, rfl, by decide, t_2 210 rfl rfl, List.mem_of_getElem? (i := 1) rfl, rfl⟩, List.forall_mem_cons.mpr ⟨⟨[], [(0, 19, 26, 15)], (0, 19, 22, 28), rfl, nil_all, rfl, by decide, t_3 126 rfl rfl, List.mem_of_getElem? (i := 2) rfl, rfl⟩, nil_all⟩⟩) ((pc, E), h) (lk_mem hq)
theorem sc_L_fill (l : Launch) (hl : l.stackTraces = false) : SConH l yL_fill cL_fill 6 (some .int) [(0, 19, 22, 28), (0, 19, 26, 15)] 8 135 2 Γ_L_fill := scon_ofH mL_fill cls_ok hl (by decide +kernel) rfl rfl (ok_L_fill l hl) (by decide) rfl hc_L_fill rfl b_L_fill
def F_L_line (a1 : Int32) (a2 : Int32) (μ : Mem) : Out := cIH (F_X7_line a1 a2 μ) (fun E6 μ2 => if E6 = "java/lang/IndexOutOfBoundsException" then (rI (1 : Int32) μ2) else (if E6 = "java/lang/IllegalArgumentException" then (rI (2 : Int32) μ2) else (none))) (fun v5 μ2 => lt (sJ μ2 48 0 (Int32.toInt64 v5)) (fun μ9 => rI (0 : Int32) μ9))
def Γ_L_line : Gam := fun as μ r μ' => ∃ (a1 : Int32) (a2 : Int32), as = [.ref 0, .int a1, .int a2, .ref 48] ∧ F_L_line a1 a2 μ = some (r, μ')
def mL_line : MI := (cL_line, [(24, (1, 2, 2, 5, Γ_X7_line))], [], [], [], [], [((5, "java/lang/IllegalArgumentException"), 17, 4), ((5, "java/lang/IndexOutOfBoundsException"), 13, 4)], none, (some .int))
set_option maxHeartbeats 4000000 in
theorem b_L_line : ∀ as μ r μ', Γ_L_line as μ r μ' → (elvL as).length ≤ 5 ∧ G mL_line (Qe r μ') 0 (elv as 5) [] μ 2 := by
  intro as μ r μ' h
  obtain ⟨a1, a2, rfl, h⟩ := h
  refine ⟨Nat.le_of_ble_eq_true rfl, ?_⟩
  show G mL_line (Qe r μ') 0 [some (.ref 0), some (.int a1), some (.int a2), some (.ref 48), none] [] μ 2
  unfold F_L_line at h
  have hb9 : 2 ≤ 2 := Nat.le_refl _
  refine e_aload_n dL_line_0 rfl ?_
  refine e_iconst dL_line_1 ci_0 ?_
  refine e_aload_n dL_line_2 rfl ?_
  refine e_iload_n dL_line_3 rfl ?_
  refine e_iload_n dL_line_4 rfl ?_
  refine cIH_go h (fun E6 μ2 hc1 h => ?_) (fun v5 μ2 hc1 h => ?_)
  · by_cases hE7 : E6 = "java/lang/IndexOutOfBoundsException"
    · rw [if_pos hE7] at h
      subst hE7
      refine e_VH [.int a1, .int a2] [.int (0 : Int32), .ref 48] [some (.ref 0), some (.int a1), some (.int a2), some (.ref 48), none] dL_line_5 rfl rfl rfl rfl (by decide) (Nat.le_of_ble_eq_true rfl) (by omega) ⟨a1, a2, rfl, hc1⟩ (by decide +kernel) (Nat.le_of_ble_eq_true rfl) (Or.inl ⟨dL_line_13, rfl⟩) rfl ?_
      refine e_iconst dL_line_15 ci_1 ?_
      exact e_iret .int dL_line_16 rfl rfl (ret_eq h)
    rw [if_neg hE7] at h
    by_cases hE8 : E6 = "java/lang/IllegalArgumentException"
    · rw [if_pos hE8] at h
      subst hE8
      refine e_VH [.int a1, .int a2] [.int (0 : Int32), .ref 48] [some (.ref 0), some (.int a1), some (.int a2), some (.ref 48), none] dL_line_5 rfl rfl rfl rfl (by decide) (Nat.le_of_ble_eq_true rfl) (by omega) ⟨a1, a2, rfl, hc1⟩ (by decide +kernel) (Nat.le_of_ble_eq_true rfl) (Or.inl ⟨dL_line_17, rfl⟩) rfl ?_
      refine e_iconst dL_line_19 ci_2 ?_
      exact e_iret .int dL_line_20 rfl rfl (ret_eq h)
    rw [if_neg hE8] at h
    exact nomatch h
  · refine e_VI [.int a1, .int a2] [.int (0 : Int32), .ref 48] dL_line_5 rfl rfl rfl rfl (by decide) (Nat.le_of_ble_eq_true rfl) (by omega) ⟨a1, a2, rfl, hc1⟩ ?_
    refine e_i2l dL_line_8 ?_
    refine e_lastore (n := 1) dL_line_9 (by decide) rfl (by decide : inb (0 : Int32) 1) ?_
    refine e_naM (e := sJ μ2 48 0 (Int32.toInt64 v5)) h (fun μ9 eμ9 h => ?_)
    refine e_goto (tgt := 21) dL_line_10 rfl ?_
    refine e_iconst dL_line_21 ci_0 ?_
    exact e_iret .int dL_line_22 rfl rfl (ret_eq h)
set_option maxRecDepth 20000 in
theorem ok_L_line (l : Launch) (hl : l.stackTraces = false) : MOK l yL_line.cls 8 135 mL_line := ⟨lk_all (List.forall_mem_cons.mpr ⟨⟨yX7_line, cX7_line, 5, (some .int), 7, 111, by decide, by decide, t_1 1 rfl rfl, hd_X7_line, Or.inr (Or.inl ⟨rfl, sc_X7_line l hl, t_3 130 rfl rfl, t_3 127 rfl rfl, t_3 128 rfl rfl, _, rfl, t_3 129 rfl rfl⟩)⟩, nil_all⟩), fun ix ci j h => lk_all (P := fun ix q => FldOK yL_line.cls ix q.1 q.2) (nil_all) ix (ci, j) h, lk_all (nil_all), lk_all (nil_all), lk_all (nil_all)⟩
theorem hd_L_line : CallHd yL_line 4 := ⟨by decide +kernel, by decide +kernel, by decide +kernel⟩
theorem hc_L_line : HC yL_line.cls [(0, 10, 13, 28), (0, 10, 17, 13)] mL_line := fun pc E h hq => (show ∀ q ∈ mHnd mL_line, ∃ (pre suf : List (Nat × Nat × Nat × Nat)) (x : Nat × Nat × Nat × Nat), [(0, 10, 13, 28), (0, 10, 17, 13)] = pre ++ x :: suf ∧ (∀ z ∈ pre, ¬ z.2.2.2 = 0 ∧ ∃ nm ∈ xcL, Cond.classLink yL_line.cls z.2.2.2 nm ∈ TB ∧ q.1.2 ≠ nm) ∧ covers ⟨x.1, x.2.1, x.2.2.1, x.2.2.2⟩ q.1.1 = true ∧ ¬ x.2.2.2 = 0 ∧ Cond.classLink yL_line.cls x.2.2.2 q.1.2 ∈ TB ∧ q.1.2 ∈ xcL ∧ x.2.2.1 = q.2.1 from List.forall_mem_cons.mpr ⟨⟨[(0, 10, 13, 28)], [], (0, 10, 17, 13), rfl, List.forall_mem_cons.mpr ⟨⟨by decide, "java/lang/IndexOutOfBoundsException", List.mem_of_getElem? (i := 2) rfl, t_3 126 rfl rfl, by decide⟩, nil_all⟩, rfl, by decide, t_2 209 rfl rfl, List.mem_of_getElem? (i := 0) rfl, rfl⟩, List.forall_mem_cons.mpr ⟨⟨[], [(0, 10, 17, 13)], (0, 10, 13, 28), rfl, nil_all, rfl, by decide, t_3 126 rfl rfl, List.mem_of_getElem? (i := 2) rfl, rfl⟩, nil_all⟩⟩) ((pc, E), h) (lk_mem hq)
theorem sc_L_line (l : Launch) (hl : l.stackTraces = false) : SConH l yL_line cL_line 5 (some .int) [(0, 10, 13, 28), (0, 10, 17, 13)] 8 135 2 Γ_L_line := scon_ofH mL_line cls_ok hl (by decide +kernel) rfl rfl (ok_L_line l hl) (by decide) rfl hc_L_line rfl b_L_line
def F_L_load (μ : Mem) : Out := cIH (F_X7_load μ) (fun E6 μ2 => if E6 = "java/lang/IllegalStateException" then (rI (1 : Int32) μ2) else (none)) (fun v5 μ2 => lt (sJ μ2 48 0 (Int32.toInt64 v5)) (fun μ8 => rI (0 : Int32) μ8))
def Γ_L_load : Gam := fun as μ r μ' => as = [.ref 0, .ref 48] ∧ F_L_load μ = some (r, μ')
def mL_load : MI := (cL_load, [(17, (1, 0, 1, 5, Γ_X7_load))], [], [], [], [], [((3, "java/lang/IllegalStateException"), 11, 2)], none, (some .int))
set_option maxHeartbeats 4000000 in
theorem b_L_load : ∀ as μ r μ', Γ_L_load as μ r μ' → (elvL as).length ≤ 3 ∧ G mL_load (Qe r μ') 0 (elv as 3) [] μ 1 := by
  intro as μ r μ' h
  obtain ⟨rfl, h⟩ := h
  refine ⟨Nat.le_of_ble_eq_true rfl, ?_⟩
  show G mL_load (Qe r μ') 0 [some (.ref 0), some (.ref 48), none] [] μ 1
  unfold F_L_load at h
  have hb9 : 1 ≤ 1 := Nat.le_refl _
  refine e_aload_n dL_load_0 rfl ?_
  refine e_iconst dL_load_1 ci_0 ?_
  refine e_aload_n dL_load_2 rfl ?_
  refine cIH_go h (fun E6 μ2 hc1 h => ?_) (fun v5 μ2 hc1 h => ?_)
  · by_cases hE7 : E6 = "java/lang/IllegalStateException"
    · rw [if_pos hE7] at h
      subst hE7
      refine e_VH [] [.int (0 : Int32), .ref 48] [some (.ref 0), some (.ref 48), none] dL_load_3 rfl rfl rfl rfl (by decide) (Nat.le_of_ble_eq_true rfl) (by omega) ⟨rfl, hc1⟩ (by decide +kernel) (Nat.le_of_ble_eq_true rfl) (Or.inr ⟨2, rfl, dL_load_11, rfl⟩) rfl ?_
      refine e_iconst dL_load_12 ci_1 ?_
      exact e_iret .int dL_load_13 rfl rfl (ret_eq h)
    rw [if_neg hE7] at h
    exact nomatch h
  · refine e_VI [] [.int (0 : Int32), .ref 48] dL_load_3 rfl rfl rfl rfl (by decide) (Nat.le_of_ble_eq_true rfl) (by omega) ⟨rfl, hc1⟩ ?_
    refine e_i2l dL_load_6 ?_
    refine e_lastore (n := 1) dL_load_7 (by decide) rfl (by decide : inb (0 : Int32) 1) ?_
    refine e_naM (e := sJ μ2 48 0 (Int32.toInt64 v5)) h (fun μ8 eμ8 h => ?_)
    refine e_goto (tgt := 14) dL_load_8 rfl ?_
    refine e_iconst dL_load_14 ci_0 ?_
    exact e_iret .int dL_load_15 rfl rfl (ret_eq h)
set_option maxRecDepth 20000 in
theorem ok_L_load (l : Launch) (hl : l.stackTraces = false) : MOK l yL_load.cls 8 144 mL_load := ⟨lk_all (List.forall_mem_cons.mpr ⟨⟨yX7_load, cX7_load, 1, (some .int), 7, 124, by decide, by decide, t_1 1 rfl rfl, hd_X7_load, Or.inr (Or.inl ⟨rfl, sc_X7_load l hl, t_3 73 rfl rfl, t_3 70 rfl rfl, t_3 71 rfl rfl, _, rfl, t_3 72 rfl rfl⟩)⟩, nil_all⟩), fun ix ci j h => lk_all (P := fun ix q => FldOK yL_load.cls ix q.1 q.2) (nil_all) ix (ci, j) h, lk_all (nil_all), lk_all (nil_all), lk_all (nil_all)⟩
theorem hd_L_load : CallHd yL_load 2 := ⟨by decide +kernel, by decide +kernel, by decide +kernel⟩
theorem hc_L_load : HC yL_load.cls [(0, 8, 11, 15)] mL_load := fun pc E h hq => (show ∀ q ∈ mHnd mL_load, ∃ (pre suf : List (Nat × Nat × Nat × Nat)) (x : Nat × Nat × Nat × Nat), [(0, 8, 11, 15)] = pre ++ x :: suf ∧ (∀ z ∈ pre, ¬ z.2.2.2 = 0 ∧ ∃ nm ∈ xcL, Cond.classLink yL_load.cls z.2.2.2 nm ∈ TB ∧ q.1.2 ≠ nm) ∧ covers ⟨x.1, x.2.1, x.2.2.1, x.2.2.2⟩ q.1.1 = true ∧ ¬ x.2.2.2 = 0 ∧ Cond.classLink yL_load.cls x.2.2.2 q.1.2 ∈ TB ∧ q.1.2 ∈ xcL ∧ x.2.2.1 = q.2.1 from List.forall_mem_cons.mpr ⟨⟨[], [], (0, 8, 11, 15), rfl, nil_all, rfl, by decide, t_2 210 rfl rfl, List.mem_of_getElem? (i := 1) rfl, rfl⟩, nil_all⟩) ((pc, E), h) (lk_mem hq)
theorem sc_L_load (l : Launch) (hl : l.stackTraces = false) : SConH l yL_load cL_load 3 (some .int) [(0, 8, 11, 15)] 8 144 1 Γ_L_load := scon_ofH mL_load cls_ok hl (by decide +kernel) rfl rfl (ok_L_load l hl) (by decide) rfl hc_L_load rfl b_L_load
def F_L_nearest (μ : Mem) : Out := cIH (F_X7_nearest μ) (fun E6 μ2 => if E6 = "java/lang/IllegalStateException" then (rI (1 : Int32) μ2) else (none)) (fun v5 μ2 => lt (sJ μ2 48 0 (Int32.toInt64 v5)) (fun μ8 => rI (0 : Int32) μ8))
def Γ_L_nearest : Gam := fun as μ r μ' => as = [.ref 0, .ref 48] ∧ F_L_nearest μ = some (r, μ')
def mL_nearest : MI := (cL_nearest, [(69, (1, 0, 1, 5, Γ_X7_nearest))], [], [], [], [], [((3, "java/lang/IllegalStateException"), 11, 2)], none, (some .int))
set_option maxHeartbeats 4000000 in
theorem b_L_nearest : ∀ as μ r μ', Γ_L_nearest as μ r μ' → (elvL as).length ≤ 3 ∧ G mL_nearest (Qe r μ') 0 (elv as 3) [] μ 1 := by
  intro as μ r μ' h
  obtain ⟨rfl, h⟩ := h
  refine ⟨Nat.le_of_ble_eq_true rfl, ?_⟩
  show G mL_nearest (Qe r μ') 0 [some (.ref 0), some (.ref 48), none] [] μ 1
  unfold F_L_nearest at h
  have hb9 : 1 ≤ 1 := Nat.le_refl _
  refine e_aload_n dL_nearest_0 rfl ?_
  refine e_iconst dL_nearest_1 ci_0 ?_
  refine e_aload_n dL_nearest_2 rfl ?_
  refine cIH_go h (fun E6 μ2 hc1 h => ?_) (fun v5 μ2 hc1 h => ?_)
  · by_cases hE7 : E6 = "java/lang/IllegalStateException"
    · rw [if_pos hE7] at h
      subst hE7
      refine e_VH [] [.int (0 : Int32), .ref 48] [some (.ref 0), some (.ref 48), none] dL_nearest_3 rfl rfl rfl rfl (by decide) (Nat.le_of_ble_eq_true rfl) (by omega) ⟨rfl, hc1⟩ (by decide +kernel) (Nat.le_of_ble_eq_true rfl) (Or.inr ⟨2, rfl, dL_nearest_11, rfl⟩) rfl ?_
      refine e_iconst dL_nearest_12 ci_1 ?_
      exact e_iret .int dL_nearest_13 rfl rfl (ret_eq h)
    rw [if_neg hE7] at h
    exact nomatch h
  · refine e_VI [] [.int (0 : Int32), .ref 48] dL_nearest_3 rfl rfl rfl rfl (by decide) (Nat.le_of_ble_eq_true rfl) (by omega) ⟨rfl, hc1⟩ ?_
    refine e_i2l dL_nearest_6 ?_
    refine e_lastore (n := 1) dL_nearest_7 (by decide) rfl (by decide : inb (0 : Int32) 1) ?_
    refine e_naM (e := sJ μ2 48 0 (Int32.toInt64 v5)) h (fun μ8 eμ8 h => ?_)
    refine e_goto (tgt := 14) dL_nearest_8 rfl ?_
    refine e_iconst dL_nearest_14 ci_0 ?_
    exact e_iret .int dL_nearest_15 rfl rfl (ret_eq h)
set_option maxRecDepth 20000 in
theorem ok_L_nearest (l : Launch) (hl : l.stackTraces = false) : MOK l yL_nearest.cls 8 189 mL_nearest := ⟨lk_all (List.forall_mem_cons.mpr ⟨⟨yX7_nearest, cX7_nearest, 2, (some .int), 7, 168, by decide, by decide, t_1 1 rfl rfl, hd_X7_nearest, Or.inr (Or.inl ⟨rfl, sc_X7_nearest l hl, t_4 88 rfl rfl, t_4 85 rfl rfl, t_4 86 rfl rfl, _, rfl, t_4 87 rfl rfl⟩)⟩, nil_all⟩), fun ix ci j h => lk_all (P := fun ix q => FldOK yL_nearest.cls ix q.1 q.2) (nil_all) ix (ci, j) h, lk_all (nil_all), lk_all (nil_all), lk_all (nil_all)⟩
theorem hd_L_nearest : CallHd yL_nearest 2 := ⟨by decide +kernel, by decide +kernel, by decide +kernel⟩
theorem hc_L_nearest : HC yL_nearest.cls [(0, 8, 11, 15)] mL_nearest := fun pc E h hq => (show ∀ q ∈ mHnd mL_nearest, ∃ (pre suf : List (Nat × Nat × Nat × Nat)) (x : Nat × Nat × Nat × Nat), [(0, 8, 11, 15)] = pre ++ x :: suf ∧ (∀ z ∈ pre, ¬ z.2.2.2 = 0 ∧ ∃ nm ∈ xcL, Cond.classLink yL_nearest.cls z.2.2.2 nm ∈ TB ∧ q.1.2 ≠ nm) ∧ covers ⟨x.1, x.2.1, x.2.2.1, x.2.2.2⟩ q.1.1 = true ∧ ¬ x.2.2.2 = 0 ∧ Cond.classLink yL_nearest.cls x.2.2.2 q.1.2 ∈ TB ∧ q.1.2 ∈ xcL ∧ x.2.2.1 = q.2.1 from List.forall_mem_cons.mpr ⟨⟨[], [], (0, 8, 11, 15), rfl, nil_all, rfl, by decide, t_2 210 rfl rfl, List.mem_of_getElem? (i := 1) rfl, rfl⟩, nil_all⟩) ((pc, E), h) (lk_mem hq)
theorem sc_L_nearest (l : Launch) (hl : l.stackTraces = false) : SConH l yL_nearest cL_nearest 3 (some .int) [(0, 8, 11, 15)] 8 189 1 Γ_L_nearest := scon_ofH mL_nearest cls_ok hl (by decide +kernel) rfl rfl (ok_L_nearest l hl) (by decide) rfl hc_L_nearest rfl b_L_nearest
def F_L_next (μ : Mem) : Out := cIH (F_X7_next μ) (fun E6 μ2 => if E6 = "java/lang/IllegalStateException" then (rI (1 : Int32) μ2) else (none)) (fun v5 μ2 => lt (sJ μ2 48 0 (Int32.toInt64 v5)) (fun μ8 => rI (0 : Int32) μ8))
def Γ_L_next : Gam := fun as μ r μ' => as = [.ref 0, .ref 48] ∧ F_L_next μ = some (r, μ')
def mL_next : MI := (cL_next, [(63, (1, 0, 1, 5, Γ_X7_next))], [], [], [], [], [((3, "java/lang/IllegalStateException"), 11, 2)], none, (some .int))
set_option maxHeartbeats 4000000 in
theorem b_L_next : ∀ as μ r μ', Γ_L_next as μ r μ' → (elvL as).length ≤ 3 ∧ G mL_next (Qe r μ') 0 (elv as 3) [] μ 1 := by
  intro as μ r μ' h
  obtain ⟨rfl, h⟩ := h
  refine ⟨Nat.le_of_ble_eq_true rfl, ?_⟩
  show G mL_next (Qe r μ') 0 [some (.ref 0), some (.ref 48), none] [] μ 1
  unfold F_L_next at h
  have hb9 : 1 ≤ 1 := Nat.le_refl _
  refine e_aload_n dL_next_0 rfl ?_
  refine e_iconst dL_next_1 ci_0 ?_
  refine e_aload_n dL_next_2 rfl ?_
  refine cIH_go h (fun E6 μ2 hc1 h => ?_) (fun v5 μ2 hc1 h => ?_)
  · by_cases hE7 : E6 = "java/lang/IllegalStateException"
    · rw [if_pos hE7] at h
      subst hE7
      refine e_VH [] [.int (0 : Int32), .ref 48] [some (.ref 0), some (.ref 48), none] dL_next_3 rfl rfl rfl rfl (by decide) (Nat.le_of_ble_eq_true rfl) (by omega) ⟨rfl, hc1⟩ (by decide +kernel) (Nat.le_of_ble_eq_true rfl) (Or.inr ⟨2, rfl, dL_next_11, rfl⟩) rfl ?_
      refine e_iconst dL_next_12 ci_1 ?_
      exact e_iret .int dL_next_13 rfl rfl (ret_eq h)
    rw [if_neg hE7] at h
    exact nomatch h
  · refine e_VI [] [.int (0 : Int32), .ref 48] dL_next_3 rfl rfl rfl rfl (by decide) (Nat.le_of_ble_eq_true rfl) (by omega) ⟨rfl, hc1⟩ ?_
    refine e_i2l dL_next_6 ?_
    refine e_lastore (n := 1) dL_next_7 (by decide) rfl (by decide : inb (0 : Int32) 1) ?_
    refine e_naM (e := sJ μ2 48 0 (Int32.toInt64 v5)) h (fun μ8 eμ8 h => ?_)
    refine e_goto (tgt := 14) dL_next_8 rfl ?_
    refine e_iconst dL_next_14 ci_0 ?_
    exact e_iret .int dL_next_15 rfl rfl (ret_eq h)
set_option maxRecDepth 20000 in
theorem ok_L_next (l : Launch) (hl : l.stackTraces = false) : MOK l yL_next.cls 7 165 mL_next := ⟨lk_all (List.forall_mem_cons.mpr ⟨⟨yX7_next, cX7_next, 1, (some .int), 6, 145, by decide, by decide, t_1 1 rfl rfl, hd_X7_next, Or.inr (Or.inl ⟨rfl, sc_X7_next l hl, t_4 60 rfl rfl, t_4 57 rfl rfl, t_4 58 rfl rfl, _, rfl, t_4 59 rfl rfl⟩)⟩, nil_all⟩), fun ix ci j h => lk_all (P := fun ix q => FldOK yL_next.cls ix q.1 q.2) (nil_all) ix (ci, j) h, lk_all (nil_all), lk_all (nil_all), lk_all (nil_all)⟩
theorem hd_L_next : CallHd yL_next 2 := ⟨by decide +kernel, by decide +kernel, by decide +kernel⟩
theorem hc_L_next : HC yL_next.cls [(0, 8, 11, 15)] mL_next := fun pc E h hq => (show ∀ q ∈ mHnd mL_next, ∃ (pre suf : List (Nat × Nat × Nat × Nat)) (x : Nat × Nat × Nat × Nat), [(0, 8, 11, 15)] = pre ++ x :: suf ∧ (∀ z ∈ pre, ¬ z.2.2.2 = 0 ∧ ∃ nm ∈ xcL, Cond.classLink yL_next.cls z.2.2.2 nm ∈ TB ∧ q.1.2 ≠ nm) ∧ covers ⟨x.1, x.2.1, x.2.2.1, x.2.2.2⟩ q.1.1 = true ∧ ¬ x.2.2.2 = 0 ∧ Cond.classLink yL_next.cls x.2.2.2 q.1.2 ∈ TB ∧ q.1.2 ∈ xcL ∧ x.2.2.1 = q.2.1 from List.forall_mem_cons.mpr ⟨⟨[], [], (0, 8, 11, 15), rfl, nil_all, rfl, by decide, t_2 210 rfl rfl, List.mem_of_getElem? (i := 1) rfl, rfl⟩, nil_all⟩) ((pc, E), h) (lk_mem hq)
theorem sc_L_next (l : Launch) (hl : l.stackTraces = false) : SConH l yL_next cL_next 3 (some .int) [(0, 8, 11, 15)] 7 165 1 Γ_L_next := scon_ofH mL_next cls_ok hl (by decide +kernel) rfl rfl (ok_L_next l hl) (by decide) rfl hc_L_next rfl b_L_next
def F_L_piece (a1 : Int32) (a2 : Int32) (μ : Mem) : Out := cIH (F_X7_piece a1 a2 μ) (fun E6 μ2 => if E6 = "java/lang/IndexOutOfBoundsException" then (rI (1 : Int32) μ2) else (if E6 = "java/lang/IllegalArgumentException" then (rI (2 : Int32) μ2) else (none))) (fun v5 μ2 => lt (sJ μ2 48 0 (Int32.toInt64 v5)) (fun μ9 => rI (0 : Int32) μ9))
def Γ_L_piece : Gam := fun as μ r μ' => ∃ (a1 : Int32) (a2 : Int32), as = [.ref 0, .int a1, .int a2, .ref 48] ∧ F_L_piece a1 a2 μ = some (r, μ')
def mL_piece : MI := (cL_piece, [(34, (1, 2, 1, 5, Γ_X7_piece))], [], [], [], [], [((5, "java/lang/IllegalArgumentException"), 17, 4), ((5, "java/lang/IndexOutOfBoundsException"), 13, 4)], none, (some .int))
set_option maxHeartbeats 4000000 in
theorem b_L_piece : ∀ as μ r μ', Γ_L_piece as μ r μ' → (elvL as).length ≤ 5 ∧ G mL_piece (Qe r μ') 0 (elv as 5) [] μ 1 := by
  intro as μ r μ' h
  obtain ⟨a1, a2, rfl, h⟩ := h
  refine ⟨Nat.le_of_ble_eq_true rfl, ?_⟩
  show G mL_piece (Qe r μ') 0 [some (.ref 0), some (.int a1), some (.int a2), some (.ref 48), none] [] μ 1
  unfold F_L_piece at h
  have hb9 : 1 ≤ 1 := Nat.le_refl _
  refine e_aload_n dL_piece_0 rfl ?_
  refine e_iconst dL_piece_1 ci_0 ?_
  refine e_aload_n dL_piece_2 rfl ?_
  refine e_iload_n dL_piece_3 rfl ?_
  refine e_iload_n dL_piece_4 rfl ?_
  refine cIH_go h (fun E6 μ2 hc1 h => ?_) (fun v5 μ2 hc1 h => ?_)
  · by_cases hE7 : E6 = "java/lang/IndexOutOfBoundsException"
    · rw [if_pos hE7] at h
      subst hE7
      refine e_VH [.int a1, .int a2] [.int (0 : Int32), .ref 48] [some (.ref 0), some (.int a1), some (.int a2), some (.ref 48), none] dL_piece_5 rfl rfl rfl rfl (by decide) (Nat.le_of_ble_eq_true rfl) (by omega) ⟨a1, a2, rfl, hc1⟩ (by decide +kernel) (Nat.le_of_ble_eq_true rfl) (Or.inl ⟨dL_piece_13, rfl⟩) rfl ?_
      refine e_iconst dL_piece_15 ci_1 ?_
      exact e_iret .int dL_piece_16 rfl rfl (ret_eq h)
    rw [if_neg hE7] at h
    by_cases hE8 : E6 = "java/lang/IllegalArgumentException"
    · rw [if_pos hE8] at h
      subst hE8
      refine e_VH [.int a1, .int a2] [.int (0 : Int32), .ref 48] [some (.ref 0), some (.int a1), some (.int a2), some (.ref 48), none] dL_piece_5 rfl rfl rfl rfl (by decide) (Nat.le_of_ble_eq_true rfl) (by omega) ⟨a1, a2, rfl, hc1⟩ (by decide +kernel) (Nat.le_of_ble_eq_true rfl) (Or.inl ⟨dL_piece_17, rfl⟩) rfl ?_
      refine e_iconst dL_piece_19 ci_2 ?_
      exact e_iret .int dL_piece_20 rfl rfl (ret_eq h)
    rw [if_neg hE8] at h
    exact nomatch h
  · refine e_VI [.int a1, .int a2] [.int (0 : Int32), .ref 48] dL_piece_5 rfl rfl rfl rfl (by decide) (Nat.le_of_ble_eq_true rfl) (by omega) ⟨a1, a2, rfl, hc1⟩ ?_
    refine e_i2l dL_piece_8 ?_
    refine e_lastore (n := 1) dL_piece_9 (by decide) rfl (by decide : inb (0 : Int32) 1) ?_
    refine e_naM (e := sJ μ2 48 0 (Int32.toInt64 v5)) h (fun μ9 eμ9 h => ?_)
    refine e_goto (tgt := 21) dL_piece_10 rfl ?_
    refine e_iconst dL_piece_21 ci_0 ?_
    exact e_iret .int dL_piece_22 rfl rfl (ret_eq h)
set_option maxRecDepth 20000 in
theorem ok_L_piece (l : Launch) (hl : l.stackTraces = false) : MOK l yL_piece.cls 7 114 mL_piece := ⟨lk_all (List.forall_mem_cons.mpr ⟨⟨yX7_piece, cX7_piece, 5, (some .int), 6, 90, by decide, by decide, t_1 1 rfl rfl, hd_X7_piece, Or.inr (Or.inl ⟨rfl, sc_X7_piece l hl, t_3 196 rfl rfl, t_3 193 rfl rfl, t_3 194 rfl rfl, _, rfl, t_3 195 rfl rfl⟩)⟩, nil_all⟩), fun ix ci j h => lk_all (P := fun ix q => FldOK yL_piece.cls ix q.1 q.2) (nil_all) ix (ci, j) h, lk_all (nil_all), lk_all (nil_all), lk_all (nil_all)⟩
theorem hd_L_piece : CallHd yL_piece 4 := ⟨by decide +kernel, by decide +kernel, by decide +kernel⟩
theorem hc_L_piece : HC yL_piece.cls [(0, 10, 13, 28), (0, 10, 17, 13)] mL_piece := fun pc E h hq => (show ∀ q ∈ mHnd mL_piece, ∃ (pre suf : List (Nat × Nat × Nat × Nat)) (x : Nat × Nat × Nat × Nat), [(0, 10, 13, 28), (0, 10, 17, 13)] = pre ++ x :: suf ∧ (∀ z ∈ pre, ¬ z.2.2.2 = 0 ∧ ∃ nm ∈ xcL, Cond.classLink yL_piece.cls z.2.2.2 nm ∈ TB ∧ q.1.2 ≠ nm) ∧ covers ⟨x.1, x.2.1, x.2.2.1, x.2.2.2⟩ q.1.1 = true ∧ ¬ x.2.2.2 = 0 ∧ Cond.classLink yL_piece.cls x.2.2.2 q.1.2 ∈ TB ∧ q.1.2 ∈ xcL ∧ x.2.2.1 = q.2.1 from List.forall_mem_cons.mpr ⟨⟨[(0, 10, 13, 28)], [], (0, 10, 17, 13), rfl, List.forall_mem_cons.mpr ⟨⟨by decide, "java/lang/IndexOutOfBoundsException", List.mem_of_getElem? (i := 2) rfl, t_3 126 rfl rfl, by decide⟩, nil_all⟩, rfl, by decide, t_2 209 rfl rfl, List.mem_of_getElem? (i := 0) rfl, rfl⟩, List.forall_mem_cons.mpr ⟨⟨[], [(0, 10, 17, 13)], (0, 10, 13, 28), rfl, nil_all, rfl, by decide, t_3 126 rfl rfl, List.mem_of_getElem? (i := 2) rfl, rfl⟩, nil_all⟩⟩) ((pc, E), h) (lk_mem hq)
theorem sc_L_piece (l : Launch) (hl : l.stackTraces = false) : SConH l yL_piece cL_piece 5 (some .int) [(0, 10, 13, 28), (0, 10, 17, 13)] 7 114 1 Γ_L_piece := scon_ofH mL_piece cls_ok hl (by decide +kernel) rfl rfl (ok_L_piece l hl) (by decide) rfl hc_L_piece rfl b_L_piece
def F_L_pin (a1 : Int32) (a2 : Int32) (a3 : Int32) (μ : Mem) : Out := cIH (F_X7_pin a1 a2 a3 μ) (fun E6 μ2 => if E6 = "java/lang/IndexOutOfBoundsException" then (rI (1 : Int32) μ2) else (none)) (fun v5 μ2 => if v5 = 0 then (lt (sJ μ2 48 0 (0 : Int64)) (fun μ9 => rI (0 : Int32) μ9)) else (lt (sJ μ2 48 0 (1 : Int64)) (fun μ10 => rI (0 : Int32) μ10)))
def Γ_L_pin : Gam := fun as μ r μ' => ∃ (a1 : Int32) (a2 : Int32) (a3 : Int32), as = [.ref 0, .int a1, .int a2, .int a3, .ref 48] ∧ F_L_pin a1 a2 a3 μ = some (r, μ')
def mL_pin : MI := (cL_pin, [(50, (1, 3, 1, 5, Γ_X7_pin))], [], [], [], [], [((7, "java/lang/IndexOutOfBoundsException"), 22, 5)], none, (some .int))
set_option maxHeartbeats 4000000 in
theorem b_L_pin : ∀ as μ r μ', Γ_L_pin as μ r μ' → (elvL as).length ≤ 6 ∧ G mL_pin (Qe r μ') 0 (elv as 6) [] μ 1 := by
  intro as μ r μ' h
  obtain ⟨a1, a2, a3, rfl, h⟩ := h
  refine ⟨Nat.le_of_ble_eq_true rfl, ?_⟩
  show G mL_pin (Qe r μ') 0 [some (.ref 0), some (.int a1), some (.int a2), some (.int a3), some (.ref 48), none] [] μ 1
  unfold F_L_pin at h
  have hb9 : 1 ≤ 1 := Nat.le_refl _
  refine e_aload dL_pin_0 rfl ?_
  refine e_iconst dL_pin_2 ci_0 ?_
  refine e_aload_n dL_pin_3 rfl ?_
  refine e_iload_n dL_pin_4 rfl ?_
  refine e_iload_n dL_pin_5 rfl ?_
  refine e_iload_n dL_pin_6 rfl ?_
  refine cIH_go h (fun E6 μ2 hc1 h => ?_) (fun v5 μ2 hc1 h => ?_)
  · by_cases hE7 : E6 = "java/lang/IndexOutOfBoundsException"
    · rw [if_pos hE7] at h
      subst hE7
      refine e_VH [.int a1, .int a2, .int a3] [.int (0 : Int32), .ref 48] [some (.ref 0), some (.int a1), some (.int a2), some (.int a3), some (.ref 48), none] dL_pin_7 rfl rfl rfl rfl (by decide) (Nat.le_of_ble_eq_true rfl) (by omega) ⟨a1, a2, a3, rfl, hc1⟩ (by decide +kernel) (Nat.le_of_ble_eq_true rfl) (Or.inl ⟨dL_pin_22, rfl⟩) rfl ?_
      refine e_iconst dL_pin_24 ci_1 ?_
      exact e_iret .int dL_pin_25 rfl rfl (ret_eq h)
    rw [if_neg hE7] at h
    exact nomatch h
  · refine e_VI [.int a1, .int a2, .int a3] [.int (0 : Int32), .ref 48] dL_pin_7 rfl rfl rfl rfl (by decide) (Nat.le_of_ble_eq_true rfl) (by omega) ⟨a1, a2, a3, rfl, hc1⟩ ?_
    refine e_if_eq (tgt := 17) dL_pin_10 rfl (fun hc8 => ?_) (fun hc8 => ?_)
    · rw [if_pos hc8] at h
      refine e_lconst (v := (0 : Int64)) dL_pin_17 rfl ?_
      refine e_lastore (n := 1) dL_pin_18 (by decide) rfl (by decide : inb (0 : Int32) 1) ?_
      refine e_naM (e := sJ μ2 48 0 (0 : Int64)) h (fun μ9 eμ9 h => ?_)
      refine e_goto (tgt := 26) dL_pin_19 rfl ?_
      refine e_iconst dL_pin_26 ci_0 ?_
      exact e_iret .int dL_pin_27 rfl rfl (ret_eq h)
    · rw [if_neg hc8] at h
      refine e_lconst (v := (1 : Int64)) dL_pin_13 rfl ?_
      refine e_goto (tgt := 18) dL_pin_14 rfl ?_
      refine e_lastore (n := 1) dL_pin_18 (by decide) rfl (by decide : inb (0 : Int32) 1) ?_
      refine e_naM (e := sJ μ2 48 0 (1 : Int64)) h (fun μ10 eμ10 h => ?_)
      refine e_goto (tgt := 26) dL_pin_19 rfl ?_
      refine e_iconst dL_pin_26 ci_0 ?_
      exact e_iret .int dL_pin_27 rfl rfl (ret_eq h)
set_option maxRecDepth 20000 in
theorem ok_L_pin (l : Launch) (hl : l.stackTraces = false) : MOK l yL_pin.cls 8 135 mL_pin := ⟨lk_all (List.forall_mem_cons.mpr ⟨⟨yX7_pin, cX7_pin, 4, (some .boolean), 7, 112, by decide, by decide, t_1 1 rfl rfl, hd_X7_pin, Or.inr (Or.inl ⟨rfl, sc_X7_pin l hl, t_4 19 rfl rfl, t_4 16 rfl rfl, t_4 17 rfl rfl, _, rfl, t_4 18 rfl rfl⟩)⟩, nil_all⟩), fun ix ci j h => lk_all (P := fun ix q => FldOK yL_pin.cls ix q.1 q.2) (nil_all) ix (ci, j) h, lk_all (nil_all), lk_all (nil_all), lk_all (nil_all)⟩
theorem hd_L_pin : CallHd yL_pin 5 := ⟨by decide +kernel, by decide +kernel, by decide +kernel⟩
theorem hc_L_pin : HC yL_pin.cls [(0, 19, 22, 28)] mL_pin := fun pc E h hq => (show ∀ q ∈ mHnd mL_pin, ∃ (pre suf : List (Nat × Nat × Nat × Nat)) (x : Nat × Nat × Nat × Nat), [(0, 19, 22, 28)] = pre ++ x :: suf ∧ (∀ z ∈ pre, ¬ z.2.2.2 = 0 ∧ ∃ nm ∈ xcL, Cond.classLink yL_pin.cls z.2.2.2 nm ∈ TB ∧ q.1.2 ≠ nm) ∧ covers ⟨x.1, x.2.1, x.2.2.1, x.2.2.2⟩ q.1.1 = true ∧ ¬ x.2.2.2 = 0 ∧ Cond.classLink yL_pin.cls x.2.2.2 q.1.2 ∈ TB ∧ q.1.2 ∈ xcL ∧ x.2.2.1 = q.2.1 from List.forall_mem_cons.mpr ⟨⟨[], [], (0, 19, 22, 28), rfl, nil_all, rfl, by decide, t_3 126 rfl rfl, List.mem_of_getElem? (i := 2) rfl, rfl⟩, nil_all⟩) ((pc, E), h) (lk_mem hq)
theorem sc_L_pin (l : Launch) (hl : l.stackTraces = false) : SConH l yL_pin cL_pin 6 (some .int) [(0, 19, 22, 28)] 8 135 1 Γ_L_pin := scon_ofH mL_pin cls_ok hl (by decide +kernel) rfl rfl (ok_L_pin l hl) (by decide) rfl hc_L_pin rfl b_L_pin
def F_L_resize (a1 : Int32) (a2 : Int32) (μ : Mem) : Out := cIH (F_X7_resize a1 a2 μ) (fun E6 μ2 => if E6 = "java/lang/IllegalArgumentException" then (rI (1 : Int32) μ2) else (none)) (fun v5 μ2 => lt (sJ μ2 48 0 (Int32.toInt64 v5)) (fun μ8 => rI (0 : Int32) μ8))
def Γ_L_resize : Gam := fun as μ r μ' => ∃ (a1 : Int32) (a2 : Int32), as = [.ref 0, .int a1, .int a2, .ref 48] ∧ F_L_resize a1 a2 μ = some (r, μ')
def mL_resize : MI := (cL_resize, [(43, (1, 2, 1, 5, Γ_X7_resize))], [], [], [], [], [((5, "java/lang/IllegalArgumentException"), 13, 4)], none, (some .int))
set_option maxHeartbeats 4000000 in
theorem b_L_resize : ∀ as μ r μ', Γ_L_resize as μ r μ' → (elvL as).length ≤ 5 ∧ G mL_resize (Qe r μ') 0 (elv as 5) [] μ 1 := by
  intro as μ r μ' h
  obtain ⟨a1, a2, rfl, h⟩ := h
  refine ⟨Nat.le_of_ble_eq_true rfl, ?_⟩
  show G mL_resize (Qe r μ') 0 [some (.ref 0), some (.int a1), some (.int a2), some (.ref 48), none] [] μ 1
  unfold F_L_resize at h
  have hb9 : 1 ≤ 1 := Nat.le_refl _
  refine e_aload_n dL_resize_0 rfl ?_
  refine e_iconst dL_resize_1 ci_0 ?_
  refine e_aload_n dL_resize_2 rfl ?_
  refine e_iload_n dL_resize_3 rfl ?_
  refine e_iload_n dL_resize_4 rfl ?_
  refine cIH_go h (fun E6 μ2 hc1 h => ?_) (fun v5 μ2 hc1 h => ?_)
  · by_cases hE7 : E6 = "java/lang/IllegalArgumentException"
    · rw [if_pos hE7] at h
      subst hE7
      refine e_VH [.int a1, .int a2] [.int (0 : Int32), .ref 48] [some (.ref 0), some (.int a1), some (.int a2), some (.ref 48), none] dL_resize_5 rfl rfl rfl rfl (by decide) (Nat.le_of_ble_eq_true rfl) (by omega) ⟨a1, a2, rfl, hc1⟩ (by decide +kernel) (Nat.le_of_ble_eq_true rfl) (Or.inl ⟨dL_resize_13, rfl⟩) rfl ?_
      refine e_iconst dL_resize_15 ci_1 ?_
      exact e_iret .int dL_resize_16 rfl rfl (ret_eq h)
    rw [if_neg hE7] at h
    exact nomatch h
  · refine e_VI [.int a1, .int a2] [.int (0 : Int32), .ref 48] dL_resize_5 rfl rfl rfl rfl (by decide) (Nat.le_of_ble_eq_true rfl) (by omega) ⟨a1, a2, rfl, hc1⟩ ?_
    refine e_i2l dL_resize_8 ?_
    refine e_lastore (n := 1) dL_resize_9 (by decide) rfl (by decide : inb (0 : Int32) 1) ?_
    refine e_naM (e := sJ μ2 48 0 (Int32.toInt64 v5)) h (fun μ8 eμ8 h => ?_)
    refine e_goto (tgt := 17) dL_resize_10 rfl ?_
    refine e_iconst dL_resize_17 ci_0 ?_
    exact e_iret .int dL_resize_18 rfl rfl (ret_eq h)
set_option maxRecDepth 20000 in
theorem ok_L_resize (l : Launch) (hl : l.stackTraces = false) : MOK l yL_resize.cls 7 112 mL_resize := ⟨lk_all (List.forall_mem_cons.mpr ⟨⟨yX7_resize, cX7_resize, 3, (some .int), 6, 90, by decide, by decide, t_1 1 rfl rfl, hd_X7_resize, Or.inr (Or.inl ⟨rfl, sc_X7_resize l hl, t_3 234 rfl rfl, t_3 231 rfl rfl, t_3 232 rfl rfl, _, rfl, t_3 233 rfl rfl⟩)⟩, nil_all⟩), fun ix ci j h => lk_all (P := fun ix q => FldOK yL_resize.cls ix q.1 q.2) (nil_all) ix (ci, j) h, lk_all (nil_all), lk_all (nil_all), lk_all (nil_all)⟩
theorem hd_L_resize : CallHd yL_resize 4 := ⟨by decide +kernel, by decide +kernel, by decide +kernel⟩
theorem hc_L_resize : HC yL_resize.cls [(0, 10, 13, 13)] mL_resize := fun pc E h hq => (show ∀ q ∈ mHnd mL_resize, ∃ (pre suf : List (Nat × Nat × Nat × Nat)) (x : Nat × Nat × Nat × Nat), [(0, 10, 13, 13)] = pre ++ x :: suf ∧ (∀ z ∈ pre, ¬ z.2.2.2 = 0 ∧ ∃ nm ∈ xcL, Cond.classLink yL_resize.cls z.2.2.2 nm ∈ TB ∧ q.1.2 ≠ nm) ∧ covers ⟨x.1, x.2.1, x.2.2.1, x.2.2.2⟩ q.1.1 = true ∧ ¬ x.2.2.2 = 0 ∧ Cond.classLink yL_resize.cls x.2.2.2 q.1.2 ∈ TB ∧ q.1.2 ∈ xcL ∧ x.2.2.1 = q.2.1 from List.forall_mem_cons.mpr ⟨⟨[], [], (0, 10, 13, 13), rfl, nil_all, rfl, by decide, t_2 209 rfl rfl, List.mem_of_getElem? (i := 0) rfl, rfl⟩, nil_all⟩) ((pc, E), h) (lk_mem hq)
theorem sc_L_resize (l : Launch) (hl : l.stackTraces = false) : SConH l yL_resize cL_resize 5 (some .int) [(0, 10, 13, 13)] 7 112 1 Γ_L_resize := scon_ofH mL_resize cls_ok hl (by decide +kernel) rfl rfl (ok_L_resize l hl) (by decide) rfl hc_L_resize rfl b_L_resize
def F_L_restore (a1 : Int32) (μ : Mem) : Out := cIH (F_X7_restore a1 μ) (fun E6 μ2 => if E6 = "java/lang/IndexOutOfBoundsException" then (rI (1 : Int32) μ2) else (if E6 = "java/lang/IllegalStateException" then (rI (2 : Int32) μ2) else (none))) (fun v5 μ2 => lt (sJ μ2 48 0 (Int32.toInt64 v5)) (fun μ9 => rI (0 : Int32) μ9))
def Γ_L_restore : Gam := fun as μ r μ' => ∃ (a1 : Int32), as = [.ref 0, .int a1, .ref 48] ∧ F_L_restore a1 μ = some (r, μ')
def mL_restore : MI := (cL_restore, [(83, (1, 1, 2, 5, Γ_X7_restore))], [], [], [], [], [((4, "java/lang/IllegalStateException"), 15, 3), ((4, "java/lang/IndexOutOfBoundsException"), 12, 3)], none, (some .int))
set_option maxHeartbeats 4000000 in
theorem b_L_restore : ∀ as μ r μ', Γ_L_restore as μ r μ' → (elvL as).length ≤ 4 ∧ G mL_restore (Qe r μ') 0 (elv as 4) [] μ 2 := by
  intro as μ r μ' h
  obtain ⟨a1, rfl, h⟩ := h
  refine ⟨Nat.le_of_ble_eq_true rfl, ?_⟩
  show G mL_restore (Qe r μ') 0 [some (.ref 0), some (.int a1), some (.ref 48), none] [] μ 2
  unfold F_L_restore at h
  have hb9 : 2 ≤ 2 := Nat.le_refl _
  refine e_aload_n dL_restore_0 rfl ?_
  refine e_iconst dL_restore_1 ci_0 ?_
  refine e_aload_n dL_restore_2 rfl ?_
  refine e_iload_n dL_restore_3 rfl ?_
  refine cIH_go h (fun E6 μ2 hc1 h => ?_) (fun v5 μ2 hc1 h => ?_)
  · by_cases hE7 : E6 = "java/lang/IndexOutOfBoundsException"
    · rw [if_pos hE7] at h
      subst hE7
      refine e_VH [.int a1] [.int (0 : Int32), .ref 48] [some (.ref 0), some (.int a1), some (.ref 48), none] dL_restore_4 rfl rfl rfl rfl (by decide) (Nat.le_of_ble_eq_true rfl) (by omega) ⟨a1, rfl, hc1⟩ (by decide +kernel) (Nat.le_of_ble_eq_true rfl) (Or.inr ⟨3, rfl, dL_restore_12, rfl⟩) rfl ?_
      refine e_iconst dL_restore_13 ci_1 ?_
      exact e_iret .int dL_restore_14 rfl rfl (ret_eq h)
    rw [if_neg hE7] at h
    by_cases hE8 : E6 = "java/lang/IllegalStateException"
    · rw [if_pos hE8] at h
      subst hE8
      refine e_VH [.int a1] [.int (0 : Int32), .ref 48] [some (.ref 0), some (.int a1), some (.ref 48), none] dL_restore_4 rfl rfl rfl rfl (by decide) (Nat.le_of_ble_eq_true rfl) (by omega) ⟨a1, rfl, hc1⟩ (by decide +kernel) (Nat.le_of_ble_eq_true rfl) (Or.inr ⟨3, rfl, dL_restore_15, rfl⟩) rfl ?_
      refine e_iconst dL_restore_16 ci_2 ?_
      exact e_iret .int dL_restore_17 rfl rfl (ret_eq h)
    rw [if_neg hE8] at h
    exact nomatch h
  · refine e_VI [.int a1] [.int (0 : Int32), .ref 48] dL_restore_4 rfl rfl rfl rfl (by decide) (Nat.le_of_ble_eq_true rfl) (by omega) ⟨a1, rfl, hc1⟩ ?_
    refine e_i2l dL_restore_7 ?_
    refine e_lastore (n := 1) dL_restore_8 (by decide) rfl (by decide : inb (0 : Int32) 1) ?_
    refine e_naM (e := sJ μ2 48 0 (Int32.toInt64 v5)) h (fun μ9 eμ9 h => ?_)
    refine e_goto (tgt := 18) dL_restore_9 rfl ?_
    refine e_iconst dL_restore_18 ci_0 ?_
    exact e_iret .int dL_restore_19 rfl rfl (ret_eq h)
set_option maxRecDepth 20000 in
theorem ok_L_restore (l : Launch) (hl : l.stackTraces = false) : MOK l yL_restore.cls 8 132 mL_restore := ⟨lk_all (List.forall_mem_cons.mpr ⟨⟨yX7_restore, cX7_restore, 2, (some .int), 7, 111, by decide, by decide, t_1 1 rfl rfl, hd_X7_restore, Or.inr (Or.inl ⟨rfl, sc_X7_restore l hl, t_4 162 rfl rfl, t_4 159 rfl rfl, t_4 160 rfl rfl, _, rfl, t_4 161 rfl rfl⟩)⟩, nil_all⟩), fun ix ci j h => lk_all (P := fun ix q => FldOK yL_restore.cls ix q.1 q.2) (nil_all) ix (ci, j) h, lk_all (nil_all), lk_all (nil_all), lk_all (nil_all)⟩
theorem hd_L_restore : CallHd yL_restore 3 := ⟨by decide +kernel, by decide +kernel, by decide +kernel⟩
theorem hc_L_restore : HC yL_restore.cls [(0, 9, 12, 28), (0, 9, 15, 15)] mL_restore := fun pc E h hq => (show ∀ q ∈ mHnd mL_restore, ∃ (pre suf : List (Nat × Nat × Nat × Nat)) (x : Nat × Nat × Nat × Nat), [(0, 9, 12, 28), (0, 9, 15, 15)] = pre ++ x :: suf ∧ (∀ z ∈ pre, ¬ z.2.2.2 = 0 ∧ ∃ nm ∈ xcL, Cond.classLink yL_restore.cls z.2.2.2 nm ∈ TB ∧ q.1.2 ≠ nm) ∧ covers ⟨x.1, x.2.1, x.2.2.1, x.2.2.2⟩ q.1.1 = true ∧ ¬ x.2.2.2 = 0 ∧ Cond.classLink yL_restore.cls x.2.2.2 q.1.2 ∈ TB ∧ q.1.2 ∈ xcL ∧ x.2.2.1 = q.2.1 from List.forall_mem_cons.mpr ⟨⟨[(0, 9, 12, 28)], [], (0, 9, 15, 15), rfl, List.forall_mem_cons.mpr ⟨⟨by decide, "java/lang/IndexOutOfBoundsException", List.mem_of_getElem? (i := 2) rfl, t_3 126 rfl rfl, by decide⟩, nil_all⟩, rfl, by decide, t_2 210 rfl rfl, List.mem_of_getElem? (i := 1) rfl, rfl⟩, List.forall_mem_cons.mpr ⟨⟨[], [(0, 9, 15, 15)], (0, 9, 12, 28), rfl, nil_all, rfl, by decide, t_3 126 rfl rfl, List.mem_of_getElem? (i := 2) rfl, rfl⟩, nil_all⟩⟩) ((pc, E), h) (lk_mem hq)
theorem sc_L_restore (l : Launch) (hl : l.stackTraces = false) : SConH l yL_restore cL_restore 4 (some .int) [(0, 9, 12, 28), (0, 9, 15, 15)] 8 132 2 Γ_L_restore := scon_ofH mL_restore cls_ok hl (by decide +kernel) rfl rfl (ok_L_restore l hl) (by decide) rfl hc_L_restore rfl b_L_restore
def F_L_runScript (a1 : Int32) (a2 : Int64) (μ : Mem) : Out := cIH (F_X7_runScript a1 a2 μ) (fun E6 μ2 => if E6 = "java/lang/IllegalArgumentException" then (rI (1 : Int32) μ2) else (none)) (fun v5 μ2 => lt (sJ μ2 48 0 (Int32.toInt64 v5)) (fun μ8 => rI (0 : Int32) μ8))
def Γ_L_runScript : Gam := fun as μ r μ' => ∃ (a1 : Int32) (a2 : Int64), as = [.ref 0, .int a1, .long a2, .ref 48] ∧ F_L_runScript a1 a2 μ = some (r, μ')
def mL_runScript : MI := (cL_runScript, [(72, (1, 2, 1, 5, Γ_X7_runScript))], [], [], [], [], [((6, "java/lang/IllegalArgumentException"), 14, 5)], none, (some .int))
set_option maxHeartbeats 4000000 in
theorem b_L_runScript : ∀ as μ r μ', Γ_L_runScript as μ r μ' → (elvL as).length ≤ 6 ∧ G mL_runScript (Qe r μ') 0 (elv as 6) [] μ 1 := by
  intro as μ r μ' h
  obtain ⟨a1, a2, rfl, h⟩ := h
  refine ⟨Nat.le_of_ble_eq_true rfl, ?_⟩
  show G mL_runScript (Qe r μ') 0 [some (.ref 0), some (.int a1), some (.long a2), none, some (.ref 48), none] [] μ 1
  unfold F_L_runScript at h
  have hb9 : 1 ≤ 1 := Nat.le_refl _
  refine e_aload dL_runScript_0 rfl ?_
  refine e_iconst dL_runScript_2 ci_0 ?_
  refine e_aload_n dL_runScript_3 rfl ?_
  refine e_iload_n dL_runScript_4 rfl ?_
  refine e_lload_n dL_runScript_5 rfl ?_
  refine cIH_go h (fun E6 μ2 hc1 h => ?_) (fun v5 μ2 hc1 h => ?_)
  · by_cases hE7 : E6 = "java/lang/IllegalArgumentException"
    · rw [if_pos hE7] at h
      subst hE7
      refine e_VH [.int a1, .long a2] [.int (0 : Int32), .ref 48] [some (.ref 0), some (.int a1), some (.long a2), none, some (.ref 48), none] dL_runScript_6 rfl rfl rfl rfl (by decide) (Nat.le_of_ble_eq_true rfl) (by omega) ⟨a1, a2, rfl, hc1⟩ (by decide +kernel) (Nat.le_of_ble_eq_true rfl) (Or.inl ⟨dL_runScript_14, rfl⟩) rfl ?_
      refine e_iconst dL_runScript_16 ci_1 ?_
      exact e_iret .int dL_runScript_17 rfl rfl (ret_eq h)
    rw [if_neg hE7] at h
    exact nomatch h
  · refine e_VI [.int a1, .long a2] [.int (0 : Int32), .ref 48] dL_runScript_6 rfl rfl rfl rfl (by decide) (Nat.le_of_ble_eq_true rfl) (by omega) ⟨a1, a2, rfl, hc1⟩ ?_
    refine e_i2l dL_runScript_9 ?_
    refine e_lastore (n := 1) dL_runScript_10 (by decide) rfl (by decide : inb (0 : Int32) 1) ?_
    refine e_naM (e := sJ μ2 48 0 (Int32.toInt64 v5)) h (fun μ8 eμ8 h => ?_)
    refine e_goto (tgt := 18) dL_runScript_11 rfl ?_
    refine e_iconst dL_runScript_18 ci_0 ?_
    exact e_iret .int dL_runScript_19 rfl rfl (ret_eq h)
set_option maxRecDepth 20000 in
theorem ok_L_runScript (l : Launch) (hl : l.stackTraces = false) : MOK l yL_runScript.cls 8 197 mL_runScript := ⟨lk_all (List.forall_mem_cons.mpr ⟨⟨yX7_runScript, cX7_runScript, 9, (some .int), 7, 169, by decide, by decide, t_1 1 rfl rfl, hd_X7_runScript, Or.inr (Or.inl ⟨rfl, sc_X7_runScript l hl, t_4 100 rfl rfl, t_4 97 rfl rfl, t_4 98 rfl rfl, _, rfl, t_4 99 rfl rfl⟩)⟩, nil_all⟩), fun ix ci j h => lk_all (P := fun ix q => FldOK yL_runScript.cls ix q.1 q.2) (nil_all) ix (ci, j) h, lk_all (nil_all), lk_all (nil_all), lk_all (nil_all)⟩
theorem hd_L_runScript : CallHd yL_runScript 4 := ⟨by decide +kernel, by decide +kernel, by decide +kernel⟩
theorem hc_L_runScript : HC yL_runScript.cls [(0, 11, 14, 13)] mL_runScript := fun pc E h hq => (show ∀ q ∈ mHnd mL_runScript, ∃ (pre suf : List (Nat × Nat × Nat × Nat)) (x : Nat × Nat × Nat × Nat), [(0, 11, 14, 13)] = pre ++ x :: suf ∧ (∀ z ∈ pre, ¬ z.2.2.2 = 0 ∧ ∃ nm ∈ xcL, Cond.classLink yL_runScript.cls z.2.2.2 nm ∈ TB ∧ q.1.2 ≠ nm) ∧ covers ⟨x.1, x.2.1, x.2.2.1, x.2.2.2⟩ q.1.1 = true ∧ ¬ x.2.2.2 = 0 ∧ Cond.classLink yL_runScript.cls x.2.2.2 q.1.2 ∈ TB ∧ q.1.2 ∈ xcL ∧ x.2.2.1 = q.2.1 from List.forall_mem_cons.mpr ⟨⟨[], [], (0, 11, 14, 13), rfl, nil_all, rfl, by decide, t_2 209 rfl rfl, List.mem_of_getElem? (i := 0) rfl, rfl⟩, nil_all⟩) ((pc, E), h) (lk_mem hq)
theorem sc_L_runScript (l : Launch) (hl : l.stackTraces = false) : SConH l yL_runScript cL_runScript 6 (some .int) [(0, 11, 14, 13)] 8 197 1 Γ_L_runScript := scon_ofH mL_runScript cls_ok hl (by decide +kernel) rfl rfl (ok_L_runScript l hl) (by decide) rfl hc_L_runScript rfl b_L_runScript
def F_L_save (a1 : Int32) (μ : Mem) : Out := cIH (F_X7_save a1 μ) (fun E6 μ2 => if E6 = "java/lang/IndexOutOfBoundsException" then (rI (1 : Int32) μ2) else (none)) (fun v5 μ2 => lt (sJ μ2 48 0 (Int32.toInt64 v5)) (fun μ8 => rI (0 : Int32) μ8))
def Γ_L_save : Gam := fun as μ r μ' => ∃ (a1 : Int32), as = [.ref 0, .int a1, .ref 48] ∧ F_L_save a1 μ = some (r, μ')
def mL_save : MI := (cL_save, [(80, (1, 1, 1, 5, Γ_X7_save))], [], [], [], [], [((4, "java/lang/IndexOutOfBoundsException"), 12, 3)], none, (some .int))
set_option maxHeartbeats 4000000 in
theorem b_L_save : ∀ as μ r μ', Γ_L_save as μ r μ' → (elvL as).length ≤ 4 ∧ G mL_save (Qe r μ') 0 (elv as 4) [] μ 1 := by
  intro as μ r μ' h
  obtain ⟨a1, rfl, h⟩ := h
  refine ⟨Nat.le_of_ble_eq_true rfl, ?_⟩
  show G mL_save (Qe r μ') 0 [some (.ref 0), some (.int a1), some (.ref 48), none] [] μ 1
  unfold F_L_save at h
  have hb9 : 1 ≤ 1 := Nat.le_refl _
  refine e_aload_n dL_save_0 rfl ?_
  refine e_iconst dL_save_1 ci_0 ?_
  refine e_aload_n dL_save_2 rfl ?_
  refine e_iload_n dL_save_3 rfl ?_
  refine cIH_go h (fun E6 μ2 hc1 h => ?_) (fun v5 μ2 hc1 h => ?_)
  · by_cases hE7 : E6 = "java/lang/IndexOutOfBoundsException"
    · rw [if_pos hE7] at h
      subst hE7
      refine e_VH [.int a1] [.int (0 : Int32), .ref 48] [some (.ref 0), some (.int a1), some (.ref 48), none] dL_save_4 rfl rfl rfl rfl (by decide) (Nat.le_of_ble_eq_true rfl) (by omega) ⟨a1, rfl, hc1⟩ (by decide +kernel) (Nat.le_of_ble_eq_true rfl) (Or.inr ⟨3, rfl, dL_save_12, rfl⟩) rfl ?_
      refine e_iconst dL_save_13 ci_1 ?_
      exact e_iret .int dL_save_14 rfl rfl (ret_eq h)
    rw [if_neg hE7] at h
    exact nomatch h
  · refine e_VI [.int a1] [.int (0 : Int32), .ref 48] dL_save_4 rfl rfl rfl rfl (by decide) (Nat.le_of_ble_eq_true rfl) (by omega) ⟨a1, rfl, hc1⟩ ?_
    refine e_i2l dL_save_7 ?_
    refine e_lastore (n := 1) dL_save_8 (by decide) rfl (by decide : inb (0 : Int32) 1) ?_
    refine e_naM (e := sJ μ2 48 0 (Int32.toInt64 v5)) h (fun μ8 eμ8 h => ?_)
    refine e_goto (tgt := 15) dL_save_9 rfl ?_
    refine e_iconst dL_save_15 ci_0 ?_
    exact e_iret .int dL_save_16 rfl rfl (ret_eq h)
set_option maxRecDepth 20000 in
theorem ok_L_save (l : Launch) (hl : l.stackTraces = false) : MOK l yL_save.cls 8 132 mL_save := ⟨lk_all (List.forall_mem_cons.mpr ⟨⟨yX7_save, cX7_save, 2, (some .int), 7, 111, by decide, by decide, t_1 1 rfl rfl, hd_X7_save, Or.inr (Or.inl ⟨rfl, sc_X7_save l hl, t_4 145 rfl rfl, t_4 142 rfl rfl, t_4 143 rfl rfl, _, rfl, t_4 144 rfl rfl⟩)⟩, nil_all⟩), fun ix ci j h => lk_all (P := fun ix q => FldOK yL_save.cls ix q.1 q.2) (nil_all) ix (ci, j) h, lk_all (nil_all), lk_all (nil_all), lk_all (nil_all)⟩
theorem hd_L_save : CallHd yL_save 3 := ⟨by decide +kernel, by decide +kernel, by decide +kernel⟩
theorem hc_L_save : HC yL_save.cls [(0, 9, 12, 28)] mL_save := fun pc E h hq => (show ∀ q ∈ mHnd mL_save, ∃ (pre suf : List (Nat × Nat × Nat × Nat)) (x : Nat × Nat × Nat × Nat), [(0, 9, 12, 28)] = pre ++ x :: suf ∧ (∀ z ∈ pre, ¬ z.2.2.2 = 0 ∧ ∃ nm ∈ xcL, Cond.classLink yL_save.cls z.2.2.2 nm ∈ TB ∧ q.1.2 ≠ nm) ∧ covers ⟨x.1, x.2.1, x.2.2.1, x.2.2.2⟩ q.1.1 = true ∧ ¬ x.2.2.2 = 0 ∧ Cond.classLink yL_save.cls x.2.2.2 q.1.2 ∈ TB ∧ q.1.2 ∈ xcL ∧ x.2.2.1 = q.2.1 from List.forall_mem_cons.mpr ⟨⟨[], [], (0, 9, 12, 28), rfl, nil_all, rfl, by decide, t_3 126 rfl rfl, List.mem_of_getElem? (i := 2) rfl, rfl⟩, nil_all⟩) ((pc, E), h) (lk_mem hq)
theorem sc_L_save (l : Launch) (hl : l.stackTraces = false) : SConH l yL_save cL_save 4 (some .int) [(0, 9, 12, 28)] 8 132 1 Γ_L_save := scon_ofH mL_save cls_ok hl (by decide +kernel) rfl rfl (ok_L_save l hl) (by decide) rfl hc_L_save rfl b_L_save
def F_L_simulate (a1 : Int64) (a2 : Int32) (μ : Mem) : Out := cIH (F_X7_simulate a1 a2 μ) (fun E6 μ2 => if E6 = "java/lang/IllegalArgumentException" then (rI (1 : Int32) μ2) else (none)) (fun v5 μ2 => lt (sJ μ2 48 0 (Int32.toInt64 v5)) (fun μ8 => rI (0 : Int32) μ8))
def Γ_L_simulate : Gam := fun as μ r μ' => ∃ (a1 : Int64) (a2 : Int32), as = [.ref 0, .long a1, .int a2, .ref 48] ∧ F_L_simulate a1 a2 μ = some (r, μ')
def mL_simulate : MI := (cL_simulate, [(76, (1, 2, 1, 5, Γ_X7_simulate))], [], [], [], [], [((6, "java/lang/IllegalArgumentException"), 14, 5)], none, (some .int))
set_option maxHeartbeats 4000000 in
theorem b_L_simulate : ∀ as μ r μ', Γ_L_simulate as μ r μ' → (elvL as).length ≤ 6 ∧ G mL_simulate (Qe r μ') 0 (elv as 6) [] μ 1 := by
  intro as μ r μ' h
  obtain ⟨a1, a2, rfl, h⟩ := h
  refine ⟨Nat.le_of_ble_eq_true rfl, ?_⟩
  show G mL_simulate (Qe r μ') 0 [some (.ref 0), some (.long a1), none, some (.int a2), some (.ref 48), none] [] μ 1
  unfold F_L_simulate at h
  have hb9 : 1 ≤ 1 := Nat.le_refl _
  refine e_aload dL_simulate_0 rfl ?_
  refine e_iconst dL_simulate_2 ci_0 ?_
  refine e_aload_n dL_simulate_3 rfl ?_
  refine e_lload_n dL_simulate_4 rfl ?_
  refine e_iload_n dL_simulate_5 rfl ?_
  refine cIH_go h (fun E6 μ2 hc1 h => ?_) (fun v5 μ2 hc1 h => ?_)
  · by_cases hE7 : E6 = "java/lang/IllegalArgumentException"
    · rw [if_pos hE7] at h
      subst hE7
      refine e_VH [.long a1, .int a2] [.int (0 : Int32), .ref 48] [some (.ref 0), some (.long a1), none, some (.int a2), some (.ref 48), none] dL_simulate_6 rfl rfl rfl rfl (by decide) (Nat.le_of_ble_eq_true rfl) (by omega) ⟨a1, a2, rfl, hc1⟩ (by decide +kernel) (Nat.le_of_ble_eq_true rfl) (Or.inl ⟨dL_simulate_14, rfl⟩) rfl ?_
      refine e_iconst dL_simulate_16 ci_1 ?_
      exact e_iret .int dL_simulate_17 rfl rfl (ret_eq h)
    rw [if_neg hE7] at h
    exact nomatch h
  · refine e_VI [.long a1, .int a2] [.int (0 : Int32), .ref 48] dL_simulate_6 rfl rfl rfl rfl (by decide) (Nat.le_of_ble_eq_true rfl) (by omega) ⟨a1, a2, rfl, hc1⟩ ?_
    refine e_i2l dL_simulate_9 ?_
    refine e_lastore (n := 1) dL_simulate_10 (by decide) rfl (by decide : inb (0 : Int32) 1) ?_
    refine e_naM (e := sJ μ2 48 0 (Int32.toInt64 v5)) h (fun μ8 eμ8 h => ?_)
    refine e_goto (tgt := 18) dL_simulate_11 rfl ?_
    refine e_iconst dL_simulate_18 ci_0 ?_
    exact e_iret .int dL_simulate_19 rfl rfl (ret_eq h)
set_option maxRecDepth 20000 in
theorem ok_L_simulate (l : Launch) (hl : l.stackTraces = false) : MOK l yL_simulate.cls 7 151 mL_simulate := ⟨lk_all (List.forall_mem_cons.mpr ⟨⟨yX7_simulate, cX7_simulate, 9, (some .int), 6, 123, by decide, by decide, t_1 1 rfl rfl, hd_X7_simulate, Or.inr (Or.inl ⟨rfl, sc_X7_simulate l hl, t_4 135 rfl rfl, t_4 132 rfl rfl, t_4 133 rfl rfl, _, rfl, t_4 134 rfl rfl⟩)⟩, nil_all⟩), fun ix ci j h => lk_all (P := fun ix q => FldOK yL_simulate.cls ix q.1 q.2) (nil_all) ix (ci, j) h, lk_all (nil_all), lk_all (nil_all), lk_all (nil_all)⟩
theorem hd_L_simulate : CallHd yL_simulate 4 := ⟨by decide +kernel, by decide +kernel, by decide +kernel⟩
theorem hc_L_simulate : HC yL_simulate.cls [(0, 11, 14, 13)] mL_simulate := fun pc E h hq => (show ∀ q ∈ mHnd mL_simulate, ∃ (pre suf : List (Nat × Nat × Nat × Nat)) (x : Nat × Nat × Nat × Nat), [(0, 11, 14, 13)] = pre ++ x :: suf ∧ (∀ z ∈ pre, ¬ z.2.2.2 = 0 ∧ ∃ nm ∈ xcL, Cond.classLink yL_simulate.cls z.2.2.2 nm ∈ TB ∧ q.1.2 ≠ nm) ∧ covers ⟨x.1, x.2.1, x.2.2.1, x.2.2.2⟩ q.1.1 = true ∧ ¬ x.2.2.2 = 0 ∧ Cond.classLink yL_simulate.cls x.2.2.2 q.1.2 ∈ TB ∧ q.1.2 ∈ xcL ∧ x.2.2.1 = q.2.1 from List.forall_mem_cons.mpr ⟨⟨[], [], (0, 11, 14, 13), rfl, nil_all, rfl, by decide, t_2 209 rfl rfl, List.mem_of_getElem? (i := 0) rfl, rfl⟩, nil_all⟩) ((pc, E), h) (lk_mem hq)
theorem sc_L_simulate (l : Launch) (hl : l.stackTraces = false) : SConH l yL_simulate cL_simulate 6 (some .int) [(0, 11, 14, 13)] 7 151 1 Γ_L_simulate := scon_ofH mL_simulate cls_ok hl (by decide +kernel) rfl rfl (ok_L_simulate l hl) (by decide) rfl hc_L_simulate rfl b_L_simulate
def F_L_solve (a1 : Int32) (μ : Mem) : Out := cIH (F_X7_solve a1 μ) (fun E6 μ2 => if E6 = "java/lang/IllegalArgumentException" then (rI (1 : Int32) μ2) else (if E6 = "java/lang/IllegalStateException" then (rI (2 : Int32) μ2) else (none))) (fun v5 μ2 => lt (sJ μ2 48 0 (Int32.toInt64 v5)) (fun μ9 => rI (0 : Int32) μ9))
def Γ_L_solve : Gam := fun as μ r μ' => ∃ (a1 : Int32), as = [.ref 0, .int a1, .ref 48] ∧ F_L_solve a1 μ = some (r, μ')
def mL_solve : MI := (cL_solve, [(60, (1, 1, 1, 5, Γ_X7_solve))], [], [], [], [], [((4, "java/lang/IllegalArgumentException"), 12, 3), ((4, "java/lang/IllegalStateException"), 15, 3)], none, (some .int))
set_option maxHeartbeats 4000000 in
theorem b_L_solve : ∀ as μ r μ', Γ_L_solve as μ r μ' → (elvL as).length ≤ 4 ∧ G mL_solve (Qe r μ') 0 (elv as 4) [] μ 1 := by
  intro as μ r μ' h
  obtain ⟨a1, rfl, h⟩ := h
  refine ⟨Nat.le_of_ble_eq_true rfl, ?_⟩
  show G mL_solve (Qe r μ') 0 [some (.ref 0), some (.int a1), some (.ref 48), none] [] μ 1
  unfold F_L_solve at h
  have hb9 : 1 ≤ 1 := Nat.le_refl _
  refine e_aload_n dL_solve_0 rfl ?_
  refine e_iconst dL_solve_1 ci_0 ?_
  refine e_aload_n dL_solve_2 rfl ?_
  refine e_iload_n dL_solve_3 rfl ?_
  refine cIH_go h (fun E6 μ2 hc1 h => ?_) (fun v5 μ2 hc1 h => ?_)
  · by_cases hE7 : E6 = "java/lang/IllegalArgumentException"
    · rw [if_pos hE7] at h
      subst hE7
      refine e_VH [.int a1] [.int (0 : Int32), .ref 48] [some (.ref 0), some (.int a1), some (.ref 48), none] dL_solve_4 rfl rfl rfl rfl (by decide) (Nat.le_of_ble_eq_true rfl) (by omega) ⟨a1, rfl, hc1⟩ (by decide +kernel) (Nat.le_of_ble_eq_true rfl) (Or.inr ⟨3, rfl, dL_solve_12, rfl⟩) rfl ?_
      refine e_iconst dL_solve_13 ci_1 ?_
      exact e_iret .int dL_solve_14 rfl rfl (ret_eq h)
    rw [if_neg hE7] at h
    by_cases hE8 : E6 = "java/lang/IllegalStateException"
    · rw [if_pos hE8] at h
      subst hE8
      refine e_VH [.int a1] [.int (0 : Int32), .ref 48] [some (.ref 0), some (.int a1), some (.ref 48), none] dL_solve_4 rfl rfl rfl rfl (by decide) (Nat.le_of_ble_eq_true rfl) (by omega) ⟨a1, rfl, hc1⟩ (by decide +kernel) (Nat.le_of_ble_eq_true rfl) (Or.inr ⟨3, rfl, dL_solve_15, rfl⟩) rfl ?_
      refine e_iconst dL_solve_16 ci_2 ?_
      exact e_iret .int dL_solve_17 rfl rfl (ret_eq h)
    rw [if_neg hE8] at h
    exact nomatch h
  · refine e_VI [.int a1] [.int (0 : Int32), .ref 48] dL_solve_4 rfl rfl rfl rfl (by decide) (Nat.le_of_ble_eq_true rfl) (by omega) ⟨a1, rfl, hc1⟩ ?_
    refine e_i2l dL_solve_7 ?_
    refine e_lastore (n := 1) dL_solve_8 (by decide) rfl (by decide : inb (0 : Int32) 1) ?_
    refine e_naM (e := sJ μ2 48 0 (Int32.toInt64 v5)) h (fun μ9 eμ9 h => ?_)
    refine e_goto (tgt := 18) dL_solve_9 rfl ?_
    refine e_iconst dL_solve_18 ci_0 ?_
    exact e_iret .int dL_solve_19 rfl rfl (ret_eq h)
set_option maxRecDepth 20000 in
theorem ok_L_solve (l : Launch) (hl : l.stackTraces = false) : MOK l yL_solve.cls 7 162 mL_solve := ⟨lk_all (List.forall_mem_cons.mpr ⟨⟨yX7_solve, cX7_solve, 2, (some .int), 6, 141, by decide, by decide, t_1 1 rfl rfl, hd_X7_solve, Or.inr (Or.inl ⟨rfl, sc_X7_solve l hl, t_4 47 rfl rfl, t_4 44 rfl rfl, t_4 45 rfl rfl, _, rfl, t_4 46 rfl rfl⟩)⟩, nil_all⟩), fun ix ci j h => lk_all (P := fun ix q => FldOK yL_solve.cls ix q.1 q.2) (nil_all) ix (ci, j) h, lk_all (nil_all), lk_all (nil_all), lk_all (nil_all)⟩
theorem hd_L_solve : CallHd yL_solve 3 := ⟨by decide +kernel, by decide +kernel, by decide +kernel⟩
theorem hc_L_solve : HC yL_solve.cls [(0, 9, 12, 13), (0, 9, 15, 15)] mL_solve := fun pc E h hq => (show ∀ q ∈ mHnd mL_solve, ∃ (pre suf : List (Nat × Nat × Nat × Nat)) (x : Nat × Nat × Nat × Nat), [(0, 9, 12, 13), (0, 9, 15, 15)] = pre ++ x :: suf ∧ (∀ z ∈ pre, ¬ z.2.2.2 = 0 ∧ ∃ nm ∈ xcL, Cond.classLink yL_solve.cls z.2.2.2 nm ∈ TB ∧ q.1.2 ≠ nm) ∧ covers ⟨x.1, x.2.1, x.2.2.1, x.2.2.2⟩ q.1.1 = true ∧ ¬ x.2.2.2 = 0 ∧ Cond.classLink yL_solve.cls x.2.2.2 q.1.2 ∈ TB ∧ q.1.2 ∈ xcL ∧ x.2.2.1 = q.2.1 from List.forall_mem_cons.mpr ⟨⟨[], [(0, 9, 15, 15)], (0, 9, 12, 13), rfl, nil_all, rfl, by decide, t_2 209 rfl rfl, List.mem_of_getElem? (i := 0) rfl, rfl⟩, List.forall_mem_cons.mpr ⟨⟨[(0, 9, 12, 13)], [], (0, 9, 15, 15), rfl, List.forall_mem_cons.mpr ⟨⟨by decide, "java/lang/IllegalArgumentException", List.mem_of_getElem? (i := 0) rfl, t_2 209 rfl rfl, by decide⟩, nil_all⟩, rfl, by decide, t_2 210 rfl rfl, List.mem_of_getElem? (i := 1) rfl, rfl⟩, nil_all⟩⟩) ((pc, E), h) (lk_mem hq)
theorem sc_L_solve (l : Launch) (hl : l.stackTraces = false) : SConH l yL_solve cL_solve 4 (some .int) [(0, 9, 12, 13), (0, 9, 15, 15)] 7 162 1 Γ_L_solve := scon_ofH mL_solve cls_ok hl (by decide +kernel) rfl rfl (ok_L_solve l hl) (by decide) rfl hc_L_solve rfl b_L_solve
def F_L_undo (μ : Mem) : Out := cIH (F_X7_undo μ) (fun E6 μ2 => if E6 = "java/lang/IllegalStateException" then (rI (1 : Int32) μ2) else (none)) (fun v5 μ2 => lt (sJ μ2 48 0 (Int32.toInt64 v5)) (fun μ8 => rI (0 : Int32) μ8))
def Γ_L_undo : Gam := fun as μ r μ' => as = [.ref 0, .ref 48] ∧ F_L_undo μ = some (r, μ')
def mL_undo : MI := (cL_undo, [(66, (1, 0, 1, 5, Γ_X7_undo))], [], [], [], [], [((3, "java/lang/IllegalStateException"), 11, 2)], none, (some .int))
set_option maxHeartbeats 4000000 in
theorem b_L_undo : ∀ as μ r μ', Γ_L_undo as μ r μ' → (elvL as).length ≤ 3 ∧ G mL_undo (Qe r μ') 0 (elv as 3) [] μ 1 := by
  intro as μ r μ' h
  obtain ⟨rfl, h⟩ := h
  refine ⟨Nat.le_of_ble_eq_true rfl, ?_⟩
  show G mL_undo (Qe r μ') 0 [some (.ref 0), some (.ref 48), none] [] μ 1
  unfold F_L_undo at h
  have hb9 : 1 ≤ 1 := Nat.le_refl _
  refine e_aload_n dL_undo_0 rfl ?_
  refine e_iconst dL_undo_1 ci_0 ?_
  refine e_aload_n dL_undo_2 rfl ?_
  refine cIH_go h (fun E6 μ2 hc1 h => ?_) (fun v5 μ2 hc1 h => ?_)
  · by_cases hE7 : E6 = "java/lang/IllegalStateException"
    · rw [if_pos hE7] at h
      subst hE7
      refine e_VH [] [.int (0 : Int32), .ref 48] [some (.ref 0), some (.ref 48), none] dL_undo_3 rfl rfl rfl rfl (by decide) (Nat.le_of_ble_eq_true rfl) (by omega) ⟨rfl, hc1⟩ (by decide +kernel) (Nat.le_of_ble_eq_true rfl) (Or.inr ⟨2, rfl, dL_undo_11, rfl⟩) rfl ?_
      refine e_iconst dL_undo_12 ci_1 ?_
      exact e_iret .int dL_undo_13 rfl rfl (ret_eq h)
    rw [if_neg hE7] at h
    exact nomatch h
  · refine e_VI [] [.int (0 : Int32), .ref 48] dL_undo_3 rfl rfl rfl rfl (by decide) (Nat.le_of_ble_eq_true rfl) (by omega) ⟨rfl, hc1⟩ ?_
    refine e_i2l dL_undo_6 ?_
    refine e_lastore (n := 1) dL_undo_7 (by decide) rfl (by decide : inb (0 : Int32) 1) ?_
    refine e_naM (e := sJ μ2 48 0 (Int32.toInt64 v5)) h (fun μ8 eμ8 h => ?_)
    refine e_goto (tgt := 14) dL_undo_8 rfl ?_
    refine e_iconst dL_undo_14 ci_0 ?_
    exact e_iret .int dL_undo_15 rfl rfl (ret_eq h)
set_option maxRecDepth 20000 in
theorem ok_L_undo (l : Launch) (hl : l.stackTraces = false) : MOK l yL_undo.cls 7 110 mL_undo := ⟨lk_all (List.forall_mem_cons.mpr ⟨⟨yX7_undo, cX7_undo, 1, (some .int), 6, 90, by decide, by decide, t_1 1 rfl rfl, hd_X7_undo, Or.inr (Or.inl ⟨rfl, sc_X7_undo l hl, t_4 72 rfl rfl, t_4 69 rfl rfl, t_4 70 rfl rfl, _, rfl, t_4 71 rfl rfl⟩)⟩, nil_all⟩), fun ix ci j h => lk_all (P := fun ix q => FldOK yL_undo.cls ix q.1 q.2) (nil_all) ix (ci, j) h, lk_all (nil_all), lk_all (nil_all), lk_all (nil_all)⟩
theorem hd_L_undo : CallHd yL_undo 2 := ⟨by decide +kernel, by decide +kernel, by decide +kernel⟩
theorem hc_L_undo : HC yL_undo.cls [(0, 8, 11, 15)] mL_undo := fun pc E h hq => (show ∀ q ∈ mHnd mL_undo, ∃ (pre suf : List (Nat × Nat × Nat × Nat)) (x : Nat × Nat × Nat × Nat), [(0, 8, 11, 15)] = pre ++ x :: suf ∧ (∀ z ∈ pre, ¬ z.2.2.2 = 0 ∧ ∃ nm ∈ xcL, Cond.classLink yL_undo.cls z.2.2.2 nm ∈ TB ∧ q.1.2 ≠ nm) ∧ covers ⟨x.1, x.2.1, x.2.2.1, x.2.2.2⟩ q.1.1 = true ∧ ¬ x.2.2.2 = 0 ∧ Cond.classLink yL_undo.cls x.2.2.2 q.1.2 ∈ TB ∧ q.1.2 ∈ xcL ∧ x.2.2.1 = q.2.1 from List.forall_mem_cons.mpr ⟨⟨[], [], (0, 8, 11, 15), rfl, nil_all, rfl, by decide, t_2 210 rfl rfl, List.mem_of_getElem? (i := 1) rfl, rfl⟩, nil_all⟩) ((pc, E), h) (lk_mem hq)
theorem sc_L_undo (l : Launch) (hl : l.stackTraces = false) : SConH l yL_undo cL_undo 3 (some .int) [(0, 8, 11, 15)] 7 110 1 Γ_L_undo := scon_ofH mL_undo cls_ok hl (by decide +kernel) rfl rfl (ok_L_undo l hl) (by decide) rfl hc_L_undo rfl b_L_undo
def F_L_want (a1 : Int32) (a2 : Int32) (μ : Mem) : Out := cIH (F_X7_want a1 a2 μ) (fun E6 μ2 => if E6 = "java/lang/IndexOutOfBoundsException" then (rI (1 : Int32) μ2) else (if E6 = "java/lang/IllegalArgumentException" then (rI (2 : Int32) μ2) else (none))) (fun v5 μ2 => lt (sJ μ2 48 0 (Int32.toInt64 v5)) (fun μ9 => rI (0 : Int32) μ9))
def Γ_L_want : Gam := fun as μ r μ' => ∃ (a1 : Int32) (a2 : Int32), as = [.ref 0, .int a1, .int a2, .ref 48] ∧ F_L_want a1 a2 μ = some (r, μ')
def mL_want : MI := (cL_want, [(53, (1, 2, 2, 5, Γ_X7_want))], [], [], [], [], [((5, "java/lang/IllegalArgumentException"), 17, 4), ((5, "java/lang/IndexOutOfBoundsException"), 13, 4)], none, (some .int))
set_option maxHeartbeats 4000000 in
theorem b_L_want : ∀ as μ r μ', Γ_L_want as μ r μ' → (elvL as).length ≤ 5 ∧ G mL_want (Qe r μ') 0 (elv as 5) [] μ 2 := by
  intro as μ r μ' h
  obtain ⟨a1, a2, rfl, h⟩ := h
  refine ⟨Nat.le_of_ble_eq_true rfl, ?_⟩
  show G mL_want (Qe r μ') 0 [some (.ref 0), some (.int a1), some (.int a2), some (.ref 48), none] [] μ 2
  unfold F_L_want at h
  have hb9 : 2 ≤ 2 := Nat.le_refl _
  refine e_aload_n dL_want_0 rfl ?_
  refine e_iconst dL_want_1 ci_0 ?_
  refine e_aload_n dL_want_2 rfl ?_
  refine e_iload_n dL_want_3 rfl ?_
  refine e_iload_n dL_want_4 rfl ?_
  refine cIH_go h (fun E6 μ2 hc1 h => ?_) (fun v5 μ2 hc1 h => ?_)
  · by_cases hE7 : E6 = "java/lang/IndexOutOfBoundsException"
    · rw [if_pos hE7] at h
      subst hE7
      refine e_VH [.int a1, .int a2] [.int (0 : Int32), .ref 48] [some (.ref 0), some (.int a1), some (.int a2), some (.ref 48), none] dL_want_5 rfl rfl rfl rfl (by decide) (Nat.le_of_ble_eq_true rfl) (by omega) ⟨a1, a2, rfl, hc1⟩ (by decide +kernel) (Nat.le_of_ble_eq_true rfl) (Or.inl ⟨dL_want_13, rfl⟩) rfl ?_
      refine e_iconst dL_want_15 ci_1 ?_
      exact e_iret .int dL_want_16 rfl rfl (ret_eq h)
    rw [if_neg hE7] at h
    by_cases hE8 : E6 = "java/lang/IllegalArgumentException"
    · rw [if_pos hE8] at h
      subst hE8
      refine e_VH [.int a1, .int a2] [.int (0 : Int32), .ref 48] [some (.ref 0), some (.int a1), some (.int a2), some (.ref 48), none] dL_want_5 rfl rfl rfl rfl (by decide) (Nat.le_of_ble_eq_true rfl) (by omega) ⟨a1, a2, rfl, hc1⟩ (by decide +kernel) (Nat.le_of_ble_eq_true rfl) (Or.inl ⟨dL_want_17, rfl⟩) rfl ?_
      refine e_iconst dL_want_19 ci_2 ?_
      exact e_iret .int dL_want_20 rfl rfl (ret_eq h)
    rw [if_neg hE8] at h
    exact nomatch h
  · refine e_VI [.int a1, .int a2] [.int (0 : Int32), .ref 48] dL_want_5 rfl rfl rfl rfl (by decide) (Nat.le_of_ble_eq_true rfl) (by omega) ⟨a1, a2, rfl, hc1⟩ ?_
    refine e_i2l dL_want_8 ?_
    refine e_lastore (n := 1) dL_want_9 (by decide) rfl (by decide : inb (0 : Int32) 1) ?_
    refine e_naM (e := sJ μ2 48 0 (Int32.toInt64 v5)) h (fun μ9 eμ9 h => ?_)
    refine e_goto (tgt := 21) dL_want_10 rfl ?_
    refine e_iconst dL_want_21 ci_0 ?_
    exact e_iret .int dL_want_22 rfl rfl (ret_eq h)
set_option maxRecDepth 20000 in
theorem ok_L_want (l : Launch) (hl : l.stackTraces = false) : MOK l yL_want.cls 8 133 mL_want := ⟨lk_all (List.forall_mem_cons.mpr ⟨⟨yX7_want, cX7_want, 3, (some .int), 7, 111, by decide, by decide, t_1 1 rfl rfl, hd_X7_want, Or.inr (Or.inl ⟨rfl, sc_X7_want l hl, t_4 27 rfl rfl, t_4 24 rfl rfl, t_4 25 rfl rfl, _, rfl, t_4 26 rfl rfl⟩)⟩, nil_all⟩), fun ix ci j h => lk_all (P := fun ix q => FldOK yL_want.cls ix q.1 q.2) (nil_all) ix (ci, j) h, lk_all (nil_all), lk_all (nil_all), lk_all (nil_all)⟩
theorem hd_L_want : CallHd yL_want 4 := ⟨by decide +kernel, by decide +kernel, by decide +kernel⟩
theorem hc_L_want : HC yL_want.cls [(0, 10, 13, 28), (0, 10, 17, 13)] mL_want := fun pc E h hq => (show ∀ q ∈ mHnd mL_want, ∃ (pre suf : List (Nat × Nat × Nat × Nat)) (x : Nat × Nat × Nat × Nat), [(0, 10, 13, 28), (0, 10, 17, 13)] = pre ++ x :: suf ∧ (∀ z ∈ pre, ¬ z.2.2.2 = 0 ∧ ∃ nm ∈ xcL, Cond.classLink yL_want.cls z.2.2.2 nm ∈ TB ∧ q.1.2 ≠ nm) ∧ covers ⟨x.1, x.2.1, x.2.2.1, x.2.2.2⟩ q.1.1 = true ∧ ¬ x.2.2.2 = 0 ∧ Cond.classLink yL_want.cls x.2.2.2 q.1.2 ∈ TB ∧ q.1.2 ∈ xcL ∧ x.2.2.1 = q.2.1 from List.forall_mem_cons.mpr ⟨⟨[(0, 10, 13, 28)], [], (0, 10, 17, 13), rfl, List.forall_mem_cons.mpr ⟨⟨by decide, "java/lang/IndexOutOfBoundsException", List.mem_of_getElem? (i := 2) rfl, t_3 126 rfl rfl, by decide⟩, nil_all⟩, rfl, by decide, t_2 209 rfl rfl, List.mem_of_getElem? (i := 0) rfl, rfl⟩, List.forall_mem_cons.mpr ⟨⟨[], [(0, 10, 17, 13)], (0, 10, 13, 28), rfl, nil_all, rfl, by decide, t_3 126 rfl rfl, List.mem_of_getElem? (i := 2) rfl, rfl⟩, nil_all⟩⟩) ((pc, E), h) (lk_mem hq)
theorem sc_L_want (l : Launch) (hl : l.stackTraces = false) : SConH l yL_want cL_want 5 (some .int) [(0, 10, 13, 28), (0, 10, 17, 13)] 8 133 2 Γ_L_want := scon_ofH mL_want cls_ok hl (by decide +kernel) rfl rfl (ok_L_want l hl) (by decide) rfl hc_L_want rfl b_L_want
def F_L_whyNot (a1 : Int32) (μ : Mem) : Out := cIH (F_X7_whyNot a1 μ) (fun E6 μ2 => if E6 = "java/lang/IndexOutOfBoundsException" then (rI (1 : Int32) μ2) else (none)) (fun v5 μ2 => lt (sJ μ2 48 0 (Int32.toInt64 v5)) (fun μ8 => rI (0 : Int32) μ8))
def Γ_L_whyNot : Gam := fun as μ r μ' => ∃ (a1 : Int32), as = [.ref 0, .int a1, .ref 48] ∧ F_L_whyNot a1 μ = some (r, μ')
def mL_whyNot : MI := (cL_whyNot, [(40, (1, 1, 1, 5, Γ_X7_whyNot))], [], [], [], [], [((4, "java/lang/IndexOutOfBoundsException"), 12, 3)], none, (some .int))
set_option maxHeartbeats 4000000 in
theorem b_L_whyNot : ∀ as μ r μ', Γ_L_whyNot as μ r μ' → (elvL as).length ≤ 4 ∧ G mL_whyNot (Qe r μ') 0 (elv as 4) [] μ 1 := by
  intro as μ r μ' h
  obtain ⟨a1, rfl, h⟩ := h
  refine ⟨Nat.le_of_ble_eq_true rfl, ?_⟩
  show G mL_whyNot (Qe r μ') 0 [some (.ref 0), some (.int a1), some (.ref 48), none] [] μ 1
  unfold F_L_whyNot at h
  have hb9 : 1 ≤ 1 := Nat.le_refl _
  refine e_aload_n dL_whyNot_0 rfl ?_
  refine e_iconst dL_whyNot_1 ci_0 ?_
  refine e_aload_n dL_whyNot_2 rfl ?_
  refine e_iload_n dL_whyNot_3 rfl ?_
  refine cIH_go h (fun E6 μ2 hc1 h => ?_) (fun v5 μ2 hc1 h => ?_)
  · by_cases hE7 : E6 = "java/lang/IndexOutOfBoundsException"
    · rw [if_pos hE7] at h
      subst hE7
      refine e_VH [.int a1] [.int (0 : Int32), .ref 48] [some (.ref 0), some (.int a1), some (.ref 48), none] dL_whyNot_4 rfl rfl rfl rfl (by decide) (Nat.le_of_ble_eq_true rfl) (by omega) ⟨a1, rfl, hc1⟩ (by decide +kernel) (Nat.le_of_ble_eq_true rfl) (Or.inr ⟨3, rfl, dL_whyNot_12, rfl⟩) rfl ?_
      refine e_iconst dL_whyNot_13 ci_1 ?_
      exact e_iret .int dL_whyNot_14 rfl rfl (ret_eq h)
    rw [if_neg hE7] at h
    exact nomatch h
  · refine e_VI [.int a1] [.int (0 : Int32), .ref 48] dL_whyNot_4 rfl rfl rfl rfl (by decide) (Nat.le_of_ble_eq_true rfl) (by omega) ⟨a1, rfl, hc1⟩ ?_
    refine e_i2l dL_whyNot_7 ?_
    refine e_lastore (n := 1) dL_whyNot_8 (by decide) rfl (by decide : inb (0 : Int32) 1) ?_
    refine e_naM (e := sJ μ2 48 0 (Int32.toInt64 v5)) h (fun μ8 eμ8 h => ?_)
    refine e_goto (tgt := 15) dL_whyNot_9 rfl ?_
    refine e_iconst dL_whyNot_15 ci_0 ?_
    exact e_iret .int dL_whyNot_16 rfl rfl (ret_eq h)
set_option maxRecDepth 20000 in
theorem ok_L_whyNot (l : Launch) (hl : l.stackTraces = false) : MOK l yL_whyNot.cls 8 135 mL_whyNot := ⟨lk_all (List.forall_mem_cons.mpr ⟨⟨yX7_whyNot, cX7_whyNot, 5, (some .int), 7, 111, by decide, by decide, t_1 1 rfl rfl, hd_X7_whyNot, Or.inr (Or.inl ⟨rfl, sc_X7_whyNot l hl, t_3 227 rfl rfl, t_3 224 rfl rfl, t_3 225 rfl rfl, _, rfl, t_3 226 rfl rfl⟩)⟩, nil_all⟩), fun ix ci j h => lk_all (P := fun ix q => FldOK yL_whyNot.cls ix q.1 q.2) (nil_all) ix (ci, j) h, lk_all (nil_all), lk_all (nil_all), lk_all (nil_all)⟩
theorem hd_L_whyNot : CallHd yL_whyNot 3 := ⟨by decide +kernel, by decide +kernel, by decide +kernel⟩
theorem hc_L_whyNot : HC yL_whyNot.cls [(0, 9, 12, 28)] mL_whyNot := fun pc E h hq => (show ∀ q ∈ mHnd mL_whyNot, ∃ (pre suf : List (Nat × Nat × Nat × Nat)) (x : Nat × Nat × Nat × Nat), [(0, 9, 12, 28)] = pre ++ x :: suf ∧ (∀ z ∈ pre, ¬ z.2.2.2 = 0 ∧ ∃ nm ∈ xcL, Cond.classLink yL_whyNot.cls z.2.2.2 nm ∈ TB ∧ q.1.2 ≠ nm) ∧ covers ⟨x.1, x.2.1, x.2.2.1, x.2.2.2⟩ q.1.1 = true ∧ ¬ x.2.2.2 = 0 ∧ Cond.classLink yL_whyNot.cls x.2.2.2 q.1.2 ∈ TB ∧ q.1.2 ∈ xcL ∧ x.2.2.1 = q.2.1 from List.forall_mem_cons.mpr ⟨⟨[], [], (0, 9, 12, 28), rfl, nil_all, rfl, by decide, t_3 126 rfl rfl, List.mem_of_getElem? (i := 2) rfl, rfl⟩, nil_all⟩) ((pc, E), h) (lk_mem hq)
theorem sc_L_whyNot (l : Launch) (hl : l.stackTraces = false) : SConH l yL_whyNot cL_whyNot 4 (some .int) [(0, 9, 12, 28)] 8 135 1 Γ_L_whyNot := scon_ofH mL_whyNot cls_ok hl (by decide +kernel) rfl rfl (ok_L_whyNot l hl) (by decide) rfl hc_L_whyNot rfl b_L_whyNot
theorem e_laload0 {M : MI} {Q : Res → Mem → Prop} {pc : Nat} {lv : LV} {rest : List Value} {μ : Mem} {b : Nat} {k : Nat} {n : Nat} (hd : decode M.1 pc = .ok (.laload, 1)) (c1 : k < NP) (c2 : sh k = .inr (1, n)) (c3 : inb (0 : Int32) n) (kk : G M Q (pc + 1) (lv) (.long (μ.2.1 k 0) :: rest) (μ) b) : G M Q pc lv (.int (0 : Int32) :: .ref k :: rest) μ b := e_laload hd c1 c2 c3 kk
def f_L_law_840 (L : Nat) (xs : Nat → Int32) (k23 : Int32 → Mem → Out) (x4 : Int32) (s0 : Int64) (s1 : Int64) (μ : Mem) : Out := if (lg_cmp s1 s0) = 0 then (lt (x4 + (5 : Int32)) (fun v624 => k23 v624 μ)) else (rI (0 : Int32) μ)
def f_L_law_806 (L : Nat) (xs : Nat → Int32) (k23 : Int32 → Mem → Out) (x4 : Int32) (x5 : Int32) (s0 : Int32) (s1 : Int32) (s2 : Int32) (μ : Mem) : Out := cI (F_X8_fill s2 s1 s0 μ) (fun v592 μ589 => cI (F_X8_thrown μ589) (fun v597 μ594 => if v597 = x5 then (if x5 = 0 then (if v592 = 0 then (f_L_law_840 L xs k23 x4 (0 : Int64) (μ594.2.1 48 0) μ594) else (f_L_law_840 L xs k23 x4 (1 : Int64) (μ594.2.1 48 0) μ594)) else (lt (x4 + (5 : Int32)) (fun v600 => k23 v600 μ594))) else (rI (0 : Int32) μ594)))
def f_L_law_773 (L : Nat) (xs : Nat → Int32) (k23 : Int32 → Mem → Out) (x4 : Int32) (s0 : Int32) (s1 : Int32) (s2 : Int32) (μ : Mem) : Out := cI (F_L_fill s2 s1 s0 μ) (fun v567 μ564 => ck (inb (x4 + (1 : Int32)) L) (ck (inb (x4 + (2 : Int32)) L) (ck (inb (x4 + (3 : Int32)) L) (if (xs (Int32.toNatClampNeg (x4 + (3 : Int32)))) = 0 then (f_L_law_806 L xs k23 x4 v567 (0 : Int32) (xs (Int32.toNatClampNeg (x4 + (2 : Int32)))) (xs (Int32.toNatClampNeg (x4 + (1 : Int32)))) μ564) else (f_L_law_806 L xs k23 x4 v567 (1 : Int32) (xs (Int32.toNatClampNeg (x4 + (2 : Int32)))) (xs (Int32.toNatClampNeg (x4 + (1 : Int32)))) μ564)))))
def f_L_law_943 (L : Nat) (xs : Nat → Int32) (k23 : Int32 → Mem → Out) (x4 : Int32) (s0 : Int64) (s1 : Int64) (μ : Mem) : Out := if (lg_cmp s1 s0) = 0 then (lt (x4 + (5 : Int32)) (fun v626 => k23 v626 μ)) else (rI (0 : Int32) μ)
def f_L_law_909 (L : Nat) (xs : Nat → Int32) (k23 : Int32 → Mem → Out) (x4 : Int32) (x5 : Int32) (s0 : Int32) (s1 : Int32) (s2 : Int32) (μ : Mem) : Out := cI (F_X8_pin s2 s1 s0 μ) (fun v606 μ603 => cI (F_X8_thrown μ603) (fun v611 μ608 => if v611 = x5 then (if x5 = 0 then (if v606 = 0 then (f_L_law_943 L xs k23 x4 (0 : Int64) (μ608.2.1 48 0) μ608) else (f_L_law_943 L xs k23 x4 (1 : Int64) (μ608.2.1 48 0) μ608)) else (lt (x4 + (5 : Int32)) (fun v614 => k23 v614 μ608))) else (rI (0 : Int32) μ608)))
def f_L_law_876 (L : Nat) (xs : Nat → Int32) (k23 : Int32 → Mem → Out) (x4 : Int32) (s0 : Int32) (s1 : Int32) (s2 : Int32) (μ : Mem) : Out := cI (F_L_pin s2 s1 s0 μ) (fun v576 μ573 => ck (inb (x4 + (1 : Int32)) L) (ck (inb (x4 + (2 : Int32)) L) (ck (inb (x4 + (3 : Int32)) L) (if (xs (Int32.toNatClampNeg (x4 + (3 : Int32)))) = 0 then (f_L_law_909 L xs k23 x4 v576 (0 : Int32) (xs (Int32.toNatClampNeg (x4 + (2 : Int32)))) (xs (Int32.toNatClampNeg (x4 + (1 : Int32)))) μ573) else (f_L_law_909 L xs k23 x4 v576 (1 : Int32) (xs (Int32.toNatClampNeg (x4 + (2 : Int32)))) (xs (Int32.toNatClampNeg (x4 + (1 : Int32)))) μ573)))))
def f_L_law_1328 (L : Nat) (xs : Nat → Int32) (k23 : Int32 → Mem → Out) (x4 : Int32) (s0 : Int32) (s2 : Int32) (μ : Mem) : Out := cI (F_X8_sure s0 μ) (fun v620 μ617 => if s2 = v620 then (lt (x4 + (5 : Int32)) (fun v622 => k23 v622 μ617)) else (rI (0 : Int32) μ617))
def f_L_law_1310 (L : Nat) (xs : Nat → Int32) (k23 : Int32 → Mem → Out) (x4 : Int32) (s0 : Int32) (μ : Mem) : Out := cI (F_X7_sure s0 μ) (fun v585 μ582 => ck (inb (x4 + (1 : Int32)) L) (if (xs (Int32.toNatClampNeg (x4 + (1 : Int32)))) = 0 then (f_L_law_1328 L xs k23 x4 (0 : Int32) v585 μ582) else (f_L_law_1328 L xs k23 x4 (1 : Int32) v585 μ582)))
def f_L_law_23 (L : Nat) (xs : Nat → Int32) : Nat → Int32 → Mem → Out
  | 0, _, _ => none
  | n + 1, x4, μ => if ((Int32.ofNat L) - (5 : Int32)) < x4 then (rI (1 : Int32) μ) else (ck (inb x4 L) (if ((xs (Int32.toNatClampNeg x4)) &&& (31 : Int32)) = (0 : Int32) then (ck (inb (x4 + (1 : Int32)) L) (cI (F_L_append (xs (Int32.toNatClampNeg (x4 + (1 : Int32)))) μ) (fun v9 μ6 => ck (inb (x4 + (1 : Int32)) L) (cI (F_X8_append (xs (Int32.toNatClampNeg (x4 + (1 : Int32)))) μ6) (fun v15 μ12 => cI (F_X8_thrown μ12) (fun v20 μ17 => if v20 = v9 then (if v9 = 0 then (if (lg_cmp (μ17.2.1 48 0) (Int32.toInt64 v15)) = 0 then (lt (x4 + (5 : Int32)) (fun v25 => f_L_law_23 L xs n v25 μ17)) else (rI (0 : Int32) μ17)) else (lt (x4 + (5 : Int32)) (fun v23 => f_L_law_23 L xs n v23 μ17))) else (rI (0 : Int32) μ17))))))) else if ((xs (Int32.toNatClampNeg x4)) &&& (31 : Int32)) = (1 : Int32) then (cI (F_X7_clearText μ) (fun v31 μ28 => cI (F_X8_clearText μ28) (fun v36 μ33 => if v31 = v36 then (lt (x4 + (5 : Int32)) (fun v38 => f_L_law_23 L xs n v38 μ33)) else (rI (0 : Int32) μ33)))) else if ((xs (Int32.toNatClampNeg x4)) &&& (31 : Int32)) = (2 : Int32) then (cI (F_X7_errorPosition μ) (fun v44 μ41 => cI (F_X8_errorPosition μ41) (fun v49 μ46 => if v44 = v49 then (lt (x4 + (5 : Int32)) (fun v51 => f_L_law_23 L xs n v51 μ46)) else (rI (0 : Int32) μ46)))) else if ((xs (Int32.toNatClampNeg x4)) &&& (31 : Int32)) = (3 : Int32) then (cI (F_L_load μ) (fun v57 μ54 => cI (F_X8_load μ54) (fun v62 μ59 => cI (F_X8_thrown μ59) (fun v67 μ64 => if v67 = v57 then (if v57 = 0 then (if (lg_cmp (μ64.2.1 48 0) (Int32.toInt64 v62)) = 0 then (lt (x4 + (5 : Int32)) (fun v72 => f_L_law_23 L xs n v72 μ64)) else (rI (0 : Int32) μ64)) else (lt (x4 + (5 : Int32)) (fun v70 => f_L_law_23 L xs n v70 μ64))) else (rI (0 : Int32) μ64))))) else if ((xs (Int32.toNatClampNeg x4)) &&& (31 : Int32)) = (4 : Int32) then (ck (inb (x4 + (1 : Int32)) L) (cI (F_L_about (xs (Int32.toNatClampNeg (x4 + (1 : Int32)))) μ) (fun v79 μ76 => ck (inb (x4 + (1 : Int32)) L) (cI (F_X8_about (xs (Int32.toNatClampNeg (x4 + (1 : Int32)))) μ76) (fun v85 μ82 => cI (F_X8_thrown μ82) (fun v90 μ87 => if v90 = v79 then (if v79 = 0 then (if (lg_cmp (μ87.2.1 48 0) (Int32.toInt64 v85)) = 0 then (lt (x4 + (5 : Int32)) (fun v95 => f_L_law_23 L xs n v95 μ87)) else (rI (0 : Int32) μ87)) else (lt (x4 + (5 : Int32)) (fun v93 => f_L_law_23 L xs n v93 μ87))) else (rI (0 : Int32) μ87))))))) else if ((xs (Int32.toNatClampNeg x4)) &&& (31 : Int32)) = (5 : Int32) then (ck (inb (x4 + (1 : Int32)) L) (ck (inb (x4 + (2 : Int32)) L) (cI (F_L_line (xs (Int32.toNatClampNeg (x4 + (1 : Int32)))) (xs (Int32.toNatClampNeg (x4 + (2 : Int32)))) μ) (fun v103 μ100 => ck (inb (x4 + (1 : Int32)) L) (ck (inb (x4 + (2 : Int32)) L) (cI (F_X8_line (xs (Int32.toNatClampNeg (x4 + (1 : Int32)))) (xs (Int32.toNatClampNeg (x4 + (2 : Int32)))) μ100) (fun v110 μ107 => cI (F_X8_thrown μ107) (fun v115 μ112 => if v115 = v103 then (if v103 = 0 then (if (lg_cmp (μ112.2.1 48 0) (Int32.toInt64 v110)) = 0 then (lt (x4 + (5 : Int32)) (fun v120 => f_L_law_23 L xs n v120 μ112)) else (rI (0 : Int32) μ112)) else (lt (x4 + (5 : Int32)) (fun v118 => f_L_law_23 L xs n v118 μ112))) else (rI (0 : Int32) μ112))))))))) else if ((xs (Int32.toNatClampNeg x4)) &&& (31 : Int32)) = (6 : Int32) then (ck (inb (x4 + (1 : Int32)) L) (ck (inb (x4 + (2 : Int32)) L) (ck (inb (x4 + (3 : Int32)) L) (cI (F_L_cell (xs (Int32.toNatClampNeg (x4 + (1 : Int32)))) (xs (Int32.toNatClampNeg (x4 + (2 : Int32)))) (xs (Int32.toNatClampNeg (x4 + (3 : Int32)))) μ) (fun v129 μ126 => ck (inb (x4 + (1 : Int32)) L) (ck (inb (x4 + (2 : Int32)) L) (ck (inb (x4 + (3 : Int32)) L) (cI (F_X8_cell (xs (Int32.toNatClampNeg (x4 + (1 : Int32)))) (xs (Int32.toNatClampNeg (x4 + (2 : Int32)))) (xs (Int32.toNatClampNeg (x4 + (3 : Int32)))) μ126) (fun v137 μ134 => cI (F_X8_thrown μ134) (fun v142 μ139 => if v142 = v129 then (if v129 = 0 then (if (lg_cmp (μ139.2.1 48 0) (Int32.toInt64 v137)) = 0 then (lt (x4 + (5 : Int32)) (fun v147 => f_L_law_23 L xs n v147 μ139)) else (rI (0 : Int32) μ139)) else (lt (x4 + (5 : Int32)) (fun v145 => f_L_law_23 L xs n v145 μ139))) else (rI (0 : Int32) μ139))))))))))) else if ((xs (Int32.toNatClampNeg x4)) &&& (31 : Int32)) = (7 : Int32) then (ck (inb (x4 + (1 : Int32)) L) (ck (inb (x4 + (2 : Int32)) L) (cI (F_L_piece (xs (Int32.toNatClampNeg (x4 + (1 : Int32)))) (xs (Int32.toNatClampNeg (x4 + (2 : Int32)))) μ) (fun v155 μ152 => ck (inb (x4 + (1 : Int32)) L) (ck (inb (x4 + (2 : Int32)) L) (cI (F_X8_piece (xs (Int32.toNatClampNeg (x4 + (1 : Int32)))) (xs (Int32.toNatClampNeg (x4 + (2 : Int32)))) μ152) (fun v162 μ159 => cI (F_X8_thrown μ159) (fun v167 μ164 => if v167 = v155 then (if v155 = 0 then (if (lg_cmp (μ164.2.1 48 0) (Int32.toInt64 v162)) = 0 then (lt (x4 + (5 : Int32)) (fun v172 => f_L_law_23 L xs n v172 μ164)) else (rI (0 : Int32) μ164)) else (lt (x4 + (5 : Int32)) (fun v170 => f_L_law_23 L xs n v170 μ164))) else (rI (0 : Int32) μ164))))))))) else if ((xs (Int32.toNatClampNeg x4)) &&& (31 : Int32)) = (8 : Int32) then (ck (inb (x4 + (1 : Int32)) L) (cI (F_L_exchangeAt (xs (Int32.toNatClampNeg (x4 + (1 : Int32)))) μ) (fun v179 μ176 => ck (inb (x4 + (1 : Int32)) L) (cI (F_X8_exchangeAt (xs (Int32.toNatClampNeg (x4 + (1 : Int32)))) μ176) (fun v185 μ182 => cI (F_X8_thrown μ182) (fun v190 μ187 => if v190 = v179 then (if v179 = 0 then (if (lg_cmp (μ187.2.1 48 0) (Int32.toInt64 v185)) = 0 then (lt (x4 + (5 : Int32)) (fun v195 => f_L_law_23 L xs n v195 μ187)) else (rI (0 : Int32) μ187)) else (lt (x4 + (5 : Int32)) (fun v193 => f_L_law_23 L xs n v193 μ187))) else (rI (0 : Int32) μ187))))))) else if ((xs (Int32.toNatClampNeg x4)) &&& (31 : Int32)) = (9 : Int32) then (ck (inb (x4 + (1 : Int32)) L) (cI (F_L_whyNot (xs (Int32.toNatClampNeg (x4 + (1 : Int32)))) μ) (fun v202 μ199 => ck (inb (x4 + (1 : Int32)) L) (cI (F_X8_whyNot (xs (Int32.toNatClampNeg (x4 + (1 : Int32)))) μ199) (fun v208 μ205 => cI (F_X8_thrown μ205) (fun v213 μ210 => if v213 = v202 then (if v202 = 0 then (if (lg_cmp (μ210.2.1 48 0) (Int32.toInt64 v208)) = 0 then (lt (x4 + (5 : Int32)) (fun v218 => f_L_law_23 L xs n v218 μ210)) else (rI (0 : Int32) μ210)) else (lt (x4 + (5 : Int32)) (fun v216 => f_L_law_23 L xs n v216 μ210))) else (rI (0 : Int32) μ210))))))) else if ((xs (Int32.toNatClampNeg x4)) &&& (31 : Int32)) = (10 : Int32) then (ck (inb (x4 + (1 : Int32)) L) (ck (inb (x4 + (2 : Int32)) L) (cI (F_L_resize (xs (Int32.toNatClampNeg (x4 + (1 : Int32)))) (xs (Int32.toNatClampNeg (x4 + (2 : Int32)))) μ) (fun v226 μ223 => ck (inb (x4 + (1 : Int32)) L) (ck (inb (x4 + (2 : Int32)) L) (cI (F_X8_resize (xs (Int32.toNatClampNeg (x4 + (1 : Int32)))) (xs (Int32.toNatClampNeg (x4 + (2 : Int32)))) μ223) (fun v233 μ230 => cI (F_X8_thrown μ230) (fun v238 μ235 => if v238 = v226 then (if v226 = 0 then (if (lg_cmp (μ235.2.1 48 0) (Int32.toInt64 v233)) = 0 then (lt (x4 + (5 : Int32)) (fun v243 => f_L_law_23 L xs n v243 μ235)) else (rI (0 : Int32) μ235)) else (lt (x4 + (5 : Int32)) (fun v241 => f_L_law_23 L xs n v241 μ235))) else (rI (0 : Int32) μ235))))))))) else if ((xs (Int32.toNatClampNeg x4)) &&& (31 : Int32)) = (11 : Int32) then (ck (inb (x4 + (1 : Int32)) L) (ck (inb (x4 + (2 : Int32)) L) (ck (inb (x4 + (3 : Int32)) L) (if (xs (Int32.toNatClampNeg (x4 + (3 : Int32)))) = 0 then (f_L_law_773 L xs (f_L_law_23 L xs n) x4 (0 : Int32) (xs (Int32.toNatClampNeg (x4 + (2 : Int32)))) (xs (Int32.toNatClampNeg (x4 + (1 : Int32)))) μ) else (f_L_law_773 L xs (f_L_law_23 L xs n) x4 (1 : Int32) (xs (Int32.toNatClampNeg (x4 + (2 : Int32)))) (xs (Int32.toNatClampNeg (x4 + (1 : Int32)))) μ))))) else if ((xs (Int32.toNatClampNeg x4)) &&& (31 : Int32)) = (12 : Int32) then (ck (inb (x4 + (1 : Int32)) L) (ck (inb (x4 + (2 : Int32)) L) (ck (inb (x4 + (3 : Int32)) L) (if (xs (Int32.toNatClampNeg (x4 + (3 : Int32)))) = 0 then (f_L_law_876 L xs (f_L_law_23 L xs n) x4 (0 : Int32) (xs (Int32.toNatClampNeg (x4 + (2 : Int32)))) (xs (Int32.toNatClampNeg (x4 + (1 : Int32)))) μ) else (f_L_law_876 L xs (f_L_law_23 L xs n) x4 (1 : Int32) (xs (Int32.toNatClampNeg (x4 + (2 : Int32)))) (xs (Int32.toNatClampNeg (x4 + (1 : Int32)))) μ))))) else if ((xs (Int32.toNatClampNeg x4)) &&& (31 : Int32)) = (13 : Int32) then (ck (inb (x4 + (1 : Int32)) L) (ck (inb (x4 + (2 : Int32)) L) (cI (F_L_want (xs (Int32.toNatClampNeg (x4 + (1 : Int32)))) (xs (Int32.toNatClampNeg (x4 + (2 : Int32)))) μ) (fun v261 μ258 => ck (inb (x4 + (1 : Int32)) L) (ck (inb (x4 + (2 : Int32)) L) (cI (F_X8_want (xs (Int32.toNatClampNeg (x4 + (1 : Int32)))) (xs (Int32.toNatClampNeg (x4 + (2 : Int32)))) μ258) (fun v268 μ265 => cI (F_X8_thrown μ265) (fun v273 μ270 => if v273 = v261 then (if v261 = 0 then (if (lg_cmp (μ270.2.1 48 0) (Int32.toInt64 v268)) = 0 then (lt (x4 + (5 : Int32)) (fun v278 => f_L_law_23 L xs n v278 μ270)) else (rI (0 : Int32) μ270)) else (lt (x4 + (5 : Int32)) (fun v276 => f_L_law_23 L xs n v276 μ270))) else (rI (0 : Int32) μ270))))))))) else if ((xs (Int32.toNatClampNeg x4)) &&& (31 : Int32)) = (14 : Int32) then (cI (F_X7_wantAll μ) (fun v284 μ281 => cI (F_X8_wantAll μ281) (fun v289 μ286 => if v284 = v289 then (lt (x4 + (5 : Int32)) (fun v291 => f_L_law_23 L xs n v291 μ286)) else (rI (0 : Int32) μ286)))) else if ((xs (Int32.toNatClampNeg x4)) &&& (31 : Int32)) = (15 : Int32) then (ck (inb (x4 + (1 : Int32)) L) (ck (inb (x4 + (2 : Int32)) L) (ck (inb (x4 + (3 : Int32)) L) (ck (inb (x4 + (4 : Int32)) L) (cI (F_L_exchange (xs (Int32.toNatClampNeg (x4 + (1 : Int32)))) (xs (Int32.toNatClampNeg (x4 + (2 : Int32)))) (xs (Int32.toNatClampNeg (x4 + (3 : Int32)))) (xs (Int32.toNatClampNeg (x4 + (4 : Int32)))) μ) (fun v301 μ298 => ck (inb (x4 + (1 : Int32)) L) (ck (inb (x4 + (2 : Int32)) L) (ck (inb (x4 + (3 : Int32)) L) (ck (inb (x4 + (4 : Int32)) L) (cI (F_X8_exchange (xs (Int32.toNatClampNeg (x4 + (1 : Int32)))) (xs (Int32.toNatClampNeg (x4 + (2 : Int32)))) (xs (Int32.toNatClampNeg (x4 + (3 : Int32)))) (xs (Int32.toNatClampNeg (x4 + (4 : Int32)))) μ298) (fun v310 μ307 => cI (F_X8_thrown μ307) (fun v315 μ312 => if v315 = v301 then (if v301 = 0 then (if (lg_cmp (μ312.2.1 48 0) (Int32.toInt64 v310)) = 0 then (lt (x4 + (5 : Int32)) (fun v320 => f_L_law_23 L xs n v320 μ312)) else (rI (0 : Int32) μ312)) else (lt (x4 + (5 : Int32)) (fun v318 => f_L_law_23 L xs n v318 μ312))) else (rI (0 : Int32) μ312))))))))))))) else if ((xs (Int32.toNatClampNeg x4)) &&& (31 : Int32)) = (16 : Int32) then (ck (inb (x4 + (1 : Int32)) L) (cI (F_L_solve (xs (Int32.toNatClampNeg (x4 + (1 : Int32)))) μ) (fun v327 μ324 => ck (inb (x4 + (1 : Int32)) L) (cI (F_X8_solve (xs (Int32.toNatClampNeg (x4 + (1 : Int32)))) μ324) (fun v333 μ330 => cI (F_X8_thrown μ330) (fun v338 μ335 => if v338 = v327 then (if v327 = 0 then (if (lg_cmp (μ335.2.1 48 0) (Int32.toInt64 v333)) = 0 then (lt (x4 + (5 : Int32)) (fun v343 => f_L_law_23 L xs n v343 μ335)) else (rI (0 : Int32) μ335)) else (lt (x4 + (5 : Int32)) (fun v341 => f_L_law_23 L xs n v341 μ335))) else (rI (0 : Int32) μ335))))))) else if ((xs (Int32.toNatClampNeg x4)) &&& (31 : Int32)) = (17 : Int32) then (cI (F_L_next μ) (fun v349 μ346 => cI (F_X8_next μ346) (fun v354 μ351 => cI (F_X8_thrown μ351) (fun v359 μ356 => if v359 = v349 then (if v349 = 0 then (if (lg_cmp (μ356.2.1 48 0) (Int32.toInt64 v354)) = 0 then (lt (x4 + (5 : Int32)) (fun v364 => f_L_law_23 L xs n v364 μ356)) else (rI (0 : Int32) μ356)) else (lt (x4 + (5 : Int32)) (fun v362 => f_L_law_23 L xs n v362 μ356))) else (rI (0 : Int32) μ356))))) else if ((xs (Int32.toNatClampNeg x4)) &&& (31 : Int32)) = (18 : Int32) then (cI (F_X7_turn μ) (fun v370 μ367 => cI (F_X8_turn μ367) (fun v375 μ372 => if v370 = v375 then (lt (x4 + (5 : Int32)) (fun v377 => f_L_law_23 L xs n v377 μ372)) else (rI (0 : Int32) μ372)))) else if ((xs (Int32.toNatClampNeg x4)) &&& (31 : Int32)) = (19 : Int32) then (cI (F_L_undo μ) (fun v383 μ380 => cI (F_X8_undo μ380) (fun v388 μ385 => cI (F_X8_thrown μ385) (fun v393 μ390 => if v393 = v383 then (if v383 = 0 then (if (lg_cmp (μ390.2.1 48 0) (Int32.toInt64 v388)) = 0 then (lt (x4 + (5 : Int32)) (fun v398 => f_L_law_23 L xs n v398 μ390)) else (rI (0 : Int32) μ390)) else (lt (x4 + (5 : Int32)) (fun v396 => f_L_law_23 L xs n v396 μ390))) else (rI (0 : Int32) μ390))))) else if ((xs (Int32.toNatClampNeg x4)) &&& (31 : Int32)) = (20 : Int32) then (cI (F_X7_howMany μ) (fun v404 μ401 => cI (F_X8_howMany μ401) (fun v409 μ406 => if v404 = v409 then (lt (x4 + (5 : Int32)) (fun v411 => f_L_law_23 L xs n v411 μ406)) else (rI (0 : Int32) μ406)))) else if ((xs (Int32.toNatClampNeg x4)) &&& (31 : Int32)) = (21 : Int32) then (ck (inb (x4 + (1 : Int32)) L) (if (xs (Int32.toNatClampNeg (x4 + (1 : Int32)))) = 0 then (f_L_law_1310 L xs (f_L_law_23 L xs n) x4 (0 : Int32) μ) else (f_L_law_1310 L xs (f_L_law_23 L xs n) x4 (1 : Int32) μ))) else if ((xs (Int32.toNatClampNeg x4)) &&& (31 : Int32)) = (22 : Int32) then (cI (F_X7_split μ) (fun v420 μ417 => cI (F_X8_split μ417) (fun v425 μ422 => if v420 = v425 then (lt (x4 + (5 : Int32)) (fun v427 => f_L_law_23 L xs n v427 μ422)) else (rI (0 : Int32) μ422)))) else if ((xs (Int32.toNatClampNeg x4)) &&& (31 : Int32)) = (23 : Int32) then (cI (F_L_nearest μ) (fun v433 μ430 => cI (F_X8_nearest μ430) (fun v438 μ435 => cI (F_X8_thrown μ435) (fun v443 μ440 => if v443 = v433 then (if v433 = 0 then (if (lg_cmp (μ440.2.1 48 0) (Int32.toInt64 v438)) = 0 then (lt (x4 + (5 : Int32)) (fun v448 => f_L_law_23 L xs n v448 μ440)) else (rI (0 : Int32) μ440)) else (lt (x4 + (5 : Int32)) (fun v446 => f_L_law_23 L xs n v446 μ440))) else (rI (0 : Int32) μ440))))) else if ((xs (Int32.toNatClampNeg x4)) &&& (31 : Int32)) = (24 : Int32) then (cI (F_X7_bestExchange μ) (fun v454 μ451 => cI (F_X8_bestExchange μ451) (fun v459 μ456 => if v454 = v459 then (lt (x4 + (5 : Int32)) (fun v461 => f_L_law_23 L xs n v461 μ456)) else (rI (0 : Int32) μ456)))) else if ((xs (Int32.toNatClampNeg x4)) &&& (31 : Int32)) = (25 : Int32) then (ck (inb (x4 + (1 : Int32)) L) (ck (inb (x4 + (2 : Int32)) L) (ck (inb (x4 + (3 : Int32)) L) (cI (F_L_runScript (xs (Int32.toNatClampNeg (x4 + (1 : Int32)))) ((shlL (Int32.toInt64 (xs (Int32.toNatClampNeg (x4 + (2 : Int32))))) (32 : Int32)) ||| ((Int32.toInt64 (xs (Int32.toNatClampNeg (x4 + (3 : Int32))))) &&& (4294967295 : Int64))) μ) (fun v470 μ467 => ck (inb (x4 + (1 : Int32)) L) (ck (inb (x4 + (2 : Int32)) L) (ck (inb (x4 + (3 : Int32)) L) (cI (F_X8_runScript (xs (Int32.toNatClampNeg (x4 + (1 : Int32)))) ((shlL (Int32.toInt64 (xs (Int32.toNatClampNeg (x4 + (2 : Int32))))) (32 : Int32)) ||| ((Int32.toInt64 (xs (Int32.toNatClampNeg (x4 + (3 : Int32))))) &&& (4294967295 : Int64))) μ467) (fun v478 μ475 => cI (F_X8_thrown μ475) (fun v483 μ480 => if v483 = v470 then (if v470 = 0 then (if (lg_cmp (μ480.2.1 48 0) (Int32.toInt64 v478)) = 0 then (lt (x4 + (5 : Int32)) (fun v488 => f_L_law_23 L xs n v488 μ480)) else (rI (0 : Int32) μ480)) else (lt (x4 + (5 : Int32)) (fun v486 => f_L_law_23 L xs n v486 μ480))) else (rI (0 : Int32) μ480))))))))))) else if ((xs (Int32.toNatClampNeg x4)) &&& (31 : Int32)) = (26 : Int32) then (ck (inb (x4 + (1 : Int32)) L) (ck (inb (x4 + (2 : Int32)) L) (ck (inb (x4 + (3 : Int32)) L) (cI (F_L_simulate ((shlL (Int32.toInt64 (xs (Int32.toNatClampNeg (x4 + (1 : Int32))))) (32 : Int32)) ||| ((Int32.toInt64 (xs (Int32.toNatClampNeg (x4 + (2 : Int32))))) &&& (4294967295 : Int64))) (xs (Int32.toNatClampNeg (x4 + (3 : Int32)))) μ) (fun v497 μ494 => ck (inb (x4 + (1 : Int32)) L) (ck (inb (x4 + (2 : Int32)) L) (ck (inb (x4 + (3 : Int32)) L) (cI (F_X8_simulate ((shlL (Int32.toInt64 (xs (Int32.toNatClampNeg (x4 + (1 : Int32))))) (32 : Int32)) ||| ((Int32.toInt64 (xs (Int32.toNatClampNeg (x4 + (2 : Int32))))) &&& (4294967295 : Int64))) (xs (Int32.toNatClampNeg (x4 + (3 : Int32)))) μ494) (fun v505 μ502 => cI (F_X8_thrown μ502) (fun v510 μ507 => if v510 = v497 then (if v497 = 0 then (if (lg_cmp (μ507.2.1 48 0) (Int32.toInt64 v505)) = 0 then (lt (x4 + (5 : Int32)) (fun v515 => f_L_law_23 L xs n v515 μ507)) else (rI (0 : Int32) μ507)) else (lt (x4 + (5 : Int32)) (fun v513 => f_L_law_23 L xs n v513 μ507))) else (rI (0 : Int32) μ507))))))))))) else if ((xs (Int32.toNatClampNeg x4)) &&& (31 : Int32)) = (27 : Int32) then (ck (inb (x4 + (1 : Int32)) L) (cI (F_L_save (xs (Int32.toNatClampNeg (x4 + (1 : Int32)))) μ) (fun v522 μ519 => ck (inb (x4 + (1 : Int32)) L) (cI (F_X8_save (xs (Int32.toNatClampNeg (x4 + (1 : Int32)))) μ519) (fun v528 μ525 => cI (F_X8_thrown μ525) (fun v533 μ530 => if v533 = v522 then (if v522 = 0 then (if (lg_cmp (μ530.2.1 48 0) (Int32.toInt64 v528)) = 0 then (lt (x4 + (5 : Int32)) (fun v538 => f_L_law_23 L xs n v538 μ530)) else (rI (0 : Int32) μ530)) else (lt (x4 + (5 : Int32)) (fun v536 => f_L_law_23 L xs n v536 μ530))) else (rI (0 : Int32) μ530))))))) else if ((xs (Int32.toNatClampNeg x4)) &&& (31 : Int32)) = (28 : Int32) then (ck (inb (x4 + (1 : Int32)) L) (cI (F_L_restore (xs (Int32.toNatClampNeg (x4 + (1 : Int32)))) μ) (fun v545 μ542 => ck (inb (x4 + (1 : Int32)) L) (cI (F_X8_restore (xs (Int32.toNatClampNeg (x4 + (1 : Int32)))) μ542) (fun v551 μ548 => cI (F_X8_thrown μ548) (fun v556 μ553 => if v556 = v545 then (if v545 = 0 then (if (lg_cmp (μ553.2.1 48 0) (Int32.toInt64 v551)) = 0 then (lt (x4 + (5 : Int32)) (fun v561 => f_L_law_23 L xs n v561 μ553)) else (rI (0 : Int32) μ553)) else (lt (x4 + (5 : Int32)) (fun v559 => f_L_law_23 L xs n v559 μ553))) else (rI (0 : Int32) μ553))))))) else (lt (x4 + (5 : Int32)) (fun v562 => f_L_law_23 L xs n v562 μ))))
def F_L_law (L : Nat) (xs : Nat → Int32) (μ : Mem) : Out := f_L_law_23 L xs BIG (0 : Int32) μ
def mL_law (L : Nat) (xs : Nat → Int32) : MI := (cL_law, [(90, (3, 3, 1, 0, Γ_L_append)), (95, (1, 1, 0, 6, Γ_X8_append)), (96, (1, 0, 0, 6, Γ_X8_thrown)), (99, (1, 0, 0, 5, Γ_X7_clearText)), (102, (1, 0, 0, 6, Γ_X8_clearText)), (103, (1, 0, 0, 5, Γ_X7_errorPosition)), (106, (1, 0, 0, 6, Γ_X8_errorPosition)), (107, (3, 2, 1, 0, Γ_L_load)), (110, (1, 0, 0, 6, Γ_X8_load)), (111, (3, 3, 1, 0, Γ_L_about)), (113, (1, 1, 0, 6, Γ_X8_about)), (114, (3, 4, 2, 0, Γ_L_line)), (117, (1, 2, 0, 6, Γ_X8_line)), (118, (3, 5, 2, 0, Γ_L_cell)), (121, (1, 3, 0, 6, Γ_X8_cell)), (122, (3, 4, 1, 0, Γ_L_piece)), (124, (1, 2, 0, 6, Γ_X8_piece)), (125, (3, 3, 1, 0, Γ_L_exchangeAt)), (127, (1, 1, 0, 6, Γ_X8_exchangeAt)), (128, (3, 3, 1, 0, Γ_L_whyNot)), (130, (1, 1, 0, 6, Γ_X8_whyNot)), (131, (3, 4, 1, 0, Γ_L_resize)), (133, (1, 2, 0, 6, Γ_X8_resize)), (134, (3, 5, 2, 0, Γ_L_fill)), (137, (1, 3, 0, 6, Γ_X8_fill)), (138, (3, 5, 1, 0, Γ_L_pin)), (140, (1, 3, 0, 6, Γ_X8_pin)), (141, (3, 4, 2, 0, Γ_L_want)), (143, (1, 2, 0, 6, Γ_X8_want)), (144, (1, 0, 0, 5, Γ_X7_wantAll)), (147, (1, 0, 0, 6, Γ_X8_wantAll)), (148, (3, 6, 3, 0, Γ_L_exchange)), (151, (1, 4, 0, 6, Γ_X8_exchange)), (152, (3, 3, 1, 0, Γ_L_solve)), (154, (1, 1, 0, 6, Γ_X8_solve)), (155, (3, 2, 1, 0, Γ_L_next)), (157, (1, 0, 0, 6, Γ_X8_next)), (158, (1, 0, 0, 5, Γ_X7_turn)), (161, (1, 0, 0, 6, Γ_X8_turn)), (162, (3, 2, 1, 0, Γ_L_undo)), (164, (1, 0, 0, 6, Γ_X8_undo)), (165, (1, 0, 0, 5, Γ_X7_howMany)), (168, (1, 0, 0, 6, Γ_X8_howMany)), (169, (1, 1, 0, 5, Γ_X7_sure)), (173, (1, 1, 0, 6, Γ_X8_sure)), (174, (1, 0, 0, 5, Γ_X7_split)), (177, (1, 0, 0, 6, Γ_X8_split)), (178, (3, 2, 1, 0, Γ_L_nearest)), (180, (1, 0, 0, 6, Γ_X8_nearest)), (181, (1, 0, 0, 5, Γ_X7_bestExchange)), (184, (1, 0, 0, 6, Γ_X8_bestExchange)), (187, (3, 4, 1, 0, Γ_L_runScript)), (190, (1, 2, 0, 6, Γ_X8_runScript)), (191, (3, 4, 1, 0, Γ_L_simulate)), (194, (1, 2, 0, 6, Γ_X8_simulate)), (195, (3, 3, 1, 0, Γ_L_save)), (197, (1, 1, 0, 6, Γ_X8_save)), (198, (3, 3, 2, 0, Γ_L_restore)), (200, (1, 1, 0, 6, Γ_X8_restore))], [], [], [(185, 4294967295)], [], [], some (L, xs), (some .boolean))
set_option maxHeartbeats 4000000 in
theorem g_L_law_840 {r : Res} {μ' : Mem} {n : Nat} (L : Nat) (xs : Nat → Int32) {k23 : Int32 → Mem → Out} (hk23 : ∀ (x4 : Int32), ∀ (μ : Mem) (b : Nat), 3 * n ≤ b → k23 x4 μ = some (r, μ') → G (mL_law L xs) (Qe r μ') 23 [some (.ref NP), some (.ref 0), some (.ref 29), some (.ref 48), some (.int x4), none, none] [] μ b) : ∀ (x4 : Int32) (s0 : Int64) (s1 : Int64), ∀ (μ : Mem) (b : Nat), 3 * n ≤ b → f_L_law_840 L xs k23 x4 s0 s1 μ = some (r, μ') → G (mL_law L xs) (Qe r μ') 840 [some (.ref NP), some (.ref 0), some (.ref 29), some (.ref 48), some (.int x4), none, none] [.long s0, .long s1] μ b := by
  intro x4 s0 s1 μ b hb9 h
  unfold f_L_law_840 at h
  refine e_lcmp dL_law_840 ?_
  refine e_if_eq (tgt := 846) dL_law_841 rfl (fun hc623 => ?_) (fun hc623 => ?_)
  · rw [if_pos hc623] at h
    refine e_goto (tgt := 1718) dL_law_846 rfl ?_
    refine e_iincN 4 (5 : Int32) dL_law_1718 rfl ci_5 h (fun y9 => [some (.ref NP), some (.ref 0), some (.ref 29), some (.ref 48), some (.int y9), none, none]) (fun _ => rfl) (fun v624 ev624 h => ?_)
    refine e_goto (tgt := 23) dL_law_1721 rfl ?_
    exact e_le (hk23 v624 μ _ (by omega) h) ⟨rfl, rfl, rfl, rfl, rfl, trivial⟩
  · rw [if_neg hc623] at h
    refine e_iconst dL_law_844 ci_0 ?_
    exact e_iret .boolean dL_law_845 rfl rfl (ret_eq h)
set_option maxHeartbeats 4000000 in
theorem g_L_law_806 {r : Res} {μ' : Mem} {n : Nat} (L : Nat) (xs : Nat → Int32) {k23 : Int32 → Mem → Out} (hk23 : ∀ (x4 : Int32), ∀ (μ : Mem) (b : Nat), 3 * n ≤ b → k23 x4 μ = some (r, μ') → G (mL_law L xs) (Qe r μ') 23 [some (.ref NP), some (.ref 0), some (.ref 29), some (.ref 48), some (.int x4), none, none] [] μ b) : ∀ (x4 : Int32) (x5 : Int32) (s0 : Int32) (s1 : Int32) (s2 : Int32), ∀ (μ : Mem) (b : Nat), 3 * n ≤ b → f_L_law_806 L xs k23 x4 x5 s0 s1 s2 μ = some (r, μ') → G (mL_law L xs) (Qe r μ') 806 [some (.ref NP), some (.ref 0), some (.ref 29), some (.ref 48), some (.int x4), some (.int x5), none] [.int s0, .int s1, .int s2, .ref 29] μ b := by
  intro x4 x5 s0 s1 s2 μ b hb9 h
  unfold f_L_law_806 at h
  refine cI_go h (fun E590 hc588 hr591 => e_VX [.int s2, .int s1, .int s0] [] dL_law_806 rfl rfl rfl rfl (by decide) (Nat.le_of_ble_eq_true rfl) (by omega) ⟨s2, s1, s0, rfl, hc588⟩ rfl ⟨hr591.symm, rfl⟩) (fun v592 μ589 hc588 h => ?_)
  refine e_VI [.int s2, .int s1, .int s0] [] dL_law_806 rfl rfl rfl rfl (by decide) (Nat.le_of_ble_eq_true rfl) (by omega) ⟨s2, s1, s0, rfl, hc588⟩ ?_
  refine e_istoreL [some (.ref NP), some (.ref 0), some (.ref 29), some (.ref 48), some (.int x4), some (.int x5), some (.int v592)] dL_law_809 (Nat.le_of_ble_eq_true rfl) rfl ?_
  refine e_aload_n dL_law_811 rfl ?_
  refine cI_go h (fun E595 hc593 hr596 => e_VX [] [] dL_law_812 rfl rfl rfl rfl (by decide) (Nat.le_of_ble_eq_true rfl) (by omega) ⟨rfl, hc593⟩ rfl ⟨hr596.symm, rfl⟩) (fun v597 μ594 hc593 h => ?_)
  refine e_VI [] [] dL_law_812 rfl rfl rfl rfl (by decide) (Nat.le_of_ble_eq_true rfl) (by omega) ⟨rfl, hc593⟩ ?_
  refine e_iload dL_law_815 rfl ?_
  refine e_ic_eq (tgt := 822) dL_law_817 rfl (fun hc598 => ?_) (fun hc598 => ?_)
  · rw [if_pos hc598] at h
    refine e_iload dL_law_822 rfl ?_
    refine e_if_ne (tgt := 846) dL_law_824 rfl (fun hc599 => ?_) (fun hc599 => ?_)
    · rw [if_neg hc599] at h
      refine e_goto (tgt := 1718) dL_law_846 rfl ?_
      refine e_iincN 4 (5 : Int32) dL_law_1718 rfl ci_5 h (fun y9 => [some (.ref NP), some (.ref 0), some (.ref 29), some (.ref 48), some (.int y9), some (.int x5), some (.int v592)]) (fun _ => rfl) (fun v600 ev600 h => ?_)
      refine e_goto (tgt := 23) dL_law_1721 rfl ?_
      exact e_le (hk23 v600 μ594 _ (by omega) h) ⟨rfl, rfl, rfl, rfl, rfl, trivial⟩
    · rw [if_pos hc599] at h
      refine e_aload_n dL_law_827 rfl ?_
      refine e_iconst dL_law_828 ci_0 ?_
      refine e_laload (n := 1) dL_law_829 (by decide) rfl (by decide : inb (0 : Int32) 1) ?_
      refine e_iload dL_law_830 rfl ?_
      refine e_if_eq (tgt := 839) dL_law_832 rfl (fun hc601 => ?_) (fun hc601 => ?_)
      · rw [if_pos hc601] at h
        refine e_lconst (v := (0 : Int64)) dL_law_839 rfl ?_
        exact e_le (g_L_law_840 L xs hk23 x4 (0 : Int64) (μ594.2.1 48 0) μ594 _ (by omega) h) ⟨rfl, rfl, rfl, rfl, rfl, trivial⟩
      · rw [if_neg hc601] at h
        refine e_lconst (v := (1 : Int64)) dL_law_835 rfl ?_
        refine e_goto (tgt := 840) dL_law_836 rfl ?_
        exact e_le (g_L_law_840 L xs hk23 x4 (1 : Int64) (μ594.2.1 48 0) μ594 _ (by omega) h) ⟨rfl, rfl, rfl, rfl, rfl, trivial⟩
  · rw [if_neg hc598] at h
    refine e_iconst dL_law_820 ci_0 ?_
    exact e_iret .boolean dL_law_821 rfl rfl (ret_eq h)
set_option maxHeartbeats 4000000 in
theorem g_L_law_773 {r : Res} {μ' : Mem} {n : Nat} (L : Nat) (xs : Nat → Int32) {k23 : Int32 → Mem → Out} (hk23 : ∀ (x4 : Int32), ∀ (μ : Mem) (b : Nat), 3 * n ≤ b → k23 x4 μ = some (r, μ') → G (mL_law L xs) (Qe r μ') 23 [some (.ref NP), some (.ref 0), some (.ref 29), some (.ref 48), some (.int x4), none, none] [] μ b) : ∀ (x4 : Int32) (s0 : Int32) (s1 : Int32) (s2 : Int32), ∀ (μ : Mem) (b : Nat), 3 * n + 2 ≤ b → f_L_law_773 L xs k23 x4 s0 s1 s2 μ = some (r, μ') → G (mL_law L xs) (Qe r μ') 773 [some (.ref NP), some (.ref 0), some (.ref 29), some (.ref 48), some (.int x4), none, none] [.int s0, .int s1, .int s2, .ref 0] μ b := by
  intro x4 s0 s1 s2 μ b hb9 h
  unfold f_L_law_773 at h
  refine e_aload_n dL_law_773 rfl ?_
  refine cI_go h (fun E565 hc563 hr566 => e_SX [.ref 0, .int s2, .int s1, .int s0, .ref 48] [] dL_law_774 rfl (by decide) rfl rfl (Nat.le_of_ble_eq_true rfl) (by omega) ⟨s2, s1, s0, rfl, hc563⟩ rfl ⟨hr566.symm, rfl⟩) (fun v567 μ564 hc563 h => ?_)
  refine e_SI [.ref 0, .int s2, .int s1, .int s0, .ref 48] [] dL_law_774 rfl (by decide) rfl rfl (Nat.le_of_ble_eq_true rfl) (by omega) ⟨s2, s1, s0, rfl, hc563⟩ ?_
  refine e_istoreL [some (.ref NP), some (.ref 0), some (.ref 29), some (.ref 48), some (.int x4), some (.int v567), none] dL_law_777 (Nat.le_of_ble_eq_true rfl) rfl ?_
  refine e_aload_n dL_law_779 rfl ?_
  refine e_aload_n dL_law_780 rfl ?_
  refine e_iload dL_law_781 rfl ?_
  refine e_iconst dL_law_783 ci_1 ?_
  refine e_iadd dL_law_784 ?_
  obtain ⟨hc568, h⟩ := ck_eq h
  refine e_ialoadS dL_law_785 rfl hc568 ?_
  refine e_aload_n dL_law_786 rfl ?_
  refine e_iload dL_law_787 rfl ?_
  refine e_iconst dL_law_789 ci_2 ?_
  refine e_iadd dL_law_790 ?_
  obtain ⟨hc569, h⟩ := ck_eq h
  refine e_ialoadS dL_law_791 rfl hc569 ?_
  refine e_aload_n dL_law_792 rfl ?_
  refine e_iload dL_law_793 rfl ?_
  refine e_iconst dL_law_795 ci_3 ?_
  refine e_iadd dL_law_796 ?_
  obtain ⟨hc570, h⟩ := ck_eq h
  refine e_ialoadS dL_law_797 rfl hc570 ?_
  refine e_if_eq (tgt := 805) dL_law_798 rfl (fun hc571 => ?_) (fun hc571 => ?_)
  · rw [if_pos hc571] at h
    refine e_iconst dL_law_805 ci_0 ?_
    exact e_le (g_L_law_806 L xs hk23 x4 v567 (0 : Int32) (xs (Int32.toNatClampNeg (x4 + (2 : Int32)))) (xs (Int32.toNatClampNeg (x4 + (1 : Int32)))) μ564 _ (by omega) h) ⟨rfl, rfl, rfl, rfl, rfl, rfl, trivial⟩
  · rw [if_neg hc571] at h
    refine e_iconst dL_law_801 ci_1 ?_
    refine e_goto (tgt := 806) dL_law_802 rfl ?_
    exact e_le (g_L_law_806 L xs hk23 x4 v567 (1 : Int32) (xs (Int32.toNatClampNeg (x4 + (2 : Int32)))) (xs (Int32.toNatClampNeg (x4 + (1 : Int32)))) μ564 _ (by omega) h) ⟨rfl, rfl, rfl, rfl, rfl, rfl, trivial⟩
set_option maxHeartbeats 4000000 in
theorem g_L_law_943 {r : Res} {μ' : Mem} {n : Nat} (L : Nat) (xs : Nat → Int32) {k23 : Int32 → Mem → Out} (hk23 : ∀ (x4 : Int32), ∀ (μ : Mem) (b : Nat), 3 * n ≤ b → k23 x4 μ = some (r, μ') → G (mL_law L xs) (Qe r μ') 23 [some (.ref NP), some (.ref 0), some (.ref 29), some (.ref 48), some (.int x4), none, none] [] μ b) : ∀ (x4 : Int32) (s0 : Int64) (s1 : Int64), ∀ (μ : Mem) (b : Nat), 3 * n ≤ b → f_L_law_943 L xs k23 x4 s0 s1 μ = some (r, μ') → G (mL_law L xs) (Qe r μ') 943 [some (.ref NP), some (.ref 0), some (.ref 29), some (.ref 48), some (.int x4), none, none] [.long s0, .long s1] μ b := by
  intro x4 s0 s1 μ b hb9 h
  unfold f_L_law_943 at h
  refine e_lcmp dL_law_943 ?_
  refine e_if_eq (tgt := 949) dL_law_944 rfl (fun hc625 => ?_) (fun hc625 => ?_)
  · rw [if_pos hc625] at h
    refine e_goto (tgt := 1718) dL_law_949 rfl ?_
    refine e_iincN 4 (5 : Int32) dL_law_1718 rfl ci_5 h (fun y9 => [some (.ref NP), some (.ref 0), some (.ref 29), some (.ref 48), some (.int y9), none, none]) (fun _ => rfl) (fun v626 ev626 h => ?_)
    refine e_goto (tgt := 23) dL_law_1721 rfl ?_
    exact e_le (hk23 v626 μ _ (by omega) h) ⟨rfl, rfl, rfl, rfl, rfl, trivial⟩
  · rw [if_neg hc625] at h
    refine e_iconst dL_law_947 ci_0 ?_
    exact e_iret .boolean dL_law_948 rfl rfl (ret_eq h)
set_option maxHeartbeats 4000000 in
theorem g_L_law_909 {r : Res} {μ' : Mem} {n : Nat} (L : Nat) (xs : Nat → Int32) {k23 : Int32 → Mem → Out} (hk23 : ∀ (x4 : Int32), ∀ (μ : Mem) (b : Nat), 3 * n ≤ b → k23 x4 μ = some (r, μ') → G (mL_law L xs) (Qe r μ') 23 [some (.ref NP), some (.ref 0), some (.ref 29), some (.ref 48), some (.int x4), none, none] [] μ b) : ∀ (x4 : Int32) (x5 : Int32) (s0 : Int32) (s1 : Int32) (s2 : Int32), ∀ (μ : Mem) (b : Nat), 3 * n ≤ b → f_L_law_909 L xs k23 x4 x5 s0 s1 s2 μ = some (r, μ') → G (mL_law L xs) (Qe r μ') 909 [some (.ref NP), some (.ref 0), some (.ref 29), some (.ref 48), some (.int x4), some (.int x5), none] [.int s0, .int s1, .int s2, .ref 29] μ b := by
  intro x4 x5 s0 s1 s2 μ b hb9 h
  unfold f_L_law_909 at h
  refine cI_go h (fun E604 hc602 hr605 => e_VX [.int s2, .int s1, .int s0] [] dL_law_909 rfl rfl rfl rfl (by decide) (Nat.le_of_ble_eq_true rfl) (by omega) ⟨s2, s1, s0, rfl, hc602⟩ rfl ⟨hr605.symm, rfl⟩) (fun v606 μ603 hc602 h => ?_)
  refine e_VI [.int s2, .int s1, .int s0] [] dL_law_909 rfl rfl rfl rfl (by decide) (Nat.le_of_ble_eq_true rfl) (by omega) ⟨s2, s1, s0, rfl, hc602⟩ ?_
  refine e_istoreL [some (.ref NP), some (.ref 0), some (.ref 29), some (.ref 48), some (.int x4), some (.int x5), some (.int v606)] dL_law_912 (Nat.le_of_ble_eq_true rfl) rfl ?_
  refine e_aload_n dL_law_914 rfl ?_
  refine cI_go h (fun E609 hc607 hr610 => e_VX [] [] dL_law_915 rfl rfl rfl rfl (by decide) (Nat.le_of_ble_eq_true rfl) (by omega) ⟨rfl, hc607⟩ rfl ⟨hr610.symm, rfl⟩) (fun v611 μ608 hc607 h => ?_)
  refine e_VI [] [] dL_law_915 rfl rfl rfl rfl (by decide) (Nat.le_of_ble_eq_true rfl) (by omega) ⟨rfl, hc607⟩ ?_
  refine e_iload dL_law_918 rfl ?_
  refine e_ic_eq (tgt := 925) dL_law_920 rfl (fun hc612 => ?_) (fun hc612 => ?_)
  · rw [if_pos hc612] at h
    refine e_iload dL_law_925 rfl ?_
    refine e_if_ne (tgt := 949) dL_law_927 rfl (fun hc613 => ?_) (fun hc613 => ?_)
    · rw [if_neg hc613] at h
      refine e_goto (tgt := 1718) dL_law_949 rfl ?_
      refine e_iincN 4 (5 : Int32) dL_law_1718 rfl ci_5 h (fun y9 => [some (.ref NP), some (.ref 0), some (.ref 29), some (.ref 48), some (.int y9), some (.int x5), some (.int v606)]) (fun _ => rfl) (fun v614 ev614 h => ?_)
      refine e_goto (tgt := 23) dL_law_1721 rfl ?_
      exact e_le (hk23 v614 μ608 _ (by omega) h) ⟨rfl, rfl, rfl, rfl, rfl, trivial⟩
    · rw [if_pos hc613] at h
      refine e_aload_n dL_law_930 rfl ?_
      refine e_iconst dL_law_931 ci_0 ?_
      refine e_laload (n := 1) dL_law_932 (by decide) rfl (by decide : inb (0 : Int32) 1) ?_
      refine e_iload dL_law_933 rfl ?_
      refine e_if_eq (tgt := 942) dL_law_935 rfl (fun hc615 => ?_) (fun hc615 => ?_)
      · rw [if_pos hc615] at h
        refine e_lconst (v := (0 : Int64)) dL_law_942 rfl ?_
        exact e_le (g_L_law_943 L xs hk23 x4 (0 : Int64) (μ608.2.1 48 0) μ608 _ (by omega) h) ⟨rfl, rfl, rfl, rfl, rfl, trivial⟩
      · rw [if_neg hc615] at h
        refine e_lconst (v := (1 : Int64)) dL_law_938 rfl ?_
        refine e_goto (tgt := 943) dL_law_939 rfl ?_
        exact e_le (g_L_law_943 L xs hk23 x4 (1 : Int64) (μ608.2.1 48 0) μ608 _ (by omega) h) ⟨rfl, rfl, rfl, rfl, rfl, trivial⟩
  · rw [if_neg hc612] at h
    refine e_iconst dL_law_923 ci_0 ?_
    exact e_iret .boolean dL_law_924 rfl rfl (ret_eq h)
set_option maxHeartbeats 4000000 in
theorem g_L_law_876 {r : Res} {μ' : Mem} {n : Nat} (L : Nat) (xs : Nat → Int32) {k23 : Int32 → Mem → Out} (hk23 : ∀ (x4 : Int32), ∀ (μ : Mem) (b : Nat), 3 * n ≤ b → k23 x4 μ = some (r, μ') → G (mL_law L xs) (Qe r μ') 23 [some (.ref NP), some (.ref 0), some (.ref 29), some (.ref 48), some (.int x4), none, none] [] μ b) : ∀ (x4 : Int32) (s0 : Int32) (s1 : Int32) (s2 : Int32), ∀ (μ : Mem) (b : Nat), 3 * n + 1 ≤ b → f_L_law_876 L xs k23 x4 s0 s1 s2 μ = some (r, μ') → G (mL_law L xs) (Qe r μ') 876 [some (.ref NP), some (.ref 0), some (.ref 29), some (.ref 48), some (.int x4), none, none] [.int s0, .int s1, .int s2, .ref 0] μ b := by
  intro x4 s0 s1 s2 μ b hb9 h
  unfold f_L_law_876 at h
  refine e_aload_n dL_law_876 rfl ?_
  refine cI_go h (fun E574 hc572 hr575 => e_SX [.ref 0, .int s2, .int s1, .int s0, .ref 48] [] dL_law_877 rfl (by decide) rfl rfl (Nat.le_of_ble_eq_true rfl) (by omega) ⟨s2, s1, s0, rfl, hc572⟩ rfl ⟨hr575.symm, rfl⟩) (fun v576 μ573 hc572 h => ?_)
  refine e_SI [.ref 0, .int s2, .int s1, .int s0, .ref 48] [] dL_law_877 rfl (by decide) rfl rfl (Nat.le_of_ble_eq_true rfl) (by omega) ⟨s2, s1, s0, rfl, hc572⟩ ?_
  refine e_istoreL [some (.ref NP), some (.ref 0), some (.ref 29), some (.ref 48), some (.int x4), some (.int v576), none] dL_law_880 (Nat.le_of_ble_eq_true rfl) rfl ?_
  refine e_aload_n dL_law_882 rfl ?_
  refine e_aload_n dL_law_883 rfl ?_
  refine e_iload dL_law_884 rfl ?_
  refine e_iconst dL_law_886 ci_1 ?_
  refine e_iadd dL_law_887 ?_
  obtain ⟨hc577, h⟩ := ck_eq h
  refine e_ialoadS dL_law_888 rfl hc577 ?_
  refine e_aload_n dL_law_889 rfl ?_
  refine e_iload dL_law_890 rfl ?_
  refine e_iconst dL_law_892 ci_2 ?_
  refine e_iadd dL_law_893 ?_
  obtain ⟨hc578, h⟩ := ck_eq h
  refine e_ialoadS dL_law_894 rfl hc578 ?_
  refine e_aload_n dL_law_895 rfl ?_
  refine e_iload dL_law_896 rfl ?_
  refine e_iconst dL_law_898 ci_3 ?_
  refine e_iadd dL_law_899 ?_
  obtain ⟨hc579, h⟩ := ck_eq h
  refine e_ialoadS dL_law_900 rfl hc579 ?_
  refine e_if_eq (tgt := 908) dL_law_901 rfl (fun hc580 => ?_) (fun hc580 => ?_)
  · rw [if_pos hc580] at h
    refine e_iconst dL_law_908 ci_0 ?_
    exact e_le (g_L_law_909 L xs hk23 x4 v576 (0 : Int32) (xs (Int32.toNatClampNeg (x4 + (2 : Int32)))) (xs (Int32.toNatClampNeg (x4 + (1 : Int32)))) μ573 _ (by omega) h) ⟨rfl, rfl, rfl, rfl, rfl, rfl, trivial⟩
  · rw [if_neg hc580] at h
    refine e_iconst dL_law_904 ci_1 ?_
    refine e_goto (tgt := 909) dL_law_905 rfl ?_
    exact e_le (g_L_law_909 L xs hk23 x4 v576 (1 : Int32) (xs (Int32.toNatClampNeg (x4 + (2 : Int32)))) (xs (Int32.toNatClampNeg (x4 + (1 : Int32)))) μ573 _ (by omega) h) ⟨rfl, rfl, rfl, rfl, rfl, rfl, trivial⟩
set_option maxHeartbeats 4000000 in
theorem g_L_law_1328 {r : Res} {μ' : Mem} {n : Nat} (L : Nat) (xs : Nat → Int32) {k23 : Int32 → Mem → Out} (hk23 : ∀ (x4 : Int32), ∀ (μ : Mem) (b : Nat), 3 * n ≤ b → k23 x4 μ = some (r, μ') → G (mL_law L xs) (Qe r μ') 23 [some (.ref NP), some (.ref 0), some (.ref 29), some (.ref 48), some (.int x4), none, none] [] μ b) : ∀ (x4 : Int32) (s0 : Int32) (s2 : Int32), ∀ (μ : Mem) (b : Nat), 3 * n ≤ b → f_L_law_1328 L xs k23 x4 s0 s2 μ = some (r, μ') → G (mL_law L xs) (Qe r μ') 1328 [some (.ref NP), some (.ref 0), some (.ref 29), some (.ref 48), some (.int x4), none, none] [.int s0, .ref 29, .int s2] μ b := by
  intro x4 s0 s2 μ b hb9 h
  unfold f_L_law_1328 at h
  refine cI_go h (fun E618 hc616 hr619 => e_VX [.int s0] [.int s2] dL_law_1328 rfl rfl rfl rfl (by decide) (Nat.le_of_ble_eq_true rfl) (by omega) ⟨s0, rfl, hc616⟩ rfl ⟨hr619.symm, rfl⟩) (fun v620 μ617 hc616 h => ?_)
  refine e_VI [.int s0] [.int s2] dL_law_1328 rfl rfl rfl rfl (by decide) (Nat.le_of_ble_eq_true rfl) (by omega) ⟨s0, rfl, hc616⟩ ?_
  refine e_ic_eq (tgt := 1718) dL_law_1331 rfl (fun hc621 => ?_) (fun hc621 => ?_)
  · rw [if_pos hc621] at h
    refine e_iincN 4 (5 : Int32) dL_law_1718 rfl ci_5 h (fun y9 => [some (.ref NP), some (.ref 0), some (.ref 29), some (.ref 48), some (.int y9), none, none]) (fun _ => rfl) (fun v622 ev622 h => ?_)
    refine e_goto (tgt := 23) dL_law_1721 rfl ?_
    exact e_le (hk23 v622 μ617 _ (by omega) h) ⟨rfl, rfl, rfl, rfl, rfl, trivial⟩
  · rw [if_neg hc621] at h
    refine e_iconst dL_law_1334 ci_0 ?_
    exact e_iret .boolean dL_law_1335 rfl rfl (ret_eq h)
set_option maxHeartbeats 4000000 in
theorem g_L_law_1310 {r : Res} {μ' : Mem} {n : Nat} (L : Nat) (xs : Nat → Int32) {k23 : Int32 → Mem → Out} (hk23 : ∀ (x4 : Int32), ∀ (μ : Mem) (b : Nat), 3 * n ≤ b → k23 x4 μ = some (r, μ') → G (mL_law L xs) (Qe r μ') 23 [some (.ref NP), some (.ref 0), some (.ref 29), some (.ref 48), some (.int x4), none, none] [] μ b) : ∀ (x4 : Int32) (s0 : Int32), ∀ (μ : Mem) (b : Nat), 3 * n ≤ b → f_L_law_1310 L xs k23 x4 s0 μ = some (r, μ') → G (mL_law L xs) (Qe r μ') 1310 [some (.ref NP), some (.ref 0), some (.ref 29), some (.ref 48), some (.int x4), none, none] [.int s0, .ref 0] μ b := by
  intro x4 s0 μ b hb9 h
  unfold f_L_law_1310 at h
  refine cI_go h (fun E583 hc581 hr584 => e_VX [.int s0] [] dL_law_1310 rfl rfl rfl rfl (by decide) (Nat.le_of_ble_eq_true rfl) (by omega) ⟨s0, rfl, hc581⟩ rfl ⟨hr584.symm, rfl⟩) (fun v585 μ582 hc581 h => ?_)
  refine e_VI [.int s0] [] dL_law_1310 rfl rfl rfl rfl (by decide) (Nat.le_of_ble_eq_true rfl) (by omega) ⟨s0, rfl, hc581⟩ ?_
  refine e_aload_n dL_law_1313 rfl ?_
  refine e_aload_n dL_law_1314 rfl ?_
  refine e_iload dL_law_1315 rfl ?_
  refine e_iconst dL_law_1317 ci_1 ?_
  refine e_iadd dL_law_1318 ?_
  obtain ⟨hc586, h⟩ := ck_eq h
  refine e_ialoadS dL_law_1319 rfl hc586 ?_
  refine e_if_eq (tgt := 1327) dL_law_1320 rfl (fun hc587 => ?_) (fun hc587 => ?_)
  · rw [if_pos hc587] at h
    refine e_iconst dL_law_1327 ci_0 ?_
    exact e_le (g_L_law_1328 L xs hk23 x4 (0 : Int32) v585 μ582 _ (by omega) h) ⟨rfl, rfl, rfl, rfl, rfl, trivial⟩
  · rw [if_neg hc587] at h
    refine e_iconst dL_law_1323 ci_1 ?_
    refine e_goto (tgt := 1328) dL_law_1324 rfl ?_
    exact e_le (g_L_law_1328 L xs hk23 x4 (1 : Int32) v585 μ582 _ (by omega) h) ⟨rfl, rfl, rfl, rfl, rfl, trivial⟩
set_option maxHeartbeats 4000000 in
theorem g_L_law_23 {r : Res} {μ' : Mem} (L : Nat) (xs : Nat → Int32) : ∀ n : Nat, ∀ (x4 : Int32), ∀ (μ : Mem) (b : Nat), 3 * n ≤ b → f_L_law_23 L xs n x4 μ = some (r, μ') → G (mL_law L xs) (Qe r μ') 23 [some (.ref NP), some (.ref 0), some (.ref 29), some (.ref 48), some (.int x4), none, none] [] μ b := by
  intro n
  induction n with
  | zero => intro x4 μ b hb9 h; exact nomatch (show (none : Out) = some _ from h)
  | succ n ih =>
    intro x4 μ b hb9 h
    rw [f_L_law_23.eq_2] at h
    refine e_iload dL_law_23 rfl ?_
    refine e_aload_n dL_law_25 rfl ?_
    refine e_alenS dL_law_26 rfl ?_
    refine e_iconst dL_law_27 ci_5 ?_
    refine e_isub dL_law_28 ?_
    refine e_ic_gt (tgt := 1724) dL_law_29 rfl (fun hc1 => ?_) (fun hc1 => ?_)
    · rw [if_pos hc1] at h
      refine e_iconst dL_law_1724 ci_1 ?_
      exact e_iret .boolean dL_law_1725 rfl rfl (ret_eq h)
    · rw [if_neg hc1] at h
      refine e_aload_n dL_law_32 rfl ?_
      refine e_iload dL_law_33 rfl ?_
      obtain ⟨hc2, h⟩ := ck_eq h
      refine e_ialoadS dL_law_35 rfl hc2 ?_
      refine e_bipush dL_law_36 cb_31 ?_
      refine e_iand dL_law_38 ?_
      by_cases hc3 : ((xs (Int32.toNatClampNeg x4)) &&& (31 : Int32)) = (0 : Int32)
      · rw [if_pos hc3] at h
        refine e_tsL (0 : Int32) (tgt := 168) hc3 dL_law_39 (by decide) (by decide) rfl rfl ?_
        refine e_aload_n dL_law_168 rfl ?_
        refine e_aload_n dL_law_169 rfl ?_
        refine e_iload dL_law_170 rfl ?_
        refine e_iconst dL_law_172 ci_1 ?_
        refine e_iadd dL_law_173 ?_
        obtain ⟨hc4, h⟩ := ck_eq h
        refine e_ialoadS dL_law_174 rfl hc4 ?_
        refine e_aload_n dL_law_175 rfl ?_
        refine cI_go h (fun E7 hc5 hr8 => e_SX [.ref 0, .int (xs (Int32.toNatClampNeg (x4 + (1 : Int32)))), .ref 48] [] dL_law_176 rfl (by decide) rfl rfl (Nat.le_of_ble_eq_true rfl) (by omega) ⟨xs (Int32.toNatClampNeg (x4 + (1 : Int32))), rfl, hc5⟩ rfl ⟨hr8.symm, rfl⟩) (fun v9 μ6 hc5 h => ?_)
        refine e_SI [.ref 0, .int (xs (Int32.toNatClampNeg (x4 + (1 : Int32)))), .ref 48] [] dL_law_176 rfl (by decide) rfl rfl (Nat.le_of_ble_eq_true rfl) (by omega) ⟨xs (Int32.toNatClampNeg (x4 + (1 : Int32))), rfl, hc5⟩ ?_
        refine e_istoreL [some (.ref NP), some (.ref 0), some (.ref 29), some (.ref 48), some (.int x4), some (.int v9), none] dL_law_179 (Nat.le_of_ble_eq_true rfl) rfl ?_
        refine e_aload_n dL_law_181 rfl ?_
        refine e_aload_n dL_law_182 rfl ?_
        refine e_iload dL_law_183 rfl ?_
        refine e_iconst dL_law_185 ci_1 ?_
        refine e_iadd dL_law_186 ?_
        obtain ⟨hc10, h⟩ := ck_eq h
        refine e_ialoadS dL_law_187 rfl hc10 ?_
        refine cI_go h (fun E13 hc11 hr14 => e_VX [.int (xs (Int32.toNatClampNeg (x4 + (1 : Int32))))] [] dL_law_188 rfl rfl rfl rfl (by decide) (Nat.le_of_ble_eq_true rfl) (by omega) ⟨xs (Int32.toNatClampNeg (x4 + (1 : Int32))), rfl, hc11⟩ rfl ⟨hr14.symm, rfl⟩) (fun v15 μ12 hc11 h => ?_)
        refine e_VI [.int (xs (Int32.toNatClampNeg (x4 + (1 : Int32))))] [] dL_law_188 rfl rfl rfl rfl (by decide) (Nat.le_of_ble_eq_true rfl) (by omega) ⟨xs (Int32.toNatClampNeg (x4 + (1 : Int32))), rfl, hc11⟩ ?_
        refine e_istoreL [some (.ref NP), some (.ref 0), some (.ref 29), some (.ref 48), some (.int x4), some (.int v9), some (.int v15)] dL_law_191 (Nat.le_of_ble_eq_true rfl) rfl ?_
        refine e_aload_n dL_law_193 rfl ?_
        refine cI_go h (fun E18 hc16 hr19 => e_VX [] [] dL_law_194 rfl rfl rfl rfl (by decide) (Nat.le_of_ble_eq_true rfl) (by omega) ⟨rfl, hc16⟩ rfl ⟨hr19.symm, rfl⟩) (fun v20 μ17 hc16 h => ?_)
        refine e_VI [] [] dL_law_194 rfl rfl rfl rfl (by decide) (Nat.le_of_ble_eq_true rfl) (by omega) ⟨rfl, hc16⟩ ?_
        refine e_iload dL_law_197 rfl ?_
        refine e_ic_eq (tgt := 204) dL_law_199 rfl (fun hc21 => ?_) (fun hc21 => ?_)
        · rw [if_pos hc21] at h
          refine e_iload dL_law_204 rfl ?_
          refine e_if_ne (tgt := 221) dL_law_206 rfl (fun hc22 => ?_) (fun hc22 => ?_)
          · rw [if_neg hc22] at h
            refine e_goto (tgt := 1718) dL_law_221 rfl ?_
            refine e_iincN 4 (5 : Int32) dL_law_1718 rfl ci_5 h (fun y9 => [some (.ref NP), some (.ref 0), some (.ref 29), some (.ref 48), some (.int y9), some (.int v9), some (.int v15)]) (fun _ => rfl) (fun v23 ev23 h => ?_)
            refine e_goto (tgt := 23) dL_law_1721 rfl ?_
            exact e_le (ih v23 μ17 _ (by omega) h) ⟨rfl, rfl, rfl, rfl, rfl, trivial⟩
          · rw [if_pos hc22] at h
            refine e_aload_n dL_law_209 rfl ?_
            refine e_iconst dL_law_210 ci_0 ?_
            refine e_laload0 (n := 1) dL_law_211 (by decide) rfl (by decide : inb (0 : Int32) 1) ?_
            refine e_iload dL_law_212 rfl ?_
            refine e_i2l dL_law_214 ?_
            refine e_lcmp dL_law_215 ?_
            refine e_if_eq (tgt := 221) dL_law_216 rfl (fun hc24 => ?_) (fun hc24 => ?_)
            · rw [if_pos hc24] at h
              refine e_goto (tgt := 1718) dL_law_221 rfl ?_
              refine e_iincN 4 (5 : Int32) dL_law_1718 rfl ci_5 h (fun y9 => [some (.ref NP), some (.ref 0), some (.ref 29), some (.ref 48), some (.int y9), some (.int v9), some (.int v15)]) (fun _ => rfl) (fun v25 ev25 h => ?_)
              refine e_goto (tgt := 23) dL_law_1721 rfl ?_
              exact e_le (ih v25 μ17 _ (by omega) h) ⟨rfl, rfl, rfl, rfl, rfl, trivial⟩
            · rw [if_neg hc24] at h
              refine e_iconst dL_law_219 ci_0 ?_
              exact e_iret .boolean dL_law_220 rfl rfl (ret_eq h)
        · rw [if_neg hc21] at h
          refine e_iconst dL_law_202 ci_0 ?_
          exact e_iret .boolean dL_law_203 rfl rfl (ret_eq h)
      rw [if_neg hc3] at h
      by_cases hc26 : ((xs (Int32.toNatClampNeg x4)) &&& (31 : Int32)) = (1 : Int32)
      · rw [if_pos hc26] at h
        refine e_tsL (1 : Int32) (tgt := 224) hc26 dL_law_39 (by decide) (by decide) rfl rfl ?_
        refine e_aload_n dL_law_224 rfl ?_
        refine cI_go h (fun E29 hc27 hr30 => e_VX [] [] dL_law_225 rfl rfl rfl rfl (by decide) (Nat.le_of_ble_eq_true rfl) (by omega) ⟨rfl, hc27⟩ rfl ⟨hr30.symm, rfl⟩) (fun v31 μ28 hc27 h => ?_)
        refine e_VI [] [] dL_law_225 rfl rfl rfl rfl (by decide) (Nat.le_of_ble_eq_true rfl) (by omega) ⟨rfl, hc27⟩ ?_
        refine e_aload_n dL_law_228 rfl ?_
        refine cI_go h (fun E34 hc32 hr35 => e_VX [] [.int v31] dL_law_229 rfl rfl rfl rfl (by decide) (Nat.le_of_ble_eq_true rfl) (by omega) ⟨rfl, hc32⟩ rfl ⟨hr35.symm, rfl⟩) (fun v36 μ33 hc32 h => ?_)
        refine e_VI [] [.int v31] dL_law_229 rfl rfl rfl rfl (by decide) (Nat.le_of_ble_eq_true rfl) (by omega) ⟨rfl, hc32⟩ ?_
        refine e_ic_eq (tgt := 1718) dL_law_232 rfl (fun hc37 => ?_) (fun hc37 => ?_)
        · rw [if_pos hc37] at h
          refine e_iincN 4 (5 : Int32) dL_law_1718 rfl ci_5 h (fun y9 => [some (.ref NP), some (.ref 0), some (.ref 29), some (.ref 48), some (.int y9), none, none]) (fun _ => rfl) (fun v38 ev38 h => ?_)
          refine e_goto (tgt := 23) dL_law_1721 rfl ?_
          exact e_le (ih v38 μ33 _ (by omega) h) ⟨rfl, rfl, rfl, rfl, rfl, trivial⟩
        · rw [if_neg hc37] at h
          refine e_iconst dL_law_235 ci_0 ?_
          exact e_iret .boolean dL_law_236 rfl rfl (ret_eq h)
      rw [if_neg hc26] at h
      by_cases hc39 : ((xs (Int32.toNatClampNeg x4)) &&& (31 : Int32)) = (2 : Int32)
      · rw [if_pos hc39] at h
        refine e_tsL (2 : Int32) (tgt := 237) hc39 dL_law_39 (by decide) (by decide) rfl rfl ?_
        refine e_aload_n dL_law_237 rfl ?_
        refine cI_go h (fun E42 hc40 hr43 => e_VX [] [] dL_law_238 rfl rfl rfl rfl (by decide) (Nat.le_of_ble_eq_true rfl) (by omega) ⟨rfl, hc40⟩ rfl ⟨hr43.symm, rfl⟩) (fun v44 μ41 hc40 h => ?_)
        refine e_VI [] [] dL_law_238 rfl rfl rfl rfl (by decide) (Nat.le_of_ble_eq_true rfl) (by omega) ⟨rfl, hc40⟩ ?_
        refine e_aload_n dL_law_241 rfl ?_
        refine cI_go h (fun E47 hc45 hr48 => e_VX [] [.int v44] dL_law_242 rfl rfl rfl rfl (by decide) (Nat.le_of_ble_eq_true rfl) (by omega) ⟨rfl, hc45⟩ rfl ⟨hr48.symm, rfl⟩) (fun v49 μ46 hc45 h => ?_)
        refine e_VI [] [.int v44] dL_law_242 rfl rfl rfl rfl (by decide) (Nat.le_of_ble_eq_true rfl) (by omega) ⟨rfl, hc45⟩ ?_
        refine e_ic_eq (tgt := 1718) dL_law_245 rfl (fun hc50 => ?_) (fun hc50 => ?_)
        · rw [if_pos hc50] at h
          refine e_iincN 4 (5 : Int32) dL_law_1718 rfl ci_5 h (fun y9 => [some (.ref NP), some (.ref 0), some (.ref 29), some (.ref 48), some (.int y9), none, none]) (fun _ => rfl) (fun v51 ev51 h => ?_)
          refine e_goto (tgt := 23) dL_law_1721 rfl ?_
          exact e_le (ih v51 μ46 _ (by omega) h) ⟨rfl, rfl, rfl, rfl, rfl, trivial⟩
        · rw [if_neg hc50] at h
          refine e_iconst dL_law_248 ci_0 ?_
          exact e_iret .boolean dL_law_249 rfl rfl (ret_eq h)
      rw [if_neg hc39] at h
      by_cases hc52 : ((xs (Int32.toNatClampNeg x4)) &&& (31 : Int32)) = (3 : Int32)
      · rw [if_pos hc52] at h
        refine e_tsL (3 : Int32) (tgt := 250) hc52 dL_law_39 (by decide) (by decide) rfl rfl ?_
        refine e_aload_n dL_law_250 rfl ?_
        refine e_aload_n dL_law_251 rfl ?_
        refine cI_go h (fun E55 hc53 hr56 => e_SX [.ref 0, .ref 48] [] dL_law_252 rfl (by decide) rfl rfl (Nat.le_of_ble_eq_true rfl) (by omega) ⟨rfl, hc53⟩ rfl ⟨hr56.symm, rfl⟩) (fun v57 μ54 hc53 h => ?_)
        refine e_SI [.ref 0, .ref 48] [] dL_law_252 rfl (by decide) rfl rfl (Nat.le_of_ble_eq_true rfl) (by omega) ⟨rfl, hc53⟩ ?_
        refine e_istoreL [some (.ref NP), some (.ref 0), some (.ref 29), some (.ref 48), some (.int x4), some (.int v57), none] dL_law_255 (Nat.le_of_ble_eq_true rfl) rfl ?_
        refine e_aload_n dL_law_257 rfl ?_
        refine cI_go h (fun E60 hc58 hr61 => e_VX [] [] dL_law_258 rfl rfl rfl rfl (by decide) (Nat.le_of_ble_eq_true rfl) (by omega) ⟨rfl, hc58⟩ rfl ⟨hr61.symm, rfl⟩) (fun v62 μ59 hc58 h => ?_)
        refine e_VI [] [] dL_law_258 rfl rfl rfl rfl (by decide) (Nat.le_of_ble_eq_true rfl) (by omega) ⟨rfl, hc58⟩ ?_
        refine e_istoreL [some (.ref NP), some (.ref 0), some (.ref 29), some (.ref 48), some (.int x4), some (.int v57), some (.int v62)] dL_law_261 (Nat.le_of_ble_eq_true rfl) rfl ?_
        refine e_aload_n dL_law_263 rfl ?_
        refine cI_go h (fun E65 hc63 hr66 => e_VX [] [] dL_law_264 rfl rfl rfl rfl (by decide) (Nat.le_of_ble_eq_true rfl) (by omega) ⟨rfl, hc63⟩ rfl ⟨hr66.symm, rfl⟩) (fun v67 μ64 hc63 h => ?_)
        refine e_VI [] [] dL_law_264 rfl rfl rfl rfl (by decide) (Nat.le_of_ble_eq_true rfl) (by omega) ⟨rfl, hc63⟩ ?_
        refine e_iload dL_law_267 rfl ?_
        refine e_ic_eq (tgt := 274) dL_law_269 rfl (fun hc68 => ?_) (fun hc68 => ?_)
        · rw [if_pos hc68] at h
          refine e_iload dL_law_274 rfl ?_
          refine e_if_ne (tgt := 291) dL_law_276 rfl (fun hc69 => ?_) (fun hc69 => ?_)
          · rw [if_neg hc69] at h
            refine e_goto (tgt := 1718) dL_law_291 rfl ?_
            refine e_iincN 4 (5 : Int32) dL_law_1718 rfl ci_5 h (fun y9 => [some (.ref NP), some (.ref 0), some (.ref 29), some (.ref 48), some (.int y9), some (.int v57), some (.int v62)]) (fun _ => rfl) (fun v70 ev70 h => ?_)
            refine e_goto (tgt := 23) dL_law_1721 rfl ?_
            exact e_le (ih v70 μ64 _ (by omega) h) ⟨rfl, rfl, rfl, rfl, rfl, trivial⟩
          · rw [if_pos hc69] at h
            refine e_aload_n dL_law_279 rfl ?_
            refine e_iconst dL_law_280 ci_0 ?_
            refine e_laload0 (n := 1) dL_law_281 (by decide) rfl (by decide : inb (0 : Int32) 1) ?_
            refine e_iload dL_law_282 rfl ?_
            refine e_i2l dL_law_284 ?_
            refine e_lcmp dL_law_285 ?_
            refine e_if_eq (tgt := 291) dL_law_286 rfl (fun hc71 => ?_) (fun hc71 => ?_)
            · rw [if_pos hc71] at h
              refine e_goto (tgt := 1718) dL_law_291 rfl ?_
              refine e_iincN 4 (5 : Int32) dL_law_1718 rfl ci_5 h (fun y9 => [some (.ref NP), some (.ref 0), some (.ref 29), some (.ref 48), some (.int y9), some (.int v57), some (.int v62)]) (fun _ => rfl) (fun v72 ev72 h => ?_)
              refine e_goto (tgt := 23) dL_law_1721 rfl ?_
              exact e_le (ih v72 μ64 _ (by omega) h) ⟨rfl, rfl, rfl, rfl, rfl, trivial⟩
            · rw [if_neg hc71] at h
              refine e_iconst dL_law_289 ci_0 ?_
              exact e_iret .boolean dL_law_290 rfl rfl (ret_eq h)
        · rw [if_neg hc68] at h
          refine e_iconst dL_law_272 ci_0 ?_
          exact e_iret .boolean dL_law_273 rfl rfl (ret_eq h)
      rw [if_neg hc52] at h
      by_cases hc73 : ((xs (Int32.toNatClampNeg x4)) &&& (31 : Int32)) = (4 : Int32)
      · rw [if_pos hc73] at h
        refine e_tsL (4 : Int32) (tgt := 294) hc73 dL_law_39 (by decide) (by decide) rfl rfl ?_
        refine e_aload_n dL_law_294 rfl ?_
        refine e_aload_n dL_law_295 rfl ?_
        refine e_iload dL_law_296 rfl ?_
        refine e_iconst dL_law_298 ci_1 ?_
        refine e_iadd dL_law_299 ?_
        obtain ⟨hc74, h⟩ := ck_eq h
        refine e_ialoadS dL_law_300 rfl hc74 ?_
        refine e_aload_n dL_law_301 rfl ?_
        refine cI_go h (fun E77 hc75 hr78 => e_SX [.ref 0, .int (xs (Int32.toNatClampNeg (x4 + (1 : Int32)))), .ref 48] [] dL_law_302 rfl (by decide) rfl rfl (Nat.le_of_ble_eq_true rfl) (by omega) ⟨xs (Int32.toNatClampNeg (x4 + (1 : Int32))), rfl, hc75⟩ rfl ⟨hr78.symm, rfl⟩) (fun v79 μ76 hc75 h => ?_)
        refine e_SI [.ref 0, .int (xs (Int32.toNatClampNeg (x4 + (1 : Int32)))), .ref 48] [] dL_law_302 rfl (by decide) rfl rfl (Nat.le_of_ble_eq_true rfl) (by omega) ⟨xs (Int32.toNatClampNeg (x4 + (1 : Int32))), rfl, hc75⟩ ?_
        refine e_istoreL [some (.ref NP), some (.ref 0), some (.ref 29), some (.ref 48), some (.int x4), some (.int v79), none] dL_law_305 (Nat.le_of_ble_eq_true rfl) rfl ?_
        refine e_aload_n dL_law_307 rfl ?_
        refine e_aload_n dL_law_308 rfl ?_
        refine e_iload dL_law_309 rfl ?_
        refine e_iconst dL_law_311 ci_1 ?_
        refine e_iadd dL_law_312 ?_
        obtain ⟨hc80, h⟩ := ck_eq h
        refine e_ialoadS dL_law_313 rfl hc80 ?_
        refine cI_go h (fun E83 hc81 hr84 => e_VX [.int (xs (Int32.toNatClampNeg (x4 + (1 : Int32))))] [] dL_law_314 rfl rfl rfl rfl (by decide) (Nat.le_of_ble_eq_true rfl) (by omega) ⟨xs (Int32.toNatClampNeg (x4 + (1 : Int32))), rfl, hc81⟩ rfl ⟨hr84.symm, rfl⟩) (fun v85 μ82 hc81 h => ?_)
        refine e_VI [.int (xs (Int32.toNatClampNeg (x4 + (1 : Int32))))] [] dL_law_314 rfl rfl rfl rfl (by decide) (Nat.le_of_ble_eq_true rfl) (by omega) ⟨xs (Int32.toNatClampNeg (x4 + (1 : Int32))), rfl, hc81⟩ ?_
        refine e_istoreL [some (.ref NP), some (.ref 0), some (.ref 29), some (.ref 48), some (.int x4), some (.int v79), some (.int v85)] dL_law_317 (Nat.le_of_ble_eq_true rfl) rfl ?_
        refine e_aload_n dL_law_319 rfl ?_
        refine cI_go h (fun E88 hc86 hr89 => e_VX [] [] dL_law_320 rfl rfl rfl rfl (by decide) (Nat.le_of_ble_eq_true rfl) (by omega) ⟨rfl, hc86⟩ rfl ⟨hr89.symm, rfl⟩) (fun v90 μ87 hc86 h => ?_)
        refine e_VI [] [] dL_law_320 rfl rfl rfl rfl (by decide) (Nat.le_of_ble_eq_true rfl) (by omega) ⟨rfl, hc86⟩ ?_
        refine e_iload dL_law_323 rfl ?_
        refine e_ic_eq (tgt := 330) dL_law_325 rfl (fun hc91 => ?_) (fun hc91 => ?_)
        · rw [if_pos hc91] at h
          refine e_iload dL_law_330 rfl ?_
          refine e_if_ne (tgt := 347) dL_law_332 rfl (fun hc92 => ?_) (fun hc92 => ?_)
          · rw [if_neg hc92] at h
            refine e_goto (tgt := 1718) dL_law_347 rfl ?_
            refine e_iincN 4 (5 : Int32) dL_law_1718 rfl ci_5 h (fun y9 => [some (.ref NP), some (.ref 0), some (.ref 29), some (.ref 48), some (.int y9), some (.int v79), some (.int v85)]) (fun _ => rfl) (fun v93 ev93 h => ?_)
            refine e_goto (tgt := 23) dL_law_1721 rfl ?_
            exact e_le (ih v93 μ87 _ (by omega) h) ⟨rfl, rfl, rfl, rfl, rfl, trivial⟩
          · rw [if_pos hc92] at h
            refine e_aload_n dL_law_335 rfl ?_
            refine e_iconst dL_law_336 ci_0 ?_
            refine e_laload0 (n := 1) dL_law_337 (by decide) rfl (by decide : inb (0 : Int32) 1) ?_
            refine e_iload dL_law_338 rfl ?_
            refine e_i2l dL_law_340 ?_
            refine e_lcmp dL_law_341 ?_
            refine e_if_eq (tgt := 347) dL_law_342 rfl (fun hc94 => ?_) (fun hc94 => ?_)
            · rw [if_pos hc94] at h
              refine e_goto (tgt := 1718) dL_law_347 rfl ?_
              refine e_iincN 4 (5 : Int32) dL_law_1718 rfl ci_5 h (fun y9 => [some (.ref NP), some (.ref 0), some (.ref 29), some (.ref 48), some (.int y9), some (.int v79), some (.int v85)]) (fun _ => rfl) (fun v95 ev95 h => ?_)
              refine e_goto (tgt := 23) dL_law_1721 rfl ?_
              exact e_le (ih v95 μ87 _ (by omega) h) ⟨rfl, rfl, rfl, rfl, rfl, trivial⟩
            · rw [if_neg hc94] at h
              refine e_iconst dL_law_345 ci_0 ?_
              exact e_iret .boolean dL_law_346 rfl rfl (ret_eq h)
        · rw [if_neg hc91] at h
          refine e_iconst dL_law_328 ci_0 ?_
          exact e_iret .boolean dL_law_329 rfl rfl (ret_eq h)
      rw [if_neg hc73] at h
      by_cases hc96 : ((xs (Int32.toNatClampNeg x4)) &&& (31 : Int32)) = (5 : Int32)
      · rw [if_pos hc96] at h
        refine e_tsL (5 : Int32) (tgt := 350) hc96 dL_law_39 (by decide) (by decide) rfl rfl ?_
        refine e_aload_n dL_law_350 rfl ?_
        refine e_aload_n dL_law_351 rfl ?_
        refine e_iload dL_law_352 rfl ?_
        refine e_iconst dL_law_354 ci_1 ?_
        refine e_iadd dL_law_355 ?_
        obtain ⟨hc97, h⟩ := ck_eq h
        refine e_ialoadS dL_law_356 rfl hc97 ?_
        refine e_aload_n dL_law_357 rfl ?_
        refine e_iload dL_law_358 rfl ?_
        refine e_iconst dL_law_360 ci_2 ?_
        refine e_iadd dL_law_361 ?_
        obtain ⟨hc98, h⟩ := ck_eq h
        refine e_ialoadS dL_law_362 rfl hc98 ?_
        refine e_aload_n dL_law_363 rfl ?_
        refine cI_go h (fun E101 hc99 hr102 => e_SX [.ref 0, .int (xs (Int32.toNatClampNeg (x4 + (1 : Int32)))), .int (xs (Int32.toNatClampNeg (x4 + (2 : Int32)))), .ref 48] [] dL_law_364 rfl (by decide) rfl rfl (Nat.le_of_ble_eq_true rfl) (by omega) ⟨xs (Int32.toNatClampNeg (x4 + (1 : Int32))), xs (Int32.toNatClampNeg (x4 + (2 : Int32))), rfl, hc99⟩ rfl ⟨hr102.symm, rfl⟩) (fun v103 μ100 hc99 h => ?_)
        refine e_SI [.ref 0, .int (xs (Int32.toNatClampNeg (x4 + (1 : Int32)))), .int (xs (Int32.toNatClampNeg (x4 + (2 : Int32)))), .ref 48] [] dL_law_364 rfl (by decide) rfl rfl (Nat.le_of_ble_eq_true rfl) (by omega) ⟨xs (Int32.toNatClampNeg (x4 + (1 : Int32))), xs (Int32.toNatClampNeg (x4 + (2 : Int32))), rfl, hc99⟩ ?_
        refine e_istoreL [some (.ref NP), some (.ref 0), some (.ref 29), some (.ref 48), some (.int x4), some (.int v103), none] dL_law_367 (Nat.le_of_ble_eq_true rfl) rfl ?_
        refine e_aload_n dL_law_369 rfl ?_
        refine e_aload_n dL_law_370 rfl ?_
        refine e_iload dL_law_371 rfl ?_
        refine e_iconst dL_law_373 ci_1 ?_
        refine e_iadd dL_law_374 ?_
        obtain ⟨hc104, h⟩ := ck_eq h
        refine e_ialoadS dL_law_375 rfl hc104 ?_
        refine e_aload_n dL_law_376 rfl ?_
        refine e_iload dL_law_377 rfl ?_
        refine e_iconst dL_law_379 ci_2 ?_
        refine e_iadd dL_law_380 ?_
        obtain ⟨hc105, h⟩ := ck_eq h
        refine e_ialoadS dL_law_381 rfl hc105 ?_
        refine cI_go h (fun E108 hc106 hr109 => e_VX [.int (xs (Int32.toNatClampNeg (x4 + (1 : Int32)))), .int (xs (Int32.toNatClampNeg (x4 + (2 : Int32))))] [] dL_law_382 rfl rfl rfl rfl (by decide) (Nat.le_of_ble_eq_true rfl) (by omega) ⟨xs (Int32.toNatClampNeg (x4 + (1 : Int32))), xs (Int32.toNatClampNeg (x4 + (2 : Int32))), rfl, hc106⟩ rfl ⟨hr109.symm, rfl⟩) (fun v110 μ107 hc106 h => ?_)
        refine e_VI [.int (xs (Int32.toNatClampNeg (x4 + (1 : Int32)))), .int (xs (Int32.toNatClampNeg (x4 + (2 : Int32))))] [] dL_law_382 rfl rfl rfl rfl (by decide) (Nat.le_of_ble_eq_true rfl) (by omega) ⟨xs (Int32.toNatClampNeg (x4 + (1 : Int32))), xs (Int32.toNatClampNeg (x4 + (2 : Int32))), rfl, hc106⟩ ?_
        refine e_istoreL [some (.ref NP), some (.ref 0), some (.ref 29), some (.ref 48), some (.int x4), some (.int v103), some (.int v110)] dL_law_385 (Nat.le_of_ble_eq_true rfl) rfl ?_
        refine e_aload_n dL_law_387 rfl ?_
        refine cI_go h (fun E113 hc111 hr114 => e_VX [] [] dL_law_388 rfl rfl rfl rfl (by decide) (Nat.le_of_ble_eq_true rfl) (by omega) ⟨rfl, hc111⟩ rfl ⟨hr114.symm, rfl⟩) (fun v115 μ112 hc111 h => ?_)
        refine e_VI [] [] dL_law_388 rfl rfl rfl rfl (by decide) (Nat.le_of_ble_eq_true rfl) (by omega) ⟨rfl, hc111⟩ ?_
        refine e_iload dL_law_391 rfl ?_
        refine e_ic_eq (tgt := 398) dL_law_393 rfl (fun hc116 => ?_) (fun hc116 => ?_)
        · rw [if_pos hc116] at h
          refine e_iload dL_law_398 rfl ?_
          refine e_if_ne (tgt := 415) dL_law_400 rfl (fun hc117 => ?_) (fun hc117 => ?_)
          · rw [if_neg hc117] at h
            refine e_goto (tgt := 1718) dL_law_415 rfl ?_
            refine e_iincN 4 (5 : Int32) dL_law_1718 rfl ci_5 h (fun y9 => [some (.ref NP), some (.ref 0), some (.ref 29), some (.ref 48), some (.int y9), some (.int v103), some (.int v110)]) (fun _ => rfl) (fun v118 ev118 h => ?_)
            refine e_goto (tgt := 23) dL_law_1721 rfl ?_
            exact e_le (ih v118 μ112 _ (by omega) h) ⟨rfl, rfl, rfl, rfl, rfl, trivial⟩
          · rw [if_pos hc117] at h
            refine e_aload_n dL_law_403 rfl ?_
            refine e_iconst dL_law_404 ci_0 ?_
            refine e_laload0 (n := 1) dL_law_405 (by decide) rfl (by decide : inb (0 : Int32) 1) ?_
            refine e_iload dL_law_406 rfl ?_
            refine e_i2l dL_law_408 ?_
            refine e_lcmp dL_law_409 ?_
            refine e_if_eq (tgt := 415) dL_law_410 rfl (fun hc119 => ?_) (fun hc119 => ?_)
            · rw [if_pos hc119] at h
              refine e_goto (tgt := 1718) dL_law_415 rfl ?_
              refine e_iincN 4 (5 : Int32) dL_law_1718 rfl ci_5 h (fun y9 => [some (.ref NP), some (.ref 0), some (.ref 29), some (.ref 48), some (.int y9), some (.int v103), some (.int v110)]) (fun _ => rfl) (fun v120 ev120 h => ?_)
              refine e_goto (tgt := 23) dL_law_1721 rfl ?_
              exact e_le (ih v120 μ112 _ (by omega) h) ⟨rfl, rfl, rfl, rfl, rfl, trivial⟩
            · rw [if_neg hc119] at h
              refine e_iconst dL_law_413 ci_0 ?_
              exact e_iret .boolean dL_law_414 rfl rfl (ret_eq h)
        · rw [if_neg hc116] at h
          refine e_iconst dL_law_396 ci_0 ?_
          exact e_iret .boolean dL_law_397 rfl rfl (ret_eq h)
      rw [if_neg hc96] at h
      by_cases hc121 : ((xs (Int32.toNatClampNeg x4)) &&& (31 : Int32)) = (6 : Int32)
      · rw [if_pos hc121] at h
        refine e_tsL (6 : Int32) (tgt := 418) hc121 dL_law_39 (by decide) (by decide) rfl rfl ?_
        refine e_aload_n dL_law_418 rfl ?_
        refine e_aload_n dL_law_419 rfl ?_
        refine e_iload dL_law_420 rfl ?_
        refine e_iconst dL_law_422 ci_1 ?_
        refine e_iadd dL_law_423 ?_
        obtain ⟨hc122, h⟩ := ck_eq h
        refine e_ialoadS dL_law_424 rfl hc122 ?_
        refine e_aload_n dL_law_425 rfl ?_
        refine e_iload dL_law_426 rfl ?_
        refine e_iconst dL_law_428 ci_2 ?_
        refine e_iadd dL_law_429 ?_
        obtain ⟨hc123, h⟩ := ck_eq h
        refine e_ialoadS dL_law_430 rfl hc123 ?_
        refine e_aload_n dL_law_431 rfl ?_
        refine e_iload dL_law_432 rfl ?_
        refine e_iconst dL_law_434 ci_3 ?_
        refine e_iadd dL_law_435 ?_
        obtain ⟨hc124, h⟩ := ck_eq h
        refine e_ialoadS dL_law_436 rfl hc124 ?_
        refine e_aload_n dL_law_437 rfl ?_
        refine cI_go h (fun E127 hc125 hr128 => e_SX [.ref 0, .int (xs (Int32.toNatClampNeg (x4 + (1 : Int32)))), .int (xs (Int32.toNatClampNeg (x4 + (2 : Int32)))), .int (xs (Int32.toNatClampNeg (x4 + (3 : Int32)))), .ref 48] [] dL_law_438 rfl (by decide) rfl rfl (Nat.le_of_ble_eq_true rfl) (by omega) ⟨xs (Int32.toNatClampNeg (x4 + (1 : Int32))), xs (Int32.toNatClampNeg (x4 + (2 : Int32))), xs (Int32.toNatClampNeg (x4 + (3 : Int32))), rfl, hc125⟩ rfl ⟨hr128.symm, rfl⟩) (fun v129 μ126 hc125 h => ?_)
        refine e_SI [.ref 0, .int (xs (Int32.toNatClampNeg (x4 + (1 : Int32)))), .int (xs (Int32.toNatClampNeg (x4 + (2 : Int32)))), .int (xs (Int32.toNatClampNeg (x4 + (3 : Int32)))), .ref 48] [] dL_law_438 rfl (by decide) rfl rfl (Nat.le_of_ble_eq_true rfl) (by omega) ⟨xs (Int32.toNatClampNeg (x4 + (1 : Int32))), xs (Int32.toNatClampNeg (x4 + (2 : Int32))), xs (Int32.toNatClampNeg (x4 + (3 : Int32))), rfl, hc125⟩ ?_
        refine e_istoreL [some (.ref NP), some (.ref 0), some (.ref 29), some (.ref 48), some (.int x4), some (.int v129), none] dL_law_441 (Nat.le_of_ble_eq_true rfl) rfl ?_
        refine e_aload_n dL_law_443 rfl ?_
        refine e_aload_n dL_law_444 rfl ?_
        refine e_iload dL_law_445 rfl ?_
        refine e_iconst dL_law_447 ci_1 ?_
        refine e_iadd dL_law_448 ?_
        obtain ⟨hc130, h⟩ := ck_eq h
        refine e_ialoadS dL_law_449 rfl hc130 ?_
        refine e_aload_n dL_law_450 rfl ?_
        refine e_iload dL_law_451 rfl ?_
        refine e_iconst dL_law_453 ci_2 ?_
        refine e_iadd dL_law_454 ?_
        obtain ⟨hc131, h⟩ := ck_eq h
        refine e_ialoadS dL_law_455 rfl hc131 ?_
        refine e_aload_n dL_law_456 rfl ?_
        refine e_iload dL_law_457 rfl ?_
        refine e_iconst dL_law_459 ci_3 ?_
        refine e_iadd dL_law_460 ?_
        obtain ⟨hc132, h⟩ := ck_eq h
        refine e_ialoadS dL_law_461 rfl hc132 ?_
        refine cI_go h (fun E135 hc133 hr136 => e_VX [.int (xs (Int32.toNatClampNeg (x4 + (1 : Int32)))), .int (xs (Int32.toNatClampNeg (x4 + (2 : Int32)))), .int (xs (Int32.toNatClampNeg (x4 + (3 : Int32))))] [] dL_law_462 rfl rfl rfl rfl (by decide) (Nat.le_of_ble_eq_true rfl) (by omega) ⟨xs (Int32.toNatClampNeg (x4 + (1 : Int32))), xs (Int32.toNatClampNeg (x4 + (2 : Int32))), xs (Int32.toNatClampNeg (x4 + (3 : Int32))), rfl, hc133⟩ rfl ⟨hr136.symm, rfl⟩) (fun v137 μ134 hc133 h => ?_)
        refine e_VI [.int (xs (Int32.toNatClampNeg (x4 + (1 : Int32)))), .int (xs (Int32.toNatClampNeg (x4 + (2 : Int32)))), .int (xs (Int32.toNatClampNeg (x4 + (3 : Int32))))] [] dL_law_462 rfl rfl rfl rfl (by decide) (Nat.le_of_ble_eq_true rfl) (by omega) ⟨xs (Int32.toNatClampNeg (x4 + (1 : Int32))), xs (Int32.toNatClampNeg (x4 + (2 : Int32))), xs (Int32.toNatClampNeg (x4 + (3 : Int32))), rfl, hc133⟩ ?_
        refine e_istoreL [some (.ref NP), some (.ref 0), some (.ref 29), some (.ref 48), some (.int x4), some (.int v129), some (.int v137)] dL_law_465 (Nat.le_of_ble_eq_true rfl) rfl ?_
        refine e_aload_n dL_law_467 rfl ?_
        refine cI_go h (fun E140 hc138 hr141 => e_VX [] [] dL_law_468 rfl rfl rfl rfl (by decide) (Nat.le_of_ble_eq_true rfl) (by omega) ⟨rfl, hc138⟩ rfl ⟨hr141.symm, rfl⟩) (fun v142 μ139 hc138 h => ?_)
        refine e_VI [] [] dL_law_468 rfl rfl rfl rfl (by decide) (Nat.le_of_ble_eq_true rfl) (by omega) ⟨rfl, hc138⟩ ?_
        refine e_iload dL_law_471 rfl ?_
        refine e_ic_eq (tgt := 478) dL_law_473 rfl (fun hc143 => ?_) (fun hc143 => ?_)
        · rw [if_pos hc143] at h
          refine e_iload dL_law_478 rfl ?_
          refine e_if_ne (tgt := 495) dL_law_480 rfl (fun hc144 => ?_) (fun hc144 => ?_)
          · rw [if_neg hc144] at h
            refine e_goto (tgt := 1718) dL_law_495 rfl ?_
            refine e_iincN 4 (5 : Int32) dL_law_1718 rfl ci_5 h (fun y9 => [some (.ref NP), some (.ref 0), some (.ref 29), some (.ref 48), some (.int y9), some (.int v129), some (.int v137)]) (fun _ => rfl) (fun v145 ev145 h => ?_)
            refine e_goto (tgt := 23) dL_law_1721 rfl ?_
            exact e_le (ih v145 μ139 _ (by omega) h) ⟨rfl, rfl, rfl, rfl, rfl, trivial⟩
          · rw [if_pos hc144] at h
            refine e_aload_n dL_law_483 rfl ?_
            refine e_iconst dL_law_484 ci_0 ?_
            refine e_laload0 (n := 1) dL_law_485 (by decide) rfl (by decide : inb (0 : Int32) 1) ?_
            refine e_iload dL_law_486 rfl ?_
            refine e_i2l dL_law_488 ?_
            refine e_lcmp dL_law_489 ?_
            refine e_if_eq (tgt := 495) dL_law_490 rfl (fun hc146 => ?_) (fun hc146 => ?_)
            · rw [if_pos hc146] at h
              refine e_goto (tgt := 1718) dL_law_495 rfl ?_
              refine e_iincN 4 (5 : Int32) dL_law_1718 rfl ci_5 h (fun y9 => [some (.ref NP), some (.ref 0), some (.ref 29), some (.ref 48), some (.int y9), some (.int v129), some (.int v137)]) (fun _ => rfl) (fun v147 ev147 h => ?_)
              refine e_goto (tgt := 23) dL_law_1721 rfl ?_
              exact e_le (ih v147 μ139 _ (by omega) h) ⟨rfl, rfl, rfl, rfl, rfl, trivial⟩
            · rw [if_neg hc146] at h
              refine e_iconst dL_law_493 ci_0 ?_
              exact e_iret .boolean dL_law_494 rfl rfl (ret_eq h)
        · rw [if_neg hc143] at h
          refine e_iconst dL_law_476 ci_0 ?_
          exact e_iret .boolean dL_law_477 rfl rfl (ret_eq h)
      rw [if_neg hc121] at h
      by_cases hc148 : ((xs (Int32.toNatClampNeg x4)) &&& (31 : Int32)) = (7 : Int32)
      · rw [if_pos hc148] at h
        refine e_tsL (7 : Int32) (tgt := 498) hc148 dL_law_39 (by decide) (by decide) rfl rfl ?_
        refine e_aload_n dL_law_498 rfl ?_
        refine e_aload_n dL_law_499 rfl ?_
        refine e_iload dL_law_500 rfl ?_
        refine e_iconst dL_law_502 ci_1 ?_
        refine e_iadd dL_law_503 ?_
        obtain ⟨hc149, h⟩ := ck_eq h
        refine e_ialoadS dL_law_504 rfl hc149 ?_
        refine e_aload_n dL_law_505 rfl ?_
        refine e_iload dL_law_506 rfl ?_
        refine e_iconst dL_law_508 ci_2 ?_
        refine e_iadd dL_law_509 ?_
        obtain ⟨hc150, h⟩ := ck_eq h
        refine e_ialoadS dL_law_510 rfl hc150 ?_
        refine e_aload_n dL_law_511 rfl ?_
        refine cI_go h (fun E153 hc151 hr154 => e_SX [.ref 0, .int (xs (Int32.toNatClampNeg (x4 + (1 : Int32)))), .int (xs (Int32.toNatClampNeg (x4 + (2 : Int32)))), .ref 48] [] dL_law_512 rfl (by decide) rfl rfl (Nat.le_of_ble_eq_true rfl) (by omega) ⟨xs (Int32.toNatClampNeg (x4 + (1 : Int32))), xs (Int32.toNatClampNeg (x4 + (2 : Int32))), rfl, hc151⟩ rfl ⟨hr154.symm, rfl⟩) (fun v155 μ152 hc151 h => ?_)
        refine e_SI [.ref 0, .int (xs (Int32.toNatClampNeg (x4 + (1 : Int32)))), .int (xs (Int32.toNatClampNeg (x4 + (2 : Int32)))), .ref 48] [] dL_law_512 rfl (by decide) rfl rfl (Nat.le_of_ble_eq_true rfl) (by omega) ⟨xs (Int32.toNatClampNeg (x4 + (1 : Int32))), xs (Int32.toNatClampNeg (x4 + (2 : Int32))), rfl, hc151⟩ ?_
        refine e_istoreL [some (.ref NP), some (.ref 0), some (.ref 29), some (.ref 48), some (.int x4), some (.int v155), none] dL_law_515 (Nat.le_of_ble_eq_true rfl) rfl ?_
        refine e_aload_n dL_law_517 rfl ?_
        refine e_aload_n dL_law_518 rfl ?_
        refine e_iload dL_law_519 rfl ?_
        refine e_iconst dL_law_521 ci_1 ?_
        refine e_iadd dL_law_522 ?_
        obtain ⟨hc156, h⟩ := ck_eq h
        refine e_ialoadS dL_law_523 rfl hc156 ?_
        refine e_aload_n dL_law_524 rfl ?_
        refine e_iload dL_law_525 rfl ?_
        refine e_iconst dL_law_527 ci_2 ?_
        refine e_iadd dL_law_528 ?_
        obtain ⟨hc157, h⟩ := ck_eq h
        refine e_ialoadS dL_law_529 rfl hc157 ?_
        refine cI_go h (fun E160 hc158 hr161 => e_VX [.int (xs (Int32.toNatClampNeg (x4 + (1 : Int32)))), .int (xs (Int32.toNatClampNeg (x4 + (2 : Int32))))] [] dL_law_530 rfl rfl rfl rfl (by decide) (Nat.le_of_ble_eq_true rfl) (by omega) ⟨xs (Int32.toNatClampNeg (x4 + (1 : Int32))), xs (Int32.toNatClampNeg (x4 + (2 : Int32))), rfl, hc158⟩ rfl ⟨hr161.symm, rfl⟩) (fun v162 μ159 hc158 h => ?_)
        refine e_VI [.int (xs (Int32.toNatClampNeg (x4 + (1 : Int32)))), .int (xs (Int32.toNatClampNeg (x4 + (2 : Int32))))] [] dL_law_530 rfl rfl rfl rfl (by decide) (Nat.le_of_ble_eq_true rfl) (by omega) ⟨xs (Int32.toNatClampNeg (x4 + (1 : Int32))), xs (Int32.toNatClampNeg (x4 + (2 : Int32))), rfl, hc158⟩ ?_
        refine e_istoreL [some (.ref NP), some (.ref 0), some (.ref 29), some (.ref 48), some (.int x4), some (.int v155), some (.int v162)] dL_law_533 (Nat.le_of_ble_eq_true rfl) rfl ?_
        refine e_aload_n dL_law_535 rfl ?_
        refine cI_go h (fun E165 hc163 hr166 => e_VX [] [] dL_law_536 rfl rfl rfl rfl (by decide) (Nat.le_of_ble_eq_true rfl) (by omega) ⟨rfl, hc163⟩ rfl ⟨hr166.symm, rfl⟩) (fun v167 μ164 hc163 h => ?_)
        refine e_VI [] [] dL_law_536 rfl rfl rfl rfl (by decide) (Nat.le_of_ble_eq_true rfl) (by omega) ⟨rfl, hc163⟩ ?_
        refine e_iload dL_law_539 rfl ?_
        refine e_ic_eq (tgt := 546) dL_law_541 rfl (fun hc168 => ?_) (fun hc168 => ?_)
        · rw [if_pos hc168] at h
          refine e_iload dL_law_546 rfl ?_
          refine e_if_ne (tgt := 563) dL_law_548 rfl (fun hc169 => ?_) (fun hc169 => ?_)
          · rw [if_neg hc169] at h
            refine e_goto (tgt := 1718) dL_law_563 rfl ?_
            refine e_iincN 4 (5 : Int32) dL_law_1718 rfl ci_5 h (fun y9 => [some (.ref NP), some (.ref 0), some (.ref 29), some (.ref 48), some (.int y9), some (.int v155), some (.int v162)]) (fun _ => rfl) (fun v170 ev170 h => ?_)
            refine e_goto (tgt := 23) dL_law_1721 rfl ?_
            exact e_le (ih v170 μ164 _ (by omega) h) ⟨rfl, rfl, rfl, rfl, rfl, trivial⟩
          · rw [if_pos hc169] at h
            refine e_aload_n dL_law_551 rfl ?_
            refine e_iconst dL_law_552 ci_0 ?_
            refine e_laload0 (n := 1) dL_law_553 (by decide) rfl (by decide : inb (0 : Int32) 1) ?_
            refine e_iload dL_law_554 rfl ?_
            refine e_i2l dL_law_556 ?_
            refine e_lcmp dL_law_557 ?_
            refine e_if_eq (tgt := 563) dL_law_558 rfl (fun hc171 => ?_) (fun hc171 => ?_)
            · rw [if_pos hc171] at h
              refine e_goto (tgt := 1718) dL_law_563 rfl ?_
              refine e_iincN 4 (5 : Int32) dL_law_1718 rfl ci_5 h (fun y9 => [some (.ref NP), some (.ref 0), some (.ref 29), some (.ref 48), some (.int y9), some (.int v155), some (.int v162)]) (fun _ => rfl) (fun v172 ev172 h => ?_)
              refine e_goto (tgt := 23) dL_law_1721 rfl ?_
              exact e_le (ih v172 μ164 _ (by omega) h) ⟨rfl, rfl, rfl, rfl, rfl, trivial⟩
            · rw [if_neg hc171] at h
              refine e_iconst dL_law_561 ci_0 ?_
              exact e_iret .boolean dL_law_562 rfl rfl (ret_eq h)
        · rw [if_neg hc168] at h
          refine e_iconst dL_law_544 ci_0 ?_
          exact e_iret .boolean dL_law_545 rfl rfl (ret_eq h)
      rw [if_neg hc148] at h
      by_cases hc173 : ((xs (Int32.toNatClampNeg x4)) &&& (31 : Int32)) = (8 : Int32)
      · rw [if_pos hc173] at h
        refine e_tsL (8 : Int32) (tgt := 566) hc173 dL_law_39 (by decide) (by decide) rfl rfl ?_
        refine e_aload_n dL_law_566 rfl ?_
        refine e_aload_n dL_law_567 rfl ?_
        refine e_iload dL_law_568 rfl ?_
        refine e_iconst dL_law_570 ci_1 ?_
        refine e_iadd dL_law_571 ?_
        obtain ⟨hc174, h⟩ := ck_eq h
        refine e_ialoadS dL_law_572 rfl hc174 ?_
        refine e_aload_n dL_law_573 rfl ?_
        refine cI_go h (fun E177 hc175 hr178 => e_SX [.ref 0, .int (xs (Int32.toNatClampNeg (x4 + (1 : Int32)))), .ref 48] [] dL_law_574 rfl (by decide) rfl rfl (Nat.le_of_ble_eq_true rfl) (by omega) ⟨xs (Int32.toNatClampNeg (x4 + (1 : Int32))), rfl, hc175⟩ rfl ⟨hr178.symm, rfl⟩) (fun v179 μ176 hc175 h => ?_)
        refine e_SI [.ref 0, .int (xs (Int32.toNatClampNeg (x4 + (1 : Int32)))), .ref 48] [] dL_law_574 rfl (by decide) rfl rfl (Nat.le_of_ble_eq_true rfl) (by omega) ⟨xs (Int32.toNatClampNeg (x4 + (1 : Int32))), rfl, hc175⟩ ?_
        refine e_istoreL [some (.ref NP), some (.ref 0), some (.ref 29), some (.ref 48), some (.int x4), some (.int v179), none] dL_law_577 (Nat.le_of_ble_eq_true rfl) rfl ?_
        refine e_aload_n dL_law_579 rfl ?_
        refine e_aload_n dL_law_580 rfl ?_
        refine e_iload dL_law_581 rfl ?_
        refine e_iconst dL_law_583 ci_1 ?_
        refine e_iadd dL_law_584 ?_
        obtain ⟨hc180, h⟩ := ck_eq h
        refine e_ialoadS dL_law_585 rfl hc180 ?_
        refine cI_go h (fun E183 hc181 hr184 => e_VX [.int (xs (Int32.toNatClampNeg (x4 + (1 : Int32))))] [] dL_law_586 rfl rfl rfl rfl (by decide) (Nat.le_of_ble_eq_true rfl) (by omega) ⟨xs (Int32.toNatClampNeg (x4 + (1 : Int32))), rfl, hc181⟩ rfl ⟨hr184.symm, rfl⟩) (fun v185 μ182 hc181 h => ?_)
        refine e_VI [.int (xs (Int32.toNatClampNeg (x4 + (1 : Int32))))] [] dL_law_586 rfl rfl rfl rfl (by decide) (Nat.le_of_ble_eq_true rfl) (by omega) ⟨xs (Int32.toNatClampNeg (x4 + (1 : Int32))), rfl, hc181⟩ ?_
        refine e_istoreL [some (.ref NP), some (.ref 0), some (.ref 29), some (.ref 48), some (.int x4), some (.int v179), some (.int v185)] dL_law_589 (Nat.le_of_ble_eq_true rfl) rfl ?_
        refine e_aload_n dL_law_591 rfl ?_
        refine cI_go h (fun E188 hc186 hr189 => e_VX [] [] dL_law_592 rfl rfl rfl rfl (by decide) (Nat.le_of_ble_eq_true rfl) (by omega) ⟨rfl, hc186⟩ rfl ⟨hr189.symm, rfl⟩) (fun v190 μ187 hc186 h => ?_)
        refine e_VI [] [] dL_law_592 rfl rfl rfl rfl (by decide) (Nat.le_of_ble_eq_true rfl) (by omega) ⟨rfl, hc186⟩ ?_
        refine e_iload dL_law_595 rfl ?_
        refine e_ic_eq (tgt := 602) dL_law_597 rfl (fun hc191 => ?_) (fun hc191 => ?_)
        · rw [if_pos hc191] at h
          refine e_iload dL_law_602 rfl ?_
          refine e_if_ne (tgt := 619) dL_law_604 rfl (fun hc192 => ?_) (fun hc192 => ?_)
          · rw [if_neg hc192] at h
            refine e_goto (tgt := 1718) dL_law_619 rfl ?_
            refine e_iincN 4 (5 : Int32) dL_law_1718 rfl ci_5 h (fun y9 => [some (.ref NP), some (.ref 0), some (.ref 29), some (.ref 48), some (.int y9), some (.int v179), some (.int v185)]) (fun _ => rfl) (fun v193 ev193 h => ?_)
            refine e_goto (tgt := 23) dL_law_1721 rfl ?_
            exact e_le (ih v193 μ187 _ (by omega) h) ⟨rfl, rfl, rfl, rfl, rfl, trivial⟩
          · rw [if_pos hc192] at h
            refine e_aload_n dL_law_607 rfl ?_
            refine e_iconst dL_law_608 ci_0 ?_
            refine e_laload0 (n := 1) dL_law_609 (by decide) rfl (by decide : inb (0 : Int32) 1) ?_
            refine e_iload dL_law_610 rfl ?_
            refine e_i2l dL_law_612 ?_
            refine e_lcmp dL_law_613 ?_
            refine e_if_eq (tgt := 619) dL_law_614 rfl (fun hc194 => ?_) (fun hc194 => ?_)
            · rw [if_pos hc194] at h
              refine e_goto (tgt := 1718) dL_law_619 rfl ?_
              refine e_iincN 4 (5 : Int32) dL_law_1718 rfl ci_5 h (fun y9 => [some (.ref NP), some (.ref 0), some (.ref 29), some (.ref 48), some (.int y9), some (.int v179), some (.int v185)]) (fun _ => rfl) (fun v195 ev195 h => ?_)
              refine e_goto (tgt := 23) dL_law_1721 rfl ?_
              exact e_le (ih v195 μ187 _ (by omega) h) ⟨rfl, rfl, rfl, rfl, rfl, trivial⟩
            · rw [if_neg hc194] at h
              refine e_iconst dL_law_617 ci_0 ?_
              exact e_iret .boolean dL_law_618 rfl rfl (ret_eq h)
        · rw [if_neg hc191] at h
          refine e_iconst dL_law_600 ci_0 ?_
          exact e_iret .boolean dL_law_601 rfl rfl (ret_eq h)
      rw [if_neg hc173] at h
      by_cases hc196 : ((xs (Int32.toNatClampNeg x4)) &&& (31 : Int32)) = (9 : Int32)
      · rw [if_pos hc196] at h
        refine e_tsL (9 : Int32) (tgt := 622) hc196 dL_law_39 (by decide) (by decide) rfl rfl ?_
        refine e_aload_n dL_law_622 rfl ?_
        refine e_aload_n dL_law_623 rfl ?_
        refine e_iload dL_law_624 rfl ?_
        refine e_iconst dL_law_626 ci_1 ?_
        refine e_iadd dL_law_627 ?_
        obtain ⟨hc197, h⟩ := ck_eq h
        refine e_ialoadS dL_law_628 rfl hc197 ?_
        refine e_aload_n dL_law_629 rfl ?_
        refine cI_go h (fun E200 hc198 hr201 => e_SX [.ref 0, .int (xs (Int32.toNatClampNeg (x4 + (1 : Int32)))), .ref 48] [] dL_law_630 rfl (by decide) rfl rfl (Nat.le_of_ble_eq_true rfl) (by omega) ⟨xs (Int32.toNatClampNeg (x4 + (1 : Int32))), rfl, hc198⟩ rfl ⟨hr201.symm, rfl⟩) (fun v202 μ199 hc198 h => ?_)
        refine e_SI [.ref 0, .int (xs (Int32.toNatClampNeg (x4 + (1 : Int32)))), .ref 48] [] dL_law_630 rfl (by decide) rfl rfl (Nat.le_of_ble_eq_true rfl) (by omega) ⟨xs (Int32.toNatClampNeg (x4 + (1 : Int32))), rfl, hc198⟩ ?_
        refine e_istoreL [some (.ref NP), some (.ref 0), some (.ref 29), some (.ref 48), some (.int x4), some (.int v202), none] dL_law_633 (Nat.le_of_ble_eq_true rfl) rfl ?_
        refine e_aload_n dL_law_635 rfl ?_
        refine e_aload_n dL_law_636 rfl ?_
        refine e_iload dL_law_637 rfl ?_
        refine e_iconst dL_law_639 ci_1 ?_
        refine e_iadd dL_law_640 ?_
        obtain ⟨hc203, h⟩ := ck_eq h
        refine e_ialoadS dL_law_641 rfl hc203 ?_
        refine cI_go h (fun E206 hc204 hr207 => e_VX [.int (xs (Int32.toNatClampNeg (x4 + (1 : Int32))))] [] dL_law_642 rfl rfl rfl rfl (by decide) (Nat.le_of_ble_eq_true rfl) (by omega) ⟨xs (Int32.toNatClampNeg (x4 + (1 : Int32))), rfl, hc204⟩ rfl ⟨hr207.symm, rfl⟩) (fun v208 μ205 hc204 h => ?_)
        refine e_VI [.int (xs (Int32.toNatClampNeg (x4 + (1 : Int32))))] [] dL_law_642 rfl rfl rfl rfl (by decide) (Nat.le_of_ble_eq_true rfl) (by omega) ⟨xs (Int32.toNatClampNeg (x4 + (1 : Int32))), rfl, hc204⟩ ?_
        refine e_istoreL [some (.ref NP), some (.ref 0), some (.ref 29), some (.ref 48), some (.int x4), some (.int v202), some (.int v208)] dL_law_645 (Nat.le_of_ble_eq_true rfl) rfl ?_
        refine e_aload_n dL_law_647 rfl ?_
        refine cI_go h (fun E211 hc209 hr212 => e_VX [] [] dL_law_648 rfl rfl rfl rfl (by decide) (Nat.le_of_ble_eq_true rfl) (by omega) ⟨rfl, hc209⟩ rfl ⟨hr212.symm, rfl⟩) (fun v213 μ210 hc209 h => ?_)
        refine e_VI [] [] dL_law_648 rfl rfl rfl rfl (by decide) (Nat.le_of_ble_eq_true rfl) (by omega) ⟨rfl, hc209⟩ ?_
        refine e_iload dL_law_651 rfl ?_
        refine e_ic_eq (tgt := 658) dL_law_653 rfl (fun hc214 => ?_) (fun hc214 => ?_)
        · rw [if_pos hc214] at h
          refine e_iload dL_law_658 rfl ?_
          refine e_if_ne (tgt := 675) dL_law_660 rfl (fun hc215 => ?_) (fun hc215 => ?_)
          · rw [if_neg hc215] at h
            refine e_goto (tgt := 1718) dL_law_675 rfl ?_
            refine e_iincN 4 (5 : Int32) dL_law_1718 rfl ci_5 h (fun y9 => [some (.ref NP), some (.ref 0), some (.ref 29), some (.ref 48), some (.int y9), some (.int v202), some (.int v208)]) (fun _ => rfl) (fun v216 ev216 h => ?_)
            refine e_goto (tgt := 23) dL_law_1721 rfl ?_
            exact e_le (ih v216 μ210 _ (by omega) h) ⟨rfl, rfl, rfl, rfl, rfl, trivial⟩
          · rw [if_pos hc215] at h
            refine e_aload_n dL_law_663 rfl ?_
            refine e_iconst dL_law_664 ci_0 ?_
            refine e_laload0 (n := 1) dL_law_665 (by decide) rfl (by decide : inb (0 : Int32) 1) ?_
            refine e_iload dL_law_666 rfl ?_
            refine e_i2l dL_law_668 ?_
            refine e_lcmp dL_law_669 ?_
            refine e_if_eq (tgt := 675) dL_law_670 rfl (fun hc217 => ?_) (fun hc217 => ?_)
            · rw [if_pos hc217] at h
              refine e_goto (tgt := 1718) dL_law_675 rfl ?_
              refine e_iincN 4 (5 : Int32) dL_law_1718 rfl ci_5 h (fun y9 => [some (.ref NP), some (.ref 0), some (.ref 29), some (.ref 48), some (.int y9), some (.int v202), some (.int v208)]) (fun _ => rfl) (fun v218 ev218 h => ?_)
              refine e_goto (tgt := 23) dL_law_1721 rfl ?_
              exact e_le (ih v218 μ210 _ (by omega) h) ⟨rfl, rfl, rfl, rfl, rfl, trivial⟩
            · rw [if_neg hc217] at h
              refine e_iconst dL_law_673 ci_0 ?_
              exact e_iret .boolean dL_law_674 rfl rfl (ret_eq h)
        · rw [if_neg hc214] at h
          refine e_iconst dL_law_656 ci_0 ?_
          exact e_iret .boolean dL_law_657 rfl rfl (ret_eq h)
      rw [if_neg hc196] at h
      by_cases hc219 : ((xs (Int32.toNatClampNeg x4)) &&& (31 : Int32)) = (10 : Int32)
      · rw [if_pos hc219] at h
        refine e_tsL (10 : Int32) (tgt := 678) hc219 dL_law_39 (by decide) (by decide) rfl rfl ?_
        refine e_aload_n dL_law_678 rfl ?_
        refine e_aload_n dL_law_679 rfl ?_
        refine e_iload dL_law_680 rfl ?_
        refine e_iconst dL_law_682 ci_1 ?_
        refine e_iadd dL_law_683 ?_
        obtain ⟨hc220, h⟩ := ck_eq h
        refine e_ialoadS dL_law_684 rfl hc220 ?_
        refine e_aload_n dL_law_685 rfl ?_
        refine e_iload dL_law_686 rfl ?_
        refine e_iconst dL_law_688 ci_2 ?_
        refine e_iadd dL_law_689 ?_
        obtain ⟨hc221, h⟩ := ck_eq h
        refine e_ialoadS dL_law_690 rfl hc221 ?_
        refine e_aload_n dL_law_691 rfl ?_
        refine cI_go h (fun E224 hc222 hr225 => e_SX [.ref 0, .int (xs (Int32.toNatClampNeg (x4 + (1 : Int32)))), .int (xs (Int32.toNatClampNeg (x4 + (2 : Int32)))), .ref 48] [] dL_law_692 rfl (by decide) rfl rfl (Nat.le_of_ble_eq_true rfl) (by omega) ⟨xs (Int32.toNatClampNeg (x4 + (1 : Int32))), xs (Int32.toNatClampNeg (x4 + (2 : Int32))), rfl, hc222⟩ rfl ⟨hr225.symm, rfl⟩) (fun v226 μ223 hc222 h => ?_)
        refine e_SI [.ref 0, .int (xs (Int32.toNatClampNeg (x4 + (1 : Int32)))), .int (xs (Int32.toNatClampNeg (x4 + (2 : Int32)))), .ref 48] [] dL_law_692 rfl (by decide) rfl rfl (Nat.le_of_ble_eq_true rfl) (by omega) ⟨xs (Int32.toNatClampNeg (x4 + (1 : Int32))), xs (Int32.toNatClampNeg (x4 + (2 : Int32))), rfl, hc222⟩ ?_
        refine e_istoreL [some (.ref NP), some (.ref 0), some (.ref 29), some (.ref 48), some (.int x4), some (.int v226), none] dL_law_695 (Nat.le_of_ble_eq_true rfl) rfl ?_
        refine e_aload_n dL_law_697 rfl ?_
        refine e_aload_n dL_law_698 rfl ?_
        refine e_iload dL_law_699 rfl ?_
        refine e_iconst dL_law_701 ci_1 ?_
        refine e_iadd dL_law_702 ?_
        obtain ⟨hc227, h⟩ := ck_eq h
        refine e_ialoadS dL_law_703 rfl hc227 ?_
        refine e_aload_n dL_law_704 rfl ?_
        refine e_iload dL_law_705 rfl ?_
        refine e_iconst dL_law_707 ci_2 ?_
        refine e_iadd dL_law_708 ?_
        obtain ⟨hc228, h⟩ := ck_eq h
        refine e_ialoadS dL_law_709 rfl hc228 ?_
        refine cI_go h (fun E231 hc229 hr232 => e_VX [.int (xs (Int32.toNatClampNeg (x4 + (1 : Int32)))), .int (xs (Int32.toNatClampNeg (x4 + (2 : Int32))))] [] dL_law_710 rfl rfl rfl rfl (by decide) (Nat.le_of_ble_eq_true rfl) (by omega) ⟨xs (Int32.toNatClampNeg (x4 + (1 : Int32))), xs (Int32.toNatClampNeg (x4 + (2 : Int32))), rfl, hc229⟩ rfl ⟨hr232.symm, rfl⟩) (fun v233 μ230 hc229 h => ?_)
        refine e_VI [.int (xs (Int32.toNatClampNeg (x4 + (1 : Int32)))), .int (xs (Int32.toNatClampNeg (x4 + (2 : Int32))))] [] dL_law_710 rfl rfl rfl rfl (by decide) (Nat.le_of_ble_eq_true rfl) (by omega) ⟨xs (Int32.toNatClampNeg (x4 + (1 : Int32))), xs (Int32.toNatClampNeg (x4 + (2 : Int32))), rfl, hc229⟩ ?_
        refine e_istoreL [some (.ref NP), some (.ref 0), some (.ref 29), some (.ref 48), some (.int x4), some (.int v226), some (.int v233)] dL_law_713 (Nat.le_of_ble_eq_true rfl) rfl ?_
        refine e_aload_n dL_law_715 rfl ?_
        refine cI_go h (fun E236 hc234 hr237 => e_VX [] [] dL_law_716 rfl rfl rfl rfl (by decide) (Nat.le_of_ble_eq_true rfl) (by omega) ⟨rfl, hc234⟩ rfl ⟨hr237.symm, rfl⟩) (fun v238 μ235 hc234 h => ?_)
        refine e_VI [] [] dL_law_716 rfl rfl rfl rfl (by decide) (Nat.le_of_ble_eq_true rfl) (by omega) ⟨rfl, hc234⟩ ?_
        refine e_iload dL_law_719 rfl ?_
        refine e_ic_eq (tgt := 726) dL_law_721 rfl (fun hc239 => ?_) (fun hc239 => ?_)
        · rw [if_pos hc239] at h
          refine e_iload dL_law_726 rfl ?_
          refine e_if_ne (tgt := 743) dL_law_728 rfl (fun hc240 => ?_) (fun hc240 => ?_)
          · rw [if_neg hc240] at h
            refine e_goto (tgt := 1718) dL_law_743 rfl ?_
            refine e_iincN 4 (5 : Int32) dL_law_1718 rfl ci_5 h (fun y9 => [some (.ref NP), some (.ref 0), some (.ref 29), some (.ref 48), some (.int y9), some (.int v226), some (.int v233)]) (fun _ => rfl) (fun v241 ev241 h => ?_)
            refine e_goto (tgt := 23) dL_law_1721 rfl ?_
            exact e_le (ih v241 μ235 _ (by omega) h) ⟨rfl, rfl, rfl, rfl, rfl, trivial⟩
          · rw [if_pos hc240] at h
            refine e_aload_n dL_law_731 rfl ?_
            refine e_iconst dL_law_732 ci_0 ?_
            refine e_laload0 (n := 1) dL_law_733 (by decide) rfl (by decide : inb (0 : Int32) 1) ?_
            refine e_iload dL_law_734 rfl ?_
            refine e_i2l dL_law_736 ?_
            refine e_lcmp dL_law_737 ?_
            refine e_if_eq (tgt := 743) dL_law_738 rfl (fun hc242 => ?_) (fun hc242 => ?_)
            · rw [if_pos hc242] at h
              refine e_goto (tgt := 1718) dL_law_743 rfl ?_
              refine e_iincN 4 (5 : Int32) dL_law_1718 rfl ci_5 h (fun y9 => [some (.ref NP), some (.ref 0), some (.ref 29), some (.ref 48), some (.int y9), some (.int v226), some (.int v233)]) (fun _ => rfl) (fun v243 ev243 h => ?_)
              refine e_goto (tgt := 23) dL_law_1721 rfl ?_
              exact e_le (ih v243 μ235 _ (by omega) h) ⟨rfl, rfl, rfl, rfl, rfl, trivial⟩
            · rw [if_neg hc242] at h
              refine e_iconst dL_law_741 ci_0 ?_
              exact e_iret .boolean dL_law_742 rfl rfl (ret_eq h)
        · rw [if_neg hc239] at h
          refine e_iconst dL_law_724 ci_0 ?_
          exact e_iret .boolean dL_law_725 rfl rfl (ret_eq h)
      rw [if_neg hc219] at h
      by_cases hc244 : ((xs (Int32.toNatClampNeg x4)) &&& (31 : Int32)) = (11 : Int32)
      · rw [if_pos hc244] at h
        refine e_tsL (11 : Int32) (tgt := 746) hc244 dL_law_39 (by decide) (by decide) rfl rfl ?_
        refine e_aload_n dL_law_746 rfl ?_
        refine e_aload_n dL_law_747 rfl ?_
        refine e_iload dL_law_748 rfl ?_
        refine e_iconst dL_law_750 ci_1 ?_
        refine e_iadd dL_law_751 ?_
        obtain ⟨hc245, h⟩ := ck_eq h
        refine e_ialoadS dL_law_752 rfl hc245 ?_
        refine e_aload_n dL_law_753 rfl ?_
        refine e_iload dL_law_754 rfl ?_
        refine e_iconst dL_law_756 ci_2 ?_
        refine e_iadd dL_law_757 ?_
        obtain ⟨hc246, h⟩ := ck_eq h
        refine e_ialoadS dL_law_758 rfl hc246 ?_
        refine e_aload_n dL_law_759 rfl ?_
        refine e_iload dL_law_760 rfl ?_
        refine e_iconst dL_law_762 ci_3 ?_
        refine e_iadd dL_law_763 ?_
        obtain ⟨hc247, h⟩ := ck_eq h
        refine e_ialoadS dL_law_764 rfl hc247 ?_
        refine e_if_eq (tgt := 772) dL_law_765 rfl (fun hc248 => ?_) (fun hc248 => ?_)
        · rw [if_pos hc248] at h
          refine e_iconst dL_law_772 ci_0 ?_
          exact e_le (g_L_law_773 L xs ih x4 (0 : Int32) (xs (Int32.toNatClampNeg (x4 + (2 : Int32)))) (xs (Int32.toNatClampNeg (x4 + (1 : Int32)))) μ _ (by omega) h) ⟨rfl, rfl, rfl, rfl, rfl, trivial⟩
        · rw [if_neg hc248] at h
          refine e_iconst dL_law_768 ci_1 ?_
          refine e_goto (tgt := 773) dL_law_769 rfl ?_
          exact e_le (g_L_law_773 L xs ih x4 (1 : Int32) (xs (Int32.toNatClampNeg (x4 + (2 : Int32)))) (xs (Int32.toNatClampNeg (x4 + (1 : Int32)))) μ _ (by omega) h) ⟨rfl, rfl, rfl, rfl, rfl, trivial⟩
      rw [if_neg hc244] at h
      by_cases hc249 : ((xs (Int32.toNatClampNeg x4)) &&& (31 : Int32)) = (12 : Int32)
      · rw [if_pos hc249] at h
        refine e_tsL (12 : Int32) (tgt := 849) hc249 dL_law_39 (by decide) (by decide) rfl rfl ?_
        refine e_aload_n dL_law_849 rfl ?_
        refine e_aload_n dL_law_850 rfl ?_
        refine e_iload dL_law_851 rfl ?_
        refine e_iconst dL_law_853 ci_1 ?_
        refine e_iadd dL_law_854 ?_
        obtain ⟨hc250, h⟩ := ck_eq h
        refine e_ialoadS dL_law_855 rfl hc250 ?_
        refine e_aload_n dL_law_856 rfl ?_
        refine e_iload dL_law_857 rfl ?_
        refine e_iconst dL_law_859 ci_2 ?_
        refine e_iadd dL_law_860 ?_
        obtain ⟨hc251, h⟩ := ck_eq h
        refine e_ialoadS dL_law_861 rfl hc251 ?_
        refine e_aload_n dL_law_862 rfl ?_
        refine e_iload dL_law_863 rfl ?_
        refine e_iconst dL_law_865 ci_3 ?_
        refine e_iadd dL_law_866 ?_
        obtain ⟨hc252, h⟩ := ck_eq h
        refine e_ialoadS dL_law_867 rfl hc252 ?_
        refine e_if_eq (tgt := 875) dL_law_868 rfl (fun hc253 => ?_) (fun hc253 => ?_)
        · rw [if_pos hc253] at h
          refine e_iconst dL_law_875 ci_0 ?_
          exact e_le (g_L_law_876 L xs ih x4 (0 : Int32) (xs (Int32.toNatClampNeg (x4 + (2 : Int32)))) (xs (Int32.toNatClampNeg (x4 + (1 : Int32)))) μ _ (by omega) h) ⟨rfl, rfl, rfl, rfl, rfl, trivial⟩
        · rw [if_neg hc253] at h
          refine e_iconst dL_law_871 ci_1 ?_
          refine e_goto (tgt := 876) dL_law_872 rfl ?_
          exact e_le (g_L_law_876 L xs ih x4 (1 : Int32) (xs (Int32.toNatClampNeg (x4 + (2 : Int32)))) (xs (Int32.toNatClampNeg (x4 + (1 : Int32)))) μ _ (by omega) h) ⟨rfl, rfl, rfl, rfl, rfl, trivial⟩
      rw [if_neg hc249] at h
      by_cases hc254 : ((xs (Int32.toNatClampNeg x4)) &&& (31 : Int32)) = (13 : Int32)
      · rw [if_pos hc254] at h
        refine e_tsL (13 : Int32) (tgt := 952) hc254 dL_law_39 (by decide) (by decide) rfl rfl ?_
        refine e_aload_n dL_law_952 rfl ?_
        refine e_aload_n dL_law_953 rfl ?_
        refine e_iload dL_law_954 rfl ?_
        refine e_iconst dL_law_956 ci_1 ?_
        refine e_iadd dL_law_957 ?_
        obtain ⟨hc255, h⟩ := ck_eq h
        refine e_ialoadS dL_law_958 rfl hc255 ?_
        refine e_aload_n dL_law_959 rfl ?_
        refine e_iload dL_law_960 rfl ?_
        refine e_iconst dL_law_962 ci_2 ?_
        refine e_iadd dL_law_963 ?_
        obtain ⟨hc256, h⟩ := ck_eq h
        refine e_ialoadS dL_law_964 rfl hc256 ?_
        refine e_aload_n dL_law_965 rfl ?_
        refine cI_go h (fun E259 hc257 hr260 => e_SX [.ref 0, .int (xs (Int32.toNatClampNeg (x4 + (1 : Int32)))), .int (xs (Int32.toNatClampNeg (x4 + (2 : Int32)))), .ref 48] [] dL_law_966 rfl (by decide) rfl rfl (Nat.le_of_ble_eq_true rfl) (by omega) ⟨xs (Int32.toNatClampNeg (x4 + (1 : Int32))), xs (Int32.toNatClampNeg (x4 + (2 : Int32))), rfl, hc257⟩ rfl ⟨hr260.symm, rfl⟩) (fun v261 μ258 hc257 h => ?_)
        refine e_SI [.ref 0, .int (xs (Int32.toNatClampNeg (x4 + (1 : Int32)))), .int (xs (Int32.toNatClampNeg (x4 + (2 : Int32)))), .ref 48] [] dL_law_966 rfl (by decide) rfl rfl (Nat.le_of_ble_eq_true rfl) (by omega) ⟨xs (Int32.toNatClampNeg (x4 + (1 : Int32))), xs (Int32.toNatClampNeg (x4 + (2 : Int32))), rfl, hc257⟩ ?_
        refine e_istoreL [some (.ref NP), some (.ref 0), some (.ref 29), some (.ref 48), some (.int x4), some (.int v261), none] dL_law_969 (Nat.le_of_ble_eq_true rfl) rfl ?_
        refine e_aload_n dL_law_971 rfl ?_
        refine e_aload_n dL_law_972 rfl ?_
        refine e_iload dL_law_973 rfl ?_
        refine e_iconst dL_law_975 ci_1 ?_
        refine e_iadd dL_law_976 ?_
        obtain ⟨hc262, h⟩ := ck_eq h
        refine e_ialoadS dL_law_977 rfl hc262 ?_
        refine e_aload_n dL_law_978 rfl ?_
        refine e_iload dL_law_979 rfl ?_
        refine e_iconst dL_law_981 ci_2 ?_
        refine e_iadd dL_law_982 ?_
        obtain ⟨hc263, h⟩ := ck_eq h
        refine e_ialoadS dL_law_983 rfl hc263 ?_
        refine cI_go h (fun E266 hc264 hr267 => e_VX [.int (xs (Int32.toNatClampNeg (x4 + (1 : Int32)))), .int (xs (Int32.toNatClampNeg (x4 + (2 : Int32))))] [] dL_law_984 rfl rfl rfl rfl (by decide) (Nat.le_of_ble_eq_true rfl) (by omega) ⟨xs (Int32.toNatClampNeg (x4 + (1 : Int32))), xs (Int32.toNatClampNeg (x4 + (2 : Int32))), rfl, hc264⟩ rfl ⟨hr267.symm, rfl⟩) (fun v268 μ265 hc264 h => ?_)
        refine e_VI [.int (xs (Int32.toNatClampNeg (x4 + (1 : Int32)))), .int (xs (Int32.toNatClampNeg (x4 + (2 : Int32))))] [] dL_law_984 rfl rfl rfl rfl (by decide) (Nat.le_of_ble_eq_true rfl) (by omega) ⟨xs (Int32.toNatClampNeg (x4 + (1 : Int32))), xs (Int32.toNatClampNeg (x4 + (2 : Int32))), rfl, hc264⟩ ?_
        refine e_istoreL [some (.ref NP), some (.ref 0), some (.ref 29), some (.ref 48), some (.int x4), some (.int v261), some (.int v268)] dL_law_987 (Nat.le_of_ble_eq_true rfl) rfl ?_
        refine e_aload_n dL_law_989 rfl ?_
        refine cI_go h (fun E271 hc269 hr272 => e_VX [] [] dL_law_990 rfl rfl rfl rfl (by decide) (Nat.le_of_ble_eq_true rfl) (by omega) ⟨rfl, hc269⟩ rfl ⟨hr272.symm, rfl⟩) (fun v273 μ270 hc269 h => ?_)
        refine e_VI [] [] dL_law_990 rfl rfl rfl rfl (by decide) (Nat.le_of_ble_eq_true rfl) (by omega) ⟨rfl, hc269⟩ ?_
        refine e_iload dL_law_993 rfl ?_
        refine e_ic_eq (tgt := 1000) dL_law_995 rfl (fun hc274 => ?_) (fun hc274 => ?_)
        · rw [if_pos hc274] at h
          refine e_iload dL_law_1000 rfl ?_
          refine e_if_ne (tgt := 1017) dL_law_1002 rfl (fun hc275 => ?_) (fun hc275 => ?_)
          · rw [if_neg hc275] at h
            refine e_goto (tgt := 1718) dL_law_1017 rfl ?_
            refine e_iincN 4 (5 : Int32) dL_law_1718 rfl ci_5 h (fun y9 => [some (.ref NP), some (.ref 0), some (.ref 29), some (.ref 48), some (.int y9), some (.int v261), some (.int v268)]) (fun _ => rfl) (fun v276 ev276 h => ?_)
            refine e_goto (tgt := 23) dL_law_1721 rfl ?_
            exact e_le (ih v276 μ270 _ (by omega) h) ⟨rfl, rfl, rfl, rfl, rfl, trivial⟩
          · rw [if_pos hc275] at h
            refine e_aload_n dL_law_1005 rfl ?_
            refine e_iconst dL_law_1006 ci_0 ?_
            refine e_laload0 (n := 1) dL_law_1007 (by decide) rfl (by decide : inb (0 : Int32) 1) ?_
            refine e_iload dL_law_1008 rfl ?_
            refine e_i2l dL_law_1010 ?_
            refine e_lcmp dL_law_1011 ?_
            refine e_if_eq (tgt := 1017) dL_law_1012 rfl (fun hc277 => ?_) (fun hc277 => ?_)
            · rw [if_pos hc277] at h
              refine e_goto (tgt := 1718) dL_law_1017 rfl ?_
              refine e_iincN 4 (5 : Int32) dL_law_1718 rfl ci_5 h (fun y9 => [some (.ref NP), some (.ref 0), some (.ref 29), some (.ref 48), some (.int y9), some (.int v261), some (.int v268)]) (fun _ => rfl) (fun v278 ev278 h => ?_)
              refine e_goto (tgt := 23) dL_law_1721 rfl ?_
              exact e_le (ih v278 μ270 _ (by omega) h) ⟨rfl, rfl, rfl, rfl, rfl, trivial⟩
            · rw [if_neg hc277] at h
              refine e_iconst dL_law_1015 ci_0 ?_
              exact e_iret .boolean dL_law_1016 rfl rfl (ret_eq h)
        · rw [if_neg hc274] at h
          refine e_iconst dL_law_998 ci_0 ?_
          exact e_iret .boolean dL_law_999 rfl rfl (ret_eq h)
      rw [if_neg hc254] at h
      by_cases hc279 : ((xs (Int32.toNatClampNeg x4)) &&& (31 : Int32)) = (14 : Int32)
      · rw [if_pos hc279] at h
        refine e_tsL (14 : Int32) (tgt := 1020) hc279 dL_law_39 (by decide) (by decide) rfl rfl ?_
        refine e_aload_n dL_law_1020 rfl ?_
        refine cI_go h (fun E282 hc280 hr283 => e_VX [] [] dL_law_1021 rfl rfl rfl rfl (by decide) (Nat.le_of_ble_eq_true rfl) (by omega) ⟨rfl, hc280⟩ rfl ⟨hr283.symm, rfl⟩) (fun v284 μ281 hc280 h => ?_)
        refine e_VI [] [] dL_law_1021 rfl rfl rfl rfl (by decide) (Nat.le_of_ble_eq_true rfl) (by omega) ⟨rfl, hc280⟩ ?_
        refine e_aload_n dL_law_1024 rfl ?_
        refine cI_go h (fun E287 hc285 hr288 => e_VX [] [.int v284] dL_law_1025 rfl rfl rfl rfl (by decide) (Nat.le_of_ble_eq_true rfl) (by omega) ⟨rfl, hc285⟩ rfl ⟨hr288.symm, rfl⟩) (fun v289 μ286 hc285 h => ?_)
        refine e_VI [] [.int v284] dL_law_1025 rfl rfl rfl rfl (by decide) (Nat.le_of_ble_eq_true rfl) (by omega) ⟨rfl, hc285⟩ ?_
        refine e_ic_eq (tgt := 1718) dL_law_1028 rfl (fun hc290 => ?_) (fun hc290 => ?_)
        · rw [if_pos hc290] at h
          refine e_iincN 4 (5 : Int32) dL_law_1718 rfl ci_5 h (fun y9 => [some (.ref NP), some (.ref 0), some (.ref 29), some (.ref 48), some (.int y9), none, none]) (fun _ => rfl) (fun v291 ev291 h => ?_)
          refine e_goto (tgt := 23) dL_law_1721 rfl ?_
          exact e_le (ih v291 μ286 _ (by omega) h) ⟨rfl, rfl, rfl, rfl, rfl, trivial⟩
        · rw [if_neg hc290] at h
          refine e_iconst dL_law_1031 ci_0 ?_
          exact e_iret .boolean dL_law_1032 rfl rfl (ret_eq h)
      rw [if_neg hc279] at h
      by_cases hc292 : ((xs (Int32.toNatClampNeg x4)) &&& (31 : Int32)) = (15 : Int32)
      · rw [if_pos hc292] at h
        refine e_tsL (15 : Int32) (tgt := 1033) hc292 dL_law_39 (by decide) (by decide) rfl rfl ?_
        refine e_aload_n dL_law_1033 rfl ?_
        refine e_aload_n dL_law_1034 rfl ?_
        refine e_iload dL_law_1035 rfl ?_
        refine e_iconst dL_law_1037 ci_1 ?_
        refine e_iadd dL_law_1038 ?_
        obtain ⟨hc293, h⟩ := ck_eq h
        refine e_ialoadS dL_law_1039 rfl hc293 ?_
        refine e_aload_n dL_law_1040 rfl ?_
        refine e_iload dL_law_1041 rfl ?_
        refine e_iconst dL_law_1043 ci_2 ?_
        refine e_iadd dL_law_1044 ?_
        obtain ⟨hc294, h⟩ := ck_eq h
        refine e_ialoadS dL_law_1045 rfl hc294 ?_
        refine e_aload_n dL_law_1046 rfl ?_
        refine e_iload dL_law_1047 rfl ?_
        refine e_iconst dL_law_1049 ci_3 ?_
        refine e_iadd dL_law_1050 ?_
        obtain ⟨hc295, h⟩ := ck_eq h
        refine e_ialoadS dL_law_1051 rfl hc295 ?_
        refine e_aload_n dL_law_1052 rfl ?_
        refine e_iload dL_law_1053 rfl ?_
        refine e_iconst dL_law_1055 ci_4 ?_
        refine e_iadd dL_law_1056 ?_
        obtain ⟨hc296, h⟩ := ck_eq h
        refine e_ialoadS dL_law_1057 rfl hc296 ?_
        refine e_aload_n dL_law_1058 rfl ?_
        refine cI_go h (fun E299 hc297 hr300 => e_SX [.ref 0, .int (xs (Int32.toNatClampNeg (x4 + (1 : Int32)))), .int (xs (Int32.toNatClampNeg (x4 + (2 : Int32)))), .int (xs (Int32.toNatClampNeg (x4 + (3 : Int32)))), .int (xs (Int32.toNatClampNeg (x4 + (4 : Int32)))), .ref 48] [] dL_law_1059 rfl (by decide) rfl rfl (Nat.le_of_ble_eq_true rfl) (by omega) ⟨xs (Int32.toNatClampNeg (x4 + (1 : Int32))), xs (Int32.toNatClampNeg (x4 + (2 : Int32))), xs (Int32.toNatClampNeg (x4 + (3 : Int32))), xs (Int32.toNatClampNeg (x4 + (4 : Int32))), rfl, hc297⟩ rfl ⟨hr300.symm, rfl⟩) (fun v301 μ298 hc297 h => ?_)
        refine e_SI [.ref 0, .int (xs (Int32.toNatClampNeg (x4 + (1 : Int32)))), .int (xs (Int32.toNatClampNeg (x4 + (2 : Int32)))), .int (xs (Int32.toNatClampNeg (x4 + (3 : Int32)))), .int (xs (Int32.toNatClampNeg (x4 + (4 : Int32)))), .ref 48] [] dL_law_1059 rfl (by decide) rfl rfl (Nat.le_of_ble_eq_true rfl) (by omega) ⟨xs (Int32.toNatClampNeg (x4 + (1 : Int32))), xs (Int32.toNatClampNeg (x4 + (2 : Int32))), xs (Int32.toNatClampNeg (x4 + (3 : Int32))), xs (Int32.toNatClampNeg (x4 + (4 : Int32))), rfl, hc297⟩ ?_
        refine e_istoreL [some (.ref NP), some (.ref 0), some (.ref 29), some (.ref 48), some (.int x4), some (.int v301), none] dL_law_1062 (Nat.le_of_ble_eq_true rfl) rfl ?_
        refine e_aload_n dL_law_1064 rfl ?_
        refine e_aload_n dL_law_1065 rfl ?_
        refine e_iload dL_law_1066 rfl ?_
        refine e_iconst dL_law_1068 ci_1 ?_
        refine e_iadd dL_law_1069 ?_
        obtain ⟨hc302, h⟩ := ck_eq h
        refine e_ialoadS dL_law_1070 rfl hc302 ?_
        refine e_aload_n dL_law_1071 rfl ?_
        refine e_iload dL_law_1072 rfl ?_
        refine e_iconst dL_law_1074 ci_2 ?_
        refine e_iadd dL_law_1075 ?_
        obtain ⟨hc303, h⟩ := ck_eq h
        refine e_ialoadS dL_law_1076 rfl hc303 ?_
        refine e_aload_n dL_law_1077 rfl ?_
        refine e_iload dL_law_1078 rfl ?_
        refine e_iconst dL_law_1080 ci_3 ?_
        refine e_iadd dL_law_1081 ?_
        obtain ⟨hc304, h⟩ := ck_eq h
        refine e_ialoadS dL_law_1082 rfl hc304 ?_
        refine e_aload_n dL_law_1083 rfl ?_
        refine e_iload dL_law_1084 rfl ?_
        refine e_iconst dL_law_1086 ci_4 ?_
        refine e_iadd dL_law_1087 ?_
        obtain ⟨hc305, h⟩ := ck_eq h
        refine e_ialoadS dL_law_1088 rfl hc305 ?_
        refine cI_go h (fun E308 hc306 hr309 => e_VX [.int (xs (Int32.toNatClampNeg (x4 + (1 : Int32)))), .int (xs (Int32.toNatClampNeg (x4 + (2 : Int32)))), .int (xs (Int32.toNatClampNeg (x4 + (3 : Int32)))), .int (xs (Int32.toNatClampNeg (x4 + (4 : Int32))))] [] dL_law_1089 rfl rfl rfl rfl (by decide) (Nat.le_of_ble_eq_true rfl) (by omega) ⟨xs (Int32.toNatClampNeg (x4 + (1 : Int32))), xs (Int32.toNatClampNeg (x4 + (2 : Int32))), xs (Int32.toNatClampNeg (x4 + (3 : Int32))), xs (Int32.toNatClampNeg (x4 + (4 : Int32))), rfl, hc306⟩ rfl ⟨hr309.symm, rfl⟩) (fun v310 μ307 hc306 h => ?_)
        refine e_VI [.int (xs (Int32.toNatClampNeg (x4 + (1 : Int32)))), .int (xs (Int32.toNatClampNeg (x4 + (2 : Int32)))), .int (xs (Int32.toNatClampNeg (x4 + (3 : Int32)))), .int (xs (Int32.toNatClampNeg (x4 + (4 : Int32))))] [] dL_law_1089 rfl rfl rfl rfl (by decide) (Nat.le_of_ble_eq_true rfl) (by omega) ⟨xs (Int32.toNatClampNeg (x4 + (1 : Int32))), xs (Int32.toNatClampNeg (x4 + (2 : Int32))), xs (Int32.toNatClampNeg (x4 + (3 : Int32))), xs (Int32.toNatClampNeg (x4 + (4 : Int32))), rfl, hc306⟩ ?_
        refine e_istoreL [some (.ref NP), some (.ref 0), some (.ref 29), some (.ref 48), some (.int x4), some (.int v301), some (.int v310)] dL_law_1092 (Nat.le_of_ble_eq_true rfl) rfl ?_
        refine e_aload_n dL_law_1094 rfl ?_
        refine cI_go h (fun E313 hc311 hr314 => e_VX [] [] dL_law_1095 rfl rfl rfl rfl (by decide) (Nat.le_of_ble_eq_true rfl) (by omega) ⟨rfl, hc311⟩ rfl ⟨hr314.symm, rfl⟩) (fun v315 μ312 hc311 h => ?_)
        refine e_VI [] [] dL_law_1095 rfl rfl rfl rfl (by decide) (Nat.le_of_ble_eq_true rfl) (by omega) ⟨rfl, hc311⟩ ?_
        refine e_iload dL_law_1098 rfl ?_
        refine e_ic_eq (tgt := 1105) dL_law_1100 rfl (fun hc316 => ?_) (fun hc316 => ?_)
        · rw [if_pos hc316] at h
          refine e_iload dL_law_1105 rfl ?_
          refine e_if_ne (tgt := 1122) dL_law_1107 rfl (fun hc317 => ?_) (fun hc317 => ?_)
          · rw [if_neg hc317] at h
            refine e_goto (tgt := 1718) dL_law_1122 rfl ?_
            refine e_iincN 4 (5 : Int32) dL_law_1718 rfl ci_5 h (fun y9 => [some (.ref NP), some (.ref 0), some (.ref 29), some (.ref 48), some (.int y9), some (.int v301), some (.int v310)]) (fun _ => rfl) (fun v318 ev318 h => ?_)
            refine e_goto (tgt := 23) dL_law_1721 rfl ?_
            exact e_le (ih v318 μ312 _ (by omega) h) ⟨rfl, rfl, rfl, rfl, rfl, trivial⟩
          · rw [if_pos hc317] at h
            refine e_aload_n dL_law_1110 rfl ?_
            refine e_iconst dL_law_1111 ci_0 ?_
            refine e_laload0 (n := 1) dL_law_1112 (by decide) rfl (by decide : inb (0 : Int32) 1) ?_
            refine e_iload dL_law_1113 rfl ?_
            refine e_i2l dL_law_1115 ?_
            refine e_lcmp dL_law_1116 ?_
            refine e_if_eq (tgt := 1122) dL_law_1117 rfl (fun hc319 => ?_) (fun hc319 => ?_)
            · rw [if_pos hc319] at h
              refine e_goto (tgt := 1718) dL_law_1122 rfl ?_
              refine e_iincN 4 (5 : Int32) dL_law_1718 rfl ci_5 h (fun y9 => [some (.ref NP), some (.ref 0), some (.ref 29), some (.ref 48), some (.int y9), some (.int v301), some (.int v310)]) (fun _ => rfl) (fun v320 ev320 h => ?_)
              refine e_goto (tgt := 23) dL_law_1721 rfl ?_
              exact e_le (ih v320 μ312 _ (by omega) h) ⟨rfl, rfl, rfl, rfl, rfl, trivial⟩
            · rw [if_neg hc319] at h
              refine e_iconst dL_law_1120 ci_0 ?_
              exact e_iret .boolean dL_law_1121 rfl rfl (ret_eq h)
        · rw [if_neg hc316] at h
          refine e_iconst dL_law_1103 ci_0 ?_
          exact e_iret .boolean dL_law_1104 rfl rfl (ret_eq h)
      rw [if_neg hc292] at h
      by_cases hc321 : ((xs (Int32.toNatClampNeg x4)) &&& (31 : Int32)) = (16 : Int32)
      · rw [if_pos hc321] at h
        refine e_tsL (16 : Int32) (tgt := 1125) hc321 dL_law_39 (by decide) (by decide) rfl rfl ?_
        refine e_aload_n dL_law_1125 rfl ?_
        refine e_aload_n dL_law_1126 rfl ?_
        refine e_iload dL_law_1127 rfl ?_
        refine e_iconst dL_law_1129 ci_1 ?_
        refine e_iadd dL_law_1130 ?_
        obtain ⟨hc322, h⟩ := ck_eq h
        refine e_ialoadS dL_law_1131 rfl hc322 ?_
        refine e_aload_n dL_law_1132 rfl ?_
        refine cI_go h (fun E325 hc323 hr326 => e_SX [.ref 0, .int (xs (Int32.toNatClampNeg (x4 + (1 : Int32)))), .ref 48] [] dL_law_1133 rfl (by decide) rfl rfl (Nat.le_of_ble_eq_true rfl) (by omega) ⟨xs (Int32.toNatClampNeg (x4 + (1 : Int32))), rfl, hc323⟩ rfl ⟨hr326.symm, rfl⟩) (fun v327 μ324 hc323 h => ?_)
        refine e_SI [.ref 0, .int (xs (Int32.toNatClampNeg (x4 + (1 : Int32)))), .ref 48] [] dL_law_1133 rfl (by decide) rfl rfl (Nat.le_of_ble_eq_true rfl) (by omega) ⟨xs (Int32.toNatClampNeg (x4 + (1 : Int32))), rfl, hc323⟩ ?_
        refine e_istoreL [some (.ref NP), some (.ref 0), some (.ref 29), some (.ref 48), some (.int x4), some (.int v327), none] dL_law_1136 (Nat.le_of_ble_eq_true rfl) rfl ?_
        refine e_aload_n dL_law_1138 rfl ?_
        refine e_aload_n dL_law_1139 rfl ?_
        refine e_iload dL_law_1140 rfl ?_
        refine e_iconst dL_law_1142 ci_1 ?_
        refine e_iadd dL_law_1143 ?_
        obtain ⟨hc328, h⟩ := ck_eq h
        refine e_ialoadS dL_law_1144 rfl hc328 ?_
        refine cI_go h (fun E331 hc329 hr332 => e_VX [.int (xs (Int32.toNatClampNeg (x4 + (1 : Int32))))] [] dL_law_1145 rfl rfl rfl rfl (by decide) (Nat.le_of_ble_eq_true rfl) (by omega) ⟨xs (Int32.toNatClampNeg (x4 + (1 : Int32))), rfl, hc329⟩ rfl ⟨hr332.symm, rfl⟩) (fun v333 μ330 hc329 h => ?_)
        refine e_VI [.int (xs (Int32.toNatClampNeg (x4 + (1 : Int32))))] [] dL_law_1145 rfl rfl rfl rfl (by decide) (Nat.le_of_ble_eq_true rfl) (by omega) ⟨xs (Int32.toNatClampNeg (x4 + (1 : Int32))), rfl, hc329⟩ ?_
        refine e_istoreL [some (.ref NP), some (.ref 0), some (.ref 29), some (.ref 48), some (.int x4), some (.int v327), some (.int v333)] dL_law_1148 (Nat.le_of_ble_eq_true rfl) rfl ?_
        refine e_aload_n dL_law_1150 rfl ?_
        refine cI_go h (fun E336 hc334 hr337 => e_VX [] [] dL_law_1151 rfl rfl rfl rfl (by decide) (Nat.le_of_ble_eq_true rfl) (by omega) ⟨rfl, hc334⟩ rfl ⟨hr337.symm, rfl⟩) (fun v338 μ335 hc334 h => ?_)
        refine e_VI [] [] dL_law_1151 rfl rfl rfl rfl (by decide) (Nat.le_of_ble_eq_true rfl) (by omega) ⟨rfl, hc334⟩ ?_
        refine e_iload dL_law_1154 rfl ?_
        refine e_ic_eq (tgt := 1161) dL_law_1156 rfl (fun hc339 => ?_) (fun hc339 => ?_)
        · rw [if_pos hc339] at h
          refine e_iload dL_law_1161 rfl ?_
          refine e_if_ne (tgt := 1178) dL_law_1163 rfl (fun hc340 => ?_) (fun hc340 => ?_)
          · rw [if_neg hc340] at h
            refine e_goto (tgt := 1718) dL_law_1178 rfl ?_
            refine e_iincN 4 (5 : Int32) dL_law_1718 rfl ci_5 h (fun y9 => [some (.ref NP), some (.ref 0), some (.ref 29), some (.ref 48), some (.int y9), some (.int v327), some (.int v333)]) (fun _ => rfl) (fun v341 ev341 h => ?_)
            refine e_goto (tgt := 23) dL_law_1721 rfl ?_
            exact e_le (ih v341 μ335 _ (by omega) h) ⟨rfl, rfl, rfl, rfl, rfl, trivial⟩
          · rw [if_pos hc340] at h
            refine e_aload_n dL_law_1166 rfl ?_
            refine e_iconst dL_law_1167 ci_0 ?_
            refine e_laload0 (n := 1) dL_law_1168 (by decide) rfl (by decide : inb (0 : Int32) 1) ?_
            refine e_iload dL_law_1169 rfl ?_
            refine e_i2l dL_law_1171 ?_
            refine e_lcmp dL_law_1172 ?_
            refine e_if_eq (tgt := 1178) dL_law_1173 rfl (fun hc342 => ?_) (fun hc342 => ?_)
            · rw [if_pos hc342] at h
              refine e_goto (tgt := 1718) dL_law_1178 rfl ?_
              refine e_iincN 4 (5 : Int32) dL_law_1718 rfl ci_5 h (fun y9 => [some (.ref NP), some (.ref 0), some (.ref 29), some (.ref 48), some (.int y9), some (.int v327), some (.int v333)]) (fun _ => rfl) (fun v343 ev343 h => ?_)
              refine e_goto (tgt := 23) dL_law_1721 rfl ?_
              exact e_le (ih v343 μ335 _ (by omega) h) ⟨rfl, rfl, rfl, rfl, rfl, trivial⟩
            · rw [if_neg hc342] at h
              refine e_iconst dL_law_1176 ci_0 ?_
              exact e_iret .boolean dL_law_1177 rfl rfl (ret_eq h)
        · rw [if_neg hc339] at h
          refine e_iconst dL_law_1159 ci_0 ?_
          exact e_iret .boolean dL_law_1160 rfl rfl (ret_eq h)
      rw [if_neg hc321] at h
      by_cases hc344 : ((xs (Int32.toNatClampNeg x4)) &&& (31 : Int32)) = (17 : Int32)
      · rw [if_pos hc344] at h
        refine e_tsL (17 : Int32) (tgt := 1181) hc344 dL_law_39 (by decide) (by decide) rfl rfl ?_
        refine e_aload_n dL_law_1181 rfl ?_
        refine e_aload_n dL_law_1182 rfl ?_
        refine cI_go h (fun E347 hc345 hr348 => e_SX [.ref 0, .ref 48] [] dL_law_1183 rfl (by decide) rfl rfl (Nat.le_of_ble_eq_true rfl) (by omega) ⟨rfl, hc345⟩ rfl ⟨hr348.symm, rfl⟩) (fun v349 μ346 hc345 h => ?_)
        refine e_SI [.ref 0, .ref 48] [] dL_law_1183 rfl (by decide) rfl rfl (Nat.le_of_ble_eq_true rfl) (by omega) ⟨rfl, hc345⟩ ?_
        refine e_istoreL [some (.ref NP), some (.ref 0), some (.ref 29), some (.ref 48), some (.int x4), some (.int v349), none] dL_law_1186 (Nat.le_of_ble_eq_true rfl) rfl ?_
        refine e_aload_n dL_law_1188 rfl ?_
        refine cI_go h (fun E352 hc350 hr353 => e_VX [] [] dL_law_1189 rfl rfl rfl rfl (by decide) (Nat.le_of_ble_eq_true rfl) (by omega) ⟨rfl, hc350⟩ rfl ⟨hr353.symm, rfl⟩) (fun v354 μ351 hc350 h => ?_)
        refine e_VI [] [] dL_law_1189 rfl rfl rfl rfl (by decide) (Nat.le_of_ble_eq_true rfl) (by omega) ⟨rfl, hc350⟩ ?_
        refine e_istoreL [some (.ref NP), some (.ref 0), some (.ref 29), some (.ref 48), some (.int x4), some (.int v349), some (.int v354)] dL_law_1192 (Nat.le_of_ble_eq_true rfl) rfl ?_
        refine e_aload_n dL_law_1194 rfl ?_
        refine cI_go h (fun E357 hc355 hr358 => e_VX [] [] dL_law_1195 rfl rfl rfl rfl (by decide) (Nat.le_of_ble_eq_true rfl) (by omega) ⟨rfl, hc355⟩ rfl ⟨hr358.symm, rfl⟩) (fun v359 μ356 hc355 h => ?_)
        refine e_VI [] [] dL_law_1195 rfl rfl rfl rfl (by decide) (Nat.le_of_ble_eq_true rfl) (by omega) ⟨rfl, hc355⟩ ?_
        refine e_iload dL_law_1198 rfl ?_
        refine e_ic_eq (tgt := 1205) dL_law_1200 rfl (fun hc360 => ?_) (fun hc360 => ?_)
        · rw [if_pos hc360] at h
          refine e_iload dL_law_1205 rfl ?_
          refine e_if_ne (tgt := 1222) dL_law_1207 rfl (fun hc361 => ?_) (fun hc361 => ?_)
          · rw [if_neg hc361] at h
            refine e_goto (tgt := 1718) dL_law_1222 rfl ?_
            refine e_iincN 4 (5 : Int32) dL_law_1718 rfl ci_5 h (fun y9 => [some (.ref NP), some (.ref 0), some (.ref 29), some (.ref 48), some (.int y9), some (.int v349), some (.int v354)]) (fun _ => rfl) (fun v362 ev362 h => ?_)
            refine e_goto (tgt := 23) dL_law_1721 rfl ?_
            exact e_le (ih v362 μ356 _ (by omega) h) ⟨rfl, rfl, rfl, rfl, rfl, trivial⟩
          · rw [if_pos hc361] at h
            refine e_aload_n dL_law_1210 rfl ?_
            refine e_iconst dL_law_1211 ci_0 ?_
            refine e_laload0 (n := 1) dL_law_1212 (by decide) rfl (by decide : inb (0 : Int32) 1) ?_
            refine e_iload dL_law_1213 rfl ?_
            refine e_i2l dL_law_1215 ?_
            refine e_lcmp dL_law_1216 ?_
            refine e_if_eq (tgt := 1222) dL_law_1217 rfl (fun hc363 => ?_) (fun hc363 => ?_)
            · rw [if_pos hc363] at h
              refine e_goto (tgt := 1718) dL_law_1222 rfl ?_
              refine e_iincN 4 (5 : Int32) dL_law_1718 rfl ci_5 h (fun y9 => [some (.ref NP), some (.ref 0), some (.ref 29), some (.ref 48), some (.int y9), some (.int v349), some (.int v354)]) (fun _ => rfl) (fun v364 ev364 h => ?_)
              refine e_goto (tgt := 23) dL_law_1721 rfl ?_
              exact e_le (ih v364 μ356 _ (by omega) h) ⟨rfl, rfl, rfl, rfl, rfl, trivial⟩
            · rw [if_neg hc363] at h
              refine e_iconst dL_law_1220 ci_0 ?_
              exact e_iret .boolean dL_law_1221 rfl rfl (ret_eq h)
        · rw [if_neg hc360] at h
          refine e_iconst dL_law_1203 ci_0 ?_
          exact e_iret .boolean dL_law_1204 rfl rfl (ret_eq h)
      rw [if_neg hc344] at h
      by_cases hc365 : ((xs (Int32.toNatClampNeg x4)) &&& (31 : Int32)) = (18 : Int32)
      · rw [if_pos hc365] at h
        refine e_tsL (18 : Int32) (tgt := 1225) hc365 dL_law_39 (by decide) (by decide) rfl rfl ?_
        refine e_aload_n dL_law_1225 rfl ?_
        refine cI_go h (fun E368 hc366 hr369 => e_VX [] [] dL_law_1226 rfl rfl rfl rfl (by decide) (Nat.le_of_ble_eq_true rfl) (by omega) ⟨rfl, hc366⟩ rfl ⟨hr369.symm, rfl⟩) (fun v370 μ367 hc366 h => ?_)
        refine e_VI [] [] dL_law_1226 rfl rfl rfl rfl (by decide) (Nat.le_of_ble_eq_true rfl) (by omega) ⟨rfl, hc366⟩ ?_
        refine e_aload_n dL_law_1229 rfl ?_
        refine cI_go h (fun E373 hc371 hr374 => e_VX [] [.int v370] dL_law_1230 rfl rfl rfl rfl (by decide) (Nat.le_of_ble_eq_true rfl) (by omega) ⟨rfl, hc371⟩ rfl ⟨hr374.symm, rfl⟩) (fun v375 μ372 hc371 h => ?_)
        refine e_VI [] [.int v370] dL_law_1230 rfl rfl rfl rfl (by decide) (Nat.le_of_ble_eq_true rfl) (by omega) ⟨rfl, hc371⟩ ?_
        refine e_ic_eq (tgt := 1718) dL_law_1233 rfl (fun hc376 => ?_) (fun hc376 => ?_)
        · rw [if_pos hc376] at h
          refine e_iincN 4 (5 : Int32) dL_law_1718 rfl ci_5 h (fun y9 => [some (.ref NP), some (.ref 0), some (.ref 29), some (.ref 48), some (.int y9), none, none]) (fun _ => rfl) (fun v377 ev377 h => ?_)
          refine e_goto (tgt := 23) dL_law_1721 rfl ?_
          exact e_le (ih v377 μ372 _ (by omega) h) ⟨rfl, rfl, rfl, rfl, rfl, trivial⟩
        · rw [if_neg hc376] at h
          refine e_iconst dL_law_1236 ci_0 ?_
          exact e_iret .boolean dL_law_1237 rfl rfl (ret_eq h)
      rw [if_neg hc365] at h
      by_cases hc378 : ((xs (Int32.toNatClampNeg x4)) &&& (31 : Int32)) = (19 : Int32)
      · rw [if_pos hc378] at h
        refine e_tsL (19 : Int32) (tgt := 1238) hc378 dL_law_39 (by decide) (by decide) rfl rfl ?_
        refine e_aload_n dL_law_1238 rfl ?_
        refine e_aload_n dL_law_1239 rfl ?_
        refine cI_go h (fun E381 hc379 hr382 => e_SX [.ref 0, .ref 48] [] dL_law_1240 rfl (by decide) rfl rfl (Nat.le_of_ble_eq_true rfl) (by omega) ⟨rfl, hc379⟩ rfl ⟨hr382.symm, rfl⟩) (fun v383 μ380 hc379 h => ?_)
        refine e_SI [.ref 0, .ref 48] [] dL_law_1240 rfl (by decide) rfl rfl (Nat.le_of_ble_eq_true rfl) (by omega) ⟨rfl, hc379⟩ ?_
        refine e_istoreL [some (.ref NP), some (.ref 0), some (.ref 29), some (.ref 48), some (.int x4), some (.int v383), none] dL_law_1243 (Nat.le_of_ble_eq_true rfl) rfl ?_
        refine e_aload_n dL_law_1245 rfl ?_
        refine cI_go h (fun E386 hc384 hr387 => e_VX [] [] dL_law_1246 rfl rfl rfl rfl (by decide) (Nat.le_of_ble_eq_true rfl) (by omega) ⟨rfl, hc384⟩ rfl ⟨hr387.symm, rfl⟩) (fun v388 μ385 hc384 h => ?_)
        refine e_VI [] [] dL_law_1246 rfl rfl rfl rfl (by decide) (Nat.le_of_ble_eq_true rfl) (by omega) ⟨rfl, hc384⟩ ?_
        refine e_istoreL [some (.ref NP), some (.ref 0), some (.ref 29), some (.ref 48), some (.int x4), some (.int v383), some (.int v388)] dL_law_1249 (Nat.le_of_ble_eq_true rfl) rfl ?_
        refine e_aload_n dL_law_1251 rfl ?_
        refine cI_go h (fun E391 hc389 hr392 => e_VX [] [] dL_law_1252 rfl rfl rfl rfl (by decide) (Nat.le_of_ble_eq_true rfl) (by omega) ⟨rfl, hc389⟩ rfl ⟨hr392.symm, rfl⟩) (fun v393 μ390 hc389 h => ?_)
        refine e_VI [] [] dL_law_1252 rfl rfl rfl rfl (by decide) (Nat.le_of_ble_eq_true rfl) (by omega) ⟨rfl, hc389⟩ ?_
        refine e_iload dL_law_1255 rfl ?_
        refine e_ic_eq (tgt := 1262) dL_law_1257 rfl (fun hc394 => ?_) (fun hc394 => ?_)
        · rw [if_pos hc394] at h
          refine e_iload dL_law_1262 rfl ?_
          refine e_if_ne (tgt := 1279) dL_law_1264 rfl (fun hc395 => ?_) (fun hc395 => ?_)
          · rw [if_neg hc395] at h
            refine e_goto (tgt := 1718) dL_law_1279 rfl ?_
            refine e_iincN 4 (5 : Int32) dL_law_1718 rfl ci_5 h (fun y9 => [some (.ref NP), some (.ref 0), some (.ref 29), some (.ref 48), some (.int y9), some (.int v383), some (.int v388)]) (fun _ => rfl) (fun v396 ev396 h => ?_)
            refine e_goto (tgt := 23) dL_law_1721 rfl ?_
            exact e_le (ih v396 μ390 _ (by omega) h) ⟨rfl, rfl, rfl, rfl, rfl, trivial⟩
          · rw [if_pos hc395] at h
            refine e_aload_n dL_law_1267 rfl ?_
            refine e_iconst dL_law_1268 ci_0 ?_
            refine e_laload0 (n := 1) dL_law_1269 (by decide) rfl (by decide : inb (0 : Int32) 1) ?_
            refine e_iload dL_law_1270 rfl ?_
            refine e_i2l dL_law_1272 ?_
            refine e_lcmp dL_law_1273 ?_
            refine e_if_eq (tgt := 1279) dL_law_1274 rfl (fun hc397 => ?_) (fun hc397 => ?_)
            · rw [if_pos hc397] at h
              refine e_goto (tgt := 1718) dL_law_1279 rfl ?_
              refine e_iincN 4 (5 : Int32) dL_law_1718 rfl ci_5 h (fun y9 => [some (.ref NP), some (.ref 0), some (.ref 29), some (.ref 48), some (.int y9), some (.int v383), some (.int v388)]) (fun _ => rfl) (fun v398 ev398 h => ?_)
              refine e_goto (tgt := 23) dL_law_1721 rfl ?_
              exact e_le (ih v398 μ390 _ (by omega) h) ⟨rfl, rfl, rfl, rfl, rfl, trivial⟩
            · rw [if_neg hc397] at h
              refine e_iconst dL_law_1277 ci_0 ?_
              exact e_iret .boolean dL_law_1278 rfl rfl (ret_eq h)
        · rw [if_neg hc394] at h
          refine e_iconst dL_law_1260 ci_0 ?_
          exact e_iret .boolean dL_law_1261 rfl rfl (ret_eq h)
      rw [if_neg hc378] at h
      by_cases hc399 : ((xs (Int32.toNatClampNeg x4)) &&& (31 : Int32)) = (20 : Int32)
      · rw [if_pos hc399] at h
        refine e_tsL (20 : Int32) (tgt := 1282) hc399 dL_law_39 (by decide) (by decide) rfl rfl ?_
        refine e_aload_n dL_law_1282 rfl ?_
        refine cI_go h (fun E402 hc400 hr403 => e_VX [] [] dL_law_1283 rfl rfl rfl rfl (by decide) (Nat.le_of_ble_eq_true rfl) (by omega) ⟨rfl, hc400⟩ rfl ⟨hr403.symm, rfl⟩) (fun v404 μ401 hc400 h => ?_)
        refine e_VI [] [] dL_law_1283 rfl rfl rfl rfl (by decide) (Nat.le_of_ble_eq_true rfl) (by omega) ⟨rfl, hc400⟩ ?_
        refine e_aload_n dL_law_1286 rfl ?_
        refine cI_go h (fun E407 hc405 hr408 => e_VX [] [.int v404] dL_law_1287 rfl rfl rfl rfl (by decide) (Nat.le_of_ble_eq_true rfl) (by omega) ⟨rfl, hc405⟩ rfl ⟨hr408.symm, rfl⟩) (fun v409 μ406 hc405 h => ?_)
        refine e_VI [] [.int v404] dL_law_1287 rfl rfl rfl rfl (by decide) (Nat.le_of_ble_eq_true rfl) (by omega) ⟨rfl, hc405⟩ ?_
        refine e_ic_eq (tgt := 1718) dL_law_1290 rfl (fun hc410 => ?_) (fun hc410 => ?_)
        · rw [if_pos hc410] at h
          refine e_iincN 4 (5 : Int32) dL_law_1718 rfl ci_5 h (fun y9 => [some (.ref NP), some (.ref 0), some (.ref 29), some (.ref 48), some (.int y9), none, none]) (fun _ => rfl) (fun v411 ev411 h => ?_)
          refine e_goto (tgt := 23) dL_law_1721 rfl ?_
          exact e_le (ih v411 μ406 _ (by omega) h) ⟨rfl, rfl, rfl, rfl, rfl, trivial⟩
        · rw [if_neg hc410] at h
          refine e_iconst dL_law_1293 ci_0 ?_
          exact e_iret .boolean dL_law_1294 rfl rfl (ret_eq h)
      rw [if_neg hc399] at h
      by_cases hc412 : ((xs (Int32.toNatClampNeg x4)) &&& (31 : Int32)) = (21 : Int32)
      · rw [if_pos hc412] at h
        refine e_tsL (21 : Int32) (tgt := 1295) hc412 dL_law_39 (by decide) (by decide) rfl rfl ?_
        refine e_aload_n dL_law_1295 rfl ?_
        refine e_aload_n dL_law_1296 rfl ?_
        refine e_iload dL_law_1297 rfl ?_
        refine e_iconst dL_law_1299 ci_1 ?_
        refine e_iadd dL_law_1300 ?_
        obtain ⟨hc413, h⟩ := ck_eq h
        refine e_ialoadS dL_law_1301 rfl hc413 ?_
        refine e_if_eq (tgt := 1309) dL_law_1302 rfl (fun hc414 => ?_) (fun hc414 => ?_)
        · rw [if_pos hc414] at h
          refine e_iconst dL_law_1309 ci_0 ?_
          exact e_le (g_L_law_1310 L xs ih x4 (0 : Int32) μ _ (by omega) h) ⟨rfl, rfl, rfl, rfl, rfl, trivial⟩
        · rw [if_neg hc414] at h
          refine e_iconst dL_law_1305 ci_1 ?_
          refine e_goto (tgt := 1310) dL_law_1306 rfl ?_
          exact e_le (g_L_law_1310 L xs ih x4 (1 : Int32) μ _ (by omega) h) ⟨rfl, rfl, rfl, rfl, rfl, trivial⟩
      rw [if_neg hc412] at h
      by_cases hc415 : ((xs (Int32.toNatClampNeg x4)) &&& (31 : Int32)) = (22 : Int32)
      · rw [if_pos hc415] at h
        refine e_tsL (22 : Int32) (tgt := 1336) hc415 dL_law_39 (by decide) (by decide) rfl rfl ?_
        refine e_aload_n dL_law_1336 rfl ?_
        refine cI_go h (fun E418 hc416 hr419 => e_VX [] [] dL_law_1337 rfl rfl rfl rfl (by decide) (Nat.le_of_ble_eq_true rfl) (by omega) ⟨rfl, hc416⟩ rfl ⟨hr419.symm, rfl⟩) (fun v420 μ417 hc416 h => ?_)
        refine e_VI [] [] dL_law_1337 rfl rfl rfl rfl (by decide) (Nat.le_of_ble_eq_true rfl) (by omega) ⟨rfl, hc416⟩ ?_
        refine e_aload_n dL_law_1340 rfl ?_
        refine cI_go h (fun E423 hc421 hr424 => e_VX [] [.int v420] dL_law_1341 rfl rfl rfl rfl (by decide) (Nat.le_of_ble_eq_true rfl) (by omega) ⟨rfl, hc421⟩ rfl ⟨hr424.symm, rfl⟩) (fun v425 μ422 hc421 h => ?_)
        refine e_VI [] [.int v420] dL_law_1341 rfl rfl rfl rfl (by decide) (Nat.le_of_ble_eq_true rfl) (by omega) ⟨rfl, hc421⟩ ?_
        refine e_ic_eq (tgt := 1718) dL_law_1344 rfl (fun hc426 => ?_) (fun hc426 => ?_)
        · rw [if_pos hc426] at h
          refine e_iincN 4 (5 : Int32) dL_law_1718 rfl ci_5 h (fun y9 => [some (.ref NP), some (.ref 0), some (.ref 29), some (.ref 48), some (.int y9), none, none]) (fun _ => rfl) (fun v427 ev427 h => ?_)
          refine e_goto (tgt := 23) dL_law_1721 rfl ?_
          exact e_le (ih v427 μ422 _ (by omega) h) ⟨rfl, rfl, rfl, rfl, rfl, trivial⟩
        · rw [if_neg hc426] at h
          refine e_iconst dL_law_1347 ci_0 ?_
          exact e_iret .boolean dL_law_1348 rfl rfl (ret_eq h)
      rw [if_neg hc415] at h
      by_cases hc428 : ((xs (Int32.toNatClampNeg x4)) &&& (31 : Int32)) = (23 : Int32)
      · rw [if_pos hc428] at h
        refine e_tsL (23 : Int32) (tgt := 1349) hc428 dL_law_39 (by decide) (by decide) rfl rfl ?_
        refine e_aload_n dL_law_1349 rfl ?_
        refine e_aload_n dL_law_1350 rfl ?_
        refine cI_go h (fun E431 hc429 hr432 => e_SX [.ref 0, .ref 48] [] dL_law_1351 rfl (by decide) rfl rfl (Nat.le_of_ble_eq_true rfl) (by omega) ⟨rfl, hc429⟩ rfl ⟨hr432.symm, rfl⟩) (fun v433 μ430 hc429 h => ?_)
        refine e_SI [.ref 0, .ref 48] [] dL_law_1351 rfl (by decide) rfl rfl (Nat.le_of_ble_eq_true rfl) (by omega) ⟨rfl, hc429⟩ ?_
        refine e_istoreL [some (.ref NP), some (.ref 0), some (.ref 29), some (.ref 48), some (.int x4), some (.int v433), none] dL_law_1354 (Nat.le_of_ble_eq_true rfl) rfl ?_
        refine e_aload_n dL_law_1356 rfl ?_
        refine cI_go h (fun E436 hc434 hr437 => e_VX [] [] dL_law_1357 rfl rfl rfl rfl (by decide) (Nat.le_of_ble_eq_true rfl) (by omega) ⟨rfl, hc434⟩ rfl ⟨hr437.symm, rfl⟩) (fun v438 μ435 hc434 h => ?_)
        refine e_VI [] [] dL_law_1357 rfl rfl rfl rfl (by decide) (Nat.le_of_ble_eq_true rfl) (by omega) ⟨rfl, hc434⟩ ?_
        refine e_istoreL [some (.ref NP), some (.ref 0), some (.ref 29), some (.ref 48), some (.int x4), some (.int v433), some (.int v438)] dL_law_1360 (Nat.le_of_ble_eq_true rfl) rfl ?_
        refine e_aload_n dL_law_1362 rfl ?_
        refine cI_go h (fun E441 hc439 hr442 => e_VX [] [] dL_law_1363 rfl rfl rfl rfl (by decide) (Nat.le_of_ble_eq_true rfl) (by omega) ⟨rfl, hc439⟩ rfl ⟨hr442.symm, rfl⟩) (fun v443 μ440 hc439 h => ?_)
        refine e_VI [] [] dL_law_1363 rfl rfl rfl rfl (by decide) (Nat.le_of_ble_eq_true rfl) (by omega) ⟨rfl, hc439⟩ ?_
        refine e_iload dL_law_1366 rfl ?_
        refine e_ic_eq (tgt := 1373) dL_law_1368 rfl (fun hc444 => ?_) (fun hc444 => ?_)
        · rw [if_pos hc444] at h
          refine e_iload dL_law_1373 rfl ?_
          refine e_if_ne (tgt := 1390) dL_law_1375 rfl (fun hc445 => ?_) (fun hc445 => ?_)
          · rw [if_neg hc445] at h
            refine e_goto (tgt := 1718) dL_law_1390 rfl ?_
            refine e_iincN 4 (5 : Int32) dL_law_1718 rfl ci_5 h (fun y9 => [some (.ref NP), some (.ref 0), some (.ref 29), some (.ref 48), some (.int y9), some (.int v433), some (.int v438)]) (fun _ => rfl) (fun v446 ev446 h => ?_)
            refine e_goto (tgt := 23) dL_law_1721 rfl ?_
            exact e_le (ih v446 μ440 _ (by omega) h) ⟨rfl, rfl, rfl, rfl, rfl, trivial⟩
          · rw [if_pos hc445] at h
            refine e_aload_n dL_law_1378 rfl ?_
            refine e_iconst dL_law_1379 ci_0 ?_
            refine e_laload0 (n := 1) dL_law_1380 (by decide) rfl (by decide : inb (0 : Int32) 1) ?_
            refine e_iload dL_law_1381 rfl ?_
            refine e_i2l dL_law_1383 ?_
            refine e_lcmp dL_law_1384 ?_
            refine e_if_eq (tgt := 1390) dL_law_1385 rfl (fun hc447 => ?_) (fun hc447 => ?_)
            · rw [if_pos hc447] at h
              refine e_goto (tgt := 1718) dL_law_1390 rfl ?_
              refine e_iincN 4 (5 : Int32) dL_law_1718 rfl ci_5 h (fun y9 => [some (.ref NP), some (.ref 0), some (.ref 29), some (.ref 48), some (.int y9), some (.int v433), some (.int v438)]) (fun _ => rfl) (fun v448 ev448 h => ?_)
              refine e_goto (tgt := 23) dL_law_1721 rfl ?_
              exact e_le (ih v448 μ440 _ (by omega) h) ⟨rfl, rfl, rfl, rfl, rfl, trivial⟩
            · rw [if_neg hc447] at h
              refine e_iconst dL_law_1388 ci_0 ?_
              exact e_iret .boolean dL_law_1389 rfl rfl (ret_eq h)
        · rw [if_neg hc444] at h
          refine e_iconst dL_law_1371 ci_0 ?_
          exact e_iret .boolean dL_law_1372 rfl rfl (ret_eq h)
      rw [if_neg hc428] at h
      by_cases hc449 : ((xs (Int32.toNatClampNeg x4)) &&& (31 : Int32)) = (24 : Int32)
      · rw [if_pos hc449] at h
        refine e_tsL (24 : Int32) (tgt := 1393) hc449 dL_law_39 (by decide) (by decide) rfl rfl ?_
        refine e_aload_n dL_law_1393 rfl ?_
        refine cI_go h (fun E452 hc450 hr453 => e_VX [] [] dL_law_1394 rfl rfl rfl rfl (by decide) (Nat.le_of_ble_eq_true rfl) (by omega) ⟨rfl, hc450⟩ rfl ⟨hr453.symm, rfl⟩) (fun v454 μ451 hc450 h => ?_)
        refine e_VI [] [] dL_law_1394 rfl rfl rfl rfl (by decide) (Nat.le_of_ble_eq_true rfl) (by omega) ⟨rfl, hc450⟩ ?_
        refine e_aload_n dL_law_1397 rfl ?_
        refine cI_go h (fun E457 hc455 hr458 => e_VX [] [.int v454] dL_law_1398 rfl rfl rfl rfl (by decide) (Nat.le_of_ble_eq_true rfl) (by omega) ⟨rfl, hc455⟩ rfl ⟨hr458.symm, rfl⟩) (fun v459 μ456 hc455 h => ?_)
        refine e_VI [] [.int v454] dL_law_1398 rfl rfl rfl rfl (by decide) (Nat.le_of_ble_eq_true rfl) (by omega) ⟨rfl, hc455⟩ ?_
        refine e_ic_eq (tgt := 1718) dL_law_1401 rfl (fun hc460 => ?_) (fun hc460 => ?_)
        · rw [if_pos hc460] at h
          refine e_iincN 4 (5 : Int32) dL_law_1718 rfl ci_5 h (fun y9 => [some (.ref NP), some (.ref 0), some (.ref 29), some (.ref 48), some (.int y9), none, none]) (fun _ => rfl) (fun v461 ev461 h => ?_)
          refine e_goto (tgt := 23) dL_law_1721 rfl ?_
          exact e_le (ih v461 μ456 _ (by omega) h) ⟨rfl, rfl, rfl, rfl, rfl, trivial⟩
        · rw [if_neg hc460] at h
          refine e_iconst dL_law_1404 ci_0 ?_
          exact e_iret .boolean dL_law_1405 rfl rfl (ret_eq h)
      rw [if_neg hc449] at h
      by_cases hc462 : ((xs (Int32.toNatClampNeg x4)) &&& (31 : Int32)) = (25 : Int32)
      · rw [if_pos hc462] at h
        refine e_tsL (25 : Int32) (tgt := 1406) hc462 dL_law_39 (by decide) (by decide) rfl rfl ?_
        refine e_aload_n dL_law_1406 rfl ?_
        refine e_aload_n dL_law_1407 rfl ?_
        refine e_iload dL_law_1408 rfl ?_
        refine e_iconst dL_law_1410 ci_1 ?_
        refine e_iadd dL_law_1411 ?_
        obtain ⟨hc463, h⟩ := ck_eq h
        refine e_ialoadS dL_law_1412 rfl hc463 ?_
        refine e_aload_n dL_law_1413 rfl ?_
        refine e_iload dL_law_1414 rfl ?_
        refine e_iconst dL_law_1416 ci_2 ?_
        refine e_iadd dL_law_1417 ?_
        obtain ⟨hc464, h⟩ := ck_eq h
        refine e_ialoadS dL_law_1418 rfl hc464 ?_
        refine e_i2l dL_law_1419 ?_
        refine e_bipush dL_law_1420 cb_32 ?_
        refine e_lshl dL_law_1422 ?_
        refine e_aload_n dL_law_1423 rfl ?_
        refine e_iload dL_law_1424 rfl ?_
        refine e_iconst dL_law_1426 ci_3 ?_
        refine e_iadd dL_law_1427 ?_
        obtain ⟨hc465, h⟩ := ck_eq h
        refine e_ialoadS dL_law_1428 rfl hc465 ?_
        refine e_i2l dL_law_1429 ?_
        refine e_ldc2 (v := (4294967295 : Int64)) dL_law_1430 rfl ?_
        refine e_land dL_law_1433 ?_
        refine e_lor dL_law_1434 ?_
        refine e_aload_n dL_law_1435 rfl ?_
        refine cI_go h (fun E468 hc466 hr469 => e_SX [.ref 0, .int (xs (Int32.toNatClampNeg (x4 + (1 : Int32)))), .long ((shlL (Int32.toInt64 (xs (Int32.toNatClampNeg (x4 + (2 : Int32))))) (32 : Int32)) ||| ((Int32.toInt64 (xs (Int32.toNatClampNeg (x4 + (3 : Int32))))) &&& (4294967295 : Int64))), .ref 48] [] dL_law_1436 rfl (by decide) rfl rfl (Nat.le_of_ble_eq_true rfl) (by omega) ⟨xs (Int32.toNatClampNeg (x4 + (1 : Int32))), (shlL (Int32.toInt64 (xs (Int32.toNatClampNeg (x4 + (2 : Int32))))) (32 : Int32)) ||| ((Int32.toInt64 (xs (Int32.toNatClampNeg (x4 + (3 : Int32))))) &&& (4294967295 : Int64)), rfl, hc466⟩ rfl ⟨hr469.symm, rfl⟩) (fun v470 μ467 hc466 h => ?_)
        refine e_SI [.ref 0, .int (xs (Int32.toNatClampNeg (x4 + (1 : Int32)))), .long ((shlL (Int32.toInt64 (xs (Int32.toNatClampNeg (x4 + (2 : Int32))))) (32 : Int32)) ||| ((Int32.toInt64 (xs (Int32.toNatClampNeg (x4 + (3 : Int32))))) &&& (4294967295 : Int64))), .ref 48] [] dL_law_1436 rfl (by decide) rfl rfl (Nat.le_of_ble_eq_true rfl) (by omega) ⟨xs (Int32.toNatClampNeg (x4 + (1 : Int32))), (shlL (Int32.toInt64 (xs (Int32.toNatClampNeg (x4 + (2 : Int32))))) (32 : Int32)) ||| ((Int32.toInt64 (xs (Int32.toNatClampNeg (x4 + (3 : Int32))))) &&& (4294967295 : Int64)), rfl, hc466⟩ ?_
        refine e_istoreL [some (.ref NP), some (.ref 0), some (.ref 29), some (.ref 48), some (.int x4), some (.int v470), none] dL_law_1439 (Nat.le_of_ble_eq_true rfl) rfl ?_
        refine e_aload_n dL_law_1441 rfl ?_
        refine e_aload_n dL_law_1442 rfl ?_
        refine e_iload dL_law_1443 rfl ?_
        refine e_iconst dL_law_1445 ci_1 ?_
        refine e_iadd dL_law_1446 ?_
        obtain ⟨hc471, h⟩ := ck_eq h
        refine e_ialoadS dL_law_1447 rfl hc471 ?_
        refine e_aload_n dL_law_1448 rfl ?_
        refine e_iload dL_law_1449 rfl ?_
        refine e_iconst dL_law_1451 ci_2 ?_
        refine e_iadd dL_law_1452 ?_
        obtain ⟨hc472, h⟩ := ck_eq h
        refine e_ialoadS dL_law_1453 rfl hc472 ?_
        refine e_i2l dL_law_1454 ?_
        refine e_bipush dL_law_1455 cb_32 ?_
        refine e_lshl dL_law_1457 ?_
        refine e_aload_n dL_law_1458 rfl ?_
        refine e_iload dL_law_1459 rfl ?_
        refine e_iconst dL_law_1461 ci_3 ?_
        refine e_iadd dL_law_1462 ?_
        obtain ⟨hc473, h⟩ := ck_eq h
        refine e_ialoadS dL_law_1463 rfl hc473 ?_
        refine e_i2l dL_law_1464 ?_
        refine e_ldc2 (v := (4294967295 : Int64)) dL_law_1465 rfl ?_
        refine e_land dL_law_1468 ?_
        refine e_lor dL_law_1469 ?_
        refine cI_go h (fun E476 hc474 hr477 => e_VX [.int (xs (Int32.toNatClampNeg (x4 + (1 : Int32)))), .long ((shlL (Int32.toInt64 (xs (Int32.toNatClampNeg (x4 + (2 : Int32))))) (32 : Int32)) ||| ((Int32.toInt64 (xs (Int32.toNatClampNeg (x4 + (3 : Int32))))) &&& (4294967295 : Int64)))] [] dL_law_1470 rfl rfl rfl rfl (by decide) (Nat.le_of_ble_eq_true rfl) (by omega) ⟨xs (Int32.toNatClampNeg (x4 + (1 : Int32))), (shlL (Int32.toInt64 (xs (Int32.toNatClampNeg (x4 + (2 : Int32))))) (32 : Int32)) ||| ((Int32.toInt64 (xs (Int32.toNatClampNeg (x4 + (3 : Int32))))) &&& (4294967295 : Int64)), rfl, hc474⟩ rfl ⟨hr477.symm, rfl⟩) (fun v478 μ475 hc474 h => ?_)
        refine e_VI [.int (xs (Int32.toNatClampNeg (x4 + (1 : Int32)))), .long ((shlL (Int32.toInt64 (xs (Int32.toNatClampNeg (x4 + (2 : Int32))))) (32 : Int32)) ||| ((Int32.toInt64 (xs (Int32.toNatClampNeg (x4 + (3 : Int32))))) &&& (4294967295 : Int64)))] [] dL_law_1470 rfl rfl rfl rfl (by decide) (Nat.le_of_ble_eq_true rfl) (by omega) ⟨xs (Int32.toNatClampNeg (x4 + (1 : Int32))), (shlL (Int32.toInt64 (xs (Int32.toNatClampNeg (x4 + (2 : Int32))))) (32 : Int32)) ||| ((Int32.toInt64 (xs (Int32.toNatClampNeg (x4 + (3 : Int32))))) &&& (4294967295 : Int64)), rfl, hc474⟩ ?_
        refine e_istoreL [some (.ref NP), some (.ref 0), some (.ref 29), some (.ref 48), some (.int x4), some (.int v470), some (.int v478)] dL_law_1473 (Nat.le_of_ble_eq_true rfl) rfl ?_
        refine e_aload_n dL_law_1475 rfl ?_
        refine cI_go h (fun E481 hc479 hr482 => e_VX [] [] dL_law_1476 rfl rfl rfl rfl (by decide) (Nat.le_of_ble_eq_true rfl) (by omega) ⟨rfl, hc479⟩ rfl ⟨hr482.symm, rfl⟩) (fun v483 μ480 hc479 h => ?_)
        refine e_VI [] [] dL_law_1476 rfl rfl rfl rfl (by decide) (Nat.le_of_ble_eq_true rfl) (by omega) ⟨rfl, hc479⟩ ?_
        refine e_iload dL_law_1479 rfl ?_
        refine e_ic_eq (tgt := 1486) dL_law_1481 rfl (fun hc484 => ?_) (fun hc484 => ?_)
        · rw [if_pos hc484] at h
          refine e_iload dL_law_1486 rfl ?_
          refine e_if_ne (tgt := 1503) dL_law_1488 rfl (fun hc485 => ?_) (fun hc485 => ?_)
          · rw [if_neg hc485] at h
            refine e_goto (tgt := 1718) dL_law_1503 rfl ?_
            refine e_iincN 4 (5 : Int32) dL_law_1718 rfl ci_5 h (fun y9 => [some (.ref NP), some (.ref 0), some (.ref 29), some (.ref 48), some (.int y9), some (.int v470), some (.int v478)]) (fun _ => rfl) (fun v486 ev486 h => ?_)
            refine e_goto (tgt := 23) dL_law_1721 rfl ?_
            exact e_le (ih v486 μ480 _ (by omega) h) ⟨rfl, rfl, rfl, rfl, rfl, trivial⟩
          · rw [if_pos hc485] at h
            refine e_aload_n dL_law_1491 rfl ?_
            refine e_iconst dL_law_1492 ci_0 ?_
            refine e_laload0 (n := 1) dL_law_1493 (by decide) rfl (by decide : inb (0 : Int32) 1) ?_
            refine e_iload dL_law_1494 rfl ?_
            refine e_i2l dL_law_1496 ?_
            refine e_lcmp dL_law_1497 ?_
            refine e_if_eq (tgt := 1503) dL_law_1498 rfl (fun hc487 => ?_) (fun hc487 => ?_)
            · rw [if_pos hc487] at h
              refine e_goto (tgt := 1718) dL_law_1503 rfl ?_
              refine e_iincN 4 (5 : Int32) dL_law_1718 rfl ci_5 h (fun y9 => [some (.ref NP), some (.ref 0), some (.ref 29), some (.ref 48), some (.int y9), some (.int v470), some (.int v478)]) (fun _ => rfl) (fun v488 ev488 h => ?_)
              refine e_goto (tgt := 23) dL_law_1721 rfl ?_
              exact e_le (ih v488 μ480 _ (by omega) h) ⟨rfl, rfl, rfl, rfl, rfl, trivial⟩
            · rw [if_neg hc487] at h
              refine e_iconst dL_law_1501 ci_0 ?_
              exact e_iret .boolean dL_law_1502 rfl rfl (ret_eq h)
        · rw [if_neg hc484] at h
          refine e_iconst dL_law_1484 ci_0 ?_
          exact e_iret .boolean dL_law_1485 rfl rfl (ret_eq h)
      rw [if_neg hc462] at h
      by_cases hc489 : ((xs (Int32.toNatClampNeg x4)) &&& (31 : Int32)) = (26 : Int32)
      · rw [if_pos hc489] at h
        refine e_tsL (26 : Int32) (tgt := 1506) hc489 dL_law_39 (by decide) (by decide) rfl rfl ?_
        refine e_aload_n dL_law_1506 rfl ?_
        refine e_aload_n dL_law_1507 rfl ?_
        refine e_iload dL_law_1508 rfl ?_
        refine e_iconst dL_law_1510 ci_1 ?_
        refine e_iadd dL_law_1511 ?_
        obtain ⟨hc490, h⟩ := ck_eq h
        refine e_ialoadS dL_law_1512 rfl hc490 ?_
        refine e_i2l dL_law_1513 ?_
        refine e_bipush dL_law_1514 cb_32 ?_
        refine e_lshl dL_law_1516 ?_
        refine e_aload_n dL_law_1517 rfl ?_
        refine e_iload dL_law_1518 rfl ?_
        refine e_iconst dL_law_1520 ci_2 ?_
        refine e_iadd dL_law_1521 ?_
        obtain ⟨hc491, h⟩ := ck_eq h
        refine e_ialoadS dL_law_1522 rfl hc491 ?_
        refine e_i2l dL_law_1523 ?_
        refine e_ldc2 (v := (4294967295 : Int64)) dL_law_1524 rfl ?_
        refine e_land dL_law_1527 ?_
        refine e_lor dL_law_1528 ?_
        refine e_aload_n dL_law_1529 rfl ?_
        refine e_iload dL_law_1530 rfl ?_
        refine e_iconst dL_law_1532 ci_3 ?_
        refine e_iadd dL_law_1533 ?_
        obtain ⟨hc492, h⟩ := ck_eq h
        refine e_ialoadS dL_law_1534 rfl hc492 ?_
        refine e_aload_n dL_law_1535 rfl ?_
        refine cI_go h (fun E495 hc493 hr496 => e_SX [.ref 0, .long ((shlL (Int32.toInt64 (xs (Int32.toNatClampNeg (x4 + (1 : Int32))))) (32 : Int32)) ||| ((Int32.toInt64 (xs (Int32.toNatClampNeg (x4 + (2 : Int32))))) &&& (4294967295 : Int64))), .int (xs (Int32.toNatClampNeg (x4 + (3 : Int32)))), .ref 48] [] dL_law_1536 rfl (by decide) rfl rfl (Nat.le_of_ble_eq_true rfl) (by omega) ⟨(shlL (Int32.toInt64 (xs (Int32.toNatClampNeg (x4 + (1 : Int32))))) (32 : Int32)) ||| ((Int32.toInt64 (xs (Int32.toNatClampNeg (x4 + (2 : Int32))))) &&& (4294967295 : Int64)), xs (Int32.toNatClampNeg (x4 + (3 : Int32))), rfl, hc493⟩ rfl ⟨hr496.symm, rfl⟩) (fun v497 μ494 hc493 h => ?_)
        refine e_SI [.ref 0, .long ((shlL (Int32.toInt64 (xs (Int32.toNatClampNeg (x4 + (1 : Int32))))) (32 : Int32)) ||| ((Int32.toInt64 (xs (Int32.toNatClampNeg (x4 + (2 : Int32))))) &&& (4294967295 : Int64))), .int (xs (Int32.toNatClampNeg (x4 + (3 : Int32)))), .ref 48] [] dL_law_1536 rfl (by decide) rfl rfl (Nat.le_of_ble_eq_true rfl) (by omega) ⟨(shlL (Int32.toInt64 (xs (Int32.toNatClampNeg (x4 + (1 : Int32))))) (32 : Int32)) ||| ((Int32.toInt64 (xs (Int32.toNatClampNeg (x4 + (2 : Int32))))) &&& (4294967295 : Int64)), xs (Int32.toNatClampNeg (x4 + (3 : Int32))), rfl, hc493⟩ ?_
        refine e_istoreL [some (.ref NP), some (.ref 0), some (.ref 29), some (.ref 48), some (.int x4), some (.int v497), none] dL_law_1539 (Nat.le_of_ble_eq_true rfl) rfl ?_
        refine e_aload_n dL_law_1541 rfl ?_
        refine e_aload_n dL_law_1542 rfl ?_
        refine e_iload dL_law_1543 rfl ?_
        refine e_iconst dL_law_1545 ci_1 ?_
        refine e_iadd dL_law_1546 ?_
        obtain ⟨hc498, h⟩ := ck_eq h
        refine e_ialoadS dL_law_1547 rfl hc498 ?_
        refine e_i2l dL_law_1548 ?_
        refine e_bipush dL_law_1549 cb_32 ?_
        refine e_lshl dL_law_1551 ?_
        refine e_aload_n dL_law_1552 rfl ?_
        refine e_iload dL_law_1553 rfl ?_
        refine e_iconst dL_law_1555 ci_2 ?_
        refine e_iadd dL_law_1556 ?_
        obtain ⟨hc499, h⟩ := ck_eq h
        refine e_ialoadS dL_law_1557 rfl hc499 ?_
        refine e_i2l dL_law_1558 ?_
        refine e_ldc2 (v := (4294967295 : Int64)) dL_law_1559 rfl ?_
        refine e_land dL_law_1562 ?_
        refine e_lor dL_law_1563 ?_
        refine e_aload_n dL_law_1564 rfl ?_
        refine e_iload dL_law_1565 rfl ?_
        refine e_iconst dL_law_1567 ci_3 ?_
        refine e_iadd dL_law_1568 ?_
        obtain ⟨hc500, h⟩ := ck_eq h
        refine e_ialoadS dL_law_1569 rfl hc500 ?_
        refine cI_go h (fun E503 hc501 hr504 => e_VX [.long ((shlL (Int32.toInt64 (xs (Int32.toNatClampNeg (x4 + (1 : Int32))))) (32 : Int32)) ||| ((Int32.toInt64 (xs (Int32.toNatClampNeg (x4 + (2 : Int32))))) &&& (4294967295 : Int64))), .int (xs (Int32.toNatClampNeg (x4 + (3 : Int32))))] [] dL_law_1570 rfl rfl rfl rfl (by decide) (Nat.le_of_ble_eq_true rfl) (by omega) ⟨(shlL (Int32.toInt64 (xs (Int32.toNatClampNeg (x4 + (1 : Int32))))) (32 : Int32)) ||| ((Int32.toInt64 (xs (Int32.toNatClampNeg (x4 + (2 : Int32))))) &&& (4294967295 : Int64)), xs (Int32.toNatClampNeg (x4 + (3 : Int32))), rfl, hc501⟩ rfl ⟨hr504.symm, rfl⟩) (fun v505 μ502 hc501 h => ?_)
        refine e_VI [.long ((shlL (Int32.toInt64 (xs (Int32.toNatClampNeg (x4 + (1 : Int32))))) (32 : Int32)) ||| ((Int32.toInt64 (xs (Int32.toNatClampNeg (x4 + (2 : Int32))))) &&& (4294967295 : Int64))), .int (xs (Int32.toNatClampNeg (x4 + (3 : Int32))))] [] dL_law_1570 rfl rfl rfl rfl (by decide) (Nat.le_of_ble_eq_true rfl) (by omega) ⟨(shlL (Int32.toInt64 (xs (Int32.toNatClampNeg (x4 + (1 : Int32))))) (32 : Int32)) ||| ((Int32.toInt64 (xs (Int32.toNatClampNeg (x4 + (2 : Int32))))) &&& (4294967295 : Int64)), xs (Int32.toNatClampNeg (x4 + (3 : Int32))), rfl, hc501⟩ ?_
        refine e_istoreL [some (.ref NP), some (.ref 0), some (.ref 29), some (.ref 48), some (.int x4), some (.int v497), some (.int v505)] dL_law_1573 (Nat.le_of_ble_eq_true rfl) rfl ?_
        refine e_aload_n dL_law_1575 rfl ?_
        refine cI_go h (fun E508 hc506 hr509 => e_VX [] [] dL_law_1576 rfl rfl rfl rfl (by decide) (Nat.le_of_ble_eq_true rfl) (by omega) ⟨rfl, hc506⟩ rfl ⟨hr509.symm, rfl⟩) (fun v510 μ507 hc506 h => ?_)
        refine e_VI [] [] dL_law_1576 rfl rfl rfl rfl (by decide) (Nat.le_of_ble_eq_true rfl) (by omega) ⟨rfl, hc506⟩ ?_
        refine e_iload dL_law_1579 rfl ?_
        refine e_ic_eq (tgt := 1586) dL_law_1581 rfl (fun hc511 => ?_) (fun hc511 => ?_)
        · rw [if_pos hc511] at h
          refine e_iload dL_law_1586 rfl ?_
          refine e_if_ne (tgt := 1603) dL_law_1588 rfl (fun hc512 => ?_) (fun hc512 => ?_)
          · rw [if_neg hc512] at h
            refine e_goto (tgt := 1718) dL_law_1603 rfl ?_
            refine e_iincN 4 (5 : Int32) dL_law_1718 rfl ci_5 h (fun y9 => [some (.ref NP), some (.ref 0), some (.ref 29), some (.ref 48), some (.int y9), some (.int v497), some (.int v505)]) (fun _ => rfl) (fun v513 ev513 h => ?_)
            refine e_goto (tgt := 23) dL_law_1721 rfl ?_
            exact e_le (ih v513 μ507 _ (by omega) h) ⟨rfl, rfl, rfl, rfl, rfl, trivial⟩
          · rw [if_pos hc512] at h
            refine e_aload_n dL_law_1591 rfl ?_
            refine e_iconst dL_law_1592 ci_0 ?_
            refine e_laload0 (n := 1) dL_law_1593 (by decide) rfl (by decide : inb (0 : Int32) 1) ?_
            refine e_iload dL_law_1594 rfl ?_
            refine e_i2l dL_law_1596 ?_
            refine e_lcmp dL_law_1597 ?_
            refine e_if_eq (tgt := 1603) dL_law_1598 rfl (fun hc514 => ?_) (fun hc514 => ?_)
            · rw [if_pos hc514] at h
              refine e_goto (tgt := 1718) dL_law_1603 rfl ?_
              refine e_iincN 4 (5 : Int32) dL_law_1718 rfl ci_5 h (fun y9 => [some (.ref NP), some (.ref 0), some (.ref 29), some (.ref 48), some (.int y9), some (.int v497), some (.int v505)]) (fun _ => rfl) (fun v515 ev515 h => ?_)
              refine e_goto (tgt := 23) dL_law_1721 rfl ?_
              exact e_le (ih v515 μ507 _ (by omega) h) ⟨rfl, rfl, rfl, rfl, rfl, trivial⟩
            · rw [if_neg hc514] at h
              refine e_iconst dL_law_1601 ci_0 ?_
              exact e_iret .boolean dL_law_1602 rfl rfl (ret_eq h)
        · rw [if_neg hc511] at h
          refine e_iconst dL_law_1584 ci_0 ?_
          exact e_iret .boolean dL_law_1585 rfl rfl (ret_eq h)
      rw [if_neg hc489] at h
      by_cases hc516 : ((xs (Int32.toNatClampNeg x4)) &&& (31 : Int32)) = (27 : Int32)
      · rw [if_pos hc516] at h
        refine e_tsL (27 : Int32) (tgt := 1606) hc516 dL_law_39 (by decide) (by decide) rfl rfl ?_
        refine e_aload_n dL_law_1606 rfl ?_
        refine e_aload_n dL_law_1607 rfl ?_
        refine e_iload dL_law_1608 rfl ?_
        refine e_iconst dL_law_1610 ci_1 ?_
        refine e_iadd dL_law_1611 ?_
        obtain ⟨hc517, h⟩ := ck_eq h
        refine e_ialoadS dL_law_1612 rfl hc517 ?_
        refine e_aload_n dL_law_1613 rfl ?_
        refine cI_go h (fun E520 hc518 hr521 => e_SX [.ref 0, .int (xs (Int32.toNatClampNeg (x4 + (1 : Int32)))), .ref 48] [] dL_law_1614 rfl (by decide) rfl rfl (Nat.le_of_ble_eq_true rfl) (by omega) ⟨xs (Int32.toNatClampNeg (x4 + (1 : Int32))), rfl, hc518⟩ rfl ⟨hr521.symm, rfl⟩) (fun v522 μ519 hc518 h => ?_)
        refine e_SI [.ref 0, .int (xs (Int32.toNatClampNeg (x4 + (1 : Int32)))), .ref 48] [] dL_law_1614 rfl (by decide) rfl rfl (Nat.le_of_ble_eq_true rfl) (by omega) ⟨xs (Int32.toNatClampNeg (x4 + (1 : Int32))), rfl, hc518⟩ ?_
        refine e_istoreL [some (.ref NP), some (.ref 0), some (.ref 29), some (.ref 48), some (.int x4), some (.int v522), none] dL_law_1617 (Nat.le_of_ble_eq_true rfl) rfl ?_
        refine e_aload_n dL_law_1619 rfl ?_
        refine e_aload_n dL_law_1620 rfl ?_
        refine e_iload dL_law_1621 rfl ?_
        refine e_iconst dL_law_1623 ci_1 ?_
        refine e_iadd dL_law_1624 ?_
        obtain ⟨hc523, h⟩ := ck_eq h
        refine e_ialoadS dL_law_1625 rfl hc523 ?_
        refine cI_go h (fun E526 hc524 hr527 => e_VX [.int (xs (Int32.toNatClampNeg (x4 + (1 : Int32))))] [] dL_law_1626 rfl rfl rfl rfl (by decide) (Nat.le_of_ble_eq_true rfl) (by omega) ⟨xs (Int32.toNatClampNeg (x4 + (1 : Int32))), rfl, hc524⟩ rfl ⟨hr527.symm, rfl⟩) (fun v528 μ525 hc524 h => ?_)
        refine e_VI [.int (xs (Int32.toNatClampNeg (x4 + (1 : Int32))))] [] dL_law_1626 rfl rfl rfl rfl (by decide) (Nat.le_of_ble_eq_true rfl) (by omega) ⟨xs (Int32.toNatClampNeg (x4 + (1 : Int32))), rfl, hc524⟩ ?_
        refine e_istoreL [some (.ref NP), some (.ref 0), some (.ref 29), some (.ref 48), some (.int x4), some (.int v522), some (.int v528)] dL_law_1629 (Nat.le_of_ble_eq_true rfl) rfl ?_
        refine e_aload_n dL_law_1631 rfl ?_
        refine cI_go h (fun E531 hc529 hr532 => e_VX [] [] dL_law_1632 rfl rfl rfl rfl (by decide) (Nat.le_of_ble_eq_true rfl) (by omega) ⟨rfl, hc529⟩ rfl ⟨hr532.symm, rfl⟩) (fun v533 μ530 hc529 h => ?_)
        refine e_VI [] [] dL_law_1632 rfl rfl rfl rfl (by decide) (Nat.le_of_ble_eq_true rfl) (by omega) ⟨rfl, hc529⟩ ?_
        refine e_iload dL_law_1635 rfl ?_
        refine e_ic_eq (tgt := 1642) dL_law_1637 rfl (fun hc534 => ?_) (fun hc534 => ?_)
        · rw [if_pos hc534] at h
          refine e_iload dL_law_1642 rfl ?_
          refine e_if_ne (tgt := 1659) dL_law_1644 rfl (fun hc535 => ?_) (fun hc535 => ?_)
          · rw [if_neg hc535] at h
            refine e_goto (tgt := 1718) dL_law_1659 rfl ?_
            refine e_iincN 4 (5 : Int32) dL_law_1718 rfl ci_5 h (fun y9 => [some (.ref NP), some (.ref 0), some (.ref 29), some (.ref 48), some (.int y9), some (.int v522), some (.int v528)]) (fun _ => rfl) (fun v536 ev536 h => ?_)
            refine e_goto (tgt := 23) dL_law_1721 rfl ?_
            exact e_le (ih v536 μ530 _ (by omega) h) ⟨rfl, rfl, rfl, rfl, rfl, trivial⟩
          · rw [if_pos hc535] at h
            refine e_aload_n dL_law_1647 rfl ?_
            refine e_iconst dL_law_1648 ci_0 ?_
            refine e_laload0 (n := 1) dL_law_1649 (by decide) rfl (by decide : inb (0 : Int32) 1) ?_
            refine e_iload dL_law_1650 rfl ?_
            refine e_i2l dL_law_1652 ?_
            refine e_lcmp dL_law_1653 ?_
            refine e_if_eq (tgt := 1659) dL_law_1654 rfl (fun hc537 => ?_) (fun hc537 => ?_)
            · rw [if_pos hc537] at h
              refine e_goto (tgt := 1718) dL_law_1659 rfl ?_
              refine e_iincN 4 (5 : Int32) dL_law_1718 rfl ci_5 h (fun y9 => [some (.ref NP), some (.ref 0), some (.ref 29), some (.ref 48), some (.int y9), some (.int v522), some (.int v528)]) (fun _ => rfl) (fun v538 ev538 h => ?_)
              refine e_goto (tgt := 23) dL_law_1721 rfl ?_
              exact e_le (ih v538 μ530 _ (by omega) h) ⟨rfl, rfl, rfl, rfl, rfl, trivial⟩
            · rw [if_neg hc537] at h
              refine e_iconst dL_law_1657 ci_0 ?_
              exact e_iret .boolean dL_law_1658 rfl rfl (ret_eq h)
        · rw [if_neg hc534] at h
          refine e_iconst dL_law_1640 ci_0 ?_
          exact e_iret .boolean dL_law_1641 rfl rfl (ret_eq h)
      rw [if_neg hc516] at h
      by_cases hc539 : ((xs (Int32.toNatClampNeg x4)) &&& (31 : Int32)) = (28 : Int32)
      · rw [if_pos hc539] at h
        refine e_tsL (28 : Int32) (tgt := 1662) hc539 dL_law_39 (by decide) (by decide) rfl rfl ?_
        refine e_aload_n dL_law_1662 rfl ?_
        refine e_aload_n dL_law_1663 rfl ?_
        refine e_iload dL_law_1664 rfl ?_
        refine e_iconst dL_law_1666 ci_1 ?_
        refine e_iadd dL_law_1667 ?_
        obtain ⟨hc540, h⟩ := ck_eq h
        refine e_ialoadS dL_law_1668 rfl hc540 ?_
        refine e_aload_n dL_law_1669 rfl ?_
        refine cI_go h (fun E543 hc541 hr544 => e_SX [.ref 0, .int (xs (Int32.toNatClampNeg (x4 + (1 : Int32)))), .ref 48] [] dL_law_1670 rfl (by decide) rfl rfl (Nat.le_of_ble_eq_true rfl) (by omega) ⟨xs (Int32.toNatClampNeg (x4 + (1 : Int32))), rfl, hc541⟩ rfl ⟨hr544.symm, rfl⟩) (fun v545 μ542 hc541 h => ?_)
        refine e_SI [.ref 0, .int (xs (Int32.toNatClampNeg (x4 + (1 : Int32)))), .ref 48] [] dL_law_1670 rfl (by decide) rfl rfl (Nat.le_of_ble_eq_true rfl) (by omega) ⟨xs (Int32.toNatClampNeg (x4 + (1 : Int32))), rfl, hc541⟩ ?_
        refine e_istoreL [some (.ref NP), some (.ref 0), some (.ref 29), some (.ref 48), some (.int x4), some (.int v545), none] dL_law_1673 (Nat.le_of_ble_eq_true rfl) rfl ?_
        refine e_aload_n dL_law_1675 rfl ?_
        refine e_aload_n dL_law_1676 rfl ?_
        refine e_iload dL_law_1677 rfl ?_
        refine e_iconst dL_law_1679 ci_1 ?_
        refine e_iadd dL_law_1680 ?_
        obtain ⟨hc546, h⟩ := ck_eq h
        refine e_ialoadS dL_law_1681 rfl hc546 ?_
        refine cI_go h (fun E549 hc547 hr550 => e_VX [.int (xs (Int32.toNatClampNeg (x4 + (1 : Int32))))] [] dL_law_1682 rfl rfl rfl rfl (by decide) (Nat.le_of_ble_eq_true rfl) (by omega) ⟨xs (Int32.toNatClampNeg (x4 + (1 : Int32))), rfl, hc547⟩ rfl ⟨hr550.symm, rfl⟩) (fun v551 μ548 hc547 h => ?_)
        refine e_VI [.int (xs (Int32.toNatClampNeg (x4 + (1 : Int32))))] [] dL_law_1682 rfl rfl rfl rfl (by decide) (Nat.le_of_ble_eq_true rfl) (by omega) ⟨xs (Int32.toNatClampNeg (x4 + (1 : Int32))), rfl, hc547⟩ ?_
        refine e_istoreL [some (.ref NP), some (.ref 0), some (.ref 29), some (.ref 48), some (.int x4), some (.int v545), some (.int v551)] dL_law_1685 (Nat.le_of_ble_eq_true rfl) rfl ?_
        refine e_aload_n dL_law_1687 rfl ?_
        refine cI_go h (fun E554 hc552 hr555 => e_VX [] [] dL_law_1688 rfl rfl rfl rfl (by decide) (Nat.le_of_ble_eq_true rfl) (by omega) ⟨rfl, hc552⟩ rfl ⟨hr555.symm, rfl⟩) (fun v556 μ553 hc552 h => ?_)
        refine e_VI [] [] dL_law_1688 rfl rfl rfl rfl (by decide) (Nat.le_of_ble_eq_true rfl) (by omega) ⟨rfl, hc552⟩ ?_
        refine e_iload dL_law_1691 rfl ?_
        refine e_ic_eq (tgt := 1698) dL_law_1693 rfl (fun hc557 => ?_) (fun hc557 => ?_)
        · rw [if_pos hc557] at h
          refine e_iload dL_law_1698 rfl ?_
          refine e_if_ne (tgt := 1715) dL_law_1700 rfl (fun hc558 => ?_) (fun hc558 => ?_)
          · rw [if_neg hc558] at h
            refine e_goto (tgt := 1718) dL_law_1715 rfl ?_
            refine e_iincN 4 (5 : Int32) dL_law_1718 rfl ci_5 h (fun y9 => [some (.ref NP), some (.ref 0), some (.ref 29), some (.ref 48), some (.int y9), some (.int v545), some (.int v551)]) (fun _ => rfl) (fun v559 ev559 h => ?_)
            refine e_goto (tgt := 23) dL_law_1721 rfl ?_
            exact e_le (ih v559 μ553 _ (by omega) h) ⟨rfl, rfl, rfl, rfl, rfl, trivial⟩
          · rw [if_pos hc558] at h
            refine e_aload_n dL_law_1703 rfl ?_
            refine e_iconst dL_law_1704 ci_0 ?_
            refine e_laload0 (n := 1) dL_law_1705 (by decide) rfl (by decide : inb (0 : Int32) 1) ?_
            refine e_iload dL_law_1706 rfl ?_
            refine e_i2l dL_law_1708 ?_
            refine e_lcmp dL_law_1709 ?_
            refine e_if_eq (tgt := 1715) dL_law_1710 rfl (fun hc560 => ?_) (fun hc560 => ?_)
            · rw [if_pos hc560] at h
              refine e_goto (tgt := 1718) dL_law_1715 rfl ?_
              refine e_iincN 4 (5 : Int32) dL_law_1718 rfl ci_5 h (fun y9 => [some (.ref NP), some (.ref 0), some (.ref 29), some (.ref 48), some (.int y9), some (.int v545), some (.int v551)]) (fun _ => rfl) (fun v561 ev561 h => ?_)
              refine e_goto (tgt := 23) dL_law_1721 rfl ?_
              exact e_le (ih v561 μ553 _ (by omega) h) ⟨rfl, rfl, rfl, rfl, rfl, trivial⟩
            · rw [if_neg hc560] at h
              refine e_iconst dL_law_1713 ci_0 ?_
              exact e_iret .boolean dL_law_1714 rfl rfl (ret_eq h)
        · rw [if_neg hc557] at h
          refine e_iconst dL_law_1696 ci_0 ?_
          exact e_iret .boolean dL_law_1697 rfl rfl (ret_eq h)
      rw [if_neg hc539] at h
      refine e_tsOut (tgt := 1718) dL_law_39 (ts_out_0_28 hc3 hc26 hc39 hc52 hc73 hc96 hc121 hc148 hc173 hc196 hc219 hc244 hc249 hc254 hc279 hc292 hc321 hc344 hc365 hc378 hc399 hc412 hc415 hc428 hc449 hc462 hc489 hc516 hc539) rfl ?_
      refine e_iincN 4 (5 : Int32) dL_law_1718 rfl ci_5 h (fun y9 => [some (.ref NP), some (.ref 0), some (.ref 29), some (.ref 48), some (.int y9), none, none]) (fun _ => rfl) (fun v562 ev562 h => ?_)
      refine e_goto (tgt := 23) dL_law_1721 rfl ?_
      exact e_le (ih v562 μ _ (by omega) h) ⟨rfl, rfl, rfl, rfl, rfl, trivial⟩
set_option maxHeartbeats 4000000 in
theorem b_L_law (L : Nat) (xs : Nat → Int32) {r : Res} {μ' : Mem} (μ : Mem) (h : F_L_law L xs μ = some (r, μ')) : G (mL_law L xs) (Qe r μ') 20 [some (.ref NP), some (.ref 0), some (.ref 29), some (.ref 48), none, none, none] [] μ (3 * BIG) := by
  unfold F_L_law at h
  have hb9 : 3 * BIG ≤ 3 * BIG := Nat.le_refl _
  refine e_iconst dL_law_20 ci_0 ?_
  refine e_istoreL [some (.ref NP), some (.ref 0), some (.ref 29), some (.ref 48), some (.int (0 : Int32)), none, none] dL_law_21 (Nat.le_of_ble_eq_true rfl) rfl ?_
  exact e_le (g_L_law_23 L xs BIG (0 : Int32) μ _ (by omega) h) ⟨rfl, rfl, rfl, rfl, rfl, trivial⟩
set_option maxRecDepth 20000 in
theorem ok_L_law (l : Launch) (hl : l.stackTraces = false) (L : Nat) (xs : Nat → Int32) : MOK l yL_law.cls 12 480 (mL_law L xs) := ⟨lk_all (List.forall_mem_cons.mpr ⟨⟨yL_append, cL_append, 4, (some .int), 7, 111, by decide, by decide, t_1 0 rfl rfl, hd_L_append, Or.inr (Or.inr (Or.inr (Or.inl ⟨rfl, _, sc_L_append l hl, t_2 208 rfl rfl, t_2 206 rfl rfl, t_2 207 rfl rfl⟩)))⟩, List.forall_mem_cons.mpr ⟨⟨yX8_append, cX8_append, 2, (some .int), 2, 22, by decide, by decide, t_1 7 rfl rfl, hd_X8_append, Or.inr (Or.inl ⟨rfl, sc_X8_append l hl, t_5 15 rfl rfl, t_5 12 rfl rfl, t_5 13 rfl rfl, _, rfl, t_5 14 rfl rfl⟩)⟩, List.forall_mem_cons.mpr ⟨⟨yX8_thrown, cX8_thrown, 1, (some .int), 1, 0, by decide, by decide, t_1 7 rfl rfl, hd_X8_thrown, Or.inr (Or.inl ⟨rfl, sc_X8_thrown l hl, t_5 11 rfl rfl, t_5 8 rfl rfl, t_5 9 rfl rfl, _, rfl, t_5 10 rfl rfl⟩)⟩, List.forall_mem_cons.mpr ⟨⟨yX7_clearText, cX7_clearText, 1, (some .int), 2, 21, by decide, by decide, t_1 1 rfl rfl, hd_X7_clearText, Or.inr (Or.inl ⟨rfl, sc_X7_clearText l hl, t_1 151 rfl rfl, t_1 148 rfl rfl, t_1 149 rfl rfl, _, rfl, t_1 150 rfl rfl⟩)⟩, List.forall_mem_cons.mpr ⟨⟨yX8_clearText, cX8_clearText, 2, (some .int), 1, 0, by decide, by decide, t_1 7 rfl rfl, hd_X8_clearText, Or.inr (Or.inl ⟨rfl, sc_X8_clearText l hl, t_5 22 rfl rfl, t_5 19 rfl rfl, t_5 20 rfl rfl, _, rfl, t_5 21 rfl rfl⟩)⟩, List.forall_mem_cons.mpr ⟨⟨yX7_errorPosition, cX7_errorPosition, 1, (some .int), 7, 124, by decide, by decide, t_1 1 rfl rfl, hd_X7_errorPosition, Or.inr (Or.inl ⟨rfl, sc_X7_errorPosition l hl, t_1 159 rfl rfl, t_1 156 rfl rfl, t_1 157 rfl rfl, _, rfl, t_1 158 rfl rfl⟩)⟩, List.forall_mem_cons.mpr ⟨⟨yX8_errorPosition, cX8_errorPosition, 1, (some .int), 3, 46, by decide, by decide, t_1 7 rfl rfl, hd_X8_errorPosition, Or.inr (Or.inl ⟨rfl, sc_X8_errorPosition l hl, t_5 26 rfl rfl, t_5 23 rfl rfl, t_5 24 rfl rfl, _, rfl, t_5 25 rfl rfl⟩)⟩, List.forall_mem_cons.mpr ⟨⟨yL_load, cL_load, 3, (some .int), 8, 144, by decide, by decide, t_1 0 rfl rfl, hd_L_load, Or.inr (Or.inr (Or.inr (Or.inl ⟨rfl, _, sc_L_load l hl, t_3 69 rfl rfl, t_3 67 rfl rfl, t_3 68 rfl rfl⟩)))⟩, List.forall_mem_cons.mpr ⟨⟨yX8_load, cX8_load, 4, (some .int), 5, 87, by decide, by decide, t_1 7 rfl rfl, hd_X8_load, Or.inr (Or.inl ⟨rfl, sc_X8_load l hl, t_5 41 rfl rfl, t_5 38 rfl rfl, t_5 39 rfl rfl, _, rfl, t_5 40 rfl rfl⟩)⟩, List.forall_mem_cons.mpr ⟨⟨yL_about, cL_about, 4, (some .int), 7, 111, by decide, by decide, t_1 0 rfl rfl, hd_L_about, Or.inr (Or.inr (Or.inr (Or.inl ⟨rfl, _, sc_L_about l hl, t_3 101 rfl rfl, t_3 99 rfl rfl, t_3 100 rfl rfl⟩)))⟩, List.forall_mem_cons.mpr ⟨⟨yX8_about, cX8_about, 2, (some .int), 6, 118, by decide, by decide, t_1 7 rfl rfl, hd_X8_about, Or.inr (Or.inl ⟨rfl, sc_X8_about l hl, t_5 81 rfl rfl, t_5 78 rfl rfl, t_5 79 rfl rfl, _, rfl, t_5 80 rfl rfl⟩)⟩, List.forall_mem_cons.mpr ⟨⟨yL_line, cL_line, 5, (some .int), 8, 135, by decide, by decide, t_1 0 rfl rfl, hd_L_line, Or.inr (Or.inr (Or.inr (Or.inl ⟨rfl, _, sc_L_line l hl, t_3 125 rfl rfl, t_3 123 rfl rfl, t_3 124 rfl rfl⟩)))⟩, List.forall_mem_cons.mpr ⟨⟨yX8_line, cX8_line, 3, (some .int), 4, 68, by decide, by decide, t_1 7 rfl rfl, hd_X8_line, Or.inr (Or.inl ⟨rfl, sc_X8_line l hl, t_5 145 rfl rfl, t_5 142 rfl rfl, t_5 143 rfl rfl, _, rfl, t_5 144 rfl rfl⟩)⟩, List.forall_mem_cons.mpr ⟨⟨yL_cell, cL_cell, 6, (some .int), 8, 145, by decide, by decide, t_1 0 rfl rfl, hd_L_cell, Or.inr (Or.inr (Or.inr (Or.inl ⟨rfl, _, sc_L_cell l hl, t_3 171 rfl rfl, t_3 169 rfl rfl, t_3 170 rfl rfl⟩)))⟩, List.forall_mem_cons.mpr ⟨⟨yX8_cell, cX8_cell, 5, (some .int), 6, 118, by decide, by decide, t_1 7 rfl rfl, hd_X8_cell, Or.inr (Or.inl ⟨rfl, sc_X8_cell l hl, t_5 161 rfl rfl, t_5 158 rfl rfl, t_5 159 rfl rfl, _, rfl, t_5 160 rfl rfl⟩)⟩, List.forall_mem_cons.mpr ⟨⟨yL_piece, cL_piece, 5, (some .int), 7, 114, by decide, by decide, t_1 0 rfl rfl, hd_L_piece, Or.inr (Or.inr (Or.inr (Or.inl ⟨rfl, _, sc_L_piece l hl, t_3 192 rfl rfl, t_3 190 rfl rfl, t_3 191 rfl rfl⟩)))⟩, List.forall_mem_cons.mpr ⟨⟨yX8_piece, cX8_piece, 9, (some .int), 6, 118, by decide, by decide, t_1 7 rfl rfl, hd_X8_piece, Or.inr (Or.inl ⟨rfl, sc_X8_piece l hl, t_5 185 rfl rfl, t_5 182 rfl rfl, t_5 183 rfl rfl, _, rfl, t_5 184 rfl rfl⟩)⟩, List.forall_mem_cons.mpr ⟨⟨yL_exchangeAt, cL_exchangeAt, 4, (some .int), 7, 144, by decide, by decide, t_1 0 rfl rfl, hd_L_exchangeAt, Or.inr (Or.inr (Or.inr (Or.inl ⟨rfl, _, sc_L_exchangeAt l hl, t_3 215 rfl rfl, t_3 213 rfl rfl, t_3 214 rfl rfl⟩)))⟩, List.forall_mem_cons.mpr ⟨⟨yX8_exchangeAt, cX8_exchangeAt, 2, (some .int), 4, 75, by decide, by decide, t_1 7 rfl rfl, hd_X8_exchangeAt, Or.inr (Or.inl ⟨rfl, sc_X8_exchangeAt l hl, t_5 192 rfl rfl, t_5 189 rfl rfl, t_5 190 rfl rfl, _, rfl, t_5 191 rfl rfl⟩)⟩, List.forall_mem_cons.mpr ⟨⟨yL_whyNot, cL_whyNot, 4, (some .int), 8, 135, by decide, by decide, t_1 0 rfl rfl, hd_L_whyNot, Or.inr (Or.inr (Or.inr (Or.inl ⟨rfl, _, sc_L_whyNot l hl, t_3 223 rfl rfl, t_3 221 rfl rfl, t_3 222 rfl rfl⟩)))⟩, List.forall_mem_cons.mpr ⟨⟨yX8_whyNot, cX8_whyNot, 3, (some .int), 4, 68, by decide, by decide, t_1 7 rfl rfl, hd_X8_whyNot, Or.inr (Or.inl ⟨rfl, sc_X8_whyNot l hl, t_5 196 rfl rfl, t_5 193 rfl rfl, t_5 194 rfl rfl, _, rfl, t_5 195 rfl rfl⟩)⟩, List.forall_mem_cons.mpr ⟨⟨yL_resize, cL_resize, 5, (some .int), 7, 112, by decide, by decide, t_1 0 rfl rfl, hd_L_resize, Or.inr (Or.inr (Or.inr (Or.inl ⟨rfl, _, sc_L_resize l hl, t_3 230 rfl rfl, t_3 228 rfl rfl, t_3 229 rfl rfl⟩)))⟩, List.forall_mem_cons.mpr ⟨⟨yX8_resize, cX8_resize, 4, (some .int), 5, 87, by decide, by decide, t_1 7 rfl rfl, hd_X8_resize, Or.inr (Or.inl ⟨rfl, sc_X8_resize l hl, t_5 200 rfl rfl, t_5 197 rfl rfl, t_5 198 rfl rfl, _, rfl, t_5 199 rfl rfl⟩)⟩, List.forall_mem_cons.mpr ⟨⟨yL_fill, cL_fill, 6, (some .int), 8, 135, by decide, by decide, t_1 0 rfl rfl, hd_L_fill, Or.inr (Or.inr (Or.inr (Or.inl ⟨rfl, _, sc_L_fill l hl, t_4 2 rfl rfl, t_4 0 rfl rfl, t_4 1 rfl rfl⟩)))⟩, List.forall_mem_cons.mpr ⟨⟨yX8_fill, cX8_fill, 5, (some .boolean), 3, 45, by decide, by decide, t_1 7 rfl rfl, hd_X8_fill, Or.inr (Or.inl ⟨rfl, sc_X8_fill l hl, t_5 211 rfl rfl, t_5 208 rfl rfl, t_5 209 rfl rfl, _, rfl, t_5 210 rfl rfl⟩)⟩, List.forall_mem_cons.mpr ⟨⟨yL_pin, cL_pin, 6, (some .int), 8, 135, by decide, by decide, t_1 0 rfl rfl, hd_L_pin, Or.inr (Or.inr (Or.inr (Or.inl ⟨rfl, _, sc_L_pin l hl, t_4 15 rfl rfl, t_4 13 rfl rfl, t_4 14 rfl rfl⟩)))⟩, List.forall_mem_cons.mpr ⟨⟨yX8_pin, cX8_pin, 5, (some .boolean), 3, 45, by decide, by decide, t_1 7 rfl rfl, hd_X8_pin, Or.inr (Or.inl ⟨rfl, sc_X8_pin l hl, t_5 219 rfl rfl, t_5 216 rfl rfl, t_5 217 rfl rfl, _, rfl, t_5 218 rfl rfl⟩)⟩, List.forall_mem_cons.mpr ⟨⟨yL_want, cL_want, 5, (some .int), 8, 133, by decide, by decide, t_1 0 rfl rfl, hd_L_want, Or.inr (Or.inr (Or.inr (Or.inl ⟨rfl, _, sc_L_want l hl, t_4 23 rfl rfl, t_4 21 rfl rfl, t_4 22 rfl rfl⟩)))⟩, List.forall_mem_cons.mpr ⟨⟨yX8_want, cX8_want, 4, (some .int), 3, 45, by decide, by decide, t_1 7 rfl rfl, hd_X8_want, Or.inr (Or.inl ⟨rfl, sc_X8_want l hl, t_5 227 rfl rfl, t_5 224 rfl rfl, t_5 225 rfl rfl, _, rfl, t_5 226 rfl rfl⟩)⟩, List.forall_mem_cons.mpr ⟨⟨yX7_wantAll, cX7_wantAll, 1, (some .int), 5, 89, by decide, by decide, t_1 1 rfl rfl, hd_X7_wantAll, Or.inr (Or.inl ⟨rfl, sc_X7_wantAll l hl, t_1 198 rfl rfl, t_1 195 rfl rfl, t_1 196 rfl rfl, _, rfl, t_1 197 rfl rfl⟩)⟩, List.forall_mem_cons.mpr ⟨⟨yX8_wantAll, cX8_wantAll, 3, (some .int), 5, 87, by decide, by decide, t_1 7 rfl rfl, hd_X8_wantAll, Or.inr (Or.inl ⟨rfl, sc_X8_wantAll l hl, t_5 231 rfl rfl, t_5 228 rfl rfl, t_5 229 rfl rfl, _, rfl, t_5 230 rfl rfl⟩)⟩, List.forall_mem_cons.mpr ⟨⟨yL_exchange, cL_exchange, 7, (some .int), 8, 136, by decide, by decide, t_1 0 rfl rfl, hd_L_exchange, Or.inr (Or.inr (Or.inr (Or.inl ⟨rfl, _, sc_L_exchange l hl, t_4 32 rfl rfl, t_4 30 rfl rfl, t_4 31 rfl rfl⟩)))⟩, List.forall_mem_cons.mpr ⟨⟨yX8_exchange, cX8_exchange, 6, (some .int), 6, 118, by decide, by decide, t_1 7 rfl rfl, hd_X8_exchange, Or.inr (Or.inl ⟨rfl, sc_X8_exchange l hl, t_5 235 rfl rfl, t_5 232 rfl rfl, t_5 233 rfl rfl, _, rfl, t_5 234 rfl rfl⟩)⟩, List.forall_mem_cons.mpr ⟨⟨yL_solve, cL_solve, 4, (some .int), 7, 162, by decide, by decide, t_1 0 rfl rfl, hd_L_solve, Or.inr (Or.inr (Or.inr (Or.inl ⟨rfl, _, sc_L_solve l hl, t_4 43 rfl rfl, t_4 41 rfl rfl, t_4 42 rfl rfl⟩)))⟩, List.forall_mem_cons.mpr ⟨⟨yX8_solve, cX8_solve, 2, (some .int), 7, 138, by decide, by decide, t_1 7 rfl rfl, hd_X8_solve, Or.inr (Or.inl ⟨rfl, sc_X8_solve l hl, t_6 3 rfl rfl, t_6 0 rfl rfl, t_6 1 rfl rfl, _, rfl, t_6 2 rfl rfl⟩)⟩, List.forall_mem_cons.mpr ⟨⟨yL_next, cL_next, 3, (some .int), 7, 165, by decide, by decide, t_1 0 rfl rfl, hd_L_next, Or.inr (Or.inr (Or.inr (Or.inl ⟨rfl, _, sc_L_next l hl, t_4 56 rfl rfl, t_4 54 rfl rfl, t_4 55 rfl rfl⟩)))⟩, List.forall_mem_cons.mpr ⟨⟨yX8_next, cX8_next, 1, (some .int), 8, 161, by decide, by decide, t_1 7 rfl rfl, hd_X8_next, Or.inr (Or.inl ⟨rfl, sc_X8_next l hl, t_6 27 rfl rfl, t_6 24 rfl rfl, t_6 25 rfl rfl, _, rfl, t_6 26 rfl rfl⟩)⟩, List.forall_mem_cons.mpr ⟨⟨yX7_turn, cX7_turn, 1, (some .int), 4, 80, by decide, by decide, t_1 1 rfl rfl, hd_X7_turn, Or.inr (Or.inl ⟨rfl, sc_X7_turn l hl, t_2 24 rfl rfl, t_2 21 rfl rfl, t_2 22 rfl rfl, _, rfl, t_2 23 rfl rfl⟩)⟩, List.forall_mem_cons.mpr ⟨⟨yX8_turn, cX8_turn, 1, (some .int), 3, 48, by decide, by decide, t_1 7 rfl rfl, hd_X8_turn, Or.inr (Or.inl ⟨rfl, sc_X8_turn l hl, t_6 43 rfl rfl, t_6 40 rfl rfl, t_6 41 rfl rfl, _, rfl, t_6 42 rfl rfl⟩)⟩, List.forall_mem_cons.mpr ⟨⟨yL_undo, cL_undo, 3, (some .int), 7, 110, by decide, by decide, t_1 0 rfl rfl, hd_L_undo, Or.inr (Or.inr (Or.inr (Or.inl ⟨rfl, _, sc_L_undo l hl, t_4 68 rfl rfl, t_4 66 rfl rfl, t_4 67 rfl rfl⟩)))⟩, List.forall_mem_cons.mpr ⟨⟨yX8_undo, cX8_undo, 1, (some .int), 2, 24, by decide, by decide, t_1 7 rfl rfl, hd_X8_undo, Or.inr (Or.inl ⟨rfl, sc_X8_undo l hl, t_6 51 rfl rfl, t_6 48 rfl rfl, t_6 49 rfl rfl, _, rfl, t_6 50 rfl rfl⟩)⟩, List.forall_mem_cons.mpr ⟨⟨yX7_howMany, cX7_howMany, 1, (some .int), 7, 167, by decide, by decide, t_1 1 rfl rfl, hd_X7_howMany, Or.inr (Or.inl ⟨rfl, sc_X7_howMany l hl, t_2 44 rfl rfl, t_2 41 rfl rfl, t_2 42 rfl rfl, _, rfl, t_2 43 rfl rfl⟩)⟩, List.forall_mem_cons.mpr ⟨⟨yX8_howMany, cX8_howMany, 1, (some .int), 8, 165, by decide, by decide, t_1 7 rfl rfl, hd_X8_howMany, Or.inr (Or.inl ⟨rfl, sc_X8_howMany l hl, t_6 55 rfl rfl, t_6 52 rfl rfl, t_6 53 rfl rfl, _, rfl, t_6 54 rfl rfl⟩)⟩, List.forall_mem_cons.mpr ⟨⟨yX7_sure, cX7_sure, 4, (some .int), 6, 120, by decide, by decide, t_1 1 rfl rfl, hd_X7_sure, Or.inr (Or.inl ⟨rfl, sc_X7_sure l hl, t_2 128 rfl rfl, t_2 125 rfl rfl, t_2 126 rfl rfl, _, rfl, t_2 127 rfl rfl⟩)⟩, List.forall_mem_cons.mpr ⟨⟨yX8_sure, cX8_sure, 5, (some .int), 6, 115, by decide, by decide, t_1 7 rfl rfl, hd_X8_sure, Or.inr (Or.inl ⟨rfl, sc_X8_sure l hl, t_6 63 rfl rfl, t_6 60 rfl rfl, t_6 61 rfl rfl, _, rfl, t_6 62 rfl rfl⟩)⟩, List.forall_mem_cons.mpr ⟨⟨yX7_split, cX7_split, 2, (some .int), 7, 168, by decide, by decide, t_1 1 rfl rfl, hd_X7_split, Or.inr (Or.inl ⟨rfl, sc_X7_split l hl, t_2 142 rfl rfl, t_2 139 rfl rfl, t_2 140 rfl rfl, _, rfl, t_2 141 rfl rfl⟩)⟩, List.forall_mem_cons.mpr ⟨⟨yX8_split, cX8_split, 7, (some .int), 8, 165, by decide, by decide, t_1 7 rfl rfl, hd_X8_split, Or.inr (Or.inl ⟨rfl, sc_X8_split l hl, t_6 67 rfl rfl, t_6 64 rfl rfl, t_6 65 rfl rfl, _, rfl, t_6 66 rfl rfl⟩)⟩, List.forall_mem_cons.mpr ⟨⟨yL_nearest, cL_nearest, 3, (some .int), 8, 189, by decide, by decide, t_1 0 rfl rfl, hd_L_nearest, Or.inr (Or.inr (Or.inr (Or.inl ⟨rfl, _, sc_L_nearest l hl, t_4 84 rfl rfl, t_4 82 rfl rfl, t_4 83 rfl rfl⟩)))⟩, List.forall_mem_cons.mpr ⟨⟨yX8_nearest, cX8_nearest, 2, (some .int), 8, 165, by decide, by decide, t_1 7 rfl rfl, hd_X8_nearest, Or.inr (Or.inl ⟨rfl, sc_X8_nearest l hl, t_6 71 rfl rfl, t_6 68 rfl rfl, t_6 69 rfl rfl, _, rfl, t_6 70 rfl rfl⟩)⟩, List.forall_mem_cons.mpr ⟨⟨yX7_bestExchange, cX7_bestExchange, 10, (some .int), 6, 123, by decide, by decide, t_1 1 rfl rfl, hd_X7_bestExchange, Or.inr (Or.inl ⟨rfl, sc_X7_bestExchange l hl, t_2 162 rfl rfl, t_2 159 rfl rfl, t_2 160 rfl rfl, _, rfl, t_2 161 rfl rfl⟩)⟩, List.forall_mem_cons.mpr ⟨⟨yX8_bestExchange, cX8_bestExchange, 9, (some .int), 6, 118, by decide, by decide, t_1 7 rfl rfl, hd_X8_bestExchange, Or.inr (Or.inl ⟨rfl, sc_X8_bestExchange l hl, t_6 75 rfl rfl, t_6 72 rfl rfl, t_6 73 rfl rfl, _, rfl, t_6 74 rfl rfl⟩)⟩, List.forall_mem_cons.mpr ⟨⟨yL_runScript, cL_runScript, 6, (some .int), 8, 197, by decide, by decide, t_1 0 rfl rfl, hd_L_runScript, Or.inr (Or.inr (Or.inr (Or.inl ⟨rfl, _, sc_L_runScript l hl, t_4 96 rfl rfl, t_4 94 rfl rfl, t_4 95 rfl rfl⟩)))⟩, List.forall_mem_cons.mpr ⟨⟨yX8_runScript, cX8_runScript, 7, (some .int), 10, 214, by decide, by decide, t_1 7 rfl rfl, hd_X8_runScript, Or.inr (Or.inl ⟨rfl, sc_X8_runScript l hl, t_6 83 rfl rfl, t_6 80 rfl rfl, t_6 81 rfl rfl, _, rfl, t_6 82 rfl rfl⟩)⟩, List.forall_mem_cons.mpr ⟨⟨yL_simulate, cL_simulate, 6, (some .int), 7, 151, by decide, by decide, t_1 0 rfl rfl, hd_L_simulate, Or.inr (Or.inr (Or.inr (Or.inl ⟨rfl, _, sc_L_simulate l hl, t_4 131 rfl rfl, t_4 129 rfl rfl, t_4 130 rfl rfl⟩)))⟩, List.forall_mem_cons.mpr ⟨⟨yX8_simulate, cX8_simulate, 8, (some .int), 6, 118, by decide, by decide, t_1 7 rfl rfl, hd_X8_simulate, Or.inr (Or.inl ⟨rfl, sc_X8_simulate l hl, t_6 100 rfl rfl, t_6 97 rfl rfl, t_6 98 rfl rfl, _, rfl, t_6 99 rfl rfl⟩)⟩, List.forall_mem_cons.mpr ⟨⟨yL_save, cL_save, 4, (some .int), 8, 132, by decide, by decide, t_1 0 rfl rfl, hd_L_save, Or.inr (Or.inr (Or.inr (Or.inl ⟨rfl, _, sc_L_save l hl, t_4 141 rfl rfl, t_4 139 rfl rfl, t_4 140 rfl rfl⟩)))⟩, List.forall_mem_cons.mpr ⟨⟨yX8_save, cX8_save, 2, (some .int), 5, 87, by decide, by decide, t_1 7 rfl rfl, hd_X8_save, Or.inr (Or.inl ⟨rfl, sc_X8_save l hl, t_6 106 rfl rfl, t_6 103 rfl rfl, t_6 104 rfl rfl, _, rfl, t_6 105 rfl rfl⟩)⟩, List.forall_mem_cons.mpr ⟨⟨yL_restore, cL_restore, 4, (some .int), 8, 132, by decide, by decide, t_1 0 rfl rfl, hd_L_restore, Or.inr (Or.inr (Or.inr (Or.inl ⟨rfl, _, sc_L_restore l hl, t_4 158 rfl rfl, t_4 156 rfl rfl, t_4 157 rfl rfl⟩)))⟩, List.forall_mem_cons.mpr ⟨⟨yX8_restore, cX8_restore, 2, (some .int), 5, 87, by decide, by decide, t_1 7 rfl rfl, hd_X8_restore, Or.inr (Or.inl ⟨rfl, sc_X8_restore l hl, t_6 110 rfl rfl, t_6 107 rfl rfl, t_6 108 rfl rfl, _, rfl, t_6 109 rfl rfl⟩)⟩, nil_all⟩⟩⟩⟩⟩⟩⟩⟩⟩⟩⟩⟩⟩⟩⟩⟩⟩⟩⟩⟩⟩⟩⟩⟩⟩⟩⟩⟩⟩⟩⟩⟩⟩⟩⟩⟩⟩⟩⟩⟩⟩⟩⟩⟩⟩⟩⟩⟩⟩⟩⟩⟩⟩⟩⟩⟩⟩⟩⟩), fun ix ci j h => lk_all (P := fun ix q => FldOK yL_law.cls ix q.1 q.2) (nil_all) ix (ci, j) h, lk_all (nil_all), lk_all (List.forall_mem_cons.mpr ⟨t_6 111 rfl rfl, nil_all⟩), lk_all (nil_all)⟩
