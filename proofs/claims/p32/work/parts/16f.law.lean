def F_L_sound (a1 : Int32) (μ : Mem) : Out := cI (F_L_lines μ) (fun v5 μ2 => if v5 = 0 then (rI (0 : Int32) μ2) else (cI (F_L_pieces μ2) (fun v11 μ8 => if v11 = 0 then (rI (0 : Int32) μ8) else (cI (F_L_hull μ8) (fun v17 μ14 => if v17 = 0 then (rI (0 : Int32) μ14) else (cI (F_L_exchanges a1 μ14) (fun v23 μ20 => if v23 = 0 then (rI (0 : Int32) μ20) else (cI (F_L_fits μ20) (fun v29 μ26 => if v29 = 0 then (rI (0 : Int32) μ26) else (rI (1 : Int32) μ26))))))))))
def Γ_L_sound : Gam := fun as μ r μ' => ∃ (a1 : Int32), as = [.ref 0, .int a1] ∧ F_L_sound a1 μ = some (r, μ')
def mL_sound : MI := (cL_sound, [(73, (0, 1, 1, 0, Γ_L_lines)), (104, (0, 1, 1, 0, Γ_L_pieces)), (107, (0, 1, 1, 0, Γ_L_hull)), (110, (0, 2, 1, 0, Γ_L_exchanges)), (114, (6, 1, 1 * BIG + 19, 0, Γ_L_fits))], [], [], [], [], [], (129, none), (some .boolean))
set_option maxHeartbeats 4000000 in
theorem b_L_sound : ∀ as μ r μ', Γ_L_sound as μ r μ' → (elvL as).length ≤ 2 ∧ G mL_sound (Qe r μ') 0 (elv as 2) [] μ (1 * BIG + 31) := by
  intro as μ r μ' h
  obtain ⟨a1, rfl, h⟩ := h
  refine ⟨Nat.le_of_ble_eq_true rfl, ?_⟩
  show G mL_sound (Qe r μ') 0 [some (.ref 0), some (.int a1)] [] μ (1 * BIG + 31)
  unfold F_L_sound at h
  have hb9 : 1 * BIG + 31 ≤ 1 * BIG + 31 := Nat.le_refl _
  refine e_aload_n dL_sound_0 rfl ?_
  refine cI_go h (fun E3 hc1 hr4 => e_SX [.ref 0] [] dL_sound_1 rfl (by decide) rfl rfl (Nat.le_of_ble_eq_true rfl) (by omega) ⟨rfl, hc1⟩ rfl ⟨hr4.symm, rfl⟩) (fun v5 μ2 hc1 h => ?_)
  refine e_SI [.ref 0] [] dL_sound_1 rfl (by decide) rfl rfl (Nat.le_of_ble_eq_true rfl) ⟨rfl, hc1⟩ ?_
  refine e_if_eq (tgt := 40) dL_sound_4 rfl (fun hc6 => ?_) (fun hc6 => ?_)
  · rw [if_pos hc6] at h
    refine e_iconst dL_sound_40 ci_0 ?_
    exact e_iret .boolean dL_sound_41 rfl rfl (ret_eq h)
  · rw [if_neg hc6] at h
    refine e_aload_n dL_sound_7 rfl ?_
    refine cI_go h (fun E9 hc7 hr10 => e_SX [.ref 0] [] dL_sound_8 rfl (by decide) rfl rfl (Nat.le_of_ble_eq_true rfl) (by omega) ⟨rfl, hc7⟩ rfl ⟨hr10.symm, rfl⟩) (fun v11 μ8 hc7 h => ?_)
    refine e_SI [.ref 0] [] dL_sound_8 rfl (by decide) rfl rfl (Nat.le_of_ble_eq_true rfl) ⟨rfl, hc7⟩ ?_
    refine e_if_eq (tgt := 40) dL_sound_11 rfl (fun hc12 => ?_) (fun hc12 => ?_)
    · rw [if_pos hc12] at h
      refine e_iconst dL_sound_40 ci_0 ?_
      exact e_iret .boolean dL_sound_41 rfl rfl (ret_eq h)
    · rw [if_neg hc12] at h
      refine e_aload_n dL_sound_14 rfl ?_
      refine cI_go h (fun E15 hc13 hr16 => e_SX [.ref 0] [] dL_sound_15 rfl (by decide) rfl rfl (Nat.le_of_ble_eq_true rfl) (by omega) ⟨rfl, hc13⟩ rfl ⟨hr16.symm, rfl⟩) (fun v17 μ14 hc13 h => ?_)
      refine e_SI [.ref 0] [] dL_sound_15 rfl (by decide) rfl rfl (Nat.le_of_ble_eq_true rfl) ⟨rfl, hc13⟩ ?_
      refine e_if_eq (tgt := 40) dL_sound_18 rfl (fun hc18 => ?_) (fun hc18 => ?_)
      · rw [if_pos hc18] at h
        refine e_iconst dL_sound_40 ci_0 ?_
        exact e_iret .boolean dL_sound_41 rfl rfl (ret_eq h)
      · rw [if_neg hc18] at h
        refine e_aload_n dL_sound_21 rfl ?_
        refine e_iload_n dL_sound_22 rfl ?_
        refine cI_go h (fun E21 hc19 hr22 => e_SX [.ref 0, .int a1] [] dL_sound_23 rfl (by decide) rfl rfl (Nat.le_of_ble_eq_true rfl) (by omega) ⟨a1, rfl, hc19⟩ rfl ⟨hr22.symm, rfl⟩) (fun v23 μ20 hc19 h => ?_)
        refine e_SI [.ref 0, .int a1] [] dL_sound_23 rfl (by decide) rfl rfl (Nat.le_of_ble_eq_true rfl) ⟨a1, rfl, hc19⟩ ?_
        refine e_if_eq (tgt := 40) dL_sound_26 rfl (fun hc24 => ?_) (fun hc24 => ?_)
        · rw [if_pos hc24] at h
          refine e_iconst dL_sound_40 ci_0 ?_
          exact e_iret .boolean dL_sound_41 rfl rfl (ret_eq h)
        · rw [if_neg hc24] at h
          refine e_aload_n dL_sound_29 rfl ?_
          refine cI_go h (fun E27 hc25 hr28 => e_SX [.ref 0] [] dL_sound_30 rfl (by decide) rfl rfl (Nat.le_of_ble_eq_true rfl) (by omega) ⟨rfl, hc25⟩ rfl ⟨hr28.symm, rfl⟩) (fun v29 μ26 hc25 h => ?_)
          refine e_CI [.ref 0] [] dL_sound_30 rfl (by decide) rfl rfl (Nat.le_of_ble_eq_true rfl) (by omega) ⟨rfl, hc25⟩ ?_
          refine e_if_eq (tgt := 40) dL_sound_33 rfl (fun hc30 => ?_) (fun hc30 => ?_)
          · rw [if_pos hc30] at h
            refine e_iconst dL_sound_40 ci_0 ?_
            exact e_iret .boolean dL_sound_41 rfl rfl (ret_eq h)
          · rw [if_neg hc30] at h
            refine e_iconst dL_sound_36 ci_1 ?_
            refine e_goto (tgt := 41) dL_sound_37 rfl ?_
            exact e_iret .boolean dL_sound_41 rfl rfl (ret_eq h)
set_option maxRecDepth 20000 in
theorem ok_L_sound (l : Launch) (hl : l.stackTraces = false) : MOK l yL_sound.cls 11 252 mL_sound := ⟨lk_all (List.forall_mem_cons.mpr ⟨⟨yL_lines, cL_lines, 22, (some .boolean), 9, 170, by decide, by decide, t_1 0 rfl rfl, hd_L_lines, Or.inl ⟨rfl, sc_L_lines l hl, t_3 135 rfl rfl, t_3 133 rfl rfl, t_3 134 rfl rfl⟩⟩, List.forall_mem_cons.mpr ⟨⟨yL_pieces, cL_pieces, 14, (some .boolean), 9, 170, by decide, by decide, t_1 0 rfl rfl, hd_L_pieces, Or.inl ⟨rfl, sc_L_pieces l hl, t_3 151 rfl rfl, t_3 149 rfl rfl, t_3 150 rfl rfl⟩⟩, List.forall_mem_cons.mpr ⟨⟨yL_hull, cL_hull, 9, (some .boolean), 9, 170, by decide, by decide, t_1 0 rfl rfl, hd_L_hull, Or.inl ⟨rfl, sc_L_hull l hl, t_3 179 rfl rfl, t_3 177 rfl rfl, t_3 178 rfl rfl⟩⟩, List.forall_mem_cons.mpr ⟨⟨yL_exchanges, cL_exchanges, 15, (some .boolean), 10, 211, by decide, by decide, t_1 0 rfl rfl, hd_L_exchanges, Or.inl ⟨rfl, sc_L_exchanges l hl, t_3 183 rfl rfl, t_3 181 rfl rfl, t_3 182 rfl rfl⟩⟩, List.forall_mem_cons.mpr ⟨⟨yL_fits, cL_fits, 23, (some .boolean), 9, 210, by decide, by decide, t_1 0 rfl rfl, hd_L_fits, Or.inr (Or.inr (Or.inr (Or.inr (Or.inr (Or.inr ⟨rfl, by decide, sc_L_fits l hl, t_3 199 rfl rfl, t_3 197 rfl rfl, t_3 198 rfl rfl⟩)))))⟩, nil_all⟩⟩⟩⟩⟩), fun ix ci j h => lk_all (P := fun ix q => FldOK yL_sound.cls ix q.1 q.2) (nil_all) ix (ci, j) h, lk_all (nil_all), lk_all (nil_all), lk_all (nil_all)⟩
theorem hd_L_sound : CallHd yL_sound 2 := ⟨by decide +kernel, by decide +kernel, by decide +kernel⟩
theorem sc_L_sound (l : Launch) (hl : l.stackTraces = false) : SConF l yL_sound cL_sound 2 (some .boolean) 11 252 (1 * BIG + 31) Γ_L_sound := scon_ofF mL_sound cls_ok hl (by decide +kernel) rfl rfl (ok_L_sound l hl) rfl rfl b_L_sound
