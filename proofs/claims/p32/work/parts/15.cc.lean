def F_X7_about (a0 : Int32) (μ : Mem) : Out := if a0 = (0 : Int32) then (rI (μ.1 2 0) μ) else if a0 = (1 : Int32) then (rI (μ.1 2 1) μ) else if a0 = (2 : Int32) then (cI (F_X4_countFilled 2 μ) (fun v8 μ5 => rI v8 μ5)) else if a0 = (3 : Int32) then (cI (F_J13_bitCount_95d88 (μ.2.1 2 3) μ) (fun v14 μ11 => rI v14 μ11)) else if a0 = (4 : Int32) then (cI (F_X4_wantedOfRows 2 μ) (fun v20 μ17 => rI v20 μ17)) else if a0 = (5 : Int32) then (cI (F_X4_wantedOfColumns 2 μ) (fun v26 μ23 => rI v26 μ23)) else if a0 = (6 : Int32) then (cI (F_X4_countWrongLines 2 μ) (fun v32 μ29 => rI v32 μ29)) else if a0 = (7 : Int32) then (cI (F_X0_countPieces (μ.2.1 2 2) μ) (fun v38 μ35 => rI v38 μ35)) else if a0 = (8 : Int32) then (cI (F_X0_outline (μ.2.1 2 2) (μ.2.1 2 2) μ) (fun v44 μ41 => rI v44 μ41)) else if a0 = (9 : Int32) then (cJ (F_X0_hull (μ.2.1 2 2) μ) (fun v50 μ47 => cI (F_J13_bitCount_95d88 v50 μ47) (fun v55 μ52 => rI v55 μ52))) else if a0 = (10 : Int32) then (cI (F_X4_countExchanges 2 μ) (fun v61 μ58 => rI v61 μ58)) else (rX "java/lang/IllegalArgumentException" μ)
def Γ_X7_about : Gam := fun as μ r μ' => ∃ (a0 : Int32), as = [.ref 0, .int a0] ∧ F_X7_about a0 μ = some (r, μ')
def mX7_about : MI := (cX7_about, [(90, (1, 0, 0, 2, Γ_X4_countFilled)), (104, (0, 1, 0, 0, Γ_J13_bitCount_95d88)), (110, (1, 0, 0, 2, Γ_X4_wantedOfRows)), (113, (1, 0, 0, 2, Γ_X4_wantedOfColumns)), (116, (1, 0, 0, 2, Γ_X4_countWrongLines)), (122, (0, 1, 0, 0, Γ_X0_countPieces)), (125, (0, 2, 0, 0, Γ_X0_outline)), (129, (0, 1, 0, 0, Γ_X0_hull)), (133, (1, 0, 0, 2, Γ_X4_countExchanges))], [(19, 5, 1), (93, 2, 0), (97, 2, 1), (100, 2, 3), (119, 2, 2)], [], [], [(170, "java/lang/IllegalArgumentException")], [], (29, none), (some .int))
set_option maxHeartbeats 4000000 in
theorem b_X7_about : ∀ as μ r μ', Γ_X7_about as μ r μ' → (elvL as).length ≤ 2 ∧ G mX7_about (Qe r μ') 0 (elv as 2) [] μ (rc r 1) := by
  intro as μ r μ' h
  obtain ⟨a0, rfl, h⟩ := h
  refine ⟨Nat.le_of_ble_eq_true rfl, ?_⟩
  show G mX7_about (Qe r μ') 0 [some (.ref 0), some (.int a0)] [] μ (rc r 1)
  unfold F_X7_about at h
  have hb9 : rc r 1 ≤ rc r 1 := Nat.le_refl _
  refine e_iload_n dX7_about_0 rfl ?_
  by_cases hc1 : a0 = (0 : Int32)
  · rw [if_pos hc1] at h
    refine e_tsL (0 : Int32) (tgt := 60) hc1 dX7_about_1 (by decide) (by decide) rfl rfl ?_
    refine e_aload_n dX7_about_60 rfl ?_
    refine e_get (ci := 5) (j := 1) (t := 2) (v := .ref 2) dX7_about_61 rfl (by decide) rfl rfl rfl ?_
    refine e_get (ci := 2) (j := 0) (t := 0) (v := .int (μ.1 2 0)) dX7_about_64 rfl (by decide) rfl rfl rfl ?_
    exact e_iret .int dX7_about_67 rfl rfl (ret_eq h)
  rw [if_neg hc1] at h
  by_cases hc2 : a0 = (1 : Int32)
  · rw [if_pos hc2] at h
    refine e_tsL (1 : Int32) (tgt := 68) hc2 dX7_about_1 (by decide) (by decide) rfl rfl ?_
    refine e_aload_n dX7_about_68 rfl ?_
    refine e_get (ci := 5) (j := 1) (t := 2) (v := .ref 2) dX7_about_69 rfl (by decide) rfl rfl rfl ?_
    refine e_get (ci := 2) (j := 1) (t := 0) (v := .int (μ.1 2 1)) dX7_about_72 rfl (by decide) rfl rfl rfl ?_
    exact e_iret .int dX7_about_75 rfl rfl (ret_eq h)
  rw [if_neg hc2] at h
  by_cases hc3 : a0 = (2 : Int32)
  · rw [if_pos hc3] at h
    refine e_tsL (2 : Int32) (tgt := 76) hc3 dX7_about_1 (by decide) (by decide) rfl rfl ?_
    refine e_aload_n dX7_about_76 rfl ?_
    refine e_get (ci := 5) (j := 1) (t := 2) (v := .ref 2) dX7_about_77 rfl (by decide) rfl rfl rfl ?_
    refine cI_go h (fun E6 hc4 hr7 => e_VX [] [] dX7_about_80 rfl rfl rfl rfl ⟨Nat.le_of_ble_eq_true rfl, rfl⟩ (Nat.le_of_ble_eq_true rfl) (hbr hr7 hb9 (Nat.le_of_ble_eq_true rfl)) ⟨2, rfl, (by decide), hc4⟩ rfl ⟨hr7.symm, rfl⟩) (fun v8 μ5 hc4 h => ?_)
    refine e_VI [] [] dX7_about_80 rfl rfl rfl rfl ⟨Nat.le_of_ble_eq_true rfl, rfl⟩ (Nat.le_of_ble_eq_true rfl) ⟨2, rfl, (by decide), hc4⟩ ?_
    exact e_iret .int dX7_about_83 rfl rfl (ret_eq h)
  rw [if_neg hc3] at h
  by_cases hc9 : a0 = (3 : Int32)
  · rw [if_pos hc9] at h
    refine e_tsL (3 : Int32) (tgt := 84) hc9 dX7_about_1 (by decide) (by decide) rfl rfl ?_
    refine e_aload_n dX7_about_84 rfl ?_
    refine e_get (ci := 5) (j := 1) (t := 2) (v := .ref 2) dX7_about_85 rfl (by decide) rfl rfl rfl ?_
    refine e_get (ci := 2) (j := 3) (t := 1) (v := .long (μ.2.1 2 3)) dX7_about_88 rfl (by decide) rfl rfl rfl ?_
    refine cI_go h (fun E12 hc10 hr13 => e_SX [.long (μ.2.1 2 3)] [] dX7_about_91 rfl (by decide) rfl rfl (Nat.le_of_ble_eq_true rfl) (hbr hr13 hb9 (Nat.le_of_ble_eq_true rfl)) ⟨μ.2.1 2 3, rfl, hc10⟩ rfl ⟨hr13.symm, rfl⟩) (fun v14 μ11 hc10 h => ?_)
    refine e_SI [.long (μ.2.1 2 3)] [] dX7_about_91 rfl (by decide) rfl rfl (Nat.le_of_ble_eq_true rfl) ⟨μ.2.1 2 3, rfl, hc10⟩ ?_
    exact e_iret .int dX7_about_94 rfl rfl (ret_eq h)
  rw [if_neg hc9] at h
  by_cases hc15 : a0 = (4 : Int32)
  · rw [if_pos hc15] at h
    refine e_tsL (4 : Int32) (tgt := 95) hc15 dX7_about_1 (by decide) (by decide) rfl rfl ?_
    refine e_aload_n dX7_about_95 rfl ?_
    refine e_get (ci := 5) (j := 1) (t := 2) (v := .ref 2) dX7_about_96 rfl (by decide) rfl rfl rfl ?_
    refine cI_go h (fun E18 hc16 hr19 => e_VX [] [] dX7_about_99 rfl rfl rfl rfl ⟨Nat.le_of_ble_eq_true rfl, rfl⟩ (Nat.le_of_ble_eq_true rfl) (hbr hr19 hb9 (Nat.le_of_ble_eq_true rfl)) ⟨2, rfl, (by decide), hc16⟩ rfl ⟨hr19.symm, rfl⟩) (fun v20 μ17 hc16 h => ?_)
    refine e_VI [] [] dX7_about_99 rfl rfl rfl rfl ⟨Nat.le_of_ble_eq_true rfl, rfl⟩ (Nat.le_of_ble_eq_true rfl) ⟨2, rfl, (by decide), hc16⟩ ?_
    exact e_iret .int dX7_about_102 rfl rfl (ret_eq h)
  rw [if_neg hc15] at h
  by_cases hc21 : a0 = (5 : Int32)
  · rw [if_pos hc21] at h
    refine e_tsL (5 : Int32) (tgt := 103) hc21 dX7_about_1 (by decide) (by decide) rfl rfl ?_
    refine e_aload_n dX7_about_103 rfl ?_
    refine e_get (ci := 5) (j := 1) (t := 2) (v := .ref 2) dX7_about_104 rfl (by decide) rfl rfl rfl ?_
    refine cI_go h (fun E24 hc22 hr25 => e_VX [] [] dX7_about_107 rfl rfl rfl rfl ⟨Nat.le_of_ble_eq_true rfl, rfl⟩ (Nat.le_of_ble_eq_true rfl) (hbr hr25 hb9 (Nat.le_of_ble_eq_true rfl)) ⟨2, rfl, (by decide), hc22⟩ rfl ⟨hr25.symm, rfl⟩) (fun v26 μ23 hc22 h => ?_)
    refine e_VI [] [] dX7_about_107 rfl rfl rfl rfl ⟨Nat.le_of_ble_eq_true rfl, rfl⟩ (Nat.le_of_ble_eq_true rfl) ⟨2, rfl, (by decide), hc22⟩ ?_
    exact e_iret .int dX7_about_110 rfl rfl (ret_eq h)
  rw [if_neg hc21] at h
  by_cases hc27 : a0 = (6 : Int32)
  · rw [if_pos hc27] at h
    refine e_tsL (6 : Int32) (tgt := 111) hc27 dX7_about_1 (by decide) (by decide) rfl rfl ?_
    refine e_aload_n dX7_about_111 rfl ?_
    refine e_get (ci := 5) (j := 1) (t := 2) (v := .ref 2) dX7_about_112 rfl (by decide) rfl rfl rfl ?_
    refine cI_go h (fun E30 hc28 hr31 => e_VX [] [] dX7_about_115 rfl rfl rfl rfl ⟨Nat.le_of_ble_eq_true rfl, rfl⟩ (Nat.le_of_ble_eq_true rfl) (hbr hr31 hb9 (Nat.le_of_ble_eq_true rfl)) ⟨2, rfl, (by decide), hc28⟩ rfl ⟨hr31.symm, rfl⟩) (fun v32 μ29 hc28 h => ?_)
    refine e_VI [] [] dX7_about_115 rfl rfl rfl rfl ⟨Nat.le_of_ble_eq_true rfl, rfl⟩ (Nat.le_of_ble_eq_true rfl) ⟨2, rfl, (by decide), hc28⟩ ?_
    exact e_iret .int dX7_about_118 rfl rfl (ret_eq h)
  rw [if_neg hc27] at h
  by_cases hc33 : a0 = (7 : Int32)
  · rw [if_pos hc33] at h
    refine e_tsL (7 : Int32) (tgt := 119) hc33 dX7_about_1 (by decide) (by decide) rfl rfl ?_
    refine e_aload_n dX7_about_119 rfl ?_
    refine e_get (ci := 5) (j := 1) (t := 2) (v := .ref 2) dX7_about_120 rfl (by decide) rfl rfl rfl ?_
    refine e_get (ci := 2) (j := 2) (t := 1) (v := .long (μ.2.1 2 2)) dX7_about_123 rfl (by decide) rfl rfl rfl ?_
    refine cI_go h (fun E36 hc34 hr37 => e_SX [.long (μ.2.1 2 2)] [] dX7_about_126 rfl (by decide) rfl rfl (Nat.le_of_ble_eq_true rfl) (hbr hr37 hb9 (Nat.le_of_ble_eq_true rfl)) ⟨μ.2.1 2 2, rfl, hc34⟩ rfl ⟨hr37.symm, rfl⟩) (fun v38 μ35 hc34 h => ?_)
    refine e_SI [.long (μ.2.1 2 2)] [] dX7_about_126 rfl (by decide) rfl rfl (Nat.le_of_ble_eq_true rfl) ⟨μ.2.1 2 2, rfl, hc34⟩ ?_
    exact e_iret .int dX7_about_129 rfl rfl (ret_eq h)
  rw [if_neg hc33] at h
  by_cases hc39 : a0 = (8 : Int32)
  · rw [if_pos hc39] at h
    refine e_tsL (8 : Int32) (tgt := 130) hc39 dX7_about_1 (by decide) (by decide) rfl rfl ?_
    refine e_aload_n dX7_about_130 rfl ?_
    refine e_get (ci := 5) (j := 1) (t := 2) (v := .ref 2) dX7_about_131 rfl (by decide) rfl rfl rfl ?_
    refine e_get (ci := 2) (j := 2) (t := 1) (v := .long (μ.2.1 2 2)) dX7_about_134 rfl (by decide) rfl rfl rfl ?_
    refine e_aload_n dX7_about_137 rfl ?_
    refine e_get (ci := 5) (j := 1) (t := 2) (v := .ref 2) dX7_about_138 rfl (by decide) rfl rfl rfl ?_
    refine e_get (ci := 2) (j := 2) (t := 1) (v := .long (μ.2.1 2 2)) dX7_about_141 rfl (by decide) rfl rfl rfl ?_
    refine cI_go h (fun E42 hc40 hr43 => e_SX [.long (μ.2.1 2 2), .long (μ.2.1 2 2)] [] dX7_about_144 rfl (by decide) rfl rfl (Nat.le_of_ble_eq_true rfl) (hbr hr43 hb9 (Nat.le_of_ble_eq_true rfl)) ⟨μ.2.1 2 2, μ.2.1 2 2, rfl, hc40⟩ rfl ⟨hr43.symm, rfl⟩) (fun v44 μ41 hc40 h => ?_)
    refine e_SI [.long (μ.2.1 2 2), .long (μ.2.1 2 2)] [] dX7_about_144 rfl (by decide) rfl rfl (Nat.le_of_ble_eq_true rfl) ⟨μ.2.1 2 2, μ.2.1 2 2, rfl, hc40⟩ ?_
    exact e_iret .int dX7_about_147 rfl rfl (ret_eq h)
  rw [if_neg hc39] at h
  by_cases hc45 : a0 = (9 : Int32)
  · rw [if_pos hc45] at h
    refine e_tsL (9 : Int32) (tgt := 148) hc45 dX7_about_1 (by decide) (by decide) rfl rfl ?_
    refine e_aload_n dX7_about_148 rfl ?_
    refine e_get (ci := 5) (j := 1) (t := 2) (v := .ref 2) dX7_about_149 rfl (by decide) rfl rfl rfl ?_
    refine e_get (ci := 2) (j := 2) (t := 1) (v := .long (μ.2.1 2 2)) dX7_about_152 rfl (by decide) rfl rfl rfl ?_
    refine cJ_go h (fun E48 hc46 hr49 => e_SX [.long (μ.2.1 2 2)] [] dX7_about_155 rfl (by decide) rfl rfl (Nat.le_of_ble_eq_true rfl) (hbr hr49 hb9 (Nat.le_of_ble_eq_true rfl)) ⟨μ.2.1 2 2, rfl, hc46⟩ rfl ⟨hr49.symm, rfl⟩) (fun v50 μ47 hc46 h => ?_)
    refine e_SJ [.long (μ.2.1 2 2)] [] dX7_about_155 rfl (by decide) rfl rfl (Nat.le_of_ble_eq_true rfl) ⟨μ.2.1 2 2, rfl, hc46⟩ ?_
    refine cI_go h (fun E53 hc51 hr54 => e_SX [.long v50] [] dX7_about_158 rfl (by decide) rfl rfl (Nat.le_of_ble_eq_true rfl) (hbr hr54 hb9 (Nat.le_of_ble_eq_true rfl)) ⟨v50, rfl, hc51⟩ rfl ⟨hr54.symm, rfl⟩) (fun v55 μ52 hc51 h => ?_)
    refine e_SI [.long v50] [] dX7_about_158 rfl (by decide) rfl rfl (Nat.le_of_ble_eq_true rfl) ⟨v50, rfl, hc51⟩ ?_
    exact e_iret .int dX7_about_161 rfl rfl (ret_eq h)
  rw [if_neg hc45] at h
  by_cases hc56 : a0 = (10 : Int32)
  · rw [if_pos hc56] at h
    refine e_tsL (10 : Int32) (tgt := 162) hc56 dX7_about_1 (by decide) (by decide) rfl rfl ?_
    refine e_aload_n dX7_about_162 rfl ?_
    refine e_get (ci := 5) (j := 1) (t := 2) (v := .ref 2) dX7_about_163 rfl (by decide) rfl rfl rfl ?_
    refine cI_go h (fun E59 hc57 hr60 => e_VX [] [] dX7_about_166 rfl rfl rfl rfl ⟨Nat.le_of_ble_eq_true rfl, rfl⟩ (Nat.le_of_ble_eq_true rfl) (hbr hr60 hb9 (Nat.le_of_ble_eq_true rfl)) ⟨2, rfl, (by decide), hc57⟩ rfl ⟨hr60.symm, rfl⟩) (fun v61 μ58 hc57 h => ?_)
    refine e_VI [] [] dX7_about_166 rfl rfl rfl rfl ⟨Nat.le_of_ble_eq_true rfl, rfl⟩ (Nat.le_of_ble_eq_true rfl) ⟨2, rfl, (by decide), hc57⟩ ?_
    exact e_iret .int dX7_about_169 rfl rfl (ret_eq h)
  rw [if_neg hc56] at h
  refine e_tsOut (tgt := 170) dX7_about_1 (ts_out_0_10 hc1 hc2 hc3 hc9 hc15 hc21 hc27 hc33 hc39 hc45 hc56) rfl ?_
  exact e_throw dX7_about_170 rfl (Nat.le_of_ble_eq_true rfl) (hbx h hb9 (Nat.le_of_ble_eq_true rfl)) rfl (ret_eq h)
set_option maxRecDepth 20000 in
theorem ok_X7_about (l : Launch) (hl : l.stackTraces = false) : MOK l yX7_about.cls 6 90 mX7_about := ⟨lk_all (List.forall_mem_cons.mpr ⟨⟨yX4_countFilled, cX4_countFilled, 1, (some .int), 2, 21, by decide, by decide, t_1 3 rfl rfl, hd_X4_countFilled, Or.inr (Or.inl ⟨rfl, sc_X4_countFilled l hl, t_1 152 rfl rfl, t_1 149 rfl rfl, t_1 150 rfl rfl, _, rfl, t_1 151 rfl rfl⟩)⟩, List.forall_mem_cons.mpr ⟨⟨yJ13_bitCount_95d88, cJ13_bitCount_95d88, 2, (some .int), 1, 0, by decide, by decide, t_1 7 rfl rfl, hd_J13_bitCount_95d88, Or.inl ⟨rfl, sc_J13_bitCount_95d88 l hl, t_1 155 rfl rfl, t_1 159 rfl rfl, t_1 154 rfl rfl⟩⟩, List.forall_mem_cons.mpr ⟨⟨yX4_wantedOfRows, cX4_wantedOfRows, 1, (some .int), 3, 45, by decide, by decide, t_1 3 rfl rfl, hd_X4_wantedOfRows, Or.inr (Or.inl ⟨rfl, sc_X4_wantedOfRows l hl, t_1 163 rfl rfl, t_1 160 rfl rfl, t_1 161 rfl rfl, _, rfl, t_1 162 rfl rfl⟩)⟩, List.forall_mem_cons.mpr ⟨⟨yX4_wantedOfColumns, cX4_wantedOfColumns, 1, (some .int), 3, 45, by decide, by decide, t_1 3 rfl rfl, hd_X4_wantedOfColumns, Or.inr (Or.inl ⟨rfl, sc_X4_wantedOfColumns l hl, t_1 173 rfl rfl, t_1 170 rfl rfl, t_1 171 rfl rfl, _, rfl, t_1 172 rfl rfl⟩)⟩, List.forall_mem_cons.mpr ⟨⟨yX4_countWrongLines, cX4_countWrongLines, 3, (some .int), 4, 62, by decide, by decide, t_1 3 rfl rfl, hd_X4_countWrongLines, Or.inr (Or.inl ⟨rfl, sc_X4_countWrongLines l hl, t_1 177 rfl rfl, t_1 174 rfl rfl, t_1 175 rfl rfl, _, rfl, t_1 176 rfl rfl⟩)⟩, List.forall_mem_cons.mpr ⟨⟨yX0_countPieces, cX0_countPieces, 6, (some .int), 2, 26, by decide, by decide, t_1 9 rfl rfl, hd_X0_countPieces, Or.inl ⟨rfl, sc_X0_countPieces l hl, t_1 209 rfl rfl, t_1 207 rfl rfl, t_1 208 rfl rfl⟩⟩, List.forall_mem_cons.mpr ⟨⟨yX0_outline, cX0_outline, 4, (some .int), 2, 21, by decide, by decide, t_1 9 rfl rfl, hd_X0_outline, Or.inl ⟨rfl, sc_X0_outline l hl, t_1 216 rfl rfl, t_1 214 rfl rfl, t_1 215 rfl rfl⟩⟩, List.forall_mem_cons.mpr ⟨⟨yX0_hull, cX0_hull, 7, (some .long), 3, 48, by decide, by decide, t_1 9 rfl rfl, hd_X0_hull, Or.inl ⟨rfl, sc_X0_hull l hl, t_1 220 rfl rfl, t_1 218 rfl rfl, t_1 219 rfl rfl⟩⟩, List.forall_mem_cons.mpr ⟨⟨yX4_countExchanges, cX4_countExchanges, 4, (some .int), 3, 49, by decide, by decide, t_1 3 rfl rfl, hd_X4_countExchanges, Or.inr (Or.inl ⟨rfl, sc_X4_countExchanges l hl, t_1 231 rfl rfl, t_1 228 rfl rfl, t_1 229 rfl rfl, _, rfl, t_1 230 rfl rfl⟩)⟩, nil_all⟩⟩⟩⟩⟩⟩⟩⟩⟩), fun ix ci j h => lk_all (P := fun ix q => FldOK yX7_about.cls ix q.1 q.2) (List.forall_mem_cons.mpr ⟨⟨_, rfl, by decide, t_1 123 rfl rfl⟩, List.forall_mem_cons.mpr ⟨⟨_, rfl, by decide, t_1 47 rfl rfl⟩, List.forall_mem_cons.mpr ⟨⟨_, rfl, by decide, t_1 50 rfl rfl⟩, List.forall_mem_cons.mpr ⟨⟨_, rfl, by decide, t_1 57 rfl rfl⟩, List.forall_mem_cons.mpr ⟨⟨_, rfl, by decide, t_1 54 rfl rfl⟩, nil_all⟩⟩⟩⟩⟩) ix (ci, j) h, lk_all (nil_all), lk_all (nil_all), lk_all (List.forall_mem_cons.mpr ⟨⟨rfl, List.mem_of_getElem? (i := 0) rfl, by decide, by decide, 53, 136, 57, "what is not 0 to 10", List.mem_of_getElem? (i := 0) rfl, t_2 6 rfl rfl, t_1 14 rfl rfl, th_IllegalArgumentException_57.1, th_IllegalArgumentException_57.2.1, List.forall_mem_cons.mpr ⟨rfl, List.forall_mem_cons.mpr ⟨rfl, th_IllegalArgumentException_57.2.2⟩⟩, dX7_about_170, dX7_about_173, Or.inl ⟨dX7_about_174, dX7_about_176, dX7_about_179⟩⟩, nil_all⟩)⟩
theorem hd_X7_about : CallHd yX7_about 1 := ⟨by decide +kernel, by decide +kernel, by decide +kernel⟩
theorem sc_X7_about (l : Launch) (hl : l.stackTraces = false) : SCon l yX7_about cX7_about 2 (some .int) 6 90 1 Γ_X7_about := scon_of mX7_about cls_ok hl (by decide +kernel) rfl rfl (ok_X7_about l hl) rfl rfl b_X7_about
def f_X7_bestExchange_88 (k19 : Int32 → Int32 → Int32 → Int32 → Int32 → Mem → Out) (x4 : Int32) (x5 : Int32) (x8 : Int32) (x9 : Int32) (μ : Mem) : Out := lt (x5 + (1 : Int32)) (fun v34 => k19 x5 x8 x9 x4 v34 μ)
def f_X7_bestExchange_19 : Nat → Int32 → Int32 → Int32 → Int32 → Int32 → Mem → Out
  | 0, _, _, _, _, _, _ => none
  | n + 1, x1, x2, x3, x4, x5, μ => if x4 ≤ x5 then (rI x1 μ) else (cI (F_X4_exchangeNumbered 2 x5 μ) (fun v11 μ8 => cJ (F_X0_cornersOf v11 μ8) (fun v16 μ13 => lt ((μ.2.1 2 2) ^^^ v16) (fun v17 => cI (F_X0_countPieces v17 μ13) (fun v22 μ19 => cI (F_X0_outline v17 v17 μ19) (fun v27 μ24 => if x1 = (-9 : Int32) then (f_X7_bestExchange_88 (f_X7_bestExchange_19 n) x4 x5 v22 v27 μ24) else (if v22 < x2 then (f_X7_bestExchange_88 (f_X7_bestExchange_19 n) x4 x5 v22 v27 μ24) else (if v22 = x2 then (if x3 ≤ v27 then (lt (x5 + (1 : Int32)) (fun v33 => f_X7_bestExchange_19 n x1 x2 x3 x4 v33 μ24)) else (f_X7_bestExchange_88 (f_X7_bestExchange_19 n) x4 x5 v22 v27 μ24)) else (lt (x5 + (1 : Int32)) (fun v31 => f_X7_bestExchange_19 n x1 x2 x3 x4 v31 μ24))))))))))
def F_X7_bestExchange (μ : Mem) : Out := cI (F_X4_countExchanges 2 μ) (fun v5 μ2 => f_X7_bestExchange_19 BIG (-9 : Int32) (0 : Int32) (0 : Int32) v5 (0 : Int32) μ2)
def Γ_X7_bestExchange : Gam := fun as μ r μ' => as = [.ref 0] ∧ F_X7_bestExchange μ = some (r, μ')
def mX7_bestExchange : MI := (cX7_bestExchange, [(122, (0, 1, 0, 0, Γ_X0_countPieces)), (125, (0, 2, 0, 0, Γ_X0_outline)), (133, (1, 0, 0, 2, Γ_X4_countExchanges)), (207, (1, 1, 0, 2, Γ_X4_exchangeNumbered)), (301, (0, 1, 0, 0, Γ_X0_cornersOf))], [(19, 5, 1), (119, 2, 2)], [], [], [], [], (29, none), (some .int))
set_option maxHeartbeats 4000000 in
theorem g_X7_bestExchange_88 {r : Res} {μ' : Mem} {k19 : Int32 → Int32 → Int32 → Int32 → Int32 → Mem → Out} (hk19 : ∀ (x1 : Int32) (x2 : Int32) (x3 : Int32) (x4 : Int32) (x5 : Int32), ∀ (μ : Mem) (b : Nat), rc r 0 ≤ b → k19 x1 x2 x3 x4 x5 μ = some (r, μ') → G mX7_bestExchange (Qe r μ') 19 [some (.ref 0), some (.int x1), some (.int x2), some (.int x3), some (.int x4), some (.int x5), none, none, none, none] [] μ b) : ∀ (x4 : Int32) (x5 : Int32) (x8 : Int32) (x9 : Int32), ∀ (μ : Mem) (b : Nat), rc r 0 ≤ b → f_X7_bestExchange_88 k19 x4 x5 x8 x9 μ = some (r, μ') → G mX7_bestExchange (Qe r μ') 88 [some (.ref 0), none, none, none, some (.int x4), some (.int x5), none, none, some (.int x8), some (.int x9)] [] μ b := by
  intro x4 x5 x8 x9 μ b hb9 h
  unfold f_X7_bestExchange_88 at h
  refine e_iload dX7_bestExchange_88 rfl ?_
  refine e_istore_nL [some (.ref 0), some (.int x5), none, none, some (.int x4), some (.int x5), none, none, some (.int x8), some (.int x9)] dX7_bestExchange_90 (Nat.le_of_ble_eq_true rfl) rfl ?_
  refine e_iload dX7_bestExchange_91 rfl ?_
  refine e_istore_nL [some (.ref 0), some (.int x5), some (.int x8), none, some (.int x4), some (.int x5), none, none, some (.int x8), some (.int x9)] dX7_bestExchange_93 (Nat.le_of_ble_eq_true rfl) rfl ?_
  refine e_iload dX7_bestExchange_94 rfl ?_
  refine e_istore_nL [some (.ref 0), some (.int x5), some (.int x8), some (.int x9), some (.int x4), some (.int x5), none, none, some (.int x8), some (.int x9)] dX7_bestExchange_96 (Nat.le_of_ble_eq_true rfl) rfl ?_
  refine e_iincN 5 (1 : Int32) dX7_bestExchange_97 rfl ci_1 h (fun y9 => [some (.ref 0), some (.int x5), some (.int x8), some (.int x9), some (.int x4), some (.int y9), none, none, some (.int x8), some (.int x9)]) (fun _ => rfl) (fun v34 ev34 h => ?_)
  refine e_goto (tgt := 19) dX7_bestExchange_100 rfl ?_
  exact e_le (hk19 x5 x8 x9 x4 v34 μ _ hb9 h) ⟨rfl, rfl, rfl, rfl, rfl, rfl, trivial⟩
set_option maxHeartbeats 4000000 in
theorem g_X7_bestExchange_19 {r : Res} {μ' : Mem} : ∀ n : Nat, ∀ (x1 : Int32) (x2 : Int32) (x3 : Int32) (x4 : Int32) (x5 : Int32), ∀ (μ : Mem) (b : Nat), rc r 0 ≤ b → f_X7_bestExchange_19 n x1 x2 x3 x4 x5 μ = some (r, μ') → G mX7_bestExchange (Qe r μ') 19 [some (.ref 0), some (.int x1), some (.int x2), some (.int x3), some (.int x4), some (.int x5), none, none, none, none] [] μ b := by
  intro n
  induction n with
  | zero => intro x1 x2 x3 x4 x5 μ b hb9 h; exact nomatch (show (none : Out) = some _ from h)
  | succ n ih =>
    intro x1 x2 x3 x4 x5 μ b hb9 h
    rw [f_X7_bestExchange_19.eq_2] at h
    refine e_iload dX7_bestExchange_19 rfl ?_
    refine e_iload dX7_bestExchange_21 rfl ?_
    refine e_ic_ge (tgt := 103) dX7_bestExchange_23 rfl (fun hc6 => ?_) (fun hc6 => ?_)
    · rw [if_pos hc6] at h
      refine e_iload_n dX7_bestExchange_103 rfl ?_
      exact e_iret .int dX7_bestExchange_104 rfl rfl (ret_eq h)
    · rw [if_neg hc6] at h
      refine e_aload_n dX7_bestExchange_26 rfl ?_
      refine e_get (ci := 5) (j := 1) (t := 2) (v := .ref 2) dX7_bestExchange_27 rfl (by decide) rfl rfl rfl ?_
      refine e_get (ci := 2) (j := 2) (t := 1) (v := .long (μ.2.1 2 2)) dX7_bestExchange_30 rfl (by decide) rfl rfl rfl ?_
      refine e_aload_n dX7_bestExchange_33 rfl ?_
      refine e_get (ci := 5) (j := 1) (t := 2) (v := .ref 2) dX7_bestExchange_34 rfl (by decide) rfl rfl rfl ?_
      refine e_iload dX7_bestExchange_37 rfl ?_
      refine cI_go h (fun E9 hc7 hr10 => e_VX [.int x5] [.long (μ.2.1 2 2)] dX7_bestExchange_39 rfl rfl rfl rfl ⟨Nat.le_of_ble_eq_true rfl, rfl⟩ (Nat.le_of_ble_eq_true rfl) (hbr hr10 hb9 (Nat.le_of_ble_eq_true rfl)) ⟨2, x5, rfl, (by decide), hc7⟩ rfl ⟨hr10.symm, rfl⟩) (fun v11 μ8 hc7 h => ?_)
      refine e_VI [.int x5] [.long (μ.2.1 2 2)] dX7_bestExchange_39 rfl rfl rfl rfl ⟨Nat.le_of_ble_eq_true rfl, rfl⟩ (Nat.le_of_ble_eq_true rfl) ⟨2, x5, rfl, (by decide), hc7⟩ ?_
      refine cJ_go h (fun E14 hc12 hr15 => e_SX [.int v11] [.long (μ.2.1 2 2)] dX7_bestExchange_42 rfl (by decide) rfl rfl (Nat.le_of_ble_eq_true rfl) (hbr hr15 hb9 (Nat.le_of_ble_eq_true rfl)) ⟨v11, rfl, hc12⟩ rfl ⟨hr15.symm, rfl⟩) (fun v16 μ13 hc12 h => ?_)
      refine e_SJ [.int v11] [.long (μ.2.1 2 2)] dX7_bestExchange_42 rfl (by decide) rfl rfl (Nat.le_of_ble_eq_true rfl) ⟨v11, rfl, hc12⟩ ?_
      refine e_lxor dX7_bestExchange_45 ?_
      refine e_naJ h (fun v17 ev17 h => ?_)
      refine e_lstoreL [some (.ref 0), some (.int x1), some (.int x2), some (.int x3), some (.int x4), some (.int x5), some (.long v17), none, none, none] dX7_bestExchange_46 (Nat.le_of_ble_eq_true rfl) rfl ?_
      refine e_lload dX7_bestExchange_48 rfl ?_
      refine cI_go h (fun E20 hc18 hr21 => e_SX [.long v17] [] dX7_bestExchange_50 rfl (by decide) rfl rfl (Nat.le_of_ble_eq_true rfl) (hbr hr21 hb9 (Nat.le_of_ble_eq_true rfl)) ⟨v17, rfl, hc18⟩ rfl ⟨hr21.symm, rfl⟩) (fun v22 μ19 hc18 h => ?_)
      refine e_SI [.long v17] [] dX7_bestExchange_50 rfl (by decide) rfl rfl (Nat.le_of_ble_eq_true rfl) ⟨v17, rfl, hc18⟩ ?_
      refine e_istoreL [some (.ref 0), some (.int x1), some (.int x2), some (.int x3), some (.int x4), some (.int x5), some (.long v17), none, some (.int v22), none] dX7_bestExchange_53 (Nat.le_of_ble_eq_true rfl) rfl ?_
      refine e_lload dX7_bestExchange_55 rfl ?_
      refine e_lload dX7_bestExchange_57 rfl ?_
      refine cI_go h (fun E25 hc23 hr26 => e_SX [.long v17, .long v17] [] dX7_bestExchange_59 rfl (by decide) rfl rfl (Nat.le_of_ble_eq_true rfl) (hbr hr26 hb9 (Nat.le_of_ble_eq_true rfl)) ⟨v17, v17, rfl, hc23⟩ rfl ⟨hr26.symm, rfl⟩) (fun v27 μ24 hc23 h => ?_)
      refine e_SI [.long v17, .long v17] [] dX7_bestExchange_59 rfl (by decide) rfl rfl (Nat.le_of_ble_eq_true rfl) ⟨v17, v17, rfl, hc23⟩ ?_
      refine e_istoreL [some (.ref 0), some (.int x1), some (.int x2), some (.int x3), some (.int x4), some (.int x5), some (.long v17), none, some (.int v22), some (.int v27)] dX7_bestExchange_62 (Nat.le_of_ble_eq_true rfl) rfl ?_
      refine e_iload_n dX7_bestExchange_64 rfl ?_
      refine e_bipush dX7_bestExchange_65 cb_m9 ?_
      refine e_ic_eq (tgt := 88) dX7_bestExchange_67 rfl (fun hc28 => ?_) (fun hc28 => ?_)
      · rw [if_pos hc28] at h
        exact e_le (g_X7_bestExchange_88 ih x4 x5 v22 v27 μ24 _ hb9 h) ⟨rfl, rfl, rfl, rfl, rfl, trivial⟩
      · rw [if_neg hc28] at h
        refine e_iload dX7_bestExchange_70 rfl ?_
        refine e_iload_n dX7_bestExchange_72 rfl ?_
        refine e_ic_lt (tgt := 88) dX7_bestExchange_73 rfl (fun hc29 => ?_) (fun hc29 => ?_)
        · rw [if_pos hc29] at h
          exact e_le (g_X7_bestExchange_88 ih x4 x5 v22 v27 μ24 _ hb9 h) ⟨rfl, rfl, rfl, rfl, rfl, trivial⟩
        · rw [if_neg hc29] at h
          refine e_iload dX7_bestExchange_76 rfl ?_
          refine e_iload_n dX7_bestExchange_78 rfl ?_
          refine e_ic_ne (tgt := 97) dX7_bestExchange_79 rfl (fun hc30 => ?_) (fun hc30 => ?_)
          · rw [if_neg hc30] at h
            refine e_iincN 5 (1 : Int32) dX7_bestExchange_97 rfl ci_1 h (fun y9 => [some (.ref 0), some (.int x1), some (.int x2), some (.int x3), some (.int x4), some (.int y9), some (.long v17), none, some (.int v22), some (.int v27)]) (fun _ => rfl) (fun v31 ev31 h => ?_)
            refine e_goto (tgt := 19) dX7_bestExchange_100 rfl ?_
            exact e_le (ih x1 x2 x3 x4 v31 μ24 _ hb9 h) ⟨rfl, rfl, rfl, rfl, rfl, rfl, trivial⟩
          · rw [if_pos hc30] at h
            refine e_iload dX7_bestExchange_82 rfl ?_
            refine e_iload_n dX7_bestExchange_84 rfl ?_
            refine e_ic_ge (tgt := 97) dX7_bestExchange_85 rfl (fun hc32 => ?_) (fun hc32 => ?_)
            · rw [if_pos hc32] at h
              refine e_iincN 5 (1 : Int32) dX7_bestExchange_97 rfl ci_1 h (fun y9 => [some (.ref 0), some (.int x1), some (.int x2), some (.int x3), some (.int x4), some (.int y9), some (.long v17), none, some (.int v22), some (.int v27)]) (fun _ => rfl) (fun v33 ev33 h => ?_)
              refine e_goto (tgt := 19) dX7_bestExchange_100 rfl ?_
              exact e_le (ih x1 x2 x3 x4 v33 μ24 _ hb9 h) ⟨rfl, rfl, rfl, rfl, rfl, rfl, trivial⟩
            · rw [if_neg hc32] at h
              exact e_le (g_X7_bestExchange_88 ih x4 x5 v22 v27 μ24 _ hb9 h) ⟨rfl, rfl, rfl, rfl, rfl, trivial⟩
set_option maxHeartbeats 4000000 in
theorem b_X7_bestExchange : ∀ as μ r μ', Γ_X7_bestExchange as μ r μ' → (elvL as).length ≤ 10 ∧ G mX7_bestExchange (Qe r μ') 0 (elv as 10) [] μ (rc r 0) := by
  intro as μ r μ' h
  obtain ⟨rfl, h⟩ := h
  refine ⟨Nat.le_of_ble_eq_true rfl, ?_⟩
  show G mX7_bestExchange (Qe r μ') 0 [some (.ref 0), none, none, none, none, none, none, none, none, none] [] μ (rc r 0)
  unfold F_X7_bestExchange at h
  have hb9 : rc r 0 ≤ rc r 0 := Nat.le_refl _
  refine e_bipush dX7_bestExchange_0 cb_m9 ?_
  refine e_istore_nL [some (.ref 0), some (.int (-9 : Int32)), none, none, none, none, none, none, none, none] dX7_bestExchange_2 (Nat.le_of_ble_eq_true rfl) rfl ?_
  refine e_iconst dX7_bestExchange_3 ci_0 ?_
  refine e_istore_nL [some (.ref 0), some (.int (-9 : Int32)), some (.int (0 : Int32)), none, none, none, none, none, none, none] dX7_bestExchange_4 (Nat.le_of_ble_eq_true rfl) rfl ?_
  refine e_iconst dX7_bestExchange_5 ci_0 ?_
  refine e_istore_nL [some (.ref 0), some (.int (-9 : Int32)), some (.int (0 : Int32)), some (.int (0 : Int32)), none, none, none, none, none, none] dX7_bestExchange_6 (Nat.le_of_ble_eq_true rfl) rfl ?_
  refine e_aload_n dX7_bestExchange_7 rfl ?_
  refine e_get (ci := 5) (j := 1) (t := 2) (v := .ref 2) dX7_bestExchange_8 rfl (by decide) rfl rfl rfl ?_
  refine cI_go h (fun E3 hc1 hr4 => e_VX [] [] dX7_bestExchange_11 rfl rfl rfl rfl ⟨Nat.le_of_ble_eq_true rfl, rfl⟩ (Nat.le_of_ble_eq_true rfl) (hbr hr4 hb9 (Nat.le_of_ble_eq_true rfl)) ⟨2, rfl, (by decide), hc1⟩ rfl ⟨hr4.symm, rfl⟩) (fun v5 μ2 hc1 h => ?_)
  refine e_VI [] [] dX7_bestExchange_11 rfl rfl rfl rfl ⟨Nat.le_of_ble_eq_true rfl, rfl⟩ (Nat.le_of_ble_eq_true rfl) ⟨2, rfl, (by decide), hc1⟩ ?_
  refine e_istoreL [some (.ref 0), some (.int (-9 : Int32)), some (.int (0 : Int32)), some (.int (0 : Int32)), some (.int v5), none, none, none, none, none] dX7_bestExchange_14 (Nat.le_of_ble_eq_true rfl) rfl ?_
  refine e_iconst dX7_bestExchange_16 ci_0 ?_
  refine e_istoreL [some (.ref 0), some (.int (-9 : Int32)), some (.int (0 : Int32)), some (.int (0 : Int32)), some (.int v5), some (.int (0 : Int32)), none, none, none, none] dX7_bestExchange_17 (Nat.le_of_ble_eq_true rfl) rfl ?_
  exact e_le (g_X7_bestExchange_19 BIG (-9 : Int32) (0 : Int32) (0 : Int32) v5 (0 : Int32) μ2 _ hb9 h) ⟨rfl, rfl, rfl, rfl, rfl, rfl, trivial⟩
set_option maxRecDepth 20000 in
theorem ok_X7_bestExchange (l : Launch) (hl : l.stackTraces = false) : MOK l yX7_bestExchange.cls 6 123 mX7_bestExchange := ⟨lk_all (List.forall_mem_cons.mpr ⟨⟨yX0_countPieces, cX0_countPieces, 6, (some .int), 2, 26, by decide, by decide, t_1 9 rfl rfl, hd_X0_countPieces, Or.inl ⟨rfl, sc_X0_countPieces l hl, t_1 209 rfl rfl, t_1 207 rfl rfl, t_1 208 rfl rfl⟩⟩, List.forall_mem_cons.mpr ⟨⟨yX0_outline, cX0_outline, 4, (some .int), 2, 21, by decide, by decide, t_1 9 rfl rfl, hd_X0_outline, Or.inl ⟨rfl, sc_X0_outline l hl, t_1 216 rfl rfl, t_1 214 rfl rfl, t_1 215 rfl rfl⟩⟩, List.forall_mem_cons.mpr ⟨⟨yX4_countExchanges, cX4_countExchanges, 4, (some .int), 3, 49, by decide, by decide, t_1 3 rfl rfl, hd_X4_countExchanges, Or.inr (Or.inl ⟨rfl, sc_X4_countExchanges l hl, t_1 231 rfl rfl, t_1 228 rfl rfl, t_1 229 rfl rfl, _, rfl, t_1 230 rfl rfl⟩)⟩, List.forall_mem_cons.mpr ⟨⟨yX4_exchangeNumbered, cX4_exchangeNumbered, 6, (some .int), 5, 98, by decide, by decide, t_1 3 rfl rfl, hd_X4_exchangeNumbered, Or.inr (Or.inl ⟨rfl, sc_X4_exchangeNumbered l hl, t_3 88 rfl rfl, t_3 85 rfl rfl, t_3 86 rfl rfl, _, rfl, t_3 87 rfl rfl⟩)⟩, List.forall_mem_cons.mpr ⟨⟨yX0_cornersOf, cX0_cornersOf, 1, (some .long), 3, 44, by decide, by decide, t_1 9 rfl rfl, hd_X0_cornersOf, Or.inl ⟨rfl, sc_X0_cornersOf l hl, t_3 103 rfl rfl, t_3 101 rfl rfl, t_3 102 rfl rfl⟩⟩, nil_all⟩⟩⟩⟩⟩), fun ix ci j h => lk_all (P := fun ix q => FldOK yX7_bestExchange.cls ix q.1 q.2) (List.forall_mem_cons.mpr ⟨⟨_, rfl, by decide, t_1 123 rfl rfl⟩, List.forall_mem_cons.mpr ⟨⟨_, rfl, by decide, t_1 54 rfl rfl⟩, nil_all⟩⟩) ix (ci, j) h, lk_all (nil_all), lk_all (nil_all), lk_all (nil_all)⟩
theorem hd_X7_bestExchange : CallHd yX7_bestExchange 0 := ⟨by decide +kernel, by decide +kernel, by decide +kernel⟩
theorem sc_X7_bestExchange (l : Launch) (hl : l.stackTraces = false) : SCon l yX7_bestExchange cX7_bestExchange 10 (some .int) 6 123 0 Γ_X7_bestExchange := scon_of mX7_bestExchange cls_ok hl (by decide +kernel) rfl rfl (ok_X7_bestExchange l hl) rfl rfl b_X7_bestExchange
def f_X7_bestParted_8 : Nat → Int32 → Int32 → Int32 → Int32 → Mem → Out
  | 0, _, _, _, _, _ => none
  | n + 1, x1, x2, x3, x4, μ => if (48 : Int32) ≤ x4 then (rI x2 μ) else (ck (inb x4 48) (ck (inb x4 48) (cI (F_J9_min_7cf53 (μ.1 7 (Int32.toNatClampNeg x4)) (x1 - (μ.1 7 (Int32.toNatClampNeg x4))) μ) (fun v8 μ5 => if v8 ≤ x3 then (lt (x4 + (1 : Int32)) (fun v10 => f_X7_bestParted_8 n x1 x2 x3 v10 μ5)) else (cI (F_X0_code x4 μ5) (fun v15 μ12 => lt (x4 + (1 : Int32)) (fun v16 => f_X7_bestParted_8 n x1 v15 v8 v16 μ12)))))))
def F_X7_bestParted (a0 : Int32) (μ : Mem) : Out := f_X7_bestParted_8 BIG a0 (-9 : Int32) (0 : Int32) (0 : Int32) μ
def Γ_X7_bestParted : Gam := fun as μ r μ' => ∃ (a0 : Int32), as = [.ref 0, .int a0] ∧ F_X7_bestParted a0 μ = some (r, μ')
def mX7_bestParted : MI := (cX7_bestParted, [(202, (0, 1, 0, 0, Γ_X0_code)), (352, (4, 2, 0, 0, Γ_J9_min_7cf53))], [(49, 5, 6)], [], [], [], [], (29, none), (some .int))
set_option maxHeartbeats 4000000 in
theorem g_X7_bestParted_8 {r : Res} {μ' : Mem} : ∀ n : Nat, ∀ (x1 : Int32) (x2 : Int32) (x3 : Int32) (x4 : Int32), ∀ (μ : Mem) (b : Nat), rc r 0 ≤ b → f_X7_bestParted_8 n x1 x2 x3 x4 μ = some (r, μ') → G mX7_bestParted (Qe r μ') 8 [some (.ref 0), some (.int x1), some (.int x2), some (.int x3), some (.int x4), none] [] μ b := by
  intro n
  induction n with
  | zero => intro x1 x2 x3 x4 μ b hb9 h; exact nomatch (show (none : Out) = some _ from h)
  | succ n ih =>
    intro x1 x2 x3 x4 μ b hb9 h
    rw [f_X7_bestParted_8.eq_2] at h
    refine e_iload dX7_bestParted_8 rfl ?_
    refine e_aload_n dX7_bestParted_10 rfl ?_
    refine e_get (ci := 5) (j := 6) (t := 2) (v := .ref 7) dX7_bestParted_11 rfl (by decide) rfl rfl rfl ?_
    refine e_alen (t := 0) (n := 48) (v := (48 : Int32)) dX7_bestParted_14 (by decide) rfl (by decide) rfl ?_
    refine e_ic_ge (tgt := 60) dX7_bestParted_15 rfl (fun hc1 => ?_) (fun hc1 => ?_)
    · rw [if_pos hc1] at h
      refine e_iload_n dX7_bestParted_60 rfl ?_
      exact e_iret .int dX7_bestParted_61 rfl rfl (ret_eq h)
    · rw [if_neg hc1] at h
      refine e_aload_n dX7_bestParted_18 rfl ?_
      refine e_get (ci := 5) (j := 6) (t := 2) (v := .ref 7) dX7_bestParted_19 rfl (by decide) rfl rfl rfl ?_
      refine e_iload dX7_bestParted_22 rfl ?_
      obtain ⟨hc2, h⟩ := ck_eq h
      refine e_ialoadL (μ.1 7 (Int32.toNatClampNeg x4)) (n := 48) dX7_bestParted_24 (by decide) rfl hc2 rfl ?_
      refine e_iload_n dX7_bestParted_25 rfl ?_
      refine e_aload_n dX7_bestParted_26 rfl ?_
      refine e_get (ci := 5) (j := 6) (t := 2) (v := .ref 7) dX7_bestParted_27 rfl (by decide) rfl rfl rfl ?_
      refine e_iload dX7_bestParted_30 rfl ?_
      obtain ⟨hc3, h⟩ := ck_eq h
      refine e_ialoadL (μ.1 7 (Int32.toNatClampNeg x4)) (n := 48) dX7_bestParted_32 (by decide) rfl hc3 rfl ?_
      refine e_isub dX7_bestParted_33 ?_
      refine cI_go h (fun E6 hc4 hr7 => e_SX [.int (μ.1 7 (Int32.toNatClampNeg x4)), .int (x1 - (μ.1 7 (Int32.toNatClampNeg x4)))] [] dX7_bestParted_34 rfl (by decide) rfl rfl (Nat.le_of_ble_eq_true rfl) (hbr hr7 hb9 (Nat.le_of_ble_eq_true rfl)) ⟨μ.1 7 (Int32.toNatClampNeg x4), x1 - (μ.1 7 (Int32.toNatClampNeg x4)), rfl, hc4⟩ rfl ⟨hr7.symm, rfl⟩) (fun v8 μ5 hc4 h => ?_)
      refine e_SI [.int (μ.1 7 (Int32.toNatClampNeg x4)), .int (x1 - (μ.1 7 (Int32.toNatClampNeg x4)))] [] dX7_bestParted_34 rfl (by decide) rfl rfl (Nat.le_of_ble_eq_true rfl) ⟨μ.1 7 (Int32.toNatClampNeg x4), x1 - (μ.1 7 (Int32.toNatClampNeg x4)), rfl, hc4⟩ ?_
      refine e_istoreL [some (.ref 0), some (.int x1), some (.int x2), some (.int x3), some (.int x4), some (.int v8)] dX7_bestParted_37 (Nat.le_of_ble_eq_true rfl) rfl ?_
      refine e_iload dX7_bestParted_39 rfl ?_
      refine e_iload_n dX7_bestParted_41 rfl ?_
      refine e_ic_le (tgt := 54) dX7_bestParted_42 rfl (fun hc9 => ?_) (fun hc9 => ?_)
      · rw [if_pos hc9] at h
        refine e_iincN 4 (1 : Int32) dX7_bestParted_54 rfl ci_1 h (fun y9 => [some (.ref 0), some (.int x1), some (.int x2), some (.int x3), some (.int y9), some (.int v8)]) (fun _ => rfl) (fun v10 ev10 h => ?_)
        refine e_goto (tgt := 8) dX7_bestParted_57 rfl ?_
        exact e_le (ih x1 x2 x3 v10 μ5 _ hb9 h) ⟨rfl, rfl, rfl, rfl, rfl, trivial⟩
      · rw [if_neg hc9] at h
        refine e_iload dX7_bestParted_45 rfl ?_
        refine e_istore_nL [some (.ref 0), some (.int x1), some (.int x2), some (.int v8), some (.int x4), some (.int v8)] dX7_bestParted_47 (Nat.le_of_ble_eq_true rfl) rfl ?_
        refine e_iload dX7_bestParted_48 rfl ?_
        refine cI_go h (fun E13 hc11 hr14 => e_SX [.int x4] [] dX7_bestParted_50 rfl (by decide) rfl rfl (Nat.le_of_ble_eq_true rfl) (hbr hr14 hb9 (Nat.le_of_ble_eq_true rfl)) ⟨x4, rfl, hc11⟩ rfl ⟨hr14.symm, rfl⟩) (fun v15 μ12 hc11 h => ?_)
        refine e_SI [.int x4] [] dX7_bestParted_50 rfl (by decide) rfl rfl (Nat.le_of_ble_eq_true rfl) ⟨x4, rfl, hc11⟩ ?_
        refine e_istore_nL [some (.ref 0), some (.int x1), some (.int v15), some (.int v8), some (.int x4), some (.int v8)] dX7_bestParted_53 (Nat.le_of_ble_eq_true rfl) rfl ?_
        refine e_iincN 4 (1 : Int32) dX7_bestParted_54 rfl ci_1 h (fun y9 => [some (.ref 0), some (.int x1), some (.int v15), some (.int v8), some (.int y9), some (.int v8)]) (fun _ => rfl) (fun v16 ev16 h => ?_)
        refine e_goto (tgt := 8) dX7_bestParted_57 rfl ?_
        exact e_le (ih x1 v15 v8 v16 μ12 _ hb9 h) ⟨rfl, rfl, rfl, rfl, rfl, trivial⟩
set_option maxHeartbeats 4000000 in
theorem b_X7_bestParted : ∀ as μ r μ', Γ_X7_bestParted as μ r μ' → (elvL as).length ≤ 6 ∧ G mX7_bestParted (Qe r μ') 0 (elv as 6) [] μ (rc r 0) := by
  intro as μ r μ' h
  obtain ⟨a0, rfl, h⟩ := h
  refine ⟨Nat.le_of_ble_eq_true rfl, ?_⟩
  show G mX7_bestParted (Qe r μ') 0 [some (.ref 0), some (.int a0), none, none, none, none] [] μ (rc r 0)
  unfold F_X7_bestParted at h
  have hb9 : rc r 0 ≤ rc r 0 := Nat.le_refl _
  refine e_bipush dX7_bestParted_0 cb_m9 ?_
  refine e_istore_nL [some (.ref 0), some (.int a0), some (.int (-9 : Int32)), none, none, none] dX7_bestParted_2 (Nat.le_of_ble_eq_true rfl) rfl ?_
  refine e_iconst dX7_bestParted_3 ci_0 ?_
  refine e_istore_nL [some (.ref 0), some (.int a0), some (.int (-9 : Int32)), some (.int (0 : Int32)), none, none] dX7_bestParted_4 (Nat.le_of_ble_eq_true rfl) rfl ?_
  refine e_iconst dX7_bestParted_5 ci_0 ?_
  refine e_istoreL [some (.ref 0), some (.int a0), some (.int (-9 : Int32)), some (.int (0 : Int32)), some (.int (0 : Int32)), none] dX7_bestParted_6 (Nat.le_of_ble_eq_true rfl) rfl ?_
  exact e_le (g_X7_bestParted_8 BIG a0 (-9 : Int32) (0 : Int32) (0 : Int32) μ _ hb9 h) ⟨rfl, rfl, rfl, rfl, rfl, trivial⟩
set_option maxRecDepth 20000 in
theorem ok_X7_bestParted (l : Launch) (hl : l.stackTraces = false) : MOK l yX7_bestParted.cls 3 40 mX7_bestParted := ⟨lk_all (List.forall_mem_cons.mpr ⟨⟨yX0_code, cX0_code, 1, (some .int), 2, 20, by decide, by decide, t_1 9 rfl rfl, hd_X0_code, Or.inl ⟨rfl, sc_X0_code l hl, t_3 174 rfl rfl, t_3 172 rfl rfl, t_3 173 rfl rfl⟩⟩, List.forall_mem_cons.mpr ⟨⟨yJ9_min_7cf53, cJ9_min_7cf53, 2, (some .int), 0, 0, by decide, by decide, t_1 16 rfl rfl, hd_J9_min_7cf53, Or.inr (Or.inr (Or.inr (Or.inr (Or.inl ⟨rfl, rfl, rfl, rfl, rfl, t_3 78 rfl rfl, t_3 79 rfl rfl, t_1 16 rfl rfl, t_3 80 rfl rfl⟩))))⟩, nil_all⟩⟩), fun ix ci j h => lk_all (P := fun ix q => FldOK yX7_bestParted.cls ix q.1 q.2) (List.forall_mem_cons.mpr ⟨⟨_, rfl, by decide, t_1 128 rfl rfl⟩, nil_all⟩) ix (ci, j) h, lk_all (nil_all), lk_all (nil_all), lk_all (nil_all)⟩
theorem hd_X7_bestParted : CallHd yX7_bestParted 1 := ⟨by decide +kernel, by decide +kernel, by decide +kernel⟩
theorem sc_X7_bestParted (l : Launch) (hl : l.stackTraces = false) : SCon l yX7_bestParted cX7_bestParted 6 (some .int) 3 40 0 Γ_X7_bestParted := scon_of mX7_bestParted cls_ok hl (by decide +kernel) rfl rfl (ok_X7_bestParted l hl) rfl rfl b_X7_bestParted
def F_X7_checkCell (a0 : Int32) (a1 : Int32) (μ : Mem) : Out := cI (F_X4_hasCell 2 a0 a1 μ) (fun v5 μ2 => if v5 = 0 then (rX "java/lang/IndexOutOfBoundsException" μ2) else (rV μ2))
def Γ_X7_checkCell : Gam := fun as μ r μ' => ∃ (a0 : Int32) (a1 : Int32), as = [.ref 0, .int a0, .int a1] ∧ F_X7_checkCell a0 a1 μ = some (r, μ')
def mX7_checkCell : MI := (cX7_checkCell, [(342, (1, 2, 0, 2, Γ_X4_hasCell))], [(19, 5, 1)], [], [], [(12, "java/lang/IndexOutOfBoundsException")], [], (29, none), none)
set_option maxHeartbeats 4000000 in
theorem b_X7_checkCell : ∀ as μ r μ', Γ_X7_checkCell as μ r μ' → (elvL as).length ≤ 3 ∧ G mX7_checkCell (Qe r μ') 0 (elv as 3) [] μ (rc r 1) := by
  intro as μ r μ' h
  obtain ⟨a0, a1, rfl, h⟩ := h
  refine ⟨Nat.le_of_ble_eq_true rfl, ?_⟩
  show G mX7_checkCell (Qe r μ') 0 [some (.ref 0), some (.int a0), some (.int a1)] [] μ (rc r 1)
  unfold F_X7_checkCell at h
  have hb9 : rc r 1 ≤ rc r 1 := Nat.le_refl _
  refine e_aload_n dX7_checkCell_0 rfl ?_
  refine e_get (ci := 5) (j := 1) (t := 2) (v := .ref 2) dX7_checkCell_1 rfl (by decide) rfl rfl rfl ?_
  refine e_iload_n dX7_checkCell_4 rfl ?_
  refine e_iload_n dX7_checkCell_5 rfl ?_
  refine cI_go h (fun E3 hc1 hr4 => e_VX [.int a0, .int a1] [] dX7_checkCell_6 rfl rfl rfl rfl ⟨Nat.le_of_ble_eq_true rfl, rfl⟩ (Nat.le_of_ble_eq_true rfl) (hbr hr4 hb9 (Nat.le_of_ble_eq_true rfl)) ⟨2, a0, a1, rfl, (by decide), hc1⟩ rfl ⟨hr4.symm, rfl⟩) (fun v5 μ2 hc1 h => ?_)
  refine e_VI [.int a0, .int a1] [] dX7_checkCell_6 rfl rfl rfl rfl ⟨Nat.le_of_ble_eq_true rfl, rfl⟩ (Nat.le_of_ble_eq_true rfl) ⟨2, a0, a1, rfl, (by decide), hc1⟩ ?_
  refine e_if_ne (tgt := 23) dX7_checkCell_9 rfl (fun hc6 => ?_) (fun hc6 => ?_)
  · rw [if_neg hc6] at h
    exact e_vret dX7_checkCell_23 rfl (ret_eq h)
  · rw [if_pos hc6] at h
    exact e_throw dX7_checkCell_12 rfl (Nat.le_of_ble_eq_true rfl) (hbx h hb9 (Nat.le_of_ble_eq_true rfl)) rfl (ret_eq h)
set_option maxRecDepth 20000 in
theorem ok_X7_checkCell (l : Launch) (hl : l.stackTraces = false) : MOK l yX7_checkCell.cls 6 90 mX7_checkCell := ⟨lk_all (List.forall_mem_cons.mpr ⟨⟨yX4_hasCell, cX4_hasCell, 3, (some .boolean), 1, 0, by decide, by decide, t_1 3 rfl rfl, hd_X4_hasCell, Or.inr (Or.inl ⟨rfl, sc_X4_hasCell l hl, t_2 127 rfl rfl, t_2 124 rfl rfl, t_2 125 rfl rfl, _, rfl, t_2 126 rfl rfl⟩)⟩, nil_all⟩), fun ix ci j h => lk_all (P := fun ix q => FldOK yX7_checkCell.cls ix q.1 q.2) (List.forall_mem_cons.mpr ⟨⟨_, rfl, by decide, t_1 123 rfl rfl⟩, nil_all⟩) ix (ci, j) h, lk_all (nil_all), lk_all (nil_all), lk_all (List.forall_mem_cons.mpr ⟨⟨rfl, List.mem_of_getElem? (i := 2) rfl, by decide, by decide, 184, 345, 188, "no such row or column", List.mem_of_getElem? (i := 3) rfl, t_2 86 rfl rfl, t_1 17 rfl rfl, th_IndexOutOfBoundsException_188.1, th_IndexOutOfBoundsException_188.2.1, List.forall_mem_cons.mpr ⟨rfl, List.forall_mem_cons.mpr ⟨rfl, th_IndexOutOfBoundsException_188.2.2⟩⟩, dX7_checkCell_12, dX7_checkCell_15, Or.inr ⟨dX7_checkCell_16, dX7_checkCell_19, dX7_checkCell_22⟩⟩, nil_all⟩)⟩
theorem hd_X7_checkCell : CallHd yX7_checkCell 2 := ⟨by decide +kernel, by decide +kernel, by decide +kernel⟩
theorem sc_X7_checkCell (l : Launch) (hl : l.stackTraces = false) : SCon l yX7_checkCell cX7_checkCell 3 none 6 90 1 Γ_X7_checkCell := scon_of mX7_checkCell cls_ok hl (by decide +kernel) rfl rfl (ok_X7_checkCell l hl) rfl rfl b_X7_checkCell
def F_X7_cell (a0 : Int32) (a1 : Int32) (a2 : Int32) (μ : Mem) : Out := cV (F_X7_checkCell a0 a1 μ) (fun μ2 => cJ (F_X0_bit a0 a1 μ2) (fun v9 μ6 => if a2 = (0 : Int32) then (if (lg_cmp ((μ6.2.1 2 2) &&& v9) (0 : Int64)) = 0 then (cI (F_X7_oneIf (0 : Int32) μ6) (fun v16 μ13 => rI v16 μ13)) else (cI (F_X7_oneIf (1 : Int32) μ6) (fun v21 μ18 => rI v21 μ18))) else if a2 = (1 : Int32) then (if (lg_cmp ((μ6.2.1 2 3) &&& v9) (0 : Int64)) = 0 then (cI (F_X7_oneIf (0 : Int32) μ6) (fun v28 μ25 => rI v28 μ25)) else (cI (F_X7_oneIf (1 : Int32) μ6) (fun v33 μ30 => rI v33 μ30))) else if a2 = (2 : Int32) then (cI (F_X0_pieceNumber (μ6.2.1 2 2) v9 μ6) (fun v39 μ36 => rI v39 μ36)) else if a2 = (3 : Int32) then (cJ (F_X0_hull (μ6.2.1 2 2) μ6) (fun v45 μ42 => if (lg_cmp (v45 &&& v9) (0 : Int64)) = 0 then (cI (F_X7_oneIf (0 : Int32) μ42) (fun v51 μ48 => rI v51 μ48)) else (cI (F_X7_oneIf (1 : Int32) μ42) (fun v56 μ53 => rI v56 μ53)))) else if a2 = (4 : Int32) then (cJ (F_X2_sureCells 2 μ6) (fun v62 μ59 => if (lg_cmp (v62 &&& v9) (0 : Int64)) = 0 then (cI (F_X7_oneIf (0 : Int32) μ59) (fun v68 μ65 => rI v68 μ65)) else (cI (F_X7_oneIf (1 : Int32) μ59) (fun v73 μ70 => rI v73 μ70)))) else (rX "java/lang/IllegalArgumentException" μ6)))
def Γ_X7_cell : Gam := fun as μ r μ' => ∃ (a0 : Int32) (a1 : Int32) (a2 : Int32), as = [.ref 0, .int a0, .int a1, .int a2] ∧ F_X7_cell a0 a1 a2 μ = some (r, μ')
def mX7_cell : MI := (cX7_cell, [(129, (0, 1, 0, 0, Γ_X0_hull)), (165, (1, 2, 1, 5, Γ_X7_checkCell)), (169, (0, 2, 0, 0, Γ_X0_bit)), (173, (0, 1, 0, 0, Γ_X7_oneIf)), (177, (0, 2, 0, 0, Γ_X0_pieceNumber)), (180, (1, 1, 0, 0, Γ_X2_sureCells))], [(19, 5, 1), (43, 5, 5), (100, 2, 3), (119, 2, 2)], [], [], [(164, "java/lang/IllegalArgumentException")], [], (29, none), (some .int))
set_option maxHeartbeats 4000000 in
theorem b_X7_cell : ∀ as μ r μ', Γ_X7_cell as μ r μ' → (elvL as).length ≤ 6 ∧ G mX7_cell (Qe r μ') 0 (elv as 6) [] μ (rc r 1) := by
  intro as μ r μ' h
  obtain ⟨a0, a1, a2, rfl, h⟩ := h
  refine ⟨Nat.le_of_ble_eq_true rfl, ?_⟩
  show G mX7_cell (Qe r μ') 0 [some (.ref 0), some (.int a0), some (.int a1), some (.int a2), none, none] [] μ (rc r 1)
  unfold F_X7_cell at h
  have hb9 : rc r 1 ≤ rc r 1 := Nat.le_refl _
  refine e_aload_n dX7_cell_0 rfl ?_
  refine e_iload_n dX7_cell_1 rfl ?_
  refine e_iload_n dX7_cell_2 rfl ?_
  refine cV_go h (fun E3 hc1 hr4 => e_VX [.int a0, .int a1] [] dX7_cell_3 rfl rfl rfl rfl ⟨Nat.le_of_ble_eq_true rfl, rfl⟩ (Nat.le_of_ble_eq_true rfl) (hbr hr4 hb9 (Nat.le_of_ble_eq_true rfl)) ⟨a0, a1, rfl, hc1⟩ rfl ⟨hr4.symm, rfl⟩) (fun μ2 hc1 h => ?_)
  refine e_VV [.int a0, .int a1] [] dX7_cell_3 rfl rfl rfl rfl ⟨Nat.le_of_ble_eq_true rfl, rfl⟩ (Nat.le_of_ble_eq_true rfl) ⟨a0, a1, rfl, hc1⟩ ?_
  refine e_iload_n dX7_cell_6 rfl ?_
  refine e_iload_n dX7_cell_7 rfl ?_
  refine cJ_go h (fun E7 hc5 hr8 => e_SX [.int a0, .int a1] [] dX7_cell_8 rfl (by decide) rfl rfl (Nat.le_of_ble_eq_true rfl) (hbr hr8 hb9 (Nat.le_of_ble_eq_true rfl)) ⟨a0, a1, rfl, hc5⟩ rfl ⟨hr8.symm, rfl⟩) (fun v9 μ6 hc5 h => ?_)
  refine e_SJ [.int a0, .int a1] [] dX7_cell_8 rfl (by decide) rfl rfl (Nat.le_of_ble_eq_true rfl) ⟨a0, a1, rfl, hc5⟩ ?_
  refine e_lstoreL [some (.ref 0), some (.int a0), some (.int a1), some (.int a2), some (.long v9), none] dX7_cell_11 (Nat.le_of_ble_eq_true rfl) rfl ?_
  refine e_iload_n dX7_cell_13 rfl ?_
  by_cases hc10 : a2 = (0 : Int32)
  · rw [if_pos hc10] at h
    refine e_tsL (0 : Int32) (tgt := 48) hc10 dX7_cell_14 (by decide) (by decide) rfl rfl ?_
    refine e_aload_n dX7_cell_48 rfl ?_
    refine e_get (ci := 5) (j := 1) (t := 2) (v := .ref 2) dX7_cell_49 rfl (by decide) rfl rfl rfl ?_
    refine e_get (ci := 2) (j := 2) (t := 1) (v := .long (μ6.2.1 2 2)) dX7_cell_52 rfl (by decide) rfl rfl rfl ?_
    refine e_lload dX7_cell_55 rfl ?_
    refine e_land dX7_cell_57 ?_
    refine e_lconst (v := (0 : Int64)) dX7_cell_58 rfl ?_
    refine e_lcmp dX7_cell_59 ?_
    refine e_if_eq (tgt := 67) dX7_cell_60 rfl (fun hc11 => ?_) (fun hc11 => ?_)
    · rw [if_pos hc11] at h
      refine e_iconst dX7_cell_67 ci_0 ?_
      refine cI_go h (fun E14 hc12 hr15 => e_SX [.int (0 : Int32)] [] dX7_cell_68 rfl (by decide) rfl rfl (Nat.le_of_ble_eq_true rfl) (hbr hr15 hb9 (Nat.le_of_ble_eq_true rfl)) ⟨(0 : Int32), rfl, hc12⟩ rfl ⟨hr15.symm, rfl⟩) (fun v16 μ13 hc12 h => ?_)
      refine e_SI [.int (0 : Int32)] [] dX7_cell_68 rfl (by decide) rfl rfl (Nat.le_of_ble_eq_true rfl) ⟨(0 : Int32), rfl, hc12⟩ ?_
      exact e_iret .int dX7_cell_71 rfl rfl (ret_eq h)
    · rw [if_neg hc11] at h
      refine e_iconst dX7_cell_63 ci_1 ?_
      refine e_goto (tgt := 68) dX7_cell_64 rfl ?_
      refine cI_go h (fun E19 hc17 hr20 => e_SX [.int (1 : Int32)] [] dX7_cell_68 rfl (by decide) rfl rfl (Nat.le_of_ble_eq_true rfl) (hbr hr20 hb9 (Nat.le_of_ble_eq_true rfl)) ⟨(1 : Int32), rfl, hc17⟩ rfl ⟨hr20.symm, rfl⟩) (fun v21 μ18 hc17 h => ?_)
      refine e_SI [.int (1 : Int32)] [] dX7_cell_68 rfl (by decide) rfl rfl (Nat.le_of_ble_eq_true rfl) ⟨(1 : Int32), rfl, hc17⟩ ?_
      exact e_iret .int dX7_cell_71 rfl rfl (ret_eq h)
  rw [if_neg hc10] at h
  by_cases hc22 : a2 = (1 : Int32)
  · rw [if_pos hc22] at h
    refine e_tsL (1 : Int32) (tgt := 72) hc22 dX7_cell_14 (by decide) (by decide) rfl rfl ?_
    refine e_aload_n dX7_cell_72 rfl ?_
    refine e_get (ci := 5) (j := 1) (t := 2) (v := .ref 2) dX7_cell_73 rfl (by decide) rfl rfl rfl ?_
    refine e_get (ci := 2) (j := 3) (t := 1) (v := .long (μ6.2.1 2 3)) dX7_cell_76 rfl (by decide) rfl rfl rfl ?_
    refine e_lload dX7_cell_79 rfl ?_
    refine e_land dX7_cell_81 ?_
    refine e_lconst (v := (0 : Int64)) dX7_cell_82 rfl ?_
    refine e_lcmp dX7_cell_83 ?_
    refine e_if_eq (tgt := 91) dX7_cell_84 rfl (fun hc23 => ?_) (fun hc23 => ?_)
    · rw [if_pos hc23] at h
      refine e_iconst dX7_cell_91 ci_0 ?_
      refine cI_go h (fun E26 hc24 hr27 => e_SX [.int (0 : Int32)] [] dX7_cell_92 rfl (by decide) rfl rfl (Nat.le_of_ble_eq_true rfl) (hbr hr27 hb9 (Nat.le_of_ble_eq_true rfl)) ⟨(0 : Int32), rfl, hc24⟩ rfl ⟨hr27.symm, rfl⟩) (fun v28 μ25 hc24 h => ?_)
      refine e_SI [.int (0 : Int32)] [] dX7_cell_92 rfl (by decide) rfl rfl (Nat.le_of_ble_eq_true rfl) ⟨(0 : Int32), rfl, hc24⟩ ?_
      exact e_iret .int dX7_cell_95 rfl rfl (ret_eq h)
    · rw [if_neg hc23] at h
      refine e_iconst dX7_cell_87 ci_1 ?_
      refine e_goto (tgt := 92) dX7_cell_88 rfl ?_
      refine cI_go h (fun E31 hc29 hr32 => e_SX [.int (1 : Int32)] [] dX7_cell_92 rfl (by decide) rfl rfl (Nat.le_of_ble_eq_true rfl) (hbr hr32 hb9 (Nat.le_of_ble_eq_true rfl)) ⟨(1 : Int32), rfl, hc29⟩ rfl ⟨hr32.symm, rfl⟩) (fun v33 μ30 hc29 h => ?_)
      refine e_SI [.int (1 : Int32)] [] dX7_cell_92 rfl (by decide) rfl rfl (Nat.le_of_ble_eq_true rfl) ⟨(1 : Int32), rfl, hc29⟩ ?_
      exact e_iret .int dX7_cell_95 rfl rfl (ret_eq h)
  rw [if_neg hc22] at h
  by_cases hc34 : a2 = (2 : Int32)
  · rw [if_pos hc34] at h
    refine e_tsL (2 : Int32) (tgt := 96) hc34 dX7_cell_14 (by decide) (by decide) rfl rfl ?_
    refine e_aload_n dX7_cell_96 rfl ?_
    refine e_get (ci := 5) (j := 1) (t := 2) (v := .ref 2) dX7_cell_97 rfl (by decide) rfl rfl rfl ?_
    refine e_get (ci := 2) (j := 2) (t := 1) (v := .long (μ6.2.1 2 2)) dX7_cell_100 rfl (by decide) rfl rfl rfl ?_
    refine e_lload dX7_cell_103 rfl ?_
    refine cI_go h (fun E37 hc35 hr38 => e_SX [.long (μ6.2.1 2 2), .long v9] [] dX7_cell_105 rfl (by decide) rfl rfl (Nat.le_of_ble_eq_true rfl) (hbr hr38 hb9 (Nat.le_of_ble_eq_true rfl)) ⟨μ6.2.1 2 2, v9, rfl, hc35⟩ rfl ⟨hr38.symm, rfl⟩) (fun v39 μ36 hc35 h => ?_)
    refine e_SI [.long (μ6.2.1 2 2), .long v9] [] dX7_cell_105 rfl (by decide) rfl rfl (Nat.le_of_ble_eq_true rfl) ⟨μ6.2.1 2 2, v9, rfl, hc35⟩ ?_
    exact e_iret .int dX7_cell_108 rfl rfl (ret_eq h)
  rw [if_neg hc34] at h
  by_cases hc40 : a2 = (3 : Int32)
  · rw [if_pos hc40] at h
    refine e_tsL (3 : Int32) (tgt := 109) hc40 dX7_cell_14 (by decide) (by decide) rfl rfl ?_
    refine e_aload_n dX7_cell_109 rfl ?_
    refine e_get (ci := 5) (j := 1) (t := 2) (v := .ref 2) dX7_cell_110 rfl (by decide) rfl rfl rfl ?_
    refine e_get (ci := 2) (j := 2) (t := 1) (v := .long (μ6.2.1 2 2)) dX7_cell_113 rfl (by decide) rfl rfl rfl ?_
    refine cJ_go h (fun E43 hc41 hr44 => e_SX [.long (μ6.2.1 2 2)] [] dX7_cell_116 rfl (by decide) rfl rfl (Nat.le_of_ble_eq_true rfl) (hbr hr44 hb9 (Nat.le_of_ble_eq_true rfl)) ⟨μ6.2.1 2 2, rfl, hc41⟩ rfl ⟨hr44.symm, rfl⟩) (fun v45 μ42 hc41 h => ?_)
    refine e_SJ [.long (μ6.2.1 2 2)] [] dX7_cell_116 rfl (by decide) rfl rfl (Nat.le_of_ble_eq_true rfl) ⟨μ6.2.1 2 2, rfl, hc41⟩ ?_
    refine e_lload dX7_cell_119 rfl ?_
    refine e_land dX7_cell_121 ?_
    refine e_lconst (v := (0 : Int64)) dX7_cell_122 rfl ?_
    refine e_lcmp dX7_cell_123 ?_
    refine e_if_eq (tgt := 131) dX7_cell_124 rfl (fun hc46 => ?_) (fun hc46 => ?_)
    · rw [if_pos hc46] at h
      refine e_iconst dX7_cell_131 ci_0 ?_
      refine cI_go h (fun E49 hc47 hr50 => e_SX [.int (0 : Int32)] [] dX7_cell_132 rfl (by decide) rfl rfl (Nat.le_of_ble_eq_true rfl) (hbr hr50 hb9 (Nat.le_of_ble_eq_true rfl)) ⟨(0 : Int32), rfl, hc47⟩ rfl ⟨hr50.symm, rfl⟩) (fun v51 μ48 hc47 h => ?_)
      refine e_SI [.int (0 : Int32)] [] dX7_cell_132 rfl (by decide) rfl rfl (Nat.le_of_ble_eq_true rfl) ⟨(0 : Int32), rfl, hc47⟩ ?_
      exact e_iret .int dX7_cell_135 rfl rfl (ret_eq h)
    · rw [if_neg hc46] at h
      refine e_iconst dX7_cell_127 ci_1 ?_
      refine e_goto (tgt := 132) dX7_cell_128 rfl ?_
      refine cI_go h (fun E54 hc52 hr55 => e_SX [.int (1 : Int32)] [] dX7_cell_132 rfl (by decide) rfl rfl (Nat.le_of_ble_eq_true rfl) (hbr hr55 hb9 (Nat.le_of_ble_eq_true rfl)) ⟨(1 : Int32), rfl, hc52⟩ rfl ⟨hr55.symm, rfl⟩) (fun v56 μ53 hc52 h => ?_)
      refine e_SI [.int (1 : Int32)] [] dX7_cell_132 rfl (by decide) rfl rfl (Nat.le_of_ble_eq_true rfl) ⟨(1 : Int32), rfl, hc52⟩ ?_
      exact e_iret .int dX7_cell_135 rfl rfl (ret_eq h)
  rw [if_neg hc40] at h
  by_cases hc57 : a2 = (4 : Int32)
  · rw [if_pos hc57] at h
    refine e_tsL (4 : Int32) (tgt := 136) hc57 dX7_cell_14 (by decide) (by decide) rfl rfl ?_
    refine e_aload_n dX7_cell_136 rfl ?_
    refine e_get (ci := 5) (j := 5) (t := 2) (v := .ref 6) dX7_cell_137 rfl (by decide) rfl rfl rfl ?_
    refine e_aload_n dX7_cell_140 rfl ?_
    refine e_get (ci := 5) (j := 1) (t := 2) (v := .ref 2) dX7_cell_141 rfl (by decide) rfl rfl rfl ?_
    refine cJ_go h (fun E60 hc58 hr61 => e_VX [.ref 2] [] dX7_cell_144 rfl rfl rfl rfl ⟨Nat.le_of_ble_eq_true rfl, rfl⟩ (Nat.le_of_ble_eq_true rfl) (hbr hr61 hb9 (Nat.le_of_ble_eq_true rfl)) ⟨2, rfl, (by decide), hc58⟩ rfl ⟨hr61.symm, rfl⟩) (fun v62 μ59 hc58 h => ?_)
    refine e_VJ [.ref 2] [] dX7_cell_144 rfl rfl rfl rfl ⟨Nat.le_of_ble_eq_true rfl, rfl⟩ (Nat.le_of_ble_eq_true rfl) ⟨2, rfl, (by decide), hc58⟩ ?_
    refine e_lload dX7_cell_147 rfl ?_
    refine e_land dX7_cell_149 ?_
    refine e_lconst (v := (0 : Int64)) dX7_cell_150 rfl ?_
    refine e_lcmp dX7_cell_151 ?_
    refine e_if_eq (tgt := 159) dX7_cell_152 rfl (fun hc63 => ?_) (fun hc63 => ?_)
    · rw [if_pos hc63] at h
      refine e_iconst dX7_cell_159 ci_0 ?_
      refine cI_go h (fun E66 hc64 hr67 => e_SX [.int (0 : Int32)] [] dX7_cell_160 rfl (by decide) rfl rfl (Nat.le_of_ble_eq_true rfl) (hbr hr67 hb9 (Nat.le_of_ble_eq_true rfl)) ⟨(0 : Int32), rfl, hc64⟩ rfl ⟨hr67.symm, rfl⟩) (fun v68 μ65 hc64 h => ?_)
      refine e_SI [.int (0 : Int32)] [] dX7_cell_160 rfl (by decide) rfl rfl (Nat.le_of_ble_eq_true rfl) ⟨(0 : Int32), rfl, hc64⟩ ?_
      exact e_iret .int dX7_cell_163 rfl rfl (ret_eq h)
    · rw [if_neg hc63] at h
      refine e_iconst dX7_cell_155 ci_1 ?_
      refine e_goto (tgt := 160) dX7_cell_156 rfl ?_
      refine cI_go h (fun E71 hc69 hr72 => e_SX [.int (1 : Int32)] [] dX7_cell_160 rfl (by decide) rfl rfl (Nat.le_of_ble_eq_true rfl) (hbr hr72 hb9 (Nat.le_of_ble_eq_true rfl)) ⟨(1 : Int32), rfl, hc69⟩ rfl ⟨hr72.symm, rfl⟩) (fun v73 μ70 hc69 h => ?_)
      refine e_SI [.int (1 : Int32)] [] dX7_cell_160 rfl (by decide) rfl rfl (Nat.le_of_ble_eq_true rfl) ⟨(1 : Int32), rfl, hc69⟩ ?_
      exact e_iret .int dX7_cell_163 rfl rfl (ret_eq h)
  rw [if_neg hc57] at h
  refine e_tsOut (tgt := 164) dX7_cell_14 (ts_out_0_4 hc10 hc22 hc34 hc40 hc57) rfl ?_
  exact e_throw dX7_cell_164 rfl (Nat.le_of_ble_eq_true rfl) (hbx h hb9 (Nat.le_of_ble_eq_true rfl)) rfl (ret_eq h)
set_option maxRecDepth 20000 in
theorem ok_X7_cell (l : Launch) (hl : l.stackTraces = false) : MOK l yX7_cell.cls 7 120 mX7_cell := ⟨lk_all (List.forall_mem_cons.mpr ⟨⟨yX0_hull, cX0_hull, 7, (some .long), 3, 48, by decide, by decide, t_1 9 rfl rfl, hd_X0_hull, Or.inl ⟨rfl, sc_X0_hull l hl, t_1 220 rfl rfl, t_1 218 rfl rfl, t_1 219 rfl rfl⟩⟩, List.forall_mem_cons.mpr ⟨⟨yX7_checkCell, cX7_checkCell, 3, none, 6, 90, by decide, by decide, t_1 1 rfl rfl, hd_X7_checkCell, Or.inr (Or.inl ⟨rfl, sc_X7_checkCell l hl, t_2 123 rfl rfl, t_2 120 rfl rfl, t_2 122 rfl rfl, _, rfl, t_p 3 rfl⟩)⟩, List.forall_mem_cons.mpr ⟨⟨yX0_bit, cX0_bit, 2, (some .long), 1, 0, by decide, by decide, t_1 9 rfl rfl, hd_X0_bit, Or.inl ⟨rfl, sc_X0_bit l hl, t_2 131 rfl rfl, t_2 129 rfl rfl, t_2 130 rfl rfl⟩⟩, List.forall_mem_cons.mpr ⟨⟨yX7_oneIf, cX7_oneIf, 1, (some .int), 1, 0, by decide, by decide, t_1 1 rfl rfl, hd_X7_oneIf, Or.inl ⟨rfl, sc_X7_oneIf l hl, t_1 206 rfl rfl, t_2 132 rfl rfl, t_1 205 rfl rfl⟩⟩, List.forall_mem_cons.mpr ⟨⟨yX0_pieceNumber, cX0_pieceNumber, 8, (some .int), 2, 26, by decide, by decide, t_1 9 rfl rfl, hd_X0_pieceNumber, Or.inl ⟨rfl, sc_X0_pieceNumber l hl, t_2 135 rfl rfl, t_2 133 rfl rfl, t_2 134 rfl rfl⟩⟩, List.forall_mem_cons.mpr ⟨⟨yX2_sureCells, cX2_sureCells, 7, (some .long), 5, 94, by decide, by decide, t_1 6 rfl rfl, hd_X2_sureCells, Or.inr (Or.inl ⟨rfl, sc_X2_sureCells l hl, t_2 139 rfl rfl, t_2 136 rfl rfl, t_2 137 rfl rfl, _, rfl, t_2 138 rfl rfl⟩)⟩, nil_all⟩⟩⟩⟩⟩⟩), fun ix ci j h => lk_all (P := fun ix q => FldOK yX7_cell.cls ix q.1 q.2) (List.forall_mem_cons.mpr ⟨⟨_, rfl, by decide, t_1 123 rfl rfl⟩, List.forall_mem_cons.mpr ⟨⟨_, rfl, by decide, t_1 127 rfl rfl⟩, List.forall_mem_cons.mpr ⟨⟨_, rfl, by decide, t_1 57 rfl rfl⟩, List.forall_mem_cons.mpr ⟨⟨_, rfl, by decide, t_1 54 rfl rfl⟩, nil_all⟩⟩⟩⟩) ix (ci, j) h, lk_all (nil_all), lk_all (nil_all), lk_all (List.forall_mem_cons.mpr ⟨⟨rfl, List.mem_of_getElem? (i := 0) rfl, by decide, by decide, 53, 163, 57, "what is not 0 to 4", List.mem_of_getElem? (i := 2) rfl, t_2 6 rfl rfl, t_1 14 rfl rfl, th_IllegalArgumentException_57.1, th_IllegalArgumentException_57.2.1, List.forall_mem_cons.mpr ⟨rfl, List.forall_mem_cons.mpr ⟨rfl, th_IllegalArgumentException_57.2.2⟩⟩, dX7_cell_164, dX7_cell_167, Or.inl ⟨dX7_cell_168, dX7_cell_170, dX7_cell_173⟩⟩, nil_all⟩)⟩
theorem hd_X7_cell : CallHd yX7_cell 3 := ⟨by decide +kernel, by decide +kernel, by decide +kernel⟩
theorem sc_X7_cell (l : Launch) (hl : l.stackTraces = false) : SCon l yX7_cell cX7_cell 6 (some .int) 7 120 1 Γ_X7_cell := scon_of mX7_cell cls_ok hl (by decide +kernel) rfl rfl (ok_X7_cell l hl) rfl rfl b_X7_cell
def F_X7_checkLine (a0 : Int32) (μ : Mem) : Out := cI (F_X4_hasLine 2 a0 μ) (fun v5 μ2 => if v5 = 0 then (rX "java/lang/IndexOutOfBoundsException" μ2) else (rV μ2))
def Γ_X7_checkLine : Gam := fun as μ r μ' => ∃ (a0 : Int32), as = [.ref 0, .int a0] ∧ F_X7_checkLine a0 μ = some (r, μ')
def mX7_checkLine : MI := (cX7_checkLine, [(337, (1, 1, 0, 2, Γ_X4_hasLine))], [(19, 5, 1)], [], [], [(11, "java/lang/IndexOutOfBoundsException")], [], (29, none), none)
set_option maxHeartbeats 4000000 in
theorem b_X7_checkLine : ∀ as μ r μ', Γ_X7_checkLine as μ r μ' → (elvL as).length ≤ 2 ∧ G mX7_checkLine (Qe r μ') 0 (elv as 2) [] μ (rc r 1) := by
  intro as μ r μ' h
  obtain ⟨a0, rfl, h⟩ := h
  refine ⟨Nat.le_of_ble_eq_true rfl, ?_⟩
  show G mX7_checkLine (Qe r μ') 0 [some (.ref 0), some (.int a0)] [] μ (rc r 1)
  unfold F_X7_checkLine at h
  have hb9 : rc r 1 ≤ rc r 1 := Nat.le_refl _
  refine e_aload_n dX7_checkLine_0 rfl ?_
  refine e_get (ci := 5) (j := 1) (t := 2) (v := .ref 2) dX7_checkLine_1 rfl (by decide) rfl rfl rfl ?_
  refine e_iload_n dX7_checkLine_4 rfl ?_
  refine cI_go h (fun E3 hc1 hr4 => e_VX [.int a0] [] dX7_checkLine_5 rfl rfl rfl rfl ⟨Nat.le_of_ble_eq_true rfl, rfl⟩ (Nat.le_of_ble_eq_true rfl) (hbr hr4 hb9 (Nat.le_of_ble_eq_true rfl)) ⟨2, a0, rfl, (by decide), hc1⟩ rfl ⟨hr4.symm, rfl⟩) (fun v5 μ2 hc1 h => ?_)
  refine e_VI [.int a0] [] dX7_checkLine_5 rfl rfl rfl rfl ⟨Nat.le_of_ble_eq_true rfl, rfl⟩ (Nat.le_of_ble_eq_true rfl) ⟨2, a0, rfl, (by decide), hc1⟩ ?_
  refine e_if_ne (tgt := 22) dX7_checkLine_8 rfl (fun hc6 => ?_) (fun hc6 => ?_)
  · rw [if_neg hc6] at h
    exact e_vret dX7_checkLine_22 rfl (ret_eq h)
  · rw [if_pos hc6] at h
    exact e_throw dX7_checkLine_11 rfl (Nat.le_of_ble_eq_true rfl) (hbx h hb9 (Nat.le_of_ble_eq_true rfl)) rfl (ret_eq h)
set_option maxRecDepth 20000 in
theorem ok_X7_checkLine (l : Launch) (hl : l.stackTraces = false) : MOK l yX7_checkLine.cls 6 90 mX7_checkLine := ⟨lk_all (List.forall_mem_cons.mpr ⟨⟨yX4_hasLine, cX4_hasLine, 2, (some .boolean), 1, 0, by decide, by decide, t_1 3 rfl rfl, hd_X4_hasLine, Or.inr (Or.inl ⟨rfl, sc_X4_hasLine l hl, t_2 85 rfl rfl, t_2 82 rfl rfl, t_2 83 rfl rfl, _, rfl, t_2 84 rfl rfl⟩)⟩, nil_all⟩), fun ix ci j h => lk_all (P := fun ix q => FldOK yX7_checkLine.cls ix q.1 q.2) (List.forall_mem_cons.mpr ⟨⟨_, rfl, by decide, t_1 123 rfl rfl⟩, nil_all⟩) ix (ci, j) h, lk_all (nil_all), lk_all (nil_all), lk_all (List.forall_mem_cons.mpr ⟨⟨rfl, List.mem_of_getElem? (i := 2) rfl, by decide, by decide, 184, 340, 188, "no such line", List.mem_of_getElem? (i := 1) rfl, t_2 86 rfl rfl, t_1 17 rfl rfl, th_IndexOutOfBoundsException_188.1, th_IndexOutOfBoundsException_188.2.1, List.forall_mem_cons.mpr ⟨rfl, List.forall_mem_cons.mpr ⟨rfl, th_IndexOutOfBoundsException_188.2.2⟩⟩, dX7_checkLine_11, dX7_checkLine_14, Or.inr ⟨dX7_checkLine_15, dX7_checkLine_18, dX7_checkLine_21⟩⟩, nil_all⟩)⟩
theorem hd_X7_checkLine : CallHd yX7_checkLine 1 := ⟨by decide +kernel, by decide +kernel, by decide +kernel⟩
theorem sc_X7_checkLine (l : Launch) (hl : l.stackTraces = false) : SCon l yX7_checkLine cX7_checkLine 2 none 6 90 1 Γ_X7_checkLine := scon_of mX7_checkLine cls_ok hl (by decide +kernel) rfl rfl (ok_X7_checkLine l hl) rfl rfl b_X7_checkLine
def F_X7_checkSlot (a0 : Int32) (μ : Mem) : Out := if a0 = 0 then (rV μ) else (if a0 = (1 : Int32) then (rV μ) else (rX "java/lang/IndexOutOfBoundsException" μ))
def Γ_X7_checkSlot : Gam := fun as μ r μ' => ∃ (a0 : Int32), as = [.ref 0, .int a0] ∧ F_X7_checkSlot a0 μ = some (r, μ')
def mX7_checkSlot : MI := (cX7_checkSlot, [], [], [], [], [(9, "java/lang/IndexOutOfBoundsException")], [], (29, none), none)
set_option maxHeartbeats 4000000 in
theorem b_X7_checkSlot : ∀ as μ r μ', Γ_X7_checkSlot as μ r μ' → (elvL as).length ≤ 2 ∧ G mX7_checkSlot (Qe r μ') 0 (elv as 2) [] μ (rc r 1) := by
  intro as μ r μ' h
  obtain ⟨a0, rfl, h⟩ := h
  refine ⟨Nat.le_of_ble_eq_true rfl, ?_⟩
  show G mX7_checkSlot (Qe r μ') 0 [some (.ref 0), some (.int a0)] [] μ (rc r 1)
  unfold F_X7_checkSlot at h
  have hb9 : rc r 1 ≤ rc r 1 := Nat.le_refl _
  refine e_iload_n dX7_checkSlot_0 rfl ?_
  refine e_if_eq (tgt := 20) dX7_checkSlot_1 rfl (fun hc1 => ?_) (fun hc1 => ?_)
  · rw [if_pos hc1] at h
    exact e_vret dX7_checkSlot_20 rfl (ret_eq h)
  · rw [if_neg hc1] at h
    refine e_iload_n dX7_checkSlot_4 rfl ?_
    refine e_iconst dX7_checkSlot_5 ci_1 ?_
    refine e_ic_eq (tgt := 20) dX7_checkSlot_6 rfl (fun hc2 => ?_) (fun hc2 => ?_)
    · rw [if_pos hc2] at h
      exact e_vret dX7_checkSlot_20 rfl (ret_eq h)
    · rw [if_neg hc2] at h
      exact e_throw dX7_checkSlot_9 rfl (Nat.le_of_ble_eq_true rfl) (hbx h hb9 (Nat.le_of_ble_eq_true rfl)) rfl (ret_eq h)
set_option maxRecDepth 20000 in
theorem ok_X7_checkSlot (l : Launch) (hl : l.stackTraces = false) : MOK l yX7_checkSlot.cls 6 90 mX7_checkSlot := ⟨lk_all (nil_all), fun ix ci j h => lk_all (P := fun ix q => FldOK yX7_checkSlot.cls ix q.1 q.2) (nil_all) ix (ci, j) h, lk_all (nil_all), lk_all (nil_all), lk_all (List.forall_mem_cons.mpr ⟨⟨rfl, List.mem_of_getElem? (i := 2) rfl, by decide, by decide, 184, 347, 188, "no such save slot", List.mem_of_getElem? (i := 13) rfl, t_2 86 rfl rfl, t_1 17 rfl rfl, th_IndexOutOfBoundsException_188.1, th_IndexOutOfBoundsException_188.2.1, List.forall_mem_cons.mpr ⟨rfl, List.forall_mem_cons.mpr ⟨rfl, th_IndexOutOfBoundsException_188.2.2⟩⟩, dX7_checkSlot_9, dX7_checkSlot_12, Or.inr ⟨dX7_checkSlot_13, dX7_checkSlot_16, dX7_checkSlot_19⟩⟩, nil_all⟩)⟩
theorem hd_X7_checkSlot : CallHd yX7_checkSlot 1 := ⟨by decide +kernel, by decide +kernel, by decide +kernel⟩
theorem sc_X7_checkSlot (l : Launch) (hl : l.stackTraces = false) : SCon l yX7_checkSlot cX7_checkSlot 2 none 6 90 1 Γ_X7_checkSlot := scon_of mX7_checkSlot cls_ok hl (by decide +kernel) rfl rfl (ok_X7_checkSlot l hl) rfl rfl b_X7_checkSlot
def f_X7_countFitting_15 : Nat → Int32 → Int32 → Mem → Out
  | 0, _, _, _ => none
  | n + 1, x1, x2, μ => if x2 = 0 then (rI x1 μ) else (if (100 : Int32) ≤ x1 then (rI x1 μ) else (lt (x1 + (1 : Int32)) (fun v8 => cI (F_X2_advance 2 μ) (fun v13 μ10 => f_X7_countFitting_15 n v8 v13 μ10))))
def F_X7_countFitting (μ : Mem) : Out := cI (F_X2_findOutermost 2 (0 : Int32) μ) (fun v5 μ2 => f_X7_countFitting_15 BIG (0 : Int32) v5 μ2)
def Γ_X7_countFitting : Gam := fun as μ r μ' => as = [.ref 0] ∧ F_X7_countFitting μ = some (r, μ')
def mX7_countFitting : MI := (cX7_countFitting, [(256, (1, 2, 0, 0, Γ_X2_findOutermost)), (349, (1, 1, 0, 0, Γ_X2_advance))], [(19, 5, 1), (43, 5, 5)], [], [], [], [], (29, none), (some .int))
set_option maxHeartbeats 4000000 in
theorem g_X7_countFitting_15 {r : Res} {μ' : Mem} : ∀ n : Nat, ∀ (x1 : Int32) (x2 : Int32), ∀ (μ : Mem) (b : Nat), rc r 0 ≤ b → f_X7_countFitting_15 n x1 x2 μ = some (r, μ') → G mX7_countFitting (Qe r μ') 15 [some (.ref 0), some (.int x1), some (.int x2)] [] μ b := by
  intro n
  induction n with
  | zero => intro x1 x2 μ b hb9 h; exact nomatch (show (none : Out) = some _ from h)
  | succ n ih =>
    intro x1 x2 μ b hb9 h
    rw [f_X7_countFitting_15.eq_2] at h
    refine e_iload_n dX7_countFitting_15 rfl ?_
    refine e_if_eq (tgt := 43) dX7_countFitting_16 rfl (fun hc6 => ?_) (fun hc6 => ?_)
    · rw [if_pos hc6] at h
      refine e_iload_n dX7_countFitting_43 rfl ?_
      exact e_iret .int dX7_countFitting_44 rfl rfl (ret_eq h)
    · rw [if_neg hc6] at h
      refine e_iload_n dX7_countFitting_19 rfl ?_
      refine e_bipush dX7_countFitting_20 cb_100 ?_
      refine e_ic_ge (tgt := 43) dX7_countFitting_22 rfl (fun hc7 => ?_) (fun hc7 => ?_)
      · rw [if_pos hc7] at h
        refine e_iload_n dX7_countFitting_43 rfl ?_
        exact e_iret .int dX7_countFitting_44 rfl rfl (ret_eq h)
      · rw [if_neg hc7] at h
        refine e_iincN 1 (1 : Int32) dX7_countFitting_25 rfl ci_1 h (fun y9 => [some (.ref 0), some (.int y9), some (.int x2)]) (fun _ => rfl) (fun v8 ev8 h => ?_)
        refine e_aload_n dX7_countFitting_28 rfl ?_
        refine e_get (ci := 5) (j := 5) (t := 2) (v := .ref 6) dX7_countFitting_29 rfl (by decide) rfl rfl rfl ?_
        refine e_aload_n dX7_countFitting_32 rfl ?_
        refine e_get (ci := 5) (j := 1) (t := 2) (v := .ref 2) dX7_countFitting_33 rfl (by decide) rfl rfl rfl ?_
        refine cI_go h (fun E11 hc9 hr12 => e_VX [.ref 2] [] dX7_countFitting_36 rfl rfl rfl rfl ⟨Nat.le_of_ble_eq_true rfl, rfl⟩ (Nat.le_of_ble_eq_true rfl) (hbr hr12 hb9 (Nat.le_of_ble_eq_true rfl)) ⟨2, rfl, (by decide), hc9⟩ rfl ⟨hr12.symm, rfl⟩) (fun v13 μ10 hc9 h => ?_)
        refine e_VI [.ref 2] [] dX7_countFitting_36 rfl rfl rfl rfl ⟨Nat.le_of_ble_eq_true rfl, rfl⟩ (Nat.le_of_ble_eq_true rfl) ⟨2, rfl, (by decide), hc9⟩ ?_
        refine e_istore_nL [some (.ref 0), some (.int v8), some (.int v13)] dX7_countFitting_39 (Nat.le_of_ble_eq_true rfl) rfl ?_
        refine e_goto (tgt := 15) dX7_countFitting_40 rfl ?_
        exact e_le (ih v8 v13 μ10 _ hb9 h) ⟨rfl, rfl, rfl, trivial⟩
set_option maxHeartbeats 4000000 in
theorem b_X7_countFitting : ∀ as μ r μ', Γ_X7_countFitting as μ r μ' → (elvL as).length ≤ 3 ∧ G mX7_countFitting (Qe r μ') 0 (elv as 3) [] μ (rc r 0) := by
  intro as μ r μ' h
  obtain ⟨rfl, h⟩ := h
  refine ⟨Nat.le_of_ble_eq_true rfl, ?_⟩
  show G mX7_countFitting (Qe r μ') 0 [some (.ref 0), none, none] [] μ (rc r 0)
  unfold F_X7_countFitting at h
  have hb9 : rc r 0 ≤ rc r 0 := Nat.le_refl _
  refine e_iconst dX7_countFitting_0 ci_0 ?_
  refine e_istore_nL [some (.ref 0), some (.int (0 : Int32)), none] dX7_countFitting_1 (Nat.le_of_ble_eq_true rfl) rfl ?_
  refine e_aload_n dX7_countFitting_2 rfl ?_
  refine e_get (ci := 5) (j := 5) (t := 2) (v := .ref 6) dX7_countFitting_3 rfl (by decide) rfl rfl rfl ?_
  refine e_aload_n dX7_countFitting_6 rfl ?_
  refine e_get (ci := 5) (j := 1) (t := 2) (v := .ref 2) dX7_countFitting_7 rfl (by decide) rfl rfl rfl ?_
  refine e_iconst dX7_countFitting_10 ci_0 ?_
  refine cI_go h (fun E3 hc1 hr4 => e_VX [.ref 2, .int (0 : Int32)] [] dX7_countFitting_11 rfl rfl rfl rfl ⟨Nat.le_of_ble_eq_true rfl, rfl⟩ (Nat.le_of_ble_eq_true rfl) (hbr hr4 hb9 (Nat.le_of_ble_eq_true rfl)) ⟨2, (0 : Int32), rfl, (by decide), hc1⟩ rfl ⟨hr4.symm, rfl⟩) (fun v5 μ2 hc1 h => ?_)
  refine e_VI [.ref 2, .int (0 : Int32)] [] dX7_countFitting_11 rfl rfl rfl rfl ⟨Nat.le_of_ble_eq_true rfl, rfl⟩ (Nat.le_of_ble_eq_true rfl) ⟨2, (0 : Int32), rfl, (by decide), hc1⟩ ?_
  refine e_istore_nL [some (.ref 0), some (.int (0 : Int32)), some (.int v5)] dX7_countFitting_14 (Nat.le_of_ble_eq_true rfl) rfl ?_
  exact e_le (g_X7_countFitting_15 BIG (0 : Int32) v5 μ2 _ hb9 h) ⟨rfl, rfl, rfl, trivial⟩
set_option maxRecDepth 20000 in
theorem ok_X7_countFitting (l : Launch) (hl : l.stackTraces = false) : MOK l yX7_countFitting.cls 6 145 mX7_countFitting := ⟨lk_all (List.forall_mem_cons.mpr ⟨⟨yX2_findOutermost, cX2_findOutermost, 3, (some .boolean), 5, 119, by decide, by decide, t_1 6 rfl rfl, hd_X2_findOutermost, Or.inr (Or.inl ⟨rfl, sc_X2_findOutermost l hl, t_3 51 rfl rfl, t_3 48 rfl rfl, t_3 49 rfl rfl, _, rfl, t_3 50 rfl rfl⟩)⟩, List.forall_mem_cons.mpr ⟨⟨yX2_advance, cX2_advance, 7, (some .boolean), 5, 119, by decide, by decide, t_1 6 rfl rfl, hd_X2_advance, Or.inr (Or.inl ⟨rfl, sc_X2_advance l hl, t_3 59 rfl rfl, t_3 56 rfl rfl, t_3 57 rfl rfl, _, rfl, t_3 58 rfl rfl⟩)⟩, nil_all⟩⟩), fun ix ci j h => lk_all (P := fun ix q => FldOK yX7_countFitting.cls ix q.1 q.2) (List.forall_mem_cons.mpr ⟨⟨_, rfl, by decide, t_1 123 rfl rfl⟩, List.forall_mem_cons.mpr ⟨⟨_, rfl, by decide, t_1 127 rfl rfl⟩, nil_all⟩⟩) ix (ci, j) h, lk_all (nil_all), lk_all (nil_all), lk_all (nil_all)⟩
theorem hd_X7_countFitting : CallHd yX7_countFitting 0 := ⟨by decide +kernel, by decide +kernel, by decide +kernel⟩
theorem sc_X7_countFitting (l : Launch) (hl : l.stackTraces = false) : SCon l yX7_countFitting cX7_countFitting 3 (some .int) 6 145 0 Γ_X7_countFitting := scon_of mX7_countFitting cls_ok hl (by decide +kernel) rfl rfl (ok_X7_countFitting l hl) rfl rfl b_X7_countFitting
def F_X7_exchange (a0 : Int32) (a1 : Int32) (a2 : Int32) (a3 : Int32) (μ : Mem) : Out := cV (F_X7_checkCell a0 a2 μ) (fun μ2 => cV (F_X7_checkCell a1 a3 μ2) (fun μ6 => if a1 ≤ a0 then (rX "java/lang/IllegalArgumentException" μ6) else (if a2 < a3 then (cI (F_X4_canExchange 2 a0 a1 a2 a3 μ6) (fun v15 μ12 => if v15 = 0 then (rX "java/lang/IllegalStateException" μ12) else (cV (F_X3_remember 2 μ12) (fun μ18 => cJ (F_X0_corners a0 a1 a2 a3 μ18) (fun v25 μ22 => lt (sJ μ22 2 2 ((μ18.2.1 2 2) ^^^ v25)) (fun μ26 => cI (F_X0_countPieces (μ26.2.1 2 2) μ26) (fun v31 μ28 => rI v31 μ28))))))) else (rX "java/lang/IllegalArgumentException" μ6))))
def Γ_X7_exchange : Gam := fun as μ r μ' => ∃ (a0 : Int32) (a1 : Int32) (a2 : Int32) (a3 : Int32), as = [.ref 0, .int a0, .int a1, .int a2, .int a3] ∧ F_X7_exchange a0 a1 a2 a3 μ = some (r, μ')
def mX7_exchange : MI := (cX7_exchange, [(122, (0, 1, 0, 0, Γ_X0_countPieces)), (165, (1, 2, 1, 5, Γ_X7_checkCell)), (214, (1, 1, 0, 1, Γ_X3_remember)), (244, (1, 4, 0, 2, Γ_X4_canExchange)), (250, (0, 4, 0, 0, Γ_X0_corners))], [(19, 5, 1), (29, 5, 3), (119, 2, 2)], [], [], [(24, "java/lang/IllegalArgumentException"), (49, "java/lang/IllegalStateException")], [], (29, none), (some .int))
set_option maxHeartbeats 4000000 in
theorem b_X7_exchange : ∀ as μ r μ', Γ_X7_exchange as μ r μ' → (elvL as).length ≤ 5 ∧ G mX7_exchange (Qe r μ') 0 (elv as 5) [] μ (rc r 1) := by
  intro as μ r μ' h
  obtain ⟨a0, a1, a2, a3, rfl, h⟩ := h
  refine ⟨Nat.le_of_ble_eq_true rfl, ?_⟩
  show G mX7_exchange (Qe r μ') 0 [some (.ref 0), some (.int a0), some (.int a1), some (.int a2), some (.int a3)] [] μ (rc r 1)
  unfold F_X7_exchange at h
  have hb9 : rc r 1 ≤ rc r 1 := Nat.le_refl _
  refine e_aload_n dX7_exchange_0 rfl ?_
  refine e_iload_n dX7_exchange_1 rfl ?_
  refine e_iload_n dX7_exchange_2 rfl ?_
  refine cV_go h (fun E3 hc1 hr4 => e_VX [.int a0, .int a2] [] dX7_exchange_3 rfl rfl rfl rfl ⟨Nat.le_of_ble_eq_true rfl, rfl⟩ (Nat.le_of_ble_eq_true rfl) (hbr hr4 hb9 (Nat.le_of_ble_eq_true rfl)) ⟨a0, a2, rfl, hc1⟩ rfl ⟨hr4.symm, rfl⟩) (fun μ2 hc1 h => ?_)
  refine e_VV [.int a0, .int a2] [] dX7_exchange_3 rfl rfl rfl rfl ⟨Nat.le_of_ble_eq_true rfl, rfl⟩ (Nat.le_of_ble_eq_true rfl) ⟨a0, a2, rfl, hc1⟩ ?_
  refine e_aload_n dX7_exchange_6 rfl ?_
  refine e_iload_n dX7_exchange_7 rfl ?_
  refine e_iload dX7_exchange_8 rfl ?_
  refine cV_go h (fun E7 hc5 hr8 => e_VX [.int a1, .int a3] [] dX7_exchange_10 rfl rfl rfl rfl ⟨Nat.le_of_ble_eq_true rfl, rfl⟩ (Nat.le_of_ble_eq_true rfl) (hbr hr8 hb9 (Nat.le_of_ble_eq_true rfl)) ⟨a1, a3, rfl, hc5⟩ rfl ⟨hr8.symm, rfl⟩) (fun μ6 hc5 h => ?_)
  refine e_VV [.int a1, .int a3] [] dX7_exchange_10 rfl rfl rfl rfl ⟨Nat.le_of_ble_eq_true rfl, rfl⟩ (Nat.le_of_ble_eq_true rfl) ⟨a1, a3, rfl, hc5⟩ ?_
  refine e_iload_n dX7_exchange_13 rfl ?_
  refine e_iload_n dX7_exchange_14 rfl ?_
  refine e_ic_le (tgt := 24) dX7_exchange_15 rfl (fun hc9 => ?_) (fun hc9 => ?_)
  · rw [if_pos hc9] at h
    exact e_throw dX7_exchange_24 rfl (Nat.le_of_ble_eq_true rfl) (hbx h hb9 (Nat.le_of_ble_eq_true rfl)) rfl (ret_eq h)
  · rw [if_neg hc9] at h
    refine e_iload dX7_exchange_18 rfl ?_
    refine e_iload_n dX7_exchange_20 rfl ?_
    refine e_ic_gt (tgt := 34) dX7_exchange_21 rfl (fun hc10 => ?_) (fun hc10 => ?_)
    · rw [if_pos hc10] at h
      refine e_aload_n dX7_exchange_34 rfl ?_
      refine e_get (ci := 5) (j := 1) (t := 2) (v := .ref 2) dX7_exchange_35 rfl (by decide) rfl rfl rfl ?_
      refine e_iload_n dX7_exchange_38 rfl ?_
      refine e_iload_n dX7_exchange_39 rfl ?_
      refine e_iload_n dX7_exchange_40 rfl ?_
      refine e_iload dX7_exchange_41 rfl ?_
      refine cI_go h (fun E13 hc11 hr14 => e_VX [.int a0, .int a1, .int a2, .int a3] [] dX7_exchange_43 rfl rfl rfl rfl ⟨Nat.le_of_ble_eq_true rfl, rfl⟩ (Nat.le_of_ble_eq_true rfl) (hbr hr14 hb9 (Nat.le_of_ble_eq_true rfl)) ⟨2, a0, a1, a2, a3, rfl, (by decide), hc11⟩ rfl ⟨hr14.symm, rfl⟩) (fun v15 μ12 hc11 h => ?_)
      refine e_VI [.int a0, .int a1, .int a2, .int a3] [] dX7_exchange_43 rfl rfl rfl rfl ⟨Nat.le_of_ble_eq_true rfl, rfl⟩ (Nat.le_of_ble_eq_true rfl) ⟨2, a0, a1, a2, a3, rfl, (by decide), hc11⟩ ?_
      refine e_if_ne (tgt := 59) dX7_exchange_46 rfl (fun hc16 => ?_) (fun hc16 => ?_)
      · rw [if_neg hc16] at h
        refine e_aload_n dX7_exchange_59 rfl ?_
        refine e_get (ci := 5) (j := 3) (t := 2) (v := .ref 4) dX7_exchange_60 rfl (by decide) rfl rfl rfl ?_
        refine e_aload_n dX7_exchange_63 rfl ?_
        refine e_get (ci := 5) (j := 1) (t := 2) (v := .ref 2) dX7_exchange_64 rfl (by decide) rfl rfl rfl ?_
        refine cV_go h (fun E19 hc17 hr20 => e_VX [.ref 2] [] dX7_exchange_67 rfl rfl rfl rfl ⟨Nat.le_of_ble_eq_true rfl, rfl⟩ (Nat.le_of_ble_eq_true rfl) (hbr hr20 hb9 (Nat.le_of_ble_eq_true rfl)) ⟨2, rfl, (by decide), hc17⟩ rfl ⟨hr20.symm, rfl⟩) (fun μ18 hc17 h => ?_)
        refine e_VV [.ref 2] [] dX7_exchange_67 rfl rfl rfl rfl ⟨Nat.le_of_ble_eq_true rfl, rfl⟩ (Nat.le_of_ble_eq_true rfl) ⟨2, rfl, (by decide), hc17⟩ ?_
        refine e_aload_n dX7_exchange_70 rfl ?_
        refine e_get (ci := 5) (j := 1) (t := 2) (v := .ref 2) dX7_exchange_71 rfl (by decide) rfl rfl rfl ?_
        refine e_dup dX7_exchange_74 rfl ?_
        refine e_get (ci := 2) (j := 2) (t := 1) (v := .long (μ18.2.1 2 2)) dX7_exchange_75 rfl (by decide) rfl rfl rfl ?_
        refine e_iload_n dX7_exchange_78 rfl ?_
        refine e_iload_n dX7_exchange_79 rfl ?_
        refine e_iload_n dX7_exchange_80 rfl ?_
        refine e_iload dX7_exchange_81 rfl ?_
        refine cJ_go h (fun E23 hc21 hr24 => e_SX [.int a0, .int a1, .int a2, .int a3] [.long (μ18.2.1 2 2), .ref 2] dX7_exchange_83 rfl (by decide) rfl rfl (Nat.le_of_ble_eq_true rfl) (hbr hr24 hb9 (Nat.le_of_ble_eq_true rfl)) ⟨a0, a1, a2, a3, rfl, hc21⟩ rfl ⟨hr24.symm, rfl⟩) (fun v25 μ22 hc21 h => ?_)
        refine e_SJ [.int a0, .int a1, .int a2, .int a3] [.long (μ18.2.1 2 2), .ref 2] dX7_exchange_83 rfl (by decide) rfl rfl (Nat.le_of_ble_eq_true rfl) ⟨a0, a1, a2, a3, rfl, hc21⟩ ?_
        refine e_lxor dX7_exchange_86 ?_
        refine e_putJ (ci := 2) (j := 2) dX7_exchange_87 rfl (by decide) rfl rfl ?_
        refine e_naM (e := sJ μ22 2 2 ((μ18.2.1 2 2) ^^^ v25)) h (fun μ26 eμ26 h => ?_)
        refine e_aload_n dX7_exchange_90 rfl ?_
        refine e_get (ci := 5) (j := 1) (t := 2) (v := .ref 2) dX7_exchange_91 rfl (by decide) rfl rfl rfl ?_
        refine e_get (ci := 2) (j := 2) (t := 1) (v := .long (μ26.2.1 2 2)) dX7_exchange_94 rfl (by decide) rfl rfl rfl ?_
        refine cI_go h (fun E29 hc27 hr30 => e_SX [.long (μ26.2.1 2 2)] [] dX7_exchange_97 rfl (by decide) rfl rfl (Nat.le_of_ble_eq_true rfl) (hbr hr30 hb9 (Nat.le_of_ble_eq_true rfl)) ⟨μ26.2.1 2 2, rfl, hc27⟩ rfl ⟨hr30.symm, rfl⟩) (fun v31 μ28 hc27 h => ?_)
        refine e_SI [.long (μ26.2.1 2 2)] [] dX7_exchange_97 rfl (by decide) rfl rfl (Nat.le_of_ble_eq_true rfl) ⟨μ26.2.1 2 2, rfl, hc27⟩ ?_
        exact e_iret .int dX7_exchange_100 rfl rfl (ret_eq h)
      · rw [if_pos hc16] at h
        exact e_throw dX7_exchange_49 rfl (Nat.le_of_ble_eq_true rfl) (hbx h hb9 (Nat.le_of_ble_eq_true rfl)) rfl (ret_eq h)
    · rw [if_neg hc10] at h
      exact e_throw dX7_exchange_24 rfl (Nat.le_of_ble_eq_true rfl) (hbx h hb9 (Nat.le_of_ble_eq_true rfl)) rfl (ret_eq h)
set_option maxRecDepth 20000 in
theorem ok_X7_exchange (l : Launch) (hl : l.stackTraces = false) : MOK l yX7_exchange.cls 7 112 mX7_exchange := ⟨lk_all (List.forall_mem_cons.mpr ⟨⟨yX0_countPieces, cX0_countPieces, 6, (some .int), 2, 26, by decide, by decide, t_1 9 rfl rfl, hd_X0_countPieces, Or.inl ⟨rfl, sc_X0_countPieces l hl, t_1 209 rfl rfl, t_1 207 rfl rfl, t_1 208 rfl rfl⟩⟩, List.forall_mem_cons.mpr ⟨⟨yX7_checkCell, cX7_checkCell, 3, none, 6, 90, by decide, by decide, t_1 1 rfl rfl, hd_X7_checkCell, Or.inr (Or.inl ⟨rfl, sc_X7_checkCell l hl, t_2 123 rfl rfl, t_2 120 rfl rfl, t_2 122 rfl rfl, _, rfl, t_p 3 rfl⟩)⟩, List.forall_mem_cons.mpr ⟨⟨yX3_remember, cX3_remember, 2, none, 2, 22, by decide, by decide, t_1 4 rfl rfl, hd_X3_remember, Or.inr (Or.inl ⟨rfl, sc_X3_remember l hl, t_2 197 rfl rfl, t_2 194 rfl rfl, t_2 195 rfl rfl, _, rfl, t_2 196 rfl rfl⟩)⟩, List.forall_mem_cons.mpr ⟨⟨yX4_canExchange, cX4_canExchange, 9, (some .boolean), 3, 44, by decide, by decide, t_1 3 rfl rfl, hd_X4_canExchange, Or.inr (Or.inl ⟨rfl, sc_X4_canExchange l hl, t_3 96 rfl rfl, t_3 194 rfl rfl, t_3 94 rfl rfl, _, rfl, t_3 95 rfl rfl⟩)⟩, List.forall_mem_cons.mpr ⟨⟨yX0_corners, cX0_corners, 4, (some .long), 2, 21, by decide, by decide, t_1 9 rfl rfl, hd_X0_corners, Or.inl ⟨rfl, sc_X0_corners l hl, t_3 99 rfl rfl, t_3 196 rfl rfl, t_3 98 rfl rfl⟩⟩, nil_all⟩⟩⟩⟩⟩), fun ix ci j h => lk_all (P := fun ix q => FldOK yX7_exchange.cls ix q.1 q.2) (List.forall_mem_cons.mpr ⟨⟨_, rfl, by decide, t_1 123 rfl rfl⟩, List.forall_mem_cons.mpr ⟨⟨_, rfl, by decide, t_1 125 rfl rfl⟩, List.forall_mem_cons.mpr ⟨⟨_, rfl, by decide, t_1 54 rfl rfl⟩, nil_all⟩⟩⟩) ix (ci, j) h, lk_all (nil_all), lk_all (nil_all), lk_all (List.forall_mem_cons.mpr ⟨⟨rfl, List.mem_of_getElem? (i := 0) rfl, by decide, by decide, 53, 242, 57, "the second row or column is not the greater one", List.mem_of_getElem? (i := 11) rfl, t_2 6 rfl rfl, t_1 14 rfl rfl, th_IllegalArgumentException_57.1, th_IllegalArgumentException_57.2.1, List.forall_mem_cons.mpr ⟨rfl, List.forall_mem_cons.mpr ⟨rfl, th_IllegalArgumentException_57.2.2⟩⟩, dX7_exchange_24, dX7_exchange_27, Or.inl ⟨dX7_exchange_28, dX7_exchange_30, dX7_exchange_33⟩⟩, List.forall_mem_cons.mpr ⟨⟨rfl, List.mem_of_getElem? (i := 1) rfl, by decide, by decide, 64, 248, 68, "the exchange is not possible", List.mem_of_getElem? (i := 12) rfl, t_2 224 rfl rfl, t_1 15 rfl rfl, th_IllegalStateException_68.1, th_IllegalStateException_68.2.1, List.forall_mem_cons.mpr ⟨rfl, List.forall_mem_cons.mpr ⟨rfl, th_IllegalStateException_68.2.2⟩⟩, dX7_exchange_49, dX7_exchange_52, Or.inl ⟨dX7_exchange_53, dX7_exchange_55, dX7_exchange_58⟩⟩, nil_all⟩⟩)⟩
theorem hd_X7_exchange : CallHd yX7_exchange 4 := ⟨by decide +kernel, by decide +kernel, by decide +kernel⟩
theorem sc_X7_exchange (l : Launch) (hl : l.stackTraces = false) : SCon l yX7_exchange cX7_exchange 5 (some .int) 7 112 1 Γ_X7_exchange := scon_of mX7_exchange cls_ok hl (by decide +kernel) rfl rfl (ok_X7_exchange l hl) rfl rfl b_X7_exchange
def F_X7_exchangeAt (a0 : Int32) (μ : Mem) : Out := if 0 ≤ a0 then (cI (F_X4_exchangeNumbered 2 a0 μ) (fun v6 μ3 => rI v6 μ3)) else (rX "java/lang/IllegalArgumentException" μ)
def Γ_X7_exchangeAt : Gam := fun as μ r μ' => ∃ (a0 : Int32), as = [.ref 0, .int a0] ∧ F_X7_exchangeAt a0 μ = some (r, μ')
def mX7_exchangeAt : MI := (cX7_exchangeAt, [(207, (1, 1, 0, 2, Γ_X4_exchangeNumbered))], [(19, 5, 1)], [], [], [(4, "java/lang/IllegalArgumentException")], [], (29, none), (some .int))
set_option maxHeartbeats 4000000 in
theorem b_X7_exchangeAt : ∀ as μ r μ', Γ_X7_exchangeAt as μ r μ' → (elvL as).length ≤ 2 ∧ G mX7_exchangeAt (Qe r μ') 0 (elv as 2) [] μ (rc r 1) := by
  intro as μ r μ' h
  obtain ⟨a0, rfl, h⟩ := h
  refine ⟨Nat.le_of_ble_eq_true rfl, ?_⟩
  show G mX7_exchangeAt (Qe r μ') 0 [some (.ref 0), some (.int a0)] [] μ (rc r 1)
  unfold F_X7_exchangeAt at h
  have hb9 : rc r 1 ≤ rc r 1 := Nat.le_refl _
  refine e_iload_n dX7_exchangeAt_0 rfl ?_
  refine e_if_ge (tgt := 14) dX7_exchangeAt_1 rfl (fun hc1 => ?_) (fun hc1 => ?_)
  · rw [if_pos hc1] at h
    refine e_aload_n dX7_exchangeAt_14 rfl ?_
    refine e_get (ci := 5) (j := 1) (t := 2) (v := .ref 2) dX7_exchangeAt_15 rfl (by decide) rfl rfl rfl ?_
    refine e_iload_n dX7_exchangeAt_18 rfl ?_
    refine cI_go h (fun E4 hc2 hr5 => e_VX [.int a0] [] dX7_exchangeAt_19 rfl rfl rfl rfl ⟨Nat.le_of_ble_eq_true rfl, rfl⟩ (Nat.le_of_ble_eq_true rfl) (hbr hr5 hb9 (Nat.le_of_ble_eq_true rfl)) ⟨2, a0, rfl, (by decide), hc2⟩ rfl ⟨hr5.symm, rfl⟩) (fun v6 μ3 hc2 h => ?_)
    refine e_VI [.int a0] [] dX7_exchangeAt_19 rfl rfl rfl rfl ⟨Nat.le_of_ble_eq_true rfl, rfl⟩ (Nat.le_of_ble_eq_true rfl) ⟨2, a0, rfl, (by decide), hc2⟩ ?_
    exact e_iret .int dX7_exchangeAt_22 rfl rfl (ret_eq h)
  · rw [if_neg hc1] at h
    exact e_throw dX7_exchangeAt_4 rfl (Nat.le_of_ble_eq_true rfl) (hbx h hb9 (Nat.le_of_ble_eq_true rfl)) rfl (ret_eq h)
set_option maxRecDepth 20000 in
theorem ok_X7_exchangeAt (l : Launch) (hl : l.stackTraces = false) : MOK l yX7_exchangeAt.cls 6 123 mX7_exchangeAt := ⟨lk_all (List.forall_mem_cons.mpr ⟨⟨yX4_exchangeNumbered, cX4_exchangeNumbered, 6, (some .int), 5, 98, by decide, by decide, t_1 3 rfl rfl, hd_X4_exchangeNumbered, Or.inr (Or.inl ⟨rfl, sc_X4_exchangeNumbered l hl, t_3 88 rfl rfl, t_3 85 rfl rfl, t_3 86 rfl rfl, _, rfl, t_3 87 rfl rfl⟩)⟩, nil_all⟩), fun ix ci j h => lk_all (P := fun ix q => FldOK yX7_exchangeAt.cls ix q.1 q.2) (List.forall_mem_cons.mpr ⟨⟨_, rfl, by decide, t_1 123 rfl rfl⟩, nil_all⟩) ix (ci, j) h, lk_all (nil_all), lk_all (nil_all), lk_all (List.forall_mem_cons.mpr ⟨⟨rfl, List.mem_of_getElem? (i := 0) rfl, by decide, by decide, 53, 205, 57, "a negative number", List.mem_of_getElem? (i := 10) rfl, t_2 6 rfl rfl, t_1 14 rfl rfl, th_IllegalArgumentException_57.1, th_IllegalArgumentException_57.2.1, List.forall_mem_cons.mpr ⟨rfl, List.forall_mem_cons.mpr ⟨rfl, th_IllegalArgumentException_57.2.2⟩⟩, dX7_exchangeAt_4, dX7_exchangeAt_7, Or.inl ⟨dX7_exchangeAt_8, dX7_exchangeAt_10, dX7_exchangeAt_13⟩⟩, nil_all⟩)⟩
theorem hd_X7_exchangeAt : CallHd yX7_exchangeAt 1 := ⟨by decide +kernel, by decide +kernel, by decide +kernel⟩
theorem sc_X7_exchangeAt (l : Launch) (hl : l.stackTraces = false) : SCon l yX7_exchangeAt cX7_exchangeAt 2 (some .int) 6 123 1 Γ_X7_exchangeAt := scon_of mX7_exchangeAt cls_ok hl (by decide +kernel) rfl rfl (ok_X7_exchangeAt l hl) rfl rfl b_X7_exchangeAt
def F_X7_fill (a0 : Int32) (a1 : Int32) (a2 : Int32) (μ : Mem) : Out := cV (F_X7_checkCell a0 a1 μ) (fun μ2 => cI (F_X4_isPinned 2 a0 a1 μ2) (fun v9 μ6 => if v9 = 0 then (cV (F_X3_remember 2 μ6) (fun μ12 => cI (F_X4_setFilled 2 a0 a1 a2 μ12) (fun v19 μ16 => ck (nz v19) (rI v19 μ16)))) else (rX "java/lang/IllegalStateException" μ6)))
def Γ_X7_fill : Gam := fun as μ r μ' => ∃ (a0 : Int32) (a1 : Int32) (a2 : Int32), as = [.ref 0, .int a0, .int a1, .int a2] ∧ F_X7_fill a0 a1 a2 μ = some (r, μ')
def mX7_fill : MI := (cX7_fill, [(165, (1, 2, 1, 5, Γ_X7_checkCell)), (214, (1, 1, 0, 1, Γ_X3_remember)), (220, (1, 2, 0, 2, Γ_X4_isPinned)), (226, (1, 3, 0, 2, Γ_X4_setFilled))], [(19, 5, 1), (29, 5, 3)], [], [], [(18, "java/lang/IllegalStateException")], [], (29, none), (some .boolean))
set_option maxHeartbeats 4000000 in
theorem b_X7_fill : ∀ as μ r μ', Γ_X7_fill as μ r μ' → (elvL as).length ≤ 4 ∧ G mX7_fill (Qe r μ') 0 (elv as 4) [] μ (rc r 1) := by
  intro as μ r μ' h
  obtain ⟨a0, a1, a2, rfl, h⟩ := h
  refine ⟨Nat.le_of_ble_eq_true rfl, ?_⟩
  show G mX7_fill (Qe r μ') 0 [some (.ref 0), some (.int a0), some (.int a1), some (.int a2)] [] μ (rc r 1)
  unfold F_X7_fill at h
  have hb9 : rc r 1 ≤ rc r 1 := Nat.le_refl _
  refine e_aload_n dX7_fill_0 rfl ?_
  refine e_iload_n dX7_fill_1 rfl ?_
  refine e_iload_n dX7_fill_2 rfl ?_
  refine cV_go h (fun E3 hc1 hr4 => e_VX [.int a0, .int a1] [] dX7_fill_3 rfl rfl rfl rfl ⟨Nat.le_of_ble_eq_true rfl, rfl⟩ (Nat.le_of_ble_eq_true rfl) (hbr hr4 hb9 (Nat.le_of_ble_eq_true rfl)) ⟨a0, a1, rfl, hc1⟩ rfl ⟨hr4.symm, rfl⟩) (fun μ2 hc1 h => ?_)
  refine e_VV [.int a0, .int a1] [] dX7_fill_3 rfl rfl rfl rfl ⟨Nat.le_of_ble_eq_true rfl, rfl⟩ (Nat.le_of_ble_eq_true rfl) ⟨a0, a1, rfl, hc1⟩ ?_
  refine e_aload_n dX7_fill_6 rfl ?_
  refine e_get (ci := 5) (j := 1) (t := 2) (v := .ref 2) dX7_fill_7 rfl (by decide) rfl rfl rfl ?_
  refine e_iload_n dX7_fill_10 rfl ?_
  refine e_iload_n dX7_fill_11 rfl ?_
  refine cI_go h (fun E7 hc5 hr8 => e_VX [.int a0, .int a1] [] dX7_fill_12 rfl rfl rfl rfl ⟨Nat.le_of_ble_eq_true rfl, rfl⟩ (Nat.le_of_ble_eq_true rfl) (hbr hr8 hb9 (Nat.le_of_ble_eq_true rfl)) ⟨2, a0, a1, rfl, (by decide), hc5⟩ rfl ⟨hr8.symm, rfl⟩) (fun v9 μ6 hc5 h => ?_)
  refine e_VI [.int a0, .int a1] [] dX7_fill_12 rfl rfl rfl rfl ⟨Nat.le_of_ble_eq_true rfl, rfl⟩ (Nat.le_of_ble_eq_true rfl) ⟨2, a0, a1, rfl, (by decide), hc5⟩ ?_
  refine e_if_eq (tgt := 28) dX7_fill_15 rfl (fun hc10 => ?_) (fun hc10 => ?_)
  · rw [if_pos hc10] at h
    refine e_aload_n dX7_fill_28 rfl ?_
    refine e_get (ci := 5) (j := 3) (t := 2) (v := .ref 4) dX7_fill_29 rfl (by decide) rfl rfl rfl ?_
    refine e_aload_n dX7_fill_32 rfl ?_
    refine e_get (ci := 5) (j := 1) (t := 2) (v := .ref 2) dX7_fill_33 rfl (by decide) rfl rfl rfl ?_
    refine cV_go h (fun E13 hc11 hr14 => e_VX [.ref 2] [] dX7_fill_36 rfl rfl rfl rfl ⟨Nat.le_of_ble_eq_true rfl, rfl⟩ (Nat.le_of_ble_eq_true rfl) (hbr hr14 hb9 (Nat.le_of_ble_eq_true rfl)) ⟨2, rfl, (by decide), hc11⟩ rfl ⟨hr14.symm, rfl⟩) (fun μ12 hc11 h => ?_)
    refine e_VV [.ref 2] [] dX7_fill_36 rfl rfl rfl rfl ⟨Nat.le_of_ble_eq_true rfl, rfl⟩ (Nat.le_of_ble_eq_true rfl) ⟨2, rfl, (by decide), hc11⟩ ?_
    refine e_aload_n dX7_fill_39 rfl ?_
    refine e_get (ci := 5) (j := 1) (t := 2) (v := .ref 2) dX7_fill_40 rfl (by decide) rfl rfl rfl ?_
    refine e_iload_n dX7_fill_43 rfl ?_
    refine e_iload_n dX7_fill_44 rfl ?_
    refine e_iload_n dX7_fill_45 rfl ?_
    refine cI_go h (fun E17 hc15 hr18 => e_VX [.int a0, .int a1, .int a2] [] dX7_fill_46 rfl rfl rfl rfl ⟨Nat.le_of_ble_eq_true rfl, rfl⟩ (Nat.le_of_ble_eq_true rfl) (hbr hr18 hb9 (Nat.le_of_ble_eq_true rfl)) ⟨2, a0, a1, a2, rfl, (by decide), hc15⟩ rfl ⟨hr18.symm, rfl⟩) (fun v19 μ16 hc15 h => ?_)
    refine e_VI [.int a0, .int a1, .int a2] [] dX7_fill_46 rfl rfl rfl rfl ⟨Nat.le_of_ble_eq_true rfl, rfl⟩ (Nat.le_of_ble_eq_true rfl) ⟨2, a0, a1, a2, rfl, (by decide), hc15⟩ ?_
    obtain ⟨hc20, h⟩ := ck_eq h
    exact e_iret .boolean dX7_fill_49 rfl hc20 (ret_eq h)
  · rw [if_neg hc10] at h
    exact e_throw dX7_fill_18 rfl (Nat.le_of_ble_eq_true rfl) (hbx h hb9 (Nat.le_of_ble_eq_true rfl)) rfl (ret_eq h)
set_option maxRecDepth 20000 in
theorem ok_X7_fill (l : Launch) (hl : l.stackTraces = false) : MOK l yX7_fill.cls 7 112 mX7_fill := ⟨lk_all (List.forall_mem_cons.mpr ⟨⟨yX7_checkCell, cX7_checkCell, 3, none, 6, 90, by decide, by decide, t_1 1 rfl rfl, hd_X7_checkCell, Or.inr (Or.inl ⟨rfl, sc_X7_checkCell l hl, t_2 123 rfl rfl, t_2 120 rfl rfl, t_2 122 rfl rfl, _, rfl, t_p 3 rfl⟩)⟩, List.forall_mem_cons.mpr ⟨⟨yX3_remember, cX3_remember, 2, none, 2, 22, by decide, by decide, t_1 4 rfl rfl, hd_X3_remember, Or.inr (Or.inl ⟨rfl, sc_X3_remember l hl, t_2 197 rfl rfl, t_2 194 rfl rfl, t_2 195 rfl rfl, _, rfl, t_2 196 rfl rfl⟩)⟩, List.forall_mem_cons.mpr ⟨⟨yX4_isPinned, cX4_isPinned, 3, (some .boolean), 2, 21, by decide, by decide, t_1 3 rfl rfl, hd_X4_isPinned, Or.inr (Or.inl ⟨rfl, sc_X4_isPinned l hl, t_2 222 rfl rfl, t_2 219 rfl rfl, t_2 220 rfl rfl, _, rfl, t_2 221 rfl rfl⟩)⟩, List.forall_mem_cons.mpr ⟨⟨yX4_setFilled, cX4_setFilled, 7, (some .boolean), 2, 21, by decide, by decide, t_1 3 rfl rfl, hd_X4_setFilled, Or.inr (Or.inl ⟨rfl, sc_X4_setFilled l hl, t_3 3 rfl rfl, t_3 0 rfl rfl, t_3 1 rfl rfl, _, rfl, t_3 2 rfl rfl⟩)⟩, nil_all⟩⟩⟩⟩), fun ix ci j h => lk_all (P := fun ix q => FldOK yX7_fill.cls ix q.1 q.2) (List.forall_mem_cons.mpr ⟨⟨_, rfl, by decide, t_1 123 rfl rfl⟩, List.forall_mem_cons.mpr ⟨⟨_, rfl, by decide, t_1 125 rfl rfl⟩, nil_all⟩⟩) ix (ci, j) h, lk_all (nil_all), lk_all (nil_all), lk_all (List.forall_mem_cons.mpr ⟨⟨rfl, List.mem_of_getElem? (i := 1) rfl, by decide, by decide, 64, 224, 68, "the cell is pinned", List.mem_of_getElem? (i := 5) rfl, t_2 224 rfl rfl, t_1 15 rfl rfl, th_IllegalStateException_68.1, th_IllegalStateException_68.2.1, List.forall_mem_cons.mpr ⟨rfl, List.forall_mem_cons.mpr ⟨rfl, th_IllegalStateException_68.2.2⟩⟩, dX7_fill_18, dX7_fill_21, Or.inl ⟨dX7_fill_22, dX7_fill_24, dX7_fill_27⟩⟩, nil_all⟩)⟩
theorem hd_X7_fill : CallHd yX7_fill 3 := ⟨by decide +kernel, by decide +kernel, by decide +kernel⟩
theorem sc_X7_fill (l : Launch) (hl : l.stackTraces = false) : SCon l yX7_fill cX7_fill 4 (some .boolean) 7 112 1 Γ_X7_fill := scon_of mX7_fill cls_ok hl (by decide +kernel) rfl rfl (ok_X7_fill l hl) rfl rfl b_X7_fill
def F_X7_howMany (μ : Mem) : Out := cI (F_X7_countFitting μ) (fun v5 μ2 => rI v5 μ2)
def Γ_X7_howMany : Gam := fun as μ r μ' => as = [.ref 0] ∧ F_X7_howMany μ = some (r, μ')
def mX7_howMany : MI := (cX7_howMany, [(287, (1, 0, 0, 5, Γ_X7_countFitting))], [], [], [], [], [], (29, none), (some .int))
set_option maxHeartbeats 4000000 in
theorem b_X7_howMany : ∀ as μ r μ', Γ_X7_howMany as μ r μ' → (elvL as).length ≤ 1 ∧ G mX7_howMany (Qe r μ') 0 (elv as 1) [] μ (rc r 0) := by
  intro as μ r μ' h
  obtain ⟨rfl, h⟩ := h
  refine ⟨Nat.le_of_ble_eq_true rfl, ?_⟩
  show G mX7_howMany (Qe r μ') 0 [some (.ref 0)] [] μ (rc r 0)
  unfold F_X7_howMany at h
  have hb9 : rc r 0 ≤ rc r 0 := Nat.le_refl _
  refine e_aload_n dX7_howMany_0 rfl ?_
  refine cI_go h (fun E3 hc1 hr4 => e_VX [] [] dX7_howMany_1 rfl rfl rfl rfl ⟨Nat.le_of_ble_eq_true rfl, rfl⟩ (Nat.le_of_ble_eq_true rfl) (hbr hr4 hb9 (Nat.le_of_ble_eq_true rfl)) ⟨rfl, hc1⟩ rfl ⟨hr4.symm, rfl⟩) (fun v5 μ2 hc1 h => ?_)
  refine e_VI [] [] dX7_howMany_1 rfl rfl rfl rfl ⟨Nat.le_of_ble_eq_true rfl, rfl⟩ (Nat.le_of_ble_eq_true rfl) ⟨rfl, hc1⟩ ?_
  exact e_iret .int dX7_howMany_4 rfl rfl (ret_eq h)
set_option maxRecDepth 20000 in
theorem ok_X7_howMany (l : Launch) (hl : l.stackTraces = false) : MOK l yX7_howMany.cls 7 167 mX7_howMany := ⟨lk_all (List.forall_mem_cons.mpr ⟨⟨yX7_countFitting, cX7_countFitting, 3, (some .int), 6, 145, by decide, by decide, t_1 1 rfl rfl, hd_X7_countFitting, Or.inr (Or.inl ⟨rfl, sc_X7_countFitting l hl, t_3 47 rfl rfl, t_3 44 rfl rfl, t_3 46 rfl rfl, _, rfl, t_p 13 rfl⟩)⟩, nil_all⟩), fun ix ci j h => lk_all (P := fun ix q => FldOK yX7_howMany.cls ix q.1 q.2) (nil_all) ix (ci, j) h, lk_all (nil_all), lk_all (nil_all), lk_all (nil_all)⟩
theorem hd_X7_howMany : CallHd yX7_howMany 0 := ⟨by decide +kernel, by decide +kernel, by decide +kernel⟩
theorem sc_X7_howMany (l : Launch) (hl : l.stackTraces = false) : SCon l yX7_howMany cX7_howMany 1 (some .int) 7 167 0 Γ_X7_howMany := scon_of mX7_howMany cls_ok hl (by decide +kernel) rfl rfl (ok_X7_howMany l hl) rfl rfl b_X7_howMany
def f_X7_leastDistance_18 : Nat → Int32 → Int32 → Int32 → Mem → Out
  | 0, _, _, _, _ => none
  | n + 1, x1, x2, x3, μ => if x2 = 0 then (rI x1 μ) else (if (100 : Int32) ≤ x3 then (rI x1 μ) else (cJ (F_X2_found μ) (fun v12 μ9 => cI (F_J13_bitCount_95d88 (v12 ^^^ (μ9.2.1 2 2)) μ9) (fun v17 μ14 => cI (F_J9_min_7cf53 x1 v17 μ14) (fun v22 μ19 => cI (F_X2_advance 2 μ19) (fun v27 μ24 => lt (x3 + (1 : Int32)) (fun v28 => f_X7_leastDistance_18 n v22 v27 v28 μ24)))))))
def F_X7_leastDistance (μ : Mem) : Out := cI (F_X2_findOutermost 2 (0 : Int32) μ) (fun v5 μ2 => f_X7_leastDistance_18 BIG (48 : Int32) v5 (0 : Int32) μ2)
def Γ_X7_leastDistance : Gam := fun as μ r μ' => as = [.ref 0] ∧ F_X7_leastDistance μ = some (r, μ')
def mX7_leastDistance : MI := (cX7_leastDistance, [(104, (0, 1, 0, 0, Γ_J13_bitCount_95d88)), (256, (1, 2, 0, 0, Γ_X2_findOutermost)), (262, (1, 0, 0, 0, Γ_X2_found)), (349, (1, 1, 0, 0, Γ_X2_advance)), (352, (4, 2, 0, 0, Γ_J9_min_7cf53))], [(19, 5, 1), (43, 5, 5), (119, 2, 2)], [], [], [], [], (29, none), (some .int))
set_option maxHeartbeats 4000000 in
theorem g_X7_leastDistance_18 {r : Res} {μ' : Mem} : ∀ n : Nat, ∀ (x1 : Int32) (x2 : Int32) (x3 : Int32), ∀ (μ : Mem) (b : Nat), rc r 0 ≤ b → f_X7_leastDistance_18 n x1 x2 x3 μ = some (r, μ') → G mX7_leastDistance (Qe r μ') 18 [some (.ref 0), some (.int x1), some (.int x2), some (.int x3)] [] μ b := by
  intro n
  induction n with
  | zero => intro x1 x2 x3 μ b hb9 h; exact nomatch (show (none : Out) = some _ from h)
  | succ n ih =>
    intro x1 x2 x3 μ b hb9 h
    rw [f_X7_leastDistance_18.eq_2] at h
    refine e_iload_n dX7_leastDistance_18 rfl ?_
    refine e_if_eq (tgt := 69) dX7_leastDistance_19 rfl (fun hc6 => ?_) (fun hc6 => ?_)
    · rw [if_pos hc6] at h
      refine e_iload_n dX7_leastDistance_69 rfl ?_
      exact e_iret .int dX7_leastDistance_70 rfl rfl (ret_eq h)
    · rw [if_neg hc6] at h
      refine e_iload_n dX7_leastDistance_22 rfl ?_
      refine e_bipush dX7_leastDistance_23 cb_100 ?_
      refine e_ic_ge (tgt := 69) dX7_leastDistance_25 rfl (fun hc7 => ?_) (fun hc7 => ?_)
      · rw [if_pos hc7] at h
        refine e_iload_n dX7_leastDistance_69 rfl ?_
        exact e_iret .int dX7_leastDistance_70 rfl rfl (ret_eq h)
      · rw [if_neg hc7] at h
        refine e_iload_n dX7_leastDistance_28 rfl ?_
        refine e_aload_n dX7_leastDistance_29 rfl ?_
        refine e_get (ci := 5) (j := 5) (t := 2) (v := .ref 6) dX7_leastDistance_30 rfl (by decide) rfl rfl rfl ?_
        refine cJ_go h (fun E10 hc8 hr11 => e_VX [] [.int x1] dX7_leastDistance_33 rfl rfl rfl rfl ⟨Nat.le_of_ble_eq_true rfl, rfl⟩ (Nat.le_of_ble_eq_true rfl) (hbr hr11 hb9 (Nat.le_of_ble_eq_true rfl)) ⟨rfl, hc8⟩ rfl ⟨hr11.symm, rfl⟩) (fun v12 μ9 hc8 h => ?_)
        refine e_VJ [] [.int x1] dX7_leastDistance_33 rfl rfl rfl rfl ⟨Nat.le_of_ble_eq_true rfl, rfl⟩ (Nat.le_of_ble_eq_true rfl) ⟨rfl, hc8⟩ ?_
        refine e_aload_n dX7_leastDistance_36 rfl ?_
        refine e_get (ci := 5) (j := 1) (t := 2) (v := .ref 2) dX7_leastDistance_37 rfl (by decide) rfl rfl rfl ?_
        refine e_get (ci := 2) (j := 2) (t := 1) (v := .long (μ9.2.1 2 2)) dX7_leastDistance_40 rfl (by decide) rfl rfl rfl ?_
        refine e_lxor dX7_leastDistance_43 ?_
        refine cI_go h (fun E15 hc13 hr16 => e_SX [.long (v12 ^^^ (μ9.2.1 2 2))] [.int x1] dX7_leastDistance_44 rfl (by decide) rfl rfl (Nat.le_of_ble_eq_true rfl) (hbr hr16 hb9 (Nat.le_of_ble_eq_true rfl)) ⟨v12 ^^^ (μ9.2.1 2 2), rfl, hc13⟩ rfl ⟨hr16.symm, rfl⟩) (fun v17 μ14 hc13 h => ?_)
        refine e_SI [.long (v12 ^^^ (μ9.2.1 2 2))] [.int x1] dX7_leastDistance_44 rfl (by decide) rfl rfl (Nat.le_of_ble_eq_true rfl) ⟨v12 ^^^ (μ9.2.1 2 2), rfl, hc13⟩ ?_
        refine cI_go h (fun E20 hc18 hr21 => e_SX [.int x1, .int v17] [] dX7_leastDistance_47 rfl (by decide) rfl rfl (Nat.le_of_ble_eq_true rfl) (hbr hr21 hb9 (Nat.le_of_ble_eq_true rfl)) ⟨x1, v17, rfl, hc18⟩ rfl ⟨hr21.symm, rfl⟩) (fun v22 μ19 hc18 h => ?_)
        refine e_SI [.int x1, .int v17] [] dX7_leastDistance_47 rfl (by decide) rfl rfl (Nat.le_of_ble_eq_true rfl) ⟨x1, v17, rfl, hc18⟩ ?_
        refine e_istore_nL [some (.ref 0), some (.int v22), some (.int x2), some (.int x3)] dX7_leastDistance_50 (Nat.le_of_ble_eq_true rfl) rfl ?_
        refine e_aload_n dX7_leastDistance_51 rfl ?_
        refine e_get (ci := 5) (j := 5) (t := 2) (v := .ref 6) dX7_leastDistance_52 rfl (by decide) rfl rfl rfl ?_
        refine e_aload_n dX7_leastDistance_55 rfl ?_
        refine e_get (ci := 5) (j := 1) (t := 2) (v := .ref 2) dX7_leastDistance_56 rfl (by decide) rfl rfl rfl ?_
        refine cI_go h (fun E25 hc23 hr26 => e_VX [.ref 2] [] dX7_leastDistance_59 rfl rfl rfl rfl ⟨Nat.le_of_ble_eq_true rfl, rfl⟩ (Nat.le_of_ble_eq_true rfl) (hbr hr26 hb9 (Nat.le_of_ble_eq_true rfl)) ⟨2, rfl, (by decide), hc23⟩ rfl ⟨hr26.symm, rfl⟩) (fun v27 μ24 hc23 h => ?_)
        refine e_VI [.ref 2] [] dX7_leastDistance_59 rfl rfl rfl rfl ⟨Nat.le_of_ble_eq_true rfl, rfl⟩ (Nat.le_of_ble_eq_true rfl) ⟨2, rfl, (by decide), hc23⟩ ?_
        refine e_istore_nL [some (.ref 0), some (.int v22), some (.int v27), some (.int x3)] dX7_leastDistance_62 (Nat.le_of_ble_eq_true rfl) rfl ?_
        refine e_iincN 3 (1 : Int32) dX7_leastDistance_63 rfl ci_1 h (fun y9 => [some (.ref 0), some (.int v22), some (.int v27), some (.int y9)]) (fun _ => rfl) (fun v28 ev28 h => ?_)
        refine e_goto (tgt := 18) dX7_leastDistance_66 rfl ?_
        exact e_le (ih v22 v27 v28 μ24 _ hb9 h) ⟨rfl, rfl, rfl, rfl, trivial⟩
set_option maxHeartbeats 4000000 in
theorem b_X7_leastDistance : ∀ as μ r μ', Γ_X7_leastDistance as μ r μ' → (elvL as).length ≤ 4 ∧ G mX7_leastDistance (Qe r μ') 0 (elv as 4) [] μ (rc r 0) := by
  intro as μ r μ' h
  obtain ⟨rfl, h⟩ := h
  refine ⟨Nat.le_of_ble_eq_true rfl, ?_⟩
  show G mX7_leastDistance (Qe r μ') 0 [some (.ref 0), none, none, none] [] μ (rc r 0)
  unfold F_X7_leastDistance at h
  have hb9 : rc r 0 ≤ rc r 0 := Nat.le_refl _
  refine e_bipush dX7_leastDistance_0 cb_48 ?_
  refine e_istore_nL [some (.ref 0), some (.int (48 : Int32)), none, none] dX7_leastDistance_2 (Nat.le_of_ble_eq_true rfl) rfl ?_
  refine e_aload_n dX7_leastDistance_3 rfl ?_
  refine e_get (ci := 5) (j := 5) (t := 2) (v := .ref 6) dX7_leastDistance_4 rfl (by decide) rfl rfl rfl ?_
  refine e_aload_n dX7_leastDistance_7 rfl ?_
  refine e_get (ci := 5) (j := 1) (t := 2) (v := .ref 2) dX7_leastDistance_8 rfl (by decide) rfl rfl rfl ?_
  refine e_iconst dX7_leastDistance_11 ci_0 ?_
  refine cI_go h (fun E3 hc1 hr4 => e_VX [.ref 2, .int (0 : Int32)] [] dX7_leastDistance_12 rfl rfl rfl rfl ⟨Nat.le_of_ble_eq_true rfl, rfl⟩ (Nat.le_of_ble_eq_true rfl) (hbr hr4 hb9 (Nat.le_of_ble_eq_true rfl)) ⟨2, (0 : Int32), rfl, (by decide), hc1⟩ rfl ⟨hr4.symm, rfl⟩) (fun v5 μ2 hc1 h => ?_)
  refine e_VI [.ref 2, .int (0 : Int32)] [] dX7_leastDistance_12 rfl rfl rfl rfl ⟨Nat.le_of_ble_eq_true rfl, rfl⟩ (Nat.le_of_ble_eq_true rfl) ⟨2, (0 : Int32), rfl, (by decide), hc1⟩ ?_
  refine e_istore_nL [some (.ref 0), some (.int (48 : Int32)), some (.int v5), none] dX7_leastDistance_15 (Nat.le_of_ble_eq_true rfl) rfl ?_
  refine e_iconst dX7_leastDistance_16 ci_0 ?_
  refine e_istore_nL [some (.ref 0), some (.int (48 : Int32)), some (.int v5), some (.int (0 : Int32))] dX7_leastDistance_17 (Nat.le_of_ble_eq_true rfl) rfl ?_
  exact e_le (g_X7_leastDistance_18 BIG (48 : Int32) v5 (0 : Int32) μ2 _ hb9 h) ⟨rfl, rfl, rfl, rfl, trivial⟩
set_option maxRecDepth 20000 in
theorem ok_X7_leastDistance (l : Launch) (hl : l.stackTraces = false) : MOK l yX7_leastDistance.cls 6 145 mX7_leastDistance := ⟨lk_all (List.forall_mem_cons.mpr ⟨⟨yJ13_bitCount_95d88, cJ13_bitCount_95d88, 2, (some .int), 1, 0, by decide, by decide, t_1 7 rfl rfl, hd_J13_bitCount_95d88, Or.inl ⟨rfl, sc_J13_bitCount_95d88 l hl, t_1 155 rfl rfl, t_1 159 rfl rfl, t_1 154 rfl rfl⟩⟩, List.forall_mem_cons.mpr ⟨⟨yX2_findOutermost, cX2_findOutermost, 3, (some .boolean), 5, 119, by decide, by decide, t_1 6 rfl rfl, hd_X2_findOutermost, Or.inr (Or.inl ⟨rfl, sc_X2_findOutermost l hl, t_3 51 rfl rfl, t_3 48 rfl rfl, t_3 49 rfl rfl, _, rfl, t_3 50 rfl rfl⟩)⟩, List.forall_mem_cons.mpr ⟨⟨yX2_found, cX2_found, 1, (some .long), 1, 0, by decide, by decide, t_1 6 rfl rfl, hd_X2_found, Or.inr (Or.inl ⟨rfl, sc_X2_found l hl, t_3 67 rfl rfl, t_3 64 rfl rfl, t_3 65 rfl rfl, _, rfl, t_3 66 rfl rfl⟩)⟩, List.forall_mem_cons.mpr ⟨⟨yX2_advance, cX2_advance, 7, (some .boolean), 5, 119, by decide, by decide, t_1 6 rfl rfl, hd_X2_advance, Or.inr (Or.inl ⟨rfl, sc_X2_advance l hl, t_3 59 rfl rfl, t_3 56 rfl rfl, t_3 57 rfl rfl, _, rfl, t_3 58 rfl rfl⟩)⟩, List.forall_mem_cons.mpr ⟨⟨yJ9_min_7cf53, cJ9_min_7cf53, 2, (some .int), 0, 0, by decide, by decide, t_1 16 rfl rfl, hd_J9_min_7cf53, Or.inr (Or.inr (Or.inr (Or.inr (Or.inl ⟨rfl, rfl, rfl, rfl, rfl, t_3 78 rfl rfl, t_3 79 rfl rfl, t_1 16 rfl rfl, t_3 80 rfl rfl⟩))))⟩, nil_all⟩⟩⟩⟩⟩), fun ix ci j h => lk_all (P := fun ix q => FldOK yX7_leastDistance.cls ix q.1 q.2) (List.forall_mem_cons.mpr ⟨⟨_, rfl, by decide, t_1 123 rfl rfl⟩, List.forall_mem_cons.mpr ⟨⟨_, rfl, by decide, t_1 127 rfl rfl⟩, List.forall_mem_cons.mpr ⟨⟨_, rfl, by decide, t_1 54 rfl rfl⟩, nil_all⟩⟩⟩) ix (ci, j) h, lk_all (nil_all), lk_all (nil_all), lk_all (nil_all)⟩
theorem hd_X7_leastDistance : CallHd yX7_leastDistance 0 := ⟨by decide +kernel, by decide +kernel, by decide +kernel⟩
theorem sc_X7_leastDistance (l : Launch) (hl : l.stackTraces = false) : SCon l yX7_leastDistance cX7_leastDistance 4 (some .int) 6 145 0 Γ_X7_leastDistance := scon_of mX7_leastDistance cls_ok hl (by decide +kernel) rfl rfl (ok_X7_leastDistance l hl) rfl rfl b_X7_leastDistance
def F_X7_line (a0 : Int32) (a1 : Int32) (μ : Mem) : Out := cV (F_X7_checkLine a0 μ) (fun μ2 => cJ (F_X4_lineMask 2 a0 μ2) (fun v9 μ6 => if a1 = (0 : Int32) then (cI (F_X4_countOf 2 a0 μ6) (fun v15 μ12 => rI v15 μ12)) else if a1 = (1 : Int32) then (cI (F_X4_wantedOf 2 a0 μ6) (fun v21 μ18 => rI v21 μ18)) else if a1 = (2 : Int32) then (cI (F_X4_stepIn 2 a0 μ6) (fun v27 μ24 => cI (F_X0_countRuns ((μ6.2.1 2 2) &&& v9) v27 μ24) (fun v32 μ29 => rI v32 μ29))) else if a1 = (3 : Int32) then (cI (F_X4_stepIn 2 a0 μ6) (fun v38 μ35 => cI (F_X0_longestRun ((μ6.2.1 2 2) &&& v9) v38 μ35) (fun v43 μ40 => rI v43 μ40))) else if a1 = (4 : Int32) then (cI (F_J13_bitCount_95d88 ((μ6.2.1 2 3) &&& v9) μ6) (fun v49 μ46 => rI v49 μ46)) else (rX "java/lang/IllegalArgumentException" μ6)))
def Γ_X7_line : Gam := fun as μ r μ' => ∃ (a0 : Int32) (a1 : Int32), as = [.ref 0, .int a0, .int a1] ∧ F_X7_line a0 a1 μ = some (r, μ')
def mX7_line : MI := (cX7_line, [(104, (0, 1, 0, 0, Γ_J13_bitCount_95d88)), (138, (1, 1, 1, 5, Γ_X7_checkLine)), (142, (1, 1, 0, 2, Γ_X4_lineMask)), (146, (1, 1, 0, 2, Γ_X4_countOf)), (150, (1, 1, 0, 2, Γ_X4_wantedOf)), (153, (1, 1, 0, 2, Γ_X4_stepIn)), (156, (0, 2, 0, 0, Γ_X0_countRuns)), (160, (0, 2, 0, 0, Γ_X0_longestRun))], [(19, 5, 1), (100, 2, 3), (119, 2, 2)], [], [], [(121, "java/lang/IllegalArgumentException")], [], (29, none), (some .int))
set_option maxHeartbeats 4000000 in
theorem b_X7_line : ∀ as μ r μ', Γ_X7_line as μ r μ' → (elvL as).length ≤ 5 ∧ G mX7_line (Qe r μ') 0 (elv as 5) [] μ (rc r 1) := by
  intro as μ r μ' h
  obtain ⟨a0, a1, rfl, h⟩ := h
  refine ⟨Nat.le_of_ble_eq_true rfl, ?_⟩
  show G mX7_line (Qe r μ') 0 [some (.ref 0), some (.int a0), some (.int a1), none, none] [] μ (rc r 1)
  unfold F_X7_line at h
  have hb9 : rc r 1 ≤ rc r 1 := Nat.le_refl _
  refine e_aload_n dX7_line_0 rfl ?_
  refine e_iload_n dX7_line_1 rfl ?_
  refine cV_go h (fun E3 hc1 hr4 => e_VX [.int a0] [] dX7_line_2 rfl rfl rfl rfl ⟨Nat.le_of_ble_eq_true rfl, rfl⟩ (Nat.le_of_ble_eq_true rfl) (hbr hr4 hb9 (Nat.le_of_ble_eq_true rfl)) ⟨a0, rfl, hc1⟩ rfl ⟨hr4.symm, rfl⟩) (fun μ2 hc1 h => ?_)
  refine e_VV [.int a0] [] dX7_line_2 rfl rfl rfl rfl ⟨Nat.le_of_ble_eq_true rfl, rfl⟩ (Nat.le_of_ble_eq_true rfl) ⟨a0, rfl, hc1⟩ ?_
  refine e_aload_n dX7_line_5 rfl ?_
  refine e_get (ci := 5) (j := 1) (t := 2) (v := .ref 2) dX7_line_6 rfl (by decide) rfl rfl rfl ?_
  refine e_iload_n dX7_line_9 rfl ?_
  refine cJ_go h (fun E7 hc5 hr8 => e_VX [.int a0] [] dX7_line_10 rfl rfl rfl rfl ⟨Nat.le_of_ble_eq_true rfl, rfl⟩ (Nat.le_of_ble_eq_true rfl) (hbr hr8 hb9 (Nat.le_of_ble_eq_true rfl)) ⟨2, a0, rfl, (by decide), hc5⟩ rfl ⟨hr8.symm, rfl⟩) (fun v9 μ6 hc5 h => ?_)
  refine e_VJ [.int a0] [] dX7_line_10 rfl rfl rfl rfl ⟨Nat.le_of_ble_eq_true rfl, rfl⟩ (Nat.le_of_ble_eq_true rfl) ⟨2, a0, rfl, (by decide), hc5⟩ ?_
  refine e_lstore_nL [some (.ref 0), some (.int a0), some (.int a1), some (.long v9), none] dX7_line_13 (Nat.le_of_ble_eq_true rfl) rfl ?_
  refine e_iload_n dX7_line_14 rfl ?_
  by_cases hc10 : a1 = (0 : Int32)
  · rw [if_pos hc10] at h
    refine e_tsL (0 : Int32) (tgt := 48) hc10 dX7_line_15 (by decide) (by decide) rfl rfl ?_
    refine e_aload_n dX7_line_48 rfl ?_
    refine e_get (ci := 5) (j := 1) (t := 2) (v := .ref 2) dX7_line_49 rfl (by decide) rfl rfl rfl ?_
    refine e_iload_n dX7_line_52 rfl ?_
    refine cI_go h (fun E13 hc11 hr14 => e_VX [.int a0] [] dX7_line_53 rfl rfl rfl rfl ⟨Nat.le_of_ble_eq_true rfl, rfl⟩ (Nat.le_of_ble_eq_true rfl) (hbr hr14 hb9 (Nat.le_of_ble_eq_true rfl)) ⟨2, a0, rfl, (by decide), hc11⟩ rfl ⟨hr14.symm, rfl⟩) (fun v15 μ12 hc11 h => ?_)
    refine e_VI [.int a0] [] dX7_line_53 rfl rfl rfl rfl ⟨Nat.le_of_ble_eq_true rfl, rfl⟩ (Nat.le_of_ble_eq_true rfl) ⟨2, a0, rfl, (by decide), hc11⟩ ?_
    exact e_iret .int dX7_line_56 rfl rfl (ret_eq h)
  rw [if_neg hc10] at h
  by_cases hc16 : a1 = (1 : Int32)
  · rw [if_pos hc16] at h
    refine e_tsL (1 : Int32) (tgt := 57) hc16 dX7_line_15 (by decide) (by decide) rfl rfl ?_
    refine e_aload_n dX7_line_57 rfl ?_
    refine e_get (ci := 5) (j := 1) (t := 2) (v := .ref 2) dX7_line_58 rfl (by decide) rfl rfl rfl ?_
    refine e_iload_n dX7_line_61 rfl ?_
    refine cI_go h (fun E19 hc17 hr20 => e_VX [.int a0] [] dX7_line_62 rfl rfl rfl rfl ⟨Nat.le_of_ble_eq_true rfl, rfl⟩ (Nat.le_of_ble_eq_true rfl) (hbr hr20 hb9 (Nat.le_of_ble_eq_true rfl)) ⟨2, a0, rfl, (by decide), hc17⟩ rfl ⟨hr20.symm, rfl⟩) (fun v21 μ18 hc17 h => ?_)
    refine e_VI [.int a0] [] dX7_line_62 rfl rfl rfl rfl ⟨Nat.le_of_ble_eq_true rfl, rfl⟩ (Nat.le_of_ble_eq_true rfl) ⟨2, a0, rfl, (by decide), hc17⟩ ?_
    exact e_iret .int dX7_line_65 rfl rfl (ret_eq h)
  rw [if_neg hc16] at h
  by_cases hc22 : a1 = (2 : Int32)
  · rw [if_pos hc22] at h
    refine e_tsL (2 : Int32) (tgt := 66) hc22 dX7_line_15 (by decide) (by decide) rfl rfl ?_
    refine e_aload_n dX7_line_66 rfl ?_
    refine e_get (ci := 5) (j := 1) (t := 2) (v := .ref 2) dX7_line_67 rfl (by decide) rfl rfl rfl ?_
    refine e_get (ci := 2) (j := 2) (t := 1) (v := .long (μ6.2.1 2 2)) dX7_line_70 rfl (by decide) rfl rfl rfl ?_
    refine e_lload_n dX7_line_73 rfl ?_
    refine e_land dX7_line_74 ?_
    refine e_aload_n dX7_line_75 rfl ?_
    refine e_get (ci := 5) (j := 1) (t := 2) (v := .ref 2) dX7_line_76 rfl (by decide) rfl rfl rfl ?_
    refine e_iload_n dX7_line_79 rfl ?_
    refine cI_go h (fun E25 hc23 hr26 => e_VX [.int a0] [.long ((μ6.2.1 2 2) &&& v9)] dX7_line_80 rfl rfl rfl rfl ⟨Nat.le_of_ble_eq_true rfl, rfl⟩ (Nat.le_of_ble_eq_true rfl) (hbr hr26 hb9 (Nat.le_of_ble_eq_true rfl)) ⟨2, a0, rfl, (by decide), hc23⟩ rfl ⟨hr26.symm, rfl⟩) (fun v27 μ24 hc23 h => ?_)
    refine e_VI [.int a0] [.long ((μ6.2.1 2 2) &&& v9)] dX7_line_80 rfl rfl rfl rfl ⟨Nat.le_of_ble_eq_true rfl, rfl⟩ (Nat.le_of_ble_eq_true rfl) ⟨2, a0, rfl, (by decide), hc23⟩ ?_
    refine cI_go h (fun E30 hc28 hr31 => e_SX [.long ((μ6.2.1 2 2) &&& v9), .int v27] [] dX7_line_83 rfl (by decide) rfl rfl (Nat.le_of_ble_eq_true rfl) (hbr hr31 hb9 (Nat.le_of_ble_eq_true rfl)) ⟨(μ6.2.1 2 2) &&& v9, v27, rfl, hc28⟩ rfl ⟨hr31.symm, rfl⟩) (fun v32 μ29 hc28 h => ?_)
    refine e_SI [.long ((μ6.2.1 2 2) &&& v9), .int v27] [] dX7_line_83 rfl (by decide) rfl rfl (Nat.le_of_ble_eq_true rfl) ⟨(μ6.2.1 2 2) &&& v9, v27, rfl, hc28⟩ ?_
    exact e_iret .int dX7_line_86 rfl rfl (ret_eq h)
  rw [if_neg hc22] at h
  by_cases hc33 : a1 = (3 : Int32)
  · rw [if_pos hc33] at h
    refine e_tsL (3 : Int32) (tgt := 87) hc33 dX7_line_15 (by decide) (by decide) rfl rfl ?_
    refine e_aload_n dX7_line_87 rfl ?_
    refine e_get (ci := 5) (j := 1) (t := 2) (v := .ref 2) dX7_line_88 rfl (by decide) rfl rfl rfl ?_
    refine e_get (ci := 2) (j := 2) (t := 1) (v := .long (μ6.2.1 2 2)) dX7_line_91 rfl (by decide) rfl rfl rfl ?_
    refine e_lload_n dX7_line_94 rfl ?_
    refine e_land dX7_line_95 ?_
    refine e_aload_n dX7_line_96 rfl ?_
    refine e_get (ci := 5) (j := 1) (t := 2) (v := .ref 2) dX7_line_97 rfl (by decide) rfl rfl rfl ?_
    refine e_iload_n dX7_line_100 rfl ?_
    refine cI_go h (fun E36 hc34 hr37 => e_VX [.int a0] [.long ((μ6.2.1 2 2) &&& v9)] dX7_line_101 rfl rfl rfl rfl ⟨Nat.le_of_ble_eq_true rfl, rfl⟩ (Nat.le_of_ble_eq_true rfl) (hbr hr37 hb9 (Nat.le_of_ble_eq_true rfl)) ⟨2, a0, rfl, (by decide), hc34⟩ rfl ⟨hr37.symm, rfl⟩) (fun v38 μ35 hc34 h => ?_)
    refine e_VI [.int a0] [.long ((μ6.2.1 2 2) &&& v9)] dX7_line_101 rfl rfl rfl rfl ⟨Nat.le_of_ble_eq_true rfl, rfl⟩ (Nat.le_of_ble_eq_true rfl) ⟨2, a0, rfl, (by decide), hc34⟩ ?_
    refine cI_go h (fun E41 hc39 hr42 => e_SX [.long ((μ6.2.1 2 2) &&& v9), .int v38] [] dX7_line_104 rfl (by decide) rfl rfl (Nat.le_of_ble_eq_true rfl) (hbr hr42 hb9 (Nat.le_of_ble_eq_true rfl)) ⟨(μ6.2.1 2 2) &&& v9, v38, rfl, hc39⟩ rfl ⟨hr42.symm, rfl⟩) (fun v43 μ40 hc39 h => ?_)
    refine e_SI [.long ((μ6.2.1 2 2) &&& v9), .int v38] [] dX7_line_104 rfl (by decide) rfl rfl (Nat.le_of_ble_eq_true rfl) ⟨(μ6.2.1 2 2) &&& v9, v38, rfl, hc39⟩ ?_
    exact e_iret .int dX7_line_107 rfl rfl (ret_eq h)
  rw [if_neg hc33] at h
  by_cases hc44 : a1 = (4 : Int32)
  · rw [if_pos hc44] at h
    refine e_tsL (4 : Int32) (tgt := 108) hc44 dX7_line_15 (by decide) (by decide) rfl rfl ?_
    refine e_aload_n dX7_line_108 rfl ?_
    refine e_get (ci := 5) (j := 1) (t := 2) (v := .ref 2) dX7_line_109 rfl (by decide) rfl rfl rfl ?_
    refine e_get (ci := 2) (j := 3) (t := 1) (v := .long (μ6.2.1 2 3)) dX7_line_112 rfl (by decide) rfl rfl rfl ?_
    refine e_lload_n dX7_line_115 rfl ?_
    refine e_land dX7_line_116 ?_
    refine cI_go h (fun E47 hc45 hr48 => e_SX [.long ((μ6.2.1 2 3) &&& v9)] [] dX7_line_117 rfl (by decide) rfl rfl (Nat.le_of_ble_eq_true rfl) (hbr hr48 hb9 (Nat.le_of_ble_eq_true rfl)) ⟨(μ6.2.1 2 3) &&& v9, rfl, hc45⟩ rfl ⟨hr48.symm, rfl⟩) (fun v49 μ46 hc45 h => ?_)
    refine e_SI [.long ((μ6.2.1 2 3) &&& v9)] [] dX7_line_117 rfl (by decide) rfl rfl (Nat.le_of_ble_eq_true rfl) ⟨(μ6.2.1 2 3) &&& v9, rfl, hc45⟩ ?_
    exact e_iret .int dX7_line_120 rfl rfl (ret_eq h)
  rw [if_neg hc44] at h
  refine e_tsOut (tgt := 121) dX7_line_15 (ts_out_0_4 hc10 hc16 hc22 hc33 hc44) rfl ?_
  exact e_throw dX7_line_121 rfl (Nat.le_of_ble_eq_true rfl) (hbx h hb9 (Nat.le_of_ble_eq_true rfl)) rfl (ret_eq h)
set_option maxRecDepth 20000 in
theorem ok_X7_line (l : Launch) (hl : l.stackTraces = false) : MOK l yX7_line.cls 7 111 mX7_line := ⟨lk_all (List.forall_mem_cons.mpr ⟨⟨yJ13_bitCount_95d88, cJ13_bitCount_95d88, 2, (some .int), 1, 0, by decide, by decide, t_1 7 rfl rfl, hd_J13_bitCount_95d88, Or.inl ⟨rfl, sc_J13_bitCount_95d88 l hl, t_1 155 rfl rfl, t_1 159 rfl rfl, t_1 154 rfl rfl⟩⟩, List.forall_mem_cons.mpr ⟨⟨yX7_checkLine, cX7_checkLine, 2, none, 6, 90, by decide, by decide, t_1 1 rfl rfl, hd_X7_checkLine, Or.inr (Or.inl ⟨rfl, sc_X7_checkLine l hl, t_2 81 rfl rfl, t_2 78 rfl rfl, t_2 80 rfl rfl, _, rfl, t_p 2 rfl⟩)⟩, List.forall_mem_cons.mpr ⟨⟨yX4_lineMask, cX4_lineMask, 2, (some .long), 2, 20, by decide, by decide, t_1 3 rfl rfl, hd_X4_lineMask, Or.inr (Or.inl ⟨rfl, sc_X4_lineMask l hl, t_1 185 rfl rfl, t_2 102 rfl rfl, t_1 183 rfl rfl, _, rfl, t_1 184 rfl rfl⟩)⟩, List.forall_mem_cons.mpr ⟨⟨yX4_countOf, cX4_countOf, 2, (some .int), 3, 41, by decide, by decide, t_1 3 rfl rfl, hd_X4_countOf, Or.inr (Or.inl ⟨rfl, sc_X4_countOf l hl, t_1 181 rfl rfl, t_2 103 rfl rfl, t_1 179 rfl rfl, _, rfl, t_1 180 rfl rfl⟩)⟩, List.forall_mem_cons.mpr ⟨⟨yX4_wantedOf, cX4_wantedOf, 2, (some .int), 2, 22, by decide, by decide, t_1 3 rfl rfl, hd_X4_wantedOf, Or.inr (Or.inl ⟨rfl, sc_X4_wantedOf l hl, t_1 202 rfl rfl, t_2 104 rfl rfl, t_1 200 rfl rfl, _, rfl, t_1 201 rfl rfl⟩)⟩, List.forall_mem_cons.mpr ⟨⟨yX4_stepIn, cX4_stepIn, 2, (some .int), 1, 0, by decide, by decide, t_1 3 rfl rfl, hd_X4_stepIn, Or.inr (Or.inl ⟨rfl, sc_X4_stepIn l hl, t_2 108 rfl rfl, t_2 105 rfl rfl, t_2 106 rfl rfl, _, rfl, t_2 107 rfl rfl⟩)⟩, List.forall_mem_cons.mpr ⟨⟨yX0_countRuns, cX0_countRuns, 3, (some .int), 2, 21, by decide, by decide, t_1 9 rfl rfl, hd_X0_countRuns, Or.inl ⟨rfl, sc_X0_countRuns l hl, t_2 111 rfl rfl, t_2 109 rfl rfl, t_2 110 rfl rfl⟩⟩, List.forall_mem_cons.mpr ⟨⟨yX0_longestRun, cX0_longestRun, 7, (some .int), 1, 0, by decide, by decide, t_1 9 rfl rfl, hd_X0_longestRun, Or.inl ⟨rfl, sc_X0_longestRun l hl, t_2 114 rfl rfl, t_2 112 rfl rfl, t_2 113 rfl rfl⟩⟩, nil_all⟩⟩⟩⟩⟩⟩⟩⟩), fun ix ci j h => lk_all (P := fun ix q => FldOK yX7_line.cls ix q.1 q.2) (List.forall_mem_cons.mpr ⟨⟨_, rfl, by decide, t_1 123 rfl rfl⟩, List.forall_mem_cons.mpr ⟨⟨_, rfl, by decide, t_1 57 rfl rfl⟩, List.forall_mem_cons.mpr ⟨⟨_, rfl, by decide, t_1 54 rfl rfl⟩, nil_all⟩⟩⟩) ix (ci, j) h, lk_all (nil_all), lk_all (nil_all), lk_all (List.forall_mem_cons.mpr ⟨⟨rfl, List.mem_of_getElem? (i := 0) rfl, by decide, by decide, 53, 163, 57, "what is not 0 to 4", List.mem_of_getElem? (i := 2) rfl, t_2 6 rfl rfl, t_1 14 rfl rfl, th_IllegalArgumentException_57.1, th_IllegalArgumentException_57.2.1, List.forall_mem_cons.mpr ⟨rfl, List.forall_mem_cons.mpr ⟨rfl, th_IllegalArgumentException_57.2.2⟩⟩, dX7_line_121, dX7_line_124, Or.inl ⟨dX7_line_125, dX7_line_127, dX7_line_130⟩⟩, nil_all⟩)⟩
theorem hd_X7_line : CallHd yX7_line 2 := ⟨by decide +kernel, by decide +kernel, by decide +kernel⟩
theorem sc_X7_line (l : Launch) (hl : l.stackTraces = false) : SCon l yX7_line cX7_line 5 (some .int) 7 111 1 Γ_X7_line := scon_of mX7_line cls_ok hl (by decide +kernel) rfl rfl (ok_X7_line l hl) rfl rfl b_X7_line
def F_X7_nearest (μ : Mem) : Out := cI (F_X7_countFitting μ) (fun v5 μ2 => if v5 < (1 : Int32) then (rX "java/lang/IllegalStateException" μ2) else (if v5 < (100 : Int32) then (cI (F_X7_leastDistance μ2) (fun v12 μ9 => rI v12 μ9)) else (rX "java/lang/IllegalStateException" μ2)))
def Γ_X7_nearest : Gam := fun as μ r μ' => as = [.ref 0] ∧ F_X7_nearest μ = some (r, μ')
def mX7_nearest : MI := (cX7_nearest, [(287, (1, 0, 0, 5, Γ_X7_countFitting)), (298, (1, 0, 0, 5, Γ_X7_leastDistance))], [], [], [], [(16, "java/lang/IllegalStateException")], [], (29, none), (some .int))
set_option maxHeartbeats 4000000 in
theorem b_X7_nearest : ∀ as μ r μ', Γ_X7_nearest as μ r μ' → (elvL as).length ≤ 2 ∧ G mX7_nearest (Qe r μ') 0 (elv as 2) [] μ (rc r 1) := by
  intro as μ r μ' h
  obtain ⟨rfl, h⟩ := h
  refine ⟨Nat.le_of_ble_eq_true rfl, ?_⟩
  show G mX7_nearest (Qe r μ') 0 [some (.ref 0), none] [] μ (rc r 1)
  unfold F_X7_nearest at h
  have hb9 : rc r 1 ≤ rc r 1 := Nat.le_refl _
  refine e_aload_n dX7_nearest_0 rfl ?_
  refine cI_go h (fun E3 hc1 hr4 => e_VX [] [] dX7_nearest_1 rfl rfl rfl rfl ⟨Nat.le_of_ble_eq_true rfl, rfl⟩ (Nat.le_of_ble_eq_true rfl) (hbr hr4 hb9 (Nat.le_of_ble_eq_true rfl)) ⟨rfl, hc1⟩ rfl ⟨hr4.symm, rfl⟩) (fun v5 μ2 hc1 h => ?_)
  refine e_VI [] [] dX7_nearest_1 rfl rfl rfl rfl ⟨Nat.le_of_ble_eq_true rfl, rfl⟩ (Nat.le_of_ble_eq_true rfl) ⟨rfl, hc1⟩ ?_
  refine e_istore_nL [some (.ref 0), some (.int v5)] dX7_nearest_4 (Nat.le_of_ble_eq_true rfl) rfl ?_
  refine e_iload_n dX7_nearest_5 rfl ?_
  refine e_iconst dX7_nearest_6 ci_1 ?_
  refine e_ic_lt (tgt := 16) dX7_nearest_7 rfl (fun hc6 => ?_) (fun hc6 => ?_)
  · rw [if_pos hc6] at h
    exact e_throw dX7_nearest_16 rfl (Nat.le_of_ble_eq_true rfl) (hbx h hb9 (Nat.le_of_ble_eq_true rfl)) rfl (ret_eq h)
  · rw [if_neg hc6] at h
    refine e_iload_n dX7_nearest_10 rfl ?_
    refine e_bipush dX7_nearest_11 cb_100 ?_
    refine e_ic_lt (tgt := 27) dX7_nearest_13 rfl (fun hc7 => ?_) (fun hc7 => ?_)
    · rw [if_pos hc7] at h
      refine e_aload_n dX7_nearest_27 rfl ?_
      refine cI_go h (fun E10 hc8 hr11 => e_VX [] [] dX7_nearest_28 rfl rfl rfl rfl ⟨Nat.le_of_ble_eq_true rfl, rfl⟩ (Nat.le_of_ble_eq_true rfl) (hbr hr11 hb9 (Nat.le_of_ble_eq_true rfl)) ⟨rfl, hc8⟩ rfl ⟨hr11.symm, rfl⟩) (fun v12 μ9 hc8 h => ?_)
      refine e_VI [] [] dX7_nearest_28 rfl rfl rfl rfl ⟨Nat.le_of_ble_eq_true rfl, rfl⟩ (Nat.le_of_ble_eq_true rfl) ⟨rfl, hc8⟩ ?_
      exact e_iret .int dX7_nearest_31 rfl rfl (ret_eq h)
    · rw [if_neg hc7] at h
      exact e_throw dX7_nearest_16 rfl (Nat.le_of_ble_eq_true rfl) (hbx h hb9 (Nat.le_of_ble_eq_true rfl)) rfl (ret_eq h)
set_option maxRecDepth 20000 in
theorem ok_X7_nearest (l : Launch) (hl : l.stackTraces = false) : MOK l yX7_nearest.cls 7 168 mX7_nearest := ⟨lk_all (List.forall_mem_cons.mpr ⟨⟨yX7_countFitting, cX7_countFitting, 3, (some .int), 6, 145, by decide, by decide, t_1 1 rfl rfl, hd_X7_countFitting, Or.inr (Or.inl ⟨rfl, sc_X7_countFitting l hl, t_3 47 rfl rfl, t_3 44 rfl rfl, t_3 46 rfl rfl, _, rfl, t_p 13 rfl⟩)⟩, List.forall_mem_cons.mpr ⟨⟨yX7_leastDistance, cX7_leastDistance, 4, (some .int), 6, 145, by decide, by decide, t_1 1 rfl rfl, hd_X7_leastDistance, Or.inr (Or.inl ⟨rfl, sc_X7_leastDistance l hl, t_3 77 rfl rfl, t_3 74 rfl rfl, t_3 76 rfl rfl, _, rfl, t_p 15 rfl⟩)⟩, nil_all⟩⟩), fun ix ci j h => lk_all (P := fun ix q => FldOK yX7_nearest.cls ix q.1 q.2) (nil_all) ix (ci, j) h, lk_all (nil_all), lk_all (nil_all), lk_all (List.forall_mem_cons.mpr ⟨⟨rfl, List.mem_of_getElem? (i := 1) rfl, by decide, by decide, 64, 296, 68, "no picture fits, or too many do", List.mem_of_getElem? (i := 7) rfl, t_2 224 rfl rfl, t_1 15 rfl rfl, th_IllegalStateException_68.1, th_IllegalStateException_68.2.1, List.forall_mem_cons.mpr ⟨rfl, List.forall_mem_cons.mpr ⟨rfl, th_IllegalStateException_68.2.2⟩⟩, dX7_nearest_16, dX7_nearest_19, Or.inr ⟨dX7_nearest_20, dX7_nearest_23, dX7_nearest_26⟩⟩, nil_all⟩)⟩
theorem hd_X7_nearest : CallHd yX7_nearest 0 := ⟨by decide +kernel, by decide +kernel, by decide +kernel⟩
theorem sc_X7_nearest (l : Launch) (hl : l.stackTraces = false) : SCon l yX7_nearest cX7_nearest 2 (some .int) 7 168 1 Γ_X7_nearest := scon_of mX7_nearest cls_ok hl (by decide +kernel) rfl rfl (ok_X7_nearest l hl) rfl rfl b_X7_nearest
def F_X7_next (μ : Mem) : Out := cI (F_X2_findBehind 2 μ) (fun v5 μ2 => if v5 = 0 then (rX "java/lang/IllegalStateException" μ2) else (cV (F_X3_remember 2 μ2) (fun μ8 => cJ (F_X2_found μ8) (fun v15 μ12 => cI (F_X4_refill 2 v15 μ12) (fun v20 μ17 => rI v20 μ17)))))
def Γ_X7_next : Gam := fun as μ r μ' => as = [.ref 0] ∧ F_X7_next μ = some (r, μ')
def mX7_next : MI := (cX7_next, [(214, (1, 1, 0, 1, Γ_X3_remember)), (262, (1, 0, 0, 0, Γ_X2_found)), (266, (1, 1, 0, 2, Γ_X4_refill)), (269, (1, 1, 0, 0, Γ_X2_findBehind))], [(19, 5, 1), (29, 5, 3), (43, 5, 5)], [], [], [(14, "java/lang/IllegalStateException")], [], (29, none), (some .int))
set_option maxHeartbeats 4000000 in
theorem b_X7_next : ∀ as μ r μ', Γ_X7_next as μ r μ' → (elvL as).length ≤ 1 ∧ G mX7_next (Qe r μ') 0 (elv as 1) [] μ (rc r 1) := by
  intro as μ r μ' h
  obtain ⟨rfl, h⟩ := h
  refine ⟨Nat.le_of_ble_eq_true rfl, ?_⟩
  show G mX7_next (Qe r μ') 0 [some (.ref 0)] [] μ (rc r 1)
  unfold F_X7_next at h
  have hb9 : rc r 1 ≤ rc r 1 := Nat.le_refl _
  refine e_aload_n dX7_next_0 rfl ?_
  refine e_get (ci := 5) (j := 5) (t := 2) (v := .ref 6) dX7_next_1 rfl (by decide) rfl rfl rfl ?_
  refine e_aload_n dX7_next_4 rfl ?_
  refine e_get (ci := 5) (j := 1) (t := 2) (v := .ref 2) dX7_next_5 rfl (by decide) rfl rfl rfl ?_
  refine cI_go h (fun E3 hc1 hr4 => e_VX [.ref 2] [] dX7_next_8 rfl rfl rfl rfl ⟨Nat.le_of_ble_eq_true rfl, rfl⟩ (Nat.le_of_ble_eq_true rfl) (hbr hr4 hb9 (Nat.le_of_ble_eq_true rfl)) ⟨2, rfl, (by decide), hc1⟩ rfl ⟨hr4.symm, rfl⟩) (fun v5 μ2 hc1 h => ?_)
  refine e_VI [.ref 2] [] dX7_next_8 rfl rfl rfl rfl ⟨Nat.le_of_ble_eq_true rfl, rfl⟩ (Nat.le_of_ble_eq_true rfl) ⟨2, rfl, (by decide), hc1⟩ ?_
  refine e_if_ne (tgt := 25) dX7_next_11 rfl (fun hc6 => ?_) (fun hc6 => ?_)
  · rw [if_neg hc6] at h
    refine e_aload_n dX7_next_25 rfl ?_
    refine e_get (ci := 5) (j := 3) (t := 2) (v := .ref 4) dX7_next_26 rfl (by decide) rfl rfl rfl ?_
    refine e_aload_n dX7_next_29 rfl ?_
    refine e_get (ci := 5) (j := 1) (t := 2) (v := .ref 2) dX7_next_30 rfl (by decide) rfl rfl rfl ?_
    refine cV_go h (fun E9 hc7 hr10 => e_VX [.ref 2] [] dX7_next_33 rfl rfl rfl rfl ⟨Nat.le_of_ble_eq_true rfl, rfl⟩ (Nat.le_of_ble_eq_true rfl) (hbr hr10 hb9 (Nat.le_of_ble_eq_true rfl)) ⟨2, rfl, (by decide), hc7⟩ rfl ⟨hr10.symm, rfl⟩) (fun μ8 hc7 h => ?_)
    refine e_VV [.ref 2] [] dX7_next_33 rfl rfl rfl rfl ⟨Nat.le_of_ble_eq_true rfl, rfl⟩ (Nat.le_of_ble_eq_true rfl) ⟨2, rfl, (by decide), hc7⟩ ?_
    refine e_aload_n dX7_next_36 rfl ?_
    refine e_get (ci := 5) (j := 1) (t := 2) (v := .ref 2) dX7_next_37 rfl (by decide) rfl rfl rfl ?_
    refine e_aload_n dX7_next_40 rfl ?_
    refine e_get (ci := 5) (j := 5) (t := 2) (v := .ref 6) dX7_next_41 rfl (by decide) rfl rfl rfl ?_
    refine cJ_go h (fun E13 hc11 hr14 => e_VX [] [.ref 2] dX7_next_44 rfl rfl rfl rfl ⟨Nat.le_of_ble_eq_true rfl, rfl⟩ (Nat.le_of_ble_eq_true rfl) (hbr hr14 hb9 (Nat.le_of_ble_eq_true rfl)) ⟨rfl, hc11⟩ rfl ⟨hr14.symm, rfl⟩) (fun v15 μ12 hc11 h => ?_)
    refine e_VJ [] [.ref 2] dX7_next_44 rfl rfl rfl rfl ⟨Nat.le_of_ble_eq_true rfl, rfl⟩ (Nat.le_of_ble_eq_true rfl) ⟨rfl, hc11⟩ ?_
    refine cI_go h (fun E18 hc16 hr19 => e_VX [.long v15] [] dX7_next_47 rfl rfl rfl rfl ⟨Nat.le_of_ble_eq_true rfl, rfl⟩ (Nat.le_of_ble_eq_true rfl) (hbr hr19 hb9 (Nat.le_of_ble_eq_true rfl)) ⟨2, v15, rfl, (by decide), hc16⟩ rfl ⟨hr19.symm, rfl⟩) (fun v20 μ17 hc16 h => ?_)
    refine e_VI [.long v15] [] dX7_next_47 rfl rfl rfl rfl ⟨Nat.le_of_ble_eq_true rfl, rfl⟩ (Nat.le_of_ble_eq_true rfl) ⟨2, v15, rfl, (by decide), hc16⟩ ?_
    exact e_iret .int dX7_next_50 rfl rfl (ret_eq h)
  · rw [if_pos hc6] at h
    exact e_throw dX7_next_14 rfl (Nat.le_of_ble_eq_true rfl) (hbx h hb9 (Nat.le_of_ble_eq_true rfl)) rfl (ret_eq h)
set_option maxRecDepth 20000 in
theorem ok_X7_next (l : Launch) (hl : l.stackTraces = false) : MOK l yX7_next.cls 6 145 mX7_next := ⟨lk_all (List.forall_mem_cons.mpr ⟨⟨yX3_remember, cX3_remember, 2, none, 2, 22, by decide, by decide, t_1 4 rfl rfl, hd_X3_remember, Or.inr (Or.inl ⟨rfl, sc_X3_remember l hl, t_2 197 rfl rfl, t_2 194 rfl rfl, t_2 195 rfl rfl, _, rfl, t_2 196 rfl rfl⟩)⟩, List.forall_mem_cons.mpr ⟨⟨yX2_found, cX2_found, 1, (some .long), 1, 0, by decide, by decide, t_1 6 rfl rfl, hd_X2_found, Or.inr (Or.inl ⟨rfl, sc_X2_found l hl, t_3 67 rfl rfl, t_3 64 rfl rfl, t_3 65 rfl rfl, _, rfl, t_3 66 rfl rfl⟩)⟩, List.forall_mem_cons.mpr ⟨⟨yX4_refill, cX4_refill, 4, (some .int), 2, 21, by decide, by decide, t_1 3 rfl rfl, hd_X4_refill, Or.inr (Or.inl ⟨rfl, sc_X4_refill l hl, t_3 238 rfl rfl, t_3 235 rfl rfl, t_3 236 rfl rfl, _, rfl, t_3 237 rfl rfl⟩)⟩, List.forall_mem_cons.mpr ⟨⟨yX2_findBehind, cX2_findBehind, 7, (some .boolean), 5, 119, by decide, by decide, t_1 6 rfl rfl, hd_X2_findBehind, Or.inr (Or.inl ⟨rfl, sc_X2_findBehind l hl, t_4 9 rfl rfl, t_4 6 rfl rfl, t_4 7 rfl rfl, _, rfl, t_4 8 rfl rfl⟩)⟩, nil_all⟩⟩⟩⟩), fun ix ci j h => lk_all (P := fun ix q => FldOK yX7_next.cls ix q.1 q.2) (List.forall_mem_cons.mpr ⟨⟨_, rfl, by decide, t_1 123 rfl rfl⟩, List.forall_mem_cons.mpr ⟨⟨_, rfl, by decide, t_1 125 rfl rfl⟩, List.forall_mem_cons.mpr ⟨⟨_, rfl, by decide, t_1 127 rfl rfl⟩, nil_all⟩⟩⟩) ix (ci, j) h, lk_all (nil_all), lk_all (nil_all), lk_all (List.forall_mem_cons.mpr ⟨⟨rfl, List.mem_of_getElem? (i := 1) rfl, by decide, by decide, 64, 273, 68, "no picture fits behind this one", List.mem_of_getElem? (i := 16) rfl, t_2 224 rfl rfl, t_1 15 rfl rfl, th_IllegalStateException_68.1, th_IllegalStateException_68.2.1, List.forall_mem_cons.mpr ⟨rfl, List.forall_mem_cons.mpr ⟨rfl, th_IllegalStateException_68.2.2⟩⟩, dX7_next_14, dX7_next_17, Or.inr ⟨dX7_next_18, dX7_next_21, dX7_next_24⟩⟩, nil_all⟩)⟩
theorem hd_X7_next : CallHd yX7_next 0 := ⟨by decide +kernel, by decide +kernel, by decide +kernel⟩
theorem sc_X7_next (l : Launch) (hl : l.stackTraces = false) : SCon l yX7_next cX7_next 1 (some .int) 6 145 1 Γ_X7_next := scon_of mX7_next cls_ok hl (by decide +kernel) rfl rfl (ok_X7_next l hl) rfl rfl b_X7_next
def F_X7_piece (a0 : Int32) (a1 : Int32) (μ : Mem) : Out := if a0 < 0 then (rX "java/lang/IndexOutOfBoundsException" μ) else (cI (F_X0_countPieces (μ.2.1 2 2) μ) (fun v6 μ3 => if a0 < v6 then (cJ (F_X0_pieceNumbered (μ3.2.1 2 2) a0 μ3) (fun v12 μ9 => if a1 = (0 : Int32) then (cI (F_J13_bitCount_95d88 v12 μ9) (fun v18 μ15 => rI v18 μ15)) else if a1 = (1 : Int32) then (cI (F_X0_outline v12 (μ9.2.1 2 2) μ9) (fun v24 μ21 => rI v24 μ21)) else if a1 = (2 : Int32) then (cI (F_X0_countRowsOf v12 μ9) (fun v30 μ27 => rI v30 μ27)) else if a1 = (3 : Int32) then (cI (F_X0_countColumnsOf v12 μ9) (fun v36 μ33 => rI v36 μ33)) else if a1 = (4 : Int32) then (cI (F_X0_firstPosition v12 μ9) (fun v42 μ39 => cI (F_X0_code v42 μ39) (fun v47 μ44 => rI v47 μ44))) else (rX "java/lang/IllegalArgumentException" μ9))) else (rX "java/lang/IndexOutOfBoundsException" μ3)))
def Γ_X7_piece : Gam := fun as μ r μ' => ∃ (a0 : Int32) (a1 : Int32), as = [.ref 0, .int a0, .int a1] ∧ F_X7_piece a0 a1 μ = some (r, μ')
def mX7_piece : MI := (cX7_piece, [(104, (0, 1, 0, 0, Γ_J13_bitCount_95d88)), (122, (0, 1, 0, 0, Γ_X0_countPieces)), (125, (0, 2, 0, 0, Γ_X0_outline)), (189, (0, 2, 0, 0, Γ_X0_pieceNumbered)), (193, (0, 1, 0, 0, Γ_X0_countRowsOf)), (196, (0, 1, 0, 0, Γ_X0_countColumnsOf)), (199, (0, 1, 0, 0, Γ_X0_firstPosition)), (202, (0, 1, 0, 0, Γ_X0_code))], [(19, 5, 1), (119, 2, 2)], [], [], [(18, "java/lang/IndexOutOfBoundsException"), (111, "java/lang/IllegalArgumentException")], [], (29, none), (some .int))
set_option maxHeartbeats 4000000 in
theorem b_X7_piece : ∀ as μ r μ', Γ_X7_piece as μ r μ' → (elvL as).length ≤ 5 ∧ G mX7_piece (Qe r μ') 0 (elv as 5) [] μ (rc r 1) := by
  intro as μ r μ' h
  obtain ⟨a0, a1, rfl, h⟩ := h
  refine ⟨Nat.le_of_ble_eq_true rfl, ?_⟩
  show G mX7_piece (Qe r μ') 0 [some (.ref 0), some (.int a0), some (.int a1), none, none] [] μ (rc r 1)
  unfold F_X7_piece at h
  have hb9 : rc r 1 ≤ rc r 1 := Nat.le_refl _
  refine e_iload_n dX7_piece_0 rfl ?_
  refine e_if_lt (tgt := 18) dX7_piece_1 rfl (fun hc1 => ?_) (fun hc1 => ?_)
  · rw [if_pos hc1] at h
    exact e_throw dX7_piece_18 rfl (Nat.le_of_ble_eq_true rfl) (hbx h hb9 (Nat.le_of_ble_eq_true rfl)) rfl (ret_eq h)
  · rw [if_neg hc1] at h
    refine e_iload_n dX7_piece_4 rfl ?_
    refine e_aload_n dX7_piece_5 rfl ?_
    refine e_get (ci := 5) (j := 1) (t := 2) (v := .ref 2) dX7_piece_6 rfl (by decide) rfl rfl rfl ?_
    refine e_get (ci := 2) (j := 2) (t := 1) (v := .long (μ.2.1 2 2)) dX7_piece_9 rfl (by decide) rfl rfl rfl ?_
    refine cI_go h (fun E4 hc2 hr5 => e_SX [.long (μ.2.1 2 2)] [.int a0] dX7_piece_12 rfl (by decide) rfl rfl (Nat.le_of_ble_eq_true rfl) (hbr hr5 hb9 (Nat.le_of_ble_eq_true rfl)) ⟨μ.2.1 2 2, rfl, hc2⟩ rfl ⟨hr5.symm, rfl⟩) (fun v6 μ3 hc2 h => ?_)
    refine e_SI [.long (μ.2.1 2 2)] [.int a0] dX7_piece_12 rfl (by decide) rfl rfl (Nat.le_of_ble_eq_true rfl) ⟨μ.2.1 2 2, rfl, hc2⟩ ?_
    refine e_ic_lt (tgt := 28) dX7_piece_15 rfl (fun hc7 => ?_) (fun hc7 => ?_)
    · rw [if_pos hc7] at h
      refine e_aload_n dX7_piece_28 rfl ?_
      refine e_get (ci := 5) (j := 1) (t := 2) (v := .ref 2) dX7_piece_29 rfl (by decide) rfl rfl rfl ?_
      refine e_get (ci := 2) (j := 2) (t := 1) (v := .long (μ3.2.1 2 2)) dX7_piece_32 rfl (by decide) rfl rfl rfl ?_
      refine e_iload_n dX7_piece_35 rfl ?_
      refine cJ_go h (fun E10 hc8 hr11 => e_SX [.long (μ3.2.1 2 2), .int a0] [] dX7_piece_36 rfl (by decide) rfl rfl (Nat.le_of_ble_eq_true rfl) (hbr hr11 hb9 (Nat.le_of_ble_eq_true rfl)) ⟨μ3.2.1 2 2, a0, rfl, hc8⟩ rfl ⟨hr11.symm, rfl⟩) (fun v12 μ9 hc8 h => ?_)
      refine e_SJ [.long (μ3.2.1 2 2), .int a0] [] dX7_piece_36 rfl (by decide) rfl rfl (Nat.le_of_ble_eq_true rfl) ⟨μ3.2.1 2 2, a0, rfl, hc8⟩ ?_
      refine e_lstore_nL [some (.ref 0), some (.int a0), some (.int a1), some (.long v12), none] dX7_piece_39 (Nat.le_of_ble_eq_true rfl) rfl ?_
      refine e_iload_n dX7_piece_40 rfl ?_
      by_cases hc13 : a1 = (0 : Int32)
      · rw [if_pos hc13] at h
        refine e_tsL (0 : Int32) (tgt := 76) hc13 dX7_piece_41 (by decide) (by decide) rfl rfl ?_
        refine e_lload_n dX7_piece_76 rfl ?_
        refine cI_go h (fun E16 hc14 hr17 => e_SX [.long v12] [] dX7_piece_77 rfl (by decide) rfl rfl (Nat.le_of_ble_eq_true rfl) (hbr hr17 hb9 (Nat.le_of_ble_eq_true rfl)) ⟨v12, rfl, hc14⟩ rfl ⟨hr17.symm, rfl⟩) (fun v18 μ15 hc14 h => ?_)
        refine e_SI [.long v12] [] dX7_piece_77 rfl (by decide) rfl rfl (Nat.le_of_ble_eq_true rfl) ⟨v12, rfl, hc14⟩ ?_
        exact e_iret .int dX7_piece_80 rfl rfl (ret_eq h)
      rw [if_neg hc13] at h
      by_cases hc19 : a1 = (1 : Int32)
      · rw [if_pos hc19] at h
        refine e_tsL (1 : Int32) (tgt := 81) hc19 dX7_piece_41 (by decide) (by decide) rfl rfl ?_
        refine e_lload_n dX7_piece_81 rfl ?_
        refine e_aload_n dX7_piece_82 rfl ?_
        refine e_get (ci := 5) (j := 1) (t := 2) (v := .ref 2) dX7_piece_83 rfl (by decide) rfl rfl rfl ?_
        refine e_get (ci := 2) (j := 2) (t := 1) (v := .long (μ9.2.1 2 2)) dX7_piece_86 rfl (by decide) rfl rfl rfl ?_
        refine cI_go h (fun E22 hc20 hr23 => e_SX [.long v12, .long (μ9.2.1 2 2)] [] dX7_piece_89 rfl (by decide) rfl rfl (Nat.le_of_ble_eq_true rfl) (hbr hr23 hb9 (Nat.le_of_ble_eq_true rfl)) ⟨v12, μ9.2.1 2 2, rfl, hc20⟩ rfl ⟨hr23.symm, rfl⟩) (fun v24 μ21 hc20 h => ?_)
        refine e_SI [.long v12, .long (μ9.2.1 2 2)] [] dX7_piece_89 rfl (by decide) rfl rfl (Nat.le_of_ble_eq_true rfl) ⟨v12, μ9.2.1 2 2, rfl, hc20⟩ ?_
        exact e_iret .int dX7_piece_92 rfl rfl (ret_eq h)
      rw [if_neg hc19] at h
      by_cases hc25 : a1 = (2 : Int32)
      · rw [if_pos hc25] at h
        refine e_tsL (2 : Int32) (tgt := 93) hc25 dX7_piece_41 (by decide) (by decide) rfl rfl ?_
        refine e_lload_n dX7_piece_93 rfl ?_
        refine cI_go h (fun E28 hc26 hr29 => e_SX [.long v12] [] dX7_piece_94 rfl (by decide) rfl rfl (Nat.le_of_ble_eq_true rfl) (hbr hr29 hb9 (Nat.le_of_ble_eq_true rfl)) ⟨v12, rfl, hc26⟩ rfl ⟨hr29.symm, rfl⟩) (fun v30 μ27 hc26 h => ?_)
        refine e_SI [.long v12] [] dX7_piece_94 rfl (by decide) rfl rfl (Nat.le_of_ble_eq_true rfl) ⟨v12, rfl, hc26⟩ ?_
        exact e_iret .int dX7_piece_97 rfl rfl (ret_eq h)
      rw [if_neg hc25] at h
      by_cases hc31 : a1 = (3 : Int32)
      · rw [if_pos hc31] at h
        refine e_tsL (3 : Int32) (tgt := 98) hc31 dX7_piece_41 (by decide) (by decide) rfl rfl ?_
        refine e_lload_n dX7_piece_98 rfl ?_
        refine cI_go h (fun E34 hc32 hr35 => e_SX [.long v12] [] dX7_piece_99 rfl (by decide) rfl rfl (Nat.le_of_ble_eq_true rfl) (hbr hr35 hb9 (Nat.le_of_ble_eq_true rfl)) ⟨v12, rfl, hc32⟩ rfl ⟨hr35.symm, rfl⟩) (fun v36 μ33 hc32 h => ?_)
        refine e_SI [.long v12] [] dX7_piece_99 rfl (by decide) rfl rfl (Nat.le_of_ble_eq_true rfl) ⟨v12, rfl, hc32⟩ ?_
        exact e_iret .int dX7_piece_102 rfl rfl (ret_eq h)
      rw [if_neg hc31] at h
      by_cases hc37 : a1 = (4 : Int32)
      · rw [if_pos hc37] at h
        refine e_tsL (4 : Int32) (tgt := 103) hc37 dX7_piece_41 (by decide) (by decide) rfl rfl ?_
        refine e_lload_n dX7_piece_103 rfl ?_
        refine cI_go h (fun E40 hc38 hr41 => e_SX [.long v12] [] dX7_piece_104 rfl (by decide) rfl rfl (Nat.le_of_ble_eq_true rfl) (hbr hr41 hb9 (Nat.le_of_ble_eq_true rfl)) ⟨v12, rfl, hc38⟩ rfl ⟨hr41.symm, rfl⟩) (fun v42 μ39 hc38 h => ?_)
        refine e_SI [.long v12] [] dX7_piece_104 rfl (by decide) rfl rfl (Nat.le_of_ble_eq_true rfl) ⟨v12, rfl, hc38⟩ ?_
        refine cI_go h (fun E45 hc43 hr46 => e_SX [.int v42] [] dX7_piece_107 rfl (by decide) rfl rfl (Nat.le_of_ble_eq_true rfl) (hbr hr46 hb9 (Nat.le_of_ble_eq_true rfl)) ⟨v42, rfl, hc43⟩ rfl ⟨hr46.symm, rfl⟩) (fun v47 μ44 hc43 h => ?_)
        refine e_SI [.int v42] [] dX7_piece_107 rfl (by decide) rfl rfl (Nat.le_of_ble_eq_true rfl) ⟨v42, rfl, hc43⟩ ?_
        exact e_iret .int dX7_piece_110 rfl rfl (ret_eq h)
      rw [if_neg hc37] at h
      refine e_tsOut (tgt := 111) dX7_piece_41 (ts_out_0_4 hc13 hc19 hc25 hc31 hc37) rfl ?_
      exact e_throw dX7_piece_111 rfl (Nat.le_of_ble_eq_true rfl) (hbx h hb9 (Nat.le_of_ble_eq_true rfl)) rfl (ret_eq h)
    · rw [if_neg hc7] at h
      exact e_throw dX7_piece_18 rfl (Nat.le_of_ble_eq_true rfl) (hbx h hb9 (Nat.le_of_ble_eq_true rfl)) rfl (ret_eq h)
set_option maxRecDepth 20000 in
theorem ok_X7_piece (l : Launch) (hl : l.stackTraces = false) : MOK l yX7_piece.cls 6 90 mX7_piece := ⟨lk_all (List.forall_mem_cons.mpr ⟨⟨yJ13_bitCount_95d88, cJ13_bitCount_95d88, 2, (some .int), 1, 0, by decide, by decide, t_1 7 rfl rfl, hd_J13_bitCount_95d88, Or.inl ⟨rfl, sc_J13_bitCount_95d88 l hl, t_1 155 rfl rfl, t_1 159 rfl rfl, t_1 154 rfl rfl⟩⟩, List.forall_mem_cons.mpr ⟨⟨yX0_countPieces, cX0_countPieces, 6, (some .int), 2, 26, by decide, by decide, t_1 9 rfl rfl, hd_X0_countPieces, Or.inl ⟨rfl, sc_X0_countPieces l hl, t_1 209 rfl rfl, t_1 207 rfl rfl, t_1 208 rfl rfl⟩⟩, List.forall_mem_cons.mpr ⟨⟨yX0_outline, cX0_outline, 4, (some .int), 2, 21, by decide, by decide, t_1 9 rfl rfl, hd_X0_outline, Or.inl ⟨rfl, sc_X0_outline l hl, t_1 216 rfl rfl, t_1 214 rfl rfl, t_1 215 rfl rfl⟩⟩, List.forall_mem_cons.mpr ⟨⟨yX0_pieceNumbered, cX0_pieceNumbered, 6, (some .long), 2, 26, by decide, by decide, t_1 9 rfl rfl, hd_X0_pieceNumbered, Or.inl ⟨rfl, sc_X0_pieceNumbered l hl, t_3 159 rfl rfl, t_3 157 rfl rfl, t_3 158 rfl rfl⟩⟩, List.forall_mem_cons.mpr ⟨⟨yX0_countRowsOf, cX0_countRowsOf, 4, (some .int), 2, 20, by decide, by decide, t_1 9 rfl rfl, hd_X0_countRowsOf, Or.inl ⟨rfl, sc_X0_countRowsOf l hl, t_3 162 rfl rfl, t_3 160 rfl rfl, t_3 161 rfl rfl⟩⟩, List.forall_mem_cons.mpr ⟨⟨yX0_countColumnsOf, cX0_countColumnsOf, 4, (some .int), 2, 20, by decide, by decide, t_1 9 rfl rfl, hd_X0_countColumnsOf, Or.inl ⟨rfl, sc_X0_countColumnsOf l hl, t_3 167 rfl rfl, t_3 165 rfl rfl, t_3 166 rfl rfl⟩⟩, List.forall_mem_cons.mpr ⟨⟨yX0_firstPosition, cX0_firstPosition, 2, (some .int), 2, 21, by decide, by decide, t_1 9 rfl rfl, hd_X0_firstPosition, Or.inl ⟨rfl, sc_X0_firstPosition l hl, t_3 171 rfl rfl, t_3 169 rfl rfl, t_3 170 rfl rfl⟩⟩, List.forall_mem_cons.mpr ⟨⟨yX0_code, cX0_code, 1, (some .int), 2, 20, by decide, by decide, t_1 9 rfl rfl, hd_X0_code, Or.inl ⟨rfl, sc_X0_code l hl, t_3 174 rfl rfl, t_3 172 rfl rfl, t_3 173 rfl rfl⟩⟩, nil_all⟩⟩⟩⟩⟩⟩⟩⟩), fun ix ci j h => lk_all (P := fun ix q => FldOK yX7_piece.cls ix q.1 q.2) (List.forall_mem_cons.mpr ⟨⟨_, rfl, by decide, t_1 123 rfl rfl⟩, List.forall_mem_cons.mpr ⟨⟨_, rfl, by decide, t_1 54 rfl rfl⟩, nil_all⟩⟩) ix (ci, j) h, lk_all (nil_all), lk_all (nil_all), lk_all (List.forall_mem_cons.mpr ⟨⟨rfl, List.mem_of_getElem? (i := 2) rfl, by decide, by decide, 184, 186, 188, "no such piece", List.mem_of_getElem? (i := 9) rfl, t_2 86 rfl rfl, t_1 17 rfl rfl, th_IndexOutOfBoundsException_188.1, th_IndexOutOfBoundsException_188.2.1, List.forall_mem_cons.mpr ⟨rfl, List.forall_mem_cons.mpr ⟨rfl, th_IndexOutOfBoundsException_188.2.2⟩⟩, dX7_piece_18, dX7_piece_21, Or.inl ⟨dX7_piece_22, dX7_piece_24, dX7_piece_27⟩⟩, List.forall_mem_cons.mpr ⟨⟨rfl, List.mem_of_getElem? (i := 0) rfl, by decide, by decide, 53, 163, 57, "what is not 0 to 4", List.mem_of_getElem? (i := 2) rfl, t_2 6 rfl rfl, t_1 14 rfl rfl, th_IllegalArgumentException_57.1, th_IllegalArgumentException_57.2.1, List.forall_mem_cons.mpr ⟨rfl, List.forall_mem_cons.mpr ⟨rfl, th_IllegalArgumentException_57.2.2⟩⟩, dX7_piece_111, dX7_piece_114, Or.inl ⟨dX7_piece_115, dX7_piece_117, dX7_piece_120⟩⟩, nil_all⟩⟩)⟩
theorem hd_X7_piece : CallHd yX7_piece 2 := ⟨by decide +kernel, by decide +kernel, by decide +kernel⟩
theorem sc_X7_piece (l : Launch) (hl : l.stackTraces = false) : SCon l yX7_piece cX7_piece 5 (some .int) 6 90 1 Γ_X7_piece := scon_of mX7_piece cls_ok hl (by decide +kernel) rfl rfl (ok_X7_piece l hl) rfl rfl b_X7_piece
def F_X7_pin (a0 : Int32) (a1 : Int32) (a2 : Int32) (μ : Mem) : Out := cV (F_X7_checkCell a0 a1 μ) (fun μ2 => cV (F_X3_remember 2 μ2) (fun μ6 => cI (F_X4_setPinned 2 a0 a1 a2 μ6) (fun v13 μ10 => ck (nz v13) (rI v13 μ10))))
def Γ_X7_pin : Gam := fun as μ r μ' => ∃ (a0 : Int32) (a1 : Int32) (a2 : Int32), as = [.ref 0, .int a0, .int a1, .int a2] ∧ F_X7_pin a0 a1 a2 μ = some (r, μ')
def mX7_pin : MI := (cX7_pin, [(165, (1, 2, 1, 5, Γ_X7_checkCell)), (214, (1, 1, 0, 1, Γ_X3_remember)), (230, (1, 3, 0, 2, Γ_X4_setPinned))], [(19, 5, 1), (29, 5, 3)], [], [], [], [], (29, none), (some .boolean))
set_option maxHeartbeats 4000000 in
theorem b_X7_pin : ∀ as μ r μ', Γ_X7_pin as μ r μ' → (elvL as).length ≤ 4 ∧ G mX7_pin (Qe r μ') 0 (elv as 4) [] μ (rc r 1) := by
  intro as μ r μ' h
  obtain ⟨a0, a1, a2, rfl, h⟩ := h
  refine ⟨Nat.le_of_ble_eq_true rfl, ?_⟩
  show G mX7_pin (Qe r μ') 0 [some (.ref 0), some (.int a0), some (.int a1), some (.int a2)] [] μ (rc r 1)
  unfold F_X7_pin at h
  have hb9 : rc r 1 ≤ rc r 1 := Nat.le_refl _
  refine e_aload_n dX7_pin_0 rfl ?_
  refine e_iload_n dX7_pin_1 rfl ?_
  refine e_iload_n dX7_pin_2 rfl ?_
  refine cV_go h (fun E3 hc1 hr4 => e_VX [.int a0, .int a1] [] dX7_pin_3 rfl rfl rfl rfl ⟨Nat.le_of_ble_eq_true rfl, rfl⟩ (Nat.le_of_ble_eq_true rfl) (hbr hr4 hb9 (Nat.le_of_ble_eq_true rfl)) ⟨a0, a1, rfl, hc1⟩ rfl ⟨hr4.symm, rfl⟩) (fun μ2 hc1 h => ?_)
  refine e_VV [.int a0, .int a1] [] dX7_pin_3 rfl rfl rfl rfl ⟨Nat.le_of_ble_eq_true rfl, rfl⟩ (Nat.le_of_ble_eq_true rfl) ⟨a0, a1, rfl, hc1⟩ ?_
  refine e_aload_n dX7_pin_6 rfl ?_
  refine e_get (ci := 5) (j := 3) (t := 2) (v := .ref 4) dX7_pin_7 rfl (by decide) rfl rfl rfl ?_
  refine e_aload_n dX7_pin_10 rfl ?_
  refine e_get (ci := 5) (j := 1) (t := 2) (v := .ref 2) dX7_pin_11 rfl (by decide) rfl rfl rfl ?_
  refine cV_go h (fun E7 hc5 hr8 => e_VX [.ref 2] [] dX7_pin_14 rfl rfl rfl rfl ⟨Nat.le_of_ble_eq_true rfl, rfl⟩ (Nat.le_of_ble_eq_true rfl) (hbr hr8 hb9 (Nat.le_of_ble_eq_true rfl)) ⟨2, rfl, (by decide), hc5⟩ rfl ⟨hr8.symm, rfl⟩) (fun μ6 hc5 h => ?_)
  refine e_VV [.ref 2] [] dX7_pin_14 rfl rfl rfl rfl ⟨Nat.le_of_ble_eq_true rfl, rfl⟩ (Nat.le_of_ble_eq_true rfl) ⟨2, rfl, (by decide), hc5⟩ ?_
  refine e_aload_n dX7_pin_17 rfl ?_
  refine e_get (ci := 5) (j := 1) (t := 2) (v := .ref 2) dX7_pin_18 rfl (by decide) rfl rfl rfl ?_
  refine e_iload_n dX7_pin_21 rfl ?_
  refine e_iload_n dX7_pin_22 rfl ?_
  refine e_iload_n dX7_pin_23 rfl ?_
  refine cI_go h (fun E11 hc9 hr12 => e_VX [.int a0, .int a1, .int a2] [] dX7_pin_24 rfl rfl rfl rfl ⟨Nat.le_of_ble_eq_true rfl, rfl⟩ (Nat.le_of_ble_eq_true rfl) (hbr hr12 hb9 (Nat.le_of_ble_eq_true rfl)) ⟨2, a0, a1, a2, rfl, (by decide), hc9⟩ rfl ⟨hr12.symm, rfl⟩) (fun v13 μ10 hc9 h => ?_)
  refine e_VI [.int a0, .int a1, .int a2] [] dX7_pin_24 rfl rfl rfl rfl ⟨Nat.le_of_ble_eq_true rfl, rfl⟩ (Nat.le_of_ble_eq_true rfl) ⟨2, a0, a1, a2, rfl, (by decide), hc9⟩ ?_
  obtain ⟨hc14, h⟩ := ck_eq h
  exact e_iret .boolean dX7_pin_27 rfl hc14 (ret_eq h)
set_option maxRecDepth 20000 in
theorem ok_X7_pin (l : Launch) (hl : l.stackTraces = false) : MOK l yX7_pin.cls 7 112 mX7_pin := ⟨lk_all (List.forall_mem_cons.mpr ⟨⟨yX7_checkCell, cX7_checkCell, 3, none, 6, 90, by decide, by decide, t_1 1 rfl rfl, hd_X7_checkCell, Or.inr (Or.inl ⟨rfl, sc_X7_checkCell l hl, t_2 123 rfl rfl, t_2 120 rfl rfl, t_2 122 rfl rfl, _, rfl, t_p 3 rfl⟩)⟩, List.forall_mem_cons.mpr ⟨⟨yX3_remember, cX3_remember, 2, none, 2, 22, by decide, by decide, t_1 4 rfl rfl, hd_X3_remember, Or.inr (Or.inl ⟨rfl, sc_X3_remember l hl, t_2 197 rfl rfl, t_2 194 rfl rfl, t_2 195 rfl rfl, _, rfl, t_2 196 rfl rfl⟩)⟩, List.forall_mem_cons.mpr ⟨⟨yX4_setPinned, cX4_setPinned, 7, (some .boolean), 2, 21, by decide, by decide, t_1 3 rfl rfl, hd_X4_setPinned, Or.inr (Or.inl ⟨rfl, sc_X4_setPinned l hl, t_3 11 rfl rfl, t_3 8 rfl rfl, t_3 9 rfl rfl, _, rfl, t_3 10 rfl rfl⟩)⟩, nil_all⟩⟩⟩), fun ix ci j h => lk_all (P := fun ix q => FldOK yX7_pin.cls ix q.1 q.2) (List.forall_mem_cons.mpr ⟨⟨_, rfl, by decide, t_1 123 rfl rfl⟩, List.forall_mem_cons.mpr ⟨⟨_, rfl, by decide, t_1 125 rfl rfl⟩, nil_all⟩⟩) ix (ci, j) h, lk_all (nil_all), lk_all (nil_all), lk_all (nil_all)⟩
theorem hd_X7_pin : CallHd yX7_pin 3 := ⟨by decide +kernel, by decide +kernel, by decide +kernel⟩
theorem sc_X7_pin (l : Launch) (hl : l.stackTraces = false) : SCon l yX7_pin cX7_pin 4 (some .boolean) 7 112 1 Γ_X7_pin := scon_of mX7_pin cls_ok hl (by decide +kernel) rfl rfl (ok_X7_pin l hl) rfl rfl b_X7_pin
def F_X7_resize (a0 : Int32) (a1 : Int32) (μ : Mem) : Out := if a0 < (1 : Int32) then (rX "java/lang/IllegalArgumentException" μ) else (if (6 : Int32) < a0 then (rX "java/lang/IllegalArgumentException" μ) else (if a1 < (1 : Int32) then (rX "java/lang/IllegalArgumentException" μ) else (if a1 ≤ (6 : Int32) then (cV (F_X3_remember 2 μ) (fun μ6 => cV (F_X4_cutTo 2 a0 a1 μ6) (fun μ10 => cI (F_X4_countFilled 2 μ10) (fun v17 μ14 => rI v17 μ14)))) else (rX "java/lang/IllegalArgumentException" μ))))
def Γ_X7_resize : Gam := fun as μ r μ' => ∃ (a0 : Int32) (a1 : Int32), as = [.ref 0, .int a0, .int a1] ∧ F_X7_resize a0 a1 μ = some (r, μ')
def mX7_resize : MI := (cX7_resize, [(90, (1, 0, 0, 2, Γ_X4_countFilled)), (214, (1, 1, 0, 1, Γ_X3_remember)), (217, (1, 2, 0, 2, Γ_X4_cutTo))], [(19, 5, 1), (29, 5, 3)], [], [], [(22, "java/lang/IllegalArgumentException")], [], (29, none), (some .int))
set_option maxHeartbeats 4000000 in
theorem b_X7_resize : ∀ as μ r μ', Γ_X7_resize as μ r μ' → (elvL as).length ≤ 3 ∧ G mX7_resize (Qe r μ') 0 (elv as 3) [] μ (rc r 1) := by
  intro as μ r μ' h
  obtain ⟨a0, a1, rfl, h⟩ := h
  refine ⟨Nat.le_of_ble_eq_true rfl, ?_⟩
  show G mX7_resize (Qe r μ') 0 [some (.ref 0), some (.int a0), some (.int a1)] [] μ (rc r 1)
  unfold F_X7_resize at h
  have hb9 : rc r 1 ≤ rc r 1 := Nat.le_refl _
  refine e_iload_n dX7_resize_0 rfl ?_
  refine e_iconst dX7_resize_1 ci_1 ?_
  refine e_ic_lt (tgt := 22) dX7_resize_2 rfl (fun hc1 => ?_) (fun hc1 => ?_)
  · rw [if_pos hc1] at h
    exact e_throw dX7_resize_22 rfl (Nat.le_of_ble_eq_true rfl) (hbx h hb9 (Nat.le_of_ble_eq_true rfl)) rfl (ret_eq h)
  · rw [if_neg hc1] at h
    refine e_iload_n dX7_resize_5 rfl ?_
    refine e_bipush dX7_resize_6 cb_6 ?_
    refine e_ic_gt (tgt := 22) dX7_resize_8 rfl (fun hc2 => ?_) (fun hc2 => ?_)
    · rw [if_pos hc2] at h
      exact e_throw dX7_resize_22 rfl (Nat.le_of_ble_eq_true rfl) (hbx h hb9 (Nat.le_of_ble_eq_true rfl)) rfl (ret_eq h)
    · rw [if_neg hc2] at h
      refine e_iload_n dX7_resize_11 rfl ?_
      refine e_iconst dX7_resize_12 ci_1 ?_
      refine e_ic_lt (tgt := 22) dX7_resize_13 rfl (fun hc3 => ?_) (fun hc3 => ?_)
      · rw [if_pos hc3] at h
        exact e_throw dX7_resize_22 rfl (Nat.le_of_ble_eq_true rfl) (hbx h hb9 (Nat.le_of_ble_eq_true rfl)) rfl (ret_eq h)
      · rw [if_neg hc3] at h
        refine e_iload_n dX7_resize_16 rfl ?_
        refine e_bipush dX7_resize_17 cb_6 ?_
        refine e_ic_le (tgt := 32) dX7_resize_19 rfl (fun hc4 => ?_) (fun hc4 => ?_)
        · rw [if_pos hc4] at h
          refine e_aload_n dX7_resize_32 rfl ?_
          refine e_get (ci := 5) (j := 3) (t := 2) (v := .ref 4) dX7_resize_33 rfl (by decide) rfl rfl rfl ?_
          refine e_aload_n dX7_resize_36 rfl ?_
          refine e_get (ci := 5) (j := 1) (t := 2) (v := .ref 2) dX7_resize_37 rfl (by decide) rfl rfl rfl ?_
          refine cV_go h (fun E7 hc5 hr8 => e_VX [.ref 2] [] dX7_resize_40 rfl rfl rfl rfl ⟨Nat.le_of_ble_eq_true rfl, rfl⟩ (Nat.le_of_ble_eq_true rfl) (hbr hr8 hb9 (Nat.le_of_ble_eq_true rfl)) ⟨2, rfl, (by decide), hc5⟩ rfl ⟨hr8.symm, rfl⟩) (fun μ6 hc5 h => ?_)
          refine e_VV [.ref 2] [] dX7_resize_40 rfl rfl rfl rfl ⟨Nat.le_of_ble_eq_true rfl, rfl⟩ (Nat.le_of_ble_eq_true rfl) ⟨2, rfl, (by decide), hc5⟩ ?_
          refine e_aload_n dX7_resize_43 rfl ?_
          refine e_get (ci := 5) (j := 1) (t := 2) (v := .ref 2) dX7_resize_44 rfl (by decide) rfl rfl rfl ?_
          refine e_iload_n dX7_resize_47 rfl ?_
          refine e_iload_n dX7_resize_48 rfl ?_
          refine cV_go h (fun E11 hc9 hr12 => e_VX [.int a0, .int a1] [] dX7_resize_49 rfl rfl rfl rfl ⟨Nat.le_of_ble_eq_true rfl, rfl⟩ (Nat.le_of_ble_eq_true rfl) (hbr hr12 hb9 (Nat.le_of_ble_eq_true rfl)) ⟨2, a0, a1, rfl, (by decide), hc9⟩ rfl ⟨hr12.symm, rfl⟩) (fun μ10 hc9 h => ?_)
          refine e_VV [.int a0, .int a1] [] dX7_resize_49 rfl rfl rfl rfl ⟨Nat.le_of_ble_eq_true rfl, rfl⟩ (Nat.le_of_ble_eq_true rfl) ⟨2, a0, a1, rfl, (by decide), hc9⟩ ?_
          refine e_aload_n dX7_resize_52 rfl ?_
          refine e_get (ci := 5) (j := 1) (t := 2) (v := .ref 2) dX7_resize_53 rfl (by decide) rfl rfl rfl ?_
          refine cI_go h (fun E15 hc13 hr16 => e_VX [] [] dX7_resize_56 rfl rfl rfl rfl ⟨Nat.le_of_ble_eq_true rfl, rfl⟩ (Nat.le_of_ble_eq_true rfl) (hbr hr16 hb9 (Nat.le_of_ble_eq_true rfl)) ⟨2, rfl, (by decide), hc13⟩ rfl ⟨hr16.symm, rfl⟩) (fun v17 μ14 hc13 h => ?_)
          refine e_VI [] [] dX7_resize_56 rfl rfl rfl rfl ⟨Nat.le_of_ble_eq_true rfl, rfl⟩ (Nat.le_of_ble_eq_true rfl) ⟨2, rfl, (by decide), hc13⟩ ?_
          exact e_iret .int dX7_resize_59 rfl rfl (ret_eq h)
        · rw [if_neg hc4] at h
          exact e_throw dX7_resize_22 rfl (Nat.le_of_ble_eq_true rfl) (hbx h hb9 (Nat.le_of_ble_eq_true rfl)) rfl (ret_eq h)
set_option maxRecDepth 20000 in
theorem ok_X7_resize (l : Launch) (hl : l.stackTraces = false) : MOK l yX7_resize.cls 6 90 mX7_resize := ⟨lk_all (List.forall_mem_cons.mpr ⟨⟨yX4_countFilled, cX4_countFilled, 1, (some .int), 2, 21, by decide, by decide, t_1 3 rfl rfl, hd_X4_countFilled, Or.inr (Or.inl ⟨rfl, sc_X4_countFilled l hl, t_1 152 rfl rfl, t_1 149 rfl rfl, t_1 150 rfl rfl, _, rfl, t_1 151 rfl rfl⟩)⟩, List.forall_mem_cons.mpr ⟨⟨yX3_remember, cX3_remember, 2, none, 2, 22, by decide, by decide, t_1 4 rfl rfl, hd_X3_remember, Or.inr (Or.inl ⟨rfl, sc_X3_remember l hl, t_2 197 rfl rfl, t_2 194 rfl rfl, t_2 195 rfl rfl, _, rfl, t_2 196 rfl rfl⟩)⟩, List.forall_mem_cons.mpr ⟨⟨yX4_cutTo, cX4_cutTo, 4, none, 2, 23, by decide, by decide, t_1 3 rfl rfl, hd_X4_cutTo, Or.inr (Or.inl ⟨rfl, sc_X4_cutTo l hl, t_2 209 rfl rfl, t_2 206 rfl rfl, t_2 207 rfl rfl, _, rfl, t_2 208 rfl rfl⟩)⟩, nil_all⟩⟩⟩), fun ix ci j h => lk_all (P := fun ix q => FldOK yX7_resize.cls ix q.1 q.2) (List.forall_mem_cons.mpr ⟨⟨_, rfl, by decide, t_1 123 rfl rfl⟩, List.forall_mem_cons.mpr ⟨⟨_, rfl, by decide, t_1 125 rfl rfl⟩, nil_all⟩⟩) ix (ci, j) h, lk_all (nil_all), lk_all (nil_all), lk_all (List.forall_mem_cons.mpr ⟨⟨rfl, List.mem_of_getElem? (i := 0) rfl, by decide, by decide, 53, 212, 57, "no such size", List.mem_of_getElem? (i := 4) rfl, t_2 6 rfl rfl, t_1 14 rfl rfl, th_IllegalArgumentException_57.1, th_IllegalArgumentException_57.2.1, List.forall_mem_cons.mpr ⟨rfl, List.forall_mem_cons.mpr ⟨rfl, th_IllegalArgumentException_57.2.2⟩⟩, dX7_resize_22, dX7_resize_25, Or.inl ⟨dX7_resize_26, dX7_resize_28, dX7_resize_31⟩⟩, nil_all⟩)⟩
theorem hd_X7_resize : CallHd yX7_resize 2 := ⟨by decide +kernel, by decide +kernel, by decide +kernel⟩
theorem sc_X7_resize (l : Launch) (hl : l.stackTraces = false) : SCon l yX7_resize cX7_resize 3 (some .int) 6 90 1 Γ_X7_resize := scon_of mX7_resize cls_ok hl (by decide +kernel) rfl rfl (ok_X7_resize l hl) rfl rfl b_X7_resize
def F_X7_restore (a0 : Int32) (μ : Mem) : Out := cV (F_X7_checkSlot a0 μ) (fun μ2 => cI (F_X5_has a0 μ2) (fun v9 μ6 => if v9 = 0 then (rX "java/lang/IllegalStateException" μ6) else (cV (F_X5_bringBack a0 2 μ6) (fun μ12 => cV (F_X3_forgetAll μ12) (fun μ16 => cI (F_X4_countFilled 2 μ16) (fun v23 μ20 => rI v23 μ20))))))
def Γ_X7_restore : Gam := fun as μ r μ' => ∃ (a0 : Int32), as = [.ref 0, .int a0] ∧ F_X7_restore a0 μ = some (r, μ')
def mX7_restore : MI := (cX7_restore, [(86, (1, 0, 0, 1, Γ_X3_forgetAll)), (90, (1, 0, 0, 2, Γ_X4_countFilled)), (323, (1, 1, 1, 5, Γ_X7_checkSlot)), (329, (1, 1, 0, 3, Γ_X5_has)), (334, (1, 2, 0, 3, Γ_X5_bringBack))], [(19, 5, 1), (29, 5, 3), (36, 5, 4)], [], [], [(16, "java/lang/IllegalStateException")], [], (29, none), (some .int))
set_option maxHeartbeats 4000000 in
theorem b_X7_restore : ∀ as μ r μ', Γ_X7_restore as μ r μ' → (elvL as).length ≤ 2 ∧ G mX7_restore (Qe r μ') 0 (elv as 2) [] μ (rc r 1) := by
  intro as μ r μ' h
  obtain ⟨a0, rfl, h⟩ := h
  refine ⟨Nat.le_of_ble_eq_true rfl, ?_⟩
  show G mX7_restore (Qe r μ') 0 [some (.ref 0), some (.int a0)] [] μ (rc r 1)
  unfold F_X7_restore at h
  have hb9 : rc r 1 ≤ rc r 1 := Nat.le_refl _
  refine e_aload_n dX7_restore_0 rfl ?_
  refine e_iload_n dX7_restore_1 rfl ?_
  refine cV_go h (fun E3 hc1 hr4 => e_VX [.int a0] [] dX7_restore_2 rfl rfl rfl rfl ⟨Nat.le_of_ble_eq_true rfl, rfl⟩ (Nat.le_of_ble_eq_true rfl) (hbr hr4 hb9 (Nat.le_of_ble_eq_true rfl)) ⟨a0, rfl, hc1⟩ rfl ⟨hr4.symm, rfl⟩) (fun μ2 hc1 h => ?_)
  refine e_VV [.int a0] [] dX7_restore_2 rfl rfl rfl rfl ⟨Nat.le_of_ble_eq_true rfl, rfl⟩ (Nat.le_of_ble_eq_true rfl) ⟨a0, rfl, hc1⟩ ?_
  refine e_aload_n dX7_restore_5 rfl ?_
  refine e_get (ci := 5) (j := 4) (t := 2) (v := .ref 5) dX7_restore_6 rfl (by decide) rfl rfl rfl ?_
  refine e_iload_n dX7_restore_9 rfl ?_
  refine cI_go h (fun E7 hc5 hr8 => e_VX [.int a0] [] dX7_restore_10 rfl rfl rfl rfl ⟨Nat.le_of_ble_eq_true rfl, rfl⟩ (Nat.le_of_ble_eq_true rfl) (hbr hr8 hb9 (Nat.le_of_ble_eq_true rfl)) ⟨a0, rfl, hc5⟩ rfl ⟨hr8.symm, rfl⟩) (fun v9 μ6 hc5 h => ?_)
  refine e_VI [.int a0] [] dX7_restore_10 rfl rfl rfl rfl ⟨Nat.le_of_ble_eq_true rfl, rfl⟩ (Nat.le_of_ble_eq_true rfl) ⟨a0, rfl, hc5⟩ ?_
  refine e_if_ne (tgt := 27) dX7_restore_13 rfl (fun hc10 => ?_) (fun hc10 => ?_)
  · rw [if_neg hc10] at h
    refine e_aload_n dX7_restore_27 rfl ?_
    refine e_get (ci := 5) (j := 4) (t := 2) (v := .ref 5) dX7_restore_28 rfl (by decide) rfl rfl rfl ?_
    refine e_iload_n dX7_restore_31 rfl ?_
    refine e_aload_n dX7_restore_32 rfl ?_
    refine e_get (ci := 5) (j := 1) (t := 2) (v := .ref 2) dX7_restore_33 rfl (by decide) rfl rfl rfl ?_
    refine cV_go h (fun E13 hc11 hr14 => e_VX [.int a0, .ref 2] [] dX7_restore_36 rfl rfl rfl rfl ⟨Nat.le_of_ble_eq_true rfl, rfl⟩ (Nat.le_of_ble_eq_true rfl) (hbr hr14 hb9 (Nat.le_of_ble_eq_true rfl)) ⟨a0, 2, rfl, (by decide), hc11⟩ rfl ⟨hr14.symm, rfl⟩) (fun μ12 hc11 h => ?_)
    refine e_VV [.int a0, .ref 2] [] dX7_restore_36 rfl rfl rfl rfl ⟨Nat.le_of_ble_eq_true rfl, rfl⟩ (Nat.le_of_ble_eq_true rfl) ⟨a0, 2, rfl, (by decide), hc11⟩ ?_
    refine e_aload_n dX7_restore_39 rfl ?_
    refine e_get (ci := 5) (j := 3) (t := 2) (v := .ref 4) dX7_restore_40 rfl (by decide) rfl rfl rfl ?_
    refine cV_go h (fun E17 hc15 hr18 => e_VX [] [] dX7_restore_43 rfl rfl rfl rfl ⟨Nat.le_of_ble_eq_true rfl, rfl⟩ (Nat.le_of_ble_eq_true rfl) (hbr hr18 hb9 (Nat.le_of_ble_eq_true rfl)) ⟨rfl, hc15⟩ rfl ⟨hr18.symm, rfl⟩) (fun μ16 hc15 h => ?_)
    refine e_VV [] [] dX7_restore_43 rfl rfl rfl rfl ⟨Nat.le_of_ble_eq_true rfl, rfl⟩ (Nat.le_of_ble_eq_true rfl) ⟨rfl, hc15⟩ ?_
    refine e_aload_n dX7_restore_46 rfl ?_
    refine e_get (ci := 5) (j := 1) (t := 2) (v := .ref 2) dX7_restore_47 rfl (by decide) rfl rfl rfl ?_
    refine cI_go h (fun E21 hc19 hr22 => e_VX [] [] dX7_restore_50 rfl rfl rfl rfl ⟨Nat.le_of_ble_eq_true rfl, rfl⟩ (Nat.le_of_ble_eq_true rfl) (hbr hr22 hb9 (Nat.le_of_ble_eq_true rfl)) ⟨2, rfl, (by decide), hc19⟩ rfl ⟨hr22.symm, rfl⟩) (fun v23 μ20 hc19 h => ?_)
    refine e_VI [] [] dX7_restore_50 rfl rfl rfl rfl ⟨Nat.le_of_ble_eq_true rfl, rfl⟩ (Nat.le_of_ble_eq_true rfl) ⟨2, rfl, (by decide), hc19⟩ ?_
    exact e_iret .int dX7_restore_53 rfl rfl (ret_eq h)
  · rw [if_pos hc10] at h
    exact e_throw dX7_restore_16 rfl (Nat.le_of_ble_eq_true rfl) (hbx h hb9 (Nat.le_of_ble_eq_true rfl)) rfl (ret_eq h)
set_option maxRecDepth 20000 in
theorem ok_X7_restore (l : Launch) (hl : l.stackTraces = false) : MOK l yX7_restore.cls 7 111 mX7_restore := ⟨lk_all (List.forall_mem_cons.mpr ⟨⟨yX3_forgetAll, cX3_forgetAll, 1, none, 1, 0, by decide, by decide, t_1 4 rfl rfl, hd_X3_forgetAll, Or.inr (Or.inl ⟨rfl, sc_X3_forgetAll l hl, t_4 30 rfl rfl, t_4 27 rfl rfl, t_4 28 rfl rfl, _, rfl, t_4 29 rfl rfl⟩)⟩, List.forall_mem_cons.mpr ⟨⟨yX4_countFilled, cX4_countFilled, 1, (some .int), 2, 21, by decide, by decide, t_1 3 rfl rfl, hd_X4_countFilled, Or.inr (Or.inl ⟨rfl, sc_X4_countFilled l hl, t_1 152 rfl rfl, t_1 149 rfl rfl, t_1 150 rfl rfl, _, rfl, t_1 151 rfl rfl⟩)⟩, List.forall_mem_cons.mpr ⟨⟨yX7_checkSlot, cX7_checkSlot, 2, none, 6, 90, by decide, by decide, t_1 1 rfl rfl, hd_X7_checkSlot, Or.inr (Or.inl ⟨rfl, sc_X7_checkSlot l hl, t_3 207 rfl rfl, t_3 204 rfl rfl, t_3 206 rfl rfl, _, rfl, t_p 17 rfl⟩)⟩, List.forall_mem_cons.mpr ⟨⟨yX5_has, cX5_has, 2, (some .boolean), 1, 0, by decide, by decide, t_1 5 rfl rfl, hd_X5_has, Or.inr (Or.inl ⟨rfl, sc_X5_has l hl, t_4 21 rfl rfl, t_4 18 rfl rfl, t_4 19 rfl rfl, _, rfl, t_4 20 rfl rfl⟩)⟩, List.forall_mem_cons.mpr ⟨⟨yX5_bringBack, cX5_bringBack, 3, none, 2, 21, by decide, by decide, t_1 5 rfl rfl, hd_X5_bringBack, Or.inr (Or.inl ⟨rfl, sc_X5_bringBack l hl, t_4 26 rfl rfl, t_4 23 rfl rfl, t_4 24 rfl rfl, _, rfl, t_4 25 rfl rfl⟩)⟩, nil_all⟩⟩⟩⟩⟩), fun ix ci j h => lk_all (P := fun ix q => FldOK yX7_restore.cls ix q.1 q.2) (List.forall_mem_cons.mpr ⟨⟨_, rfl, by decide, t_1 123 rfl rfl⟩, List.forall_mem_cons.mpr ⟨⟨_, rfl, by decide, t_1 125 rfl rfl⟩, List.forall_mem_cons.mpr ⟨⟨_, rfl, by decide, t_1 126 rfl rfl⟩, nil_all⟩⟩⟩) ix (ci, j) h, lk_all (nil_all), lk_all (nil_all), lk_all (List.forall_mem_cons.mpr ⟨⟨rfl, List.mem_of_getElem? (i := 1) rfl, by decide, by decide, 64, 332, 68, "nothing is saved there", List.mem_of_getElem? (i := 17) rfl, t_2 224 rfl rfl, t_1 15 rfl rfl, th_IllegalStateException_68.1, th_IllegalStateException_68.2.1, List.forall_mem_cons.mpr ⟨rfl, List.forall_mem_cons.mpr ⟨rfl, th_IllegalStateException_68.2.2⟩⟩, dX7_restore_16, dX7_restore_19, Or.inr ⟨dX7_restore_20, dX7_restore_23, dX7_restore_26⟩⟩, nil_all⟩)⟩
theorem hd_X7_restore : CallHd yX7_restore 1 := ⟨by decide +kernel, by decide +kernel, by decide +kernel⟩
theorem sc_X7_restore (l : Launch) (hl : l.stackTraces = false) : SCon l yX7_restore cX7_restore 2 (some .int) 7 111 1 Γ_X7_restore := scon_of mX7_restore cls_ok hl (by decide +kernel) rfl rfl (ok_X7_restore l hl) rfl rfl b_X7_restore
def F_X7_save (a0 : Int32) (μ : Mem) : Out := cV (F_X7_checkSlot a0 μ) (fun μ2 => cV (F_X5_put a0 2 μ2) (fun μ6 => cI (F_X4_countFilled 2 μ6) (fun v13 μ10 => rI v13 μ10)))
def Γ_X7_save : Gam := fun as μ r μ' => ∃ (a0 : Int32), as = [.ref 0, .int a0] ∧ F_X7_save a0 μ = some (r, μ')
def mX7_save : MI := (cX7_save, [(90, (1, 0, 0, 2, Γ_X4_countFilled)), (323, (1, 1, 1, 5, Γ_X7_checkSlot)), (326, (1, 2, 0, 3, Γ_X5_put))], [(19, 5, 1), (36, 5, 4)], [], [], [], [], (29, none), (some .int))
set_option maxHeartbeats 4000000 in
theorem b_X7_save : ∀ as μ r μ', Γ_X7_save as μ r μ' → (elvL as).length ≤ 2 ∧ G mX7_save (Qe r μ') 0 (elv as 2) [] μ (rc r 1) := by
  intro as μ r μ' h
  obtain ⟨a0, rfl, h⟩ := h
  refine ⟨Nat.le_of_ble_eq_true rfl, ?_⟩
  show G mX7_save (Qe r μ') 0 [some (.ref 0), some (.int a0)] [] μ (rc r 1)
  unfold F_X7_save at h
  have hb9 : rc r 1 ≤ rc r 1 := Nat.le_refl _
  refine e_aload_n dX7_save_0 rfl ?_
  refine e_iload_n dX7_save_1 rfl ?_
  refine cV_go h (fun E3 hc1 hr4 => e_VX [.int a0] [] dX7_save_2 rfl rfl rfl rfl ⟨Nat.le_of_ble_eq_true rfl, rfl⟩ (Nat.le_of_ble_eq_true rfl) (hbr hr4 hb9 (Nat.le_of_ble_eq_true rfl)) ⟨a0, rfl, hc1⟩ rfl ⟨hr4.symm, rfl⟩) (fun μ2 hc1 h => ?_)
  refine e_VV [.int a0] [] dX7_save_2 rfl rfl rfl rfl ⟨Nat.le_of_ble_eq_true rfl, rfl⟩ (Nat.le_of_ble_eq_true rfl) ⟨a0, rfl, hc1⟩ ?_
  refine e_aload_n dX7_save_5 rfl ?_
  refine e_get (ci := 5) (j := 4) (t := 2) (v := .ref 5) dX7_save_6 rfl (by decide) rfl rfl rfl ?_
  refine e_iload_n dX7_save_9 rfl ?_
  refine e_aload_n dX7_save_10 rfl ?_
  refine e_get (ci := 5) (j := 1) (t := 2) (v := .ref 2) dX7_save_11 rfl (by decide) rfl rfl rfl ?_
  refine cV_go h (fun E7 hc5 hr8 => e_VX [.int a0, .ref 2] [] dX7_save_14 rfl rfl rfl rfl ⟨Nat.le_of_ble_eq_true rfl, rfl⟩ (Nat.le_of_ble_eq_true rfl) (hbr hr8 hb9 (Nat.le_of_ble_eq_true rfl)) ⟨a0, 2, rfl, (by decide), hc5⟩ rfl ⟨hr8.symm, rfl⟩) (fun μ6 hc5 h => ?_)
  refine e_VV [.int a0, .ref 2] [] dX7_save_14 rfl rfl rfl rfl ⟨Nat.le_of_ble_eq_true rfl, rfl⟩ (Nat.le_of_ble_eq_true rfl) ⟨a0, 2, rfl, (by decide), hc5⟩ ?_
  refine e_aload_n dX7_save_17 rfl ?_
  refine e_get (ci := 5) (j := 1) (t := 2) (v := .ref 2) dX7_save_18 rfl (by decide) rfl rfl rfl ?_
  refine cI_go h (fun E11 hc9 hr12 => e_VX [] [] dX7_save_21 rfl rfl rfl rfl ⟨Nat.le_of_ble_eq_true rfl, rfl⟩ (Nat.le_of_ble_eq_true rfl) (hbr hr12 hb9 (Nat.le_of_ble_eq_true rfl)) ⟨2, rfl, (by decide), hc9⟩ rfl ⟨hr12.symm, rfl⟩) (fun v13 μ10 hc9 h => ?_)
  refine e_VI [] [] dX7_save_21 rfl rfl rfl rfl ⟨Nat.le_of_ble_eq_true rfl, rfl⟩ (Nat.le_of_ble_eq_true rfl) ⟨2, rfl, (by decide), hc9⟩ ?_
  exact e_iret .int dX7_save_24 rfl rfl (ret_eq h)
set_option maxRecDepth 20000 in
theorem ok_X7_save (l : Launch) (hl : l.stackTraces = false) : MOK l yX7_save.cls 7 111 mX7_save := ⟨lk_all (List.forall_mem_cons.mpr ⟨⟨yX4_countFilled, cX4_countFilled, 1, (some .int), 2, 21, by decide, by decide, t_1 3 rfl rfl, hd_X4_countFilled, Or.inr (Or.inl ⟨rfl, sc_X4_countFilled l hl, t_1 152 rfl rfl, t_1 149 rfl rfl, t_1 150 rfl rfl, _, rfl, t_1 151 rfl rfl⟩)⟩, List.forall_mem_cons.mpr ⟨⟨yX7_checkSlot, cX7_checkSlot, 2, none, 6, 90, by decide, by decide, t_1 1 rfl rfl, hd_X7_checkSlot, Or.inr (Or.inl ⟨rfl, sc_X7_checkSlot l hl, t_3 207 rfl rfl, t_3 204 rfl rfl, t_3 206 rfl rfl, _, rfl, t_p 17 rfl⟩)⟩, List.forall_mem_cons.mpr ⟨⟨yX5_put, cX5_put, 3, none, 2, 21, by decide, by decide, t_1 5 rfl rfl, hd_X5_put, Or.inr (Or.inl ⟨rfl, sc_X5_put l hl, t_3 212 rfl rfl, t_3 209 rfl rfl, t_3 210 rfl rfl, _, rfl, t_3 211 rfl rfl⟩)⟩, nil_all⟩⟩⟩), fun ix ci j h => lk_all (P := fun ix q => FldOK yX7_save.cls ix q.1 q.2) (List.forall_mem_cons.mpr ⟨⟨_, rfl, by decide, t_1 123 rfl rfl⟩, List.forall_mem_cons.mpr ⟨⟨_, rfl, by decide, t_1 126 rfl rfl⟩, nil_all⟩⟩) ix (ci, j) h, lk_all (nil_all), lk_all (nil_all), lk_all (nil_all)⟩
theorem hd_X7_save : CallHd yX7_save 1 := ⟨by decide +kernel, by decide +kernel, by decide +kernel⟩
theorem sc_X7_save (l : Launch) (hl : l.stackTraces = false) : SCon l yX7_save cX7_save 2 (some .int) 7 111 1 Γ_X7_save := scon_of mX7_save cls_ok hl (by decide +kernel) rfl rfl (ok_X7_save l hl) rfl rfl b_X7_save
def f_X7_solve_37 (s0 : Int32) (μ : Mem) : Out := cI (F_X2_findOutermost 2 s0 μ) (fun v8 μ5 => if v8 = 0 then (rX "java/lang/IllegalStateException" μ5) else (cV (F_X3_remember 2 μ5) (fun μ11 => cJ (F_X2_found μ11) (fun v18 μ15 => cI (F_X4_refill 2 v18 μ15) (fun v23 μ20 => rI v23 μ20)))))
def f_X7_solve_19 (x1 : Int32) (μ : Mem) : Out := if x1 = (1 : Int32) then (f_X7_solve_37 (1 : Int32) μ) else (f_X7_solve_37 (0 : Int32) μ)
def F_X7_solve (a0 : Int32) (μ : Mem) : Out := if a0 = 0 then (f_X7_solve_19 a0 μ) else (if a0 = (1 : Int32) then (f_X7_solve_19 a0 μ) else (rX "java/lang/IllegalArgumentException" μ))
def Γ_X7_solve : Gam := fun as μ r μ' => ∃ (a0 : Int32), as = [.ref 0, .int a0] ∧ F_X7_solve a0 μ = some (r, μ')
def mX7_solve : MI := (cX7_solve, [(214, (1, 1, 0, 1, Γ_X3_remember)), (256, (1, 2, 0, 0, Γ_X2_findOutermost)), (262, (1, 0, 0, 0, Γ_X2_found)), (266, (1, 1, 0, 2, Γ_X4_refill))], [(19, 5, 1), (29, 5, 3), (43, 5, 5)], [], [], [(9, "java/lang/IllegalArgumentException"), (43, "java/lang/IllegalStateException")], [], (29, none), (some .int))
set_option maxHeartbeats 4000000 in
theorem g_X7_solve_37 {r : Res} {μ' : Mem} : ∀ (s0 : Int32), ∀ (μ : Mem) (b : Nat), rc r 1 ≤ b → f_X7_solve_37 s0 μ = some (r, μ') → G mX7_solve (Qe r μ') 37 [some (.ref 0), none] [.int s0, .ref 2, .ref 6] μ b := by
  intro s0 μ b hb9 h
  unfold f_X7_solve_37 at h
  refine cI_go h (fun E6 hc4 hr7 => e_VX [.ref 2, .int s0] [] dX7_solve_37 rfl rfl rfl rfl ⟨Nat.le_of_ble_eq_true rfl, rfl⟩ (Nat.le_of_ble_eq_true rfl) (hbr hr7 hb9 (Nat.le_of_ble_eq_true rfl)) ⟨2, s0, rfl, (by decide), hc4⟩ rfl ⟨hr7.symm, rfl⟩) (fun v8 μ5 hc4 h => ?_)
  refine e_VI [.ref 2, .int s0] [] dX7_solve_37 rfl rfl rfl rfl ⟨Nat.le_of_ble_eq_true rfl, rfl⟩ (Nat.le_of_ble_eq_true rfl) ⟨2, s0, rfl, (by decide), hc4⟩ ?_
  refine e_if_ne (tgt := 54) dX7_solve_40 rfl (fun hc9 => ?_) (fun hc9 => ?_)
  · rw [if_neg hc9] at h
    refine e_aload_n dX7_solve_54 rfl ?_
    refine e_get (ci := 5) (j := 3) (t := 2) (v := .ref 4) dX7_solve_55 rfl (by decide) rfl rfl rfl ?_
    refine e_aload_n dX7_solve_58 rfl ?_
    refine e_get (ci := 5) (j := 1) (t := 2) (v := .ref 2) dX7_solve_59 rfl (by decide) rfl rfl rfl ?_
    refine cV_go h (fun E12 hc10 hr13 => e_VX [.ref 2] [] dX7_solve_62 rfl rfl rfl rfl ⟨Nat.le_of_ble_eq_true rfl, rfl⟩ (Nat.le_of_ble_eq_true rfl) (hbr hr13 hb9 (Nat.le_of_ble_eq_true rfl)) ⟨2, rfl, (by decide), hc10⟩ rfl ⟨hr13.symm, rfl⟩) (fun μ11 hc10 h => ?_)
    refine e_VV [.ref 2] [] dX7_solve_62 rfl rfl rfl rfl ⟨Nat.le_of_ble_eq_true rfl, rfl⟩ (Nat.le_of_ble_eq_true rfl) ⟨2, rfl, (by decide), hc10⟩ ?_
    refine e_aload_n dX7_solve_65 rfl ?_
    refine e_get (ci := 5) (j := 1) (t := 2) (v := .ref 2) dX7_solve_66 rfl (by decide) rfl rfl rfl ?_
    refine e_aload_n dX7_solve_69 rfl ?_
    refine e_get (ci := 5) (j := 5) (t := 2) (v := .ref 6) dX7_solve_70 rfl (by decide) rfl rfl rfl ?_
    refine cJ_go h (fun E16 hc14 hr17 => e_VX [] [.ref 2] dX7_solve_73 rfl rfl rfl rfl ⟨Nat.le_of_ble_eq_true rfl, rfl⟩ (Nat.le_of_ble_eq_true rfl) (hbr hr17 hb9 (Nat.le_of_ble_eq_true rfl)) ⟨rfl, hc14⟩ rfl ⟨hr17.symm, rfl⟩) (fun v18 μ15 hc14 h => ?_)
    refine e_VJ [] [.ref 2] dX7_solve_73 rfl rfl rfl rfl ⟨Nat.le_of_ble_eq_true rfl, rfl⟩ (Nat.le_of_ble_eq_true rfl) ⟨rfl, hc14⟩ ?_
    refine cI_go h (fun E21 hc19 hr22 => e_VX [.long v18] [] dX7_solve_76 rfl rfl rfl rfl ⟨Nat.le_of_ble_eq_true rfl, rfl⟩ (Nat.le_of_ble_eq_true rfl) (hbr hr22 hb9 (Nat.le_of_ble_eq_true rfl)) ⟨2, v18, rfl, (by decide), hc19⟩ rfl ⟨hr22.symm, rfl⟩) (fun v23 μ20 hc19 h => ?_)
    refine e_VI [.long v18] [] dX7_solve_76 rfl rfl rfl rfl ⟨Nat.le_of_ble_eq_true rfl, rfl⟩ (Nat.le_of_ble_eq_true rfl) ⟨2, v18, rfl, (by decide), hc19⟩ ?_
    exact e_iret .int dX7_solve_79 rfl rfl (ret_eq h)
  · rw [if_pos hc9] at h
    exact e_throw dX7_solve_43 rfl (Nat.le_of_ble_eq_true rfl) (hbx h hb9 (Nat.le_of_ble_eq_true rfl)) rfl (ret_eq h)
set_option maxHeartbeats 4000000 in
theorem g_X7_solve_19 {r : Res} {μ' : Mem} : ∀ (x1 : Int32), ∀ (μ : Mem) (b : Nat), rc r 1 ≤ b → f_X7_solve_19 x1 μ = some (r, μ') → G mX7_solve (Qe r μ') 19 [some (.ref 0), some (.int x1)] [] μ b := by
  intro x1 μ b hb9 h
  unfold f_X7_solve_19 at h
  refine e_aload_n dX7_solve_19 rfl ?_
  refine e_get (ci := 5) (j := 5) (t := 2) (v := .ref 6) dX7_solve_20 rfl (by decide) rfl rfl rfl ?_
  refine e_aload_n dX7_solve_23 rfl ?_
  refine e_get (ci := 5) (j := 1) (t := 2) (v := .ref 2) dX7_solve_24 rfl (by decide) rfl rfl rfl ?_
  refine e_iload_n dX7_solve_27 rfl ?_
  refine e_iconst dX7_solve_28 ci_1 ?_
  refine e_ic_ne (tgt := 36) dX7_solve_29 rfl (fun hc3 => ?_) (fun hc3 => ?_)
  · rw [if_neg hc3] at h
    refine e_iconst dX7_solve_36 ci_0 ?_
    exact e_le (g_X7_solve_37 (0 : Int32) μ _ hb9 h) ⟨rfl, trivial⟩
  · rw [if_pos hc3] at h
    refine e_iconst dX7_solve_32 ci_1 ?_
    refine e_goto (tgt := 37) dX7_solve_33 rfl ?_
    exact e_le (g_X7_solve_37 (1 : Int32) μ _ hb9 h) ⟨rfl, trivial⟩
set_option maxHeartbeats 4000000 in
theorem b_X7_solve : ∀ as μ r μ', Γ_X7_solve as μ r μ' → (elvL as).length ≤ 2 ∧ G mX7_solve (Qe r μ') 0 (elv as 2) [] μ (rc r 1) := by
  intro as μ r μ' h
  obtain ⟨a0, rfl, h⟩ := h
  refine ⟨Nat.le_of_ble_eq_true rfl, ?_⟩
  show G mX7_solve (Qe r μ') 0 [some (.ref 0), some (.int a0)] [] μ (rc r 1)
  unfold F_X7_solve at h
  have hb9 : rc r 1 ≤ rc r 1 := Nat.le_refl _
  refine e_iload_n dX7_solve_0 rfl ?_
  refine e_if_eq (tgt := 19) dX7_solve_1 rfl (fun hc1 => ?_) (fun hc1 => ?_)
  · rw [if_pos hc1] at h
    exact e_le (g_X7_solve_19 a0 μ _ hb9 h) ⟨rfl, rfl, trivial⟩
  · rw [if_neg hc1] at h
    refine e_iload_n dX7_solve_4 rfl ?_
    refine e_iconst dX7_solve_5 ci_1 ?_
    refine e_ic_eq (tgt := 19) dX7_solve_6 rfl (fun hc2 => ?_) (fun hc2 => ?_)
    · rw [if_pos hc2] at h
      exact e_le (g_X7_solve_19 a0 μ _ hb9 h) ⟨rfl, rfl, trivial⟩
    · rw [if_neg hc2] at h
      exact e_throw dX7_solve_9 rfl (Nat.le_of_ble_eq_true rfl) (hbx h hb9 (Nat.le_of_ble_eq_true rfl)) rfl (ret_eq h)
set_option maxRecDepth 20000 in
theorem ok_X7_solve (l : Launch) (hl : l.stackTraces = false) : MOK l yX7_solve.cls 6 141 mX7_solve := ⟨lk_all (List.forall_mem_cons.mpr ⟨⟨yX3_remember, cX3_remember, 2, none, 2, 22, by decide, by decide, t_1 4 rfl rfl, hd_X3_remember, Or.inr (Or.inl ⟨rfl, sc_X3_remember l hl, t_2 197 rfl rfl, t_2 194 rfl rfl, t_2 195 rfl rfl, _, rfl, t_2 196 rfl rfl⟩)⟩, List.forall_mem_cons.mpr ⟨⟨yX2_findOutermost, cX2_findOutermost, 3, (some .boolean), 5, 119, by decide, by decide, t_1 6 rfl rfl, hd_X2_findOutermost, Or.inr (Or.inl ⟨rfl, sc_X2_findOutermost l hl, t_3 51 rfl rfl, t_3 48 rfl rfl, t_3 49 rfl rfl, _, rfl, t_3 50 rfl rfl⟩)⟩, List.forall_mem_cons.mpr ⟨⟨yX2_found, cX2_found, 1, (some .long), 1, 0, by decide, by decide, t_1 6 rfl rfl, hd_X2_found, Or.inr (Or.inl ⟨rfl, sc_X2_found l hl, t_3 67 rfl rfl, t_3 64 rfl rfl, t_3 65 rfl rfl, _, rfl, t_3 66 rfl rfl⟩)⟩, List.forall_mem_cons.mpr ⟨⟨yX4_refill, cX4_refill, 4, (some .int), 2, 21, by decide, by decide, t_1 3 rfl rfl, hd_X4_refill, Or.inr (Or.inl ⟨rfl, sc_X4_refill l hl, t_3 238 rfl rfl, t_3 235 rfl rfl, t_3 236 rfl rfl, _, rfl, t_3 237 rfl rfl⟩)⟩, nil_all⟩⟩⟩⟩), fun ix ci j h => lk_all (P := fun ix q => FldOK yX7_solve.cls ix q.1 q.2) (List.forall_mem_cons.mpr ⟨⟨_, rfl, by decide, t_1 123 rfl rfl⟩, List.forall_mem_cons.mpr ⟨⟨_, rfl, by decide, t_1 125 rfl rfl⟩, List.forall_mem_cons.mpr ⟨⟨_, rfl, by decide, t_1 127 rfl rfl⟩, nil_all⟩⟩⟩) ix (ci, j) h, lk_all (nil_all), lk_all (nil_all), lk_all (List.forall_mem_cons.mpr ⟨⟨rfl, List.mem_of_getElem? (i := 0) rfl, by decide, by decide, 53, 254, 57, "which is not 0 or 1", List.mem_of_getElem? (i := 14) rfl, t_2 6 rfl rfl, t_1 14 rfl rfl, th_IllegalArgumentException_57.1, th_IllegalArgumentException_57.2.1, List.forall_mem_cons.mpr ⟨rfl, List.forall_mem_cons.mpr ⟨rfl, th_IllegalArgumentException_57.2.2⟩⟩, dX7_solve_9, dX7_solve_12, Or.inl ⟨dX7_solve_13, dX7_solve_15, dX7_solve_18⟩⟩, List.forall_mem_cons.mpr ⟨⟨rfl, List.mem_of_getElem? (i := 1) rfl, by decide, by decide, 64, 260, 68, "no picture fits", List.mem_of_getElem? (i := 15) rfl, t_2 224 rfl rfl, t_1 15 rfl rfl, th_IllegalStateException_68.1, th_IllegalStateException_68.2.1, List.forall_mem_cons.mpr ⟨rfl, List.forall_mem_cons.mpr ⟨rfl, th_IllegalStateException_68.2.2⟩⟩, dX7_solve_43, dX7_solve_46, Or.inr ⟨dX7_solve_47, dX7_solve_50, dX7_solve_53⟩⟩, nil_all⟩⟩)⟩
theorem hd_X7_solve : CallHd yX7_solve 1 := ⟨by decide +kernel, by decide +kernel, by decide +kernel⟩
theorem sc_X7_solve (l : Launch) (hl : l.stackTraces = false) : SCon l yX7_solve cX7_solve 2 (some .int) 6 141 1 Γ_X7_solve := scon_of mX7_solve cls_ok hl (by decide +kernel) rfl rfl (ok_X7_solve l hl) rfl rfl b_X7_solve
def f_X7_tallyFitting_51 (k39 : Int32 → Int32 → Mem → Out) : Nat → Int32 → Int32 → Mem → Out
  | 0, _, _, _ => none
  | n + 1, x2, x3, μ => if (48 : Int32) ≤ x3 then (cI (F_X2_advance 2 μ) (fun v17 μ14 => lt (x2 + (1 : Int32)) (fun v18 => k39 v17 v18 μ14))) else (ck (inb x3 48) (cJ (F_X2_found μ) (fun v24 μ21 => ck (inb x3 48) (lt (sI μ21 7 (Int32.toNatClampNeg x3) ((μ.1 7 (Int32.toNatClampNeg x3)) + ((Int64.toInt32 (ushrL v24 x3)) &&& (1 : Int32)))) (fun μ26 => lt (x3 + (1 : Int32)) (fun v27 => f_X7_tallyFitting_51 k39 n x2 v27 μ26))))))
def f_X7_tallyFitting_39 : Nat → Int32 → Int32 → Mem → Out
  | 0, _, _, _ => none
  | n + 1, x1, x2, μ => if x1 = 0 then (rV μ) else (if (100 : Int32) ≤ x2 then (rV μ) else (f_X7_tallyFitting_51 (f_X7_tallyFitting_39 n) BIG x2 (0 : Int32) μ))
def f_X7_tallyFitting_2 : Nat → Int32 → Mem → Out
  | 0, _, _ => none
  | n + 1, x1, μ => if (48 : Int32) ≤ x1 then (cI (F_X2_findOutermost 2 (0 : Int32) μ) (fun v6 μ3 => f_X7_tallyFitting_39 BIG v6 (0 : Int32) μ3)) else (ck (inb x1 48) (lt (sI μ 7 (Int32.toNatClampNeg x1) (0 : Int32)) (fun μ8 => lt (x1 + (1 : Int32)) (fun v9 => f_X7_tallyFitting_2 n v9 μ8))))
def F_X7_tallyFitting (μ : Mem) : Out := f_X7_tallyFitting_2 BIG (0 : Int32) μ
def Γ_X7_tallyFitting : Gam := fun as μ r μ' => as = [.ref 0] ∧ F_X7_tallyFitting μ = some (r, μ')
def mX7_tallyFitting : MI := (cX7_tallyFitting, [(256, (1, 2, 0, 0, Γ_X2_findOutermost)), (262, (1, 0, 0, 0, Γ_X2_found)), (349, (1, 1, 0, 0, Γ_X2_advance))], [(19, 5, 1), (43, 5, 5), (49, 5, 6)], [], [], [], [], (29, none), none)
set_option maxHeartbeats 4000000 in
theorem g_X7_tallyFitting_51 {r : Res} {μ' : Mem} {k39 : Int32 → Int32 → Mem → Out} (hk39 : ∀ (x1 : Int32) (x2 : Int32), ∀ (μ : Mem) (b : Nat), rc r 0 ≤ b → k39 x1 x2 μ = some (r, μ') → G mX7_tallyFitting (Qe r μ') 39 [some (.ref 0), some (.int x1), some (.int x2), none] [] μ b) : ∀ n : Nat, ∀ (x2 : Int32) (x3 : Int32), ∀ (μ : Mem) (b : Nat), rc r 0 ≤ b → f_X7_tallyFitting_51 k39 n x2 x3 μ = some (r, μ') → G mX7_tallyFitting (Qe r μ') 51 [some (.ref 0), none, some (.int x2), some (.int x3)] [] μ b := by
  intro n
  induction n with
  | zero => intro x2 x3 μ b hb9 h; exact nomatch (show (none : Out) = some _ from h)
  | succ n ih =>
    intro x2 x3 μ b hb9 h
    rw [f_X7_tallyFitting_51.eq_2] at h
    refine e_iload_n dX7_tallyFitting_51 rfl ?_
    refine e_aload_n dX7_tallyFitting_52 rfl ?_
    refine e_get (ci := 5) (j := 6) (t := 2) (v := .ref 7) dX7_tallyFitting_53 rfl (by decide) rfl rfl rfl ?_
    refine e_alen (t := 0) (n := 48) (v := (48 : Int32)) dX7_tallyFitting_56 (by decide) rfl (by decide) rfl ?_
    refine e_ic_ge (tgt := 87) dX7_tallyFitting_57 rfl (fun hc12 => ?_) (fun hc12 => ?_)
    · rw [if_pos hc12] at h
      refine e_aload_n dX7_tallyFitting_87 rfl ?_
      refine e_get (ci := 5) (j := 5) (t := 2) (v := .ref 6) dX7_tallyFitting_88 rfl (by decide) rfl rfl rfl ?_
      refine e_aload_n dX7_tallyFitting_91 rfl ?_
      refine e_get (ci := 5) (j := 1) (t := 2) (v := .ref 2) dX7_tallyFitting_92 rfl (by decide) rfl rfl rfl ?_
      refine cI_go h (fun E15 hc13 hr16 => e_VX [.ref 2] [] dX7_tallyFitting_95 rfl rfl rfl rfl ⟨Nat.le_of_ble_eq_true rfl, rfl⟩ (Nat.le_of_ble_eq_true rfl) (hbr hr16 hb9 (Nat.le_of_ble_eq_true rfl)) ⟨2, rfl, (by decide), hc13⟩ rfl ⟨hr16.symm, rfl⟩) (fun v17 μ14 hc13 h => ?_)
      refine e_VI [.ref 2] [] dX7_tallyFitting_95 rfl rfl rfl rfl ⟨Nat.le_of_ble_eq_true rfl, rfl⟩ (Nat.le_of_ble_eq_true rfl) ⟨2, rfl, (by decide), hc13⟩ ?_
      refine e_istore_nL [some (.ref 0), some (.int v17), some (.int x2), some (.int x3)] dX7_tallyFitting_98 (Nat.le_of_ble_eq_true rfl) rfl ?_
      refine e_iincN 2 (1 : Int32) dX7_tallyFitting_99 rfl ci_1 h (fun y9 => [some (.ref 0), some (.int v17), some (.int y9), some (.int x3)]) (fun _ => rfl) (fun v18 ev18 h => ?_)
      refine e_goto (tgt := 39) dX7_tallyFitting_102 rfl ?_
      exact e_le (hk39 v17 v18 μ14 _ hb9 h) ⟨rfl, rfl, rfl, trivial⟩
    · rw [if_neg hc12] at h
      refine e_aload_n dX7_tallyFitting_60 rfl ?_
      refine e_get (ci := 5) (j := 6) (t := 2) (v := .ref 7) dX7_tallyFitting_61 rfl (by decide) rfl rfl rfl ?_
      refine e_iload_n dX7_tallyFitting_64 rfl ?_
      refine e_dup2 dX7_tallyFitting_65 rfl rfl ?_
      obtain ⟨hc19, h⟩ := ck_eq h
      refine e_ialoadL (μ.1 7 (Int32.toNatClampNeg x3)) (n := 48) dX7_tallyFitting_66 (by decide) rfl hc19 rfl ?_
      refine e_aload_n dX7_tallyFitting_67 rfl ?_
      refine e_get (ci := 5) (j := 5) (t := 2) (v := .ref 6) dX7_tallyFitting_68 rfl (by decide) rfl rfl rfl ?_
      refine cJ_go h (fun E22 hc20 hr23 => e_VX [] [.int (μ.1 7 (Int32.toNatClampNeg x3)), .int x3, .ref 7] dX7_tallyFitting_71 rfl rfl rfl rfl ⟨Nat.le_of_ble_eq_true rfl, rfl⟩ (Nat.le_of_ble_eq_true rfl) (hbr hr23 hb9 (Nat.le_of_ble_eq_true rfl)) ⟨rfl, hc20⟩ rfl ⟨hr23.symm, rfl⟩) (fun v24 μ21 hc20 h => ?_)
      refine e_VJ [] [.int (μ.1 7 (Int32.toNatClampNeg x3)), .int x3, .ref 7] dX7_tallyFitting_71 rfl rfl rfl rfl ⟨Nat.le_of_ble_eq_true rfl, rfl⟩ (Nat.le_of_ble_eq_true rfl) ⟨rfl, hc20⟩ ?_
      refine e_iload_n dX7_tallyFitting_74 rfl ?_
      refine e_lushr dX7_tallyFitting_75 ?_
      refine e_l2i dX7_tallyFitting_76 ?_
      refine e_iconst dX7_tallyFitting_77 ci_1 ?_
      refine e_iand dX7_tallyFitting_78 ?_
      refine e_iadd dX7_tallyFitting_79 ?_
      obtain ⟨hc25, h⟩ := ck_eq h
      refine e_iastore (n := 48) dX7_tallyFitting_80 (by decide) rfl hc25 ?_
      refine e_naM (e := sI μ21 7 (Int32.toNatClampNeg x3) ((μ.1 7 (Int32.toNatClampNeg x3)) + ((Int64.toInt32 (ushrL v24 x3)) &&& (1 : Int32)))) h (fun μ26 eμ26 h => ?_)
      refine e_iincN 3 (1 : Int32) dX7_tallyFitting_81 rfl ci_1 h (fun y9 => [some (.ref 0), none, some (.int x2), some (.int y9)]) (fun _ => rfl) (fun v27 ev27 h => ?_)
      refine e_goto (tgt := 51) dX7_tallyFitting_84 rfl ?_
      exact e_le (ih x2 v27 μ26 _ hb9 h) ⟨rfl, rfl, rfl, trivial⟩
set_option maxHeartbeats 4000000 in
theorem g_X7_tallyFitting_39 {r : Res} {μ' : Mem} : ∀ n : Nat, ∀ (x1 : Int32) (x2 : Int32), ∀ (μ : Mem) (b : Nat), rc r 0 ≤ b → f_X7_tallyFitting_39 n x1 x2 μ = some (r, μ') → G mX7_tallyFitting (Qe r μ') 39 [some (.ref 0), some (.int x1), some (.int x2), none] [] μ b := by
  intro n
  induction n with
  | zero => intro x1 x2 μ b hb9 h; exact nomatch (show (none : Out) = some _ from h)
  | succ n ih =>
    intro x1 x2 μ b hb9 h
    rw [f_X7_tallyFitting_39.eq_2] at h
    refine e_iload_n dX7_tallyFitting_39 rfl ?_
    refine e_if_eq (tgt := 105) dX7_tallyFitting_40 rfl (fun hc10 => ?_) (fun hc10 => ?_)
    · rw [if_pos hc10] at h
      exact e_vret dX7_tallyFitting_105 rfl (ret_eq h)
    · rw [if_neg hc10] at h
      refine e_iload_n dX7_tallyFitting_43 rfl ?_
      refine e_bipush dX7_tallyFitting_44 cb_100 ?_
      refine e_ic_ge (tgt := 105) dX7_tallyFitting_46 rfl (fun hc11 => ?_) (fun hc11 => ?_)
      · rw [if_pos hc11] at h
        exact e_vret dX7_tallyFitting_105 rfl (ret_eq h)
      · rw [if_neg hc11] at h
        refine e_iconst dX7_tallyFitting_49 ci_0 ?_
        refine e_istore_nL [some (.ref 0), some (.int x1), some (.int x2), some (.int (0 : Int32))] dX7_tallyFitting_50 (Nat.le_of_ble_eq_true rfl) rfl ?_
        exact e_le (g_X7_tallyFitting_51 ih BIG x2 (0 : Int32) μ _ hb9 h) ⟨rfl, rfl, rfl, trivial⟩
set_option maxHeartbeats 4000000 in
theorem g_X7_tallyFitting_2 {r : Res} {μ' : Mem} : ∀ n : Nat, ∀ (x1 : Int32), ∀ (μ : Mem) (b : Nat), rc r 0 ≤ b → f_X7_tallyFitting_2 n x1 μ = some (r, μ') → G mX7_tallyFitting (Qe r μ') 2 [some (.ref 0), some (.int x1), none, none] [] μ b := by
  intro n
  induction n with
  | zero => intro x1 μ b hb9 h; exact nomatch (show (none : Out) = some _ from h)
  | succ n ih =>
    intro x1 μ b hb9 h
    rw [f_X7_tallyFitting_2.eq_2] at h
    refine e_iload_n dX7_tallyFitting_2 rfl ?_
    refine e_aload_n dX7_tallyFitting_3 rfl ?_
    refine e_get (ci := 5) (j := 6) (t := 2) (v := .ref 7) dX7_tallyFitting_4 rfl (by decide) rfl rfl rfl ?_
    refine e_alen (t := 0) (n := 48) (v := (48 : Int32)) dX7_tallyFitting_7 (by decide) rfl (by decide) rfl ?_
    refine e_ic_ge (tgt := 24) dX7_tallyFitting_8 rfl (fun hc1 => ?_) (fun hc1 => ?_)
    · rw [if_pos hc1] at h
      refine e_aload_n dX7_tallyFitting_24 rfl ?_
      refine e_get (ci := 5) (j := 5) (t := 2) (v := .ref 6) dX7_tallyFitting_25 rfl (by decide) rfl rfl rfl ?_
      refine e_aload_n dX7_tallyFitting_28 rfl ?_
      refine e_get (ci := 5) (j := 1) (t := 2) (v := .ref 2) dX7_tallyFitting_29 rfl (by decide) rfl rfl rfl ?_
      refine e_iconst dX7_tallyFitting_32 ci_0 ?_
      refine cI_go h (fun E4 hc2 hr5 => e_VX [.ref 2, .int (0 : Int32)] [] dX7_tallyFitting_33 rfl rfl rfl rfl ⟨Nat.le_of_ble_eq_true rfl, rfl⟩ (Nat.le_of_ble_eq_true rfl) (hbr hr5 hb9 (Nat.le_of_ble_eq_true rfl)) ⟨2, (0 : Int32), rfl, (by decide), hc2⟩ rfl ⟨hr5.symm, rfl⟩) (fun v6 μ3 hc2 h => ?_)
      refine e_VI [.ref 2, .int (0 : Int32)] [] dX7_tallyFitting_33 rfl rfl rfl rfl ⟨Nat.le_of_ble_eq_true rfl, rfl⟩ (Nat.le_of_ble_eq_true rfl) ⟨2, (0 : Int32), rfl, (by decide), hc2⟩ ?_
      refine e_istore_nL [some (.ref 0), some (.int v6), none, none] dX7_tallyFitting_36 (Nat.le_of_ble_eq_true rfl) rfl ?_
      refine e_iconst dX7_tallyFitting_37 ci_0 ?_
      refine e_istore_nL [some (.ref 0), some (.int v6), some (.int (0 : Int32)), none] dX7_tallyFitting_38 (Nat.le_of_ble_eq_true rfl) rfl ?_
      exact e_le (g_X7_tallyFitting_39 BIG v6 (0 : Int32) μ3 _ hb9 h) ⟨rfl, rfl, rfl, trivial⟩
    · rw [if_neg hc1] at h
      refine e_aload_n dX7_tallyFitting_11 rfl ?_
      refine e_get (ci := 5) (j := 6) (t := 2) (v := .ref 7) dX7_tallyFitting_12 rfl (by decide) rfl rfl rfl ?_
      refine e_iload_n dX7_tallyFitting_15 rfl ?_
      refine e_iconst dX7_tallyFitting_16 ci_0 ?_
      obtain ⟨hc7, h⟩ := ck_eq h
      refine e_iastore (n := 48) dX7_tallyFitting_17 (by decide) rfl hc7 ?_
      refine e_naM (e := sI μ 7 (Int32.toNatClampNeg x1) (0 : Int32)) h (fun μ8 eμ8 h => ?_)
      refine e_iincN 1 (1 : Int32) dX7_tallyFitting_18 rfl ci_1 h (fun y9 => [some (.ref 0), some (.int y9), none, none]) (fun _ => rfl) (fun v9 ev9 h => ?_)
      refine e_goto (tgt := 2) dX7_tallyFitting_21 rfl ?_
      exact e_le (ih v9 μ8 _ hb9 h) ⟨rfl, rfl, trivial⟩
set_option maxHeartbeats 4000000 in
theorem b_X7_tallyFitting : ∀ as μ r μ', Γ_X7_tallyFitting as μ r μ' → (elvL as).length ≤ 4 ∧ G mX7_tallyFitting (Qe r μ') 0 (elv as 4) [] μ (rc r 0) := by
  intro as μ r μ' h
  obtain ⟨rfl, h⟩ := h
  refine ⟨Nat.le_of_ble_eq_true rfl, ?_⟩
  show G mX7_tallyFitting (Qe r μ') 0 [some (.ref 0), none, none, none] [] μ (rc r 0)
  unfold F_X7_tallyFitting at h
  have hb9 : rc r 0 ≤ rc r 0 := Nat.le_refl _
  refine e_iconst dX7_tallyFitting_0 ci_0 ?_
  refine e_istore_nL [some (.ref 0), some (.int (0 : Int32)), none, none] dX7_tallyFitting_1 (Nat.le_of_ble_eq_true rfl) rfl ?_
  exact e_le (g_X7_tallyFitting_2 BIG (0 : Int32) μ _ hb9 h) ⟨rfl, rfl, trivial⟩
set_option maxRecDepth 20000 in
theorem ok_X7_tallyFitting (l : Launch) (hl : l.stackTraces = false) : MOK l yX7_tallyFitting.cls 6 145 mX7_tallyFitting := ⟨lk_all (List.forall_mem_cons.mpr ⟨⟨yX2_findOutermost, cX2_findOutermost, 3, (some .boolean), 5, 119, by decide, by decide, t_1 6 rfl rfl, hd_X2_findOutermost, Or.inr (Or.inl ⟨rfl, sc_X2_findOutermost l hl, t_3 51 rfl rfl, t_3 48 rfl rfl, t_3 49 rfl rfl, _, rfl, t_3 50 rfl rfl⟩)⟩, List.forall_mem_cons.mpr ⟨⟨yX2_found, cX2_found, 1, (some .long), 1, 0, by decide, by decide, t_1 6 rfl rfl, hd_X2_found, Or.inr (Or.inl ⟨rfl, sc_X2_found l hl, t_3 67 rfl rfl, t_3 64 rfl rfl, t_3 65 rfl rfl, _, rfl, t_3 66 rfl rfl⟩)⟩, List.forall_mem_cons.mpr ⟨⟨yX2_advance, cX2_advance, 7, (some .boolean), 5, 119, by decide, by decide, t_1 6 rfl rfl, hd_X2_advance, Or.inr (Or.inl ⟨rfl, sc_X2_advance l hl, t_3 59 rfl rfl, t_3 56 rfl rfl, t_3 57 rfl rfl, _, rfl, t_3 58 rfl rfl⟩)⟩, nil_all⟩⟩⟩), fun ix ci j h => lk_all (P := fun ix q => FldOK yX7_tallyFitting.cls ix q.1 q.2) (List.forall_mem_cons.mpr ⟨⟨_, rfl, by decide, t_1 123 rfl rfl⟩, List.forall_mem_cons.mpr ⟨⟨_, rfl, by decide, t_1 127 rfl rfl⟩, List.forall_mem_cons.mpr ⟨⟨_, rfl, by decide, t_1 128 rfl rfl⟩, nil_all⟩⟩⟩) ix (ci, j) h, lk_all (nil_all), lk_all (nil_all), lk_all (nil_all)⟩
theorem hd_X7_tallyFitting : CallHd yX7_tallyFitting 0 := ⟨by decide +kernel, by decide +kernel, by decide +kernel⟩
theorem sc_X7_tallyFitting (l : Launch) (hl : l.stackTraces = false) : SCon l yX7_tallyFitting cX7_tallyFitting 4 none 6 145 0 Γ_X7_tallyFitting := scon_of mX7_tallyFitting cls_ok hl (by decide +kernel) rfl rfl (ok_X7_tallyFitting l hl) rfl rfl b_X7_tallyFitting
def F_X7_split (μ : Mem) : Out := cI (F_X7_countFitting μ) (fun v5 μ2 => if v5 < (2 : Int32) then (rI (-9 : Int32) μ2) else (if v5 < (100 : Int32) then (cV (F_X7_tallyFitting μ2) (fun μ9 => cI (F_X7_bestParted v5 μ9) (fun v16 μ13 => rI v16 μ13))) else (rI (-9 : Int32) μ2)))
def Γ_X7_split : Gam := fun as μ r μ' => as = [.ref 0] ∧ F_X7_split μ = some (r, μ')
def mX7_split : MI := (cX7_split, [(287, (1, 0, 0, 5, Γ_X7_countFitting)), (290, (1, 0, 0, 5, Γ_X7_tallyFitting)), (293, (1, 1, 0, 5, Γ_X7_bestParted))], [], [], [], [], [], (29, none), (some .int))
set_option maxHeartbeats 4000000 in
theorem b_X7_split : ∀ as μ r μ', Γ_X7_split as μ r μ' → (elvL as).length ≤ 2 ∧ G mX7_split (Qe r μ') 0 (elv as 2) [] μ (rc r 0) := by
  intro as μ r μ' h
  obtain ⟨rfl, h⟩ := h
  refine ⟨Nat.le_of_ble_eq_true rfl, ?_⟩
  show G mX7_split (Qe r μ') 0 [some (.ref 0), none] [] μ (rc r 0)
  unfold F_X7_split at h
  have hb9 : rc r 0 ≤ rc r 0 := Nat.le_refl _
  refine e_aload_n dX7_split_0 rfl ?_
  refine cI_go h (fun E3 hc1 hr4 => e_VX [] [] dX7_split_1 rfl rfl rfl rfl ⟨Nat.le_of_ble_eq_true rfl, rfl⟩ (Nat.le_of_ble_eq_true rfl) (hbr hr4 hb9 (Nat.le_of_ble_eq_true rfl)) ⟨rfl, hc1⟩ rfl ⟨hr4.symm, rfl⟩) (fun v5 μ2 hc1 h => ?_)
  refine e_VI [] [] dX7_split_1 rfl rfl rfl rfl ⟨Nat.le_of_ble_eq_true rfl, rfl⟩ (Nat.le_of_ble_eq_true rfl) ⟨rfl, hc1⟩ ?_
  refine e_istore_nL [some (.ref 0), some (.int v5)] dX7_split_4 (Nat.le_of_ble_eq_true rfl) rfl ?_
  refine e_iload_n dX7_split_5 rfl ?_
  refine e_iconst dX7_split_6 ci_2 ?_
  refine e_ic_lt (tgt := 16) dX7_split_7 rfl (fun hc6 => ?_) (fun hc6 => ?_)
  · rw [if_pos hc6] at h
    refine e_bipush dX7_split_16 cb_m9 ?_
    exact e_iret .int dX7_split_18 rfl rfl (ret_eq h)
  · rw [if_neg hc6] at h
    refine e_iload_n dX7_split_10 rfl ?_
    refine e_bipush dX7_split_11 cb_100 ?_
    refine e_ic_lt (tgt := 19) dX7_split_13 rfl (fun hc7 => ?_) (fun hc7 => ?_)
    · rw [if_pos hc7] at h
      refine e_aload_n dX7_split_19 rfl ?_
      refine cV_go h (fun E10 hc8 hr11 => e_VX [] [] dX7_split_20 rfl rfl rfl rfl ⟨Nat.le_of_ble_eq_true rfl, rfl⟩ (Nat.le_of_ble_eq_true rfl) (hbr hr11 hb9 (Nat.le_of_ble_eq_true rfl)) ⟨rfl, hc8⟩ rfl ⟨hr11.symm, rfl⟩) (fun μ9 hc8 h => ?_)
      refine e_VV [] [] dX7_split_20 rfl rfl rfl rfl ⟨Nat.le_of_ble_eq_true rfl, rfl⟩ (Nat.le_of_ble_eq_true rfl) ⟨rfl, hc8⟩ ?_
      refine e_aload_n dX7_split_23 rfl ?_
      refine e_iload_n dX7_split_24 rfl ?_
      refine cI_go h (fun E14 hc12 hr15 => e_VX [.int v5] [] dX7_split_25 rfl rfl rfl rfl ⟨Nat.le_of_ble_eq_true rfl, rfl⟩ (Nat.le_of_ble_eq_true rfl) (hbr hr15 hb9 (Nat.le_of_ble_eq_true rfl)) ⟨v5, rfl, hc12⟩ rfl ⟨hr15.symm, rfl⟩) (fun v16 μ13 hc12 h => ?_)
      refine e_VI [.int v5] [] dX7_split_25 rfl rfl rfl rfl ⟨Nat.le_of_ble_eq_true rfl, rfl⟩ (Nat.le_of_ble_eq_true rfl) ⟨v5, rfl, hc12⟩ ?_
      exact e_iret .int dX7_split_28 rfl rfl (ret_eq h)
    · rw [if_neg hc7] at h
      refine e_bipush dX7_split_16 cb_m9 ?_
      exact e_iret .int dX7_split_18 rfl rfl (ret_eq h)
set_option maxRecDepth 20000 in
theorem ok_X7_split (l : Launch) (hl : l.stackTraces = false) : MOK l yX7_split.cls 7 168 mX7_split := ⟨lk_all (List.forall_mem_cons.mpr ⟨⟨yX7_countFitting, cX7_countFitting, 3, (some .int), 6, 145, by decide, by decide, t_1 1 rfl rfl, hd_X7_countFitting, Or.inr (Or.inl ⟨rfl, sc_X7_countFitting l hl, t_3 47 rfl rfl, t_3 44 rfl rfl, t_3 46 rfl rfl, _, rfl, t_p 13 rfl⟩)⟩, List.forall_mem_cons.mpr ⟨⟨yX7_tallyFitting, cX7_tallyFitting, 4, none, 6, 145, by decide, by decide, t_1 1 rfl rfl, hd_X7_tallyFitting, Or.inr (Or.inl ⟨rfl, sc_X7_tallyFitting l hl, t_3 221 rfl rfl, t_3 218 rfl rfl, t_3 220 rfl rfl, _, rfl, t_p 18 rfl⟩)⟩, List.forall_mem_cons.mpr ⟨⟨yX7_bestParted, cX7_bestParted, 6, (some .int), 3, 40, by decide, by decide, t_1 1 rfl rfl, hd_X7_bestParted, Or.inr (Or.inl ⟨rfl, sc_X7_bestParted l hl, t_3 225 rfl rfl, t_3 222 rfl rfl, t_3 224 rfl rfl, _, rfl, t_p 19 rfl⟩)⟩, nil_all⟩⟩⟩), fun ix ci j h => lk_all (P := fun ix q => FldOK yX7_split.cls ix q.1 q.2) (nil_all) ix (ci, j) h, lk_all (nil_all), lk_all (nil_all), lk_all (nil_all)⟩
theorem hd_X7_split : CallHd yX7_split 0 := ⟨by decide +kernel, by decide +kernel, by decide +kernel⟩
theorem sc_X7_split (l : Launch) (hl : l.stackTraces = false) : SCon l yX7_split cX7_split 2 (some .int) 7 168 0 Γ_X7_split := scon_of mX7_split cls_ok hl (by decide +kernel) rfl rfl (ok_X7_split l hl) rfl rfl b_X7_split
def F_X7_sure (a0 : Int32) (μ : Mem) : Out := cJ (F_X2_sureCells 2 μ) (fun v5 μ2 => if a0 = 0 then (cJ (F_X2_found μ2) (fun v11 μ8 => cI (F_J13_bitCount_95d88 (v5 &&& (v11 ^^^ (-1 : Int64))) μ8) (fun v16 μ13 => rI v16 μ13))) else (cJ (F_X2_found μ2) (fun v21 μ18 => cI (F_J13_bitCount_95d88 (v5 &&& v21) μ18) (fun v26 μ23 => rI v26 μ23))))
def Γ_X7_sure : Gam := fun as μ r μ' => ∃ (a0 : Int32), as = [.ref 0, .int a0] ∧ F_X7_sure a0 μ = some (r, μ')
def mX7_sure : MI := (cX7_sure, [(104, (0, 1, 0, 0, Γ_J13_bitCount_95d88)), (180, (1, 1, 0, 0, Γ_X2_sureCells)), (262, (1, 0, 0, 0, Γ_X2_found))], [(19, 5, 1), (43, 5, 5)], [], [(210, -1)], [], [], (29, none), (some .int))
set_option maxHeartbeats 4000000 in
theorem b_X7_sure : ∀ as μ r μ', Γ_X7_sure as μ r μ' → (elvL as).length ≤ 4 ∧ G mX7_sure (Qe r μ') 0 (elv as 4) [] μ (rc r 0) := by
  intro as μ r μ' h
  obtain ⟨a0, rfl, h⟩ := h
  refine ⟨Nat.le_of_ble_eq_true rfl, ?_⟩
  show G mX7_sure (Qe r μ') 0 [some (.ref 0), some (.int a0), none, none] [] μ (rc r 0)
  unfold F_X7_sure at h
  have hb9 : rc r 0 ≤ rc r 0 := Nat.le_refl _
  refine e_aload_n dX7_sure_0 rfl ?_
  refine e_get (ci := 5) (j := 5) (t := 2) (v := .ref 6) dX7_sure_1 rfl (by decide) rfl rfl rfl ?_
  refine e_aload_n dX7_sure_4 rfl ?_
  refine e_get (ci := 5) (j := 1) (t := 2) (v := .ref 2) dX7_sure_5 rfl (by decide) rfl rfl rfl ?_
  refine cJ_go h (fun E3 hc1 hr4 => e_VX [.ref 2] [] dX7_sure_8 rfl rfl rfl rfl ⟨Nat.le_of_ble_eq_true rfl, rfl⟩ (Nat.le_of_ble_eq_true rfl) (hbr hr4 hb9 (Nat.le_of_ble_eq_true rfl)) ⟨2, rfl, (by decide), hc1⟩ rfl ⟨hr4.symm, rfl⟩) (fun v5 μ2 hc1 h => ?_)
  refine e_VJ [.ref 2] [] dX7_sure_8 rfl rfl rfl rfl ⟨Nat.le_of_ble_eq_true rfl, rfl⟩ (Nat.le_of_ble_eq_true rfl) ⟨2, rfl, (by decide), hc1⟩ ?_
  refine e_lstore_nL [some (.ref 0), some (.int a0), some (.long v5), none] dX7_sure_11 (Nat.le_of_ble_eq_true rfl) rfl ?_
  refine e_iload_n dX7_sure_12 rfl ?_
  refine e_if_eq (tgt := 28) dX7_sure_13 rfl (fun hc6 => ?_) (fun hc6 => ?_)
  · rw [if_pos hc6] at h
    refine e_lload_n dX7_sure_28 rfl ?_
    refine e_aload_n dX7_sure_29 rfl ?_
    refine e_get (ci := 5) (j := 5) (t := 2) (v := .ref 6) dX7_sure_30 rfl (by decide) rfl rfl rfl ?_
    refine cJ_go h (fun E9 hc7 hr10 => e_VX [] [.long v5] dX7_sure_33 rfl rfl rfl rfl ⟨Nat.le_of_ble_eq_true rfl, rfl⟩ (Nat.le_of_ble_eq_true rfl) (hbr hr10 hb9 (Nat.le_of_ble_eq_true rfl)) ⟨rfl, hc7⟩ rfl ⟨hr10.symm, rfl⟩) (fun v11 μ8 hc7 h => ?_)
    refine e_VJ [] [.long v5] dX7_sure_33 rfl rfl rfl rfl ⟨Nat.le_of_ble_eq_true rfl, rfl⟩ (Nat.le_of_ble_eq_true rfl) ⟨rfl, hc7⟩ ?_
    refine e_ldc2 (v := (-1 : Int64)) dX7_sure_36 rfl ?_
    refine e_lxor dX7_sure_39 ?_
    refine e_land dX7_sure_40 ?_
    refine cI_go h (fun E14 hc12 hr15 => e_SX [.long (v5 &&& (v11 ^^^ (-1 : Int64)))] [] dX7_sure_41 rfl (by decide) rfl rfl (Nat.le_of_ble_eq_true rfl) (hbr hr15 hb9 (Nat.le_of_ble_eq_true rfl)) ⟨v5 &&& (v11 ^^^ (-1 : Int64)), rfl, hc12⟩ rfl ⟨hr15.symm, rfl⟩) (fun v16 μ13 hc12 h => ?_)
    refine e_SI [.long (v5 &&& (v11 ^^^ (-1 : Int64)))] [] dX7_sure_41 rfl (by decide) rfl rfl (Nat.le_of_ble_eq_true rfl) ⟨v5 &&& (v11 ^^^ (-1 : Int64)), rfl, hc12⟩ ?_
    exact e_iret .int dX7_sure_44 rfl rfl (ret_eq h)
  · rw [if_neg hc6] at h
    refine e_lload_n dX7_sure_16 rfl ?_
    refine e_aload_n dX7_sure_17 rfl ?_
    refine e_get (ci := 5) (j := 5) (t := 2) (v := .ref 6) dX7_sure_18 rfl (by decide) rfl rfl rfl ?_
    refine cJ_go h (fun E19 hc17 hr20 => e_VX [] [.long v5] dX7_sure_21 rfl rfl rfl rfl ⟨Nat.le_of_ble_eq_true rfl, rfl⟩ (Nat.le_of_ble_eq_true rfl) (hbr hr20 hb9 (Nat.le_of_ble_eq_true rfl)) ⟨rfl, hc17⟩ rfl ⟨hr20.symm, rfl⟩) (fun v21 μ18 hc17 h => ?_)
    refine e_VJ [] [.long v5] dX7_sure_21 rfl rfl rfl rfl ⟨Nat.le_of_ble_eq_true rfl, rfl⟩ (Nat.le_of_ble_eq_true rfl) ⟨rfl, hc17⟩ ?_
    refine e_land dX7_sure_24 ?_
    refine e_goto (tgt := 41) dX7_sure_25 rfl ?_
    refine cI_go h (fun E24 hc22 hr25 => e_SX [.long (v5 &&& v21)] [] dX7_sure_41 rfl (by decide) rfl rfl (Nat.le_of_ble_eq_true rfl) (hbr hr25 hb9 (Nat.le_of_ble_eq_true rfl)) ⟨v5 &&& v21, rfl, hc22⟩ rfl ⟨hr25.symm, rfl⟩) (fun v26 μ23 hc22 h => ?_)
    refine e_SI [.long (v5 &&& v21)] [] dX7_sure_41 rfl (by decide) rfl rfl (Nat.le_of_ble_eq_true rfl) ⟨v5 &&& v21, rfl, hc22⟩ ?_
    exact e_iret .int dX7_sure_44 rfl rfl (ret_eq h)
set_option maxRecDepth 20000 in
theorem ok_X7_sure (l : Launch) (hl : l.stackTraces = false) : MOK l yX7_sure.cls 6 120 mX7_sure := ⟨lk_all (List.forall_mem_cons.mpr ⟨⟨yJ13_bitCount_95d88, cJ13_bitCount_95d88, 2, (some .int), 1, 0, by decide, by decide, t_1 7 rfl rfl, hd_J13_bitCount_95d88, Or.inl ⟨rfl, sc_J13_bitCount_95d88 l hl, t_1 155 rfl rfl, t_1 159 rfl rfl, t_1 154 rfl rfl⟩⟩, List.forall_mem_cons.mpr ⟨⟨yX2_sureCells, cX2_sureCells, 7, (some .long), 5, 94, by decide, by decide, t_1 6 rfl rfl, hd_X2_sureCells, Or.inr (Or.inl ⟨rfl, sc_X2_sureCells l hl, t_2 139 rfl rfl, t_2 136 rfl rfl, t_2 137 rfl rfl, _, rfl, t_2 138 rfl rfl⟩)⟩, List.forall_mem_cons.mpr ⟨⟨yX2_found, cX2_found, 1, (some .long), 1, 0, by decide, by decide, t_1 6 rfl rfl, hd_X2_found, Or.inr (Or.inl ⟨rfl, sc_X2_found l hl, t_3 67 rfl rfl, t_3 64 rfl rfl, t_3 65 rfl rfl, _, rfl, t_3 66 rfl rfl⟩)⟩, nil_all⟩⟩⟩), fun ix ci j h => lk_all (P := fun ix q => FldOK yX7_sure.cls ix q.1 q.2) (List.forall_mem_cons.mpr ⟨⟨_, rfl, by decide, t_1 123 rfl rfl⟩, List.forall_mem_cons.mpr ⟨⟨_, rfl, by decide, t_1 127 rfl rfl⟩, nil_all⟩⟩) ix (ci, j) h, lk_all (nil_all), lk_all (List.forall_mem_cons.mpr ⟨t_3 68 rfl rfl, nil_all⟩), lk_all (nil_all)⟩
theorem hd_X7_sure : CallHd yX7_sure 1 := ⟨by decide +kernel, by decide +kernel, by decide +kernel⟩
theorem sc_X7_sure (l : Launch) (hl : l.stackTraces = false) : SCon l yX7_sure cX7_sure 4 (some .int) 6 120 0 Γ_X7_sure := scon_of mX7_sure cls_ok hl (by decide +kernel) rfl rfl (ok_X7_sure l hl) rfl rfl b_X7_sure
def F_X7_turn (μ : Mem) : Out := cV (F_X3_remember 2 μ) (fun μ2 => cV (F_X4_turnQuarter 2 μ2) (fun μ6 => rI (μ6.1 2 0) μ6))
def Γ_X7_turn : Gam := fun as μ r μ' => as = [.ref 0] ∧ F_X7_turn μ = some (r, μ')
def mX7_turn : MI := (cX7_turn, [(214, (1, 1, 0, 1, Γ_X3_remember)), (275, (1, 0, 0, 2, Γ_X4_turnQuarter))], [(19, 5, 1), (29, 5, 3), (93, 2, 0)], [], [], [], [], (29, none), (some .int))
set_option maxHeartbeats 4000000 in
theorem b_X7_turn : ∀ as μ r μ', Γ_X7_turn as μ r μ' → (elvL as).length ≤ 1 ∧ G mX7_turn (Qe r μ') 0 (elv as 1) [] μ (rc r 0) := by
  intro as μ r μ' h
  obtain ⟨rfl, h⟩ := h
  refine ⟨Nat.le_of_ble_eq_true rfl, ?_⟩
  show G mX7_turn (Qe r μ') 0 [some (.ref 0)] [] μ (rc r 0)
  unfold F_X7_turn at h
  have hb9 : rc r 0 ≤ rc r 0 := Nat.le_refl _
  refine e_aload_n dX7_turn_0 rfl ?_
  refine e_get (ci := 5) (j := 3) (t := 2) (v := .ref 4) dX7_turn_1 rfl (by decide) rfl rfl rfl ?_
  refine e_aload_n dX7_turn_4 rfl ?_
  refine e_get (ci := 5) (j := 1) (t := 2) (v := .ref 2) dX7_turn_5 rfl (by decide) rfl rfl rfl ?_
  refine cV_go h (fun E3 hc1 hr4 => e_VX [.ref 2] [] dX7_turn_8 rfl rfl rfl rfl ⟨Nat.le_of_ble_eq_true rfl, rfl⟩ (Nat.le_of_ble_eq_true rfl) (hbr hr4 hb9 (Nat.le_of_ble_eq_true rfl)) ⟨2, rfl, (by decide), hc1⟩ rfl ⟨hr4.symm, rfl⟩) (fun μ2 hc1 h => ?_)
  refine e_VV [.ref 2] [] dX7_turn_8 rfl rfl rfl rfl ⟨Nat.le_of_ble_eq_true rfl, rfl⟩ (Nat.le_of_ble_eq_true rfl) ⟨2, rfl, (by decide), hc1⟩ ?_
  refine e_aload_n dX7_turn_11 rfl ?_
  refine e_get (ci := 5) (j := 1) (t := 2) (v := .ref 2) dX7_turn_12 rfl (by decide) rfl rfl rfl ?_
  refine cV_go h (fun E7 hc5 hr8 => e_VX [] [] dX7_turn_15 rfl rfl rfl rfl ⟨Nat.le_of_ble_eq_true rfl, rfl⟩ (Nat.le_of_ble_eq_true rfl) (hbr hr8 hb9 (Nat.le_of_ble_eq_true rfl)) ⟨2, rfl, (by decide), hc5⟩ rfl ⟨hr8.symm, rfl⟩) (fun μ6 hc5 h => ?_)
  refine e_VV [] [] dX7_turn_15 rfl rfl rfl rfl ⟨Nat.le_of_ble_eq_true rfl, rfl⟩ (Nat.le_of_ble_eq_true rfl) ⟨2, rfl, (by decide), hc5⟩ ?_
  refine e_aload_n dX7_turn_18 rfl ?_
  refine e_get (ci := 5) (j := 1) (t := 2) (v := .ref 2) dX7_turn_19 rfl (by decide) rfl rfl rfl ?_
  refine e_get (ci := 2) (j := 0) (t := 0) (v := .int (μ6.1 2 0)) dX7_turn_22 rfl (by decide) rfl rfl rfl ?_
  exact e_iret .int dX7_turn_25 rfl rfl (ret_eq h)
set_option maxRecDepth 20000 in
theorem ok_X7_turn (l : Launch) (hl : l.stackTraces = false) : MOK l yX7_turn.cls 4 80 mX7_turn := ⟨lk_all (List.forall_mem_cons.mpr ⟨⟨yX3_remember, cX3_remember, 2, none, 2, 22, by decide, by decide, t_1 4 rfl rfl, hd_X3_remember, Or.inr (Or.inl ⟨rfl, sc_X3_remember l hl, t_2 197 rfl rfl, t_2 194 rfl rfl, t_2 195 rfl rfl, _, rfl, t_2 196 rfl rfl⟩)⟩, List.forall_mem_cons.mpr ⟨⟨yX4_turnQuarter, cX4_turnQuarter, 14, none, 3, 47, by decide, by decide, t_1 3 rfl rfl, hd_X4_turnQuarter, Or.inr (Or.inl ⟨rfl, sc_X4_turnQuarter l hl, t_3 37 rfl rfl, t_3 34 rfl rfl, t_3 35 rfl rfl, _, rfl, t_3 36 rfl rfl⟩)⟩, nil_all⟩⟩), fun ix ci j h => lk_all (P := fun ix q => FldOK yX7_turn.cls ix q.1 q.2) (List.forall_mem_cons.mpr ⟨⟨_, rfl, by decide, t_1 123 rfl rfl⟩, List.forall_mem_cons.mpr ⟨⟨_, rfl, by decide, t_1 125 rfl rfl⟩, List.forall_mem_cons.mpr ⟨⟨_, rfl, by decide, t_1 47 rfl rfl⟩, nil_all⟩⟩⟩) ix (ci, j) h, lk_all (nil_all), lk_all (nil_all), lk_all (nil_all)⟩
theorem hd_X7_turn : CallHd yX7_turn 0 := ⟨by decide +kernel, by decide +kernel, by decide +kernel⟩
theorem sc_X7_turn (l : Launch) (hl : l.stackTraces = false) : SCon l yX7_turn cX7_turn 1 (some .int) 4 80 0 Γ_X7_turn := scon_of mX7_turn cls_ok hl (by decide +kernel) rfl rfl (ok_X7_turn l hl) rfl rfl b_X7_turn
def F_X7_undo (μ : Mem) : Out := cI (F_X3_isEmpty μ) (fun v5 μ2 => if v5 = 0 then (cI (F_X3_takeBack 2 μ2) (fun v11 μ8 => rI v11 μ8)) else (rX "java/lang/IllegalStateException" μ2))
def Γ_X7_undo : Gam := fun as μ r μ' => as = [.ref 0] ∧ F_X7_undo μ = some (r, μ')
def mX7_undo : MI := (cX7_undo, [(278, (1, 0, 0, 1, Γ_X3_isEmpty)), (283, (1, 1, 0, 1, Γ_X3_takeBack))], [(19, 5, 1), (29, 5, 3)], [], [], [(10, "java/lang/IllegalStateException")], [], (29, none), (some .int))
set_option maxHeartbeats 4000000 in
theorem b_X7_undo : ∀ as μ r μ', Γ_X7_undo as μ r μ' → (elvL as).length ≤ 1 ∧ G mX7_undo (Qe r μ') 0 (elv as 1) [] μ (rc r 1) := by
  intro as μ r μ' h
  obtain ⟨rfl, h⟩ := h
  refine ⟨Nat.le_of_ble_eq_true rfl, ?_⟩
  show G mX7_undo (Qe r μ') 0 [some (.ref 0)] [] μ (rc r 1)
  unfold F_X7_undo at h
  have hb9 : rc r 1 ≤ rc r 1 := Nat.le_refl _
  refine e_aload_n dX7_undo_0 rfl ?_
  refine e_get (ci := 5) (j := 3) (t := 2) (v := .ref 4) dX7_undo_1 rfl (by decide) rfl rfl rfl ?_
  refine cI_go h (fun E3 hc1 hr4 => e_VX [] [] dX7_undo_4 rfl rfl rfl rfl ⟨Nat.le_of_ble_eq_true rfl, rfl⟩ (Nat.le_of_ble_eq_true rfl) (hbr hr4 hb9 (Nat.le_of_ble_eq_true rfl)) ⟨rfl, hc1⟩ rfl ⟨hr4.symm, rfl⟩) (fun v5 μ2 hc1 h => ?_)
  refine e_VI [] [] dX7_undo_4 rfl rfl rfl rfl ⟨Nat.le_of_ble_eq_true rfl, rfl⟩ (Nat.le_of_ble_eq_true rfl) ⟨rfl, hc1⟩ ?_
  refine e_if_eq (tgt := 21) dX7_undo_7 rfl (fun hc6 => ?_) (fun hc6 => ?_)
  · rw [if_pos hc6] at h
    refine e_aload_n dX7_undo_21 rfl ?_
    refine e_get (ci := 5) (j := 3) (t := 2) (v := .ref 4) dX7_undo_22 rfl (by decide) rfl rfl rfl ?_
    refine e_aload_n dX7_undo_25 rfl ?_
    refine e_get (ci := 5) (j := 1) (t := 2) (v := .ref 2) dX7_undo_26 rfl (by decide) rfl rfl rfl ?_
    refine cI_go h (fun E9 hc7 hr10 => e_VX [.ref 2] [] dX7_undo_29 rfl rfl rfl rfl ⟨Nat.le_of_ble_eq_true rfl, rfl⟩ (Nat.le_of_ble_eq_true rfl) (hbr hr10 hb9 (Nat.le_of_ble_eq_true rfl)) ⟨2, rfl, (by decide), hc7⟩ rfl ⟨hr10.symm, rfl⟩) (fun v11 μ8 hc7 h => ?_)
    refine e_VI [.ref 2] [] dX7_undo_29 rfl rfl rfl rfl ⟨Nat.le_of_ble_eq_true rfl, rfl⟩ (Nat.le_of_ble_eq_true rfl) ⟨2, rfl, (by decide), hc7⟩ ?_
    exact e_iret .int dX7_undo_32 rfl rfl (ret_eq h)
  · rw [if_neg hc6] at h
    exact e_throw dX7_undo_10 rfl (Nat.le_of_ble_eq_true rfl) (hbx h hb9 (Nat.le_of_ble_eq_true rfl)) rfl (ret_eq h)
set_option maxRecDepth 20000 in
theorem ok_X7_undo (l : Launch) (hl : l.stackTraces = false) : MOK l yX7_undo.cls 6 90 mX7_undo := ⟨lk_all (List.forall_mem_cons.mpr ⟨⟨yX3_isEmpty, cX3_isEmpty, 1, (some .boolean), 1, 0, by decide, by decide, t_1 4 rfl rfl, hd_X3_isEmpty, Or.inr (Or.inl ⟨rfl, sc_X3_isEmpty l hl, t_3 124 rfl rfl, t_3 121 rfl rfl, t_3 122 rfl rfl, _, rfl, t_3 123 rfl rfl⟩)⟩, List.forall_mem_cons.mpr ⟨⟨yX3_takeBack, cX3_takeBack, 2, (some .int), 2, 21, by decide, by decide, t_1 4 rfl rfl, hd_X3_takeBack, Or.inr (Or.inl ⟨rfl, sc_X3_takeBack l hl, t_3 129 rfl rfl, t_3 126 rfl rfl, t_3 127 rfl rfl, _, rfl, t_3 128 rfl rfl⟩)⟩, nil_all⟩⟩), fun ix ci j h => lk_all (P := fun ix q => FldOK yX7_undo.cls ix q.1 q.2) (List.forall_mem_cons.mpr ⟨⟨_, rfl, by decide, t_1 123 rfl rfl⟩, List.forall_mem_cons.mpr ⟨⟨_, rfl, by decide, t_1 125 rfl rfl⟩, nil_all⟩⟩) ix (ci, j) h, lk_all (nil_all), lk_all (nil_all), lk_all (List.forall_mem_cons.mpr ⟨⟨rfl, List.mem_of_getElem? (i := 1) rfl, by decide, by decide, 64, 281, 68, "nothing is remembered", List.mem_of_getElem? (i := 8) rfl, t_2 224 rfl rfl, t_1 15 rfl rfl, th_IllegalStateException_68.1, th_IllegalStateException_68.2.1, List.forall_mem_cons.mpr ⟨rfl, List.forall_mem_cons.mpr ⟨rfl, th_IllegalStateException_68.2.2⟩⟩, dX7_undo_10, dX7_undo_13, Or.inr ⟨dX7_undo_14, dX7_undo_17, dX7_undo_20⟩⟩, nil_all⟩)⟩
theorem hd_X7_undo : CallHd yX7_undo 0 := ⟨by decide +kernel, by decide +kernel, by decide +kernel⟩
theorem sc_X7_undo (l : Launch) (hl : l.stackTraces = false) : SCon l yX7_undo cX7_undo 1 (some .int) 6 90 1 Γ_X7_undo := scon_of mX7_undo cls_ok hl (by decide +kernel) rfl rfl (ok_X7_undo l hl) rfl rfl b_X7_undo
def F_X7_want (a0 : Int32) (a1 : Int32) (μ : Mem) : Out := cV (F_X7_checkLine a0 μ) (fun μ2 => if a1 < 0 then (rX "java/lang/IllegalArgumentException" μ2) else (if a1 ≤ (6 : Int32) then (cV (F_X3_remember 2 μ2) (fun μ8 => cI (F_X4_setWanted 2 a0 a1 μ8) (fun v15 μ12 => rI v15 μ12))) else (rX "java/lang/IllegalArgumentException" μ2)))
def Γ_X7_want : Gam := fun as μ r μ' => ∃ (a0 : Int32) (a1 : Int32), as = [.ref 0, .int a0, .int a1] ∧ F_X7_want a0 a1 μ = some (r, μ')
def mX7_want : MI := (cX7_want, [(138, (1, 1, 1, 5, Γ_X7_checkLine)), (214, (1, 1, 0, 1, Γ_X3_remember)), (235, (1, 2, 0, 2, Γ_X4_setWanted))], [(19, 5, 1), (29, 5, 3)], [], [], [(15, "java/lang/IllegalArgumentException")], [], (29, none), (some .int))
set_option maxHeartbeats 4000000 in
theorem b_X7_want : ∀ as μ r μ', Γ_X7_want as μ r μ' → (elvL as).length ≤ 3 ∧ G mX7_want (Qe r μ') 0 (elv as 3) [] μ (rc r 1) := by
  intro as μ r μ' h
  obtain ⟨a0, a1, rfl, h⟩ := h
  refine ⟨Nat.le_of_ble_eq_true rfl, ?_⟩
  show G mX7_want (Qe r μ') 0 [some (.ref 0), some (.int a0), some (.int a1)] [] μ (rc r 1)
  unfold F_X7_want at h
  have hb9 : rc r 1 ≤ rc r 1 := Nat.le_refl _
  refine e_aload_n dX7_want_0 rfl ?_
  refine e_iload_n dX7_want_1 rfl ?_
  refine cV_go h (fun E3 hc1 hr4 => e_VX [.int a0] [] dX7_want_2 rfl rfl rfl rfl ⟨Nat.le_of_ble_eq_true rfl, rfl⟩ (Nat.le_of_ble_eq_true rfl) (hbr hr4 hb9 (Nat.le_of_ble_eq_true rfl)) ⟨a0, rfl, hc1⟩ rfl ⟨hr4.symm, rfl⟩) (fun μ2 hc1 h => ?_)
  refine e_VV [.int a0] [] dX7_want_2 rfl rfl rfl rfl ⟨Nat.le_of_ble_eq_true rfl, rfl⟩ (Nat.le_of_ble_eq_true rfl) ⟨a0, rfl, hc1⟩ ?_
  refine e_iload_n dX7_want_5 rfl ?_
  refine e_if_lt (tgt := 15) dX7_want_6 rfl (fun hc5 => ?_) (fun hc5 => ?_)
  · rw [if_pos hc5] at h
    exact e_throw dX7_want_15 rfl (Nat.le_of_ble_eq_true rfl) (hbx h hb9 (Nat.le_of_ble_eq_true rfl)) rfl (ret_eq h)
  · rw [if_neg hc5] at h
    refine e_iload_n dX7_want_9 rfl ?_
    refine e_bipush dX7_want_10 cb_6 ?_
    refine e_ic_le (tgt := 25) dX7_want_12 rfl (fun hc6 => ?_) (fun hc6 => ?_)
    · rw [if_pos hc6] at h
      refine e_aload_n dX7_want_25 rfl ?_
      refine e_get (ci := 5) (j := 3) (t := 2) (v := .ref 4) dX7_want_26 rfl (by decide) rfl rfl rfl ?_
      refine e_aload_n dX7_want_29 rfl ?_
      refine e_get (ci := 5) (j := 1) (t := 2) (v := .ref 2) dX7_want_30 rfl (by decide) rfl rfl rfl ?_
      refine cV_go h (fun E9 hc7 hr10 => e_VX [.ref 2] [] dX7_want_33 rfl rfl rfl rfl ⟨Nat.le_of_ble_eq_true rfl, rfl⟩ (Nat.le_of_ble_eq_true rfl) (hbr hr10 hb9 (Nat.le_of_ble_eq_true rfl)) ⟨2, rfl, (by decide), hc7⟩ rfl ⟨hr10.symm, rfl⟩) (fun μ8 hc7 h => ?_)
      refine e_VV [.ref 2] [] dX7_want_33 rfl rfl rfl rfl ⟨Nat.le_of_ble_eq_true rfl, rfl⟩ (Nat.le_of_ble_eq_true rfl) ⟨2, rfl, (by decide), hc7⟩ ?_
      refine e_aload_n dX7_want_36 rfl ?_
      refine e_get (ci := 5) (j := 1) (t := 2) (v := .ref 2) dX7_want_37 rfl (by decide) rfl rfl rfl ?_
      refine e_iload_n dX7_want_40 rfl ?_
      refine e_iload_n dX7_want_41 rfl ?_
      refine cI_go h (fun E13 hc11 hr14 => e_VX [.int a0, .int a1] [] dX7_want_42 rfl rfl rfl rfl ⟨Nat.le_of_ble_eq_true rfl, rfl⟩ (Nat.le_of_ble_eq_true rfl) (hbr hr14 hb9 (Nat.le_of_ble_eq_true rfl)) ⟨2, a0, a1, rfl, (by decide), hc11⟩ rfl ⟨hr14.symm, rfl⟩) (fun v15 μ12 hc11 h => ?_)
      refine e_VI [.int a0, .int a1] [] dX7_want_42 rfl rfl rfl rfl ⟨Nat.le_of_ble_eq_true rfl, rfl⟩ (Nat.le_of_ble_eq_true rfl) ⟨2, a0, a1, rfl, (by decide), hc11⟩ ?_
      exact e_iret .int dX7_want_45 rfl rfl (ret_eq h)
    · rw [if_neg hc6] at h
      exact e_throw dX7_want_15 rfl (Nat.le_of_ble_eq_true rfl) (hbx h hb9 (Nat.le_of_ble_eq_true rfl)) rfl (ret_eq h)
set_option maxRecDepth 20000 in
theorem ok_X7_want (l : Launch) (hl : l.stackTraces = false) : MOK l yX7_want.cls 7 111 mX7_want := ⟨lk_all (List.forall_mem_cons.mpr ⟨⟨yX7_checkLine, cX7_checkLine, 2, none, 6, 90, by decide, by decide, t_1 1 rfl rfl, hd_X7_checkLine, Or.inr (Or.inl ⟨rfl, sc_X7_checkLine l hl, t_2 81 rfl rfl, t_2 78 rfl rfl, t_2 80 rfl rfl, _, rfl, t_p 2 rfl⟩)⟩, List.forall_mem_cons.mpr ⟨⟨yX3_remember, cX3_remember, 2, none, 2, 22, by decide, by decide, t_1 4 rfl rfl, hd_X3_remember, Or.inr (Or.inl ⟨rfl, sc_X3_remember l hl, t_2 197 rfl rfl, t_2 194 rfl rfl, t_2 195 rfl rfl, _, rfl, t_2 196 rfl rfl⟩)⟩, List.forall_mem_cons.mpr ⟨⟨yX4_setWanted, cX4_setWanted, 4, (some .int), 3, 43, by decide, by decide, t_1 3 rfl rfl, hd_X4_setWanted, Or.inr (Or.inl ⟨rfl, sc_X4_setWanted l hl, t_3 20 rfl rfl, t_3 17 rfl rfl, t_3 18 rfl rfl, _, rfl, t_3 19 rfl rfl⟩)⟩, nil_all⟩⟩⟩), fun ix ci j h => lk_all (P := fun ix q => FldOK yX7_want.cls ix q.1 q.2) (List.forall_mem_cons.mpr ⟨⟨_, rfl, by decide, t_1 123 rfl rfl⟩, List.forall_mem_cons.mpr ⟨⟨_, rfl, by decide, t_1 125 rfl rfl⟩, nil_all⟩⟩) ix (ci, j) h, lk_all (nil_all), lk_all (nil_all), lk_all (List.forall_mem_cons.mpr ⟨⟨rfl, List.mem_of_getElem? (i := 0) rfl, by decide, by decide, 53, 233, 57, "no such count", List.mem_of_getElem? (i := 6) rfl, t_2 6 rfl rfl, t_1 14 rfl rfl, th_IllegalArgumentException_57.1, th_IllegalArgumentException_57.2.1, List.forall_mem_cons.mpr ⟨rfl, List.forall_mem_cons.mpr ⟨rfl, th_IllegalArgumentException_57.2.2⟩⟩, dX7_want_15, dX7_want_18, Or.inl ⟨dX7_want_19, dX7_want_21, dX7_want_24⟩⟩, nil_all⟩)⟩
theorem hd_X7_want : CallHd yX7_want 2 := ⟨by decide +kernel, by decide +kernel, by decide +kernel⟩
theorem sc_X7_want (l : Launch) (hl : l.stackTraces = false) : SCon l yX7_want cX7_want 3 (some .int) 7 111 1 Γ_X7_want := scon_of mX7_want cls_ok hl (by decide +kernel) rfl rfl (ok_X7_want l hl) rfl rfl b_X7_want
def F_X7_wantAll (μ : Mem) : Out := cV (F_X3_remember 2 μ) (fun μ2 => cI (F_X4_wantTheCounts 2 μ2) (fun v9 μ6 => rI v9 μ6))
def Γ_X7_wantAll : Gam := fun as μ r μ' => as = [.ref 0] ∧ F_X7_wantAll μ = some (r, μ')
def mX7_wantAll : MI := (cX7_wantAll, [(214, (1, 1, 0, 1, Γ_X3_remember)), (239, (1, 0, 0, 2, Γ_X4_wantTheCounts))], [(19, 5, 1), (29, 5, 3)], [], [], [], [], (29, none), (some .int))
set_option maxHeartbeats 4000000 in
theorem b_X7_wantAll : ∀ as μ r μ', Γ_X7_wantAll as μ r μ' → (elvL as).length ≤ 1 ∧ G mX7_wantAll (Qe r μ') 0 (elv as 1) [] μ (rc r 0) := by
  intro as μ r μ' h
  obtain ⟨rfl, h⟩ := h
  refine ⟨Nat.le_of_ble_eq_true rfl, ?_⟩
  show G mX7_wantAll (Qe r μ') 0 [some (.ref 0)] [] μ (rc r 0)
  unfold F_X7_wantAll at h
  have hb9 : rc r 0 ≤ rc r 0 := Nat.le_refl _
  refine e_aload_n dX7_wantAll_0 rfl ?_
  refine e_get (ci := 5) (j := 3) (t := 2) (v := .ref 4) dX7_wantAll_1 rfl (by decide) rfl rfl rfl ?_
  refine e_aload_n dX7_wantAll_4 rfl ?_
  refine e_get (ci := 5) (j := 1) (t := 2) (v := .ref 2) dX7_wantAll_5 rfl (by decide) rfl rfl rfl ?_
  refine cV_go h (fun E3 hc1 hr4 => e_VX [.ref 2] [] dX7_wantAll_8 rfl rfl rfl rfl ⟨Nat.le_of_ble_eq_true rfl, rfl⟩ (Nat.le_of_ble_eq_true rfl) (hbr hr4 hb9 (Nat.le_of_ble_eq_true rfl)) ⟨2, rfl, (by decide), hc1⟩ rfl ⟨hr4.symm, rfl⟩) (fun μ2 hc1 h => ?_)
  refine e_VV [.ref 2] [] dX7_wantAll_8 rfl rfl rfl rfl ⟨Nat.le_of_ble_eq_true rfl, rfl⟩ (Nat.le_of_ble_eq_true rfl) ⟨2, rfl, (by decide), hc1⟩ ?_
  refine e_aload_n dX7_wantAll_11 rfl ?_
  refine e_get (ci := 5) (j := 1) (t := 2) (v := .ref 2) dX7_wantAll_12 rfl (by decide) rfl rfl rfl ?_
  refine cI_go h (fun E7 hc5 hr8 => e_VX [] [] dX7_wantAll_15 rfl rfl rfl rfl ⟨Nat.le_of_ble_eq_true rfl, rfl⟩ (Nat.le_of_ble_eq_true rfl) (hbr hr8 hb9 (Nat.le_of_ble_eq_true rfl)) ⟨2, rfl, (by decide), hc5⟩ rfl ⟨hr8.symm, rfl⟩) (fun v9 μ6 hc5 h => ?_)
  refine e_VI [] [] dX7_wantAll_15 rfl rfl rfl rfl ⟨Nat.le_of_ble_eq_true rfl, rfl⟩ (Nat.le_of_ble_eq_true rfl) ⟨2, rfl, (by decide), hc5⟩ ?_
  exact e_iret .int dX7_wantAll_18 rfl rfl (ret_eq h)
set_option maxRecDepth 20000 in
theorem ok_X7_wantAll (l : Launch) (hl : l.stackTraces = false) : MOK l yX7_wantAll.cls 5 89 mX7_wantAll := ⟨lk_all (List.forall_mem_cons.mpr ⟨⟨yX3_remember, cX3_remember, 2, none, 2, 22, by decide, by decide, t_1 4 rfl rfl, hd_X3_remember, Or.inr (Or.inl ⟨rfl, sc_X3_remember l hl, t_2 197 rfl rfl, t_2 194 rfl rfl, t_2 195 rfl rfl, _, rfl, t_2 196 rfl rfl⟩)⟩, List.forall_mem_cons.mpr ⟨⟨yX4_wantTheCounts, cX4_wantTheCounts, 4, (some .int), 4, 66, by decide, by decide, t_1 3 rfl rfl, hd_X4_wantTheCounts, Or.inr (Or.inl ⟨rfl, sc_X4_wantTheCounts l hl, t_3 28 rfl rfl, t_3 25 rfl rfl, t_3 26 rfl rfl, _, rfl, t_3 27 rfl rfl⟩)⟩, nil_all⟩⟩), fun ix ci j h => lk_all (P := fun ix q => FldOK yX7_wantAll.cls ix q.1 q.2) (List.forall_mem_cons.mpr ⟨⟨_, rfl, by decide, t_1 123 rfl rfl⟩, List.forall_mem_cons.mpr ⟨⟨_, rfl, by decide, t_1 125 rfl rfl⟩, nil_all⟩⟩) ix (ci, j) h, lk_all (nil_all), lk_all (nil_all), lk_all (nil_all)⟩
theorem hd_X7_wantAll : CallHd yX7_wantAll 0 := ⟨by decide +kernel, by decide +kernel, by decide +kernel⟩
theorem sc_X7_wantAll (l : Launch) (hl : l.stackTraces = false) : SCon l yX7_wantAll cX7_wantAll 1 (some .int) 5 89 0 Γ_X7_wantAll := scon_of mX7_wantAll cls_ok hl (by decide +kernel) rfl rfl (ok_X7_wantAll l hl) rfl rfl b_X7_wantAll
def F_X7_whyNot (a0 : Int32) (μ : Mem) : Out := cV (F_X7_checkLine a0 μ) (fun μ2 => cJ (F_X4_lineMask 2 a0 μ2) (fun v9 μ6 => cI (F_X4_wantedOf 2 a0 μ6) (fun v14 μ11 => cI (F_X4_countOf 2 a0 μ11) (fun v19 μ16 => if v19 = v14 then (rI (0 : Int32) μ16) else (cI (F_J13_bitCount_95d88 (v9 &&& (((μ16.2.1 2 3) &&& ((μ16.2.1 2 2) ^^^ (-1 : Int64))) ^^^ (-1 : Int64))) μ16) (fun v25 μ22 => if v14 ≤ v25 then (cI (F_J13_bitCount_95d88 ((v9 &&& (μ22.2.1 2 3)) &&& (μ22.2.1 2 2)) μ22) (fun v31 μ28 => if v31 ≤ v14 then (rI (3 : Int32) μ28) else (rI (2 : Int32) μ28))) else (rI (1 : Int32) μ22)))))))
def Γ_X7_whyNot : Gam := fun as μ r μ' => ∃ (a0 : Int32), as = [.ref 0, .int a0] ∧ F_X7_whyNot a0 μ = some (r, μ')
def mX7_whyNot : MI := (cX7_whyNot, [(104, (0, 1, 0, 0, Γ_J13_bitCount_95d88)), (138, (1, 1, 1, 5, Γ_X7_checkLine)), (142, (1, 1, 0, 2, Γ_X4_lineMask)), (146, (1, 1, 0, 2, Γ_X4_countOf)), (150, (1, 1, 0, 2, Γ_X4_wantedOf))], [(19, 5, 1), (100, 2, 3), (119, 2, 2)], [], [(210, -1)], [], [], (29, none), (some .int))
set_option maxHeartbeats 4000000 in
theorem b_X7_whyNot : ∀ as μ r μ', Γ_X7_whyNot as μ r μ' → (elvL as).length ≤ 5 ∧ G mX7_whyNot (Qe r μ') 0 (elv as 5) [] μ (rc r 1) := by
  intro as μ r μ' h
  obtain ⟨a0, rfl, h⟩ := h
  refine ⟨Nat.le_of_ble_eq_true rfl, ?_⟩
  show G mX7_whyNot (Qe r μ') 0 [some (.ref 0), some (.int a0), none, none, none] [] μ (rc r 1)
  unfold F_X7_whyNot at h
  have hb9 : rc r 1 ≤ rc r 1 := Nat.le_refl _
  refine e_aload_n dX7_whyNot_0 rfl ?_
  refine e_iload_n dX7_whyNot_1 rfl ?_
  refine cV_go h (fun E3 hc1 hr4 => e_VX [.int a0] [] dX7_whyNot_2 rfl rfl rfl rfl ⟨Nat.le_of_ble_eq_true rfl, rfl⟩ (Nat.le_of_ble_eq_true rfl) (hbr hr4 hb9 (Nat.le_of_ble_eq_true rfl)) ⟨a0, rfl, hc1⟩ rfl ⟨hr4.symm, rfl⟩) (fun μ2 hc1 h => ?_)
  refine e_VV [.int a0] [] dX7_whyNot_2 rfl rfl rfl rfl ⟨Nat.le_of_ble_eq_true rfl, rfl⟩ (Nat.le_of_ble_eq_true rfl) ⟨a0, rfl, hc1⟩ ?_
  refine e_aload_n dX7_whyNot_5 rfl ?_
  refine e_get (ci := 5) (j := 1) (t := 2) (v := .ref 2) dX7_whyNot_6 rfl (by decide) rfl rfl rfl ?_
  refine e_iload_n dX7_whyNot_9 rfl ?_
  refine cJ_go h (fun E7 hc5 hr8 => e_VX [.int a0] [] dX7_whyNot_10 rfl rfl rfl rfl ⟨Nat.le_of_ble_eq_true rfl, rfl⟩ (Nat.le_of_ble_eq_true rfl) (hbr hr8 hb9 (Nat.le_of_ble_eq_true rfl)) ⟨2, a0, rfl, (by decide), hc5⟩ rfl ⟨hr8.symm, rfl⟩) (fun v9 μ6 hc5 h => ?_)
  refine e_VJ [.int a0] [] dX7_whyNot_10 rfl rfl rfl rfl ⟨Nat.le_of_ble_eq_true rfl, rfl⟩ (Nat.le_of_ble_eq_true rfl) ⟨2, a0, rfl, (by decide), hc5⟩ ?_
  refine e_lstore_nL [some (.ref 0), some (.int a0), some (.long v9), none, none] dX7_whyNot_13 (Nat.le_of_ble_eq_true rfl) rfl ?_
  refine e_aload_n dX7_whyNot_14 rfl ?_
  refine e_get (ci := 5) (j := 1) (t := 2) (v := .ref 2) dX7_whyNot_15 rfl (by decide) rfl rfl rfl ?_
  refine e_iload_n dX7_whyNot_18 rfl ?_
  refine cI_go h (fun E12 hc10 hr13 => e_VX [.int a0] [] dX7_whyNot_19 rfl rfl rfl rfl ⟨Nat.le_of_ble_eq_true rfl, rfl⟩ (Nat.le_of_ble_eq_true rfl) (hbr hr13 hb9 (Nat.le_of_ble_eq_true rfl)) ⟨2, a0, rfl, (by decide), hc10⟩ rfl ⟨hr13.symm, rfl⟩) (fun v14 μ11 hc10 h => ?_)
  refine e_VI [.int a0] [] dX7_whyNot_19 rfl rfl rfl rfl ⟨Nat.le_of_ble_eq_true rfl, rfl⟩ (Nat.le_of_ble_eq_true rfl) ⟨2, a0, rfl, (by decide), hc10⟩ ?_
  refine e_istoreL [some (.ref 0), some (.int a0), some (.long v9), none, some (.int v14)] dX7_whyNot_22 (Nat.le_of_ble_eq_true rfl) rfl ?_
  refine e_aload_n dX7_whyNot_24 rfl ?_
  refine e_get (ci := 5) (j := 1) (t := 2) (v := .ref 2) dX7_whyNot_25 rfl (by decide) rfl rfl rfl ?_
  refine e_iload_n dX7_whyNot_28 rfl ?_
  refine cI_go h (fun E17 hc15 hr18 => e_VX [.int a0] [] dX7_whyNot_29 rfl rfl rfl rfl ⟨Nat.le_of_ble_eq_true rfl, rfl⟩ (Nat.le_of_ble_eq_true rfl) (hbr hr18 hb9 (Nat.le_of_ble_eq_true rfl)) ⟨2, a0, rfl, (by decide), hc15⟩ rfl ⟨hr18.symm, rfl⟩) (fun v19 μ16 hc15 h => ?_)
  refine e_VI [.int a0] [] dX7_whyNot_29 rfl rfl rfl rfl ⟨Nat.le_of_ble_eq_true rfl, rfl⟩ (Nat.le_of_ble_eq_true rfl) ⟨2, a0, rfl, (by decide), hc15⟩ ?_
  refine e_iload dX7_whyNot_32 rfl ?_
  refine e_ic_ne (tgt := 39) dX7_whyNot_34 rfl (fun hc20 => ?_) (fun hc20 => ?_)
  · rw [if_neg hc20] at h
    refine e_iload dX7_whyNot_39 rfl ?_
    refine e_lload_n dX7_whyNot_41 rfl ?_
    refine e_aload_n dX7_whyNot_42 rfl ?_
    refine e_get (ci := 5) (j := 1) (t := 2) (v := .ref 2) dX7_whyNot_43 rfl (by decide) rfl rfl rfl ?_
    refine e_get (ci := 2) (j := 3) (t := 1) (v := .long (μ16.2.1 2 3)) dX7_whyNot_46 rfl (by decide) rfl rfl rfl ?_
    refine e_aload_n dX7_whyNot_49 rfl ?_
    refine e_get (ci := 5) (j := 1) (t := 2) (v := .ref 2) dX7_whyNot_50 rfl (by decide) rfl rfl rfl ?_
    refine e_get (ci := 2) (j := 2) (t := 1) (v := .long (μ16.2.1 2 2)) dX7_whyNot_53 rfl (by decide) rfl rfl rfl ?_
    refine e_ldc2 (v := (-1 : Int64)) dX7_whyNot_56 rfl ?_
    refine e_lxor dX7_whyNot_59 ?_
    refine e_land dX7_whyNot_60 ?_
    refine e_ldc2 (v := (-1 : Int64)) dX7_whyNot_61 rfl ?_
    refine e_lxor dX7_whyNot_64 ?_
    refine e_land dX7_whyNot_65 ?_
    refine cI_go h (fun E23 hc21 hr24 => e_SX [.long (v9 &&& (((μ16.2.1 2 3) &&& ((μ16.2.1 2 2) ^^^ (-1 : Int64))) ^^^ (-1 : Int64)))] [.int v14] dX7_whyNot_66 rfl (by decide) rfl rfl (Nat.le_of_ble_eq_true rfl) (hbr hr24 hb9 (Nat.le_of_ble_eq_true rfl)) ⟨v9 &&& (((μ16.2.1 2 3) &&& ((μ16.2.1 2 2) ^^^ (-1 : Int64))) ^^^ (-1 : Int64)), rfl, hc21⟩ rfl ⟨hr24.symm, rfl⟩) (fun v25 μ22 hc21 h => ?_)
    refine e_SI [.long (v9 &&& (((μ16.2.1 2 3) &&& ((μ16.2.1 2 2) ^^^ (-1 : Int64))) ^^^ (-1 : Int64)))] [.int v14] dX7_whyNot_66 rfl (by decide) rfl rfl (Nat.le_of_ble_eq_true rfl) ⟨v9 &&& (((μ16.2.1 2 3) &&& ((μ16.2.1 2 2) ^^^ (-1 : Int64))) ^^^ (-1 : Int64)), rfl, hc21⟩ ?_
    refine e_ic_le (tgt := 74) dX7_whyNot_69 rfl (fun hc26 => ?_) (fun hc26 => ?_)
    · rw [if_pos hc26] at h
      refine e_iload dX7_whyNot_74 rfl ?_
      refine e_lload_n dX7_whyNot_76 rfl ?_
      refine e_aload_n dX7_whyNot_77 rfl ?_
      refine e_get (ci := 5) (j := 1) (t := 2) (v := .ref 2) dX7_whyNot_78 rfl (by decide) rfl rfl rfl ?_
      refine e_get (ci := 2) (j := 3) (t := 1) (v := .long (μ22.2.1 2 3)) dX7_whyNot_81 rfl (by decide) rfl rfl rfl ?_
      refine e_land dX7_whyNot_84 ?_
      refine e_aload_n dX7_whyNot_85 rfl ?_
      refine e_get (ci := 5) (j := 1) (t := 2) (v := .ref 2) dX7_whyNot_86 rfl (by decide) rfl rfl rfl ?_
      refine e_get (ci := 2) (j := 2) (t := 1) (v := .long (μ22.2.1 2 2)) dX7_whyNot_89 rfl (by decide) rfl rfl rfl ?_
      refine e_land dX7_whyNot_92 ?_
      refine cI_go h (fun E29 hc27 hr30 => e_SX [.long ((v9 &&& (μ22.2.1 2 3)) &&& (μ22.2.1 2 2))] [.int v14] dX7_whyNot_93 rfl (by decide) rfl rfl (Nat.le_of_ble_eq_true rfl) (hbr hr30 hb9 (Nat.le_of_ble_eq_true rfl)) ⟨(v9 &&& (μ22.2.1 2 3)) &&& (μ22.2.1 2 2), rfl, hc27⟩ rfl ⟨hr30.symm, rfl⟩) (fun v31 μ28 hc27 h => ?_)
      refine e_SI [.long ((v9 &&& (μ22.2.1 2 3)) &&& (μ22.2.1 2 2))] [.int v14] dX7_whyNot_93 rfl (by decide) rfl rfl (Nat.le_of_ble_eq_true rfl) ⟨(v9 &&& (μ22.2.1 2 3)) &&& (μ22.2.1 2 2), rfl, hc27⟩ ?_
      refine e_ic_ge (tgt := 101) dX7_whyNot_96 rfl (fun hc32 => ?_) (fun hc32 => ?_)
      · rw [if_pos hc32] at h
        refine e_iconst dX7_whyNot_101 ci_3 ?_
        exact e_iret .int dX7_whyNot_102 rfl rfl (ret_eq h)
      · rw [if_neg hc32] at h
        refine e_iconst dX7_whyNot_99 ci_2 ?_
        exact e_iret .int dX7_whyNot_100 rfl rfl (ret_eq h)
    · rw [if_neg hc26] at h
      refine e_iconst dX7_whyNot_72 ci_1 ?_
      exact e_iret .int dX7_whyNot_73 rfl rfl (ret_eq h)
  · rw [if_pos hc20] at h
    refine e_iconst dX7_whyNot_37 ci_0 ?_
    exact e_iret .int dX7_whyNot_38 rfl rfl (ret_eq h)
set_option maxRecDepth 20000 in
theorem ok_X7_whyNot (l : Launch) (hl : l.stackTraces = false) : MOK l yX7_whyNot.cls 7 111 mX7_whyNot := ⟨lk_all (List.forall_mem_cons.mpr ⟨⟨yJ13_bitCount_95d88, cJ13_bitCount_95d88, 2, (some .int), 1, 0, by decide, by decide, t_1 7 rfl rfl, hd_J13_bitCount_95d88, Or.inl ⟨rfl, sc_J13_bitCount_95d88 l hl, t_1 155 rfl rfl, t_1 159 rfl rfl, t_1 154 rfl rfl⟩⟩, List.forall_mem_cons.mpr ⟨⟨yX7_checkLine, cX7_checkLine, 2, none, 6, 90, by decide, by decide, t_1 1 rfl rfl, hd_X7_checkLine, Or.inr (Or.inl ⟨rfl, sc_X7_checkLine l hl, t_2 81 rfl rfl, t_2 78 rfl rfl, t_2 80 rfl rfl, _, rfl, t_p 2 rfl⟩)⟩, List.forall_mem_cons.mpr ⟨⟨yX4_lineMask, cX4_lineMask, 2, (some .long), 2, 20, by decide, by decide, t_1 3 rfl rfl, hd_X4_lineMask, Or.inr (Or.inl ⟨rfl, sc_X4_lineMask l hl, t_1 185 rfl rfl, t_2 102 rfl rfl, t_1 183 rfl rfl, _, rfl, t_1 184 rfl rfl⟩)⟩, List.forall_mem_cons.mpr ⟨⟨yX4_countOf, cX4_countOf, 2, (some .int), 3, 41, by decide, by decide, t_1 3 rfl rfl, hd_X4_countOf, Or.inr (Or.inl ⟨rfl, sc_X4_countOf l hl, t_1 181 rfl rfl, t_2 103 rfl rfl, t_1 179 rfl rfl, _, rfl, t_1 180 rfl rfl⟩)⟩, List.forall_mem_cons.mpr ⟨⟨yX4_wantedOf, cX4_wantedOf, 2, (some .int), 2, 22, by decide, by decide, t_1 3 rfl rfl, hd_X4_wantedOf, Or.inr (Or.inl ⟨rfl, sc_X4_wantedOf l hl, t_1 202 rfl rfl, t_2 104 rfl rfl, t_1 200 rfl rfl, _, rfl, t_1 201 rfl rfl⟩)⟩, nil_all⟩⟩⟩⟩⟩), fun ix ci j h => lk_all (P := fun ix q => FldOK yX7_whyNot.cls ix q.1 q.2) (List.forall_mem_cons.mpr ⟨⟨_, rfl, by decide, t_1 123 rfl rfl⟩, List.forall_mem_cons.mpr ⟨⟨_, rfl, by decide, t_1 57 rfl rfl⟩, List.forall_mem_cons.mpr ⟨⟨_, rfl, by decide, t_1 54 rfl rfl⟩, nil_all⟩⟩⟩) ix (ci, j) h, lk_all (nil_all), lk_all (List.forall_mem_cons.mpr ⟨t_3 68 rfl rfl, nil_all⟩), lk_all (nil_all)⟩
theorem hd_X7_whyNot : CallHd yX7_whyNot 1 := ⟨by decide +kernel, by decide +kernel, by decide +kernel⟩
theorem sc_X7_whyNot (l : Launch) (hl : l.stackTraces = false) : SCon l yX7_whyNot cX7_whyNot 5 (some .int) 7 111 1 Γ_X7_whyNot := scon_of mX7_whyNot cls_ok hl (by decide +kernel) rfl rfl (ok_X7_whyNot l hl) rfl rfl b_X7_whyNot
