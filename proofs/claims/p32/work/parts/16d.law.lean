def f_L_exchanges_119 (x1 : Int32) (x2 : Int32) (x4 : Int32) (μ : Mem) : Out := if x2 = 0 then (rI (1 : Int32) μ) else (cJ (F_L_bits (0 : Int32) μ) (fun v36 μ33 => cI (F_L_up x1 x2 μ33) (fun v41 μ38 => cI (F_X7_exchangeAt v41 μ38) (fun v46 μ43 => cI (F_X7_exchangeAt x4 μ43) (fun v51 μ48 => cI (F_X7_exchange (v46 / (1000 : Int32)) (remI (v46 / (100 : Int32)) (10 : Int32)) (remI (v46 / (10 : Int32)) (10 : Int32)) (remI v46 (10 : Int32)) μ48) (fun v56 μ53 => cI (F_X7_about (8 : Int32) μ53) (fun v61 μ58 => cJ (F_L_bits (0 : Int32) μ58) (fun v66 μ63 => cI (F_X7_about (7 : Int32) μ63) (fun v71 μ68 => if v56 = v71 then (cI (F_L_ones (v36 ^^^ v66) μ68) (fun v77 μ74 => if v77 = (4 : Int32) then (cI (F_L_ones v36 μ74) (fun v83 μ80 => cI (F_L_ones v66 μ80) (fun v88 μ85 => if v83 = v88 then (cI (F_L_lines μ85) (fun v94 μ91 => if v94 = 0 then (rI (0 : Int32) μ91) else (cI (F_X7_exchange (v46 / (1000 : Int32)) (remI (v46 / (100 : Int32)) (10 : Int32)) (remI (v46 / (10 : Int32)) (10 : Int32)) (remI v46 (10 : Int32)) μ91) (fun v100 μ97 => if v100 < 0 then (rI (0 : Int32) μ97) else (cJ (F_L_bits (0 : Int32) μ97) (fun v106 μ103 => if (lg_cmp v106 v36) = 0 then (cI (F_X7_undo μ103) (fun v112 μ109 => if v112 < 0 then (rI (0 : Int32) μ109) else (cJ (F_L_bits (0 : Int32) μ109) (fun v118 μ115 => if (lg_cmp v118 v66) = 0 then (cI (F_X7_undo μ115) (fun v124 μ121 => if v124 < 0 then (rI (0 : Int32) μ121) else (cJ (F_L_bits (0 : Int32) μ121) (fun v130 μ127 => if (lg_cmp v130 v36) = 0 then (cI (F_X7_exchange (v51 / (1000 : Int32)) (remI (v51 / (100 : Int32)) (10 : Int32)) (remI (v51 / (10 : Int32)) (10 : Int32)) (remI v51 (10 : Int32)) μ127) (fun v136 μ133 => cI (F_X7_about (8 : Int32) μ133) (fun v141 μ138 => cI (F_X7_undo μ138) (fun v146 μ143 => if v146 < 0 then (rI (0 : Int32) μ143) else (if v136 < v56 then (rI (1 : Int32) μ143) else (if v136 = v56 then (if v141 < v61 then (rI (1 : Int32) μ143) else (if v141 = v61 then (cI (F_L_up x1 x2 μ143) (fun v156 μ153 => if v156 < x4 then (rI (0 : Int32) μ153) else (rI (1 : Int32) μ153))) else (rI (0 : Int32) μ143))) else (rI (0 : Int32) μ143))))))) else (rI (0 : Int32) μ127))))) else (rI (0 : Int32) μ115))))) else (rI (0 : Int32) μ103))))))) else (rI (0 : Int32) μ85)))) else (rI (0 : Int32) μ74))) else (rI (0 : Int32) μ68))))))))))
def f_L_exchanges_12 : Nat → Int32 → Int32 → Int32 → Int32 → Mem → Out
  | 0, _, _, _, _, _ => none
  | n + 1, x1, x2, x3, x4, μ => if x2 ≤ x4 then (cI (F_X7_bestExchange μ) (fun v11 μ8 => cI (F_X7_exchangeAt x2 μ8) (fun v16 μ13 => if v16 = (-9 : Int32) then (if 0 ≤ v11 then (if v11 < x2 then (f_L_exchanges_119 x1 x2 v11 μ13) else (rI (0 : Int32) μ13)) else (if 0 < x2 then (rI (0 : Int32) μ13) else (if v11 = (-9 : Int32) then (f_L_exchanges_119 x1 x2 v11 μ13) else (rI (0 : Int32) μ13)))) else (rI (0 : Int32) μ13)))) else (cI (F_X7_exchangeAt x4 μ) (fun v26 μ23 => if v26 ≤ x3 then (rI (0 : Int32) μ23) else (if (remI (v26 / (100 : Int32)) (10 : Int32)) ≤ (v26 / (1000 : Int32)) then (rI (0 : Int32) μ23) else (if (remI (v26 / (10 : Int32)) (10 : Int32)) < (remI v26 (10 : Int32)) then (lt (x4 + (1 : Int32)) (fun v30 => f_L_exchanges_12 n x1 x2 v26 v30 μ23)) else (rI (0 : Int32) μ23)))))
def F_L_exchanges (a1 : Int32) (μ : Mem) : Out := cI (F_X7_about (10 : Int32) μ) (fun v5 μ2 => f_L_exchanges_12 BIG a1 v5 (-1 : Int32) (0 : Int32) μ2)
def Γ_L_exchanges : Gam := fun as μ r μ' => ∃ (a1 : Int32), as = [.ref 0, .int a1] ∧ F_L_exchanges a1 μ = some (r, μ')
def mL_exchanges : MI := (cL_exchanges, [(24, (1, 0, 1, 5, Γ_X7_undo)), (27, (1, 1, 1, 5, Γ_X7_about)), (34, (0, 2, 1, 0, Γ_L_bits)), (51, (0, 1, 0, 0, Γ_L_ones)), (60, (1, 1, 1, 5, Γ_X7_exchangeAt)), (63, (1, 0, 0, 5, Γ_X7_bestExchange)), (66, (0, 2, 0, 0, Γ_L_up)), (69, (1, 4, 1, 5, Γ_X7_exchange)), (73, (0, 1, 1, 0, Γ_L_lines))], [], [], [], [], [], (29, none), (some .boolean))
set_option maxHeartbeats 4000000 in
theorem g_L_exchanges_119 {r : Res} {μ' : Mem} : ∀ (x1 : Int32) (x2 : Int32) (x4 : Int32), ∀ (μ : Mem) (b : Nat), rc r 1 ≤ b → f_L_exchanges_119 x1 x2 x4 μ = some (r, μ') → G mL_exchanges (Qe r μ') 119 [some (.ref 0), some (.int x1), some (.int x2), none, some (.int x4), none, none, none, none, none, none, none, none, none, none] [] μ b := by
  intro x1 x2 x4 μ b hb9 h
  unfold f_L_exchanges_119 at h
  refine e_iload_n dL_exchanges_119 rfl ?_
  refine e_if_ne (tgt := 125) dL_exchanges_120 rfl (fun hc31 => ?_) (fun hc31 => ?_)
  · rw [if_neg hc31] at h
    refine e_aload_n dL_exchanges_125 rfl ?_
    refine e_iconst dL_exchanges_126 ci_0 ?_
    refine cJ_go h (fun E34 hc32 hr35 => e_SX [.ref 0, .int (0 : Int32)] [] dL_exchanges_127 rfl (by decide) rfl rfl (Nat.le_of_ble_eq_true rfl) (hbr hr35 hb9 (Nat.le_of_ble_eq_true rfl)) ⟨(0 : Int32), rfl, hc32⟩ rfl ⟨hr35.symm, rfl⟩) (fun v36 μ33 hc32 h => ?_)
    refine e_SJ [.ref 0, .int (0 : Int32)] [] dL_exchanges_127 rfl (by decide) rfl rfl (Nat.le_of_ble_eq_true rfl) ⟨(0 : Int32), rfl, hc32⟩ ?_
    refine e_lstoreL [some (.ref 0), some (.int x1), some (.int x2), none, some (.int x4), some (.long v36), none, none, none, none, none, none, none, none, none] dL_exchanges_130 (Nat.le_of_ble_eq_true rfl) rfl ?_
    refine e_aload_n dL_exchanges_132 rfl ?_
    refine e_iload_n dL_exchanges_133 rfl ?_
    refine e_iload_n dL_exchanges_134 rfl ?_
    refine cI_go h (fun E39 hc37 hr40 => e_SX [.int x1, .int x2] [.ref 0] dL_exchanges_135 rfl (by decide) rfl rfl (Nat.le_of_ble_eq_true rfl) (hbr hr40 hb9 (Nat.le_of_ble_eq_true rfl)) ⟨x1, x2, rfl, hc37⟩ rfl ⟨hr40.symm, rfl⟩) (fun v41 μ38 hc37 h => ?_)
    refine e_SI [.int x1, .int x2] [.ref 0] dL_exchanges_135 rfl (by decide) rfl rfl (Nat.le_of_ble_eq_true rfl) ⟨x1, x2, rfl, hc37⟩ ?_
    refine cI_go h (fun E44 hc42 hr45 => e_VX [.int v41] [] dL_exchanges_138 rfl rfl rfl rfl ⟨Nat.le_of_ble_eq_true rfl, rfl⟩ (Nat.le_of_ble_eq_true rfl) (hbr hr45 hb9 (Nat.le_of_ble_eq_true rfl)) ⟨v41, rfl, hc42⟩ rfl ⟨hr45.symm, rfl⟩) (fun v46 μ43 hc42 h => ?_)
    refine e_VI [.int v41] [] dL_exchanges_138 rfl rfl rfl rfl ⟨Nat.le_of_ble_eq_true rfl, rfl⟩ (Nat.le_of_ble_eq_true rfl) ⟨v41, rfl, hc42⟩ ?_
    refine e_istoreL [some (.ref 0), some (.int x1), some (.int x2), none, some (.int x4), some (.long v36), none, some (.int v46), none, none, none, none, none, none, none] dL_exchanges_141 (Nat.le_of_ble_eq_true rfl) rfl ?_
    refine e_aload_n dL_exchanges_143 rfl ?_
    refine e_iload dL_exchanges_144 rfl ?_
    refine cI_go h (fun E49 hc47 hr50 => e_VX [.int x4] [] dL_exchanges_146 rfl rfl rfl rfl ⟨Nat.le_of_ble_eq_true rfl, rfl⟩ (Nat.le_of_ble_eq_true rfl) (hbr hr50 hb9 (Nat.le_of_ble_eq_true rfl)) ⟨x4, rfl, hc47⟩ rfl ⟨hr50.symm, rfl⟩) (fun v51 μ48 hc47 h => ?_)
    refine e_VI [.int x4] [] dL_exchanges_146 rfl rfl rfl rfl ⟨Nat.le_of_ble_eq_true rfl, rfl⟩ (Nat.le_of_ble_eq_true rfl) ⟨x4, rfl, hc47⟩ ?_
    refine e_istoreL [some (.ref 0), some (.int x1), some (.int x2), none, some (.int x4), some (.long v36), none, some (.int v46), some (.int v51), none, none, none, none, none, none] dL_exchanges_149 (Nat.le_of_ble_eq_true rfl) rfl ?_
    refine e_aload_n dL_exchanges_151 rfl ?_
    refine e_iload dL_exchanges_152 rfl ?_
    refine e_sipush dL_exchanges_154 cs_1000 ?_
    refine e_idiv dL_exchanges_157 (by decide) ?_
    refine e_iload dL_exchanges_158 rfl ?_
    refine e_bipush dL_exchanges_160 cb_100 ?_
    refine e_idiv dL_exchanges_162 (by decide) ?_
    refine e_bipush dL_exchanges_163 cb_10 ?_
    refine e_irem dL_exchanges_165 (by decide) ?_
    refine e_iload dL_exchanges_166 rfl ?_
    refine e_bipush dL_exchanges_168 cb_10 ?_
    refine e_idiv dL_exchanges_170 (by decide) ?_
    refine e_bipush dL_exchanges_171 cb_10 ?_
    refine e_irem dL_exchanges_173 (by decide) ?_
    refine e_iload dL_exchanges_174 rfl ?_
    refine e_bipush dL_exchanges_176 cb_10 ?_
    refine e_irem dL_exchanges_178 (by decide) ?_
    refine cI_go h (fun E54 hc52 hr55 => e_VX [.int (v46 / (1000 : Int32)), .int (remI (v46 / (100 : Int32)) (10 : Int32)), .int (remI (v46 / (10 : Int32)) (10 : Int32)), .int (remI v46 (10 : Int32))] [] dL_exchanges_179 rfl rfl rfl rfl ⟨Nat.le_of_ble_eq_true rfl, rfl⟩ (Nat.le_of_ble_eq_true rfl) (hbr hr55 hb9 (Nat.le_of_ble_eq_true rfl)) ⟨v46 / (1000 : Int32), remI (v46 / (100 : Int32)) (10 : Int32), remI (v46 / (10 : Int32)) (10 : Int32), remI v46 (10 : Int32), rfl, hc52⟩ rfl ⟨hr55.symm, rfl⟩) (fun v56 μ53 hc52 h => ?_)
    refine e_VI [.int (v46 / (1000 : Int32)), .int (remI (v46 / (100 : Int32)) (10 : Int32)), .int (remI (v46 / (10 : Int32)) (10 : Int32)), .int (remI v46 (10 : Int32))] [] dL_exchanges_179 rfl rfl rfl rfl ⟨Nat.le_of_ble_eq_true rfl, rfl⟩ (Nat.le_of_ble_eq_true rfl) ⟨v46 / (1000 : Int32), remI (v46 / (100 : Int32)) (10 : Int32), remI (v46 / (10 : Int32)) (10 : Int32), remI v46 (10 : Int32), rfl, hc52⟩ ?_
    refine e_istoreL [some (.ref 0), some (.int x1), some (.int x2), none, some (.int x4), some (.long v36), none, some (.int v46), some (.int v51), some (.int v56), none, none, none, none, none] dL_exchanges_182 (Nat.le_of_ble_eq_true rfl) rfl ?_
    refine e_aload_n dL_exchanges_184 rfl ?_
    refine e_bipush dL_exchanges_185 cb_8 ?_
    refine cI_go h (fun E59 hc57 hr60 => e_VX [.int (8 : Int32)] [] dL_exchanges_187 rfl rfl rfl rfl ⟨Nat.le_of_ble_eq_true rfl, rfl⟩ (Nat.le_of_ble_eq_true rfl) (hbr hr60 hb9 (Nat.le_of_ble_eq_true rfl)) ⟨(8 : Int32), rfl, hc57⟩ rfl ⟨hr60.symm, rfl⟩) (fun v61 μ58 hc57 h => ?_)
    refine e_VI [.int (8 : Int32)] [] dL_exchanges_187 rfl rfl rfl rfl ⟨Nat.le_of_ble_eq_true rfl, rfl⟩ (Nat.le_of_ble_eq_true rfl) ⟨(8 : Int32), rfl, hc57⟩ ?_
    refine e_istoreL [some (.ref 0), some (.int x1), some (.int x2), none, some (.int x4), some (.long v36), none, some (.int v46), some (.int v51), some (.int v56), some (.int v61), none, none, none, none] dL_exchanges_190 (Nat.le_of_ble_eq_true rfl) rfl ?_
    refine e_aload_n dL_exchanges_192 rfl ?_
    refine e_iconst dL_exchanges_193 ci_0 ?_
    refine cJ_go h (fun E64 hc62 hr65 => e_SX [.ref 0, .int (0 : Int32)] [] dL_exchanges_194 rfl (by decide) rfl rfl (Nat.le_of_ble_eq_true rfl) (hbr hr65 hb9 (Nat.le_of_ble_eq_true rfl)) ⟨(0 : Int32), rfl, hc62⟩ rfl ⟨hr65.symm, rfl⟩) (fun v66 μ63 hc62 h => ?_)
    refine e_SJ [.ref 0, .int (0 : Int32)] [] dL_exchanges_194 rfl (by decide) rfl rfl (Nat.le_of_ble_eq_true rfl) ⟨(0 : Int32), rfl, hc62⟩ ?_
    refine e_lstoreL [some (.ref 0), some (.int x1), some (.int x2), none, some (.int x4), some (.long v36), none, some (.int v46), some (.int v51), some (.int v56), some (.int v61), some (.long v66), none, none, none] dL_exchanges_197 (Nat.le_of_ble_eq_true rfl) rfl ?_
    refine e_iload dL_exchanges_199 rfl ?_
    refine e_aload_n dL_exchanges_201 rfl ?_
    refine e_bipush dL_exchanges_202 cb_7 ?_
    refine cI_go h (fun E69 hc67 hr70 => e_VX [.int (7 : Int32)] [.int v56] dL_exchanges_204 rfl rfl rfl rfl ⟨Nat.le_of_ble_eq_true rfl, rfl⟩ (Nat.le_of_ble_eq_true rfl) (hbr hr70 hb9 (Nat.le_of_ble_eq_true rfl)) ⟨(7 : Int32), rfl, hc67⟩ rfl ⟨hr70.symm, rfl⟩) (fun v71 μ68 hc67 h => ?_)
    refine e_VI [.int (7 : Int32)] [.int v56] dL_exchanges_204 rfl rfl rfl rfl ⟨Nat.le_of_ble_eq_true rfl, rfl⟩ (Nat.le_of_ble_eq_true rfl) ⟨(7 : Int32), rfl, hc67⟩ ?_
    refine e_ic_ne (tgt := 323) dL_exchanges_207 rfl (fun hc72 => ?_) (fun hc72 => ?_)
    · rw [if_neg hc72] at h
      refine e_iconst dL_exchanges_323 ci_0 ?_
      exact e_iret .boolean dL_exchanges_324 rfl rfl (ret_eq h)
    · rw [if_pos hc72] at h
      refine e_lload dL_exchanges_210 rfl ?_
      refine e_lload dL_exchanges_212 rfl ?_
      refine e_lxor dL_exchanges_214 ?_
      refine cI_go h (fun E75 hc73 hr76 => e_SX [.long (v36 ^^^ v66)] [] dL_exchanges_215 rfl (by decide) rfl rfl (Nat.le_of_ble_eq_true rfl) (hbr hr76 hb9 (Nat.le_of_ble_eq_true rfl)) ⟨v36 ^^^ v66, rfl, hc73⟩ rfl ⟨hr76.symm, rfl⟩) (fun v77 μ74 hc73 h => ?_)
      refine e_SI [.long (v36 ^^^ v66)] [] dL_exchanges_215 rfl (by decide) rfl rfl (Nat.le_of_ble_eq_true rfl) ⟨v36 ^^^ v66, rfl, hc73⟩ ?_
      refine e_iconst dL_exchanges_218 ci_4 ?_
      refine e_ic_ne (tgt := 323) dL_exchanges_219 rfl (fun hc78 => ?_) (fun hc78 => ?_)
      · rw [if_neg hc78] at h
        refine e_iconst dL_exchanges_323 ci_0 ?_
        exact e_iret .boolean dL_exchanges_324 rfl rfl (ret_eq h)
      · rw [if_pos hc78] at h
        refine e_lload dL_exchanges_222 rfl ?_
        refine cI_go h (fun E81 hc79 hr82 => e_SX [.long v36] [] dL_exchanges_224 rfl (by decide) rfl rfl (Nat.le_of_ble_eq_true rfl) (hbr hr82 hb9 (Nat.le_of_ble_eq_true rfl)) ⟨v36, rfl, hc79⟩ rfl ⟨hr82.symm, rfl⟩) (fun v83 μ80 hc79 h => ?_)
        refine e_SI [.long v36] [] dL_exchanges_224 rfl (by decide) rfl rfl (Nat.le_of_ble_eq_true rfl) ⟨v36, rfl, hc79⟩ ?_
        refine e_lload dL_exchanges_227 rfl ?_
        refine cI_go h (fun E86 hc84 hr87 => e_SX [.long v66] [.int v83] dL_exchanges_229 rfl (by decide) rfl rfl (Nat.le_of_ble_eq_true rfl) (hbr hr87 hb9 (Nat.le_of_ble_eq_true rfl)) ⟨v66, rfl, hc84⟩ rfl ⟨hr87.symm, rfl⟩) (fun v88 μ85 hc84 h => ?_)
        refine e_SI [.long v66] [.int v83] dL_exchanges_229 rfl (by decide) rfl rfl (Nat.le_of_ble_eq_true rfl) ⟨v66, rfl, hc84⟩ ?_
        refine e_ic_ne (tgt := 323) dL_exchanges_232 rfl (fun hc89 => ?_) (fun hc89 => ?_)
        · rw [if_neg hc89] at h
          refine e_iconst dL_exchanges_323 ci_0 ?_
          exact e_iret .boolean dL_exchanges_324 rfl rfl (ret_eq h)
        · rw [if_pos hc89] at h
          refine e_aload_n dL_exchanges_235 rfl ?_
          refine cI_go h (fun E92 hc90 hr93 => e_SX [.ref 0] [] dL_exchanges_236 rfl (by decide) rfl rfl (Nat.le_of_ble_eq_true rfl) (hbr hr93 hb9 (Nat.le_of_ble_eq_true rfl)) ⟨rfl, hc90⟩ rfl ⟨hr93.symm, rfl⟩) (fun v94 μ91 hc90 h => ?_)
          refine e_SI [.ref 0] [] dL_exchanges_236 rfl (by decide) rfl rfl (Nat.le_of_ble_eq_true rfl) ⟨rfl, hc90⟩ ?_
          refine e_if_eq (tgt := 323) dL_exchanges_239 rfl (fun hc95 => ?_) (fun hc95 => ?_)
          · rw [if_pos hc95] at h
            refine e_iconst dL_exchanges_323 ci_0 ?_
            exact e_iret .boolean dL_exchanges_324 rfl rfl (ret_eq h)
          · rw [if_neg hc95] at h
            refine e_aload_n dL_exchanges_242 rfl ?_
            refine e_iload dL_exchanges_243 rfl ?_
            refine e_sipush dL_exchanges_245 cs_1000 ?_
            refine e_idiv dL_exchanges_248 (by decide) ?_
            refine e_iload dL_exchanges_249 rfl ?_
            refine e_bipush dL_exchanges_251 cb_100 ?_
            refine e_idiv dL_exchanges_253 (by decide) ?_
            refine e_bipush dL_exchanges_254 cb_10 ?_
            refine e_irem dL_exchanges_256 (by decide) ?_
            refine e_iload dL_exchanges_257 rfl ?_
            refine e_bipush dL_exchanges_259 cb_10 ?_
            refine e_idiv dL_exchanges_261 (by decide) ?_
            refine e_bipush dL_exchanges_262 cb_10 ?_
            refine e_irem dL_exchanges_264 (by decide) ?_
            refine e_iload dL_exchanges_265 rfl ?_
            refine e_bipush dL_exchanges_267 cb_10 ?_
            refine e_irem dL_exchanges_269 (by decide) ?_
            refine cI_go h (fun E98 hc96 hr99 => e_VX [.int (v46 / (1000 : Int32)), .int (remI (v46 / (100 : Int32)) (10 : Int32)), .int (remI (v46 / (10 : Int32)) (10 : Int32)), .int (remI v46 (10 : Int32))] [] dL_exchanges_270 rfl rfl rfl rfl ⟨Nat.le_of_ble_eq_true rfl, rfl⟩ (Nat.le_of_ble_eq_true rfl) (hbr hr99 hb9 (Nat.le_of_ble_eq_true rfl)) ⟨v46 / (1000 : Int32), remI (v46 / (100 : Int32)) (10 : Int32), remI (v46 / (10 : Int32)) (10 : Int32), remI v46 (10 : Int32), rfl, hc96⟩ rfl ⟨hr99.symm, rfl⟩) (fun v100 μ97 hc96 h => ?_)
            refine e_VI [.int (v46 / (1000 : Int32)), .int (remI (v46 / (100 : Int32)) (10 : Int32)), .int (remI (v46 / (10 : Int32)) (10 : Int32)), .int (remI v46 (10 : Int32))] [] dL_exchanges_270 rfl rfl rfl rfl ⟨Nat.le_of_ble_eq_true rfl, rfl⟩ (Nat.le_of_ble_eq_true rfl) ⟨v46 / (1000 : Int32), remI (v46 / (100 : Int32)) (10 : Int32), remI (v46 / (10 : Int32)) (10 : Int32), remI v46 (10 : Int32), rfl, hc96⟩ ?_
            refine e_if_lt (tgt := 323) dL_exchanges_273 rfl (fun hc101 => ?_) (fun hc101 => ?_)
            · rw [if_pos hc101] at h
              refine e_iconst dL_exchanges_323 ci_0 ?_
              exact e_iret .boolean dL_exchanges_324 rfl rfl (ret_eq h)
            · rw [if_neg hc101] at h
              refine e_aload_n dL_exchanges_276 rfl ?_
              refine e_iconst dL_exchanges_277 ci_0 ?_
              refine cJ_go h (fun E104 hc102 hr105 => e_SX [.ref 0, .int (0 : Int32)] [] dL_exchanges_278 rfl (by decide) rfl rfl (Nat.le_of_ble_eq_true rfl) (hbr hr105 hb9 (Nat.le_of_ble_eq_true rfl)) ⟨(0 : Int32), rfl, hc102⟩ rfl ⟨hr105.symm, rfl⟩) (fun v106 μ103 hc102 h => ?_)
              refine e_SJ [.ref 0, .int (0 : Int32)] [] dL_exchanges_278 rfl (by decide) rfl rfl (Nat.le_of_ble_eq_true rfl) ⟨(0 : Int32), rfl, hc102⟩ ?_
              refine e_lload dL_exchanges_281 rfl ?_
              refine e_lcmp dL_exchanges_283 ?_
              refine e_if_ne (tgt := 323) dL_exchanges_284 rfl (fun hc107 => ?_) (fun hc107 => ?_)
              · rw [if_neg hc107] at h
                refine e_iconst dL_exchanges_323 ci_0 ?_
                exact e_iret .boolean dL_exchanges_324 rfl rfl (ret_eq h)
              · rw [if_pos hc107] at h
                refine e_aload_n dL_exchanges_287 rfl ?_
                refine cI_go h (fun E110 hc108 hr111 => e_VX [] [] dL_exchanges_288 rfl rfl rfl rfl ⟨Nat.le_of_ble_eq_true rfl, rfl⟩ (Nat.le_of_ble_eq_true rfl) (hbr hr111 hb9 (Nat.le_of_ble_eq_true rfl)) ⟨rfl, hc108⟩ rfl ⟨hr111.symm, rfl⟩) (fun v112 μ109 hc108 h => ?_)
                refine e_VI [] [] dL_exchanges_288 rfl rfl rfl rfl ⟨Nat.le_of_ble_eq_true rfl, rfl⟩ (Nat.le_of_ble_eq_true rfl) ⟨rfl, hc108⟩ ?_
                refine e_if_lt (tgt := 323) dL_exchanges_291 rfl (fun hc113 => ?_) (fun hc113 => ?_)
                · rw [if_pos hc113] at h
                  refine e_iconst dL_exchanges_323 ci_0 ?_
                  exact e_iret .boolean dL_exchanges_324 rfl rfl (ret_eq h)
                · rw [if_neg hc113] at h
                  refine e_aload_n dL_exchanges_294 rfl ?_
                  refine e_iconst dL_exchanges_295 ci_0 ?_
                  refine cJ_go h (fun E116 hc114 hr117 => e_SX [.ref 0, .int (0 : Int32)] [] dL_exchanges_296 rfl (by decide) rfl rfl (Nat.le_of_ble_eq_true rfl) (hbr hr117 hb9 (Nat.le_of_ble_eq_true rfl)) ⟨(0 : Int32), rfl, hc114⟩ rfl ⟨hr117.symm, rfl⟩) (fun v118 μ115 hc114 h => ?_)
                  refine e_SJ [.ref 0, .int (0 : Int32)] [] dL_exchanges_296 rfl (by decide) rfl rfl (Nat.le_of_ble_eq_true rfl) ⟨(0 : Int32), rfl, hc114⟩ ?_
                  refine e_lload dL_exchanges_299 rfl ?_
                  refine e_lcmp dL_exchanges_301 ?_
                  refine e_if_ne (tgt := 323) dL_exchanges_302 rfl (fun hc119 => ?_) (fun hc119 => ?_)
                  · rw [if_neg hc119] at h
                    refine e_iconst dL_exchanges_323 ci_0 ?_
                    exact e_iret .boolean dL_exchanges_324 rfl rfl (ret_eq h)
                  · rw [if_pos hc119] at h
                    refine e_aload_n dL_exchanges_305 rfl ?_
                    refine cI_go h (fun E122 hc120 hr123 => e_VX [] [] dL_exchanges_306 rfl rfl rfl rfl ⟨Nat.le_of_ble_eq_true rfl, rfl⟩ (Nat.le_of_ble_eq_true rfl) (hbr hr123 hb9 (Nat.le_of_ble_eq_true rfl)) ⟨rfl, hc120⟩ rfl ⟨hr123.symm, rfl⟩) (fun v124 μ121 hc120 h => ?_)
                    refine e_VI [] [] dL_exchanges_306 rfl rfl rfl rfl ⟨Nat.le_of_ble_eq_true rfl, rfl⟩ (Nat.le_of_ble_eq_true rfl) ⟨rfl, hc120⟩ ?_
                    refine e_if_lt (tgt := 323) dL_exchanges_309 rfl (fun hc125 => ?_) (fun hc125 => ?_)
                    · rw [if_pos hc125] at h
                      refine e_iconst dL_exchanges_323 ci_0 ?_
                      exact e_iret .boolean dL_exchanges_324 rfl rfl (ret_eq h)
                    · rw [if_neg hc125] at h
                      refine e_aload_n dL_exchanges_312 rfl ?_
                      refine e_iconst dL_exchanges_313 ci_0 ?_
                      refine cJ_go h (fun E128 hc126 hr129 => e_SX [.ref 0, .int (0 : Int32)] [] dL_exchanges_314 rfl (by decide) rfl rfl (Nat.le_of_ble_eq_true rfl) (hbr hr129 hb9 (Nat.le_of_ble_eq_true rfl)) ⟨(0 : Int32), rfl, hc126⟩ rfl ⟨hr129.symm, rfl⟩) (fun v130 μ127 hc126 h => ?_)
                      refine e_SJ [.ref 0, .int (0 : Int32)] [] dL_exchanges_314 rfl (by decide) rfl rfl (Nat.le_of_ble_eq_true rfl) ⟨(0 : Int32), rfl, hc126⟩ ?_
                      refine e_lload dL_exchanges_317 rfl ?_
                      refine e_lcmp dL_exchanges_319 ?_
                      refine e_if_eq (tgt := 325) dL_exchanges_320 rfl (fun hc131 => ?_) (fun hc131 => ?_)
                      · rw [if_pos hc131] at h
                        refine e_aload_n dL_exchanges_325 rfl ?_
                        refine e_iload dL_exchanges_326 rfl ?_
                        refine e_sipush dL_exchanges_328 cs_1000 ?_
                        refine e_idiv dL_exchanges_331 (by decide) ?_
                        refine e_iload dL_exchanges_332 rfl ?_
                        refine e_bipush dL_exchanges_334 cb_100 ?_
                        refine e_idiv dL_exchanges_336 (by decide) ?_
                        refine e_bipush dL_exchanges_337 cb_10 ?_
                        refine e_irem dL_exchanges_339 (by decide) ?_
                        refine e_iload dL_exchanges_340 rfl ?_
                        refine e_bipush dL_exchanges_342 cb_10 ?_
                        refine e_idiv dL_exchanges_344 (by decide) ?_
                        refine e_bipush dL_exchanges_345 cb_10 ?_
                        refine e_irem dL_exchanges_347 (by decide) ?_
                        refine e_iload dL_exchanges_348 rfl ?_
                        refine e_bipush dL_exchanges_350 cb_10 ?_
                        refine e_irem dL_exchanges_352 (by decide) ?_
                        refine cI_go h (fun E134 hc132 hr135 => e_VX [.int (v51 / (1000 : Int32)), .int (remI (v51 / (100 : Int32)) (10 : Int32)), .int (remI (v51 / (10 : Int32)) (10 : Int32)), .int (remI v51 (10 : Int32))] [] dL_exchanges_353 rfl rfl rfl rfl ⟨Nat.le_of_ble_eq_true rfl, rfl⟩ (Nat.le_of_ble_eq_true rfl) (hbr hr135 hb9 (Nat.le_of_ble_eq_true rfl)) ⟨v51 / (1000 : Int32), remI (v51 / (100 : Int32)) (10 : Int32), remI (v51 / (10 : Int32)) (10 : Int32), remI v51 (10 : Int32), rfl, hc132⟩ rfl ⟨hr135.symm, rfl⟩) (fun v136 μ133 hc132 h => ?_)
                        refine e_VI [.int (v51 / (1000 : Int32)), .int (remI (v51 / (100 : Int32)) (10 : Int32)), .int (remI (v51 / (10 : Int32)) (10 : Int32)), .int (remI v51 (10 : Int32))] [] dL_exchanges_353 rfl rfl rfl rfl ⟨Nat.le_of_ble_eq_true rfl, rfl⟩ (Nat.le_of_ble_eq_true rfl) ⟨v51 / (1000 : Int32), remI (v51 / (100 : Int32)) (10 : Int32), remI (v51 / (10 : Int32)) (10 : Int32), remI v51 (10 : Int32), rfl, hc132⟩ ?_
                        refine e_istoreL [some (.ref 0), some (.int x1), some (.int x2), none, some (.int x4), some (.long v36), none, some (.int v46), some (.int v51), some (.int v56), some (.int v61), some (.long v66), none, some (.int v136), none] dL_exchanges_356 (Nat.le_of_ble_eq_true rfl) rfl ?_
                        refine e_aload_n dL_exchanges_358 rfl ?_
                        refine e_bipush dL_exchanges_359 cb_8 ?_
                        refine cI_go h (fun E139 hc137 hr140 => e_VX [.int (8 : Int32)] [] dL_exchanges_361 rfl rfl rfl rfl ⟨Nat.le_of_ble_eq_true rfl, rfl⟩ (Nat.le_of_ble_eq_true rfl) (hbr hr140 hb9 (Nat.le_of_ble_eq_true rfl)) ⟨(8 : Int32), rfl, hc137⟩ rfl ⟨hr140.symm, rfl⟩) (fun v141 μ138 hc137 h => ?_)
                        refine e_VI [.int (8 : Int32)] [] dL_exchanges_361 rfl rfl rfl rfl ⟨Nat.le_of_ble_eq_true rfl, rfl⟩ (Nat.le_of_ble_eq_true rfl) ⟨(8 : Int32), rfl, hc137⟩ ?_
                        refine e_istoreL [some (.ref 0), some (.int x1), some (.int x2), none, some (.int x4), some (.long v36), none, some (.int v46), some (.int v51), some (.int v56), some (.int v61), some (.long v66), none, some (.int v136), some (.int v141)] dL_exchanges_364 (Nat.le_of_ble_eq_true rfl) rfl ?_
                        refine e_aload_n dL_exchanges_366 rfl ?_
                        refine cI_go h (fun E144 hc142 hr145 => e_VX [] [] dL_exchanges_367 rfl rfl rfl rfl ⟨Nat.le_of_ble_eq_true rfl, rfl⟩ (Nat.le_of_ble_eq_true rfl) (hbr hr145 hb9 (Nat.le_of_ble_eq_true rfl)) ⟨rfl, hc142⟩ rfl ⟨hr145.symm, rfl⟩) (fun v146 μ143 hc142 h => ?_)
                        refine e_VI [] [] dL_exchanges_367 rfl rfl rfl rfl ⟨Nat.le_of_ble_eq_true rfl, rfl⟩ (Nat.le_of_ble_eq_true rfl) ⟨rfl, hc142⟩ ?_
                        refine e_if_lt (tgt := 415) dL_exchanges_370 rfl (fun hc147 => ?_) (fun hc147 => ?_)
                        · rw [if_pos hc147] at h
                          refine e_iconst dL_exchanges_415 ci_0 ?_
                          exact e_iret .boolean dL_exchanges_416 rfl rfl (ret_eq h)
                        · rw [if_neg hc147] at h
                          refine e_iload dL_exchanges_373 rfl ?_
                          refine e_iload dL_exchanges_375 rfl ?_
                          refine e_ic_lt (tgt := 411) dL_exchanges_377 rfl (fun hc148 => ?_) (fun hc148 => ?_)
                          · rw [if_pos hc148] at h
                            refine e_iconst dL_exchanges_411 ci_1 ?_
                            refine e_goto (tgt := 416) dL_exchanges_412 rfl ?_
                            exact e_iret .boolean dL_exchanges_416 rfl rfl (ret_eq h)
                          · rw [if_neg hc148] at h
                            refine e_iload dL_exchanges_380 rfl ?_
                            refine e_iload dL_exchanges_382 rfl ?_
                            refine e_ic_ne (tgt := 415) dL_exchanges_384 rfl (fun hc149 => ?_) (fun hc149 => ?_)
                            · rw [if_neg hc149] at h
                              refine e_iconst dL_exchanges_415 ci_0 ?_
                              exact e_iret .boolean dL_exchanges_416 rfl rfl (ret_eq h)
                            · rw [if_pos hc149] at h
                              refine e_iload dL_exchanges_387 rfl ?_
                              refine e_iload dL_exchanges_389 rfl ?_
                              refine e_ic_lt (tgt := 411) dL_exchanges_391 rfl (fun hc150 => ?_) (fun hc150 => ?_)
                              · rw [if_pos hc150] at h
                                refine e_iconst dL_exchanges_411 ci_1 ?_
                                refine e_goto (tgt := 416) dL_exchanges_412 rfl ?_
                                exact e_iret .boolean dL_exchanges_416 rfl rfl (ret_eq h)
                              · rw [if_neg hc150] at h
                                refine e_iload dL_exchanges_394 rfl ?_
                                refine e_iload dL_exchanges_396 rfl ?_
                                refine e_ic_ne (tgt := 415) dL_exchanges_398 rfl (fun hc151 => ?_) (fun hc151 => ?_)
                                · rw [if_neg hc151] at h
                                  refine e_iconst dL_exchanges_415 ci_0 ?_
                                  exact e_iret .boolean dL_exchanges_416 rfl rfl (ret_eq h)
                                · rw [if_pos hc151] at h
                                  refine e_iload dL_exchanges_401 rfl ?_
                                  refine e_iload_n dL_exchanges_403 rfl ?_
                                  refine e_iload_n dL_exchanges_404 rfl ?_
                                  refine cI_go h (fun E154 hc152 hr155 => e_SX [.int x1, .int x2] [.int x4] dL_exchanges_405 rfl (by decide) rfl rfl (Nat.le_of_ble_eq_true rfl) (hbr hr155 hb9 (Nat.le_of_ble_eq_true rfl)) ⟨x1, x2, rfl, hc152⟩ rfl ⟨hr155.symm, rfl⟩) (fun v156 μ153 hc152 h => ?_)
                                  refine e_SI [.int x1, .int x2] [.int x4] dL_exchanges_405 rfl (by decide) rfl rfl (Nat.le_of_ble_eq_true rfl) ⟨x1, x2, rfl, hc152⟩ ?_
                                  refine e_ic_gt (tgt := 415) dL_exchanges_408 rfl (fun hc157 => ?_) (fun hc157 => ?_)
                                  · rw [if_pos hc157] at h
                                    refine e_iconst dL_exchanges_415 ci_0 ?_
                                    exact e_iret .boolean dL_exchanges_416 rfl rfl (ret_eq h)
                                  · rw [if_neg hc157] at h
                                    refine e_iconst dL_exchanges_411 ci_1 ?_
                                    refine e_goto (tgt := 416) dL_exchanges_412 rfl ?_
                                    exact e_iret .boolean dL_exchanges_416 rfl rfl (ret_eq h)
                      · rw [if_neg hc131] at h
                        refine e_iconst dL_exchanges_323 ci_0 ?_
                        exact e_iret .boolean dL_exchanges_324 rfl rfl (ret_eq h)
  · rw [if_pos hc31] at h
    refine e_iconst dL_exchanges_123 ci_1 ?_
    exact e_iret .boolean dL_exchanges_124 rfl rfl (ret_eq h)
set_option maxHeartbeats 4000000 in
theorem g_L_exchanges_12 {r : Res} {μ' : Mem} : ∀ n : Nat, ∀ (x1 : Int32) (x2 : Int32) (x3 : Int32) (x4 : Int32), ∀ (μ : Mem) (b : Nat), rc r 1 ≤ b → f_L_exchanges_12 n x1 x2 x3 x4 μ = some (r, μ') → G mL_exchanges (Qe r μ') 12 [some (.ref 0), some (.int x1), some (.int x2), some (.int x3), some (.int x4), none, none, none, none, none, none, none, none, none, none] [] μ b := by
  intro n
  induction n with
  | zero => intro x1 x2 x3 x4 μ b hb9 h; exact nomatch (show (none : Out) = some _ from h)
  | succ n ih =>
    intro x1 x2 x3 x4 μ b hb9 h
    rw [f_L_exchanges_12.eq_2] at h
    refine e_iload dL_exchanges_12 rfl ?_
    refine e_iload_n dL_exchanges_14 rfl ?_
    refine e_ic_ge (tgt := 76) dL_exchanges_15 rfl (fun hc6 => ?_) (fun hc6 => ?_)
    · rw [if_pos hc6] at h
      refine e_aload_n dL_exchanges_76 rfl ?_
      refine cI_go h (fun E9 hc7 hr10 => e_VX [] [] dL_exchanges_77 rfl rfl rfl rfl ⟨Nat.le_of_ble_eq_true rfl, rfl⟩ (Nat.le_of_ble_eq_true rfl) (hbr hr10 hb9 (Nat.le_of_ble_eq_true rfl)) ⟨rfl, hc7⟩ rfl ⟨hr10.symm, rfl⟩) (fun v11 μ8 hc7 h => ?_)
      refine e_VI [] [] dL_exchanges_77 rfl rfl rfl rfl ⟨Nat.le_of_ble_eq_true rfl, rfl⟩ (Nat.le_of_ble_eq_true rfl) ⟨rfl, hc7⟩ ?_
      refine e_istoreL [some (.ref 0), some (.int x1), some (.int x2), some (.int x3), some (.int v11), none, none, none, none, none, none, none, none, none, none] dL_exchanges_80 (Nat.le_of_ble_eq_true rfl) rfl ?_
      refine e_aload_n dL_exchanges_82 rfl ?_
      refine e_iload_n dL_exchanges_83 rfl ?_
      refine cI_go h (fun E14 hc12 hr15 => e_VX [.int x2] [] dL_exchanges_84 rfl rfl rfl rfl ⟨Nat.le_of_ble_eq_true rfl, rfl⟩ (Nat.le_of_ble_eq_true rfl) (hbr hr15 hb9 (Nat.le_of_ble_eq_true rfl)) ⟨x2, rfl, hc12⟩ rfl ⟨hr15.symm, rfl⟩) (fun v16 μ13 hc12 h => ?_)
      refine e_VI [.int x2] [] dL_exchanges_84 rfl rfl rfl rfl ⟨Nat.le_of_ble_eq_true rfl, rfl⟩ (Nat.le_of_ble_eq_true rfl) ⟨x2, rfl, hc12⟩ ?_
      refine e_bipush dL_exchanges_87 cb_m9 ?_
      refine e_ic_ne (tgt := 117) dL_exchanges_89 rfl (fun hc17 => ?_) (fun hc17 => ?_)
      · rw [if_neg hc17] at h
        refine e_iconst dL_exchanges_117 ci_0 ?_
        exact e_iret .boolean dL_exchanges_118 rfl rfl (ret_eq h)
      · rw [if_pos hc17] at h
        refine e_iload dL_exchanges_92 rfl ?_
        refine e_if_ge (tgt := 111) dL_exchanges_94 rfl (fun hc18 => ?_) (fun hc18 => ?_)
        · rw [if_pos hc18] at h
          refine e_iload dL_exchanges_111 rfl ?_
          refine e_iload_n dL_exchanges_113 rfl ?_
          refine e_ic_lt (tgt := 119) dL_exchanges_114 rfl (fun hc19 => ?_) (fun hc19 => ?_)
          · rw [if_pos hc19] at h
            exact e_le (g_L_exchanges_119 x1 x2 v11 μ13 _ hb9 h) ⟨rfl, rfl, rfl, rfl, trivial⟩
          · rw [if_neg hc19] at h
            refine e_iconst dL_exchanges_117 ci_0 ?_
            exact e_iret .boolean dL_exchanges_118 rfl rfl (ret_eq h)
        · rw [if_neg hc18] at h
          refine e_iload_n dL_exchanges_97 rfl ?_
          refine e_if_gt (tgt := 117) dL_exchanges_98 rfl (fun hc20 => ?_) (fun hc20 => ?_)
          · rw [if_pos hc20] at h
            refine e_iconst dL_exchanges_117 ci_0 ?_
            exact e_iret .boolean dL_exchanges_118 rfl rfl (ret_eq h)
          · rw [if_neg hc20] at h
            refine e_iload dL_exchanges_101 rfl ?_
            refine e_bipush dL_exchanges_103 cb_m9 ?_
            refine e_ic_eq (tgt := 119) dL_exchanges_105 rfl (fun hc21 => ?_) (fun hc21 => ?_)
            · rw [if_pos hc21] at h
              exact e_le (g_L_exchanges_119 x1 x2 v11 μ13 _ hb9 h) ⟨rfl, rfl, rfl, rfl, trivial⟩
            · rw [if_neg hc21] at h
              refine e_goto (tgt := 117) dL_exchanges_108 rfl ?_
              refine e_iconst dL_exchanges_117 ci_0 ?_
              exact e_iret .boolean dL_exchanges_118 rfl rfl (ret_eq h)
    · rw [if_neg hc6] at h
      refine e_aload_n dL_exchanges_18 rfl ?_
      refine e_iload dL_exchanges_19 rfl ?_
      refine cI_go h (fun E24 hc22 hr25 => e_VX [.int x4] [] dL_exchanges_21 rfl rfl rfl rfl ⟨Nat.le_of_ble_eq_true rfl, rfl⟩ (Nat.le_of_ble_eq_true rfl) (hbr hr25 hb9 (Nat.le_of_ble_eq_true rfl)) ⟨x4, rfl, hc22⟩ rfl ⟨hr25.symm, rfl⟩) (fun v26 μ23 hc22 h => ?_)
      refine e_VI [.int x4] [] dL_exchanges_21 rfl rfl rfl rfl ⟨Nat.le_of_ble_eq_true rfl, rfl⟩ (Nat.le_of_ble_eq_true rfl) ⟨x4, rfl, hc22⟩ ?_
      refine e_istoreL [some (.ref 0), some (.int x1), some (.int x2), some (.int x3), some (.int x4), some (.int v26), none, none, none, none, none, none, none, none, none] dL_exchanges_24 (Nat.le_of_ble_eq_true rfl) rfl ?_
      refine e_iload dL_exchanges_26 rfl ?_
      refine e_iload_n dL_exchanges_28 rfl ?_
      refine e_ic_le (tgt := 65) dL_exchanges_29 rfl (fun hc27 => ?_) (fun hc27 => ?_)
      · rw [if_pos hc27] at h
        refine e_iconst dL_exchanges_65 ci_0 ?_
        exact e_iret .boolean dL_exchanges_66 rfl rfl (ret_eq h)
      · rw [if_neg hc27] at h
        refine e_iload dL_exchanges_32 rfl ?_
        refine e_sipush dL_exchanges_34 cs_1000 ?_
        refine e_idiv dL_exchanges_37 (by decide) ?_
        refine e_iload dL_exchanges_38 rfl ?_
        refine e_bipush dL_exchanges_40 cb_100 ?_
        refine e_idiv dL_exchanges_42 (by decide) ?_
        refine e_bipush dL_exchanges_43 cb_10 ?_
        refine e_irem dL_exchanges_45 (by decide) ?_
        refine e_ic_ge (tgt := 65) dL_exchanges_46 rfl (fun hc28 => ?_) (fun hc28 => ?_)
        · rw [if_pos hc28] at h
          refine e_iconst dL_exchanges_65 ci_0 ?_
          exact e_iret .boolean dL_exchanges_66 rfl rfl (ret_eq h)
        · rw [if_neg hc28] at h
          refine e_iload dL_exchanges_49 rfl ?_
          refine e_bipush dL_exchanges_51 cb_10 ?_
          refine e_idiv dL_exchanges_53 (by decide) ?_
          refine e_bipush dL_exchanges_54 cb_10 ?_
          refine e_irem dL_exchanges_56 (by decide) ?_
          refine e_iload dL_exchanges_57 rfl ?_
          refine e_bipush dL_exchanges_59 cb_10 ?_
          refine e_irem dL_exchanges_61 (by decide) ?_
          refine e_ic_lt (tgt := 67) dL_exchanges_62 rfl (fun hc29 => ?_) (fun hc29 => ?_)
          · rw [if_pos hc29] at h
            refine e_iload dL_exchanges_67 rfl ?_
            refine e_istore_nL [some (.ref 0), some (.int x1), some (.int x2), some (.int v26), some (.int x4), some (.int v26), none, none, none, none, none, none, none, none, none] dL_exchanges_69 (Nat.le_of_ble_eq_true rfl) rfl ?_
            refine e_iincN 4 (1 : Int32) dL_exchanges_70 rfl ci_1 h (fun y9 => [some (.ref 0), some (.int x1), some (.int x2), some (.int v26), some (.int y9), some (.int v26), none, none, none, none, none, none, none, none, none]) (fun _ => rfl) (fun v30 ev30 h => ?_)
            refine e_goto (tgt := 12) dL_exchanges_73 rfl ?_
            exact e_le (ih x1 x2 v26 v30 μ23 _ hb9 h) ⟨rfl, rfl, rfl, rfl, rfl, trivial⟩
          · rw [if_neg hc29] at h
            refine e_iconst dL_exchanges_65 ci_0 ?_
            exact e_iret .boolean dL_exchanges_66 rfl rfl (ret_eq h)
set_option maxHeartbeats 4000000 in
theorem b_L_exchanges : ∀ as μ r μ', Γ_L_exchanges as μ r μ' → (elvL as).length ≤ 15 ∧ G mL_exchanges (Qe r μ') 0 (elv as 15) [] μ (rc r 1) := by
  intro as μ r μ' h
  obtain ⟨a1, rfl, h⟩ := h
  refine ⟨Nat.le_of_ble_eq_true rfl, ?_⟩
  show G mL_exchanges (Qe r μ') 0 [some (.ref 0), some (.int a1), none, none, none, none, none, none, none, none, none, none, none, none, none] [] μ (rc r 1)
  unfold F_L_exchanges at h
  have hb9 : rc r 1 ≤ rc r 1 := Nat.le_refl _
  refine e_aload_n dL_exchanges_0 rfl ?_
  refine e_bipush dL_exchanges_1 cb_10 ?_
  refine cI_go h (fun E3 hc1 hr4 => e_VX [.int (10 : Int32)] [] dL_exchanges_3 rfl rfl rfl rfl ⟨Nat.le_of_ble_eq_true rfl, rfl⟩ (Nat.le_of_ble_eq_true rfl) (hbr hr4 hb9 (Nat.le_of_ble_eq_true rfl)) ⟨(10 : Int32), rfl, hc1⟩ rfl ⟨hr4.symm, rfl⟩) (fun v5 μ2 hc1 h => ?_)
  refine e_VI [.int (10 : Int32)] [] dL_exchanges_3 rfl rfl rfl rfl ⟨Nat.le_of_ble_eq_true rfl, rfl⟩ (Nat.le_of_ble_eq_true rfl) ⟨(10 : Int32), rfl, hc1⟩ ?_
  refine e_istore_nL [some (.ref 0), some (.int a1), some (.int v5), none, none, none, none, none, none, none, none, none, none, none, none] dL_exchanges_6 (Nat.le_of_ble_eq_true rfl) rfl ?_
  refine e_iconst dL_exchanges_7 ci_m1 ?_
  refine e_istore_nL [some (.ref 0), some (.int a1), some (.int v5), some (.int (-1 : Int32)), none, none, none, none, none, none, none, none, none, none, none] dL_exchanges_8 (Nat.le_of_ble_eq_true rfl) rfl ?_
  refine e_iconst dL_exchanges_9 ci_0 ?_
  refine e_istoreL [some (.ref 0), some (.int a1), some (.int v5), some (.int (-1 : Int32)), some (.int (0 : Int32)), none, none, none, none, none, none, none, none, none, none] dL_exchanges_10 (Nat.le_of_ble_eq_true rfl) rfl ?_
  exact e_le (g_L_exchanges_12 BIG a1 v5 (-1 : Int32) (0 : Int32) μ2 _ hb9 h) ⟨rfl, rfl, rfl, rfl, rfl, trivial⟩
set_option maxRecDepth 20000 in
theorem ok_L_exchanges (l : Launch) (hl : l.stackTraces = false) : MOK l yL_exchanges.cls 10 211 mL_exchanges := ⟨lk_all (List.forall_mem_cons.mpr ⟨⟨yX7_undo, cX7_undo, 1, (some .int), 6, 90, by decide, by decide, t_1 1 rfl rfl, hd_X7_undo, Or.inr (Or.inl ⟨rfl, sc_X7_undo l hl, t_3 120 rfl rfl, t_3 117 rfl rfl, t_3 118 rfl rfl, _, rfl, t_3 119 rfl rfl⟩)⟩, List.forall_mem_cons.mpr ⟨⟨yX7_about, cX7_about, 2, (some .int), 6, 90, by decide, by decide, t_1 1 rfl rfl, hd_X7_about, Or.inr (Or.inl ⟨rfl, sc_X7_about l hl, t_1 148 rfl rfl, t_1 145 rfl rfl, t_1 146 rfl rfl, _, rfl, t_1 147 rfl rfl⟩)⟩, List.forall_mem_cons.mpr ⟨⟨yL_bits, cL_bits, 6, (some .long), 8, 145, by decide, by decide, t_1 0 rfl rfl, hd_L_bits, Or.inl ⟨rfl, sc_L_bits l hl, t_3 132 rfl rfl, t_3 130 rfl rfl, t_3 131 rfl rfl⟩⟩, List.forall_mem_cons.mpr ⟨⟨yL_ones, cL_ones, 4, (some .int), 1, 0, by decide, by decide, t_1 0 rfl rfl, hd_L_ones, Or.inl ⟨rfl, sc_L_ones l hl, t_3 145 rfl rfl, t_3 143 rfl rfl, t_3 144 rfl rfl⟩⟩, List.forall_mem_cons.mpr ⟨⟨yX7_exchangeAt, cX7_exchangeAt, 2, (some .int), 6, 123, by decide, by decide, t_1 1 rfl rfl, hd_X7_exchangeAt, Or.inr (Or.inl ⟨rfl, sc_X7_exchangeAt l hl, t_3 187 rfl rfl, t_3 184 rfl rfl, t_3 185 rfl rfl, _, rfl, t_3 186 rfl rfl⟩)⟩, List.forall_mem_cons.mpr ⟨⟨yX7_bestExchange, cX7_bestExchange, 10, (some .int), 6, 123, by decide, by decide, t_1 1 rfl rfl, hd_X7_bestExchange, Or.inr (Or.inl ⟨rfl, sc_X7_bestExchange l hl, t_3 84 rfl rfl, t_3 81 rfl rfl, t_3 82 rfl rfl, _, rfl, t_3 83 rfl rfl⟩)⟩, List.forall_mem_cons.mpr ⟨⟨yL_up, cL_up, 2, (some .int), 1, 0, by decide, by decide, t_1 0 rfl rfl, hd_L_up, Or.inl ⟨rfl, sc_L_up l hl, t_3 111 rfl rfl, t_3 109 rfl rfl, t_3 110 rfl rfl⟩⟩, List.forall_mem_cons.mpr ⟨⟨yX7_exchange, cX7_exchange, 5, (some .int), 7, 112, by decide, by decide, t_1 1 rfl rfl, hd_X7_exchange, Or.inr (Or.inl ⟨rfl, sc_X7_exchange l hl, t_3 192 rfl rfl, t_3 189 rfl rfl, t_3 190 rfl rfl, _, rfl, t_3 191 rfl rfl⟩)⟩, List.forall_mem_cons.mpr ⟨⟨yL_lines, cL_lines, 22, (some .boolean), 9, 170, by decide, by decide, t_1 0 rfl rfl, hd_L_lines, Or.inl ⟨rfl, sc_L_lines l hl, t_3 135 rfl rfl, t_3 133 rfl rfl, t_3 134 rfl rfl⟩⟩, nil_all⟩⟩⟩⟩⟩⟩⟩⟩⟩), fun ix ci j h => lk_all (P := fun ix q => FldOK yL_exchanges.cls ix q.1 q.2) (nil_all) ix (ci, j) h, lk_all (nil_all), lk_all (nil_all), lk_all (nil_all)⟩
theorem hd_L_exchanges : CallHd yL_exchanges 2 := ⟨by decide +kernel, by decide +kernel, by decide +kernel⟩
theorem sc_L_exchanges (l : Launch) (hl : l.stackTraces = false) : SCon l yL_exchanges cL_exchanges 15 (some .boolean) 10 211 1 Γ_L_exchanges := scon_of mL_exchanges cls_ok hl (by decide +kernel) rfl rfl (ok_L_exchanges l hl) rfl rfl b_L_exchanges
def f_L_hull_64 (k15 : Int64 → Int64 → Int32 → Mem → Out) (k28 : Int64 → Int64 → Int32 → Int32 → Int32 → Mem → Out) (x1 : Int64) (x3 : Int64) (x5 : Int32) (x6 : Int32) (x7 : Int32) (s0 : Int32) (μ : Mem) : Out := if s0 = (1 : Int32) then (if x6 = (2 : Int32) then (lt (x7 + (1 : Int32)) (fun v50 => k28 x1 x3 x5 (3 : Int32) v50 μ)) else (if x6 = (3 : Int32) then (lt (x7 + (1 : Int32)) (fun v49 => k28 x1 x3 x5 (3 : Int32) v49 μ)) else (lt (x7 + (1 : Int32)) (fun v48 => k28 x1 x3 x5 (1 : Int32) v48 μ)))) else (if x6 = (1 : Int32) then (lt (x7 + (1 : Int32)) (fun v45 => k28 x1 x3 x5 (2 : Int32) v45 μ)) else (lt (x7 + (1 : Int32)) (fun v44 => k28 x1 x3 x5 x6 v44 μ)))
def f_L_hull_28 (k15 : Int64 → Int64 → Int32 → Mem → Out) : Nat → Int64 → Int64 → Int32 → Int32 → Int32 → Mem → Out
  | 0, _, _, _, _, _, _ => none
  | n + 1, x1, x3, x5, x6, x7, μ => if (6 : Int32) ≤ x7 then (if x6 = (3 : Int32) then (rI (0 : Int32) μ) else (lt (x5 + (1 : Int32)) (fun v30 => k15 x1 x3 v30 μ))) else (if (6 : Int32) ≤ x5 then (cI (F_L_at x3 x7 (x5 - (6 : Int32)) μ) (fun v36 μ33 => f_L_hull_64 k15 (f_L_hull_28 k15 n) x1 x3 x5 x6 x7 v36 μ33)) else (cI (F_L_at x3 x5 x7 μ) (fun v41 μ38 => f_L_hull_64 k15 (f_L_hull_28 k15 n) x1 x3 x5 x6 x7 v41 μ38)))
def f_L_hull_166 (x3 : Int64) (s0 : Int32) (μ : Mem) : Out := if (lg_cmp x3 (0 : Int64)) = 0 then (if s0 = (1 : Int32) then (rI (1 : Int32) μ) else (rI (0 : Int32) μ)) else (if s0 = (0 : Int32) then (rI (1 : Int32) μ) else (rI (0 : Int32) μ))
def f_L_hull_15 : Nat → Int64 → Int64 → Int32 → Mem → Out
  | 0, _, _, _, _ => none
  | n + 1, x1, x3, x5, μ => if (12 : Int32) ≤ x5 then (if (lg_cmp (x1 &&& (x3 ^^^ (-1 : Int64))) (0 : Int64)) = 0 then (cI (F_X7_about (9 : Int32) μ) (fun v17 μ14 => cI (F_L_ones x3 μ14) (fun v22 μ19 => if v17 = v22 then (if (lg_cmp x1 (0 : Int64)) = 0 then (f_L_hull_166 x3 (1 : Int32) μ19) else (f_L_hull_166 x3 (0 : Int32) μ19)) else (rI (0 : Int32) μ19)))) else (rI (0 : Int32) μ)) else (f_L_hull_28 (f_L_hull_15 n) BIG x1 x3 x5 (0 : Int32) (0 : Int32) μ)
def F_L_hull (μ : Mem) : Out := cJ (F_L_bits (0 : Int32) μ) (fun v5 μ2 => cJ (F_L_bits (3 : Int32) μ2) (fun v10 μ7 => f_L_hull_15 BIG v5 v10 (0 : Int32) μ7))
def Γ_L_hull : Gam := fun as μ r μ' => as = [.ref 0] ∧ F_L_hull μ = some (r, μ')
def mL_hull : MI := (cL_hull, [(27, (1, 1, 1, 5, Γ_X7_about)), (34, (0, 2, 1, 0, Γ_L_bits)), (40, (0, 3, 0, 0, Γ_L_at)), (51, (0, 1, 0, 0, Γ_L_ones))], [], [], [(58, -1)], [], [], (29, none), (some .boolean))
set_option maxHeartbeats 4000000 in
theorem g_L_hull_64 {r : Res} {μ' : Mem} {k15 : Int64 → Int64 → Int32 → Mem → Out} {k28 : Int64 → Int64 → Int32 → Int32 → Int32 → Mem → Out} (hk15 : ∀ (x1 : Int64) (x3 : Int64) (x5 : Int32), ∀ (μ : Mem) (b : Nat), rc r 1 ≤ b → k15 x1 x3 x5 μ = some (r, μ') → G mL_hull (Qe r μ') 15 [some (.ref 0), some (.long x1), none, some (.long x3), none, some (.int x5), none, none, none] [] μ b) (hk28 : ∀ (x1 : Int64) (x3 : Int64) (x5 : Int32) (x6 : Int32) (x7 : Int32), ∀ (μ : Mem) (b : Nat), rc r 1 ≤ b → k28 x1 x3 x5 x6 x7 μ = some (r, μ') → G mL_hull (Qe r μ') 28 [some (.ref 0), some (.long x1), none, some (.long x3), none, some (.int x5), some (.int x6), some (.int x7), none] [] μ b) : ∀ (x1 : Int64) (x3 : Int64) (x5 : Int32) (x6 : Int32) (x7 : Int32) (s0 : Int32), ∀ (μ : Mem) (b : Nat), rc r 1 ≤ b → f_L_hull_64 k15 k28 x1 x3 x5 x6 x7 s0 μ = some (r, μ') → G mL_hull (Qe r μ') 64 [some (.ref 0), some (.long x1), none, some (.long x3), none, some (.int x5), some (.int x6), some (.int x7), none] [.int s0] μ b := by
  intro x1 x3 x5 x6 x7 s0 μ b hb9 h
  unfold f_L_hull_64 at h
  refine e_istoreL [some (.ref 0), some (.long x1), none, some (.long x3), none, some (.int x5), some (.int x6), some (.int x7), some (.int s0)] dL_hull_64 (Nat.le_of_ble_eq_true rfl) rfl ?_
  refine e_iload dL_hull_66 rfl ?_
  refine e_iconst dL_hull_68 ci_1 ?_
  refine e_ic_ne (tgt := 96) dL_hull_69 rfl (fun hc42 => ?_) (fun hc42 => ?_)
  · rw [if_neg hc42] at h
    refine e_iload dL_hull_96 rfl ?_
    refine e_iconst dL_hull_98 ci_1 ?_
    refine e_ic_ne (tgt := 106) dL_hull_99 rfl (fun hc43 => ?_) (fun hc43 => ?_)
    · rw [if_neg hc43] at h
      refine e_iload dL_hull_106 rfl ?_
      refine e_istoreL [some (.ref 0), some (.long x1), none, some (.long x3), none, some (.int x5), some (.int x6), some (.int x7), some (.int s0)] dL_hull_108 (Nat.le_of_ble_eq_true rfl) rfl ?_
      refine e_iincN 7 (1 : Int32) dL_hull_110 rfl ci_1 h (fun y9 => [some (.ref 0), some (.long x1), none, some (.long x3), none, some (.int x5), some (.int x6), some (.int y9), some (.int s0)]) (fun _ => rfl) (fun v44 ev44 h => ?_)
      refine e_goto (tgt := 28) dL_hull_113 rfl ?_
      exact e_le (hk28 x1 x3 x5 x6 v44 μ _ hb9 h) ⟨rfl, rfl, rfl, rfl, rfl, rfl, trivial⟩
    · rw [if_pos hc43] at h
      refine e_iconst dL_hull_102 ci_2 ?_
      refine e_goto (tgt := 108) dL_hull_103 rfl ?_
      refine e_istoreL [some (.ref 0), some (.long x1), none, some (.long x3), none, some (.int x5), some (.int (2 : Int32)), some (.int x7), some (.int s0)] dL_hull_108 (Nat.le_of_ble_eq_true rfl) rfl ?_
      refine e_iincN 7 (1 : Int32) dL_hull_110 rfl ci_1 h (fun y9 => [some (.ref 0), some (.long x1), none, some (.long x3), none, some (.int x5), some (.int (2 : Int32)), some (.int y9), some (.int s0)]) (fun _ => rfl) (fun v45 ev45 h => ?_)
      refine e_goto (tgt := 28) dL_hull_113 rfl ?_
      exact e_le (hk28 x1 x3 x5 (2 : Int32) v45 μ _ hb9 h) ⟨rfl, rfl, rfl, rfl, rfl, rfl, trivial⟩
  · rw [if_pos hc42] at h
    refine e_iload dL_hull_72 rfl ?_
    refine e_iconst dL_hull_74 ci_2 ?_
    refine e_ic_ne (tgt := 82) dL_hull_75 rfl (fun hc46 => ?_) (fun hc46 => ?_)
    · rw [if_neg hc46] at h
      refine e_iload dL_hull_82 rfl ?_
      refine e_iconst dL_hull_84 ci_3 ?_
      refine e_ic_ne (tgt := 92) dL_hull_85 rfl (fun hc47 => ?_) (fun hc47 => ?_)
      · rw [if_neg hc47] at h
        refine e_iconst dL_hull_92 ci_1 ?_
        refine e_goto (tgt := 108) dL_hull_93 rfl ?_
        refine e_istoreL [some (.ref 0), some (.long x1), none, some (.long x3), none, some (.int x5), some (.int (1 : Int32)), some (.int x7), some (.int s0)] dL_hull_108 (Nat.le_of_ble_eq_true rfl) rfl ?_
        refine e_iincN 7 (1 : Int32) dL_hull_110 rfl ci_1 h (fun y9 => [some (.ref 0), some (.long x1), none, some (.long x3), none, some (.int x5), some (.int (1 : Int32)), some (.int y9), some (.int s0)]) (fun _ => rfl) (fun v48 ev48 h => ?_)
        refine e_goto (tgt := 28) dL_hull_113 rfl ?_
        exact e_le (hk28 x1 x3 x5 (1 : Int32) v48 μ _ hb9 h) ⟨rfl, rfl, rfl, rfl, rfl, rfl, trivial⟩
      · rw [if_pos hc47] at h
        refine e_iconst dL_hull_88 ci_3 ?_
        refine e_goto (tgt := 108) dL_hull_89 rfl ?_
        refine e_istoreL [some (.ref 0), some (.long x1), none, some (.long x3), none, some (.int x5), some (.int (3 : Int32)), some (.int x7), some (.int s0)] dL_hull_108 (Nat.le_of_ble_eq_true rfl) rfl ?_
        refine e_iincN 7 (1 : Int32) dL_hull_110 rfl ci_1 h (fun y9 => [some (.ref 0), some (.long x1), none, some (.long x3), none, some (.int x5), some (.int (3 : Int32)), some (.int y9), some (.int s0)]) (fun _ => rfl) (fun v49 ev49 h => ?_)
        refine e_goto (tgt := 28) dL_hull_113 rfl ?_
        exact e_le (hk28 x1 x3 x5 (3 : Int32) v49 μ _ hb9 h) ⟨rfl, rfl, rfl, rfl, rfl, rfl, trivial⟩
    · rw [if_pos hc46] at h
      refine e_iconst dL_hull_78 ci_3 ?_
      refine e_goto (tgt := 108) dL_hull_79 rfl ?_
      refine e_istoreL [some (.ref 0), some (.long x1), none, some (.long x3), none, some (.int x5), some (.int (3 : Int32)), some (.int x7), some (.int s0)] dL_hull_108 (Nat.le_of_ble_eq_true rfl) rfl ?_
      refine e_iincN 7 (1 : Int32) dL_hull_110 rfl ci_1 h (fun y9 => [some (.ref 0), some (.long x1), none, some (.long x3), none, some (.int x5), some (.int (3 : Int32)), some (.int y9), some (.int s0)]) (fun _ => rfl) (fun v50 ev50 h => ?_)
      refine e_goto (tgt := 28) dL_hull_113 rfl ?_
      exact e_le (hk28 x1 x3 x5 (3 : Int32) v50 μ _ hb9 h) ⟨rfl, rfl, rfl, rfl, rfl, rfl, trivial⟩
set_option maxHeartbeats 4000000 in
theorem g_L_hull_28 {r : Res} {μ' : Mem} {k15 : Int64 → Int64 → Int32 → Mem → Out} (hk15 : ∀ (x1 : Int64) (x3 : Int64) (x5 : Int32), ∀ (μ : Mem) (b : Nat), rc r 1 ≤ b → k15 x1 x3 x5 μ = some (r, μ') → G mL_hull (Qe r μ') 15 [some (.ref 0), some (.long x1), none, some (.long x3), none, some (.int x5), none, none, none] [] μ b) : ∀ n : Nat, ∀ (x1 : Int64) (x3 : Int64) (x5 : Int32) (x6 : Int32) (x7 : Int32), ∀ (μ : Mem) (b : Nat), rc r 1 ≤ b → f_L_hull_28 k15 n x1 x3 x5 x6 x7 μ = some (r, μ') → G mL_hull (Qe r μ') 28 [some (.ref 0), some (.long x1), none, some (.long x3), none, some (.int x5), some (.int x6), some (.int x7), none] [] μ b := by
  intro n
  induction n with
  | zero => intro x1 x3 x5 x6 x7 μ b hb9 h; exact nomatch (show (none : Out) = some _ from h)
  | succ n ih =>
    intro x1 x3 x5 x6 x7 μ b hb9 h
    rw [f_L_hull_28.eq_2] at h
    refine e_iload dL_hull_28 rfl ?_
    refine e_bipush dL_hull_30 cb_6 ?_
    refine e_ic_ge (tgt := 116) dL_hull_32 rfl (fun hc28 => ?_) (fun hc28 => ?_)
    · rw [if_pos hc28] at h
      refine e_iload dL_hull_116 rfl ?_
      refine e_iconst dL_hull_118 ci_3 ?_
      refine e_ic_ne (tgt := 124) dL_hull_119 rfl (fun hc29 => ?_) (fun hc29 => ?_)
      · rw [if_neg hc29] at h
        refine e_iincN 5 (1 : Int32) dL_hull_124 rfl ci_1 h (fun y9 => [some (.ref 0), some (.long x1), none, some (.long x3), none, some (.int y9), some (.int x6), some (.int x7), none]) (fun _ => rfl) (fun v30 ev30 h => ?_)
        refine e_goto (tgt := 15) dL_hull_127 rfl ?_
        exact e_le (hk15 x1 x3 v30 μ _ hb9 h) ⟨rfl, rfl, rfl, rfl, trivial⟩
      · rw [if_pos hc29] at h
        refine e_iconst dL_hull_122 ci_0 ?_
        exact e_iret .boolean dL_hull_123 rfl rfl (ret_eq h)
    · rw [if_neg hc28] at h
      refine e_iload dL_hull_35 rfl ?_
      refine e_bipush dL_hull_37 cb_6 ?_
      refine e_ic_ge (tgt := 53) dL_hull_39 rfl (fun hc31 => ?_) (fun hc31 => ?_)
      · rw [if_pos hc31] at h
        refine e_lload_n dL_hull_53 rfl ?_
        refine e_iload dL_hull_54 rfl ?_
        refine e_iload dL_hull_56 rfl ?_
        refine e_bipush dL_hull_58 cb_6 ?_
        refine e_isub dL_hull_60 ?_
        refine cI_go h (fun E34 hc32 hr35 => e_SX [.long x3, .int x7, .int (x5 - (6 : Int32))] [] dL_hull_61 rfl (by decide) rfl rfl (Nat.le_of_ble_eq_true rfl) (hbr hr35 hb9 (Nat.le_of_ble_eq_true rfl)) ⟨x3, x7, x5 - (6 : Int32), rfl, hc32⟩ rfl ⟨hr35.symm, rfl⟩) (fun v36 μ33 hc32 h => ?_)
        refine e_SI [.long x3, .int x7, .int (x5 - (6 : Int32))] [] dL_hull_61 rfl (by decide) rfl rfl (Nat.le_of_ble_eq_true rfl) ⟨x3, x7, x5 - (6 : Int32), rfl, hc32⟩ ?_
        exact e_le (g_L_hull_64 hk15 ih x1 x3 x5 x6 x7 v36 μ33 _ hb9 h) ⟨rfl, rfl, rfl, rfl, rfl, rfl, trivial⟩
      · rw [if_neg hc31] at h
        refine e_lload_n dL_hull_42 rfl ?_
        refine e_iload dL_hull_43 rfl ?_
        refine e_iload dL_hull_45 rfl ?_
        refine cI_go h (fun E39 hc37 hr40 => e_SX [.long x3, .int x5, .int x7] [] dL_hull_47 rfl (by decide) rfl rfl (Nat.le_of_ble_eq_true rfl) (hbr hr40 hb9 (Nat.le_of_ble_eq_true rfl)) ⟨x3, x5, x7, rfl, hc37⟩ rfl ⟨hr40.symm, rfl⟩) (fun v41 μ38 hc37 h => ?_)
        refine e_SI [.long x3, .int x5, .int x7] [] dL_hull_47 rfl (by decide) rfl rfl (Nat.le_of_ble_eq_true rfl) ⟨x3, x5, x7, rfl, hc37⟩ ?_
        refine e_goto (tgt := 64) dL_hull_50 rfl ?_
        exact e_le (g_L_hull_64 hk15 ih x1 x3 x5 x6 x7 v41 μ38 _ hb9 h) ⟨rfl, rfl, rfl, rfl, rfl, rfl, trivial⟩
set_option maxHeartbeats 4000000 in
theorem g_L_hull_166 {r : Res} {μ' : Mem} : ∀ (x3 : Int64) (s0 : Int32), ∀ (μ : Mem) (b : Nat), rc r 1 ≤ b → f_L_hull_166 x3 s0 μ = some (r, μ') → G mL_hull (Qe r μ') 166 [none, none, none, some (.long x3), none, none, none, none, none] [.int s0] μ b := by
  intro x3 s0 μ b hb9 h
  unfold f_L_hull_166 at h
  refine e_lload_n dL_hull_166 rfl ?_
  refine e_lconst (v := (0 : Int64)) dL_hull_167 rfl ?_
  refine e_lcmp dL_hull_168 ?_
  refine e_if_ne (tgt := 176) dL_hull_169 rfl (fun hc25 => ?_) (fun hc25 => ?_)
  · rw [if_neg hc25] at h
    refine e_iconst dL_hull_176 ci_0 ?_
    refine e_ic_ne (tgt := 184) dL_hull_177 rfl (fun hc26 => ?_) (fun hc26 => ?_)
    · rw [if_neg hc26] at h
      refine e_iconst dL_hull_184 ci_0 ?_
      exact e_iret .boolean dL_hull_185 rfl rfl (ret_eq h)
    · rw [if_pos hc26] at h
      refine e_iconst dL_hull_180 ci_1 ?_
      refine e_goto (tgt := 185) dL_hull_181 rfl ?_
      exact e_iret .boolean dL_hull_185 rfl rfl (ret_eq h)
  · rw [if_pos hc25] at h
    refine e_iconst dL_hull_172 ci_1 ?_
    refine e_goto (tgt := 177) dL_hull_173 rfl ?_
    refine e_ic_ne (tgt := 184) dL_hull_177 rfl (fun hc27 => ?_) (fun hc27 => ?_)
    · rw [if_neg hc27] at h
      refine e_iconst dL_hull_184 ci_0 ?_
      exact e_iret .boolean dL_hull_185 rfl rfl (ret_eq h)
    · rw [if_pos hc27] at h
      refine e_iconst dL_hull_180 ci_1 ?_
      refine e_goto (tgt := 185) dL_hull_181 rfl ?_
      exact e_iret .boolean dL_hull_185 rfl rfl (ret_eq h)
set_option maxHeartbeats 4000000 in
theorem g_L_hull_15 {r : Res} {μ' : Mem} : ∀ n : Nat, ∀ (x1 : Int64) (x3 : Int64) (x5 : Int32), ∀ (μ : Mem) (b : Nat), rc r 1 ≤ b → f_L_hull_15 n x1 x3 x5 μ = some (r, μ') → G mL_hull (Qe r μ') 15 [some (.ref 0), some (.long x1), none, some (.long x3), none, some (.int x5), none, none, none] [] μ b := by
  intro n
  induction n with
  | zero => intro x1 x3 x5 μ b hb9 h; exact nomatch (show (none : Out) = some _ from h)
  | succ n ih =>
    intro x1 x3 x5 μ b hb9 h
    rw [f_L_hull_15.eq_2] at h
    refine e_iload dL_hull_15 rfl ?_
    refine e_bipush dL_hull_17 cb_12 ?_
    refine e_ic_ge (tgt := 130) dL_hull_19 rfl (fun hc11 => ?_) (fun hc11 => ?_)
    · rw [if_pos hc11] at h
      refine e_lload_n dL_hull_130 rfl ?_
      refine e_lload_n dL_hull_131 rfl ?_
      refine e_ldc2 (v := (-1 : Int64)) dL_hull_132 rfl ?_
      refine e_lxor dL_hull_135 ?_
      refine e_land dL_hull_136 ?_
      refine e_lconst (v := (0 : Int64)) dL_hull_137 rfl ?_
      refine e_lcmp dL_hull_138 ?_
      refine e_if_ne (tgt := 184) dL_hull_139 rfl (fun hc12 => ?_) (fun hc12 => ?_)
      · rw [if_neg hc12] at h
        refine e_iconst dL_hull_184 ci_0 ?_
        exact e_iret .boolean dL_hull_185 rfl rfl (ret_eq h)
      · rw [if_pos hc12] at h
        refine e_aload_n dL_hull_142 rfl ?_
        refine e_bipush dL_hull_143 cb_9 ?_
        refine cI_go h (fun E15 hc13 hr16 => e_VX [.int (9 : Int32)] [] dL_hull_145 rfl rfl rfl rfl ⟨Nat.le_of_ble_eq_true rfl, rfl⟩ (Nat.le_of_ble_eq_true rfl) (hbr hr16 hb9 (Nat.le_of_ble_eq_true rfl)) ⟨(9 : Int32), rfl, hc13⟩ rfl ⟨hr16.symm, rfl⟩) (fun v17 μ14 hc13 h => ?_)
        refine e_VI [.int (9 : Int32)] [] dL_hull_145 rfl rfl rfl rfl ⟨Nat.le_of_ble_eq_true rfl, rfl⟩ (Nat.le_of_ble_eq_true rfl) ⟨(9 : Int32), rfl, hc13⟩ ?_
        refine e_lload_n dL_hull_148 rfl ?_
        refine cI_go h (fun E20 hc18 hr21 => e_SX [.long x3] [.int v17] dL_hull_149 rfl (by decide) rfl rfl (Nat.le_of_ble_eq_true rfl) (hbr hr21 hb9 (Nat.le_of_ble_eq_true rfl)) ⟨x3, rfl, hc18⟩ rfl ⟨hr21.symm, rfl⟩) (fun v22 μ19 hc18 h => ?_)
        refine e_SI [.long x3] [.int v17] dL_hull_149 rfl (by decide) rfl rfl (Nat.le_of_ble_eq_true rfl) ⟨x3, rfl, hc18⟩ ?_
        refine e_ic_ne (tgt := 184) dL_hull_152 rfl (fun hc23 => ?_) (fun hc23 => ?_)
        · rw [if_neg hc23] at h
          refine e_iconst dL_hull_184 ci_0 ?_
          exact e_iret .boolean dL_hull_185 rfl rfl (ret_eq h)
        · rw [if_pos hc23] at h
          refine e_lload_n dL_hull_155 rfl ?_
          refine e_lconst (v := (0 : Int64)) dL_hull_156 rfl ?_
          refine e_lcmp dL_hull_157 ?_
          refine e_if_ne (tgt := 165) dL_hull_158 rfl (fun hc24 => ?_) (fun hc24 => ?_)
          · rw [if_neg hc24] at h
            refine e_iconst dL_hull_165 ci_0 ?_
            exact e_le (g_L_hull_166 x3 (0 : Int32) μ19 _ hb9 h) ⟨rfl, trivial⟩
          · rw [if_pos hc24] at h
            refine e_iconst dL_hull_161 ci_1 ?_
            refine e_goto (tgt := 166) dL_hull_162 rfl ?_
            exact e_le (g_L_hull_166 x3 (1 : Int32) μ19 _ hb9 h) ⟨rfl, trivial⟩
    · rw [if_neg hc11] at h
      refine e_iconst dL_hull_22 ci_0 ?_
      refine e_istoreL [some (.ref 0), some (.long x1), none, some (.long x3), none, some (.int x5), some (.int (0 : Int32)), none, none] dL_hull_23 (Nat.le_of_ble_eq_true rfl) rfl ?_
      refine e_iconst dL_hull_25 ci_0 ?_
      refine e_istoreL [some (.ref 0), some (.long x1), none, some (.long x3), none, some (.int x5), some (.int (0 : Int32)), some (.int (0 : Int32)), none] dL_hull_26 (Nat.le_of_ble_eq_true rfl) rfl ?_
      exact e_le (g_L_hull_28 ih BIG x1 x3 x5 (0 : Int32) (0 : Int32) μ _ hb9 h) ⟨rfl, rfl, rfl, rfl, rfl, rfl, trivial⟩
set_option maxHeartbeats 4000000 in
theorem b_L_hull : ∀ as μ r μ', Γ_L_hull as μ r μ' → (elvL as).length ≤ 9 ∧ G mL_hull (Qe r μ') 0 (elv as 9) [] μ (rc r 1) := by
  intro as μ r μ' h
  obtain ⟨rfl, h⟩ := h
  refine ⟨Nat.le_of_ble_eq_true rfl, ?_⟩
  show G mL_hull (Qe r μ') 0 [some (.ref 0), none, none, none, none, none, none, none, none] [] μ (rc r 1)
  unfold F_L_hull at h
  have hb9 : rc r 1 ≤ rc r 1 := Nat.le_refl _
  refine e_aload_n dL_hull_0 rfl ?_
  refine e_iconst dL_hull_1 ci_0 ?_
  refine cJ_go h (fun E3 hc1 hr4 => e_SX [.ref 0, .int (0 : Int32)] [] dL_hull_2 rfl (by decide) rfl rfl (Nat.le_of_ble_eq_true rfl) (hbr hr4 hb9 (Nat.le_of_ble_eq_true rfl)) ⟨(0 : Int32), rfl, hc1⟩ rfl ⟨hr4.symm, rfl⟩) (fun v5 μ2 hc1 h => ?_)
  refine e_SJ [.ref 0, .int (0 : Int32)] [] dL_hull_2 rfl (by decide) rfl rfl (Nat.le_of_ble_eq_true rfl) ⟨(0 : Int32), rfl, hc1⟩ ?_
  refine e_lstore_nL [some (.ref 0), some (.long v5), none, none, none, none, none, none, none] dL_hull_5 (Nat.le_of_ble_eq_true rfl) rfl ?_
  refine e_aload_n dL_hull_6 rfl ?_
  refine e_iconst dL_hull_7 ci_3 ?_
  refine cJ_go h (fun E8 hc6 hr9 => e_SX [.ref 0, .int (3 : Int32)] [] dL_hull_8 rfl (by decide) rfl rfl (Nat.le_of_ble_eq_true rfl) (hbr hr9 hb9 (Nat.le_of_ble_eq_true rfl)) ⟨(3 : Int32), rfl, hc6⟩ rfl ⟨hr9.symm, rfl⟩) (fun v10 μ7 hc6 h => ?_)
  refine e_SJ [.ref 0, .int (3 : Int32)] [] dL_hull_8 rfl (by decide) rfl rfl (Nat.le_of_ble_eq_true rfl) ⟨(3 : Int32), rfl, hc6⟩ ?_
  refine e_lstore_nL [some (.ref 0), some (.long v5), none, some (.long v10), none, none, none, none, none] dL_hull_11 (Nat.le_of_ble_eq_true rfl) rfl ?_
  refine e_iconst dL_hull_12 ci_0 ?_
  refine e_istoreL [some (.ref 0), some (.long v5), none, some (.long v10), none, some (.int (0 : Int32)), none, none, none] dL_hull_13 (Nat.le_of_ble_eq_true rfl) rfl ?_
  exact e_le (g_L_hull_15 BIG v5 v10 (0 : Int32) μ7 _ hb9 h) ⟨rfl, rfl, rfl, rfl, trivial⟩
set_option maxRecDepth 20000 in
theorem ok_L_hull (l : Launch) (hl : l.stackTraces = false) : MOK l yL_hull.cls 9 170 mL_hull := ⟨lk_all (List.forall_mem_cons.mpr ⟨⟨yX7_about, cX7_about, 2, (some .int), 6, 90, by decide, by decide, t_1 1 rfl rfl, hd_X7_about, Or.inr (Or.inl ⟨rfl, sc_X7_about l hl, t_1 148 rfl rfl, t_1 145 rfl rfl, t_1 146 rfl rfl, _, rfl, t_1 147 rfl rfl⟩)⟩, List.forall_mem_cons.mpr ⟨⟨yL_bits, cL_bits, 6, (some .long), 8, 145, by decide, by decide, t_1 0 rfl rfl, hd_L_bits, Or.inl ⟨rfl, sc_L_bits l hl, t_3 132 rfl rfl, t_3 130 rfl rfl, t_3 131 rfl rfl⟩⟩, List.forall_mem_cons.mpr ⟨⟨yL_at, cL_at, 4, (some .int), 1, 0, by decide, by decide, t_1 0 rfl rfl, hd_L_at, Or.inl ⟨rfl, sc_L_at l hl, t_3 138 rfl rfl, t_3 136 rfl rfl, t_3 137 rfl rfl⟩⟩, List.forall_mem_cons.mpr ⟨⟨yL_ones, cL_ones, 4, (some .int), 1, 0, by decide, by decide, t_1 0 rfl rfl, hd_L_ones, Or.inl ⟨rfl, sc_L_ones l hl, t_3 145 rfl rfl, t_3 143 rfl rfl, t_3 144 rfl rfl⟩⟩, nil_all⟩⟩⟩⟩), fun ix ci j h => lk_all (P := fun ix q => FldOK yL_hull.cls ix q.1 q.2) (nil_all) ix (ci, j) h, lk_all (nil_all), lk_all (List.forall_mem_cons.mpr ⟨t_3 180 rfl rfl, nil_all⟩), lk_all (nil_all)⟩
theorem hd_L_hull : CallHd yL_hull 1 := ⟨by decide +kernel, by decide +kernel, by decide +kernel⟩
theorem sc_L_hull (l : Launch) (hl : l.stackTraces = false) : SCon l yL_hull cL_hull 9 (some .boolean) 9 170 1 Γ_L_hull := scon_of mL_hull cls_ok hl (by decide +kernel) rfl rfl (ok_L_hull l hl) rfl rfl b_L_hull
