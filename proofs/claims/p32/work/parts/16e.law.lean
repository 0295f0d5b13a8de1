def f_L_fits_289 (k174 : Int32 → Int32 → Int64 → Int64 → Int32 → Int64 → Int64 → Int64 → Int32 → Int32 → Mem → Out) : Nat → Int32 → Int32 → Int64 → Int64 → Int32 → Int64 → Int64 → Int32 → Int32 → Int64 → Int32 → Mem → Out
  | 0, _, _, _, _, _, _, _, _, _, _, _, _ => none
  | n + 1, x2, x3, x4, x6, x8, x11, x13, x15, x16, x18, x22, μ => if (36 : Int32) ≤ x22 then (lt (x11 &&& x18) (fun v259 => lt (x13 ||| x18) (fun v260 => cI (F_L_ones (x18 ^^^ x4) μ) (fun v265 μ262 => if x15 ≤ v265 then (lt (x16 + (1 : Int32)) (fun v267 => k174 x2 x3 x4 x6 x8 x18 v259 v260 x15 v267 μ262)) else (cI (F_L_ones (x18 ^^^ x4) μ262) (fun v272 μ269 => lt (x16 + (1 : Int32)) (fun v273 => k174 x2 x3 x4 x6 x8 x18 v259 v260 v272 v273 μ269))))))) else (ck (inb x22 36) (ck (inb x22 36) (lt (sI μ 29 (Int32.toNatClampNeg x22) ((μ.1 29 (Int32.toNatClampNeg x22)) + ((Int64.toInt32 (shrL x18 x22)) &&& (1 : Int32)))) (fun μ276 => lt (x22 + (1 : Int32)) (fun v277 => f_L_fits_289 k174 n x2 x3 x4 x6 x8 x11 x13 x15 x16 x18 v277 μ276)))))
def f_L_fits_210 (k174 : Int32 → Int32 → Int64 → Int64 → Int32 → Int64 → Int64 → Int64 → Int32 → Int32 → Mem → Out) (x2 : Int32) (x3 : Int32) (x4 : Int64) (x6 : Int64) (x8 : Int32) (x9 : Int64) (x11 : Int64) (x13 : Int64) (x15 : Int32) (x16 : Int32) (s0 : Int32) (μ : Mem) : Out := cJ (F_L_bits (0 : Int32) μ) (fun v148 μ145 => lt (v148 ^^^ x9) (fun v149 => cI (F_L_ones v149 μ145) (fun v154 μ151 => if s0 = v154 then (cI (F_X7_about (6 : Int32) μ151) (fun v160 μ157 => if v160 = 0 then (if (lg_cmp ((v148 ^^^ x4) &&& x6) (0 : Int64)) = 0 then (if x16 ≤ 0 then (f_L_fits_289 k174 BIG x2 x3 x4 x6 x8 x11 x13 x15 x16 v148 (0 : Int32) μ157) else (if (lg_cmp v149 (0 : Int64)) = 0 then (rI (0 : Int32) μ157) else (if (lg_cmp ((v149 &&& (-v149)) &&& v148) (0 : Int64)) = 0 then (rI (0 : Int32) μ157) else (f_L_fits_289 k174 BIG x2 x3 x4 x6 x8 x11 x13 x15 x16 v148 (0 : Int32) μ157)))) else (rI (0 : Int32) μ157)) else (rI (0 : Int32) μ157))) else (rI (0 : Int32) μ151))))
def f_L_fits_532 (k433 : Int32 → Int32 → Int64 → Int32 → Int64 → Int64 → Int64 → Int32 → Int32 → Int32 → Int32 → Mem → Out) (x2 : Int32) (x3 : Int32) (x4 : Int64) (x8 : Int32) (x9 : Int64) (x11 : Int64) (x13 : Int64) (x15 : Int32) (x17 : Int32) (x18 : Int32) (x19 : Int32) (x20 : Int32) (s0 : Int32) (μ : Mem) : Out := if x20 = 0 then (lt (x18 + (1 : Int32)) (fun v280 => k433 x2 x3 x4 x8 x9 x11 x13 x15 s0 x17 v280 μ)) else (lt (x18 + (1 : Int32)) (fun v281 => k433 x2 x3 x4 x8 x9 x11 x13 x15 s0 x19 v281 μ))
def f_L_fits_506 (k433 : Int32 → Int32 → Int64 → Int32 → Int64 → Int64 → Int64 → Int32 → Int32 → Int32 → Int32 → Mem → Out) (x2 : Int32) (x3 : Int32) (x4 : Int64) (x8 : Int32) (x9 : Int64) (x11 : Int64) (x13 : Int64) (x15 : Int32) (x16 : Int32) (x17 : Int32) (x18 : Int32) (x19 : Int32) (s0 : Int32) (μ : Mem) : Out := if s0 = 0 then (f_L_fits_532 k433 x2 x3 x4 x8 x9 x11 x13 x15 x17 x18 x19 s0 x16 μ) else (f_L_fits_532 k433 x2 x3 x4 x8 x9 x11 x13 x15 x17 x18 x19 s0 (((10 : Int32) * (x18 / (6 : Int32))) + (remI x18 (6 : Int32))) μ)
def f_L_fits_474 (k433 : Int32 → Int32 → Int64 → Int32 → Int64 → Int64 → Int64 → Int32 → Int32 → Int32 → Int32 → Mem → Out) (x2 : Int32) (x3 : Int32) (x4 : Int64) (x8 : Int32) (x9 : Int64) (x11 : Int64) (x13 : Int64) (x15 : Int32) (x16 : Int32) (x17 : Int32) (x18 : Int32) (s0 : Int32) (μ : Mem) : Out := if x2 ≤ (x18 / (6 : Int32)) then (f_L_fits_506 k433 x2 x3 x4 x8 x9 x11 x13 x15 x16 x17 x18 s0 (0 : Int32) μ) else (if x3 ≤ (remI x18 (6 : Int32)) then (f_L_fits_506 k433 x2 x3 x4 x8 x9 x11 x13 x15 x16 x17 x18 s0 (0 : Int32) μ) else (if s0 ≤ x17 then (f_L_fits_506 k433 x2 x3 x4 x8 x9 x11 x13 x15 x16 x17 x18 s0 (0 : Int32) μ) else (f_L_fits_506 k433 x2 x3 x4 x8 x9 x11 x13 x15 x16 x17 x18 s0 (1 : Int32) μ)))
def f_L_fits_560 : Nat → Int32 → Int32 → Int64 → Int64 → Int64 → Int64 → Int32 → Int32 → Int64 → Int32 → Mem → Out
  | 0, _, _, _, _, _, _, _, _, _, _, _ => none
  | n + 1, x2, x3, x4, x9, x11, x13, x15, x16, x18, x20, μ => if x2 ≤ x20 then (cI (F_L_nextOr μ) (fun v171 μ168 => if v171 = (-1 : Int32) then (cI (F_X7_restore (0 : Int32) μ168) (fun v177 μ174 => cI (F_L_ones x4 μ174) (fun v182 μ179 => if v177 = v182 then (cI (F_X7_solve (1 : Int32) μ179) (fun v188 μ185 => cI (F_L_ones (x9 ^^^ x4) μ185) (fun v193 μ190 => if v188 = v193 then (cJ (F_L_bits (0 : Int32) μ190) (fun v199 μ196 => if (lg_cmp v199 x9) = 0 then (cI (F_X7_restore (0 : Int32) μ196) (fun v205 μ202 => if v205 < 0 then (rI (0 : Int32) μ202) else (cJ (F_L_bits (0 : Int32) μ202) (fun v211 μ208 => if (lg_cmp v211 x4) = 0 then (cI (F_X7_sure (1 : Int32) μ208) (fun v217 μ214 => cI (F_L_ones (x11 &&& x18) μ214) (fun v222 μ219 => if v217 = v222 then (cI (F_X7_sure (0 : Int32) μ219) (fun v228 μ225 => cI (F_L_ones (x18 &&& (x13 ^^^ (-1 : Int64))) μ225) (fun v233 μ230 => if v228 = v233 then (cJ (F_L_bits (4 : Int32) μ230) (fun v239 μ236 => if (lg_cmp v239 ((x11 ||| (x13 ^^^ (-1 : Int64))) &&& x18)) = 0 then (cI (F_X7_nearest μ236) (fun v245 μ242 => if v245 = x15 then (cI (F_X7_split μ242) (fun v251 μ248 => if v251 = x16 then (rI (1 : Int32) μ248) else (rI (0 : Int32) μ248))) else (rI (0 : Int32) μ242))) else (rI (0 : Int32) μ236))) else (rI (0 : Int32) μ230)))) else (rI (0 : Int32) μ219)))) else (rI (0 : Int32) μ208))))) else (rI (0 : Int32) μ196))) else (rI (0 : Int32) μ190)))) else (rI (0 : Int32) μ179)))) else (rI (0 : Int32) μ168))) else (lt (x18 ||| (shlL ((shlL (1 : Int64) x3) - (1 : Int64)) ((6 : Int32) * x20))) (fun v253 => lt (x20 + (1 : Int32)) (fun v254 => f_L_fits_560 n x2 x3 x4 x9 x11 x13 x15 x16 v253 v254 μ)))
def f_L_fits_433 : Nat → Int32 → Int32 → Int64 → Int32 → Int64 → Int64 → Int64 → Int32 → Int32 → Int32 → Int32 → Mem → Out
  | 0, _, _, _, _, _, _, _, _, _, _, _, _ => none
  | n + 1, x2, x3, x4, x8, x9, x11, x13, x15, x16, x17, x18, μ => if (36 : Int32) ≤ x18 then (f_L_fits_560 BIG x2 x3 x4 x9 x11 x13 x15 x16 (0 : Int64) (0 : Int32) μ) else (if x8 ≤ (1 : Int32) then (f_L_fits_560 BIG x2 x3 x4 x9 x11 x13 x15 x16 (0 : Int64) (0 : Int32) μ) else (ck (inb x18 36) (ck (inb x18 36) (if (x8 - (μ.1 29 (Int32.toNatClampNeg x18))) ≤ (μ.1 29 (Int32.toNatClampNeg x18)) then (ck (inb x18 36) (f_L_fits_474 (f_L_fits_433 n) x2 x3 x4 x8 x9 x11 x13 x15 x16 x17 x18 (x8 - (μ.1 29 (Int32.toNatClampNeg x18))) μ)) else (ck (inb x18 36) (f_L_fits_474 (f_L_fits_433 n) x2 x3 x4 x8 x9 x11 x13 x15 x16 x17 x18 (μ.1 29 (Int32.toNatClampNeg x18)) μ))))))
def f_L_fits_190 (k174 : Int32 → Int32 → Int64 → Int64 → Int32 → Int64 → Int64 → Int64 → Int32 → Int32 → Mem → Out) (x2 : Int32) (x3 : Int32) (x4 : Int64) (x6 : Int64) (x8 : Int32) (x9 : Int64) (x11 : Int64) (x13 : Int64) (x15 : Int32) (x16 : Int32) (s0 : Int32) (s1 : Int32) (μ : Mem) : Out := if s0 ≤ s1 then (if x8 = (100 : Int32) then (cI (F_X7_restore (0 : Int32) μ) (fun v101 μ98 => cI (F_L_ones x4 μ98) (fun v106 μ103 => if v101 = v106 then (cJ (F_L_bits (0 : Int32) μ103) (fun v112 μ109 => if (lg_cmp v112 x4) = 0 then (cI (F_X7_split μ109) (fun v118 μ115 => if v118 = (-9 : Int32) then (cI (F_L_nearestOr μ115) (fun v124 μ121 => if v124 = (-1 : Int32) then (rI (1 : Int32) μ121) else (rI (0 : Int32) μ121))) else (rI (0 : Int32) μ115))) else (rI (0 : Int32) μ109))) else (rI (0 : Int32) μ103)))) else (f_L_fits_433 BIG x2 x3 x4 x8 x9 x11 x13 x15 (-9 : Int32) (-1 : Int32) (0 : Int32) μ)) else (if x16 = 0 then (cI (F_L_solveOr (0 : Int32) μ) (fun v136 μ133 => f_L_fits_210 k174 x2 x3 x4 x6 x8 x9 x11 x13 x15 x16 v136 μ133)) else (cI (F_L_nextOr μ) (fun v131 μ128 => f_L_fits_210 k174 x2 x3 x4 x6 x8 x9 x11 x13 x15 x16 v131 μ128)))
def f_L_fits_174 : Nat → Int32 → Int32 → Int64 → Int64 → Int32 → Int64 → Int64 → Int64 → Int32 → Int32 → Mem → Out
  | 0, _, _, _, _, _, _, _, _, _, _, _ => none
  | n + 1, x2, x3, x4, x6, x8, x9, x11, x13, x15, x16, μ => if (100 : Int32) ≤ x8 then (f_L_fits_190 (f_L_fits_174 n) x2 x3 x4 x6 x8 x9 x11 x13 x15 x16 (6 : Int32) x16 μ) else (f_L_fits_190 (f_L_fits_174 n) x2 x3 x4 x6 x8 x9 x11 x13 x15 x16 x8 x16 μ)
def F_L_fitsB (μ : Mem) : Out := cI (F_X7_about (0 : Int32) μ) (fun v5 μ2 => cI (F_X7_about (1 : Int32) μ2) (fun v10 μ7 => cJ (F_L_bits (0 : Int32) μ7) (fun v15 μ12 => cJ (F_L_bits (1 : Int32) μ12) (fun v20 μ17 => cI (F_X7_howMany μ17) (fun v25 μ22 => if v25 < 0 then (rI (0 : Int32) μ22) else (if (100 : Int32) < v25 then (rI (0 : Int32) μ22) else (cI (F_X7_save (0 : Int32) μ22) (fun v32 μ29 => cI (F_X7_about (2 : Int32) μ29) (fun v37 μ34 => if v32 = v37 then (if v25 = 0 then (cI (F_X7_sure (1 : Int32) μ34) (fun v44 μ41 => if v44 = 0 then (cI (F_X7_sure (0 : Int32) μ41) (fun v50 μ47 => if v50 = 0 then (cI (F_X7_split μ47) (fun v56 μ53 => if v56 = (-9 : Int32) then (cJ (F_L_bits (4 : Int32) μ53) (fun v62 μ59 => if (lg_cmp v62 (0 : Int64)) = 0 then (cI (F_L_solveOr (0 : Int32) μ59) (fun v68 μ65 => if v68 = (-1 : Int32) then (cI (F_L_solveOr (1 : Int32) μ65) (fun v74 μ71 => if v74 = (-1 : Int32) then (cI (F_L_nextOr μ71) (fun v80 μ77 => if v80 = (-1 : Int32) then (cI (F_L_nearestOr μ77) (fun v86 μ83 => if v86 = (-1 : Int32) then (cJ (F_L_bits (0 : Int32) μ83) (fun v92 μ89 => if (lg_cmp v92 v15) = 0 then (rI (1 : Int32) μ89) else (rI (0 : Int32) μ89))) else (rI (0 : Int32) μ83))) else (rI (0 : Int32) μ77))) else (rI (0 : Int32) μ71))) else (rI (0 : Int32) μ65))) else (rI (0 : Int32) μ59))) else (rI (0 : Int32) μ53))) else (rI (0 : Int32) μ47))) else (rI (0 : Int32) μ41))) else (f_L_fits_174 BIG v5 v10 v15 v20 v25 v15 (-1 : Int64) (0 : Int64) (36 : Int32) (0 : Int32) μ34)) else (rI (0 : Int32) μ34))))))))))
def z29 (μ : Mem) : Mem := (fun a b => if a = 29 then 0 else μ.1 a b, μ.2)
def F_L_fits (μ : Mem) : Out := F_L_fitsB (z29 μ)
def Γ_L_fits : Gam := fun as μ r μ' => as = [.ref 0] ∧ F_L_fits μ = some (r, μ')
def mL_fits : MI := (cL_fits, [(9, (1, 1, 1, 5, Γ_X7_solve)), (21, (1, 0, 1, 5, Γ_X7_nearest)), (27, (1, 1, 1, 5, Γ_X7_about)), (34, (0, 2, 1, 0, Γ_L_bits)), (51, (0, 1, 0, 0, Γ_L_ones)), (77, (1, 0, 0, 5, Γ_X7_howMany)), (80, (1, 1, 1, 5, Γ_X7_save)), (83, (1, 1, 0, 5, Γ_X7_sure)), (87, (1, 0, 0, 5, Γ_X7_split)), (90, (3, 2, 1, 0, Γ_L_solveOr)), (94, (3, 1, 1, 0, Γ_L_nextOr)), (98, (3, 1, 1, 0, Γ_L_nearestOr)), (101, (1, 1, 1, 5, Γ_X7_restore))], [], [], [(58, -1)], [], [], (30, none), (some .boolean))
set_option maxHeartbeats 4000000 in
theorem g_L_fits_289 {r : Res} {μ' : Mem} {m9 : Nat} {k174 : Int32 → Int32 → Int64 → Int64 → Int32 → Int64 → Int64 → Int64 → Int32 → Int32 → Mem → Out} (hk174 : ∀ (x2 : Int32) (x3 : Int32) (x4 : Int64) (x6 : Int64) (x8 : Int32) (x9 : Int64) (x11 : Int64) (x13 : Int64) (x15 : Int32) (x16 : Int32), ∀ (μ : Mem) (b : Nat), m9 + 12 ≤ b → k174 x2 x3 x4 x6 x8 x9 x11 x13 x15 x16 μ = some (r, μ') → G mL_fits (Qe r μ') 174 [some (.ref 0), some (.ref 29), some (.int x2), some (.int x3), some (.long x4), none, some (.long x6), none, some (.int x8), some (.long x9), none, some (.long x11), none, some (.long x13), none, some (.int x15), some (.int x16), none, none, none, none, none, none] [] μ b) : ∀ n : Nat, ∀ (x2 : Int32) (x3 : Int32) (x4 : Int64) (x6 : Int64) (x8 : Int32) (x11 : Int64) (x13 : Int64) (x15 : Int32) (x16 : Int32) (x18 : Int64) (x22 : Int32), ∀ (μ : Mem) (b : Nat), m9 + 12 ≤ b → f_L_fits_289 k174 n x2 x3 x4 x6 x8 x11 x13 x15 x16 x18 x22 μ = some (r, μ') → G mL_fits (Qe r μ') 289 [some (.ref 0), some (.ref 29), some (.int x2), some (.int x3), some (.long x4), none, some (.long x6), none, some (.int x8), none, none, some (.long x11), none, some (.long x13), none, some (.int x15), some (.int x16), none, some (.long x18), none, none, none, some (.int x22)] [] μ b := by
  intro n
  induction n with
  | zero => intro x2 x3 x4 x6 x8 x11 x13 x15 x16 x18 x22 μ b hb9 h; exact nomatch (show (none : Out) = some _ from h)
  | succ n ih =>
    intro x2 x3 x4 x6 x8 x11 x13 x15 x16 x18 x22 μ b hb9 h
    rw [f_L_fits_289.eq_2] at h
    refine e_iload dL_fits_289 rfl ?_
    refine e_bipush dL_fits_291 cb_36 ?_
    refine e_ic_ge (tgt := 317) dL_fits_293 rfl (fun hc258 => ?_) (fun hc258 => ?_)
    · rw [if_pos hc258] at h
      refine e_lload dL_fits_317 rfl ?_
      refine e_lload dL_fits_319 rfl ?_
      refine e_land dL_fits_321 ?_
      refine e_naJ h (fun v259 ev259 h => ?_)
      refine e_lstoreL [some (.ref 0), some (.ref 29), some (.int x2), some (.int x3), some (.long x4), none, some (.long x6), none, some (.int x8), none, none, some (.long v259), none, some (.long x13), none, some (.int x15), some (.int x16), none, some (.long x18), none, none, none, some (.int x22)] dL_fits_322 (Nat.le_of_ble_eq_true rfl) rfl ?_
      refine e_lload dL_fits_324 rfl ?_
      refine e_lload dL_fits_326 rfl ?_
      refine e_lor dL_fits_328 ?_
      refine e_naJ h (fun v260 ev260 h => ?_)
      refine e_lstoreL [some (.ref 0), some (.ref 29), some (.int x2), some (.int x3), some (.long x4), none, some (.long x6), none, some (.int x8), none, none, some (.long v259), none, some (.long v260), none, some (.int x15), some (.int x16), none, some (.long x18), none, none, none, some (.int x22)] dL_fits_329 (Nat.le_of_ble_eq_true rfl) rfl ?_
      refine e_lload dL_fits_331 rfl ?_
      refine e_lload dL_fits_333 rfl ?_
      refine e_lxor dL_fits_335 ?_
      refine cI_go h (fun E263 hc261 hr264 => e_SX [.long (x18 ^^^ x4)] [] dL_fits_336 rfl (by decide) rfl rfl (Nat.le_of_ble_eq_true rfl) (by omega) ⟨x18 ^^^ x4, rfl, hc261⟩ rfl ⟨hr264.symm, rfl⟩) (fun v265 μ262 hc261 h => ?_)
      refine e_SI [.long (x18 ^^^ x4)] [] dL_fits_336 rfl (by decide) rfl rfl (Nat.le_of_ble_eq_true rfl) ⟨x18 ^^^ x4, rfl, hc261⟩ ?_
      refine e_iload dL_fits_339 rfl ?_
      refine e_ic_ge (tgt := 355) dL_fits_341 rfl (fun hc266 => ?_) (fun hc266 => ?_)
      · rw [if_pos hc266] at h
        refine e_iload dL_fits_355 rfl ?_
        refine e_istoreL [some (.ref 0), some (.ref 29), some (.int x2), some (.int x3), some (.long x4), none, some (.long x6), none, some (.int x8), none, none, some (.long v259), none, some (.long v260), none, some (.int x15), some (.int x16), none, some (.long x18), none, none, none, some (.int x22)] dL_fits_357 (Nat.le_of_ble_eq_true rfl) rfl ?_
        refine e_lload dL_fits_359 rfl ?_
        refine e_lstoreL [some (.ref 0), some (.ref 29), some (.int x2), some (.int x3), some (.long x4), none, some (.long x6), none, some (.int x8), some (.long x18), none, some (.long v259), none, some (.long v260), none, some (.int x15), some (.int x16), none, some (.long x18), none, none, none, some (.int x22)] dL_fits_361 (Nat.le_of_ble_eq_true rfl) rfl ?_
        refine e_iincN 16 (1 : Int32) dL_fits_363 rfl ci_1 h (fun y9 => [some (.ref 0), some (.ref 29), some (.int x2), some (.int x3), some (.long x4), none, some (.long x6), none, some (.int x8), some (.long x18), none, some (.long v259), none, some (.long v260), none, some (.int x15), some (.int y9), none, some (.long x18), none, none, none, some (.int x22)]) (fun _ => rfl) (fun v267 ev267 h => ?_)
        refine e_goto (tgt := 174) dL_fits_366 rfl ?_
        exact e_le (hk174 x2 x3 x4 x6 x8 x18 v259 v260 x15 v267 μ262 _ (by omega) h) ⟨rfl, rfl, rfl, rfl, rfl, rfl, rfl, rfl, rfl, rfl, rfl, rfl, trivial⟩
      · rw [if_neg hc266] at h
        refine e_lload dL_fits_344 rfl ?_
        refine e_lload dL_fits_346 rfl ?_
        refine e_lxor dL_fits_348 ?_
        refine cI_go h (fun E270 hc268 hr271 => e_SX [.long (x18 ^^^ x4)] [] dL_fits_349 rfl (by decide) rfl rfl (Nat.le_of_ble_eq_true rfl) (by omega) ⟨x18 ^^^ x4, rfl, hc268⟩ rfl ⟨hr271.symm, rfl⟩) (fun v272 μ269 hc268 h => ?_)
        refine e_SI [.long (x18 ^^^ x4)] [] dL_fits_349 rfl (by decide) rfl rfl (Nat.le_of_ble_eq_true rfl) ⟨x18 ^^^ x4, rfl, hc268⟩ ?_
        refine e_goto (tgt := 357) dL_fits_352 rfl ?_
        refine e_istoreL [some (.ref 0), some (.ref 29), some (.int x2), some (.int x3), some (.long x4), none, some (.long x6), none, some (.int x8), none, none, some (.long v259), none, some (.long v260), none, some (.int v272), some (.int x16), none, some (.long x18), none, none, none, some (.int x22)] dL_fits_357 (Nat.le_of_ble_eq_true rfl) rfl ?_
        refine e_lload dL_fits_359 rfl ?_
        refine e_lstoreL [some (.ref 0), some (.ref 29), some (.int x2), some (.int x3), some (.long x4), none, some (.long x6), none, some (.int x8), some (.long x18), none, some (.long v259), none, some (.long v260), none, some (.int v272), some (.int x16), none, some (.long x18), none, none, none, some (.int x22)] dL_fits_361 (Nat.le_of_ble_eq_true rfl) rfl ?_
        refine e_iincN 16 (1 : Int32) dL_fits_363 rfl ci_1 h (fun y9 => [some (.ref 0), some (.ref 29), some (.int x2), some (.int x3), some (.long x4), none, some (.long x6), none, some (.int x8), some (.long x18), none, some (.long v259), none, some (.long v260), none, some (.int v272), some (.int y9), none, some (.long x18), none, none, none, some (.int x22)]) (fun _ => rfl) (fun v273 ev273 h => ?_)
        refine e_goto (tgt := 174) dL_fits_366 rfl ?_
        exact e_le (hk174 x2 x3 x4 x6 x8 x18 v259 v260 v272 v273 μ269 _ (by omega) h) ⟨rfl, rfl, rfl, rfl, rfl, rfl, rfl, rfl, rfl, rfl, rfl, rfl, trivial⟩
    · rw [if_neg hc258] at h
      refine e_aload_n dL_fits_296 rfl ?_
      refine e_iload dL_fits_297 rfl ?_
      refine e_dup2 dL_fits_299 rfl rfl ?_
      obtain ⟨hc274, h⟩ := ck_eq h
      refine e_ialoadL (μ.1 29 (Int32.toNatClampNeg x22)) (n := 36) dL_fits_300 (by decide) rfl hc274 rfl ?_
      refine e_lload dL_fits_301 rfl ?_
      refine e_iload dL_fits_303 rfl ?_
      refine e_lshr dL_fits_305 ?_
      refine e_l2i dL_fits_306 ?_
      refine e_iconst dL_fits_307 ci_1 ?_
      refine e_iand dL_fits_308 ?_
      refine e_iadd dL_fits_309 ?_
      obtain ⟨hc275, h⟩ := ck_eq h
      refine e_iastore (n := 36) dL_fits_310 (by decide) rfl hc275 ?_
      refine e_naM (e := sI μ 29 (Int32.toNatClampNeg x22) ((μ.1 29 (Int32.toNatClampNeg x22)) + ((Int64.toInt32 (shrL x18 x22)) &&& (1 : Int32)))) h (fun μ276 eμ276 h => ?_)
      refine e_iincN 22 (1 : Int32) dL_fits_311 rfl ci_1 h (fun y9 => [some (.ref 0), some (.ref 29), some (.int x2), some (.int x3), some (.long x4), none, some (.long x6), none, some (.int x8), none, none, some (.long x11), none, some (.long x13), none, some (.int x15), some (.int x16), none, some (.long x18), none, none, none, some (.int y9)]) (fun _ => rfl) (fun v277 ev277 h => ?_)
      refine e_goto (tgt := 289) dL_fits_314 rfl ?_
      exact e_le (ih x2 x3 x4 x6 x8 x11 x13 x15 x16 x18 v277 μ276 _ (by omega) h) ⟨rfl, rfl, rfl, rfl, rfl, rfl, rfl, rfl, rfl, rfl, rfl, rfl, rfl, trivial⟩
set_option maxHeartbeats 4000000 in
theorem g_L_fits_210 {r : Res} {μ' : Mem} {m9 : Nat} {k174 : Int32 → Int32 → Int64 → Int64 → Int32 → Int64 → Int64 → Int64 → Int32 → Int32 → Mem → Out} (hk174 : ∀ (x2 : Int32) (x3 : Int32) (x4 : Int64) (x6 : Int64) (x8 : Int32) (x9 : Int64) (x11 : Int64) (x13 : Int64) (x15 : Int32) (x16 : Int32), ∀ (μ : Mem) (b : Nat), m9 + 12 ≤ b → k174 x2 x3 x4 x6 x8 x9 x11 x13 x15 x16 μ = some (r, μ') → G mL_fits (Qe r μ') 174 [some (.ref 0), some (.ref 29), some (.int x2), some (.int x3), some (.long x4), none, some (.long x6), none, some (.int x8), some (.long x9), none, some (.long x11), none, some (.long x13), none, some (.int x15), some (.int x16), none, none, none, none, none, none] [] μ b) : ∀ (x2 : Int32) (x3 : Int32) (x4 : Int64) (x6 : Int64) (x8 : Int32) (x9 : Int64) (x11 : Int64) (x13 : Int64) (x15 : Int32) (x16 : Int32) (s0 : Int32), ∀ (μ : Mem) (b : Nat), m9 + 12 ≤ b → f_L_fits_210 k174 x2 x3 x4 x6 x8 x9 x11 x13 x15 x16 s0 μ = some (r, μ') → G mL_fits (Qe r μ') 210 [some (.ref 0), some (.ref 29), some (.int x2), some (.int x3), some (.long x4), none, some (.long x6), none, some (.int x8), some (.long x9), none, some (.long x11), none, some (.long x13), none, some (.int x15), some (.int x16), none, none, none, none, none, none] [.int s0] μ b := by
  intro x2 x3 x4 x6 x8 x9 x11 x13 x15 x16 s0 μ b hb9 h
  unfold f_L_fits_210 at h
  refine e_istoreL [some (.ref 0), some (.ref 29), some (.int x2), some (.int x3), some (.long x4), none, some (.long x6), none, some (.int x8), some (.long x9), none, some (.long x11), none, some (.long x13), none, some (.int x15), some (.int x16), some (.int s0), none, none, none, none, none] dL_fits_210 (Nat.le_of_ble_eq_true rfl) rfl ?_
  refine e_aload_n dL_fits_212 rfl ?_
  refine e_iconst dL_fits_213 ci_0 ?_
  refine cJ_go h (fun E146 hc144 hr147 => e_SX [.ref 0, .int (0 : Int32)] [] dL_fits_214 rfl (by decide) rfl rfl (Nat.le_of_ble_eq_true rfl) (by omega) ⟨(0 : Int32), rfl, hc144⟩ rfl ⟨hr147.symm, rfl⟩) (fun v148 μ145 hc144 h => ?_)
  refine e_SJ [.ref 0, .int (0 : Int32)] [] dL_fits_214 rfl (by decide) rfl rfl (Nat.le_of_ble_eq_true rfl) ⟨(0 : Int32), rfl, hc144⟩ ?_
  refine e_lstoreL [some (.ref 0), some (.ref 29), some (.int x2), some (.int x3), some (.long x4), none, some (.long x6), none, some (.int x8), some (.long x9), none, some (.long x11), none, some (.long x13), none, some (.int x15), some (.int x16), some (.int s0), some (.long v148), none, none, none, none] dL_fits_217 (Nat.le_of_ble_eq_true rfl) rfl ?_
  refine e_lload dL_fits_219 rfl ?_
  refine e_lload dL_fits_221 rfl ?_
  refine e_lxor dL_fits_223 ?_
  refine e_naJ h (fun v149 ev149 h => ?_)
  refine e_lstoreL [some (.ref 0), some (.ref 29), some (.int x2), some (.int x3), some (.long x4), none, some (.long x6), none, some (.int x8), some (.long x9), none, some (.long x11), none, some (.long x13), none, some (.int x15), some (.int x16), some (.int s0), some (.long v148), none, some (.long v149), none, none] dL_fits_224 (Nat.le_of_ble_eq_true rfl) rfl ?_
  refine e_iload dL_fits_226 rfl ?_
  refine e_lload dL_fits_228 rfl ?_
  refine cI_go h (fun E152 hc150 hr153 => e_SX [.long v149] [.int s0] dL_fits_230 rfl (by decide) rfl rfl (Nat.le_of_ble_eq_true rfl) (by omega) ⟨v149, rfl, hc150⟩ rfl ⟨hr153.symm, rfl⟩) (fun v154 μ151 hc150 h => ?_)
  refine e_SI [.long v149] [.int s0] dL_fits_230 rfl (by decide) rfl rfl (Nat.le_of_ble_eq_true rfl) ⟨v149, rfl, hc150⟩ ?_
  refine e_ic_ne (tgt := 284) dL_fits_233 rfl (fun hc155 => ?_) (fun hc155 => ?_)
  · rw [if_neg hc155] at h
    refine e_iconst dL_fits_284 ci_0 ?_
    exact e_iret .boolean dL_fits_285 rfl rfl (ret_eq h)
  · rw [if_pos hc155] at h
    refine e_aload_n dL_fits_236 rfl ?_
    refine e_bipush dL_fits_237 cb_6 ?_
    refine cI_go h (fun E158 hc156 hr159 => e_VX [.int (6 : Int32)] [] dL_fits_239 rfl rfl rfl rfl ⟨Nat.le_of_ble_eq_true rfl, rfl⟩ (Nat.le_of_ble_eq_true rfl) (by omega) ⟨(6 : Int32), rfl, hc156⟩ rfl ⟨hr159.symm, rfl⟩) (fun v160 μ157 hc156 h => ?_)
    refine e_VI [.int (6 : Int32)] [] dL_fits_239 rfl rfl rfl rfl ⟨Nat.le_of_ble_eq_true rfl, rfl⟩ (Nat.le_of_ble_eq_true rfl) ⟨(6 : Int32), rfl, hc156⟩ ?_
    refine e_if_ne (tgt := 284) dL_fits_242 rfl (fun hc161 => ?_) (fun hc161 => ?_)
    · rw [if_neg hc161] at h
      refine e_iconst dL_fits_284 ci_0 ?_
      exact e_iret .boolean dL_fits_285 rfl rfl (ret_eq h)
    · rw [if_pos hc161] at h
      refine e_lload dL_fits_245 rfl ?_
      refine e_lload dL_fits_247 rfl ?_
      refine e_lxor dL_fits_249 ?_
      refine e_lload dL_fits_250 rfl ?_
      refine e_land dL_fits_252 ?_
      refine e_lconst (v := (0 : Int64)) dL_fits_253 rfl ?_
      refine e_lcmp dL_fits_254 ?_
      refine e_if_ne (tgt := 284) dL_fits_255 rfl (fun hc162 => ?_) (fun hc162 => ?_)
      · rw [if_neg hc162] at h
        refine e_iconst dL_fits_284 ci_0 ?_
        exact e_iret .boolean dL_fits_285 rfl rfl (ret_eq h)
      · rw [if_pos hc162] at h
        refine e_iload dL_fits_258 rfl ?_
        refine e_if_le (tgt := 286) dL_fits_260 rfl (fun hc163 => ?_) (fun hc163 => ?_)
        · rw [if_pos hc163] at h
          refine e_iconst dL_fits_286 ci_0 ?_
          refine e_istoreL [some (.ref 0), some (.ref 29), some (.int x2), some (.int x3), some (.long x4), none, some (.long x6), none, some (.int x8), some (.long x9), none, some (.long x11), none, some (.long x13), none, some (.int x15), some (.int x16), some (.int s0), some (.long v148), none, some (.long v149), none, some (.int (0 : Int32))] dL_fits_287 (Nat.le_of_ble_eq_true rfl) rfl ?_
          exact e_le (g_L_fits_289 hk174 BIG x2 x3 x4 x6 x8 x11 x13 x15 x16 v148 (0 : Int32) μ157 _ (by omega) h) ⟨rfl, rfl, rfl, rfl, rfl, rfl, rfl, rfl, rfl, rfl, rfl, rfl, rfl, trivial⟩
        · rw [if_neg hc163] at h
          refine e_lload dL_fits_263 rfl ?_
          refine e_lconst (v := (0 : Int64)) dL_fits_265 rfl ?_
          refine e_lcmp dL_fits_266 ?_
          refine e_if_eq (tgt := 284) dL_fits_267 rfl (fun hc164 => ?_) (fun hc164 => ?_)
          · rw [if_pos hc164] at h
            refine e_iconst dL_fits_284 ci_0 ?_
            exact e_iret .boolean dL_fits_285 rfl rfl (ret_eq h)
          · rw [if_neg hc164] at h
            refine e_lload dL_fits_270 rfl ?_
            refine e_lload dL_fits_272 rfl ?_
            refine e_lneg dL_fits_274 ?_
            refine e_land dL_fits_275 ?_
            refine e_lload dL_fits_276 rfl ?_
            refine e_land dL_fits_278 ?_
            refine e_lconst (v := (0 : Int64)) dL_fits_279 rfl ?_
            refine e_lcmp dL_fits_280 ?_
            refine e_if_ne (tgt := 286) dL_fits_281 rfl (fun hc165 => ?_) (fun hc165 => ?_)
            · rw [if_neg hc165] at h
              refine e_iconst dL_fits_286 ci_0 ?_
              refine e_istoreL [some (.ref 0), some (.ref 29), some (.int x2), some (.int x3), some (.long x4), none, some (.long x6), none, some (.int x8), some (.long x9), none, some (.long x11), none, some (.long x13), none, some (.int x15), some (.int x16), some (.int s0), some (.long v148), none, some (.long v149), none, some (.int (0 : Int32))] dL_fits_287 (Nat.le_of_ble_eq_true rfl) rfl ?_
              exact e_le (g_L_fits_289 hk174 BIG x2 x3 x4 x6 x8 x11 x13 x15 x16 v148 (0 : Int32) μ157 _ (by omega) h) ⟨rfl, rfl, rfl, rfl, rfl, rfl, rfl, rfl, rfl, rfl, rfl, rfl, rfl, trivial⟩
            · rw [if_pos hc165] at h
              refine e_iconst dL_fits_284 ci_0 ?_
              exact e_iret .boolean dL_fits_285 rfl rfl (ret_eq h)
set_option maxHeartbeats 4000000 in
theorem g_L_fits_532 {r : Res} {μ' : Mem} {k433 : Int32 → Int32 → Int64 → Int32 → Int64 → Int64 → Int64 → Int32 → Int32 → Int32 → Int32 → Mem → Out} (hk433 : ∀ (x2 : Int32) (x3 : Int32) (x4 : Int64) (x8 : Int32) (x9 : Int64) (x11 : Int64) (x13 : Int64) (x15 : Int32) (x16 : Int32) (x17 : Int32) (x18 : Int32), ∀ (μ : Mem) (b : Nat), 10 ≤ b → k433 x2 x3 x4 x8 x9 x11 x13 x15 x16 x17 x18 μ = some (r, μ') → G mL_fits (Qe r μ') 433 [some (.ref 0), some (.ref 29), some (.int x2), some (.int x3), some (.long x4), none, none, none, some (.int x8), some (.long x9), none, some (.long x11), none, some (.long x13), none, some (.int x15), some (.int x16), some (.int x17), some (.int x18), none, none, none, none] [] μ b) : ∀ (x2 : Int32) (x3 : Int32) (x4 : Int64) (x8 : Int32) (x9 : Int64) (x11 : Int64) (x13 : Int64) (x15 : Int32) (x17 : Int32) (x18 : Int32) (x19 : Int32) (x20 : Int32) (s0 : Int32), ∀ (μ : Mem) (b : Nat), 10 ≤ b → f_L_fits_532 k433 x2 x3 x4 x8 x9 x11 x13 x15 x17 x18 x19 x20 s0 μ = some (r, μ') → G mL_fits (Qe r μ') 532 [some (.ref 0), some (.ref 29), some (.int x2), some (.int x3), some (.long x4), none, none, none, some (.int x8), some (.long x9), none, some (.long x11), none, some (.long x13), none, some (.int x15), none, some (.int x17), some (.int x18), some (.int x19), some (.int x20), none, none] [.int s0] μ b := by
  intro x2 x3 x4 x8 x9 x11 x13 x15 x17 x18 x19 x20 s0 μ b hb9 h
  unfold f_L_fits_532 at h
  refine e_istoreL [some (.ref 0), some (.ref 29), some (.int x2), some (.int x3), some (.long x4), none, none, none, some (.int x8), some (.long x9), none, some (.long x11), none, some (.long x13), none, some (.int x15), some (.int s0), some (.int x17), some (.int x18), some (.int x19), some (.int x20), none, none] dL_fits_532 (Nat.le_of_ble_eq_true rfl) rfl ?_
  refine e_iload dL_fits_534 rfl ?_
  refine e_if_eq (tgt := 544) dL_fits_536 rfl (fun hc279 => ?_) (fun hc279 => ?_)
  · rw [if_pos hc279] at h
    refine e_iload dL_fits_544 rfl ?_
    refine e_istoreL [some (.ref 0), some (.ref 29), some (.int x2), some (.int x3), some (.long x4), none, none, none, some (.int x8), some (.long x9), none, some (.long x11), none, some (.long x13), none, some (.int x15), some (.int s0), some (.int x17), some (.int x18), some (.int x19), some (.int x20), none, none] dL_fits_546 (Nat.le_of_ble_eq_true rfl) rfl ?_
    refine e_iincN 18 (1 : Int32) dL_fits_548 rfl ci_1 h (fun y9 => [some (.ref 0), some (.ref 29), some (.int x2), some (.int x3), some (.long x4), none, none, none, some (.int x8), some (.long x9), none, some (.long x11), none, some (.long x13), none, some (.int x15), some (.int s0), some (.int x17), some (.int y9), some (.int x19), some (.int x20), none, none]) (fun _ => rfl) (fun v280 ev280 h => ?_)
    refine e_goto (tgt := 433) dL_fits_551 rfl ?_
    exact e_le (hk433 x2 x3 x4 x8 x9 x11 x13 x15 s0 x17 v280 μ _ (by omega) h) ⟨rfl, rfl, rfl, rfl, rfl, rfl, rfl, rfl, rfl, rfl, rfl, rfl, rfl, trivial⟩
  · rw [if_neg hc279] at h
    refine e_iload dL_fits_539 rfl ?_
    refine e_goto (tgt := 546) dL_fits_541 rfl ?_
    refine e_istoreL [some (.ref 0), some (.ref 29), some (.int x2), some (.int x3), some (.long x4), none, none, none, some (.int x8), some (.long x9), none, some (.long x11), none, some (.long x13), none, some (.int x15), some (.int s0), some (.int x19), some (.int x18), some (.int x19), some (.int x20), none, none] dL_fits_546 (Nat.le_of_ble_eq_true rfl) rfl ?_
    refine e_iincN 18 (1 : Int32) dL_fits_548 rfl ci_1 h (fun y9 => [some (.ref 0), some (.ref 29), some (.int x2), some (.int x3), some (.long x4), none, none, none, some (.int x8), some (.long x9), none, some (.long x11), none, some (.long x13), none, some (.int x15), some (.int s0), some (.int x19), some (.int y9), some (.int x19), some (.int x20), none, none]) (fun _ => rfl) (fun v281 ev281 h => ?_)
    refine e_goto (tgt := 433) dL_fits_551 rfl ?_
    exact e_le (hk433 x2 x3 x4 x8 x9 x11 x13 x15 s0 x19 v281 μ _ (by omega) h) ⟨rfl, rfl, rfl, rfl, rfl, rfl, rfl, rfl, rfl, rfl, rfl, rfl, rfl, trivial⟩
set_option maxHeartbeats 4000000 in
theorem g_L_fits_506 {r : Res} {μ' : Mem} {k433 : Int32 → Int32 → Int64 → Int32 → Int64 → Int64 → Int64 → Int32 → Int32 → Int32 → Int32 → Mem → Out} (hk433 : ∀ (x2 : Int32) (x3 : Int32) (x4 : Int64) (x8 : Int32) (x9 : Int64) (x11 : Int64) (x13 : Int64) (x15 : Int32) (x16 : Int32) (x17 : Int32) (x18 : Int32), ∀ (μ : Mem) (b : Nat), 10 ≤ b → k433 x2 x3 x4 x8 x9 x11 x13 x15 x16 x17 x18 μ = some (r, μ') → G mL_fits (Qe r μ') 433 [some (.ref 0), some (.ref 29), some (.int x2), some (.int x3), some (.long x4), none, none, none, some (.int x8), some (.long x9), none, some (.long x11), none, some (.long x13), none, some (.int x15), some (.int x16), some (.int x17), some (.int x18), none, none, none, none] [] μ b) : ∀ (x2 : Int32) (x3 : Int32) (x4 : Int64) (x8 : Int32) (x9 : Int64) (x11 : Int64) (x13 : Int64) (x15 : Int32) (x16 : Int32) (x17 : Int32) (x18 : Int32) (x19 : Int32) (s0 : Int32), ∀ (μ : Mem) (b : Nat), 10 ≤ b → f_L_fits_506 k433 x2 x3 x4 x8 x9 x11 x13 x15 x16 x17 x18 x19 s0 μ = some (r, μ') → G mL_fits (Qe r μ') 506 [some (.ref 0), some (.ref 29), some (.int x2), some (.int x3), some (.long x4), none, none, none, some (.int x8), some (.long x9), none, some (.long x11), none, some (.long x13), none, some (.int x15), some (.int x16), some (.int x17), some (.int x18), some (.int x19), none, none, none] [.int s0] μ b := by
  intro x2 x3 x4 x8 x9 x11 x13 x15 x16 x17 x18 x19 s0 μ b hb9 h
  unfold f_L_fits_506 at h
  refine e_istoreL [some (.ref 0), some (.ref 29), some (.int x2), some (.int x3), some (.long x4), none, none, none, some (.int x8), some (.long x9), none, some (.long x11), none, some (.long x13), none, some (.int x15), some (.int x16), some (.int x17), some (.int x18), some (.int x19), some (.int s0), none, none] dL_fits_506 (Nat.le_of_ble_eq_true rfl) rfl ?_
  refine e_iload dL_fits_508 rfl ?_
  refine e_if_eq (tgt := 530) dL_fits_510 rfl (fun hc278 => ?_) (fun hc278 => ?_)
  · rw [if_pos hc278] at h
    refine e_iload dL_fits_530 rfl ?_
    exact e_le (g_L_fits_532 hk433 x2 x3 x4 x8 x9 x11 x13 x15 x17 x18 x19 s0 x16 μ _ (by omega) h) ⟨rfl, rfl, rfl, rfl, rfl, rfl, rfl, rfl, rfl, rfl, rfl, rfl, rfl, rfl, trivial⟩
  · rw [if_neg hc278] at h
    refine e_bipush dL_fits_513 cb_10 ?_
    refine e_iload dL_fits_515 rfl ?_
    refine e_bipush dL_fits_517 cb_6 ?_
    refine e_idiv dL_fits_519 (by decide) ?_
    refine e_imul dL_fits_520 ?_
    refine e_iload dL_fits_521 rfl ?_
    refine e_bipush dL_fits_523 cb_6 ?_
    refine e_irem dL_fits_525 (by decide) ?_
    refine e_iadd dL_fits_526 ?_
    refine e_goto (tgt := 532) dL_fits_527 rfl ?_
    exact e_le (g_L_fits_532 hk433 x2 x3 x4 x8 x9 x11 x13 x15 x17 x18 x19 s0 (((10 : Int32) * (x18 / (6 : Int32))) + (remI x18 (6 : Int32))) μ _ (by omega) h) ⟨rfl, rfl, rfl, rfl, rfl, rfl, rfl, rfl, rfl, rfl, rfl, rfl, rfl, rfl, trivial⟩
set_option maxHeartbeats 4000000 in
theorem g_L_fits_474 {r : Res} {μ' : Mem} {k433 : Int32 → Int32 → Int64 → Int32 → Int64 → Int64 → Int64 → Int32 → Int32 → Int32 → Int32 → Mem → Out} (hk433 : ∀ (x2 : Int32) (x3 : Int32) (x4 : Int64) (x8 : Int32) (x9 : Int64) (x11 : Int64) (x13 : Int64) (x15 : Int32) (x16 : Int32) (x17 : Int32) (x18 : Int32), ∀ (μ : Mem) (b : Nat), 10 ≤ b → k433 x2 x3 x4 x8 x9 x11 x13 x15 x16 x17 x18 μ = some (r, μ') → G mL_fits (Qe r μ') 433 [some (.ref 0), some (.ref 29), some (.int x2), some (.int x3), some (.long x4), none, none, none, some (.int x8), some (.long x9), none, some (.long x11), none, some (.long x13), none, some (.int x15), some (.int x16), some (.int x17), some (.int x18), none, none, none, none] [] μ b) : ∀ (x2 : Int32) (x3 : Int32) (x4 : Int64) (x8 : Int32) (x9 : Int64) (x11 : Int64) (x13 : Int64) (x15 : Int32) (x16 : Int32) (x17 : Int32) (x18 : Int32) (s0 : Int32), ∀ (μ : Mem) (b : Nat), 10 ≤ b → f_L_fits_474 k433 x2 x3 x4 x8 x9 x11 x13 x15 x16 x17 x18 s0 μ = some (r, μ') → G mL_fits (Qe r μ') 474 [some (.ref 0), some (.ref 29), some (.int x2), some (.int x3), some (.long x4), none, none, none, some (.int x8), some (.long x9), none, some (.long x11), none, some (.long x13), none, some (.int x15), some (.int x16), some (.int x17), some (.int x18), none, none, none, none] [.int s0] μ b := by
  intro x2 x3 x4 x8 x9 x11 x13 x15 x16 x17 x18 s0 μ b hb9 h
  unfold f_L_fits_474 at h
  refine e_istoreL [some (.ref 0), some (.ref 29), some (.int x2), some (.int x3), some (.long x4), none, none, none, some (.int x8), some (.long x9), none, some (.long x11), none, some (.long x13), none, some (.int x15), some (.int x16), some (.int x17), some (.int x18), some (.int s0), none, none, none] dL_fits_474 (Nat.le_of_ble_eq_true rfl) rfl ?_
  refine e_iload dL_fits_476 rfl ?_
  refine e_bipush dL_fits_478 cb_6 ?_
  refine e_idiv dL_fits_480 (by decide) ?_
  refine e_iload_n dL_fits_481 rfl ?_
  refine e_ic_ge (tgt := 505) dL_fits_482 rfl (fun hc255 => ?_) (fun hc255 => ?_)
  · rw [if_pos hc255] at h
    refine e_iconst dL_fits_505 ci_0 ?_
    exact e_le (g_L_fits_506 hk433 x2 x3 x4 x8 x9 x11 x13 x15 x16 x17 x18 s0 (0 : Int32) μ _ (by omega) h) ⟨rfl, rfl, rfl, rfl, rfl, rfl, rfl, rfl, rfl, rfl, rfl, rfl, rfl, rfl, trivial⟩
  · rw [if_neg hc255] at h
    refine e_iload dL_fits_485 rfl ?_
    refine e_bipush dL_fits_487 cb_6 ?_
    refine e_irem dL_fits_489 (by decide) ?_
    refine e_iload_n dL_fits_490 rfl ?_
    refine e_ic_ge (tgt := 505) dL_fits_491 rfl (fun hc256 => ?_) (fun hc256 => ?_)
    · rw [if_pos hc256] at h
      refine e_iconst dL_fits_505 ci_0 ?_
      exact e_le (g_L_fits_506 hk433 x2 x3 x4 x8 x9 x11 x13 x15 x16 x17 x18 s0 (0 : Int32) μ _ (by omega) h) ⟨rfl, rfl, rfl, rfl, rfl, rfl, rfl, rfl, rfl, rfl, rfl, rfl, rfl, rfl, trivial⟩
    · rw [if_neg hc256] at h
      refine e_iload dL_fits_494 rfl ?_
      refine e_iload dL_fits_496 rfl ?_
      refine e_ic_le (tgt := 505) dL_fits_498 rfl (fun hc257 => ?_) (fun hc257 => ?_)
      · rw [if_pos hc257] at h
        refine e_iconst dL_fits_505 ci_0 ?_
        exact e_le (g_L_fits_506 hk433 x2 x3 x4 x8 x9 x11 x13 x15 x16 x17 x18 s0 (0 : Int32) μ _ (by omega) h) ⟨rfl, rfl, rfl, rfl, rfl, rfl, rfl, rfl, rfl, rfl, rfl, rfl, rfl, rfl, trivial⟩
      · rw [if_neg hc257] at h
        refine e_iconst dL_fits_501 ci_1 ?_
        refine e_goto (tgt := 506) dL_fits_502 rfl ?_
        exact e_le (g_L_fits_506 hk433 x2 x3 x4 x8 x9 x11 x13 x15 x16 x17 x18 s0 (1 : Int32) μ _ (by omega) h) ⟨rfl, rfl, rfl, rfl, rfl, rfl, rfl, rfl, rfl, rfl, rfl, rfl, rfl, rfl, trivial⟩
set_option maxHeartbeats 4000000 in
theorem g_L_fits_560 {r : Res} {μ' : Mem} : ∀ n : Nat, ∀ (x2 : Int32) (x3 : Int32) (x4 : Int64) (x9 : Int64) (x11 : Int64) (x13 : Int64) (x15 : Int32) (x16 : Int32) (x18 : Int64) (x20 : Int32), ∀ (μ : Mem) (b : Nat), 10 ≤ b → f_L_fits_560 n x2 x3 x4 x9 x11 x13 x15 x16 x18 x20 μ = some (r, μ') → G mL_fits (Qe r μ') 560 [some (.ref 0), none, some (.int x2), some (.int x3), some (.long x4), none, none, none, none, some (.long x9), none, some (.long x11), none, some (.long x13), none, some (.int x15), some (.int x16), none, some (.long x18), none, some (.int x20), none, none] [] μ b := by
  intro n
  induction n with
  | zero => intro x2 x3 x4 x9 x11 x13 x15 x16 x18 x20 μ b hb9 h; exact nomatch (show (none : Out) = some _ from h)
  | succ n ih =>
    intro x2 x3 x4 x9 x11 x13 x15 x16 x18 x20 μ b hb9 h
    rw [f_L_fits_560.eq_2] at h
    refine e_iload dL_fits_560 rfl ?_
    refine e_iload_n dL_fits_562 rfl ?_
    refine e_ic_ge (tgt := 588) dL_fits_563 rfl (fun hc166 => ?_) (fun hc166 => ?_)
    · rw [if_pos hc166] at h
      refine e_aload_n dL_fits_588 rfl ?_
      refine cI_go h (fun E169 hc167 hr170 => e_SX [.ref 0] [] dL_fits_589 rfl (by decide) rfl rfl (Nat.le_of_ble_eq_true rfl) (by omega) ⟨rfl, hc167⟩ rfl ⟨hr170.symm, rfl⟩) (fun v171 μ168 hc167 h => ?_)
      refine e_CI [.ref 0] [] dL_fits_589 rfl (by decide) rfl rfl (Nat.le_of_ble_eq_true rfl) (by omega) ⟨rfl, hc167⟩ ?_
      refine e_iconst dL_fits_592 ci_m1 ?_
      refine e_ic_ne (tgt := 734) dL_fits_593 rfl (fun hc172 => ?_) (fun hc172 => ?_)
      · rw [if_neg hc172] at h
        refine e_iconst dL_fits_734 ci_0 ?_
        exact e_iret .boolean dL_fits_735 rfl rfl (ret_eq h)
      · rw [if_pos hc172] at h
        refine e_aload_n dL_fits_596 rfl ?_
        refine e_iconst dL_fits_597 ci_0 ?_
        refine cI_go h (fun E175 hc173 hr176 => e_VX [.int (0 : Int32)] [] dL_fits_598 rfl rfl rfl rfl ⟨Nat.le_of_ble_eq_true rfl, rfl⟩ (Nat.le_of_ble_eq_true rfl) (by omega) ⟨(0 : Int32), rfl, hc173⟩ rfl ⟨hr176.symm, rfl⟩) (fun v177 μ174 hc173 h => ?_)
        refine e_VI [.int (0 : Int32)] [] dL_fits_598 rfl rfl rfl rfl ⟨Nat.le_of_ble_eq_true rfl, rfl⟩ (Nat.le_of_ble_eq_true rfl) ⟨(0 : Int32), rfl, hc173⟩ ?_
        refine e_lload dL_fits_601 rfl ?_
        refine cI_go h (fun E180 hc178 hr181 => e_SX [.long x4] [.int v177] dL_fits_603 rfl (by decide) rfl rfl (Nat.le_of_ble_eq_true rfl) (by omega) ⟨x4, rfl, hc178⟩ rfl ⟨hr181.symm, rfl⟩) (fun v182 μ179 hc178 h => ?_)
        refine e_SI [.long x4] [.int v177] dL_fits_603 rfl (by decide) rfl rfl (Nat.le_of_ble_eq_true rfl) ⟨x4, rfl, hc178⟩ ?_
        refine e_ic_ne (tgt := 734) dL_fits_606 rfl (fun hc183 => ?_) (fun hc183 => ?_)
        · rw [if_neg hc183] at h
          refine e_iconst dL_fits_734 ci_0 ?_
          exact e_iret .boolean dL_fits_735 rfl rfl (ret_eq h)
        · rw [if_pos hc183] at h
          refine e_aload_n dL_fits_609 rfl ?_
          refine e_iconst dL_fits_610 ci_1 ?_
          refine cI_go h (fun E186 hc184 hr187 => e_VX [.int (1 : Int32)] [] dL_fits_611 rfl rfl rfl rfl ⟨Nat.le_of_ble_eq_true rfl, rfl⟩ (Nat.le_of_ble_eq_true rfl) (by omega) ⟨(1 : Int32), rfl, hc184⟩ rfl ⟨hr187.symm, rfl⟩) (fun v188 μ185 hc184 h => ?_)
          refine e_VI [.int (1 : Int32)] [] dL_fits_611 rfl rfl rfl rfl ⟨Nat.le_of_ble_eq_true rfl, rfl⟩ (Nat.le_of_ble_eq_true rfl) ⟨(1 : Int32), rfl, hc184⟩ ?_
          refine e_lload dL_fits_614 rfl ?_
          refine e_lload dL_fits_616 rfl ?_
          refine e_lxor dL_fits_618 ?_
          refine cI_go h (fun E191 hc189 hr192 => e_SX [.long (x9 ^^^ x4)] [.int v188] dL_fits_619 rfl (by decide) rfl rfl (Nat.le_of_ble_eq_true rfl) (by omega) ⟨x9 ^^^ x4, rfl, hc189⟩ rfl ⟨hr192.symm, rfl⟩) (fun v193 μ190 hc189 h => ?_)
          refine e_SI [.long (x9 ^^^ x4)] [.int v188] dL_fits_619 rfl (by decide) rfl rfl (Nat.le_of_ble_eq_true rfl) ⟨x9 ^^^ x4, rfl, hc189⟩ ?_
          refine e_ic_ne (tgt := 734) dL_fits_622 rfl (fun hc194 => ?_) (fun hc194 => ?_)
          · rw [if_neg hc194] at h
            refine e_iconst dL_fits_734 ci_0 ?_
            exact e_iret .boolean dL_fits_735 rfl rfl (ret_eq h)
          · rw [if_pos hc194] at h
            refine e_aload_n dL_fits_625 rfl ?_
            refine e_iconst dL_fits_626 ci_0 ?_
            refine cJ_go h (fun E197 hc195 hr198 => e_SX [.ref 0, .int (0 : Int32)] [] dL_fits_627 rfl (by decide) rfl rfl (Nat.le_of_ble_eq_true rfl) (by omega) ⟨(0 : Int32), rfl, hc195⟩ rfl ⟨hr198.symm, rfl⟩) (fun v199 μ196 hc195 h => ?_)
            refine e_SJ [.ref 0, .int (0 : Int32)] [] dL_fits_627 rfl (by decide) rfl rfl (Nat.le_of_ble_eq_true rfl) ⟨(0 : Int32), rfl, hc195⟩ ?_
            refine e_lload dL_fits_630 rfl ?_
            refine e_lcmp dL_fits_632 ?_
            refine e_if_ne (tgt := 734) dL_fits_633 rfl (fun hc200 => ?_) (fun hc200 => ?_)
            · rw [if_neg hc200] at h
              refine e_iconst dL_fits_734 ci_0 ?_
              exact e_iret .boolean dL_fits_735 rfl rfl (ret_eq h)
            · rw [if_pos hc200] at h
              refine e_aload_n dL_fits_636 rfl ?_
              refine e_iconst dL_fits_637 ci_0 ?_
              refine cI_go h (fun E203 hc201 hr204 => e_VX [.int (0 : Int32)] [] dL_fits_638 rfl rfl rfl rfl ⟨Nat.le_of_ble_eq_true rfl, rfl⟩ (Nat.le_of_ble_eq_true rfl) (by omega) ⟨(0 : Int32), rfl, hc201⟩ rfl ⟨hr204.symm, rfl⟩) (fun v205 μ202 hc201 h => ?_)
              refine e_VI [.int (0 : Int32)] [] dL_fits_638 rfl rfl rfl rfl ⟨Nat.le_of_ble_eq_true rfl, rfl⟩ (Nat.le_of_ble_eq_true rfl) ⟨(0 : Int32), rfl, hc201⟩ ?_
              refine e_if_lt (tgt := 734) dL_fits_641 rfl (fun hc206 => ?_) (fun hc206 => ?_)
              · rw [if_pos hc206] at h
                refine e_iconst dL_fits_734 ci_0 ?_
                exact e_iret .boolean dL_fits_735 rfl rfl (ret_eq h)
              · rw [if_neg hc206] at h
                refine e_aload_n dL_fits_644 rfl ?_
                refine e_iconst dL_fits_645 ci_0 ?_
                refine cJ_go h (fun E209 hc207 hr210 => e_SX [.ref 0, .int (0 : Int32)] [] dL_fits_646 rfl (by decide) rfl rfl (Nat.le_of_ble_eq_true rfl) (by omega) ⟨(0 : Int32), rfl, hc207⟩ rfl ⟨hr210.symm, rfl⟩) (fun v211 μ208 hc207 h => ?_)
                refine e_SJ [.ref 0, .int (0 : Int32)] [] dL_fits_646 rfl (by decide) rfl rfl (Nat.le_of_ble_eq_true rfl) ⟨(0 : Int32), rfl, hc207⟩ ?_
                refine e_lload dL_fits_649 rfl ?_
                refine e_lcmp dL_fits_651 ?_
                refine e_if_ne (tgt := 734) dL_fits_652 rfl (fun hc212 => ?_) (fun hc212 => ?_)
                · rw [if_neg hc212] at h
                  refine e_iconst dL_fits_734 ci_0 ?_
                  exact e_iret .boolean dL_fits_735 rfl rfl (ret_eq h)
                · rw [if_pos hc212] at h
                  refine e_aload_n dL_fits_655 rfl ?_
                  refine e_iconst dL_fits_656 ci_1 ?_
                  refine cI_go h (fun E215 hc213 hr216 => e_VX [.int (1 : Int32)] [] dL_fits_657 rfl rfl rfl rfl ⟨Nat.le_of_ble_eq_true rfl, rfl⟩ (Nat.le_of_ble_eq_true rfl) (by omega) ⟨(1 : Int32), rfl, hc213⟩ rfl ⟨hr216.symm, rfl⟩) (fun v217 μ214 hc213 h => ?_)
                  refine e_VI [.int (1 : Int32)] [] dL_fits_657 rfl rfl rfl rfl ⟨Nat.le_of_ble_eq_true rfl, rfl⟩ (Nat.le_of_ble_eq_true rfl) ⟨(1 : Int32), rfl, hc213⟩ ?_
                  refine e_lload dL_fits_660 rfl ?_
                  refine e_lload dL_fits_662 rfl ?_
                  refine e_land dL_fits_664 ?_
                  refine cI_go h (fun E220 hc218 hr221 => e_SX [.long (x11 &&& x18)] [.int v217] dL_fits_665 rfl (by decide) rfl rfl (Nat.le_of_ble_eq_true rfl) (by omega) ⟨x11 &&& x18, rfl, hc218⟩ rfl ⟨hr221.symm, rfl⟩) (fun v222 μ219 hc218 h => ?_)
                  refine e_SI [.long (x11 &&& x18)] [.int v217] dL_fits_665 rfl (by decide) rfl rfl (Nat.le_of_ble_eq_true rfl) ⟨x11 &&& x18, rfl, hc218⟩ ?_
                  refine e_ic_ne (tgt := 734) dL_fits_668 rfl (fun hc223 => ?_) (fun hc223 => ?_)
                  · rw [if_neg hc223] at h
                    refine e_iconst dL_fits_734 ci_0 ?_
                    exact e_iret .boolean dL_fits_735 rfl rfl (ret_eq h)
                  · rw [if_pos hc223] at h
                    refine e_aload_n dL_fits_671 rfl ?_
                    refine e_iconst dL_fits_672 ci_0 ?_
                    refine cI_go h (fun E226 hc224 hr227 => e_VX [.int (0 : Int32)] [] dL_fits_673 rfl rfl rfl rfl ⟨Nat.le_of_ble_eq_true rfl, rfl⟩ (Nat.le_of_ble_eq_true rfl) (by omega) ⟨(0 : Int32), rfl, hc224⟩ rfl ⟨hr227.symm, rfl⟩) (fun v228 μ225 hc224 h => ?_)
                    refine e_VI [.int (0 : Int32)] [] dL_fits_673 rfl rfl rfl rfl ⟨Nat.le_of_ble_eq_true rfl, rfl⟩ (Nat.le_of_ble_eq_true rfl) ⟨(0 : Int32), rfl, hc224⟩ ?_
                    refine e_lload dL_fits_676 rfl ?_
                    refine e_lload dL_fits_678 rfl ?_
                    refine e_ldc2 (v := (-1 : Int64)) dL_fits_680 rfl ?_
                    refine e_lxor dL_fits_683 ?_
                    refine e_land dL_fits_684 ?_
                    refine cI_go h (fun E231 hc229 hr232 => e_SX [.long (x18 &&& (x13 ^^^ (-1 : Int64)))] [.int v228] dL_fits_685 rfl (by decide) rfl rfl (Nat.le_of_ble_eq_true rfl) (by omega) ⟨x18 &&& (x13 ^^^ (-1 : Int64)), rfl, hc229⟩ rfl ⟨hr232.symm, rfl⟩) (fun v233 μ230 hc229 h => ?_)
                    refine e_SI [.long (x18 &&& (x13 ^^^ (-1 : Int64)))] [.int v228] dL_fits_685 rfl (by decide) rfl rfl (Nat.le_of_ble_eq_true rfl) ⟨x18 &&& (x13 ^^^ (-1 : Int64)), rfl, hc229⟩ ?_
                    refine e_ic_ne (tgt := 734) dL_fits_688 rfl (fun hc234 => ?_) (fun hc234 => ?_)
                    · rw [if_neg hc234] at h
                      refine e_iconst dL_fits_734 ci_0 ?_
                      exact e_iret .boolean dL_fits_735 rfl rfl (ret_eq h)
                    · rw [if_pos hc234] at h
                      refine e_aload_n dL_fits_691 rfl ?_
                      refine e_iconst dL_fits_692 ci_4 ?_
                      refine cJ_go h (fun E237 hc235 hr238 => e_SX [.ref 0, .int (4 : Int32)] [] dL_fits_693 rfl (by decide) rfl rfl (Nat.le_of_ble_eq_true rfl) (by omega) ⟨(4 : Int32), rfl, hc235⟩ rfl ⟨hr238.symm, rfl⟩) (fun v239 μ236 hc235 h => ?_)
                      refine e_SJ [.ref 0, .int (4 : Int32)] [] dL_fits_693 rfl (by decide) rfl rfl (Nat.le_of_ble_eq_true rfl) ⟨(4 : Int32), rfl, hc235⟩ ?_
                      refine e_lload dL_fits_696 rfl ?_
                      refine e_lload dL_fits_698 rfl ?_
                      refine e_ldc2 (v := (-1 : Int64)) dL_fits_700 rfl ?_
                      refine e_lxor dL_fits_703 ?_
                      refine e_lor dL_fits_704 ?_
                      refine e_lload dL_fits_705 rfl ?_
                      refine e_land dL_fits_707 ?_
                      refine e_lcmp dL_fits_708 ?_
                      refine e_if_ne (tgt := 734) dL_fits_709 rfl (fun hc240 => ?_) (fun hc240 => ?_)
                      · rw [if_neg hc240] at h
                        refine e_iconst dL_fits_734 ci_0 ?_
                        exact e_iret .boolean dL_fits_735 rfl rfl (ret_eq h)
                      · rw [if_pos hc240] at h
                        refine e_aload_n dL_fits_712 rfl ?_
                        refine cI_go h (fun E243 hc241 hr244 => e_VX [] [] dL_fits_713 rfl rfl rfl rfl ⟨Nat.le_of_ble_eq_true rfl, rfl⟩ (Nat.le_of_ble_eq_true rfl) (by omega) ⟨rfl, hc241⟩ rfl ⟨hr244.symm, rfl⟩) (fun v245 μ242 hc241 h => ?_)
                        refine e_VI [] [] dL_fits_713 rfl rfl rfl rfl ⟨Nat.le_of_ble_eq_true rfl, rfl⟩ (Nat.le_of_ble_eq_true rfl) ⟨rfl, hc241⟩ ?_
                        refine e_iload dL_fits_716 rfl ?_
                        refine e_ic_ne (tgt := 734) dL_fits_718 rfl (fun hc246 => ?_) (fun hc246 => ?_)
                        · rw [if_neg hc246] at h
                          refine e_iconst dL_fits_734 ci_0 ?_
                          exact e_iret .boolean dL_fits_735 rfl rfl (ret_eq h)
                        · rw [if_pos hc246] at h
                          refine e_aload_n dL_fits_721 rfl ?_
                          refine cI_go h (fun E249 hc247 hr250 => e_VX [] [] dL_fits_722 rfl rfl rfl rfl ⟨Nat.le_of_ble_eq_true rfl, rfl⟩ (Nat.le_of_ble_eq_true rfl) (by omega) ⟨rfl, hc247⟩ rfl ⟨hr250.symm, rfl⟩) (fun v251 μ248 hc247 h => ?_)
                          refine e_VI [] [] dL_fits_722 rfl rfl rfl rfl ⟨Nat.le_of_ble_eq_true rfl, rfl⟩ (Nat.le_of_ble_eq_true rfl) ⟨rfl, hc247⟩ ?_
                          refine e_iload dL_fits_725 rfl ?_
                          refine e_ic_ne (tgt := 734) dL_fits_727 rfl (fun hc252 => ?_) (fun hc252 => ?_)
                          · rw [if_neg hc252] at h
                            refine e_iconst dL_fits_734 ci_0 ?_
                            exact e_iret .boolean dL_fits_735 rfl rfl (ret_eq h)
                          · rw [if_pos hc252] at h
                            refine e_iconst dL_fits_730 ci_1 ?_
                            refine e_goto (tgt := 735) dL_fits_731 rfl ?_
                            exact e_iret .boolean dL_fits_735 rfl rfl (ret_eq h)
    · rw [if_neg hc166] at h
      refine e_lload dL_fits_566 rfl ?_
      refine e_lconst (v := (1 : Int64)) dL_fits_568 rfl ?_
      refine e_iload_n dL_fits_569 rfl ?_
      refine e_lshl dL_fits_570 ?_
      refine e_lconst (v := (1 : Int64)) dL_fits_571 rfl ?_
      refine e_lsub dL_fits_572 ?_
      refine e_bipush dL_fits_573 cb_6 ?_
      refine e_iload dL_fits_575 rfl ?_
      refine e_imul dL_fits_577 ?_
      refine e_lshl dL_fits_578 ?_
      refine e_lor dL_fits_579 ?_
      refine e_naJ h (fun v253 ev253 h => ?_)
      refine e_lstoreL [some (.ref 0), none, some (.int x2), some (.int x3), some (.long x4), none, none, none, none, some (.long x9), none, some (.long x11), none, some (.long x13), none, some (.int x15), some (.int x16), none, some (.long v253), none, some (.int x20), none, none] dL_fits_580 (Nat.le_of_ble_eq_true rfl) rfl ?_
      refine e_iincN 20 (1 : Int32) dL_fits_582 rfl ci_1 h (fun y9 => [some (.ref 0), none, some (.int x2), some (.int x3), some (.long x4), none, none, none, none, some (.long x9), none, some (.long x11), none, some (.long x13), none, some (.int x15), some (.int x16), none, some (.long v253), none, some (.int y9), none, none]) (fun _ => rfl) (fun v254 ev254 h => ?_)
      refine e_goto (tgt := 560) dL_fits_585 rfl ?_
      exact e_le (ih x2 x3 x4 x9 x11 x13 x15 x16 v253 v254 μ _ (by omega) h) ⟨rfl, rfl, rfl, rfl, rfl, rfl, rfl, rfl, rfl, rfl, rfl, trivial⟩
set_option maxHeartbeats 4000000 in
theorem g_L_fits_433 {r : Res} {μ' : Mem} : ∀ n : Nat, ∀ (x2 : Int32) (x3 : Int32) (x4 : Int64) (x8 : Int32) (x9 : Int64) (x11 : Int64) (x13 : Int64) (x15 : Int32) (x16 : Int32) (x17 : Int32) (x18 : Int32), ∀ (μ : Mem) (b : Nat), 10 ≤ b → f_L_fits_433 n x2 x3 x4 x8 x9 x11 x13 x15 x16 x17 x18 μ = some (r, μ') → G mL_fits (Qe r μ') 433 [some (.ref 0), some (.ref 29), some (.int x2), some (.int x3), some (.long x4), none, none, none, some (.int x8), some (.long x9), none, some (.long x11), none, some (.long x13), none, some (.int x15), some (.int x16), some (.int x17), some (.int x18), none, none, none, none] [] μ b := by
  intro n
  induction n with
  | zero => intro x2 x3 x4 x8 x9 x11 x13 x15 x16 x17 x18 μ b hb9 h; exact nomatch (show (none : Out) = some _ from h)
  | succ n ih =>
    intro x2 x3 x4 x8 x9 x11 x13 x15 x16 x17 x18 μ b hb9 h
    rw [f_L_fits_433.eq_2] at h
    refine e_iload dL_fits_433 rfl ?_
    refine e_bipush dL_fits_435 cb_36 ?_
    refine e_ic_ge (tgt := 554) dL_fits_437 rfl (fun hc137 => ?_) (fun hc137 => ?_)
    · rw [if_pos hc137] at h
      refine e_lconst (v := (0 : Int64)) dL_fits_554 rfl ?_
      refine e_lstoreL [some (.ref 0), some (.ref 29), some (.int x2), some (.int x3), some (.long x4), none, none, none, some (.int x8), some (.long x9), none, some (.long x11), none, some (.long x13), none, some (.int x15), some (.int x16), some (.int x17), some (.long (0 : Int64)), none, none, none, none] dL_fits_555 (Nat.le_of_ble_eq_true rfl) rfl ?_
      refine e_iconst dL_fits_557 ci_0 ?_
      refine e_istoreL [some (.ref 0), some (.ref 29), some (.int x2), some (.int x3), some (.long x4), none, none, none, some (.int x8), some (.long x9), none, some (.long x11), none, some (.long x13), none, some (.int x15), some (.int x16), some (.int x17), some (.long (0 : Int64)), none, some (.int (0 : Int32)), none, none] dL_fits_558 (Nat.le_of_ble_eq_true rfl) rfl ?_
      exact e_le (g_L_fits_560 BIG x2 x3 x4 x9 x11 x13 x15 x16 (0 : Int64) (0 : Int32) μ _ (by omega) h) ⟨rfl, rfl, rfl, rfl, rfl, rfl, rfl, rfl, rfl, rfl, rfl, trivial⟩
    · rw [if_neg hc137] at h
      refine e_iload dL_fits_440 rfl ?_
      refine e_iconst dL_fits_442 ci_1 ?_
      refine e_ic_le (tgt := 554) dL_fits_443 rfl (fun hc138 => ?_) (fun hc138 => ?_)
      · rw [if_pos hc138] at h
        refine e_lconst (v := (0 : Int64)) dL_fits_554 rfl ?_
        refine e_lstoreL [some (.ref 0), some (.ref 29), some (.int x2), some (.int x3), some (.long x4), none, none, none, some (.int x8), some (.long x9), none, some (.long x11), none, some (.long x13), none, some (.int x15), some (.int x16), some (.int x17), some (.long (0 : Int64)), none, none, none, none] dL_fits_555 (Nat.le_of_ble_eq_true rfl) rfl ?_
        refine e_iconst dL_fits_557 ci_0 ?_
        refine e_istoreL [some (.ref 0), some (.ref 29), some (.int x2), some (.int x3), some (.long x4), none, none, none, some (.int x8), some (.long x9), none, some (.long x11), none, some (.long x13), none, some (.int x15), some (.int x16), some (.int x17), some (.long (0 : Int64)), none, some (.int (0 : Int32)), none, none] dL_fits_558 (Nat.le_of_ble_eq_true rfl) rfl ?_
        exact e_le (g_L_fits_560 BIG x2 x3 x4 x9 x11 x13 x15 x16 (0 : Int64) (0 : Int32) μ _ (by omega) h) ⟨rfl, rfl, rfl, rfl, rfl, rfl, rfl, rfl, rfl, rfl, rfl, trivial⟩
      · rw [if_neg hc138] at h
        refine e_aload_n dL_fits_446 rfl ?_
        refine e_iload dL_fits_447 rfl ?_
        obtain ⟨hc139, h⟩ := ck_eq h
        refine e_ialoadL (μ.1 29 (Int32.toNatClampNeg x18)) (n := 36) dL_fits_449 (by decide) rfl hc139 rfl ?_
        refine e_iload dL_fits_450 rfl ?_
        refine e_aload_n dL_fits_452 rfl ?_
        refine e_iload dL_fits_453 rfl ?_
        obtain ⟨hc140, h⟩ := ck_eq h
        refine e_ialoadL (μ.1 29 (Int32.toNatClampNeg x18)) (n := 36) dL_fits_455 (by decide) rfl hc140 rfl ?_
        refine e_isub dL_fits_456 ?_
        refine e_ic_ge (tgt := 467) dL_fits_457 rfl (fun hc141 => ?_) (fun hc141 => ?_)
        · rw [if_pos hc141] at h
          refine e_iload dL_fits_467 rfl ?_
          refine e_aload_n dL_fits_469 rfl ?_
          refine e_iload dL_fits_470 rfl ?_
          obtain ⟨hc142, h⟩ := ck_eq h
          refine e_ialoadL (μ.1 29 (Int32.toNatClampNeg x18)) (n := 36) dL_fits_472 (by decide) rfl hc142 rfl ?_
          refine e_isub dL_fits_473 ?_
          exact e_le (g_L_fits_474 ih x2 x3 x4 x8 x9 x11 x13 x15 x16 x17 x18 (x8 - (μ.1 29 (Int32.toNatClampNeg x18))) μ _ (by omega) h) ⟨rfl, rfl, rfl, rfl, rfl, rfl, rfl, rfl, rfl, rfl, rfl, rfl, rfl, trivial⟩
        · rw [if_neg hc141] at h
          refine e_aload_n dL_fits_460 rfl ?_
          refine e_iload dL_fits_461 rfl ?_
          obtain ⟨hc143, h⟩ := ck_eq h
          refine e_ialoadL (μ.1 29 (Int32.toNatClampNeg x18)) (n := 36) dL_fits_463 (by decide) rfl hc143 rfl ?_
          refine e_goto (tgt := 474) dL_fits_464 rfl ?_
          exact e_le (g_L_fits_474 ih x2 x3 x4 x8 x9 x11 x13 x15 x16 x17 x18 (μ.1 29 (Int32.toNatClampNeg x18)) μ _ (by omega) h) ⟨rfl, rfl, rfl, rfl, rfl, rfl, rfl, rfl, rfl, rfl, rfl, rfl, rfl, trivial⟩
set_option maxHeartbeats 4000000 in
theorem g_L_fits_190 {r : Res} {μ' : Mem} {m9 : Nat} {k174 : Int32 → Int32 → Int64 → Int64 → Int32 → Int64 → Int64 → Int64 → Int32 → Int32 → Mem → Out} (hk174 : ∀ (x2 : Int32) (x3 : Int32) (x4 : Int64) (x6 : Int64) (x8 : Int32) (x9 : Int64) (x11 : Int64) (x13 : Int64) (x15 : Int32) (x16 : Int32), ∀ (μ : Mem) (b : Nat), m9 + 12 ≤ b → k174 x2 x3 x4 x6 x8 x9 x11 x13 x15 x16 μ = some (r, μ') → G mL_fits (Qe r μ') 174 [some (.ref 0), some (.ref 29), some (.int x2), some (.int x3), some (.long x4), none, some (.long x6), none, some (.int x8), some (.long x9), none, some (.long x11), none, some (.long x13), none, some (.int x15), some (.int x16), none, none, none, none, none, none] [] μ b) : ∀ (x2 : Int32) (x3 : Int32) (x4 : Int64) (x6 : Int64) (x8 : Int32) (x9 : Int64) (x11 : Int64) (x13 : Int64) (x15 : Int32) (x16 : Int32) (s0 : Int32) (s1 : Int32), ∀ (μ : Mem) (b : Nat), m9 + 13 ≤ b → f_L_fits_190 k174 x2 x3 x4 x6 x8 x9 x11 x13 x15 x16 s0 s1 μ = some (r, μ') → G mL_fits (Qe r μ') 190 [some (.ref 0), some (.ref 29), some (.int x2), some (.int x3), some (.long x4), none, some (.long x6), none, some (.int x8), some (.long x9), none, some (.long x11), none, some (.long x13), none, some (.int x15), some (.int x16), none, none, none, none, none, none] [.int s0, .int s1] μ b := by
  intro x2 x3 x4 x6 x8 x9 x11 x13 x15 x16 s0 s1 μ b hb9 h
  unfold f_L_fits_190 at h
  refine e_ic_ge (tgt := 369) dL_fits_190 rfl (fun hc95 => ?_) (fun hc95 => ?_)
  · rw [if_pos hc95] at h
    refine e_iload dL_fits_369 rfl ?_
    refine e_bipush dL_fits_371 cb_100 ?_
    refine e_ic_ne (tgt := 423) dL_fits_373 rfl (fun hc96 => ?_) (fun hc96 => ?_)
    · rw [if_neg hc96] at h
      refine e_bipush dL_fits_423 cb_m9 ?_
      refine e_istoreL [some (.ref 0), some (.ref 29), some (.int x2), some (.int x3), some (.long x4), none, some (.long x6), none, some (.int x8), some (.long x9), none, some (.long x11), none, some (.long x13), none, some (.int x15), some (.int (-9 : Int32)), none, none, none, none, none, none] dL_fits_425 (Nat.le_of_ble_eq_true rfl) rfl ?_
      refine e_iconst dL_fits_427 ci_m1 ?_
      refine e_istoreL [some (.ref 0), some (.ref 29), some (.int x2), some (.int x3), some (.long x4), none, some (.long x6), none, some (.int x8), some (.long x9), none, some (.long x11), none, some (.long x13), none, some (.int x15), some (.int (-9 : Int32)), some (.int (-1 : Int32)), none, none, none, none, none] dL_fits_428 (Nat.le_of_ble_eq_true rfl) rfl ?_
      refine e_iconst dL_fits_430 ci_0 ?_
      refine e_istoreL [some (.ref 0), some (.ref 29), some (.int x2), some (.int x3), some (.long x4), none, some (.long x6), none, some (.int x8), some (.long x9), none, some (.long x11), none, some (.long x13), none, some (.int x15), some (.int (-9 : Int32)), some (.int (-1 : Int32)), some (.int (0 : Int32)), none, none, none, none] dL_fits_431 (Nat.le_of_ble_eq_true rfl) rfl ?_
      exact e_le (g_L_fits_433 BIG x2 x3 x4 x8 x9 x11 x13 x15 (-9 : Int32) (-1 : Int32) (0 : Int32) μ _ (by omega) h) ⟨rfl, rfl, rfl, rfl, rfl, rfl, rfl, rfl, rfl, rfl, rfl, rfl, rfl, trivial⟩
    · rw [if_pos hc96] at h
      refine e_aload_n dL_fits_376 rfl ?_
      refine e_iconst dL_fits_377 ci_0 ?_
      refine cI_go h (fun E99 hc97 hr100 => e_VX [.int (0 : Int32)] [] dL_fits_378 rfl rfl rfl rfl ⟨Nat.le_of_ble_eq_true rfl, rfl⟩ (Nat.le_of_ble_eq_true rfl) (by omega) ⟨(0 : Int32), rfl, hc97⟩ rfl ⟨hr100.symm, rfl⟩) (fun v101 μ98 hc97 h => ?_)
      refine e_VI [.int (0 : Int32)] [] dL_fits_378 rfl rfl rfl rfl ⟨Nat.le_of_ble_eq_true rfl, rfl⟩ (Nat.le_of_ble_eq_true rfl) ⟨(0 : Int32), rfl, hc97⟩ ?_
      refine e_lload dL_fits_381 rfl ?_
      refine cI_go h (fun E104 hc102 hr105 => e_SX [.long x4] [.int v101] dL_fits_383 rfl (by decide) rfl rfl (Nat.le_of_ble_eq_true rfl) (by omega) ⟨x4, rfl, hc102⟩ rfl ⟨hr105.symm, rfl⟩) (fun v106 μ103 hc102 h => ?_)
      refine e_SI [.long x4] [.int v101] dL_fits_383 rfl (by decide) rfl rfl (Nat.le_of_ble_eq_true rfl) ⟨x4, rfl, hc102⟩ ?_
      refine e_ic_ne (tgt := 421) dL_fits_386 rfl (fun hc107 => ?_) (fun hc107 => ?_)
      · rw [if_neg hc107] at h
        refine e_iconst dL_fits_421 ci_0 ?_
        exact e_iret .boolean dL_fits_422 rfl rfl (ret_eq h)
      · rw [if_pos hc107] at h
        refine e_aload_n dL_fits_389 rfl ?_
        refine e_iconst dL_fits_390 ci_0 ?_
        refine cJ_go h (fun E110 hc108 hr111 => e_SX [.ref 0, .int (0 : Int32)] [] dL_fits_391 rfl (by decide) rfl rfl (Nat.le_of_ble_eq_true rfl) (by omega) ⟨(0 : Int32), rfl, hc108⟩ rfl ⟨hr111.symm, rfl⟩) (fun v112 μ109 hc108 h => ?_)
        refine e_SJ [.ref 0, .int (0 : Int32)] [] dL_fits_391 rfl (by decide) rfl rfl (Nat.le_of_ble_eq_true rfl) ⟨(0 : Int32), rfl, hc108⟩ ?_
        refine e_lload dL_fits_394 rfl ?_
        refine e_lcmp dL_fits_396 ?_
        refine e_if_ne (tgt := 421) dL_fits_397 rfl (fun hc113 => ?_) (fun hc113 => ?_)
        · rw [if_neg hc113] at h
          refine e_iconst dL_fits_421 ci_0 ?_
          exact e_iret .boolean dL_fits_422 rfl rfl (ret_eq h)
        · rw [if_pos hc113] at h
          refine e_aload_n dL_fits_400 rfl ?_
          refine cI_go h (fun E116 hc114 hr117 => e_VX [] [] dL_fits_401 rfl rfl rfl rfl ⟨Nat.le_of_ble_eq_true rfl, rfl⟩ (Nat.le_of_ble_eq_true rfl) (by omega) ⟨rfl, hc114⟩ rfl ⟨hr117.symm, rfl⟩) (fun v118 μ115 hc114 h => ?_)
          refine e_VI [] [] dL_fits_401 rfl rfl rfl rfl ⟨Nat.le_of_ble_eq_true rfl, rfl⟩ (Nat.le_of_ble_eq_true rfl) ⟨rfl, hc114⟩ ?_
          refine e_bipush dL_fits_404 cb_m9 ?_
          refine e_ic_ne (tgt := 421) dL_fits_406 rfl (fun hc119 => ?_) (fun hc119 => ?_)
          · rw [if_neg hc119] at h
            refine e_iconst dL_fits_421 ci_0 ?_
            exact e_iret .boolean dL_fits_422 rfl rfl (ret_eq h)
          · rw [if_pos hc119] at h
            refine e_aload_n dL_fits_409 rfl ?_
            refine cI_go h (fun E122 hc120 hr123 => e_SX [.ref 0] [] dL_fits_410 rfl (by decide) rfl rfl (Nat.le_of_ble_eq_true rfl) (by omega) ⟨rfl, hc120⟩ rfl ⟨hr123.symm, rfl⟩) (fun v124 μ121 hc120 h => ?_)
            refine e_CI [.ref 0] [] dL_fits_410 rfl (by decide) rfl rfl (Nat.le_of_ble_eq_true rfl) (by omega) ⟨rfl, hc120⟩ ?_
            refine e_iconst dL_fits_413 ci_m1 ?_
            refine e_ic_ne (tgt := 421) dL_fits_414 rfl (fun hc125 => ?_) (fun hc125 => ?_)
            · rw [if_neg hc125] at h
              refine e_iconst dL_fits_421 ci_0 ?_
              exact e_iret .boolean dL_fits_422 rfl rfl (ret_eq h)
            · rw [if_pos hc125] at h
              refine e_iconst dL_fits_417 ci_1 ?_
              refine e_goto (tgt := 422) dL_fits_418 rfl ?_
              exact e_iret .boolean dL_fits_422 rfl rfl (ret_eq h)
  · rw [if_neg hc95] at h
    refine e_iload dL_fits_193 rfl ?_
    refine e_if_ne (tgt := 206) dL_fits_195 rfl (fun hc126 => ?_) (fun hc126 => ?_)
    · rw [if_neg hc126] at h
      refine e_aload_n dL_fits_206 rfl ?_
      refine cI_go h (fun E129 hc127 hr130 => e_SX [.ref 0] [] dL_fits_207 rfl (by decide) rfl rfl (Nat.le_of_ble_eq_true rfl) (by omega) ⟨rfl, hc127⟩ rfl ⟨hr130.symm, rfl⟩) (fun v131 μ128 hc127 h => ?_)
      refine e_CI [.ref 0] [] dL_fits_207 rfl (by decide) rfl rfl (Nat.le_of_ble_eq_true rfl) (by omega) ⟨rfl, hc127⟩ ?_
      exact e_le (g_L_fits_210 hk174 x2 x3 x4 x6 x8 x9 x11 x13 x15 x16 v131 μ128 _ (by omega) h) ⟨rfl, rfl, rfl, rfl, rfl, rfl, rfl, rfl, rfl, rfl, rfl, rfl, trivial⟩
    · rw [if_pos hc126] at h
      refine e_aload_n dL_fits_198 rfl ?_
      refine e_iconst dL_fits_199 ci_0 ?_
      refine cI_go h (fun E134 hc132 hr135 => e_SX [.ref 0, .int (0 : Int32)] [] dL_fits_200 rfl (by decide) rfl rfl (Nat.le_of_ble_eq_true rfl) (by omega) ⟨(0 : Int32), rfl, hc132⟩ rfl ⟨hr135.symm, rfl⟩) (fun v136 μ133 hc132 h => ?_)
      refine e_CI [.ref 0, .int (0 : Int32)] [] dL_fits_200 rfl (by decide) rfl rfl (Nat.le_of_ble_eq_true rfl) (by omega) ⟨(0 : Int32), rfl, hc132⟩ ?_
      refine e_goto (tgt := 210) dL_fits_203 rfl ?_
      exact e_le (g_L_fits_210 hk174 x2 x3 x4 x6 x8 x9 x11 x13 x15 x16 v136 μ133 _ (by omega) h) ⟨rfl, rfl, rfl, rfl, rfl, rfl, rfl, rfl, rfl, rfl, rfl, rfl, trivial⟩
set_option maxHeartbeats 4000000 in
theorem g_L_fits_174 {r : Res} {μ' : Mem} : ∀ n : Nat, ∀ (x2 : Int32) (x3 : Int32) (x4 : Int64) (x6 : Int64) (x8 : Int32) (x9 : Int64) (x11 : Int64) (x13 : Int64) (x15 : Int32) (x16 : Int32), ∀ (μ : Mem) (b : Nat), n + 12 ≤ b → f_L_fits_174 n x2 x3 x4 x6 x8 x9 x11 x13 x15 x16 μ = some (r, μ') → G mL_fits (Qe r μ') 174 [some (.ref 0), some (.ref 29), some (.int x2), some (.int x3), some (.long x4), none, some (.long x6), none, some (.int x8), some (.long x9), none, some (.long x11), none, some (.long x13), none, some (.int x15), some (.int x16), none, none, none, none, none, none] [] μ b := by
  intro n
  induction n with
  | zero => intro x2 x3 x4 x6 x8 x9 x11 x13 x15 x16 μ b hb9 h; exact nomatch (show (none : Out) = some _ from h)
  | succ n ih =>
    intro x2 x3 x4 x6 x8 x9 x11 x13 x15 x16 μ b hb9 h
    rw [f_L_fits_174.eq_2] at h
    refine e_iload dL_fits_174 rfl ?_
    refine e_iload dL_fits_176 rfl ?_
    refine e_bipush dL_fits_178 cb_100 ?_
    refine e_ic_ge (tgt := 188) dL_fits_180 rfl (fun hc94 => ?_) (fun hc94 => ?_)
    · rw [if_pos hc94] at h
      refine e_bipush dL_fits_188 cb_6 ?_
      exact e_le (g_L_fits_190 ih x2 x3 x4 x6 x8 x9 x11 x13 x15 x16 (6 : Int32) x16 μ _ (by omega) h) ⟨rfl, rfl, rfl, rfl, rfl, rfl, rfl, rfl, rfl, rfl, rfl, rfl, trivial⟩
    · rw [if_neg hc94] at h
      refine e_iload dL_fits_183 rfl ?_
      refine e_goto (tgt := 190) dL_fits_185 rfl ?_
      exact e_le (g_L_fits_190 ih x2 x3 x4 x6 x8 x9 x11 x13 x15 x16 x8 x16 μ _ (by omega) h) ⟨rfl, rfl, rfl, rfl, rfl, rfl, rfl, rfl, rfl, rfl, rfl, rfl, trivial⟩
set_option maxHeartbeats 4000000 in
theorem b_L_fits {r : Res} {μ' : Mem} (μ : Mem) (h : F_L_fitsB μ = some (r, μ')) : G mL_fits (Qe r μ') 5 [some (.ref 0), some (.ref 29), none, none, none, none, none, none, none, none, none, none, none, none, none, none, none, none, none, none, none, none, none] [] μ (1 * BIG + 12) := by
  unfold F_L_fitsB at h
  have hb9 : 1 * BIG + 12 ≤ 1 * BIG + 12 := Nat.le_refl _
  refine e_aload_n dL_fits_5 rfl ?_
  refine e_iconst dL_fits_6 ci_0 ?_
  refine cI_go h (fun E3 hc1 hr4 => e_VX [.int (0 : Int32)] [] dL_fits_7 rfl rfl rfl rfl ⟨Nat.le_of_ble_eq_true rfl, rfl⟩ (Nat.le_of_ble_eq_true rfl) (by omega) ⟨(0 : Int32), rfl, hc1⟩ rfl ⟨hr4.symm, rfl⟩) (fun v5 μ2 hc1 h => ?_)
  refine e_VI [.int (0 : Int32)] [] dL_fits_7 rfl rfl rfl rfl ⟨Nat.le_of_ble_eq_true rfl, rfl⟩ (Nat.le_of_ble_eq_true rfl) ⟨(0 : Int32), rfl, hc1⟩ ?_
  refine e_istore_nL [some (.ref 0), some (.ref 29), some (.int v5), none, none, none, none, none, none, none, none, none, none, none, none, none, none, none, none, none, none, none, none] dL_fits_10 (Nat.le_of_ble_eq_true rfl) rfl ?_
  refine e_aload_n dL_fits_11 rfl ?_
  refine e_iconst dL_fits_12 ci_1 ?_
  refine cI_go h (fun E8 hc6 hr9 => e_VX [.int (1 : Int32)] [] dL_fits_13 rfl rfl rfl rfl ⟨Nat.le_of_ble_eq_true rfl, rfl⟩ (Nat.le_of_ble_eq_true rfl) (by omega) ⟨(1 : Int32), rfl, hc6⟩ rfl ⟨hr9.symm, rfl⟩) (fun v10 μ7 hc6 h => ?_)
  refine e_VI [.int (1 : Int32)] [] dL_fits_13 rfl rfl rfl rfl ⟨Nat.le_of_ble_eq_true rfl, rfl⟩ (Nat.le_of_ble_eq_true rfl) ⟨(1 : Int32), rfl, hc6⟩ ?_
  refine e_istore_nL [some (.ref 0), some (.ref 29), some (.int v5), some (.int v10), none, none, none, none, none, none, none, none, none, none, none, none, none, none, none, none, none, none, none] dL_fits_16 (Nat.le_of_ble_eq_true rfl) rfl ?_
  refine e_aload_n dL_fits_17 rfl ?_
  refine e_iconst dL_fits_18 ci_0 ?_
  refine cJ_go h (fun E13 hc11 hr14 => e_SX [.ref 0, .int (0 : Int32)] [] dL_fits_19 rfl (by decide) rfl rfl (Nat.le_of_ble_eq_true rfl) (by omega) ⟨(0 : Int32), rfl, hc11⟩ rfl ⟨hr14.symm, rfl⟩) (fun v15 μ12 hc11 h => ?_)
  refine e_SJ [.ref 0, .int (0 : Int32)] [] dL_fits_19 rfl (by decide) rfl rfl (Nat.le_of_ble_eq_true rfl) ⟨(0 : Int32), rfl, hc11⟩ ?_
  refine e_lstoreL [some (.ref 0), some (.ref 29), some (.int v5), some (.int v10), some (.long v15), none, none, none, none, none, none, none, none, none, none, none, none, none, none, none, none, none, none] dL_fits_22 (Nat.le_of_ble_eq_true rfl) rfl ?_
  refine e_aload_n dL_fits_24 rfl ?_
  refine e_iconst dL_fits_25 ci_1 ?_
  refine cJ_go h (fun E18 hc16 hr19 => e_SX [.ref 0, .int (1 : Int32)] [] dL_fits_26 rfl (by decide) rfl rfl (Nat.le_of_ble_eq_true rfl) (by omega) ⟨(1 : Int32), rfl, hc16⟩ rfl ⟨hr19.symm, rfl⟩) (fun v20 μ17 hc16 h => ?_)
  refine e_SJ [.ref 0, .int (1 : Int32)] [] dL_fits_26 rfl (by decide) rfl rfl (Nat.le_of_ble_eq_true rfl) ⟨(1 : Int32), rfl, hc16⟩ ?_
  refine e_lstoreL [some (.ref 0), some (.ref 29), some (.int v5), some (.int v10), some (.long v15), none, some (.long v20), none, none, none, none, none, none, none, none, none, none, none, none, none, none, none, none] dL_fits_29 (Nat.le_of_ble_eq_true rfl) rfl ?_
  refine e_aload_n dL_fits_31 rfl ?_
  refine cI_go h (fun E23 hc21 hr24 => e_VX [] [] dL_fits_32 rfl rfl rfl rfl ⟨Nat.le_of_ble_eq_true rfl, rfl⟩ (Nat.le_of_ble_eq_true rfl) (by omega) ⟨rfl, hc21⟩ rfl ⟨hr24.symm, rfl⟩) (fun v25 μ22 hc21 h => ?_)
  refine e_VI [] [] dL_fits_32 rfl rfl rfl rfl ⟨Nat.le_of_ble_eq_true rfl, rfl⟩ (Nat.le_of_ble_eq_true rfl) ⟨rfl, hc21⟩ ?_
  refine e_istoreL [some (.ref 0), some (.ref 29), some (.int v5), some (.int v10), some (.long v15), none, some (.long v20), none, some (.int v25), none, none, none, none, none, none, none, none, none, none, none, none, none, none] dL_fits_35 (Nat.le_of_ble_eq_true rfl) rfl ?_
  refine e_iload dL_fits_37 rfl ?_
  refine e_if_lt (tgt := 62) dL_fits_39 rfl (fun hc26 => ?_) (fun hc26 => ?_)
  · rw [if_pos hc26] at h
    refine e_iconst dL_fits_62 ci_0 ?_
    exact e_iret .boolean dL_fits_63 rfl rfl (ret_eq h)
  · rw [if_neg hc26] at h
    refine e_iload dL_fits_42 rfl ?_
    refine e_bipush dL_fits_44 cb_100 ?_
    refine e_ic_gt (tgt := 62) dL_fits_46 rfl (fun hc27 => ?_) (fun hc27 => ?_)
    · rw [if_pos hc27] at h
      refine e_iconst dL_fits_62 ci_0 ?_
      exact e_iret .boolean dL_fits_63 rfl rfl (ret_eq h)
    · rw [if_neg hc27] at h
      refine e_aload_n dL_fits_49 rfl ?_
      refine e_iconst dL_fits_50 ci_0 ?_
      refine cI_go h (fun E30 hc28 hr31 => e_VX [.int (0 : Int32)] [] dL_fits_51 rfl rfl rfl rfl ⟨Nat.le_of_ble_eq_true rfl, rfl⟩ (Nat.le_of_ble_eq_true rfl) (by omega) ⟨(0 : Int32), rfl, hc28⟩ rfl ⟨hr31.symm, rfl⟩) (fun v32 μ29 hc28 h => ?_)
      refine e_VI [.int (0 : Int32)] [] dL_fits_51 rfl rfl rfl rfl ⟨Nat.le_of_ble_eq_true rfl, rfl⟩ (Nat.le_of_ble_eq_true rfl) ⟨(0 : Int32), rfl, hc28⟩ ?_
      refine e_aload_n dL_fits_54 rfl ?_
      refine e_iconst dL_fits_55 ci_2 ?_
      refine cI_go h (fun E35 hc33 hr36 => e_VX [.int (2 : Int32)] [.int v32] dL_fits_56 rfl rfl rfl rfl ⟨Nat.le_of_ble_eq_true rfl, rfl⟩ (Nat.le_of_ble_eq_true rfl) (by omega) ⟨(2 : Int32), rfl, hc33⟩ rfl ⟨hr36.symm, rfl⟩) (fun v37 μ34 hc33 h => ?_)
      refine e_VI [.int (2 : Int32)] [.int v32] dL_fits_56 rfl rfl rfl rfl ⟨Nat.le_of_ble_eq_true rfl, rfl⟩ (Nat.le_of_ble_eq_true rfl) ⟨(2 : Int32), rfl, hc33⟩ ?_
      refine e_ic_eq (tgt := 64) dL_fits_59 rfl (fun hc38 => ?_) (fun hc38 => ?_)
      · rw [if_pos hc38] at h
        refine e_iload dL_fits_64 rfl ?_
        refine e_if_ne (tgt := 155) dL_fits_66 rfl (fun hc39 => ?_) (fun hc39 => ?_)
        · rw [if_neg hc39] at h
          refine e_lload dL_fits_155 rfl ?_
          refine e_lstoreL [some (.ref 0), some (.ref 29), some (.int v5), some (.int v10), some (.long v15), none, some (.long v20), none, some (.int v25), some (.long v15), none, none, none, none, none, none, none, none, none, none, none, none, none] dL_fits_157 (Nat.le_of_ble_eq_true rfl) rfl ?_
          refine e_ldc2 (v := (-1 : Int64)) dL_fits_159 rfl ?_
          refine e_lstoreL [some (.ref 0), some (.ref 29), some (.int v5), some (.int v10), some (.long v15), none, some (.long v20), none, some (.int v25), some (.long v15), none, some (.long (-1 : Int64)), none, none, none, none, none, none, none, none, none, none, none] dL_fits_162 (Nat.le_of_ble_eq_true rfl) rfl ?_
          refine e_lconst (v := (0 : Int64)) dL_fits_164 rfl ?_
          refine e_lstoreL [some (.ref 0), some (.ref 29), some (.int v5), some (.int v10), some (.long v15), none, some (.long v20), none, some (.int v25), some (.long v15), none, some (.long (-1 : Int64)), none, some (.long (0 : Int64)), none, none, none, none, none, none, none, none, none] dL_fits_165 (Nat.le_of_ble_eq_true rfl) rfl ?_
          refine e_bipush dL_fits_167 cb_36 ?_
          refine e_istoreL [some (.ref 0), some (.ref 29), some (.int v5), some (.int v10), some (.long v15), none, some (.long v20), none, some (.int v25), some (.long v15), none, some (.long (-1 : Int64)), none, some (.long (0 : Int64)), none, some (.int (36 : Int32)), none, none, none, none, none, none, none] dL_fits_169 (Nat.le_of_ble_eq_true rfl) rfl ?_
          refine e_iconst dL_fits_171 ci_0 ?_
          refine e_istoreL [some (.ref 0), some (.ref 29), some (.int v5), some (.int v10), some (.long v15), none, some (.long v20), none, some (.int v25), some (.long v15), none, some (.long (-1 : Int64)), none, some (.long (0 : Int64)), none, some (.int (36 : Int32)), some (.int (0 : Int32)), none, none, none, none, none, none] dL_fits_172 (Nat.le_of_ble_eq_true rfl) rfl ?_
          exact e_le (g_L_fits_174 BIG v5 v10 v15 v20 v25 v15 (-1 : Int64) (0 : Int64) (36 : Int32) (0 : Int32) μ34 _ (by omega) h) ⟨rfl, rfl, rfl, rfl, rfl, rfl, rfl, rfl, rfl, rfl, rfl, rfl, trivial⟩
        · rw [if_pos hc39] at h
          refine e_aload_n dL_fits_69 rfl ?_
          refine e_iconst dL_fits_70 ci_1 ?_
          refine cI_go h (fun E42 hc40 hr43 => e_VX [.int (1 : Int32)] [] dL_fits_71 rfl rfl rfl rfl ⟨Nat.le_of_ble_eq_true rfl, rfl⟩ (Nat.le_of_ble_eq_true rfl) (by omega) ⟨(1 : Int32), rfl, hc40⟩ rfl ⟨hr43.symm, rfl⟩) (fun v44 μ41 hc40 h => ?_)
          refine e_VI [.int (1 : Int32)] [] dL_fits_71 rfl rfl rfl rfl ⟨Nat.le_of_ble_eq_true rfl, rfl⟩ (Nat.le_of_ble_eq_true rfl) ⟨(1 : Int32), rfl, hc40⟩ ?_
          refine e_if_ne (tgt := 153) dL_fits_74 rfl (fun hc45 => ?_) (fun hc45 => ?_)
          · rw [if_neg hc45] at h
            refine e_iconst dL_fits_153 ci_0 ?_
            exact e_iret .boolean dL_fits_154 rfl rfl (ret_eq h)
          · rw [if_pos hc45] at h
            refine e_aload_n dL_fits_77 rfl ?_
            refine e_iconst dL_fits_78 ci_0 ?_
            refine cI_go h (fun E48 hc46 hr49 => e_VX [.int (0 : Int32)] [] dL_fits_79 rfl rfl rfl rfl ⟨Nat.le_of_ble_eq_true rfl, rfl⟩ (Nat.le_of_ble_eq_true rfl) (by omega) ⟨(0 : Int32), rfl, hc46⟩ rfl ⟨hr49.symm, rfl⟩) (fun v50 μ47 hc46 h => ?_)
            refine e_VI [.int (0 : Int32)] [] dL_fits_79 rfl rfl rfl rfl ⟨Nat.le_of_ble_eq_true rfl, rfl⟩ (Nat.le_of_ble_eq_true rfl) ⟨(0 : Int32), rfl, hc46⟩ ?_
            refine e_if_ne (tgt := 153) dL_fits_82 rfl (fun hc51 => ?_) (fun hc51 => ?_)
            · rw [if_neg hc51] at h
              refine e_iconst dL_fits_153 ci_0 ?_
              exact e_iret .boolean dL_fits_154 rfl rfl (ret_eq h)
            · rw [if_pos hc51] at h
              refine e_aload_n dL_fits_85 rfl ?_
              refine cI_go h (fun E54 hc52 hr55 => e_VX [] [] dL_fits_86 rfl rfl rfl rfl ⟨Nat.le_of_ble_eq_true rfl, rfl⟩ (Nat.le_of_ble_eq_true rfl) (by omega) ⟨rfl, hc52⟩ rfl ⟨hr55.symm, rfl⟩) (fun v56 μ53 hc52 h => ?_)
              refine e_VI [] [] dL_fits_86 rfl rfl rfl rfl ⟨Nat.le_of_ble_eq_true rfl, rfl⟩ (Nat.le_of_ble_eq_true rfl) ⟨rfl, hc52⟩ ?_
              refine e_bipush dL_fits_89 cb_m9 ?_
              refine e_ic_ne (tgt := 153) dL_fits_91 rfl (fun hc57 => ?_) (fun hc57 => ?_)
              · rw [if_neg hc57] at h
                refine e_iconst dL_fits_153 ci_0 ?_
                exact e_iret .boolean dL_fits_154 rfl rfl (ret_eq h)
              · rw [if_pos hc57] at h
                refine e_aload_n dL_fits_94 rfl ?_
                refine e_iconst dL_fits_95 ci_4 ?_
                refine cJ_go h (fun E60 hc58 hr61 => e_SX [.ref 0, .int (4 : Int32)] [] dL_fits_96 rfl (by decide) rfl rfl (Nat.le_of_ble_eq_true rfl) (by omega) ⟨(4 : Int32), rfl, hc58⟩ rfl ⟨hr61.symm, rfl⟩) (fun v62 μ59 hc58 h => ?_)
                refine e_SJ [.ref 0, .int (4 : Int32)] [] dL_fits_96 rfl (by decide) rfl rfl (Nat.le_of_ble_eq_true rfl) ⟨(4 : Int32), rfl, hc58⟩ ?_
                refine e_lconst (v := (0 : Int64)) dL_fits_99 rfl ?_
                refine e_lcmp dL_fits_100 ?_
                refine e_if_ne (tgt := 153) dL_fits_101 rfl (fun hc63 => ?_) (fun hc63 => ?_)
                · rw [if_neg hc63] at h
                  refine e_iconst dL_fits_153 ci_0 ?_
                  exact e_iret .boolean dL_fits_154 rfl rfl (ret_eq h)
                · rw [if_pos hc63] at h
                  refine e_aload_n dL_fits_104 rfl ?_
                  refine e_iconst dL_fits_105 ci_0 ?_
                  refine cI_go h (fun E66 hc64 hr67 => e_SX [.ref 0, .int (0 : Int32)] [] dL_fits_106 rfl (by decide) rfl rfl (Nat.le_of_ble_eq_true rfl) (by omega) ⟨(0 : Int32), rfl, hc64⟩ rfl ⟨hr67.symm, rfl⟩) (fun v68 μ65 hc64 h => ?_)
                  refine e_CI [.ref 0, .int (0 : Int32)] [] dL_fits_106 rfl (by decide) rfl rfl (Nat.le_of_ble_eq_true rfl) (by omega) ⟨(0 : Int32), rfl, hc64⟩ ?_
                  refine e_iconst dL_fits_109 ci_m1 ?_
                  refine e_ic_ne (tgt := 153) dL_fits_110 rfl (fun hc69 => ?_) (fun hc69 => ?_)
                  · rw [if_neg hc69] at h
                    refine e_iconst dL_fits_153 ci_0 ?_
                    exact e_iret .boolean dL_fits_154 rfl rfl (ret_eq h)
                  · rw [if_pos hc69] at h
                    refine e_aload_n dL_fits_113 rfl ?_
                    refine e_iconst dL_fits_114 ci_1 ?_
                    refine cI_go h (fun E72 hc70 hr73 => e_SX [.ref 0, .int (1 : Int32)] [] dL_fits_115 rfl (by decide) rfl rfl (Nat.le_of_ble_eq_true rfl) (by omega) ⟨(1 : Int32), rfl, hc70⟩ rfl ⟨hr73.symm, rfl⟩) (fun v74 μ71 hc70 h => ?_)
                    refine e_CI [.ref 0, .int (1 : Int32)] [] dL_fits_115 rfl (by decide) rfl rfl (Nat.le_of_ble_eq_true rfl) (by omega) ⟨(1 : Int32), rfl, hc70⟩ ?_
                    refine e_iconst dL_fits_118 ci_m1 ?_
                    refine e_ic_ne (tgt := 153) dL_fits_119 rfl (fun hc75 => ?_) (fun hc75 => ?_)
                    · rw [if_neg hc75] at h
                      refine e_iconst dL_fits_153 ci_0 ?_
                      exact e_iret .boolean dL_fits_154 rfl rfl (ret_eq h)
                    · rw [if_pos hc75] at h
                      refine e_aload_n dL_fits_122 rfl ?_
                      refine cI_go h (fun E78 hc76 hr79 => e_SX [.ref 0] [] dL_fits_123 rfl (by decide) rfl rfl (Nat.le_of_ble_eq_true rfl) (by omega) ⟨rfl, hc76⟩ rfl ⟨hr79.symm, rfl⟩) (fun v80 μ77 hc76 h => ?_)
                      refine e_CI [.ref 0] [] dL_fits_123 rfl (by decide) rfl rfl (Nat.le_of_ble_eq_true rfl) (by omega) ⟨rfl, hc76⟩ ?_
                      refine e_iconst dL_fits_126 ci_m1 ?_
                      refine e_ic_ne (tgt := 153) dL_fits_127 rfl (fun hc81 => ?_) (fun hc81 => ?_)
                      · rw [if_neg hc81] at h
                        refine e_iconst dL_fits_153 ci_0 ?_
                        exact e_iret .boolean dL_fits_154 rfl rfl (ret_eq h)
                      · rw [if_pos hc81] at h
                        refine e_aload_n dL_fits_130 rfl ?_
                        refine cI_go h (fun E84 hc82 hr85 => e_SX [.ref 0] [] dL_fits_131 rfl (by decide) rfl rfl (Nat.le_of_ble_eq_true rfl) (by omega) ⟨rfl, hc82⟩ rfl ⟨hr85.symm, rfl⟩) (fun v86 μ83 hc82 h => ?_)
                        refine e_CI [.ref 0] [] dL_fits_131 rfl (by decide) rfl rfl (Nat.le_of_ble_eq_true rfl) (by omega) ⟨rfl, hc82⟩ ?_
                        refine e_iconst dL_fits_134 ci_m1 ?_
                        refine e_ic_ne (tgt := 153) dL_fits_135 rfl (fun hc87 => ?_) (fun hc87 => ?_)
                        · rw [if_neg hc87] at h
                          refine e_iconst dL_fits_153 ci_0 ?_
                          exact e_iret .boolean dL_fits_154 rfl rfl (ret_eq h)
                        · rw [if_pos hc87] at h
                          refine e_aload_n dL_fits_138 rfl ?_
                          refine e_iconst dL_fits_139 ci_0 ?_
                          refine cJ_go h (fun E90 hc88 hr91 => e_SX [.ref 0, .int (0 : Int32)] [] dL_fits_140 rfl (by decide) rfl rfl (Nat.le_of_ble_eq_true rfl) (by omega) ⟨(0 : Int32), rfl, hc88⟩ rfl ⟨hr91.symm, rfl⟩) (fun v92 μ89 hc88 h => ?_)
                          refine e_SJ [.ref 0, .int (0 : Int32)] [] dL_fits_140 rfl (by decide) rfl rfl (Nat.le_of_ble_eq_true rfl) ⟨(0 : Int32), rfl, hc88⟩ ?_
                          refine e_lload dL_fits_143 rfl ?_
                          refine e_lcmp dL_fits_145 ?_
                          refine e_if_ne (tgt := 153) dL_fits_146 rfl (fun hc93 => ?_) (fun hc93 => ?_)
                          · rw [if_neg hc93] at h
                            refine e_iconst dL_fits_153 ci_0 ?_
                            exact e_iret .boolean dL_fits_154 rfl rfl (ret_eq h)
                          · rw [if_pos hc93] at h
                            refine e_iconst dL_fits_149 ci_1 ?_
                            refine e_goto (tgt := 154) dL_fits_150 rfl ?_
                            exact e_iret .boolean dL_fits_154 rfl rfl (ret_eq h)
      · rw [if_neg hc38] at h
        refine e_iconst dL_fits_62 ci_0 ?_
        exact e_iret .boolean dL_fits_63 rfl rfl (ret_eq h)
set_option maxRecDepth 20000 in
theorem ok_L_fits (l : Launch) (hl : l.stackTraces = false) : MOK l yL_fits.cls 9 210 mL_fits := ⟨lk_all (List.forall_mem_cons.mpr ⟨⟨yX7_solve, cX7_solve, 2, (some .int), 6, 141, by decide, by decide, t_1 1 rfl rfl, hd_X7_solve, Or.inr (Or.inl ⟨rfl, sc_X7_solve l hl, t_3 232 rfl rfl, t_3 229 rfl rfl, t_3 230 rfl rfl, _, rfl, t_3 231 rfl rfl⟩)⟩, List.forall_mem_cons.mpr ⟨⟨yX7_nearest, cX7_nearest, 2, (some .int), 7, 168, by decide, by decide, t_1 1 rfl rfl, hd_X7_nearest, Or.inr (Or.inl ⟨rfl, sc_X7_nearest l hl, t_3 72 rfl rfl, t_3 69 rfl rfl, t_3 70 rfl rfl, _, rfl, t_3 71 rfl rfl⟩)⟩, List.forall_mem_cons.mpr ⟨⟨yX7_about, cX7_about, 2, (some .int), 6, 90, by decide, by decide, t_1 1 rfl rfl, hd_X7_about, Or.inr (Or.inl ⟨rfl, sc_X7_about l hl, t_1 148 rfl rfl, t_1 145 rfl rfl, t_1 146 rfl rfl, _, rfl, t_1 147 rfl rfl⟩)⟩, List.forall_mem_cons.mpr ⟨⟨yL_bits, cL_bits, 6, (some .long), 8, 145, by decide, by decide, t_1 0 rfl rfl, hd_L_bits, Or.inl ⟨rfl, sc_L_bits l hl, t_3 132 rfl rfl, t_3 130 rfl rfl, t_3 131 rfl rfl⟩⟩, List.forall_mem_cons.mpr ⟨⟨yL_ones, cL_ones, 4, (some .int), 1, 0, by decide, by decide, t_1 0 rfl rfl, hd_L_ones, Or.inl ⟨rfl, sc_L_ones l hl, t_3 145 rfl rfl, t_3 143 rfl rfl, t_3 144 rfl rfl⟩⟩, List.forall_mem_cons.mpr ⟨⟨yX7_howMany, cX7_howMany, 1, (some .int), 7, 167, by decide, by decide, t_1 1 rfl rfl, hd_X7_howMany, Or.inr (Or.inl ⟨rfl, sc_X7_howMany l hl, t_3 43 rfl rfl, t_3 40 rfl rfl, t_3 41 rfl rfl, _, rfl, t_3 42 rfl rfl⟩)⟩, List.forall_mem_cons.mpr ⟨⟨yX7_save, cX7_save, 2, (some .int), 7, 111, by decide, by decide, t_1 1 rfl rfl, hd_X7_save, Or.inr (Or.inl ⟨rfl, sc_X7_save l hl, t_3 203 rfl rfl, t_3 200 rfl rfl, t_3 201 rfl rfl, _, rfl, t_3 202 rfl rfl⟩)⟩, List.forall_mem_cons.mpr ⟨⟨yX7_sure, cX7_sure, 4, (some .int), 6, 120, by decide, by decide, t_1 1 rfl rfl, hd_X7_sure, Or.inr (Or.inl ⟨rfl, sc_X7_sure l hl, t_3 63 rfl rfl, t_3 60 rfl rfl, t_3 61 rfl rfl, _, rfl, t_3 62 rfl rfl⟩)⟩, List.forall_mem_cons.mpr ⟨⟨yX7_split, cX7_split, 2, (some .int), 7, 168, by decide, by decide, t_1 1 rfl rfl, hd_X7_split, Or.inr (Or.inl ⟨rfl, sc_X7_split l hl, t_3 217 rfl rfl, t_3 214 rfl rfl, t_3 215 rfl rfl, _, rfl, t_3 216 rfl rfl⟩)⟩, List.forall_mem_cons.mpr ⟨⟨yL_solveOr, cL_solveOr, 3, (some .int), 7, 162, by decide, by decide, t_1 0 rfl rfl, hd_L_solveOr, Or.inr (Or.inr (Or.inr (Or.inl ⟨rfl, _, sc_L_solveOr l hl, t_3 228 rfl rfl, t_3 226 rfl rfl, t_3 227 rfl rfl⟩)))⟩, List.forall_mem_cons.mpr ⟨⟨yL_nextOr, cL_nextOr, 2, (some .int), 7, 165, by decide, by decide, t_1 0 rfl rfl, hd_L_nextOr, Or.inr (Or.inr (Or.inr (Or.inl ⟨rfl, _, sc_L_nextOr l hl, t_4 1 rfl rfl, t_3 239 rfl rfl, t_4 0 rfl rfl⟩)))⟩, List.forall_mem_cons.mpr ⟨⟨yL_nearestOr, cL_nearestOr, 2, (some .int), 8, 189, by decide, by decide, t_1 0 rfl rfl, hd_L_nearestOr, Or.inr (Or.inr (Or.inr (Or.inl ⟨rfl, _, sc_L_nearestOr l hl, t_4 13 rfl rfl, t_4 11 rfl rfl, t_4 12 rfl rfl⟩)))⟩, List.forall_mem_cons.mpr ⟨⟨yX7_restore, cX7_restore, 2, (some .int), 7, 111, by decide, by decide, t_1 1 rfl rfl, hd_X7_restore, Or.inr (Or.inl ⟨rfl, sc_X7_restore l hl, t_4 17 rfl rfl, t_4 14 rfl rfl, t_4 15 rfl rfl, _, rfl, t_4 16 rfl rfl⟩)⟩, nil_all⟩⟩⟩⟩⟩⟩⟩⟩⟩⟩⟩⟩⟩), fun ix ci j h => lk_all (P := fun ix q => FldOK yL_fits.cls ix q.1 q.2) (nil_all) ix (ci, j) h, lk_all (nil_all), lk_all (List.forall_mem_cons.mpr ⟨t_3 180 rfl rfl, nil_all⟩), lk_all (nil_all)⟩
theorem hd_L_fits : CallHd yL_fits 1 := ⟨by decide +kernel, by decide +kernel, by decide +kernel⟩
/-- the world with the law's own array -/
def rho9 (ρ : Nat → Nat) (q : Nat) : Nat → Nat := fun k => if k = 29 then q else if k = FLG then 1 else ρ k
theorem rho9_lt (ρ : Nat → Nat) (q : Nat) {k : Nat} (h : k < 29) : rho9 ρ q k = ρ k := by
  unfold rho9
  rw [if_neg (by omega), if_neg (by show ¬ k = 1000; omega)]
theorem rho9_np (ρ : Nat → Nat) (q : Nat) : np (rho9 ρ q) = 30 := rfl
theorem rfS_lt (k j : Nat) : rfS k j < 29 := by
  unfold rfS
  have h : ∀ x ∈ rfL k, x < 29 := by
    unfold rfL
    split <;> decide
  by_cases hj : j < (rfL k).length
  · rw [List.getD_eq_getElem?_getD, List.getElem?_eq_getElem hj]
    exact h _ (List.getElem_mem hj)
  · rw [List.getD_eq_getElem?_getD, List.getElem?_eq_none (by omega)]; exact (by decide : (0 : Nat) < 29)
theorem fv_rho9 (ρ : Nat → Nat) (q : Nat) (μ : Mem) (k j t : Nat) : fv (rho9 ρ q) μ k j t = fv ρ μ k j t := by
  unfold fv
  split
  · rfl
  · rfl
  · rw [rho9_lt _ _ (rfS_lt k j)]
theorem fvs_rho9 (ρ : Nat → Nat) (q : Nat) (μ : Mem) (k : Nat) : ∀ (l : List Nat) (i : Nat), fvs (rho9 ρ q) μ k i l = fvs ρ μ k i l
  | [], _ => rfl
  | t :: ts, i => by simp only [fvs, fv_rho9, fvs_rho9 ρ q μ k ts (i + 1)]
theorem rC_rho9 (ca : Nat → ClassId) (ρ : Nat → Nat) (q : Nat) (μ : Mem) (k : Nat) : rC ca (rho9 ρ q) μ k = rC ca ρ μ k := by
  have e : (fun j => some (rho9 ρ q (clm (μ.2.2 k j)))) = (fun j => some (ρ (clm (μ.2.2 k j)))) := funext fun j => by rw [rho9_lt _ _ (clm_29 _)]
  unfold rC
  split
  · rw [fvs_rho9]
  · unfold aC
    rw [e]
theorem rW_rho9 (ca : Nat → ClassId) {ρ : Nat → Nat} (h29 : np ρ = 29) (q : Nat) (μ : Mem) : rW ca ρ μ ++ [(q, .inl (ca 0, 36, .inl (fun _ => (0 : Int32))))] = rW ca (rho9 ρ q) (z29 μ) := by
  apply List.ext_getElem?
  intro j
  have hl : (rW ca ρ μ).length = 29 := by simp [rW, h29]
  by_cases hj : j < 29
  · rw [List.getElem?_append_left (by omega), rW_get ca ρ μ (by omega), rW_get ca (rho9 ρ q) (z29 μ) (by rw [rho9_np]; omega), rho9_lt _ _ hj, rC_rho9]
    rw [rC_congr (μ := μ) (μ' := z29 μ) (funext fun a => if_neg (by omega)) rfl rfl]
  · by_cases hj2 : j = 29
    · subst hj2
      rw [List.getElem?_append_right (by omega), rW_get ca (rho9 ρ q) (z29 μ) (by rw [rho9_np]; omega), hl]
      rfl
    · rw [List.getElem?_eq_none (by simp [hl]; omega), List.getElem?_eq_none (by simp [rW, rho9_np]; omega)]
theorem rW_back {ca : Nat → ClassId} {D : va_G} {ρ : Nat → Nat} (h29 : np ρ = 29) (q : Nat) (μ : Mem) (H : Heap) (h : va_P D vwCl (rW ca (rho9 ρ q) μ) H) : va_P D vwCl (rW ca ρ μ) H := by
  intro k x hx
  obtain ⟨hk, rfl⟩ := rW_of hx
  refine h k _ ?_
  rw [rW_get ca (rho9 ρ q) μ (by rw [rho9_np]; omega), rho9_lt _ _ (by omega), rC_rho9]
theorem ca_int {D : va_G} {tys : List (ClassId × FieldType)} {s : State} {c1 c2 : ClassId} (hK : va_K D vwCl tys s) (i j : Nat) (h1 : tys[i]? = some (c1, .int)) (h2 : tys[j]? = some (c2, .int)) : c1 = c2 := by
  have a := (hK.2 i _ h1).2
  have b := (hK.2 j _ h2).2
  exact Option.some.inj (a.symm.trans b)
theorem HL_29 {ρ : Nat → Nat} {q : Nat} {ls : Array Slot} (h : lv_has ls 23 [(1, .ref q), (0, .ref (ρ 0))]) : HL (rho9 ρ q) ls 23 (some (.ref 0) :: some (.ref 29) :: List.replicate (23 - 2) none) := by
  refine ⟨rfl, _, h, fun j v hv => ?_⟩
  match j with
  | 0 =>
    cases hv
    rw [show rvv (rho9 ρ q) (.ref 0) = .ref (ρ 0) from congrArg Value.ref (rho9_lt ρ q (by decide))]
    simp
  | 1 =>
    cases hv
    rw [show rvv (rho9 ρ q) (.ref 29) = .ref q from rfl]
    simp
  | n + 2 =>
    simp only [List.getElem?_cons_succ, List.getElem?_replicate] at hv
    split at hv <;> cases hv
set_option maxHeartbeats 4000000 in
theorem sc_L_fits (l : Launch) (hl : l.stackTraces = false) : SConF l yL_fits cL_fits 23 (some .boolean) 9 210 (1 * BIG + 19) Γ_L_fits := by
  intro ca D ρ as μ r μ' sz h29 hΓ
  obtain ⟨rfl, hF⟩ := hΓ
  refine vx_ofW (cc := cL_fits) (maxL := 23) (ret := some .boolean) (by decide +kernel) rfl ?_
  intro p e s m args below meth c s₁ B hml htab hv
  obtain ⟨rfl, hsz, hP, hK, hDD, hV⟩ := hv
  obtain ⟨n, hgo⟩ := b_L_fits (z29 μ) hF
  rw [lg_entry_eq]
  have hx := B.exec
  have hb := B.bytes
  have hts0 := atoms_spec (ws := .code yL_fits cL_fits 23 (some .boolean) :: TB) B.pre
  have hts : ∀ w ∈ TB, w.before (rvl ρ [.ref 0]).toArray s = true := fun w hw => hts0 w (List.mem_cons_of_mem _ hw)
  have hD : va_D (AA ρ sz) (rW ca ρ μ) := va_D_of hDD (fun k hk => Or.inl ⟨k, hk, rfl⟩)
  have hA : ∀ q, s.heap.size ≤ q → AA ρ sz q := fun q h => Or.inr (by omega)
  have hS : va_S (AA ρ sz) s.heap s.heap [] := va_S.rf
  have hl0 := lv_entry (rvl ρ [.ref 0]) (n := 23) (Nat.le_of_ble_eq_true rfl)
  generalize (lg_sl (rvl ρ [.ref 0]) ++ List.replicate (23 - (lg_sl (rvl ρ [.ref 0])).length) Slot.unset).toArray = ls at hl0 ⊢
  have hl1 : lv_has ls 23 [(0, .ref (ρ 0))] := hl0
  refine lv_bipush (v := 36) hx hb dL_fits_0 (by decide) ?_
  refine va_newa (atype := .int) hx hb (hts _ (t_1 144 rfl rfl)) (ty := .int) rfl hK hP hD hS hA (N' := 36) (a0 := (36, .inl (fun _ => (0 : Int32)))) (fun _ => rfl) (by decide) rfl (Nat.le_of_ble_eq_true rfl) (by show 0 + 1 ≤ 1 * BIG + 19; omega) (by show 0 + 36 ≤ 6 * (1 * BIG + 19); omega) dL_fits_2 (fun q cA H hK1 hP1 hD1 hS1 => ?_)
  refine lv_astore_n (lv' := [(1, .ref q), (0, .ref (ρ 0))]) hx hb dL_fits_4 rfl hl1 (by decide) rfl (fun ls hl9 => ?_)
  have ec : cA = ca 0 := ca_int hK1 5 0 rfl rfl
  subst ec
  rw [rW_rho9 ca h29 q μ] at hP1 hD1
  have hDD9 : DD (rho9 ρ q) := fun i j hi hj h => hD1.1 i j _ _ (rW_get ca _ _ hi) (rW_get ca _ _ hj) h
  have hA9 : ∀ x, AA (rho9 ρ q) sz x → AA ρ sz x := fun x hx9 => by
    rcases hx9 with ⟨k, hk, rfl⟩ | h
    · exact hD1.2 k _ (rW_get ca _ _ hk)
    · exact Or.inr h
  have hS9 : va_S (AA (rho9 ρ q) sz) s.heap H [] := ⟨hS1.1, fun x h1 h2 => hS1.2.1 x h1 (fun w => by
    rcases w with ⟨k, hk, rfl⟩ | h
    · exact h2 (Or.inl ⟨k, by rw [rho9_np]; omega, (rho9_lt ρ q (by omega)).symm⟩)
    · exact h2 (Or.inr h)), fun z hz => absurd hz List.not_mem_nil⟩
  refine W.widen (k := 0 + 7) (n := 0 + 6 * 7) (by omega) (by omega) ?_
  have h0 := scon_run mL_fits cls_ok hl rfl rfl (ok_L_fits l hl) rfl (ca := ca) (D := D) (ρ := ρ) (ρ' := rho9 ρ q) (U := 1 * BIG + 19) B hml htab hsz hK hDD9 hV (by rw [rho9_np]; decide) (fun h => absurd h (by decide)) (fun L xs h => nomatch h) (rW_back h29 q) hA9 n 5 _ [] (z29 μ) (1 * BIG + 12) H [] ls 7 hgo (by omega) hP1 hS9 (HL_29 hl9)
  exact h0
