def f_L_law_180 (L : Nat) (xs : Nat → Int32) (k134 : Int32 → Int32 → Int32 → Mem → Out) (k153 : Int32 → Int32 → Int32 → Int32 → Int32 → Mem → Out) (x2 : Int32) (x3 : Int32) (x4 : Int32) (x5 : Int32) (x6 : Int32) (s0 : Int32) (s1 : Int32) (s2 : Int32) (μ : Mem) : Out := cI (F_X7_fill s2 s1 s0 μ) (fun v309 μ306 => if v309 = 0 then (if ((shrI x5 ((6 : Int32) + ((2 : Int32) * x6))) &&& (3 : Int32)) = (3 : Int32) then (cI (F_X7_pin x4 x6 (1 : Int32) μ306) (fun v317 μ314 => if v317 = 0 then (lt (x6 + (1 : Int32)) (fun v319 => k153 x2 x3 x4 x5 v319 μ314)) else (rI (0 : Int32) μ314))) else (lt (x6 + (1 : Int32)) (fun v312 => k153 x2 x3 x4 x5 v312 μ306))) else (rI (0 : Int32) μ306))
def f_L_law_153 (L : Nat) (xs : Nat → Int32) (k134 : Int32 → Int32 → Int32 → Mem → Out) : Nat → Int32 → Int32 → Int32 → Int32 → Int32 → Mem → Out
  | 0, _, _, _, _, _, _ => none
  | n + 1, x2, x3, x4, x5, x6, μ => if x3 ≤ x6 then (lt (x4 + (1 : Int32)) (fun v147 => k134 x2 x3 v147 μ)) else (if ((shrI x5 x6) &&& (1 : Int32)) = (1 : Int32) then (f_L_law_180 L xs k134 (f_L_law_153 L xs k134 n) x2 x3 x4 x5 x6 (1 : Int32) x6 x4 μ) else (f_L_law_180 L xs k134 (f_L_law_153 L xs k134 n) x2 x3 x4 x5 x6 (0 : Int32) x6 x4 μ))
def f_L_law_439 (L : Nat) (xs : Nat → Int32) (k334 : Int32 → Int32 → Int32 → Mem → Out) (x2 : Int32) (x3 : Int32) (x6 : Int32) (x11 : Int32) (s0 : Int32) (s1 : Int32) (s2 : Int32) (μ : Mem) : Out := cI (F_X7_fill s2 s1 s0 μ) (fun v333 μ330 => if v333 = x11 then (lt (x6 + (1 : Int32)) (fun v335 => k334 x2 x3 v335 μ330)) else (rI (0 : Int32) μ330))
def f_L_law_417 (L : Nat) (xs : Nat → Int32) (k334 : Int32 → Int32 → Int32 → Mem → Out) (x2 : Int32) (x3 : Int32) (x6 : Int32) (x8 : Int32) (x9 : Int32) (x10 : Int32) (s0 : Int32) (μ : Mem) : Out := if x10 = 0 then (lt (x6 + (1 : Int32)) (fun v327 => k334 x2 x3 v327 μ)) else (if s0 = 0 then (f_L_law_439 L xs k334 x2 x3 x6 s0 (1 : Int32) x9 x8 μ) else (f_L_law_439 L xs k334 x2 x3 x6 s0 (0 : Int32) x9 x8 μ))
def f_L_law_397 (L : Nat) (xs : Nat → Int32) (k334 : Int32 → Int32 → Int32 → Mem → Out) (x2 : Int32) (x3 : Int32) (x6 : Int32) (x8 : Int32) (x9 : Int32) (s0 : Int32) (μ : Mem) : Out := cI (F_X7_cell x8 x9 (0 : Int32) μ) (fun v324 μ321 => if v324 = (1 : Int32) then (f_L_law_417 L xs k334 x2 x3 x6 x8 x9 s0 (1 : Int32) μ321) else (f_L_law_417 L xs k334 x2 x3 x6 x8 x9 s0 (0 : Int32) μ321))
def f_L_law_334 (L : Nat) (xs : Nat → Int32) : Nat → Int32 → Int32 → Int32 → Mem → Out
  | 0, _, _, _, _ => none
  | n + 1, x2, x3, x6, μ => cI (F_L_cell L xs (7 : Int32) μ) (fun v153 μ150 => cI (F_L_up (shrI v153 (3 : Int32)) (4 : Int32) μ150) (fun v158 μ155 => if v158 ≤ x6 then (cI (F_L_cell L xs (15 : Int32) μ155) (fun v164 μ161 => cI (F_L_sound v164 μ161) (fun v169 μ166 => if v169 = 0 then (rI (0 : Int32) μ166) else (cJ (F_L_bits (0 : Int32) μ166) (fun v175 μ172 => cJ (F_L_bits (1 : Int32) μ172) (fun v180 μ177 => cI (F_X7_howMany μ177) (fun v185 μ182 => cI (F_X7_line (0 : Int32) (1 : Int32) μ182) (fun v190 μ187 => cI (F_X7_turn μ187) (fun v195 μ192 => if v195 = x3 then (cI (F_L_lines μ192) (fun v201 μ198 => if v201 = 0 then (rI (0 : Int32) μ198) else (cI (F_X7_howMany μ198) (fun v207 μ204 => if v207 = v185 then (cI (F_X7_about (0 : Int32) μ204) (fun v213 μ210 => cI (F_X7_about (1 : Int32) μ210) (fun v218 μ215 => cI (F_X7_line ((v213 + v218) - (1 : Int32)) (1 : Int32) μ215) (fun v223 μ220 => if v223 = v190 then (cI (F_X7_turn μ220) (fun v229 μ226 => if v229 = x2 then (cI (F_X7_turn μ226) (fun v235 μ232 => if v235 = x3 then (cI (F_X7_turn μ232) (fun v241 μ238 => if v241 = x2 then (cJ (F_L_bits (0 : Int32) μ238) (fun v247 μ244 => if (lg_cmp v247 v175) = 0 then (cJ (F_L_bits (1 : Int32) μ244) (fun v253 μ250 => if (lg_cmp v253 v180) = 0 then (cI (F_X7_howMany μ250) (fun v259 μ256 => if v259 = v185 then (cI (F_L_undoOr μ256) (fun v265 μ262 => if v265 < 0 then (rI (0 : Int32) μ262) else (cI (F_X7_about (0 : Int32) μ262) (fun v271 μ268 => if v271 = x3 then (cI (F_L_cell L xs (16 : Int32) μ268) (fun v277 μ274 => cI (F_L_sound v277 μ274) (fun v282 μ279 => if v282 = 0 then (rI (0 : Int32) μ279) else (rI (1 : Int32) μ279)))) else (rI (0 : Int32) μ268))))) else (rI (0 : Int32) μ256))) else (rI (0 : Int32) μ250))) else (rI (0 : Int32) μ244))) else (rI (0 : Int32) μ238))) else (rI (0 : Int32) μ232))) else (rI (0 : Int32) μ226))) else (rI (0 : Int32) μ220))))) else (rI (0 : Int32) μ204))))) else (rI (0 : Int32) μ192)))))))))) else (cI (F_L_cell L xs ((11 : Int32) + x6) μ155) (fun v288 μ285 => cI (F_L_up v288 x2 μ285) (fun v293 μ290 => cI (F_L_up (shrI v288 (4 : Int32)) x3 μ290) (fun v298 μ295 => cI (F_X7_cell v293 v298 (1 : Int32) μ295) (fun v303 μ300 => if v303 = 0 then (f_L_law_397 L xs (f_L_law_334 L xs n) x2 x3 x6 v293 v298 (1 : Int32) μ300) else (f_L_law_397 L xs (f_L_law_334 L xs n) x2 x3 x6 v293 v298 (0 : Int32) μ300))))))))
def f_L_law_260 (L : Nat) (xs : Nat → Int32) : Nat → Int32 → Int32 → Int32 → Int32 → Mem → Out
  | 0, _, _, _, _, _ => none
  | n + 1, x2, x3, x4, x6, μ => cI (F_L_cell L xs (7 : Int32) μ) (fun v112 μ109 => cI (F_L_up v112 (3 : Int32) μ109) (fun v117 μ114 => if v117 ≤ x6 then (f_L_law_334 L xs BIG x2 x3 (0 : Int32) μ114) else (cI (F_L_cell L xs ((8 : Int32) + x6) μ114) (fun v123 μ120 => cI (F_L_up v123 x4 μ120) (fun v128 μ125 => cI (F_X7_line v128 (1 : Int32) μ125) (fun v133 μ130 => cI (F_L_up (shrI v123 (5 : Int32)) (4 : Int32) μ130) (fun v138 μ135 => cI (F_X7_want v128 v138 μ135) (fun v143 μ140 => if v143 = v133 then (lt (x6 + (1 : Int32)) (fun v145 => f_L_law_260 L xs n x2 x3 x4 v145 μ140)) else (rI (0 : Int32) μ140)))))))))
def f_L_law_134 (L : Nat) (xs : Nat → Int32) : Nat → Int32 → Int32 → Int32 → Mem → Out
  | 0, _, _, _, _ => none
  | n + 1, x2, x3, x4, μ => if x2 ≤ x4 then (lt (x2 + x3) (fun v90 => cI (F_X7_wantAll μ) (fun v95 μ92 => cI (F_X7_about (6 : Int32) μ92) (fun v100 μ97 => if v100 = 0 then (if v95 ≤ v90 then (f_L_law_260 L xs BIG x2 x3 v90 (0 : Int32) μ97) else (rI (0 : Int32) μ97)) else (rI (0 : Int32) μ97))))) else (cI (F_L_cell L xs ((1 : Int32) + x4) μ) (fun v107 μ104 => f_L_law_153 L xs (f_L_law_134 L xs n) BIG x2 x3 x4 v107 (0 : Int32) μ104))
def F_L_law (L : Nat) (xs : Nat → Int32) (μ : Mem) : Out := cI (F_X7_about (0 : Int32) μ) (fun v5 μ2 => if v5 = (3 : Int32) then (cI (F_X7_about (1 : Int32) μ2) (fun v11 μ8 => if v11 = (3 : Int32) then (cI (F_X7_about (2 : Int32) μ8) (fun v17 μ14 => if v17 = 0 then (cI (F_X7_howMany μ14) (fun v23 μ20 => if v23 = (1 : Int32) then (cI (F_X7_sure (0 : Int32) μ20) (fun v29 μ26 => if v29 = (9 : Int32) then (cI (F_X7_nearest μ26) (fun v35 μ32 => if v35 = 0 then (cI (F_X7_bestExchange μ32) (fun v41 μ38 => if v41 = (-9 : Int32) then (cI (F_L_undoOr μ38) (fun v47 μ44 => if v47 = (-1 : Int32) then (cI (F_X7_wantAll μ44) (fun v53 μ50 => if v53 = 0 then (cI (F_L_undoOr μ50) (fun v59 μ56 => if v59 = 0 then (cI (F_L_cell L xs (0 : Int32) μ56) (fun v65 μ62 => cI (F_L_up v65 (6 : Int32) μ62) (fun v70 μ67 => lt ((1 : Int32) + v70) (fun v71 => cI (F_L_cell L xs (0 : Int32) μ67) (fun v76 μ73 => cI (F_L_up (shrI v76 (3 : Int32)) (6 : Int32) μ73) (fun v81 μ78 => lt ((1 : Int32) + v81) (fun v82 => cI (F_X7_resize v71 v82 μ78) (fun v87 μ84 => if v87 = 0 then (f_L_law_134 L xs BIG v71 v82 (0 : Int32) μ84) else (rI (0 : Int32) μ84))))))))) else (rI (0 : Int32) μ56))) else (rI (0 : Int32) μ50))) else (rI (0 : Int32) μ44))) else (rI (0 : Int32) μ38))) else (rI (0 : Int32) μ32))) else (rI (0 : Int32) μ26))) else (rI (0 : Int32) μ20))) else (rI (0 : Int32) μ14))) else (rI (0 : Int32) μ8))) else (rI (0 : Int32) μ2))
def mL_law (L : Nat) (xs : Nat → Int32) : MI := (cL_law, [(21, (1, 0, 1, 5, Γ_X7_nearest)), (27, (1, 1, 1, 5, Γ_X7_about)), (30, (1, 3, 1, 5, Γ_X7_cell)), (34, (0, 2, 1, 0, Γ_L_bits)), (44, (1, 2, 1, 5, Γ_X7_line)), (63, (1, 0, 0, 5, Γ_X7_bestExchange)), (66, (0, 2, 0, 0, Γ_L_up)), (73, (0, 1, 1, 0, Γ_L_lines)), (77, (1, 0, 0, 5, Γ_X7_howMany)), (83, (1, 1, 0, 5, Γ_X7_sure)), (118, (3, 1, 1, 0, Γ_L_undoOr)), (121, (1, 0, 0, 5, Γ_X7_wantAll)), (124, (5, 2, 0, 0, Γ_L_cell L xs)), (127, (1, 2, 1, 5, Γ_X7_resize)), (130, (1, 3, 1, 5, Γ_X7_fill)), (134, (1, 3, 1, 5, Γ_X7_pin)), (137, (1, 2, 1, 5, Γ_X7_want)), (140, (6, 2, 1 * BIG + 31, 0, Γ_L_sound)), (143, (1, 0, 0, 5, Γ_X7_turn))], [], [], [], [], [], (129, some (L, xs)), (some .boolean))
theorem np_L_law (L : Nat) (xs : Nat → Int32) : 0 < mNP (mL_law L xs) := by
  show 0 < 129 % 100
  decide
theorem fl_L_law (L : Nat) (xs : Nat → Int32) : 100 ≤ mFl (mL_law L xs) := by
  show 100 ≤ 129
  decide
set_option maxHeartbeats 4000000 in
theorem g_L_law_180 {r : Res} {μ' : Mem} (L : Nat) (xs : Nat → Int32) {k134 : Int32 → Int32 → Int32 → Mem → Out} {k153 : Int32 → Int32 → Int32 → Int32 → Int32 → Mem → Out} (hk134 : ∀ (x2 : Int32) (x3 : Int32) (x4 : Int32), ∀ (μ : Mem) (b : Nat), 2 * BIG + 75 ≤ b → k134 x2 x3 x4 μ = some (r, μ') → G (mL_law L xs) (Qe r μ') 134 [some (.ref SCR), some (.ref 0), some (.int x2), some (.int x3), some (.int x4), none, none, none, none, none, none, none] [] μ b) (hk153 : ∀ (x2 : Int32) (x3 : Int32) (x4 : Int32) (x5 : Int32) (x6 : Int32), ∀ (μ : Mem) (b : Nat), 2 * BIG + 75 ≤ b → k153 x2 x3 x4 x5 x6 μ = some (r, μ') → G (mL_law L xs) (Qe r μ') 153 [some (.ref SCR), some (.ref 0), some (.int x2), some (.int x3), some (.int x4), some (.int x5), some (.int x6), none, none, none, none, none] [] μ b) : ∀ (x2 : Int32) (x3 : Int32) (x4 : Int32) (x5 : Int32) (x6 : Int32) (s0 : Int32) (s1 : Int32) (s2 : Int32), ∀ (μ : Mem) (b : Nat), 2 * BIG + 75 ≤ b → f_L_law_180 L xs k134 k153 x2 x3 x4 x5 x6 s0 s1 s2 μ = some (r, μ') → G (mL_law L xs) (Qe r μ') 180 [some (.ref SCR), some (.ref 0), some (.int x2), some (.int x3), some (.int x4), some (.int x5), some (.int x6), none, none, none, none, none] [.int s0, .int s1, .int s2, .ref 0] μ b := by
  intro x2 x3 x4 x5 x6 s0 s1 s2 μ b hb9 h
  unfold f_L_law_180 at h
  refine cI_go h (fun E307 hc305 hr308 => e_VX [.int s2, .int s1, .int s0] [] dL_law_180 rfl rfl rfl rfl ⟨np_L_law L xs, rfl⟩ (Nat.le_of_ble_eq_true rfl) (by omega) ⟨s2, s1, s0, rfl, hc305⟩ rfl ⟨hr308.symm, rfl⟩) (fun v309 μ306 hc305 h => ?_)
  refine e_VI [.int s2, .int s1, .int s0] [] dL_law_180 rfl rfl rfl rfl ⟨np_L_law L xs, rfl⟩ (Nat.le_of_ble_eq_true rfl) ⟨s2, s1, s0, rfl, hc305⟩ ?_
  refine e_if_ne (tgt := 214) dL_law_183 rfl (fun hc310 => ?_) (fun hc310 => ?_)
  · rw [if_neg hc310] at h
    refine e_iconst dL_law_214 ci_0 ?_
    exact e_iret .boolean dL_law_215 rfl rfl (ret_eq h)
  · rw [if_pos hc310] at h
    refine e_iload dL_law_186 rfl ?_
    refine e_bipush dL_law_188 cb_6 ?_
    refine e_iconst dL_law_190 ci_2 ?_
    refine e_iload dL_law_191 rfl ?_
    refine e_imul dL_law_193 ?_
    refine e_iadd dL_law_194 ?_
    refine e_ishr dL_law_195 ?_
    refine e_iconst dL_law_196 ci_3 ?_
    refine e_iand dL_law_197 ?_
    refine e_iconst dL_law_198 ci_3 ?_
    refine e_ic_ne (tgt := 216) dL_law_199 rfl (fun hc311 => ?_) (fun hc311 => ?_)
    · rw [if_neg hc311] at h
      refine e_iincN 6 (1 : Int32) dL_law_216 rfl ci_1 h (fun y9 => [some (.ref SCR), some (.ref 0), some (.int x2), some (.int x3), some (.int x4), some (.int x5), some (.int y9), none, none, none, none, none]) (fun _ => rfl) (fun v312 ev312 h => ?_)
      refine e_goto (tgt := 153) dL_law_219 rfl ?_
      exact e_le (hk153 x2 x3 x4 x5 v312 μ306 _ (by omega) h) ⟨rfl, rfl, rfl, rfl, rfl, rfl, rfl, trivial⟩
    · rw [if_pos hc311] at h
      refine e_aload_n dL_law_202 rfl ?_
      refine e_iload dL_law_203 rfl ?_
      refine e_iload dL_law_205 rfl ?_
      refine e_iconst dL_law_207 ci_1 ?_
      refine cI_go h (fun E315 hc313 hr316 => e_VX [.int x4, .int x6, .int (1 : Int32)] [] dL_law_208 rfl rfl rfl rfl ⟨np_L_law L xs, rfl⟩ (Nat.le_of_ble_eq_true rfl) (by omega) ⟨x4, x6, (1 : Int32), rfl, hc313⟩ rfl ⟨hr316.symm, rfl⟩) (fun v317 μ314 hc313 h => ?_)
      refine e_VI [.int x4, .int x6, .int (1 : Int32)] [] dL_law_208 rfl rfl rfl rfl ⟨np_L_law L xs, rfl⟩ (Nat.le_of_ble_eq_true rfl) ⟨x4, x6, (1 : Int32), rfl, hc313⟩ ?_
      refine e_if_eq (tgt := 216) dL_law_211 rfl (fun hc318 => ?_) (fun hc318 => ?_)
      · rw [if_pos hc318] at h
        refine e_iincN 6 (1 : Int32) dL_law_216 rfl ci_1 h (fun y9 => [some (.ref SCR), some (.ref 0), some (.int x2), some (.int x3), some (.int x4), some (.int x5), some (.int y9), none, none, none, none, none]) (fun _ => rfl) (fun v319 ev319 h => ?_)
        refine e_goto (tgt := 153) dL_law_219 rfl ?_
        exact e_le (hk153 x2 x3 x4 x5 v319 μ314 _ (by omega) h) ⟨rfl, rfl, rfl, rfl, rfl, rfl, rfl, trivial⟩
      · rw [if_neg hc318] at h
        refine e_iconst dL_law_214 ci_0 ?_
        exact e_iret .boolean dL_law_215 rfl rfl (ret_eq h)
set_option maxHeartbeats 4000000 in
theorem g_L_law_153 {r : Res} {μ' : Mem} (L : Nat) (xs : Nat → Int32) {k134 : Int32 → Int32 → Int32 → Mem → Out} (hk134 : ∀ (x2 : Int32) (x3 : Int32) (x4 : Int32), ∀ (μ : Mem) (b : Nat), 2 * BIG + 75 ≤ b → k134 x2 x3 x4 μ = some (r, μ') → G (mL_law L xs) (Qe r μ') 134 [some (.ref SCR), some (.ref 0), some (.int x2), some (.int x3), some (.int x4), none, none, none, none, none, none, none] [] μ b) : ∀ n : Nat, ∀ (x2 : Int32) (x3 : Int32) (x4 : Int32) (x5 : Int32) (x6 : Int32), ∀ (μ : Mem) (b : Nat), 2 * BIG + 75 ≤ b → f_L_law_153 L xs k134 n x2 x3 x4 x5 x6 μ = some (r, μ') → G (mL_law L xs) (Qe r μ') 153 [some (.ref SCR), some (.ref 0), some (.int x2), some (.int x3), some (.int x4), some (.int x5), some (.int x6), none, none, none, none, none] [] μ b := by
  intro n
  induction n with
  | zero => intro x2 x3 x4 x5 x6 μ b hb9 h; exact nomatch (show (none : Out) = some _ from h)
  | succ n ih =>
    intro x2 x3 x4 x5 x6 μ b hb9 h
    rw [f_L_law_153.eq_2] at h
    refine e_iload dL_law_153 rfl ?_
    refine e_iload_n dL_law_155 rfl ?_
    refine e_ic_ge (tgt := 222) dL_law_156 rfl (fun hc146 => ?_) (fun hc146 => ?_)
    · rw [if_pos hc146] at h
      refine e_iincN 4 (1 : Int32) dL_law_222 rfl ci_1 h (fun y9 => [some (.ref SCR), some (.ref 0), some (.int x2), some (.int x3), some (.int y9), some (.int x5), some (.int x6), none, none, none, none, none]) (fun _ => rfl) (fun v147 ev147 h => ?_)
      refine e_goto (tgt := 134) dL_law_225 rfl ?_
      exact e_le (hk134 x2 x3 v147 μ _ (by omega) h) ⟨rfl, rfl, rfl, rfl, rfl, trivial⟩
    · rw [if_neg hc146] at h
      refine e_aload_n dL_law_159 rfl ?_
      refine e_iload dL_law_160 rfl ?_
      refine e_iload dL_law_162 rfl ?_
      refine e_iload dL_law_164 rfl ?_
      refine e_iload dL_law_166 rfl ?_
      refine e_ishr dL_law_168 ?_
      refine e_iconst dL_law_169 ci_1 ?_
      refine e_iand dL_law_170 ?_
      refine e_iconst dL_law_171 ci_1 ?_
      refine e_ic_ne (tgt := 179) dL_law_172 rfl (fun hc148 => ?_) (fun hc148 => ?_)
      · rw [if_neg hc148] at h
        refine e_iconst dL_law_179 ci_0 ?_
        exact e_le (g_L_law_180 L xs hk134 ih x2 x3 x4 x5 x6 (0 : Int32) x6 x4 μ _ (by omega) h) ⟨rfl, rfl, rfl, rfl, rfl, rfl, rfl, trivial⟩
      · rw [if_pos hc148] at h
        refine e_iconst dL_law_175 ci_1 ?_
        refine e_goto (tgt := 180) dL_law_176 rfl ?_
        exact e_le (g_L_law_180 L xs hk134 ih x2 x3 x4 x5 x6 (1 : Int32) x6 x4 μ _ (by omega) h) ⟨rfl, rfl, rfl, rfl, rfl, rfl, rfl, trivial⟩
set_option maxHeartbeats 4000000 in
theorem g_L_law_439 {r : Res} {μ' : Mem} (L : Nat) (xs : Nat → Int32) {k334 : Int32 → Int32 → Int32 → Mem → Out} (hk334 : ∀ (x2 : Int32) (x3 : Int32) (x6 : Int32), ∀ (μ : Mem) (b : Nat), 2 * BIG + 75 ≤ b → k334 x2 x3 x6 μ = some (r, μ') → G (mL_law L xs) (Qe r μ') 334 [some (.ref SCR), some (.ref 0), some (.int x2), some (.int x3), none, none, some (.int x6), none, none, none, none, none] [] μ b) : ∀ (x2 : Int32) (x3 : Int32) (x6 : Int32) (x11 : Int32) (s0 : Int32) (s1 : Int32) (s2 : Int32), ∀ (μ : Mem) (b : Nat), 2 * BIG + 75 ≤ b → f_L_law_439 L xs k334 x2 x3 x6 x11 s0 s1 s2 μ = some (r, μ') → G (mL_law L xs) (Qe r μ') 439 [some (.ref SCR), some (.ref 0), some (.int x2), some (.int x3), none, none, some (.int x6), none, none, none, none, some (.int x11)] [.int s0, .int s1, .int s2, .ref 0] μ b := by
  intro x2 x3 x6 x11 s0 s1 s2 μ b hb9 h
  unfold f_L_law_439 at h
  refine cI_go h (fun E331 hc329 hr332 => e_VX [.int s2, .int s1, .int s0] [] dL_law_439 rfl rfl rfl rfl ⟨np_L_law L xs, rfl⟩ (Nat.le_of_ble_eq_true rfl) (by omega) ⟨s2, s1, s0, rfl, hc329⟩ rfl ⟨hr332.symm, rfl⟩) (fun v333 μ330 hc329 h => ?_)
  refine e_VI [.int s2, .int s1, .int s0] [] dL_law_439 rfl rfl rfl rfl ⟨np_L_law L xs, rfl⟩ (Nat.le_of_ble_eq_true rfl) ⟨s2, s1, s0, rfl, hc329⟩ ?_
  refine e_iload dL_law_442 rfl ?_
  refine e_ic_eq (tgt := 449) dL_law_444 rfl (fun hc334 => ?_) (fun hc334 => ?_)
  · rw [if_pos hc334] at h
    refine e_iincN 6 (1 : Int32) dL_law_449 rfl ci_1 h (fun y9 => [some (.ref SCR), some (.ref 0), some (.int x2), some (.int x3), none, none, some (.int y9), none, none, none, none, some (.int x11)]) (fun _ => rfl) (fun v335 ev335 h => ?_)
    refine e_goto (tgt := 334) dL_law_452 rfl ?_
    exact e_le (hk334 x2 x3 v335 μ330 _ (by omega) h) ⟨rfl, rfl, rfl, rfl, rfl, trivial⟩
  · rw [if_neg hc334] at h
    refine e_iconst dL_law_447 ci_0 ?_
    exact e_iret .boolean dL_law_448 rfl rfl (ret_eq h)
set_option maxHeartbeats 4000000 in
theorem g_L_law_417 {r : Res} {μ' : Mem} (L : Nat) (xs : Nat → Int32) {k334 : Int32 → Int32 → Int32 → Mem → Out} (hk334 : ∀ (x2 : Int32) (x3 : Int32) (x6 : Int32), ∀ (μ : Mem) (b : Nat), 2 * BIG + 75 ≤ b → k334 x2 x3 x6 μ = some (r, μ') → G (mL_law L xs) (Qe r μ') 334 [some (.ref SCR), some (.ref 0), some (.int x2), some (.int x3), none, none, some (.int x6), none, none, none, none, none] [] μ b) : ∀ (x2 : Int32) (x3 : Int32) (x6 : Int32) (x8 : Int32) (x9 : Int32) (x10 : Int32) (s0 : Int32), ∀ (μ : Mem) (b : Nat), 2 * BIG + 75 ≤ b → f_L_law_417 L xs k334 x2 x3 x6 x8 x9 x10 s0 μ = some (r, μ') → G (mL_law L xs) (Qe r μ') 417 [some (.ref SCR), some (.ref 0), some (.int x2), some (.int x3), none, none, some (.int x6), none, some (.int x8), some (.int x9), some (.int x10), none] [.int s0] μ b := by
  intro x2 x3 x6 x8 x9 x10 s0 μ b hb9 h
  unfold f_L_law_417 at h
  refine e_istoreL [some (.ref SCR), some (.ref 0), some (.int x2), some (.int x3), none, none, some (.int x6), none, some (.int x8), some (.int x9), some (.int x10), some (.int s0)] dL_law_417 (Nat.le_of_ble_eq_true rfl) rfl ?_
  refine e_iload dL_law_419 rfl ?_
  refine e_if_eq (tgt := 449) dL_law_421 rfl (fun hc326 => ?_) (fun hc326 => ?_)
  · rw [if_pos hc326] at h
    refine e_iincN 6 (1 : Int32) dL_law_449 rfl ci_1 h (fun y9 => [some (.ref SCR), some (.ref 0), some (.int x2), some (.int x3), none, none, some (.int y9), none, some (.int x8), some (.int x9), some (.int x10), some (.int s0)]) (fun _ => rfl) (fun v327 ev327 h => ?_)
    refine e_goto (tgt := 334) dL_law_452 rfl ?_
    exact e_le (hk334 x2 x3 v327 μ _ (by omega) h) ⟨rfl, rfl, rfl, rfl, rfl, trivial⟩
  · rw [if_neg hc326] at h
    refine e_aload_n dL_law_424 rfl ?_
    refine e_iload dL_law_425 rfl ?_
    refine e_iload dL_law_427 rfl ?_
    refine e_iload dL_law_429 rfl ?_
    refine e_if_ne (tgt := 438) dL_law_431 rfl (fun hc328 => ?_) (fun hc328 => ?_)
    · rw [if_neg hc328] at h
      refine e_iconst dL_law_438 ci_0 ?_
      exact e_le (g_L_law_439 L xs hk334 x2 x3 x6 s0 (0 : Int32) x9 x8 μ _ (by omega) h) ⟨rfl, rfl, rfl, rfl, rfl, rfl, trivial⟩
    · rw [if_pos hc328] at h
      refine e_iconst dL_law_434 ci_1 ?_
      refine e_goto (tgt := 439) dL_law_435 rfl ?_
      exact e_le (g_L_law_439 L xs hk334 x2 x3 x6 s0 (1 : Int32) x9 x8 μ _ (by omega) h) ⟨rfl, rfl, rfl, rfl, rfl, rfl, trivial⟩
set_option maxHeartbeats 4000000 in
theorem g_L_law_397 {r : Res} {μ' : Mem} (L : Nat) (xs : Nat → Int32) {k334 : Int32 → Int32 → Int32 → Mem → Out} (hk334 : ∀ (x2 : Int32) (x3 : Int32) (x6 : Int32), ∀ (μ : Mem) (b : Nat), 2 * BIG + 75 ≤ b → k334 x2 x3 x6 μ = some (r, μ') → G (mL_law L xs) (Qe r μ') 334 [some (.ref SCR), some (.ref 0), some (.int x2), some (.int x3), none, none, some (.int x6), none, none, none, none, none] [] μ b) : ∀ (x2 : Int32) (x3 : Int32) (x6 : Int32) (x8 : Int32) (x9 : Int32) (s0 : Int32), ∀ (μ : Mem) (b : Nat), 2 * BIG + 75 ≤ b → f_L_law_397 L xs k334 x2 x3 x6 x8 x9 s0 μ = some (r, μ') → G (mL_law L xs) (Qe r μ') 397 [some (.ref SCR), some (.ref 0), some (.int x2), some (.int x3), none, none, some (.int x6), none, some (.int x8), some (.int x9), none, none] [.int s0] μ b := by
  intro x2 x3 x6 x8 x9 s0 μ b hb9 h
  unfold f_L_law_397 at h
  refine e_istoreL [some (.ref SCR), some (.ref 0), some (.int x2), some (.int x3), none, none, some (.int x6), none, some (.int x8), some (.int x9), some (.int s0), none] dL_law_397 (Nat.le_of_ble_eq_true rfl) rfl ?_
  refine e_aload_n dL_law_399 rfl ?_
  refine e_iload dL_law_400 rfl ?_
  refine e_iload dL_law_402 rfl ?_
  refine e_iconst dL_law_404 ci_0 ?_
  refine cI_go h (fun E322 hc320 hr323 => e_VX [.int x8, .int x9, .int (0 : Int32)] [] dL_law_405 rfl rfl rfl rfl ⟨np_L_law L xs, rfl⟩ (Nat.le_of_ble_eq_true rfl) (by omega) ⟨x8, x9, (0 : Int32), rfl, hc320⟩ rfl ⟨hr323.symm, rfl⟩) (fun v324 μ321 hc320 h => ?_)
  refine e_VI [.int x8, .int x9, .int (0 : Int32)] [] dL_law_405 rfl rfl rfl rfl ⟨np_L_law L xs, rfl⟩ (Nat.le_of_ble_eq_true rfl) ⟨x8, x9, (0 : Int32), rfl, hc320⟩ ?_
  refine e_iconst dL_law_408 ci_1 ?_
  refine e_ic_ne (tgt := 416) dL_law_409 rfl (fun hc325 => ?_) (fun hc325 => ?_)
  · rw [if_neg hc325] at h
    refine e_iconst dL_law_416 ci_0 ?_
    exact e_le (g_L_law_417 L xs hk334 x2 x3 x6 x8 x9 s0 (0 : Int32) μ321 _ (by omega) h) ⟨rfl, rfl, rfl, rfl, rfl, rfl, rfl, rfl, trivial⟩
  · rw [if_pos hc325] at h
    refine e_iconst dL_law_412 ci_1 ?_
    refine e_goto (tgt := 417) dL_law_413 rfl ?_
    exact e_le (g_L_law_417 L xs hk334 x2 x3 x6 x8 x9 s0 (1 : Int32) μ321 _ (by omega) h) ⟨rfl, rfl, rfl, rfl, rfl, rfl, rfl, rfl, trivial⟩
set_option maxHeartbeats 4000000 in
theorem g_L_law_334 {r : Res} {μ' : Mem} (L : Nat) (xs : Nat → Int32) : ∀ n : Nat, ∀ (x2 : Int32) (x3 : Int32) (x6 : Int32), ∀ (μ : Mem) (b : Nat), 2 * BIG + 75 ≤ b → f_L_law_334 L xs n x2 x3 x6 μ = some (r, μ') → G (mL_law L xs) (Qe r μ') 334 [some (.ref SCR), some (.ref 0), some (.int x2), some (.int x3), none, none, some (.int x6), none, none, none, none, none] [] μ b := by
  intro n
  induction n with
  | zero => intro x2 x3 x6 μ b hb9 h; exact nomatch (show (none : Out) = some _ from h)
  | succ n ih =>
    intro x2 x3 x6 μ b hb9 h
    rw [f_L_law_334.eq_2] at h
    refine e_iload dL_law_334 rfl ?_
    refine e_aload_n dL_law_336 rfl ?_
    refine e_bipush dL_law_337 cb_7 ?_
    refine cI_go h (fun E151 hc149 hr152 => e_SX [.ref SCR, .int (7 : Int32)] [.int x6] dL_law_339 rfl (by decide) rfl rfl (Nat.le_of_ble_eq_true rfl) (by omega) ⟨(7 : Int32), rfl, hc149⟩ rfl ⟨hr152.symm, rfl⟩) (fun v153 μ150 hc149 h => ?_)
    refine e_SI [.ref SCR, .int (7 : Int32)] [.int x6] dL_law_339 rfl (by decide) rfl rfl (Nat.le_of_ble_eq_true rfl) ⟨(7 : Int32), rfl, hc149⟩ ?_
    refine e_iconst dL_law_342 ci_3 ?_
    refine e_ishr dL_law_343 ?_
    refine e_iconst dL_law_344 ci_4 ?_
    refine cI_go h (fun E156 hc154 hr157 => e_SX [.int (shrI v153 (3 : Int32)), .int (4 : Int32)] [.int x6] dL_law_345 rfl (by decide) rfl rfl (Nat.le_of_ble_eq_true rfl) (by omega) ⟨shrI v153 (3 : Int32), (4 : Int32), rfl, hc154⟩ rfl ⟨hr157.symm, rfl⟩) (fun v158 μ155 hc154 h => ?_)
    refine e_SI [.int (shrI v153 (3 : Int32)), .int (4 : Int32)] [.int x6] dL_law_345 rfl (by decide) rfl rfl (Nat.le_of_ble_eq_true rfl) ⟨shrI v153 (3 : Int32), (4 : Int32), rfl, hc154⟩ ?_
    refine e_ic_ge (tgt := 455) dL_law_348 rfl (fun hc159 => ?_) (fun hc159 => ?_)
    · rw [if_pos hc159] at h
      refine e_aload_n dL_law_455 rfl ?_
      refine e_aload_n dL_law_456 rfl ?_
      refine e_bipush dL_law_457 cb_15 ?_
      refine cI_go h (fun E162 hc160 hr163 => e_SX [.ref SCR, .int (15 : Int32)] [.ref 0] dL_law_459 rfl (by decide) rfl rfl (Nat.le_of_ble_eq_true rfl) (by omega) ⟨(15 : Int32), rfl, hc160⟩ rfl ⟨hr163.symm, rfl⟩) (fun v164 μ161 hc160 h => ?_)
      refine e_SI [.ref SCR, .int (15 : Int32)] [.ref 0] dL_law_459 rfl (by decide) rfl rfl (Nat.le_of_ble_eq_true rfl) ⟨(15 : Int32), rfl, hc160⟩ ?_
      refine cI_go h (fun E167 hc165 hr168 => e_SX [.ref 0, .int v164] [] dL_law_462 rfl (by decide) rfl rfl (Nat.le_of_ble_eq_true rfl) (by omega) ⟨v164, rfl, hc165⟩ rfl ⟨hr168.symm, rfl⟩) (fun v169 μ166 hc165 h => ?_)
      refine e_CI [.ref 0, .int v164] [] dL_law_462 rfl (by decide) rfl rfl (Nat.le_of_ble_eq_true rfl) (by omega) ⟨v164, rfl, hc165⟩ ?_
      refine e_if_ne (tgt := 470) dL_law_465 rfl (fun hc170 => ?_) (fun hc170 => ?_)
      · rw [if_neg hc170] at h
        refine e_aload_n dL_law_470 rfl ?_
        refine e_iconst dL_law_471 ci_0 ?_
        refine cJ_go h (fun E173 hc171 hr174 => e_SX [.ref 0, .int (0 : Int32)] [] dL_law_472 rfl (by decide) rfl rfl (Nat.le_of_ble_eq_true rfl) (by omega) ⟨(0 : Int32), rfl, hc171⟩ rfl ⟨hr174.symm, rfl⟩) (fun v175 μ172 hc171 h => ?_)
        refine e_SJ [.ref 0, .int (0 : Int32)] [] dL_law_472 rfl (by decide) rfl rfl (Nat.le_of_ble_eq_true rfl) ⟨(0 : Int32), rfl, hc171⟩ ?_
        refine e_lstoreL [some (.ref SCR), some (.ref 0), some (.int x2), some (.int x3), none, none, some (.long v175), none, none, none, none, none] dL_law_475 (Nat.le_of_ble_eq_true rfl) rfl ?_
        refine e_aload_n dL_law_477 rfl ?_
        refine e_iconst dL_law_478 ci_1 ?_
        refine cJ_go h (fun E178 hc176 hr179 => e_SX [.ref 0, .int (1 : Int32)] [] dL_law_479 rfl (by decide) rfl rfl (Nat.le_of_ble_eq_true rfl) (by omega) ⟨(1 : Int32), rfl, hc176⟩ rfl ⟨hr179.symm, rfl⟩) (fun v180 μ177 hc176 h => ?_)
        refine e_SJ [.ref 0, .int (1 : Int32)] [] dL_law_479 rfl (by decide) rfl rfl (Nat.le_of_ble_eq_true rfl) ⟨(1 : Int32), rfl, hc176⟩ ?_
        refine e_lstoreL [some (.ref SCR), some (.ref 0), some (.int x2), some (.int x3), none, none, some (.long v175), none, some (.long v180), none, none, none] dL_law_482 (Nat.le_of_ble_eq_true rfl) rfl ?_
        refine e_aload_n dL_law_484 rfl ?_
        refine cI_go h (fun E183 hc181 hr184 => e_VX [] [] dL_law_485 rfl rfl rfl rfl ⟨np_L_law L xs, rfl⟩ (Nat.le_of_ble_eq_true rfl) (by omega) ⟨rfl, hc181⟩ rfl ⟨hr184.symm, rfl⟩) (fun v185 μ182 hc181 h => ?_)
        refine e_VI [] [] dL_law_485 rfl rfl rfl rfl ⟨np_L_law L xs, rfl⟩ (Nat.le_of_ble_eq_true rfl) ⟨rfl, hc181⟩ ?_
        refine e_istoreL [some (.ref SCR), some (.ref 0), some (.int x2), some (.int x3), none, none, some (.long v175), none, some (.long v180), none, some (.int v185), none] dL_law_488 (Nat.le_of_ble_eq_true rfl) rfl ?_
        refine e_aload_n dL_law_490 rfl ?_
        refine e_iconst dL_law_491 ci_0 ?_
        refine e_iconst dL_law_492 ci_1 ?_
        refine cI_go h (fun E188 hc186 hr189 => e_VX [.int (0 : Int32), .int (1 : Int32)] [] dL_law_493 rfl rfl rfl rfl ⟨np_L_law L xs, rfl⟩ (Nat.le_of_ble_eq_true rfl) (by omega) ⟨(0 : Int32), (1 : Int32), rfl, hc186⟩ rfl ⟨hr189.symm, rfl⟩) (fun v190 μ187 hc186 h => ?_)
        refine e_VI [.int (0 : Int32), .int (1 : Int32)] [] dL_law_493 rfl rfl rfl rfl ⟨np_L_law L xs, rfl⟩ (Nat.le_of_ble_eq_true rfl) ⟨(0 : Int32), (1 : Int32), rfl, hc186⟩ ?_
        refine e_istoreL [some (.ref SCR), some (.ref 0), some (.int x2), some (.int x3), none, none, some (.long v175), none, some (.long v180), none, some (.int v185), some (.int v190)] dL_law_496 (Nat.le_of_ble_eq_true rfl) rfl ?_
        refine e_aload_n dL_law_498 rfl ?_
        refine cI_go h (fun E193 hc191 hr194 => e_VX [] [] dL_law_499 rfl rfl rfl rfl ⟨np_L_law L xs, rfl⟩ (Nat.le_of_ble_eq_true rfl) (by omega) ⟨rfl, hc191⟩ rfl ⟨hr194.symm, rfl⟩) (fun v195 μ192 hc191 h => ?_)
        refine e_VI [] [] dL_law_499 rfl rfl rfl rfl ⟨np_L_law L xs, rfl⟩ (Nat.le_of_ble_eq_true rfl) ⟨rfl, hc191⟩ ?_
        refine e_iload_n dL_law_502 rfl ?_
        refine e_ic_ne (tgt := 569) dL_law_503 rfl (fun hc196 => ?_) (fun hc196 => ?_)
        · rw [if_neg hc196] at h
          refine e_iconst dL_law_569 ci_0 ?_
          exact e_iret .boolean dL_law_570 rfl rfl (ret_eq h)
        · rw [if_pos hc196] at h
          refine e_aload_n dL_law_506 rfl ?_
          refine cI_go h (fun E199 hc197 hr200 => e_SX [.ref 0] [] dL_law_507 rfl (by decide) rfl rfl (Nat.le_of_ble_eq_true rfl) (by omega) ⟨rfl, hc197⟩ rfl ⟨hr200.symm, rfl⟩) (fun v201 μ198 hc197 h => ?_)
          refine e_SI [.ref 0] [] dL_law_507 rfl (by decide) rfl rfl (Nat.le_of_ble_eq_true rfl) ⟨rfl, hc197⟩ ?_
          refine e_if_eq (tgt := 569) dL_law_510 rfl (fun hc202 => ?_) (fun hc202 => ?_)
          · rw [if_pos hc202] at h
            refine e_iconst dL_law_569 ci_0 ?_
            exact e_iret .boolean dL_law_570 rfl rfl (ret_eq h)
          · rw [if_neg hc202] at h
            refine e_aload_n dL_law_513 rfl ?_
            refine cI_go h (fun E205 hc203 hr206 => e_VX [] [] dL_law_514 rfl rfl rfl rfl ⟨np_L_law L xs, rfl⟩ (Nat.le_of_ble_eq_true rfl) (by omega) ⟨rfl, hc203⟩ rfl ⟨hr206.symm, rfl⟩) (fun v207 μ204 hc203 h => ?_)
            refine e_VI [] [] dL_law_514 rfl rfl rfl rfl ⟨np_L_law L xs, rfl⟩ (Nat.le_of_ble_eq_true rfl) ⟨rfl, hc203⟩ ?_
            refine e_iload dL_law_517 rfl ?_
            refine e_ic_ne (tgt := 569) dL_law_519 rfl (fun hc208 => ?_) (fun hc208 => ?_)
            · rw [if_neg hc208] at h
              refine e_iconst dL_law_569 ci_0 ?_
              exact e_iret .boolean dL_law_570 rfl rfl (ret_eq h)
            · rw [if_pos hc208] at h
              refine e_aload_n dL_law_522 rfl ?_
              refine e_aload_n dL_law_523 rfl ?_
              refine e_iconst dL_law_524 ci_0 ?_
              refine cI_go h (fun E211 hc209 hr212 => e_VX [.int (0 : Int32)] [.ref 0] dL_law_525 rfl rfl rfl rfl ⟨np_L_law L xs, rfl⟩ (Nat.le_of_ble_eq_true rfl) (by omega) ⟨(0 : Int32), rfl, hc209⟩ rfl ⟨hr212.symm, rfl⟩) (fun v213 μ210 hc209 h => ?_)
              refine e_VI [.int (0 : Int32)] [.ref 0] dL_law_525 rfl rfl rfl rfl ⟨np_L_law L xs, rfl⟩ (Nat.le_of_ble_eq_true rfl) ⟨(0 : Int32), rfl, hc209⟩ ?_
              refine e_aload_n dL_law_528 rfl ?_
              refine e_iconst dL_law_529 ci_1 ?_
              refine cI_go h (fun E216 hc214 hr217 => e_VX [.int (1 : Int32)] [.int v213, .ref 0] dL_law_530 rfl rfl rfl rfl ⟨np_L_law L xs, rfl⟩ (Nat.le_of_ble_eq_true rfl) (by omega) ⟨(1 : Int32), rfl, hc214⟩ rfl ⟨hr217.symm, rfl⟩) (fun v218 μ215 hc214 h => ?_)
              refine e_VI [.int (1 : Int32)] [.int v213, .ref 0] dL_law_530 rfl rfl rfl rfl ⟨np_L_law L xs, rfl⟩ (Nat.le_of_ble_eq_true rfl) ⟨(1 : Int32), rfl, hc214⟩ ?_
              refine e_iadd dL_law_533 ?_
              refine e_iconst dL_law_534 ci_1 ?_
              refine e_isub dL_law_535 ?_
              refine e_iconst dL_law_536 ci_1 ?_
              refine cI_go h (fun E221 hc219 hr222 => e_VX [.int ((v213 + v218) - (1 : Int32)), .int (1 : Int32)] [] dL_law_537 rfl rfl rfl rfl ⟨np_L_law L xs, rfl⟩ (Nat.le_of_ble_eq_true rfl) (by omega) ⟨(v213 + v218) - (1 : Int32), (1 : Int32), rfl, hc219⟩ rfl ⟨hr222.symm, rfl⟩) (fun v223 μ220 hc219 h => ?_)
              refine e_VI [.int ((v213 + v218) - (1 : Int32)), .int (1 : Int32)] [] dL_law_537 rfl rfl rfl rfl ⟨np_L_law L xs, rfl⟩ (Nat.le_of_ble_eq_true rfl) ⟨(v213 + v218) - (1 : Int32), (1 : Int32), rfl, hc219⟩ ?_
              refine e_iload dL_law_540 rfl ?_
              refine e_ic_ne (tgt := 569) dL_law_542 rfl (fun hc224 => ?_) (fun hc224 => ?_)
              · rw [if_neg hc224] at h
                refine e_iconst dL_law_569 ci_0 ?_
                exact e_iret .boolean dL_law_570 rfl rfl (ret_eq h)
              · rw [if_pos hc224] at h
                refine e_aload_n dL_law_545 rfl ?_
                refine cI_go h (fun E227 hc225 hr228 => e_VX [] [] dL_law_546 rfl rfl rfl rfl ⟨np_L_law L xs, rfl⟩ (Nat.le_of_ble_eq_true rfl) (by omega) ⟨rfl, hc225⟩ rfl ⟨hr228.symm, rfl⟩) (fun v229 μ226 hc225 h => ?_)
                refine e_VI [] [] dL_law_546 rfl rfl rfl rfl ⟨np_L_law L xs, rfl⟩ (Nat.le_of_ble_eq_true rfl) ⟨rfl, hc225⟩ ?_
                refine e_iload_n dL_law_549 rfl ?_
                refine e_ic_ne (tgt := 569) dL_law_550 rfl (fun hc230 => ?_) (fun hc230 => ?_)
                · rw [if_neg hc230] at h
                  refine e_iconst dL_law_569 ci_0 ?_
                  exact e_iret .boolean dL_law_570 rfl rfl (ret_eq h)
                · rw [if_pos hc230] at h
                  refine e_aload_n dL_law_553 rfl ?_
                  refine cI_go h (fun E233 hc231 hr234 => e_VX [] [] dL_law_554 rfl rfl rfl rfl ⟨np_L_law L xs, rfl⟩ (Nat.le_of_ble_eq_true rfl) (by omega) ⟨rfl, hc231⟩ rfl ⟨hr234.symm, rfl⟩) (fun v235 μ232 hc231 h => ?_)
                  refine e_VI [] [] dL_law_554 rfl rfl rfl rfl ⟨np_L_law L xs, rfl⟩ (Nat.le_of_ble_eq_true rfl) ⟨rfl, hc231⟩ ?_
                  refine e_iload_n dL_law_557 rfl ?_
                  refine e_ic_ne (tgt := 569) dL_law_558 rfl (fun hc236 => ?_) (fun hc236 => ?_)
                  · rw [if_neg hc236] at h
                    refine e_iconst dL_law_569 ci_0 ?_
                    exact e_iret .boolean dL_law_570 rfl rfl (ret_eq h)
                  · rw [if_pos hc236] at h
                    refine e_aload_n dL_law_561 rfl ?_
                    refine cI_go h (fun E239 hc237 hr240 => e_VX [] [] dL_law_562 rfl rfl rfl rfl ⟨np_L_law L xs, rfl⟩ (Nat.le_of_ble_eq_true rfl) (by omega) ⟨rfl, hc237⟩ rfl ⟨hr240.symm, rfl⟩) (fun v241 μ238 hc237 h => ?_)
                    refine e_VI [] [] dL_law_562 rfl rfl rfl rfl ⟨np_L_law L xs, rfl⟩ (Nat.le_of_ble_eq_true rfl) ⟨rfl, hc237⟩ ?_
                    refine e_iload_n dL_law_565 rfl ?_
                    refine e_ic_eq (tgt := 571) dL_law_566 rfl (fun hc242 => ?_) (fun hc242 => ?_)
                    · rw [if_pos hc242] at h
                      refine e_aload_n dL_law_571 rfl ?_
                      refine e_iconst dL_law_572 ci_0 ?_
                      refine cJ_go h (fun E245 hc243 hr246 => e_SX [.ref 0, .int (0 : Int32)] [] dL_law_573 rfl (by decide) rfl rfl (Nat.le_of_ble_eq_true rfl) (by omega) ⟨(0 : Int32), rfl, hc243⟩ rfl ⟨hr246.symm, rfl⟩) (fun v247 μ244 hc243 h => ?_)
                      refine e_SJ [.ref 0, .int (0 : Int32)] [] dL_law_573 rfl (by decide) rfl rfl (Nat.le_of_ble_eq_true rfl) ⟨(0 : Int32), rfl, hc243⟩ ?_
                      refine e_lload dL_law_576 rfl ?_
                      refine e_lcmp dL_law_578 ?_
                      refine e_if_ne (tgt := 635) dL_law_579 rfl (fun hc248 => ?_) (fun hc248 => ?_)
                      · rw [if_neg hc248] at h
                        refine e_iconst dL_law_635 ci_0 ?_
                        exact e_iret .boolean dL_law_636 rfl rfl (ret_eq h)
                      · rw [if_pos hc248] at h
                        refine e_aload_n dL_law_582 rfl ?_
                        refine e_iconst dL_law_583 ci_1 ?_
                        refine cJ_go h (fun E251 hc249 hr252 => e_SX [.ref 0, .int (1 : Int32)] [] dL_law_584 rfl (by decide) rfl rfl (Nat.le_of_ble_eq_true rfl) (by omega) ⟨(1 : Int32), rfl, hc249⟩ rfl ⟨hr252.symm, rfl⟩) (fun v253 μ250 hc249 h => ?_)
                        refine e_SJ [.ref 0, .int (1 : Int32)] [] dL_law_584 rfl (by decide) rfl rfl (Nat.le_of_ble_eq_true rfl) ⟨(1 : Int32), rfl, hc249⟩ ?_
                        refine e_lload dL_law_587 rfl ?_
                        refine e_lcmp dL_law_589 ?_
                        refine e_if_ne (tgt := 635) dL_law_590 rfl (fun hc254 => ?_) (fun hc254 => ?_)
                        · rw [if_neg hc254] at h
                          refine e_iconst dL_law_635 ci_0 ?_
                          exact e_iret .boolean dL_law_636 rfl rfl (ret_eq h)
                        · rw [if_pos hc254] at h
                          refine e_aload_n dL_law_593 rfl ?_
                          refine cI_go h (fun E257 hc255 hr258 => e_VX [] [] dL_law_594 rfl rfl rfl rfl ⟨np_L_law L xs, rfl⟩ (Nat.le_of_ble_eq_true rfl) (by omega) ⟨rfl, hc255⟩ rfl ⟨hr258.symm, rfl⟩) (fun v259 μ256 hc255 h => ?_)
                          refine e_VI [] [] dL_law_594 rfl rfl rfl rfl ⟨np_L_law L xs, rfl⟩ (Nat.le_of_ble_eq_true rfl) ⟨rfl, hc255⟩ ?_
                          refine e_iload dL_law_597 rfl ?_
                          refine e_ic_ne (tgt := 635) dL_law_599 rfl (fun hc260 => ?_) (fun hc260 => ?_)
                          · rw [if_neg hc260] at h
                            refine e_iconst dL_law_635 ci_0 ?_
                            exact e_iret .boolean dL_law_636 rfl rfl (ret_eq h)
                          · rw [if_pos hc260] at h
                            refine e_aload_n dL_law_602 rfl ?_
                            refine cI_go h (fun E263 hc261 hr264 => e_SX [.ref 0] [] dL_law_603 rfl (by decide) rfl rfl (Nat.le_of_ble_eq_true rfl) (by omega) ⟨rfl, hc261⟩ rfl ⟨hr264.symm, rfl⟩) (fun v265 μ262 hc261 h => ?_)
                            refine e_CI [.ref 0] [] dL_law_603 rfl (by decide) rfl rfl (Nat.le_of_ble_eq_true rfl) (by omega) ⟨rfl, hc261⟩ ?_
                            refine e_if_lt (tgt := 635) dL_law_606 rfl (fun hc266 => ?_) (fun hc266 => ?_)
                            · rw [if_pos hc266] at h
                              refine e_iconst dL_law_635 ci_0 ?_
                              exact e_iret .boolean dL_law_636 rfl rfl (ret_eq h)
                            · rw [if_neg hc266] at h
                              refine e_aload_n dL_law_609 rfl ?_
                              refine e_iconst dL_law_610 ci_0 ?_
                              refine cI_go h (fun E269 hc267 hr270 => e_VX [.int (0 : Int32)] [] dL_law_611 rfl rfl rfl rfl ⟨np_L_law L xs, rfl⟩ (Nat.le_of_ble_eq_true rfl) (by omega) ⟨(0 : Int32), rfl, hc267⟩ rfl ⟨hr270.symm, rfl⟩) (fun v271 μ268 hc267 h => ?_)
                              refine e_VI [.int (0 : Int32)] [] dL_law_611 rfl rfl rfl rfl ⟨np_L_law L xs, rfl⟩ (Nat.le_of_ble_eq_true rfl) ⟨(0 : Int32), rfl, hc267⟩ ?_
                              refine e_iload_n dL_law_614 rfl ?_
                              refine e_ic_ne (tgt := 635) dL_law_615 rfl (fun hc272 => ?_) (fun hc272 => ?_)
                              · rw [if_neg hc272] at h
                                refine e_iconst dL_law_635 ci_0 ?_
                                exact e_iret .boolean dL_law_636 rfl rfl (ret_eq h)
                              · rw [if_pos hc272] at h
                                refine e_aload_n dL_law_618 rfl ?_
                                refine e_aload_n dL_law_619 rfl ?_
                                refine e_bipush dL_law_620 cb_16 ?_
                                refine cI_go h (fun E275 hc273 hr276 => e_SX [.ref SCR, .int (16 : Int32)] [.ref 0] dL_law_622 rfl (by decide) rfl rfl (Nat.le_of_ble_eq_true rfl) (by omega) ⟨(16 : Int32), rfl, hc273⟩ rfl ⟨hr276.symm, rfl⟩) (fun v277 μ274 hc273 h => ?_)
                                refine e_SI [.ref SCR, .int (16 : Int32)] [.ref 0] dL_law_622 rfl (by decide) rfl rfl (Nat.le_of_ble_eq_true rfl) ⟨(16 : Int32), rfl, hc273⟩ ?_
                                refine cI_go h (fun E280 hc278 hr281 => e_SX [.ref 0, .int v277] [] dL_law_625 rfl (by decide) rfl rfl (Nat.le_of_ble_eq_true rfl) (by omega) ⟨v277, rfl, hc278⟩ rfl ⟨hr281.symm, rfl⟩) (fun v282 μ279 hc278 h => ?_)
                                refine e_CI [.ref 0, .int v277] [] dL_law_625 rfl (by decide) rfl rfl (Nat.le_of_ble_eq_true rfl) (by omega) ⟨v277, rfl, hc278⟩ ?_
                                refine e_if_eq (tgt := 635) dL_law_628 rfl (fun hc283 => ?_) (fun hc283 => ?_)
                                · rw [if_pos hc283] at h
                                  refine e_iconst dL_law_635 ci_0 ?_
                                  exact e_iret .boolean dL_law_636 rfl rfl (ret_eq h)
                                · rw [if_neg hc283] at h
                                  refine e_iconst dL_law_631 ci_1 ?_
                                  refine e_goto (tgt := 636) dL_law_632 rfl ?_
                                  exact e_iret .boolean dL_law_636 rfl rfl (ret_eq h)
                    · rw [if_neg hc242] at h
                      refine e_iconst dL_law_569 ci_0 ?_
                      exact e_iret .boolean dL_law_570 rfl rfl (ret_eq h)
      · rw [if_pos hc170] at h
        refine e_iconst dL_law_468 ci_0 ?_
        exact e_iret .boolean dL_law_469 rfl rfl (ret_eq h)
    · rw [if_neg hc159] at h
      refine e_aload_n dL_law_351 rfl ?_
      refine e_bipush dL_law_352 cb_11 ?_
      refine e_iload dL_law_354 rfl ?_
      refine e_iadd dL_law_356 ?_
      refine cI_go h (fun E286 hc284 hr287 => e_SX [.ref SCR, .int ((11 : Int32) + x6)] [] dL_law_357 rfl (by decide) rfl rfl (Nat.le_of_ble_eq_true rfl) (by omega) ⟨(11 : Int32) + x6, rfl, hc284⟩ rfl ⟨hr287.symm, rfl⟩) (fun v288 μ285 hc284 h => ?_)
      refine e_SI [.ref SCR, .int ((11 : Int32) + x6)] [] dL_law_357 rfl (by decide) rfl rfl (Nat.le_of_ble_eq_true rfl) ⟨(11 : Int32) + x6, rfl, hc284⟩ ?_
      refine e_istoreL [some (.ref SCR), some (.ref 0), some (.int x2), some (.int x3), none, none, some (.int x6), some (.int v288), none, none, none, none] dL_law_360 (Nat.le_of_ble_eq_true rfl) rfl ?_
      refine e_iload dL_law_362 rfl ?_
      refine e_iload_n dL_law_364 rfl ?_
      refine cI_go h (fun E291 hc289 hr292 => e_SX [.int v288, .int x2] [] dL_law_365 rfl (by decide) rfl rfl (Nat.le_of_ble_eq_true rfl) (by omega) ⟨v288, x2, rfl, hc289⟩ rfl ⟨hr292.symm, rfl⟩) (fun v293 μ290 hc289 h => ?_)
      refine e_SI [.int v288, .int x2] [] dL_law_365 rfl (by decide) rfl rfl (Nat.le_of_ble_eq_true rfl) ⟨v288, x2, rfl, hc289⟩ ?_
      refine e_istoreL [some (.ref SCR), some (.ref 0), some (.int x2), some (.int x3), none, none, some (.int x6), some (.int v288), some (.int v293), none, none, none] dL_law_368 (Nat.le_of_ble_eq_true rfl) rfl ?_
      refine e_iload dL_law_370 rfl ?_
      refine e_iconst dL_law_372 ci_4 ?_
      refine e_ishr dL_law_373 ?_
      refine e_iload_n dL_law_374 rfl ?_
      refine cI_go h (fun E296 hc294 hr297 => e_SX [.int (shrI v288 (4 : Int32)), .int x3] [] dL_law_375 rfl (by decide) rfl rfl (Nat.le_of_ble_eq_true rfl) (by omega) ⟨shrI v288 (4 : Int32), x3, rfl, hc294⟩ rfl ⟨hr297.symm, rfl⟩) (fun v298 μ295 hc294 h => ?_)
      refine e_SI [.int (shrI v288 (4 : Int32)), .int x3] [] dL_law_375 rfl (by decide) rfl rfl (Nat.le_of_ble_eq_true rfl) ⟨shrI v288 (4 : Int32), x3, rfl, hc294⟩ ?_
      refine e_istoreL [some (.ref SCR), some (.ref 0), some (.int x2), some (.int x3), none, none, some (.int x6), some (.int v288), some (.int v293), some (.int v298), none, none] dL_law_378 (Nat.le_of_ble_eq_true rfl) rfl ?_
      refine e_aload_n dL_law_380 rfl ?_
      refine e_iload dL_law_381 rfl ?_
      refine e_iload dL_law_383 rfl ?_
      refine e_iconst dL_law_385 ci_1 ?_
      refine cI_go h (fun E301 hc299 hr302 => e_VX [.int v293, .int v298, .int (1 : Int32)] [] dL_law_386 rfl rfl rfl rfl ⟨np_L_law L xs, rfl⟩ (Nat.le_of_ble_eq_true rfl) (by omega) ⟨v293, v298, (1 : Int32), rfl, hc299⟩ rfl ⟨hr302.symm, rfl⟩) (fun v303 μ300 hc299 h => ?_)
      refine e_VI [.int v293, .int v298, .int (1 : Int32)] [] dL_law_386 rfl rfl rfl rfl ⟨np_L_law L xs, rfl⟩ (Nat.le_of_ble_eq_true rfl) ⟨v293, v298, (1 : Int32), rfl, hc299⟩ ?_
      refine e_if_ne (tgt := 396) dL_law_389 rfl (fun hc304 => ?_) (fun hc304 => ?_)
      · rw [if_neg hc304] at h
        refine e_iconst dL_law_396 ci_0 ?_
        exact e_le (g_L_law_397 L xs ih x2 x3 x6 v293 v298 (0 : Int32) μ300 _ (by omega) h) ⟨rfl, rfl, rfl, rfl, rfl, rfl, rfl, trivial⟩
      · rw [if_pos hc304] at h
        refine e_iconst dL_law_392 ci_1 ?_
        refine e_goto (tgt := 397) dL_law_393 rfl ?_
        exact e_le (g_L_law_397 L xs ih x2 x3 x6 v293 v298 (1 : Int32) μ300 _ (by omega) h) ⟨rfl, rfl, rfl, rfl, rfl, rfl, rfl, trivial⟩
set_option maxHeartbeats 4000000 in
theorem g_L_law_260 {r : Res} {μ' : Mem} (L : Nat) (xs : Nat → Int32) : ∀ n : Nat, ∀ (x2 : Int32) (x3 : Int32) (x4 : Int32) (x6 : Int32), ∀ (μ : Mem) (b : Nat), 2 * BIG + 75 ≤ b → f_L_law_260 L xs n x2 x3 x4 x6 μ = some (r, μ') → G (mL_law L xs) (Qe r μ') 260 [some (.ref SCR), some (.ref 0), some (.int x2), some (.int x3), some (.int x4), none, some (.int x6), none, none, none, none, none] [] μ b := by
  intro n
  induction n with
  | zero => intro x2 x3 x4 x6 μ b hb9 h; exact nomatch (show (none : Out) = some _ from h)
  | succ n ih =>
    intro x2 x3 x4 x6 μ b hb9 h
    rw [f_L_law_260.eq_2] at h
    refine e_iload dL_law_260 rfl ?_
    refine e_aload_n dL_law_262 rfl ?_
    refine e_bipush dL_law_263 cb_7 ?_
    refine cI_go h (fun E110 hc108 hr111 => e_SX [.ref SCR, .int (7 : Int32)] [.int x6] dL_law_265 rfl (by decide) rfl rfl (Nat.le_of_ble_eq_true rfl) (by omega) ⟨(7 : Int32), rfl, hc108⟩ rfl ⟨hr111.symm, rfl⟩) (fun v112 μ109 hc108 h => ?_)
    refine e_SI [.ref SCR, .int (7 : Int32)] [.int x6] dL_law_265 rfl (by decide) rfl rfl (Nat.le_of_ble_eq_true rfl) ⟨(7 : Int32), rfl, hc108⟩ ?_
    refine e_iconst dL_law_268 ci_3 ?_
    refine cI_go h (fun E115 hc113 hr116 => e_SX [.int v112, .int (3 : Int32)] [.int x6] dL_law_269 rfl (by decide) rfl rfl (Nat.le_of_ble_eq_true rfl) (by omega) ⟨v112, (3 : Int32), rfl, hc113⟩ rfl ⟨hr116.symm, rfl⟩) (fun v117 μ114 hc113 h => ?_)
    refine e_SI [.int v112, .int (3 : Int32)] [.int x6] dL_law_269 rfl (by decide) rfl rfl (Nat.le_of_ble_eq_true rfl) ⟨v112, (3 : Int32), rfl, hc113⟩ ?_
    refine e_ic_ge (tgt := 331) dL_law_272 rfl (fun hc118 => ?_) (fun hc118 => ?_)
    · rw [if_pos hc118] at h
      refine e_iconst dL_law_331 ci_0 ?_
      refine e_istoreL [some (.ref SCR), some (.ref 0), some (.int x2), some (.int x3), some (.int x4), none, some (.int (0 : Int32)), none, none, none, none, none] dL_law_332 (Nat.le_of_ble_eq_true rfl) rfl ?_
      exact e_le (g_L_law_334 L xs BIG x2 x3 (0 : Int32) μ114 _ (by omega) h) ⟨rfl, rfl, rfl, rfl, rfl, trivial⟩
    · rw [if_neg hc118] at h
      refine e_aload_n dL_law_275 rfl ?_
      refine e_bipush dL_law_276 cb_8 ?_
      refine e_iload dL_law_278 rfl ?_
      refine e_iadd dL_law_280 ?_
      refine cI_go h (fun E121 hc119 hr122 => e_SX [.ref SCR, .int ((8 : Int32) + x6)] [] dL_law_281 rfl (by decide) rfl rfl (Nat.le_of_ble_eq_true rfl) (by omega) ⟨(8 : Int32) + x6, rfl, hc119⟩ rfl ⟨hr122.symm, rfl⟩) (fun v123 μ120 hc119 h => ?_)
      refine e_SI [.ref SCR, .int ((8 : Int32) + x6)] [] dL_law_281 rfl (by decide) rfl rfl (Nat.le_of_ble_eq_true rfl) ⟨(8 : Int32) + x6, rfl, hc119⟩ ?_
      refine e_istoreL [some (.ref SCR), some (.ref 0), some (.int x2), some (.int x3), some (.int x4), none, some (.int x6), some (.int v123), none, none, none, none] dL_law_284 (Nat.le_of_ble_eq_true rfl) rfl ?_
      refine e_iload dL_law_286 rfl ?_
      refine e_iload dL_law_288 rfl ?_
      refine cI_go h (fun E126 hc124 hr127 => e_SX [.int v123, .int x4] [] dL_law_290 rfl (by decide) rfl rfl (Nat.le_of_ble_eq_true rfl) (by omega) ⟨v123, x4, rfl, hc124⟩ rfl ⟨hr127.symm, rfl⟩) (fun v128 μ125 hc124 h => ?_)
      refine e_SI [.int v123, .int x4] [] dL_law_290 rfl (by decide) rfl rfl (Nat.le_of_ble_eq_true rfl) ⟨v123, x4, rfl, hc124⟩ ?_
      refine e_istoreL [some (.ref SCR), some (.ref 0), some (.int x2), some (.int x3), some (.int x4), none, some (.int x6), some (.int v123), some (.int v128), none, none, none] dL_law_293 (Nat.le_of_ble_eq_true rfl) rfl ?_
      refine e_aload_n dL_law_295 rfl ?_
      refine e_iload dL_law_296 rfl ?_
      refine e_iconst dL_law_298 ci_1 ?_
      refine cI_go h (fun E131 hc129 hr132 => e_VX [.int v128, .int (1 : Int32)] [] dL_law_299 rfl rfl rfl rfl ⟨np_L_law L xs, rfl⟩ (Nat.le_of_ble_eq_true rfl) (by omega) ⟨v128, (1 : Int32), rfl, hc129⟩ rfl ⟨hr132.symm, rfl⟩) (fun v133 μ130 hc129 h => ?_)
      refine e_VI [.int v128, .int (1 : Int32)] [] dL_law_299 rfl rfl rfl rfl ⟨np_L_law L xs, rfl⟩ (Nat.le_of_ble_eq_true rfl) ⟨v128, (1 : Int32), rfl, hc129⟩ ?_
      refine e_istoreL [some (.ref SCR), some (.ref 0), some (.int x2), some (.int x3), some (.int x4), none, some (.int x6), some (.int v123), some (.int v128), some (.int v133), none, none] dL_law_302 (Nat.le_of_ble_eq_true rfl) rfl ?_
      refine e_aload_n dL_law_304 rfl ?_
      refine e_iload dL_law_305 rfl ?_
      refine e_iload dL_law_307 rfl ?_
      refine e_iconst dL_law_309 ci_5 ?_
      refine e_ishr dL_law_310 ?_
      refine e_iconst dL_law_311 ci_4 ?_
      refine cI_go h (fun E136 hc134 hr137 => e_SX [.int (shrI v123 (5 : Int32)), .int (4 : Int32)] [.int v128, .ref 0] dL_law_312 rfl (by decide) rfl rfl (Nat.le_of_ble_eq_true rfl) (by omega) ⟨shrI v123 (5 : Int32), (4 : Int32), rfl, hc134⟩ rfl ⟨hr137.symm, rfl⟩) (fun v138 μ135 hc134 h => ?_)
      refine e_SI [.int (shrI v123 (5 : Int32)), .int (4 : Int32)] [.int v128, .ref 0] dL_law_312 rfl (by decide) rfl rfl (Nat.le_of_ble_eq_true rfl) ⟨shrI v123 (5 : Int32), (4 : Int32), rfl, hc134⟩ ?_
      refine cI_go h (fun E141 hc139 hr142 => e_VX [.int v128, .int v138] [] dL_law_315 rfl rfl rfl rfl ⟨np_L_law L xs, rfl⟩ (Nat.le_of_ble_eq_true rfl) (by omega) ⟨v128, v138, rfl, hc139⟩ rfl ⟨hr142.symm, rfl⟩) (fun v143 μ140 hc139 h => ?_)
      refine e_VI [.int v128, .int v138] [] dL_law_315 rfl rfl rfl rfl ⟨np_L_law L xs, rfl⟩ (Nat.le_of_ble_eq_true rfl) ⟨v128, v138, rfl, hc139⟩ ?_
      refine e_iload dL_law_318 rfl ?_
      refine e_ic_eq (tgt := 325) dL_law_320 rfl (fun hc144 => ?_) (fun hc144 => ?_)
      · rw [if_pos hc144] at h
        refine e_iincN 6 (1 : Int32) dL_law_325 rfl ci_1 h (fun y9 => [some (.ref SCR), some (.ref 0), some (.int x2), some (.int x3), some (.int x4), none, some (.int y9), some (.int v123), some (.int v128), some (.int v133), none, none]) (fun _ => rfl) (fun v145 ev145 h => ?_)
        refine e_goto (tgt := 260) dL_law_328 rfl ?_
        exact e_le (ih x2 x3 x4 v145 μ140 _ (by omega) h) ⟨rfl, rfl, rfl, rfl, rfl, rfl, trivial⟩
      · rw [if_neg hc144] at h
        refine e_iconst dL_law_323 ci_0 ?_
        exact e_iret .boolean dL_law_324 rfl rfl (ret_eq h)
set_option maxHeartbeats 4000000 in
theorem g_L_law_134 {r : Res} {μ' : Mem} (L : Nat) (xs : Nat → Int32) : ∀ n : Nat, ∀ (x2 : Int32) (x3 : Int32) (x4 : Int32), ∀ (μ : Mem) (b : Nat), 2 * BIG + 75 ≤ b → f_L_law_134 L xs n x2 x3 x4 μ = some (r, μ') → G (mL_law L xs) (Qe r μ') 134 [some (.ref SCR), some (.ref 0), some (.int x2), some (.int x3), some (.int x4), none, none, none, none, none, none, none] [] μ b := by
  intro n
  induction n with
  | zero => intro x2 x3 x4 μ b hb9 h; exact nomatch (show (none : Out) = some _ from h)
  | succ n ih =>
    intro x2 x3 x4 μ b hb9 h
    rw [f_L_law_134.eq_2] at h
    refine e_iload dL_law_134 rfl ?_
    refine e_iload_n dL_law_136 rfl ?_
    refine e_ic_ge (tgt := 228) dL_law_137 rfl (fun hc89 => ?_) (fun hc89 => ?_)
    · rw [if_pos hc89] at h
      refine e_iload_n dL_law_228 rfl ?_
      refine e_iload_n dL_law_229 rfl ?_
      refine e_iadd dL_law_230 ?_
      refine e_naI h (fun v90 ev90 h => ?_)
      refine e_istoreL [some (.ref SCR), some (.ref 0), some (.int x2), some (.int x3), some (.int v90), none, none, none, none, none, none, none] dL_law_231 (Nat.le_of_ble_eq_true rfl) rfl ?_
      refine e_aload_n dL_law_233 rfl ?_
      refine cI_go h (fun E93 hc91 hr94 => e_VX [] [] dL_law_234 rfl rfl rfl rfl ⟨np_L_law L xs, rfl⟩ (Nat.le_of_ble_eq_true rfl) (by omega) ⟨rfl, hc91⟩ rfl ⟨hr94.symm, rfl⟩) (fun v95 μ92 hc91 h => ?_)
      refine e_VI [] [] dL_law_234 rfl rfl rfl rfl ⟨np_L_law L xs, rfl⟩ (Nat.le_of_ble_eq_true rfl) ⟨rfl, hc91⟩ ?_
      refine e_istoreL [some (.ref SCR), some (.ref 0), some (.int x2), some (.int x3), some (.int v90), some (.int v95), none, none, none, none, none, none] dL_law_237 (Nat.le_of_ble_eq_true rfl) rfl ?_
      refine e_aload_n dL_law_239 rfl ?_
      refine e_bipush dL_law_240 cb_6 ?_
      refine cI_go h (fun E98 hc96 hr99 => e_VX [.int (6 : Int32)] [] dL_law_242 rfl rfl rfl rfl ⟨np_L_law L xs, rfl⟩ (Nat.le_of_ble_eq_true rfl) (by omega) ⟨(6 : Int32), rfl, hc96⟩ rfl ⟨hr99.symm, rfl⟩) (fun v100 μ97 hc96 h => ?_)
      refine e_VI [.int (6 : Int32)] [] dL_law_242 rfl rfl rfl rfl ⟨np_L_law L xs, rfl⟩ (Nat.le_of_ble_eq_true rfl) ⟨(6 : Int32), rfl, hc96⟩ ?_
      refine e_if_ne (tgt := 255) dL_law_245 rfl (fun hc101 => ?_) (fun hc101 => ?_)
      · rw [if_neg hc101] at h
        refine e_iconst dL_law_255 ci_0 ?_
        exact e_iret .boolean dL_law_256 rfl rfl (ret_eq h)
      · rw [if_pos hc101] at h
        refine e_iload dL_law_248 rfl ?_
        refine e_iload dL_law_250 rfl ?_
        refine e_ic_le (tgt := 257) dL_law_252 rfl (fun hc102 => ?_) (fun hc102 => ?_)
        · rw [if_pos hc102] at h
          refine e_iconst dL_law_257 ci_0 ?_
          refine e_istoreL [some (.ref SCR), some (.ref 0), some (.int x2), some (.int x3), some (.int v90), some (.int v95), some (.int (0 : Int32)), none, none, none, none, none] dL_law_258 (Nat.le_of_ble_eq_true rfl) rfl ?_
          exact e_le (g_L_law_260 L xs BIG x2 x3 v90 (0 : Int32) μ97 _ (by omega) h) ⟨rfl, rfl, rfl, rfl, rfl, rfl, trivial⟩
        · rw [if_neg hc102] at h
          refine e_iconst dL_law_255 ci_0 ?_
          exact e_iret .boolean dL_law_256 rfl rfl (ret_eq h)
    · rw [if_neg hc89] at h
      refine e_aload_n dL_law_140 rfl ?_
      refine e_iconst dL_law_141 ci_1 ?_
      refine e_iload dL_law_142 rfl ?_
      refine e_iadd dL_law_144 ?_
      refine cI_go h (fun E105 hc103 hr106 => e_SX [.ref SCR, .int ((1 : Int32) + x4)] [] dL_law_145 rfl (by decide) rfl rfl (Nat.le_of_ble_eq_true rfl) (by omega) ⟨(1 : Int32) + x4, rfl, hc103⟩ rfl ⟨hr106.symm, rfl⟩) (fun v107 μ104 hc103 h => ?_)
      refine e_SI [.ref SCR, .int ((1 : Int32) + x4)] [] dL_law_145 rfl (by decide) rfl rfl (Nat.le_of_ble_eq_true rfl) ⟨(1 : Int32) + x4, rfl, hc103⟩ ?_
      refine e_istoreL [some (.ref SCR), some (.ref 0), some (.int x2), some (.int x3), some (.int x4), some (.int v107), none, none, none, none, none, none] dL_law_148 (Nat.le_of_ble_eq_true rfl) rfl ?_
      refine e_iconst dL_law_150 ci_0 ?_
      refine e_istoreL [some (.ref SCR), some (.ref 0), some (.int x2), some (.int x3), some (.int x4), some (.int v107), some (.int (0 : Int32)), none, none, none, none, none] dL_law_151 (Nat.le_of_ble_eq_true rfl) rfl ?_
      exact e_le (g_L_law_153 L xs ih BIG x2 x3 x4 v107 (0 : Int32) μ104 _ (by omega) h) ⟨rfl, rfl, rfl, rfl, rfl, rfl, rfl, trivial⟩
set_option maxHeartbeats 4000000 in
theorem b_L_law (L : Nat) (xs : Nat → Int32) {r : Res} {μ' : Mem} (μ : Mem) (h : F_L_law L xs μ = some (r, μ')) : G (mL_law L xs) (Qe r μ') 8 [some (.ref SCR), some (.ref 0), none, none, none, none, none, none, none, none, none, none] [] μ (2 * BIG + 77) := by
  unfold F_L_law at h
  have hb9 : 2 * BIG + 77 ≤ 2 * BIG + 77 := Nat.le_refl _
  refine e_aload_n dL_law_8 rfl ?_
  refine e_iconst dL_law_9 ci_0 ?_
  refine cI_go h (fun E3 hc1 hr4 => e_VX [.int (0 : Int32)] [] dL_law_10 rfl rfl rfl rfl ⟨np_L_law L xs, rfl⟩ (Nat.le_of_ble_eq_true rfl) (by omega) ⟨(0 : Int32), rfl, hc1⟩ rfl ⟨hr4.symm, rfl⟩) (fun v5 μ2 hc1 h => ?_)
  refine e_VI [.int (0 : Int32)] [] dL_law_10 rfl rfl rfl rfl ⟨np_L_law L xs, rfl⟩ (Nat.le_of_ble_eq_true rfl) ⟨(0 : Int32), rfl, hc1⟩ ?_
  refine e_iconst dL_law_13 ci_3 ?_
  refine e_ic_ne (tgt := 90) dL_law_14 rfl (fun hc6 => ?_) (fun hc6 => ?_)
  · rw [if_neg hc6] at h
    refine e_iconst dL_law_90 ci_0 ?_
    exact e_iret .boolean dL_law_91 rfl rfl (ret_eq h)
  · rw [if_pos hc6] at h
    refine e_aload_n dL_law_17 rfl ?_
    refine e_iconst dL_law_18 ci_1 ?_
    refine cI_go h (fun E9 hc7 hr10 => e_VX [.int (1 : Int32)] [] dL_law_19 rfl rfl rfl rfl ⟨np_L_law L xs, rfl⟩ (Nat.le_of_ble_eq_true rfl) (by omega) ⟨(1 : Int32), rfl, hc7⟩ rfl ⟨hr10.symm, rfl⟩) (fun v11 μ8 hc7 h => ?_)
    refine e_VI [.int (1 : Int32)] [] dL_law_19 rfl rfl rfl rfl ⟨np_L_law L xs, rfl⟩ (Nat.le_of_ble_eq_true rfl) ⟨(1 : Int32), rfl, hc7⟩ ?_
    refine e_iconst dL_law_22 ci_3 ?_
    refine e_ic_ne (tgt := 90) dL_law_23 rfl (fun hc12 => ?_) (fun hc12 => ?_)
    · rw [if_neg hc12] at h
      refine e_iconst dL_law_90 ci_0 ?_
      exact e_iret .boolean dL_law_91 rfl rfl (ret_eq h)
    · rw [if_pos hc12] at h
      refine e_aload_n dL_law_26 rfl ?_
      refine e_iconst dL_law_27 ci_2 ?_
      refine cI_go h (fun E15 hc13 hr16 => e_VX [.int (2 : Int32)] [] dL_law_28 rfl rfl rfl rfl ⟨np_L_law L xs, rfl⟩ (Nat.le_of_ble_eq_true rfl) (by omega) ⟨(2 : Int32), rfl, hc13⟩ rfl ⟨hr16.symm, rfl⟩) (fun v17 μ14 hc13 h => ?_)
      refine e_VI [.int (2 : Int32)] [] dL_law_28 rfl rfl rfl rfl ⟨np_L_law L xs, rfl⟩ (Nat.le_of_ble_eq_true rfl) ⟨(2 : Int32), rfl, hc13⟩ ?_
      refine e_if_ne (tgt := 90) dL_law_31 rfl (fun hc18 => ?_) (fun hc18 => ?_)
      · rw [if_neg hc18] at h
        refine e_iconst dL_law_90 ci_0 ?_
        exact e_iret .boolean dL_law_91 rfl rfl (ret_eq h)
      · rw [if_pos hc18] at h
        refine e_aload_n dL_law_34 rfl ?_
        refine cI_go h (fun E21 hc19 hr22 => e_VX [] [] dL_law_35 rfl rfl rfl rfl ⟨np_L_law L xs, rfl⟩ (Nat.le_of_ble_eq_true rfl) (by omega) ⟨rfl, hc19⟩ rfl ⟨hr22.symm, rfl⟩) (fun v23 μ20 hc19 h => ?_)
        refine e_VI [] [] dL_law_35 rfl rfl rfl rfl ⟨np_L_law L xs, rfl⟩ (Nat.le_of_ble_eq_true rfl) ⟨rfl, hc19⟩ ?_
        refine e_iconst dL_law_38 ci_1 ?_
        refine e_ic_ne (tgt := 90) dL_law_39 rfl (fun hc24 => ?_) (fun hc24 => ?_)
        · rw [if_neg hc24] at h
          refine e_iconst dL_law_90 ci_0 ?_
          exact e_iret .boolean dL_law_91 rfl rfl (ret_eq h)
        · rw [if_pos hc24] at h
          refine e_aload_n dL_law_42 rfl ?_
          refine e_iconst dL_law_43 ci_0 ?_
          refine cI_go h (fun E27 hc25 hr28 => e_VX [.int (0 : Int32)] [] dL_law_44 rfl rfl rfl rfl ⟨np_L_law L xs, rfl⟩ (Nat.le_of_ble_eq_true rfl) (by omega) ⟨(0 : Int32), rfl, hc25⟩ rfl ⟨hr28.symm, rfl⟩) (fun v29 μ26 hc25 h => ?_)
          refine e_VI [.int (0 : Int32)] [] dL_law_44 rfl rfl rfl rfl ⟨np_L_law L xs, rfl⟩ (Nat.le_of_ble_eq_true rfl) ⟨(0 : Int32), rfl, hc25⟩ ?_
          refine e_bipush dL_law_47 cb_9 ?_
          refine e_ic_ne (tgt := 90) dL_law_49 rfl (fun hc30 => ?_) (fun hc30 => ?_)
          · rw [if_neg hc30] at h
            refine e_iconst dL_law_90 ci_0 ?_
            exact e_iret .boolean dL_law_91 rfl rfl (ret_eq h)
          · rw [if_pos hc30] at h
            refine e_aload_n dL_law_52 rfl ?_
            refine cI_go h (fun E33 hc31 hr34 => e_VX [] [] dL_law_53 rfl rfl rfl rfl ⟨np_L_law L xs, rfl⟩ (Nat.le_of_ble_eq_true rfl) (by omega) ⟨rfl, hc31⟩ rfl ⟨hr34.symm, rfl⟩) (fun v35 μ32 hc31 h => ?_)
            refine e_VI [] [] dL_law_53 rfl rfl rfl rfl ⟨np_L_law L xs, rfl⟩ (Nat.le_of_ble_eq_true rfl) ⟨rfl, hc31⟩ ?_
            refine e_if_ne (tgt := 90) dL_law_56 rfl (fun hc36 => ?_) (fun hc36 => ?_)
            · rw [if_neg hc36] at h
              refine e_iconst dL_law_90 ci_0 ?_
              exact e_iret .boolean dL_law_91 rfl rfl (ret_eq h)
            · rw [if_pos hc36] at h
              refine e_aload_n dL_law_59 rfl ?_
              refine cI_go h (fun E39 hc37 hr40 => e_VX [] [] dL_law_60 rfl rfl rfl rfl ⟨np_L_law L xs, rfl⟩ (Nat.le_of_ble_eq_true rfl) (by omega) ⟨rfl, hc37⟩ rfl ⟨hr40.symm, rfl⟩) (fun v41 μ38 hc37 h => ?_)
              refine e_VI [] [] dL_law_60 rfl rfl rfl rfl ⟨np_L_law L xs, rfl⟩ (Nat.le_of_ble_eq_true rfl) ⟨rfl, hc37⟩ ?_
              refine e_bipush dL_law_63 cb_m9 ?_
              refine e_ic_ne (tgt := 90) dL_law_65 rfl (fun hc42 => ?_) (fun hc42 => ?_)
              · rw [if_neg hc42] at h
                refine e_iconst dL_law_90 ci_0 ?_
                exact e_iret .boolean dL_law_91 rfl rfl (ret_eq h)
              · rw [if_pos hc42] at h
                refine e_aload_n dL_law_68 rfl ?_
                refine cI_go h (fun E45 hc43 hr46 => e_SX [.ref 0] [] dL_law_69 rfl (by decide) rfl rfl (Nat.le_of_ble_eq_true rfl) (by omega) ⟨rfl, hc43⟩ rfl ⟨hr46.symm, rfl⟩) (fun v47 μ44 hc43 h => ?_)
                refine e_CI [.ref 0] [] dL_law_69 rfl (by decide) rfl rfl (Nat.le_of_ble_eq_true rfl) (by omega) ⟨rfl, hc43⟩ ?_
                refine e_iconst dL_law_72 ci_m1 ?_
                refine e_ic_ne (tgt := 90) dL_law_73 rfl (fun hc48 => ?_) (fun hc48 => ?_)
                · rw [if_neg hc48] at h
                  refine e_iconst dL_law_90 ci_0 ?_
                  exact e_iret .boolean dL_law_91 rfl rfl (ret_eq h)
                · rw [if_pos hc48] at h
                  refine e_aload_n dL_law_76 rfl ?_
                  refine cI_go h (fun E51 hc49 hr52 => e_VX [] [] dL_law_77 rfl rfl rfl rfl ⟨np_L_law L xs, rfl⟩ (Nat.le_of_ble_eq_true rfl) (by omega) ⟨rfl, hc49⟩ rfl ⟨hr52.symm, rfl⟩) (fun v53 μ50 hc49 h => ?_)
                  refine e_VI [] [] dL_law_77 rfl rfl rfl rfl ⟨np_L_law L xs, rfl⟩ (Nat.le_of_ble_eq_true rfl) ⟨rfl, hc49⟩ ?_
                  refine e_if_ne (tgt := 90) dL_law_80 rfl (fun hc54 => ?_) (fun hc54 => ?_)
                  · rw [if_neg hc54] at h
                    refine e_iconst dL_law_90 ci_0 ?_
                    exact e_iret .boolean dL_law_91 rfl rfl (ret_eq h)
                  · rw [if_pos hc54] at h
                    refine e_aload_n dL_law_83 rfl ?_
                    refine cI_go h (fun E57 hc55 hr58 => e_SX [.ref 0] [] dL_law_84 rfl (by decide) rfl rfl (Nat.le_of_ble_eq_true rfl) (by omega) ⟨rfl, hc55⟩ rfl ⟨hr58.symm, rfl⟩) (fun v59 μ56 hc55 h => ?_)
                    refine e_CI [.ref 0] [] dL_law_84 rfl (by decide) rfl rfl (Nat.le_of_ble_eq_true rfl) (by omega) ⟨rfl, hc55⟩ ?_
                    refine e_if_eq (tgt := 92) dL_law_87 rfl (fun hc60 => ?_) (fun hc60 => ?_)
                    · rw [if_pos hc60] at h
                      refine e_iconst dL_law_92 ci_1 ?_
                      refine e_aload_n dL_law_93 rfl ?_
                      refine e_iconst dL_law_94 ci_0 ?_
                      refine cI_go h (fun E63 hc61 hr64 => e_SX [.ref SCR, .int (0 : Int32)] [.int (1 : Int32)] dL_law_95 rfl (by decide) rfl rfl (Nat.le_of_ble_eq_true rfl) (by omega) ⟨(0 : Int32), rfl, hc61⟩ rfl ⟨hr64.symm, rfl⟩) (fun v65 μ62 hc61 h => ?_)
                      refine e_SI [.ref SCR, .int (0 : Int32)] [.int (1 : Int32)] dL_law_95 rfl (by decide) rfl rfl (Nat.le_of_ble_eq_true rfl) ⟨(0 : Int32), rfl, hc61⟩ ?_
                      refine e_bipush dL_law_98 cb_6 ?_
                      refine cI_go h (fun E68 hc66 hr69 => e_SX [.int v65, .int (6 : Int32)] [.int (1 : Int32)] dL_law_100 rfl (by decide) rfl rfl (Nat.le_of_ble_eq_true rfl) (by omega) ⟨v65, (6 : Int32), rfl, hc66⟩ rfl ⟨hr69.symm, rfl⟩) (fun v70 μ67 hc66 h => ?_)
                      refine e_SI [.int v65, .int (6 : Int32)] [.int (1 : Int32)] dL_law_100 rfl (by decide) rfl rfl (Nat.le_of_ble_eq_true rfl) ⟨v65, (6 : Int32), rfl, hc66⟩ ?_
                      refine e_iadd dL_law_103 ?_
                      refine e_naI h (fun v71 ev71 h => ?_)
                      refine e_istore_nL [some (.ref SCR), some (.ref 0), some (.int v71), none, none, none, none, none, none, none, none, none] dL_law_104 (Nat.le_of_ble_eq_true rfl) rfl ?_
                      refine e_iconst dL_law_105 ci_1 ?_
                      refine e_aload_n dL_law_106 rfl ?_
                      refine e_iconst dL_law_107 ci_0 ?_
                      refine cI_go h (fun E74 hc72 hr75 => e_SX [.ref SCR, .int (0 : Int32)] [.int (1 : Int32)] dL_law_108 rfl (by decide) rfl rfl (Nat.le_of_ble_eq_true rfl) (by omega) ⟨(0 : Int32), rfl, hc72⟩ rfl ⟨hr75.symm, rfl⟩) (fun v76 μ73 hc72 h => ?_)
                      refine e_SI [.ref SCR, .int (0 : Int32)] [.int (1 : Int32)] dL_law_108 rfl (by decide) rfl rfl (Nat.le_of_ble_eq_true rfl) ⟨(0 : Int32), rfl, hc72⟩ ?_
                      refine e_iconst dL_law_111 ci_3 ?_
                      refine e_ishr dL_law_112 ?_
                      refine e_bipush dL_law_113 cb_6 ?_
                      refine cI_go h (fun E79 hc77 hr80 => e_SX [.int (shrI v76 (3 : Int32)), .int (6 : Int32)] [.int (1 : Int32)] dL_law_115 rfl (by decide) rfl rfl (Nat.le_of_ble_eq_true rfl) (by omega) ⟨shrI v76 (3 : Int32), (6 : Int32), rfl, hc77⟩ rfl ⟨hr80.symm, rfl⟩) (fun v81 μ78 hc77 h => ?_)
                      refine e_SI [.int (shrI v76 (3 : Int32)), .int (6 : Int32)] [.int (1 : Int32)] dL_law_115 rfl (by decide) rfl rfl (Nat.le_of_ble_eq_true rfl) ⟨shrI v76 (3 : Int32), (6 : Int32), rfl, hc77⟩ ?_
                      refine e_iadd dL_law_118 ?_
                      refine e_naI h (fun v82 ev82 h => ?_)
                      refine e_istore_nL [some (.ref SCR), some (.ref 0), some (.int v71), some (.int v82), none, none, none, none, none, none, none, none] dL_law_119 (Nat.le_of_ble_eq_true rfl) rfl ?_
                      refine e_aload_n dL_law_120 rfl ?_
                      refine e_iload_n dL_law_121 rfl ?_
                      refine e_iload_n dL_law_122 rfl ?_
                      refine cI_go h (fun E85 hc83 hr86 => e_VX [.int v71, .int v82] [] dL_law_123 rfl rfl rfl rfl ⟨np_L_law L xs, rfl⟩ (Nat.le_of_ble_eq_true rfl) (by omega) ⟨v71, v82, rfl, hc83⟩ rfl ⟨hr86.symm, rfl⟩) (fun v87 μ84 hc83 h => ?_)
                      refine e_VI [.int v71, .int v82] [] dL_law_123 rfl rfl rfl rfl ⟨np_L_law L xs, rfl⟩ (Nat.le_of_ble_eq_true rfl) ⟨v71, v82, rfl, hc83⟩ ?_
                      refine e_if_eq (tgt := 131) dL_law_126 rfl (fun hc88 => ?_) (fun hc88 => ?_)
                      · rw [if_pos hc88] at h
                        refine e_iconst dL_law_131 ci_0 ?_
                        refine e_istoreL [some (.ref SCR), some (.ref 0), some (.int v71), some (.int v82), some (.int (0 : Int32)), none, none, none, none, none, none, none] dL_law_132 (Nat.le_of_ble_eq_true rfl) rfl ?_
                        exact e_le (g_L_law_134 L xs BIG v71 v82 (0 : Int32) μ84 _ (by omega) h) ⟨rfl, rfl, rfl, rfl, rfl, trivial⟩
                      · rw [if_neg hc88] at h
                        refine e_iconst dL_law_129 ci_0 ?_
                        exact e_iret .boolean dL_law_130 rfl rfl (ret_eq h)
                    · rw [if_neg hc60] at h
                      refine e_iconst dL_law_90 ci_0 ?_
                      exact e_iret .boolean dL_law_91 rfl rfl (ret_eq h)
set_option maxRecDepth 20000 in
theorem ok_L_law (l : Launch) (hl : l.stackTraces = false) (L : Nat) (xs : Nat → Int32) : MOK l yL_law.cls 14 586 (mL_law L xs) := ⟨lk_all (List.forall_mem_cons.mpr ⟨⟨yX7_nearest, cX7_nearest, 2, (some .int), 7, 168, by decide, by decide, t_1 1 rfl rfl, hd_X7_nearest, Or.inr (Or.inl ⟨rfl, sc_X7_nearest l hl, t_3 72 rfl rfl, t_3 69 rfl rfl, t_3 70 rfl rfl, _, rfl, t_3 71 rfl rfl⟩)⟩, List.forall_mem_cons.mpr ⟨⟨yX7_about, cX7_about, 2, (some .int), 6, 90, by decide, by decide, t_1 1 rfl rfl, hd_X7_about, Or.inr (Or.inl ⟨rfl, sc_X7_about l hl, t_1 148 rfl rfl, t_1 145 rfl rfl, t_1 146 rfl rfl, _, rfl, t_1 147 rfl rfl⟩)⟩, List.forall_mem_cons.mpr ⟨⟨yX7_cell, cX7_cell, 6, (some .int), 7, 120, by decide, by decide, t_1 1 rfl rfl, hd_X7_cell, Or.inr (Or.inl ⟨rfl, sc_X7_cell l hl, t_2 119 rfl rfl, t_2 116 rfl rfl, t_2 117 rfl rfl, _, rfl, t_2 118 rfl rfl⟩)⟩, List.forall_mem_cons.mpr ⟨⟨yL_bits, cL_bits, 6, (some .long), 8, 145, by decide, by decide, t_1 0 rfl rfl, hd_L_bits, Or.inl ⟨rfl, sc_L_bits l hl, t_3 132 rfl rfl, t_3 130 rfl rfl, t_3 131 rfl rfl⟩⟩, List.forall_mem_cons.mpr ⟨⟨yX7_line, cX7_line, 5, (some .int), 7, 111, by decide, by decide, t_1 1 rfl rfl, hd_X7_line, Or.inr (Or.inl ⟨rfl, sc_X7_line l hl, t_2 77 rfl rfl, t_2 74 rfl rfl, t_2 75 rfl rfl, _, rfl, t_2 76 rfl rfl⟩)⟩, List.forall_mem_cons.mpr ⟨⟨yX7_bestExchange, cX7_bestExchange, 10, (some .int), 6, 123, by decide, by decide, t_1 1 rfl rfl, hd_X7_bestExchange, Or.inr (Or.inl ⟨rfl, sc_X7_bestExchange l hl, t_3 84 rfl rfl, t_3 81 rfl rfl, t_3 82 rfl rfl, _, rfl, t_3 83 rfl rfl⟩)⟩, List.forall_mem_cons.mpr ⟨⟨yL_up, cL_up, 2, (some .int), 1, 0, by decide, by decide, t_1 0 rfl rfl, hd_L_up, Or.inl ⟨rfl, sc_L_up l hl, t_3 111 rfl rfl, t_3 109 rfl rfl, t_3 110 rfl rfl⟩⟩, List.forall_mem_cons.mpr ⟨⟨yL_lines, cL_lines, 22, (some .boolean), 9, 170, by decide, by decide, t_1 0 rfl rfl, hd_L_lines, Or.inl ⟨rfl, sc_L_lines l hl, t_3 135 rfl rfl, t_3 133 rfl rfl, t_3 134 rfl rfl⟩⟩, List.forall_mem_cons.mpr ⟨⟨yX7_howMany, cX7_howMany, 1, (some .int), 7, 167, by decide, by decide, t_1 1 rfl rfl, hd_X7_howMany, Or.inr (Or.inl ⟨rfl, sc_X7_howMany l hl, t_3 43 rfl rfl, t_3 40 rfl rfl, t_3 41 rfl rfl, _, rfl, t_3 42 rfl rfl⟩)⟩, List.forall_mem_cons.mpr ⟨⟨yX7_sure, cX7_sure, 4, (some .int), 6, 120, by decide, by decide, t_1 1 rfl rfl, hd_X7_sure, Or.inr (Or.inl ⟨rfl, sc_X7_sure l hl, t_3 63 rfl rfl, t_3 60 rfl rfl, t_3 61 rfl rfl, _, rfl, t_3 62 rfl rfl⟩)⟩, List.forall_mem_cons.mpr ⟨⟨yL_undoOr, cL_undoOr, 2, (some .int), 7, 110, by decide, by decide, t_1 0 rfl rfl, hd_L_undoOr, Or.inr (Or.inr (Or.inr (Or.inl ⟨rfl, _, sc_L_undoOr l hl, t_3 115 rfl rfl, t_3 113 rfl rfl, t_3 114 rfl rfl⟩)))⟩, List.forall_mem_cons.mpr ⟨⟨yX7_wantAll, cX7_wantAll, 1, (some .int), 5, 89, by decide, by decide, t_1 1 rfl rfl, hd_X7_wantAll, Or.inr (Or.inl ⟨rfl, sc_X7_wantAll l hl, t_3 24 rfl rfl, t_3 21 rfl rfl, t_3 22 rfl rfl, _, rfl, t_3 23 rfl rfl⟩)⟩, List.forall_mem_cons.mpr ⟨⟨yL_cell, cL_cell, 2, (some .int), 1, 0, by decide, by decide, t_1 0 rfl rfl, hd_L_cell, Or.inr (Or.inr (Or.inr (Or.inr (Or.inr (Or.inl ⟨rfl, sc_L_cell l hl L xs, t_3 107 rfl rfl, t_3 105 rfl rfl, t_3 106 rfl rfl⟩)))))⟩, List.forall_mem_cons.mpr ⟨⟨yX7_resize, cX7_resize, 3, (some .int), 6, 90, by decide, by decide, t_1 1 rfl rfl, hd_X7_resize, Or.inr (Or.inl ⟨rfl, sc_X7_resize l hl, t_2 192 rfl rfl, t_2 189 rfl rfl, t_2 190 rfl rfl, _, rfl, t_2 191 rfl rfl⟩)⟩, List.forall_mem_cons.mpr ⟨⟨yX7_fill, cX7_fill, 4, (some .boolean), 7, 112, by decide, by decide, t_1 1 rfl rfl, hd_X7_fill, Or.inr (Or.inl ⟨rfl, sc_X7_fill l hl, t_2 218 rfl rfl, t_2 215 rfl rfl, t_2 216 rfl rfl, _, rfl, t_2 217 rfl rfl⟩)⟩, List.forall_mem_cons.mpr ⟨⟨yX7_pin, cX7_pin, 4, (some .boolean), 7, 112, by decide, by decide, t_1 1 rfl rfl, hd_X7_pin, Or.inr (Or.inl ⟨rfl, sc_X7_pin l hl, t_3 7 rfl rfl, t_3 4 rfl rfl, t_3 5 rfl rfl, _, rfl, t_3 6 rfl rfl⟩)⟩, List.forall_mem_cons.mpr ⟨⟨yX7_want, cX7_want, 3, (some .int), 7, 111, by decide, by decide, t_1 1 rfl rfl, hd_X7_want, Or.inr (Or.inl ⟨rfl, sc_X7_want l hl, t_3 15 rfl rfl, t_3 12 rfl rfl, t_3 13 rfl rfl, _, rfl, t_3 14 rfl rfl⟩)⟩, List.forall_mem_cons.mpr ⟨⟨yL_sound, cL_sound, 2, (some .boolean), 11, 252, by decide, by decide, t_1 0 rfl rfl, hd_L_sound, Or.inr (Or.inr (Or.inr (Or.inr (Or.inr (Or.inr ⟨rfl, fl_L_law L xs, sc_L_sound l hl, t_3 148 rfl rfl, t_3 146 rfl rfl, t_3 147 rfl rfl⟩)))))⟩, List.forall_mem_cons.mpr ⟨⟨yX7_turn, cX7_turn, 1, (some .int), 4, 80, by decide, by decide, t_1 1 rfl rfl, hd_X7_turn, Or.inr (Or.inl ⟨rfl, sc_X7_turn l hl, t_3 33 rfl rfl, t_3 30 rfl rfl, t_3 31 rfl rfl, _, rfl, t_3 32 rfl rfl⟩)⟩, nil_all⟩⟩⟩⟩⟩⟩⟩⟩⟩⟩⟩⟩⟩⟩⟩⟩⟩⟩⟩), fun ix ci j h => lk_all (P := fun ix q => FldOK yL_law.cls ix q.1 q.2) (nil_all) ix (ci, j) h, lk_all (nil_all), lk_all (nil_all), lk_all (nil_all)⟩
