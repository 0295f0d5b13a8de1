def f_L_pieces_365 (k181 : Int32 → Int64 → Int32 → Int32 → Int32 → Int32 → Mem → Out) (k194 : Int32 → Int64 → Int32 → Int32 → Int32 → Int32 → Int32 → Mem → Out) (x1 : Int32) (x2 : Int64) (x4 : Int32) (x5 : Int32) (x7 : Int32) (x8 : Int32) (x9 : Int32) (x10 : Int32) (x11 : Int32) (x12 : Int32) (s0 : Int32) (μ : Mem) : Out := if x10 = 0 then (if x11 = (-9 : Int32) then (lt (x9 + (1 : Int32)) (fun v172 => k194 x1 x2 x4 x5 x7 x8 v172 μ)) else (rI (0 : Int32) μ)) else (if x11 < 0 then (rI (0 : Int32) μ) else (if x1 ≤ x11 then (rI (0 : Int32) μ) else (if x12 = 0 then (rI (0 : Int32) μ) else (if s0 = 0 then (rI (0 : Int32) μ) else (lt (x9 + (1 : Int32)) (fun v170 => k194 x1 x2 x4 x5 x7 x8 v170 μ))))))
def f_L_pieces_324 (k181 : Int32 → Int64 → Int32 → Int32 → Int32 → Int32 → Mem → Out) (k194 : Int32 → Int64 → Int32 → Int32 → Int32 → Int32 → Int32 → Mem → Out) (x1 : Int32) (x2 : Int64) (x4 : Int32) (x5 : Int32) (x7 : Int32) (x8 : Int32) (x9 : Int32) (x10 : Int32) (x11 : Int32) (s0 : Int32) (μ : Mem) : Out := if x10 = 0 then (f_L_pieces_365 k181 k194 x1 x2 x4 x5 x7 x8 x9 x10 x11 s0 (1 : Int32) μ) else (cI (F_L_at x2 (x8 + (1 : Int32)) x9 μ) (fun v157 μ154 => if v157 = 0 then (f_L_pieces_365 k181 k194 x1 x2 x4 x5 x7 x8 x9 x10 x11 s0 (1 : Int32) μ154) else (cI (F_X7_cell (x8 + (1 : Int32)) x9 (2 : Int32) μ154) (fun v163 μ160 => if v163 = x11 then (f_L_pieces_365 k181 k194 x1 x2 x4 x5 x7 x8 x9 x10 x11 s0 (1 : Int32) μ160) else (f_L_pieces_365 k181 k194 x1 x2 x4 x5 x7 x8 x9 x10 x11 s0 (0 : Int32) μ160)))))
def f_L_pieces_282 (k181 : Int32 → Int64 → Int32 → Int32 → Int32 → Int32 → Mem → Out) (k194 : Int32 → Int64 → Int32 → Int32 → Int32 → Int32 → Int32 → Mem → Out) (x1 : Int32) (x2 : Int64) (x4 : Int32) (x5 : Int32) (x8 : Int32) (x9 : Int32) (x10 : Int32) (x11 : Int32) (s0 : Int32) (s1 : Int32) (μ : Mem) : Out := lt (s1 + s0) (fun v138 => if x10 = 0 then (f_L_pieces_324 k181 k194 x1 x2 x4 x5 v138 x8 x9 x10 x11 (1 : Int32) μ) else (cI (F_L_at x2 x8 (x9 + (1 : Int32)) μ) (fun v144 μ141 => if v144 = 0 then (f_L_pieces_324 k181 k194 x1 x2 x4 x5 v138 x8 x9 x10 x11 (1 : Int32) μ141) else (cI (F_X7_cell x8 (x9 + (1 : Int32)) (2 : Int32) μ141) (fun v150 μ147 => if v150 = x11 then (f_L_pieces_324 k181 k194 x1 x2 x4 x5 v138 x8 x9 x10 x11 (1 : Int32) μ147) else (f_L_pieces_324 k181 k194 x1 x2 x4 x5 v138 x8 x9 x10 x11 (0 : Int32) μ147))))))
def f_L_pieces_194 (k181 : Int32 → Int64 → Int32 → Int32 → Int32 → Int32 → Mem → Out) : Nat → Int32 → Int64 → Int32 → Int32 → Int32 → Int32 → Int32 → Mem → Out
  | 0, _, _, _, _, _, _, _, _ => none
  | n + 1, x1, x2, x4, x5, x7, x8, x9, μ => cI (F_X7_about (1 : Int32) μ) (fun v104 μ101 => if v104 ≤ x9 then (lt (x8 + (1 : Int32)) (fun v106 => k181 x1 x2 x4 x5 x7 v106 μ101)) else (cI (F_L_at x2 x8 x9 μ101) (fun v111 μ108 => cI (F_X7_cell x8 x9 (2 : Int32) μ108) (fun v116 μ113 => if v111 = (1 : Int32) then (cI (F_L_at x2 (x8 - (1 : Int32)) x9 μ113) (fun v122 μ119 => cI (F_L_at x2 (x8 + (1 : Int32)) x9 μ119) (fun v127 μ124 => cI (F_L_at x2 x8 (x9 - (1 : Int32)) μ124) (fun v132 μ129 => cI (F_L_at x2 x8 (x9 + (1 : Int32)) μ129) (fun v137 μ134 => f_L_pieces_282 k181 (f_L_pieces_194 k181 n) x1 x2 x4 x5 x8 x9 v111 v116 (((((4 : Int32) - v122) - v127) - v132) - v137) x7 μ134))))) else (f_L_pieces_282 k181 (f_L_pieces_194 k181 n) x1 x2 x4 x5 x8 x9 v111 v116 (0 : Int32) x7 μ113)))))
def f_L_pieces_181 : Nat → Int32 → Int64 → Int32 → Int32 → Int32 → Int32 → Mem → Out
  | 0, _, _, _, _, _, _, _ => none
  | n + 1, x1, x2, x4, x5, x7, x8, μ => cI (F_X7_about (0 : Int32) μ) (fun v85 μ82 => if v85 ≤ x8 then (cI (F_L_ones x2 μ82) (fun v91 μ88 => if x4 = v91 then (if x5 = x7 then (cI (F_X7_about (8 : Int32) μ88) (fun v98 μ95 => if v98 = x7 then (rI (1 : Int32) μ95) else (rI (0 : Int32) μ95))) else (rI (0 : Int32) μ88)) else (rI (0 : Int32) μ88))) else (f_L_pieces_194 (f_L_pieces_181 n) BIG x1 x2 x4 x5 x7 x8 (0 : Int32) μ82))
def f_L_pieces_25 : Nat → Int32 → Int64 → Int32 → Int32 → Int32 → Int32 → Mem → Out
  | 0, _, _, _, _, _, _, _ => none
  | n + 1, x1, x2, x4, x5, x6, x7, μ => if x1 ≤ x7 then (f_L_pieces_181 BIG x1 x2 x4 x5 (0 : Int32) (0 : Int32) μ) else (cI (F_X7_piece x7 (4 : Int32) μ) (fun v16 μ13 => if v16 ≤ x6 then (rI (0 : Int32) μ13) else (cI (F_X7_cell (v16 / (10 : Int32)) (remI v16 (10 : Int32)) (2 : Int32) μ13) (fun v22 μ19 => if v22 = x7 then (cI (F_X7_piece x7 (0 : Int32) μ19) (fun v28 μ25 => cI (F_X7_piece x7 (2 : Int32) μ25) (fun v33 μ30 => if v28 < v33 then (rI (0 : Int32) μ30) else (cI (F_X7_piece x7 (0 : Int32) μ30) (fun v39 μ36 => cI (F_X7_piece x7 (3 : Int32) μ36) (fun v44 μ41 => if v39 < v44 then (rI (0 : Int32) μ41) else (cI (F_X7_piece x7 (0 : Int32) μ41) (fun v50 μ47 => cI (F_X7_piece x7 (2 : Int32) μ47) (fun v55 μ52 => cI (F_X7_piece x7 (3 : Int32) μ52) (fun v60 μ57 => if v50 < ((v55 + v60) - (1 : Int32)) then (rI (0 : Int32) μ57) else (cI (F_X7_piece x7 (1 : Int32) μ57) (fun v66 μ63 => if (4 : Int32) ≤ v66 then (cI (F_X7_piece x7 (0 : Int32) μ63) (fun v72 μ69 => lt (x4 + v72) (fun v73 => cI (F_X7_piece x7 (1 : Int32) μ69) (fun v78 μ75 => lt (x5 + v78) (fun v79 => lt (x7 + (1 : Int32)) (fun v80 => f_L_pieces_25 n x1 x2 v73 v79 v16 v80 μ75)))))) else (rI (0 : Int32) μ63))))))))))))) else (rI (0 : Int32) μ19)))))
def F_L_pieces (μ : Mem) : Out := cI (F_X7_about (7 : Int32) μ) (fun v5 μ2 => cJ (F_L_bits (0 : Int32) μ2) (fun v10 μ7 => f_L_pieces_25 BIG v5 v10 (0 : Int32) (0 : Int32) (-1 : Int32) (0 : Int32) μ7))
def Γ_L_pieces : Gam := fun as μ r μ' => as = [.ref 0] ∧ F_L_pieces μ = some (r, μ')
def mL_pieces : MI := (cL_pieces, [(27, (1, 1, 1, 5, Γ_X7_about)), (30, (1, 3, 1, 5, Γ_X7_cell)), (34, (0, 2, 1, 0, Γ_L_bits)), (40, (0, 3, 0, 0, Γ_L_at)), (51, (0, 1, 0, 0, Γ_L_ones)), (55, (1, 2, 1, 5, Γ_X7_piece))], [], [], [], [], [], (29, none), (some .boolean))
set_option maxHeartbeats 4000000 in
theorem g_L_pieces_365 {r : Res} {μ' : Mem} {k181 : Int32 → Int64 → Int32 → Int32 → Int32 → Int32 → Mem → Out} {k194 : Int32 → Int64 → Int32 → Int32 → Int32 → Int32 → Int32 → Mem → Out} (hk181 : ∀ (x1 : Int32) (x2 : Int64) (x4 : Int32) (x5 : Int32) (x7 : Int32) (x8 : Int32), ∀ (μ : Mem) (b : Nat), rc r 1 ≤ b → k181 x1 x2 x4 x5 x7 x8 μ = some (r, μ') → G mL_pieces (Qe r μ') 181 [some (.ref 0), some (.int x1), some (.long x2), none, some (.int x4), some (.int x5), none, some (.int x7), some (.int x8), none, none, none, none, none] [] μ b) (hk194 : ∀ (x1 : Int32) (x2 : Int64) (x4 : Int32) (x5 : Int32) (x7 : Int32) (x8 : Int32) (x9 : Int32), ∀ (μ : Mem) (b : Nat), rc r 1 ≤ b → k194 x1 x2 x4 x5 x7 x8 x9 μ = some (r, μ') → G mL_pieces (Qe r μ') 194 [some (.ref 0), some (.int x1), some (.long x2), none, some (.int x4), some (.int x5), none, some (.int x7), some (.int x8), some (.int x9), none, none, none, none] [] μ b) : ∀ (x1 : Int32) (x2 : Int64) (x4 : Int32) (x5 : Int32) (x7 : Int32) (x8 : Int32) (x9 : Int32) (x10 : Int32) (x11 : Int32) (x12 : Int32) (s0 : Int32), ∀ (μ : Mem) (b : Nat), rc r 1 ≤ b → f_L_pieces_365 k181 k194 x1 x2 x4 x5 x7 x8 x9 x10 x11 x12 s0 μ = some (r, μ') → G mL_pieces (Qe r μ') 365 [some (.ref 0), some (.int x1), some (.long x2), none, some (.int x4), some (.int x5), none, some (.int x7), some (.int x8), some (.int x9), some (.int x10), some (.int x11), some (.int x12), none] [.int s0] μ b := by
  intro x1 x2 x4 x5 x7 x8 x9 x10 x11 x12 s0 μ b hb9 h
  unfold f_L_pieces_365 at h
  refine e_istoreL [some (.ref 0), some (.int x1), some (.long x2), none, some (.int x4), some (.int x5), none, some (.int x7), some (.int x8), some (.int x9), some (.int x10), some (.int x11), some (.int x12), some (.int s0)] dL_pieces_365 (Nat.le_of_ble_eq_true rfl) rfl ?_
  refine e_iload dL_pieces_367 rfl ?_
  refine e_if_ne (tgt := 382) dL_pieces_369 rfl (fun hc165 => ?_) (fun hc165 => ?_)
  · rw [if_neg hc165] at h
    refine e_iload dL_pieces_382 rfl ?_
    refine e_if_lt (tgt := 403) dL_pieces_384 rfl (fun hc166 => ?_) (fun hc166 => ?_)
    · rw [if_pos hc166] at h
      refine e_iconst dL_pieces_403 ci_0 ?_
      exact e_iret .boolean dL_pieces_404 rfl rfl (ret_eq h)
    · rw [if_neg hc166] at h
      refine e_iload dL_pieces_387 rfl ?_
      refine e_iload_n dL_pieces_389 rfl ?_
      refine e_ic_ge (tgt := 403) dL_pieces_390 rfl (fun hc167 => ?_) (fun hc167 => ?_)
      · rw [if_pos hc167] at h
        refine e_iconst dL_pieces_403 ci_0 ?_
        exact e_iret .boolean dL_pieces_404 rfl rfl (ret_eq h)
      · rw [if_neg hc167] at h
        refine e_iload dL_pieces_393 rfl ?_
        refine e_if_eq (tgt := 403) dL_pieces_395 rfl (fun hc168 => ?_) (fun hc168 => ?_)
        · rw [if_pos hc168] at h
          refine e_iconst dL_pieces_403 ci_0 ?_
          exact e_iret .boolean dL_pieces_404 rfl rfl (ret_eq h)
        · rw [if_neg hc168] at h
          refine e_iload dL_pieces_398 rfl ?_
          refine e_if_ne (tgt := 405) dL_pieces_400 rfl (fun hc169 => ?_) (fun hc169 => ?_)
          · rw [if_neg hc169] at h
            refine e_iincN 9 (1 : Int32) dL_pieces_405 rfl ci_1 h (fun y9 => [some (.ref 0), some (.int x1), some (.long x2), none, some (.int x4), some (.int x5), none, some (.int x7), some (.int x8), some (.int y9), some (.int x10), some (.int x11), some (.int x12), some (.int s0)]) (fun _ => rfl) (fun v170 ev170 h => ?_)
            refine e_goto (tgt := 194) dL_pieces_408 rfl ?_
            exact e_le (hk194 x1 x2 x4 x5 x7 x8 v170 μ _ hb9 h) ⟨rfl, rfl, rfl, rfl, rfl, rfl, rfl, rfl, trivial⟩
          · rw [if_pos hc169] at h
            refine e_iconst dL_pieces_403 ci_0 ?_
            exact e_iret .boolean dL_pieces_404 rfl rfl (ret_eq h)
  · rw [if_pos hc165] at h
    refine e_iload dL_pieces_372 rfl ?_
    refine e_bipush dL_pieces_374 cb_m9 ?_
    refine e_ic_eq (tgt := 405) dL_pieces_376 rfl (fun hc171 => ?_) (fun hc171 => ?_)
    · rw [if_pos hc171] at h
      refine e_iincN 9 (1 : Int32) dL_pieces_405 rfl ci_1 h (fun y9 => [some (.ref 0), some (.int x1), some (.long x2), none, some (.int x4), some (.int x5), none, some (.int x7), some (.int x8), some (.int y9), some (.int x10), some (.int x11), some (.int x12), some (.int s0)]) (fun _ => rfl) (fun v172 ev172 h => ?_)
      refine e_goto (tgt := 194) dL_pieces_408 rfl ?_
      exact e_le (hk194 x1 x2 x4 x5 x7 x8 v172 μ _ hb9 h) ⟨rfl, rfl, rfl, rfl, rfl, rfl, rfl, rfl, trivial⟩
    · rw [if_neg hc171] at h
      refine e_goto (tgt := 403) dL_pieces_379 rfl ?_
      refine e_iconst dL_pieces_403 ci_0 ?_
      exact e_iret .boolean dL_pieces_404 rfl rfl (ret_eq h)
set_option maxHeartbeats 4000000 in
theorem g_L_pieces_324 {r : Res} {μ' : Mem} {k181 : Int32 → Int64 → Int32 → Int32 → Int32 → Int32 → Mem → Out} {k194 : Int32 → Int64 → Int32 → Int32 → Int32 → Int32 → Int32 → Mem → Out} (hk181 : ∀ (x1 : Int32) (x2 : Int64) (x4 : Int32) (x5 : Int32) (x7 : Int32) (x8 : Int32), ∀ (μ : Mem) (b : Nat), rc r 1 ≤ b → k181 x1 x2 x4 x5 x7 x8 μ = some (r, μ') → G mL_pieces (Qe r μ') 181 [some (.ref 0), some (.int x1), some (.long x2), none, some (.int x4), some (.int x5), none, some (.int x7), some (.int x8), none, none, none, none, none] [] μ b) (hk194 : ∀ (x1 : Int32) (x2 : Int64) (x4 : Int32) (x5 : Int32) (x7 : Int32) (x8 : Int32) (x9 : Int32), ∀ (μ : Mem) (b : Nat), rc r 1 ≤ b → k194 x1 x2 x4 x5 x7 x8 x9 μ = some (r, μ') → G mL_pieces (Qe r μ') 194 [some (.ref 0), some (.int x1), some (.long x2), none, some (.int x4), some (.int x5), none, some (.int x7), some (.int x8), some (.int x9), none, none, none, none] [] μ b) : ∀ (x1 : Int32) (x2 : Int64) (x4 : Int32) (x5 : Int32) (x7 : Int32) (x8 : Int32) (x9 : Int32) (x10 : Int32) (x11 : Int32) (s0 : Int32), ∀ (μ : Mem) (b : Nat), rc r 1 ≤ b → f_L_pieces_324 k181 k194 x1 x2 x4 x5 x7 x8 x9 x10 x11 s0 μ = some (r, μ') → G mL_pieces (Qe r μ') 324 [some (.ref 0), some (.int x1), some (.long x2), none, some (.int x4), some (.int x5), none, some (.int x7), some (.int x8), some (.int x9), some (.int x10), some (.int x11), none, none] [.int s0] μ b := by
  intro x1 x2 x4 x5 x7 x8 x9 x10 x11 s0 μ b hb9 h
  unfold f_L_pieces_324 at h
  refine e_istoreL [some (.ref 0), some (.int x1), some (.long x2), none, some (.int x4), some (.int x5), none, some (.int x7), some (.int x8), some (.int x9), some (.int x10), some (.int x11), some (.int s0), none] dL_pieces_324 (Nat.le_of_ble_eq_true rfl) rfl ?_
  refine e_iload dL_pieces_326 rfl ?_
  refine e_if_eq (tgt := 360) dL_pieces_328 rfl (fun hc152 => ?_) (fun hc152 => ?_)
  · rw [if_pos hc152] at h
    refine e_iconst dL_pieces_360 ci_1 ?_
    refine e_goto (tgt := 365) dL_pieces_361 rfl ?_
    exact e_le (g_L_pieces_365 hk181 hk194 x1 x2 x4 x5 x7 x8 x9 x10 x11 s0 (1 : Int32) μ _ hb9 h) ⟨rfl, rfl, rfl, rfl, rfl, rfl, rfl, rfl, rfl, rfl, rfl, trivial⟩
  · rw [if_neg hc152] at h
    refine e_lload_n dL_pieces_331 rfl ?_
    refine e_iload dL_pieces_332 rfl ?_
    refine e_iconst dL_pieces_334 ci_1 ?_
    refine e_iadd dL_pieces_335 ?_
    refine e_iload dL_pieces_336 rfl ?_
    refine cI_go h (fun E155 hc153 hr156 => e_SX [.long x2, .int (x8 + (1 : Int32)), .int x9] [] dL_pieces_338 rfl (by decide) rfl rfl (Nat.le_of_ble_eq_true rfl) (hbr hr156 hb9 (Nat.le_of_ble_eq_true rfl)) ⟨x2, x8 + (1 : Int32), x9, rfl, hc153⟩ rfl ⟨hr156.symm, rfl⟩) (fun v157 μ154 hc153 h => ?_)
    refine e_SI [.long x2, .int (x8 + (1 : Int32)), .int x9] [] dL_pieces_338 rfl (by decide) rfl rfl (Nat.le_of_ble_eq_true rfl) ⟨x2, x8 + (1 : Int32), x9, rfl, hc153⟩ ?_
    refine e_if_eq (tgt := 360) dL_pieces_341 rfl (fun hc158 => ?_) (fun hc158 => ?_)
    · rw [if_pos hc158] at h
      refine e_iconst dL_pieces_360 ci_1 ?_
      refine e_goto (tgt := 365) dL_pieces_361 rfl ?_
      exact e_le (g_L_pieces_365 hk181 hk194 x1 x2 x4 x5 x7 x8 x9 x10 x11 s0 (1 : Int32) μ154 _ hb9 h) ⟨rfl, rfl, rfl, rfl, rfl, rfl, rfl, rfl, rfl, rfl, rfl, trivial⟩
    · rw [if_neg hc158] at h
      refine e_aload_n dL_pieces_344 rfl ?_
      refine e_iload dL_pieces_345 rfl ?_
      refine e_iconst dL_pieces_347 ci_1 ?_
      refine e_iadd dL_pieces_348 ?_
      refine e_iload dL_pieces_349 rfl ?_
      refine e_iconst dL_pieces_351 ci_2 ?_
      refine cI_go h (fun E161 hc159 hr162 => e_VX [.int (x8 + (1 : Int32)), .int x9, .int (2 : Int32)] [] dL_pieces_352 rfl rfl rfl rfl ⟨Nat.le_of_ble_eq_true rfl, rfl⟩ (Nat.le_of_ble_eq_true rfl) (hbr hr162 hb9 (Nat.le_of_ble_eq_true rfl)) ⟨x8 + (1 : Int32), x9, (2 : Int32), rfl, hc159⟩ rfl ⟨hr162.symm, rfl⟩) (fun v163 μ160 hc159 h => ?_)
      refine e_VI [.int (x8 + (1 : Int32)), .int x9, .int (2 : Int32)] [] dL_pieces_352 rfl rfl rfl rfl ⟨Nat.le_of_ble_eq_true rfl, rfl⟩ (Nat.le_of_ble_eq_true rfl) ⟨x8 + (1 : Int32), x9, (2 : Int32), rfl, hc159⟩ ?_
      refine e_iload dL_pieces_355 rfl ?_
      refine e_ic_ne (tgt := 364) dL_pieces_357 rfl (fun hc164 => ?_) (fun hc164 => ?_)
      · rw [if_neg hc164] at h
        refine e_iconst dL_pieces_364 ci_0 ?_
        exact e_le (g_L_pieces_365 hk181 hk194 x1 x2 x4 x5 x7 x8 x9 x10 x11 s0 (0 : Int32) μ160 _ hb9 h) ⟨rfl, rfl, rfl, rfl, rfl, rfl, rfl, rfl, rfl, rfl, rfl, trivial⟩
      · rw [if_pos hc164] at h
        refine e_iconst dL_pieces_360 ci_1 ?_
        refine e_goto (tgt := 365) dL_pieces_361 rfl ?_
        exact e_le (g_L_pieces_365 hk181 hk194 x1 x2 x4 x5 x7 x8 x9 x10 x11 s0 (1 : Int32) μ160 _ hb9 h) ⟨rfl, rfl, rfl, rfl, rfl, rfl, rfl, rfl, rfl, rfl, rfl, trivial⟩
set_option maxHeartbeats 4000000 in
theorem g_L_pieces_282 {r : Res} {μ' : Mem} {k181 : Int32 → Int64 → Int32 → Int32 → Int32 → Int32 → Mem → Out} {k194 : Int32 → Int64 → Int32 → Int32 → Int32 → Int32 → Int32 → Mem → Out} (hk181 : ∀ (x1 : Int32) (x2 : Int64) (x4 : Int32) (x5 : Int32) (x7 : Int32) (x8 : Int32), ∀ (μ : Mem) (b : Nat), rc r 1 ≤ b → k181 x1 x2 x4 x5 x7 x8 μ = some (r, μ') → G mL_pieces (Qe r μ') 181 [some (.ref 0), some (.int x1), some (.long x2), none, some (.int x4), some (.int x5), none, some (.int x7), some (.int x8), none, none, none, none, none] [] μ b) (hk194 : ∀ (x1 : Int32) (x2 : Int64) (x4 : Int32) (x5 : Int32) (x7 : Int32) (x8 : Int32) (x9 : Int32), ∀ (μ : Mem) (b : Nat), rc r 1 ≤ b → k194 x1 x2 x4 x5 x7 x8 x9 μ = some (r, μ') → G mL_pieces (Qe r μ') 194 [some (.ref 0), some (.int x1), some (.long x2), none, some (.int x4), some (.int x5), none, some (.int x7), some (.int x8), some (.int x9), none, none, none, none] [] μ b) : ∀ (x1 : Int32) (x2 : Int64) (x4 : Int32) (x5 : Int32) (x8 : Int32) (x9 : Int32) (x10 : Int32) (x11 : Int32) (s0 : Int32) (s1 : Int32), ∀ (μ : Mem) (b : Nat), rc r 1 ≤ b → f_L_pieces_282 k181 k194 x1 x2 x4 x5 x8 x9 x10 x11 s0 s1 μ = some (r, μ') → G mL_pieces (Qe r μ') 282 [some (.ref 0), some (.int x1), some (.long x2), none, some (.int x4), some (.int x5), none, none, some (.int x8), some (.int x9), some (.int x10), some (.int x11), none, none] [.int s0, .int s1] μ b := by
  intro x1 x2 x4 x5 x8 x9 x10 x11 s0 s1 μ b hb9 h
  unfold f_L_pieces_282 at h
  refine e_iadd dL_pieces_282 ?_
  refine e_naI h (fun v138 ev138 h => ?_)
  refine e_istoreL [some (.ref 0), some (.int x1), some (.long x2), none, some (.int x4), some (.int x5), none, some (.int v138), some (.int x8), some (.int x9), some (.int x10), some (.int x11), none, none] dL_pieces_283 (Nat.le_of_ble_eq_true rfl) rfl ?_
  refine e_iload dL_pieces_285 rfl ?_
  refine e_if_eq (tgt := 319) dL_pieces_287 rfl (fun hc139 => ?_) (fun hc139 => ?_)
  · rw [if_pos hc139] at h
    refine e_iconst dL_pieces_319 ci_1 ?_
    refine e_goto (tgt := 324) dL_pieces_320 rfl ?_
    exact e_le (g_L_pieces_324 hk181 hk194 x1 x2 x4 x5 v138 x8 x9 x10 x11 (1 : Int32) μ _ hb9 h) ⟨rfl, rfl, rfl, rfl, rfl, rfl, rfl, rfl, rfl, rfl, trivial⟩
  · rw [if_neg hc139] at h
    refine e_lload_n dL_pieces_290 rfl ?_
    refine e_iload dL_pieces_291 rfl ?_
    refine e_iload dL_pieces_293 rfl ?_
    refine e_iconst dL_pieces_295 ci_1 ?_
    refine e_iadd dL_pieces_296 ?_
    refine cI_go h (fun E142 hc140 hr143 => e_SX [.long x2, .int x8, .int (x9 + (1 : Int32))] [] dL_pieces_297 rfl (by decide) rfl rfl (Nat.le_of_ble_eq_true rfl) (hbr hr143 hb9 (Nat.le_of_ble_eq_true rfl)) ⟨x2, x8, x9 + (1 : Int32), rfl, hc140⟩ rfl ⟨hr143.symm, rfl⟩) (fun v144 μ141 hc140 h => ?_)
    refine e_SI [.long x2, .int x8, .int (x9 + (1 : Int32))] [] dL_pieces_297 rfl (by decide) rfl rfl (Nat.le_of_ble_eq_true rfl) ⟨x2, x8, x9 + (1 : Int32), rfl, hc140⟩ ?_
    refine e_if_eq (tgt := 319) dL_pieces_300 rfl (fun hc145 => ?_) (fun hc145 => ?_)
    · rw [if_pos hc145] at h
      refine e_iconst dL_pieces_319 ci_1 ?_
      refine e_goto (tgt := 324) dL_pieces_320 rfl ?_
      exact e_le (g_L_pieces_324 hk181 hk194 x1 x2 x4 x5 v138 x8 x9 x10 x11 (1 : Int32) μ141 _ hb9 h) ⟨rfl, rfl, rfl, rfl, rfl, rfl, rfl, rfl, rfl, rfl, trivial⟩
    · rw [if_neg hc145] at h
      refine e_aload_n dL_pieces_303 rfl ?_
      refine e_iload dL_pieces_304 rfl ?_
      refine e_iload dL_pieces_306 rfl ?_
      refine e_iconst dL_pieces_308 ci_1 ?_
      refine e_iadd dL_pieces_309 ?_
      refine e_iconst dL_pieces_310 ci_2 ?_
      refine cI_go h (fun E148 hc146 hr149 => e_VX [.int x8, .int (x9 + (1 : Int32)), .int (2 : Int32)] [] dL_pieces_311 rfl rfl rfl rfl ⟨Nat.le_of_ble_eq_true rfl, rfl⟩ (Nat.le_of_ble_eq_true rfl) (hbr hr149 hb9 (Nat.le_of_ble_eq_true rfl)) ⟨x8, x9 + (1 : Int32), (2 : Int32), rfl, hc146⟩ rfl ⟨hr149.symm, rfl⟩) (fun v150 μ147 hc146 h => ?_)
      refine e_VI [.int x8, .int (x9 + (1 : Int32)), .int (2 : Int32)] [] dL_pieces_311 rfl rfl rfl rfl ⟨Nat.le_of_ble_eq_true rfl, rfl⟩ (Nat.le_of_ble_eq_true rfl) ⟨x8, x9 + (1 : Int32), (2 : Int32), rfl, hc146⟩ ?_
      refine e_iload dL_pieces_314 rfl ?_
      refine e_ic_ne (tgt := 323) dL_pieces_316 rfl (fun hc151 => ?_) (fun hc151 => ?_)
      · rw [if_neg hc151] at h
        refine e_iconst dL_pieces_323 ci_0 ?_
        exact e_le (g_L_pieces_324 hk181 hk194 x1 x2 x4 x5 v138 x8 x9 x10 x11 (0 : Int32) μ147 _ hb9 h) ⟨rfl, rfl, rfl, rfl, rfl, rfl, rfl, rfl, rfl, rfl, trivial⟩
      · rw [if_pos hc151] at h
        refine e_iconst dL_pieces_319 ci_1 ?_
        refine e_goto (tgt := 324) dL_pieces_320 rfl ?_
        exact e_le (g_L_pieces_324 hk181 hk194 x1 x2 x4 x5 v138 x8 x9 x10 x11 (1 : Int32) μ147 _ hb9 h) ⟨rfl, rfl, rfl, rfl, rfl, rfl, rfl, rfl, rfl, rfl, trivial⟩
set_option maxHeartbeats 4000000 in
theorem g_L_pieces_194 {r : Res} {μ' : Mem} {k181 : Int32 → Int64 → Int32 → Int32 → Int32 → Int32 → Mem → Out} (hk181 : ∀ (x1 : Int32) (x2 : Int64) (x4 : Int32) (x5 : Int32) (x7 : Int32) (x8 : Int32), ∀ (μ : Mem) (b : Nat), rc r 1 ≤ b → k181 x1 x2 x4 x5 x7 x8 μ = some (r, μ') → G mL_pieces (Qe r μ') 181 [some (.ref 0), some (.int x1), some (.long x2), none, some (.int x4), some (.int x5), none, some (.int x7), some (.int x8), none, none, none, none, none] [] μ b) : ∀ n : Nat, ∀ (x1 : Int32) (x2 : Int64) (x4 : Int32) (x5 : Int32) (x7 : Int32) (x8 : Int32) (x9 : Int32), ∀ (μ : Mem) (b : Nat), rc r 1 ≤ b → f_L_pieces_194 k181 n x1 x2 x4 x5 x7 x8 x9 μ = some (r, μ') → G mL_pieces (Qe r μ') 194 [some (.ref 0), some (.int x1), some (.long x2), none, some (.int x4), some (.int x5), none, some (.int x7), some (.int x8), some (.int x9), none, none, none, none] [] μ b := by
  intro n
  induction n with
  | zero => intro x1 x2 x4 x5 x7 x8 x9 μ b hb9 h; exact nomatch (show (none : Out) = some _ from h)
  | succ n ih =>
    intro x1 x2 x4 x5 x7 x8 x9 μ b hb9 h
    rw [f_L_pieces_194.eq_2] at h
    refine e_iload dL_pieces_194 rfl ?_
    refine e_aload_n dL_pieces_196 rfl ?_
    refine e_iconst dL_pieces_197 ci_1 ?_
    refine cI_go h (fun E102 hc100 hr103 => e_VX [.int (1 : Int32)] [.int x9] dL_pieces_198 rfl rfl rfl rfl ⟨Nat.le_of_ble_eq_true rfl, rfl⟩ (Nat.le_of_ble_eq_true rfl) (hbr hr103 hb9 (Nat.le_of_ble_eq_true rfl)) ⟨(1 : Int32), rfl, hc100⟩ rfl ⟨hr103.symm, rfl⟩) (fun v104 μ101 hc100 h => ?_)
    refine e_VI [.int (1 : Int32)] [.int x9] dL_pieces_198 rfl rfl rfl rfl ⟨Nat.le_of_ble_eq_true rfl, rfl⟩ (Nat.le_of_ble_eq_true rfl) ⟨(1 : Int32), rfl, hc100⟩ ?_
    refine e_ic_ge (tgt := 411) dL_pieces_201 rfl (fun hc105 => ?_) (fun hc105 => ?_)
    · rw [if_pos hc105] at h
      refine e_iincN 8 (1 : Int32) dL_pieces_411 rfl ci_1 h (fun y9 => [some (.ref 0), some (.int x1), some (.long x2), none, some (.int x4), some (.int x5), none, some (.int x7), some (.int y9), some (.int x9), none, none, none, none]) (fun _ => rfl) (fun v106 ev106 h => ?_)
      refine e_goto (tgt := 181) dL_pieces_414 rfl ?_
      exact e_le (hk181 x1 x2 x4 x5 x7 v106 μ101 _ hb9 h) ⟨rfl, rfl, rfl, rfl, rfl, rfl, rfl, trivial⟩
    · rw [if_neg hc105] at h
      refine e_lload_n dL_pieces_204 rfl ?_
      refine e_iload dL_pieces_205 rfl ?_
      refine e_iload dL_pieces_207 rfl ?_
      refine cI_go h (fun E109 hc107 hr110 => e_SX [.long x2, .int x8, .int x9] [] dL_pieces_209 rfl (by decide) rfl rfl (Nat.le_of_ble_eq_true rfl) (hbr hr110 hb9 (Nat.le_of_ble_eq_true rfl)) ⟨x2, x8, x9, rfl, hc107⟩ rfl ⟨hr110.symm, rfl⟩) (fun v111 μ108 hc107 h => ?_)
      refine e_SI [.long x2, .int x8, .int x9] [] dL_pieces_209 rfl (by decide) rfl rfl (Nat.le_of_ble_eq_true rfl) ⟨x2, x8, x9, rfl, hc107⟩ ?_
      refine e_istoreL [some (.ref 0), some (.int x1), some (.long x2), none, some (.int x4), some (.int x5), none, some (.int x7), some (.int x8), some (.int x9), some (.int v111), none, none, none] dL_pieces_212 (Nat.le_of_ble_eq_true rfl) rfl ?_
      refine e_aload_n dL_pieces_214 rfl ?_
      refine e_iload dL_pieces_215 rfl ?_
      refine e_iload dL_pieces_217 rfl ?_
      refine e_iconst dL_pieces_219 ci_2 ?_
      refine cI_go h (fun E114 hc112 hr115 => e_VX [.int x8, .int x9, .int (2 : Int32)] [] dL_pieces_220 rfl rfl rfl rfl ⟨Nat.le_of_ble_eq_true rfl, rfl⟩ (Nat.le_of_ble_eq_true rfl) (hbr hr115 hb9 (Nat.le_of_ble_eq_true rfl)) ⟨x8, x9, (2 : Int32), rfl, hc112⟩ rfl ⟨hr115.symm, rfl⟩) (fun v116 μ113 hc112 h => ?_)
      refine e_VI [.int x8, .int x9, .int (2 : Int32)] [] dL_pieces_220 rfl rfl rfl rfl ⟨Nat.le_of_ble_eq_true rfl, rfl⟩ (Nat.le_of_ble_eq_true rfl) ⟨x8, x9, (2 : Int32), rfl, hc112⟩ ?_
      refine e_istoreL [some (.ref 0), some (.int x1), some (.long x2), none, some (.int x4), some (.int x5), none, some (.int x7), some (.int x8), some (.int x9), some (.int v111), some (.int v116), none, none] dL_pieces_223 (Nat.le_of_ble_eq_true rfl) rfl ?_
      refine e_iload dL_pieces_225 rfl ?_
      refine e_iload dL_pieces_227 rfl ?_
      refine e_iconst dL_pieces_229 ci_1 ?_
      refine e_ic_ne (tgt := 281) dL_pieces_230 rfl (fun hc117 => ?_) (fun hc117 => ?_)
      · rw [if_neg hc117] at h
        refine e_iconst dL_pieces_281 ci_0 ?_
        exact e_le (g_L_pieces_282 hk181 ih x1 x2 x4 x5 x8 x9 v111 v116 (0 : Int32) x7 μ113 _ hb9 h) ⟨rfl, rfl, rfl, rfl, rfl, rfl, rfl, rfl, rfl, trivial⟩
      · rw [if_pos hc117] at h
        refine e_iconst dL_pieces_233 ci_4 ?_
        refine e_lload_n dL_pieces_234 rfl ?_
        refine e_iload dL_pieces_235 rfl ?_
        refine e_iconst dL_pieces_237 ci_1 ?_
        refine e_isub dL_pieces_238 ?_
        refine e_iload dL_pieces_239 rfl ?_
        refine cI_go h (fun E120 hc118 hr121 => e_SX [.long x2, .int (x8 - (1 : Int32)), .int x9] [.int (4 : Int32), .int x7] dL_pieces_241 rfl (by decide) rfl rfl (Nat.le_of_ble_eq_true rfl) (hbr hr121 hb9 (Nat.le_of_ble_eq_true rfl)) ⟨x2, x8 - (1 : Int32), x9, rfl, hc118⟩ rfl ⟨hr121.symm, rfl⟩) (fun v122 μ119 hc118 h => ?_)
        refine e_SI [.long x2, .int (x8 - (1 : Int32)), .int x9] [.int (4 : Int32), .int x7] dL_pieces_241 rfl (by decide) rfl rfl (Nat.le_of_ble_eq_true rfl) ⟨x2, x8 - (1 : Int32), x9, rfl, hc118⟩ ?_
        refine e_isub dL_pieces_244 ?_
        refine e_lload_n dL_pieces_245 rfl ?_
        refine e_iload dL_pieces_246 rfl ?_
        refine e_iconst dL_pieces_248 ci_1 ?_
        refine e_iadd dL_pieces_249 ?_
        refine e_iload dL_pieces_250 rfl ?_
        refine cI_go h (fun E125 hc123 hr126 => e_SX [.long x2, .int (x8 + (1 : Int32)), .int x9] [.int ((4 : Int32) - v122), .int x7] dL_pieces_252 rfl (by decide) rfl rfl (Nat.le_of_ble_eq_true rfl) (hbr hr126 hb9 (Nat.le_of_ble_eq_true rfl)) ⟨x2, x8 + (1 : Int32), x9, rfl, hc123⟩ rfl ⟨hr126.symm, rfl⟩) (fun v127 μ124 hc123 h => ?_)
        refine e_SI [.long x2, .int (x8 + (1 : Int32)), .int x9] [.int ((4 : Int32) - v122), .int x7] dL_pieces_252 rfl (by decide) rfl rfl (Nat.le_of_ble_eq_true rfl) ⟨x2, x8 + (1 : Int32), x9, rfl, hc123⟩ ?_
        refine e_isub dL_pieces_255 ?_
        refine e_lload_n dL_pieces_256 rfl ?_
        refine e_iload dL_pieces_257 rfl ?_
        refine e_iload dL_pieces_259 rfl ?_
        refine e_iconst dL_pieces_261 ci_1 ?_
        refine e_isub dL_pieces_262 ?_
        refine cI_go h (fun E130 hc128 hr131 => e_SX [.long x2, .int x8, .int (x9 - (1 : Int32))] [.int (((4 : Int32) - v122) - v127), .int x7] dL_pieces_263 rfl (by decide) rfl rfl (Nat.le_of_ble_eq_true rfl) (hbr hr131 hb9 (Nat.le_of_ble_eq_true rfl)) ⟨x2, x8, x9 - (1 : Int32), rfl, hc128⟩ rfl ⟨hr131.symm, rfl⟩) (fun v132 μ129 hc128 h => ?_)
        refine e_SI [.long x2, .int x8, .int (x9 - (1 : Int32))] [.int (((4 : Int32) - v122) - v127), .int x7] dL_pieces_263 rfl (by decide) rfl rfl (Nat.le_of_ble_eq_true rfl) ⟨x2, x8, x9 - (1 : Int32), rfl, hc128⟩ ?_
        refine e_isub dL_pieces_266 ?_
        refine e_lload_n dL_pieces_267 rfl ?_
        refine e_iload dL_pieces_268 rfl ?_
        refine e_iload dL_pieces_270 rfl ?_
        refine e_iconst dL_pieces_272 ci_1 ?_
        refine e_iadd dL_pieces_273 ?_
        refine cI_go h (fun E135 hc133 hr136 => e_SX [.long x2, .int x8, .int (x9 + (1 : Int32))] [.int ((((4 : Int32) - v122) - v127) - v132), .int x7] dL_pieces_274 rfl (by decide) rfl rfl (Nat.le_of_ble_eq_true rfl) (hbr hr136 hb9 (Nat.le_of_ble_eq_true rfl)) ⟨x2, x8, x9 + (1 : Int32), rfl, hc133⟩ rfl ⟨hr136.symm, rfl⟩) (fun v137 μ134 hc133 h => ?_)
        refine e_SI [.long x2, .int x8, .int (x9 + (1 : Int32))] [.int ((((4 : Int32) - v122) - v127) - v132), .int x7] dL_pieces_274 rfl (by decide) rfl rfl (Nat.le_of_ble_eq_true rfl) ⟨x2, x8, x9 + (1 : Int32), rfl, hc133⟩ ?_
        refine e_isub dL_pieces_277 ?_
        refine e_goto (tgt := 282) dL_pieces_278 rfl ?_
        exact e_le (g_L_pieces_282 hk181 ih x1 x2 x4 x5 x8 x9 v111 v116 (((((4 : Int32) - v122) - v127) - v132) - v137) x7 μ134 _ hb9 h) ⟨rfl, rfl, rfl, rfl, rfl, rfl, rfl, rfl, rfl, trivial⟩
set_option maxHeartbeats 4000000 in
theorem g_L_pieces_181 {r : Res} {μ' : Mem} : ∀ n : Nat, ∀ (x1 : Int32) (x2 : Int64) (x4 : Int32) (x5 : Int32) (x7 : Int32) (x8 : Int32), ∀ (μ : Mem) (b : Nat), rc r 1 ≤ b → f_L_pieces_181 n x1 x2 x4 x5 x7 x8 μ = some (r, μ') → G mL_pieces (Qe r μ') 181 [some (.ref 0), some (.int x1), some (.long x2), none, some (.int x4), some (.int x5), none, some (.int x7), some (.int x8), none, none, none, none, none] [] μ b := by
  intro n
  induction n with
  | zero => intro x1 x2 x4 x5 x7 x8 μ b hb9 h; exact nomatch (show (none : Out) = some _ from h)
  | succ n ih =>
    intro x1 x2 x4 x5 x7 x8 μ b hb9 h
    rw [f_L_pieces_181.eq_2] at h
    refine e_iload dL_pieces_181 rfl ?_
    refine e_aload_n dL_pieces_183 rfl ?_
    refine e_iconst dL_pieces_184 ci_0 ?_
    refine cI_go h (fun E83 hc81 hr84 => e_VX [.int (0 : Int32)] [.int x8] dL_pieces_185 rfl rfl rfl rfl ⟨Nat.le_of_ble_eq_true rfl, rfl⟩ (Nat.le_of_ble_eq_true rfl) (hbr hr84 hb9 (Nat.le_of_ble_eq_true rfl)) ⟨(0 : Int32), rfl, hc81⟩ rfl ⟨hr84.symm, rfl⟩) (fun v85 μ82 hc81 h => ?_)
    refine e_VI [.int (0 : Int32)] [.int x8] dL_pieces_185 rfl rfl rfl rfl ⟨Nat.le_of_ble_eq_true rfl, rfl⟩ (Nat.le_of_ble_eq_true rfl) ⟨(0 : Int32), rfl, hc81⟩ ?_
    refine e_ic_ge (tgt := 417) dL_pieces_188 rfl (fun hc86 => ?_) (fun hc86 => ?_)
    · rw [if_pos hc86] at h
      refine e_iload dL_pieces_417 rfl ?_
      refine e_lload_n dL_pieces_419 rfl ?_
      refine cI_go h (fun E89 hc87 hr90 => e_SX [.long x2] [.int x4] dL_pieces_420 rfl (by decide) rfl rfl (Nat.le_of_ble_eq_true rfl) (hbr hr90 hb9 (Nat.le_of_ble_eq_true rfl)) ⟨x2, rfl, hc87⟩ rfl ⟨hr90.symm, rfl⟩) (fun v91 μ88 hc87 h => ?_)
      refine e_SI [.long x2] [.int x4] dL_pieces_420 rfl (by decide) rfl rfl (Nat.le_of_ble_eq_true rfl) ⟨x2, rfl, hc87⟩ ?_
      refine e_ic_ne (tgt := 448) dL_pieces_423 rfl (fun hc92 => ?_) (fun hc92 => ?_)
      · rw [if_neg hc92] at h
        refine e_iconst dL_pieces_448 ci_0 ?_
        exact e_iret .boolean dL_pieces_449 rfl rfl (ret_eq h)
      · rw [if_pos hc92] at h
        refine e_iload dL_pieces_426 rfl ?_
        refine e_iload dL_pieces_428 rfl ?_
        refine e_ic_ne (tgt := 448) dL_pieces_430 rfl (fun hc93 => ?_) (fun hc93 => ?_)
        · rw [if_neg hc93] at h
          refine e_iconst dL_pieces_448 ci_0 ?_
          exact e_iret .boolean dL_pieces_449 rfl rfl (ret_eq h)
        · rw [if_pos hc93] at h
          refine e_aload_n dL_pieces_433 rfl ?_
          refine e_bipush dL_pieces_434 cb_8 ?_
          refine cI_go h (fun E96 hc94 hr97 => e_VX [.int (8 : Int32)] [] dL_pieces_436 rfl rfl rfl rfl ⟨Nat.le_of_ble_eq_true rfl, rfl⟩ (Nat.le_of_ble_eq_true rfl) (hbr hr97 hb9 (Nat.le_of_ble_eq_true rfl)) ⟨(8 : Int32), rfl, hc94⟩ rfl ⟨hr97.symm, rfl⟩) (fun v98 μ95 hc94 h => ?_)
          refine e_VI [.int (8 : Int32)] [] dL_pieces_436 rfl rfl rfl rfl ⟨Nat.le_of_ble_eq_true rfl, rfl⟩ (Nat.le_of_ble_eq_true rfl) ⟨(8 : Int32), rfl, hc94⟩ ?_
          refine e_iload dL_pieces_439 rfl ?_
          refine e_ic_ne (tgt := 448) dL_pieces_441 rfl (fun hc99 => ?_) (fun hc99 => ?_)
          · rw [if_neg hc99] at h
            refine e_iconst dL_pieces_448 ci_0 ?_
            exact e_iret .boolean dL_pieces_449 rfl rfl (ret_eq h)
          · rw [if_pos hc99] at h
            refine e_iconst dL_pieces_444 ci_1 ?_
            refine e_goto (tgt := 449) dL_pieces_445 rfl ?_
            exact e_iret .boolean dL_pieces_449 rfl rfl (ret_eq h)
    · rw [if_neg hc86] at h
      refine e_iconst dL_pieces_191 ci_0 ?_
      refine e_istoreL [some (.ref 0), some (.int x1), some (.long x2), none, some (.int x4), some (.int x5), none, some (.int x7), some (.int x8), some (.int (0 : Int32)), none, none, none, none] dL_pieces_192 (Nat.le_of_ble_eq_true rfl) rfl ?_
      exact e_le (g_L_pieces_194 ih BIG x1 x2 x4 x5 x7 x8 (0 : Int32) μ82 _ hb9 h) ⟨rfl, rfl, rfl, rfl, rfl, rfl, rfl, rfl, trivial⟩
set_option maxHeartbeats 4000000 in
theorem g_L_pieces_25 {r : Res} {μ' : Mem} : ∀ n : Nat, ∀ (x1 : Int32) (x2 : Int64) (x4 : Int32) (x5 : Int32) (x6 : Int32) (x7 : Int32), ∀ (μ : Mem) (b : Nat), rc r 1 ≤ b → f_L_pieces_25 n x1 x2 x4 x5 x6 x7 μ = some (r, μ') → G mL_pieces (Qe r μ') 25 [some (.ref 0), some (.int x1), some (.long x2), none, some (.int x4), some (.int x5), some (.int x6), some (.int x7), none, none, none, none, none, none] [] μ b := by
  intro n
  induction n with
  | zero => intro x1 x2 x4 x5 x6 x7 μ b hb9 h; exact nomatch (show (none : Out) = some _ from h)
  | succ n ih =>
    intro x1 x2 x4 x5 x6 x7 μ b hb9 h
    rw [f_L_pieces_25.eq_2] at h
    refine e_iload dL_pieces_25 rfl ?_
    refine e_iload_n dL_pieces_27 rfl ?_
    refine e_ic_ge (tgt := 175) dL_pieces_28 rfl (fun hc11 => ?_) (fun hc11 => ?_)
    · rw [if_pos hc11] at h
      refine e_iconst dL_pieces_175 ci_0 ?_
      refine e_istoreL [some (.ref 0), some (.int x1), some (.long x2), none, some (.int x4), some (.int x5), some (.int x6), some (.int (0 : Int32)), none, none, none, none, none, none] dL_pieces_176 (Nat.le_of_ble_eq_true rfl) rfl ?_
      refine e_iconst dL_pieces_178 ci_0 ?_
      refine e_istoreL [some (.ref 0), some (.int x1), some (.long x2), none, some (.int x4), some (.int x5), some (.int x6), some (.int (0 : Int32)), some (.int (0 : Int32)), none, none, none, none, none] dL_pieces_179 (Nat.le_of_ble_eq_true rfl) rfl ?_
      exact e_le (g_L_pieces_181 BIG x1 x2 x4 x5 (0 : Int32) (0 : Int32) μ _ hb9 h) ⟨rfl, rfl, rfl, rfl, rfl, rfl, rfl, trivial⟩
    · rw [if_neg hc11] at h
      refine e_aload_n dL_pieces_31 rfl ?_
      refine e_iload dL_pieces_32 rfl ?_
      refine e_iconst dL_pieces_34 ci_4 ?_
      refine cI_go h (fun E14 hc12 hr15 => e_VX [.int x7, .int (4 : Int32)] [] dL_pieces_35 rfl rfl rfl rfl ⟨Nat.le_of_ble_eq_true rfl, rfl⟩ (Nat.le_of_ble_eq_true rfl) (hbr hr15 hb9 (Nat.le_of_ble_eq_true rfl)) ⟨x7, (4 : Int32), rfl, hc12⟩ rfl ⟨hr15.symm, rfl⟩) (fun v16 μ13 hc12 h => ?_)
      refine e_VI [.int x7, .int (4 : Int32)] [] dL_pieces_35 rfl rfl rfl rfl ⟨Nat.le_of_ble_eq_true rfl, rfl⟩ (Nat.le_of_ble_eq_true rfl) ⟨x7, (4 : Int32), rfl, hc12⟩ ?_
      refine e_istoreL [some (.ref 0), some (.int x1), some (.long x2), none, some (.int x4), some (.int x5), some (.int x6), some (.int x7), some (.int v16), none, none, none, none, none] dL_pieces_38 (Nat.le_of_ble_eq_true rfl) rfl ?_
      refine e_iload dL_pieces_40 rfl ?_
      refine e_iload dL_pieces_42 rfl ?_
      refine e_ic_le (tgt := 139) dL_pieces_44 rfl (fun hc17 => ?_) (fun hc17 => ?_)
      · rw [if_pos hc17] at h
        refine e_iconst dL_pieces_139 ci_0 ?_
        exact e_iret .boolean dL_pieces_140 rfl rfl (ret_eq h)
      · rw [if_neg hc17] at h
        refine e_aload_n dL_pieces_47 rfl ?_
        refine e_iload dL_pieces_48 rfl ?_
        refine e_bipush dL_pieces_50 cb_10 ?_
        refine e_idiv dL_pieces_52 (by decide) ?_
        refine e_iload dL_pieces_53 rfl ?_
        refine e_bipush dL_pieces_55 cb_10 ?_
        refine e_irem dL_pieces_57 (by decide) ?_
        refine e_iconst dL_pieces_58 ci_2 ?_
        refine cI_go h (fun E20 hc18 hr21 => e_VX [.int (v16 / (10 : Int32)), .int (remI v16 (10 : Int32)), .int (2 : Int32)] [] dL_pieces_59 rfl rfl rfl rfl ⟨Nat.le_of_ble_eq_true rfl, rfl⟩ (Nat.le_of_ble_eq_true rfl) (hbr hr21 hb9 (Nat.le_of_ble_eq_true rfl)) ⟨v16 / (10 : Int32), remI v16 (10 : Int32), (2 : Int32), rfl, hc18⟩ rfl ⟨hr21.symm, rfl⟩) (fun v22 μ19 hc18 h => ?_)
        refine e_VI [.int (v16 / (10 : Int32)), .int (remI v16 (10 : Int32)), .int (2 : Int32)] [] dL_pieces_59 rfl rfl rfl rfl ⟨Nat.le_of_ble_eq_true rfl, rfl⟩ (Nat.le_of_ble_eq_true rfl) ⟨v16 / (10 : Int32), remI v16 (10 : Int32), (2 : Int32), rfl, hc18⟩ ?_
        refine e_iload dL_pieces_62 rfl ?_
        refine e_ic_ne (tgt := 139) dL_pieces_64 rfl (fun hc23 => ?_) (fun hc23 => ?_)
        · rw [if_neg hc23] at h
          refine e_iconst dL_pieces_139 ci_0 ?_
          exact e_iret .boolean dL_pieces_140 rfl rfl (ret_eq h)
        · rw [if_pos hc23] at h
          refine e_aload_n dL_pieces_67 rfl ?_
          refine e_iload dL_pieces_68 rfl ?_
          refine e_iconst dL_pieces_70 ci_0 ?_
          refine cI_go h (fun E26 hc24 hr27 => e_VX [.int x7, .int (0 : Int32)] [] dL_pieces_71 rfl rfl rfl rfl ⟨Nat.le_of_ble_eq_true rfl, rfl⟩ (Nat.le_of_ble_eq_true rfl) (hbr hr27 hb9 (Nat.le_of_ble_eq_true rfl)) ⟨x7, (0 : Int32), rfl, hc24⟩ rfl ⟨hr27.symm, rfl⟩) (fun v28 μ25 hc24 h => ?_)
          refine e_VI [.int x7, .int (0 : Int32)] [] dL_pieces_71 rfl rfl rfl rfl ⟨Nat.le_of_ble_eq_true rfl, rfl⟩ (Nat.le_of_ble_eq_true rfl) ⟨x7, (0 : Int32), rfl, hc24⟩ ?_
          refine e_aload_n dL_pieces_74 rfl ?_
          refine e_iload dL_pieces_75 rfl ?_
          refine e_iconst dL_pieces_77 ci_2 ?_
          refine cI_go h (fun E31 hc29 hr32 => e_VX [.int x7, .int (2 : Int32)] [.int v28] dL_pieces_78 rfl rfl rfl rfl ⟨Nat.le_of_ble_eq_true rfl, rfl⟩ (Nat.le_of_ble_eq_true rfl) (hbr hr32 hb9 (Nat.le_of_ble_eq_true rfl)) ⟨x7, (2 : Int32), rfl, hc29⟩ rfl ⟨hr32.symm, rfl⟩) (fun v33 μ30 hc29 h => ?_)
          refine e_VI [.int x7, .int (2 : Int32)] [.int v28] dL_pieces_78 rfl rfl rfl rfl ⟨Nat.le_of_ble_eq_true rfl, rfl⟩ (Nat.le_of_ble_eq_true rfl) ⟨x7, (2 : Int32), rfl, hc29⟩ ?_
          refine e_ic_lt (tgt := 139) dL_pieces_81 rfl (fun hc34 => ?_) (fun hc34 => ?_)
          · rw [if_pos hc34] at h
            refine e_iconst dL_pieces_139 ci_0 ?_
            exact e_iret .boolean dL_pieces_140 rfl rfl (ret_eq h)
          · rw [if_neg hc34] at h
            refine e_aload_n dL_pieces_84 rfl ?_
            refine e_iload dL_pieces_85 rfl ?_
            refine e_iconst dL_pieces_87 ci_0 ?_
            refine cI_go h (fun E37 hc35 hr38 => e_VX [.int x7, .int (0 : Int32)] [] dL_pieces_88 rfl rfl rfl rfl ⟨Nat.le_of_ble_eq_true rfl, rfl⟩ (Nat.le_of_ble_eq_true rfl) (hbr hr38 hb9 (Nat.le_of_ble_eq_true rfl)) ⟨x7, (0 : Int32), rfl, hc35⟩ rfl ⟨hr38.symm, rfl⟩) (fun v39 μ36 hc35 h => ?_)
            refine e_VI [.int x7, .int (0 : Int32)] [] dL_pieces_88 rfl rfl rfl rfl ⟨Nat.le_of_ble_eq_true rfl, rfl⟩ (Nat.le_of_ble_eq_true rfl) ⟨x7, (0 : Int32), rfl, hc35⟩ ?_
            refine e_aload_n dL_pieces_91 rfl ?_
            refine e_iload dL_pieces_92 rfl ?_
            refine e_iconst dL_pieces_94 ci_3 ?_
            refine cI_go h (fun E42 hc40 hr43 => e_VX [.int x7, .int (3 : Int32)] [.int v39] dL_pieces_95 rfl rfl rfl rfl ⟨Nat.le_of_ble_eq_true rfl, rfl⟩ (Nat.le_of_ble_eq_true rfl) (hbr hr43 hb9 (Nat.le_of_ble_eq_true rfl)) ⟨x7, (3 : Int32), rfl, hc40⟩ rfl ⟨hr43.symm, rfl⟩) (fun v44 μ41 hc40 h => ?_)
            refine e_VI [.int x7, .int (3 : Int32)] [.int v39] dL_pieces_95 rfl rfl rfl rfl ⟨Nat.le_of_ble_eq_true rfl, rfl⟩ (Nat.le_of_ble_eq_true rfl) ⟨x7, (3 : Int32), rfl, hc40⟩ ?_
            refine e_ic_lt (tgt := 139) dL_pieces_98 rfl (fun hc45 => ?_) (fun hc45 => ?_)
            · rw [if_pos hc45] at h
              refine e_iconst dL_pieces_139 ci_0 ?_
              exact e_iret .boolean dL_pieces_140 rfl rfl (ret_eq h)
            · rw [if_neg hc45] at h
              refine e_aload_n dL_pieces_101 rfl ?_
              refine e_iload dL_pieces_102 rfl ?_
              refine e_iconst dL_pieces_104 ci_0 ?_
              refine cI_go h (fun E48 hc46 hr49 => e_VX [.int x7, .int (0 : Int32)] [] dL_pieces_105 rfl rfl rfl rfl ⟨Nat.le_of_ble_eq_true rfl, rfl⟩ (Nat.le_of_ble_eq_true rfl) (hbr hr49 hb9 (Nat.le_of_ble_eq_true rfl)) ⟨x7, (0 : Int32), rfl, hc46⟩ rfl ⟨hr49.symm, rfl⟩) (fun v50 μ47 hc46 h => ?_)
              refine e_VI [.int x7, .int (0 : Int32)] [] dL_pieces_105 rfl rfl rfl rfl ⟨Nat.le_of_ble_eq_true rfl, rfl⟩ (Nat.le_of_ble_eq_true rfl) ⟨x7, (0 : Int32), rfl, hc46⟩ ?_
              refine e_aload_n dL_pieces_108 rfl ?_
              refine e_iload dL_pieces_109 rfl ?_
              refine e_iconst dL_pieces_111 ci_2 ?_
              refine cI_go h (fun E53 hc51 hr54 => e_VX [.int x7, .int (2 : Int32)] [.int v50] dL_pieces_112 rfl rfl rfl rfl ⟨Nat.le_of_ble_eq_true rfl, rfl⟩ (Nat.le_of_ble_eq_true rfl) (hbr hr54 hb9 (Nat.le_of_ble_eq_true rfl)) ⟨x7, (2 : Int32), rfl, hc51⟩ rfl ⟨hr54.symm, rfl⟩) (fun v55 μ52 hc51 h => ?_)
              refine e_VI [.int x7, .int (2 : Int32)] [.int v50] dL_pieces_112 rfl rfl rfl rfl ⟨Nat.le_of_ble_eq_true rfl, rfl⟩ (Nat.le_of_ble_eq_true rfl) ⟨x7, (2 : Int32), rfl, hc51⟩ ?_
              refine e_aload_n dL_pieces_115 rfl ?_
              refine e_iload dL_pieces_116 rfl ?_
              refine e_iconst dL_pieces_118 ci_3 ?_
              refine cI_go h (fun E58 hc56 hr59 => e_VX [.int x7, .int (3 : Int32)] [.int v55, .int v50] dL_pieces_119 rfl rfl rfl rfl ⟨Nat.le_of_ble_eq_true rfl, rfl⟩ (Nat.le_of_ble_eq_true rfl) (hbr hr59 hb9 (Nat.le_of_ble_eq_true rfl)) ⟨x7, (3 : Int32), rfl, hc56⟩ rfl ⟨hr59.symm, rfl⟩) (fun v60 μ57 hc56 h => ?_)
              refine e_VI [.int x7, .int (3 : Int32)] [.int v55, .int v50] dL_pieces_119 rfl rfl rfl rfl ⟨Nat.le_of_ble_eq_true rfl, rfl⟩ (Nat.le_of_ble_eq_true rfl) ⟨x7, (3 : Int32), rfl, hc56⟩ ?_
              refine e_iadd dL_pieces_122 ?_
              refine e_iconst dL_pieces_123 ci_1 ?_
              refine e_isub dL_pieces_124 ?_
              refine e_ic_lt (tgt := 139) dL_pieces_125 rfl (fun hc61 => ?_) (fun hc61 => ?_)
              · rw [if_pos hc61] at h
                refine e_iconst dL_pieces_139 ci_0 ?_
                exact e_iret .boolean dL_pieces_140 rfl rfl (ret_eq h)
              · rw [if_neg hc61] at h
                refine e_aload_n dL_pieces_128 rfl ?_
                refine e_iload dL_pieces_129 rfl ?_
                refine e_iconst dL_pieces_131 ci_1 ?_
                refine cI_go h (fun E64 hc62 hr65 => e_VX [.int x7, .int (1 : Int32)] [] dL_pieces_132 rfl rfl rfl rfl ⟨Nat.le_of_ble_eq_true rfl, rfl⟩ (Nat.le_of_ble_eq_true rfl) (hbr hr65 hb9 (Nat.le_of_ble_eq_true rfl)) ⟨x7, (1 : Int32), rfl, hc62⟩ rfl ⟨hr65.symm, rfl⟩) (fun v66 μ63 hc62 h => ?_)
                refine e_VI [.int x7, .int (1 : Int32)] [] dL_pieces_132 rfl rfl rfl rfl ⟨Nat.le_of_ble_eq_true rfl, rfl⟩ (Nat.le_of_ble_eq_true rfl) ⟨x7, (1 : Int32), rfl, hc62⟩ ?_
                refine e_iconst dL_pieces_135 ci_4 ?_
                refine e_ic_ge (tgt := 141) dL_pieces_136 rfl (fun hc67 => ?_) (fun hc67 => ?_)
                · rw [if_pos hc67] at h
                  refine e_iload dL_pieces_141 rfl ?_
                  refine e_istoreL [some (.ref 0), some (.int x1), some (.long x2), none, some (.int x4), some (.int x5), some (.int v16), some (.int x7), some (.int v16), none, none, none, none, none] dL_pieces_143 (Nat.le_of_ble_eq_true rfl) rfl ?_
                  refine e_iload dL_pieces_145 rfl ?_
                  refine e_aload_n dL_pieces_147 rfl ?_
                  refine e_iload dL_pieces_148 rfl ?_
                  refine e_iconst dL_pieces_150 ci_0 ?_
                  refine cI_go h (fun E70 hc68 hr71 => e_VX [.int x7, .int (0 : Int32)] [.int x4] dL_pieces_151 rfl rfl rfl rfl ⟨Nat.le_of_ble_eq_true rfl, rfl⟩ (Nat.le_of_ble_eq_true rfl) (hbr hr71 hb9 (Nat.le_of_ble_eq_true rfl)) ⟨x7, (0 : Int32), rfl, hc68⟩ rfl ⟨hr71.symm, rfl⟩) (fun v72 μ69 hc68 h => ?_)
                  refine e_VI [.int x7, .int (0 : Int32)] [.int x4] dL_pieces_151 rfl rfl rfl rfl ⟨Nat.le_of_ble_eq_true rfl, rfl⟩ (Nat.le_of_ble_eq_true rfl) ⟨x7, (0 : Int32), rfl, hc68⟩ ?_
                  refine e_iadd dL_pieces_154 ?_
                  refine e_naI h (fun v73 ev73 h => ?_)
                  refine e_istoreL [some (.ref 0), some (.int x1), some (.long x2), none, some (.int v73), some (.int x5), some (.int v16), some (.int x7), some (.int v16), none, none, none, none, none] dL_pieces_155 (Nat.le_of_ble_eq_true rfl) rfl ?_
                  refine e_iload dL_pieces_157 rfl ?_
                  refine e_aload_n dL_pieces_159 rfl ?_
                  refine e_iload dL_pieces_160 rfl ?_
                  refine e_iconst dL_pieces_162 ci_1 ?_
                  refine cI_go h (fun E76 hc74 hr77 => e_VX [.int x7, .int (1 : Int32)] [.int x5] dL_pieces_163 rfl rfl rfl rfl ⟨Nat.le_of_ble_eq_true rfl, rfl⟩ (Nat.le_of_ble_eq_true rfl) (hbr hr77 hb9 (Nat.le_of_ble_eq_true rfl)) ⟨x7, (1 : Int32), rfl, hc74⟩ rfl ⟨hr77.symm, rfl⟩) (fun v78 μ75 hc74 h => ?_)
                  refine e_VI [.int x7, .int (1 : Int32)] [.int x5] dL_pieces_163 rfl rfl rfl rfl ⟨Nat.le_of_ble_eq_true rfl, rfl⟩ (Nat.le_of_ble_eq_true rfl) ⟨x7, (1 : Int32), rfl, hc74⟩ ?_
                  refine e_iadd dL_pieces_166 ?_
                  refine e_naI h (fun v79 ev79 h => ?_)
                  refine e_istoreL [some (.ref 0), some (.int x1), some (.long x2), none, some (.int v73), some (.int v79), some (.int v16), some (.int x7), some (.int v16), none, none, none, none, none] dL_pieces_167 (Nat.le_of_ble_eq_true rfl) rfl ?_
                  refine e_iincN 7 (1 : Int32) dL_pieces_169 rfl ci_1 h (fun y9 => [some (.ref 0), some (.int x1), some (.long x2), none, some (.int v73), some (.int v79), some (.int v16), some (.int y9), some (.int v16), none, none, none, none, none]) (fun _ => rfl) (fun v80 ev80 h => ?_)
                  refine e_goto (tgt := 25) dL_pieces_172 rfl ?_
                  exact e_le (ih x1 x2 v73 v79 v16 v80 μ75 _ hb9 h) ⟨rfl, rfl, rfl, rfl, rfl, rfl, rfl, trivial⟩
                · rw [if_neg hc67] at h
                  refine e_iconst dL_pieces_139 ci_0 ?_
                  exact e_iret .boolean dL_pieces_140 rfl rfl (ret_eq h)
set_option maxHeartbeats 4000000 in
theorem b_L_pieces : ∀ as μ r μ', Γ_L_pieces as μ r μ' → (elvL as).length ≤ 14 ∧ G mL_pieces (Qe r μ') 0 (elv as 14) [] μ (rc r 1) := by
  intro as μ r μ' h
  obtain ⟨rfl, h⟩ := h
  refine ⟨Nat.le_of_ble_eq_true rfl, ?_⟩
  show G mL_pieces (Qe r μ') 0 [some (.ref 0), none, none, none, none, none, none, none, none, none, none, none, none, none] [] μ (rc r 1)
  unfold F_L_pieces at h
  have hb9 : rc r 1 ≤ rc r 1 := Nat.le_refl _
  refine e_aload_n dL_pieces_0 rfl ?_
  refine e_bipush dL_pieces_1 cb_7 ?_
  refine cI_go h (fun E3 hc1 hr4 => e_VX [.int (7 : Int32)] [] dL_pieces_3 rfl rfl rfl rfl ⟨Nat.le_of_ble_eq_true rfl, rfl⟩ (Nat.le_of_ble_eq_true rfl) (hbr hr4 hb9 (Nat.le_of_ble_eq_true rfl)) ⟨(7 : Int32), rfl, hc1⟩ rfl ⟨hr4.symm, rfl⟩) (fun v5 μ2 hc1 h => ?_)
  refine e_VI [.int (7 : Int32)] [] dL_pieces_3 rfl rfl rfl rfl ⟨Nat.le_of_ble_eq_true rfl, rfl⟩ (Nat.le_of_ble_eq_true rfl) ⟨(7 : Int32), rfl, hc1⟩ ?_
  refine e_istore_nL [some (.ref 0), some (.int v5), none, none, none, none, none, none, none, none, none, none, none, none] dL_pieces_6 (Nat.le_of_ble_eq_true rfl) rfl ?_
  refine e_aload_n dL_pieces_7 rfl ?_
  refine e_iconst dL_pieces_8 ci_0 ?_
  refine cJ_go h (fun E8 hc6 hr9 => e_SX [.ref 0, .int (0 : Int32)] [] dL_pieces_9 rfl (by decide) rfl rfl (Nat.le_of_ble_eq_true rfl) (hbr hr9 hb9 (Nat.le_of_ble_eq_true rfl)) ⟨(0 : Int32), rfl, hc6⟩ rfl ⟨hr9.symm, rfl⟩) (fun v10 μ7 hc6 h => ?_)
  refine e_SJ [.ref 0, .int (0 : Int32)] [] dL_pieces_9 rfl (by decide) rfl rfl (Nat.le_of_ble_eq_true rfl) ⟨(0 : Int32), rfl, hc6⟩ ?_
  refine e_lstore_nL [some (.ref 0), some (.int v5), some (.long v10), none, none, none, none, none, none, none, none, none, none, none] dL_pieces_12 (Nat.le_of_ble_eq_true rfl) rfl ?_
  refine e_iconst dL_pieces_13 ci_0 ?_
  refine e_istoreL [some (.ref 0), some (.int v5), some (.long v10), none, some (.int (0 : Int32)), none, none, none, none, none, none, none, none, none] dL_pieces_14 (Nat.le_of_ble_eq_true rfl) rfl ?_
  refine e_iconst dL_pieces_16 ci_0 ?_
  refine e_istoreL [some (.ref 0), some (.int v5), some (.long v10), none, some (.int (0 : Int32)), some (.int (0 : Int32)), none, none, none, none, none, none, none, none] dL_pieces_17 (Nat.le_of_ble_eq_true rfl) rfl ?_
  refine e_iconst dL_pieces_19 ci_m1 ?_
  refine e_istoreL [some (.ref 0), some (.int v5), some (.long v10), none, some (.int (0 : Int32)), some (.int (0 : Int32)), some (.int (-1 : Int32)), none, none, none, none, none, none, none] dL_pieces_20 (Nat.le_of_ble_eq_true rfl) rfl ?_
  refine e_iconst dL_pieces_22 ci_0 ?_
  refine e_istoreL [some (.ref 0), some (.int v5), some (.long v10), none, some (.int (0 : Int32)), some (.int (0 : Int32)), some (.int (-1 : Int32)), some (.int (0 : Int32)), none, none, none, none, none, none] dL_pieces_23 (Nat.le_of_ble_eq_true rfl) rfl ?_
  exact e_le (g_L_pieces_25 BIG v5 v10 (0 : Int32) (0 : Int32) (-1 : Int32) (0 : Int32) μ7 _ hb9 h) ⟨rfl, rfl, rfl, rfl, rfl, rfl, rfl, trivial⟩
set_option maxRecDepth 20000 in
theorem ok_L_pieces (l : Launch) (hl : l.stackTraces = false) : MOK l yL_pieces.cls 9 170 mL_pieces := ⟨lk_all (List.forall_mem_cons.mpr ⟨⟨yX7_about, cX7_about, 2, (some .int), 6, 90, by decide, by decide, t_1 1 rfl rfl, hd_X7_about, Or.inr (Or.inl ⟨rfl, sc_X7_about l hl, t_1 148 rfl rfl, t_1 145 rfl rfl, t_1 146 rfl rfl, _, rfl, t_1 147 rfl rfl⟩)⟩, List.forall_mem_cons.mpr ⟨⟨yX7_cell, cX7_cell, 6, (some .int), 7, 120, by decide, by decide, t_1 1 rfl rfl, hd_X7_cell, Or.inr (Or.inl ⟨rfl, sc_X7_cell l hl, t_2 119 rfl rfl, t_2 116 rfl rfl, t_2 117 rfl rfl, _, rfl, t_2 118 rfl rfl⟩)⟩, List.forall_mem_cons.mpr ⟨⟨yL_bits, cL_bits, 6, (some .long), 8, 145, by decide, by decide, t_1 0 rfl rfl, hd_L_bits, Or.inl ⟨rfl, sc_L_bits l hl, t_3 132 rfl rfl, t_3 130 rfl rfl, t_3 131 rfl rfl⟩⟩, List.forall_mem_cons.mpr ⟨⟨yL_at, cL_at, 4, (some .int), 1, 0, by decide, by decide, t_1 0 rfl rfl, hd_L_at, Or.inl ⟨rfl, sc_L_at l hl, t_3 138 rfl rfl, t_3 136 rfl rfl, t_3 137 rfl rfl⟩⟩, List.forall_mem_cons.mpr ⟨⟨yL_ones, cL_ones, 4, (some .int), 1, 0, by decide, by decide, t_1 0 rfl rfl, hd_L_ones, Or.inl ⟨rfl, sc_L_ones l hl, t_3 145 rfl rfl, t_3 143 rfl rfl, t_3 144 rfl rfl⟩⟩, List.forall_mem_cons.mpr ⟨⟨yX7_piece, cX7_piece, 5, (some .int), 6, 90, by decide, by decide, t_1 1 rfl rfl, hd_X7_piece, Or.inr (Or.inl ⟨rfl, sc_X7_piece l hl, t_3 155 rfl rfl, t_3 152 rfl rfl, t_3 153 rfl rfl, _, rfl, t_3 154 rfl rfl⟩)⟩, nil_all⟩⟩⟩⟩⟩⟩), fun ix ci j h => lk_all (P := fun ix q => FldOK yL_pieces.cls ix q.1 q.2) (nil_all) ix (ci, j) h, lk_all (nil_all), lk_all (nil_all), lk_all (nil_all)⟩
theorem hd_L_pieces : CallHd yL_pieces 1 := ⟨by decide +kernel, by decide +kernel, by decide +kernel⟩
theorem sc_L_pieces (l : Launch) (hl : l.stackTraces = false) : SCon l yL_pieces cL_pieces 14 (some .boolean) 9 170 1 Γ_L_pieces := scon_of mL_pieces cls_ok hl (by decide +kernel) rfl rfl (ok_L_pieces l hl) rfl rfl b_L_pieces
