def f_L_lines_227 (k40 : Int32 → Int32 → Int64 → Int64 → Int32 → Int32 → Int32 → Int32 → Int32 → Mem → Out) (k79 : Int32 → Int32 → Int64 → Int64 → Int32 → Int32 → Int32 → Int32 → Int32 → Int32 → Int32 → Int32 → Int32 → Int32 → Int32 → Int32 → Mem → Out) (x1 : Int32) (x2 : Int32) (x3 : Int64) (x5 : Int64) (x7 : Int32) (x8 : Int32) (x9 : Int32) (x10 : Int32) (x11 : Int32) (x12 : Int32) (x13 : Int32) (x14 : Int32) (x15 : Int32) (x17 : Int32) (x18 : Int32) (x19 : Int32) (x20 : Int32) (x21 : Int32) (s0 : Int32) (s1 : Int32) (μ : Mem) : Out := lt (s1 + s0) (fun v142 => if x21 = (1 : Int32) then (cI (F_L_at x5 x19 x20 μ) (fun v150 μ147 => lt (x17 + v150) (fun v151 => lt (x18 + (1 : Int32)) (fun v152 => k79 x1 x2 x3 x5 x7 x8 x9 x10 x11 x12 x13 x14 x15 v142 v151 v152 μ147)))) else (lt (x17 + (0 : Int32)) (fun v144 => lt (x18 + (1 : Int32)) (fun v145 => k79 x1 x2 x3 x5 x7 x8 x9 x10 x11 x12 x13 x14 x15 v142 v144 v145 μ))))
def f_L_lines_204 (k40 : Int32 → Int32 → Int64 → Int64 → Int32 → Int32 → Int32 → Int32 → Int32 → Mem → Out) (k79 : Int32 → Int32 → Int64 → Int64 → Int32 → Int32 → Int32 → Int32 → Int32 → Int32 → Int32 → Int32 → Int32 → Int32 → Int32 → Int32 → Mem → Out) (x1 : Int32) (x2 : Int32) (x3 : Int64) (x5 : Int64) (x7 : Int32) (x8 : Int32) (x9 : Int32) (x10 : Int32) (x11 : Int32) (x12 : Int32) (x13 : Int32) (x14 : Int32) (x16 : Int32) (x17 : Int32) (x18 : Int32) (x19 : Int32) (x20 : Int32) (x21 : Int32) (s0 : Int32) (s1 : Int32) (μ : Mem) : Out := lt (s1 + s0) (fun v120 => if x21 = 0 then (cI (F_L_at x5 x19 x20 μ) (fun v126 μ123 => f_L_lines_227 k40 k79 x1 x2 x3 x5 x7 x8 x9 x10 x11 x12 x13 x14 v120 x17 x18 x19 x20 x21 v126 x16 μ123)) else (f_L_lines_227 k40 k79 x1 x2 x3 x5 x7 x8 x9 x10 x11 x12 x13 x14 v120 x17 x18 x19 x20 x21 (0 : Int32) x16 μ))
def f_L_lines_178 (k40 : Int32 → Int32 → Int64 → Int64 → Int32 → Int32 → Int32 → Int32 → Int32 → Mem → Out) (k79 : Int32 → Int32 → Int64 → Int64 → Int32 → Int32 → Int32 → Int32 → Int32 → Int32 → Int32 → Int32 → Int32 → Int32 → Int32 → Int32 → Mem → Out) (x1 : Int32) (x2 : Int32) (x3 : Int64) (x5 : Int64) (x7 : Int32) (x8 : Int32) (x9 : Int32) (x10 : Int32) (x11 : Int32) (x12 : Int32) (x13 : Int32) (x14 : Int32) (x16 : Int32) (x17 : Int32) (x18 : Int32) (x19 : Int32) (x20 : Int32) (x21 : Int32) (s0 : Int32) (s1 : Int64) (s2 : Int32) (μ : Mem) : Out := if x1 ≤ x11 then (cI (F_L_at s1 s0 x20 μ) (fun v132 μ129 => if v132 = 0 then (f_L_lines_204 k40 k79 x1 x2 x3 x5 x7 x8 x9 x10 x11 x12 x13 x14 x16 x17 x18 x19 x20 x21 (1 : Int32) s2 μ129) else (f_L_lines_204 k40 k79 x1 x2 x3 x5 x7 x8 x9 x10 x11 x12 x13 x14 x16 x17 x18 x19 x20 x21 (0 : Int32) s2 μ129))) else (cI (F_L_at s1 s0 (x20 - (1 : Int32)) μ) (fun v138 μ135 => if v138 = 0 then (f_L_lines_204 k40 k79 x1 x2 x3 x5 x7 x8 x9 x10 x11 x12 x13 x14 x16 x17 x18 x19 x20 x21 (1 : Int32) s2 μ135) else (f_L_lines_204 k40 k79 x1 x2 x3 x5 x7 x8 x9 x10 x11 x12 x13 x14 x16 x17 x18 x19 x20 x21 (0 : Int32) s2 μ135)))
def f_L_lines_116 (k40 : Int32 → Int32 → Int64 → Int64 → Int32 → Int32 → Int32 → Int32 → Int32 → Mem → Out) (k79 : Int32 → Int32 → Int64 → Int64 → Int32 → Int32 → Int32 → Int32 → Int32 → Int32 → Int32 → Int32 → Int32 → Int32 → Int32 → Int32 → Mem → Out) (x1 : Int32) (x2 : Int32) (x3 : Int64) (x5 : Int64) (x7 : Int32) (x8 : Int32) (x9 : Int32) (x10 : Int32) (x11 : Int32) (x12 : Int32) (x13 : Int32) (x14 : Int32) (x15 : Int32) (x16 : Int32) (x17 : Int32) (x18 : Int32) (x19 : Int32) (s0 : Int32) (μ : Mem) : Out := cI (F_L_at x3 x19 s0 μ) (fun v108 μ105 => lt (x13 + v108) (fun v109 => cI (F_L_at x5 x19 s0 μ105) (fun v114 μ111 => lt (x14 + v114) (fun v115 => if v108 = (1 : Int32) then (if x18 = 0 then (f_L_lines_204 k40 k79 x1 x2 x3 x5 x7 x8 x9 x10 x11 x12 v109 v115 x16 x17 x18 x19 s0 v108 (1 : Int32) x15 μ111) else (if x1 ≤ x11 then (f_L_lines_178 k40 k79 x1 x2 x3 x5 x7 x8 x9 x10 x11 x12 v109 v115 x16 x17 x18 x19 s0 v108 (x19 - (1 : Int32)) x3 x15 μ111) else (f_L_lines_178 k40 k79 x1 x2 x3 x5 x7 x8 x9 x10 x11 x12 v109 v115 x16 x17 x18 x19 s0 v108 x19 x3 x15 μ111))) else (f_L_lines_204 k40 k79 x1 x2 x3 x5 x7 x8 x9 x10 x11 x12 v109 v115 x16 x17 x18 x19 s0 v108 (0 : Int32) x15 μ111)))))
def f_L_lines_99 (k40 : Int32 → Int32 → Int64 → Int64 → Int32 → Int32 → Int32 → Int32 → Int32 → Mem → Out) (k79 : Int32 → Int32 → Int64 → Int64 → Int32 → Int32 → Int32 → Int32 → Int32 → Int32 → Int32 → Int32 → Int32 → Int32 → Int32 → Int32 → Mem → Out) (x1 : Int32) (x2 : Int32) (x3 : Int64) (x5 : Int64) (x7 : Int32) (x8 : Int32) (x9 : Int32) (x10 : Int32) (x11 : Int32) (x12 : Int32) (x13 : Int32) (x14 : Int32) (x15 : Int32) (x16 : Int32) (x17 : Int32) (x18 : Int32) (s0 : Int32) (μ : Mem) : Out := if x1 ≤ x11 then (f_L_lines_116 k40 k79 x1 x2 x3 x5 x7 x8 x9 x10 x11 x12 x13 x14 x15 x16 x17 x18 s0 (x11 - x1) μ) else (f_L_lines_116 k40 k79 x1 x2 x3 x5 x7 x8 x9 x10 x11 x12 x13 x14 x15 x16 x17 x18 s0 x18 μ)
def f_L_lines_463 (k40 : Int32 → Int32 → Int64 → Int64 → Int32 → Int32 → Int32 → Int32 → Int32 → Mem → Out) (x1 : Int32) (x2 : Int32) (x3 : Int64) (x5 : Int64) (x7 : Int32) (x8 : Int32) (x10 : Int32) (x11 : Int32) (x18 : Int32) (s0 : Int32) (s1 : Int32) (μ : Mem) : Out := lt (s1 + s0) (fun v155 => lt (x10 + x18) (fun v156 => lt (x11 + (1 : Int32)) (fun v157 => k40 x1 x2 x3 x5 x7 x8 v155 v156 v157 μ)))
def f_L_lines_446 (k40 : Int32 → Int32 → Int64 → Int64 → Int32 → Int32 → Int32 → Int32 → Int32 → Mem → Out) (x1 : Int32) (x2 : Int32) (x3 : Int64) (x5 : Int64) (x7 : Int32) (x9 : Int32) (x10 : Int32) (x11 : Int32) (x13 : Int32) (x18 : Int32) (s0 : Int32) (s1 : Int32) (μ : Mem) : Out := lt (s1 + s0) (fun v153 => if x13 = x18 then (f_L_lines_463 k40 x1 x2 x3 x5 x7 v153 x10 x11 x18 (0 : Int32) x9 μ) else (f_L_lines_463 k40 x1 x2 x3 x5 x7 v153 x10 x11 x18 (1 : Int32) x9 μ))
def f_L_lines_429 (k40 : Int32 → Int32 → Int64 → Int64 → Int32 → Int32 → Int32 → Int32 → Int32 → Mem → Out) (x1 : Int32) (x2 : Int32) (x3 : Int64) (x5 : Int64) (x8 : Int32) (x9 : Int32) (x10 : Int32) (x11 : Int32) (x13 : Int32) (x18 : Int32) (s0 : Int32) (s1 : Int32) (μ : Mem) : Out := lt (s1 + s0) (fun v140 => if x1 ≤ x11 then (f_L_lines_446 k40 x1 x2 x3 x5 v140 x9 x10 x11 x13 x18 x13 x8 μ) else (f_L_lines_446 k40 x1 x2 x3 x5 v140 x9 x10 x11 x13 x18 (0 : Int32) x8 μ))
def f_L_lines_415 (k40 : Int32 → Int32 → Int64 → Int64 → Int32 → Int32 → Int32 → Int32 → Int32 → Mem → Out) (x1 : Int32) (x2 : Int32) (x3 : Int64) (x5 : Int64) (x7 : Int32) (x8 : Int32) (x9 : Int32) (x10 : Int32) (x11 : Int32) (x13 : Int32) (x18 : Int32) (μ : Mem) : Out := if x1 ≤ x11 then (f_L_lines_429 k40 x1 x2 x3 x5 x8 x9 x10 x11 x13 x18 (0 : Int32) x7 μ) else (f_L_lines_429 k40 x1 x2 x3 x5 x8 x9 x10 x11 x13 x18 x13 x7 μ)
def f_L_lines_383 (k40 : Int32 → Int32 → Int64 → Int64 → Int32 → Int32 → Int32 → Int32 → Int32 → Mem → Out) (x1 : Int32) (x2 : Int32) (x3 : Int64) (x5 : Int64) (x7 : Int32) (x8 : Int32) (x9 : Int32) (x10 : Int32) (x11 : Int32) (x13 : Int32) (x15 : Int32) (x18 : Int32) (x20 : Int32) (s0 : Int32) (s1 : Int32) (μ : Mem) : Out := if s1 < s0 then (rI (0 : Int32) μ) else (if (x15 * x20) < x13 then (rI (0 : Int32) μ) else (if ((x15 + x20) - (1 : Int32)) ≤ x13 then (f_L_lines_415 k40 x1 x2 x3 x5 x7 x8 x9 x10 x11 x13 x18 μ) else (if x15 ≤ 0 then (f_L_lines_415 k40 x1 x2 x3 x5 x7 x8 x9 x10 x11 x13 x18 μ) else (rI (0 : Int32) μ))))
def f_L_lines_306 (k40 : Int32 → Int32 → Int64 → Int64 → Int32 → Int32 → Int32 → Int32 → Int32 → Mem → Out) (x1 : Int32) (x2 : Int32) (x3 : Int64) (x5 : Int64) (x7 : Int32) (x8 : Int32) (x9 : Int32) (x10 : Int32) (x11 : Int32) (x13 : Int32) (x14 : Int32) (x15 : Int32) (x18 : Int32) (s0 : Int32) (μ : Mem) : Out := cI (F_X7_line x11 (3 : Int32) μ) (fun v72 μ69 => cI (F_X7_line x11 (0 : Int32) μ69) (fun v77 μ74 => if v77 = x13 then (cI (F_X7_line x11 (4 : Int32) μ74) (fun v83 μ80 => if v83 = x14 then (cI (F_X7_line x11 (2 : Int32) μ80) (fun v89 μ86 => if v89 = x15 then (cI (F_X7_whyNot x11 μ86) (fun v95 μ92 => if v95 = s0 then (if x13 < v72 then (rI (0 : Int32) μ92) else (if x13 = 0 then (f_L_lines_383 k40 x1 x2 x3 x5 x7 x8 x9 x10 x11 x13 x15 x18 v72 (0 : Int32) v72 μ92) else (f_L_lines_383 k40 x1 x2 x3 x5 x7 x8 x9 x10 x11 x13 x15 x18 v72 (1 : Int32) v72 μ92))) else (rI (0 : Int32) μ92))) else (rI (0 : Int32) μ86))) else (rI (0 : Int32) μ80))) else (rI (0 : Int32) μ74)))
def f_L_lines_79 (k40 : Int32 → Int32 → Int64 → Int64 → Int32 → Int32 → Int32 → Int32 → Int32 → Mem → Out) : Nat → Int32 → Int32 → Int64 → Int64 → Int32 → Int32 → Int32 → Int32 → Int32 → Int32 → Int32 → Int32 → Int32 → Int32 → Int32 → Int32 → Mem → Out
  | 0, _, _, _, _, _, _, _, _, _, _, _, _, _, _, _, _, _ => none
  | n + 1, x1, x2, x3, x5, x7, x8, x9, x10, x11, x12, x13, x14, x15, x16, x17, x18, μ => if x12 ≤ x18 then (cI (F_X7_line x11 (1 : Int32) μ) (fun v63 μ60 => if x13 = v63 then (f_L_lines_306 k40 x1 x2 x3 x5 x7 x8 x9 x10 x11 x13 x14 x15 v63 (0 : Int32) μ60) else (if v63 ≤ (x12 - x16) then (if x17 ≤ v63 then (f_L_lines_306 k40 x1 x2 x3 x5 x7 x8 x9 x10 x11 x13 x14 x15 v63 (3 : Int32) μ60) else (f_L_lines_306 k40 x1 x2 x3 x5 x7 x8 x9 x10 x11 x13 x14 x15 v63 (2 : Int32) μ60)) else (f_L_lines_306 k40 x1 x2 x3 x5 x7 x8 x9 x10 x11 x13 x14 x15 v63 (1 : Int32) μ60)))) else (if x1 ≤ x11 then (f_L_lines_99 k40 (f_L_lines_79 k40 n) x1 x2 x3 x5 x7 x8 x9 x10 x11 x12 x13 x14 x15 x16 x17 x18 x18 μ) else (f_L_lines_99 k40 (f_L_lines_79 k40 n) x1 x2 x3 x5 x7 x8 x9 x10 x11 x12 x13 x14 x15 x16 x17 x18 x11 μ))
def f_L_lines_59 (k40 : Int32 → Int32 → Int64 → Int64 → Int32 → Int32 → Int32 → Int32 → Int32 → Mem → Out) (x1 : Int32) (x2 : Int32) (x3 : Int64) (x5 : Int64) (x7 : Int32) (x8 : Int32) (x9 : Int32) (x10 : Int32) (x11 : Int32) (s0 : Int32) (μ : Mem) : Out := f_L_lines_79 k40 BIG x1 x2 x3 x5 x7 x8 x9 x10 x11 s0 (0 : Int32) (0 : Int32) (0 : Int32) (0 : Int32) (0 : Int32) (0 : Int32) μ
def f_L_lines_40 : Nat → Int32 → Int32 → Int64 → Int64 → Int32 → Int32 → Int32 → Int32 → Int32 → Mem → Out
  | 0, _, _, _, _, _, _, _, _, _, _ => none
  | n + 1, x1, x2, x3, x5, x7, x8, x9, x10, x11, μ => if (x1 + x2) ≤ x11 then (if x7 = x8 then (cI (F_X7_about (2 : Int32) μ) (fun v27 μ24 => if v27 = x7 then (cI (F_X7_about (6 : Int32) μ24) (fun v33 μ30 => if v33 = x9 then (cI (F_X7_about (4 : Int32) μ30) (fun v39 μ36 => cI (F_X7_about (5 : Int32) μ36) (fun v44 μ41 => if (v39 + v44) = x10 then (cI (F_X7_about (3 : Int32) μ41) (fun v50 μ47 => cI (F_L_ones x5 μ47) (fun v55 μ52 => if v50 = v55 then (rI (1 : Int32) μ52) else (rI (0 : Int32) μ52)))) else (rI (0 : Int32) μ41)))) else (rI (0 : Int32) μ30))) else (rI (0 : Int32) μ24))) else (rI (0 : Int32) μ)) else (if x1 ≤ x11 then (f_L_lines_59 (f_L_lines_40 n) x1 x2 x3 x5 x7 x8 x9 x10 x11 x1 μ) else (f_L_lines_59 (f_L_lines_40 n) x1 x2 x3 x5 x7 x8 x9 x10 x11 x2 μ))
def F_L_lines (μ : Mem) : Out := cI (F_X7_about (0 : Int32) μ) (fun v5 μ2 => cI (F_X7_about (1 : Int32) μ2) (fun v10 μ7 => cJ (F_L_bits (0 : Int32) μ7) (fun v15 μ12 => cJ (F_L_bits (1 : Int32) μ12) (fun v20 μ17 => f_L_lines_40 BIG v5 v10 v15 v20 (0 : Int32) (0 : Int32) (0 : Int32) (0 : Int32) (0 : Int32) μ17))))
def Γ_L_lines : Gam := fun as μ r μ' => as = [.ref 0] ∧ F_L_lines μ = some (r, μ')
def mL_lines : MI := (cL_lines, [(27, (1, 1, 1, 5, Γ_X7_about)), (34, (0, 2, 1, 0, Γ_L_bits)), (40, (0, 3, 0, 0, Γ_L_at)), (44, (1, 2, 1, 5, Γ_X7_line)), (48, (1, 1, 1, 5, Γ_X7_whyNot)), (51, (0, 1, 0, 0, Γ_L_ones))], [], [], [], [], [], (29, none), (some .boolean))
set_option maxHeartbeats 4000000 in
theorem g_L_lines_227 {r : Res} {μ' : Mem} {k40 : Int32 → Int32 → Int64 → Int64 → Int32 → Int32 → Int32 → Int32 → Int32 → Mem → Out} {k79 : Int32 → Int32 → Int64 → Int64 → Int32 → Int32 → Int32 → Int32 → Int32 → Int32 → Int32 → Int32 → Int32 → Int32 → Int32 → Int32 → Mem → Out} (hk40 : ∀ (x1 : Int32) (x2 : Int32) (x3 : Int64) (x5 : Int64) (x7 : Int32) (x8 : Int32) (x9 : Int32) (x10 : Int32) (x11 : Int32), ∀ (μ : Mem) (b : Nat), rc r 1 ≤ b → k40 x1 x2 x3 x5 x7 x8 x9 x10 x11 μ = some (r, μ') → G mL_lines (Qe r μ') 40 [some (.ref 0), some (.int x1), some (.int x2), some (.long x3), none, some (.long x5), none, some (.int x7), some (.int x8), some (.int x9), some (.int x10), some (.int x11), none, none, none, none, none, none, none, none, none, none] [] μ b) (hk79 : ∀ (x1 : Int32) (x2 : Int32) (x3 : Int64) (x5 : Int64) (x7 : Int32) (x8 : Int32) (x9 : Int32) (x10 : Int32) (x11 : Int32) (x12 : Int32) (x13 : Int32) (x14 : Int32) (x15 : Int32) (x16 : Int32) (x17 : Int32) (x18 : Int32), ∀ (μ : Mem) (b : Nat), rc r 1 ≤ b → k79 x1 x2 x3 x5 x7 x8 x9 x10 x11 x12 x13 x14 x15 x16 x17 x18 μ = some (r, μ') → G mL_lines (Qe r μ') 79 [some (.ref 0), some (.int x1), some (.int x2), some (.long x3), none, some (.long x5), none, some (.int x7), some (.int x8), some (.int x9), some (.int x10), some (.int x11), some (.int x12), some (.int x13), some (.int x14), some (.int x15), some (.int x16), some (.int x17), some (.int x18), none, none, none] [] μ b) : ∀ (x1 : Int32) (x2 : Int32) (x3 : Int64) (x5 : Int64) (x7 : Int32) (x8 : Int32) (x9 : Int32) (x10 : Int32) (x11 : Int32) (x12 : Int32) (x13 : Int32) (x14 : Int32) (x15 : Int32) (x17 : Int32) (x18 : Int32) (x19 : Int32) (x20 : Int32) (x21 : Int32) (s0 : Int32) (s1 : Int32), ∀ (μ : Mem) (b : Nat), rc r 1 ≤ b → f_L_lines_227 k40 k79 x1 x2 x3 x5 x7 x8 x9 x10 x11 x12 x13 x14 x15 x17 x18 x19 x20 x21 s0 s1 μ = some (r, μ') → G mL_lines (Qe r μ') 227 [some (.ref 0), some (.int x1), some (.int x2), some (.long x3), none, some (.long x5), none, some (.int x7), some (.int x8), some (.int x9), some (.int x10), some (.int x11), some (.int x12), some (.int x13), some (.int x14), some (.int x15), none, some (.int x17), some (.int x18), some (.int x19), some (.int x20), some (.int x21)] [.int s0, .int s1] μ b := by
  intro x1 x2 x3 x5 x7 x8 x9 x10 x11 x12 x13 x14 x15 x17 x18 x19 x20 x21 s0 s1 μ b hb9 h
  unfold f_L_lines_227 at h
  refine e_iadd dL_lines_227 ?_
  refine e_naI h (fun v142 ev142 h => ?_)
  refine e_istoreL [some (.ref 0), some (.int x1), some (.int x2), some (.long x3), none, some (.long x5), none, some (.int x7), some (.int x8), some (.int x9), some (.int x10), some (.int x11), some (.int x12), some (.int x13), some (.int x14), some (.int x15), some (.int v142), some (.int x17), some (.int x18), some (.int x19), some (.int x20), some (.int x21)] dL_lines_228 (Nat.le_of_ble_eq_true rfl) rfl ?_
  refine e_iload dL_lines_230 rfl ?_
  refine e_iload dL_lines_232 rfl ?_
  refine e_iconst dL_lines_234 ci_1 ?_
  refine e_ic_ne (tgt := 250) dL_lines_235 rfl (fun hc143 => ?_) (fun hc143 => ?_)
  · rw [if_neg hc143] at h
    refine e_iconst dL_lines_250 ci_0 ?_
    refine e_iadd dL_lines_251 ?_
    refine e_naI h (fun v144 ev144 h => ?_)
    refine e_istoreL [some (.ref 0), some (.int x1), some (.int x2), some (.long x3), none, some (.long x5), none, some (.int x7), some (.int x8), some (.int x9), some (.int x10), some (.int x11), some (.int x12), some (.int x13), some (.int x14), some (.int x15), some (.int v142), some (.int v144), some (.int x18), some (.int x19), some (.int x20), some (.int x21)] dL_lines_252 (Nat.le_of_ble_eq_true rfl) rfl ?_
    refine e_iincN 18 (1 : Int32) dL_lines_254 rfl ci_1 h (fun y9 => [some (.ref 0), some (.int x1), some (.int x2), some (.long x3), none, some (.long x5), none, some (.int x7), some (.int x8), some (.int x9), some (.int x10), some (.int x11), some (.int x12), some (.int x13), some (.int x14), some (.int x15), some (.int v142), some (.int v144), some (.int y9), some (.int x19), some (.int x20), some (.int x21)]) (fun _ => rfl) (fun v145 ev145 h => ?_)
    refine e_goto (tgt := 79) dL_lines_257 rfl ?_
    exact e_le (hk79 x1 x2 x3 x5 x7 x8 x9 x10 x11 x12 x13 x14 x15 v142 v144 v145 μ _ hb9 h) ⟨rfl, rfl, rfl, rfl, rfl, rfl, rfl, rfl, rfl, rfl, rfl, rfl, rfl, rfl, rfl, rfl, rfl, trivial⟩
  · rw [if_pos hc143] at h
    refine e_lload dL_lines_238 rfl ?_
    refine e_iload dL_lines_240 rfl ?_
    refine e_iload dL_lines_242 rfl ?_
    refine cI_go h (fun E148 hc146 hr149 => e_SX [.long x5, .int x19, .int x20] [.int x17] dL_lines_244 rfl (by decide) rfl rfl (Nat.le_of_ble_eq_true rfl) (hbr hr149 hb9 (Nat.le_of_ble_eq_true rfl)) ⟨x5, x19, x20, rfl, hc146⟩ rfl ⟨hr149.symm, rfl⟩) (fun v150 μ147 hc146 h => ?_)
    refine e_SI [.long x5, .int x19, .int x20] [.int x17] dL_lines_244 rfl (by decide) rfl rfl (Nat.le_of_ble_eq_true rfl) ⟨x5, x19, x20, rfl, hc146⟩ ?_
    refine e_goto (tgt := 251) dL_lines_247 rfl ?_
    refine e_iadd dL_lines_251 ?_
    refine e_naI h (fun v151 ev151 h => ?_)
    refine e_istoreL [some (.ref 0), some (.int x1), some (.int x2), some (.long x3), none, some (.long x5), none, some (.int x7), some (.int x8), some (.int x9), some (.int x10), some (.int x11), some (.int x12), some (.int x13), some (.int x14), some (.int x15), some (.int v142), some (.int v151), some (.int x18), some (.int x19), some (.int x20), some (.int x21)] dL_lines_252 (Nat.le_of_ble_eq_true rfl) rfl ?_
    refine e_iincN 18 (1 : Int32) dL_lines_254 rfl ci_1 h (fun y9 => [some (.ref 0), some (.int x1), some (.int x2), some (.long x3), none, some (.long x5), none, some (.int x7), some (.int x8), some (.int x9), some (.int x10), some (.int x11), some (.int x12), some (.int x13), some (.int x14), some (.int x15), some (.int v142), some (.int v151), some (.int y9), some (.int x19), some (.int x20), some (.int x21)]) (fun _ => rfl) (fun v152 ev152 h => ?_)
    refine e_goto (tgt := 79) dL_lines_257 rfl ?_
    exact e_le (hk79 x1 x2 x3 x5 x7 x8 x9 x10 x11 x12 x13 x14 x15 v142 v151 v152 μ147 _ hb9 h) ⟨rfl, rfl, rfl, rfl, rfl, rfl, rfl, rfl, rfl, rfl, rfl, rfl, rfl, rfl, rfl, rfl, rfl, trivial⟩
set_option maxHeartbeats 4000000 in
theorem g_L_lines_204 {r : Res} {μ' : Mem} {k40 : Int32 → Int32 → Int64 → Int64 → Int32 → Int32 → Int32 → Int32 → Int32 → Mem → Out} {k79 : Int32 → Int32 → Int64 → Int64 → Int32 → Int32 → Int32 → Int32 → Int32 → Int32 → Int32 → Int32 → Int32 → Int32 → Int32 → Int32 → Mem → Out} (hk40 : ∀ (x1 : Int32) (x2 : Int32) (x3 : Int64) (x5 : Int64) (x7 : Int32) (x8 : Int32) (x9 : Int32) (x10 : Int32) (x11 : Int32), ∀ (μ : Mem) (b : Nat), rc r 1 ≤ b → k40 x1 x2 x3 x5 x7 x8 x9 x10 x11 μ = some (r, μ') → G mL_lines (Qe r μ') 40 [some (.ref 0), some (.int x1), some (.int x2), some (.long x3), none, some (.long x5), none, some (.int x7), some (.int x8), some (.int x9), some (.int x10), some (.int x11), none, none, none, none, none, none, none, none, none, none] [] μ b) (hk79 : ∀ (x1 : Int32) (x2 : Int32) (x3 : Int64) (x5 : Int64) (x7 : Int32) (x8 : Int32) (x9 : Int32) (x10 : Int32) (x11 : Int32) (x12 : Int32) (x13 : Int32) (x14 : Int32) (x15 : Int32) (x16 : Int32) (x17 : Int32) (x18 : Int32), ∀ (μ : Mem) (b : Nat), rc r 1 ≤ b → k79 x1 x2 x3 x5 x7 x8 x9 x10 x11 x12 x13 x14 x15 x16 x17 x18 μ = some (r, μ') → G mL_lines (Qe r μ') 79 [some (.ref 0), some (.int x1), some (.int x2), some (.long x3), none, some (.long x5), none, some (.int x7), some (.int x8), some (.int x9), some (.int x10), some (.int x11), some (.int x12), some (.int x13), some (.int x14), some (.int x15), some (.int x16), some (.int x17), some (.int x18), none, none, none] [] μ b) : ∀ (x1 : Int32) (x2 : Int32) (x3 : Int64) (x5 : Int64) (x7 : Int32) (x8 : Int32) (x9 : Int32) (x10 : Int32) (x11 : Int32) (x12 : Int32) (x13 : Int32) (x14 : Int32) (x16 : Int32) (x17 : Int32) (x18 : Int32) (x19 : Int32) (x20 : Int32) (x21 : Int32) (s0 : Int32) (s1 : Int32), ∀ (μ : Mem) (b : Nat), rc r 1 ≤ b → f_L_lines_204 k40 k79 x1 x2 x3 x5 x7 x8 x9 x10 x11 x12 x13 x14 x16 x17 x18 x19 x20 x21 s0 s1 μ = some (r, μ') → G mL_lines (Qe r μ') 204 [some (.ref 0), some (.int x1), some (.int x2), some (.long x3), none, some (.long x5), none, some (.int x7), some (.int x8), some (.int x9), some (.int x10), some (.int x11), some (.int x12), some (.int x13), some (.int x14), none, some (.int x16), some (.int x17), some (.int x18), some (.int x19), some (.int x20), some (.int x21)] [.int s0, .int s1] μ b := by
  intro x1 x2 x3 x5 x7 x8 x9 x10 x11 x12 x13 x14 x16 x17 x18 x19 x20 x21 s0 s1 μ b hb9 h
  unfold f_L_lines_204 at h
  refine e_iadd dL_lines_204 ?_
  refine e_naI h (fun v120 ev120 h => ?_)
  refine e_istoreL [some (.ref 0), some (.int x1), some (.int x2), some (.long x3), none, some (.long x5), none, some (.int x7), some (.int x8), some (.int x9), some (.int x10), some (.int x11), some (.int x12), some (.int x13), some (.int x14), some (.int v120), some (.int x16), some (.int x17), some (.int x18), some (.int x19), some (.int x20), some (.int x21)] dL_lines_205 (Nat.le_of_ble_eq_true rfl) rfl ?_
  refine e_iload dL_lines_207 rfl ?_
  refine e_iload dL_lines_209 rfl ?_
  refine e_if_ne (tgt := 226) dL_lines_211 rfl (fun hc121 => ?_) (fun hc121 => ?_)
  · rw [if_neg hc121] at h
    refine e_iconst dL_lines_226 ci_0 ?_
    exact e_le (g_L_lines_227 hk40 hk79 x1 x2 x3 x5 x7 x8 x9 x10 x11 x12 x13 x14 v120 x17 x18 x19 x20 x21 (0 : Int32) x16 μ _ hb9 h) ⟨rfl, rfl, rfl, rfl, rfl, rfl, rfl, rfl, rfl, rfl, rfl, rfl, rfl, rfl, rfl, rfl, rfl, rfl, rfl, trivial⟩
  · rw [if_pos hc121] at h
    refine e_lload dL_lines_214 rfl ?_
    refine e_iload dL_lines_216 rfl ?_
    refine e_iload dL_lines_218 rfl ?_
    refine cI_go h (fun E124 hc122 hr125 => e_SX [.long x5, .int x19, .int x20] [.int x16] dL_lines_220 rfl (by decide) rfl rfl (Nat.le_of_ble_eq_true rfl) (hbr hr125 hb9 (Nat.le_of_ble_eq_true rfl)) ⟨x5, x19, x20, rfl, hc122⟩ rfl ⟨hr125.symm, rfl⟩) (fun v126 μ123 hc122 h => ?_)
    refine e_SI [.long x5, .int x19, .int x20] [.int x16] dL_lines_220 rfl (by decide) rfl rfl (Nat.le_of_ble_eq_true rfl) ⟨x5, x19, x20, rfl, hc122⟩ ?_
    refine e_goto (tgt := 227) dL_lines_223 rfl ?_
    exact e_le (g_L_lines_227 hk40 hk79 x1 x2 x3 x5 x7 x8 x9 x10 x11 x12 x13 x14 v120 x17 x18 x19 x20 x21 v126 x16 μ123 _ hb9 h) ⟨rfl, rfl, rfl, rfl, rfl, rfl, rfl, rfl, rfl, rfl, rfl, rfl, rfl, rfl, rfl, rfl, rfl, rfl, rfl, trivial⟩
set_option maxHeartbeats 4000000 in
theorem g_L_lines_178 {r : Res} {μ' : Mem} {k40 : Int32 → Int32 → Int64 → Int64 → Int32 → Int32 → Int32 → Int32 → Int32 → Mem → Out} {k79 : Int32 → Int32 → Int64 → Int64 → Int32 → Int32 → Int32 → Int32 → Int32 → Int32 → Int32 → Int32 → Int32 → Int32 → Int32 → Int32 → Mem → Out} (hk40 : ∀ (x1 : Int32) (x2 : Int32) (x3 : Int64) (x5 : Int64) (x7 : Int32) (x8 : Int32) (x9 : Int32) (x10 : Int32) (x11 : Int32), ∀ (μ : Mem) (b : Nat), rc r 1 ≤ b → k40 x1 x2 x3 x5 x7 x8 x9 x10 x11 μ = some (r, μ') → G mL_lines (Qe r μ') 40 [some (.ref 0), some (.int x1), some (.int x2), some (.long x3), none, some (.long x5), none, some (.int x7), some (.int x8), some (.int x9), some (.int x10), some (.int x11), none, none, none, none, none, none, none, none, none, none] [] μ b) (hk79 : ∀ (x1 : Int32) (x2 : Int32) (x3 : Int64) (x5 : Int64) (x7 : Int32) (x8 : Int32) (x9 : Int32) (x10 : Int32) (x11 : Int32) (x12 : Int32) (x13 : Int32) (x14 : Int32) (x15 : Int32) (x16 : Int32) (x17 : Int32) (x18 : Int32), ∀ (μ : Mem) (b : Nat), rc r 1 ≤ b → k79 x1 x2 x3 x5 x7 x8 x9 x10 x11 x12 x13 x14 x15 x16 x17 x18 μ = some (r, μ') → G mL_lines (Qe r μ') 79 [some (.ref 0), some (.int x1), some (.int x2), some (.long x3), none, some (.long x5), none, some (.int x7), some (.int x8), some (.int x9), some (.int x10), some (.int x11), some (.int x12), some (.int x13), some (.int x14), some (.int x15), some (.int x16), some (.int x17), some (.int x18), none, none, none] [] μ b) : ∀ (x1 : Int32) (x2 : Int32) (x3 : Int64) (x5 : Int64) (x7 : Int32) (x8 : Int32) (x9 : Int32) (x10 : Int32) (x11 : Int32) (x12 : Int32) (x13 : Int32) (x14 : Int32) (x16 : Int32) (x17 : Int32) (x18 : Int32) (x19 : Int32) (x20 : Int32) (x21 : Int32) (s0 : Int32) (s1 : Int64) (s2 : Int32), ∀ (μ : Mem) (b : Nat), rc r 1 ≤ b → f_L_lines_178 k40 k79 x1 x2 x3 x5 x7 x8 x9 x10 x11 x12 x13 x14 x16 x17 x18 x19 x20 x21 s0 s1 s2 μ = some (r, μ') → G mL_lines (Qe r μ') 178 [some (.ref 0), some (.int x1), some (.int x2), some (.long x3), none, some (.long x5), none, some (.int x7), some (.int x8), some (.int x9), some (.int x10), some (.int x11), some (.int x12), some (.int x13), some (.int x14), none, some (.int x16), some (.int x17), some (.int x18), some (.int x19), some (.int x20), some (.int x21)] [.int s0, .long s1, .int s2] μ b := by
  intro x1 x2 x3 x5 x7 x8 x9 x10 x11 x12 x13 x14 x16 x17 x18 x19 x20 x21 s0 s1 s2 μ b hb9 h
  unfold f_L_lines_178 at h
  refine e_iload dL_lines_178 rfl ?_
  refine e_iload_n dL_lines_180 rfl ?_
  refine e_ic_ge (tgt := 191) dL_lines_181 rfl (fun hc127 => ?_) (fun hc127 => ?_)
  · rw [if_pos hc127] at h
    refine e_iload dL_lines_191 rfl ?_
    refine cI_go h (fun E130 hc128 hr131 => e_SX [.long s1, .int s0, .int x20] [.int s2] dL_lines_193 rfl (by decide) rfl rfl (Nat.le_of_ble_eq_true rfl) (hbr hr131 hb9 (Nat.le_of_ble_eq_true rfl)) ⟨s1, s0, x20, rfl, hc128⟩ rfl ⟨hr131.symm, rfl⟩) (fun v132 μ129 hc128 h => ?_)
    refine e_SI [.long s1, .int s0, .int x20] [.int s2] dL_lines_193 rfl (by decide) rfl rfl (Nat.le_of_ble_eq_true rfl) ⟨s1, s0, x20, rfl, hc128⟩ ?_
    refine e_if_ne (tgt := 203) dL_lines_196 rfl (fun hc133 => ?_) (fun hc133 => ?_)
    · rw [if_neg hc133] at h
      refine e_iconst dL_lines_203 ci_0 ?_
      exact e_le (g_L_lines_204 hk40 hk79 x1 x2 x3 x5 x7 x8 x9 x10 x11 x12 x13 x14 x16 x17 x18 x19 x20 x21 (0 : Int32) s2 μ129 _ hb9 h) ⟨rfl, rfl, rfl, rfl, rfl, rfl, rfl, rfl, rfl, rfl, rfl, rfl, rfl, rfl, rfl, rfl, rfl, rfl, rfl, trivial⟩
    · rw [if_pos hc133] at h
      refine e_iconst dL_lines_199 ci_1 ?_
      refine e_goto (tgt := 204) dL_lines_200 rfl ?_
      exact e_le (g_L_lines_204 hk40 hk79 x1 x2 x3 x5 x7 x8 x9 x10 x11 x12 x13 x14 x16 x17 x18 x19 x20 x21 (1 : Int32) s2 μ129 _ hb9 h) ⟨rfl, rfl, rfl, rfl, rfl, rfl, rfl, rfl, rfl, rfl, rfl, rfl, rfl, rfl, rfl, rfl, rfl, rfl, rfl, trivial⟩
  · rw [if_neg hc127] at h
    refine e_iload dL_lines_184 rfl ?_
    refine e_iconst dL_lines_186 ci_1 ?_
    refine e_isub dL_lines_187 ?_
    refine e_goto (tgt := 193) dL_lines_188 rfl ?_
    refine cI_go h (fun E136 hc134 hr137 => e_SX [.long s1, .int s0, .int (x20 - (1 : Int32))] [.int s2] dL_lines_193 rfl (by decide) rfl rfl (Nat.le_of_ble_eq_true rfl) (hbr hr137 hb9 (Nat.le_of_ble_eq_true rfl)) ⟨s1, s0, x20 - (1 : Int32), rfl, hc134⟩ rfl ⟨hr137.symm, rfl⟩) (fun v138 μ135 hc134 h => ?_)
    refine e_SI [.long s1, .int s0, .int (x20 - (1 : Int32))] [.int s2] dL_lines_193 rfl (by decide) rfl rfl (Nat.le_of_ble_eq_true rfl) ⟨s1, s0, x20 - (1 : Int32), rfl, hc134⟩ ?_
    refine e_if_ne (tgt := 203) dL_lines_196 rfl (fun hc139 => ?_) (fun hc139 => ?_)
    · rw [if_neg hc139] at h
      refine e_iconst dL_lines_203 ci_0 ?_
      exact e_le (g_L_lines_204 hk40 hk79 x1 x2 x3 x5 x7 x8 x9 x10 x11 x12 x13 x14 x16 x17 x18 x19 x20 x21 (0 : Int32) s2 μ135 _ hb9 h) ⟨rfl, rfl, rfl, rfl, rfl, rfl, rfl, rfl, rfl, rfl, rfl, rfl, rfl, rfl, rfl, rfl, rfl, rfl, rfl, trivial⟩
    · rw [if_pos hc139] at h
      refine e_iconst dL_lines_199 ci_1 ?_
      refine e_goto (tgt := 204) dL_lines_200 rfl ?_
      exact e_le (g_L_lines_204 hk40 hk79 x1 x2 x3 x5 x7 x8 x9 x10 x11 x12 x13 x14 x16 x17 x18 x19 x20 x21 (1 : Int32) s2 μ135 _ hb9 h) ⟨rfl, rfl, rfl, rfl, rfl, rfl, rfl, rfl, rfl, rfl, rfl, rfl, rfl, rfl, rfl, rfl, rfl, rfl, rfl, trivial⟩
set_option maxHeartbeats 4000000 in
theorem g_L_lines_116 {r : Res} {μ' : Mem} {k40 : Int32 → Int32 → Int64 → Int64 → Int32 → Int32 → Int32 → Int32 → Int32 → Mem → Out} {k79 : Int32 → Int32 → Int64 → Int64 → Int32 → Int32 → Int32 → Int32 → Int32 → Int32 → Int32 → Int32 → Int32 → Int32 → Int32 → Int32 → Mem → Out} (hk40 : ∀ (x1 : Int32) (x2 : Int32) (x3 : Int64) (x5 : Int64) (x7 : Int32) (x8 : Int32) (x9 : Int32) (x10 : Int32) (x11 : Int32), ∀ (μ : Mem) (b : Nat), rc r 1 ≤ b → k40 x1 x2 x3 x5 x7 x8 x9 x10 x11 μ = some (r, μ') → G mL_lines (Qe r μ') 40 [some (.ref 0), some (.int x1), some (.int x2), some (.long x3), none, some (.long x5), none, some (.int x7), some (.int x8), some (.int x9), some (.int x10), some (.int x11), none, none, none, none, none, none, none, none, none, none] [] μ b) (hk79 : ∀ (x1 : Int32) (x2 : Int32) (x3 : Int64) (x5 : Int64) (x7 : Int32) (x8 : Int32) (x9 : Int32) (x10 : Int32) (x11 : Int32) (x12 : Int32) (x13 : Int32) (x14 : Int32) (x15 : Int32) (x16 : Int32) (x17 : Int32) (x18 : Int32), ∀ (μ : Mem) (b : Nat), rc r 1 ≤ b → k79 x1 x2 x3 x5 x7 x8 x9 x10 x11 x12 x13 x14 x15 x16 x17 x18 μ = some (r, μ') → G mL_lines (Qe r μ') 79 [some (.ref 0), some (.int x1), some (.int x2), some (.long x3), none, some (.long x5), none, some (.int x7), some (.int x8), some (.int x9), some (.int x10), some (.int x11), some (.int x12), some (.int x13), some (.int x14), some (.int x15), some (.int x16), some (.int x17), some (.int x18), none, none, none] [] μ b) : ∀ (x1 : Int32) (x2 : Int32) (x3 : Int64) (x5 : Int64) (x7 : Int32) (x8 : Int32) (x9 : Int32) (x10 : Int32) (x11 : Int32) (x12 : Int32) (x13 : Int32) (x14 : Int32) (x15 : Int32) (x16 : Int32) (x17 : Int32) (x18 : Int32) (x19 : Int32) (s0 : Int32), ∀ (μ : Mem) (b : Nat), rc r 1 ≤ b → f_L_lines_116 k40 k79 x1 x2 x3 x5 x7 x8 x9 x10 x11 x12 x13 x14 x15 x16 x17 x18 x19 s0 μ = some (r, μ') → G mL_lines (Qe r μ') 116 [some (.ref 0), some (.int x1), some (.int x2), some (.long x3), none, some (.long x5), none, some (.int x7), some (.int x8), some (.int x9), some (.int x10), some (.int x11), some (.int x12), some (.int x13), some (.int x14), some (.int x15), some (.int x16), some (.int x17), some (.int x18), some (.int x19), none, none] [.int s0] μ b := by
  intro x1 x2 x3 x5 x7 x8 x9 x10 x11 x12 x13 x14 x15 x16 x17 x18 x19 s0 μ b hb9 h
  unfold f_L_lines_116 at h
  refine e_istoreL [some (.ref 0), some (.int x1), some (.int x2), some (.long x3), none, some (.long x5), none, some (.int x7), some (.int x8), some (.int x9), some (.int x10), some (.int x11), some (.int x12), some (.int x13), some (.int x14), some (.int x15), some (.int x16), some (.int x17), some (.int x18), some (.int x19), some (.int s0), none] dL_lines_116 (Nat.le_of_ble_eq_true rfl) rfl ?_
  refine e_lload_n dL_lines_118 rfl ?_
  refine e_iload dL_lines_119 rfl ?_
  refine e_iload dL_lines_121 rfl ?_
  refine cI_go h (fun E106 hc104 hr107 => e_SX [.long x3, .int x19, .int s0] [] dL_lines_123 rfl (by decide) rfl rfl (Nat.le_of_ble_eq_true rfl) (hbr hr107 hb9 (Nat.le_of_ble_eq_true rfl)) ⟨x3, x19, s0, rfl, hc104⟩ rfl ⟨hr107.symm, rfl⟩) (fun v108 μ105 hc104 h => ?_)
  refine e_SI [.long x3, .int x19, .int s0] [] dL_lines_123 rfl (by decide) rfl rfl (Nat.le_of_ble_eq_true rfl) ⟨x3, x19, s0, rfl, hc104⟩ ?_
  refine e_istoreL [some (.ref 0), some (.int x1), some (.int x2), some (.long x3), none, some (.long x5), none, some (.int x7), some (.int x8), some (.int x9), some (.int x10), some (.int x11), some (.int x12), some (.int x13), some (.int x14), some (.int x15), some (.int x16), some (.int x17), some (.int x18), some (.int x19), some (.int s0), some (.int v108)] dL_lines_126 (Nat.le_of_ble_eq_true rfl) rfl ?_
  refine e_iload dL_lines_128 rfl ?_
  refine e_iload dL_lines_130 rfl ?_
  refine e_iadd dL_lines_132 ?_
  refine e_naI h (fun v109 ev109 h => ?_)
  refine e_istoreL [some (.ref 0), some (.int x1), some (.int x2), some (.long x3), none, some (.long x5), none, some (.int x7), some (.int x8), some (.int x9), some (.int x10), some (.int x11), some (.int x12), some (.int v109), some (.int x14), some (.int x15), some (.int x16), some (.int x17), some (.int x18), some (.int x19), some (.int s0), some (.int v108)] dL_lines_133 (Nat.le_of_ble_eq_true rfl) rfl ?_
  refine e_iload dL_lines_135 rfl ?_
  refine e_lload dL_lines_137 rfl ?_
  refine e_iload dL_lines_139 rfl ?_
  refine e_iload dL_lines_141 rfl ?_
  refine cI_go h (fun E112 hc110 hr113 => e_SX [.long x5, .int x19, .int s0] [.int x14] dL_lines_143 rfl (by decide) rfl rfl (Nat.le_of_ble_eq_true rfl) (hbr hr113 hb9 (Nat.le_of_ble_eq_true rfl)) ⟨x5, x19, s0, rfl, hc110⟩ rfl ⟨hr113.symm, rfl⟩) (fun v114 μ111 hc110 h => ?_)
  refine e_SI [.long x5, .int x19, .int s0] [.int x14] dL_lines_143 rfl (by decide) rfl rfl (Nat.le_of_ble_eq_true rfl) ⟨x5, x19, s0, rfl, hc110⟩ ?_
  refine e_iadd dL_lines_146 ?_
  refine e_naI h (fun v115 ev115 h => ?_)
  refine e_istoreL [some (.ref 0), some (.int x1), some (.int x2), some (.long x3), none, some (.long x5), none, some (.int x7), some (.int x8), some (.int x9), some (.int x10), some (.int x11), some (.int x12), some (.int v109), some (.int v115), some (.int x15), some (.int x16), some (.int x17), some (.int x18), some (.int x19), some (.int s0), some (.int v108)] dL_lines_147 (Nat.le_of_ble_eq_true rfl) rfl ?_
  refine e_iload dL_lines_149 rfl ?_
  refine e_iload dL_lines_151 rfl ?_
  refine e_iconst dL_lines_153 ci_1 ?_
  refine e_ic_ne (tgt := 203) dL_lines_154 rfl (fun hc116 => ?_) (fun hc116 => ?_)
  · rw [if_neg hc116] at h
    refine e_iconst dL_lines_203 ci_0 ?_
    exact e_le (g_L_lines_204 hk40 hk79 x1 x2 x3 x5 x7 x8 x9 x10 x11 x12 v109 v115 x16 x17 x18 x19 s0 v108 (0 : Int32) x15 μ111 _ hb9 h) ⟨rfl, rfl, rfl, rfl, rfl, rfl, rfl, rfl, rfl, rfl, rfl, rfl, rfl, rfl, rfl, rfl, rfl, rfl, rfl, trivial⟩
  · rw [if_pos hc116] at h
    refine e_iload dL_lines_157 rfl ?_
    refine e_if_eq (tgt := 199) dL_lines_159 rfl (fun hc117 => ?_) (fun hc117 => ?_)
    · rw [if_pos hc117] at h
      refine e_iconst dL_lines_199 ci_1 ?_
      refine e_goto (tgt := 204) dL_lines_200 rfl ?_
      exact e_le (g_L_lines_204 hk40 hk79 x1 x2 x3 x5 x7 x8 x9 x10 x11 x12 v109 v115 x16 x17 x18 x19 s0 v108 (1 : Int32) x15 μ111 _ hb9 h) ⟨rfl, rfl, rfl, rfl, rfl, rfl, rfl, rfl, rfl, rfl, rfl, rfl, rfl, rfl, rfl, rfl, rfl, rfl, rfl, trivial⟩
    · rw [if_neg hc117] at h
      refine e_lload_n dL_lines_162 rfl ?_
      refine e_iload dL_lines_163 rfl ?_
      refine e_iload_n dL_lines_165 rfl ?_
      refine e_ic_ge (tgt := 174) dL_lines_166 rfl (fun hc118 => ?_) (fun hc118 => ?_)
      · rw [if_pos hc118] at h
        refine e_iload dL_lines_174 rfl ?_
        refine e_iconst dL_lines_176 ci_1 ?_
        refine e_isub dL_lines_177 ?_
        exact e_le (g_L_lines_178 hk40 hk79 x1 x2 x3 x5 x7 x8 x9 x10 x11 x12 v109 v115 x16 x17 x18 x19 s0 v108 (x19 - (1 : Int32)) x3 x15 μ111 _ hb9 h) ⟨rfl, rfl, rfl, rfl, rfl, rfl, rfl, rfl, rfl, rfl, rfl, rfl, rfl, rfl, rfl, rfl, rfl, rfl, rfl, trivial⟩
      · rw [if_neg hc118] at h
        refine e_iload dL_lines_169 rfl ?_
        refine e_goto (tgt := 178) dL_lines_171 rfl ?_
        exact e_le (g_L_lines_178 hk40 hk79 x1 x2 x3 x5 x7 x8 x9 x10 x11 x12 v109 v115 x16 x17 x18 x19 s0 v108 x19 x3 x15 μ111 _ hb9 h) ⟨rfl, rfl, rfl, rfl, rfl, rfl, rfl, rfl, rfl, rfl, rfl, rfl, rfl, rfl, rfl, rfl, rfl, rfl, rfl, trivial⟩
set_option maxHeartbeats 4000000 in
theorem g_L_lines_99 {r : Res} {μ' : Mem} {k40 : Int32 → Int32 → Int64 → Int64 → Int32 → Int32 → Int32 → Int32 → Int32 → Mem → Out} {k79 : Int32 → Int32 → Int64 → Int64 → Int32 → Int32 → Int32 → Int32 → Int32 → Int32 → Int32 → Int32 → Int32 → Int32 → Int32 → Int32 → Mem → Out} (hk40 : ∀ (x1 : Int32) (x2 : Int32) (x3 : Int64) (x5 : Int64) (x7 : Int32) (x8 : Int32) (x9 : Int32) (x10 : Int32) (x11 : Int32), ∀ (μ : Mem) (b : Nat), rc r 1 ≤ b → k40 x1 x2 x3 x5 x7 x8 x9 x10 x11 μ = some (r, μ') → G mL_lines (Qe r μ') 40 [some (.ref 0), some (.int x1), some (.int x2), some (.long x3), none, some (.long x5), none, some (.int x7), some (.int x8), some (.int x9), some (.int x10), some (.int x11), none, none, none, none, none, none, none, none, none, none] [] μ b) (hk79 : ∀ (x1 : Int32) (x2 : Int32) (x3 : Int64) (x5 : Int64) (x7 : Int32) (x8 : Int32) (x9 : Int32) (x10 : Int32) (x11 : Int32) (x12 : Int32) (x13 : Int32) (x14 : Int32) (x15 : Int32) (x16 : Int32) (x17 : Int32) (x18 : Int32), ∀ (μ : Mem) (b : Nat), rc r 1 ≤ b → k79 x1 x2 x3 x5 x7 x8 x9 x10 x11 x12 x13 x14 x15 x16 x17 x18 μ = some (r, μ') → G mL_lines (Qe r μ') 79 [some (.ref 0), some (.int x1), some (.int x2), some (.long x3), none, some (.long x5), none, some (.int x7), some (.int x8), some (.int x9), some (.int x10), some (.int x11), some (.int x12), some (.int x13), some (.int x14), some (.int x15), some (.int x16), some (.int x17), some (.int x18), none, none, none] [] μ b) : ∀ (x1 : Int32) (x2 : Int32) (x3 : Int64) (x5 : Int64) (x7 : Int32) (x8 : Int32) (x9 : Int32) (x10 : Int32) (x11 : Int32) (x12 : Int32) (x13 : Int32) (x14 : Int32) (x15 : Int32) (x16 : Int32) (x17 : Int32) (x18 : Int32) (s0 : Int32), ∀ (μ : Mem) (b : Nat), rc r 1 ≤ b → f_L_lines_99 k40 k79 x1 x2 x3 x5 x7 x8 x9 x10 x11 x12 x13 x14 x15 x16 x17 x18 s0 μ = some (r, μ') → G mL_lines (Qe r μ') 99 [some (.ref 0), some (.int x1), some (.int x2), some (.long x3), none, some (.long x5), none, some (.int x7), some (.int x8), some (.int x9), some (.int x10), some (.int x11), some (.int x12), some (.int x13), some (.int x14), some (.int x15), some (.int x16), some (.int x17), some (.int x18), none, none, none] [.int s0] μ b := by
  intro x1 x2 x3 x5 x7 x8 x9 x10 x11 x12 x13 x14 x15 x16 x17 x18 s0 μ b hb9 h
  unfold f_L_lines_99 at h
  refine e_istoreL [some (.ref 0), some (.int x1), some (.int x2), some (.long x3), none, some (.long x5), none, some (.int x7), some (.int x8), some (.int x9), some (.int x10), some (.int x11), some (.int x12), some (.int x13), some (.int x14), some (.int x15), some (.int x16), some (.int x17), some (.int x18), some (.int s0), none, none] dL_lines_99 (Nat.le_of_ble_eq_true rfl) rfl ?_
  refine e_iload dL_lines_101 rfl ?_
  refine e_iload_n dL_lines_103 rfl ?_
  refine e_ic_ge (tgt := 112) dL_lines_104 rfl (fun hc99 => ?_) (fun hc99 => ?_)
  · rw [if_pos hc99] at h
    refine e_iload dL_lines_112 rfl ?_
    refine e_iload_n dL_lines_114 rfl ?_
    refine e_isub dL_lines_115 ?_
    exact e_le (g_L_lines_116 hk40 hk79 x1 x2 x3 x5 x7 x8 x9 x10 x11 x12 x13 x14 x15 x16 x17 x18 s0 (x11 - x1) μ _ hb9 h) ⟨rfl, rfl, rfl, rfl, rfl, rfl, rfl, rfl, rfl, rfl, rfl, rfl, rfl, rfl, rfl, rfl, rfl, rfl, trivial⟩
  · rw [if_neg hc99] at h
    refine e_iload dL_lines_107 rfl ?_
    refine e_goto (tgt := 116) dL_lines_109 rfl ?_
    exact e_le (g_L_lines_116 hk40 hk79 x1 x2 x3 x5 x7 x8 x9 x10 x11 x12 x13 x14 x15 x16 x17 x18 s0 x18 μ _ hb9 h) ⟨rfl, rfl, rfl, rfl, rfl, rfl, rfl, rfl, rfl, rfl, rfl, rfl, rfl, rfl, rfl, rfl, rfl, rfl, trivial⟩
set_option maxHeartbeats 4000000 in
theorem g_L_lines_463 {r : Res} {μ' : Mem} {k40 : Int32 → Int32 → Int64 → Int64 → Int32 → Int32 → Int32 → Int32 → Int32 → Mem → Out} (hk40 : ∀ (x1 : Int32) (x2 : Int32) (x3 : Int64) (x5 : Int64) (x7 : Int32) (x8 : Int32) (x9 : Int32) (x10 : Int32) (x11 : Int32), ∀ (μ : Mem) (b : Nat), rc r 1 ≤ b → k40 x1 x2 x3 x5 x7 x8 x9 x10 x11 μ = some (r, μ') → G mL_lines (Qe r μ') 40 [some (.ref 0), some (.int x1), some (.int x2), some (.long x3), none, some (.long x5), none, some (.int x7), some (.int x8), some (.int x9), some (.int x10), some (.int x11), none, none, none, none, none, none, none, none, none, none] [] μ b) : ∀ (x1 : Int32) (x2 : Int32) (x3 : Int64) (x5 : Int64) (x7 : Int32) (x8 : Int32) (x10 : Int32) (x11 : Int32) (x18 : Int32) (s0 : Int32) (s1 : Int32), ∀ (μ : Mem) (b : Nat), rc r 1 ≤ b → f_L_lines_463 k40 x1 x2 x3 x5 x7 x8 x10 x11 x18 s0 s1 μ = some (r, μ') → G mL_lines (Qe r μ') 463 [some (.ref 0), some (.int x1), some (.int x2), some (.long x3), none, some (.long x5), none, some (.int x7), some (.int x8), none, some (.int x10), some (.int x11), none, none, none, none, none, none, some (.int x18), none, none, none] [.int s0, .int s1] μ b := by
  intro x1 x2 x3 x5 x7 x8 x10 x11 x18 s0 s1 μ b hb9 h
  unfold f_L_lines_463 at h
  refine e_iadd dL_lines_463 ?_
  refine e_naI h (fun v155 ev155 h => ?_)
  refine e_istoreL [some (.ref 0), some (.int x1), some (.int x2), some (.long x3), none, some (.long x5), none, some (.int x7), some (.int x8), some (.int v155), some (.int x10), some (.int x11), none, none, none, none, none, none, some (.int x18), none, none, none] dL_lines_464 (Nat.le_of_ble_eq_true rfl) rfl ?_
  refine e_iload dL_lines_466 rfl ?_
  refine e_iload dL_lines_468 rfl ?_
  refine e_iadd dL_lines_470 ?_
  refine e_naI h (fun v156 ev156 h => ?_)
  refine e_istoreL [some (.ref 0), some (.int x1), some (.int x2), some (.long x3), none, some (.long x5), none, some (.int x7), some (.int x8), some (.int v155), some (.int v156), some (.int x11), none, none, none, none, none, none, some (.int x18), none, none, none] dL_lines_471 (Nat.le_of_ble_eq_true rfl) rfl ?_
  refine e_iincN 11 (1 : Int32) dL_lines_473 rfl ci_1 h (fun y9 => [some (.ref 0), some (.int x1), some (.int x2), some (.long x3), none, some (.long x5), none, some (.int x7), some (.int x8), some (.int v155), some (.int v156), some (.int y9), none, none, none, none, none, none, some (.int x18), none, none, none]) (fun _ => rfl) (fun v157 ev157 h => ?_)
  refine e_goto (tgt := 40) dL_lines_476 rfl ?_
  exact e_le (hk40 x1 x2 x3 x5 x7 x8 v155 v156 v157 μ _ hb9 h) ⟨rfl, rfl, rfl, rfl, rfl, rfl, rfl, rfl, rfl, rfl, trivial⟩
set_option maxHeartbeats 4000000 in
theorem g_L_lines_446 {r : Res} {μ' : Mem} {k40 : Int32 → Int32 → Int64 → Int64 → Int32 → Int32 → Int32 → Int32 → Int32 → Mem → Out} (hk40 : ∀ (x1 : Int32) (x2 : Int32) (x3 : Int64) (x5 : Int64) (x7 : Int32) (x8 : Int32) (x9 : Int32) (x10 : Int32) (x11 : Int32), ∀ (μ : Mem) (b : Nat), rc r 1 ≤ b → k40 x1 x2 x3 x5 x7 x8 x9 x10 x11 μ = some (r, μ') → G mL_lines (Qe r μ') 40 [some (.ref 0), some (.int x1), some (.int x2), some (.long x3), none, some (.long x5), none, some (.int x7), some (.int x8), some (.int x9), some (.int x10), some (.int x11), none, none, none, none, none, none, none, none, none, none] [] μ b) : ∀ (x1 : Int32) (x2 : Int32) (x3 : Int64) (x5 : Int64) (x7 : Int32) (x9 : Int32) (x10 : Int32) (x11 : Int32) (x13 : Int32) (x18 : Int32) (s0 : Int32) (s1 : Int32), ∀ (μ : Mem) (b : Nat), rc r 1 ≤ b → f_L_lines_446 k40 x1 x2 x3 x5 x7 x9 x10 x11 x13 x18 s0 s1 μ = some (r, μ') → G mL_lines (Qe r μ') 446 [some (.ref 0), some (.int x1), some (.int x2), some (.long x3), none, some (.long x5), none, some (.int x7), none, some (.int x9), some (.int x10), some (.int x11), none, some (.int x13), none, none, none, none, some (.int x18), none, none, none] [.int s0, .int s1] μ b := by
  intro x1 x2 x3 x5 x7 x9 x10 x11 x13 x18 s0 s1 μ b hb9 h
  unfold f_L_lines_446 at h
  refine e_iadd dL_lines_446 ?_
  refine e_naI h (fun v153 ev153 h => ?_)
  refine e_istoreL [some (.ref 0), some (.int x1), some (.int x2), some (.long x3), none, some (.long x5), none, some (.int x7), some (.int v153), some (.int x9), some (.int x10), some (.int x11), none, some (.int x13), none, none, none, none, some (.int x18), none, none, none] dL_lines_447 (Nat.le_of_ble_eq_true rfl) rfl ?_
  refine e_iload dL_lines_449 rfl ?_
  refine e_iload dL_lines_451 rfl ?_
  refine e_iload dL_lines_453 rfl ?_
  refine e_ic_ne (tgt := 462) dL_lines_455 rfl (fun hc154 => ?_) (fun hc154 => ?_)
  · rw [if_neg hc154] at h
    refine e_iconst dL_lines_462 ci_1 ?_
    exact e_le (g_L_lines_463 hk40 x1 x2 x3 x5 x7 v153 x10 x11 x18 (1 : Int32) x9 μ _ hb9 h) ⟨rfl, rfl, rfl, rfl, rfl, rfl, rfl, rfl, rfl, rfl, trivial⟩
  · rw [if_pos hc154] at h
    refine e_iconst dL_lines_458 ci_0 ?_
    refine e_goto (tgt := 463) dL_lines_459 rfl ?_
    exact e_le (g_L_lines_463 hk40 x1 x2 x3 x5 x7 v153 x10 x11 x18 (0 : Int32) x9 μ _ hb9 h) ⟨rfl, rfl, rfl, rfl, rfl, rfl, rfl, rfl, rfl, rfl, trivial⟩
set_option maxHeartbeats 4000000 in
theorem g_L_lines_429 {r : Res} {μ' : Mem} {k40 : Int32 → Int32 → Int64 → Int64 → Int32 → Int32 → Int32 → Int32 → Int32 → Mem → Out} (hk40 : ∀ (x1 : Int32) (x2 : Int32) (x3 : Int64) (x5 : Int64) (x7 : Int32) (x8 : Int32) (x9 : Int32) (x10 : Int32) (x11 : Int32), ∀ (μ : Mem) (b : Nat), rc r 1 ≤ b → k40 x1 x2 x3 x5 x7 x8 x9 x10 x11 μ = some (r, μ') → G mL_lines (Qe r μ') 40 [some (.ref 0), some (.int x1), some (.int x2), some (.long x3), none, some (.long x5), none, some (.int x7), some (.int x8), some (.int x9), some (.int x10), some (.int x11), none, none, none, none, none, none, none, none, none, none] [] μ b) : ∀ (x1 : Int32) (x2 : Int32) (x3 : Int64) (x5 : Int64) (x8 : Int32) (x9 : Int32) (x10 : Int32) (x11 : Int32) (x13 : Int32) (x18 : Int32) (s0 : Int32) (s1 : Int32), ∀ (μ : Mem) (b : Nat), rc r 1 ≤ b → f_L_lines_429 k40 x1 x2 x3 x5 x8 x9 x10 x11 x13 x18 s0 s1 μ = some (r, μ') → G mL_lines (Qe r μ') 429 [some (.ref 0), some (.int x1), some (.int x2), some (.long x3), none, some (.long x5), none, none, some (.int x8), some (.int x9), some (.int x10), some (.int x11), none, some (.int x13), none, none, none, none, some (.int x18), none, none, none] [.int s0, .int s1] μ b := by
  intro x1 x2 x3 x5 x8 x9 x10 x11 x13 x18 s0 s1 μ b hb9 h
  unfold f_L_lines_429 at h
  refine e_iadd dL_lines_429 ?_
  refine e_naI h (fun v140 ev140 h => ?_)
  refine e_istoreL [some (.ref 0), some (.int x1), some (.int x2), some (.long x3), none, some (.long x5), none, some (.int v140), some (.int x8), some (.int x9), some (.int x10), some (.int x11), none, some (.int x13), none, none, none, none, some (.int x18), none, none, none] dL_lines_430 (Nat.le_of_ble_eq_true rfl) rfl ?_
  refine e_iload dL_lines_432 rfl ?_
  refine e_iload dL_lines_434 rfl ?_
  refine e_iload_n dL_lines_436 rfl ?_
  refine e_ic_ge (tgt := 444) dL_lines_437 rfl (fun hc141 => ?_) (fun hc141 => ?_)
  · rw [if_pos hc141] at h
    refine e_iload dL_lines_444 rfl ?_
    exact e_le (g_L_lines_446 hk40 x1 x2 x3 x5 v140 x9 x10 x11 x13 x18 x13 x8 μ _ hb9 h) ⟨rfl, rfl, rfl, rfl, rfl, rfl, rfl, rfl, rfl, rfl, rfl, trivial⟩
  · rw [if_neg hc141] at h
    refine e_iconst dL_lines_440 ci_0 ?_
    refine e_goto (tgt := 446) dL_lines_441 rfl ?_
    exact e_le (g_L_lines_446 hk40 x1 x2 x3 x5 v140 x9 x10 x11 x13 x18 (0 : Int32) x8 μ _ hb9 h) ⟨rfl, rfl, rfl, rfl, rfl, rfl, rfl, rfl, rfl, rfl, rfl, trivial⟩
set_option maxHeartbeats 4000000 in
theorem g_L_lines_415 {r : Res} {μ' : Mem} {k40 : Int32 → Int32 → Int64 → Int64 → Int32 → Int32 → Int32 → Int32 → Int32 → Mem → Out} (hk40 : ∀ (x1 : Int32) (x2 : Int32) (x3 : Int64) (x5 : Int64) (x7 : Int32) (x8 : Int32) (x9 : Int32) (x10 : Int32) (x11 : Int32), ∀ (μ : Mem) (b : Nat), rc r 1 ≤ b → k40 x1 x2 x3 x5 x7 x8 x9 x10 x11 μ = some (r, μ') → G mL_lines (Qe r μ') 40 [some (.ref 0), some (.int x1), some (.int x2), some (.long x3), none, some (.long x5), none, some (.int x7), some (.int x8), some (.int x9), some (.int x10), some (.int x11), none, none, none, none, none, none, none, none, none, none] [] μ b) : ∀ (x1 : Int32) (x2 : Int32) (x3 : Int64) (x5 : Int64) (x7 : Int32) (x8 : Int32) (x9 : Int32) (x10 : Int32) (x11 : Int32) (x13 : Int32) (x18 : Int32), ∀ (μ : Mem) (b : Nat), rc r 1 ≤ b → f_L_lines_415 k40 x1 x2 x3 x5 x7 x8 x9 x10 x11 x13 x18 μ = some (r, μ') → G mL_lines (Qe r μ') 415 [some (.ref 0), some (.int x1), some (.int x2), some (.long x3), none, some (.long x5), none, some (.int x7), some (.int x8), some (.int x9), some (.int x10), some (.int x11), none, some (.int x13), none, none, none, none, some (.int x18), none, none, none] [] μ b := by
  intro x1 x2 x3 x5 x7 x8 x9 x10 x11 x13 x18 μ b hb9 h
  unfold f_L_lines_415 at h
  refine e_iload dL_lines_415 rfl ?_
  refine e_iload dL_lines_417 rfl ?_
  refine e_iload_n dL_lines_419 rfl ?_
  refine e_ic_ge (tgt := 428) dL_lines_420 rfl (fun hc119 => ?_) (fun hc119 => ?_)
  · rw [if_pos hc119] at h
    refine e_iconst dL_lines_428 ci_0 ?_
    exact e_le (g_L_lines_429 hk40 x1 x2 x3 x5 x8 x9 x10 x11 x13 x18 (0 : Int32) x7 μ _ hb9 h) ⟨rfl, rfl, rfl, rfl, rfl, rfl, rfl, rfl, rfl, rfl, rfl, trivial⟩
  · rw [if_neg hc119] at h
    refine e_iload dL_lines_423 rfl ?_
    refine e_goto (tgt := 429) dL_lines_425 rfl ?_
    exact e_le (g_L_lines_429 hk40 x1 x2 x3 x5 x8 x9 x10 x11 x13 x18 x13 x7 μ _ hb9 h) ⟨rfl, rfl, rfl, rfl, rfl, rfl, rfl, rfl, rfl, rfl, rfl, trivial⟩
set_option maxHeartbeats 4000000 in
theorem g_L_lines_383 {r : Res} {μ' : Mem} {k40 : Int32 → Int32 → Int64 → Int64 → Int32 → Int32 → Int32 → Int32 → Int32 → Mem → Out} (hk40 : ∀ (x1 : Int32) (x2 : Int32) (x3 : Int64) (x5 : Int64) (x7 : Int32) (x8 : Int32) (x9 : Int32) (x10 : Int32) (x11 : Int32), ∀ (μ : Mem) (b : Nat), rc r 1 ≤ b → k40 x1 x2 x3 x5 x7 x8 x9 x10 x11 μ = some (r, μ') → G mL_lines (Qe r μ') 40 [some (.ref 0), some (.int x1), some (.int x2), some (.long x3), none, some (.long x5), none, some (.int x7), some (.int x8), some (.int x9), some (.int x10), some (.int x11), none, none, none, none, none, none, none, none, none, none] [] μ b) : ∀ (x1 : Int32) (x2 : Int32) (x3 : Int64) (x5 : Int64) (x7 : Int32) (x8 : Int32) (x9 : Int32) (x10 : Int32) (x11 : Int32) (x13 : Int32) (x15 : Int32) (x18 : Int32) (x20 : Int32) (s0 : Int32) (s1 : Int32), ∀ (μ : Mem) (b : Nat), rc r 1 ≤ b → f_L_lines_383 k40 x1 x2 x3 x5 x7 x8 x9 x10 x11 x13 x15 x18 x20 s0 s1 μ = some (r, μ') → G mL_lines (Qe r μ') 383 [some (.ref 0), some (.int x1), some (.int x2), some (.long x3), none, some (.long x5), none, some (.int x7), some (.int x8), some (.int x9), some (.int x10), some (.int x11), none, some (.int x13), none, some (.int x15), none, none, some (.int x18), none, some (.int x20), none] [.int s0, .int s1] μ b := by
  intro x1 x2 x3 x5 x7 x8 x9 x10 x11 x13 x15 x18 x20 s0 s1 μ b hb9 h
  unfold f_L_lines_383 at h
  refine e_ic_lt (tgt := 413) dL_lines_383 rfl (fun hc100 => ?_) (fun hc100 => ?_)
  · rw [if_pos hc100] at h
    refine e_iconst dL_lines_413 ci_0 ?_
    exact e_iret .boolean dL_lines_414 rfl rfl (ret_eq h)
  · rw [if_neg hc100] at h
    refine e_iload dL_lines_386 rfl ?_
    refine e_iload dL_lines_388 rfl ?_
    refine e_imul dL_lines_390 ?_
    refine e_iload dL_lines_391 rfl ?_
    refine e_ic_lt (tgt := 413) dL_lines_393 rfl (fun hc101 => ?_) (fun hc101 => ?_)
    · rw [if_pos hc101] at h
      refine e_iconst dL_lines_413 ci_0 ?_
      exact e_iret .boolean dL_lines_414 rfl rfl (ret_eq h)
    · rw [if_neg hc101] at h
      refine e_iload dL_lines_396 rfl ?_
      refine e_iload dL_lines_398 rfl ?_
      refine e_iload dL_lines_400 rfl ?_
      refine e_iadd dL_lines_402 ?_
      refine e_iconst dL_lines_403 ci_1 ?_
      refine e_isub dL_lines_404 ?_
      refine e_ic_ge (tgt := 415) dL_lines_405 rfl (fun hc102 => ?_) (fun hc102 => ?_)
      · rw [if_pos hc102] at h
        exact e_le (g_L_lines_415 hk40 x1 x2 x3 x5 x7 x8 x9 x10 x11 x13 x18 μ _ hb9 h) ⟨rfl, rfl, rfl, rfl, rfl, rfl, rfl, rfl, rfl, rfl, rfl, rfl, trivial⟩
      · rw [if_neg hc102] at h
        refine e_iload dL_lines_408 rfl ?_
        refine e_if_le (tgt := 415) dL_lines_410 rfl (fun hc103 => ?_) (fun hc103 => ?_)
        · rw [if_pos hc103] at h
          exact e_le (g_L_lines_415 hk40 x1 x2 x3 x5 x7 x8 x9 x10 x11 x13 x18 μ _ hb9 h) ⟨rfl, rfl, rfl, rfl, rfl, rfl, rfl, rfl, rfl, rfl, rfl, rfl, trivial⟩
        · rw [if_neg hc103] at h
          refine e_iconst dL_lines_413 ci_0 ?_
          exact e_iret .boolean dL_lines_414 rfl rfl (ret_eq h)
set_option maxHeartbeats 4000000 in
theorem g_L_lines_306 {r : Res} {μ' : Mem} {k40 : Int32 → Int32 → Int64 → Int64 → Int32 → Int32 → Int32 → Int32 → Int32 → Mem → Out} (hk40 : ∀ (x1 : Int32) (x2 : Int32) (x3 : Int64) (x5 : Int64) (x7 : Int32) (x8 : Int32) (x9 : Int32) (x10 : Int32) (x11 : Int32), ∀ (μ : Mem) (b : Nat), rc r 1 ≤ b → k40 x1 x2 x3 x5 x7 x8 x9 x10 x11 μ = some (r, μ') → G mL_lines (Qe r μ') 40 [some (.ref 0), some (.int x1), some (.int x2), some (.long x3), none, some (.long x5), none, some (.int x7), some (.int x8), some (.int x9), some (.int x10), some (.int x11), none, none, none, none, none, none, none, none, none, none] [] μ b) : ∀ (x1 : Int32) (x2 : Int32) (x3 : Int64) (x5 : Int64) (x7 : Int32) (x8 : Int32) (x9 : Int32) (x10 : Int32) (x11 : Int32) (x13 : Int32) (x14 : Int32) (x15 : Int32) (x18 : Int32) (s0 : Int32), ∀ (μ : Mem) (b : Nat), rc r 1 ≤ b → f_L_lines_306 k40 x1 x2 x3 x5 x7 x8 x9 x10 x11 x13 x14 x15 x18 s0 μ = some (r, μ') → G mL_lines (Qe r μ') 306 [some (.ref 0), some (.int x1), some (.int x2), some (.long x3), none, some (.long x5), none, some (.int x7), some (.int x8), some (.int x9), some (.int x10), some (.int x11), none, some (.int x13), some (.int x14), some (.int x15), none, none, some (.int x18), none, none, none] [.int s0] μ b := by
  intro x1 x2 x3 x5 x7 x8 x9 x10 x11 x13 x14 x15 x18 s0 μ b hb9 h
  unfold f_L_lines_306 at h
  refine e_istoreL [some (.ref 0), some (.int x1), some (.int x2), some (.long x3), none, some (.long x5), none, some (.int x7), some (.int x8), some (.int x9), some (.int x10), some (.int x11), none, some (.int x13), some (.int x14), some (.int x15), none, none, some (.int x18), some (.int s0), none, none] dL_lines_306 (Nat.le_of_ble_eq_true rfl) rfl ?_
  refine e_aload_n dL_lines_308 rfl ?_
  refine e_iload dL_lines_309 rfl ?_
  refine e_iconst dL_lines_311 ci_3 ?_
  refine cI_go h (fun E70 hc68 hr71 => e_VX [.int x11, .int (3 : Int32)] [] dL_lines_312 rfl rfl rfl rfl ⟨Nat.le_of_ble_eq_true rfl, rfl⟩ (Nat.le_of_ble_eq_true rfl) (hbr hr71 hb9 (Nat.le_of_ble_eq_true rfl)) ⟨x11, (3 : Int32), rfl, hc68⟩ rfl ⟨hr71.symm, rfl⟩) (fun v72 μ69 hc68 h => ?_)
  refine e_VI [.int x11, .int (3 : Int32)] [] dL_lines_312 rfl rfl rfl rfl ⟨Nat.le_of_ble_eq_true rfl, rfl⟩ (Nat.le_of_ble_eq_true rfl) ⟨x11, (3 : Int32), rfl, hc68⟩ ?_
  refine e_istoreL [some (.ref 0), some (.int x1), some (.int x2), some (.long x3), none, some (.long x5), none, some (.int x7), some (.int x8), some (.int x9), some (.int x10), some (.int x11), none, some (.int x13), some (.int x14), some (.int x15), none, none, some (.int x18), some (.int s0), some (.int v72), none] dL_lines_315 (Nat.le_of_ble_eq_true rfl) rfl ?_
  refine e_aload_n dL_lines_317 rfl ?_
  refine e_iload dL_lines_318 rfl ?_
  refine e_iconst dL_lines_320 ci_0 ?_
  refine cI_go h (fun E75 hc73 hr76 => e_VX [.int x11, .int (0 : Int32)] [] dL_lines_321 rfl rfl rfl rfl ⟨Nat.le_of_ble_eq_true rfl, rfl⟩ (Nat.le_of_ble_eq_true rfl) (hbr hr76 hb9 (Nat.le_of_ble_eq_true rfl)) ⟨x11, (0 : Int32), rfl, hc73⟩ rfl ⟨hr76.symm, rfl⟩) (fun v77 μ74 hc73 h => ?_)
  refine e_VI [.int x11, .int (0 : Int32)] [] dL_lines_321 rfl rfl rfl rfl ⟨Nat.le_of_ble_eq_true rfl, rfl⟩ (Nat.le_of_ble_eq_true rfl) ⟨x11, (0 : Int32), rfl, hc73⟩ ?_
  refine e_iload dL_lines_324 rfl ?_
  refine e_ic_ne (tgt := 413) dL_lines_326 rfl (fun hc78 => ?_) (fun hc78 => ?_)
  · rw [if_neg hc78] at h
    refine e_iconst dL_lines_413 ci_0 ?_
    exact e_iret .boolean dL_lines_414 rfl rfl (ret_eq h)
  · rw [if_pos hc78] at h
    refine e_aload_n dL_lines_329 rfl ?_
    refine e_iload dL_lines_330 rfl ?_
    refine e_iconst dL_lines_332 ci_4 ?_
    refine cI_go h (fun E81 hc79 hr82 => e_VX [.int x11, .int (4 : Int32)] [] dL_lines_333 rfl rfl rfl rfl ⟨Nat.le_of_ble_eq_true rfl, rfl⟩ (Nat.le_of_ble_eq_true rfl) (hbr hr82 hb9 (Nat.le_of_ble_eq_true rfl)) ⟨x11, (4 : Int32), rfl, hc79⟩ rfl ⟨hr82.symm, rfl⟩) (fun v83 μ80 hc79 h => ?_)
    refine e_VI [.int x11, .int (4 : Int32)] [] dL_lines_333 rfl rfl rfl rfl ⟨Nat.le_of_ble_eq_true rfl, rfl⟩ (Nat.le_of_ble_eq_true rfl) ⟨x11, (4 : Int32), rfl, hc79⟩ ?_
    refine e_iload dL_lines_336 rfl ?_
    refine e_ic_ne (tgt := 413) dL_lines_338 rfl (fun hc84 => ?_) (fun hc84 => ?_)
    · rw [if_neg hc84] at h
      refine e_iconst dL_lines_413 ci_0 ?_
      exact e_iret .boolean dL_lines_414 rfl rfl (ret_eq h)
    · rw [if_pos hc84] at h
      refine e_aload_n dL_lines_341 rfl ?_
      refine e_iload dL_lines_342 rfl ?_
      refine e_iconst dL_lines_344 ci_2 ?_
      refine cI_go h (fun E87 hc85 hr88 => e_VX [.int x11, .int (2 : Int32)] [] dL_lines_345 rfl rfl rfl rfl ⟨Nat.le_of_ble_eq_true rfl, rfl⟩ (Nat.le_of_ble_eq_true rfl) (hbr hr88 hb9 (Nat.le_of_ble_eq_true rfl)) ⟨x11, (2 : Int32), rfl, hc85⟩ rfl ⟨hr88.symm, rfl⟩) (fun v89 μ86 hc85 h => ?_)
      refine e_VI [.int x11, .int (2 : Int32)] [] dL_lines_345 rfl rfl rfl rfl ⟨Nat.le_of_ble_eq_true rfl, rfl⟩ (Nat.le_of_ble_eq_true rfl) ⟨x11, (2 : Int32), rfl, hc85⟩ ?_
      refine e_iload dL_lines_348 rfl ?_
      refine e_ic_ne (tgt := 413) dL_lines_350 rfl (fun hc90 => ?_) (fun hc90 => ?_)
      · rw [if_neg hc90] at h
        refine e_iconst dL_lines_413 ci_0 ?_
        exact e_iret .boolean dL_lines_414 rfl rfl (ret_eq h)
      · rw [if_pos hc90] at h
        refine e_aload_n dL_lines_353 rfl ?_
        refine e_iload dL_lines_354 rfl ?_
        refine cI_go h (fun E93 hc91 hr94 => e_VX [.int x11] [] dL_lines_356 rfl rfl rfl rfl ⟨Nat.le_of_ble_eq_true rfl, rfl⟩ (Nat.le_of_ble_eq_true rfl) (hbr hr94 hb9 (Nat.le_of_ble_eq_true rfl)) ⟨x11, rfl, hc91⟩ rfl ⟨hr94.symm, rfl⟩) (fun v95 μ92 hc91 h => ?_)
        refine e_VI [.int x11] [] dL_lines_356 rfl rfl rfl rfl ⟨Nat.le_of_ble_eq_true rfl, rfl⟩ (Nat.le_of_ble_eq_true rfl) ⟨x11, rfl, hc91⟩ ?_
        refine e_iload dL_lines_359 rfl ?_
        refine e_ic_ne (tgt := 413) dL_lines_361 rfl (fun hc96 => ?_) (fun hc96 => ?_)
        · rw [if_neg hc96] at h
          refine e_iconst dL_lines_413 ci_0 ?_
          exact e_iret .boolean dL_lines_414 rfl rfl (ret_eq h)
        · rw [if_pos hc96] at h
          refine e_iload dL_lines_364 rfl ?_
          refine e_iload dL_lines_366 rfl ?_
          refine e_ic_gt (tgt := 413) dL_lines_368 rfl (fun hc97 => ?_) (fun hc97 => ?_)
          · rw [if_pos hc97] at h
            refine e_iconst dL_lines_413 ci_0 ?_
            exact e_iret .boolean dL_lines_414 rfl rfl (ret_eq h)
          · rw [if_neg hc97] at h
            refine e_iload dL_lines_371 rfl ?_
            refine e_iload dL_lines_373 rfl ?_
            refine e_if_ne (tgt := 382) dL_lines_375 rfl (fun hc98 => ?_) (fun hc98 => ?_)
            · rw [if_neg hc98] at h
              refine e_iconst dL_lines_382 ci_1 ?_
              exact e_le (g_L_lines_383 hk40 x1 x2 x3 x5 x7 x8 x9 x10 x11 x13 x15 x18 v72 (1 : Int32) v72 μ92 _ hb9 h) ⟨rfl, rfl, rfl, rfl, rfl, rfl, rfl, rfl, rfl, rfl, rfl, rfl, rfl, rfl, trivial⟩
            · rw [if_pos hc98] at h
              refine e_iconst dL_lines_378 ci_0 ?_
              refine e_goto (tgt := 383) dL_lines_379 rfl ?_
              exact e_le (g_L_lines_383 hk40 x1 x2 x3 x5 x7 x8 x9 x10 x11 x13 x15 x18 v72 (0 : Int32) v72 μ92 _ hb9 h) ⟨rfl, rfl, rfl, rfl, rfl, rfl, rfl, rfl, rfl, rfl, rfl, rfl, rfl, rfl, trivial⟩
set_option maxHeartbeats 4000000 in
theorem g_L_lines_79 {r : Res} {μ' : Mem} {k40 : Int32 → Int32 → Int64 → Int64 → Int32 → Int32 → Int32 → Int32 → Int32 → Mem → Out} (hk40 : ∀ (x1 : Int32) (x2 : Int32) (x3 : Int64) (x5 : Int64) (x7 : Int32) (x8 : Int32) (x9 : Int32) (x10 : Int32) (x11 : Int32), ∀ (μ : Mem) (b : Nat), rc r 1 ≤ b → k40 x1 x2 x3 x5 x7 x8 x9 x10 x11 μ = some (r, μ') → G mL_lines (Qe r μ') 40 [some (.ref 0), some (.int x1), some (.int x2), some (.long x3), none, some (.long x5), none, some (.int x7), some (.int x8), some (.int x9), some (.int x10), some (.int x11), none, none, none, none, none, none, none, none, none, none] [] μ b) : ∀ n : Nat, ∀ (x1 : Int32) (x2 : Int32) (x3 : Int64) (x5 : Int64) (x7 : Int32) (x8 : Int32) (x9 : Int32) (x10 : Int32) (x11 : Int32) (x12 : Int32) (x13 : Int32) (x14 : Int32) (x15 : Int32) (x16 : Int32) (x17 : Int32) (x18 : Int32), ∀ (μ : Mem) (b : Nat), rc r 1 ≤ b → f_L_lines_79 k40 n x1 x2 x3 x5 x7 x8 x9 x10 x11 x12 x13 x14 x15 x16 x17 x18 μ = some (r, μ') → G mL_lines (Qe r μ') 79 [some (.ref 0), some (.int x1), some (.int x2), some (.long x3), none, some (.long x5), none, some (.int x7), some (.int x8), some (.int x9), some (.int x10), some (.int x11), some (.int x12), some (.int x13), some (.int x14), some (.int x15), some (.int x16), some (.int x17), some (.int x18), none, none, none] [] μ b := by
  intro n
  induction n with
  | zero => intro x1 x2 x3 x5 x7 x8 x9 x10 x11 x12 x13 x14 x15 x16 x17 x18 μ b hb9 h; exact nomatch (show (none : Out) = some _ from h)
  | succ n ih =>
    intro x1 x2 x3 x5 x7 x8 x9 x10 x11 x12 x13 x14 x15 x16 x17 x18 μ b hb9 h
    rw [f_L_lines_79.eq_2] at h
    refine e_iload dL_lines_79 rfl ?_
    refine e_iload dL_lines_81 rfl ?_
    refine e_ic_ge (tgt := 260) dL_lines_83 rfl (fun hc58 => ?_) (fun hc58 => ?_)
    · rw [if_pos hc58] at h
      refine e_aload_n dL_lines_260 rfl ?_
      refine e_iload dL_lines_261 rfl ?_
      refine e_iconst dL_lines_263 ci_1 ?_
      refine cI_go h (fun E61 hc59 hr62 => e_VX [.int x11, .int (1 : Int32)] [] dL_lines_264 rfl rfl rfl rfl ⟨Nat.le_of_ble_eq_true rfl, rfl⟩ (Nat.le_of_ble_eq_true rfl) (hbr hr62 hb9 (Nat.le_of_ble_eq_true rfl)) ⟨x11, (1 : Int32), rfl, hc59⟩ rfl ⟨hr62.symm, rfl⟩) (fun v63 μ60 hc59 h => ?_)
      refine e_VI [.int x11, .int (1 : Int32)] [] dL_lines_264 rfl rfl rfl rfl ⟨Nat.le_of_ble_eq_true rfl, rfl⟩ (Nat.le_of_ble_eq_true rfl) ⟨x11, (1 : Int32), rfl, hc59⟩ ?_
      refine e_istoreL [some (.ref 0), some (.int x1), some (.int x2), some (.long x3), none, some (.long x5), none, some (.int x7), some (.int x8), some (.int x9), some (.int x10), some (.int x11), some (.int x12), some (.int x13), some (.int x14), some (.int x15), some (.int x16), some (.int x17), some (.int v63), none, none, none] dL_lines_267 (Nat.le_of_ble_eq_true rfl) rfl ?_
      refine e_iload dL_lines_269 rfl ?_
      refine e_iload dL_lines_271 rfl ?_
      refine e_ic_ne (tgt := 280) dL_lines_273 rfl (fun hc64 => ?_) (fun hc64 => ?_)
      · rw [if_neg hc64] at h
        refine e_iload dL_lines_280 rfl ?_
        refine e_iload dL_lines_282 rfl ?_
        refine e_iload dL_lines_284 rfl ?_
        refine e_isub dL_lines_286 ?_
        refine e_ic_le (tgt := 294) dL_lines_287 rfl (fun hc65 => ?_) (fun hc65 => ?_)
        · rw [if_pos hc65] at h
          refine e_iload dL_lines_294 rfl ?_
          refine e_iload dL_lines_296 rfl ?_
          refine e_ic_ge (tgt := 305) dL_lines_298 rfl (fun hc66 => ?_) (fun hc66 => ?_)
          · rw [if_pos hc66] at h
            refine e_iconst dL_lines_305 ci_3 ?_
            exact e_le (g_L_lines_306 hk40 x1 x2 x3 x5 x7 x8 x9 x10 x11 x13 x14 x15 v63 (3 : Int32) μ60 _ hb9 h) ⟨rfl, rfl, rfl, rfl, rfl, rfl, rfl, rfl, rfl, rfl, rfl, rfl, rfl, rfl, trivial⟩
          · rw [if_neg hc66] at h
            refine e_iconst dL_lines_301 ci_2 ?_
            refine e_goto (tgt := 306) dL_lines_302 rfl ?_
            exact e_le (g_L_lines_306 hk40 x1 x2 x3 x5 x7 x8 x9 x10 x11 x13 x14 x15 v63 (2 : Int32) μ60 _ hb9 h) ⟨rfl, rfl, rfl, rfl, rfl, rfl, rfl, rfl, rfl, rfl, rfl, rfl, rfl, rfl, trivial⟩
        · rw [if_neg hc65] at h
          refine e_iconst dL_lines_290 ci_1 ?_
          refine e_goto (tgt := 306) dL_lines_291 rfl ?_
          exact e_le (g_L_lines_306 hk40 x1 x2 x3 x5 x7 x8 x9 x10 x11 x13 x14 x15 v63 (1 : Int32) μ60 _ hb9 h) ⟨rfl, rfl, rfl, rfl, rfl, rfl, rfl, rfl, rfl, rfl, rfl, rfl, rfl, rfl, trivial⟩
      · rw [if_pos hc64] at h
        refine e_iconst dL_lines_276 ci_0 ?_
        refine e_goto (tgt := 306) dL_lines_277 rfl ?_
        exact e_le (g_L_lines_306 hk40 x1 x2 x3 x5 x7 x8 x9 x10 x11 x13 x14 x15 v63 (0 : Int32) μ60 _ hb9 h) ⟨rfl, rfl, rfl, rfl, rfl, rfl, rfl, rfl, rfl, rfl, rfl, rfl, rfl, rfl, trivial⟩
    · rw [if_neg hc58] at h
      refine e_iload dL_lines_86 rfl ?_
      refine e_iload_n dL_lines_88 rfl ?_
      refine e_ic_ge (tgt := 97) dL_lines_89 rfl (fun hc67 => ?_) (fun hc67 => ?_)
      · rw [if_pos hc67] at h
        refine e_iload dL_lines_97 rfl ?_
        exact e_le (g_L_lines_99 hk40 ih x1 x2 x3 x5 x7 x8 x9 x10 x11 x12 x13 x14 x15 x16 x17 x18 x18 μ _ hb9 h) ⟨rfl, rfl, rfl, rfl, rfl, rfl, rfl, rfl, rfl, rfl, rfl, rfl, rfl, rfl, rfl, rfl, rfl, trivial⟩
      · rw [if_neg hc67] at h
        refine e_iload dL_lines_92 rfl ?_
        refine e_goto (tgt := 99) dL_lines_94 rfl ?_
        exact e_le (g_L_lines_99 hk40 ih x1 x2 x3 x5 x7 x8 x9 x10 x11 x12 x13 x14 x15 x16 x17 x18 x11 μ _ hb9 h) ⟨rfl, rfl, rfl, rfl, rfl, rfl, rfl, rfl, rfl, rfl, rfl, rfl, rfl, rfl, rfl, rfl, rfl, trivial⟩
set_option maxHeartbeats 4000000 in
theorem g_L_lines_59 {r : Res} {μ' : Mem} {k40 : Int32 → Int32 → Int64 → Int64 → Int32 → Int32 → Int32 → Int32 → Int32 → Mem → Out} (hk40 : ∀ (x1 : Int32) (x2 : Int32) (x3 : Int64) (x5 : Int64) (x7 : Int32) (x8 : Int32) (x9 : Int32) (x10 : Int32) (x11 : Int32), ∀ (μ : Mem) (b : Nat), rc r 1 ≤ b → k40 x1 x2 x3 x5 x7 x8 x9 x10 x11 μ = some (r, μ') → G mL_lines (Qe r μ') 40 [some (.ref 0), some (.int x1), some (.int x2), some (.long x3), none, some (.long x5), none, some (.int x7), some (.int x8), some (.int x9), some (.int x10), some (.int x11), none, none, none, none, none, none, none, none, none, none] [] μ b) : ∀ (x1 : Int32) (x2 : Int32) (x3 : Int64) (x5 : Int64) (x7 : Int32) (x8 : Int32) (x9 : Int32) (x10 : Int32) (x11 : Int32) (s0 : Int32), ∀ (μ : Mem) (b : Nat), rc r 1 ≤ b → f_L_lines_59 k40 x1 x2 x3 x5 x7 x8 x9 x10 x11 s0 μ = some (r, μ') → G mL_lines (Qe r μ') 59 [some (.ref 0), some (.int x1), some (.int x2), some (.long x3), none, some (.long x5), none, some (.int x7), some (.int x8), some (.int x9), some (.int x10), some (.int x11), none, none, none, none, none, none, none, none, none, none] [.int s0] μ b := by
  intro x1 x2 x3 x5 x7 x8 x9 x10 x11 s0 μ b hb9 h
  unfold f_L_lines_59 at h
  refine e_istoreL [some (.ref 0), some (.int x1), some (.int x2), some (.long x3), none, some (.long x5), none, some (.int x7), some (.int x8), some (.int x9), some (.int x10), some (.int x11), some (.int s0), none, none, none, none, none, none, none, none, none] dL_lines_59 (Nat.le_of_ble_eq_true rfl) rfl ?_
  refine e_iconst dL_lines_61 ci_0 ?_
  refine e_istoreL [some (.ref 0), some (.int x1), some (.int x2), some (.long x3), none, some (.long x5), none, some (.int x7), some (.int x8), some (.int x9), some (.int x10), some (.int x11), some (.int s0), some (.int (0 : Int32)), none, none, none, none, none, none, none, none] dL_lines_62 (Nat.le_of_ble_eq_true rfl) rfl ?_
  refine e_iconst dL_lines_64 ci_0 ?_
  refine e_istoreL [some (.ref 0), some (.int x1), some (.int x2), some (.long x3), none, some (.long x5), none, some (.int x7), some (.int x8), some (.int x9), some (.int x10), some (.int x11), some (.int s0), some (.int (0 : Int32)), some (.int (0 : Int32)), none, none, none, none, none, none, none] dL_lines_65 (Nat.le_of_ble_eq_true rfl) rfl ?_
  refine e_iconst dL_lines_67 ci_0 ?_
  refine e_istoreL [some (.ref 0), some (.int x1), some (.int x2), some (.long x3), none, some (.long x5), none, some (.int x7), some (.int x8), some (.int x9), some (.int x10), some (.int x11), some (.int s0), some (.int (0 : Int32)), some (.int (0 : Int32)), some (.int (0 : Int32)), none, none, none, none, none, none] dL_lines_68 (Nat.le_of_ble_eq_true rfl) rfl ?_
  refine e_iconst dL_lines_70 ci_0 ?_
  refine e_istoreL [some (.ref 0), some (.int x1), some (.int x2), some (.long x3), none, some (.long x5), none, some (.int x7), some (.int x8), some (.int x9), some (.int x10), some (.int x11), some (.int s0), some (.int (0 : Int32)), some (.int (0 : Int32)), some (.int (0 : Int32)), some (.int (0 : Int32)), none, none, none, none, none] dL_lines_71 (Nat.le_of_ble_eq_true rfl) rfl ?_
  refine e_iconst dL_lines_73 ci_0 ?_
  refine e_istoreL [some (.ref 0), some (.int x1), some (.int x2), some (.long x3), none, some (.long x5), none, some (.int x7), some (.int x8), some (.int x9), some (.int x10), some (.int x11), some (.int s0), some (.int (0 : Int32)), some (.int (0 : Int32)), some (.int (0 : Int32)), some (.int (0 : Int32)), some (.int (0 : Int32)), none, none, none, none] dL_lines_74 (Nat.le_of_ble_eq_true rfl) rfl ?_
  refine e_iconst dL_lines_76 ci_0 ?_
  refine e_istoreL [some (.ref 0), some (.int x1), some (.int x2), some (.long x3), none, some (.long x5), none, some (.int x7), some (.int x8), some (.int x9), some (.int x10), some (.int x11), some (.int s0), some (.int (0 : Int32)), some (.int (0 : Int32)), some (.int (0 : Int32)), some (.int (0 : Int32)), some (.int (0 : Int32)), some (.int (0 : Int32)), none, none, none] dL_lines_77 (Nat.le_of_ble_eq_true rfl) rfl ?_
  exact e_le (g_L_lines_79 hk40 BIG x1 x2 x3 x5 x7 x8 x9 x10 x11 s0 (0 : Int32) (0 : Int32) (0 : Int32) (0 : Int32) (0 : Int32) (0 : Int32) μ _ hb9 h) ⟨rfl, rfl, rfl, rfl, rfl, rfl, rfl, rfl, rfl, rfl, rfl, rfl, rfl, rfl, rfl, rfl, rfl, trivial⟩
set_option maxHeartbeats 4000000 in
theorem g_L_lines_40 {r : Res} {μ' : Mem} : ∀ n : Nat, ∀ (x1 : Int32) (x2 : Int32) (x3 : Int64) (x5 : Int64) (x7 : Int32) (x8 : Int32) (x9 : Int32) (x10 : Int32) (x11 : Int32), ∀ (μ : Mem) (b : Nat), rc r 1 ≤ b → f_L_lines_40 n x1 x2 x3 x5 x7 x8 x9 x10 x11 μ = some (r, μ') → G mL_lines (Qe r μ') 40 [some (.ref 0), some (.int x1), some (.int x2), some (.long x3), none, some (.long x5), none, some (.int x7), some (.int x8), some (.int x9), some (.int x10), some (.int x11), none, none, none, none, none, none, none, none, none, none] [] μ b := by
  intro n
  induction n with
  | zero => intro x1 x2 x3 x5 x7 x8 x9 x10 x11 μ b hb9 h; exact nomatch (show (none : Out) = some _ from h)
  | succ n ih =>
    intro x1 x2 x3 x5 x7 x8 x9 x10 x11 μ b hb9 h
    rw [f_L_lines_40.eq_2] at h
    refine e_iload dL_lines_40 rfl ?_
    refine e_iload_n dL_lines_42 rfl ?_
    refine e_iload_n dL_lines_43 rfl ?_
    refine e_iadd dL_lines_44 ?_
    refine e_ic_ge (tgt := 479) dL_lines_45 rfl (fun hc21 => ?_) (fun hc21 => ?_)
    · rw [if_pos hc21] at h
      refine e_iload dL_lines_479 rfl ?_
      refine e_iload dL_lines_481 rfl ?_
      refine e_ic_ne (tgt := 540) dL_lines_483 rfl (fun hc22 => ?_) (fun hc22 => ?_)
      · rw [if_neg hc22] at h
        refine e_iconst dL_lines_540 ci_0 ?_
        exact e_iret .boolean dL_lines_541 rfl rfl (ret_eq h)
      · rw [if_pos hc22] at h
        refine e_aload_n dL_lines_486 rfl ?_
        refine e_iconst dL_lines_487 ci_2 ?_
        refine cI_go h (fun E25 hc23 hr26 => e_VX [.int (2 : Int32)] [] dL_lines_488 rfl rfl rfl rfl ⟨Nat.le_of_ble_eq_true rfl, rfl⟩ (Nat.le_of_ble_eq_true rfl) (hbr hr26 hb9 (Nat.le_of_ble_eq_true rfl)) ⟨(2 : Int32), rfl, hc23⟩ rfl ⟨hr26.symm, rfl⟩) (fun v27 μ24 hc23 h => ?_)
        refine e_VI [.int (2 : Int32)] [] dL_lines_488 rfl rfl rfl rfl ⟨Nat.le_of_ble_eq_true rfl, rfl⟩ (Nat.le_of_ble_eq_true rfl) ⟨(2 : Int32), rfl, hc23⟩ ?_
        refine e_iload dL_lines_491 rfl ?_
        refine e_ic_ne (tgt := 540) dL_lines_493 rfl (fun hc28 => ?_) (fun hc28 => ?_)
        · rw [if_neg hc28] at h
          refine e_iconst dL_lines_540 ci_0 ?_
          exact e_iret .boolean dL_lines_541 rfl rfl (ret_eq h)
        · rw [if_pos hc28] at h
          refine e_aload_n dL_lines_496 rfl ?_
          refine e_bipush dL_lines_497 cb_6 ?_
          refine cI_go h (fun E31 hc29 hr32 => e_VX [.int (6 : Int32)] [] dL_lines_499 rfl rfl rfl rfl ⟨Nat.le_of_ble_eq_true rfl, rfl⟩ (Nat.le_of_ble_eq_true rfl) (hbr hr32 hb9 (Nat.le_of_ble_eq_true rfl)) ⟨(6 : Int32), rfl, hc29⟩ rfl ⟨hr32.symm, rfl⟩) (fun v33 μ30 hc29 h => ?_)
          refine e_VI [.int (6 : Int32)] [] dL_lines_499 rfl rfl rfl rfl ⟨Nat.le_of_ble_eq_true rfl, rfl⟩ (Nat.le_of_ble_eq_true rfl) ⟨(6 : Int32), rfl, hc29⟩ ?_
          refine e_iload dL_lines_502 rfl ?_
          refine e_ic_ne (tgt := 540) dL_lines_504 rfl (fun hc34 => ?_) (fun hc34 => ?_)
          · rw [if_neg hc34] at h
            refine e_iconst dL_lines_540 ci_0 ?_
            exact e_iret .boolean dL_lines_541 rfl rfl (ret_eq h)
          · rw [if_pos hc34] at h
            refine e_aload_n dL_lines_507 rfl ?_
            refine e_iconst dL_lines_508 ci_4 ?_
            refine cI_go h (fun E37 hc35 hr38 => e_VX [.int (4 : Int32)] [] dL_lines_509 rfl rfl rfl rfl ⟨Nat.le_of_ble_eq_true rfl, rfl⟩ (Nat.le_of_ble_eq_true rfl) (hbr hr38 hb9 (Nat.le_of_ble_eq_true rfl)) ⟨(4 : Int32), rfl, hc35⟩ rfl ⟨hr38.symm, rfl⟩) (fun v39 μ36 hc35 h => ?_)
            refine e_VI [.int (4 : Int32)] [] dL_lines_509 rfl rfl rfl rfl ⟨Nat.le_of_ble_eq_true rfl, rfl⟩ (Nat.le_of_ble_eq_true rfl) ⟨(4 : Int32), rfl, hc35⟩ ?_
            refine e_aload_n dL_lines_512 rfl ?_
            refine e_iconst dL_lines_513 ci_5 ?_
            refine cI_go h (fun E42 hc40 hr43 => e_VX [.int (5 : Int32)] [.int v39] dL_lines_514 rfl rfl rfl rfl ⟨Nat.le_of_ble_eq_true rfl, rfl⟩ (Nat.le_of_ble_eq_true rfl) (hbr hr43 hb9 (Nat.le_of_ble_eq_true rfl)) ⟨(5 : Int32), rfl, hc40⟩ rfl ⟨hr43.symm, rfl⟩) (fun v44 μ41 hc40 h => ?_)
            refine e_VI [.int (5 : Int32)] [.int v39] dL_lines_514 rfl rfl rfl rfl ⟨Nat.le_of_ble_eq_true rfl, rfl⟩ (Nat.le_of_ble_eq_true rfl) ⟨(5 : Int32), rfl, hc40⟩ ?_
            refine e_iadd dL_lines_517 ?_
            refine e_iload dL_lines_518 rfl ?_
            refine e_ic_ne (tgt := 540) dL_lines_520 rfl (fun hc45 => ?_) (fun hc45 => ?_)
            · rw [if_neg hc45] at h
              refine e_iconst dL_lines_540 ci_0 ?_
              exact e_iret .boolean dL_lines_541 rfl rfl (ret_eq h)
            · rw [if_pos hc45] at h
              refine e_aload_n dL_lines_523 rfl ?_
              refine e_iconst dL_lines_524 ci_3 ?_
              refine cI_go h (fun E48 hc46 hr49 => e_VX [.int (3 : Int32)] [] dL_lines_525 rfl rfl rfl rfl ⟨Nat.le_of_ble_eq_true rfl, rfl⟩ (Nat.le_of_ble_eq_true rfl) (hbr hr49 hb9 (Nat.le_of_ble_eq_true rfl)) ⟨(3 : Int32), rfl, hc46⟩ rfl ⟨hr49.symm, rfl⟩) (fun v50 μ47 hc46 h => ?_)
              refine e_VI [.int (3 : Int32)] [] dL_lines_525 rfl rfl rfl rfl ⟨Nat.le_of_ble_eq_true rfl, rfl⟩ (Nat.le_of_ble_eq_true rfl) ⟨(3 : Int32), rfl, hc46⟩ ?_
              refine e_lload dL_lines_528 rfl ?_
              refine cI_go h (fun E53 hc51 hr54 => e_SX [.long x5] [.int v50] dL_lines_530 rfl (by decide) rfl rfl (Nat.le_of_ble_eq_true rfl) (hbr hr54 hb9 (Nat.le_of_ble_eq_true rfl)) ⟨x5, rfl, hc51⟩ rfl ⟨hr54.symm, rfl⟩) (fun v55 μ52 hc51 h => ?_)
              refine e_SI [.long x5] [.int v50] dL_lines_530 rfl (by decide) rfl rfl (Nat.le_of_ble_eq_true rfl) ⟨x5, rfl, hc51⟩ ?_
              refine e_ic_ne (tgt := 540) dL_lines_533 rfl (fun hc56 => ?_) (fun hc56 => ?_)
              · rw [if_neg hc56] at h
                refine e_iconst dL_lines_540 ci_0 ?_
                exact e_iret .boolean dL_lines_541 rfl rfl (ret_eq h)
              · rw [if_pos hc56] at h
                refine e_iconst dL_lines_536 ci_1 ?_
                refine e_goto (tgt := 541) dL_lines_537 rfl ?_
                exact e_iret .boolean dL_lines_541 rfl rfl (ret_eq h)
    · rw [if_neg hc21] at h
      refine e_iload dL_lines_48 rfl ?_
      refine e_iload_n dL_lines_50 rfl ?_
      refine e_ic_ge (tgt := 58) dL_lines_51 rfl (fun hc57 => ?_) (fun hc57 => ?_)
      · rw [if_pos hc57] at h
        refine e_iload_n dL_lines_58 rfl ?_
        exact e_le (g_L_lines_59 ih x1 x2 x3 x5 x7 x8 x9 x10 x11 x1 μ _ hb9 h) ⟨rfl, rfl, rfl, rfl, rfl, rfl, rfl, rfl, rfl, rfl, trivial⟩
      · rw [if_neg hc57] at h
        refine e_iload_n dL_lines_54 rfl ?_
        refine e_goto (tgt := 59) dL_lines_55 rfl ?_
        exact e_le (g_L_lines_59 ih x1 x2 x3 x5 x7 x8 x9 x10 x11 x2 μ _ hb9 h) ⟨rfl, rfl, rfl, rfl, rfl, rfl, rfl, rfl, rfl, rfl, trivial⟩
set_option maxHeartbeats 4000000 in
theorem b_L_lines : ∀ as μ r μ', Γ_L_lines as μ r μ' → (elvL as).length ≤ 22 ∧ G mL_lines (Qe r μ') 0 (elv as 22) [] μ (rc r 1) := by
  intro as μ r μ' h
  obtain ⟨rfl, h⟩ := h
  refine ⟨Nat.le_of_ble_eq_true rfl, ?_⟩
  show G mL_lines (Qe r μ') 0 [some (.ref 0), none, none, none, none, none, none, none, none, none, none, none, none, none, none, none, none, none, none, none, none, none] [] μ (rc r 1)
  unfold F_L_lines at h
  have hb9 : rc r 1 ≤ rc r 1 := Nat.le_refl _
  refine e_aload_n dL_lines_0 rfl ?_
  refine e_iconst dL_lines_1 ci_0 ?_
  refine cI_go h (fun E3 hc1 hr4 => e_VX [.int (0 : Int32)] [] dL_lines_2 rfl rfl rfl rfl ⟨Nat.le_of_ble_eq_true rfl, rfl⟩ (Nat.le_of_ble_eq_true rfl) (hbr hr4 hb9 (Nat.le_of_ble_eq_true rfl)) ⟨(0 : Int32), rfl, hc1⟩ rfl ⟨hr4.symm, rfl⟩) (fun v5 μ2 hc1 h => ?_)
  refine e_VI [.int (0 : Int32)] [] dL_lines_2 rfl rfl rfl rfl ⟨Nat.le_of_ble_eq_true rfl, rfl⟩ (Nat.le_of_ble_eq_true rfl) ⟨(0 : Int32), rfl, hc1⟩ ?_
  refine e_istore_nL [some (.ref 0), some (.int v5), none, none, none, none, none, none, none, none, none, none, none, none, none, none, none, none, none, none, none, none] dL_lines_5 (Nat.le_of_ble_eq_true rfl) rfl ?_
  refine e_aload_n dL_lines_6 rfl ?_
  refine e_iconst dL_lines_7 ci_1 ?_
  refine cI_go h (fun E8 hc6 hr9 => e_VX [.int (1 : Int32)] [] dL_lines_8 rfl rfl rfl rfl ⟨Nat.le_of_ble_eq_true rfl, rfl⟩ (Nat.le_of_ble_eq_true rfl) (hbr hr9 hb9 (Nat.le_of_ble_eq_true rfl)) ⟨(1 : Int32), rfl, hc6⟩ rfl ⟨hr9.symm, rfl⟩) (fun v10 μ7 hc6 h => ?_)
  refine e_VI [.int (1 : Int32)] [] dL_lines_8 rfl rfl rfl rfl ⟨Nat.le_of_ble_eq_true rfl, rfl⟩ (Nat.le_of_ble_eq_true rfl) ⟨(1 : Int32), rfl, hc6⟩ ?_
  refine e_istore_nL [some (.ref 0), some (.int v5), some (.int v10), none, none, none, none, none, none, none, none, none, none, none, none, none, none, none, none, none, none, none] dL_lines_11 (Nat.le_of_ble_eq_true rfl) rfl ?_
  refine e_aload_n dL_lines_12 rfl ?_
  refine e_iconst dL_lines_13 ci_0 ?_
  refine cJ_go h (fun E13 hc11 hr14 => e_SX [.ref 0, .int (0 : Int32)] [] dL_lines_14 rfl (by decide) rfl rfl (Nat.le_of_ble_eq_true rfl) (hbr hr14 hb9 (Nat.le_of_ble_eq_true rfl)) ⟨(0 : Int32), rfl, hc11⟩ rfl ⟨hr14.symm, rfl⟩) (fun v15 μ12 hc11 h => ?_)
  refine e_SJ [.ref 0, .int (0 : Int32)] [] dL_lines_14 rfl (by decide) rfl rfl (Nat.le_of_ble_eq_true rfl) ⟨(0 : Int32), rfl, hc11⟩ ?_
  refine e_lstore_nL [some (.ref 0), some (.int v5), some (.int v10), some (.long v15), none, none, none, none, none, none, none, none, none, none, none, none, none, none, none, none, none, none] dL_lines_17 (Nat.le_of_ble_eq_true rfl) rfl ?_
  refine e_aload_n dL_lines_18 rfl ?_
  refine e_iconst dL_lines_19 ci_1 ?_
  refine cJ_go h (fun E18 hc16 hr19 => e_SX [.ref 0, .int (1 : Int32)] [] dL_lines_20 rfl (by decide) rfl rfl (Nat.le_of_ble_eq_true rfl) (hbr hr19 hb9 (Nat.le_of_ble_eq_true rfl)) ⟨(1 : Int32), rfl, hc16⟩ rfl ⟨hr19.symm, rfl⟩) (fun v20 μ17 hc16 h => ?_)
  refine e_SJ [.ref 0, .int (1 : Int32)] [] dL_lines_20 rfl (by decide) rfl rfl (Nat.le_of_ble_eq_true rfl) ⟨(1 : Int32), rfl, hc16⟩ ?_
  refine e_lstoreL [some (.ref 0), some (.int v5), some (.int v10), some (.long v15), none, some (.long v20), none, none, none, none, none, none, none, none, none, none, none, none, none, none, none, none] dL_lines_23 (Nat.le_of_ble_eq_true rfl) rfl ?_
  refine e_iconst dL_lines_25 ci_0 ?_
  refine e_istoreL [some (.ref 0), some (.int v5), some (.int v10), some (.long v15), none, some (.long v20), none, some (.int (0 : Int32)), none, none, none, none, none, none, none, none, none, none, none, none, none, none] dL_lines_26 (Nat.le_of_ble_eq_true rfl) rfl ?_
  refine e_iconst dL_lines_28 ci_0 ?_
  refine e_istoreL [some (.ref 0), some (.int v5), some (.int v10), some (.long v15), none, some (.long v20), none, some (.int (0 : Int32)), some (.int (0 : Int32)), none, none, none, none, none, none, none, none, none, none, none, none, none] dL_lines_29 (Nat.le_of_ble_eq_true rfl) rfl ?_
  refine e_iconst dL_lines_31 ci_0 ?_
  refine e_istoreL [some (.ref 0), some (.int v5), some (.int v10), some (.long v15), none, some (.long v20), none, some (.int (0 : Int32)), some (.int (0 : Int32)), some (.int (0 : Int32)), none, none, none, none, none, none, none, none, none, none, none, none] dL_lines_32 (Nat.le_of_ble_eq_true rfl) rfl ?_
  refine e_iconst dL_lines_34 ci_0 ?_
  refine e_istoreL [some (.ref 0), some (.int v5), some (.int v10), some (.long v15), none, some (.long v20), none, some (.int (0 : Int32)), some (.int (0 : Int32)), some (.int (0 : Int32)), some (.int (0 : Int32)), none, none, none, none, none, none, none, none, none, none, none] dL_lines_35 (Nat.le_of_ble_eq_true rfl) rfl ?_
  refine e_iconst dL_lines_37 ci_0 ?_
  refine e_istoreL [some (.ref 0), some (.int v5), some (.int v10), some (.long v15), none, some (.long v20), none, some (.int (0 : Int32)), some (.int (0 : Int32)), some (.int (0 : Int32)), some (.int (0 : Int32)), some (.int (0 : Int32)), none, none, none, none, none, none, none, none, none, none] dL_lines_38 (Nat.le_of_ble_eq_true rfl) rfl ?_
  exact e_le (g_L_lines_40 BIG v5 v10 v15 v20 (0 : Int32) (0 : Int32) (0 : Int32) (0 : Int32) (0 : Int32) μ17 _ hb9 h) ⟨rfl, rfl, rfl, rfl, rfl, rfl, rfl, rfl, rfl, rfl, trivial⟩
set_option maxRecDepth 20000 in
theorem ok_L_lines (l : Launch) (hl : l.stackTraces = false) : MOK l yL_lines.cls 9 170 mL_lines := ⟨lk_all (List.forall_mem_cons.mpr ⟨⟨yX7_about, cX7_about, 2, (some .int), 6, 90, by decide, by decide, t_1 1 rfl rfl, hd_X7_about, Or.inr (Or.inl ⟨rfl, sc_X7_about l hl, t_1 148 rfl rfl, t_1 145 rfl rfl, t_1 146 rfl rfl, _, rfl, t_1 147 rfl rfl⟩)⟩, List.forall_mem_cons.mpr ⟨⟨yL_bits, cL_bits, 6, (some .long), 8, 145, by decide, by decide, t_1 0 rfl rfl, hd_L_bits, Or.inl ⟨rfl, sc_L_bits l hl, t_3 132 rfl rfl, t_3 130 rfl rfl, t_3 131 rfl rfl⟩⟩, List.forall_mem_cons.mpr ⟨⟨yL_at, cL_at, 4, (some .int), 1, 0, by decide, by decide, t_1 0 rfl rfl, hd_L_at, Or.inl ⟨rfl, sc_L_at l hl, t_3 138 rfl rfl, t_3 136 rfl rfl, t_3 137 rfl rfl⟩⟩, List.forall_mem_cons.mpr ⟨⟨yX7_line, cX7_line, 5, (some .int), 7, 111, by decide, by decide, t_1 1 rfl rfl, hd_X7_line, Or.inr (Or.inl ⟨rfl, sc_X7_line l hl, t_2 77 rfl rfl, t_2 74 rfl rfl, t_2 75 rfl rfl, _, rfl, t_2 76 rfl rfl⟩)⟩, List.forall_mem_cons.mpr ⟨⟨yX7_whyNot, cX7_whyNot, 5, (some .int), 7, 111, by decide, by decide, t_1 1 rfl rfl, hd_X7_whyNot, Or.inr (Or.inl ⟨rfl, sc_X7_whyNot l hl, t_3 142 rfl rfl, t_3 139 rfl rfl, t_3 140 rfl rfl, _, rfl, t_3 141 rfl rfl⟩)⟩, List.forall_mem_cons.mpr ⟨⟨yL_ones, cL_ones, 4, (some .int), 1, 0, by decide, by decide, t_1 0 rfl rfl, hd_L_ones, Or.inl ⟨rfl, sc_L_ones l hl, t_3 145 rfl rfl, t_3 143 rfl rfl, t_3 144 rfl rfl⟩⟩, nil_all⟩⟩⟩⟩⟩⟩), fun ix ci j h => lk_all (P := fun ix q => FldOK yL_lines.cls ix q.1 q.2) (nil_all) ix (ci, j) h, lk_all (nil_all), lk_all (nil_all), lk_all (nil_all)⟩
theorem hd_L_lines : CallHd yL_lines 1 := ⟨by decide +kernel, by decide +kernel, by decide +kernel⟩
theorem sc_L_lines (l : Launch) (hl : l.stackTraces = false) : SCon l yL_lines cL_lines 22 (some .boolean) 9 170 1 Γ_L_lines := scon_of mL_lines cls_ok hl (by decide +kernel) rfl rfl (ok_L_lines l hl) rfl rfl b_L_lines
