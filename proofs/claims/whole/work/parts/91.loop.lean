/-! the law's loop -/
def nxtR (K : Int32 → Mem → Out) (x4 : Int32) (o : Out) : Prop := ∃ z A', o = K (x4 + (5 : Int32)) z ∧ cInv z A' ∧ mInv z A'
theorem thrown_k (μ : Mem) : F_X8_thrown μ = rI (μ.1 29 8) μ := by unfold F_X8_thrown; rfl
def hx1 (a : String) (E : String) (μ : Mem) : Out := if E = a then (rI (1 : Int32) μ) else none
def hx2 (a b : String) (E : String) (μ : Mem) : Out := if E = a then (rI (1 : Int32) μ) else (if E = b then (rI (2 : Int32) μ) else none)
def hx3 (a b c : String) (E : String) (μ : Mem) : Out := if E = a then (rI (1 : Int32) μ) else (if E = b then (rI (2 : Int32) μ) else (if E = c then (rI (3 : Int32) μ) else none))
def hxG (kd : List String) (hx : String → Mem → Out) : Prop := ∀ i E m, kd[i]? = some E → hx E m = rI (i3 ((i + 1 : Nat) : Int)) m ∧ i < 3
theorem hx1_G (a : String) : hxG [a] (hx1 a) := by
  intro i E m h
  match i, h with
  | 0, h => simp only [List.getElem?_cons_zero, Option.some.injEq] at h; subst h; exact ⟨if_pos rfl, by decide⟩
theorem hx2_G (a b : String) (h1 : ¬ b = a) : hxG [a, b] (hx2 a b) := by
  intro i E m h
  match i, h with
  | 0, h => simp only [List.getElem?_cons_zero, Option.some.injEq] at h; subst h; exact ⟨if_pos rfl, by decide⟩
  | 1, h => simp only [List.getElem?_cons_succ, List.getElem?_cons_zero, Option.some.injEq] at h; subst h; exact ⟨(if_neg h1).trans (if_pos rfl), by decide⟩
theorem hx3_G (a b c : String) (h1 : ¬ b = a) (h2 : ¬ c = a) (h3 : ¬ c = b) : hxG [a, b, c] (hx3 a b c) := by
  intro i E m h
  match i, h with
  | 0, h => simp only [List.getElem?_cons_zero, Option.some.injEq] at h; subst h; exact ⟨if_pos rfl, by decide⟩
  | 1, h => simp only [List.getElem?_cons_succ, List.getElem?_cons_zero, Option.some.injEq] at h; subst h; exact ⟨(if_neg h1).trans (if_pos rfl), by decide⟩
  | 2, h => simp only [List.getElem?_cons_succ, List.getElem?_cons_zero, Option.some.injEq] at h; subst h; exact ⟨(if_neg h2).trans ((if_neg h3).trans (if_pos rfl)), by decide⟩
theorem lg_rf (x : Int64) : lg_cmp x x = 0 := by rw [zcmp_eq]
theorem both_out {μ μ1 : Mem} {A A' : Ab} (hf : frc μ μ1) (hc : cInv μ1 A') (hm : mInv μ A) (x : Int64) : cInv (sJ μ1 48 0 x) A' ∧ mInv (sJ μ1 48 0 x) A :=
  ⟨cInv_fr (W := [48]) hc (fr_sJ (by simp)) (by simp), mInv_fr (W := [48]) (mInv_c hm hf) (fr_sJ (by simp)) (by simp)⟩
/-- an operation that may throw: both sides tell the same -/
theorem law_T {A : Ab} {kd : List String} {μ : Mem} {oc fl : Out} {om : Mem → Out} {hx : String → Mem → Out} {ans : Int32 → Mem → Out} {val : Int32 → Int64} (hm : mInv μ A) (h : opOK A kd μ oc om)
    (hfl : fl = cIH oc hx ans) (hans : ∀ v m, ans v m = rI (0 : Int32) (sJ m 48 0 (val v))) (hhx : hxG kd hx) :
    ∃ (k : Int32) (m1 : Mem) (b : Int32) (z : Mem) (A' : Ab), fl = rI k m1 ∧ om m1 = rI b z ∧ z.1 29 8 = k ∧ (k = 0 → z.2.1 48 0 = val b) ∧ cInv z A' ∧ mInv z A' := by
  obtain ⟨μ1, hf, h⟩ := h
  rcases h with ⟨v, A', h1, h2, h3⟩ | ⟨E, i, h1, h2, h3, h4⟩
  · obtain ⟨c1, c2⟩ := both_out hf h2 hm (val v)
    obtain ⟨z, z1, z2, z3, z4⟩ := h3 _ c2
    refine ⟨(0 : Int32), _, v, z, A', by rw [hfl, h1, cH_k, hans], z1, z3, fun _ => ?_, cInv_m c1 z2, z4⟩
    rw [(z2 48 (by omega)).2.1, sJ_21, up2_same]
  · obtain ⟨w, z, z1, z2, z3, z4⟩ := h4 _ (mInv_c hm hf)
    obtain ⟨g1, g2⟩ := hhx i E μ1 h3
    refine ⟨i3 ((i + 1 : Nat) : Int), μ1, w, z, A, by rw [hfl, h1, cH_x, g1], z1, z3, fun q => ?_, cInv_m h2 z2, z4⟩
    rw [l3_0] at q
    exact absurd q (ne3 (by omega))
theorem law_D {A : Ab} {μ : Mem} {oc : Out} {om : Mem → Out} (hm : mInv μ A) (h : opOK A [] μ oc om) : ∃ (v : Int32) (m1 z : Mem) (A' : Ab), oc = rI v m1 ∧ om m1 = rI v z ∧ cInv z A' ∧ mInv z A' := by
  obtain ⟨μ1, hf, h⟩ := h
  rcases h with ⟨v, A', h1, h2, h3⟩ | ⟨E, i, h1, h2, h3, h4⟩
  · obtain ⟨z, z1, z2, z3, z4⟩ := h3 _ (mInv_c hm hf)
    exact ⟨v, μ1, z, A', h1, z1, cInv_m h2 z2, z4⟩
  · simp at h3
theorem s01 (v : Int32) : v = 0 ∨ ¬ v = 0 := Classical.em _
abbrev vI (v : Int32) : Int64 := Int32.toInt64 v
abbrev vB (v : Int32) : Int64 := if v = 0 then (0 : Int64) else (1 : Int64)
theorem ansI (v : Int32) (m : Mem) : (fun v5 μ2 => lt (sJ μ2 48 0 (Int32.toInt64 v5)) (fun μ8 => rI (0 : Int32) μ8)) v m = rI (0 : Int32) (sJ m 48 0 (vI v)) := lt_k _ _
theorem ansB (v : Int32) (m : Mem) : (fun v5 μ2 => if v5 = 0 then (lt (sJ μ2 48 0 (0 : Int64)) (fun μ10 => rI (0 : Int32) μ10)) else (lt (sJ μ2 48 0 (1 : Int64)) (fun μ11 => rI (0 : Int32) μ11))) v m = rI (0 : Int32) (sJ m 48 0 (vB v)) := by
  by_cases q : v = 0
  · simp only [if_pos q, lt_k, vB]
  · simp only [if_neg q, lt_k, vB]
set_option maxHeartbeats 1000000 in
theorem law_append {L : Nat} {xs : Nat → Int32} {K : Int32 → Mem → Out} {x4 : Int32} {μ : Mem} {A : Ab} (hc : cInv μ A) (hm : mInv μ A) (hk1 : inb (x4 + (1 : Int32)) L) (hk2 : inb (x4 + (2 : Int32)) L) (hk3 : inb (x4 + (3 : Int32)) L) (hk4 : inb (x4 + (4 : Int32)) L) {a1 : Int32} : nxtR K x4 (ck (inb (x4 + (1 : Int32)) L) (cI (F_L_append a1 μ) (fun v9 μ6 => ck (inb (x4 + (1 : Int32)) L) (cI (F_X8_append a1 μ6) (fun v15 μ12 => cI (F_X8_thrown μ12) (fun v20 μ17 => if v20 = v9 then (if v9 = 0 then (if (lg_cmp (μ17.2.1 48 0) (Int32.toInt64 v15)) = 0 then (lt (x4 + (5 : Int32)) (fun v25 => K v25 μ17)) else (rI (0 : Int32) μ17)) else (lt (x4 + (5 : Int32)) (fun v23 => K v23 μ17))) else (rI (0 : Int32) μ17))))))) := by
  obtain ⟨p1, g1, q1, rfl⟩ := i3_of a1
  obtain ⟨k, m1, b, z, A', w1, w2, w3, w4, w5, w6⟩ := law_T (fl := (F_L_append (i3 p1) μ)) (hx := hx2 eArg eSta) (val := vI) hm (op_append hc ⟨g1, q1⟩) (by unfold F_L_append; rfl) ansI (hx2_G _ _ (by decide))
  refine ⟨z, A', ?_, w5, w6⟩
  simp only [ck_k hk1, ck_k hk2, ck_k hk3, ck_k hk4]
  rw [w1, cI_k, w2, cI_k, thrown_k, cI_k, if_pos w3]
  by_cases q : k = 0
  · rw [if_pos q, w4 q, lg_rf, if_pos rfl, lt_k]
  · rw [if_neg q, lt_k]
set_option maxHeartbeats 1000000 in
theorem law_clearText {L : Nat} {xs : Nat → Int32} {K : Int32 → Mem → Out} {x4 : Int32} {μ : Mem} {A : Ab} (hc : cInv μ A) (hm : mInv μ A) (hk1 : inb (x4 + (1 : Int32)) L) (hk2 : inb (x4 + (2 : Int32)) L) (hk3 : inb (x4 + (3 : Int32)) L) (hk4 : inb (x4 + (4 : Int32)) L) : nxtR K x4 (cI (F_X7_clearText μ) (fun v31 μ28 => cI (F_X8_clearText μ28) (fun v36 μ33 => if v31 = v36 then (lt (x4 + (5 : Int32)) (fun v38 => K v38 μ33)) else (rI (0 : Int32) μ33)))) := by
  obtain ⟨v, m1, z, A', w1, w2, w5, w6⟩ := law_D hm (op_clearText hc)
  refine ⟨z, A', ?_, w5, w6⟩
  rw [w1, cI_k, w2, cI_k, if_pos rfl, lt_k]
set_option maxHeartbeats 1000000 in
theorem law_errorPosition {L : Nat} {xs : Nat → Int32} {K : Int32 → Mem → Out} {x4 : Int32} {μ : Mem} {A : Ab} (hc : cInv μ A) (hm : mInv μ A) (hk1 : inb (x4 + (1 : Int32)) L) (hk2 : inb (x4 + (2 : Int32)) L) (hk3 : inb (x4 + (3 : Int32)) L) (hk4 : inb (x4 + (4 : Int32)) L) : nxtR K x4 (cI (F_X7_errorPosition μ) (fun v44 μ41 => cI (F_X8_errorPosition μ41) (fun v49 μ46 => if v44 = v49 then (lt (x4 + (5 : Int32)) (fun v51 => K v51 μ46)) else (rI (0 : Int32) μ46)))) := by
  obtain ⟨v, m1, z, A', w1, w2, w5, w6⟩ := law_D hm (op_errorPosition hc)
  refine ⟨z, A', ?_, w5, w6⟩
  rw [w1, cI_k, w2, cI_k, if_pos rfl, lt_k]
set_option maxHeartbeats 1000000 in
theorem law_load {L : Nat} {xs : Nat → Int32} {K : Int32 → Mem → Out} {x4 : Int32} {μ : Mem} {A : Ab} (hc : cInv μ A) (hm : mInv μ A) (hk1 : inb (x4 + (1 : Int32)) L) (hk2 : inb (x4 + (2 : Int32)) L) (hk3 : inb (x4 + (3 : Int32)) L) (hk4 : inb (x4 + (4 : Int32)) L) : nxtR K x4 (cI (F_L_load μ) (fun v57 μ54 => cI (F_X8_load μ54) (fun v62 μ59 => cI (F_X8_thrown μ59) (fun v67 μ64 => if v67 = v57 then (if v57 = 0 then (if (lg_cmp (μ64.2.1 48 0) (Int32.toInt64 v62)) = 0 then (lt (x4 + (5 : Int32)) (fun v72 => K v72 μ64)) else (rI (0 : Int32) μ64)) else (lt (x4 + (5 : Int32)) (fun v70 => K v70 μ64))) else (rI (0 : Int32) μ64))))) := by
  obtain ⟨k, m1, b, z, A', w1, w2, w3, w4, w5, w6⟩ := law_T (fl := (F_L_load μ)) (hx := hx1 eSta) (val := vI) hm (op_load hc) (by unfold F_L_load; rfl) ansI (hx1_G _)
  refine ⟨z, A', ?_, w5, w6⟩
  rw [w1, cI_k, w2, cI_k, thrown_k, cI_k, if_pos w3]
  by_cases q : k = 0
  · rw [if_pos q, w4 q, lg_rf, if_pos rfl, lt_k]
  · rw [if_neg q, lt_k]
set_option maxHeartbeats 1000000 in
theorem law_about {L : Nat} {xs : Nat → Int32} {K : Int32 → Mem → Out} {x4 : Int32} {μ : Mem} {A : Ab} (hc : cInv μ A) (hm : mInv μ A) (hk1 : inb (x4 + (1 : Int32)) L) (hk2 : inb (x4 + (2 : Int32)) L) (hk3 : inb (x4 + (3 : Int32)) L) (hk4 : inb (x4 + (4 : Int32)) L) {a1 : Int32} : nxtR K x4 (ck (inb (x4 + (1 : Int32)) L) (cI (F_L_about a1 μ) (fun v79 μ76 => ck (inb (x4 + (1 : Int32)) L) (cI (F_X8_about a1 μ76) (fun v85 μ82 => cI (F_X8_thrown μ82) (fun v90 μ87 => if v90 = v79 then (if v79 = 0 then (if (lg_cmp (μ87.2.1 48 0) (Int32.toInt64 v85)) = 0 then (lt (x4 + (5 : Int32)) (fun v95 => K v95 μ87)) else (rI (0 : Int32) μ87)) else (lt (x4 + (5 : Int32)) (fun v93 => K v93 μ87))) else (rI (0 : Int32) μ87))))))) := by
  obtain ⟨p1, g1, q1, rfl⟩ := i3_of a1
  obtain ⟨k, m1, b, z, A', w1, w2, w3, w4, w5, w6⟩ := law_T (fl := (F_L_about (i3 p1) μ)) (hx := hx1 eArg) (val := vI) hm (op_about hc ⟨g1, q1⟩) (by unfold F_L_about; rfl) ansI (hx1_G _)
  refine ⟨z, A', ?_, w5, w6⟩
  simp only [ck_k hk1, ck_k hk2, ck_k hk3, ck_k hk4]
  rw [w1, cI_k, w2, cI_k, thrown_k, cI_k, if_pos w3]
  by_cases q : k = 0
  · rw [if_pos q, w4 q, lg_rf, if_pos rfl, lt_k]
  · rw [if_neg q, lt_k]
set_option maxHeartbeats 1000000 in
theorem law_line {L : Nat} {xs : Nat → Int32} {K : Int32 → Mem → Out} {x4 : Int32} {μ : Mem} {A : Ab} (hc : cInv μ A) (hm : mInv μ A) (hk1 : inb (x4 + (1 : Int32)) L) (hk2 : inb (x4 + (2 : Int32)) L) (hk3 : inb (x4 + (3 : Int32)) L) (hk4 : inb (x4 + (4 : Int32)) L) {a1 : Int32} {a2 : Int32} : nxtR K x4 (ck (inb (x4 + (1 : Int32)) L) (ck (inb (x4 + (2 : Int32)) L) (cI (F_L_line a1 a2 μ) (fun v103 μ100 => ck (inb (x4 + (1 : Int32)) L) (ck (inb (x4 + (2 : Int32)) L) (cI (F_X8_line a1 a2 μ100) (fun v110 μ107 => cI (F_X8_thrown μ107) (fun v115 μ112 => if v115 = v103 then (if v103 = 0 then (if (lg_cmp (μ112.2.1 48 0) (Int32.toInt64 v110)) = 0 then (lt (x4 + (5 : Int32)) (fun v120 => K v120 μ112)) else (rI (0 : Int32) μ112)) else (lt (x4 + (5 : Int32)) (fun v118 => K v118 μ112))) else (rI (0 : Int32) μ112))))))))) := by
  obtain ⟨p1, g1, q1, rfl⟩ := i3_of a1
  obtain ⟨p2, g2, q2, rfl⟩ := i3_of a2
  obtain ⟨k, m1, b, z, A', w1, w2, w3, w4, w5, w6⟩ := law_T (fl := (F_L_line (i3 p1) (i3 p2) μ)) (hx := hx2 eIdx eArg) (val := vI) hm (op_line hc ⟨g1, q1⟩ ⟨g2, q2⟩) (by unfold F_L_line; rfl) ansI (hx2_G _ _ (by decide))
  refine ⟨z, A', ?_, w5, w6⟩
  simp only [ck_k hk1, ck_k hk2, ck_k hk3, ck_k hk4]
  rw [w1, cI_k, w2, cI_k, thrown_k, cI_k, if_pos w3]
  by_cases q : k = 0
  · rw [if_pos q, w4 q, lg_rf, if_pos rfl, lt_k]
  · rw [if_neg q, lt_k]
set_option maxHeartbeats 1000000 in
theorem law_cell {L : Nat} {xs : Nat → Int32} {K : Int32 → Mem → Out} {x4 : Int32} {μ : Mem} {A : Ab} (hc : cInv μ A) (hm : mInv μ A) (hk1 : inb (x4 + (1 : Int32)) L) (hk2 : inb (x4 + (2 : Int32)) L) (hk3 : inb (x4 + (3 : Int32)) L) (hk4 : inb (x4 + (4 : Int32)) L) {a1 : Int32} {a2 : Int32} {a3 : Int32} : nxtR K x4 (ck (inb (x4 + (1 : Int32)) L) (ck (inb (x4 + (2 : Int32)) L) (ck (inb (x4 + (3 : Int32)) L) (cI (F_L_cell a1 a2 a3 μ) (fun v129 μ126 => ck (inb (x4 + (1 : Int32)) L) (ck (inb (x4 + (2 : Int32)) L) (ck (inb (x4 + (3 : Int32)) L) (cI (F_X8_cell a1 a2 a3 μ126) (fun v137 μ134 => cI (F_X8_thrown μ134) (fun v142 μ139 => if v142 = v129 then (if v129 = 0 then (if (lg_cmp (μ139.2.1 48 0) (Int32.toInt64 v137)) = 0 then (lt (x4 + (5 : Int32)) (fun v147 => K v147 μ139)) else (rI (0 : Int32) μ139)) else (lt (x4 + (5 : Int32)) (fun v145 => K v145 μ139))) else (rI (0 : Int32) μ139))))))))))) := by
  obtain ⟨p1, g1, q1, rfl⟩ := i3_of a1
  obtain ⟨p2, g2, q2, rfl⟩ := i3_of a2
  obtain ⟨p3, g3, q3, rfl⟩ := i3_of a3
  obtain ⟨k, m1, b, z, A', w1, w2, w3, w4, w5, w6⟩ := law_T (fl := (F_L_cell (i3 p1) (i3 p2) (i3 p3) μ)) (hx := hx2 eIdx eArg) (val := vI) hm (op_cell hc ⟨g1, q1⟩ ⟨g2, q2⟩ ⟨g3, q3⟩) (by unfold F_L_cell; rfl) ansI (hx2_G _ _ (by decide))
  refine ⟨z, A', ?_, w5, w6⟩
  simp only [ck_k hk1, ck_k hk2, ck_k hk3, ck_k hk4]
  rw [w1, cI_k, w2, cI_k, thrown_k, cI_k, if_pos w3]
  by_cases q : k = 0
  · rw [if_pos q, w4 q, lg_rf, if_pos rfl, lt_k]
  · rw [if_neg q, lt_k]
set_option maxHeartbeats 1000000 in
theorem law_piece {L : Nat} {xs : Nat → Int32} {K : Int32 → Mem → Out} {x4 : Int32} {μ : Mem} {A : Ab} (hc : cInv μ A) (hm : mInv μ A) (hk1 : inb (x4 + (1 : Int32)) L) (hk2 : inb (x4 + (2 : Int32)) L) (hk3 : inb (x4 + (3 : Int32)) L) (hk4 : inb (x4 + (4 : Int32)) L) {a1 : Int32} {a2 : Int32} : nxtR K x4 (ck (inb (x4 + (1 : Int32)) L) (ck (inb (x4 + (2 : Int32)) L) (cI (F_L_piece a1 a2 μ) (fun v155 μ152 => ck (inb (x4 + (1 : Int32)) L) (ck (inb (x4 + (2 : Int32)) L) (cI (F_X8_piece a1 a2 μ152) (fun v162 μ159 => cI (F_X8_thrown μ159) (fun v167 μ164 => if v167 = v155 then (if v155 = 0 then (if (lg_cmp (μ164.2.1 48 0) (Int32.toInt64 v162)) = 0 then (lt (x4 + (5 : Int32)) (fun v172 => K v172 μ164)) else (rI (0 : Int32) μ164)) else (lt (x4 + (5 : Int32)) (fun v170 => K v170 μ164))) else (rI (0 : Int32) μ164))))))))) := by
  obtain ⟨p1, g1, q1, rfl⟩ := i3_of a1
  obtain ⟨p2, g2, q2, rfl⟩ := i3_of a2
  obtain ⟨k, m1, b, z, A', w1, w2, w3, w4, w5, w6⟩ := law_T (fl := (F_L_piece (i3 p1) (i3 p2) μ)) (hx := hx2 eIdx eArg) (val := vI) hm (op_piece hc ⟨g1, q1⟩ ⟨g2, q2⟩) (by unfold F_L_piece; rfl) ansI (hx2_G _ _ (by decide))
  refine ⟨z, A', ?_, w5, w6⟩
  simp only [ck_k hk1, ck_k hk2, ck_k hk3, ck_k hk4]
  rw [w1, cI_k, w2, cI_k, thrown_k, cI_k, if_pos w3]
  by_cases q : k = 0
  · rw [if_pos q, w4 q, lg_rf, if_pos rfl, lt_k]
  · rw [if_neg q, lt_k]
set_option maxHeartbeats 1000000 in
theorem law_exchangeAt {L : Nat} {xs : Nat → Int32} {K : Int32 → Mem → Out} {x4 : Int32} {μ : Mem} {A : Ab} (hc : cInv μ A) (hm : mInv μ A) (hk1 : inb (x4 + (1 : Int32)) L) (hk2 : inb (x4 + (2 : Int32)) L) (hk3 : inb (x4 + (3 : Int32)) L) (hk4 : inb (x4 + (4 : Int32)) L) {a1 : Int32} : nxtR K x4 (ck (inb (x4 + (1 : Int32)) L) (cI (F_L_exchangeAt a1 μ) (fun v179 μ176 => ck (inb (x4 + (1 : Int32)) L) (cI (F_X8_exchangeAt a1 μ176) (fun v185 μ182 => cI (F_X8_thrown μ182) (fun v190 μ187 => if v190 = v179 then (if v179 = 0 then (if (lg_cmp (μ187.2.1 48 0) (Int32.toInt64 v185)) = 0 then (lt (x4 + (5 : Int32)) (fun v195 => K v195 μ187)) else (rI (0 : Int32) μ187)) else (lt (x4 + (5 : Int32)) (fun v193 => K v193 μ187))) else (rI (0 : Int32) μ187))))))) := by
  obtain ⟨p1, g1, q1, rfl⟩ := i3_of a1
  obtain ⟨k, m1, b, z, A', w1, w2, w3, w4, w5, w6⟩ := law_T (fl := (F_L_exchangeAt (i3 p1) μ)) (hx := hx1 eArg) (val := vI) hm (op_exchangeAt hc ⟨g1, q1⟩) (by unfold F_L_exchangeAt; rfl) ansI (hx1_G _)
  refine ⟨z, A', ?_, w5, w6⟩
  simp only [ck_k hk1, ck_k hk2, ck_k hk3, ck_k hk4]
  rw [w1, cI_k, w2, cI_k, thrown_k, cI_k, if_pos w3]
  by_cases q : k = 0
  · rw [if_pos q, w4 q, lg_rf, if_pos rfl, lt_k]
  · rw [if_neg q, lt_k]
set_option maxHeartbeats 1000000 in
theorem law_whyNot {L : Nat} {xs : Nat → Int32} {K : Int32 → Mem → Out} {x4 : Int32} {μ : Mem} {A : Ab} (hc : cInv μ A) (hm : mInv μ A) (hk1 : inb (x4 + (1 : Int32)) L) (hk2 : inb (x4 + (2 : Int32)) L) (hk3 : inb (x4 + (3 : Int32)) L) (hk4 : inb (x4 + (4 : Int32)) L) {a1 : Int32} : nxtR K x4 (ck (inb (x4 + (1 : Int32)) L) (cI (F_L_whyNot a1 μ) (fun v202 μ199 => ck (inb (x4 + (1 : Int32)) L) (cI (F_X8_whyNot a1 μ199) (fun v208 μ205 => cI (F_X8_thrown μ205) (fun v213 μ210 => if v213 = v202 then (if v202 = 0 then (if (lg_cmp (μ210.2.1 48 0) (Int32.toInt64 v208)) = 0 then (lt (x4 + (5 : Int32)) (fun v218 => K v218 μ210)) else (rI (0 : Int32) μ210)) else (lt (x4 + (5 : Int32)) (fun v216 => K v216 μ210))) else (rI (0 : Int32) μ210))))))) := by
  obtain ⟨p1, g1, q1, rfl⟩ := i3_of a1
  obtain ⟨k, m1, b, z, A', w1, w2, w3, w4, w5, w6⟩ := law_T (fl := (F_L_whyNot (i3 p1) μ)) (hx := hx1 eIdx) (val := vI) hm (op_whyNot hc ⟨g1, q1⟩) (by unfold F_L_whyNot; rfl) ansI (hx1_G _)
  refine ⟨z, A', ?_, w5, w6⟩
  simp only [ck_k hk1, ck_k hk2, ck_k hk3, ck_k hk4]
  rw [w1, cI_k, w2, cI_k, thrown_k, cI_k, if_pos w3]
  by_cases q : k = 0
  · rw [if_pos q, w4 q, lg_rf, if_pos rfl, lt_k]
  · rw [if_neg q, lt_k]
set_option maxHeartbeats 1000000 in
theorem law_resize {L : Nat} {xs : Nat → Int32} {K : Int32 → Mem → Out} {x4 : Int32} {μ : Mem} {A : Ab} (hc : cInv μ A) (hm : mInv μ A) (hk1 : inb (x4 + (1 : Int32)) L) (hk2 : inb (x4 + (2 : Int32)) L) (hk3 : inb (x4 + (3 : Int32)) L) (hk4 : inb (x4 + (4 : Int32)) L) {a1 : Int32} {a2 : Int32} : nxtR K x4 (ck (inb (x4 + (1 : Int32)) L) (ck (inb (x4 + (2 : Int32)) L) (cI (F_L_resize a1 a2 μ) (fun v226 μ223 => ck (inb (x4 + (1 : Int32)) L) (ck (inb (x4 + (2 : Int32)) L) (cI (F_X8_resize a1 a2 μ223) (fun v233 μ230 => cI (F_X8_thrown μ230) (fun v238 μ235 => if v238 = v226 then (if v226 = 0 then (if (lg_cmp (μ235.2.1 48 0) (Int32.toInt64 v233)) = 0 then (lt (x4 + (5 : Int32)) (fun v243 => K v243 μ235)) else (rI (0 : Int32) μ235)) else (lt (x4 + (5 : Int32)) (fun v241 => K v241 μ235))) else (rI (0 : Int32) μ235))))))))) := by
  obtain ⟨p1, g1, q1, rfl⟩ := i3_of a1
  obtain ⟨p2, g2, q2, rfl⟩ := i3_of a2
  obtain ⟨k, m1, b, z, A', w1, w2, w3, w4, w5, w6⟩ := law_T (fl := (F_L_resize (i3 p1) (i3 p2) μ)) (hx := hx1 eArg) (val := vI) hm (op_resize hc ⟨g1, q1⟩ ⟨g2, q2⟩) (by unfold F_L_resize; rfl) ansI (hx1_G _)
  refine ⟨z, A', ?_, w5, w6⟩
  simp only [ck_k hk1, ck_k hk2, ck_k hk3, ck_k hk4]
  rw [w1, cI_k, w2, cI_k, thrown_k, cI_k, if_pos w3]
  by_cases q : k = 0
  · rw [if_pos q, w4 q, lg_rf, if_pos rfl, lt_k]
  · rw [if_neg q, lt_k]
set_option maxHeartbeats 1000000 in
theorem law_want {L : Nat} {xs : Nat → Int32} {K : Int32 → Mem → Out} {x4 : Int32} {μ : Mem} {A : Ab} (hc : cInv μ A) (hm : mInv μ A) (hk1 : inb (x4 + (1 : Int32)) L) (hk2 : inb (x4 + (2 : Int32)) L) (hk3 : inb (x4 + (3 : Int32)) L) (hk4 : inb (x4 + (4 : Int32)) L) {a1 : Int32} {a2 : Int32} : nxtR K x4 (ck (inb (x4 + (1 : Int32)) L) (ck (inb (x4 + (2 : Int32)) L) (cI (F_L_want a1 a2 μ) (fun v261 μ258 => ck (inb (x4 + (1 : Int32)) L) (ck (inb (x4 + (2 : Int32)) L) (cI (F_X8_want a1 a2 μ258) (fun v268 μ265 => cI (F_X8_thrown μ265) (fun v273 μ270 => if v273 = v261 then (if v261 = 0 then (if (lg_cmp (μ270.2.1 48 0) (Int32.toInt64 v268)) = 0 then (lt (x4 + (5 : Int32)) (fun v278 => K v278 μ270)) else (rI (0 : Int32) μ270)) else (lt (x4 + (5 : Int32)) (fun v276 => K v276 μ270))) else (rI (0 : Int32) μ270))))))))) := by
  obtain ⟨p1, g1, q1, rfl⟩ := i3_of a1
  obtain ⟨p2, g2, q2, rfl⟩ := i3_of a2
  obtain ⟨k, m1, b, z, A', w1, w2, w3, w4, w5, w6⟩ := law_T (fl := (F_L_want (i3 p1) (i3 p2) μ)) (hx := hx2 eIdx eArg) (val := vI) hm (op_want hc ⟨g1, q1⟩ ⟨g2, q2⟩) (by unfold F_L_want; rfl) ansI (hx2_G _ _ (by decide))
  refine ⟨z, A', ?_, w5, w6⟩
  simp only [ck_k hk1, ck_k hk2, ck_k hk3, ck_k hk4]
  rw [w1, cI_k, w2, cI_k, thrown_k, cI_k, if_pos w3]
  by_cases q : k = 0
  · rw [if_pos q, w4 q, lg_rf, if_pos rfl, lt_k]
  · rw [if_neg q, lt_k]
set_option maxHeartbeats 1000000 in
theorem law_wantAll {L : Nat} {xs : Nat → Int32} {K : Int32 → Mem → Out} {x4 : Int32} {μ : Mem} {A : Ab} (hc : cInv μ A) (hm : mInv μ A) (hk1 : inb (x4 + (1 : Int32)) L) (hk2 : inb (x4 + (2 : Int32)) L) (hk3 : inb (x4 + (3 : Int32)) L) (hk4 : inb (x4 + (4 : Int32)) L) : nxtR K x4 (cI (F_X7_wantAll μ) (fun v284 μ281 => cI (F_X8_wantAll μ281) (fun v289 μ286 => if v284 = v289 then (lt (x4 + (5 : Int32)) (fun v291 => K v291 μ286)) else (rI (0 : Int32) μ286)))) := by
  obtain ⟨v, m1, z, A', w1, w2, w5, w6⟩ := law_D hm (op_wantAll hc)
  refine ⟨z, A', ?_, w5, w6⟩
  rw [w1, cI_k, w2, cI_k, if_pos rfl, lt_k]
set_option maxHeartbeats 1000000 in
theorem law_exchange {L : Nat} {xs : Nat → Int32} {K : Int32 → Mem → Out} {x4 : Int32} {μ : Mem} {A : Ab} (hc : cInv μ A) (hm : mInv μ A) (hk1 : inb (x4 + (1 : Int32)) L) (hk2 : inb (x4 + (2 : Int32)) L) (hk3 : inb (x4 + (3 : Int32)) L) (hk4 : inb (x4 + (4 : Int32)) L) {a1 : Int32} {a2 : Int32} {a3 : Int32} {a4 : Int32} : nxtR K x4 (ck (inb (x4 + (1 : Int32)) L) (ck (inb (x4 + (2 : Int32)) L) (ck (inb (x4 + (3 : Int32)) L) (ck (inb (x4 + (4 : Int32)) L) (cI (F_L_exchange a1 a2 a3 a4 μ) (fun v301 μ298 => ck (inb (x4 + (1 : Int32)) L) (ck (inb (x4 + (2 : Int32)) L) (ck (inb (x4 + (3 : Int32)) L) (ck (inb (x4 + (4 : Int32)) L) (cI (F_X8_exchange a1 a2 a3 a4 μ298) (fun v310 μ307 => cI (F_X8_thrown μ307) (fun v315 μ312 => if v315 = v301 then (if v301 = 0 then (if (lg_cmp (μ312.2.1 48 0) (Int32.toInt64 v310)) = 0 then (lt (x4 + (5 : Int32)) (fun v320 => K v320 μ312)) else (rI (0 : Int32) μ312)) else (lt (x4 + (5 : Int32)) (fun v318 => K v318 μ312))) else (rI (0 : Int32) μ312))))))))))))) := by
  obtain ⟨p1, g1, q1, rfl⟩ := i3_of a1
  obtain ⟨p2, g2, q2, rfl⟩ := i3_of a2
  obtain ⟨p3, g3, q3, rfl⟩ := i3_of a3
  obtain ⟨p4, g4, q4, rfl⟩ := i3_of a4
  obtain ⟨k, m1, b, z, A', w1, w2, w3, w4, w5, w6⟩ := law_T (fl := (F_L_exchange (i3 p1) (i3 p2) (i3 p3) (i3 p4) μ)) (hx := hx3 eIdx eArg eSta) (val := vI) hm (op_exchange hc ⟨g1, q1⟩ ⟨g2, q2⟩ ⟨g3, q3⟩ ⟨g4, q4⟩) (by unfold F_L_exchange; rfl) ansI (hx3_G _ _ _ (by decide) (by decide) (by decide))
  refine ⟨z, A', ?_, w5, w6⟩
  simp only [ck_k hk1, ck_k hk2, ck_k hk3, ck_k hk4]
  rw [w1, cI_k, w2, cI_k, thrown_k, cI_k, if_pos w3]
  by_cases q : k = 0
  · rw [if_pos q, w4 q, lg_rf, if_pos rfl, lt_k]
  · rw [if_neg q, lt_k]
set_option maxHeartbeats 1000000 in
theorem law_solve {L : Nat} {xs : Nat → Int32} {K : Int32 → Mem → Out} {x4 : Int32} {μ : Mem} {A : Ab} (hc : cInv μ A) (hm : mInv μ A) (hk1 : inb (x4 + (1 : Int32)) L) (hk2 : inb (x4 + (2 : Int32)) L) (hk3 : inb (x4 + (3 : Int32)) L) (hk4 : inb (x4 + (4 : Int32)) L) {a1 : Int32} : nxtR K x4 (ck (inb (x4 + (1 : Int32)) L) (cI (F_L_solve a1 μ) (fun v327 μ324 => ck (inb (x4 + (1 : Int32)) L) (cI (F_X8_solve a1 μ324) (fun v333 μ330 => cI (F_X8_thrown μ330) (fun v338 μ335 => if v338 = v327 then (if v327 = 0 then (if (lg_cmp (μ335.2.1 48 0) (Int32.toInt64 v333)) = 0 then (lt (x4 + (5 : Int32)) (fun v343 => K v343 μ335)) else (rI (0 : Int32) μ335)) else (lt (x4 + (5 : Int32)) (fun v341 => K v341 μ335))) else (rI (0 : Int32) μ335))))))) := by
  obtain ⟨p1, g1, q1, rfl⟩ := i3_of a1
  obtain ⟨k, m1, b, z, A', w1, w2, w3, w4, w5, w6⟩ := law_T (fl := (F_L_solve (i3 p1) μ)) (hx := hx2 eArg eSta) (val := vI) hm (op_solve hc ⟨g1, q1⟩) (by unfold F_L_solve; rfl) ansI (hx2_G _ _ (by decide))
  refine ⟨z, A', ?_, w5, w6⟩
  simp only [ck_k hk1, ck_k hk2, ck_k hk3, ck_k hk4]
  rw [w1, cI_k, w2, cI_k, thrown_k, cI_k, if_pos w3]
  by_cases q : k = 0
  · rw [if_pos q, w4 q, lg_rf, if_pos rfl, lt_k]
  · rw [if_neg q, lt_k]
set_option maxHeartbeats 1000000 in
theorem law_next {L : Nat} {xs : Nat → Int32} {K : Int32 → Mem → Out} {x4 : Int32} {μ : Mem} {A : Ab} (hc : cInv μ A) (hm : mInv μ A) (hk1 : inb (x4 + (1 : Int32)) L) (hk2 : inb (x4 + (2 : Int32)) L) (hk3 : inb (x4 + (3 : Int32)) L) (hk4 : inb (x4 + (4 : Int32)) L) : nxtR K x4 (cI (F_L_next μ) (fun v349 μ346 => cI (F_X8_next μ346) (fun v354 μ351 => cI (F_X8_thrown μ351) (fun v359 μ356 => if v359 = v349 then (if v349 = 0 then (if (lg_cmp (μ356.2.1 48 0) (Int32.toInt64 v354)) = 0 then (lt (x4 + (5 : Int32)) (fun v364 => K v364 μ356)) else (rI (0 : Int32) μ356)) else (lt (x4 + (5 : Int32)) (fun v362 => K v362 μ356))) else (rI (0 : Int32) μ356))))) := by
  obtain ⟨k, m1, b, z, A', w1, w2, w3, w4, w5, w6⟩ := law_T (fl := (F_L_next μ)) (hx := hx1 eSta) (val := vI) hm (op_next hc) (by unfold F_L_next; rfl) ansI (hx1_G _)
  refine ⟨z, A', ?_, w5, w6⟩
  rw [w1, cI_k, w2, cI_k, thrown_k, cI_k, if_pos w3]
  by_cases q : k = 0
  · rw [if_pos q, w4 q, lg_rf, if_pos rfl, lt_k]
  · rw [if_neg q, lt_k]
set_option maxHeartbeats 1000000 in
theorem law_turn {L : Nat} {xs : Nat → Int32} {K : Int32 → Mem → Out} {x4 : Int32} {μ : Mem} {A : Ab} (hc : cInv μ A) (hm : mInv μ A) (hk1 : inb (x4 + (1 : Int32)) L) (hk2 : inb (x4 + (2 : Int32)) L) (hk3 : inb (x4 + (3 : Int32)) L) (hk4 : inb (x4 + (4 : Int32)) L) : nxtR K x4 (cI (F_X7_turn μ) (fun v370 μ367 => cI (F_X8_turn μ367) (fun v375 μ372 => if v370 = v375 then (lt (x4 + (5 : Int32)) (fun v377 => K v377 μ372)) else (rI (0 : Int32) μ372)))) := by
  obtain ⟨v, m1, z, A', w1, w2, w5, w6⟩ := law_D hm (op_turn hc)
  refine ⟨z, A', ?_, w5, w6⟩
  rw [w1, cI_k, w2, cI_k, if_pos rfl, lt_k]
set_option maxHeartbeats 1000000 in
theorem law_undo {L : Nat} {xs : Nat → Int32} {K : Int32 → Mem → Out} {x4 : Int32} {μ : Mem} {A : Ab} (hc : cInv μ A) (hm : mInv μ A) (hk1 : inb (x4 + (1 : Int32)) L) (hk2 : inb (x4 + (2 : Int32)) L) (hk3 : inb (x4 + (3 : Int32)) L) (hk4 : inb (x4 + (4 : Int32)) L) : nxtR K x4 (cI (F_L_undo μ) (fun v383 μ380 => cI (F_X8_undo μ380) (fun v388 μ385 => cI (F_X8_thrown μ385) (fun v393 μ390 => if v393 = v383 then (if v383 = 0 then (if (lg_cmp (μ390.2.1 48 0) (Int32.toInt64 v388)) = 0 then (lt (x4 + (5 : Int32)) (fun v398 => K v398 μ390)) else (rI (0 : Int32) μ390)) else (lt (x4 + (5 : Int32)) (fun v396 => K v396 μ390))) else (rI (0 : Int32) μ390))))) := by
  obtain ⟨k, m1, b, z, A', w1, w2, w3, w4, w5, w6⟩ := law_T (fl := (F_L_undo μ)) (hx := hx1 eSta) (val := vI) hm (op_undo hc) (by unfold F_L_undo; rfl) ansI (hx1_G _)
  refine ⟨z, A', ?_, w5, w6⟩
  rw [w1, cI_k, w2, cI_k, thrown_k, cI_k, if_pos w3]
  by_cases q : k = 0
  · rw [if_pos q, w4 q, lg_rf, if_pos rfl, lt_k]
  · rw [if_neg q, lt_k]
set_option maxHeartbeats 1000000 in
theorem law_howMany {L : Nat} {xs : Nat → Int32} {K : Int32 → Mem → Out} {x4 : Int32} {μ : Mem} {A : Ab} (hc : cInv μ A) (hm : mInv μ A) (hk1 : inb (x4 + (1 : Int32)) L) (hk2 : inb (x4 + (2 : Int32)) L) (hk3 : inb (x4 + (3 : Int32)) L) (hk4 : inb (x4 + (4 : Int32)) L) : nxtR K x4 (cI (F_X7_howMany μ) (fun v404 μ401 => cI (F_X8_howMany μ401) (fun v409 μ406 => if v404 = v409 then (lt (x4 + (5 : Int32)) (fun v411 => K v411 μ406)) else (rI (0 : Int32) μ406)))) := by
  obtain ⟨v, m1, z, A', w1, w2, w5, w6⟩ := law_D hm (op_howMany hc)
  refine ⟨z, A', ?_, w5, w6⟩
  rw [w1, cI_k, w2, cI_k, if_pos rfl, lt_k]
set_option maxHeartbeats 1000000 in
theorem law_split {L : Nat} {xs : Nat → Int32} {K : Int32 → Mem → Out} {x4 : Int32} {μ : Mem} {A : Ab} (hc : cInv μ A) (hm : mInv μ A) (hk1 : inb (x4 + (1 : Int32)) L) (hk2 : inb (x4 + (2 : Int32)) L) (hk3 : inb (x4 + (3 : Int32)) L) (hk4 : inb (x4 + (4 : Int32)) L) : nxtR K x4 (cI (F_X7_split μ) (fun v420 μ417 => cI (F_X8_split μ417) (fun v425 μ422 => if v420 = v425 then (lt (x4 + (5 : Int32)) (fun v427 => K v427 μ422)) else (rI (0 : Int32) μ422)))) := by
  obtain ⟨v, m1, z, A', w1, w2, w5, w6⟩ := law_D hm (op_split hc)
  refine ⟨z, A', ?_, w5, w6⟩
  rw [w1, cI_k, w2, cI_k, if_pos rfl, lt_k]
set_option maxHeartbeats 1000000 in
theorem law_nearest {L : Nat} {xs : Nat → Int32} {K : Int32 → Mem → Out} {x4 : Int32} {μ : Mem} {A : Ab} (hc : cInv μ A) (hm : mInv μ A) (hk1 : inb (x4 + (1 : Int32)) L) (hk2 : inb (x4 + (2 : Int32)) L) (hk3 : inb (x4 + (3 : Int32)) L) (hk4 : inb (x4 + (4 : Int32)) L) : nxtR K x4 (cI (F_L_nearest μ) (fun v433 μ430 => cI (F_X8_nearest μ430) (fun v438 μ435 => cI (F_X8_thrown μ435) (fun v443 μ440 => if v443 = v433 then (if v433 = 0 then (if (lg_cmp (μ440.2.1 48 0) (Int32.toInt64 v438)) = 0 then (lt (x4 + (5 : Int32)) (fun v448 => K v448 μ440)) else (rI (0 : Int32) μ440)) else (lt (x4 + (5 : Int32)) (fun v446 => K v446 μ440))) else (rI (0 : Int32) μ440))))) := by
  obtain ⟨k, m1, b, z, A', w1, w2, w3, w4, w5, w6⟩ := law_T (fl := (F_L_nearest μ)) (hx := hx1 eSta) (val := vI) hm (op_nearest hc) (by unfold F_L_nearest; rfl) ansI (hx1_G _)
  refine ⟨z, A', ?_, w5, w6⟩
  rw [w1, cI_k, w2, cI_k, thrown_k, cI_k, if_pos w3]
  by_cases q : k = 0
  · rw [if_pos q, w4 q, lg_rf, if_pos rfl, lt_k]
  · rw [if_neg q, lt_k]
set_option maxHeartbeats 1000000 in
theorem law_bestExchange {L : Nat} {xs : Nat → Int32} {K : Int32 → Mem → Out} {x4 : Int32} {μ : Mem} {A : Ab} (hc : cInv μ A) (hm : mInv μ A) (hk1 : inb (x4 + (1 : Int32)) L) (hk2 : inb (x4 + (2 : Int32)) L) (hk3 : inb (x4 + (3 : Int32)) L) (hk4 : inb (x4 + (4 : Int32)) L) : nxtR K x4 (cI (F_X7_bestExchange μ) (fun v454 μ451 => cI (F_X8_bestExchange μ451) (fun v459 μ456 => if v454 = v459 then (lt (x4 + (5 : Int32)) (fun v461 => K v461 μ456)) else (rI (0 : Int32) μ456)))) := by
  obtain ⟨v, m1, z, A', w1, w2, w5, w6⟩ := law_D hm (op_bestExchange hc)
  refine ⟨z, A', ?_, w5, w6⟩
  rw [w1, cI_k, w2, cI_k, if_pos rfl, lt_k]
set_option maxHeartbeats 1000000 in
theorem law_runScript {L : Nat} {xs : Nat → Int32} {K : Int32 → Mem → Out} {x4 : Int32} {μ : Mem} {A : Ab} (hc : cInv μ A) (hm : mInv μ A) (hk1 : inb (x4 + (1 : Int32)) L) (hk2 : inb (x4 + (2 : Int32)) L) (hk3 : inb (x4 + (3 : Int32)) L) (hk4 : inb (x4 + (4 : Int32)) L) {a1 : Int32} {a2 : Int32} {a3 : Int32} : nxtR K x4 (ck (inb (x4 + (1 : Int32)) L) (ck (inb (x4 + (2 : Int32)) L) (ck (inb (x4 + (3 : Int32)) L) (cI (F_L_runScript a1 ((shlL (Int32.toInt64 a2) (32 : Int32)) ||| ((Int32.toInt64 a3) &&& (4294967295 : Int64))) μ) (fun v470 μ467 => ck (inb (x4 + (1 : Int32)) L) (ck (inb (x4 + (2 : Int32)) L) (ck (inb (x4 + (3 : Int32)) L) (cI (F_X8_runScript a1 ((shlL (Int32.toInt64 a2) (32 : Int32)) ||| ((Int32.toInt64 a3) &&& (4294967295 : Int64))) μ467) (fun v478 μ475 => cI (F_X8_thrown μ475) (fun v483 μ480 => if v483 = v470 then (if v470 = 0 then (if (lg_cmp (μ480.2.1 48 0) (Int32.toInt64 v478)) = 0 then (lt (x4 + (5 : Int32)) (fun v488 => K v488 μ480)) else (rI (0 : Int32) μ480)) else (lt (x4 + (5 : Int32)) (fun v486 => K v486 μ480))) else (rI (0 : Int32) μ480))))))))))) := by
  obtain ⟨p1, g1, q1, rfl⟩ := i3_of a1
  obtain ⟨k, m1, b, z, A', w1, w2, w3, w4, w5, w6⟩ := law_T (fl := (F_L_runScript (i3 p1) ((shlL (Int32.toInt64 a2) (32 : Int32)) ||| ((Int32.toInt64 a3) &&& (4294967295 : Int64))) μ)) (hx := hx1 eArg) (val := vI) hm (op_runScript hc ⟨g1, q1⟩ _) (by unfold F_L_runScript; rfl) ansI (hx1_G _)
  refine ⟨z, A', ?_, w5, w6⟩
  simp only [ck_k hk1, ck_k hk2, ck_k hk3, ck_k hk4]
  rw [w1, cI_k, w2, cI_k, thrown_k, cI_k, if_pos w3]
  by_cases q : k = 0
  · rw [if_pos q, w4 q, lg_rf, if_pos rfl, lt_k]
  · rw [if_neg q, lt_k]
set_option maxHeartbeats 1000000 in
theorem law_simulate {L : Nat} {xs : Nat → Int32} {K : Int32 → Mem → Out} {x4 : Int32} {μ : Mem} {A : Ab} (hc : cInv μ A) (hm : mInv μ A) (hk1 : inb (x4 + (1 : Int32)) L) (hk2 : inb (x4 + (2 : Int32)) L) (hk3 : inb (x4 + (3 : Int32)) L) (hk4 : inb (x4 + (4 : Int32)) L) {a1 : Int32} {a2 : Int32} {a3 : Int32} : nxtR K x4 (ck (inb (x4 + (1 : Int32)) L) (ck (inb (x4 + (2 : Int32)) L) (ck (inb (x4 + (3 : Int32)) L) (cI (F_L_simulate ((shlL (Int32.toInt64 a1) (32 : Int32)) ||| ((Int32.toInt64 a2) &&& (4294967295 : Int64))) a3 μ) (fun v497 μ494 => ck (inb (x4 + (1 : Int32)) L) (ck (inb (x4 + (2 : Int32)) L) (ck (inb (x4 + (3 : Int32)) L) (cI (F_X8_simulate ((shlL (Int32.toInt64 a1) (32 : Int32)) ||| ((Int32.toInt64 a2) &&& (4294967295 : Int64))) a3 μ494) (fun v505 μ502 => cI (F_X8_thrown μ502) (fun v510 μ507 => if v510 = v497 then (if v497 = 0 then (if (lg_cmp (μ507.2.1 48 0) (Int32.toInt64 v505)) = 0 then (lt (x4 + (5 : Int32)) (fun v515 => K v515 μ507)) else (rI (0 : Int32) μ507)) else (lt (x4 + (5 : Int32)) (fun v513 => K v513 μ507))) else (rI (0 : Int32) μ507))))))))))) := by
  obtain ⟨p3, g3, q3, rfl⟩ := i3_of a3
  obtain ⟨k, m1, b, z, A', w1, w2, w3, w4, w5, w6⟩ := law_T (fl := (F_L_simulate ((shlL (Int32.toInt64 a1) (32 : Int32)) ||| ((Int32.toInt64 a2) &&& (4294967295 : Int64))) (i3 p3) μ)) (hx := hx1 eArg) (val := vI) hm (op_simulate hc _ ⟨g3, q3⟩) (by unfold F_L_simulate; rfl) ansI (hx1_G _)
  refine ⟨z, A', ?_, w5, w6⟩
  simp only [ck_k hk1, ck_k hk2, ck_k hk3, ck_k hk4]
  rw [w1, cI_k, w2, cI_k, thrown_k, cI_k, if_pos w3]
  by_cases q : k = 0
  · rw [if_pos q, w4 q, lg_rf, if_pos rfl, lt_k]
  · rw [if_neg q, lt_k]
set_option maxHeartbeats 1000000 in
theorem law_save {L : Nat} {xs : Nat → Int32} {K : Int32 → Mem → Out} {x4 : Int32} {μ : Mem} {A : Ab} (hc : cInv μ A) (hm : mInv μ A) (hk1 : inb (x4 + (1 : Int32)) L) (hk2 : inb (x4 + (2 : Int32)) L) (hk3 : inb (x4 + (3 : Int32)) L) (hk4 : inb (x4 + (4 : Int32)) L) {a1 : Int32} : nxtR K x4 (ck (inb (x4 + (1 : Int32)) L) (cI (F_L_save a1 μ) (fun v522 μ519 => ck (inb (x4 + (1 : Int32)) L) (cI (F_X8_save a1 μ519) (fun v528 μ525 => cI (F_X8_thrown μ525) (fun v533 μ530 => if v533 = v522 then (if v522 = 0 then (if (lg_cmp (μ530.2.1 48 0) (Int32.toInt64 v528)) = 0 then (lt (x4 + (5 : Int32)) (fun v538 => K v538 μ530)) else (rI (0 : Int32) μ530)) else (lt (x4 + (5 : Int32)) (fun v536 => K v536 μ530))) else (rI (0 : Int32) μ530))))))) := by
  obtain ⟨p1, g1, q1, rfl⟩ := i3_of a1
  obtain ⟨k, m1, b, z, A', w1, w2, w3, w4, w5, w6⟩ := law_T (fl := (F_L_save (i3 p1) μ)) (hx := hx1 eIdx) (val := vI) hm (op_save hc ⟨g1, q1⟩) (by unfold F_L_save; rfl) ansI (hx1_G _)
  refine ⟨z, A', ?_, w5, w6⟩
  simp only [ck_k hk1, ck_k hk2, ck_k hk3, ck_k hk4]
  rw [w1, cI_k, w2, cI_k, thrown_k, cI_k, if_pos w3]
  by_cases q : k = 0
  · rw [if_pos q, w4 q, lg_rf, if_pos rfl, lt_k]
  · rw [if_neg q, lt_k]
set_option maxHeartbeats 1000000 in
theorem law_restore {L : Nat} {xs : Nat → Int32} {K : Int32 → Mem → Out} {x4 : Int32} {μ : Mem} {A : Ab} (hc : cInv μ A) (hm : mInv μ A) (hk1 : inb (x4 + (1 : Int32)) L) (hk2 : inb (x4 + (2 : Int32)) L) (hk3 : inb (x4 + (3 : Int32)) L) (hk4 : inb (x4 + (4 : Int32)) L) {a1 : Int32} : nxtR K x4 (ck (inb (x4 + (1 : Int32)) L) (cI (F_L_restore a1 μ) (fun v545 μ542 => ck (inb (x4 + (1 : Int32)) L) (cI (F_X8_restore a1 μ542) (fun v551 μ548 => cI (F_X8_thrown μ548) (fun v556 μ553 => if v556 = v545 then (if v545 = 0 then (if (lg_cmp (μ553.2.1 48 0) (Int32.toInt64 v551)) = 0 then (lt (x4 + (5 : Int32)) (fun v561 => K v561 μ553)) else (rI (0 : Int32) μ553)) else (lt (x4 + (5 : Int32)) (fun v559 => K v559 μ553))) else (rI (0 : Int32) μ553))))))) := by
  obtain ⟨p1, g1, q1, rfl⟩ := i3_of a1
  obtain ⟨k, m1, b, z, A', w1, w2, w3, w4, w5, w6⟩ := law_T (fl := (F_L_restore (i3 p1) μ)) (hx := hx2 eIdx eSta) (val := vI) hm (op_restore hc ⟨g1, q1⟩) (by unfold F_L_restore; rfl) ansI (hx2_G _ _ (by decide))
  refine ⟨z, A', ?_, w5, w6⟩
  simp only [ck_k hk1, ck_k hk2, ck_k hk3, ck_k hk4]
  rw [w1, cI_k, w2, cI_k, thrown_k, cI_k, if_pos w3]
  by_cases q : k = 0
  · rw [if_pos q, w4 q, lg_rf, if_pos rfl, lt_k]
  · rw [if_neg q, lt_k]
set_option maxHeartbeats 1000000 in
theorem law_fill_b {L : Nat} {xs : Nat → Int32} {K : Int32 → Mem → Out} {x4 : Int32} {μ : Mem} {A : Ab} (hc : cInv μ A) (hm : mInv μ A) (hk1 : inb (x4 + (1 : Int32)) L) (hk2 : inb (x4 + (2 : Int32)) L) (hk3 : inb (x4 + (3 : Int32)) L) (hk4 : inb (x4 + (4 : Int32)) L) {a1 a2 : Int32} (e : Bool) (c3 : (xs (x4 + (3 : Int32)).toNatClampNeg = 0) = (i3 (b2 e) = 0)) (h1 : xs (x4 + (1 : Int32)).toNatClampNeg = a1) (h2 : xs (x4 + (2 : Int32)).toNatClampNeg = a2) : nxtR K x4 (f_L_law_773 L xs K x4 (i3 (b2 e)) a2 a1 μ) := by
  obtain ⟨p1, g1, q1, rfl⟩ := i3_of a1
  obtain ⟨p2, g2, q2, rfl⟩ := i3_of a2
  obtain ⟨k, m1, b, z, A', w1, w2, w3, w4, w5, w6⟩ := law_T (fl := F_L_fill (i3 p1) (i3 p2) (i3 (b2 e)) μ) (hx := hx2 eIdx eSta) (val := vB) hm (op_fill hc ⟨g1, q1⟩ ⟨g2, q2⟩ e) (by unfold F_L_fill; rfl) ansB (hx2_G _ _ (by decide))
  refine ⟨z, A', ?_, w5, w6⟩
  have tail : f_L_law_806 L xs K x4 k (i3 (b2 e)) (i3 p2) (i3 p1) m1 = K (x4 + (5 : Int32)) z := by
    simp only [f_L_law_806]
    rw [w2, cI_k, thrown_k, cI_k, if_pos w3]
    by_cases q : k = 0
    · have w4q := w4 q
      rw [if_pos q]
      by_cases qb : b = 0
      · rw [if_pos qb]
        simp only [vB, if_pos qb] at w4q
        simp only [f_L_law_840, w4q, lg_rf, if_true, lt_k]
      · rw [if_neg qb]
        simp only [vB, if_neg qb] at w4q
        simp only [f_L_law_840, w4q, lg_rf, if_true, lt_k]
    · rw [if_neg q, lt_k]
  simp only [f_L_law_773, ck_k hk1, ck_k hk2, ck_k hk3]
  rw [w1, cI_k]
  simp only [h1, h2, c3]
  cases e
  · rw [if_pos (show i3 (b2 false) = (0 : Int32) from iz0)]; exact tail
  · rw [if_neg (show ¬ i3 (b2 true) = (0 : Int32) from iz1)]; exact tail
theorem law_fill {L : Nat} {xs : Nat → Int32} {K : Int32 → Mem → Out} {x4 : Int32} {μ : Mem} {A : Ab} (hc : cInv μ A) (hm : mInv μ A) (hk1 : inb (x4 + (1 : Int32)) L) (hk2 : inb (x4 + (2 : Int32)) L) (hk3 : inb (x4 + (3 : Int32)) L) (hk4 : inb (x4 + (4 : Int32)) L) : nxtR K x4 (ck (inb (x4 + (1 : Int32)) L) (ck (inb (x4 + (2 : Int32)) L) (ck (inb (x4 + (3 : Int32)) L) (if (xs (x4 + (3 : Int32)).toNatClampNeg) = 0 then (f_L_law_773 L xs (K) x4 (0 : Int32) (xs (x4 + (2 : Int32)).toNatClampNeg) (xs (x4 + (1 : Int32)).toNatClampNeg) μ) else (f_L_law_773 L xs (K) x4 (1 : Int32) (xs (x4 + (2 : Int32)).toNatClampNeg) (xs (x4 + (1 : Int32)).toNatClampNeg) μ))))) := by
  simp only [ck_k hk1, ck_k hk2, ck_k hk3]
  by_cases c : xs (x4 + (3 : Int32)).toNatClampNeg = 0
  · rw [if_pos c]
    exact law_fill_b hc hm hk1 hk2 hk3 hk4 false (by rw [c]; exact propext ⟨fun _ => iz0, fun _ => rfl⟩) rfl rfl
  · rw [if_neg c]
    exact law_fill_b hc hm hk1 hk2 hk3 hk4 true (propext ⟨fun q => absurd q c, fun q => absurd q iz1⟩) rfl rfl
set_option maxHeartbeats 1000000 in
theorem law_pin_b {L : Nat} {xs : Nat → Int32} {K : Int32 → Mem → Out} {x4 : Int32} {μ : Mem} {A : Ab} (hc : cInv μ A) (hm : mInv μ A) (hk1 : inb (x4 + (1 : Int32)) L) (hk2 : inb (x4 + (2 : Int32)) L) (hk3 : inb (x4 + (3 : Int32)) L) (hk4 : inb (x4 + (4 : Int32)) L) {a1 a2 : Int32} (e : Bool) (c3 : (xs (x4 + (3 : Int32)).toNatClampNeg = 0) = (i3 (b2 e) = 0)) (h1 : xs (x4 + (1 : Int32)).toNatClampNeg = a1) (h2 : xs (x4 + (2 : Int32)).toNatClampNeg = a2) : nxtR K x4 (f_L_law_876 L xs K x4 (i3 (b2 e)) a2 a1 μ) := by
  obtain ⟨p1, g1, q1, rfl⟩ := i3_of a1
  obtain ⟨p2, g2, q2, rfl⟩ := i3_of a2
  obtain ⟨k, m1, b, z, A', w1, w2, w3, w4, w5, w6⟩ := law_T (fl := F_L_pin (i3 p1) (i3 p2) (i3 (b2 e)) μ) (hx := hx1 eIdx) (val := vB) hm (op_pin hc ⟨g1, q1⟩ ⟨g2, q2⟩ e) (by unfold F_L_pin; rfl) ansB (hx1_G _)
  refine ⟨z, A', ?_, w5, w6⟩
  have tail : f_L_law_909 L xs K x4 k (i3 (b2 e)) (i3 p2) (i3 p1) m1 = K (x4 + (5 : Int32)) z := by
    simp only [f_L_law_909]
    rw [w2, cI_k, thrown_k, cI_k, if_pos w3]
    by_cases q : k = 0
    · have w4q := w4 q
      rw [if_pos q]
      by_cases qb : b = 0
      · rw [if_pos qb]
        simp only [vB, if_pos qb] at w4q
        simp only [f_L_law_943, w4q, lg_rf, if_true, lt_k]
      · rw [if_neg qb]
        simp only [vB, if_neg qb] at w4q
        simp only [f_L_law_943, w4q, lg_rf, if_true, lt_k]
    · rw [if_neg q, lt_k]
  simp only [f_L_law_876, ck_k hk1, ck_k hk2, ck_k hk3]
  rw [w1, cI_k]
  simp only [h1, h2, c3]
  cases e
  · rw [if_pos (show i3 (b2 false) = (0 : Int32) from iz0)]; exact tail
  · rw [if_neg (show ¬ i3 (b2 true) = (0 : Int32) from iz1)]; exact tail
theorem law_pin {L : Nat} {xs : Nat → Int32} {K : Int32 → Mem → Out} {x4 : Int32} {μ : Mem} {A : Ab} (hc : cInv μ A) (hm : mInv μ A) (hk1 : inb (x4 + (1 : Int32)) L) (hk2 : inb (x4 + (2 : Int32)) L) (hk3 : inb (x4 + (3 : Int32)) L) (hk4 : inb (x4 + (4 : Int32)) L) : nxtR K x4 (ck (inb (x4 + (1 : Int32)) L) (ck (inb (x4 + (2 : Int32)) L) (ck (inb (x4 + (3 : Int32)) L) (if (xs (x4 + (3 : Int32)).toNatClampNeg) = 0 then (f_L_law_876 L xs (K) x4 (0 : Int32) (xs (x4 + (2 : Int32)).toNatClampNeg) (xs (x4 + (1 : Int32)).toNatClampNeg) μ) else (f_L_law_876 L xs (K) x4 (1 : Int32) (xs (x4 + (2 : Int32)).toNatClampNeg) (xs (x4 + (1 : Int32)).toNatClampNeg) μ))))) := by
  simp only [ck_k hk1, ck_k hk2, ck_k hk3]
  by_cases c : xs (x4 + (3 : Int32)).toNatClampNeg = 0
  · rw [if_pos c]
    exact law_pin_b hc hm hk1 hk2 hk3 hk4 false (by rw [c]; exact propext ⟨fun _ => iz0, fun _ => rfl⟩) rfl rfl
  · rw [if_neg c]
    exact law_pin_b hc hm hk1 hk2 hk3 hk4 true (propext ⟨fun q => absurd q c, fun q => absurd q iz1⟩) rfl rfl
set_option maxHeartbeats 1000000 in
theorem law_sure_b {L : Nat} {xs : Nat → Int32} {K : Int32 → Mem → Out} {x4 : Int32} {μ : Mem} {A : Ab} (hc : cInv μ A) (hm : mInv μ A) (hk1 : inb (x4 + (1 : Int32)) L) (hk2 : inb (x4 + (2 : Int32)) L) (hk3 : inb (x4 + (3 : Int32)) L) (hk4 : inb (x4 + (4 : Int32)) L) (e : Bool) (c3 : (xs (x4 + (1 : Int32)).toNatClampNeg = 0) = (i3 (b2 e) = 0)) : nxtR K x4 (f_L_law_1310 L xs K x4 (i3 (b2 e)) μ) := by
  obtain ⟨v, m1, z, A', w1, w2, w5, w6⟩ := law_D hm (op_sure hc e)
  refine ⟨z, A', ?_, w5, w6⟩
  simp only [f_L_law_1310, ck_k hk1]
  rw [w1, cI_k]
  simp only [c3]
  cases e
  · rw [if_pos (show i3 (b2 false) = (0 : Int32) from iz0)]
    simp only [f_L_law_1328]
    rw [← ib0, w2, cI_k, if_pos rfl, lt_k]
  · rw [if_neg (show ¬ i3 (b2 true) = (0 : Int32) from iz1)]
    simp only [f_L_law_1328]
    rw [← ib1, w2, cI_k, if_pos rfl, lt_k]
theorem law_sure {L : Nat} {xs : Nat → Int32} {K : Int32 → Mem → Out} {x4 : Int32} {μ : Mem} {A : Ab} (hc : cInv μ A) (hm : mInv μ A) (hk1 : inb (x4 + (1 : Int32)) L) (hk2 : inb (x4 + (2 : Int32)) L) (hk3 : inb (x4 + (3 : Int32)) L) (hk4 : inb (x4 + (4 : Int32)) L) : nxtR K x4 (ck (inb (x4 + (1 : Int32)) L) (if (xs (x4 + (1 : Int32)).toNatClampNeg) = 0 then (f_L_law_1310 L xs (K) x4 (0 : Int32) μ) else (f_L_law_1310 L xs (K) x4 (1 : Int32) μ))) := by
  simp only [ck_k hk1]
  by_cases c : xs (x4 + (1 : Int32)).toNatClampNeg = 0
  · rw [if_pos c]
    exact law_sure_b hc hm hk1 hk2 hk3 hk4 false (by rw [c]; exact propext ⟨fun _ => iz0, fun _ => rfl⟩)
  · rw [if_neg c]
    exact law_sure_b hc hm hk1 hk2 hk3 hk4 true (propext ⟨fun q => absurd q c, fun q => absurd q iz1⟩)
set_option maxHeartbeats 4000000 in
theorem law_step {L : Nat} {xs : Nat → Int32} {n j : Nat} {μ : Mem} {A : Ab} (hc : cInv μ A) (hm : mInv μ A) (hL : L ≤ 2560) (hj : 5 * j + 5 ≤ L) : ∃ z A', f_L_law_23 L xs (n + 1) (i3 ((5 * j : Nat) : Int)) μ = f_L_law_23 L xs n (i3 ((5 * (j + 1) : Nat) : Int)) z ∧ cInv z A' ∧ mInv z A' := by
  have hk0 : inb (i3 ((5 * j : Nat) : Int)) L := i3_in (by omega) (by omega)
  have ad : ∀ k : Nat, i3 ((5 * j : Nat) : Int) + i3 (k : Int) = i3 ((5 * j + k : Nat) : Int) := fun k => by rw [i3_add]; rfl
  have hk1 : inb (i3 ((5 * j : Nat) : Int) + (1 : Int32)) L := by rw [show (1 : Int32) = i3 ((1 : Nat) : Int) from l3_1, ad]; exact i3_in (by omega) (by omega)
  have hk2 : inb (i3 ((5 * j : Nat) : Int) + (2 : Int32)) L := by rw [show (2 : Int32) = i3 ((2 : Nat) : Int) from l3_2, ad]; exact i3_in (by omega) (by omega)
  have hk3 : inb (i3 ((5 * j : Nat) : Int) + (3 : Int32)) L := by rw [show (3 : Int32) = i3 ((3 : Nat) : Int) from l3_3, ad]; exact i3_in (by omega) (by omega)
  have hk4 : inb (i3 ((5 * j : Nat) : Int) + (4 : Int32)) L := by rw [show (4 : Int32) = i3 ((4 : Nat) : Int) from l3_4, ad]; exact i3_in (by omega) (by omega)
  have h5 : i3 ((5 * j : Nat) : Int) + (5 : Int32) = i3 ((5 * (j + 1) : Nat) : Int) := by rw [show (5 : Int32) = i3 ((5 : Nat) : Int) from l3_5, ad]; rfl
  have hcond : ¬ ((Int32.ofNat L) - (5 : Int32)) < i3 ((5 * j : Nat) : Int) := by rw [i3_ofNat, l3_5, i3_sub]; exact nlt3 (by omega)
  rw [← h5]
  show nxtR (f_L_law_23 L xs n) (i3 ((5 * j : Nat) : Int)) (f_L_law_23 L xs (n + 1) (i3 ((5 * j : Nat) : Int)) μ)
  generalize i3 ((5 * j : Nat) : Int) = x4 at *
  simp only [f_L_law_23]
  rw [if_neg hcond, ck_k hk0]
  by_cases h0 : (xs (Int32.toNatClampNeg x4)) &&& (31 : Int32) = (0 : Int32)
  · rw [if_pos h0]
    exact law_append (xs := xs) hc hm hk1 hk2 hk3 hk4
  rw [if_neg h0]
  by_cases h1 : (xs (Int32.toNatClampNeg x4)) &&& (31 : Int32) = (1 : Int32)
  · rw [if_pos h1]
    exact law_clearText (xs := xs) hc hm hk1 hk2 hk3 hk4
  rw [if_neg h1]
  by_cases h2 : (xs (Int32.toNatClampNeg x4)) &&& (31 : Int32) = (2 : Int32)
  · rw [if_pos h2]
    exact law_errorPosition (xs := xs) hc hm hk1 hk2 hk3 hk4
  rw [if_neg h2]
  by_cases h3 : (xs (Int32.toNatClampNeg x4)) &&& (31 : Int32) = (3 : Int32)
  · rw [if_pos h3]
    exact law_load (xs := xs) hc hm hk1 hk2 hk3 hk4
  rw [if_neg h3]
  by_cases h4 : (xs (Int32.toNatClampNeg x4)) &&& (31 : Int32) = (4 : Int32)
  · rw [if_pos h4]
    exact law_about (xs := xs) hc hm hk1 hk2 hk3 hk4
  rw [if_neg h4]
  by_cases h5 : (xs (Int32.toNatClampNeg x4)) &&& (31 : Int32) = (5 : Int32)
  · rw [if_pos h5]
    exact law_line (xs := xs) hc hm hk1 hk2 hk3 hk4
  rw [if_neg h5]
  by_cases h6 : (xs (Int32.toNatClampNeg x4)) &&& (31 : Int32) = (6 : Int32)
  · rw [if_pos h6]
    exact law_cell (xs := xs) hc hm hk1 hk2 hk3 hk4
  rw [if_neg h6]
  by_cases h7 : (xs (Int32.toNatClampNeg x4)) &&& (31 : Int32) = (7 : Int32)
  · rw [if_pos h7]
    exact law_piece (xs := xs) hc hm hk1 hk2 hk3 hk4
  rw [if_neg h7]
  by_cases h8 : (xs (Int32.toNatClampNeg x4)) &&& (31 : Int32) = (8 : Int32)
  · rw [if_pos h8]
    exact law_exchangeAt (xs := xs) hc hm hk1 hk2 hk3 hk4
  rw [if_neg h8]
  by_cases h9 : (xs (Int32.toNatClampNeg x4)) &&& (31 : Int32) = (9 : Int32)
  · rw [if_pos h9]
    exact law_whyNot (xs := xs) hc hm hk1 hk2 hk3 hk4
  rw [if_neg h9]
  by_cases h10 : (xs (Int32.toNatClampNeg x4)) &&& (31 : Int32) = (10 : Int32)
  · rw [if_pos h10]
    exact law_resize (xs := xs) hc hm hk1 hk2 hk3 hk4
  rw [if_neg h10]
  by_cases h11 : (xs (Int32.toNatClampNeg x4)) &&& (31 : Int32) = (11 : Int32)
  · rw [if_pos h11]
    exact law_fill (xs := xs) hc hm hk1 hk2 hk3 hk4
  rw [if_neg h11]
  by_cases h12 : (xs (Int32.toNatClampNeg x4)) &&& (31 : Int32) = (12 : Int32)
  · rw [if_pos h12]
    exact law_pin (xs := xs) hc hm hk1 hk2 hk3 hk4
  rw [if_neg h12]
  by_cases h13 : (xs (Int32.toNatClampNeg x4)) &&& (31 : Int32) = (13 : Int32)
  · rw [if_pos h13]
    exact law_want (xs := xs) hc hm hk1 hk2 hk3 hk4
  rw [if_neg h13]
  by_cases h14 : (xs (Int32.toNatClampNeg x4)) &&& (31 : Int32) = (14 : Int32)
  · rw [if_pos h14]
    exact law_wantAll (xs := xs) hc hm hk1 hk2 hk3 hk4
  rw [if_neg h14]
  by_cases h15 : (xs (Int32.toNatClampNeg x4)) &&& (31 : Int32) = (15 : Int32)
  · rw [if_pos h15]
    exact law_exchange (xs := xs) hc hm hk1 hk2 hk3 hk4
  rw [if_neg h15]
  by_cases h16 : (xs (Int32.toNatClampNeg x4)) &&& (31 : Int32) = (16 : Int32)
  · rw [if_pos h16]
    exact law_solve (xs := xs) hc hm hk1 hk2 hk3 hk4
  rw [if_neg h16]
  by_cases h17 : (xs (Int32.toNatClampNeg x4)) &&& (31 : Int32) = (17 : Int32)
  · rw [if_pos h17]
    exact law_next (xs := xs) hc hm hk1 hk2 hk3 hk4
  rw [if_neg h17]
  by_cases h18 : (xs (Int32.toNatClampNeg x4)) &&& (31 : Int32) = (18 : Int32)
  · rw [if_pos h18]
    exact law_turn (xs := xs) hc hm hk1 hk2 hk3 hk4
  rw [if_neg h18]
  by_cases h19 : (xs (Int32.toNatClampNeg x4)) &&& (31 : Int32) = (19 : Int32)
  · rw [if_pos h19]
    exact law_undo (xs := xs) hc hm hk1 hk2 hk3 hk4
  rw [if_neg h19]
  by_cases h20 : (xs (Int32.toNatClampNeg x4)) &&& (31 : Int32) = (20 : Int32)
  · rw [if_pos h20]
    exact law_howMany (xs := xs) hc hm hk1 hk2 hk3 hk4
  rw [if_neg h20]
  by_cases h21 : (xs (Int32.toNatClampNeg x4)) &&& (31 : Int32) = (21 : Int32)
  · rw [if_pos h21]
    exact law_sure (xs := xs) hc hm hk1 hk2 hk3 hk4
  rw [if_neg h21]
  by_cases h22 : (xs (Int32.toNatClampNeg x4)) &&& (31 : Int32) = (22 : Int32)
  · rw [if_pos h22]
    exact law_split (xs := xs) hc hm hk1 hk2 hk3 hk4
  rw [if_neg h22]
  by_cases h23 : (xs (Int32.toNatClampNeg x4)) &&& (31 : Int32) = (23 : Int32)
  · rw [if_pos h23]
    exact law_nearest (xs := xs) hc hm hk1 hk2 hk3 hk4
  rw [if_neg h23]
  by_cases h24 : (xs (Int32.toNatClampNeg x4)) &&& (31 : Int32) = (24 : Int32)
  · rw [if_pos h24]
    exact law_bestExchange (xs := xs) hc hm hk1 hk2 hk3 hk4
  rw [if_neg h24]
  by_cases h25 : (xs (Int32.toNatClampNeg x4)) &&& (31 : Int32) = (25 : Int32)
  · rw [if_pos h25]
    exact law_runScript (xs := xs) hc hm hk1 hk2 hk3 hk4
  rw [if_neg h25]
  by_cases h26 : (xs (Int32.toNatClampNeg x4)) &&& (31 : Int32) = (26 : Int32)
  · rw [if_pos h26]
    exact law_simulate (xs := xs) hc hm hk1 hk2 hk3 hk4
  rw [if_neg h26]
  by_cases h27 : (xs (Int32.toNatClampNeg x4)) &&& (31 : Int32) = (27 : Int32)
  · rw [if_pos h27]
    exact law_save (xs := xs) hc hm hk1 hk2 hk3 hk4
  rw [if_neg h27]
  by_cases h28 : (xs (Int32.toNatClampNeg x4)) &&& (31 : Int32) = (28 : Int32)
  · rw [if_pos h28]
    exact law_restore (xs := xs) hc hm hk1 hk2 hk3 hk4
  rw [if_neg h28]
  exact ⟨μ, A, lt_k _ _, hc, hm⟩
theorem law_true {L : Nat} (xs : Nat → Int32) {μ : Mem} {A : Ab} (hL : L ≤ 2560) (hc : cInv μ A) (hm : mInv μ A) : ∃ z, F_L_law L xs μ = rI (1 : Int32) z := by
  unfold F_L_law
  rw [show (0 : Int32) = i3 ((5 * 0 : Nat) : Int) from l3_0]
  refine loop_st (σ := Mem) (fun n j z => f_L_law_23 L xs n (i3 ((5 * j : Nat) : Int)) z) (fun _ z => ∃ A, cInv z A ∧ mInv z A) (fun o => ∃ z, o = rI (1 : Int32) z) (L / 5) ?_ ?_ BIG 0 μ (by omega) (BIG_lt (by omega)) ⟨A, hc, hm⟩
  · rintro n z ⟨B, q1, q2⟩
    refine ⟨z, ?_⟩
    simp only [f_L_law_23]
    rw [if_pos]
    rw [i3_ofNat, l3_5, i3_sub]
    exact lt3 (by omega)
  · rintro n j z hj ⟨B, q1, q2⟩
    left
    obtain ⟨z', A', w1, w2, w3⟩ := law_step (xs := xs) (n := n) (j := j) q1 q2 hL (by omega)
    exact ⟨z', ⟨A', w2, w3⟩, w1⟩
