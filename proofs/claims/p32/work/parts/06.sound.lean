def stL : List (Nat × String) := [(136, "what is not 0 to 10"), (340, "no such line"), (163, "what is not 0 to 4"), (345, "no such row or column"), (212, "no such size"), (224, "the cell is pinned"), (233, "no such count"), (296, "no picture fits, or too many do"), (281, "nothing is remembered"), (186, "no such piece"), (205, "a negative number"), (242, "the second row or column is not the greater one"), (248, "the exchange is not possible"), (347, "no such save slot"), (254, "which is not 0 or 1"), (260, "no picture fits"), (273, "no picture fits behind this one"), (332, "nothing is saved there")]

def nwL : List (String × Nat × MethodName) := [(RX4, 71, yX7_oneIf), (RX0, 34, yX7_oneIf)]
def xcL : List String := ["java/lang/IllegalArgumentException", "java/lang/IllegalStateException", "java/lang/IndexOutOfBoundsException"]
def xcH : List String := ["java/lang/IllegalStateException"]
def xcN : List String := ["java/lang/RuntimeException", "java/lang/Exception"]
def dcL : List MethodName := [Bundle.initS "java/lang/RuntimeException", Bundle.initS "java/lang/Exception", Bundle.initS Bundle.tN]
def thB (E : String) : List Cond := [.declares (Bundle.initS "java/lang/RuntimeException"), .declares (Bundle.initS "java/lang/Exception"), .declares (Bundle.initS Bundle.tN), .castable E E]
/-- what throws and nest links need of a state -/
def VXF (A : Nat → Prop) (U : State) : Prop := vx_Zq Bundle.tN "UNASSIGNED_STACK" Bundle.steD A U U.heap ∧ vx_Zq Bundle.tN "SUPPRESSED_SENTINEL" Bundle.listD A U U.heap ∧
  (∀ q ∈ nwL, va_Nw (.methodLinkNest q.1 q.2.1 q.2.2 RX7) U) ∧ (∀ q ∈ stL, ∃ a, vk_R RX7 q.1 q.2 a U) ∧ (∀ x ∈ dcL, va_Nw (.declares x) U) ∧ (∀ E ∈ xcL, va_Nw (.castable E E) U) ∧ (∀ E ∈ xcL, ∀ F ∈ xcH, E ≠ F → va_Nc E F U)
theorem VXF.go {A B : Nat → Prop} {s U : State} {locs : List Loc} (h : VXF A s) (hW : s.WarmedH U.vm) (hS : va_S A s.heap U.heap locs) (hB : ∀ q, B q → A q) : VXF B U := by
  obtain ⟨h1, h2, h3, h4, h5, h6, h7⟩ := h
  exact ⟨(vx_Zq.moved hW.alike (h1.kept hS.2.1)).narrow hB, (vx_Zq.moved hW.alike (h2.kept hS.2.1)).narrow hB, fun q hq => va_Nw.warmM hW (h3 q hq), fun q hq => (by obtain ⟨a, ha⟩ := h4 q hq; exact ⟨a, vk_R.warm hW ha⟩), fun x hx => va_Nw.warmD hW (h5 x hx), fun E hE => va_Nw.warmC hW (h6 E hE), fun E hE F hF n => va_Nc.moved hW.alike (h7 E hE F hF n)⟩
def DD (ρ : Nat → Nat) : Prop := ∀ i j, i < np ρ → j < np ρ → ρ i = ρ j → i = j
def AA (ρ : Nat → Nat) (sz : Nat) : Nat → Prop := fun q => (∃ k, k < np ρ ∧ q = ρ k) ∨ sz ≤ q
theorem va_D_of {ca : Nat → ClassId} {ρ : Nat → Nat} {μ : Mem} {A : Nat → Prop} (h : DD ρ) (hA : ∀ k, k < np ρ → A (ρ k)) : va_D A (rW ca ρ μ) := by
  refine ⟨fun i j p q hp hq hpq => ?_, fun k q hq => ?_⟩
  · obtain ⟨hi, rfl⟩ := rW_of hp
    obtain ⟨hj, rfl⟩ := rW_of hq
    exact h i j hi hj hpq
  · obtain ⟨hk, rfl⟩ := rW_of hq
    exact hA k hk
def PRE (ca : Nat → ClassId) (D : va_G) (ρ : Nat → Nat) (μ : Mem) (sz : Nat) : State → Prop := fun U => U.heap.size = sz ∧ va_P D vwCl (rW ca ρ μ) U.heap ∧ va_K D vwCl (rT ca) U ∧ DD ρ ∧ VXF (AA ρ sz) U
def QcM (ca : Nat → ClassId) (D : va_G) (ρ : Nat → Nat) (Q : Res → Mem → Prop) (A : Nat → Prop) : Array Value → State → Outcome → State → Prop := fun _ st o t => ∃ v μ', Q (.inl v) μ' ∧ o = .returned (v.map (rvv ρ)) ∧ va_P D vwCl (rW ca ρ μ') t.heap ∧ va_F A st t
def XcM (ca : Nat → ClassId) (D : va_G) (ρ : Nat → Nat) (Q : Res → Mem → Prop) (A : Nat → Prop) : String → State → State → Prop := fun E st t => ∃ μ', Q (.inr E) μ' ∧ va_P D vwCl (rW ca ρ μ') t.heap ∧ va_F A st t
abbrev Qe (r : Res) (μ' : Mem) : Res → Mem → Prop := fun r2 μ2 => r2 = r ∧ μ2 = μ'
abbrev rmM (fr lo u : Nat) : Room := { frames := fr, cells := u, slots := 6 * u, locals := lo }
/-- a method's contract over the small machine's memory -/
def SCon (l : Launch) (y : MethodName) (cc : ByteArray) (maxL : Nat) (ret : Option FieldType) (fr lo u : Nat) (Γ : Gam) : Prop := ∀ (ca : Nat → ClassId) (D : va_G) (ρ : Nat → Nat) (as : List Value) (μ : Mem) (r : Res) (μ' : Mem) (sz : Nat), Γ as μ r μ' →
  vx_Met l y (.code y cc maxL ret :: TB) (rmM fr lo (rc r u)) (va_Pc (rvl ρ as) (PRE ca D ρ μ sz)) (QcM ca D ρ (Qe r μ') (AA ρ sz)) (XcM ca D ρ (Qe r μ') (AA ρ sz)) (rc r u) (6 * rc r u) (AA ρ sz)
/-- a method that makes the law's own array, or calls one that does -/
def SConF (l : Launch) (y : MethodName) (cc : ByteArray) (maxL : Nat) (ret : Option FieldType) (fr lo u : Nat) (Γ : Gam) : Prop := ∀ (ca : Nat → ClassId) (D : va_G) (ρ : Nat → Nat) (as : List Value) (μ : Mem) (r : Res) (μ' : Mem) (sz : Nat), np ρ = 29 → Γ as μ r μ' →
  vx_Met l y (.code y cc maxL ret :: TB) (rmM fr lo u) (va_Pc (rvl ρ as) (PRE ca D ρ μ sz)) (QcM ca D ρ (Qe r μ') (AA ρ sz)) (XcM ca D ρ (Qe r μ') (AA ρ sz)) u (6 * u) (AA ρ sz)
/-- the script at the place SCR -/
def SCP (sc : Option (Nat × (Nat → Int32))) (ρ : Nat → Nat) (sz : Nat) (V : State) : Prop := ∀ L xs, sc = some (L, xs) → va_X (ρ SCR) L xs V V.heap ∧ ρ SCR < V.heap.size ∧ ¬ AA ρ sz (ρ SCR)
/-- a method that reads the script -/
def SConS (l : Launch) (y : MethodName) (cc : ByteArray) (maxL : Nat) (ret : Option FieldType) (fr lo u : Nat) (Γ : Gam) (sc : Option (Nat × (Nat → Int32))) : Prop := ∀ (ca : Nat → ClassId) (D : va_G) (ρ : Nat → Nat) (as : List Value) (μ : Mem) (r : Res) (μ' : Mem) (sz : Nat), Γ as μ r μ' →
  vx_Met l y (.code y cc maxL ret :: TB) (rmM fr lo (rc r u)) (va_Pc (rvl ρ as) (fun V => PRE ca D ρ μ sz V ∧ SCP sc ρ sz V)) (QcM ca D ρ (Qe r μ') (AA ρ sz)) (XcM ca D ρ (Qe r μ') (AA ρ sz)) (rc r u) (6 * rc r u) (AA ρ sz)
/-- a static method with handlers -/
def SConH (l : Launch) (y : MethodName) (cc : ByteArray) (maxL : Nat) (ret : Option FieldType) (hh : List (Nat × Nat × Nat × Nat)) (fr lo u : Nat) (Γ : Gam) : Prop := ∀ (ca : Nat → ClassId) (D : va_G) (ρ : Nat → Nat) (as : List Value) (μ : Mem) (r : Res) (μ' : Mem) (sz : Nat), Γ as μ r μ' →
  vx_Met l y (.codeWith y cc maxL ret hh :: TB) (rmM fr lo u) (va_Pc (rvl ρ as) (PRE ca D ρ μ sz)) (QcM ca D ρ (Qe r μ') (AA ρ sz)) (XcM ca D ρ (Qe r μ') (AA ρ sz)) u (6 * u) (AA ρ sz)
def F_J9_min_7cf53 (a0 a1 : Int32) (μ : Mem) : Option (Res × Mem) := some (.inl (some (.int (if a1 < a0 then a1 else a0))), μ)
def Γ_J9_min_7cf53 : Gam := fun as μ r μ' => ∃ (a0 a1 : Int32), as = [.int a0, .int a1] ∧ F_J9_min_7cf53 a0 a1 μ = some (r, μ')
abbrev CallHd (y : MethodName) (n : Nat) : Prop := y.cls ≠ "java/lang/invoke/MethodHandle" ∧ y.cls ≠ "java/lang/invoke/VarHandle" ∧ (parseMethodDescriptor y.desc).map (fun d => d.parameters.length) = some n
def CallOK (l : Launch) (own : String) (fr lo : Nat) (nn : Nat × Option (Nat × (Nat → Int32))) (ix : Nat) (ci : CI) : Prop := ∃ (y : MethodName) (bytes : ByteArray) (maxL : Nat) (ret : Option FieldType) (fr' lo' : Nat), fr' + 1 ≤ fr ∧ 8 + (maxL + 11) + lo' ≤ lo ∧ Cond.initialized y.cls ∈ TB ∧ CallHd y ci.2.1 ∧
  ((ci.1 = 0 ∧ SCon l y bytes maxL ret fr' lo' ci.2.2.1 ci.2.2.2.2 ∧ Cond.code y bytes maxL ret ∈ TB ∧ Cond.methodLink own ix y ∈ TB ∧ Cond.static y ∈ TB) ∨
   (ci.1 = 1 ∧ SCon l y bytes maxL ret fr' lo' ci.2.2.1 ci.2.2.2.2 ∧ Cond.code y bytes maxL ret ∈ TB ∧ Cond.methodLink own ix y ∈ TB ∧ Cond.instanceMethod y ∈ TB ∧ (∃ q, vwCl[ci.2.2.2.1]? = some q ∧ Cond.selects q.1 y y ∈ TB)) ∨
   (ci.1 = 2 ∧ SCon l y bytes maxL ret fr' lo' ci.2.2.1 ci.2.2.2.2 ∧ Cond.code y bytes maxL ret ∈ TB ∧ (own, ix, y) ∈ nwL ∧ Cond.static y ∈ TB) ∨
   (ci.1 = 3 ∧ ∃ hh, SConH l y bytes maxL ret hh fr' lo' ci.2.2.1 ci.2.2.2.2 ∧ Cond.codeWith y bytes maxL ret hh ∈ TB ∧ Cond.methodLink own ix y ∈ TB ∧ Cond.static y ∈ TB) ∨
   (ci.1 = 4 ∧ ci.2.1 = 2 ∧ maxL = 2 ∧ ci.2.2.1 = 0 ∧ ci.2.2.2.2 = Γ_J9_min_7cf53 ∧ Cond.methodLink own ix Lib.Math.min.name ∈ TB ∧ Cond.static Lib.Math.min.name ∈ TB ∧ Cond.initialized "java/lang/Math" ∈ TB ∧ Cond.code Lib.Math.min.name Lib.Math.min.code 2 (some .int) ∈ TB) ∨
   (ci.1 = 5 ∧ SConS l y bytes maxL ret fr' lo' ci.2.2.1 ci.2.2.2.2 nn.2 ∧ Cond.code y bytes maxL ret ∈ TB ∧ Cond.methodLink own ix y ∈ TB ∧ Cond.static y ∈ TB) ∨
   (ci.1 = 6 ∧ 100 ≤ nn.1 ∧ SConF l y bytes maxL ret fr' lo' ci.2.2.1 ci.2.2.2.2 ∧ Cond.code y bytes maxL ret ∈ TB ∧ Cond.methodLink own ix y ∈ TB ∧ Cond.static y ∈ TB))
def FldOK (own : String) (ix ci j : Nat) : Prop := ∃ q, vwCl[ci]? = some q ∧ j < q.2.2 ∧ Cond.fieldLink own ix (q.2.1 j).1 (q.2.1 j).2.1 (q.2.1 j).2.2.1 ∈ TB
def ThrOK (own : String) (cc : ByteArray) (fr lo : Nat) (pc : Nat) (E : String) : Prop := own = RX7 ∧ E ∈ xcL ∧ 5 < fr ∧ 90 ≤ lo ∧ ∃ (ik is ic : Nat) (text : String), (is, text) ∈ stL ∧ Cond.classLink own ik E ∈ TB ∧ Cond.initialized E ∈ TB ∧
  (∀ w ∈ (vx_atS own ic E xcN).filter goodWord, w ∈ TB) ∧ (∀ w ∈ (vx_atS own ic E xcN).filter (fun w => !goodWord w), w ∈ thB E) ∧ (∀ w ∈ Cond.classLink own ik E :: Cond.initialized E :: vx_atS own ic E xcN, vx_ot w = true) ∧
  decode cc pc = .ok (.new ik, 3) ∧ decode cc (pc + 3) = .ok (.dup, 1) ∧ ((decode cc (pc + 4) = .ok (.ldc is, 2) ∧ decode cc (pc + 6) = .ok (.invokespecial ic, 3) ∧ decode cc (pc + 9) = .ok (.athrow, 1)) ∨ (decode cc (pc + 4) = .ok (.ldc_w is, 3) ∧ decode cc (pc + 7) = .ok (.invokespecial ic, 3) ∧ decode cc (pc + 10) = .ok (.athrow, 1)))
def MOK (l : Launch) (own : String) (fr lo : Nat) (M : MI) : Prop := (∀ ix ci, (mCalls M).lookup ix = some ci → CallOK l own fr lo M.2.2.2.2.2.2.2.1 ix ci) ∧ (∀ ix ci j, (mFlds M).lookup ix = some (ci, j) → FldOK own ix ci j) ∧
  (∀ ix v, (mC32 M).lookup ix = some v → Cond.constant own ix v ∈ TB) ∧ (∀ ix v, (mC64 M).lookup ix = some v → Cond.constantLong own ix v ∈ TB) ∧ (∀ pc E, (mThr M).lookup pc = some E → ThrOK own M.1 fr lo pc E)
/-- what the classes' tables say, once for all -/
def ClsOK : Prop := ∀ ci q, vwCl[ci]? = some q → (∀ w ∈ u_ws q.1 q.2.1 q.2.2, w ∈ TB) ∧ (∀ a, a < q.2.2 → ∀ b, b < q.2.2 → a ≠ b → (q.2.1 a).2.1 ≠ (q.2.1 b).2.1) ∧ (ftL ci).length = q.2.2 ∧
  ∃ ty : Nat → FieldType, (∀ k, k < q.2.2 → parseFieldDescriptor (q.2.1 k).2.2.1 = some (ty k)) ∧ (∀ k, k < q.2.2 → ((ftL ci)[k]? = some 0 → ty k = .int ∧ (q.2.1 k).2.2.2 = false) ∧ ((ftL ci)[k]? = some 1 → ty k = .long ∧ (q.2.1 k).2.2.2 = false))
theorem aS_I {ca : Nat → ClassId} {ρ : Nat → Nat} {μ : Mem} {k t n i : Nat} {x : Int32} (h : sh k = .inr (t, n)) (ht : t = 0 ∨ t = 2 ∨ t = 3) : (rW ca ρ μ).set k (ρ k, .inl (ca t, n, .inl (upd (μ.1 k) i x))) = rW ca ρ (sI μ k i x) := by
  refine rW_set ca ρ μ (sI μ k i x) ?_ (fun j hj => rC_congr (up2_row _ _ _ _ hj) rfl rfl)
  have e : up2 μ.1 k i x k = upd (μ.1 k) i x := funext fun b => by simp [up2, upd]
  rcases ht with rfl | rfl | rfl <;> simp [rC, h, aC, sI, e]
theorem aS_J {ca : Nat → ClassId} {ρ : Nat → Nat} {μ : Mem} {k n i : Nat} {x : Int64} (h : sh k = .inr (1, n)) : (rW ca ρ μ).set k (ρ k, .inl (ca 1, n, .inr (.inl (vp_updL (μ.2.1 k) i x)))) = rW ca ρ (sJ μ k i x) := by
  refine rW_set ca ρ μ (sJ μ k i x) ?_ (fun j hj => rC_congr rfl (up2_row _ _ _ _ hj) rfl)
  have e : up2 μ.2.1 k i x k = vp_updL (μ.2.1 k) i x := funext fun b => by simp [up2, vp_updL]
  simp [rC, h, aC, sJ, e]
theorem aS_R {ca : Nat → ClassId} {ρ : Nat → Nat} {μ : Mem} {k n i x : Nat} (h : sh k = .inr (4, n)) (hx9 : x < 29) : (rW ca ρ μ).set k (ρ k, .inl (ca 4, n, .inr (.inr (.inr (.inr (va_up (fun j => some (ρ (clm (μ.2.2 k j)))) i (some (ρ x)))))))) = rW ca ρ (sR μ k i x) := by
  refine rW_set ca ρ μ (sR μ k i x) ?_ (fun j hj => rC_congr rfl rfl (up2_row _ _ _ _ hj))
  have e : (fun j => some (ρ (clm (up2 μ.2.2 k i x k j)))) = va_up (fun j => some (ρ (clm (μ.2.2 k j)))) i (some (ρ x)) := funext fun b => by
    by_cases hb : b = i <;> simp [up2, va_up, hb, clm_lt hx9]
  simp [rC, h, aC, sR, e]
theorem fS_I {ca : Nat → ClassId} {ρ : Nat → Nat} {μ : Mem} {k ci j : Nat} {x : Int32} (h : sh k = .inl ci) (ht : (ftL ci)[j]? = some 0) : (rW ca ρ μ).set k (ρ k, .inr (ci, (fvs ρ μ k 0 (ftL ci)).set j (.int x))) = rW ca ρ (sI μ k j x) := by
  refine rW_set ca ρ μ (sI μ k j x) ?_ (fun a ha => rC_congr (up2_row _ _ _ _ ha) rfl rfl)
  have e := fvs_set (ρ := ρ) (μ := μ) (μ' := sI μ k j x) (k := k) (j := j) (v := .int x) (ftL ci) 0 (Nat.zero_le _) (fun a t ha => by
    match t with
    | 0 => simp [fv, sI, up2, ha]
    | 1 => rfl
    | _ + 2 => rfl) (fun t h2 => by
    rw [Nat.sub_zero, ht] at h2
    cases h2
    simp [fv, sI, up2])
  simp only [rC, h]
  rw [← e, Nat.sub_zero]
theorem fS_J {ca : Nat → ClassId} {ρ : Nat → Nat} {μ : Mem} {k ci j : Nat} {x : Int64} (h : sh k = .inl ci) (ht : (ftL ci)[j]? = some 1) : (rW ca ρ μ).set k (ρ k, .inr (ci, (fvs ρ μ k 0 (ftL ci)).set j (.long x))) = rW ca ρ (sJ μ k j x) := by
  refine rW_set ca ρ μ (sJ μ k j x) ?_ (fun a ha => rC_congr rfl (up2_row _ _ _ _ ha) rfl)
  have e := fvs_set (ρ := ρ) (μ := μ) (μ' := sJ μ k j x) (k := k) (j := j) (v := .long x) (ftL ci) 0 (Nat.zero_le _) (fun a t ha => by
    match t with
    | 0 => rfl
    | 1 => simp [fv, sJ, up2, ha]
    | _ + 2 => rfl) (fun t h2 => by
    rw [Nat.sub_zero, ht] at h2
    cases h2
    simp [fv, sJ, up2])
  simp only [rC, h]
  rw [← e, Nat.sub_zero]
theorem rvl_app (ρ : Nat → Nat) (a b : List Value) : rvl ρ (a ++ b) = rvl ρ a ++ rvl ρ b := List.map_append
theorem rvl_rev (ρ : Nat → Nat) (a : List Value) : rvl ρ a.reverse = (rvl ρ a).reverse := List.map_reverse

