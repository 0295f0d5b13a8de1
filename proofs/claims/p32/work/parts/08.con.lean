
def elvL : List Value → LV
  | [] => []
  | v :: t => if v.category = 2 then some v :: none :: elvL t else some v :: elvL t
/-- the locals at a method's entry -/
def elv (as : List Value) (n : Nat) : LV := elvL as ++ List.replicate (n - (elvL as).length) none
theorem elvL_len : ∀ as : List Value, (elvL as).length = (lg_sl as).length
  | [] => rfl
  | v :: t => by
    have ih := elvL_len t
    unfold lg_sl at ih ⊢
    unfold elvL
    by_cases h : v.category = 2 <;> simp [h, ih]
theorem elvL_get (ρ : Nat → Nat) : ∀ (as : List Value) (i j : Nat) (v : Value), (elvL as)[j]? = some (some v) → (i + j, rvv ρ v) ∈ lv_args i (rvl ρ as)
  | [], i, j, v, h => by simp [elvL] at h
  | w :: t, i, j, v, h => by
    unfold elvL at h
    have hc := rvv_cat ρ w
    by_cases hw : w.category = 2
    · simp only [hw, if_true] at h
      match j, h with
      | 0, h =>
        simp only [List.getElem?_cons_zero] at h
        cases h
        simp [rvl, lv_args, hw, hc]
      | 1, h => simp at h
      | j + 2, h =>
        have h2 := elvL_get ρ t (i + 2) j v (by simpa using h)
        rw [show i + (j + 2) = i + 2 + j from by omega]
        simp only [rvl, List.map_cons, lv_args] at h2 ⊢
        rw [hc, hw]
        simpa using Or.inr h2
    · simp only [hw, if_false] at h
      match j, h with
      | 0, h =>
        simp only [List.getElem?_cons_zero] at h
        cases h
        simp [rvl, lv_args, hw, hc]
      | j + 1, h =>
        have h2 := elvL_get ρ t (i + 1) j v (by simpa using h)
        rw [show i + (j + 1) = i + 1 + j from by omega]
        simp only [rvl, List.map_cons, lv_args] at h2 ⊢
        rw [hc]
        simp only [hw, if_false]
        simpa using Or.inr h2
theorem elv_HL {ρ : Nat → Nat} {as : List Value} {n : Nat} (h : (elvL as).length ≤ n) : HL ρ ((lg_sl (rvl ρ as) ++ List.replicate (n - (lg_sl (rvl ρ as)).length) Slot.unset).toArray) n (elv as n) := by
  have hl : (lg_sl (rvl ρ as)).length = (elvL as).length := by
    rw [elvL_len]
    unfold lg_sl rvl
    induction as with
    | nil => rfl
    | cons v t ih =>
      have ih2 := ih (by unfold elvL at h; split at h <;> simp at h <;> omega)
      simp only [List.map_cons, List.flatMap_cons, List.length_append, ih2, rvv_cat]
      by_cases hv : v.category = 2 <;> simp [hv]
  refine ⟨by simp [elv]; omega, lv_args 0 (rvl ρ as), lv_entry _ (by omega), fun j v hv => ?_⟩
  unfold elv at hv
  by_cases hj : j < (elvL as).length
  · rw [List.getElem?_append_left hj] at hv
    simpa using elvL_get ρ as 0 j v hv
  · rw [List.getElem?_append_right (by omega)] at hv
    rw [List.getElem?_replicate] at hv
    split at hv <;> cases hv
theorem P_kept {D : va_G} {cl : List vw_C} {ws : va_W} {H H1 : Heap} (hP : va_P D cl ws H) (h : ∀ q : Nat, q < H.size → H1[q]? = H[q]?) : va_P D cl ws H1 := fun k q hq => (hP k q hq).kept (h q.1 (hP k q hq).lt)
theorem S_nar {A B : Nat → Prop} {H0 H : Heap} {locs : List Loc} (h : va_S A H0 H locs) (hA : ∀ q, A q → B q) : va_S B H0 H locs := ⟨h.1, fun q h1 h2 => h.2.1 q h1 (fun w => h2 (hA q w)), fun z hz => hA _ (h.2.2 z hz)⟩
theorem VXF.nar {A B : Nat → Prop} {s : State} (h : VXF A s) (hB : ∀ q, B q → A q) : VXF B s := by
  obtain ⟨h1, h2, h3, h4, h5, h6, h7⟩ := h
  exact ⟨h1.narrow hB, h2.narrow hB, h3, h4, h5, h6, h7⟩
set_option maxHeartbeats 4000000 in
/-- a method's body from any place of its code, over a world that may hold the law's own array (ρ'), told by the world without it (ρ) -/
theorem scon_run {l : Launch} {y : MethodName} {cc : ByteArray} {maxL : Nat} {ret : Option FieldType} {fr lo U : Nat} (M : MI) (hcls : ClsOK) (hl : l.stackTraces = false) (hcc : M.1 = cc) (hrt : mRet M = ret) (hM : MOK l y.cls fr lo M) (hnh : mHnd M = [])
    {ca : Nat → ClassId} {D : va_G} {ρ ρ' : Nat → Nat} {as : List Value} {r : Res} {μ' : Mem} {sz : Nat} {p : Program} {e : Env} {s : State} {m : MethodId} {below : List Frame} {meth : Method} {c : Code} {s₁ : State}
    (B : BodyLoose p l y (headSpec (.code y cc maxL ret :: TB) (rmM fr lo U)) cc maxL ret e s m (rvl ρ as).toArray below meth c s₁) (hml : c.maxLocals = maxL) (htab : ∀ x ∈ c.exceptionTable.toList, False)
    (hsz : s.heap.size = sz) (hK : va_K D vwCl (rT ca) s) (hDD : DD ρ') (hV0 : VXF (AA ρ sz) s) (hnp : mNP M ≤ np ρ') (hnf : 100 ≤ mFl M → np ρ' = 29) (hscr : ∀ L xs, mScr M = some (L, xs) → va_X (ρ' SCR) L xs s s.heap ∧ ρ' SCR < s.heap.size ∧ ¬ AA ρ' sz (ρ' SCR))
    (hρ : ∀ (μ : Mem) (H : Heap), va_P D vwCl (rW ca ρ' μ) H → va_P D vwCl (rW ca ρ μ) H) (hA : ∀ q, AA ρ' sz q → AA ρ sz q) :
    ∀ (n pc : Nat) (lv : LV) (st : List Value) (μ : Mem) (b : Nat) (H : Heap) (locs : List Loc) (ls : Array Slot) (u : Nat), Go M (Qe r μ') n pc lv st μ b → u + b = U → va_P D vwCl (rW ca ρ' μ) H → va_S (AA ρ' sz) s.heap H locs → HL ρ' ls maxL lv →
      W p l e (headSpec (.code y cc maxL ret :: TB) (rmM fr lo U)).room s m (rvl ρ as).toArray below meth c H locs (0 + u) (0 + 6 * u) (vx_MQ below (QcM ca D ρ (Qe r μ') (AA ρ sz)) (XcM ca D ρ (Qe r μ') (AA ρ sz)) (rvl ρ as).toArray s U (6 * U) (AA ρ sz)) (F0 m pc ls (rvl ρ' st)) := by
  have hV := hV0.nar hA
  have hown : s.vm.findClass y.cls = some m.cls := findClass_of_methodNamed B.named
  have hts0 := atoms_spec (ws := .code y cc maxL ret :: TB) B.pre
  have hts : ∀ w ∈ TB, w.before (rvl ρ as).toArray s = true := fun w hw => hts0 w (List.mem_cons_of_mem _ hw)
  have hlocks := B.notSynchronized
  exact go_ok (p := p) (l := l) (e := e) (R := (headSpec (.code y cc maxL ret :: TB) (rmM fr lo U)).room) (s := s) (m := m) (args := (rvl ρ as).toArray) (below := below) (meth := meth) (c := c) (ca := ca) (D := D) (ρ := ρ') (own := y.cls) (nL := maxL) (U := U) (fr := fr) (lo := lo) (c0 := 0) (s0 := 0) (sz := sz) (M := M) (Q := Qe r μ')
    (QQ := vx_MQ below (QcM ca D ρ (Qe r μ') (AA ρ sz)) (XcM ca D ρ (Qe r μ') (AA ρ sz)) (rvl ρ as).toArray s U (6 * U) (AA ρ sz))
    hcls B.exec (B.bytes.trans hcc.symm) hml hown hts hK hDD hsz hV hM rfl rfl (by show 0 + U ≤ U; omega) (by show 0 + 6 * U ≤ 6 * U; omega) (fun pc E h hh => by rw [hnh] at hh; cases hh) hnp hnf hscr
    (fun pc v H locs ls u9 μ9 hu hr hq hP9 hS9' => by
      have hS9 := S_nar hS9' hA
      refine W.widen (k := U) (n := 6 * U) (by omega) (by omega) ?_
      refine vx_ret ?_
      have hqc : ∀ t : State, t.heap = H → s.WarmedH t.vm → QcM ca D ρ (Qe r μ') (AA ρ sz) (rvl ρ as).toArray s (.returned v) t := fun t ht hW => ⟨v, μ9, hq, (by
        rcases hr with ⟨x, ty, rfl, -⟩ | ⟨x, rfl, -⟩ | ⟨rfl, -⟩ <;> rfl), by rw [ht]; exact hρ _ _ hP9, hS9.F ht⟩
      rcases hr with ⟨x, ty, rfl, hd, hty, hn⟩ | ⟨x, rfl, hd, hty⟩ | ⟨rfl, hd, hty⟩
      · exact W.zret B.exec (B.bytes.trans hcc.symm) (B.returns.trans (hrt.symm.trans hty)) hn hqc hS9.2.2 hd hlocks
      · exact W.lret B.exec (B.bytes.trans hcc.symm) (B.returns.trans (hrt.symm.trans hty)) hqc hS9.2.2 hd hlocks
      · exact W.vret B.exec (B.bytes.trans hcc.symm) (B.returns.trans (hrt.symm.trans hty)) hqc hS9.2.2 hd hlocks)
    (fun pc E q9 ce H locs ls u9 μ9 rest hu _ hq hP9 hS9' hce hcv hcl => by
      have hS9 := S_nar hS9' hA
      exact vx_out (fun x hx => (htab x hx).elim) hlocks hce hcv hcl (fun t ht _ => ⟨μ9, hq, by rw [ht]; exact hρ _ _ hP9, hS9.F ht⟩) hS9.2.2 (by omega) (by omega))
    (fun pc E H locs ls u9 μ9 st hlk hcat hu _ hsz9 hq hP9 hS9' => by
      have hS9 := S_nar hS9' hA
      obtain ⟨ho, hE, hfr5, hlo9, ik, is, ic, text, t1, t2, t3, t4, t5, t6, d0, d3, dd⟩ := hM.2.2.2.2 pc E hlk
      obtain ⟨sa, hsa⟩ := hV.2.2.2.1 _ t1
      rw [← ho] at hsa
      have hat : ∀ w ∈ vx_atS y.cls ic E xcN, w.before (rvl ρ as).toArray s = true := vx_hat (fun w hw => hts w (t4 w hw)) t5 (fun w hw => by
        simp only [thB, List.mem_cons, List.mem_nil_iff, or_false] at hw
        rcases hw with rfl | rfl | rfl | rfl
        · exact va_Nw.use rfl (hV.2.2.2.2.1 _ (by simp [dcL]))
        · exact va_Nw.use rfl (hV.2.2.2.2.1 _ (by simp [dcL]))
        · exact va_Nw.use rfl (hV.2.2.2.2.1 _ (by simp [dcL]))
        · exact va_Nw.use rfl (hV.2.2.2.2.2.1 _ hE))
      have hfit : Bundle.fit E = true := by
        simp only [xcL, List.mem_cons, List.mem_nil_iff, or_false] at hE
        rcases hE with rfl | rfl | rfl <;> decide +kernel
      have hfitN : ∀ n ∈ xcN, Bundle.fit n = true := by
        intro n hn
        simp only [xcN, List.mem_cons, List.mem_nil_iff, or_false] at hn
        rcases hn with rfl | rfl <;> decide +kernel
      have hxx : ∀ t : State, s.vm.Alike t.vm → H.size ≤ t.heap.size → (∀ q : Nat, q < H.size → t.heap[q]? = H[q]?) → XcM ca D ρ (Qe r μ') (AA ρ sz) E s t := fun t _ h1 h2 => ⟨μ9, hq, P_kept (hρ _ _ hP9) h2, Nat.le_trans hS9.1 h1, fun q hq1 hq2 => by rw [h2 q (Nat.lt_of_lt_of_le hq1 hS9.1)]; exact hS9.2.1 q hq1 hq2⟩
      have hcat2 : ((rvl ρ' st).map fun v => v.category).sum + (13 * (xcN.length + 1) + 43) ≤ lo := by
        rw [rvl_cat]
        have : (st.map fun v => v.category).sum ≤ 8 := hcat
        show _ + (13 * (2 + 1) + 43) ≤ lo
        omega
      rcases dd with ⟨d4, d6, d9⟩ | ⟨d4, d7, d10⟩
      · exact vx_throwS B.exec (B.bytes.trans hcc.symm) hl hown hfit hfitN (hts _ t2) (hts _ t3) hsa hat t6 (hsz ▸ hV0.1) (hsz ▸ hV0.2.1) (hsz ▸ hS9) (hsz9.trans hml.symm) d0 d3 d4 d6 d9 (fun x hx => (htab x hx).elim) hfr5 hcat2 (by show 0 + u9 + 1 ≤ U; omega) (by show 0 + 6 * u9 + 6 ≤ 6 * U; omega) hlocks hxx hS9.2.2 (by omega) (by omega)
      · exact vx_throwSW B.exec (B.bytes.trans hcc.symm) hl hown hfit hfitN (hts _ t2) (hts _ t3) hsa hat t6 (hsz ▸ hV0.1) (hsz ▸ hV0.2.1) (hsz ▸ hS9) (hsz9.trans hml.symm) d0 d3 d4 d7 d10 (fun x hx => (htab x hx).elim) hfr5 hcat2 (by show 0 + u9 + 1 ≤ U; omega) (by show 0 + 6 * u9 + 6 ≤ 6 * U; omega) hlocks hxx hS9.2.2 (by omega) (by omega))
set_option maxHeartbeats 4000000 in
/-- a method's contract, over what it asks for (PP) -/
theorem scon_core {l : Launch} {y : MethodName} {cc : ByteArray} {maxL : Nat} {ret : Option FieldType} {fr lo U : Nat} (M : MI) (hcls : ClsOK) (hl : l.stackTraces = false) (hy : plainName y.cls = true) (hcc : M.1 = cc) (hrt : mRet M = ret) (hM : MOK l y.cls fr lo M) (hnh : mHnd M = [])
    {ca : Nat → ClassId} {D : va_G} {ρ : Nat → Nat} {as : List Value} {μ : Mem} {r : Res} {μ' : Mem} {sz : Nat} (hnp : mNP M ≤ np ρ) (hnf : 100 ≤ mFl M → np ρ = 29) {PP : State → Prop} (hPP : ∀ V, PP V → PRE ca D ρ μ sz V ∧ SCP (mScr M) ρ sz V)
    (hbody : (elvL as).length ≤ maxL ∧ G M (Qe r μ') 0 (elv as maxL) [] μ U) : vx_Met l y (.code y cc maxL ret :: TB) (rmM fr lo U) (va_Pc (rvl ρ as) PP) (QcM ca D ρ (Qe r μ') (AA ρ sz)) (XcM ca D ρ (Qe r μ') (AA ρ sz)) U (6 * U) (AA ρ sz) := by
  refine vx_ofW (cc := cc) (maxL := maxL) (ret := ret) hy rfl ?_
  intro p e s m args below meth c s₁ B hml htab hv
  obtain ⟨rfl, hpp⟩ := hv
  obtain ⟨⟨hsz, hP, hK, hDD, hV⟩, hsp⟩ := hPP _ hpp
  obtain ⟨hle, n, hgo⟩ := hbody
  rw [lg_entry_eq]
  have h0 := scon_run M hcls hl hcc hrt hM hnh B hml htab hsz hK hDD hV hnp hnf (fun L xs h => hsp L xs h) (fun _ _ h => h) (fun _ h => h) n 0 (elv as maxL) [] μ U s.heap [] _ 0 hgo (by omega) hP va_S.rf (elv_HL hle)
  exact h0
theorem scon_of {l : Launch} {y : MethodName} {cc : ByteArray} {maxL : Nat} {ret : Option FieldType} {fr lo u : Nat} {Γ : Gam} (M : MI) (hcls : ClsOK) (hl : l.stackTraces = false) (hy : plainName y.cls = true) (hcc : M.1 = cc) (hrt : mRet M = ret) (hM : MOK l y.cls fr lo M) (hnh : mHnd M = []) (hsc : M.2.2.2.2.2.2.2.1 = (29, none))
    (hbody : ∀ as μ r μ', Γ as μ r μ' → (elvL as).length ≤ maxL ∧ G M (Qe r μ') 0 (elv as maxL) [] μ (rc r u)) : SCon l y cc maxL ret fr lo u Γ := fun ca D ρ as μ r μ' sz hΓ =>
  scon_core M hcls hl hy hcc hrt hM hnh (by unfold mNP mFl; rw [hsc]; exact np_29 ρ) (fun h => by unfold mFl at h; rw [hsc] at h; exact absurd h (by decide)) (fun V hV => ⟨hV, fun L xs h => by unfold mScr at h; rw [hsc] at h; cases h⟩) (hbody as μ r μ' hΓ)
theorem scon_ofF {l : Launch} {y : MethodName} {cc : ByteArray} {maxL : Nat} {ret : Option FieldType} {fr lo u : Nat} {Γ : Gam} (M : MI) (hcls : ClsOK) (hl : l.stackTraces = false) (hy : plainName y.cls = true) (hcc : M.1 = cc) (hrt : mRet M = ret) (hM : MOK l y.cls fr lo M) (hnh : mHnd M = []) (hsc : M.2.2.2.2.2.2.2.1 = (129, none))
    (hbody : ∀ as μ r μ', Γ as μ r μ' → (elvL as).length ≤ maxL ∧ G M (Qe r μ') 0 (elv as maxL) [] μ u) : SConF l y cc maxL ret fr lo u Γ := fun ca D ρ as μ r μ' sz h29 hΓ =>
  scon_core M hcls hl hy hcc hrt hM hnh (by unfold mNP mFl; rw [hsc, h29]; decide) (fun _ => h29) (fun V hV => ⟨hV, fun L xs h => by unfold mScr at h; rw [hsc] at h; cases h⟩) (hbody as μ r μ' hΓ)
theorem scon_ofS {l : Launch} {y : MethodName} {cc : ByteArray} {maxL : Nat} {ret : Option FieldType} {fr lo u : Nat} {Γ : Gam} (M : MI) (hcls : ClsOK) (hl : l.stackTraces = false) (hy : plainName y.cls = true) (hcc : M.1 = cc) (hrt : mRet M = ret) (hM : MOK l y.cls fr lo M) (hnh : mHnd M = []) (hnn : mFl M = 29)
    (hbody : ∀ as μ r μ', Γ as μ r μ' → (elvL as).length ≤ maxL ∧ G M (Qe r μ') 0 (elv as maxL) [] μ (rc r u)) : SConS l y cc maxL ret fr lo u Γ (mScr M) := fun ca D ρ as μ r μ' sz hΓ =>
  scon_core M hcls hl hy hcc hrt hM hnh (by unfold mNP; rw [hnn]; exact np_29 ρ) (fun h => by rw [hnn] at h; exact absurd h (by decide)) (fun V hV => hV) (hbody as μ r μ' hΓ)
/-- what a table of handlers catches -/
def HC (own : String) (hh : List (Nat × Nat × Nat × Nat)) (M : MI) : Prop := ∀ pc E h, (mHnd M).lookup (pc, E) = some h → ∃ (pre suf : List (Nat × Nat × Nat × Nat)) (x : Nat × Nat × Nat × Nat), hh = pre ++ x :: suf ∧
  (∀ z ∈ pre, ¬ z.2.2.2 = 0 ∧ ∃ nm ∈ xcH, Cond.classLink own z.2.2.2 nm ∈ TB ∧ E ≠ nm) ∧ covers ⟨x.1, x.2.1, x.2.2.1, x.2.2.2⟩ pc = true ∧ ¬ x.2.2.2 = 0 ∧ Cond.classLink own x.2.2.2 E ∈ TB ∧ E ∈ xcL ∧ x.2.2.1 = h.1
theorem HC.go {own : String} {hh : List (Nat × Nat × Nat × Nat)} {M : MI} {s : State} {c : Code} {A : Nat → Prop} (ht : c.exceptionTable.toList = tableOf hh) (h : HC own hh M) (hV : VXF A s) : Catch own s c M := by
  intro pc E q hq
  obtain ⟨pre, suf, x, rfl, h1, h2, h3, h4, h5, h6⟩ := h pc E q hq
  refine ⟨tableOf pre, tableOf suf, ⟨x.1, x.2.1, x.2.2.1, x.2.2.2⟩, by rw [ht]; simp [tableOf], fun z hz => ?_, h2, h3, h4, h5, h6⟩
  simp only [tableOf, List.mem_map] at hz
  obtain ⟨w, hw, rfl⟩ := hz
  obtain ⟨z0, nm, hn, hl, hne⟩ := h1 w hw
  exact Or.inr ⟨z0, nm, hl, hV.2.2.2.2.2.2 E h5 nm hn hne⟩
set_option maxHeartbeats 4000000 in
theorem scon_ofH {l : Launch} {y : MethodName} {cc : ByteArray} {maxL : Nat} {ret : Option FieldType} {hh : List (Nat × Nat × Nat × Nat)} {fr lo u : Nat} {Γ : Gam} (M : MI) (hcls : ClsOK) (hl : l.stackTraces = false) (hy : plainName y.cls = true) (hcc : M.1 = cc) (hrt : mRet M = ret) (hM : MOK l y.cls fr lo M) (hnh : ¬ mHnd M = []) (hth : mThr M = []) (hHC : HC y.cls hh M) (hsc : M.2.2.2.2.2.2.2.1 = (29, none))
    (hbody : ∀ as μ r μ', Γ as μ r μ' → (elvL as).length ≤ maxL ∧ G M (Qe r μ') 0 (elv as maxL) [] μ u) : SConH l y cc maxL ret hh fr lo u Γ := by
  intro ca D ρ as μ r μ' sz hΓ
  refine vx_ofWH (cc := cc) (maxL := maxL) (ret := ret) (hh := hh) hy rfl ?_
  intro p e s m args below meth c s₁ B hml hv
  obtain ⟨rfl, hsz, hP, hK, hDD, hV⟩ := hv
  obtain ⟨hle, n, hgo⟩ := hbody as μ r μ' hΓ
  have hown : s.vm.findClass y.cls = some m.cls := findClass_of_methodNamed B.named
  have hts0 := atoms_spec (ws := .codeWith y cc maxL ret hh :: TB) B.pre
  have hts : ∀ w ∈ TB, w.before (rvl ρ as).toArray s = true := fun w hw => hts0 w (List.mem_cons_of_mem _ hw)
  have hlocks := B.notSynchronized
  have hfr : ∀ (st t : State) (H : Heap) (locs : List Loc), va_S (AA ρ sz) st.heap H locs → t.heap = H → va_F (AA ρ sz) st t := fun st t H locs h1 h2 => h1.F h2
  rw [lg_entry_eq]
  have key := go_ok (p := p) (l := l) (e := e) (R := (headSpec (.codeWith y cc maxL ret hh :: TB) (rmM fr lo u)).room) (s := s) (m := m) (args := (rvl ρ as).toArray) (below := below) (meth := meth) (c := c) (ca := ca) (D := D) (ρ := ρ) (own := y.cls) (nL := maxL) (U := u) (fr := fr) (lo := lo) (c0 := 0) (s0 := 0) (sz := sz) (M := M) (Q := Qe r μ')
    (QQ := vx_MQ below (QcM ca D ρ (Qe r μ') (AA ρ sz)) (XcM ca D ρ (Qe r μ') (AA ρ sz)) (rvl ρ as).toArray s u (6 * u) (AA ρ sz))
    hcls B.exec (B.bytes.trans hcc.symm) hml hown hts hK hDD hsz hV hM rfl rfl (by show 0 + u ≤ u; omega) (by show 0 + 6 * u ≤ 6 * u; omega) (HC.go (vx_table (x := y) B (hts0 _ List.mem_cons_self)) hHC hV) (by unfold mNP mFl; rw [hsc]; exact np_29 ρ) (fun h => by unfold mFl at h; rw [hsc] at h; exact absurd h (by decide)) (fun L xs h => by unfold mScr at h; rw [hsc] at h; cases h)
    (fun pc v H locs ls u9 μ9 hu hr hq hP9 hS9 => by
      refine W.widen (k := u) (n := 6 * u) (by omega) (by omega) ?_
      refine vx_ret ?_
      have hqc : ∀ t : State, t.heap = H → s.WarmedH t.vm → QcM ca D ρ (Qe r μ') (AA ρ sz) (rvl ρ as).toArray s (.returned v) t := fun t ht hW => ⟨v, μ9, hq, (by
        rcases hr with ⟨x, ty, rfl, -⟩ | ⟨x, rfl, -⟩ | ⟨rfl, -⟩ <;> rfl), by rw [ht]; exact hP9, hS9.F ht⟩
      rcases hr with ⟨x, ty, rfl, hd, hty, hn⟩ | ⟨x, rfl, hd, hty⟩ | ⟨rfl, hd, hty⟩
      · exact W.zret B.exec (B.bytes.trans hcc.symm) (B.returns.trans (hrt.symm.trans hty)) hn hqc hS9.2.2 hd hlocks
      · exact W.lret B.exec (B.bytes.trans hcc.symm) (B.returns.trans (hrt.symm.trans hty)) hqc hS9.2.2 hd hlocks
      · exact W.vret B.exec (B.bytes.trans hcc.symm) (B.returns.trans (hrt.symm.trans hty)) hqc hS9.2.2 hd hlocks)
    (fun pc E q9 ce H locs ls u9 μ9 rest hu h9 hq hP9 hS9 hce hcv hcl => absurd h9 hnh)
    (fun pc E H locs ls u9 μ9 st hlk hcat hu h9 hsz9 hq hP9 hS9 => absurd h9 hnh)
  have h0 := key n 0 (elv as maxL) [] μ u s.heap [] _ 0 hgo (by omega) hP va_S.rf (elv_HL hle)
  exact h0
