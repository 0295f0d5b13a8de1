section SN
variable {p : Program} {l : Launch} {e : Env} {R : Room} {s : State} {m : MethodId} {args : Array Value} {below : List Frame} {meth : Method} {c : Code} {T : State} {H : Heap} {locs : List Loc} {cells slots : Nat}
theorem vx_callSN (X : Stand p l e R s m args below meth c T locs cells slots) (hexec : p.tables.exec = Jvm.exec) {own : String} {index : Nat} {host : String} {y : MethodName} {bytes : ByteArray} {maxL : Nat} {ret : Option FieldType}
    (hown : s.vm.findClass own = some m.cls) (hlink : (Cond.methodLinkNest own index y host).before args s = true) (hstat : (Cond.static y).before args s = true) (hinit : (Cond.initialized y.cls).before args s = true)
    (hcode : (Cond.code y bytes maxL ret).before args s = true) (hy : y.cls ≠ "java/lang/invoke/MethodHandle" ∧ y.cls ≠ "java/lang/invoke/VarHandle")
    {W : Nat} {Pre : Pt → Array Value → Prop} {Post : Pt → Array Value → Option Value → Pt → Prop} {PostX : Pt → Array Value → Addr → Pt → Prop} (hK : vx_Back l R p e below s args y 3 W Pre Post PostX)
    {g : JFrame} (hg : g.method = m) (hsize : g.locals.size = c.maxLocals) {argsL rest : List Value} (hlen : ∀ sig, parseMethodDescriptor y.desc = some sig → argsL.length = sig.parameters.length)
    (hstack : g.stack = argsL.reverse ++ rest) (hW : 2 * g.monitorRoom + (rest.map fun v => v.category).sum ≤ W) (hdg : decode c.code g.pc = .ok (.invokestatic index, 3))
    (hpre : ∀ vm₁, s.WarmedH vm₁ → Pre ⟨T.setVm vm₁, locs, cells, slots⟩ argsL.toArray) :
    (∃ (v : Option Value) (vm₁ : Vm) (B : Pt), s.WarmedH vm₁ ∧ Stand p l e R s m args below meth c B.U B.locs B.cells B.slots ∧ Post ⟨T.setVm vm₁, locs, cells, slots⟩ argsL.toArray v B ∧
      ∀ target, Steps p.tables e below (B.U.setTop { g with pc := g.pc + 3, stack := v.toList ++ rest }) target → Steps p.tables e below (T.setTop g) target) ∨
    (∃ (q : Addr) (vm₁ : Vm) (B : Pt), s.WarmedH vm₁ ∧ Stand p l e R s m args below meth c B.U B.locs B.cells B.slots ∧ PostX ⟨T.setVm vm₁, locs, cells, slots⟩ argsL.toArray q B ∧
      Steps p.tables e below (T.setTop g) ((B.U.setTop { g with stack := rest }).pushFrame (.throwing q))) := by
  obtain ⟨mk, hnamed⟩ := Cond.code_named hcode
  obtain ⟨methM, cM, hmethM, -, -, -, -, -, -, hsigM⟩ := Cond.code_spec hnamed hcode
  have hstatic : methM.isStatic = true := Cond.static_spec hnamed hmethM hstat
  obtain ⟨kP, hkP, -⟩ := className_of_methodNamed hnamed
  have hinitP : kP.init = .initialized := Cond.initialized_spec (findClass_of_methodNamed hnamed) hkP hinit
  obtain ⟨vm₁, X₁, hstep₁⟩ := X.invokestaticNest hexec hown hlink hnamed hmethM hstatic hkP hinitP hy (g := g) hg (argsL := argsL) (rest := rest) (hlen _ hsigM) hstack hdg
  rcases hK m meth c ⟨T.setVm vm₁, locs, cells, slots⟩ { g with stack := rest } (.invokestatic index) mk argsL.toArray X₁ hg hsize hdg hW (X₁.named hnamed) (hpre vm₁ X₁.warmed) with ⟨v, B, X', hpost, hsteps⟩ | ⟨q, B, X', hpost, hsteps⟩
  · exact Or.inl ⟨v, vm₁, B, X₁.warmed, X', hpost, fun target h => hstep₁ _ fun acts => by rw [doInvoke_state]; exact hsteps.trans h⟩
  · exact Or.inr ⟨q, vm₁, B, X₁.warmed, X', hpost, hstep₁ _ fun acts => by rw [doInvoke_state]; exact hsteps⟩
theorem vx_runSN {y : MethodName} {bytes cc : ByteArray} {maxL nL mc ms n index : Nat} {ret : Option FieldType} {ws : List Cond} {rm : Room} {Pc : Array Value → State → Prop} {Qc : Array Value → State → Outcome → State → Prop} {XC : String → State → State → Prop} {free : Addr → Prop} {Ts : List Cond} {own host : String} {As rest : List Value} {g : JFrame}
    (S : CallFix p m c cc nL s args Ts own) (hM : vx_Met l y ws rm Pc Qc XC mc ms free) (cw : va_CN R s args own index y host bytes maxL ret ws rm mc ms n ∧ (Cond.static y).before args s = true ∧ True) (hp : PreS s H Pc As)
    (hg : g.method = m) (hn : As.length = n) (hsize : g.locals.size = nL) (hstack : g.stack = As.reverse ++ rest) (hW : 2 * g.monitorRoom + (rest.map fun v => v.category).sum ≤ 8) (hdg : decode cc g.pc = .ok (.invokestatic index, 3)) (hf : cells + mc ≤ R.cells ∧ slots + ms ≤ R.slots) :
    vx_Run p l e R s m args below meth c H locs cells slots mc ms g rest (Qc As.toArray) XC free := by
  obtain ⟨⟨⟨hrc, hrs, hfr, hlo, hws, hcw⟩, hcode, hini, hy, hlen, hl⟩, hx1, hx2⟩ := cw
  have hK : vx_Back l R p e below s args y 3 8 (PreOf R mc ms Pc) (PostOf Qc mc ms free) (vx_Post XC mc ms free) := vx_back (bytes := bytes) (maxL := maxL) (ret := ret) hM hp.1 hrc hrs hfr hlo hws hcw (fun a' U hW => word_at hW (Or.inl (by first | rfl | simp [Cond.onTables, Cond.keeps, Cond.steady])) hini)
  obtain ⟨hx, hb, hml, ho, -⟩ := S
  have hPc := hp.2
  intro T hT X
  rcases vx_callSN X hx (bytes := bytes) (maxL := maxL) (ret := ret) ho hl hx1 hini hcode hy hK hg (hsize.trans hml.symm) (argsL := As) (rest := rest) (fun sig h => hn.trans (hlen sig h)) hstack hW (by rw [hb]; exact hdg)
    (fun vm₁ hW₁ => ⟨hf.1, hf.2, hPc (T.setVm vm₁) hT hW₁⟩) with ⟨v, vm₁, ⟨U', l2, c2, s2⟩, hW₁, X', ⟨g', mk, t, L, e1, e2, hq, h1, hL, h2, h3⟩, st⟩ | ⟨q, vm₁, ⟨U', l2, c2, s2⟩, hW₁, X', ⟨g', mk, t, L, E, ce, e1, e2, hq, hce, hcv, hcl, h1, hL, h2, h3⟩, st⟩
  · dsimp only [Pt.U, Pt.locs, Pt.cells, Pt.slots] at X' e1 e2 h1 h2 h3 st
    subst h1; subst h2; subst h3
    exact Or.inl ⟨v, (T.setVm vm₁).calling g' mk As.toArray, t, U', L, hT, X', hL, e1, e2, hq, st⟩
  · dsimp only [Pt.U, Pt.locs, Pt.cells, Pt.slots] at X' e1 e2 h1 h2 h3 st hcl
    subst h1; subst h2; subst h3
    exact Or.inr ⟨q, (T.setVm vm₁).calling g' mk As.toArray, t, U', L, E, ce, hT, X', hL, e1, e2, hq, hce, hcv, vx_cls hW₁ hcl, st⟩
end SN

section OK
variable {p : Program} {l : Launch} {e : Env} {R : Room} {s : State} {m : MethodId} {args : Array Value} {below : List Frame} {meth : Method} {c : Code}
theorem rvl_one (ρ : Nat → Nat) (v : Option Value) (rest : List Value) : (v.map (rvv ρ)).toList ++ rvl ρ rest = rvl ρ (v.toList ++ rest) := by cases v <;> rfl
/-- behind a call -/
theorem call_ok {ca : Nat → ClassId} {D : va_G} {ρ : Nat → Nat} {A A1 : Nat → Prop} {H H0 : Heap} {locs : List Loc} {cells slots mc ms : Nat} {QQ : State → Prop} {pc : Nat} {ls : Array Slot} {st0 rest : List Value} {a : Array Value} {Q1 : Res → Mem → Prop} {free : Nat → Prop}
    (hr : vx_Run p l e R s m args below meth c H locs cells slots mc ms (F0 m pc ls st0) rest (QcM ca D ρ Q1 A1 a) (XcM ca D ρ Q1 A1) free) (hS : va_S A H0 H locs) (hA : ∀ q, q < H.size → A1 q → A q) (hf : ∀ q, free q → A q)
    (kr : ∀ (v : Option Value) (μ' : Mem) (H1 : Heap) (locs1 : List Loc), Q1 (.inl v) μ' → va_P D vwCl (rW ca ρ μ') H1 → va_S A H0 H1 locs1 → W p l e R s m args below meth c H1 locs1 (cells + mc) (slots + ms) QQ (F0 m (pc + 3) ls ((v.map (rvv ρ)).toList ++ rest)))
    (kx : ∀ (E : String) (μ' : Mem) (q9 : Nat) (ce : Cell) (H1 : Heap) (locs1 : List Loc), Q1 (.inr E) μ' → va_P D vwCl (rW ca ρ μ') H1 → va_S A H0 H1 locs1 → H1[q9]? = some ce → ce.vm = .none → s.vm.findClass E = some ce.cls → vx_W p l e R s m args below meth c H1 locs1 (cells + mc) (slots + ms) QQ (F0 m pc ls rest) q9) :
    W p l e R s m args below meth c H locs cells slots QQ (F0 m pc ls st0) := by
  intro T hT X
  rcases hr T hT X with ⟨v, st₀, t, T', L, h0, X', hL, e1, e2, ⟨v', μ', hQ, hv, hP, hF⟩, st⟩ | ⟨q, st₀, t, T', L, E, ce, h0, X', hL, e1, e2, ⟨μ', hQ, hP, hF⟩, hce, hcv, hcl, st⟩
  · cases hv
    obtain ⟨k1, k2, k3⟩ := vx_keep h0 e1 hS hA hf hL hF
    obtain ⟨t2, a1, b1⟩ := kr v' μ' T'.heap (locs ++ L) hQ (by rw [e1]; exact hP) k3 T' rfl X'
    exact ⟨t2, st t2 a1, b1⟩
  · obtain ⟨k1, k2, k3⟩ := vx_keep h0 e1 hS hA hf hL hF
    obtain ⟨t2, a1, b1⟩ := kx E μ' q ce T'.heap (locs ++ L) hQ (by rw [e1]; exact hP) k3 (by rw [e1]; exact hce) hcv hcl T' rfl X'
    exact ⟨t2, st.trans a1, b1⟩
theorem blind_of {ca : Nat → ClassId} {D : va_G} {ρ : Nat → Nat} {μ : Mem} {sz : Nat} {av : List Value} : FrameBlind (va_Pc av (PRE ca D ρ μ sz)) := by
  intro a U g mk q
  obtain ⟨q0, q1, qP, qK, qD, qV⟩ := q
  exact ⟨q0, q1, qP, va_K.moved (u := U) (U := U.calling g mk a) (Vm.Alike.refl U.vm) qK, qD, qV⟩
theorem scr_go {A : Nat → Prop} {U : State} {locs : List Loc} {a L : Nat} {xs : Nat → Int32} (h : va_X a L xs s s.heap) (h2 : a < s.heap.size) (h3 : ¬ A a) (hW : s.WarmedH U.vm) (hS : va_S A s.heap U.heap locs) : va_X a L xs U U.heap := by
  exact va_X.moved hW.alike (h.kept (hS.2.1 a h2 h3))
theorem blind_ofS {ca : Nat → ClassId} {D : va_G} {ρ : Nat → Nat} {μ : Mem} {sz : Nat} {av : List Value} {sc : Option (Nat × (Nat → Int32))} : FrameBlind (va_Pc av (fun V => PRE ca D ρ μ sz V ∧ SCP sc ρ sz V)) := by
  intro a U g mk q
  obtain ⟨q0, ⟨q1, qP, qK, qD, qV⟩, qS⟩ := q
  exact ⟨q0, ⟨q1, qP, va_K.moved (u := U) (U := U.calling g mk a) (Vm.Alike.refl U.vm) qK, qD, qV⟩, fun L xs hs => (qS L xs hs).imp (va_X.moved (u := U) (U := U.calling g mk a) (Vm.Alike.refl U.vm)) id⟩
/-- how a method ends: with a value that it may return -/
def IsRet (M : MI) (pc : Nat) (v : Option Value) : Prop := (∃ (x : Int32) (ty : FieldType), v = some (.int x) ∧ decode M.1 pc = .ok (.ireturn, 1) ∧ mRet M = some ty ∧ narrow ty (.int x) = .int x) ∨ (∃ x : Int64, v = some (.long x) ∧ decode M.1 pc = .ok (.lreturn, 1) ∧ mRet M = some .long) ∨ (v = none ∧ decode M.1 pc = .ok (.return_, 1) ∧ mRet M = none)
def Catch (own : String) (s : State) (c : Code) (M : MI) : Prop := ∀ pc E h, (mHnd M).lookup (pc, E) = some h → ∃ (pre suf : List ExceptionTableEntry) (x : ExceptionTableEntry), c.exceptionTable.toList = pre ++ x :: suf ∧
  (∀ z ∈ pre, covers z pc = false ∨ (z.catchType ≠ 0 ∧ ∃ nm : String, Cond.classLink own z.catchType nm ∈ TB ∧ va_Nc E nm s)) ∧ covers x pc = true ∧ x.catchType ≠ 0 ∧ Cond.classLink own x.catchType E ∈ TB ∧ E ∈ xcL ∧ x.handlerPc = h.1
set_option maxHeartbeats 4000000 in
set_option maxRecDepth 100000 in
theorem go_ok {ca : Nat → ClassId} {D : va_G} {ρ : Nat → Nat} {own : String} {nL U fr lo c0 s0 sz : Nat} {M : MI} {Q : Res → Mem → Prop} {QQ : State → Prop} (hcls : ClsOK)
    (hx : p.tables.exec = Jvm.exec) (hb : c.code = M.1) (hml : c.maxLocals = nL) (hown : s.vm.findClass own = some m.cls) (hts : ∀ w ∈ TB, w.before args s = true) (hK : va_K D vwCl (rT ca) s) (hDD : DD ρ) (hsz : s.heap.size = sz) (hV : VXF (AA ρ sz) s) (hM : MOK l own fr lo M)
    (hRf : R.frames = fr) (hRl : R.locals = lo) (hRc : c0 + U ≤ R.cells) (hRs : s0 + 6 * U ≤ R.slots) (hC : Catch own s c M) (hnp : mNP M ≤ np ρ) (hnf : 100 ≤ mFl M → np ρ = 29)
    (hscr : ∀ L xs, mScr M = some (L, xs) → va_X (ρ SCR) L xs s s.heap ∧ ρ SCR < s.heap.size ∧ ¬ AA ρ sz (ρ SCR))
    (hRet : ∀ (pc : Nat) (v : Option Value) (H : Heap) (locs : List Loc) (ls : Array Slot) (u : Nat) (μ : Mem), u ≤ U → IsRet M pc v → Q (.inl v) μ → va_P D vwCl (rW ca ρ μ) H → va_S (AA ρ sz) s.heap H locs → W p l e R s m args below meth c H locs (c0 + u) (s0 + 6 * u) QQ (F0 m pc ls v.toList))
    (hOut : ∀ (pc : Nat) (E : String) (q9 : Nat) (ce : Cell) (H : Heap) (locs : List Loc) (ls : Array Slot) (u : Nat) (μ : Mem) (rest : List Value), u ≤ U → mHnd M = [] → Q (.inr E) μ → va_P D vwCl (rW ca ρ μ) H → va_S (AA ρ sz) s.heap H locs → H[q9]? = some ce → ce.vm = .none → s.vm.findClass E = some ce.cls → vx_W p l e R s m args below meth c H locs (c0 + u) (s0 + 6 * u) QQ (F0 m pc ls rest) q9)
    (hThr : ∀ (pc : Nat) (E : String) (H : Heap) (locs : List Loc) (ls : Array Slot) (u : Nat) (μ : Mem) (st : List Value), (mThr M).lookup pc = some E → cats st ≤ 8 → u + 1 ≤ U → mHnd M = [] → ls.size = nL → Q (.inr E) μ → va_P D vwCl (rW ca ρ μ) H → va_S (AA ρ sz) s.heap H locs → W p l e R s m args below meth c H locs (c0 + u) (s0 + 6 * u) QQ (F0 m pc ls (rvl ρ st))) :
    ∀ (n pc : Nat) (lv : LV) (st : List Value) (μ : Mem) (b : Nat) (H : Heap) (locs : List Loc) (ls : Array Slot) (u : Nat), Go M Q n pc lv st μ b → u + b = U → va_P D vwCl (rW ca ρ μ) H → va_S (AA ρ sz) s.heap H locs → HL ρ ls nL lv →
      W p l e R s m args below meth c H locs (c0 + u) (s0 + 6 * u) QQ (F0 m pc ls (rvl ρ st)) := by
  have hAk : ∀ k, k < np ρ → AA ρ sz (ρ k) := fun k hk => Or.inl ⟨k, hk, rfl⟩
  have hAs : ∀ q, s.heap.size ≤ q → AA ρ sz q := fun q h => Or.inr (by omega)
  have hDv : ∀ μ, va_D (AA ρ sz) (rW ca ρ μ) := fun μ => va_D_of hDD hAk
  have hsub : ∀ (H : Heap) (locs : List Loc), va_S (AA ρ sz) s.heap H locs → ∀ q, AA ρ H.size q → AA ρ sz q := fun H locs hS q h => by
    rcases h with h | h
    · exact Or.inl h
    · exact Or.inr (by have := hS.1; omega)
  have hPRE : ∀ (μ : Mem) (H : Heap) (locs : List Loc), va_P D vwCl (rW ca ρ μ) H → va_S (AA ρ sz) s.heap H locs → ∀ V : State, V.heap = H → s.WarmedH V.vm → PRE ca D ρ μ H.size V := fun μ H locs hP hS V hV1 hW => by
    subst hV1
    exact ⟨rfl, hP, va_K.moved hW.alike hK, hDD, hV.go hW hS (hsub _ _ hS)⟩
  intro n
  induction n with
  | zero => intro pc lv st μ b H locs ls u hg; exact hg.elim
  | succ n ih =>
    intro pc lv st μ b H locs ls u hg hu hP hS hL
    have hD := hDv μ
    rcases hg with ⟨lv', hle, hg⟩ | ⟨ins, len, hd, hg⟩
    · exact ih pc lv' st μ b H locs ls u hg hu hP hS (hL.le hle)
    have back : ∀ (r : Res) (μ' : Mem) (rest : List Value) (cu : Nat), cu ≤ b → CK M Q (Go M Q n) pc lv rest μ' (b - cu) r →
        (∀ (v : Option Value) (μ2 : Mem) (H1 : Heap) (locs1 : List Loc), Qe r μ' (.inl v) μ2 → va_P D vwCl (rW ca ρ μ2) H1 → va_S (AA ρ sz) s.heap H1 locs1 → W p l e R s m args below meth c H1 locs1 (c0 + u + cu) (s0 + 6 * u + 6 * cu) QQ (F0 m (pc + 3) ls ((v.map (rvv ρ)).toList ++ rvl ρ rest))) ∧
        (∀ (E : String) (μ2 : Mem) (q9 : Nat) (ce : Cell) (H1 : Heap) (locs1 : List Loc), Qe r μ' (.inr E) μ2 → va_P D vwCl (rW ca ρ μ2) H1 → va_S (AA ρ sz) s.heap H1 locs1 → H1[q9]? = some ce → ce.vm = .none → s.vm.findClass E = some ce.cls → vx_W p l e R s m args below meth c H1 locs1 (c0 + u + cu) (s0 + 6 * u + 6 * cu) QQ (F0 m pc ls (rvl ρ rest)) q9) := by
      intro r μ' rest cu hcu hck
      rw [show c0 + u + cu = c0 + (u + cu) from by omega, show s0 + 6 * u + 6 * cu = s0 + 6 * (u + cu) from by omega]
      refine ⟨fun v μ2 H1 locs1 hq hP1 hS1 => ?_, fun E μ2 q9 ce H1 locs1 hq hP1 hS1 hce hcv hcl => ?_⟩
      · obtain ⟨rfl, rfl⟩ := hq
        rw [rvl_one]
        exact ih _ _ _ _ _ _ _ _ _ hck (by omega) hP1 hS1 hL
      · obtain ⟨rfl, rfl⟩ := hq
        simp only [CK] at hck
        cases hlk : (mHnd M).lookup (pc, E) with
        | none =>
          rw [hlk] at hck
          exact hOut pc E q9 ce H1 locs1 ls (u + cu) μ2 _ (by omega) hck.1 hck.2 hP1 hS1 hce hcv hcl
        | some h =>
          rw [hlk] at hck
          obtain ⟨hlt, hck⟩ := hck
          obtain ⟨pre, suf, x, hsplit, hpass, hcov, h0, hlink, hEx, hpc⟩ := hC pc E h hlk
          refine vx_catch (own := own) (name := E) hown pre x suf hsplit (fun z hz => (hpass z hz).elim Or.inl (fun ⟨z0, nm, z1, z2⟩ => Or.inr ⟨z0, nm, hts _ z1, z2⟩)) hcov h0 (hts _ hlink) (va_Nw.use rfl (hV.2.2.2.2.2.1 E hEx)) hce hcv hcl ?_
          rw [hpc]
          obtain ⟨hl0, l9, hl1, hl2⟩ := hL
          rcases hck with ⟨hd9, hck⟩ | ⟨k9, hk9, hd9, hck⟩
          · exact lv_astore (rest := []) hx hb hd9 hl1 (by omega) rfl (fun ls9 hls => ih _ _ _ _ _ _ _ _ _ hck (by omega) hP1 hS1 (HL_ls0 hl0 hl2 rfl hls))
          · exact lv_astore_n (rest := []) hx hb hd9 hk9 hl1 (by omega) rfl (fun ls9 hls => ih _ _ _ _ _ _ _ _ _ hck (by omega) hP1 hS1 (HL_ls0 hl0 hl2 rfl hls))
    cases ins with
    | iload i =>
      obtain ⟨hlen, x, c1, h⟩ := hg
      subst hlen
      exact lv_iload hx hb hd (hL.get c1) (ih _ _ _ _ _ _ _ _ _ h hu hP hS hL)
    | iload_n i =>
      obtain ⟨hlen, x, c1, h⟩ := hg
      subst hlen
      exact lv_iload_n hx hb hd rfl (hL.get c1) (ih _ _ _ _ _ _ _ _ _ h hu hP hS hL)
    | lload i =>
      obtain ⟨hlen, x, c1, h⟩ := hg
      subst hlen
      exact lv_lload hx hb hd (hL.get c1) (ih _ _ _ _ _ _ _ _ _ h hu hP hS hL)
    | lload_n i =>
      obtain ⟨hlen, x, c1, h⟩ := hg
      subst hlen
      exact lv_lload_n hx hb hd rfl (hL.get c1) (ih _ _ _ _ _ _ _ _ _ h hu hP hS hL)
    | aload i =>
      obtain ⟨hlen, x, c1, h⟩ := hg
      subst hlen
      exact lv_aload hx hb hd (hL.get c1) (ih _ _ _ _ _ _ _ _ _ h hu hP hS hL)
    | aload_n i =>
      obtain ⟨hlen, x, c1, h⟩ := hg
      subst hlen
      exact lv_aload_n hx hb hd rfl (hL.get c1) (ih _ _ _ _ _ _ _ _ _ h hu hP hS hL)
    | istore i =>
      obtain ⟨hlen, x, rest, rfl, c1, h⟩ := hg
      subst hlen
      obtain ⟨hl0, l9, hl1, hl2⟩ := hL
      exact lv_istore hx hb hd hl1 (by omega) rfl (fun ls9 hls => ih _ _ _ _ _ _ _ _ _ h hu hP hS (HL_ls1 hl0 hl2 rfl hls))
    | istore_n i =>
      obtain ⟨hlen, x, rest, rfl, c1, h⟩ := hg
      subst hlen
      obtain ⟨hl0, l9, hl1, hl2⟩ := hL
      exact lv_istore_n hx hb hd rfl hl1 (by omega) rfl (fun ls9 hls => ih _ _ _ _ _ _ _ _ _ h hu hP hS (HL_ls1 hl0 hl2 rfl hls))
    | lstore i =>
      obtain ⟨hlen, x, rest, rfl, c1, h⟩ := hg
      subst hlen
      obtain ⟨hl0, l9, hl1, hl2⟩ := hL
      exact lv_lstore hx hb hd hl1 (by omega) rfl (fun ls9 hls => ih _ _ _ _ _ _ _ _ _ h hu hP hS (HL_ls2 hl0 hl2 rfl hls))
    | lstore_n i =>
      obtain ⟨hlen, x, rest, rfl, c1, h⟩ := hg
      subst hlen
      obtain ⟨hl0, l9, hl1, hl2⟩ := hL
      exact lv_lstore_n hx hb hd rfl hl1 (by omega) rfl (fun ls9 hls => ih _ _ _ _ _ _ _ _ _ h hu hP hS (HL_ls2 hl0 hl2 rfl hls))
    | astore i =>
      obtain ⟨hlen, x, rest, rfl, c1, h⟩ := hg
      subst hlen
      obtain ⟨hl0, l9, hl1, hl2⟩ := hL
      exact lv_astore hx hb hd hl1 (by omega) rfl (fun ls9 hls => ih _ _ _ _ _ _ _ _ _ h hu hP hS (HL_ls1 hl0 hl2 rfl hls))
    | astore_n i =>
      obtain ⟨hlen, x, rest, rfl, c1, h⟩ := hg
      subst hlen
      obtain ⟨hl0, l9, hl1, hl2⟩ := hL
      exact lv_astore_n hx hb hd rfl hl1 (by omega) rfl (fun ls9 hls => ih _ _ _ _ _ _ _ _ _ h hu hP hS (HL_ls1 hl0 hl2 rfl hls))
    | iinc i k =>
      obtain ⟨hlen, x, c1, h⟩ := hg
      subst hlen
      obtain ⟨hl0, l9, hl1, hl2⟩ := hL
      obtain ⟨k9, hk9⟩ := List.getElem?_of_mem (hl2 _ _ c1)
      have hi9 : i < nL := by have := (List.getElem?_eq_some_iff.mp c1).1; omega
      exact lv_iinc hx hb hd hl1 hk9 rfl hi9 rfl (fun ls9 hls => ih _ _ _ _ _ _ _ _ _ h hu hP hS (HL_ls1 hl0 hl2 rfl hls))
    | iconst k =>
      obtain ⟨hlen, v, c1, h⟩ := hg
      subst hlen
      exact lv_iconst hx hb hd c1 (ih _ _ _ _ _ _ _ _ _ h hu hP hS hL)
    | bipush k =>
      obtain ⟨hlen, v, c1, h⟩ := hg
      subst hlen
      exact lv_bipush hx hb hd c1 (ih _ _ _ _ _ _ _ _ _ h hu hP hS hL)
    | sipush k =>
      obtain ⟨hlen, v, c1, h⟩ := hg
      subst hlen
      exact lv_sipush hx hb hd c1 (ih _ _ _ _ _ _ _ _ _ h hu hP hS hL)
    | lconst k =>
      obtain ⟨hlen, v, c1, h⟩ := hg
      subst hlen
      exact lv_lconst hx hb hd c1 (ih _ _ _ _ _ _ _ _ _ h hu hP hS hL)
    | ldc k =>
      obtain ⟨hlen, v, c1, h⟩ := hg
      subst hlen
      exact lv_ldc hx hb hown (hts _ (hM.2.2.1 _ _ c1)) hd (ih _ _ _ _ _ _ _ _ _ h hu hP hS hL)
    | ldc_w k =>
      obtain ⟨hlen, v, c1, h⟩ := hg
      subst hlen
      exact lv_ldcw hx hb hown (hts _ (hM.2.2.1 _ _ c1)) hd (ih _ _ _ _ _ _ _ _ _ h hu hP hS hL)
    | ldc2_w k =>
      obtain ⟨hlen, v, c1, h⟩ := hg
      subst hlen
      exact lv_ldc2 hx hb hown (hts _ (hM.2.2.2.1 _ _ c1)) hd (ih _ _ _ _ _ _ _ _ _ h hu hP hS hL)
    | iadd  =>
      obtain ⟨hlen, x, y, rest, rfl, h⟩ := hg
      subst hlen
      exact lv_iadd hx hb hd (ih _ _ _ _ _ _ _ _ _ h hu hP hS hL)
    | isub  =>
      obtain ⟨hlen, x, y, rest, rfl, h⟩ := hg
      subst hlen
      exact lv_isub hx hb hd (ih _ _ _ _ _ _ _ _ _ h hu hP hS hL)
    | imul  =>
      obtain ⟨hlen, x, y, rest, rfl, h⟩ := hg
      subst hlen
      exact lv_imul hx hb hd (ih _ _ _ _ _ _ _ _ _ h hu hP hS hL)
    | iand  =>
      obtain ⟨hlen, x, y, rest, rfl, h⟩ := hg
      subst hlen
      exact lv_iand hx hb hd (ih _ _ _ _ _ _ _ _ _ h hu hP hS hL)
    | ior  =>
      obtain ⟨hlen, x, y, rest, rfl, h⟩ := hg
      subst hlen
      exact lv_ior hx hb hd (ih _ _ _ _ _ _ _ _ _ h hu hP hS hL)
    | ixor  =>
      obtain ⟨hlen, x, y, rest, rfl, h⟩ := hg
      subst hlen
      exact lv_ixor hx hb hd (ih _ _ _ _ _ _ _ _ _ h hu hP hS hL)
    | ishl  =>
      obtain ⟨hlen, x, y, rest, rfl, h⟩ := hg
      subst hlen
      exact lv_ishl hx hb hd (ih _ _ _ _ _ _ _ _ _ h hu hP hS hL)
    | ishr  =>
      obtain ⟨hlen, x, y, rest, rfl, h⟩ := hg
      subst hlen
      exact lv_ishr hx hb hd (ih _ _ _ _ _ _ _ _ _ h hu hP hS hL)
    | iushr  =>
      obtain ⟨hlen, x, y, rest, rfl, h⟩ := hg
      subst hlen
      exact lv_iushr hx hb hd rfl (ih _ _ _ _ _ _ _ _ _ h hu hP hS hL)
    | idiv  =>
      obtain ⟨hlen, x, y, rest, rfl, c1, h⟩ := hg
      subst hlen
      exact lv_idiv hx hb hd c1 (ih _ _ _ _ _ _ _ _ _ h hu hP hS hL)
    | irem  =>
      obtain ⟨hlen, x, y, rest, rfl, c1, h⟩ := hg
      subst hlen
      exact lv_irem hx hb hd c1 (ih _ _ _ _ _ _ _ _ _ h hu hP hS hL)
    | ladd  =>
      obtain ⟨hlen, x, y, rest, rfl, h⟩ := hg
      subst hlen
      exact lv_ladd hx hb hd (ih _ _ _ _ _ _ _ _ _ h hu hP hS hL)
    | lsub  =>
      obtain ⟨hlen, x, y, rest, rfl, h⟩ := hg
      subst hlen
      exact lv_lsub hx hb hd (ih _ _ _ _ _ _ _ _ _ h hu hP hS hL)
    | lmul  =>
      obtain ⟨hlen, x, y, rest, rfl, h⟩ := hg
      subst hlen
      exact lv_lmul hx hb hd (ih _ _ _ _ _ _ _ _ _ h hu hP hS hL)
    | land  =>
      obtain ⟨hlen, x, y, rest, rfl, h⟩ := hg
      subst hlen
      exact lv_land hx hb hd (ih _ _ _ _ _ _ _ _ _ h hu hP hS hL)
    | lor  =>
      obtain ⟨hlen, x, y, rest, rfl, h⟩ := hg
      subst hlen
      exact lv_lor hx hb hd (ih _ _ _ _ _ _ _ _ _ h hu hP hS hL)
    | lxor  =>
      obtain ⟨hlen, x, y, rest, rfl, h⟩ := hg
      subst hlen
      exact lv_lxor hx hb hd (ih _ _ _ _ _ _ _ _ _ h hu hP hS hL)
    | ldiv  =>
      obtain ⟨hlen, x, y, rest, rfl, c1, h⟩ := hg
      subst hlen
      exact lv_ldiv hx hb hd c1 (ih _ _ _ _ _ _ _ _ _ h hu hP hS hL)
    | lrem  =>
      obtain ⟨hlen, x, y, rest, rfl, c1, h⟩ := hg
      subst hlen
      exact lv_lrem hx hb hd c1 (ih _ _ _ _ _ _ _ _ _ h hu hP hS hL)
    | lshl  =>
      obtain ⟨hlen, x, y, rest, rfl, h⟩ := hg
      subst hlen
      exact lv_lshl hx hb hd rfl (ih _ _ _ _ _ _ _ _ _ h hu hP hS hL)
    | lushr  =>
      obtain ⟨hlen, x, y, rest, rfl, h⟩ := hg
      subst hlen
      exact lv_lushr hx hb hd rfl (ih _ _ _ _ _ _ _ _ _ h hu hP hS hL)
    | lshr  =>
      obtain ⟨hlen, x, y, rest, rfl, h⟩ := hg
      subst hlen
      exact lv_lshr hx hb hd rfl (ih _ _ _ _ _ _ _ _ _ h hu hP hS hL)
    | ineg  =>
      obtain ⟨hlen, x, rest, rfl, h⟩ := hg
      subst hlen
      exact lv_ineg hx hb hd (ih _ _ _ _ _ _ _ _ _ h hu hP hS hL)
    | lneg  =>
      obtain ⟨hlen, x, rest, rfl, h⟩ := hg
      subst hlen
      exact lv_lneg hx hb hd (ih _ _ _ _ _ _ _ _ _ h hu hP hS hL)
    | i2l  =>
      obtain ⟨hlen, x, rest, rfl, h⟩ := hg
      subst hlen
      exact lv_i2l hx hb hd rfl (ih _ _ _ _ _ _ _ _ _ h hu hP hS hL)
    | l2i  =>
      obtain ⟨hlen, x, rest, rfl, h⟩ := hg
      subst hlen
      exact lv_l2i hx hb hd rfl (ih _ _ _ _ _ _ _ _ _ h hu hP hS hL)
    | i2c  =>
      obtain ⟨hlen, x, rest, rfl, h⟩ := hg
      subst hlen
      exact lv_i2c hx hb hd rfl (ih _ _ _ _ _ _ _ _ _ h hu hP hS hL)
    | lcmp  =>
      obtain ⟨hlen, x, y, rest, rfl, h⟩ := hg
      subst hlen
      exact W.lcmp hx hb hd (ih _ _ _ _ _ _ _ _ _ h hu hP hS hL)
    | dup  =>
      obtain ⟨hlen, v, rest, rfl, c1, h⟩ := hg
      subst hlen
      exact lv_dup hx hb hd ((rvv_cat ρ v).trans c1) (ih _ _ _ _ _ _ _ _ _ h hu hP hS hL)
    | dup2  =>
      obtain ⟨hlen, v, w, rest, rfl, c1, c2, h⟩ := hg
      subst hlen
      exact lv_dup2_11 hx hb hd ((rvv_cat ρ v).trans c1) ((rvv_cat ρ w).trans c2) (ih _ _ _ _ _ _ _ _ _ h hu hP hS hL)
    | pop  =>
      obtain ⟨hlen, v, rest, rfl, c1, h⟩ := hg
      subst hlen
      exact lv_pop hx hb hd ((rvv_cat ρ v).trans c1) (ih _ _ _ _ _ _ _ _ _ h hu hP hS hL)
    | goto off =>
      obtain ⟨hlen, tgt, c1, h⟩ := hg
      subst hlen
      exact lv_goto hx hb hd c1 (ih _ _ _ _ _ _ _ _ _ h hu hP hS hL)
    | ifnull off =>
      obtain ⟨hlen, k, rest, rfl, h⟩ := hg
      subst hlen
      exact lv_ifnull hx hb hd (ih _ _ _ _ _ _ _ _ _ h hu hP hS hL)
    | ifnonnull off =>
      obtain ⟨hlen, k, rest, tgt, rfl, c1, h⟩ := hg
      subst hlen
      exact lv_ifnonnull hx hb hd c1 (ih _ _ _ _ _ _ _ _ _ h hu hP hS hL)
    | laload  =>
      obtain ⟨hlen, i, k, rest, n, rfl, c1, c2, c3, h⟩ := hg
      subst hlen
      exact va_lald hx hb hK hP k 1 (rW_arr (Nat.lt_of_lt_of_le c1 hnp) c2) rfl c3 hd (ih _ _ _ _ _ _ _ _ _ h hu hP hS hL)
    | caload  =>
      obtain ⟨hlen, i, k, rest, n, rfl, c1, c2, c3, h⟩ := hg
      subst hlen
      exact va_cald hx hb hK hP k 2 (rW_arr (Nat.lt_of_lt_of_le c1 hnp) c2) rfl c3 hd (ih _ _ _ _ _ _ _ _ _ h hu hP hS hL)
    | baload  =>
      obtain ⟨hlen, i, k, rest, n, rfl, c1, c2, c3, h⟩ := hg
      subst hlen
      exact va_zald hx hb hK hP k 3 (rW_arr (Nat.lt_of_lt_of_le c1 hnp) c2) rfl c3 hd (ih _ _ _ _ _ _ _ _ _ h hu hP hS hL)
    | aaload  =>
      obtain ⟨hlen, i, k, rest, n, rfl, c1, c2, c3, c4, h⟩ := hg
      subst hlen
      exact va_aldq hx hb hK hP k 4 (rW_arr (Nat.lt_of_lt_of_le c1 hnp) c2) rfl c3 hd (by rw [clm_lt c4]; exact ih _ _ _ _ _ _ _ _ _ h hu hP hS hL)
    | iastore  =>
      obtain ⟨hlen, x, i, k, rest, n, rfl, c1, c2, c3, h⟩ := hg
      subst hlen
      refine va_iast hx hb hK hP hD hS k 0 (rW_arr (Nat.lt_of_lt_of_le c1 hnp) c2) rfl c3 hd (fun H9 locs9 hP9 hD9 hS9 => ?_)
      exact ih _ _ _ _ _ _ _ _ _ h hu (by rw [← aS_I c2 (by omega)]; exact hP9) hS9 hL
    | lastore  =>
      obtain ⟨hlen, x, i, k, rest, n, rfl, c1, c2, c3, h⟩ := hg
      subst hlen
      refine va_last hx hb hK hP hD hS k 1 (rW_arr (Nat.lt_of_lt_of_le c1 hnp) c2) rfl c3 hd (fun H9 locs9 hP9 hD9 hS9 => ?_)
      exact ih _ _ _ _ _ _ _ _ _ h hu (by rw [← aS_J c2]; exact hP9) hS9 hL
    | castore  =>
      obtain ⟨hlen, x, i, k, rest, n, rfl, c1, c2, c3, h⟩ := hg
      subst hlen
      refine va_cast hx hb hK hP hD hS k 2 (rW_arr (Nat.lt_of_lt_of_le c1 hnp) c2) rfl c3 hd (fun H9 locs9 hP9 hD9 hS9 => ?_)
      exact ih _ _ _ _ _ _ _ _ _ h hu (by rw [← aS_I c2 (by omega)]; exact hP9) hS9 hL
    | bastore  =>
      obtain ⟨hlen, x, i, k, rest, n, rfl, c1, c2, c3, h⟩ := hg
      subst hlen
      refine va_zast hx hb hK hP hD hS k 3 (rW_arr (Nat.lt_of_lt_of_le c1 hnp) c2) rfl c3 hd (fun H9 locs9 hP9 hD9 hS9 => ?_)
      exact ih _ _ _ _ _ _ _ _ _ h hu (by rw [← aS_I c2 (by omega)]; exact hP9) hS9 hL
    | iaload =>
      obtain ⟨hlen, i, k, rest, v, rfl, hor, h⟩ := hg
      subst hlen
      rcases hor with ⟨c1, nn, c2, c3, rfl⟩ | ⟨rfl, L, xs, c1, c3, rfl⟩
      · exact va_iald hx hb hK hP k 0 (rW_arr (Nat.lt_of_lt_of_le c1 hnp) c2) rfl c3 hd (ih _ _ _ _ _ _ _ _ _ h hu hP hS hL)
      · obtain ⟨h1, h2, h3⟩ := hscr L xs c1
        exact va_sld hx hb h1 h2 h3 hS c3 hd (ih _ _ _ _ _ _ _ _ _ h hu hP hS hL)
    | arraylength =>
      obtain ⟨hlen, k, rest, v, rfl, hor, h⟩ := hg
      subst hlen
      rcases hor with ⟨c1, t, nn, c2, c3, c4⟩ | ⟨rfl, L, xs, c1, rfl⟩
      · have ht : ∃ ty, (rT ca)[t]? = some (ca t, ty) := by
          match t, c3 with
          | 0, _ => exact ⟨_, rfl⟩
          | 1, _ => exact ⟨_, rfl⟩
          | 2, _ => exact ⟨_, rfl⟩
          | 3, _ => exact ⟨_, rfl⟩
          | 4, _ => exact ⟨_, rfl⟩
        obtain ⟨ty, ht⟩ := ht
        exact va_alen hx hb hK hP k t (rW_arr (Nat.lt_of_lt_of_le c1 hnp) c2) ht c4 hd (ih _ _ _ _ _ _ _ _ _ h hu hP hS hL)
      · obtain ⟨h1, h2, h3⟩ := hscr L xs c1
        exact va_slen hx hb h1 h2 h3 hS hd (ih _ _ _ _ _ _ _ _ _ h hu hP hS hL)
    | aastore =>
      obtain ⟨hlen, x, i, k, rest, nn, rfl, c1, c2, c3, c4, c5, h⟩ := hg
      subst hlen
      refine va_astq hx hb hK hP hD hS k 4 x 2 (r := (RX4, TX4, 6)) (rW_arr (Nat.lt_of_lt_of_le c1 hnp) c2) rfl (rW_obj (Nat.lt_of_lt_of_le c4 (np_29 ρ)) c5) rfl c3 hd (fun H9 locs9 hP9 hD9 hS9 => ?_)
      exact ih _ _ _ _ _ _ _ _ _ h hu (by rw [← aS_R c2 c4]; exact hP9) hS9 hL
    | getfield ix =>
      obtain ⟨hlen, k, rest, ci, j, t, rfl, c1, c2, c3, c4, h⟩ := hg
      subst hlen
      obtain ⟨⟨C, T, N⟩, q1, q2, q3⟩ := hM.2.1 _ _ _ c1
      obtain ⟨k1, -, -, -⟩ := hcls ci _ q1
      refine va_get hx hb hts k1 hown hK hP k (rW_obj (Nat.lt_of_lt_of_le c2 hnp) c3) q1 j q2 (hts _ q3) (fun _ h9 => h9) (v := rvv ρ (gv μ k j t)) ?_ hd (ih _ _ _ _ _ _ _ _ _ h hu hP hS hL)
      rw [fvs_get, c4, gv_rv, Nat.zero_add]; rfl
    | putfield ix =>
      obtain ⟨hlen, v, k, rest, ci, j, μ', rfl, c1, c2, c3, c4, h⟩ := hg
      subst hlen
      obtain ⟨⟨C, T, N⟩, q1, q2, q3⟩ := hM.2.1 _ _ _ c1
      obtain ⟨k1, k2, k3, ty, k4, k5⟩ := hcls ci _ q1
      have hlen9 : j < (fvs ρ μ k 0 (ftL ci)).length := by rw [fvs_len, k3]; exact q2
      rcases c4 with ⟨c4, x, rfl, rfl⟩ | ⟨c4, x, rfl, rfl⟩
      · obtain ⟨e1, e2⟩ := (k5 j q2).1 c4
        have hp := k4 j q2
        rw [e1] at hp
        refine va_put hx hb hts k1 ty k4 k2 hown hK hP hD hS k (rW_obj (Nat.lt_of_lt_of_le c2 hnp) c3) q1 j q2 (hts _ q3) (fun _ h9 => h9) e2 hp rfl rfl hlen9 hd (fun H9 locs9 hP9 hD9 hS9 => ?_)
        exact ih _ _ _ _ _ _ _ _ _ h hu (by rw [← fS_I c3 c4]; exact hP9) hS9 hL
      · obtain ⟨e1, e2⟩ := (k5 j q2).2 c4
        have hp := k4 j q2
        rw [e1] at hp
        refine va_put hx hb hts k1 ty k4 k2 hown hK hP hD hS k (rW_obj (Nat.lt_of_lt_of_le c2 hnp) c3) q1 j q2 (hts _ q3) (fun _ h9 => h9) e2 hp rfl rfl hlen9 hd (fun H9 locs9 hP9 hD9 hS9 => ?_)
        exact ih _ _ _ _ _ _ _ _ _ h hu (by rw [← fS_J c3 c4]; exact hP9) hS9 hL
    | ifCond cc off =>
      obtain ⟨hlen, x, rest, tgt, rfl, ht, h⟩ := hg
      subst hlen
      cases cc with
      | eq => exact lv_if_eq hx hb hd ht (fun q => ih _ _ _ _ _ _ _ _ _ (h.1 q) hu hP hS hL) (fun q => ih _ _ _ _ _ _ _ _ _ (h.2 q) hu hP hS hL)
      | ne => exact lv_if_ne hx hb hd ht (fun q => ih _ _ _ _ _ _ _ _ _ (h.1 q) hu hP hS hL) (fun q => ih _ _ _ _ _ _ _ _ _ (h.2 q) hu hP hS hL)
      | lt => exact lv_if_lt hx hb hd ht (fun q => ih _ _ _ _ _ _ _ _ _ (h.1 q) hu hP hS hL) (fun q => ih _ _ _ _ _ _ _ _ _ (h.2 q) hu hP hS hL)
      | ge => exact lv_if_ge hx hb hd ht (fun q => ih _ _ _ _ _ _ _ _ _ (h.1 q) hu hP hS hL) (fun q => ih _ _ _ _ _ _ _ _ _ (h.2 q) hu hP hS hL)
      | gt => exact lv_if_gt hx hb hd ht (fun q => ih _ _ _ _ _ _ _ _ _ (h.1 q) hu hP hS hL) (fun q => ih _ _ _ _ _ _ _ _ _ (h.2 q) hu hP hS hL)
      | le => exact lv_if_le hx hb hd ht (fun q => ih _ _ _ _ _ _ _ _ _ (h.1 q) hu hP hS hL) (fun q => ih _ _ _ _ _ _ _ _ _ (h.2 q) hu hP hS hL)
    | if_icmp cc off =>
      obtain ⟨hlen, x, y, rest, tgt, rfl, ht, h⟩ := hg
      subst hlen
      cases cc with
      | eq => exact lv_icmp_eq hx hb hd ht (fun q => ih _ _ _ _ _ _ _ _ _ (h.1 q) hu hP hS hL) (fun q => ih _ _ _ _ _ _ _ _ _ (h.2 q) hu hP hS hL)
      | ne => exact lv_icmp_ne hx hb hd ht (fun q => ih _ _ _ _ _ _ _ _ _ (h.1 q) hu hP hS hL) (fun q => ih _ _ _ _ _ _ _ _ _ (h.2 q) hu hP hS hL)
      | lt => exact lv_icmp_lt hx hb hd ht (fun q => ih _ _ _ _ _ _ _ _ _ (h.1 q) hu hP hS hL) (fun q => ih _ _ _ _ _ _ _ _ _ (h.2 q) hu hP hS hL)
      | ge => exact lv_icmp_ge hx hb hd ht (fun q => ih _ _ _ _ _ _ _ _ _ (h.1 q) hu hP hS hL) (fun q => ih _ _ _ _ _ _ _ _ _ (h.2 q) hu hP hS hL)
      | gt => exact lv_icmp_gt hx hb hd ht (fun q => ih _ _ _ _ _ _ _ _ _ (h.1 q) hu hP hS hL) (fun q => ih _ _ _ _ _ _ _ _ _ (h.2 q) hu hP hS hL)
      | le => exact lv_icmp_le hx hb hd ht (fun q => ih _ _ _ _ _ _ _ _ _ (h.1 q) hu hP hS hL) (fun q => ih _ _ _ _ _ _ _ _ _ (h.2 q) hu hP hS hL)
    | tableswitch dflt lo9 hi9 offs =>
      obtain ⟨x, rest, rfl, ⟨off, tgt, c1, c2, c3, c4, h⟩ | ⟨tgt, c1, c4, h⟩⟩ := hg
      · exact lv_tableIn hx hb hd c1 c2 c3 c4 (ih _ _ _ _ _ _ _ _ _ h hu hP hS hL)
      · exact lv_tableOut hx hb hd c1 c4 (ih _ _ _ _ _ _ _ _ _ h hu hP hS hL)
    | ireturn =>
      obtain ⟨hlen, x, ty, rfl, c1, c2, q⟩ := hg
      subst hlen
      exact hRet pc (some (.int x)) H locs ls u μ (by omega) (Or.inl ⟨x, ty, rfl, hd, c1, c2⟩) q hP hS
    | lreturn =>
      obtain ⟨hlen, x, rfl, c1, q⟩ := hg
      subst hlen
      exact hRet pc (some (.long x)) H locs ls u μ (by omega) (Or.inr (Or.inl ⟨x, rfl, hd, c1⟩)) q hP hS
    | return_ =>
      obtain ⟨hlen, rfl, c1, q⟩ := hg
      subst hlen
      exact hRet pc none H locs ls u μ (by omega) (Or.inr (Or.inr ⟨rfl, hd, c1⟩)) q hP hS
    | new ix =>
      obtain ⟨E, c1, c2, c3, c4, q⟩ := hg
      exact hThr pc E H locs ls u μ st c1 c2 (by omega) c4 (by obtain ⟨-, l9, hl1, -⟩ := hL; exact hl1.1) q hP hS
    | invokestatic ix =>
      obtain ⟨hlen, ⟨kind, na, cu, cx, Γ⟩, as, rest, r, μ', c1, c2, rfl, c4, c5, c6, hΓ, hck⟩ := hg
      subst hlen
      obtain ⟨y, bytes, maxL, ret, fr', lo', f1, f2, f3, f4, f5⟩ := hM.1 _ _ c1
      dsimp only at c2 c4 c6 hΓ hck f4 f5
      obtain ⟨kr, kx⟩ := back r μ' rest (cst kind r cu) c6 hck
      have hpre := hPRE μ H locs hP hS
      have hcat : 2 * (F0 m pc ls (rvl ρ (as.reverse ++ rest))).monitorRoom + ((rvl ρ rest).map fun v => v.category).sum ≤ 8 := lv_room (by rw [rvl_cat]; exact c5)
      have hlen9 : (rvl ρ as).length = na := by simp [rvl, c4]
      have hroom : c0 + u + cst kind r cu ≤ R.cells ∧ s0 + 6 * u + 6 * cst kind r cu ≤ R.slots := ⟨by omega, by omega⟩
      obtain ⟨hl0, l9, hl1, hl2⟩ := hL
      have hfrm : (rmM fr' lo' (cst kind r cu)).frames + 1 ≤ R.frames ∧ 8 + (maxL + 11) + (rmM fr' lo' (cst kind r cu)).locals ≤ R.locals := ⟨by rw [hRf]; exact f1, by rw [hRl]; exact f2⟩
      have hSCP : ∀ V : State, V.heap = H → s.WarmedH V.vm → SCP M.2.2.2.2.2.2.2.1.2 ρ H.size V := fun V hV1 hW L9 xs9 hs9 => by
        obtain ⟨h1, h2, h3⟩ := hscr L9 xs9 hs9
        subst hV1
        exact ⟨scr_go h1 h2 h3 hW hS, Nat.lt_of_lt_of_le h2 hS.1, fun q => h3 (hsub _ _ hS _ q)⟩
      rcases f5 with ⟨k0, hsc, g1, g2, g3⟩ | ⟨k0, -⟩ | ⟨k0, hsc, g1, g2, g3⟩ | ⟨k0, hh, hsc, g1, g2, g3⟩ | ⟨k0, n2, m2, u0, hG4, g1, g2, g3, g4⟩ | ⟨k0, hsc, g1, g2, g3⟩ | ⟨k0, k28, hsc, g1, g2, g3⟩
      · subst k0
        rw [show cst 0 r cu = rc r cu from if_neg (by decide)] at kr kx hroom hfrm
        have hG : GoodIn TB (.code y bytes maxL ret :: TB) := fun w hw => (List.mem_cons.mp hw).elim (fun q => by rw [q]; exact TB_good _ g1) (fun q => TB_good w q)
        refine call_ok (vx_runS (rest := rvl ρ rest) (nL := nL) (As := rvl ρ as) (Ts := TB) ⟨hx, hb, hml, hown, hts⟩ (hsc ca D ρ as μ r μ' H.size hΓ) ⟨callB_of na hts hG rfl rfl rfl (hts _ f3) (hts _ g2) f4 hfrm, hts _ g3⟩ ⟨blind_of, fun V hV1 hW => ⟨rfl, hpre V hV1 hW⟩⟩ rfl hlen9 hl1.1 (by rw [rvl_app, rvl_rev]) hcat hd hroom) hS (fun q _ h => hsub _ _ hS q h) (hsub _ _ hS) kr kx
      · exact absurd k0 c2
      · subst k0
        rw [show cst 2 r cu = rc r cu from if_neg (by decide)] at kr kx hroom hfrm
        have hG : GoodIn TB (.code y bytes maxL ret :: TB) := fun w hw => (List.mem_cons.mp hw).elim (fun q => by rw [q]; exact TB_good _ g1) (fun q => TB_good w q)
        refine call_ok (vx_runSN (rest := rvl ρ rest) (nL := nL) (As := rvl ρ as) (Ts := TB) ⟨hx, hb, hml, hown, hts⟩ (hsc ca D ρ as μ r μ' H.size hΓ) ⟨va_cnB na hts hG rfl rfl rfl (hV.2.2.1 _ g2) (hts _ f3) f4 hfrm, hts _ g3, trivial⟩ ⟨blind_of, fun V hV1 hW => ⟨rfl, hpre V hV1 hW⟩⟩ rfl hlen9 hl1.1 (by rw [rvl_app, rvl_rev]) hcat hd hroom) hS (fun q _ h => hsub _ _ hS q h) (hsub _ _ hS) kr kx
      · subst k0
        rw [show cst 3 r cu = cu from if_pos (by decide)] at kr kx hroom hfrm
        have hG : GoodIn TB (.codeWith y bytes maxL ret hh :: TB) := fun w hw => (List.mem_cons.mp hw).elim (fun q => by rw [q]; exact TB_good _ g1) (fun q => TB_good w q)
        refine call_ok (vx_runSX (hh := hh) (bytes := bytes) (maxL := maxL) (ret := ret) (rest := rvl ρ rest) (nL := nL) (As := rvl ρ as) (Ts := TB) ⟨hx, hb, hml, hown, hts⟩ (hsc ca D ρ as μ r μ' H.size hΓ) ⟨⟨rfl, rfl, hfrm.1, hfrm.2, pay_in hts hG, List.mem_cons_self⟩, hts _ g1, hts _ f3, ⟨f4.1, f4.2.1⟩, fun sig h => by have h2 := f4.2.2; rw [h] at h2; exact (Option.some.inj h2).symm, hts _ g2, hts _ g3⟩ ⟨blind_of, fun V hV1 hW => ⟨rfl, hpre V hV1 hW⟩⟩ rfl hlen9 hl1.1 (by rw [rvl_app, rvl_rev]) hcat hd hroom) hS (fun q _ h => hsub _ _ hS q h) (hsub _ _ hS) kr kx
      · subst k0
        have e0 : ∀ r0 : Res, cst 4 r0 0 = 0 := fun r0 => by cases r0 <;> rfl
        subst u0
        rw [e0, Nat.sub_zero] at hck
        rw [hG4] at hΓ
        obtain ⟨a0, a1, rfl, hF⟩ := hΓ
        cases hF
        have h9 := ih _ _ _ _ _ H locs ls u hck (by omega) hP hS ⟨hl0, l9, hl1, hl2⟩
        exact va_mmin (rest := rvl ρ rest) hx hb (hml.trans hl1.1.symm) hown (hts _ g1) (hts _ g2) (hts _ g3) (hts _ g4) (by rw [hRf]; omega) (by rw [rvl_cat, hRl]; have : (rest.map fun v => v.category).sum ≤ 8 := c5; omega) (by omega) (by omega) hd h9
      · subst k0
        rw [show cst 5 r cu = rc r cu from if_neg (by decide)] at kr kx hroom hfrm
        have hG : GoodIn TB (.code y bytes maxL ret :: TB) := fun w hw => (List.mem_cons.mp hw).elim (fun q => by rw [q]; exact TB_good _ g1) (fun q => TB_good w q)
        refine call_ok (vx_runS (rest := rvl ρ rest) (nL := nL) (As := rvl ρ as) (Ts := TB) ⟨hx, hb, hml, hown, hts⟩ (hsc ca D ρ as μ r μ' H.size hΓ) ⟨callB_of na hts hG rfl rfl rfl (hts _ f3) (hts _ g2) f4 hfrm, hts _ g3⟩ ⟨blind_ofS, fun V hV1 hW => ⟨rfl, hpre V hV1 hW, hSCP V hV1 hW⟩⟩ rfl hlen9 hl1.1 (by rw [rvl_app, rvl_rev]) hcat hd hroom) hS (fun q _ h => hsub _ _ hS q h) (hsub _ _ hS) kr kx
      · subst k0
        rw [show cst 6 r cu = cu from if_pos (by decide)] at kr kx hroom hfrm
        have hG : GoodIn TB (.code y bytes maxL ret :: TB) := fun w hw => (List.mem_cons.mp hw).elim (fun q => by rw [q]; exact TB_good _ g1) (fun q => TB_good w q)
        refine call_ok (vx_runS (rest := rvl ρ rest) (nL := nL) (As := rvl ρ as) (Ts := TB) ⟨hx, hb, hml, hown, hts⟩ (hsc ca D ρ as μ r μ' H.size (hnf k28) hΓ) ⟨callB_of na hts hG rfl rfl rfl (hts _ f3) (hts _ g2) f4 hfrm, hts _ g3⟩ ⟨blind_of, fun V hV1 hW => ⟨rfl, hpre V hV1 hW⟩⟩ rfl hlen9 hl1.1 (by rw [rvl_app, rvl_rev]) hcat hd hroom) hS (fun q _ h => hsub _ _ hS q h) (hsub _ _ hS) kr kx
    | invokevirtual ix =>
      obtain ⟨hlen, ⟨kind, na, cu, cx, Γ⟩, k, as, rest, r, μ', c1, c2, rfl, c4, c7, c8, c5, c6, hΓ, hck⟩ := hg
      subst hlen
      obtain ⟨y, bytes, maxL, ret, fr', lo', f1, f2, f3, f4, f5⟩ := hM.1 _ _ c1
      dsimp only at c2 c4 c6 c8 hΓ hck f4 f5
      obtain ⟨kr, kx⟩ := back r μ' rest (cst kind r cu) c6 hck
      have hpre := hPRE μ H locs hP hS
      have hcat : 2 * (F0 m pc ls (rvl ρ (as.reverse ++ .ref k :: rest))).monitorRoom + ((rvl ρ rest).map fun v => v.category).sum ≤ 8 := lv_room (by rw [rvl_cat]; exact c5)
      have hlen9 : (rvl ρ as).length = na := by simp [rvl, c4]
      have hroom : c0 + u + cst kind r cu ≤ R.cells ∧ s0 + 6 * u + 6 * cst kind r cu ≤ R.slots := ⟨by omega, by omega⟩
      obtain ⟨hl0, l9, hl1, hl2⟩ := hL
      have hfrm : (rmM fr' lo' (cst kind r cu)).frames + 1 ≤ R.frames ∧ 8 + (maxL + 11) + (rmM fr' lo' (cst kind r cu)).locals ≤ R.locals := ⟨by rw [hRf]; exact f1, by rw [hRl]; exact f2⟩
      rcases f5 with ⟨k0, -⟩ | ⟨k0, hsc, g1, g2, g3, q, g4, g5⟩ | ⟨k0, -⟩ | ⟨k0, -⟩ | ⟨k0, -⟩ | ⟨k0, -⟩ | ⟨k0, -⟩
      · omega
      · subst k0
        rw [show cst 1 r cu = rc r cu from if_neg (by decide)] at kr kx hroom hfrm
        have hG : GoodIn TB (.code y bytes maxL ret :: TB) := fun w hw => (List.mem_cons.mp hw).elim (fun q => by rw [q]; exact TB_good _ g1) (fun q => TB_good w q)
        refine call_ok (vx_runV (rest := rvl ρ rest) (nL := nL) (C := q.1) (b := ρ k) (As := rvl ρ as) (Ts := TB) ⟨hx, hb, hml, hown, hts⟩ (hsc ca D ρ (.ref k :: as) μ r μ' H.size hΓ) ⟨callB_of na hts hG rfl rfl rfl (hts _ f3) (hts _ g2) f4 hfrm, hts _ g3, hts _ g5⟩ ⟨blind_of, va_recv hK hP g4 (rW_obj (Nat.lt_of_lt_of_le c7 hnp) c8), fun V hV1 hW => ⟨rfl, hpre V hV1 hW⟩⟩ rfl hlen9 hl1.1 (by rw [rvl_app, rvl_rev]; rfl) hcat hd hroom) hS (fun q _ h => hsub _ _ hS q h) (hsub _ _ hS) kr kx
      · omega
      · omega
      · omega
      · omega
      · omega
    | _ => exact hg.elim
end OK

