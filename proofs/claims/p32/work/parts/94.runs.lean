/-! THE CLAIM OUT OF ONE WALK OF THE LAW'S BODY. Your part is whole_start (and what it stands on); all else here is the same for every law, but numbers. -/
def R_law : String := "CountedCellsLaw"
def lw_P (b : Addr) (xs : List Int32) (args : Array Value) (s : State) : Prop := args = #[.ref b] ∧ s.IntsAt b xs ∧ xs.length ≤ 260 ∧ (Jvm.Cond.and given_1 narrow_1).before args s = true
def lw_Q (_ : Array Value) (s : State) (o : Outcome) (t : State) : Prop := o = .returned (some (.int 1)) ∧ Framed s o t [] 647118 7160269
def lw_Z (below : List Frame) (a : Array Value) (s : State) : State → Prop := fun t => ∃ o, t.status = .running ∧ Ended t below o ∧ lw_Q a s o t
/-- the law's own end, with 1 on the stack, nothing written that was there before, its room as the claim has it -/
theorem lw_ret {p : Program} {l : Launch} {e : Env} {s : State} {m : MethodId} {below : List Frame} {meth : Method} {c : Code} {b : Nat} (hx : p.tables.exec = Jvm.exec) (hb : c.code = code) (hr : meth.sig.returnType = ret) (hlocks : meth.locks = false) {pc : Nat} {H : Heap} {ls : Array Slot} (hdg : decode code pc = .ok (.ireturn, 1)) : W p l e room_1 s m #[Value.ref b] below meth c H [] 647118 7160269 (lw_Z below #[Value.ref b] s) (F0 m pc ls [.int 1]) := by
  intro T hT X
  obtain ⟨fs, hret, hrun, hended, hW, hframe⟩ := X.leave (v := some (.int 1)) (hlocks := hlocks) (fun h => by rw [hr] at h; cases h)
  have hmeth' : T.vm.method? m = some meth := X.method'
  refine ⟨T.setFrames fs, ?_, .returned (some (.int 1)), hrun, hended, rfl, ⟨_, rfl⟩, hW, hframe⟩
  jvm_step X.here [X.here.top, hx, hb, hdg, hmeth', hr, ret, narrow_b1]
  (try refine ⟨rfl, ?_⟩); (try refine ⟨rfl, ?_⟩)
  first | (intro acts; rw [hret _ acts rfl rfl rfl]) | rw [hret _ _ rfl rfl rfl]
  exact Steps.refl _
/-- what holds at the law's entry: the machine, the code, the tables' words (any of lw_tbl by 'hts w (by decide +kernel)'), the script of L ints xs at the cell b, what the Statement gives of the start (any of its parts by flat_of_before) -/
def lw_At (p : Program) (s : State) (m : MethodId) (meth : Method) (c : Code) (b L : Nat) (xs : Nat → Int32) : Prop :=
  p.tables.exec = Jvm.exec ∧ c.code = code ∧ meth.sig.returnType = ret ∧ c.maxLocals = 12 ∧ s.vm.findClass R_law = some m.cls ∧ (∀ w ∈ lw_tbl, w.before #[Value.ref b] s = true) ∧ va_X b L xs s s.heap ∧ b < s.heap.size ∧ meth.locks = false ∧ (Jvm.Cond.and given_1 narrow_1).before #[Value.ref b] s = true
set_option maxHeartbeats 4000000 in
set_option maxRecDepth 100000 in
theorem law_runs {p : Program} {l : Launch} {e : Env} {s : State} {m : MethodId} {below : List Frame} {meth : Method} {c : Code} {b L : Nat} {xs : Nat → Int32} (hL : L ≤ 260) (C0 : lw_At p s m meth c b L xs) (hstk : l.stackTraces = false) {D : va_G} {ca : Nat → ClassId} {ρ : Nat → Nat} {H : Heap} {locs : List Loc} {ls : Array Slot} {x0 : Nat}
    (hscr : ρ SCR = b) (h0 : ρ 0 = x0) (h29 : np ρ = 29) (hK : va_K D vwCl (rT ca) s) (hP : va_P D vwCl (rW ca ρ M0) H) (hD : va_D (fun q : Nat => s.heap.size ≤ q) (rW ca ρ M0)) (hS : va_S (fun q : Nat => s.heap.size ≤ q) s.heap H locs)
    (hl : lv_has ls 12 [(1, .ref x0), (0, .ref b)]) : W p l e room_1 s m #[Value.ref b] below meth c H locs 29 256 (lw_Z below #[Value.ref b] s) (F0 m 8 ls []) := by
  obtain ⟨hx, hb, hr, hml, hown, hts, hX, hbl, hlocks, hgv⟩ := id C0
  have hts9 : ∀ w ∈ TB, w.before #[Value.ref b] s = true := fun w hw => hts w (List.mem_filter.mp hw).1
  have hge : ∀ k, k < np ρ → s.heap.size ≤ ρ k := fun k hk => hD.2 k _ (rW_get ca ρ M0 hk)
  have hDD : DD ρ := fun i j hi hj h => hD.1 i j _ _ (rW_get ca ρ M0 hi) (rW_get ca ρ M0 hj) h
  have hnot : ∀ a : Nat, a < s.heap.size → ¬ AA ρ s.heap.size a := fun a ha q => by
    rcases q with ⟨k, hk, rfl⟩ | q
    · exact absurd (hge k hk) (Nat.not_le.mpr ha)
    · exact absurd q (Nat.not_le.mpr ha)
  have hS9 : va_S (AA ρ s.heap.size) s.heap H locs := ⟨hS.1, fun q h1 h2 => hS.2.1 q h1 (Nat.not_le.mpr h1), fun z hz => Or.inr (hS.2.2 z hz)⟩
  have hV : VXF (AA ρ s.heap.size) s := vxf0 (hK.1 5 _ rfl).2.1 hts hgv hnot
  obtain ⟨z, hz⟩ := law_true (xs := xs) hL c00 rfl rfl
  obtain ⟨n, hgo⟩ := b_L_law L xs M0 hz
  have key := go_ok (p := p) (l := l) (e := e) (R := room_1) (s := s) (m := m) (args := #[Value.ref b]) (below := below) (meth := meth) (c := c) (ca := ca) (D := D) (ρ := ρ) (own := yL_law.cls) (nL := 12) (U := 2 * BIG + 77) (fr := 14) (lo := 586) (c0 := 29) (s0 := 256) (sz := s.heap.size) (M := mL_law L xs) (Q := Qe (.inl (some (.int (1 : Int32)))) z)
    (QQ := lw_Z below #[Value.ref b] s) cls_ok hx hb hml hown hts9 hK hDD rfl hV (ok_L_law l hstk L xs) rfl rfl (by rw [show BIG = 4096 from rfl]; decide) (by rw [show BIG = 4096 from rfl]; decide) (fun pc E h hh => nomatch hh)
    (by rw [h29]; show 129 % 100 ≤ 29; decide) (fun _ => h29)
    (fun L9 xs9 hh => by cases hh; rw [hscr]; exact ⟨hX, hbl, hnot b hbl⟩)
    (fun pc v H9 locs9 ls9 u9 μ9 hu hrt hq hP9 hS9 => by
      obtain ⟨hv, -⟩ := hq
      have hv : v = some (.int (1 : Int32)) := by simpa using hv
      subst hv
      refine va_forget (fun q hq => ?_) ?_
      · rcases hS9.2.2 q hq with ⟨k, hk, e9⟩ | h
        · rw [e9]; exact hge k hk
        · exact h
      refine W.widen (k := 647118) (n := 7160269) (by rw [show BIG = 4096 from rfl] at hu; omega) (by rw [show BIG = 4096 from rfl] at hu; omega) ?_
      rcases hrt with ⟨x, ty, e1, hd, -⟩ | ⟨x, e1, -⟩ | ⟨e1, -⟩
      · exact lw_ret hx hb hr hlocks hd
      · cases e1
      · cases e1)
    (fun pc E q9 ce H9 locs9 ls9 u9 μ9 rest hu _ hq hP9 hS9 hce hcv hcl => nomatch hq.1)
    (fun pc E H9 locs9 ls9 u9 μ9 st hlk hcat hu _ hsz9 hq hP9 hS9 => nomatch hq.1)
  have h9 := key n 8 _ [] M0 (2 * BIG + 77) H locs ls 0 hgo (by omega) hP hS9 ⟨rfl, _, hl, fun j v hv => ?_⟩
  · exact h9
  · match j, hv with
    | 0, hv => cases hv; show (0, Value.ref (ρ SCR)) ∈ _; rw [hscr]; simp
    | 1, hv => cases hv; show (1, Value.ref (ρ 0)) ∈ _; rw [h0]; simp
    | 2, hv => nomatch hv
    | 3, hv => nomatch hv
    | 4, hv => nomatch hv
    | 5, hv => nomatch hv
    | 6, hv => nomatch hv
    | 7, hv => nomatch hv
    | 8, hv => nomatch hv
    | 9, hv => nomatch hv
    | 10, hv => nomatch hv
    | 11, hv => nomatch hv
    | j + 12, hv => nomatch hv
