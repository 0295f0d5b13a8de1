theorem t_1 {w : Cond} (i : Nat) (h : tables_1_1[i]? = some w) (g : goodWord w = true) : w ∈ TB := TB_in (List.mem_append.mpr (Or.inr (List.mem_append.mpr (Or.inl (List.mem_of_getElem? h))))) g
theorem t_2 {w : Cond} (i : Nat) (h : tables_1_2[i]? = some w) (g : goodWord w = true) : w ∈ TB := TB_in (List.mem_append.mpr (Or.inr (List.mem_append.mpr (Or.inr (List.mem_append.mpr (Or.inl (List.mem_of_getElem? h))))))) g
theorem t_3 {w : Cond} (i : Nat) (h : tables_1_3[i]? = some w) (g : goodWord w = true) : w ∈ TB := TB_in (List.mem_append.mpr (Or.inr (List.mem_append.mpr (Or.inr (List.mem_append.mpr (Or.inr (List.mem_append.mpr (Or.inl (List.mem_of_getElem? h))))))))) g
theorem t_4 {w : Cond} (i : Nat) (h : tables_1_4[i]? = some w) (g : goodWord w = true) : w ∈ TB := TB_in (List.mem_append.mpr (Or.inr (List.mem_append.mpr (Or.inr (List.mem_append.mpr (Or.inr (List.mem_append.mpr (Or.inr (List.mem_of_getElem? h))))))))) g
theorem t_p {q : MethodName × Nat} (i : Nat) (h : lw_privs[i]? = some q) : Cond.selects q.1.cls q.1 q.1 ∈ TB := TB_in (List.mem_append.mpr (Or.inl (List.mem_map.mpr ⟨q, List.mem_of_getElem? h, rfl⟩))) rfl
abbrev Out : Type := Option (Res × Mem)
def ck (c : Prop) [Decidable c] (k : Out) : Out := if c then k else none
def lt {α : Type} (v : α) (k : α → Out) : Out := k v
def cI (r : Out) (k : Int32 → Mem → Out) : Out := match r with
  | some (.inl (some (.int x)), μ) => k x μ
  | some (.inr E, μ) => some (.inr E, μ)
  | _ => none
def cJ (r : Out) (k : Int64 → Mem → Out) : Out := match r with
  | some (.inl (some (.long x)), μ) => k x μ
  | some (.inr E, μ) => some (.inr E, μ)
  | _ => none
def cV (r : Out) (k : Mem → Out) : Out := match r with
  | some (.inl none, μ) => k μ
  | some (.inr E, μ) => some (.inr E, μ)
  | _ => none
abbrev rI (x : Int32) (μ : Mem) : Out := some (.inl (some (.int x)), μ)
abbrev rJ (x : Int64) (μ : Mem) : Out := some (.inl (some (.long x)), μ)
abbrev rV (μ : Mem) : Out := some (.inl none, μ)
abbrev rX (E : String) (μ : Mem) : Out := some (.inr E, μ)
theorem ck_eq {c : Prop} [Decidable c] {k : Out} {z : Res × Mem} (h : ck c k = some z) : c ∧ k = some z := by
  unfold ck at h; split at h
  · exact ⟨by assumption, h⟩
  · cases h
theorem lt_eq {α : Type} {v : α} {k : α → Out} {z : Res × Mem} (h : lt v k = some z) : ∃ w, w = v ∧ k w = some z := ⟨v, rfl, h⟩
theorem cI_eq {r : Out} {k : Int32 → Mem → Out} {q : Res} {μ' : Mem} (h : cI r k = some (q, μ')) : (∃ x μ1, r = rI x μ1 ∧ k x μ1 = some (q, μ')) ∨ (∃ E, r = rX E μ' ∧ q = .inr E) := by
  unfold cI at h; split at h
  · exact Or.inl ⟨_, _, rfl, h⟩
  · cases h; exact Or.inr ⟨_, rfl, rfl⟩
  · cases h
theorem cJ_eq {r : Out} {k : Int64 → Mem → Out} {q : Res} {μ' : Mem} (h : cJ r k = some (q, μ')) : (∃ x μ1, r = rJ x μ1 ∧ k x μ1 = some (q, μ')) ∨ (∃ E, r = rX E μ' ∧ q = .inr E) := by
  unfold cJ at h; split at h
  · exact Or.inl ⟨_, _, rfl, h⟩
  · cases h; exact Or.inr ⟨_, rfl, rfl⟩
  · cases h
theorem cV_eq {r : Out} {k : Mem → Out} {q : Res} {μ' : Mem} (h : cV r k = some (q, μ')) : (∃ μ1, r = rV μ1 ∧ k μ1 = some (q, μ')) ∨ (∃ E, r = rX E μ' ∧ q = .inr E) := by
  unfold cV at h; split at h
  · exact Or.inl ⟨_, rfl, h⟩
  · cases h; exact Or.inr ⟨_, rfl, rfl⟩
  · cases h
theorem cI_I (x : Int32) (μ : Mem) (k : Int32 → Mem → Out) : cI (rI x μ) k = k x μ := rfl
theorem cJ_J (x : Int64) (μ : Mem) (k : Int64 → Mem → Out) : cJ (rJ x μ) k = k x μ := rfl
theorem cV_V (μ : Mem) (k : Mem → Out) : cV (rV μ) k = k μ := rfl
theorem cI_X (E : String) (μ : Mem) (k : Int32 → Mem → Out) : cI (rX E μ) k = rX E μ := rfl
theorem cJ_X (E : String) (μ : Mem) (k : Int64 → Mem → Out) : cJ (rX E μ) k = rX E μ := rfl
theorem cV_X (E : String) (μ : Mem) (k : Mem → Out) : cV (rX E μ) k = rX E μ := rfl
theorem ck_t {c : Prop} [Decidable c] (h : c) (k : Out) : ck c k = k := if_pos h
def BIG : Nat := 4096
abbrev okO (k ci : Nat) : Prop := k < NP ∧ sh k = .inl ci
abbrev inb (i : Int32) (n : Nat) : Prop := ¬ (i < 0 ∨ n ≤ i.toNatClampNeg)
abbrev aLen (k : Nat) : Nat := match sh k with
  | .inr (_, n) => n
  | _ => 0
abbrev isA (k t : Nat) : Prop := k < NP ∧ sh k = .inr (t, aLen k)
abbrev nz (x : Int32) : Prop := narrow .boolean (.int x) = .int x
abbrev nc (x : Int32) : Prop := narrow .char (.int x) = .int x
theorem nil_all {α : Type} {P : α → Prop} : ∀ q ∈ ([] : List α), P q := fun _ h => absurd h List.not_mem_nil
theorem lk_all {α : Type} {L : List (Nat × α)} {P : Nat → α → Prop} (h : ∀ q ∈ L, P q.1 q.2) : ∀ i v, L.lookup i = some v → P i v := by
  induction L with
  | nil => intro i v hv; cases hv
  | cons a t ih =>
    intro i v hv
    obtain ⟨j, x⟩ := a
    simp only [List.lookup_cons] at hv
    split at hv
    · rename_i he
      cases hv
      have : i = j := by simpa using he
      subst this
      exact h (i, v) List.mem_cons_self
    · exact ih (fun q hq => h q (List.mem_cons_of_mem _ hq)) i v hv
section LSteps
variable {M : MI} {Q : Res → Mem → Prop} {pc : Nat} {lv : LV} {st rest : List Value} {μ : Mem} {b : Nat}
theorem e_iincL (i : Nat) (v : Int32) {k : Int} {x : Int32} (hd : decode M.1 pc = .ok (.iinc i k, 3)) (c1 : lv[i]? = some (some (.int x))) (c2 : Int32.ofInt k = v) (kk : G M Q (pc + 3) (ls1 lv i (.int (x + v))) st μ b) : G M Q pc lv st μ b := by
  subst c2
  exact e_iinc hd c1 kk
theorem e_istoreL (lv' : LV) {i : Nat} {x : Int32} (hd : decode M.1 pc = .ok (.istore i, 2)) (c1 : i < lv.length) (c2 : ls1 lv i (.int x) = lv') (kk : G M Q (pc + 2) lv' rest μ b) : G M Q pc lv (.int x :: rest) μ b := by
  subst c2; exact e_istore hd c1 kk
theorem e_istore_nL (lv' : LV) {i : Fin 4} {x : Int32} (hd : decode M.1 pc = .ok (.istore_n i, 1)) (c1 : i.val < lv.length) (c2 : ls1 lv i.val (.int x) = lv') (kk : G M Q (pc + 1) lv' rest μ b) : G M Q pc lv (.int x :: rest) μ b := by
  subst c2; exact e_istore_n hd c1 kk
theorem e_lstoreL (lv' : LV) {i : Nat} {x : Int64} (hd : decode M.1 pc = .ok (.lstore i, 2)) (c1 : i + 1 < lv.length) (c2 : ls2 lv i (.long x) = lv') (kk : G M Q (pc + 2) lv' rest μ b) : G M Q pc lv (.long x :: rest) μ b := by
  subst c2; exact e_lstore hd c1 kk
theorem e_lstore_nL (lv' : LV) {i : Fin 4} {x : Int64} (hd : decode M.1 pc = .ok (.lstore_n i, 1)) (c1 : i.val + 1 < lv.length) (c2 : ls2 lv i.val (.long x) = lv') (kk : G M Q (pc + 1) lv' rest μ b) : G M Q pc lv (.long x :: rest) μ b := by
  subst c2; exact e_lstore_n hd c1 kk
theorem e_astoreL (lv' : LV) {i x : Nat} (hd : decode M.1 pc = .ok (.astore i, 2)) (c1 : i < lv.length) (c2 : ls1 lv i (.ref x) = lv') (kk : G M Q (pc + 2) lv' rest μ b) : G M Q pc lv (.ref x :: rest) μ b := by
  subst c2; exact e_astore hd c1 kk
theorem e_astore_nL (lv' : LV) {i : Fin 4} {x : Nat} (hd : decode M.1 pc = .ok (.astore_n i, 1)) (c1 : i.val < lv.length) (c2 : ls1 lv i.val (.ref x) = lv') (kk : G M Q (pc + 1) lv' rest μ b) : G M Q pc lv (.ref x :: rest) μ b := by
  subst c2; exact e_astore_n hd c1 kk
theorem e_iincN (i : Nat) (v : Int32) {k : Int} {x : Int32} (hd : decode M.1 pc = .ok (.iinc i k, 3)) (c1 : lv[i]? = some (some (.int x))) (c2 : Int32.ofInt k = v) {f : Int32 → Out} {z : Res × Mem} (h : lt (x + v) f = some z) (lv' : Int32 → LV) (c3 : ∀ y, ls1 lv i (.int y) = lv' y) (kk : ∀ y, y = x + v → f y = some z → G M Q (pc + 3) (lv' y) st μ b) : G M Q pc lv st μ b := by
  subst c2
  have h2 := kk _ rfl h
  rw [← c3] at h2
  exact e_iinc hd c1 h2
theorem e_ialoadL (v : Int32) {i : Int32} {k n : Nat} (hd : decode M.1 pc = .ok (.iaload, 1)) (c1 : k < mNP M) (c2 : sh k = .inr (0, n)) (c3 : inb i n) (c4 : μ.1 k i.toNatClampNeg = v) (kk : G M Q (pc + 1) lv (.int v :: rest) μ b) : G M Q pc lv (.int i :: .ref k :: rest) μ b := by
  subst c4; exact e_iaload hd c1 c2 c3 kk
theorem e_VH {ix k hpc i : Nat} {kd na cu cx : Nat} {Γ : Gam} {E : String} {μ' : Mem} (as rest : List Value) (lv' : LV) {pc' : Nat} (hd : decode M.1 pc = .ok (.invokevirtual ix, 3)) (c1 : (mCalls M).lookup ix = some (kd, na, cu, cx, Γ)) (c2 : kd = 1) (c3 : st = as.reverse ++ .ref k :: rest) (c4 : as.length = na) (c7 : k < mNP M ∧ sh k = .inl cx) (c5 : cats rest ≤ 8) (c6 : cu ≤ b) (hG : Γ (.ref k :: as) μ (.inr E) μ') (hh : (mHnd M).lookup (pc, E) = some (hpc, i)) (hi : i < lv.length) (hd9 : (decode M.1 hpc = .ok (.astore i, 2) ∧ pc' = hpc + 2) ∨ (∃ k4 : Fin 4, k4.val = i ∧ decode M.1 hpc = .ok (.astore_n k4, 1) ∧ pc' = hpc + 1)) (hl : ls0 lv i = lv') (kk : G M Q pc' lv' [] μ' (b - cu)) : G M Q pc lv st μ b := by
  subst hl
  have e0 : cst kd (.inr E) cu = cu := by subst c2; rfl
  refine e_of hd kk (fun m h => ⟨rfl, (kd, na, cu, cx, Γ), k, as, rest, .inr E, μ', c1, c2, c3, c4, c7.1, c7.2, (by show cats rest ≤ 8; exact c5), (by show cst kd (.inr E) cu ≤ b; rw [e0]; exact c6), hG, ?_⟩)
  show CK M Q _ _ _ _ _ (b - cst kd (.inr E) cu) _
  rw [e0]
  simp only [CK]
  rw [hh]
  rcases hd9 with ⟨h1, rfl⟩ | ⟨k4, h0, h1, rfl⟩
  · exact ⟨hi, Or.inl ⟨h1, h⟩⟩
  · exact ⟨hi, Or.inr ⟨k4, h0, h1, h⟩⟩
def cIH (r : Out) (hx : String → Mem → Out) (k : Int32 → Mem → Out) : Out := match r with
  | some (.inl (some (.int x)), μ) => k x μ
  | some (.inr E, μ) => hx E μ
  | _ => none
theorem cIH_go {X : Prop} {r : Out} {hx : String → Mem → Out} {k : Int32 → Mem → Out} {z : Res × Mem} (h : cIH r hx k = some z) (h1 : ∀ E μ1, r = rX E μ1 → hx E μ1 = some z → X) (h2 : ∀ x μ1, r = rI x μ1 → k x μ1 = some z → X) : X := by
  unfold cIH at h; split at h
  · exact h2 _ _ rfl h
  · exact h1 _ _ rfl h
  · cases h
theorem cIH_I (x : Int32) (μ : Mem) (hx : String → Mem → Out) (k : Int32 → Mem → Out) : cIH (rI x μ) hx k = k x μ := rfl
theorem cIH_X (E : String) (μ : Mem) (hx : String → Mem → Out) (k : Int32 → Mem → Out) : cIH (rX E μ) hx k = hx E μ := rfl
theorem lk_mem {α β : Type} [BEq α] [LawfulBEq α] {L : List (α × β)} {k : α} {v : β} (h : L.lookup k = some v) : (k, v) ∈ L := by
  induction L with
  | nil => cases h
  | cons a t ih =>
    obtain ⟨j, x⟩ := a
    simp only [List.lookup_cons] at h
    split at h
    · rename_i he
      cases h
      have : k = j := by simpa using he
      subst this
      exact List.mem_cons_self
    · exact List.mem_cons_of_mem _ (ih h)
theorem hbx {E : String} {r : Res} {μ1 μ2 : Mem} {u k b : Nat} (h : some ((.inr E : Res), μ1) = some (r, μ2)) (hb : rc r u ≤ b) (hk : k ≤ u) : k ≤ b := by cases h; exact Nat.le_trans hk hb
theorem hbr {E : String} {r : Res} {u k b : Nat} (h : r = .inr E) (hb : rc r u ≤ b) (hk : k ≤ u) : k ≤ b := by subst h; exact Nat.le_trans hk hb
theorem ret_eq {x r : Res} {μ1 μ2 : Mem} (h : some (x, μ1) = some (r, μ2)) : Qe r μ2 x μ1 := by cases h; exact ⟨rfl, rfl⟩
theorem cI_go {X : Prop} {r : Out} {k : Int32 → Mem → Out} {q : Res} {μ' : Mem} (h : cI r k = some (q, μ')) (hx : ∀ E, r = rX E μ' → q = .inr E → X) (hr : ∀ x μ1, r = rI x μ1 → k x μ1 = some (q, μ') → X) : X := (cI_eq h).elim (fun ⟨x, m, a, b⟩ => hr x m a b) (fun ⟨E, a, b⟩ => hx E a b)
theorem cJ_go {X : Prop} {r : Out} {k : Int64 → Mem → Out} {q : Res} {μ' : Mem} (h : cJ r k = some (q, μ')) (hx : ∀ E, r = rX E μ' → q = .inr E → X) (hr : ∀ x μ1, r = rJ x μ1 → k x μ1 = some (q, μ') → X) : X := (cJ_eq h).elim (fun ⟨x, m, a, b⟩ => hr x m a b) (fun ⟨E, a, b⟩ => hx E a b)
theorem cV_go {X : Prop} {r : Out} {k : Mem → Out} {q : Res} {μ' : Mem} (h : cV r k = some (q, μ')) (hx : ∀ E, r = rX E μ' → q = .inr E → X) (hr : ∀ μ1, r = rV μ1 → k μ1 = some (q, μ') → X) : X := (cV_eq h).elim (fun ⟨m, a, b⟩ => hr m a b) (fun ⟨E, a, b⟩ => hx E a b)
theorem e_SI {ix : Nat} {kd na cu cx : Nat} {Γ : Gam} {x : Int32} {μ' : Mem} (as rest : List Value) (hd : decode M.1 pc = .ok (.invokestatic ix, 3)) (c1 : (mCalls M).lookup ix = some (kd, na, cu, cx, Γ)) (c2 : ¬ kd = 1 ∧ ¬ (kd = 3 ∨ kd = 6)) (c3 : st = as.reverse ++ rest) (c4 : as.length = na) (c5 : cats rest ≤ 8) (hG : Γ as μ (.inl (some (.int x))) μ') (k : G M Q (pc + 3) lv (.int x :: rest) μ' b) : G M Q pc lv st μ b := by
  have e0 : cst kd (.inl (some (.int x))) cu = 0 := if_neg c2.2
  exact e_callS as hd c1 c2.1 c3 c4 c5 (by show cst kd (.inl (some (.int x))) cu ≤ b; rw [e0]; omega) hG (by show G M Q _ _ _ _ (b - cst kd (.inl (some (.int x))) cu); rw [e0]; exact k)
theorem e_CI {ix : Nat} {kd na cu cx : Nat} {Γ : Gam} {x : Int32} {μ' : Mem} (as rest : List Value) (hd : decode M.1 pc = .ok (.invokestatic ix, 3)) (c1 : (mCalls M).lookup ix = some (kd, na, cu, cx, Γ)) (c2 : kd = 3 ∨ kd = 6) (c3 : st = as.reverse ++ rest) (c4 : as.length = na) (c5 : cats rest ≤ 8) (c6 : cu ≤ b) (hG : Γ as μ (.inl (some (.int x))) μ') (k : G M Q (pc + 3) lv (.int x :: rest) μ' (b - cu)) : G M Q pc lv st μ b := by
  have e0 : cst kd (.inl (some (.int x))) cu = cu := if_pos c2
  exact e_callS as hd c1 (show ¬ kd = 1 by omega) c3 c4 c5 (by show cst kd (.inl (some (.int x))) cu ≤ b; rw [e0]; exact c6) hG (by show G M Q _ _ _ _ (b - cst kd (.inl (some (.int x))) cu); rw [e0]; exact k)
theorem e_SJ {ix : Nat} {kd na cu cx : Nat} {Γ : Gam} {x : Int64} {μ' : Mem} (as rest : List Value) (hd : decode M.1 pc = .ok (.invokestatic ix, 3)) (c1 : (mCalls M).lookup ix = some (kd, na, cu, cx, Γ)) (c2 : ¬ kd = 1 ∧ ¬ (kd = 3 ∨ kd = 6)) (c3 : st = as.reverse ++ rest) (c4 : as.length = na) (c5 : cats rest ≤ 8) (hG : Γ as μ (.inl (some (.long x))) μ') (k : G M Q (pc + 3) lv (.long x :: rest) μ' b) : G M Q pc lv st μ b := by
  have e0 : cst kd (.inl (some (.long x))) cu = 0 := if_neg c2.2
  exact e_callS as hd c1 c2.1 c3 c4 c5 (by show cst kd (.inl (some (.long x))) cu ≤ b; rw [e0]; omega) hG (by show G M Q _ _ _ _ (b - cst kd (.inl (some (.long x))) cu); rw [e0]; exact k)
theorem e_CJ {ix : Nat} {kd na cu cx : Nat} {Γ : Gam} {x : Int64} {μ' : Mem} (as rest : List Value) (hd : decode M.1 pc = .ok (.invokestatic ix, 3)) (c1 : (mCalls M).lookup ix = some (kd, na, cu, cx, Γ)) (c2 : kd = 3 ∨ kd = 6) (c3 : st = as.reverse ++ rest) (c4 : as.length = na) (c5 : cats rest ≤ 8) (c6 : cu ≤ b) (hG : Γ as μ (.inl (some (.long x))) μ') (k : G M Q (pc + 3) lv (.long x :: rest) μ' (b - cu)) : G M Q pc lv st μ b := by
  have e0 : cst kd (.inl (some (.long x))) cu = cu := if_pos c2
  exact e_callS as hd c1 (show ¬ kd = 1 by omega) c3 c4 c5 (by show cst kd (.inl (some (.long x))) cu ≤ b; rw [e0]; exact c6) hG (by show G M Q _ _ _ _ (b - cst kd (.inl (some (.long x))) cu); rw [e0]; exact k)
theorem e_SV {ix : Nat} {kd na cu cx : Nat} {Γ : Gam} {μ' : Mem} (as rest : List Value) (hd : decode M.1 pc = .ok (.invokestatic ix, 3)) (c1 : (mCalls M).lookup ix = some (kd, na, cu, cx, Γ)) (c2 : ¬ kd = 1 ∧ ¬ (kd = 3 ∨ kd = 6)) (c3 : st = as.reverse ++ rest) (c4 : as.length = na) (c5 : cats rest ≤ 8) (hG : Γ as μ (.inl none) μ') (k : G M Q (pc + 3) lv rest μ' b) : G M Q pc lv st μ b := by
  have e0 : cst kd (.inl none) cu = 0 := if_neg c2.2
  exact e_callS as hd c1 c2.1 c3 c4 c5 (by show cst kd (.inl none) cu ≤ b; rw [e0]; omega) hG (by show G M Q _ _ _ _ (b - cst kd (.inl none) cu); rw [e0]; exact k)
theorem e_CV {ix : Nat} {kd na cu cx : Nat} {Γ : Gam} {μ' : Mem} (as rest : List Value) (hd : decode M.1 pc = .ok (.invokestatic ix, 3)) (c1 : (mCalls M).lookup ix = some (kd, na, cu, cx, Γ)) (c2 : kd = 3 ∨ kd = 6) (c3 : st = as.reverse ++ rest) (c4 : as.length = na) (c5 : cats rest ≤ 8) (c6 : cu ≤ b) (hG : Γ as μ (.inl none) μ') (k : G M Q (pc + 3) lv rest μ' (b - cu)) : G M Q pc lv st μ b := by
  have e0 : cst kd (.inl none) cu = cu := if_pos c2
  exact e_callS as hd c1 (show ¬ kd = 1 by omega) c3 c4 c5 (by show cst kd (.inl none) cu ≤ b; rw [e0]; exact c6) hG (by show G M Q _ _ _ _ (b - cst kd (.inl none) cu); rw [e0]; exact k)
theorem e_VI {ix k : Nat} {kd na cu cx : Nat} {Γ : Gam} {x : Int32} {μ' : Mem} (as rest : List Value) (hd : decode M.1 pc = .ok (.invokevirtual ix, 3)) (c1 : (mCalls M).lookup ix = some (kd, na, cu, cx, Γ)) (c2 : kd = 1) (c3 : st = as.reverse ++ .ref k :: rest) (c4 : as.length = na) (c7 : k < mNP M ∧ sh k = .inl cx) (c5 : cats rest ≤ 8) (hG : Γ (.ref k :: as) μ (.inl (some (.int x))) μ') (kk : G M Q (pc + 3) lv (.int x :: rest) μ' b) : G M Q pc lv st μ b := by
  have e0 : cst kd (.inl (some (.int x))) cu = 0 := if_neg (by omega)
  exact e_callV as hd c1 c2 c3 c4 c7.1 c7.2 c5 (by show cst kd (.inl (some (.int x))) cu ≤ b; rw [e0]; omega) hG (by show G M Q _ _ _ _ (b - cst kd (.inl (some (.int x))) cu); rw [e0]; exact kk)
theorem e_VJ {ix k : Nat} {kd na cu cx : Nat} {Γ : Gam} {x : Int64} {μ' : Mem} (as rest : List Value) (hd : decode M.1 pc = .ok (.invokevirtual ix, 3)) (c1 : (mCalls M).lookup ix = some (kd, na, cu, cx, Γ)) (c2 : kd = 1) (c3 : st = as.reverse ++ .ref k :: rest) (c4 : as.length = na) (c7 : k < mNP M ∧ sh k = .inl cx) (c5 : cats rest ≤ 8) (hG : Γ (.ref k :: as) μ (.inl (some (.long x))) μ') (kk : G M Q (pc + 3) lv (.long x :: rest) μ' b) : G M Q pc lv st μ b := by
  have e0 : cst kd (.inl (some (.long x))) cu = 0 := if_neg (by omega)
  exact e_callV as hd c1 c2 c3 c4 c7.1 c7.2 c5 (by show cst kd (.inl (some (.long x))) cu ≤ b; rw [e0]; omega) hG (by show G M Q _ _ _ _ (b - cst kd (.inl (some (.long x))) cu); rw [e0]; exact kk)
theorem e_VV {ix k : Nat} {kd na cu cx : Nat} {Γ : Gam} {μ' : Mem} (as rest : List Value) (hd : decode M.1 pc = .ok (.invokevirtual ix, 3)) (c1 : (mCalls M).lookup ix = some (kd, na, cu, cx, Γ)) (c2 : kd = 1) (c3 : st = as.reverse ++ .ref k :: rest) (c4 : as.length = na) (c7 : k < mNP M ∧ sh k = .inl cx) (c5 : cats rest ≤ 8) (hG : Γ (.ref k :: as) μ (.inl none) μ') (kk : G M Q (pc + 3) lv rest μ' b) : G M Q pc lv st μ b := by
  have e0 : cst kd (.inl none) cu = 0 := if_neg (by omega)
  exact e_callV as hd c1 c2 c3 c4 c7.1 c7.2 c5 (by show cst kd (.inl none) cu ≤ b; rw [e0]; omega) hG (by show G M Q _ _ _ _ (b - cst kd (.inl none) cu); rw [e0]; exact kk)
theorem e_VX {ix k : Nat} {kd na cu cx : Nat} {Γ : Gam} {E : String} {μ' : Mem} (as rest : List Value) (hd : decode M.1 pc = .ok (.invokevirtual ix, 3)) (c1 : (mCalls M).lookup ix = some (kd, na, cu, cx, Γ)) (c2 : kd = 1) (c3 : st = as.reverse ++ .ref k :: rest) (c4 : as.length = na) (c7 : k < mNP M ∧ sh k = .inl cx) (c5 : cats rest ≤ 8) (c6 : cu ≤ b) (hG : Γ (.ref k :: as) μ (.inr E) μ') (hh : mHnd M = []) (q : Q (.inr E) μ') : G M Q pc lv st μ b := e_callVX as hd c1 c2 c3 c4 c7.1 c7.2 c5 (Nat.le_trans (cst_le kd (.inr E) cu) c6) hG hh q
theorem e_SX {ix : Nat} {kd na cu cx : Nat} {Γ : Gam} {E : String} {μ' : Mem} (as rest : List Value) (hd : decode M.1 pc = .ok (.invokestatic ix, 3)) (c1 : (mCalls M).lookup ix = some (kd, na, cu, cx, Γ)) (c2 : ¬ kd = 1) (c3 : st = as.reverse ++ rest) (c4 : as.length = na) (c5 : cats rest ≤ 8) (c6 : cu ≤ b) (hG : Γ as μ (.inr E) μ') (hh : mHnd M = []) (q : Q (.inr E) μ') : G M Q pc lv st μ b := e_callSX as hd c1 c2 c3 c4 c5 (Nat.le_trans (cst_le kd (.inr E) cu) c6) hG hh q
theorem e_tsL (c : Int32) {dflt lo hi off : Int} {offs : Array Int} {len tgt : Nat} {x : Int32} (hx : x = c) (hd : decode M.1 pc = .ok (.tableswitch dflt lo hi offs, len)) (c1 : ¬ c.toInt < lo) (c2 : ¬ hi < c.toInt) (c3 : offs[(c.toInt - lo).toNat]? = some off) (c4 : (pc : Int) + off = (tgt : Int)) (k : G M Q tgt lv rest μ b) : G M Q pc lv (.int x :: rest) μ b := by
  subst hx
  exact e_tsIn hd c1 c2 c3 c4 k
theorem e_naI {e : Int32} {k : Int32 → Out} {z : Res × Mem} (h : lt e k = some z) (kk : ∀ v, v = e → k v = some z → G M Q pc lv (.int v :: st) μ b) : G M Q pc lv (.int e :: st) μ b := kk e rfl h
theorem e_naJ {e : Int64} {k : Int64 → Out} {z : Res × Mem} (h : lt e k = some z) (kk : ∀ v, v = e → k v = some z → G M Q pc lv (.long v :: st) μ b) : G M Q pc lv (.long e :: st) μ b := kk e rfl h
theorem e_naA {e : Nat} {k : Nat → Out} {z : Res × Mem} (h : lt e k = some z) (kk : ∀ v, v = e → k v = some z → G M Q pc lv (.ref v :: st) μ b) : G M Q pc lv (.ref e :: st) μ b := kk e rfl h
theorem e_naM {e : Mem} {k : Mem → Out} {z : Res × Mem} (h : lt e k = some z) (kk : ∀ v, v = e → k v = some z → G M Q pc lv st v b) : G M Q pc lv st e b := kk e rfl h
theorem e_if {c : Prop} [Decidable c] {A B : Out} {z : Res × Mem} {X : Prop} (h : (if c then A else B) = some z) (ht : c → A = some z → X) (hf : ¬ c → B = some z → X) : X := by
  by_cases hc : c
  · rw [if_pos hc] at h; exact ht hc h
  · rw [if_neg hc] at h; exact hf hc h
end LSteps
set_option maxRecDepth 100000 in
theorem cls_ok : ClsOK := by
  intro ci q hq
  match ci, hq with
  | 0, hq =>
    cases hq
    refine ⟨?_, nmX2, rfl, tyX2, tyX2_ok, ?_⟩
    · exact List.forall_mem_cons.mpr ⟨t_1 114 rfl rfl, List.forall_mem_cons.mpr ⟨t_1 116 rfl rfl, List.forall_mem_cons.mpr ⟨t_1 118 rfl rfl, (fun _ h => nomatch h)⟩⟩⟩
    · decide +kernel
  | 1, hq =>
    cases hq
    refine ⟨?_, nmX3, rfl, tyX3, tyX3_ok, ?_⟩
    · exact List.forall_mem_cons.mpr ⟨t_1 84 rfl rfl, List.forall_mem_cons.mpr ⟨t_1 86 rfl rfl, (fun _ h => nomatch h)⟩⟩
    · decide +kernel
  | 2, hq =>
    cases hq
    refine ⟨?_, nmX4, rfl, tyX4, tyX4_ok, ?_⟩
    · exact List.forall_mem_cons.mpr ⟨t_1 60 rfl rfl, List.forall_mem_cons.mpr ⟨t_1 62 rfl rfl, List.forall_mem_cons.mpr ⟨t_1 64 rfl rfl, List.forall_mem_cons.mpr ⟨t_1 66 rfl rfl, List.forall_mem_cons.mpr ⟨t_1 68 rfl rfl, List.forall_mem_cons.mpr ⟨t_1 70 rfl rfl, (fun _ h => nomatch h)⟩⟩⟩⟩⟩⟩
    · decide +kernel
  | 3, hq =>
    cases hq
    refine ⟨?_, nmX5, rfl, tyX5, tyX5_ok, ?_⟩
    · exact List.forall_mem_cons.mpr ⟨t_1 99 rfl rfl, List.forall_mem_cons.mpr ⟨t_1 101 rfl rfl, (fun _ h => nomatch h)⟩⟩
    · decide +kernel
  | 4, hq =>
    cases hq
    refine ⟨?_, nmX6, rfl, tyX6, tyX6_ok, ?_⟩
    · exact List.forall_mem_cons.mpr ⟨t_1 34 rfl rfl, List.forall_mem_cons.mpr ⟨t_1 36 rfl rfl, (fun _ h => nomatch h)⟩⟩
    · decide +kernel
  | 5, hq =>
    cases hq
    refine ⟨?_, nmX7, rfl, tyX7, tyX7_ok, ?_⟩
    · exact List.forall_mem_cons.mpr ⟨t_1 129 rfl rfl, List.forall_mem_cons.mpr ⟨t_1 131 rfl rfl, List.forall_mem_cons.mpr ⟨t_1 133 rfl rfl, List.forall_mem_cons.mpr ⟨t_1 135 rfl rfl, List.forall_mem_cons.mpr ⟨t_1 137 rfl rfl, List.forall_mem_cons.mpr ⟨t_1 139 rfl rfl, List.forall_mem_cons.mpr ⟨t_1 141 rfl rfl, (fun _ h => nomatch h)⟩⟩⟩⟩⟩⟩⟩
    · decide +kernel
  | n + 6, hq => simp [vwCl] at hq
