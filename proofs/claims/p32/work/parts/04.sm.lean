
/-! THE SMALL MACHINE. A memory of places: I (ints), J (longs), R (places), by place and slot; the shape of each place is fixed (shL), so are references held in fields (rfS). Go: what a method's bytecode does to it, as a weakest precondition. go_ok: the machine does as Go says. -/
def TB : List Cond := lw_tbl.filter goodWord
theorem TB_in {w : Cond} (h : w ∈ lw_tbl) (g : goodWord w = true) : w ∈ TB := List.mem_filter.mpr ⟨h, g⟩
theorem TB_good : GoodIn TB TB := fun w h => ⟨h, good_of_word (List.mem_filter.mp h).2⟩
abbrev Mem : Type := (Nat → Nat → Int32) × (Nat → Nat → Int64) × (Nat → Nat → Nat)
abbrev Res : Type := Option Value ⊕ String
abbrev LV : Type := List (Option Value)
abbrev Gam : Type := List Value → Mem → Res → Mem → Prop
def up2 {α : Type} (f : Nat → Nat → α) (k j : Nat) (v : α) : Nat → Nat → α := fun a b => if a = k ∧ b = j then v else f a b
def sI (μ : Mem) (k j : Nat) (v : Int32) : Mem := (up2 μ.1 k j v, μ.2)
def sJ (μ : Mem) (k j : Nat) (v : Int64) : Mem := (μ.1, up2 μ.2.1 k j v, μ.2.2)
def sR (μ : Mem) (k j : Nat) (v : Nat) : Mem := (μ.1, μ.2.1, up2 μ.2.2 k j v)
theorem up2_same {α : Type} (f : Nat → Nat → α) (k j : Nat) (v : α) : up2 f k j v k j = v := by simp [up2]
theorem up2_k {α : Type} (f : Nat → Nat → α) (k j : Nat) (v : α) {a : Nat} (b : Nat) (h : a ≠ k) : up2 f k j v a b = f a b := by simp [up2, h]
theorem up2_j {α : Type} (f : Nat → Nat → α) (k j : Nat) (v : α) (a : Nat) {b : Nat} (h : b ≠ j) : up2 f k j v a b = f a b := by simp [up2, h]
theorem up2_row {α : Type} (f : Nat → Nat → α) (k j : Nat) (v : α) {a : Nat} (h : a ≠ k) : up2 f k j v a = f a := funext fun b => up2_k f k j v b h
/-- the shape: an object of a class (by its place in vwCl), or an array (type, length) -/
def shL : List (Nat ⊕ (Nat × Nat)) := [.inl 5, .inl 4, .inl 2, .inl 2, .inl 1, .inl 3, .inl 0, .inr (0, 48), .inr (2, 60), .inr (4, 14), .inr (4, 2), .inr (3, 2), .inr (1, 6),
  .inl 2, .inl 2, .inl 2, .inl 2, .inl 2, .inl 2, .inl 2, .inl 2, .inl 2, .inl 2, .inl 2, .inl 2, .inl 2, .inl 2, .inl 2, .inl 2,
  .inr (0, 36)]
/-- the places of the object; the law's own array is place 29, while it lives (np); the script's place; the place that tells whether 29 lives -/
abbrev NP : Nat := 29
abbrev SCR : Nat := 999
abbrev FLG : Nat := 1000
def np (ρ : Nat → Nat) : Nat := if ρ FLG = 1 then 30 else 29
theorem np_29 (ρ : Nat → Nat) : 29 ≤ np ρ := by unfold np; split <;> omega
theorem np_30 (ρ : Nat → Nat) : np ρ ≤ 30 := by unfold np; split <;> omega
/-- a reference in an array is to a place of the object -/
def clm (x : Nat) : Nat := if x < 29 then x else 0
theorem clm_lt {x : Nat} (h : x < 29) : clm x = x := if_pos h
theorem clm_29 (x : Nat) : clm x < 29 := by unfold clm; split <;> omega
def sh (k : Nat) : Nat ⊕ (Nat × Nat) := shL.getD k (.inl 99)
def ftL (ci : Nat) : List Nat := match ci with
  | 0 => [2, 1, 1]
  | 1 => [2, 0]
  | 2 => [0, 0, 1, 1, 1, 1]
  | 3 => [2, 2]
  | 4 => [2, 0]
  | 5 => [2, 2, 2, 2, 2, 2, 2]
  | _ => []
/-- the places that fields hold, for good -/
def rfL (k : Nat) : List Nat := match k with
  | 0 => [1, 2, 3, 4, 5, 6, 7]
  | 1 => [8]
  | 4 => [9]
  | 5 => [10, 11]
  | 6 => [12]
  | _ => []
def rfS (k j : Nat) : Nat := (rfL k).getD j 0
def rvv (ρ : Nat → Nat) : Value → Value
  | .ref k => .ref (ρ k)
  | v => v
def fv (ρ : Nat → Nat) (μ : Mem) (k j t : Nat) : Value := match t with
  | 0 => .int (μ.1 k j)
  | 1 => .long (μ.2.1 k j)
  | _ => .ref (ρ (rfS k j))
def fvs (ρ : Nat → Nat) (μ : Mem) (k : Nat) : Nat → List Nat → List Value
  | _, [] => []
  | j, t :: ts => fv ρ μ k j t :: fvs ρ μ k (j + 1) ts
theorem fvs_get (ρ : Nat → Nat) (μ : Mem) (k : Nat) : ∀ (l : List Nat) (i j : Nat), (fvs ρ μ k i l)[j]? = (l[j]?).map (fun t => fv ρ μ k (i + j) t)
  | [], i, j => by simp [fvs]
  | t :: ts, i, 0 => by simp [fvs]
  | t :: ts, i, j + 1 => by
    have h := fvs_get ρ μ k ts (i + 1) j
    simp only [fvs, List.getElem?_cons_succ]
    rw [h, show i + 1 + j = i + (j + 1) from by omega]
theorem fvs_len (ρ : Nat → Nat) (μ : Mem) (k : Nat) : ∀ (l : List Nat) (i : Nat), (fvs ρ μ k i l).length = l.length
  | [], _ => rfl
  | t :: ts, i => by simp [fvs, fvs_len ρ μ k ts (i + 1)]
def aC (ρ : Nat → Nat) (μ : Mem) (k t n : Nat) : vp_A := (n, match t with
  | 1 => .inr (.inl (μ.2.1 k))
  | 4 => .inr (.inr (.inr (.inr (fun j => some (ρ (clm (μ.2.2 k j)))))))
  | _ => .inl (μ.1 k))
def rC (ca : Nat → ClassId) (ρ : Nat → Nat) (μ : Mem) (k : Nat) : va_E := match sh k with
  | .inl ci => .inr (ci, fvs ρ μ k 0 (ftL ci))
  | .inr (t, n) => .inl (ca t, aC ρ μ k t n)
def rW (ca : Nat → ClassId) (ρ : Nat → Nat) (μ : Mem) : va_W := (List.range (np ρ)).map (fun k => (ρ k, rC ca ρ μ k))
def rT (ca : Nat → ClassId) : List (ClassId × FieldType) := [(ca 0, .int), (ca 1, .long), (ca 2, .char), (ca 3, .boolean), (ca 4, .object RX4)]
theorem rW_get (ca : Nat → ClassId) (ρ : Nat → Nat) (μ : Mem) {k : Nat} (h : k < np ρ) : (rW ca ρ μ)[k]? = some (ρ k, rC ca ρ μ k) := by
  simp [rW, List.getElem?_map, List.getElem?_range h]
theorem rW_of {ca : Nat → ClassId} {ρ : Nat → Nat} {μ : Mem} {k : Nat} {q : Nat × va_E} (h : (rW ca ρ μ)[k]? = some q) : k < np ρ ∧ q = (ρ k, rC ca ρ μ k) := by
  have hk : k < np ρ := by
    have := (List.getElem?_eq_some_iff.mp h).1
    simpa [rW] using this
  rw [rW_get ca ρ μ hk] at h
  exact ⟨hk, (Option.some.inj h).symm⟩
theorem rW_obj {ca : Nat → ClassId} {ρ : Nat → Nat} {μ : Mem} {k ci : Nat} (hk : k < np ρ) (h : sh k = .inl ci) : (rW ca ρ μ)[k]? = some (ρ k, .inr (ci, fvs ρ μ k 0 (ftL ci))) := by
  rw [rW_get ca ρ μ hk]; simp [rC, h]
theorem rW_arr {ca : Nat → ClassId} {ρ : Nat → Nat} {μ : Mem} {k t n : Nat} (hk : k < np ρ) (h : sh k = .inr (t, n)) : (rW ca ρ μ)[k]? = some (ρ k, .inl (ca t, aC ρ μ k t n)) := by
  rw [rW_get ca ρ μ hk]; simp [rC, h]
theorem rW_set (ca : Nat → ClassId) (ρ : Nat → Nat) (μ μ' : Mem) {k : Nat} {e : va_E} (h1 : rC ca ρ μ' k = e) (h2 : ∀ j, j ≠ k → rC ca ρ μ' j = rC ca ρ μ j) : (rW ca ρ μ).set k (ρ k, e) = rW ca ρ μ' := by
  apply List.ext_getElem?
  intro j
  by_cases hj : j < np ρ
  · by_cases hjk : j = k
    · subst hjk
      rw [List.getElem?_set_self (by simpa [rW] using hj), rW_get ca ρ μ' hj, h1]
    · rw [List.getElem?_set_ne (fun q => hjk q.symm), rW_get ca ρ μ hj, rW_get ca ρ μ' hj, h2 j hjk]
  · have a1 : (rW ca ρ μ').length ≤ j := by simp [rW]; omega
    have a2 : ((rW ca ρ μ).set k (ρ k, e)).length ≤ j := by simp [rW]; omega
    rw [List.getElem?_eq_none a1, List.getElem?_eq_none a2]
theorem fvs_congr {ρ : Nat → Nat} {μ μ' : Mem} {k : Nat} (h : ∀ j, μ'.1 k j = μ.1 k j) (h2 : ∀ j, μ'.2.1 k j = μ.2.1 k j) : ∀ (l : List Nat) (i : Nat), fvs ρ μ' k i l = fvs ρ μ k i l
  | [], _ => rfl
  | t :: ts, i => by
    have h3 : fv ρ μ' k i t = fv ρ μ k i t := by
      unfold fv; split
      · rw [h]
      · rw [h2]
      · rfl
    simp only [fvs, h3, fvs_congr h h2 ts (i + 1)]
theorem rC_congr {ca : Nat → ClassId} {ρ : Nat → Nat} {μ μ' : Mem} {k : Nat} (h1 : μ'.1 k = μ.1 k) (h2 : μ'.2.1 k = μ.2.1 k) (h3 : μ'.2.2 k = μ.2.2 k) : rC ca ρ μ' k = rC ca ρ μ k := by
  have h4 := fvs_congr (ρ := ρ) (μ := μ) (μ' := μ') (k := k) (fun j => congrFun h1 j) (fun j => congrFun h2 j)
  unfold rC
  split
  · rw [h4]
  · unfold aC
    rw [h1, h2, h3]
theorem fvs_set {ρ : Nat → Nat} {μ μ' : Mem} {k j : Nat} {v : Value} : ∀ (l : List Nat) (i : Nat), i ≤ j → (∀ a t, a ≠ j → fv ρ μ' k a t = fv ρ μ k a t) → (∀ t, l[j - i]? = some t → fv ρ μ' k j t = v) → (fvs ρ μ k i l).set (j - i) v = fvs ρ μ' k i l
  | [], i, _, _, _ => by simp [fvs]
  | t :: ts, i, hij, h1, h2 => by
    by_cases h : i = j
    · subst h
      have e1 : fv ρ μ' k i t = v := h2 t (by simp)
      have e2 : ∀ (l : List Nat) (a : Nat), i < a → fvs ρ μ k a l = fvs ρ μ' k a l := by
        intro l
        induction l with
        | nil => intro a _; rfl
        | cons x xs ih =>
          intro a ha
          simp only [fvs]
          rw [h1 a x (by omega), ih (a + 1) (by omega)]
      simp only [fvs, Nat.sub_self, List.set_cons_zero, e1]
      rw [e2 ts (i + 1) (by omega)]
    · have e3 : j - i = (j - (i + 1)) + 1 := by omega
      have ih := fvs_set (ρ := ρ) (μ := μ) (μ' := μ') (k := k) (j := j) (v := v) ts (i + 1) (by omega) h1 (fun t ht => h2 t (by rw [e3]; simpa using ht))
      simp only [fvs]
      rw [e3, List.set_cons_succ, ih, h1 i t h]
def rvl (ρ : Nat → Nat) (l : List Value) : List Value := l.map (rvv ρ)
theorem rvv_cat (ρ : Nat → Nat) (v : Value) : (rvv ρ v).category = v.category := by cases v <;> rfl
theorem rvl_cat (ρ : Nat → Nat) (l : List Value) : ((rvl ρ l).map fun v => v.category).sum = (l.map fun v => v.category).sum := by
  induction l with
  | nil => rfl
  | cons a t ih =>
    simp only [rvl, List.map_cons, List.sum_cons, rvv_cat] at ih ⊢
    rw [ih]
/-- locals -/
def lvle : LV → LV → Prop
  | [], [] => True
  | none :: a, _ :: b => lvle a b
  | some v :: a, some w :: b => v = w ∧ lvle a b
  | _, _ => False
theorem lvle_len : ∀ {a b : LV}, lvle a b → a.length = b.length
  | [], [], _ => rfl
  | none :: a, x :: b, h => by simp only [lvle] at h; simp [lvle_len h]
  | some v :: a, some w :: b, h => by simp only [lvle] at h; simp [lvle_len h.2]
  | some v :: a, none :: b, h => by simp [lvle] at h
  | [], x :: b, h => by simp [lvle] at h
  | none :: a, [], h => by simp [lvle] at h
  | some v :: a, [], h => by simp [lvle] at h
theorem lvle_get : ∀ {a b : LV}, lvle a b → ∀ (j : Nat) (v : Value), a[j]? = some (some v) → b[j]? = some (some v)
  | [], [], _, j, v, h => by simp at h
  | none :: a, x :: b, h, 0, v, h2 => by simp at h2
  | none :: a, x :: b, h, j + 1, v, h2 => by
    simp only [lvle] at h
    simpa using lvle_get h j v (by simpa using h2)
  | some u :: a, some w :: b, h, 0, v, h2 => by
    simp only [lvle] at h
    rw [← h.1]; simpa using h2
  | some u :: a, some w :: b, h, j + 1, v, h2 => by
    simp only [lvle] at h
    simpa using lvle_get h.2 j v (by simpa using h2)
  | some u :: a, none :: b, h, j, v, h2 => by simp [lvle] at h
  | [], x :: b, h, j, v, h2 => by simp [lvle] at h
  | none :: a, [], h, j, v, h2 => by simp [lvle] at h
  | some u :: a, [], h, j, v, h2 => by simp [lvle] at h
def kl (lv : LV) (i : Nat) : LV := match i with
  | 0 => lv
  | j + 1 => match lv[j]? with
    | some (some (.long _)) => lv.set j none
    | some (some (.double _)) => lv.set j none
    | _ => lv
/-- a value of one slot into place i -/
def ls1 (lv : LV) (i : Nat) (v : Value) : LV := (kl lv i).set i (some v)
/-- a long into places i, i + 1 -/
def ls2 (lv : LV) (i : Nat) (v : Value) : LV := ((kl lv i).set i (some v)).set (i + 1) none
/-- place i taken by what isn't known -/
def ls0 (lv : LV) (i : Nat) : LV := (kl lv i).set i none
def HL (ρ : Nat → Nat) (ls : Array Slot) (nL : Nat) (lv : LV) : Prop := lv.length = nL ∧ ∃ l, lv_has ls nL l ∧ ∀ j v, lv[j]? = some (some v) → (j, rvv ρ v) ∈ l
theorem HL.get {ρ : Nat → Nat} {ls : Array Slot} {nL : Nat} {lv : LV} (h : HL ρ ls nL lv) {j : Nat} {v : Value} (hv : lv[j]? = some (some v)) : ls[j]? = some (.val (rvv ρ v)) := by
  obtain ⟨-, l, h1, h2⟩ := h
  exact h1.2.2 _ (h2 j v hv)
theorem HL.le {ρ : Nat → Nat} {ls : Array Slot} {nL : Nat} {lv lv' : LV} (h : HL ρ ls nL lv) (h2 : lvle lv' lv) : HL ρ ls nL lv' := by
  obtain ⟨h0, l, h1, h3⟩ := h
  exact ⟨(lvle_len h2).trans h0, l, h1, fun j v hv => h3 j v (lvle_get h2 j v hv)⟩
theorem kl_len (lv : LV) (i : Nat) : (kl lv i).length = lv.length := by
  unfold kl; split
  · rfl
  · split <;> simp
theorem kl_get {lv : LV} {i j : Nat} {v : Value} (h : (kl lv i)[j]? = some (some v)) : lv[j]? = some (some v) ∧ ¬ (j + 1 = i ∧ v.category = 2) := by
  unfold kl at h; split at h
  · exact ⟨h, fun q => by omega⟩
  · rename_i k
    split at h
    · by_cases hj : j = k
      · subst hj
        rw [List.getElem?_set] at h; simp at h
      · rw [List.getElem?_set_ne (fun q => hj q.symm)] at h
        exact ⟨h, fun q => by omega⟩
    · by_cases hj : j = k
      · subst hj
        rw [List.getElem?_set] at h; simp at h
      · rw [List.getElem?_set_ne (fun q => hj q.symm)] at h
        exact ⟨h, fun q => by omega⟩
    · rename_i hn1 hn2
      refine ⟨h, fun q => ?_⟩
      have hjk : j = k := by omega
      subst hjk
      cases v with
      | long x => exact hn1 x h
      | double x => exact hn2 x h
      | _ => exact absurd q.2 (by simp [Value.category])
theorem HL_ls1 {ρ : Nat → Nat} {ls' : Array Slot} {nL i : Nat} {lv : LV} {v : Value} {l l' : List (Nat × Value)} (h0 : lv.length = nL) (h3 : ∀ j v, lv[j]? = some (some v) → (j, rvv ρ v) ∈ l)
    (hl : (i, rvv ρ v) :: l.filter (fun q => !(q.1 == i) && !(q.1 + 1 == i && q.2.category == 2)) = l') (h : lv_has ls' nL l') : HL ρ ls' nL (ls1 lv i v) := by
  refine ⟨by simp [ls1, kl_len, h0], l', h, fun j w hw => ?_⟩
  subst hl
  unfold ls1 at hw
  by_cases hj : j = i
  · subst hj
    by_cases hlt : j < (kl lv j).length
    · rw [List.getElem?_set_self hlt] at hw
      cases hw; exact List.mem_cons_self
    · rw [List.getElem?_eq_none (by simp; omega)] at hw
      cases hw
  · rw [List.getElem?_set_ne (fun q => hj q.symm)] at hw
    obtain ⟨h4, h5⟩ := kl_get hw
    refine List.mem_cons_of_mem _ (List.mem_filter.mpr ⟨h3 j w h4, ?_⟩)
    simp only [rvv_cat, Bool.and_eq_true, Bool.not_eq_true', beq_eq_false_iff_ne, Bool.and_eq_false_iff]
    refine ⟨hj, ?_⟩
    by_cases hq : j + 1 = i
    · exact Or.inr (fun z => h5 ⟨hq, z⟩)
    · exact Or.inl hq
theorem HL_ls0 {ρ : Nat → Nat} {ls' : Array Slot} {nL i : Nat} {lv : LV} {q9 : Nat} {l l' : List (Nat × Value)} (h0 : lv.length = nL) (h3 : ∀ j v, lv[j]? = some (some v) → (j, rvv ρ v) ∈ l)
    (hl : (i, Value.ref q9) :: l.filter (fun q => !(q.1 == i) && !(q.1 + 1 == i && q.2.category == 2)) = l') (h : lv_has ls' nL l') : HL ρ ls' nL (ls0 lv i) := by
  refine ⟨by simp [ls0, kl_len, h0], l', h, fun j w hw => ?_⟩
  subst hl
  unfold ls0 at hw
  by_cases hj : j = i
  · subst hj
    rw [List.getElem?_set] at hw; simp at hw
  · rw [List.getElem?_set_ne (fun q => hj q.symm)] at hw
    obtain ⟨h4, h5⟩ := kl_get hw
    refine List.mem_cons_of_mem _ (List.mem_filter.mpr ⟨h3 j w h4, ?_⟩)
    simp only [rvv_cat, Bool.and_eq_true, Bool.not_eq_true', beq_eq_false_iff_ne, Bool.and_eq_false_iff]
    refine ⟨hj, ?_⟩
    by_cases hq : j + 1 = i
    · exact Or.inr (fun z => h5 ⟨hq, z⟩)
    · exact Or.inl hq
theorem HL_ls2 {ρ : Nat → Nat} {ls' : Array Slot} {nL i : Nat} {lv : LV} {v : Value} {l l' : List (Nat × Value)} (h0 : lv.length = nL) (h3 : ∀ j v, lv[j]? = some (some v) → (j, rvv ρ v) ∈ l)
    (hl : (i, rvv ρ v) :: l.filter (fun q => !(q.1 == i) && (!(q.1 == i + 1) && !(q.1 + 1 == i && q.2.category == 2))) = l') (h : lv_has ls' nL l') : HL ρ ls' nL (ls2 lv i v) := by
  refine ⟨by simp [ls2, kl_len, h0], l', h, fun j w hw => ?_⟩
  subst hl
  unfold ls2 at hw
  by_cases hj2 : j = i + 1
  · subst hj2
    rw [List.getElem?_set] at hw; simp at hw
  rw [List.getElem?_set_ne (fun q => hj2 q.symm)] at hw
  by_cases hj : j = i
  · subst hj
    by_cases hlt : j < (kl lv j).length
    · rw [List.getElem?_set_self hlt] at hw
      cases hw; exact List.mem_cons_self
    · rw [List.getElem?_eq_none (by simp; omega)] at hw
      cases hw
  · rw [List.getElem?_set_ne (fun q => hj q.symm)] at hw
    obtain ⟨h4, h5⟩ := kl_get hw
    refine List.mem_cons_of_mem _ (List.mem_filter.mpr ⟨h3 j w h4, ?_⟩)
    simp only [rvv_cat, Bool.and_eq_true, Bool.not_eq_true', beq_eq_false_iff_ne, Bool.and_eq_false_iff]
    refine ⟨hj, hj2, ?_⟩
    by_cases hq : j + 1 = i
    · exact Or.inr (fun z => h5 ⟨hq, z⟩)
    · exact Or.inl hq
