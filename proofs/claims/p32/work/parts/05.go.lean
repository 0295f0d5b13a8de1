
/-- a callee: kind (0 static, 1 virtual, 2 static of a nest mate, 3 static with handlers), arguments beside the receiver, cost, the receiver's class, what it does -/
abbrev CI : Type := Nat × Nat × Nat × Nat × Gam
/-- a method: bytes, calls, fields, ints, longs, throws, handlers, places and the script, the type that it returns -/
abbrev MI : Type := ByteArray × List (Nat × CI) × List (Nat × Nat × Nat) × List (Nat × Int32) × List (Nat × Int64) × List (Nat × String) × List ((Nat × String) × Nat × Nat) × (Nat × Option (Nat × (Nat → Int32))) × Option FieldType
abbrev mCalls (M : MI) : List (Nat × CI) := M.2.1
abbrev mFlds (M : MI) : List (Nat × Nat × Nat) := M.2.2.1
abbrev mC32 (M : MI) : List (Nat × Int32) := M.2.2.2.1
abbrev mC64 (M : MI) : List (Nat × Int64) := M.2.2.2.2.1
abbrev mThr (M : MI) : List (Nat × String) := M.2.2.2.2.2.1
abbrev mHnd (M : MI) : List ((Nat × String) × Nat × Nat) := M.2.2.2.2.2.2.1
abbrev mScr (M : MI) : Option (Nat × (Nat → Int32)) := M.2.2.2.2.2.2.2.1.2
/-- the places that the method may touch: 29, 30 (the law's array too), or 129: 29 where that array doesn't live -/
abbrev mFl (M : MI) : Nat := M.2.2.2.2.2.2.2.1.1
abbrev mNP (M : MI) : Nat := mFl M % 100
/-- what a call costs -/
def rc (r : Res) (u : Nat) : Nat := match r with
  | .inl _ => 0
  | .inr _ => u
def cst (kd : Nat) (r : Res) (u : Nat) : Nat := if kd = 3 ∨ kd = 6 then u else rc r u
theorem cst_le (kd : Nat) (r : Res) (u : Nat) : cst kd r u ≤ u := by
  unfold cst rc
  split
  · exact Nat.le_refl _
  · split <;> omega
abbrev mRet (M : MI) : Option FieldType := M.2.2.2.2.2.2.2.2
def gv (μ : Mem) (k j t : Nat) : Value := match t with
  | 0 => .int (μ.1 k j)
  | 1 => .long (μ.2.1 k j)
  | _ => .ref (rfS k j)
theorem gv_rv (ρ : Nat → Nat) (μ : Mem) (k j t : Nat) : rvv ρ (gv μ k j t) = fv ρ μ k j t := match t with
  | 0 => rfl
  | 1 => rfl
  | _ + 2 => rfl
def cats (l : List Value) : Nat := (l.map fun v => v.category).sum
def remI (x y : Int32) : Int32 := x - x / y * y
def remL (x y : Int64) : Int64 := x - x / y * y
def shlL (x : Int64) (y : Int32) : Int64 := x <<< (y.toInt64 &&& 63)
def shrL (x : Int64) (y : Int32) : Int64 := x >>> (y.toInt64 &&& 63)
def ushrL (x : Int64) (y : Int32) : Int64 := (x.toUInt64 >>> (y.toInt64.toUInt64 &&& Int64.toUInt64 63)).toInt64
def shlI (x y : Int32) : Int32 := x <<< (y &&& 31)
def shrI (x y : Int32) : Int32 := x >>> (y &&& 31)
def ushrI (x y : Int32) : Int32 := (x.toUInt32 >>> (y.toUInt32 &&& Int32.toUInt32 31)).toInt32
def i2c (x : Int32) : Int32 := (x.toUInt32 % 65536).toInt32
def CK (M : MI) (Q : Res → Mem → Prop) (K : Nat → LV → List Value → Mem → Nat → Prop) (pc : Nat) (lv : LV) (rest : List Value) (μ : Mem) (b : Nat) (r : Res) : Prop := match r with
  | .inl v => K (pc + 3) lv (v.toList ++ rest) μ b
  | .inr E => match (mHnd M).lookup (pc, E) with
    | none => mHnd M = [] ∧ Q (.inr E) μ
    | some h => h.2 < lv.length ∧ ((decode M.1 h.1 = .ok (.astore h.2, 2) ∧ K (h.1 + 2) (ls0 lv h.2) [] μ b) ∨ (∃ k : Fin 4, k.val = h.2 ∧ decode M.1 h.1 = .ok (.astore_n k, 1) ∧ K (h.1 + 1) (ls0 lv h.2) [] μ b))

def GoI (M : MI) (Q : Res → Mem → Prop) (K : Nat → LV → List Value → Mem → Nat → Prop) (pc : Nat) (lv : LV) (st : List Value) (μ : Mem) (b : Nat) (ins : Instr) (len : Nat) : Prop := match ins with
  | .iload i => len = 2 ∧ ∃ (x : Int32), lv[i]? = some (some (.int x)) ∧ K (pc + 2) (lv) (.int x :: st) (μ) b
  | .iload_n i => len = 1 ∧ ∃ (x : Int32), lv[i.val]? = some (some (.int x)) ∧ K (pc + 1) (lv) (.int x :: st) (μ) b
  | .lload i => len = 2 ∧ ∃ (x : Int64), lv[i]? = some (some (.long x)) ∧ K (pc + 2) (lv) (.long x :: st) (μ) b
  | .lload_n i => len = 1 ∧ ∃ (x : Int64), lv[i.val]? = some (some (.long x)) ∧ K (pc + 1) (lv) (.long x :: st) (μ) b
  | .aload i => len = 2 ∧ ∃ (x : Nat), lv[i]? = some (some (.ref x)) ∧ K (pc + 2) (lv) (.ref x :: st) (μ) b
  | .aload_n i => len = 1 ∧ ∃ (x : Nat), lv[i.val]? = some (some (.ref x)) ∧ K (pc + 1) (lv) (.ref x :: st) (μ) b
  | .istore i => len = 2 ∧ ∃ (x : Int32) (rest : List Value), st = .int x :: rest ∧ i < lv.length ∧ K (pc + 2) (ls1 lv i (.int x)) (rest) (μ) b
  | .istore_n i => len = 1 ∧ ∃ (x : Int32) (rest : List Value), st = .int x :: rest ∧ i.val < lv.length ∧ K (pc + 1) (ls1 lv i.val (.int x)) (rest) (μ) b
  | .lstore i => len = 2 ∧ ∃ (x : Int64) (rest : List Value), st = .long x :: rest ∧ i + 1 < lv.length ∧ K (pc + 2) (ls2 lv i (.long x)) (rest) (μ) b
  | .lstore_n i => len = 1 ∧ ∃ (x : Int64) (rest : List Value), st = .long x :: rest ∧ i.val + 1 < lv.length ∧ K (pc + 1) (ls2 lv i.val (.long x)) (rest) (μ) b
  | .astore i => len = 2 ∧ ∃ (x : Nat) (rest : List Value), st = .ref x :: rest ∧ i < lv.length ∧ K (pc + 2) (ls1 lv i (.ref x)) (rest) (μ) b
  | .astore_n i => len = 1 ∧ ∃ (x : Nat) (rest : List Value), st = .ref x :: rest ∧ i.val < lv.length ∧ K (pc + 1) (ls1 lv i.val (.ref x)) (rest) (μ) b
  | .iinc i k => len = 3 ∧ ∃ (x : Int32), lv[i]? = some (some (.int x)) ∧ K (pc + 3) (ls1 lv i (.int (x + Int32.ofInt k))) (st) (μ) b
  | .iconst k => len = 1 ∧ ∃ (v : Int32), Int32.ofInt k = v ∧ K (pc + 1) (lv) (.int v :: st) (μ) b
  | .bipush k => len = 2 ∧ ∃ (v : Int32), (Int8.ofInt k).toInt32 = v ∧ K (pc + 2) (lv) (.int v :: st) (μ) b
  | .sipush k => len = 3 ∧ ∃ (v : Int32), (Int16.ofInt k).toInt32 = v ∧ K (pc + 3) (lv) (.int v :: st) (μ) b
  | .lconst k => len = 1 ∧ ∃ (v : Int64), Int64.ofNat (k : Nat) = v ∧ K (pc + 1) (lv) (.long v :: st) (μ) b
  | .ldc k => len = 2 ∧ ∃ (v : Int32), (mC32 M).lookup k = some v ∧ K (pc + 2) (lv) (.int v :: st) (μ) b
  | .ldc_w k => len = 3 ∧ ∃ (v : Int32), (mC32 M).lookup k = some v ∧ K (pc + 3) (lv) (.int v :: st) (μ) b
  | .ldc2_w k => len = 3 ∧ ∃ (v : Int64), (mC64 M).lookup k = some v ∧ K (pc + 3) (lv) (.long v :: st) (μ) b
  | .iadd => len = 1 ∧ ∃ (x : Int32) (y : Int32) (rest : List Value), st = .int y :: .int x :: rest ∧ K (pc + 1) (lv) (.int (x + y) :: rest) (μ) b
  | .isub => len = 1 ∧ ∃ (x : Int32) (y : Int32) (rest : List Value), st = .int y :: .int x :: rest ∧ K (pc + 1) (lv) (.int (x - y) :: rest) (μ) b
  | .imul => len = 1 ∧ ∃ (x : Int32) (y : Int32) (rest : List Value), st = .int y :: .int x :: rest ∧ K (pc + 1) (lv) (.int (x * y) :: rest) (μ) b
  | .iand => len = 1 ∧ ∃ (x : Int32) (y : Int32) (rest : List Value), st = .int y :: .int x :: rest ∧ K (pc + 1) (lv) (.int (x &&& y) :: rest) (μ) b
  | .ior => len = 1 ∧ ∃ (x : Int32) (y : Int32) (rest : List Value), st = .int y :: .int x :: rest ∧ K (pc + 1) (lv) (.int (x ||| y) :: rest) (μ) b
  | .ixor => len = 1 ∧ ∃ (x : Int32) (y : Int32) (rest : List Value), st = .int y :: .int x :: rest ∧ K (pc + 1) (lv) (.int (x ^^^ y) :: rest) (μ) b
  | .ishl => len = 1 ∧ ∃ (x : Int32) (y : Int32) (rest : List Value), st = .int y :: .int x :: rest ∧ K (pc + 1) (lv) (.int (shlI x y) :: rest) (μ) b
  | .ishr => len = 1 ∧ ∃ (x : Int32) (y : Int32) (rest : List Value), st = .int y :: .int x :: rest ∧ K (pc + 1) (lv) (.int (shrI x y) :: rest) (μ) b
  | .iushr => len = 1 ∧ ∃ (x : Int32) (y : Int32) (rest : List Value), st = .int y :: .int x :: rest ∧ K (pc + 1) (lv) (.int (ushrI x y) :: rest) (μ) b
  | .idiv => len = 1 ∧ ∃ (x : Int32) (y : Int32) (rest : List Value), st = .int y :: .int x :: rest ∧ ¬ y = 0 ∧ K (pc + 1) (lv) (.int (x / y) :: rest) (μ) b
  | .irem => len = 1 ∧ ∃ (x : Int32) (y : Int32) (rest : List Value), st = .int y :: .int x :: rest ∧ ¬ y = 0 ∧ K (pc + 1) (lv) (.int (remI x y) :: rest) (μ) b
  | .ladd => len = 1 ∧ ∃ (x : Int64) (y : Int64) (rest : List Value), st = .long y :: .long x :: rest ∧ K (pc + 1) (lv) (.long (x + y) :: rest) (μ) b
  | .lsub => len = 1 ∧ ∃ (x : Int64) (y : Int64) (rest : List Value), st = .long y :: .long x :: rest ∧ K (pc + 1) (lv) (.long (x - y) :: rest) (μ) b
  | .lmul => len = 1 ∧ ∃ (x : Int64) (y : Int64) (rest : List Value), st = .long y :: .long x :: rest ∧ K (pc + 1) (lv) (.long (x * y) :: rest) (μ) b
  | .land => len = 1 ∧ ∃ (x : Int64) (y : Int64) (rest : List Value), st = .long y :: .long x :: rest ∧ K (pc + 1) (lv) (.long (x &&& y) :: rest) (μ) b
  | .lor => len = 1 ∧ ∃ (x : Int64) (y : Int64) (rest : List Value), st = .long y :: .long x :: rest ∧ K (pc + 1) (lv) (.long (x ||| y) :: rest) (μ) b
  | .lxor => len = 1 ∧ ∃ (x : Int64) (y : Int64) (rest : List Value), st = .long y :: .long x :: rest ∧ K (pc + 1) (lv) (.long (x ^^^ y) :: rest) (μ) b
  | .ldiv => len = 1 ∧ ∃ (x : Int64) (y : Int64) (rest : List Value), st = .long y :: .long x :: rest ∧ ¬ y = 0 ∧ K (pc + 1) (lv) (.long (x / y) :: rest) (μ) b
  | .lrem => len = 1 ∧ ∃ (x : Int64) (y : Int64) (rest : List Value), st = .long y :: .long x :: rest ∧ ¬ y = 0 ∧ K (pc + 1) (lv) (.long (remL x y) :: rest) (μ) b
  | .lshl => len = 1 ∧ ∃ (x : Int64) (y : Int32) (rest : List Value), st = .int y :: .long x :: rest ∧ K (pc + 1) (lv) (.long (shlL x y) :: rest) (μ) b
  | .lushr => len = 1 ∧ ∃ (x : Int64) (y : Int32) (rest : List Value), st = .int y :: .long x :: rest ∧ K (pc + 1) (lv) (.long (ushrL x y) :: rest) (μ) b
  | .lshr => len = 1 ∧ ∃ (x : Int64) (y : Int32) (rest : List Value), st = .int y :: .long x :: rest ∧ K (pc + 1) (lv) (.long (shrL x y) :: rest) (μ) b
  | .ineg => len = 1 ∧ ∃ (x : Int32) (rest : List Value), st = .int x :: rest ∧ K (pc + 1) (lv) (.int (-x) :: rest) (μ) b
  | .lneg => len = 1 ∧ ∃ (x : Int64) (rest : List Value), st = .long x :: rest ∧ K (pc + 1) (lv) (.long (-x) :: rest) (μ) b
  | .i2l => len = 1 ∧ ∃ (x : Int32) (rest : List Value), st = .int x :: rest ∧ K (pc + 1) (lv) (.long x.toInt64 :: rest) (μ) b
  | .l2i => len = 1 ∧ ∃ (x : Int64) (rest : List Value), st = .long x :: rest ∧ K (pc + 1) (lv) (.int x.toInt32 :: rest) (μ) b
  | .i2c => len = 1 ∧ ∃ (x : Int32) (rest : List Value), st = .int x :: rest ∧ K (pc + 1) (lv) (.int (i2c x) :: rest) (μ) b
  | .lcmp => len = 1 ∧ ∃ (x : Int64) (y : Int64) (rest : List Value), st = .long y :: .long x :: rest ∧ K (pc + 1) (lv) (.int (lg_cmp x y) :: rest) (μ) b
  | .dup => len = 1 ∧ ∃ (v : Value) (rest : List Value), st = v :: rest ∧ v.category = 1 ∧ K (pc + 1) (lv) (v :: v :: rest) (μ) b
  | .dup2 => len = 1 ∧ ∃ (v : Value) (w : Value) (rest : List Value), st = v :: w :: rest ∧ v.category = 1 ∧ w.category = 1 ∧ K (pc + 1) (lv) (v :: w :: v :: w :: rest) (μ) b
  | .pop => len = 1 ∧ ∃ (v : Value) (rest : List Value), st = v :: rest ∧ v.category = 1 ∧ K (pc + 1) (lv) (rest) (μ) b
  | .goto off => len = 3 ∧ ∃ (tgt : Nat), (pc : Int) + off = (tgt : Int) ∧ K (tgt) (lv) (st) (μ) b
  | .ifnull off => len = 3 ∧ ∃ (k : Nat) (rest : List Value), st = .ref k :: rest ∧ K (pc + 3) (lv) (rest) (μ) b
  | .ifnonnull off => len = 3 ∧ ∃ (k : Nat) (rest : List Value) (tgt : Nat), st = .ref k :: rest ∧ (pc : Int) + off = (tgt : Int) ∧ K (tgt) (lv) (rest) (μ) b
  | .laload => len = 1 ∧ ∃ (i : Int32) (k : Nat) (rest : List Value) (n : Nat), st = .int i :: .ref k :: rest ∧ k < mNP M ∧ sh k = .inr (1, n) ∧ vp_in i n ∧ K (pc + 1) (lv) (.long (μ.2.1 k i.toNatClampNeg) :: rest) (μ) b
  | .caload => len = 1 ∧ ∃ (i : Int32) (k : Nat) (rest : List Value) (n : Nat), st = .int i :: .ref k :: rest ∧ k < mNP M ∧ sh k = .inr (2, n) ∧ vp_in i n ∧ K (pc + 1) (lv) (.int (μ.1 k i.toNatClampNeg) :: rest) (μ) b
  | .baload => len = 1 ∧ ∃ (i : Int32) (k : Nat) (rest : List Value) (n : Nat), st = .int i :: .ref k :: rest ∧ k < mNP M ∧ sh k = .inr (3, n) ∧ vp_in i n ∧ K (pc + 1) (lv) (.int (μ.1 k i.toNatClampNeg) :: rest) (μ) b
  | .aaload => len = 1 ∧ ∃ (i : Int32) (k : Nat) (rest : List Value) (n : Nat), st = .int i :: .ref k :: rest ∧ k < mNP M ∧ sh k = .inr (4, n) ∧ vp_in i n ∧ μ.2.2 k i.toNatClampNeg < 29 ∧ K (pc + 1) (lv) (.ref (μ.2.2 k i.toNatClampNeg) :: rest) (μ) b
  | .iastore => len = 1 ∧ ∃ (x : Int32) (i : Int32) (k : Nat) (rest : List Value) (n : Nat), st = .int x :: .int i :: .ref k :: rest ∧ k < mNP M ∧ sh k = .inr (0, n) ∧ vp_in i n ∧ K (pc + 1) (lv) (rest) (sI μ k i.toNatClampNeg (x)) b
  | .lastore => len = 1 ∧ ∃ (x : Int64) (i : Int32) (k : Nat) (rest : List Value) (n : Nat), st = .long x :: .int i :: .ref k :: rest ∧ k < mNP M ∧ sh k = .inr (1, n) ∧ vp_in i n ∧ K (pc + 1) (lv) (rest) (sJ μ k i.toNatClampNeg (x)) b
  | .castore => len = 1 ∧ ∃ (x : Int32) (i : Int32) (k : Nat) (rest : List Value) (n : Nat), st = .int x :: .int i :: .ref k :: rest ∧ k < mNP M ∧ sh k = .inr (2, n) ∧ vp_in i n ∧ K (pc + 1) (lv) (rest) (sI μ k i.toNatClampNeg (vp_nar .char x)) b
  | .bastore => len = 1 ∧ ∃ (x : Int32) (i : Int32) (k : Nat) (rest : List Value) (n : Nat), st = .int x :: .int i :: .ref k :: rest ∧ k < mNP M ∧ sh k = .inr (3, n) ∧ vp_in i n ∧ K (pc + 1) (lv) (rest) (sI μ k i.toNatClampNeg (vp_nar .boolean x)) b
  | .iaload => len = 1 ∧ ∃ (i : Int32) (k : Nat) (rest : List Value) (v : Int32), st = .int i :: .ref k :: rest ∧ ((k < mNP M ∧ ∃ n, sh k = .inr (0, n) ∧ vp_in i n ∧ μ.1 k i.toNatClampNeg = v) ∨ (k = SCR ∧ ∃ (L : Nat) (xs : Nat → Int32), mScr M = some (L, xs) ∧ vp_in i L ∧ xs i.toNatClampNeg = v)) ∧ K (pc + 1) lv (.int v :: rest) μ b
  | .arraylength => len = 1 ∧ ∃ (k : Nat) (rest : List Value) (v : Int32), st = .ref k :: rest ∧ ((k < mNP M ∧ ∃ t n, sh k = .inr (t, n) ∧ t < 5 ∧ Int32.ofNat n = v) ∨ (k = SCR ∧ ∃ (L : Nat) (xs : Nat → Int32), mScr M = some (L, xs) ∧ Int32.ofNat L = v)) ∧ K (pc + 1) lv (.int v :: rest) μ b
  | .aastore => len = 1 ∧ ∃ (x : Nat) (i : Int32) (k : Nat) (rest : List Value) (n : Nat), st = .ref x :: .int i :: .ref k :: rest ∧ k < mNP M ∧ sh k = .inr (4, n) ∧ vp_in i n ∧ x < 29 ∧ sh x = .inl 2 ∧ K (pc + 1) lv rest (sR μ k i.toNatClampNeg x) b
  | .getfield ix => len = 3 ∧ ∃ (k : Nat) (rest : List Value) (ci j t : Nat), st = .ref k :: rest ∧ (mFlds M).lookup ix = some (ci, j) ∧ k < mNP M ∧ sh k = .inl ci ∧ (ftL ci)[j]? = some t ∧ K (pc + 3) lv (gv μ k j t :: rest) μ b
  | .putfield ix => len = 3 ∧ ∃ (v : Value) (k : Nat) (rest : List Value) (ci j : Nat) (μ' : Mem), st = v :: .ref k :: rest ∧ (mFlds M).lookup ix = some (ci, j) ∧ k < mNP M ∧ sh k = .inl ci ∧ (((ftL ci)[j]? = some 0 ∧ ∃ x, v = .int x ∧ μ' = sI μ k j x) ∨ ((ftL ci)[j]? = some 1 ∧ ∃ x, v = .long x ∧ μ' = sJ μ k j x)) ∧ K (pc + 3) lv rest μ' b
  | .ifCond c off => len = 3 ∧ ∃ (x : Int32) (rest : List Value) (tgt : Nat), st = .int x :: rest ∧ (pc : Int) + off = (tgt : Int) ∧ (match c with
    | .eq => (x = 0 → K tgt lv rest μ b) ∧ (¬ x = 0 → K (pc + 3) lv rest μ b)
    | .ne => (¬ x = 0 → K tgt lv rest μ b) ∧ (x = 0 → K (pc + 3) lv rest μ b)
    | .lt => (x < 0 → K tgt lv rest μ b) ∧ (¬ x < 0 → K (pc + 3) lv rest μ b)
    | .ge => (0 ≤ x → K tgt lv rest μ b) ∧ (¬ 0 ≤ x → K (pc + 3) lv rest μ b)
    | .gt => (0 < x → K tgt lv rest μ b) ∧ (¬ 0 < x → K (pc + 3) lv rest μ b)
    | .le => (x ≤ 0 → K tgt lv rest μ b) ∧ (¬ x ≤ 0 → K (pc + 3) lv rest μ b))
  | .if_icmp c off => len = 3 ∧ ∃ (x y : Int32) (rest : List Value) (tgt : Nat), st = .int y :: .int x :: rest ∧ (pc : Int) + off = (tgt : Int) ∧ (match c with
    | .eq => (x = y → K tgt lv rest μ b) ∧ (¬ x = y → K (pc + 3) lv rest μ b)
    | .ne => (¬ x = y → K tgt lv rest μ b) ∧ (x = y → K (pc + 3) lv rest μ b)
    | .lt => (x < y → K tgt lv rest μ b) ∧ (¬ x < y → K (pc + 3) lv rest μ b)
    | .ge => (y ≤ x → K tgt lv rest μ b) ∧ (¬ y ≤ x → K (pc + 3) lv rest μ b)
    | .gt => (y < x → K tgt lv rest μ b) ∧ (¬ y < x → K (pc + 3) lv rest μ b)
    | .le => (x ≤ y → K tgt lv rest μ b) ∧ (¬ x ≤ y → K (pc + 3) lv rest μ b))
  | .tableswitch dflt lo hi offs => ∃ (x : Int32) (rest : List Value), st = .int x :: rest ∧ ((∃ (off : Int) (tgt : Nat), ¬ x.toInt < lo ∧ ¬ hi < x.toInt ∧ offs[(x.toInt - lo).toNat]? = some off ∧ (pc : Int) + off = (tgt : Int) ∧ K tgt lv rest μ b) ∨ (∃ tgt : Nat, (x.toInt < lo ∨ hi < x.toInt) ∧ (pc : Int) + dflt = (tgt : Int) ∧ K tgt lv rest μ b))
  | .ireturn => len = 1 ∧ ∃ (x : Int32) (ty : FieldType), st = [.int x] ∧ mRet M = some ty ∧ narrow ty (.int x) = .int x ∧ Q (.inl (some (.int x))) μ
  | .lreturn => len = 1 ∧ ∃ x : Int64, st = [.long x] ∧ mRet M = some .long ∧ Q (.inl (some (.long x))) μ
  | .return_ => len = 1 ∧ st = [] ∧ mRet M = none ∧ Q (.inl none) μ
  | .new _ => ∃ E, (mThr M).lookup pc = some E ∧ cats st ≤ 8 ∧ 1 ≤ b ∧ mHnd M = [] ∧ Q (.inr E) μ
  | .invokestatic ix => len = 3 ∧ ∃ (ci : CI) (as rest : List Value) (r : Res) (μ' : Mem), (mCalls M).lookup ix = some ci ∧ ¬ ci.1 = 1 ∧ st = as.reverse ++ rest ∧ as.length = ci.2.1 ∧ cats rest ≤ 8 ∧ cst ci.1 r ci.2.2.1 ≤ b ∧ ci.2.2.2.2 as μ r μ' ∧ CK M Q K pc lv rest μ' (b - cst ci.1 r ci.2.2.1) r
  | .invokevirtual ix => len = 3 ∧ ∃ (ci : CI) (k : Nat) (as rest : List Value) (r : Res) (μ' : Mem), (mCalls M).lookup ix = some ci ∧ ci.1 = 1 ∧ st = as.reverse ++ .ref k :: rest ∧ as.length = ci.2.1 ∧ k < mNP M ∧ sh k = .inl ci.2.2.2.1 ∧ cats rest ≤ 8 ∧ cst ci.1 r ci.2.2.1 ≤ b ∧ ci.2.2.2.2 (.ref k :: as) μ r μ' ∧ CK M Q K pc lv rest μ' (b - cst ci.1 r ci.2.2.1) r
  | _ => False
def Go (M : MI) (Q : Res → Mem → Prop) : Nat → Nat → LV → List Value → Mem → Nat → Prop
  | 0, _, _, _, _, _ => False
  | n + 1, pc, lv, st, μ, b => (∃ lv', lvle lv' lv ∧ Go M Q n pc lv' st μ b) ∨ ∃ ins len, decode M.1 pc = .ok (ins, len) ∧ GoI M Q (Go M Q n) pc lv st μ b ins len
def G (M : MI) (Q : Res → Mem → Prop) (pc : Nat) (lv : LV) (st : List Value) (μ : Mem) (b : Nat) : Prop := ∃ n, Go M Q n pc lv st μ b
section Steps
variable {M : MI} {Q : Res → Mem → Prop} {pc : Nat} {lv : LV} {st rest : List Value} {μ : Mem} {b : Nat}
theorem e_of {ins : Instr} {len : Nat} {pc' : Nat} {lv' : LV} {st' : List Value} {μ' : Mem} {b' : Nat} (hd : decode M.1 pc = .ok (ins, len)) (k : G M Q pc' lv' st' μ' b') (f : ∀ n, Go M Q n pc' lv' st' μ' b' → GoI M Q (Go M Q n) pc lv st μ b ins len) : G M Q pc lv st μ b := by
  obtain ⟨n, h⟩ := k
  exact ⟨n + 1, Or.inr ⟨ins, len, hd, f n h⟩⟩
theorem e_end {ins : Instr} {len : Nat} (hd : decode M.1 pc = .ok (ins, len)) (f : GoI M Q (Go M Q 0) pc lv st μ b ins len) : G M Q pc lv st μ b := ⟨1, Or.inr ⟨ins, len, hd, f⟩⟩
theorem e_le {lv' : LV} (k : G M Q pc lv' st μ b) (h : lvle lv' lv) : G M Q pc lv st μ b := by
  obtain ⟨n, h2⟩ := k
  exact ⟨n + 1, Or.inl ⟨lv', h, h2⟩⟩

theorem e_iload {i : Nat} {x : Int32} (hd : decode M.1 pc = .ok (.iload i, 2)) (c1 : lv[i]? = some (some (.int x))) (kk : G M Q (pc + 2) (lv) (.int x :: st) (μ) b) : G M Q pc lv (st) μ b := e_of hd kk (fun m9 h => ⟨rfl, x, c1, h⟩)
theorem e_iload_n {i : Fin 4} {x : Int32} (hd : decode M.1 pc = .ok (.iload_n i, 1)) (c1 : lv[i.val]? = some (some (.int x))) (kk : G M Q (pc + 1) (lv) (.int x :: st) (μ) b) : G M Q pc lv (st) μ b := e_of hd kk (fun m9 h => ⟨rfl, x, c1, h⟩)
theorem e_lload {i : Nat} {x : Int64} (hd : decode M.1 pc = .ok (.lload i, 2)) (c1 : lv[i]? = some (some (.long x))) (kk : G M Q (pc + 2) (lv) (.long x :: st) (μ) b) : G M Q pc lv (st) μ b := e_of hd kk (fun m9 h => ⟨rfl, x, c1, h⟩)
theorem e_lload_n {i : Fin 4} {x : Int64} (hd : decode M.1 pc = .ok (.lload_n i, 1)) (c1 : lv[i.val]? = some (some (.long x))) (kk : G M Q (pc + 1) (lv) (.long x :: st) (μ) b) : G M Q pc lv (st) μ b := e_of hd kk (fun m9 h => ⟨rfl, x, c1, h⟩)
theorem e_aload {i : Nat} {x : Nat} (hd : decode M.1 pc = .ok (.aload i, 2)) (c1 : lv[i]? = some (some (.ref x))) (kk : G M Q (pc + 2) (lv) (.ref x :: st) (μ) b) : G M Q pc lv (st) μ b := e_of hd kk (fun m9 h => ⟨rfl, x, c1, h⟩)
theorem e_aload_n {i : Fin 4} {x : Nat} (hd : decode M.1 pc = .ok (.aload_n i, 1)) (c1 : lv[i.val]? = some (some (.ref x))) (kk : G M Q (pc + 1) (lv) (.ref x :: st) (μ) b) : G M Q pc lv (st) μ b := e_of hd kk (fun m9 h => ⟨rfl, x, c1, h⟩)
theorem e_istore {i : Nat} {x : Int32} (hd : decode M.1 pc = .ok (.istore i, 2)) (c1 : i < lv.length) (kk : G M Q (pc + 2) (ls1 lv i (.int x)) (rest) (μ) b) : G M Q pc lv (.int x :: rest) μ b := e_of hd kk (fun m9 h => ⟨rfl, x, rest, rfl, c1, h⟩)
theorem e_istore_n {i : Fin 4} {x : Int32} (hd : decode M.1 pc = .ok (.istore_n i, 1)) (c1 : i.val < lv.length) (kk : G M Q (pc + 1) (ls1 lv i.val (.int x)) (rest) (μ) b) : G M Q pc lv (.int x :: rest) μ b := e_of hd kk (fun m9 h => ⟨rfl, x, rest, rfl, c1, h⟩)
theorem e_lstore {i : Nat} {x : Int64} (hd : decode M.1 pc = .ok (.lstore i, 2)) (c1 : i + 1 < lv.length) (kk : G M Q (pc + 2) (ls2 lv i (.long x)) (rest) (μ) b) : G M Q pc lv (.long x :: rest) μ b := e_of hd kk (fun m9 h => ⟨rfl, x, rest, rfl, c1, h⟩)
theorem e_lstore_n {i : Fin 4} {x : Int64} (hd : decode M.1 pc = .ok (.lstore_n i, 1)) (c1 : i.val + 1 < lv.length) (kk : G M Q (pc + 1) (ls2 lv i.val (.long x)) (rest) (μ) b) : G M Q pc lv (.long x :: rest) μ b := e_of hd kk (fun m9 h => ⟨rfl, x, rest, rfl, c1, h⟩)
theorem e_astore {i : Nat} {x : Nat} (hd : decode M.1 pc = .ok (.astore i, 2)) (c1 : i < lv.length) (kk : G M Q (pc + 2) (ls1 lv i (.ref x)) (rest) (μ) b) : G M Q pc lv (.ref x :: rest) μ b := e_of hd kk (fun m9 h => ⟨rfl, x, rest, rfl, c1, h⟩)
theorem e_astore_n {i : Fin 4} {x : Nat} (hd : decode M.1 pc = .ok (.astore_n i, 1)) (c1 : i.val < lv.length) (kk : G M Q (pc + 1) (ls1 lv i.val (.ref x)) (rest) (μ) b) : G M Q pc lv (.ref x :: rest) μ b := e_of hd kk (fun m9 h => ⟨rfl, x, rest, rfl, c1, h⟩)
theorem e_iinc {i : Nat} {k : Int} {x : Int32} (hd : decode M.1 pc = .ok (.iinc i k, 3)) (c1 : lv[i]? = some (some (.int x))) (kk : G M Q (pc + 3) (ls1 lv i (.int (x + Int32.ofInt k))) (st) (μ) b) : G M Q pc lv (st) μ b := e_of hd kk (fun m9 h => ⟨rfl, x, c1, h⟩)
theorem e_iconst {k : Int} {v : Int32} (hd : decode M.1 pc = .ok (.iconst k, 1)) (c1 : Int32.ofInt k = v) (kk : G M Q (pc + 1) (lv) (.int v :: st) (μ) b) : G M Q pc lv (st) μ b := e_of hd kk (fun m9 h => ⟨rfl, v, c1, h⟩)
theorem e_bipush {k : Int} {v : Int32} (hd : decode M.1 pc = .ok (.bipush k, 2)) (c1 : (Int8.ofInt k).toInt32 = v) (kk : G M Q (pc + 2) (lv) (.int v :: st) (μ) b) : G M Q pc lv (st) μ b := e_of hd kk (fun m9 h => ⟨rfl, v, c1, h⟩)
theorem e_sipush {k : Int} {v : Int32} (hd : decode M.1 pc = .ok (.sipush k, 3)) (c1 : (Int16.ofInt k).toInt32 = v) (kk : G M Q (pc + 3) (lv) (.int v :: st) (μ) b) : G M Q pc lv (st) μ b := e_of hd kk (fun m9 h => ⟨rfl, v, c1, h⟩)
theorem e_lconst {k : Fin 2} {v : Int64} (hd : decode M.1 pc = .ok (.lconst k, 1)) (c1 : Int64.ofNat (k : Nat) = v) (kk : G M Q (pc + 1) (lv) (.long v :: st) (μ) b) : G M Q pc lv (st) μ b := e_of hd kk (fun m9 h => ⟨rfl, v, c1, h⟩)
theorem e_ldc {k : Nat} {v : Int32} (hd : decode M.1 pc = .ok (.ldc k, 2)) (c1 : (mC32 M).lookup k = some v) (kk : G M Q (pc + 2) (lv) (.int v :: st) (μ) b) : G M Q pc lv (st) μ b := e_of hd kk (fun m9 h => ⟨rfl, v, c1, h⟩)
theorem e_ldc_w {k : Nat} {v : Int32} (hd : decode M.1 pc = .ok (.ldc_w k, 3)) (c1 : (mC32 M).lookup k = some v) (kk : G M Q (pc + 3) (lv) (.int v :: st) (μ) b) : G M Q pc lv (st) μ b := e_of hd kk (fun m9 h => ⟨rfl, v, c1, h⟩)
theorem e_ldc2 {k : Nat} {v : Int64} (hd : decode M.1 pc = .ok (.ldc2_w k, 3)) (c1 : (mC64 M).lookup k = some v) (kk : G M Q (pc + 3) (lv) (.long v :: st) (μ) b) : G M Q pc lv (st) μ b := e_of hd kk (fun m9 h => ⟨rfl, v, c1, h⟩)
theorem e_iadd {x : Int32} {y : Int32} (hd : decode M.1 pc = .ok (.iadd, 1)) (kk : G M Q (pc + 1) (lv) (.int (x + y) :: rest) (μ) b) : G M Q pc lv (.int y :: .int x :: rest) μ b := e_of hd kk (fun m9 h => ⟨rfl, x, y, rest, rfl, h⟩)
theorem e_isub {x : Int32} {y : Int32} (hd : decode M.1 pc = .ok (.isub, 1)) (kk : G M Q (pc + 1) (lv) (.int (x - y) :: rest) (μ) b) : G M Q pc lv (.int y :: .int x :: rest) μ b := e_of hd kk (fun m9 h => ⟨rfl, x, y, rest, rfl, h⟩)
theorem e_imul {x : Int32} {y : Int32} (hd : decode M.1 pc = .ok (.imul, 1)) (kk : G M Q (pc + 1) (lv) (.int (x * y) :: rest) (μ) b) : G M Q pc lv (.int y :: .int x :: rest) μ b := e_of hd kk (fun m9 h => ⟨rfl, x, y, rest, rfl, h⟩)
theorem e_iand {x : Int32} {y : Int32} (hd : decode M.1 pc = .ok (.iand, 1)) (kk : G M Q (pc + 1) (lv) (.int (x &&& y) :: rest) (μ) b) : G M Q pc lv (.int y :: .int x :: rest) μ b := e_of hd kk (fun m9 h => ⟨rfl, x, y, rest, rfl, h⟩)
theorem e_ior {x : Int32} {y : Int32} (hd : decode M.1 pc = .ok (.ior, 1)) (kk : G M Q (pc + 1) (lv) (.int (x ||| y) :: rest) (μ) b) : G M Q pc lv (.int y :: .int x :: rest) μ b := e_of hd kk (fun m9 h => ⟨rfl, x, y, rest, rfl, h⟩)
theorem e_ixor {x : Int32} {y : Int32} (hd : decode M.1 pc = .ok (.ixor, 1)) (kk : G M Q (pc + 1) (lv) (.int (x ^^^ y) :: rest) (μ) b) : G M Q pc lv (.int y :: .int x :: rest) μ b := e_of hd kk (fun m9 h => ⟨rfl, x, y, rest, rfl, h⟩)
theorem e_ishl {x : Int32} {y : Int32} (hd : decode M.1 pc = .ok (.ishl, 1)) (kk : G M Q (pc + 1) (lv) (.int (shlI x y) :: rest) (μ) b) : G M Q pc lv (.int y :: .int x :: rest) μ b := e_of hd kk (fun m9 h => ⟨rfl, x, y, rest, rfl, h⟩)
theorem e_ishr {x : Int32} {y : Int32} (hd : decode M.1 pc = .ok (.ishr, 1)) (kk : G M Q (pc + 1) (lv) (.int (shrI x y) :: rest) (μ) b) : G M Q pc lv (.int y :: .int x :: rest) μ b := e_of hd kk (fun m9 h => ⟨rfl, x, y, rest, rfl, h⟩)
theorem e_iushr {x : Int32} {y : Int32} (hd : decode M.1 pc = .ok (.iushr, 1)) (kk : G M Q (pc + 1) (lv) (.int (ushrI x y) :: rest) (μ) b) : G M Q pc lv (.int y :: .int x :: rest) μ b := e_of hd kk (fun m9 h => ⟨rfl, x, y, rest, rfl, h⟩)
theorem e_idiv {x : Int32} {y : Int32} (hd : decode M.1 pc = .ok (.idiv, 1)) (c1 : ¬ y = 0) (kk : G M Q (pc + 1) (lv) (.int (x / y) :: rest) (μ) b) : G M Q pc lv (.int y :: .int x :: rest) μ b := e_of hd kk (fun m9 h => ⟨rfl, x, y, rest, rfl, c1, h⟩)
theorem e_irem {x : Int32} {y : Int32} (hd : decode M.1 pc = .ok (.irem, 1)) (c1 : ¬ y = 0) (kk : G M Q (pc + 1) (lv) (.int (remI x y) :: rest) (μ) b) : G M Q pc lv (.int y :: .int x :: rest) μ b := e_of hd kk (fun m9 h => ⟨rfl, x, y, rest, rfl, c1, h⟩)
theorem e_ladd {x : Int64} {y : Int64} (hd : decode M.1 pc = .ok (.ladd, 1)) (kk : G M Q (pc + 1) (lv) (.long (x + y) :: rest) (μ) b) : G M Q pc lv (.long y :: .long x :: rest) μ b := e_of hd kk (fun m9 h => ⟨rfl, x, y, rest, rfl, h⟩)
theorem e_lsub {x : Int64} {y : Int64} (hd : decode M.1 pc = .ok (.lsub, 1)) (kk : G M Q (pc + 1) (lv) (.long (x - y) :: rest) (μ) b) : G M Q pc lv (.long y :: .long x :: rest) μ b := e_of hd kk (fun m9 h => ⟨rfl, x, y, rest, rfl, h⟩)
theorem e_lmul {x : Int64} {y : Int64} (hd : decode M.1 pc = .ok (.lmul, 1)) (kk : G M Q (pc + 1) (lv) (.long (x * y) :: rest) (μ) b) : G M Q pc lv (.long y :: .long x :: rest) μ b := e_of hd kk (fun m9 h => ⟨rfl, x, y, rest, rfl, h⟩)
theorem e_land {x : Int64} {y : Int64} (hd : decode M.1 pc = .ok (.land, 1)) (kk : G M Q (pc + 1) (lv) (.long (x &&& y) :: rest) (μ) b) : G M Q pc lv (.long y :: .long x :: rest) μ b := e_of hd kk (fun m9 h => ⟨rfl, x, y, rest, rfl, h⟩)
theorem e_lor {x : Int64} {y : Int64} (hd : decode M.1 pc = .ok (.lor, 1)) (kk : G M Q (pc + 1) (lv) (.long (x ||| y) :: rest) (μ) b) : G M Q pc lv (.long y :: .long x :: rest) μ b := e_of hd kk (fun m9 h => ⟨rfl, x, y, rest, rfl, h⟩)
theorem e_lxor {x : Int64} {y : Int64} (hd : decode M.1 pc = .ok (.lxor, 1)) (kk : G M Q (pc + 1) (lv) (.long (x ^^^ y) :: rest) (μ) b) : G M Q pc lv (.long y :: .long x :: rest) μ b := e_of hd kk (fun m9 h => ⟨rfl, x, y, rest, rfl, h⟩)
theorem e_ldiv {x : Int64} {y : Int64} (hd : decode M.1 pc = .ok (.ldiv, 1)) (c1 : ¬ y = 0) (kk : G M Q (pc + 1) (lv) (.long (x / y) :: rest) (μ) b) : G M Q pc lv (.long y :: .long x :: rest) μ b := e_of hd kk (fun m9 h => ⟨rfl, x, y, rest, rfl, c1, h⟩)
theorem e_lrem {x : Int64} {y : Int64} (hd : decode M.1 pc = .ok (.lrem, 1)) (c1 : ¬ y = 0) (kk : G M Q (pc + 1) (lv) (.long (remL x y) :: rest) (μ) b) : G M Q pc lv (.long y :: .long x :: rest) μ b := e_of hd kk (fun m9 h => ⟨rfl, x, y, rest, rfl, c1, h⟩)
theorem e_lshl {x : Int64} {y : Int32} (hd : decode M.1 pc = .ok (.lshl, 1)) (kk : G M Q (pc + 1) (lv) (.long (shlL x y) :: rest) (μ) b) : G M Q pc lv (.int y :: .long x :: rest) μ b := e_of hd kk (fun m9 h => ⟨rfl, x, y, rest, rfl, h⟩)
theorem e_lushr {x : Int64} {y : Int32} (hd : decode M.1 pc = .ok (.lushr, 1)) (kk : G M Q (pc + 1) (lv) (.long (ushrL x y) :: rest) (μ) b) : G M Q pc lv (.int y :: .long x :: rest) μ b := e_of hd kk (fun m9 h => ⟨rfl, x, y, rest, rfl, h⟩)
theorem e_lshr {x : Int64} {y : Int32} (hd : decode M.1 pc = .ok (.lshr, 1)) (kk : G M Q (pc + 1) (lv) (.long (shrL x y) :: rest) (μ) b) : G M Q pc lv (.int y :: .long x :: rest) μ b := e_of hd kk (fun m9 h => ⟨rfl, x, y, rest, rfl, h⟩)
theorem e_ineg {x : Int32} (hd : decode M.1 pc = .ok (.ineg, 1)) (kk : G M Q (pc + 1) (lv) (.int (-x) :: rest) (μ) b) : G M Q pc lv (.int x :: rest) μ b := e_of hd kk (fun m9 h => ⟨rfl, x, rest, rfl, h⟩)
theorem e_lneg {x : Int64} (hd : decode M.1 pc = .ok (.lneg, 1)) (kk : G M Q (pc + 1) (lv) (.long (-x) :: rest) (μ) b) : G M Q pc lv (.long x :: rest) μ b := e_of hd kk (fun m9 h => ⟨rfl, x, rest, rfl, h⟩)
theorem e_i2l {x : Int32} (hd : decode M.1 pc = .ok (.i2l, 1)) (kk : G M Q (pc + 1) (lv) (.long x.toInt64 :: rest) (μ) b) : G M Q pc lv (.int x :: rest) μ b := e_of hd kk (fun m9 h => ⟨rfl, x, rest, rfl, h⟩)
theorem e_l2i {x : Int64} (hd : decode M.1 pc = .ok (.l2i, 1)) (kk : G M Q (pc + 1) (lv) (.int x.toInt32 :: rest) (μ) b) : G M Q pc lv (.long x :: rest) μ b := e_of hd kk (fun m9 h => ⟨rfl, x, rest, rfl, h⟩)
theorem e_i2c {x : Int32} (hd : decode M.1 pc = .ok (.i2c, 1)) (kk : G M Q (pc + 1) (lv) (.int (i2c x) :: rest) (μ) b) : G M Q pc lv (.int x :: rest) μ b := e_of hd kk (fun m9 h => ⟨rfl, x, rest, rfl, h⟩)
theorem e_lcmp {x : Int64} {y : Int64} (hd : decode M.1 pc = .ok (.lcmp, 1)) (kk : G M Q (pc + 1) (lv) (.int (lg_cmp x y) :: rest) (μ) b) : G M Q pc lv (.long y :: .long x :: rest) μ b := e_of hd kk (fun m9 h => ⟨rfl, x, y, rest, rfl, h⟩)
theorem e_dup {v : Value} (hd : decode M.1 pc = .ok (.dup, 1)) (c1 : v.category = 1) (kk : G M Q (pc + 1) (lv) (v :: v :: rest) (μ) b) : G M Q pc lv (v :: rest) μ b := e_of hd kk (fun m9 h => ⟨rfl, v, rest, rfl, c1, h⟩)
theorem e_dup2 {v : Value} {w : Value} (hd : decode M.1 pc = .ok (.dup2, 1)) (c1 : v.category = 1) (c2 : w.category = 1) (kk : G M Q (pc + 1) (lv) (v :: w :: v :: w :: rest) (μ) b) : G M Q pc lv (v :: w :: rest) μ b := e_of hd kk (fun m9 h => ⟨rfl, v, w, rest, rfl, c1, c2, h⟩)
theorem e_pop {v : Value} (hd : decode M.1 pc = .ok (.pop, 1)) (c1 : v.category = 1) (kk : G M Q (pc + 1) (lv) (rest) (μ) b) : G M Q pc lv (v :: rest) μ b := e_of hd kk (fun m9 h => ⟨rfl, v, rest, rfl, c1, h⟩)
theorem e_goto {off : Int} {tgt : Nat} (hd : decode M.1 pc = .ok (.goto off, 3)) (c1 : (pc : Int) + off = (tgt : Int)) (kk : G M Q (tgt) (lv) (st) (μ) b) : G M Q pc lv (st) μ b := e_of hd kk (fun m9 h => ⟨rfl, tgt, c1, h⟩)
theorem e_ifnull {off : Int} {k : Nat} (hd : decode M.1 pc = .ok (.ifnull off, 3)) (kk : G M Q (pc + 3) (lv) (rest) (μ) b) : G M Q pc lv (.ref k :: rest) μ b := e_of hd kk (fun m9 h => ⟨rfl, k, rest, rfl, h⟩)
theorem e_ifnonnull {off : Int} {k : Nat} {tgt : Nat} (hd : decode M.1 pc = .ok (.ifnonnull off, 3)) (c1 : (pc : Int) + off = (tgt : Int)) (kk : G M Q (tgt) (lv) (rest) (μ) b) : G M Q pc lv (.ref k :: rest) μ b := e_of hd kk (fun m9 h => ⟨rfl, k, rest, tgt, rfl, c1, h⟩)
theorem e_laload {i : Int32} {k : Nat} {n : Nat} (hd : decode M.1 pc = .ok (.laload, 1)) (c1 : k < mNP M) (c2 : sh k = .inr (1, n)) (c3 : vp_in i n) (kk : G M Q (pc + 1) (lv) (.long (μ.2.1 k i.toNatClampNeg) :: rest) (μ) b) : G M Q pc lv (.int i :: .ref k :: rest) μ b := e_of hd kk (fun m9 h => ⟨rfl, i, k, rest, n, rfl, c1, c2, c3, h⟩)
theorem e_caload {i : Int32} {k : Nat} {n : Nat} (hd : decode M.1 pc = .ok (.caload, 1)) (c1 : k < mNP M) (c2 : sh k = .inr (2, n)) (c3 : vp_in i n) (kk : G M Q (pc + 1) (lv) (.int (μ.1 k i.toNatClampNeg) :: rest) (μ) b) : G M Q pc lv (.int i :: .ref k :: rest) μ b := e_of hd kk (fun m9 h => ⟨rfl, i, k, rest, n, rfl, c1, c2, c3, h⟩)
theorem e_baload {i : Int32} {k : Nat} {n : Nat} (hd : decode M.1 pc = .ok (.baload, 1)) (c1 : k < mNP M) (c2 : sh k = .inr (3, n)) (c3 : vp_in i n) (kk : G M Q (pc + 1) (lv) (.int (μ.1 k i.toNatClampNeg) :: rest) (μ) b) : G M Q pc lv (.int i :: .ref k :: rest) μ b := e_of hd kk (fun m9 h => ⟨rfl, i, k, rest, n, rfl, c1, c2, c3, h⟩)
theorem e_aaload {i : Int32} {k : Nat} {n : Nat} (hd : decode M.1 pc = .ok (.aaload, 1)) (c1 : k < mNP M) (c2 : sh k = .inr (4, n)) (c3 : vp_in i n) (c4 : μ.2.2 k i.toNatClampNeg < 29) (kk : G M Q (pc + 1) (lv) (.ref (μ.2.2 k i.toNatClampNeg) :: rest) (μ) b) : G M Q pc lv (.int i :: .ref k :: rest) μ b := e_of hd kk (fun m9 h => ⟨rfl, i, k, rest, n, rfl, c1, c2, c3, c4, h⟩)
theorem e_iastore {x : Int32} {i : Int32} {k : Nat} {n : Nat} (hd : decode M.1 pc = .ok (.iastore, 1)) (c1 : k < mNP M) (c2 : sh k = .inr (0, n)) (c3 : vp_in i n) (kk : G M Q (pc + 1) (lv) (rest) (sI μ k i.toNatClampNeg (x)) b) : G M Q pc lv (.int x :: .int i :: .ref k :: rest) μ b := e_of hd kk (fun m9 h => ⟨rfl, x, i, k, rest, n, rfl, c1, c2, c3, h⟩)
theorem e_lastore {x : Int64} {i : Int32} {k : Nat} {n : Nat} (hd : decode M.1 pc = .ok (.lastore, 1)) (c1 : k < mNP M) (c2 : sh k = .inr (1, n)) (c3 : vp_in i n) (kk : G M Q (pc + 1) (lv) (rest) (sJ μ k i.toNatClampNeg (x)) b) : G M Q pc lv (.long x :: .int i :: .ref k :: rest) μ b := e_of hd kk (fun m9 h => ⟨rfl, x, i, k, rest, n, rfl, c1, c2, c3, h⟩)
theorem e_castore {x : Int32} {i : Int32} {k : Nat} {n : Nat} (hd : decode M.1 pc = .ok (.castore, 1)) (c1 : k < mNP M) (c2 : sh k = .inr (2, n)) (c3 : vp_in i n) (kk : G M Q (pc + 1) (lv) (rest) (sI μ k i.toNatClampNeg (vp_nar .char x)) b) : G M Q pc lv (.int x :: .int i :: .ref k :: rest) μ b := e_of hd kk (fun m9 h => ⟨rfl, x, i, k, rest, n, rfl, c1, c2, c3, h⟩)
theorem e_bastore {x : Int32} {i : Int32} {k : Nat} {n : Nat} (hd : decode M.1 pc = .ok (.bastore, 1)) (c1 : k < mNP M) (c2 : sh k = .inr (3, n)) (c3 : vp_in i n) (kk : G M Q (pc + 1) (lv) (rest) (sI μ k i.toNatClampNeg (vp_nar .boolean x)) b) : G M Q pc lv (.int x :: .int i :: .ref k :: rest) μ b := e_of hd kk (fun m9 h => ⟨rfl, x, i, k, rest, n, rfl, c1, c2, c3, h⟩)

theorem e_iaload {i : Int32} {k n : Nat} (hd : decode M.1 pc = .ok (.iaload, 1)) (c1 : k < mNP M) (c2 : sh k = .inr (0, n)) (c3 : vp_in i n) (kk : G M Q (pc + 1) lv (.int (μ.1 k i.toNatClampNeg) :: rest) μ b) : G M Q pc lv (.int i :: .ref k :: rest) μ b := e_of hd kk (fun n h => ⟨rfl, i, k, rest, _, rfl, Or.inl ⟨c1, _, c2, c3, rfl⟩, h⟩)
theorem e_ialoadS {i : Int32} {L : Nat} {xs : Nat → Int32} (hd : decode M.1 pc = .ok (.iaload, 1)) (c1 : mScr M = some (L, xs)) (c3 : vp_in i L) (kk : G M Q (pc + 1) lv (.int (xs i.toNatClampNeg) :: rest) μ b) : G M Q pc lv (.int i :: .ref SCR :: rest) μ b := e_of hd kk (fun n h => ⟨rfl, i, SCR, rest, _, rfl, Or.inr ⟨rfl, L, xs, c1, c3, rfl⟩, h⟩)
theorem e_alen {k t n : Nat} {v : Int32} (hd : decode M.1 pc = .ok (.arraylength, 1)) (c1 : k < mNP M) (c2 : sh k = .inr (t, n)) (c3 : t < 5) (c4 : Int32.ofNat n = v) (kk : G M Q (pc + 1) lv (.int v :: rest) μ b) : G M Q pc lv (.ref k :: rest) μ b := e_of hd kk (fun m h => ⟨rfl, k, rest, _, rfl, Or.inl ⟨c1, t, n, c2, c3, c4⟩, h⟩)
theorem e_alenS {L : Nat} {xs : Nat → Int32} (hd : decode M.1 pc = .ok (.arraylength, 1)) (c1 : mScr M = some (L, xs)) (kk : G M Q (pc + 1) lv (.int (Int32.ofNat L) :: rest) μ b) : G M Q pc lv (.ref SCR :: rest) μ b := e_of hd kk (fun m h => ⟨rfl, SCR, rest, _, rfl, Or.inr ⟨rfl, L, xs, c1, rfl⟩, h⟩)
theorem e_aastore {x k n : Nat} {i : Int32} (hd : decode M.1 pc = .ok (.aastore, 1)) (c1 : k < mNP M) (c2 : sh k = .inr (4, n)) (c3 : vp_in i n) (c4 : x < 29) (c5 : sh x = .inl 2) (kk : G M Q (pc + 1) lv rest (sR μ k i.toNatClampNeg x) b) : G M Q pc lv (.ref x :: .int i :: .ref k :: rest) μ b := e_of hd kk (fun m h => ⟨rfl, x, i, k, rest, n, rfl, c1, c2, c3, c4, c5, h⟩)
theorem e_get {ix k ci j t : Nat} {v : Value} (hd : decode M.1 pc = .ok (.getfield ix, 3)) (c1 : (mFlds M).lookup ix = some (ci, j)) (c2 : k < mNP M) (c3 : sh k = .inl ci) (c4 : (ftL ci)[j]? = some t) (c5 : gv μ k j t = v) (kk : G M Q (pc + 3) lv (v :: rest) μ b) : G M Q pc lv (.ref k :: rest) μ b := by
  subst c5
  exact e_of hd kk (fun m h => ⟨rfl, k, rest, ci, j, t, rfl, c1, c2, c3, c4, h⟩)
theorem e_putI {ix k ci j : Nat} {x : Int32} (hd : decode M.1 pc = .ok (.putfield ix, 3)) (c1 : (mFlds M).lookup ix = some (ci, j)) (c2 : k < mNP M) (c3 : sh k = .inl ci) (c4 : (ftL ci)[j]? = some 0) (kk : G M Q (pc + 3) lv rest (sI μ k j x) b) : G M Q pc lv (.int x :: .ref k :: rest) μ b := e_of hd kk (fun m h => ⟨rfl, _, k, rest, ci, j, _, rfl, c1, c2, c3, Or.inl ⟨c4, x, rfl, rfl⟩, h⟩)
theorem e_putJ {ix k ci j : Nat} {x : Int64} (hd : decode M.1 pc = .ok (.putfield ix, 3)) (c1 : (mFlds M).lookup ix = some (ci, j)) (c2 : k < mNP M) (c3 : sh k = .inl ci) (c4 : (ftL ci)[j]? = some 1) (kk : G M Q (pc + 3) lv rest (sJ μ k j x) b) : G M Q pc lv (.long x :: .ref k :: rest) μ b := e_of hd kk (fun m h => ⟨rfl, _, k, rest, ci, j, _, rfl, c1, c2, c3, Or.inr ⟨c4, x, rfl, rfl⟩, h⟩)
theorem e_tsIn {dflt lo hi off : Int} {offs : Array Int} {len tgt : Nat} {x : Int32} (hd : decode M.1 pc = .ok (.tableswitch dflt lo hi offs, len)) (c1 : ¬ x.toInt < lo) (c2 : ¬ hi < x.toInt) (c3 : offs[(x.toInt - lo).toNat]? = some off) (c4 : (pc : Int) + off = (tgt : Int)) (k : G M Q tgt lv rest μ b) : G M Q pc lv (.int x :: rest) μ b := e_of hd k (fun m h => ⟨x, rest, rfl, Or.inl ⟨off, tgt, c1, c2, c3, c4, h⟩⟩)
theorem e_tsOut {dflt lo hi : Int} {offs : Array Int} {len tgt : Nat} {x : Int32} (hd : decode M.1 pc = .ok (.tableswitch dflt lo hi offs, len)) (c1 : x.toInt < lo ∨ hi < x.toInt) (c4 : (pc : Int) + dflt = (tgt : Int)) (k : G M Q tgt lv rest μ b) : G M Q pc lv (.int x :: rest) μ b := e_of hd k (fun m h => ⟨x, rest, rfl, Or.inr ⟨tgt, c1, c4, h⟩⟩)
theorem e_iret {x : Int32} (ty : FieldType) (hd : decode M.1 pc = .ok (.ireturn, 1)) (c1 : mRet M = some ty) (c2 : narrow ty (.int x) = .int x) (q : Q (.inl (some (.int x))) μ) : G M Q pc lv [.int x] μ b := e_end hd ⟨rfl, x, ty, rfl, c1, c2, q⟩
theorem e_lret {x : Int64} (hd : decode M.1 pc = .ok (.lreturn, 1)) (c1 : mRet M = some .long) (q : Q (.inl (some (.long x))) μ) : G M Q pc lv [.long x] μ b := e_end hd ⟨rfl, x, rfl, c1, q⟩
theorem e_vret (hd : decode M.1 pc = .ok (.return_, 1)) (c1 : mRet M = none) (q : Q (.inl none) μ) : G M Q pc lv [] μ b := e_end hd ⟨rfl, rfl, c1, q⟩
theorem e_throw {E : String} {ik : Nat} (hd : decode M.1 pc = .ok (.new ik, 3)) (c1 : (mThr M).lookup pc = some E) (c2 : cats st ≤ 8) (c3 : 1 ≤ b) (c4 : mHnd M = []) (q : Q (.inr E) μ) : G M Q pc lv st μ b := e_end hd ⟨E, c1, c2, c3, c4, q⟩
theorem e_callS {ix : Nat} {ci : CI} {v : Option Value} {μ' : Mem} (as : List Value) (hd : decode M.1 pc = .ok (.invokestatic ix, 3)) (c1 : (mCalls M).lookup ix = some ci) (c2 : ¬ ci.1 = 1) (c3 : st = as.reverse ++ rest) (c4 : as.length = ci.2.1) (c5 : cats rest ≤ 8) (c6 : cst ci.1 (.inl v) ci.2.2.1 ≤ b) (hG : ci.2.2.2.2 as μ (.inl v) μ') (k : G M Q (pc + 3) lv (v.toList ++ rest) μ' (b - cst ci.1 (.inl v) ci.2.2.1)) : G M Q pc lv st μ b := e_of hd k (fun m h => ⟨rfl, ci, as, rest, .inl v, μ', c1, c2, c3, c4, c5, c6, hG, h⟩)
theorem e_callV {ix k : Nat} {ci : CI} {v : Option Value} {μ' : Mem} (as : List Value) (hd : decode M.1 pc = .ok (.invokevirtual ix, 3)) (c1 : (mCalls M).lookup ix = some ci) (c2 : ci.1 = 1) (c3 : st = as.reverse ++ .ref k :: rest) (c4 : as.length = ci.2.1) (c7 : k < mNP M) (c8 : sh k = .inl ci.2.2.2.1) (c5 : cats rest ≤ 8) (c6 : cst ci.1 (.inl v) ci.2.2.1 ≤ b) (hG : ci.2.2.2.2 (.ref k :: as) μ (.inl v) μ') (kk : G M Q (pc + 3) lv (v.toList ++ rest) μ' (b - cst ci.1 (.inl v) ci.2.2.1)) : G M Q pc lv st μ b := e_of hd kk (fun m h => ⟨rfl, ci, k, as, rest, .inl v, μ', c1, c2, c3, c4, c7, c8, c5, c6, hG, h⟩)
theorem e_callSX {ix : Nat} {ci : CI} {E : String} {μ' : Mem} (as : List Value) (hd : decode M.1 pc = .ok (.invokestatic ix, 3)) (c1 : (mCalls M).lookup ix = some ci) (c2 : ¬ ci.1 = 1) (c3 : st = as.reverse ++ rest) (c4 : as.length = ci.2.1) (c5 : cats rest ≤ 8) (c6 : cst ci.1 (.inr E) ci.2.2.1 ≤ b) (hG : ci.2.2.2.2 as μ (.inr E) μ') (hh : mHnd M = []) (q : Q (.inr E) μ') : G M Q pc lv st μ b := e_end hd ⟨rfl, ci, as, rest, .inr E, μ', c1, c2, c3, c4, c5, c6, hG, by unfold CK; simp [hh, q]⟩
theorem e_callVX {ix k : Nat} {ci : CI} {E : String} {μ' : Mem} (as : List Value) (hd : decode M.1 pc = .ok (.invokevirtual ix, 3)) (c1 : (mCalls M).lookup ix = some ci) (c2 : ci.1 = 1) (c3 : st = as.reverse ++ .ref k :: rest) (c4 : as.length = ci.2.1) (c7 : k < mNP M) (c8 : sh k = .inl ci.2.2.2.1) (c5 : cats rest ≤ 8) (c6 : cst ci.1 (.inr E) ci.2.2.1 ≤ b) (hG : ci.2.2.2.2 (.ref k :: as) μ (.inr E) μ') (hh : mHnd M = []) (q : Q (.inr E) μ') : G M Q pc lv st μ b := e_end hd ⟨rfl, ci, k, as, rest, .inr E, μ', c1, c2, c3, c4, c7, c8, c5, c6, hG, by unfold CK; simp [hh, q]⟩

theorem e_if_eq {x : Int32} {off : Int} {tgt : Nat} (hd : decode M.1 pc = .ok (.ifCond .eq off, 3)) (ht : (pc : Int) + off = (tgt : Int)) (kt : x = 0 → G M Q tgt lv rest μ b) (kf : ¬ x = 0 → G M Q (pc + 3) lv rest μ b) : G M Q pc lv (.int x :: rest) μ b := by
  by_cases hc : x = 0
  · exact e_of hd (kt hc) (fun n h => ⟨rfl, x, rest, tgt, rfl, ht, fun _ => h, fun q => absurd hc (by simpa using q)⟩)
  · exact e_of hd (kf (by simpa using hc)) (fun n h => ⟨rfl, x, rest, tgt, rfl, ht, fun q => absurd q hc, fun _ => h⟩)
theorem e_ic_eq {x y : Int32} {off : Int} {tgt : Nat} (hd : decode M.1 pc = .ok (.if_icmp .eq off, 3)) (ht : (pc : Int) + off = (tgt : Int)) (kt : x = y → G M Q tgt lv rest μ b) (kf : ¬ x = y → G M Q (pc + 3) lv rest μ b) : G M Q pc lv (.int y :: .int x :: rest) μ b := by
  by_cases hc : x = y
  · exact e_of hd (kt hc) (fun n h => ⟨rfl, x, y, rest, tgt, rfl, ht, fun _ => h, fun q => absurd hc (by simpa using q)⟩)
  · exact e_of hd (kf (by simpa using hc)) (fun n h => ⟨rfl, x, y, rest, tgt, rfl, ht, fun q => absurd q hc, fun _ => h⟩)
theorem e_if_ne {x : Int32} {off : Int} {tgt : Nat} (hd : decode M.1 pc = .ok (.ifCond .ne off, 3)) (ht : (pc : Int) + off = (tgt : Int)) (kt : ¬ x = 0 → G M Q tgt lv rest μ b) (kf : x = 0 → G M Q (pc + 3) lv rest μ b) : G M Q pc lv (.int x :: rest) μ b := by
  by_cases hc : ¬ x = 0
  · exact e_of hd (kt hc) (fun n h => ⟨rfl, x, rest, tgt, rfl, ht, fun _ => h, fun q => absurd hc (by simpa using q)⟩)
  · exact e_of hd (kf (by simpa using hc)) (fun n h => ⟨rfl, x, rest, tgt, rfl, ht, fun q => absurd q hc, fun _ => h⟩)
theorem e_ic_ne {x y : Int32} {off : Int} {tgt : Nat} (hd : decode M.1 pc = .ok (.if_icmp .ne off, 3)) (ht : (pc : Int) + off = (tgt : Int)) (kt : ¬ x = y → G M Q tgt lv rest μ b) (kf : x = y → G M Q (pc + 3) lv rest μ b) : G M Q pc lv (.int y :: .int x :: rest) μ b := by
  by_cases hc : ¬ x = y
  · exact e_of hd (kt hc) (fun n h => ⟨rfl, x, y, rest, tgt, rfl, ht, fun _ => h, fun q => absurd hc (by simpa using q)⟩)
  · exact e_of hd (kf (by simpa using hc)) (fun n h => ⟨rfl, x, y, rest, tgt, rfl, ht, fun q => absurd q hc, fun _ => h⟩)
theorem e_if_lt {x : Int32} {off : Int} {tgt : Nat} (hd : decode M.1 pc = .ok (.ifCond .lt off, 3)) (ht : (pc : Int) + off = (tgt : Int)) (kt : x < 0 → G M Q tgt lv rest μ b) (kf : ¬ x < 0 → G M Q (pc + 3) lv rest μ b) : G M Q pc lv (.int x :: rest) μ b := by
  by_cases hc : x < 0
  · exact e_of hd (kt hc) (fun n h => ⟨rfl, x, rest, tgt, rfl, ht, fun _ => h, fun q => absurd hc (by simpa using q)⟩)
  · exact e_of hd (kf (by simpa using hc)) (fun n h => ⟨rfl, x, rest, tgt, rfl, ht, fun q => absurd q hc, fun _ => h⟩)
theorem e_ic_lt {x y : Int32} {off : Int} {tgt : Nat} (hd : decode M.1 pc = .ok (.if_icmp .lt off, 3)) (ht : (pc : Int) + off = (tgt : Int)) (kt : x < y → G M Q tgt lv rest μ b) (kf : ¬ x < y → G M Q (pc + 3) lv rest μ b) : G M Q pc lv (.int y :: .int x :: rest) μ b := by
  by_cases hc : x < y
  · exact e_of hd (kt hc) (fun n h => ⟨rfl, x, y, rest, tgt, rfl, ht, fun _ => h, fun q => absurd hc (by simpa using q)⟩)
  · exact e_of hd (kf (by simpa using hc)) (fun n h => ⟨rfl, x, y, rest, tgt, rfl, ht, fun q => absurd q hc, fun _ => h⟩)
theorem e_if_ge {x : Int32} {off : Int} {tgt : Nat} (hd : decode M.1 pc = .ok (.ifCond .ge off, 3)) (ht : (pc : Int) + off = (tgt : Int)) (kt : 0 ≤ x → G M Q tgt lv rest μ b) (kf : ¬ 0 ≤ x → G M Q (pc + 3) lv rest μ b) : G M Q pc lv (.int x :: rest) μ b := by
  by_cases hc : 0 ≤ x
  · exact e_of hd (kt hc) (fun n h => ⟨rfl, x, rest, tgt, rfl, ht, fun _ => h, fun q => absurd hc (by simpa using q)⟩)
  · exact e_of hd (kf (by simpa using hc)) (fun n h => ⟨rfl, x, rest, tgt, rfl, ht, fun q => absurd q hc, fun _ => h⟩)
theorem e_ic_ge {x y : Int32} {off : Int} {tgt : Nat} (hd : decode M.1 pc = .ok (.if_icmp .ge off, 3)) (ht : (pc : Int) + off = (tgt : Int)) (kt : y ≤ x → G M Q tgt lv rest μ b) (kf : ¬ y ≤ x → G M Q (pc + 3) lv rest μ b) : G M Q pc lv (.int y :: .int x :: rest) μ b := by
  by_cases hc : y ≤ x
  · exact e_of hd (kt hc) (fun n h => ⟨rfl, x, y, rest, tgt, rfl, ht, fun _ => h, fun q => absurd hc (by simpa using q)⟩)
  · exact e_of hd (kf (by simpa using hc)) (fun n h => ⟨rfl, x, y, rest, tgt, rfl, ht, fun q => absurd q hc, fun _ => h⟩)
theorem e_if_gt {x : Int32} {off : Int} {tgt : Nat} (hd : decode M.1 pc = .ok (.ifCond .gt off, 3)) (ht : (pc : Int) + off = (tgt : Int)) (kt : 0 < x → G M Q tgt lv rest μ b) (kf : ¬ 0 < x → G M Q (pc + 3) lv rest μ b) : G M Q pc lv (.int x :: rest) μ b := by
  by_cases hc : 0 < x
  · exact e_of hd (kt hc) (fun n h => ⟨rfl, x, rest, tgt, rfl, ht, fun _ => h, fun q => absurd hc (by simpa using q)⟩)
  · exact e_of hd (kf (by simpa using hc)) (fun n h => ⟨rfl, x, rest, tgt, rfl, ht, fun q => absurd q hc, fun _ => h⟩)
theorem e_ic_gt {x y : Int32} {off : Int} {tgt : Nat} (hd : decode M.1 pc = .ok (.if_icmp .gt off, 3)) (ht : (pc : Int) + off = (tgt : Int)) (kt : y < x → G M Q tgt lv rest μ b) (kf : ¬ y < x → G M Q (pc + 3) lv rest μ b) : G M Q pc lv (.int y :: .int x :: rest) μ b := by
  by_cases hc : y < x
  · exact e_of hd (kt hc) (fun n h => ⟨rfl, x, y, rest, tgt, rfl, ht, fun _ => h, fun q => absurd hc (by simpa using q)⟩)
  · exact e_of hd (kf (by simpa using hc)) (fun n h => ⟨rfl, x, y, rest, tgt, rfl, ht, fun q => absurd q hc, fun _ => h⟩)
theorem e_if_le {x : Int32} {off : Int} {tgt : Nat} (hd : decode M.1 pc = .ok (.ifCond .le off, 3)) (ht : (pc : Int) + off = (tgt : Int)) (kt : x ≤ 0 → G M Q tgt lv rest μ b) (kf : ¬ x ≤ 0 → G M Q (pc + 3) lv rest μ b) : G M Q pc lv (.int x :: rest) μ b := by
  by_cases hc : x ≤ 0
  · exact e_of hd (kt hc) (fun n h => ⟨rfl, x, rest, tgt, rfl, ht, fun _ => h, fun q => absurd hc (by simpa using q)⟩)
  · exact e_of hd (kf (by simpa using hc)) (fun n h => ⟨rfl, x, rest, tgt, rfl, ht, fun q => absurd q hc, fun _ => h⟩)
theorem e_ic_le {x y : Int32} {off : Int} {tgt : Nat} (hd : decode M.1 pc = .ok (.if_icmp .le off, 3)) (ht : (pc : Int) + off = (tgt : Int)) (kt : x ≤ y → G M Q tgt lv rest μ b) (kf : ¬ x ≤ y → G M Q (pc + 3) lv rest μ b) : G M Q pc lv (.int y :: .int x :: rest) μ b := by
  by_cases hc : x ≤ y
  · exact e_of hd (kt hc) (fun n h => ⟨rfl, x, y, rest, tgt, rfl, ht, fun _ => h, fun q => absurd hc (by simpa using q)⟩)
  · exact e_of hd (kf (by simpa using hc)) (fun n h => ⟨rfl, x, y, rest, tgt, rfl, ht, fun q => absurd q hc, fun _ => h⟩)
end Steps
