/-! the number of bits of a long, as the JDK counts them -/
def mkb (c : Nat) : Nat → Nat
  | 0 => 0
  | n + 1 => c + 256 * mkb c n
theorem and_step (a A c M : Nat) (ha : a < 256) (hc : c < 256) : (a + 256 * A) &&& (c + 256 * M) = (a &&& c) + 256 * (A &&& M) := by
  have h0 : a &&& c < 256 := Nat.lt_of_le_of_lt Nat.and_le_left ha
  apply Nat.eq_of_testBit_eq
  intro i
  rw [Nat.testBit_and, Nat.add_comm a, Nat.add_comm c, Nat.add_comm (a &&& c), show (256 : Nat) = 2 ^ 8 from rfl,
    Nat.testBit_two_pow_mul_add _ ha, Nat.testBit_two_pow_mul_add _ hc, Nat.testBit_two_pow_mul_add _ h0]
  split
  · rw [Nat.testBit_and]
  · rw [Nat.testBit_and]
def pf1 (n x : Nat) : Nat := x - ((x / 2) &&& mkb 85 n)
def pf2 (n x : Nat) : Nat := (x &&& mkb 51 n) + ((x / 4) &&& mkb 51 n)
def pf3 (n x : Nat) : Nat := (x + x / 16) &&& mkb 15 n
def pb1 (a : Nat) : Nat := a - ((a / 2) &&& 85)
def pb2 (a : Nat) : Nat := (a &&& 51) + ((a / 4) &&& 51)
def pcb (a : Nat) : Nat := (pb2 (pb1 a) + pb2 (pb1 a) / 16) % 16
theorem pb_a1 : ∀ (a : Fin 256) (k : Fin 2), (a.val / 2 + 128 * k.val) &&& 85 = (a.val / 2) &&& 85 := by decide +kernel
theorem pb_a2 : ∀ (a : Fin 256) (k : Fin 4), (a.val / 4 + 64 * k.val) &&& 51 = (a.val / 4) &&& 51 := by decide +kernel
theorem pb_b1 : ∀ a : Fin 256, pb1 a.val < 256 := by decide +kernel
theorem pb_b2 : ∀ a : Fin 256, pb2 (pb1 a.val) ≤ 68 ∧ pb2 (pb1 a.val) % 16 ≤ 4 := by decide +kernel
theorem pcb_bits : ∀ a : Fin 256, (pcb a.val : Int) = zs 8 (fun i => b2 (a.val.testBit i)) := by decide +kernel
theorem pcb_le : ∀ a : Fin 256, pcb a.val ≤ 8 := by decide +kernel
theorem pf1_s (n a A : Nat) (ha : a < 256) : pf1 (n + 1) (a + 256 * A) = pb1 a + 256 * pf1 n A := by
  unfold pf1 pb1
  have h1 : (a + 256 * A) / 2 = (a / 2 + 128 * (A % 2)) + 256 * (A / 2) := by omega
  have h2 := pb_a1 ⟨a, ha⟩ ⟨A % 2, by omega⟩
  simp only at h2
  have h3 : (a / 2) &&& 85 ≤ a / 2 := Nat.and_le_left
  have h4 : (A / 2) &&& mkb 85 n ≤ A / 2 := Nat.and_le_left
  rw [h1, mkb, and_step _ _ _ _ (by omega) (by omega), h2]
  omega
theorem pf2_s (n a A : Nat) (ha : a < 256) : pf2 (n + 1) (a + 256 * A) = pb2 a + 256 * pf2 n A := by
  unfold pf2 pb2
  have h1 : (a + 256 * A) / 4 = (a / 4 + 64 * (A % 4)) + 256 * (A / 4) := by omega
  have h2 := pb_a2 ⟨a, ha⟩ ⟨A % 4, by omega⟩
  simp only at h2
  rw [h1, mkb, and_step _ _ _ _ ha (by omega), and_step _ _ _ _ (by omega) (by omega), h2]
  omega
theorem pf3_s (n w v : Nat) (hw : w ≤ 68) (hv : v % 16 ≤ 4) : pf3 (n + 1) (w + 256 * v) = (w + w / 16) % 16 + 256 * pf3 n v := by
  unfold pf3
  have h1 : (w + 256 * v) + (w + 256 * v) / 16 = (w + w / 16 + 16 * (v % 16)) + 256 * (v + v / 16) := by omega
  rw [h1, mkb, and_step _ _ _ _ (by omega) (by omega)]
  have h2 : (w + w / 16 + 16 * (v % 16)) &&& 15 = (w + w / 16) % 16 := by
    rw [show (15 : Nat) = 2 ^ 4 - 1 from rfl, Nat.and_two_pow_sub_one_eq_mod]; omega
  rw [h2]
def pbs : Nat → Nat → Nat
  | 0, _ => 0
  | n + 1, x => pcb (x % 256) + 256 * pbs n (x / 256)
theorem pf_all : ∀ (n x : Nat), x < 256 ^ n → pf2 n (pf1 n x) % 16 ≤ 4 ∧ pf3 n (pf2 n (pf1 n x)) = pbs n x := by
  intro n
  induction n with
  | zero => intro x hx; simp at hx; subst hx; exact ⟨by decide, by decide⟩
  | succ n ih =>
    intro x hx
    have hx2 : x / 256 < 256 ^ n := by rw [Nat.pow_succ] at hx; omega
    obtain ⟨i1, i2⟩ := ih (x / 256) hx2
    have hb : x % 256 < 256 := by omega
    have e : x = x % 256 + 256 * (x / 256) := by omega
    have e1 : pf1 (n + 1) x = pb1 (x % 256) + 256 * pf1 n (x / 256) := by
      have := pf1_s n (x % 256) (x / 256) hb
      rwa [← e] at this
    have hb1 := pb_b1 ⟨x % 256, hb⟩
    have hb2 := pb_b2 ⟨x % 256, hb⟩
    simp only at hb1 hb2
    rw [e1, pf2_s n _ _ hb1]
    refine ⟨by omega, ?_⟩
    rw [pf3_s n _ _ hb2.1 i1, i2, pbs]
    rfl
theorem pbs_sum : ∀ (n x : Nat), (∃ c : Nat → Nat, (∀ j, c j ≤ 8) ∧ (∀ j, j < n → (c j : Int) = zs 8 (fun i => b2 (x.testBit (8 * j + i))))) ∧ True := by
  intro n x
  refine ⟨⟨fun j => pcb (x / 256 ^ j % 256), fun j => pcb_le ⟨_, Nat.mod_lt _ (by decide)⟩, fun j _ => ?_⟩, trivial⟩
  have h := pcb_bits ⟨x / 256 ^ j % 256, Nat.mod_lt _ (by decide)⟩
  simp only at h
  rw [h]
  apply zs_congr
  intro i hi
  rw [show (256 : Nat) ^ j = 2 ^ (8 * j) from by rw [Nat.pow_mul], show (256 : Nat) = 2 ^ 8 from rfl, Nat.testBit_mod_two_pow, Nat.testBit_div_two_pow]
  simp [hi, Nat.add_comm]
theorem pbs_8 (x : Nat) : pbs 8 x = pcb (x / 256 ^ 0 % 256) + 256 * (pcb (x / 256 ^ 1 % 256) + 256 * (pcb (x / 256 ^ 2 % 256) + 256 * (pcb (x / 256 ^ 3 % 256) + 256 * (pcb (x / 256 ^ 4 % 256) + 256 * (pcb (x / 256 ^ 5 % 256) + 256 * (pcb (x / 256 ^ 6 % 256) + 256 * pcb (x / 256 ^ 7 % 256))))))) := by
  simp only [pbs, Nat.div_div_eq_div_mul, Nat.pow_zero, Nat.div_one, Nat.reducePow, Nat.reduceMul, Nat.mul_zero, Nat.add_zero]
/-- how many bits -/
def pc (x : Int64) : Int := zs 64 (fun i => b2 (tb x i))
theorem zs_split (a b : Nat) (f : Nat → Int) : zs (a + b) f = zs a f + zs b (fun i => f (a + i)) := by
  induction b with
  | zero => simp [zs_0]
  | succ b ih => rw [← Nat.add_assoc, zs_s, zs_s, ih]; omega
theorem zs_mul8 (n : Nat) (f : Nat → Int) : zs (8 * n) f = zs n (fun j => zs 8 (fun i => f (8 * j + i))) := by
  induction n with
  | zero => rfl
  | succ n ih => rw [show 8 * (n + 1) = 8 * n + 8 from by omega, zs_split, ih]; rfl
theorem zs_8 (g : Nat → Int) : zs 8 g = 0 + g 0 + g 1 + g 2 + g 3 + g 4 + g 5 + g 6 + g 7 := rfl
theorem pc_bytes (x : Int64) : pc x = zs 8 (fun j => zs 8 (fun i => b2 (x.toBitVec.toNat.testBit (8 * j + i)))) := by
  unfold pc
  exact (zs_mul8 8 _).trans (zs_congr fun j _ => zs_congr fun i _ => rfl)
theorem ushrL_nat (x : Int64) {k : Nat} (hk : k < 64) : (ushrL x (i3 k)).toBitVec.toNat = x.toBitVec.toNat / 2 ^ k := by
  apply Nat.eq_of_testBit_eq
  intro i
  rw [Nat.testBit_div_two_pow]
  have := tb_ushr x hk i
  unfold tb at this
  rw [BitVec.getLsbD, BitVec.getLsbD] at this
  rw [this, Nat.add_comm]
theorem pop_a (a T : Nat) (h : a < 256) : (a + 256 * T) / 2 ^ 8 = T := by omega
theorem pop_b (a b T : Nat) (h : a < 256) (h2 : b < 256) : (a + 256 * (b + 256 * T)) / 2 ^ 16 = T := by omega
theorem pop_c (a b c d T : Nat) (h : a < 256) (h2 : b < 256) (h3 : c < 256) (h4 : d < 256) : (a + 256 * (b + 256 * (c + 256 * (d + 256 * T)))) / 2 ^ 32 = T := by omega
theorem pop_d (a q : Nat) (h : a < 128) : (a + 256 * q) % 128 = a := by omega
theorem pop_q (c d T U : Nat) : (c + 256 * T) + (d + 256 * U) = (c + d) + 256 * (T + U) := by omega
theorem pop_bd {c T K : Nat} (h : c ≤ 8) (hT : T ≤ K) : c + 256 * T ≤ 8 + 256 * K := by omega
theorem pop_l2 {a b : Nat} (h : a ≤ 8) (h2 : b ≤ 8) : a + b ≤ 16 := by omega
theorem pop_l4 {a b : Nat} (h : a ≤ 16) (h2 : b ≤ 16) : a + b ≤ 32 := by omega
theorem pop_l8 {a b : Nat} (h : a ≤ 32) (h2 : b ≤ 32) : a + b < 128 := by omega
theorem pop_lt {a : Nat} (h : a ≤ 32) : a < 256 := by omega
theorem pop_lt2 {a : Nat} (h : a ≤ 16) : a < 256 := by omega
theorem pop_lt1 {a : Nat} (h : a ≤ 8) : a < 256 := by omega
theorem pop_m (a b : Nat) (ha : a ≤ 4000000000000000000) (hb : b ≤ 4000000000000000000) : (a + b) % 2 ^ 64 = a + b := Nat.mod_eq_of_lt (by omega)
theorem pop_md (a k : Nat) (ha : a ≤ 1000000000000000000) : a / k ≤ 1000000000000000000 := Nat.le_trans (Nat.div_le_self _ _) ha
theorem pop_ad {a b : Nat} {m n : Nat} (h : a ≤ m) (h2 : b ≤ n) : a + b ≤ m + n := Nat.add_le_add h h2
theorem pop_final (c0 c1 c2 c3 c4 c5 c6 c7 : Nat) (h0 : c0 ≤ 8) (h1 : c1 ≤ 8) (h2 : c2 ≤ 8) (h3 : c3 ≤ 8) (h4 : c4 ≤ 8) (h5 : c5 ≤ 8) (h6 : c6 ≤ 8) (h7 : c7 ≤ 8) (s : Nat)
    (e : s = c0 + 256 * (c1 + 256 * (c2 + 256 * (c3 + 256 * (c4 + 256 * (c5 + 256 * (c6 + 256 * c7))))))) :
    ∀ s4 s5 s6 : Nat, s4 = (s + s / 2 ^ 8) % 2 ^ 64 → s5 = (s4 + s4 / 2 ^ 16) % 2 ^ 64 → s6 = (s5 + s5 / 2 ^ 32) % 2 ^ 64 → s6 % 128 = (((c0 + c1) + (c2 + c3)) + ((c4 + c5) + (c6 + c7))) := by
  have b6 := pop_bd h6 h7
  have b5 := pop_bd h5 b6
  have b4 := pop_bd h4 b5
  have b3 := pop_bd h3 b4
  have b2 := pop_bd h2 b3
  have b1 := pop_bd h1 b2
  have b0 := pop_bd h0 b1
  rw [← e] at b0
  have b0 : s ≤ 578721382704613384 := b0
  generalize g6 : c6 + 256 * c7 = T6 at e
  generalize g5 : c5 + 256 * T6 = T5 at e
  generalize g4 : c4 + 256 * T5 = T4 at e
  generalize g3 : c3 + 256 * T4 = T3 at e
  generalize g2 : c2 + 256 * T3 = T2 at e
  generalize g1 : c1 + 256 * T2 = T1 at e
  clear b1 b2 b3 b4 b5 b6
  have d1 : s / 2 ^ 8 = T1 := e ▸ pop_a _ _ (pop_lt1 h0)
  have b1 : T1 ≤ 578721382704613384 := d1 ▸ Nat.le_trans (Nat.div_le_self _ _) b0
  have f1 := pop_m s T1 (Nat.le_trans b0 (by decide)) (Nat.le_trans b1 (by decide))
  have p7 : T6 + c7 = (c6 + c7) + 256 * c7 := by
    have := pop_q c6 c7 c7 0
    rw [g6] at this; exact this
  have p5 := pop_q c5 c6 T6 c7
  have p4 := pop_q c4 c5 T5 T6
  have p3 := pop_q c3 c4 T4 T5
  have p2 := pop_q c2 c3 T3 T4
  have p1 := pop_q c1 c2 T2 T3
  have p0 := pop_q c0 c1 T1 T2
  rw [g5, g6] at p5
  rw [g4, g5] at p4
  rw [g3, g4] at p3
  rw [g2, g3] at p2
  rw [g1, g2] at p1
  rw [← e, g1] at p0
  rw [p1] at p0
  have d2 : (s + T1) / 2 ^ 16 = T2 + T3 := by
    rw [p0]; exact pop_b _ _ _ (pop_lt2 (pop_l2 h0 h1)) (pop_lt2 (pop_l2 h1 h2))
  have bb : s + T1 ≤ 578721382704613384 + 578721382704613384 := pop_ad b0 b1
  have b2 : T2 + T3 ≤ 578721382704613384 + 578721382704613384 := d2 ▸ Nat.le_trans (Nat.div_le_self _ _) bb
  have f2 := pop_m (s + T1) (T2 + T3) (Nat.le_trans bb (by decide)) (Nat.le_trans b2 (by decide))
  have r3 := pop_q (c3 + c4) (c5 + c6) (T4 + T5) (T6 + c7)
  have r2 := pop_q (c2 + c3) (c4 + c5) (T3 + T4) (T5 + T6)
  have r1 := pop_q (c1 + c2) (c3 + c4) (T2 + T3) (T4 + T5)
  have r0 := pop_q (c0 + c1) (c2 + c3) (c1 + c2 + 256 * (T2 + T3)) (T3 + T4)
  rw [← p3, ← p5] at r3
  rw [← p2, ← p4, r3] at r2
  rw [← p3, r2] at r1
  rw [← p0, ← p2, r1] at r0
  have d3 : (s + T1 + (T2 + T3)) / 2 ^ 32 = T4 + T5 + (T6 + c7) := by
    rw [r0]
    exact pop_c _ _ _ _ _ (pop_lt (pop_l4 (pop_l2 h0 h1) (pop_l2 h2 h3))) (pop_lt (pop_l4 (pop_l2 h1 h2) (pop_l2 h3 h4))) (pop_lt (pop_l4 (pop_l2 h2 h3) (pop_l2 h4 h5))) (pop_lt (pop_l4 (pop_l2 h3 h4) (pop_l2 h5 h6)))
  have bb3 : s + T1 + (T2 + T3) ≤ (578721382704613384 + 578721382704613384) + (578721382704613384 + 578721382704613384) := pop_ad bb b2
  have b3 : T4 + T5 + (T6 + c7) ≤ (578721382704613384 + 578721382704613384) + (578721382704613384 + 578721382704613384) := d3 ▸ Nat.le_trans (Nat.div_le_self _ _) bb3
  have f3 := pop_m (s + T1 + (T2 + T3)) (T4 + T5 + (T6 + c7)) (Nat.le_trans bb3 (by decide)) (Nat.le_trans b3 (by decide))
  have t0 := pop_q (c4 + c5) (c6 + c7) (T5 + T6) c7
  rw [← p4, ← p7] at t0
  have u0 : ∃ q, s + T1 + (T2 + T3) + (T4 + T5 + (T6 + c7)) = (((c0 + c1) + (c2 + c3)) + ((c4 + c5) + (c6 + c7))) + 256 * q := ⟨_, (congr (congrArg HAdd.hAdd r0) t0).trans (pop_q _ _ _ _)⟩
  obtain ⟨q, u0⟩ := u0
  intro s4 s5 s6 e4 e5 e6
  rw [d1, f1] at e4
  rw [e4, d2, f2] at e5
  rw [e5, d3, f3, u0] at e6
  rw [e6]
  exact pop_d _ _ (pop_l8 (pop_l4 (pop_l2 h0 h1) (pop_l2 h2 h3)) (pop_l4 (pop_l2 h4 h5) (pop_l2 h6 h7)))
theorem pc_code (x : Int64) (μ : Mem) : F_J13_bitCount_95d88 x μ = rI (i3 (pc x)) μ := by
  generalize hX : x.toBitVec.toNat = X
  have hX64 : X < 256 ^ 8 := by rw [← hX]; exact x.toBitVec.isLt
  -- the three first steps
  generalize hv1 : x - ((ushrL x (1 : Int32)) &&& (6148914691236517205 : Int64)) = v1
  generalize hv2 : (v1 &&& (3689348814741910323 : Int64)) + ((ushrL v1 (2 : Int32)) &&& (3689348814741910323 : Int64)) = v2
  generalize hv3 : (v2 + (ushrL v2 (4 : Int32))) &&& (1085102592571150095 : Int64) = v3
  generalize hv4 : v3 + (ushrL v3 (8 : Int32)) = v4
  generalize hv5 : v4 + (ushrL v4 (16 : Int32)) = v5
  generalize hv6 : v5 + (ushrL v5 (32 : Int32)) = v6
  have hF : F_J13_bitCount_95d88 x μ = rI ((Int64.toInt32 v6) &&& (127 : Int32)) μ := by
    subst hv6 hv5 hv4 hv3 hv2 hv1; rfl
  have m85 : (6148914691236517205 : Int64).toBitVec.toNat = mkb 85 8 := by decide +kernel
  have m51 : (3689348814741910323 : Int64).toBitVec.toNat = mkb 51 8 := by decide +kernel
  have m15 : (1085102592571150095 : Int64).toBitVec.toNat = mkb 15 8 := by decide +kernel
  have n1 : v1.toBitVec.toNat = pf1 8 X := by
    rw [← hv1, show (1 : Int32) = i3 ((1 : Nat) : Int) from rfl, Int64.toBitVec_sub, Int64.toBitVec_and]
    have hle : ((ushrL x (i3 ((1 : Nat) : Int))).toBitVec &&& (6148914691236517205 : Int64).toBitVec) ≤ x.toBitVec := by
      rw [BitVec.le_def, BitVec.toNat_and, ushrL_nat x (by decide)]
      exact Nat.le_trans Nat.and_le_left (Nat.div_le_self _ _)
    rw [BitVec.toNat_sub_of_le hle, BitVec.toNat_and, ushrL_nat x (by decide), m85, hX]
    rfl
  have b1 : pf1 8 X < 256 ^ 8 := Nat.lt_of_le_of_lt (Nat.sub_le _ _) hX64
  have hall := pf_all 8 X hX64
  have n2 : v2.toBitVec.toNat = pf2 8 (pf1 8 X) := by
    rw [← hv2, show (2 : Int32) = i3 ((2 : Nat) : Int) from rfl, Int64.toBitVec_add, Int64.toBitVec_and, Int64.toBitVec_and, BitVec.toNat_add, BitVec.toNat_and, BitVec.toNat_and, ushrL_nat _ (by decide), n1, m51]
    unfold pf2
    apply Nat.mod_eq_of_lt
    have h1 : pf1 8 X &&& mkb 51 8 ≤ mkb 51 8 := Nat.and_le_right
    have h2 : pf1 8 X / 2 ^ 2 &&& mkb 51 8 ≤ mkb 51 8 := Nat.and_le_right
    have h3 : mkb 51 8 = 3689348814741910323 := by decide +kernel
    omega
  have n3 : v3.toBitVec.toNat = pbs 8 X := by
    rw [← hall.2, ← hv3, show (4 : Int32) = i3 ((4 : Nat) : Int) from rfl, Int64.toBitVec_and, Int64.toBitVec_add, BitVec.toNat_and, BitVec.toNat_add, ushrL_nat _ (by decide), n2, m15]
    unfold pf3
    congr 1
    apply Nat.mod_eq_of_lt
    have h1 : pf1 8 X &&& mkb 51 8 ≤ mkb 51 8 := Nat.and_le_right
    have h2 : pf1 8 X / 4 &&& mkb 51 8 ≤ mkb 51 8 := Nat.and_le_right
    have h3 : mkb 51 8 = 3689348814741910323 := by decide +kernel
    have h4 : pf2 8 (pf1 8 X) = (pf1 8 X &&& mkb 51 8) + (pf1 8 X / 4 &&& mkb 51 8) := rfl
    omega
  have n4 : v4.toBitVec.toNat = (v3.toBitVec.toNat + v3.toBitVec.toNat / 2 ^ 8) % 2 ^ 64 := by
    rw [← hv4, show (8 : Int32) = i3 ((8 : Nat) : Int) from rfl, Int64.toBitVec_add, BitVec.toNat_add, ushrL_nat _ (by decide)]
  have n5 : v5.toBitVec.toNat = (v4.toBitVec.toNat + v4.toBitVec.toNat / 2 ^ 16) % 2 ^ 64 := by
    rw [← hv5, show (16 : Int32) = i3 ((16 : Nat) : Int) from rfl, Int64.toBitVec_add, BitVec.toNat_add, ushrL_nat _ (by decide)]
  have n6 : v6.toBitVec.toNat = (v5.toBitVec.toNat + v5.toBitVec.toNat / 2 ^ 32) % 2 ^ 64 := by
    rw [← hv6, show (32 : Int32) = i3 ((32 : Nat) : Int) from rfl, Int64.toBitVec_add, BitVec.toNat_add, ushrL_nat _ (by decide)]
  have hc : ∀ j : Nat, pcb (X / 256 ^ j % 256) ≤ 8 := fun j => pcb_le ⟨_, Nat.mod_lt _ (by decide)⟩
  have hcs : ∀ j : Nat, (pcb (X / 256 ^ j % 256) : Int) = zs 8 (fun i => b2 (X.testBit (8 * j + i))) := by
    intro j
    have h := pcb_bits ⟨X / 256 ^ j % 256, Nat.mod_lt _ (by decide)⟩
    simp only at h
    rw [h]
    apply zs_congr
    intro i hi
    rw [show (256 : Nat) ^ j = 2 ^ (8 * j) from by rw [Nat.pow_mul], show (256 : Nat) = 2 ^ 8 from rfl, Nat.testBit_mod_two_pow, Nat.testBit_div_two_pow]
    simp [hi, Nat.add_comm]
  have hfin := pop_final _ _ _ _ _ _ _ _ (hc 0) (hc 1) (hc 2) (hc 3) (hc 4) (hc 5) (hc 6) (hc 7) _ (n3.trans (pbs_8 X)) _ _ _ n4 n5 n6
  have hpc : pc x = ((v6.toBitVec.toNat % 128 : Nat) : Int) := by
    rw [pc_bytes, hX, hfin, zs_8]
    simp only [← hcs]
    push_cast
    omega
  rw [hF, hpc]
  congr 2
  congr 1
  apply Int32.toBitVec_inj.1
  apply BitVec.eq_of_toNat_eq
  rw [Int32.toBitVec_and, BitVec.toNat_and, Int64.toBitVec_toInt32]
  have h127 : (127 : Int32).toBitVec.toNat = 2 ^ 7 - 1 := by decide
  rw [h127, Nat.and_two_pow_sub_one_eq_mod]
  unfold i3
  rw [Int32.toBitVec_ofInt, BitVec.ofInt_natCast, BitVec.toNat_ofNat, BitVec.signExtend_eq_setWidth_of_le _ (by decide), BitVec.toNat_setWidth]
  omega
theorem pc_nn (x : Int64) : 0 ≤ pc x := zs_pos (fun i _ => b2_0 _)
theorem pc_le (x : Int64) : pc x ≤ 64 := by
  have := zs_bnd (n := 64) (f := fun i => b2 (tb x i)) 1 (fun i _ => b2_1 _)
  unfold pc; omega
/-- the number of bits of a small int -/
def pi (k : Nat) : Int := zs 6 (fun i => b2 (k.testBit i))
def gJ6 (x : Int32) : Int32 := match F_J6_bitCount_0f7a4 x (fun _ _ => 0, fun _ _ => 0, fun _ _ => 0) with
  | some (.inl (some (.int v)), _) => v
  | _ => 0
theorem pi_code {k : Nat} (h : k < 64) (μ : Mem) : F_J6_bitCount_0f7a4 (i3 k) μ = rI (i3 (pi k)) μ := by
  have h1 : ∀ x, F_J6_bitCount_0f7a4 x μ = rI (gJ6 x) μ := fun x => rfl
  have h2 : ∀ k : Fin 64, gJ6 (i3 (k.val : Int)) = i3 (pi k.val) := by decide +kernel
  rw [h1, h2 ⟨k, h⟩]
