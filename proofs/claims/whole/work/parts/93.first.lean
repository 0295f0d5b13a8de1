/-! the first memory, and what the tables say at the start -/
theorem tl_1 {w : Cond} (i : Nat) (h : tables_1_1[i]? = some w) : w ∈ lw_tbl := List.mem_append.mpr (Or.inr (List.mem_append.mpr (Or.inl (List.mem_of_getElem? h))))
theorem tl_2 {w : Cond} (i : Nat) (h : tables_1_2[i]? = some w) : w ∈ lw_tbl := List.mem_append.mpr (Or.inr (List.mem_append.mpr (Or.inr (List.mem_append.mpr (Or.inl (List.mem_of_getElem? h))))))
theorem tl_3 {w : Cond} (i : Nat) (h : tables_1_3[i]? = some w) : w ∈ lw_tbl := List.mem_append.mpr (Or.inr (List.mem_append.mpr (Or.inr (List.mem_append.mpr (Or.inr (List.mem_append.mpr (Or.inl (List.mem_of_getElem? h))))))))
theorem tl_4 {w : Cond} (i : Nat) (h : tables_1_4[i]? = some w) : w ∈ lw_tbl := List.mem_append.mpr (Or.inr (List.mem_append.mpr (Or.inr (List.mem_append.mpr (Or.inr (List.mem_append.mpr (Or.inr (List.mem_append.mpr (Or.inl (List.mem_of_getElem? h))))))))))
theorem tl_5 {w : Cond} (i : Nat) (h : tables_1_5[i]? = some w) : w ∈ lw_tbl := List.mem_append.mpr (Or.inr (List.mem_append.mpr (Or.inr (List.mem_append.mpr (Or.inr (List.mem_append.mpr (Or.inr (List.mem_append.mpr (Or.inr (List.mem_append.mpr (Or.inl (List.mem_of_getElem? h))))))))))))
theorem tl_6 {w : Cond} (i : Nat) (h : tables_1_6[i]? = some w) : w ∈ lw_tbl := List.mem_append.mpr (Or.inr (List.mem_append.mpr (Or.inr (List.mem_append.mpr (Or.inr (List.mem_append.mpr (Or.inr (List.mem_append.mpr (Or.inr (List.mem_append.mpr (Or.inr (List.mem_of_getElem? h))))))))))))
abbrev P00 : Pic := (3, 3, 0, 0, 0, 0)
def A00 : Ab := (P00, (0, fun _ => P00), (fun _ => false, fun _ => P00), (0, fun _ => 0))
theorem dgn_0 (i : Nat) : dgn 0 i = 0 := by
  unfold dgn
  simp
theorem ok00 : okP P00 := by
  refine ⟨by decide, by decide, by decide, by decide, fun r c h => absurd h (zc_0 r c), fun r c h => absurd h (zc_0 r c), fun i _ => ?_, fun i _ => ?_⟩
  · show dgn 0 i ≤ 6 ∧ (3 ≤ i → dgn 0 i = 0)
    rw [dgn_0]; exact ⟨by omega, fun _ => rfl⟩
  · show dgn 0 i ≤ 6 ∧ (3 ≤ i → dgn 0 i = 0)
    rw [dgn_0]; exact ⟨by omega, fun _ => rfl⟩
theorem c00 : cInv M0 A00 := by
  refine ⟨⟨rfl, rfl, rfl, rfl, rfl, rfl⟩, ok00, ⟨fun j => 13 + j, fun j hj => ⟨rfl, (show 13 ≤ 13 + j by omega), (show 13 + j < 27 by omega)⟩, fun i j _ _ h => by have h : 13 + i = 13 + j := h; omega, rfl, Nat.zero_le _, fun j hj => absurd hj (Nat.not_lt_zero _)⟩, ⟨rfl, rfl, fun j hj => ⟨rfl, fun h => nomatch h⟩⟩, ⟨rfl, Nat.zero_le _, fun j hj => absurd hj (Nat.not_lt_zero _)⟩⟩
theorem M0_30 {j : Nat} (h : 2 ≤ j) : M0I 30 j = 0 := by
  obtain ⟨k, rfl⟩ : ∃ k, j = k + 2 := ⟨j - 2, by omega⟩
  rfl
theorem m00 : mInv M0 A00 := by
  refine ⟨⟨rfl, rfl, fun r c _ _ => ?_, fun i _ => ?_, fun i _ => ?_⟩, ⟨rfl, Nat.zero_le _, fun j hj => absurd hj (Nat.not_lt_zero _)⟩, ⟨rfl, fun j _ h => nomatch h⟩, ⟨rfl, fun j hj => absurd hj (Nat.not_lt_zero _)⟩⟩
  · show M0I 30 (2 + 6 * r + c) = i3 (b2 (tb 0 (8 * r + c)) + 2 * b2 (tb 0 (8 * r + c)))
    rw [M0_30 (by omega), tb_0]; rfl
  · show M0I 30 (38 + i) = i3 (dgn 0 i)
    rw [M0_30 (by omega), dgn_0]; rfl
  · show M0I 30 (44 + i) = i3 (dgn 0 i)
    rw [M0_30 (by omega), dgn_0]; rfl
theorem knownAll {args : Array Value} {s : State} (hts9 : ∀ w ∈ TB, w.before args s = true) : ∃ D : va_G, va_K D vwCl [] s := by
  have h : ∀ k : Nat, ∃ (c : ClassId) (iS : Nat → Nat), ∀ q : vw_C, vwCl[k]? = some q → u_Kn s q.1 q.2.1 q.2.2 c iS := by
    intro k
    match k with
    | 0 =>
      obtain ⟨c, i, h⟩ := u_known (C := RX2) (T := TX2) (N := 3) (n := 3) hts9 (cls_ok 0 _ rfl).1 (hts9 _ (t_1 109 rfl rfl))
      exact ⟨c, i, fun q hq => by cases hq; exact h⟩
    | 1 =>
      obtain ⟨c, i, h⟩ := u_known (C := RX3) (T := TX3) (N := 2) (n := 2) hts9 (cls_ok 1 _ rfl).1 (hts9 _ (t_1 77 rfl rfl))
      exact ⟨c, i, fun q hq => by cases hq; exact h⟩
    | 2 =>
      obtain ⟨c, i, h⟩ := u_known (C := RX4) (T := TX4) (N := 6) (n := 6) hts9 (cls_ok 2 _ rfl).1 (hts9 _ (t_1 42 rfl rfl))
      exact ⟨c, i, fun q hq => by cases hq; exact h⟩
    | 3 =>
      obtain ⟨c, i, h⟩ := u_known (C := RX5) (T := TX5) (N := 2) (n := 2) hts9 (cls_ok 3 _ rfl).1 (hts9 _ (t_1 93 rfl rfl))
      exact ⟨c, i, fun q hq => by cases hq; exact h⟩
    | 4 =>
      obtain ⟨c, i, h⟩ := u_known (C := RX6) (T := TX6) (N := 2) (n := 2) hts9 (cls_ok 4 _ rfl).1 (hts9 _ (t_1 28 rfl rfl))
      exact ⟨c, i, fun q hq => by cases hq; exact h⟩
    | 5 =>
      obtain ⟨c, i, h⟩ := u_known (C := RX7) (T := TX7) (N := 7) (n := 7) hts9 (cls_ok 5 _ rfl).1 (hts9 _ (t_1 20 rfl rfl))
      exact ⟨c, i, fun q hq => by cases hq; exact h⟩
    | 6 =>
      obtain ⟨c, i, h⟩ := u_known (C := RX8) (T := TX8) (N := 23) (n := 23) hts9 (cls_ok 6 _ rfl).1 (hts9 _ (t_4 173 rfl rfl))
      exact ⟨c, i, fun q hq => by cases hq; exact h⟩
    | k + 7 => exact ⟨0, fun _ => 0, fun q hq => by simp [vwCl] at hq⟩
  exact ⟨(fun k => Classical.choose (h k), fun k => Classical.choose (Classical.choose_spec (h k))), fun k q hq => Classical.choose_spec (Classical.choose_spec (h k)) q hq, fun k q hq => by simp at hq⟩
theorem nxf0 {args : Array Value} {s : State} (hts : ∀ w ∈ lw_tbl, w.before args s = true) : NXF s := by
  exact ⟨va_AO.of (hts _ (tl_1 83 rfl)), hts _ (tl_1 29 rfl), hts _ (tl_1 43 rfl), hts _ (tl_1 84 rfl), hts _ (tl_1 99 rfl), hts _ (tl_1 110 rfl)⟩
theorem strR {args : Array Value} {s : State} {cc : ClassId} {k : Nat} {tx : String} (hc : s.vm.findClass RX7 = some cc) (h : (Cond.stringRef RX7 k tx).before args s = true) : ∃ a, vk_R RX7 k tx a s := by
  obtain ⟨k1, cf, i, a, hk, hcf, hcp, -, hr, hev⟩ := Cond.stringRef_spec hc h
  exact ⟨a, vk_R.of h hev⟩
set_option maxRecDepth 100000 in
theorem vxf0 {b : Nat} {s : State} {cc : ClassId} {A : Nat → Prop} (hc : s.vm.findClass RX7 = some cc) (hts : ∀ w ∈ lw_tbl, w.before #[Value.ref b] s = true) (hgv : (Jvm.Cond.and given_1 narrow_1).before #[Value.ref b] s = true) (hA : ∀ a : Nat, a < s.heap.size → ¬ A a) : VXF A s := by
  have hs := flat_of_before _ hgv
  refine ⟨vx_Zqof (hts _ (tl_3 2 rfl)) (hts _ (tl_1 8 rfl)) (hs _ (by decide +kernel)) hA, vx_Zqof (hts _ (tl_3 4 rfl)) (hts _ (tl_1 8 rfl)) (hs _ (by decide +kernel)) hA, ?_, ?_, ?_, ?_, ?_⟩
  · exact List.forall_mem_cons.mpr ⟨hts _ (tl_2 18 rfl), List.forall_mem_cons.mpr ⟨hts _ (tl_3 205 rfl), fun _ h => absurd h List.not_mem_nil⟩⟩
  · exact List.forall_mem_cons.mpr ⟨strR hc (hts _ (tl_3 16 rfl)), List.forall_mem_cons.mpr ⟨strR hc (hts _ (tl_3 56 rfl)), List.forall_mem_cons.mpr ⟨strR hc (hts _ (tl_3 74 rfl)), List.forall_mem_cons.mpr ⟨strR hc (hts _ (tl_3 122 rfl)), List.forall_mem_cons.mpr ⟨strR hc (hts _ (tl_3 148 rfl)), List.forall_mem_cons.mpr ⟨strR hc (hts _ (tl_3 168 rfl)), List.forall_mem_cons.mpr ⟨strR hc (hts _ (tl_3 184 rfl)), List.forall_mem_cons.mpr ⟨strR hc (hts _ (tl_3 197 rfl)), List.forall_mem_cons.mpr ⟨strR hc (hts _ (tl_3 220 rfl)), List.forall_mem_cons.mpr ⟨strR hc (hts _ (tl_3 235 rfl)), List.forall_mem_cons.mpr ⟨strR hc (hts _ (tl_4 11 rfl)), List.forall_mem_cons.mpr ⟨strR hc (hts _ (tl_4 28 rfl)), List.forall_mem_cons.mpr ⟨strR hc (hts _ (tl_4 37 rfl)), List.forall_mem_cons.mpr ⟨strR hc (hts _ (tl_4 39 rfl)), List.forall_mem_cons.mpr ⟨strR hc (hts _ (tl_4 48 rfl)), List.forall_mem_cons.mpr ⟨strR hc (hts _ (tl_4 49 rfl)), List.forall_mem_cons.mpr ⟨strR hc (hts _ (tl_4 65 rfl)), List.forall_mem_cons.mpr ⟨strR hc (hts _ (tl_4 77 rfl)), List.forall_mem_cons.mpr ⟨strR hc (hts _ (tl_4 89 rfl)), List.forall_mem_cons.mpr ⟨strR hc (hts _ (tl_4 101 rfl)), List.forall_mem_cons.mpr ⟨strR hc (hts _ (tl_4 103 rfl)), List.forall_mem_cons.mpr ⟨strR hc (hts _ (tl_4 136 rfl)), List.forall_mem_cons.mpr ⟨strR hc (hts _ (tl_4 150 rfl)), List.forall_mem_cons.mpr ⟨strR hc (hts _ (tl_4 167 rfl)), fun _ h => absurd h List.not_mem_nil⟩⟩⟩⟩⟩⟩⟩⟩⟩⟩⟩⟩⟩⟩⟩⟩⟩⟩⟩⟩⟩⟩⟩⟩
  · exact List.forall_mem_cons.mpr ⟨hts _ (tl_2 219 rfl), List.forall_mem_cons.mpr ⟨hts _ (tl_2 221 rfl), List.forall_mem_cons.mpr ⟨hts _ (tl_2 223 rfl), fun _ h => absurd h List.not_mem_nil⟩⟩⟩
  · exact List.forall_mem_cons.mpr ⟨hts _ (tl_2 217 rfl), List.forall_mem_cons.mpr ⟨hts _ (tl_3 49 rfl), List.forall_mem_cons.mpr ⟨hts _ (tl_3 141 rfl), fun _ h => absurd h List.not_mem_nil⟩⟩⟩
  · exact List.forall_mem_cons.mpr ⟨List.forall_mem_cons.mpr ⟨fun n => absurd rfl n, List.forall_mem_cons.mpr ⟨fun _ => va_Nc.of (hs (Cond.not (.castable "java/lang/IllegalArgumentException" "java/lang/IllegalStateException")) (by decide +kernel)), List.forall_mem_cons.mpr ⟨fun _ => va_Nc.of (hs (Cond.not (.castable "java/lang/IllegalArgumentException" "java/lang/IndexOutOfBoundsException")) (by decide +kernel)), fun _ h => absurd h List.not_mem_nil⟩⟩⟩, List.forall_mem_cons.mpr ⟨List.forall_mem_cons.mpr ⟨fun _ => va_Nc.of (hs (Cond.not (.castable "java/lang/IllegalStateException" "java/lang/IllegalArgumentException")) (by decide +kernel)), List.forall_mem_cons.mpr ⟨fun n => absurd rfl n, List.forall_mem_cons.mpr ⟨fun _ => va_Nc.of (hs (Cond.not (.castable "java/lang/IllegalStateException" "java/lang/IndexOutOfBoundsException")) (by decide +kernel)), fun _ h => absurd h List.not_mem_nil⟩⟩⟩, List.forall_mem_cons.mpr ⟨List.forall_mem_cons.mpr ⟨fun _ => va_Nc.of (hs (Cond.not (.castable "java/lang/IndexOutOfBoundsException" "java/lang/IllegalArgumentException")) (by decide +kernel)), List.forall_mem_cons.mpr ⟨fun _ => va_Nc.of (hs (Cond.not (.castable "java/lang/IndexOutOfBoundsException" "java/lang/IllegalStateException")) (by decide +kernel)), List.forall_mem_cons.mpr ⟨fun n => absurd rfl n, fun _ h => absurd h List.not_mem_nil⟩⟩⟩, fun _ h => absurd h List.not_mem_nil⟩⟩⟩
