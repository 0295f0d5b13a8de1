/-! the first memory, and what the tables say at the start -/
theorem tl_1 {w : Cond} (i : Nat) (h : tables_1_1[i]? = some w) : w ∈ lw_tbl := List.mem_append.mpr (Or.inr (List.mem_append.mpr (Or.inl (List.mem_of_getElem? h))))
theorem tl_2 {w : Cond} (i : Nat) (h : tables_1_2[i]? = some w) : w ∈ lw_tbl := List.mem_append.mpr (Or.inr (List.mem_append.mpr (Or.inr (List.mem_append.mpr (Or.inl (List.mem_of_getElem? h))))))
theorem tl_3 {w : Cond} (i : Nat) (h : tables_1_3[i]? = some w) : w ∈ lw_tbl := List.mem_append.mpr (Or.inr (List.mem_append.mpr (Or.inr (List.mem_append.mpr (Or.inr (List.mem_append.mpr (Or.inl (List.mem_of_getElem? h))))))))
theorem tl_4 {w : Cond} (i : Nat) (h : tables_1_4[i]? = some w) : w ∈ lw_tbl := List.mem_append.mpr (Or.inr (List.mem_append.mpr (Or.inr (List.mem_append.mpr (Or.inr (List.mem_append.mpr (Or.inr (List.mem_of_getElem? h))))))))
def A00 : Ab := (P00, (0, fun _ => P00), (fun _ => false, fun _ => P00), (0, fun _ => 0))
theorem c00 : cInv M0 A00 := by
  refine ⟨⟨rfl, rfl, rfl, rfl, rfl, rfl⟩, ok00, ⟨fun j => 13 + j, fun j hj => ⟨rfl, (show 13 ≤ 13 + j by omega), (show 13 + j < 27 by omega)⟩, fun i j _ _ h => by have h : 13 + i = 13 + j := h; omega, rfl, Nat.zero_le _, fun j hj => absurd hj (Nat.not_lt_zero _)⟩, ⟨rfl, rfl, fun j hj => ⟨rfl, fun h => nomatch h⟩⟩, ⟨rfl, Nat.zero_le _, fun j hj => absurd hj (Nat.not_lt_zero _)⟩⟩
theorem knownAll {args : Array Value} {s : State} (hts9 : ∀ w ∈ TB, w.before args s = true) : ∃ D : va_G, va_K D vwCl [] s := by
  have h : ∀ k : Nat, ∃ (c : ClassId) (iS : Nat → Nat), ∀ q : vw_C, vwCl[k]? = some q → u_Kn s q.1 q.2.1 q.2.2 c iS := by
    intro k
    match k with
    | 0 =>
      obtain ⟨c, i, h⟩ := u_known (C := RX2) (T := TX2) (N := 3) (n := 3) hts9 (cls_ok 0 _ rfl).1 (hts9 _ (t_1 106 rfl rfl))
      exact ⟨c, i, fun q hq => by cases hq; exact h⟩
    | 1 =>
      obtain ⟨c, i, h⟩ := u_known (C := RX3) (T := TX3) (N := 2) (n := 2) hts9 (cls_ok 1 _ rfl).1 (hts9 _ (t_1 74 rfl rfl))
      exact ⟨c, i, fun q hq => by cases hq; exact h⟩
    | 2 =>
      obtain ⟨c, i, h⟩ := u_known (C := RX4) (T := TX4) (N := 6) (n := 6) hts9 (cls_ok 2 _ rfl).1 (hts9 _ (t_1 41 rfl rfl))
      exact ⟨c, i, fun q hq => by cases hq; exact h⟩
    | 3 =>
      obtain ⟨c, i, h⟩ := u_known (C := RX5) (T := TX5) (N := 2) (n := 2) hts9 (cls_ok 3 _ rfl).1 (hts9 _ (t_1 90 rfl rfl))
      exact ⟨c, i, fun q hq => by cases hq; exact h⟩
    | 4 =>
      obtain ⟨c, i, h⟩ := u_known (C := RX6) (T := TX6) (N := 2) (n := 2) hts9 (cls_ok 4 _ rfl).1 (hts9 _ (t_1 27 rfl rfl))
      exact ⟨c, i, fun q hq => by cases hq; exact h⟩
    | 5 =>
      obtain ⟨c, i, h⟩ := u_known (C := RX7) (T := TX7) (N := 7) (n := 7) hts9 (cls_ok 5 _ rfl).1 (hts9 _ (t_1 19 rfl rfl))
      exact ⟨c, i, fun q hq => by cases hq; exact h⟩
    | k + 6 => exact ⟨0, fun _ => 0, fun q hq => by simp [vwCl] at hq⟩
  exact ⟨(fun k => Classical.choose (h k), fun k => Classical.choose (Classical.choose_spec (h k))), fun k q hq => Classical.choose_spec (Classical.choose_spec (h k)) q hq, fun k q hq => by simp at hq⟩
theorem nxf0 {args : Array Value} {s : State} (hts : ∀ w ∈ lw_tbl, w.before args s = true) : NXF s := by
  exact ⟨va_AO.of (hts _ (tl_1 80 rfl)), hts _ (tl_1 28 rfl), hts _ (tl_1 42 rfl), hts _ (tl_1 81 rfl), hts _ (tl_1 96 rfl), hts _ (tl_1 107 rfl)⟩
theorem strR {args : Array Value} {s : State} {cc : ClassId} {k : Nat} {tx : String} (hc : s.vm.findClass RX7 = some cc) (h : (Cond.stringRef RX7 k tx).before args s = true) : ∃ a, vk_R RX7 k tx a s := by
  obtain ⟨k1, cf, i, a, hk, hcf, hcp, -, hr, hev⟩ := Cond.stringRef_spec hc h
  exact ⟨a, vk_R.of h hev⟩
set_option maxRecDepth 100000 in
theorem vxf0 {b : Nat} {s : State} {cc : ClassId} {A : Nat → Prop} (hc : s.vm.findClass RX7 = some cc) (hts : ∀ w ∈ lw_tbl, w.before #[Value.ref b] s = true) (hgv : (Jvm.Cond.and given_1 narrow_1).before #[Value.ref b] s = true) (hA : ∀ a : Nat, a < s.heap.size → ¬ A a) : VXF A s := by
  have hs := flat_of_before _ hgv
  refine ⟨vx_Zqof (hts _ (tl_2 33 rfl)) (hts _ (tl_1 11 rfl)) (hs _ (by decide +kernel)) hA, vx_Zqof (hts _ (tl_2 35 rfl)) (hts _ (tl_1 11 rfl)) (hs _ (by decide +kernel)) hA, ?_, ?_, ?_, ?_, ?_⟩
  · exact List.forall_mem_cons.mpr ⟨hts _ (tl_1 204 rfl), List.forall_mem_cons.mpr ⟨hts _ (tl_3 164 rfl), fun _ h => absurd h List.not_mem_nil⟩⟩
  · exact List.forall_mem_cons.mpr ⟨strR hc (hts _ (tl_2 47 rfl)), List.forall_mem_cons.mpr ⟨strR hc (hts _ (tl_2 95 rfl)), List.forall_mem_cons.mpr ⟨strR hc (hts _ (tl_2 115 rfl)), List.forall_mem_cons.mpr ⟨strR hc (hts _ (tl_2 128 rfl)), List.forall_mem_cons.mpr ⟨strR hc (hts _ (tl_2 193 rfl)), List.forall_mem_cons.mpr ⟨strR hc (hts _ (tl_2 233 rfl)), List.forall_mem_cons.mpr ⟨strR hc (hts _ (tl_3 16 rfl)), List.forall_mem_cons.mpr ⟨strR hc (hts _ (tl_3 73 rfl)), List.forall_mem_cons.mpr ⟨strR hc (hts _ (tl_3 125 rfl)), List.forall_mem_cons.mpr ⟨strR hc (hts _ (tl_3 156 rfl)), List.forall_mem_cons.mpr ⟨strR hc (hts _ (tl_3 188 rfl)), List.forall_mem_cons.mpr ⟨strR hc (hts _ (tl_3 193 rfl)), List.forall_mem_cons.mpr ⟨strR hc (hts _ (tl_3 195 rfl)), List.forall_mem_cons.mpr ⟨strR hc (hts _ (tl_3 208 rfl)), List.forall_mem_cons.mpr ⟨strR hc (hts _ (tl_3 233 rfl)), List.forall_mem_cons.mpr ⟨strR hc (hts _ (tl_3 234 rfl)), List.forall_mem_cons.mpr ⟨strR hc (hts _ (tl_4 10 rfl)), List.forall_mem_cons.mpr ⟨strR hc (hts _ (tl_4 22 rfl)), fun _ h => absurd h List.not_mem_nil⟩⟩⟩⟩⟩⟩⟩⟩⟩⟩⟩⟩⟩⟩⟩⟩⟩⟩
  · exact List.forall_mem_cons.mpr ⟨hts _ (tl_2 10 rfl), List.forall_mem_cons.mpr ⟨hts _ (tl_2 12 rfl), List.forall_mem_cons.mpr ⟨hts _ (tl_2 14 rfl), fun _ h => absurd h List.not_mem_nil⟩⟩⟩
  · exact List.forall_mem_cons.mpr ⟨hts _ (tl_2 8 rfl), List.forall_mem_cons.mpr ⟨hts _ (tl_2 226 rfl), List.forall_mem_cons.mpr ⟨hts _ (tl_2 88 rfl), fun _ h => absurd h List.not_mem_nil⟩⟩⟩
  · exact List.forall_mem_cons.mpr ⟨List.forall_mem_cons.mpr ⟨fun _ => va_Nc.of (hs (Cond.not (.castable "java/lang/IllegalArgumentException" "java/lang/IllegalStateException")) (by decide +kernel)), fun _ h => absurd h List.not_mem_nil⟩, List.forall_mem_cons.mpr ⟨List.forall_mem_cons.mpr ⟨fun n => absurd rfl n, fun _ h => absurd h List.not_mem_nil⟩, List.forall_mem_cons.mpr ⟨List.forall_mem_cons.mpr ⟨fun _ => va_Nc.of (hs (Cond.not (.castable "java/lang/IndexOutOfBoundsException" "java/lang/IllegalStateException")) (by decide +kernel)), fun _ h => absurd h List.not_mem_nil⟩, fun _ h => absurd h List.not_mem_nil⟩⟩⟩
