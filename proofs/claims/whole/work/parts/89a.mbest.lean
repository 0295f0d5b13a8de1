/-! what the best exchange is told by -/
theorem osd_bd (b : Int64) (r c : Nat) : 0 ≤ osd b r c ∧ osd b r c ≤ 4 := by
  unfold osd
  have h : ∀ x : Bool, 0 ≤ 1 - b2 x ∧ 1 - b2 x ≤ 1 := by decide
  have h1 := h (decide (1 ≤ c) && tb b (8 * r + c - 1))
  have h2 := h (tb b (8 * r + c + 1))
  have h3 := h (decide (1 ≤ r) && tb b (8 * r + c - 8))
  have h4 := h (tb b (8 * r + c + 8))
  omega
theorem outl_bd (a b : Int64) : 0 ≤ outl a b ∧ outl a b ≤ 144 := by
  have cell : ∀ r c, 0 ≤ b2 (tb a (8 * r + c)) * osd b r c ∧ b2 (tb a (8 * r + c)) * osd b r c ≤ 4 := fun r c => by
    have := osd_bd b r c
    cases tb a (8 * r + c)
    · rw [b2_f, Int.zero_mul]; omega
    · rw [b2_t, Int.one_mul]; exact this
  have row : ∀ r, 0 ≤ zs 6 (fun c => b2 (tb a (8 * r + c)) * osd b r c) ∧ zs 6 (fun c => b2 (tb a (8 * r + c)) * osd b r c) ≤ 24 := fun r => by
    have u := zs_bnd (n := 6) (f := fun c => b2 (tb a (8 * r + c)) * osd b r c) 4 (fun c _ => (cell r c).2)
    have v : 0 ≤ zs 6 (fun c => b2 (tb a (8 * r + c)) * osd b r c) := zs_pos (fun c _ => (cell r c).1)
    omega
  have u := zs_bnd (n := 6) (f := fun r => zs 6 (fun c => b2 (tb a (8 * r + c)) * osd b r c)) 24 (fun r _ => (row r).2)
  have v : 0 ≤ zs 6 (fun r => zs 6 (fun c => b2 (tb a (8 * r + c)) * osd b r c)) := zs_pos (fun r _ => (row r).1)
  show 0 ≤ zs 6 (fun r => zs 6 (fun c => b2 (tb a (8 * r + c)) * osd b r c)) ∧ zs 6 (fun r => zs 6 (fun c => b2 (tb a (8 * r + c)) * osd b r c)) ≤ 144
  omega
theorem tol_inj {k k' : Nat} (hk : k < 1296) (hk' : k' < 1296) (h : tol k = tol k') : k = k' := by
  unfold tol at h
  omega
noncomputable def exK (P : Pic) (i : Nat) : Nat := @Classical.epsilon Nat ⟨0⟩ (fun k => k < 1296 ∧ exq P k = true ∧ cex P k = i)
theorem exK_eq {P : Pic} {i : Nat} {v : Int} (h : isEx P i v) (hi : (i : Int) < cex P 1296) : v = tol (exK P i) ∧ exK P i < 1296 ∧ exq P (exK P i) = true := by
  rcases h with ⟨k, h1, h2, h3, h4⟩ | ⟨h1, h2⟩
  · have sp : exK P i < 1296 ∧ exq P (exK P i) = true ∧ cex P (exK P i) = i := @Classical.epsilon_spec_aux Nat ⟨0⟩ (fun k => k < 1296 ∧ exq P k = true ∧ cex P k = i) ⟨k, h1, h2, h3⟩
    have e := isEx_uni (Or.inl ⟨k, h1, h2, h3, h4⟩ : isEx P i v) (Or.inl ⟨_, sp.1, sp.2.1, sp.2.2, rfl⟩ : isEx P i (tol (exK P i)))
    exact ⟨e, sp.1, sp.2.1⟩
  · omega
noncomputable def npN (x : Int64) : Nat := @Classical.epsilon Nat ⟨0⟩ (fun n => npc (zc x) n)
theorem npN_eq {x : Int64} {n : Nat} (h : npc (zc x) n) : npN x = n := npc_inj (@Classical.epsilon_spec_aux Nat ⟨0⟩ (fun n => npc (zc x) n) ⟨n, h⟩) h
