/-! turning, the model's way -/
theorem loop_rd {σ : Type} (L : Nat → Nat → σ → Out) (M : Nat → Nat → Nat → Nat → σ → Out) (P : Nat → σ → Prop) (P' : Nat → Nat → σ → Prop) (Q : Out → Prop) (R C : Nat) (hC : C < 4096)
    (h0 : ∀ n s, P R s → Q (L (n + 1) R s)) (h1 : ∀ n i s, i < R → P i s → ∃ s', P' i 0 s' ∧ L (n + 1) i s = M n BIG i 0 s') (h2 : ∀ n m i s, i < R → P' i C s → ∃ s', P (i + 1) s' ∧ M n (m + 1) i C s = L n (i + 1) s')
    (h3 : ∀ n m i j s, i < R → j < C → P' i j s → ∃ s', P' i (j + 1) s' ∧ M n (m + 1) i j s = M n m i (j + 1) s') : ∀ n i s, i ≤ R → R < n + i → P i s → Q (L n i s) := by
  intro n
  induction n with
  | zero => intro i s a b; omega
  | succ n ih =>
    intro i s a b hp
    by_cases hi : i = R
    · subst hi; exact h0 n s hp
    · obtain ⟨s1, w1, w2⟩ := h1 n i s (by omega) hp
      rw [w2]
      refine loop_st (fun m j s => M n m i j s) (fun j s => P' i j s) Q C ?_ ?_ BIG 0 s1 (by omega) (BIG_lt hC) w1
      · intro m s hs
        obtain ⟨s', w1, w2⟩ := h2 n m i s (by omega) hs
        show Q (M n (m + 1) i C s)
        rw [w2]
        exact ih (i + 1) s' (by omega) (by omega) w1
      · intro m j s hj hs
        exact Or.inl (h3 n m i j s (by omega) hj hs)
/-- the turned numbers up to the cell j of the row i; k rows' wants -/
def qtn (P : Pic) (v w : Nat → Int32) (i j k l : Nat) : Prop := w 0 = i3 (nC P) ∧ w 1 = i3 (nR P) ∧
  (∀ a b, a < 6 → b < 6 → w (2 + 6 * a + b) = if (a < nC P ∧ b < nR P) ∧ (nR P - 1 - b < i ∨ nR P - 1 - b = i ∧ a < j) then v (2 + 6 * (nR P - 1 - b) + a) else i3 0) ∧
  (∀ a, a < 6 → w (38 + a) = if a < l then v (44 + a) else i3 0) ∧ (∀ a, a < 6 → w (44 + a) = if a < nR P ∧ nR P - 1 - a < k then v (38 + (nR P - 1 - a)) else i3 0)
theorem qtn_up {P : Pic} {v : Nat → Int32} {z : Mem} {i j k l i' j' k' l' x : Nat} {u : Int32} (h : qtn P v (z.1 47) i j k l) (hx : 2 ≤ x)
    (h1 : ∀ a b, a < 6 → b < 6 → (if x = 2 + 6 * a + b then u else if (a < nC P ∧ b < nR P) ∧ (nR P - 1 - b < i ∨ nR P - 1 - b = i ∧ a < j) then v (2 + 6 * (nR P - 1 - b) + a) else i3 0) = if (a < nC P ∧ b < nR P) ∧ (nR P - 1 - b < i' ∨ nR P - 1 - b = i' ∧ a < j') then v (2 + 6 * (nR P - 1 - b) + a) else i3 0)
    (h2 : ∀ a, a < 6 → (if x = 38 + a then u else if a < l then v (44 + a) else i3 0) = if a < l' then v (44 + a) else i3 0)
    (h3 : ∀ a, a < 6 → (if x = 44 + a then u else if a < nR P ∧ nR P - 1 - a < k then v (38 + (nR P - 1 - a)) else i3 0) = if a < nR P ∧ nR P - 1 - a < k' then v (38 + (nR P - 1 - a)) else i3 0) : qtn P v ((sI z 47 x u).1 47) i' j' k' l' := by
  obtain ⟨g0, g1, g2, g3, g4⟩ := h
  have e : ∀ y, (sI z 47 x u).1 47 y = if x = y then u else z.1 47 y := fun y => by
    rw [sI_1, up2_a]
    by_cases q : x = y
    · rw [if_pos ⟨rfl, q.symm⟩, if_pos q]
    · rw [if_neg (fun w => q w.2.symm), if_neg q]
  refine ⟨by rw [e, if_neg (by omega)]; exact g0, by rw [e, if_neg (by omega)]; exact g1, fun a b ha hb => ?_, fun a ha => ?_, fun a ha => ?_⟩
  · rw [e, g2 a b ha hb]; exact h1 a b ha hb
  · rw [e, g3 a ha]; exact h2 a ha
  · rw [e, g4 a ha]; exact h3 a ha
theorem qtn_MN {P Q : Pic} (ok : okP P) (hq : turned P Q) {v w : Nat → Int32} (hv : RW v P) (h : qtn P v w (nR P) 0 (nR P) (nC P)) : RW w Q := by
  have o1 := ok.2.1
  have o2 := ok.2.2.2.1
  obtain ⟨t1, t2, t3, t4, t5, t6⟩ := hq
  obtain ⟨g0, g1, g2, g3, g4⟩ := h
  obtain ⟨v0, v1, v2, v3, v4⟩ := hv
  have bits : ∀ x y : Int64, (∀ a b, zc y a b ↔ b < nR P ∧ zc x (nR P - 1 - b) a) → (∀ r c, zc x r c → r < nR P ∧ c < nC P) → ∀ a b, a < 6 → b < 6 → b2 (tb y (8 * a + b)) = if a < nC P ∧ b < nR P then b2 (tb x (8 * (nR P - 1 - b) + a)) else 0 := by
    intro x y hxy hx a b ha hb
    have tY := tb_iff (x := y) (r := a) (c := b) (by omega) (by omega)
    have tX := tb_iff (x := x) (r := nR P - 1 - b) (c := a) (by omega) (by omega)
    rw [hxy, ← tX] at tY
    by_cases q : a < nC P ∧ b < nR P
    · rw [if_pos q]
      cases hh : tb x (8 * (nR P - 1 - b) + a)
      · rw [tb_f (fun w => by have := (tY.mp w).2; rw [hh] at this; exact absurd this (by decide))]
      · rw [tY.mpr ⟨q.2, hh⟩]
    · rw [if_neg q, tb_f (fun w => q ?_)]
      · rfl
      · have := tY.mp w
        exact ⟨(hx _ _ (tX.mp this.2)).2, this.1⟩
  refine ⟨by rw [t1]; exact g0, by rw [t2]; exact g1, fun a b ha hb => ?_, fun a ha => ?_, fun a ha => ?_⟩
  · rw [g2 a b ha hb, bits _ _ t4 ok.2.2.2.2.1 a b ha hb, bits _ _ t5 ok.2.2.2.2.2.1 a b ha hb]
    by_cases q : a < nC P ∧ b < nR P
    · rw [if_pos q, if_pos q, if_pos ⟨q, by omega⟩]; exact v2 _ _ (by omega) (by omega)
    · rw [if_neg q, if_neg q, if_neg (fun w => q w.1)]; rfl
  · rw [g3 a ha, t3]
    by_cases q : a < nC P
    · rw [if_pos q]; exact v4 a ha
    · rw [if_neg q, (ok.2.2.2.2.2.2.2 a ha).2 (by omega)]; rfl
  · rw [g4 a ha, t6 a ha]
    by_cases q : a < nR P
    · rw [if_pos q, if_pos ⟨q, by omega⟩]; exact v3 _ (by omega)
    · rw [if_neg q, if_neg (fun w => q w.1)]; rfl
