theorem t_1 {w : Cond} (i : Nat) (h : tables_1_1[i]? = some w) (g : goodWord w = true) : w ∈ TB := TB_in (List.mem_append.mpr (Or.inr (List.mem_append.mpr (Or.inl (List.mem_of_getElem? h))))) g
theorem t_2 {w : Cond} (i : Nat) (h : tables_1_2[i]? = some w) (g : goodWord w = true) : w ∈ TB := TB_in (List.mem_append.mpr (Or.inr (List.mem_append.mpr (Or.inr (List.mem_append.mpr (Or.inl (List.mem_of_getElem? h))))))) g
theorem zz1 : Cond.constantLong RX4 79 (-1) ∈ TB := t_2 36 rfl rfl
theorem zz2 : Cond.code ⟨"CountedCells$Cells", "columnMask", "(I)J"⟩ cX0_columnMask 1 (some .long) ∈ TB := t_1 234 rfl rfl
theorem zz3 : Cond.code yX0_columnMask cX0_columnMask 1 (some .long) ∈ TB := t_1 234 rfl rfl
theorem zz4 : Cond.code yX0_columnMask cX0_columnMask 1 (some .long) ∈ TB := t_1 234 rfl rfl
theorem zz5 : Cond.code yX0_columnMask cX0_columnMask 1 (some .long) ∈ TB := t_1 234 rfl rfl
theorem zz6 : Cond.code yX0_columnMask cX0_columnMask 1 (some .long) ∈ TB := t_1 234 rfl rfl
theorem zz7 : Cond.code yX0_columnMask cX0_columnMask 1 (some .long) ∈ TB := t_1 234 rfl rfl
theorem zz8 : Cond.code yX0_columnMask cX0_columnMask 1 (some .long) ∈ TB := t_1 234 rfl rfl
