theorem ci_m9 : Int32.ofInt (-9) = (-9 : Int32) := by decide
theorem cb_m9 : (Int8.ofInt (-9)).toInt32 = (-9 : Int32) := by decide
theorem cs_m9 : (Int16.ofInt (-9)).toInt32 = (-9 : Int32) := by decide
theorem ci_m1 : Int32.ofInt (-1) = (-1 : Int32) := by decide
theorem cb_m1 : (Int8.ofInt (-1)).toInt32 = (-1 : Int32) := by decide
theorem cs_m1 : (Int16.ofInt (-1)).toInt32 = (-1 : Int32) := by decide
theorem ci_0 : Int32.ofInt (0) = (0 : Int32) := by decide
theorem cb_0 : (Int8.ofInt (0)).toInt32 = (0 : Int32) := by decide
theorem cs_0 : (Int16.ofInt (0)).toInt32 = (0 : Int32) := by decide
theorem ci_1 : Int32.ofInt (1) = (1 : Int32) := by decide
theorem cb_1 : (Int8.ofInt (1)).toInt32 = (1 : Int32) := by decide
theorem cs_1 : (Int16.ofInt (1)).toInt32 = (1 : Int32) := by decide
theorem ci_2 : Int32.ofInt (2) = (2 : Int32) := by decide
theorem cb_2 : (Int8.ofInt (2)).toInt32 = (2 : Int32) := by decide
theorem cs_2 : (Int16.ofInt (2)).toInt32 = (2 : Int32) := by decide
theorem ci_3 : Int32.ofInt (3) = (3 : Int32) := by decide
theorem cb_3 : (Int8.ofInt (3)).toInt32 = (3 : Int32) := by decide
theorem cs_3 : (Int16.ofInt (3)).toInt32 = (3 : Int32) := by decide
theorem ci_4 : Int32.ofInt (4) = (4 : Int32) := by decide
theorem cb_4 : (Int8.ofInt (4)).toInt32 = (4 : Int32) := by decide
theorem cs_4 : (Int16.ofInt (4)).toInt32 = (4 : Int32) := by decide
theorem ci_5 : Int32.ofInt (5) = (5 : Int32) := by decide
theorem cb_5 : (Int8.ofInt (5)).toInt32 = (5 : Int32) := by decide
theorem cs_5 : (Int16.ofInt (5)).toInt32 = (5 : Int32) := by decide
theorem ci_6 : Int32.ofInt (6) = (6 : Int32) := by decide
theorem cb_6 : (Int8.ofInt (6)).toInt32 = (6 : Int32) := by decide
theorem cs_6 : (Int16.ofInt (6)).toInt32 = (6 : Int32) := by decide
theorem ci_7 : Int32.ofInt (7) = (7 : Int32) := by decide
theorem cb_7 : (Int8.ofInt (7)).toInt32 = (7 : Int32) := by decide
theorem cs_7 : (Int16.ofInt (7)).toInt32 = (7 : Int32) := by decide
theorem ci_8 : Int32.ofInt (8) = (8 : Int32) := by decide
theorem cb_8 : (Int8.ofInt (8)).toInt32 = (8 : Int32) := by decide
theorem cs_8 : (Int16.ofInt (8)).toInt32 = (8 : Int32) := by decide
theorem ci_9 : Int32.ofInt (9) = (9 : Int32) := by decide
theorem cb_9 : (Int8.ofInt (9)).toInt32 = (9 : Int32) := by decide
theorem cs_9 : (Int16.ofInt (9)).toInt32 = (9 : Int32) := by decide
theorem ci_10 : Int32.ofInt (10) = (10 : Int32) := by decide
theorem cb_10 : (Int8.ofInt (10)).toInt32 = (10 : Int32) := by decide
theorem cs_10 : (Int16.ofInt (10)).toInt32 = (10 : Int32) := by decide
theorem ci_11 : Int32.ofInt (11) = (11 : Int32) := by decide
theorem cb_11 : (Int8.ofInt (11)).toInt32 = (11 : Int32) := by decide
theorem cs_11 : (Int16.ofInt (11)).toInt32 = (11 : Int32) := by decide
theorem ci_12 : Int32.ofInt (12) = (12 : Int32) := by decide
theorem cb_12 : (Int8.ofInt (12)).toInt32 = (12 : Int32) := by decide
theorem cs_12 : (Int16.ofInt (12)).toInt32 = (12 : Int32) := by decide
theorem ci_15 : Int32.ofInt (15) = (15 : Int32) := by decide
theorem cb_15 : (Int8.ofInt (15)).toInt32 = (15 : Int32) := by decide
theorem cs_15 : (Int16.ofInt (15)).toInt32 = (15 : Int32) := by decide
theorem ci_16 : Int32.ofInt (16) = (16 : Int32) := by decide
theorem cb_16 : (Int8.ofInt (16)).toInt32 = (16 : Int32) := by decide
theorem cs_16 : (Int16.ofInt (16)).toInt32 = (16 : Int32) := by decide
theorem ci_32 : Int32.ofInt (32) = (32 : Int32) := by decide
theorem cb_32 : (Int8.ofInt (32)).toInt32 = (32 : Int32) := by decide
theorem cs_32 : (Int16.ofInt (32)).toInt32 = (32 : Int32) := by decide
theorem ci_36 : Int32.ofInt (36) = (36 : Int32) := by decide
theorem cb_36 : (Int8.ofInt (36)).toInt32 = (36 : Int32) := by decide
theorem cs_36 : (Int16.ofInt (36)).toInt32 = (36 : Int32) := by decide
theorem ci_47 : Int32.ofInt (47) = (47 : Int32) := by decide
theorem cb_47 : (Int8.ofInt (47)).toInt32 = (47 : Int32) := by decide
theorem cs_47 : (Int16.ofInt (47)).toInt32 = (47 : Int32) := by decide
theorem ci_48 : Int32.ofInt (48) = (48 : Int32) := by decide
theorem cb_48 : (Int8.ofInt (48)).toInt32 = (48 : Int32) := by decide
theorem cs_48 : (Int16.ofInt (48)).toInt32 = (48 : Int32) := by decide
theorem ci_63 : Int32.ofInt (63) = (63 : Int32) := by decide
theorem cb_63 : (Int8.ofInt (63)).toInt32 = (63 : Int32) := by decide
theorem cs_63 : (Int16.ofInt (63)).toInt32 = (63 : Int32) := by decide
theorem ci_100 : Int32.ofInt (100) = (100 : Int32) := by decide
theorem cb_100 : (Int8.ofInt (100)).toInt32 = (100 : Int32) := by decide
theorem cs_100 : (Int16.ofInt (100)).toInt32 = (100 : Int32) := by decide
theorem ci_127 : Int32.ofInt (127) = (127 : Int32) := by decide
theorem cb_127 : (Int8.ofInt (127)).toInt32 = (127 : Int32) := by decide
theorem cs_127 : (Int16.ofInt (127)).toInt32 = (127 : Int32) := by decide
theorem ci_1000 : Int32.ofInt (1000) = (1000 : Int32) := by decide
theorem cs_1000 : (Int16.ofInt (1000)).toInt32 = (1000 : Int32) := by decide
theorem ts_out_0_4 {x : Int32} (h0 : ¬ x = (0 : Int32)) (h1 : ¬ x = (1 : Int32)) (h2 : ¬ x = (2 : Int32)) (h3 : ¬ x = (3 : Int32)) (h4 : ¬ x = (4 : Int32)) : x.toInt < 0 ∨ 4 < x.toInt := by
  have e0 : x.toInt ≠ 0 := fun q => h0 (Int32.toInt_inj.mp (q.trans (by decide)))
  have e1 : x.toInt ≠ 1 := fun q => h1 (Int32.toInt_inj.mp (q.trans (by decide)))
  have e2 : x.toInt ≠ 2 := fun q => h2 (Int32.toInt_inj.mp (q.trans (by decide)))
  have e3 : x.toInt ≠ 3 := fun q => h3 (Int32.toInt_inj.mp (q.trans (by decide)))
  have e4 : x.toInt ≠ 4 := fun q => h4 (Int32.toInt_inj.mp (q.trans (by decide)))
  omega
theorem ts_out_0_10 {x : Int32} (h0 : ¬ x = (0 : Int32)) (h1 : ¬ x = (1 : Int32)) (h2 : ¬ x = (2 : Int32)) (h3 : ¬ x = (3 : Int32)) (h4 : ¬ x = (4 : Int32)) (h5 : ¬ x = (5 : Int32)) (h6 : ¬ x = (6 : Int32)) (h7 : ¬ x = (7 : Int32)) (h8 : ¬ x = (8 : Int32)) (h9 : ¬ x = (9 : Int32)) (h10 : ¬ x = (10 : Int32)) : x.toInt < 0 ∨ 10 < x.toInt := by
  have e0 : x.toInt ≠ 0 := fun q => h0 (Int32.toInt_inj.mp (q.trans (by decide)))
  have e1 : x.toInt ≠ 1 := fun q => h1 (Int32.toInt_inj.mp (q.trans (by decide)))
  have e2 : x.toInt ≠ 2 := fun q => h2 (Int32.toInt_inj.mp (q.trans (by decide)))
  have e3 : x.toInt ≠ 3 := fun q => h3 (Int32.toInt_inj.mp (q.trans (by decide)))
  have e4 : x.toInt ≠ 4 := fun q => h4 (Int32.toInt_inj.mp (q.trans (by decide)))
  have e5 : x.toInt ≠ 5 := fun q => h5 (Int32.toInt_inj.mp (q.trans (by decide)))
  have e6 : x.toInt ≠ 6 := fun q => h6 (Int32.toInt_inj.mp (q.trans (by decide)))
  have e7 : x.toInt ≠ 7 := fun q => h7 (Int32.toInt_inj.mp (q.trans (by decide)))
  have e8 : x.toInt ≠ 8 := fun q => h8 (Int32.toInt_inj.mp (q.trans (by decide)))
  have e9 : x.toInt ≠ 9 := fun q => h9 (Int32.toInt_inj.mp (q.trans (by decide)))
  have e10 : x.toInt ≠ 10 := fun q => h10 (Int32.toInt_inj.mp (q.trans (by decide)))
  omega
theorem th0_IllegalArgumentException_57 : ((vx_atS RX7 57 "java/lang/IllegalArgumentException" xcN).filter goodWord).all (fun w => decide (w ∈ TB)) = true := by decide +kernel
theorem th1_IllegalArgumentException_57 : (vx_atS RX7 57 "java/lang/IllegalArgumentException" xcN).filter (fun w => !goodWord w) = thB "java/lang/IllegalArgumentException" := by decide +kernel
theorem th2_IllegalArgumentException_57 : (vx_atS RX7 57 "java/lang/IllegalArgumentException" xcN).all vx_ot = true := by decide +kernel
theorem th_IllegalArgumentException_57 : (∀ w ∈ (vx_atS RX7 57 "java/lang/IllegalArgumentException" xcN).filter goodWord, w ∈ TB) ∧ (∀ w ∈ (vx_atS RX7 57 "java/lang/IllegalArgumentException" xcN).filter (fun w => !goodWord w), w ∈ thB "java/lang/IllegalArgumentException") ∧ (∀ w ∈ vx_atS RX7 57 "java/lang/IllegalArgumentException" xcN, vx_ot w = true) := ⟨fun w hw => of_decide_eq_true (List.all_eq_true.mp th0_IllegalArgumentException_57 w hw), fun w hw => by rw [th1_IllegalArgumentException_57] at hw; exact hw, fun w hw => List.all_eq_true.mp th2_IllegalArgumentException_57 w hw⟩
theorem th0_IllegalStateException_68 : ((vx_atS RX7 68 "java/lang/IllegalStateException" xcN).filter goodWord).all (fun w => decide (w ∈ TB)) = true := by decide +kernel
theorem th1_IllegalStateException_68 : (vx_atS RX7 68 "java/lang/IllegalStateException" xcN).filter (fun w => !goodWord w) = thB "java/lang/IllegalStateException" := by decide +kernel
theorem th2_IllegalStateException_68 : (vx_atS RX7 68 "java/lang/IllegalStateException" xcN).all vx_ot = true := by decide +kernel
theorem th_IllegalStateException_68 : (∀ w ∈ (vx_atS RX7 68 "java/lang/IllegalStateException" xcN).filter goodWord, w ∈ TB) ∧ (∀ w ∈ (vx_atS RX7 68 "java/lang/IllegalStateException" xcN).filter (fun w => !goodWord w), w ∈ thB "java/lang/IllegalStateException") ∧ (∀ w ∈ vx_atS RX7 68 "java/lang/IllegalStateException" xcN, vx_ot w = true) := ⟨fun w hw => of_decide_eq_true (List.all_eq_true.mp th0_IllegalStateException_68 w hw), fun w hw => by rw [th1_IllegalStateException_68] at hw; exact hw, fun w hw => List.all_eq_true.mp th2_IllegalStateException_68 w hw⟩
theorem th0_IndexOutOfBoundsException_188 : ((vx_atS RX7 188 "java/lang/IndexOutOfBoundsException" xcN).filter goodWord).all (fun w => decide (w ∈ TB)) = true := by decide +kernel
theorem th1_IndexOutOfBoundsException_188 : (vx_atS RX7 188 "java/lang/IndexOutOfBoundsException" xcN).filter (fun w => !goodWord w) = thB "java/lang/IndexOutOfBoundsException" := by decide +kernel
theorem th2_IndexOutOfBoundsException_188 : (vx_atS RX7 188 "java/lang/IndexOutOfBoundsException" xcN).all vx_ot = true := by decide +kernel
theorem th_IndexOutOfBoundsException_188 : (∀ w ∈ (vx_atS RX7 188 "java/lang/IndexOutOfBoundsException" xcN).filter goodWord, w ∈ TB) ∧ (∀ w ∈ (vx_atS RX7 188 "java/lang/IndexOutOfBoundsException" xcN).filter (fun w => !goodWord w), w ∈ thB "java/lang/IndexOutOfBoundsException") ∧ (∀ w ∈ vx_atS RX7 188 "java/lang/IndexOutOfBoundsException" xcN, vx_ot w = true) := ⟨fun w hw => of_decide_eq_true (List.all_eq_true.mp th0_IndexOutOfBoundsException_188 w hw), fun w hw => by rw [th1_IndexOutOfBoundsException_188] at hw; exact hw, fun w hw => List.all_eq_true.mp th2_IndexOutOfBoundsException_188 w hw⟩
