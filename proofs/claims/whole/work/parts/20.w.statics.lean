theorem dJ6_bitCount_0f7a4_0 : decode cJ6_bitCount_0f7a4 0 = .ok (.iload_n 0, 1) := by decide +kernel
theorem dJ6_bitCount_0f7a4_1 : decode cJ6_bitCount_0f7a4 1 = .ok (.iload_n 0, 1) := by decide +kernel
theorem dJ6_bitCount_0f7a4_2 : decode cJ6_bitCount_0f7a4 2 = .ok (.iconst 1, 1) := by decide +kernel
theorem dJ6_bitCount_0f7a4_3 : decode cJ6_bitCount_0f7a4 3 = .ok (.iushr, 1) := by decide +kernel
theorem dJ6_bitCount_0f7a4_4 : decode cJ6_bitCount_0f7a4 4 = .ok (.ldc_w 265, 3) := by decide +kernel
theorem dJ6_bitCount_0f7a4_7 : decode cJ6_bitCount_0f7a4 7 = .ok (.iand, 1) := by decide +kernel
theorem dJ6_bitCount_0f7a4_8 : decode cJ6_bitCount_0f7a4 8 = .ok (.isub, 1) := by decide +kernel
theorem dJ6_bitCount_0f7a4_9 : decode cJ6_bitCount_0f7a4 9 = .ok (.istore_n 0, 1) := by decide +kernel
theorem dJ6_bitCount_0f7a4_10 : decode cJ6_bitCount_0f7a4 10 = .ok (.iload_n 0, 1) := by decide +kernel
theorem dJ6_bitCount_0f7a4_11 : decode cJ6_bitCount_0f7a4 11 = .ok (.ldc_w 266, 3) := by decide +kernel
theorem dJ6_bitCount_0f7a4_14 : decode cJ6_bitCount_0f7a4 14 = .ok (.iand, 1) := by decide +kernel
theorem dJ6_bitCount_0f7a4_15 : decode cJ6_bitCount_0f7a4 15 = .ok (.iload_n 0, 1) := by decide +kernel
theorem dJ6_bitCount_0f7a4_16 : decode cJ6_bitCount_0f7a4 16 = .ok (.iconst 2, 1) := by decide +kernel
theorem dJ6_bitCount_0f7a4_17 : decode cJ6_bitCount_0f7a4 17 = .ok (.iushr, 1) := by decide +kernel
theorem dJ6_bitCount_0f7a4_18 : decode cJ6_bitCount_0f7a4 18 = .ok (.ldc_w 266, 3) := by decide +kernel
theorem dJ6_bitCount_0f7a4_21 : decode cJ6_bitCount_0f7a4 21 = .ok (.iand, 1) := by decide +kernel
theorem dJ6_bitCount_0f7a4_22 : decode cJ6_bitCount_0f7a4 22 = .ok (.iadd, 1) := by decide +kernel
theorem dJ6_bitCount_0f7a4_23 : decode cJ6_bitCount_0f7a4 23 = .ok (.istore_n 0, 1) := by decide +kernel
theorem dJ6_bitCount_0f7a4_24 : decode cJ6_bitCount_0f7a4 24 = .ok (.iload_n 0, 1) := by decide +kernel
theorem dJ6_bitCount_0f7a4_25 : decode cJ6_bitCount_0f7a4 25 = .ok (.iload_n 0, 1) := by decide +kernel
theorem dJ6_bitCount_0f7a4_26 : decode cJ6_bitCount_0f7a4 26 = .ok (.iconst 4, 1) := by decide +kernel
theorem dJ6_bitCount_0f7a4_27 : decode cJ6_bitCount_0f7a4 27 = .ok (.iushr, 1) := by decide +kernel
theorem dJ6_bitCount_0f7a4_28 : decode cJ6_bitCount_0f7a4 28 = .ok (.iadd, 1) := by decide +kernel
theorem dJ6_bitCount_0f7a4_29 : decode cJ6_bitCount_0f7a4 29 = .ok (.ldc_w 267, 3) := by decide +kernel
theorem dJ6_bitCount_0f7a4_32 : decode cJ6_bitCount_0f7a4 32 = .ok (.iand, 1) := by decide +kernel
theorem dJ6_bitCount_0f7a4_33 : decode cJ6_bitCount_0f7a4 33 = .ok (.istore_n 0, 1) := by decide +kernel
theorem dJ6_bitCount_0f7a4_34 : decode cJ6_bitCount_0f7a4 34 = .ok (.iload_n 0, 1) := by decide +kernel
theorem dJ6_bitCount_0f7a4_35 : decode cJ6_bitCount_0f7a4 35 = .ok (.iload_n 0, 1) := by decide +kernel
theorem dJ6_bitCount_0f7a4_36 : decode cJ6_bitCount_0f7a4 36 = .ok (.bipush 8, 2) := by decide +kernel
theorem dJ6_bitCount_0f7a4_38 : decode cJ6_bitCount_0f7a4 38 = .ok (.iushr, 1) := by decide +kernel
theorem dJ6_bitCount_0f7a4_39 : decode cJ6_bitCount_0f7a4 39 = .ok (.iadd, 1) := by decide +kernel
theorem dJ6_bitCount_0f7a4_40 : decode cJ6_bitCount_0f7a4 40 = .ok (.istore_n 0, 1) := by decide +kernel
theorem dJ6_bitCount_0f7a4_41 : decode cJ6_bitCount_0f7a4 41 = .ok (.iload_n 0, 1) := by decide +kernel
theorem dJ6_bitCount_0f7a4_42 : decode cJ6_bitCount_0f7a4 42 = .ok (.iload_n 0, 1) := by decide +kernel
theorem dJ6_bitCount_0f7a4_43 : decode cJ6_bitCount_0f7a4 43 = .ok (.bipush 16, 2) := by decide +kernel
theorem dJ6_bitCount_0f7a4_45 : decode cJ6_bitCount_0f7a4 45 = .ok (.iushr, 1) := by decide +kernel
theorem dJ6_bitCount_0f7a4_46 : decode cJ6_bitCount_0f7a4 46 = .ok (.iadd, 1) := by decide +kernel
theorem dJ6_bitCount_0f7a4_47 : decode cJ6_bitCount_0f7a4 47 = .ok (.istore_n 0, 1) := by decide +kernel
theorem dJ6_bitCount_0f7a4_48 : decode cJ6_bitCount_0f7a4 48 = .ok (.iload_n 0, 1) := by decide +kernel
theorem dJ6_bitCount_0f7a4_49 : decode cJ6_bitCount_0f7a4 49 = .ok (.bipush 63, 2) := by decide +kernel
theorem dJ6_bitCount_0f7a4_51 : decode cJ6_bitCount_0f7a4 51 = .ok (.iand, 1) := by decide +kernel
theorem dJ6_bitCount_0f7a4_52 : decode cJ6_bitCount_0f7a4 52 = .ok (.ireturn, 1) := by decide +kernel
abbrev mtJ6_bitCount_0f7a4 : mj_T := (yJ6_bitCount_0f7a4.cls, cJ6_bitCount_0f7a4, 1, (some .int), mj_no, yJ6_bitCount_0f7a4.name)
abbrev kJ6_bitCount_0f7a4 (x0 : Int32) (g : mj_S) (M : mj_M) (q : Int32 → mj_M → Prop) : Prop := mj_CI yJ6_bitCount_0f7a4 (.code yJ6_bitCount_0f7a4 cJ6_bitCount_0f7a4 1 (some .int)) 0 [.int (x0)] g M q
theorem kiJ6_bitCount_0f7a4 : mj_cS yJ6_bitCount_0f7a4 cJ6_bitCount_0f7a4 1 (some .int) 1 := ⟨⟨wd_277, wd_19, wd_278⟩, ⟨by decide +kernel, by decide +kernel, by decide +kernel⟩, Nat.le_of_ble_eq_true rfl⟩
theorem eJ6_bitCount_0f7a4 {x0 : Int32} {g : mj_S} {M : mj_M} {q : Int32 → mj_M → Prop}  (h : q (((((((((x0) - (((Int32.toUInt32 (x0) >>> (Int32.toUInt32 (1 : Int32) &&& Int32.toUInt32 31)).toInt32) &&& (1431655765 : Int32))) &&& (858993459 : Int32)) + (((Int32.toUInt32 ((x0) - (((Int32.toUInt32 (x0) >>> (Int32.toUInt32 (1 : Int32) &&& Int32.toUInt32 31)).toInt32) &&& (1431655765 : Int32))) >>> (Int32.toUInt32 (2 : Int32) &&& Int32.toUInt32 31)).toInt32) &&& (858993459 : Int32))) + ((Int32.toUInt32 ((((x0) - (((Int32.toUInt32 (x0) >>> (Int32.toUInt32 (1 : Int32) &&& Int32.toUInt32 31)).toInt32) &&& (1431655765 : Int32))) &&& (858993459 : Int32)) + (((Int32.toUInt32 ((x0) - (((Int32.toUInt32 (x0) >>> (Int32.toUInt32 (1 : Int32) &&& Int32.toUInt32 31)).toInt32) &&& (1431655765 : Int32))) >>> (Int32.toUInt32 (2 : Int32) &&& Int32.toUInt32 31)).toInt32) &&& (858993459 : Int32))) >>> (Int32.toUInt32 (4 : Int32) &&& Int32.toUInt32 31)).toInt32)) &&& (252645135 : Int32)) + ((Int32.toUInt32 ((((((x0) - (((Int32.toUInt32 (x0) >>> (Int32.toUInt32 (1 : Int32) &&& Int32.toUInt32 31)).toInt32) &&& (1431655765 : Int32))) &&& (858993459 : Int32)) + (((Int32.toUInt32 ((x0) - (((Int32.toUInt32 (x0) >>> (Int32.toUInt32 (1 : Int32) &&& Int32.toUInt32 31)).toInt32) &&& (1431655765 : Int32))) >>> (Int32.toUInt32 (2 : Int32) &&& Int32.toUInt32 31)).toInt32) &&& (858993459 : Int32))) + ((Int32.toUInt32 ((((x0) - (((Int32.toUInt32 (x0) >>> (Int32.toUInt32 (1 : Int32) &&& Int32.toUInt32 31)).toInt32) &&& (1431655765 : Int32))) &&& (858993459 : Int32)) + (((Int32.toUInt32 ((x0) - (((Int32.toUInt32 (x0) >>> (Int32.toUInt32 (1 : Int32) &&& Int32.toUInt32 31)).toInt32) &&& (1431655765 : Int32))) >>> (Int32.toUInt32 (2 : Int32) &&& Int32.toUInt32 31)).toInt32) &&& (858993459 : Int32))) >>> (Int32.toUInt32 (4 : Int32) &&& Int32.toUInt32 31)).toInt32)) &&& (252645135 : Int32)) >>> (Int32.toUInt32 (8 : Int32) &&& Int32.toUInt32 31)).toInt32)) + ((Int32.toUInt32 (((((((x0) - (((Int32.toUInt32 (x0) >>> (Int32.toUInt32 (1 : Int32) &&& Int32.toUInt32 31)).toInt32) &&& (1431655765 : Int32))) &&& (858993459 : Int32)) + (((Int32.toUInt32 ((x0) - (((Int32.toUInt32 (x0) >>> (Int32.toUInt32 (1 : Int32) &&& Int32.toUInt32 31)).toInt32) &&& (1431655765 : Int32))) >>> (Int32.toUInt32 (2 : Int32) &&& Int32.toUInt32 31)).toInt32) &&& (858993459 : Int32))) + ((Int32.toUInt32 ((((x0) - (((Int32.toUInt32 (x0) >>> (Int32.toUInt32 (1 : Int32) &&& Int32.toUInt32 31)).toInt32) &&& (1431655765 : Int32))) &&& (858993459 : Int32)) + (((Int32.toUInt32 ((x0) - (((Int32.toUInt32 (x0) >>> (Int32.toUInt32 (1 : Int32) &&& Int32.toUInt32 31)).toInt32) &&& (1431655765 : Int32))) >>> (Int32.toUInt32 (2 : Int32) &&& Int32.toUInt32 31)).toInt32) &&& (858993459 : Int32))) >>> (Int32.toUInt32 (4 : Int32) &&& Int32.toUInt32 31)).toInt32)) &&& (252645135 : Int32)) + ((Int32.toUInt32 ((((((x0) - (((Int32.toUInt32 (x0) >>> (Int32.toUInt32 (1 : Int32) &&& Int32.toUInt32 31)).toInt32) &&& (1431655765 : Int32))) &&& (858993459 : Int32)) + (((Int32.toUInt32 ((x0) - (((Int32.toUInt32 (x0) >>> (Int32.toUInt32 (1 : Int32) &&& Int32.toUInt32 31)).toInt32) &&& (1431655765 : Int32))) >>> (Int32.toUInt32 (2 : Int32) &&& Int32.toUInt32 31)).toInt32) &&& (858993459 : Int32))) + ((Int32.toUInt32 ((((x0) - (((Int32.toUInt32 (x0) >>> (Int32.toUInt32 (1 : Int32) &&& Int32.toUInt32 31)).toInt32) &&& (1431655765 : Int32))) &&& (858993459 : Int32)) + (((Int32.toUInt32 ((x0) - (((Int32.toUInt32 (x0) >>> (Int32.toUInt32 (1 : Int32) &&& Int32.toUInt32 31)).toInt32) &&& (1431655765 : Int32))) >>> (Int32.toUInt32 (2 : Int32) &&& Int32.toUInt32 31)).toInt32) &&& (858993459 : Int32))) >>> (Int32.toUInt32 (4 : Int32) &&& Int32.toUInt32 31)).toInt32)) &&& (252645135 : Int32)) >>> (Int32.toUInt32 (8 : Int32) &&& Int32.toUInt32 31)).toInt32)) >>> (Int32.toUInt32 (16 : Int32) &&& Int32.toUInt32 31)).toInt32)) &&& (63 : Int32)) (M)) : kJ6_bitCount_0f7a4 (x0) g M q := by
  intro d hd; refine mj_enter (by decide +kernel) (Nat.le_of_ble_eq_true rfl) ?_
  generalize (false : Bool) = ex
  show mj_G mtJ6_bitCount_0f7a4 (mj_rm d 0 0) (mj_Fi (mj_qI g q) mj_x0 0 0) ex 0 0 0 [(0, .int (x0))] [] g M
  refine mg_iload_n dJ6_bitCount_0f7a4_0 rfl 0 rfl ?_
  refine mg_iload_n dJ6_bitCount_0f7a4_1 rfl 0 rfl ?_
  refine mg_iconst (v := 1) dJ6_bitCount_0f7a4_2 (by decide) ?_
  refine mg_iushr dJ6_bitCount_0f7a4_3 ?_
  refine mg_ldcw (v := 1431655765) dJ6_bitCount_0f7a4_4 wd_279 ?_
  refine mg_iand dJ6_bitCount_0f7a4_7 ?_
  refine mg_isub dJ6_bitCount_0f7a4_8 ?_
  refine mg_istore_n (ls' := [(0, .int ((x0) - (((Int32.toUInt32 (x0) >>> (Int32.toUInt32 (1 : Int32) &&& Int32.toUInt32 31)).toInt32) &&& (1431655765 : Int32))))]) dJ6_bitCount_0f7a4_9 rfl (Nat.le_of_ble_eq_true rfl) rfl ?_
  refine mg_iload_n dJ6_bitCount_0f7a4_10 rfl 0 rfl ?_
  refine mg_ldcw (v := 858993459) dJ6_bitCount_0f7a4_11 wd_280 ?_
  refine mg_iand dJ6_bitCount_0f7a4_14 ?_
  refine mg_iload_n dJ6_bitCount_0f7a4_15 rfl 0 rfl ?_
  refine mg_iconst (v := 2) dJ6_bitCount_0f7a4_16 (by decide) ?_
  refine mg_iushr dJ6_bitCount_0f7a4_17 ?_
  refine mg_ldcw (v := 858993459) dJ6_bitCount_0f7a4_18 wd_280 ?_
  refine mg_iand dJ6_bitCount_0f7a4_21 ?_
  refine mg_iadd dJ6_bitCount_0f7a4_22 ?_
  refine mg_istore_n (ls' := [(0, .int ((((x0) - (((Int32.toUInt32 (x0) >>> (Int32.toUInt32 (1 : Int32) &&& Int32.toUInt32 31)).toInt32) &&& (1431655765 : Int32))) &&& (858993459 : Int32)) + (((Int32.toUInt32 ((x0) - (((Int32.toUInt32 (x0) >>> (Int32.toUInt32 (1 : Int32) &&& Int32.toUInt32 31)).toInt32) &&& (1431655765 : Int32))) >>> (Int32.toUInt32 (2 : Int32) &&& Int32.toUInt32 31)).toInt32) &&& (858993459 : Int32))))]) dJ6_bitCount_0f7a4_23 rfl (Nat.le_of_ble_eq_true rfl) rfl ?_
  refine mg_iload_n dJ6_bitCount_0f7a4_24 rfl 0 rfl ?_
  refine mg_iload_n dJ6_bitCount_0f7a4_25 rfl 0 rfl ?_
  refine mg_iconst (v := 4) dJ6_bitCount_0f7a4_26 (by decide) ?_
  refine mg_iushr dJ6_bitCount_0f7a4_27 ?_
  refine mg_iadd dJ6_bitCount_0f7a4_28 ?_
  refine mg_ldcw (v := 252645135) dJ6_bitCount_0f7a4_29 wd_281 ?_
  refine mg_iand dJ6_bitCount_0f7a4_32 ?_
  refine mg_istore_n (ls' := [(0, .int ((((((x0) - (((Int32.toUInt32 (x0) >>> (Int32.toUInt32 (1 : Int32) &&& Int32.toUInt32 31)).toInt32) &&& (1431655765 : Int32))) &&& (858993459 : Int32)) + (((Int32.toUInt32 ((x0) - (((Int32.toUInt32 (x0) >>> (Int32.toUInt32 (1 : Int32) &&& Int32.toUInt32 31)).toInt32) &&& (1431655765 : Int32))) >>> (Int32.toUInt32 (2 : Int32) &&& Int32.toUInt32 31)).toInt32) &&& (858993459 : Int32))) + ((Int32.toUInt32 ((((x0) - (((Int32.toUInt32 (x0) >>> (Int32.toUInt32 (1 : Int32) &&& Int32.toUInt32 31)).toInt32) &&& (1431655765 : Int32))) &&& (858993459 : Int32)) + (((Int32.toUInt32 ((x0) - (((Int32.toUInt32 (x0) >>> (Int32.toUInt32 (1 : Int32) &&& Int32.toUInt32 31)).toInt32) &&& (1431655765 : Int32))) >>> (Int32.toUInt32 (2 : Int32) &&& Int32.toUInt32 31)).toInt32) &&& (858993459 : Int32))) >>> (Int32.toUInt32 (4 : Int32) &&& Int32.toUInt32 31)).toInt32)) &&& (252645135 : Int32)))]) dJ6_bitCount_0f7a4_33 rfl (Nat.le_of_ble_eq_true rfl) rfl ?_
  refine mg_iload_n dJ6_bitCount_0f7a4_34 rfl 0 rfl ?_
  refine mg_iload_n dJ6_bitCount_0f7a4_35 rfl 0 rfl ?_
  refine mg_bipush (v := 8) dJ6_bitCount_0f7a4_36 (by decide) ?_
  refine mg_iushr dJ6_bitCount_0f7a4_38 ?_
  refine mg_iadd dJ6_bitCount_0f7a4_39 ?_
  refine mg_istore_n (ls' := [(0, .int (((((((x0) - (((Int32.toUInt32 (x0) >>> (Int32.toUInt32 (1 : Int32) &&& Int32.toUInt32 31)).toInt32) &&& (1431655765 : Int32))) &&& (858993459 : Int32)) + (((Int32.toUInt32 ((x0) - (((Int32.toUInt32 (x0) >>> (Int32.toUInt32 (1 : Int32) &&& Int32.toUInt32 31)).toInt32) &&& (1431655765 : Int32))) >>> (Int32.toUInt32 (2 : Int32) &&& Int32.toUInt32 31)).toInt32) &&& (858993459 : Int32))) + ((Int32.toUInt32 ((((x0) - (((Int32.toUInt32 (x0) >>> (Int32.toUInt32 (1 : Int32) &&& Int32.toUInt32 31)).toInt32) &&& (1431655765 : Int32))) &&& (858993459 : Int32)) + (((Int32.toUInt32 ((x0) - (((Int32.toUInt32 (x0) >>> (Int32.toUInt32 (1 : Int32) &&& Int32.toUInt32 31)).toInt32) &&& (1431655765 : Int32))) >>> (Int32.toUInt32 (2 : Int32) &&& Int32.toUInt32 31)).toInt32) &&& (858993459 : Int32))) >>> (Int32.toUInt32 (4 : Int32) &&& Int32.toUInt32 31)).toInt32)) &&& (252645135 : Int32)) + ((Int32.toUInt32 ((((((x0) - (((Int32.toUInt32 (x0) >>> (Int32.toUInt32 (1 : Int32) &&& Int32.toUInt32 31)).toInt32) &&& (1431655765 : Int32))) &&& (858993459 : Int32)) + (((Int32.toUInt32 ((x0) - (((Int32.toUInt32 (x0) >>> (Int32.toUInt32 (1 : Int32) &&& Int32.toUInt32 31)).toInt32) &&& (1431655765 : Int32))) >>> (Int32.toUInt32 (2 : Int32) &&& Int32.toUInt32 31)).toInt32) &&& (858993459 : Int32))) + ((Int32.toUInt32 ((((x0) - (((Int32.toUInt32 (x0) >>> (Int32.toUInt32 (1 : Int32) &&& Int32.toUInt32 31)).toInt32) &&& (1431655765 : Int32))) &&& (858993459 : Int32)) + (((Int32.toUInt32 ((x0) - (((Int32.toUInt32 (x0) >>> (Int32.toUInt32 (1 : Int32) &&& Int32.toUInt32 31)).toInt32) &&& (1431655765 : Int32))) >>> (Int32.toUInt32 (2 : Int32) &&& Int32.toUInt32 31)).toInt32) &&& (858993459 : Int32))) >>> (Int32.toUInt32 (4 : Int32) &&& Int32.toUInt32 31)).toInt32)) &&& (252645135 : Int32)) >>> (Int32.toUInt32 (8 : Int32) &&& Int32.toUInt32 31)).toInt32)))]) dJ6_bitCount_0f7a4_40 rfl (Nat.le_of_ble_eq_true rfl) rfl ?_
  refine mg_iload_n dJ6_bitCount_0f7a4_41 rfl 0 rfl ?_
  refine mg_iload_n dJ6_bitCount_0f7a4_42 rfl 0 rfl ?_
  refine mg_bipush (v := 16) dJ6_bitCount_0f7a4_43 (by decide) ?_
  refine mg_iushr dJ6_bitCount_0f7a4_45 ?_
  refine mg_iadd dJ6_bitCount_0f7a4_46 ?_
  refine mg_istore_n (ls' := [(0, .int ((((((((x0) - (((Int32.toUInt32 (x0) >>> (Int32.toUInt32 (1 : Int32) &&& Int32.toUInt32 31)).toInt32) &&& (1431655765 : Int32))) &&& (858993459 : Int32)) + (((Int32.toUInt32 ((x0) - (((Int32.toUInt32 (x0) >>> (Int32.toUInt32 (1 : Int32) &&& Int32.toUInt32 31)).toInt32) &&& (1431655765 : Int32))) >>> (Int32.toUInt32 (2 : Int32) &&& Int32.toUInt32 31)).toInt32) &&& (858993459 : Int32))) + ((Int32.toUInt32 ((((x0) - (((Int32.toUInt32 (x0) >>> (Int32.toUInt32 (1 : Int32) &&& Int32.toUInt32 31)).toInt32) &&& (1431655765 : Int32))) &&& (858993459 : Int32)) + (((Int32.toUInt32 ((x0) - (((Int32.toUInt32 (x0) >>> (Int32.toUInt32 (1 : Int32) &&& Int32.toUInt32 31)).toInt32) &&& (1431655765 : Int32))) >>> (Int32.toUInt32 (2 : Int32) &&& Int32.toUInt32 31)).toInt32) &&& (858993459 : Int32))) >>> (Int32.toUInt32 (4 : Int32) &&& Int32.toUInt32 31)).toInt32)) &&& (252645135 : Int32)) + ((Int32.toUInt32 ((((((x0) - (((Int32.toUInt32 (x0) >>> (Int32.toUInt32 (1 : Int32) &&& Int32.toUInt32 31)).toInt32) &&& (1431655765 : Int32))) &&& (858993459 : Int32)) + (((Int32.toUInt32 ((x0) - (((Int32.toUInt32 (x0) >>> (Int32.toUInt32 (1 : Int32) &&& Int32.toUInt32 31)).toInt32) &&& (1431655765 : Int32))) >>> (Int32.toUInt32 (2 : Int32) &&& Int32.toUInt32 31)).toInt32) &&& (858993459 : Int32))) + ((Int32.toUInt32 ((((x0) - (((Int32.toUInt32 (x0) >>> (Int32.toUInt32 (1 : Int32) &&& Int32.toUInt32 31)).toInt32) &&& (1431655765 : Int32))) &&& (858993459 : Int32)) + (((Int32.toUInt32 ((x0) - (((Int32.toUInt32 (x0) >>> (Int32.toUInt32 (1 : Int32) &&& Int32.toUInt32 31)).toInt32) &&& (1431655765 : Int32))) >>> (Int32.toUInt32 (2 : Int32) &&& Int32.toUInt32 31)).toInt32) &&& (858993459 : Int32))) >>> (Int32.toUInt32 (4 : Int32) &&& Int32.toUInt32 31)).toInt32)) &&& (252645135 : Int32)) >>> (Int32.toUInt32 (8 : Int32) &&& Int32.toUInt32 31)).toInt32)) + ((Int32.toUInt32 (((((((x0) - (((Int32.toUInt32 (x0) >>> (Int32.toUInt32 (1 : Int32) &&& Int32.toUInt32 31)).toInt32) &&& (1431655765 : Int32))) &&& (858993459 : Int32)) + (((Int32.toUInt32 ((x0) - (((Int32.toUInt32 (x0) >>> (Int32.toUInt32 (1 : Int32) &&& Int32.toUInt32 31)).toInt32) &&& (1431655765 : Int32))) >>> (Int32.toUInt32 (2 : Int32) &&& Int32.toUInt32 31)).toInt32) &&& (858993459 : Int32))) + ((Int32.toUInt32 ((((x0) - (((Int32.toUInt32 (x0) >>> (Int32.toUInt32 (1 : Int32) &&& Int32.toUInt32 31)).toInt32) &&& (1431655765 : Int32))) &&& (858993459 : Int32)) + (((Int32.toUInt32 ((x0) - (((Int32.toUInt32 (x0) >>> (Int32.toUInt32 (1 : Int32) &&& Int32.toUInt32 31)).toInt32) &&& (1431655765 : Int32))) >>> (Int32.toUInt32 (2 : Int32) &&& Int32.toUInt32 31)).toInt32) &&& (858993459 : Int32))) >>> (Int32.toUInt32 (4 : Int32) &&& Int32.toUInt32 31)).toInt32)) &&& (252645135 : Int32)) + ((Int32.toUInt32 ((((((x0) - (((Int32.toUInt32 (x0) >>> (Int32.toUInt32 (1 : Int32) &&& Int32.toUInt32 31)).toInt32) &&& (1431655765 : Int32))) &&& (858993459 : Int32)) + (((Int32.toUInt32 ((x0) - (((Int32.toUInt32 (x0) >>> (Int32.toUInt32 (1 : Int32) &&& Int32.toUInt32 31)).toInt32) &&& (1431655765 : Int32))) >>> (Int32.toUInt32 (2 : Int32) &&& Int32.toUInt32 31)).toInt32) &&& (858993459 : Int32))) + ((Int32.toUInt32 ((((x0) - (((Int32.toUInt32 (x0) >>> (Int32.toUInt32 (1 : Int32) &&& Int32.toUInt32 31)).toInt32) &&& (1431655765 : Int32))) &&& (858993459 : Int32)) + (((Int32.toUInt32 ((x0) - (((Int32.toUInt32 (x0) >>> (Int32.toUInt32 (1 : Int32) &&& Int32.toUInt32 31)).toInt32) &&& (1431655765 : Int32))) >>> (Int32.toUInt32 (2 : Int32) &&& Int32.toUInt32 31)).toInt32) &&& (858993459 : Int32))) >>> (Int32.toUInt32 (4 : Int32) &&& Int32.toUInt32 31)).toInt32)) &&& (252645135 : Int32)) >>> (Int32.toUInt32 (8 : Int32) &&& Int32.toUInt32 31)).toInt32)) >>> (Int32.toUInt32 (16 : Int32) &&& Int32.toUInt32 31)).toInt32)))]) dJ6_bitCount_0f7a4_47 rfl (Nat.le_of_ble_eq_true rfl) rfl ?_
  refine mg_iload_n dJ6_bitCount_0f7a4_48 rfl 0 rfl ?_
  refine mg_bipush (v := 63) dJ6_bitCount_0f7a4_49 (by decide) ?_
  refine mg_iand dJ6_bitCount_0f7a4_51 ?_
  exact me_i dJ6_bitCount_0f7a4_52 rfl h
theorem dX9_contains_0 : decode cX9_contains 0 = .ok (.iload_n 0, 1) := by decide +kernel
theorem dX9_contains_1 : decode cX9_contains 1 = .ok (.iload_n 1, 1) := by decide +kernel
theorem dX9_contains_2 : decode cX9_contains 2 = .ok (.ishr, 1) := by decide +kernel
theorem dX9_contains_3 : decode cX9_contains 3 = .ok (.iconst 1, 1) := by decide +kernel
theorem dX9_contains_4 : decode cX9_contains 4 = .ok (.iand, 1) := by decide +kernel
theorem dX9_contains_5 : decode cX9_contains 5 = .ok (.ifCond .eq 7, 3) := by decide +kernel
theorem dX9_contains_8 : decode cX9_contains 8 = .ok (.iconst 1, 1) := by decide +kernel
theorem dX9_contains_9 : decode cX9_contains 9 = .ok (.goto 4, 3) := by decide +kernel
theorem dX9_contains_12 : decode cX9_contains 12 = .ok (.iconst 0, 1) := by decide +kernel
theorem dX9_contains_13 : decode cX9_contains 13 = .ok (.ireturn, 1) := by decide +kernel
abbrev mtX9_contains : mj_T := (yX9_contains.cls, cX9_contains, 2, (some .boolean), mj_no, yX9_contains.name)
abbrev kX9_contains (x0 : Int32) (x1 : Int32) (g : mj_S) (M : mj_M) (q : Int32 → mj_M → Prop) : Prop := mj_CI yX9_contains (.code yX9_contains cX9_contains 2 (some .boolean)) 0 [.int (x0), .int (x1)] g M q
theorem kiX9_contains : mj_cS yX9_contains cX9_contains 2 (some .boolean) 2 := ⟨⟨wd_444, wd_1, wd_445⟩, ⟨by decide +kernel, by decide +kernel, by decide +kernel⟩, Nat.le_of_ble_eq_true rfl⟩
theorem eX9_contains {x0 : Int32} {x1 : Int32} {g : mj_S} {M : mj_M} {q : Int32 → mj_M → Prop}  (h : ((((x0) >>> ((x1) &&& 31)) &&& (1 : Int32) : Int32) = 0 → q 0 (M)) ∧ (¬ (((x0) >>> ((x1) &&& 31)) &&& (1 : Int32) : Int32) = 0 → q 1 (M))) : kX9_contains (x0) (x1) g M q := by
  intro d hd; refine mj_enter (by decide +kernel) (Nat.le_of_ble_eq_true rfl) ?_
  generalize (false : Bool) = ex
  show mj_G mtX9_contains (mj_rm d 0 0) (mj_Fi (mj_qI g q) mj_x0 0 0) ex 0 0 0 [(0, .int (x0)), (1, .int (x1))] [] g M
  refine mg_iload_n dX9_contains_0 rfl 0 rfl ?_
  refine mg_iload_n dX9_contains_1 rfl 1 rfl ?_
  refine mg_ishr dX9_contains_2 ?_
  refine mg_iconst (v := 1) dX9_contains_3 (by decide) ?_
  refine mg_iand dX9_contains_4 ?_
  refine mg_if_eq (tgt := 12) dX9_contains_5 (by decide) (fun hc => ?_) (fun hc => ?_)
  · replace h := h.1 hc
    refine mg_iconst (v := 0) dX9_contains_12 (by decide) ?_
    exact me_z dX9_contains_13 rfl (Or.inl rfl) h
  · replace h := h.2 hc
    refine mg_iconst (v := 1) dX9_contains_8 (by decide) ?_
    refine mg_goto (tgt := 13) dX9_contains_9 (by decide) ?_
    exact me_z dX9_contains_13 rfl (Or.inr rfl) h
theorem dX9_hasComplementary_0 : decode cX9_hasComplementary 0 = .ok (.iload_n 0, 1) := by decide +kernel
theorem dX9_hasComplementary_1 : decode cX9_hasComplementary 1 = .ok (.iload_n 0, 1) := by decide +kernel
theorem dX9_hasComplementary_2 : decode cX9_hasComplementary 2 = .ok (.iconst 1, 1) := by decide +kernel
theorem dX9_hasComplementary_3 : decode cX9_hasComplementary 3 = .ok (.ishr, 1) := by decide +kernel
theorem dX9_hasComplementary_4 : decode cX9_hasComplementary 4 = .ok (.iand, 1) := by decide +kernel
theorem dX9_hasComplementary_5 : decode cX9_hasComplementary 5 = .ok (.ldc_w 385, 3) := by decide +kernel
theorem dX9_hasComplementary_8 : decode cX9_hasComplementary 8 = .ok (.iand, 1) := by decide +kernel
theorem dX9_hasComplementary_9 : decode cX9_hasComplementary 9 = .ok (.ifCond .eq 7, 3) := by decide +kernel
theorem dX9_hasComplementary_12 : decode cX9_hasComplementary 12 = .ok (.iconst 1, 1) := by decide +kernel
theorem dX9_hasComplementary_13 : decode cX9_hasComplementary 13 = .ok (.goto 4, 3) := by decide +kernel
theorem dX9_hasComplementary_16 : decode cX9_hasComplementary 16 = .ok (.iconst 0, 1) := by decide +kernel
theorem dX9_hasComplementary_17 : decode cX9_hasComplementary 17 = .ok (.ireturn, 1) := by decide +kernel
abbrev mtX9_hasComplementary : mj_T := (yX9_hasComplementary.cls, cX9_hasComplementary, 1, (some .boolean), mj_no, yX9_hasComplementary.name)
abbrev kX9_hasComplementary (x0 : Int32) (g : mj_S) (M : mj_M) (q : Int32 → mj_M → Prop) : Prop := mj_CI yX9_hasComplementary (.code yX9_hasComplementary cX9_hasComplementary 1 (some .boolean)) 0 [.int (x0)] g M q
theorem kiX9_hasComplementary : mj_cS yX9_hasComplementary cX9_hasComplementary 1 (some .boolean) 1 := ⟨⟨wd_508, wd_1, wd_509⟩, ⟨by decide +kernel, by decide +kernel, by decide +kernel⟩, Nat.le_of_ble_eq_true rfl⟩
theorem eX9_hasComplementary {x0 : Int32} {g : mj_S} {M : mj_M} {q : Int32 → mj_M → Prop}  (h : ((((x0) &&& ((x0) >>> ((1 : Int32) &&& 31))) &&& (349525 : Int32) : Int32) = 0 → q 0 (M)) ∧ (¬ (((x0) &&& ((x0) >>> ((1 : Int32) &&& 31))) &&& (349525 : Int32) : Int32) = 0 → q 1 (M))) : kX9_hasComplementary (x0) g M q := by
  intro d hd; refine mj_enter (by decide +kernel) (Nat.le_of_ble_eq_true rfl) ?_
  generalize (false : Bool) = ex
  show mj_G mtX9_hasComplementary (mj_rm d 0 0) (mj_Fi (mj_qI g q) mj_x0 0 0) ex 0 0 0 [(0, .int (x0))] [] g M
  refine mg_iload_n dX9_hasComplementary_0 rfl 0 rfl ?_
  refine mg_iload_n dX9_hasComplementary_1 rfl 0 rfl ?_
  refine mg_iconst (v := 1) dX9_hasComplementary_2 (by decide) ?_
  refine mg_ishr dX9_hasComplementary_3 ?_
  refine mg_iand dX9_hasComplementary_4 ?_
  refine mg_ldcw (v := 349525) dX9_hasComplementary_5 wd_473 ?_
  refine mg_iand dX9_hasComplementary_8 ?_
  refine mg_if_eq (tgt := 16) dX9_hasComplementary_9 (by decide) (fun hc => ?_) (fun hc => ?_)
  · replace h := h.1 hc
    refine mg_iconst (v := 0) dX9_hasComplementary_16 (by decide) ?_
    exact me_z dX9_hasComplementary_17 rfl (Or.inl rfl) h
  · replace h := h.2 hc
    refine mg_iconst (v := 1) dX9_hasComplementary_12 (by decide) ?_
    refine mg_goto (tgt := 17) dX9_hasComplementary_13 (by decide) ?_
    exact me_z dX9_hasComplementary_17 rfl (Or.inr rfl) h
theorem dX9_complements_0 : decode cX9_complements 0 = .ok (.iload_n 0, 1) := by decide +kernel
theorem dX9_complements_1 : decode cX9_complements 1 = .ok (.ldc_w 385, 3) := by decide +kernel
theorem dX9_complements_4 : decode cX9_complements 4 = .ok (.iand, 1) := by decide +kernel
theorem dX9_complements_5 : decode cX9_complements 5 = .ok (.iconst 1, 1) := by decide +kernel
theorem dX9_complements_6 : decode cX9_complements 6 = .ok (.ishl, 1) := by decide +kernel
theorem dX9_complements_7 : decode cX9_complements 7 = .ok (.iload_n 0, 1) := by decide +kernel
theorem dX9_complements_8 : decode cX9_complements 8 = .ok (.iconst 1, 1) := by decide +kernel
theorem dX9_complements_9 : decode cX9_complements 9 = .ok (.ishr, 1) := by decide +kernel
theorem dX9_complements_10 : decode cX9_complements 10 = .ok (.ldc_w 385, 3) := by decide +kernel
theorem dX9_complements_13 : decode cX9_complements 13 = .ok (.iand, 1) := by decide +kernel
theorem dX9_complements_14 : decode cX9_complements 14 = .ok (.ior, 1) := by decide +kernel
theorem dX9_complements_15 : decode cX9_complements 15 = .ok (.ireturn, 1) := by decide +kernel
abbrev mtX9_complements : mj_T := (yX9_complements.cls, cX9_complements, 1, (some .int), mj_no, yX9_complements.name)
abbrev kX9_complements (x0 : Int32) (g : mj_S) (M : mj_M) (q : Int32 → mj_M → Prop) : Prop := mj_CI yX9_complements (.code yX9_complements cX9_complements 1 (some .int)) 0 [.int (x0)] g M q
theorem kiX9_complements : mj_cS yX9_complements cX9_complements 1 (some .int) 1 := ⟨⟨wd_471, wd_1, wd_472⟩, ⟨by decide +kernel, by decide +kernel, by decide +kernel⟩, Nat.le_of_ble_eq_true rfl⟩
theorem eX9_complements {x0 : Int32} {g : mj_S} {M : mj_M} {q : Int32 → mj_M → Prop}  (h : q ((((x0) &&& (349525 : Int32)) <<< ((1 : Int32) &&& 31)) ||| (((x0) >>> ((1 : Int32) &&& 31)) &&& (349525 : Int32))) (M)) : kX9_complements (x0) g M q := by
  intro d hd; refine mj_enter (by decide +kernel) (Nat.le_of_ble_eq_true rfl) ?_
  generalize (false : Bool) = ex
  show mj_G mtX9_complements (mj_rm d 0 0) (mj_Fi (mj_qI g q) mj_x0 0 0) ex 0 0 0 [(0, .int (x0))] [] g M
  refine mg_iload_n dX9_complements_0 rfl 0 rfl ?_
  refine mg_ldcw (v := 349525) dX9_complements_1 wd_473 ?_
  refine mg_iand dX9_complements_4 ?_
  refine mg_iconst (v := 1) dX9_complements_5 (by decide) ?_
  refine mg_ishl dX9_complements_6 ?_
  refine mg_iload_n dX9_complements_7 rfl 0 rfl ?_
  refine mg_iconst (v := 1) dX9_complements_8 (by decide) ?_
  refine mg_ishr dX9_complements_9 ?_
  refine mg_ldcw (v := 349525) dX9_complements_10 wd_473 ?_
  refine mg_iand dX9_complements_13 ?_
  refine mg_ior dX9_complements_14 ?_
  exact me_i dX9_complements_15 rfl h
theorem dX9_positiveLiterals_0 : decode cX9_positiveLiterals 0 = .ok (.iload_n 0, 1) := by decide +kernel
theorem dX9_positiveLiterals_1 : decode cX9_positiveLiterals 1 = .ok (.sipush 1023, 3) := by decide +kernel
theorem dX9_positiveLiterals_4 : decode cX9_positiveLiterals 4 = .ok (.iand, 1) := by decide +kernel
theorem dX9_positiveLiterals_5 : decode cX9_positiveLiterals 5 = .ok (.istore_n 1, 1) := by decide +kernel
theorem dX9_positiveLiterals_6 : decode cX9_positiveLiterals 6 = .ok (.iload_n 1, 1) := by decide +kernel
theorem dX9_positiveLiterals_7 : decode cX9_positiveLiterals 7 = .ok (.iload_n 1, 1) := by decide +kernel
theorem dX9_positiveLiterals_8 : decode cX9_positiveLiterals 8 = .ok (.bipush 8, 2) := by decide +kernel
theorem dX9_positiveLiterals_10 : decode cX9_positiveLiterals 10 = .ok (.ishl, 1) := by decide +kernel
theorem dX9_positiveLiterals_11 : decode cX9_positiveLiterals 11 = .ok (.ior, 1) := by decide +kernel
theorem dX9_positiveLiterals_12 : decode cX9_positiveLiterals 12 = .ok (.ldc_w 381, 3) := by decide +kernel
theorem dX9_positiveLiterals_15 : decode cX9_positiveLiterals 15 = .ok (.iand, 1) := by decide +kernel
theorem dX9_positiveLiterals_16 : decode cX9_positiveLiterals 16 = .ok (.istore_n 1, 1) := by decide +kernel
theorem dX9_positiveLiterals_17 : decode cX9_positiveLiterals 17 = .ok (.iload_n 1, 1) := by decide +kernel
theorem dX9_positiveLiterals_18 : decode cX9_positiveLiterals 18 = .ok (.iload_n 1, 1) := by decide +kernel
theorem dX9_positiveLiterals_19 : decode cX9_positiveLiterals 19 = .ok (.iconst 4, 1) := by decide +kernel
theorem dX9_positiveLiterals_20 : decode cX9_positiveLiterals 20 = .ok (.ishl, 1) := by decide +kernel
theorem dX9_positiveLiterals_21 : decode cX9_positiveLiterals 21 = .ok (.ior, 1) := by decide +kernel
theorem dX9_positiveLiterals_22 : decode cX9_positiveLiterals 22 = .ok (.ldc_w 382, 3) := by decide +kernel
theorem dX9_positiveLiterals_25 : decode cX9_positiveLiterals 25 = .ok (.iand, 1) := by decide +kernel
theorem dX9_positiveLiterals_26 : decode cX9_positiveLiterals 26 = .ok (.istore_n 1, 1) := by decide +kernel
theorem dX9_positiveLiterals_27 : decode cX9_positiveLiterals 27 = .ok (.iload_n 1, 1) := by decide +kernel
theorem dX9_positiveLiterals_28 : decode cX9_positiveLiterals 28 = .ok (.iload_n 1, 1) := by decide +kernel
theorem dX9_positiveLiterals_29 : decode cX9_positiveLiterals 29 = .ok (.iconst 2, 1) := by decide +kernel
theorem dX9_positiveLiterals_30 : decode cX9_positiveLiterals 30 = .ok (.ishl, 1) := by decide +kernel
theorem dX9_positiveLiterals_31 : decode cX9_positiveLiterals 31 = .ok (.ior, 1) := by decide +kernel
theorem dX9_positiveLiterals_32 : decode cX9_positiveLiterals 32 = .ok (.ldc_w 383, 3) := by decide +kernel
theorem dX9_positiveLiterals_35 : decode cX9_positiveLiterals 35 = .ok (.iand, 1) := by decide +kernel
theorem dX9_positiveLiterals_36 : decode cX9_positiveLiterals 36 = .ok (.istore_n 1, 1) := by decide +kernel
theorem dX9_positiveLiterals_37 : decode cX9_positiveLiterals 37 = .ok (.iload_n 1, 1) := by decide +kernel
theorem dX9_positiveLiterals_38 : decode cX9_positiveLiterals 38 = .ok (.iload_n 1, 1) := by decide +kernel
theorem dX9_positiveLiterals_39 : decode cX9_positiveLiterals 39 = .ok (.iconst 1, 1) := by decide +kernel
theorem dX9_positiveLiterals_40 : decode cX9_positiveLiterals 40 = .ok (.ishl, 1) := by decide +kernel
theorem dX9_positiveLiterals_41 : decode cX9_positiveLiterals 41 = .ok (.ior, 1) := by decide +kernel
theorem dX9_positiveLiterals_42 : decode cX9_positiveLiterals 42 = .ok (.ldc_w 384, 3) := by decide +kernel
theorem dX9_positiveLiterals_45 : decode cX9_positiveLiterals 45 = .ok (.iand, 1) := by decide +kernel
theorem dX9_positiveLiterals_46 : decode cX9_positiveLiterals 46 = .ok (.ireturn, 1) := by decide +kernel
abbrev mtX9_positiveLiterals : mj_T := (yX9_positiveLiterals.cls, cX9_positiveLiterals, 2, (some .int), mj_no, yX9_positiveLiterals.name)
abbrev kX9_positiveLiterals (x0 : Int32) (g : mj_S) (M : mj_M) (q : Int32 → mj_M → Prop) : Prop := mj_CI yX9_positiveLiterals (.code yX9_positiveLiterals cX9_positiveLiterals 2 (some .int)) 0 [.int (x0)] g M q
theorem kiX9_positiveLiterals : mj_cS yX9_positiveLiterals cX9_positiveLiterals 2 (some .int) 1 := ⟨⟨wd_333, wd_1, wd_334⟩, ⟨by decide +kernel, by decide +kernel, by decide +kernel⟩, Nat.le_of_ble_eq_true rfl⟩
theorem eX9_positiveLiterals {x0 : Int32} {g : mj_S} {M : mj_M} {q : Int32 → mj_M → Prop}  (h : q ((((((((((x0) &&& (1023 : Int32)) ||| (((x0) &&& (1023 : Int32)) <<< ((8 : Int32) &&& 31))) &&& (16711935 : Int32)) ||| (((((x0) &&& (1023 : Int32)) ||| (((x0) &&& (1023 : Int32)) <<< ((8 : Int32) &&& 31))) &&& (16711935 : Int32)) <<< ((4 : Int32) &&& 31))) &&& (252645135 : Int32)) ||| (((((((x0) &&& (1023 : Int32)) ||| (((x0) &&& (1023 : Int32)) <<< ((8 : Int32) &&& 31))) &&& (16711935 : Int32)) ||| (((((x0) &&& (1023 : Int32)) ||| (((x0) &&& (1023 : Int32)) <<< ((8 : Int32) &&& 31))) &&& (16711935 : Int32)) <<< ((4 : Int32) &&& 31))) &&& (252645135 : Int32)) <<< ((2 : Int32) &&& 31))) &&& (858993459 : Int32)) ||| (((((((((x0) &&& (1023 : Int32)) ||| (((x0) &&& (1023 : Int32)) <<< ((8 : Int32) &&& 31))) &&& (16711935 : Int32)) ||| (((((x0) &&& (1023 : Int32)) ||| (((x0) &&& (1023 : Int32)) <<< ((8 : Int32) &&& 31))) &&& (16711935 : Int32)) <<< ((4 : Int32) &&& 31))) &&& (252645135 : Int32)) ||| (((((((x0) &&& (1023 : Int32)) ||| (((x0) &&& (1023 : Int32)) <<< ((8 : Int32) &&& 31))) &&& (16711935 : Int32)) ||| (((((x0) &&& (1023 : Int32)) ||| (((x0) &&& (1023 : Int32)) <<< ((8 : Int32) &&& 31))) &&& (16711935 : Int32)) <<< ((4 : Int32) &&& 31))) &&& (252645135 : Int32)) <<< ((2 : Int32) &&& 31))) &&& (858993459 : Int32)) <<< ((1 : Int32) &&& 31))) &&& (1431655765 : Int32)) (M)) : kX9_positiveLiterals (x0) g M q := by
  intro d hd; refine mj_enter (by decide +kernel) (Nat.le_of_ble_eq_true rfl) ?_
  generalize (false : Bool) = ex
  show mj_G mtX9_positiveLiterals (mj_rm d 0 0) (mj_Fi (mj_qI g q) mj_x0 0 0) ex 0 0 0 [(0, .int (x0))] [] g M
  refine mg_iload_n dX9_positiveLiterals_0 rfl 0 rfl ?_
  refine mg_sipush (v := 1023) dX9_positiveLiterals_1 (by decide) ?_
  refine mg_iand dX9_positiveLiterals_4 ?_
  refine mg_istore_n (ls' := [(1, .int ((x0) &&& (1023 : Int32))), (0, .int (x0))]) dX9_positiveLiterals_5 rfl (Nat.le_of_ble_eq_true rfl) rfl ?_
  refine mg_iload_n dX9_positiveLiterals_6 rfl 0 rfl ?_
  refine mg_iload_n dX9_positiveLiterals_7 rfl 0 rfl ?_
  refine mg_bipush (v := 8) dX9_positiveLiterals_8 (by decide) ?_
  refine mg_ishl dX9_positiveLiterals_10 ?_
  refine mg_ior dX9_positiveLiterals_11 ?_
  refine mg_ldcw (v := 16711935) dX9_positiveLiterals_12 wd_335 ?_
  refine mg_iand dX9_positiveLiterals_15 ?_
  refine mg_istore_n (ls' := [(1, .int ((((x0) &&& (1023 : Int32)) ||| (((x0) &&& (1023 : Int32)) <<< ((8 : Int32) &&& 31))) &&& (16711935 : Int32))), (0, .int (x0))]) dX9_positiveLiterals_16 rfl (Nat.le_of_ble_eq_true rfl) rfl ?_
  refine mg_iload_n dX9_positiveLiterals_17 rfl 0 rfl ?_
  refine mg_iload_n dX9_positiveLiterals_18 rfl 0 rfl ?_
  refine mg_iconst (v := 4) dX9_positiveLiterals_19 (by decide) ?_
  refine mg_ishl dX9_positiveLiterals_20 ?_
  refine mg_ior dX9_positiveLiterals_21 ?_
  refine mg_ldcw (v := 252645135) dX9_positiveLiterals_22 wd_336 ?_
  refine mg_iand dX9_positiveLiterals_25 ?_
  refine mg_istore_n (ls' := [(1, .int ((((((x0) &&& (1023 : Int32)) ||| (((x0) &&& (1023 : Int32)) <<< ((8 : Int32) &&& 31))) &&& (16711935 : Int32)) ||| (((((x0) &&& (1023 : Int32)) ||| (((x0) &&& (1023 : Int32)) <<< ((8 : Int32) &&& 31))) &&& (16711935 : Int32)) <<< ((4 : Int32) &&& 31))) &&& (252645135 : Int32))), (0, .int (x0))]) dX9_positiveLiterals_26 rfl (Nat.le_of_ble_eq_true rfl) rfl ?_
  refine mg_iload_n dX9_positiveLiterals_27 rfl 0 rfl ?_
  refine mg_iload_n dX9_positiveLiterals_28 rfl 0 rfl ?_
  refine mg_iconst (v := 2) dX9_positiveLiterals_29 (by decide) ?_
  refine mg_ishl dX9_positiveLiterals_30 ?_
  refine mg_ior dX9_positiveLiterals_31 ?_
  refine mg_ldcw (v := 858993459) dX9_positiveLiterals_32 wd_337 ?_
  refine mg_iand dX9_positiveLiterals_35 ?_
  refine mg_istore_n (ls' := [(1, .int ((((((((x0) &&& (1023 : Int32)) ||| (((x0) &&& (1023 : Int32)) <<< ((8 : Int32) &&& 31))) &&& (16711935 : Int32)) ||| (((((x0) &&& (1023 : Int32)) ||| (((x0) &&& (1023 : Int32)) <<< ((8 : Int32) &&& 31))) &&& (16711935 : Int32)) <<< ((4 : Int32) &&& 31))) &&& (252645135 : Int32)) ||| (((((((x0) &&& (1023 : Int32)) ||| (((x0) &&& (1023 : Int32)) <<< ((8 : Int32) &&& 31))) &&& (16711935 : Int32)) ||| (((((x0) &&& (1023 : Int32)) ||| (((x0) &&& (1023 : Int32)) <<< ((8 : Int32) &&& 31))) &&& (16711935 : Int32)) <<< ((4 : Int32) &&& 31))) &&& (252645135 : Int32)) <<< ((2 : Int32) &&& 31))) &&& (858993459 : Int32))), (0, .int (x0))]) dX9_positiveLiterals_36 rfl (Nat.le_of_ble_eq_true rfl) rfl ?_
  refine mg_iload_n dX9_positiveLiterals_37 rfl 0 rfl ?_
  refine mg_iload_n dX9_positiveLiterals_38 rfl 0 rfl ?_
  refine mg_iconst (v := 1) dX9_positiveLiterals_39 (by decide) ?_
  refine mg_ishl dX9_positiveLiterals_40 ?_
  refine mg_ior dX9_positiveLiterals_41 ?_
  refine mg_ldcw (v := 1431655765) dX9_positiveLiterals_42 wd_338 ?_
  refine mg_iand dX9_positiveLiterals_45 ?_
  exact me_i dX9_positiveLiterals_46 rfl h
theorem dX9_setOf_0 : decode cX9_setOf 0 = .ok (.iload_n 0, 1) := by decide +kernel
theorem dX9_setOf_1 : decode cX9_setOf 1 = .ok (.invokestatic 386, 3) := by decide +kernel
theorem dX9_setOf_4 : decode cX9_setOf 4 = .ok (.iload_n 1, 1) := by decide +kernel
theorem dX9_setOf_5 : decode cX9_setOf 5 = .ok (.invokestatic 386, 3) := by decide +kernel
theorem dX9_setOf_8 : decode cX9_setOf 8 = .ok (.iconst 1, 1) := by decide +kernel
theorem dX9_setOf_9 : decode cX9_setOf 9 = .ok (.ishl, 1) := by decide +kernel
theorem dX9_setOf_10 : decode cX9_setOf 10 = .ok (.ior, 1) := by decide +kernel
theorem dX9_setOf_11 : decode cX9_setOf 11 = .ok (.ireturn, 1) := by decide +kernel
abbrev mtX9_setOf : mj_T := (yX9_setOf.cls, cX9_setOf, 2, (some .int), mj_no, yX9_setOf.name)
abbrev kX9_setOf (x0 : Int32) (x1 : Int32) (g : mj_S) (M : mj_M) (q : Int32 → mj_M → Prop) : Prop := mj_CI yX9_setOf (.code yX9_setOf cX9_setOf 2 (some .int)) 1 [.int (x0), .int (x1)] g M q
theorem kiX9_setOf : mj_cS yX9_setOf cX9_setOf 2 (some .int) 2 := ⟨⟨wd_330, wd_1, wd_331⟩, ⟨by decide +kernel, by decide +kernel, by decide +kernel⟩, Nat.le_of_ble_eq_true rfl⟩
theorem eX9_setOf {x0 : Int32} {x1 : Int32} {g : mj_S} {M : mj_M} {q : Int32 → mj_M → Prop}  (h : ∃ (q1 : Int32 → mj_M → Prop), kX9_positiveLiterals (x0) g (M) q1 ∧ ∀ (v1 : Int32) (M1 : mj_M), q1 v1 M1 → (∃ (q2 : Int32 → mj_M → Prop), kX9_positiveLiterals (x1) g (M1) q2 ∧ ∀ (v2 : Int32) (M2 : mj_M), q2 v2 M2 → (q ((v1) ||| ((v2) <<< ((1 : Int32) &&& 31))) (M2)))) : kX9_setOf (x0) (x1) g M q := by
  intro d hd; refine mj_enter (by decide +kernel) (Nat.le_of_ble_eq_true rfl) ?_
  generalize (false : Bool) = ex
  show mj_G mtX9_setOf (mj_rm d 0 0) (mj_Fi (mj_qI g q) mj_x0 0 0) ex 0 0 0 [(0, .int (x0)), (1, .int (x1))] [] g M
  refine mg_iload_n dX9_setOf_0 rfl 0 rfl ?_
  obtain ⟨q1, hC, hk⟩ := h
  refine mc_Si [.int (x0)] [] dX9_setOf_1 wd_332 kiX9_positiveLiterals (Nat.le_of_ble_eq_true rfl) (Nat.le_trans (Nat.le_of_ble_eq_true rfl) hd) hC (fun v1 M1 hq => ?_)
  replace h := hk v1 M1 hq
  refine mg_iload_n dX9_setOf_4 rfl 1 rfl ?_
  obtain ⟨q2, hC, hk⟩ := h
  refine mc_Si [.int (x1)] [.int (v1)] dX9_setOf_5 wd_332 kiX9_positiveLiterals (Nat.le_of_ble_eq_true rfl) (Nat.le_trans (Nat.le_of_ble_eq_true rfl) hd) hC (fun v2 M2 hq => ?_)
  replace h := hk v2 M2 hq
  refine mg_iconst (v := 1) dX9_setOf_8 (by decide) ?_
  refine mg_ishl dX9_setOf_9 ?_
  refine mg_ior dX9_setOf_10 ?_
  exact me_i dX9_setOf_11 rfl h
theorem dX9_trueLiterals_0 : decode cX9_trueLiterals 0 = .ok (.iload_n 0, 1) := by decide +kernel
theorem dX9_trueLiterals_1 : decode cX9_trueLiterals 1 = .ok (.iload_n 0, 1) := by decide +kernel
theorem dX9_trueLiterals_2 : decode cX9_trueLiterals 2 = .ok (.iconst (-1), 1) := by decide +kernel
theorem dX9_trueLiterals_3 : decode cX9_trueLiterals 3 = .ok (.ixor, 1) := by decide +kernel
theorem dX9_trueLiterals_4 : decode cX9_trueLiterals 4 = .ok (.invokestatic 81, 3) := by decide +kernel
theorem dX9_trueLiterals_7 : decode cX9_trueLiterals 7 = .ok (.ireturn, 1) := by decide +kernel
abbrev mtX9_trueLiterals : mj_T := (yX9_trueLiterals.cls, cX9_trueLiterals, 1, (some .int), mj_no, yX9_trueLiterals.name)
abbrev kX9_trueLiterals (x0 : Int32) (g : mj_S) (M : mj_M) (q : Int32 → mj_M → Prop) : Prop := mj_CI yX9_trueLiterals (.code yX9_trueLiterals cX9_trueLiterals 1 (some .int)) 2 [.int (x0)] g M q
theorem kiX9_trueLiterals : mj_cS yX9_trueLiterals cX9_trueLiterals 1 (some .int) 1 := ⟨⟨wd_327, wd_1, wd_328⟩, ⟨by decide +kernel, by decide +kernel, by decide +kernel⟩, Nat.le_of_ble_eq_true rfl⟩
theorem eX9_trueLiterals {x0 : Int32} {g : mj_S} {M : mj_M} {q : Int32 → mj_M → Prop}  (h : ∃ (q1 : Int32 → mj_M → Prop), kX9_setOf (x0) ((x0) ^^^ (-1 : Int32)) g (M) q1 ∧ ∀ (v1 : Int32) (M1 : mj_M), q1 v1 M1 → (q (v1) (M1))) : kX9_trueLiterals (x0) g M q := by
  intro d hd; refine mj_enter (by decide +kernel) (Nat.le_of_ble_eq_true rfl) ?_
  generalize (false : Bool) = ex
  show mj_G mtX9_trueLiterals (mj_rm d 0 0) (mj_Fi (mj_qI g q) mj_x0 0 0) ex 0 0 0 [(0, .int (x0))] [] g M
  refine mg_iload_n dX9_trueLiterals_0 rfl 0 rfl ?_
  refine mg_iload_n dX9_trueLiterals_1 rfl 0 rfl ?_
  refine mg_iconst (v := (-1)) dX9_trueLiterals_2 (by decide) ?_
  refine mg_ixor dX9_trueLiterals_3 ?_
  obtain ⟨q1, hC, hk⟩ := h
  refine mc_Si [.int (x0), .int ((x0) ^^^ (-1 : Int32))] [] dX9_trueLiterals_4 wd_329 kiX9_setOf (Nat.le_of_ble_eq_true rfl) (Nat.le_trans (Nat.le_of_ble_eq_true rfl) hd) hC (fun v1 M1 hq => ?_)
  replace h := hk v1 M1 hq
  exact me_i dX9_trueLiterals_7 rfl h
theorem dJ6_numberOfTrailingZeros_0f7a4_0 : decode cJ6_numberOfTrailingZeros_0f7a4 0 = .ok (.iload_n 0, 1) := by decide +kernel
theorem dJ6_numberOfTrailingZeros_0f7a4_1 : decode cJ6_numberOfTrailingZeros_0f7a4 1 = .ok (.iconst (-1), 1) := by decide +kernel
theorem dJ6_numberOfTrailingZeros_0f7a4_2 : decode cJ6_numberOfTrailingZeros_0f7a4 2 = .ok (.ixor, 1) := by decide +kernel
theorem dJ6_numberOfTrailingZeros_0f7a4_3 : decode cJ6_numberOfTrailingZeros_0f7a4 3 = .ok (.iload_n 0, 1) := by decide +kernel
theorem dJ6_numberOfTrailingZeros_0f7a4_4 : decode cJ6_numberOfTrailingZeros_0f7a4 4 = .ok (.iconst 1, 1) := by decide +kernel
theorem dJ6_numberOfTrailingZeros_0f7a4_5 : decode cJ6_numberOfTrailingZeros_0f7a4 5 = .ok (.isub, 1) := by decide +kernel
theorem dJ6_numberOfTrailingZeros_0f7a4_6 : decode cJ6_numberOfTrailingZeros_0f7a4 6 = .ok (.iand, 1) := by decide +kernel
theorem dJ6_numberOfTrailingZeros_0f7a4_7 : decode cJ6_numberOfTrailingZeros_0f7a4 7 = .ok (.istore_n 0, 1) := by decide +kernel
theorem dJ6_numberOfTrailingZeros_0f7a4_8 : decode cJ6_numberOfTrailingZeros_0f7a4 8 = .ok (.iload_n 0, 1) := by decide +kernel
theorem dJ6_numberOfTrailingZeros_0f7a4_9 : decode cJ6_numberOfTrailingZeros_0f7a4 9 = .ok (.ifCond .gt 8, 3) := by decide +kernel
theorem dJ6_numberOfTrailingZeros_0f7a4_12 : decode cJ6_numberOfTrailingZeros_0f7a4 12 = .ok (.iload_n 0, 1) := by decide +kernel
theorem dJ6_numberOfTrailingZeros_0f7a4_13 : decode cJ6_numberOfTrailingZeros_0f7a4 13 = .ok (.bipush 32, 2) := by decide +kernel
theorem dJ6_numberOfTrailingZeros_0f7a4_15 : decode cJ6_numberOfTrailingZeros_0f7a4 15 = .ok (.iand, 1) := by decide +kernel
theorem dJ6_numberOfTrailingZeros_0f7a4_16 : decode cJ6_numberOfTrailingZeros_0f7a4 16 = .ok (.ireturn, 1) := by decide +kernel
theorem dJ6_numberOfTrailingZeros_0f7a4_17 : decode cJ6_numberOfTrailingZeros_0f7a4 17 = .ok (.iconst 1, 1) := by decide +kernel
theorem dJ6_numberOfTrailingZeros_0f7a4_18 : decode cJ6_numberOfTrailingZeros_0f7a4 18 = .ok (.istore_n 1, 1) := by decide +kernel
theorem dJ6_numberOfTrailingZeros_0f7a4_19 : decode cJ6_numberOfTrailingZeros_0f7a4 19 = .ok (.iload_n 0, 1) := by decide +kernel
theorem dJ6_numberOfTrailingZeros_0f7a4_20 : decode cJ6_numberOfTrailingZeros_0f7a4 20 = .ok (.ldc_w 264, 3) := by decide +kernel
theorem dJ6_numberOfTrailingZeros_0f7a4_23 : decode cJ6_numberOfTrailingZeros_0f7a4 23 = .ok (.if_icmp .le 11, 3) := by decide +kernel
theorem dJ6_numberOfTrailingZeros_0f7a4_26 : decode cJ6_numberOfTrailingZeros_0f7a4 26 = .ok (.iinc 1 16, 3) := by decide +kernel
theorem dJ6_numberOfTrailingZeros_0f7a4_29 : decode cJ6_numberOfTrailingZeros_0f7a4 29 = .ok (.iload_n 0, 1) := by decide +kernel
theorem dJ6_numberOfTrailingZeros_0f7a4_30 : decode cJ6_numberOfTrailingZeros_0f7a4 30 = .ok (.bipush 16, 2) := by decide +kernel
theorem dJ6_numberOfTrailingZeros_0f7a4_32 : decode cJ6_numberOfTrailingZeros_0f7a4 32 = .ok (.iushr, 1) := by decide +kernel
theorem dJ6_numberOfTrailingZeros_0f7a4_33 : decode cJ6_numberOfTrailingZeros_0f7a4 33 = .ok (.istore_n 0, 1) := by decide +kernel
theorem dJ6_numberOfTrailingZeros_0f7a4_34 : decode cJ6_numberOfTrailingZeros_0f7a4 34 = .ok (.iload_n 0, 1) := by decide +kernel
theorem dJ6_numberOfTrailingZeros_0f7a4_35 : decode cJ6_numberOfTrailingZeros_0f7a4 35 = .ok (.sipush 256, 3) := by decide +kernel
theorem dJ6_numberOfTrailingZeros_0f7a4_38 : decode cJ6_numberOfTrailingZeros_0f7a4 38 = .ok (.if_icmp .le 11, 3) := by decide +kernel
theorem dJ6_numberOfTrailingZeros_0f7a4_41 : decode cJ6_numberOfTrailingZeros_0f7a4 41 = .ok (.iinc 1 8, 3) := by decide +kernel
theorem dJ6_numberOfTrailingZeros_0f7a4_44 : decode cJ6_numberOfTrailingZeros_0f7a4 44 = .ok (.iload_n 0, 1) := by decide +kernel
theorem dJ6_numberOfTrailingZeros_0f7a4_45 : decode cJ6_numberOfTrailingZeros_0f7a4 45 = .ok (.bipush 8, 2) := by decide +kernel
theorem dJ6_numberOfTrailingZeros_0f7a4_47 : decode cJ6_numberOfTrailingZeros_0f7a4 47 = .ok (.iushr, 1) := by decide +kernel
theorem dJ6_numberOfTrailingZeros_0f7a4_48 : decode cJ6_numberOfTrailingZeros_0f7a4 48 = .ok (.istore_n 0, 1) := by decide +kernel
theorem dJ6_numberOfTrailingZeros_0f7a4_49 : decode cJ6_numberOfTrailingZeros_0f7a4 49 = .ok (.iload_n 0, 1) := by decide +kernel
theorem dJ6_numberOfTrailingZeros_0f7a4_50 : decode cJ6_numberOfTrailingZeros_0f7a4 50 = .ok (.bipush 16, 2) := by decide +kernel
theorem dJ6_numberOfTrailingZeros_0f7a4_52 : decode cJ6_numberOfTrailingZeros_0f7a4 52 = .ok (.if_icmp .le 10, 3) := by decide +kernel
theorem dJ6_numberOfTrailingZeros_0f7a4_55 : decode cJ6_numberOfTrailingZeros_0f7a4 55 = .ok (.iinc 1 4, 3) := by decide +kernel
theorem dJ6_numberOfTrailingZeros_0f7a4_58 : decode cJ6_numberOfTrailingZeros_0f7a4 58 = .ok (.iload_n 0, 1) := by decide +kernel
theorem dJ6_numberOfTrailingZeros_0f7a4_59 : decode cJ6_numberOfTrailingZeros_0f7a4 59 = .ok (.iconst 4, 1) := by decide +kernel
theorem dJ6_numberOfTrailingZeros_0f7a4_60 : decode cJ6_numberOfTrailingZeros_0f7a4 60 = .ok (.iushr, 1) := by decide +kernel
theorem dJ6_numberOfTrailingZeros_0f7a4_61 : decode cJ6_numberOfTrailingZeros_0f7a4 61 = .ok (.istore_n 0, 1) := by decide +kernel
theorem dJ6_numberOfTrailingZeros_0f7a4_62 : decode cJ6_numberOfTrailingZeros_0f7a4 62 = .ok (.iload_n 0, 1) := by decide +kernel
theorem dJ6_numberOfTrailingZeros_0f7a4_63 : decode cJ6_numberOfTrailingZeros_0f7a4 63 = .ok (.iconst 4, 1) := by decide +kernel
theorem dJ6_numberOfTrailingZeros_0f7a4_64 : decode cJ6_numberOfTrailingZeros_0f7a4 64 = .ok (.if_icmp .le 10, 3) := by decide +kernel
theorem dJ6_numberOfTrailingZeros_0f7a4_67 : decode cJ6_numberOfTrailingZeros_0f7a4 67 = .ok (.iinc 1 2, 3) := by decide +kernel
theorem dJ6_numberOfTrailingZeros_0f7a4_70 : decode cJ6_numberOfTrailingZeros_0f7a4 70 = .ok (.iload_n 0, 1) := by decide +kernel
theorem dJ6_numberOfTrailingZeros_0f7a4_71 : decode cJ6_numberOfTrailingZeros_0f7a4 71 = .ok (.iconst 2, 1) := by decide +kernel
theorem dJ6_numberOfTrailingZeros_0f7a4_72 : decode cJ6_numberOfTrailingZeros_0f7a4 72 = .ok (.iushr, 1) := by decide +kernel
theorem dJ6_numberOfTrailingZeros_0f7a4_73 : decode cJ6_numberOfTrailingZeros_0f7a4 73 = .ok (.istore_n 0, 1) := by decide +kernel
theorem dJ6_numberOfTrailingZeros_0f7a4_74 : decode cJ6_numberOfTrailingZeros_0f7a4 74 = .ok (.iload_n 1, 1) := by decide +kernel
theorem dJ6_numberOfTrailingZeros_0f7a4_75 : decode cJ6_numberOfTrailingZeros_0f7a4 75 = .ok (.iload_n 0, 1) := by decide +kernel
theorem dJ6_numberOfTrailingZeros_0f7a4_76 : decode cJ6_numberOfTrailingZeros_0f7a4 76 = .ok (.iconst 1, 1) := by decide +kernel
theorem dJ6_numberOfTrailingZeros_0f7a4_77 : decode cJ6_numberOfTrailingZeros_0f7a4 77 = .ok (.iushr, 1) := by decide +kernel
theorem dJ6_numberOfTrailingZeros_0f7a4_78 : decode cJ6_numberOfTrailingZeros_0f7a4 78 = .ok (.iadd, 1) := by decide +kernel
theorem dJ6_numberOfTrailingZeros_0f7a4_79 : decode cJ6_numberOfTrailingZeros_0f7a4 79 = .ok (.ireturn, 1) := by decide +kernel
abbrev mtJ6_numberOfTrailingZeros_0f7a4 : mj_T := (yJ6_numberOfTrailingZeros_0f7a4.cls, cJ6_numberOfTrailingZeros_0f7a4, 2, (some .int), mj_no, yJ6_numberOfTrailingZeros_0f7a4.name)
abbrev kJ6_numberOfTrailingZeros_0f7a4 (x0 : Int32) (g : mj_S) (M : mj_M) (q : Int32 → mj_M → Prop) : Prop := mj_CI yJ6_numberOfTrailingZeros_0f7a4 (.code yJ6_numberOfTrailingZeros_0f7a4 cJ6_numberOfTrailingZeros_0f7a4 2 (some .int)) 0 [.int (x0)] g M q
theorem kiJ6_numberOfTrailingZeros_0f7a4 : mj_cS yJ6_numberOfTrailingZeros_0f7a4 cJ6_numberOfTrailingZeros_0f7a4 2 (some .int) 1 := ⟨⟨wd_411, wd_19, wd_412⟩, ⟨by decide +kernel, by decide +kernel, by decide +kernel⟩, Nat.le_of_ble_eq_true rfl⟩
theorem eJ6_numberOfTrailingZeros_0f7a4 {x0 : Int32} {g : mj_S} {M : mj_M} {q : Int32 → mj_M → Prop}  (h : ((0 : Int32) < (((x0) ^^^ (-1 : Int32)) &&& ((x0) - (1 : Int32))) → ((((x0) ^^^ (-1 : Int32)) &&& ((x0) - (1 : Int32)) : Int32) ≤ (65536 : Int32) → ((((x0) ^^^ (-1 : Int32)) &&& ((x0) - (1 : Int32)) : Int32) ≤ (256 : Int32) → ((((x0) ^^^ (-1 : Int32)) &&& ((x0) - (1 : Int32)) : Int32) ≤ (16 : Int32) → ((((x0) ^^^ (-1 : Int32)) &&& ((x0) - (1 : Int32)) : Int32) ≤ (4 : Int32) → q ((1 : Int32) + ((Int32.toUInt32 (((x0) ^^^ (-1 : Int32)) &&& ((x0) - (1 : Int32))) >>> (Int32.toUInt32 (1 : Int32) &&& Int32.toUInt32 31)).toInt32)) (M)) ∧ (¬ (((x0) ^^^ (-1 : Int32)) &&& ((x0) - (1 : Int32)) : Int32) ≤ (4 : Int32) → q ((1 + 2) + ((Int32.toUInt32 ((Int32.toUInt32 (((x0) ^^^ (-1 : Int32)) &&& ((x0) - (1 : Int32))) >>> (Int32.toUInt32 (2 : Int32) &&& Int32.toUInt32 31)).toInt32) >>> (Int32.toUInt32 (1 : Int32) &&& Int32.toUInt32 31)).toInt32)) (M))) ∧ (¬ (((x0) ^^^ (-1 : Int32)) &&& ((x0) - (1 : Int32)) : Int32) ≤ (16 : Int32) → (((Int32.toUInt32 (((x0) ^^^ (-1 : Int32)) &&& ((x0) - (1 : Int32))) >>> (Int32.toUInt32 (4 : Int32) &&& Int32.toUInt32 31)).toInt32 : Int32) ≤ (4 : Int32) → q ((1 + 4) + ((Int32.toUInt32 ((Int32.toUInt32 (((x0) ^^^ (-1 : Int32)) &&& ((x0) - (1 : Int32))) >>> (Int32.toUInt32 (4 : Int32) &&& Int32.toUInt32 31)).toInt32) >>> (Int32.toUInt32 (1 : Int32) &&& Int32.toUInt32 31)).toInt32)) (M)) ∧ (¬ ((Int32.toUInt32 (((x0) ^^^ (-1 : Int32)) &&& ((x0) - (1 : Int32))) >>> (Int32.toUInt32 (4 : Int32) &&& Int32.toUInt32 31)).toInt32 : Int32) ≤ (4 : Int32) → q ((1 + 4 + 2) + ((Int32.toUInt32 ((Int32.toUInt32 ((Int32.toUInt32 (((x0) ^^^ (-1 : Int32)) &&& ((x0) - (1 : Int32))) >>> (Int32.toUInt32 (4 : Int32) &&& Int32.toUInt32 31)).toInt32) >>> (Int32.toUInt32 (2 : Int32) &&& Int32.toUInt32 31)).toInt32) >>> (Int32.toUInt32 (1 : Int32) &&& Int32.toUInt32 31)).toInt32)) (M)))) ∧ (¬ (((x0) ^^^ (-1 : Int32)) &&& ((x0) - (1 : Int32)) : Int32) ≤ (256 : Int32) → (((Int32.toUInt32 (((x0) ^^^ (-1 : Int32)) &&& ((x0) - (1 : Int32))) >>> (Int32.toUInt32 (8 : Int32) &&& Int32.toUInt32 31)).toInt32 : Int32) ≤ (16 : Int32) → (((Int32.toUInt32 (((x0) ^^^ (-1 : Int32)) &&& ((x0) - (1 : Int32))) >>> (Int32.toUInt32 (8 : Int32) &&& Int32.toUInt32 31)).toInt32 : Int32) ≤ (4 : Int32) → q ((1 + 8) + ((Int32.toUInt32 ((Int32.toUInt32 (((x0) ^^^ (-1 : Int32)) &&& ((x0) - (1 : Int32))) >>> (Int32.toUInt32 (8 : Int32) &&& Int32.toUInt32 31)).toInt32) >>> (Int32.toUInt32 (1 : Int32) &&& Int32.toUInt32 31)).toInt32)) (M)) ∧ (¬ ((Int32.toUInt32 (((x0) ^^^ (-1 : Int32)) &&& ((x0) - (1 : Int32))) >>> (Int32.toUInt32 (8 : Int32) &&& Int32.toUInt32 31)).toInt32 : Int32) ≤ (4 : Int32) → q ((1 + 8 + 2) + ((Int32.toUInt32 ((Int32.toUInt32 ((Int32.toUInt32 (((x0) ^^^ (-1 : Int32)) &&& ((x0) - (1 : Int32))) >>> (Int32.toUInt32 (8 : Int32) &&& Int32.toUInt32 31)).toInt32) >>> (Int32.toUInt32 (2 : Int32) &&& Int32.toUInt32 31)).toInt32) >>> (Int32.toUInt32 (1 : Int32) &&& Int32.toUInt32 31)).toInt32)) (M))) ∧ (¬ ((Int32.toUInt32 (((x0) ^^^ (-1 : Int32)) &&& ((x0) - (1 : Int32))) >>> (Int32.toUInt32 (8 : Int32) &&& Int32.toUInt32 31)).toInt32 : Int32) ≤ (16 : Int32) → (((Int32.toUInt32 ((Int32.toUInt32 (((x0) ^^^ (-1 : Int32)) &&& ((x0) - (1 : Int32))) >>> (Int32.toUInt32 (8 : Int32) &&& Int32.toUInt32 31)).toInt32) >>> (Int32.toUInt32 (4 : Int32) &&& Int32.toUInt32 31)).toInt32 : Int32) ≤ (4 : Int32) → q ((1 + 8 + 4) + ((Int32.toUInt32 ((Int32.toUInt32 ((Int32.toUInt32 (((x0) ^^^ (-1 : Int32)) &&& ((x0) - (1 : Int32))) >>> (Int32.toUInt32 (8 : Int32) &&& Int32.toUInt32 31)).toInt32) >>> (Int32.toUInt32 (4 : Int32) &&& Int32.toUInt32 31)).toInt32) >>> (Int32.toUInt32 (1 : Int32) &&& Int32.toUInt32 31)).toInt32)) (M)) ∧ (¬ ((Int32.toUInt32 ((Int32.toUInt32 (((x0) ^^^ (-1 : Int32)) &&& ((x0) - (1 : Int32))) >>> (Int32.toUInt32 (8 : Int32) &&& Int32.toUInt32 31)).toInt32) >>> (Int32.toUInt32 (4 : Int32) &&& Int32.toUInt32 31)).toInt32 : Int32) ≤ (4 : Int32) → q ((1 + 8 + 4 + 2) + ((Int32.toUInt32 ((Int32.toUInt32 ((Int32.toUInt32 ((Int32.toUInt32 (((x0) ^^^ (-1 : Int32)) &&& ((x0) - (1 : Int32))) >>> (Int32.toUInt32 (8 : Int32) &&& Int32.toUInt32 31)).toInt32) >>> (Int32.toUInt32 (4 : Int32) &&& Int32.toUInt32 31)).toInt32) >>> (Int32.toUInt32 (2 : Int32) &&& Int32.toUInt32 31)).toInt32) >>> (Int32.toUInt32 (1 : Int32) &&& Int32.toUInt32 31)).toInt32)) (M))))) ∧ (¬ (((x0) ^^^ (-1 : Int32)) &&& ((x0) - (1 : Int32)) : Int32) ≤ (65536 : Int32) → (((Int32.toUInt32 (((x0) ^^^ (-1 : Int32)) &&& ((x0) - (1 : Int32))) >>> (Int32.toUInt32 (16 : Int32) &&& Int32.toUInt32 31)).toInt32 : Int32) ≤ (256 : Int32) → (((Int32.toUInt32 (((x0) ^^^ (-1 : Int32)) &&& ((x0) - (1 : Int32))) >>> (Int32.toUInt32 (16 : Int32) &&& Int32.toUInt32 31)).toInt32 : Int32) ≤ (16 : Int32) → (((Int32.toUInt32 (((x0) ^^^ (-1 : Int32)) &&& ((x0) - (1 : Int32))) >>> (Int32.toUInt32 (16 : Int32) &&& Int32.toUInt32 31)).toInt32 : Int32) ≤ (4 : Int32) → q ((1 + 16) + ((Int32.toUInt32 ((Int32.toUInt32 (((x0) ^^^ (-1 : Int32)) &&& ((x0) - (1 : Int32))) >>> (Int32.toUInt32 (16 : Int32) &&& Int32.toUInt32 31)).toInt32) >>> (Int32.toUInt32 (1 : Int32) &&& Int32.toUInt32 31)).toInt32)) (M)) ∧ (¬ ((Int32.toUInt32 (((x0) ^^^ (-1 : Int32)) &&& ((x0) - (1 : Int32))) >>> (Int32.toUInt32 (16 : Int32) &&& Int32.toUInt32 31)).toInt32 : Int32) ≤ (4 : Int32) → q ((1 + 16 + 2) + ((Int32.toUInt32 ((Int32.toUInt32 ((Int32.toUInt32 (((x0) ^^^ (-1 : Int32)) &&& ((x0) - (1 : Int32))) >>> (Int32.toUInt32 (16 : Int32) &&& Int32.toUInt32 31)).toInt32) >>> (Int32.toUInt32 (2 : Int32) &&& Int32.toUInt32 31)).toInt32) >>> (Int32.toUInt32 (1 : Int32) &&& Int32.toUInt32 31)).toInt32)) (M))) ∧ (¬ ((Int32.toUInt32 (((x0) ^^^ (-1 : Int32)) &&& ((x0) - (1 : Int32))) >>> (Int32.toUInt32 (16 : Int32) &&& Int32.toUInt32 31)).toInt32 : Int32) ≤ (16 : Int32) → (((Int32.toUInt32 ((Int32.toUInt32 (((x0) ^^^ (-1 : Int32)) &&& ((x0) - (1 : Int32))) >>> (Int32.toUInt32 (16 : Int32) &&& Int32.toUInt32 31)).toInt32) >>> (Int32.toUInt32 (4 : Int32) &&& Int32.toUInt32 31)).toInt32 : Int32) ≤ (4 : Int32) → q ((1 + 16 + 4) + ((Int32.toUInt32 ((Int32.toUInt32 ((Int32.toUInt32 (((x0) ^^^ (-1 : Int32)) &&& ((x0) - (1 : Int32))) >>> (Int32.toUInt32 (16 : Int32) &&& Int32.toUInt32 31)).toInt32) >>> (Int32.toUInt32 (4 : Int32) &&& Int32.toUInt32 31)).toInt32) >>> (Int32.toUInt32 (1 : Int32) &&& Int32.toUInt32 31)).toInt32)) (M)) ∧ (¬ ((Int32.toUInt32 ((Int32.toUInt32 (((x0) ^^^ (-1 : Int32)) &&& ((x0) - (1 : Int32))) >>> (Int32.toUInt32 (16 : Int32) &&& Int32.toUInt32 31)).toInt32) >>> (Int32.toUInt32 (4 : Int32) &&& Int32.toUInt32 31)).toInt32 : Int32) ≤ (4 : Int32) → q ((1 + 16 + 4 + 2) + ((Int32.toUInt32 ((Int32.toUInt32 ((Int32.toUInt32 ((Int32.toUInt32 (((x0) ^^^ (-1 : Int32)) &&& ((x0) - (1 : Int32))) >>> (Int32.toUInt32 (16 : Int32) &&& Int32.toUInt32 31)).toInt32) >>> (Int32.toUInt32 (4 : Int32) &&& Int32.toUInt32 31)).toInt32) >>> (Int32.toUInt32 (2 : Int32) &&& Int32.toUInt32 31)).toInt32) >>> (Int32.toUInt32 (1 : Int32) &&& Int32.toUInt32 31)).toInt32)) (M)))) ∧ (¬ ((Int32.toUInt32 (((x0) ^^^ (-1 : Int32)) &&& ((x0) - (1 : Int32))) >>> (Int32.toUInt32 (16 : Int32) &&& Int32.toUInt32 31)).toInt32 : Int32) ≤ (256 : Int32) → (((Int32.toUInt32 ((Int32.toUInt32 (((x0) ^^^ (-1 : Int32)) &&& ((x0) - (1 : Int32))) >>> (Int32.toUInt32 (16 : Int32) &&& Int32.toUInt32 31)).toInt32) >>> (Int32.toUInt32 (8 : Int32) &&& Int32.toUInt32 31)).toInt32 : Int32) ≤ (16 : Int32) → (((Int32.toUInt32 ((Int32.toUInt32 (((x0) ^^^ (-1 : Int32)) &&& ((x0) - (1 : Int32))) >>> (Int32.toUInt32 (16 : Int32) &&& Int32.toUInt32 31)).toInt32) >>> (Int32.toUInt32 (8 : Int32) &&& Int32.toUInt32 31)).toInt32 : Int32) ≤ (4 : Int32) → q ((1 + 16 + 8) + ((Int32.toUInt32 ((Int32.toUInt32 ((Int32.toUInt32 (((x0) ^^^ (-1 : Int32)) &&& ((x0) - (1 : Int32))) >>> (Int32.toUInt32 (16 : Int32) &&& Int32.toUInt32 31)).toInt32) >>> (Int32.toUInt32 (8 : Int32) &&& Int32.toUInt32 31)).toInt32) >>> (Int32.toUInt32 (1 : Int32) &&& Int32.toUInt32 31)).toInt32)) (M)) ∧ (¬ ((Int32.toUInt32 ((Int32.toUInt32 (((x0) ^^^ (-1 : Int32)) &&& ((x0) - (1 : Int32))) >>> (Int32.toUInt32 (16 : Int32) &&& Int32.toUInt32 31)).toInt32) >>> (Int32.toUInt32 (8 : Int32) &&& Int32.toUInt32 31)).toInt32 : Int32) ≤ (4 : Int32) → q ((1 + 16 + 8 + 2) + ((Int32.toUInt32 ((Int32.toUInt32 ((Int32.toUInt32 ((Int32.toUInt32 (((x0) ^^^ (-1 : Int32)) &&& ((x0) - (1 : Int32))) >>> (Int32.toUInt32 (16 : Int32) &&& Int32.toUInt32 31)).toInt32) >>> (Int32.toUInt32 (8 : Int32) &&& Int32.toUInt32 31)).toInt32) >>> (Int32.toUInt32 (2 : Int32) &&& Int32.toUInt32 31)).toInt32) >>> (Int32.toUInt32 (1 : Int32) &&& Int32.toUInt32 31)).toInt32)) (M))) ∧ (¬ ((Int32.toUInt32 ((Int32.toUInt32 (((x0) ^^^ (-1 : Int32)) &&& ((x0) - (1 : Int32))) >>> (Int32.toUInt32 (16 : Int32) &&& Int32.toUInt32 31)).toInt32) >>> (Int32.toUInt32 (8 : Int32) &&& Int32.toUInt32 31)).toInt32 : Int32) ≤ (16 : Int32) → (((Int32.toUInt32 ((Int32.toUInt32 ((Int32.toUInt32 (((x0) ^^^ (-1 : Int32)) &&& ((x0) - (1 : Int32))) >>> (Int32.toUInt32 (16 : Int32) &&& Int32.toUInt32 31)).toInt32) >>> (Int32.toUInt32 (8 : Int32) &&& Int32.toUInt32 31)).toInt32) >>> (Int32.toUInt32 (4 : Int32) &&& Int32.toUInt32 31)).toInt32 : Int32) ≤ (4 : Int32) → q ((1 + 16 + 8 + 4) + ((Int32.toUInt32 ((Int32.toUInt32 ((Int32.toUInt32 ((Int32.toUInt32 (((x0) ^^^ (-1 : Int32)) &&& ((x0) - (1 : Int32))) >>> (Int32.toUInt32 (16 : Int32) &&& Int32.toUInt32 31)).toInt32) >>> (Int32.toUInt32 (8 : Int32) &&& Int32.toUInt32 31)).toInt32) >>> (Int32.toUInt32 (4 : Int32) &&& Int32.toUInt32 31)).toInt32) >>> (Int32.toUInt32 (1 : Int32) &&& Int32.toUInt32 31)).toInt32)) (M)) ∧ (¬ ((Int32.toUInt32 ((Int32.toUInt32 ((Int32.toUInt32 (((x0) ^^^ (-1 : Int32)) &&& ((x0) - (1 : Int32))) >>> (Int32.toUInt32 (16 : Int32) &&& Int32.toUInt32 31)).toInt32) >>> (Int32.toUInt32 (8 : Int32) &&& Int32.toUInt32 31)).toInt32) >>> (Int32.toUInt32 (4 : Int32) &&& Int32.toUInt32 31)).toInt32 : Int32) ≤ (4 : Int32) → q ((1 + 16 + 8 + 4 + 2) + ((Int32.toUInt32 ((Int32.toUInt32 ((Int32.toUInt32 ((Int32.toUInt32 ((Int32.toUInt32 (((x0) ^^^ (-1 : Int32)) &&& ((x0) - (1 : Int32))) >>> (Int32.toUInt32 (16 : Int32) &&& Int32.toUInt32 31)).toInt32) >>> (Int32.toUInt32 (8 : Int32) &&& Int32.toUInt32 31)).toInt32) >>> (Int32.toUInt32 (4 : Int32) &&& Int32.toUInt32 31)).toInt32) >>> (Int32.toUInt32 (2 : Int32) &&& Int32.toUInt32 31)).toInt32) >>> (Int32.toUInt32 (1 : Int32) &&& Int32.toUInt32 31)).toInt32)) (M)))))) ∧ (¬ (0 : Int32) < (((x0) ^^^ (-1 : Int32)) &&& ((x0) - (1 : Int32))) → q ((((x0) ^^^ (-1 : Int32)) &&& ((x0) - (1 : Int32))) &&& (32 : Int32)) (M))) : kJ6_numberOfTrailingZeros_0f7a4 (x0) g M q := by
  intro d hd; refine mj_enter (by decide +kernel) (Nat.le_of_ble_eq_true rfl) ?_
  generalize (false : Bool) = ex
  show mj_G mtJ6_numberOfTrailingZeros_0f7a4 (mj_rm d 0 0) (mj_Fi (mj_qI g q) mj_x0 0 0) ex 0 0 0 [(0, .int (x0))] [] g M
  refine mg_iload_n dJ6_numberOfTrailingZeros_0f7a4_0 rfl 0 rfl ?_
  refine mg_iconst (v := (-1)) dJ6_numberOfTrailingZeros_0f7a4_1 (by decide) ?_
  refine mg_ixor dJ6_numberOfTrailingZeros_0f7a4_2 ?_
  refine mg_iload_n dJ6_numberOfTrailingZeros_0f7a4_3 rfl 0 rfl ?_
  refine mg_iconst (v := 1) dJ6_numberOfTrailingZeros_0f7a4_4 (by decide) ?_
  refine mg_isub dJ6_numberOfTrailingZeros_0f7a4_5 ?_
  refine mg_iand dJ6_numberOfTrailingZeros_0f7a4_6 ?_
  refine mg_istore_n (ls' := [(0, .int (((x0) ^^^ (-1 : Int32)) &&& ((x0) - (1 : Int32))))]) dJ6_numberOfTrailingZeros_0f7a4_7 rfl (Nat.le_of_ble_eq_true rfl) rfl ?_
  refine mg_iload_n dJ6_numberOfTrailingZeros_0f7a4_8 rfl 0 rfl ?_
  refine mg_if_gt (tgt := 17) dJ6_numberOfTrailingZeros_0f7a4_9 (by decide) (fun hc => ?_) (fun hc => ?_)
  · replace h := h.1 hc
    refine mg_iconst (v := 1) dJ6_numberOfTrailingZeros_0f7a4_17 (by decide) ?_
    refine mg_istore_n (ls' := [(1, .int (1)), (0, .int (((x0) ^^^ (-1 : Int32)) &&& ((x0) - (1 : Int32))))]) dJ6_numberOfTrailingZeros_0f7a4_18 rfl (Nat.le_of_ble_eq_true rfl) rfl ?_
    refine mg_iload_n dJ6_numberOfTrailingZeros_0f7a4_19 rfl 1 rfl ?_
    refine mg_ldcw (v := 65536) dJ6_numberOfTrailingZeros_0f7a4_20 wd_413 ?_
    refine mg_icmp_le (tgt := 34) dJ6_numberOfTrailingZeros_0f7a4_23 (by decide) (fun hc => ?_) (fun hc => ?_)
    · replace h := h.1 hc
      refine mg_iload_n dJ6_numberOfTrailingZeros_0f7a4_34 rfl 1 rfl ?_
      refine mg_sipush (v := 256) dJ6_numberOfTrailingZeros_0f7a4_35 (by decide) ?_
      refine mg_icmp_le (tgt := 49) dJ6_numberOfTrailingZeros_0f7a4_38 (by decide) (fun hc => ?_) (fun hc => ?_)
      · replace h := h.1 hc
        refine mg_iload_n dJ6_numberOfTrailingZeros_0f7a4_49 rfl 1 rfl ?_
        refine mg_bipush (v := 16) dJ6_numberOfTrailingZeros_0f7a4_50 (by decide) ?_
        refine mg_icmp_le (tgt := 62) dJ6_numberOfTrailingZeros_0f7a4_52 (by decide) (fun hc => ?_) (fun hc => ?_)
        · replace h := h.1 hc
          refine mg_iload_n dJ6_numberOfTrailingZeros_0f7a4_62 rfl 1 rfl ?_
          refine mg_iconst (v := 4) dJ6_numberOfTrailingZeros_0f7a4_63 (by decide) ?_
          refine mg_icmp_le (tgt := 74) dJ6_numberOfTrailingZeros_0f7a4_64 (by decide) (fun hc => ?_) (fun hc => ?_)
          · replace h := h.1 hc
            refine mg_iload_n dJ6_numberOfTrailingZeros_0f7a4_74 rfl 0 rfl ?_
            refine mg_iload_n dJ6_numberOfTrailingZeros_0f7a4_75 rfl 1 rfl ?_
            refine mg_iconst (v := 1) dJ6_numberOfTrailingZeros_0f7a4_76 (by decide) ?_
            refine mg_iushr dJ6_numberOfTrailingZeros_0f7a4_77 ?_
            refine mg_iadd dJ6_numberOfTrailingZeros_0f7a4_78 ?_
            exact me_i dJ6_numberOfTrailingZeros_0f7a4_79 rfl h
          · replace h := h.2 hc
            refine mg_iinc (v := 1 + 2) (ls' := [(1, .int (1 + 2)), (0, .int (((x0) ^^^ (-1 : Int32)) &&& ((x0) - (1 : Int32))))]) dJ6_numberOfTrailingZeros_0f7a4_67 0 rfl rfl (Nat.le_of_ble_eq_true rfl) rfl ?_
            refine mg_iload_n dJ6_numberOfTrailingZeros_0f7a4_70 rfl 1 rfl ?_
            refine mg_iconst (v := 2) dJ6_numberOfTrailingZeros_0f7a4_71 (by decide) ?_
            refine mg_iushr dJ6_numberOfTrailingZeros_0f7a4_72 ?_
            refine mg_istore_n (ls' := [(0, .int ((Int32.toUInt32 (((x0) ^^^ (-1 : Int32)) &&& ((x0) - (1 : Int32))) >>> (Int32.toUInt32 (2 : Int32) &&& Int32.toUInt32 31)).toInt32)), (1, .int (1 + 2))]) dJ6_numberOfTrailingZeros_0f7a4_73 rfl (Nat.le_of_ble_eq_true rfl) rfl ?_
            refine mg_iload_n dJ6_numberOfTrailingZeros_0f7a4_74 rfl 1 rfl ?_
            refine mg_iload_n dJ6_numberOfTrailingZeros_0f7a4_75 rfl 0 rfl ?_
            refine mg_iconst (v := 1) dJ6_numberOfTrailingZeros_0f7a4_76 (by decide) ?_
            refine mg_iushr dJ6_numberOfTrailingZeros_0f7a4_77 ?_
            refine mg_iadd dJ6_numberOfTrailingZeros_0f7a4_78 ?_
            exact me_i dJ6_numberOfTrailingZeros_0f7a4_79 rfl h
        · replace h := h.2 hc
          refine mg_iinc (v := 1 + 4) (ls' := [(1, .int (1 + 4)), (0, .int (((x0) ^^^ (-1 : Int32)) &&& ((x0) - (1 : Int32))))]) dJ6_numberOfTrailingZeros_0f7a4_55 0 rfl rfl (Nat.le_of_ble_eq_true rfl) rfl ?_
          refine mg_iload_n dJ6_numberOfTrailingZeros_0f7a4_58 rfl 1 rfl ?_
          refine mg_iconst (v := 4) dJ6_numberOfTrailingZeros_0f7a4_59 (by decide) ?_
          refine mg_iushr dJ6_numberOfTrailingZeros_0f7a4_60 ?_
          refine mg_istore_n (ls' := [(0, .int ((Int32.toUInt32 (((x0) ^^^ (-1 : Int32)) &&& ((x0) - (1 : Int32))) >>> (Int32.toUInt32 (4 : Int32) &&& Int32.toUInt32 31)).toInt32)), (1, .int (1 + 4))]) dJ6_numberOfTrailingZeros_0f7a4_61 rfl (Nat.le_of_ble_eq_true rfl) rfl ?_
          refine mg_iload_n dJ6_numberOfTrailingZeros_0f7a4_62 rfl 0 rfl ?_
          refine mg_iconst (v := 4) dJ6_numberOfTrailingZeros_0f7a4_63 (by decide) ?_
          refine mg_icmp_le (tgt := 74) dJ6_numberOfTrailingZeros_0f7a4_64 (by decide) (fun hc => ?_) (fun hc => ?_)
          · replace h := h.1 hc
            refine mg_iload_n dJ6_numberOfTrailingZeros_0f7a4_74 rfl 1 rfl ?_
            refine mg_iload_n dJ6_numberOfTrailingZeros_0f7a4_75 rfl 0 rfl ?_
            refine mg_iconst (v := 1) dJ6_numberOfTrailingZeros_0f7a4_76 (by decide) ?_
            refine mg_iushr dJ6_numberOfTrailingZeros_0f7a4_77 ?_
            refine mg_iadd dJ6_numberOfTrailingZeros_0f7a4_78 ?_
            exact me_i dJ6_numberOfTrailingZeros_0f7a4_79 rfl h
          · replace h := h.2 hc
            refine mg_iinc (v := 1 + 4 + 2) (ls' := [(1, .int (1 + 4 + 2)), (0, .int ((Int32.toUInt32 (((x0) ^^^ (-1 : Int32)) &&& ((x0) - (1 : Int32))) >>> (Int32.toUInt32 (4 : Int32) &&& Int32.toUInt32 31)).toInt32))]) dJ6_numberOfTrailingZeros_0f7a4_67 1 rfl rfl (Nat.le_of_ble_eq_true rfl) rfl ?_
            refine mg_iload_n dJ6_numberOfTrailingZeros_0f7a4_70 rfl 1 rfl ?_
            refine mg_iconst (v := 2) dJ6_numberOfTrailingZeros_0f7a4_71 (by decide) ?_
            refine mg_iushr dJ6_numberOfTrailingZeros_0f7a4_72 ?_
            refine mg_istore_n (ls' := [(0, .int ((Int32.toUInt32 ((Int32.toUInt32 (((x0) ^^^ (-1 : Int32)) &&& ((x0) - (1 : Int32))) >>> (Int32.toUInt32 (4 : Int32) &&& Int32.toUInt32 31)).toInt32) >>> (Int32.toUInt32 (2 : Int32) &&& Int32.toUInt32 31)).toInt32)), (1, .int (1 + 4 + 2))]) dJ6_numberOfTrailingZeros_0f7a4_73 rfl (Nat.le_of_ble_eq_true rfl) rfl ?_
            refine mg_iload_n dJ6_numberOfTrailingZeros_0f7a4_74 rfl 1 rfl ?_
            refine mg_iload_n dJ6_numberOfTrailingZeros_0f7a4_75 rfl 0 rfl ?_
            refine mg_iconst (v := 1) dJ6_numberOfTrailingZeros_0f7a4_76 (by decide) ?_
            refine mg_iushr dJ6_numberOfTrailingZeros_0f7a4_77 ?_
            refine mg_iadd dJ6_numberOfTrailingZeros_0f7a4_78 ?_
            exact me_i dJ6_numberOfTrailingZeros_0f7a4_79 rfl h
      · replace h := h.2 hc
        refine mg_iinc (v := 1 + 8) (ls' := [(1, .int (1 + 8)), (0, .int (((x0) ^^^ (-1 : Int32)) &&& ((x0) - (1 : Int32))))]) dJ6_numberOfTrailingZeros_0f7a4_41 0 rfl rfl (Nat.le_of_ble_eq_true rfl) rfl ?_
        refine mg_iload_n dJ6_numberOfTrailingZeros_0f7a4_44 rfl 1 rfl ?_
        refine mg_bipush (v := 8) dJ6_numberOfTrailingZeros_0f7a4_45 (by decide) ?_
        refine mg_iushr dJ6_numberOfTrailingZeros_0f7a4_47 ?_
        refine mg_istore_n (ls' := [(0, .int ((Int32.toUInt32 (((x0) ^^^ (-1 : Int32)) &&& ((x0) - (1 : Int32))) >>> (Int32.toUInt32 (8 : Int32) &&& Int32.toUInt32 31)).toInt32)), (1, .int (1 + 8))]) dJ6_numberOfTrailingZeros_0f7a4_48 rfl (Nat.le_of_ble_eq_true rfl) rfl ?_
        refine mg_iload_n dJ6_numberOfTrailingZeros_0f7a4_49 rfl 0 rfl ?_
        refine mg_bipush (v := 16) dJ6_numberOfTrailingZeros_0f7a4_50 (by decide) ?_
        refine mg_icmp_le (tgt := 62) dJ6_numberOfTrailingZeros_0f7a4_52 (by decide) (fun hc => ?_) (fun hc => ?_)
        · replace h := h.1 hc
          refine mg_iload_n dJ6_numberOfTrailingZeros_0f7a4_62 rfl 0 rfl ?_
          refine mg_iconst (v := 4) dJ6_numberOfTrailingZeros_0f7a4_63 (by decide) ?_
          refine mg_icmp_le (tgt := 74) dJ6_numberOfTrailingZeros_0f7a4_64 (by decide) (fun hc => ?_) (fun hc => ?_)
          · replace h := h.1 hc
            refine mg_iload_n dJ6_numberOfTrailingZeros_0f7a4_74 rfl 1 rfl ?_
            refine mg_iload_n dJ6_numberOfTrailingZeros_0f7a4_75 rfl 0 rfl ?_
            refine mg_iconst (v := 1) dJ6_numberOfTrailingZeros_0f7a4_76 (by decide) ?_
            refine mg_iushr dJ6_numberOfTrailingZeros_0f7a4_77 ?_
            refine mg_iadd dJ6_numberOfTrailingZeros_0f7a4_78 ?_
            exact me_i dJ6_numberOfTrailingZeros_0f7a4_79 rfl h
          · replace h := h.2 hc
            refine mg_iinc (v := 1 + 8 + 2) (ls' := [(1, .int (1 + 8 + 2)), (0, .int ((Int32.toUInt32 (((x0) ^^^ (-1 : Int32)) &&& ((x0) - (1 : Int32))) >>> (Int32.toUInt32 (8 : Int32) &&& Int32.toUInt32 31)).toInt32))]) dJ6_numberOfTrailingZeros_0f7a4_67 1 rfl rfl (Nat.le_of_ble_eq_true rfl) rfl ?_
            refine mg_iload_n dJ6_numberOfTrailingZeros_0f7a4_70 rfl 1 rfl ?_
            refine mg_iconst (v := 2) dJ6_numberOfTrailingZeros_0f7a4_71 (by decide) ?_
            refine mg_iushr dJ6_numberOfTrailingZeros_0f7a4_72 ?_
            refine mg_istore_n (ls' := [(0, .int ((Int32.toUInt32 ((Int32.toUInt32 (((x0) ^^^ (-1 : Int32)) &&& ((x0) - (1 : Int32))) >>> (Int32.toUInt32 (8 : Int32) &&& Int32.toUInt32 31)).toInt32) >>> (Int32.toUInt32 (2 : Int32) &&& Int32.toUInt32 31)).toInt32)), (1, .int (1 + 8 + 2))]) dJ6_numberOfTrailingZeros_0f7a4_73 rfl (Nat.le_of_ble_eq_true rfl) rfl ?_
            refine mg_iload_n dJ6_numberOfTrailingZeros_0f7a4_74 rfl 1 rfl ?_
            refine mg_iload_n dJ6_numberOfTrailingZeros_0f7a4_75 rfl 0 rfl ?_
            refine mg_iconst (v := 1) dJ6_numberOfTrailingZeros_0f7a4_76 (by decide) ?_
            refine mg_iushr dJ6_numberOfTrailingZeros_0f7a4_77 ?_
            refine mg_iadd dJ6_numberOfTrailingZeros_0f7a4_78 ?_
            exact me_i dJ6_numberOfTrailingZeros_0f7a4_79 rfl h
        · replace h := h.2 hc
          refine mg_iinc (v := 1 + 8 + 4) (ls' := [(1, .int (1 + 8 + 4)), (0, .int ((Int32.toUInt32 (((x0) ^^^ (-1 : Int32)) &&& ((x0) - (1 : Int32))) >>> (Int32.toUInt32 (8 : Int32) &&& Int32.toUInt32 31)).toInt32))]) dJ6_numberOfTrailingZeros_0f7a4_55 1 rfl rfl (Nat.le_of_ble_eq_true rfl) rfl ?_
          refine mg_iload_n dJ6_numberOfTrailingZeros_0f7a4_58 rfl 1 rfl ?_
          refine mg_iconst (v := 4) dJ6_numberOfTrailingZeros_0f7a4_59 (by decide) ?_
          refine mg_iushr dJ6_numberOfTrailingZeros_0f7a4_60 ?_
          refine mg_istore_n (ls' := [(0, .int ((Int32.toUInt32 ((Int32.toUInt32 (((x0) ^^^ (-1 : Int32)) &&& ((x0) - (1 : Int32))) >>> (Int32.toUInt32 (8 : Int32) &&& Int32.toUInt32 31)).toInt32) >>> (Int32.toUInt32 (4 : Int32) &&& Int32.toUInt32 31)).toInt32)), (1, .int (1 + 8 + 4))]) dJ6_numberOfTrailingZeros_0f7a4_61 rfl (Nat.le_of_ble_eq_true rfl) rfl ?_
          refine mg_iload_n dJ6_numberOfTrailingZeros_0f7a4_62 rfl 0 rfl ?_
          refine mg_iconst (v := 4) dJ6_numberOfTrailingZeros_0f7a4_63 (by decide) ?_
          refine mg_icmp_le (tgt := 74) dJ6_numberOfTrailingZeros_0f7a4_64 (by decide) (fun hc => ?_) (fun hc => ?_)
          · replace h := h.1 hc
            refine mg_iload_n dJ6_numberOfTrailingZeros_0f7a4_74 rfl 1 rfl ?_
            refine mg_iload_n dJ6_numberOfTrailingZeros_0f7a4_75 rfl 0 rfl ?_
            refine mg_iconst (v := 1) dJ6_numberOfTrailingZeros_0f7a4_76 (by decide) ?_
            refine mg_iushr dJ6_numberOfTrailingZeros_0f7a4_77 ?_
            refine mg_iadd dJ6_numberOfTrailingZeros_0f7a4_78 ?_
            exact me_i dJ6_numberOfTrailingZeros_0f7a4_79 rfl h
          · replace h := h.2 hc
            refine mg_iinc (v := 1 + 8 + 4 + 2) (ls' := [(1, .int (1 + 8 + 4 + 2)), (0, .int ((Int32.toUInt32 ((Int32.toUInt32 (((x0) ^^^ (-1 : Int32)) &&& ((x0) - (1 : Int32))) >>> (Int32.toUInt32 (8 : Int32) &&& Int32.toUInt32 31)).toInt32) >>> (Int32.toUInt32 (4 : Int32) &&& Int32.toUInt32 31)).toInt32))]) dJ6_numberOfTrailingZeros_0f7a4_67 1 rfl rfl (Nat.le_of_ble_eq_true rfl) rfl ?_
            refine mg_iload_n dJ6_numberOfTrailingZeros_0f7a4_70 rfl 1 rfl ?_
            refine mg_iconst (v := 2) dJ6_numberOfTrailingZeros_0f7a4_71 (by decide) ?_
            refine mg_iushr dJ6_numberOfTrailingZeros_0f7a4_72 ?_
            refine mg_istore_n (ls' := [(0, .int ((Int32.toUInt32 ((Int32.toUInt32 ((Int32.toUInt32 (((x0) ^^^ (-1 : Int32)) &&& ((x0) - (1 : Int32))) >>> (Int32.toUInt32 (8 : Int32) &&& Int32.toUInt32 31)).toInt32) >>> (Int32.toUInt32 (4 : Int32) &&& Int32.toUInt32 31)).toInt32) >>> (Int32.toUInt32 (2 : Int32) &&& Int32.toUInt32 31)).toInt32)), (1, .int (1 + 8 + 4 + 2))]) dJ6_numberOfTrailingZeros_0f7a4_73 rfl (Nat.le_of_ble_eq_true rfl) rfl ?_
            refine mg_iload_n dJ6_numberOfTrailingZeros_0f7a4_74 rfl 1 rfl ?_
            refine mg_iload_n dJ6_numberOfTrailingZeros_0f7a4_75 rfl 0 rfl ?_
            refine mg_iconst (v := 1) dJ6_numberOfTrailingZeros_0f7a4_76 (by decide) ?_
            refine mg_iushr dJ6_numberOfTrailingZeros_0f7a4_77 ?_
            refine mg_iadd dJ6_numberOfTrailingZeros_0f7a4_78 ?_
            exact me_i dJ6_numberOfTrailingZeros_0f7a4_79 rfl h
    · replace h := h.2 hc
      refine mg_iinc (v := 1 + 16) (ls' := [(1, .int (1 + 16)), (0, .int (((x0) ^^^ (-1 : Int32)) &&& ((x0) - (1 : Int32))))]) dJ6_numberOfTrailingZeros_0f7a4_26 0 rfl rfl (Nat.le_of_ble_eq_true rfl) rfl ?_
      refine mg_iload_n dJ6_numberOfTrailingZeros_0f7a4_29 rfl 1 rfl ?_
      refine mg_bipush (v := 16) dJ6_numberOfTrailingZeros_0f7a4_30 (by decide) ?_
      refine mg_iushr dJ6_numberOfTrailingZeros_0f7a4_32 ?_
      refine mg_istore_n (ls' := [(0, .int ((Int32.toUInt32 (((x0) ^^^ (-1 : Int32)) &&& ((x0) - (1 : Int32))) >>> (Int32.toUInt32 (16 : Int32) &&& Int32.toUInt32 31)).toInt32)), (1, .int (1 + 16))]) dJ6_numberOfTrailingZeros_0f7a4_33 rfl (Nat.le_of_ble_eq_true rfl) rfl ?_
      refine mg_iload_n dJ6_numberOfTrailingZeros_0f7a4_34 rfl 0 rfl ?_
      refine mg_sipush (v := 256) dJ6_numberOfTrailingZeros_0f7a4_35 (by decide) ?_
      refine mg_icmp_le (tgt := 49) dJ6_numberOfTrailingZeros_0f7a4_38 (by decide) (fun hc => ?_) (fun hc => ?_)
      · replace h := h.1 hc
        refine mg_iload_n dJ6_numberOfTrailingZeros_0f7a4_49 rfl 0 rfl ?_
        refine mg_bipush (v := 16) dJ6_numberOfTrailingZeros_0f7a4_50 (by decide) ?_
        refine mg_icmp_le (tgt := 62) dJ6_numberOfTrailingZeros_0f7a4_52 (by decide) (fun hc => ?_) (fun hc => ?_)
        · replace h := h.1 hc
          refine mg_iload_n dJ6_numberOfTrailingZeros_0f7a4_62 rfl 0 rfl ?_
          refine mg_iconst (v := 4) dJ6_numberOfTrailingZeros_0f7a4_63 (by decide) ?_
          refine mg_icmp_le (tgt := 74) dJ6_numberOfTrailingZeros_0f7a4_64 (by decide) (fun hc => ?_) (fun hc => ?_)
          · replace h := h.1 hc
            refine mg_iload_n dJ6_numberOfTrailingZeros_0f7a4_74 rfl 1 rfl ?_
            refine mg_iload_n dJ6_numberOfTrailingZeros_0f7a4_75 rfl 0 rfl ?_
            refine mg_iconst (v := 1) dJ6_numberOfTrailingZeros_0f7a4_76 (by decide) ?_
            refine mg_iushr dJ6_numberOfTrailingZeros_0f7a4_77 ?_
            refine mg_iadd dJ6_numberOfTrailingZeros_0f7a4_78 ?_
            exact me_i dJ6_numberOfTrailingZeros_0f7a4_79 rfl h
          · replace h := h.2 hc
            refine mg_iinc (v := 1 + 16 + 2) (ls' := [(1, .int (1 + 16 + 2)), (0, .int ((Int32.toUInt32 (((x0) ^^^ (-1 : Int32)) &&& ((x0) - (1 : Int32))) >>> (Int32.toUInt32 (16 : Int32) &&& Int32.toUInt32 31)).toInt32))]) dJ6_numberOfTrailingZeros_0f7a4_67 1 rfl rfl (Nat.le_of_ble_eq_true rfl) rfl ?_
            refine mg_iload_n dJ6_numberOfTrailingZeros_0f7a4_70 rfl 1 rfl ?_
            refine mg_iconst (v := 2) dJ6_numberOfTrailingZeros_0f7a4_71 (by decide) ?_
            refine mg_iushr dJ6_numberOfTrailingZeros_0f7a4_72 ?_
            refine mg_istore_n (ls' := [(0, .int ((Int32.toUInt32 ((Int32.toUInt32 (((x0) ^^^ (-1 : Int32)) &&& ((x0) - (1 : Int32))) >>> (Int32.toUInt32 (16 : Int32) &&& Int32.toUInt32 31)).toInt32) >>> (Int32.toUInt32 (2 : Int32) &&& Int32.toUInt32 31)).toInt32)), (1, .int (1 + 16 + 2))]) dJ6_numberOfTrailingZeros_0f7a4_73 rfl (Nat.le_of_ble_eq_true rfl) rfl ?_
            refine mg_iload_n dJ6_numberOfTrailingZeros_0f7a4_74 rfl 1 rfl ?_
            refine mg_iload_n dJ6_numberOfTrailingZeros_0f7a4_75 rfl 0 rfl ?_
            refine mg_iconst (v := 1) dJ6_numberOfTrailingZeros_0f7a4_76 (by decide) ?_
            refine mg_iushr dJ6_numberOfTrailingZeros_0f7a4_77 ?_
            refine mg_iadd dJ6_numberOfTrailingZeros_0f7a4_78 ?_
            exact me_i dJ6_numberOfTrailingZeros_0f7a4_79 rfl h
        · replace h := h.2 hc
          refine mg_iinc (v := 1 + 16 + 4) (ls' := [(1, .int (1 + 16 + 4)), (0, .int ((Int32.toUInt32 (((x0) ^^^ (-1 : Int32)) &&& ((x0) - (1 : Int32))) >>> (Int32.toUInt32 (16 : Int32) &&& Int32.toUInt32 31)).toInt32))]) dJ6_numberOfTrailingZeros_0f7a4_55 1 rfl rfl (Nat.le_of_ble_eq_true rfl) rfl ?_
          refine mg_iload_n dJ6_numberOfTrailingZeros_0f7a4_58 rfl 1 rfl ?_
          refine mg_iconst (v := 4) dJ6_numberOfTrailingZeros_0f7a4_59 (by decide) ?_
          refine mg_iushr dJ6_numberOfTrailingZeros_0f7a4_60 ?_
          refine mg_istore_n (ls' := [(0, .int ((Int32.toUInt32 ((Int32.toUInt32 (((x0) ^^^ (-1 : Int32)) &&& ((x0) - (1 : Int32))) >>> (Int32.toUInt32 (16 : Int32) &&& Int32.toUInt32 31)).toInt32) >>> (Int32.toUInt32 (4 : Int32) &&& Int32.toUInt32 31)).toInt32)), (1, .int (1 + 16 + 4))]) dJ6_numberOfTrailingZeros_0f7a4_61 rfl (Nat.le_of_ble_eq_true rfl) rfl ?_
          refine mg_iload_n dJ6_numberOfTrailingZeros_0f7a4_62 rfl 0 rfl ?_
          refine mg_iconst (v := 4) dJ6_numberOfTrailingZeros_0f7a4_63 (by decide) ?_
          refine mg_icmp_le (tgt := 74) dJ6_numberOfTrailingZeros_0f7a4_64 (by decide) (fun hc => ?_) (fun hc => ?_)
          · replace h := h.1 hc
            refine mg_iload_n dJ6_numberOfTrailingZeros_0f7a4_74 rfl 1 rfl ?_
            refine mg_iload_n dJ6_numberOfTrailingZeros_0f7a4_75 rfl 0 rfl ?_
            refine mg_iconst (v := 1) dJ6_numberOfTrailingZeros_0f7a4_76 (by decide) ?_
            refine mg_iushr dJ6_numberOfTrailingZeros_0f7a4_77 ?_
            refine mg_iadd dJ6_numberOfTrailingZeros_0f7a4_78 ?_
            exact me_i dJ6_numberOfTrailingZeros_0f7a4_79 rfl h
          · replace h := h.2 hc
            refine mg_iinc (v := 1 + 16 + 4 + 2) (ls' := [(1, .int (1 + 16 + 4 + 2)), (0, .int ((Int32.toUInt32 ((Int32.toUInt32 (((x0) ^^^ (-1 : Int32)) &&& ((x0) - (1 : Int32))) >>> (Int32.toUInt32 (16 : Int32) &&& Int32.toUInt32 31)).toInt32) >>> (Int32.toUInt32 (4 : Int32) &&& Int32.toUInt32 31)).toInt32))]) dJ6_numberOfTrailingZeros_0f7a4_67 1 rfl rfl (Nat.le_of_ble_eq_true rfl) rfl ?_
            refine mg_iload_n dJ6_numberOfTrailingZeros_0f7a4_70 rfl 1 rfl ?_
            refine mg_iconst (v := 2) dJ6_numberOfTrailingZeros_0f7a4_71 (by decide) ?_
            refine mg_iushr dJ6_numberOfTrailingZeros_0f7a4_72 ?_
            refine mg_istore_n (ls' := [(0, .int ((Int32.toUInt32 ((Int32.toUInt32 ((Int32.toUInt32 (((x0) ^^^ (-1 : Int32)) &&& ((x0) - (1 : Int32))) >>> (Int32.toUInt32 (16 : Int32) &&& Int32.toUInt32 31)).toInt32) >>> (Int32.toUInt32 (4 : Int32) &&& Int32.toUInt32 31)).toInt32) >>> (Int32.toUInt32 (2 : Int32) &&& Int32.toUInt32 31)).toInt32)), (1, .int (1 + 16 + 4 + 2))]) dJ6_numberOfTrailingZeros_0f7a4_73 rfl (Nat.le_of_ble_eq_true rfl) rfl ?_
            refine mg_iload_n dJ6_numberOfTrailingZeros_0f7a4_74 rfl 1 rfl ?_
            refine mg_iload_n dJ6_numberOfTrailingZeros_0f7a4_75 rfl 0 rfl ?_
            refine mg_iconst (v := 1) dJ6_numberOfTrailingZeros_0f7a4_76 (by decide) ?_
            refine mg_iushr dJ6_numberOfTrailingZeros_0f7a4_77 ?_
            refine mg_iadd dJ6_numberOfTrailingZeros_0f7a4_78 ?_
            exact me_i dJ6_numberOfTrailingZeros_0f7a4_79 rfl h
      · replace h := h.2 hc
        refine mg_iinc (v := 1 + 16 + 8) (ls' := [(1, .int (1 + 16 + 8)), (0, .int ((Int32.toUInt32 (((x0) ^^^ (-1 : Int32)) &&& ((x0) - (1 : Int32))) >>> (Int32.toUInt32 (16 : Int32) &&& Int32.toUInt32 31)).toInt32))]) dJ6_numberOfTrailingZeros_0f7a4_41 1 rfl rfl (Nat.le_of_ble_eq_true rfl) rfl ?_
        refine mg_iload_n dJ6_numberOfTrailingZeros_0f7a4_44 rfl 1 rfl ?_
        refine mg_bipush (v := 8) dJ6_numberOfTrailingZeros_0f7a4_45 (by decide) ?_
        refine mg_iushr dJ6_numberOfTrailingZeros_0f7a4_47 ?_
        refine mg_istore_n (ls' := [(0, .int ((Int32.toUInt32 ((Int32.toUInt32 (((x0) ^^^ (-1 : Int32)) &&& ((x0) - (1 : Int32))) >>> (Int32.toUInt32 (16 : Int32) &&& Int32.toUInt32 31)).toInt32) >>> (Int32.toUInt32 (8 : Int32) &&& Int32.toUInt32 31)).toInt32)), (1, .int (1 + 16 + 8))]) dJ6_numberOfTrailingZeros_0f7a4_48 rfl (Nat.le_of_ble_eq_true rfl) rfl ?_
        refine mg_iload_n dJ6_numberOfTrailingZeros_0f7a4_49 rfl 0 rfl ?_
        refine mg_bipush (v := 16) dJ6_numberOfTrailingZeros_0f7a4_50 (by decide) ?_
        refine mg_icmp_le (tgt := 62) dJ6_numberOfTrailingZeros_0f7a4_52 (by decide) (fun hc => ?_) (fun hc => ?_)
        · replace h := h.1 hc
          refine mg_iload_n dJ6_numberOfTrailingZeros_0f7a4_62 rfl 0 rfl ?_
          refine mg_iconst (v := 4) dJ6_numberOfTrailingZeros_0f7a4_63 (by decide) ?_
          refine mg_icmp_le (tgt := 74) dJ6_numberOfTrailingZeros_0f7a4_64 (by decide) (fun hc => ?_) (fun hc => ?_)
          · replace h := h.1 hc
            refine mg_iload_n dJ6_numberOfTrailingZeros_0f7a4_74 rfl 1 rfl ?_
            refine mg_iload_n dJ6_numberOfTrailingZeros_0f7a4_75 rfl 0 rfl ?_
            refine mg_iconst (v := 1) dJ6_numberOfTrailingZeros_0f7a4_76 (by decide) ?_
            refine mg_iushr dJ6_numberOfTrailingZeros_0f7a4_77 ?_
            refine mg_iadd dJ6_numberOfTrailingZeros_0f7a4_78 ?_
            exact me_i dJ6_numberOfTrailingZeros_0f7a4_79 rfl h
          · replace h := h.2 hc
            refine mg_iinc (v := 1 + 16 + 8 + 2) (ls' := [(1, .int (1 + 16 + 8 + 2)), (0, .int ((Int32.toUInt32 ((Int32.toUInt32 (((x0) ^^^ (-1 : Int32)) &&& ((x0) - (1 : Int32))) >>> (Int32.toUInt32 (16 : Int32) &&& Int32.toUInt32 31)).toInt32) >>> (Int32.toUInt32 (8 : Int32) &&& Int32.toUInt32 31)).toInt32))]) dJ6_numberOfTrailingZeros_0f7a4_67 1 rfl rfl (Nat.le_of_ble_eq_true rfl) rfl ?_
            refine mg_iload_n dJ6_numberOfTrailingZeros_0f7a4_70 rfl 1 rfl ?_
            refine mg_iconst (v := 2) dJ6_numberOfTrailingZeros_0f7a4_71 (by decide) ?_
            refine mg_iushr dJ6_numberOfTrailingZeros_0f7a4_72 ?_
            refine mg_istore_n (ls' := [(0, .int ((Int32.toUInt32 ((Int32.toUInt32 ((Int32.toUInt32 (((x0) ^^^ (-1 : Int32)) &&& ((x0) - (1 : Int32))) >>> (Int32.toUInt32 (16 : Int32) &&& Int32.toUInt32 31)).toInt32) >>> (Int32.toUInt32 (8 : Int32) &&& Int32.toUInt32 31)).toInt32) >>> (Int32.toUInt32 (2 : Int32) &&& Int32.toUInt32 31)).toInt32)), (1, .int (1 + 16 + 8 + 2))]) dJ6_numberOfTrailingZeros_0f7a4_73 rfl (Nat.le_of_ble_eq_true rfl) rfl ?_
            refine mg_iload_n dJ6_numberOfTrailingZeros_0f7a4_74 rfl 1 rfl ?_
            refine mg_iload_n dJ6_numberOfTrailingZeros_0f7a4_75 rfl 0 rfl ?_
            refine mg_iconst (v := 1) dJ6_numberOfTrailingZeros_0f7a4_76 (by decide) ?_
            refine mg_iushr dJ6_numberOfTrailingZeros_0f7a4_77 ?_
            refine mg_iadd dJ6_numberOfTrailingZeros_0f7a4_78 ?_
            exact me_i dJ6_numberOfTrailingZeros_0f7a4_79 rfl h
        · replace h := h.2 hc
          refine mg_iinc (v := 1 + 16 + 8 + 4) (ls' := [(1, .int (1 + 16 + 8 + 4)), (0, .int ((Int32.toUInt32 ((Int32.toUInt32 (((x0) ^^^ (-1 : Int32)) &&& ((x0) - (1 : Int32))) >>> (Int32.toUInt32 (16 : Int32) &&& Int32.toUInt32 31)).toInt32) >>> (Int32.toUInt32 (8 : Int32) &&& Int32.toUInt32 31)).toInt32))]) dJ6_numberOfTrailingZeros_0f7a4_55 1 rfl rfl (Nat.le_of_ble_eq_true rfl) rfl ?_
          refine mg_iload_n dJ6_numberOfTrailingZeros_0f7a4_58 rfl 1 rfl ?_
          refine mg_iconst (v := 4) dJ6_numberOfTrailingZeros_0f7a4_59 (by decide) ?_
          refine mg_iushr dJ6_numberOfTrailingZeros_0f7a4_60 ?_
          refine mg_istore_n (ls' := [(0, .int ((Int32.toUInt32 ((Int32.toUInt32 ((Int32.toUInt32 (((x0) ^^^ (-1 : Int32)) &&& ((x0) - (1 : Int32))) >>> (Int32.toUInt32 (16 : Int32) &&& Int32.toUInt32 31)).toInt32) >>> (Int32.toUInt32 (8 : Int32) &&& Int32.toUInt32 31)).toInt32) >>> (Int32.toUInt32 (4 : Int32) &&& Int32.toUInt32 31)).toInt32)), (1, .int (1 + 16 + 8 + 4))]) dJ6_numberOfTrailingZeros_0f7a4_61 rfl (Nat.le_of_ble_eq_true rfl) rfl ?_
          refine mg_iload_n dJ6_numberOfTrailingZeros_0f7a4_62 rfl 0 rfl ?_
          refine mg_iconst (v := 4) dJ6_numberOfTrailingZeros_0f7a4_63 (by decide) ?_
          refine mg_icmp_le (tgt := 74) dJ6_numberOfTrailingZeros_0f7a4_64 (by decide) (fun hc => ?_) (fun hc => ?_)
          · replace h := h.1 hc
            refine mg_iload_n dJ6_numberOfTrailingZeros_0f7a4_74 rfl 1 rfl ?_
            refine mg_iload_n dJ6_numberOfTrailingZeros_0f7a4_75 rfl 0 rfl ?_
            refine mg_iconst (v := 1) dJ6_numberOfTrailingZeros_0f7a4_76 (by decide) ?_
            refine mg_iushr dJ6_numberOfTrailingZeros_0f7a4_77 ?_
            refine mg_iadd dJ6_numberOfTrailingZeros_0f7a4_78 ?_
            exact me_i dJ6_numberOfTrailingZeros_0f7a4_79 rfl h
          · replace h := h.2 hc
            refine mg_iinc (v := 1 + 16 + 8 + 4 + 2) (ls' := [(1, .int (1 + 16 + 8 + 4 + 2)), (0, .int ((Int32.toUInt32 ((Int32.toUInt32 ((Int32.toUInt32 (((x0) ^^^ (-1 : Int32)) &&& ((x0) - (1 : Int32))) >>> (Int32.toUInt32 (16 : Int32) &&& Int32.toUInt32 31)).toInt32) >>> (Int32.toUInt32 (8 : Int32) &&& Int32.toUInt32 31)).toInt32) >>> (Int32.toUInt32 (4 : Int32) &&& Int32.toUInt32 31)).toInt32))]) dJ6_numberOfTrailingZeros_0f7a4_67 1 rfl rfl (Nat.le_of_ble_eq_true rfl) rfl ?_
            refine mg_iload_n dJ6_numberOfTrailingZeros_0f7a4_70 rfl 1 rfl ?_
            refine mg_iconst (v := 2) dJ6_numberOfTrailingZeros_0f7a4_71 (by decide) ?_
            refine mg_iushr dJ6_numberOfTrailingZeros_0f7a4_72 ?_
            refine mg_istore_n (ls' := [(0, .int ((Int32.toUInt32 ((Int32.toUInt32 ((Int32.toUInt32 ((Int32.toUInt32 (((x0) ^^^ (-1 : Int32)) &&& ((x0) - (1 : Int32))) >>> (Int32.toUInt32 (16 : Int32) &&& Int32.toUInt32 31)).toInt32) >>> (Int32.toUInt32 (8 : Int32) &&& Int32.toUInt32 31)).toInt32) >>> (Int32.toUInt32 (4 : Int32) &&& Int32.toUInt32 31)).toInt32) >>> (Int32.toUInt32 (2 : Int32) &&& Int32.toUInt32 31)).toInt32)), (1, .int (1 + 16 + 8 + 4 + 2))]) dJ6_numberOfTrailingZeros_0f7a4_73 rfl (Nat.le_of_ble_eq_true rfl) rfl ?_
            refine mg_iload_n dJ6_numberOfTrailingZeros_0f7a4_74 rfl 1 rfl ?_
            refine mg_iload_n dJ6_numberOfTrailingZeros_0f7a4_75 rfl 0 rfl ?_
            refine mg_iconst (v := 1) dJ6_numberOfTrailingZeros_0f7a4_76 (by decide) ?_
            refine mg_iushr dJ6_numberOfTrailingZeros_0f7a4_77 ?_
            refine mg_iadd dJ6_numberOfTrailingZeros_0f7a4_78 ?_
            exact me_i dJ6_numberOfTrailingZeros_0f7a4_79 rfl h
  · replace h := h.2 hc
    refine mg_iload_n dJ6_numberOfTrailingZeros_0f7a4_12 rfl 0 rfl ?_
    refine mg_bipush (v := 32) dJ6_numberOfTrailingZeros_0f7a4_13 (by decide) ?_
    refine mg_iand dJ6_numberOfTrailingZeros_0f7a4_15 ?_
    exact me_i dJ6_numberOfTrailingZeros_0f7a4_16 rfl h
theorem dX9_pairOf_0 : decode cX9_pairOf 0 = .ok (.iconst 1, 1) := by decide +kernel
theorem dX9_pairOf_1 : decode cX9_pairOf 1 = .ok (.iload_n 0, 1) := by decide +kernel
theorem dX9_pairOf_2 : decode cX9_pairOf 2 = .ok (.ishl, 1) := by decide +kernel
theorem dX9_pairOf_3 : decode cX9_pairOf 3 = .ok (.iconst 1, 1) := by decide +kernel
theorem dX9_pairOf_4 : decode cX9_pairOf 4 = .ok (.iload_n 1, 1) := by decide +kernel
theorem dX9_pairOf_5 : decode cX9_pairOf 5 = .ok (.ishl, 1) := by decide +kernel
theorem dX9_pairOf_6 : decode cX9_pairOf 6 = .ok (.ior, 1) := by decide +kernel
theorem dX9_pairOf_7 : decode cX9_pairOf 7 = .ok (.ireturn, 1) := by decide +kernel
abbrev mtX9_pairOf : mj_T := (yX9_pairOf.cls, cX9_pairOf, 2, (some .int), mj_no, yX9_pairOf.name)
abbrev kX9_pairOf (x0 : Int32) (x1 : Int32) (g : mj_S) (M : mj_M) (q : Int32 → mj_M → Prop) : Prop := mj_CI yX9_pairOf (.code yX9_pairOf cX9_pairOf 2 (some .int)) 0 [.int (x0), .int (x1)] g M q
theorem kiX9_pairOf : mj_cS yX9_pairOf cX9_pairOf 2 (some .int) 2 := ⟨⟨wd_613, wd_1, wd_614⟩, ⟨by decide +kernel, by decide +kernel, by decide +kernel⟩, Nat.le_of_ble_eq_true rfl⟩
theorem eX9_pairOf {x0 : Int32} {x1 : Int32} {g : mj_S} {M : mj_M} {q : Int32 → mj_M → Prop}  (h : q (((1 : Int32) <<< ((x0) &&& 31)) ||| ((1 : Int32) <<< ((x1) &&& 31))) (M)) : kX9_pairOf (x0) (x1) g M q := by
  intro d hd; refine mj_enter (by decide +kernel) (Nat.le_of_ble_eq_true rfl) ?_
  generalize (false : Bool) = ex
  show mj_G mtX9_pairOf (mj_rm d 0 0) (mj_Fi (mj_qI g q) mj_x0 0 0) ex 0 0 0 [(0, .int (x0)), (1, .int (x1))] [] g M
  refine mg_iconst (v := 1) dX9_pairOf_0 (by decide) ?_
  refine mg_iload_n dX9_pairOf_1 rfl 0 rfl ?_
  refine mg_ishl dX9_pairOf_2 ?_
  refine mg_iconst (v := 1) dX9_pairOf_3 (by decide) ?_
  refine mg_iload_n dX9_pairOf_4 rfl 1 rfl ?_
  refine mg_ishl dX9_pairOf_5 ?_
  refine mg_ior dX9_pairOf_6 ?_
  exact me_i dX9_pairOf_7 rfl h
theorem dJ0_isLatin1_aae02_0 : decode cJ0_isLatin1_aae02 0 = .ok (.getstatic 38, 3) := by decide +kernel
theorem dJ0_isLatin1_aae02_3 : decode cJ0_isLatin1_aae02 3 = .ok (.ifCond .eq 14, 3) := by decide +kernel
theorem dJ0_isLatin1_aae02_6 : decode cJ0_isLatin1_aae02 6 = .ok (.aload_n 0, 1) := by decide +kernel
theorem dJ0_isLatin1_aae02_7 : decode cJ0_isLatin1_aae02 7 = .ok (.getfield 15, 3) := by decide +kernel
theorem dJ0_isLatin1_aae02_10 : decode cJ0_isLatin1_aae02 10 = .ok (.ifCond .ne 7, 3) := by decide +kernel
theorem dJ0_isLatin1_aae02_13 : decode cJ0_isLatin1_aae02 13 = .ok (.iconst 1, 1) := by decide +kernel
theorem dJ0_isLatin1_aae02_14 : decode cJ0_isLatin1_aae02 14 = .ok (.goto 4, 3) := by decide +kernel
theorem dJ0_isLatin1_aae02_17 : decode cJ0_isLatin1_aae02 17 = .ok (.iconst 0, 1) := by decide +kernel
theorem dJ0_isLatin1_aae02_18 : decode cJ0_isLatin1_aae02 18 = .ok (.ireturn, 1) := by decide +kernel
abbrev mtJ0_isLatin1_aae02 : mj_T := (yJ0_isLatin1_aae02.cls, cJ0_isLatin1_aae02, 1, (some .boolean), mj_no, yJ0_isLatin1_aae02.name)
abbrev kJ0_isLatin1_aae02  (g : mj_S) (M : mj_M) (q : Int32 → mj_M → Prop) : Prop := mj_CI yJ0_isLatin1_aae02 (.code yJ0_isLatin1_aae02 cJ0_isLatin1_aae02 1 (some .boolean)) 0 [.ref (900000)] g M q
theorem kiJ0_isLatin1_aae02 : mj_cV yJ0_isLatin1_aae02 cJ0_isLatin1_aae02 1 (some .boolean) 0 := ⟨⟨wd_1007, wd_1008, wd_20, wd_1009⟩, ⟨by decide +kernel, by decide +kernel, by decide +kernel⟩, Nat.le_of_ble_eq_true rfl⟩
theorem eJ0_isLatin1_aae02  {g : mj_S} {M : mj_M} {q : Int32 → mj_M → Prop}  (h : ((1 : Int32) = 0 → q 0 (M)) ∧ (¬ (1 : Int32) = 0 → (¬ (0 : Int32) = 0 → q 0 (M)) ∧ ((0 : Int32) = 0 → q 1 (M)))) : kJ0_isLatin1_aae02  g M q := by
  intro d hd; refine mj_enter (by decide +kernel) (Nat.le_of_ble_eq_true rfl) ?_
  generalize (false : Bool) = ex
  show mj_G mtJ0_isLatin1_aae02 (mj_rm d 0 0) (mj_Fi (mj_qI g q) mj_x0 0 0) ex 0 0 0 [(0, .ref (900000))] [] g M
  refine mg_compact dJ0_isLatin1_aae02_0 wd_1010 ?_
  refine mg_if_eq (tgt := 17) dJ0_isLatin1_aae02_3 (by decide) (fun hc => ?_) (fun hc => ?_)
  · replace h := h.1 hc
    refine mg_iconst (v := 0) dJ0_isLatin1_aae02_17 (by decide) ?_
    exact me_z dJ0_isLatin1_aae02_18 rfl (Or.inl rfl) h
  · replace h := h.2 hc
    refine mg_aload_n dJ0_isLatin1_aae02_6 rfl 0 rfl ?_
    refine mg_strC dJ0_isLatin1_aae02_7 wd_1844 ?_
    refine mg_if_ne (tgt := 17) dJ0_isLatin1_aae02_10 (by decide) (fun hc => ?_) (fun hc => ?_)
    · replace h := h.1 hc
      refine mg_iconst (v := 0) dJ0_isLatin1_aae02_17 (by decide) ?_
      exact me_z dJ0_isLatin1_aae02_18 rfl (Or.inl rfl) h
    · replace h := h.2 hc
      refine mg_iconst (v := 1) dJ0_isLatin1_aae02_13 (by decide) ?_
      refine mg_goto (tgt := 18) dJ0_isLatin1_aae02_14 (by decide) ?_
      exact me_z dJ0_isLatin1_aae02_18 rfl (Or.inr rfl) h
theorem dJ0_coder_7d493_0 : decode cJ0_coder_7d493 0 = .ok (.getstatic 38, 3) := by decide +kernel
theorem dJ0_coder_7d493_3 : decode cJ0_coder_7d493 3 = .ok (.ifCond .eq 10, 3) := by decide +kernel
theorem dJ0_coder_7d493_6 : decode cJ0_coder_7d493 6 = .ok (.aload_n 0, 1) := by decide +kernel
theorem dJ0_coder_7d493_7 : decode cJ0_coder_7d493 7 = .ok (.getfield 15, 3) := by decide +kernel
theorem dJ0_coder_7d493_10 : decode cJ0_coder_7d493 10 = .ok (.goto 4, 3) := by decide +kernel
theorem dJ0_coder_7d493_13 : decode cJ0_coder_7d493 13 = .ok (.iconst 1, 1) := by decide +kernel
theorem dJ0_coder_7d493_14 : decode cJ0_coder_7d493 14 = .ok (.ireturn, 1) := by decide +kernel
abbrev mtJ0_coder_7d493 : mj_T := (yJ0_coder_7d493.cls, cJ0_coder_7d493, 1, (some .byte), mj_no, yJ0_coder_7d493.name)
abbrev kJ0_coder_7d493  (g : mj_S) (M : mj_M) (q : Int32 → mj_M → Prop) : Prop := mj_CI yJ0_coder_7d493 (.code yJ0_coder_7d493 cJ0_coder_7d493 1 (some .byte)) 0 [.ref (900000)] g M q
theorem kiJ0_coder_7d493 : mj_cV yJ0_coder_7d493 cJ0_coder_7d493 1 (some .byte) 0 := ⟨⟨wd_1017, wd_1018, wd_20, wd_1019⟩, ⟨by decide +kernel, by decide +kernel, by decide +kernel⟩, Nat.le_of_ble_eq_true rfl⟩
theorem eJ0_coder_7d493  {g : mj_S} {M : mj_M} {q : Int32 → mj_M → Prop}  (h : ((1 : Int32) = 0 → q (1) (M)) ∧ (¬ (1 : Int32) = 0 → q (0) (M))) : kJ0_coder_7d493  g M q := by
  intro d hd; refine mj_enter (by decide +kernel) (Nat.le_of_ble_eq_true rfl) ?_
  generalize (false : Bool) = ex
  show mj_G mtJ0_coder_7d493 (mj_rm d 0 0) (mj_Fi (mj_qI g q) mj_x0 0 0) ex 0 0 0 [(0, .ref (900000))] [] g M
  refine mg_compact dJ0_coder_7d493_0 wd_1010 ?_
  refine mg_if_eq (tgt := 13) dJ0_coder_7d493_3 (by decide) (fun hc => ?_) (fun hc => ?_)
  · replace h := h.1 hc
    refine mg_iconst (v := 1) dJ0_coder_7d493_13 (by decide) ?_
    exact me_b dJ0_coder_7d493_14 rfl (by decide +kernel) h
  · replace h := h.2 hc
    refine mg_aload_n dJ0_coder_7d493_6 rfl 0 rfl ?_
    refine mg_strC dJ0_coder_7d493_7 wd_1844 ?_
    refine mg_goto (tgt := 14) dJ0_coder_7d493_10 (by decide) ?_
    exact me_b dJ0_coder_7d493_14 rfl (by decide +kernel) h
theorem dJ0_length_8abf5_0 : decode cJ0_length_8abf5 0 = .ok (.aload_n 0, 1) := by decide +kernel
theorem dJ0_length_8abf5_1 : decode cJ0_length_8abf5 1 = .ok (.getfield 9, 3) := by decide +kernel
theorem dJ0_length_8abf5_4 : decode cJ0_length_8abf5 4 = .ok (.arraylength, 1) := by decide +kernel
theorem dJ0_length_8abf5_5 : decode cJ0_length_8abf5 5 = .ok (.aload_n 0, 1) := by decide +kernel
theorem dJ0_length_8abf5_6 : decode cJ0_length_8abf5 6 = .ok (.invokevirtual 335, 3) := by decide +kernel
theorem dJ0_length_8abf5_9 : decode cJ0_length_8abf5 9 = .ok (.ishr, 1) := by decide +kernel
theorem dJ0_length_8abf5_10 : decode cJ0_length_8abf5 10 = .ok (.ireturn, 1) := by decide +kernel
abbrev mtJ0_length_8abf5 : mj_T := (yJ0_length_8abf5.cls, cJ0_length_8abf5, 1, (some .int), mj_no, yJ0_length_8abf5.name)
abbrev kJ0_length_8abf5  (g : mj_S) (M : mj_M) (q : Int32 → mj_M → Prop) : Prop := mj_CI yJ0_length_8abf5 (.code yJ0_length_8abf5 cJ0_length_8abf5 1 (some .int)) 1 [.ref (900000)] g M q
theorem kiJ0_length_8abf5 : mj_cV yJ0_length_8abf5 cJ0_length_8abf5 1 (some .int) 0 := ⟨⟨wd_1013, wd_1014, wd_20, wd_1015⟩, ⟨by decide +kernel, by decide +kernel, by decide +kernel⟩, Nat.le_of_ble_eq_true rfl⟩
theorem eJ0_length_8abf5  {g : mj_S} {M : mj_M} {q : Int32 → mj_M → Prop}  (h : ∃ (q1 : Int32 → mj_M → Prop), kJ0_coder_7d493  g (M) q1 ∧ ∀ (v1 : Int32) (M1 : mj_M), q1 v1 M1 → (q ((10 : Int32) >>> ((v1) &&& 31)) (M1))) : kJ0_length_8abf5  g M q := by
  intro d hd; refine mj_enter (by decide +kernel) (Nat.le_of_ble_eq_true rfl) ?_
  generalize (false : Bool) = ex
  show mj_G mtJ0_length_8abf5 (mj_rm d 0 0) (mj_Fi (mj_qI g q) mj_x0 0 0) ex 0 0 0 [(0, .ref (900000))] [] g M
  refine mg_aload_n dJ0_length_8abf5_0 rfl 0 rfl ?_
  refine mg_strV dJ0_length_8abf5_1 wd_1845 ?_
  refine mg_strN dJ0_length_8abf5_4 ?_
  refine mg_aload_n dJ0_length_8abf5_5 rfl 0 rfl ?_
  obtain ⟨q1, hC, hk⟩ := h
  refine mc_Ti [] [.int (10)] dJ0_length_8abf5_6 wd_1016 kiJ0_coder_7d493 rfl (Nat.le_of_ble_eq_true rfl) (Nat.le_trans (Nat.le_of_ble_eq_true rfl) hd) hC (fun v1 M1 hq => ?_)
  replace h := hk v1 M1 hq
  refine mg_ishr dJ0_length_8abf5_9 ?_
  exact me_i dJ0_length_8abf5_10 rfl h
theorem dJ1_canEncode_9a6ad_0 : decode cJ1_canEncode_9a6ad 0 = .ok (.iload_n 0, 1) := by decide +kernel
theorem dJ1_canEncode_9a6ad_1 : decode cJ1_canEncode_9a6ad 1 = .ok (.ifCond .lt 14, 3) := by decide +kernel
theorem dJ1_canEncode_9a6ad_4 : decode cJ1_canEncode_9a6ad 4 = .ok (.iload_n 0, 1) := by decide +kernel
theorem dJ1_canEncode_9a6ad_5 : decode cJ1_canEncode_9a6ad 5 = .ok (.sipush 255, 3) := by decide +kernel
theorem dJ1_canEncode_9a6ad_8 : decode cJ1_canEncode_9a6ad 8 = .ok (.if_icmp .gt 7, 3) := by decide +kernel
theorem dJ1_canEncode_9a6ad_11 : decode cJ1_canEncode_9a6ad 11 = .ok (.iconst 1, 1) := by decide +kernel
theorem dJ1_canEncode_9a6ad_12 : decode cJ1_canEncode_9a6ad 12 = .ok (.goto 4, 3) := by decide +kernel
theorem dJ1_canEncode_9a6ad_15 : decode cJ1_canEncode_9a6ad 15 = .ok (.iconst 0, 1) := by decide +kernel
theorem dJ1_canEncode_9a6ad_16 : decode cJ1_canEncode_9a6ad 16 = .ok (.ireturn, 1) := by decide +kernel
abbrev mtJ1_canEncode_9a6ad : mj_T := (yJ1_canEncode_9a6ad.cls, cJ1_canEncode_9a6ad, 1, (some .boolean), mj_no, yJ1_canEncode_9a6ad.name)
abbrev kJ1_canEncode_9a6ad (x0 : Int32) (g : mj_S) (M : mj_M) (q : Int32 → mj_M → Prop) : Prop := mj_CI yJ1_canEncode_9a6ad (.code yJ1_canEncode_9a6ad cJ1_canEncode_9a6ad 1 (some .boolean)) 0 [.int (x0)] g M q
theorem kiJ1_canEncode_9a6ad : mj_cS yJ1_canEncode_9a6ad cJ1_canEncode_9a6ad 1 (some .boolean) 1 := ⟨⟨wd_1024, wd_21, wd_1025⟩, ⟨by decide +kernel, by decide +kernel, by decide +kernel⟩, Nat.le_of_ble_eq_true rfl⟩
theorem eJ1_canEncode_9a6ad {x0 : Int32} {g : mj_S} {M : mj_M} {q : Int32 → mj_M → Prop}  (h : ((x0 : Int32) < 0 → q 0 (M)) ∧ (¬ (x0 : Int32) < 0 → ((255 : Int32) < (x0) → q 0 (M)) ∧ (¬ (255 : Int32) < (x0) → q 1 (M)))) : kJ1_canEncode_9a6ad (x0) g M q := by
  intro d hd; refine mj_enter (by decide +kernel) (Nat.le_of_ble_eq_true rfl) ?_
  generalize (false : Bool) = ex
  show mj_G mtJ1_canEncode_9a6ad (mj_rm d 0 0) (mj_Fi (mj_qI g q) mj_x0 0 0) ex 0 0 0 [(0, .int (x0))] [] g M
  refine mg_iload_n dJ1_canEncode_9a6ad_0 rfl 0 rfl ?_
  refine mg_if_lt (tgt := 15) dJ1_canEncode_9a6ad_1 (by decide) (fun hc => ?_) (fun hc => ?_)
  · replace h := h.1 hc
    refine mg_iconst (v := 0) dJ1_canEncode_9a6ad_15 (by decide) ?_
    exact me_z dJ1_canEncode_9a6ad_16 rfl (Or.inl rfl) h
  · replace h := h.2 hc
    refine mg_iload_n dJ1_canEncode_9a6ad_4 rfl 0 rfl ?_
    refine mg_sipush (v := 255) dJ1_canEncode_9a6ad_5 (by decide) ?_
    refine mg_icmp_gt (tgt := 15) dJ1_canEncode_9a6ad_8 (by decide) (fun hc => ?_) (fun hc => ?_)
    · replace h := h.1 hc
      refine mg_iconst (v := 0) dJ1_canEncode_9a6ad_15 (by decide) ?_
      exact me_z dJ1_canEncode_9a6ad_16 rfl (Or.inl rfl) h
    · replace h := h.2 hc
      refine mg_iconst (v := 1) dJ1_canEncode_9a6ad_11 (by decide) ?_
      refine mg_goto (tgt := 16) dJ1_canEncode_9a6ad_12 (by decide) ?_
      exact me_z dJ1_canEncode_9a6ad_16 rfl (Or.inr rfl) h
theorem dJ1_indexOfChar_4cfef_0 : decode cJ1_indexOfChar_4cfef 0 = .ok (.iload_n 1, 1) := by decide +kernel
theorem dJ1_indexOfChar_4cfef_1 : decode cJ1_indexOfChar_4cfef 1 = .ok (.i2b, 1) := by decide +kernel
theorem dJ1_indexOfChar_4cfef_2 : decode cJ1_indexOfChar_4cfef 2 = .ok (.istore 4, 2) := by decide +kernel
theorem dJ1_indexOfChar_4cfef_4 : decode cJ1_indexOfChar_4cfef 4 = .ok (.iload_n 2, 1) := by decide +kernel
theorem dJ1_indexOfChar_4cfef_5 : decode cJ1_indexOfChar_4cfef 5 = .ok (.istore 5, 2) := by decide +kernel
theorem dJ1_indexOfChar_4cfef_7 : decode cJ1_indexOfChar_4cfef 7 = .ok (.iload 5, 2) := by decide +kernel
theorem dJ1_indexOfChar_4cfef_9 : decode cJ1_indexOfChar_4cfef 9 = .ok (.iload_n 3, 1) := by decide +kernel
theorem dJ1_indexOfChar_4cfef_10 : decode cJ1_indexOfChar_4cfef 10 = .ok (.if_icmp .ge 21, 3) := by decide +kernel
theorem dJ1_indexOfChar_4cfef_13 : decode cJ1_indexOfChar_4cfef 13 = .ok (.aload_n 0, 1) := by decide +kernel
theorem dJ1_indexOfChar_4cfef_14 : decode cJ1_indexOfChar_4cfef 14 = .ok (.iload 5, 2) := by decide +kernel
theorem dJ1_indexOfChar_4cfef_16 : decode cJ1_indexOfChar_4cfef 16 = .ok (.baload, 1) := by decide +kernel
theorem dJ1_indexOfChar_4cfef_17 : decode cJ1_indexOfChar_4cfef 17 = .ok (.iload 4, 2) := by decide +kernel
theorem dJ1_indexOfChar_4cfef_19 : decode cJ1_indexOfChar_4cfef 19 = .ok (.if_icmp .ne 6, 3) := by decide +kernel
theorem dJ1_indexOfChar_4cfef_22 : decode cJ1_indexOfChar_4cfef 22 = .ok (.iload 5, 2) := by decide +kernel
theorem dJ1_indexOfChar_4cfef_24 : decode cJ1_indexOfChar_4cfef 24 = .ok (.ireturn, 1) := by decide +kernel
theorem dJ1_indexOfChar_4cfef_25 : decode cJ1_indexOfChar_4cfef 25 = .ok (.iinc 5 1, 3) := by decide +kernel
theorem dJ1_indexOfChar_4cfef_28 : decode cJ1_indexOfChar_4cfef 28 = .ok (.goto (-21), 3) := by decide +kernel
theorem dJ1_indexOfChar_4cfef_31 : decode cJ1_indexOfChar_4cfef 31 = .ok (.iconst (-1), 1) := by decide +kernel
theorem dJ1_indexOfChar_4cfef_32 : decode cJ1_indexOfChar_4cfef 32 = .ok (.ireturn, 1) := by decide +kernel
abbrev mtJ1_indexOfChar_4cfef : mj_T := (yJ1_indexOfChar_4cfef.cls, cJ1_indexOfChar_4cfef, 6, (some .int), mj_no, yJ1_indexOfChar_4cfef.name)
abbrev kJ1_indexOfChar_4cfef (x1 : Int32) (x2 : Int32) (x3 : Int32) (g : mj_S) (M : mj_M) (q : Int32 → mj_M → Prop) : Prop := mj_CI yJ1_indexOfChar_4cfef (.code yJ1_indexOfChar_4cfef cJ1_indexOfChar_4cfef 6 (some .int)) 0 [.ref (900002), .int (x1), .int (x2), .int (x3)] g M q
theorem kiJ1_indexOfChar_4cfef : mj_cS yJ1_indexOfChar_4cfef cJ1_indexOfChar_4cfef 6 (some .int) 4 := ⟨⟨wd_1029, wd_21, wd_1030⟩, ⟨by decide +kernel, by decide +kernel, by decide +kernel⟩, Nat.le_of_ble_eq_true rfl⟩
def LJ1_indexOfChar_4cfef_7  (x3 : Int32) (x4 : Int32) (x5 : Int32) (g : mj_S) (M : mj_M) (q : Int32 → mj_M → Prop) : Prop := ∀ d, 0 ≤ d → ∀ ex : Bool, mj_G mtJ1_indexOfChar_4cfef (mj_rm d 0 0) (mj_Fi (mj_qI g q) mj_x0 0 0) ex 0 0 7 [(0, .ref (900002)), (3, .int (x3)), (4, .int (x4)), (5, .int (x5))] [] g M
theorem eJ1_indexOfChar_4cfef {x1 : Int32} {x2 : Int32} {x3 : Int32} {g : mj_S} {M : mj_M} {q : Int32 → mj_M → Prop}  (h : LJ1_indexOfChar_4cfef_7  (x3) ((Int32.toInt8 (x1)).toInt32) (x2) g (M) q) : kJ1_indexOfChar_4cfef (x1) (x2) (x3) g M q := by
  intro d hd; refine mj_enter (by decide +kernel) (Nat.le_of_ble_eq_true rfl) ?_
  generalize (false : Bool) = ex
  show mj_G mtJ1_indexOfChar_4cfef (mj_rm d 0 0) (mj_Fi (mj_qI g q) mj_x0 0 0) ex 0 0 0 [(0, .ref (900002)), (1, .int (x1)), (2, .int (x2)), (3, .int (x3))] [] g M
  refine mg_iload_n dJ1_indexOfChar_4cfef_0 rfl 1 rfl ?_
  refine mg_i2b dJ1_indexOfChar_4cfef_1 ?_
  refine mg_istore (ls' := [(4, .int ((Int32.toInt8 (x1)).toInt32)), (0, .ref (900002)), (1, .int (x1)), (2, .int (x2)), (3, .int (x3))]) dJ1_indexOfChar_4cfef_2 (Nat.le_of_ble_eq_true rfl) rfl ?_
  refine mg_iload_n dJ1_indexOfChar_4cfef_4 rfl 3 rfl ?_
  refine mg_istore (ls' := [(5, .int (x2)), (4, .int ((Int32.toInt8 (x1)).toInt32)), (0, .ref (900002)), (1, .int (x1)), (2, .int (x2)), (3, .int (x3))]) dJ1_indexOfChar_4cfef_5 (Nat.le_of_ble_eq_true rfl) rfl ?_
  exact mg_pick [2, 5, 1, 0] rfl (h d hd ex)
theorem bJ1_indexOfChar_4cfef_7  {x3 : Int32} {x4 : Int32} {x5 : Int32} {g : mj_S} {M : mj_M} {q : Int32 → mj_M → Prop}  (h : ((x3 : Int32) ≤ (x5) → q ((-1)) (M)) ∧ (¬ (x3 : Int32) ≤ (x5) → vp_in (x5) 10 ∧ ((¬ (mj_let.getD (Int32.toNatClampNeg (x5)) 0 : Int32) = (x4) → LJ1_indexOfChar_4cfef_7  (x3) (x4) (x5 + 1) g (M) q) ∧ ((mj_let.getD (Int32.toNatClampNeg (x5)) 0 : Int32) = (x4) → q (x5) (M))))) : LJ1_indexOfChar_4cfef_7  x3 x4 x5 g M q := by
  intro d hd ex
  refine mg_iload dJ1_indexOfChar_4cfef_7 3 rfl ?_
  refine mg_iload_n dJ1_indexOfChar_4cfef_9 rfl 1 rfl ?_
  refine mg_icmp_ge (tgt := 31) dJ1_indexOfChar_4cfef_10 (by decide) (fun hc => ?_) (fun hc => ?_)
  · replace h := h.1 hc
    refine mg_iconst (v := (-1)) dJ1_indexOfChar_4cfef_31 (by decide) ?_
    exact me_i dJ1_indexOfChar_4cfef_32 rfl h
  · replace h := h.2 hc
    refine mg_aload_n dJ1_indexOfChar_4cfef_13 rfl 0 rfl ?_
    refine mg_iload dJ1_indexOfChar_4cfef_14 3 rfl ?_
    refine mg_strL dJ1_indexOfChar_4cfef_16 h.1 ?_
    replace h := h.2
    refine mg_iload dJ1_indexOfChar_4cfef_17 2 rfl ?_
    refine mg_icmp_ne (tgt := 25) dJ1_indexOfChar_4cfef_19 (by decide) (fun hc => ?_) (fun hc => ?_)
    · replace h := h.1 hc
      refine mg_iinc (v := x5 + 1) (ls' := [(5, .int (x5 + 1)), (0, .ref (900002)), (3, .int (x3)), (4, .int (x4))]) dJ1_indexOfChar_4cfef_25 3 rfl rfl (Nat.le_of_ble_eq_true rfl) rfl ?_
      refine mg_goto (tgt := 7) dJ1_indexOfChar_4cfef_28 (by decide) ?_
      exact mg_pick [1, 2, 3, 0] rfl (h d hd ex)
    · replace h := h.2 hc
      refine mg_iload dJ1_indexOfChar_4cfef_22 3 rfl ?_
      exact me_i dJ1_indexOfChar_4cfef_24 rfl h
theorem dJ1_indexOf_4cfef_0 : decode cJ1_indexOf_4cfef 0 = .ok (.iload_n 1, 1) := by decide +kernel
theorem dJ1_indexOf_4cfef_1 : decode cJ1_indexOf_4cfef 1 = .ok (.invokestatic 88, 3) := by decide +kernel
theorem dJ1_indexOf_4cfef_4 : decode cJ1_indexOf_4cfef 4 = .ok (.ifCond .ne 5, 3) := by decide +kernel
theorem dJ1_indexOf_4cfef_7 : decode cJ1_indexOf_4cfef 7 = .ok (.iconst (-1), 1) := by decide +kernel
theorem dJ1_indexOf_4cfef_8 : decode cJ1_indexOf_4cfef 8 = .ok (.ireturn, 1) := by decide +kernel
theorem dJ1_indexOf_4cfef_9 : decode cJ1_indexOf_4cfef 9 = .ok (.iload_n 2, 1) := by decide +kernel
theorem dJ1_indexOf_4cfef_10 : decode cJ1_indexOf_4cfef 10 = .ok (.iconst 0, 1) := by decide +kernel
theorem dJ1_indexOf_4cfef_11 : decode cJ1_indexOf_4cfef 11 = .ok (.invokestatic 92, 3) := by decide +kernel
theorem dJ1_indexOf_4cfef_14 : decode cJ1_indexOf_4cfef 14 = .ok (.istore_n 2, 1) := by decide +kernel
theorem dJ1_indexOf_4cfef_15 : decode cJ1_indexOf_4cfef 15 = .ok (.iload_n 3, 1) := by decide +kernel
theorem dJ1_indexOf_4cfef_16 : decode cJ1_indexOf_4cfef 16 = .ok (.aload_n 0, 1) := by decide +kernel
theorem dJ1_indexOf_4cfef_17 : decode cJ1_indexOf_4cfef 17 = .ok (.arraylength, 1) := by decide +kernel
theorem dJ1_indexOf_4cfef_18 : decode cJ1_indexOf_4cfef 18 = .ok (.invokestatic 38, 3) := by decide +kernel
theorem dJ1_indexOf_4cfef_21 : decode cJ1_indexOf_4cfef 21 = .ok (.istore_n 3, 1) := by decide +kernel
theorem dJ1_indexOf_4cfef_22 : decode cJ1_indexOf_4cfef 22 = .ok (.iload_n 2, 1) := by decide +kernel
theorem dJ1_indexOf_4cfef_23 : decode cJ1_indexOf_4cfef 23 = .ok (.iload_n 3, 1) := by decide +kernel
theorem dJ1_indexOf_4cfef_24 : decode cJ1_indexOf_4cfef 24 = .ok (.if_icmp .lt 5, 3) := by decide +kernel
theorem dJ1_indexOf_4cfef_27 : decode cJ1_indexOf_4cfef 27 = .ok (.iconst (-1), 1) := by decide +kernel
theorem dJ1_indexOf_4cfef_28 : decode cJ1_indexOf_4cfef 28 = .ok (.ireturn, 1) := by decide +kernel
theorem dJ1_indexOf_4cfef_29 : decode cJ1_indexOf_4cfef 29 = .ok (.aload_n 0, 1) := by decide +kernel
theorem dJ1_indexOf_4cfef_30 : decode cJ1_indexOf_4cfef 30 = .ok (.iload_n 1, 1) := by decide +kernel
theorem dJ1_indexOf_4cfef_31 : decode cJ1_indexOf_4cfef 31 = .ok (.iload_n 2, 1) := by decide +kernel
theorem dJ1_indexOf_4cfef_32 : decode cJ1_indexOf_4cfef 32 = .ok (.iload_n 3, 1) := by decide +kernel
theorem dJ1_indexOf_4cfef_33 : decode cJ1_indexOf_4cfef 33 = .ok (.invokestatic 95, 3) := by decide +kernel
theorem dJ1_indexOf_4cfef_36 : decode cJ1_indexOf_4cfef 36 = .ok (.ireturn, 1) := by decide +kernel
abbrev mtJ1_indexOf_4cfef : mj_T := (yJ1_indexOf_4cfef.cls, cJ1_indexOf_4cfef, 4, (some .int), mj_no, yJ1_indexOf_4cfef.name)
abbrev kJ1_indexOf_4cfef (x1 : Int32) (x2 : Int32) (x3 : Int32) (g : mj_S) (M : mj_M) (q : Int32 → mj_M → Prop) : Prop := mj_CI yJ1_indexOf_4cfef (.code yJ1_indexOf_4cfef cJ1_indexOf_4cfef 4 (some .int)) 1 [.ref (900002), .int (x1), .int (x2), .int (x3)] g M q
theorem kiJ1_indexOf_4cfef : mj_cS yJ1_indexOf_4cfef cJ1_indexOf_4cfef 4 (some .int) 4 := ⟨⟨wd_1021, wd_21, wd_1022⟩, ⟨by decide +kernel, by decide +kernel, by decide +kernel⟩, Nat.le_of_ble_eq_true rfl⟩
theorem eJ1_indexOf_4cfef {x1 : Int32} {x2 : Int32} {x3 : Int32} {g : mj_S} {M : mj_M} {q : Int32 → mj_M → Prop}  (h : ∃ (q1 : Int32 → mj_M → Prop), kJ1_canEncode_9a6ad (x1) g (M) q1 ∧ ∀ (v1 : Int32) (M1 : mj_M), q1 v1 M1 → ((¬ (v1 : Int32) = 0 → ((if (x2) < (0 : Int32) then (0 : Int32) else (x2) : Int32) < (if (10 : Int32) < (x3) then (10 : Int32) else (x3)) → ∃ (q2 : Int32 → mj_M → Prop), kJ1_indexOfChar_4cfef (x1) (if (x2) < (0 : Int32) then (0 : Int32) else (x2)) (if (10 : Int32) < (x3) then (10 : Int32) else (x3)) g (M1) q2 ∧ ∀ (v2 : Int32) (M2 : mj_M), q2 v2 M2 → (q (v2) (M2))) ∧ (¬ (if (x2) < (0 : Int32) then (0 : Int32) else (x2) : Int32) < (if (10 : Int32) < (x3) then (10 : Int32) else (x3)) → q ((-1)) (M1))) ∧ ((v1 : Int32) = 0 → q ((-1)) (M1)))) : kJ1_indexOf_4cfef (x1) (x2) (x3) g M q := by
  intro d hd; refine mj_enter (by decide +kernel) (Nat.le_of_ble_eq_true rfl) ?_
  generalize (false : Bool) = ex
  show mj_G mtJ1_indexOf_4cfef (mj_rm d 0 0) (mj_Fi (mj_qI g q) mj_x0 0 0) ex 0 0 0 [(0, .ref (900002)), (1, .int (x1)), (2, .int (x2)), (3, .int (x3))] [] g M
  refine mg_iload_n dJ1_indexOf_4cfef_0 rfl 1 rfl ?_
  obtain ⟨q1, hC, hk⟩ := h
  refine mc_Si [.int (x1)] [] dJ1_indexOf_4cfef_1 wd_1023 kiJ1_canEncode_9a6ad (Nat.le_of_ble_eq_true rfl) (Nat.le_trans (Nat.le_of_ble_eq_true rfl) hd) hC (fun v1 M1 hq => ?_)
  replace h := hk v1 M1 hq
  refine mg_if_ne (tgt := 9) dJ1_indexOf_4cfef_4 (by decide) (fun hc => ?_) (fun hc => ?_)
  · replace h := h.1 hc
    refine mg_iload_n dJ1_indexOf_4cfef_9 rfl 2 rfl ?_
    refine mg_iconst (v := 0) dJ1_indexOf_4cfef_10 (by decide) ?_
    refine mg_mmax dJ1_indexOf_4cfef_11 wd_1026 (Nat.le_trans (Nat.le_of_ble_eq_true rfl) hd) (Nat.le_of_ble_eq_true rfl) ?_
    refine mg_istore_n (ls' := [(2, .int (if (x2) < (0 : Int32) then (0 : Int32) else (x2))), (0, .ref (900002)), (1, .int (x1)), (3, .int (x3))]) dJ1_indexOf_4cfef_14 rfl (Nat.le_of_ble_eq_true rfl) rfl ?_
    refine mg_iload_n dJ1_indexOf_4cfef_15 rfl 3 rfl ?_
    refine mg_aload_n dJ1_indexOf_4cfef_16 rfl 1 rfl ?_
    refine mg_strN dJ1_indexOf_4cfef_17 ?_
    refine mg_mmin dJ1_indexOf_4cfef_18 wd_1027 (Nat.le_trans (Nat.le_of_ble_eq_true rfl) hd) (Nat.le_of_ble_eq_true rfl) ?_
    refine mg_istore_n (ls' := [(3, .int (if (10 : Int32) < (x3) then (10 : Int32) else (x3))), (2, .int (if (x2) < (0 : Int32) then (0 : Int32) else (x2))), (0, .ref (900002)), (1, .int (x1))]) dJ1_indexOf_4cfef_21 rfl (Nat.le_of_ble_eq_true rfl) rfl ?_
    refine mg_iload_n dJ1_indexOf_4cfef_22 rfl 1 rfl ?_
    refine mg_iload_n dJ1_indexOf_4cfef_23 rfl 0 rfl ?_
    refine mg_icmp_lt (tgt := 29) dJ1_indexOf_4cfef_24 (by decide) (fun hc => ?_) (fun hc => ?_)
    · replace h := h.1 hc
      refine mg_aload_n dJ1_indexOf_4cfef_29 rfl 2 rfl ?_
      refine mg_iload_n dJ1_indexOf_4cfef_30 rfl 3 rfl ?_
      refine mg_iload_n dJ1_indexOf_4cfef_31 rfl 1 rfl ?_
      refine mg_iload_n dJ1_indexOf_4cfef_32 rfl 0 rfl ?_
      obtain ⟨q2, hC, hk⟩ := h
      refine mc_Si [.ref (900002), .int (x1), .int (if (x2) < (0 : Int32) then (0 : Int32) else (x2)), .int (if (10 : Int32) < (x3) then (10 : Int32) else (x3))] [] dJ1_indexOf_4cfef_33 wd_1028 kiJ1_indexOfChar_4cfef (Nat.le_of_ble_eq_true rfl) (Nat.le_trans (Nat.le_of_ble_eq_true rfl) hd) hC (fun v2 M2 hq => ?_)
      replace h := hk v2 M2 hq
      exact me_i dJ1_indexOf_4cfef_36 rfl h
    · replace h := h.2 hc
      refine mg_iconst (v := (-1)) dJ1_indexOf_4cfef_27 (by decide) ?_
      exact me_i dJ1_indexOf_4cfef_28 rfl h
  · replace h := h.2 hc
    refine mg_iconst (v := (-1)) dJ1_indexOf_4cfef_7 (by decide) ?_
    exact me_i dJ1_indexOf_4cfef_8 rfl h
theorem dJ0_indexOf_7cf53_0 : decode cJ0_indexOf_7cf53 0 = .ok (.aload_n 0, 1) := by decide +kernel
theorem dJ0_indexOf_7cf53_1 : decode cJ0_indexOf_7cf53 1 = .ok (.invokevirtual 492, 3) := by decide +kernel
theorem dJ0_indexOf_7cf53_4 : decode cJ0_indexOf_7cf53 4 = .ok (.ifCond .eq 19, 3) := by decide +kernel
theorem dJ0_indexOf_7cf53_7 : decode cJ0_indexOf_7cf53 7 = .ok (.aload_n 0, 1) := by decide +kernel
theorem dJ0_indexOf_7cf53_8 : decode cJ0_indexOf_7cf53 8 = .ok (.getfield 9, 3) := by decide +kernel
theorem dJ0_indexOf_7cf53_11 : decode cJ0_indexOf_7cf53 11 = .ok (.iload_n 1, 1) := by decide +kernel
theorem dJ0_indexOf_7cf53_12 : decode cJ0_indexOf_7cf53 12 = .ok (.iload_n 2, 1) := by decide +kernel
theorem dJ0_indexOf_7cf53_13 : decode cJ0_indexOf_7cf53 13 = .ok (.aload_n 0, 1) := by decide +kernel
theorem dJ0_indexOf_7cf53_14 : decode cJ0_indexOf_7cf53 14 = .ok (.invokevirtual 505, 3) := by decide +kernel
theorem dJ0_indexOf_7cf53_17 : decode cJ0_indexOf_7cf53 17 = .ok (.invokestatic 637, 3) := by decide +kernel
theorem dJ0_indexOf_7cf53_20 : decode cJ0_indexOf_7cf53 20 = .ok (.goto 16, 3) := by decide +kernel
theorem dJ0_indexOf_7cf53_23 : decode cJ0_indexOf_7cf53 23 = .ok (.aload_n 0, 1) := by decide +kernel
theorem dJ0_indexOf_7cf53_24 : decode cJ0_indexOf_7cf53 24 = .ok (.getfield 9, 3) := by decide +kernel
theorem dJ0_indexOf_7cf53_27 : decode cJ0_indexOf_7cf53 27 = .ok (.iload_n 1, 1) := by decide +kernel
theorem dJ0_indexOf_7cf53_28 : decode cJ0_indexOf_7cf53 28 = .ok (.iload_n 2, 1) := by decide +kernel
theorem dJ0_indexOf_7cf53_29 : decode cJ0_indexOf_7cf53 29 = .ok (.aload_n 0, 1) := by decide +kernel
theorem dJ0_indexOf_7cf53_30 : decode cJ0_indexOf_7cf53 30 = .ok (.invokevirtual 505, 3) := by decide +kernel
theorem dJ0_indexOf_7cf53_33 : decode cJ0_indexOf_7cf53 33 = .ok (.invokestatic 640, 3) := by decide +kernel
theorem dJ0_indexOf_7cf53_36 : decode cJ0_indexOf_7cf53 36 = .ok (.ireturn, 1) := by decide +kernel
abbrev mtJ0_indexOf_7cf53 : mj_T := (yJ0_indexOf_7cf53.cls, cJ0_indexOf_7cf53, 3, (some .int), mj_no, yJ0_indexOf_7cf53.name)
abbrev kJ0_indexOf_7cf53 (x1 : Int32) (x2 : Int32) (g : mj_S) (M : mj_M) (q : Int32 → mj_M → Prop) : Prop := mj_CI yJ0_indexOf_7cf53 (.code yJ0_indexOf_7cf53 cJ0_indexOf_7cf53 3 (some .int)) 2 [.ref (900000), .int (x1), .int (x2)] g M q
theorem kiJ0_indexOf_7cf53 : mj_cV yJ0_indexOf_7cf53 cJ0_indexOf_7cf53 3 (some .int) 2 := ⟨⟨wd_1003, wd_1004, wd_20, wd_1005⟩, ⟨by decide +kernel, by decide +kernel, by decide +kernel⟩, Nat.le_of_ble_eq_true rfl⟩
theorem eJ0_indexOf_7cf53 {x1 : Int32} {x2 : Int32} {g : mj_S} {M : mj_M} {q : Int32 → mj_M → Prop}  (h : ∃ (q1 : Int32 → mj_M → Prop), kJ0_isLatin1_aae02  g (M) q1 ∧ ∀ (v1 : Int32) (M1 : mj_M), q1 v1 M1 → (((v1 : Int32) = 0 → False) ∧ (¬ (v1 : Int32) = 0 → ∃ (q2 : Int32 → mj_M → Prop), kJ0_length_8abf5  g (M1) q2 ∧ ∀ (v2 : Int32) (M2 : mj_M), q2 v2 M2 → (∃ (q3 : Int32 → mj_M → Prop), kJ1_indexOf_4cfef (x1) (x2) (v2) g (M2) q3 ∧ ∀ (v3 : Int32) (M3 : mj_M), q3 v3 M3 → (q (v3) (M3)))))) : kJ0_indexOf_7cf53 (x1) (x2) g M q := by
  intro d hd; refine mj_enter (by decide +kernel) (Nat.le_of_ble_eq_true rfl) ?_
  generalize (false : Bool) = ex
  show mj_G mtJ0_indexOf_7cf53 (mj_rm d 0 0) (mj_Fi (mj_qI g q) mj_x0 0 0) ex 0 0 0 [(0, .ref (900000)), (1, .int (x1)), (2, .int (x2))] [] g M
  refine mg_aload_n dJ0_indexOf_7cf53_0 rfl 0 rfl ?_
  obtain ⟨q1, hC, hk⟩ := h
  refine mc_Ti [] [] dJ0_indexOf_7cf53_1 wd_1006 kiJ0_isLatin1_aae02 rfl (Nat.le_of_ble_eq_true rfl) (Nat.le_trans (Nat.le_of_ble_eq_true rfl) hd) hC (fun v1 M1 hq => ?_)
  replace h := hk v1 M1 hq
  refine mg_if_eq (tgt := 23) dJ0_indexOf_7cf53_4 (by decide) (fun hc => ?_) (fun hc => ?_)
  · replace h := h.1 hc
    exact h.elim
  · replace h := h.2 hc
    refine mg_aload_n dJ0_indexOf_7cf53_7 rfl 0 rfl ?_
    refine mg_strV dJ0_indexOf_7cf53_8 wd_1845 ?_
    refine mg_iload_n dJ0_indexOf_7cf53_11 rfl 1 rfl ?_
    refine mg_iload_n dJ0_indexOf_7cf53_12 rfl 2 rfl ?_
    refine mg_aload_n dJ0_indexOf_7cf53_13 rfl 0 rfl ?_
    obtain ⟨q2, hC, hk⟩ := h
    refine mc_Ti [] [.int (x2), .int (x1), .ref (900002)] dJ0_indexOf_7cf53_14 wd_1012 kiJ0_length_8abf5 rfl (Nat.le_of_ble_eq_true rfl) (Nat.le_trans (Nat.le_of_ble_eq_true rfl) hd) hC (fun v2 M2 hq => ?_)
    replace h := hk v2 M2 hq
    obtain ⟨q3, hC, hk⟩ := h
    refine mc_Si [.ref (900002), .int (x1), .int (x2), .int (v2)] [] dJ0_indexOf_7cf53_17 wd_1020 kiJ1_indexOf_4cfef (Nat.le_of_ble_eq_true rfl) (Nat.le_trans (Nat.le_of_ble_eq_true rfl) hd) hC (fun v3 M3 hq => ?_)
    replace h := hk v3 M3 hq
    refine mg_goto (tgt := 36) dJ0_indexOf_7cf53_20 (by decide) ?_
    exact me_i dJ0_indexOf_7cf53_36 rfl h
theorem dJ0_indexOf_0f7a4_0 : decode cJ0_indexOf_0f7a4 0 = .ok (.aload_n 0, 1) := by decide +kernel
theorem dJ0_indexOf_0f7a4_1 : decode cJ0_indexOf_0f7a4 1 = .ok (.iload_n 1, 1) := by decide +kernel
theorem dJ0_indexOf_0f7a4_2 : decode cJ0_indexOf_0f7a4 2 = .ok (.iconst 0, 1) := by decide +kernel
theorem dJ0_indexOf_0f7a4_3 : decode cJ0_indexOf_0f7a4 3 = .ok (.invokevirtual 633, 3) := by decide +kernel
theorem dJ0_indexOf_0f7a4_6 : decode cJ0_indexOf_0f7a4 6 = .ok (.ireturn, 1) := by decide +kernel
abbrev mtJ0_indexOf_0f7a4 : mj_T := (yJ0_indexOf_0f7a4.cls, cJ0_indexOf_0f7a4, 2, (some .int), mj_no, yJ0_indexOf_0f7a4.name)
abbrev kJ0_indexOf_0f7a4 (x1 : Int32) (g : mj_S) (M : mj_M) (q : Int32 → mj_M → Prop) : Prop := mj_CI yJ0_indexOf_0f7a4 (.code yJ0_indexOf_0f7a4 cJ0_indexOf_0f7a4 2 (some .int)) 3 [.ref (900000), .int (x1)] g M q
theorem kiJ0_indexOf_0f7a4 : mj_cV yJ0_indexOf_0f7a4 cJ0_indexOf_0f7a4 2 (some .int) 1 := ⟨⟨wd_999, wd_1000, wd_20, wd_1001⟩, ⟨by decide +kernel, by decide +kernel, by decide +kernel⟩, Nat.le_of_ble_eq_true rfl⟩
theorem eJ0_indexOf_0f7a4 {x1 : Int32} {g : mj_S} {M : mj_M} {q : Int32 → mj_M → Prop}  (h : ∃ (q1 : Int32 → mj_M → Prop), kJ0_indexOf_7cf53 (x1) (0) g (M) q1 ∧ ∀ (v1 : Int32) (M1 : mj_M), q1 v1 M1 → (q (v1) (M1))) : kJ0_indexOf_0f7a4 (x1) g M q := by
  intro d hd; refine mj_enter (by decide +kernel) (Nat.le_of_ble_eq_true rfl) ?_
  generalize (false : Bool) = ex
  show mj_G mtJ0_indexOf_0f7a4 (mj_rm d 0 0) (mj_Fi (mj_qI g q) mj_x0 0 0) ex 0 0 0 [(0, .ref (900000)), (1, .int (x1))] [] g M
  refine mg_aload_n dJ0_indexOf_0f7a4_0 rfl 0 rfl ?_
  refine mg_iload_n dJ0_indexOf_0f7a4_1 rfl 1 rfl ?_
  refine mg_iconst (v := 0) dJ0_indexOf_0f7a4_2 (by decide) ?_
  obtain ⟨q1, hC, hk⟩ := h
  refine mc_Ti [.int (x1), .int (0)] [] dJ0_indexOf_0f7a4_3 wd_1002 kiJ0_indexOf_7cf53 rfl (Nat.le_of_ble_eq_true rfl) (Nat.le_trans (Nat.le_of_ble_eq_true rfl) hd) hC (fun v1 M1 hq => ?_)
  replace h := hk v1 M1 hq
  exact me_i dJ0_indexOf_0f7a4_6 rfl h
theorem dX9_variablesOf_0 : decode cX9_variablesOf 0 = .ok (.iload_n 0, 1) := by decide +kernel
theorem dX9_variablesOf_1 : decode cX9_variablesOf 1 = .ok (.ldc_w 385, 3) := by decide +kernel
theorem dX9_variablesOf_4 : decode cX9_variablesOf 4 = .ok (.iand, 1) := by decide +kernel
theorem dX9_variablesOf_5 : decode cX9_variablesOf 5 = .ok (.istore_n 1, 1) := by decide +kernel
theorem dX9_variablesOf_6 : decode cX9_variablesOf 6 = .ok (.iload_n 1, 1) := by decide +kernel
theorem dX9_variablesOf_7 : decode cX9_variablesOf 7 = .ok (.iload_n 1, 1) := by decide +kernel
theorem dX9_variablesOf_8 : decode cX9_variablesOf 8 = .ok (.iconst 1, 1) := by decide +kernel
theorem dX9_variablesOf_9 : decode cX9_variablesOf 9 = .ok (.ishr, 1) := by decide +kernel
theorem dX9_variablesOf_10 : decode cX9_variablesOf 10 = .ok (.ior, 1) := by decide +kernel
theorem dX9_variablesOf_11 : decode cX9_variablesOf 11 = .ok (.ldc_w 383, 3) := by decide +kernel
theorem dX9_variablesOf_14 : decode cX9_variablesOf 14 = .ok (.iand, 1) := by decide +kernel
theorem dX9_variablesOf_15 : decode cX9_variablesOf 15 = .ok (.istore_n 1, 1) := by decide +kernel
theorem dX9_variablesOf_16 : decode cX9_variablesOf 16 = .ok (.iload_n 1, 1) := by decide +kernel
theorem dX9_variablesOf_17 : decode cX9_variablesOf 17 = .ok (.iload_n 1, 1) := by decide +kernel
theorem dX9_variablesOf_18 : decode cX9_variablesOf 18 = .ok (.iconst 2, 1) := by decide +kernel
theorem dX9_variablesOf_19 : decode cX9_variablesOf 19 = .ok (.ishr, 1) := by decide +kernel
theorem dX9_variablesOf_20 : decode cX9_variablesOf 20 = .ok (.ior, 1) := by decide +kernel
theorem dX9_variablesOf_21 : decode cX9_variablesOf 21 = .ok (.ldc_w 382, 3) := by decide +kernel
theorem dX9_variablesOf_24 : decode cX9_variablesOf 24 = .ok (.iand, 1) := by decide +kernel
theorem dX9_variablesOf_25 : decode cX9_variablesOf 25 = .ok (.istore_n 1, 1) := by decide +kernel
theorem dX9_variablesOf_26 : decode cX9_variablesOf 26 = .ok (.iload_n 1, 1) := by decide +kernel
theorem dX9_variablesOf_27 : decode cX9_variablesOf 27 = .ok (.iload_n 1, 1) := by decide +kernel
theorem dX9_variablesOf_28 : decode cX9_variablesOf 28 = .ok (.iconst 4, 1) := by decide +kernel
theorem dX9_variablesOf_29 : decode cX9_variablesOf 29 = .ok (.ishr, 1) := by decide +kernel
theorem dX9_variablesOf_30 : decode cX9_variablesOf 30 = .ok (.ior, 1) := by decide +kernel
theorem dX9_variablesOf_31 : decode cX9_variablesOf 31 = .ok (.ldc_w 381, 3) := by decide +kernel
theorem dX9_variablesOf_34 : decode cX9_variablesOf 34 = .ok (.iand, 1) := by decide +kernel
theorem dX9_variablesOf_35 : decode cX9_variablesOf 35 = .ok (.istore_n 1, 1) := by decide +kernel
theorem dX9_variablesOf_36 : decode cX9_variablesOf 36 = .ok (.iload_n 1, 1) := by decide +kernel
theorem dX9_variablesOf_37 : decode cX9_variablesOf 37 = .ok (.iload_n 1, 1) := by decide +kernel
theorem dX9_variablesOf_38 : decode cX9_variablesOf 38 = .ok (.bipush 8, 2) := by decide +kernel
theorem dX9_variablesOf_40 : decode cX9_variablesOf 40 = .ok (.ishr, 1) := by decide +kernel
theorem dX9_variablesOf_41 : decode cX9_variablesOf 41 = .ok (.ior, 1) := by decide +kernel
theorem dX9_variablesOf_42 : decode cX9_variablesOf 42 = .ok (.sipush 1023, 3) := by decide +kernel
theorem dX9_variablesOf_45 : decode cX9_variablesOf 45 = .ok (.iand, 1) := by decide +kernel
theorem dX9_variablesOf_46 : decode cX9_variablesOf 46 = .ok (.ireturn, 1) := by decide +kernel
abbrev mtX9_variablesOf : mj_T := (yX9_variablesOf.cls, cX9_variablesOf, 2, (some .int), mj_no, yX9_variablesOf.name)
abbrev kX9_variablesOf (x0 : Int32) (g : mj_S) (M : mj_M) (q : Int32 → mj_M → Prop) : Prop := mj_CI yX9_variablesOf (.code yX9_variablesOf cX9_variablesOf 2 (some .int)) 0 [.int (x0)] g M q
theorem kiX9_variablesOf : mj_cS yX9_variablesOf cX9_variablesOf 2 (some .int) 1 := ⟨⟨wd_656, wd_1, wd_657⟩, ⟨by decide +kernel, by decide +kernel, by decide +kernel⟩, Nat.le_of_ble_eq_true rfl⟩
theorem eX9_variablesOf {x0 : Int32} {g : mj_S} {M : mj_M} {q : Int32 → mj_M → Prop}  (h : q ((((((((((x0) &&& (349525 : Int32)) ||| (((x0) &&& (349525 : Int32)) >>> ((1 : Int32) &&& 31))) &&& (858993459 : Int32)) ||| (((((x0) &&& (349525 : Int32)) ||| (((x0) &&& (349525 : Int32)) >>> ((1 : Int32) &&& 31))) &&& (858993459 : Int32)) >>> ((2 : Int32) &&& 31))) &&& (252645135 : Int32)) ||| (((((((x0) &&& (349525 : Int32)) ||| (((x0) &&& (349525 : Int32)) >>> ((1 : Int32) &&& 31))) &&& (858993459 : Int32)) ||| (((((x0) &&& (349525 : Int32)) ||| (((x0) &&& (349525 : Int32)) >>> ((1 : Int32) &&& 31))) &&& (858993459 : Int32)) >>> ((2 : Int32) &&& 31))) &&& (252645135 : Int32)) >>> ((4 : Int32) &&& 31))) &&& (16711935 : Int32)) ||| (((((((((x0) &&& (349525 : Int32)) ||| (((x0) &&& (349525 : Int32)) >>> ((1 : Int32) &&& 31))) &&& (858993459 : Int32)) ||| (((((x0) &&& (349525 : Int32)) ||| (((x0) &&& (349525 : Int32)) >>> ((1 : Int32) &&& 31))) &&& (858993459 : Int32)) >>> ((2 : Int32) &&& 31))) &&& (252645135 : Int32)) ||| (((((((x0) &&& (349525 : Int32)) ||| (((x0) &&& (349525 : Int32)) >>> ((1 : Int32) &&& 31))) &&& (858993459 : Int32)) ||| (((((x0) &&& (349525 : Int32)) ||| (((x0) &&& (349525 : Int32)) >>> ((1 : Int32) &&& 31))) &&& (858993459 : Int32)) >>> ((2 : Int32) &&& 31))) &&& (252645135 : Int32)) >>> ((4 : Int32) &&& 31))) &&& (16711935 : Int32)) >>> ((8 : Int32) &&& 31))) &&& (1023 : Int32)) (M)) : kX9_variablesOf (x0) g M q := by
  intro d hd; refine mj_enter (by decide +kernel) (Nat.le_of_ble_eq_true rfl) ?_
  generalize (false : Bool) = ex
  show mj_G mtX9_variablesOf (mj_rm d 0 0) (mj_Fi (mj_qI g q) mj_x0 0 0) ex 0 0 0 [(0, .int (x0))] [] g M
  refine mg_iload_n dX9_variablesOf_0 rfl 0 rfl ?_
  refine mg_ldcw (v := 349525) dX9_variablesOf_1 wd_473 ?_
  refine mg_iand dX9_variablesOf_4 ?_
  refine mg_istore_n (ls' := [(1, .int ((x0) &&& (349525 : Int32))), (0, .int (x0))]) dX9_variablesOf_5 rfl (Nat.le_of_ble_eq_true rfl) rfl ?_
  refine mg_iload_n dX9_variablesOf_6 rfl 0 rfl ?_
  refine mg_iload_n dX9_variablesOf_7 rfl 0 rfl ?_
  refine mg_iconst (v := 1) dX9_variablesOf_8 (by decide) ?_
  refine mg_ishr dX9_variablesOf_9 ?_
  refine mg_ior dX9_variablesOf_10 ?_
  refine mg_ldcw (v := 858993459) dX9_variablesOf_11 wd_337 ?_
  refine mg_iand dX9_variablesOf_14 ?_
  refine mg_istore_n (ls' := [(1, .int ((((x0) &&& (349525 : Int32)) ||| (((x0) &&& (349525 : Int32)) >>> ((1 : Int32) &&& 31))) &&& (858993459 : Int32))), (0, .int (x0))]) dX9_variablesOf_15 rfl (Nat.le_of_ble_eq_true rfl) rfl ?_
  refine mg_iload_n dX9_variablesOf_16 rfl 0 rfl ?_
  refine mg_iload_n dX9_variablesOf_17 rfl 0 rfl ?_
  refine mg_iconst (v := 2) dX9_variablesOf_18 (by decide) ?_
  refine mg_ishr dX9_variablesOf_19 ?_
  refine mg_ior dX9_variablesOf_20 ?_
  refine mg_ldcw (v := 252645135) dX9_variablesOf_21 wd_336 ?_
  refine mg_iand dX9_variablesOf_24 ?_
  refine mg_istore_n (ls' := [(1, .int ((((((x0) &&& (349525 : Int32)) ||| (((x0) &&& (349525 : Int32)) >>> ((1 : Int32) &&& 31))) &&& (858993459 : Int32)) ||| (((((x0) &&& (349525 : Int32)) ||| (((x0) &&& (349525 : Int32)) >>> ((1 : Int32) &&& 31))) &&& (858993459 : Int32)) >>> ((2 : Int32) &&& 31))) &&& (252645135 : Int32))), (0, .int (x0))]) dX9_variablesOf_25 rfl (Nat.le_of_ble_eq_true rfl) rfl ?_
  refine mg_iload_n dX9_variablesOf_26 rfl 0 rfl ?_
  refine mg_iload_n dX9_variablesOf_27 rfl 0 rfl ?_
  refine mg_iconst (v := 4) dX9_variablesOf_28 (by decide) ?_
  refine mg_ishr dX9_variablesOf_29 ?_
  refine mg_ior dX9_variablesOf_30 ?_
  refine mg_ldcw (v := 16711935) dX9_variablesOf_31 wd_335 ?_
  refine mg_iand dX9_variablesOf_34 ?_
  refine mg_istore_n (ls' := [(1, .int ((((((((x0) &&& (349525 : Int32)) ||| (((x0) &&& (349525 : Int32)) >>> ((1 : Int32) &&& 31))) &&& (858993459 : Int32)) ||| (((((x0) &&& (349525 : Int32)) ||| (((x0) &&& (349525 : Int32)) >>> ((1 : Int32) &&& 31))) &&& (858993459 : Int32)) >>> ((2 : Int32) &&& 31))) &&& (252645135 : Int32)) ||| (((((((x0) &&& (349525 : Int32)) ||| (((x0) &&& (349525 : Int32)) >>> ((1 : Int32) &&& 31))) &&& (858993459 : Int32)) ||| (((((x0) &&& (349525 : Int32)) ||| (((x0) &&& (349525 : Int32)) >>> ((1 : Int32) &&& 31))) &&& (858993459 : Int32)) >>> ((2 : Int32) &&& 31))) &&& (252645135 : Int32)) >>> ((4 : Int32) &&& 31))) &&& (16711935 : Int32))), (0, .int (x0))]) dX9_variablesOf_35 rfl (Nat.le_of_ble_eq_true rfl) rfl ?_
  refine mg_iload_n dX9_variablesOf_36 rfl 0 rfl ?_
  refine mg_iload_n dX9_variablesOf_37 rfl 0 rfl ?_
  refine mg_bipush (v := 8) dX9_variablesOf_38 (by decide) ?_
  refine mg_ishr dX9_variablesOf_40 ?_
  refine mg_ior dX9_variablesOf_41 ?_
  refine mg_sipush (v := 1023) dX9_variablesOf_42 (by decide) ?_
  refine mg_iand dX9_variablesOf_45 ?_
  exact me_i dX9_variablesOf_46 rfl h
theorem dX9_half_0 : decode cX9_half 0 = .ok (.iload_n 1, 1) := by decide +kernel
theorem dX9_half_1 : decode cX9_half 1 = .ok (.ifCond .eq 7, 3) := by decide +kernel
theorem dX9_half_4 : decode cX9_half 4 = .ok (.iload_n 0, 1) := by decide +kernel
theorem dX9_half_5 : decode cX9_half 5 = .ok (.goto 6, 3) := by decide +kernel
theorem dX9_half_8 : decode cX9_half 8 = .ok (.iload_n 0, 1) := by decide +kernel
theorem dX9_half_9 : decode cX9_half 9 = .ok (.iconst 1, 1) := by decide +kernel
theorem dX9_half_10 : decode cX9_half 10 = .ok (.ishr, 1) := by decide +kernel
theorem dX9_half_11 : decode cX9_half 11 = .ok (.invokestatic 389, 3) := by decide +kernel
theorem dX9_half_14 : decode cX9_half 14 = .ok (.ireturn, 1) := by decide +kernel
abbrev mtX9_half : mj_T := (yX9_half.cls, cX9_half, 2, (some .int), mj_no, yX9_half.name)
abbrev kX9_half (x0 : Int32) (x1 : Int32) (g : mj_S) (M : mj_M) (q : Int32 → mj_M → Prop) : Prop := mj_CI yX9_half (.code yX9_half cX9_half 2 (some .int)) 1 [.int (x0), .int (x1)] g M q
theorem kiX9_half : mj_cS yX9_half cX9_half 2 (some .int) 2 := ⟨⟨wd_653, wd_1, wd_654⟩, ⟨by decide +kernel, by decide +kernel, by decide +kernel⟩, Nat.le_of_ble_eq_true rfl⟩
theorem eX9_half {x0 : Int32} {x1 : Int32} {g : mj_S} {M : mj_M} {q : Int32 → mj_M → Prop}  (h : ((x1 : Int32) = 0 → ∃ (q1 : Int32 → mj_M → Prop), kX9_variablesOf ((x0) >>> ((1 : Int32) &&& 31)) g (M) q1 ∧ ∀ (v1 : Int32) (M1 : mj_M), q1 v1 M1 → (q (v1) (M1))) ∧ (¬ (x1 : Int32) = 0 → ∃ (q2 : Int32 → mj_M → Prop), kX9_variablesOf (x0) g (M) q2 ∧ ∀ (v2 : Int32) (M2 : mj_M), q2 v2 M2 → (q (v2) (M2)))) : kX9_half (x0) (x1) g M q := by
  intro d hd; refine mj_enter (by decide +kernel) (Nat.le_of_ble_eq_true rfl) ?_
  generalize (false : Bool) = ex
  show mj_G mtX9_half (mj_rm d 0 0) (mj_Fi (mj_qI g q) mj_x0 0 0) ex 0 0 0 [(0, .int (x0)), (1, .int (x1))] [] g M
  refine mg_iload_n dX9_half_0 rfl 1 rfl ?_
  refine mg_if_eq (tgt := 8) dX9_half_1 (by decide) (fun hc => ?_) (fun hc => ?_)
  · replace h := h.1 hc
    refine mg_iload_n dX9_half_8 rfl 0 rfl ?_
    refine mg_iconst (v := 1) dX9_half_9 (by decide) ?_
    refine mg_ishr dX9_half_10 ?_
    obtain ⟨q1, hC, hk⟩ := h
    refine mc_Si [.int ((x0) >>> ((1 : Int32) &&& 31))] [] dX9_half_11 wd_655 kiX9_variablesOf (Nat.le_of_ble_eq_true rfl) (Nat.le_trans (Nat.le_of_ble_eq_true rfl) hd) hC (fun v1 M1 hq => ?_)
    replace h := hk v1 M1 hq
    exact me_i dX9_half_14 rfl h
  · replace h := h.2 hc
    refine mg_iload_n dX9_half_4 rfl 0 rfl ?_
    refine mg_goto (tgt := 11) dX9_half_5 (by decide) ?_
    obtain ⟨q2, hC, hk⟩ := h
    refine mc_Si [.int (x0)] [] dX9_half_11 wd_655 kiX9_variablesOf (Nat.le_of_ble_eq_true rfl) (Nat.le_trans (Nat.le_of_ble_eq_true rfl) hd) hC (fun v2 M2 hq => ?_)
    replace h := hk v2 M2 hq
    exact me_i dX9_half_14 rfl h
theorem dX9_lengthOfLiteral_0 : decode cX9_lengthOfLiteral 0 = .ok (.iload_n 0, 1) := by decide +kernel
theorem dX9_lengthOfLiteral_1 : decode cX9_lengthOfLiteral 1 = .ok (.iconst 1, 1) := by decide +kernel
theorem dX9_lengthOfLiteral_2 : decode cX9_lengthOfLiteral 2 = .ok (.ishr, 1) := by decide +kernel
theorem dX9_lengthOfLiteral_3 : decode cX9_lengthOfLiteral 3 = .ok (.iconst 1, 1) := by decide +kernel
theorem dX9_lengthOfLiteral_4 : decode cX9_lengthOfLiteral 4 = .ok (.iadd, 1) := by decide +kernel
theorem dX9_lengthOfLiteral_5 : decode cX9_lengthOfLiteral 5 = .ok (.bipush 10, 2) := by decide +kernel
theorem dX9_lengthOfLiteral_7 : decode cX9_lengthOfLiteral 7 = .ok (.if_icmp .lt 7, 3) := by decide +kernel
theorem dX9_lengthOfLiteral_10 : decode cX9_lengthOfLiteral 10 = .ok (.iconst 2, 1) := by decide +kernel
theorem dX9_lengthOfLiteral_11 : decode cX9_lengthOfLiteral 11 = .ok (.goto 4, 3) := by decide +kernel
theorem dX9_lengthOfLiteral_14 : decode cX9_lengthOfLiteral 14 = .ok (.iconst 1, 1) := by decide +kernel
theorem dX9_lengthOfLiteral_15 : decode cX9_lengthOfLiteral 15 = .ok (.istore_n 1, 1) := by decide +kernel
theorem dX9_lengthOfLiteral_16 : decode cX9_lengthOfLiteral 16 = .ok (.iload_n 0, 1) := by decide +kernel
theorem dX9_lengthOfLiteral_17 : decode cX9_lengthOfLiteral 17 = .ok (.iconst 1, 1) := by decide +kernel
theorem dX9_lengthOfLiteral_18 : decode cX9_lengthOfLiteral 18 = .ok (.iand, 1) := by decide +kernel
theorem dX9_lengthOfLiteral_19 : decode cX9_lengthOfLiteral 19 = .ok (.iload_n 1, 1) := by decide +kernel
theorem dX9_lengthOfLiteral_20 : decode cX9_lengthOfLiteral 20 = .ok (.iadd, 1) := by decide +kernel
theorem dX9_lengthOfLiteral_21 : decode cX9_lengthOfLiteral 21 = .ok (.iconst 1, 1) := by decide +kernel
theorem dX9_lengthOfLiteral_22 : decode cX9_lengthOfLiteral 22 = .ok (.iadd, 1) := by decide +kernel
theorem dX9_lengthOfLiteral_23 : decode cX9_lengthOfLiteral 23 = .ok (.ireturn, 1) := by decide +kernel
abbrev mtX9_lengthOfLiteral : mj_T := (yX9_lengthOfLiteral.cls, cX9_lengthOfLiteral, 2, (some .int), mj_no, yX9_lengthOfLiteral.name)
abbrev kX9_lengthOfLiteral (x0 : Int32) (g : mj_S) (M : mj_M) (q : Int32 → mj_M → Prop) : Prop := mj_CI yX9_lengthOfLiteral (.code yX9_lengthOfLiteral cX9_lengthOfLiteral 2 (some .int)) 0 [.int (x0)] g M q
theorem kiX9_lengthOfLiteral : mj_cS yX9_lengthOfLiteral cX9_lengthOfLiteral 2 (some .int) 1 := ⟨⟨wd_960, wd_1, wd_961⟩, ⟨by decide +kernel, by decide +kernel, by decide +kernel⟩, Nat.le_of_ble_eq_true rfl⟩
theorem eX9_lengthOfLiteral {x0 : Int32} {g : mj_S} {M : mj_M} {q : Int32 → mj_M → Prop}  (h : ((((x0) >>> ((1 : Int32) &&& 31)) + (1 : Int32) : Int32) < (10 : Int32) → q ((((x0) &&& (1 : Int32)) + (1 : Int32)) + (1 : Int32)) (M)) ∧ (¬ (((x0) >>> ((1 : Int32) &&& 31)) + (1 : Int32) : Int32) < (10 : Int32) → q ((((x0) &&& (1 : Int32)) + (2 : Int32)) + (1 : Int32)) (M))) : kX9_lengthOfLiteral (x0) g M q := by
  intro d hd; refine mj_enter (by decide +kernel) (Nat.le_of_ble_eq_true rfl) ?_
  generalize (false : Bool) = ex
  show mj_G mtX9_lengthOfLiteral (mj_rm d 0 0) (mj_Fi (mj_qI g q) mj_x0 0 0) ex 0 0 0 [(0, .int (x0))] [] g M
  refine mg_iload_n dX9_lengthOfLiteral_0 rfl 0 rfl ?_
  refine mg_iconst (v := 1) dX9_lengthOfLiteral_1 (by decide) ?_
  refine mg_ishr dX9_lengthOfLiteral_2 ?_
  refine mg_iconst (v := 1) dX9_lengthOfLiteral_3 (by decide) ?_
  refine mg_iadd dX9_lengthOfLiteral_4 ?_
  refine mg_bipush (v := 10) dX9_lengthOfLiteral_5 (by decide) ?_
  refine mg_icmp_lt (tgt := 14) dX9_lengthOfLiteral_7 (by decide) (fun hc => ?_) (fun hc => ?_)
  · replace h := h.1 hc
    refine mg_iconst (v := 1) dX9_lengthOfLiteral_14 (by decide) ?_
    refine mg_istore_n (ls' := [(1, .int (1)), (0, .int (x0))]) dX9_lengthOfLiteral_15 rfl (Nat.le_of_ble_eq_true rfl) rfl ?_
    refine mg_iload_n dX9_lengthOfLiteral_16 rfl 1 rfl ?_
    refine mg_iconst (v := 1) dX9_lengthOfLiteral_17 (by decide) ?_
    refine mg_iand dX9_lengthOfLiteral_18 ?_
    refine mg_iload_n dX9_lengthOfLiteral_19 rfl 0 rfl ?_
    refine mg_iadd dX9_lengthOfLiteral_20 ?_
    refine mg_iconst (v := 1) dX9_lengthOfLiteral_21 (by decide) ?_
    refine mg_iadd dX9_lengthOfLiteral_22 ?_
    exact me_i dX9_lengthOfLiteral_23 rfl h
  · replace h := h.2 hc
    refine mg_iconst (v := 2) dX9_lengthOfLiteral_10 (by decide) ?_
    refine mg_goto (tgt := 15) dX9_lengthOfLiteral_11 (by decide) ?_
    refine mg_istore_n (ls' := [(1, .int (2)), (0, .int (x0))]) dX9_lengthOfLiteral_15 rfl (Nat.le_of_ble_eq_true rfl) rfl ?_
    refine mg_iload_n dX9_lengthOfLiteral_16 rfl 1 rfl ?_
    refine mg_iconst (v := 1) dX9_lengthOfLiteral_17 (by decide) ?_
    refine mg_iand dX9_lengthOfLiteral_18 ?_
    refine mg_iload_n dX9_lengthOfLiteral_19 rfl 0 rfl ?_
    refine mg_iadd dX9_lengthOfLiteral_20 ?_
    refine mg_iconst (v := 1) dX9_lengthOfLiteral_21 (by decide) ?_
    refine mg_iadd dX9_lengthOfLiteral_22 ?_
    exact me_i dX9_lengthOfLiteral_23 rfl h
theorem dX9_lengthOfClause_0 : decode cX9_lengthOfClause 0 = .ok (.iconst 2, 1) := by decide +kernel
theorem dX9_lengthOfClause_1 : decode cX9_lengthOfClause 1 = .ok (.istore_n 1, 1) := by decide +kernel
theorem dX9_lengthOfClause_2 : decode cX9_lengthOfClause 2 = .ok (.iconst 0, 1) := by decide +kernel
theorem dX9_lengthOfClause_3 : decode cX9_lengthOfClause 3 = .ok (.istore_n 2, 1) := by decide +kernel
theorem dX9_lengthOfClause_4 : decode cX9_lengthOfClause 4 = .ok (.iload_n 2, 1) := by decide +kernel
theorem dX9_lengthOfClause_5 : decode cX9_lengthOfClause 5 = .ok (.bipush 20, 2) := by decide +kernel
theorem dX9_lengthOfClause_7 : decode cX9_lengthOfClause 7 = .ok (.if_icmp .ge 24, 3) := by decide +kernel
theorem dX9_lengthOfClause_10 : decode cX9_lengthOfClause 10 = .ok (.iload_n 0, 1) := by decide +kernel
theorem dX9_lengthOfClause_11 : decode cX9_lengthOfClause 11 = .ok (.iload_n 2, 1) := by decide +kernel
theorem dX9_lengthOfClause_12 : decode cX9_lengthOfClause 12 = .ok (.invokestatic 372, 3) := by decide +kernel
theorem dX9_lengthOfClause_15 : decode cX9_lengthOfClause 15 = .ok (.ifCond .eq 10, 3) := by decide +kernel
theorem dX9_lengthOfClause_18 : decode cX9_lengthOfClause 18 = .ok (.iload_n 1, 1) := by decide +kernel
theorem dX9_lengthOfClause_19 : decode cX9_lengthOfClause 19 = .ok (.iload_n 2, 1) := by decide +kernel
theorem dX9_lengthOfClause_20 : decode cX9_lengthOfClause 20 = .ok (.invokestatic 375, 3) := by decide +kernel
theorem dX9_lengthOfClause_23 : decode cX9_lengthOfClause 23 = .ok (.iadd, 1) := by decide +kernel
theorem dX9_lengthOfClause_24 : decode cX9_lengthOfClause 24 = .ok (.istore_n 1, 1) := by decide +kernel
theorem dX9_lengthOfClause_25 : decode cX9_lengthOfClause 25 = .ok (.iinc 2 1, 3) := by decide +kernel
theorem dX9_lengthOfClause_28 : decode cX9_lengthOfClause 28 = .ok (.goto (-24), 3) := by decide +kernel
theorem dX9_lengthOfClause_31 : decode cX9_lengthOfClause 31 = .ok (.iload_n 1, 1) := by decide +kernel
theorem dX9_lengthOfClause_32 : decode cX9_lengthOfClause 32 = .ok (.ireturn, 1) := by decide +kernel
abbrev mtX9_lengthOfClause : mj_T := (yX9_lengthOfClause.cls, cX9_lengthOfClause, 3, (some .int), mj_no, yX9_lengthOfClause.name)
abbrev kX9_lengthOfClause (x0 : Int32) (g : mj_S) (M : mj_M) (q : Int32 → mj_M → Prop) : Prop := mj_CI yX9_lengthOfClause (.code yX9_lengthOfClause cX9_lengthOfClause 3 (some .int)) 1 [.int (x0)] g M q
theorem kiX9_lengthOfClause : mj_cS yX9_lengthOfClause cX9_lengthOfClause 3 (some .int) 1 := ⟨⟨wd_957, wd_1, wd_958⟩, ⟨by decide +kernel, by decide +kernel, by decide +kernel⟩, Nat.le_of_ble_eq_true rfl⟩
def LX9_lengthOfClause_4  (x0 : Int32) (x1 : Int32) (x2 : Int32) (g : mj_S) (M : mj_M) (q : Int32 → mj_M → Prop) : Prop := ∀ d, 1 ≤ d → ∀ ex : Bool, mj_G mtX9_lengthOfClause (mj_rm d 0 0) (mj_Fi (mj_qI g q) mj_x0 0 0) ex 0 0 4 [(0, .int (x0)), (1, .int (x1)), (2, .int (x2))] [] g M
theorem eX9_lengthOfClause {x0 : Int32} {g : mj_S} {M : mj_M} {q : Int32 → mj_M → Prop}  (h : LX9_lengthOfClause_4  (x0) (2) (0) g (M) q) : kX9_lengthOfClause (x0) g M q := by
  intro d hd; refine mj_enter (by decide +kernel) (Nat.le_of_ble_eq_true rfl) ?_
  generalize (false : Bool) = ex
  show mj_G mtX9_lengthOfClause (mj_rm d 0 0) (mj_Fi (mj_qI g q) mj_x0 0 0) ex 0 0 0 [(0, .int (x0))] [] g M
  refine mg_iconst (v := 2) dX9_lengthOfClause_0 (by decide) ?_
  refine mg_istore_n (ls' := [(1, .int (2)), (0, .int (x0))]) dX9_lengthOfClause_1 rfl (Nat.le_of_ble_eq_true rfl) rfl ?_
  refine mg_iconst (v := 0) dX9_lengthOfClause_2 (by decide) ?_
  refine mg_istore_n (ls' := [(2, .int (0)), (1, .int (2)), (0, .int (x0))]) dX9_lengthOfClause_3 rfl (Nat.le_of_ble_eq_true rfl) rfl ?_
  exact mg_pick [2, 1, 0] rfl (h d hd ex)
theorem bX9_lengthOfClause_4  {x0 : Int32} {x1 : Int32} {x2 : Int32} {g : mj_S} {M : mj_M} {q : Int32 → mj_M → Prop}  (h : ((20 : Int32) ≤ (x2) → q (x1) (M)) ∧ (¬ (20 : Int32) ≤ (x2) → ∃ (q1 : Int32 → mj_M → Prop), kX9_contains (x0) (x2) g (M) q1 ∧ ∀ (v1 : Int32) (M1 : mj_M), q1 v1 M1 → (((v1 : Int32) = 0 → LX9_lengthOfClause_4  (x0) (x1) (x2 + 1) g (M1) q) ∧ (¬ (v1 : Int32) = 0 → ∃ (q2 : Int32 → mj_M → Prop), kX9_lengthOfLiteral (x2) g (M1) q2 ∧ ∀ (v2 : Int32) (M2 : mj_M), q2 v2 M2 → (LX9_lengthOfClause_4  (x0) ((x1) + (v2)) (x2 + 1) g (M2) q))))) : LX9_lengthOfClause_4  x0 x1 x2 g M q := by
  intro d hd ex
  refine mg_iload_n dX9_lengthOfClause_4 rfl 2 rfl ?_
  refine mg_bipush (v := 20) dX9_lengthOfClause_5 (by decide) ?_
  refine mg_icmp_ge (tgt := 31) dX9_lengthOfClause_7 (by decide) (fun hc => ?_) (fun hc => ?_)
  · replace h := h.1 hc
    refine mg_iload_n dX9_lengthOfClause_31 rfl 1 rfl ?_
    exact me_i dX9_lengthOfClause_32 rfl h
  · replace h := h.2 hc
    refine mg_iload_n dX9_lengthOfClause_10 rfl 0 rfl ?_
    refine mg_iload_n dX9_lengthOfClause_11 rfl 2 rfl ?_
    obtain ⟨q1, hC, hk⟩ := h
    refine mc_Si [.int (x0), .int (x2)] [] dX9_lengthOfClause_12 wd_540 kiX9_contains (Nat.le_of_ble_eq_true rfl) (Nat.le_trans (Nat.le_of_ble_eq_true rfl) hd) hC (fun v1 M1 hq => ?_)
    replace h := hk v1 M1 hq
    refine mg_if_eq (tgt := 25) dX9_lengthOfClause_15 (by decide) (fun hc => ?_) (fun hc => ?_)
    · replace h := h.1 hc
      refine mg_iinc (v := x2 + 1) (ls' := [(2, .int (x2 + 1)), (0, .int (x0)), (1, .int (x1))]) dX9_lengthOfClause_25 2 rfl rfl (Nat.le_of_ble_eq_true rfl) rfl ?_
      refine mg_goto (tgt := 4) dX9_lengthOfClause_28 (by decide) ?_
      exact mg_pick [1, 2, 0] rfl (h d hd ex)
    · replace h := h.2 hc
      refine mg_iload_n dX9_lengthOfClause_18 rfl 1 rfl ?_
      refine mg_iload_n dX9_lengthOfClause_19 rfl 2 rfl ?_
      obtain ⟨q2, hC, hk⟩ := h
      refine mc_Si [.int (x2)] [.int (x1)] dX9_lengthOfClause_20 wd_959 kiX9_lengthOfLiteral (Nat.le_of_ble_eq_true rfl) (Nat.le_trans (Nat.le_of_ble_eq_true rfl) hd) hC (fun v2 M2 hq => ?_)
      replace h := hk v2 M2 hq
      refine mg_iadd dX9_lengthOfClause_23 ?_
      refine mg_istore_n (ls' := [(1, .int ((x1) + (v2))), (0, .int (x0)), (2, .int (x2))]) dX9_lengthOfClause_24 rfl (Nat.le_of_ble_eq_true rfl) rfl ?_
      refine mg_iinc (v := x2 + 1) (ls' := [(2, .int (x2 + 1)), (1, .int ((x1) + (v2))), (0, .int (x0))]) dX9_lengthOfClause_25 2 rfl rfl (Nat.le_of_ble_eq_true rfl) rfl ?_
      refine mg_goto (tgt := 4) dX9_lengthOfClause_28 (by decide) ?_
      exact mg_pick [2, 1, 0] rfl (h d hd ex)
theorem dX9_byteOfLiteral_0 : decode cX9_byteOfLiteral 0 = .ok (.iload_n 0, 1) := by decide +kernel
theorem dX9_byteOfLiteral_1 : decode cX9_byteOfLiteral 1 = .ok (.iconst 1, 1) := by decide +kernel
theorem dX9_byteOfLiteral_2 : decode cX9_byteOfLiteral 2 = .ok (.ishr, 1) := by decide +kernel
theorem dX9_byteOfLiteral_3 : decode cX9_byteOfLiteral 3 = .ok (.iconst 1, 1) := by decide +kernel
theorem dX9_byteOfLiteral_4 : decode cX9_byteOfLiteral 4 = .ok (.iadd, 1) := by decide +kernel
theorem dX9_byteOfLiteral_5 : decode cX9_byteOfLiteral 5 = .ok (.istore_n 2, 1) := by decide +kernel
theorem dX9_byteOfLiteral_6 : decode cX9_byteOfLiteral 6 = .ok (.iload_n 1, 1) := by decide +kernel
theorem dX9_byteOfLiteral_7 : decode cX9_byteOfLiteral 7 = .ok (.iload_n 0, 1) := by decide +kernel
theorem dX9_byteOfLiteral_8 : decode cX9_byteOfLiteral 8 = .ok (.iconst 1, 1) := by decide +kernel
theorem dX9_byteOfLiteral_9 : decode cX9_byteOfLiteral 9 = .ok (.iand, 1) := by decide +kernel
theorem dX9_byteOfLiteral_10 : decode cX9_byteOfLiteral 10 = .ok (.isub, 1) := by decide +kernel
theorem dX9_byteOfLiteral_11 : decode cX9_byteOfLiteral 11 = .ok (.istore_n 3, 1) := by decide +kernel
theorem dX9_byteOfLiteral_12 : decode cX9_byteOfLiteral 12 = .ok (.iload_n 3, 1) := by decide +kernel
theorem dX9_byteOfLiteral_13 : decode cX9_byteOfLiteral 13 = .ok (.ifCond .ge 6, 3) := by decide +kernel
theorem dX9_byteOfLiteral_16 : decode cX9_byteOfLiteral 16 = .ok (.bipush 45, 2) := by decide +kernel
theorem dX9_byteOfLiteral_18 : decode cX9_byteOfLiteral 18 = .ok (.ireturn, 1) := by decide +kernel
theorem dX9_byteOfLiteral_19 : decode cX9_byteOfLiteral 19 = .ok (.iload_n 2, 1) := by decide +kernel
theorem dX9_byteOfLiteral_20 : decode cX9_byteOfLiteral 20 = .ok (.bipush 10, 2) := by decide +kernel
theorem dX9_byteOfLiteral_22 : decode cX9_byteOfLiteral 22 = .ok (.if_icmp .lt 9, 3) := by decide +kernel
theorem dX9_byteOfLiteral_25 : decode cX9_byteOfLiteral 25 = .ok (.iload_n 3, 1) := by decide +kernel
theorem dX9_byteOfLiteral_26 : decode cX9_byteOfLiteral 26 = .ok (.iconst 1, 1) := by decide +kernel
theorem dX9_byteOfLiteral_27 : decode cX9_byteOfLiteral 27 = .ok (.isub, 1) := by decide +kernel
theorem dX9_byteOfLiteral_28 : decode cX9_byteOfLiteral 28 = .ok (.goto 4, 3) := by decide +kernel
theorem dX9_byteOfLiteral_31 : decode cX9_byteOfLiteral 31 = .ok (.iload_n 3, 1) := by decide +kernel
theorem dX9_byteOfLiteral_32 : decode cX9_byteOfLiteral 32 = .ok (.istore 4, 2) := by decide +kernel
theorem dX9_byteOfLiteral_34 : decode cX9_byteOfLiteral 34 = .ok (.iload 4, 2) := by decide +kernel
theorem dX9_byteOfLiteral_36 : decode cX9_byteOfLiteral 36 = .ok (.ifCond .ge 11, 3) := by decide +kernel
theorem dX9_byteOfLiteral_39 : decode cX9_byteOfLiteral 39 = .ok (.bipush 48, 2) := by decide +kernel
theorem dX9_byteOfLiteral_41 : decode cX9_byteOfLiteral 41 = .ok (.iload_n 2, 1) := by decide +kernel
theorem dX9_byteOfLiteral_42 : decode cX9_byteOfLiteral 42 = .ok (.bipush 10, 2) := by decide +kernel
theorem dX9_byteOfLiteral_44 : decode cX9_byteOfLiteral 44 = .ok (.idiv, 1) := by decide +kernel
theorem dX9_byteOfLiteral_45 : decode cX9_byteOfLiteral 45 = .ok (.iadd, 1) := by decide +kernel
theorem dX9_byteOfLiteral_46 : decode cX9_byteOfLiteral 46 = .ok (.ireturn, 1) := by decide +kernel
theorem dX9_byteOfLiteral_47 : decode cX9_byteOfLiteral 47 = .ok (.iload 4, 2) := by decide +kernel
theorem dX9_byteOfLiteral_49 : decode cX9_byteOfLiteral 49 = .ok (.ifCond .ne 13, 3) := by decide +kernel
theorem dX9_byteOfLiteral_52 : decode cX9_byteOfLiteral 52 = .ok (.bipush 48, 2) := by decide +kernel
theorem dX9_byteOfLiteral_54 : decode cX9_byteOfLiteral 54 = .ok (.iload_n 2, 1) := by decide +kernel
theorem dX9_byteOfLiteral_55 : decode cX9_byteOfLiteral 55 = .ok (.bipush 10, 2) := by decide +kernel
theorem dX9_byteOfLiteral_57 : decode cX9_byteOfLiteral 57 = .ok (.irem, 1) := by decide +kernel
theorem dX9_byteOfLiteral_58 : decode cX9_byteOfLiteral 58 = .ok (.iadd, 1) := by decide +kernel
theorem dX9_byteOfLiteral_59 : decode cX9_byteOfLiteral 59 = .ok (.goto 5, 3) := by decide +kernel
theorem dX9_byteOfLiteral_62 : decode cX9_byteOfLiteral 62 = .ok (.bipush 32, 2) := by decide +kernel
theorem dX9_byteOfLiteral_64 : decode cX9_byteOfLiteral 64 = .ok (.ireturn, 1) := by decide +kernel
abbrev mtX9_byteOfLiteral : mj_T := (yX9_byteOfLiteral.cls, cX9_byteOfLiteral, 5, (some .int), mj_no, yX9_byteOfLiteral.name)
abbrev kX9_byteOfLiteral (x0 : Int32) (x1 : Int32) (g : mj_S) (M : mj_M) (q : Int32 → mj_M → Prop) : Prop := mj_CI yX9_byteOfLiteral (.code yX9_byteOfLiteral cX9_byteOfLiteral 5 (some .int)) 0 [.int (x0), .int (x1)] g M q
theorem kiX9_byteOfLiteral : mj_cS yX9_byteOfLiteral cX9_byteOfLiteral 5 (some .int) 2 := ⟨⟨wd_966, wd_1, wd_967⟩, ⟨by decide +kernel, by decide +kernel, by decide +kernel⟩, Nat.le_of_ble_eq_true rfl⟩
theorem eX9_byteOfLiteral {x0 : Int32} {x1 : Int32} {g : mj_S} {M : mj_M} {q : Int32 → mj_M → Prop}  (h : ((0 : Int32) ≤ ((x1) - ((x0) &&& (1 : Int32))) → ((((x0) >>> ((1 : Int32) &&& 31)) + (1 : Int32) : Int32) < (10 : Int32) → ((0 : Int32) ≤ ((x1) - ((x0) &&& (1 : Int32))) → (¬ ((x1) - ((x0) &&& (1 : Int32)) : Int32) = 0 → q (32) (M)) ∧ (((x1) - ((x0) &&& (1 : Int32)) : Int32) = 0 → q ((48 : Int32) + ((((x0) >>> ((1 : Int32) &&& 31)) + (1 : Int32)) - (((x0) >>> ((1 : Int32) &&& 31)) + (1 : Int32)) / (10 : Int32) * (10 : Int32))) (M))) ∧ (¬ (0 : Int32) ≤ ((x1) - ((x0) &&& (1 : Int32))) → q ((48 : Int32) + ((((x0) >>> ((1 : Int32) &&& 31)) + (1 : Int32)) / (10 : Int32))) (M))) ∧ (¬ (((x0) >>> ((1 : Int32) &&& 31)) + (1 : Int32) : Int32) < (10 : Int32) → ((0 : Int32) ≤ (((x1) - ((x0) &&& (1 : Int32))) - (1 : Int32)) → (¬ (((x1) - ((x0) &&& (1 : Int32))) - (1 : Int32) : Int32) = 0 → q (32) (M)) ∧ ((((x1) - ((x0) &&& (1 : Int32))) - (1 : Int32) : Int32) = 0 → q ((48 : Int32) + ((((x0) >>> ((1 : Int32) &&& 31)) + (1 : Int32)) - (((x0) >>> ((1 : Int32) &&& 31)) + (1 : Int32)) / (10 : Int32) * (10 : Int32))) (M))) ∧ (¬ (0 : Int32) ≤ (((x1) - ((x0) &&& (1 : Int32))) - (1 : Int32)) → q ((48 : Int32) + ((((x0) >>> ((1 : Int32) &&& 31)) + (1 : Int32)) / (10 : Int32))) (M)))) ∧ (¬ (0 : Int32) ≤ ((x1) - ((x0) &&& (1 : Int32))) → q (45) (M))) : kX9_byteOfLiteral (x0) (x1) g M q := by
  intro d hd; refine mj_enter (by decide +kernel) (Nat.le_of_ble_eq_true rfl) ?_
  generalize (false : Bool) = ex
  show mj_G mtX9_byteOfLiteral (mj_rm d 0 0) (mj_Fi (mj_qI g q) mj_x0 0 0) ex 0 0 0 [(0, .int (x0)), (1, .int (x1))] [] g M
  refine mg_iload_n dX9_byteOfLiteral_0 rfl 0 rfl ?_
  refine mg_iconst (v := 1) dX9_byteOfLiteral_1 (by decide) ?_
  refine mg_ishr dX9_byteOfLiteral_2 ?_
  refine mg_iconst (v := 1) dX9_byteOfLiteral_3 (by decide) ?_
  refine mg_iadd dX9_byteOfLiteral_4 ?_
  refine mg_istore_n (ls' := [(2, .int (((x0) >>> ((1 : Int32) &&& 31)) + (1 : Int32))), (0, .int (x0)), (1, .int (x1))]) dX9_byteOfLiteral_5 rfl (Nat.le_of_ble_eq_true rfl) rfl ?_
  refine mg_iload_n dX9_byteOfLiteral_6 rfl 2 rfl ?_
  refine mg_iload_n dX9_byteOfLiteral_7 rfl 1 rfl ?_
  refine mg_iconst (v := 1) dX9_byteOfLiteral_8 (by decide) ?_
  refine mg_iand dX9_byteOfLiteral_9 ?_
  refine mg_isub dX9_byteOfLiteral_10 ?_
  refine mg_istore_n (ls' := [(3, .int ((x1) - ((x0) &&& (1 : Int32)))), (2, .int (((x0) >>> ((1 : Int32) &&& 31)) + (1 : Int32))), (0, .int (x0)), (1, .int (x1))]) dX9_byteOfLiteral_11 rfl (Nat.le_of_ble_eq_true rfl) rfl ?_
  refine mg_iload_n dX9_byteOfLiteral_12 rfl 0 rfl ?_
  refine mg_if_ge (tgt := 19) dX9_byteOfLiteral_13 (by decide) (fun hc => ?_) (fun hc => ?_)
  · replace h := h.1 hc
    refine mg_iload_n dX9_byteOfLiteral_19 rfl 1 rfl ?_
    refine mg_bipush (v := 10) dX9_byteOfLiteral_20 (by decide) ?_
    refine mg_icmp_lt (tgt := 31) dX9_byteOfLiteral_22 (by decide) (fun hc => ?_) (fun hc => ?_)
    · replace h := h.1 hc
      refine mg_iload_n dX9_byteOfLiteral_31 rfl 0 rfl ?_
      refine mg_istore (ls' := [(4, .int ((x1) - ((x0) &&& (1 : Int32)))), (3, .int ((x1) - ((x0) &&& (1 : Int32)))), (2, .int (((x0) >>> ((1 : Int32) &&& 31)) + (1 : Int32))), (0, .int (x0)), (1, .int (x1))]) dX9_byteOfLiteral_32 (Nat.le_of_ble_eq_true rfl) rfl ?_
      refine mg_iload dX9_byteOfLiteral_34 0 rfl ?_
      refine mg_if_ge (tgt := 47) dX9_byteOfLiteral_36 (by decide) (fun hc => ?_) (fun hc => ?_)
      · replace h := h.1 hc
        refine mg_iload dX9_byteOfLiteral_47 0 rfl ?_
        refine mg_if_ne (tgt := 62) dX9_byteOfLiteral_49 (by decide) (fun hc => ?_) (fun hc => ?_)
        · replace h := h.1 hc
          refine mg_bipush (v := 32) dX9_byteOfLiteral_62 (by decide) ?_
          exact me_i dX9_byteOfLiteral_64 rfl h
        · replace h := h.2 hc
          refine mg_bipush (v := 48) dX9_byteOfLiteral_52 (by decide) ?_
          refine mg_iload_n dX9_byteOfLiteral_54 rfl 2 rfl ?_
          refine mg_bipush (v := 10) dX9_byteOfLiteral_55 (by decide) ?_
          refine mg_irem dX9_byteOfLiteral_57 (by decide) ?_
          refine mg_iadd dX9_byteOfLiteral_58 ?_
          refine mg_goto (tgt := 64) dX9_byteOfLiteral_59 (by decide) ?_
          exact me_i dX9_byteOfLiteral_64 rfl h
      · replace h := h.2 hc
        refine mg_bipush (v := 48) dX9_byteOfLiteral_39 (by decide) ?_
        refine mg_iload_n dX9_byteOfLiteral_41 rfl 2 rfl ?_
        refine mg_bipush (v := 10) dX9_byteOfLiteral_42 (by decide) ?_
        refine mg_idiv dX9_byteOfLiteral_44 (by decide) ?_
        refine mg_iadd dX9_byteOfLiteral_45 ?_
        exact me_i dX9_byteOfLiteral_46 rfl h
    · replace h := h.2 hc
      refine mg_iload_n dX9_byteOfLiteral_25 rfl 0 rfl ?_
      refine mg_iconst (v := 1) dX9_byteOfLiteral_26 (by decide) ?_
      refine mg_isub dX9_byteOfLiteral_27 ?_
      refine mg_goto (tgt := 32) dX9_byteOfLiteral_28 (by decide) ?_
      refine mg_istore (ls' := [(4, .int (((x1) - ((x0) &&& (1 : Int32))) - (1 : Int32))), (3, .int ((x1) - ((x0) &&& (1 : Int32)))), (2, .int (((x0) >>> ((1 : Int32) &&& 31)) + (1 : Int32))), (0, .int (x0)), (1, .int (x1))]) dX9_byteOfLiteral_32 (Nat.le_of_ble_eq_true rfl) rfl ?_
      refine mg_iload dX9_byteOfLiteral_34 0 rfl ?_
      refine mg_if_ge (tgt := 47) dX9_byteOfLiteral_36 (by decide) (fun hc => ?_) (fun hc => ?_)
      · replace h := h.1 hc
        refine mg_iload dX9_byteOfLiteral_47 0 rfl ?_
        refine mg_if_ne (tgt := 62) dX9_byteOfLiteral_49 (by decide) (fun hc => ?_) (fun hc => ?_)
        · replace h := h.1 hc
          refine mg_bipush (v := 32) dX9_byteOfLiteral_62 (by decide) ?_
          exact me_i dX9_byteOfLiteral_64 rfl h
        · replace h := h.2 hc
          refine mg_bipush (v := 48) dX9_byteOfLiteral_52 (by decide) ?_
          refine mg_iload_n dX9_byteOfLiteral_54 rfl 2 rfl ?_
          refine mg_bipush (v := 10) dX9_byteOfLiteral_55 (by decide) ?_
          refine mg_irem dX9_byteOfLiteral_57 (by decide) ?_
          refine mg_iadd dX9_byteOfLiteral_58 ?_
          refine mg_goto (tgt := 64) dX9_byteOfLiteral_59 (by decide) ?_
          exact me_i dX9_byteOfLiteral_64 rfl h
      · replace h := h.2 hc
        refine mg_bipush (v := 48) dX9_byteOfLiteral_39 (by decide) ?_
        refine mg_iload_n dX9_byteOfLiteral_41 rfl 2 rfl ?_
        refine mg_bipush (v := 10) dX9_byteOfLiteral_42 (by decide) ?_
        refine mg_idiv dX9_byteOfLiteral_44 (by decide) ?_
        refine mg_iadd dX9_byteOfLiteral_45 ?_
        exact me_i dX9_byteOfLiteral_46 rfl h
  · replace h := h.2 hc
    refine mg_bipush (v := 45) dX9_byteOfLiteral_16 (by decide) ?_
    exact me_i dX9_byteOfLiteral_18 rfl h
theorem dX9_byteOfClause_0 : decode cX9_byteOfClause 0 = .ok (.iload_n 1, 1) := by decide +kernel
theorem dX9_byteOfClause_1 : decode cX9_byteOfClause 1 = .ok (.istore_n 2, 1) := by decide +kernel
theorem dX9_byteOfClause_2 : decode cX9_byteOfClause 2 = .ok (.iconst 0, 1) := by decide +kernel
theorem dX9_byteOfClause_3 : decode cX9_byteOfClause 3 = .ok (.istore_n 3, 1) := by decide +kernel
theorem dX9_byteOfClause_4 : decode cX9_byteOfClause 4 = .ok (.iload_n 3, 1) := by decide +kernel
theorem dX9_byteOfClause_5 : decode cX9_byteOfClause 5 = .ok (.bipush 20, 2) := by decide +kernel
theorem dX9_byteOfClause_7 : decode cX9_byteOfClause 7 = .ok (.if_icmp .ge 40, 3) := by decide +kernel
theorem dX9_byteOfClause_10 : decode cX9_byteOfClause 10 = .ok (.iload_n 0, 1) := by decide +kernel
theorem dX9_byteOfClause_11 : decode cX9_byteOfClause 11 = .ok (.iload_n 3, 1) := by decide +kernel
theorem dX9_byteOfClause_12 : decode cX9_byteOfClause 12 = .ok (.invokestatic 372, 3) := by decide +kernel
theorem dX9_byteOfClause_15 : decode cX9_byteOfClause 15 = .ok (.ifCond .eq 26, 3) := by decide +kernel
theorem dX9_byteOfClause_18 : decode cX9_byteOfClause 18 = .ok (.iload_n 3, 1) := by decide +kernel
theorem dX9_byteOfClause_19 : decode cX9_byteOfClause 19 = .ok (.invokestatic 375, 3) := by decide +kernel
theorem dX9_byteOfClause_22 : decode cX9_byteOfClause 22 = .ok (.istore 4, 2) := by decide +kernel
theorem dX9_byteOfClause_24 : decode cX9_byteOfClause 24 = .ok (.iload_n 2, 1) := by decide +kernel
theorem dX9_byteOfClause_25 : decode cX9_byteOfClause 25 = .ok (.iload 4, 2) := by decide +kernel
theorem dX9_byteOfClause_27 : decode cX9_byteOfClause 27 = .ok (.if_icmp .ge 9, 3) := by decide +kernel
theorem dX9_byteOfClause_30 : decode cX9_byteOfClause 30 = .ok (.iload_n 3, 1) := by decide +kernel
theorem dX9_byteOfClause_31 : decode cX9_byteOfClause 31 = .ok (.iload_n 2, 1) := by decide +kernel
theorem dX9_byteOfClause_32 : decode cX9_byteOfClause 32 = .ok (.invokestatic 378, 3) := by decide +kernel
theorem dX9_byteOfClause_35 : decode cX9_byteOfClause 35 = .ok (.ireturn, 1) := by decide +kernel
theorem dX9_byteOfClause_36 : decode cX9_byteOfClause 36 = .ok (.iload_n 2, 1) := by decide +kernel
theorem dX9_byteOfClause_37 : decode cX9_byteOfClause 37 = .ok (.iload 4, 2) := by decide +kernel
theorem dX9_byteOfClause_39 : decode cX9_byteOfClause 39 = .ok (.isub, 1) := by decide +kernel
theorem dX9_byteOfClause_40 : decode cX9_byteOfClause 40 = .ok (.istore_n 2, 1) := by decide +kernel
theorem dX9_byteOfClause_41 : decode cX9_byteOfClause 41 = .ok (.iinc 3 1, 3) := by decide +kernel
theorem dX9_byteOfClause_44 : decode cX9_byteOfClause 44 = .ok (.goto (-40), 3) := by decide +kernel
theorem dX9_byteOfClause_47 : decode cX9_byteOfClause 47 = .ok (.iload_n 2, 1) := by decide +kernel
theorem dX9_byteOfClause_48 : decode cX9_byteOfClause 48 = .ok (.ifCond .ne 8, 3) := by decide +kernel
theorem dX9_byteOfClause_51 : decode cX9_byteOfClause 51 = .ok (.bipush 48, 2) := by decide +kernel
theorem dX9_byteOfClause_53 : decode cX9_byteOfClause 53 = .ok (.goto 5, 3) := by decide +kernel
theorem dX9_byteOfClause_56 : decode cX9_byteOfClause 56 = .ok (.bipush 10, 2) := by decide +kernel
theorem dX9_byteOfClause_58 : decode cX9_byteOfClause 58 = .ok (.ireturn, 1) := by decide +kernel
abbrev mtX9_byteOfClause : mj_T := (yX9_byteOfClause.cls, cX9_byteOfClause, 5, (some .int), mj_no, yX9_byteOfClause.name)
abbrev kX9_byteOfClause (x0 : Int32) (x1 : Int32) (g : mj_S) (M : mj_M) (q : Int32 → mj_M → Prop) : Prop := mj_CI yX9_byteOfClause (.code yX9_byteOfClause cX9_byteOfClause 5 (some .int)) 1 [.int (x0), .int (x1)] g M q
theorem kiX9_byteOfClause : mj_cS yX9_byteOfClause cX9_byteOfClause 5 (some .int) 2 := ⟨⟨wd_963, wd_1, wd_964⟩, ⟨by decide +kernel, by decide +kernel, by decide +kernel⟩, Nat.le_of_ble_eq_true rfl⟩
def LX9_byteOfClause_4  (x0 : Int32) (x2 : Int32) (x3 : Int32) (g : mj_S) (M : mj_M) (q : Int32 → mj_M → Prop) : Prop := ∀ d, 1 ≤ d → ∀ ex : Bool, mj_G mtX9_byteOfClause (mj_rm d 0 0) (mj_Fi (mj_qI g q) mj_x0 0 0) ex 0 0 4 [(0, .int (x0)), (2, .int (x2)), (3, .int (x3))] [] g M
theorem eX9_byteOfClause {x0 : Int32} {x1 : Int32} {g : mj_S} {M : mj_M} {q : Int32 → mj_M → Prop}  (h : LX9_byteOfClause_4  (x0) (x1) (0) g (M) q) : kX9_byteOfClause (x0) (x1) g M q := by
  intro d hd; refine mj_enter (by decide +kernel) (Nat.le_of_ble_eq_true rfl) ?_
  generalize (false : Bool) = ex
  show mj_G mtX9_byteOfClause (mj_rm d 0 0) (mj_Fi (mj_qI g q) mj_x0 0 0) ex 0 0 0 [(0, .int (x0)), (1, .int (x1))] [] g M
  refine mg_iload_n dX9_byteOfClause_0 rfl 1 rfl ?_
  refine mg_istore_n (ls' := [(2, .int (x1)), (0, .int (x0)), (1, .int (x1))]) dX9_byteOfClause_1 rfl (Nat.le_of_ble_eq_true rfl) rfl ?_
  refine mg_iconst (v := 0) dX9_byteOfClause_2 (by decide) ?_
  refine mg_istore_n (ls' := [(3, .int (0)), (2, .int (x1)), (0, .int (x0)), (1, .int (x1))]) dX9_byteOfClause_3 rfl (Nat.le_of_ble_eq_true rfl) rfl ?_
  exact mg_pick [2, 1, 0] rfl (h d hd ex)
theorem bX9_byteOfClause_4  {x0 : Int32} {x2 : Int32} {x3 : Int32} {g : mj_S} {M : mj_M} {q : Int32 → mj_M → Prop}  (h : ((20 : Int32) ≤ (x3) → (¬ (x2 : Int32) = 0 → q (10) (M)) ∧ ((x2 : Int32) = 0 → q (48) (M))) ∧ (¬ (20 : Int32) ≤ (x3) → ∃ (q1 : Int32 → mj_M → Prop), kX9_contains (x0) (x3) g (M) q1 ∧ ∀ (v1 : Int32) (M1 : mj_M), q1 v1 M1 → (((v1 : Int32) = 0 → LX9_byteOfClause_4  (x0) (x2) (x3 + 1) g (M1) q) ∧ (¬ (v1 : Int32) = 0 → ∃ (q2 : Int32 → mj_M → Prop), kX9_lengthOfLiteral (x3) g (M1) q2 ∧ ∀ (v2 : Int32) (M2 : mj_M), q2 v2 M2 → (((v2 : Int32) ≤ (x2) → LX9_byteOfClause_4  (x0) ((x2) - (v2)) (x3 + 1) g (M2) q) ∧ (¬ (v2 : Int32) ≤ (x2) → ∃ (q3 : Int32 → mj_M → Prop), kX9_byteOfLiteral (x3) (x2) g (M2) q3 ∧ ∀ (v3 : Int32) (M3 : mj_M), q3 v3 M3 → (q (v3) (M3)))))))) : LX9_byteOfClause_4  x0 x2 x3 g M q := by
  intro d hd ex
  refine mg_iload_n dX9_byteOfClause_4 rfl 2 rfl ?_
  refine mg_bipush (v := 20) dX9_byteOfClause_5 (by decide) ?_
  refine mg_icmp_ge (tgt := 47) dX9_byteOfClause_7 (by decide) (fun hc => ?_) (fun hc => ?_)
  · replace h := h.1 hc
    refine mg_iload_n dX9_byteOfClause_47 rfl 1 rfl ?_
    refine mg_if_ne (tgt := 56) dX9_byteOfClause_48 (by decide) (fun hc => ?_) (fun hc => ?_)
    · replace h := h.1 hc
      refine mg_bipush (v := 10) dX9_byteOfClause_56 (by decide) ?_
      exact me_i dX9_byteOfClause_58 rfl h
    · replace h := h.2 hc
      refine mg_bipush (v := 48) dX9_byteOfClause_51 (by decide) ?_
      refine mg_goto (tgt := 58) dX9_byteOfClause_53 (by decide) ?_
      exact me_i dX9_byteOfClause_58 rfl h
  · replace h := h.2 hc
    refine mg_iload_n dX9_byteOfClause_10 rfl 0 rfl ?_
    refine mg_iload_n dX9_byteOfClause_11 rfl 2 rfl ?_
    obtain ⟨q1, hC, hk⟩ := h
    refine mc_Si [.int (x0), .int (x3)] [] dX9_byteOfClause_12 wd_540 kiX9_contains (Nat.le_of_ble_eq_true rfl) (Nat.le_trans (Nat.le_of_ble_eq_true rfl) hd) hC (fun v1 M1 hq => ?_)
    replace h := hk v1 M1 hq
    refine mg_if_eq (tgt := 41) dX9_byteOfClause_15 (by decide) (fun hc => ?_) (fun hc => ?_)
    · replace h := h.1 hc
      refine mg_iinc (v := x3 + 1) (ls' := [(3, .int (x3 + 1)), (0, .int (x0)), (2, .int (x2))]) dX9_byteOfClause_41 2 rfl rfl (Nat.le_of_ble_eq_true rfl) rfl ?_
      refine mg_goto (tgt := 4) dX9_byteOfClause_44 (by decide) ?_
      exact mg_pick [1, 2, 0] rfl (h d hd ex)
    · replace h := h.2 hc
      refine mg_iload_n dX9_byteOfClause_18 rfl 2 rfl ?_
      obtain ⟨q2, hC, hk⟩ := h
      refine mc_Si [.int (x3)] [] dX9_byteOfClause_19 wd_959 kiX9_lengthOfLiteral (Nat.le_of_ble_eq_true rfl) (Nat.le_trans (Nat.le_of_ble_eq_true rfl) hd) hC (fun v2 M2 hq => ?_)
      replace h := hk v2 M2 hq
      refine mg_istore (ls' := [(4, .int (v2)), (0, .int (x0)), (2, .int (x2)), (3, .int (x3))]) dX9_byteOfClause_22 (Nat.le_of_ble_eq_true rfl) rfl ?_
      refine mg_iload_n dX9_byteOfClause_24 rfl 2 rfl ?_
      refine mg_iload dX9_byteOfClause_25 0 rfl ?_
      refine mg_icmp_ge (tgt := 36) dX9_byteOfClause_27 (by decide) (fun hc => ?_) (fun hc => ?_)
      · replace h := h.1 hc
        refine mg_iload_n dX9_byteOfClause_36 rfl 2 rfl ?_
        refine mg_iload dX9_byteOfClause_37 0 rfl ?_
        refine mg_isub dX9_byteOfClause_39 ?_
        refine mg_istore_n (ls' := [(2, .int ((x2) - (v2))), (4, .int (v2)), (0, .int (x0)), (3, .int (x3))]) dX9_byteOfClause_40 rfl (Nat.le_of_ble_eq_true rfl) rfl ?_
        refine mg_iinc (v := x3 + 1) (ls' := [(3, .int (x3 + 1)), (2, .int ((x2) - (v2))), (4, .int (v2)), (0, .int (x0))]) dX9_byteOfClause_41 3 rfl rfl (Nat.le_of_ble_eq_true rfl) rfl ?_
        refine mg_goto (tgt := 4) dX9_byteOfClause_44 (by decide) ?_
        exact mg_pick [3, 1, 0] rfl (h d hd ex)
      · replace h := h.2 hc
        refine mg_iload_n dX9_byteOfClause_30 rfl 3 rfl ?_
        refine mg_iload_n dX9_byteOfClause_31 rfl 2 rfl ?_
        obtain ⟨q3, hC, hk⟩ := h
        refine mc_Si [.int (x3), .int (x2)] [] dX9_byteOfClause_32 wd_965 kiX9_byteOfLiteral (Nat.le_of_ble_eq_true rfl) (Nat.le_trans (Nat.le_of_ble_eq_true rfl) hd) hC (fun v3 M3 hq => ?_)
        replace h := hk v3 M3 hq
        exact me_i dX9_byteOfClause_35 rfl h
theorem dX9_nextSubset_0 : decode cX9_nextSubset 0 = .ok (.iload_n 0, 1) := by decide +kernel
theorem dX9_nextSubset_1 : decode cX9_nextSubset 1 = .ok (.iload_n 1, 1) := by decide +kernel
theorem dX9_nextSubset_2 : decode cX9_nextSubset 2 = .ok (.isub, 1) := by decide +kernel
theorem dX9_nextSubset_3 : decode cX9_nextSubset 3 = .ok (.iload_n 1, 1) := by decide +kernel
theorem dX9_nextSubset_4 : decode cX9_nextSubset 4 = .ok (.iand, 1) := by decide +kernel
theorem dX9_nextSubset_5 : decode cX9_nextSubset 5 = .ok (.ireturn, 1) := by decide +kernel
abbrev mtX9_nextSubset : mj_T := (yX9_nextSubset.cls, cX9_nextSubset, 2, (some .int), mj_no, yX9_nextSubset.name)
abbrev kX9_nextSubset (x0 : Int32) (x1 : Int32) (g : mj_S) (M : mj_M) (q : Int32 → mj_M → Prop) : Prop := mj_CI yX9_nextSubset (.code yX9_nextSubset cX9_nextSubset 2 (some .int)) 0 [.int (x0), .int (x1)] g M q
theorem kiX9_nextSubset : mj_cS yX9_nextSubset cX9_nextSubset 2 (some .int) 2 := ⟨⟨wd_358, wd_1, wd_359⟩, ⟨by decide +kernel, by decide +kernel, by decide +kernel⟩, Nat.le_of_ble_eq_true rfl⟩
theorem eX9_nextSubset {x0 : Int32} {x1 : Int32} {g : mj_S} {M : mj_M} {q : Int32 → mj_M → Prop}  (h : q (((x0) - (x1)) &&& (x1)) (M)) : kX9_nextSubset (x0) (x1) g M q := by
  intro d hd; refine mj_enter (by decide +kernel) (Nat.le_of_ble_eq_true rfl) ?_
  generalize (false : Bool) = ex
  show mj_G mtX9_nextSubset (mj_rm d 0 0) (mj_Fi (mj_qI g q) mj_x0 0 0) ex 0 0 0 [(0, .int (x0)), (1, .int (x1))] [] g M
  refine mg_iload_n dX9_nextSubset_0 rfl 0 rfl ?_
  refine mg_iload_n dX9_nextSubset_1 rfl 1 rfl ?_
  refine mg_isub dX9_nextSubset_2 ?_
  refine mg_iload_n dX9_nextSubset_3 rfl 1 rfl ?_
  refine mg_iand dX9_nextSubset_4 ?_
  exact me_i dX9_nextSubset_5 rfl h
theorem dX9_mixed_0 : decode cX9_mixed 0 = .ok (.ldc2_w 370, 3) := by decide +kernel
theorem dX9_mixed_3 : decode cX9_mixed 3 = .ok (.lload_n 0, 1) := by decide +kernel
theorem dX9_mixed_4 : decode cX9_mixed 4 = .ok (.lmul, 1) := by decide +kernel
theorem dX9_mixed_5 : decode cX9_mixed 5 = .ok (.lload_n 2, 1) := by decide +kernel
theorem dX9_mixed_6 : decode cX9_mixed 6 = .ok (.ladd, 1) := by decide +kernel
theorem dX9_mixed_7 : decode cX9_mixed 7 = .ok (.lreturn, 1) := by decide +kernel
abbrev mtX9_mixed : mj_T := (yX9_mixed.cls, cX9_mixed, 4, (some .long), mj_no, yX9_mixed.name)
abbrev kX9_mixed (x0 : Int64) (x2 : Int64) (g : mj_S) (M : mj_M) (q : Int64 → mj_M → Prop) : Prop := mj_CL yX9_mixed (.code yX9_mixed cX9_mixed 4 (some .long)) 0 [.long (x0), .long (x2)] g M q
theorem kiX9_mixed : mj_cS yX9_mixed cX9_mixed 4 (some .long) 2 := ⟨⟨wd_643, wd_1, wd_644⟩, ⟨by decide +kernel, by decide +kernel, by decide +kernel⟩, Nat.le_of_ble_eq_true rfl⟩
theorem eX9_mixed {x0 : Int64} {x2 : Int64} {g : mj_S} {M : mj_M} {q : Int64 → mj_M → Prop}  (h : q ((((31 : Int64)) * (x0)) + (x2)) (M)) : kX9_mixed (x0) (x2) g M q := by
  intro d hd; refine mj_enter (by decide +kernel) (Nat.le_of_ble_eq_true rfl) ?_
  generalize (false : Bool) = ex
  show mj_G mtX9_mixed (mj_rm d 0 0) (mj_Fi (mj_qL g q) mj_x0 0 0) ex 0 0 0 [(0, .long (x0)), (2, .long (x2))] [] g M
  refine mg_ldc2 (v := 31) dX9_mixed_0 wd_645 ?_
  refine mg_lload_n dX9_mixed_3 rfl 0 rfl ?_
  refine mg_lmul dX9_mixed_4 ?_
  refine mg_lload_n dX9_mixed_5 rfl 1 rfl ?_
  refine mg_ladd dX9_mixed_6 ?_
  exact me_l dX9_mixed_7 rfl h
theorem dX9_mixedSet_0 : decode cX9_mixedSet 0 = .ok (.lload_n 0, 1) := by decide +kernel
theorem dX9_mixedSet_1 : decode cX9_mixedSet 1 = .ok (.iload_n 2, 1) := by decide +kernel
theorem dX9_mixedSet_2 : decode cX9_mixedSet 2 = .ok (.iconst 1, 1) := by decide +kernel
theorem dX9_mixedSet_3 : decode cX9_mixedSet 3 = .ok (.invokestatic 115, 3) := by decide +kernel
theorem dX9_mixedSet_6 : decode cX9_mixedSet 6 = .ok (.i2l, 1) := by decide +kernel
theorem dX9_mixedSet_7 : decode cX9_mixedSet 7 = .ok (.invokestatic 330, 3) := by decide +kernel
theorem dX9_mixedSet_10 : decode cX9_mixedSet 10 = .ok (.iload_n 2, 1) := by decide +kernel
theorem dX9_mixedSet_11 : decode cX9_mixedSet 11 = .ok (.iconst 0, 1) := by decide +kernel
theorem dX9_mixedSet_12 : decode cX9_mixedSet 12 = .ok (.invokestatic 115, 3) := by decide +kernel
theorem dX9_mixedSet_15 : decode cX9_mixedSet 15 = .ok (.i2l, 1) := by decide +kernel
theorem dX9_mixedSet_16 : decode cX9_mixedSet 16 = .ok (.invokestatic 330, 3) := by decide +kernel
theorem dX9_mixedSet_19 : decode cX9_mixedSet 19 = .ok (.lreturn, 1) := by decide +kernel
abbrev mtX9_mixedSet : mj_T := (yX9_mixedSet.cls, cX9_mixedSet, 3, (some .long), mj_no, yX9_mixedSet.name)
abbrev kX9_mixedSet (x0 : Int64) (x2 : Int32) (g : mj_S) (M : mj_M) (q : Int64 → mj_M → Prop) : Prop := mj_CL yX9_mixedSet (.code yX9_mixedSet cX9_mixedSet 3 (some .long)) 2 [.long (x0), .int (x2)] g M q
theorem kiX9_mixedSet : mj_cS yX9_mixedSet cX9_mixedSet 3 (some .long) 2 := ⟨⟨wd_650, wd_1, wd_651⟩, ⟨by decide +kernel, by decide +kernel, by decide +kernel⟩, Nat.le_of_ble_eq_true rfl⟩
theorem eX9_mixedSet {x0 : Int64} {x2 : Int32} {g : mj_S} {M : mj_M} {q : Int64 → mj_M → Prop}  (h : ∃ (q1 : Int32 → mj_M → Prop), kX9_half (x2) (1) g (M) q1 ∧ ∀ (v1 : Int32) (M1 : mj_M), q1 v1 M1 → (∃ (q2 : Int64 → mj_M → Prop), kX9_mixed (x0) (Int32.toInt64 (v1)) g (M1) q2 ∧ ∀ (v2 : Int64) (M2 : mj_M), q2 v2 M2 → (∃ (q3 : Int32 → mj_M → Prop), kX9_half (x2) (0) g (M2) q3 ∧ ∀ (v3 : Int32) (M3 : mj_M), q3 v3 M3 → (∃ (q4 : Int64 → mj_M → Prop), kX9_mixed (v2) (Int32.toInt64 (v3)) g (M3) q4 ∧ ∀ (v4 : Int64) (M4 : mj_M), q4 v4 M4 → (q (v4) (M4)))))) : kX9_mixedSet (x0) (x2) g M q := by
  intro d hd; refine mj_enter (by decide +kernel) (Nat.le_of_ble_eq_true rfl) ?_
  generalize (false : Bool) = ex
  show mj_G mtX9_mixedSet (mj_rm d 0 0) (mj_Fi (mj_qL g q) mj_x0 0 0) ex 0 0 0 [(0, .long (x0)), (2, .int (x2))] [] g M
  refine mg_lload_n dX9_mixedSet_0 rfl 0 rfl ?_
  refine mg_iload_n dX9_mixedSet_1 rfl 1 rfl ?_
  refine mg_iconst (v := 1) dX9_mixedSet_2 (by decide) ?_
  obtain ⟨q1, hC, hk⟩ := h
  refine mc_Si [.int (x2), .int (1)] [.long (x0)] dX9_mixedSet_3 wd_652 kiX9_half (Nat.le_of_ble_eq_true rfl) (Nat.le_trans (Nat.le_of_ble_eq_true rfl) hd) hC (fun v1 M1 hq => ?_)
  replace h := hk v1 M1 hq
  refine mg_i2l dX9_mixedSet_6 ?_
  obtain ⟨q2, hC, hk⟩ := h
  refine mc_Sl [.long (x0), .long (Int32.toInt64 (v1))] [] dX9_mixedSet_7 wd_642 kiX9_mixed (Nat.le_of_ble_eq_true rfl) (Nat.le_trans (Nat.le_of_ble_eq_true rfl) hd) hC (fun v2 M2 hq => ?_)
  replace h := hk v2 M2 hq
  refine mg_iload_n dX9_mixedSet_10 rfl 1 rfl ?_
  refine mg_iconst (v := 0) dX9_mixedSet_11 (by decide) ?_
  obtain ⟨q3, hC, hk⟩ := h
  refine mc_Si [.int (x2), .int (0)] [.long (v2)] dX9_mixedSet_12 wd_652 kiX9_half (Nat.le_of_ble_eq_true rfl) (Nat.le_trans (Nat.le_of_ble_eq_true rfl) hd) hC (fun v3 M3 hq => ?_)
  replace h := hk v3 M3 hq
  refine mg_i2l dX9_mixedSet_15 ?_
  obtain ⟨q4, hC, hk⟩ := h
  refine mc_Sl [.long (v2), .long (Int32.toInt64 (v3))] [] dX9_mixedSet_16 wd_642 kiX9_mixed (Nat.le_of_ble_eq_true rfl) (Nat.le_trans (Nat.le_of_ble_eq_true rfl) hd) hC (fun v4 M4 hq => ?_)
  replace h := hk v4 M4 hq
  exact me_l dX9_mixedSet_19 rfl h
