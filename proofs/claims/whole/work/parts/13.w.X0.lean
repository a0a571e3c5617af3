theorem dX9_contains_0 : decode cX9_contains 0 = .ok (.iload_n 0, 1) := by decide +kernel
theorem dX9_contains_1 : decode cX9_contains 1 = .ok (.iload_n 1, 1) := by decide +kernel
theorem dX9_contains_2 : decode cX9_contains 2 = .ok (.ishr, 1) := by decide +kernel
theorem dX9_contains_3 : decode cX9_contains 3 = .ok (.iconst 1, 1) := by decide +kernel
theorem dX9_contains_4 : decode cX9_contains 4 = .ok (.iand, 1) := by decide +kernel
theorem dX9_contains_5 : decode cX9_contains 5 = .ok (.ifCond .eq 7, 3) := by decide +kernel
theorem dX9_contains_8 : decode cX9_contains 8 = .ok (.iconst 1, 1) := by decide +kernel
theorem dX9_contains_9 : decode cX9_contains 9 = .ok (.goto 4, 3) := by decide +kernel
theorem dX9_contains_12 : decode cX9_contains 12 = .ok (.iconst 0, 1) := by decide +kernel
theorem dX9_contains_13 : decode cX9_contains 13 = .ok (.ireturn, 1) := by decide +kernel
abbrev mtX9_contains : mj_T := (yX9_contains.cls, cX9_contains, 2, (some .boolean), mj_no, yX9_contains.name)
abbrev kX9_contains (x0 : Int32) (x1 : Int32) (g : mj_S) (M : mj_M) (q : Int32 → mj_M → Prop) : Prop := mj_CI yX9_contains (.code yX9_contains cX9_contains 2 (some .boolean)) 0 [.int (x0), .int (x1)] g M q
theorem kiX9_contains : mj_cS yX9_contains cX9_contains 2 (some .boolean) 2 := ⟨⟨wd_444, wd_1, wd_445⟩, ⟨by decide +kernel, by decide +kernel, by decide +kernel⟩, Nat.le_of_ble_eq_true rfl⟩
theorem eX9_contains {x0 : Int32} {x1 : Int32} {g : mj_S} {M : mj_M} {q : Int32 → mj_M → Prop}  (h : ((((x0) >>> ((x1) &&& 31)) &&& (1) : Int32) = 0 → q 0 (M)) ∧ (¬ (((x0) >>> ((x1) &&& 31)) &&& (1) : Int32) = 0 → q 1 (M))) : kX9_contains (x0) (x1) g M q := by
  intro d hd; refine mj_enter (by decide +kernel) (Nat.le_of_ble_eq_true rfl) ?_
  generalize (false : Bool) = ex
  show mj_G mtX9_contains (mj_rm d 0 0) (mj_Fi (mj_qI g q) mj_x0 0 0) ex 0 0 0 [(0, .int (x0)), (1, .int (x1))] [] g M
  refine mg_iload_n dX9_contains_0 rfl 0 rfl ?_
  refine mg_iload_n dX9_contains_1 rfl 1 rfl ?_
  refine mg_ishr dX9_contains_2 ?_
  refine mg_iconst (v := 1) dX9_contains_3 (by decide) ?_
  refine mg_iand dX9_contains_4 ?_
  refine mg_if_eq (tgt := 12) dX9_contains_5 (by decide) (fun hc => ?_) (fun hc => ?_)
  · replace h := h.1 hc
    refine mg_iconst (v := 0) dX9_contains_12 (by decide) ?_
    exact me_z dX9_contains_13 rfl (Or.inl rfl) h
  · replace h := h.2 hc
    refine mg_iconst (v := 1) dX9_contains_8 (by decide) ?_
    refine mg_goto (tgt := 13) dX9_contains_9 (by decide) ?_
    exact me_z dX9_contains_13 rfl (Or.inr rfl) h
theorem dX0_size_0 : decode cX0_size 0 = .ok (.aload_n 0, 1) := by decide +kernel
theorem dX0_size_1 : decode cX0_size 1 = .ok (.getfield 19, 3) := by decide +kernel
theorem dX0_size_4 : decode cX0_size 4 = .ok (.ireturn, 1) := by decide +kernel
abbrev mtX0_size : mj_T := (yX0_size.cls, cX0_size, 1, (some .int), mj_no, yX0_size.name)
abbrev kX0_size (k0 : Nat) (g : mj_S) (M : mj_M) (q : Int32 → mj_M → Prop) : Prop := mj_CI yX0_size (.code yX0_size cX0_size 1 (some .int)) 0 [.ref (k0)] g M q
theorem kiX0_size : mj_cV yX0_size cX0_size 1 (some .int) 0 := ⟨⟨wd_261, wd_262, wd_3, wd_263⟩, ⟨by decide +kernel, by decide +kernel, by decide +kernel⟩, Nat.le_of_ble_eq_true rfl⟩
theorem eX0_size {k0 n0 : Nat} {g : mj_S} {M : mj_M} {q : Int32 → mj_M → Prop} (h0 : is0 g k0 n0) (h : q ((M).1 (k0) 1) (M)) : kX0_size (k0) g M q := by
  intro d hd; refine mj_enter (by decide +kernel) (Nat.le_of_ble_eq_true rfl) ?_
  generalize (false : Bool) = ex
  show mj_G mtX0_size (mj_rm d 0 0) (mj_Fi (mj_qI g q) mj_x0 0 0) ex 0 0 0 [(0, .ref (k0))] [] g M
  refine mg_aload_n dX0_size_0 rfl 0 rfl ?_
  refine mg_getI (j := 1) dX0_size_1 kc_0 (Nat.le_of_ble_eq_true rfl) wd_49 rfl rfl h0.1.1 h0.1.2 rfl ?_
  exact me_i dX0_size_4 rfl h
theorem dX0_at_0 : decode cX0_at 0 = .ok (.iload_n 1, 1) := by decide +kernel
theorem dX0_at_1 : decode cX0_at 1 = .ok (.ifCond .lt 20, 3) := by decide +kernel
theorem dX0_at_4 : decode cX0_at 4 = .ok (.iload_n 1, 1) := by decide +kernel
theorem dX0_at_5 : decode cX0_at 5 = .ok (.aload_n 0, 1) := by decide +kernel
theorem dX0_at_6 : decode cX0_at 6 = .ok (.getfield 19, 3) := by decide +kernel
theorem dX0_at_9 : decode cX0_at 9 = .ok (.if_icmp .ge 12, 3) := by decide +kernel
theorem dX0_at_12 : decode cX0_at 12 = .ok (.aload_n 0, 1) := by decide +kernel
theorem dX0_at_13 : decode cX0_at 13 = .ok (.getfield 13, 3) := by decide +kernel
theorem dX0_at_16 : decode cX0_at 16 = .ok (.iload_n 1, 1) := by decide +kernel
theorem dX0_at_17 : decode cX0_at 17 = .ok (.iaload, 1) := by decide +kernel
theorem dX0_at_18 : decode cX0_at 18 = .ok (.goto 4, 3) := by decide +kernel
theorem dX0_at_21 : decode cX0_at 21 = .ok (.iconst 0, 1) := by decide +kernel
theorem dX0_at_22 : decode cX0_at 22 = .ok (.ireturn, 1) := by decide +kernel
abbrev mtX0_at : mj_T := (yX0_at.cls, cX0_at, 2, (some .int), mj_no, yX0_at.name)
abbrev kX0_at (k0 : Nat) (x1 : Int32) (g : mj_S) (M : mj_M) (q : Int32 → mj_M → Prop) : Prop := mj_CI yX0_at (.code yX0_at cX0_at 2 (some .int)) 0 [.ref (k0), .int (x1)] g M q
theorem kiX0_at : mj_cV yX0_at cX0_at 2 (some .int) 1 := ⟨⟨wd_291, wd_292, wd_3, wd_293⟩, ⟨by decide +kernel, by decide +kernel, by decide +kernel⟩, Nat.le_of_ble_eq_true rfl⟩
theorem eX0_at {k0 n0 : Nat} {x1 : Int32} {g : mj_S} {M : mj_M} {q : Int32 → mj_M → Prop} (h0 : is0 g k0 n0) (h : ((x1 : Int32) < 0 → q (0) (M)) ∧ (¬ (x1 : Int32) < 0 → (((M).1 (k0) 1 : Int32) ≤ x1 → q (0) (M)) ∧ (¬ ((M).1 (k0) 1 : Int32) ≤ x1 → vp_in (x1) (n0) ∧ (q ((M).1 (k0 + 1) (Int32.toNatClampNeg (x1))) (M))))) : kX0_at (k0) (x1) g M q := by
  intro d hd; refine mj_enter (by decide +kernel) (Nat.le_of_ble_eq_true rfl) ?_
  generalize (false : Bool) = ex
  show mj_G mtX0_at (mj_rm d 0 0) (mj_Fi (mj_qI g q) mj_x0 0 0) ex 0 0 0 [(0, .ref (k0)), (1, .int (x1))] [] g M
  refine mg_iload_n dX0_at_0 rfl 1 rfl ?_
  refine mg_if_lt (tgt := 21) dX0_at_1 (by decide) (fun hc => ?_) (fun hc => ?_)
  · replace h := h.1 hc
    refine mg_iconst (v := 0) dX0_at_21 (by decide) ?_
    exact me_i dX0_at_22 rfl h
  · replace h := h.2 hc
    refine mg_iload_n dX0_at_4 rfl 1 rfl ?_
    refine mg_aload_n dX0_at_5 rfl 0 rfl ?_
    refine mg_getI (j := 1) dX0_at_6 kc_0 (Nat.le_of_ble_eq_true rfl) wd_49 rfl rfl h0.1.1 h0.1.2 rfl ?_
    refine mg_icmp_ge (tgt := 21) dX0_at_9 (by decide) (fun hc => ?_) (fun hc => ?_)
    · replace h := h.1 hc
      refine mg_iconst (v := 0) dX0_at_21 (by decide) ?_
      exact me_i dX0_at_22 rfl h
    · replace h := h.2 hc
      refine mg_aload_n dX0_at_12 rfl 0 rfl ?_
      refine mg_getR (j := 0) dX0_at_13 kc_0 (Nat.le_of_ble_eq_true rfl) wd_48 rfl rfl h0.1.1 h0.1.2 h0.2.1 ?_
      refine mg_iload_n dX0_at_16 rfl 1 rfl ?_
      refine mg_iald dX0_at_17 h0.2.2.1 h0.2.2.2 h.1 rfl ?_
      replace h := h.2
      refine mg_goto (tgt := 22) dX0_at_18 (by decide) ?_
      exact me_i dX0_at_22 rfl h
theorem dX0_add_0 : decode cX0_add 0 = .ok (.aload_n 0, 1) := by decide +kernel
theorem dX0_add_1 : decode cX0_add 1 = .ok (.getfield 19, 3) := by decide +kernel
theorem dX0_add_4 : decode cX0_add 4 = .ok (.aload_n 0, 1) := by decide +kernel
theorem dX0_add_5 : decode cX0_add 5 = .ok (.getfield 13, 3) := by decide +kernel
theorem dX0_add_8 : decode cX0_add 8 = .ok (.arraylength, 1) := by decide +kernel
theorem dX0_add_9 : decode cX0_add 9 = .ok (.if_icmp .ge 23, 3) := by decide +kernel
theorem dX0_add_12 : decode cX0_add 12 = .ok (.aload_n 0, 1) := by decide +kernel
theorem dX0_add_13 : decode cX0_add 13 = .ok (.getfield 13, 3) := by decide +kernel
theorem dX0_add_16 : decode cX0_add 16 = .ok (.aload_n 0, 1) := by decide +kernel
theorem dX0_add_17 : decode cX0_add 17 = .ok (.getfield 19, 3) := by decide +kernel
theorem dX0_add_20 : decode cX0_add 20 = .ok (.iload_n 1, 1) := by decide +kernel
theorem dX0_add_21 : decode cX0_add 21 = .ok (.iastore, 1) := by decide +kernel
theorem dX0_add_22 : decode cX0_add 22 = .ok (.aload_n 0, 1) := by decide +kernel
theorem dX0_add_23 : decode cX0_add 23 = .ok (.dup, 1) := by decide +kernel
theorem dX0_add_24 : decode cX0_add 24 = .ok (.getfield 19, 3) := by decide +kernel
theorem dX0_add_27 : decode cX0_add 27 = .ok (.iconst 1, 1) := by decide +kernel
theorem dX0_add_28 : decode cX0_add 28 = .ok (.iadd, 1) := by decide +kernel
theorem dX0_add_29 : decode cX0_add 29 = .ok (.putfield 19, 3) := by decide +kernel
theorem dX0_add_32 : decode cX0_add 32 = .ok (.return_, 1) := by decide +kernel
abbrev mtX0_add : mj_T := (yX0_add.cls, cX0_add, 2, none, mj_no, yX0_add.name)
abbrev kX0_add (k0 : Nat) (x1 : Int32) (g : mj_S) (M : mj_M) (q : mj_M → Prop) : Prop := mj_CV yX0_add (.code yX0_add cX0_add 2 none) 0 [.ref (k0), .int (x1)] g M q
theorem kiX0_add : mj_cV yX0_add cX0_add 2 none 1 := ⟨⟨wd_386, wd_387, wd_3, wd_388⟩, ⟨by decide +kernel, by decide +kernel, by decide +kernel⟩, Nat.le_of_ble_eq_true rfl⟩
theorem eX0_add {k0 n0 : Nat} {x1 : Int32} {g : mj_S} {M : mj_M} {q : mj_M → Prop} (h0 : is0 g k0 n0) (h : ((nI (n0) : Int32) ≤ (M).1 (k0) 1 → q (M)) ∧ (¬ (nI (n0) : Int32) ≤ (M).1 (k0) 1 → vp_in ((M).1 (k0) 1) (n0) ∧ (q (mj_wI (mj_wI (M) (k0 + 1) (Int32.toNatClampNeg ((M).1 (k0) 1)) (x1)) (k0) 1 (((mj_wI (M) (k0 + 1) (Int32.toNatClampNeg ((M).1 (k0) 1)) (x1)).1 (k0) 1) + (1)))))) : kX0_add (k0) (x1) g M q := by
  intro d hd; refine mj_enter (by decide +kernel) (Nat.le_of_ble_eq_true rfl) ?_
  generalize (false : Bool) = ex
  show mj_G mtX0_add (mj_rm d 0 0) (mj_Fi (mj_qV g q) mj_x0 0 0) ex 0 0 0 [(0, .ref (k0)), (1, .int (x1))] [] g M
  refine mg_aload_n dX0_add_0 rfl 0 rfl ?_
  refine mg_getI (j := 1) dX0_add_1 kc_0 (Nat.le_of_ble_eq_true rfl) wd_49 rfl rfl h0.1.1 h0.1.2 rfl ?_
  refine mg_aload_n dX0_add_4 rfl 0 rfl ?_
  refine mg_getR (j := 0) dX0_add_5 kc_0 (Nat.le_of_ble_eq_true rfl) wd_48 rfl rfl h0.1.1 h0.1.2 h0.2.1 ?_
  refine mg_alen (v := nI (n0)) dX0_add_8 h0.2.2.1 h0.2.2.2 (Nat.le_of_ble_eq_true rfl) rfl ?_
  refine mg_icmp_ge (tgt := 32) dX0_add_9 (by decide) (fun hc => ?_) (fun hc => ?_)
  · replace h := h.1 hc
    exact me_v dX0_add_32 rfl h
  · replace h := h.2 hc
    refine mg_aload_n dX0_add_12 rfl 0 rfl ?_
    refine mg_getR (j := 0) dX0_add_13 kc_0 (Nat.le_of_ble_eq_true rfl) wd_48 rfl rfl h0.1.1 h0.1.2 h0.2.1 ?_
    refine mg_aload_n dX0_add_16 rfl 0 rfl ?_
    refine mg_getI (j := 1) dX0_add_17 kc_0 (Nat.le_of_ble_eq_true rfl) wd_49 rfl rfl h0.1.1 h0.1.2 rfl ?_
    refine mg_iload_n dX0_add_20 rfl 1 rfl ?_
    refine mg_iast dX0_add_21 h0.2.2.1 h0.2.2.2 h.1 ?_
    replace h := h.2
    refine mg_aload_n dX0_add_22 rfl 0 rfl ?_
    refine mg_dup dX0_add_23 rfl ?_
    refine mg_getI (j := 1) dX0_add_24 kc_0 (Nat.le_of_ble_eq_true rfl) wd_49 rfl rfl h0.1.1 h0.1.2 rfl ?_
    refine mg_iconst (v := 1) dX0_add_27 (by decide) ?_
    refine mg_iadd dX0_add_28 ?_
    refine mg_putI (j := 1) dX0_add_29 kc_0 (Nat.le_of_ble_eq_true rfl) wd_49 rfl rfl rfl h0.1.1 h0.1.2 ?_
    exact me_v dX0_add_32 rfl h
theorem dX0_put_0 : decode cX0_put 0 = .ok (.iload_n 1, 1) := by decide +kernel
theorem dX0_put_1 : decode cX0_put 1 = .ok (.ifCond .lt 18, 3) := by decide +kernel
theorem dX0_put_4 : decode cX0_put 4 = .ok (.iload_n 1, 1) := by decide +kernel
theorem dX0_put_5 : decode cX0_put 5 = .ok (.aload_n 0, 1) := by decide +kernel
theorem dX0_put_6 : decode cX0_put 6 = .ok (.getfield 19, 3) := by decide +kernel
theorem dX0_put_9 : decode cX0_put 9 = .ok (.if_icmp .ge 10, 3) := by decide +kernel
theorem dX0_put_12 : decode cX0_put 12 = .ok (.aload_n 0, 1) := by decide +kernel
theorem dX0_put_13 : decode cX0_put 13 = .ok (.getfield 13, 3) := by decide +kernel
theorem dX0_put_16 : decode cX0_put 16 = .ok (.iload_n 1, 1) := by decide +kernel
theorem dX0_put_17 : decode cX0_put 17 = .ok (.iload_n 2, 1) := by decide +kernel
theorem dX0_put_18 : decode cX0_put 18 = .ok (.iastore, 1) := by decide +kernel
theorem dX0_put_19 : decode cX0_put 19 = .ok (.return_, 1) := by decide +kernel
abbrev mtX0_put : mj_T := (yX0_put.cls, cX0_put, 3, none, mj_no, yX0_put.name)
abbrev kX0_put (k0 : Nat) (x1 : Int32) (x2 : Int32) (g : mj_S) (M : mj_M) (q : mj_M → Prop) : Prop := mj_CV yX0_put (.code yX0_put cX0_put 3 none) 0 [.ref (k0), .int (x1), .int (x2)] g M q
theorem kiX0_put : mj_cV yX0_put cX0_put 3 none 2 := ⟨⟨wd_478, wd_479, wd_3, wd_480⟩, ⟨by decide +kernel, by decide +kernel, by decide +kernel⟩, Nat.le_of_ble_eq_true rfl⟩
theorem eX0_put {k0 n0 : Nat} {x1 : Int32} {x2 : Int32} {g : mj_S} {M : mj_M} {q : mj_M → Prop} (h0 : is0 g k0 n0) (h : ((x1 : Int32) < 0 → q (M)) ∧ (¬ (x1 : Int32) < 0 → (((M).1 (k0) 1 : Int32) ≤ x1 → q (M)) ∧ (¬ ((M).1 (k0) 1 : Int32) ≤ x1 → vp_in (x1) (n0) ∧ (q (mj_wI (M) (k0 + 1) (Int32.toNatClampNeg (x1)) (x2)))))) : kX0_put (k0) (x1) (x2) g M q := by
  intro d hd; refine mj_enter (by decide +kernel) (Nat.le_of_ble_eq_true rfl) ?_
  generalize (false : Bool) = ex
  show mj_G mtX0_put (mj_rm d 0 0) (mj_Fi (mj_qV g q) mj_x0 0 0) ex 0 0 0 [(0, .ref (k0)), (1, .int (x1)), (2, .int (x2))] [] g M
  refine mg_iload_n dX0_put_0 rfl 1 rfl ?_
  refine mg_if_lt (tgt := 19) dX0_put_1 (by decide) (fun hc => ?_) (fun hc => ?_)
  · replace h := h.1 hc
    exact me_v dX0_put_19 rfl h
  · replace h := h.2 hc
    refine mg_iload_n dX0_put_4 rfl 1 rfl ?_
    refine mg_aload_n dX0_put_5 rfl 0 rfl ?_
    refine mg_getI (j := 1) dX0_put_6 kc_0 (Nat.le_of_ble_eq_true rfl) wd_49 rfl rfl h0.1.1 h0.1.2 rfl ?_
    refine mg_icmp_ge (tgt := 19) dX0_put_9 (by decide) (fun hc => ?_) (fun hc => ?_)
    · replace h := h.1 hc
      exact me_v dX0_put_19 rfl h
    · replace h := h.2 hc
      refine mg_aload_n dX0_put_12 rfl 0 rfl ?_
      refine mg_getR (j := 0) dX0_put_13 kc_0 (Nat.le_of_ble_eq_true rfl) wd_48 rfl rfl h0.1.1 h0.1.2 h0.2.1 ?_
      refine mg_iload_n dX0_put_16 rfl 1 rfl ?_
      refine mg_iload_n dX0_put_17 rfl 2 rfl ?_
      refine mg_iast dX0_put_18 h0.2.2.1 h0.2.2.2 h.1 ?_
      replace h := h.2
      exact me_v dX0_put_19 rfl h
theorem dX0_removeAt_0 : decode cX0_removeAt 0 = .ok (.iload_n 1, 1) := by decide +kernel
theorem dX0_removeAt_1 : decode cX0_removeAt 1 = .ok (.ifCond .lt 11, 3) := by decide +kernel
theorem dX0_removeAt_4 : decode cX0_removeAt 4 = .ok (.iload_n 1, 1) := by decide +kernel
theorem dX0_removeAt_5 : decode cX0_removeAt 5 = .ok (.aload_n 0, 1) := by decide +kernel
theorem dX0_removeAt_6 : decode cX0_removeAt 6 = .ok (.getfield 19, 3) := by decide +kernel
theorem dX0_removeAt_9 : decode cX0_removeAt 9 = .ok (.if_icmp .lt 4, 3) := by decide +kernel
theorem dX0_removeAt_12 : decode cX0_removeAt 12 = .ok (.return_, 1) := by decide +kernel
theorem dX0_removeAt_13 : decode cX0_removeAt 13 = .ok (.iload_n 1, 1) := by decide +kernel
theorem dX0_removeAt_14 : decode cX0_removeAt 14 = .ok (.iconst 1, 1) := by decide +kernel
theorem dX0_removeAt_15 : decode cX0_removeAt 15 = .ok (.iadd, 1) := by decide +kernel
theorem dX0_removeAt_16 : decode cX0_removeAt 16 = .ok (.istore_n 2, 1) := by decide +kernel
theorem dX0_removeAt_17 : decode cX0_removeAt 17 = .ok (.iload_n 2, 1) := by decide +kernel
theorem dX0_removeAt_18 : decode cX0_removeAt 18 = .ok (.aload_n 0, 1) := by decide +kernel
theorem dX0_removeAt_19 : decode cX0_removeAt 19 = .ok (.getfield 19, 3) := by decide +kernel
theorem dX0_removeAt_22 : decode cX0_removeAt 22 = .ok (.if_icmp .ge 23, 3) := by decide +kernel
theorem dX0_removeAt_25 : decode cX0_removeAt 25 = .ok (.aload_n 0, 1) := by decide +kernel
theorem dX0_removeAt_26 : decode cX0_removeAt 26 = .ok (.getfield 13, 3) := by decide +kernel
theorem dX0_removeAt_29 : decode cX0_removeAt 29 = .ok (.iload_n 2, 1) := by decide +kernel
theorem dX0_removeAt_30 : decode cX0_removeAt 30 = .ok (.iconst 1, 1) := by decide +kernel
theorem dX0_removeAt_31 : decode cX0_removeAt 31 = .ok (.isub, 1) := by decide +kernel
theorem dX0_removeAt_32 : decode cX0_removeAt 32 = .ok (.aload_n 0, 1) := by decide +kernel
theorem dX0_removeAt_33 : decode cX0_removeAt 33 = .ok (.getfield 13, 3) := by decide +kernel
theorem dX0_removeAt_36 : decode cX0_removeAt 36 = .ok (.iload_n 2, 1) := by decide +kernel
theorem dX0_removeAt_37 : decode cX0_removeAt 37 = .ok (.iaload, 1) := by decide +kernel
theorem dX0_removeAt_38 : decode cX0_removeAt 38 = .ok (.iastore, 1) := by decide +kernel
theorem dX0_removeAt_39 : decode cX0_removeAt 39 = .ok (.iinc 2 1, 3) := by decide +kernel
theorem dX0_removeAt_42 : decode cX0_removeAt 42 = .ok (.goto (-25), 3) := by decide +kernel
theorem dX0_removeAt_45 : decode cX0_removeAt 45 = .ok (.aload_n 0, 1) := by decide +kernel
theorem dX0_removeAt_46 : decode cX0_removeAt 46 = .ok (.dup, 1) := by decide +kernel
theorem dX0_removeAt_47 : decode cX0_removeAt 47 = .ok (.getfield 19, 3) := by decide +kernel
theorem dX0_removeAt_50 : decode cX0_removeAt 50 = .ok (.iconst 1, 1) := by decide +kernel
theorem dX0_removeAt_51 : decode cX0_removeAt 51 = .ok (.isub, 1) := by decide +kernel
theorem dX0_removeAt_52 : decode cX0_removeAt 52 = .ok (.putfield 19, 3) := by decide +kernel
theorem dX0_removeAt_55 : decode cX0_removeAt 55 = .ok (.return_, 1) := by decide +kernel
abbrev mtX0_removeAt : mj_T := (yX0_removeAt.cls, cX0_removeAt, 3, none, mj_no, yX0_removeAt.name)
abbrev kX0_removeAt (k0 : Nat) (x1 : Int32) (g : mj_S) (M : mj_M) (q : mj_M → Prop) : Prop := mj_CV yX0_removeAt (.code yX0_removeAt cX0_removeAt 3 none) 0 [.ref (k0), .int (x1)] g M q
theorem kiX0_removeAt : mj_cV yX0_removeAt cX0_removeAt 3 none 1 := ⟨⟨wd_455, wd_456, wd_3, wd_457⟩, ⟨by decide +kernel, by decide +kernel, by decide +kernel⟩, Nat.le_of_ble_eq_true rfl⟩
def LX0_removeAt_17 (k0 n0 : Nat) (x2 : Int32) (g : mj_S) (M : mj_M) (q : mj_M → Prop) : Prop := ∀ d, 0 ≤ d → ∀ ex : Bool, mj_G mtX0_removeAt (mj_rm d 0 0) (mj_Fi (mj_qV g q) mj_x0 0 0) ex 0 0 17 [(0, .ref (k0)), (2, .int (x2))] [] g M
theorem eX0_removeAt {k0 n0 : Nat} {x1 : Int32} {g : mj_S} {M : mj_M} {q : mj_M → Prop} (h0 : is0 g k0 n0) (h : ((x1 : Int32) < 0 → q (M)) ∧ (¬ (x1 : Int32) < 0 → ((x1 : Int32) < (M).1 (k0) 1 → LX0_removeAt_17 k0 n0 ((x1) + (1)) g (M) q) ∧ (¬ (x1 : Int32) < (M).1 (k0) 1 → q (M)))) : kX0_removeAt (k0) (x1) g M q := by
  intro d hd; refine mj_enter (by decide +kernel) (Nat.le_of_ble_eq_true rfl) ?_
  generalize (false : Bool) = ex
  show mj_G mtX0_removeAt (mj_rm d 0 0) (mj_Fi (mj_qV g q) mj_x0 0 0) ex 0 0 0 [(0, .ref (k0)), (1, .int (x1))] [] g M
  refine mg_iload_n dX0_removeAt_0 rfl 1 rfl ?_
  refine mg_if_lt (tgt := 12) dX0_removeAt_1 (by decide) (fun hc => ?_) (fun hc => ?_)
  · replace h := h.1 hc
    exact me_v dX0_removeAt_12 rfl h
  · replace h := h.2 hc
    refine mg_iload_n dX0_removeAt_4 rfl 1 rfl ?_
    refine mg_aload_n dX0_removeAt_5 rfl 0 rfl ?_
    refine mg_getI (j := 1) dX0_removeAt_6 kc_0 (Nat.le_of_ble_eq_true rfl) wd_49 rfl rfl h0.1.1 h0.1.2 rfl ?_
    refine mg_icmp_lt (tgt := 13) dX0_removeAt_9 (by decide) (fun hc => ?_) (fun hc => ?_)
    · replace h := h.1 hc
      refine mg_iload_n dX0_removeAt_13 rfl 1 rfl ?_
      refine mg_iconst (v := 1) dX0_removeAt_14 (by decide) ?_
      refine mg_iadd dX0_removeAt_15 ?_
      refine mg_istore_n (ls' := [(2, .int ((x1) + (1))), (0, .ref (k0)), (1, .int (x1))]) dX0_removeAt_16 rfl (Nat.le_of_ble_eq_true rfl) rfl ?_
      exact mg_pick [1, 0] rfl (h d hd ex)
    · replace h := h.2 hc
      exact me_v dX0_removeAt_12 rfl h
theorem bX0_removeAt_17 {k0 n0 : Nat} {x2 : Int32} {g : mj_S} {M : mj_M} {q : mj_M → Prop} (h0 : is0 g k0 n0) (h : (((M).1 (k0) 1 : Int32) ≤ x2 → q (mj_wI (M) (k0) 1 (((M).1 (k0) 1) - (1)))) ∧ (¬ ((M).1 (k0) 1 : Int32) ≤ x2 → vp_in (x2) (n0) ∧ (vp_in ((x2) - (1)) (n0) ∧ (LX0_removeAt_17 k0 n0 (x2 + 1) g (mj_wI (M) (k0 + 1) (Int32.toNatClampNeg ((x2) - (1))) ((M).1 (k0 + 1) (Int32.toNatClampNeg (x2)))) q)))) : LX0_removeAt_17 k0 n0 x2 g M q := by
  intro d hd ex
  refine mg_iload_n dX0_removeAt_17 rfl 1 rfl ?_
  refine mg_aload_n dX0_removeAt_18 rfl 0 rfl ?_
  refine mg_getI (j := 1) dX0_removeAt_19 kc_0 (Nat.le_of_ble_eq_true rfl) wd_49 rfl rfl h0.1.1 h0.1.2 rfl ?_
  refine mg_icmp_ge (tgt := 45) dX0_removeAt_22 (by decide) (fun hc => ?_) (fun hc => ?_)
  · replace h := h.1 hc
    refine mg_aload_n dX0_removeAt_45 rfl 0 rfl ?_
    refine mg_dup dX0_removeAt_46 rfl ?_
    refine mg_getI (j := 1) dX0_removeAt_47 kc_0 (Nat.le_of_ble_eq_true rfl) wd_49 rfl rfl h0.1.1 h0.1.2 rfl ?_
    refine mg_iconst (v := 1) dX0_removeAt_50 (by decide) ?_
    refine mg_isub dX0_removeAt_51 ?_
    refine mg_putI (j := 1) dX0_removeAt_52 kc_0 (Nat.le_of_ble_eq_true rfl) wd_49 rfl rfl rfl h0.1.1 h0.1.2 ?_
    exact me_v dX0_removeAt_55 rfl h
  · replace h := h.2 hc
    refine mg_aload_n dX0_removeAt_25 rfl 0 rfl ?_
    refine mg_getR (j := 0) dX0_removeAt_26 kc_0 (Nat.le_of_ble_eq_true rfl) wd_48 rfl rfl h0.1.1 h0.1.2 h0.2.1 ?_
    refine mg_iload_n dX0_removeAt_29 rfl 1 rfl ?_
    refine mg_iconst (v := 1) dX0_removeAt_30 (by decide) ?_
    refine mg_isub dX0_removeAt_31 ?_
    refine mg_aload_n dX0_removeAt_32 rfl 0 rfl ?_
    refine mg_getR (j := 0) dX0_removeAt_33 kc_0 (Nat.le_of_ble_eq_true rfl) wd_48 rfl rfl h0.1.1 h0.1.2 h0.2.1 ?_
    refine mg_iload_n dX0_removeAt_36 rfl 1 rfl ?_
    refine mg_iald dX0_removeAt_37 h0.2.2.1 h0.2.2.2 h.1 rfl ?_
    replace h := h.2
    refine mg_iast dX0_removeAt_38 h0.2.2.1 h0.2.2.2 h.1 ?_
    replace h := h.2
    refine mg_iinc (v := x2 + 1) (ls' := [(2, .int (x2 + 1)), (0, .ref (k0))]) dX0_removeAt_39 1 rfl rfl (Nat.le_of_ble_eq_true rfl) rfl ?_
    refine mg_goto (tgt := 17) dX0_removeAt_42 (by decide) ?_
    exact mg_pick [1, 0] rfl (h d hd ex)
theorem dX0_clear_0 : decode cX0_clear 0 = .ok (.aload_n 0, 1) := by decide +kernel
theorem dX0_clear_1 : decode cX0_clear 1 = .ok (.iconst 0, 1) := by decide +kernel
theorem dX0_clear_2 : decode cX0_clear 2 = .ok (.putfield 19, 3) := by decide +kernel
theorem dX0_clear_5 : decode cX0_clear 5 = .ok (.return_, 1) := by decide +kernel
abbrev mtX0_clear : mj_T := (yX0_clear.cls, cX0_clear, 1, none, mj_no, yX0_clear.name)
abbrev kX0_clear (k0 : Nat) (g : mj_S) (M : mj_M) (q : mj_M → Prop) : Prop := mj_CV yX0_clear (.code yX0_clear cX0_clear 1 none) 0 [.ref (k0)] g M q
theorem kiX0_clear : mj_cV yX0_clear cX0_clear 1 none 0 := ⟨⟨wd_61, wd_62, wd_3, wd_63⟩, ⟨by decide +kernel, by decide +kernel, by decide +kernel⟩, Nat.le_of_ble_eq_true rfl⟩
theorem eX0_clear {k0 n0 : Nat} {g : mj_S} {M : mj_M} {q : mj_M → Prop} (h0 : is0 g k0 n0) (h : q (mj_wI (M) (k0) 1 (0))) : kX0_clear (k0) g M q := by
  intro d hd; refine mj_enter (by decide +kernel) (Nat.le_of_ble_eq_true rfl) ?_
  generalize (false : Bool) = ex
  show mj_G mtX0_clear (mj_rm d 0 0) (mj_Fi (mj_qV g q) mj_x0 0 0) ex 0 0 0 [(0, .ref (k0))] [] g M
  refine mg_aload_n dX0_clear_0 rfl 0 rfl ?_
  refine mg_iconst (v := 0) dX0_clear_1 (by decide) ?_
  refine mg_putI (j := 1) dX0_clear_2 kc_0 (Nat.le_of_ble_eq_true rfl) wd_49 rfl rfl rfl h0.1.1 h0.1.2 ?_
  exact me_v dX0_clear_5 rfl h
theorem dX0_collapse_0 : decode cX0_collapse 0 = .ok (.aload_n 0, 1) := by decide +kernel
theorem dX0_collapse_1 : decode cX0_collapse 1 = .ok (.invokevirtual 23, 3) := by decide +kernel
theorem dX0_collapse_4 : decode cX0_collapse 4 = .ok (.aload_n 0, 1) := by decide +kernel
theorem dX0_collapse_5 : decode cX0_collapse 5 = .ok (.iconst 0, 1) := by decide +kernel
theorem dX0_collapse_6 : decode cX0_collapse 6 = .ok (.invokevirtual 26, 3) := by decide +kernel
theorem dX0_collapse_9 : decode cX0_collapse 9 = .ok (.return_, 1) := by decide +kernel
abbrev mtX0_collapse : mj_T := (yX0_collapse.cls, cX0_collapse, 1, none, mj_no, yX0_collapse.name)
abbrev kX0_collapse (k0 : Nat) (g : mj_S) (M : mj_M) (q : mj_M → Prop) : Prop := mj_CV yX0_collapse (.code yX0_collapse cX0_collapse 1 none) 1 [.ref (k0)] g M q
theorem kiX0_collapse : mj_cV yX0_collapse cX0_collapse 1 none 0 := ⟨⟨wd_431, wd_432, wd_3, wd_433⟩, ⟨by decide +kernel, by decide +kernel, by decide +kernel⟩, Nat.le_of_ble_eq_true rfl⟩
theorem eX0_collapse {k0 n0 : Nat} {g : mj_S} {M : mj_M} {q : mj_M → Prop} (h0 : is0 g k0 n0) (h : ∃ (q1 : mj_M → Prop), kX0_clear (k0) g (M) q1 ∧ ∀ (M1 : mj_M), q1 M1 → (∃ (q2 : mj_M → Prop), kX0_add (k0) (0) g (M1) q2 ∧ ∀ (M2 : mj_M), q2 M2 → (q (M2)))) : kX0_collapse (k0) g M q := by
  intro d hd; refine mj_enter (by decide +kernel) (Nat.le_of_ble_eq_true rfl) ?_
  generalize (false : Bool) = ex
  show mj_G mtX0_collapse (mj_rm d 0 0) (mj_Fi (mj_qV g q) mj_x0 0 0) ex 0 0 0 [(0, .ref (k0))] [] g M
  refine mg_aload_n dX0_collapse_0 rfl 0 rfl ?_
  obtain ⟨q1, hC, hk⟩ := h
  refine mc_Vv [] [] dX0_collapse_1 wd_384 kiX0_clear (Nat.le_of_ble_eq_true rfl) h0.1.1 h0.1.2 rfl (Nat.le_trans (Nat.le_of_ble_eq_true rfl) hd) hC (fun M1 hq => ?_)
  replace h := hk M1 hq
  refine mg_aload_n dX0_collapse_4 rfl 0 rfl ?_
  refine mg_iconst (v := 0) dX0_collapse_5 (by decide) ?_
  obtain ⟨q2, hC, hk⟩ := h
  refine mc_Vv [.int (0)] [] dX0_collapse_6 wd_385 kiX0_add (Nat.le_of_ble_eq_true rfl) h0.1.1 h0.1.2 rfl (Nat.le_trans (Nat.le_of_ble_eq_true rfl) hd) hC (fun M2 hq => ?_)
  replace h := hk M2 hq
  exact me_v dX0_collapse_9 rfl h
theorem dX0_isContradictory_0 : decode cX0_isContradictory 0 = .ok (.aload_n 0, 1) := by decide +kernel
theorem dX0_isContradictory_1 : decode cX0_isContradictory 1 = .ok (.getfield 19, 3) := by decide +kernel
theorem dX0_isContradictory_4 : decode cX0_isContradictory 4 = .ok (.iconst 1, 1) := by decide +kernel
theorem dX0_isContradictory_5 : decode cX0_isContradictory 5 = .ok (.if_icmp .ne 15, 3) := by decide +kernel
theorem dX0_isContradictory_8 : decode cX0_isContradictory 8 = .ok (.aload_n 0, 1) := by decide +kernel
theorem dX0_isContradictory_9 : decode cX0_isContradictory 9 = .ok (.iconst 0, 1) := by decide +kernel
theorem dX0_isContradictory_10 : decode cX0_isContradictory 10 = .ok (.invokevirtual 30, 3) := by decide +kernel
theorem dX0_isContradictory_13 : decode cX0_isContradictory 13 = .ok (.ifCond .ne 7, 3) := by decide +kernel
theorem dX0_isContradictory_16 : decode cX0_isContradictory 16 = .ok (.iconst 1, 1) := by decide +kernel
theorem dX0_isContradictory_17 : decode cX0_isContradictory 17 = .ok (.goto 4, 3) := by decide +kernel
theorem dX0_isContradictory_20 : decode cX0_isContradictory 20 = .ok (.iconst 0, 1) := by decide +kernel
theorem dX0_isContradictory_21 : decode cX0_isContradictory 21 = .ok (.ireturn, 1) := by decide +kernel
abbrev mtX0_isContradictory : mj_T := (yX0_isContradictory.cls, cX0_isContradictory, 1, (some .boolean), mj_no, yX0_isContradictory.name)
abbrev kX0_isContradictory (k0 : Nat) (g : mj_S) (M : mj_M) (q : Int32 → mj_M → Prop) : Prop := mj_CI yX0_isContradictory (.code yX0_isContradictory cX0_isContradictory 1 (some .boolean)) 1 [.ref (k0)] g M q
theorem kiX0_isContradictory : mj_cV yX0_isContradictory cX0_isContradictory 1 (some .boolean) 0 := ⟨⟨wd_287, wd_288, wd_3, wd_289⟩, ⟨by decide +kernel, by decide +kernel, by decide +kernel⟩, Nat.le_of_ble_eq_true rfl⟩
theorem eX0_isContradictory {k0 n0 : Nat} {g : mj_S} {M : mj_M} {q : Int32 → mj_M → Prop} (h0 : is0 g k0 n0) (h : (¬ ((M).1 (k0) 1 : Int32) = 1 → q 0 (M)) ∧ (((M).1 (k0) 1 : Int32) = 1 → ∃ (q1 : Int32 → mj_M → Prop), kX0_at (k0) (0) g (M) q1 ∧ ∀ (v1 : Int32) (M1 : mj_M), q1 v1 M1 → ((¬ (v1 : Int32) = 0 → q 0 (M1)) ∧ ((v1 : Int32) = 0 → q 1 (M1))))) : kX0_isContradictory (k0) g M q := by
  intro d hd; refine mj_enter (by decide +kernel) (Nat.le_of_ble_eq_true rfl) ?_
  generalize (false : Bool) = ex
  show mj_G mtX0_isContradictory (mj_rm d 0 0) (mj_Fi (mj_qI g q) mj_x0 0 0) ex 0 0 0 [(0, .ref (k0))] [] g M
  refine mg_aload_n dX0_isContradictory_0 rfl 0 rfl ?_
  refine mg_getI (j := 1) dX0_isContradictory_1 kc_0 (Nat.le_of_ble_eq_true rfl) wd_49 rfl rfl h0.1.1 h0.1.2 rfl ?_
  refine mg_iconst (v := 1) dX0_isContradictory_4 (by decide) ?_
  refine mg_icmp_ne (tgt := 20) dX0_isContradictory_5 (by decide) (fun hc => ?_) (fun hc => ?_)
  · replace h := h.1 hc
    refine mg_iconst (v := 0) dX0_isContradictory_20 (by decide) ?_
    exact me_z dX0_isContradictory_21 rfl (Or.inl rfl) h
  · replace h := h.2 hc
    refine mg_aload_n dX0_isContradictory_8 rfl 0 rfl ?_
    refine mg_iconst (v := 0) dX0_isContradictory_9 (by decide) ?_
    obtain ⟨q1, hC, hk⟩ := h
    refine mc_Vi [.int (0)] [] dX0_isContradictory_10 wd_290 kiX0_at (Nat.le_of_ble_eq_true rfl) h0.1.1 h0.1.2 rfl (Nat.le_trans (Nat.le_of_ble_eq_true rfl) hd) hC (fun v1 M1 hq => ?_)
    replace h := hk v1 M1 hq
    refine mg_if_ne (tgt := 20) dX0_isContradictory_13 (by decide) (fun hc => ?_) (fun hc => ?_)
    · replace h := h.1 hc
      refine mg_iconst (v := 0) dX0_isContradictory_20 (by decide) ?_
      exact me_z dX0_isContradictory_21 rfl (Or.inl rfl) h
    · replace h := h.2 hc
      refine mg_iconst (v := 1) dX0_isContradictory_16 (by decide) ?_
      refine mg_goto (tgt := 21) dX0_isContradictory_17 (by decide) ?_
      exact me_z dX0_isContradictory_21 rfl (Or.inr rfl) h
theorem dX0_has_0 : decode cX0_has 0 = .ok (.iconst 0, 1) := by decide +kernel
theorem dX0_has_1 : decode cX0_has 1 = .ok (.istore_n 2, 1) := by decide +kernel
theorem dX0_has_2 : decode cX0_has 2 = .ok (.iload_n 2, 1) := by decide +kernel
theorem dX0_has_3 : decode cX0_has 3 = .ok (.aload_n 0, 1) := by decide +kernel
theorem dX0_has_4 : decode cX0_has 4 = .ok (.getfield 19, 3) := by decide +kernel
theorem dX0_has_7 : decode cX0_has 7 = .ok (.if_icmp .ge 21, 3) := by decide +kernel
theorem dX0_has_10 : decode cX0_has 10 = .ok (.aload_n 0, 1) := by decide +kernel
theorem dX0_has_11 : decode cX0_has 11 = .ok (.getfield 13, 3) := by decide +kernel
theorem dX0_has_14 : decode cX0_has 14 = .ok (.iload_n 2, 1) := by decide +kernel
theorem dX0_has_15 : decode cX0_has 15 = .ok (.iaload, 1) := by decide +kernel
theorem dX0_has_16 : decode cX0_has 16 = .ok (.iload_n 1, 1) := by decide +kernel
theorem dX0_has_17 : decode cX0_has 17 = .ok (.if_icmp .ne 5, 3) := by decide +kernel
theorem dX0_has_20 : decode cX0_has 20 = .ok (.iconst 1, 1) := by decide +kernel
theorem dX0_has_21 : decode cX0_has 21 = .ok (.ireturn, 1) := by decide +kernel
theorem dX0_has_22 : decode cX0_has 22 = .ok (.iinc 2 1, 3) := by decide +kernel
theorem dX0_has_25 : decode cX0_has 25 = .ok (.goto (-23), 3) := by decide +kernel
theorem dX0_has_28 : decode cX0_has 28 = .ok (.iconst 0, 1) := by decide +kernel
theorem dX0_has_29 : decode cX0_has 29 = .ok (.ireturn, 1) := by decide +kernel
abbrev mtX0_has : mj_T := (yX0_has.cls, cX0_has, 3, (some .boolean), mj_no, yX0_has.name)
abbrev kX0_has (k0 : Nat) (x1 : Int32) (g : mj_S) (M : mj_M) (q : Int32 → mj_M → Prop) : Prop := mj_CI yX0_has (.code yX0_has cX0_has 3 (some .boolean)) 0 [.ref (k0), .int (x1)] g M q
theorem kiX0_has : mj_cV yX0_has cX0_has 3 (some .boolean) 1 := ⟨⟨wd_511, wd_512, wd_3, wd_513⟩, ⟨by decide +kernel, by decide +kernel, by decide +kernel⟩, Nat.le_of_ble_eq_true rfl⟩
def LX0_has_2 (k0 n0 : Nat) (x1 : Int32) (x2 : Int32) (g : mj_S) (M : mj_M) (q : Int32 → mj_M → Prop) : Prop := ∀ d, 0 ≤ d → ∀ ex : Bool, mj_G mtX0_has (mj_rm d 0 0) (mj_Fi (mj_qI g q) mj_x0 0 0) ex 0 0 2 [(0, .ref (k0)), (1, .int (x1)), (2, .int (x2))] [] g M
theorem eX0_has {k0 n0 : Nat} {x1 : Int32} {g : mj_S} {M : mj_M} {q : Int32 → mj_M → Prop} (h0 : is0 g k0 n0) (h : LX0_has_2 k0 n0 (x1) (0) g (M) q) : kX0_has (k0) (x1) g M q := by
  intro d hd; refine mj_enter (by decide +kernel) (Nat.le_of_ble_eq_true rfl) ?_
  generalize (false : Bool) = ex
  show mj_G mtX0_has (mj_rm d 0 0) (mj_Fi (mj_qI g q) mj_x0 0 0) ex 0 0 0 [(0, .ref (k0)), (1, .int (x1))] [] g M
  refine mg_iconst (v := 0) dX0_has_0 (by decide) ?_
  refine mg_istore_n (ls' := [(2, .int (0)), (0, .ref (k0)), (1, .int (x1))]) dX0_has_1 rfl (Nat.le_of_ble_eq_true rfl) rfl ?_
  exact mg_pick [1, 2, 0] rfl (h d hd ex)
theorem bX0_has_2 {k0 n0 : Nat} {x1 : Int32} {x2 : Int32} {g : mj_S} {M : mj_M} {q : Int32 → mj_M → Prop} (h0 : is0 g k0 n0) (h : (((M).1 (k0) 1 : Int32) ≤ x2 → q 0 (M)) ∧ (¬ ((M).1 (k0) 1 : Int32) ≤ x2 → vp_in (x2) (n0) ∧ ((¬ ((M).1 (k0 + 1) (Int32.toNatClampNeg (x2)) : Int32) = x1 → LX0_has_2 k0 n0 (x1) (x2 + 1) g (M) q) ∧ (((M).1 (k0 + 1) (Int32.toNatClampNeg (x2)) : Int32) = x1 → q 1 (M))))) : LX0_has_2 k0 n0 x1 x2 g M q := by
  intro d hd ex
  refine mg_iload_n dX0_has_2 rfl 2 rfl ?_
  refine mg_aload_n dX0_has_3 rfl 0 rfl ?_
  refine mg_getI (j := 1) dX0_has_4 kc_0 (Nat.le_of_ble_eq_true rfl) wd_49 rfl rfl h0.1.1 h0.1.2 rfl ?_
  refine mg_icmp_ge (tgt := 28) dX0_has_7 (by decide) (fun hc => ?_) (fun hc => ?_)
  · replace h := h.1 hc
    refine mg_iconst (v := 0) dX0_has_28 (by decide) ?_
    exact me_z dX0_has_29 rfl (Or.inl rfl) h
  · replace h := h.2 hc
    refine mg_aload_n dX0_has_10 rfl 0 rfl ?_
    refine mg_getR (j := 0) dX0_has_11 kc_0 (Nat.le_of_ble_eq_true rfl) wd_48 rfl rfl h0.1.1 h0.1.2 h0.2.1 ?_
    refine mg_iload_n dX0_has_14 rfl 2 rfl ?_
    refine mg_iald dX0_has_15 h0.2.2.1 h0.2.2.2 h.1 rfl ?_
    replace h := h.2
    refine mg_iload_n dX0_has_16 rfl 1 rfl ?_
    refine mg_icmp_ne (tgt := 22) dX0_has_17 (by decide) (fun hc => ?_) (fun hc => ?_)
    · replace h := h.1 hc
      refine mg_iinc (v := x2 + 1) (ls' := [(2, .int (x2 + 1)), (0, .ref (k0)), (1, .int (x1))]) dX0_has_22 2 rfl rfl (Nat.le_of_ble_eq_true rfl) rfl ?_
      refine mg_goto (tgt := 2) dX0_has_25 (by decide) ?_
      exact mg_pick [1, 2, 0] rfl (h d hd ex)
    · replace h := h.2 hc
      refine mg_iconst (v := 1) dX0_has_20 (by decide) ?_
      exact me_z dX0_has_21 rfl (Or.inr rfl) h
theorem dX0_countContaining_0 : decode cX0_countContaining 0 = .ok (.iconst 0, 1) := by decide +kernel
theorem dX0_countContaining_1 : decode cX0_countContaining 1 = .ok (.istore_n 2, 1) := by decide +kernel
theorem dX0_countContaining_2 : decode cX0_countContaining 2 = .ok (.iconst 0, 1) := by decide +kernel
theorem dX0_countContaining_3 : decode cX0_countContaining 3 = .ok (.istore_n 3, 1) := by decide +kernel
theorem dX0_countContaining_4 : decode cX0_countContaining 4 = .ok (.iload_n 3, 1) := by decide +kernel
theorem dX0_countContaining_5 : decode cX0_countContaining 5 = .ok (.aload_n 0, 1) := by decide +kernel
theorem dX0_countContaining_6 : decode cX0_countContaining 6 = .ok (.getfield 19, 3) := by decide +kernel
theorem dX0_countContaining_9 : decode cX0_countContaining 9 = .ok (.if_icmp .ge 25, 3) := by decide +kernel
theorem dX0_countContaining_12 : decode cX0_countContaining 12 = .ok (.aload_n 0, 1) := by decide +kernel
theorem dX0_countContaining_13 : decode cX0_countContaining 13 = .ok (.getfield 13, 3) := by decide +kernel
theorem dX0_countContaining_16 : decode cX0_countContaining 16 = .ok (.iload_n 3, 1) := by decide +kernel
theorem dX0_countContaining_17 : decode cX0_countContaining 17 = .ok (.iaload, 1) := by decide +kernel
theorem dX0_countContaining_18 : decode cX0_countContaining 18 = .ok (.iload_n 1, 1) := by decide +kernel
theorem dX0_countContaining_19 : decode cX0_countContaining 19 = .ok (.invokestatic 39, 3) := by decide +kernel
theorem dX0_countContaining_22 : decode cX0_countContaining 22 = .ok (.ifCond .eq 6, 3) := by decide +kernel
theorem dX0_countContaining_25 : decode cX0_countContaining 25 = .ok (.iinc 2 1, 3) := by decide +kernel
theorem dX0_countContaining_28 : decode cX0_countContaining 28 = .ok (.iinc 3 1, 3) := by decide +kernel
theorem dX0_countContaining_31 : decode cX0_countContaining 31 = .ok (.goto (-27), 3) := by decide +kernel
theorem dX0_countContaining_34 : decode cX0_countContaining 34 = .ok (.iload_n 2, 1) := by decide +kernel
theorem dX0_countContaining_35 : decode cX0_countContaining 35 = .ok (.ireturn, 1) := by decide +kernel
abbrev mtX0_countContaining : mj_T := (yX0_countContaining.cls, cX0_countContaining, 4, (some .int), mj_no, yX0_countContaining.name)
abbrev kX0_countContaining (k0 : Nat) (x1 : Int32) (g : mj_S) (M : mj_M) (q : Int32 → mj_M → Prop) : Prop := mj_CI yX0_countContaining (.code yX0_countContaining cX0_countContaining 4 (some .int)) 1 [.ref (k0), .int (x1)] g M q
theorem kiX0_countContaining : mj_cV yX0_countContaining cX0_countContaining 4 (some .int) 1 := ⟨⟨wd_496, wd_497, wd_3, wd_498⟩, ⟨by decide +kernel, by decide +kernel, by decide +kernel⟩, Nat.le_of_ble_eq_true rfl⟩
def LX0_countContaining_4 (k0 n0 : Nat) (x1 : Int32) (x2 : Int32) (x3 : Int32) (g : mj_S) (M : mj_M) (q : Int32 → mj_M → Prop) : Prop := ∀ d, 1 ≤ d → ∀ ex : Bool, mj_G mtX0_countContaining (mj_rm d 0 0) (mj_Fi (mj_qI g q) mj_x0 0 0) ex 0 0 4 [(0, .ref (k0)), (1, .int (x1)), (2, .int (x2)), (3, .int (x3))] [] g M
theorem eX0_countContaining {k0 n0 : Nat} {x1 : Int32} {g : mj_S} {M : mj_M} {q : Int32 → mj_M → Prop} (h0 : is0 g k0 n0) (h : LX0_countContaining_4 k0 n0 (x1) (0) (0) g (M) q) : kX0_countContaining (k0) (x1) g M q := by
  intro d hd; refine mj_enter (by decide +kernel) (Nat.le_of_ble_eq_true rfl) ?_
  generalize (false : Bool) = ex
  show mj_G mtX0_countContaining (mj_rm d 0 0) (mj_Fi (mj_qI g q) mj_x0 0 0) ex 0 0 0 [(0, .ref (k0)), (1, .int (x1))] [] g M
  refine mg_iconst (v := 0) dX0_countContaining_0 (by decide) ?_
  refine mg_istore_n (ls' := [(2, .int (0)), (0, .ref (k0)), (1, .int (x1))]) dX0_countContaining_1 rfl (Nat.le_of_ble_eq_true rfl) rfl ?_
  refine mg_iconst (v := 0) dX0_countContaining_2 (by decide) ?_
  refine mg_istore_n (ls' := [(3, .int (0)), (2, .int (0)), (0, .ref (k0)), (1, .int (x1))]) dX0_countContaining_3 rfl (Nat.le_of_ble_eq_true rfl) rfl ?_
  exact mg_pick [2, 3, 1, 0] rfl (h d hd ex)
theorem bX0_countContaining_4 {k0 n0 : Nat} {x1 : Int32} {x2 : Int32} {x3 : Int32} {g : mj_S} {M : mj_M} {q : Int32 → mj_M → Prop} (h0 : is0 g k0 n0) (h : (((M).1 (k0) 1 : Int32) ≤ x3 → q (x2) (M)) ∧ (¬ ((M).1 (k0) 1 : Int32) ≤ x3 → vp_in (x3) (n0) ∧ (∃ (q1 : Int32 → mj_M → Prop), kX9_contains ((M).1 (k0 + 1) (Int32.toNatClampNeg (x3))) (x1) g (M) q1 ∧ ∀ (v1 : Int32) (M1 : mj_M), q1 v1 M1 → (((v1 : Int32) = 0 → LX0_countContaining_4 k0 n0 (x1) (x2) (x3 + 1) g (M1) q) ∧ (¬ (v1 : Int32) = 0 → LX0_countContaining_4 k0 n0 (x1) (x2 + 1) (x3 + 1) g (M1) q))))) : LX0_countContaining_4 k0 n0 x1 x2 x3 g M q := by
  intro d hd ex
  refine mg_iload_n dX0_countContaining_4 rfl 3 rfl ?_
  refine mg_aload_n dX0_countContaining_5 rfl 0 rfl ?_
  refine mg_getI (j := 1) dX0_countContaining_6 kc_0 (Nat.le_of_ble_eq_true rfl) wd_49 rfl rfl h0.1.1 h0.1.2 rfl ?_
  refine mg_icmp_ge (tgt := 34) dX0_countContaining_9 (by decide) (fun hc => ?_) (fun hc => ?_)
  · replace h := h.1 hc
    refine mg_iload_n dX0_countContaining_34 rfl 2 rfl ?_
    exact me_i dX0_countContaining_35 rfl h
  · replace h := h.2 hc
    refine mg_aload_n dX0_countContaining_12 rfl 0 rfl ?_
    refine mg_getR (j := 0) dX0_countContaining_13 kc_0 (Nat.le_of_ble_eq_true rfl) wd_48 rfl rfl h0.1.1 h0.1.2 h0.2.1 ?_
    refine mg_iload_n dX0_countContaining_16 rfl 3 rfl ?_
    refine mg_iald dX0_countContaining_17 h0.2.2.1 h0.2.2.2 h.1 rfl ?_
    replace h := h.2
    refine mg_iload_n dX0_countContaining_18 rfl 1 rfl ?_
    obtain ⟨q1, hC, hk⟩ := h
    refine mc_Ni [.int ((M).1 (k0 + 1) (Int32.toNatClampNeg (x3))), .int (x1)] [] 10 dX0_countContaining_19 rfl kiX9_contains (Nat.le_of_ble_eq_true rfl) (Nat.le_trans (Nat.le_of_ble_eq_true rfl) hd) hC (fun v1 M1 hq => ?_)
    replace h := hk v1 M1 hq
    refine mg_if_eq (tgt := 28) dX0_countContaining_22 (by decide) (fun hc => ?_) (fun hc => ?_)
    · replace h := h.1 hc
      refine mg_iinc (v := x3 + 1) (ls' := [(3, .int (x3 + 1)), (0, .ref (k0)), (1, .int (x1)), (2, .int (x2))]) dX0_countContaining_28 3 rfl rfl (Nat.le_of_ble_eq_true rfl) rfl ?_
      refine mg_goto (tgt := 4) dX0_countContaining_31 (by decide) ?_
      exact mg_pick [1, 2, 3, 0] rfl (h d hd ex)
    · replace h := h.2 hc
      refine mg_iinc (v := x2 + 1) (ls' := [(2, .int (x2 + 1)), (0, .ref (k0)), (1, .int (x1)), (3, .int (x3))]) dX0_countContaining_25 2 rfl rfl (Nat.le_of_ble_eq_true rfl) rfl ?_
      refine mg_iinc (v := x3 + 1) (ls' := [(3, .int (x3 + 1)), (2, .int (x2 + 1)), (0, .ref (k0)), (1, .int (x1))]) dX0_countContaining_28 3 rfl rfl (Nat.le_of_ble_eq_true rfl) rfl ?_
      refine mg_goto (tgt := 4) dX0_countContaining_31 (by decide) ?_
      exact mg_pick [2, 3, 1, 0] rfl (h d hd ex)
theorem dX0_isSatisfied_0 : decode cX0_isSatisfied 0 = .ok (.iconst 0, 1) := by decide +kernel
theorem dX0_isSatisfied_1 : decode cX0_isSatisfied 1 = .ok (.istore_n 2, 1) := by decide +kernel
theorem dX0_isSatisfied_2 : decode cX0_isSatisfied 2 = .ok (.iload_n 2, 1) := by decide +kernel
theorem dX0_isSatisfied_3 : decode cX0_isSatisfied 3 = .ok (.aload_n 0, 1) := by decide +kernel
theorem dX0_isSatisfied_4 : decode cX0_isSatisfied 4 = .ok (.getfield 19, 3) := by decide +kernel
theorem dX0_isSatisfied_7 : decode cX0_isSatisfied 7 = .ok (.if_icmp .ge 22, 3) := by decide +kernel
theorem dX0_isSatisfied_10 : decode cX0_isSatisfied 10 = .ok (.aload_n 0, 1) := by decide +kernel
theorem dX0_isSatisfied_11 : decode cX0_isSatisfied 11 = .ok (.getfield 13, 3) := by decide +kernel
theorem dX0_isSatisfied_14 : decode cX0_isSatisfied 14 = .ok (.iload_n 2, 1) := by decide +kernel
theorem dX0_isSatisfied_15 : decode cX0_isSatisfied 15 = .ok (.iaload, 1) := by decide +kernel
theorem dX0_isSatisfied_16 : decode cX0_isSatisfied 16 = .ok (.iload_n 1, 1) := by decide +kernel
theorem dX0_isSatisfied_17 : decode cX0_isSatisfied 17 = .ok (.iand, 1) := by decide +kernel
theorem dX0_isSatisfied_18 : decode cX0_isSatisfied 18 = .ok (.ifCond .ne 5, 3) := by decide +kernel
theorem dX0_isSatisfied_21 : decode cX0_isSatisfied 21 = .ok (.iconst 0, 1) := by decide +kernel
theorem dX0_isSatisfied_22 : decode cX0_isSatisfied 22 = .ok (.ireturn, 1) := by decide +kernel
theorem dX0_isSatisfied_23 : decode cX0_isSatisfied 23 = .ok (.iinc 2 1, 3) := by decide +kernel
theorem dX0_isSatisfied_26 : decode cX0_isSatisfied 26 = .ok (.goto (-24), 3) := by decide +kernel
theorem dX0_isSatisfied_29 : decode cX0_isSatisfied 29 = .ok (.iconst 1, 1) := by decide +kernel
theorem dX0_isSatisfied_30 : decode cX0_isSatisfied 30 = .ok (.ireturn, 1) := by decide +kernel
abbrev mtX0_isSatisfied : mj_T := (yX0_isSatisfied.cls, cX0_isSatisfied, 3, (some .boolean), mj_no, yX0_isSatisfied.name)
abbrev kX0_isSatisfied (k0 : Nat) (x1 : Int32) (g : mj_S) (M : mj_M) (q : Int32 → mj_M → Prop) : Prop := mj_CI yX0_isSatisfied (.code yX0_isSatisfied cX0_isSatisfied 3 (some .boolean)) 0 [.ref (k0), .int (x1)] g M q
theorem kiX0_isSatisfied : mj_cV yX0_isSatisfied cX0_isSatisfied 3 (some .boolean) 1 := ⟨⟨wd_340, wd_341, wd_3, wd_342⟩, ⟨by decide +kernel, by decide +kernel, by decide +kernel⟩, Nat.le_of_ble_eq_true rfl⟩
def LX0_isSatisfied_2 (k0 n0 : Nat) (x1 : Int32) (x2 : Int32) (g : mj_S) (M : mj_M) (q : Int32 → mj_M → Prop) : Prop := ∀ d, 0 ≤ d → ∀ ex : Bool, mj_G mtX0_isSatisfied (mj_rm d 0 0) (mj_Fi (mj_qI g q) mj_x0 0 0) ex 0 0 2 [(0, .ref (k0)), (1, .int (x1)), (2, .int (x2))] [] g M
theorem eX0_isSatisfied {k0 n0 : Nat} {x1 : Int32} {g : mj_S} {M : mj_M} {q : Int32 → mj_M → Prop} (h0 : is0 g k0 n0) (h : LX0_isSatisfied_2 k0 n0 (x1) (0) g (M) q) : kX0_isSatisfied (k0) (x1) g M q := by
  intro d hd; refine mj_enter (by decide +kernel) (Nat.le_of_ble_eq_true rfl) ?_
  generalize (false : Bool) = ex
  show mj_G mtX0_isSatisfied (mj_rm d 0 0) (mj_Fi (mj_qI g q) mj_x0 0 0) ex 0 0 0 [(0, .ref (k0)), (1, .int (x1))] [] g M
  refine mg_iconst (v := 0) dX0_isSatisfied_0 (by decide) ?_
  refine mg_istore_n (ls' := [(2, .int (0)), (0, .ref (k0)), (1, .int (x1))]) dX0_isSatisfied_1 rfl (Nat.le_of_ble_eq_true rfl) rfl ?_
  exact mg_pick [1, 2, 0] rfl (h d hd ex)
theorem bX0_isSatisfied_2 {k0 n0 : Nat} {x1 : Int32} {x2 : Int32} {g : mj_S} {M : mj_M} {q : Int32 → mj_M → Prop} (h0 : is0 g k0 n0) (h : (((M).1 (k0) 1 : Int32) ≤ x2 → q 1 (M)) ∧ (¬ ((M).1 (k0) 1 : Int32) ≤ x2 → vp_in (x2) (n0) ∧ ((¬ (((M).1 (k0 + 1) (Int32.toNatClampNeg (x2))) &&& (x1) : Int32) = 0 → LX0_isSatisfied_2 k0 n0 (x1) (x2 + 1) g (M) q) ∧ ((((M).1 (k0 + 1) (Int32.toNatClampNeg (x2))) &&& (x1) : Int32) = 0 → q 0 (M))))) : LX0_isSatisfied_2 k0 n0 x1 x2 g M q := by
  intro d hd ex
  refine mg_iload_n dX0_isSatisfied_2 rfl 2 rfl ?_
  refine mg_aload_n dX0_isSatisfied_3 rfl 0 rfl ?_
  refine mg_getI (j := 1) dX0_isSatisfied_4 kc_0 (Nat.le_of_ble_eq_true rfl) wd_49 rfl rfl h0.1.1 h0.1.2 rfl ?_
  refine mg_icmp_ge (tgt := 29) dX0_isSatisfied_7 (by decide) (fun hc => ?_) (fun hc => ?_)
  · replace h := h.1 hc
    refine mg_iconst (v := 1) dX0_isSatisfied_29 (by decide) ?_
    exact me_z dX0_isSatisfied_30 rfl (Or.inr rfl) h
  · replace h := h.2 hc
    refine mg_aload_n dX0_isSatisfied_10 rfl 0 rfl ?_
    refine mg_getR (j := 0) dX0_isSatisfied_11 kc_0 (Nat.le_of_ble_eq_true rfl) wd_48 rfl rfl h0.1.1 h0.1.2 h0.2.1 ?_
    refine mg_iload_n dX0_isSatisfied_14 rfl 2 rfl ?_
    refine mg_iald dX0_isSatisfied_15 h0.2.2.1 h0.2.2.2 h.1 rfl ?_
    replace h := h.2
    refine mg_iload_n dX0_isSatisfied_16 rfl 1 rfl ?_
    refine mg_iand dX0_isSatisfied_17 ?_
    refine mg_if_ne (tgt := 23) dX0_isSatisfied_18 (by decide) (fun hc => ?_) (fun hc => ?_)
    · replace h := h.1 hc
      refine mg_iinc (v := x2 + 1) (ls' := [(2, .int (x2 + 1)), (0, .ref (k0)), (1, .int (x1))]) dX0_isSatisfied_23 2 rfl rfl (Nat.le_of_ble_eq_true rfl) rfl ?_
      refine mg_goto (tgt := 2) dX0_isSatisfied_26 (by decide) ?_
      exact mg_pick [1, 2, 0] rfl (h d hd ex)
    · replace h := h.2 hc
      refine mg_iconst (v := 0) dX0_isSatisfied_21 (by decide) ?_
      exact me_z dX0_isSatisfied_22 rfl (Or.inl rfl) h
theorem dX0_countFalsified_0 : decode cX0_countFalsified 0 = .ok (.iconst 0, 1) := by decide +kernel
theorem dX0_countFalsified_1 : decode cX0_countFalsified 1 = .ok (.istore_n 2, 1) := by decide +kernel
theorem dX0_countFalsified_2 : decode cX0_countFalsified 2 = .ok (.iconst 0, 1) := by decide +kernel
theorem dX0_countFalsified_3 : decode cX0_countFalsified 3 = .ok (.istore_n 3, 1) := by decide +kernel
theorem dX0_countFalsified_4 : decode cX0_countFalsified 4 = .ok (.iload_n 3, 1) := by decide +kernel
theorem dX0_countFalsified_5 : decode cX0_countFalsified 5 = .ok (.aload_n 0, 1) := by decide +kernel
theorem dX0_countFalsified_6 : decode cX0_countFalsified 6 = .ok (.getfield 19, 3) := by decide +kernel
theorem dX0_countFalsified_9 : decode cX0_countFalsified 9 = .ok (.if_icmp .ge 23, 3) := by decide +kernel
theorem dX0_countFalsified_12 : decode cX0_countFalsified 12 = .ok (.aload_n 0, 1) := by decide +kernel
theorem dX0_countFalsified_13 : decode cX0_countFalsified 13 = .ok (.getfield 13, 3) := by decide +kernel
theorem dX0_countFalsified_16 : decode cX0_countFalsified 16 = .ok (.iload_n 3, 1) := by decide +kernel
theorem dX0_countFalsified_17 : decode cX0_countFalsified 17 = .ok (.iaload, 1) := by decide +kernel
theorem dX0_countFalsified_18 : decode cX0_countFalsified 18 = .ok (.iload_n 1, 1) := by decide +kernel
theorem dX0_countFalsified_19 : decode cX0_countFalsified 19 = .ok (.iand, 1) := by decide +kernel
theorem dX0_countFalsified_20 : decode cX0_countFalsified 20 = .ok (.ifCond .ne 6, 3) := by decide +kernel
theorem dX0_countFalsified_23 : decode cX0_countFalsified 23 = .ok (.iinc 2 1, 3) := by decide +kernel
theorem dX0_countFalsified_26 : decode cX0_countFalsified 26 = .ok (.iinc 3 1, 3) := by decide +kernel
theorem dX0_countFalsified_29 : decode cX0_countFalsified 29 = .ok (.goto (-25), 3) := by decide +kernel
theorem dX0_countFalsified_32 : decode cX0_countFalsified 32 = .ok (.iload_n 2, 1) := by decide +kernel
theorem dX0_countFalsified_33 : decode cX0_countFalsified 33 = .ok (.ireturn, 1) := by decide +kernel
abbrev mtX0_countFalsified : mj_T := (yX0_countFalsified.cls, cX0_countFalsified, 4, (some .int), mj_no, yX0_countFalsified.name)
abbrev kX0_countFalsified (k0 : Nat) (x1 : Int32) (g : mj_S) (M : mj_M) (q : Int32 → mj_M → Prop) : Prop := mj_CI yX0_countFalsified (.code yX0_countFalsified cX0_countFalsified 4 (some .int)) 0 [.ref (k0), .int (x1)] g M q
theorem kiX0_countFalsified : mj_cV yX0_countFalsified cX0_countFalsified 4 (some .int) 1 := ⟨⟨wd_1239, wd_1240, wd_3, wd_1241⟩, ⟨by decide +kernel, by decide +kernel, by decide +kernel⟩, Nat.le_of_ble_eq_true rfl⟩
def LX0_countFalsified_4 (k0 n0 : Nat) (x1 : Int32) (x2 : Int32) (x3 : Int32) (g : mj_S) (M : mj_M) (q : Int32 → mj_M → Prop) : Prop := ∀ d, 0 ≤ d → ∀ ex : Bool, mj_G mtX0_countFalsified (mj_rm d 0 0) (mj_Fi (mj_qI g q) mj_x0 0 0) ex 0 0 4 [(0, .ref (k0)), (1, .int (x1)), (2, .int (x2)), (3, .int (x3))] [] g M
theorem eX0_countFalsified {k0 n0 : Nat} {x1 : Int32} {g : mj_S} {M : mj_M} {q : Int32 → mj_M → Prop} (h0 : is0 g k0 n0) (h : LX0_countFalsified_4 k0 n0 (x1) (0) (0) g (M) q) : kX0_countFalsified (k0) (x1) g M q := by
  intro d hd; refine mj_enter (by decide +kernel) (Nat.le_of_ble_eq_true rfl) ?_
  generalize (false : Bool) = ex
  show mj_G mtX0_countFalsified (mj_rm d 0 0) (mj_Fi (mj_qI g q) mj_x0 0 0) ex 0 0 0 [(0, .ref (k0)), (1, .int (x1))] [] g M
  refine mg_iconst (v := 0) dX0_countFalsified_0 (by decide) ?_
  refine mg_istore_n (ls' := [(2, .int (0)), (0, .ref (k0)), (1, .int (x1))]) dX0_countFalsified_1 rfl (Nat.le_of_ble_eq_true rfl) rfl ?_
  refine mg_iconst (v := 0) dX0_countFalsified_2 (by decide) ?_
  refine mg_istore_n (ls' := [(3, .int (0)), (2, .int (0)), (0, .ref (k0)), (1, .int (x1))]) dX0_countFalsified_3 rfl (Nat.le_of_ble_eq_true rfl) rfl ?_
  exact mg_pick [2, 3, 1, 0] rfl (h d hd ex)
theorem bX0_countFalsified_4 {k0 n0 : Nat} {x1 : Int32} {x2 : Int32} {x3 : Int32} {g : mj_S} {M : mj_M} {q : Int32 → mj_M → Prop} (h0 : is0 g k0 n0) (h : (((M).1 (k0) 1 : Int32) ≤ x3 → q (x2) (M)) ∧ (¬ ((M).1 (k0) 1 : Int32) ≤ x3 → vp_in (x3) (n0) ∧ ((¬ (((M).1 (k0 + 1) (Int32.toNatClampNeg (x3))) &&& (x1) : Int32) = 0 → LX0_countFalsified_4 k0 n0 (x1) (x2) (x3 + 1) g (M) q) ∧ ((((M).1 (k0 + 1) (Int32.toNatClampNeg (x3))) &&& (x1) : Int32) = 0 → LX0_countFalsified_4 k0 n0 (x1) (x2 + 1) (x3 + 1) g (M) q)))) : LX0_countFalsified_4 k0 n0 x1 x2 x3 g M q := by
  intro d hd ex
  refine mg_iload_n dX0_countFalsified_4 rfl 3 rfl ?_
  refine mg_aload_n dX0_countFalsified_5 rfl 0 rfl ?_
  refine mg_getI (j := 1) dX0_countFalsified_6 kc_0 (Nat.le_of_ble_eq_true rfl) wd_49 rfl rfl h0.1.1 h0.1.2 rfl ?_
  refine mg_icmp_ge (tgt := 32) dX0_countFalsified_9 (by decide) (fun hc => ?_) (fun hc => ?_)
  · replace h := h.1 hc
    refine mg_iload_n dX0_countFalsified_32 rfl 2 rfl ?_
    exact me_i dX0_countFalsified_33 rfl h
  · replace h := h.2 hc
    refine mg_aload_n dX0_countFalsified_12 rfl 0 rfl ?_
    refine mg_getR (j := 0) dX0_countFalsified_13 kc_0 (Nat.le_of_ble_eq_true rfl) wd_48 rfl rfl h0.1.1 h0.1.2 h0.2.1 ?_
    refine mg_iload_n dX0_countFalsified_16 rfl 3 rfl ?_
    refine mg_iald dX0_countFalsified_17 h0.2.2.1 h0.2.2.2 h.1 rfl ?_
    replace h := h.2
    refine mg_iload_n dX0_countFalsified_18 rfl 1 rfl ?_
    refine mg_iand dX0_countFalsified_19 ?_
    refine mg_if_ne (tgt := 26) dX0_countFalsified_20 (by decide) (fun hc => ?_) (fun hc => ?_)
    · replace h := h.1 hc
      refine mg_iinc (v := x3 + 1) (ls' := [(3, .int (x3 + 1)), (0, .ref (k0)), (1, .int (x1)), (2, .int (x2))]) dX0_countFalsified_26 3 rfl rfl (Nat.le_of_ble_eq_true rfl) rfl ?_
      refine mg_goto (tgt := 4) dX0_countFalsified_29 (by decide) ?_
      exact mg_pick [1, 2, 3, 0] rfl (h d hd ex)
    · replace h := h.2 hc
      refine mg_iinc (v := x2 + 1) (ls' := [(2, .int (x2 + 1)), (0, .ref (k0)), (1, .int (x1)), (3, .int (x3))]) dX0_countFalsified_23 2 rfl rfl (Nat.le_of_ble_eq_true rfl) rfl ?_
      refine mg_iinc (v := x3 + 1) (ls' := [(3, .int (x3 + 1)), (2, .int (x2 + 1)), (0, .ref (k0)), (1, .int (x1))]) dX0_countFalsified_26 3 rfl rfl (Nat.le_of_ble_eq_true rfl) rfl ?_
      refine mg_goto (tgt := 4) dX0_countFalsified_29 (by decide) ?_
      exact mg_pick [2, 3, 1, 0] rfl (h d hd ex)
theorem dX0_removeContaining_0 : decode cX0_removeContaining 0 = .ok (.iconst 0, 1) := by decide +kernel
theorem dX0_removeContaining_1 : decode cX0_removeContaining 1 = .ok (.istore_n 2, 1) := by decide +kernel
theorem dX0_removeContaining_2 : decode cX0_removeContaining 2 = .ok (.iconst 0, 1) := by decide +kernel
theorem dX0_removeContaining_3 : decode cX0_removeContaining 3 = .ok (.istore_n 3, 1) := by decide +kernel
theorem dX0_removeContaining_4 : decode cX0_removeContaining 4 = .ok (.iload_n 3, 1) := by decide +kernel
theorem dX0_removeContaining_5 : decode cX0_removeContaining 5 = .ok (.aload_n 0, 1) := by decide +kernel
theorem dX0_removeContaining_6 : decode cX0_removeContaining 6 = .ok (.getfield 19, 3) := by decide +kernel
theorem dX0_removeContaining_9 : decode cX0_removeContaining 9 = .ok (.if_icmp .ge 35, 3) := by decide +kernel
theorem dX0_removeContaining_12 : decode cX0_removeContaining 12 = .ok (.aload_n 0, 1) := by decide +kernel
theorem dX0_removeContaining_13 : decode cX0_removeContaining 13 = .ok (.getfield 13, 3) := by decide +kernel
theorem dX0_removeContaining_16 : decode cX0_removeContaining 16 = .ok (.iload_n 3, 1) := by decide +kernel
theorem dX0_removeContaining_17 : decode cX0_removeContaining 17 = .ok (.iaload, 1) := by decide +kernel
theorem dX0_removeContaining_18 : decode cX0_removeContaining 18 = .ok (.iload_n 1, 1) := by decide +kernel
theorem dX0_removeContaining_19 : decode cX0_removeContaining 19 = .ok (.iand, 1) := by decide +kernel
theorem dX0_removeContaining_20 : decode cX0_removeContaining 20 = .ok (.ifCond .ne 18, 3) := by decide +kernel
theorem dX0_removeContaining_23 : decode cX0_removeContaining 23 = .ok (.aload_n 0, 1) := by decide +kernel
theorem dX0_removeContaining_24 : decode cX0_removeContaining 24 = .ok (.getfield 13, 3) := by decide +kernel
theorem dX0_removeContaining_27 : decode cX0_removeContaining 27 = .ok (.iload_n 2, 1) := by decide +kernel
theorem dX0_removeContaining_28 : decode cX0_removeContaining 28 = .ok (.aload_n 0, 1) := by decide +kernel
theorem dX0_removeContaining_29 : decode cX0_removeContaining 29 = .ok (.getfield 13, 3) := by decide +kernel
theorem dX0_removeContaining_32 : decode cX0_removeContaining 32 = .ok (.iload_n 3, 1) := by decide +kernel
theorem dX0_removeContaining_33 : decode cX0_removeContaining 33 = .ok (.iaload, 1) := by decide +kernel
theorem dX0_removeContaining_34 : decode cX0_removeContaining 34 = .ok (.iastore, 1) := by decide +kernel
theorem dX0_removeContaining_35 : decode cX0_removeContaining 35 = .ok (.iinc 2 1, 3) := by decide +kernel
theorem dX0_removeContaining_38 : decode cX0_removeContaining 38 = .ok (.iinc 3 1, 3) := by decide +kernel
theorem dX0_removeContaining_41 : decode cX0_removeContaining 41 = .ok (.goto (-37), 3) := by decide +kernel
theorem dX0_removeContaining_44 : decode cX0_removeContaining 44 = .ok (.aload_n 0, 1) := by decide +kernel
theorem dX0_removeContaining_45 : decode cX0_removeContaining 45 = .ok (.iload_n 2, 1) := by decide +kernel
theorem dX0_removeContaining_46 : decode cX0_removeContaining 46 = .ok (.putfield 19, 3) := by decide +kernel
theorem dX0_removeContaining_49 : decode cX0_removeContaining 49 = .ok (.return_, 1) := by decide +kernel
abbrev mtX0_removeContaining : mj_T := (yX0_removeContaining.cls, cX0_removeContaining, 4, none, mj_no, yX0_removeContaining.name)
abbrev kX0_removeContaining (k0 : Nat) (x1 : Int32) (g : mj_S) (M : mj_M) (q : mj_M → Prop) : Prop := mj_CV yX0_removeContaining (.code yX0_removeContaining cX0_removeContaining 4 none) 0 [.ref (k0), .int (x1)] g M q
theorem kiX0_removeContaining : mj_cV yX0_removeContaining cX0_removeContaining 4 none 1 := ⟨⟨wd_423, wd_424, wd_3, wd_425⟩, ⟨by decide +kernel, by decide +kernel, by decide +kernel⟩, Nat.le_of_ble_eq_true rfl⟩
def LX0_removeContaining_4 (k0 n0 : Nat) (x1 : Int32) (x2 : Int32) (x3 : Int32) (g : mj_S) (M : mj_M) (q : mj_M → Prop) : Prop := ∀ d, 0 ≤ d → ∀ ex : Bool, mj_G mtX0_removeContaining (mj_rm d 0 0) (mj_Fi (mj_qV g q) mj_x0 0 0) ex 0 0 4 [(0, .ref (k0)), (1, .int (x1)), (2, .int (x2)), (3, .int (x3))] [] g M
theorem eX0_removeContaining {k0 n0 : Nat} {x1 : Int32} {g : mj_S} {M : mj_M} {q : mj_M → Prop} (h0 : is0 g k0 n0) (h : LX0_removeContaining_4 k0 n0 (x1) (0) (0) g (M) q) : kX0_removeContaining (k0) (x1) g M q := by
  intro d hd; refine mj_enter (by decide +kernel) (Nat.le_of_ble_eq_true rfl) ?_
  generalize (false : Bool) = ex
  show mj_G mtX0_removeContaining (mj_rm d 0 0) (mj_Fi (mj_qV g q) mj_x0 0 0) ex 0 0 0 [(0, .ref (k0)), (1, .int (x1))] [] g M
  refine mg_iconst (v := 0) dX0_removeContaining_0 (by decide) ?_
  refine mg_istore_n (ls' := [(2, .int (0)), (0, .ref (k0)), (1, .int (x1))]) dX0_removeContaining_1 rfl (Nat.le_of_ble_eq_true rfl) rfl ?_
  refine mg_iconst (v := 0) dX0_removeContaining_2 (by decide) ?_
  refine mg_istore_n (ls' := [(3, .int (0)), (2, .int (0)), (0, .ref (k0)), (1, .int (x1))]) dX0_removeContaining_3 rfl (Nat.le_of_ble_eq_true rfl) rfl ?_
  exact mg_pick [2, 3, 1, 0] rfl (h d hd ex)
theorem bX0_removeContaining_4 {k0 n0 : Nat} {x1 : Int32} {x2 : Int32} {x3 : Int32} {g : mj_S} {M : mj_M} {q : mj_M → Prop} (h0 : is0 g k0 n0) (h : (((M).1 (k0) 1 : Int32) ≤ x3 → q (mj_wI (M) (k0) 1 (x2))) ∧ (¬ ((M).1 (k0) 1 : Int32) ≤ x3 → vp_in (x3) (n0) ∧ ((¬ (((M).1 (k0 + 1) (Int32.toNatClampNeg (x3))) &&& (x1) : Int32) = 0 → LX0_removeContaining_4 k0 n0 (x1) (x2) (x3 + 1) g (M) q) ∧ ((((M).1 (k0 + 1) (Int32.toNatClampNeg (x3))) &&& (x1) : Int32) = 0 → vp_in (x3) (n0) ∧ (vp_in (x2) (n0) ∧ (LX0_removeContaining_4 k0 n0 (x1) (x2 + 1) (x3 + 1) g (mj_wI (M) (k0 + 1) (Int32.toNatClampNeg (x2)) ((M).1 (k0 + 1) (Int32.toNatClampNeg (x3)))) q)))))) : LX0_removeContaining_4 k0 n0 x1 x2 x3 g M q := by
  intro d hd ex
  refine mg_iload_n dX0_removeContaining_4 rfl 3 rfl ?_
  refine mg_aload_n dX0_removeContaining_5 rfl 0 rfl ?_
  refine mg_getI (j := 1) dX0_removeContaining_6 kc_0 (Nat.le_of_ble_eq_true rfl) wd_49 rfl rfl h0.1.1 h0.1.2 rfl ?_
  refine mg_icmp_ge (tgt := 44) dX0_removeContaining_9 (by decide) (fun hc => ?_) (fun hc => ?_)
  · replace h := h.1 hc
    refine mg_aload_n dX0_removeContaining_44 rfl 0 rfl ?_
    refine mg_iload_n dX0_removeContaining_45 rfl 2 rfl ?_
    refine mg_putI (j := 1) dX0_removeContaining_46 kc_0 (Nat.le_of_ble_eq_true rfl) wd_49 rfl rfl rfl h0.1.1 h0.1.2 ?_
    exact me_v dX0_removeContaining_49 rfl h
  · replace h := h.2 hc
    refine mg_aload_n dX0_removeContaining_12 rfl 0 rfl ?_
    refine mg_getR (j := 0) dX0_removeContaining_13 kc_0 (Nat.le_of_ble_eq_true rfl) wd_48 rfl rfl h0.1.1 h0.1.2 h0.2.1 ?_
    refine mg_iload_n dX0_removeContaining_16 rfl 3 rfl ?_
    refine mg_iald dX0_removeContaining_17 h0.2.2.1 h0.2.2.2 h.1 rfl ?_
    replace h := h.2
    refine mg_iload_n dX0_removeContaining_18 rfl 1 rfl ?_
    refine mg_iand dX0_removeContaining_19 ?_
    refine mg_if_ne (tgt := 38) dX0_removeContaining_20 (by decide) (fun hc => ?_) (fun hc => ?_)
    · replace h := h.1 hc
      refine mg_iinc (v := x3 + 1) (ls' := [(3, .int (x3 + 1)), (0, .ref (k0)), (1, .int (x1)), (2, .int (x2))]) dX0_removeContaining_38 3 rfl rfl (Nat.le_of_ble_eq_true rfl) rfl ?_
      refine mg_goto (tgt := 4) dX0_removeContaining_41 (by decide) ?_
      exact mg_pick [1, 2, 3, 0] rfl (h d hd ex)
    · replace h := h.2 hc
      refine mg_aload_n dX0_removeContaining_23 rfl 0 rfl ?_
      refine mg_getR (j := 0) dX0_removeContaining_24 kc_0 (Nat.le_of_ble_eq_true rfl) wd_48 rfl rfl h0.1.1 h0.1.2 h0.2.1 ?_
      refine mg_iload_n dX0_removeContaining_27 rfl 2 rfl ?_
      refine mg_aload_n dX0_removeContaining_28 rfl 0 rfl ?_
      refine mg_getR (j := 0) dX0_removeContaining_29 kc_0 (Nat.le_of_ble_eq_true rfl) wd_48 rfl rfl h0.1.1 h0.1.2 h0.2.1 ?_
      refine mg_iload_n dX0_removeContaining_32 rfl 3 rfl ?_
      refine mg_iald dX0_removeContaining_33 h0.2.2.1 h0.2.2.2 h.1 rfl ?_
      replace h := h.2
      refine mg_iast dX0_removeContaining_34 h0.2.2.1 h0.2.2.2 h.1 ?_
      replace h := h.2
      refine mg_iinc (v := x2 + 1) (ls' := [(2, .int (x2 + 1)), (0, .ref (k0)), (1, .int (x1)), (3, .int (x3))]) dX0_removeContaining_35 2 rfl rfl (Nat.le_of_ble_eq_true rfl) rfl ?_
      refine mg_iinc (v := x3 + 1) (ls' := [(3, .int (x3 + 1)), (2, .int (x2 + 1)), (0, .ref (k0)), (1, .int (x1))]) dX0_removeContaining_38 3 rfl rfl (Nat.le_of_ble_eq_true rfl) rfl ?_
      refine mg_goto (tgt := 4) dX0_removeContaining_41 (by decide) ?_
      exact mg_pick [2, 3, 1, 0] rfl (h d hd ex)
theorem dX0_strip_0 : decode cX0_strip 0 = .ok (.iconst 0, 1) := by decide +kernel
theorem dX0_strip_1 : decode cX0_strip 1 = .ok (.istore_n 2, 1) := by decide +kernel
theorem dX0_strip_2 : decode cX0_strip 2 = .ok (.iconst 0, 1) := by decide +kernel
theorem dX0_strip_3 : decode cX0_strip 3 = .ok (.istore_n 3, 1) := by decide +kernel
theorem dX0_strip_4 : decode cX0_strip 4 = .ok (.iload_n 3, 1) := by decide +kernel
theorem dX0_strip_5 : decode cX0_strip 5 = .ok (.aload_n 0, 1) := by decide +kernel
theorem dX0_strip_6 : decode cX0_strip 6 = .ok (.getfield 19, 3) := by decide +kernel
theorem dX0_strip_9 : decode cX0_strip 9 = .ok (.if_icmp .ge 40, 3) := by decide +kernel
theorem dX0_strip_12 : decode cX0_strip 12 = .ok (.aload_n 0, 1) := by decide +kernel
theorem dX0_strip_13 : decode cX0_strip 13 = .ok (.getfield 13, 3) := by decide +kernel
theorem dX0_strip_16 : decode cX0_strip 16 = .ok (.iload_n 3, 1) := by decide +kernel
theorem dX0_strip_17 : decode cX0_strip 17 = .ok (.dup2, 1) := by decide +kernel
theorem dX0_strip_18 : decode cX0_strip 18 = .ok (.iaload, 1) := by decide +kernel
theorem dX0_strip_19 : decode cX0_strip 19 = .ok (.iload_n 1, 1) := by decide +kernel
theorem dX0_strip_20 : decode cX0_strip 20 = .ok (.iconst (-1), 1) := by decide +kernel
theorem dX0_strip_21 : decode cX0_strip 21 = .ok (.ixor, 1) := by decide +kernel
theorem dX0_strip_22 : decode cX0_strip 22 = .ok (.iand, 1) := by decide +kernel
theorem dX0_strip_23 : decode cX0_strip 23 = .ok (.iastore, 1) := by decide +kernel
theorem dX0_strip_24 : decode cX0_strip 24 = .ok (.iload_n 2, 1) := by decide +kernel
theorem dX0_strip_25 : decode cX0_strip 25 = .ok (.ifCond .ne 12, 3) := by decide +kernel
theorem dX0_strip_28 : decode cX0_strip 28 = .ok (.aload_n 0, 1) := by decide +kernel
theorem dX0_strip_29 : decode cX0_strip 29 = .ok (.getfield 13, 3) := by decide +kernel
theorem dX0_strip_32 : decode cX0_strip 32 = .ok (.iload_n 3, 1) := by decide +kernel
theorem dX0_strip_33 : decode cX0_strip 33 = .ok (.iaload, 1) := by decide +kernel
theorem dX0_strip_34 : decode cX0_strip 34 = .ok (.ifCond .ne 7, 3) := by decide +kernel
theorem dX0_strip_37 : decode cX0_strip 37 = .ok (.iconst 1, 1) := by decide +kernel
theorem dX0_strip_38 : decode cX0_strip 38 = .ok (.goto 4, 3) := by decide +kernel
theorem dX0_strip_41 : decode cX0_strip 41 = .ok (.iconst 0, 1) := by decide +kernel
theorem dX0_strip_42 : decode cX0_strip 42 = .ok (.istore_n 2, 1) := by decide +kernel
theorem dX0_strip_43 : decode cX0_strip 43 = .ok (.iinc 3 1, 3) := by decide +kernel
theorem dX0_strip_46 : decode cX0_strip 46 = .ok (.goto (-42), 3) := by decide +kernel
theorem dX0_strip_49 : decode cX0_strip 49 = .ok (.iload_n 2, 1) := by decide +kernel
theorem dX0_strip_50 : decode cX0_strip 50 = .ok (.ireturn, 1) := by decide +kernel
abbrev mtX0_strip : mj_T := (yX0_strip.cls, cX0_strip, 4, (some .boolean), mj_no, yX0_strip.name)
abbrev kX0_strip (k0 : Nat) (x1 : Int32) (g : mj_S) (M : mj_M) (q : Int32 → mj_M → Prop) : Prop := mj_CI yX0_strip (.code yX0_strip cX0_strip 4 (some .boolean)) 0 [.ref (k0), .int (x1)] g M q
theorem kiX0_strip : mj_cV yX0_strip cX0_strip 4 (some .boolean) 1 := ⟨⟨wd_427, wd_428, wd_3, wd_429⟩, ⟨by decide +kernel, by decide +kernel, by decide +kernel⟩, Nat.le_of_ble_eq_true rfl⟩
def LX0_strip_4 (k0 n0 : Nat) (x1 : Int32) (x2 : Int32) (x3 : Int32) (g : mj_S) (M : mj_M) (q : Int32 → mj_M → Prop) : Prop := ∀ d, 0 ≤ d → ∀ ex : Bool, mj_G mtX0_strip (mj_rm d 0 0) (mj_Fi (mj_qI g q) mj_x0 0 0) ex 0 0 4 [(0, .ref (k0)), (1, .int (x1)), (2, .int (x2)), (3, .int (x3))] [] g M
theorem eX0_strip {k0 n0 : Nat} {x1 : Int32} {g : mj_S} {M : mj_M} {q : Int32 → mj_M → Prop} (h0 : is0 g k0 n0) (h : LX0_strip_4 k0 n0 (x1) (0) (0) g (M) q) : kX0_strip (k0) (x1) g M q := by
  intro d hd; refine mj_enter (by decide +kernel) (Nat.le_of_ble_eq_true rfl) ?_
  generalize (false : Bool) = ex
  show mj_G mtX0_strip (mj_rm d 0 0) (mj_Fi (mj_qI g q) mj_x0 0 0) ex 0 0 0 [(0, .ref (k0)), (1, .int (x1))] [] g M
  refine mg_iconst (v := 0) dX0_strip_0 (by decide) ?_
  refine mg_istore_n (ls' := [(2, .int (0)), (0, .ref (k0)), (1, .int (x1))]) dX0_strip_1 rfl (Nat.le_of_ble_eq_true rfl) rfl ?_
  refine mg_iconst (v := 0) dX0_strip_2 (by decide) ?_
  refine mg_istore_n (ls' := [(3, .int (0)), (2, .int (0)), (0, .ref (k0)), (1, .int (x1))]) dX0_strip_3 rfl (Nat.le_of_ble_eq_true rfl) rfl ?_
  exact mg_pick [2, 3, 1, 0] rfl (h d hd ex)
theorem bX0_strip_4 {k0 n0 : Nat} {x1 : Int32} {x2 : Int32} {x3 : Int32} {g : mj_S} {M : mj_M} {q : Int32 → mj_M → Prop} (h0 : is0 g k0 n0) (h : (((M).1 (k0) 1 : Int32) ≤ x3 → ((x2 : Int32) = 0 ∨ (x2 : Int32) = 1) ∧ q (x2) (M)) ∧ (¬ ((M).1 (k0) 1 : Int32) ≤ x3 → vp_in (x3) (n0) ∧ (vp_in (x3) (n0) ∧ ((¬ (x2 : Int32) = 0 → LX0_strip_4 k0 n0 (x1) (1) (x3 + 1) g (mj_wI (M) (k0 + 1) (Int32.toNatClampNeg (x3)) (((M).1 (k0 + 1) (Int32.toNatClampNeg (x3))) &&& ((x1) ^^^ ((-1))))) q) ∧ ((x2 : Int32) = 0 → vp_in (x3) (n0) ∧ ((¬ ((mj_wI (M) (k0 + 1) (Int32.toNatClampNeg (x3)) (((M).1 (k0 + 1) (Int32.toNatClampNeg (x3))) &&& ((x1) ^^^ ((-1))))).1 (k0 + 1) (Int32.toNatClampNeg (x3)) : Int32) = 0 → LX0_strip_4 k0 n0 (x1) (0) (x3 + 1) g (mj_wI (M) (k0 + 1) (Int32.toNatClampNeg (x3)) (((M).1 (k0 + 1) (Int32.toNatClampNeg (x3))) &&& ((x1) ^^^ ((-1))))) q) ∧ (((mj_wI (M) (k0 + 1) (Int32.toNatClampNeg (x3)) (((M).1 (k0 + 1) (Int32.toNatClampNeg (x3))) &&& ((x1) ^^^ ((-1))))).1 (k0 + 1) (Int32.toNatClampNeg (x3)) : Int32) = 0 → LX0_strip_4 k0 n0 (x1) (1) (x3 + 1) g (mj_wI (M) (k0 + 1) (Int32.toNatClampNeg (x3)) (((M).1 (k0 + 1) (Int32.toNatClampNeg (x3))) &&& ((x1) ^^^ ((-1))))) q))))))) : LX0_strip_4 k0 n0 x1 x2 x3 g M q := by
  intro d hd ex
  refine mg_iload_n dX0_strip_4 rfl 3 rfl ?_
  refine mg_aload_n dX0_strip_5 rfl 0 rfl ?_
  refine mg_getI (j := 1) dX0_strip_6 kc_0 (Nat.le_of_ble_eq_true rfl) wd_49 rfl rfl h0.1.1 h0.1.2 rfl ?_
  refine mg_icmp_ge (tgt := 49) dX0_strip_9 (by decide) (fun hc => ?_) (fun hc => ?_)
  · replace h := h.1 hc
    refine mg_iload_n dX0_strip_49 rfl 2 rfl ?_
    exact me_z dX0_strip_50 rfl h.1 h.2
  · replace h := h.2 hc
    refine mg_aload_n dX0_strip_12 rfl 0 rfl ?_
    refine mg_getR (j := 0) dX0_strip_13 kc_0 (Nat.le_of_ble_eq_true rfl) wd_48 rfl rfl h0.1.1 h0.1.2 h0.2.1 ?_
    refine mg_iload_n dX0_strip_16 rfl 3 rfl ?_
    refine mg_dup2 dX0_strip_17 rfl rfl ?_
    refine mg_iald dX0_strip_18 h0.2.2.1 h0.2.2.2 h.1 rfl ?_
    replace h := h.2
    refine mg_iload_n dX0_strip_19 rfl 1 rfl ?_
    refine mg_iconst (v := (-1)) dX0_strip_20 (by decide) ?_
    refine mg_ixor dX0_strip_21 ?_
    refine mg_iand dX0_strip_22 ?_
    refine mg_iast dX0_strip_23 h0.2.2.1 h0.2.2.2 h.1 ?_
    replace h := h.2
    refine mg_iload_n dX0_strip_24 rfl 2 rfl ?_
    refine mg_if_ne (tgt := 37) dX0_strip_25 (by decide) (fun hc => ?_) (fun hc => ?_)
    · replace h := h.1 hc
      refine mg_iconst (v := 1) dX0_strip_37 (by decide) ?_
      refine mg_goto (tgt := 42) dX0_strip_38 (by decide) ?_
      refine mg_istore_n (ls' := [(2, .int (1)), (0, .ref (k0)), (1, .int (x1)), (3, .int (x3))]) dX0_strip_42 rfl (Nat.le_of_ble_eq_true rfl) rfl ?_
      refine mg_iinc (v := x3 + 1) (ls' := [(3, .int (x3 + 1)), (2, .int (1)), (0, .ref (k0)), (1, .int (x1))]) dX0_strip_43 3 rfl rfl (Nat.le_of_ble_eq_true rfl) rfl ?_
      refine mg_goto (tgt := 4) dX0_strip_46 (by decide) ?_
      exact mg_pick [2, 3, 1, 0] rfl (h d hd ex)
    · replace h := h.2 hc
      refine mg_aload_n dX0_strip_28 rfl 0 rfl ?_
      refine mg_getR (j := 0) dX0_strip_29 kc_0 (Nat.le_of_ble_eq_true rfl) wd_48 rfl rfl h0.1.1 h0.1.2 h0.2.1 ?_
      refine mg_iload_n dX0_strip_32 rfl 3 rfl ?_
      refine mg_iald dX0_strip_33 h0.2.2.1 h0.2.2.2 h.1 rfl ?_
      replace h := h.2
      refine mg_if_ne (tgt := 41) dX0_strip_34 (by decide) (fun hc => ?_) (fun hc => ?_)
      · replace h := h.1 hc
        refine mg_iconst (v := 0) dX0_strip_41 (by decide) ?_
        refine mg_istore_n (ls' := [(2, .int (0)), (0, .ref (k0)), (1, .int (x1)), (3, .int (x3))]) dX0_strip_42 rfl (Nat.le_of_ble_eq_true rfl) rfl ?_
        refine mg_iinc (v := x3 + 1) (ls' := [(3, .int (x3 + 1)), (2, .int (0)), (0, .ref (k0)), (1, .int (x1))]) dX0_strip_43 3 rfl rfl (Nat.le_of_ble_eq_true rfl) rfl ?_
        refine mg_goto (tgt := 4) dX0_strip_46 (by decide) ?_
        exact mg_pick [2, 3, 1, 0] rfl (h d hd ex)
      · replace h := h.2 hc
        refine mg_iconst (v := 1) dX0_strip_37 (by decide) ?_
        refine mg_goto (tgt := 42) dX0_strip_38 (by decide) ?_
        refine mg_istore_n (ls' := [(2, .int (1)), (0, .ref (k0)), (1, .int (x1)), (3, .int (x3))]) dX0_strip_42 rfl (Nat.le_of_ble_eq_true rfl) rfl ?_
        refine mg_iinc (v := x3 + 1) (ls' := [(3, .int (x3 + 1)), (2, .int (1)), (0, .ref (k0)), (1, .int (x1))]) dX0_strip_43 3 rfl rfl (Nat.le_of_ble_eq_true rfl) rfl ?_
        refine mg_goto (tgt := 4) dX0_strip_46 (by decide) ?_
        exact mg_pick [2, 3, 1, 0] rfl (h d hd ex)
