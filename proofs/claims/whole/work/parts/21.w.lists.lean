theorem dX0_size_0 : decode cX0_size 0 = .ok (.aload_n 0, 1) := by decide +kernel
theorem dX0_size_1 : decode cX0_size 1 = .ok (.getfield 19, 3) := by decide +kernel
theorem dX0_size_4 : decode cX0_size 4 = .ok (.ireturn, 1) := by decide +kernel
abbrev mtX0_size : mj_T := (yX0_size.cls, cX0_size, 1, (some .int), mj_no, yX0_size.name)
abbrev kX0_size (k0 : Nat) (g : mj_S) (M : mj_M) (q : Int32 → mj_M → Prop) : Prop := mj_CI yX0_size (.code yX0_size cX0_size 1 (some .int)) 0 [.ref (k0)] g M q
theorem kiX0_size : mj_cV yX0_size cX0_size 1 (some .int) 0 := ⟨⟨wd_261, wd_262, wd_3, wd_263⟩, ⟨by decide +kernel, by decide +kernel, by decide +kernel⟩, Nat.le_of_ble_eq_true rfl⟩
theorem eX0_size {k0 n0 : Nat} {g : mj_S} {M : mj_M} {q : Int32 → mj_M → Prop} (h0 : is0 g k0 n0) (h : q ((M).1 (k0) 1) (M)) : kX0_size (k0) g M q := by
  intro d hd; refine mj_enter (by decide +kernel) (Nat.le_of_ble_eq_true rfl) ?_
  generalize (false : Bool) = ex
  show mj_G mtX0_size (mj_rm d 0 0) (mj_Fi (mj_qI g q) mj_x0 0 0) ex 0 0 0 [(0, .ref (k0))] [] g M
  refine mg_aload_n dX0_size_0 rfl 0 rfl ?_
  refine mg_getI (j := 1) dX0_size_1 kc_0 (Nat.le_of_ble_eq_true rfl) wd_49 rfl rfl h0.1.1 h0.1.2 rfl ?_
  exact me_i dX0_size_4 rfl h
theorem dX0_at_0 : decode cX0_at 0 = .ok (.iload_n 1, 1) := by decide +kernel
theorem dX0_at_1 : decode cX0_at 1 = .ok (.ifCond .lt 20, 3) := by decide +kernel
theorem dX0_at_4 : decode cX0_at 4 = .ok (.iload_n 1, 1) := by decide +kernel
theorem dX0_at_5 : decode cX0_at 5 = .ok (.aload_n 0, 1) := by decide +kernel
theorem dX0_at_6 : decode cX0_at 6 = .ok (.getfield 19, 3) := by decide +kernel
theorem dX0_at_9 : decode cX0_at 9 = .ok (.if_icmp .ge 12, 3) := by decide +kernel
theorem dX0_at_12 : decode cX0_at 12 = .ok (.aload_n 0, 1) := by decide +kernel
theorem dX0_at_13 : decode cX0_at 13 = .ok (.getfield 13, 3) := by decide +kernel
theorem dX0_at_16 : decode cX0_at 16 = .ok (.iload_n 1, 1) := by decide +kernel
theorem dX0_at_17 : decode cX0_at 17 = .ok (.iaload, 1) := by decide +kernel
theorem dX0_at_18 : decode cX0_at 18 = .ok (.goto 4, 3) := by decide +kernel
theorem dX0_at_21 : decode cX0_at 21 = .ok (.iconst 0, 1) := by decide +kernel
theorem dX0_at_22 : decode cX0_at 22 = .ok (.ireturn, 1) := by decide +kernel
abbrev mtX0_at : mj_T := (yX0_at.cls, cX0_at, 2, (some .int), mj_no, yX0_at.name)
abbrev kX0_at (k0 : Nat) (x1 : Int32) (g : mj_S) (M : mj_M) (q : Int32 → mj_M → Prop) : Prop := mj_CI yX0_at (.code yX0_at cX0_at 2 (some .int)) 0 [.ref (k0), .int (x1)] g M q
theorem kiX0_at : mj_cV yX0_at cX0_at 2 (some .int) 1 := ⟨⟨wd_291, wd_292, wd_3, wd_293⟩, ⟨by decide +kernel, by decide +kernel, by decide +kernel⟩, Nat.le_of_ble_eq_true rfl⟩
theorem eX0_at {k0 n0 : Nat} {x1 : Int32} {g : mj_S} {M : mj_M} {q : Int32 → mj_M → Prop} (h0 : is0 g k0 n0) (h : ((x1 : Int32) < 0 → q (0) (M)) ∧ (¬ (x1 : Int32) < 0 → (((M).1 (k0) 1 : Int32) ≤ (x1) → q (0) (M)) ∧ (¬ ((M).1 (k0) 1 : Int32) ≤ (x1) → vp_in (x1) (n0) ∧ (q ((M).1 (k0 + 1) (Int32.toNatClampNeg (x1))) (M))))) : kX0_at (k0) (x1) g M q := by
  intro d hd; refine mj_enter (by decide +kernel) (Nat.le_of_ble_eq_true rfl) ?_
  generalize (false : Bool) = ex
  show mj_G mtX0_at (mj_rm d 0 0) (mj_Fi (mj_qI g q) mj_x0 0 0) ex 0 0 0 [(0, .ref (k0)), (1, .int (x1))] [] g M
  refine mg_iload_n dX0_at_0 rfl 1 rfl ?_
  refine mg_if_lt (tgt := 21) dX0_at_1 (by decide) (fun hc => ?_) (fun hc => ?_)
  · replace h := h.1 hc
    refine mg_iconst (v := 0) dX0_at_21 (by decide) ?_
    exact me_i dX0_at_22 rfl h
  · replace h := h.2 hc
    refine mg_iload_n dX0_at_4 rfl 1 rfl ?_
    refine mg_aload_n dX0_at_5 rfl 0 rfl ?_
    refine mg_getI (j := 1) dX0_at_6 kc_0 (Nat.le_of_ble_eq_true rfl) wd_49 rfl rfl h0.1.1 h0.1.2 rfl ?_
    refine mg_icmp_ge (tgt := 21) dX0_at_9 (by decide) (fun hc => ?_) (fun hc => ?_)
    · replace h := h.1 hc
      refine mg_iconst (v := 0) dX0_at_21 (by decide) ?_
      exact me_i dX0_at_22 rfl h
    · replace h := h.2 hc
      refine mg_aload_n dX0_at_12 rfl 0 rfl ?_
      refine mg_getR (j := 0) dX0_at_13 kc_0 (Nat.le_of_ble_eq_true rfl) wd_48 rfl rfl h0.1.1 h0.1.2 h0.2.1 ?_
      refine mg_iload_n dX0_at_16 rfl 1 rfl ?_
      refine mg_iald dX0_at_17 h0.2.2.1 h0.2.2.2 h.1 rfl ?_
      replace h := h.2
      refine mg_goto (tgt := 22) dX0_at_18 (by decide) ?_
      exact me_i dX0_at_22 rfl h
theorem dX0_add_0 : decode cX0_add 0 = .ok (.aload_n 0, 1) := by decide +kernel
theorem dX0_add_1 : decode cX0_add 1 = .ok (.getfield 19, 3) := by decide +kernel
theorem dX0_add_4 : decode cX0_add 4 = .ok (.aload_n 0, 1) := by decide +kernel
theorem dX0_add_5 : decode cX0_add 5 = .ok (.getfield 13, 3) := by decide +kernel
theorem dX0_add_8 : decode cX0_add 8 = .ok (.arraylength, 1) := by decide +kernel
theorem dX0_add_9 : decode cX0_add 9 = .ok (.if_icmp .ge 23, 3) := by decide +kernel
theorem dX0_add_12 : decode cX0_add 12 = .ok (.aload_n 0, 1) := by decide +kernel
theorem dX0_add_13 : decode cX0_add 13 = .ok (.getfield 13, 3) := by decide +kernel
theorem dX0_add_16 : decode cX0_add 16 = .ok (.aload_n 0, 1) := by decide +kernel
theorem dX0_add_17 : decode cX0_add 17 = .ok (.getfield 19, 3) := by decide +kernel
theorem dX0_add_20 : decode cX0_add 20 = .ok (.iload_n 1, 1) := by decide +kernel
theorem dX0_add_21 : decode cX0_add 21 = .ok (.iastore, 1) := by decide +kernel
theorem dX0_add_22 : decode cX0_add 22 = .ok (.aload_n 0, 1) := by decide +kernel
theorem dX0_add_23 : decode cX0_add 23 = .ok (.dup, 1) := by decide +kernel
theorem dX0_add_24 : decode cX0_add 24 = .ok (.getfield 19, 3) := by decide +kernel
theorem dX0_add_27 : decode cX0_add 27 = .ok (.iconst 1, 1) := by decide +kernel
theorem dX0_add_28 : decode cX0_add 28 = .ok (.iadd, 1) := by decide +kernel
theorem dX0_add_29 : decode cX0_add 29 = .ok (.putfield 19, 3) := by decide +kernel
theorem dX0_add_32 : decode cX0_add 32 = .ok (.return_, 1) := by decide +kernel
abbrev mtX0_add : mj_T := (yX0_add.cls, cX0_add, 2, none, mj_no, yX0_add.name)
abbrev kX0_add (k0 : Nat) (x1 : Int32) (g : mj_S) (M : mj_M) (q : mj_M → Prop) : Prop := mj_CV yX0_add (.code yX0_add cX0_add 2 none) 0 [.ref (k0), .int (x1)] g M q
theorem kiX0_add : mj_cV yX0_add cX0_add 2 none 1 := ⟨⟨wd_386, wd_387, wd_3, wd_388⟩, ⟨by decide +kernel, by decide +kernel, by decide +kernel⟩, Nat.le_of_ble_eq_true rfl⟩
theorem eX0_add {k0 n0 : Nat} {x1 : Int32} {g : mj_S} {M : mj_M} {q : mj_M → Prop} (h0 : is0 g k0 n0) (h : ((nI (n0) : Int32) ≤ ((M).1 (k0) 1) → q (M)) ∧ (¬ (nI (n0) : Int32) ≤ ((M).1 (k0) 1) → vp_in ((M).1 (k0) 1) (n0) ∧ (q (mj_wI (mj_wI (M) (k0 + 1) (Int32.toNatClampNeg ((M).1 (k0) 1)) (x1)) (k0) 1 (((mj_wI (M) (k0 + 1) (Int32.toNatClampNeg ((M).1 (k0) 1)) (x1)).1 (k0) 1) + (1 : Int32)))))) : kX0_add (k0) (x1) g M q := by
  intro d hd; refine mj_enter (by decide +kernel) (Nat.le_of_ble_eq_true rfl) ?_
  generalize (false : Bool) = ex
  show mj_G mtX0_add (mj_rm d 0 0) (mj_Fi (mj_qV g q) mj_x0 0 0) ex 0 0 0 [(0, .ref (k0)), (1, .int (x1))] [] g M
  refine mg_aload_n dX0_add_0 rfl 0 rfl ?_
  refine mg_getI (j := 1) dX0_add_1 kc_0 (Nat.le_of_ble_eq_true rfl) wd_49 rfl rfl h0.1.1 h0.1.2 rfl ?_
  refine mg_aload_n dX0_add_4 rfl 0 rfl ?_
  refine mg_getR (j := 0) dX0_add_5 kc_0 (Nat.le_of_ble_eq_true rfl) wd_48 rfl rfl h0.1.1 h0.1.2 h0.2.1 ?_
  refine mg_alen (v := nI (n0)) dX0_add_8 h0.2.2.1 h0.2.2.2 (Nat.le_of_ble_eq_true rfl) rfl ?_
  refine mg_icmp_ge (tgt := 32) dX0_add_9 (by decide) (fun hc => ?_) (fun hc => ?_)
  · replace h := h.1 hc
    exact me_v dX0_add_32 rfl h
  · replace h := h.2 hc
    refine mg_aload_n dX0_add_12 rfl 0 rfl ?_
    refine mg_getR (j := 0) dX0_add_13 kc_0 (Nat.le_of_ble_eq_true rfl) wd_48 rfl rfl h0.1.1 h0.1.2 h0.2.1 ?_
    refine mg_aload_n dX0_add_16 rfl 0 rfl ?_
    refine mg_getI (j := 1) dX0_add_17 kc_0 (Nat.le_of_ble_eq_true rfl) wd_49 rfl rfl h0.1.1 h0.1.2 rfl ?_
    refine mg_iload_n dX0_add_20 rfl 1 rfl ?_
    refine mg_iast dX0_add_21 h0.2.2.1 h0.2.2.2 h.1 ?_
    replace h := h.2
    refine mg_aload_n dX0_add_22 rfl 0 rfl ?_
    refine mg_dup dX0_add_23 rfl ?_
    refine mg_getI (j := 1) dX0_add_24 kc_0 (Nat.le_of_ble_eq_true rfl) wd_49 rfl rfl h0.1.1 h0.1.2 rfl ?_
    refine mg_iconst (v := 1) dX0_add_27 (by decide) ?_
    refine mg_iadd dX0_add_28 ?_
    refine mg_putI (j := 1) dX0_add_29 kc_0 (Nat.le_of_ble_eq_true rfl) wd_49 rfl rfl rfl h0.1.1 h0.1.2 ?_
    exact me_v dX0_add_32 rfl h
theorem dX0_put_0 : decode cX0_put 0 = .ok (.iload_n 1, 1) := by decide +kernel
theorem dX0_put_1 : decode cX0_put 1 = .ok (.ifCond .lt 18, 3) := by decide +kernel
theorem dX0_put_4 : decode cX0_put 4 = .ok (.iload_n 1, 1) := by decide +kernel
theorem dX0_put_5 : decode cX0_put 5 = .ok (.aload_n 0, 1) := by decide +kernel
theorem dX0_put_6 : decode cX0_put 6 = .ok (.getfield 19, 3) := by decide +kernel
theorem dX0_put_9 : decode cX0_put 9 = .ok (.if_icmp .ge 10, 3) := by decide +kernel
theorem dX0_put_12 : decode cX0_put 12 = .ok (.aload_n 0, 1) := by decide +kernel
theorem dX0_put_13 : decode cX0_put 13 = .ok (.getfield 13, 3) := by decide +kernel
theorem dX0_put_16 : decode cX0_put 16 = .ok (.iload_n 1, 1) := by decide +kernel
theorem dX0_put_17 : decode cX0_put 17 = .ok (.iload_n 2, 1) := by decide +kernel
theorem dX0_put_18 : decode cX0_put 18 = .ok (.iastore, 1) := by decide +kernel
theorem dX0_put_19 : decode cX0_put 19 = .ok (.return_, 1) := by decide +kernel
abbrev mtX0_put : mj_T := (yX0_put.cls, cX0_put, 3, none, mj_no, yX0_put.name)
abbrev kX0_put (k0 : Nat) (x1 : Int32) (x2 : Int32) (g : mj_S) (M : mj_M) (q : mj_M → Prop) : Prop := mj_CV yX0_put (.code yX0_put cX0_put 3 none) 0 [.ref (k0), .int (x1), .int (x2)] g M q
theorem kiX0_put : mj_cV yX0_put cX0_put 3 none 2 := ⟨⟨wd_478, wd_479, wd_3, wd_480⟩, ⟨by decide +kernel, by decide +kernel, by decide +kernel⟩, Nat.le_of_ble_eq_true rfl⟩
theorem eX0_put {k0 n0 : Nat} {x1 : Int32} {x2 : Int32} {g : mj_S} {M : mj_M} {q : mj_M → Prop} (h0 : is0 g k0 n0) (h : ((x1 : Int32) < 0 → q (M)) ∧ (¬ (x1 : Int32) < 0 → (((M).1 (k0) 1 : Int32) ≤ (x1) → q (M)) ∧ (¬ ((M).1 (k0) 1 : Int32) ≤ (x1) → vp_in (x1) (n0) ∧ (q (mj_wI (M) (k0 + 1) (Int32.toNatClampNeg (x1)) (x2)))))) : kX0_put (k0) (x1) (x2) g M q := by
  intro d hd; refine mj_enter (by decide +kernel) (Nat.le_of_ble_eq_true rfl) ?_
  generalize (false : Bool) = ex
  show mj_G mtX0_put (mj_rm d 0 0) (mj_Fi (mj_qV g q) mj_x0 0 0) ex 0 0 0 [(0, .ref (k0)), (1, .int (x1)), (2, .int (x2))] [] g M
  refine mg_iload_n dX0_put_0 rfl 1 rfl ?_
  refine mg_if_lt (tgt := 19) dX0_put_1 (by decide) (fun hc => ?_) (fun hc => ?_)
  · replace h := h.1 hc
    exact me_v dX0_put_19 rfl h
  · replace h := h.2 hc
    refine mg_iload_n dX0_put_4 rfl 1 rfl ?_
    refine mg_aload_n dX0_put_5 rfl 0 rfl ?_
    refine mg_getI (j := 1) dX0_put_6 kc_0 (Nat.le_of_ble_eq_true rfl) wd_49 rfl rfl h0.1.1 h0.1.2 rfl ?_
    refine mg_icmp_ge (tgt := 19) dX0_put_9 (by decide) (fun hc => ?_) (fun hc => ?_)
    · replace h := h.1 hc
      exact me_v dX0_put_19 rfl h
    · replace h := h.2 hc
      refine mg_aload_n dX0_put_12 rfl 0 rfl ?_
      refine mg_getR (j := 0) dX0_put_13 kc_0 (Nat.le_of_ble_eq_true rfl) wd_48 rfl rfl h0.1.1 h0.1.2 h0.2.1 ?_
      refine mg_iload_n dX0_put_16 rfl 1 rfl ?_
      refine mg_iload_n dX0_put_17 rfl 2 rfl ?_
      refine mg_iast dX0_put_18 h0.2.2.1 h0.2.2.2 h.1 ?_
      replace h := h.2
      exact me_v dX0_put_19 rfl h
theorem dX0_removeAt_0 : decode cX0_removeAt 0 = .ok (.iload_n 1, 1) := by decide +kernel
theorem dX0_removeAt_1 : decode cX0_removeAt 1 = .ok (.ifCond .lt 11, 3) := by decide +kernel
theorem dX0_removeAt_4 : decode cX0_removeAt 4 = .ok (.iload_n 1, 1) := by decide +kernel
theorem dX0_removeAt_5 : decode cX0_removeAt 5 = .ok (.aload_n 0, 1) := by decide +kernel
theorem dX0_removeAt_6 : decode cX0_removeAt 6 = .ok (.getfield 19, 3) := by decide +kernel
theorem dX0_removeAt_9 : decode cX0_removeAt 9 = .ok (.if_icmp .lt 4, 3) := by decide +kernel
theorem dX0_removeAt_12 : decode cX0_removeAt 12 = .ok (.return_, 1) := by decide +kernel
theorem dX0_removeAt_13 : decode cX0_removeAt 13 = .ok (.iload_n 1, 1) := by decide +kernel
theorem dX0_removeAt_14 : decode cX0_removeAt 14 = .ok (.iconst 1, 1) := by decide +kernel
theorem dX0_removeAt_15 : decode cX0_removeAt 15 = .ok (.iadd, 1) := by decide +kernel
theorem dX0_removeAt_16 : decode cX0_removeAt 16 = .ok (.istore_n 2, 1) := by decide +kernel
theorem dX0_removeAt_17 : decode cX0_removeAt 17 = .ok (.iload_n 2, 1) := by decide +kernel
theorem dX0_removeAt_18 : decode cX0_removeAt 18 = .ok (.aload_n 0, 1) := by decide +kernel
theorem dX0_removeAt_19 : decode cX0_removeAt 19 = .ok (.getfield 19, 3) := by decide +kernel
theorem dX0_removeAt_22 : decode cX0_removeAt 22 = .ok (.if_icmp .ge 23, 3) := by decide +kernel
theorem dX0_removeAt_25 : decode cX0_removeAt 25 = .ok (.aload_n 0, 1) := by decide +kernel
theorem dX0_removeAt_26 : decode cX0_removeAt 26 = .ok (.getfield 13, 3) := by decide +kernel
theorem dX0_removeAt_29 : decode cX0_removeAt 29 = .ok (.iload_n 2, 1) := by decide +kernel
theorem dX0_removeAt_30 : decode cX0_removeAt 30 = .ok (.iconst 1, 1) := by decide +kernel
theorem dX0_removeAt_31 : decode cX0_removeAt 31 = .ok (.isub, 1) := by decide +kernel
theorem dX0_removeAt_32 : decode cX0_removeAt 32 = .ok (.aload_n 0, 1) := by decide +kernel
theorem dX0_removeAt_33 : decode cX0_removeAt 33 = .ok (.getfield 13, 3) := by decide +kernel
theorem dX0_removeAt_36 : decode cX0_removeAt 36 = .ok (.iload_n 2, 1) := by decide +kernel
theorem dX0_removeAt_37 : decode cX0_removeAt 37 = .ok (.iaload, 1) := by decide +kernel
theorem dX0_removeAt_38 : decode cX0_removeAt 38 = .ok (.iastore, 1) := by decide +kernel
theorem dX0_removeAt_39 : decode cX0_removeAt 39 = .ok (.iinc 2 1, 3) := by decide +kernel
theorem dX0_removeAt_42 : decode cX0_removeAt 42 = .ok (.goto (-25), 3) := by decide +kernel
theorem dX0_removeAt_45 : decode cX0_removeAt 45 = .ok (.aload_n 0, 1) := by decide +kernel
theorem dX0_removeAt_46 : decode cX0_removeAt 46 = .ok (.dup, 1) := by decide +kernel
theorem dX0_removeAt_47 : decode cX0_removeAt 47 = .ok (.getfield 19, 3) := by decide +kernel
theorem dX0_removeAt_50 : decode cX0_removeAt 50 = .ok (.iconst 1, 1) := by decide +kernel
theorem dX0_removeAt_51 : decode cX0_removeAt 51 = .ok (.isub, 1) := by decide +kernel
theorem dX0_removeAt_52 : decode cX0_removeAt 52 = .ok (.putfield 19, 3) := by decide +kernel
theorem dX0_removeAt_55 : decode cX0_removeAt 55 = .ok (.return_, 1) := by decide +kernel
abbrev mtX0_removeAt : mj_T := (yX0_removeAt.cls, cX0_removeAt, 3, none, mj_no, yX0_removeAt.name)
abbrev kX0_removeAt (k0 : Nat) (x1 : Int32) (g : mj_S) (M : mj_M) (q : mj_M → Prop) : Prop := mj_CV yX0_removeAt (.code yX0_removeAt cX0_removeAt 3 none) 0 [.ref (k0), .int (x1)] g M q
theorem kiX0_removeAt : mj_cV yX0_removeAt cX0_removeAt 3 none 1 := ⟨⟨wd_455, wd_456, wd_3, wd_457⟩, ⟨by decide +kernel, by decide +kernel, by decide +kernel⟩, Nat.le_of_ble_eq_true rfl⟩
def LX0_removeAt_17 (k0 n0 : Nat) (x2 : Int32) (g : mj_S) (M : mj_M) (q : mj_M → Prop) : Prop := ∀ d, 0 ≤ d → ∀ ex : Bool, mj_G mtX0_removeAt (mj_rm d 0 0) (mj_Fi (mj_qV g q) mj_x0 0 0) ex 0 0 17 [(0, .ref (k0)), (2, .int (x2))] [] g M
theorem eX0_removeAt {k0 n0 : Nat} {x1 : Int32} {g : mj_S} {M : mj_M} {q : mj_M → Prop} (h0 : is0 g k0 n0) (h : ((x1 : Int32) < 0 → q (M)) ∧ (¬ (x1 : Int32) < 0 → ((x1 : Int32) < ((M).1 (k0) 1) → LX0_removeAt_17 k0 n0 ((x1) + (1 : Int32)) g (M) q) ∧ (¬ (x1 : Int32) < ((M).1 (k0) 1) → q (M)))) : kX0_removeAt (k0) (x1) g M q := by
  intro d hd; refine mj_enter (by decide +kernel) (Nat.le_of_ble_eq_true rfl) ?_
  generalize (false : Bool) = ex
  show mj_G mtX0_removeAt (mj_rm d 0 0) (mj_Fi (mj_qV g q) mj_x0 0 0) ex 0 0 0 [(0, .ref (k0)), (1, .int (x1))] [] g M
  refine mg_iload_n dX0_removeAt_0 rfl 1 rfl ?_
  refine mg_if_lt (tgt := 12) dX0_removeAt_1 (by decide) (fun hc => ?_) (fun hc => ?_)
  · replace h := h.1 hc
    exact me_v dX0_removeAt_12 rfl h
  · replace h := h.2 hc
    refine mg_iload_n dX0_removeAt_4 rfl 1 rfl ?_
    refine mg_aload_n dX0_removeAt_5 rfl 0 rfl ?_
    refine mg_getI (j := 1) dX0_removeAt_6 kc_0 (Nat.le_of_ble_eq_true rfl) wd_49 rfl rfl h0.1.1 h0.1.2 rfl ?_
    refine mg_icmp_lt (tgt := 13) dX0_removeAt_9 (by decide) (fun hc => ?_) (fun hc => ?_)
    · replace h := h.1 hc
      refine mg_iload_n dX0_removeAt_13 rfl 1 rfl ?_
      refine mg_iconst (v := 1) dX0_removeAt_14 (by decide) ?_
      refine mg_iadd dX0_removeAt_15 ?_
      refine mg_istore_n (ls' := [(2, .int ((x1) + (1 : Int32))), (0, .ref (k0)), (1, .int (x1))]) dX0_removeAt_16 rfl (Nat.le_of_ble_eq_true rfl) rfl ?_
      exact mg_pick [1, 0] rfl (h d hd ex)
    · replace h := h.2 hc
      exact me_v dX0_removeAt_12 rfl h
theorem bX0_removeAt_17 {k0 n0 : Nat} {x2 : Int32} {g : mj_S} {M : mj_M} {q : mj_M → Prop} (h0 : is0 g k0 n0) (h : (((M).1 (k0) 1 : Int32) ≤ (x2) → q (mj_wI (M) (k0) 1 (((M).1 (k0) 1) - (1 : Int32)))) ∧ (¬ ((M).1 (k0) 1 : Int32) ≤ (x2) → vp_in (x2) (n0) ∧ (vp_in ((x2) - (1 : Int32)) (n0) ∧ (LX0_removeAt_17 k0 n0 (x2 + 1) g (mj_wI (M) (k0 + 1) (Int32.toNatClampNeg ((x2) - (1 : Int32))) ((M).1 (k0 + 1) (Int32.toNatClampNeg (x2)))) q)))) : LX0_removeAt_17 k0 n0 x2 g M q := by
  intro d hd ex
  refine mg_iload_n dX0_removeAt_17 rfl 1 rfl ?_
  refine mg_aload_n dX0_removeAt_18 rfl 0 rfl ?_
  refine mg_getI (j := 1) dX0_removeAt_19 kc_0 (Nat.le_of_ble_eq_true rfl) wd_49 rfl rfl h0.1.1 h0.1.2 rfl ?_
  refine mg_icmp_ge (tgt := 45) dX0_removeAt_22 (by decide) (fun hc => ?_) (fun hc => ?_)
  · replace h := h.1 hc
    refine mg_aload_n dX0_removeAt_45 rfl 0 rfl ?_
    refine mg_dup dX0_removeAt_46 rfl ?_
    refine mg_getI (j := 1) dX0_removeAt_47 kc_0 (Nat.le_of_ble_eq_true rfl) wd_49 rfl rfl h0.1.1 h0.1.2 rfl ?_
    refine mg_iconst (v := 1) dX0_removeAt_50 (by decide) ?_
    refine mg_isub dX0_removeAt_51 ?_
    refine mg_putI (j := 1) dX0_removeAt_52 kc_0 (Nat.le_of_ble_eq_true rfl) wd_49 rfl rfl rfl h0.1.1 h0.1.2 ?_
    exact me_v dX0_removeAt_55 rfl h
  · replace h := h.2 hc
    refine mg_aload_n dX0_removeAt_25 rfl 0 rfl ?_
    refine mg_getR (j := 0) dX0_removeAt_26 kc_0 (Nat.le_of_ble_eq_true rfl) wd_48 rfl rfl h0.1.1 h0.1.2 h0.2.1 ?_
    refine mg_iload_n dX0_removeAt_29 rfl 1 rfl ?_
    refine mg_iconst (v := 1) dX0_removeAt_30 (by decide) ?_
    refine mg_isub dX0_removeAt_31 ?_
    refine mg_aload_n dX0_removeAt_32 rfl 0 rfl ?_
    refine mg_getR (j := 0) dX0_removeAt_33 kc_0 (Nat.le_of_ble_eq_true rfl) wd_48 rfl rfl h0.1.1 h0.1.2 h0.2.1 ?_
    refine mg_iload_n dX0_removeAt_36 rfl 1 rfl ?_
    refine mg_iald dX0_removeAt_37 h0.2.2.1 h0.2.2.2 h.1 rfl ?_
    replace h := h.2
    refine mg_iast dX0_removeAt_38 h0.2.2.1 h0.2.2.2 h.1 ?_
    replace h := h.2
    refine mg_iinc (v := x2 + 1) (ls' := [(2, .int (x2 + 1)), (0, .ref (k0))]) dX0_removeAt_39 1 rfl rfl (Nat.le_of_ble_eq_true rfl) rfl ?_
    refine mg_goto (tgt := 17) dX0_removeAt_42 (by decide) ?_
    exact mg_pick [1, 0] rfl (h d hd ex)
theorem dX0_clear_0 : decode cX0_clear 0 = .ok (.aload_n 0, 1) := by decide +kernel
theorem dX0_clear_1 : decode cX0_clear 1 = .ok (.iconst 0, 1) := by decide +kernel
theorem dX0_clear_2 : decode cX0_clear 2 = .ok (.putfield 19, 3) := by decide +kernel
theorem dX0_clear_5 : decode cX0_clear 5 = .ok (.return_, 1) := by decide +kernel
abbrev mtX0_clear : mj_T := (yX0_clear.cls, cX0_clear, 1, none, mj_no, yX0_clear.name)
abbrev kX0_clear (k0 : Nat) (g : mj_S) (M : mj_M) (q : mj_M → Prop) : Prop := mj_CV yX0_clear (.code yX0_clear cX0_clear 1 none) 0 [.ref (k0)] g M q
theorem kiX0_clear : mj_cV yX0_clear cX0_clear 1 none 0 := ⟨⟨wd_61, wd_62, wd_3, wd_63⟩, ⟨by decide +kernel, by decide +kernel, by decide +kernel⟩, Nat.le_of_ble_eq_true rfl⟩
theorem eX0_clear {k0 n0 : Nat} {g : mj_S} {M : mj_M} {q : mj_M → Prop} (h0 : is0 g k0 n0) (h : q (mj_wI (M) (k0) 1 (0))) : kX0_clear (k0) g M q := by
  intro d hd; refine mj_enter (by decide +kernel) (Nat.le_of_ble_eq_true rfl) ?_
  generalize (false : Bool) = ex
  show mj_G mtX0_clear (mj_rm d 0 0) (mj_Fi (mj_qV g q) mj_x0 0 0) ex 0 0 0 [(0, .ref (k0))] [] g M
  refine mg_aload_n dX0_clear_0 rfl 0 rfl ?_
  refine mg_iconst (v := 0) dX0_clear_1 (by decide) ?_
  refine mg_putI (j := 1) dX0_clear_2 kc_0 (Nat.le_of_ble_eq_true rfl) wd_49 rfl rfl rfl h0.1.1 h0.1.2 ?_
  exact me_v dX0_clear_5 rfl h
theorem dX0_collapse_0 : decode cX0_collapse 0 = .ok (.aload_n 0, 1) := by decide +kernel
theorem dX0_collapse_1 : decode cX0_collapse 1 = .ok (.invokevirtual 23, 3) := by decide +kernel
theorem dX0_collapse_4 : decode cX0_collapse 4 = .ok (.aload_n 0, 1) := by decide +kernel
theorem dX0_collapse_5 : decode cX0_collapse 5 = .ok (.iconst 0, 1) := by decide +kernel
theorem dX0_collapse_6 : decode cX0_collapse 6 = .ok (.invokevirtual 26, 3) := by decide +kernel
theorem dX0_collapse_9 : decode cX0_collapse 9 = .ok (.return_, 1) := by decide +kernel
abbrev mtX0_collapse : mj_T := (yX0_collapse.cls, cX0_collapse, 1, none, mj_no, yX0_collapse.name)
abbrev kX0_collapse (k0 : Nat) (g : mj_S) (M : mj_M) (q : mj_M → Prop) : Prop := mj_CV yX0_collapse (.code yX0_collapse cX0_collapse 1 none) 1 [.ref (k0)] g M q
theorem kiX0_collapse : mj_cV yX0_collapse cX0_collapse 1 none 0 := ⟨⟨wd_431, wd_432, wd_3, wd_433⟩, ⟨by decide +kernel, by decide +kernel, by decide +kernel⟩, Nat.le_of_ble_eq_true rfl⟩
theorem eX0_collapse {k0 n0 : Nat} {g : mj_S} {M : mj_M} {q : mj_M → Prop} (h0 : is0 g k0 n0) (h : ∃ (q1 : mj_M → Prop), kX0_clear (k0) g (M) q1 ∧ ∀ (M1 : mj_M), q1 M1 → (∃ (q2 : mj_M → Prop), kX0_add (k0) (0) g (M1) q2 ∧ ∀ (M2 : mj_M), q2 M2 → (q (M2)))) : kX0_collapse (k0) g M q := by
  intro d hd; refine mj_enter (by decide +kernel) (Nat.le_of_ble_eq_true rfl) ?_
  generalize (false : Bool) = ex
  show mj_G mtX0_collapse (mj_rm d 0 0) (mj_Fi (mj_qV g q) mj_x0 0 0) ex 0 0 0 [(0, .ref (k0))] [] g M
  refine mg_aload_n dX0_collapse_0 rfl 0 rfl ?_
  obtain ⟨q1, hC, hk⟩ := h
  refine mc_Vv [] [] dX0_collapse_1 wd_384 kiX0_clear (Nat.le_of_ble_eq_true rfl) h0.1.1 h0.1.2 rfl (Nat.le_trans (Nat.le_of_ble_eq_true rfl) hd) hC (fun M1 hq => ?_)
  replace h := hk M1 hq
  refine mg_aload_n dX0_collapse_4 rfl 0 rfl ?_
  refine mg_iconst (v := 0) dX0_collapse_5 (by decide) ?_
  obtain ⟨q2, hC, hk⟩ := h
  refine mc_Vv [.int (0)] [] dX0_collapse_6 wd_385 kiX0_add (Nat.le_of_ble_eq_true rfl) h0.1.1 h0.1.2 rfl (Nat.le_trans (Nat.le_of_ble_eq_true rfl) hd) hC (fun M2 hq => ?_)
  replace h := hk M2 hq
  exact me_v dX0_collapse_9 rfl h
theorem dX0_isContradictory_0 : decode cX0_isContradictory 0 = .ok (.aload_n 0, 1) := by decide +kernel
theorem dX0_isContradictory_1 : decode cX0_isContradictory 1 = .ok (.getfield 19, 3) := by decide +kernel
theorem dX0_isContradictory_4 : decode cX0_isContradictory 4 = .ok (.iconst 1, 1) := by decide +kernel
theorem dX0_isContradictory_5 : decode cX0_isContradictory 5 = .ok (.if_icmp .ne 15, 3) := by decide +kernel
theorem dX0_isContradictory_8 : decode cX0_isContradictory 8 = .ok (.aload_n 0, 1) := by decide +kernel
theorem dX0_isContradictory_9 : decode cX0_isContradictory 9 = .ok (.iconst 0, 1) := by decide +kernel
theorem dX0_isContradictory_10 : decode cX0_isContradictory 10 = .ok (.invokevirtual 30, 3) := by decide +kernel
theorem dX0_isContradictory_13 : decode cX0_isContradictory 13 = .ok (.ifCond .ne 7, 3) := by decide +kernel
theorem dX0_isContradictory_16 : decode cX0_isContradictory 16 = .ok (.iconst 1, 1) := by decide +kernel
theorem dX0_isContradictory_17 : decode cX0_isContradictory 17 = .ok (.goto 4, 3) := by decide +kernel
theorem dX0_isContradictory_20 : decode cX0_isContradictory 20 = .ok (.iconst 0, 1) := by decide +kernel
theorem dX0_isContradictory_21 : decode cX0_isContradictory 21 = .ok (.ireturn, 1) := by decide +kernel
abbrev mtX0_isContradictory : mj_T := (yX0_isContradictory.cls, cX0_isContradictory, 1, (some .boolean), mj_no, yX0_isContradictory.name)
abbrev kX0_isContradictory (k0 : Nat) (g : mj_S) (M : mj_M) (q : Int32 → mj_M → Prop) : Prop := mj_CI yX0_isContradictory (.code yX0_isContradictory cX0_isContradictory 1 (some .boolean)) 1 [.ref (k0)] g M q
theorem kiX0_isContradictory : mj_cV yX0_isContradictory cX0_isContradictory 1 (some .boolean) 0 := ⟨⟨wd_287, wd_288, wd_3, wd_289⟩, ⟨by decide +kernel, by decide +kernel, by decide +kernel⟩, Nat.le_of_ble_eq_true rfl⟩
theorem eX0_isContradictory {k0 n0 : Nat} {g : mj_S} {M : mj_M} {q : Int32 → mj_M → Prop} (h0 : is0 g k0 n0) (h : (¬ ((M).1 (k0) 1 : Int32) = (1 : Int32) → q 0 (M)) ∧ (((M).1 (k0) 1 : Int32) = (1 : Int32) → ∃ (q1 : Int32 → mj_M → Prop), kX0_at (k0) (0) g (M) q1 ∧ ∀ (v1 : Int32) (M1 : mj_M), q1 v1 M1 → ((¬ (v1 : Int32) = 0 → q 0 (M1)) ∧ ((v1 : Int32) = 0 → q 1 (M1))))) : kX0_isContradictory (k0) g M q := by
  intro d hd; refine mj_enter (by decide +kernel) (Nat.le_of_ble_eq_true rfl) ?_
  generalize (false : Bool) = ex
  show mj_G mtX0_isContradictory (mj_rm d 0 0) (mj_Fi (mj_qI g q) mj_x0 0 0) ex 0 0 0 [(0, .ref (k0))] [] g M
  refine mg_aload_n dX0_isContradictory_0 rfl 0 rfl ?_
  refine mg_getI (j := 1) dX0_isContradictory_1 kc_0 (Nat.le_of_ble_eq_true rfl) wd_49 rfl rfl h0.1.1 h0.1.2 rfl ?_
  refine mg_iconst (v := 1) dX0_isContradictory_4 (by decide) ?_
  refine mg_icmp_ne (tgt := 20) dX0_isContradictory_5 (by decide) (fun hc => ?_) (fun hc => ?_)
  · replace h := h.1 hc
    refine mg_iconst (v := 0) dX0_isContradictory_20 (by decide) ?_
    exact me_z dX0_isContradictory_21 rfl (Or.inl rfl) h
  · replace h := h.2 hc
    refine mg_aload_n dX0_isContradictory_8 rfl 0 rfl ?_
    refine mg_iconst (v := 0) dX0_isContradictory_9 (by decide) ?_
    obtain ⟨q1, hC, hk⟩ := h
    refine mc_Vi [.int (0)] [] dX0_isContradictory_10 wd_290 kiX0_at (Nat.le_of_ble_eq_true rfl) h0.1.1 h0.1.2 rfl (Nat.le_trans (Nat.le_of_ble_eq_true rfl) hd) hC (fun v1 M1 hq => ?_)
    replace h := hk v1 M1 hq
    refine mg_if_ne (tgt := 20) dX0_isContradictory_13 (by decide) (fun hc => ?_) (fun hc => ?_)
    · replace h := h.1 hc
      refine mg_iconst (v := 0) dX0_isContradictory_20 (by decide) ?_
      exact me_z dX0_isContradictory_21 rfl (Or.inl rfl) h
    · replace h := h.2 hc
      refine mg_iconst (v := 1) dX0_isContradictory_16 (by decide) ?_
      refine mg_goto (tgt := 21) dX0_isContradictory_17 (by decide) ?_
      exact me_z dX0_isContradictory_21 rfl (Or.inr rfl) h
theorem dX0_copyFrom_0 : decode cX0_copyFrom 0 = .ok (.aload_n 0, 1) := by decide +kernel
theorem dX0_copyFrom_1 : decode cX0_copyFrom 1 = .ok (.invokevirtual 23, 3) := by decide +kernel
theorem dX0_copyFrom_4 : decode cX0_copyFrom 4 = .ok (.iconst 0, 1) := by decide +kernel
theorem dX0_copyFrom_5 : decode cX0_copyFrom 5 = .ok (.istore_n 2, 1) := by decide +kernel
theorem dX0_copyFrom_6 : decode cX0_copyFrom 6 = .ok (.iload_n 2, 1) := by decide +kernel
theorem dX0_copyFrom_7 : decode cX0_copyFrom 7 = .ok (.aload_n 1, 1) := by decide +kernel
theorem dX0_copyFrom_8 : decode cX0_copyFrom 8 = .ok (.getfield 19, 3) := by decide +kernel
theorem dX0_copyFrom_11 : decode cX0_copyFrom 11 = .ok (.if_icmp .ge 18, 3) := by decide +kernel
theorem dX0_copyFrom_14 : decode cX0_copyFrom 14 = .ok (.aload_n 0, 1) := by decide +kernel
theorem dX0_copyFrom_15 : decode cX0_copyFrom 15 = .ok (.aload_n 1, 1) := by decide +kernel
theorem dX0_copyFrom_16 : decode cX0_copyFrom 16 = .ok (.iload_n 2, 1) := by decide +kernel
theorem dX0_copyFrom_17 : decode cX0_copyFrom 17 = .ok (.invokevirtual 30, 3) := by decide +kernel
theorem dX0_copyFrom_20 : decode cX0_copyFrom 20 = .ok (.invokevirtual 26, 3) := by decide +kernel
theorem dX0_copyFrom_23 : decode cX0_copyFrom 23 = .ok (.iinc 2 1, 3) := by decide +kernel
theorem dX0_copyFrom_26 : decode cX0_copyFrom 26 = .ok (.goto (-20), 3) := by decide +kernel
theorem dX0_copyFrom_29 : decode cX0_copyFrom 29 = .ok (.return_, 1) := by decide +kernel
abbrev mtX0_copyFrom : mj_T := (yX0_copyFrom.cls, cX0_copyFrom, 3, none, mj_no, yX0_copyFrom.name)
abbrev kX0_copyFrom (k0 : Nat) (k1 : Nat) (g : mj_S) (M : mj_M) (q : mj_M → Prop) : Prop := mj_CV yX0_copyFrom (.code yX0_copyFrom cX0_copyFrom 3 none) 1 [.ref (k0), .ref (k1)] g M q
theorem kiX0_copyFrom : mj_cV yX0_copyFrom cX0_copyFrom 3 none 1 := ⟨⟨wd_381, wd_382, wd_3, wd_383⟩, ⟨by decide +kernel, by decide +kernel, by decide +kernel⟩, Nat.le_of_ble_eq_true rfl⟩
def LX0_copyFrom_6 (k0 n0 : Nat) (k1 n1 : Nat) (x2 : Int32) (g : mj_S) (M : mj_M) (q : mj_M → Prop) : Prop := ∀ d, 1 ≤ d → ∀ ex : Bool, mj_G mtX0_copyFrom (mj_rm d 0 0) (mj_Fi (mj_qV g q) mj_x0 0 0) ex 0 0 6 [(0, .ref (k0)), (1, .ref (k1)), (2, .int (x2))] [] g M
theorem eX0_copyFrom {k0 n0 : Nat} {k1 n1 : Nat} {g : mj_S} {M : mj_M} {q : mj_M → Prop} (h0 : is0 g k0 n0) (h1 : is0 g k1 n1) (h : ∃ (q1 : mj_M → Prop), kX0_clear (k0) g (M) q1 ∧ ∀ (M1 : mj_M), q1 M1 → (LX0_copyFrom_6 k0 n0 k1 n1 (0) g (M1) q)) : kX0_copyFrom (k0) (k1) g M q := by
  intro d hd; refine mj_enter (by decide +kernel) (Nat.le_of_ble_eq_true rfl) ?_
  generalize (false : Bool) = ex
  show mj_G mtX0_copyFrom (mj_rm d 0 0) (mj_Fi (mj_qV g q) mj_x0 0 0) ex 0 0 0 [(0, .ref (k0)), (1, .ref (k1))] [] g M
  refine mg_aload_n dX0_copyFrom_0 rfl 0 rfl ?_
  obtain ⟨q1, hC, hk⟩ := h
  refine mc_Vv [] [] dX0_copyFrom_1 wd_384 kiX0_clear (Nat.le_of_ble_eq_true rfl) h0.1.1 h0.1.2 rfl (Nat.le_trans (Nat.le_of_ble_eq_true rfl) hd) hC (fun M1 hq => ?_)
  replace h := hk M1 hq
  refine mg_iconst (v := 0) dX0_copyFrom_4 (by decide) ?_
  refine mg_istore_n (ls' := [(2, .int (0)), (0, .ref (k0)), (1, .ref (k1))]) dX0_copyFrom_5 rfl (Nat.le_of_ble_eq_true rfl) rfl ?_
  exact mg_pick [1, 2, 0] rfl (h d hd ex)
theorem bX0_copyFrom_6 {k0 n0 : Nat} {k1 n1 : Nat} {x2 : Int32} {g : mj_S} {M : mj_M} {q : mj_M → Prop} (h0 : is0 g k0 n0) (h1 : is0 g k1 n1) (h : (((M).1 (k1) 1 : Int32) ≤ (x2) → q (M)) ∧ (¬ ((M).1 (k1) 1 : Int32) ≤ (x2) → ∃ (q1 : Int32 → mj_M → Prop), kX0_at (k1) (x2) g (M) q1 ∧ ∀ (v1 : Int32) (M1 : mj_M), q1 v1 M1 → (∃ (q2 : mj_M → Prop), kX0_add (k0) (v1) g (M1) q2 ∧ ∀ (M2 : mj_M), q2 M2 → (LX0_copyFrom_6 k0 n0 k1 n1 (x2 + 1) g (M2) q)))) : LX0_copyFrom_6 k0 n0 k1 n1 x2 g M q := by
  intro d hd ex
  refine mg_iload_n dX0_copyFrom_6 rfl 2 rfl ?_
  refine mg_aload_n dX0_copyFrom_7 rfl 1 rfl ?_
  refine mg_getI (j := 1) dX0_copyFrom_8 kc_0 (Nat.le_of_ble_eq_true rfl) wd_49 rfl rfl h1.1.1 h1.1.2 rfl ?_
  refine mg_icmp_ge (tgt := 29) dX0_copyFrom_11 (by decide) (fun hc => ?_) (fun hc => ?_)
  · replace h := h.1 hc
    exact me_v dX0_copyFrom_29 rfl h
  · replace h := h.2 hc
    refine mg_aload_n dX0_copyFrom_14 rfl 0 rfl ?_
    refine mg_aload_n dX0_copyFrom_15 rfl 1 rfl ?_
    refine mg_iload_n dX0_copyFrom_16 rfl 2 rfl ?_
    obtain ⟨q1, hC, hk⟩ := h
    refine mc_Vi [.int (x2)] [.ref (k0)] dX0_copyFrom_17 wd_290 kiX0_at (Nat.le_of_ble_eq_true rfl) h1.1.1 h1.1.2 rfl (Nat.le_trans (Nat.le_of_ble_eq_true rfl) hd) hC (fun v1 M1 hq => ?_)
    replace h := hk v1 M1 hq
    obtain ⟨q2, hC, hk⟩ := h
    refine mc_Vv [.int (v1)] [] dX0_copyFrom_20 wd_385 kiX0_add (Nat.le_of_ble_eq_true rfl) h0.1.1 h0.1.2 rfl (Nat.le_trans (Nat.le_of_ble_eq_true rfl) hd) hC (fun M2 hq => ?_)
    replace h := hk M2 hq
    refine mg_iinc (v := x2 + 1) (ls' := [(2, .int (x2 + 1)), (0, .ref (k0)), (1, .ref (k1))]) dX0_copyFrom_23 2 rfl rfl (Nat.le_of_ble_eq_true rfl) rfl ?_
    refine mg_goto (tgt := 6) dX0_copyFrom_26 (by decide) ?_
    exact mg_pick [1, 2, 0] rfl (h d hd ex)
theorem dX0_has_0 : decode cX0_has 0 = .ok (.iconst 0, 1) := by decide +kernel
theorem dX0_has_1 : decode cX0_has 1 = .ok (.istore_n 2, 1) := by decide +kernel
theorem dX0_has_2 : decode cX0_has 2 = .ok (.iload_n 2, 1) := by decide +kernel
theorem dX0_has_3 : decode cX0_has 3 = .ok (.aload_n 0, 1) := by decide +kernel
theorem dX0_has_4 : decode cX0_has 4 = .ok (.getfield 19, 3) := by decide +kernel
theorem dX0_has_7 : decode cX0_has 7 = .ok (.if_icmp .ge 21, 3) := by decide +kernel
theorem dX0_has_10 : decode cX0_has 10 = .ok (.aload_n 0, 1) := by decide +kernel
theorem dX0_has_11 : decode cX0_has 11 = .ok (.getfield 13, 3) := by decide +kernel
theorem dX0_has_14 : decode cX0_has 14 = .ok (.iload_n 2, 1) := by decide +kernel
theorem dX0_has_15 : decode cX0_has 15 = .ok (.iaload, 1) := by decide +kernel
theorem dX0_has_16 : decode cX0_has 16 = .ok (.iload_n 1, 1) := by decide +kernel
theorem dX0_has_17 : decode cX0_has 17 = .ok (.if_icmp .ne 5, 3) := by decide +kernel
theorem dX0_has_20 : decode cX0_has 20 = .ok (.iconst 1, 1) := by decide +kernel
theorem dX0_has_21 : decode cX0_has 21 = .ok (.ireturn, 1) := by decide +kernel
theorem dX0_has_22 : decode cX0_has 22 = .ok (.iinc 2 1, 3) := by decide +kernel
theorem dX0_has_25 : decode cX0_has 25 = .ok (.goto (-23), 3) := by decide +kernel
theorem dX0_has_28 : decode cX0_has 28 = .ok (.iconst 0, 1) := by decide +kernel
theorem dX0_has_29 : decode cX0_has 29 = .ok (.ireturn, 1) := by decide +kernel
abbrev mtX0_has : mj_T := (yX0_has.cls, cX0_has, 3, (some .boolean), mj_no, yX0_has.name)
abbrev kX0_has (k0 : Nat) (x1 : Int32) (g : mj_S) (M : mj_M) (q : Int32 → mj_M → Prop) : Prop := mj_CI yX0_has (.code yX0_has cX0_has 3 (some .boolean)) 0 [.ref (k0), .int (x1)] g M q
theorem kiX0_has : mj_cV yX0_has cX0_has 3 (some .boolean) 1 := ⟨⟨wd_511, wd_512, wd_3, wd_513⟩, ⟨by decide +kernel, by decide +kernel, by decide +kernel⟩, Nat.le_of_ble_eq_true rfl⟩
def LX0_has_2 (k0 n0 : Nat) (x1 : Int32) (x2 : Int32) (g : mj_S) (M : mj_M) (q : Int32 → mj_M → Prop) : Prop := ∀ d, 0 ≤ d → ∀ ex : Bool, mj_G mtX0_has (mj_rm d 0 0) (mj_Fi (mj_qI g q) mj_x0 0 0) ex 0 0 2 [(0, .ref (k0)), (1, .int (x1)), (2, .int (x2))] [] g M
theorem eX0_has {k0 n0 : Nat} {x1 : Int32} {g : mj_S} {M : mj_M} {q : Int32 → mj_M → Prop} (h0 : is0 g k0 n0) (h : LX0_has_2 k0 n0 (x1) (0) g (M) q) : kX0_has (k0) (x1) g M q := by
  intro d hd; refine mj_enter (by decide +kernel) (Nat.le_of_ble_eq_true rfl) ?_
  generalize (false : Bool) = ex
  show mj_G mtX0_has (mj_rm d 0 0) (mj_Fi (mj_qI g q) mj_x0 0 0) ex 0 0 0 [(0, .ref (k0)), (1, .int (x1))] [] g M
  refine mg_iconst (v := 0) dX0_has_0 (by decide) ?_
  refine mg_istore_n (ls' := [(2, .int (0)), (0, .ref (k0)), (1, .int (x1))]) dX0_has_1 rfl (Nat.le_of_ble_eq_true rfl) rfl ?_
  exact mg_pick [1, 2, 0] rfl (h d hd ex)
theorem bX0_has_2 {k0 n0 : Nat} {x1 : Int32} {x2 : Int32} {g : mj_S} {M : mj_M} {q : Int32 → mj_M → Prop} (h0 : is0 g k0 n0) (h : (((M).1 (k0) 1 : Int32) ≤ (x2) → q 0 (M)) ∧ (¬ ((M).1 (k0) 1 : Int32) ≤ (x2) → vp_in (x2) (n0) ∧ ((¬ ((M).1 (k0 + 1) (Int32.toNatClampNeg (x2)) : Int32) = (x1) → LX0_has_2 k0 n0 (x1) (x2 + 1) g (M) q) ∧ (((M).1 (k0 + 1) (Int32.toNatClampNeg (x2)) : Int32) = (x1) → q 1 (M))))) : LX0_has_2 k0 n0 x1 x2 g M q := by
  intro d hd ex
  refine mg_iload_n dX0_has_2 rfl 2 rfl ?_
  refine mg_aload_n dX0_has_3 rfl 0 rfl ?_
  refine mg_getI (j := 1) dX0_has_4 kc_0 (Nat.le_of_ble_eq_true rfl) wd_49 rfl rfl h0.1.1 h0.1.2 rfl ?_
  refine mg_icmp_ge (tgt := 28) dX0_has_7 (by decide) (fun hc => ?_) (fun hc => ?_)
  · replace h := h.1 hc
    refine mg_iconst (v := 0) dX0_has_28 (by decide) ?_
    exact me_z dX0_has_29 rfl (Or.inl rfl) h
  · replace h := h.2 hc
    refine mg_aload_n dX0_has_10 rfl 0 rfl ?_
    refine mg_getR (j := 0) dX0_has_11 kc_0 (Nat.le_of_ble_eq_true rfl) wd_48 rfl rfl h0.1.1 h0.1.2 h0.2.1 ?_
    refine mg_iload_n dX0_has_14 rfl 2 rfl ?_
    refine mg_iald dX0_has_15 h0.2.2.1 h0.2.2.2 h.1 rfl ?_
    replace h := h.2
    refine mg_iload_n dX0_has_16 rfl 1 rfl ?_
    refine mg_icmp_ne (tgt := 22) dX0_has_17 (by decide) (fun hc => ?_) (fun hc => ?_)
    · replace h := h.1 hc
      refine mg_iinc (v := x2 + 1) (ls' := [(2, .int (x2 + 1)), (0, .ref (k0)), (1, .int (x1))]) dX0_has_22 2 rfl rfl (Nat.le_of_ble_eq_true rfl) rfl ?_
      refine mg_goto (tgt := 2) dX0_has_25 (by decide) ?_
      exact mg_pick [1, 2, 0] rfl (h d hd ex)
    · replace h := h.2 hc
      refine mg_iconst (v := 1) dX0_has_20 (by decide) ?_
      exact me_z dX0_has_21 rfl (Or.inr rfl) h
theorem dX0_countLiterals_0 : decode cX0_countLiterals 0 = .ok (.iconst 0, 1) := by decide +kernel
theorem dX0_countLiterals_1 : decode cX0_countLiterals 1 = .ok (.istore_n 1, 1) := by decide +kernel
theorem dX0_countLiterals_2 : decode cX0_countLiterals 2 = .ok (.iconst 0, 1) := by decide +kernel
theorem dX0_countLiterals_3 : decode cX0_countLiterals 3 = .ok (.istore_n 2, 1) := by decide +kernel
theorem dX0_countLiterals_4 : decode cX0_countLiterals 4 = .ok (.iload_n 2, 1) := by decide +kernel
theorem dX0_countLiterals_5 : decode cX0_countLiterals 5 = .ok (.aload_n 0, 1) := by decide +kernel
theorem dX0_countLiterals_6 : decode cX0_countLiterals 6 = .ok (.getfield 19, 3) := by decide +kernel
theorem dX0_countLiterals_9 : decode cX0_countLiterals 9 = .ok (.if_icmp .ge 21, 3) := by decide +kernel
theorem dX0_countLiterals_12 : decode cX0_countLiterals 12 = .ok (.iload_n 1, 1) := by decide +kernel
theorem dX0_countLiterals_13 : decode cX0_countLiterals 13 = .ok (.aload_n 0, 1) := by decide +kernel
theorem dX0_countLiterals_14 : decode cX0_countLiterals 14 = .ok (.getfield 13, 3) := by decide +kernel
theorem dX0_countLiterals_17 : decode cX0_countLiterals 17 = .ok (.iload_n 2, 1) := by decide +kernel
theorem dX0_countLiterals_18 : decode cX0_countLiterals 18 = .ok (.iaload, 1) := by decide +kernel
theorem dX0_countLiterals_19 : decode cX0_countLiterals 19 = .ok (.invokestatic 34, 3) := by decide +kernel
theorem dX0_countLiterals_22 : decode cX0_countLiterals 22 = .ok (.iadd, 1) := by decide +kernel
theorem dX0_countLiterals_23 : decode cX0_countLiterals 23 = .ok (.istore_n 1, 1) := by decide +kernel
theorem dX0_countLiterals_24 : decode cX0_countLiterals 24 = .ok (.iinc 2 1, 3) := by decide +kernel
theorem dX0_countLiterals_27 : decode cX0_countLiterals 27 = .ok (.goto (-23), 3) := by decide +kernel
theorem dX0_countLiterals_30 : decode cX0_countLiterals 30 = .ok (.iload_n 1, 1) := by decide +kernel
theorem dX0_countLiterals_31 : decode cX0_countLiterals 31 = .ok (.ireturn, 1) := by decide +kernel
abbrev mtX0_countLiterals : mj_T := (yX0_countLiterals.cls, cX0_countLiterals, 3, (some .int), mj_no, yX0_countLiterals.name)
abbrev kX0_countLiterals (k0 : Nat) (g : mj_S) (M : mj_M) (q : Int32 → mj_M → Prop) : Prop := mj_CI yX0_countLiterals (.code yX0_countLiterals cX0_countLiterals 3 (some .int)) 1 [.ref (k0)] g M q
theorem kiX0_countLiterals : mj_cV yX0_countLiterals cX0_countLiterals 3 (some .int) 0 := ⟨⟨wd_273, wd_274, wd_3, wd_275⟩, ⟨by decide +kernel, by decide +kernel, by decide +kernel⟩, Nat.le_of_ble_eq_true rfl⟩
def LX0_countLiterals_4 (k0 n0 : Nat) (x1 : Int32) (x2 : Int32) (g : mj_S) (M : mj_M) (q : Int32 → mj_M → Prop) : Prop := ∀ d, 1 ≤ d → ∀ ex : Bool, mj_G mtX0_countLiterals (mj_rm d 0 0) (mj_Fi (mj_qI g q) mj_x0 0 0) ex 0 0 4 [(0, .ref (k0)), (1, .int (x1)), (2, .int (x2))] [] g M
theorem eX0_countLiterals {k0 n0 : Nat} {g : mj_S} {M : mj_M} {q : Int32 → mj_M → Prop} (h0 : is0 g k0 n0) (h : LX0_countLiterals_4 k0 n0 (0) (0) g (M) q) : kX0_countLiterals (k0) g M q := by
  intro d hd; refine mj_enter (by decide +kernel) (Nat.le_of_ble_eq_true rfl) ?_
  generalize (false : Bool) = ex
  show mj_G mtX0_countLiterals (mj_rm d 0 0) (mj_Fi (mj_qI g q) mj_x0 0 0) ex 0 0 0 [(0, .ref (k0))] [] g M
  refine mg_iconst (v := 0) dX0_countLiterals_0 (by decide) ?_
  refine mg_istore_n (ls' := [(1, .int (0)), (0, .ref (k0))]) dX0_countLiterals_1 rfl (Nat.le_of_ble_eq_true rfl) rfl ?_
  refine mg_iconst (v := 0) dX0_countLiterals_2 (by decide) ?_
  refine mg_istore_n (ls' := [(2, .int (0)), (1, .int (0)), (0, .ref (k0))]) dX0_countLiterals_3 rfl (Nat.le_of_ble_eq_true rfl) rfl ?_
  exact mg_pick [2, 1, 0] rfl (h d hd ex)
theorem bX0_countLiterals_4 {k0 n0 : Nat} {x1 : Int32} {x2 : Int32} {g : mj_S} {M : mj_M} {q : Int32 → mj_M → Prop} (h0 : is0 g k0 n0) (h : (((M).1 (k0) 1 : Int32) ≤ (x2) → q (x1) (M)) ∧ (¬ ((M).1 (k0) 1 : Int32) ≤ (x2) → vp_in (x2) (n0) ∧ (∃ (q1 : Int32 → mj_M → Prop), kJ6_bitCount_0f7a4 ((M).1 (k0 + 1) (Int32.toNatClampNeg (x2))) g (M) q1 ∧ ∀ (v1 : Int32) (M1 : mj_M), q1 v1 M1 → (LX0_countLiterals_4 k0 n0 ((x1) + (v1)) (x2 + 1) g (M1) q)))) : LX0_countLiterals_4 k0 n0 x1 x2 g M q := by
  intro d hd ex
  refine mg_iload_n dX0_countLiterals_4 rfl 2 rfl ?_
  refine mg_aload_n dX0_countLiterals_5 rfl 0 rfl ?_
  refine mg_getI (j := 1) dX0_countLiterals_6 kc_0 (Nat.le_of_ble_eq_true rfl) wd_49 rfl rfl h0.1.1 h0.1.2 rfl ?_
  refine mg_icmp_ge (tgt := 30) dX0_countLiterals_9 (by decide) (fun hc => ?_) (fun hc => ?_)
  · replace h := h.1 hc
    refine mg_iload_n dX0_countLiterals_30 rfl 1 rfl ?_
    exact me_i dX0_countLiterals_31 rfl h
  · replace h := h.2 hc
    refine mg_iload_n dX0_countLiterals_12 rfl 1 rfl ?_
    refine mg_aload_n dX0_countLiterals_13 rfl 0 rfl ?_
    refine mg_getR (j := 0) dX0_countLiterals_14 kc_0 (Nat.le_of_ble_eq_true rfl) wd_48 rfl rfl h0.1.1 h0.1.2 h0.2.1 ?_
    refine mg_iload_n dX0_countLiterals_17 rfl 2 rfl ?_
    refine mg_iald dX0_countLiterals_18 h0.2.2.1 h0.2.2.2 h.1 rfl ?_
    replace h := h.2
    obtain ⟨q1, hC, hk⟩ := h
    refine mc_Si [.int ((M).1 (k0 + 1) (Int32.toNatClampNeg (x2)))] [.int (x1)] dX0_countLiterals_19 wd_276 kiJ6_bitCount_0f7a4 (Nat.le_of_ble_eq_true rfl) (Nat.le_trans (Nat.le_of_ble_eq_true rfl) hd) hC (fun v1 M1 hq => ?_)
    replace h := hk v1 M1 hq
    refine mg_iadd dX0_countLiterals_22 ?_
    refine mg_istore_n (ls' := [(1, .int ((x1) + (v1))), (0, .ref (k0)), (2, .int (x2))]) dX0_countLiterals_23 rfl (Nat.le_of_ble_eq_true rfl) rfl ?_
    refine mg_iinc (v := x2 + 1) (ls' := [(2, .int (x2 + 1)), (1, .int ((x1) + (v1))), (0, .ref (k0))]) dX0_countLiterals_24 2 rfl rfl (Nat.le_of_ble_eq_true rfl) rfl ?_
    refine mg_goto (tgt := 4) dX0_countLiterals_27 (by decide) ?_
    exact mg_pick [2, 1, 0] rfl (h d hd ex)
theorem dX0_countContaining_0 : decode cX0_countContaining 0 = .ok (.iconst 0, 1) := by decide +kernel
theorem dX0_countContaining_1 : decode cX0_countContaining 1 = .ok (.istore_n 2, 1) := by decide +kernel
theorem dX0_countContaining_2 : decode cX0_countContaining 2 = .ok (.iconst 0, 1) := by decide +kernel
theorem dX0_countContaining_3 : decode cX0_countContaining 3 = .ok (.istore_n 3, 1) := by decide +kernel
theorem dX0_countContaining_4 : decode cX0_countContaining 4 = .ok (.iload_n 3, 1) := by decide +kernel
theorem dX0_countContaining_5 : decode cX0_countContaining 5 = .ok (.aload_n 0, 1) := by decide +kernel
theorem dX0_countContaining_6 : decode cX0_countContaining 6 = .ok (.getfield 19, 3) := by decide +kernel
theorem dX0_countContaining_9 : decode cX0_countContaining 9 = .ok (.if_icmp .ge 25, 3) := by decide +kernel
theorem dX0_countContaining_12 : decode cX0_countContaining 12 = .ok (.aload_n 0, 1) := by decide +kernel
theorem dX0_countContaining_13 : decode cX0_countContaining 13 = .ok (.getfield 13, 3) := by decide +kernel
theorem dX0_countContaining_16 : decode cX0_countContaining 16 = .ok (.iload_n 3, 1) := by decide +kernel
theorem dX0_countContaining_17 : decode cX0_countContaining 17 = .ok (.iaload, 1) := by decide +kernel
theorem dX0_countContaining_18 : decode cX0_countContaining 18 = .ok (.iload_n 1, 1) := by decide +kernel
theorem dX0_countContaining_19 : decode cX0_countContaining 19 = .ok (.invokestatic 39, 3) := by decide +kernel
theorem dX0_countContaining_22 : decode cX0_countContaining 22 = .ok (.ifCond .eq 6, 3) := by decide +kernel
theorem dX0_countContaining_25 : decode cX0_countContaining 25 = .ok (.iinc 2 1, 3) := by decide +kernel
theorem dX0_countContaining_28 : decode cX0_countContaining 28 = .ok (.iinc 3 1, 3) := by decide +kernel
theorem dX0_countContaining_31 : decode cX0_countContaining 31 = .ok (.goto (-27), 3) := by decide +kernel
theorem dX0_countContaining_34 : decode cX0_countContaining 34 = .ok (.iload_n 2, 1) := by decide +kernel
theorem dX0_countContaining_35 : decode cX0_countContaining 35 = .ok (.ireturn, 1) := by decide +kernel
abbrev mtX0_countContaining : mj_T := (yX0_countContaining.cls, cX0_countContaining, 4, (some .int), mj_no, yX0_countContaining.name)
abbrev kX0_countContaining (k0 : Nat) (x1 : Int32) (g : mj_S) (M : mj_M) (q : Int32 → mj_M → Prop) : Prop := mj_CI yX0_countContaining (.code yX0_countContaining cX0_countContaining 4 (some .int)) 1 [.ref (k0), .int (x1)] g M q
theorem kiX0_countContaining : mj_cV yX0_countContaining cX0_countContaining 4 (some .int) 1 := ⟨⟨wd_496, wd_497, wd_3, wd_498⟩, ⟨by decide +kernel, by decide +kernel, by decide +kernel⟩, Nat.le_of_ble_eq_true rfl⟩
def LX0_countContaining_4 (k0 n0 : Nat) (x1 : Int32) (x2 : Int32) (x3 : Int32) (g : mj_S) (M : mj_M) (q : Int32 → mj_M → Prop) : Prop := ∀ d, 1 ≤ d → ∀ ex : Bool, mj_G mtX0_countContaining (mj_rm d 0 0) (mj_Fi (mj_qI g q) mj_x0 0 0) ex 0 0 4 [(0, .ref (k0)), (1, .int (x1)), (2, .int (x2)), (3, .int (x3))] [] g M
theorem eX0_countContaining {k0 n0 : Nat} {x1 : Int32} {g : mj_S} {M : mj_M} {q : Int32 → mj_M → Prop} (h0 : is0 g k0 n0) (h : LX0_countContaining_4 k0 n0 (x1) (0) (0) g (M) q) : kX0_countContaining (k0) (x1) g M q := by
  intro d hd; refine mj_enter (by decide +kernel) (Nat.le_of_ble_eq_true rfl) ?_
  generalize (false : Bool) = ex
  show mj_G mtX0_countContaining (mj_rm d 0 0) (mj_Fi (mj_qI g q) mj_x0 0 0) ex 0 0 0 [(0, .ref (k0)), (1, .int (x1))] [] g M
  refine mg_iconst (v := 0) dX0_countContaining_0 (by decide) ?_
  refine mg_istore_n (ls' := [(2, .int (0)), (0, .ref (k0)), (1, .int (x1))]) dX0_countContaining_1 rfl (Nat.le_of_ble_eq_true rfl) rfl ?_
  refine mg_iconst (v := 0) dX0_countContaining_2 (by decide) ?_
  refine mg_istore_n (ls' := [(3, .int (0)), (2, .int (0)), (0, .ref (k0)), (1, .int (x1))]) dX0_countContaining_3 rfl (Nat.le_of_ble_eq_true rfl) rfl ?_
  exact mg_pick [2, 3, 1, 0] rfl (h d hd ex)
theorem bX0_countContaining_4 {k0 n0 : Nat} {x1 : Int32} {x2 : Int32} {x3 : Int32} {g : mj_S} {M : mj_M} {q : Int32 → mj_M → Prop} (h0 : is0 g k0 n0) (h : (((M).1 (k0) 1 : Int32) ≤ (x3) → q (x2) (M)) ∧ (¬ ((M).1 (k0) 1 : Int32) ≤ (x3) → vp_in (x3) (n0) ∧ (∃ (q1 : Int32 → mj_M → Prop), kX9_contains ((M).1 (k0 + 1) (Int32.toNatClampNeg (x3))) (x1) g (M) q1 ∧ ∀ (v1 : Int32) (M1 : mj_M), q1 v1 M1 → (((v1 : Int32) = 0 → LX0_countContaining_4 k0 n0 (x1) (x2) (x3 + 1) g (M1) q) ∧ (¬ (v1 : Int32) = 0 → LX0_countContaining_4 k0 n0 (x1) (x2 + 1) (x3 + 1) g (M1) q))))) : LX0_countContaining_4 k0 n0 x1 x2 x3 g M q := by
  intro d hd ex
  refine mg_iload_n dX0_countContaining_4 rfl 3 rfl ?_
  refine mg_aload_n dX0_countContaining_5 rfl 0 rfl ?_
  refine mg_getI (j := 1) dX0_countContaining_6 kc_0 (Nat.le_of_ble_eq_true rfl) wd_49 rfl rfl h0.1.1 h0.1.2 rfl ?_
  refine mg_icmp_ge (tgt := 34) dX0_countContaining_9 (by decide) (fun hc => ?_) (fun hc => ?_)
  · replace h := h.1 hc
    refine mg_iload_n dX0_countContaining_34 rfl 2 rfl ?_
    exact me_i dX0_countContaining_35 rfl h
  · replace h := h.2 hc
    refine mg_aload_n dX0_countContaining_12 rfl 0 rfl ?_
    refine mg_getR (j := 0) dX0_countContaining_13 kc_0 (Nat.le_of_ble_eq_true rfl) wd_48 rfl rfl h0.1.1 h0.1.2 h0.2.1 ?_
    refine mg_iload_n dX0_countContaining_16 rfl 3 rfl ?_
    refine mg_iald dX0_countContaining_17 h0.2.2.1 h0.2.2.2 h.1 rfl ?_
    replace h := h.2
    refine mg_iload_n dX0_countContaining_18 rfl 1 rfl ?_
    obtain ⟨q1, hC, hk⟩ := h
    refine mc_Ni [.int ((M).1 (k0 + 1) (Int32.toNatClampNeg (x3))), .int (x1)] [] 10 dX0_countContaining_19 rfl kiX9_contains (Nat.le_of_ble_eq_true rfl) (Nat.le_trans (Nat.le_of_ble_eq_true rfl) hd) hC (fun v1 M1 hq => ?_)
    replace h := hk v1 M1 hq
    refine mg_if_eq (tgt := 28) dX0_countContaining_22 (by decide) (fun hc => ?_) (fun hc => ?_)
    · replace h := h.1 hc
      refine mg_iinc (v := x3 + 1) (ls' := [(3, .int (x3 + 1)), (0, .ref (k0)), (1, .int (x1)), (2, .int (x2))]) dX0_countContaining_28 3 rfl rfl (Nat.le_of_ble_eq_true rfl) rfl ?_
      refine mg_goto (tgt := 4) dX0_countContaining_31 (by decide) ?_
      exact mg_pick [1, 2, 3, 0] rfl (h d hd ex)
    · replace h := h.2 hc
      refine mg_iinc (v := x2 + 1) (ls' := [(2, .int (x2 + 1)), (0, .ref (k0)), (1, .int (x1)), (3, .int (x3))]) dX0_countContaining_25 2 rfl rfl (Nat.le_of_ble_eq_true rfl) rfl ?_
      refine mg_iinc (v := x3 + 1) (ls' := [(3, .int (x3 + 1)), (2, .int (x2 + 1)), (0, .ref (k0)), (1, .int (x1))]) dX0_countContaining_28 3 rfl rfl (Nat.le_of_ble_eq_true rfl) rfl ?_
      refine mg_goto (tgt := 4) dX0_countContaining_31 (by decide) ?_
      exact mg_pick [2, 3, 1, 0] rfl (h d hd ex)
theorem dX0_isSatisfied_0 : decode cX0_isSatisfied 0 = .ok (.iconst 0, 1) := by decide +kernel
theorem dX0_isSatisfied_1 : decode cX0_isSatisfied 1 = .ok (.istore_n 2, 1) := by decide +kernel
theorem dX0_isSatisfied_2 : decode cX0_isSatisfied 2 = .ok (.iload_n 2, 1) := by decide +kernel
theorem dX0_isSatisfied_3 : decode cX0_isSatisfied 3 = .ok (.aload_n 0, 1) := by decide +kernel
theorem dX0_isSatisfied_4 : decode cX0_isSatisfied 4 = .ok (.getfield 19, 3) := by decide +kernel
theorem dX0_isSatisfied_7 : decode cX0_isSatisfied 7 = .ok (.if_icmp .ge 22, 3) := by decide +kernel
theorem dX0_isSatisfied_10 : decode cX0_isSatisfied 10 = .ok (.aload_n 0, 1) := by decide +kernel
theorem dX0_isSatisfied_11 : decode cX0_isSatisfied 11 = .ok (.getfield 13, 3) := by decide +kernel
theorem dX0_isSatisfied_14 : decode cX0_isSatisfied 14 = .ok (.iload_n 2, 1) := by decide +kernel
theorem dX0_isSatisfied_15 : decode cX0_isSatisfied 15 = .ok (.iaload, 1) := by decide +kernel
theorem dX0_isSatisfied_16 : decode cX0_isSatisfied 16 = .ok (.iload_n 1, 1) := by decide +kernel
theorem dX0_isSatisfied_17 : decode cX0_isSatisfied 17 = .ok (.iand, 1) := by decide +kernel
theorem dX0_isSatisfied_18 : decode cX0_isSatisfied 18 = .ok (.ifCond .ne 5, 3) := by decide +kernel
theorem dX0_isSatisfied_21 : decode cX0_isSatisfied 21 = .ok (.iconst 0, 1) := by decide +kernel
theorem dX0_isSatisfied_22 : decode cX0_isSatisfied 22 = .ok (.ireturn, 1) := by decide +kernel
theorem dX0_isSatisfied_23 : decode cX0_isSatisfied 23 = .ok (.iinc 2 1, 3) := by decide +kernel
theorem dX0_isSatisfied_26 : decode cX0_isSatisfied 26 = .ok (.goto (-24), 3) := by decide +kernel
theorem dX0_isSatisfied_29 : decode cX0_isSatisfied 29 = .ok (.iconst 1, 1) := by decide +kernel
theorem dX0_isSatisfied_30 : decode cX0_isSatisfied 30 = .ok (.ireturn, 1) := by decide +kernel
abbrev mtX0_isSatisfied : mj_T := (yX0_isSatisfied.cls, cX0_isSatisfied, 3, (some .boolean), mj_no, yX0_isSatisfied.name)
abbrev kX0_isSatisfied (k0 : Nat) (x1 : Int32) (g : mj_S) (M : mj_M) (q : Int32 → mj_M → Prop) : Prop := mj_CI yX0_isSatisfied (.code yX0_isSatisfied cX0_isSatisfied 3 (some .boolean)) 0 [.ref (k0), .int (x1)] g M q
theorem kiX0_isSatisfied : mj_cV yX0_isSatisfied cX0_isSatisfied 3 (some .boolean) 1 := ⟨⟨wd_340, wd_341, wd_3, wd_342⟩, ⟨by decide +kernel, by decide +kernel, by decide +kernel⟩, Nat.le_of_ble_eq_true rfl⟩
def LX0_isSatisfied_2 (k0 n0 : Nat) (x1 : Int32) (x2 : Int32) (g : mj_S) (M : mj_M) (q : Int32 → mj_M → Prop) : Prop := ∀ d, 0 ≤ d → ∀ ex : Bool, mj_G mtX0_isSatisfied (mj_rm d 0 0) (mj_Fi (mj_qI g q) mj_x0 0 0) ex 0 0 2 [(0, .ref (k0)), (1, .int (x1)), (2, .int (x2))] [] g M
theorem eX0_isSatisfied {k0 n0 : Nat} {x1 : Int32} {g : mj_S} {M : mj_M} {q : Int32 → mj_M → Prop} (h0 : is0 g k0 n0) (h : LX0_isSatisfied_2 k0 n0 (x1) (0) g (M) q) : kX0_isSatisfied (k0) (x1) g M q := by
  intro d hd; refine mj_enter (by decide +kernel) (Nat.le_of_ble_eq_true rfl) ?_
  generalize (false : Bool) = ex
  show mj_G mtX0_isSatisfied (mj_rm d 0 0) (mj_Fi (mj_qI g q) mj_x0 0 0) ex 0 0 0 [(0, .ref (k0)), (1, .int (x1))] [] g M
  refine mg_iconst (v := 0) dX0_isSatisfied_0 (by decide) ?_
  refine mg_istore_n (ls' := [(2, .int (0)), (0, .ref (k0)), (1, .int (x1))]) dX0_isSatisfied_1 rfl (Nat.le_of_ble_eq_true rfl) rfl ?_
  exact mg_pick [1, 2, 0] rfl (h d hd ex)
theorem bX0_isSatisfied_2 {k0 n0 : Nat} {x1 : Int32} {x2 : Int32} {g : mj_S} {M : mj_M} {q : Int32 → mj_M → Prop} (h0 : is0 g k0 n0) (h : (((M).1 (k0) 1 : Int32) ≤ (x2) → q 1 (M)) ∧ (¬ ((M).1 (k0) 1 : Int32) ≤ (x2) → vp_in (x2) (n0) ∧ ((¬ (((M).1 (k0 + 1) (Int32.toNatClampNeg (x2))) &&& (x1) : Int32) = 0 → LX0_isSatisfied_2 k0 n0 (x1) (x2 + 1) g (M) q) ∧ ((((M).1 (k0 + 1) (Int32.toNatClampNeg (x2))) &&& (x1) : Int32) = 0 → q 0 (M))))) : LX0_isSatisfied_2 k0 n0 x1 x2 g M q := by
  intro d hd ex
  refine mg_iload_n dX0_isSatisfied_2 rfl 2 rfl ?_
  refine mg_aload_n dX0_isSatisfied_3 rfl 0 rfl ?_
  refine mg_getI (j := 1) dX0_isSatisfied_4 kc_0 (Nat.le_of_ble_eq_true rfl) wd_49 rfl rfl h0.1.1 h0.1.2 rfl ?_
  refine mg_icmp_ge (tgt := 29) dX0_isSatisfied_7 (by decide) (fun hc => ?_) (fun hc => ?_)
  · replace h := h.1 hc
    refine mg_iconst (v := 1) dX0_isSatisfied_29 (by decide) ?_
    exact me_z dX0_isSatisfied_30 rfl (Or.inr rfl) h
  · replace h := h.2 hc
    refine mg_aload_n dX0_isSatisfied_10 rfl 0 rfl ?_
    refine mg_getR (j := 0) dX0_isSatisfied_11 kc_0 (Nat.le_of_ble_eq_true rfl) wd_48 rfl rfl h0.1.1 h0.1.2 h0.2.1 ?_
    refine mg_iload_n dX0_isSatisfied_14 rfl 2 rfl ?_
    refine mg_iald dX0_isSatisfied_15 h0.2.2.1 h0.2.2.2 h.1 rfl ?_
    replace h := h.2
    refine mg_iload_n dX0_isSatisfied_16 rfl 1 rfl ?_
    refine mg_iand dX0_isSatisfied_17 ?_
    refine mg_if_ne (tgt := 23) dX0_isSatisfied_18 (by decide) (fun hc => ?_) (fun hc => ?_)
    · replace h := h.1 hc
      refine mg_iinc (v := x2 + 1) (ls' := [(2, .int (x2 + 1)), (0, .ref (k0)), (1, .int (x1))]) dX0_isSatisfied_23 2 rfl rfl (Nat.le_of_ble_eq_true rfl) rfl ?_
      refine mg_goto (tgt := 2) dX0_isSatisfied_26 (by decide) ?_
      exact mg_pick [1, 2, 0] rfl (h d hd ex)
    · replace h := h.2 hc
      refine mg_iconst (v := 0) dX0_isSatisfied_21 (by decide) ?_
      exact me_z dX0_isSatisfied_22 rfl (Or.inl rfl) h
theorem dX0_countFalsified_0 : decode cX0_countFalsified 0 = .ok (.iconst 0, 1) := by decide +kernel
theorem dX0_countFalsified_1 : decode cX0_countFalsified 1 = .ok (.istore_n 2, 1) := by decide +kernel
theorem dX0_countFalsified_2 : decode cX0_countFalsified 2 = .ok (.iconst 0, 1) := by decide +kernel
theorem dX0_countFalsified_3 : decode cX0_countFalsified 3 = .ok (.istore_n 3, 1) := by decide +kernel
theorem dX0_countFalsified_4 : decode cX0_countFalsified 4 = .ok (.iload_n 3, 1) := by decide +kernel
theorem dX0_countFalsified_5 : decode cX0_countFalsified 5 = .ok (.aload_n 0, 1) := by decide +kernel
theorem dX0_countFalsified_6 : decode cX0_countFalsified 6 = .ok (.getfield 19, 3) := by decide +kernel
theorem dX0_countFalsified_9 : decode cX0_countFalsified 9 = .ok (.if_icmp .ge 23, 3) := by decide +kernel
theorem dX0_countFalsified_12 : decode cX0_countFalsified 12 = .ok (.aload_n 0, 1) := by decide +kernel
theorem dX0_countFalsified_13 : decode cX0_countFalsified 13 = .ok (.getfield 13, 3) := by decide +kernel
theorem dX0_countFalsified_16 : decode cX0_countFalsified 16 = .ok (.iload_n 3, 1) := by decide +kernel
theorem dX0_countFalsified_17 : decode cX0_countFalsified 17 = .ok (.iaload, 1) := by decide +kernel
theorem dX0_countFalsified_18 : decode cX0_countFalsified 18 = .ok (.iload_n 1, 1) := by decide +kernel
theorem dX0_countFalsified_19 : decode cX0_countFalsified 19 = .ok (.iand, 1) := by decide +kernel
theorem dX0_countFalsified_20 : decode cX0_countFalsified 20 = .ok (.ifCond .ne 6, 3) := by decide +kernel
theorem dX0_countFalsified_23 : decode cX0_countFalsified 23 = .ok (.iinc 2 1, 3) := by decide +kernel
theorem dX0_countFalsified_26 : decode cX0_countFalsified 26 = .ok (.iinc 3 1, 3) := by decide +kernel
theorem dX0_countFalsified_29 : decode cX0_countFalsified 29 = .ok (.goto (-25), 3) := by decide +kernel
theorem dX0_countFalsified_32 : decode cX0_countFalsified 32 = .ok (.iload_n 2, 1) := by decide +kernel
theorem dX0_countFalsified_33 : decode cX0_countFalsified 33 = .ok (.ireturn, 1) := by decide +kernel
abbrev mtX0_countFalsified : mj_T := (yX0_countFalsified.cls, cX0_countFalsified, 4, (some .int), mj_no, yX0_countFalsified.name)
abbrev kX0_countFalsified (k0 : Nat) (x1 : Int32) (g : mj_S) (M : mj_M) (q : Int32 → mj_M → Prop) : Prop := mj_CI yX0_countFalsified (.code yX0_countFalsified cX0_countFalsified 4 (some .int)) 0 [.ref (k0), .int (x1)] g M q
theorem kiX0_countFalsified : mj_cV yX0_countFalsified cX0_countFalsified 4 (some .int) 1 := ⟨⟨wd_1235, wd_1236, wd_3, wd_1237⟩, ⟨by decide +kernel, by decide +kernel, by decide +kernel⟩, Nat.le_of_ble_eq_true rfl⟩
def LX0_countFalsified_4 (k0 n0 : Nat) (x1 : Int32) (x2 : Int32) (x3 : Int32) (g : mj_S) (M : mj_M) (q : Int32 → mj_M → Prop) : Prop := ∀ d, 0 ≤ d → ∀ ex : Bool, mj_G mtX0_countFalsified (mj_rm d 0 0) (mj_Fi (mj_qI g q) mj_x0 0 0) ex 0 0 4 [(0, .ref (k0)), (1, .int (x1)), (2, .int (x2)), (3, .int (x3))] [] g M
theorem eX0_countFalsified {k0 n0 : Nat} {x1 : Int32} {g : mj_S} {M : mj_M} {q : Int32 → mj_M → Prop} (h0 : is0 g k0 n0) (h : LX0_countFalsified_4 k0 n0 (x1) (0) (0) g (M) q) : kX0_countFalsified (k0) (x1) g M q := by
  intro d hd; refine mj_enter (by decide +kernel) (Nat.le_of_ble_eq_true rfl) ?_
  generalize (false : Bool) = ex
  show mj_G mtX0_countFalsified (mj_rm d 0 0) (mj_Fi (mj_qI g q) mj_x0 0 0) ex 0 0 0 [(0, .ref (k0)), (1, .int (x1))] [] g M
  refine mg_iconst (v := 0) dX0_countFalsified_0 (by decide) ?_
  refine mg_istore_n (ls' := [(2, .int (0)), (0, .ref (k0)), (1, .int (x1))]) dX0_countFalsified_1 rfl (Nat.le_of_ble_eq_true rfl) rfl ?_
  refine mg_iconst (v := 0) dX0_countFalsified_2 (by decide) ?_
  refine mg_istore_n (ls' := [(3, .int (0)), (2, .int (0)), (0, .ref (k0)), (1, .int (x1))]) dX0_countFalsified_3 rfl (Nat.le_of_ble_eq_true rfl) rfl ?_
  exact mg_pick [2, 3, 1, 0] rfl (h d hd ex)
theorem bX0_countFalsified_4 {k0 n0 : Nat} {x1 : Int32} {x2 : Int32} {x3 : Int32} {g : mj_S} {M : mj_M} {q : Int32 → mj_M → Prop} (h0 : is0 g k0 n0) (h : (((M).1 (k0) 1 : Int32) ≤ (x3) → q (x2) (M)) ∧ (¬ ((M).1 (k0) 1 : Int32) ≤ (x3) → vp_in (x3) (n0) ∧ ((¬ (((M).1 (k0 + 1) (Int32.toNatClampNeg (x3))) &&& (x1) : Int32) = 0 → LX0_countFalsified_4 k0 n0 (x1) (x2) (x3 + 1) g (M) q) ∧ ((((M).1 (k0 + 1) (Int32.toNatClampNeg (x3))) &&& (x1) : Int32) = 0 → LX0_countFalsified_4 k0 n0 (x1) (x2 + 1) (x3 + 1) g (M) q)))) : LX0_countFalsified_4 k0 n0 x1 x2 x3 g M q := by
  intro d hd ex
  refine mg_iload_n dX0_countFalsified_4 rfl 3 rfl ?_
  refine mg_aload_n dX0_countFalsified_5 rfl 0 rfl ?_
  refine mg_getI (j := 1) dX0_countFalsified_6 kc_0 (Nat.le_of_ble_eq_true rfl) wd_49 rfl rfl h0.1.1 h0.1.2 rfl ?_
  refine mg_icmp_ge (tgt := 32) dX0_countFalsified_9 (by decide) (fun hc => ?_) (fun hc => ?_)
  · replace h := h.1 hc
    refine mg_iload_n dX0_countFalsified_32 rfl 2 rfl ?_
    exact me_i dX0_countFalsified_33 rfl h
  · replace h := h.2 hc
    refine mg_aload_n dX0_countFalsified_12 rfl 0 rfl ?_
    refine mg_getR (j := 0) dX0_countFalsified_13 kc_0 (Nat.le_of_ble_eq_true rfl) wd_48 rfl rfl h0.1.1 h0.1.2 h0.2.1 ?_
    refine mg_iload_n dX0_countFalsified_16 rfl 3 rfl ?_
    refine mg_iald dX0_countFalsified_17 h0.2.2.1 h0.2.2.2 h.1 rfl ?_
    replace h := h.2
    refine mg_iload_n dX0_countFalsified_18 rfl 1 rfl ?_
    refine mg_iand dX0_countFalsified_19 ?_
    refine mg_if_ne (tgt := 26) dX0_countFalsified_20 (by decide) (fun hc => ?_) (fun hc => ?_)
    · replace h := h.1 hc
      refine mg_iinc (v := x3 + 1) (ls' := [(3, .int (x3 + 1)), (0, .ref (k0)), (1, .int (x1)), (2, .int (x2))]) dX0_countFalsified_26 3 rfl rfl (Nat.le_of_ble_eq_true rfl) rfl ?_
      refine mg_goto (tgt := 4) dX0_countFalsified_29 (by decide) ?_
      exact mg_pick [1, 2, 3, 0] rfl (h d hd ex)
    · replace h := h.2 hc
      refine mg_iinc (v := x2 + 1) (ls' := [(2, .int (x2 + 1)), (0, .ref (k0)), (1, .int (x1)), (3, .int (x3))]) dX0_countFalsified_23 2 rfl rfl (Nat.le_of_ble_eq_true rfl) rfl ?_
      refine mg_iinc (v := x3 + 1) (ls' := [(3, .int (x3 + 1)), (2, .int (x2 + 1)), (0, .ref (k0)), (1, .int (x1))]) dX0_countFalsified_26 3 rfl rfl (Nat.le_of_ble_eq_true rfl) rfl ?_
      refine mg_goto (tgt := 4) dX0_countFalsified_29 (by decide) ?_
      exact mg_pick [2, 3, 1, 0] rfl (h d hd ex)
theorem dX0_removeContaining_0 : decode cX0_removeContaining 0 = .ok (.iconst 0, 1) := by decide +kernel
theorem dX0_removeContaining_1 : decode cX0_removeContaining 1 = .ok (.istore_n 2, 1) := by decide +kernel
theorem dX0_removeContaining_2 : decode cX0_removeContaining 2 = .ok (.iconst 0, 1) := by decide +kernel
theorem dX0_removeContaining_3 : decode cX0_removeContaining 3 = .ok (.istore_n 3, 1) := by decide +kernel
theorem dX0_removeContaining_4 : decode cX0_removeContaining 4 = .ok (.iload_n 3, 1) := by decide +kernel
theorem dX0_removeContaining_5 : decode cX0_removeContaining 5 = .ok (.aload_n 0, 1) := by decide +kernel
theorem dX0_removeContaining_6 : decode cX0_removeContaining 6 = .ok (.getfield 19, 3) := by decide +kernel
theorem dX0_removeContaining_9 : decode cX0_removeContaining 9 = .ok (.if_icmp .ge 35, 3) := by decide +kernel
theorem dX0_removeContaining_12 : decode cX0_removeContaining 12 = .ok (.aload_n 0, 1) := by decide +kernel
theorem dX0_removeContaining_13 : decode cX0_removeContaining 13 = .ok (.getfield 13, 3) := by decide +kernel
theorem dX0_removeContaining_16 : decode cX0_removeContaining 16 = .ok (.iload_n 3, 1) := by decide +kernel
theorem dX0_removeContaining_17 : decode cX0_removeContaining 17 = .ok (.iaload, 1) := by decide +kernel
theorem dX0_removeContaining_18 : decode cX0_removeContaining 18 = .ok (.iload_n 1, 1) := by decide +kernel
theorem dX0_removeContaining_19 : decode cX0_removeContaining 19 = .ok (.iand, 1) := by decide +kernel
theorem dX0_removeContaining_20 : decode cX0_removeContaining 20 = .ok (.ifCond .ne 18, 3) := by decide +kernel
theorem dX0_removeContaining_23 : decode cX0_removeContaining 23 = .ok (.aload_n 0, 1) := by decide +kernel
theorem dX0_removeContaining_24 : decode cX0_removeContaining 24 = .ok (.getfield 13, 3) := by decide +kernel
theorem dX0_removeContaining_27 : decode cX0_removeContaining 27 = .ok (.iload_n 2, 1) := by decide +kernel
theorem dX0_removeContaining_28 : decode cX0_removeContaining 28 = .ok (.aload_n 0, 1) := by decide +kernel
theorem dX0_removeContaining_29 : decode cX0_removeContaining 29 = .ok (.getfield 13, 3) := by decide +kernel
theorem dX0_removeContaining_32 : decode cX0_removeContaining 32 = .ok (.iload_n 3, 1) := by decide +kernel
theorem dX0_removeContaining_33 : decode cX0_removeContaining 33 = .ok (.iaload, 1) := by decide +kernel
theorem dX0_removeContaining_34 : decode cX0_removeContaining 34 = .ok (.iastore, 1) := by decide +kernel
theorem dX0_removeContaining_35 : decode cX0_removeContaining 35 = .ok (.iinc 2 1, 3) := by decide +kernel
theorem dX0_removeContaining_38 : decode cX0_removeContaining 38 = .ok (.iinc 3 1, 3) := by decide +kernel
theorem dX0_removeContaining_41 : decode cX0_removeContaining 41 = .ok (.goto (-37), 3) := by decide +kernel
theorem dX0_removeContaining_44 : decode cX0_removeContaining 44 = .ok (.aload_n 0, 1) := by decide +kernel
theorem dX0_removeContaining_45 : decode cX0_removeContaining 45 = .ok (.iload_n 2, 1) := by decide +kernel
theorem dX0_removeContaining_46 : decode cX0_removeContaining 46 = .ok (.putfield 19, 3) := by decide +kernel
theorem dX0_removeContaining_49 : decode cX0_removeContaining 49 = .ok (.return_, 1) := by decide +kernel
abbrev mtX0_removeContaining : mj_T := (yX0_removeContaining.cls, cX0_removeContaining, 4, none, mj_no, yX0_removeContaining.name)
abbrev kX0_removeContaining (k0 : Nat) (x1 : Int32) (g : mj_S) (M : mj_M) (q : mj_M → Prop) : Prop := mj_CV yX0_removeContaining (.code yX0_removeContaining cX0_removeContaining 4 none) 0 [.ref (k0), .int (x1)] g M q
theorem kiX0_removeContaining : mj_cV yX0_removeContaining cX0_removeContaining 4 none 1 := ⟨⟨wd_423, wd_424, wd_3, wd_425⟩, ⟨by decide +kernel, by decide +kernel, by decide +kernel⟩, Nat.le_of_ble_eq_true rfl⟩
def LX0_removeContaining_4 (k0 n0 : Nat) (x1 : Int32) (x2 : Int32) (x3 : Int32) (g : mj_S) (M : mj_M) (q : mj_M → Prop) : Prop := ∀ d, 0 ≤ d → ∀ ex : Bool, mj_G mtX0_removeContaining (mj_rm d 0 0) (mj_Fi (mj_qV g q) mj_x0 0 0) ex 0 0 4 [(0, .ref (k0)), (1, .int (x1)), (2, .int (x2)), (3, .int (x3))] [] g M
theorem eX0_removeContaining {k0 n0 : Nat} {x1 : Int32} {g : mj_S} {M : mj_M} {q : mj_M → Prop} (h0 : is0 g k0 n0) (h : LX0_removeContaining_4 k0 n0 (x1) (0) (0) g (M) q) : kX0_removeContaining (k0) (x1) g M q := by
  intro d hd; refine mj_enter (by decide +kernel) (Nat.le_of_ble_eq_true rfl) ?_
  generalize (false : Bool) = ex
  show mj_G mtX0_removeContaining (mj_rm d 0 0) (mj_Fi (mj_qV g q) mj_x0 0 0) ex 0 0 0 [(0, .ref (k0)), (1, .int (x1))] [] g M
  refine mg_iconst (v := 0) dX0_removeContaining_0 (by decide) ?_
  refine mg_istore_n (ls' := [(2, .int (0)), (0, .ref (k0)), (1, .int (x1))]) dX0_removeContaining_1 rfl (Nat.le_of_ble_eq_true rfl) rfl ?_
  refine mg_iconst (v := 0) dX0_removeContaining_2 (by decide) ?_
  refine mg_istore_n (ls' := [(3, .int (0)), (2, .int (0)), (0, .ref (k0)), (1, .int (x1))]) dX0_removeContaining_3 rfl (Nat.le_of_ble_eq_true rfl) rfl ?_
  exact mg_pick [2, 3, 1, 0] rfl (h d hd ex)
theorem bX0_removeContaining_4 {k0 n0 : Nat} {x1 : Int32} {x2 : Int32} {x3 : Int32} {g : mj_S} {M : mj_M} {q : mj_M → Prop} (h0 : is0 g k0 n0) (h : (((M).1 (k0) 1 : Int32) ≤ (x3) → q (mj_wI (M) (k0) 1 (x2))) ∧ (¬ ((M).1 (k0) 1 : Int32) ≤ (x3) → vp_in (x3) (n0) ∧ ((¬ (((M).1 (k0 + 1) (Int32.toNatClampNeg (x3))) &&& (x1) : Int32) = 0 → LX0_removeContaining_4 k0 n0 (x1) (x2) (x3 + 1) g (M) q) ∧ ((((M).1 (k0 + 1) (Int32.toNatClampNeg (x3))) &&& (x1) : Int32) = 0 → vp_in (x3) (n0) ∧ (vp_in (x2) (n0) ∧ (LX0_removeContaining_4 k0 n0 (x1) (x2 + 1) (x3 + 1) g (mj_wI (M) (k0 + 1) (Int32.toNatClampNeg (x2)) ((M).1 (k0 + 1) (Int32.toNatClampNeg (x3)))) q)))))) : LX0_removeContaining_4 k0 n0 x1 x2 x3 g M q := by
  intro d hd ex
  refine mg_iload_n dX0_removeContaining_4 rfl 3 rfl ?_
  refine mg_aload_n dX0_removeContaining_5 rfl 0 rfl ?_
  refine mg_getI (j := 1) dX0_removeContaining_6 kc_0 (Nat.le_of_ble_eq_true rfl) wd_49 rfl rfl h0.1.1 h0.1.2 rfl ?_
  refine mg_icmp_ge (tgt := 44) dX0_removeContaining_9 (by decide) (fun hc => ?_) (fun hc => ?_)
  · replace h := h.1 hc
    refine mg_aload_n dX0_removeContaining_44 rfl 0 rfl ?_
    refine mg_iload_n dX0_removeContaining_45 rfl 2 rfl ?_
    refine mg_putI (j := 1) dX0_removeContaining_46 kc_0 (Nat.le_of_ble_eq_true rfl) wd_49 rfl rfl rfl h0.1.1 h0.1.2 ?_
    exact me_v dX0_removeContaining_49 rfl h
  · replace h := h.2 hc
    refine mg_aload_n dX0_removeContaining_12 rfl 0 rfl ?_
    refine mg_getR (j := 0) dX0_removeContaining_13 kc_0 (Nat.le_of_ble_eq_true rfl) wd_48 rfl rfl h0.1.1 h0.1.2 h0.2.1 ?_
    refine mg_iload_n dX0_removeContaining_16 rfl 3 rfl ?_
    refine mg_iald dX0_removeContaining_17 h0.2.2.1 h0.2.2.2 h.1 rfl ?_
    replace h := h.2
    refine mg_iload_n dX0_removeContaining_18 rfl 1 rfl ?_
    refine mg_iand dX0_removeContaining_19 ?_
    refine mg_if_ne (tgt := 38) dX0_removeContaining_20 (by decide) (fun hc => ?_) (fun hc => ?_)
    · replace h := h.1 hc
      refine mg_iinc (v := x3 + 1) (ls' := [(3, .int (x3 + 1)), (0, .ref (k0)), (1, .int (x1)), (2, .int (x2))]) dX0_removeContaining_38 3 rfl rfl (Nat.le_of_ble_eq_true rfl) rfl ?_
      refine mg_goto (tgt := 4) dX0_removeContaining_41 (by decide) ?_
      exact mg_pick [1, 2, 3, 0] rfl (h d hd ex)
    · replace h := h.2 hc
      refine mg_aload_n dX0_removeContaining_23 rfl 0 rfl ?_
      refine mg_getR (j := 0) dX0_removeContaining_24 kc_0 (Nat.le_of_ble_eq_true rfl) wd_48 rfl rfl h0.1.1 h0.1.2 h0.2.1 ?_
      refine mg_iload_n dX0_removeContaining_27 rfl 2 rfl ?_
      refine mg_aload_n dX0_removeContaining_28 rfl 0 rfl ?_
      refine mg_getR (j := 0) dX0_removeContaining_29 kc_0 (Nat.le_of_ble_eq_true rfl) wd_48 rfl rfl h0.1.1 h0.1.2 h0.2.1 ?_
      refine mg_iload_n dX0_removeContaining_32 rfl 3 rfl ?_
      refine mg_iald dX0_removeContaining_33 h0.2.2.1 h0.2.2.2 h.1 rfl ?_
      replace h := h.2
      refine mg_iast dX0_removeContaining_34 h0.2.2.1 h0.2.2.2 h.1 ?_
      replace h := h.2
      refine mg_iinc (v := x2 + 1) (ls' := [(2, .int (x2 + 1)), (0, .ref (k0)), (1, .int (x1)), (3, .int (x3))]) dX0_removeContaining_35 2 rfl rfl (Nat.le_of_ble_eq_true rfl) rfl ?_
      refine mg_iinc (v := x3 + 1) (ls' := [(3, .int (x3 + 1)), (2, .int (x2 + 1)), (0, .ref (k0)), (1, .int (x1))]) dX0_removeContaining_38 3 rfl rfl (Nat.le_of_ble_eq_true rfl) rfl ?_
      refine mg_goto (tgt := 4) dX0_removeContaining_41 (by decide) ?_
      exact mg_pick [2, 3, 1, 0] rfl (h d hd ex)
theorem dX0_strip_0 : decode cX0_strip 0 = .ok (.iconst 0, 1) := by decide +kernel
theorem dX0_strip_1 : decode cX0_strip 1 = .ok (.istore_n 2, 1) := by decide +kernel
theorem dX0_strip_2 : decode cX0_strip 2 = .ok (.iconst 0, 1) := by decide +kernel
theorem dX0_strip_3 : decode cX0_strip 3 = .ok (.istore_n 3, 1) := by decide +kernel
theorem dX0_strip_4 : decode cX0_strip 4 = .ok (.iload_n 3, 1) := by decide +kernel
theorem dX0_strip_5 : decode cX0_strip 5 = .ok (.aload_n 0, 1) := by decide +kernel
theorem dX0_strip_6 : decode cX0_strip 6 = .ok (.getfield 19, 3) := by decide +kernel
theorem dX0_strip_9 : decode cX0_strip 9 = .ok (.if_icmp .ge 40, 3) := by decide +kernel
theorem dX0_strip_12 : decode cX0_strip 12 = .ok (.aload_n 0, 1) := by decide +kernel
theorem dX0_strip_13 : decode cX0_strip 13 = .ok (.getfield 13, 3) := by decide +kernel
theorem dX0_strip_16 : decode cX0_strip 16 = .ok (.iload_n 3, 1) := by decide +kernel
theorem dX0_strip_17 : decode cX0_strip 17 = .ok (.dup2, 1) := by decide +kernel
theorem dX0_strip_18 : decode cX0_strip 18 = .ok (.iaload, 1) := by decide +kernel
theorem dX0_strip_19 : decode cX0_strip 19 = .ok (.iload_n 1, 1) := by decide +kernel
theorem dX0_strip_20 : decode cX0_strip 20 = .ok (.iconst (-1), 1) := by decide +kernel
theorem dX0_strip_21 : decode cX0_strip 21 = .ok (.ixor, 1) := by decide +kernel
theorem dX0_strip_22 : decode cX0_strip 22 = .ok (.iand, 1) := by decide +kernel
theorem dX0_strip_23 : decode cX0_strip 23 = .ok (.iastore, 1) := by decide +kernel
theorem dX0_strip_24 : decode cX0_strip 24 = .ok (.iload_n 2, 1) := by decide +kernel
theorem dX0_strip_25 : decode cX0_strip 25 = .ok (.ifCond .ne 12, 3) := by decide +kernel
theorem dX0_strip_28 : decode cX0_strip 28 = .ok (.aload_n 0, 1) := by decide +kernel
theorem dX0_strip_29 : decode cX0_strip 29 = .ok (.getfield 13, 3) := by decide +kernel
theorem dX0_strip_32 : decode cX0_strip 32 = .ok (.iload_n 3, 1) := by decide +kernel
theorem dX0_strip_33 : decode cX0_strip 33 = .ok (.iaload, 1) := by decide +kernel
theorem dX0_strip_34 : decode cX0_strip 34 = .ok (.ifCond .ne 7, 3) := by decide +kernel
theorem dX0_strip_37 : decode cX0_strip 37 = .ok (.iconst 1, 1) := by decide +kernel
theorem dX0_strip_38 : decode cX0_strip 38 = .ok (.goto 4, 3) := by decide +kernel
theorem dX0_strip_41 : decode cX0_strip 41 = .ok (.iconst 0, 1) := by decide +kernel
theorem dX0_strip_42 : decode cX0_strip 42 = .ok (.istore_n 2, 1) := by decide +kernel
theorem dX0_strip_43 : decode cX0_strip 43 = .ok (.iinc 3 1, 3) := by decide +kernel
theorem dX0_strip_46 : decode cX0_strip 46 = .ok (.goto (-42), 3) := by decide +kernel
theorem dX0_strip_49 : decode cX0_strip 49 = .ok (.iload_n 2, 1) := by decide +kernel
theorem dX0_strip_50 : decode cX0_strip 50 = .ok (.ireturn, 1) := by decide +kernel
abbrev mtX0_strip : mj_T := (yX0_strip.cls, cX0_strip, 4, (some .boolean), mj_no, yX0_strip.name)
abbrev kX0_strip (k0 : Nat) (x1 : Int32) (g : mj_S) (M : mj_M) (q : Int32 → mj_M → Prop) : Prop := mj_CI yX0_strip (.code yX0_strip cX0_strip 4 (some .boolean)) 0 [.ref (k0), .int (x1)] g M q
theorem kiX0_strip : mj_cV yX0_strip cX0_strip 4 (some .boolean) 1 := ⟨⟨wd_427, wd_428, wd_3, wd_429⟩, ⟨by decide +kernel, by decide +kernel, by decide +kernel⟩, Nat.le_of_ble_eq_true rfl⟩
def LX0_strip_4 (k0 n0 : Nat) (x1 : Int32) (x2 : Int32) (x3 : Int32) (g : mj_S) (M : mj_M) (q : Int32 → mj_M → Prop) : Prop := ∀ d, 0 ≤ d → ∀ ex : Bool, mj_G mtX0_strip (mj_rm d 0 0) (mj_Fi (mj_qI g q) mj_x0 0 0) ex 0 0 4 [(0, .ref (k0)), (1, .int (x1)), (2, .int (x2)), (3, .int (x3))] [] g M
theorem eX0_strip {k0 n0 : Nat} {x1 : Int32} {g : mj_S} {M : mj_M} {q : Int32 → mj_M → Prop} (h0 : is0 g k0 n0) (h : LX0_strip_4 k0 n0 (x1) (0) (0) g (M) q) : kX0_strip (k0) (x1) g M q := by
  intro d hd; refine mj_enter (by decide +kernel) (Nat.le_of_ble_eq_true rfl) ?_
  generalize (false : Bool) = ex
  show mj_G mtX0_strip (mj_rm d 0 0) (mj_Fi (mj_qI g q) mj_x0 0 0) ex 0 0 0 [(0, .ref (k0)), (1, .int (x1))] [] g M
  refine mg_iconst (v := 0) dX0_strip_0 (by decide) ?_
  refine mg_istore_n (ls' := [(2, .int (0)), (0, .ref (k0)), (1, .int (x1))]) dX0_strip_1 rfl (Nat.le_of_ble_eq_true rfl) rfl ?_
  refine mg_iconst (v := 0) dX0_strip_2 (by decide) ?_
  refine mg_istore_n (ls' := [(3, .int (0)), (2, .int (0)), (0, .ref (k0)), (1, .int (x1))]) dX0_strip_3 rfl (Nat.le_of_ble_eq_true rfl) rfl ?_
  exact mg_pick [2, 3, 1, 0] rfl (h d hd ex)
theorem bX0_strip_4 {k0 n0 : Nat} {x1 : Int32} {x2 : Int32} {x3 : Int32} {g : mj_S} {M : mj_M} {q : Int32 → mj_M → Prop} (h0 : is0 g k0 n0) (h : (((M).1 (k0) 1 : Int32) ≤ (x3) → ((x2 : Int32) = 0 ∨ (x2 : Int32) = 1) ∧ q (x2) (M)) ∧ (¬ ((M).1 (k0) 1 : Int32) ≤ (x3) → vp_in (x3) (n0) ∧ (vp_in (x3) (n0) ∧ ((¬ (x2 : Int32) = 0 → LX0_strip_4 k0 n0 (x1) (1) (x3 + 1) g (mj_wI (M) (k0 + 1) (Int32.toNatClampNeg (x3)) (((M).1 (k0 + 1) (Int32.toNatClampNeg (x3))) &&& ((x1) ^^^ (-1 : Int32)))) q) ∧ ((x2 : Int32) = 0 → vp_in (x3) (n0) ∧ ((¬ ((mj_wI (M) (k0 + 1) (Int32.toNatClampNeg (x3)) (((M).1 (k0 + 1) (Int32.toNatClampNeg (x3))) &&& ((x1) ^^^ (-1 : Int32)))).1 (k0 + 1) (Int32.toNatClampNeg (x3)) : Int32) = 0 → LX0_strip_4 k0 n0 (x1) (0) (x3 + 1) g (mj_wI (M) (k0 + 1) (Int32.toNatClampNeg (x3)) (((M).1 (k0 + 1) (Int32.toNatClampNeg (x3))) &&& ((x1) ^^^ (-1 : Int32)))) q) ∧ (((mj_wI (M) (k0 + 1) (Int32.toNatClampNeg (x3)) (((M).1 (k0 + 1) (Int32.toNatClampNeg (x3))) &&& ((x1) ^^^ (-1 : Int32)))).1 (k0 + 1) (Int32.toNatClampNeg (x3)) : Int32) = 0 → LX0_strip_4 k0 n0 (x1) (1) (x3 + 1) g (mj_wI (M) (k0 + 1) (Int32.toNatClampNeg (x3)) (((M).1 (k0 + 1) (Int32.toNatClampNeg (x3))) &&& ((x1) ^^^ (-1 : Int32)))) q))))))) : LX0_strip_4 k0 n0 x1 x2 x3 g M q := by
  intro d hd ex
  refine mg_iload_n dX0_strip_4 rfl 3 rfl ?_
  refine mg_aload_n dX0_strip_5 rfl 0 rfl ?_
  refine mg_getI (j := 1) dX0_strip_6 kc_0 (Nat.le_of_ble_eq_true rfl) wd_49 rfl rfl h0.1.1 h0.1.2 rfl ?_
  refine mg_icmp_ge (tgt := 49) dX0_strip_9 (by decide) (fun hc => ?_) (fun hc => ?_)
  · replace h := h.1 hc
    refine mg_iload_n dX0_strip_49 rfl 2 rfl ?_
    exact me_z dX0_strip_50 rfl h.1 h.2
  · replace h := h.2 hc
    refine mg_aload_n dX0_strip_12 rfl 0 rfl ?_
    refine mg_getR (j := 0) dX0_strip_13 kc_0 (Nat.le_of_ble_eq_true rfl) wd_48 rfl rfl h0.1.1 h0.1.2 h0.2.1 ?_
    refine mg_iload_n dX0_strip_16 rfl 3 rfl ?_
    refine mg_dup2 dX0_strip_17 rfl rfl ?_
    refine mg_iald dX0_strip_18 h0.2.2.1 h0.2.2.2 h.1 rfl ?_
    replace h := h.2
    refine mg_iload_n dX0_strip_19 rfl 1 rfl ?_
    refine mg_iconst (v := (-1)) dX0_strip_20 (by decide) ?_
    refine mg_ixor dX0_strip_21 ?_
    refine mg_iand dX0_strip_22 ?_
    refine mg_iast dX0_strip_23 h0.2.2.1 h0.2.2.2 h.1 ?_
    replace h := h.2
    refine mg_iload_n dX0_strip_24 rfl 2 rfl ?_
    refine mg_if_ne (tgt := 37) dX0_strip_25 (by decide) (fun hc => ?_) (fun hc => ?_)
    · replace h := h.1 hc
      refine mg_iconst (v := 1) dX0_strip_37 (by decide) ?_
      refine mg_goto (tgt := 42) dX0_strip_38 (by decide) ?_
      refine mg_istore_n (ls' := [(2, .int (1)), (0, .ref (k0)), (1, .int (x1)), (3, .int (x3))]) dX0_strip_42 rfl (Nat.le_of_ble_eq_true rfl) rfl ?_
      refine mg_iinc (v := x3 + 1) (ls' := [(3, .int (x3 + 1)), (2, .int (1)), (0, .ref (k0)), (1, .int (x1))]) dX0_strip_43 3 rfl rfl (Nat.le_of_ble_eq_true rfl) rfl ?_
      refine mg_goto (tgt := 4) dX0_strip_46 (by decide) ?_
      exact mg_pick [2, 3, 1, 0] rfl (h d hd ex)
    · replace h := h.2 hc
      refine mg_aload_n dX0_strip_28 rfl 0 rfl ?_
      refine mg_getR (j := 0) dX0_strip_29 kc_0 (Nat.le_of_ble_eq_true rfl) wd_48 rfl rfl h0.1.1 h0.1.2 h0.2.1 ?_
      refine mg_iload_n dX0_strip_32 rfl 3 rfl ?_
      refine mg_iald dX0_strip_33 h0.2.2.1 h0.2.2.2 h.1 rfl ?_
      replace h := h.2
      refine mg_if_ne (tgt := 41) dX0_strip_34 (by decide) (fun hc => ?_) (fun hc => ?_)
      · replace h := h.1 hc
        refine mg_iconst (v := 0) dX0_strip_41 (by decide) ?_
        refine mg_istore_n (ls' := [(2, .int (0)), (0, .ref (k0)), (1, .int (x1)), (3, .int (x3))]) dX0_strip_42 rfl (Nat.le_of_ble_eq_true rfl) rfl ?_
        refine mg_iinc (v := x3 + 1) (ls' := [(3, .int (x3 + 1)), (2, .int (0)), (0, .ref (k0)), (1, .int (x1))]) dX0_strip_43 3 rfl rfl (Nat.le_of_ble_eq_true rfl) rfl ?_
        refine mg_goto (tgt := 4) dX0_strip_46 (by decide) ?_
        exact mg_pick [2, 3, 1, 0] rfl (h d hd ex)
      · replace h := h.2 hc
        refine mg_iconst (v := 1) dX0_strip_37 (by decide) ?_
        refine mg_goto (tgt := 42) dX0_strip_38 (by decide) ?_
        refine mg_istore_n (ls' := [(2, .int (1)), (0, .ref (k0)), (1, .int (x1)), (3, .int (x3))]) dX0_strip_42 rfl (Nat.le_of_ble_eq_true rfl) rfl ?_
        refine mg_iinc (v := x3 + 1) (ls' := [(3, .int (x3 + 1)), (2, .int (1)), (0, .ref (k0)), (1, .int (x1))]) dX0_strip_43 3 rfl rfl (Nat.le_of_ble_eq_true rfl) rfl ?_
        refine mg_goto (tgt := 4) dX0_strip_46 (by decide) ?_
        exact mg_pick [2, 3, 1, 0] rfl (h d hd ex)
theorem dX9_isBlocking_0 : decode cX9_isBlocking 0 = .ok (.iload_n 1, 1) := by decide +kernel
theorem dX9_isBlocking_1 : decode cX9_isBlocking 1 = .ok (.iconst 1, 1) := by decide +kernel
theorem dX9_isBlocking_2 : decode cX9_isBlocking 2 = .ok (.iload_n 2, 1) := by decide +kernel
theorem dX9_isBlocking_3 : decode cX9_isBlocking 3 = .ok (.ishl, 1) := by decide +kernel
theorem dX9_isBlocking_4 : decode cX9_isBlocking 4 = .ok (.iconst (-1), 1) := by decide +kernel
theorem dX9_isBlocking_5 : decode cX9_isBlocking 5 = .ok (.ixor, 1) := by decide +kernel
theorem dX9_isBlocking_6 : decode cX9_isBlocking 6 = .ok (.iand, 1) := by decide +kernel
theorem dX9_isBlocking_7 : decode cX9_isBlocking 7 = .ok (.invokestatic 264, 3) := by decide +kernel
theorem dX9_isBlocking_10 : decode cX9_isBlocking 10 = .ok (.istore_n 3, 1) := by decide +kernel
theorem dX9_isBlocking_11 : decode cX9_isBlocking 11 = .ok (.iconst 0, 1) := by decide +kernel
theorem dX9_isBlocking_12 : decode cX9_isBlocking 12 = .ok (.istore 4, 2) := by decide +kernel
theorem dX9_isBlocking_14 : decode cX9_isBlocking 14 = .ok (.iload 4, 2) := by decide +kernel
theorem dX9_isBlocking_16 : decode cX9_isBlocking 16 = .ok (.aload_n 0, 1) := by decide +kernel
theorem dX9_isBlocking_17 : decode cX9_isBlocking 17 = .ok (.invokevirtual 92, 3) := by decide +kernel
theorem dX9_isBlocking_20 : decode cX9_isBlocking 20 = .ok (.if_icmp .ge 37, 3) := by decide +kernel
theorem dX9_isBlocking_23 : decode cX9_isBlocking 23 = .ok (.aload_n 0, 1) := by decide +kernel
theorem dX9_isBlocking_24 : decode cX9_isBlocking 24 = .ok (.iload 4, 2) := by decide +kernel
theorem dX9_isBlocking_26 : decode cX9_isBlocking 26 = .ok (.invokevirtual 112, 3) := by decide +kernel
theorem dX9_isBlocking_29 : decode cX9_isBlocking 29 = .ok (.istore 5, 2) := by decide +kernel
theorem dX9_isBlocking_31 : decode cX9_isBlocking 31 = .ok (.iload 5, 2) := by decide +kernel
theorem dX9_isBlocking_33 : decode cX9_isBlocking 33 = .ok (.iload_n 2, 1) := by decide +kernel
theorem dX9_isBlocking_34 : decode cX9_isBlocking 34 = .ok (.iconst 1, 1) := by decide +kernel
theorem dX9_isBlocking_35 : decode cX9_isBlocking 35 = .ok (.ixor, 1) := by decide +kernel
theorem dX9_isBlocking_36 : decode cX9_isBlocking 36 = .ok (.invokestatic 372, 3) := by decide +kernel
theorem dX9_isBlocking_39 : decode cX9_isBlocking 39 = .ok (.ifCond .eq 12, 3) := by decide +kernel
theorem dX9_isBlocking_42 : decode cX9_isBlocking 42 = .ok (.iload 5, 2) := by decide +kernel
theorem dX9_isBlocking_44 : decode cX9_isBlocking 44 = .ok (.iload_n 3, 1) := by decide +kernel
theorem dX9_isBlocking_45 : decode cX9_isBlocking 45 = .ok (.iand, 1) := by decide +kernel
theorem dX9_isBlocking_46 : decode cX9_isBlocking 46 = .ok (.ifCond .ne 5, 3) := by decide +kernel
theorem dX9_isBlocking_49 : decode cX9_isBlocking 49 = .ok (.iconst 0, 1) := by decide +kernel
theorem dX9_isBlocking_50 : decode cX9_isBlocking 50 = .ok (.ireturn, 1) := by decide +kernel
theorem dX9_isBlocking_51 : decode cX9_isBlocking 51 = .ok (.iinc 4 1, 3) := by decide +kernel
theorem dX9_isBlocking_54 : decode cX9_isBlocking 54 = .ok (.goto (-40), 3) := by decide +kernel
theorem dX9_isBlocking_57 : decode cX9_isBlocking 57 = .ok (.iconst 1, 1) := by decide +kernel
theorem dX9_isBlocking_58 : decode cX9_isBlocking 58 = .ok (.ireturn, 1) := by decide +kernel
abbrev mtX9_isBlocking : mj_T := (yX9_isBlocking.cls, cX9_isBlocking, 6, (some .boolean), mj_no, yX9_isBlocking.name)
abbrev kX9_isBlocking (k0 : Nat) (x1 : Int32) (x2 : Int32) (g : mj_S) (M : mj_M) (q : Int32 → mj_M → Prop) : Prop := mj_CI yX9_isBlocking (.code yX9_isBlocking cX9_isBlocking 6 (some .boolean)) 1 [.ref (k0), .int (x1), .int (x2)] g M q
theorem kiX9_isBlocking : mj_cS yX9_isBlocking cX9_isBlocking 6 (some .boolean) 3 := ⟨⟨wd_542, wd_1, wd_543⟩, ⟨by decide +kernel, by decide +kernel, by decide +kernel⟩, Nat.le_of_ble_eq_true rfl⟩
def LX9_isBlocking_14 (k0 n0 : Nat) (x2 : Int32) (x3 : Int32) (x4 : Int32) (g : mj_S) (M : mj_M) (q : Int32 → mj_M → Prop) : Prop := ∀ d, 1 ≤ d → ∀ ex : Bool, mj_G mtX9_isBlocking (mj_rm d 0 0) (mj_Fi (mj_qI g q) mj_x0 0 0) ex 0 0 14 [(0, .ref (k0)), (2, .int (x2)), (3, .int (x3)), (4, .int (x4))] [] g M
theorem eX9_isBlocking {k0 n0 : Nat} {x1 : Int32} {x2 : Int32} {g : mj_S} {M : mj_M} {q : Int32 → mj_M → Prop} (h0 : is0 g k0 n0) (h : ∃ (q1 : Int32 → mj_M → Prop), kX9_complements ((x1) &&& (((1 : Int32) <<< ((x2) &&& 31)) ^^^ (-1 : Int32))) g (M) q1 ∧ ∀ (v1 : Int32) (M1 : mj_M), q1 v1 M1 → (LX9_isBlocking_14 k0 n0 (x2) (v1) (0) g (M1) q)) : kX9_isBlocking (k0) (x1) (x2) g M q := by
  intro d hd; refine mj_enter (by decide +kernel) (Nat.le_of_ble_eq_true rfl) ?_
  generalize (false : Bool) = ex
  show mj_G mtX9_isBlocking (mj_rm d 0 0) (mj_Fi (mj_qI g q) mj_x0 0 0) ex 0 0 0 [(0, .ref (k0)), (1, .int (x1)), (2, .int (x2))] [] g M
  refine mg_iload_n dX9_isBlocking_0 rfl 1 rfl ?_
  refine mg_iconst (v := 1) dX9_isBlocking_1 (by decide) ?_
  refine mg_iload_n dX9_isBlocking_2 rfl 2 rfl ?_
  refine mg_ishl dX9_isBlocking_3 ?_
  refine mg_iconst (v := (-1)) dX9_isBlocking_4 (by decide) ?_
  refine mg_ixor dX9_isBlocking_5 ?_
  refine mg_iand dX9_isBlocking_6 ?_
  obtain ⟨q1, hC, hk⟩ := h
  refine mc_Si [.int ((x1) &&& (((1 : Int32) <<< ((x2) &&& 31)) ^^^ (-1 : Int32)))] [] dX9_isBlocking_7 wd_544 kiX9_complements (Nat.le_of_ble_eq_true rfl) (Nat.le_trans (Nat.le_of_ble_eq_true rfl) hd) hC (fun v1 M1 hq => ?_)
  replace h := hk v1 M1 hq
  refine mg_istore_n (ls' := [(3, .int (v1)), (0, .ref (k0)), (1, .int (x1)), (2, .int (x2))]) dX9_isBlocking_10 rfl (Nat.le_of_ble_eq_true rfl) rfl ?_
  refine mg_iconst (v := 0) dX9_isBlocking_11 (by decide) ?_
  refine mg_istore (ls' := [(4, .int (0)), (3, .int (v1)), (0, .ref (k0)), (1, .int (x1)), (2, .int (x2))]) dX9_isBlocking_12 (Nat.le_of_ble_eq_true rfl) rfl ?_
  exact mg_pick [2, 4, 1, 0] rfl (h d hd ex)
theorem bX9_isBlocking_14 {k0 n0 : Nat} {x2 : Int32} {x3 : Int32} {x4 : Int32} {g : mj_S} {M : mj_M} {q : Int32 → mj_M → Prop} (h0 : is0 g k0 n0) (h : ∃ (q1 : Int32 → mj_M → Prop), kX0_size (k0) g (M) q1 ∧ ∀ (v1 : Int32) (M1 : mj_M), q1 v1 M1 → (((v1 : Int32) ≤ (x4) → q 1 (M1)) ∧ (¬ (v1 : Int32) ≤ (x4) → ∃ (q2 : Int32 → mj_M → Prop), kX0_at (k0) (x4) g (M1) q2 ∧ ∀ (v2 : Int32) (M2 : mj_M), q2 v2 M2 → (∃ (q3 : Int32 → mj_M → Prop), kX9_contains (v2) ((x2) ^^^ (1 : Int32)) g (M2) q3 ∧ ∀ (v3 : Int32) (M3 : mj_M), q3 v3 M3 → (((v3 : Int32) = 0 → LX9_isBlocking_14 k0 n0 (x2) (x3) (x4 + 1) g (M3) q) ∧ (¬ (v3 : Int32) = 0 → (¬ ((v2) &&& (x3) : Int32) = 0 → LX9_isBlocking_14 k0 n0 (x2) (x3) (x4 + 1) g (M3) q) ∧ (((v2) &&& (x3) : Int32) = 0 → q 0 (M3)))))))) : LX9_isBlocking_14 k0 n0 x2 x3 x4 g M q := by
  intro d hd ex
  refine mg_iload dX9_isBlocking_14 3 rfl ?_
  refine mg_aload_n dX9_isBlocking_16 rfl 0 rfl ?_
  obtain ⟨q1, hC, hk⟩ := h
  refine mc_Vi [] [.int (x4)] dX9_isBlocking_17 wd_260 kiX0_size (Nat.le_of_ble_eq_true rfl) h0.1.1 h0.1.2 rfl (Nat.le_trans (Nat.le_of_ble_eq_true rfl) hd) hC (fun v1 M1 hq => ?_)
  replace h := hk v1 M1 hq
  refine mg_icmp_ge (tgt := 57) dX9_isBlocking_20 (by decide) (fun hc => ?_) (fun hc => ?_)
  · replace h := h.1 hc
    refine mg_iconst (v := 1) dX9_isBlocking_57 (by decide) ?_
    exact me_z dX9_isBlocking_58 rfl (Or.inr rfl) h
  · replace h := h.2 hc
    refine mg_aload_n dX9_isBlocking_23 rfl 0 rfl ?_
    refine mg_iload dX9_isBlocking_24 3 rfl ?_
    obtain ⟨q2, hC, hk⟩ := h
    refine mc_Vi [.int (x4)] [] dX9_isBlocking_26 wd_539 kiX0_at (Nat.le_of_ble_eq_true rfl) h0.1.1 h0.1.2 rfl (Nat.le_trans (Nat.le_of_ble_eq_true rfl) hd) hC (fun v2 M2 hq => ?_)
    replace h := hk v2 M2 hq
    refine mg_istore (ls' := [(5, .int (v2)), (0, .ref (k0)), (2, .int (x2)), (3, .int (x3)), (4, .int (x4))]) dX9_isBlocking_29 (Nat.le_of_ble_eq_true rfl) rfl ?_
    refine mg_iload dX9_isBlocking_31 0 rfl ?_
    refine mg_iload_n dX9_isBlocking_33 rfl 2 rfl ?_
    refine mg_iconst (v := 1) dX9_isBlocking_34 (by decide) ?_
    refine mg_ixor dX9_isBlocking_35 ?_
    obtain ⟨q3, hC, hk⟩ := h
    refine mc_Si [.int (v2), .int ((x2) ^^^ (1 : Int32))] [] dX9_isBlocking_36 wd_540 kiX9_contains (Nat.le_of_ble_eq_true rfl) (Nat.le_trans (Nat.le_of_ble_eq_true rfl) hd) hC (fun v3 M3 hq => ?_)
    replace h := hk v3 M3 hq
    refine mg_if_eq (tgt := 51) dX9_isBlocking_39 (by decide) (fun hc => ?_) (fun hc => ?_)
    · replace h := h.1 hc
      refine mg_iinc (v := x4 + 1) (ls' := [(4, .int (x4 + 1)), (5, .int (v2)), (0, .ref (k0)), (2, .int (x2)), (3, .int (x3))]) dX9_isBlocking_51 4 rfl rfl (Nat.le_of_ble_eq_true rfl) rfl ?_
      refine mg_goto (tgt := 14) dX9_isBlocking_54 (by decide) ?_
      exact mg_pick [2, 3, 4, 0] rfl (h d hd ex)
    · replace h := h.2 hc
      refine mg_iload dX9_isBlocking_42 0 rfl ?_
      refine mg_iload_n dX9_isBlocking_44 rfl 3 rfl ?_
      refine mg_iand dX9_isBlocking_45 ?_
      refine mg_if_ne (tgt := 51) dX9_isBlocking_46 (by decide) (fun hc => ?_) (fun hc => ?_)
      · replace h := h.1 hc
        refine mg_iinc (v := x4 + 1) (ls' := [(4, .int (x4 + 1)), (5, .int (v2)), (0, .ref (k0)), (2, .int (x2)), (3, .int (x3))]) dX9_isBlocking_51 4 rfl rfl (Nat.le_of_ble_eq_true rfl) rfl ?_
        refine mg_goto (tgt := 14) dX9_isBlocking_54 (by decide) ?_
        exact mg_pick [2, 3, 4, 0] rfl (h d hd ex)
      · replace h := h.2 hc
        refine mg_iconst (v := 0) dX9_isBlocking_49 (by decide) ?_
        exact me_z dX9_isBlocking_50 rfl (Or.inl rfl) h
theorem dX9_lowestBlocking_0 : decode cX9_lowestBlocking 0 = .ok (.aload_n 0, 1) := by decide +kernel
theorem dX9_lowestBlocking_1 : decode cX9_lowestBlocking 1 = .ok (.iload_n 1, 1) := by decide +kernel
theorem dX9_lowestBlocking_2 : decode cX9_lowestBlocking 2 = .ok (.invokevirtual 112, 3) := by decide +kernel
theorem dX9_lowestBlocking_5 : decode cX9_lowestBlocking 5 = .ok (.istore_n 2, 1) := by decide +kernel
theorem dX9_lowestBlocking_6 : decode cX9_lowestBlocking 6 = .ok (.iconst 0, 1) := by decide +kernel
theorem dX9_lowestBlocking_7 : decode cX9_lowestBlocking 7 = .ok (.istore_n 3, 1) := by decide +kernel
theorem dX9_lowestBlocking_8 : decode cX9_lowestBlocking 8 = .ok (.iload_n 3, 1) := by decide +kernel
theorem dX9_lowestBlocking_9 : decode cX9_lowestBlocking 9 = .ok (.bipush 20, 2) := by decide +kernel
theorem dX9_lowestBlocking_11 : decode cX9_lowestBlocking 11 = .ok (.if_icmp .ge 28, 3) := by decide +kernel
theorem dX9_lowestBlocking_14 : decode cX9_lowestBlocking 14 = .ok (.iload_n 2, 1) := by decide +kernel
theorem dX9_lowestBlocking_15 : decode cX9_lowestBlocking 15 = .ok (.iload_n 3, 1) := by decide +kernel
theorem dX9_lowestBlocking_16 : decode cX9_lowestBlocking 16 = .ok (.invokestatic 372, 3) := by decide +kernel
theorem dX9_lowestBlocking_19 : decode cX9_lowestBlocking 19 = .ok (.ifCond .eq 14, 3) := by decide +kernel
theorem dX9_lowestBlocking_22 : decode cX9_lowestBlocking 22 = .ok (.aload_n 0, 1) := by decide +kernel
theorem dX9_lowestBlocking_23 : decode cX9_lowestBlocking 23 = .ok (.iload_n 2, 1) := by decide +kernel
theorem dX9_lowestBlocking_24 : decode cX9_lowestBlocking 24 = .ok (.iload_n 3, 1) := by decide +kernel
theorem dX9_lowestBlocking_25 : decode cX9_lowestBlocking 25 = .ok (.invokestatic 395, 3) := by decide +kernel
theorem dX9_lowestBlocking_28 : decode cX9_lowestBlocking 28 = .ok (.ifCond .eq 5, 3) := by decide +kernel
theorem dX9_lowestBlocking_31 : decode cX9_lowestBlocking 31 = .ok (.iload_n 3, 1) := by decide +kernel
theorem dX9_lowestBlocking_32 : decode cX9_lowestBlocking 32 = .ok (.ireturn, 1) := by decide +kernel
theorem dX9_lowestBlocking_33 : decode cX9_lowestBlocking 33 = .ok (.iinc 3 1, 3) := by decide +kernel
theorem dX9_lowestBlocking_36 : decode cX9_lowestBlocking 36 = .ok (.goto (-28), 3) := by decide +kernel
theorem dX9_lowestBlocking_39 : decode cX9_lowestBlocking 39 = .ok (.iconst (-1), 1) := by decide +kernel
theorem dX9_lowestBlocking_40 : decode cX9_lowestBlocking 40 = .ok (.ireturn, 1) := by decide +kernel
abbrev mtX9_lowestBlocking : mj_T := (yX9_lowestBlocking.cls, cX9_lowestBlocking, 4, (some .int), mj_no, yX9_lowestBlocking.name)
abbrev kX9_lowestBlocking (k0 : Nat) (x1 : Int32) (g : mj_S) (M : mj_M) (q : Int32 → mj_M → Prop) : Prop := mj_CI yX9_lowestBlocking (.code yX9_lowestBlocking cX9_lowestBlocking 4 (some .int)) 2 [.ref (k0), .int (x1)] g M q
theorem kiX9_lowestBlocking : mj_cS yX9_lowestBlocking cX9_lowestBlocking 4 (some .int) 2 := ⟨⟨wd_537, wd_1, wd_538⟩, ⟨by decide +kernel, by decide +kernel, by decide +kernel⟩, Nat.le_of_ble_eq_true rfl⟩
def LX9_lowestBlocking_8 (k0 n0 : Nat) (x2 : Int32) (x3 : Int32) (g : mj_S) (M : mj_M) (q : Int32 → mj_M → Prop) : Prop := ∀ d, 2 ≤ d → ∀ ex : Bool, mj_G mtX9_lowestBlocking (mj_rm d 0 0) (mj_Fi (mj_qI g q) mj_x0 0 0) ex 0 0 8 [(0, .ref (k0)), (2, .int (x2)), (3, .int (x3))] [] g M
theorem eX9_lowestBlocking {k0 n0 : Nat} {x1 : Int32} {g : mj_S} {M : mj_M} {q : Int32 → mj_M → Prop} (h0 : is0 g k0 n0) (h : ∃ (q1 : Int32 → mj_M → Prop), kX0_at (k0) (x1) g (M) q1 ∧ ∀ (v1 : Int32) (M1 : mj_M), q1 v1 M1 → (LX9_lowestBlocking_8 k0 n0 (v1) (0) g (M1) q)) : kX9_lowestBlocking (k0) (x1) g M q := by
  intro d hd; refine mj_enter (by decide +kernel) (Nat.le_of_ble_eq_true rfl) ?_
  generalize (false : Bool) = ex
  show mj_G mtX9_lowestBlocking (mj_rm d 0 0) (mj_Fi (mj_qI g q) mj_x0 0 0) ex 0 0 0 [(0, .ref (k0)), (1, .int (x1))] [] g M
  refine mg_aload_n dX9_lowestBlocking_0 rfl 0 rfl ?_
  refine mg_iload_n dX9_lowestBlocking_1 rfl 1 rfl ?_
  obtain ⟨q1, hC, hk⟩ := h
  refine mc_Vi [.int (x1)] [] dX9_lowestBlocking_2 wd_539 kiX0_at (Nat.le_of_ble_eq_true rfl) h0.1.1 h0.1.2 rfl (Nat.le_trans (Nat.le_of_ble_eq_true rfl) hd) hC (fun v1 M1 hq => ?_)
  replace h := hk v1 M1 hq
  refine mg_istore_n (ls' := [(2, .int (v1)), (0, .ref (k0)), (1, .int (x1))]) dX9_lowestBlocking_5 rfl (Nat.le_of_ble_eq_true rfl) rfl ?_
  refine mg_iconst (v := 0) dX9_lowestBlocking_6 (by decide) ?_
  refine mg_istore_n (ls' := [(3, .int (0)), (2, .int (v1)), (0, .ref (k0)), (1, .int (x1))]) dX9_lowestBlocking_7 rfl (Nat.le_of_ble_eq_true rfl) rfl ?_
  exact mg_pick [2, 1, 0] rfl (h d hd ex)
theorem bX9_lowestBlocking_8 {k0 n0 : Nat} {x2 : Int32} {x3 : Int32} {g : mj_S} {M : mj_M} {q : Int32 → mj_M → Prop} (h0 : is0 g k0 n0) (h : ((20 : Int32) ≤ (x3) → q ((-1)) (M)) ∧ (¬ (20 : Int32) ≤ (x3) → ∃ (q1 : Int32 → mj_M → Prop), kX9_contains (x2) (x3) g (M) q1 ∧ ∀ (v1 : Int32) (M1 : mj_M), q1 v1 M1 → (((v1 : Int32) = 0 → LX9_lowestBlocking_8 k0 n0 (x2) (x3 + 1) g (M1) q) ∧ (¬ (v1 : Int32) = 0 → ∃ (q2 : Int32 → mj_M → Prop), kX9_isBlocking (k0) (x2) (x3) g (M1) q2 ∧ ∀ (v2 : Int32) (M2 : mj_M), q2 v2 M2 → (((v2 : Int32) = 0 → LX9_lowestBlocking_8 k0 n0 (x2) (x3 + 1) g (M2) q) ∧ (¬ (v2 : Int32) = 0 → q (x3) (M2))))))) : LX9_lowestBlocking_8 k0 n0 x2 x3 g M q := by
  intro d hd ex
  refine mg_iload_n dX9_lowestBlocking_8 rfl 2 rfl ?_
  refine mg_bipush (v := 20) dX9_lowestBlocking_9 (by decide) ?_
  refine mg_icmp_ge (tgt := 39) dX9_lowestBlocking_11 (by decide) (fun hc => ?_) (fun hc => ?_)
  · replace h := h.1 hc
    refine mg_iconst (v := (-1)) dX9_lowestBlocking_39 (by decide) ?_
    exact me_i dX9_lowestBlocking_40 rfl h
  · replace h := h.2 hc
    refine mg_iload_n dX9_lowestBlocking_14 rfl 1 rfl ?_
    refine mg_iload_n dX9_lowestBlocking_15 rfl 2 rfl ?_
    obtain ⟨q1, hC, hk⟩ := h
    refine mc_Si [.int (x2), .int (x3)] [] dX9_lowestBlocking_16 wd_540 kiX9_contains (Nat.le_of_ble_eq_true rfl) (Nat.le_trans (Nat.le_of_ble_eq_true rfl) hd) hC (fun v1 M1 hq => ?_)
    replace h := hk v1 M1 hq
    refine mg_if_eq (tgt := 33) dX9_lowestBlocking_19 (by decide) (fun hc => ?_) (fun hc => ?_)
    · replace h := h.1 hc
      refine mg_iinc (v := x3 + 1) (ls' := [(3, .int (x3 + 1)), (0, .ref (k0)), (2, .int (x2))]) dX9_lowestBlocking_33 2 rfl rfl (Nat.le_of_ble_eq_true rfl) rfl ?_
      refine mg_goto (tgt := 8) dX9_lowestBlocking_36 (by decide) ?_
      exact mg_pick [1, 2, 0] rfl (h d hd ex)
    · replace h := h.2 hc
      refine mg_aload_n dX9_lowestBlocking_22 rfl 0 rfl ?_
      refine mg_iload_n dX9_lowestBlocking_23 rfl 1 rfl ?_
      refine mg_iload_n dX9_lowestBlocking_24 rfl 2 rfl ?_
      obtain ⟨q2, hC, hk⟩ := h
      refine mc_Si [.ref (k0), .int (x2), .int (x3)] [] dX9_lowestBlocking_25 wd_541 kiX9_isBlocking (Nat.le_of_ble_eq_true rfl) (Nat.le_trans (Nat.le_of_ble_eq_true rfl) hd) hC (fun v2 M2 hq => ?_)
      replace h := hk v2 M2 hq
      refine mg_if_eq (tgt := 33) dX9_lowestBlocking_28 (by decide) (fun hc => ?_) (fun hc => ?_)
      · replace h := h.1 hc
        refine mg_iinc (v := x3 + 1) (ls' := [(3, .int (x3 + 1)), (0, .ref (k0)), (2, .int (x2))]) dX9_lowestBlocking_33 2 rfl rfl (Nat.le_of_ble_eq_true rfl) rfl ?_
        refine mg_goto (tgt := 8) dX9_lowestBlocking_36 (by decide) ?_
        exact mg_pick [1, 2, 0] rfl (h d hd ex)
      · replace h := h.2 hc
        refine mg_iload_n dX9_lowestBlocking_31 rfl 2 rfl ?_
        exact me_i dX9_lowestBlocking_32 rfl h
theorem dX9_closure_0 : decode cX9_closure 0 = .ok (.iload_n 2, 1) := by decide +kernel
theorem dX9_closure_1 : decode cX9_closure 1 = .ok (.istore_n 3, 1) := by decide +kernel
theorem dX9_closure_2 : decode cX9_closure 2 = .ok (.iconst 0, 1) := by decide +kernel
theorem dX9_closure_3 : decode cX9_closure 3 = .ok (.istore 4, 2) := by decide +kernel
theorem dX9_closure_5 : decode cX9_closure 5 = .ok (.iload 4, 2) := by decide +kernel
theorem dX9_closure_7 : decode cX9_closure 7 = .ok (.bipush 20, 2) := by decide +kernel
theorem dX9_closure_9 : decode cX9_closure 9 = .ok (.if_icmp .gt 94, 3) := by decide +kernel
theorem dX9_closure_12 : decode cX9_closure 12 = .ok (.iload_n 3, 1) := by decide +kernel
theorem dX9_closure_13 : decode cX9_closure 13 = .ok (.istore 5, 2) := by decide +kernel
theorem dX9_closure_15 : decode cX9_closure 15 = .ok (.iconst 0, 1) := by decide +kernel
theorem dX9_closure_16 : decode cX9_closure 16 = .ok (.istore 6, 2) := by decide +kernel
theorem dX9_closure_18 : decode cX9_closure 18 = .ok (.iload 6, 2) := by decide +kernel
theorem dX9_closure_20 : decode cX9_closure 20 = .ok (.aload_n 0, 1) := by decide +kernel
theorem dX9_closure_21 : decode cX9_closure 21 = .ok (.invokevirtual 92, 3) := by decide +kernel
theorem dX9_closure_24 : decode cX9_closure 24 = .ok (.if_icmp .ge 65, 3) := by decide +kernel
theorem dX9_closure_27 : decode cX9_closure 27 = .ok (.aload_n 0, 1) := by decide +kernel
theorem dX9_closure_28 : decode cX9_closure 28 = .ok (.iload 6, 2) := by decide +kernel
theorem dX9_closure_30 : decode cX9_closure 30 = .ok (.invokevirtual 112, 3) := by decide +kernel
theorem dX9_closure_33 : decode cX9_closure 33 = .ok (.istore 7, 2) := by decide +kernel
theorem dX9_closure_35 : decode cX9_closure 35 = .ok (.iload 6, 2) := by decide +kernel
theorem dX9_closure_37 : decode cX9_closure 37 = .ok (.iload_n 1, 1) := by decide +kernel
theorem dX9_closure_38 : decode cX9_closure 38 = .ok (.if_icmp .eq 45, 3) := by decide +kernel
theorem dX9_closure_41 : decode cX9_closure 41 = .ok (.iload 7, 2) := by decide +kernel
theorem dX9_closure_43 : decode cX9_closure 43 = .ok (.iload_n 3, 1) := by decide +kernel
theorem dX9_closure_44 : decode cX9_closure 44 = .ok (.iand, 1) := by decide +kernel
theorem dX9_closure_45 : decode cX9_closure 45 = .ok (.ifCond .eq 6, 3) := by decide +kernel
theorem dX9_closure_48 : decode cX9_closure 48 = .ok (.goto 35, 3) := by decide +kernel
theorem dX9_closure_51 : decode cX9_closure 51 = .ok (.iload 7, 2) := by decide +kernel
theorem dX9_closure_53 : decode cX9_closure 53 = .ok (.iload_n 3, 1) := by decide +kernel
theorem dX9_closure_54 : decode cX9_closure 54 = .ok (.invokestatic 264, 3) := by decide +kernel
theorem dX9_closure_57 : decode cX9_closure 57 = .ok (.iconst (-1), 1) := by decide +kernel
theorem dX9_closure_58 : decode cX9_closure 58 = .ok (.ixor, 1) := by decide +kernel
theorem dX9_closure_59 : decode cX9_closure 59 = .ok (.iand, 1) := by decide +kernel
theorem dX9_closure_60 : decode cX9_closure 60 = .ok (.istore 8, 2) := by decide +kernel
theorem dX9_closure_62 : decode cX9_closure 62 = .ok (.iload 8, 2) := by decide +kernel
theorem dX9_closure_64 : decode cX9_closure 64 = .ok (.ifCond .ne 5, 3) := by decide +kernel
theorem dX9_closure_67 : decode cX9_closure 67 = .ok (.iconst (-1), 1) := by decide +kernel
theorem dX9_closure_68 : decode cX9_closure 68 = .ok (.ireturn, 1) := by decide +kernel
theorem dX9_closure_69 : decode cX9_closure 69 = .ok (.iload 8, 2) := by decide +kernel
theorem dX9_closure_71 : decode cX9_closure 71 = .ok (.invokestatic 392, 3) := by decide +kernel
theorem dX9_closure_74 : decode cX9_closure 74 = .ok (.iconst 1, 1) := by decide +kernel
theorem dX9_closure_75 : decode cX9_closure 75 = .ok (.if_icmp .ne 8, 3) := by decide +kernel
theorem dX9_closure_78 : decode cX9_closure 78 = .ok (.iload_n 3, 1) := by decide +kernel
theorem dX9_closure_79 : decode cX9_closure 79 = .ok (.iload 8, 2) := by decide +kernel
theorem dX9_closure_81 : decode cX9_closure 81 = .ok (.ior, 1) := by decide +kernel
theorem dX9_closure_82 : decode cX9_closure 82 = .ok (.istore_n 3, 1) := by decide +kernel
theorem dX9_closure_83 : decode cX9_closure 83 = .ok (.iinc 6 1, 3) := by decide +kernel
theorem dX9_closure_86 : decode cX9_closure 86 = .ok (.goto (-68), 3) := by decide +kernel
theorem dX9_closure_89 : decode cX9_closure 89 = .ok (.iload_n 3, 1) := by decide +kernel
theorem dX9_closure_90 : decode cX9_closure 90 = .ok (.iload 5, 2) := by decide +kernel
theorem dX9_closure_92 : decode cX9_closure 92 = .ok (.if_icmp .ne 5, 3) := by decide +kernel
theorem dX9_closure_95 : decode cX9_closure 95 = .ok (.iload_n 3, 1) := by decide +kernel
theorem dX9_closure_96 : decode cX9_closure 96 = .ok (.ireturn, 1) := by decide +kernel
theorem dX9_closure_97 : decode cX9_closure 97 = .ok (.iinc 4 1, 3) := by decide +kernel
theorem dX9_closure_100 : decode cX9_closure 100 = .ok (.goto (-95), 3) := by decide +kernel
theorem dX9_closure_103 : decode cX9_closure 103 = .ok (.iload_n 3, 1) := by decide +kernel
theorem dX9_closure_104 : decode cX9_closure 104 = .ok (.ireturn, 1) := by decide +kernel
abbrev mtX9_closure : mj_T := (yX9_closure.cls, cX9_closure, 9, (some .int), mj_no, yX9_closure.name)
abbrev kX9_closure (k0 : Nat) (x1 : Int32) (x2 : Int32) (g : mj_S) (M : mj_M) (q : Int32 → mj_M → Prop) : Prop := mj_CI yX9_closure (.code yX9_closure cX9_closure 9 (some .int)) 1 [.ref (k0), .int (x1), .int (x2)] g M q
theorem kiX9_closure : mj_cS yX9_closure cX9_closure 9 (some .int) 3 := ⟨⟨wd_580, wd_1, wd_581⟩, ⟨by decide +kernel, by decide +kernel, by decide +kernel⟩, Nat.le_of_ble_eq_true rfl⟩
def LX9_closure_5 (k0 n0 : Nat) (x1 : Int32) (x3 : Int32) (x4 : Int32) (g : mj_S) (M : mj_M) (q : Int32 → mj_M → Prop) : Prop := ∀ d, 1 ≤ d → ∀ ex : Bool, mj_G mtX9_closure (mj_rm d 0 0) (mj_Fi (mj_qI g q) mj_x0 0 0) ex 0 0 5 [(0, .ref (k0)), (1, .int (x1)), (3, .int (x3)), (4, .int (x4))] [] g M
def LX9_closure_18 (k0 n0 : Nat) (x1 : Int32) (x3 : Int32) (x4 : Int32) (x5 : Int32) (x6 : Int32) (g : mj_S) (M : mj_M) (q : Int32 → mj_M → Prop) : Prop := ∀ d, 1 ≤ d → ∀ ex : Bool, mj_G mtX9_closure (mj_rm d 0 0) (mj_Fi (mj_qI g q) mj_x0 0 0) ex 0 0 18 [(0, .ref (k0)), (1, .int (x1)), (3, .int (x3)), (4, .int (x4)), (5, .int (x5)), (6, .int (x6))] [] g M
theorem eX9_closure {k0 n0 : Nat} {x1 : Int32} {x2 : Int32} {g : mj_S} {M : mj_M} {q : Int32 → mj_M → Prop} (h0 : is0 g k0 n0) (h : LX9_closure_5 k0 n0 (x1) (x2) (0) g (M) q) : kX9_closure (k0) (x1) (x2) g M q := by
  intro d hd; refine mj_enter (by decide +kernel) (Nat.le_of_ble_eq_true rfl) ?_
  generalize (false : Bool) = ex
  show mj_G mtX9_closure (mj_rm d 0 0) (mj_Fi (mj_qI g q) mj_x0 0 0) ex 0 0 0 [(0, .ref (k0)), (1, .int (x1)), (2, .int (x2))] [] g M
  refine mg_iload_n dX9_closure_0 rfl 2 rfl ?_
  refine mg_istore_n (ls' := [(3, .int (x2)), (0, .ref (k0)), (1, .int (x1)), (2, .int (x2))]) dX9_closure_1 rfl (Nat.le_of_ble_eq_true rfl) rfl ?_
  refine mg_iconst (v := 0) dX9_closure_2 (by decide) ?_
  refine mg_istore (ls' := [(4, .int (0)), (3, .int (x2)), (0, .ref (k0)), (1, .int (x1)), (2, .int (x2))]) dX9_closure_3 (Nat.le_of_ble_eq_true rfl) rfl ?_
  exact mg_pick [2, 3, 1, 0] rfl (h d hd ex)
theorem bX9_closure_5 {k0 n0 : Nat} {x1 : Int32} {x3 : Int32} {x4 : Int32} {g : mj_S} {M : mj_M} {q : Int32 → mj_M → Prop} (h0 : is0 g k0 n0) (h : ((20 : Int32) < (x4) → q (x3) (M)) ∧ (¬ (20 : Int32) < (x4) → LX9_closure_18 k0 n0 (x1) (x3) (x4) (x3) (0) g (M) q)) : LX9_closure_5 k0 n0 x1 x3 x4 g M q := by
  intro d hd ex
  refine mg_iload dX9_closure_5 3 rfl ?_
  refine mg_bipush (v := 20) dX9_closure_7 (by decide) ?_
  refine mg_icmp_gt (tgt := 103) dX9_closure_9 (by decide) (fun hc => ?_) (fun hc => ?_)
  · replace h := h.1 hc
    refine mg_iload_n dX9_closure_103 rfl 2 rfl ?_
    exact me_i dX9_closure_104 rfl h
  · replace h := h.2 hc
    refine mg_iload_n dX9_closure_12 rfl 2 rfl ?_
    refine mg_istore (ls' := [(5, .int (x3)), (0, .ref (k0)), (1, .int (x1)), (3, .int (x3)), (4, .int (x4))]) dX9_closure_13 (Nat.le_of_ble_eq_true rfl) rfl ?_
    refine mg_iconst (v := 0) dX9_closure_15 (by decide) ?_
    refine mg_istore (ls' := [(6, .int (0)), (5, .int (x3)), (0, .ref (k0)), (1, .int (x1)), (3, .int (x3)), (4, .int (x4))]) dX9_closure_16 (Nat.le_of_ble_eq_true rfl) rfl ?_
    exact mg_pick [2, 3, 4, 5, 1, 0] rfl (h d hd ex)
theorem bX9_closure_18 {k0 n0 : Nat} {x1 : Int32} {x3 : Int32} {x4 : Int32} {x5 : Int32} {x6 : Int32} {g : mj_S} {M : mj_M} {q : Int32 → mj_M → Prop} (h0 : is0 g k0 n0) (h : ∃ (q1 : Int32 → mj_M → Prop), kX0_size (k0) g (M) q1 ∧ ∀ (v1 : Int32) (M1 : mj_M), q1 v1 M1 → (((v1 : Int32) ≤ (x6) → (¬ (x3 : Int32) = (x5) → LX9_closure_5 k0 n0 (x1) (x3) (x4 + 1) g (M1) q) ∧ ((x3 : Int32) = (x5) → q (x3) (M1))) ∧ (¬ (v1 : Int32) ≤ (x6) → ∃ (q2 : Int32 → mj_M → Prop), kX0_at (k0) (x6) g (M1) q2 ∧ ∀ (v2 : Int32) (M2 : mj_M), q2 v2 M2 → (((x6 : Int32) = (x1) → LX9_closure_18 k0 n0 (x1) (x3) (x4) (x5) (x6 + 1) g (M2) q) ∧ (¬ (x6 : Int32) = (x1) → (((v2) &&& (x3) : Int32) = 0 → ∃ (q3 : Int32 → mj_M → Prop), kX9_complements (x3) g (M2) q3 ∧ ∀ (v3 : Int32) (M3 : mj_M), q3 v3 M3 → ((¬ ((v2) &&& ((v3) ^^^ (-1 : Int32)) : Int32) = 0 → ∃ (q4 : Int32 → mj_M → Prop), kJ6_bitCount_0f7a4 ((v2) &&& ((v3) ^^^ (-1 : Int32))) g (M3) q4 ∧ ∀ (v4 : Int32) (M4 : mj_M), q4 v4 M4 → ((¬ (v4 : Int32) = (1 : Int32) → LX9_closure_18 k0 n0 (x1) (x3) (x4) (x5) (x6 + 1) g (M4) q) ∧ ((v4 : Int32) = (1 : Int32) → LX9_closure_18 k0 n0 (x1) ((x3) ||| ((v2) &&& ((v3) ^^^ (-1 : Int32)))) (x4) (x5) (x6 + 1) g (M4) q))) ∧ (((v2) &&& ((v3) ^^^ (-1 : Int32)) : Int32) = 0 → q ((-1)) (M3)))) ∧ (¬ ((v2) &&& (x3) : Int32) = 0 → LX9_closure_18 k0 n0 (x1) (x3) (x4) (x5) (x6 + 1) g (M2) q)))))) : LX9_closure_18 k0 n0 x1 x3 x4 x5 x6 g M q := by
  intro d hd ex
  refine mg_iload dX9_closure_18 5 rfl ?_
  refine mg_aload_n dX9_closure_20 rfl 0 rfl ?_
  obtain ⟨q1, hC, hk⟩ := h
  refine mc_Vi [] [.int (x6)] dX9_closure_21 wd_260 kiX0_size (Nat.le_of_ble_eq_true rfl) h0.1.1 h0.1.2 rfl (Nat.le_trans (Nat.le_of_ble_eq_true rfl) hd) hC (fun v1 M1 hq => ?_)
  replace h := hk v1 M1 hq
  refine mg_icmp_ge (tgt := 89) dX9_closure_24 (by decide) (fun hc => ?_) (fun hc => ?_)
  · replace h := h.1 hc
    refine mg_iload_n dX9_closure_89 rfl 2 rfl ?_
    refine mg_iload dX9_closure_90 4 rfl ?_
    refine mg_icmp_ne (tgt := 97) dX9_closure_92 (by decide) (fun hc => ?_) (fun hc => ?_)
    · replace h := h.1 hc
      refine mg_iinc (v := x4 + 1) (ls' := [(4, .int (x4 + 1)), (0, .ref (k0)), (1, .int (x1)), (3, .int (x3)), (5, .int (x5)), (6, .int (x6))]) dX9_closure_97 3 rfl rfl (Nat.le_of_ble_eq_true rfl) rfl ?_
      refine mg_goto (tgt := 5) dX9_closure_100 (by decide) ?_
      exact mg_pick [1, 2, 3, 0] rfl (h d hd ex)
    · replace h := h.2 hc
      refine mg_iload_n dX9_closure_95 rfl 2 rfl ?_
      exact me_i dX9_closure_96 rfl h
  · replace h := h.2 hc
    refine mg_aload_n dX9_closure_27 rfl 0 rfl ?_
    refine mg_iload dX9_closure_28 5 rfl ?_
    obtain ⟨q2, hC, hk⟩ := h
    refine mc_Vi [.int (x6)] [] dX9_closure_30 wd_539 kiX0_at (Nat.le_of_ble_eq_true rfl) h0.1.1 h0.1.2 rfl (Nat.le_trans (Nat.le_of_ble_eq_true rfl) hd) hC (fun v2 M2 hq => ?_)
    replace h := hk v2 M2 hq
    refine mg_istore (ls' := [(7, .int (v2)), (0, .ref (k0)), (1, .int (x1)), (3, .int (x3)), (4, .int (x4)), (5, .int (x5)), (6, .int (x6))]) dX9_closure_33 (Nat.le_of_ble_eq_true rfl) rfl ?_
    refine mg_iload dX9_closure_35 6 rfl ?_
    refine mg_iload_n dX9_closure_37 rfl 2 rfl ?_
    refine mg_icmp_eq (tgt := 83) dX9_closure_38 (by decide) (fun hc => ?_) (fun hc => ?_)
    · replace h := h.1 hc
      refine mg_iinc (v := x6 + 1) (ls' := [(6, .int (x6 + 1)), (7, .int (v2)), (0, .ref (k0)), (1, .int (x1)), (3, .int (x3)), (4, .int (x4)), (5, .int (x5))]) dX9_closure_83 6 rfl rfl (Nat.le_of_ble_eq_true rfl) rfl ?_
      refine mg_goto (tgt := 18) dX9_closure_86 (by decide) ?_
      exact mg_pick [2, 3, 4, 5, 6, 0] rfl (h d hd ex)
    · replace h := h.2 hc
      refine mg_iload dX9_closure_41 0 rfl ?_
      refine mg_iload_n dX9_closure_43 rfl 3 rfl ?_
      refine mg_iand dX9_closure_44 ?_
      refine mg_if_eq (tgt := 51) dX9_closure_45 (by decide) (fun hc => ?_) (fun hc => ?_)
      · replace h := h.1 hc
        refine mg_iload dX9_closure_51 0 rfl ?_
        refine mg_iload_n dX9_closure_53 rfl 3 rfl ?_
        obtain ⟨q3, hC, hk⟩ := h
        refine mc_Si [.int (x3)] [.int (v2)] dX9_closure_54 wd_544 kiX9_complements (Nat.le_of_ble_eq_true rfl) (Nat.le_trans (Nat.le_of_ble_eq_true rfl) hd) hC (fun v3 M3 hq => ?_)
        replace h := hk v3 M3 hq
        refine mg_iconst (v := (-1)) dX9_closure_57 (by decide) ?_
        refine mg_ixor dX9_closure_58 ?_
        refine mg_iand dX9_closure_59 ?_
        refine mg_istore (ls' := [(8, .int ((v2) &&& ((v3) ^^^ (-1 : Int32)))), (7, .int (v2)), (0, .ref (k0)), (1, .int (x1)), (3, .int (x3)), (4, .int (x4)), (5, .int (x5)), (6, .int (x6))]) dX9_closure_60 (Nat.le_of_ble_eq_true rfl) rfl ?_
        refine mg_iload dX9_closure_62 0 rfl ?_
        refine mg_if_ne (tgt := 69) dX9_closure_64 (by decide) (fun hc => ?_) (fun hc => ?_)
        · replace h := h.1 hc
          refine mg_iload dX9_closure_69 0 rfl ?_
          obtain ⟨q4, hC, hk⟩ := h
          refine mc_Si [.int ((v2) &&& ((v3) ^^^ (-1 : Int32)))] [] dX9_closure_71 wd_582 kiJ6_bitCount_0f7a4 (Nat.le_of_ble_eq_true rfl) (Nat.le_trans (Nat.le_of_ble_eq_true rfl) hd) hC (fun v4 M4 hq => ?_)
          replace h := hk v4 M4 hq
          refine mg_iconst (v := 1) dX9_closure_74 (by decide) ?_
          refine mg_icmp_ne (tgt := 83) dX9_closure_75 (by decide) (fun hc => ?_) (fun hc => ?_)
          · replace h := h.1 hc
            refine mg_iinc (v := x6 + 1) (ls' := [(6, .int (x6 + 1)), (8, .int ((v2) &&& ((v3) ^^^ (-1 : Int32)))), (7, .int (v2)), (0, .ref (k0)), (1, .int (x1)), (3, .int (x3)), (4, .int (x4)), (5, .int (x5))]) dX9_closure_83 7 rfl rfl (Nat.le_of_ble_eq_true rfl) rfl ?_
            refine mg_goto (tgt := 18) dX9_closure_86 (by decide) ?_
            exact mg_pick [3, 4, 5, 6, 7, 0] rfl (h d hd ex)
          · replace h := h.2 hc
            refine mg_iload_n dX9_closure_78 rfl 4 rfl ?_
            refine mg_iload dX9_closure_79 0 rfl ?_
            refine mg_ior dX9_closure_81 ?_
            refine mg_istore_n (ls' := [(3, .int ((x3) ||| ((v2) &&& ((v3) ^^^ (-1 : Int32))))), (8, .int ((v2) &&& ((v3) ^^^ (-1 : Int32)))), (7, .int (v2)), (0, .ref (k0)), (1, .int (x1)), (4, .int (x4)), (5, .int (x5)), (6, .int (x6))]) dX9_closure_82 rfl (Nat.le_of_ble_eq_true rfl) rfl ?_
            refine mg_iinc (v := x6 + 1) (ls' := [(6, .int (x6 + 1)), (3, .int ((x3) ||| ((v2) &&& ((v3) ^^^ (-1 : Int32))))), (8, .int ((v2) &&& ((v3) ^^^ (-1 : Int32)))), (7, .int (v2)), (0, .ref (k0)), (1, .int (x1)), (4, .int (x4)), (5, .int (x5))]) dX9_closure_83 7 rfl rfl (Nat.le_of_ble_eq_true rfl) rfl ?_
            refine mg_goto (tgt := 18) dX9_closure_86 (by decide) ?_
            exact mg_pick [4, 5, 1, 6, 7, 0] rfl (h d hd ex)
        · replace h := h.2 hc
          refine mg_iconst (v := (-1)) dX9_closure_67 (by decide) ?_
          exact me_i dX9_closure_68 rfl h
      · replace h := h.2 hc
        refine mg_goto (tgt := 83) dX9_closure_48 (by decide) ?_
        refine mg_iinc (v := x6 + 1) (ls' := [(6, .int (x6 + 1)), (7, .int (v2)), (0, .ref (k0)), (1, .int (x1)), (3, .int (x3)), (4, .int (x4)), (5, .int (x5))]) dX9_closure_83 6 rfl rfl (Nat.le_of_ble_eq_true rfl) rfl ?_
        refine mg_goto (tgt := 18) dX9_closure_86 (by decide) ?_
        exact mg_pick [2, 3, 4, 5, 6, 0] rfl (h d hd ex)
theorem dX9_vivify_0 : decode cX9_vivify 0 = .ok (.aload_n 0, 1) := by decide +kernel
theorem dX9_vivify_1 : decode cX9_vivify 1 = .ok (.iload_n 1, 1) := by decide +kernel
theorem dX9_vivify_2 : decode cX9_vivify 2 = .ok (.invokevirtual 112, 3) := by decide +kernel
theorem dX9_vivify_5 : decode cX9_vivify 5 = .ok (.istore_n 2, 1) := by decide +kernel
theorem dX9_vivify_6 : decode cX9_vivify 6 = .ok (.iload_n 2, 1) := by decide +kernel
theorem dX9_vivify_7 : decode cX9_vivify 7 = .ok (.invokestatic 392, 3) := by decide +kernel
theorem dX9_vivify_10 : decode cX9_vivify 10 = .ok (.iconst 2, 1) := by decide +kernel
theorem dX9_vivify_11 : decode cX9_vivify 11 = .ok (.if_icmp .ge 5, 3) := by decide +kernel
theorem dX9_vivify_14 : decode cX9_vivify 14 = .ok (.iload_n 2, 1) := by decide +kernel
theorem dX9_vivify_15 : decode cX9_vivify 15 = .ok (.ireturn, 1) := by decide +kernel
theorem dX9_vivify_16 : decode cX9_vivify 16 = .ok (.aload_n 0, 1) := by decide +kernel
theorem dX9_vivify_17 : decode cX9_vivify 17 = .ok (.iload_n 1, 1) := by decide +kernel
theorem dX9_vivify_18 : decode cX9_vivify 18 = .ok (.iconst 0, 1) := by decide +kernel
theorem dX9_vivify_19 : decode cX9_vivify 19 = .ok (.invokestatic 267, 3) := by decide +kernel
theorem dX9_vivify_22 : decode cX9_vivify 22 = .ok (.istore_n 3, 1) := by decide +kernel
theorem dX9_vivify_23 : decode cX9_vivify 23 = .ok (.iconst 0, 1) := by decide +kernel
theorem dX9_vivify_24 : decode cX9_vivify 24 = .ok (.istore 4, 2) := by decide +kernel
theorem dX9_vivify_26 : decode cX9_vivify 26 = .ok (.iconst 0, 1) := by decide +kernel
theorem dX9_vivify_27 : decode cX9_vivify 27 = .ok (.istore 5, 2) := by decide +kernel
theorem dX9_vivify_29 : decode cX9_vivify 29 = .ok (.iload 5, 2) := by decide +kernel
theorem dX9_vivify_31 : decode cX9_vivify 31 = .ok (.bipush 20, 2) := by decide +kernel
theorem dX9_vivify_33 : decode cX9_vivify 33 = .ok (.if_icmp .ge 72, 3) := by decide +kernel
theorem dX9_vivify_36 : decode cX9_vivify 36 = .ok (.iload_n 3, 1) := by decide +kernel
theorem dX9_vivify_37 : decode cX9_vivify 37 = .ok (.iconst (-1), 1) := by decide +kernel
theorem dX9_vivify_38 : decode cX9_vivify 38 = .ok (.if_icmp .eq 67, 3) := by decide +kernel
theorem dX9_vivify_41 : decode cX9_vivify 41 = .ok (.iload_n 2, 1) := by decide +kernel
theorem dX9_vivify_42 : decode cX9_vivify 42 = .ok (.iload 5, 2) := by decide +kernel
theorem dX9_vivify_44 : decode cX9_vivify 44 = .ok (.invokestatic 372, 3) := by decide +kernel
theorem dX9_vivify_47 : decode cX9_vivify 47 = .ok (.ifCond .eq 52, 3) := by decide +kernel
theorem dX9_vivify_50 : decode cX9_vivify 50 = .ok (.iload_n 3, 1) := by decide +kernel
theorem dX9_vivify_51 : decode cX9_vivify 51 = .ok (.iload 5, 2) := by decide +kernel
theorem dX9_vivify_53 : decode cX9_vivify 53 = .ok (.iconst 1, 1) := by decide +kernel
theorem dX9_vivify_54 : decode cX9_vivify 54 = .ok (.ixor, 1) := by decide +kernel
theorem dX9_vivify_55 : decode cX9_vivify 55 = .ok (.invokestatic 372, 3) := by decide +kernel
theorem dX9_vivify_58 : decode cX9_vivify 58 = .ok (.ifCond .eq 6, 3) := by decide +kernel
theorem dX9_vivify_61 : decode cX9_vivify 61 = .ok (.goto 38, 3) := by decide +kernel
theorem dX9_vivify_64 : decode cX9_vivify 64 = .ok (.iload 4, 2) := by decide +kernel
theorem dX9_vivify_66 : decode cX9_vivify 66 = .ok (.iconst 1, 1) := by decide +kernel
theorem dX9_vivify_67 : decode cX9_vivify 67 = .ok (.iload 5, 2) := by decide +kernel
theorem dX9_vivify_69 : decode cX9_vivify 69 = .ok (.ishl, 1) := by decide +kernel
theorem dX9_vivify_70 : decode cX9_vivify 70 = .ok (.ior, 1) := by decide +kernel
theorem dX9_vivify_71 : decode cX9_vivify 71 = .ok (.istore 4, 2) := by decide +kernel
theorem dX9_vivify_73 : decode cX9_vivify 73 = .ok (.iload_n 3, 1) := by decide +kernel
theorem dX9_vivify_74 : decode cX9_vivify 74 = .ok (.iload 5, 2) := by decide +kernel
theorem dX9_vivify_76 : decode cX9_vivify 76 = .ok (.invokestatic 372, 3) := by decide +kernel
theorem dX9_vivify_79 : decode cX9_vivify 79 = .ok (.ifCond .eq 6, 3) := by decide +kernel
theorem dX9_vivify_82 : decode cX9_vivify 82 = .ok (.iload 4, 2) := by decide +kernel
theorem dX9_vivify_84 : decode cX9_vivify 84 = .ok (.ireturn, 1) := by decide +kernel
theorem dX9_vivify_85 : decode cX9_vivify 85 = .ok (.aload_n 0, 1) := by decide +kernel
theorem dX9_vivify_86 : decode cX9_vivify 86 = .ok (.iload_n 1, 1) := by decide +kernel
theorem dX9_vivify_87 : decode cX9_vivify 87 = .ok (.iload_n 3, 1) := by decide +kernel
theorem dX9_vivify_88 : decode cX9_vivify 88 = .ok (.iconst 1, 1) := by decide +kernel
theorem dX9_vivify_89 : decode cX9_vivify 89 = .ok (.iload 5, 2) := by decide +kernel
theorem dX9_vivify_91 : decode cX9_vivify 91 = .ok (.iconst 1, 1) := by decide +kernel
theorem dX9_vivify_92 : decode cX9_vivify 92 = .ok (.ixor, 1) := by decide +kernel
theorem dX9_vivify_93 : decode cX9_vivify 93 = .ok (.ishl, 1) := by decide +kernel
theorem dX9_vivify_94 : decode cX9_vivify 94 = .ok (.ior, 1) := by decide +kernel
theorem dX9_vivify_95 : decode cX9_vivify 95 = .ok (.invokestatic 267, 3) := by decide +kernel
theorem dX9_vivify_98 : decode cX9_vivify 98 = .ok (.istore_n 3, 1) := by decide +kernel
theorem dX9_vivify_99 : decode cX9_vivify 99 = .ok (.iinc 5 1, 3) := by decide +kernel
theorem dX9_vivify_102 : decode cX9_vivify 102 = .ok (.goto (-73), 3) := by decide +kernel
theorem dX9_vivify_105 : decode cX9_vivify 105 = .ok (.iload_n 3, 1) := by decide +kernel
theorem dX9_vivify_106 : decode cX9_vivify 106 = .ok (.iconst (-1), 1) := by decide +kernel
theorem dX9_vivify_107 : decode cX9_vivify 107 = .ok (.if_icmp .ne 12, 3) := by decide +kernel
theorem dX9_vivify_110 : decode cX9_vivify 110 = .ok (.iload 4, 2) := by decide +kernel
theorem dX9_vivify_112 : decode cX9_vivify 112 = .ok (.ifCond .ne 7, 3) := by decide +kernel
theorem dX9_vivify_115 : decode cX9_vivify 115 = .ok (.iconst (-1), 1) := by decide +kernel
theorem dX9_vivify_116 : decode cX9_vivify 116 = .ok (.goto 5, 3) := by decide +kernel
theorem dX9_vivify_119 : decode cX9_vivify 119 = .ok (.iload 4, 2) := by decide +kernel
theorem dX9_vivify_121 : decode cX9_vivify 121 = .ok (.ireturn, 1) := by decide +kernel
abbrev mtX9_vivify : mj_T := (yX9_vivify.cls, cX9_vivify, 6, (some .int), mj_no, yX9_vivify.name)
abbrev kX9_vivify (k0 : Nat) (x1 : Int32) (g : mj_S) (M : mj_M) (q : Int32 → mj_M → Prop) : Prop := mj_CI yX9_vivify (.code yX9_vivify cX9_vivify 6 (some .int)) 2 [.ref (k0), .int (x1)] g M q
theorem kiX9_vivify : mj_cS yX9_vivify cX9_vivify 6 (some .int) 2 := ⟨⟨wd_630, wd_1, wd_631⟩, ⟨by decide +kernel, by decide +kernel, by decide +kernel⟩, Nat.le_of_ble_eq_true rfl⟩
def LX9_vivify_29 (k0 n0 : Nat) (x1 : Int32) (x2 : Int32) (x3 : Int32) (x4 : Int32) (x5 : Int32) (g : mj_S) (M : mj_M) (q : Int32 → mj_M → Prop) : Prop := ∀ d, 2 ≤ d → ∀ ex : Bool, mj_G mtX9_vivify (mj_rm d 0 0) (mj_Fi (mj_qI g q) mj_x0 0 0) ex 0 0 29 [(0, .ref (k0)), (1, .int (x1)), (2, .int (x2)), (3, .int (x3)), (4, .int (x4)), (5, .int (x5))] [] g M
theorem eX9_vivify {k0 n0 : Nat} {x1 : Int32} {g : mj_S} {M : mj_M} {q : Int32 → mj_M → Prop} (h0 : is0 g k0 n0) (h : ∃ (q1 : Int32 → mj_M → Prop), kX0_at (k0) (x1) g (M) q1 ∧ ∀ (v1 : Int32) (M1 : mj_M), q1 v1 M1 → (∃ (q2 : Int32 → mj_M → Prop), kJ6_bitCount_0f7a4 (v1) g (M1) q2 ∧ ∀ (v2 : Int32) (M2 : mj_M), q2 v2 M2 → (((2 : Int32) ≤ (v2) → ∃ (q3 : Int32 → mj_M → Prop), kX9_closure (k0) (x1) (0) g (M2) q3 ∧ ∀ (v3 : Int32) (M3 : mj_M), q3 v3 M3 → (LX9_vivify_29 k0 n0 (x1) (v1) (v3) (0) (0) g (M3) q)) ∧ (¬ (2 : Int32) ≤ (v2) → q (v1) (M2))))) : kX9_vivify (k0) (x1) g M q := by
  intro d hd; refine mj_enter (by decide +kernel) (Nat.le_of_ble_eq_true rfl) ?_
  generalize (false : Bool) = ex
  show mj_G mtX9_vivify (mj_rm d 0 0) (mj_Fi (mj_qI g q) mj_x0 0 0) ex 0 0 0 [(0, .ref (k0)), (1, .int (x1))] [] g M
  refine mg_aload_n dX9_vivify_0 rfl 0 rfl ?_
  refine mg_iload_n dX9_vivify_1 rfl 1 rfl ?_
  obtain ⟨q1, hC, hk⟩ := h
  refine mc_Vi [.int (x1)] [] dX9_vivify_2 wd_539 kiX0_at (Nat.le_of_ble_eq_true rfl) h0.1.1 h0.1.2 rfl (Nat.le_trans (Nat.le_of_ble_eq_true rfl) hd) hC (fun v1 M1 hq => ?_)
  replace h := hk v1 M1 hq
  refine mg_istore_n (ls' := [(2, .int (v1)), (0, .ref (k0)), (1, .int (x1))]) dX9_vivify_5 rfl (Nat.le_of_ble_eq_true rfl) rfl ?_
  refine mg_iload_n dX9_vivify_6 rfl 0 rfl ?_
  obtain ⟨q2, hC, hk⟩ := h
  refine mc_Si [.int (v1)] [] dX9_vivify_7 wd_582 kiJ6_bitCount_0f7a4 (Nat.le_of_ble_eq_true rfl) (Nat.le_trans (Nat.le_of_ble_eq_true rfl) hd) hC (fun v2 M2 hq => ?_)
  replace h := hk v2 M2 hq
  refine mg_iconst (v := 2) dX9_vivify_10 (by decide) ?_
  refine mg_icmp_ge (tgt := 16) dX9_vivify_11 (by decide) (fun hc => ?_) (fun hc => ?_)
  · replace h := h.1 hc
    refine mg_aload_n dX9_vivify_16 rfl 1 rfl ?_
    refine mg_iload_n dX9_vivify_17 rfl 2 rfl ?_
    refine mg_iconst (v := 0) dX9_vivify_18 (by decide) ?_
    obtain ⟨q3, hC, hk⟩ := h
    refine mc_Si [.ref (k0), .int (x1), .int (0)] [] dX9_vivify_19 wd_632 kiX9_closure (Nat.le_of_ble_eq_true rfl) (Nat.le_trans (Nat.le_of_ble_eq_true rfl) hd) hC (fun v3 M3 hq => ?_)
    replace h := hk v3 M3 hq
    refine mg_istore_n (ls' := [(3, .int (v3)), (2, .int (v1)), (0, .ref (k0)), (1, .int (x1))]) dX9_vivify_22 rfl (Nat.le_of_ble_eq_true rfl) rfl ?_
    refine mg_iconst (v := 0) dX9_vivify_23 (by decide) ?_
    refine mg_istore (ls' := [(4, .int (0)), (3, .int (v3)), (2, .int (v1)), (0, .ref (k0)), (1, .int (x1))]) dX9_vivify_24 (Nat.le_of_ble_eq_true rfl) rfl ?_
    refine mg_iconst (v := 0) dX9_vivify_26 (by decide) ?_
    refine mg_istore (ls' := [(5, .int (0)), (4, .int (0)), (3, .int (v3)), (2, .int (v1)), (0, .ref (k0)), (1, .int (x1))]) dX9_vivify_27 (Nat.le_of_ble_eq_true rfl) rfl ?_
    exact mg_pick [4, 5, 3, 2, 1, 0] rfl (h d hd ex)
  · replace h := h.2 hc
    refine mg_iload_n dX9_vivify_14 rfl 0 rfl ?_
    exact me_i dX9_vivify_15 rfl h
theorem bX9_vivify_29 {k0 n0 : Nat} {x1 : Int32} {x2 : Int32} {x3 : Int32} {x4 : Int32} {x5 : Int32} {g : mj_S} {M : mj_M} {q : Int32 → mj_M → Prop} (h0 : is0 g k0 n0) (h : ((20 : Int32) ≤ (x5) → (¬ (x3 : Int32) = (-1 : Int32) → q (x4) (M)) ∧ ((x3 : Int32) = (-1 : Int32) → (¬ (x4 : Int32) = 0 → q (x4) (M)) ∧ ((x4 : Int32) = 0 → q ((-1)) (M)))) ∧ (¬ (20 : Int32) ≤ (x5) → ((x3 : Int32) = (-1 : Int32) → (¬ (x3 : Int32) = (-1 : Int32) → q (x4) (M)) ∧ ((x3 : Int32) = (-1 : Int32) → (¬ (x4 : Int32) = 0 → q (x4) (M)) ∧ ((x4 : Int32) = 0 → q ((-1)) (M)))) ∧ (¬ (x3 : Int32) = (-1 : Int32) → ∃ (q1 : Int32 → mj_M → Prop), kX9_contains (x2) (x5) g (M) q1 ∧ ∀ (v1 : Int32) (M1 : mj_M), q1 v1 M1 → (((v1 : Int32) = 0 → LX9_vivify_29 k0 n0 (x1) (x2) (x3) (x4) (x5 + 1) g (M1) q) ∧ (¬ (v1 : Int32) = 0 → ∃ (q2 : Int32 → mj_M → Prop), kX9_contains (x3) ((x5) ^^^ (1 : Int32)) g (M1) q2 ∧ ∀ (v2 : Int32) (M2 : mj_M), q2 v2 M2 → (((v2 : Int32) = 0 → ∃ (q3 : Int32 → mj_M → Prop), kX9_contains (x3) (x5) g (M2) q3 ∧ ∀ (v3 : Int32) (M3 : mj_M), q3 v3 M3 → (((v3 : Int32) = 0 → ∃ (q4 : Int32 → mj_M → Prop), kX9_closure (k0) (x1) ((x3) ||| ((1 : Int32) <<< (((x5) ^^^ (1 : Int32)) &&& 31))) g (M3) q4 ∧ ∀ (v4 : Int32) (M4 : mj_M), q4 v4 M4 → (LX9_vivify_29 k0 n0 (x1) (x2) (v4) ((x4) ||| ((1 : Int32) <<< ((x5) &&& 31))) (x5 + 1) g (M4) q)) ∧ (¬ (v3 : Int32) = 0 → q ((x4) ||| ((1 : Int32) <<< ((x5) &&& 31))) (M3)))) ∧ (¬ (v2 : Int32) = 0 → LX9_vivify_29 k0 n0 (x1) (x2) (x3) (x4) (x5 + 1) g (M2) q))))))) : LX9_vivify_29 k0 n0 x1 x2 x3 x4 x5 g M q := by
  intro d hd ex
  refine mg_iload dX9_vivify_29 5 rfl ?_
  refine mg_bipush (v := 20) dX9_vivify_31 (by decide) ?_
  refine mg_icmp_ge (tgt := 105) dX9_vivify_33 (by decide) (fun hc => ?_) (fun hc => ?_)
  · replace h := h.1 hc
    refine mg_iload_n dX9_vivify_105 rfl 3 rfl ?_
    refine mg_iconst (v := (-1)) dX9_vivify_106 (by decide) ?_
    refine mg_icmp_ne (tgt := 119) dX9_vivify_107 (by decide) (fun hc => ?_) (fun hc => ?_)
    · replace h := h.1 hc
      refine mg_iload dX9_vivify_119 4 rfl ?_
      exact me_i dX9_vivify_121 rfl h
    · replace h := h.2 hc
      refine mg_iload dX9_vivify_110 4 rfl ?_
      refine mg_if_ne (tgt := 119) dX9_vivify_112 (by decide) (fun hc => ?_) (fun hc => ?_)
      · replace h := h.1 hc
        refine mg_iload dX9_vivify_119 4 rfl ?_
        exact me_i dX9_vivify_121 rfl h
      · replace h := h.2 hc
        refine mg_iconst (v := (-1)) dX9_vivify_115 (by decide) ?_
        refine mg_goto (tgt := 121) dX9_vivify_116 (by decide) ?_
        exact me_i dX9_vivify_121 rfl h
  · replace h := h.2 hc
    refine mg_iload_n dX9_vivify_36 rfl 3 rfl ?_
    refine mg_iconst (v := (-1)) dX9_vivify_37 (by decide) ?_
    refine mg_icmp_eq (tgt := 105) dX9_vivify_38 (by decide) (fun hc => ?_) (fun hc => ?_)
    · replace h := h.1 hc
      refine mg_iload_n dX9_vivify_105 rfl 3 rfl ?_
      refine mg_iconst (v := (-1)) dX9_vivify_106 (by decide) ?_
      refine mg_icmp_ne (tgt := 119) dX9_vivify_107 (by decide) (fun hc => ?_) (fun hc => ?_)
      · replace h := h.1 hc
        refine mg_iload dX9_vivify_119 4 rfl ?_
        exact me_i dX9_vivify_121 rfl h
      · replace h := h.2 hc
        refine mg_iload dX9_vivify_110 4 rfl ?_
        refine mg_if_ne (tgt := 119) dX9_vivify_112 (by decide) (fun hc => ?_) (fun hc => ?_)
        · replace h := h.1 hc
          refine mg_iload dX9_vivify_119 4 rfl ?_
          exact me_i dX9_vivify_121 rfl h
        · replace h := h.2 hc
          refine mg_iconst (v := (-1)) dX9_vivify_115 (by decide) ?_
          refine mg_goto (tgt := 121) dX9_vivify_116 (by decide) ?_
          exact me_i dX9_vivify_121 rfl h
    · replace h := h.2 hc
      refine mg_iload_n dX9_vivify_41 rfl 2 rfl ?_
      refine mg_iload dX9_vivify_42 5 rfl ?_
      obtain ⟨q1, hC, hk⟩ := h
      refine mc_Si [.int (x2), .int (x5)] [] dX9_vivify_44 wd_540 kiX9_contains (Nat.le_of_ble_eq_true rfl) (Nat.le_trans (Nat.le_of_ble_eq_true rfl) hd) hC (fun v1 M1 hq => ?_)
      replace h := hk v1 M1 hq
      refine mg_if_eq (tgt := 99) dX9_vivify_47 (by decide) (fun hc => ?_) (fun hc => ?_)
      · replace h := h.1 hc
        refine mg_iinc (v := x5 + 1) (ls' := [(5, .int (x5 + 1)), (0, .ref (k0)), (1, .int (x1)), (2, .int (x2)), (3, .int (x3)), (4, .int (x4))]) dX9_vivify_99 5 rfl rfl (Nat.le_of_ble_eq_true rfl) rfl ?_
        refine mg_goto (tgt := 29) dX9_vivify_102 (by decide) ?_
        exact mg_pick [1, 2, 3, 4, 5, 0] rfl (h d hd ex)
      · replace h := h.2 hc
        refine mg_iload_n dX9_vivify_50 rfl 3 rfl ?_
        refine mg_iload dX9_vivify_51 5 rfl ?_
        refine mg_iconst (v := 1) dX9_vivify_53 (by decide) ?_
        refine mg_ixor dX9_vivify_54 ?_
        obtain ⟨q2, hC, hk⟩ := h
        refine mc_Si [.int (x3), .int ((x5) ^^^ (1 : Int32))] [] dX9_vivify_55 wd_540 kiX9_contains (Nat.le_of_ble_eq_true rfl) (Nat.le_trans (Nat.le_of_ble_eq_true rfl) hd) hC (fun v2 M2 hq => ?_)
        replace h := hk v2 M2 hq
        refine mg_if_eq (tgt := 64) dX9_vivify_58 (by decide) (fun hc => ?_) (fun hc => ?_)
        · replace h := h.1 hc
          refine mg_iload dX9_vivify_64 4 rfl ?_
          refine mg_iconst (v := 1) dX9_vivify_66 (by decide) ?_
          refine mg_iload dX9_vivify_67 5 rfl ?_
          refine mg_ishl dX9_vivify_69 ?_
          refine mg_ior dX9_vivify_70 ?_
          refine mg_istore (ls' := [(4, .int ((x4) ||| ((1 : Int32) <<< ((x5) &&& 31)))), (0, .ref (k0)), (1, .int (x1)), (2, .int (x2)), (3, .int (x3)), (5, .int (x5))]) dX9_vivify_71 (Nat.le_of_ble_eq_true rfl) rfl ?_
          refine mg_iload_n dX9_vivify_73 rfl 4 rfl ?_
          refine mg_iload dX9_vivify_74 5 rfl ?_
          obtain ⟨q3, hC, hk⟩ := h
          refine mc_Si [.int (x3), .int (x5)] [] dX9_vivify_76 wd_540 kiX9_contains (Nat.le_of_ble_eq_true rfl) (Nat.le_trans (Nat.le_of_ble_eq_true rfl) hd) hC (fun v3 M3 hq => ?_)
          replace h := hk v3 M3 hq
          refine mg_if_eq (tgt := 85) dX9_vivify_79 (by decide) (fun hc => ?_) (fun hc => ?_)
          · replace h := h.1 hc
            refine mg_aload_n dX9_vivify_85 rfl 1 rfl ?_
            refine mg_iload_n dX9_vivify_86 rfl 2 rfl ?_
            refine mg_iload_n dX9_vivify_87 rfl 4 rfl ?_
            refine mg_iconst (v := 1) dX9_vivify_88 (by decide) ?_
            refine mg_iload dX9_vivify_89 5 rfl ?_
            refine mg_iconst (v := 1) dX9_vivify_91 (by decide) ?_
            refine mg_ixor dX9_vivify_92 ?_
            refine mg_ishl dX9_vivify_93 ?_
            refine mg_ior dX9_vivify_94 ?_
            obtain ⟨q4, hC, hk⟩ := h
            refine mc_Si [.ref (k0), .int (x1), .int ((x3) ||| ((1 : Int32) <<< (((x5) ^^^ (1 : Int32)) &&& 31)))] [] dX9_vivify_95 wd_632 kiX9_closure (Nat.le_of_ble_eq_true rfl) (Nat.le_trans (Nat.le_of_ble_eq_true rfl) hd) hC (fun v4 M4 hq => ?_)
            replace h := hk v4 M4 hq
            refine mg_istore_n (ls' := [(3, .int (v4)), (4, .int ((x4) ||| ((1 : Int32) <<< ((x5) &&& 31)))), (0, .ref (k0)), (1, .int (x1)), (2, .int (x2)), (5, .int (x5))]) dX9_vivify_98 rfl (Nat.le_of_ble_eq_true rfl) rfl ?_
            refine mg_iinc (v := x5 + 1) (ls' := [(5, .int (x5 + 1)), (3, .int (v4)), (4, .int ((x4) ||| ((1 : Int32) <<< ((x5) &&& 31)))), (0, .ref (k0)), (1, .int (x1)), (2, .int (x2))]) dX9_vivify_99 5 rfl rfl (Nat.le_of_ble_eq_true rfl) rfl ?_
            refine mg_goto (tgt := 29) dX9_vivify_102 (by decide) ?_
            exact mg_pick [3, 4, 5, 1, 2, 0] rfl (h d hd ex)
          · replace h := h.2 hc
            refine mg_iload dX9_vivify_82 0 rfl ?_
            exact me_i dX9_vivify_84 rfl h
        · replace h := h.2 hc
          refine mg_goto (tgt := 99) dX9_vivify_61 (by decide) ?_
          refine mg_iinc (v := x5 + 1) (ls' := [(5, .int (x5 + 1)), (0, .ref (k0)), (1, .int (x1)), (2, .int (x2)), (3, .int (x3)), (4, .int (x4))]) dX9_vivify_99 5 rfl rfl (Nat.le_of_ble_eq_true rfl) rfl ?_
          refine mg_goto (tgt := 29) dX9_vivify_102 (by decide) ?_
          exact mg_pick [1, 2, 3, 4, 5, 0] rfl (h d hd ex)
theorem dX9_countModels_0 : decode cX9_countModels 0 = .ok (.iconst 0, 1) := by decide +kernel
theorem dX9_countModels_1 : decode cX9_countModels 1 = .ok (.istore_n 2, 1) := by decide +kernel
theorem dX9_countModels_2 : decode cX9_countModels 2 = .ok (.iconst 0, 1) := by decide +kernel
theorem dX9_countModels_3 : decode cX9_countModels 3 = .ok (.istore_n 3, 1) := by decide +kernel
theorem dX9_countModels_4 : decode cX9_countModels 4 = .ok (.iconst 0, 1) := by decide +kernel
theorem dX9_countModels_5 : decode cX9_countModels 5 = .ok (.istore 4, 2) := by decide +kernel
theorem dX9_countModels_7 : decode cX9_countModels 7 = .ok (.iload 4, 2) := by decide +kernel
theorem dX9_countModels_9 : decode cX9_countModels 9 = .ok (.sipush 1024, 3) := by decide +kernel
theorem dX9_countModels_12 : decode cX9_countModels 12 = .ok (.if_icmp .ge 35, 3) := by decide +kernel
theorem dX9_countModels_15 : decode cX9_countModels 15 = .ok (.aload_n 0, 1) := by decide +kernel
theorem dX9_countModels_16 : decode cX9_countModels 16 = .ok (.iload_n 3, 1) := by decide +kernel
theorem dX9_countModels_17 : decode cX9_countModels 17 = .ok (.invokestatic 303, 3) := by decide +kernel
theorem dX9_countModels_20 : decode cX9_countModels 20 = .ok (.invokevirtual 306, 3) := by decide +kernel
theorem dX9_countModels_23 : decode cX9_countModels 23 = .ok (.ifCond .eq 6, 3) := by decide +kernel
theorem dX9_countModels_26 : decode cX9_countModels 26 = .ok (.iinc 2 1, 3) := by decide +kernel
theorem dX9_countModels_29 : decode cX9_countModels 29 = .ok (.iload_n 3, 1) := by decide +kernel
theorem dX9_countModels_30 : decode cX9_countModels 30 = .ok (.iload_n 1, 1) := by decide +kernel
theorem dX9_countModels_31 : decode cX9_countModels 31 = .ok (.invokestatic 316, 3) := by decide +kernel
theorem dX9_countModels_34 : decode cX9_countModels 34 = .ok (.istore_n 3, 1) := by decide +kernel
theorem dX9_countModels_35 : decode cX9_countModels 35 = .ok (.iload_n 3, 1) := by decide +kernel
theorem dX9_countModels_36 : decode cX9_countModels 36 = .ok (.ifCond .ne 5, 3) := by decide +kernel
theorem dX9_countModels_39 : decode cX9_countModels 39 = .ok (.iload_n 2, 1) := by decide +kernel
theorem dX9_countModels_40 : decode cX9_countModels 40 = .ok (.ireturn, 1) := by decide +kernel
theorem dX9_countModels_41 : decode cX9_countModels 41 = .ok (.iinc 4 1, 3) := by decide +kernel
theorem dX9_countModels_44 : decode cX9_countModels 44 = .ok (.goto (-37), 3) := by decide +kernel
theorem dX9_countModels_47 : decode cX9_countModels 47 = .ok (.iload_n 2, 1) := by decide +kernel
theorem dX9_countModels_48 : decode cX9_countModels 48 = .ok (.ireturn, 1) := by decide +kernel
abbrev mtX9_countModels : mj_T := (yX9_countModels.cls, cX9_countModels, 5, (some .int), mj_no, yX9_countModels.name)
abbrev kX9_countModels (k0 : Nat) (x1 : Int32) (g : mj_S) (M : mj_M) (q : Int32 → mj_M → Prop) : Prop := mj_CI yX9_countModels (.code yX9_countModels cX9_countModels 5 (some .int)) 3 [.ref (k0), .int (x1)] g M q
theorem kiX9_countModels : mj_cS yX9_countModels cX9_countModels 5 (some .int) 2 := ⟨⟨wd_369, wd_1, wd_370⟩, ⟨by decide +kernel, by decide +kernel, by decide +kernel⟩, Nat.le_of_ble_eq_true rfl⟩
def LX9_countModels_7 (k0 n0 : Nat) (x1 : Int32) (x2 : Int32) (x3 : Int32) (x4 : Int32) (g : mj_S) (M : mj_M) (q : Int32 → mj_M → Prop) : Prop := ∀ d, 3 ≤ d → ∀ ex : Bool, mj_G mtX9_countModels (mj_rm d 0 0) (mj_Fi (mj_qI g q) mj_x0 0 0) ex 0 0 7 [(0, .ref (k0)), (1, .int (x1)), (2, .int (x2)), (3, .int (x3)), (4, .int (x4))] [] g M
theorem eX9_countModels {k0 n0 : Nat} {x1 : Int32} {g : mj_S} {M : mj_M} {q : Int32 → mj_M → Prop} (h0 : is0 g k0 n0) (h : LX9_countModels_7 k0 n0 (x1) (0) (0) (0) g (M) q) : kX9_countModels (k0) (x1) g M q := by
  intro d hd; refine mj_enter (by decide +kernel) (Nat.le_of_ble_eq_true rfl) ?_
  generalize (false : Bool) = ex
  show mj_G mtX9_countModels (mj_rm d 0 0) (mj_Fi (mj_qI g q) mj_x0 0 0) ex 0 0 0 [(0, .ref (k0)), (1, .int (x1))] [] g M
  refine mg_iconst (v := 0) dX9_countModels_0 (by decide) ?_
  refine mg_istore_n (ls' := [(2, .int (0)), (0, .ref (k0)), (1, .int (x1))]) dX9_countModels_1 rfl (Nat.le_of_ble_eq_true rfl) rfl ?_
  refine mg_iconst (v := 0) dX9_countModels_2 (by decide) ?_
  refine mg_istore_n (ls' := [(3, .int (0)), (2, .int (0)), (0, .ref (k0)), (1, .int (x1))]) dX9_countModels_3 rfl (Nat.le_of_ble_eq_true rfl) rfl ?_
  refine mg_iconst (v := 0) dX9_countModels_4 (by decide) ?_
  refine mg_istore (ls' := [(4, .int (0)), (3, .int (0)), (2, .int (0)), (0, .ref (k0)), (1, .int (x1))]) dX9_countModels_5 (Nat.le_of_ble_eq_true rfl) rfl ?_
  exact mg_pick [3, 4, 2, 1, 0] rfl (h d hd ex)
theorem bX9_countModels_7 {k0 n0 : Nat} {x1 : Int32} {x2 : Int32} {x3 : Int32} {x4 : Int32} {g : mj_S} {M : mj_M} {q : Int32 → mj_M → Prop} (h0 : is0 g k0 n0) (h : ((1024 : Int32) ≤ (x4) → q (x2) (M)) ∧ (¬ (1024 : Int32) ≤ (x4) → ∃ (q1 : Int32 → mj_M → Prop), kX9_trueLiterals (x3) g (M) q1 ∧ ∀ (v1 : Int32) (M1 : mj_M), q1 v1 M1 → (∃ (q2 : Int32 → mj_M → Prop), kX0_isSatisfied (k0) (v1) g (M1) q2 ∧ ∀ (v2 : Int32) (M2 : mj_M), q2 v2 M2 → (((v2 : Int32) = 0 → ∃ (q3 : Int32 → mj_M → Prop), kX9_nextSubset (x3) (x1) g (M2) q3 ∧ ∀ (v3 : Int32) (M3 : mj_M), q3 v3 M3 → ((¬ (v3 : Int32) = 0 → LX9_countModels_7 k0 n0 (x1) (x2) (v3) (x4 + 1) g (M3) q) ∧ ((v3 : Int32) = 0 → q (x2) (M3)))) ∧ (¬ (v2 : Int32) = 0 → ∃ (q4 : Int32 → mj_M → Prop), kX9_nextSubset (x3) (x1) g (M2) q4 ∧ ∀ (v4 : Int32) (M4 : mj_M), q4 v4 M4 → ((¬ (v4 : Int32) = 0 → LX9_countModels_7 k0 n0 (x1) (x2 + 1) (v4) (x4 + 1) g (M4) q) ∧ ((v4 : Int32) = 0 → q (x2 + 1) (M4)))))))) : LX9_countModels_7 k0 n0 x1 x2 x3 x4 g M q := by
  intro d hd ex
  refine mg_iload dX9_countModels_7 4 rfl ?_
  refine mg_sipush (v := 1024) dX9_countModels_9 (by decide) ?_
  refine mg_icmp_ge (tgt := 47) dX9_countModels_12 (by decide) (fun hc => ?_) (fun hc => ?_)
  · replace h := h.1 hc
    refine mg_iload_n dX9_countModels_47 rfl 2 rfl ?_
    exact me_i dX9_countModels_48 rfl h
  · replace h := h.2 hc
    refine mg_aload_n dX9_countModels_15 rfl 0 rfl ?_
    refine mg_iload_n dX9_countModels_16 rfl 3 rfl ?_
    obtain ⟨q1, hC, hk⟩ := h
    refine mc_Si [.int (x3)] [.ref (k0)] dX9_countModels_17 wd_326 kiX9_trueLiterals (Nat.le_of_ble_eq_true rfl) (Nat.le_trans (Nat.le_of_ble_eq_true rfl) hd) hC (fun v1 M1 hq => ?_)
    replace h := hk v1 M1 hq
    obtain ⟨q2, hC, hk⟩ := h
    refine mc_Vi [.int (v1)] [] dX9_countModels_20 wd_339 kiX0_isSatisfied (Nat.le_of_ble_eq_true rfl) h0.1.1 h0.1.2 rfl (Nat.le_trans (Nat.le_of_ble_eq_true rfl) hd) hC (fun v2 M2 hq => ?_)
    replace h := hk v2 M2 hq
    refine mg_if_eq (tgt := 29) dX9_countModels_23 (by decide) (fun hc => ?_) (fun hc => ?_)
    · replace h := h.1 hc
      refine mg_iload_n dX9_countModels_29 rfl 3 rfl ?_
      refine mg_iload_n dX9_countModels_30 rfl 1 rfl ?_
      obtain ⟨q3, hC, hk⟩ := h
      refine mc_Si [.int (x3), .int (x1)] [] dX9_countModels_31 wd_357 kiX9_nextSubset (Nat.le_of_ble_eq_true rfl) (Nat.le_trans (Nat.le_of_ble_eq_true rfl) hd) hC (fun v3 M3 hq => ?_)
      replace h := hk v3 M3 hq
      refine mg_istore_n (ls' := [(3, .int (v3)), (0, .ref (k0)), (1, .int (x1)), (2, .int (x2)), (4, .int (x4))]) dX9_countModels_34 rfl (Nat.le_of_ble_eq_true rfl) rfl ?_
      refine mg_iload_n dX9_countModels_35 rfl 0 rfl ?_
      refine mg_if_ne (tgt := 41) dX9_countModels_36 (by decide) (fun hc => ?_) (fun hc => ?_)
      · replace h := h.1 hc
        refine mg_iinc (v := x4 + 1) (ls' := [(4, .int (x4 + 1)), (3, .int (v3)), (0, .ref (k0)), (1, .int (x1)), (2, .int (x2))]) dX9_countModels_41 4 rfl rfl (Nat.le_of_ble_eq_true rfl) rfl ?_
        refine mg_goto (tgt := 7) dX9_countModels_44 (by decide) ?_
        exact mg_pick [2, 3, 4, 1, 0] rfl (h d hd ex)
      · replace h := h.2 hc
        refine mg_iload_n dX9_countModels_39 rfl 3 rfl ?_
        exact me_i dX9_countModels_40 rfl h
    · replace h := h.2 hc
      refine mg_iinc (v := x2 + 1) (ls' := [(2, .int (x2 + 1)), (0, .ref (k0)), (1, .int (x1)), (3, .int (x3)), (4, .int (x4))]) dX9_countModels_26 2 rfl rfl (Nat.le_of_ble_eq_true rfl) rfl ?_
      refine mg_iload_n dX9_countModels_29 rfl 3 rfl ?_
      refine mg_iload_n dX9_countModels_30 rfl 2 rfl ?_
      obtain ⟨q4, hC, hk⟩ := h
      refine mc_Si [.int (x3), .int (x1)] [] dX9_countModels_31 wd_357 kiX9_nextSubset (Nat.le_of_ble_eq_true rfl) (Nat.le_trans (Nat.le_of_ble_eq_true rfl) hd) hC (fun v4 M4 hq => ?_)
      replace h := hk v4 M4 hq
      refine mg_istore_n (ls' := [(3, .int (v4)), (2, .int (x2 + 1)), (0, .ref (k0)), (1, .int (x1)), (4, .int (x4))]) dX9_countModels_34 rfl (Nat.le_of_ble_eq_true rfl) rfl ?_
      refine mg_iload_n dX9_countModels_35 rfl 0 rfl ?_
      refine mg_if_ne (tgt := 41) dX9_countModels_36 (by decide) (fun hc => ?_) (fun hc => ?_)
      · replace h := h.1 hc
        refine mg_iinc (v := x4 + 1) (ls' := [(4, .int (x4 + 1)), (3, .int (v4)), (2, .int (x2 + 1)), (0, .ref (k0)), (1, .int (x1))]) dX9_countModels_41 4 rfl rfl (Nat.le_of_ble_eq_true rfl) rfl ?_
        refine mg_goto (tgt := 7) dX9_countModels_44 (by decide) ?_
        exact mg_pick [3, 4, 2, 1, 0] rfl (h d hd ex)
      · replace h := h.2 hc
        refine mg_iload_n dX9_countModels_39 rfl 1 rfl ?_
        exact me_i dX9_countModels_40 rfl h
theorem dX9_mixedClauses_0 : decode cX9_mixedClauses 0 = .ok (.lload_n 0, 1) := by decide +kernel
theorem dX9_mixedClauses_1 : decode cX9_mixedClauses 1 = .ok (.aload_n 2, 1) := by decide +kernel
theorem dX9_mixedClauses_2 : decode cX9_mixedClauses 2 = .ok (.invokevirtual 92, 3) := by decide +kernel
theorem dX9_mixedClauses_5 : decode cX9_mixedClauses 5 = .ok (.i2l, 1) := by decide +kernel
theorem dX9_mixedClauses_6 : decode cX9_mixedClauses 6 = .ok (.invokestatic 330, 3) := by decide +kernel
theorem dX9_mixedClauses_9 : decode cX9_mixedClauses 9 = .ok (.lstore_n 3, 1) := by decide +kernel
theorem dX9_mixedClauses_10 : decode cX9_mixedClauses 10 = .ok (.iconst 0, 1) := by decide +kernel
theorem dX9_mixedClauses_11 : decode cX9_mixedClauses 11 = .ok (.istore 5, 2) := by decide +kernel
theorem dX9_mixedClauses_13 : decode cX9_mixedClauses 13 = .ok (.iload 5, 2) := by decide +kernel
theorem dX9_mixedClauses_15 : decode cX9_mixedClauses 15 = .ok (.aload_n 2, 1) := by decide +kernel
theorem dX9_mixedClauses_16 : decode cX9_mixedClauses 16 = .ok (.invokevirtual 92, 3) := by decide +kernel
theorem dX9_mixedClauses_19 : decode cX9_mixedClauses 19 = .ok (.if_icmp .ge 20, 3) := by decide +kernel
theorem dX9_mixedClauses_22 : decode cX9_mixedClauses 22 = .ok (.lload_n 3, 1) := by decide +kernel
theorem dX9_mixedClauses_23 : decode cX9_mixedClauses 23 = .ok (.aload_n 2, 1) := by decide +kernel
theorem dX9_mixedClauses_24 : decode cX9_mixedClauses 24 = .ok (.iload 5, 2) := by decide +kernel
theorem dX9_mixedClauses_26 : decode cX9_mixedClauses 26 = .ok (.invokevirtual 112, 3) := by decide +kernel
theorem dX9_mixedClauses_29 : decode cX9_mixedClauses 29 = .ok (.invokestatic 338, 3) := by decide +kernel
theorem dX9_mixedClauses_32 : decode cX9_mixedClauses 32 = .ok (.lstore_n 3, 1) := by decide +kernel
theorem dX9_mixedClauses_33 : decode cX9_mixedClauses 33 = .ok (.iinc 5 1, 3) := by decide +kernel
theorem dX9_mixedClauses_36 : decode cX9_mixedClauses 36 = .ok (.goto (-23), 3) := by decide +kernel
theorem dX9_mixedClauses_39 : decode cX9_mixedClauses 39 = .ok (.lload_n 3, 1) := by decide +kernel
theorem dX9_mixedClauses_40 : decode cX9_mixedClauses 40 = .ok (.lreturn, 1) := by decide +kernel
abbrev mtX9_mixedClauses : mj_T := (yX9_mixedClauses.cls, cX9_mixedClauses, 6, (some .long), mj_no, yX9_mixedClauses.name)
abbrev kX9_mixedClauses (x0 : Int64) (k2 : Nat) (g : mj_S) (M : mj_M) (q : Int64 → mj_M → Prop) : Prop := mj_CL yX9_mixedClauses (.code yX9_mixedClauses cX9_mixedClauses 6 (some .long)) 3 [.long (x0), .ref (k2)] g M q
theorem kiX9_mixedClauses : mj_cS yX9_mixedClauses cX9_mixedClauses 6 (some .long) 2 := ⟨⟨wd_647, wd_1, wd_648⟩, ⟨by decide +kernel, by decide +kernel, by decide +kernel⟩, Nat.le_of_ble_eq_true rfl⟩
def LX9_mixedClauses_13 (k2 n2 : Nat) (x3 : Int64) (x5 : Int32) (g : mj_S) (M : mj_M) (q : Int64 → mj_M → Prop) : Prop := ∀ d, 3 ≤ d → ∀ ex : Bool, mj_G mtX9_mixedClauses (mj_rm d 0 0) (mj_Fi (mj_qL g q) mj_x0 0 0) ex 0 0 13 [(2, .ref (k2)), (3, .long (x3)), (5, .int (x5))] [] g M
theorem eX9_mixedClauses {x0 : Int64} {k2 n2 : Nat} {g : mj_S} {M : mj_M} {q : Int64 → mj_M → Prop} (h2 : is0 g k2 n2) (h : ∃ (q1 : Int32 → mj_M → Prop), kX0_size (k2) g (M) q1 ∧ ∀ (v1 : Int32) (M1 : mj_M), q1 v1 M1 → (∃ (q2 : Int64 → mj_M → Prop), kX9_mixed (x0) (Int32.toInt64 (v1)) g (M1) q2 ∧ ∀ (v2 : Int64) (M2 : mj_M), q2 v2 M2 → (LX9_mixedClauses_13 k2 n2 (v2) (0) g (M2) q))) : kX9_mixedClauses (x0) (k2) g M q := by
  intro d hd; refine mj_enter (by decide +kernel) (Nat.le_of_ble_eq_true rfl) ?_
  generalize (false : Bool) = ex
  show mj_G mtX9_mixedClauses (mj_rm d 0 0) (mj_Fi (mj_qL g q) mj_x0 0 0) ex 0 0 0 [(0, .long (x0)), (2, .ref (k2))] [] g M
  refine mg_lload_n dX9_mixedClauses_0 rfl 0 rfl ?_
  refine mg_aload_n dX9_mixedClauses_1 rfl 1 rfl ?_
  obtain ⟨q1, hC, hk⟩ := h
  refine mc_Vi [] [.long (x0)] dX9_mixedClauses_2 wd_260 kiX0_size (Nat.le_of_ble_eq_true rfl) h2.1.1 h2.1.2 rfl (Nat.le_trans (Nat.le_of_ble_eq_true rfl) hd) hC (fun v1 M1 hq => ?_)
  replace h := hk v1 M1 hq
  refine mg_i2l dX9_mixedClauses_5 ?_
  obtain ⟨q2, hC, hk⟩ := h
  refine mc_Sl [.long (x0), .long (Int32.toInt64 (v1))] [] dX9_mixedClauses_6 wd_642 kiX9_mixed (Nat.le_of_ble_eq_true rfl) (Nat.le_trans (Nat.le_of_ble_eq_true rfl) hd) hC (fun v2 M2 hq => ?_)
  replace h := hk v2 M2 hq
  refine mg_lstore_n (ls' := [(3, .long (v2)), (0, .long (x0)), (2, .ref (k2))]) dX9_mixedClauses_9 rfl (Nat.le_of_ble_eq_true rfl) rfl ?_
  refine mg_iconst (v := 0) dX9_mixedClauses_10 (by decide) ?_
  refine mg_istore (ls' := [(5, .int (0)), (3, .long (v2)), (0, .long (x0)), (2, .ref (k2))]) dX9_mixedClauses_11 (Nat.le_of_ble_eq_true rfl) rfl ?_
  exact mg_pick [3, 1, 0] rfl (h d hd ex)
theorem bX9_mixedClauses_13 {k2 n2 : Nat} {x3 : Int64} {x5 : Int32} {g : mj_S} {M : mj_M} {q : Int64 → mj_M → Prop} (h2 : is0 g k2 n2) (h : ∃ (q1 : Int32 → mj_M → Prop), kX0_size (k2) g (M) q1 ∧ ∀ (v1 : Int32) (M1 : mj_M), q1 v1 M1 → (((v1 : Int32) ≤ (x5) → q (x3) (M1)) ∧ (¬ (v1 : Int32) ≤ (x5) → ∃ (q2 : Int32 → mj_M → Prop), kX0_at (k2) (x5) g (M1) q2 ∧ ∀ (v2 : Int32) (M2 : mj_M), q2 v2 M2 → (∃ (q3 : Int64 → mj_M → Prop), kX9_mixedSet (x3) (v2) g (M2) q3 ∧ ∀ (v3 : Int64) (M3 : mj_M), q3 v3 M3 → (LX9_mixedClauses_13 k2 n2 (v3) (x5 + 1) g (M3) q))))) : LX9_mixedClauses_13 k2 n2 x3 x5 g M q := by
  intro d hd ex
  refine mg_iload dX9_mixedClauses_13 2 rfl ?_
  refine mg_aload_n dX9_mixedClauses_15 rfl 0 rfl ?_
  obtain ⟨q1, hC, hk⟩ := h
  refine mc_Vi [] [.int (x5)] dX9_mixedClauses_16 wd_260 kiX0_size (Nat.le_of_ble_eq_true rfl) h2.1.1 h2.1.2 rfl (Nat.le_trans (Nat.le_of_ble_eq_true rfl) hd) hC (fun v1 M1 hq => ?_)
  replace h := hk v1 M1 hq
  refine mg_icmp_ge (tgt := 39) dX9_mixedClauses_19 (by decide) (fun hc => ?_) (fun hc => ?_)
  · replace h := h.1 hc
    refine mg_lload_n dX9_mixedClauses_39 rfl 1 rfl ?_
    exact me_l dX9_mixedClauses_40 rfl h
  · replace h := h.2 hc
    refine mg_lload_n dX9_mixedClauses_22 rfl 1 rfl ?_
    refine mg_aload_n dX9_mixedClauses_23 rfl 0 rfl ?_
    refine mg_iload dX9_mixedClauses_24 2 rfl ?_
    obtain ⟨q2, hC, hk⟩ := h
    refine mc_Vi [.int (x5)] [.long (x3)] dX9_mixedClauses_26 wd_539 kiX0_at (Nat.le_of_ble_eq_true rfl) h2.1.1 h2.1.2 rfl (Nat.le_trans (Nat.le_of_ble_eq_true rfl) hd) hC (fun v2 M2 hq => ?_)
    replace h := hk v2 M2 hq
    obtain ⟨q3, hC, hk⟩ := h
    refine mc_Sl [.long (x3), .int (v2)] [] dX9_mixedClauses_29 wd_649 kiX9_mixedSet (Nat.le_of_ble_eq_true rfl) (Nat.le_trans (Nat.le_of_ble_eq_true rfl) hd) hC (fun v3 M3 hq => ?_)
    replace h := hk v3 M3 hq
    refine mg_lstore_n (ls' := [(3, .long (v3)), (2, .ref (k2)), (5, .int (x5))]) dX9_mixedClauses_32 rfl (Nat.le_of_ble_eq_true rfl) rfl ?_
    refine mg_iinc (v := x5 + 1) (ls' := [(5, .int (x5 + 1)), (3, .long (v3)), (2, .ref (k2))]) dX9_mixedClauses_33 2 rfl rfl (Nat.le_of_ble_eq_true rfl) rfl ?_
    refine mg_goto (tgt := 13) dX9_mixedClauses_36 (by decide) ?_
    exact mg_pick [2, 1, 0] rfl (h d hd ex)
