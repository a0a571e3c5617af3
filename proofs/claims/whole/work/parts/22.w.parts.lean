theorem dX1_begin_0 : decode cX1_begin 0 = .ok (.aload_n 0, 1) := by decide +kernel
theorem dX1_begin_1 : decode cX1_begin 1 = .ok (.iload_n 1, 1) := by decide +kernel
theorem dX1_begin_2 : decode cX1_begin 2 = .ok (.putfield 20, 3) := by decide +kernel
theorem dX1_begin_5 : decode cX1_begin 5 = .ok (.aload_n 0, 1) := by decide +kernel
theorem dX1_begin_6 : decode cX1_begin 6 = .ok (.getfield 14, 3) := by decide +kernel
theorem dX1_begin_9 : decode cX1_begin 9 = .ok (.invokevirtual 24, 3) := by decide +kernel
theorem dX1_begin_12 : decode cX1_begin 12 = .ok (.aload_n 0, 1) := by decide +kernel
theorem dX1_begin_13 : decode cX1_begin 13 = .ok (.iconst 0, 1) := by decide +kernel
theorem dX1_begin_14 : decode cX1_begin 14 = .ok (.putfield 27, 3) := by decide +kernel
theorem dX1_begin_17 : decode cX1_begin 17 = .ok (.aload_n 0, 1) := by decide +kernel
theorem dX1_begin_18 : decode cX1_begin 18 = .ok (.iconst 0, 1) := by decide +kernel
theorem dX1_begin_19 : decode cX1_begin 19 = .ok (.putfield 30, 3) := by decide +kernel
theorem dX1_begin_22 : decode cX1_begin 22 = .ok (.aload_n 0, 1) := by decide +kernel
theorem dX1_begin_23 : decode cX1_begin 23 = .ok (.iconst 0, 1) := by decide +kernel
theorem dX1_begin_24 : decode cX1_begin 24 = .ok (.putfield 33, 3) := by decide +kernel
theorem dX1_begin_27 : decode cX1_begin 27 = .ok (.aload_n 0, 1) := by decide +kernel
theorem dX1_begin_28 : decode cX1_begin 28 = .ok (.iconst 0, 1) := by decide +kernel
theorem dX1_begin_29 : decode cX1_begin 29 = .ok (.putfield 36, 3) := by decide +kernel
theorem dX1_begin_32 : decode cX1_begin 32 = .ok (.aload_n 0, 1) := by decide +kernel
theorem dX1_begin_33 : decode cX1_begin 33 = .ok (.iconst 0, 1) := by decide +kernel
theorem dX1_begin_34 : decode cX1_begin 34 = .ok (.putfield 39, 3) := by decide +kernel
theorem dX1_begin_37 : decode cX1_begin 37 = .ok (.return_, 1) := by decide +kernel
abbrev mtX1_begin : mj_T := (yX1_begin.cls, cX1_begin, 2, none, mj_no, yX1_begin.name)
abbrev kX1_begin (k0 : Nat) (x1 : Int32) (g : mj_S) (M : mj_M) (q : mj_M → Prop) : Prop := mj_CV yX1_begin (.code yX1_begin cX1_begin 2 none) 1 [.ref (k0), .int (x1)] g M q
theorem kiX1_begin : mj_cV yX1_begin cX1_begin 2 none 1 := ⟨⟨wd_910, wd_911, wd_6, wd_912⟩, ⟨by decide +kernel, by decide +kernel, by decide +kernel⟩, Nat.le_of_ble_eq_true rfl⟩
theorem eX1_begin {k0 : Nat} {x1 : Int32} {g : mj_S} {M : mj_M} {q : mj_M → Prop} (h0 : is1 g k0) (h : ∃ (q1 : mj_M → Prop), kX0_clear (k0 + 1) g (mj_wI (M) (k0) 1 (x1)) q1 ∧ ∀ (M1 : mj_M), q1 M1 → (q (mj_wI (mj_wI (mj_wI (mj_wI (mj_wI (M1) (k0) 2 (0)) (k0) 3 (0)) (k0) 4 (0)) (k0) 5 (0)) (k0) 6 (0)))) : kX1_begin (k0) (x1) g M q := by
  intro d hd; refine mj_enter (by decide +kernel) (Nat.le_of_ble_eq_true rfl) ?_
  generalize (false : Bool) = ex
  show mj_G mtX1_begin (mj_rm d 0 0) (mj_Fi (mj_qV g q) mj_x0 0 0) ex 0 0 0 [(0, .ref (k0)), (1, .int (x1))] [] g M
  refine mg_aload_n dX1_begin_0 rfl 0 rfl ?_
  refine mg_iload_n dX1_begin_1 rfl 1 rfl ?_
  refine mg_putI (j := 1) dX1_begin_2 kc_1 (Nat.le_of_ble_eq_true rfl) wd_128 rfl rfl rfl h0.1.1 h0.1.2 ?_
  refine mg_aload_n dX1_begin_5 rfl 0 rfl ?_
  refine mg_getR (j := 0) dX1_begin_6 kc_1 (Nat.le_of_ble_eq_true rfl) wd_126 rfl rfl h0.1.1 h0.1.2 h0.2.1 ?_
  obtain ⟨q1, hC, hk⟩ := h
  refine mc_Vv [] [] dX1_begin_9 wd_913 kiX0_clear (Nat.le_of_ble_eq_true rfl) h0.2.2.1.1 h0.2.2.1.2 rfl (Nat.le_trans (Nat.le_of_ble_eq_true rfl) hd) hC (fun M1 hq => ?_)
  replace h := hk M1 hq
  refine mg_aload_n dX1_begin_12 rfl 0 rfl ?_
  refine mg_iconst (v := 0) dX1_begin_13 (by decide) ?_
  refine mg_putI (j := 2) dX1_begin_14 kc_1 (Nat.le_of_ble_eq_true rfl) wd_129 rfl rfl rfl h0.1.1 h0.1.2 ?_
  refine mg_aload_n dX1_begin_17 rfl 0 rfl ?_
  refine mg_iconst (v := 0) dX1_begin_18 (by decide) ?_
  refine mg_putI (j := 3) dX1_begin_19 kc_1 (Nat.le_of_ble_eq_true rfl) wd_130 rfl rfl rfl h0.1.1 h0.1.2 ?_
  refine mg_aload_n dX1_begin_22 rfl 0 rfl ?_
  refine mg_iconst (v := 0) dX1_begin_23 (by decide) ?_
  refine mg_putI (j := 4) dX1_begin_24 kc_1 (Nat.le_of_ble_eq_true rfl) wd_131 rfl rfl rfl h0.1.1 h0.1.2 ?_
  refine mg_aload_n dX1_begin_27 rfl 0 rfl ?_
  refine mg_iconst (v := 0) dX1_begin_28 (by decide) ?_
  refine mg_putI (j := 5) dX1_begin_29 kc_1 (Nat.le_of_ble_eq_true rfl) wd_132 rfl rfl rfl h0.1.1 h0.1.2 ?_
  refine mg_aload_n dX1_begin_32 rfl 0 rfl ?_
  refine mg_iconst (v := 0) dX1_begin_33 (by decide) ?_
  refine mg_putZ (j := 6) dX1_begin_34 kc_1 (Nat.le_of_ble_eq_true rfl) wd_133 rfl rfl rfl h0.1.1 h0.1.2 (Or.inl rfl) ?_
  exact me_v dX1_begin_37 rfl h
theorem dX1_isComplete_0 : decode cX1_isComplete 0 = .ok (.aload_n 0, 1) := by decide +kernel
theorem dX1_isComplete_1 : decode cX1_isComplete 1 = .ok (.getfield 39, 3) := by decide +kernel
theorem dX1_isComplete_4 : decode cX1_isComplete 4 = .ok (.ifCond .ne 7, 3) := by decide +kernel
theorem dX1_isComplete_7 : decode cX1_isComplete 7 = .ok (.iconst 1, 1) := by decide +kernel
theorem dX1_isComplete_8 : decode cX1_isComplete 8 = .ok (.goto 4, 3) := by decide +kernel
theorem dX1_isComplete_11 : decode cX1_isComplete 11 = .ok (.iconst 0, 1) := by decide +kernel
theorem dX1_isComplete_12 : decode cX1_isComplete 12 = .ok (.ireturn, 1) := by decide +kernel
abbrev mtX1_isComplete : mj_T := (yX1_isComplete.cls, cX1_isComplete, 1, (some .boolean), mj_no, yX1_isComplete.name)
abbrev kX1_isComplete (k0 : Nat) (g : mj_S) (M : mj_M) (q : Int32 → mj_M → Prop) : Prop := mj_CI yX1_isComplete (.code yX1_isComplete cX1_isComplete 1 (some .boolean)) 0 [.ref (k0)] g M q
theorem kiX1_isComplete : mj_cV yX1_isComplete cX1_isComplete 1 (some .boolean) 0 := ⟨⟨wd_945, wd_946, wd_6, wd_947⟩, ⟨by decide +kernel, by decide +kernel, by decide +kernel⟩, Nat.le_of_ble_eq_true rfl⟩
theorem eX1_isComplete {k0 : Nat} {g : mj_S} {M : mj_M} {q : Int32 → mj_M → Prop} (h0 : is1 g k0) (h : (¬ ((M).1 (k0) 6 : Int32) = 0 → q 0 (M)) ∧ (((M).1 (k0) 6 : Int32) = 0 → q 1 (M))) : kX1_isComplete (k0) g M q := by
  intro d hd; refine mj_enter (by decide +kernel) (Nat.le_of_ble_eq_true rfl) ?_
  generalize (false : Bool) = ex
  show mj_G mtX1_isComplete (mj_rm d 0 0) (mj_Fi (mj_qI g q) mj_x0 0 0) ex 0 0 0 [(0, .ref (k0))] [] g M
  refine mg_aload_n dX1_isComplete_0 rfl 0 rfl ?_
  refine mg_getI (j := 6) dX1_isComplete_1 kc_1 (Nat.le_of_ble_eq_true rfl) wd_133 rfl rfl h0.1.1 h0.1.2 rfl ?_
  refine mg_if_ne (tgt := 11) dX1_isComplete_4 (by decide) (fun hc => ?_) (fun hc => ?_)
  · replace h := h.1 hc
    refine mg_iconst (v := 0) dX1_isComplete_11 (by decide) ?_
    exact me_z dX1_isComplete_12 rfl (Or.inl rfl) h
  · replace h := h.2 hc
    refine mg_iconst (v := 1) dX1_isComplete_7 (by decide) ?_
    refine mg_goto (tgt := 12) dX1_isComplete_8 (by decide) ?_
    exact me_z dX1_isComplete_12 rfl (Or.inr rfl) h
theorem dX1_endsClause_0 : decode cX1_endsClause 0 = .ok (.aload_n 0, 1) := by decide +kernel
theorem dX1_endsClause_1 : decode cX1_endsClause 1 = .ok (.getfield 36, 3) := by decide +kernel
theorem dX1_endsClause_4 : decode cX1_endsClause 4 = .ok (.invokestatic 60, 3) := by decide +kernel
theorem dX1_endsClause_7 : decode cX1_endsClause 7 = .ok (.ifCond .ne 14, 3) := by decide +kernel
theorem dX1_endsClause_10 : decode cX1_endsClause 10 = .ok (.aload_n 0, 1) := by decide +kernel
theorem dX1_endsClause_11 : decode cX1_endsClause 11 = .ok (.getfield 14, 3) := by decide +kernel
theorem dX1_endsClause_14 : decode cX1_endsClause 14 = .ok (.aload_n 0, 1) := by decide +kernel
theorem dX1_endsClause_15 : decode cX1_endsClause 15 = .ok (.getfield 36, 3) := by decide +kernel
theorem dX1_endsClause_18 : decode cX1_endsClause 18 = .ok (.invokevirtual 63, 3) := by decide +kernel
theorem dX1_endsClause_21 : decode cX1_endsClause 21 = .ok (.aload_n 0, 1) := by decide +kernel
theorem dX1_endsClause_22 : decode cX1_endsClause 22 = .ok (.iconst 0, 1) := by decide +kernel
theorem dX1_endsClause_23 : decode cX1_endsClause 23 = .ok (.putfield 36, 3) := by decide +kernel
theorem dX1_endsClause_26 : decode cX1_endsClause 26 = .ok (.aload_n 0, 1) := by decide +kernel
theorem dX1_endsClause_27 : decode cX1_endsClause 27 = .ok (.iconst 0, 1) := by decide +kernel
theorem dX1_endsClause_28 : decode cX1_endsClause 28 = .ok (.putfield 39, 3) := by decide +kernel
theorem dX1_endsClause_31 : decode cX1_endsClause 31 = .ok (.aload_n 0, 1) := by decide +kernel
theorem dX1_endsClause_32 : decode cX1_endsClause 32 = .ok (.iconst 2, 1) := by decide +kernel
theorem dX1_endsClause_33 : decode cX1_endsClause 33 = .ok (.putfield 27, 3) := by decide +kernel
theorem dX1_endsClause_36 : decode cX1_endsClause 36 = .ok (.iconst 1, 1) := by decide +kernel
theorem dX1_endsClause_37 : decode cX1_endsClause 37 = .ok (.ireturn, 1) := by decide +kernel
abbrev mtX1_endsClause : mj_T := (yX1_endsClause.cls, cX1_endsClause, 1, (some .boolean), mj_no, yX1_endsClause.name)
abbrev kX1_endsClause (k0 : Nat) (g : mj_S) (M : mj_M) (q : Int32 → mj_M → Prop) : Prop := mj_CI yX1_endsClause (.code yX1_endsClause cX1_endsClause 1 (some .boolean)) 1 [.ref (k0)] g M q
theorem kiX1_endsClause : mj_cV yX1_endsClause cX1_endsClause 1 (some .boolean) 0 := ⟨⟨wd_928, wp_33, wd_6, wd_929⟩, ⟨by decide +kernel, by decide +kernel, by decide +kernel⟩, Nat.le_of_ble_eq_true rfl⟩
theorem eX1_endsClause {k0 : Nat} {g : mj_S} {M : mj_M} {q : Int32 → mj_M → Prop} (h0 : is1 g k0) (h : ∃ (q1 : Int32 → mj_M → Prop), kX9_hasComplementary ((M).1 (k0) 5) g (M) q1 ∧ ∀ (v1 : Int32) (M1 : mj_M), q1 v1 M1 → ((¬ (v1 : Int32) = 0 → q 1 (mj_wI (mj_wI (mj_wI (M1) (k0) 5 (0)) (k0) 6 (0)) (k0) 2 (2))) ∧ ((v1 : Int32) = 0 → ∃ (q2 : mj_M → Prop), kX0_add (k0 + 1) ((M1).1 (k0) 5) g (M1) q2 ∧ ∀ (M2 : mj_M), q2 M2 → (q 1 (mj_wI (mj_wI (mj_wI (M2) (k0) 5 (0)) (k0) 6 (0)) (k0) 2 (2)))))) : kX1_endsClause (k0) g M q := by
  intro d hd; refine mj_enter (by decide +kernel) (Nat.le_of_ble_eq_true rfl) ?_
  generalize (false : Bool) = ex
  show mj_G mtX1_endsClause (mj_rm d 0 0) (mj_Fi (mj_qI g q) mj_x0 0 0) ex 0 0 0 [(0, .ref (k0))] [] g M
  refine mg_aload_n dX1_endsClause_0 rfl 0 rfl ?_
  refine mg_getI (j := 5) dX1_endsClause_1 kc_1 (Nat.le_of_ble_eq_true rfl) wd_132 rfl rfl h0.1.1 h0.1.2 rfl ?_
  obtain ⟨q1, hC, hk⟩ := h
  refine mc_Ni [.int ((M).1 (k0) 5)] [] 20 dX1_endsClause_4 rfl kiX9_hasComplementary (Nat.le_of_ble_eq_true rfl) (Nat.le_trans (Nat.le_of_ble_eq_true rfl) hd) hC (fun v1 M1 hq => ?_)
  replace h := hk v1 M1 hq
  refine mg_if_ne (tgt := 21) dX1_endsClause_7 (by decide) (fun hc => ?_) (fun hc => ?_)
  · replace h := h.1 hc
    refine mg_aload_n dX1_endsClause_21 rfl 0 rfl ?_
    refine mg_iconst (v := 0) dX1_endsClause_22 (by decide) ?_
    refine mg_putI (j := 5) dX1_endsClause_23 kc_1 (Nat.le_of_ble_eq_true rfl) wd_132 rfl rfl rfl h0.1.1 h0.1.2 ?_
    refine mg_aload_n dX1_endsClause_26 rfl 0 rfl ?_
    refine mg_iconst (v := 0) dX1_endsClause_27 (by decide) ?_
    refine mg_putZ (j := 6) dX1_endsClause_28 kc_1 (Nat.le_of_ble_eq_true rfl) wd_133 rfl rfl rfl h0.1.1 h0.1.2 (Or.inl rfl) ?_
    refine mg_aload_n dX1_endsClause_31 rfl 0 rfl ?_
    refine mg_iconst (v := 2) dX1_endsClause_32 (by decide) ?_
    refine mg_putI (j := 2) dX1_endsClause_33 kc_1 (Nat.le_of_ble_eq_true rfl) wd_129 rfl rfl rfl h0.1.1 h0.1.2 ?_
    refine mg_iconst (v := 1) dX1_endsClause_36 (by decide) ?_
    exact me_z dX1_endsClause_37 rfl (Or.inr rfl) h
  · replace h := h.2 hc
    refine mg_aload_n dX1_endsClause_10 rfl 0 rfl ?_
    refine mg_getR (j := 0) dX1_endsClause_11 kc_1 (Nat.le_of_ble_eq_true rfl) wd_126 rfl rfl h0.1.1 h0.1.2 h0.2.1 ?_
    refine mg_aload_n dX1_endsClause_14 rfl 0 rfl ?_
    refine mg_getI (j := 5) dX1_endsClause_15 kc_1 (Nat.le_of_ble_eq_true rfl) wd_132 rfl rfl h0.1.1 h0.1.2 rfl ?_
    obtain ⟨q2, hC, hk⟩ := h
    refine mc_Vv [.int ((M1).1 (k0) 5)] [] dX1_endsClause_18 wd_931 kiX0_add (Nat.le_of_ble_eq_true rfl) h0.2.2.1.1 h0.2.2.1.2 rfl (Nat.le_trans (Nat.le_of_ble_eq_true rfl) hd) hC (fun M2 hq => ?_)
    replace h := hk M2 hq
    refine mg_aload_n dX1_endsClause_21 rfl 0 rfl ?_
    refine mg_iconst (v := 0) dX1_endsClause_22 (by decide) ?_
    refine mg_putI (j := 5) dX1_endsClause_23 kc_1 (Nat.le_of_ble_eq_true rfl) wd_132 rfl rfl rfl h0.1.1 h0.1.2 ?_
    refine mg_aload_n dX1_endsClause_26 rfl 0 rfl ?_
    refine mg_iconst (v := 0) dX1_endsClause_27 (by decide) ?_
    refine mg_putZ (j := 6) dX1_endsClause_28 kc_1 (Nat.le_of_ble_eq_true rfl) wd_133 rfl rfl rfl h0.1.1 h0.1.2 (Or.inl rfl) ?_
    refine mg_aload_n dX1_endsClause_31 rfl 0 rfl ?_
    refine mg_iconst (v := 2) dX1_endsClause_32 (by decide) ?_
    refine mg_putI (j := 2) dX1_endsClause_33 kc_1 (Nat.le_of_ble_eq_true rfl) wd_129 rfl rfl rfl h0.1.1 h0.1.2 ?_
    refine mg_iconst (v := 1) dX1_endsClause_36 (by decide) ?_
    exact me_z dX1_endsClause_37 rfl (Or.inr rfl) h
theorem dX1_takesDigit_0 : decode cX1_takesDigit 0 = .ok (.aload_n 0, 1) := by decide +kernel
theorem dX1_takesDigit_1 : decode cX1_takesDigit 1 = .ok (.bipush 10, 2) := by decide +kernel
theorem dX1_takesDigit_3 : decode cX1_takesDigit 3 = .ok (.aload_n 0, 1) := by decide +kernel
theorem dX1_takesDigit_4 : decode cX1_takesDigit 4 = .ok (.getfield 30, 3) := by decide +kernel
theorem dX1_takesDigit_7 : decode cX1_takesDigit 7 = .ok (.imul, 1) := by decide +kernel
theorem dX1_takesDigit_8 : decode cX1_takesDigit 8 = .ok (.iload_n 1, 1) := by decide +kernel
theorem dX1_takesDigit_9 : decode cX1_takesDigit 9 = .ok (.iadd, 1) := by decide +kernel
theorem dX1_takesDigit_10 : decode cX1_takesDigit 10 = .ok (.putfield 30, 3) := by decide +kernel
theorem dX1_takesDigit_13 : decode cX1_takesDigit 13 = .ok (.aload_n 0, 1) := by decide +kernel
theorem dX1_takesDigit_14 : decode cX1_takesDigit 14 = .ok (.iconst 1, 1) := by decide +kernel
theorem dX1_takesDigit_15 : decode cX1_takesDigit 15 = .ok (.putfield 39, 3) := by decide +kernel
theorem dX1_takesDigit_18 : decode cX1_takesDigit 18 = .ok (.aload_n 0, 1) := by decide +kernel
theorem dX1_takesDigit_19 : decode cX1_takesDigit 19 = .ok (.iconst 3, 1) := by decide +kernel
theorem dX1_takesDigit_20 : decode cX1_takesDigit 20 = .ok (.putfield 27, 3) := by decide +kernel
theorem dX1_takesDigit_23 : decode cX1_takesDigit 23 = .ok (.aload_n 0, 1) := by decide +kernel
theorem dX1_takesDigit_24 : decode cX1_takesDigit 24 = .ok (.getfield 30, 3) := by decide +kernel
theorem dX1_takesDigit_27 : decode cX1_takesDigit 27 = .ok (.aload_n 0, 1) := by decide +kernel
theorem dX1_takesDigit_28 : decode cX1_takesDigit 28 = .ok (.getfield 20, 3) := by decide +kernel
theorem dX1_takesDigit_31 : decode cX1_takesDigit 31 = .ok (.if_icmp .gt 7, 3) := by decide +kernel
theorem dX1_takesDigit_34 : decode cX1_takesDigit 34 = .ok (.iconst 1, 1) := by decide +kernel
theorem dX1_takesDigit_35 : decode cX1_takesDigit 35 = .ok (.goto 4, 3) := by decide +kernel
theorem dX1_takesDigit_38 : decode cX1_takesDigit 38 = .ok (.iconst 0, 1) := by decide +kernel
theorem dX1_takesDigit_39 : decode cX1_takesDigit 39 = .ok (.ireturn, 1) := by decide +kernel
abbrev mtX1_takesDigit : mj_T := (yX1_takesDigit.cls, cX1_takesDigit, 2, (some .boolean), mj_no, yX1_takesDigit.name)
abbrev kX1_takesDigit (k0 : Nat) (x1 : Int32) (g : mj_S) (M : mj_M) (q : Int32 → mj_M → Prop) : Prop := mj_CI yX1_takesDigit (.code yX1_takesDigit cX1_takesDigit 2 (some .boolean)) 0 [.ref (k0), .int (x1)] g M q
theorem kiX1_takesDigit : mj_cV yX1_takesDigit cX1_takesDigit 2 (some .boolean) 1 := ⟨⟨wd_934, wp_34, wd_6, wd_935⟩, ⟨by decide +kernel, by decide +kernel, by decide +kernel⟩, Nat.le_of_ble_eq_true rfl⟩
theorem eX1_takesDigit {k0 : Nat} {x1 : Int32} {g : mj_S} {M : mj_M} {q : Int32 → mj_M → Prop} (h0 : is1 g k0) (h : (((mj_wI (mj_wI (mj_wI (M) (k0) 3 (((10 : Int32) * ((M).1 (k0) 3)) + (x1))) (k0) 6 (1)) (k0) 2 (3)).1 (k0) 1 : Int32) < ((mj_wI (mj_wI (mj_wI (M) (k0) 3 (((10 : Int32) * ((M).1 (k0) 3)) + (x1))) (k0) 6 (1)) (k0) 2 (3)).1 (k0) 3) → q 0 (mj_wI (mj_wI (mj_wI (M) (k0) 3 (((10 : Int32) * ((M).1 (k0) 3)) + (x1))) (k0) 6 (1)) (k0) 2 (3))) ∧ (¬ ((mj_wI (mj_wI (mj_wI (M) (k0) 3 (((10 : Int32) * ((M).1 (k0) 3)) + (x1))) (k0) 6 (1)) (k0) 2 (3)).1 (k0) 1 : Int32) < ((mj_wI (mj_wI (mj_wI (M) (k0) 3 (((10 : Int32) * ((M).1 (k0) 3)) + (x1))) (k0) 6 (1)) (k0) 2 (3)).1 (k0) 3) → q 1 (mj_wI (mj_wI (mj_wI (M) (k0) 3 (((10 : Int32) * ((M).1 (k0) 3)) + (x1))) (k0) 6 (1)) (k0) 2 (3)))) : kX1_takesDigit (k0) (x1) g M q := by
  intro d hd; refine mj_enter (by decide +kernel) (Nat.le_of_ble_eq_true rfl) ?_
  generalize (false : Bool) = ex
  show mj_G mtX1_takesDigit (mj_rm d 0 0) (mj_Fi (mj_qI g q) mj_x0 0 0) ex 0 0 0 [(0, .ref (k0)), (1, .int (x1))] [] g M
  refine mg_aload_n dX1_takesDigit_0 rfl 0 rfl ?_
  refine mg_bipush (v := 10) dX1_takesDigit_1 (by decide) ?_
  refine mg_aload_n dX1_takesDigit_3 rfl 0 rfl ?_
  refine mg_getI (j := 3) dX1_takesDigit_4 kc_1 (Nat.le_of_ble_eq_true rfl) wd_130 rfl rfl h0.1.1 h0.1.2 rfl ?_
  refine mg_imul dX1_takesDigit_7 ?_
  refine mg_iload_n dX1_takesDigit_8 rfl 1 rfl ?_
  refine mg_iadd dX1_takesDigit_9 ?_
  refine mg_putI (j := 3) dX1_takesDigit_10 kc_1 (Nat.le_of_ble_eq_true rfl) wd_130 rfl rfl rfl h0.1.1 h0.1.2 ?_
  refine mg_aload_n dX1_takesDigit_13 rfl 0 rfl ?_
  refine mg_iconst (v := 1) dX1_takesDigit_14 (by decide) ?_
  refine mg_putZ (j := 6) dX1_takesDigit_15 kc_1 (Nat.le_of_ble_eq_true rfl) wd_133 rfl rfl rfl h0.1.1 h0.1.2 (Or.inr rfl) ?_
  refine mg_aload_n dX1_takesDigit_18 rfl 0 rfl ?_
  refine mg_iconst (v := 3) dX1_takesDigit_19 (by decide) ?_
  refine mg_putI (j := 2) dX1_takesDigit_20 kc_1 (Nat.le_of_ble_eq_true rfl) wd_129 rfl rfl rfl h0.1.1 h0.1.2 ?_
  refine mg_aload_n dX1_takesDigit_23 rfl 0 rfl ?_
  refine mg_getI (j := 3) dX1_takesDigit_24 kc_1 (Nat.le_of_ble_eq_true rfl) wd_130 rfl rfl h0.1.1 h0.1.2 rfl ?_
  refine mg_aload_n dX1_takesDigit_27 rfl 0 rfl ?_
  refine mg_getI (j := 1) dX1_takesDigit_28 kc_1 (Nat.le_of_ble_eq_true rfl) wd_128 rfl rfl h0.1.1 h0.1.2 rfl ?_
  refine mg_icmp_gt (tgt := 38) dX1_takesDigit_31 (by decide) (fun hc => ?_) (fun hc => ?_)
  · replace h := h.1 hc
    refine mg_iconst (v := 0) dX1_takesDigit_38 (by decide) ?_
    exact me_z dX1_takesDigit_39 rfl (Or.inl rfl) h
  · replace h := h.2 hc
    refine mg_iconst (v := 1) dX1_takesDigit_34 (by decide) ?_
    refine mg_goto (tgt := 39) dX1_takesDigit_35 (by decide) ?_
    exact me_z dX1_takesDigit_39 rfl (Or.inr rfl) h
theorem dX1_takesFirstDigit_0 : decode cX1_takesFirstDigit 0 = .ok (.iload_n 1, 1) := by decide +kernel
theorem dX1_takesFirstDigit_1 : decode cX1_takesFirstDigit 1 = .ok (.ifCond .ne 10, 3) := by decide +kernel
theorem dX1_takesFirstDigit_4 : decode cX1_takesFirstDigit 4 = .ok (.aload_n 0, 1) := by decide +kernel
theorem dX1_takesFirstDigit_5 : decode cX1_takesFirstDigit 5 = .ok (.invokevirtual 57, 3) := by decide +kernel
theorem dX1_takesFirstDigit_8 : decode cX1_takesFirstDigit 8 = .ok (.goto 8, 3) := by decide +kernel
theorem dX1_takesFirstDigit_11 : decode cX1_takesFirstDigit 11 = .ok (.aload_n 0, 1) := by decide +kernel
theorem dX1_takesFirstDigit_12 : decode cX1_takesFirstDigit 12 = .ok (.iload_n 1, 1) := by decide +kernel
theorem dX1_takesFirstDigit_13 : decode cX1_takesFirstDigit 13 = .ok (.invokevirtual 51, 3) := by decide +kernel
theorem dX1_takesFirstDigit_16 : decode cX1_takesFirstDigit 16 = .ok (.ireturn, 1) := by decide +kernel
abbrev mtX1_takesFirstDigit : mj_T := (yX1_takesFirstDigit.cls, cX1_takesFirstDigit, 2, (some .boolean), mj_no, yX1_takesFirstDigit.name)
abbrev kX1_takesFirstDigit (k0 : Nat) (x1 : Int32) (g : mj_S) (M : mj_M) (q : Int32 → mj_M → Prop) : Prop := mj_CI yX1_takesFirstDigit (.code yX1_takesFirstDigit cX1_takesFirstDigit 2 (some .boolean)) 2 [.ref (k0), .int (x1)] g M q
theorem kiX1_takesFirstDigit : mj_cV yX1_takesFirstDigit cX1_takesFirstDigit 2 (some .boolean) 1 := ⟨⟨wd_924, wp_32, wd_6, wd_925⟩, ⟨by decide +kernel, by decide +kernel, by decide +kernel⟩, Nat.le_of_ble_eq_true rfl⟩
theorem eX1_takesFirstDigit {k0 : Nat} {x1 : Int32} {g : mj_S} {M : mj_M} {q : Int32 → mj_M → Prop} (h0 : is1 g k0) (h : (¬ (x1 : Int32) = 0 → ∃ (q1 : Int32 → mj_M → Prop), kX1_takesDigit (k0) (x1) g (M) q1 ∧ ∀ (v1 : Int32) (M1 : mj_M), q1 v1 M1 → (((v1 : Int32) = 0 ∨ (v1 : Int32) = 1) ∧ q (v1) (M1))) ∧ ((x1 : Int32) = 0 → ∃ (q2 : Int32 → mj_M → Prop), kX1_endsClause (k0) g (M) q2 ∧ ∀ (v2 : Int32) (M2 : mj_M), q2 v2 M2 → (((v2 : Int32) = 0 ∨ (v2 : Int32) = 1) ∧ q (v2) (M2)))) : kX1_takesFirstDigit (k0) (x1) g M q := by
  intro d hd; refine mj_enter (by decide +kernel) (Nat.le_of_ble_eq_true rfl) ?_
  generalize (false : Bool) = ex
  show mj_G mtX1_takesFirstDigit (mj_rm d 0 0) (mj_Fi (mj_qI g q) mj_x0 0 0) ex 0 0 0 [(0, .ref (k0)), (1, .int (x1))] [] g M
  refine mg_iload_n dX1_takesFirstDigit_0 rfl 1 rfl ?_
  refine mg_if_ne (tgt := 11) dX1_takesFirstDigit_1 (by decide) (fun hc => ?_) (fun hc => ?_)
  · replace h := h.1 hc
    refine mg_aload_n dX1_takesFirstDigit_11 rfl 0 rfl ?_
    refine mg_iload_n dX1_takesFirstDigit_12 rfl 1 rfl ?_
    obtain ⟨q1, hC, hk⟩ := h
    refine mc_Vi [.int (x1)] [] dX1_takesFirstDigit_13 wd_932 kiX1_takesDigit (Nat.le_of_ble_eq_true rfl) h0.1.1 h0.1.2 rfl (Nat.le_trans (Nat.le_of_ble_eq_true rfl) hd) hC (fun v1 M1 hq => ?_)
    replace h := hk v1 M1 hq
    exact me_z dX1_takesFirstDigit_16 rfl h.1 h.2
  · replace h := h.2 hc
    refine mg_aload_n dX1_takesFirstDigit_4 rfl 0 rfl ?_
    obtain ⟨q2, hC, hk⟩ := h
    refine mc_Vi [] [] dX1_takesFirstDigit_5 wd_926 kiX1_endsClause (Nat.le_of_ble_eq_true rfl) h0.1.1 h0.1.2 rfl (Nat.le_trans (Nat.le_of_ble_eq_true rfl) hd) hC (fun v2 M2 hq => ?_)
    replace h := hk v2 M2 hq
    refine mg_goto (tgt := 16) dX1_takesFirstDigit_8 (by decide) ?_
    exact me_z dX1_takesFirstDigit_16 rfl h.1 h.2
theorem dX1_takesMinus_0 : decode cX1_takesMinus 0 = .ok (.aload_n 0, 1) := by decide +kernel
theorem dX1_takesMinus_1 : decode cX1_takesMinus 1 = .ok (.iconst 1, 1) := by decide +kernel
theorem dX1_takesMinus_2 : decode cX1_takesMinus 2 = .ok (.putfield 33, 3) := by decide +kernel
theorem dX1_takesMinus_5 : decode cX1_takesMinus 5 = .ok (.aload_n 0, 1) := by decide +kernel
theorem dX1_takesMinus_6 : decode cX1_takesMinus 6 = .ok (.iconst 1, 1) := by decide +kernel
theorem dX1_takesMinus_7 : decode cX1_takesMinus 7 = .ok (.putfield 39, 3) := by decide +kernel
theorem dX1_takesMinus_10 : decode cX1_takesMinus 10 = .ok (.aload_n 0, 1) := by decide +kernel
theorem dX1_takesMinus_11 : decode cX1_takesMinus 11 = .ok (.iconst 1, 1) := by decide +kernel
theorem dX1_takesMinus_12 : decode cX1_takesMinus 12 = .ok (.putfield 27, 3) := by decide +kernel
theorem dX1_takesMinus_15 : decode cX1_takesMinus 15 = .ok (.iconst 1, 1) := by decide +kernel
theorem dX1_takesMinus_16 : decode cX1_takesMinus 16 = .ok (.ireturn, 1) := by decide +kernel
abbrev mtX1_takesMinus : mj_T := (yX1_takesMinus.cls, cX1_takesMinus, 1, (some .boolean), mj_no, yX1_takesMinus.name)
abbrev kX1_takesMinus (k0 : Nat) (g : mj_S) (M : mj_M) (q : Int32 → mj_M → Prop) : Prop := mj_CI yX1_takesMinus (.code yX1_takesMinus cX1_takesMinus 1 (some .boolean)) 0 [.ref (k0)] g M q
theorem kiX1_takesMinus : mj_cV yX1_takesMinus cX1_takesMinus 1 (some .boolean) 0 := ⟨⟨wd_938, wp_35, wd_6, wd_939⟩, ⟨by decide +kernel, by decide +kernel, by decide +kernel⟩, Nat.le_of_ble_eq_true rfl⟩
theorem eX1_takesMinus {k0 : Nat} {g : mj_S} {M : mj_M} {q : Int32 → mj_M → Prop} (h0 : is1 g k0) (h : q 1 (mj_wI (mj_wI (mj_wI (M) (k0) 4 (1)) (k0) 6 (1)) (k0) 2 (1))) : kX1_takesMinus (k0) g M q := by
  intro d hd; refine mj_enter (by decide +kernel) (Nat.le_of_ble_eq_true rfl) ?_
  generalize (false : Bool) = ex
  show mj_G mtX1_takesMinus (mj_rm d 0 0) (mj_Fi (mj_qI g q) mj_x0 0 0) ex 0 0 0 [(0, .ref (k0))] [] g M
  refine mg_aload_n dX1_takesMinus_0 rfl 0 rfl ?_
  refine mg_iconst (v := 1) dX1_takesMinus_1 (by decide) ?_
  refine mg_putI (j := 4) dX1_takesMinus_2 kc_1 (Nat.le_of_ble_eq_true rfl) wd_131 rfl rfl rfl h0.1.1 h0.1.2 ?_
  refine mg_aload_n dX1_takesMinus_5 rfl 0 rfl ?_
  refine mg_iconst (v := 1) dX1_takesMinus_6 (by decide) ?_
  refine mg_putZ (j := 6) dX1_takesMinus_7 kc_1 (Nat.le_of_ble_eq_true rfl) wd_133 rfl rfl rfl h0.1.1 h0.1.2 (Or.inr rfl) ?_
  refine mg_aload_n dX1_takesMinus_10 rfl 0 rfl ?_
  refine mg_iconst (v := 1) dX1_takesMinus_11 (by decide) ?_
  refine mg_putI (j := 2) dX1_takesMinus_12 kc_1 (Nat.le_of_ble_eq_true rfl) wd_129 rfl rfl rfl h0.1.1 h0.1.2 ?_
  refine mg_iconst (v := 1) dX1_takesMinus_15 (by decide) ?_
  exact me_z dX1_takesMinus_16 rfl (Or.inr rfl) h
theorem dX1_endsLiteral_0 : decode cX1_endsLiteral 0 = .ok (.aload_n 0, 1) := by decide +kernel
theorem dX1_endsLiteral_1 : decode cX1_endsLiteral 1 = .ok (.dup, 1) := by decide +kernel
theorem dX1_endsLiteral_2 : decode cX1_endsLiteral 2 = .ok (.getfield 36, 3) := by decide +kernel
theorem dX1_endsLiteral_5 : decode cX1_endsLiteral 5 = .ok (.iconst 1, 1) := by decide +kernel
theorem dX1_endsLiteral_6 : decode cX1_endsLiteral 6 = .ok (.iconst 2, 1) := by decide +kernel
theorem dX1_endsLiteral_7 : decode cX1_endsLiteral 7 = .ok (.aload_n 0, 1) := by decide +kernel
theorem dX1_endsLiteral_8 : decode cX1_endsLiteral 8 = .ok (.getfield 30, 3) := by decide +kernel
theorem dX1_endsLiteral_11 : decode cX1_endsLiteral 11 = .ok (.iconst 1, 1) := by decide +kernel
theorem dX1_endsLiteral_12 : decode cX1_endsLiteral 12 = .ok (.isub, 1) := by decide +kernel
theorem dX1_endsLiteral_13 : decode cX1_endsLiteral 13 = .ok (.imul, 1) := by decide +kernel
theorem dX1_endsLiteral_14 : decode cX1_endsLiteral 14 = .ok (.aload_n 0, 1) := by decide +kernel
theorem dX1_endsLiteral_15 : decode cX1_endsLiteral 15 = .ok (.getfield 33, 3) := by decide +kernel
theorem dX1_endsLiteral_18 : decode cX1_endsLiteral 18 = .ok (.iadd, 1) := by decide +kernel
theorem dX1_endsLiteral_19 : decode cX1_endsLiteral 19 = .ok (.ishl, 1) := by decide +kernel
theorem dX1_endsLiteral_20 : decode cX1_endsLiteral 20 = .ok (.ior, 1) := by decide +kernel
theorem dX1_endsLiteral_21 : decode cX1_endsLiteral 21 = .ok (.putfield 36, 3) := by decide +kernel
theorem dX1_endsLiteral_24 : decode cX1_endsLiteral 24 = .ok (.aload_n 0, 1) := by decide +kernel
theorem dX1_endsLiteral_25 : decode cX1_endsLiteral 25 = .ok (.iconst 0, 1) := by decide +kernel
theorem dX1_endsLiteral_26 : decode cX1_endsLiteral 26 = .ok (.putfield 30, 3) := by decide +kernel
theorem dX1_endsLiteral_29 : decode cX1_endsLiteral 29 = .ok (.aload_n 0, 1) := by decide +kernel
theorem dX1_endsLiteral_30 : decode cX1_endsLiteral 30 = .ok (.iconst 0, 1) := by decide +kernel
theorem dX1_endsLiteral_31 : decode cX1_endsLiteral 31 = .ok (.putfield 33, 3) := by decide +kernel
theorem dX1_endsLiteral_34 : decode cX1_endsLiteral 34 = .ok (.aload_n 0, 1) := by decide +kernel
theorem dX1_endsLiteral_35 : decode cX1_endsLiteral 35 = .ok (.iconst 0, 1) := by decide +kernel
theorem dX1_endsLiteral_36 : decode cX1_endsLiteral 36 = .ok (.putfield 27, 3) := by decide +kernel
theorem dX1_endsLiteral_39 : decode cX1_endsLiteral 39 = .ok (.iconst 1, 1) := by decide +kernel
theorem dX1_endsLiteral_40 : decode cX1_endsLiteral 40 = .ok (.ireturn, 1) := by decide +kernel
abbrev mtX1_endsLiteral : mj_T := (yX1_endsLiteral.cls, cX1_endsLiteral, 1, (some .boolean), mj_no, yX1_endsLiteral.name)
abbrev kX1_endsLiteral (k0 : Nat) (g : mj_S) (M : mj_M) (q : Int32 → mj_M → Prop) : Prop := mj_CI yX1_endsLiteral (.code yX1_endsLiteral cX1_endsLiteral 1 (some .boolean)) 0 [.ref (k0)] g M q
theorem kiX1_endsLiteral : mj_cV yX1_endsLiteral cX1_endsLiteral 1 (some .boolean) 0 := ⟨⟨wd_942, wp_36, wd_6, wd_943⟩, ⟨by decide +kernel, by decide +kernel, by decide +kernel⟩, Nat.le_of_ble_eq_true rfl⟩
theorem eX1_endsLiteral {k0 : Nat} {g : mj_S} {M : mj_M} {q : Int32 → mj_M → Prop} (h0 : is1 g k0) (h : q 1 (mj_wI (mj_wI (mj_wI (mj_wI (M) (k0) 5 (((M).1 (k0) 5) ||| ((1 : Int32) <<< ((((2 : Int32) * (((M).1 (k0) 3) - (1 : Int32))) + ((M).1 (k0) 4)) &&& 31)))) (k0) 3 (0)) (k0) 4 (0)) (k0) 2 (0))) : kX1_endsLiteral (k0) g M q := by
  intro d hd; refine mj_enter (by decide +kernel) (Nat.le_of_ble_eq_true rfl) ?_
  generalize (false : Bool) = ex
  show mj_G mtX1_endsLiteral (mj_rm d 0 0) (mj_Fi (mj_qI g q) mj_x0 0 0) ex 0 0 0 [(0, .ref (k0))] [] g M
  refine mg_aload_n dX1_endsLiteral_0 rfl 0 rfl ?_
  refine mg_dup dX1_endsLiteral_1 rfl ?_
  refine mg_getI (j := 5) dX1_endsLiteral_2 kc_1 (Nat.le_of_ble_eq_true rfl) wd_132 rfl rfl h0.1.1 h0.1.2 rfl ?_
  refine mg_iconst (v := 1) dX1_endsLiteral_5 (by decide) ?_
  refine mg_iconst (v := 2) dX1_endsLiteral_6 (by decide) ?_
  refine mg_aload_n dX1_endsLiteral_7 rfl 0 rfl ?_
  refine mg_getI (j := 3) dX1_endsLiteral_8 kc_1 (Nat.le_of_ble_eq_true rfl) wd_130 rfl rfl h0.1.1 h0.1.2 rfl ?_
  refine mg_iconst (v := 1) dX1_endsLiteral_11 (by decide) ?_
  refine mg_isub dX1_endsLiteral_12 ?_
  refine mg_imul dX1_endsLiteral_13 ?_
  refine mg_aload_n dX1_endsLiteral_14 rfl 0 rfl ?_
  refine mg_getI (j := 4) dX1_endsLiteral_15 kc_1 (Nat.le_of_ble_eq_true rfl) wd_131 rfl rfl h0.1.1 h0.1.2 rfl ?_
  refine mg_iadd dX1_endsLiteral_18 ?_
  refine mg_ishl dX1_endsLiteral_19 ?_
  refine mg_ior dX1_endsLiteral_20 ?_
  refine mg_putI (j := 5) dX1_endsLiteral_21 kc_1 (Nat.le_of_ble_eq_true rfl) wd_132 rfl rfl rfl h0.1.1 h0.1.2 ?_
  refine mg_aload_n dX1_endsLiteral_24 rfl 0 rfl ?_
  refine mg_iconst (v := 0) dX1_endsLiteral_25 (by decide) ?_
  refine mg_putI (j := 3) dX1_endsLiteral_26 kc_1 (Nat.le_of_ble_eq_true rfl) wd_130 rfl rfl rfl h0.1.1 h0.1.2 ?_
  refine mg_aload_n dX1_endsLiteral_29 rfl 0 rfl ?_
  refine mg_iconst (v := 0) dX1_endsLiteral_30 (by decide) ?_
  refine mg_putI (j := 4) dX1_endsLiteral_31 kc_1 (Nat.le_of_ble_eq_true rfl) wd_131 rfl rfl rfl h0.1.1 h0.1.2 ?_
  refine mg_aload_n dX1_endsLiteral_34 rfl 0 rfl ?_
  refine mg_iconst (v := 0) dX1_endsLiteral_35 (by decide) ?_
  refine mg_putI (j := 2) dX1_endsLiteral_36 kc_1 (Nat.le_of_ble_eq_true rfl) wd_129 rfl rfl rfl h0.1.1 h0.1.2 ?_
  refine mg_iconst (v := 1) dX1_endsLiteral_39 (by decide) ?_
  exact me_z dX1_endsLiteral_40 rfl (Or.inr rfl) h
theorem dX1_takes_0 : decode cX1_takes 0 = .ok (.iload_n 1, 1) := by decide +kernel
theorem dX1_takes_1 : decode cX1_takes 1 = .ok (.bipush 32, 2) := by decide +kernel
theorem dX1_takes_3 : decode cX1_takes 3 = .ok (.if_icmp .eq 9, 3) := by decide +kernel
theorem dX1_takes_6 : decode cX1_takes 6 = .ok (.iload_n 1, 1) := by decide +kernel
theorem dX1_takes_7 : decode cX1_takes 7 = .ok (.bipush 10, 2) := by decide +kernel
theorem dX1_takes_9 : decode cX1_takes 9 = .ok (.if_icmp .ne 7, 3) := by decide +kernel
theorem dX1_takes_12 : decode cX1_takes 12 = .ok (.iconst 1, 1) := by decide +kernel
theorem dX1_takes_13 : decode cX1_takes 13 = .ok (.goto 4, 3) := by decide +kernel
theorem dX1_takes_16 : decode cX1_takes 16 = .ok (.iconst 0, 1) := by decide +kernel
theorem dX1_takes_17 : decode cX1_takes 17 = .ok (.istore_n 2, 1) := by decide +kernel
theorem dX1_takes_18 : decode cX1_takes 18 = .ok (.iload_n 1, 1) := by decide +kernel
theorem dX1_takes_19 : decode cX1_takes 19 = .ok (.bipush 48, 2) := by decide +kernel
theorem dX1_takes_21 : decode cX1_takes 21 = .ok (.if_icmp .lt 13, 3) := by decide +kernel
theorem dX1_takes_24 : decode cX1_takes 24 = .ok (.iload_n 1, 1) := by decide +kernel
theorem dX1_takes_25 : decode cX1_takes 25 = .ok (.bipush 57, 2) := by decide +kernel
theorem dX1_takes_27 : decode cX1_takes 27 = .ok (.if_icmp .gt 7, 3) := by decide +kernel
theorem dX1_takes_30 : decode cX1_takes 30 = .ok (.iconst 1, 1) := by decide +kernel
theorem dX1_takes_31 : decode cX1_takes 31 = .ok (.goto 4, 3) := by decide +kernel
theorem dX1_takes_34 : decode cX1_takes 34 = .ok (.iconst 0, 1) := by decide +kernel
theorem dX1_takes_35 : decode cX1_takes 35 = .ok (.istore_n 3, 1) := by decide +kernel
theorem dX1_takes_36 : decode cX1_takes 36 = .ok (.aload_n 0, 1) := by decide +kernel
theorem dX1_takes_37 : decode cX1_takes 37 = .ok (.getfield 27, 3) := by decide +kernel
theorem dX1_takes_40 : decode cX1_takes 40 = .ok (.tableswitch 100 0 2 #[28, 66, 93], 28) := by decide +kernel
theorem dX1_takes_68 : decode cX1_takes 68 = .ok (.iload_n 2, 1) := by decide +kernel
theorem dX1_takes_69 : decode cX1_takes 69 = .ok (.ifCond .ne 31, 3) := by decide +kernel
theorem dX1_takes_72 : decode cX1_takes 72 = .ok (.iload_n 3, 1) := by decide +kernel
theorem dX1_takes_73 : decode cX1_takes 73 = .ok (.ifCond .eq 14, 3) := by decide +kernel
theorem dX1_takes_76 : decode cX1_takes 76 = .ok (.aload_n 0, 1) := by decide +kernel
theorem dX1_takes_77 : decode cX1_takes 77 = .ok (.iload_n 1, 1) := by decide +kernel
theorem dX1_takes_78 : decode cX1_takes 78 = .ok (.bipush 48, 2) := by decide +kernel
theorem dX1_takes_80 : decode cX1_takes 80 = .ok (.isub, 1) := by decide +kernel
theorem dX1_takes_81 : decode cX1_takes 81 = .ok (.invokevirtual 43, 3) := by decide +kernel
theorem dX1_takes_84 : decode cX1_takes 84 = .ok (.ifCond .ne 16, 3) := by decide +kernel
theorem dX1_takes_87 : decode cX1_takes 87 = .ok (.iload_n 1, 1) := by decide +kernel
theorem dX1_takes_88 : decode cX1_takes 88 = .ok (.bipush 45, 2) := by decide +kernel
theorem dX1_takes_90 : decode cX1_takes 90 = .ok (.if_icmp .ne 14, 3) := by decide +kernel
theorem dX1_takes_93 : decode cX1_takes 93 = .ok (.aload_n 0, 1) := by decide +kernel
theorem dX1_takes_94 : decode cX1_takes 94 = .ok (.invokevirtual 47, 3) := by decide +kernel
theorem dX1_takes_97 : decode cX1_takes 97 = .ok (.ifCond .eq 7, 3) := by decide +kernel
theorem dX1_takes_100 : decode cX1_takes 100 = .ok (.iconst 1, 1) := by decide +kernel
theorem dX1_takes_101 : decode cX1_takes 101 = .ok (.goto 4, 3) := by decide +kernel
theorem dX1_takes_104 : decode cX1_takes 104 = .ok (.iconst 0, 1) := by decide +kernel
theorem dX1_takes_105 : decode cX1_takes 105 = .ok (.ireturn, 1) := by decide +kernel
theorem dX1_takes_106 : decode cX1_takes 106 = .ok (.iload_n 3, 1) := by decide +kernel
theorem dX1_takes_107 : decode cX1_takes 107 = .ok (.ifCond .eq 24, 3) := by decide +kernel
theorem dX1_takes_110 : decode cX1_takes 110 = .ok (.iload_n 1, 1) := by decide +kernel
theorem dX1_takes_111 : decode cX1_takes 111 = .ok (.bipush 48, 2) := by decide +kernel
theorem dX1_takes_113 : decode cX1_takes 113 = .ok (.if_icmp .eq 18, 3) := by decide +kernel
theorem dX1_takes_116 : decode cX1_takes 116 = .ok (.aload_n 0, 1) := by decide +kernel
theorem dX1_takes_117 : decode cX1_takes 117 = .ok (.iload_n 1, 1) := by decide +kernel
theorem dX1_takes_118 : decode cX1_takes 118 = .ok (.bipush 48, 2) := by decide +kernel
theorem dX1_takes_120 : decode cX1_takes 120 = .ok (.isub, 1) := by decide +kernel
theorem dX1_takes_121 : decode cX1_takes 121 = .ok (.invokevirtual 51, 3) := by decide +kernel
theorem dX1_takes_124 : decode cX1_takes 124 = .ok (.ifCond .eq 7, 3) := by decide +kernel
theorem dX1_takes_127 : decode cX1_takes 127 = .ok (.iconst 1, 1) := by decide +kernel
theorem dX1_takes_128 : decode cX1_takes 128 = .ok (.goto 4, 3) := by decide +kernel
theorem dX1_takes_131 : decode cX1_takes 131 = .ok (.iconst 0, 1) := by decide +kernel
theorem dX1_takes_132 : decode cX1_takes 132 = .ok (.ireturn, 1) := by decide +kernel
theorem dX1_takes_133 : decode cX1_takes 133 = .ok (.aload_n 0, 1) := by decide +kernel
theorem dX1_takes_134 : decode cX1_takes 134 = .ok (.iconst 0, 1) := by decide +kernel
theorem dX1_takes_135 : decode cX1_takes 135 = .ok (.putfield 27, 3) := by decide +kernel
theorem dX1_takes_138 : decode cX1_takes 138 = .ok (.iload_n 2, 1) := by decide +kernel
theorem dX1_takes_139 : decode cX1_takes 139 = .ok (.ireturn, 1) := by decide +kernel
theorem dX1_takes_140 : decode cX1_takes 140 = .ok (.iload_n 2, 1) := by decide +kernel
theorem dX1_takes_141 : decode cX1_takes 141 = .ok (.ifCond .eq 10, 3) := by decide +kernel
theorem dX1_takes_144 : decode cX1_takes 144 = .ok (.aload_n 0, 1) := by decide +kernel
theorem dX1_takes_145 : decode cX1_takes 145 = .ok (.invokevirtual 54, 3) := by decide +kernel
theorem dX1_takes_148 : decode cX1_takes 148 = .ok (.goto 23, 3) := by decide +kernel
theorem dX1_takes_151 : decode cX1_takes 151 = .ok (.iload_n 3, 1) := by decide +kernel
theorem dX1_takes_152 : decode cX1_takes 152 = .ok (.ifCond .eq 18, 3) := by decide +kernel
theorem dX1_takes_155 : decode cX1_takes 155 = .ok (.aload_n 0, 1) := by decide +kernel
theorem dX1_takes_156 : decode cX1_takes 156 = .ok (.iload_n 1, 1) := by decide +kernel
theorem dX1_takes_157 : decode cX1_takes 157 = .ok (.bipush 48, 2) := by decide +kernel
theorem dX1_takes_159 : decode cX1_takes 159 = .ok (.isub, 1) := by decide +kernel
theorem dX1_takes_160 : decode cX1_takes 160 = .ok (.invokevirtual 51, 3) := by decide +kernel
theorem dX1_takes_163 : decode cX1_takes 163 = .ok (.ifCond .eq 7, 3) := by decide +kernel
theorem dX1_takes_166 : decode cX1_takes 166 = .ok (.iconst 1, 1) := by decide +kernel
theorem dX1_takes_167 : decode cX1_takes 167 = .ok (.goto 4, 3) := by decide +kernel
theorem dX1_takes_170 : decode cX1_takes 170 = .ok (.iconst 0, 1) := by decide +kernel
theorem dX1_takes_171 : decode cX1_takes 171 = .ok (.ireturn, 1) := by decide +kernel
abbrev mtX1_takes : mj_T := (yX1_takes.cls, cX1_takes, 4, (some .boolean), mj_no, yX1_takes.name)
abbrev kX1_takes (k0 : Nat) (x1 : Int32) (g : mj_S) (M : mj_M) (q : Int32 → mj_M → Prop) : Prop := mj_CI yX1_takes (.code yX1_takes cX1_takes 4 (some .boolean)) 3 [.ref (k0), .int (x1)] g M q
theorem kiX1_takes : mj_cV yX1_takes cX1_takes 4 (some .boolean) 1 := ⟨⟨wd_919, wd_920, wd_6, wd_921⟩, ⟨by decide +kernel, by decide +kernel, by decide +kernel⟩, Nat.le_of_ble_eq_true rfl⟩
theorem eX1_takes {k0 : Nat} {x1 : Int32} {g : mj_S} {M : mj_M} {q : Int32 → mj_M → Prop} (h0 : is1 g k0) (h : ((x1 : Int32) = (32 : Int32) → ((x1 : Int32) < (48 : Int32) → (((M).1 (k0) 2 : Int32) = 0 → (¬ (1 : Int32) = 0 → q 1 (M)) ∧ ((1 : Int32) = 0 → ((0 : Int32) = 0 → (¬ (x1 : Int32) = (45 : Int32) → q 0 (M)) ∧ ((x1 : Int32) = (45 : Int32) → ∃ (q1 : Int32 → mj_M → Prop), kX1_takesMinus (k0) g (M) q1 ∧ ∀ (v1 : Int32) (M1 : mj_M), q1 v1 M1 → (((v1 : Int32) = 0 → q 0 (M1)) ∧ (¬ (v1 : Int32) = 0 → q 1 (M1))))) ∧ (¬ (0 : Int32) = 0 → ∃ (q2 : Int32 → mj_M → Prop), kX1_takesFirstDigit (k0) ((x1) - (48 : Int32)) g (M) q2 ∧ ∀ (v2 : Int32) (M2 : mj_M), q2 v2 M2 → ((¬ (v2 : Int32) = 0 → q 1 (M2)) ∧ ((v2 : Int32) = 0 → (¬ (x1 : Int32) = (45 : Int32) → q 0 (M2)) ∧ ((x1 : Int32) = (45 : Int32) → ∃ (q3 : Int32 → mj_M → Prop), kX1_takesMinus (k0) g (M2) q3 ∧ ∀ (v3 : Int32) (M3 : mj_M), q3 v3 M3 → (((v3 : Int32) = 0 → q 0 (M3)) ∧ (¬ (v3 : Int32) = 0 → q 1 (M3))))))))) ∧ (((M).1 (k0) 2 : Int32) = 1 → ((0 : Int32) = 0 → q 0 (M)) ∧ (¬ (0 : Int32) = 0 → ((x1 : Int32) = (48 : Int32) → q 0 (M)) ∧ (¬ (x1 : Int32) = (48 : Int32) → ∃ (q4 : Int32 → mj_M → Prop), kX1_takesDigit (k0) ((x1) - (48 : Int32)) g (M) q4 ∧ ∀ (v4 : Int32) (M4 : mj_M), q4 v4 M4 → (((v4 : Int32) = 0 → q 0 (M4)) ∧ (¬ (v4 : Int32) = 0 → q 1 (M4)))))) ∧ (((M).1 (k0) 2 : Int32) = 2 → q 1 (mj_wI (M) (k0) 2 (0))) ∧ (¬ ((M).1 (k0) 2 : Int32) = 0 ∧ ¬ ((M).1 (k0) 2 : Int32) = 1 ∧ ¬ ((M).1 (k0) 2 : Int32) = 2 → ((1 : Int32) = 0 → ((0 : Int32) = 0 → q 0 (M)) ∧ (¬ (0 : Int32) = 0 → ∃ (q5 : Int32 → mj_M → Prop), kX1_takesDigit (k0) ((x1) - (48 : Int32)) g (M) q5 ∧ ∀ (v5 : Int32) (M5 : mj_M), q5 v5 M5 → (((v5 : Int32) = 0 → q 0 (M5)) ∧ (¬ (v5 : Int32) = 0 → q 1 (M5))))) ∧ (¬ (1 : Int32) = 0 → ∃ (q6 : Int32 → mj_M → Prop), kX1_endsLiteral (k0) g (M) q6 ∧ ∀ (v6 : Int32) (M6 : mj_M), q6 v6 M6 → (((v6 : Int32) = 0 ∨ (v6 : Int32) = 1) ∧ q (v6) (M6))))) ∧ (¬ (x1 : Int32) < (48 : Int32) → ((57 : Int32) < (x1) → (((M).1 (k0) 2 : Int32) = 0 → (¬ (1 : Int32) = 0 → q 1 (M)) ∧ ((1 : Int32) = 0 → ((0 : Int32) = 0 → (¬ (x1 : Int32) = (45 : Int32) → q 0 (M)) ∧ ((x1 : Int32) = (45 : Int32) → ∃ (q7 : Int32 → mj_M → Prop), kX1_takesMinus (k0) g (M) q7 ∧ ∀ (v7 : Int32) (M7 : mj_M), q7 v7 M7 → (((v7 : Int32) = 0 → q 0 (M7)) ∧ (¬ (v7 : Int32) = 0 → q 1 (M7))))) ∧ (¬ (0 : Int32) = 0 → ∃ (q8 : Int32 → mj_M → Prop), kX1_takesFirstDigit (k0) ((x1) - (48 : Int32)) g (M) q8 ∧ ∀ (v8 : Int32) (M8 : mj_M), q8 v8 M8 → ((¬ (v8 : Int32) = 0 → q 1 (M8)) ∧ ((v8 : Int32) = 0 → (¬ (x1 : Int32) = (45 : Int32) → q 0 (M8)) ∧ ((x1 : Int32) = (45 : Int32) → ∃ (q9 : Int32 → mj_M → Prop), kX1_takesMinus (k0) g (M8) q9 ∧ ∀ (v9 : Int32) (M9 : mj_M), q9 v9 M9 → (((v9 : Int32) = 0 → q 0 (M9)) ∧ (¬ (v9 : Int32) = 0 → q 1 (M9))))))))) ∧ (((M).1 (k0) 2 : Int32) = 1 → ((0 : Int32) = 0 → q 0 (M)) ∧ (¬ (0 : Int32) = 0 → ((x1 : Int32) = (48 : Int32) → q 0 (M)) ∧ (¬ (x1 : Int32) = (48 : Int32) → ∃ (q10 : Int32 → mj_M → Prop), kX1_takesDigit (k0) ((x1) - (48 : Int32)) g (M) q10 ∧ ∀ (v10 : Int32) (M10 : mj_M), q10 v10 M10 → (((v10 : Int32) = 0 → q 0 (M10)) ∧ (¬ (v10 : Int32) = 0 → q 1 (M10)))))) ∧ (((M).1 (k0) 2 : Int32) = 2 → q 1 (mj_wI (M) (k0) 2 (0))) ∧ (¬ ((M).1 (k0) 2 : Int32) = 0 ∧ ¬ ((M).1 (k0) 2 : Int32) = 1 ∧ ¬ ((M).1 (k0) 2 : Int32) = 2 → ((1 : Int32) = 0 → ((0 : Int32) = 0 → q 0 (M)) ∧ (¬ (0 : Int32) = 0 → ∃ (q11 : Int32 → mj_M → Prop), kX1_takesDigit (k0) ((x1) - (48 : Int32)) g (M) q11 ∧ ∀ (v11 : Int32) (M11 : mj_M), q11 v11 M11 → (((v11 : Int32) = 0 → q 0 (M11)) ∧ (¬ (v11 : Int32) = 0 → q 1 (M11))))) ∧ (¬ (1 : Int32) = 0 → ∃ (q12 : Int32 → mj_M → Prop), kX1_endsLiteral (k0) g (M) q12 ∧ ∀ (v12 : Int32) (M12 : mj_M), q12 v12 M12 → (((v12 : Int32) = 0 ∨ (v12 : Int32) = 1) ∧ q (v12) (M12))))) ∧ (¬ (57 : Int32) < (x1) → (((M).1 (k0) 2 : Int32) = 0 → (¬ (1 : Int32) = 0 → q 1 (M)) ∧ ((1 : Int32) = 0 → ((1 : Int32) = 0 → (¬ (x1 : Int32) = (45 : Int32) → q 0 (M)) ∧ ((x1 : Int32) = (45 : Int32) → ∃ (q13 : Int32 → mj_M → Prop), kX1_takesMinus (k0) g (M) q13 ∧ ∀ (v13 : Int32) (M13 : mj_M), q13 v13 M13 → (((v13 : Int32) = 0 → q 0 (M13)) ∧ (¬ (v13 : Int32) = 0 → q 1 (M13))))) ∧ (¬ (1 : Int32) = 0 → ∃ (q14 : Int32 → mj_M → Prop), kX1_takesFirstDigit (k0) ((x1) - (48 : Int32)) g (M) q14 ∧ ∀ (v14 : Int32) (M14 : mj_M), q14 v14 M14 → ((¬ (v14 : Int32) = 0 → q 1 (M14)) ∧ ((v14 : Int32) = 0 → (¬ (x1 : Int32) = (45 : Int32) → q 0 (M14)) ∧ ((x1 : Int32) = (45 : Int32) → ∃ (q15 : Int32 → mj_M → Prop), kX1_takesMinus (k0) g (M14) q15 ∧ ∀ (v15 : Int32) (M15 : mj_M), q15 v15 M15 → (((v15 : Int32) = 0 → q 0 (M15)) ∧ (¬ (v15 : Int32) = 0 → q 1 (M15))))))))) ∧ (((M).1 (k0) 2 : Int32) = 1 → ((1 : Int32) = 0 → q 0 (M)) ∧ (¬ (1 : Int32) = 0 → ((x1 : Int32) = (48 : Int32) → q 0 (M)) ∧ (¬ (x1 : Int32) = (48 : Int32) → ∃ (q16 : Int32 → mj_M → Prop), kX1_takesDigit (k0) ((x1) - (48 : Int32)) g (M) q16 ∧ ∀ (v16 : Int32) (M16 : mj_M), q16 v16 M16 → (((v16 : Int32) = 0 → q 0 (M16)) ∧ (¬ (v16 : Int32) = 0 → q 1 (M16)))))) ∧ (((M).1 (k0) 2 : Int32) = 2 → q 1 (mj_wI (M) (k0) 2 (0))) ∧ (¬ ((M).1 (k0) 2 : Int32) = 0 ∧ ¬ ((M).1 (k0) 2 : Int32) = 1 ∧ ¬ ((M).1 (k0) 2 : Int32) = 2 → ((1 : Int32) = 0 → ((1 : Int32) = 0 → q 0 (M)) ∧ (¬ (1 : Int32) = 0 → ∃ (q17 : Int32 → mj_M → Prop), kX1_takesDigit (k0) ((x1) - (48 : Int32)) g (M) q17 ∧ ∀ (v17 : Int32) (M17 : mj_M), q17 v17 M17 → (((v17 : Int32) = 0 → q 0 (M17)) ∧ (¬ (v17 : Int32) = 0 → q 1 (M17))))) ∧ (¬ (1 : Int32) = 0 → ∃ (q18 : Int32 → mj_M → Prop), kX1_endsLiteral (k0) g (M) q18 ∧ ∀ (v18 : Int32) (M18 : mj_M), q18 v18 M18 → (((v18 : Int32) = 0 ∨ (v18 : Int32) = 1) ∧ q (v18) (M18))))))) ∧ (¬ (x1 : Int32) = (32 : Int32) → (¬ (x1 : Int32) = (10 : Int32) → ((x1 : Int32) < (48 : Int32) → (((M).1 (k0) 2 : Int32) = 0 → (¬ (0 : Int32) = 0 → q 1 (M)) ∧ ((0 : Int32) = 0 → ((0 : Int32) = 0 → (¬ (x1 : Int32) = (45 : Int32) → q 0 (M)) ∧ ((x1 : Int32) = (45 : Int32) → ∃ (q19 : Int32 → mj_M → Prop), kX1_takesMinus (k0) g (M) q19 ∧ ∀ (v19 : Int32) (M19 : mj_M), q19 v19 M19 → (((v19 : Int32) = 0 → q 0 (M19)) ∧ (¬ (v19 : Int32) = 0 → q 1 (M19))))) ∧ (¬ (0 : Int32) = 0 → ∃ (q20 : Int32 → mj_M → Prop), kX1_takesFirstDigit (k0) ((x1) - (48 : Int32)) g (M) q20 ∧ ∀ (v20 : Int32) (M20 : mj_M), q20 v20 M20 → ((¬ (v20 : Int32) = 0 → q 1 (M20)) ∧ ((v20 : Int32) = 0 → (¬ (x1 : Int32) = (45 : Int32) → q 0 (M20)) ∧ ((x1 : Int32) = (45 : Int32) → ∃ (q21 : Int32 → mj_M → Prop), kX1_takesMinus (k0) g (M20) q21 ∧ ∀ (v21 : Int32) (M21 : mj_M), q21 v21 M21 → (((v21 : Int32) = 0 → q 0 (M21)) ∧ (¬ (v21 : Int32) = 0 → q 1 (M21))))))))) ∧ (((M).1 (k0) 2 : Int32) = 1 → ((0 : Int32) = 0 → q 0 (M)) ∧ (¬ (0 : Int32) = 0 → ((x1 : Int32) = (48 : Int32) → q 0 (M)) ∧ (¬ (x1 : Int32) = (48 : Int32) → ∃ (q22 : Int32 → mj_M → Prop), kX1_takesDigit (k0) ((x1) - (48 : Int32)) g (M) q22 ∧ ∀ (v22 : Int32) (M22 : mj_M), q22 v22 M22 → (((v22 : Int32) = 0 → q 0 (M22)) ∧ (¬ (v22 : Int32) = 0 → q 1 (M22)))))) ∧ (((M).1 (k0) 2 : Int32) = 2 → q 0 (mj_wI (M) (k0) 2 (0))) ∧ (¬ ((M).1 (k0) 2 : Int32) = 0 ∧ ¬ ((M).1 (k0) 2 : Int32) = 1 ∧ ¬ ((M).1 (k0) 2 : Int32) = 2 → ((0 : Int32) = 0 → ((0 : Int32) = 0 → q 0 (M)) ∧ (¬ (0 : Int32) = 0 → ∃ (q23 : Int32 → mj_M → Prop), kX1_takesDigit (k0) ((x1) - (48 : Int32)) g (M) q23 ∧ ∀ (v23 : Int32) (M23 : mj_M), q23 v23 M23 → (((v23 : Int32) = 0 → q 0 (M23)) ∧ (¬ (v23 : Int32) = 0 → q 1 (M23))))) ∧ (¬ (0 : Int32) = 0 → ∃ (q24 : Int32 → mj_M → Prop), kX1_endsLiteral (k0) g (M) q24 ∧ ∀ (v24 : Int32) (M24 : mj_M), q24 v24 M24 → (((v24 : Int32) = 0 ∨ (v24 : Int32) = 1) ∧ q (v24) (M24))))) ∧ (¬ (x1 : Int32) < (48 : Int32) → ((57 : Int32) < (x1) → (((M).1 (k0) 2 : Int32) = 0 → (¬ (0 : Int32) = 0 → q 1 (M)) ∧ ((0 : Int32) = 0 → ((0 : Int32) = 0 → (¬ (x1 : Int32) = (45 : Int32) → q 0 (M)) ∧ ((x1 : Int32) = (45 : Int32) → ∃ (q25 : Int32 → mj_M → Prop), kX1_takesMinus (k0) g (M) q25 ∧ ∀ (v25 : Int32) (M25 : mj_M), q25 v25 M25 → (((v25 : Int32) = 0 → q 0 (M25)) ∧ (¬ (v25 : Int32) = 0 → q 1 (M25))))) ∧ (¬ (0 : Int32) = 0 → ∃ (q26 : Int32 → mj_M → Prop), kX1_takesFirstDigit (k0) ((x1) - (48 : Int32)) g (M) q26 ∧ ∀ (v26 : Int32) (M26 : mj_M), q26 v26 M26 → ((¬ (v26 : Int32) = 0 → q 1 (M26)) ∧ ((v26 : Int32) = 0 → (¬ (x1 : Int32) = (45 : Int32) → q 0 (M26)) ∧ ((x1 : Int32) = (45 : Int32) → ∃ (q27 : Int32 → mj_M → Prop), kX1_takesMinus (k0) g (M26) q27 ∧ ∀ (v27 : Int32) (M27 : mj_M), q27 v27 M27 → (((v27 : Int32) = 0 → q 0 (M27)) ∧ (¬ (v27 : Int32) = 0 → q 1 (M27))))))))) ∧ (((M).1 (k0) 2 : Int32) = 1 → ((0 : Int32) = 0 → q 0 (M)) ∧ (¬ (0 : Int32) = 0 → ((x1 : Int32) = (48 : Int32) → q 0 (M)) ∧ (¬ (x1 : Int32) = (48 : Int32) → ∃ (q28 : Int32 → mj_M → Prop), kX1_takesDigit (k0) ((x1) - (48 : Int32)) g (M) q28 ∧ ∀ (v28 : Int32) (M28 : mj_M), q28 v28 M28 → (((v28 : Int32) = 0 → q 0 (M28)) ∧ (¬ (v28 : Int32) = 0 → q 1 (M28)))))) ∧ (((M).1 (k0) 2 : Int32) = 2 → q 0 (mj_wI (M) (k0) 2 (0))) ∧ (¬ ((M).1 (k0) 2 : Int32) = 0 ∧ ¬ ((M).1 (k0) 2 : Int32) = 1 ∧ ¬ ((M).1 (k0) 2 : Int32) = 2 → ((0 : Int32) = 0 → ((0 : Int32) = 0 → q 0 (M)) ∧ (¬ (0 : Int32) = 0 → ∃ (q29 : Int32 → mj_M → Prop), kX1_takesDigit (k0) ((x1) - (48 : Int32)) g (M) q29 ∧ ∀ (v29 : Int32) (M29 : mj_M), q29 v29 M29 → (((v29 : Int32) = 0 → q 0 (M29)) ∧ (¬ (v29 : Int32) = 0 → q 1 (M29))))) ∧ (¬ (0 : Int32) = 0 → ∃ (q30 : Int32 → mj_M → Prop), kX1_endsLiteral (k0) g (M) q30 ∧ ∀ (v30 : Int32) (M30 : mj_M), q30 v30 M30 → (((v30 : Int32) = 0 ∨ (v30 : Int32) = 1) ∧ q (v30) (M30))))) ∧ (¬ (57 : Int32) < (x1) → (((M).1 (k0) 2 : Int32) = 0 → (¬ (0 : Int32) = 0 → q 1 (M)) ∧ ((0 : Int32) = 0 → ((1 : Int32) = 0 → (¬ (x1 : Int32) = (45 : Int32) → q 0 (M)) ∧ ((x1 : Int32) = (45 : Int32) → ∃ (q31 : Int32 → mj_M → Prop), kX1_takesMinus (k0) g (M) q31 ∧ ∀ (v31 : Int32) (M31 : mj_M), q31 v31 M31 → (((v31 : Int32) = 0 → q 0 (M31)) ∧ (¬ (v31 : Int32) = 0 → q 1 (M31))))) ∧ (¬ (1 : Int32) = 0 → ∃ (q32 : Int32 → mj_M → Prop), kX1_takesFirstDigit (k0) ((x1) - (48 : Int32)) g (M) q32 ∧ ∀ (v32 : Int32) (M32 : mj_M), q32 v32 M32 → ((¬ (v32 : Int32) = 0 → q 1 (M32)) ∧ ((v32 : Int32) = 0 → (¬ (x1 : Int32) = (45 : Int32) → q 0 (M32)) ∧ ((x1 : Int32) = (45 : Int32) → ∃ (q33 : Int32 → mj_M → Prop), kX1_takesMinus (k0) g (M32) q33 ∧ ∀ (v33 : Int32) (M33 : mj_M), q33 v33 M33 → (((v33 : Int32) = 0 → q 0 (M33)) ∧ (¬ (v33 : Int32) = 0 → q 1 (M33))))))))) ∧ (((M).1 (k0) 2 : Int32) = 1 → ((1 : Int32) = 0 → q 0 (M)) ∧ (¬ (1 : Int32) = 0 → ((x1 : Int32) = (48 : Int32) → q 0 (M)) ∧ (¬ (x1 : Int32) = (48 : Int32) → ∃ (q34 : Int32 → mj_M → Prop), kX1_takesDigit (k0) ((x1) - (48 : Int32)) g (M) q34 ∧ ∀ (v34 : Int32) (M34 : mj_M), q34 v34 M34 → (((v34 : Int32) = 0 → q 0 (M34)) ∧ (¬ (v34 : Int32) = 0 → q 1 (M34)))))) ∧ (((M).1 (k0) 2 : Int32) = 2 → q 0 (mj_wI (M) (k0) 2 (0))) ∧ (¬ ((M).1 (k0) 2 : Int32) = 0 ∧ ¬ ((M).1 (k0) 2 : Int32) = 1 ∧ ¬ ((M).1 (k0) 2 : Int32) = 2 → ((0 : Int32) = 0 → ((1 : Int32) = 0 → q 0 (M)) ∧ (¬ (1 : Int32) = 0 → ∃ (q35 : Int32 → mj_M → Prop), kX1_takesDigit (k0) ((x1) - (48 : Int32)) g (M) q35 ∧ ∀ (v35 : Int32) (M35 : mj_M), q35 v35 M35 → (((v35 : Int32) = 0 → q 0 (M35)) ∧ (¬ (v35 : Int32) = 0 → q 1 (M35))))) ∧ (¬ (0 : Int32) = 0 → ∃ (q36 : Int32 → mj_M → Prop), kX1_endsLiteral (k0) g (M) q36 ∧ ∀ (v36 : Int32) (M36 : mj_M), q36 v36 M36 → (((v36 : Int32) = 0 ∨ (v36 : Int32) = 1) ∧ q (v36) (M36))))))) ∧ ((x1 : Int32) = (10 : Int32) → ((x1 : Int32) < (48 : Int32) → (((M).1 (k0) 2 : Int32) = 0 → (¬ (1 : Int32) = 0 → q 1 (M)) ∧ ((1 : Int32) = 0 → ((0 : Int32) = 0 → (¬ (x1 : Int32) = (45 : Int32) → q 0 (M)) ∧ ((x1 : Int32) = (45 : Int32) → ∃ (q37 : Int32 → mj_M → Prop), kX1_takesMinus (k0) g (M) q37 ∧ ∀ (v37 : Int32) (M37 : mj_M), q37 v37 M37 → (((v37 : Int32) = 0 → q 0 (M37)) ∧ (¬ (v37 : Int32) = 0 → q 1 (M37))))) ∧ (¬ (0 : Int32) = 0 → ∃ (q38 : Int32 → mj_M → Prop), kX1_takesFirstDigit (k0) ((x1) - (48 : Int32)) g (M) q38 ∧ ∀ (v38 : Int32) (M38 : mj_M), q38 v38 M38 → ((¬ (v38 : Int32) = 0 → q 1 (M38)) ∧ ((v38 : Int32) = 0 → (¬ (x1 : Int32) = (45 : Int32) → q 0 (M38)) ∧ ((x1 : Int32) = (45 : Int32) → ∃ (q39 : Int32 → mj_M → Prop), kX1_takesMinus (k0) g (M38) q39 ∧ ∀ (v39 : Int32) (M39 : mj_M), q39 v39 M39 → (((v39 : Int32) = 0 → q 0 (M39)) ∧ (¬ (v39 : Int32) = 0 → q 1 (M39))))))))) ∧ (((M).1 (k0) 2 : Int32) = 1 → ((0 : Int32) = 0 → q 0 (M)) ∧ (¬ (0 : Int32) = 0 → ((x1 : Int32) = (48 : Int32) → q 0 (M)) ∧ (¬ (x1 : Int32) = (48 : Int32) → ∃ (q40 : Int32 → mj_M → Prop), kX1_takesDigit (k0) ((x1) - (48 : Int32)) g (M) q40 ∧ ∀ (v40 : Int32) (M40 : mj_M), q40 v40 M40 → (((v40 : Int32) = 0 → q 0 (M40)) ∧ (¬ (v40 : Int32) = 0 → q 1 (M40)))))) ∧ (((M).1 (k0) 2 : Int32) = 2 → q 1 (mj_wI (M) (k0) 2 (0))) ∧ (¬ ((M).1 (k0) 2 : Int32) = 0 ∧ ¬ ((M).1 (k0) 2 : Int32) = 1 ∧ ¬ ((M).1 (k0) 2 : Int32) = 2 → ((1 : Int32) = 0 → ((0 : Int32) = 0 → q 0 (M)) ∧ (¬ (0 : Int32) = 0 → ∃ (q41 : Int32 → mj_M → Prop), kX1_takesDigit (k0) ((x1) - (48 : Int32)) g (M) q41 ∧ ∀ (v41 : Int32) (M41 : mj_M), q41 v41 M41 → (((v41 : Int32) = 0 → q 0 (M41)) ∧ (¬ (v41 : Int32) = 0 → q 1 (M41))))) ∧ (¬ (1 : Int32) = 0 → ∃ (q42 : Int32 → mj_M → Prop), kX1_endsLiteral (k0) g (M) q42 ∧ ∀ (v42 : Int32) (M42 : mj_M), q42 v42 M42 → (((v42 : Int32) = 0 ∨ (v42 : Int32) = 1) ∧ q (v42) (M42))))) ∧ (¬ (x1 : Int32) < (48 : Int32) → ((57 : Int32) < (x1) → (((M).1 (k0) 2 : Int32) = 0 → (¬ (1 : Int32) = 0 → q 1 (M)) ∧ ((1 : Int32) = 0 → ((0 : Int32) = 0 → (¬ (x1 : Int32) = (45 : Int32) → q 0 (M)) ∧ ((x1 : Int32) = (45 : Int32) → ∃ (q43 : Int32 → mj_M → Prop), kX1_takesMinus (k0) g (M) q43 ∧ ∀ (v43 : Int32) (M43 : mj_M), q43 v43 M43 → (((v43 : Int32) = 0 → q 0 (M43)) ∧ (¬ (v43 : Int32) = 0 → q 1 (M43))))) ∧ (¬ (0 : Int32) = 0 → ∃ (q44 : Int32 → mj_M → Prop), kX1_takesFirstDigit (k0) ((x1) - (48 : Int32)) g (M) q44 ∧ ∀ (v44 : Int32) (M44 : mj_M), q44 v44 M44 → ((¬ (v44 : Int32) = 0 → q 1 (M44)) ∧ ((v44 : Int32) = 0 → (¬ (x1 : Int32) = (45 : Int32) → q 0 (M44)) ∧ ((x1 : Int32) = (45 : Int32) → ∃ (q45 : Int32 → mj_M → Prop), kX1_takesMinus (k0) g (M44) q45 ∧ ∀ (v45 : Int32) (M45 : mj_M), q45 v45 M45 → (((v45 : Int32) = 0 → q 0 (M45)) ∧ (¬ (v45 : Int32) = 0 → q 1 (M45))))))))) ∧ (((M).1 (k0) 2 : Int32) = 1 → ((0 : Int32) = 0 → q 0 (M)) ∧ (¬ (0 : Int32) = 0 → ((x1 : Int32) = (48 : Int32) → q 0 (M)) ∧ (¬ (x1 : Int32) = (48 : Int32) → ∃ (q46 : Int32 → mj_M → Prop), kX1_takesDigit (k0) ((x1) - (48 : Int32)) g (M) q46 ∧ ∀ (v46 : Int32) (M46 : mj_M), q46 v46 M46 → (((v46 : Int32) = 0 → q 0 (M46)) ∧ (¬ (v46 : Int32) = 0 → q 1 (M46)))))) ∧ (((M).1 (k0) 2 : Int32) = 2 → q 1 (mj_wI (M) (k0) 2 (0))) ∧ (¬ ((M).1 (k0) 2 : Int32) = 0 ∧ ¬ ((M).1 (k0) 2 : Int32) = 1 ∧ ¬ ((M).1 (k0) 2 : Int32) = 2 → ((1 : Int32) = 0 → ((0 : Int32) = 0 → q 0 (M)) ∧ (¬ (0 : Int32) = 0 → ∃ (q47 : Int32 → mj_M → Prop), kX1_takesDigit (k0) ((x1) - (48 : Int32)) g (M) q47 ∧ ∀ (v47 : Int32) (M47 : mj_M), q47 v47 M47 → (((v47 : Int32) = 0 → q 0 (M47)) ∧ (¬ (v47 : Int32) = 0 → q 1 (M47))))) ∧ (¬ (1 : Int32) = 0 → ∃ (q48 : Int32 → mj_M → Prop), kX1_endsLiteral (k0) g (M) q48 ∧ ∀ (v48 : Int32) (M48 : mj_M), q48 v48 M48 → (((v48 : Int32) = 0 ∨ (v48 : Int32) = 1) ∧ q (v48) (M48))))) ∧ (¬ (57 : Int32) < (x1) → (((M).1 (k0) 2 : Int32) = 0 → (¬ (1 : Int32) = 0 → q 1 (M)) ∧ ((1 : Int32) = 0 → ((1 : Int32) = 0 → (¬ (x1 : Int32) = (45 : Int32) → q 0 (M)) ∧ ((x1 : Int32) = (45 : Int32) → ∃ (q49 : Int32 → mj_M → Prop), kX1_takesMinus (k0) g (M) q49 ∧ ∀ (v49 : Int32) (M49 : mj_M), q49 v49 M49 → (((v49 : Int32) = 0 → q 0 (M49)) ∧ (¬ (v49 : Int32) = 0 → q 1 (M49))))) ∧ (¬ (1 : Int32) = 0 → ∃ (q50 : Int32 → mj_M → Prop), kX1_takesFirstDigit (k0) ((x1) - (48 : Int32)) g (M) q50 ∧ ∀ (v50 : Int32) (M50 : mj_M), q50 v50 M50 → ((¬ (v50 : Int32) = 0 → q 1 (M50)) ∧ ((v50 : Int32) = 0 → (¬ (x1 : Int32) = (45 : Int32) → q 0 (M50)) ∧ ((x1 : Int32) = (45 : Int32) → ∃ (q51 : Int32 → mj_M → Prop), kX1_takesMinus (k0) g (M50) q51 ∧ ∀ (v51 : Int32) (M51 : mj_M), q51 v51 M51 → (((v51 : Int32) = 0 → q 0 (M51)) ∧ (¬ (v51 : Int32) = 0 → q 1 (M51))))))))) ∧ (((M).1 (k0) 2 : Int32) = 1 → ((1 : Int32) = 0 → q 0 (M)) ∧ (¬ (1 : Int32) = 0 → ((x1 : Int32) = (48 : Int32) → q 0 (M)) ∧ (¬ (x1 : Int32) = (48 : Int32) → ∃ (q52 : Int32 → mj_M → Prop), kX1_takesDigit (k0) ((x1) - (48 : Int32)) g (M) q52 ∧ ∀ (v52 : Int32) (M52 : mj_M), q52 v52 M52 → (((v52 : Int32) = 0 → q 0 (M52)) ∧ (¬ (v52 : Int32) = 0 → q 1 (M52)))))) ∧ (((M).1 (k0) 2 : Int32) = 2 → q 1 (mj_wI (M) (k0) 2 (0))) ∧ (¬ ((M).1 (k0) 2 : Int32) = 0 ∧ ¬ ((M).1 (k0) 2 : Int32) = 1 ∧ ¬ ((M).1 (k0) 2 : Int32) = 2 → ((1 : Int32) = 0 → ((1 : Int32) = 0 → q 0 (M)) ∧ (¬ (1 : Int32) = 0 → ∃ (q53 : Int32 → mj_M → Prop), kX1_takesDigit (k0) ((x1) - (48 : Int32)) g (M) q53 ∧ ∀ (v53 : Int32) (M53 : mj_M), q53 v53 M53 → (((v53 : Int32) = 0 → q 0 (M53)) ∧ (¬ (v53 : Int32) = 0 → q 1 (M53))))) ∧ (¬ (1 : Int32) = 0 → ∃ (q54 : Int32 → mj_M → Prop), kX1_endsLiteral (k0) g (M) q54 ∧ ∀ (v54 : Int32) (M54 : mj_M), q54 v54 M54 → (((v54 : Int32) = 0 ∨ (v54 : Int32) = 1) ∧ q (v54) (M54))))))))) : kX1_takes (k0) (x1) g M q := by
  intro d hd; refine mj_enter (by decide +kernel) (Nat.le_of_ble_eq_true rfl) ?_
  generalize (false : Bool) = ex
  show mj_G mtX1_takes (mj_rm d 0 0) (mj_Fi (mj_qI g q) mj_x0 0 0) ex 0 0 0 [(0, .ref (k0)), (1, .int (x1))] [] g M
  refine mg_iload_n dX1_takes_0 rfl 1 rfl ?_
  refine mg_bipush (v := 32) dX1_takes_1 (by decide) ?_
  refine mg_icmp_eq (tgt := 12) dX1_takes_3 (by decide) (fun hc => ?_) (fun hc => ?_)
  · replace h := h.1 hc
    refine mg_iconst (v := 1) dX1_takes_12 (by decide) ?_
    refine mg_goto (tgt := 17) dX1_takes_13 (by decide) ?_
    refine mg_istore_n (ls' := [(2, .int (1)), (0, .ref (k0)), (1, .int (x1))]) dX1_takes_17 rfl (Nat.le_of_ble_eq_true rfl) rfl ?_
    refine mg_iload_n dX1_takes_18 rfl 2 rfl ?_
    refine mg_bipush (v := 48) dX1_takes_19 (by decide) ?_
    refine mg_icmp_lt (tgt := 34) dX1_takes_21 (by decide) (fun hc => ?_) (fun hc => ?_)
    · replace h := h.1 hc
      refine mg_iconst (v := 0) dX1_takes_34 (by decide) ?_
      refine mg_istore_n (ls' := [(3, .int (0)), (2, .int (1)), (0, .ref (k0)), (1, .int (x1))]) dX1_takes_35 rfl (Nat.le_of_ble_eq_true rfl) rfl ?_
      refine mg_aload_n dX1_takes_36 rfl 2 rfl ?_
      refine mg_getI (j := 2) dX1_takes_37 kc_1 (Nat.le_of_ble_eq_true rfl) wd_129 rfl rfl h0.1.1 h0.1.2 rfl ?_
      by_cases e0 : ((M).1 (k0) 2 : Int32) = 0
      · replace h := h.1 e0
        refine mg_tblC (off := 28) (tgt := 68) dX1_takes_40 e0 (by decide) (by decide) rfl (by decide) ?_
        refine mg_iload_n dX1_takes_68 rfl 1 rfl ?_
        refine mg_if_ne (tgt := 100) dX1_takes_69 (by decide) (fun hc => ?_) (fun hc => ?_)
        · replace h := h.1 hc
          refine mg_iconst (v := 1) dX1_takes_100 (by decide) ?_
          refine mg_goto (tgt := 105) dX1_takes_101 (by decide) ?_
          exact me_z dX1_takes_105 rfl (Or.inr rfl) h
        · replace h := h.2 hc
          refine mg_iload_n dX1_takes_72 rfl 0 rfl ?_
          refine mg_if_eq (tgt := 87) dX1_takes_73 (by decide) (fun hc => ?_) (fun hc => ?_)
          · replace h := h.1 hc
            refine mg_iload_n dX1_takes_87 rfl 3 rfl ?_
            refine mg_bipush (v := 45) dX1_takes_88 (by decide) ?_
            refine mg_icmp_ne (tgt := 104) dX1_takes_90 (by decide) (fun hc => ?_) (fun hc => ?_)
            · replace h := h.1 hc
              refine mg_iconst (v := 0) dX1_takes_104 (by decide) ?_
              exact me_z dX1_takes_105 rfl (Or.inl rfl) h
            · replace h := h.2 hc
              refine mg_aload_n dX1_takes_93 rfl 2 rfl ?_
              obtain ⟨q1, hC, hk⟩ := h
              refine mc_Vi [] [] dX1_takes_94 wd_936 kiX1_takesMinus (Nat.le_of_ble_eq_true rfl) h0.1.1 h0.1.2 rfl (Nat.le_trans (Nat.le_of_ble_eq_true rfl) hd) hC (fun v1 M1 hq => ?_)
              replace h := hk v1 M1 hq
              refine mg_if_eq (tgt := 104) dX1_takes_97 (by decide) (fun hc => ?_) (fun hc => ?_)
              · replace h := h.1 hc
                refine mg_iconst (v := 0) dX1_takes_104 (by decide) ?_
                exact me_z dX1_takes_105 rfl (Or.inl rfl) h
              · replace h := h.2 hc
                refine mg_iconst (v := 1) dX1_takes_100 (by decide) ?_
                refine mg_goto (tgt := 105) dX1_takes_101 (by decide) ?_
                exact me_z dX1_takes_105 rfl (Or.inr rfl) h
          · replace h := h.2 hc
            refine mg_aload_n dX1_takes_76 rfl 2 rfl ?_
            refine mg_iload_n dX1_takes_77 rfl 3 rfl ?_
            refine mg_bipush (v := 48) dX1_takes_78 (by decide) ?_
            refine mg_isub dX1_takes_80 ?_
            obtain ⟨q2, hC, hk⟩ := h
            refine mc_Vi [.int ((x1) - (48 : Int32))] [] dX1_takes_81 wd_922 kiX1_takesFirstDigit (Nat.le_of_ble_eq_true rfl) h0.1.1 h0.1.2 rfl (Nat.le_trans (Nat.le_of_ble_eq_true rfl) hd) hC (fun v2 M2 hq => ?_)
            replace h := hk v2 M2 hq
            refine mg_if_ne (tgt := 100) dX1_takes_84 (by decide) (fun hc => ?_) (fun hc => ?_)
            · replace h := h.1 hc
              refine mg_iconst (v := 1) dX1_takes_100 (by decide) ?_
              refine mg_goto (tgt := 105) dX1_takes_101 (by decide) ?_
              exact me_z dX1_takes_105 rfl (Or.inr rfl) h
            · replace h := h.2 hc
              refine mg_iload_n dX1_takes_87 rfl 3 rfl ?_
              refine mg_bipush (v := 45) dX1_takes_88 (by decide) ?_
              refine mg_icmp_ne (tgt := 104) dX1_takes_90 (by decide) (fun hc => ?_) (fun hc => ?_)
              · replace h := h.1 hc
                refine mg_iconst (v := 0) dX1_takes_104 (by decide) ?_
                exact me_z dX1_takes_105 rfl (Or.inl rfl) h
              · replace h := h.2 hc
                refine mg_aload_n dX1_takes_93 rfl 2 rfl ?_
                obtain ⟨q3, hC, hk⟩ := h
                refine mc_Vi [] [] dX1_takes_94 wd_936 kiX1_takesMinus (Nat.le_of_ble_eq_true rfl) h0.1.1 h0.1.2 rfl (Nat.le_trans (Nat.le_of_ble_eq_true rfl) hd) hC (fun v3 M3 hq => ?_)
                replace h := hk v3 M3 hq
                refine mg_if_eq (tgt := 104) dX1_takes_97 (by decide) (fun hc => ?_) (fun hc => ?_)
                · replace h := h.1 hc
                  refine mg_iconst (v := 0) dX1_takes_104 (by decide) ?_
                  exact me_z dX1_takes_105 rfl (Or.inl rfl) h
                · replace h := h.2 hc
                  refine mg_iconst (v := 1) dX1_takes_100 (by decide) ?_
                  refine mg_goto (tgt := 105) dX1_takes_101 (by decide) ?_
                  exact me_z dX1_takes_105 rfl (Or.inr rfl) h
      by_cases e1 : ((M).1 (k0) 2 : Int32) = 1
      · replace h := h.2.1 e1
        refine mg_tblC (off := 66) (tgt := 106) dX1_takes_40 e1 (by decide) (by decide) rfl (by decide) ?_
        refine mg_iload_n dX1_takes_106 rfl 0 rfl ?_
        refine mg_if_eq (tgt := 131) dX1_takes_107 (by decide) (fun hc => ?_) (fun hc => ?_)
        · replace h := h.1 hc
          refine mg_iconst (v := 0) dX1_takes_131 (by decide) ?_
          exact me_z dX1_takes_132 rfl (Or.inl rfl) h
        · replace h := h.2 hc
          refine mg_iload_n dX1_takes_110 rfl 3 rfl ?_
          refine mg_bipush (v := 48) dX1_takes_111 (by decide) ?_
          refine mg_icmp_eq (tgt := 131) dX1_takes_113 (by decide) (fun hc => ?_) (fun hc => ?_)
          · replace h := h.1 hc
            refine mg_iconst (v := 0) dX1_takes_131 (by decide) ?_
            exact me_z dX1_takes_132 rfl (Or.inl rfl) h
          · replace h := h.2 hc
            refine mg_aload_n dX1_takes_116 rfl 2 rfl ?_
            refine mg_iload_n dX1_takes_117 rfl 3 rfl ?_
            refine mg_bipush (v := 48) dX1_takes_118 (by decide) ?_
            refine mg_isub dX1_takes_120 ?_
            obtain ⟨q4, hC, hk⟩ := h
            refine mc_Vi [.int ((x1) - (48 : Int32))] [] dX1_takes_121 wd_932 kiX1_takesDigit (Nat.le_of_ble_eq_true rfl) h0.1.1 h0.1.2 rfl (Nat.le_trans (Nat.le_of_ble_eq_true rfl) hd) hC (fun v4 M4 hq => ?_)
            replace h := hk v4 M4 hq
            refine mg_if_eq (tgt := 131) dX1_takes_124 (by decide) (fun hc => ?_) (fun hc => ?_)
            · replace h := h.1 hc
              refine mg_iconst (v := 0) dX1_takes_131 (by decide) ?_
              exact me_z dX1_takes_132 rfl (Or.inl rfl) h
            · replace h := h.2 hc
              refine mg_iconst (v := 1) dX1_takes_127 (by decide) ?_
              refine mg_goto (tgt := 132) dX1_takes_128 (by decide) ?_
              exact me_z dX1_takes_132 rfl (Or.inr rfl) h
      by_cases e2 : ((M).1 (k0) 2 : Int32) = 2
      · replace h := h.2.2.1 e2
        refine mg_tblC (off := 93) (tgt := 133) dX1_takes_40 e2 (by decide) (by decide) rfl (by decide) ?_
        refine mg_aload_n dX1_takes_133 rfl 2 rfl ?_
        refine mg_iconst (v := 0) dX1_takes_134 (by decide) ?_
        refine mg_putI (j := 2) dX1_takes_135 kc_1 (Nat.le_of_ble_eq_true rfl) wd_129 rfl rfl rfl h0.1.1 h0.1.2 ?_
        refine mg_iload_n dX1_takes_138 rfl 1 rfl ?_
        exact me_z dX1_takes_139 rfl (Or.inr rfl) h
      replace h := h.2.2.2 ⟨e0, e1, e2⟩
      refine mg_tblD (tgt := 140) [0, 1, 2] dX1_takes_40 (by decide) (by decide) (List.forall_mem_cons.mpr ⟨mj_neT e0 rfl, List.forall_mem_cons.mpr ⟨mj_neT e1 rfl, List.forall_mem_cons.mpr ⟨mj_neT e2 rfl, fun _ h9 => nomatch h9⟩⟩⟩) (by decide) ?_
      refine mg_iload_n dX1_takes_140 rfl 1 rfl ?_
      refine mg_if_eq (tgt := 151) dX1_takes_141 (by decide) (fun hc => ?_) (fun hc => ?_)
      · replace h := h.1 hc
        refine mg_iload_n dX1_takes_151 rfl 0 rfl ?_
        refine mg_if_eq (tgt := 170) dX1_takes_152 (by decide) (fun hc => ?_) (fun hc => ?_)
        · replace h := h.1 hc
          refine mg_iconst (v := 0) dX1_takes_170 (by decide) ?_
          exact me_z dX1_takes_171 rfl (Or.inl rfl) h
        · replace h := h.2 hc
          refine mg_aload_n dX1_takes_155 rfl 2 rfl ?_
          refine mg_iload_n dX1_takes_156 rfl 3 rfl ?_
          refine mg_bipush (v := 48) dX1_takes_157 (by decide) ?_
          refine mg_isub dX1_takes_159 ?_
          obtain ⟨q5, hC, hk⟩ := h
          refine mc_Vi [.int ((x1) - (48 : Int32))] [] dX1_takes_160 wd_932 kiX1_takesDigit (Nat.le_of_ble_eq_true rfl) h0.1.1 h0.1.2 rfl (Nat.le_trans (Nat.le_of_ble_eq_true rfl) hd) hC (fun v5 M5 hq => ?_)
          replace h := hk v5 M5 hq
          refine mg_if_eq (tgt := 170) dX1_takes_163 (by decide) (fun hc => ?_) (fun hc => ?_)
          · replace h := h.1 hc
            refine mg_iconst (v := 0) dX1_takes_170 (by decide) ?_
            exact me_z dX1_takes_171 rfl (Or.inl rfl) h
          · replace h := h.2 hc
            refine mg_iconst (v := 1) dX1_takes_166 (by decide) ?_
            refine mg_goto (tgt := 171) dX1_takes_167 (by decide) ?_
            exact me_z dX1_takes_171 rfl (Or.inr rfl) h
      · replace h := h.2 hc
        refine mg_aload_n dX1_takes_144 rfl 2 rfl ?_
        obtain ⟨q6, hC, hk⟩ := h
        refine mc_Vi [] [] dX1_takes_145 wd_940 kiX1_endsLiteral (Nat.le_of_ble_eq_true rfl) h0.1.1 h0.1.2 rfl (Nat.le_trans (Nat.le_of_ble_eq_true rfl) hd) hC (fun v6 M6 hq => ?_)
        replace h := hk v6 M6 hq
        refine mg_goto (tgt := 171) dX1_takes_148 (by decide) ?_
        exact me_z dX1_takes_171 rfl h.1 h.2
    · replace h := h.2 hc
      refine mg_iload_n dX1_takes_24 rfl 2 rfl ?_
      refine mg_bipush (v := 57) dX1_takes_25 (by decide) ?_
      refine mg_icmp_gt (tgt := 34) dX1_takes_27 (by decide) (fun hc => ?_) (fun hc => ?_)
      · replace h := h.1 hc
        refine mg_iconst (v := 0) dX1_takes_34 (by decide) ?_
        refine mg_istore_n (ls' := [(3, .int (0)), (2, .int (1)), (0, .ref (k0)), (1, .int (x1))]) dX1_takes_35 rfl (Nat.le_of_ble_eq_true rfl) rfl ?_
        refine mg_aload_n dX1_takes_36 rfl 2 rfl ?_
        refine mg_getI (j := 2) dX1_takes_37 kc_1 (Nat.le_of_ble_eq_true rfl) wd_129 rfl rfl h0.1.1 h0.1.2 rfl ?_
        by_cases e0 : ((M).1 (k0) 2 : Int32) = 0
        · replace h := h.1 e0
          refine mg_tblC (off := 28) (tgt := 68) dX1_takes_40 e0 (by decide) (by decide) rfl (by decide) ?_
          refine mg_iload_n dX1_takes_68 rfl 1 rfl ?_
          refine mg_if_ne (tgt := 100) dX1_takes_69 (by decide) (fun hc => ?_) (fun hc => ?_)
          · replace h := h.1 hc
            refine mg_iconst (v := 1) dX1_takes_100 (by decide) ?_
            refine mg_goto (tgt := 105) dX1_takes_101 (by decide) ?_
            exact me_z dX1_takes_105 rfl (Or.inr rfl) h
          · replace h := h.2 hc
            refine mg_iload_n dX1_takes_72 rfl 0 rfl ?_
            refine mg_if_eq (tgt := 87) dX1_takes_73 (by decide) (fun hc => ?_) (fun hc => ?_)
            · replace h := h.1 hc
              refine mg_iload_n dX1_takes_87 rfl 3 rfl ?_
              refine mg_bipush (v := 45) dX1_takes_88 (by decide) ?_
              refine mg_icmp_ne (tgt := 104) dX1_takes_90 (by decide) (fun hc => ?_) (fun hc => ?_)
              · replace h := h.1 hc
                refine mg_iconst (v := 0) dX1_takes_104 (by decide) ?_
                exact me_z dX1_takes_105 rfl (Or.inl rfl) h
              · replace h := h.2 hc
                refine mg_aload_n dX1_takes_93 rfl 2 rfl ?_
                obtain ⟨q7, hC, hk⟩ := h
                refine mc_Vi [] [] dX1_takes_94 wd_936 kiX1_takesMinus (Nat.le_of_ble_eq_true rfl) h0.1.1 h0.1.2 rfl (Nat.le_trans (Nat.le_of_ble_eq_true rfl) hd) hC (fun v7 M7 hq => ?_)
                replace h := hk v7 M7 hq
                refine mg_if_eq (tgt := 104) dX1_takes_97 (by decide) (fun hc => ?_) (fun hc => ?_)
                · replace h := h.1 hc
                  refine mg_iconst (v := 0) dX1_takes_104 (by decide) ?_
                  exact me_z dX1_takes_105 rfl (Or.inl rfl) h
                · replace h := h.2 hc
                  refine mg_iconst (v := 1) dX1_takes_100 (by decide) ?_
                  refine mg_goto (tgt := 105) dX1_takes_101 (by decide) ?_
                  exact me_z dX1_takes_105 rfl (Or.inr rfl) h
            · replace h := h.2 hc
              refine mg_aload_n dX1_takes_76 rfl 2 rfl ?_
              refine mg_iload_n dX1_takes_77 rfl 3 rfl ?_
              refine mg_bipush (v := 48) dX1_takes_78 (by decide) ?_
              refine mg_isub dX1_takes_80 ?_
              obtain ⟨q8, hC, hk⟩ := h
              refine mc_Vi [.int ((x1) - (48 : Int32))] [] dX1_takes_81 wd_922 kiX1_takesFirstDigit (Nat.le_of_ble_eq_true rfl) h0.1.1 h0.1.2 rfl (Nat.le_trans (Nat.le_of_ble_eq_true rfl) hd) hC (fun v8 M8 hq => ?_)
              replace h := hk v8 M8 hq
              refine mg_if_ne (tgt := 100) dX1_takes_84 (by decide) (fun hc => ?_) (fun hc => ?_)
              · replace h := h.1 hc
                refine mg_iconst (v := 1) dX1_takes_100 (by decide) ?_
                refine mg_goto (tgt := 105) dX1_takes_101 (by decide) ?_
                exact me_z dX1_takes_105 rfl (Or.inr rfl) h
              · replace h := h.2 hc
                refine mg_iload_n dX1_takes_87 rfl 3 rfl ?_
                refine mg_bipush (v := 45) dX1_takes_88 (by decide) ?_
                refine mg_icmp_ne (tgt := 104) dX1_takes_90 (by decide) (fun hc => ?_) (fun hc => ?_)
                · replace h := h.1 hc
                  refine mg_iconst (v := 0) dX1_takes_104 (by decide) ?_
                  exact me_z dX1_takes_105 rfl (Or.inl rfl) h
                · replace h := h.2 hc
                  refine mg_aload_n dX1_takes_93 rfl 2 rfl ?_
                  obtain ⟨q9, hC, hk⟩ := h
                  refine mc_Vi [] [] dX1_takes_94 wd_936 kiX1_takesMinus (Nat.le_of_ble_eq_true rfl) h0.1.1 h0.1.2 rfl (Nat.le_trans (Nat.le_of_ble_eq_true rfl) hd) hC (fun v9 M9 hq => ?_)
                  replace h := hk v9 M9 hq
                  refine mg_if_eq (tgt := 104) dX1_takes_97 (by decide) (fun hc => ?_) (fun hc => ?_)
                  · replace h := h.1 hc
                    refine mg_iconst (v := 0) dX1_takes_104 (by decide) ?_
                    exact me_z dX1_takes_105 rfl (Or.inl rfl) h
                  · replace h := h.2 hc
                    refine mg_iconst (v := 1) dX1_takes_100 (by decide) ?_
                    refine mg_goto (tgt := 105) dX1_takes_101 (by decide) ?_
                    exact me_z dX1_takes_105 rfl (Or.inr rfl) h
        by_cases e1 : ((M).1 (k0) 2 : Int32) = 1
        · replace h := h.2.1 e1
          refine mg_tblC (off := 66) (tgt := 106) dX1_takes_40 e1 (by decide) (by decide) rfl (by decide) ?_
          refine mg_iload_n dX1_takes_106 rfl 0 rfl ?_
          refine mg_if_eq (tgt := 131) dX1_takes_107 (by decide) (fun hc => ?_) (fun hc => ?_)
          · replace h := h.1 hc
            refine mg_iconst (v := 0) dX1_takes_131 (by decide) ?_
            exact me_z dX1_takes_132 rfl (Or.inl rfl) h
          · replace h := h.2 hc
            refine mg_iload_n dX1_takes_110 rfl 3 rfl ?_
            refine mg_bipush (v := 48) dX1_takes_111 (by decide) ?_
            refine mg_icmp_eq (tgt := 131) dX1_takes_113 (by decide) (fun hc => ?_) (fun hc => ?_)
            · replace h := h.1 hc
              refine mg_iconst (v := 0) dX1_takes_131 (by decide) ?_
              exact me_z dX1_takes_132 rfl (Or.inl rfl) h
            · replace h := h.2 hc
              refine mg_aload_n dX1_takes_116 rfl 2 rfl ?_
              refine mg_iload_n dX1_takes_117 rfl 3 rfl ?_
              refine mg_bipush (v := 48) dX1_takes_118 (by decide) ?_
              refine mg_isub dX1_takes_120 ?_
              obtain ⟨q10, hC, hk⟩ := h
              refine mc_Vi [.int ((x1) - (48 : Int32))] [] dX1_takes_121 wd_932 kiX1_takesDigit (Nat.le_of_ble_eq_true rfl) h0.1.1 h0.1.2 rfl (Nat.le_trans (Nat.le_of_ble_eq_true rfl) hd) hC (fun v10 M10 hq => ?_)
              replace h := hk v10 M10 hq
              refine mg_if_eq (tgt := 131) dX1_takes_124 (by decide) (fun hc => ?_) (fun hc => ?_)
              · replace h := h.1 hc
                refine mg_iconst (v := 0) dX1_takes_131 (by decide) ?_
                exact me_z dX1_takes_132 rfl (Or.inl rfl) h
              · replace h := h.2 hc
                refine mg_iconst (v := 1) dX1_takes_127 (by decide) ?_
                refine mg_goto (tgt := 132) dX1_takes_128 (by decide) ?_
                exact me_z dX1_takes_132 rfl (Or.inr rfl) h
        by_cases e2 : ((M).1 (k0) 2 : Int32) = 2
        · replace h := h.2.2.1 e2
          refine mg_tblC (off := 93) (tgt := 133) dX1_takes_40 e2 (by decide) (by decide) rfl (by decide) ?_
          refine mg_aload_n dX1_takes_133 rfl 2 rfl ?_
          refine mg_iconst (v := 0) dX1_takes_134 (by decide) ?_
          refine mg_putI (j := 2) dX1_takes_135 kc_1 (Nat.le_of_ble_eq_true rfl) wd_129 rfl rfl rfl h0.1.1 h0.1.2 ?_
          refine mg_iload_n dX1_takes_138 rfl 1 rfl ?_
          exact me_z dX1_takes_139 rfl (Or.inr rfl) h
        replace h := h.2.2.2 ⟨e0, e1, e2⟩
        refine mg_tblD (tgt := 140) [0, 1, 2] dX1_takes_40 (by decide) (by decide) (List.forall_mem_cons.mpr ⟨mj_neT e0 rfl, List.forall_mem_cons.mpr ⟨mj_neT e1 rfl, List.forall_mem_cons.mpr ⟨mj_neT e2 rfl, fun _ h9 => nomatch h9⟩⟩⟩) (by decide) ?_
        refine mg_iload_n dX1_takes_140 rfl 1 rfl ?_
        refine mg_if_eq (tgt := 151) dX1_takes_141 (by decide) (fun hc => ?_) (fun hc => ?_)
        · replace h := h.1 hc
          refine mg_iload_n dX1_takes_151 rfl 0 rfl ?_
          refine mg_if_eq (tgt := 170) dX1_takes_152 (by decide) (fun hc => ?_) (fun hc => ?_)
          · replace h := h.1 hc
            refine mg_iconst (v := 0) dX1_takes_170 (by decide) ?_
            exact me_z dX1_takes_171 rfl (Or.inl rfl) h
          · replace h := h.2 hc
            refine mg_aload_n dX1_takes_155 rfl 2 rfl ?_
            refine mg_iload_n dX1_takes_156 rfl 3 rfl ?_
            refine mg_bipush (v := 48) dX1_takes_157 (by decide) ?_
            refine mg_isub dX1_takes_159 ?_
            obtain ⟨q11, hC, hk⟩ := h
            refine mc_Vi [.int ((x1) - (48 : Int32))] [] dX1_takes_160 wd_932 kiX1_takesDigit (Nat.le_of_ble_eq_true rfl) h0.1.1 h0.1.2 rfl (Nat.le_trans (Nat.le_of_ble_eq_true rfl) hd) hC (fun v11 M11 hq => ?_)
            replace h := hk v11 M11 hq
            refine mg_if_eq (tgt := 170) dX1_takes_163 (by decide) (fun hc => ?_) (fun hc => ?_)
            · replace h := h.1 hc
              refine mg_iconst (v := 0) dX1_takes_170 (by decide) ?_
              exact me_z dX1_takes_171 rfl (Or.inl rfl) h
            · replace h := h.2 hc
              refine mg_iconst (v := 1) dX1_takes_166 (by decide) ?_
              refine mg_goto (tgt := 171) dX1_takes_167 (by decide) ?_
              exact me_z dX1_takes_171 rfl (Or.inr rfl) h
        · replace h := h.2 hc
          refine mg_aload_n dX1_takes_144 rfl 2 rfl ?_
          obtain ⟨q12, hC, hk⟩ := h
          refine mc_Vi [] [] dX1_takes_145 wd_940 kiX1_endsLiteral (Nat.le_of_ble_eq_true rfl) h0.1.1 h0.1.2 rfl (Nat.le_trans (Nat.le_of_ble_eq_true rfl) hd) hC (fun v12 M12 hq => ?_)
          replace h := hk v12 M12 hq
          refine mg_goto (tgt := 171) dX1_takes_148 (by decide) ?_
          exact me_z dX1_takes_171 rfl h.1 h.2
      · replace h := h.2 hc
        refine mg_iconst (v := 1) dX1_takes_30 (by decide) ?_
        refine mg_goto (tgt := 35) dX1_takes_31 (by decide) ?_
        refine mg_istore_n (ls' := [(3, .int (1)), (2, .int (1)), (0, .ref (k0)), (1, .int (x1))]) dX1_takes_35 rfl (Nat.le_of_ble_eq_true rfl) rfl ?_
        refine mg_aload_n dX1_takes_36 rfl 2 rfl ?_
        refine mg_getI (j := 2) dX1_takes_37 kc_1 (Nat.le_of_ble_eq_true rfl) wd_129 rfl rfl h0.1.1 h0.1.2 rfl ?_
        by_cases e0 : ((M).1 (k0) 2 : Int32) = 0
        · replace h := h.1 e0
          refine mg_tblC (off := 28) (tgt := 68) dX1_takes_40 e0 (by decide) (by decide) rfl (by decide) ?_
          refine mg_iload_n dX1_takes_68 rfl 1 rfl ?_
          refine mg_if_ne (tgt := 100) dX1_takes_69 (by decide) (fun hc => ?_) (fun hc => ?_)
          · replace h := h.1 hc
            refine mg_iconst (v := 1) dX1_takes_100 (by decide) ?_
            refine mg_goto (tgt := 105) dX1_takes_101 (by decide) ?_
            exact me_z dX1_takes_105 rfl (Or.inr rfl) h
          · replace h := h.2 hc
            refine mg_iload_n dX1_takes_72 rfl 0 rfl ?_
            refine mg_if_eq (tgt := 87) dX1_takes_73 (by decide) (fun hc => ?_) (fun hc => ?_)
            · replace h := h.1 hc
              refine mg_iload_n dX1_takes_87 rfl 3 rfl ?_
              refine mg_bipush (v := 45) dX1_takes_88 (by decide) ?_
              refine mg_icmp_ne (tgt := 104) dX1_takes_90 (by decide) (fun hc => ?_) (fun hc => ?_)
              · replace h := h.1 hc
                refine mg_iconst (v := 0) dX1_takes_104 (by decide) ?_
                exact me_z dX1_takes_105 rfl (Or.inl rfl) h
              · replace h := h.2 hc
                refine mg_aload_n dX1_takes_93 rfl 2 rfl ?_
                obtain ⟨q13, hC, hk⟩ := h
                refine mc_Vi [] [] dX1_takes_94 wd_936 kiX1_takesMinus (Nat.le_of_ble_eq_true rfl) h0.1.1 h0.1.2 rfl (Nat.le_trans (Nat.le_of_ble_eq_true rfl) hd) hC (fun v13 M13 hq => ?_)
                replace h := hk v13 M13 hq
                refine mg_if_eq (tgt := 104) dX1_takes_97 (by decide) (fun hc => ?_) (fun hc => ?_)
                · replace h := h.1 hc
                  refine mg_iconst (v := 0) dX1_takes_104 (by decide) ?_
                  exact me_z dX1_takes_105 rfl (Or.inl rfl) h
                · replace h := h.2 hc
                  refine mg_iconst (v := 1) dX1_takes_100 (by decide) ?_
                  refine mg_goto (tgt := 105) dX1_takes_101 (by decide) ?_
                  exact me_z dX1_takes_105 rfl (Or.inr rfl) h
            · replace h := h.2 hc
              refine mg_aload_n dX1_takes_76 rfl 2 rfl ?_
              refine mg_iload_n dX1_takes_77 rfl 3 rfl ?_
              refine mg_bipush (v := 48) dX1_takes_78 (by decide) ?_
              refine mg_isub dX1_takes_80 ?_
              obtain ⟨q14, hC, hk⟩ := h
              refine mc_Vi [.int ((x1) - (48 : Int32))] [] dX1_takes_81 wd_922 kiX1_takesFirstDigit (Nat.le_of_ble_eq_true rfl) h0.1.1 h0.1.2 rfl (Nat.le_trans (Nat.le_of_ble_eq_true rfl) hd) hC (fun v14 M14 hq => ?_)
              replace h := hk v14 M14 hq
              refine mg_if_ne (tgt := 100) dX1_takes_84 (by decide) (fun hc => ?_) (fun hc => ?_)
              · replace h := h.1 hc
                refine mg_iconst (v := 1) dX1_takes_100 (by decide) ?_
                refine mg_goto (tgt := 105) dX1_takes_101 (by decide) ?_
                exact me_z dX1_takes_105 rfl (Or.inr rfl) h
              · replace h := h.2 hc
                refine mg_iload_n dX1_takes_87 rfl 3 rfl ?_
                refine mg_bipush (v := 45) dX1_takes_88 (by decide) ?_
                refine mg_icmp_ne (tgt := 104) dX1_takes_90 (by decide) (fun hc => ?_) (fun hc => ?_)
                · replace h := h.1 hc
                  refine mg_iconst (v := 0) dX1_takes_104 (by decide) ?_
                  exact me_z dX1_takes_105 rfl (Or.inl rfl) h
                · replace h := h.2 hc
                  refine mg_aload_n dX1_takes_93 rfl 2 rfl ?_
                  obtain ⟨q15, hC, hk⟩ := h
                  refine mc_Vi [] [] dX1_takes_94 wd_936 kiX1_takesMinus (Nat.le_of_ble_eq_true rfl) h0.1.1 h0.1.2 rfl (Nat.le_trans (Nat.le_of_ble_eq_true rfl) hd) hC (fun v15 M15 hq => ?_)
                  replace h := hk v15 M15 hq
                  refine mg_if_eq (tgt := 104) dX1_takes_97 (by decide) (fun hc => ?_) (fun hc => ?_)
                  · replace h := h.1 hc
                    refine mg_iconst (v := 0) dX1_takes_104 (by decide) ?_
                    exact me_z dX1_takes_105 rfl (Or.inl rfl) h
                  · replace h := h.2 hc
                    refine mg_iconst (v := 1) dX1_takes_100 (by decide) ?_
                    refine mg_goto (tgt := 105) dX1_takes_101 (by decide) ?_
                    exact me_z dX1_takes_105 rfl (Or.inr rfl) h
        by_cases e1 : ((M).1 (k0) 2 : Int32) = 1
        · replace h := h.2.1 e1
          refine mg_tblC (off := 66) (tgt := 106) dX1_takes_40 e1 (by decide) (by decide) rfl (by decide) ?_
          refine mg_iload_n dX1_takes_106 rfl 0 rfl ?_
          refine mg_if_eq (tgt := 131) dX1_takes_107 (by decide) (fun hc => ?_) (fun hc => ?_)
          · replace h := h.1 hc
            refine mg_iconst (v := 0) dX1_takes_131 (by decide) ?_
            exact me_z dX1_takes_132 rfl (Or.inl rfl) h
          · replace h := h.2 hc
            refine mg_iload_n dX1_takes_110 rfl 3 rfl ?_
            refine mg_bipush (v := 48) dX1_takes_111 (by decide) ?_
            refine mg_icmp_eq (tgt := 131) dX1_takes_113 (by decide) (fun hc => ?_) (fun hc => ?_)
            · replace h := h.1 hc
              refine mg_iconst (v := 0) dX1_takes_131 (by decide) ?_
              exact me_z dX1_takes_132 rfl (Or.inl rfl) h
            · replace h := h.2 hc
              refine mg_aload_n dX1_takes_116 rfl 2 rfl ?_
              refine mg_iload_n dX1_takes_117 rfl 3 rfl ?_
              refine mg_bipush (v := 48) dX1_takes_118 (by decide) ?_
              refine mg_isub dX1_takes_120 ?_
              obtain ⟨q16, hC, hk⟩ := h
              refine mc_Vi [.int ((x1) - (48 : Int32))] [] dX1_takes_121 wd_932 kiX1_takesDigit (Nat.le_of_ble_eq_true rfl) h0.1.1 h0.1.2 rfl (Nat.le_trans (Nat.le_of_ble_eq_true rfl) hd) hC (fun v16 M16 hq => ?_)
              replace h := hk v16 M16 hq
              refine mg_if_eq (tgt := 131) dX1_takes_124 (by decide) (fun hc => ?_) (fun hc => ?_)
              · replace h := h.1 hc
                refine mg_iconst (v := 0) dX1_takes_131 (by decide) ?_
                exact me_z dX1_takes_132 rfl (Or.inl rfl) h
              · replace h := h.2 hc
                refine mg_iconst (v := 1) dX1_takes_127 (by decide) ?_
                refine mg_goto (tgt := 132) dX1_takes_128 (by decide) ?_
                exact me_z dX1_takes_132 rfl (Or.inr rfl) h
        by_cases e2 : ((M).1 (k0) 2 : Int32) = 2
        · replace h := h.2.2.1 e2
          refine mg_tblC (off := 93) (tgt := 133) dX1_takes_40 e2 (by decide) (by decide) rfl (by decide) ?_
          refine mg_aload_n dX1_takes_133 rfl 2 rfl ?_
          refine mg_iconst (v := 0) dX1_takes_134 (by decide) ?_
          refine mg_putI (j := 2) dX1_takes_135 kc_1 (Nat.le_of_ble_eq_true rfl) wd_129 rfl rfl rfl h0.1.1 h0.1.2 ?_
          refine mg_iload_n dX1_takes_138 rfl 1 rfl ?_
          exact me_z dX1_takes_139 rfl (Or.inr rfl) h
        replace h := h.2.2.2 ⟨e0, e1, e2⟩
        refine mg_tblD (tgt := 140) [0, 1, 2] dX1_takes_40 (by decide) (by decide) (List.forall_mem_cons.mpr ⟨mj_neT e0 rfl, List.forall_mem_cons.mpr ⟨mj_neT e1 rfl, List.forall_mem_cons.mpr ⟨mj_neT e2 rfl, fun _ h9 => nomatch h9⟩⟩⟩) (by decide) ?_
        refine mg_iload_n dX1_takes_140 rfl 1 rfl ?_
        refine mg_if_eq (tgt := 151) dX1_takes_141 (by decide) (fun hc => ?_) (fun hc => ?_)
        · replace h := h.1 hc
          refine mg_iload_n dX1_takes_151 rfl 0 rfl ?_
          refine mg_if_eq (tgt := 170) dX1_takes_152 (by decide) (fun hc => ?_) (fun hc => ?_)
          · replace h := h.1 hc
            refine mg_iconst (v := 0) dX1_takes_170 (by decide) ?_
            exact me_z dX1_takes_171 rfl (Or.inl rfl) h
          · replace h := h.2 hc
            refine mg_aload_n dX1_takes_155 rfl 2 rfl ?_
            refine mg_iload_n dX1_takes_156 rfl 3 rfl ?_
            refine mg_bipush (v := 48) dX1_takes_157 (by decide) ?_
            refine mg_isub dX1_takes_159 ?_
            obtain ⟨q17, hC, hk⟩ := h
            refine mc_Vi [.int ((x1) - (48 : Int32))] [] dX1_takes_160 wd_932 kiX1_takesDigit (Nat.le_of_ble_eq_true rfl) h0.1.1 h0.1.2 rfl (Nat.le_trans (Nat.le_of_ble_eq_true rfl) hd) hC (fun v17 M17 hq => ?_)
            replace h := hk v17 M17 hq
            refine mg_if_eq (tgt := 170) dX1_takes_163 (by decide) (fun hc => ?_) (fun hc => ?_)
            · replace h := h.1 hc
              refine mg_iconst (v := 0) dX1_takes_170 (by decide) ?_
              exact me_z dX1_takes_171 rfl (Or.inl rfl) h
            · replace h := h.2 hc
              refine mg_iconst (v := 1) dX1_takes_166 (by decide) ?_
              refine mg_goto (tgt := 171) dX1_takes_167 (by decide) ?_
              exact me_z dX1_takes_171 rfl (Or.inr rfl) h
        · replace h := h.2 hc
          refine mg_aload_n dX1_takes_144 rfl 2 rfl ?_
          obtain ⟨q18, hC, hk⟩ := h
          refine mc_Vi [] [] dX1_takes_145 wd_940 kiX1_endsLiteral (Nat.le_of_ble_eq_true rfl) h0.1.1 h0.1.2 rfl (Nat.le_trans (Nat.le_of_ble_eq_true rfl) hd) hC (fun v18 M18 hq => ?_)
          replace h := hk v18 M18 hq
          refine mg_goto (tgt := 171) dX1_takes_148 (by decide) ?_
          exact me_z dX1_takes_171 rfl h.1 h.2
  · replace h := h.2 hc
    refine mg_iload_n dX1_takes_6 rfl 1 rfl ?_
    refine mg_bipush (v := 10) dX1_takes_7 (by decide) ?_
    refine mg_icmp_ne (tgt := 16) dX1_takes_9 (by decide) (fun hc => ?_) (fun hc => ?_)
    · replace h := h.1 hc
      refine mg_iconst (v := 0) dX1_takes_16 (by decide) ?_
      refine mg_istore_n (ls' := [(2, .int (0)), (0, .ref (k0)), (1, .int (x1))]) dX1_takes_17 rfl (Nat.le_of_ble_eq_true rfl) rfl ?_
      refine mg_iload_n dX1_takes_18 rfl 2 rfl ?_
      refine mg_bipush (v := 48) dX1_takes_19 (by decide) ?_
      refine mg_icmp_lt (tgt := 34) dX1_takes_21 (by decide) (fun hc => ?_) (fun hc => ?_)
      · replace h := h.1 hc
        refine mg_iconst (v := 0) dX1_takes_34 (by decide) ?_
        refine mg_istore_n (ls' := [(3, .int (0)), (2, .int (0)), (0, .ref (k0)), (1, .int (x1))]) dX1_takes_35 rfl (Nat.le_of_ble_eq_true rfl) rfl ?_
        refine mg_aload_n dX1_takes_36 rfl 2 rfl ?_
        refine mg_getI (j := 2) dX1_takes_37 kc_1 (Nat.le_of_ble_eq_true rfl) wd_129 rfl rfl h0.1.1 h0.1.2 rfl ?_
        by_cases e0 : ((M).1 (k0) 2 : Int32) = 0
        · replace h := h.1 e0
          refine mg_tblC (off := 28) (tgt := 68) dX1_takes_40 e0 (by decide) (by decide) rfl (by decide) ?_
          refine mg_iload_n dX1_takes_68 rfl 1 rfl ?_
          refine mg_if_ne (tgt := 100) dX1_takes_69 (by decide) (fun hc => ?_) (fun hc => ?_)
          · replace h := h.1 hc
            refine mg_iconst (v := 1) dX1_takes_100 (by decide) ?_
            refine mg_goto (tgt := 105) dX1_takes_101 (by decide) ?_
            exact me_z dX1_takes_105 rfl (Or.inr rfl) h
          · replace h := h.2 hc
            refine mg_iload_n dX1_takes_72 rfl 0 rfl ?_
            refine mg_if_eq (tgt := 87) dX1_takes_73 (by decide) (fun hc => ?_) (fun hc => ?_)
            · replace h := h.1 hc
              refine mg_iload_n dX1_takes_87 rfl 3 rfl ?_
              refine mg_bipush (v := 45) dX1_takes_88 (by decide) ?_
              refine mg_icmp_ne (tgt := 104) dX1_takes_90 (by decide) (fun hc => ?_) (fun hc => ?_)
              · replace h := h.1 hc
                refine mg_iconst (v := 0) dX1_takes_104 (by decide) ?_
                exact me_z dX1_takes_105 rfl (Or.inl rfl) h
              · replace h := h.2 hc
                refine mg_aload_n dX1_takes_93 rfl 2 rfl ?_
                obtain ⟨q19, hC, hk⟩ := h
                refine mc_Vi [] [] dX1_takes_94 wd_936 kiX1_takesMinus (Nat.le_of_ble_eq_true rfl) h0.1.1 h0.1.2 rfl (Nat.le_trans (Nat.le_of_ble_eq_true rfl) hd) hC (fun v19 M19 hq => ?_)
                replace h := hk v19 M19 hq
                refine mg_if_eq (tgt := 104) dX1_takes_97 (by decide) (fun hc => ?_) (fun hc => ?_)
                · replace h := h.1 hc
                  refine mg_iconst (v := 0) dX1_takes_104 (by decide) ?_
                  exact me_z dX1_takes_105 rfl (Or.inl rfl) h
                · replace h := h.2 hc
                  refine mg_iconst (v := 1) dX1_takes_100 (by decide) ?_
                  refine mg_goto (tgt := 105) dX1_takes_101 (by decide) ?_
                  exact me_z dX1_takes_105 rfl (Or.inr rfl) h
            · replace h := h.2 hc
              refine mg_aload_n dX1_takes_76 rfl 2 rfl ?_
              refine mg_iload_n dX1_takes_77 rfl 3 rfl ?_
              refine mg_bipush (v := 48) dX1_takes_78 (by decide) ?_
              refine mg_isub dX1_takes_80 ?_
              obtain ⟨q20, hC, hk⟩ := h
              refine mc_Vi [.int ((x1) - (48 : Int32))] [] dX1_takes_81 wd_922 kiX1_takesFirstDigit (Nat.le_of_ble_eq_true rfl) h0.1.1 h0.1.2 rfl (Nat.le_trans (Nat.le_of_ble_eq_true rfl) hd) hC (fun v20 M20 hq => ?_)
              replace h := hk v20 M20 hq
              refine mg_if_ne (tgt := 100) dX1_takes_84 (by decide) (fun hc => ?_) (fun hc => ?_)
              · replace h := h.1 hc
                refine mg_iconst (v := 1) dX1_takes_100 (by decide) ?_
                refine mg_goto (tgt := 105) dX1_takes_101 (by decide) ?_
                exact me_z dX1_takes_105 rfl (Or.inr rfl) h
              · replace h := h.2 hc
                refine mg_iload_n dX1_takes_87 rfl 3 rfl ?_
                refine mg_bipush (v := 45) dX1_takes_88 (by decide) ?_
                refine mg_icmp_ne (tgt := 104) dX1_takes_90 (by decide) (fun hc => ?_) (fun hc => ?_)
                · replace h := h.1 hc
                  refine mg_iconst (v := 0) dX1_takes_104 (by decide) ?_
                  exact me_z dX1_takes_105 rfl (Or.inl rfl) h
                · replace h := h.2 hc
                  refine mg_aload_n dX1_takes_93 rfl 2 rfl ?_
                  obtain ⟨q21, hC, hk⟩ := h
                  refine mc_Vi [] [] dX1_takes_94 wd_936 kiX1_takesMinus (Nat.le_of_ble_eq_true rfl) h0.1.1 h0.1.2 rfl (Nat.le_trans (Nat.le_of_ble_eq_true rfl) hd) hC (fun v21 M21 hq => ?_)
                  replace h := hk v21 M21 hq
                  refine mg_if_eq (tgt := 104) dX1_takes_97 (by decide) (fun hc => ?_) (fun hc => ?_)
                  · replace h := h.1 hc
                    refine mg_iconst (v := 0) dX1_takes_104 (by decide) ?_
                    exact me_z dX1_takes_105 rfl (Or.inl rfl) h
                  · replace h := h.2 hc
                    refine mg_iconst (v := 1) dX1_takes_100 (by decide) ?_
                    refine mg_goto (tgt := 105) dX1_takes_101 (by decide) ?_
                    exact me_z dX1_takes_105 rfl (Or.inr rfl) h
        by_cases e1 : ((M).1 (k0) 2 : Int32) = 1
        · replace h := h.2.1 e1
          refine mg_tblC (off := 66) (tgt := 106) dX1_takes_40 e1 (by decide) (by decide) rfl (by decide) ?_
          refine mg_iload_n dX1_takes_106 rfl 0 rfl ?_
          refine mg_if_eq (tgt := 131) dX1_takes_107 (by decide) (fun hc => ?_) (fun hc => ?_)
          · replace h := h.1 hc
            refine mg_iconst (v := 0) dX1_takes_131 (by decide) ?_
            exact me_z dX1_takes_132 rfl (Or.inl rfl) h
          · replace h := h.2 hc
            refine mg_iload_n dX1_takes_110 rfl 3 rfl ?_
            refine mg_bipush (v := 48) dX1_takes_111 (by decide) ?_
            refine mg_icmp_eq (tgt := 131) dX1_takes_113 (by decide) (fun hc => ?_) (fun hc => ?_)
            · replace h := h.1 hc
              refine mg_iconst (v := 0) dX1_takes_131 (by decide) ?_
              exact me_z dX1_takes_132 rfl (Or.inl rfl) h
            · replace h := h.2 hc
              refine mg_aload_n dX1_takes_116 rfl 2 rfl ?_
              refine mg_iload_n dX1_takes_117 rfl 3 rfl ?_
              refine mg_bipush (v := 48) dX1_takes_118 (by decide) ?_
              refine mg_isub dX1_takes_120 ?_
              obtain ⟨q22, hC, hk⟩ := h
              refine mc_Vi [.int ((x1) - (48 : Int32))] [] dX1_takes_121 wd_932 kiX1_takesDigit (Nat.le_of_ble_eq_true rfl) h0.1.1 h0.1.2 rfl (Nat.le_trans (Nat.le_of_ble_eq_true rfl) hd) hC (fun v22 M22 hq => ?_)
              replace h := hk v22 M22 hq
              refine mg_if_eq (tgt := 131) dX1_takes_124 (by decide) (fun hc => ?_) (fun hc => ?_)
              · replace h := h.1 hc
                refine mg_iconst (v := 0) dX1_takes_131 (by decide) ?_
                exact me_z dX1_takes_132 rfl (Or.inl rfl) h
              · replace h := h.2 hc
                refine mg_iconst (v := 1) dX1_takes_127 (by decide) ?_
                refine mg_goto (tgt := 132) dX1_takes_128 (by decide) ?_
                exact me_z dX1_takes_132 rfl (Or.inr rfl) h
        by_cases e2 : ((M).1 (k0) 2 : Int32) = 2
        · replace h := h.2.2.1 e2
          refine mg_tblC (off := 93) (tgt := 133) dX1_takes_40 e2 (by decide) (by decide) rfl (by decide) ?_
          refine mg_aload_n dX1_takes_133 rfl 2 rfl ?_
          refine mg_iconst (v := 0) dX1_takes_134 (by decide) ?_
          refine mg_putI (j := 2) dX1_takes_135 kc_1 (Nat.le_of_ble_eq_true rfl) wd_129 rfl rfl rfl h0.1.1 h0.1.2 ?_
          refine mg_iload_n dX1_takes_138 rfl 1 rfl ?_
          exact me_z dX1_takes_139 rfl (Or.inl rfl) h
        replace h := h.2.2.2 ⟨e0, e1, e2⟩
        refine mg_tblD (tgt := 140) [0, 1, 2] dX1_takes_40 (by decide) (by decide) (List.forall_mem_cons.mpr ⟨mj_neT e0 rfl, List.forall_mem_cons.mpr ⟨mj_neT e1 rfl, List.forall_mem_cons.mpr ⟨mj_neT e2 rfl, fun _ h9 => nomatch h9⟩⟩⟩) (by decide) ?_
        refine mg_iload_n dX1_takes_140 rfl 1 rfl ?_
        refine mg_if_eq (tgt := 151) dX1_takes_141 (by decide) (fun hc => ?_) (fun hc => ?_)
        · replace h := h.1 hc
          refine mg_iload_n dX1_takes_151 rfl 0 rfl ?_
          refine mg_if_eq (tgt := 170) dX1_takes_152 (by decide) (fun hc => ?_) (fun hc => ?_)
          · replace h := h.1 hc
            refine mg_iconst (v := 0) dX1_takes_170 (by decide) ?_
            exact me_z dX1_takes_171 rfl (Or.inl rfl) h
          · replace h := h.2 hc
            refine mg_aload_n dX1_takes_155 rfl 2 rfl ?_
            refine mg_iload_n dX1_takes_156 rfl 3 rfl ?_
            refine mg_bipush (v := 48) dX1_takes_157 (by decide) ?_
            refine mg_isub dX1_takes_159 ?_
            obtain ⟨q23, hC, hk⟩ := h
            refine mc_Vi [.int ((x1) - (48 : Int32))] [] dX1_takes_160 wd_932 kiX1_takesDigit (Nat.le_of_ble_eq_true rfl) h0.1.1 h0.1.2 rfl (Nat.le_trans (Nat.le_of_ble_eq_true rfl) hd) hC (fun v23 M23 hq => ?_)
            replace h := hk v23 M23 hq
            refine mg_if_eq (tgt := 170) dX1_takes_163 (by decide) (fun hc => ?_) (fun hc => ?_)
            · replace h := h.1 hc
              refine mg_iconst (v := 0) dX1_takes_170 (by decide) ?_
              exact me_z dX1_takes_171 rfl (Or.inl rfl) h
            · replace h := h.2 hc
              refine mg_iconst (v := 1) dX1_takes_166 (by decide) ?_
              refine mg_goto (tgt := 171) dX1_takes_167 (by decide) ?_
              exact me_z dX1_takes_171 rfl (Or.inr rfl) h
        · replace h := h.2 hc
          refine mg_aload_n dX1_takes_144 rfl 2 rfl ?_
          obtain ⟨q24, hC, hk⟩ := h
          refine mc_Vi [] [] dX1_takes_145 wd_940 kiX1_endsLiteral (Nat.le_of_ble_eq_true rfl) h0.1.1 h0.1.2 rfl (Nat.le_trans (Nat.le_of_ble_eq_true rfl) hd) hC (fun v24 M24 hq => ?_)
          replace h := hk v24 M24 hq
          refine mg_goto (tgt := 171) dX1_takes_148 (by decide) ?_
          exact me_z dX1_takes_171 rfl h.1 h.2
      · replace h := h.2 hc
        refine mg_iload_n dX1_takes_24 rfl 2 rfl ?_
        refine mg_bipush (v := 57) dX1_takes_25 (by decide) ?_
        refine mg_icmp_gt (tgt := 34) dX1_takes_27 (by decide) (fun hc => ?_) (fun hc => ?_)
        · replace h := h.1 hc
          refine mg_iconst (v := 0) dX1_takes_34 (by decide) ?_
          refine mg_istore_n (ls' := [(3, .int (0)), (2, .int (0)), (0, .ref (k0)), (1, .int (x1))]) dX1_takes_35 rfl (Nat.le_of_ble_eq_true rfl) rfl ?_
          refine mg_aload_n dX1_takes_36 rfl 2 rfl ?_
          refine mg_getI (j := 2) dX1_takes_37 kc_1 (Nat.le_of_ble_eq_true rfl) wd_129 rfl rfl h0.1.1 h0.1.2 rfl ?_
          by_cases e0 : ((M).1 (k0) 2 : Int32) = 0
          · replace h := h.1 e0
            refine mg_tblC (off := 28) (tgt := 68) dX1_takes_40 e0 (by decide) (by decide) rfl (by decide) ?_
            refine mg_iload_n dX1_takes_68 rfl 1 rfl ?_
            refine mg_if_ne (tgt := 100) dX1_takes_69 (by decide) (fun hc => ?_) (fun hc => ?_)
            · replace h := h.1 hc
              refine mg_iconst (v := 1) dX1_takes_100 (by decide) ?_
              refine mg_goto (tgt := 105) dX1_takes_101 (by decide) ?_
              exact me_z dX1_takes_105 rfl (Or.inr rfl) h
            · replace h := h.2 hc
              refine mg_iload_n dX1_takes_72 rfl 0 rfl ?_
              refine mg_if_eq (tgt := 87) dX1_takes_73 (by decide) (fun hc => ?_) (fun hc => ?_)
              · replace h := h.1 hc
                refine mg_iload_n dX1_takes_87 rfl 3 rfl ?_
                refine mg_bipush (v := 45) dX1_takes_88 (by decide) ?_
                refine mg_icmp_ne (tgt := 104) dX1_takes_90 (by decide) (fun hc => ?_) (fun hc => ?_)
                · replace h := h.1 hc
                  refine mg_iconst (v := 0) dX1_takes_104 (by decide) ?_
                  exact me_z dX1_takes_105 rfl (Or.inl rfl) h
                · replace h := h.2 hc
                  refine mg_aload_n dX1_takes_93 rfl 2 rfl ?_
                  obtain ⟨q25, hC, hk⟩ := h
                  refine mc_Vi [] [] dX1_takes_94 wd_936 kiX1_takesMinus (Nat.le_of_ble_eq_true rfl) h0.1.1 h0.1.2 rfl (Nat.le_trans (Nat.le_of_ble_eq_true rfl) hd) hC (fun v25 M25 hq => ?_)
                  replace h := hk v25 M25 hq
                  refine mg_if_eq (tgt := 104) dX1_takes_97 (by decide) (fun hc => ?_) (fun hc => ?_)
                  · replace h := h.1 hc
                    refine mg_iconst (v := 0) dX1_takes_104 (by decide) ?_
                    exact me_z dX1_takes_105 rfl (Or.inl rfl) h
                  · replace h := h.2 hc
                    refine mg_iconst (v := 1) dX1_takes_100 (by decide) ?_
                    refine mg_goto (tgt := 105) dX1_takes_101 (by decide) ?_
                    exact me_z dX1_takes_105 rfl (Or.inr rfl) h
              · replace h := h.2 hc
                refine mg_aload_n dX1_takes_76 rfl 2 rfl ?_
                refine mg_iload_n dX1_takes_77 rfl 3 rfl ?_
                refine mg_bipush (v := 48) dX1_takes_78 (by decide) ?_
                refine mg_isub dX1_takes_80 ?_
                obtain ⟨q26, hC, hk⟩ := h
                refine mc_Vi [.int ((x1) - (48 : Int32))] [] dX1_takes_81 wd_922 kiX1_takesFirstDigit (Nat.le_of_ble_eq_true rfl) h0.1.1 h0.1.2 rfl (Nat.le_trans (Nat.le_of_ble_eq_true rfl) hd) hC (fun v26 M26 hq => ?_)
                replace h := hk v26 M26 hq
                refine mg_if_ne (tgt := 100) dX1_takes_84 (by decide) (fun hc => ?_) (fun hc => ?_)
                · replace h := h.1 hc
                  refine mg_iconst (v := 1) dX1_takes_100 (by decide) ?_
                  refine mg_goto (tgt := 105) dX1_takes_101 (by decide) ?_
                  exact me_z dX1_takes_105 rfl (Or.inr rfl) h
                · replace h := h.2 hc
                  refine mg_iload_n dX1_takes_87 rfl 3 rfl ?_
                  refine mg_bipush (v := 45) dX1_takes_88 (by decide) ?_
                  refine mg_icmp_ne (tgt := 104) dX1_takes_90 (by decide) (fun hc => ?_) (fun hc => ?_)
                  · replace h := h.1 hc
                    refine mg_iconst (v := 0) dX1_takes_104 (by decide) ?_
                    exact me_z dX1_takes_105 rfl (Or.inl rfl) h
                  · replace h := h.2 hc
                    refine mg_aload_n dX1_takes_93 rfl 2 rfl ?_
                    obtain ⟨q27, hC, hk⟩ := h
                    refine mc_Vi [] [] dX1_takes_94 wd_936 kiX1_takesMinus (Nat.le_of_ble_eq_true rfl) h0.1.1 h0.1.2 rfl (Nat.le_trans (Nat.le_of_ble_eq_true rfl) hd) hC (fun v27 M27 hq => ?_)
                    replace h := hk v27 M27 hq
                    refine mg_if_eq (tgt := 104) dX1_takes_97 (by decide) (fun hc => ?_) (fun hc => ?_)
                    · replace h := h.1 hc
                      refine mg_iconst (v := 0) dX1_takes_104 (by decide) ?_
                      exact me_z dX1_takes_105 rfl (Or.inl rfl) h
                    · replace h := h.2 hc
                      refine mg_iconst (v := 1) dX1_takes_100 (by decide) ?_
                      refine mg_goto (tgt := 105) dX1_takes_101 (by decide) ?_
                      exact me_z dX1_takes_105 rfl (Or.inr rfl) h
          by_cases e1 : ((M).1 (k0) 2 : Int32) = 1
          · replace h := h.2.1 e1
            refine mg_tblC (off := 66) (tgt := 106) dX1_takes_40 e1 (by decide) (by decide) rfl (by decide) ?_
            refine mg_iload_n dX1_takes_106 rfl 0 rfl ?_
            refine mg_if_eq (tgt := 131) dX1_takes_107 (by decide) (fun hc => ?_) (fun hc => ?_)
            · replace h := h.1 hc
              refine mg_iconst (v := 0) dX1_takes_131 (by decide) ?_
              exact me_z dX1_takes_132 rfl (Or.inl rfl) h
            · replace h := h.2 hc
              refine mg_iload_n dX1_takes_110 rfl 3 rfl ?_
              refine mg_bipush (v := 48) dX1_takes_111 (by decide) ?_
              refine mg_icmp_eq (tgt := 131) dX1_takes_113 (by decide) (fun hc => ?_) (fun hc => ?_)
              · replace h := h.1 hc
                refine mg_iconst (v := 0) dX1_takes_131 (by decide) ?_
                exact me_z dX1_takes_132 rfl (Or.inl rfl) h
              · replace h := h.2 hc
                refine mg_aload_n dX1_takes_116 rfl 2 rfl ?_
                refine mg_iload_n dX1_takes_117 rfl 3 rfl ?_
                refine mg_bipush (v := 48) dX1_takes_118 (by decide) ?_
                refine mg_isub dX1_takes_120 ?_
                obtain ⟨q28, hC, hk⟩ := h
                refine mc_Vi [.int ((x1) - (48 : Int32))] [] dX1_takes_121 wd_932 kiX1_takesDigit (Nat.le_of_ble_eq_true rfl) h0.1.1 h0.1.2 rfl (Nat.le_trans (Nat.le_of_ble_eq_true rfl) hd) hC (fun v28 M28 hq => ?_)
                replace h := hk v28 M28 hq
                refine mg_if_eq (tgt := 131) dX1_takes_124 (by decide) (fun hc => ?_) (fun hc => ?_)
                · replace h := h.1 hc
                  refine mg_iconst (v := 0) dX1_takes_131 (by decide) ?_
                  exact me_z dX1_takes_132 rfl (Or.inl rfl) h
                · replace h := h.2 hc
                  refine mg_iconst (v := 1) dX1_takes_127 (by decide) ?_
                  refine mg_goto (tgt := 132) dX1_takes_128 (by decide) ?_
                  exact me_z dX1_takes_132 rfl (Or.inr rfl) h
          by_cases e2 : ((M).1 (k0) 2 : Int32) = 2
          · replace h := h.2.2.1 e2
            refine mg_tblC (off := 93) (tgt := 133) dX1_takes_40 e2 (by decide) (by decide) rfl (by decide) ?_
            refine mg_aload_n dX1_takes_133 rfl 2 rfl ?_
            refine mg_iconst (v := 0) dX1_takes_134 (by decide) ?_
            refine mg_putI (j := 2) dX1_takes_135 kc_1 (Nat.le_of_ble_eq_true rfl) wd_129 rfl rfl rfl h0.1.1 h0.1.2 ?_
            refine mg_iload_n dX1_takes_138 rfl 1 rfl ?_
            exact me_z dX1_takes_139 rfl (Or.inl rfl) h
          replace h := h.2.2.2 ⟨e0, e1, e2⟩
          refine mg_tblD (tgt := 140) [0, 1, 2] dX1_takes_40 (by decide) (by decide) (List.forall_mem_cons.mpr ⟨mj_neT e0 rfl, List.forall_mem_cons.mpr ⟨mj_neT e1 rfl, List.forall_mem_cons.mpr ⟨mj_neT e2 rfl, fun _ h9 => nomatch h9⟩⟩⟩) (by decide) ?_
          refine mg_iload_n dX1_takes_140 rfl 1 rfl ?_
          refine mg_if_eq (tgt := 151) dX1_takes_141 (by decide) (fun hc => ?_) (fun hc => ?_)
          · replace h := h.1 hc
            refine mg_iload_n dX1_takes_151 rfl 0 rfl ?_
            refine mg_if_eq (tgt := 170) dX1_takes_152 (by decide) (fun hc => ?_) (fun hc => ?_)
            · replace h := h.1 hc
              refine mg_iconst (v := 0) dX1_takes_170 (by decide) ?_
              exact me_z dX1_takes_171 rfl (Or.inl rfl) h
            · replace h := h.2 hc
              refine mg_aload_n dX1_takes_155 rfl 2 rfl ?_
              refine mg_iload_n dX1_takes_156 rfl 3 rfl ?_
              refine mg_bipush (v := 48) dX1_takes_157 (by decide) ?_
              refine mg_isub dX1_takes_159 ?_
              obtain ⟨q29, hC, hk⟩ := h
              refine mc_Vi [.int ((x1) - (48 : Int32))] [] dX1_takes_160 wd_932 kiX1_takesDigit (Nat.le_of_ble_eq_true rfl) h0.1.1 h0.1.2 rfl (Nat.le_trans (Nat.le_of_ble_eq_true rfl) hd) hC (fun v29 M29 hq => ?_)
              replace h := hk v29 M29 hq
              refine mg_if_eq (tgt := 170) dX1_takes_163 (by decide) (fun hc => ?_) (fun hc => ?_)
              · replace h := h.1 hc
                refine mg_iconst (v := 0) dX1_takes_170 (by decide) ?_
                exact me_z dX1_takes_171 rfl (Or.inl rfl) h
              · replace h := h.2 hc
                refine mg_iconst (v := 1) dX1_takes_166 (by decide) ?_
                refine mg_goto (tgt := 171) dX1_takes_167 (by decide) ?_
                exact me_z dX1_takes_171 rfl (Or.inr rfl) h
          · replace h := h.2 hc
            refine mg_aload_n dX1_takes_144 rfl 2 rfl ?_
            obtain ⟨q30, hC, hk⟩ := h
            refine mc_Vi [] [] dX1_takes_145 wd_940 kiX1_endsLiteral (Nat.le_of_ble_eq_true rfl) h0.1.1 h0.1.2 rfl (Nat.le_trans (Nat.le_of_ble_eq_true rfl) hd) hC (fun v30 M30 hq => ?_)
            replace h := hk v30 M30 hq
            refine mg_goto (tgt := 171) dX1_takes_148 (by decide) ?_
            exact me_z dX1_takes_171 rfl h.1 h.2
        · replace h := h.2 hc
          refine mg_iconst (v := 1) dX1_takes_30 (by decide) ?_
          refine mg_goto (tgt := 35) dX1_takes_31 (by decide) ?_
          refine mg_istore_n (ls' := [(3, .int (1)), (2, .int (0)), (0, .ref (k0)), (1, .int (x1))]) dX1_takes_35 rfl (Nat.le_of_ble_eq_true rfl) rfl ?_
          refine mg_aload_n dX1_takes_36 rfl 2 rfl ?_
          refine mg_getI (j := 2) dX1_takes_37 kc_1 (Nat.le_of_ble_eq_true rfl) wd_129 rfl rfl h0.1.1 h0.1.2 rfl ?_
          by_cases e0 : ((M).1 (k0) 2 : Int32) = 0
          · replace h := h.1 e0
            refine mg_tblC (off := 28) (tgt := 68) dX1_takes_40 e0 (by decide) (by decide) rfl (by decide) ?_
            refine mg_iload_n dX1_takes_68 rfl 1 rfl ?_
            refine mg_if_ne (tgt := 100) dX1_takes_69 (by decide) (fun hc => ?_) (fun hc => ?_)
            · replace h := h.1 hc
              refine mg_iconst (v := 1) dX1_takes_100 (by decide) ?_
              refine mg_goto (tgt := 105) dX1_takes_101 (by decide) ?_
              exact me_z dX1_takes_105 rfl (Or.inr rfl) h
            · replace h := h.2 hc
              refine mg_iload_n dX1_takes_72 rfl 0 rfl ?_
              refine mg_if_eq (tgt := 87) dX1_takes_73 (by decide) (fun hc => ?_) (fun hc => ?_)
              · replace h := h.1 hc
                refine mg_iload_n dX1_takes_87 rfl 3 rfl ?_
                refine mg_bipush (v := 45) dX1_takes_88 (by decide) ?_
                refine mg_icmp_ne (tgt := 104) dX1_takes_90 (by decide) (fun hc => ?_) (fun hc => ?_)
                · replace h := h.1 hc
                  refine mg_iconst (v := 0) dX1_takes_104 (by decide) ?_
                  exact me_z dX1_takes_105 rfl (Or.inl rfl) h
                · replace h := h.2 hc
                  refine mg_aload_n dX1_takes_93 rfl 2 rfl ?_
                  obtain ⟨q31, hC, hk⟩ := h
                  refine mc_Vi [] [] dX1_takes_94 wd_936 kiX1_takesMinus (Nat.le_of_ble_eq_true rfl) h0.1.1 h0.1.2 rfl (Nat.le_trans (Nat.le_of_ble_eq_true rfl) hd) hC (fun v31 M31 hq => ?_)
                  replace h := hk v31 M31 hq
                  refine mg_if_eq (tgt := 104) dX1_takes_97 (by decide) (fun hc => ?_) (fun hc => ?_)
                  · replace h := h.1 hc
                    refine mg_iconst (v := 0) dX1_takes_104 (by decide) ?_
                    exact me_z dX1_takes_105 rfl (Or.inl rfl) h
                  · replace h := h.2 hc
                    refine mg_iconst (v := 1) dX1_takes_100 (by decide) ?_
                    refine mg_goto (tgt := 105) dX1_takes_101 (by decide) ?_
                    exact me_z dX1_takes_105 rfl (Or.inr rfl) h
              · replace h := h.2 hc
                refine mg_aload_n dX1_takes_76 rfl 2 rfl ?_
                refine mg_iload_n dX1_takes_77 rfl 3 rfl ?_
                refine mg_bipush (v := 48) dX1_takes_78 (by decide) ?_
                refine mg_isub dX1_takes_80 ?_
                obtain ⟨q32, hC, hk⟩ := h
                refine mc_Vi [.int ((x1) - (48 : Int32))] [] dX1_takes_81 wd_922 kiX1_takesFirstDigit (Nat.le_of_ble_eq_true rfl) h0.1.1 h0.1.2 rfl (Nat.le_trans (Nat.le_of_ble_eq_true rfl) hd) hC (fun v32 M32 hq => ?_)
                replace h := hk v32 M32 hq
                refine mg_if_ne (tgt := 100) dX1_takes_84 (by decide) (fun hc => ?_) (fun hc => ?_)
                · replace h := h.1 hc
                  refine mg_iconst (v := 1) dX1_takes_100 (by decide) ?_
                  refine mg_goto (tgt := 105) dX1_takes_101 (by decide) ?_
                  exact me_z dX1_takes_105 rfl (Or.inr rfl) h
                · replace h := h.2 hc
                  refine mg_iload_n dX1_takes_87 rfl 3 rfl ?_
                  refine mg_bipush (v := 45) dX1_takes_88 (by decide) ?_
                  refine mg_icmp_ne (tgt := 104) dX1_takes_90 (by decide) (fun hc => ?_) (fun hc => ?_)
                  · replace h := h.1 hc
                    refine mg_iconst (v := 0) dX1_takes_104 (by decide) ?_
                    exact me_z dX1_takes_105 rfl (Or.inl rfl) h
                  · replace h := h.2 hc
                    refine mg_aload_n dX1_takes_93 rfl 2 rfl ?_
                    obtain ⟨q33, hC, hk⟩ := h
                    refine mc_Vi [] [] dX1_takes_94 wd_936 kiX1_takesMinus (Nat.le_of_ble_eq_true rfl) h0.1.1 h0.1.2 rfl (Nat.le_trans (Nat.le_of_ble_eq_true rfl) hd) hC (fun v33 M33 hq => ?_)
                    replace h := hk v33 M33 hq
                    refine mg_if_eq (tgt := 104) dX1_takes_97 (by decide) (fun hc => ?_) (fun hc => ?_)
                    · replace h := h.1 hc
                      refine mg_iconst (v := 0) dX1_takes_104 (by decide) ?_
                      exact me_z dX1_takes_105 rfl (Or.inl rfl) h
                    · replace h := h.2 hc
                      refine mg_iconst (v := 1) dX1_takes_100 (by decide) ?_
                      refine mg_goto (tgt := 105) dX1_takes_101 (by decide) ?_
                      exact me_z dX1_takes_105 rfl (Or.inr rfl) h
          by_cases e1 : ((M).1 (k0) 2 : Int32) = 1
          · replace h := h.2.1 e1
            refine mg_tblC (off := 66) (tgt := 106) dX1_takes_40 e1 (by decide) (by decide) rfl (by decide) ?_
            refine mg_iload_n dX1_takes_106 rfl 0 rfl ?_
            refine mg_if_eq (tgt := 131) dX1_takes_107 (by decide) (fun hc => ?_) (fun hc => ?_)
            · replace h := h.1 hc
              refine mg_iconst (v := 0) dX1_takes_131 (by decide) ?_
              exact me_z dX1_takes_132 rfl (Or.inl rfl) h
            · replace h := h.2 hc
              refine mg_iload_n dX1_takes_110 rfl 3 rfl ?_
              refine mg_bipush (v := 48) dX1_takes_111 (by decide) ?_
              refine mg_icmp_eq (tgt := 131) dX1_takes_113 (by decide) (fun hc => ?_) (fun hc => ?_)
              · replace h := h.1 hc
                refine mg_iconst (v := 0) dX1_takes_131 (by decide) ?_
                exact me_z dX1_takes_132 rfl (Or.inl rfl) h
              · replace h := h.2 hc
                refine mg_aload_n dX1_takes_116 rfl 2 rfl ?_
                refine mg_iload_n dX1_takes_117 rfl 3 rfl ?_
                refine mg_bipush (v := 48) dX1_takes_118 (by decide) ?_
                refine mg_isub dX1_takes_120 ?_
                obtain ⟨q34, hC, hk⟩ := h
                refine mc_Vi [.int ((x1) - (48 : Int32))] [] dX1_takes_121 wd_932 kiX1_takesDigit (Nat.le_of_ble_eq_true rfl) h0.1.1 h0.1.2 rfl (Nat.le_trans (Nat.le_of_ble_eq_true rfl) hd) hC (fun v34 M34 hq => ?_)
                replace h := hk v34 M34 hq
                refine mg_if_eq (tgt := 131) dX1_takes_124 (by decide) (fun hc => ?_) (fun hc => ?_)
                · replace h := h.1 hc
                  refine mg_iconst (v := 0) dX1_takes_131 (by decide) ?_
                  exact me_z dX1_takes_132 rfl (Or.inl rfl) h
                · replace h := h.2 hc
                  refine mg_iconst (v := 1) dX1_takes_127 (by decide) ?_
                  refine mg_goto (tgt := 132) dX1_takes_128 (by decide) ?_
                  exact me_z dX1_takes_132 rfl (Or.inr rfl) h
          by_cases e2 : ((M).1 (k0) 2 : Int32) = 2
          · replace h := h.2.2.1 e2
            refine mg_tblC (off := 93) (tgt := 133) dX1_takes_40 e2 (by decide) (by decide) rfl (by decide) ?_
            refine mg_aload_n dX1_takes_133 rfl 2 rfl ?_
            refine mg_iconst (v := 0) dX1_takes_134 (by decide) ?_
            refine mg_putI (j := 2) dX1_takes_135 kc_1 (Nat.le_of_ble_eq_true rfl) wd_129 rfl rfl rfl h0.1.1 h0.1.2 ?_
            refine mg_iload_n dX1_takes_138 rfl 1 rfl ?_
            exact me_z dX1_takes_139 rfl (Or.inl rfl) h
          replace h := h.2.2.2 ⟨e0, e1, e2⟩
          refine mg_tblD (tgt := 140) [0, 1, 2] dX1_takes_40 (by decide) (by decide) (List.forall_mem_cons.mpr ⟨mj_neT e0 rfl, List.forall_mem_cons.mpr ⟨mj_neT e1 rfl, List.forall_mem_cons.mpr ⟨mj_neT e2 rfl, fun _ h9 => nomatch h9⟩⟩⟩) (by decide) ?_
          refine mg_iload_n dX1_takes_140 rfl 1 rfl ?_
          refine mg_if_eq (tgt := 151) dX1_takes_141 (by decide) (fun hc => ?_) (fun hc => ?_)
          · replace h := h.1 hc
            refine mg_iload_n dX1_takes_151 rfl 0 rfl ?_
            refine mg_if_eq (tgt := 170) dX1_takes_152 (by decide) (fun hc => ?_) (fun hc => ?_)
            · replace h := h.1 hc
              refine mg_iconst (v := 0) dX1_takes_170 (by decide) ?_
              exact me_z dX1_takes_171 rfl (Or.inl rfl) h
            · replace h := h.2 hc
              refine mg_aload_n dX1_takes_155 rfl 2 rfl ?_
              refine mg_iload_n dX1_takes_156 rfl 3 rfl ?_
              refine mg_bipush (v := 48) dX1_takes_157 (by decide) ?_
              refine mg_isub dX1_takes_159 ?_
              obtain ⟨q35, hC, hk⟩ := h
              refine mc_Vi [.int ((x1) - (48 : Int32))] [] dX1_takes_160 wd_932 kiX1_takesDigit (Nat.le_of_ble_eq_true rfl) h0.1.1 h0.1.2 rfl (Nat.le_trans (Nat.le_of_ble_eq_true rfl) hd) hC (fun v35 M35 hq => ?_)
              replace h := hk v35 M35 hq
              refine mg_if_eq (tgt := 170) dX1_takes_163 (by decide) (fun hc => ?_) (fun hc => ?_)
              · replace h := h.1 hc
                refine mg_iconst (v := 0) dX1_takes_170 (by decide) ?_
                exact me_z dX1_takes_171 rfl (Or.inl rfl) h
              · replace h := h.2 hc
                refine mg_iconst (v := 1) dX1_takes_166 (by decide) ?_
                refine mg_goto (tgt := 171) dX1_takes_167 (by decide) ?_
                exact me_z dX1_takes_171 rfl (Or.inr rfl) h
          · replace h := h.2 hc
            refine mg_aload_n dX1_takes_144 rfl 2 rfl ?_
            obtain ⟨q36, hC, hk⟩ := h
            refine mc_Vi [] [] dX1_takes_145 wd_940 kiX1_endsLiteral (Nat.le_of_ble_eq_true rfl) h0.1.1 h0.1.2 rfl (Nat.le_trans (Nat.le_of_ble_eq_true rfl) hd) hC (fun v36 M36 hq => ?_)
            replace h := hk v36 M36 hq
            refine mg_goto (tgt := 171) dX1_takes_148 (by decide) ?_
            exact me_z dX1_takes_171 rfl h.1 h.2
    · replace h := h.2 hc
      refine mg_iconst (v := 1) dX1_takes_12 (by decide) ?_
      refine mg_goto (tgt := 17) dX1_takes_13 (by decide) ?_
      refine mg_istore_n (ls' := [(2, .int (1)), (0, .ref (k0)), (1, .int (x1))]) dX1_takes_17 rfl (Nat.le_of_ble_eq_true rfl) rfl ?_
      refine mg_iload_n dX1_takes_18 rfl 2 rfl ?_
      refine mg_bipush (v := 48) dX1_takes_19 (by decide) ?_
      refine mg_icmp_lt (tgt := 34) dX1_takes_21 (by decide) (fun hc => ?_) (fun hc => ?_)
      · replace h := h.1 hc
        refine mg_iconst (v := 0) dX1_takes_34 (by decide) ?_
        refine mg_istore_n (ls' := [(3, .int (0)), (2, .int (1)), (0, .ref (k0)), (1, .int (x1))]) dX1_takes_35 rfl (Nat.le_of_ble_eq_true rfl) rfl ?_
        refine mg_aload_n dX1_takes_36 rfl 2 rfl ?_
        refine mg_getI (j := 2) dX1_takes_37 kc_1 (Nat.le_of_ble_eq_true rfl) wd_129 rfl rfl h0.1.1 h0.1.2 rfl ?_
        by_cases e0 : ((M).1 (k0) 2 : Int32) = 0
        · replace h := h.1 e0
          refine mg_tblC (off := 28) (tgt := 68) dX1_takes_40 e0 (by decide) (by decide) rfl (by decide) ?_
          refine mg_iload_n dX1_takes_68 rfl 1 rfl ?_
          refine mg_if_ne (tgt := 100) dX1_takes_69 (by decide) (fun hc => ?_) (fun hc => ?_)
          · replace h := h.1 hc
            refine mg_iconst (v := 1) dX1_takes_100 (by decide) ?_
            refine mg_goto (tgt := 105) dX1_takes_101 (by decide) ?_
            exact me_z dX1_takes_105 rfl (Or.inr rfl) h
          · replace h := h.2 hc
            refine mg_iload_n dX1_takes_72 rfl 0 rfl ?_
            refine mg_if_eq (tgt := 87) dX1_takes_73 (by decide) (fun hc => ?_) (fun hc => ?_)
            · replace h := h.1 hc
              refine mg_iload_n dX1_takes_87 rfl 3 rfl ?_
              refine mg_bipush (v := 45) dX1_takes_88 (by decide) ?_
              refine mg_icmp_ne (tgt := 104) dX1_takes_90 (by decide) (fun hc => ?_) (fun hc => ?_)
              · replace h := h.1 hc
                refine mg_iconst (v := 0) dX1_takes_104 (by decide) ?_
                exact me_z dX1_takes_105 rfl (Or.inl rfl) h
              · replace h := h.2 hc
                refine mg_aload_n dX1_takes_93 rfl 2 rfl ?_
                obtain ⟨q37, hC, hk⟩ := h
                refine mc_Vi [] [] dX1_takes_94 wd_936 kiX1_takesMinus (Nat.le_of_ble_eq_true rfl) h0.1.1 h0.1.2 rfl (Nat.le_trans (Nat.le_of_ble_eq_true rfl) hd) hC (fun v37 M37 hq => ?_)
                replace h := hk v37 M37 hq
                refine mg_if_eq (tgt := 104) dX1_takes_97 (by decide) (fun hc => ?_) (fun hc => ?_)
                · replace h := h.1 hc
                  refine mg_iconst (v := 0) dX1_takes_104 (by decide) ?_
                  exact me_z dX1_takes_105 rfl (Or.inl rfl) h
                · replace h := h.2 hc
                  refine mg_iconst (v := 1) dX1_takes_100 (by decide) ?_
                  refine mg_goto (tgt := 105) dX1_takes_101 (by decide) ?_
                  exact me_z dX1_takes_105 rfl (Or.inr rfl) h
            · replace h := h.2 hc
              refine mg_aload_n dX1_takes_76 rfl 2 rfl ?_
              refine mg_iload_n dX1_takes_77 rfl 3 rfl ?_
              refine mg_bipush (v := 48) dX1_takes_78 (by decide) ?_
              refine mg_isub dX1_takes_80 ?_
              obtain ⟨q38, hC, hk⟩ := h
              refine mc_Vi [.int ((x1) - (48 : Int32))] [] dX1_takes_81 wd_922 kiX1_takesFirstDigit (Nat.le_of_ble_eq_true rfl) h0.1.1 h0.1.2 rfl (Nat.le_trans (Nat.le_of_ble_eq_true rfl) hd) hC (fun v38 M38 hq => ?_)
              replace h := hk v38 M38 hq
              refine mg_if_ne (tgt := 100) dX1_takes_84 (by decide) (fun hc => ?_) (fun hc => ?_)
              · replace h := h.1 hc
                refine mg_iconst (v := 1) dX1_takes_100 (by decide) ?_
                refine mg_goto (tgt := 105) dX1_takes_101 (by decide) ?_
                exact me_z dX1_takes_105 rfl (Or.inr rfl) h
              · replace h := h.2 hc
                refine mg_iload_n dX1_takes_87 rfl 3 rfl ?_
                refine mg_bipush (v := 45) dX1_takes_88 (by decide) ?_
                refine mg_icmp_ne (tgt := 104) dX1_takes_90 (by decide) (fun hc => ?_) (fun hc => ?_)
                · replace h := h.1 hc
                  refine mg_iconst (v := 0) dX1_takes_104 (by decide) ?_
                  exact me_z dX1_takes_105 rfl (Or.inl rfl) h
                · replace h := h.2 hc
                  refine mg_aload_n dX1_takes_93 rfl 2 rfl ?_
                  obtain ⟨q39, hC, hk⟩ := h
                  refine mc_Vi [] [] dX1_takes_94 wd_936 kiX1_takesMinus (Nat.le_of_ble_eq_true rfl) h0.1.1 h0.1.2 rfl (Nat.le_trans (Nat.le_of_ble_eq_true rfl) hd) hC (fun v39 M39 hq => ?_)
                  replace h := hk v39 M39 hq
                  refine mg_if_eq (tgt := 104) dX1_takes_97 (by decide) (fun hc => ?_) (fun hc => ?_)
                  · replace h := h.1 hc
                    refine mg_iconst (v := 0) dX1_takes_104 (by decide) ?_
                    exact me_z dX1_takes_105 rfl (Or.inl rfl) h
                  · replace h := h.2 hc
                    refine mg_iconst (v := 1) dX1_takes_100 (by decide) ?_
                    refine mg_goto (tgt := 105) dX1_takes_101 (by decide) ?_
                    exact me_z dX1_takes_105 rfl (Or.inr rfl) h
        by_cases e1 : ((M).1 (k0) 2 : Int32) = 1
        · replace h := h.2.1 e1
          refine mg_tblC (off := 66) (tgt := 106) dX1_takes_40 e1 (by decide) (by decide) rfl (by decide) ?_
          refine mg_iload_n dX1_takes_106 rfl 0 rfl ?_
          refine mg_if_eq (tgt := 131) dX1_takes_107 (by decide) (fun hc => ?_) (fun hc => ?_)
          · replace h := h.1 hc
            refine mg_iconst (v := 0) dX1_takes_131 (by decide) ?_
            exact me_z dX1_takes_132 rfl (Or.inl rfl) h
          · replace h := h.2 hc
            refine mg_iload_n dX1_takes_110 rfl 3 rfl ?_
            refine mg_bipush (v := 48) dX1_takes_111 (by decide) ?_
            refine mg_icmp_eq (tgt := 131) dX1_takes_113 (by decide) (fun hc => ?_) (fun hc => ?_)
            · replace h := h.1 hc
              refine mg_iconst (v := 0) dX1_takes_131 (by decide) ?_
              exact me_z dX1_takes_132 rfl (Or.inl rfl) h
            · replace h := h.2 hc
              refine mg_aload_n dX1_takes_116 rfl 2 rfl ?_
              refine mg_iload_n dX1_takes_117 rfl 3 rfl ?_
              refine mg_bipush (v := 48) dX1_takes_118 (by decide) ?_
              refine mg_isub dX1_takes_120 ?_
              obtain ⟨q40, hC, hk⟩ := h
              refine mc_Vi [.int ((x1) - (48 : Int32))] [] dX1_takes_121 wd_932 kiX1_takesDigit (Nat.le_of_ble_eq_true rfl) h0.1.1 h0.1.2 rfl (Nat.le_trans (Nat.le_of_ble_eq_true rfl) hd) hC (fun v40 M40 hq => ?_)
              replace h := hk v40 M40 hq
              refine mg_if_eq (tgt := 131) dX1_takes_124 (by decide) (fun hc => ?_) (fun hc => ?_)
              · replace h := h.1 hc
                refine mg_iconst (v := 0) dX1_takes_131 (by decide) ?_
                exact me_z dX1_takes_132 rfl (Or.inl rfl) h
              · replace h := h.2 hc
                refine mg_iconst (v := 1) dX1_takes_127 (by decide) ?_
                refine mg_goto (tgt := 132) dX1_takes_128 (by decide) ?_
                exact me_z dX1_takes_132 rfl (Or.inr rfl) h
        by_cases e2 : ((M).1 (k0) 2 : Int32) = 2
        · replace h := h.2.2.1 e2
          refine mg_tblC (off := 93) (tgt := 133) dX1_takes_40 e2 (by decide) (by decide) rfl (by decide) ?_
          refine mg_aload_n dX1_takes_133 rfl 2 rfl ?_
          refine mg_iconst (v := 0) dX1_takes_134 (by decide) ?_
          refine mg_putI (j := 2) dX1_takes_135 kc_1 (Nat.le_of_ble_eq_true rfl) wd_129 rfl rfl rfl h0.1.1 h0.1.2 ?_
          refine mg_iload_n dX1_takes_138 rfl 1 rfl ?_
          exact me_z dX1_takes_139 rfl (Or.inr rfl) h
        replace h := h.2.2.2 ⟨e0, e1, e2⟩
        refine mg_tblD (tgt := 140) [0, 1, 2] dX1_takes_40 (by decide) (by decide) (List.forall_mem_cons.mpr ⟨mj_neT e0 rfl, List.forall_mem_cons.mpr ⟨mj_neT e1 rfl, List.forall_mem_cons.mpr ⟨mj_neT e2 rfl, fun _ h9 => nomatch h9⟩⟩⟩) (by decide) ?_
        refine mg_iload_n dX1_takes_140 rfl 1 rfl ?_
        refine mg_if_eq (tgt := 151) dX1_takes_141 (by decide) (fun hc => ?_) (fun hc => ?_)
        · replace h := h.1 hc
          refine mg_iload_n dX1_takes_151 rfl 0 rfl ?_
          refine mg_if_eq (tgt := 170) dX1_takes_152 (by decide) (fun hc => ?_) (fun hc => ?_)
          · replace h := h.1 hc
            refine mg_iconst (v := 0) dX1_takes_170 (by decide) ?_
            exact me_z dX1_takes_171 rfl (Or.inl rfl) h
          · replace h := h.2 hc
            refine mg_aload_n dX1_takes_155 rfl 2 rfl ?_
            refine mg_iload_n dX1_takes_156 rfl 3 rfl ?_
            refine mg_bipush (v := 48) dX1_takes_157 (by decide) ?_
            refine mg_isub dX1_takes_159 ?_
            obtain ⟨q41, hC, hk⟩ := h
            refine mc_Vi [.int ((x1) - (48 : Int32))] [] dX1_takes_160 wd_932 kiX1_takesDigit (Nat.le_of_ble_eq_true rfl) h0.1.1 h0.1.2 rfl (Nat.le_trans (Nat.le_of_ble_eq_true rfl) hd) hC (fun v41 M41 hq => ?_)
            replace h := hk v41 M41 hq
            refine mg_if_eq (tgt := 170) dX1_takes_163 (by decide) (fun hc => ?_) (fun hc => ?_)
            · replace h := h.1 hc
              refine mg_iconst (v := 0) dX1_takes_170 (by decide) ?_
              exact me_z dX1_takes_171 rfl (Or.inl rfl) h
            · replace h := h.2 hc
              refine mg_iconst (v := 1) dX1_takes_166 (by decide) ?_
              refine mg_goto (tgt := 171) dX1_takes_167 (by decide) ?_
              exact me_z dX1_takes_171 rfl (Or.inr rfl) h
        · replace h := h.2 hc
          refine mg_aload_n dX1_takes_144 rfl 2 rfl ?_
          obtain ⟨q42, hC, hk⟩ := h
          refine mc_Vi [] [] dX1_takes_145 wd_940 kiX1_endsLiteral (Nat.le_of_ble_eq_true rfl) h0.1.1 h0.1.2 rfl (Nat.le_trans (Nat.le_of_ble_eq_true rfl) hd) hC (fun v42 M42 hq => ?_)
          replace h := hk v42 M42 hq
          refine mg_goto (tgt := 171) dX1_takes_148 (by decide) ?_
          exact me_z dX1_takes_171 rfl h.1 h.2
      · replace h := h.2 hc
        refine mg_iload_n dX1_takes_24 rfl 2 rfl ?_
        refine mg_bipush (v := 57) dX1_takes_25 (by decide) ?_
        refine mg_icmp_gt (tgt := 34) dX1_takes_27 (by decide) (fun hc => ?_) (fun hc => ?_)
        · replace h := h.1 hc
          refine mg_iconst (v := 0) dX1_takes_34 (by decide) ?_
          refine mg_istore_n (ls' := [(3, .int (0)), (2, .int (1)), (0, .ref (k0)), (1, .int (x1))]) dX1_takes_35 rfl (Nat.le_of_ble_eq_true rfl) rfl ?_
          refine mg_aload_n dX1_takes_36 rfl 2 rfl ?_
          refine mg_getI (j := 2) dX1_takes_37 kc_1 (Nat.le_of_ble_eq_true rfl) wd_129 rfl rfl h0.1.1 h0.1.2 rfl ?_
          by_cases e0 : ((M).1 (k0) 2 : Int32) = 0
          · replace h := h.1 e0
            refine mg_tblC (off := 28) (tgt := 68) dX1_takes_40 e0 (by decide) (by decide) rfl (by decide) ?_
            refine mg_iload_n dX1_takes_68 rfl 1 rfl ?_
            refine mg_if_ne (tgt := 100) dX1_takes_69 (by decide) (fun hc => ?_) (fun hc => ?_)
            · replace h := h.1 hc
              refine mg_iconst (v := 1) dX1_takes_100 (by decide) ?_
              refine mg_goto (tgt := 105) dX1_takes_101 (by decide) ?_
              exact me_z dX1_takes_105 rfl (Or.inr rfl) h
            · replace h := h.2 hc
              refine mg_iload_n dX1_takes_72 rfl 0 rfl ?_
              refine mg_if_eq (tgt := 87) dX1_takes_73 (by decide) (fun hc => ?_) (fun hc => ?_)
              · replace h := h.1 hc
                refine mg_iload_n dX1_takes_87 rfl 3 rfl ?_
                refine mg_bipush (v := 45) dX1_takes_88 (by decide) ?_
                refine mg_icmp_ne (tgt := 104) dX1_takes_90 (by decide) (fun hc => ?_) (fun hc => ?_)
                · replace h := h.1 hc
                  refine mg_iconst (v := 0) dX1_takes_104 (by decide) ?_
                  exact me_z dX1_takes_105 rfl (Or.inl rfl) h
                · replace h := h.2 hc
                  refine mg_aload_n dX1_takes_93 rfl 2 rfl ?_
                  obtain ⟨q43, hC, hk⟩ := h
                  refine mc_Vi [] [] dX1_takes_94 wd_936 kiX1_takesMinus (Nat.le_of_ble_eq_true rfl) h0.1.1 h0.1.2 rfl (Nat.le_trans (Nat.le_of_ble_eq_true rfl) hd) hC (fun v43 M43 hq => ?_)
                  replace h := hk v43 M43 hq
                  refine mg_if_eq (tgt := 104) dX1_takes_97 (by decide) (fun hc => ?_) (fun hc => ?_)
                  · replace h := h.1 hc
                    refine mg_iconst (v := 0) dX1_takes_104 (by decide) ?_
                    exact me_z dX1_takes_105 rfl (Or.inl rfl) h
                  · replace h := h.2 hc
                    refine mg_iconst (v := 1) dX1_takes_100 (by decide) ?_
                    refine mg_goto (tgt := 105) dX1_takes_101 (by decide) ?_
                    exact me_z dX1_takes_105 rfl (Or.inr rfl) h
              · replace h := h.2 hc
                refine mg_aload_n dX1_takes_76 rfl 2 rfl ?_
                refine mg_iload_n dX1_takes_77 rfl 3 rfl ?_
                refine mg_bipush (v := 48) dX1_takes_78 (by decide) ?_
                refine mg_isub dX1_takes_80 ?_
                obtain ⟨q44, hC, hk⟩ := h
                refine mc_Vi [.int ((x1) - (48 : Int32))] [] dX1_takes_81 wd_922 kiX1_takesFirstDigit (Nat.le_of_ble_eq_true rfl) h0.1.1 h0.1.2 rfl (Nat.le_trans (Nat.le_of_ble_eq_true rfl) hd) hC (fun v44 M44 hq => ?_)
                replace h := hk v44 M44 hq
                refine mg_if_ne (tgt := 100) dX1_takes_84 (by decide) (fun hc => ?_) (fun hc => ?_)
                · replace h := h.1 hc
                  refine mg_iconst (v := 1) dX1_takes_100 (by decide) ?_
                  refine mg_goto (tgt := 105) dX1_takes_101 (by decide) ?_
                  exact me_z dX1_takes_105 rfl (Or.inr rfl) h
                · replace h := h.2 hc
                  refine mg_iload_n dX1_takes_87 rfl 3 rfl ?_
                  refine mg_bipush (v := 45) dX1_takes_88 (by decide) ?_
                  refine mg_icmp_ne (tgt := 104) dX1_takes_90 (by decide) (fun hc => ?_) (fun hc => ?_)
                  · replace h := h.1 hc
                    refine mg_iconst (v := 0) dX1_takes_104 (by decide) ?_
                    exact me_z dX1_takes_105 rfl (Or.inl rfl) h
                  · replace h := h.2 hc
                    refine mg_aload_n dX1_takes_93 rfl 2 rfl ?_
                    obtain ⟨q45, hC, hk⟩ := h
                    refine mc_Vi [] [] dX1_takes_94 wd_936 kiX1_takesMinus (Nat.le_of_ble_eq_true rfl) h0.1.1 h0.1.2 rfl (Nat.le_trans (Nat.le_of_ble_eq_true rfl) hd) hC (fun v45 M45 hq => ?_)
                    replace h := hk v45 M45 hq
                    refine mg_if_eq (tgt := 104) dX1_takes_97 (by decide) (fun hc => ?_) (fun hc => ?_)
                    · replace h := h.1 hc
                      refine mg_iconst (v := 0) dX1_takes_104 (by decide) ?_
                      exact me_z dX1_takes_105 rfl (Or.inl rfl) h
                    · replace h := h.2 hc
                      refine mg_iconst (v := 1) dX1_takes_100 (by decide) ?_
                      refine mg_goto (tgt := 105) dX1_takes_101 (by decide) ?_
                      exact me_z dX1_takes_105 rfl (Or.inr rfl) h
          by_cases e1 : ((M).1 (k0) 2 : Int32) = 1
          · replace h := h.2.1 e1
            refine mg_tblC (off := 66) (tgt := 106) dX1_takes_40 e1 (by decide) (by decide) rfl (by decide) ?_
            refine mg_iload_n dX1_takes_106 rfl 0 rfl ?_
            refine mg_if_eq (tgt := 131) dX1_takes_107 (by decide) (fun hc => ?_) (fun hc => ?_)
            · replace h := h.1 hc
              refine mg_iconst (v := 0) dX1_takes_131 (by decide) ?_
              exact me_z dX1_takes_132 rfl (Or.inl rfl) h
            · replace h := h.2 hc
              refine mg_iload_n dX1_takes_110 rfl 3 rfl ?_
              refine mg_bipush (v := 48) dX1_takes_111 (by decide) ?_
              refine mg_icmp_eq (tgt := 131) dX1_takes_113 (by decide) (fun hc => ?_) (fun hc => ?_)
              · replace h := h.1 hc
                refine mg_iconst (v := 0) dX1_takes_131 (by decide) ?_
                exact me_z dX1_takes_132 rfl (Or.inl rfl) h
              · replace h := h.2 hc
                refine mg_aload_n dX1_takes_116 rfl 2 rfl ?_
                refine mg_iload_n dX1_takes_117 rfl 3 rfl ?_
                refine mg_bipush (v := 48) dX1_takes_118 (by decide) ?_
                refine mg_isub dX1_takes_120 ?_
                obtain ⟨q46, hC, hk⟩ := h
                refine mc_Vi [.int ((x1) - (48 : Int32))] [] dX1_takes_121 wd_932 kiX1_takesDigit (Nat.le_of_ble_eq_true rfl) h0.1.1 h0.1.2 rfl (Nat.le_trans (Nat.le_of_ble_eq_true rfl) hd) hC (fun v46 M46 hq => ?_)
                replace h := hk v46 M46 hq
                refine mg_if_eq (tgt := 131) dX1_takes_124 (by decide) (fun hc => ?_) (fun hc => ?_)
                · replace h := h.1 hc
                  refine mg_iconst (v := 0) dX1_takes_131 (by decide) ?_
                  exact me_z dX1_takes_132 rfl (Or.inl rfl) h
                · replace h := h.2 hc
                  refine mg_iconst (v := 1) dX1_takes_127 (by decide) ?_
                  refine mg_goto (tgt := 132) dX1_takes_128 (by decide) ?_
                  exact me_z dX1_takes_132 rfl (Or.inr rfl) h
          by_cases e2 : ((M).1 (k0) 2 : Int32) = 2
          · replace h := h.2.2.1 e2
            refine mg_tblC (off := 93) (tgt := 133) dX1_takes_40 e2 (by decide) (by decide) rfl (by decide) ?_
            refine mg_aload_n dX1_takes_133 rfl 2 rfl ?_
            refine mg_iconst (v := 0) dX1_takes_134 (by decide) ?_
            refine mg_putI (j := 2) dX1_takes_135 kc_1 (Nat.le_of_ble_eq_true rfl) wd_129 rfl rfl rfl h0.1.1 h0.1.2 ?_
            refine mg_iload_n dX1_takes_138 rfl 1 rfl ?_
            exact me_z dX1_takes_139 rfl (Or.inr rfl) h
          replace h := h.2.2.2 ⟨e0, e1, e2⟩
          refine mg_tblD (tgt := 140) [0, 1, 2] dX1_takes_40 (by decide) (by decide) (List.forall_mem_cons.mpr ⟨mj_neT e0 rfl, List.forall_mem_cons.mpr ⟨mj_neT e1 rfl, List.forall_mem_cons.mpr ⟨mj_neT e2 rfl, fun _ h9 => nomatch h9⟩⟩⟩) (by decide) ?_
          refine mg_iload_n dX1_takes_140 rfl 1 rfl ?_
          refine mg_if_eq (tgt := 151) dX1_takes_141 (by decide) (fun hc => ?_) (fun hc => ?_)
          · replace h := h.1 hc
            refine mg_iload_n dX1_takes_151 rfl 0 rfl ?_
            refine mg_if_eq (tgt := 170) dX1_takes_152 (by decide) (fun hc => ?_) (fun hc => ?_)
            · replace h := h.1 hc
              refine mg_iconst (v := 0) dX1_takes_170 (by decide) ?_
              exact me_z dX1_takes_171 rfl (Or.inl rfl) h
            · replace h := h.2 hc
              refine mg_aload_n dX1_takes_155 rfl 2 rfl ?_
              refine mg_iload_n dX1_takes_156 rfl 3 rfl ?_
              refine mg_bipush (v := 48) dX1_takes_157 (by decide) ?_
              refine mg_isub dX1_takes_159 ?_
              obtain ⟨q47, hC, hk⟩ := h
              refine mc_Vi [.int ((x1) - (48 : Int32))] [] dX1_takes_160 wd_932 kiX1_takesDigit (Nat.le_of_ble_eq_true rfl) h0.1.1 h0.1.2 rfl (Nat.le_trans (Nat.le_of_ble_eq_true rfl) hd) hC (fun v47 M47 hq => ?_)
              replace h := hk v47 M47 hq
              refine mg_if_eq (tgt := 170) dX1_takes_163 (by decide) (fun hc => ?_) (fun hc => ?_)
              · replace h := h.1 hc
                refine mg_iconst (v := 0) dX1_takes_170 (by decide) ?_
                exact me_z dX1_takes_171 rfl (Or.inl rfl) h
              · replace h := h.2 hc
                refine mg_iconst (v := 1) dX1_takes_166 (by decide) ?_
                refine mg_goto (tgt := 171) dX1_takes_167 (by decide) ?_
                exact me_z dX1_takes_171 rfl (Or.inr rfl) h
          · replace h := h.2 hc
            refine mg_aload_n dX1_takes_144 rfl 2 rfl ?_
            obtain ⟨q48, hC, hk⟩ := h
            refine mc_Vi [] [] dX1_takes_145 wd_940 kiX1_endsLiteral (Nat.le_of_ble_eq_true rfl) h0.1.1 h0.1.2 rfl (Nat.le_trans (Nat.le_of_ble_eq_true rfl) hd) hC (fun v48 M48 hq => ?_)
            replace h := hk v48 M48 hq
            refine mg_goto (tgt := 171) dX1_takes_148 (by decide) ?_
            exact me_z dX1_takes_171 rfl h.1 h.2
        · replace h := h.2 hc
          refine mg_iconst (v := 1) dX1_takes_30 (by decide) ?_
          refine mg_goto (tgt := 35) dX1_takes_31 (by decide) ?_
          refine mg_istore_n (ls' := [(3, .int (1)), (2, .int (1)), (0, .ref (k0)), (1, .int (x1))]) dX1_takes_35 rfl (Nat.le_of_ble_eq_true rfl) rfl ?_
          refine mg_aload_n dX1_takes_36 rfl 2 rfl ?_
          refine mg_getI (j := 2) dX1_takes_37 kc_1 (Nat.le_of_ble_eq_true rfl) wd_129 rfl rfl h0.1.1 h0.1.2 rfl ?_
          by_cases e0 : ((M).1 (k0) 2 : Int32) = 0
          · replace h := h.1 e0
            refine mg_tblC (off := 28) (tgt := 68) dX1_takes_40 e0 (by decide) (by decide) rfl (by decide) ?_
            refine mg_iload_n dX1_takes_68 rfl 1 rfl ?_
            refine mg_if_ne (tgt := 100) dX1_takes_69 (by decide) (fun hc => ?_) (fun hc => ?_)
            · replace h := h.1 hc
              refine mg_iconst (v := 1) dX1_takes_100 (by decide) ?_
              refine mg_goto (tgt := 105) dX1_takes_101 (by decide) ?_
              exact me_z dX1_takes_105 rfl (Or.inr rfl) h
            · replace h := h.2 hc
              refine mg_iload_n dX1_takes_72 rfl 0 rfl ?_
              refine mg_if_eq (tgt := 87) dX1_takes_73 (by decide) (fun hc => ?_) (fun hc => ?_)
              · replace h := h.1 hc
                refine mg_iload_n dX1_takes_87 rfl 3 rfl ?_
                refine mg_bipush (v := 45) dX1_takes_88 (by decide) ?_
                refine mg_icmp_ne (tgt := 104) dX1_takes_90 (by decide) (fun hc => ?_) (fun hc => ?_)
                · replace h := h.1 hc
                  refine mg_iconst (v := 0) dX1_takes_104 (by decide) ?_
                  exact me_z dX1_takes_105 rfl (Or.inl rfl) h
                · replace h := h.2 hc
                  refine mg_aload_n dX1_takes_93 rfl 2 rfl ?_
                  obtain ⟨q49, hC, hk⟩ := h
                  refine mc_Vi [] [] dX1_takes_94 wd_936 kiX1_takesMinus (Nat.le_of_ble_eq_true rfl) h0.1.1 h0.1.2 rfl (Nat.le_trans (Nat.le_of_ble_eq_true rfl) hd) hC (fun v49 M49 hq => ?_)
                  replace h := hk v49 M49 hq
                  refine mg_if_eq (tgt := 104) dX1_takes_97 (by decide) (fun hc => ?_) (fun hc => ?_)
                  · replace h := h.1 hc
                    refine mg_iconst (v := 0) dX1_takes_104 (by decide) ?_
                    exact me_z dX1_takes_105 rfl (Or.inl rfl) h
                  · replace h := h.2 hc
                    refine mg_iconst (v := 1) dX1_takes_100 (by decide) ?_
                    refine mg_goto (tgt := 105) dX1_takes_101 (by decide) ?_
                    exact me_z dX1_takes_105 rfl (Or.inr rfl) h
              · replace h := h.2 hc
                refine mg_aload_n dX1_takes_76 rfl 2 rfl ?_
                refine mg_iload_n dX1_takes_77 rfl 3 rfl ?_
                refine mg_bipush (v := 48) dX1_takes_78 (by decide) ?_
                refine mg_isub dX1_takes_80 ?_
                obtain ⟨q50, hC, hk⟩ := h
                refine mc_Vi [.int ((x1) - (48 : Int32))] [] dX1_takes_81 wd_922 kiX1_takesFirstDigit (Nat.le_of_ble_eq_true rfl) h0.1.1 h0.1.2 rfl (Nat.le_trans (Nat.le_of_ble_eq_true rfl) hd) hC (fun v50 M50 hq => ?_)
                replace h := hk v50 M50 hq
                refine mg_if_ne (tgt := 100) dX1_takes_84 (by decide) (fun hc => ?_) (fun hc => ?_)
                · replace h := h.1 hc
                  refine mg_iconst (v := 1) dX1_takes_100 (by decide) ?_
                  refine mg_goto (tgt := 105) dX1_takes_101 (by decide) ?_
                  exact me_z dX1_takes_105 rfl (Or.inr rfl) h
                · replace h := h.2 hc
                  refine mg_iload_n dX1_takes_87 rfl 3 rfl ?_
                  refine mg_bipush (v := 45) dX1_takes_88 (by decide) ?_
                  refine mg_icmp_ne (tgt := 104) dX1_takes_90 (by decide) (fun hc => ?_) (fun hc => ?_)
                  · replace h := h.1 hc
                    refine mg_iconst (v := 0) dX1_takes_104 (by decide) ?_
                    exact me_z dX1_takes_105 rfl (Or.inl rfl) h
                  · replace h := h.2 hc
                    refine mg_aload_n dX1_takes_93 rfl 2 rfl ?_
                    obtain ⟨q51, hC, hk⟩ := h
                    refine mc_Vi [] [] dX1_takes_94 wd_936 kiX1_takesMinus (Nat.le_of_ble_eq_true rfl) h0.1.1 h0.1.2 rfl (Nat.le_trans (Nat.le_of_ble_eq_true rfl) hd) hC (fun v51 M51 hq => ?_)
                    replace h := hk v51 M51 hq
                    refine mg_if_eq (tgt := 104) dX1_takes_97 (by decide) (fun hc => ?_) (fun hc => ?_)
                    · replace h := h.1 hc
                      refine mg_iconst (v := 0) dX1_takes_104 (by decide) ?_
                      exact me_z dX1_takes_105 rfl (Or.inl rfl) h
                    · replace h := h.2 hc
                      refine mg_iconst (v := 1) dX1_takes_100 (by decide) ?_
                      refine mg_goto (tgt := 105) dX1_takes_101 (by decide) ?_
                      exact me_z dX1_takes_105 rfl (Or.inr rfl) h
          by_cases e1 : ((M).1 (k0) 2 : Int32) = 1
          · replace h := h.2.1 e1
            refine mg_tblC (off := 66) (tgt := 106) dX1_takes_40 e1 (by decide) (by decide) rfl (by decide) ?_
            refine mg_iload_n dX1_takes_106 rfl 0 rfl ?_
            refine mg_if_eq (tgt := 131) dX1_takes_107 (by decide) (fun hc => ?_) (fun hc => ?_)
            · replace h := h.1 hc
              refine mg_iconst (v := 0) dX1_takes_131 (by decide) ?_
              exact me_z dX1_takes_132 rfl (Or.inl rfl) h
            · replace h := h.2 hc
              refine mg_iload_n dX1_takes_110 rfl 3 rfl ?_
              refine mg_bipush (v := 48) dX1_takes_111 (by decide) ?_
              refine mg_icmp_eq (tgt := 131) dX1_takes_113 (by decide) (fun hc => ?_) (fun hc => ?_)
              · replace h := h.1 hc
                refine mg_iconst (v := 0) dX1_takes_131 (by decide) ?_
                exact me_z dX1_takes_132 rfl (Or.inl rfl) h
              · replace h := h.2 hc
                refine mg_aload_n dX1_takes_116 rfl 2 rfl ?_
                refine mg_iload_n dX1_takes_117 rfl 3 rfl ?_
                refine mg_bipush (v := 48) dX1_takes_118 (by decide) ?_
                refine mg_isub dX1_takes_120 ?_
                obtain ⟨q52, hC, hk⟩ := h
                refine mc_Vi [.int ((x1) - (48 : Int32))] [] dX1_takes_121 wd_932 kiX1_takesDigit (Nat.le_of_ble_eq_true rfl) h0.1.1 h0.1.2 rfl (Nat.le_trans (Nat.le_of_ble_eq_true rfl) hd) hC (fun v52 M52 hq => ?_)
                replace h := hk v52 M52 hq
                refine mg_if_eq (tgt := 131) dX1_takes_124 (by decide) (fun hc => ?_) (fun hc => ?_)
                · replace h := h.1 hc
                  refine mg_iconst (v := 0) dX1_takes_131 (by decide) ?_
                  exact me_z dX1_takes_132 rfl (Or.inl rfl) h
                · replace h := h.2 hc
                  refine mg_iconst (v := 1) dX1_takes_127 (by decide) ?_
                  refine mg_goto (tgt := 132) dX1_takes_128 (by decide) ?_
                  exact me_z dX1_takes_132 rfl (Or.inr rfl) h
          by_cases e2 : ((M).1 (k0) 2 : Int32) = 2
          · replace h := h.2.2.1 e2
            refine mg_tblC (off := 93) (tgt := 133) dX1_takes_40 e2 (by decide) (by decide) rfl (by decide) ?_
            refine mg_aload_n dX1_takes_133 rfl 2 rfl ?_
            refine mg_iconst (v := 0) dX1_takes_134 (by decide) ?_
            refine mg_putI (j := 2) dX1_takes_135 kc_1 (Nat.le_of_ble_eq_true rfl) wd_129 rfl rfl rfl h0.1.1 h0.1.2 ?_
            refine mg_iload_n dX1_takes_138 rfl 1 rfl ?_
            exact me_z dX1_takes_139 rfl (Or.inr rfl) h
          replace h := h.2.2.2 ⟨e0, e1, e2⟩
          refine mg_tblD (tgt := 140) [0, 1, 2] dX1_takes_40 (by decide) (by decide) (List.forall_mem_cons.mpr ⟨mj_neT e0 rfl, List.forall_mem_cons.mpr ⟨mj_neT e1 rfl, List.forall_mem_cons.mpr ⟨mj_neT e2 rfl, fun _ h9 => nomatch h9⟩⟩⟩) (by decide) ?_
          refine mg_iload_n dX1_takes_140 rfl 1 rfl ?_
          refine mg_if_eq (tgt := 151) dX1_takes_141 (by decide) (fun hc => ?_) (fun hc => ?_)
          · replace h := h.1 hc
            refine mg_iload_n dX1_takes_151 rfl 0 rfl ?_
            refine mg_if_eq (tgt := 170) dX1_takes_152 (by decide) (fun hc => ?_) (fun hc => ?_)
            · replace h := h.1 hc
              refine mg_iconst (v := 0) dX1_takes_170 (by decide) ?_
              exact me_z dX1_takes_171 rfl (Or.inl rfl) h
            · replace h := h.2 hc
              refine mg_aload_n dX1_takes_155 rfl 2 rfl ?_
              refine mg_iload_n dX1_takes_156 rfl 3 rfl ?_
              refine mg_bipush (v := 48) dX1_takes_157 (by decide) ?_
              refine mg_isub dX1_takes_159 ?_
              obtain ⟨q53, hC, hk⟩ := h
              refine mc_Vi [.int ((x1) - (48 : Int32))] [] dX1_takes_160 wd_932 kiX1_takesDigit (Nat.le_of_ble_eq_true rfl) h0.1.1 h0.1.2 rfl (Nat.le_trans (Nat.le_of_ble_eq_true rfl) hd) hC (fun v53 M53 hq => ?_)
              replace h := hk v53 M53 hq
              refine mg_if_eq (tgt := 170) dX1_takes_163 (by decide) (fun hc => ?_) (fun hc => ?_)
              · replace h := h.1 hc
                refine mg_iconst (v := 0) dX1_takes_170 (by decide) ?_
                exact me_z dX1_takes_171 rfl (Or.inl rfl) h
              · replace h := h.2 hc
                refine mg_iconst (v := 1) dX1_takes_166 (by decide) ?_
                refine mg_goto (tgt := 171) dX1_takes_167 (by decide) ?_
                exact me_z dX1_takes_171 rfl (Or.inr rfl) h
          · replace h := h.2 hc
            refine mg_aload_n dX1_takes_144 rfl 2 rfl ?_
            obtain ⟨q54, hC, hk⟩ := h
            refine mc_Vi [] [] dX1_takes_145 wd_940 kiX1_endsLiteral (Nat.le_of_ble_eq_true rfl) h0.1.1 h0.1.2 rfl (Nat.le_trans (Nat.le_of_ble_eq_true rfl) hd) hC (fun v54 M54 hq => ?_)
            replace h := hk v54 M54 hq
            refine mg_goto (tgt := 171) dX1_takes_148 (by decide) ?_
            exact me_z dX1_takes_171 rfl h.1 h.2
theorem dX2_begin_0 : decode cX2_begin 0 = .ok (.aload_n 0, 1) := by decide +kernel
theorem dX2_begin_1 : decode cX2_begin 1 = .ok (.iload_n 1, 1) := by decide +kernel
theorem dX2_begin_2 : decode cX2_begin 2 = .ok (.i2l, 1) := by decide +kernel
theorem dX2_begin_3 : decode cX2_begin 3 = .ok (.putfield 7, 3) := by decide +kernel
theorem dX2_begin_6 : decode cX2_begin 6 = .ok (.aload_n 0, 1) := by decide +kernel
theorem dX2_begin_7 : decode cX2_begin 7 = .ok (.iload_n 2, 1) := by decide +kernel
theorem dX2_begin_8 : decode cX2_begin 8 = .ok (.putfield 13, 3) := by decide +kernel
theorem dX2_begin_11 : decode cX2_begin 11 = .ok (.return_, 1) := by decide +kernel
abbrev mtX2_begin : mj_T := (yX2_begin.cls, cX2_begin, 3, none, mj_no, yX2_begin.name)
abbrev kX2_begin (k0 : Nat) (x1 : Int32) (x2 : Int32) (g : mj_S) (M : mj_M) (q : mj_M → Prop) : Prop := mj_CV yX2_begin (.code yX2_begin cX2_begin 3 none) 0 [.ref (k0), .int (x1), .int (x2)] g M q
theorem kiX2_begin : mj_cV yX2_begin cX2_begin 3 none 2 := ⟨⟨wd_794, wd_795, wd_7, wd_796⟩, ⟨by decide +kernel, by decide +kernel, by decide +kernel⟩, Nat.le_of_ble_eq_true rfl⟩
theorem eX2_begin {k0 : Nat} {x1 : Int32} {x2 : Int32} {g : mj_S} {M : mj_M} {q : mj_M → Prop} (h0 : is2 g k0) (h : q (mj_wI (mj_wL (M) (k0) 0 (Int32.toInt64 (x1))) (k0) 1 (x2))) : kX2_begin (k0) (x1) (x2) g M q := by
  intro d hd; refine mj_enter (by decide +kernel) (Nat.le_of_ble_eq_true rfl) ?_
  generalize (false : Bool) = ex
  show mj_G mtX2_begin (mj_rm d 0 0) (mj_Fi (mj_qV g q) mj_x0 0 0) ex 0 0 0 [(0, .ref (k0)), (1, .int (x1)), (2, .int (x2))] [] g M
  refine mg_aload_n dX2_begin_0 rfl 0 rfl ?_
  refine mg_iload_n dX2_begin_1 rfl 1 rfl ?_
  refine mg_i2l dX2_begin_2 ?_
  refine mg_putL (j := 0) dX2_begin_3 kc_2 (Nat.le_of_ble_eq_true rfl) wd_155 rfl rfl rfl h0.1 h0.2 ?_
  refine mg_aload_n dX2_begin_6 rfl 0 rfl ?_
  refine mg_iload_n dX2_begin_7 rfl 2 rfl ?_
  refine mg_putI (j := 1) dX2_begin_8 kc_2 (Nat.le_of_ble_eq_true rfl) wd_156 rfl rfl rfl h0.1 h0.2 ?_
  exact me_v dX2_begin_11 rfl h
theorem dX2_draw_0 : decode cX2_draw 0 = .ok (.aload_n 0, 1) := by decide +kernel
theorem dX2_draw_1 : decode cX2_draw 1 = .ok (.aload_n 0, 1) := by decide +kernel
theorem dX2_draw_2 : decode cX2_draw 2 = .ok (.getfield 7, 3) := by decide +kernel
theorem dX2_draw_5 : decode cX2_draw 5 = .ok (.ldc2_w 25, 3) := by decide +kernel
theorem dX2_draw_8 : decode cX2_draw 8 = .ok (.lmul, 1) := by decide +kernel
theorem dX2_draw_9 : decode cX2_draw 9 = .ok (.ldc2_w 27, 3) := by decide +kernel
theorem dX2_draw_12 : decode cX2_draw 12 = .ok (.ladd, 1) := by decide +kernel
theorem dX2_draw_13 : decode cX2_draw 13 = .ok (.ldc2_w 29, 3) := by decide +kernel
theorem dX2_draw_16 : decode cX2_draw 16 = .ok (.lrem, 1) := by decide +kernel
theorem dX2_draw_17 : decode cX2_draw 17 = .ok (.putfield 7, 3) := by decide +kernel
theorem dX2_draw_20 : decode cX2_draw 20 = .ok (.iload_n 1, 1) := by decide +kernel
theorem dX2_draw_21 : decode cX2_draw 21 = .ok (.ifCond .le 18, 3) := by decide +kernel
theorem dX2_draw_24 : decode cX2_draw 24 = .ok (.aload_n 0, 1) := by decide +kernel
theorem dX2_draw_25 : decode cX2_draw 25 = .ok (.getfield 7, 3) := by decide +kernel
theorem dX2_draw_28 : decode cX2_draw 28 = .ok (.ldc2_w 31, 3) := by decide +kernel
theorem dX2_draw_31 : decode cX2_draw 31 = .ok (.ldiv, 1) := by decide +kernel
theorem dX2_draw_32 : decode cX2_draw 32 = .ok (.iload_n 1, 1) := by decide +kernel
theorem dX2_draw_33 : decode cX2_draw 33 = .ok (.i2l, 1) := by decide +kernel
theorem dX2_draw_34 : decode cX2_draw 34 = .ok (.lrem, 1) := by decide +kernel
theorem dX2_draw_35 : decode cX2_draw 35 = .ok (.l2i, 1) := by decide +kernel
theorem dX2_draw_36 : decode cX2_draw 36 = .ok (.goto 4, 3) := by decide +kernel
theorem dX2_draw_39 : decode cX2_draw 39 = .ok (.iconst 0, 1) := by decide +kernel
theorem dX2_draw_40 : decode cX2_draw 40 = .ok (.ireturn, 1) := by decide +kernel
abbrev mtX2_draw : mj_T := (yX2_draw.cls, cX2_draw, 2, (some .int), mj_no, yX2_draw.name)
abbrev kX2_draw (k0 : Nat) (x1 : Int32) (g : mj_S) (M : mj_M) (q : Int32 → mj_M → Prop) : Prop := mj_CI yX2_draw (.code yX2_draw cX2_draw 2 (some .int)) 0 [.ref (k0), .int (x1)] g M q
theorem kiX2_draw : mj_cV yX2_draw cX2_draw 2 (some .int) 1 := ⟨⟨wd_803, wp_26, wd_7, wd_804⟩, ⟨by decide +kernel, by decide +kernel, by decide +kernel⟩, Nat.le_of_ble_eq_true rfl⟩
theorem eX2_draw {k0 : Nat} {x1 : Int32} {g : mj_S} {M : mj_M} {q : Int32 → mj_M → Prop} (h0 : is2 g k0) (h : ((x1 : Int32) ≤ 0 → q (0) (mj_wL (M) (k0) 0 (((((M).2.1 (k0) 0) * ((1103515245 : Int64))) + ((12345 : Int64))) - ((((M).2.1 (k0) 0) * ((1103515245 : Int64))) + ((12345 : Int64))) / ((2147483648 : Int64)) * ((2147483648 : Int64))))) ∧ (¬ (x1 : Int32) ≤ 0 → (¬ (Int32.toInt64 (x1) : Int64) = 0) ∧ (q (Int64.toInt32 ((((mj_wL (M) (k0) 0 (((((M).2.1 (k0) 0) * ((1103515245 : Int64))) + ((12345 : Int64))) - ((((M).2.1 (k0) 0) * ((1103515245 : Int64))) + ((12345 : Int64))) / ((2147483648 : Int64)) * ((2147483648 : Int64)))).2.1 (k0) 0) / ((65536 : Int64))) - (((mj_wL (M) (k0) 0 (((((M).2.1 (k0) 0) * ((1103515245 : Int64))) + ((12345 : Int64))) - ((((M).2.1 (k0) 0) * ((1103515245 : Int64))) + ((12345 : Int64))) / ((2147483648 : Int64)) * ((2147483648 : Int64)))).2.1 (k0) 0) / ((65536 : Int64))) / (Int32.toInt64 (x1)) * (Int32.toInt64 (x1)))) (mj_wL (M) (k0) 0 (((((M).2.1 (k0) 0) * ((1103515245 : Int64))) + ((12345 : Int64))) - ((((M).2.1 (k0) 0) * ((1103515245 : Int64))) + ((12345 : Int64))) / ((2147483648 : Int64)) * ((2147483648 : Int64))))))) : kX2_draw (k0) (x1) g M q := by
  intro d hd; refine mj_enter (by decide +kernel) (Nat.le_of_ble_eq_true rfl) ?_
  generalize (false : Bool) = ex
  show mj_G mtX2_draw (mj_rm d 0 0) (mj_Fi (mj_qI g q) mj_x0 0 0) ex 0 0 0 [(0, .ref (k0)), (1, .int (x1))] [] g M
  refine mg_aload_n dX2_draw_0 rfl 0 rfl ?_
  refine mg_aload_n dX2_draw_1 rfl 0 rfl ?_
  refine mg_getL (j := 0) dX2_draw_2 kc_2 (Nat.le_of_ble_eq_true rfl) wd_155 rfl rfl h0.1 h0.2 rfl ?_
  refine mg_ldc2 (v := 1103515245) dX2_draw_5 wd_805 ?_
  refine mg_lmul dX2_draw_8 ?_
  refine mg_ldc2 (v := 12345) dX2_draw_9 wd_806 ?_
  refine mg_ladd dX2_draw_12 ?_
  refine mg_ldc2 (v := 2147483648) dX2_draw_13 wd_807 ?_
  refine mg_lrem dX2_draw_16 (by decide) ?_
  refine mg_putL (j := 0) dX2_draw_17 kc_2 (Nat.le_of_ble_eq_true rfl) wd_155 rfl rfl rfl h0.1 h0.2 ?_
  refine mg_iload_n dX2_draw_20 rfl 1 rfl ?_
  refine mg_if_le (tgt := 39) dX2_draw_21 (by decide) (fun hc => ?_) (fun hc => ?_)
  · replace h := h.1 hc
    refine mg_iconst (v := 0) dX2_draw_39 (by decide) ?_
    exact me_i dX2_draw_40 rfl h
  · replace h := h.2 hc
    refine mg_aload_n dX2_draw_24 rfl 0 rfl ?_
    refine mg_getL (j := 0) dX2_draw_25 kc_2 (Nat.le_of_ble_eq_true rfl) wd_155 rfl rfl h0.1 h0.2 rfl ?_
    refine mg_ldc2 (v := 65536) dX2_draw_28 wd_808 ?_
    refine mg_ldiv dX2_draw_31 (by decide) ?_
    refine mg_iload_n dX2_draw_32 rfl 1 rfl ?_
    refine mg_i2l dX2_draw_33 ?_
    refine mg_lrem dX2_draw_34 h.1 ?_
    replace h := h.2
    refine mg_l2i dX2_draw_35 ?_
    refine mg_goto (tgt := 40) dX2_draw_36 (by decide) ?_
    exact me_i dX2_draw_40 rfl h
theorem dX2_freeVariable_0 : decode cX2_freeVariable 0 = .ok (.iload_n 2, 1) := by decide +kernel
theorem dX2_freeVariable_1 : decode cX2_freeVariable 1 = .ok (.istore_n 3, 1) := by decide +kernel
theorem dX2_freeVariable_2 : decode cX2_freeVariable 2 = .ok (.iconst 0, 1) := by decide +kernel
theorem dX2_freeVariable_3 : decode cX2_freeVariable 3 = .ok (.istore 4, 2) := by decide +kernel
theorem dX2_freeVariable_5 : decode cX2_freeVariable 5 = .ok (.iload 4, 2) := by decide +kernel
theorem dX2_freeVariable_7 : decode cX2_freeVariable 7 = .ok (.aload_n 0, 1) := by decide +kernel
theorem dX2_freeVariable_8 : decode cX2_freeVariable 8 = .ok (.getfield 13, 3) := by decide +kernel
theorem dX2_freeVariable_11 : decode cX2_freeVariable 11 = .ok (.if_icmp .ge 28, 3) := by decide +kernel
theorem dX2_freeVariable_14 : decode cX2_freeVariable 14 = .ok (.iload_n 1, 1) := by decide +kernel
theorem dX2_freeVariable_15 : decode cX2_freeVariable 15 = .ok (.iload 4, 2) := by decide +kernel
theorem dX2_freeVariable_17 : decode cX2_freeVariable 17 = .ok (.ishr, 1) := by decide +kernel
theorem dX2_freeVariable_18 : decode cX2_freeVariable 18 = .ok (.iconst 1, 1) := by decide +kernel
theorem dX2_freeVariable_19 : decode cX2_freeVariable 19 = .ok (.iand, 1) := by decide +kernel
theorem dX2_freeVariable_20 : decode cX2_freeVariable 20 = .ok (.ifCond .ne 13, 3) := by decide +kernel
theorem dX2_freeVariable_23 : decode cX2_freeVariable 23 = .ok (.iload_n 3, 1) := by decide +kernel
theorem dX2_freeVariable_24 : decode cX2_freeVariable 24 = .ok (.ifCond .ne 6, 3) := by decide +kernel
theorem dX2_freeVariable_27 : decode cX2_freeVariable 27 = .ok (.iload 4, 2) := by decide +kernel
theorem dX2_freeVariable_29 : decode cX2_freeVariable 29 = .ok (.ireturn, 1) := by decide +kernel
theorem dX2_freeVariable_30 : decode cX2_freeVariable 30 = .ok (.iinc 3 (-1), 3) := by decide +kernel
theorem dX2_freeVariable_33 : decode cX2_freeVariable 33 = .ok (.iinc 4 1, 3) := by decide +kernel
theorem dX2_freeVariable_36 : decode cX2_freeVariable 36 = .ok (.goto (-31), 3) := by decide +kernel
theorem dX2_freeVariable_39 : decode cX2_freeVariable 39 = .ok (.iconst 0, 1) := by decide +kernel
theorem dX2_freeVariable_40 : decode cX2_freeVariable 40 = .ok (.ireturn, 1) := by decide +kernel
abbrev mtX2_freeVariable : mj_T := (yX2_freeVariable.cls, cX2_freeVariable, 5, (some .int), mj_no, yX2_freeVariable.name)
abbrev kX2_freeVariable (k0 : Nat) (x1 : Int32) (x2 : Int32) (g : mj_S) (M : mj_M) (q : Int32 → mj_M → Prop) : Prop := mj_CI yX2_freeVariable (.code yX2_freeVariable cX2_freeVariable 5 (some .int)) 0 [.ref (k0), .int (x1), .int (x2)] g M q
theorem kiX2_freeVariable : mj_cV yX2_freeVariable cX2_freeVariable 5 (some .int) 2 := ⟨⟨wd_811, wp_27, wd_7, wd_812⟩, ⟨by decide +kernel, by decide +kernel, by decide +kernel⟩, Nat.le_of_ble_eq_true rfl⟩
def LX2_freeVariable_5 (k0 : Nat) (x1 : Int32) (x3 : Int32) (x4 : Int32) (g : mj_S) (M : mj_M) (q : Int32 → mj_M → Prop) : Prop := ∀ d, 0 ≤ d → ∀ ex : Bool, mj_G mtX2_freeVariable (mj_rm d 0 0) (mj_Fi (mj_qI g q) mj_x0 0 0) ex 0 0 5 [(0, .ref (k0)), (1, .int (x1)), (3, .int (x3)), (4, .int (x4))] [] g M
theorem eX2_freeVariable {k0 : Nat} {x1 : Int32} {x2 : Int32} {g : mj_S} {M : mj_M} {q : Int32 → mj_M → Prop} (h0 : is2 g k0) (h : LX2_freeVariable_5 k0 (x1) (x2) (0) g (M) q) : kX2_freeVariable (k0) (x1) (x2) g M q := by
  intro d hd; refine mj_enter (by decide +kernel) (Nat.le_of_ble_eq_true rfl) ?_
  generalize (false : Bool) = ex
  show mj_G mtX2_freeVariable (mj_rm d 0 0) (mj_Fi (mj_qI g q) mj_x0 0 0) ex 0 0 0 [(0, .ref (k0)), (1, .int (x1)), (2, .int (x2))] [] g M
  refine mg_iload_n dX2_freeVariable_0 rfl 2 rfl ?_
  refine mg_istore_n (ls' := [(3, .int (x2)), (0, .ref (k0)), (1, .int (x1)), (2, .int (x2))]) dX2_freeVariable_1 rfl (Nat.le_of_ble_eq_true rfl) rfl ?_
  refine mg_iconst (v := 0) dX2_freeVariable_2 (by decide) ?_
  refine mg_istore (ls' := [(4, .int (0)), (3, .int (x2)), (0, .ref (k0)), (1, .int (x1)), (2, .int (x2))]) dX2_freeVariable_3 (Nat.le_of_ble_eq_true rfl) rfl ?_
  exact mg_pick [2, 3, 1, 0] rfl (h d hd ex)
theorem bX2_freeVariable_5 {k0 : Nat} {x1 : Int32} {x3 : Int32} {x4 : Int32} {g : mj_S} {M : mj_M} {q : Int32 → mj_M → Prop} (h0 : is2 g k0) (h : (((M).1 (k0) 1 : Int32) ≤ (x4) → q (0) (M)) ∧ (¬ ((M).1 (k0) 1 : Int32) ≤ (x4) → (¬ (((x1) >>> ((x4) &&& 31)) &&& (1 : Int32) : Int32) = 0 → LX2_freeVariable_5 k0 (x1) (x3) (x4 + 1) g (M) q) ∧ ((((x1) >>> ((x4) &&& 31)) &&& (1 : Int32) : Int32) = 0 → (¬ (x3 : Int32) = 0 → LX2_freeVariable_5 k0 (x1) (x3 + (-1)) (x4 + 1) g (M) q) ∧ ((x3 : Int32) = 0 → q (x4) (M))))) : LX2_freeVariable_5 k0 x1 x3 x4 g M q := by
  intro d hd ex
  refine mg_iload dX2_freeVariable_5 3 rfl ?_
  refine mg_aload_n dX2_freeVariable_7 rfl 0 rfl ?_
  refine mg_getI (j := 1) dX2_freeVariable_8 kc_2 (Nat.le_of_ble_eq_true rfl) wd_156 rfl rfl h0.1 h0.2 rfl ?_
  refine mg_icmp_ge (tgt := 39) dX2_freeVariable_11 (by decide) (fun hc => ?_) (fun hc => ?_)
  · replace h := h.1 hc
    refine mg_iconst (v := 0) dX2_freeVariable_39 (by decide) ?_
    exact me_i dX2_freeVariable_40 rfl h
  · replace h := h.2 hc
    refine mg_iload_n dX2_freeVariable_14 rfl 1 rfl ?_
    refine mg_iload dX2_freeVariable_15 3 rfl ?_
    refine mg_ishr dX2_freeVariable_17 ?_
    refine mg_iconst (v := 1) dX2_freeVariable_18 (by decide) ?_
    refine mg_iand dX2_freeVariable_19 ?_
    refine mg_if_ne (tgt := 33) dX2_freeVariable_20 (by decide) (fun hc => ?_) (fun hc => ?_)
    · replace h := h.1 hc
      refine mg_iinc (v := x4 + 1) (ls' := [(4, .int (x4 + 1)), (0, .ref (k0)), (1, .int (x1)), (3, .int (x3))]) dX2_freeVariable_33 3 rfl rfl (Nat.le_of_ble_eq_true rfl) rfl ?_
      refine mg_goto (tgt := 5) dX2_freeVariable_36 (by decide) ?_
      exact mg_pick [1, 2, 3, 0] rfl (h d hd ex)
    · replace h := h.2 hc
      refine mg_iload_n dX2_freeVariable_23 rfl 2 rfl ?_
      refine mg_if_ne (tgt := 30) dX2_freeVariable_24 (by decide) (fun hc => ?_) (fun hc => ?_)
      · replace h := h.1 hc
        refine mg_iinc (v := x3 + (-1)) (ls' := [(3, .int (x3 + (-1))), (0, .ref (k0)), (1, .int (x1)), (4, .int (x4))]) dX2_freeVariable_30 2 rfl rfl (Nat.le_of_ble_eq_true rfl) rfl ?_
        refine mg_iinc (v := x4 + 1) (ls' := [(4, .int (x4 + 1)), (3, .int (x3 + (-1))), (0, .ref (k0)), (1, .int (x1))]) dX2_freeVariable_33 3 rfl rfl (Nat.le_of_ble_eq_true rfl) rfl ?_
        refine mg_goto (tgt := 5) dX2_freeVariable_36 (by decide) ?_
        exact mg_pick [2, 3, 1, 0] rfl (h d hd ex)
      · replace h := h.2 hc
        refine mg_iload dX2_freeVariable_27 3 rfl ?_
        exact me_i dX2_freeVariable_29 rfl h
theorem dX2_nextClause_0 : decode cX2_nextClause 0 = .ok (.iconst 0, 1) := by decide +kernel
theorem dX2_nextClause_1 : decode cX2_nextClause 1 = .ok (.istore_n 2, 1) := by decide +kernel
theorem dX2_nextClause_2 : decode cX2_nextClause 2 = .ok (.iconst 0, 1) := by decide +kernel
theorem dX2_nextClause_3 : decode cX2_nextClause 3 = .ok (.istore_n 3, 1) := by decide +kernel
theorem dX2_nextClause_4 : decode cX2_nextClause 4 = .ok (.iconst 0, 1) := by decide +kernel
theorem dX2_nextClause_5 : decode cX2_nextClause 5 = .ok (.istore 4, 2) := by decide +kernel
theorem dX2_nextClause_7 : decode cX2_nextClause 7 = .ok (.iload 4, 2) := by decide +kernel
theorem dX2_nextClause_9 : decode cX2_nextClause 9 = .ok (.iload_n 1, 1) := by decide +kernel
theorem dX2_nextClause_10 : decode cX2_nextClause 10 = .ok (.if_icmp .ge 49, 3) := by decide +kernel
theorem dX2_nextClause_13 : decode cX2_nextClause 13 = .ok (.aload_n 0, 1) := by decide +kernel
theorem dX2_nextClause_14 : decode cX2_nextClause 14 = .ok (.iload_n 2, 1) := by decide +kernel
theorem dX2_nextClause_15 : decode cX2_nextClause 15 = .ok (.aload_n 0, 1) := by decide +kernel
theorem dX2_nextClause_16 : decode cX2_nextClause 16 = .ok (.aload_n 0, 1) := by decide +kernel
theorem dX2_nextClause_17 : decode cX2_nextClause 17 = .ok (.getfield 13, 3) := by decide +kernel
theorem dX2_nextClause_20 : decode cX2_nextClause 20 = .ok (.iload 4, 2) := by decide +kernel
theorem dX2_nextClause_22 : decode cX2_nextClause 22 = .ok (.isub, 1) := by decide +kernel
theorem dX2_nextClause_23 : decode cX2_nextClause 23 = .ok (.invokevirtual 17, 3) := by decide +kernel
theorem dX2_nextClause_26 : decode cX2_nextClause 26 = .ok (.invokevirtual 21, 3) := by decide +kernel
theorem dX2_nextClause_29 : decode cX2_nextClause 29 = .ok (.istore 5, 2) := by decide +kernel
theorem dX2_nextClause_31 : decode cX2_nextClause 31 = .ok (.iload_n 2, 1) := by decide +kernel
theorem dX2_nextClause_32 : decode cX2_nextClause 32 = .ok (.iconst 1, 1) := by decide +kernel
theorem dX2_nextClause_33 : decode cX2_nextClause 33 = .ok (.iload 5, 2) := by decide +kernel
theorem dX2_nextClause_35 : decode cX2_nextClause 35 = .ok (.ishl, 1) := by decide +kernel
theorem dX2_nextClause_36 : decode cX2_nextClause 36 = .ok (.ior, 1) := by decide +kernel
theorem dX2_nextClause_37 : decode cX2_nextClause 37 = .ok (.istore_n 2, 1) := by decide +kernel
theorem dX2_nextClause_38 : decode cX2_nextClause 38 = .ok (.iload_n 3, 1) := by decide +kernel
theorem dX2_nextClause_39 : decode cX2_nextClause 39 = .ok (.iconst 1, 1) := by decide +kernel
theorem dX2_nextClause_40 : decode cX2_nextClause 40 = .ok (.iconst 2, 1) := by decide +kernel
theorem dX2_nextClause_41 : decode cX2_nextClause 41 = .ok (.iload 5, 2) := by decide +kernel
theorem dX2_nextClause_43 : decode cX2_nextClause 43 = .ok (.imul, 1) := by decide +kernel
theorem dX2_nextClause_44 : decode cX2_nextClause 44 = .ok (.aload_n 0, 1) := by decide +kernel
theorem dX2_nextClause_45 : decode cX2_nextClause 45 = .ok (.iconst 2, 1) := by decide +kernel
theorem dX2_nextClause_46 : decode cX2_nextClause 46 = .ok (.invokevirtual 17, 3) := by decide +kernel
theorem dX2_nextClause_49 : decode cX2_nextClause 49 = .ok (.iadd, 1) := by decide +kernel
theorem dX2_nextClause_50 : decode cX2_nextClause 50 = .ok (.ishl, 1) := by decide +kernel
theorem dX2_nextClause_51 : decode cX2_nextClause 51 = .ok (.ior, 1) := by decide +kernel
theorem dX2_nextClause_52 : decode cX2_nextClause 52 = .ok (.istore_n 3, 1) := by decide +kernel
theorem dX2_nextClause_53 : decode cX2_nextClause 53 = .ok (.iinc 4 1, 3) := by decide +kernel
theorem dX2_nextClause_56 : decode cX2_nextClause 56 = .ok (.goto (-49), 3) := by decide +kernel
theorem dX2_nextClause_59 : decode cX2_nextClause 59 = .ok (.iload_n 3, 1) := by decide +kernel
theorem dX2_nextClause_60 : decode cX2_nextClause 60 = .ok (.ireturn, 1) := by decide +kernel
abbrev mtX2_nextClause : mj_T := (yX2_nextClause.cls, cX2_nextClause, 6, (some .int), mj_no, yX2_nextClause.name)
abbrev kX2_nextClause (k0 : Nat) (x1 : Int32) (g : mj_S) (M : mj_M) (q : Int32 → mj_M → Prop) : Prop := mj_CI yX2_nextClause (.code yX2_nextClause cX2_nextClause 6 (some .int)) 1 [.ref (k0), .int (x1)] g M q
theorem kiX2_nextClause : mj_cV yX2_nextClause cX2_nextClause 6 (some .int) 1 := ⟨⟨wd_798, wd_799, wd_7, wd_800⟩, ⟨by decide +kernel, by decide +kernel, by decide +kernel⟩, Nat.le_of_ble_eq_true rfl⟩
def LX2_nextClause_7 (k0 : Nat) (x1 : Int32) (x2 : Int32) (x3 : Int32) (x4 : Int32) (g : mj_S) (M : mj_M) (q : Int32 → mj_M → Prop) : Prop := ∀ d, 1 ≤ d → ∀ ex : Bool, mj_G mtX2_nextClause (mj_rm d 0 0) (mj_Fi (mj_qI g q) mj_x0 0 0) ex 0 0 7 [(0, .ref (k0)), (1, .int (x1)), (2, .int (x2)), (3, .int (x3)), (4, .int (x4))] [] g M
theorem eX2_nextClause {k0 : Nat} {x1 : Int32} {g : mj_S} {M : mj_M} {q : Int32 → mj_M → Prop} (h0 : is2 g k0) (h : LX2_nextClause_7 k0 (x1) (0) (0) (0) g (M) q) : kX2_nextClause (k0) (x1) g M q := by
  intro d hd; refine mj_enter (by decide +kernel) (Nat.le_of_ble_eq_true rfl) ?_
  generalize (false : Bool) = ex
  show mj_G mtX2_nextClause (mj_rm d 0 0) (mj_Fi (mj_qI g q) mj_x0 0 0) ex 0 0 0 [(0, .ref (k0)), (1, .int (x1))] [] g M
  refine mg_iconst (v := 0) dX2_nextClause_0 (by decide) ?_
  refine mg_istore_n (ls' := [(2, .int (0)), (0, .ref (k0)), (1, .int (x1))]) dX2_nextClause_1 rfl (Nat.le_of_ble_eq_true rfl) rfl ?_
  refine mg_iconst (v := 0) dX2_nextClause_2 (by decide) ?_
  refine mg_istore_n (ls' := [(3, .int (0)), (2, .int (0)), (0, .ref (k0)), (1, .int (x1))]) dX2_nextClause_3 rfl (Nat.le_of_ble_eq_true rfl) rfl ?_
  refine mg_iconst (v := 0) dX2_nextClause_4 (by decide) ?_
  refine mg_istore (ls' := [(4, .int (0)), (3, .int (0)), (2, .int (0)), (0, .ref (k0)), (1, .int (x1))]) dX2_nextClause_5 (Nat.le_of_ble_eq_true rfl) rfl ?_
  exact mg_pick [3, 4, 2, 1, 0] rfl (h d hd ex)
theorem bX2_nextClause_7 {k0 : Nat} {x1 : Int32} {x2 : Int32} {x3 : Int32} {x4 : Int32} {g : mj_S} {M : mj_M} {q : Int32 → mj_M → Prop} (h0 : is2 g k0) (h : ((x1 : Int32) ≤ (x4) → q (x3) (M)) ∧ (¬ (x1 : Int32) ≤ (x4) → ∃ (q1 : Int32 → mj_M → Prop), kX2_draw (k0) (((M).1 (k0) 1) - (x4)) g (M) q1 ∧ ∀ (v1 : Int32) (M1 : mj_M), q1 v1 M1 → (∃ (q2 : Int32 → mj_M → Prop), kX2_freeVariable (k0) (x2) (v1) g (M1) q2 ∧ ∀ (v2 : Int32) (M2 : mj_M), q2 v2 M2 → (∃ (q3 : Int32 → mj_M → Prop), kX2_draw (k0) (2) g (M2) q3 ∧ ∀ (v3 : Int32) (M3 : mj_M), q3 v3 M3 → (LX2_nextClause_7 k0 (x1) ((x2) ||| ((1 : Int32) <<< ((v2) &&& 31))) ((x3) ||| ((1 : Int32) <<< ((((2 : Int32) * (v2)) + (v3)) &&& 31))) (x4 + 1) g (M3) q))))) : LX2_nextClause_7 k0 x1 x2 x3 x4 g M q := by
  intro d hd ex
  refine mg_iload dX2_nextClause_7 4 rfl ?_
  refine mg_iload_n dX2_nextClause_9 rfl 1 rfl ?_
  refine mg_icmp_ge (tgt := 59) dX2_nextClause_10 (by decide) (fun hc => ?_) (fun hc => ?_)
  · replace h := h.1 hc
    refine mg_iload_n dX2_nextClause_59 rfl 3 rfl ?_
    exact me_i dX2_nextClause_60 rfl h
  · replace h := h.2 hc
    refine mg_aload_n dX2_nextClause_13 rfl 0 rfl ?_
    refine mg_iload_n dX2_nextClause_14 rfl 2 rfl ?_
    refine mg_aload_n dX2_nextClause_15 rfl 0 rfl ?_
    refine mg_aload_n dX2_nextClause_16 rfl 0 rfl ?_
    refine mg_getI (j := 1) dX2_nextClause_17 kc_2 (Nat.le_of_ble_eq_true rfl) wd_156 rfl rfl h0.1 h0.2 rfl ?_
    refine mg_iload dX2_nextClause_20 4 rfl ?_
    refine mg_isub dX2_nextClause_22 ?_
    obtain ⟨q1, hC, hk⟩ := h
    refine mc_Vi [.int (((M).1 (k0) 1) - (x4))] [.int (x2), .ref (k0)] dX2_nextClause_23 wd_801 kiX2_draw (Nat.le_of_ble_eq_true rfl) h0.1 h0.2 rfl (Nat.le_trans (Nat.le_of_ble_eq_true rfl) hd) hC (fun v1 M1 hq => ?_)
    replace h := hk v1 M1 hq
    obtain ⟨q2, hC, hk⟩ := h
    refine mc_Vi [.int (x2), .int (v1)] [] dX2_nextClause_26 wd_809 kiX2_freeVariable (Nat.le_of_ble_eq_true rfl) h0.1 h0.2 rfl (Nat.le_trans (Nat.le_of_ble_eq_true rfl) hd) hC (fun v2 M2 hq => ?_)
    replace h := hk v2 M2 hq
    refine mg_istore (ls' := [(5, .int (v2)), (0, .ref (k0)), (1, .int (x1)), (2, .int (x2)), (3, .int (x3)), (4, .int (x4))]) dX2_nextClause_29 (Nat.le_of_ble_eq_true rfl) rfl ?_
    refine mg_iload_n dX2_nextClause_31 rfl 3 rfl ?_
    refine mg_iconst (v := 1) dX2_nextClause_32 (by decide) ?_
    refine mg_iload dX2_nextClause_33 0 rfl ?_
    refine mg_ishl dX2_nextClause_35 ?_
    refine mg_ior dX2_nextClause_36 ?_
    refine mg_istore_n (ls' := [(2, .int ((x2) ||| ((1 : Int32) <<< ((v2) &&& 31)))), (5, .int (v2)), (0, .ref (k0)), (1, .int (x1)), (3, .int (x3)), (4, .int (x4))]) dX2_nextClause_37 rfl (Nat.le_of_ble_eq_true rfl) rfl ?_
    refine mg_iload_n dX2_nextClause_38 rfl 4 rfl ?_
    refine mg_iconst (v := 1) dX2_nextClause_39 (by decide) ?_
    refine mg_iconst (v := 2) dX2_nextClause_40 (by decide) ?_
    refine mg_iload dX2_nextClause_41 1 rfl ?_
    refine mg_imul dX2_nextClause_43 ?_
    refine mg_aload_n dX2_nextClause_44 rfl 2 rfl ?_
    refine mg_iconst (v := 2) dX2_nextClause_45 (by decide) ?_
    obtain ⟨q3, hC, hk⟩ := h
    refine mc_Vi [.int (2)] [.int ((2 : Int32) * (v2)), .int (1), .int (x3)] dX2_nextClause_46 wd_801 kiX2_draw (Nat.le_of_ble_eq_true rfl) h0.1 h0.2 rfl (Nat.le_trans (Nat.le_of_ble_eq_true rfl) hd) hC (fun v3 M3 hq => ?_)
    replace h := hk v3 M3 hq
    refine mg_iadd dX2_nextClause_49 ?_
    refine mg_ishl dX2_nextClause_50 ?_
    refine mg_ior dX2_nextClause_51 ?_
    refine mg_istore_n (ls' := [(3, .int ((x3) ||| ((1 : Int32) <<< ((((2 : Int32) * (v2)) + (v3)) &&& 31)))), (2, .int ((x2) ||| ((1 : Int32) <<< ((v2) &&& 31)))), (5, .int (v2)), (0, .ref (k0)), (1, .int (x1)), (4, .int (x4))]) dX2_nextClause_52 rfl (Nat.le_of_ble_eq_true rfl) rfl ?_
    refine mg_iinc (v := x4 + 1) (ls' := [(4, .int (x4 + 1)), (3, .int ((x3) ||| ((1 : Int32) <<< ((((2 : Int32) * (v2)) + (v3)) &&& 31)))), (2, .int ((x2) ||| ((1 : Int32) <<< ((v2) &&& 31)))), (5, .int (v2)), (0, .ref (k0)), (1, .int (x1))]) dX2_nextClause_53 5 rfl rfl (Nat.le_of_ble_eq_true rfl) rfl ?_
    refine mg_goto (tgt := 7) dX2_nextClause_56 (by decide) ?_
    exact mg_pick [4, 5, 2, 1, 0] rfl (h d hd ex)
theorem dX3_sharedByPartners_0 : decode cX3_sharedByPartners 0 = .ok (.aload_n 0, 1) := by decide +kernel
theorem dX3_sharedByPartners_1 : decode cX3_sharedByPartners 1 = .ok (.getfield 28, 3) := by decide +kernel
theorem dX3_sharedByPartners_4 : decode cX3_sharedByPartners 4 = .ok (.iconst 1, 1) := by decide +kernel
theorem dX3_sharedByPartners_5 : decode cX3_sharedByPartners 5 = .ok (.iload_n 3, 1) := by decide +kernel
theorem dX3_sharedByPartners_6 : decode cX3_sharedByPartners 6 = .ok (.ishl, 1) := by decide +kernel
theorem dX3_sharedByPartners_7 : decode cX3_sharedByPartners 7 = .ok (.iconst (-1), 1) := by decide +kernel
theorem dX3_sharedByPartners_8 : decode cX3_sharedByPartners 8 = .ok (.ixor, 1) := by decide +kernel
theorem dX3_sharedByPartners_9 : decode cX3_sharedByPartners 9 = .ok (.iand, 1) := by decide +kernel
theorem dX3_sharedByPartners_10 : decode cX3_sharedByPartners 10 = .ok (.invokestatic 57, 3) := by decide +kernel
theorem dX3_sharedByPartners_13 : decode cX3_sharedByPartners 13 = .ok (.istore 4, 2) := by decide +kernel
theorem dX3_sharedByPartners_15 : decode cX3_sharedByPartners 15 = .ok (.iconst (-1), 1) := by decide +kernel
theorem dX3_sharedByPartners_16 : decode cX3_sharedByPartners 16 = .ok (.istore 5, 2) := by decide +kernel
theorem dX3_sharedByPartners_18 : decode cX3_sharedByPartners 18 = .ok (.iconst 0, 1) := by decide +kernel
theorem dX3_sharedByPartners_19 : decode cX3_sharedByPartners 19 = .ok (.istore 6, 2) := by decide +kernel
theorem dX3_sharedByPartners_21 : decode cX3_sharedByPartners 21 = .ok (.iload 6, 2) := by decide +kernel
theorem dX3_sharedByPartners_23 : decode cX3_sharedByPartners 23 = .ok (.aload_n 1, 1) := by decide +kernel
theorem dX3_sharedByPartners_24 : decode cX3_sharedByPartners 24 = .ok (.invokevirtual 50, 3) := by decide +kernel
theorem dX3_sharedByPartners_27 : decode cX3_sharedByPartners 27 = .ok (.if_icmp .ge 49, 3) := by decide +kernel
theorem dX3_sharedByPartners_30 : decode cX3_sharedByPartners 30 = .ok (.aload_n 1, 1) := by decide +kernel
theorem dX3_sharedByPartners_31 : decode cX3_sharedByPartners 31 = .ok (.iload 6, 2) := by decide +kernel
theorem dX3_sharedByPartners_33 : decode cX3_sharedByPartners 33 = .ok (.invokevirtual 24, 3) := by decide +kernel
theorem dX3_sharedByPartners_36 : decode cX3_sharedByPartners 36 = .ok (.istore 7, 2) := by decide +kernel
theorem dX3_sharedByPartners_38 : decode cX3_sharedByPartners 38 = .ok (.iload 6, 2) := by decide +kernel
theorem dX3_sharedByPartners_40 : decode cX3_sharedByPartners 40 = .ok (.iload_n 2, 1) := by decide +kernel
theorem dX3_sharedByPartners_41 : decode cX3_sharedByPartners 41 = .ok (.if_icmp .eq 29, 3) := by decide +kernel
theorem dX3_sharedByPartners_44 : decode cX3_sharedByPartners 44 = .ok (.iload 7, 2) := by decide +kernel
theorem dX3_sharedByPartners_46 : decode cX3_sharedByPartners 46 = .ok (.iload_n 3, 1) := by decide +kernel
theorem dX3_sharedByPartners_47 : decode cX3_sharedByPartners 47 = .ok (.iconst 1, 1) := by decide +kernel
theorem dX3_sharedByPartners_48 : decode cX3_sharedByPartners 48 = .ok (.ixor, 1) := by decide +kernel
theorem dX3_sharedByPartners_49 : decode cX3_sharedByPartners 49 = .ok (.invokestatic 39, 3) := by decide +kernel
theorem dX3_sharedByPartners_52 : decode cX3_sharedByPartners 52 = .ok (.ifCond .eq 18, 3) := by decide +kernel
theorem dX3_sharedByPartners_55 : decode cX3_sharedByPartners 55 = .ok (.iload 7, 2) := by decide +kernel
theorem dX3_sharedByPartners_57 : decode cX3_sharedByPartners 57 = .ok (.iload 4, 2) := by decide +kernel
theorem dX3_sharedByPartners_59 : decode cX3_sharedByPartners 59 = .ok (.iand, 1) := by decide +kernel
theorem dX3_sharedByPartners_60 : decode cX3_sharedByPartners 60 = .ok (.ifCond .ne 10, 3) := by decide +kernel
theorem dX3_sharedByPartners_63 : decode cX3_sharedByPartners 63 = .ok (.iload 5, 2) := by decide +kernel
theorem dX3_sharedByPartners_65 : decode cX3_sharedByPartners 65 = .ok (.iload 7, 2) := by decide +kernel
theorem dX3_sharedByPartners_67 : decode cX3_sharedByPartners 67 = .ok (.iand, 1) := by decide +kernel
theorem dX3_sharedByPartners_68 : decode cX3_sharedByPartners 68 = .ok (.istore 5, 2) := by decide +kernel
theorem dX3_sharedByPartners_70 : decode cX3_sharedByPartners 70 = .ok (.iinc 6 1, 3) := by decide +kernel
theorem dX3_sharedByPartners_73 : decode cX3_sharedByPartners 73 = .ok (.goto (-52), 3) := by decide +kernel
theorem dX3_sharedByPartners_76 : decode cX3_sharedByPartners 76 = .ok (.iload 5, 2) := by decide +kernel
theorem dX3_sharedByPartners_78 : decode cX3_sharedByPartners 78 = .ok (.iconst (-1), 1) := by decide +kernel
theorem dX3_sharedByPartners_79 : decode cX3_sharedByPartners 79 = .ok (.if_icmp .ne 7, 3) := by decide +kernel
theorem dX3_sharedByPartners_82 : decode cX3_sharedByPartners 82 = .ok (.iconst (-1), 1) := by decide +kernel
theorem dX3_sharedByPartners_83 : decode cX3_sharedByPartners 83 = .ok (.goto 20, 3) := by decide +kernel
theorem dX3_sharedByPartners_86 : decode cX3_sharedByPartners 86 = .ok (.iload 5, 2) := by decide +kernel
theorem dX3_sharedByPartners_88 : decode cX3_sharedByPartners 88 = .ok (.aload_n 0, 1) := by decide +kernel
theorem dX3_sharedByPartners_89 : decode cX3_sharedByPartners 89 = .ok (.getfield 28, 3) := by decide +kernel
theorem dX3_sharedByPartners_92 : decode cX3_sharedByPartners 92 = .ok (.iconst (-1), 1) := by decide +kernel
theorem dX3_sharedByPartners_93 : decode cX3_sharedByPartners 93 = .ok (.ixor, 1) := by decide +kernel
theorem dX3_sharedByPartners_94 : decode cX3_sharedByPartners 94 = .ok (.iand, 1) := by decide +kernel
theorem dX3_sharedByPartners_95 : decode cX3_sharedByPartners 95 = .ok (.iconst 1, 1) := by decide +kernel
theorem dX3_sharedByPartners_96 : decode cX3_sharedByPartners 96 = .ok (.iload_n 3, 1) := by decide +kernel
theorem dX3_sharedByPartners_97 : decode cX3_sharedByPartners 97 = .ok (.iconst 1, 1) := by decide +kernel
theorem dX3_sharedByPartners_98 : decode cX3_sharedByPartners 98 = .ok (.ixor, 1) := by decide +kernel
theorem dX3_sharedByPartners_99 : decode cX3_sharedByPartners 99 = .ok (.ishl, 1) := by decide +kernel
theorem dX3_sharedByPartners_100 : decode cX3_sharedByPartners 100 = .ok (.iconst (-1), 1) := by decide +kernel
theorem dX3_sharedByPartners_101 : decode cX3_sharedByPartners 101 = .ok (.ixor, 1) := by decide +kernel
theorem dX3_sharedByPartners_102 : decode cX3_sharedByPartners 102 = .ok (.iand, 1) := by decide +kernel
theorem dX3_sharedByPartners_103 : decode cX3_sharedByPartners 103 = .ok (.ireturn, 1) := by decide +kernel
abbrev mtX3_sharedByPartners : mj_T := (yX3_sharedByPartners.cls, cX3_sharedByPartners, 8, (some .int), mj_no, yX3_sharedByPartners.name)
abbrev kX3_sharedByPartners (k0 : Nat) (k1 : Nat) (x2 : Int32) (x3 : Int32) (g : mj_S) (M : mj_M) (q : Int32 → mj_M → Prop) : Prop := mj_CI yX3_sharedByPartners (.code yX3_sharedByPartners cX3_sharedByPartners 8 (some .int)) 1 [.ref (k0), .ref (k1), .int (x2), .int (x3)] g M q
theorem kiX3_sharedByPartners : mj_cV yX3_sharedByPartners cX3_sharedByPartners 8 (some .int) 3 := ⟨⟨wd_562, wp_15, wd_10, wd_563⟩, ⟨by decide +kernel, by decide +kernel, by decide +kernel⟩, Nat.le_of_ble_eq_true rfl⟩
def LX3_sharedByPartners_21 (k0 : Nat) (k1 n1 : Nat) (x2 : Int32) (x3 : Int32) (x4 : Int32) (x5 : Int32) (x6 : Int32) (g : mj_S) (M : mj_M) (q : Int32 → mj_M → Prop) : Prop := ∀ d, 1 ≤ d → ∀ ex : Bool, mj_G mtX3_sharedByPartners (mj_rm d 0 0) (mj_Fi (mj_qI g q) mj_x0 0 0) ex 0 0 21 [(0, .ref (k0)), (1, .ref (k1)), (2, .int (x2)), (3, .int (x3)), (4, .int (x4)), (5, .int (x5)), (6, .int (x6))] [] g M
theorem eX3_sharedByPartners {k0 : Nat} {k1 n1 : Nat} {x2 : Int32} {x3 : Int32} {g : mj_S} {M : mj_M} {q : Int32 → mj_M → Prop} (h0 : is3 g k0) (h1 : is0 g k1 n1) (h : ∃ (q1 : Int32 → mj_M → Prop), kX9_complements (((M).1 (k0) 2) &&& (((1 : Int32) <<< ((x3) &&& 31)) ^^^ (-1 : Int32))) g (M) q1 ∧ ∀ (v1 : Int32) (M1 : mj_M), q1 v1 M1 → (LX3_sharedByPartners_21 k0 k1 n1 (x2) (x3) (v1) ((-1)) (0) g (M1) q)) : kX3_sharedByPartners (k0) (k1) (x2) (x3) g M q := by
  intro d hd; refine mj_enter (by decide +kernel) (Nat.le_of_ble_eq_true rfl) ?_
  generalize (false : Bool) = ex
  show mj_G mtX3_sharedByPartners (mj_rm d 0 0) (mj_Fi (mj_qI g q) mj_x0 0 0) ex 0 0 0 [(0, .ref (k0)), (1, .ref (k1)), (2, .int (x2)), (3, .int (x3))] [] g M
  refine mg_aload_n dX3_sharedByPartners_0 rfl 0 rfl ?_
  refine mg_getI (j := 2) dX3_sharedByPartners_1 kc_3 (Nat.le_of_ble_eq_true rfl) wd_194 rfl rfl h0.1.1 h0.1.2 rfl ?_
  refine mg_iconst (v := 1) dX3_sharedByPartners_4 (by decide) ?_
  refine mg_iload_n dX3_sharedByPartners_5 rfl 3 rfl ?_
  refine mg_ishl dX3_sharedByPartners_6 ?_
  refine mg_iconst (v := (-1)) dX3_sharedByPartners_7 (by decide) ?_
  refine mg_ixor dX3_sharedByPartners_8 ?_
  refine mg_iand dX3_sharedByPartners_9 ?_
  obtain ⟨q1, hC, hk⟩ := h
  refine mc_Ni [.int (((M).1 (k0) 2) &&& (((1 : Int32) <<< ((x3) &&& 31)) ^^^ (-1 : Int32)))] [] 14 dX3_sharedByPartners_10 rfl kiX9_complements (Nat.le_of_ble_eq_true rfl) (Nat.le_trans (Nat.le_of_ble_eq_true rfl) hd) hC (fun v1 M1 hq => ?_)
  replace h := hk v1 M1 hq
  refine mg_istore (ls' := [(4, .int (v1)), (0, .ref (k0)), (1, .ref (k1)), (2, .int (x2)), (3, .int (x3))]) dX3_sharedByPartners_13 (Nat.le_of_ble_eq_true rfl) rfl ?_
  refine mg_iconst (v := (-1)) dX3_sharedByPartners_15 (by decide) ?_
  refine mg_istore (ls' := [(5, .int ((-1))), (4, .int (v1)), (0, .ref (k0)), (1, .ref (k1)), (2, .int (x2)), (3, .int (x3))]) dX3_sharedByPartners_16 (Nat.le_of_ble_eq_true rfl) rfl ?_
  refine mg_iconst (v := 0) dX3_sharedByPartners_18 (by decide) ?_
  refine mg_istore (ls' := [(6, .int (0)), (5, .int ((-1))), (4, .int (v1)), (0, .ref (k0)), (1, .ref (k1)), (2, .int (x2)), (3, .int (x3))]) dX3_sharedByPartners_19 (Nat.le_of_ble_eq_true rfl) rfl ?_
  exact mg_pick [3, 4, 5, 6, 2, 1, 0] rfl (h d hd ex)
theorem bX3_sharedByPartners_21 {k0 : Nat} {k1 n1 : Nat} {x2 : Int32} {x3 : Int32} {x4 : Int32} {x5 : Int32} {x6 : Int32} {g : mj_S} {M : mj_M} {q : Int32 → mj_M → Prop} (h0 : is3 g k0) (h1 : is0 g k1 n1) (h : ∃ (q1 : Int32 → mj_M → Prop), kX0_size (k1) g (M) q1 ∧ ∀ (v1 : Int32) (M1 : mj_M), q1 v1 M1 → (((v1 : Int32) ≤ (x6) → (¬ (x5 : Int32) = (-1 : Int32) → q (((x5) &&& (((M1).1 (k0) 2) ^^^ (-1 : Int32))) &&& (((1 : Int32) <<< (((x3) ^^^ (1 : Int32)) &&& 31)) ^^^ (-1 : Int32))) (M1)) ∧ ((x5 : Int32) = (-1 : Int32) → q ((-1)) (M1))) ∧ (¬ (v1 : Int32) ≤ (x6) → ∃ (q2 : Int32 → mj_M → Prop), kX0_at (k1) (x6) g (M1) q2 ∧ ∀ (v2 : Int32) (M2 : mj_M), q2 v2 M2 → (((x6 : Int32) = (x2) → LX3_sharedByPartners_21 k0 k1 n1 (x2) (x3) (x4) (x5) (x6 + 1) g (M2) q) ∧ (¬ (x6 : Int32) = (x2) → ∃ (q3 : Int32 → mj_M → Prop), kX9_contains (v2) ((x3) ^^^ (1 : Int32)) g (M2) q3 ∧ ∀ (v3 : Int32) (M3 : mj_M), q3 v3 M3 → (((v3 : Int32) = 0 → LX3_sharedByPartners_21 k0 k1 n1 (x2) (x3) (x4) (x5) (x6 + 1) g (M3) q) ∧ (¬ (v3 : Int32) = 0 → (¬ ((v2) &&& (x4) : Int32) = 0 → LX3_sharedByPartners_21 k0 k1 n1 (x2) (x3) (x4) (x5) (x6 + 1) g (M3) q) ∧ (((v2) &&& (x4) : Int32) = 0 → LX3_sharedByPartners_21 k0 k1 n1 (x2) (x3) (x4) ((x5) &&& (v2)) (x6 + 1) g (M3) q)))))))) : LX3_sharedByPartners_21 k0 k1 n1 x2 x3 x4 x5 x6 g M q := by
  intro d hd ex
  refine mg_iload dX3_sharedByPartners_21 6 rfl ?_
  refine mg_aload_n dX3_sharedByPartners_23 rfl 1 rfl ?_
  obtain ⟨q1, hC, hk⟩ := h
  refine mc_Vi [] [.int (x6)] dX3_sharedByPartners_24 wd_565 kiX0_size (Nat.le_of_ble_eq_true rfl) h1.1.1 h1.1.2 rfl (Nat.le_trans (Nat.le_of_ble_eq_true rfl) hd) hC (fun v1 M1 hq => ?_)
  replace h := hk v1 M1 hq
  refine mg_icmp_ge (tgt := 76) dX3_sharedByPartners_27 (by decide) (fun hc => ?_) (fun hc => ?_)
  · replace h := h.1 hc
    refine mg_iload dX3_sharedByPartners_76 5 rfl ?_
    refine mg_iconst (v := (-1)) dX3_sharedByPartners_78 (by decide) ?_
    refine mg_icmp_ne (tgt := 86) dX3_sharedByPartners_79 (by decide) (fun hc => ?_) (fun hc => ?_)
    · replace h := h.1 hc
      refine mg_iload dX3_sharedByPartners_86 5 rfl ?_
      refine mg_aload_n dX3_sharedByPartners_88 rfl 0 rfl ?_
      refine mg_getI (j := 2) dX3_sharedByPartners_89 kc_3 (Nat.le_of_ble_eq_true rfl) wd_194 rfl rfl h0.1.1 h0.1.2 rfl ?_
      refine mg_iconst (v := (-1)) dX3_sharedByPartners_92 (by decide) ?_
      refine mg_ixor dX3_sharedByPartners_93 ?_
      refine mg_iand dX3_sharedByPartners_94 ?_
      refine mg_iconst (v := 1) dX3_sharedByPartners_95 (by decide) ?_
      refine mg_iload_n dX3_sharedByPartners_96 rfl 3 rfl ?_
      refine mg_iconst (v := 1) dX3_sharedByPartners_97 (by decide) ?_
      refine mg_ixor dX3_sharedByPartners_98 ?_
      refine mg_ishl dX3_sharedByPartners_99 ?_
      refine mg_iconst (v := (-1)) dX3_sharedByPartners_100 (by decide) ?_
      refine mg_ixor dX3_sharedByPartners_101 ?_
      refine mg_iand dX3_sharedByPartners_102 ?_
      exact me_i dX3_sharedByPartners_103 rfl h
    · replace h := h.2 hc
      refine mg_iconst (v := (-1)) dX3_sharedByPartners_82 (by decide) ?_
      refine mg_goto (tgt := 103) dX3_sharedByPartners_83 (by decide) ?_
      exact me_i dX3_sharedByPartners_103 rfl h
  · replace h := h.2 hc
    refine mg_aload_n dX3_sharedByPartners_30 rfl 1 rfl ?_
    refine mg_iload dX3_sharedByPartners_31 6 rfl ?_
    obtain ⟨q2, hC, hk⟩ := h
    refine mc_Vi [.int (x6)] [] dX3_sharedByPartners_33 wd_557 kiX0_at (Nat.le_of_ble_eq_true rfl) h1.1.1 h1.1.2 rfl (Nat.le_trans (Nat.le_of_ble_eq_true rfl) hd) hC (fun v2 M2 hq => ?_)
    replace h := hk v2 M2 hq
    refine mg_istore (ls' := [(7, .int (v2)), (0, .ref (k0)), (1, .ref (k1)), (2, .int (x2)), (3, .int (x3)), (4, .int (x4)), (5, .int (x5)), (6, .int (x6))]) dX3_sharedByPartners_36 (Nat.le_of_ble_eq_true rfl) rfl ?_
    refine mg_iload dX3_sharedByPartners_38 7 rfl ?_
    refine mg_iload_n dX3_sharedByPartners_40 rfl 3 rfl ?_
    refine mg_icmp_eq (tgt := 70) dX3_sharedByPartners_41 (by decide) (fun hc => ?_) (fun hc => ?_)
    · replace h := h.1 hc
      refine mg_iinc (v := x6 + 1) (ls' := [(6, .int (x6 + 1)), (7, .int (v2)), (0, .ref (k0)), (1, .ref (k1)), (2, .int (x2)), (3, .int (x3)), (4, .int (x4)), (5, .int (x5))]) dX3_sharedByPartners_70 7 rfl rfl (Nat.le_of_ble_eq_true rfl) rfl ?_
      refine mg_goto (tgt := 21) dX3_sharedByPartners_73 (by decide) ?_
      exact mg_pick [2, 3, 4, 5, 6, 7, 0] rfl (h d hd ex)
    · replace h := h.2 hc
      refine mg_iload dX3_sharedByPartners_44 0 rfl ?_
      refine mg_iload_n dX3_sharedByPartners_46 rfl 4 rfl ?_
      refine mg_iconst (v := 1) dX3_sharedByPartners_47 (by decide) ?_
      refine mg_ixor dX3_sharedByPartners_48 ?_
      obtain ⟨q3, hC, hk⟩ := h
      refine mc_Ni [.int (v2), .int ((x3) ^^^ (1 : Int32))] [] 13 dX3_sharedByPartners_49 rfl kiX9_contains (Nat.le_of_ble_eq_true rfl) (Nat.le_trans (Nat.le_of_ble_eq_true rfl) hd) hC (fun v3 M3 hq => ?_)
      replace h := hk v3 M3 hq
      refine mg_if_eq (tgt := 70) dX3_sharedByPartners_52 (by decide) (fun hc => ?_) (fun hc => ?_)
      · replace h := h.1 hc
        refine mg_iinc (v := x6 + 1) (ls' := [(6, .int (x6 + 1)), (7, .int (v2)), (0, .ref (k0)), (1, .ref (k1)), (2, .int (x2)), (3, .int (x3)), (4, .int (x4)), (5, .int (x5))]) dX3_sharedByPartners_70 7 rfl rfl (Nat.le_of_ble_eq_true rfl) rfl ?_
        refine mg_goto (tgt := 21) dX3_sharedByPartners_73 (by decide) ?_
        exact mg_pick [2, 3, 4, 5, 6, 7, 0] rfl (h d hd ex)
      · replace h := h.2 hc
        refine mg_iload dX3_sharedByPartners_55 0 rfl ?_
        refine mg_iload dX3_sharedByPartners_57 5 rfl ?_
        refine mg_iand dX3_sharedByPartners_59 ?_
        refine mg_if_ne (tgt := 70) dX3_sharedByPartners_60 (by decide) (fun hc => ?_) (fun hc => ?_)
        · replace h := h.1 hc
          refine mg_iinc (v := x6 + 1) (ls' := [(6, .int (x6 + 1)), (7, .int (v2)), (0, .ref (k0)), (1, .ref (k1)), (2, .int (x2)), (3, .int (x3)), (4, .int (x4)), (5, .int (x5))]) dX3_sharedByPartners_70 7 rfl rfl (Nat.le_of_ble_eq_true rfl) rfl ?_
          refine mg_goto (tgt := 21) dX3_sharedByPartners_73 (by decide) ?_
          exact mg_pick [2, 3, 4, 5, 6, 7, 0] rfl (h d hd ex)
        · replace h := h.2 hc
          refine mg_iload dX3_sharedByPartners_63 6 rfl ?_
          refine mg_iload dX3_sharedByPartners_65 0 rfl ?_
          refine mg_iand dX3_sharedByPartners_67 ?_
          refine mg_istore (ls' := [(5, .int ((x5) &&& (v2))), (7, .int (v2)), (0, .ref (k0)), (1, .ref (k1)), (2, .int (x2)), (3, .int (x3)), (4, .int (x4)), (6, .int (x6))]) dX3_sharedByPartners_68 (Nat.le_of_ble_eq_true rfl) rfl ?_
          refine mg_iinc (v := x6 + 1) (ls' := [(6, .int (x6 + 1)), (5, .int ((x5) &&& (v2))), (7, .int (v2)), (0, .ref (k0)), (1, .ref (k1)), (2, .int (x2)), (3, .int (x3)), (4, .int (x4))]) dX3_sharedByPartners_70 7 rfl rfl (Nat.le_of_ble_eq_true rfl) rfl ?_
          refine mg_goto (tgt := 21) dX3_sharedByPartners_73 (by decide) ?_
          exact mg_pick [3, 4, 5, 6, 7, 1, 0] rfl (h d hd ex)
theorem dX3_addPair_0 : decode cX3_addPair 0 = .ok (.aload_n 0, 1) := by decide +kernel
theorem dX3_addPair_1 : decode cX3_addPair 1 = .ok (.getfield 14, 3) := by decide +kernel
theorem dX3_addPair_4 : decode cX3_addPair 4 = .ok (.invokevirtual 50, 3) := by decide +kernel
theorem dX3_addPair_7 : decode cX3_addPair 7 = .ok (.istore_n 2, 1) := by decide +kernel
theorem dX3_addPair_8 : decode cX3_addPair 8 = .ok (.iload_n 2, 1) := by decide +kernel
theorem dX3_addPair_9 : decode cX3_addPair 9 = .ok (.bipush 11, 2) := by decide +kernel
theorem dX3_addPair_11 : decode cX3_addPair 11 = .ok (.if_icmp .ge 21, 3) := by decide +kernel
theorem dX3_addPair_14 : decode cX3_addPair 14 = .ok (.aload_n 0, 1) := by decide +kernel
theorem dX3_addPair_15 : decode cX3_addPair 15 = .ok (.getfield 20, 3) := by decide +kernel
theorem dX3_addPair_18 : decode cX3_addPair 18 = .ok (.iload_n 2, 1) := by decide +kernel
theorem dX3_addPair_19 : decode cX3_addPair 19 = .ok (.iload_n 1, 1) := by decide +kernel
theorem dX3_addPair_20 : decode cX3_addPair 20 = .ok (.iastore, 1) := by decide +kernel
theorem dX3_addPair_21 : decode cX3_addPair 21 = .ok (.aload_n 0, 1) := by decide +kernel
theorem dX3_addPair_22 : decode cX3_addPair 22 = .ok (.getfield 14, 3) := by decide +kernel
theorem dX3_addPair_25 : decode cX3_addPair 25 = .ok (.aload_n 0, 1) := by decide +kernel
theorem dX3_addPair_26 : decode cX3_addPair 26 = .ok (.getfield 28, 3) := by decide +kernel
theorem dX3_addPair_29 : decode cX3_addPair 29 = .ok (.invokevirtual 54, 3) := by decide +kernel
theorem dX3_addPair_32 : decode cX3_addPair 32 = .ok (.return_, 1) := by decide +kernel
abbrev mtX3_addPair : mj_T := (yX3_addPair.cls, cX3_addPair, 3, none, mj_no, yX3_addPair.name)
abbrev kX3_addPair (k0 : Nat) (x1 : Int32) (g : mj_S) (M : mj_M) (q : mj_M → Prop) : Prop := mj_CV yX3_addPair (.code yX3_addPair cX3_addPair 3 none) 1 [.ref (k0), .int (x1)] g M q
theorem kiX3_addPair : mj_cV yX3_addPair cX3_addPair 3 none 1 := ⟨⟨wd_568, wp_16, wd_10, wd_569⟩, ⟨by decide +kernel, by decide +kernel, by decide +kernel⟩, Nat.le_of_ble_eq_true rfl⟩
theorem eX3_addPair {k0 : Nat} {x1 : Int32} {g : mj_S} {M : mj_M} {q : mj_M → Prop} (h0 : is3 g k0) (h : ∃ (q1 : Int32 → mj_M → Prop), kX0_size (k0 + 1) g (M) q1 ∧ ∀ (v1 : Int32) (M1 : mj_M), q1 v1 M1 → (((11 : Int32) ≤ (v1) → q (M1)) ∧ (¬ (11 : Int32) ≤ (v1) → vp_in (v1) (11) ∧ (∃ (q2 : mj_M → Prop), kX0_add (k0 + 1) ((mj_wI (M1) (k0 + 3) (Int32.toNatClampNeg (v1)) (x1)).1 (k0) 2) g (mj_wI (M1) (k0 + 3) (Int32.toNatClampNeg (v1)) (x1)) q2 ∧ ∀ (M2 : mj_M), q2 M2 → (q (M2)))))) : kX3_addPair (k0) (x1) g M q := by
  intro d hd; refine mj_enter (by decide +kernel) (Nat.le_of_ble_eq_true rfl) ?_
  generalize (false : Bool) = ex
  show mj_G mtX3_addPair (mj_rm d 0 0) (mj_Fi (mj_qV g q) mj_x0 0 0) ex 0 0 0 [(0, .ref (k0)), (1, .int (x1))] [] g M
  refine mg_aload_n dX3_addPair_0 rfl 0 rfl ?_
  refine mg_getR (j := 0) dX3_addPair_1 kc_3 (Nat.le_of_ble_eq_true rfl) wd_190 rfl rfl h0.1.1 h0.1.2 h0.2.1.1 ?_
  obtain ⟨q1, hC, hk⟩ := h
  refine mc_Vi [] [] dX3_addPair_4 wd_565 kiX0_size (Nat.le_of_ble_eq_true rfl) h0.2.1.2.1.1 h0.2.1.2.1.2 rfl (Nat.le_trans (Nat.le_of_ble_eq_true rfl) hd) hC (fun v1 M1 hq => ?_)
  replace h := hk v1 M1 hq
  refine mg_istore_n (ls' := [(2, .int (v1)), (0, .ref (k0)), (1, .int (x1))]) dX3_addPair_7 rfl (Nat.le_of_ble_eq_true rfl) rfl ?_
  refine mg_iload_n dX3_addPair_8 rfl 0 rfl ?_
  refine mg_bipush (v := 11) dX3_addPair_9 (by decide) ?_
  refine mg_icmp_ge (tgt := 32) dX3_addPair_11 (by decide) (fun hc => ?_) (fun hc => ?_)
  · replace h := h.1 hc
    exact me_v dX3_addPair_32 rfl h
  · replace h := h.2 hc
    refine mg_aload_n dX3_addPair_14 rfl 1 rfl ?_
    refine mg_getR (j := 1) dX3_addPair_15 kc_3 (Nat.le_of_ble_eq_true rfl) wd_193 rfl rfl h0.1.1 h0.1.2 h0.2.2.1 ?_
    refine mg_iload_n dX3_addPair_18 rfl 0 rfl ?_
    refine mg_iload_n dX3_addPair_19 rfl 2 rfl ?_
    refine mg_iast dX3_addPair_20 h0.2.2.2.1 h0.2.2.2.2 h.1 ?_
    replace h := h.2
    refine mg_aload_n dX3_addPair_21 rfl 1 rfl ?_
    refine mg_getR (j := 0) dX3_addPair_22 kc_3 (Nat.le_of_ble_eq_true rfl) wd_190 rfl rfl h0.1.1 h0.1.2 h0.2.1.1 ?_
    refine mg_aload_n dX3_addPair_25 rfl 1 rfl ?_
    refine mg_getI (j := 2) dX3_addPair_26 kc_3 (Nat.le_of_ble_eq_true rfl) wd_194 rfl rfl h0.1.1 h0.1.2 rfl ?_
    obtain ⟨q2, hC, hk⟩ := h
    refine mc_Vv [.int ((mj_wI (M1) (k0 + 3) (Int32.toNatClampNeg (v1)) (x1)).1 (k0) 2)] [] dX3_addPair_29 wd_570 kiX0_add (Nat.le_of_ble_eq_true rfl) h0.2.1.2.1.1 h0.2.1.2.1.2 rfl (Nat.le_trans (Nat.le_of_ble_eq_true rfl) hd) hC (fun M2 hq => ?_)
    replace h := hk M2 hq
    exact me_v dX3_addPair_32 rfl h
theorem dX3_find_0 : decode cX3_find 0 = .ok (.aload_n 0, 1) := by decide +kernel
theorem dX3_find_1 : decode cX3_find 1 = .ok (.aload_n 1, 1) := by decide +kernel
theorem dX3_find_2 : decode cX3_find 2 = .ok (.iload_n 2, 1) := by decide +kernel
theorem dX3_find_3 : decode cX3_find 3 = .ok (.invokevirtual 24, 3) := by decide +kernel
theorem dX3_find_6 : decode cX3_find 6 = .ok (.putfield 28, 3) := by decide +kernel
theorem dX3_find_9 : decode cX3_find 9 = .ok (.aload_n 0, 1) := by decide +kernel
theorem dX3_find_10 : decode cX3_find 10 = .ok (.iconst 0, 1) := by decide +kernel
theorem dX3_find_11 : decode cX3_find 11 = .ok (.putfield 32, 3) := by decide +kernel
theorem dX3_find_14 : decode cX3_find 14 = .ok (.aload_n 0, 1) := by decide +kernel
theorem dX3_find_15 : decode cX3_find 15 = .ok (.getfield 14, 3) := by decide +kernel
theorem dX3_find_18 : decode cX3_find 18 = .ok (.invokevirtual 36, 3) := by decide +kernel
theorem dX3_find_21 : decode cX3_find 21 = .ok (.iconst 0, 1) := by decide +kernel
theorem dX3_find_22 : decode cX3_find 22 = .ok (.istore_n 3, 1) := by decide +kernel
theorem dX3_find_23 : decode cX3_find 23 = .ok (.iconst 0, 1) := by decide +kernel
theorem dX3_find_24 : decode cX3_find 24 = .ok (.istore 4, 2) := by decide +kernel
theorem dX3_find_26 : decode cX3_find 26 = .ok (.iload 4, 2) := by decide +kernel
theorem dX3_find_28 : decode cX3_find 28 = .ok (.sipush 240, 3) := by decide +kernel
theorem dX3_find_31 : decode cX3_find 31 = .ok (.if_icmp .ge 89, 3) := by decide +kernel
theorem dX3_find_34 : decode cX3_find 34 = .ok (.iload_n 3, 1) := by decide +kernel
theorem dX3_find_35 : decode cX3_find 35 = .ok (.bipush 20, 2) := by decide +kernel
theorem dX3_find_37 : decode cX3_find 37 = .ok (.if_icmp .ge 83, 3) := by decide +kernel
theorem dX3_find_40 : decode cX3_find 40 = .ok (.aload_n 0, 1) := by decide +kernel
theorem dX3_find_41 : decode cX3_find 41 = .ok (.getfield 32, 3) := by decide +kernel
theorem dX3_find_44 : decode cX3_find 44 = .ok (.ifCond .ne 76, 3) := by decide +kernel
theorem dX3_find_47 : decode cX3_find 47 = .ok (.aload_n 0, 1) := by decide +kernel
theorem dX3_find_48 : decode cX3_find 48 = .ok (.getfield 28, 3) := by decide +kernel
theorem dX3_find_51 : decode cX3_find 51 = .ok (.iload_n 3, 1) := by decide +kernel
theorem dX3_find_52 : decode cX3_find 52 = .ok (.invokestatic 39, 3) := by decide +kernel
theorem dX3_find_55 : decode cX3_find 55 = .ok (.ifCond .eq 13, 3) := by decide +kernel
theorem dX3_find_58 : decode cX3_find 58 = .ok (.aload_n 0, 1) := by decide +kernel
theorem dX3_find_59 : decode cX3_find 59 = .ok (.aload_n 1, 1) := by decide +kernel
theorem dX3_find_60 : decode cX3_find 60 = .ok (.iload_n 2, 1) := by decide +kernel
theorem dX3_find_61 : decode cX3_find 61 = .ok (.iload_n 3, 1) := by decide +kernel
theorem dX3_find_62 : decode cX3_find 62 = .ok (.invokevirtual 43, 3) := by decide +kernel
theorem dX3_find_65 : decode cX3_find 65 = .ok (.goto 4, 3) := by decide +kernel
theorem dX3_find_68 : decode cX3_find 68 = .ok (.iconst 0, 1) := by decide +kernel
theorem dX3_find_69 : decode cX3_find 69 = .ok (.istore 5, 2) := by decide +kernel
theorem dX3_find_71 : decode cX3_find 71 = .ok (.iload 5, 2) := by decide +kernel
theorem dX3_find_73 : decode cX3_find 73 = .ok (.ifCond .ne 9, 3) := by decide +kernel
theorem dX3_find_76 : decode cX3_find 76 = .ok (.iinc 3 1, 3) := by decide +kernel
theorem dX3_find_79 : decode cX3_find 79 = .ok (.goto 35, 3) := by decide +kernel
theorem dX3_find_82 : decode cX3_find 82 = .ok (.aload_n 0, 1) := by decide +kernel
theorem dX3_find_83 : decode cX3_find 83 = .ok (.iload_n 3, 1) := by decide +kernel
theorem dX3_find_84 : decode cX3_find 84 = .ok (.invokevirtual 47, 3) := by decide +kernel
theorem dX3_find_87 : decode cX3_find 87 = .ok (.iload 5, 2) := by decide +kernel
theorem dX3_find_89 : decode cX3_find 89 = .ok (.iconst (-1), 1) := by decide +kernel
theorem dX3_find_90 : decode cX3_find 90 = .ok (.if_icmp .ne 11, 3) := by decide +kernel
theorem dX3_find_93 : decode cX3_find 93 = .ok (.aload_n 0, 1) := by decide +kernel
theorem dX3_find_94 : decode cX3_find 94 = .ok (.iconst 1, 1) := by decide +kernel
theorem dX3_find_95 : decode cX3_find 95 = .ok (.putfield 32, 3) := by decide +kernel
theorem dX3_find_98 : decode cX3_find 98 = .ok (.goto 16, 3) := by decide +kernel
theorem dX3_find_101 : decode cX3_find 101 = .ok (.aload_n 0, 1) := by decide +kernel
theorem dX3_find_102 : decode cX3_find 102 = .ok (.dup, 1) := by decide +kernel
theorem dX3_find_103 : decode cX3_find 103 = .ok (.getfield 28, 3) := by decide +kernel
theorem dX3_find_106 : decode cX3_find 106 = .ok (.iload 5, 2) := by decide +kernel
theorem dX3_find_108 : decode cX3_find 108 = .ok (.ior, 1) := by decide +kernel
theorem dX3_find_109 : decode cX3_find 109 = .ok (.putfield 28, 3) := by decide +kernel
theorem dX3_find_112 : decode cX3_find 112 = .ok (.iconst 0, 1) := by decide +kernel
theorem dX3_find_113 : decode cX3_find 113 = .ok (.istore_n 3, 1) := by decide +kernel
theorem dX3_find_114 : decode cX3_find 114 = .ok (.iinc 4 1, 3) := by decide +kernel
theorem dX3_find_117 : decode cX3_find 117 = .ok (.goto (-91), 3) := by decide +kernel
theorem dX3_find_120 : decode cX3_find 120 = .ok (.return_, 1) := by decide +kernel
abbrev mtX3_find : mj_T := (yX3_find.cls, cX3_find, 6, none, mj_no, yX3_find.name)
abbrev kX3_find (k0 : Nat) (k1 : Nat) (x2 : Int32) (g : mj_S) (M : mj_M) (q : mj_M → Prop) : Prop := mj_CV yX3_find (.code yX3_find cX3_find 6 none) 2 [.ref (k0), .ref (k1), .int (x2)] g M q
theorem kiX3_find : mj_cV yX3_find cX3_find 6 none 2 := ⟨⟨wd_554, wd_555, wd_10, wd_556⟩, ⟨by decide +kernel, by decide +kernel, by decide +kernel⟩, Nat.le_of_ble_eq_true rfl⟩
def LX3_find_26 (k0 : Nat) (k1 n1 : Nat) (x2 : Int32) (x3 : Int32) (x4 : Int32) (g : mj_S) (M : mj_M) (q : mj_M → Prop) : Prop := ∀ d, 2 ≤ d → ∀ ex : Bool, mj_G mtX3_find (mj_rm d 0 0) (mj_Fi (mj_qV g q) mj_x0 0 0) ex 0 0 26 [(0, .ref (k0)), (1, .ref (k1)), (2, .int (x2)), (3, .int (x3)), (4, .int (x4))] [] g M
theorem eX3_find {k0 : Nat} {k1 n1 : Nat} {x2 : Int32} {g : mj_S} {M : mj_M} {q : mj_M → Prop} (h0 : is3 g k0) (h1 : is0 g k1 n1) (h : ∃ (q1 : Int32 → mj_M → Prop), kX0_at (k1) (x2) g (M) q1 ∧ ∀ (v1 : Int32) (M1 : mj_M), q1 v1 M1 → (∃ (q2 : mj_M → Prop), kX0_clear (k0 + 1) g (mj_wI (mj_wI (M1) (k0) 2 (v1)) (k0) 3 (0)) q2 ∧ ∀ (M2 : mj_M), q2 M2 → (LX3_find_26 k0 k1 n1 (x2) (0) (0) g (M2) q))) : kX3_find (k0) (k1) (x2) g M q := by
  intro d hd; refine mj_enter (by decide +kernel) (Nat.le_of_ble_eq_true rfl) ?_
  generalize (false : Bool) = ex
  show mj_G mtX3_find (mj_rm d 0 0) (mj_Fi (mj_qV g q) mj_x0 0 0) ex 0 0 0 [(0, .ref (k0)), (1, .ref (k1)), (2, .int (x2))] [] g M
  refine mg_aload_n dX3_find_0 rfl 0 rfl ?_
  refine mg_aload_n dX3_find_1 rfl 1 rfl ?_
  refine mg_iload_n dX3_find_2 rfl 2 rfl ?_
  obtain ⟨q1, hC, hk⟩ := h
  refine mc_Vi [.int (x2)] [.ref (k0)] dX3_find_3 wd_557 kiX0_at (Nat.le_of_ble_eq_true rfl) h1.1.1 h1.1.2 rfl (Nat.le_trans (Nat.le_of_ble_eq_true rfl) hd) hC (fun v1 M1 hq => ?_)
  replace h := hk v1 M1 hq
  refine mg_putI (j := 2) dX3_find_6 kc_3 (Nat.le_of_ble_eq_true rfl) wd_194 rfl rfl rfl h0.1.1 h0.1.2 ?_
  refine mg_aload_n dX3_find_9 rfl 0 rfl ?_
  refine mg_iconst (v := 0) dX3_find_10 (by decide) ?_
  refine mg_putZ (j := 3) dX3_find_11 kc_3 (Nat.le_of_ble_eq_true rfl) wd_196 rfl rfl rfl h0.1.1 h0.1.2 (Or.inl rfl) ?_
  refine mg_aload_n dX3_find_14 rfl 0 rfl ?_
  refine mg_getR (j := 0) dX3_find_15 kc_3 (Nat.le_of_ble_eq_true rfl) wd_190 rfl rfl h0.1.1 h0.1.2 h0.2.1.1 ?_
  obtain ⟨q2, hC, hk⟩ := h
  refine mc_Vv [] [] dX3_find_18 wd_558 kiX0_clear (Nat.le_of_ble_eq_true rfl) h0.2.1.2.1.1 h0.2.1.2.1.2 rfl (Nat.le_trans (Nat.le_of_ble_eq_true rfl) hd) hC (fun M2 hq => ?_)
  replace h := hk M2 hq
  refine mg_iconst (v := 0) dX3_find_21 (by decide) ?_
  refine mg_istore_n (ls' := [(3, .int (0)), (0, .ref (k0)), (1, .ref (k1)), (2, .int (x2))]) dX3_find_22 rfl (Nat.le_of_ble_eq_true rfl) rfl ?_
  refine mg_iconst (v := 0) dX3_find_23 (by decide) ?_
  refine mg_istore (ls' := [(4, .int (0)), (3, .int (0)), (0, .ref (k0)), (1, .ref (k1)), (2, .int (x2))]) dX3_find_24 (Nat.le_of_ble_eq_true rfl) rfl ?_
  exact mg_pick [2, 3, 4, 1, 0] rfl (h d hd ex)
theorem bX3_find_26 {k0 : Nat} {k1 n1 : Nat} {x2 : Int32} {x3 : Int32} {x4 : Int32} {g : mj_S} {M : mj_M} {q : mj_M → Prop} (h0 : is3 g k0) (h1 : is0 g k1 n1) (h : ((240 : Int32) ≤ (x4) → q (M)) ∧ (¬ (240 : Int32) ≤ (x4) → ((20 : Int32) ≤ (x3) → q (M)) ∧ (¬ (20 : Int32) ≤ (x3) → (¬ ((M).1 (k0) 3 : Int32) = 0 → q (M)) ∧ (((M).1 (k0) 3 : Int32) = 0 → ∃ (q1 : Int32 → mj_M → Prop), kX9_contains ((M).1 (k0) 2) (x3) g (M) q1 ∧ ∀ (v1 : Int32) (M1 : mj_M), q1 v1 M1 → (((v1 : Int32) = 0 → (¬ (0 : Int32) = 0 → ∃ (q2 : mj_M → Prop), kX3_addPair (k0) (x3) g (M1) q2 ∧ ∀ (M2 : mj_M), q2 M2 → ((¬ (0 : Int32) = (-1 : Int32) → LX3_find_26 k0 k1 n1 (x2) (0) (x4 + 1) g (mj_wI (M2) (k0) 2 (((M2).1 (k0) 2) ||| (0 : Int32))) q) ∧ ((0 : Int32) = (-1 : Int32) → LX3_find_26 k0 k1 n1 (x2) (x3) (x4 + 1) g (mj_wI (M2) (k0) 3 (1)) q))) ∧ ((0 : Int32) = 0 → LX3_find_26 k0 k1 n1 (x2) (x3 + 1) (x4 + 1) g (M1) q)) ∧ (¬ (v1 : Int32) = 0 → ∃ (q3 : Int32 → mj_M → Prop), kX3_sharedByPartners (k0) (k1) (x2) (x3) g (M1) q3 ∧ ∀ (v3 : Int32) (M3 : mj_M), q3 v3 M3 → ((¬ (v3 : Int32) = 0 → ∃ (q4 : mj_M → Prop), kX3_addPair (k0) (x3) g (M3) q4 ∧ ∀ (M4 : mj_M), q4 M4 → ((¬ (v3 : Int32) = (-1 : Int32) → LX3_find_26 k0 k1 n1 (x2) (0) (x4 + 1) g (mj_wI (M4) (k0) 2 (((M4).1 (k0) 2) ||| (v3))) q) ∧ ((v3 : Int32) = (-1 : Int32) → LX3_find_26 k0 k1 n1 (x2) (x3) (x4 + 1) g (mj_wI (M4) (k0) 3 (1)) q))) ∧ ((v3 : Int32) = 0 → LX3_find_26 k0 k1 n1 (x2) (x3 + 1) (x4 + 1) g (M3) q)))))))) : LX3_find_26 k0 k1 n1 x2 x3 x4 g M q := by
  intro d hd ex
  refine mg_iload dX3_find_26 4 rfl ?_
  refine mg_sipush (v := 240) dX3_find_28 (by decide) ?_
  refine mg_icmp_ge (tgt := 120) dX3_find_31 (by decide) (fun hc => ?_) (fun hc => ?_)
  · replace h := h.1 hc
    exact me_v dX3_find_120 rfl h
  · replace h := h.2 hc
    refine mg_iload_n dX3_find_34 rfl 3 rfl ?_
    refine mg_bipush (v := 20) dX3_find_35 (by decide) ?_
    refine mg_icmp_ge (tgt := 120) dX3_find_37 (by decide) (fun hc => ?_) (fun hc => ?_)
    · replace h := h.1 hc
      exact me_v dX3_find_120 rfl h
    · replace h := h.2 hc
      refine mg_aload_n dX3_find_40 rfl 0 rfl ?_
      refine mg_getI (j := 3) dX3_find_41 kc_3 (Nat.le_of_ble_eq_true rfl) wd_196 rfl rfl h0.1.1 h0.1.2 rfl ?_
      refine mg_if_ne (tgt := 120) dX3_find_44 (by decide) (fun hc => ?_) (fun hc => ?_)
      · replace h := h.1 hc
        exact me_v dX3_find_120 rfl h
      · replace h := h.2 hc
        refine mg_aload_n dX3_find_47 rfl 0 rfl ?_
        refine mg_getI (j := 2) dX3_find_48 kc_3 (Nat.le_of_ble_eq_true rfl) wd_194 rfl rfl h0.1.1 h0.1.2 rfl ?_
        refine mg_iload_n dX3_find_51 rfl 3 rfl ?_
        obtain ⟨q1, hC, hk⟩ := h
        refine mc_Ni [.int ((M).1 (k0) 2), .int (x3)] [] 13 dX3_find_52 rfl kiX9_contains (Nat.le_of_ble_eq_true rfl) (Nat.le_trans (Nat.le_of_ble_eq_true rfl) hd) hC (fun v1 M1 hq => ?_)
        replace h := hk v1 M1 hq
        refine mg_if_eq (tgt := 68) dX3_find_55 (by decide) (fun hc => ?_) (fun hc => ?_)
        · replace h := h.1 hc
          refine mg_iconst (v := 0) dX3_find_68 (by decide) ?_
          refine mg_istore (ls' := [(5, .int (0)), (0, .ref (k0)), (1, .ref (k1)), (2, .int (x2)), (3, .int (x3)), (4, .int (x4))]) dX3_find_69 (Nat.le_of_ble_eq_true rfl) rfl ?_
          refine mg_iload dX3_find_71 0 rfl ?_
          refine mg_if_ne (tgt := 82) dX3_find_73 (by decide) (fun hc => ?_) (fun hc => ?_)
          · replace h := h.1 hc
            refine mg_aload_n dX3_find_82 rfl 1 rfl ?_
            refine mg_iload_n dX3_find_83 rfl 4 rfl ?_
            obtain ⟨q2, hC, hk⟩ := h
            refine mc_Vv [.int (x3)] [] dX3_find_84 wd_566 kiX3_addPair (Nat.le_of_ble_eq_true rfl) h0.1.1 h0.1.2 rfl (Nat.le_trans (Nat.le_of_ble_eq_true rfl) hd) hC (fun M2 hq => ?_)
            replace h := hk M2 hq
            refine mg_iload dX3_find_87 0 rfl ?_
            refine mg_iconst (v := (-1)) dX3_find_89 (by decide) ?_
            refine mg_icmp_ne (tgt := 101) dX3_find_90 (by decide) (fun hc => ?_) (fun hc => ?_)
            · replace h := h.1 hc
              refine mg_aload_n dX3_find_101 rfl 1 rfl ?_
              refine mg_dup dX3_find_102 rfl ?_
              refine mg_getI (j := 2) dX3_find_103 kc_3 (Nat.le_of_ble_eq_true rfl) wd_194 rfl rfl h0.1.1 h0.1.2 rfl ?_
              refine mg_iload dX3_find_106 0 rfl ?_
              refine mg_ior dX3_find_108 ?_
              refine mg_putI (j := 2) dX3_find_109 kc_3 (Nat.le_of_ble_eq_true rfl) wd_194 rfl rfl rfl h0.1.1 h0.1.2 ?_
              refine mg_iconst (v := 0) dX3_find_112 (by decide) ?_
              refine mg_istore_n (ls' := [(3, .int (0)), (5, .int (0)), (0, .ref (k0)), (1, .ref (k1)), (2, .int (x2)), (4, .int (x4))]) dX3_find_113 rfl (Nat.le_of_ble_eq_true rfl) rfl ?_
              refine mg_iinc (v := x4 + 1) (ls' := [(4, .int (x4 + 1)), (3, .int (0)), (5, .int (0)), (0, .ref (k0)), (1, .ref (k1)), (2, .int (x2))]) dX3_find_114 5 rfl rfl (Nat.le_of_ble_eq_true rfl) rfl ?_
              refine mg_goto (tgt := 26) dX3_find_117 (by decide) ?_
              exact mg_pick [3, 4, 5, 1, 0] rfl (h d hd ex)
            · replace h := h.2 hc
              refine mg_aload_n dX3_find_93 rfl 1 rfl ?_
              refine mg_iconst (v := 1) dX3_find_94 (by decide) ?_
              refine mg_putZ (j := 3) dX3_find_95 kc_3 (Nat.le_of_ble_eq_true rfl) wd_196 rfl rfl rfl h0.1.1 h0.1.2 (Or.inr rfl) ?_
              refine mg_goto (tgt := 114) dX3_find_98 (by decide) ?_
              refine mg_iinc (v := x4 + 1) (ls' := [(4, .int (x4 + 1)), (5, .int (0)), (0, .ref (k0)), (1, .ref (k1)), (2, .int (x2)), (3, .int (x3))]) dX3_find_114 5 rfl rfl (Nat.le_of_ble_eq_true rfl) rfl ?_
              refine mg_goto (tgt := 26) dX3_find_117 (by decide) ?_
              exact mg_pick [2, 3, 4, 5, 0] rfl (h d hd ex)
          · replace h := h.2 hc
            refine mg_iinc (v := x3 + 1) (ls' := [(3, .int (x3 + 1)), (5, .int (0)), (0, .ref (k0)), (1, .ref (k1)), (2, .int (x2)), (4, .int (x4))]) dX3_find_76 4 rfl rfl (Nat.le_of_ble_eq_true rfl) rfl ?_
            refine mg_goto (tgt := 114) dX3_find_79 (by decide) ?_
            refine mg_iinc (v := x4 + 1) (ls' := [(4, .int (x4 + 1)), (3, .int (x3 + 1)), (5, .int (0)), (0, .ref (k0)), (1, .ref (k1)), (2, .int (x2))]) dX3_find_114 5 rfl rfl (Nat.le_of_ble_eq_true rfl) rfl ?_
            refine mg_goto (tgt := 26) dX3_find_117 (by decide) ?_
            exact mg_pick [3, 4, 5, 1, 0] rfl (h d hd ex)
        · replace h := h.2 hc
          refine mg_aload_n dX3_find_58 rfl 0 rfl ?_
          refine mg_aload_n dX3_find_59 rfl 1 rfl ?_
          refine mg_iload_n dX3_find_60 rfl 2 rfl ?_
          refine mg_iload_n dX3_find_61 rfl 3 rfl ?_
          obtain ⟨q3, hC, hk⟩ := h
          refine mc_Vi [.ref (k1), .int (x2), .int (x3)] [] dX3_find_62 wd_560 kiX3_sharedByPartners (Nat.le_of_ble_eq_true rfl) h0.1.1 h0.1.2 rfl (Nat.le_trans (Nat.le_of_ble_eq_true rfl) hd) hC (fun v3 M3 hq => ?_)
          replace h := hk v3 M3 hq
          refine mg_goto (tgt := 69) dX3_find_65 (by decide) ?_
          refine mg_istore (ls' := [(5, .int (v3)), (0, .ref (k0)), (1, .ref (k1)), (2, .int (x2)), (3, .int (x3)), (4, .int (x4))]) dX3_find_69 (Nat.le_of_ble_eq_true rfl) rfl ?_
          refine mg_iload dX3_find_71 0 rfl ?_
          refine mg_if_ne (tgt := 82) dX3_find_73 (by decide) (fun hc => ?_) (fun hc => ?_)
          · replace h := h.1 hc
            refine mg_aload_n dX3_find_82 rfl 1 rfl ?_
            refine mg_iload_n dX3_find_83 rfl 4 rfl ?_
            obtain ⟨q4, hC, hk⟩ := h
            refine mc_Vv [.int (x3)] [] dX3_find_84 wd_566 kiX3_addPair (Nat.le_of_ble_eq_true rfl) h0.1.1 h0.1.2 rfl (Nat.le_trans (Nat.le_of_ble_eq_true rfl) hd) hC (fun M4 hq => ?_)
            replace h := hk M4 hq
            refine mg_iload dX3_find_87 0 rfl ?_
            refine mg_iconst (v := (-1)) dX3_find_89 (by decide) ?_
            refine mg_icmp_ne (tgt := 101) dX3_find_90 (by decide) (fun hc => ?_) (fun hc => ?_)
            · replace h := h.1 hc
              refine mg_aload_n dX3_find_101 rfl 1 rfl ?_
              refine mg_dup dX3_find_102 rfl ?_
              refine mg_getI (j := 2) dX3_find_103 kc_3 (Nat.le_of_ble_eq_true rfl) wd_194 rfl rfl h0.1.1 h0.1.2 rfl ?_
              refine mg_iload dX3_find_106 0 rfl ?_
              refine mg_ior dX3_find_108 ?_
              refine mg_putI (j := 2) dX3_find_109 kc_3 (Nat.le_of_ble_eq_true rfl) wd_194 rfl rfl rfl h0.1.1 h0.1.2 ?_
              refine mg_iconst (v := 0) dX3_find_112 (by decide) ?_
              refine mg_istore_n (ls' := [(3, .int (0)), (5, .int (v3)), (0, .ref (k0)), (1, .ref (k1)), (2, .int (x2)), (4, .int (x4))]) dX3_find_113 rfl (Nat.le_of_ble_eq_true rfl) rfl ?_
              refine mg_iinc (v := x4 + 1) (ls' := [(4, .int (x4 + 1)), (3, .int (0)), (5, .int (v3)), (0, .ref (k0)), (1, .ref (k1)), (2, .int (x2))]) dX3_find_114 5 rfl rfl (Nat.le_of_ble_eq_true rfl) rfl ?_
              refine mg_goto (tgt := 26) dX3_find_117 (by decide) ?_
              exact mg_pick [3, 4, 5, 1, 0] rfl (h d hd ex)
            · replace h := h.2 hc
              refine mg_aload_n dX3_find_93 rfl 1 rfl ?_
              refine mg_iconst (v := 1) dX3_find_94 (by decide) ?_
              refine mg_putZ (j := 3) dX3_find_95 kc_3 (Nat.le_of_ble_eq_true rfl) wd_196 rfl rfl rfl h0.1.1 h0.1.2 (Or.inr rfl) ?_
              refine mg_goto (tgt := 114) dX3_find_98 (by decide) ?_
              refine mg_iinc (v := x4 + 1) (ls' := [(4, .int (x4 + 1)), (5, .int (v3)), (0, .ref (k0)), (1, .ref (k1)), (2, .int (x2)), (3, .int (x3))]) dX3_find_114 5 rfl rfl (Nat.le_of_ble_eq_true rfl) rfl ?_
              refine mg_goto (tgt := 26) dX3_find_117 (by decide) ?_
              exact mg_pick [2, 3, 4, 5, 0] rfl (h d hd ex)
          · replace h := h.2 hc
            refine mg_iinc (v := x3 + 1) (ls' := [(3, .int (x3 + 1)), (5, .int (v3)), (0, .ref (k0)), (1, .ref (k1)), (2, .int (x2)), (4, .int (x4))]) dX3_find_76 4 rfl rfl (Nat.le_of_ble_eq_true rfl) rfl ?_
            refine mg_goto (tgt := 114) dX3_find_79 (by decide) ?_
            refine mg_iinc (v := x4 + 1) (ls' := [(4, .int (x4 + 1)), (3, .int (x3 + 1)), (5, .int (v3)), (0, .ref (k0)), (1, .ref (k1)), (2, .int (x2))]) dX3_find_114 5 rfl rfl (Nat.le_of_ble_eq_true rfl) rfl ?_
            refine mg_goto (tgt := 26) dX3_find_117 (by decide) ?_
            exact mg_pick [3, 4, 5, 1, 0] rfl (h d hd ex)
theorem dX3_witnessAt_0 : decode cX3_witnessAt 0 = .ok (.iload_n 1, 1) := by decide +kernel
theorem dX3_witnessAt_1 : decode cX3_witnessAt 1 = .ok (.ifCond .lt 18, 3) := by decide +kernel
theorem dX3_witnessAt_4 : decode cX3_witnessAt 4 = .ok (.iload_n 1, 1) := by decide +kernel
theorem dX3_witnessAt_5 : decode cX3_witnessAt 5 = .ok (.bipush 11, 2) := by decide +kernel
theorem dX3_witnessAt_7 : decode cX3_witnessAt 7 = .ok (.if_icmp .ge 12, 3) := by decide +kernel
theorem dX3_witnessAt_10 : decode cX3_witnessAt 10 = .ok (.aload_n 0, 1) := by decide +kernel
theorem dX3_witnessAt_11 : decode cX3_witnessAt 11 = .ok (.getfield 20, 3) := by decide +kernel
theorem dX3_witnessAt_14 : decode cX3_witnessAt 14 = .ok (.iload_n 1, 1) := by decide +kernel
theorem dX3_witnessAt_15 : decode cX3_witnessAt 15 = .ok (.iaload, 1) := by decide +kernel
theorem dX3_witnessAt_16 : decode cX3_witnessAt 16 = .ok (.goto 4, 3) := by decide +kernel
theorem dX3_witnessAt_19 : decode cX3_witnessAt 19 = .ok (.iconst 0, 1) := by decide +kernel
theorem dX3_witnessAt_20 : decode cX3_witnessAt 20 = .ok (.ireturn, 1) := by decide +kernel
abbrev mtX3_witnessAt : mj_T := (yX3_witnessAt.cls, cX3_witnessAt, 2, (some .int), mj_no, yX3_witnessAt.name)
abbrev kX3_witnessAt (k0 : Nat) (x1 : Int32) (g : mj_S) (M : mj_M) (q : Int32 → mj_M → Prop) : Prop := mj_CI yX3_witnessAt (.code yX3_witnessAt cX3_witnessAt 2 (some .int)) 0 [.ref (k0), .int (x1)] g M q
theorem kiX3_witnessAt : mj_cV yX3_witnessAt cX3_witnessAt 2 (some .int) 1 := ⟨⟨wd_572, wd_573, wd_10, wd_574⟩, ⟨by decide +kernel, by decide +kernel, by decide +kernel⟩, Nat.le_of_ble_eq_true rfl⟩
theorem eX3_witnessAt {k0 : Nat} {x1 : Int32} {g : mj_S} {M : mj_M} {q : Int32 → mj_M → Prop} (h0 : is3 g k0) (h : ((x1 : Int32) < 0 → q (0) (M)) ∧ (¬ (x1 : Int32) < 0 → ((11 : Int32) ≤ (x1) → q (0) (M)) ∧ (¬ (11 : Int32) ≤ (x1) → vp_in (x1) (11) ∧ (q ((M).1 (k0 + 3) (Int32.toNatClampNeg (x1))) (M))))) : kX3_witnessAt (k0) (x1) g M q := by
  intro d hd; refine mj_enter (by decide +kernel) (Nat.le_of_ble_eq_true rfl) ?_
  generalize (false : Bool) = ex
  show mj_G mtX3_witnessAt (mj_rm d 0 0) (mj_Fi (mj_qI g q) mj_x0 0 0) ex 0 0 0 [(0, .ref (k0)), (1, .int (x1))] [] g M
  refine mg_iload_n dX3_witnessAt_0 rfl 1 rfl ?_
  refine mg_if_lt (tgt := 19) dX3_witnessAt_1 (by decide) (fun hc => ?_) (fun hc => ?_)
  · replace h := h.1 hc
    refine mg_iconst (v := 0) dX3_witnessAt_19 (by decide) ?_
    exact me_i dX3_witnessAt_20 rfl h
  · replace h := h.2 hc
    refine mg_iload_n dX3_witnessAt_4 rfl 1 rfl ?_
    refine mg_bipush (v := 11) dX3_witnessAt_5 (by decide) ?_
    refine mg_icmp_ge (tgt := 19) dX3_witnessAt_7 (by decide) (fun hc => ?_) (fun hc => ?_)
    · replace h := h.1 hc
      refine mg_iconst (v := 0) dX3_witnessAt_19 (by decide) ?_
      exact me_i dX3_witnessAt_20 rfl h
    · replace h := h.2 hc
      refine mg_aload_n dX3_witnessAt_10 rfl 0 rfl ?_
      refine mg_getR (j := 1) dX3_witnessAt_11 kc_3 (Nat.le_of_ble_eq_true rfl) wd_193 rfl rfl h0.1.1 h0.1.2 h0.2.2.1 ?_
      refine mg_iload_n dX3_witnessAt_14 rfl 1 rfl ?_
      refine mg_iald dX3_witnessAt_15 h0.2.2.2.1 h0.2.2.2.2 h.1 rfl ?_
      replace h := h.2
      refine mg_goto (tgt := 20) dX3_witnessAt_16 (by decide) ?_
      exact me_i dX3_witnessAt_20 rfl h
theorem dX4_addImplications_0 : decode cX4_addImplications 0 = .ok (.iconst 0, 1) := by decide +kernel
theorem dX4_addImplications_1 : decode cX4_addImplications 1 = .ok (.istore_n 2, 1) := by decide +kernel
theorem dX4_addImplications_2 : decode cX4_addImplications 2 = .ok (.iload_n 2, 1) := by decide +kernel
theorem dX4_addImplications_3 : decode cX4_addImplications 3 = .ok (.bipush 20, 2) := by decide +kernel
theorem dX4_addImplications_5 : decode cX4_addImplications 5 = .ok (.if_icmp .ge 43, 3) := by decide +kernel
theorem dX4_addImplications_8 : decode cX4_addImplications 8 = .ok (.iload_n 2, 1) := by decide +kernel
theorem dX4_addImplications_9 : decode cX4_addImplications 9 = .ok (.iconst 1, 1) := by decide +kernel
theorem dX4_addImplications_10 : decode cX4_addImplications 10 = .ok (.ixor, 1) := by decide +kernel
theorem dX4_addImplications_11 : decode cX4_addImplications 11 = .ok (.istore_n 3, 1) := by decide +kernel
theorem dX4_addImplications_12 : decode cX4_addImplications 12 = .ok (.iload_n 1, 1) := by decide +kernel
theorem dX4_addImplications_13 : decode cX4_addImplications 13 = .ok (.iload_n 2, 1) := by decide +kernel
theorem dX4_addImplications_14 : decode cX4_addImplications 14 = .ok (.invokestatic 34, 3) := by decide +kernel
theorem dX4_addImplications_17 : decode cX4_addImplications 17 = .ok (.ifCond .eq 25, 3) := by decide +kernel
theorem dX4_addImplications_20 : decode cX4_addImplications 20 = .ok (.iload_n 3, 1) := by decide +kernel
theorem dX4_addImplications_21 : decode cX4_addImplications 21 = .ok (.bipush 20, 2) := by decide +kernel
theorem dX4_addImplications_23 : decode cX4_addImplications 23 = .ok (.if_icmp .ge 19, 3) := by decide +kernel
theorem dX4_addImplications_26 : decode cX4_addImplications 26 = .ok (.aload_n 0, 1) := by decide +kernel
theorem dX4_addImplications_27 : decode cX4_addImplications 27 = .ok (.getfield 9, 3) := by decide +kernel
theorem dX4_addImplications_30 : decode cX4_addImplications 30 = .ok (.iload_n 3, 1) := by decide +kernel
theorem dX4_addImplications_31 : decode cX4_addImplications 31 = .ok (.dup2, 1) := by decide +kernel
theorem dX4_addImplications_32 : decode cX4_addImplications 32 = .ok (.iaload, 1) := by decide +kernel
theorem dX4_addImplications_33 : decode cX4_addImplications 33 = .ok (.iload_n 1, 1) := by decide +kernel
theorem dX4_addImplications_34 : decode cX4_addImplications 34 = .ok (.iconst 1, 1) := by decide +kernel
theorem dX4_addImplications_35 : decode cX4_addImplications 35 = .ok (.iload_n 2, 1) := by decide +kernel
theorem dX4_addImplications_36 : decode cX4_addImplications 36 = .ok (.ishl, 1) := by decide +kernel
theorem dX4_addImplications_37 : decode cX4_addImplications 37 = .ok (.iconst (-1), 1) := by decide +kernel
theorem dX4_addImplications_38 : decode cX4_addImplications 38 = .ok (.ixor, 1) := by decide +kernel
theorem dX4_addImplications_39 : decode cX4_addImplications 39 = .ok (.iand, 1) := by decide +kernel
theorem dX4_addImplications_40 : decode cX4_addImplications 40 = .ok (.ior, 1) := by decide +kernel
theorem dX4_addImplications_41 : decode cX4_addImplications 41 = .ok (.iastore, 1) := by decide +kernel
theorem dX4_addImplications_42 : decode cX4_addImplications 42 = .ok (.iinc 2 1, 3) := by decide +kernel
theorem dX4_addImplications_45 : decode cX4_addImplications 45 = .ok (.goto (-43), 3) := by decide +kernel
theorem dX4_addImplications_48 : decode cX4_addImplications 48 = .ok (.return_, 1) := by decide +kernel
abbrev mtX4_addImplications : mj_T := (yX4_addImplications.cls, cX4_addImplications, 4, none, mj_no, yX4_addImplications.name)
abbrev kX4_addImplications (k0 : Nat) (x1 : Int32) (g : mj_S) (M : mj_M) (q : mj_M → Prop) : Prop := mj_CV yX4_addImplications (.code yX4_addImplications cX4_addImplications 4 none) 1 [.ref (k0), .int (x1)] g M q
theorem kiX4_addImplications : mj_cV yX4_addImplications cX4_addImplications 4 none 1 := ⟨⟨wd_596, wp_19, wd_11, wd_597⟩, ⟨by decide +kernel, by decide +kernel, by decide +kernel⟩, Nat.le_of_ble_eq_true rfl⟩
def LX4_addImplications_2 (k0 : Nat) (x1 : Int32) (x2 : Int32) (g : mj_S) (M : mj_M) (q : mj_M → Prop) : Prop := ∀ d, 1 ≤ d → ∀ ex : Bool, mj_G mtX4_addImplications (mj_rm d 0 0) (mj_Fi (mj_qV g q) mj_x0 0 0) ex 0 0 2 [(0, .ref (k0)), (1, .int (x1)), (2, .int (x2))] [] g M
theorem eX4_addImplications {k0 : Nat} {x1 : Int32} {g : mj_S} {M : mj_M} {q : mj_M → Prop} (h0 : is4 g k0) (h : LX4_addImplications_2 k0 (x1) (0) g (M) q) : kX4_addImplications (k0) (x1) g M q := by
  intro d hd; refine mj_enter (by decide +kernel) (Nat.le_of_ble_eq_true rfl) ?_
  generalize (false : Bool) = ex
  show mj_G mtX4_addImplications (mj_rm d 0 0) (mj_Fi (mj_qV g q) mj_x0 0 0) ex 0 0 0 [(0, .ref (k0)), (1, .int (x1))] [] g M
  refine mg_iconst (v := 0) dX4_addImplications_0 (by decide) ?_
  refine mg_istore_n (ls' := [(2, .int (0)), (0, .ref (k0)), (1, .int (x1))]) dX4_addImplications_1 rfl (Nat.le_of_ble_eq_true rfl) rfl ?_
  exact mg_pick [1, 2, 0] rfl (h d hd ex)
theorem bX4_addImplications_2 {k0 : Nat} {x1 : Int32} {x2 : Int32} {g : mj_S} {M : mj_M} {q : mj_M → Prop} (h0 : is4 g k0) (h : ((20 : Int32) ≤ (x2) → q (M)) ∧ (¬ (20 : Int32) ≤ (x2) → ∃ (q1 : Int32 → mj_M → Prop), kX9_contains (x1) (x2) g (M) q1 ∧ ∀ (v1 : Int32) (M1 : mj_M), q1 v1 M1 → (((v1 : Int32) = 0 → LX4_addImplications_2 k0 (x1) (x2 + 1) g (M1) q) ∧ (¬ (v1 : Int32) = 0 → ((20 : Int32) ≤ ((x2) ^^^ (1 : Int32)) → LX4_addImplications_2 k0 (x1) (x2 + 1) g (M1) q) ∧ (¬ (20 : Int32) ≤ ((x2) ^^^ (1 : Int32)) → vp_in ((x2) ^^^ (1 : Int32)) (20) ∧ (vp_in ((x2) ^^^ (1 : Int32)) (20) ∧ (LX4_addImplications_2 k0 (x1) (x2 + 1) g (mj_wI (M1) (k0 + 1) (Int32.toNatClampNeg ((x2) ^^^ (1 : Int32))) (((M1).1 (k0 + 1) (Int32.toNatClampNeg ((x2) ^^^ (1 : Int32)))) ||| ((x1) &&& (((1 : Int32) <<< ((x2) &&& 31)) ^^^ (-1 : Int32))))) q))))))) : LX4_addImplications_2 k0 x1 x2 g M q := by
  intro d hd ex
  refine mg_iload_n dX4_addImplications_2 rfl 2 rfl ?_
  refine mg_bipush (v := 20) dX4_addImplications_3 (by decide) ?_
  refine mg_icmp_ge (tgt := 48) dX4_addImplications_5 (by decide) (fun hc => ?_) (fun hc => ?_)
  · replace h := h.1 hc
    exact me_v dX4_addImplications_48 rfl h
  · replace h := h.2 hc
    refine mg_iload_n dX4_addImplications_8 rfl 2 rfl ?_
    refine mg_iconst (v := 1) dX4_addImplications_9 (by decide) ?_
    refine mg_ixor dX4_addImplications_10 ?_
    refine mg_istore_n (ls' := [(3, .int ((x2) ^^^ (1 : Int32))), (0, .ref (k0)), (1, .int (x1)), (2, .int (x2))]) dX4_addImplications_11 rfl (Nat.le_of_ble_eq_true rfl) rfl ?_
    refine mg_iload_n dX4_addImplications_12 rfl 2 rfl ?_
    refine mg_iload_n dX4_addImplications_13 rfl 3 rfl ?_
    obtain ⟨q1, hC, hk⟩ := h
    refine mc_Ni [.int (x1), .int (x2)] [] 16 dX4_addImplications_14 rfl kiX9_contains (Nat.le_of_ble_eq_true rfl) (Nat.le_trans (Nat.le_of_ble_eq_true rfl) hd) hC (fun v1 M1 hq => ?_)
    replace h := hk v1 M1 hq
    refine mg_if_eq (tgt := 42) dX4_addImplications_17 (by decide) (fun hc => ?_) (fun hc => ?_)
    · replace h := h.1 hc
      refine mg_iinc (v := x2 + 1) (ls' := [(2, .int (x2 + 1)), (3, .int ((x2) ^^^ (1 : Int32))), (0, .ref (k0)), (1, .int (x1))]) dX4_addImplications_42 3 rfl rfl (Nat.le_of_ble_eq_true rfl) rfl ?_
      refine mg_goto (tgt := 2) dX4_addImplications_45 (by decide) ?_
      exact mg_pick [2, 3, 0] rfl (h d hd ex)
    · replace h := h.2 hc
      refine mg_iload_n dX4_addImplications_20 rfl 0 rfl ?_
      refine mg_bipush (v := 20) dX4_addImplications_21 (by decide) ?_
      refine mg_icmp_ge (tgt := 42) dX4_addImplications_23 (by decide) (fun hc => ?_) (fun hc => ?_)
      · replace h := h.1 hc
        refine mg_iinc (v := x2 + 1) (ls' := [(2, .int (x2 + 1)), (3, .int ((x2) ^^^ (1 : Int32))), (0, .ref (k0)), (1, .int (x1))]) dX4_addImplications_42 3 rfl rfl (Nat.le_of_ble_eq_true rfl) rfl ?_
        refine mg_goto (tgt := 2) dX4_addImplications_45 (by decide) ?_
        exact mg_pick [2, 3, 0] rfl (h d hd ex)
      · replace h := h.2 hc
        refine mg_aload_n dX4_addImplications_26 rfl 1 rfl ?_
        refine mg_getR (j := 0) dX4_addImplications_27 kc_4 (Nat.le_of_ble_eq_true rfl) wd_214 rfl rfl h0.1.1 h0.1.2 h0.2.1 ?_
        refine mg_iload_n dX4_addImplications_30 rfl 0 rfl ?_
        refine mg_dup2 dX4_addImplications_31 rfl rfl ?_
        refine mg_iald dX4_addImplications_32 h0.2.2.1 h0.2.2.2 h.1 rfl ?_
        replace h := h.2
        refine mg_iload_n dX4_addImplications_33 rfl 2 rfl ?_
        refine mg_iconst (v := 1) dX4_addImplications_34 (by decide) ?_
        refine mg_iload_n dX4_addImplications_35 rfl 3 rfl ?_
        refine mg_ishl dX4_addImplications_36 ?_
        refine mg_iconst (v := (-1)) dX4_addImplications_37 (by decide) ?_
        refine mg_ixor dX4_addImplications_38 ?_
        refine mg_iand dX4_addImplications_39 ?_
        refine mg_ior dX4_addImplications_40 ?_
        refine mg_iast dX4_addImplications_41 h0.2.2.1 h0.2.2.2 h.1 ?_
        replace h := h.2
        refine mg_iinc (v := x2 + 1) (ls' := [(2, .int (x2 + 1)), (3, .int ((x2) ^^^ (1 : Int32))), (0, .ref (k0)), (1, .int (x1))]) dX4_addImplications_42 3 rfl rfl (Nat.le_of_ble_eq_true rfl) rfl ?_
        refine mg_goto (tgt := 2) dX4_addImplications_45 (by decide) ?_
        exact mg_pick [2, 3, 0] rfl (h d hd ex)
theorem dX4_find_0 : decode cX4_find 0 = .ok (.iconst 0, 1) := by decide +kernel
theorem dX4_find_1 : decode cX4_find 1 = .ok (.istore_n 2, 1) := by decide +kernel
theorem dX4_find_2 : decode cX4_find 2 = .ok (.iload_n 2, 1) := by decide +kernel
theorem dX4_find_3 : decode cX4_find 3 = .ok (.bipush 20, 2) := by decide +kernel
theorem dX4_find_5 : decode cX4_find 5 = .ok (.if_icmp .ge 18, 3) := by decide +kernel
theorem dX4_find_8 : decode cX4_find 8 = .ok (.aload_n 0, 1) := by decide +kernel
theorem dX4_find_9 : decode cX4_find 9 = .ok (.getfield 9, 3) := by decide +kernel
theorem dX4_find_12 : decode cX4_find 12 = .ok (.iload_n 2, 1) := by decide +kernel
theorem dX4_find_13 : decode cX4_find 13 = .ok (.iconst 1, 1) := by decide +kernel
theorem dX4_find_14 : decode cX4_find 14 = .ok (.iload_n 2, 1) := by decide +kernel
theorem dX4_find_15 : decode cX4_find 15 = .ok (.ishl, 1) := by decide +kernel
theorem dX4_find_16 : decode cX4_find 16 = .ok (.iastore, 1) := by decide +kernel
theorem dX4_find_17 : decode cX4_find 17 = .ok (.iinc 2 1, 3) := by decide +kernel
theorem dX4_find_20 : decode cX4_find 20 = .ok (.goto (-18), 3) := by decide +kernel
theorem dX4_find_23 : decode cX4_find 23 = .ok (.iconst 0, 1) := by decide +kernel
theorem dX4_find_24 : decode cX4_find 24 = .ok (.istore_n 2, 1) := by decide +kernel
theorem dX4_find_25 : decode cX4_find 25 = .ok (.iload_n 2, 1) := by decide +kernel
theorem dX4_find_26 : decode cX4_find 26 = .ok (.aload_n 1, 1) := by decide +kernel
theorem dX4_find_27 : decode cX4_find 27 = .ok (.invokevirtual 15, 3) := by decide +kernel
theorem dX4_find_30 : decode cX4_find 30 = .ok (.if_icmp .ge 30, 3) := by decide +kernel
theorem dX4_find_33 : decode cX4_find 33 = .ok (.aload_n 1, 1) := by decide +kernel
theorem dX4_find_34 : decode cX4_find 34 = .ok (.iload_n 2, 1) := by decide +kernel
theorem dX4_find_35 : decode cX4_find 35 = .ok (.invokevirtual 21, 3) := by decide +kernel
theorem dX4_find_38 : decode cX4_find 38 = .ok (.invokestatic 25, 3) := by decide +kernel
theorem dX4_find_41 : decode cX4_find 41 = .ok (.iconst 2, 1) := by decide +kernel
theorem dX4_find_42 : decode cX4_find 42 = .ok (.if_icmp .ne 12, 3) := by decide +kernel
theorem dX4_find_45 : decode cX4_find 45 = .ok (.aload_n 0, 1) := by decide +kernel
theorem dX4_find_46 : decode cX4_find 46 = .ok (.aload_n 1, 1) := by decide +kernel
theorem dX4_find_47 : decode cX4_find 47 = .ok (.iload_n 2, 1) := by decide +kernel
theorem dX4_find_48 : decode cX4_find 48 = .ok (.invokevirtual 21, 3) := by decide +kernel
theorem dX4_find_51 : decode cX4_find 51 = .ok (.invokevirtual 30, 3) := by decide +kernel
theorem dX4_find_54 : decode cX4_find 54 = .ok (.iinc 2 1, 3) := by decide +kernel
theorem dX4_find_57 : decode cX4_find 57 = .ok (.goto (-32), 3) := by decide +kernel
theorem dX4_find_60 : decode cX4_find 60 = .ok (.iconst 0, 1) := by decide +kernel
theorem dX4_find_61 : decode cX4_find 61 = .ok (.istore_n 2, 1) := by decide +kernel
theorem dX4_find_62 : decode cX4_find 62 = .ok (.iload_n 2, 1) := by decide +kernel
theorem dX4_find_63 : decode cX4_find 63 = .ok (.bipush 20, 2) := by decide +kernel
theorem dX4_find_65 : decode cX4_find 65 = .ok (.if_icmp .ge 51, 3) := by decide +kernel
theorem dX4_find_68 : decode cX4_find 68 = .ok (.iconst 0, 1) := by decide +kernel
theorem dX4_find_69 : decode cX4_find 69 = .ok (.istore_n 3, 1) := by decide +kernel
theorem dX4_find_70 : decode cX4_find 70 = .ok (.iload_n 3, 1) := by decide +kernel
theorem dX4_find_71 : decode cX4_find 71 = .ok (.bipush 20, 2) := by decide +kernel
theorem dX4_find_73 : decode cX4_find 73 = .ok (.if_icmp .ge 37, 3) := by decide +kernel
theorem dX4_find_76 : decode cX4_find 76 = .ok (.aload_n 0, 1) := by decide +kernel
theorem dX4_find_77 : decode cX4_find 77 = .ok (.getfield 9, 3) := by decide +kernel
theorem dX4_find_80 : decode cX4_find 80 = .ok (.iload_n 3, 1) := by decide +kernel
theorem dX4_find_81 : decode cX4_find 81 = .ok (.iaload, 1) := by decide +kernel
theorem dX4_find_82 : decode cX4_find 82 = .ok (.iload_n 2, 1) := by decide +kernel
theorem dX4_find_83 : decode cX4_find 83 = .ok (.invokestatic 34, 3) := by decide +kernel
theorem dX4_find_86 : decode cX4_find 86 = .ok (.ifCond .eq 18, 3) := by decide +kernel
theorem dX4_find_89 : decode cX4_find 89 = .ok (.aload_n 0, 1) := by decide +kernel
theorem dX4_find_90 : decode cX4_find 90 = .ok (.getfield 9, 3) := by decide +kernel
theorem dX4_find_93 : decode cX4_find 93 = .ok (.iload_n 3, 1) := by decide +kernel
theorem dX4_find_94 : decode cX4_find 94 = .ok (.dup2, 1) := by decide +kernel
theorem dX4_find_95 : decode cX4_find 95 = .ok (.iaload, 1) := by decide +kernel
theorem dX4_find_96 : decode cX4_find 96 = .ok (.aload_n 0, 1) := by decide +kernel
theorem dX4_find_97 : decode cX4_find 97 = .ok (.getfield 9, 3) := by decide +kernel
theorem dX4_find_100 : decode cX4_find 100 = .ok (.iload_n 2, 1) := by decide +kernel
theorem dX4_find_101 : decode cX4_find 101 = .ok (.iaload, 1) := by decide +kernel
theorem dX4_find_102 : decode cX4_find 102 = .ok (.ior, 1) := by decide +kernel
theorem dX4_find_103 : decode cX4_find 103 = .ok (.iastore, 1) := by decide +kernel
theorem dX4_find_104 : decode cX4_find 104 = .ok (.iinc 3 1, 3) := by decide +kernel
theorem dX4_find_107 : decode cX4_find 107 = .ok (.goto (-37), 3) := by decide +kernel
theorem dX4_find_110 : decode cX4_find 110 = .ok (.iinc 2 1, 3) := by decide +kernel
theorem dX4_find_113 : decode cX4_find 113 = .ok (.goto (-51), 3) := by decide +kernel
theorem dX4_find_116 : decode cX4_find 116 = .ok (.return_, 1) := by decide +kernel
abbrev mtX4_find : mj_T := (yX4_find.cls, cX4_find, 4, none, mj_no, yX4_find.name)
abbrev kX4_find (k0 : Nat) (k1 : Nat) (g : mj_S) (M : mj_M) (q : mj_M → Prop) : Prop := mj_CV yX4_find (.code yX4_find cX4_find 4 none) 2 [.ref (k0), .ref (k1)] g M q
theorem kiX4_find : mj_cV yX4_find cX4_find 4 none 1 := ⟨⟨wd_588, wd_589, wd_11, wd_590⟩, ⟨by decide +kernel, by decide +kernel, by decide +kernel⟩, Nat.le_of_ble_eq_true rfl⟩
def LX4_find_2 (k0 : Nat) (k1 n1 : Nat) (x2 : Int32) (g : mj_S) (M : mj_M) (q : mj_M → Prop) : Prop := ∀ d, 2 ≤ d → ∀ ex : Bool, mj_G mtX4_find (mj_rm d 0 0) (mj_Fi (mj_qV g q) mj_x0 0 0) ex 0 0 2 [(0, .ref (k0)), (1, .ref (k1)), (2, .int (x2))] [] g M
def LX4_find_25 (k0 : Nat) (k1 n1 : Nat) (x2 : Int32) (g : mj_S) (M : mj_M) (q : mj_M → Prop) : Prop := ∀ d, 2 ≤ d → ∀ ex : Bool, mj_G mtX4_find (mj_rm d 0 0) (mj_Fi (mj_qV g q) mj_x0 0 0) ex 0 0 25 [(0, .ref (k0)), (1, .ref (k1)), (2, .int (x2))] [] g M
def LX4_find_62 (k0 : Nat) (k1 n1 : Nat) (x2 : Int32) (g : mj_S) (M : mj_M) (q : mj_M → Prop) : Prop := ∀ d, 2 ≤ d → ∀ ex : Bool, mj_G mtX4_find (mj_rm d 0 0) (mj_Fi (mj_qV g q) mj_x0 0 0) ex 0 0 62 [(0, .ref (k0)), (2, .int (x2))] [] g M
def LX4_find_70 (k0 : Nat) (k1 n1 : Nat) (x2 : Int32) (x3 : Int32) (g : mj_S) (M : mj_M) (q : mj_M → Prop) : Prop := ∀ d, 2 ≤ d → ∀ ex : Bool, mj_G mtX4_find (mj_rm d 0 0) (mj_Fi (mj_qV g q) mj_x0 0 0) ex 0 0 70 [(0, .ref (k0)), (2, .int (x2)), (3, .int (x3))] [] g M
theorem eX4_find {k0 : Nat} {k1 n1 : Nat} {g : mj_S} {M : mj_M} {q : mj_M → Prop} (h0 : is4 g k0) (h1 : is0 g k1 n1) (h : LX4_find_2 k0 k1 n1 (0) g (M) q) : kX4_find (k0) (k1) g M q := by
  intro d hd; refine mj_enter (by decide +kernel) (Nat.le_of_ble_eq_true rfl) ?_
  generalize (false : Bool) = ex
  show mj_G mtX4_find (mj_rm d 0 0) (mj_Fi (mj_qV g q) mj_x0 0 0) ex 0 0 0 [(0, .ref (k0)), (1, .ref (k1))] [] g M
  refine mg_iconst (v := 0) dX4_find_0 (by decide) ?_
  refine mg_istore_n (ls' := [(2, .int (0)), (0, .ref (k0)), (1, .ref (k1))]) dX4_find_1 rfl (Nat.le_of_ble_eq_true rfl) rfl ?_
  exact mg_pick [1, 2, 0] rfl (h d hd ex)
theorem bX4_find_2 {k0 : Nat} {k1 n1 : Nat} {x2 : Int32} {g : mj_S} {M : mj_M} {q : mj_M → Prop} (h0 : is4 g k0) (h1 : is0 g k1 n1) (h : ((20 : Int32) ≤ (x2) → LX4_find_25 k0 k1 n1 (0) g (M) q) ∧ (¬ (20 : Int32) ≤ (x2) → vp_in (x2) (20) ∧ (LX4_find_2 k0 k1 n1 (x2 + 1) g (mj_wI (M) (k0 + 1) (Int32.toNatClampNeg (x2)) ((1 : Int32) <<< ((x2) &&& 31))) q))) : LX4_find_2 k0 k1 n1 x2 g M q := by
  intro d hd ex
  refine mg_iload_n dX4_find_2 rfl 2 rfl ?_
  refine mg_bipush (v := 20) dX4_find_3 (by decide) ?_
  refine mg_icmp_ge (tgt := 23) dX4_find_5 (by decide) (fun hc => ?_) (fun hc => ?_)
  · replace h := h.1 hc
    refine mg_iconst (v := 0) dX4_find_23 (by decide) ?_
    refine mg_istore_n (ls' := [(2, .int (0)), (0, .ref (k0)), (1, .ref (k1))]) dX4_find_24 rfl (Nat.le_of_ble_eq_true rfl) rfl ?_
    exact mg_pick [1, 2, 0] rfl (h d hd ex)
  · replace h := h.2 hc
    refine mg_aload_n dX4_find_8 rfl 0 rfl ?_
    refine mg_getR (j := 0) dX4_find_9 kc_4 (Nat.le_of_ble_eq_true rfl) wd_214 rfl rfl h0.1.1 h0.1.2 h0.2.1 ?_
    refine mg_iload_n dX4_find_12 rfl 2 rfl ?_
    refine mg_iconst (v := 1) dX4_find_13 (by decide) ?_
    refine mg_iload_n dX4_find_14 rfl 2 rfl ?_
    refine mg_ishl dX4_find_15 ?_
    refine mg_iast dX4_find_16 h0.2.2.1 h0.2.2.2 h.1 ?_
    replace h := h.2
    refine mg_iinc (v := x2 + 1) (ls' := [(2, .int (x2 + 1)), (0, .ref (k0)), (1, .ref (k1))]) dX4_find_17 2 rfl rfl (Nat.le_of_ble_eq_true rfl) rfl ?_
    refine mg_goto (tgt := 2) dX4_find_20 (by decide) ?_
    exact mg_pick [1, 2, 0] rfl (h d hd ex)
theorem bX4_find_25 {k0 : Nat} {k1 n1 : Nat} {x2 : Int32} {g : mj_S} {M : mj_M} {q : mj_M → Prop} (h0 : is4 g k0) (h1 : is0 g k1 n1) (h : ∃ (q1 : Int32 → mj_M → Prop), kX0_size (k1) g (M) q1 ∧ ∀ (v1 : Int32) (M1 : mj_M), q1 v1 M1 → (((v1 : Int32) ≤ (x2) → LX4_find_62 k0 k1 n1 (0) g (M1) q) ∧ (¬ (v1 : Int32) ≤ (x2) → ∃ (q2 : Int32 → mj_M → Prop), kX0_at (k1) (x2) g (M1) q2 ∧ ∀ (v2 : Int32) (M2 : mj_M), q2 v2 M2 → (∃ (q3 : Int32 → mj_M → Prop), kJ6_bitCount_0f7a4 (v2) g (M2) q3 ∧ ∀ (v3 : Int32) (M3 : mj_M), q3 v3 M3 → ((¬ (v3 : Int32) = (2 : Int32) → LX4_find_25 k0 k1 n1 (x2 + 1) g (M3) q) ∧ ((v3 : Int32) = (2 : Int32) → ∃ (q4 : Int32 → mj_M → Prop), kX0_at (k1) (x2) g (M3) q4 ∧ ∀ (v4 : Int32) (M4 : mj_M), q4 v4 M4 → (∃ (q5 : mj_M → Prop), kX4_addImplications (k0) (v4) g (M4) q5 ∧ ∀ (M5 : mj_M), q5 M5 → (LX4_find_25 k0 k1 n1 (x2 + 1) g (M5) q)))))))) : LX4_find_25 k0 k1 n1 x2 g M q := by
  intro d hd ex
  refine mg_iload_n dX4_find_25 rfl 2 rfl ?_
  refine mg_aload_n dX4_find_26 rfl 1 rfl ?_
  obtain ⟨q1, hC, hk⟩ := h
  refine mc_Vi [] [.int (x2)] dX4_find_27 wd_591 kiX0_size (Nat.le_of_ble_eq_true rfl) h1.1.1 h1.1.2 rfl (Nat.le_trans (Nat.le_of_ble_eq_true rfl) hd) hC (fun v1 M1 hq => ?_)
  replace h := hk v1 M1 hq
  refine mg_icmp_ge (tgt := 60) dX4_find_30 (by decide) (fun hc => ?_) (fun hc => ?_)
  · replace h := h.1 hc
    refine mg_iconst (v := 0) dX4_find_60 (by decide) ?_
    refine mg_istore_n (ls' := [(2, .int (0)), (0, .ref (k0)), (1, .ref (k1))]) dX4_find_61 rfl (Nat.le_of_ble_eq_true rfl) rfl ?_
    exact mg_pick [1, 0] rfl (h d hd ex)
  · replace h := h.2 hc
    refine mg_aload_n dX4_find_33 rfl 1 rfl ?_
    refine mg_iload_n dX4_find_34 rfl 2 rfl ?_
    obtain ⟨q2, hC, hk⟩ := h
    refine mc_Vi [.int (x2)] [] dX4_find_35 wd_592 kiX0_at (Nat.le_of_ble_eq_true rfl) h1.1.1 h1.1.2 rfl (Nat.le_trans (Nat.le_of_ble_eq_true rfl) hd) hC (fun v2 M2 hq => ?_)
    replace h := hk v2 M2 hq
    obtain ⟨q3, hC, hk⟩ := h
    refine mc_Si [.int (v2)] [] dX4_find_38 wd_593 kiJ6_bitCount_0f7a4 (Nat.le_of_ble_eq_true rfl) (Nat.le_trans (Nat.le_of_ble_eq_true rfl) hd) hC (fun v3 M3 hq => ?_)
    replace h := hk v3 M3 hq
    refine mg_iconst (v := 2) dX4_find_41 (by decide) ?_
    refine mg_icmp_ne (tgt := 54) dX4_find_42 (by decide) (fun hc => ?_) (fun hc => ?_)
    · replace h := h.1 hc
      refine mg_iinc (v := x2 + 1) (ls' := [(2, .int (x2 + 1)), (0, .ref (k0)), (1, .ref (k1))]) dX4_find_54 2 rfl rfl (Nat.le_of_ble_eq_true rfl) rfl ?_
      refine mg_goto (tgt := 25) dX4_find_57 (by decide) ?_
      exact mg_pick [1, 2, 0] rfl (h d hd ex)
    · replace h := h.2 hc
      refine mg_aload_n dX4_find_45 rfl 0 rfl ?_
      refine mg_aload_n dX4_find_46 rfl 1 rfl ?_
      refine mg_iload_n dX4_find_47 rfl 2 rfl ?_
      obtain ⟨q4, hC, hk⟩ := h
      refine mc_Vi [.int (x2)] [.ref (k0)] dX4_find_48 wd_592 kiX0_at (Nat.le_of_ble_eq_true rfl) h1.1.1 h1.1.2 rfl (Nat.le_trans (Nat.le_of_ble_eq_true rfl) hd) hC (fun v4 M4 hq => ?_)
      replace h := hk v4 M4 hq
      obtain ⟨q5, hC, hk⟩ := h
      refine mc_Vv [.int (v4)] [] dX4_find_51 wd_594 kiX4_addImplications (Nat.le_of_ble_eq_true rfl) h0.1.1 h0.1.2 rfl (Nat.le_trans (Nat.le_of_ble_eq_true rfl) hd) hC (fun M5 hq => ?_)
      replace h := hk M5 hq
      refine mg_iinc (v := x2 + 1) (ls' := [(2, .int (x2 + 1)), (0, .ref (k0)), (1, .ref (k1))]) dX4_find_54 2 rfl rfl (Nat.le_of_ble_eq_true rfl) rfl ?_
      refine mg_goto (tgt := 25) dX4_find_57 (by decide) ?_
      exact mg_pick [1, 2, 0] rfl (h d hd ex)
theorem bX4_find_62 {k0 : Nat} {k1 n1 : Nat} {x2 : Int32} {g : mj_S} {M : mj_M} {q : mj_M → Prop} (h0 : is4 g k0) (h1 : is0 g k1 n1) (h : ((20 : Int32) ≤ (x2) → q (M)) ∧ (¬ (20 : Int32) ≤ (x2) → LX4_find_70 k0 k1 n1 (x2) (0) g (M) q)) : LX4_find_62 k0 k1 n1 x2 g M q := by
  intro d hd ex
  refine mg_iload_n dX4_find_62 rfl 1 rfl ?_
  refine mg_bipush (v := 20) dX4_find_63 (by decide) ?_
  refine mg_icmp_ge (tgt := 116) dX4_find_65 (by decide) (fun hc => ?_) (fun hc => ?_)
  · replace h := h.1 hc
    exact me_v dX4_find_116 rfl h
  · replace h := h.2 hc
    refine mg_iconst (v := 0) dX4_find_68 (by decide) ?_
    refine mg_istore_n (ls' := [(3, .int (0)), (0, .ref (k0)), (2, .int (x2))]) dX4_find_69 rfl (Nat.le_of_ble_eq_true rfl) rfl ?_
    exact mg_pick [1, 2, 0] rfl (h d hd ex)
theorem bX4_find_70 {k0 : Nat} {k1 n1 : Nat} {x2 : Int32} {x3 : Int32} {g : mj_S} {M : mj_M} {q : mj_M → Prop} (h0 : is4 g k0) (h1 : is0 g k1 n1) (h : ((20 : Int32) ≤ (x3) → LX4_find_62 k0 k1 n1 (x2 + 1) g (M) q) ∧ (¬ (20 : Int32) ≤ (x3) → vp_in (x3) (20) ∧ (∃ (q1 : Int32 → mj_M → Prop), kX9_contains ((M).1 (k0 + 1) (Int32.toNatClampNeg (x3))) (x2) g (M) q1 ∧ ∀ (v1 : Int32) (M1 : mj_M), q1 v1 M1 → (((v1 : Int32) = 0 → LX4_find_70 k0 k1 n1 (x2) (x3 + 1) g (M1) q) ∧ (¬ (v1 : Int32) = 0 → vp_in (x3) (20) ∧ (vp_in (x2) (20) ∧ (vp_in (x3) (20) ∧ (LX4_find_70 k0 k1 n1 (x2) (x3 + 1) g (mj_wI (M1) (k0 + 1) (Int32.toNatClampNeg (x3)) (((M1).1 (k0 + 1) (Int32.toNatClampNeg (x3))) ||| ((M1).1 (k0 + 1) (Int32.toNatClampNeg (x2))))) q)))))))) : LX4_find_70 k0 k1 n1 x2 x3 g M q := by
  intro d hd ex
  refine mg_iload_n dX4_find_70 rfl 2 rfl ?_
  refine mg_bipush (v := 20) dX4_find_71 (by decide) ?_
  refine mg_icmp_ge (tgt := 110) dX4_find_73 (by decide) (fun hc => ?_) (fun hc => ?_)
  · replace h := h.1 hc
    refine mg_iinc (v := x2 + 1) (ls' := [(2, .int (x2 + 1)), (0, .ref (k0)), (3, .int (x3))]) dX4_find_110 1 rfl rfl (Nat.le_of_ble_eq_true rfl) rfl ?_
    refine mg_goto (tgt := 62) dX4_find_113 (by decide) ?_
    exact mg_pick [1, 0] rfl (h d hd ex)
  · replace h := h.2 hc
    refine mg_aload_n dX4_find_76 rfl 0 rfl ?_
    refine mg_getR (j := 0) dX4_find_77 kc_4 (Nat.le_of_ble_eq_true rfl) wd_214 rfl rfl h0.1.1 h0.1.2 h0.2.1 ?_
    refine mg_iload_n dX4_find_80 rfl 2 rfl ?_
    refine mg_iald dX4_find_81 h0.2.2.1 h0.2.2.2 h.1 rfl ?_
    replace h := h.2
    refine mg_iload_n dX4_find_82 rfl 1 rfl ?_
    obtain ⟨q1, hC, hk⟩ := h
    refine mc_Ni [.int ((M).1 (k0 + 1) (Int32.toNatClampNeg (x3))), .int (x2)] [] 16 dX4_find_83 rfl kiX9_contains (Nat.le_of_ble_eq_true rfl) (Nat.le_trans (Nat.le_of_ble_eq_true rfl) hd) hC (fun v1 M1 hq => ?_)
    replace h := hk v1 M1 hq
    refine mg_if_eq (tgt := 104) dX4_find_86 (by decide) (fun hc => ?_) (fun hc => ?_)
    · replace h := h.1 hc
      refine mg_iinc (v := x3 + 1) (ls' := [(3, .int (x3 + 1)), (0, .ref (k0)), (2, .int (x2))]) dX4_find_104 2 rfl rfl (Nat.le_of_ble_eq_true rfl) rfl ?_
      refine mg_goto (tgt := 70) dX4_find_107 (by decide) ?_
      exact mg_pick [1, 2, 0] rfl (h d hd ex)
    · replace h := h.2 hc
      refine mg_aload_n dX4_find_89 rfl 0 rfl ?_
      refine mg_getR (j := 0) dX4_find_90 kc_4 (Nat.le_of_ble_eq_true rfl) wd_214 rfl rfl h0.1.1 h0.1.2 h0.2.1 ?_
      refine mg_iload_n dX4_find_93 rfl 2 rfl ?_
      refine mg_dup2 dX4_find_94 rfl rfl ?_
      refine mg_iald dX4_find_95 h0.2.2.1 h0.2.2.2 h.1 rfl ?_
      replace h := h.2
      refine mg_aload_n dX4_find_96 rfl 0 rfl ?_
      refine mg_getR (j := 0) dX4_find_97 kc_4 (Nat.le_of_ble_eq_true rfl) wd_214 rfl rfl h0.1.1 h0.1.2 h0.2.1 ?_
      refine mg_iload_n dX4_find_100 rfl 1 rfl ?_
      refine mg_iald dX4_find_101 h0.2.2.1 h0.2.2.2 h.1 rfl ?_
      replace h := h.2
      refine mg_ior dX4_find_102 ?_
      refine mg_iast dX4_find_103 h0.2.2.1 h0.2.2.2 h.1 ?_
      replace h := h.2
      refine mg_iinc (v := x3 + 1) (ls' := [(3, .int (x3 + 1)), (0, .ref (k0)), (2, .int (x2))]) dX4_find_104 2 rfl rfl (Nat.le_of_ble_eq_true rfl) rfl ?_
      refine mg_goto (tgt := 70) dX4_find_107 (by decide) ?_
      exact mg_pick [1, 2, 0] rfl (h d hd ex)
theorem dX4_leads_0 : decode cX4_leads 0 = .ok (.iload_n 1, 1) := by decide +kernel
theorem dX4_leads_1 : decode cX4_leads 1 = .ok (.ifCond .lt 26, 3) := by decide +kernel
theorem dX4_leads_4 : decode cX4_leads 4 = .ok (.iload_n 1, 1) := by decide +kernel
theorem dX4_leads_5 : decode cX4_leads 5 = .ok (.bipush 20, 2) := by decide +kernel
theorem dX4_leads_7 : decode cX4_leads 7 = .ok (.if_icmp .ge 20, 3) := by decide +kernel
theorem dX4_leads_10 : decode cX4_leads 10 = .ok (.aload_n 0, 1) := by decide +kernel
theorem dX4_leads_11 : decode cX4_leads 11 = .ok (.getfield 9, 3) := by decide +kernel
theorem dX4_leads_14 : decode cX4_leads 14 = .ok (.iload_n 1, 1) := by decide +kernel
theorem dX4_leads_15 : decode cX4_leads 15 = .ok (.iaload, 1) := by decide +kernel
theorem dX4_leads_16 : decode cX4_leads 16 = .ok (.iload_n 2, 1) := by decide +kernel
theorem dX4_leads_17 : decode cX4_leads 17 = .ok (.ishr, 1) := by decide +kernel
theorem dX4_leads_18 : decode cX4_leads 18 = .ok (.iconst 1, 1) := by decide +kernel
theorem dX4_leads_19 : decode cX4_leads 19 = .ok (.iand, 1) := by decide +kernel
theorem dX4_leads_20 : decode cX4_leads 20 = .ok (.ifCond .eq 7, 3) := by decide +kernel
theorem dX4_leads_23 : decode cX4_leads 23 = .ok (.iconst 1, 1) := by decide +kernel
theorem dX4_leads_24 : decode cX4_leads 24 = .ok (.goto 4, 3) := by decide +kernel
theorem dX4_leads_27 : decode cX4_leads 27 = .ok (.iconst 0, 1) := by decide +kernel
theorem dX4_leads_28 : decode cX4_leads 28 = .ok (.ireturn, 1) := by decide +kernel
abbrev mtX4_leads : mj_T := (yX4_leads.cls, cX4_leads, 3, (some .boolean), mj_no, yX4_leads.name)
abbrev kX4_leads (k0 : Nat) (x1 : Int32) (x2 : Int32) (g : mj_S) (M : mj_M) (q : Int32 → mj_M → Prop) : Prop := mj_CI yX4_leads (.code yX4_leads cX4_leads 3 (some .boolean)) 0 [.ref (k0), .int (x1), .int (x2)] g M q
theorem kiX4_leads : mj_cV yX4_leads cX4_leads 3 (some .boolean) 2 := ⟨⟨wd_604, wd_605, wd_11, wd_606⟩, ⟨by decide +kernel, by decide +kernel, by decide +kernel⟩, Nat.le_of_ble_eq_true rfl⟩
theorem eX4_leads {k0 : Nat} {x1 : Int32} {x2 : Int32} {g : mj_S} {M : mj_M} {q : Int32 → mj_M → Prop} (h0 : is4 g k0) (h : ((x1 : Int32) < 0 → q 0 (M)) ∧ (¬ (x1 : Int32) < 0 → ((20 : Int32) ≤ (x1) → q 0 (M)) ∧ (¬ (20 : Int32) ≤ (x1) → vp_in (x1) (20) ∧ ((((((M).1 (k0 + 1) (Int32.toNatClampNeg (x1))) >>> ((x2) &&& 31)) &&& (1 : Int32) : Int32) = 0 → q 0 (M)) ∧ (¬ ((((M).1 (k0 + 1) (Int32.toNatClampNeg (x1))) >>> ((x2) &&& 31)) &&& (1 : Int32) : Int32) = 0 → q 1 (M)))))) : kX4_leads (k0) (x1) (x2) g M q := by
  intro d hd; refine mj_enter (by decide +kernel) (Nat.le_of_ble_eq_true rfl) ?_
  generalize (false : Bool) = ex
  show mj_G mtX4_leads (mj_rm d 0 0) (mj_Fi (mj_qI g q) mj_x0 0 0) ex 0 0 0 [(0, .ref (k0)), (1, .int (x1)), (2, .int (x2))] [] g M
  refine mg_iload_n dX4_leads_0 rfl 1 rfl ?_
  refine mg_if_lt (tgt := 27) dX4_leads_1 (by decide) (fun hc => ?_) (fun hc => ?_)
  · replace h := h.1 hc
    refine mg_iconst (v := 0) dX4_leads_27 (by decide) ?_
    exact me_z dX4_leads_28 rfl (Or.inl rfl) h
  · replace h := h.2 hc
    refine mg_iload_n dX4_leads_4 rfl 1 rfl ?_
    refine mg_bipush (v := 20) dX4_leads_5 (by decide) ?_
    refine mg_icmp_ge (tgt := 27) dX4_leads_7 (by decide) (fun hc => ?_) (fun hc => ?_)
    · replace h := h.1 hc
      refine mg_iconst (v := 0) dX4_leads_27 (by decide) ?_
      exact me_z dX4_leads_28 rfl (Or.inl rfl) h
    · replace h := h.2 hc
      refine mg_aload_n dX4_leads_10 rfl 0 rfl ?_
      refine mg_getR (j := 0) dX4_leads_11 kc_4 (Nat.le_of_ble_eq_true rfl) wd_214 rfl rfl h0.1.1 h0.1.2 h0.2.1 ?_
      refine mg_iload_n dX4_leads_14 rfl 1 rfl ?_
      refine mg_iald dX4_leads_15 h0.2.2.1 h0.2.2.2 h.1 rfl ?_
      replace h := h.2
      refine mg_iload_n dX4_leads_16 rfl 2 rfl ?_
      refine mg_ishr dX4_leads_17 ?_
      refine mg_iconst (v := 1) dX4_leads_18 (by decide) ?_
      refine mg_iand dX4_leads_19 ?_
      refine mg_if_eq (tgt := 27) dX4_leads_20 (by decide) (fun hc => ?_) (fun hc => ?_)
      · replace h := h.1 hc
        refine mg_iconst (v := 0) dX4_leads_27 (by decide) ?_
        exact me_z dX4_leads_28 rfl (Or.inl rfl) h
      · replace h := h.2 hc
        refine mg_iconst (v := 1) dX4_leads_23 (by decide) ?_
        refine mg_goto (tgt := 28) dX4_leads_24 (by decide) ?_
        exact me_z dX4_leads_28 rfl (Or.inr rfl) h
theorem dX4_lowestEquivalent_0 : decode cX4_lowestEquivalent 0 = .ok (.iconst 0, 1) := by decide +kernel
theorem dX4_lowestEquivalent_1 : decode cX4_lowestEquivalent 1 = .ok (.istore_n 2, 1) := by decide +kernel
theorem dX4_lowestEquivalent_2 : decode cX4_lowestEquivalent 2 = .ok (.iload_n 2, 1) := by decide +kernel
theorem dX4_lowestEquivalent_3 : decode cX4_lowestEquivalent 3 = .ok (.iload_n 1, 1) := by decide +kernel
theorem dX4_lowestEquivalent_4 : decode cX4_lowestEquivalent 4 = .ok (.if_icmp .ge 29, 3) := by decide +kernel
theorem dX4_lowestEquivalent_7 : decode cX4_lowestEquivalent 7 = .ok (.aload_n 0, 1) := by decide +kernel
theorem dX4_lowestEquivalent_8 : decode cX4_lowestEquivalent 8 = .ok (.iload_n 1, 1) := by decide +kernel
theorem dX4_lowestEquivalent_9 : decode cX4_lowestEquivalent 9 = .ok (.iload_n 2, 1) := by decide +kernel
theorem dX4_lowestEquivalent_10 : decode cX4_lowestEquivalent 10 = .ok (.invokevirtual 38, 3) := by decide +kernel
theorem dX4_lowestEquivalent_13 : decode cX4_lowestEquivalent 13 = .ok (.ifCond .eq 14, 3) := by decide +kernel
theorem dX4_lowestEquivalent_16 : decode cX4_lowestEquivalent 16 = .ok (.aload_n 0, 1) := by decide +kernel
theorem dX4_lowestEquivalent_17 : decode cX4_lowestEquivalent 17 = .ok (.iload_n 2, 1) := by decide +kernel
theorem dX4_lowestEquivalent_18 : decode cX4_lowestEquivalent 18 = .ok (.iload_n 1, 1) := by decide +kernel
theorem dX4_lowestEquivalent_19 : decode cX4_lowestEquivalent 19 = .ok (.invokevirtual 38, 3) := by decide +kernel
theorem dX4_lowestEquivalent_22 : decode cX4_lowestEquivalent 22 = .ok (.ifCond .eq 5, 3) := by decide +kernel
theorem dX4_lowestEquivalent_25 : decode cX4_lowestEquivalent 25 = .ok (.iload_n 2, 1) := by decide +kernel
theorem dX4_lowestEquivalent_26 : decode cX4_lowestEquivalent 26 = .ok (.ireturn, 1) := by decide +kernel
theorem dX4_lowestEquivalent_27 : decode cX4_lowestEquivalent 27 = .ok (.iinc 2 1, 3) := by decide +kernel
theorem dX4_lowestEquivalent_30 : decode cX4_lowestEquivalent 30 = .ok (.goto (-28), 3) := by decide +kernel
theorem dX4_lowestEquivalent_33 : decode cX4_lowestEquivalent 33 = .ok (.iload_n 1, 1) := by decide +kernel
theorem dX4_lowestEquivalent_34 : decode cX4_lowestEquivalent 34 = .ok (.ireturn, 1) := by decide +kernel
abbrev mtX4_lowestEquivalent : mj_T := (yX4_lowestEquivalent.cls, cX4_lowestEquivalent, 3, (some .int), mj_no, yX4_lowestEquivalent.name)
abbrev kX4_lowestEquivalent (k0 : Nat) (x1 : Int32) (g : mj_S) (M : mj_M) (q : Int32 → mj_M → Prop) : Prop := mj_CI yX4_lowestEquivalent (.code yX4_lowestEquivalent cX4_lowestEquivalent 3 (some .int)) 1 [.ref (k0), .int (x1)] g M q
theorem kiX4_lowestEquivalent : mj_cV yX4_lowestEquivalent cX4_lowestEquivalent 3 (some .int) 1 := ⟨⟨wd_608, wd_609, wd_11, wd_610⟩, ⟨by decide +kernel, by decide +kernel, by decide +kernel⟩, Nat.le_of_ble_eq_true rfl⟩
def LX4_lowestEquivalent_2 (k0 : Nat) (x1 : Int32) (x2 : Int32) (g : mj_S) (M : mj_M) (q : Int32 → mj_M → Prop) : Prop := ∀ d, 1 ≤ d → ∀ ex : Bool, mj_G mtX4_lowestEquivalent (mj_rm d 0 0) (mj_Fi (mj_qI g q) mj_x0 0 0) ex 0 0 2 [(0, .ref (k0)), (1, .int (x1)), (2, .int (x2))] [] g M
theorem eX4_lowestEquivalent {k0 : Nat} {x1 : Int32} {g : mj_S} {M : mj_M} {q : Int32 → mj_M → Prop} (h0 : is4 g k0) (h : LX4_lowestEquivalent_2 k0 (x1) (0) g (M) q) : kX4_lowestEquivalent (k0) (x1) g M q := by
  intro d hd; refine mj_enter (by decide +kernel) (Nat.le_of_ble_eq_true rfl) ?_
  generalize (false : Bool) = ex
  show mj_G mtX4_lowestEquivalent (mj_rm d 0 0) (mj_Fi (mj_qI g q) mj_x0 0 0) ex 0 0 0 [(0, .ref (k0)), (1, .int (x1))] [] g M
  refine mg_iconst (v := 0) dX4_lowestEquivalent_0 (by decide) ?_
  refine mg_istore_n (ls' := [(2, .int (0)), (0, .ref (k0)), (1, .int (x1))]) dX4_lowestEquivalent_1 rfl (Nat.le_of_ble_eq_true rfl) rfl ?_
  exact mg_pick [1, 2, 0] rfl (h d hd ex)
theorem bX4_lowestEquivalent_2 {k0 : Nat} {x1 : Int32} {x2 : Int32} {g : mj_S} {M : mj_M} {q : Int32 → mj_M → Prop} (h0 : is4 g k0) (h : ((x1 : Int32) ≤ (x2) → q (x1) (M)) ∧ (¬ (x1 : Int32) ≤ (x2) → ∃ (q1 : Int32 → mj_M → Prop), kX4_leads (k0) (x1) (x2) g (M) q1 ∧ ∀ (v1 : Int32) (M1 : mj_M), q1 v1 M1 → (((v1 : Int32) = 0 → LX4_lowestEquivalent_2 k0 (x1) (x2 + 1) g (M1) q) ∧ (¬ (v1 : Int32) = 0 → ∃ (q2 : Int32 → mj_M → Prop), kX4_leads (k0) (x2) (x1) g (M1) q2 ∧ ∀ (v2 : Int32) (M2 : mj_M), q2 v2 M2 → (((v2 : Int32) = 0 → LX4_lowestEquivalent_2 k0 (x1) (x2 + 1) g (M2) q) ∧ (¬ (v2 : Int32) = 0 → q (x2) (M2))))))) : LX4_lowestEquivalent_2 k0 x1 x2 g M q := by
  intro d hd ex
  refine mg_iload_n dX4_lowestEquivalent_2 rfl 2 rfl ?_
  refine mg_iload_n dX4_lowestEquivalent_3 rfl 1 rfl ?_
  refine mg_icmp_ge (tgt := 33) dX4_lowestEquivalent_4 (by decide) (fun hc => ?_) (fun hc => ?_)
  · replace h := h.1 hc
    refine mg_iload_n dX4_lowestEquivalent_33 rfl 1 rfl ?_
    exact me_i dX4_lowestEquivalent_34 rfl h
  · replace h := h.2 hc
    refine mg_aload_n dX4_lowestEquivalent_7 rfl 0 rfl ?_
    refine mg_iload_n dX4_lowestEquivalent_8 rfl 1 rfl ?_
    refine mg_iload_n dX4_lowestEquivalent_9 rfl 2 rfl ?_
    obtain ⟨q1, hC, hk⟩ := h
    refine mc_Vi [.int (x1), .int (x2)] [] dX4_lowestEquivalent_10 wd_611 kiX4_leads (Nat.le_of_ble_eq_true rfl) h0.1.1 h0.1.2 rfl (Nat.le_trans (Nat.le_of_ble_eq_true rfl) hd) hC (fun v1 M1 hq => ?_)
    replace h := hk v1 M1 hq
    refine mg_if_eq (tgt := 27) dX4_lowestEquivalent_13 (by decide) (fun hc => ?_) (fun hc => ?_)
    · replace h := h.1 hc
      refine mg_iinc (v := x2 + 1) (ls' := [(2, .int (x2 + 1)), (0, .ref (k0)), (1, .int (x1))]) dX4_lowestEquivalent_27 2 rfl rfl (Nat.le_of_ble_eq_true rfl) rfl ?_
      refine mg_goto (tgt := 2) dX4_lowestEquivalent_30 (by decide) ?_
      exact mg_pick [1, 2, 0] rfl (h d hd ex)
    · replace h := h.2 hc
      refine mg_aload_n dX4_lowestEquivalent_16 rfl 0 rfl ?_
      refine mg_iload_n dX4_lowestEquivalent_17 rfl 2 rfl ?_
      refine mg_iload_n dX4_lowestEquivalent_18 rfl 1 rfl ?_
      obtain ⟨q2, hC, hk⟩ := h
      refine mc_Vi [.int (x2), .int (x1)] [] dX4_lowestEquivalent_19 wd_611 kiX4_leads (Nat.le_of_ble_eq_true rfl) h0.1.1 h0.1.2 rfl (Nat.le_trans (Nat.le_of_ble_eq_true rfl) hd) hC (fun v2 M2 hq => ?_)
      replace h := hk v2 M2 hq
      refine mg_if_eq (tgt := 27) dX4_lowestEquivalent_22 (by decide) (fun hc => ?_) (fun hc => ?_)
      · replace h := h.1 hc
        refine mg_iinc (v := x2 + 1) (ls' := [(2, .int (x2 + 1)), (0, .ref (k0)), (1, .int (x1))]) dX4_lowestEquivalent_27 2 rfl rfl (Nat.le_of_ble_eq_true rfl) rfl ?_
        refine mg_goto (tgt := 2) dX4_lowestEquivalent_30 (by decide) ?_
        exact mg_pick [1, 2, 0] rfl (h d hd ex)
      · replace h := h.2 hc
        refine mg_iload_n dX4_lowestEquivalent_25 rfl 2 rfl ?_
        exact me_i dX4_lowestEquivalent_26 rfl h
theorem dX4_replaced_0 : decode cX4_replaced 0 = .ok (.iconst 0, 1) := by decide +kernel
theorem dX4_replaced_1 : decode cX4_replaced 1 = .ok (.istore_n 2, 1) := by decide +kernel
theorem dX4_replaced_2 : decode cX4_replaced 2 = .ok (.iconst 0, 1) := by decide +kernel
theorem dX4_replaced_3 : decode cX4_replaced 3 = .ok (.istore_n 3, 1) := by decide +kernel
theorem dX4_replaced_4 : decode cX4_replaced 4 = .ok (.iload_n 3, 1) := by decide +kernel
theorem dX4_replaced_5 : decode cX4_replaced 5 = .ok (.bipush 20, 2) := by decide +kernel
theorem dX4_replaced_7 : decode cX4_replaced 7 = .ok (.if_icmp .ge 27, 3) := by decide +kernel
theorem dX4_replaced_10 : decode cX4_replaced 10 = .ok (.iload_n 1, 1) := by decide +kernel
theorem dX4_replaced_11 : decode cX4_replaced 11 = .ok (.iload_n 3, 1) := by decide +kernel
theorem dX4_replaced_12 : decode cX4_replaced 12 = .ok (.invokestatic 34, 3) := by decide +kernel
theorem dX4_replaced_15 : decode cX4_replaced 15 = .ok (.ifCond .eq 13, 3) := by decide +kernel
theorem dX4_replaced_18 : decode cX4_replaced 18 = .ok (.iload_n 2, 1) := by decide +kernel
theorem dX4_replaced_19 : decode cX4_replaced 19 = .ok (.iconst 1, 1) := by decide +kernel
theorem dX4_replaced_20 : decode cX4_replaced 20 = .ok (.aload_n 0, 1) := by decide +kernel
theorem dX4_replaced_21 : decode cX4_replaced 21 = .ok (.iload_n 3, 1) := by decide +kernel
theorem dX4_replaced_22 : decode cX4_replaced 22 = .ok (.invokevirtual 41, 3) := by decide +kernel
theorem dX4_replaced_25 : decode cX4_replaced 25 = .ok (.ishl, 1) := by decide +kernel
theorem dX4_replaced_26 : decode cX4_replaced 26 = .ok (.ior, 1) := by decide +kernel
theorem dX4_replaced_27 : decode cX4_replaced 27 = .ok (.istore_n 2, 1) := by decide +kernel
theorem dX4_replaced_28 : decode cX4_replaced 28 = .ok (.iinc 3 1, 3) := by decide +kernel
theorem dX4_replaced_31 : decode cX4_replaced 31 = .ok (.goto (-27), 3) := by decide +kernel
theorem dX4_replaced_34 : decode cX4_replaced 34 = .ok (.iload_n 2, 1) := by decide +kernel
theorem dX4_replaced_35 : decode cX4_replaced 35 = .ok (.ireturn, 1) := by decide +kernel
abbrev mtX4_replaced : mj_T := (yX4_replaced.cls, cX4_replaced, 4, (some .int), mj_no, yX4_replaced.name)
abbrev kX4_replaced (k0 : Nat) (x1 : Int32) (g : mj_S) (M : mj_M) (q : Int32 → mj_M → Prop) : Prop := mj_CI yX4_replaced (.code yX4_replaced cX4_replaced 4 (some .int)) 2 [.ref (k0), .int (x1)] g M q
theorem kiX4_replaced : mj_cV yX4_replaced cX4_replaced 4 (some .int) 1 := ⟨⟨wd_620, wd_621, wd_11, wd_622⟩, ⟨by decide +kernel, by decide +kernel, by decide +kernel⟩, Nat.le_of_ble_eq_true rfl⟩
def LX4_replaced_4 (k0 : Nat) (x1 : Int32) (x2 : Int32) (x3 : Int32) (g : mj_S) (M : mj_M) (q : Int32 → mj_M → Prop) : Prop := ∀ d, 2 ≤ d → ∀ ex : Bool, mj_G mtX4_replaced (mj_rm d 0 0) (mj_Fi (mj_qI g q) mj_x0 0 0) ex 0 0 4 [(0, .ref (k0)), (1, .int (x1)), (2, .int (x2)), (3, .int (x3))] [] g M
theorem eX4_replaced {k0 : Nat} {x1 : Int32} {g : mj_S} {M : mj_M} {q : Int32 → mj_M → Prop} (h0 : is4 g k0) (h : LX4_replaced_4 k0 (x1) (0) (0) g (M) q) : kX4_replaced (k0) (x1) g M q := by
  intro d hd; refine mj_enter (by decide +kernel) (Nat.le_of_ble_eq_true rfl) ?_
  generalize (false : Bool) = ex
  show mj_G mtX4_replaced (mj_rm d 0 0) (mj_Fi (mj_qI g q) mj_x0 0 0) ex 0 0 0 [(0, .ref (k0)), (1, .int (x1))] [] g M
  refine mg_iconst (v := 0) dX4_replaced_0 (by decide) ?_
  refine mg_istore_n (ls' := [(2, .int (0)), (0, .ref (k0)), (1, .int (x1))]) dX4_replaced_1 rfl (Nat.le_of_ble_eq_true rfl) rfl ?_
  refine mg_iconst (v := 0) dX4_replaced_2 (by decide) ?_
  refine mg_istore_n (ls' := [(3, .int (0)), (2, .int (0)), (0, .ref (k0)), (1, .int (x1))]) dX4_replaced_3 rfl (Nat.le_of_ble_eq_true rfl) rfl ?_
  exact mg_pick [2, 3, 1, 0] rfl (h d hd ex)
theorem bX4_replaced_4 {k0 : Nat} {x1 : Int32} {x2 : Int32} {x3 : Int32} {g : mj_S} {M : mj_M} {q : Int32 → mj_M → Prop} (h0 : is4 g k0) (h : ((20 : Int32) ≤ (x3) → q (x2) (M)) ∧ (¬ (20 : Int32) ≤ (x3) → ∃ (q1 : Int32 → mj_M → Prop), kX9_contains (x1) (x3) g (M) q1 ∧ ∀ (v1 : Int32) (M1 : mj_M), q1 v1 M1 → (((v1 : Int32) = 0 → LX4_replaced_4 k0 (x1) (x2) (x3 + 1) g (M1) q) ∧ (¬ (v1 : Int32) = 0 → ∃ (q2 : Int32 → mj_M → Prop), kX4_lowestEquivalent (k0) (x3) g (M1) q2 ∧ ∀ (v2 : Int32) (M2 : mj_M), q2 v2 M2 → (LX4_replaced_4 k0 (x1) ((x2) ||| ((1 : Int32) <<< ((v2) &&& 31))) (x3 + 1) g (M2) q))))) : LX4_replaced_4 k0 x1 x2 x3 g M q := by
  intro d hd ex
  refine mg_iload_n dX4_replaced_4 rfl 3 rfl ?_
  refine mg_bipush (v := 20) dX4_replaced_5 (by decide) ?_
  refine mg_icmp_ge (tgt := 34) dX4_replaced_7 (by decide) (fun hc => ?_) (fun hc => ?_)
  · replace h := h.1 hc
    refine mg_iload_n dX4_replaced_34 rfl 2 rfl ?_
    exact me_i dX4_replaced_35 rfl h
  · replace h := h.2 hc
    refine mg_iload_n dX4_replaced_10 rfl 1 rfl ?_
    refine mg_iload_n dX4_replaced_11 rfl 3 rfl ?_
    obtain ⟨q1, hC, hk⟩ := h
    refine mc_Ni [.int (x1), .int (x3)] [] 16 dX4_replaced_12 rfl kiX9_contains (Nat.le_of_ble_eq_true rfl) (Nat.le_trans (Nat.le_of_ble_eq_true rfl) hd) hC (fun v1 M1 hq => ?_)
    replace h := hk v1 M1 hq
    refine mg_if_eq (tgt := 28) dX4_replaced_15 (by decide) (fun hc => ?_) (fun hc => ?_)
    · replace h := h.1 hc
      refine mg_iinc (v := x3 + 1) (ls' := [(3, .int (x3 + 1)), (0, .ref (k0)), (1, .int (x1)), (2, .int (x2))]) dX4_replaced_28 3 rfl rfl (Nat.le_of_ble_eq_true rfl) rfl ?_
      refine mg_goto (tgt := 4) dX4_replaced_31 (by decide) ?_
      exact mg_pick [1, 2, 3, 0] rfl (h d hd ex)
    · replace h := h.2 hc
      refine mg_iload_n dX4_replaced_18 rfl 2 rfl ?_
      refine mg_iconst (v := 1) dX4_replaced_19 (by decide) ?_
      refine mg_aload_n dX4_replaced_20 rfl 0 rfl ?_
      refine mg_iload_n dX4_replaced_21 rfl 3 rfl ?_
      obtain ⟨q2, hC, hk⟩ := h
      refine mc_Vi [.int (x3)] [.int (1), .int (x2)] dX4_replaced_22 wd_623 kiX4_lowestEquivalent (Nat.le_of_ble_eq_true rfl) h0.1.1 h0.1.2 rfl (Nat.le_trans (Nat.le_of_ble_eq_true rfl) hd) hC (fun v2 M2 hq => ?_)
      replace h := hk v2 M2 hq
      refine mg_ishl dX4_replaced_25 ?_
      refine mg_ior dX4_replaced_26 ?_
      refine mg_istore_n (ls' := [(2, .int ((x2) ||| ((1 : Int32) <<< ((v2) &&& 31)))), (0, .ref (k0)), (1, .int (x1)), (3, .int (x3))]) dX4_replaced_27 rfl (Nat.le_of_ble_eq_true rfl) rfl ?_
      refine mg_iinc (v := x3 + 1) (ls' := [(3, .int (x3 + 1)), (2, .int ((x2) ||| ((1 : Int32) <<< ((v2) &&& 31)))), (0, .ref (k0)), (1, .int (x1))]) dX4_replaced_28 3 rfl rfl (Nat.le_of_ble_eq_true rfl) rfl ?_
      refine mg_goto (tgt := 4) dX4_replaced_31 (by decide) ?_
      exact mg_pick [2, 3, 1, 0] rfl (h d hd ex)
theorem dX5_find_0 : decode cX5_find 0 = .ok (.iconst 1, 1) := by decide +kernel
theorem dX5_find_1 : decode cX5_find 1 = .ok (.iconst 2, 1) := by decide +kernel
theorem dX5_find_2 : decode cX5_find 2 = .ok (.iload_n 2, 1) := by decide +kernel
theorem dX5_find_3 : decode cX5_find 3 = .ok (.imul, 1) := by decide +kernel
theorem dX5_find_4 : decode cX5_find 4 = .ok (.ishl, 1) := by decide +kernel
theorem dX5_find_5 : decode cX5_find 5 = .ok (.istore 4, 2) := by decide +kernel
theorem dX5_find_7 : decode cX5_find 7 = .ok (.iload 4, 2) := by decide +kernel
theorem dX5_find_9 : decode cX5_find 9 = .ok (.iconst 1, 1) := by decide +kernel
theorem dX5_find_10 : decode cX5_find 10 = .ok (.ishl, 1) := by decide +kernel
theorem dX5_find_11 : decode cX5_find 11 = .ok (.istore 5, 2) := by decide +kernel
theorem dX5_find_13 : decode cX5_find 13 = .ok (.aload_n 0, 1) := by decide +kernel
theorem dX5_find_14 : decode cX5_find 14 = .ok (.getfield 14, 3) := by decide +kernel
theorem dX5_find_17 : decode cX5_find 17 = .ok (.invokevirtual 20, 3) := by decide +kernel
theorem dX5_find_20 : decode cX5_find 20 = .ok (.iconst 0, 1) := by decide +kernel
theorem dX5_find_21 : decode cX5_find 21 = .ok (.istore 6, 2) := by decide +kernel
theorem dX5_find_23 : decode cX5_find 23 = .ok (.iload 6, 2) := by decide +kernel
theorem dX5_find_25 : decode cX5_find 25 = .ok (.aload_n 1, 1) := by decide +kernel
theorem dX5_find_26 : decode cX5_find 26 = .ok (.invokevirtual 23, 3) := by decide +kernel
theorem dX5_find_29 : decode cX5_find 29 = .ok (.if_icmp .ge 114, 3) := by decide +kernel
theorem dX5_find_32 : decode cX5_find 32 = .ok (.aload_n 1, 1) := by decide +kernel
theorem dX5_find_33 : decode cX5_find 33 = .ok (.iload 6, 2) := by decide +kernel
theorem dX5_find_35 : decode cX5_find 35 = .ok (.invokevirtual 27, 3) := by decide +kernel
theorem dX5_find_38 : decode cX5_find 38 = .ok (.istore 7, 2) := by decide +kernel
theorem dX5_find_40 : decode cX5_find 40 = .ok (.iconst 0, 1) := by decide +kernel
theorem dX5_find_41 : decode cX5_find 41 = .ok (.istore 8, 2) := by decide +kernel
theorem dX5_find_43 : decode cX5_find 43 = .ok (.iload 8, 2) := by decide +kernel
theorem dX5_find_45 : decode cX5_find 45 = .ok (.aload_n 1, 1) := by decide +kernel
theorem dX5_find_46 : decode cX5_find 46 = .ok (.invokevirtual 23, 3) := by decide +kernel
theorem dX5_find_49 : decode cX5_find 49 = .ok (.if_icmp .ge 88, 3) := by decide +kernel
theorem dX5_find_52 : decode cX5_find 52 = .ok (.iload 7, 2) := by decide +kernel
theorem dX5_find_54 : decode cX5_find 54 = .ok (.iload 4, 2) := by decide +kernel
theorem dX5_find_56 : decode cX5_find 56 = .ok (.iand, 1) := by decide +kernel
theorem dX5_find_57 : decode cX5_find 57 = .ok (.ifCond .eq 80, 3) := by decide +kernel
theorem dX5_find_60 : decode cX5_find 60 = .ok (.aload_n 0, 1) := by decide +kernel
theorem dX5_find_61 : decode cX5_find 61 = .ok (.getfield 14, 3) := by decide +kernel
theorem dX5_find_64 : decode cX5_find 64 = .ok (.invokevirtual 23, 3) := by decide +kernel
theorem dX5_find_67 : decode cX5_find 67 = .ok (.iload_n 3, 1) := by decide +kernel
theorem dX5_find_68 : decode cX5_find 68 = .ok (.if_icmp .gt 69, 3) := by decide +kernel
theorem dX5_find_71 : decode cX5_find 71 = .ok (.aload_n 1, 1) := by decide +kernel
theorem dX5_find_72 : decode cX5_find 72 = .ok (.iload 8, 2) := by decide +kernel
theorem dX5_find_74 : decode cX5_find 74 = .ok (.invokevirtual 27, 3) := by decide +kernel
theorem dX5_find_77 : decode cX5_find 77 = .ok (.istore 9, 2) := by decide +kernel
theorem dX5_find_79 : decode cX5_find 79 = .ok (.iload 7, 2) := by decide +kernel
theorem dX5_find_81 : decode cX5_find 81 = .ok (.iload 9, 2) := by decide +kernel
theorem dX5_find_83 : decode cX5_find 83 = .ok (.ior, 1) := by decide +kernel
theorem dX5_find_84 : decode cX5_find 84 = .ok (.iload 4, 2) := by decide +kernel
theorem dX5_find_86 : decode cX5_find 86 = .ok (.iload 5, 2) := by decide +kernel
theorem dX5_find_88 : decode cX5_find 88 = .ok (.ior, 1) := by decide +kernel
theorem dX5_find_89 : decode cX5_find 89 = .ok (.iconst (-1), 1) := by decide +kernel
theorem dX5_find_90 : decode cX5_find 90 = .ok (.ixor, 1) := by decide +kernel
theorem dX5_find_91 : decode cX5_find 91 = .ok (.iand, 1) := by decide +kernel
theorem dX5_find_92 : decode cX5_find 92 = .ok (.istore 10, 2) := by decide +kernel
theorem dX5_find_94 : decode cX5_find 94 = .ok (.iload 9, 2) := by decide +kernel
theorem dX5_find_96 : decode cX5_find 96 = .ok (.iload 5, 2) := by decide +kernel
theorem dX5_find_98 : decode cX5_find 98 = .ok (.iand, 1) := by decide +kernel
theorem dX5_find_99 : decode cX5_find 99 = .ok (.ifCond .eq 32, 3) := by decide +kernel
theorem dX5_find_102 : decode cX5_find 102 = .ok (.iload 10, 2) := by decide +kernel
theorem dX5_find_104 : decode cX5_find 104 = .ok (.invokestatic 31, 3) := by decide +kernel
theorem dX5_find_107 : decode cX5_find 107 = .ok (.ifCond .ne 24, 3) := by decide +kernel
theorem dX5_find_110 : decode cX5_find 110 = .ok (.aload_n 0, 1) := by decide +kernel
theorem dX5_find_111 : decode cX5_find 111 = .ok (.getfield 14, 3) := by decide +kernel
theorem dX5_find_114 : decode cX5_find 114 = .ok (.iload 10, 2) := by decide +kernel
theorem dX5_find_116 : decode cX5_find 116 = .ok (.invokevirtual 35, 3) := by decide +kernel
theorem dX5_find_119 : decode cX5_find 119 = .ok (.ifCond .ne 12, 3) := by decide +kernel
theorem dX5_find_122 : decode cX5_find 122 = .ok (.aload_n 0, 1) := by decide +kernel
theorem dX5_find_123 : decode cX5_find 123 = .ok (.getfield 14, 3) := by decide +kernel
theorem dX5_find_126 : decode cX5_find 126 = .ok (.iload 10, 2) := by decide +kernel
theorem dX5_find_128 : decode cX5_find 128 = .ok (.invokevirtual 38, 3) := by decide +kernel
theorem dX5_find_131 : decode cX5_find 131 = .ok (.iinc 8 1, 3) := by decide +kernel
theorem dX5_find_134 : decode cX5_find 134 = .ok (.goto (-91), 3) := by decide +kernel
theorem dX5_find_137 : decode cX5_find 137 = .ok (.iinc 6 1, 3) := by decide +kernel
theorem dX5_find_140 : decode cX5_find 140 = .ok (.goto (-117), 3) := by decide +kernel
theorem dX5_find_143 : decode cX5_find 143 = .ok (.return_, 1) := by decide +kernel
abbrev mtX5_find : mj_T := (yX5_find.cls, cX5_find, 11, none, mj_no, yX5_find.name)
abbrev kX5_find (k0 : Nat) (k1 : Nat) (x2 : Int32) (x3 : Int32) (g : mj_S) (M : mj_M) (q : mj_M → Prop) : Prop := mj_CV yX5_find (.code yX5_find cX5_find 11 none) 1 [.ref (k0), .ref (k1), .int (x2), .int (x3)] g M q
theorem kiX5_find : mj_cV yX5_find cX5_find 11 none 3 := ⟨⟨wd_501, wd_502, wd_9, wd_503⟩, ⟨by decide +kernel, by decide +kernel, by decide +kernel⟩, Nat.le_of_ble_eq_true rfl⟩
def LX5_find_23 (k0 : Nat) (k1 n1 : Nat) (x3 : Int32) (x4 : Int32) (x5 : Int32) (x6 : Int32) (g : mj_S) (M : mj_M) (q : mj_M → Prop) : Prop := ∀ d, 1 ≤ d → ∀ ex : Bool, mj_G mtX5_find (mj_rm d 0 0) (mj_Fi (mj_qV g q) mj_x0 0 0) ex 0 0 23 [(0, .ref (k0)), (1, .ref (k1)), (3, .int (x3)), (4, .int (x4)), (5, .int (x5)), (6, .int (x6))] [] g M
def LX5_find_43 (k0 : Nat) (k1 n1 : Nat) (x3 : Int32) (x4 : Int32) (x5 : Int32) (x6 : Int32) (x7 : Int32) (x8 : Int32) (g : mj_S) (M : mj_M) (q : mj_M → Prop) : Prop := ∀ d, 1 ≤ d → ∀ ex : Bool, mj_G mtX5_find (mj_rm d 0 0) (mj_Fi (mj_qV g q) mj_x0 0 0) ex 0 0 43 [(0, .ref (k0)), (1, .ref (k1)), (3, .int (x3)), (4, .int (x4)), (5, .int (x5)), (6, .int (x6)), (7, .int (x7)), (8, .int (x8))] [] g M
theorem eX5_find {k0 : Nat} {k1 n1 : Nat} {x2 : Int32} {x3 : Int32} {g : mj_S} {M : mj_M} {q : mj_M → Prop} (h0 : is5 g k0) (h1 : is0 g k1 n1) (h : ∃ (q1 : mj_M → Prop), kX0_clear (k0 + 1) g (M) q1 ∧ ∀ (M1 : mj_M), q1 M1 → (LX5_find_23 k0 k1 n1 (x3) ((1 : Int32) <<< (((2 : Int32) * (x2)) &&& 31)) (((1 : Int32) <<< (((2 : Int32) * (x2)) &&& 31)) <<< ((1 : Int32) &&& 31)) (0) g (M1) q)) : kX5_find (k0) (k1) (x2) (x3) g M q := by
  intro d hd; refine mj_enter (by decide +kernel) (Nat.le_of_ble_eq_true rfl) ?_
  generalize (false : Bool) = ex
  show mj_G mtX5_find (mj_rm d 0 0) (mj_Fi (mj_qV g q) mj_x0 0 0) ex 0 0 0 [(0, .ref (k0)), (1, .ref (k1)), (2, .int (x2)), (3, .int (x3))] [] g M
  refine mg_iconst (v := 1) dX5_find_0 (by decide) ?_
  refine mg_iconst (v := 2) dX5_find_1 (by decide) ?_
  refine mg_iload_n dX5_find_2 rfl 2 rfl ?_
  refine mg_imul dX5_find_3 ?_
  refine mg_ishl dX5_find_4 ?_
  refine mg_istore (ls' := [(4, .int ((1 : Int32) <<< (((2 : Int32) * (x2)) &&& 31))), (0, .ref (k0)), (1, .ref (k1)), (2, .int (x2)), (3, .int (x3))]) dX5_find_5 (Nat.le_of_ble_eq_true rfl) rfl ?_
  refine mg_iload dX5_find_7 0 rfl ?_
  refine mg_iconst (v := 1) dX5_find_9 (by decide) ?_
  refine mg_ishl dX5_find_10 ?_
  refine mg_istore (ls' := [(5, .int (((1 : Int32) <<< (((2 : Int32) * (x2)) &&& 31)) <<< ((1 : Int32) &&& 31))), (4, .int ((1 : Int32) <<< (((2 : Int32) * (x2)) &&& 31))), (0, .ref (k0)), (1, .ref (k1)), (2, .int (x2)), (3, .int (x3))]) dX5_find_11 (Nat.le_of_ble_eq_true rfl) rfl ?_
  refine mg_aload_n dX5_find_13 rfl 2 rfl ?_
  refine mg_getR (j := 0) dX5_find_14 kc_5 (Nat.le_of_ble_eq_true rfl) wd_176 rfl rfl h0.1.1 h0.1.2 h0.2.1 ?_
  obtain ⟨q1, hC, hk⟩ := h
  refine mc_Vv [] [] dX5_find_17 wd_504 kiX0_clear (Nat.le_of_ble_eq_true rfl) h0.2.2.1.1 h0.2.2.1.2 rfl (Nat.le_trans (Nat.le_of_ble_eq_true rfl) hd) hC (fun M1 hq => ?_)
  replace h := hk M1 hq
  refine mg_iconst (v := 0) dX5_find_20 (by decide) ?_
  refine mg_istore (ls' := [(6, .int (0)), (5, .int (((1 : Int32) <<< (((2 : Int32) * (x2)) &&& 31)) <<< ((1 : Int32) &&& 31))), (4, .int ((1 : Int32) <<< (((2 : Int32) * (x2)) &&& 31))), (0, .ref (k0)), (1, .ref (k1)), (2, .int (x2)), (3, .int (x3))]) dX5_find_21 (Nat.le_of_ble_eq_true rfl) rfl ?_
  exact mg_pick [3, 4, 6, 2, 1, 0] rfl (h d hd ex)
theorem bX5_find_23 {k0 : Nat} {k1 n1 : Nat} {x3 : Int32} {x4 : Int32} {x5 : Int32} {x6 : Int32} {g : mj_S} {M : mj_M} {q : mj_M → Prop} (h0 : is5 g k0) (h1 : is0 g k1 n1) (h : ∃ (q1 : Int32 → mj_M → Prop), kX0_size (k1) g (M) q1 ∧ ∀ (v1 : Int32) (M1 : mj_M), q1 v1 M1 → (((v1 : Int32) ≤ (x6) → q (M1)) ∧ (¬ (v1 : Int32) ≤ (x6) → ∃ (q2 : Int32 → mj_M → Prop), kX0_at (k1) (x6) g (M1) q2 ∧ ∀ (v2 : Int32) (M2 : mj_M), q2 v2 M2 → (LX5_find_43 k0 k1 n1 (x3) (x4) (x5) (x6) (v2) (0) g (M2) q)))) : LX5_find_23 k0 k1 n1 x3 x4 x5 x6 g M q := by
  intro d hd ex
  refine mg_iload dX5_find_23 5 rfl ?_
  refine mg_aload_n dX5_find_25 rfl 1 rfl ?_
  obtain ⟨q1, hC, hk⟩ := h
  refine mc_Vi [] [.int (x6)] dX5_find_26 wd_505 kiX0_size (Nat.le_of_ble_eq_true rfl) h1.1.1 h1.1.2 rfl (Nat.le_trans (Nat.le_of_ble_eq_true rfl) hd) hC (fun v1 M1 hq => ?_)
  replace h := hk v1 M1 hq
  refine mg_icmp_ge (tgt := 143) dX5_find_29 (by decide) (fun hc => ?_) (fun hc => ?_)
  · replace h := h.1 hc
    exact me_v dX5_find_143 rfl h
  · replace h := h.2 hc
    refine mg_aload_n dX5_find_32 rfl 1 rfl ?_
    refine mg_iload dX5_find_33 5 rfl ?_
    obtain ⟨q2, hC, hk⟩ := h
    refine mc_Vi [.int (x6)] [] dX5_find_35 wd_506 kiX0_at (Nat.le_of_ble_eq_true rfl) h1.1.1 h1.1.2 rfl (Nat.le_trans (Nat.le_of_ble_eq_true rfl) hd) hC (fun v2 M2 hq => ?_)
    replace h := hk v2 M2 hq
    refine mg_istore (ls' := [(7, .int (v2)), (0, .ref (k0)), (1, .ref (k1)), (3, .int (x3)), (4, .int (x4)), (5, .int (x5)), (6, .int (x6))]) dX5_find_38 (Nat.le_of_ble_eq_true rfl) rfl ?_
    refine mg_iconst (v := 0) dX5_find_40 (by decide) ?_
    refine mg_istore (ls' := [(8, .int (0)), (7, .int (v2)), (0, .ref (k0)), (1, .ref (k1)), (3, .int (x3)), (4, .int (x4)), (5, .int (x5)), (6, .int (x6))]) dX5_find_41 (Nat.le_of_ble_eq_true rfl) rfl ?_
    exact mg_pick [2, 3, 4, 5, 6, 7, 1, 0] rfl (h d hd ex)
theorem bX5_find_43 {k0 : Nat} {k1 n1 : Nat} {x3 : Int32} {x4 : Int32} {x5 : Int32} {x6 : Int32} {x7 : Int32} {x8 : Int32} {g : mj_S} {M : mj_M} {q : mj_M → Prop} (h0 : is5 g k0) (h1 : is0 g k1 n1) (h : ∃ (q1 : Int32 → mj_M → Prop), kX0_size (k1) g (M) q1 ∧ ∀ (v1 : Int32) (M1 : mj_M), q1 v1 M1 → (((v1 : Int32) ≤ (x8) → LX5_find_23 k0 k1 n1 (x3) (x4) (x5) (x6 + 1) g (M1) q) ∧ (¬ (v1 : Int32) ≤ (x8) → (((x7) &&& (x4) : Int32) = 0 → LX5_find_23 k0 k1 n1 (x3) (x4) (x5) (x6 + 1) g (M1) q) ∧ (¬ ((x7) &&& (x4) : Int32) = 0 → ∃ (q2 : Int32 → mj_M → Prop), kX0_size (k0 + 1) g (M1) q2 ∧ ∀ (v2 : Int32) (M2 : mj_M), q2 v2 M2 → (((x3 : Int32) < (v2) → LX5_find_23 k0 k1 n1 (x3) (x4) (x5) (x6 + 1) g (M2) q) ∧ (¬ (x3 : Int32) < (v2) → ∃ (q3 : Int32 → mj_M → Prop), kX0_at (k1) (x8) g (M2) q3 ∧ ∀ (v3 : Int32) (M3 : mj_M), q3 v3 M3 → ((((v3) &&& (x5) : Int32) = 0 → LX5_find_43 k0 k1 n1 (x3) (x4) (x5) (x6) (x7) (x8 + 1) g (M3) q) ∧ (¬ ((v3) &&& (x5) : Int32) = 0 → ∃ (q4 : Int32 → mj_M → Prop), kX9_hasComplementary (((x7) ||| (v3)) &&& (((x4) ||| (x5)) ^^^ (-1 : Int32))) g (M3) q4 ∧ ∀ (v4 : Int32) (M4 : mj_M), q4 v4 M4 → ((¬ (v4 : Int32) = 0 → LX5_find_43 k0 k1 n1 (x3) (x4) (x5) (x6) (x7) (x8 + 1) g (M4) q) ∧ ((v4 : Int32) = 0 → ∃ (q5 : Int32 → mj_M → Prop), kX0_has (k0 + 1) (((x7) ||| (v3)) &&& (((x4) ||| (x5)) ^^^ (-1 : Int32))) g (M4) q5 ∧ ∀ (v5 : Int32) (M5 : mj_M), q5 v5 M5 → ((¬ (v5 : Int32) = 0 → LX5_find_43 k0 k1 n1 (x3) (x4) (x5) (x6) (x7) (x8 + 1) g (M5) q) ∧ ((v5 : Int32) = 0 → ∃ (q6 : mj_M → Prop), kX0_add (k0 + 1) (((x7) ||| (v3)) &&& (((x4) ||| (x5)) ^^^ (-1 : Int32))) g (M5) q6 ∧ ∀ (M6 : mj_M), q6 M6 → (LX5_find_43 k0 k1 n1 (x3) (x4) (x5) (x6) (x7) (x8 + 1) g (M6) q))))))))))))) : LX5_find_43 k0 k1 n1 x3 x4 x5 x6 x7 x8 g M q := by
  intro d hd ex
  refine mg_iload dX5_find_43 7 rfl ?_
  refine mg_aload_n dX5_find_45 rfl 1 rfl ?_
  obtain ⟨q1, hC, hk⟩ := h
  refine mc_Vi [] [.int (x8)] dX5_find_46 wd_505 kiX0_size (Nat.le_of_ble_eq_true rfl) h1.1.1 h1.1.2 rfl (Nat.le_trans (Nat.le_of_ble_eq_true rfl) hd) hC (fun v1 M1 hq => ?_)
  replace h := hk v1 M1 hq
  refine mg_icmp_ge (tgt := 137) dX5_find_49 (by decide) (fun hc => ?_) (fun hc => ?_)
  · replace h := h.1 hc
    refine mg_iinc (v := x6 + 1) (ls' := [(6, .int (x6 + 1)), (0, .ref (k0)), (1, .ref (k1)), (3, .int (x3)), (4, .int (x4)), (5, .int (x5)), (7, .int (x7)), (8, .int (x8))]) dX5_find_137 5 rfl rfl (Nat.le_of_ble_eq_true rfl) rfl ?_
    refine mg_goto (tgt := 23) dX5_find_140 (by decide) ?_
    exact mg_pick [1, 2, 3, 4, 5, 0] rfl (h d hd ex)
  · replace h := h.2 hc
    refine mg_iload dX5_find_52 6 rfl ?_
    refine mg_iload dX5_find_54 3 rfl ?_
    refine mg_iand dX5_find_56 ?_
    refine mg_if_eq (tgt := 137) dX5_find_57 (by decide) (fun hc => ?_) (fun hc => ?_)
    · replace h := h.1 hc
      refine mg_iinc (v := x6 + 1) (ls' := [(6, .int (x6 + 1)), (0, .ref (k0)), (1, .ref (k1)), (3, .int (x3)), (4, .int (x4)), (5, .int (x5)), (7, .int (x7)), (8, .int (x8))]) dX5_find_137 5 rfl rfl (Nat.le_of_ble_eq_true rfl) rfl ?_
      refine mg_goto (tgt := 23) dX5_find_140 (by decide) ?_
      exact mg_pick [1, 2, 3, 4, 5, 0] rfl (h d hd ex)
    · replace h := h.2 hc
      refine mg_aload_n dX5_find_60 rfl 0 rfl ?_
      refine mg_getR (j := 0) dX5_find_61 kc_5 (Nat.le_of_ble_eq_true rfl) wd_176 rfl rfl h0.1.1 h0.1.2 h0.2.1 ?_
      obtain ⟨q2, hC, hk⟩ := h
      refine mc_Vi [] [] dX5_find_64 wd_505 kiX0_size (Nat.le_of_ble_eq_true rfl) h0.2.2.1.1 h0.2.2.1.2 rfl (Nat.le_trans (Nat.le_of_ble_eq_true rfl) hd) hC (fun v2 M2 hq => ?_)
      replace h := hk v2 M2 hq
      refine mg_iload_n dX5_find_67 rfl 2 rfl ?_
      refine mg_icmp_gt (tgt := 137) dX5_find_68 (by decide) (fun hc => ?_) (fun hc => ?_)
      · replace h := h.1 hc
        refine mg_iinc (v := x6 + 1) (ls' := [(6, .int (x6 + 1)), (0, .ref (k0)), (1, .ref (k1)), (3, .int (x3)), (4, .int (x4)), (5, .int (x5)), (7, .int (x7)), (8, .int (x8))]) dX5_find_137 5 rfl rfl (Nat.le_of_ble_eq_true rfl) rfl ?_
        refine mg_goto (tgt := 23) dX5_find_140 (by decide) ?_
        exact mg_pick [1, 2, 3, 4, 5, 0] rfl (h d hd ex)
      · replace h := h.2 hc
        refine mg_aload_n dX5_find_71 rfl 1 rfl ?_
        refine mg_iload dX5_find_72 7 rfl ?_
        obtain ⟨q3, hC, hk⟩ := h
        refine mc_Vi [.int (x8)] [] dX5_find_74 wd_506 kiX0_at (Nat.le_of_ble_eq_true rfl) h1.1.1 h1.1.2 rfl (Nat.le_trans (Nat.le_of_ble_eq_true rfl) hd) hC (fun v3 M3 hq => ?_)
        replace h := hk v3 M3 hq
        refine mg_istore (ls' := [(9, .int (v3)), (0, .ref (k0)), (1, .ref (k1)), (3, .int (x3)), (4, .int (x4)), (5, .int (x5)), (6, .int (x6)), (7, .int (x7)), (8, .int (x8))]) dX5_find_77 (Nat.le_of_ble_eq_true rfl) rfl ?_
        refine mg_iload dX5_find_79 7 rfl ?_
        refine mg_iload dX5_find_81 0 rfl ?_
        refine mg_ior dX5_find_83 ?_
        refine mg_iload dX5_find_84 4 rfl ?_
        refine mg_iload dX5_find_86 5 rfl ?_
        refine mg_ior dX5_find_88 ?_
        refine mg_iconst (v := (-1)) dX5_find_89 (by decide) ?_
        refine mg_ixor dX5_find_90 ?_
        refine mg_iand dX5_find_91 ?_
        refine mg_istore (ls' := [(10, .int (((x7) ||| (v3)) &&& (((x4) ||| (x5)) ^^^ (-1 : Int32)))), (9, .int (v3)), (0, .ref (k0)), (1, .ref (k1)), (3, .int (x3)), (4, .int (x4)), (5, .int (x5)), (6, .int (x6)), (7, .int (x7)), (8, .int (x8))]) dX5_find_92 (Nat.le_of_ble_eq_true rfl) rfl ?_
        refine mg_iload dX5_find_94 1 rfl ?_
        refine mg_iload dX5_find_96 6 rfl ?_
        refine mg_iand dX5_find_98 ?_
        refine mg_if_eq (tgt := 131) dX5_find_99 (by decide) (fun hc => ?_) (fun hc => ?_)
        · replace h := h.1 hc
          refine mg_iinc (v := x8 + 1) (ls' := [(8, .int (x8 + 1)), (10, .int (((x7) ||| (v3)) &&& (((x4) ||| (x5)) ^^^ (-1 : Int32)))), (9, .int (v3)), (0, .ref (k0)), (1, .ref (k1)), (3, .int (x3)), (4, .int (x4)), (5, .int (x5)), (6, .int (x6)), (7, .int (x7))]) dX5_find_131 9 rfl rfl (Nat.le_of_ble_eq_true rfl) rfl ?_
          refine mg_goto (tgt := 43) dX5_find_134 (by decide) ?_
          exact mg_pick [3, 4, 5, 6, 7, 8, 9, 0] rfl (h d hd ex)
        · replace h := h.2 hc
          refine mg_iload dX5_find_102 0 rfl ?_
          obtain ⟨q4, hC, hk⟩ := h
          refine mc_Ni [.int (((x7) ||| (v3)) &&& (((x4) ||| (x5)) ^^^ (-1 : Int32)))] [] 11 dX5_find_104 rfl kiX9_hasComplementary (Nat.le_of_ble_eq_true rfl) (Nat.le_trans (Nat.le_of_ble_eq_true rfl) hd) hC (fun v4 M4 hq => ?_)
          replace h := hk v4 M4 hq
          refine mg_if_ne (tgt := 131) dX5_find_107 (by decide) (fun hc => ?_) (fun hc => ?_)
          · replace h := h.1 hc
            refine mg_iinc (v := x8 + 1) (ls' := [(8, .int (x8 + 1)), (10, .int (((x7) ||| (v3)) &&& (((x4) ||| (x5)) ^^^ (-1 : Int32)))), (9, .int (v3)), (0, .ref (k0)), (1, .ref (k1)), (3, .int (x3)), (4, .int (x4)), (5, .int (x5)), (6, .int (x6)), (7, .int (x7))]) dX5_find_131 9 rfl rfl (Nat.le_of_ble_eq_true rfl) rfl ?_
            refine mg_goto (tgt := 43) dX5_find_134 (by decide) ?_
            exact mg_pick [3, 4, 5, 6, 7, 8, 9, 0] rfl (h d hd ex)
          · replace h := h.2 hc
            refine mg_aload_n dX5_find_110 rfl 2 rfl ?_
            refine mg_getR (j := 0) dX5_find_111 kc_5 (Nat.le_of_ble_eq_true rfl) wd_176 rfl rfl h0.1.1 h0.1.2 h0.2.1 ?_
            refine mg_iload dX5_find_114 0 rfl ?_
            obtain ⟨q5, hC, hk⟩ := h
            refine mc_Vi [.int (((x7) ||| (v3)) &&& (((x4) ||| (x5)) ^^^ (-1 : Int32)))] [] dX5_find_116 wd_510 kiX0_has (Nat.le_of_ble_eq_true rfl) h0.2.2.1.1 h0.2.2.1.2 rfl (Nat.le_trans (Nat.le_of_ble_eq_true rfl) hd) hC (fun v5 M5 hq => ?_)
            replace h := hk v5 M5 hq
            refine mg_if_ne (tgt := 131) dX5_find_119 (by decide) (fun hc => ?_) (fun hc => ?_)
            · replace h := h.1 hc
              refine mg_iinc (v := x8 + 1) (ls' := [(8, .int (x8 + 1)), (10, .int (((x7) ||| (v3)) &&& (((x4) ||| (x5)) ^^^ (-1 : Int32)))), (9, .int (v3)), (0, .ref (k0)), (1, .ref (k1)), (3, .int (x3)), (4, .int (x4)), (5, .int (x5)), (6, .int (x6)), (7, .int (x7))]) dX5_find_131 9 rfl rfl (Nat.le_of_ble_eq_true rfl) rfl ?_
              refine mg_goto (tgt := 43) dX5_find_134 (by decide) ?_
              exact mg_pick [3, 4, 5, 6, 7, 8, 9, 0] rfl (h d hd ex)
            · replace h := h.2 hc
              refine mg_aload_n dX5_find_122 rfl 2 rfl ?_
              refine mg_getR (j := 0) dX5_find_123 kc_5 (Nat.le_of_ble_eq_true rfl) wd_176 rfl rfl h0.1.1 h0.1.2 h0.2.1 ?_
              refine mg_iload dX5_find_126 0 rfl ?_
              obtain ⟨q6, hC, hk⟩ := h
              refine mc_Vv [.int (((x7) ||| (v3)) &&& (((x4) ||| (x5)) ^^^ (-1 : Int32)))] [] dX5_find_128 wd_514 kiX0_add (Nat.le_of_ble_eq_true rfl) h0.2.2.1.1 h0.2.2.1.2 rfl (Nat.le_trans (Nat.le_of_ble_eq_true rfl) hd) hC (fun M6 hq => ?_)
              replace h := hk M6 hq
              refine mg_iinc (v := x8 + 1) (ls' := [(8, .int (x8 + 1)), (10, .int (((x7) ||| (v3)) &&& (((x4) ||| (x5)) ^^^ (-1 : Int32)))), (9, .int (v3)), (0, .ref (k0)), (1, .ref (k1)), (3, .int (x3)), (4, .int (x4)), (5, .int (x5)), (6, .int (x6)), (7, .int (x7))]) dX5_find_131 9 rfl rfl (Nat.le_of_ble_eq_true rfl) rfl ?_
              refine mg_goto (tgt := 43) dX5_find_134 (by decide) ?_
              exact mg_pick [3, 4, 5, 6, 7, 8, 9, 0] rfl (h d hd ex)
theorem dX6_beginAnew_0 : decode cX6_beginAnew 0 = .ok (.aload_n 0, 1) := by decide +kernel
theorem dX6_beginAnew_1 : decode cX6_beginAnew 1 = .ok (.iload_n 1, 1) := by decide +kernel
theorem dX6_beginAnew_2 : decode cX6_beginAnew 2 = .ok (.putfield 42, 3) := by decide +kernel
theorem dX6_beginAnew_5 : decode cX6_beginAnew 5 = .ok (.aload_n 0, 1) := by decide +kernel
theorem dX6_beginAnew_6 : decode cX6_beginAnew 6 = .ok (.iconst 0, 1) := by decide +kernel
theorem dX6_beginAnew_7 : decode cX6_beginAnew 7 = .ok (.putfield 46, 3) := by decide +kernel
theorem dX6_beginAnew_10 : decode cX6_beginAnew 10 = .ok (.aload_n 0, 1) := by decide +kernel
theorem dX6_beginAnew_11 : decode cX6_beginAnew 11 = .ok (.iconst 0, 1) := by decide +kernel
theorem dX6_beginAnew_12 : decode cX6_beginAnew 12 = .ok (.putfield 49, 3) := by decide +kernel
theorem dX6_beginAnew_15 : decode cX6_beginAnew 15 = .ok (.aload_n 0, 1) := by decide +kernel
theorem dX6_beginAnew_16 : decode cX6_beginAnew 16 = .ok (.getfield 14, 3) := by decide +kernel
theorem dX6_beginAnew_19 : decode cX6_beginAnew 19 = .ok (.invokevirtual 52, 3) := by decide +kernel
theorem dX6_beginAnew_22 : decode cX6_beginAnew 22 = .ok (.aload_n 0, 1) := by decide +kernel
theorem dX6_beginAnew_23 : decode cX6_beginAnew 23 = .ok (.getfield 20, 3) := by decide +kernel
theorem dX6_beginAnew_26 : decode cX6_beginAnew 26 = .ok (.invokevirtual 52, 3) := by decide +kernel
theorem dX6_beginAnew_29 : decode cX6_beginAnew 29 = .ok (.iconst 0, 1) := by decide +kernel
theorem dX6_beginAnew_30 : decode cX6_beginAnew 30 = .ok (.istore_n 2, 1) := by decide +kernel
theorem dX6_beginAnew_31 : decode cX6_beginAnew 31 = .ok (.iload_n 2, 1) := by decide +kernel
theorem dX6_beginAnew_32 : decode cX6_beginAnew 32 = .ok (.bipush 10, 2) := by decide +kernel
theorem dX6_beginAnew_34 : decode cX6_beginAnew 34 = .ok (.if_icmp .ge 23, 3) := by decide +kernel
theorem dX6_beginAnew_37 : decode cX6_beginAnew 37 = .ok (.aload_n 0, 1) := by decide +kernel
theorem dX6_beginAnew_38 : decode cX6_beginAnew 38 = .ok (.getfield 23, 3) := by decide +kernel
theorem dX6_beginAnew_41 : decode cX6_beginAnew 41 = .ok (.iload_n 2, 1) := by decide +kernel
theorem dX6_beginAnew_42 : decode cX6_beginAnew 42 = .ok (.iconst 0, 1) := by decide +kernel
theorem dX6_beginAnew_43 : decode cX6_beginAnew 43 = .ok (.iastore, 1) := by decide +kernel
theorem dX6_beginAnew_44 : decode cX6_beginAnew 44 = .ok (.aload_n 0, 1) := by decide +kernel
theorem dX6_beginAnew_45 : decode cX6_beginAnew 45 = .ok (.getfield 27, 3) := by decide +kernel
theorem dX6_beginAnew_48 : decode cX6_beginAnew 48 = .ok (.iload_n 2, 1) := by decide +kernel
theorem dX6_beginAnew_49 : decode cX6_beginAnew 49 = .ok (.iconst (-1), 1) := by decide +kernel
theorem dX6_beginAnew_50 : decode cX6_beginAnew 50 = .ok (.iastore, 1) := by decide +kernel
theorem dX6_beginAnew_51 : decode cX6_beginAnew 51 = .ok (.iinc 2 1, 3) := by decide +kernel
theorem dX6_beginAnew_54 : decode cX6_beginAnew 54 = .ok (.goto (-23), 3) := by decide +kernel
theorem dX6_beginAnew_57 : decode cX6_beginAnew 57 = .ok (.iconst 0, 1) := by decide +kernel
theorem dX6_beginAnew_58 : decode cX6_beginAnew 58 = .ok (.istore_n 2, 1) := by decide +kernel
theorem dX6_beginAnew_59 : decode cX6_beginAnew 59 = .ok (.iload_n 2, 1) := by decide +kernel
theorem dX6_beginAnew_60 : decode cX6_beginAnew 60 = .ok (.bipush 10, 2) := by decide +kernel
theorem dX6_beginAnew_62 : decode cX6_beginAnew 62 = .ok (.if_icmp .ge 16, 3) := by decide +kernel
theorem dX6_beginAnew_65 : decode cX6_beginAnew 65 = .ok (.aload_n 0, 1) := by decide +kernel
theorem dX6_beginAnew_66 : decode cX6_beginAnew 66 = .ok (.getfield 30, 3) := by decide +kernel
theorem dX6_beginAnew_69 : decode cX6_beginAnew 69 = .ok (.iload_n 2, 1) := by decide +kernel
theorem dX6_beginAnew_70 : decode cX6_beginAnew 70 = .ok (.iconst 0, 1) := by decide +kernel
theorem dX6_beginAnew_71 : decode cX6_beginAnew 71 = .ok (.iastore, 1) := by decide +kernel
theorem dX6_beginAnew_72 : decode cX6_beginAnew 72 = .ok (.iinc 2 1, 3) := by decide +kernel
theorem dX6_beginAnew_75 : decode cX6_beginAnew 75 = .ok (.goto (-16), 3) := by decide +kernel
theorem dX6_beginAnew_78 : decode cX6_beginAnew 78 = .ok (.return_, 1) := by decide +kernel
abbrev mtX6_beginAnew : mj_T := (yX6_beginAnew.cls, cX6_beginAnew, 3, none, mj_no, yX6_beginAnew.name)
abbrev kX6_beginAnew (k0 : Nat) (x1 : Int32) (g : mj_S) (M : mj_M) (q : mj_M → Prop) : Prop := mj_CV yX6_beginAnew (.code yX6_beginAnew cX6_beginAnew 3 none) 1 [.ref (k0), .int (x1)] g M q
theorem kiX6_beginAnew : mj_cV yX6_beginAnew cX6_beginAnew 3 none 1 := ⟨⟨wd_57, wd_58, wd_2, wd_59⟩, ⟨by decide +kernel, by decide +kernel, by decide +kernel⟩, Nat.le_of_ble_eq_true rfl⟩
def LX6_beginAnew_31 (k0 : Nat) (x2 : Int32) (g : mj_S) (M : mj_M) (q : mj_M → Prop) : Prop := ∀ d, 1 ≤ d → ∀ ex : Bool, mj_G mtX6_beginAnew (mj_rm d 0 0) (mj_Fi (mj_qV g q) mj_x0 0 0) ex 0 0 31 [(0, .ref (k0)), (2, .int (x2))] [] g M
def LX6_beginAnew_59 (k0 : Nat) (x2 : Int32) (g : mj_S) (M : mj_M) (q : mj_M → Prop) : Prop := ∀ d, 1 ≤ d → ∀ ex : Bool, mj_G mtX6_beginAnew (mj_rm d 0 0) (mj_Fi (mj_qV g q) mj_x0 0 0) ex 0 0 59 [(0, .ref (k0)), (2, .int (x2))] [] g M
theorem eX6_beginAnew {k0 : Nat} {x1 : Int32} {g : mj_S} {M : mj_M} {q : mj_M → Prop} (h0 : is6 g k0) (h : ∃ (q1 : mj_M → Prop), kX0_clear (k0 + 1) g (mj_wI (mj_wI (mj_wI (M) (k0) 0 (x1)) (k0) 1 (0)) (k0) 2 (0)) q1 ∧ ∀ (M1 : mj_M), q1 M1 → (∃ (q2 : mj_M → Prop), kX0_clear (k0 + 3) g (M1) q2 ∧ ∀ (M2 : mj_M), q2 M2 → (LX6_beginAnew_31 k0 (0) g (M2) q))) : kX6_beginAnew (k0) (x1) g M q := by
  intro d hd; refine mj_enter (by decide +kernel) (Nat.le_of_ble_eq_true rfl) ?_
  generalize (false : Bool) = ex
  show mj_G mtX6_beginAnew (mj_rm d 0 0) (mj_Fi (mj_qV g q) mj_x0 0 0) ex 0 0 0 [(0, .ref (k0)), (1, .int (x1))] [] g M
  refine mg_aload_n dX6_beginAnew_0 rfl 0 rfl ?_
  refine mg_iload_n dX6_beginAnew_1 rfl 1 rfl ?_
  refine mg_putI (j := 0) dX6_beginAnew_2 kc_6 (Nat.le_of_ble_eq_true rfl) wd_64 rfl rfl rfl h0.1.1 h0.1.2 ?_
  refine mg_aload_n dX6_beginAnew_5 rfl 0 rfl ?_
  refine mg_iconst (v := 0) dX6_beginAnew_6 (by decide) ?_
  refine mg_putI (j := 1) dX6_beginAnew_7 kc_6 (Nat.le_of_ble_eq_true rfl) wd_67 rfl rfl rfl h0.1.1 h0.1.2 ?_
  refine mg_aload_n dX6_beginAnew_10 rfl 0 rfl ?_
  refine mg_iconst (v := 0) dX6_beginAnew_11 (by decide) ?_
  refine mg_putI (j := 2) dX6_beginAnew_12 kc_6 (Nat.le_of_ble_eq_true rfl) wd_70 rfl rfl rfl h0.1.1 h0.1.2 ?_
  refine mg_aload_n dX6_beginAnew_15 rfl 0 rfl ?_
  refine mg_getR (j := 3) dX6_beginAnew_16 kc_6 (Nat.le_of_ble_eq_true rfl) wd_73 rfl rfl h0.1.1 h0.1.2 h0.2.1.1 ?_
  obtain ⟨q1, hC, hk⟩ := h
  refine mc_Vv [] [] dX6_beginAnew_19 wd_60 kiX0_clear (Nat.le_of_ble_eq_true rfl) h0.2.1.2.1.1 h0.2.1.2.1.2 rfl (Nat.le_trans (Nat.le_of_ble_eq_true rfl) hd) hC (fun M1 hq => ?_)
  replace h := hk M1 hq
  refine mg_aload_n dX6_beginAnew_22 rfl 0 rfl ?_
  refine mg_getR (j := 4) dX6_beginAnew_23 kc_6 (Nat.le_of_ble_eq_true rfl) wd_76 rfl rfl h0.1.1 h0.1.2 h0.2.2.1.1 ?_
  obtain ⟨q2, hC, hk⟩ := h
  refine mc_Vv [] [] dX6_beginAnew_26 wd_60 kiX0_clear (Nat.le_of_ble_eq_true rfl) h0.2.2.1.2.1.1 h0.2.2.1.2.1.2 rfl (Nat.le_trans (Nat.le_of_ble_eq_true rfl) hd) hC (fun M2 hq => ?_)
  replace h := hk M2 hq
  refine mg_iconst (v := 0) dX6_beginAnew_29 (by decide) ?_
  refine mg_istore_n (ls' := [(2, .int (0)), (0, .ref (k0)), (1, .int (x1))]) dX6_beginAnew_30 rfl (Nat.le_of_ble_eq_true rfl) rfl ?_
  exact mg_pick [1, 0] rfl (h d hd ex)
theorem bX6_beginAnew_31 {k0 : Nat} {x2 : Int32} {g : mj_S} {M : mj_M} {q : mj_M → Prop} (h0 : is6 g k0) (h : ((10 : Int32) ≤ (x2) → LX6_beginAnew_59 k0 (0) g (M) q) ∧ (¬ (10 : Int32) ≤ (x2) → vp_in (x2) (10) ∧ (vp_in (x2) (10) ∧ (LX6_beginAnew_31 k0 (x2 + 1) g (mj_wI (mj_wI (M) (k0 + 5) (Int32.toNatClampNeg (x2)) (0)) (k0 + 6) (Int32.toNatClampNeg (x2)) ((-1))) q)))) : LX6_beginAnew_31 k0 x2 g M q := by
  intro d hd ex
  refine mg_iload_n dX6_beginAnew_31 rfl 1 rfl ?_
  refine mg_bipush (v := 10) dX6_beginAnew_32 (by decide) ?_
  refine mg_icmp_ge (tgt := 57) dX6_beginAnew_34 (by decide) (fun hc => ?_) (fun hc => ?_)
  · replace h := h.1 hc
    refine mg_iconst (v := 0) dX6_beginAnew_57 (by decide) ?_
    refine mg_istore_n (ls' := [(2, .int (0)), (0, .ref (k0))]) dX6_beginAnew_58 rfl (Nat.le_of_ble_eq_true rfl) rfl ?_
    exact mg_pick [1, 0] rfl (h d hd ex)
  · replace h := h.2 hc
    refine mg_aload_n dX6_beginAnew_37 rfl 0 rfl ?_
    refine mg_getR (j := 5) dX6_beginAnew_38 kc_6 (Nat.le_of_ble_eq_true rfl) wd_78 rfl rfl h0.1.1 h0.1.2 h0.2.2.2.1.1 ?_
    refine mg_iload_n dX6_beginAnew_41 rfl 1 rfl ?_
    refine mg_iconst (v := 0) dX6_beginAnew_42 (by decide) ?_
    refine mg_iast dX6_beginAnew_43 h0.2.2.2.1.2.1 h0.2.2.2.1.2.2 h.1 ?_
    replace h := h.2
    refine mg_aload_n dX6_beginAnew_44 rfl 0 rfl ?_
    refine mg_getR (j := 6) dX6_beginAnew_45 kc_6 (Nat.le_of_ble_eq_true rfl) wd_79 rfl rfl h0.1.1 h0.1.2 h0.2.2.2.2.1.1 ?_
    refine mg_iload_n dX6_beginAnew_48 rfl 1 rfl ?_
    refine mg_iconst (v := (-1)) dX6_beginAnew_49 (by decide) ?_
    refine mg_iast dX6_beginAnew_50 h0.2.2.2.2.1.2.1 h0.2.2.2.2.1.2.2 h.1 ?_
    replace h := h.2
    refine mg_iinc (v := x2 + 1) (ls' := [(2, .int (x2 + 1)), (0, .ref (k0))]) dX6_beginAnew_51 1 rfl rfl (Nat.le_of_ble_eq_true rfl) rfl ?_
    refine mg_goto (tgt := 31) dX6_beginAnew_54 (by decide) ?_
    exact mg_pick [1, 0] rfl (h d hd ex)
theorem bX6_beginAnew_59 {k0 : Nat} {x2 : Int32} {g : mj_S} {M : mj_M} {q : mj_M → Prop} (h0 : is6 g k0) (h : ((10 : Int32) ≤ (x2) → q (M)) ∧ (¬ (10 : Int32) ≤ (x2) → vp_in (x2) (10) ∧ (LX6_beginAnew_59 k0 (x2 + 1) g (mj_wI (M) (k0 + 7) (Int32.toNatClampNeg (x2)) (0)) q))) : LX6_beginAnew_59 k0 x2 g M q := by
  intro d hd ex
  refine mg_iload_n dX6_beginAnew_59 rfl 1 rfl ?_
  refine mg_bipush (v := 10) dX6_beginAnew_60 (by decide) ?_
  refine mg_icmp_ge (tgt := 78) dX6_beginAnew_62 (by decide) (fun hc => ?_) (fun hc => ?_)
  · replace h := h.1 hc
    exact me_v dX6_beginAnew_78 rfl h
  · replace h := h.2 hc
    refine mg_aload_n dX6_beginAnew_65 rfl 0 rfl ?_
    refine mg_getR (j := 7) dX6_beginAnew_66 kc_6 (Nat.le_of_ble_eq_true rfl) wd_80 rfl rfl h0.1.1 h0.1.2 h0.2.2.2.2.2.1.1 ?_
    refine mg_iload_n dX6_beginAnew_69 rfl 1 rfl ?_
    refine mg_iconst (v := 0) dX6_beginAnew_70 (by decide) ?_
    refine mg_iast dX6_beginAnew_71 h0.2.2.2.2.2.1.2.1 h0.2.2.2.2.2.1.2.2 h.1 ?_
    replace h := h.2
    refine mg_iinc (v := x2 + 1) (ls' := [(2, .int (x2 + 1)), (0, .ref (k0))]) dX6_beginAnew_72 1 rfl rfl (Nat.le_of_ble_eq_true rfl) rfl ?_
    refine mg_goto (tgt := 59) dX6_beginAnew_75 (by decide) ?_
    exact mg_pick [1, 0] rfl (h d hd ex)
theorem dX6_setOfRow_0 : decode cX6_setOfRow 0 = .ok (.iload_n 1, 1) := by decide +kernel
theorem dX6_setOfRow_1 : decode cX6_setOfRow 1 = .ok (.ifCond .lt 19, 3) := by decide +kernel
theorem dX6_setOfRow_4 : decode cX6_setOfRow 4 = .ok (.iload_n 1, 1) := by decide +kernel
theorem dX6_setOfRow_5 : decode cX6_setOfRow 5 = .ok (.sipush 140, 3) := by decide +kernel
theorem dX6_setOfRow_8 : decode cX6_setOfRow 8 = .ok (.if_icmp .ge 12, 3) := by decide +kernel
theorem dX6_setOfRow_11 : decode cX6_setOfRow 11 = .ok (.aload_n 0, 1) := by decide +kernel
theorem dX6_setOfRow_12 : decode cX6_setOfRow 12 = .ok (.getfield 33, 3) := by decide +kernel
theorem dX6_setOfRow_15 : decode cX6_setOfRow 15 = .ok (.iload_n 1, 1) := by decide +kernel
theorem dX6_setOfRow_16 : decode cX6_setOfRow 16 = .ok (.iaload, 1) := by decide +kernel
theorem dX6_setOfRow_17 : decode cX6_setOfRow 17 = .ok (.goto 4, 3) := by decide +kernel
theorem dX6_setOfRow_20 : decode cX6_setOfRow 20 = .ok (.iconst 0, 1) := by decide +kernel
theorem dX6_setOfRow_21 : decode cX6_setOfRow 21 = .ok (.ireturn, 1) := by decide +kernel
abbrev mtX6_setOfRow : mj_T := (yX6_setOfRow.cls, cX6_setOfRow, 2, (some .int), mj_no, yX6_setOfRow.name)
abbrev kX6_setOfRow (k0 : Nat) (x1 : Int32) (g : mj_S) (M : mj_M) (q : Int32 → mj_M → Prop) : Prop := mj_CI yX6_setOfRow (.code yX6_setOfRow cX6_setOfRow 2 (some .int)) 0 [.ref (k0), .int (x1)] g M q
theorem kiX6_setOfRow : mj_cV yX6_setOfRow cX6_setOfRow 2 (some .int) 1 := ⟨⟨wd_349, wd_350, wd_2, wd_351⟩, ⟨by decide +kernel, by decide +kernel, by decide +kernel⟩, Nat.le_of_ble_eq_true rfl⟩
theorem eX6_setOfRow {k0 : Nat} {x1 : Int32} {g : mj_S} {M : mj_M} {q : Int32 → mj_M → Prop} (h0 : is6 g k0) (h : ((x1 : Int32) < 0 → q (0) (M)) ∧ (¬ (x1 : Int32) < 0 → ((140 : Int32) ≤ (x1) → q (0) (M)) ∧ (¬ (140 : Int32) ≤ (x1) → vp_in (x1) (140) ∧ (q ((M).1 (k0 + 8) (Int32.toNatClampNeg (x1))) (M))))) : kX6_setOfRow (k0) (x1) g M q := by
  intro d hd; refine mj_enter (by decide +kernel) (Nat.le_of_ble_eq_true rfl) ?_
  generalize (false : Bool) = ex
  show mj_G mtX6_setOfRow (mj_rm d 0 0) (mj_Fi (mj_qI g q) mj_x0 0 0) ex 0 0 0 [(0, .ref (k0)), (1, .int (x1))] [] g M
  refine mg_iload_n dX6_setOfRow_0 rfl 1 rfl ?_
  refine mg_if_lt (tgt := 20) dX6_setOfRow_1 (by decide) (fun hc => ?_) (fun hc => ?_)
  · replace h := h.1 hc
    refine mg_iconst (v := 0) dX6_setOfRow_20 (by decide) ?_
    exact me_i dX6_setOfRow_21 rfl h
  · replace h := h.2 hc
    refine mg_iload_n dX6_setOfRow_4 rfl 1 rfl ?_
    refine mg_sipush (v := 140) dX6_setOfRow_5 (by decide) ?_
    refine mg_icmp_ge (tgt := 20) dX6_setOfRow_8 (by decide) (fun hc => ?_) (fun hc => ?_)
    · replace h := h.1 hc
      refine mg_iconst (v := 0) dX6_setOfRow_20 (by decide) ?_
      exact me_i dX6_setOfRow_21 rfl h
    · replace h := h.2 hc
      refine mg_aload_n dX6_setOfRow_11 rfl 0 rfl ?_
      refine mg_getR (j := 8) dX6_setOfRow_12 kc_6 (Nat.le_of_ble_eq_true rfl) wd_81 rfl rfl h0.1.1 h0.1.2 h0.2.2.2.2.2.2.1.1 ?_
      refine mg_iload_n dX6_setOfRow_15 rfl 1 rfl ?_
      refine mg_iald dX6_setOfRow_16 h0.2.2.2.2.2.2.1.2.1 h0.2.2.2.2.2.2.1.2.2 h.1 rfl ?_
      replace h := h.2
      refine mg_goto (tgt := 21) dX6_setOfRow_17 (by decide) ?_
      exact me_i dX6_setOfRow_21 rfl h
theorem dX6_witnessOfRow_0 : decode cX6_witnessOfRow 0 = .ok (.iload_n 1, 1) := by decide +kernel
theorem dX6_witnessOfRow_1 : decode cX6_witnessOfRow 1 = .ok (.ifCond .lt 19, 3) := by decide +kernel
theorem dX6_witnessOfRow_4 : decode cX6_witnessOfRow 4 = .ok (.iload_n 1, 1) := by decide +kernel
theorem dX6_witnessOfRow_5 : decode cX6_witnessOfRow 5 = .ok (.sipush 140, 3) := by decide +kernel
theorem dX6_witnessOfRow_8 : decode cX6_witnessOfRow 8 = .ok (.if_icmp .ge 12, 3) := by decide +kernel
theorem dX6_witnessOfRow_11 : decode cX6_witnessOfRow 11 = .ok (.aload_n 0, 1) := by decide +kernel
theorem dX6_witnessOfRow_12 : decode cX6_witnessOfRow 12 = .ok (.getfield 36, 3) := by decide +kernel
theorem dX6_witnessOfRow_15 : decode cX6_witnessOfRow 15 = .ok (.iload_n 1, 1) := by decide +kernel
theorem dX6_witnessOfRow_16 : decode cX6_witnessOfRow 16 = .ok (.iaload, 1) := by decide +kernel
theorem dX6_witnessOfRow_17 : decode cX6_witnessOfRow 17 = .ok (.goto 4, 3) := by decide +kernel
theorem dX6_witnessOfRow_20 : decode cX6_witnessOfRow 20 = .ok (.iconst 0, 1) := by decide +kernel
theorem dX6_witnessOfRow_21 : decode cX6_witnessOfRow 21 = .ok (.ireturn, 1) := by decide +kernel
abbrev mtX6_witnessOfRow : mj_T := (yX6_witnessOfRow.cls, cX6_witnessOfRow, 2, (some .int), mj_no, yX6_witnessOfRow.name)
abbrev kX6_witnessOfRow (k0 : Nat) (x1 : Int32) (g : mj_S) (M : mj_M) (q : Int32 → mj_M → Prop) : Prop := mj_CI yX6_witnessOfRow (.code yX6_witnessOfRow cX6_witnessOfRow 2 (some .int)) 0 [.ref (k0), .int (x1)] g M q
theorem kiX6_witnessOfRow : mj_cV yX6_witnessOfRow cX6_witnessOfRow 2 (some .int) 1 := ⟨⟨wd_354, wd_355, wd_2, wd_356⟩, ⟨by decide +kernel, by decide +kernel, by decide +kernel⟩, Nat.le_of_ble_eq_true rfl⟩
theorem eX6_witnessOfRow {k0 : Nat} {x1 : Int32} {g : mj_S} {M : mj_M} {q : Int32 → mj_M → Prop} (h0 : is6 g k0) (h : ((x1 : Int32) < 0 → q (0) (M)) ∧ (¬ (x1 : Int32) < 0 → ((140 : Int32) ≤ (x1) → q (0) (M)) ∧ (¬ (140 : Int32) ≤ (x1) → vp_in (x1) (140) ∧ (q ((M).1 (k0 + 9) (Int32.toNatClampNeg (x1))) (M))))) : kX6_witnessOfRow (k0) (x1) g M q := by
  intro d hd; refine mj_enter (by decide +kernel) (Nat.le_of_ble_eq_true rfl) ?_
  generalize (false : Bool) = ex
  show mj_G mtX6_witnessOfRow (mj_rm d 0 0) (mj_Fi (mj_qI g q) mj_x0 0 0) ex 0 0 0 [(0, .ref (k0)), (1, .int (x1))] [] g M
  refine mg_iload_n dX6_witnessOfRow_0 rfl 1 rfl ?_
  refine mg_if_lt (tgt := 20) dX6_witnessOfRow_1 (by decide) (fun hc => ?_) (fun hc => ?_)
  · replace h := h.1 hc
    refine mg_iconst (v := 0) dX6_witnessOfRow_20 (by decide) ?_
    exact me_i dX6_witnessOfRow_21 rfl h
  · replace h := h.2 hc
    refine mg_iload_n dX6_witnessOfRow_4 rfl 1 rfl ?_
    refine mg_sipush (v := 140) dX6_witnessOfRow_5 (by decide) ?_
    refine mg_icmp_ge (tgt := 20) dX6_witnessOfRow_8 (by decide) (fun hc => ?_) (fun hc => ?_)
    · replace h := h.1 hc
      refine mg_iconst (v := 0) dX6_witnessOfRow_20 (by decide) ?_
      exact me_i dX6_witnessOfRow_21 rfl h
    · replace h := h.2 hc
      refine mg_aload_n dX6_witnessOfRow_11 rfl 0 rfl ?_
      refine mg_getR (j := 9) dX6_witnessOfRow_12 kc_6 (Nat.le_of_ble_eq_true rfl) wd_82 rfl rfl h0.1.1 h0.1.2 h0.2.2.2.2.2.2.2.1 ?_
      refine mg_iload_n dX6_witnessOfRow_15 rfl 1 rfl ?_
      refine mg_iald dX6_witnessOfRow_16 h0.2.2.2.2.2.2.2.2.1 h0.2.2.2.2.2.2.2.2.2 h.1 rfl ?_
      replace h := h.2
      refine mg_goto (tgt := 21) dX6_witnessOfRow_17 (by decide) ?_
      exact me_i dX6_witnessOfRow_21 rfl h
theorem dX6_pushRow_0 : decode cX6_pushRow 0 = .ok (.aload_n 0, 1) := by decide +kernel
theorem dX6_pushRow_1 : decode cX6_pushRow 1 = .ok (.getfield 49, 3) := by decide +kernel
theorem dX6_pushRow_4 : decode cX6_pushRow 4 = .ok (.ifCond .lt 43, 3) := by decide +kernel
theorem dX6_pushRow_7 : decode cX6_pushRow 7 = .ok (.aload_n 0, 1) := by decide +kernel
theorem dX6_pushRow_8 : decode cX6_pushRow 8 = .ok (.getfield 49, 3) := by decide +kernel
theorem dX6_pushRow_11 : decode cX6_pushRow 11 = .ok (.sipush 140, 3) := by decide +kernel
theorem dX6_pushRow_14 : decode cX6_pushRow 14 = .ok (.if_icmp .ge 33, 3) := by decide +kernel
theorem dX6_pushRow_17 : decode cX6_pushRow 17 = .ok (.aload_n 0, 1) := by decide +kernel
theorem dX6_pushRow_18 : decode cX6_pushRow 18 = .ok (.getfield 33, 3) := by decide +kernel
theorem dX6_pushRow_21 : decode cX6_pushRow 21 = .ok (.aload_n 0, 1) := by decide +kernel
theorem dX6_pushRow_22 : decode cX6_pushRow 22 = .ok (.getfield 49, 3) := by decide +kernel
theorem dX6_pushRow_25 : decode cX6_pushRow 25 = .ok (.iload_n 1, 1) := by decide +kernel
theorem dX6_pushRow_26 : decode cX6_pushRow 26 = .ok (.iastore, 1) := by decide +kernel
theorem dX6_pushRow_27 : decode cX6_pushRow 27 = .ok (.aload_n 0, 1) := by decide +kernel
theorem dX6_pushRow_28 : decode cX6_pushRow 28 = .ok (.getfield 36, 3) := by decide +kernel
theorem dX6_pushRow_31 : decode cX6_pushRow 31 = .ok (.aload_n 0, 1) := by decide +kernel
theorem dX6_pushRow_32 : decode cX6_pushRow 32 = .ok (.getfield 49, 3) := by decide +kernel
theorem dX6_pushRow_35 : decode cX6_pushRow 35 = .ok (.iload_n 2, 1) := by decide +kernel
theorem dX6_pushRow_36 : decode cX6_pushRow 36 = .ok (.iastore, 1) := by decide +kernel
theorem dX6_pushRow_37 : decode cX6_pushRow 37 = .ok (.aload_n 0, 1) := by decide +kernel
theorem dX6_pushRow_38 : decode cX6_pushRow 38 = .ok (.dup, 1) := by decide +kernel
theorem dX6_pushRow_39 : decode cX6_pushRow 39 = .ok (.getfield 49, 3) := by decide +kernel
theorem dX6_pushRow_42 : decode cX6_pushRow 42 = .ok (.iconst 1, 1) := by decide +kernel
theorem dX6_pushRow_43 : decode cX6_pushRow 43 = .ok (.iadd, 1) := by decide +kernel
theorem dX6_pushRow_44 : decode cX6_pushRow 44 = .ok (.putfield 49, 3) := by decide +kernel
theorem dX6_pushRow_47 : decode cX6_pushRow 47 = .ok (.return_, 1) := by decide +kernel
abbrev mtX6_pushRow : mj_T := (yX6_pushRow.cls, cX6_pushRow, 3, none, mj_no, yX6_pushRow.name)
abbrev kX6_pushRow (k0 : Nat) (x1 : Int32) (x2 : Int32) (g : mj_S) (M : mj_M) (q : mj_M → Prop) : Prop := mj_CV yX6_pushRow (.code yX6_pushRow cX6_pushRow 3 none) 0 [.ref (k0), .int (x1), .int (x2)] g M q
theorem kiX6_pushRow : mj_cV yX6_pushRow cX6_pushRow 3 none 2 := ⟨⟨wd_390, wd_391, wd_2, wd_392⟩, ⟨by decide +kernel, by decide +kernel, by decide +kernel⟩, Nat.le_of_ble_eq_true rfl⟩
theorem eX6_pushRow {k0 : Nat} {x1 : Int32} {x2 : Int32} {g : mj_S} {M : mj_M} {q : mj_M → Prop} (h0 : is6 g k0) (h : (((M).1 (k0) 2 : Int32) < 0 → q (M)) ∧ (¬ ((M).1 (k0) 2 : Int32) < 0 → ((140 : Int32) ≤ ((M).1 (k0) 2) → q (M)) ∧ (¬ (140 : Int32) ≤ ((M).1 (k0) 2) → vp_in ((M).1 (k0) 2) (140) ∧ (vp_in ((mj_wI (M) (k0 + 8) (Int32.toNatClampNeg ((M).1 (k0) 2)) (x1)).1 (k0) 2) (140) ∧ (q (mj_wI (mj_wI (mj_wI (M) (k0 + 8) (Int32.toNatClampNeg ((M).1 (k0) 2)) (x1)) (k0 + 9) (Int32.toNatClampNeg ((mj_wI (M) (k0 + 8) (Int32.toNatClampNeg ((M).1 (k0) 2)) (x1)).1 (k0) 2)) (x2)) (k0) 2 (((mj_wI (mj_wI (M) (k0 + 8) (Int32.toNatClampNeg ((M).1 (k0) 2)) (x1)) (k0 + 9) (Int32.toNatClampNeg ((mj_wI (M) (k0 + 8) (Int32.toNatClampNeg ((M).1 (k0) 2)) (x1)).1 (k0) 2)) (x2)).1 (k0) 2) + (1 : Int32)))))))) : kX6_pushRow (k0) (x1) (x2) g M q := by
  intro d hd; refine mj_enter (by decide +kernel) (Nat.le_of_ble_eq_true rfl) ?_
  generalize (false : Bool) = ex
  show mj_G mtX6_pushRow (mj_rm d 0 0) (mj_Fi (mj_qV g q) mj_x0 0 0) ex 0 0 0 [(0, .ref (k0)), (1, .int (x1)), (2, .int (x2))] [] g M
  refine mg_aload_n dX6_pushRow_0 rfl 0 rfl ?_
  refine mg_getI (j := 2) dX6_pushRow_1 kc_6 (Nat.le_of_ble_eq_true rfl) wd_70 rfl rfl h0.1.1 h0.1.2 rfl ?_
  refine mg_if_lt (tgt := 47) dX6_pushRow_4 (by decide) (fun hc => ?_) (fun hc => ?_)
  · replace h := h.1 hc
    exact me_v dX6_pushRow_47 rfl h
  · replace h := h.2 hc
    refine mg_aload_n dX6_pushRow_7 rfl 0 rfl ?_
    refine mg_getI (j := 2) dX6_pushRow_8 kc_6 (Nat.le_of_ble_eq_true rfl) wd_70 rfl rfl h0.1.1 h0.1.2 rfl ?_
    refine mg_sipush (v := 140) dX6_pushRow_11 (by decide) ?_
    refine mg_icmp_ge (tgt := 47) dX6_pushRow_14 (by decide) (fun hc => ?_) (fun hc => ?_)
    · replace h := h.1 hc
      exact me_v dX6_pushRow_47 rfl h
    · replace h := h.2 hc
      refine mg_aload_n dX6_pushRow_17 rfl 0 rfl ?_
      refine mg_getR (j := 8) dX6_pushRow_18 kc_6 (Nat.le_of_ble_eq_true rfl) wd_81 rfl rfl h0.1.1 h0.1.2 h0.2.2.2.2.2.2.1.1 ?_
      refine mg_aload_n dX6_pushRow_21 rfl 0 rfl ?_
      refine mg_getI (j := 2) dX6_pushRow_22 kc_6 (Nat.le_of_ble_eq_true rfl) wd_70 rfl rfl h0.1.1 h0.1.2 rfl ?_
      refine mg_iload_n dX6_pushRow_25 rfl 1 rfl ?_
      refine mg_iast dX6_pushRow_26 h0.2.2.2.2.2.2.1.2.1 h0.2.2.2.2.2.2.1.2.2 h.1 ?_
      replace h := h.2
      refine mg_aload_n dX6_pushRow_27 rfl 0 rfl ?_
      refine mg_getR (j := 9) dX6_pushRow_28 kc_6 (Nat.le_of_ble_eq_true rfl) wd_82 rfl rfl h0.1.1 h0.1.2 h0.2.2.2.2.2.2.2.1 ?_
      refine mg_aload_n dX6_pushRow_31 rfl 0 rfl ?_
      refine mg_getI (j := 2) dX6_pushRow_32 kc_6 (Nat.le_of_ble_eq_true rfl) wd_70 rfl rfl h0.1.1 h0.1.2 rfl ?_
      refine mg_iload_n dX6_pushRow_35 rfl 2 rfl ?_
      refine mg_iast dX6_pushRow_36 h0.2.2.2.2.2.2.2.2.1 h0.2.2.2.2.2.2.2.2.2 h.1 ?_
      replace h := h.2
      refine mg_aload_n dX6_pushRow_37 rfl 0 rfl ?_
      refine mg_dup dX6_pushRow_38 rfl ?_
      refine mg_getI (j := 2) dX6_pushRow_39 kc_6 (Nat.le_of_ble_eq_true rfl) wd_70 rfl rfl h0.1.1 h0.1.2 rfl ?_
      refine mg_iconst (v := 1) dX6_pushRow_42 (by decide) ?_
      refine mg_iadd dX6_pushRow_43 ?_
      refine mg_putI (j := 2) dX6_pushRow_44 kc_6 (Nat.le_of_ble_eq_true rfl) wd_70 rfl rfl rfl h0.1.1 h0.1.2 ?_
      exact me_v dX6_pushRow_47 rfl h
theorem dX6_copyFrom_0 : decode cX6_copyFrom 0 = .ok (.aload_n 0, 1) := by decide +kernel
theorem dX6_copyFrom_1 : decode cX6_copyFrom 1 = .ok (.aload_n 1, 1) := by decide +kernel
theorem dX6_copyFrom_2 : decode cX6_copyFrom 2 = .ok (.getfield 42, 3) := by decide +kernel
theorem dX6_copyFrom_5 : decode cX6_copyFrom 5 = .ok (.putfield 42, 3) := by decide +kernel
theorem dX6_copyFrom_8 : decode cX6_copyFrom 8 = .ok (.aload_n 0, 1) := by decide +kernel
theorem dX6_copyFrom_9 : decode cX6_copyFrom 9 = .ok (.aload_n 1, 1) := by decide +kernel
theorem dX6_copyFrom_10 : decode cX6_copyFrom 10 = .ok (.getfield 46, 3) := by decide +kernel
theorem dX6_copyFrom_13 : decode cX6_copyFrom 13 = .ok (.putfield 46, 3) := by decide +kernel
theorem dX6_copyFrom_16 : decode cX6_copyFrom 16 = .ok (.aload_n 0, 1) := by decide +kernel
theorem dX6_copyFrom_17 : decode cX6_copyFrom 17 = .ok (.getfield 14, 3) := by decide +kernel
theorem dX6_copyFrom_20 : decode cX6_copyFrom 20 = .ok (.aload_n 1, 1) := by decide +kernel
theorem dX6_copyFrom_21 : decode cX6_copyFrom 21 = .ok (.getfield 14, 3) := by decide +kernel
theorem dX6_copyFrom_24 : decode cX6_copyFrom 24 = .ok (.invokevirtual 55, 3) := by decide +kernel
theorem dX6_copyFrom_27 : decode cX6_copyFrom 27 = .ok (.aload_n 0, 1) := by decide +kernel
theorem dX6_copyFrom_28 : decode cX6_copyFrom 28 = .ok (.getfield 20, 3) := by decide +kernel
theorem dX6_copyFrom_31 : decode cX6_copyFrom 31 = .ok (.aload_n 1, 1) := by decide +kernel
theorem dX6_copyFrom_32 : decode cX6_copyFrom 32 = .ok (.getfield 20, 3) := by decide +kernel
theorem dX6_copyFrom_35 : decode cX6_copyFrom 35 = .ok (.invokevirtual 55, 3) := by decide +kernel
theorem dX6_copyFrom_38 : decode cX6_copyFrom 38 = .ok (.iconst 0, 1) := by decide +kernel
theorem dX6_copyFrom_39 : decode cX6_copyFrom 39 = .ok (.istore_n 2, 1) := by decide +kernel
theorem dX6_copyFrom_40 : decode cX6_copyFrom 40 = .ok (.iload_n 2, 1) := by decide +kernel
theorem dX6_copyFrom_41 : decode cX6_copyFrom 41 = .ok (.bipush 10, 2) := by decide +kernel
theorem dX6_copyFrom_43 : decode cX6_copyFrom 43 = .ok (.if_icmp .ge 33, 3) := by decide +kernel
theorem dX6_copyFrom_46 : decode cX6_copyFrom 46 = .ok (.aload_n 0, 1) := by decide +kernel
theorem dX6_copyFrom_47 : decode cX6_copyFrom 47 = .ok (.getfield 23, 3) := by decide +kernel
theorem dX6_copyFrom_50 : decode cX6_copyFrom 50 = .ok (.iload_n 2, 1) := by decide +kernel
theorem dX6_copyFrom_51 : decode cX6_copyFrom 51 = .ok (.aload_n 1, 1) := by decide +kernel
theorem dX6_copyFrom_52 : decode cX6_copyFrom 52 = .ok (.getfield 23, 3) := by decide +kernel
theorem dX6_copyFrom_55 : decode cX6_copyFrom 55 = .ok (.iload_n 2, 1) := by decide +kernel
theorem dX6_copyFrom_56 : decode cX6_copyFrom 56 = .ok (.iaload, 1) := by decide +kernel
theorem dX6_copyFrom_57 : decode cX6_copyFrom 57 = .ok (.iastore, 1) := by decide +kernel
theorem dX6_copyFrom_58 : decode cX6_copyFrom 58 = .ok (.aload_n 0, 1) := by decide +kernel
theorem dX6_copyFrom_59 : decode cX6_copyFrom 59 = .ok (.getfield 27, 3) := by decide +kernel
theorem dX6_copyFrom_62 : decode cX6_copyFrom 62 = .ok (.iload_n 2, 1) := by decide +kernel
theorem dX6_copyFrom_63 : decode cX6_copyFrom 63 = .ok (.aload_n 1, 1) := by decide +kernel
theorem dX6_copyFrom_64 : decode cX6_copyFrom 64 = .ok (.getfield 27, 3) := by decide +kernel
theorem dX6_copyFrom_67 : decode cX6_copyFrom 67 = .ok (.iload_n 2, 1) := by decide +kernel
theorem dX6_copyFrom_68 : decode cX6_copyFrom 68 = .ok (.iaload, 1) := by decide +kernel
theorem dX6_copyFrom_69 : decode cX6_copyFrom 69 = .ok (.iastore, 1) := by decide +kernel
theorem dX6_copyFrom_70 : decode cX6_copyFrom 70 = .ok (.iinc 2 1, 3) := by decide +kernel
theorem dX6_copyFrom_73 : decode cX6_copyFrom 73 = .ok (.goto (-33), 3) := by decide +kernel
theorem dX6_copyFrom_76 : decode cX6_copyFrom 76 = .ok (.iconst 0, 1) := by decide +kernel
theorem dX6_copyFrom_77 : decode cX6_copyFrom 77 = .ok (.istore_n 2, 1) := by decide +kernel
theorem dX6_copyFrom_78 : decode cX6_copyFrom 78 = .ok (.iload_n 2, 1) := by decide +kernel
theorem dX6_copyFrom_79 : decode cX6_copyFrom 79 = .ok (.bipush 10, 2) := by decide +kernel
theorem dX6_copyFrom_81 : decode cX6_copyFrom 81 = .ok (.if_icmp .ge 21, 3) := by decide +kernel
theorem dX6_copyFrom_84 : decode cX6_copyFrom 84 = .ok (.aload_n 0, 1) := by decide +kernel
theorem dX6_copyFrom_85 : decode cX6_copyFrom 85 = .ok (.getfield 30, 3) := by decide +kernel
theorem dX6_copyFrom_88 : decode cX6_copyFrom 88 = .ok (.iload_n 2, 1) := by decide +kernel
theorem dX6_copyFrom_89 : decode cX6_copyFrom 89 = .ok (.aload_n 1, 1) := by decide +kernel
theorem dX6_copyFrom_90 : decode cX6_copyFrom 90 = .ok (.getfield 30, 3) := by decide +kernel
theorem dX6_copyFrom_93 : decode cX6_copyFrom 93 = .ok (.iload_n 2, 1) := by decide +kernel
theorem dX6_copyFrom_94 : decode cX6_copyFrom 94 = .ok (.iaload, 1) := by decide +kernel
theorem dX6_copyFrom_95 : decode cX6_copyFrom 95 = .ok (.iastore, 1) := by decide +kernel
theorem dX6_copyFrom_96 : decode cX6_copyFrom 96 = .ok (.iinc 2 1, 3) := by decide +kernel
theorem dX6_copyFrom_99 : decode cX6_copyFrom 99 = .ok (.goto (-21), 3) := by decide +kernel
theorem dX6_copyFrom_102 : decode cX6_copyFrom 102 = .ok (.aload_n 0, 1) := by decide +kernel
theorem dX6_copyFrom_103 : decode cX6_copyFrom 103 = .ok (.iconst 0, 1) := by decide +kernel
theorem dX6_copyFrom_104 : decode cX6_copyFrom 104 = .ok (.putfield 49, 3) := by decide +kernel
theorem dX6_copyFrom_107 : decode cX6_copyFrom 107 = .ok (.iconst 0, 1) := by decide +kernel
theorem dX6_copyFrom_108 : decode cX6_copyFrom 108 = .ok (.istore_n 2, 1) := by decide +kernel
theorem dX6_copyFrom_109 : decode cX6_copyFrom 109 = .ok (.iload_n 2, 1) := by decide +kernel
theorem dX6_copyFrom_110 : decode cX6_copyFrom 110 = .ok (.aload_n 1, 1) := by decide +kernel
theorem dX6_copyFrom_111 : decode cX6_copyFrom 111 = .ok (.getfield 49, 3) := by decide +kernel
theorem dX6_copyFrom_114 : decode cX6_copyFrom 114 = .ok (.if_icmp .ge 23, 3) := by decide +kernel
theorem dX6_copyFrom_117 : decode cX6_copyFrom 117 = .ok (.aload_n 0, 1) := by decide +kernel
theorem dX6_copyFrom_118 : decode cX6_copyFrom 118 = .ok (.aload_n 1, 1) := by decide +kernel
theorem dX6_copyFrom_119 : decode cX6_copyFrom 119 = .ok (.iload_n 2, 1) := by decide +kernel
theorem dX6_copyFrom_120 : decode cX6_copyFrom 120 = .ok (.invokevirtual 59, 3) := by decide +kernel
theorem dX6_copyFrom_123 : decode cX6_copyFrom 123 = .ok (.aload_n 1, 1) := by decide +kernel
theorem dX6_copyFrom_124 : decode cX6_copyFrom 124 = .ok (.iload_n 2, 1) := by decide +kernel
theorem dX6_copyFrom_125 : decode cX6_copyFrom 125 = .ok (.invokevirtual 63, 3) := by decide +kernel
theorem dX6_copyFrom_128 : decode cX6_copyFrom 128 = .ok (.invokevirtual 66, 3) := by decide +kernel
theorem dX6_copyFrom_131 : decode cX6_copyFrom 131 = .ok (.iinc 2 1, 3) := by decide +kernel
theorem dX6_copyFrom_134 : decode cX6_copyFrom 134 = .ok (.goto (-25), 3) := by decide +kernel
theorem dX6_copyFrom_137 : decode cX6_copyFrom 137 = .ok (.return_, 1) := by decide +kernel
abbrev mtX6_copyFrom : mj_T := (yX6_copyFrom.cls, cX6_copyFrom, 3, none, mj_no, yX6_copyFrom.name)
abbrev kX6_copyFrom (k0 : Nat) (k1 : Nat) (g : mj_S) (M : mj_M) (q : mj_M → Prop) : Prop := mj_CV yX6_copyFrom (.code yX6_copyFrom cX6_copyFrom 3 none) 2 [.ref (k0), .ref (k1)] g M q
theorem kiX6_copyFrom : mj_cV yX6_copyFrom cX6_copyFrom 3 none 1 := ⟨⟨wd_377, wd_378, wd_2, wd_379⟩, ⟨by decide +kernel, by decide +kernel, by decide +kernel⟩, Nat.le_of_ble_eq_true rfl⟩
def LX6_copyFrom_40 (k0 : Nat) (k1 : Nat) (x2 : Int32) (g : mj_S) (M : mj_M) (q : mj_M → Prop) : Prop := ∀ d, 2 ≤ d → ∀ ex : Bool, mj_G mtX6_copyFrom (mj_rm d 0 0) (mj_Fi (mj_qV g q) mj_x0 0 0) ex 0 0 40 [(0, .ref (k0)), (1, .ref (k1)), (2, .int (x2))] [] g M
def LX6_copyFrom_78 (k0 : Nat) (k1 : Nat) (x2 : Int32) (g : mj_S) (M : mj_M) (q : mj_M → Prop) : Prop := ∀ d, 2 ≤ d → ∀ ex : Bool, mj_G mtX6_copyFrom (mj_rm d 0 0) (mj_Fi (mj_qV g q) mj_x0 0 0) ex 0 0 78 [(0, .ref (k0)), (1, .ref (k1)), (2, .int (x2))] [] g M
def LX6_copyFrom_109 (k0 : Nat) (k1 : Nat) (x2 : Int32) (g : mj_S) (M : mj_M) (q : mj_M → Prop) : Prop := ∀ d, 2 ≤ d → ∀ ex : Bool, mj_G mtX6_copyFrom (mj_rm d 0 0) (mj_Fi (mj_qV g q) mj_x0 0 0) ex 0 0 109 [(0, .ref (k0)), (1, .ref (k1)), (2, .int (x2))] [] g M
theorem eX6_copyFrom {k0 : Nat} {k1 : Nat} {g : mj_S} {M : mj_M} {q : mj_M → Prop} (h0 : is6 g k0) (h1 : is6 g k1) (h : ∃ (q1 : mj_M → Prop), kX0_copyFrom (k0 + 1) (k1 + 1) g (mj_wI (mj_wI (M) (k0) 0 ((M).1 (k1) 0)) (k0) 1 ((mj_wI (M) (k0) 0 ((M).1 (k1) 0)).1 (k1) 1)) q1 ∧ ∀ (M1 : mj_M), q1 M1 → (∃ (q2 : mj_M → Prop), kX0_copyFrom (k0 + 3) (k1 + 3) g (M1) q2 ∧ ∀ (M2 : mj_M), q2 M2 → (LX6_copyFrom_40 k0 k1 (0) g (M2) q))) : kX6_copyFrom (k0) (k1) g M q := by
  intro d hd; refine mj_enter (by decide +kernel) (Nat.le_of_ble_eq_true rfl) ?_
  generalize (false : Bool) = ex
  show mj_G mtX6_copyFrom (mj_rm d 0 0) (mj_Fi (mj_qV g q) mj_x0 0 0) ex 0 0 0 [(0, .ref (k0)), (1, .ref (k1))] [] g M
  refine mg_aload_n dX6_copyFrom_0 rfl 0 rfl ?_
  refine mg_aload_n dX6_copyFrom_1 rfl 1 rfl ?_
  refine mg_getI (j := 0) dX6_copyFrom_2 kc_6 (Nat.le_of_ble_eq_true rfl) wd_64 rfl rfl h1.1.1 h1.1.2 rfl ?_
  refine mg_putI (j := 0) dX6_copyFrom_5 kc_6 (Nat.le_of_ble_eq_true rfl) wd_64 rfl rfl rfl h0.1.1 h0.1.2 ?_
  refine mg_aload_n dX6_copyFrom_8 rfl 0 rfl ?_
  refine mg_aload_n dX6_copyFrom_9 rfl 1 rfl ?_
  refine mg_getI (j := 1) dX6_copyFrom_10 kc_6 (Nat.le_of_ble_eq_true rfl) wd_67 rfl rfl h1.1.1 h1.1.2 rfl ?_
  refine mg_putI (j := 1) dX6_copyFrom_13 kc_6 (Nat.le_of_ble_eq_true rfl) wd_67 rfl rfl rfl h0.1.1 h0.1.2 ?_
  refine mg_aload_n dX6_copyFrom_16 rfl 0 rfl ?_
  refine mg_getR (j := 3) dX6_copyFrom_17 kc_6 (Nat.le_of_ble_eq_true rfl) wd_73 rfl rfl h0.1.1 h0.1.2 h0.2.1.1 ?_
  refine mg_aload_n dX6_copyFrom_20 rfl 1 rfl ?_
  refine mg_getR (j := 3) dX6_copyFrom_21 kc_6 (Nat.le_of_ble_eq_true rfl) wd_73 rfl rfl h1.1.1 h1.1.2 h1.2.1.1 ?_
  obtain ⟨q1, hC, hk⟩ := h
  refine mc_Vv [.ref (k1 + 1)] [] dX6_copyFrom_24 wd_380 kiX0_copyFrom (Nat.le_of_ble_eq_true rfl) h0.2.1.2.1.1 h0.2.1.2.1.2 rfl (Nat.le_trans (Nat.le_of_ble_eq_true rfl) hd) hC (fun M1 hq => ?_)
  replace h := hk M1 hq
  refine mg_aload_n dX6_copyFrom_27 rfl 0 rfl ?_
  refine mg_getR (j := 4) dX6_copyFrom_28 kc_6 (Nat.le_of_ble_eq_true rfl) wd_76 rfl rfl h0.1.1 h0.1.2 h0.2.2.1.1 ?_
  refine mg_aload_n dX6_copyFrom_31 rfl 1 rfl ?_
  refine mg_getR (j := 4) dX6_copyFrom_32 kc_6 (Nat.le_of_ble_eq_true rfl) wd_76 rfl rfl h1.1.1 h1.1.2 h1.2.2.1.1 ?_
  obtain ⟨q2, hC, hk⟩ := h
  refine mc_Vv [.ref (k1 + 3)] [] dX6_copyFrom_35 wd_380 kiX0_copyFrom (Nat.le_of_ble_eq_true rfl) h0.2.2.1.2.1.1 h0.2.2.1.2.1.2 rfl (Nat.le_trans (Nat.le_of_ble_eq_true rfl) hd) hC (fun M2 hq => ?_)
  replace h := hk M2 hq
  refine mg_iconst (v := 0) dX6_copyFrom_38 (by decide) ?_
  refine mg_istore_n (ls' := [(2, .int (0)), (0, .ref (k0)), (1, .ref (k1))]) dX6_copyFrom_39 rfl (Nat.le_of_ble_eq_true rfl) rfl ?_
  exact mg_pick [1, 2, 0] rfl (h d hd ex)
theorem bX6_copyFrom_40 {k0 : Nat} {k1 : Nat} {x2 : Int32} {g : mj_S} {M : mj_M} {q : mj_M → Prop} (h0 : is6 g k0) (h1 : is6 g k1) (h : ((10 : Int32) ≤ (x2) → LX6_copyFrom_78 k0 k1 (0) g (M) q) ∧ (¬ (10 : Int32) ≤ (x2) → vp_in (x2) (10) ∧ (vp_in (x2) (10) ∧ (vp_in (x2) (10) ∧ (vp_in (x2) (10) ∧ (LX6_copyFrom_40 k0 k1 (x2 + 1) g (mj_wI (mj_wI (M) (k0 + 5) (Int32.toNatClampNeg (x2)) ((M).1 (k1 + 5) (Int32.toNatClampNeg (x2)))) (k0 + 6) (Int32.toNatClampNeg (x2)) ((mj_wI (M) (k0 + 5) (Int32.toNatClampNeg (x2)) ((M).1 (k1 + 5) (Int32.toNatClampNeg (x2)))).1 (k1 + 6) (Int32.toNatClampNeg (x2)))) q)))))) : LX6_copyFrom_40 k0 k1 x2 g M q := by
  intro d hd ex
  refine mg_iload_n dX6_copyFrom_40 rfl 2 rfl ?_
  refine mg_bipush (v := 10) dX6_copyFrom_41 (by decide) ?_
  refine mg_icmp_ge (tgt := 76) dX6_copyFrom_43 (by decide) (fun hc => ?_) (fun hc => ?_)
  · replace h := h.1 hc
    refine mg_iconst (v := 0) dX6_copyFrom_76 (by decide) ?_
    refine mg_istore_n (ls' := [(2, .int (0)), (0, .ref (k0)), (1, .ref (k1))]) dX6_copyFrom_77 rfl (Nat.le_of_ble_eq_true rfl) rfl ?_
    exact mg_pick [1, 2, 0] rfl (h d hd ex)
  · replace h := h.2 hc
    refine mg_aload_n dX6_copyFrom_46 rfl 0 rfl ?_
    refine mg_getR (j := 5) dX6_copyFrom_47 kc_6 (Nat.le_of_ble_eq_true rfl) wd_78 rfl rfl h0.1.1 h0.1.2 h0.2.2.2.1.1 ?_
    refine mg_iload_n dX6_copyFrom_50 rfl 2 rfl ?_
    refine mg_aload_n dX6_copyFrom_51 rfl 1 rfl ?_
    refine mg_getR (j := 5) dX6_copyFrom_52 kc_6 (Nat.le_of_ble_eq_true rfl) wd_78 rfl rfl h1.1.1 h1.1.2 h1.2.2.2.1.1 ?_
    refine mg_iload_n dX6_copyFrom_55 rfl 2 rfl ?_
    refine mg_iald dX6_copyFrom_56 h1.2.2.2.1.2.1 h1.2.2.2.1.2.2 h.1 rfl ?_
    replace h := h.2
    refine mg_iast dX6_copyFrom_57 h0.2.2.2.1.2.1 h0.2.2.2.1.2.2 h.1 ?_
    replace h := h.2
    refine mg_aload_n dX6_copyFrom_58 rfl 0 rfl ?_
    refine mg_getR (j := 6) dX6_copyFrom_59 kc_6 (Nat.le_of_ble_eq_true rfl) wd_79 rfl rfl h0.1.1 h0.1.2 h0.2.2.2.2.1.1 ?_
    refine mg_iload_n dX6_copyFrom_62 rfl 2 rfl ?_
    refine mg_aload_n dX6_copyFrom_63 rfl 1 rfl ?_
    refine mg_getR (j := 6) dX6_copyFrom_64 kc_6 (Nat.le_of_ble_eq_true rfl) wd_79 rfl rfl h1.1.1 h1.1.2 h1.2.2.2.2.1.1 ?_
    refine mg_iload_n dX6_copyFrom_67 rfl 2 rfl ?_
    refine mg_iald dX6_copyFrom_68 h1.2.2.2.2.1.2.1 h1.2.2.2.2.1.2.2 h.1 rfl ?_
    replace h := h.2
    refine mg_iast dX6_copyFrom_69 h0.2.2.2.2.1.2.1 h0.2.2.2.2.1.2.2 h.1 ?_
    replace h := h.2
    refine mg_iinc (v := x2 + 1) (ls' := [(2, .int (x2 + 1)), (0, .ref (k0)), (1, .ref (k1))]) dX6_copyFrom_70 2 rfl rfl (Nat.le_of_ble_eq_true rfl) rfl ?_
    refine mg_goto (tgt := 40) dX6_copyFrom_73 (by decide) ?_
    exact mg_pick [1, 2, 0] rfl (h d hd ex)
theorem bX6_copyFrom_78 {k0 : Nat} {k1 : Nat} {x2 : Int32} {g : mj_S} {M : mj_M} {q : mj_M → Prop} (h0 : is6 g k0) (h1 : is6 g k1) (h : ((10 : Int32) ≤ (x2) → LX6_copyFrom_109 k0 k1 (0) g (mj_wI (M) (k0) 2 (0)) q) ∧ (¬ (10 : Int32) ≤ (x2) → vp_in (x2) (10) ∧ (vp_in (x2) (10) ∧ (LX6_copyFrom_78 k0 k1 (x2 + 1) g (mj_wI (M) (k0 + 7) (Int32.toNatClampNeg (x2)) ((M).1 (k1 + 7) (Int32.toNatClampNeg (x2)))) q)))) : LX6_copyFrom_78 k0 k1 x2 g M q := by
  intro d hd ex
  refine mg_iload_n dX6_copyFrom_78 rfl 2 rfl ?_
  refine mg_bipush (v := 10) dX6_copyFrom_79 (by decide) ?_
  refine mg_icmp_ge (tgt := 102) dX6_copyFrom_81 (by decide) (fun hc => ?_) (fun hc => ?_)
  · replace h := h.1 hc
    refine mg_aload_n dX6_copyFrom_102 rfl 0 rfl ?_
    refine mg_iconst (v := 0) dX6_copyFrom_103 (by decide) ?_
    refine mg_putI (j := 2) dX6_copyFrom_104 kc_6 (Nat.le_of_ble_eq_true rfl) wd_70 rfl rfl rfl h0.1.1 h0.1.2 ?_
    refine mg_iconst (v := 0) dX6_copyFrom_107 (by decide) ?_
    refine mg_istore_n (ls' := [(2, .int (0)), (0, .ref (k0)), (1, .ref (k1))]) dX6_copyFrom_108 rfl (Nat.le_of_ble_eq_true rfl) rfl ?_
    exact mg_pick [1, 2, 0] rfl (h d hd ex)
  · replace h := h.2 hc
    refine mg_aload_n dX6_copyFrom_84 rfl 0 rfl ?_
    refine mg_getR (j := 7) dX6_copyFrom_85 kc_6 (Nat.le_of_ble_eq_true rfl) wd_80 rfl rfl h0.1.1 h0.1.2 h0.2.2.2.2.2.1.1 ?_
    refine mg_iload_n dX6_copyFrom_88 rfl 2 rfl ?_
    refine mg_aload_n dX6_copyFrom_89 rfl 1 rfl ?_
    refine mg_getR (j := 7) dX6_copyFrom_90 kc_6 (Nat.le_of_ble_eq_true rfl) wd_80 rfl rfl h1.1.1 h1.1.2 h1.2.2.2.2.2.1.1 ?_
    refine mg_iload_n dX6_copyFrom_93 rfl 2 rfl ?_
    refine mg_iald dX6_copyFrom_94 h1.2.2.2.2.2.1.2.1 h1.2.2.2.2.2.1.2.2 h.1 rfl ?_
    replace h := h.2
    refine mg_iast dX6_copyFrom_95 h0.2.2.2.2.2.1.2.1 h0.2.2.2.2.2.1.2.2 h.1 ?_
    replace h := h.2
    refine mg_iinc (v := x2 + 1) (ls' := [(2, .int (x2 + 1)), (0, .ref (k0)), (1, .ref (k1))]) dX6_copyFrom_96 2 rfl rfl (Nat.le_of_ble_eq_true rfl) rfl ?_
    refine mg_goto (tgt := 78) dX6_copyFrom_99 (by decide) ?_
    exact mg_pick [1, 2, 0] rfl (h d hd ex)
theorem bX6_copyFrom_109 {k0 : Nat} {k1 : Nat} {x2 : Int32} {g : mj_S} {M : mj_M} {q : mj_M → Prop} (h0 : is6 g k0) (h1 : is6 g k1) (h : (((M).1 (k1) 2 : Int32) ≤ (x2) → q (M)) ∧ (¬ ((M).1 (k1) 2 : Int32) ≤ (x2) → ∃ (q1 : Int32 → mj_M → Prop), kX6_setOfRow (k1) (x2) g (M) q1 ∧ ∀ (v1 : Int32) (M1 : mj_M), q1 v1 M1 → (∃ (q2 : Int32 → mj_M → Prop), kX6_witnessOfRow (k1) (x2) g (M1) q2 ∧ ∀ (v2 : Int32) (M2 : mj_M), q2 v2 M2 → (∃ (q3 : mj_M → Prop), kX6_pushRow (k0) (v1) (v2) g (M2) q3 ∧ ∀ (M3 : mj_M), q3 M3 → (LX6_copyFrom_109 k0 k1 (x2 + 1) g (M3) q))))) : LX6_copyFrom_109 k0 k1 x2 g M q := by
  intro d hd ex
  refine mg_iload_n dX6_copyFrom_109 rfl 2 rfl ?_
  refine mg_aload_n dX6_copyFrom_110 rfl 1 rfl ?_
  refine mg_getI (j := 2) dX6_copyFrom_111 kc_6 (Nat.le_of_ble_eq_true rfl) wd_70 rfl rfl h1.1.1 h1.1.2 rfl ?_
  refine mg_icmp_ge (tgt := 137) dX6_copyFrom_114 (by decide) (fun hc => ?_) (fun hc => ?_)
  · replace h := h.1 hc
    exact me_v dX6_copyFrom_137 rfl h
  · replace h := h.2 hc
    refine mg_aload_n dX6_copyFrom_117 rfl 0 rfl ?_
    refine mg_aload_n dX6_copyFrom_118 rfl 1 rfl ?_
    refine mg_iload_n dX6_copyFrom_119 rfl 2 rfl ?_
    obtain ⟨q1, hC, hk⟩ := h
    refine mc_Vi [.int (x2)] [.ref (k0)] dX6_copyFrom_120 wd_348 kiX6_setOfRow (Nat.le_of_ble_eq_true rfl) h1.1.1 h1.1.2 rfl (Nat.le_trans (Nat.le_of_ble_eq_true rfl) hd) hC (fun v1 M1 hq => ?_)
    replace h := hk v1 M1 hq
    refine mg_aload_n dX6_copyFrom_123 rfl 1 rfl ?_
    refine mg_iload_n dX6_copyFrom_124 rfl 2 rfl ?_
    obtain ⟨q2, hC, hk⟩ := h
    refine mc_Vi [.int (x2)] [.int (v1), .ref (k0)] dX6_copyFrom_125 wd_353 kiX6_witnessOfRow (Nat.le_of_ble_eq_true rfl) h1.1.1 h1.1.2 rfl (Nat.le_trans (Nat.le_of_ble_eq_true rfl) hd) hC (fun v2 M2 hq => ?_)
    replace h := hk v2 M2 hq
    obtain ⟨q3, hC, hk⟩ := h
    refine mc_Vv [.int (v1), .int (v2)] [] dX6_copyFrom_128 wd_389 kiX6_pushRow (Nat.le_of_ble_eq_true rfl) h0.1.1 h0.1.2 rfl (Nat.le_trans (Nat.le_of_ble_eq_true rfl) hd) hC (fun M3 hq => ?_)
    replace h := hk M3 hq
    refine mg_iinc (v := x2 + 1) (ls' := [(2, .int (x2 + 1)), (0, .ref (k0)), (1, .ref (k1))]) dX6_copyFrom_131 2 rfl rfl (Nat.le_of_ble_eq_true rfl) rfl ?_
    refine mg_goto (tgt := 109) dX6_copyFrom_134 (by decide) ?_
    exact mg_pick [1, 2, 0] rfl (h d hd ex)
theorem dX6_allVariables_0 : decode cX6_allVariables 0 = .ok (.iconst 1, 1) := by decide +kernel
theorem dX6_allVariables_1 : decode cX6_allVariables 1 = .ok (.aload_n 0, 1) := by decide +kernel
theorem dX6_allVariables_2 : decode cX6_allVariables 2 = .ok (.getfield 42, 3) := by decide +kernel
theorem dX6_allVariables_5 : decode cX6_allVariables 5 = .ok (.ishl, 1) := by decide +kernel
theorem dX6_allVariables_6 : decode cX6_allVariables 6 = .ok (.iconst 1, 1) := by decide +kernel
theorem dX6_allVariables_7 : decode cX6_allVariables 7 = .ok (.isub, 1) := by decide +kernel
theorem dX6_allVariables_8 : decode cX6_allVariables 8 = .ok (.ireturn, 1) := by decide +kernel
abbrev mtX6_allVariables : mj_T := (yX6_allVariables.cls, cX6_allVariables, 1, (some .int), mj_no, yX6_allVariables.name)
abbrev kX6_allVariables (k0 : Nat) (g : mj_S) (M : mj_M) (q : Int32 → mj_M → Prop) : Prop := mj_CI yX6_allVariables (.code yX6_allVariables cX6_allVariables 1 (some .int)) 0 [.ref (k0)] g M q
theorem kiX6_allVariables : mj_cV yX6_allVariables cX6_allVariables 1 (some .int) 0 := ⟨⟨wd_365, wd_366, wd_2, wd_367⟩, ⟨by decide +kernel, by decide +kernel, by decide +kernel⟩, Nat.le_of_ble_eq_true rfl⟩
theorem eX6_allVariables {k0 : Nat} {g : mj_S} {M : mj_M} {q : Int32 → mj_M → Prop} (h0 : is6 g k0) (h : q (((1 : Int32) <<< (((M).1 (k0) 0) &&& 31)) - (1 : Int32)) (M)) : kX6_allVariables (k0) g M q := by
  intro d hd; refine mj_enter (by decide +kernel) (Nat.le_of_ble_eq_true rfl) ?_
  generalize (false : Bool) = ex
  show mj_G mtX6_allVariables (mj_rm d 0 0) (mj_Fi (mj_qI g q) mj_x0 0 0) ex 0 0 0 [(0, .ref (k0))] [] g M
  refine mg_iconst (v := 1) dX6_allVariables_0 (by decide) ?_
  refine mg_aload_n dX6_allVariables_1 rfl 0 rfl ?_
  refine mg_getI (j := 0) dX6_allVariables_2 kc_6 (Nat.le_of_ble_eq_true rfl) wd_64 rfl rfl h0.1.1 h0.1.2 rfl ?_
  refine mg_ishl dX6_allVariables_5 ?_
  refine mg_iconst (v := 1) dX6_allVariables_6 (by decide) ?_
  refine mg_isub dX6_allVariables_7 ?_
  exact me_i dX6_allVariables_8 rfl h
theorem dX6_statusOf_0 : decode cX6_statusOf 0 = .ok (.iload_n 1, 1) := by decide +kernel
theorem dX6_statusOf_1 : decode cX6_statusOf 1 = .ok (.ifCond .lt 18, 3) := by decide +kernel
theorem dX6_statusOf_4 : decode cX6_statusOf 4 = .ok (.iload_n 1, 1) := by decide +kernel
theorem dX6_statusOf_5 : decode cX6_statusOf 5 = .ok (.bipush 10, 2) := by decide +kernel
theorem dX6_statusOf_7 : decode cX6_statusOf 7 = .ok (.if_icmp .ge 12, 3) := by decide +kernel
theorem dX6_statusOf_10 : decode cX6_statusOf 10 = .ok (.aload_n 0, 1) := by decide +kernel
theorem dX6_statusOf_11 : decode cX6_statusOf 11 = .ok (.getfield 23, 3) := by decide +kernel
theorem dX6_statusOf_14 : decode cX6_statusOf 14 = .ok (.iload_n 1, 1) := by decide +kernel
theorem dX6_statusOf_15 : decode cX6_statusOf 15 = .ok (.iaload, 1) := by decide +kernel
theorem dX6_statusOf_16 : decode cX6_statusOf 16 = .ok (.goto 4, 3) := by decide +kernel
theorem dX6_statusOf_19 : decode cX6_statusOf 19 = .ok (.iconst (-1), 1) := by decide +kernel
theorem dX6_statusOf_20 : decode cX6_statusOf 20 = .ok (.ireturn, 1) := by decide +kernel
abbrev mtX6_statusOf : mj_T := (yX6_statusOf.cls, cX6_statusOf, 2, (some .int), mj_no, yX6_statusOf.name)
abbrev kX6_statusOf (k0 : Nat) (x1 : Int32) (g : mj_S) (M : mj_M) (q : Int32 → mj_M → Prop) : Prop := mj_CI yX6_statusOf (.code yX6_statusOf cX6_statusOf 2 (some .int)) 0 [.ref (k0), .int (x1)] g M q
theorem kiX6_statusOf : mj_cV yX6_statusOf cX6_statusOf 2 (some .int) 1 := ⟨⟨wd_323, wd_324, wd_2, wd_325⟩, ⟨by decide +kernel, by decide +kernel, by decide +kernel⟩, Nat.le_of_ble_eq_true rfl⟩
theorem eX6_statusOf {k0 : Nat} {x1 : Int32} {g : mj_S} {M : mj_M} {q : Int32 → mj_M → Prop} (h0 : is6 g k0) (h : ((x1 : Int32) < 0 → q ((-1)) (M)) ∧ (¬ (x1 : Int32) < 0 → ((10 : Int32) ≤ (x1) → q ((-1)) (M)) ∧ (¬ (10 : Int32) ≤ (x1) → vp_in (x1) (10) ∧ (q ((M).1 (k0 + 5) (Int32.toNatClampNeg (x1))) (M))))) : kX6_statusOf (k0) (x1) g M q := by
  intro d hd; refine mj_enter (by decide +kernel) (Nat.le_of_ble_eq_true rfl) ?_
  generalize (false : Bool) = ex
  show mj_G mtX6_statusOf (mj_rm d 0 0) (mj_Fi (mj_qI g q) mj_x0 0 0) ex 0 0 0 [(0, .ref (k0)), (1, .int (x1))] [] g M
  refine mg_iload_n dX6_statusOf_0 rfl 1 rfl ?_
  refine mg_if_lt (tgt := 19) dX6_statusOf_1 (by decide) (fun hc => ?_) (fun hc => ?_)
  · replace h := h.1 hc
    refine mg_iconst (v := (-1)) dX6_statusOf_19 (by decide) ?_
    exact me_i dX6_statusOf_20 rfl h
  · replace h := h.2 hc
    refine mg_iload_n dX6_statusOf_4 rfl 1 rfl ?_
    refine mg_bipush (v := 10) dX6_statusOf_5 (by decide) ?_
    refine mg_icmp_ge (tgt := 19) dX6_statusOf_7 (by decide) (fun hc => ?_) (fun hc => ?_)
    · replace h := h.1 hc
      refine mg_iconst (v := (-1)) dX6_statusOf_19 (by decide) ?_
      exact me_i dX6_statusOf_20 rfl h
    · replace h := h.2 hc
      refine mg_aload_n dX6_statusOf_10 rfl 0 rfl ?_
      refine mg_getR (j := 5) dX6_statusOf_11 kc_6 (Nat.le_of_ble_eq_true rfl) wd_78 rfl rfl h0.1.1 h0.1.2 h0.2.2.2.1.1 ?_
      refine mg_iload_n dX6_statusOf_14 rfl 1 rfl ?_
      refine mg_iald dX6_statusOf_15 h0.2.2.2.1.2.1 h0.2.2.2.1.2.2 h.1 rfl ?_
      replace h := h.2
      refine mg_goto (tgt := 20) dX6_statusOf_16 (by decide) ?_
      exact me_i dX6_statusOf_20 rfl h
theorem dX6_isActive_0 : decode cX6_isActive 0 = .ok (.aload_n 0, 1) := by decide +kernel
theorem dX6_isActive_1 : decode cX6_isActive 1 = .ok (.iload_n 1, 1) := by decide +kernel
theorem dX6_isActive_2 : decode cX6_isActive 2 = .ok (.invokevirtual 74, 3) := by decide +kernel
theorem dX6_isActive_5 : decode cX6_isActive 5 = .ok (.ifCond .ne 7, 3) := by decide +kernel
theorem dX6_isActive_8 : decode cX6_isActive 8 = .ok (.iconst 1, 1) := by decide +kernel
theorem dX6_isActive_9 : decode cX6_isActive 9 = .ok (.goto 4, 3) := by decide +kernel
theorem dX6_isActive_12 : decode cX6_isActive 12 = .ok (.iconst 0, 1) := by decide +kernel
theorem dX6_isActive_13 : decode cX6_isActive 13 = .ok (.ireturn, 1) := by decide +kernel
abbrev mtX6_isActive : mj_T := (yX6_isActive.cls, cX6_isActive, 2, (some .boolean), mj_no, yX6_isActive.name)
abbrev kX6_isActive (k0 : Nat) (x1 : Int32) (g : mj_S) (M : mj_M) (q : Int32 → mj_M → Prop) : Prop := mj_CI yX6_isActive (.code yX6_isActive cX6_isActive 2 (some .boolean)) 1 [.ref (k0), .int (x1)] g M q
theorem kiX6_isActive : mj_cV yX6_isActive cX6_isActive 2 (some .boolean) 1 := ⟨⟨wd_319, wd_320, wd_2, wd_321⟩, ⟨by decide +kernel, by decide +kernel, by decide +kernel⟩, Nat.le_of_ble_eq_true rfl⟩
theorem eX6_isActive {k0 : Nat} {x1 : Int32} {g : mj_S} {M : mj_M} {q : Int32 → mj_M → Prop} (h0 : is6 g k0) (h : ∃ (q1 : Int32 → mj_M → Prop), kX6_statusOf (k0) (x1) g (M) q1 ∧ ∀ (v1 : Int32) (M1 : mj_M), q1 v1 M1 → ((¬ (v1 : Int32) = 0 → q 0 (M1)) ∧ ((v1 : Int32) = 0 → q 1 (M1)))) : kX6_isActive (k0) (x1) g M q := by
  intro d hd; refine mj_enter (by decide +kernel) (Nat.le_of_ble_eq_true rfl) ?_
  generalize (false : Bool) = ex
  show mj_G mtX6_isActive (mj_rm d 0 0) (mj_Fi (mj_qI g q) mj_x0 0 0) ex 0 0 0 [(0, .ref (k0)), (1, .int (x1))] [] g M
  refine mg_aload_n dX6_isActive_0 rfl 0 rfl ?_
  refine mg_iload_n dX6_isActive_1 rfl 1 rfl ?_
  obtain ⟨q1, hC, hk⟩ := h
  refine mc_Vi [.int (x1)] [] dX6_isActive_2 wd_322 kiX6_statusOf (Nat.le_of_ble_eq_true rfl) h0.1.1 h0.1.2 rfl (Nat.le_trans (Nat.le_of_ble_eq_true rfl) hd) hC (fun v1 M1 hq => ?_)
  replace h := hk v1 M1 hq
  refine mg_if_ne (tgt := 12) dX6_isActive_5 (by decide) (fun hc => ?_) (fun hc => ?_)
  · replace h := h.1 hc
    refine mg_iconst (v := 0) dX6_isActive_12 (by decide) ?_
    exact me_z dX6_isActive_13 rfl (Or.inl rfl) h
  · replace h := h.2 hc
    refine mg_iconst (v := 1) dX6_isActive_8 (by decide) ?_
    refine mg_goto (tgt := 13) dX6_isActive_9 (by decide) ?_
    exact me_z dX6_isActive_13 rfl (Or.inr rfl) h
theorem dX6_activeVariables_0 : decode cX6_activeVariables 0 = .ok (.iconst 0, 1) := by decide +kernel
theorem dX6_activeVariables_1 : decode cX6_activeVariables 1 = .ok (.istore_n 1, 1) := by decide +kernel
theorem dX6_activeVariables_2 : decode cX6_activeVariables 2 = .ok (.iconst 0, 1) := by decide +kernel
theorem dX6_activeVariables_3 : decode cX6_activeVariables 3 = .ok (.istore_n 2, 1) := by decide +kernel
theorem dX6_activeVariables_4 : decode cX6_activeVariables 4 = .ok (.iload_n 2, 1) := by decide +kernel
theorem dX6_activeVariables_5 : decode cX6_activeVariables 5 = .ok (.aload_n 0, 1) := by decide +kernel
theorem dX6_activeVariables_6 : decode cX6_activeVariables 6 = .ok (.getfield 42, 3) := by decide +kernel
theorem dX6_activeVariables_9 : decode cX6_activeVariables 9 = .ok (.if_icmp .ge 23, 3) := by decide +kernel
theorem dX6_activeVariables_12 : decode cX6_activeVariables 12 = .ok (.aload_n 0, 1) := by decide +kernel
theorem dX6_activeVariables_13 : decode cX6_activeVariables 13 = .ok (.iload_n 2, 1) := by decide +kernel
theorem dX6_activeVariables_14 : decode cX6_activeVariables 14 = .ok (.invokevirtual 70, 3) := by decide +kernel
theorem dX6_activeVariables_17 : decode cX6_activeVariables 17 = .ok (.ifCond .eq 9, 3) := by decide +kernel
theorem dX6_activeVariables_20 : decode cX6_activeVariables 20 = .ok (.iload_n 1, 1) := by decide +kernel
theorem dX6_activeVariables_21 : decode cX6_activeVariables 21 = .ok (.iconst 1, 1) := by decide +kernel
theorem dX6_activeVariables_22 : decode cX6_activeVariables 22 = .ok (.iload_n 2, 1) := by decide +kernel
theorem dX6_activeVariables_23 : decode cX6_activeVariables 23 = .ok (.ishl, 1) := by decide +kernel
theorem dX6_activeVariables_24 : decode cX6_activeVariables 24 = .ok (.ior, 1) := by decide +kernel
theorem dX6_activeVariables_25 : decode cX6_activeVariables 25 = .ok (.istore_n 1, 1) := by decide +kernel
theorem dX6_activeVariables_26 : decode cX6_activeVariables 26 = .ok (.iinc 2 1, 3) := by decide +kernel
theorem dX6_activeVariables_29 : decode cX6_activeVariables 29 = .ok (.goto (-25), 3) := by decide +kernel
theorem dX6_activeVariables_32 : decode cX6_activeVariables 32 = .ok (.iload_n 1, 1) := by decide +kernel
theorem dX6_activeVariables_33 : decode cX6_activeVariables 33 = .ok (.ireturn, 1) := by decide +kernel
abbrev mtX6_activeVariables : mj_T := (yX6_activeVariables.cls, cX6_activeVariables, 3, (some .int), mj_no, yX6_activeVariables.name)
abbrev kX6_activeVariables (k0 : Nat) (g : mj_S) (M : mj_M) (q : Int32 → mj_M → Prop) : Prop := mj_CI yX6_activeVariables (.code yX6_activeVariables cX6_activeVariables 3 (some .int)) 2 [.ref (k0)] g M q
theorem kiX6_activeVariables : mj_cV yX6_activeVariables cX6_activeVariables 3 (some .int) 0 := ⟨⟨wd_315, wd_316, wd_2, wd_317⟩, ⟨by decide +kernel, by decide +kernel, by decide +kernel⟩, Nat.le_of_ble_eq_true rfl⟩
def LX6_activeVariables_4 (k0 : Nat) (x1 : Int32) (x2 : Int32) (g : mj_S) (M : mj_M) (q : Int32 → mj_M → Prop) : Prop := ∀ d, 2 ≤ d → ∀ ex : Bool, mj_G mtX6_activeVariables (mj_rm d 0 0) (mj_Fi (mj_qI g q) mj_x0 0 0) ex 0 0 4 [(0, .ref (k0)), (1, .int (x1)), (2, .int (x2))] [] g M
theorem eX6_activeVariables {k0 : Nat} {g : mj_S} {M : mj_M} {q : Int32 → mj_M → Prop} (h0 : is6 g k0) (h : LX6_activeVariables_4 k0 (0) (0) g (M) q) : kX6_activeVariables (k0) g M q := by
  intro d hd; refine mj_enter (by decide +kernel) (Nat.le_of_ble_eq_true rfl) ?_
  generalize (false : Bool) = ex
  show mj_G mtX6_activeVariables (mj_rm d 0 0) (mj_Fi (mj_qI g q) mj_x0 0 0) ex 0 0 0 [(0, .ref (k0))] [] g M
  refine mg_iconst (v := 0) dX6_activeVariables_0 (by decide) ?_
  refine mg_istore_n (ls' := [(1, .int (0)), (0, .ref (k0))]) dX6_activeVariables_1 rfl (Nat.le_of_ble_eq_true rfl) rfl ?_
  refine mg_iconst (v := 0) dX6_activeVariables_2 (by decide) ?_
  refine mg_istore_n (ls' := [(2, .int (0)), (1, .int (0)), (0, .ref (k0))]) dX6_activeVariables_3 rfl (Nat.le_of_ble_eq_true rfl) rfl ?_
  exact mg_pick [2, 1, 0] rfl (h d hd ex)
theorem bX6_activeVariables_4 {k0 : Nat} {x1 : Int32} {x2 : Int32} {g : mj_S} {M : mj_M} {q : Int32 → mj_M → Prop} (h0 : is6 g k0) (h : (((M).1 (k0) 0 : Int32) ≤ (x2) → q (x1) (M)) ∧ (¬ ((M).1 (k0) 0 : Int32) ≤ (x2) → ∃ (q1 : Int32 → mj_M → Prop), kX6_isActive (k0) (x2) g (M) q1 ∧ ∀ (v1 : Int32) (M1 : mj_M), q1 v1 M1 → (((v1 : Int32) = 0 → LX6_activeVariables_4 k0 (x1) (x2 + 1) g (M1) q) ∧ (¬ (v1 : Int32) = 0 → LX6_activeVariables_4 k0 ((x1) ||| ((1 : Int32) <<< ((x2) &&& 31))) (x2 + 1) g (M1) q)))) : LX6_activeVariables_4 k0 x1 x2 g M q := by
  intro d hd ex
  refine mg_iload_n dX6_activeVariables_4 rfl 2 rfl ?_
  refine mg_aload_n dX6_activeVariables_5 rfl 0 rfl ?_
  refine mg_getI (j := 0) dX6_activeVariables_6 kc_6 (Nat.le_of_ble_eq_true rfl) wd_64 rfl rfl h0.1.1 h0.1.2 rfl ?_
  refine mg_icmp_ge (tgt := 32) dX6_activeVariables_9 (by decide) (fun hc => ?_) (fun hc => ?_)
  · replace h := h.1 hc
    refine mg_iload_n dX6_activeVariables_32 rfl 1 rfl ?_
    exact me_i dX6_activeVariables_33 rfl h
  · replace h := h.2 hc
    refine mg_aload_n dX6_activeVariables_12 rfl 0 rfl ?_
    refine mg_iload_n dX6_activeVariables_13 rfl 2 rfl ?_
    obtain ⟨q1, hC, hk⟩ := h
    refine mc_Vi [.int (x2)] [] dX6_activeVariables_14 wd_318 kiX6_isActive (Nat.le_of_ble_eq_true rfl) h0.1.1 h0.1.2 rfl (Nat.le_trans (Nat.le_of_ble_eq_true rfl) hd) hC (fun v1 M1 hq => ?_)
    replace h := hk v1 M1 hq
    refine mg_if_eq (tgt := 26) dX6_activeVariables_17 (by decide) (fun hc => ?_) (fun hc => ?_)
    · replace h := h.1 hc
      refine mg_iinc (v := x2 + 1) (ls' := [(2, .int (x2 + 1)), (0, .ref (k0)), (1, .int (x1))]) dX6_activeVariables_26 2 rfl rfl (Nat.le_of_ble_eq_true rfl) rfl ?_
      refine mg_goto (tgt := 4) dX6_activeVariables_29 (by decide) ?_
      exact mg_pick [1, 2, 0] rfl (h d hd ex)
    · replace h := h.2 hc
      refine mg_iload_n dX6_activeVariables_20 rfl 1 rfl ?_
      refine mg_iconst (v := 1) dX6_activeVariables_21 (by decide) ?_
      refine mg_iload_n dX6_activeVariables_22 rfl 2 rfl ?_
      refine mg_ishl dX6_activeVariables_23 ?_
      refine mg_ior dX6_activeVariables_24 ?_
      refine mg_istore_n (ls' := [(1, .int ((x1) ||| ((1 : Int32) <<< ((x2) &&& 31)))), (0, .ref (k0)), (2, .int (x2))]) dX6_activeVariables_25 rfl (Nat.le_of_ble_eq_true rfl) rfl ?_
      refine mg_iinc (v := x2 + 1) (ls' := [(2, .int (x2 + 1)), (1, .int ((x1) ||| ((1 : Int32) <<< ((x2) &&& 31)))), (0, .ref (k0))]) dX6_activeVariables_26 2 rfl rfl (Nat.le_of_ble_eq_true rfl) rfl ?_
      refine mg_goto (tgt := 4) dX6_activeVariables_29 (by decide) ?_
      exact mg_pick [2, 1, 0] rfl (h d hd ex)
theorem dX6_knownOf_0 : decode cX6_knownOf 0 = .ok (.iload_n 1, 1) := by decide +kernel
theorem dX6_knownOf_1 : decode cX6_knownOf 1 = .ok (.ifCond .lt 18, 3) := by decide +kernel
theorem dX6_knownOf_4 : decode cX6_knownOf 4 = .ok (.iload_n 1, 1) := by decide +kernel
theorem dX6_knownOf_5 : decode cX6_knownOf 5 = .ok (.bipush 10, 2) := by decide +kernel
theorem dX6_knownOf_7 : decode cX6_knownOf 7 = .ok (.if_icmp .ge 12, 3) := by decide +kernel
theorem dX6_knownOf_10 : decode cX6_knownOf 10 = .ok (.aload_n 0, 1) := by decide +kernel
theorem dX6_knownOf_11 : decode cX6_knownOf 11 = .ok (.getfield 27, 3) := by decide +kernel
theorem dX6_knownOf_14 : decode cX6_knownOf 14 = .ok (.iload_n 1, 1) := by decide +kernel
theorem dX6_knownOf_15 : decode cX6_knownOf 15 = .ok (.iaload, 1) := by decide +kernel
theorem dX6_knownOf_16 : decode cX6_knownOf 16 = .ok (.goto 4, 3) := by decide +kernel
theorem dX6_knownOf_19 : decode cX6_knownOf 19 = .ok (.iconst (-1), 1) := by decide +kernel
theorem dX6_knownOf_20 : decode cX6_knownOf 20 = .ok (.ireturn, 1) := by decide +kernel
abbrev mtX6_knownOf : mj_T := (yX6_knownOf.cls, cX6_knownOf, 2, (some .int), mj_no, yX6_knownOf.name)
abbrev kX6_knownOf (k0 : Nat) (x1 : Int32) (g : mj_S) (M : mj_M) (q : Int32 → mj_M → Prop) : Prop := mj_CI yX6_knownOf (.code yX6_knownOf cX6_knownOf 2 (some .int)) 0 [.ref (k0), .int (x1)] g M q
theorem kiX6_knownOf : mj_cV yX6_knownOf cX6_knownOf 2 (some .int) 1 := ⟨⟨wd_660, wd_661, wd_2, wd_662⟩, ⟨by decide +kernel, by decide +kernel, by decide +kernel⟩, Nat.le_of_ble_eq_true rfl⟩
theorem eX6_knownOf {k0 : Nat} {x1 : Int32} {g : mj_S} {M : mj_M} {q : Int32 → mj_M → Prop} (h0 : is6 g k0) (h : ((x1 : Int32) < 0 → q ((-1)) (M)) ∧ (¬ (x1 : Int32) < 0 → ((10 : Int32) ≤ (x1) → q ((-1)) (M)) ∧ (¬ (10 : Int32) ≤ (x1) → vp_in (x1) (10) ∧ (q ((M).1 (k0 + 6) (Int32.toNatClampNeg (x1))) (M))))) : kX6_knownOf (k0) (x1) g M q := by
  intro d hd; refine mj_enter (by decide +kernel) (Nat.le_of_ble_eq_true rfl) ?_
  generalize (false : Bool) = ex
  show mj_G mtX6_knownOf (mj_rm d 0 0) (mj_Fi (mj_qI g q) mj_x0 0 0) ex 0 0 0 [(0, .ref (k0)), (1, .int (x1))] [] g M
  refine mg_iload_n dX6_knownOf_0 rfl 1 rfl ?_
  refine mg_if_lt (tgt := 19) dX6_knownOf_1 (by decide) (fun hc => ?_) (fun hc => ?_)
  · replace h := h.1 hc
    refine mg_iconst (v := (-1)) dX6_knownOf_19 (by decide) ?_
    exact me_i dX6_knownOf_20 rfl h
  · replace h := h.2 hc
    refine mg_iload_n dX6_knownOf_4 rfl 1 rfl ?_
    refine mg_bipush (v := 10) dX6_knownOf_5 (by decide) ?_
    refine mg_icmp_ge (tgt := 19) dX6_knownOf_7 (by decide) (fun hc => ?_) (fun hc => ?_)
    · replace h := h.1 hc
      refine mg_iconst (v := (-1)) dX6_knownOf_19 (by decide) ?_
      exact me_i dX6_knownOf_20 rfl h
    · replace h := h.2 hc
      refine mg_aload_n dX6_knownOf_10 rfl 0 rfl ?_
      refine mg_getR (j := 6) dX6_knownOf_11 kc_6 (Nat.le_of_ble_eq_true rfl) wd_79 rfl rfl h0.1.1 h0.1.2 h0.2.2.2.2.1.1 ?_
      refine mg_iload_n dX6_knownOf_14 rfl 1 rfl ?_
      refine mg_iald dX6_knownOf_15 h0.2.2.2.2.1.2.1 h0.2.2.2.2.1.2.2 h.1 rfl ?_
      replace h := h.2
      refine mg_goto (tgt := 20) dX6_knownOf_16 (by decide) ?_
      exact me_i dX6_knownOf_20 rfl h
theorem dX6_retire_0 : decode cX6_retire 0 = .ok (.iload_n 1, 1) := by decide +kernel
theorem dX6_retire_1 : decode cX6_retire 1 = .ok (.ifCond .lt 23, 3) := by decide +kernel
theorem dX6_retire_4 : decode cX6_retire 4 = .ok (.iload_n 1, 1) := by decide +kernel
theorem dX6_retire_5 : decode cX6_retire 5 = .ok (.bipush 10, 2) := by decide +kernel
theorem dX6_retire_7 : decode cX6_retire 7 = .ok (.if_icmp .ge 17, 3) := by decide +kernel
theorem dX6_retire_10 : decode cX6_retire 10 = .ok (.aload_n 0, 1) := by decide +kernel
theorem dX6_retire_11 : decode cX6_retire 11 = .ok (.getfield 23, 3) := by decide +kernel
theorem dX6_retire_14 : decode cX6_retire 14 = .ok (.iload_n 1, 1) := by decide +kernel
theorem dX6_retire_15 : decode cX6_retire 15 = .ok (.iload_n 2, 1) := by decide +kernel
theorem dX6_retire_16 : decode cX6_retire 16 = .ok (.iastore, 1) := by decide +kernel
theorem dX6_retire_17 : decode cX6_retire 17 = .ok (.aload_n 0, 1) := by decide +kernel
theorem dX6_retire_18 : decode cX6_retire 18 = .ok (.getfield 27, 3) := by decide +kernel
theorem dX6_retire_21 : decode cX6_retire 21 = .ok (.iload_n 1, 1) := by decide +kernel
theorem dX6_retire_22 : decode cX6_retire 22 = .ok (.iload_n 3, 1) := by decide +kernel
theorem dX6_retire_23 : decode cX6_retire 23 = .ok (.iastore, 1) := by decide +kernel
theorem dX6_retire_24 : decode cX6_retire 24 = .ok (.return_, 1) := by decide +kernel
abbrev mtX6_retire : mj_T := (yX6_retire.cls, cX6_retire, 4, none, mj_no, yX6_retire.name)
abbrev kX6_retire (k0 : Nat) (x1 : Int32) (x2 : Int32) (x3 : Int32) (g : mj_S) (M : mj_M) (q : mj_M → Prop) : Prop := mj_CV yX6_retire (.code yX6_retire cX6_retire 4 none) 0 [.ref (k0), .int (x1), .int (x2), .int (x3)] g M q
theorem kiX6_retire : mj_cV yX6_retire cX6_retire 4 none 3 := ⟨⟨wd_419, wd_420, wd_2, wd_421⟩, ⟨by decide +kernel, by decide +kernel, by decide +kernel⟩, Nat.le_of_ble_eq_true rfl⟩
theorem eX6_retire {k0 : Nat} {x1 : Int32} {x2 : Int32} {x3 : Int32} {g : mj_S} {M : mj_M} {q : mj_M → Prop} (h0 : is6 g k0) (h : ((x1 : Int32) < 0 → q (M)) ∧ (¬ (x1 : Int32) < 0 → ((10 : Int32) ≤ (x1) → q (M)) ∧ (¬ (10 : Int32) ≤ (x1) → vp_in (x1) (10) ∧ (vp_in (x1) (10) ∧ (q (mj_wI (mj_wI (M) (k0 + 5) (Int32.toNatClampNeg (x1)) (x2)) (k0 + 6) (Int32.toNatClampNeg (x1)) (x3))))))) : kX6_retire (k0) (x1) (x2) (x3) g M q := by
  intro d hd; refine mj_enter (by decide +kernel) (Nat.le_of_ble_eq_true rfl) ?_
  generalize (false : Bool) = ex
  show mj_G mtX6_retire (mj_rm d 0 0) (mj_Fi (mj_qV g q) mj_x0 0 0) ex 0 0 0 [(0, .ref (k0)), (1, .int (x1)), (2, .int (x2)), (3, .int (x3))] [] g M
  refine mg_iload_n dX6_retire_0 rfl 1 rfl ?_
  refine mg_if_lt (tgt := 24) dX6_retire_1 (by decide) (fun hc => ?_) (fun hc => ?_)
  · replace h := h.1 hc
    exact me_v dX6_retire_24 rfl h
  · replace h := h.2 hc
    refine mg_iload_n dX6_retire_4 rfl 1 rfl ?_
    refine mg_bipush (v := 10) dX6_retire_5 (by decide) ?_
    refine mg_icmp_ge (tgt := 24) dX6_retire_7 (by decide) (fun hc => ?_) (fun hc => ?_)
    · replace h := h.1 hc
      exact me_v dX6_retire_24 rfl h
    · replace h := h.2 hc
      refine mg_aload_n dX6_retire_10 rfl 0 rfl ?_
      refine mg_getR (j := 5) dX6_retire_11 kc_6 (Nat.le_of_ble_eq_true rfl) wd_78 rfl rfl h0.1.1 h0.1.2 h0.2.2.2.1.1 ?_
      refine mg_iload_n dX6_retire_14 rfl 1 rfl ?_
      refine mg_iload_n dX6_retire_15 rfl 2 rfl ?_
      refine mg_iast dX6_retire_16 h0.2.2.2.1.2.1 h0.2.2.2.1.2.2 h.1 ?_
      replace h := h.2
      refine mg_aload_n dX6_retire_17 rfl 0 rfl ?_
      refine mg_getR (j := 6) dX6_retire_18 kc_6 (Nat.le_of_ble_eq_true rfl) wd_79 rfl rfl h0.1.1 h0.1.2 h0.2.2.2.2.1.1 ?_
      refine mg_iload_n dX6_retire_21 rfl 1 rfl ?_
      refine mg_iload_n dX6_retire_22 rfl 3 rfl ?_
      refine mg_iast dX6_retire_23 h0.2.2.2.2.1.2.1 h0.2.2.2.2.1.2.2 h.1 ?_
      replace h := h.2
      exact me_v dX6_retire_24 rfl h
theorem dX6_totalOf_0 : decode cX6_totalOf 0 = .ok (.iload_n 1, 1) := by decide +kernel
theorem dX6_totalOf_1 : decode cX6_totalOf 1 = .ok (.ifCond .lt 18, 3) := by decide +kernel
theorem dX6_totalOf_4 : decode cX6_totalOf 4 = .ok (.iload_n 1, 1) := by decide +kernel
theorem dX6_totalOf_5 : decode cX6_totalOf 5 = .ok (.bipush 10, 2) := by decide +kernel
theorem dX6_totalOf_7 : decode cX6_totalOf 7 = .ok (.if_icmp .ge 12, 3) := by decide +kernel
theorem dX6_totalOf_10 : decode cX6_totalOf 10 = .ok (.aload_n 0, 1) := by decide +kernel
theorem dX6_totalOf_11 : decode cX6_totalOf 11 = .ok (.getfield 30, 3) := by decide +kernel
theorem dX6_totalOf_14 : decode cX6_totalOf 14 = .ok (.iload_n 1, 1) := by decide +kernel
theorem dX6_totalOf_15 : decode cX6_totalOf 15 = .ok (.iaload, 1) := by decide +kernel
theorem dX6_totalOf_16 : decode cX6_totalOf 16 = .ok (.goto 4, 3) := by decide +kernel
theorem dX6_totalOf_19 : decode cX6_totalOf 19 = .ok (.iconst 0, 1) := by decide +kernel
theorem dX6_totalOf_20 : decode cX6_totalOf 20 = .ok (.ireturn, 1) := by decide +kernel
abbrev mtX6_totalOf : mj_T := (yX6_totalOf.cls, cX6_totalOf, 2, (some .int), mj_no, yX6_totalOf.name)
abbrev kX6_totalOf (k0 : Nat) (x1 : Int32) (g : mj_S) (M : mj_M) (q : Int32 → mj_M → Prop) : Prop := mj_CI yX6_totalOf (.code yX6_totalOf cX6_totalOf 2 (some .int)) 0 [.ref (k0), .int (x1)] g M q
theorem kiX6_totalOf : mj_cV yX6_totalOf cX6_totalOf 2 (some .int) 1 := ⟨⟨wd_666, wd_667, wd_2, wd_668⟩, ⟨by decide +kernel, by decide +kernel, by decide +kernel⟩, Nat.le_of_ble_eq_true rfl⟩
theorem eX6_totalOf {k0 : Nat} {x1 : Int32} {g : mj_S} {M : mj_M} {q : Int32 → mj_M → Prop} (h0 : is6 g k0) (h : ((x1 : Int32) < 0 → q (0) (M)) ∧ (¬ (x1 : Int32) < 0 → ((10 : Int32) ≤ (x1) → q (0) (M)) ∧ (¬ (10 : Int32) ≤ (x1) → vp_in (x1) (10) ∧ (q ((M).1 (k0 + 7) (Int32.toNatClampNeg (x1))) (M))))) : kX6_totalOf (k0) (x1) g M q := by
  intro d hd; refine mj_enter (by decide +kernel) (Nat.le_of_ble_eq_true rfl) ?_
  generalize (false : Bool) = ex
  show mj_G mtX6_totalOf (mj_rm d 0 0) (mj_Fi (mj_qI g q) mj_x0 0 0) ex 0 0 0 [(0, .ref (k0)), (1, .int (x1))] [] g M
  refine mg_iload_n dX6_totalOf_0 rfl 1 rfl ?_
  refine mg_if_lt (tgt := 19) dX6_totalOf_1 (by decide) (fun hc => ?_) (fun hc => ?_)
  · replace h := h.1 hc
    refine mg_iconst (v := 0) dX6_totalOf_19 (by decide) ?_
    exact me_i dX6_totalOf_20 rfl h
  · replace h := h.2 hc
    refine mg_iload_n dX6_totalOf_4 rfl 1 rfl ?_
    refine mg_bipush (v := 10) dX6_totalOf_5 (by decide) ?_
    refine mg_icmp_ge (tgt := 19) dX6_totalOf_7 (by decide) (fun hc => ?_) (fun hc => ?_)
    · replace h := h.1 hc
      refine mg_iconst (v := 0) dX6_totalOf_19 (by decide) ?_
      exact me_i dX6_totalOf_20 rfl h
    · replace h := h.2 hc
      refine mg_aload_n dX6_totalOf_10 rfl 0 rfl ?_
      refine mg_getR (j := 7) dX6_totalOf_11 kc_6 (Nat.le_of_ble_eq_true rfl) wd_80 rfl rfl h0.1.1 h0.1.2 h0.2.2.2.2.2.1.1 ?_
      refine mg_iload_n dX6_totalOf_14 rfl 1 rfl ?_
      refine mg_iald dX6_totalOf_15 h0.2.2.2.2.2.1.2.1 h0.2.2.2.2.2.1.2.2 h.1 rfl ?_
      replace h := h.2
      refine mg_goto (tgt := 20) dX6_totalOf_16 (by decide) ?_
      exact me_i dX6_totalOf_20 rfl h
theorem dX6_addToTotal_0 : decode cX6_addToTotal 0 = .ok (.iload_n 1, 1) := by decide +kernel
theorem dX6_addToTotal_1 : decode cX6_addToTotal 1 = .ok (.ifCond .lt 19, 3) := by decide +kernel
theorem dX6_addToTotal_4 : decode cX6_addToTotal 4 = .ok (.iload_n 1, 1) := by decide +kernel
theorem dX6_addToTotal_5 : decode cX6_addToTotal 5 = .ok (.bipush 10, 2) := by decide +kernel
theorem dX6_addToTotal_7 : decode cX6_addToTotal 7 = .ok (.if_icmp .ge 13, 3) := by decide +kernel
theorem dX6_addToTotal_10 : decode cX6_addToTotal 10 = .ok (.aload_n 0, 1) := by decide +kernel
theorem dX6_addToTotal_11 : decode cX6_addToTotal 11 = .ok (.getfield 30, 3) := by decide +kernel
theorem dX6_addToTotal_14 : decode cX6_addToTotal 14 = .ok (.iload_n 1, 1) := by decide +kernel
theorem dX6_addToTotal_15 : decode cX6_addToTotal 15 = .ok (.dup2, 1) := by decide +kernel
theorem dX6_addToTotal_16 : decode cX6_addToTotal 16 = .ok (.iaload, 1) := by decide +kernel
theorem dX6_addToTotal_17 : decode cX6_addToTotal 17 = .ok (.iload_n 2, 1) := by decide +kernel
theorem dX6_addToTotal_18 : decode cX6_addToTotal 18 = .ok (.iadd, 1) := by decide +kernel
theorem dX6_addToTotal_19 : decode cX6_addToTotal 19 = .ok (.iastore, 1) := by decide +kernel
theorem dX6_addToTotal_20 : decode cX6_addToTotal 20 = .ok (.return_, 1) := by decide +kernel
abbrev mtX6_addToTotal : mj_T := (yX6_addToTotal.cls, cX6_addToTotal, 3, none, mj_no, yX6_addToTotal.name)
abbrev kX6_addToTotal (k0 : Nat) (x1 : Int32) (x2 : Int32) (g : mj_S) (M : mj_M) (q : mj_M → Prop) : Prop := mj_CV yX6_addToTotal (.code yX6_addToTotal cX6_addToTotal 3 none) 0 [.ref (k0), .int (x1), .int (x2)] g M q
theorem kiX6_addToTotal : mj_cV yX6_addToTotal cX6_addToTotal 3 none 2 := ⟨⟨wd_634, wd_635, wd_2, wd_636⟩, ⟨by decide +kernel, by decide +kernel, by decide +kernel⟩, Nat.le_of_ble_eq_true rfl⟩
theorem eX6_addToTotal {k0 : Nat} {x1 : Int32} {x2 : Int32} {g : mj_S} {M : mj_M} {q : mj_M → Prop} (h0 : is6 g k0) (h : ((x1 : Int32) < 0 → q (M)) ∧ (¬ (x1 : Int32) < 0 → ((10 : Int32) ≤ (x1) → q (M)) ∧ (¬ (10 : Int32) ≤ (x1) → vp_in (x1) (10) ∧ (vp_in (x1) (10) ∧ (q (mj_wI (M) (k0 + 7) (Int32.toNatClampNeg (x1)) (((M).1 (k0 + 7) (Int32.toNatClampNeg (x1))) + (x2)))))))) : kX6_addToTotal (k0) (x1) (x2) g M q := by
  intro d hd; refine mj_enter (by decide +kernel) (Nat.le_of_ble_eq_true rfl) ?_
  generalize (false : Bool) = ex
  show mj_G mtX6_addToTotal (mj_rm d 0 0) (mj_Fi (mj_qV g q) mj_x0 0 0) ex 0 0 0 [(0, .ref (k0)), (1, .int (x1)), (2, .int (x2))] [] g M
  refine mg_iload_n dX6_addToTotal_0 rfl 1 rfl ?_
  refine mg_if_lt (tgt := 20) dX6_addToTotal_1 (by decide) (fun hc => ?_) (fun hc => ?_)
  · replace h := h.1 hc
    exact me_v dX6_addToTotal_20 rfl h
  · replace h := h.2 hc
    refine mg_iload_n dX6_addToTotal_4 rfl 1 rfl ?_
    refine mg_bipush (v := 10) dX6_addToTotal_5 (by decide) ?_
    refine mg_icmp_ge (tgt := 20) dX6_addToTotal_7 (by decide) (fun hc => ?_) (fun hc => ?_)
    · replace h := h.1 hc
      exact me_v dX6_addToTotal_20 rfl h
    · replace h := h.2 hc
      refine mg_aload_n dX6_addToTotal_10 rfl 0 rfl ?_
      refine mg_getR (j := 7) dX6_addToTotal_11 kc_6 (Nat.le_of_ble_eq_true rfl) wd_80 rfl rfl h0.1.1 h0.1.2 h0.2.2.2.2.2.1.1 ?_
      refine mg_iload_n dX6_addToTotal_14 rfl 1 rfl ?_
      refine mg_dup2 dX6_addToTotal_15 rfl rfl ?_
      refine mg_iald dX6_addToTotal_16 h0.2.2.2.2.2.1.2.1 h0.2.2.2.2.2.1.2.2 h.1 rfl ?_
      replace h := h.2
      refine mg_iload_n dX6_addToTotal_17 rfl 2 rfl ?_
      refine mg_iadd dX6_addToTotal_18 ?_
      refine mg_iast dX6_addToTotal_19 h0.2.2.2.2.2.1.2.1 h0.2.2.2.2.2.1.2.2 h.1 ?_
      replace h := h.2
      exact me_v dX6_addToTotal_20 rfl h
theorem dX6_include_0 : decode cX6_include 0 = .ok (.aload_n 0, 1) := by decide +kernel
theorem dX6_include_1 : decode cX6_include 1 = .ok (.getfield 14, 3) := by decide +kernel
theorem dX6_include_4 : decode cX6_include 4 = .ok (.invokevirtual 83, 3) := by decide +kernel
theorem dX6_include_7 : decode cX6_include 7 = .ok (.ifCond .eq 4, 3) := by decide +kernel
theorem dX6_include_10 : decode cX6_include 10 = .ok (.return_, 1) := by decide +kernel
theorem dX6_include_11 : decode cX6_include 11 = .ok (.iload_n 1, 1) := by decide +kernel
theorem dX6_include_12 : decode cX6_include 12 = .ok (.ifCond .ne 13, 3) := by decide +kernel
theorem dX6_include_15 : decode cX6_include 15 = .ok (.aload_n 0, 1) := by decide +kernel
theorem dX6_include_16 : decode cX6_include 16 = .ok (.getfield 14, 3) := by decide +kernel
theorem dX6_include_19 : decode cX6_include 19 = .ok (.invokevirtual 87, 3) := by decide +kernel
theorem dX6_include_22 : decode cX6_include 22 = .ok (.goto 11, 3) := by decide +kernel
theorem dX6_include_25 : decode cX6_include 25 = .ok (.aload_n 0, 1) := by decide +kernel
theorem dX6_include_26 : decode cX6_include 26 = .ok (.getfield 14, 3) := by decide +kernel
theorem dX6_include_29 : decode cX6_include 29 = .ok (.iload_n 1, 1) := by decide +kernel
theorem dX6_include_30 : decode cX6_include 30 = .ok (.invokevirtual 77, 3) := by decide +kernel
theorem dX6_include_33 : decode cX6_include 33 = .ok (.return_, 1) := by decide +kernel
abbrev mtX6_include : mj_T := (yX6_include.cls, cX6_include, 2, none, mj_no, yX6_include.name)
abbrev kX6_include (k0 : Nat) (x1 : Int32) (g : mj_S) (M : mj_M) (q : mj_M → Prop) : Prop := mj_CV yX6_include (.code yX6_include cX6_include 2 none) 2 [.ref (k0), .int (x1)] g M q
theorem kiX6_include : mj_cV yX6_include cX6_include 2 none 1 := ⟨⟨wd_523, wd_524, wd_2, wd_525⟩, ⟨by decide +kernel, by decide +kernel, by decide +kernel⟩, Nat.le_of_ble_eq_true rfl⟩
theorem eX6_include {k0 : Nat} {x1 : Int32} {g : mj_S} {M : mj_M} {q : mj_M → Prop} (h0 : is6 g k0) (h : ∃ (q1 : Int32 → mj_M → Prop), kX0_isContradictory (k0 + 1) g (M) q1 ∧ ∀ (v1 : Int32) (M1 : mj_M), q1 v1 M1 → (((v1 : Int32) = 0 → (¬ (x1 : Int32) = 0 → ∃ (q2 : mj_M → Prop), kX0_add (k0 + 1) (x1) g (M1) q2 ∧ ∀ (M2 : mj_M), q2 M2 → (q (M2))) ∧ ((x1 : Int32) = 0 → ∃ (q3 : mj_M → Prop), kX0_collapse (k0 + 1) g (M1) q3 ∧ ∀ (M3 : mj_M), q3 M3 → (q (M3)))) ∧ (¬ (v1 : Int32) = 0 → q (M1)))) : kX6_include (k0) (x1) g M q := by
  intro d hd; refine mj_enter (by decide +kernel) (Nat.le_of_ble_eq_true rfl) ?_
  generalize (false : Bool) = ex
  show mj_G mtX6_include (mj_rm d 0 0) (mj_Fi (mj_qV g q) mj_x0 0 0) ex 0 0 0 [(0, .ref (k0)), (1, .int (x1))] [] g M
  refine mg_aload_n dX6_include_0 rfl 0 rfl ?_
  refine mg_getR (j := 3) dX6_include_1 kc_6 (Nat.le_of_ble_eq_true rfl) wd_73 rfl rfl h0.1.1 h0.1.2 h0.2.1.1 ?_
  obtain ⟨q1, hC, hk⟩ := h
  refine mc_Vi [] [] dX6_include_4 wd_526 kiX0_isContradictory (Nat.le_of_ble_eq_true rfl) h0.2.1.2.1.1 h0.2.1.2.1.2 rfl (Nat.le_trans (Nat.le_of_ble_eq_true rfl) hd) hC (fun v1 M1 hq => ?_)
  replace h := hk v1 M1 hq
  refine mg_if_eq (tgt := 11) dX6_include_7 (by decide) (fun hc => ?_) (fun hc => ?_)
  · replace h := h.1 hc
    refine mg_iload_n dX6_include_11 rfl 1 rfl ?_
    refine mg_if_ne (tgt := 25) dX6_include_12 (by decide) (fun hc => ?_) (fun hc => ?_)
    · replace h := h.1 hc
      refine mg_aload_n dX6_include_25 rfl 0 rfl ?_
      refine mg_getR (j := 3) dX6_include_26 kc_6 (Nat.le_of_ble_eq_true rfl) wd_73 rfl rfl h0.1.1 h0.1.2 h0.2.1.1 ?_
      refine mg_iload_n dX6_include_29 rfl 1 rfl ?_
      obtain ⟨q2, hC, hk⟩ := h
      refine mc_Vv [.int (x1)] [] dX6_include_30 wd_527 kiX0_add (Nat.le_of_ble_eq_true rfl) h0.2.1.2.1.1 h0.2.1.2.1.2 rfl (Nat.le_trans (Nat.le_of_ble_eq_true rfl) hd) hC (fun M2 hq => ?_)
      replace h := hk M2 hq
      exact me_v dX6_include_33 rfl h
    · replace h := h.2 hc
      refine mg_aload_n dX6_include_15 rfl 0 rfl ?_
      refine mg_getR (j := 3) dX6_include_16 kc_6 (Nat.le_of_ble_eq_true rfl) wd_73 rfl rfl h0.1.1 h0.1.2 h0.2.1.1 ?_
      obtain ⟨q3, hC, hk⟩ := h
      refine mc_Vv [] [] dX6_include_19 wd_430 kiX0_collapse (Nat.le_of_ble_eq_true rfl) h0.2.1.2.1.1 h0.2.1.2.1.2 rfl (Nat.le_trans (Nat.le_of_ble_eq_true rfl) hd) hC (fun M3 hq => ?_)
      replace h := hk M3 hq
      refine mg_goto (tgt := 33) dX6_include_22 (by decide) ?_
      exact me_v dX6_include_33 rfl h
  · replace h := h.2 hc
    exact me_v dX6_include_10 rfl h
theorem dX6_addOriginal_0 : decode cX6_addOriginal 0 = .ok (.aload_n 0, 1) := by decide +kernel
theorem dX6_addOriginal_1 : decode cX6_addOriginal 1 = .ok (.getfield 20, 3) := by decide +kernel
theorem dX6_addOriginal_4 : decode cX6_addOriginal 4 = .ok (.iload_n 1, 1) := by decide +kernel
theorem dX6_addOriginal_5 : decode cX6_addOriginal 5 = .ok (.invokevirtual 77, 3) := by decide +kernel
theorem dX6_addOriginal_8 : decode cX6_addOriginal 8 = .ok (.aload_n 0, 1) := by decide +kernel
theorem dX6_addOriginal_9 : decode cX6_addOriginal 9 = .ok (.iload_n 1, 1) := by decide +kernel
theorem dX6_addOriginal_10 : decode cX6_addOriginal 10 = .ok (.invokevirtual 80, 3) := by decide +kernel
theorem dX6_addOriginal_13 : decode cX6_addOriginal 13 = .ok (.return_, 1) := by decide +kernel
abbrev mtX6_addOriginal : mj_T := (yX6_addOriginal.cls, cX6_addOriginal, 2, none, mj_no, yX6_addOriginal.name)
abbrev kX6_addOriginal (k0 : Nat) (x1 : Int32) (g : mj_S) (M : mj_M) (q : mj_M → Prop) : Prop := mj_CV yX6_addOriginal (.code yX6_addOriginal cX6_addOriginal 2 none) 3 [.ref (k0), .int (x1)] g M q
theorem kiX6_addOriginal : mj_cV yX6_addOriginal cX6_addOriginal 2 none 1 := ⟨⟨wd_781, wd_782, wd_2, wd_783⟩, ⟨by decide +kernel, by decide +kernel, by decide +kernel⟩, Nat.le_of_ble_eq_true rfl⟩
theorem eX6_addOriginal {k0 : Nat} {x1 : Int32} {g : mj_S} {M : mj_M} {q : mj_M → Prop} (h0 : is6 g k0) (h : ∃ (q1 : mj_M → Prop), kX0_add (k0 + 3) (x1) g (M) q1 ∧ ∀ (M1 : mj_M), q1 M1 → (∃ (q2 : mj_M → Prop), kX6_include (k0) (x1) g (M1) q2 ∧ ∀ (M2 : mj_M), q2 M2 → (q (M2)))) : kX6_addOriginal (k0) (x1) g M q := by
  intro d hd; refine mj_enter (by decide +kernel) (Nat.le_of_ble_eq_true rfl) ?_
  generalize (false : Bool) = ex
  show mj_G mtX6_addOriginal (mj_rm d 0 0) (mj_Fi (mj_qV g q) mj_x0 0 0) ex 0 0 0 [(0, .ref (k0)), (1, .int (x1))] [] g M
  refine mg_aload_n dX6_addOriginal_0 rfl 0 rfl ?_
  refine mg_getR (j := 4) dX6_addOriginal_1 kc_6 (Nat.le_of_ble_eq_true rfl) wd_76 rfl rfl h0.1.1 h0.1.2 h0.2.2.1.1 ?_
  refine mg_iload_n dX6_addOriginal_4 rfl 1 rfl ?_
  obtain ⟨q1, hC, hk⟩ := h
  refine mc_Vv [.int (x1)] [] dX6_addOriginal_5 wd_527 kiX0_add (Nat.le_of_ble_eq_true rfl) h0.2.2.1.2.1.1 h0.2.2.1.2.1.2 rfl (Nat.le_trans (Nat.le_of_ble_eq_true rfl) hd) hC (fun M1 hq => ?_)
  replace h := hk M1 hq
  refine mg_aload_n dX6_addOriginal_8 rfl 0 rfl ?_
  refine mg_iload_n dX6_addOriginal_9 rfl 1 rfl ?_
  obtain ⟨q2, hC, hk⟩ := h
  refine mc_Vv [.int (x1)] [] dX6_addOriginal_10 wd_784 kiX6_include (Nat.le_of_ble_eq_true rfl) h0.1.1 h0.1.2 rfl (Nat.le_trans (Nat.le_of_ble_eq_true rfl) hd) hC (fun M2 hq => ?_)
  replace h := hk M2 hq
  exact me_v dX6_addOriginal_13 rfl h
theorem dX6_fix_0 : decode cX6_fix 0 = .ok (.aload_n 0, 1) := by decide +kernel
theorem dX6_fix_1 : decode cX6_fix 1 = .ok (.iload_n 1, 1) := by decide +kernel
theorem dX6_fix_2 : decode cX6_fix 2 = .ok (.iconst 1, 1) := by decide +kernel
theorem dX6_fix_3 : decode cX6_fix 3 = .ok (.ishr, 1) := by decide +kernel
theorem dX6_fix_4 : decode cX6_fix 4 = .ok (.iconst 1, 1) := by decide +kernel
theorem dX6_fix_5 : decode cX6_fix 5 = .ok (.iconst 1, 1) := by decide +kernel
theorem dX6_fix_6 : decode cX6_fix 6 = .ok (.iload_n 1, 1) := by decide +kernel
theorem dX6_fix_7 : decode cX6_fix 7 = .ok (.iconst 1, 1) := by decide +kernel
theorem dX6_fix_8 : decode cX6_fix 8 = .ok (.iand, 1) := by decide +kernel
theorem dX6_fix_9 : decode cX6_fix 9 = .ok (.isub, 1) := by decide +kernel
theorem dX6_fix_10 : decode cX6_fix 10 = .ok (.invokevirtual 90, 3) := by decide +kernel
theorem dX6_fix_13 : decode cX6_fix 13 = .ok (.aload_n 0, 1) := by decide +kernel
theorem dX6_fix_14 : decode cX6_fix 14 = .ok (.iconst 1, 1) := by decide +kernel
theorem dX6_fix_15 : decode cX6_fix 15 = .ok (.iload_n 1, 1) := by decide +kernel
theorem dX6_fix_16 : decode cX6_fix 16 = .ok (.ishl, 1) := by decide +kernel
theorem dX6_fix_17 : decode cX6_fix 17 = .ok (.iload_n 1, 1) := by decide +kernel
theorem dX6_fix_18 : decode cX6_fix 18 = .ok (.invokevirtual 66, 3) := by decide +kernel
theorem dX6_fix_21 : decode cX6_fix 21 = .ok (.aload_n 0, 1) := by decide +kernel
theorem dX6_fix_22 : decode cX6_fix 22 = .ok (.getfield 14, 3) := by decide +kernel
theorem dX6_fix_25 : decode cX6_fix 25 = .ok (.iconst 1, 1) := by decide +kernel
theorem dX6_fix_26 : decode cX6_fix 26 = .ok (.iload_n 1, 1) := by decide +kernel
theorem dX6_fix_27 : decode cX6_fix 27 = .ok (.ishl, 1) := by decide +kernel
theorem dX6_fix_28 : decode cX6_fix 28 = .ok (.invokevirtual 94, 3) := by decide +kernel
theorem dX6_fix_31 : decode cX6_fix 31 = .ok (.aload_n 0, 1) := by decide +kernel
theorem dX6_fix_32 : decode cX6_fix 32 = .ok (.getfield 14, 3) := by decide +kernel
theorem dX6_fix_35 : decode cX6_fix 35 = .ok (.iconst 1, 1) := by decide +kernel
theorem dX6_fix_36 : decode cX6_fix 36 = .ok (.iload_n 1, 1) := by decide +kernel
theorem dX6_fix_37 : decode cX6_fix 37 = .ok (.iconst 1, 1) := by decide +kernel
theorem dX6_fix_38 : decode cX6_fix 38 = .ok (.ixor, 1) := by decide +kernel
theorem dX6_fix_39 : decode cX6_fix 39 = .ok (.ishl, 1) := by decide +kernel
theorem dX6_fix_40 : decode cX6_fix 40 = .ok (.invokevirtual 97, 3) := by decide +kernel
theorem dX6_fix_43 : decode cX6_fix 43 = .ok (.ifCond .eq 10, 3) := by decide +kernel
theorem dX6_fix_46 : decode cX6_fix 46 = .ok (.aload_n 0, 1) := by decide +kernel
theorem dX6_fix_47 : decode cX6_fix 47 = .ok (.getfield 14, 3) := by decide +kernel
theorem dX6_fix_50 : decode cX6_fix 50 = .ok (.invokevirtual 87, 3) := by decide +kernel
theorem dX6_fix_53 : decode cX6_fix 53 = .ok (.return_, 1) := by decide +kernel
abbrev mtX6_fix : mj_T := (yX6_fix.cls, cX6_fix, 2, none, mj_no, yX6_fix.name)
abbrev kX6_fix (k0 : Nat) (x1 : Int32) (g : mj_S) (M : mj_M) (q : mj_M → Prop) : Prop := mj_CV yX6_fix (.code yX6_fix cX6_fix 2 none) 2 [.ref (k0), .int (x1)] g M q
theorem kiX6_fix : mj_cV yX6_fix cX6_fix 2 none 1 := ⟨⟨wd_415, wd_416, wd_2, wd_417⟩, ⟨by decide +kernel, by decide +kernel, by decide +kernel⟩, Nat.le_of_ble_eq_true rfl⟩
theorem eX6_fix {k0 : Nat} {x1 : Int32} {g : mj_S} {M : mj_M} {q : mj_M → Prop} (h0 : is6 g k0) (h : ∃ (q1 : mj_M → Prop), kX6_retire (k0) ((x1) >>> ((1 : Int32) &&& 31)) (1) ((1 : Int32) - ((x1) &&& (1 : Int32))) g (M) q1 ∧ ∀ (M1 : mj_M), q1 M1 → (∃ (q2 : mj_M → Prop), kX6_pushRow (k0) ((1 : Int32) <<< ((x1) &&& 31)) (x1) g (M1) q2 ∧ ∀ (M2 : mj_M), q2 M2 → (∃ (q3 : mj_M → Prop), kX0_removeContaining (k0 + 1) ((1 : Int32) <<< ((x1) &&& 31)) g (M2) q3 ∧ ∀ (M3 : mj_M), q3 M3 → (∃ (q4 : Int32 → mj_M → Prop), kX0_strip (k0 + 1) ((1 : Int32) <<< (((x1) ^^^ (1 : Int32)) &&& 31)) g (M3) q4 ∧ ∀ (v4 : Int32) (M4 : mj_M), q4 v4 M4 → (((v4 : Int32) = 0 → q (M4)) ∧ (¬ (v4 : Int32) = 0 → ∃ (q5 : mj_M → Prop), kX0_collapse (k0 + 1) g (M4) q5 ∧ ∀ (M5 : mj_M), q5 M5 → (q (M5)))))))) : kX6_fix (k0) (x1) g M q := by
  intro d hd; refine mj_enter (by decide +kernel) (Nat.le_of_ble_eq_true rfl) ?_
  generalize (false : Bool) = ex
  show mj_G mtX6_fix (mj_rm d 0 0) (mj_Fi (mj_qV g q) mj_x0 0 0) ex 0 0 0 [(0, .ref (k0)), (1, .int (x1))] [] g M
  refine mg_aload_n dX6_fix_0 rfl 0 rfl ?_
  refine mg_iload_n dX6_fix_1 rfl 1 rfl ?_
  refine mg_iconst (v := 1) dX6_fix_2 (by decide) ?_
  refine mg_ishr dX6_fix_3 ?_
  refine mg_iconst (v := 1) dX6_fix_4 (by decide) ?_
  refine mg_iconst (v := 1) dX6_fix_5 (by decide) ?_
  refine mg_iload_n dX6_fix_6 rfl 1 rfl ?_
  refine mg_iconst (v := 1) dX6_fix_7 (by decide) ?_
  refine mg_iand dX6_fix_8 ?_
  refine mg_isub dX6_fix_9 ?_
  obtain ⟨q1, hC, hk⟩ := h
  refine mc_Vv [.int ((x1) >>> ((1 : Int32) &&& 31)), .int (1), .int ((1 : Int32) - ((x1) &&& (1 : Int32)))] [] dX6_fix_10 wd_418 kiX6_retire (Nat.le_of_ble_eq_true rfl) h0.1.1 h0.1.2 rfl (Nat.le_trans (Nat.le_of_ble_eq_true rfl) hd) hC (fun M1 hq => ?_)
  replace h := hk M1 hq
  refine mg_aload_n dX6_fix_13 rfl 0 rfl ?_
  refine mg_iconst (v := 1) dX6_fix_14 (by decide) ?_
  refine mg_iload_n dX6_fix_15 rfl 1 rfl ?_
  refine mg_ishl dX6_fix_16 ?_
  refine mg_iload_n dX6_fix_17 rfl 1 rfl ?_
  obtain ⟨q2, hC, hk⟩ := h
  refine mc_Vv [.int ((1 : Int32) <<< ((x1) &&& 31)), .int (x1)] [] dX6_fix_18 wd_389 kiX6_pushRow (Nat.le_of_ble_eq_true rfl) h0.1.1 h0.1.2 rfl (Nat.le_trans (Nat.le_of_ble_eq_true rfl) hd) hC (fun M2 hq => ?_)
  replace h := hk M2 hq
  refine mg_aload_n dX6_fix_21 rfl 0 rfl ?_
  refine mg_getR (j := 3) dX6_fix_22 kc_6 (Nat.le_of_ble_eq_true rfl) wd_73 rfl rfl h0.1.1 h0.1.2 h0.2.1.1 ?_
  refine mg_iconst (v := 1) dX6_fix_25 (by decide) ?_
  refine mg_iload_n dX6_fix_26 rfl 1 rfl ?_
  refine mg_ishl dX6_fix_27 ?_
  obtain ⟨q3, hC, hk⟩ := h
  refine mc_Vv [.int ((1 : Int32) <<< ((x1) &&& 31))] [] dX6_fix_28 wd_422 kiX0_removeContaining (Nat.le_of_ble_eq_true rfl) h0.2.1.2.1.1 h0.2.1.2.1.2 rfl (Nat.le_trans (Nat.le_of_ble_eq_true rfl) hd) hC (fun M3 hq => ?_)
  replace h := hk M3 hq
  refine mg_aload_n dX6_fix_31 rfl 0 rfl ?_
  refine mg_getR (j := 3) dX6_fix_32 kc_6 (Nat.le_of_ble_eq_true rfl) wd_73 rfl rfl h0.1.1 h0.1.2 h0.2.1.1 ?_
  refine mg_iconst (v := 1) dX6_fix_35 (by decide) ?_
  refine mg_iload_n dX6_fix_36 rfl 1 rfl ?_
  refine mg_iconst (v := 1) dX6_fix_37 (by decide) ?_
  refine mg_ixor dX6_fix_38 ?_
  refine mg_ishl dX6_fix_39 ?_
  obtain ⟨q4, hC, hk⟩ := h
  refine mc_Vi [.int ((1 : Int32) <<< (((x1) ^^^ (1 : Int32)) &&& 31))] [] dX6_fix_40 wd_426 kiX0_strip (Nat.le_of_ble_eq_true rfl) h0.2.1.2.1.1 h0.2.1.2.1.2 rfl (Nat.le_trans (Nat.le_of_ble_eq_true rfl) hd) hC (fun v4 M4 hq => ?_)
  replace h := hk v4 M4 hq
  refine mg_if_eq (tgt := 53) dX6_fix_43 (by decide) (fun hc => ?_) (fun hc => ?_)
  · replace h := h.1 hc
    exact me_v dX6_fix_53 rfl h
  · replace h := h.2 hc
    refine mg_aload_n dX6_fix_46 rfl 0 rfl ?_
    refine mg_getR (j := 3) dX6_fix_47 kc_6 (Nat.le_of_ble_eq_true rfl) wd_73 rfl rfl h0.1.1 h0.1.2 h0.2.1.1 ?_
    obtain ⟨q5, hC, hk⟩ := h
    refine mc_Vv [] [] dX6_fix_50 wd_430 kiX0_collapse (Nat.le_of_ble_eq_true rfl) h0.2.1.2.1.1 h0.2.1.2.1.2 rfl (Nat.le_trans (Nat.le_of_ble_eq_true rfl) hd) hC (fun M5 hq => ?_)
    replace h := hk M5 hq
    exact me_v dX6_fix_53 rfl h
theorem dX6_reconstruct_0 : decode cX6_reconstruct 0 = .ok (.iload_n 1, 1) := by decide +kernel
theorem dX6_reconstruct_1 : decode cX6_reconstruct 1 = .ok (.aload_n 0, 1) := by decide +kernel
theorem dX6_reconstruct_2 : decode cX6_reconstruct 2 = .ok (.invokevirtual 100, 3) := by decide +kernel
theorem dX6_reconstruct_5 : decode cX6_reconstruct 5 = .ok (.iand, 1) := by decide +kernel
theorem dX6_reconstruct_6 : decode cX6_reconstruct 6 = .ok (.istore_n 2, 1) := by decide +kernel
theorem dX6_reconstruct_7 : decode cX6_reconstruct 7 = .ok (.aload_n 0, 1) := by decide +kernel
theorem dX6_reconstruct_8 : decode cX6_reconstruct 8 = .ok (.getfield 49, 3) := by decide +kernel
theorem dX6_reconstruct_11 : decode cX6_reconstruct 11 = .ok (.iconst 1, 1) := by decide +kernel
theorem dX6_reconstruct_12 : decode cX6_reconstruct 12 = .ok (.isub, 1) := by decide +kernel
theorem dX6_reconstruct_13 : decode cX6_reconstruct 13 = .ok (.istore_n 3, 1) := by decide +kernel
theorem dX6_reconstruct_14 : decode cX6_reconstruct 14 = .ok (.iload_n 3, 1) := by decide +kernel
theorem dX6_reconstruct_15 : decode cX6_reconstruct 15 = .ok (.ifCond .lt 58, 3) := by decide +kernel
theorem dX6_reconstruct_18 : decode cX6_reconstruct 18 = .ok (.aload_n 0, 1) := by decide +kernel
theorem dX6_reconstruct_19 : decode cX6_reconstruct 19 = .ok (.iload_n 3, 1) := by decide +kernel
theorem dX6_reconstruct_20 : decode cX6_reconstruct 20 = .ok (.invokevirtual 59, 3) := by decide +kernel
theorem dX6_reconstruct_23 : decode cX6_reconstruct 23 = .ok (.iload_n 2, 1) := by decide +kernel
theorem dX6_reconstruct_24 : decode cX6_reconstruct 24 = .ok (.invokestatic 104, 3) := by decide +kernel
theorem dX6_reconstruct_27 : decode cX6_reconstruct 27 = .ok (.iand, 1) := by decide +kernel
theorem dX6_reconstruct_28 : decode cX6_reconstruct 28 = .ok (.ifCond .ne 39, 3) := by decide +kernel
theorem dX6_reconstruct_31 : decode cX6_reconstruct 31 = .ok (.aload_n 0, 1) := by decide +kernel
theorem dX6_reconstruct_32 : decode cX6_reconstruct 32 = .ok (.iload_n 3, 1) := by decide +kernel
theorem dX6_reconstruct_33 : decode cX6_reconstruct 33 = .ok (.invokevirtual 63, 3) := by decide +kernel
theorem dX6_reconstruct_36 : decode cX6_reconstruct 36 = .ok (.istore 4, 2) := by decide +kernel
theorem dX6_reconstruct_38 : decode cX6_reconstruct 38 = .ok (.iconst 1, 1) := by decide +kernel
theorem dX6_reconstruct_39 : decode cX6_reconstruct 39 = .ok (.iload 4, 2) := by decide +kernel
theorem dX6_reconstruct_41 : decode cX6_reconstruct 41 = .ok (.iconst 1, 1) := by decide +kernel
theorem dX6_reconstruct_42 : decode cX6_reconstruct 42 = .ok (.ishr, 1) := by decide +kernel
theorem dX6_reconstruct_43 : decode cX6_reconstruct 43 = .ok (.ishl, 1) := by decide +kernel
theorem dX6_reconstruct_44 : decode cX6_reconstruct 44 = .ok (.istore 5, 2) := by decide +kernel
theorem dX6_reconstruct_46 : decode cX6_reconstruct 46 = .ok (.iload 4, 2) := by decide +kernel
theorem dX6_reconstruct_48 : decode cX6_reconstruct 48 = .ok (.iconst 1, 1) := by decide +kernel
theorem dX6_reconstruct_49 : decode cX6_reconstruct 49 = .ok (.iand, 1) := by decide +kernel
theorem dX6_reconstruct_50 : decode cX6_reconstruct 50 = .ok (.ifCond .ne 10, 3) := by decide +kernel
theorem dX6_reconstruct_53 : decode cX6_reconstruct 53 = .ok (.iload_n 2, 1) := by decide +kernel
theorem dX6_reconstruct_54 : decode cX6_reconstruct 54 = .ok (.iload 5, 2) := by decide +kernel
theorem dX6_reconstruct_56 : decode cX6_reconstruct 56 = .ok (.ior, 1) := by decide +kernel
theorem dX6_reconstruct_57 : decode cX6_reconstruct 57 = .ok (.goto 9, 3) := by decide +kernel
theorem dX6_reconstruct_60 : decode cX6_reconstruct 60 = .ok (.iload_n 2, 1) := by decide +kernel
theorem dX6_reconstruct_61 : decode cX6_reconstruct 61 = .ok (.iload 5, 2) := by decide +kernel
theorem dX6_reconstruct_63 : decode cX6_reconstruct 63 = .ok (.iconst (-1), 1) := by decide +kernel
theorem dX6_reconstruct_64 : decode cX6_reconstruct 64 = .ok (.ixor, 1) := by decide +kernel
theorem dX6_reconstruct_65 : decode cX6_reconstruct 65 = .ok (.iand, 1) := by decide +kernel
theorem dX6_reconstruct_66 : decode cX6_reconstruct 66 = .ok (.istore_n 2, 1) := by decide +kernel
theorem dX6_reconstruct_67 : decode cX6_reconstruct 67 = .ok (.iinc 3 (-1), 3) := by decide +kernel
theorem dX6_reconstruct_70 : decode cX6_reconstruct 70 = .ok (.goto (-56), 3) := by decide +kernel
theorem dX6_reconstruct_73 : decode cX6_reconstruct 73 = .ok (.iload_n 2, 1) := by decide +kernel
theorem dX6_reconstruct_74 : decode cX6_reconstruct 74 = .ok (.ireturn, 1) := by decide +kernel
abbrev mtX6_reconstruct : mj_T := (yX6_reconstruct.cls, cX6_reconstruct, 6, (some .int), mj_no, yX6_reconstruct.name)
abbrev kX6_reconstruct (k0 : Nat) (x1 : Int32) (g : mj_S) (M : mj_M) (q : Int32 → mj_M → Prop) : Prop := mj_CI yX6_reconstruct (.code yX6_reconstruct cX6_reconstruct 6 (some .int)) 3 [.ref (k0), .int (x1)] g M q
theorem kiX6_reconstruct : mj_cV yX6_reconstruct cX6_reconstruct 6 (some .int) 1 := ⟨⟨wd_344, wd_345, wd_2, wd_346⟩, ⟨by decide +kernel, by decide +kernel, by decide +kernel⟩, Nat.le_of_ble_eq_true rfl⟩
def LX6_reconstruct_14 (k0 : Nat) (x2 : Int32) (x3 : Int32) (g : mj_S) (M : mj_M) (q : Int32 → mj_M → Prop) : Prop := ∀ d, 3 ≤ d → ∀ ex : Bool, mj_G mtX6_reconstruct (mj_rm d 0 0) (mj_Fi (mj_qI g q) mj_x0 0 0) ex 0 0 14 [(0, .ref (k0)), (2, .int (x2)), (3, .int (x3))] [] g M
theorem eX6_reconstruct {k0 : Nat} {x1 : Int32} {g : mj_S} {M : mj_M} {q : Int32 → mj_M → Prop} (h0 : is6 g k0) (h : ∃ (q1 : Int32 → mj_M → Prop), kX6_activeVariables (k0) g (M) q1 ∧ ∀ (v1 : Int32) (M1 : mj_M), q1 v1 M1 → (LX6_reconstruct_14 k0 ((x1) &&& (v1)) (((M1).1 (k0) 2) - (1 : Int32)) g (M1) q)) : kX6_reconstruct (k0) (x1) g M q := by
  intro d hd; refine mj_enter (by decide +kernel) (Nat.le_of_ble_eq_true rfl) ?_
  generalize (false : Bool) = ex
  show mj_G mtX6_reconstruct (mj_rm d 0 0) (mj_Fi (mj_qI g q) mj_x0 0 0) ex 0 0 0 [(0, .ref (k0)), (1, .int (x1))] [] g M
  refine mg_iload_n dX6_reconstruct_0 rfl 1 rfl ?_
  refine mg_aload_n dX6_reconstruct_1 rfl 0 rfl ?_
  obtain ⟨q1, hC, hk⟩ := h
  refine mc_Vi [] [.int (x1)] dX6_reconstruct_2 wd_347 kiX6_activeVariables (Nat.le_of_ble_eq_true rfl) h0.1.1 h0.1.2 rfl (Nat.le_trans (Nat.le_of_ble_eq_true rfl) hd) hC (fun v1 M1 hq => ?_)
  replace h := hk v1 M1 hq
  refine mg_iand dX6_reconstruct_5 ?_
  refine mg_istore_n (ls' := [(2, .int ((x1) &&& (v1))), (0, .ref (k0)), (1, .int (x1))]) dX6_reconstruct_6 rfl (Nat.le_of_ble_eq_true rfl) rfl ?_
  refine mg_aload_n dX6_reconstruct_7 rfl 1 rfl ?_
  refine mg_getI (j := 2) dX6_reconstruct_8 kc_6 (Nat.le_of_ble_eq_true rfl) wd_70 rfl rfl h0.1.1 h0.1.2 rfl ?_
  refine mg_iconst (v := 1) dX6_reconstruct_11 (by decide) ?_
  refine mg_isub dX6_reconstruct_12 ?_
  refine mg_istore_n (ls' := [(3, .int (((M1).1 (k0) 2) - (1 : Int32))), (2, .int ((x1) &&& (v1))), (0, .ref (k0)), (1, .int (x1))]) dX6_reconstruct_13 rfl (Nat.le_of_ble_eq_true rfl) rfl ?_
  exact mg_pick [2, 1, 0] rfl (h d hd ex)
theorem bX6_reconstruct_14 {k0 : Nat} {x2 : Int32} {x3 : Int32} {g : mj_S} {M : mj_M} {q : Int32 → mj_M → Prop} (h0 : is6 g k0) (h : ((x3 : Int32) < 0 → q (x2) (M)) ∧ (¬ (x3 : Int32) < 0 → ∃ (q1 : Int32 → mj_M → Prop), kX6_setOfRow (k0) (x3) g (M) q1 ∧ ∀ (v1 : Int32) (M1 : mj_M), q1 v1 M1 → (∃ (q2 : Int32 → mj_M → Prop), kX9_trueLiterals (x2) g (M1) q2 ∧ ∀ (v2 : Int32) (M2 : mj_M), q2 v2 M2 → ((¬ ((v1) &&& (v2) : Int32) = 0 → LX6_reconstruct_14 k0 (x2) (x3 + (-1)) g (M2) q) ∧ (((v1) &&& (v2) : Int32) = 0 → ∃ (q3 : Int32 → mj_M → Prop), kX6_witnessOfRow (k0) (x3) g (M2) q3 ∧ ∀ (v3 : Int32) (M3 : mj_M), q3 v3 M3 → ((¬ ((v3) &&& (1 : Int32) : Int32) = 0 → LX6_reconstruct_14 k0 ((x2) &&& (((1 : Int32) <<< (((v3) >>> ((1 : Int32) &&& 31)) &&& 31)) ^^^ (-1 : Int32))) (x3 + (-1)) g (M3) q) ∧ (((v3) &&& (1 : Int32) : Int32) = 0 → LX6_reconstruct_14 k0 ((x2) ||| ((1 : Int32) <<< (((v3) >>> ((1 : Int32) &&& 31)) &&& 31))) (x3 + (-1)) g (M3) q))))))) : LX6_reconstruct_14 k0 x2 x3 g M q := by
  intro d hd ex
  refine mg_iload_n dX6_reconstruct_14 rfl 2 rfl ?_
  refine mg_if_lt (tgt := 73) dX6_reconstruct_15 (by decide) (fun hc => ?_) (fun hc => ?_)
  · replace h := h.1 hc
    refine mg_iload_n dX6_reconstruct_73 rfl 1 rfl ?_
    exact me_i dX6_reconstruct_74 rfl h
  · replace h := h.2 hc
    refine mg_aload_n dX6_reconstruct_18 rfl 0 rfl ?_
    refine mg_iload_n dX6_reconstruct_19 rfl 2 rfl ?_
    obtain ⟨q1, hC, hk⟩ := h
    refine mc_Vi [.int (x3)] [] dX6_reconstruct_20 wd_348 kiX6_setOfRow (Nat.le_of_ble_eq_true rfl) h0.1.1 h0.1.2 rfl (Nat.le_trans (Nat.le_of_ble_eq_true rfl) hd) hC (fun v1 M1 hq => ?_)
    replace h := hk v1 M1 hq
    refine mg_iload_n dX6_reconstruct_23 rfl 1 rfl ?_
    obtain ⟨q2, hC, hk⟩ := h
    refine mc_Ni [.int (x2)] [.int (v1)] 7 dX6_reconstruct_24 rfl kiX9_trueLiterals (Nat.le_of_ble_eq_true rfl) (Nat.le_trans (Nat.le_of_ble_eq_true rfl) hd) hC (fun v2 M2 hq => ?_)
    replace h := hk v2 M2 hq
    refine mg_iand dX6_reconstruct_27 ?_
    refine mg_if_ne (tgt := 67) dX6_reconstruct_28 (by decide) (fun hc => ?_) (fun hc => ?_)
    · replace h := h.1 hc
      refine mg_iinc (v := x3 + (-1)) (ls' := [(3, .int (x3 + (-1))), (0, .ref (k0)), (2, .int (x2))]) dX6_reconstruct_67 2 rfl rfl (Nat.le_of_ble_eq_true rfl) rfl ?_
      refine mg_goto (tgt := 14) dX6_reconstruct_70 (by decide) ?_
      exact mg_pick [1, 2, 0] rfl (h d hd ex)
    · replace h := h.2 hc
      refine mg_aload_n dX6_reconstruct_31 rfl 0 rfl ?_
      refine mg_iload_n dX6_reconstruct_32 rfl 2 rfl ?_
      obtain ⟨q3, hC, hk⟩ := h
      refine mc_Vi [.int (x3)] [] dX6_reconstruct_33 wd_353 kiX6_witnessOfRow (Nat.le_of_ble_eq_true rfl) h0.1.1 h0.1.2 rfl (Nat.le_trans (Nat.le_of_ble_eq_true rfl) hd) hC (fun v3 M3 hq => ?_)
      replace h := hk v3 M3 hq
      refine mg_istore (ls' := [(4, .int (v3)), (0, .ref (k0)), (2, .int (x2)), (3, .int (x3))]) dX6_reconstruct_36 (Nat.le_of_ble_eq_true rfl) rfl ?_
      refine mg_iconst (v := 1) dX6_reconstruct_38 (by decide) ?_
      refine mg_iload dX6_reconstruct_39 0 rfl ?_
      refine mg_iconst (v := 1) dX6_reconstruct_41 (by decide) ?_
      refine mg_ishr dX6_reconstruct_42 ?_
      refine mg_ishl dX6_reconstruct_43 ?_
      refine mg_istore (ls' := [(5, .int ((1 : Int32) <<< (((v3) >>> ((1 : Int32) &&& 31)) &&& 31))), (4, .int (v3)), (0, .ref (k0)), (2, .int (x2)), (3, .int (x3))]) dX6_reconstruct_44 (Nat.le_of_ble_eq_true rfl) rfl ?_
      refine mg_iload dX6_reconstruct_46 1 rfl ?_
      refine mg_iconst (v := 1) dX6_reconstruct_48 (by decide) ?_
      refine mg_iand dX6_reconstruct_49 ?_
      refine mg_if_ne (tgt := 60) dX6_reconstruct_50 (by decide) (fun hc => ?_) (fun hc => ?_)
      · replace h := h.1 hc
        refine mg_iload_n dX6_reconstruct_60 rfl 3 rfl ?_
        refine mg_iload dX6_reconstruct_61 0 rfl ?_
        refine mg_iconst (v := (-1)) dX6_reconstruct_63 (by decide) ?_
        refine mg_ixor dX6_reconstruct_64 ?_
        refine mg_iand dX6_reconstruct_65 ?_
        refine mg_istore_n (ls' := [(2, .int ((x2) &&& (((1 : Int32) <<< (((v3) >>> ((1 : Int32) &&& 31)) &&& 31)) ^^^ (-1 : Int32)))), (5, .int ((1 : Int32) <<< (((v3) >>> ((1 : Int32) &&& 31)) &&& 31))), (4, .int (v3)), (0, .ref (k0)), (3, .int (x3))]) dX6_reconstruct_66 rfl (Nat.le_of_ble_eq_true rfl) rfl ?_
        refine mg_iinc (v := x3 + (-1)) (ls' := [(3, .int (x3 + (-1))), (2, .int ((x2) &&& (((1 : Int32) <<< (((v3) >>> ((1 : Int32) &&& 31)) &&& 31)) ^^^ (-1 : Int32)))), (5, .int ((1 : Int32) <<< (((v3) >>> ((1 : Int32) &&& 31)) &&& 31))), (4, .int (v3)), (0, .ref (k0))]) dX6_reconstruct_67 4 rfl rfl (Nat.le_of_ble_eq_true rfl) rfl ?_
        refine mg_goto (tgt := 14) dX6_reconstruct_70 (by decide) ?_
        exact mg_pick [4, 1, 0] rfl (h d hd ex)
      · replace h := h.2 hc
        refine mg_iload_n dX6_reconstruct_53 rfl 3 rfl ?_
        refine mg_iload dX6_reconstruct_54 0 rfl ?_
        refine mg_ior dX6_reconstruct_56 ?_
        refine mg_goto (tgt := 66) dX6_reconstruct_57 (by decide) ?_
        refine mg_istore_n (ls' := [(2, .int ((x2) ||| ((1 : Int32) <<< (((v3) >>> ((1 : Int32) &&& 31)) &&& 31)))), (5, .int ((1 : Int32) <<< (((v3) >>> ((1 : Int32) &&& 31)) &&& 31))), (4, .int (v3)), (0, .ref (k0)), (3, .int (x3))]) dX6_reconstruct_66 rfl (Nat.le_of_ble_eq_true rfl) rfl ?_
        refine mg_iinc (v := x3 + (-1)) (ls' := [(3, .int (x3 + (-1))), (2, .int ((x2) ||| ((1 : Int32) <<< (((v3) >>> ((1 : Int32) &&& 31)) &&& 31)))), (5, .int ((1 : Int32) <<< (((v3) >>> ((1 : Int32) &&& 31)) &&& 31))), (4, .int (v3)), (0, .ref (k0))]) dX6_reconstruct_67 4 rfl rfl (Nat.le_of_ble_eq_true rfl) rfl ?_
        refine mg_goto (tgt := 14) dX6_reconstruct_70 (by decide) ?_
        exact mg_pick [4, 1, 0] rfl (h d hd ex)
theorem dX8_size_0 : decode cX8_size 0 = .ok (.aload_n 0, 1) := by decide +kernel
theorem dX8_size_1 : decode cX8_size 1 = .ok (.getfield 15, 3) := by decide +kernel
theorem dX8_size_4 : decode cX8_size 4 = .ok (.ireturn, 1) := by decide +kernel
abbrev mtX8_size : mj_T := (yX8_size.cls, cX8_size, 1, (some .int), mj_no, yX8_size.name)
abbrev kX8_size (k0 : Nat) (g : mj_S) (M : mj_M) (q : Int32 → mj_M → Prop) : Prop := mj_CI yX8_size (.code yX8_size cX8_size 1 (some .int)) 0 [.ref (k0)] g M q
theorem kiX8_size : mj_cV yX8_size cX8_size 1 (some .int) 0 := ⟨⟨wd_299, wd_300, wd_5, wd_301⟩, ⟨by decide +kernel, by decide +kernel, by decide +kernel⟩, Nat.le_of_ble_eq_true rfl⟩
theorem eX8_size {k0 : Nat} {g : mj_S} {M : mj_M} {q : Int32 → mj_M → Prop} (h0 : is8 g k0) (h : q ((M).1 (k0) 1) (M)) : kX8_size (k0) g M q := by
  intro d hd; refine mj_enter (by decide +kernel) (Nat.le_of_ble_eq_true rfl) ?_
  generalize (false : Bool) = ex
  show mj_G mtX8_size (mj_rm d 0 0) (mj_Fi (mj_qI g q) mj_x0 0 0) ex 0 0 0 [(0, .ref (k0))] [] g M
  refine mg_aload_n dX8_size_0 rfl 0 rfl ?_
  refine mg_getI (j := 1) dX8_size_1 kc_8 (Nat.le_of_ble_eq_true rfl) wd_112 rfl rfl h0.1.1 h0.1.2 rfl ?_
  exact me_i dX8_size_4 rfl h
theorem dX8_at_0 : decode cX8_at 0 = .ok (.iload_n 1, 1) := by decide +kernel
theorem dX8_at_1 : decode cX8_at 1 = .ok (.ifCond .lt 20, 3) := by decide +kernel
theorem dX8_at_4 : decode cX8_at 4 = .ok (.iload_n 1, 1) := by decide +kernel
theorem dX8_at_5 : decode cX8_at 5 = .ok (.aload_n 0, 1) := by decide +kernel
theorem dX8_at_6 : decode cX8_at 6 = .ok (.getfield 15, 3) := by decide +kernel
theorem dX8_at_9 : decode cX8_at 9 = .ok (.if_icmp .ge 12, 3) := by decide +kernel
theorem dX8_at_12 : decode cX8_at 12 = .ok (.aload_n 0, 1) := by decide +kernel
theorem dX8_at_13 : decode cX8_at 13 = .ok (.getfield 9, 3) := by decide +kernel
theorem dX8_at_16 : decode cX8_at 16 = .ok (.iload_n 1, 1) := by decide +kernel
theorem dX8_at_17 : decode cX8_at 17 = .ok (.iaload, 1) := by decide +kernel
theorem dX8_at_18 : decode cX8_at 18 = .ok (.goto 5, 3) := by decide +kernel
theorem dX8_at_21 : decode cX8_at 21 = .ok (.bipush 32, 2) := by decide +kernel
theorem dX8_at_23 : decode cX8_at 23 = .ok (.ireturn, 1) := by decide +kernel
abbrev mtX8_at : mj_T := (yX8_at.cls, cX8_at, 2, (some .int), mj_no, yX8_at.name)
abbrev kX8_at (k0 : Nat) (x1 : Int32) (g : mj_S) (M : mj_M) (q : Int32 → mj_M → Prop) : Prop := mj_CI yX8_at (.code yX8_at cX8_at 2 (some .int)) 0 [.ref (k0), .int (x1)] g M q
theorem kiX8_at : mj_cV yX8_at cX8_at 2 (some .int) 1 := ⟨⟨wd_915, wd_916, wd_5, wd_917⟩, ⟨by decide +kernel, by decide +kernel, by decide +kernel⟩, Nat.le_of_ble_eq_true rfl⟩
theorem eX8_at {k0 : Nat} {x1 : Int32} {g : mj_S} {M : mj_M} {q : Int32 → mj_M → Prop} (h0 : is8 g k0) (h : ((x1 : Int32) < 0 → q (32) (M)) ∧ (¬ (x1 : Int32) < 0 → (((M).1 (k0) 1 : Int32) ≤ (x1) → q (32) (M)) ∧ (¬ ((M).1 (k0) 1 : Int32) ≤ (x1) → vp_in (x1) (160) ∧ (q ((M).1 (k0 + 1) (Int32.toNatClampNeg (x1))) (M))))) : kX8_at (k0) (x1) g M q := by
  intro d hd; refine mj_enter (by decide +kernel) (Nat.le_of_ble_eq_true rfl) ?_
  generalize (false : Bool) = ex
  show mj_G mtX8_at (mj_rm d 0 0) (mj_Fi (mj_qI g q) mj_x0 0 0) ex 0 0 0 [(0, .ref (k0)), (1, .int (x1))] [] g M
  refine mg_iload_n dX8_at_0 rfl 1 rfl ?_
  refine mg_if_lt (tgt := 21) dX8_at_1 (by decide) (fun hc => ?_) (fun hc => ?_)
  · replace h := h.1 hc
    refine mg_bipush (v := 32) dX8_at_21 (by decide) ?_
    exact me_i dX8_at_23 rfl h
  · replace h := h.2 hc
    refine mg_iload_n dX8_at_4 rfl 1 rfl ?_
    refine mg_aload_n dX8_at_5 rfl 0 rfl ?_
    refine mg_getI (j := 1) dX8_at_6 kc_8 (Nat.le_of_ble_eq_true rfl) wd_112 rfl rfl h0.1.1 h0.1.2 rfl ?_
    refine mg_icmp_ge (tgt := 21) dX8_at_9 (by decide) (fun hc => ?_) (fun hc => ?_)
    · replace h := h.1 hc
      refine mg_bipush (v := 32) dX8_at_21 (by decide) ?_
      exact me_i dX8_at_23 rfl h
    · replace h := h.2 hc
      refine mg_aload_n dX8_at_12 rfl 0 rfl ?_
      refine mg_getR (j := 0) dX8_at_13 kc_8 (Nat.le_of_ble_eq_true rfl) wd_111 rfl rfl h0.1.1 h0.1.2 h0.2.1 ?_
      refine mg_iload_n dX8_at_16 rfl 1 rfl ?_
      refine mg_iald dX8_at_17 h0.2.2.1 h0.2.2.2 h.1 rfl ?_
      replace h := h.2
      refine mg_goto (tgt := 23) dX8_at_18 (by decide) ?_
      exact me_i dX8_at_23 rfl h
theorem dX8_isFull_0 : decode cX8_isFull 0 = .ok (.aload_n 0, 1) := by decide +kernel
theorem dX8_isFull_1 : decode cX8_isFull 1 = .ok (.getfield 15, 3) := by decide +kernel
theorem dX8_isFull_4 : decode cX8_isFull 4 = .ok (.sipush 160, 3) := by decide +kernel
theorem dX8_isFull_7 : decode cX8_isFull 7 = .ok (.if_icmp .lt 7, 3) := by decide +kernel
theorem dX8_isFull_10 : decode cX8_isFull 10 = .ok (.iconst 1, 1) := by decide +kernel
theorem dX8_isFull_11 : decode cX8_isFull 11 = .ok (.goto 4, 3) := by decide +kernel
theorem dX8_isFull_14 : decode cX8_isFull 14 = .ok (.iconst 0, 1) := by decide +kernel
theorem dX8_isFull_15 : decode cX8_isFull 15 = .ok (.ireturn, 1) := by decide +kernel
abbrev mtX8_isFull : mj_T := (yX8_isFull.cls, cX8_isFull, 1, (some .boolean), mj_no, yX8_isFull.name)
abbrev kX8_isFull (k0 : Nat) (g : mj_S) (M : mj_M) (q : Int32 → mj_M → Prop) : Prop := mj_CI yX8_isFull (.code yX8_isFull cX8_isFull 1 (some .boolean)) 0 [.ref (k0)] g M q
theorem kiX8_isFull : mj_cV yX8_isFull cX8_isFull 1 (some .boolean) 0 := ⟨⟨wd_890, wd_891, wd_5, wd_892⟩, ⟨by decide +kernel, by decide +kernel, by decide +kernel⟩, Nat.le_of_ble_eq_true rfl⟩
theorem eX8_isFull {k0 : Nat} {g : mj_S} {M : mj_M} {q : Int32 → mj_M → Prop} (h0 : is8 g k0) (h : (((M).1 (k0) 1 : Int32) < (160 : Int32) → q 0 (M)) ∧ (¬ ((M).1 (k0) 1 : Int32) < (160 : Int32) → q 1 (M))) : kX8_isFull (k0) g M q := by
  intro d hd; refine mj_enter (by decide +kernel) (Nat.le_of_ble_eq_true rfl) ?_
  generalize (false : Bool) = ex
  show mj_G mtX8_isFull (mj_rm d 0 0) (mj_Fi (mj_qI g q) mj_x0 0 0) ex 0 0 0 [(0, .ref (k0))] [] g M
  refine mg_aload_n dX8_isFull_0 rfl 0 rfl ?_
  refine mg_getI (j := 1) dX8_isFull_1 kc_8 (Nat.le_of_ble_eq_true rfl) wd_112 rfl rfl h0.1.1 h0.1.2 rfl ?_
  refine mg_sipush (v := 160) dX8_isFull_4 (by decide) ?_
  refine mg_icmp_lt (tgt := 14) dX8_isFull_7 (by decide) (fun hc => ?_) (fun hc => ?_)
  · replace h := h.1 hc
    refine mg_iconst (v := 0) dX8_isFull_14 (by decide) ?_
    exact me_z dX8_isFull_15 rfl (Or.inl rfl) h
  · replace h := h.2 hc
    refine mg_iconst (v := 1) dX8_isFull_10 (by decide) ?_
    refine mg_goto (tgt := 15) dX8_isFull_11 (by decide) ?_
    exact me_z dX8_isFull_15 rfl (Or.inr rfl) h
theorem dX8_addByte_0 : decode cX8_addByte 0 = .ok (.aload_n 0, 1) := by decide +kernel
theorem dX8_addByte_1 : decode cX8_addByte 1 = .ok (.getfield 15, 3) := by decide +kernel
theorem dX8_addByte_4 : decode cX8_addByte 4 = .ok (.sipush 160, 3) := by decide +kernel
theorem dX8_addByte_7 : decode cX8_addByte 7 = .ok (.if_icmp .ge 23, 3) := by decide +kernel
theorem dX8_addByte_10 : decode cX8_addByte 10 = .ok (.aload_n 0, 1) := by decide +kernel
theorem dX8_addByte_11 : decode cX8_addByte 11 = .ok (.getfield 9, 3) := by decide +kernel
theorem dX8_addByte_14 : decode cX8_addByte 14 = .ok (.aload_n 0, 1) := by decide +kernel
theorem dX8_addByte_15 : decode cX8_addByte 15 = .ok (.getfield 15, 3) := by decide +kernel
theorem dX8_addByte_18 : decode cX8_addByte 18 = .ok (.iload_n 1, 1) := by decide +kernel
theorem dX8_addByte_19 : decode cX8_addByte 19 = .ok (.iastore, 1) := by decide +kernel
theorem dX8_addByte_20 : decode cX8_addByte 20 = .ok (.aload_n 0, 1) := by decide +kernel
theorem dX8_addByte_21 : decode cX8_addByte 21 = .ok (.dup, 1) := by decide +kernel
theorem dX8_addByte_22 : decode cX8_addByte 22 = .ok (.getfield 15, 3) := by decide +kernel
theorem dX8_addByte_25 : decode cX8_addByte 25 = .ok (.iconst 1, 1) := by decide +kernel
theorem dX8_addByte_26 : decode cX8_addByte 26 = .ok (.iadd, 1) := by decide +kernel
theorem dX8_addByte_27 : decode cX8_addByte 27 = .ok (.putfield 15, 3) := by decide +kernel
theorem dX8_addByte_30 : decode cX8_addByte 30 = .ok (.return_, 1) := by decide +kernel
abbrev mtX8_addByte : mj_T := (yX8_addByte.cls, cX8_addByte, 2, none, mj_no, yX8_addByte.name)
abbrev kX8_addByte (k0 : Nat) (x1 : Int32) (g : mj_S) (M : mj_M) (q : mj_M → Prop) : Prop := mj_CV yX8_addByte (.code yX8_addByte cX8_addByte 2 none) 0 [.ref (k0), .int (x1)] g M q
theorem kiX8_addByte : mj_cV yX8_addByte cX8_addByte 2 none 1 := ⟨⟨wd_895, wd_896, wd_5, wd_897⟩, ⟨by decide +kernel, by decide +kernel, by decide +kernel⟩, Nat.le_of_ble_eq_true rfl⟩
theorem eX8_addByte {k0 : Nat} {x1 : Int32} {g : mj_S} {M : mj_M} {q : mj_M → Prop} (h0 : is8 g k0) (h : ((160 : Int32) ≤ ((M).1 (k0) 1) → q (M)) ∧ (¬ (160 : Int32) ≤ ((M).1 (k0) 1) → vp_in ((M).1 (k0) 1) (160) ∧ (q (mj_wI (mj_wI (M) (k0 + 1) (Int32.toNatClampNeg ((M).1 (k0) 1)) (x1)) (k0) 1 (((mj_wI (M) (k0 + 1) (Int32.toNatClampNeg ((M).1 (k0) 1)) (x1)).1 (k0) 1) + (1 : Int32)))))) : kX8_addByte (k0) (x1) g M q := by
  intro d hd; refine mj_enter (by decide +kernel) (Nat.le_of_ble_eq_true rfl) ?_
  generalize (false : Bool) = ex
  show mj_G mtX8_addByte (mj_rm d 0 0) (mj_Fi (mj_qV g q) mj_x0 0 0) ex 0 0 0 [(0, .ref (k0)), (1, .int (x1))] [] g M
  refine mg_aload_n dX8_addByte_0 rfl 0 rfl ?_
  refine mg_getI (j := 1) dX8_addByte_1 kc_8 (Nat.le_of_ble_eq_true rfl) wd_112 rfl rfl h0.1.1 h0.1.2 rfl ?_
  refine mg_sipush (v := 160) dX8_addByte_4 (by decide) ?_
  refine mg_icmp_ge (tgt := 30) dX8_addByte_7 (by decide) (fun hc => ?_) (fun hc => ?_)
  · replace h := h.1 hc
    exact me_v dX8_addByte_30 rfl h
  · replace h := h.2 hc
    refine mg_aload_n dX8_addByte_10 rfl 0 rfl ?_
    refine mg_getR (j := 0) dX8_addByte_11 kc_8 (Nat.le_of_ble_eq_true rfl) wd_111 rfl rfl h0.1.1 h0.1.2 h0.2.1 ?_
    refine mg_aload_n dX8_addByte_14 rfl 0 rfl ?_
    refine mg_getI (j := 1) dX8_addByte_15 kc_8 (Nat.le_of_ble_eq_true rfl) wd_112 rfl rfl h0.1.1 h0.1.2 rfl ?_
    refine mg_iload_n dX8_addByte_18 rfl 1 rfl ?_
    refine mg_iast dX8_addByte_19 h0.2.2.1 h0.2.2.2 h.1 ?_
    replace h := h.2
    refine mg_aload_n dX8_addByte_20 rfl 0 rfl ?_
    refine mg_dup dX8_addByte_21 rfl ?_
    refine mg_getI (j := 1) dX8_addByte_22 kc_8 (Nat.le_of_ble_eq_true rfl) wd_112 rfl rfl h0.1.1 h0.1.2 rfl ?_
    refine mg_iconst (v := 1) dX8_addByte_25 (by decide) ?_
    refine mg_iadd dX8_addByte_26 ?_
    refine mg_putI (j := 1) dX8_addByte_27 kc_8 (Nat.le_of_ble_eq_true rfl) wd_112 rfl rfl rfl h0.1.1 h0.1.2 ?_
    exact me_v dX8_addByte_30 rfl h
theorem dX8_clear_0 : decode cX8_clear 0 = .ok (.aload_n 0, 1) := by decide +kernel
theorem dX8_clear_1 : decode cX8_clear 1 = .ok (.iconst 0, 1) := by decide +kernel
theorem dX8_clear_2 : decode cX8_clear 2 = .ok (.putfield 15, 3) := by decide +kernel
theorem dX8_clear_5 : decode cX8_clear 5 = .ok (.return_, 1) := by decide +kernel
abbrev mtX8_clear : mj_T := (yX8_clear.cls, cX8_clear, 1, none, mj_no, yX8_clear.name)
abbrev kX8_clear (k0 : Nat) (g : mj_S) (M : mj_M) (q : mj_M → Prop) : Prop := mj_CV yX8_clear (.code yX8_clear cX8_clear 1 none) 0 [.ref (k0)] g M q
theorem kiX8_clear : mj_cV yX8_clear cX8_clear 1 none 0 := ⟨⟨wd_303, wd_304, wd_5, wd_305⟩, ⟨by decide +kernel, by decide +kernel, by decide +kernel⟩, Nat.le_of_ble_eq_true rfl⟩
theorem eX8_clear {k0 : Nat} {g : mj_S} {M : mj_M} {q : mj_M → Prop} (h0 : is8 g k0) (h : q (mj_wI (M) (k0) 1 (0))) : kX8_clear (k0) g M q := by
  intro d hd; refine mj_enter (by decide +kernel) (Nat.le_of_ble_eq_true rfl) ?_
  generalize (false : Bool) = ex
  show mj_G mtX8_clear (mj_rm d 0 0) (mj_Fi (mj_qV g q) mj_x0 0 0) ex 0 0 0 [(0, .ref (k0))] [] g M
  refine mg_aload_n dX8_clear_0 rfl 0 rfl ?_
  refine mg_iconst (v := 0) dX8_clear_1 (by decide) ?_
  refine mg_putI (j := 1) dX8_clear_2 kc_8 (Nat.le_of_ble_eq_true rfl) wd_112 rfl rfl rfl h0.1.1 h0.1.2 ?_
  exact me_v dX8_clear_5 rfl h
theorem dX8_techniqueAt_0 : decode cX8_techniqueAt 0 = .ok (.ldc 19, 2) := by decide +kernel
theorem dX8_techniqueAt_2 : decode cX8_techniqueAt 2 = .ok (.aload_n 0, 1) := by decide +kernel
theorem dX8_techniqueAt_3 : decode cX8_techniqueAt 3 = .ok (.iload_n 1, 1) := by decide +kernel
theorem dX8_techniqueAt_4 : decode cX8_techniqueAt 4 = .ok (.invokevirtual 21, 3) := by decide +kernel
theorem dX8_techniqueAt_7 : decode cX8_techniqueAt 7 = .ok (.i2c, 1) := by decide +kernel
theorem dX8_techniqueAt_8 : decode cX8_techniqueAt 8 = .ok (.invokevirtual 25, 3) := by decide +kernel
theorem dX8_techniqueAt_11 : decode cX8_techniqueAt 11 = .ok (.ireturn, 1) := by decide +kernel
abbrev mtX8_techniqueAt : mj_T := (yX8_techniqueAt.cls, cX8_techniqueAt, 2, (some .int), mj_no, yX8_techniqueAt.name)
abbrev kX8_techniqueAt (k0 : Nat) (x1 : Int32) (g : mj_S) (M : mj_M) (q : Int32 → mj_M → Prop) : Prop := mj_CI yX8_techniqueAt (.code yX8_techniqueAt cX8_techniqueAt 2 (some .int)) 4 [.ref (k0), .int (x1)] g M q
theorem kiX8_techniqueAt : mj_cV yX8_techniqueAt cX8_techniqueAt 2 (some .int) 1 := ⟨⟨wd_994, wd_995, wd_5, wd_996⟩, ⟨by decide +kernel, by decide +kernel, by decide +kernel⟩, Nat.le_of_ble_eq_true rfl⟩
theorem eX8_techniqueAt {k0 : Nat} {x1 : Int32} {g : mj_S} {M : mj_M} {q : Int32 → mj_M → Prop} (h0 : is8 g k0) (h : ∃ (q1 : Int32 → mj_M → Prop), kX8_at (k0) (x1) g (M) q1 ∧ ∀ (v1 : Int32) (M1 : mj_M), q1 v1 M1 → (∃ (q2 : Int32 → mj_M → Prop), kJ0_indexOf_0f7a4 ((Int32.toUInt32 (v1) % 65536).toInt32) g (M1) q2 ∧ ∀ (v2 : Int32) (M2 : mj_M), q2 v2 M2 → (q (v2) (M2)))) : kX8_techniqueAt (k0) (x1) g M q := by
  intro d hd; refine mj_enter (by decide +kernel) (Nat.le_of_ble_eq_true rfl) ?_
  generalize (false : Bool) = ex
  show mj_G mtX8_techniqueAt (mj_rm d 0 0) (mj_Fi (mj_qI g q) mj_x0 0 0) ex 0 0 0 [(0, .ref (k0)), (1, .int (x1))] [] g M
  refine mg_ldcT rfl dX8_techniqueAt_0 ?_
  refine mg_aload_n dX8_techniqueAt_2 rfl 0 rfl ?_
  refine mg_iload_n dX8_techniqueAt_3 rfl 1 rfl ?_
  obtain ⟨q1, hC, hk⟩ := h
  refine mc_Vi [.int (x1)] [.ref (900000)] dX8_techniqueAt_4 wd_992 kiX8_at (Nat.le_of_ble_eq_true rfl) h0.1.1 h0.1.2 rfl (Nat.le_trans (Nat.le_of_ble_eq_true rfl) hd) hC (fun v1 M1 hq => ?_)
  replace h := hk v1 M1 hq
  refine mg_i2c dX8_techniqueAt_7 ?_
  obtain ⟨q2, hC, hk⟩ := h
  refine mc_Ti [.int ((Int32.toUInt32 (v1) % 65536).toInt32)] [] dX8_techniqueAt_8 wd_998 kiJ0_indexOf_0f7a4 rfl (Nat.le_of_ble_eq_true rfl) (Nat.le_trans (Nat.le_of_ble_eq_true rfl) hd) hC (fun v2 M2 hq => ?_)
  replace h := hk v2 M2 hq
  exact me_i dX8_techniqueAt_11 rfl h
theorem dX8_scheduleError_0 : decode cX8_scheduleError 0 = .ok (.iconst 0, 1) := by decide +kernel
theorem dX8_scheduleError_1 : decode cX8_scheduleError 1 = .ok (.istore_n 1, 1) := by decide +kernel
theorem dX8_scheduleError_2 : decode cX8_scheduleError 2 = .ok (.iconst 0, 1) := by decide +kernel
theorem dX8_scheduleError_3 : decode cX8_scheduleError 3 = .ok (.istore_n 2, 1) := by decide +kernel
theorem dX8_scheduleError_4 : decode cX8_scheduleError 4 = .ok (.iload_n 2, 1) := by decide +kernel
theorem dX8_scheduleError_5 : decode cX8_scheduleError 5 = .ok (.aload_n 0, 1) := by decide +kernel
theorem dX8_scheduleError_6 : decode cX8_scheduleError 6 = .ok (.getfield 15, 3) := by decide +kernel
theorem dX8_scheduleError_9 : decode cX8_scheduleError 9 = .ok (.if_icmp .ge 52, 3) := by decide +kernel
theorem dX8_scheduleError_12 : decode cX8_scheduleError 12 = .ok (.aload_n 0, 1) := by decide +kernel
theorem dX8_scheduleError_13 : decode cX8_scheduleError 13 = .ok (.iload_n 2, 1) := by decide +kernel
theorem dX8_scheduleError_14 : decode cX8_scheduleError 14 = .ok (.invokevirtual 21, 3) := by decide +kernel
theorem dX8_scheduleError_17 : decode cX8_scheduleError 17 = .ok (.bipush 32, 2) := by decide +kernel
theorem dX8_scheduleError_19 : decode cX8_scheduleError 19 = .ok (.if_icmp .eq 36, 3) := by decide +kernel
theorem dX8_scheduleError_22 : decode cX8_scheduleError 22 = .ok (.aload_n 0, 1) := by decide +kernel
theorem dX8_scheduleError_23 : decode cX8_scheduleError 23 = .ok (.iload_n 2, 1) := by decide +kernel
theorem dX8_scheduleError_24 : decode cX8_scheduleError 24 = .ok (.invokevirtual 21, 3) := by decide +kernel
theorem dX8_scheduleError_27 : decode cX8_scheduleError 27 = .ok (.bipush 10, 2) := by decide +kernel
theorem dX8_scheduleError_29 : decode cX8_scheduleError 29 = .ok (.if_icmp .ne 6, 3) := by decide +kernel
theorem dX8_scheduleError_32 : decode cX8_scheduleError 32 = .ok (.goto 23, 3) := by decide +kernel
theorem dX8_scheduleError_35 : decode cX8_scheduleError 35 = .ok (.aload_n 0, 1) := by decide +kernel
theorem dX8_scheduleError_36 : decode cX8_scheduleError 36 = .ok (.iload_n 2, 1) := by decide +kernel
theorem dX8_scheduleError_37 : decode cX8_scheduleError 37 = .ok (.invokevirtual 30, 3) := by decide +kernel
theorem dX8_scheduleError_40 : decode cX8_scheduleError 40 = .ok (.iconst (-1), 1) := by decide +kernel
theorem dX8_scheduleError_41 : decode cX8_scheduleError 41 = .ok (.if_icmp .eq 9, 3) := by decide +kernel
theorem dX8_scheduleError_44 : decode cX8_scheduleError 44 = .ok (.iload_n 1, 1) := by decide +kernel
theorem dX8_scheduleError_45 : decode cX8_scheduleError 45 = .ok (.bipush 20, 2) := by decide +kernel
theorem dX8_scheduleError_47 : decode cX8_scheduleError 47 = .ok (.if_icmp .ne 5, 3) := by decide +kernel
theorem dX8_scheduleError_50 : decode cX8_scheduleError 50 = .ok (.iload_n 2, 1) := by decide +kernel
theorem dX8_scheduleError_51 : decode cX8_scheduleError 51 = .ok (.ireturn, 1) := by decide +kernel
theorem dX8_scheduleError_52 : decode cX8_scheduleError 52 = .ok (.iinc 1 1, 3) := by decide +kernel
theorem dX8_scheduleError_55 : decode cX8_scheduleError 55 = .ok (.iinc 2 1, 3) := by decide +kernel
theorem dX8_scheduleError_58 : decode cX8_scheduleError 58 = .ok (.goto (-54), 3) := by decide +kernel
theorem dX8_scheduleError_61 : decode cX8_scheduleError 61 = .ok (.iload_n 1, 1) := by decide +kernel
theorem dX8_scheduleError_62 : decode cX8_scheduleError 62 = .ok (.ifCond .ne 10, 3) := by decide +kernel
theorem dX8_scheduleError_65 : decode cX8_scheduleError 65 = .ok (.aload_n 0, 1) := by decide +kernel
theorem dX8_scheduleError_66 : decode cX8_scheduleError 66 = .ok (.getfield 15, 3) := by decide +kernel
theorem dX8_scheduleError_69 : decode cX8_scheduleError 69 = .ok (.goto 4, 3) := by decide +kernel
theorem dX8_scheduleError_72 : decode cX8_scheduleError 72 = .ok (.iconst (-1), 1) := by decide +kernel
theorem dX8_scheduleError_73 : decode cX8_scheduleError 73 = .ok (.ireturn, 1) := by decide +kernel
abbrev mtX8_scheduleError : mj_T := (yX8_scheduleError.cls, cX8_scheduleError, 3, (some .int), mj_no, yX8_scheduleError.name)
abbrev kX8_scheduleError (k0 : Nat) (g : mj_S) (M : mj_M) (q : Int32 → mj_M → Prop) : Prop := mj_CI yX8_scheduleError (.code yX8_scheduleError cX8_scheduleError 3 (some .int)) 5 [.ref (k0)] g M q
theorem kiX8_scheduleError : mj_cV yX8_scheduleError cX8_scheduleError 3 (some .int) 0 := ⟨⟨wd_989, wd_990, wd_5, wd_991⟩, ⟨by decide +kernel, by decide +kernel, by decide +kernel⟩, Nat.le_of_ble_eq_true rfl⟩
def LX8_scheduleError_4 (k0 : Nat) (x1 : Int32) (x2 : Int32) (g : mj_S) (M : mj_M) (q : Int32 → mj_M → Prop) : Prop := ∀ d, 5 ≤ d → ∀ ex : Bool, mj_G mtX8_scheduleError (mj_rm d 0 0) (mj_Fi (mj_qI g q) mj_x0 0 0) ex 0 0 4 [(0, .ref (k0)), (1, .int (x1)), (2, .int (x2))] [] g M
theorem eX8_scheduleError {k0 : Nat} {g : mj_S} {M : mj_M} {q : Int32 → mj_M → Prop} (h0 : is8 g k0) (h : LX8_scheduleError_4 k0 (0) (0) g (M) q) : kX8_scheduleError (k0) g M q := by
  intro d hd; refine mj_enter (by decide +kernel) (Nat.le_of_ble_eq_true rfl) ?_
  generalize (false : Bool) = ex
  show mj_G mtX8_scheduleError (mj_rm d 0 0) (mj_Fi (mj_qI g q) mj_x0 0 0) ex 0 0 0 [(0, .ref (k0))] [] g M
  refine mg_iconst (v := 0) dX8_scheduleError_0 (by decide) ?_
  refine mg_istore_n (ls' := [(1, .int (0)), (0, .ref (k0))]) dX8_scheduleError_1 rfl (Nat.le_of_ble_eq_true rfl) rfl ?_
  refine mg_iconst (v := 0) dX8_scheduleError_2 (by decide) ?_
  refine mg_istore_n (ls' := [(2, .int (0)), (1, .int (0)), (0, .ref (k0))]) dX8_scheduleError_3 rfl (Nat.le_of_ble_eq_true rfl) rfl ?_
  exact mg_pick [2, 1, 0] rfl (h d hd ex)
theorem bX8_scheduleError_4 {k0 : Nat} {x1 : Int32} {x2 : Int32} {g : mj_S} {M : mj_M} {q : Int32 → mj_M → Prop} (h0 : is8 g k0) (h : (((M).1 (k0) 1 : Int32) ≤ (x2) → (¬ (x1 : Int32) = 0 → q ((-1)) (M)) ∧ ((x1 : Int32) = 0 → q ((M).1 (k0) 1) (M))) ∧ (¬ ((M).1 (k0) 1 : Int32) ≤ (x2) → ∃ (q1 : Int32 → mj_M → Prop), kX8_at (k0) (x2) g (M) q1 ∧ ∀ (v1 : Int32) (M1 : mj_M), q1 v1 M1 → (((v1 : Int32) = (32 : Int32) → LX8_scheduleError_4 k0 (x1) (x2 + 1) g (M1) q) ∧ (¬ (v1 : Int32) = (32 : Int32) → ∃ (q2 : Int32 → mj_M → Prop), kX8_at (k0) (x2) g (M1) q2 ∧ ∀ (v2 : Int32) (M2 : mj_M), q2 v2 M2 → ((¬ (v2 : Int32) = (10 : Int32) → ∃ (q3 : Int32 → mj_M → Prop), kX8_techniqueAt (k0) (x2) g (M2) q3 ∧ ∀ (v3 : Int32) (M3 : mj_M), q3 v3 M3 → (((v3 : Int32) = (-1 : Int32) → q (x2) (M3)) ∧ (¬ (v3 : Int32) = (-1 : Int32) → (¬ (x1 : Int32) = (20 : Int32) → LX8_scheduleError_4 k0 (x1 + 1) (x2 + 1) g (M3) q) ∧ ((x1 : Int32) = (20 : Int32) → q (x2) (M3))))) ∧ ((v2 : Int32) = (10 : Int32) → LX8_scheduleError_4 k0 (x1) (x2 + 1) g (M2) q)))))) : LX8_scheduleError_4 k0 x1 x2 g M q := by
  intro d hd ex
  refine mg_iload_n dX8_scheduleError_4 rfl 2 rfl ?_
  refine mg_aload_n dX8_scheduleError_5 rfl 0 rfl ?_
  refine mg_getI (j := 1) dX8_scheduleError_6 kc_8 (Nat.le_of_ble_eq_true rfl) wd_112 rfl rfl h0.1.1 h0.1.2 rfl ?_
  refine mg_icmp_ge (tgt := 61) dX8_scheduleError_9 (by decide) (fun hc => ?_) (fun hc => ?_)
  · replace h := h.1 hc
    refine mg_iload_n dX8_scheduleError_61 rfl 1 rfl ?_
    refine mg_if_ne (tgt := 72) dX8_scheduleError_62 (by decide) (fun hc => ?_) (fun hc => ?_)
    · replace h := h.1 hc
      refine mg_iconst (v := (-1)) dX8_scheduleError_72 (by decide) ?_
      exact me_i dX8_scheduleError_73 rfl h
    · replace h := h.2 hc
      refine mg_aload_n dX8_scheduleError_65 rfl 0 rfl ?_
      refine mg_getI (j := 1) dX8_scheduleError_66 kc_8 (Nat.le_of_ble_eq_true rfl) wd_112 rfl rfl h0.1.1 h0.1.2 rfl ?_
      refine mg_goto (tgt := 73) dX8_scheduleError_69 (by decide) ?_
      exact me_i dX8_scheduleError_73 rfl h
  · replace h := h.2 hc
    refine mg_aload_n dX8_scheduleError_12 rfl 0 rfl ?_
    refine mg_iload_n dX8_scheduleError_13 rfl 2 rfl ?_
    obtain ⟨q1, hC, hk⟩ := h
    refine mc_Vi [.int (x2)] [] dX8_scheduleError_14 wd_992 kiX8_at (Nat.le_of_ble_eq_true rfl) h0.1.1 h0.1.2 rfl (Nat.le_trans (Nat.le_of_ble_eq_true rfl) hd) hC (fun v1 M1 hq => ?_)
    replace h := hk v1 M1 hq
    refine mg_bipush (v := 32) dX8_scheduleError_17 (by decide) ?_
    refine mg_icmp_eq (tgt := 55) dX8_scheduleError_19 (by decide) (fun hc => ?_) (fun hc => ?_)
    · replace h := h.1 hc
      refine mg_iinc (v := x2 + 1) (ls' := [(2, .int (x2 + 1)), (0, .ref (k0)), (1, .int (x1))]) dX8_scheduleError_55 2 rfl rfl (Nat.le_of_ble_eq_true rfl) rfl ?_
      refine mg_goto (tgt := 4) dX8_scheduleError_58 (by decide) ?_
      exact mg_pick [1, 2, 0] rfl (h d hd ex)
    · replace h := h.2 hc
      refine mg_aload_n dX8_scheduleError_22 rfl 0 rfl ?_
      refine mg_iload_n dX8_scheduleError_23 rfl 2 rfl ?_
      obtain ⟨q2, hC, hk⟩ := h
      refine mc_Vi [.int (x2)] [] dX8_scheduleError_24 wd_992 kiX8_at (Nat.le_of_ble_eq_true rfl) h0.1.1 h0.1.2 rfl (Nat.le_trans (Nat.le_of_ble_eq_true rfl) hd) hC (fun v2 M2 hq => ?_)
      replace h := hk v2 M2 hq
      refine mg_bipush (v := 10) dX8_scheduleError_27 (by decide) ?_
      refine mg_icmp_ne (tgt := 35) dX8_scheduleError_29 (by decide) (fun hc => ?_) (fun hc => ?_)
      · replace h := h.1 hc
        refine mg_aload_n dX8_scheduleError_35 rfl 0 rfl ?_
        refine mg_iload_n dX8_scheduleError_36 rfl 2 rfl ?_
        obtain ⟨q3, hC, hk⟩ := h
        refine mc_Vi [.int (x2)] [] dX8_scheduleError_37 wd_993 kiX8_techniqueAt (Nat.le_of_ble_eq_true rfl) h0.1.1 h0.1.2 rfl (Nat.le_trans (Nat.le_of_ble_eq_true rfl) hd) hC (fun v3 M3 hq => ?_)
        replace h := hk v3 M3 hq
        refine mg_iconst (v := (-1)) dX8_scheduleError_40 (by decide) ?_
        refine mg_icmp_eq (tgt := 50) dX8_scheduleError_41 (by decide) (fun hc => ?_) (fun hc => ?_)
        · replace h := h.1 hc
          refine mg_iload_n dX8_scheduleError_50 rfl 2 rfl ?_
          exact me_i dX8_scheduleError_51 rfl h
        · replace h := h.2 hc
          refine mg_iload_n dX8_scheduleError_44 rfl 1 rfl ?_
          refine mg_bipush (v := 20) dX8_scheduleError_45 (by decide) ?_
          refine mg_icmp_ne (tgt := 52) dX8_scheduleError_47 (by decide) (fun hc => ?_) (fun hc => ?_)
          · replace h := h.1 hc
            refine mg_iinc (v := x1 + 1) (ls' := [(1, .int (x1 + 1)), (0, .ref (k0)), (2, .int (x2))]) dX8_scheduleError_52 1 rfl rfl (Nat.le_of_ble_eq_true rfl) rfl ?_
            refine mg_iinc (v := x2 + 1) (ls' := [(2, .int (x2 + 1)), (1, .int (x1 + 1)), (0, .ref (k0))]) dX8_scheduleError_55 2 rfl rfl (Nat.le_of_ble_eq_true rfl) rfl ?_
            refine mg_goto (tgt := 4) dX8_scheduleError_58 (by decide) ?_
            exact mg_pick [2, 1, 0] rfl (h d hd ex)
          · replace h := h.2 hc
            refine mg_iload_n dX8_scheduleError_50 rfl 2 rfl ?_
            exact me_i dX8_scheduleError_51 rfl h
      · replace h := h.2 hc
        refine mg_goto (tgt := 55) dX8_scheduleError_32 (by decide) ?_
        refine mg_iinc (v := x2 + 1) (ls' := [(2, .int (x2 + 1)), (0, .ref (k0)), (1, .int (x1))]) dX8_scheduleError_55 2 rfl rfl (Nat.le_of_ble_eq_true rfl) rfl ?_
        refine mg_goto (tgt := 4) dX8_scheduleError_58 (by decide) ?_
        exact mg_pick [1, 2, 0] rfl (h d hd ex)
