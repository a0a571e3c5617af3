theorem dX9_saveState_0 : decode cX9_saveState 0 = .ok (.aload_n 0, 1) := by decide +kernel
theorem dX9_saveState_1 : decode cX9_saveState 1 = .ok (.getfield 23, 3) := by decide +kernel
theorem dX9_saveState_4 : decode cX9_saveState 4 = .ok (.aload_n 0, 1) := by decide +kernel
theorem dX9_saveState_5 : decode cX9_saveState 5 = .ok (.getfield 19, 3) := by decide +kernel
theorem dX9_saveState_8 : decode cX9_saveState 8 = .ok (.arraylength, 1) := by decide +kernel
theorem dX9_saveState_9 : decode cX9_saveState 9 = .ok (.if_icmp .lt 65, 3) := by decide +kernel
theorem dX9_saveState_12 : decode cX9_saveState 12 = .ok (.aload_n 0, 1) := by decide +kernel
theorem dX9_saveState_13 : decode cX9_saveState 13 = .ok (.getfield 19, 3) := by decide +kernel
theorem dX9_saveState_16 : decode cX9_saveState 16 = .ok (.iconst 0, 1) := by decide +kernel
theorem dX9_saveState_17 : decode cX9_saveState 17 = .ok (.aaload, 1) := by decide +kernel
theorem dX9_saveState_18 : decode cX9_saveState 18 = .ok (.astore_n 1, 1) := by decide +kernel
theorem dX9_saveState_19 : decode cX9_saveState 19 = .ok (.iconst 1, 1) := by decide +kernel
theorem dX9_saveState_20 : decode cX9_saveState 20 = .ok (.istore_n 2, 1) := by decide +kernel
theorem dX9_saveState_21 : decode cX9_saveState 21 = .ok (.iload_n 2, 1) := by decide +kernel
theorem dX9_saveState_22 : decode cX9_saveState 22 = .ok (.aload_n 0, 1) := by decide +kernel
theorem dX9_saveState_23 : decode cX9_saveState 23 = .ok (.getfield 19, 3) := by decide +kernel
theorem dX9_saveState_26 : decode cX9_saveState 26 = .ok (.arraylength, 1) := by decide +kernel
theorem dX9_saveState_27 : decode cX9_saveState 27 = .ok (.if_icmp .ge 23, 3) := by decide +kernel
theorem dX9_saveState_30 : decode cX9_saveState 30 = .ok (.aload_n 0, 1) := by decide +kernel
theorem dX9_saveState_31 : decode cX9_saveState 31 = .ok (.getfield 19, 3) := by decide +kernel
theorem dX9_saveState_34 : decode cX9_saveState 34 = .ok (.iload_n 2, 1) := by decide +kernel
theorem dX9_saveState_35 : decode cX9_saveState 35 = .ok (.iconst 1, 1) := by decide +kernel
theorem dX9_saveState_36 : decode cX9_saveState 36 = .ok (.isub, 1) := by decide +kernel
theorem dX9_saveState_37 : decode cX9_saveState 37 = .ok (.aload_n 0, 1) := by decide +kernel
theorem dX9_saveState_38 : decode cX9_saveState 38 = .ok (.getfield 19, 3) := by decide +kernel
theorem dX9_saveState_41 : decode cX9_saveState 41 = .ok (.iload_n 2, 1) := by decide +kernel
theorem dX9_saveState_42 : decode cX9_saveState 42 = .ok (.aaload, 1) := by decide +kernel
theorem dX9_saveState_43 : decode cX9_saveState 43 = .ok (.aastore, 1) := by decide +kernel
theorem dX9_saveState_44 : decode cX9_saveState 44 = .ok (.iinc 2 1, 3) := by decide +kernel
theorem dX9_saveState_47 : decode cX9_saveState 47 = .ok (.goto (-26), 3) := by decide +kernel
theorem dX9_saveState_50 : decode cX9_saveState 50 = .ok (.aload_n 0, 1) := by decide +kernel
theorem dX9_saveState_51 : decode cX9_saveState 51 = .ok (.getfield 19, 3) := by decide +kernel
theorem dX9_saveState_54 : decode cX9_saveState 54 = .ok (.aload_n 0, 1) := by decide +kernel
theorem dX9_saveState_55 : decode cX9_saveState 55 = .ok (.getfield 19, 3) := by decide +kernel
theorem dX9_saveState_58 : decode cX9_saveState 58 = .ok (.arraylength, 1) := by decide +kernel
theorem dX9_saveState_59 : decode cX9_saveState 59 = .ok (.iconst 1, 1) := by decide +kernel
theorem dX9_saveState_60 : decode cX9_saveState 60 = .ok (.isub, 1) := by decide +kernel
theorem dX9_saveState_61 : decode cX9_saveState 61 = .ok (.aload_n 1, 1) := by decide +kernel
theorem dX9_saveState_62 : decode cX9_saveState 62 = .ok (.aastore, 1) := by decide +kernel
theorem dX9_saveState_63 : decode cX9_saveState 63 = .ok (.aload_n 0, 1) := by decide +kernel
theorem dX9_saveState_64 : decode cX9_saveState 64 = .ok (.aload_n 0, 1) := by decide +kernel
theorem dX9_saveState_65 : decode cX9_saveState 65 = .ok (.getfield 19, 3) := by decide +kernel
theorem dX9_saveState_68 : decode cX9_saveState 68 = .ok (.arraylength, 1) := by decide +kernel
theorem dX9_saveState_69 : decode cX9_saveState 69 = .ok (.iconst 1, 1) := by decide +kernel
theorem dX9_saveState_70 : decode cX9_saveState 70 = .ok (.isub, 1) := by decide +kernel
theorem dX9_saveState_71 : decode cX9_saveState 71 = .ok (.putfield 23, 3) := by decide +kernel
theorem dX9_saveState_74 : decode cX9_saveState 74 = .ok (.aload_n 0, 1) := by decide +kernel
theorem dX9_saveState_75 : decode cX9_saveState 75 = .ok (.getfield 23, 3) := by decide +kernel
theorem dX9_saveState_78 : decode cX9_saveState 78 = .ok (.ifCond .lt 15, 3) := by decide +kernel
theorem dX9_saveState_81 : decode cX9_saveState 81 = .ok (.aload_n 0, 1) := by decide +kernel
theorem dX9_saveState_82 : decode cX9_saveState 82 = .ok (.getfield 19, 3) := by decide +kernel
theorem dX9_saveState_85 : decode cX9_saveState 85 = .ok (.aload_n 0, 1) := by decide +kernel
theorem dX9_saveState_86 : decode cX9_saveState 86 = .ok (.getfield 23, 3) := by decide +kernel
theorem dX9_saveState_89 : decode cX9_saveState 89 = .ok (.aaload, 1) := by decide +kernel
theorem dX9_saveState_90 : decode cX9_saveState 90 = .ok (.goto 4, 3) := by decide +kernel
theorem dX9_saveState_93 : decode cX9_saveState 93 = .ok (.aconst_null, 1) := by decide +kernel
theorem dX9_saveState_94 : decode cX9_saveState 94 = .ok (.astore_n 1, 1) := by decide +kernel
theorem dX9_saveState_95 : decode cX9_saveState 95 = .ok (.aload_n 1, 1) := by decide +kernel
theorem dX9_saveState_96 : decode cX9_saveState 96 = .ok (.ifnull 21, 3) := by decide +kernel
theorem dX9_saveState_99 : decode cX9_saveState 99 = .ok (.aload_n 1, 1) := by decide +kernel
theorem dX9_saveState_100 : decode cX9_saveState 100 = .ok (.aload_n 0, 1) := by decide +kernel
theorem dX9_saveState_101 : decode cX9_saveState 101 = .ok (.getfield 12, 3) := by decide +kernel
theorem dX9_saveState_104 : decode cX9_saveState 104 = .ok (.invokevirtual 225, 3) := by decide +kernel
theorem dX9_saveState_107 : decode cX9_saveState 107 = .ok (.aload_n 0, 1) := by decide +kernel
theorem dX9_saveState_108 : decode cX9_saveState 108 = .ok (.dup, 1) := by decide +kernel
theorem dX9_saveState_109 : decode cX9_saveState 109 = .ok (.getfield 23, 3) := by decide +kernel
theorem dX9_saveState_112 : decode cX9_saveState 112 = .ok (.iconst 1, 1) := by decide +kernel
theorem dX9_saveState_113 : decode cX9_saveState 113 = .ok (.iadd, 1) := by decide +kernel
theorem dX9_saveState_114 : decode cX9_saveState 114 = .ok (.putfield 23, 3) := by decide +kernel
theorem dX9_saveState_117 : decode cX9_saveState 117 = .ok (.return_, 1) := by decide +kernel
abbrev mtX9_saveState : mj_T := (yX9_saveState.cls, cX9_saveState, 3, none, mj_no, yX9_saveState.name)
abbrev kX9_saveState (k0 : Nat) (g : mj_S) (M : mj_M) (q : mj_M → Prop) : Prop := mj_CV yX9_saveState (.code yX9_saveState cX9_saveState 3 none) 3 [.ref (k0)] g M q
theorem kiX9_saveState : mj_cV yX9_saveState cX9_saveState 3 none 0 := ⟨⟨wd_747, wp_24, wd_1, wd_748⟩, ⟨by decide +kernel, by decide +kernel, by decide +kernel⟩, Nat.le_of_ble_eq_true rfl⟩
def LX9_saveState_21 (k0 : Nat) (r1 : Nat) (x2 : Int32) (g : mj_S) (M : mj_M) (q : mj_M → Prop) : Prop := ∀ d, 3 ≤ d → ∀ ex : Bool, mj_G mtX9_saveState (mj_rm d 0 0) (mj_Fi (mj_qV g q) mj_x0 0 0) ex 0 0 21 [(0, .ref (k0)), (1, .ref (r1)), (2, .int (x2))] [] g M
theorem eX9_saveState {k0 : Nat} {g : mj_S} {M : mj_M} {q : mj_M → Prop} (h0 : is9 g k0) (h : (((M).1 (k0) 3 : Int32) < (6 : Int32) → (((M).1 (k0) 3 : Int32) < 0 → q (M)) ∧ (¬ ((M).1 (k0) 3 : Int32) < 0 → vp_in ((M).1 (k0) 3) (6) ∧ ∃ a1 : Nat, ((M).2.2 (k0 + 21) (Int32.toNatClampNeg ((M).1 (k0) 3)) = some a1 ∧ is6 g a1) ∧ (∃ (q2 : mj_M → Prop), kX6_copyFrom (a1) (k0 + 1) g (M) q2 ∧ ∀ (M2 : mj_M), q2 M2 → (q (mj_wI (M2) (k0) 3 (((M2).1 (k0) 3) + (1 : Int32))))))) ∧ (¬ ((M).1 (k0) 3 : Int32) < (6 : Int32) → vp_in (0) (6) ∧ ∃ a3 : Nat, ((M).2.2 (k0 + 21) (Int32.toNatClampNeg (0)) = some a3 ∧ is6 g a3) ∧ (LX9_saveState_21 k0 (a3) (1) g (M) q))) : kX9_saveState (k0) g M q := by
  intro d hd; refine mj_enter (by decide +kernel) (Nat.le_of_ble_eq_true rfl) ?_
  generalize (false : Bool) = ex
  show mj_G mtX9_saveState (mj_rm d 0 0) (mj_Fi (mj_qV g q) mj_x0 0 0) ex 0 0 0 [(0, .ref (k0))] [] g M
  refine mg_aload_n dX9_saveState_0 rfl 0 rfl ?_
  refine mg_getI (j := 3) dX9_saveState_1 kc_9 (Nat.le_of_ble_eq_true rfl) wd_234 rfl rfl h0.1.1 h0.1.2 rfl ?_
  refine mg_aload_n dX9_saveState_4 rfl 0 rfl ?_
  refine mg_getR (j := 2) dX9_saveState_5 kc_9 (Nat.le_of_ble_eq_true rfl) wd_233 rfl rfl h0.1.1 h0.1.2 h0.2.2.2.1.1 ?_
  refine mg_alen (v := 6) dX9_saveState_8 h0.2.2.2.1.2.1 h0.2.2.2.1.2.2 (Nat.le_of_ble_eq_true rfl) rfl ?_
  refine mg_icmp_lt (tgt := 74) dX9_saveState_9 (by decide) (fun hc => ?_) (fun hc => ?_)
  · replace h := h.1 hc
    refine mg_aload_n dX9_saveState_74 rfl 0 rfl ?_
    refine mg_getI (j := 3) dX9_saveState_75 kc_9 (Nat.le_of_ble_eq_true rfl) wd_234 rfl rfl h0.1.1 h0.1.2 rfl ?_
    refine mg_if_lt (tgt := 93) dX9_saveState_78 (by decide) (fun hc => ?_) (fun hc => ?_)
    · replace h := h.1 hc
      refine mg_null dX9_saveState_93 ?_
      refine mg_astore_nN (ls' := [(1, .null), (0, .ref (k0))]) dX9_saveState_94 rfl (Nat.le_of_ble_eq_true rfl) rfl ?_
      refine mg_aload_nN dX9_saveState_95 rfl 0 rfl ?_
      refine mg_ifnullN (tgt := 117) dX9_saveState_96 (by decide) ?_
      exact me_v dX9_saveState_117 rfl h
    · replace h := h.2 hc
      refine mg_aload_n dX9_saveState_81 rfl 0 rfl ?_
      refine mg_getR (j := 2) dX9_saveState_82 kc_9 (Nat.le_of_ble_eq_true rfl) wd_233 rfl rfl h0.1.1 h0.1.2 h0.2.2.2.1.1 ?_
      refine mg_aload_n dX9_saveState_85 rfl 0 rfl ?_
      refine mg_getI (j := 3) dX9_saveState_86 kc_9 (Nat.le_of_ble_eq_true rfl) wd_234 rfl rfl h0.1.1 h0.1.2 rfl ?_
      obtain ⟨hi1, a1, ha1, h⟩ := h
      refine mg_aald dX9_saveState_89 h0.2.2.2.1.2.1 h0.2.2.2.1.2.2 hi1 ha1.1 ?_
      refine mg_goto (tgt := 94) dX9_saveState_90 (by decide) ?_
      refine mg_astore_n (ls' := [(1, .ref (a1)), (0, .ref (k0))]) dX9_saveState_94 rfl (Nat.le_of_ble_eq_true rfl) rfl ?_
      refine mg_aload_n dX9_saveState_95 rfl 0 rfl ?_
      refine mg_ifnull dX9_saveState_96 ?_
      refine mg_aload_n dX9_saveState_99 rfl 0 rfl ?_
      refine mg_aload_n dX9_saveState_100 rfl 1 rfl ?_
      refine mg_getR (j := 0) dX9_saveState_101 kc_9 (Nat.le_of_ble_eq_true rfl) wd_231 rfl rfl h0.1.1 h0.1.2 h0.2.1.1 ?_
      obtain ⟨q2, hC, hk⟩ := h
      refine mc_Vv [.ref (k0 + 1)] [] dX9_saveState_104 wd_376 kiX6_copyFrom (Nat.le_of_ble_eq_true rfl) ha1.2.1.1 ha1.2.1.2 rfl (Nat.le_trans (Nat.le_of_ble_eq_true rfl) hd) hC (fun M2 hq => ?_)
      replace h := hk M2 hq
      refine mg_aload_n dX9_saveState_107 rfl 1 rfl ?_
      refine mg_dup dX9_saveState_108 rfl ?_
      refine mg_getI (j := 3) dX9_saveState_109 kc_9 (Nat.le_of_ble_eq_true rfl) wd_234 rfl rfl h0.1.1 h0.1.2 rfl ?_
      refine mg_iconst (v := 1) dX9_saveState_112 (by decide) ?_
      refine mg_iadd dX9_saveState_113 ?_
      refine mg_putI (j := 3) dX9_saveState_114 kc_9 (Nat.le_of_ble_eq_true rfl) wd_234 rfl rfl rfl h0.1.1 h0.1.2 ?_
      exact me_v dX9_saveState_117 rfl h
  · replace h := h.2 hc
    refine mg_aload_n dX9_saveState_12 rfl 0 rfl ?_
    refine mg_getR (j := 2) dX9_saveState_13 kc_9 (Nat.le_of_ble_eq_true rfl) wd_233 rfl rfl h0.1.1 h0.1.2 h0.2.2.2.1.1 ?_
    refine mg_iconst (v := 0) dX9_saveState_16 (by decide) ?_
    obtain ⟨hi3, a3, ha3, h⟩ := h
    refine mg_aald dX9_saveState_17 h0.2.2.2.1.2.1 h0.2.2.2.1.2.2 hi3 ha3.1 ?_
    refine mg_astore_n (ls' := [(1, .ref (a3)), (0, .ref (k0))]) dX9_saveState_18 rfl (Nat.le_of_ble_eq_true rfl) rfl ?_
    refine mg_iconst (v := 1) dX9_saveState_19 (by decide) ?_
    refine mg_istore_n (ls' := [(2, .int (1)), (1, .ref (a3)), (0, .ref (k0))]) dX9_saveState_20 rfl (Nat.le_of_ble_eq_true rfl) rfl ?_
    exact mg_pick [2, 1, 0] rfl (h d hd ex)
theorem bX9_saveState_21 {k0 : Nat} {r1 : Nat} {x2 : Int32} {g : mj_S} {M : mj_M} {q : mj_M → Prop} (h0 : is9 g k0) (hr1 : is6 g r1) (h : ((6 : Int32) ≤ (x2) → vp_in ((6 : Int32) - (1 : Int32)) (6) ∧ ((((mj_wI (mj_wR (M) (k0 + 21) (Int32.toNatClampNeg ((6 : Int32) - (1 : Int32))) (some (r1))) (k0) 3 ((6 : Int32) - (1 : Int32))).1 (k0) 3 : Int32) < 0 → q (mj_wI (mj_wR (M) (k0 + 21) (Int32.toNatClampNeg ((6 : Int32) - (1 : Int32))) (some (r1))) (k0) 3 ((6 : Int32) - (1 : Int32)))) ∧ (¬ ((mj_wI (mj_wR (M) (k0 + 21) (Int32.toNatClampNeg ((6 : Int32) - (1 : Int32))) (some (r1))) (k0) 3 ((6 : Int32) - (1 : Int32))).1 (k0) 3 : Int32) < 0 → vp_in ((mj_wI (mj_wR (M) (k0 + 21) (Int32.toNatClampNeg ((6 : Int32) - (1 : Int32))) (some (r1))) (k0) 3 ((6 : Int32) - (1 : Int32))).1 (k0) 3) (6) ∧ ∃ a1 : Nat, ((mj_wI (mj_wR (M) (k0 + 21) (Int32.toNatClampNeg ((6 : Int32) - (1 : Int32))) (some (r1))) (k0) 3 ((6 : Int32) - (1 : Int32))).2.2 (k0 + 21) (Int32.toNatClampNeg ((mj_wI (mj_wR (M) (k0 + 21) (Int32.toNatClampNeg ((6 : Int32) - (1 : Int32))) (some (r1))) (k0) 3 ((6 : Int32) - (1 : Int32))).1 (k0) 3)) = some a1 ∧ is6 g a1) ∧ (∃ (q2 : mj_M → Prop), kX6_copyFrom (a1) (k0 + 1) g (mj_wI (mj_wR (M) (k0 + 21) (Int32.toNatClampNeg ((6 : Int32) - (1 : Int32))) (some (r1))) (k0) 3 ((6 : Int32) - (1 : Int32))) q2 ∧ ∀ (M2 : mj_M), q2 M2 → (q (mj_wI (M2) (k0) 3 (((M2).1 (k0) 3) + (1 : Int32)))))))) ∧ (¬ (6 : Int32) ≤ (x2) → vp_in (x2) (6) ∧ ∃ a3 : Nat, ((M).2.2 (k0 + 21) (Int32.toNatClampNeg (x2)) = some a3 ∧ is6 g a3) ∧ (vp_in ((x2) - (1 : Int32)) (6) ∧ (LX9_saveState_21 k0 (r1) (x2 + 1) g (mj_wR (M) (k0 + 21) (Int32.toNatClampNeg ((x2) - (1 : Int32))) (some (a3))) q)))) : LX9_saveState_21 k0 r1 x2 g M q := by
  intro d hd ex
  refine mg_iload_n dX9_saveState_21 rfl 2 rfl ?_
  refine mg_aload_n dX9_saveState_22 rfl 0 rfl ?_
  refine mg_getR (j := 2) dX9_saveState_23 kc_9 (Nat.le_of_ble_eq_true rfl) wd_233 rfl rfl h0.1.1 h0.1.2 h0.2.2.2.1.1 ?_
  refine mg_alen (v := 6) dX9_saveState_26 h0.2.2.2.1.2.1 h0.2.2.2.1.2.2 (Nat.le_of_ble_eq_true rfl) rfl ?_
  refine mg_icmp_ge (tgt := 50) dX9_saveState_27 (by decide) (fun hc => ?_) (fun hc => ?_)
  · replace h := h.1 hc
    refine mg_aload_n dX9_saveState_50 rfl 0 rfl ?_
    refine mg_getR (j := 2) dX9_saveState_51 kc_9 (Nat.le_of_ble_eq_true rfl) wd_233 rfl rfl h0.1.1 h0.1.2 h0.2.2.2.1.1 ?_
    refine mg_aload_n dX9_saveState_54 rfl 0 rfl ?_
    refine mg_getR (j := 2) dX9_saveState_55 kc_9 (Nat.le_of_ble_eq_true rfl) wd_233 rfl rfl h0.1.1 h0.1.2 h0.2.2.2.1.1 ?_
    refine mg_alen (v := 6) dX9_saveState_58 h0.2.2.2.1.2.1 h0.2.2.2.1.2.2 (Nat.le_of_ble_eq_true rfl) rfl ?_
    refine mg_iconst (v := 1) dX9_saveState_59 (by decide) ?_
    refine mg_isub dX9_saveState_60 ?_
    refine mg_aload_n dX9_saveState_61 rfl 1 rfl ?_
    refine mg_aast dX9_saveState_62 h0.2.2.2.1.2.1 h0.2.2.2.1.2.2 h.1 hr1.1.1 hr1.1.2 ?_
    replace h := h.2
    refine mg_aload_n dX9_saveState_63 rfl 0 rfl ?_
    refine mg_aload_n dX9_saveState_64 rfl 0 rfl ?_
    refine mg_getR (j := 2) dX9_saveState_65 kc_9 (Nat.le_of_ble_eq_true rfl) wd_233 rfl rfl h0.1.1 h0.1.2 h0.2.2.2.1.1 ?_
    refine mg_alen (v := 6) dX9_saveState_68 h0.2.2.2.1.2.1 h0.2.2.2.1.2.2 (Nat.le_of_ble_eq_true rfl) rfl ?_
    refine mg_iconst (v := 1) dX9_saveState_69 (by decide) ?_
    refine mg_isub dX9_saveState_70 ?_
    refine mg_putI (j := 3) dX9_saveState_71 kc_9 (Nat.le_of_ble_eq_true rfl) wd_234 rfl rfl rfl h0.1.1 h0.1.2 ?_
    refine mg_aload_n dX9_saveState_74 rfl 0 rfl ?_
    refine mg_getI (j := 3) dX9_saveState_75 kc_9 (Nat.le_of_ble_eq_true rfl) wd_234 rfl rfl h0.1.1 h0.1.2 rfl ?_
    refine mg_if_lt (tgt := 93) dX9_saveState_78 (by decide) (fun hc => ?_) (fun hc => ?_)
    · replace h := h.1 hc
      refine mg_null dX9_saveState_93 ?_
      refine mg_astore_nN (ls' := [(1, .null), (0, .ref (k0)), (2, .int (x2))]) dX9_saveState_94 rfl (Nat.le_of_ble_eq_true rfl) rfl ?_
      refine mg_aload_nN dX9_saveState_95 rfl 0 rfl ?_
      refine mg_ifnullN (tgt := 117) dX9_saveState_96 (by decide) ?_
      exact me_v dX9_saveState_117 rfl h
    · replace h := h.2 hc
      refine mg_aload_n dX9_saveState_81 rfl 0 rfl ?_
      refine mg_getR (j := 2) dX9_saveState_82 kc_9 (Nat.le_of_ble_eq_true rfl) wd_233 rfl rfl h0.1.1 h0.1.2 h0.2.2.2.1.1 ?_
      refine mg_aload_n dX9_saveState_85 rfl 0 rfl ?_
      refine mg_getI (j := 3) dX9_saveState_86 kc_9 (Nat.le_of_ble_eq_true rfl) wd_234 rfl rfl h0.1.1 h0.1.2 rfl ?_
      obtain ⟨hi1, a1, ha1, h⟩ := h
      refine mg_aald dX9_saveState_89 h0.2.2.2.1.2.1 h0.2.2.2.1.2.2 hi1 ha1.1 ?_
      refine mg_goto (tgt := 94) dX9_saveState_90 (by decide) ?_
      refine mg_astore_n (ls' := [(1, .ref (a1)), (0, .ref (k0)), (2, .int (x2))]) dX9_saveState_94 rfl (Nat.le_of_ble_eq_true rfl) rfl ?_
      refine mg_aload_n dX9_saveState_95 rfl 0 rfl ?_
      refine mg_ifnull dX9_saveState_96 ?_
      refine mg_aload_n dX9_saveState_99 rfl 0 rfl ?_
      refine mg_aload_n dX9_saveState_100 rfl 1 rfl ?_
      refine mg_getR (j := 0) dX9_saveState_101 kc_9 (Nat.le_of_ble_eq_true rfl) wd_231 rfl rfl h0.1.1 h0.1.2 h0.2.1.1 ?_
      obtain ⟨q2, hC, hk⟩ := h
      refine mc_Vv [.ref (k0 + 1)] [] dX9_saveState_104 wd_376 kiX6_copyFrom (Nat.le_of_ble_eq_true rfl) ha1.2.1.1 ha1.2.1.2 rfl (Nat.le_trans (Nat.le_of_ble_eq_true rfl) hd) hC (fun M2 hq => ?_)
      replace h := hk M2 hq
      refine mg_aload_n dX9_saveState_107 rfl 1 rfl ?_
      refine mg_dup dX9_saveState_108 rfl ?_
      refine mg_getI (j := 3) dX9_saveState_109 kc_9 (Nat.le_of_ble_eq_true rfl) wd_234 rfl rfl h0.1.1 h0.1.2 rfl ?_
      refine mg_iconst (v := 1) dX9_saveState_112 (by decide) ?_
      refine mg_iadd dX9_saveState_113 ?_
      refine mg_putI (j := 3) dX9_saveState_114 kc_9 (Nat.le_of_ble_eq_true rfl) wd_234 rfl rfl rfl h0.1.1 h0.1.2 ?_
      exact me_v dX9_saveState_117 rfl h
  · replace h := h.2 hc
    refine mg_aload_n dX9_saveState_30 rfl 0 rfl ?_
    refine mg_getR (j := 2) dX9_saveState_31 kc_9 (Nat.le_of_ble_eq_true rfl) wd_233 rfl rfl h0.1.1 h0.1.2 h0.2.2.2.1.1 ?_
    refine mg_iload_n dX9_saveState_34 rfl 2 rfl ?_
    refine mg_iconst (v := 1) dX9_saveState_35 (by decide) ?_
    refine mg_isub dX9_saveState_36 ?_
    refine mg_aload_n dX9_saveState_37 rfl 0 rfl ?_
    refine mg_getR (j := 2) dX9_saveState_38 kc_9 (Nat.le_of_ble_eq_true rfl) wd_233 rfl rfl h0.1.1 h0.1.2 h0.2.2.2.1.1 ?_
    refine mg_iload_n dX9_saveState_41 rfl 2 rfl ?_
    obtain ⟨hi3, a3, ha3, h⟩ := h
    refine mg_aald dX9_saveState_42 h0.2.2.2.1.2.1 h0.2.2.2.1.2.2 hi3 ha3.1 ?_
    refine mg_aast dX9_saveState_43 h0.2.2.2.1.2.1 h0.2.2.2.1.2.2 h.1 ha3.2.1.1 ha3.2.1.2 ?_
    replace h := h.2
    refine mg_iinc (v := x2 + 1) (ls' := [(2, .int (x2 + 1)), (0, .ref (k0)), (1, .ref (r1))]) dX9_saveState_44 2 rfl rfl (Nat.le_of_ble_eq_true rfl) rfl ?_
    refine mg_goto (tgt := 21) dX9_saveState_47 (by decide) ?_
    exact mg_pick [1, 2, 0] rfl (h d hd ex)
theorem dX9_reset_0 : decode cX9_reset 0 = .ok (.iload_n 1, 1) := by decide +kernel
theorem dX9_reset_1 : decode cX9_reset 1 = .ok (.iconst 1, 1) := by decide +kernel
theorem dX9_reset_2 : decode cX9_reset 2 = .ok (.if_icmp .lt 9, 3) := by decide +kernel
theorem dX9_reset_5 : decode cX9_reset 5 = .ok (.iload_n 1, 1) := by decide +kernel
theorem dX9_reset_6 : decode cX9_reset 6 = .ok (.bipush 10, 2) := by decide +kernel
theorem dX9_reset_8 : decode cX9_reset 8 = .ok (.if_icmp .le 13, 3) := by decide +kernel
theorem dX9_reset_11 : decode cX9_reset 11 = .ok (.new 55, 3) := by decide +kernel
theorem dX9_reset_14 : decode cX9_reset 14 = .ok (.dup, 1) := by decide +kernel
theorem dX9_reset_15 : decode cX9_reset 15 = .ok (.ldc 57, 2) := by decide +kernel
theorem dX9_reset_17 : decode cX9_reset 17 = .ok (.invokespecial 59, 3) := by decide +kernel
theorem dX9_reset_20 : decode cX9_reset 20 = .ok (.athrow, 1) := by decide +kernel
theorem dX9_reset_21 : decode cX9_reset 21 = .ok (.aload_n 0, 1) := by decide +kernel
theorem dX9_reset_22 : decode cX9_reset 22 = .ok (.getfield 12, 3) := by decide +kernel
theorem dX9_reset_25 : decode cX9_reset 25 = .ok (.getfield 62, 3) := by decide +kernel
theorem dX9_reset_28 : decode cX9_reset 28 = .ok (.istore_n 2, 1) := by decide +kernel
theorem dX9_reset_29 : decode cX9_reset 29 = .ok (.aload_n 0, 1) := by decide +kernel
theorem dX9_reset_30 : decode cX9_reset 30 = .ok (.invokevirtual 65, 3) := by decide +kernel
theorem dX9_reset_33 : decode cX9_reset 33 = .ok (.aload_n 0, 1) := by decide +kernel
theorem dX9_reset_34 : decode cX9_reset 34 = .ok (.getfield 12, 3) := by decide +kernel
theorem dX9_reset_37 : decode cX9_reset 37 = .ok (.iload_n 1, 1) := by decide +kernel
theorem dX9_reset_38 : decode cX9_reset 38 = .ok (.invokevirtual 68, 3) := by decide +kernel
theorem dX9_reset_41 : decode cX9_reset 41 = .ok (.iload_n 2, 1) := by decide +kernel
theorem dX9_reset_42 : decode cX9_reset 42 = .ok (.ireturn, 1) := by decide +kernel
abbrev mtX9_reset : mj_T := (yX9_reset.cls, cX9_reset, 3, (some .int), mj_no, yX9_reset.name)
abbrev kX9_reset (k0 : Nat) (x1 : Int32) (g : mj_S) (M : mj_M) (q : Int32 → mj_M → Prop) (qx : String → mj_M → Prop) : Prop := mj_CIX yX9_reset (.code yX9_reset cX9_reset 3 (some .int)) 7 1 6 [.ref (k0), .int (x1)] g M q qx
theorem kiX9_reset : mj_cV yX9_reset cX9_reset 3 (some .int) 1 := ⟨⟨wd_674, wd_675, wd_1, wd_676⟩, ⟨by decide +kernel, by decide +kernel, by decide +kernel⟩, Nat.le_of_ble_eq_true rfl⟩
theorem eX9_reset {k0 : Nat} {x1 : Int32} {g : mj_S} {M : mj_M} {q : Int32 → mj_M → Prop} {qx : String → mj_M → Prop} (h0 : is9 g k0) (h : ((x1 : Int32) < (1 : Int32) → qx mj_IA (M)) ∧ (¬ (x1 : Int32) < (1 : Int32) → ((x1 : Int32) ≤ (10 : Int32) → ∃ (q1 : mj_M → Prop), kX9_saveState (k0) g (M) q1 ∧ ∀ (M1 : mj_M), q1 M1 → (∃ (q2 : mj_M → Prop), kX6_beginAnew (k0 + 1) (x1) g (M1) q2 ∧ ∀ (M2 : mj_M), q2 M2 → (q ((M).1 (k0 + 1) 0) (M2)))) ∧ (¬ (x1 : Int32) ≤ (10 : Int32) → qx mj_IA (M)))) : kX9_reset (k0) (x1) g M q qx := by
  intro d hd; refine mj_enter (by decide +kernel) (Nat.le_of_ble_eq_true rfl) ?_
  show mj_G mtX9_reset (mj_rm d 1 6) (mj_Fi (mj_qI g q) (mj_qX g qx) 1 6) false 1 6 0 [(0, .ref (k0)), (1, .int (x1))] [] g M
  refine mg_iload_n dX9_reset_0 rfl 1 rfl ?_
  refine mg_iconst (v := 1) dX9_reset_1 (by decide) ?_
  refine mg_icmp_lt (tgt := 11) dX9_reset_2 (by decide) (fun hc => ?_) (fun hc => ?_)
  · replace h := h.1 hc
    exact mg_throw (ti := 1) rfl rfl xw_IA rfl dX9_reset_11 dX9_reset_14 dX9_reset_15 dX9_reset_17 dX9_reset_20 (Nat.le_trans (Nat.le_of_ble_eq_true rfl) hd) (Nat.le_of_ble_eq_true rfl) (Nat.le_of_ble_eq_true rfl) ⟨rfl, h⟩
  · replace h := h.2 hc
    refine mg_iload_n dX9_reset_5 rfl 1 rfl ?_
    refine mg_bipush (v := 10) dX9_reset_6 (by decide) ?_
    refine mg_icmp_le (tgt := 21) dX9_reset_8 (by decide) (fun hc => ?_) (fun hc => ?_)
    · replace h := h.1 hc
      refine mg_aload_n dX9_reset_21 rfl 0 rfl ?_
      refine mg_getR (j := 0) dX9_reset_22 kc_9 (Nat.le_of_ble_eq_true rfl) wd_231 rfl rfl h0.1.1 h0.1.2 h0.2.1.1 ?_
      refine mg_getI (j := 0) dX9_reset_25 kc_6 (Nat.le_of_ble_eq_true rfl) wd_65 rfl rfl h0.2.1.2.1.1 h0.2.1.2.1.2 rfl ?_
      refine mg_istore_n (ls' := [(2, .int ((M).1 (k0 + 1) 0)), (0, .ref (k0)), (1, .int (x1))]) dX9_reset_28 rfl (Nat.le_of_ble_eq_true rfl) rfl ?_
      refine mg_aload_n dX9_reset_29 rfl 1 rfl ?_
      obtain ⟨q1, hC, hk⟩ := h
      refine mc_Vv [] [] dX9_reset_30 wd_745 kiX9_saveState (Nat.le_of_ble_eq_true rfl) h0.1.1 h0.1.2 rfl (Nat.le_trans (Nat.le_of_ble_eq_true rfl) hd) hC (fun M1 hq => ?_)
      replace h := hk M1 hq
      refine mg_aload_n dX9_reset_33 rfl 1 rfl ?_
      refine mg_getR (j := 0) dX9_reset_34 kc_9 (Nat.le_of_ble_eq_true rfl) wd_231 rfl rfl h0.1.1 h0.1.2 h0.2.1.1 ?_
      refine mg_iload_n dX9_reset_37 rfl 2 rfl ?_
      obtain ⟨q2, hC, hk⟩ := h
      refine mc_Vv [.int (x1)] [] dX9_reset_38 wd_749 kiX6_beginAnew (Nat.le_of_ble_eq_true rfl) h0.2.1.2.1.1 h0.2.1.2.1.2 rfl (Nat.le_trans (Nat.le_of_ble_eq_true rfl) hd) hC (fun M2 hq => ?_)
      replace h := hk M2 hq
      refine mg_iload_n dX9_reset_41 rfl 0 rfl ?_
      exact mex_i dX9_reset_42 rfl h
    · replace h := h.2 hc
      exact mg_throw (ti := 1) rfl rfl xw_IA rfl dX9_reset_11 dX9_reset_14 dX9_reset_15 dX9_reset_17 dX9_reset_20 (Nat.le_trans (Nat.le_of_ble_eq_true rfl) hd) (Nat.le_of_ble_eq_true rfl) (Nat.le_of_ble_eq_true rfl) ⟨rfl, h⟩
theorem dX9_requireRoomFor_0 : decode cX9_requireRoomFor 0 = .ok (.aload_n 0, 1) := by decide +kernel
theorem dX9_requireRoomFor_1 : decode cX9_requireRoomFor 1 = .ok (.getfield 12, 3) := by decide +kernel
theorem dX9_requireRoomFor_4 : decode cX9_requireRoomFor 4 = .ok (.invokevirtual 313, 3) := by decide +kernel
theorem dX9_requireRoomFor_7 : decode cX9_requireRoomFor 7 = .ok (.aload_n 0, 1) := by decide +kernel
theorem dX9_requireRoomFor_8 : decode cX9_requireRoomFor 8 = .ok (.getfield 12, 3) := by decide +kernel
theorem dX9_requireRoomFor_11 : decode cX9_requireRoomFor 11 = .ok (.invokevirtual 72, 3) := by decide +kernel
theorem dX9_requireRoomFor_14 : decode cX9_requireRoomFor 14 = .ok (.if_icmp .ne 26, 3) := by decide +kernel
theorem dX9_requireRoomFor_17 : decode cX9_requireRoomFor 17 = .ok (.aload_n 0, 1) := by decide +kernel
theorem dX9_requireRoomFor_18 : decode cX9_requireRoomFor 18 = .ok (.getfield 12, 3) := by decide +kernel
theorem dX9_requireRoomFor_21 : decode cX9_requireRoomFor 21 = .ok (.getfield 287, 3) := by decide +kernel
theorem dX9_requireRoomFor_24 : decode cX9_requireRoomFor 24 = .ok (.ifCond .ne 16, 3) := by decide +kernel
theorem dX9_requireRoomFor_27 : decode cX9_requireRoomFor 27 = .ok (.aload_n 0, 1) := by decide +kernel
theorem dX9_requireRoomFor_28 : decode cX9_requireRoomFor 28 = .ok (.getfield 12, 3) := by decide +kernel
theorem dX9_requireRoomFor_31 : decode cX9_requireRoomFor 31 = .ok (.getfield 119, 3) := by decide +kernel
theorem dX9_requireRoomFor_34 : decode cX9_requireRoomFor 34 = .ok (.invokevirtual 128, 3) := by decide +kernel
theorem dX9_requireRoomFor_37 : decode cX9_requireRoomFor 37 = .ok (.ifCond .eq 14, 3) := by decide +kernel
theorem dX9_requireRoomFor_40 : decode cX9_requireRoomFor 40 = .ok (.new 152, 3) := by decide +kernel
theorem dX9_requireRoomFor_43 : decode cX9_requireRoomFor 43 = .ok (.dup, 1) := by decide +kernel
theorem dX9_requireRoomFor_44 : decode cX9_requireRoomFor 44 = .ok (.ldc_w 357, 3) := by decide +kernel
theorem dX9_requireRoomFor_47 : decode cX9_requireRoomFor 47 = .ok (.invokespecial 156, 3) := by decide +kernel
theorem dX9_requireRoomFor_50 : decode cX9_requireRoomFor 50 = .ok (.athrow, 1) := by decide +kernel
theorem dX9_requireRoomFor_51 : decode cX9_requireRoomFor 51 = .ok (.aload_n 0, 1) := by decide +kernel
theorem dX9_requireRoomFor_52 : decode cX9_requireRoomFor 52 = .ok (.getfield 12, 3) := by decide +kernel
theorem dX9_requireRoomFor_55 : decode cX9_requireRoomFor 55 = .ok (.getfield 88, 3) := by decide +kernel
theorem dX9_requireRoomFor_58 : decode cX9_requireRoomFor 58 = .ok (.invokevirtual 92, 3) := by decide +kernel
theorem dX9_requireRoomFor_61 : decode cX9_requireRoomFor 61 = .ok (.iload_n 1, 1) := by decide +kernel
theorem dX9_requireRoomFor_62 : decode cX9_requireRoomFor 62 = .ok (.iadd, 1) := by decide +kernel
theorem dX9_requireRoomFor_63 : decode cX9_requireRoomFor 63 = .ok (.bipush 32, 2) := by decide +kernel
theorem dX9_requireRoomFor_65 : decode cX9_requireRoomFor 65 = .ok (.if_icmp .le 14, 3) := by decide +kernel
theorem dX9_requireRoomFor_68 : decode cX9_requireRoomFor 68 = .ok (.new 152, 3) := by decide +kernel
theorem dX9_requireRoomFor_71 : decode cX9_requireRoomFor 71 = .ok (.dup, 1) := by decide +kernel
theorem dX9_requireRoomFor_72 : decode cX9_requireRoomFor 72 = .ok (.ldc_w 359, 3) := by decide +kernel
theorem dX9_requireRoomFor_75 : decode cX9_requireRoomFor 75 = .ok (.invokespecial 156, 3) := by decide +kernel
theorem dX9_requireRoomFor_78 : decode cX9_requireRoomFor 78 = .ok (.athrow, 1) := by decide +kernel
theorem dX9_requireRoomFor_79 : decode cX9_requireRoomFor 79 = .ok (.return_, 1) := by decide +kernel
abbrev mtX9_requireRoomFor : mj_T := (yX9_requireRoomFor.cls, cX9_requireRoomFor, 2, none, mj_no, yX9_requireRoomFor.name)
abbrev kX9_requireRoomFor (k0 : Nat) (x1 : Int32) (g : mj_S) (M : mj_M) (q : mj_M → Prop) (qx : String → mj_M → Prop) : Prop := mj_CVX yX9_requireRoomFor (.code yX9_requireRoomFor cX9_requireRoomFor 2 none) 7 1 6 [.ref (k0), .int (x1)] g M q qx
theorem kiX9_requireRoomFor : mj_cV yX9_requireRoomFor cX9_requireRoomFor 2 none 1 := ⟨⟨wd_761, wp_25, wd_1, wd_762⟩, ⟨by decide +kernel, by decide +kernel, by decide +kernel⟩, Nat.le_of_ble_eq_true rfl⟩
theorem eX9_requireRoomFor {k0 : Nat} {x1 : Int32} {g : mj_S} {M : mj_M} {q : mj_M → Prop} {qx : String → mj_M → Prop} (h0 : is9 g k0) (h : ∃ (q1 : Int32 → mj_M → Prop), kX6_activeVariables (k0 + 1) g (M) q1 ∧ ∀ (v1 : Int32) (M1 : mj_M), q1 v1 M1 → (∃ (q2 : Int32 → mj_M → Prop), kX6_allVariables (k0 + 1) g (M1) q2 ∧ ∀ (v2 : Int32) (M2 : mj_M), q2 v2 M2 → ((¬ (v1 : Int32) = (v2) → qx mj_IS (M2)) ∧ ((v1 : Int32) = (v2) → (¬ ((M2).1 (k0 + 1) 2 : Int32) = 0 → qx mj_IS (M2)) ∧ (((M2).1 (k0 + 1) 2 : Int32) = 0 → ∃ (q3 : Int32 → mj_M → Prop), kX0_isContradictory (k0 + 1 + 1) g (M2) q3 ∧ ∀ (v3 : Int32) (M3 : mj_M), q3 v3 M3 → (((v3 : Int32) = 0 → ∃ (q4 : Int32 → mj_M → Prop), kX0_size (k0 + 1 + 3) g (M3) q4 ∧ ∀ (v4 : Int32) (M4 : mj_M), q4 v4 M4 → ((((v4) + (x1) : Int32) ≤ (32 : Int32) → q (M4)) ∧ (¬ ((v4) + (x1) : Int32) ≤ (32 : Int32) → qx mj_IS (M4)))) ∧ (¬ (v3 : Int32) = 0 → qx mj_IS (M3)))))))) : kX9_requireRoomFor (k0) (x1) g M q qx := by
  intro d hd; refine mj_enter (by decide +kernel) (Nat.le_of_ble_eq_true rfl) ?_
  show mj_G mtX9_requireRoomFor (mj_rm d 1 6) (mj_Fi (mj_qV g q) (mj_qX g qx) 1 6) false 1 6 0 [(0, .ref (k0)), (1, .int (x1))] [] g M
  refine mg_aload_n dX9_requireRoomFor_0 rfl 0 rfl ?_
  refine mg_getR (j := 0) dX9_requireRoomFor_1 kc_9 (Nat.le_of_ble_eq_true rfl) wd_231 rfl rfl h0.1.1 h0.1.2 h0.2.1.1 ?_
  obtain ⟨q1, hC, hk⟩ := h
  refine mc_Vi [] [] dX9_requireRoomFor_4 wd_314 kiX6_activeVariables (Nat.le_of_ble_eq_true rfl) h0.2.1.2.1.1 h0.2.1.2.1.2 rfl (Nat.le_trans (Nat.le_of_ble_eq_true rfl) hd) hC (fun v1 M1 hq => ?_)
  replace h := hk v1 M1 hq
  refine mg_aload_n dX9_requireRoomFor_7 rfl 0 rfl ?_
  refine mg_getR (j := 0) dX9_requireRoomFor_8 kc_9 (Nat.le_of_ble_eq_true rfl) wd_231 rfl rfl h0.1.1 h0.1.2 h0.2.1.1 ?_
  obtain ⟨q2, hC, hk⟩ := h
  refine mc_Vi [] [.int (v1)] dX9_requireRoomFor_11 wd_364 kiX6_allVariables (Nat.le_of_ble_eq_true rfl) h0.2.1.2.1.1 h0.2.1.2.1.2 rfl (Nat.le_trans (Nat.le_of_ble_eq_true rfl) hd) hC (fun v2 M2 hq => ?_)
  replace h := hk v2 M2 hq
  refine mg_icmp_ne (tgt := 40) dX9_requireRoomFor_14 (by decide) (fun hc => ?_) (fun hc => ?_)
  · replace h := h.1 hc
    exact mg_throwW (ti := 3) rfl rfl xw_IS rfl dX9_requireRoomFor_40 dX9_requireRoomFor_43 dX9_requireRoomFor_44 dX9_requireRoomFor_47 dX9_requireRoomFor_50 (Nat.le_trans (Nat.le_of_ble_eq_true rfl) hd) (Nat.le_of_ble_eq_true rfl) (Nat.le_of_ble_eq_true rfl) ⟨rfl, h⟩
  · replace h := h.2 hc
    refine mg_aload_n dX9_requireRoomFor_17 rfl 0 rfl ?_
    refine mg_getR (j := 0) dX9_requireRoomFor_18 kc_9 (Nat.le_of_ble_eq_true rfl) wd_231 rfl rfl h0.1.1 h0.1.2 h0.2.1.1 ?_
    refine mg_getI (j := 2) dX9_requireRoomFor_21 kc_6 (Nat.le_of_ble_eq_true rfl) wd_72 rfl rfl h0.2.1.2.1.1 h0.2.1.2.1.2 rfl ?_
    refine mg_if_ne (tgt := 40) dX9_requireRoomFor_24 (by decide) (fun hc => ?_) (fun hc => ?_)
    · replace h := h.1 hc
      exact mg_throwW (ti := 3) rfl rfl xw_IS rfl dX9_requireRoomFor_40 dX9_requireRoomFor_43 dX9_requireRoomFor_44 dX9_requireRoomFor_47 dX9_requireRoomFor_50 (Nat.le_trans (Nat.le_of_ble_eq_true rfl) hd) (Nat.le_of_ble_eq_true rfl) (Nat.le_of_ble_eq_true rfl) ⟨rfl, h⟩
    · replace h := h.2 hc
      refine mg_aload_n dX9_requireRoomFor_27 rfl 0 rfl ?_
      refine mg_getR (j := 0) dX9_requireRoomFor_28 kc_9 (Nat.le_of_ble_eq_true rfl) wd_231 rfl rfl h0.1.1 h0.1.2 h0.2.1.1 ?_
      refine mg_getR (j := 3) dX9_requireRoomFor_31 kc_6 (Nat.le_of_ble_eq_true rfl) wd_75 rfl rfl h0.2.1.2.1.1 h0.2.1.2.1.2 h0.2.1.2.2.1.1 ?_
      obtain ⟨q3, hC, hk⟩ := h
      refine mc_Vi [] [] dX9_requireRoomFor_34 wd_286 kiX0_isContradictory (Nat.le_of_ble_eq_true rfl) h0.2.1.2.2.1.2.1.1 h0.2.1.2.2.1.2.1.2 rfl (Nat.le_trans (Nat.le_of_ble_eq_true rfl) hd) hC (fun v3 M3 hq => ?_)
      replace h := hk v3 M3 hq
      refine mg_if_eq (tgt := 51) dX9_requireRoomFor_37 (by decide) (fun hc => ?_) (fun hc => ?_)
      · replace h := h.1 hc
        refine mg_aload_n dX9_requireRoomFor_51 rfl 0 rfl ?_
        refine mg_getR (j := 0) dX9_requireRoomFor_52 kc_9 (Nat.le_of_ble_eq_true rfl) wd_231 rfl rfl h0.1.1 h0.1.2 h0.2.1.1 ?_
        refine mg_getR (j := 4) dX9_requireRoomFor_55 kc_6 (Nat.le_of_ble_eq_true rfl) wd_77 rfl rfl h0.2.1.2.1.1 h0.2.1.2.1.2 h0.2.1.2.2.2.1.1 ?_
        obtain ⟨q4, hC, hk⟩ := h
        refine mc_Vi [] [] dX9_requireRoomFor_58 wd_260 kiX0_size (Nat.le_of_ble_eq_true rfl) h0.2.1.2.2.2.1.2.1.1 h0.2.1.2.2.2.1.2.1.2 rfl (Nat.le_trans (Nat.le_of_ble_eq_true rfl) hd) hC (fun v4 M4 hq => ?_)
        replace h := hk v4 M4 hq
        refine mg_iload_n dX9_requireRoomFor_61 rfl 1 rfl ?_
        refine mg_iadd dX9_requireRoomFor_62 ?_
        refine mg_bipush (v := 32) dX9_requireRoomFor_63 (by decide) ?_
        refine mg_icmp_le (tgt := 79) dX9_requireRoomFor_65 (by decide) (fun hc => ?_) (fun hc => ?_)
        · replace h := h.1 hc
          exact mex_v dX9_requireRoomFor_79 rfl h
        · replace h := h.2 hc
          exact mg_throwW (ti := 4) rfl rfl xw_IS rfl dX9_requireRoomFor_68 dX9_requireRoomFor_71 dX9_requireRoomFor_72 dX9_requireRoomFor_75 dX9_requireRoomFor_78 (Nat.le_trans (Nat.le_of_ble_eq_true rfl) hd) (Nat.le_of_ble_eq_true rfl) (Nat.le_of_ble_eq_true rfl) ⟨rfl, h⟩
      · replace h := h.2 hc
        exact mg_throwW (ti := 3) rfl rfl xw_IS rfl dX9_requireRoomFor_40 dX9_requireRoomFor_43 dX9_requireRoomFor_44 dX9_requireRoomFor_47 dX9_requireRoomFor_50 (Nat.le_trans (Nat.le_of_ble_eq_true rfl) hd) (Nat.le_of_ble_eq_true rfl) (Nat.le_of_ble_eq_true rfl) ⟨rfl, h⟩
theorem dX9_addClause_0 : decode cX9_addClause 0 = .ok (.aload_n 0, 1) := by decide +kernel
theorem dX9_addClause_1 : decode cX9_addClause 1 = .ok (.getfield 12, 3) := by decide +kernel
theorem dX9_addClause_4 : decode cX9_addClause 4 = .ok (.invokevirtual 72, 3) := by decide +kernel
theorem dX9_addClause_7 : decode cX9_addClause 7 = .ok (.iconst (-1), 1) := by decide +kernel
theorem dX9_addClause_8 : decode cX9_addClause 8 = .ok (.ixor, 1) := by decide +kernel
theorem dX9_addClause_9 : decode cX9_addClause 9 = .ok (.istore_n 3, 1) := by decide +kernel
theorem dX9_addClause_10 : decode cX9_addClause 10 = .ok (.iload_n 1, 1) := by decide +kernel
theorem dX9_addClause_11 : decode cX9_addClause 11 = .ok (.iload_n 3, 1) := by decide +kernel
theorem dX9_addClause_12 : decode cX9_addClause 12 = .ok (.iand, 1) := by decide +kernel
theorem dX9_addClause_13 : decode cX9_addClause 13 = .ok (.ifCond .ne 15, 3) := by decide +kernel
theorem dX9_addClause_16 : decode cX9_addClause 16 = .ok (.iload_n 2, 1) := by decide +kernel
theorem dX9_addClause_17 : decode cX9_addClause 17 = .ok (.iload_n 3, 1) := by decide +kernel
theorem dX9_addClause_18 : decode cX9_addClause 18 = .ok (.iand, 1) := by decide +kernel
theorem dX9_addClause_19 : decode cX9_addClause 19 = .ok (.ifCond .ne 9, 3) := by decide +kernel
theorem dX9_addClause_22 : decode cX9_addClause 22 = .ok (.iload_n 1, 1) := by decide +kernel
theorem dX9_addClause_23 : decode cX9_addClause 23 = .ok (.iload_n 2, 1) := by decide +kernel
theorem dX9_addClause_24 : decode cX9_addClause 24 = .ok (.iand, 1) := by decide +kernel
theorem dX9_addClause_25 : decode cX9_addClause 25 = .ok (.ifCond .eq 13, 3) := by decide +kernel
theorem dX9_addClause_28 : decode cX9_addClause 28 = .ok (.new 55, 3) := by decide +kernel
theorem dX9_addClause_31 : decode cX9_addClause 31 = .ok (.dup, 1) := by decide +kernel
theorem dX9_addClause_32 : decode cX9_addClause 32 = .ok (.ldc 76, 2) := by decide +kernel
theorem dX9_addClause_34 : decode cX9_addClause 34 = .ok (.invokespecial 59, 3) := by decide +kernel
theorem dX9_addClause_37 : decode cX9_addClause 37 = .ok (.athrow, 1) := by decide +kernel
theorem dX9_addClause_38 : decode cX9_addClause 38 = .ok (.aload_n 0, 1) := by decide +kernel
theorem dX9_addClause_39 : decode cX9_addClause 39 = .ok (.iconst 1, 1) := by decide +kernel
theorem dX9_addClause_40 : decode cX9_addClause 40 = .ok (.invokevirtual 78, 3) := by decide +kernel
theorem dX9_addClause_43 : decode cX9_addClause 43 = .ok (.aload_n 0, 1) := by decide +kernel
theorem dX9_addClause_44 : decode cX9_addClause 44 = .ok (.invokevirtual 65, 3) := by decide +kernel
theorem dX9_addClause_47 : decode cX9_addClause 47 = .ok (.aload_n 0, 1) := by decide +kernel
theorem dX9_addClause_48 : decode cX9_addClause 48 = .ok (.getfield 12, 3) := by decide +kernel
theorem dX9_addClause_51 : decode cX9_addClause 51 = .ok (.iload_n 1, 1) := by decide +kernel
theorem dX9_addClause_52 : decode cX9_addClause 52 = .ok (.iload_n 2, 1) := by decide +kernel
theorem dX9_addClause_53 : decode cX9_addClause 53 = .ok (.invokestatic 81, 3) := by decide +kernel
theorem dX9_addClause_56 : decode cX9_addClause 56 = .ok (.invokevirtual 85, 3) := by decide +kernel
theorem dX9_addClause_59 : decode cX9_addClause 59 = .ok (.aload_n 0, 1) := by decide +kernel
theorem dX9_addClause_60 : decode cX9_addClause 60 = .ok (.getfield 12, 3) := by decide +kernel
theorem dX9_addClause_63 : decode cX9_addClause 63 = .ok (.getfield 88, 3) := by decide +kernel
theorem dX9_addClause_66 : decode cX9_addClause 66 = .ok (.invokevirtual 92, 3) := by decide +kernel
theorem dX9_addClause_69 : decode cX9_addClause 69 = .ok (.ireturn, 1) := by decide +kernel
abbrev mtX9_addClause : mj_T := (yX9_addClause.cls, cX9_addClause, 4, (some .int), mj_no, yX9_addClause.name)
abbrev kX9_addClause (k0 : Nat) (x1 : Int32) (x2 : Int32) (g : mj_S) (M : mj_M) (q : Int32 → mj_M → Prop) (qx : String → mj_M → Prop) : Prop := mj_CIX yX9_addClause (.code yX9_addClause cX9_addClause 4 (some .int)) 8 2 12 [.ref (k0), .int (x1), .int (x2)] g M q qx
theorem kiX9_addClause : mj_cV yX9_addClause cX9_addClause 4 (some .int) 2 := ⟨⟨wd_755, wd_756, wd_1, wd_757⟩, ⟨by decide +kernel, by decide +kernel, by decide +kernel⟩, Nat.le_of_ble_eq_true rfl⟩
theorem eX9_addClause {k0 : Nat} {x1 : Int32} {x2 : Int32} {g : mj_S} {M : mj_M} {q : Int32 → mj_M → Prop} {qx : String → mj_M → Prop} (h0 : is9 g k0) (h : ∃ (q1 : Int32 → mj_M → Prop), kX6_allVariables (k0 + 1) g (M) q1 ∧ ∀ (v1 : Int32) (M1 : mj_M), q1 v1 M1 → ((¬ ((x1) &&& ((v1) ^^^ (-1 : Int32)) : Int32) = 0 → qx mj_IA (M1)) ∧ (((x1) &&& ((v1) ^^^ (-1 : Int32)) : Int32) = 0 → (¬ ((x2) &&& ((v1) ^^^ (-1 : Int32)) : Int32) = 0 → qx mj_IA (M1)) ∧ (((x2) &&& ((v1) ^^^ (-1 : Int32)) : Int32) = 0 → (((x1) &&& (x2) : Int32) = 0 → ∃ (q2 : mj_M → Prop) (qx2 : String → mj_M → Prop), kX9_requireRoomFor (k0) (1) g (M1) q2 qx2 ∧ (∀ (X : String) (M' : mj_M), qx2 X M' → qx X M') ∧ ∀ (M2 : mj_M), q2 M2 → (∃ (q3 : mj_M → Prop), kX9_saveState (k0) g (M2) q3 ∧ ∀ (M3 : mj_M), q3 M3 → (∃ (q4 : Int32 → mj_M → Prop), kX9_setOf (x1) (x2) g (M3) q4 ∧ ∀ (v4 : Int32) (M4 : mj_M), q4 v4 M4 → (∃ (q5 : mj_M → Prop), kX6_addOriginal (k0 + 1) (v4) g (M4) q5 ∧ ∀ (M5 : mj_M), q5 M5 → (∃ (q6 : Int32 → mj_M → Prop), kX0_size (k0 + 1 + 3) g (M5) q6 ∧ ∀ (v6 : Int32) (M6 : mj_M), q6 v6 M6 → (q (v6) (M6))))))) ∧ (¬ ((x1) &&& (x2) : Int32) = 0 → qx mj_IA (M1)))))) : kX9_addClause (k0) (x1) (x2) g M q qx := by
  intro d hd; refine mj_enter (by decide +kernel) (Nat.le_of_ble_eq_true rfl) ?_
  show mj_G mtX9_addClause (mj_rm d 2 12) (mj_Fi (mj_qI g q) (mj_qX g qx) 2 12) false 2 12 0 [(0, .ref (k0)), (1, .int (x1)), (2, .int (x2))] [] g M
  refine mg_aload_n dX9_addClause_0 rfl 0 rfl ?_
  refine mg_getR (j := 0) dX9_addClause_1 kc_9 (Nat.le_of_ble_eq_true rfl) wd_231 rfl rfl h0.1.1 h0.1.2 h0.2.1.1 ?_
  obtain ⟨q1, hC, hk⟩ := h
  refine mc_Vi [] [] dX9_addClause_4 wd_364 kiX6_allVariables (Nat.le_of_ble_eq_true rfl) h0.2.1.2.1.1 h0.2.1.2.1.2 rfl (Nat.le_trans (Nat.le_of_ble_eq_true rfl) hd) hC (fun v1 M1 hq => ?_)
  replace h := hk v1 M1 hq
  refine mg_iconst (v := (-1)) dX9_addClause_7 (by decide) ?_
  refine mg_ixor dX9_addClause_8 ?_
  refine mg_istore_n (ls' := [(3, .int ((v1) ^^^ (-1 : Int32))), (0, .ref (k0)), (1, .int (x1)), (2, .int (x2))]) dX9_addClause_9 rfl (Nat.le_of_ble_eq_true rfl) rfl ?_
  refine mg_iload_n dX9_addClause_10 rfl 2 rfl ?_
  refine mg_iload_n dX9_addClause_11 rfl 0 rfl ?_
  refine mg_iand dX9_addClause_12 ?_
  refine mg_if_ne (tgt := 28) dX9_addClause_13 (by decide) (fun hc => ?_) (fun hc => ?_)
  · replace h := h.1 hc
    exact mg_throw (ti := 2) rfl rfl xw_IA rfl dX9_addClause_28 dX9_addClause_31 dX9_addClause_32 dX9_addClause_34 dX9_addClause_37 (Nat.le_trans (Nat.le_of_ble_eq_true rfl) hd) (Nat.le_of_ble_eq_true rfl) (Nat.le_of_ble_eq_true rfl) ⟨rfl, h⟩
  · replace h := h.2 hc
    refine mg_iload_n dX9_addClause_16 rfl 3 rfl ?_
    refine mg_iload_n dX9_addClause_17 rfl 0 rfl ?_
    refine mg_iand dX9_addClause_18 ?_
    refine mg_if_ne (tgt := 28) dX9_addClause_19 (by decide) (fun hc => ?_) (fun hc => ?_)
    · replace h := h.1 hc
      exact mg_throw (ti := 2) rfl rfl xw_IA rfl dX9_addClause_28 dX9_addClause_31 dX9_addClause_32 dX9_addClause_34 dX9_addClause_37 (Nat.le_trans (Nat.le_of_ble_eq_true rfl) hd) (Nat.le_of_ble_eq_true rfl) (Nat.le_of_ble_eq_true rfl) ⟨rfl, h⟩
    · replace h := h.2 hc
      refine mg_iload_n dX9_addClause_22 rfl 2 rfl ?_
      refine mg_iload_n dX9_addClause_23 rfl 3 rfl ?_
      refine mg_iand dX9_addClause_24 ?_
      refine mg_if_eq (tgt := 38) dX9_addClause_25 (by decide) (fun hc => ?_) (fun hc => ?_)
      · replace h := h.1 hc
        refine mg_aload_n dX9_addClause_38 rfl 1 rfl ?_
        refine mg_iconst (v := 1) dX9_addClause_39 (by decide) ?_
        obtain ⟨q2, qx2, hC, hkx, hk⟩ := h
        refine mx_Vv [.int (1)] [] dX9_addClause_40 wd_759 kiX9_requireRoomFor (Nat.le_of_ble_eq_true rfl) h0.1.1 h0.1.2 rfl (Nat.le_trans (Nat.le_of_ble_eq_true rfl) hd) ⟨Nat.le_of_ble_eq_true rfl, Nat.le_of_ble_eq_true rfl⟩ rfl rfl hC hkx (fun M2 hq => ?_)
        replace h := hk M2 hq
        refine mg_aload_n dX9_addClause_43 rfl 1 rfl ?_
        obtain ⟨q3, hC, hk⟩ := h
        refine mc_Vv [] [] dX9_addClause_44 wd_745 kiX9_saveState (Nat.le_of_ble_eq_true rfl) h0.1.1 h0.1.2 rfl (Nat.le_trans (Nat.le_of_ble_eq_true rfl) hd) hC (fun M3 hq => ?_)
        replace h := hk M3 hq
        refine mg_aload_n dX9_addClause_47 rfl 1 rfl ?_
        refine mg_getR (j := 0) dX9_addClause_48 kc_9 (Nat.le_of_ble_eq_true rfl) wd_231 rfl rfl h0.1.1 h0.1.2 h0.2.1.1 ?_
        refine mg_iload_n dX9_addClause_51 rfl 2 rfl ?_
        refine mg_iload_n dX9_addClause_52 rfl 3 rfl ?_
        obtain ⟨q4, hC, hk⟩ := h
        refine mc_Si [.int (x1), .int (x2)] [.ref (k0 + 1)] dX9_addClause_53 wd_329 kiX9_setOf (Nat.le_of_ble_eq_true rfl) (Nat.le_trans (Nat.le_of_ble_eq_true rfl) hd) hC (fun v4 M4 hq => ?_)
        replace h := hk v4 M4 hq
        obtain ⟨q5, hC, hk⟩ := h
        refine mc_Vv [.int (v4)] [] dX9_addClause_56 wd_780 kiX6_addOriginal (Nat.le_of_ble_eq_true rfl) h0.2.1.2.1.1 h0.2.1.2.1.2 rfl (Nat.le_trans (Nat.le_of_ble_eq_true rfl) hd) hC (fun M5 hq => ?_)
        replace h := hk M5 hq
        refine mg_aload_n dX9_addClause_59 rfl 1 rfl ?_
        refine mg_getR (j := 0) dX9_addClause_60 kc_9 (Nat.le_of_ble_eq_true rfl) wd_231 rfl rfl h0.1.1 h0.1.2 h0.2.1.1 ?_
        refine mg_getR (j := 4) dX9_addClause_63 kc_6 (Nat.le_of_ble_eq_true rfl) wd_77 rfl rfl h0.2.1.2.1.1 h0.2.1.2.1.2 h0.2.1.2.2.2.1.1 ?_
        obtain ⟨q6, hC, hk⟩ := h
        refine mc_Vi [] [] dX9_addClause_66 wd_260 kiX0_size (Nat.le_of_ble_eq_true rfl) h0.2.1.2.2.2.1.2.1.1 h0.2.1.2.2.2.1.2.1.2 rfl (Nat.le_trans (Nat.le_of_ble_eq_true rfl) hd) hC (fun v6 M6 hq => ?_)
        replace h := hk v6 M6 hq
        exact mex_i dX9_addClause_69 rfl h
      · replace h := h.2 hc
        exact mg_throw (ti := 2) rfl rfl xw_IA rfl dX9_addClause_28 dX9_addClause_31 dX9_addClause_32 dX9_addClause_34 dX9_addClause_37 (Nat.le_trans (Nat.le_of_ble_eq_true rfl) hd) (Nat.le_of_ble_eq_true rfl) (Nat.le_of_ble_eq_true rfl) ⟨rfl, h⟩
theorem dX9_generate_0 : decode cX9_generate 0 = .ok (.iload_n 1, 1) := by decide +kernel
theorem dX9_generate_1 : decode cX9_generate 1 = .ok (.ifCond .lt 30, 3) := by decide +kernel
theorem dX9_generate_4 : decode cX9_generate 4 = .ok (.iload_n 2, 1) := by decide +kernel
theorem dX9_generate_5 : decode cX9_generate 5 = .ok (.iconst 1, 1) := by decide +kernel
theorem dX9_generate_6 : decode cX9_generate 6 = .ok (.if_icmp .lt 25, 3) := by decide +kernel
theorem dX9_generate_9 : decode cX9_generate 9 = .ok (.iload_n 2, 1) := by decide +kernel
theorem dX9_generate_10 : decode cX9_generate 10 = .ok (.bipush 32, 2) := by decide +kernel
theorem dX9_generate_12 : decode cX9_generate 12 = .ok (.if_icmp .gt 19, 3) := by decide +kernel
theorem dX9_generate_15 : decode cX9_generate 15 = .ok (.iload_n 3, 1) := by decide +kernel
theorem dX9_generate_16 : decode cX9_generate 16 = .ok (.iconst 1, 1) := by decide +kernel
theorem dX9_generate_17 : decode cX9_generate 17 = .ok (.if_icmp .lt 14, 3) := by decide +kernel
theorem dX9_generate_20 : decode cX9_generate 20 = .ok (.iload_n 3, 1) := by decide +kernel
theorem dX9_generate_21 : decode cX9_generate 21 = .ok (.aload_n 0, 1) := by decide +kernel
theorem dX9_generate_22 : decode cX9_generate 22 = .ok (.getfield 12, 3) := by decide +kernel
theorem dX9_generate_25 : decode cX9_generate 25 = .ok (.getfield 62, 3) := by decide +kernel
theorem dX9_generate_28 : decode cX9_generate 28 = .ok (.if_icmp .le 13, 3) := by decide +kernel
theorem dX9_generate_31 : decode cX9_generate 31 = .ok (.new 55, 3) := by decide +kernel
theorem dX9_generate_34 : decode cX9_generate 34 = .ok (.dup, 1) := by decide +kernel
theorem dX9_generate_35 : decode cX9_generate 35 = .ok (.ldc 97, 2) := by decide +kernel
theorem dX9_generate_37 : decode cX9_generate 37 = .ok (.invokespecial 59, 3) := by decide +kernel
theorem dX9_generate_40 : decode cX9_generate 40 = .ok (.athrow, 1) := by decide +kernel
theorem dX9_generate_41 : decode cX9_generate 41 = .ok (.aload_n 0, 1) := by decide +kernel
theorem dX9_generate_42 : decode cX9_generate 42 = .ok (.iload_n 2, 1) := by decide +kernel
theorem dX9_generate_43 : decode cX9_generate 43 = .ok (.invokevirtual 78, 3) := by decide +kernel
theorem dX9_generate_46 : decode cX9_generate 46 = .ok (.aload_n 0, 1) := by decide +kernel
theorem dX9_generate_47 : decode cX9_generate 47 = .ok (.invokevirtual 65, 3) := by decide +kernel
theorem dX9_generate_50 : decode cX9_generate 50 = .ok (.aload_n 0, 1) := by decide +kernel
theorem dX9_generate_51 : decode cX9_generate 51 = .ok (.getfield 44, 3) := by decide +kernel
theorem dX9_generate_54 : decode cX9_generate 54 = .ok (.iload_n 1, 1) := by decide +kernel
theorem dX9_generate_55 : decode cX9_generate 55 = .ok (.aload_n 0, 1) := by decide +kernel
theorem dX9_generate_56 : decode cX9_generate 56 = .ok (.getfield 12, 3) := by decide +kernel
theorem dX9_generate_59 : decode cX9_generate 59 = .ok (.getfield 62, 3) := by decide +kernel
theorem dX9_generate_62 : decode cX9_generate 62 = .ok (.invokevirtual 99, 3) := by decide +kernel
theorem dX9_generate_65 : decode cX9_generate 65 = .ok (.iconst 0, 1) := by decide +kernel
theorem dX9_generate_66 : decode cX9_generate 66 = .ok (.istore 4, 2) := by decide +kernel
theorem dX9_generate_68 : decode cX9_generate 68 = .ok (.iload 4, 2) := by decide +kernel
theorem dX9_generate_70 : decode cX9_generate 70 = .ok (.iload_n 2, 1) := by decide +kernel
theorem dX9_generate_71 : decode cX9_generate 71 = .ok (.if_icmp .ge 24, 3) := by decide +kernel
theorem dX9_generate_74 : decode cX9_generate 74 = .ok (.aload_n 0, 1) := by decide +kernel
theorem dX9_generate_75 : decode cX9_generate 75 = .ok (.getfield 12, 3) := by decide +kernel
theorem dX9_generate_78 : decode cX9_generate 78 = .ok (.aload_n 0, 1) := by decide +kernel
theorem dX9_generate_79 : decode cX9_generate 79 = .ok (.getfield 44, 3) := by decide +kernel
theorem dX9_generate_82 : decode cX9_generate 82 = .ok (.iload_n 3, 1) := by decide +kernel
theorem dX9_generate_83 : decode cX9_generate 83 = .ok (.invokevirtual 103, 3) := by decide +kernel
theorem dX9_generate_86 : decode cX9_generate 86 = .ok (.invokevirtual 85, 3) := by decide +kernel
theorem dX9_generate_89 : decode cX9_generate 89 = .ok (.iinc 4 1, 3) := by decide +kernel
theorem dX9_generate_92 : decode cX9_generate 92 = .ok (.goto (-24), 3) := by decide +kernel
theorem dX9_generate_95 : decode cX9_generate 95 = .ok (.aload_n 0, 1) := by decide +kernel
theorem dX9_generate_96 : decode cX9_generate 96 = .ok (.getfield 12, 3) := by decide +kernel
theorem dX9_generate_99 : decode cX9_generate 99 = .ok (.getfield 88, 3) := by decide +kernel
theorem dX9_generate_102 : decode cX9_generate 102 = .ok (.invokevirtual 92, 3) := by decide +kernel
theorem dX9_generate_105 : decode cX9_generate 105 = .ok (.ireturn, 1) := by decide +kernel
abbrev mtX9_generate : mj_T := (yX9_generate.cls, cX9_generate, 5, (some .int), mj_no, yX9_generate.name)
abbrev kX9_generate (k0 : Nat) (x1 : Int32) (x2 : Int32) (x3 : Int32) (g : mj_S) (M : mj_M) (q : Int32 → mj_M → Prop) (qx : String → mj_M → Prop) : Prop := mj_CIX yX9_generate (.code yX9_generate cX9_generate 5 (some .int)) 8 2 12 [.ref (k0), .int (x1), .int (x2), .int (x3)] g M q qx
theorem kiX9_generate : mj_cV yX9_generate cX9_generate 5 (some .int) 3 := ⟨⟨wd_789, wd_790, wd_1, wd_791⟩, ⟨by decide +kernel, by decide +kernel, by decide +kernel⟩, Nat.le_of_ble_eq_true rfl⟩
def LX9_generate_68 (k0 : Nat) (x2 : Int32) (x3 : Int32) (x4 : Int32) (g : mj_S) (M : mj_M) (q : Int32 → mj_M → Prop) (qx : String → mj_M → Prop) : Prop := ∀ d, 8 ≤ d → mj_G mtX9_generate (mj_rm d 2 12) (mj_Fi (mj_qI g q) (mj_qX g qx) 2 12) false 0 0 68 [(0, .ref (k0)), (2, .int (x2)), (3, .int (x3)), (4, .int (x4))] [] g M
theorem eX9_generate {k0 : Nat} {x1 : Int32} {x2 : Int32} {x3 : Int32} {g : mj_S} {M : mj_M} {q : Int32 → mj_M → Prop} {qx : String → mj_M → Prop} (h0 : is9 g k0) (h : ((x1 : Int32) < 0 → qx mj_IA (M)) ∧ (¬ (x1 : Int32) < 0 → ((x2 : Int32) < (1 : Int32) → qx mj_IA (M)) ∧ (¬ (x2 : Int32) < (1 : Int32) → ((32 : Int32) < (x2) → qx mj_IA (M)) ∧ (¬ (32 : Int32) < (x2) → ((x3 : Int32) < (1 : Int32) → qx mj_IA (M)) ∧ (¬ (x3 : Int32) < (1 : Int32) → ((x3 : Int32) ≤ ((M).1 (k0 + 1) 0) → ∃ (q1 : mj_M → Prop) (qx1 : String → mj_M → Prop), kX9_requireRoomFor (k0) (x2) g (M) q1 qx1 ∧ (∀ (X : String) (M' : mj_M), qx1 X M' → qx X M') ∧ ∀ (M1 : mj_M), q1 M1 → (∃ (q2 : mj_M → Prop), kX9_saveState (k0) g (M1) q2 ∧ ∀ (M2 : mj_M), q2 M2 → (∃ (q3 : mj_M → Prop), kX2_begin (k0 + 87) (x1) ((M2).1 (k0 + 1) 0) g (M2) q3 ∧ ∀ (M3 : mj_M), q3 M3 → (LX9_generate_68 k0 (x2) (x3) (0) g (M3) q qx)))) ∧ (¬ (x3 : Int32) ≤ ((M).1 (k0 + 1) 0) → qx mj_IA (M))))))) : kX9_generate (k0) (x1) (x2) (x3) g M q qx := by
  intro d hd; refine mj_enter (by decide +kernel) (Nat.le_of_ble_eq_true rfl) ?_
  show mj_G mtX9_generate (mj_rm d 2 12) (mj_Fi (mj_qI g q) (mj_qX g qx) 2 12) false 2 12 0 [(0, .ref (k0)), (1, .int (x1)), (2, .int (x2)), (3, .int (x3))] [] g M
  refine mg_iload_n dX9_generate_0 rfl 1 rfl ?_
  refine mg_if_lt (tgt := 31) dX9_generate_1 (by decide) (fun hc => ?_) (fun hc => ?_)
  · replace h := h.1 hc
    exact mg_throw (ti := 5) rfl rfl xw_IA rfl dX9_generate_31 dX9_generate_34 dX9_generate_35 dX9_generate_37 dX9_generate_40 (Nat.le_trans (Nat.le_of_ble_eq_true rfl) hd) (Nat.le_of_ble_eq_true rfl) (Nat.le_of_ble_eq_true rfl) ⟨rfl, h⟩
  · replace h := h.2 hc
    refine mg_iload_n dX9_generate_4 rfl 2 rfl ?_
    refine mg_iconst (v := 1) dX9_generate_5 (by decide) ?_
    refine mg_icmp_lt (tgt := 31) dX9_generate_6 (by decide) (fun hc => ?_) (fun hc => ?_)
    · replace h := h.1 hc
      exact mg_throw (ti := 5) rfl rfl xw_IA rfl dX9_generate_31 dX9_generate_34 dX9_generate_35 dX9_generate_37 dX9_generate_40 (Nat.le_trans (Nat.le_of_ble_eq_true rfl) hd) (Nat.le_of_ble_eq_true rfl) (Nat.le_of_ble_eq_true rfl) ⟨rfl, h⟩
    · replace h := h.2 hc
      refine mg_iload_n dX9_generate_9 rfl 2 rfl ?_
      refine mg_bipush (v := 32) dX9_generate_10 (by decide) ?_
      refine mg_icmp_gt (tgt := 31) dX9_generate_12 (by decide) (fun hc => ?_) (fun hc => ?_)
      · replace h := h.1 hc
        exact mg_throw (ti := 5) rfl rfl xw_IA rfl dX9_generate_31 dX9_generate_34 dX9_generate_35 dX9_generate_37 dX9_generate_40 (Nat.le_trans (Nat.le_of_ble_eq_true rfl) hd) (Nat.le_of_ble_eq_true rfl) (Nat.le_of_ble_eq_true rfl) ⟨rfl, h⟩
      · replace h := h.2 hc
        refine mg_iload_n dX9_generate_15 rfl 3 rfl ?_
        refine mg_iconst (v := 1) dX9_generate_16 (by decide) ?_
        refine mg_icmp_lt (tgt := 31) dX9_generate_17 (by decide) (fun hc => ?_) (fun hc => ?_)
        · replace h := h.1 hc
          exact mg_throw (ti := 5) rfl rfl xw_IA rfl dX9_generate_31 dX9_generate_34 dX9_generate_35 dX9_generate_37 dX9_generate_40 (Nat.le_trans (Nat.le_of_ble_eq_true rfl) hd) (Nat.le_of_ble_eq_true rfl) (Nat.le_of_ble_eq_true rfl) ⟨rfl, h⟩
        · replace h := h.2 hc
          refine mg_iload_n dX9_generate_20 rfl 3 rfl ?_
          refine mg_aload_n dX9_generate_21 rfl 0 rfl ?_
          refine mg_getR (j := 0) dX9_generate_22 kc_9 (Nat.le_of_ble_eq_true rfl) wd_231 rfl rfl h0.1.1 h0.1.2 h0.2.1.1 ?_
          refine mg_getI (j := 0) dX9_generate_25 kc_6 (Nat.le_of_ble_eq_true rfl) wd_65 rfl rfl h0.2.1.2.1.1 h0.2.1.2.1.2 rfl ?_
          refine mg_icmp_le (tgt := 41) dX9_generate_28 (by decide) (fun hc => ?_) (fun hc => ?_)
          · replace h := h.1 hc
            refine mg_aload_n dX9_generate_41 rfl 0 rfl ?_
            refine mg_iload_n dX9_generate_42 rfl 2 rfl ?_
            obtain ⟨q1, qx1, hC, hkx, hk⟩ := h
            refine mx_Vv [.int (x2)] [] dX9_generate_43 wd_759 kiX9_requireRoomFor (Nat.le_of_ble_eq_true rfl) h0.1.1 h0.1.2 rfl (Nat.le_trans (Nat.le_of_ble_eq_true rfl) hd) ⟨Nat.le_of_ble_eq_true rfl, Nat.le_of_ble_eq_true rfl⟩ rfl rfl hC hkx (fun M1 hq => ?_)
            replace h := hk M1 hq
            refine mg_aload_n dX9_generate_46 rfl 0 rfl ?_
            obtain ⟨q2, hC, hk⟩ := h
            refine mc_Vv [] [] dX9_generate_47 wd_745 kiX9_saveState (Nat.le_of_ble_eq_true rfl) h0.1.1 h0.1.2 rfl (Nat.le_trans (Nat.le_of_ble_eq_true rfl) hd) hC (fun M2 hq => ?_)
            replace h := hk M2 hq
            refine mg_aload_n dX9_generate_50 rfl 0 rfl ?_
            refine mg_getR (j := 6) dX9_generate_51 kc_9 (Nat.le_of_ble_eq_true rfl) wd_237 rfl rfl h0.1.1 h0.1.2 h0.2.2.2.2.2.2.1.1 ?_
            refine mg_iload_n dX9_generate_54 rfl 1 rfl ?_
            refine mg_aload_n dX9_generate_55 rfl 0 rfl ?_
            refine mg_getR (j := 0) dX9_generate_56 kc_9 (Nat.le_of_ble_eq_true rfl) wd_231 rfl rfl h0.1.1 h0.1.2 h0.2.1.1 ?_
            refine mg_getI (j := 0) dX9_generate_59 kc_6 (Nat.le_of_ble_eq_true rfl) wd_65 rfl rfl h0.2.1.2.1.1 h0.2.1.2.1.2 rfl ?_
            obtain ⟨q3, hC, hk⟩ := h
            refine mc_Vv [.int (x1), .int ((M2).1 (k0 + 1) 0)] [] dX9_generate_62 wd_793 kiX2_begin (Nat.le_of_ble_eq_true rfl) h0.2.2.2.2.2.2.1.2.1 h0.2.2.2.2.2.2.1.2.2 rfl (Nat.le_trans (Nat.le_of_ble_eq_true rfl) hd) hC (fun M3 hq => ?_)
            replace h := hk M3 hq
            refine mg_iconst (v := 0) dX9_generate_65 (by decide) ?_
            refine mg_istore (ls' := [(4, .int (0)), (0, .ref (k0)), (1, .int (x1)), (2, .int (x2)), (3, .int (x3))]) dX9_generate_66 (Nat.le_of_ble_eq_true rfl) rfl ?_
            refine mg_bud (Nat.zero_le _) (Nat.zero_le _) ?_
            exact mg_pick [1, 3, 4, 0] rfl (h d hd)
          · replace h := h.2 hc
            exact mg_throw (ti := 5) rfl rfl xw_IA rfl dX9_generate_31 dX9_generate_34 dX9_generate_35 dX9_generate_37 dX9_generate_40 (Nat.le_trans (Nat.le_of_ble_eq_true rfl) hd) (Nat.le_of_ble_eq_true rfl) (Nat.le_of_ble_eq_true rfl) ⟨rfl, h⟩
theorem bX9_generate_68 {k0 : Nat} {x2 : Int32} {x3 : Int32} {x4 : Int32} {g : mj_S} {M : mj_M} {q : Int32 → mj_M → Prop} {qx : String → mj_M → Prop} (h0 : is9 g k0) (h : ((x2 : Int32) ≤ (x4) → ∃ (q1 : Int32 → mj_M → Prop), kX0_size (k0 + 1 + 3) g (M) q1 ∧ ∀ (v1 : Int32) (M1 : mj_M), q1 v1 M1 → (q (v1) (M1))) ∧ (¬ (x2 : Int32) ≤ (x4) → ∃ (q2 : Int32 → mj_M → Prop), kX2_nextClause (k0 + 87) (x3) g (M) q2 ∧ ∀ (v2 : Int32) (M2 : mj_M), q2 v2 M2 → (∃ (q3 : mj_M → Prop), kX6_addOriginal (k0 + 1) (v2) g (M2) q3 ∧ ∀ (M3 : mj_M), q3 M3 → (LX9_generate_68 k0 (x2) (x3) (x4 + 1) g (M3) q qx)))) : LX9_generate_68 k0 x2 x3 x4 g M q qx := by
  intro d hd
  refine mg_iload dX9_generate_68 3 rfl ?_
  refine mg_iload_n dX9_generate_70 rfl 1 rfl ?_
  refine mg_icmp_ge (tgt := 95) dX9_generate_71 (by decide) (fun hc => ?_) (fun hc => ?_)
  · replace h := h.1 hc
    refine mg_aload_n dX9_generate_95 rfl 0 rfl ?_
    refine mg_getR (j := 0) dX9_generate_96 kc_9 (Nat.le_of_ble_eq_true rfl) wd_231 rfl rfl h0.1.1 h0.1.2 h0.2.1.1 ?_
    refine mg_getR (j := 4) dX9_generate_99 kc_6 (Nat.le_of_ble_eq_true rfl) wd_77 rfl rfl h0.2.1.2.1.1 h0.2.1.2.1.2 h0.2.1.2.2.2.1.1 ?_
    obtain ⟨q1, hC, hk⟩ := h
    refine mc_Vi [] [] dX9_generate_102 wd_260 kiX0_size (Nat.le_of_ble_eq_true rfl) h0.2.1.2.2.2.1.2.1.1 h0.2.1.2.2.2.1.2.1.2 rfl (Nat.le_trans (Nat.le_of_ble_eq_true rfl) hd) hC (fun v1 M1 hq => ?_)
    replace h := hk v1 M1 hq
    exact mex_i dX9_generate_105 rfl h
  · replace h := h.2 hc
    refine mg_aload_n dX9_generate_74 rfl 0 rfl ?_
    refine mg_getR (j := 0) dX9_generate_75 kc_9 (Nat.le_of_ble_eq_true rfl) wd_231 rfl rfl h0.1.1 h0.1.2 h0.2.1.1 ?_
    refine mg_aload_n dX9_generate_78 rfl 0 rfl ?_
    refine mg_getR (j := 6) dX9_generate_79 kc_9 (Nat.le_of_ble_eq_true rfl) wd_237 rfl rfl h0.1.1 h0.1.2 h0.2.2.2.2.2.2.1.1 ?_
    refine mg_iload_n dX9_generate_82 rfl 2 rfl ?_
    obtain ⟨q2, hC, hk⟩ := h
    refine mc_Vi [.int (x3)] [.ref (k0 + 1)] dX9_generate_83 wd_797 kiX2_nextClause (Nat.le_of_ble_eq_true rfl) h0.2.2.2.2.2.2.1.2.1 h0.2.2.2.2.2.2.1.2.2 rfl (Nat.le_trans (Nat.le_of_ble_eq_true rfl) hd) hC (fun v2 M2 hq => ?_)
    replace h := hk v2 M2 hq
    obtain ⟨q3, hC, hk⟩ := h
    refine mc_Vv [.int (v2)] [] dX9_generate_86 wd_780 kiX6_addOriginal (Nat.le_of_ble_eq_true rfl) h0.2.1.2.1.1 h0.2.1.2.1.2 rfl (Nat.le_trans (Nat.le_of_ble_eq_true rfl) hd) hC (fun M3 hq => ?_)
    replace h := hk M3 hq
    refine mg_iinc (v := x4 + 1) (ls' := [(4, .int (x4 + 1)), (0, .ref (k0)), (2, .int (x2)), (3, .int (x3))]) dX9_generate_89 3 rfl rfl (Nat.le_of_ble_eq_true rfl) rfl ?_
    refine mg_goto (tgt := 68) dX9_generate_92 (by decide) ?_
    refine mg_bud (Nat.zero_le _) (Nat.zero_le _) ?_
    exact mg_pick [1, 2, 3, 0] rfl (h d hd)
theorem dX9_originalCount_0 : decode cX9_originalCount 0 = .ok (.aload_n 0, 1) := by decide +kernel
theorem dX9_originalCount_1 : decode cX9_originalCount 1 = .ok (.getfield 12, 3) := by decide +kernel
theorem dX9_originalCount_4 : decode cX9_originalCount 4 = .ok (.getfield 88, 3) := by decide +kernel
theorem dX9_originalCount_7 : decode cX9_originalCount 7 = .ok (.invokevirtual 92, 3) := by decide +kernel
theorem dX9_originalCount_10 : decode cX9_originalCount 10 = .ok (.ireturn, 1) := by decide +kernel
abbrev mtX9_originalCount : mj_T := (yX9_originalCount.cls, cX9_originalCount, 1, (some .int), mj_no, yX9_originalCount.name)
abbrev kX9_originalCount (k0 : Nat) (g : mj_S) (M : mj_M) (q : Int32 → mj_M → Prop) : Prop := mj_CI yX9_originalCount (.code yX9_originalCount cX9_originalCount 1 (some .int)) 1 [.ref (k0)] g M q
theorem kiX9_originalCount : mj_cV yX9_originalCount cX9_originalCount 1 (some .int) 0 := ⟨⟨wd_257, wd_258, wd_1, wd_259⟩, ⟨by decide +kernel, by decide +kernel, by decide +kernel⟩, Nat.le_of_ble_eq_true rfl⟩
theorem eX9_originalCount {k0 : Nat} {g : mj_S} {M : mj_M} {q : Int32 → mj_M → Prop} (h0 : is9 g k0) (h : ∃ (q1 : Int32 → mj_M → Prop), kX0_size (k0 + 1 + 3) g (M) q1 ∧ ∀ (v1 : Int32) (M1 : mj_M), q1 v1 M1 → (q (v1) (M1))) : kX9_originalCount (k0) g M q := by
  intro d hd; refine mj_enter (by decide +kernel) (Nat.le_of_ble_eq_true rfl) ?_
  generalize (false : Bool) = ex
  show mj_G mtX9_originalCount (mj_rm d 0 0) (mj_Fi (mj_qI g q) mj_x0 0 0) ex 0 0 0 [(0, .ref (k0))] [] g M
  refine mg_aload_n dX9_originalCount_0 rfl 0 rfl ?_
  refine mg_getR (j := 0) dX9_originalCount_1 kc_9 (Nat.le_of_ble_eq_true rfl) wd_231 rfl rfl h0.1.1 h0.1.2 h0.2.1.1 ?_
  refine mg_getR (j := 4) dX9_originalCount_4 kc_6 (Nat.le_of_ble_eq_true rfl) wd_77 rfl rfl h0.2.1.2.1.1 h0.2.1.2.1.2 h0.2.1.2.2.2.1.1 ?_
  obtain ⟨q1, hC, hk⟩ := h
  refine mc_Vi [] [] dX9_originalCount_7 wd_260 kiX0_size (Nat.le_of_ble_eq_true rfl) h0.2.1.2.2.2.1.2.1.1 h0.2.1.2.2.2.1.2.1.2 rfl (Nat.le_trans (Nat.le_of_ble_eq_true rfl) hd) hC (fun v1 M1 hq => ?_)
  replace h := hk v1 M1 hq
  exact me_i dX9_originalCount_10 rfl h
theorem dX9_original_0 : decode cX9_original 0 = .ok (.iload_n 1, 1) := by decide +kernel
theorem dX9_original_1 : decode cX9_original 1 = .ok (.ifCond .lt 17, 3) := by decide +kernel
theorem dX9_original_4 : decode cX9_original 4 = .ok (.iload_n 1, 1) := by decide +kernel
theorem dX9_original_5 : decode cX9_original 5 = .ok (.aload_n 0, 1) := by decide +kernel
theorem dX9_original_6 : decode cX9_original 6 = .ok (.getfield 12, 3) := by decide +kernel
theorem dX9_original_9 : decode cX9_original 9 = .ok (.getfield 88, 3) := by decide +kernel
theorem dX9_original_12 : decode cX9_original 12 = .ok (.invokevirtual 92, 3) := by decide +kernel
theorem dX9_original_15 : decode cX9_original 15 = .ok (.if_icmp .lt 13, 3) := by decide +kernel
theorem dX9_original_18 : decode cX9_original 18 = .ok (.new 107, 3) := by decide +kernel
theorem dX9_original_21 : decode cX9_original 21 = .ok (.dup, 1) := by decide +kernel
theorem dX9_original_22 : decode cX9_original 22 = .ok (.ldc 109, 2) := by decide +kernel
theorem dX9_original_24 : decode cX9_original 24 = .ok (.invokespecial 111, 3) := by decide +kernel
theorem dX9_original_27 : decode cX9_original 27 = .ok (.athrow, 1) := by decide +kernel
theorem dX9_original_28 : decode cX9_original 28 = .ok (.aload_n 0, 1) := by decide +kernel
theorem dX9_original_29 : decode cX9_original 29 = .ok (.getfield 12, 3) := by decide +kernel
theorem dX9_original_32 : decode cX9_original 32 = .ok (.getfield 88, 3) := by decide +kernel
theorem dX9_original_35 : decode cX9_original 35 = .ok (.iload_n 1, 1) := by decide +kernel
theorem dX9_original_36 : decode cX9_original 36 = .ok (.invokevirtual 112, 3) := by decide +kernel
theorem dX9_original_39 : decode cX9_original 39 = .ok (.iload_n 2, 1) := by decide +kernel
theorem dX9_original_40 : decode cX9_original 40 = .ok (.invokestatic 115, 3) := by decide +kernel
theorem dX9_original_43 : decode cX9_original 43 = .ok (.ireturn, 1) := by decide +kernel
abbrev mtX9_original : mj_T := (yX9_original.cls, cX9_original, 3, (some .int), mj_no, yX9_original.name)
abbrev kX9_original (k0 : Nat) (x1 : Int32) (x2 : Int32) (g : mj_S) (M : mj_M) (q : Int32 → mj_M → Prop) (qx : String → mj_M → Prop) : Prop := mj_CIX yX9_original (.code yX9_original cX9_original 3 (some .int)) 7 1 6 [.ref (k0), .int (x1), .int (x2)] g M q qx
theorem kiX9_original : mj_cV yX9_original cX9_original 3 (some .int) 2 := ⟨⟨wd_818, wd_819, wd_1, wd_820⟩, ⟨by decide +kernel, by decide +kernel, by decide +kernel⟩, Nat.le_of_ble_eq_true rfl⟩
theorem eX9_original {k0 : Nat} {x1 : Int32} {x2 : Int32} {g : mj_S} {M : mj_M} {q : Int32 → mj_M → Prop} {qx : String → mj_M → Prop} (h0 : is9 g k0) (h : ((x1 : Int32) < 0 → qx mj_IO (M)) ∧ (¬ (x1 : Int32) < 0 → ∃ (q1 : Int32 → mj_M → Prop), kX0_size (k0 + 1 + 3) g (M) q1 ∧ ∀ (v1 : Int32) (M1 : mj_M), q1 v1 M1 → (((x1 : Int32) < (v1) → ∃ (q2 : Int32 → mj_M → Prop), kX0_at (k0 + 1 + 3) (x1) g (M1) q2 ∧ ∀ (v2 : Int32) (M2 : mj_M), q2 v2 M2 → (∃ (q3 : Int32 → mj_M → Prop), kX9_half (v2) (x2) g (M2) q3 ∧ ∀ (v3 : Int32) (M3 : mj_M), q3 v3 M3 → (q (v3) (M3)))) ∧ (¬ (x1 : Int32) < (v1) → qx mj_IO (M1))))) : kX9_original (k0) (x1) (x2) g M q qx := by
  intro d hd; refine mj_enter (by decide +kernel) (Nat.le_of_ble_eq_true rfl) ?_
  show mj_G mtX9_original (mj_rm d 1 6) (mj_Fi (mj_qI g q) (mj_qX g qx) 1 6) false 1 6 0 [(0, .ref (k0)), (1, .int (x1)), (2, .int (x2))] [] g M
  refine mg_iload_n dX9_original_0 rfl 1 rfl ?_
  refine mg_if_lt (tgt := 18) dX9_original_1 (by decide) (fun hc => ?_) (fun hc => ?_)
  · replace h := h.1 hc
    exact mg_throw (ti := 6) rfl rfl xw_IO rfl dX9_original_18 dX9_original_21 dX9_original_22 dX9_original_24 dX9_original_27 (Nat.le_trans (Nat.le_of_ble_eq_true rfl) hd) (Nat.le_of_ble_eq_true rfl) (Nat.le_of_ble_eq_true rfl) ⟨rfl, h⟩
  · replace h := h.2 hc
    refine mg_iload_n dX9_original_4 rfl 1 rfl ?_
    refine mg_aload_n dX9_original_5 rfl 0 rfl ?_
    refine mg_getR (j := 0) dX9_original_6 kc_9 (Nat.le_of_ble_eq_true rfl) wd_231 rfl rfl h0.1.1 h0.1.2 h0.2.1.1 ?_
    refine mg_getR (j := 4) dX9_original_9 kc_6 (Nat.le_of_ble_eq_true rfl) wd_77 rfl rfl h0.2.1.2.1.1 h0.2.1.2.1.2 h0.2.1.2.2.2.1.1 ?_
    obtain ⟨q1, hC, hk⟩ := h
    refine mc_Vi [] [.int (x1)] dX9_original_12 wd_260 kiX0_size (Nat.le_of_ble_eq_true rfl) h0.2.1.2.2.2.1.2.1.1 h0.2.1.2.2.2.1.2.1.2 rfl (Nat.le_trans (Nat.le_of_ble_eq_true rfl) hd) hC (fun v1 M1 hq => ?_)
    replace h := hk v1 M1 hq
    refine mg_icmp_lt (tgt := 28) dX9_original_15 (by decide) (fun hc => ?_) (fun hc => ?_)
    · replace h := h.1 hc
      refine mg_aload_n dX9_original_28 rfl 0 rfl ?_
      refine mg_getR (j := 0) dX9_original_29 kc_9 (Nat.le_of_ble_eq_true rfl) wd_231 rfl rfl h0.1.1 h0.1.2 h0.2.1.1 ?_
      refine mg_getR (j := 4) dX9_original_32 kc_6 (Nat.le_of_ble_eq_true rfl) wd_77 rfl rfl h0.2.1.2.1.1 h0.2.1.2.1.2 h0.2.1.2.2.2.1.1 ?_
      refine mg_iload_n dX9_original_35 rfl 1 rfl ?_
      obtain ⟨q2, hC, hk⟩ := h
      refine mc_Vi [.int (x1)] [] dX9_original_36 wd_539 kiX0_at (Nat.le_of_ble_eq_true rfl) h0.2.1.2.2.2.1.2.1.1 h0.2.1.2.2.2.1.2.1.2 rfl (Nat.le_trans (Nat.le_of_ble_eq_true rfl) hd) hC (fun v2 M2 hq => ?_)
      replace h := hk v2 M2 hq
      refine mg_iload_n dX9_original_39 rfl 2 rfl ?_
      obtain ⟨q3, hC, hk⟩ := h
      refine mc_Si [.int (v2), .int (x2)] [] dX9_original_40 wd_652 kiX9_half (Nat.le_of_ble_eq_true rfl) (Nat.le_trans (Nat.le_of_ble_eq_true rfl) hd) hC (fun v3 M3 hq => ?_)
      replace h := hk v3 M3 hq
      exact mex_i dX9_original_43 rfl h
    · replace h := h.2 hc
      exact mg_throw (ti := 6) rfl rfl xw_IO rfl dX9_original_18 dX9_original_21 dX9_original_22 dX9_original_24 dX9_original_27 (Nat.le_trans (Nat.le_of_ble_eq_true rfl) hd) (Nat.le_of_ble_eq_true rfl) (Nat.le_of_ble_eq_true rfl) ⟨rfl, h⟩
theorem dX9_clauseCount_0 : decode cX9_clauseCount 0 = .ok (.aload_n 0, 1) := by decide +kernel
theorem dX9_clauseCount_1 : decode cX9_clauseCount 1 = .ok (.getfield 12, 3) := by decide +kernel
theorem dX9_clauseCount_4 : decode cX9_clauseCount 4 = .ok (.getfield 119, 3) := by decide +kernel
theorem dX9_clauseCount_7 : decode cX9_clauseCount 7 = .ok (.invokevirtual 92, 3) := by decide +kernel
theorem dX9_clauseCount_10 : decode cX9_clauseCount 10 = .ok (.ireturn, 1) := by decide +kernel
abbrev mtX9_clauseCount : mj_T := (yX9_clauseCount.cls, cX9_clauseCount, 1, (some .int), mj_no, yX9_clauseCount.name)
abbrev kX9_clauseCount (k0 : Nat) (g : mj_S) (M : mj_M) (q : Int32 → mj_M → Prop) : Prop := mj_CI yX9_clauseCount (.code yX9_clauseCount cX9_clauseCount 1 (some .int)) 1 [.ref (k0)] g M q
theorem kiX9_clauseCount : mj_cV yX9_clauseCount cX9_clauseCount 1 (some .int) 0 := ⟨⟨wd_265, wd_266, wd_1, wd_267⟩, ⟨by decide +kernel, by decide +kernel, by decide +kernel⟩, Nat.le_of_ble_eq_true rfl⟩
theorem eX9_clauseCount {k0 : Nat} {g : mj_S} {M : mj_M} {q : Int32 → mj_M → Prop} (h0 : is9 g k0) (h : ∃ (q1 : Int32 → mj_M → Prop), kX0_size (k0 + 1 + 1) g (M) q1 ∧ ∀ (v1 : Int32) (M1 : mj_M), q1 v1 M1 → (q (v1) (M1))) : kX9_clauseCount (k0) g M q := by
  intro d hd; refine mj_enter (by decide +kernel) (Nat.le_of_ble_eq_true rfl) ?_
  generalize (false : Bool) = ex
  show mj_G mtX9_clauseCount (mj_rm d 0 0) (mj_Fi (mj_qI g q) mj_x0 0 0) ex 0 0 0 [(0, .ref (k0))] [] g M
  refine mg_aload_n dX9_clauseCount_0 rfl 0 rfl ?_
  refine mg_getR (j := 0) dX9_clauseCount_1 kc_9 (Nat.le_of_ble_eq_true rfl) wd_231 rfl rfl h0.1.1 h0.1.2 h0.2.1.1 ?_
  refine mg_getR (j := 3) dX9_clauseCount_4 kc_6 (Nat.le_of_ble_eq_true rfl) wd_75 rfl rfl h0.2.1.2.1.1 h0.2.1.2.1.2 h0.2.1.2.2.1.1 ?_
  obtain ⟨q1, hC, hk⟩ := h
  refine mc_Vi [] [] dX9_clauseCount_7 wd_260 kiX0_size (Nat.le_of_ble_eq_true rfl) h0.2.1.2.2.1.2.1.1 h0.2.1.2.2.1.2.1.2 rfl (Nat.le_trans (Nat.le_of_ble_eq_true rfl) hd) hC (fun v1 M1 hq => ?_)
  replace h := hk v1 M1 hq
  exact me_i dX9_clauseCount_10 rfl h
theorem dX9_literalCount_0 : decode cX9_literalCount 0 = .ok (.aload_n 0, 1) := by decide +kernel
theorem dX9_literalCount_1 : decode cX9_literalCount 1 = .ok (.getfield 12, 3) := by decide +kernel
theorem dX9_literalCount_4 : decode cX9_literalCount 4 = .ok (.getfield 119, 3) := by decide +kernel
theorem dX9_literalCount_7 : decode cX9_literalCount 7 = .ok (.invokevirtual 122, 3) := by decide +kernel
theorem dX9_literalCount_10 : decode cX9_literalCount 10 = .ok (.ireturn, 1) := by decide +kernel
abbrev mtX9_literalCount : mj_T := (yX9_literalCount.cls, cX9_literalCount, 1, (some .int), mj_no, yX9_literalCount.name)
abbrev kX9_literalCount (k0 : Nat) (g : mj_S) (M : mj_M) (q : Int32 → mj_M → Prop) : Prop := mj_CI yX9_literalCount (.code yX9_literalCount cX9_literalCount 1 (some .int)) 2 [.ref (k0)] g M q
theorem kiX9_literalCount : mj_cV yX9_literalCount cX9_literalCount 1 (some .int) 0 := ⟨⟨wd_269, wd_270, wd_1, wd_271⟩, ⟨by decide +kernel, by decide +kernel, by decide +kernel⟩, Nat.le_of_ble_eq_true rfl⟩
theorem eX9_literalCount {k0 : Nat} {g : mj_S} {M : mj_M} {q : Int32 → mj_M → Prop} (h0 : is9 g k0) (h : ∃ (q1 : Int32 → mj_M → Prop), kX0_countLiterals (k0 + 1 + 1) g (M) q1 ∧ ∀ (v1 : Int32) (M1 : mj_M), q1 v1 M1 → (q (v1) (M1))) : kX9_literalCount (k0) g M q := by
  intro d hd; refine mj_enter (by decide +kernel) (Nat.le_of_ble_eq_true rfl) ?_
  generalize (false : Bool) = ex
  show mj_G mtX9_literalCount (mj_rm d 0 0) (mj_Fi (mj_qI g q) mj_x0 0 0) ex 0 0 0 [(0, .ref (k0))] [] g M
  refine mg_aload_n dX9_literalCount_0 rfl 0 rfl ?_
  refine mg_getR (j := 0) dX9_literalCount_1 kc_9 (Nat.le_of_ble_eq_true rfl) wd_231 rfl rfl h0.1.1 h0.1.2 h0.2.1.1 ?_
  refine mg_getR (j := 3) dX9_literalCount_4 kc_6 (Nat.le_of_ble_eq_true rfl) wd_75 rfl rfl h0.2.1.2.1.1 h0.2.1.2.1.2 h0.2.1.2.2.1.1 ?_
  obtain ⟨q1, hC, hk⟩ := h
  refine mc_Vi [] [] dX9_literalCount_7 wd_272 kiX0_countLiterals (Nat.le_of_ble_eq_true rfl) h0.2.1.2.2.1.2.1.1 h0.2.1.2.2.1.2.1.2 rfl (Nat.le_trans (Nat.le_of_ble_eq_true rfl) hd) hC (fun v1 M1 hq => ?_)
  replace h := hk v1 M1 hq
  exact me_i dX9_literalCount_10 rfl h
theorem dX9_requireClause_0 : decode cX9_requireClause 0 = .ok (.iload_n 1, 1) := by decide +kernel
theorem dX9_requireClause_1 : decode cX9_requireClause 1 = .ok (.ifCond .lt 17, 3) := by decide +kernel
theorem dX9_requireClause_4 : decode cX9_requireClause 4 = .ok (.iload_n 1, 1) := by decide +kernel
theorem dX9_requireClause_5 : decode cX9_requireClause 5 = .ok (.aload_n 0, 1) := by decide +kernel
theorem dX9_requireClause_6 : decode cX9_requireClause 6 = .ok (.getfield 12, 3) := by decide +kernel
theorem dX9_requireClause_9 : decode cX9_requireClause 9 = .ok (.getfield 119, 3) := by decide +kernel
theorem dX9_requireClause_12 : decode cX9_requireClause 12 = .ok (.invokevirtual 92, 3) := by decide +kernel
theorem dX9_requireClause_15 : decode cX9_requireClause 15 = .ok (.if_icmp .lt 14, 3) := by decide +kernel
theorem dX9_requireClause_18 : decode cX9_requireClause 18 = .ok (.new 107, 3) := by decide +kernel
theorem dX9_requireClause_21 : decode cX9_requireClause 21 = .ok (.dup, 1) := by decide +kernel
theorem dX9_requireClause_22 : decode cX9_requireClause 22 = .ok (.ldc_w 346, 3) := by decide +kernel
theorem dX9_requireClause_25 : decode cX9_requireClause 25 = .ok (.invokespecial 111, 3) := by decide +kernel
theorem dX9_requireClause_28 : decode cX9_requireClause 28 = .ok (.athrow, 1) := by decide +kernel
theorem dX9_requireClause_29 : decode cX9_requireClause 29 = .ok (.return_, 1) := by decide +kernel
abbrev mtX9_requireClause : mj_T := (yX9_requireClause.cls, cX9_requireClause, 2, none, mj_no, yX9_requireClause.name)
abbrev kX9_requireClause (k0 : Nat) (x1 : Int32) (g : mj_S) (M : mj_M) (q : mj_M → Prop) (qx : String → mj_M → Prop) : Prop := mj_CVX yX9_requireClause (.code yX9_requireClause cX9_requireClause 2 none) 7 1 6 [.ref (k0), .int (x1)] g M q qx
theorem kiX9_requireClause : mj_cV yX9_requireClause cX9_requireClause 2 none 1 := ⟨⟨wd_846, wp_28, wd_1, wd_847⟩, ⟨by decide +kernel, by decide +kernel, by decide +kernel⟩, Nat.le_of_ble_eq_true rfl⟩
theorem eX9_requireClause {k0 : Nat} {x1 : Int32} {g : mj_S} {M : mj_M} {q : mj_M → Prop} {qx : String → mj_M → Prop} (h0 : is9 g k0) (h : ((x1 : Int32) < 0 → qx mj_IO (M)) ∧ (¬ (x1 : Int32) < 0 → ∃ (q1 : Int32 → mj_M → Prop), kX0_size (k0 + 1 + 1) g (M) q1 ∧ ∀ (v1 : Int32) (M1 : mj_M), q1 v1 M1 → (((x1 : Int32) < (v1) → q (M1)) ∧ (¬ (x1 : Int32) < (v1) → qx mj_IO (M1))))) : kX9_requireClause (k0) (x1) g M q qx := by
  intro d hd; refine mj_enter (by decide +kernel) (Nat.le_of_ble_eq_true rfl) ?_
  show mj_G mtX9_requireClause (mj_rm d 1 6) (mj_Fi (mj_qV g q) (mj_qX g qx) 1 6) false 1 6 0 [(0, .ref (k0)), (1, .int (x1))] [] g M
  refine mg_iload_n dX9_requireClause_0 rfl 1 rfl ?_
  refine mg_if_lt (tgt := 18) dX9_requireClause_1 (by decide) (fun hc => ?_) (fun hc => ?_)
  · replace h := h.1 hc
    exact mg_throwW (ti := 7) rfl rfl xw_IO rfl dX9_requireClause_18 dX9_requireClause_21 dX9_requireClause_22 dX9_requireClause_25 dX9_requireClause_28 (Nat.le_trans (Nat.le_of_ble_eq_true rfl) hd) (Nat.le_of_ble_eq_true rfl) (Nat.le_of_ble_eq_true rfl) ⟨rfl, h⟩
  · replace h := h.2 hc
    refine mg_iload_n dX9_requireClause_4 rfl 1 rfl ?_
    refine mg_aload_n dX9_requireClause_5 rfl 0 rfl ?_
    refine mg_getR (j := 0) dX9_requireClause_6 kc_9 (Nat.le_of_ble_eq_true rfl) wd_231 rfl rfl h0.1.1 h0.1.2 h0.2.1.1 ?_
    refine mg_getR (j := 3) dX9_requireClause_9 kc_6 (Nat.le_of_ble_eq_true rfl) wd_75 rfl rfl h0.2.1.2.1.1 h0.2.1.2.1.2 h0.2.1.2.2.1.1 ?_
    obtain ⟨q1, hC, hk⟩ := h
    refine mc_Vi [] [.int (x1)] dX9_requireClause_12 wd_260 kiX0_size (Nat.le_of_ble_eq_true rfl) h0.2.1.2.2.1.2.1.1 h0.2.1.2.2.1.2.1.2 rfl (Nat.le_trans (Nat.le_of_ble_eq_true rfl) hd) hC (fun v1 M1 hq => ?_)
    replace h := hk v1 M1 hq
    refine mg_icmp_lt (tgt := 29) dX9_requireClause_15 (by decide) (fun hc => ?_) (fun hc => ?_)
    · replace h := h.1 hc
      exact mex_v dX9_requireClause_29 rfl h
    · replace h := h.2 hc
      exact mg_throwW (ti := 7) rfl rfl xw_IO rfl dX9_requireClause_18 dX9_requireClause_21 dX9_requireClause_22 dX9_requireClause_25 dX9_requireClause_28 (Nat.le_trans (Nat.le_of_ble_eq_true rfl) hd) (Nat.le_of_ble_eq_true rfl) (Nat.le_of_ble_eq_true rfl) ⟨rfl, h⟩
theorem dX9_clause_0 : decode cX9_clause 0 = .ok (.aload_n 0, 1) := by decide +kernel
theorem dX9_clause_1 : decode cX9_clause 1 = .ok (.iload_n 1, 1) := by decide +kernel
theorem dX9_clause_2 : decode cX9_clause 2 = .ok (.invokevirtual 125, 3) := by decide +kernel
theorem dX9_clause_5 : decode cX9_clause 5 = .ok (.aload_n 0, 1) := by decide +kernel
theorem dX9_clause_6 : decode cX9_clause 6 = .ok (.getfield 12, 3) := by decide +kernel
theorem dX9_clause_9 : decode cX9_clause 9 = .ok (.getfield 119, 3) := by decide +kernel
theorem dX9_clause_12 : decode cX9_clause 12 = .ok (.iload_n 1, 1) := by decide +kernel
theorem dX9_clause_13 : decode cX9_clause 13 = .ok (.invokevirtual 112, 3) := by decide +kernel
theorem dX9_clause_16 : decode cX9_clause 16 = .ok (.iload_n 2, 1) := by decide +kernel
theorem dX9_clause_17 : decode cX9_clause 17 = .ok (.invokestatic 115, 3) := by decide +kernel
theorem dX9_clause_20 : decode cX9_clause 20 = .ok (.ireturn, 1) := by decide +kernel
abbrev mtX9_clause : mj_T := (yX9_clause.cls, cX9_clause, 3, (some .int), mj_no, yX9_clause.name)
abbrev kX9_clause (k0 : Nat) (x1 : Int32) (x2 : Int32) (g : mj_S) (M : mj_M) (q : Int32 → mj_M → Prop) (qx : String → mj_M → Prop) : Prop := mj_CIX yX9_clause (.code yX9_clause cX9_clause 3 (some .int)) 8 1 6 [.ref (k0), .int (x1), .int (x2)] g M q qx
theorem kiX9_clause : mj_cV yX9_clause cX9_clause 3 (some .int) 2 := ⟨⟨wd_841, wd_842, wd_1, wd_843⟩, ⟨by decide +kernel, by decide +kernel, by decide +kernel⟩, Nat.le_of_ble_eq_true rfl⟩
theorem eX9_clause {k0 : Nat} {x1 : Int32} {x2 : Int32} {g : mj_S} {M : mj_M} {q : Int32 → mj_M → Prop} {qx : String → mj_M → Prop} (h0 : is9 g k0) (h : ∃ (q1 : mj_M → Prop) (qx1 : String → mj_M → Prop), kX9_requireClause (k0) (x1) g (M) q1 qx1 ∧ (∀ (X : String) (M' : mj_M), qx1 X M' → qx X M') ∧ ∀ (M1 : mj_M), q1 M1 → (∃ (q2 : Int32 → mj_M → Prop), kX0_at (k0 + 1 + 1) (x1) g (M1) q2 ∧ ∀ (v2 : Int32) (M2 : mj_M), q2 v2 M2 → (∃ (q3 : Int32 → mj_M → Prop), kX9_half (v2) (x2) g (M2) q3 ∧ ∀ (v3 : Int32) (M3 : mj_M), q3 v3 M3 → (q (v3) (M3))))) : kX9_clause (k0) (x1) (x2) g M q qx := by
  intro d hd; refine mj_enter (by decide +kernel) (Nat.le_of_ble_eq_true rfl) ?_
  show mj_G mtX9_clause (mj_rm d 1 6) (mj_Fi (mj_qI g q) (mj_qX g qx) 1 6) false 1 6 0 [(0, .ref (k0)), (1, .int (x1)), (2, .int (x2))] [] g M
  refine mg_aload_n dX9_clause_0 rfl 0 rfl ?_
  refine mg_iload_n dX9_clause_1 rfl 1 rfl ?_
  obtain ⟨q1, qx1, hC, hkx, hk⟩ := h
  refine mx_Vv [.int (x1)] [] dX9_clause_2 wd_844 kiX9_requireClause (Nat.le_of_ble_eq_true rfl) h0.1.1 h0.1.2 rfl (Nat.le_trans (Nat.le_of_ble_eq_true rfl) hd) ⟨Nat.le_of_ble_eq_true rfl, Nat.le_of_ble_eq_true rfl⟩ rfl rfl hC hkx (fun M1 hq => ?_)
  replace h := hk M1 hq
  refine mg_aload_n dX9_clause_5 rfl 0 rfl ?_
  refine mg_getR (j := 0) dX9_clause_6 kc_9 (Nat.le_of_ble_eq_true rfl) wd_231 rfl rfl h0.1.1 h0.1.2 h0.2.1.1 ?_
  refine mg_getR (j := 3) dX9_clause_9 kc_6 (Nat.le_of_ble_eq_true rfl) wd_75 rfl rfl h0.2.1.2.1.1 h0.2.1.2.1.2 h0.2.1.2.2.1.1 ?_
  refine mg_iload_n dX9_clause_12 rfl 1 rfl ?_
  obtain ⟨q2, hC, hk⟩ := h
  refine mc_Vi [.int (x1)] [] dX9_clause_13 wd_539 kiX0_at (Nat.le_of_ble_eq_true rfl) h0.2.1.2.2.1.2.1.1 h0.2.1.2.2.1.2.1.2 rfl (Nat.le_trans (Nat.le_of_ble_eq_true rfl) hd) hC (fun v2 M2 hq => ?_)
  replace h := hk v2 M2 hq
  refine mg_iload_n dX9_clause_16 rfl 2 rfl ?_
  obtain ⟨q3, hC, hk⟩ := h
  refine mc_Si [.int (v2), .int (x2)] [] dX9_clause_17 wd_652 kiX9_half (Nat.le_of_ble_eq_true rfl) (Nat.le_trans (Nat.le_of_ble_eq_true rfl) hd) hC (fun v3 M3 hq => ?_)
  replace h := hk v3 M3 hq
  exact mex_i dX9_clause_20 rfl h
theorem dX9_contradictory_0 : decode cX9_contradictory 0 = .ok (.aload_n 0, 1) := by decide +kernel
theorem dX9_contradictory_1 : decode cX9_contradictory 1 = .ok (.getfield 12, 3) := by decide +kernel
theorem dX9_contradictory_4 : decode cX9_contradictory 4 = .ok (.getfield 119, 3) := by decide +kernel
theorem dX9_contradictory_7 : decode cX9_contradictory 7 = .ok (.invokevirtual 128, 3) := by decide +kernel
theorem dX9_contradictory_10 : decode cX9_contradictory 10 = .ok (.ireturn, 1) := by decide +kernel
abbrev mtX9_contradictory : mj_T := (yX9_contradictory.cls, cX9_contradictory, 1, (some .boolean), mj_no, yX9_contradictory.name)
abbrev kX9_contradictory (k0 : Nat) (g : mj_S) (M : mj_M) (q : Int32 → mj_M → Prop) : Prop := mj_CI yX9_contradictory (.code yX9_contradictory cX9_contradictory 1 (some .boolean)) 2 [.ref (k0)] g M q
theorem kiX9_contradictory : mj_cV yX9_contradictory cX9_contradictory 1 (some .boolean) 0 := ⟨⟨wd_283, wd_284, wd_1, wd_285⟩, ⟨by decide +kernel, by decide +kernel, by decide +kernel⟩, Nat.le_of_ble_eq_true rfl⟩
theorem eX9_contradictory {k0 : Nat} {g : mj_S} {M : mj_M} {q : Int32 → mj_M → Prop} (h0 : is9 g k0) (h : ∃ (q1 : Int32 → mj_M → Prop), kX0_isContradictory (k0 + 1 + 1) g (M) q1 ∧ ∀ (v1 : Int32) (M1 : mj_M), q1 v1 M1 → (((v1 : Int32) = 0 ∨ (v1 : Int32) = 1) ∧ q (v1) (M1))) : kX9_contradictory (k0) g M q := by
  intro d hd; refine mj_enter (by decide +kernel) (Nat.le_of_ble_eq_true rfl) ?_
  generalize (false : Bool) = ex
  show mj_G mtX9_contradictory (mj_rm d 0 0) (mj_Fi (mj_qI g q) mj_x0 0 0) ex 0 0 0 [(0, .ref (k0))] [] g M
  refine mg_aload_n dX9_contradictory_0 rfl 0 rfl ?_
  refine mg_getR (j := 0) dX9_contradictory_1 kc_9 (Nat.le_of_ble_eq_true rfl) wd_231 rfl rfl h0.1.1 h0.1.2 h0.2.1.1 ?_
  refine mg_getR (j := 3) dX9_contradictory_4 kc_6 (Nat.le_of_ble_eq_true rfl) wd_75 rfl rfl h0.2.1.2.1.1 h0.2.1.2.1.2 h0.2.1.2.2.1.1 ?_
  obtain ⟨q1, hC, hk⟩ := h
  refine mc_Vi [] [] dX9_contradictory_7 wd_286 kiX0_isContradictory (Nat.le_of_ble_eq_true rfl) h0.2.1.2.2.1.2.1.1 h0.2.1.2.2.1.2.1.2 rfl (Nat.le_trans (Nat.le_of_ble_eq_true rfl) hd) hC (fun v1 M1 hq => ?_)
  replace h := hk v1 M1 hq
  exact me_z dX9_contradictory_10 rfl h.1 h.2
theorem dX9_requireVariable_0 : decode cX9_requireVariable 0 = .ok (.iload_n 1, 1) := by decide +kernel
theorem dX9_requireVariable_1 : decode cX9_requireVariable 1 = .ok (.ifCond .lt 14, 3) := by decide +kernel
theorem dX9_requireVariable_4 : decode cX9_requireVariable 4 = .ok (.iload_n 1, 1) := by decide +kernel
theorem dX9_requireVariable_5 : decode cX9_requireVariable 5 = .ok (.aload_n 0, 1) := by decide +kernel
theorem dX9_requireVariable_6 : decode cX9_requireVariable 6 = .ok (.getfield 12, 3) := by decide +kernel
theorem dX9_requireVariable_9 : decode cX9_requireVariable 9 = .ok (.getfield 62, 3) := by decide +kernel
theorem dX9_requireVariable_12 : decode cX9_requireVariable 12 = .ok (.if_icmp .lt 14, 3) := by decide +kernel
theorem dX9_requireVariable_15 : decode cX9_requireVariable 15 = .ok (.new 107, 3) := by decide +kernel
theorem dX9_requireVariable_18 : decode cX9_requireVariable 18 = .ok (.dup, 1) := by decide +kernel
theorem dX9_requireVariable_19 : decode cX9_requireVariable 19 = .ok (.ldc_w 342, 3) := by decide +kernel
theorem dX9_requireVariable_22 : decode cX9_requireVariable 22 = .ok (.invokespecial 111, 3) := by decide +kernel
theorem dX9_requireVariable_25 : decode cX9_requireVariable 25 = .ok (.athrow, 1) := by decide +kernel
theorem dX9_requireVariable_26 : decode cX9_requireVariable 26 = .ok (.return_, 1) := by decide +kernel
abbrev mtX9_requireVariable : mj_T := (yX9_requireVariable.cls, cX9_requireVariable, 2, none, mj_no, yX9_requireVariable.name)
abbrev kX9_requireVariable (k0 : Nat) (x1 : Int32) (g : mj_S) (M : mj_M) (q : mj_M → Prop) (qx : String → mj_M → Prop) : Prop := mj_CVX yX9_requireVariable (.code yX9_requireVariable cX9_requireVariable 2 none) 7 1 6 [.ref (k0), .int (x1)] g M q qx
theorem kiX9_requireVariable : mj_cV yX9_requireVariable cX9_requireVariable 2 none 1 := ⟨⟨wd_858, wp_29, wd_1, wd_859⟩, ⟨by decide +kernel, by decide +kernel, by decide +kernel⟩, Nat.le_of_ble_eq_true rfl⟩
theorem eX9_requireVariable {k0 : Nat} {x1 : Int32} {g : mj_S} {M : mj_M} {q : mj_M → Prop} {qx : String → mj_M → Prop} (h0 : is9 g k0) (h : ((x1 : Int32) < 0 → qx mj_IO (M)) ∧ (¬ (x1 : Int32) < 0 → ((x1 : Int32) < ((M).1 (k0 + 1) 0) → q (M)) ∧ (¬ (x1 : Int32) < ((M).1 (k0 + 1) 0) → qx mj_IO (M)))) : kX9_requireVariable (k0) (x1) g M q qx := by
  intro d hd; refine mj_enter (by decide +kernel) (Nat.le_of_ble_eq_true rfl) ?_
  show mj_G mtX9_requireVariable (mj_rm d 1 6) (mj_Fi (mj_qV g q) (mj_qX g qx) 1 6) false 1 6 0 [(0, .ref (k0)), (1, .int (x1))] [] g M
  refine mg_iload_n dX9_requireVariable_0 rfl 1 rfl ?_
  refine mg_if_lt (tgt := 15) dX9_requireVariable_1 (by decide) (fun hc => ?_) (fun hc => ?_)
  · replace h := h.1 hc
    exact mg_throwW (ti := 8) rfl rfl xw_IO rfl dX9_requireVariable_15 dX9_requireVariable_18 dX9_requireVariable_19 dX9_requireVariable_22 dX9_requireVariable_25 (Nat.le_trans (Nat.le_of_ble_eq_true rfl) hd) (Nat.le_of_ble_eq_true rfl) (Nat.le_of_ble_eq_true rfl) ⟨rfl, h⟩
  · replace h := h.2 hc
    refine mg_iload_n dX9_requireVariable_4 rfl 1 rfl ?_
    refine mg_aload_n dX9_requireVariable_5 rfl 0 rfl ?_
    refine mg_getR (j := 0) dX9_requireVariable_6 kc_9 (Nat.le_of_ble_eq_true rfl) wd_231 rfl rfl h0.1.1 h0.1.2 h0.2.1.1 ?_
    refine mg_getI (j := 0) dX9_requireVariable_9 kc_6 (Nat.le_of_ble_eq_true rfl) wd_65 rfl rfl h0.2.1.2.1.1 h0.2.1.2.1.2 rfl ?_
    refine mg_icmp_lt (tgt := 26) dX9_requireVariable_12 (by decide) (fun hc => ?_) (fun hc => ?_)
    · replace h := h.1 hc
      exact mex_v dX9_requireVariable_26 rfl h
    · replace h := h.2 hc
      exact mg_throwW (ti := 8) rfl rfl xw_IO rfl dX9_requireVariable_15 dX9_requireVariable_18 dX9_requireVariable_19 dX9_requireVariable_22 dX9_requireVariable_25 (Nat.le_trans (Nat.le_of_ble_eq_true rfl) hd) (Nat.le_of_ble_eq_true rfl) (Nat.le_of_ble_eq_true rfl) ⟨rfl, h⟩
theorem dX9_status_0 : decode cX9_status 0 = .ok (.aload_n 0, 1) := by decide +kernel
theorem dX9_status_1 : decode cX9_status 1 = .ok (.iload_n 1, 1) := by decide +kernel
theorem dX9_status_2 : decode cX9_status 2 = .ok (.invokevirtual 132, 3) := by decide +kernel
theorem dX9_status_5 : decode cX9_status 5 = .ok (.aload_n 0, 1) := by decide +kernel
theorem dX9_status_6 : decode cX9_status 6 = .ok (.getfield 12, 3) := by decide +kernel
theorem dX9_status_9 : decode cX9_status 9 = .ok (.iload_n 1, 1) := by decide +kernel
theorem dX9_status_10 : decode cX9_status 10 = .ok (.invokevirtual 135, 3) := by decide +kernel
theorem dX9_status_13 : decode cX9_status 13 = .ok (.ireturn, 1) := by decide +kernel
abbrev mtX9_status : mj_T := (yX9_status.cls, cX9_status, 2, (some .int), mj_no, yX9_status.name)
abbrev kX9_status (k0 : Nat) (x1 : Int32) (g : mj_S) (M : mj_M) (q : Int32 → mj_M → Prop) (qx : String → mj_M → Prop) : Prop := mj_CIX yX9_status (.code yX9_status cX9_status 2 (some .int)) 8 1 6 [.ref (k0), .int (x1)] g M q qx
theorem kiX9_status : mj_cV yX9_status cX9_status 2 (some .int) 1 := ⟨⟨wd_853, wd_854, wd_1, wd_855⟩, ⟨by decide +kernel, by decide +kernel, by decide +kernel⟩, Nat.le_of_ble_eq_true rfl⟩
theorem eX9_status {k0 : Nat} {x1 : Int32} {g : mj_S} {M : mj_M} {q : Int32 → mj_M → Prop} {qx : String → mj_M → Prop} (h0 : is9 g k0) (h : ∃ (q1 : mj_M → Prop) (qx1 : String → mj_M → Prop), kX9_requireVariable (k0) (x1) g (M) q1 qx1 ∧ (∀ (X : String) (M' : mj_M), qx1 X M' → qx X M') ∧ ∀ (M1 : mj_M), q1 M1 → (∃ (q2 : Int32 → mj_M → Prop), kX6_statusOf (k0 + 1) (x1) g (M1) q2 ∧ ∀ (v2 : Int32) (M2 : mj_M), q2 v2 M2 → (q (v2) (M2)))) : kX9_status (k0) (x1) g M q qx := by
  intro d hd; refine mj_enter (by decide +kernel) (Nat.le_of_ble_eq_true rfl) ?_
  show mj_G mtX9_status (mj_rm d 1 6) (mj_Fi (mj_qI g q) (mj_qX g qx) 1 6) false 1 6 0 [(0, .ref (k0)), (1, .int (x1))] [] g M
  refine mg_aload_n dX9_status_0 rfl 0 rfl ?_
  refine mg_iload_n dX9_status_1 rfl 1 rfl ?_
  obtain ⟨q1, qx1, hC, hkx, hk⟩ := h
  refine mx_Vv [.int (x1)] [] dX9_status_2 wd_856 kiX9_requireVariable (Nat.le_of_ble_eq_true rfl) h0.1.1 h0.1.2 rfl (Nat.le_trans (Nat.le_of_ble_eq_true rfl) hd) ⟨Nat.le_of_ble_eq_true rfl, Nat.le_of_ble_eq_true rfl⟩ rfl rfl hC hkx (fun M1 hq => ?_)
  replace h := hk M1 hq
  refine mg_aload_n dX9_status_5 rfl 0 rfl ?_
  refine mg_getR (j := 0) dX9_status_6 kc_9 (Nat.le_of_ble_eq_true rfl) wd_231 rfl rfl h0.1.1 h0.1.2 h0.2.1.1 ?_
  refine mg_iload_n dX9_status_9 rfl 1 rfl ?_
  obtain ⟨q2, hC, hk⟩ := h
  refine mc_Vi [.int (x1)] [] dX9_status_10 wd_658 kiX6_statusOf (Nat.le_of_ble_eq_true rfl) h0.2.1.2.1.1 h0.2.1.2.1.2 rfl (Nat.le_trans (Nat.le_of_ble_eq_true rfl) hd) hC (fun v2 M2 hq => ?_)
  replace h := hk v2 M2 hq
  exact mex_i dX9_status_13 rfl h
theorem dX9_value_0 : decode cX9_value 0 = .ok (.aload_n 0, 1) := by decide +kernel
theorem dX9_value_1 : decode cX9_value 1 = .ok (.iload_n 1, 1) := by decide +kernel
theorem dX9_value_2 : decode cX9_value 2 = .ok (.invokevirtual 132, 3) := by decide +kernel
theorem dX9_value_5 : decode cX9_value 5 = .ok (.aload_n 0, 1) := by decide +kernel
theorem dX9_value_6 : decode cX9_value 6 = .ok (.getfield 12, 3) := by decide +kernel
theorem dX9_value_9 : decode cX9_value 9 = .ok (.iload_n 1, 1) := by decide +kernel
theorem dX9_value_10 : decode cX9_value 10 = .ok (.invokevirtual 138, 3) := by decide +kernel
theorem dX9_value_13 : decode cX9_value 13 = .ok (.ireturn, 1) := by decide +kernel
abbrev mtX9_value : mj_T := (yX9_value.cls, cX9_value, 2, (some .int), mj_no, yX9_value.name)
abbrev kX9_value (k0 : Nat) (x1 : Int32) (g : mj_S) (M : mj_M) (q : Int32 → mj_M → Prop) (qx : String → mj_M → Prop) : Prop := mj_CIX yX9_value (.code yX9_value cX9_value 2 (some .int)) 8 1 6 [.ref (k0), .int (x1)] g M q qx
theorem kiX9_value : mj_cV yX9_value cX9_value 2 (some .int) 1 := ⟨⟨wd_865, wd_866, wd_1, wd_867⟩, ⟨by decide +kernel, by decide +kernel, by decide +kernel⟩, Nat.le_of_ble_eq_true rfl⟩
theorem eX9_value {k0 : Nat} {x1 : Int32} {g : mj_S} {M : mj_M} {q : Int32 → mj_M → Prop} {qx : String → mj_M → Prop} (h0 : is9 g k0) (h : ∃ (q1 : mj_M → Prop) (qx1 : String → mj_M → Prop), kX9_requireVariable (k0) (x1) g (M) q1 qx1 ∧ (∀ (X : String) (M' : mj_M), qx1 X M' → qx X M') ∧ ∀ (M1 : mj_M), q1 M1 → (∃ (q2 : Int32 → mj_M → Prop), kX6_knownOf (k0 + 1) (x1) g (M1) q2 ∧ ∀ (v2 : Int32) (M2 : mj_M), q2 v2 M2 → (q (v2) (M2)))) : kX9_value (k0) (x1) g M q qx := by
  intro d hd; refine mj_enter (by decide +kernel) (Nat.le_of_ble_eq_true rfl) ?_
  show mj_G mtX9_value (mj_rm d 1 6) (mj_Fi (mj_qI g q) (mj_qX g qx) 1 6) false 1 6 0 [(0, .ref (k0)), (1, .int (x1))] [] g M
  refine mg_aload_n dX9_value_0 rfl 0 rfl ?_
  refine mg_iload_n dX9_value_1 rfl 1 rfl ?_
  obtain ⟨q1, qx1, hC, hkx, hk⟩ := h
  refine mx_Vv [.int (x1)] [] dX9_value_2 wd_856 kiX9_requireVariable (Nat.le_of_ble_eq_true rfl) h0.1.1 h0.1.2 rfl (Nat.le_trans (Nat.le_of_ble_eq_true rfl) hd) ⟨Nat.le_of_ble_eq_true rfl, Nat.le_of_ble_eq_true rfl⟩ rfl rfl hC hkx (fun M1 hq => ?_)
  replace h := hk M1 hq
  refine mg_aload_n dX9_value_5 rfl 0 rfl ?_
  refine mg_getR (j := 0) dX9_value_6 kc_9 (Nat.le_of_ble_eq_true rfl) wd_231 rfl rfl h0.1.1 h0.1.2 h0.2.1.1 ?_
  refine mg_iload_n dX9_value_9 rfl 1 rfl ?_
  obtain ⟨q2, hC, hk⟩ := h
  refine mc_Vi [.int (x1)] [] dX9_value_10 wd_659 kiX6_knownOf (Nat.le_of_ble_eq_true rfl) h0.2.1.2.1.1 h0.2.1.2.1.2 rfl (Nat.le_trans (Nat.le_of_ble_eq_true rfl) hd) hC (fun v2 M2 hq => ?_)
  replace h := hk v2 M2 hq
  exact mex_i dX9_value_13 rfl h
theorem dX9_requireLiteral_0 : decode cX9_requireLiteral 0 = .ok (.iload_n 1, 1) := by decide +kernel
theorem dX9_requireLiteral_1 : decode cX9_requireLiteral 1 = .ok (.ifCond .lt 16, 3) := by decide +kernel
theorem dX9_requireLiteral_4 : decode cX9_requireLiteral 4 = .ok (.iload_n 1, 1) := by decide +kernel
theorem dX9_requireLiteral_5 : decode cX9_requireLiteral 5 = .ok (.iconst 2, 1) := by decide +kernel
theorem dX9_requireLiteral_6 : decode cX9_requireLiteral 6 = .ok (.aload_n 0, 1) := by decide +kernel
theorem dX9_requireLiteral_7 : decode cX9_requireLiteral 7 = .ok (.getfield 12, 3) := by decide +kernel
theorem dX9_requireLiteral_10 : decode cX9_requireLiteral 10 = .ok (.getfield 62, 3) := by decide +kernel
theorem dX9_requireLiteral_13 : decode cX9_requireLiteral 13 = .ok (.imul, 1) := by decide +kernel
theorem dX9_requireLiteral_14 : decode cX9_requireLiteral 14 = .ok (.if_icmp .lt 14, 3) := by decide +kernel
theorem dX9_requireLiteral_17 : decode cX9_requireLiteral 17 = .ok (.new 107, 3) := by decide +kernel
theorem dX9_requireLiteral_20 : decode cX9_requireLiteral 20 = .ok (.dup, 1) := by decide +kernel
theorem dX9_requireLiteral_21 : decode cX9_requireLiteral 21 = .ok (.ldc_w 344, 3) := by decide +kernel
theorem dX9_requireLiteral_24 : decode cX9_requireLiteral 24 = .ok (.invokespecial 111, 3) := by decide +kernel
theorem dX9_requireLiteral_27 : decode cX9_requireLiteral 27 = .ok (.athrow, 1) := by decide +kernel
theorem dX9_requireLiteral_28 : decode cX9_requireLiteral 28 = .ok (.return_, 1) := by decide +kernel
abbrev mtX9_requireLiteral : mj_T := (yX9_requireLiteral.cls, cX9_requireLiteral, 2, none, mj_no, yX9_requireLiteral.name)
abbrev kX9_requireLiteral (k0 : Nat) (x1 : Int32) (g : mj_S) (M : mj_M) (q : mj_M → Prop) (qx : String → mj_M → Prop) : Prop := mj_CVX yX9_requireLiteral (.code yX9_requireLiteral cX9_requireLiteral 2 none) 7 1 6 [.ref (k0), .int (x1)] g M q qx
theorem kiX9_requireLiteral : mj_cV yX9_requireLiteral cX9_requireLiteral 2 none 1 := ⟨⟨wd_877, wp_30, wd_1, wd_878⟩, ⟨by decide +kernel, by decide +kernel, by decide +kernel⟩, Nat.le_of_ble_eq_true rfl⟩
theorem eX9_requireLiteral {k0 : Nat} {x1 : Int32} {g : mj_S} {M : mj_M} {q : mj_M → Prop} {qx : String → mj_M → Prop} (h0 : is9 g k0) (h : ((x1 : Int32) < 0 → qx mj_IO (M)) ∧ (¬ (x1 : Int32) < 0 → ((x1 : Int32) < ((2 : Int32) * ((M).1 (k0 + 1) 0)) → q (M)) ∧ (¬ (x1 : Int32) < ((2 : Int32) * ((M).1 (k0 + 1) 0)) → qx mj_IO (M)))) : kX9_requireLiteral (k0) (x1) g M q qx := by
  intro d hd; refine mj_enter (by decide +kernel) (Nat.le_of_ble_eq_true rfl) ?_
  show mj_G mtX9_requireLiteral (mj_rm d 1 6) (mj_Fi (mj_qV g q) (mj_qX g qx) 1 6) false 1 6 0 [(0, .ref (k0)), (1, .int (x1))] [] g M
  refine mg_iload_n dX9_requireLiteral_0 rfl 1 rfl ?_
  refine mg_if_lt (tgt := 17) dX9_requireLiteral_1 (by decide) (fun hc => ?_) (fun hc => ?_)
  · replace h := h.1 hc
    exact mg_throwW (ti := 9) rfl rfl xw_IO rfl dX9_requireLiteral_17 dX9_requireLiteral_20 dX9_requireLiteral_21 dX9_requireLiteral_24 dX9_requireLiteral_27 (Nat.le_trans (Nat.le_of_ble_eq_true rfl) hd) (Nat.le_of_ble_eq_true rfl) (Nat.le_of_ble_eq_true rfl) ⟨rfl, h⟩
  · replace h := h.2 hc
    refine mg_iload_n dX9_requireLiteral_4 rfl 1 rfl ?_
    refine mg_iconst (v := 2) dX9_requireLiteral_5 (by decide) ?_
    refine mg_aload_n dX9_requireLiteral_6 rfl 0 rfl ?_
    refine mg_getR (j := 0) dX9_requireLiteral_7 kc_9 (Nat.le_of_ble_eq_true rfl) wd_231 rfl rfl h0.1.1 h0.1.2 h0.2.1.1 ?_
    refine mg_getI (j := 0) dX9_requireLiteral_10 kc_6 (Nat.le_of_ble_eq_true rfl) wd_65 rfl rfl h0.2.1.2.1.1 h0.2.1.2.1.2 rfl ?_
    refine mg_imul dX9_requireLiteral_13 ?_
    refine mg_icmp_lt (tgt := 28) dX9_requireLiteral_14 (by decide) (fun hc => ?_) (fun hc => ?_)
    · replace h := h.1 hc
      exact mex_v dX9_requireLiteral_28 rfl h
    · replace h := h.2 hc
      exact mg_throwW (ti := 9) rfl rfl xw_IO rfl dX9_requireLiteral_17 dX9_requireLiteral_20 dX9_requireLiteral_21 dX9_requireLiteral_24 dX9_requireLiteral_27 (Nat.le_trans (Nat.le_of_ble_eq_true rfl) hd) (Nat.le_of_ble_eq_true rfl) (Nat.le_of_ble_eq_true rfl) ⟨rfl, h⟩
theorem dX9_occurrences_0 : decode cX9_occurrences 0 = .ok (.aload_n 0, 1) := by decide +kernel
theorem dX9_occurrences_1 : decode cX9_occurrences 1 = .ok (.iload_n 1, 1) := by decide +kernel
theorem dX9_occurrences_2 : decode cX9_occurrences 2 = .ok (.invokevirtual 141, 3) := by decide +kernel
theorem dX9_occurrences_5 : decode cX9_occurrences 5 = .ok (.aload_n 0, 1) := by decide +kernel
theorem dX9_occurrences_6 : decode cX9_occurrences 6 = .ok (.getfield 12, 3) := by decide +kernel
theorem dX9_occurrences_9 : decode cX9_occurrences 9 = .ok (.getfield 119, 3) := by decide +kernel
theorem dX9_occurrences_12 : decode cX9_occurrences 12 = .ok (.iload_n 1, 1) := by decide +kernel
theorem dX9_occurrences_13 : decode cX9_occurrences 13 = .ok (.invokevirtual 144, 3) := by decide +kernel
theorem dX9_occurrences_16 : decode cX9_occurrences 16 = .ok (.ireturn, 1) := by decide +kernel
abbrev mtX9_occurrences : mj_T := (yX9_occurrences.cls, cX9_occurrences, 2, (some .int), mj_no, yX9_occurrences.name)
abbrev kX9_occurrences (k0 : Nat) (x1 : Int32) (g : mj_S) (M : mj_M) (q : Int32 → mj_M → Prop) (qx : String → mj_M → Prop) : Prop := mj_CIX yX9_occurrences (.code yX9_occurrences cX9_occurrences 2 (some .int)) 8 1 6 [.ref (k0), .int (x1)] g M q qx
theorem kiX9_occurrences : mj_cV yX9_occurrences cX9_occurrences 2 (some .int) 1 := ⟨⟨wd_872, wd_873, wd_1, wd_874⟩, ⟨by decide +kernel, by decide +kernel, by decide +kernel⟩, Nat.le_of_ble_eq_true rfl⟩
theorem eX9_occurrences {k0 : Nat} {x1 : Int32} {g : mj_S} {M : mj_M} {q : Int32 → mj_M → Prop} {qx : String → mj_M → Prop} (h0 : is9 g k0) (h : ∃ (q1 : mj_M → Prop) (qx1 : String → mj_M → Prop), kX9_requireLiteral (k0) (x1) g (M) q1 qx1 ∧ (∀ (X : String) (M' : mj_M), qx1 X M' → qx X M') ∧ ∀ (M1 : mj_M), q1 M1 → (∃ (q2 : Int32 → mj_M → Prop), kX0_countContaining (k0 + 1 + 1) (x1) g (M1) q2 ∧ ∀ (v2 : Int32) (M2 : mj_M), q2 v2 M2 → (q (v2) (M2)))) : kX9_occurrences (k0) (x1) g M q qx := by
  intro d hd; refine mj_enter (by decide +kernel) (Nat.le_of_ble_eq_true rfl) ?_
  show mj_G mtX9_occurrences (mj_rm d 1 6) (mj_Fi (mj_qI g q) (mj_qX g qx) 1 6) false 1 6 0 [(0, .ref (k0)), (1, .int (x1))] [] g M
  refine mg_aload_n dX9_occurrences_0 rfl 0 rfl ?_
  refine mg_iload_n dX9_occurrences_1 rfl 1 rfl ?_
  obtain ⟨q1, qx1, hC, hkx, hk⟩ := h
  refine mx_Vv [.int (x1)] [] dX9_occurrences_2 wd_875 kiX9_requireLiteral (Nat.le_of_ble_eq_true rfl) h0.1.1 h0.1.2 rfl (Nat.le_trans (Nat.le_of_ble_eq_true rfl) hd) ⟨Nat.le_of_ble_eq_true rfl, Nat.le_of_ble_eq_true rfl⟩ rfl rfl hC hkx (fun M1 hq => ?_)
  replace h := hk M1 hq
  refine mg_aload_n dX9_occurrences_5 rfl 0 rfl ?_
  refine mg_getR (j := 0) dX9_occurrences_6 kc_9 (Nat.le_of_ble_eq_true rfl) wd_231 rfl rfl h0.1.1 h0.1.2 h0.2.1.1 ?_
  refine mg_getR (j := 3) dX9_occurrences_9 kc_6 (Nat.le_of_ble_eq_true rfl) wd_75 rfl rfl h0.2.1.2.1.1 h0.2.1.2.1.2 h0.2.1.2.2.1.1 ?_
  refine mg_iload_n dX9_occurrences_12 rfl 1 rfl ?_
  obtain ⟨q2, hC, hk⟩ := h
  refine mc_Vi [.int (x1)] [] dX9_occurrences_13 wd_880 kiX0_countContaining (Nat.le_of_ble_eq_true rfl) h0.2.1.2.2.1.2.1.1 h0.2.1.2.2.1.2.1.2 rfl (Nat.le_trans (Nat.le_of_ble_eq_true rfl) hd) hC (fun v2 M2 hq => ?_)
  replace h := hk v2 M2 hq
  exact mex_i dX9_occurrences_16 rfl h
theorem dX9_append_0 : decode cX9_append 0 = .ok (.iload_n 1, 1) := by decide +kernel
theorem dX9_append_1 : decode cX9_append 1 = .ok (.ifCond .lt 9, 3) := by decide +kernel
theorem dX9_append_4 : decode cX9_append 4 = .ok (.iload_n 1, 1) := by decide +kernel
theorem dX9_append_5 : decode cX9_append 5 = .ok (.bipush 127, 2) := by decide +kernel
theorem dX9_append_7 : decode cX9_append 7 = .ok (.if_icmp .le 13, 3) := by decide +kernel
theorem dX9_append_10 : decode cX9_append 10 = .ok (.new 55, 3) := by decide +kernel
theorem dX9_append_13 : decode cX9_append 13 = .ok (.dup, 1) := by decide +kernel
theorem dX9_append_14 : decode cX9_append 14 = .ok (.ldc 147, 2) := by decide +kernel
theorem dX9_append_16 : decode cX9_append 16 = .ok (.invokespecial 59, 3) := by decide +kernel
theorem dX9_append_19 : decode cX9_append 19 = .ok (.athrow, 1) := by decide +kernel
theorem dX9_append_20 : decode cX9_append 20 = .ok (.aload_n 0, 1) := by decide +kernel
theorem dX9_append_21 : decode cX9_append 21 = .ok (.getfield 30, 3) := by decide +kernel
theorem dX9_append_24 : decode cX9_append 24 = .ok (.invokevirtual 149, 3) := by decide +kernel
theorem dX9_append_27 : decode cX9_append 27 = .ok (.ifCond .eq 13, 3) := by decide +kernel
theorem dX9_append_30 : decode cX9_append 30 = .ok (.new 152, 3) := by decide +kernel
theorem dX9_append_33 : decode cX9_append 33 = .ok (.dup, 1) := by decide +kernel
theorem dX9_append_34 : decode cX9_append 34 = .ok (.ldc 154, 2) := by decide +kernel
theorem dX9_append_36 : decode cX9_append 36 = .ok (.invokespecial 156, 3) := by decide +kernel
theorem dX9_append_39 : decode cX9_append 39 = .ok (.athrow, 1) := by decide +kernel
theorem dX9_append_40 : decode cX9_append 40 = .ok (.aload_n 0, 1) := by decide +kernel
theorem dX9_append_41 : decode cX9_append 41 = .ok (.getfield 30, 3) := by decide +kernel
theorem dX9_append_44 : decode cX9_append 44 = .ok (.iload_n 1, 1) := by decide +kernel
theorem dX9_append_45 : decode cX9_append 45 = .ok (.invokevirtual 157, 3) := by decide +kernel
theorem dX9_append_48 : decode cX9_append 48 = .ok (.aload_n 0, 1) := by decide +kernel
theorem dX9_append_49 : decode cX9_append 49 = .ok (.getfield 30, 3) := by decide +kernel
theorem dX9_append_52 : decode cX9_append 52 = .ok (.invokevirtual 160, 3) := by decide +kernel
theorem dX9_append_55 : decode cX9_append 55 = .ok (.ireturn, 1) := by decide +kernel
abbrev mtX9_append : mj_T := (yX9_append.cls, cX9_append, 2, (some .int), mj_no, yX9_append.name)
abbrev kX9_append (k0 : Nat) (x1 : Int32) (g : mj_S) (M : mj_M) (q : Int32 → mj_M → Prop) (qx : String → mj_M → Prop) : Prop := mj_CIX yX9_append (.code yX9_append cX9_append 2 (some .int)) 7 1 6 [.ref (k0), .int (x1)] g M q qx
theorem kiX9_append : mj_cV yX9_append cX9_append 2 (some .int) 1 := ⟨⟨wd_885, wd_886, wd_1, wd_887⟩, ⟨by decide +kernel, by decide +kernel, by decide +kernel⟩, Nat.le_of_ble_eq_true rfl⟩
theorem eX9_append {k0 : Nat} {x1 : Int32} {g : mj_S} {M : mj_M} {q : Int32 → mj_M → Prop} {qx : String → mj_M → Prop} (h0 : is9 g k0) (h : ((x1 : Int32) < 0 → qx mj_IA (M)) ∧ (¬ (x1 : Int32) < 0 → ((x1 : Int32) ≤ (127 : Int32) → ∃ (q1 : Int32 → mj_M → Prop), kX8_isFull (k0 + 82) g (M) q1 ∧ ∀ (v1 : Int32) (M1 : mj_M), q1 v1 M1 → (((v1 : Int32) = 0 → ∃ (q2 : mj_M → Prop), kX8_addByte (k0 + 82) (x1) g (M1) q2 ∧ ∀ (M2 : mj_M), q2 M2 → (∃ (q3 : Int32 → mj_M → Prop), kX8_size (k0 + 82) g (M2) q3 ∧ ∀ (v3 : Int32) (M3 : mj_M), q3 v3 M3 → (q (v3) (M3)))) ∧ (¬ (v1 : Int32) = 0 → qx mj_IS (M1)))) ∧ (¬ (x1 : Int32) ≤ (127 : Int32) → qx mj_IA (M)))) : kX9_append (k0) (x1) g M q qx := by
  intro d hd; refine mj_enter (by decide +kernel) (Nat.le_of_ble_eq_true rfl) ?_
  show mj_G mtX9_append (mj_rm d 1 6) (mj_Fi (mj_qI g q) (mj_qX g qx) 1 6) false 1 6 0 [(0, .ref (k0)), (1, .int (x1))] [] g M
  refine mg_iload_n dX9_append_0 rfl 1 rfl ?_
  refine mg_if_lt (tgt := 10) dX9_append_1 (by decide) (fun hc => ?_) (fun hc => ?_)
  · replace h := h.1 hc
    exact mg_throw (ti := 10) rfl rfl xw_IA rfl dX9_append_10 dX9_append_13 dX9_append_14 dX9_append_16 dX9_append_19 (Nat.le_trans (Nat.le_of_ble_eq_true rfl) hd) (Nat.le_of_ble_eq_true rfl) (Nat.le_of_ble_eq_true rfl) ⟨rfl, h⟩
  · replace h := h.2 hc
    refine mg_iload_n dX9_append_4 rfl 1 rfl ?_
    refine mg_bipush (v := 127) dX9_append_5 (by decide) ?_
    refine mg_icmp_le (tgt := 20) dX9_append_7 (by decide) (fun hc => ?_) (fun hc => ?_)
    · replace h := h.1 hc
      refine mg_aload_n dX9_append_20 rfl 0 rfl ?_
      refine mg_getR (j := 4) dX9_append_21 kc_9 (Nat.le_of_ble_eq_true rfl) wd_235 rfl rfl h0.1.1 h0.1.2 h0.2.2.2.2.1.1 ?_
      obtain ⟨q1, hC, hk⟩ := h
      refine mc_Vi [] [] dX9_append_24 wd_889 kiX8_isFull (Nat.le_of_ble_eq_true rfl) h0.2.2.2.2.1.2.1.1 h0.2.2.2.2.1.2.1.2 rfl (Nat.le_trans (Nat.le_of_ble_eq_true rfl) hd) hC (fun v1 M1 hq => ?_)
      replace h := hk v1 M1 hq
      refine mg_if_eq (tgt := 40) dX9_append_27 (by decide) (fun hc => ?_) (fun hc => ?_)
      · replace h := h.1 hc
        refine mg_aload_n dX9_append_40 rfl 0 rfl ?_
        refine mg_getR (j := 4) dX9_append_41 kc_9 (Nat.le_of_ble_eq_true rfl) wd_235 rfl rfl h0.1.1 h0.1.2 h0.2.2.2.2.1.1 ?_
        refine mg_iload_n dX9_append_44 rfl 1 rfl ?_
        obtain ⟨q2, hC, hk⟩ := h
        refine mc_Vv [.int (x1)] [] dX9_append_45 wd_894 kiX8_addByte (Nat.le_of_ble_eq_true rfl) h0.2.2.2.2.1.2.1.1 h0.2.2.2.2.1.2.1.2 rfl (Nat.le_trans (Nat.le_of_ble_eq_true rfl) hd) hC (fun M2 hq => ?_)
        replace h := hk M2 hq
        refine mg_aload_n dX9_append_48 rfl 0 rfl ?_
        refine mg_getR (j := 4) dX9_append_49 kc_9 (Nat.le_of_ble_eq_true rfl) wd_235 rfl rfl h0.1.1 h0.1.2 h0.2.2.2.2.1.1 ?_
        obtain ⟨q3, hC, hk⟩ := h
        refine mc_Vi [] [] dX9_append_52 wd_298 kiX8_size (Nat.le_of_ble_eq_true rfl) h0.2.2.2.2.1.2.1.1 h0.2.2.2.2.1.2.1.2 rfl (Nat.le_trans (Nat.le_of_ble_eq_true rfl) hd) hC (fun v3 M3 hq => ?_)
        replace h := hk v3 M3 hq
        exact mex_i dX9_append_55 rfl h
      · replace h := h.2 hc
        exact mg_throw (ti := 11) rfl rfl xw_IS rfl dX9_append_30 dX9_append_33 dX9_append_34 dX9_append_36 dX9_append_39 (Nat.le_trans (Nat.le_of_ble_eq_true rfl) hd) (Nat.le_of_ble_eq_true rfl) (Nat.le_of_ble_eq_true rfl) ⟨rfl, h⟩
    · replace h := h.2 hc
      exact mg_throw (ti := 10) rfl rfl xw_IA rfl dX9_append_10 dX9_append_13 dX9_append_14 dX9_append_16 dX9_append_19 (Nat.le_trans (Nat.le_of_ble_eq_true rfl) hd) (Nat.le_of_ble_eq_true rfl) (Nat.le_of_ble_eq_true rfl) ⟨rfl, h⟩
theorem dX9_clearText_0 : decode cX9_clearText 0 = .ok (.aload_n 0, 1) := by decide +kernel
theorem dX9_clearText_1 : decode cX9_clearText 1 = .ok (.getfield 30, 3) := by decide +kernel
theorem dX9_clearText_4 : decode cX9_clearText 4 = .ok (.invokevirtual 160, 3) := by decide +kernel
theorem dX9_clearText_7 : decode cX9_clearText 7 = .ok (.istore_n 1, 1) := by decide +kernel
theorem dX9_clearText_8 : decode cX9_clearText 8 = .ok (.aload_n 0, 1) := by decide +kernel
theorem dX9_clearText_9 : decode cX9_clearText 9 = .ok (.getfield 30, 3) := by decide +kernel
theorem dX9_clearText_12 : decode cX9_clearText 12 = .ok (.invokevirtual 161, 3) := by decide +kernel
theorem dX9_clearText_15 : decode cX9_clearText 15 = .ok (.iload_n 1, 1) := by decide +kernel
theorem dX9_clearText_16 : decode cX9_clearText 16 = .ok (.ireturn, 1) := by decide +kernel
abbrev mtX9_clearText : mj_T := (yX9_clearText.cls, cX9_clearText, 2, (some .int), mj_no, yX9_clearText.name)
abbrev kX9_clearText (k0 : Nat) (g : mj_S) (M : mj_M) (q : Int32 → mj_M → Prop) : Prop := mj_CI yX9_clearText (.code yX9_clearText cX9_clearText 2 (some .int)) 1 [.ref (k0)] g M q
theorem kiX9_clearText : mj_cV yX9_clearText cX9_clearText 2 (some .int) 0 := ⟨⟨wd_295, wd_296, wd_1, wd_297⟩, ⟨by decide +kernel, by decide +kernel, by decide +kernel⟩, Nat.le_of_ble_eq_true rfl⟩
theorem eX9_clearText {k0 : Nat} {g : mj_S} {M : mj_M} {q : Int32 → mj_M → Prop} (h0 : is9 g k0) (h : ∃ (q1 : Int32 → mj_M → Prop), kX8_size (k0 + 82) g (M) q1 ∧ ∀ (v1 : Int32) (M1 : mj_M), q1 v1 M1 → (∃ (q2 : mj_M → Prop), kX8_clear (k0 + 82) g (M1) q2 ∧ ∀ (M2 : mj_M), q2 M2 → (q (v1) (M2)))) : kX9_clearText (k0) g M q := by
  intro d hd; refine mj_enter (by decide +kernel) (Nat.le_of_ble_eq_true rfl) ?_
  generalize (false : Bool) = ex
  show mj_G mtX9_clearText (mj_rm d 0 0) (mj_Fi (mj_qI g q) mj_x0 0 0) ex 0 0 0 [(0, .ref (k0))] [] g M
  refine mg_aload_n dX9_clearText_0 rfl 0 rfl ?_
  refine mg_getR (j := 4) dX9_clearText_1 kc_9 (Nat.le_of_ble_eq_true rfl) wd_235 rfl rfl h0.1.1 h0.1.2 h0.2.2.2.2.1.1 ?_
  obtain ⟨q1, hC, hk⟩ := h
  refine mc_Vi [] [] dX9_clearText_4 wd_298 kiX8_size (Nat.le_of_ble_eq_true rfl) h0.2.2.2.2.1.2.1.1 h0.2.2.2.2.1.2.1.2 rfl (Nat.le_trans (Nat.le_of_ble_eq_true rfl) hd) hC (fun v1 M1 hq => ?_)
  replace h := hk v1 M1 hq
  refine mg_istore_n (ls' := [(1, .int (v1)), (0, .ref (k0))]) dX9_clearText_7 rfl (Nat.le_of_ble_eq_true rfl) rfl ?_
  refine mg_aload_n dX9_clearText_8 rfl 1 rfl ?_
  refine mg_getR (j := 4) dX9_clearText_9 kc_9 (Nat.le_of_ble_eq_true rfl) wd_235 rfl rfl h0.1.1 h0.1.2 h0.2.2.2.2.1.1 ?_
  obtain ⟨q2, hC, hk⟩ := h
  refine mc_Vv [] [] dX9_clearText_12 wd_302 kiX8_clear (Nat.le_of_ble_eq_true rfl) h0.2.2.2.2.1.2.1.1 h0.2.2.2.2.1.2.1.2 rfl (Nat.le_trans (Nat.le_of_ble_eq_true rfl) hd) hC (fun M2 hq => ?_)
  replace h := hk M2 hq
  refine mg_iload_n dX9_clearText_15 rfl 0 rfl ?_
  exact me_i dX9_clearText_16 rfl h
theorem dX9_readText_0 : decode cX9_readText 0 = .ok (.aload_n 0, 1) := by decide +kernel
theorem dX9_readText_1 : decode cX9_readText 1 = .ok (.getfield 37, 3) := by decide +kernel
theorem dX9_readText_4 : decode cX9_readText 4 = .ok (.aload_n 0, 1) := by decide +kernel
theorem dX9_readText_5 : decode cX9_readText 5 = .ok (.getfield 12, 3) := by decide +kernel
theorem dX9_readText_8 : decode cX9_readText 8 = .ok (.getfield 62, 3) := by decide +kernel
theorem dX9_readText_11 : decode cX9_readText 11 = .ok (.invokevirtual 361, 3) := by decide +kernel
theorem dX9_readText_14 : decode cX9_readText 14 = .ok (.iconst 0, 1) := by decide +kernel
theorem dX9_readText_15 : decode cX9_readText 15 = .ok (.istore_n 1, 1) := by decide +kernel
theorem dX9_readText_16 : decode cX9_readText 16 = .ok (.iload_n 1, 1) := by decide +kernel
theorem dX9_readText_17 : decode cX9_readText 17 = .ok (.aload_n 0, 1) := by decide +kernel
theorem dX9_readText_18 : decode cX9_readText 18 = .ok (.getfield 30, 3) := by decide +kernel
theorem dX9_readText_21 : decode cX9_readText 21 = .ok (.invokevirtual 160, 3) := by decide +kernel
theorem dX9_readText_24 : decode cX9_readText 24 = .ok (.if_icmp .ge 29, 3) := by decide +kernel
theorem dX9_readText_27 : decode cX9_readText 27 = .ok (.aload_n 0, 1) := by decide +kernel
theorem dX9_readText_28 : decode cX9_readText 28 = .ok (.getfield 37, 3) := by decide +kernel
theorem dX9_readText_31 : decode cX9_readText 31 = .ok (.aload_n 0, 1) := by decide +kernel
theorem dX9_readText_32 : decode cX9_readText 32 = .ok (.getfield 30, 3) := by decide +kernel
theorem dX9_readText_35 : decode cX9_readText 35 = .ok (.iload_n 1, 1) := by decide +kernel
theorem dX9_readText_36 : decode cX9_readText 36 = .ok (.invokevirtual 363, 3) := by decide +kernel
theorem dX9_readText_39 : decode cX9_readText 39 = .ok (.invokevirtual 364, 3) := by decide +kernel
theorem dX9_readText_42 : decode cX9_readText 42 = .ok (.ifCond .ne 5, 3) := by decide +kernel
theorem dX9_readText_45 : decode cX9_readText 45 = .ok (.iload_n 1, 1) := by decide +kernel
theorem dX9_readText_46 : decode cX9_readText 46 = .ok (.ireturn, 1) := by decide +kernel
theorem dX9_readText_47 : decode cX9_readText 47 = .ok (.iinc 1 1, 3) := by decide +kernel
theorem dX9_readText_50 : decode cX9_readText 50 = .ok (.goto (-34), 3) := by decide +kernel
theorem dX9_readText_53 : decode cX9_readText 53 = .ok (.aload_n 0, 1) := by decide +kernel
theorem dX9_readText_54 : decode cX9_readText 54 = .ok (.getfield 37, 3) := by decide +kernel
theorem dX9_readText_57 : decode cX9_readText 57 = .ok (.invokevirtual 367, 3) := by decide +kernel
theorem dX9_readText_60 : decode cX9_readText 60 = .ok (.ifCond .eq 7, 3) := by decide +kernel
theorem dX9_readText_63 : decode cX9_readText 63 = .ok (.iconst (-1), 1) := by decide +kernel
theorem dX9_readText_64 : decode cX9_readText 64 = .ok (.goto 10, 3) := by decide +kernel
theorem dX9_readText_67 : decode cX9_readText 67 = .ok (.aload_n 0, 1) := by decide +kernel
theorem dX9_readText_68 : decode cX9_readText 68 = .ok (.getfield 30, 3) := by decide +kernel
theorem dX9_readText_71 : decode cX9_readText 71 = .ok (.invokevirtual 160, 3) := by decide +kernel
theorem dX9_readText_74 : decode cX9_readText 74 = .ok (.ireturn, 1) := by decide +kernel
abbrev mtX9_readText : mj_T := (yX9_readText.cls, cX9_readText, 2, (some .int), mj_no, yX9_readText.name)
abbrev kX9_readText (k0 : Nat) (g : mj_S) (M : mj_M) (q : Int32 → mj_M → Prop) : Prop := mj_CI yX9_readText (.code yX9_readText cX9_readText 2 (some .int)) 4 [.ref (k0)] g M q
theorem kiX9_readText : mj_cV yX9_readText cX9_readText 2 (some .int) 0 := ⟨⟨wd_907, wp_31, wd_1, wd_908⟩, ⟨by decide +kernel, by decide +kernel, by decide +kernel⟩, Nat.le_of_ble_eq_true rfl⟩
def LX9_readText_16 (k0 : Nat) (x1 : Int32) (g : mj_S) (M : mj_M) (q : Int32 → mj_M → Prop) : Prop := ∀ d, 4 ≤ d → ∀ ex : Bool, mj_G mtX9_readText (mj_rm d 0 0) (mj_Fi (mj_qI g q) mj_x0 0 0) ex 0 0 16 [(0, .ref (k0)), (1, .int (x1))] [] g M
theorem eX9_readText {k0 : Nat} {g : mj_S} {M : mj_M} {q : Int32 → mj_M → Prop} (h0 : is9 g k0) (h : ∃ (q1 : mj_M → Prop), kX1_begin (k0 + 84) ((M).1 (k0 + 1) 0) g (M) q1 ∧ ∀ (M1 : mj_M), q1 M1 → (LX9_readText_16 k0 (0) g (M1) q)) : kX9_readText (k0) g M q := by
  intro d hd; refine mj_enter (by decide +kernel) (Nat.le_of_ble_eq_true rfl) ?_
  generalize (false : Bool) = ex
  show mj_G mtX9_readText (mj_rm d 0 0) (mj_Fi (mj_qI g q) mj_x0 0 0) ex 0 0 0 [(0, .ref (k0))] [] g M
  refine mg_aload_n dX9_readText_0 rfl 0 rfl ?_
  refine mg_getR (j := 5) dX9_readText_1 kc_9 (Nat.le_of_ble_eq_true rfl) wd_236 rfl rfl h0.1.1 h0.1.2 h0.2.2.2.2.2.1.1 ?_
  refine mg_aload_n dX9_readText_4 rfl 0 rfl ?_
  refine mg_getR (j := 0) dX9_readText_5 kc_9 (Nat.le_of_ble_eq_true rfl) wd_231 rfl rfl h0.1.1 h0.1.2 h0.2.1.1 ?_
  refine mg_getI (j := 0) dX9_readText_8 kc_6 (Nat.le_of_ble_eq_true rfl) wd_65 rfl rfl h0.2.1.2.1.1 h0.2.1.2.1.2 rfl ?_
  obtain ⟨q1, hC, hk⟩ := h
  refine mc_Vv [.int ((M).1 (k0 + 1) 0)] [] dX9_readText_11 wd_909 kiX1_begin (Nat.le_of_ble_eq_true rfl) h0.2.2.2.2.2.1.2.1.1 h0.2.2.2.2.2.1.2.1.2 rfl (Nat.le_trans (Nat.le_of_ble_eq_true rfl) hd) hC (fun M1 hq => ?_)
  replace h := hk M1 hq
  refine mg_iconst (v := 0) dX9_readText_14 (by decide) ?_
  refine mg_istore_n (ls' := [(1, .int (0)), (0, .ref (k0))]) dX9_readText_15 rfl (Nat.le_of_ble_eq_true rfl) rfl ?_
  exact mg_pick [1, 0] rfl (h d hd ex)
theorem bX9_readText_16 {k0 : Nat} {x1 : Int32} {g : mj_S} {M : mj_M} {q : Int32 → mj_M → Prop} (h0 : is9 g k0) (h : ∃ (q1 : Int32 → mj_M → Prop), kX8_size (k0 + 82) g (M) q1 ∧ ∀ (v1 : Int32) (M1 : mj_M), q1 v1 M1 → (((v1 : Int32) ≤ (x1) → ∃ (q2 : Int32 → mj_M → Prop), kX1_isComplete (k0 + 84) g (M1) q2 ∧ ∀ (v2 : Int32) (M2 : mj_M), q2 v2 M2 → (((v2 : Int32) = 0 → ∃ (q3 : Int32 → mj_M → Prop), kX8_size (k0 + 82) g (M2) q3 ∧ ∀ (v3 : Int32) (M3 : mj_M), q3 v3 M3 → (q (v3) (M3))) ∧ (¬ (v2 : Int32) = 0 → q ((-1)) (M2)))) ∧ (¬ (v1 : Int32) ≤ (x1) → ∃ (q4 : Int32 → mj_M → Prop), kX8_at (k0 + 82) (x1) g (M1) q4 ∧ ∀ (v4 : Int32) (M4 : mj_M), q4 v4 M4 → (∃ (q5 : Int32 → mj_M → Prop), kX1_takes (k0 + 84) (v4) g (M4) q5 ∧ ∀ (v5 : Int32) (M5 : mj_M), q5 v5 M5 → ((¬ (v5 : Int32) = 0 → LX9_readText_16 k0 (x1 + 1) g (M5) q) ∧ ((v5 : Int32) = 0 → q (x1) (M5))))))) : LX9_readText_16 k0 x1 g M q := by
  intro d hd ex
  refine mg_iload_n dX9_readText_16 rfl 1 rfl ?_
  refine mg_aload_n dX9_readText_17 rfl 0 rfl ?_
  refine mg_getR (j := 4) dX9_readText_18 kc_9 (Nat.le_of_ble_eq_true rfl) wd_235 rfl rfl h0.1.1 h0.1.2 h0.2.2.2.2.1.1 ?_
  obtain ⟨q1, hC, hk⟩ := h
  refine mc_Vi [] [.int (x1)] dX9_readText_21 wd_298 kiX8_size (Nat.le_of_ble_eq_true rfl) h0.2.2.2.2.1.2.1.1 h0.2.2.2.2.1.2.1.2 rfl (Nat.le_trans (Nat.le_of_ble_eq_true rfl) hd) hC (fun v1 M1 hq => ?_)
  replace h := hk v1 M1 hq
  refine mg_icmp_ge (tgt := 53) dX9_readText_24 (by decide) (fun hc => ?_) (fun hc => ?_)
  · replace h := h.1 hc
    refine mg_aload_n dX9_readText_53 rfl 0 rfl ?_
    refine mg_getR (j := 5) dX9_readText_54 kc_9 (Nat.le_of_ble_eq_true rfl) wd_236 rfl rfl h0.1.1 h0.1.2 h0.2.2.2.2.2.1.1 ?_
    obtain ⟨q2, hC, hk⟩ := h
    refine mc_Vi [] [] dX9_readText_57 wd_944 kiX1_isComplete (Nat.le_of_ble_eq_true rfl) h0.2.2.2.2.2.1.2.1.1 h0.2.2.2.2.2.1.2.1.2 rfl (Nat.le_trans (Nat.le_of_ble_eq_true rfl) hd) hC (fun v2 M2 hq => ?_)
    replace h := hk v2 M2 hq
    refine mg_if_eq (tgt := 67) dX9_readText_60 (by decide) (fun hc => ?_) (fun hc => ?_)
    · replace h := h.1 hc
      refine mg_aload_n dX9_readText_67 rfl 0 rfl ?_
      refine mg_getR (j := 4) dX9_readText_68 kc_9 (Nat.le_of_ble_eq_true rfl) wd_235 rfl rfl h0.1.1 h0.1.2 h0.2.2.2.2.1.1 ?_
      obtain ⟨q3, hC, hk⟩ := h
      refine mc_Vi [] [] dX9_readText_71 wd_298 kiX8_size (Nat.le_of_ble_eq_true rfl) h0.2.2.2.2.1.2.1.1 h0.2.2.2.2.1.2.1.2 rfl (Nat.le_trans (Nat.le_of_ble_eq_true rfl) hd) hC (fun v3 M3 hq => ?_)
      replace h := hk v3 M3 hq
      exact me_i dX9_readText_74 rfl h
    · replace h := h.2 hc
      refine mg_iconst (v := (-1)) dX9_readText_63 (by decide) ?_
      refine mg_goto (tgt := 74) dX9_readText_64 (by decide) ?_
      exact me_i dX9_readText_74 rfl h
  · replace h := h.2 hc
    refine mg_aload_n dX9_readText_27 rfl 0 rfl ?_
    refine mg_getR (j := 5) dX9_readText_28 kc_9 (Nat.le_of_ble_eq_true rfl) wd_236 rfl rfl h0.1.1 h0.1.2 h0.2.2.2.2.2.1.1 ?_
    refine mg_aload_n dX9_readText_31 rfl 0 rfl ?_
    refine mg_getR (j := 4) dX9_readText_32 kc_9 (Nat.le_of_ble_eq_true rfl) wd_235 rfl rfl h0.1.1 h0.1.2 h0.2.2.2.2.1.1 ?_
    refine mg_iload_n dX9_readText_35 rfl 1 rfl ?_
    obtain ⟨q4, hC, hk⟩ := h
    refine mc_Vi [.int (x1)] [.ref (k0 + 84)] dX9_readText_36 wd_914 kiX8_at (Nat.le_of_ble_eq_true rfl) h0.2.2.2.2.1.2.1.1 h0.2.2.2.2.1.2.1.2 rfl (Nat.le_trans (Nat.le_of_ble_eq_true rfl) hd) hC (fun v4 M4 hq => ?_)
    replace h := hk v4 M4 hq
    obtain ⟨q5, hC, hk⟩ := h
    refine mc_Vi [.int (v4)] [] dX9_readText_39 wd_918 kiX1_takes (Nat.le_of_ble_eq_true rfl) h0.2.2.2.2.2.1.2.1.1 h0.2.2.2.2.2.1.2.1.2 rfl (Nat.le_trans (Nat.le_of_ble_eq_true rfl) hd) hC (fun v5 M5 hq => ?_)
    replace h := hk v5 M5 hq
    refine mg_if_ne (tgt := 47) dX9_readText_42 (by decide) (fun hc => ?_) (fun hc => ?_)
    · replace h := h.1 hc
      refine mg_iinc (v := x1 + 1) (ls' := [(1, .int (x1 + 1)), (0, .ref (k0))]) dX9_readText_47 1 rfl rfl (Nat.le_of_ble_eq_true rfl) rfl ?_
      refine mg_goto (tgt := 16) dX9_readText_50 (by decide) ?_
      exact mg_pick [1, 0] rfl (h d hd ex)
    · replace h := h.2 hc
      refine mg_iload_n dX9_readText_45 rfl 1 rfl ?_
      exact me_i dX9_readText_46 rfl h
theorem dX9_readClauses_0 : decode cX9_readClauses 0 = .ok (.aload_n 0, 1) := by decide +kernel
theorem dX9_readClauses_1 : decode cX9_readClauses 1 = .ok (.iconst 0, 1) := by decide +kernel
theorem dX9_readClauses_2 : decode cX9_readClauses 2 = .ok (.invokevirtual 78, 3) := by decide +kernel
theorem dX9_readClauses_5 : decode cX9_readClauses 5 = .ok (.aload_n 0, 1) := by decide +kernel
theorem dX9_readClauses_6 : decode cX9_readClauses 6 = .ok (.invokevirtual 164, 3) := by decide +kernel
theorem dX9_readClauses_9 : decode cX9_readClauses 9 = .ok (.istore_n 1, 1) := by decide +kernel
theorem dX9_readClauses_10 : decode cX9_readClauses 10 = .ok (.iload_n 1, 1) := by decide +kernel
theorem dX9_readClauses_11 : decode cX9_readClauses 11 = .ok (.iconst (-1), 1) := by decide +kernel
theorem dX9_readClauses_12 : decode cX9_readClauses 12 = .ok (.if_icmp .eq 7, 3) := by decide +kernel
theorem dX9_readClauses_15 : decode cX9_readClauses 15 = .ok (.iconst (-1), 1) := by decide +kernel
theorem dX9_readClauses_16 : decode cX9_readClauses 16 = .ok (.iload_n 1, 1) := by decide +kernel
theorem dX9_readClauses_17 : decode cX9_readClauses 17 = .ok (.isub, 1) := by decide +kernel
theorem dX9_readClauses_18 : decode cX9_readClauses 18 = .ok (.ireturn, 1) := by decide +kernel
theorem dX9_readClauses_19 : decode cX9_readClauses 19 = .ok (.aload_n 0, 1) := by decide +kernel
theorem dX9_readClauses_20 : decode cX9_readClauses 20 = .ok (.getfield 37, 3) := by decide +kernel
theorem dX9_readClauses_23 : decode cX9_readClauses 23 = .ok (.getfield 167, 3) := by decide +kernel
theorem dX9_readClauses_26 : decode cX9_readClauses 26 = .ok (.astore_n 2, 1) := by decide +kernel
theorem dX9_readClauses_27 : decode cX9_readClauses 27 = .ok (.aload_n 0, 1) := by decide +kernel
theorem dX9_readClauses_28 : decode cX9_readClauses 28 = .ok (.aload_n 2, 1) := by decide +kernel
theorem dX9_readClauses_29 : decode cX9_readClauses 29 = .ok (.invokevirtual 92, 3) := by decide +kernel
theorem dX9_readClauses_32 : decode cX9_readClauses 32 = .ok (.invokevirtual 78, 3) := by decide +kernel
theorem dX9_readClauses_35 : decode cX9_readClauses 35 = .ok (.aload_n 0, 1) := by decide +kernel
theorem dX9_readClauses_36 : decode cX9_readClauses 36 = .ok (.invokevirtual 65, 3) := by decide +kernel
theorem dX9_readClauses_39 : decode cX9_readClauses 39 = .ok (.iconst 0, 1) := by decide +kernel
theorem dX9_readClauses_40 : decode cX9_readClauses 40 = .ok (.istore_n 3, 1) := by decide +kernel
theorem dX9_readClauses_41 : decode cX9_readClauses 41 = .ok (.iload_n 3, 1) := by decide +kernel
theorem dX9_readClauses_42 : decode cX9_readClauses 42 = .ok (.aload_n 2, 1) := by decide +kernel
theorem dX9_readClauses_43 : decode cX9_readClauses 43 = .ok (.invokevirtual 92, 3) := by decide +kernel
theorem dX9_readClauses_46 : decode cX9_readClauses 46 = .ok (.if_icmp .ge 21, 3) := by decide +kernel
theorem dX9_readClauses_49 : decode cX9_readClauses 49 = .ok (.aload_n 0, 1) := by decide +kernel
theorem dX9_readClauses_50 : decode cX9_readClauses 50 = .ok (.getfield 12, 3) := by decide +kernel
theorem dX9_readClauses_53 : decode cX9_readClauses 53 = .ok (.aload_n 2, 1) := by decide +kernel
theorem dX9_readClauses_54 : decode cX9_readClauses 54 = .ok (.iload_n 3, 1) := by decide +kernel
theorem dX9_readClauses_55 : decode cX9_readClauses 55 = .ok (.invokevirtual 112, 3) := by decide +kernel
theorem dX9_readClauses_58 : decode cX9_readClauses 58 = .ok (.invokevirtual 85, 3) := by decide +kernel
theorem dX9_readClauses_61 : decode cX9_readClauses 61 = .ok (.iinc 3 1, 3) := by decide +kernel
theorem dX9_readClauses_64 : decode cX9_readClauses 64 = .ok (.goto (-23), 3) := by decide +kernel
theorem dX9_readClauses_67 : decode cX9_readClauses 67 = .ok (.aload_n 2, 1) := by decide +kernel
theorem dX9_readClauses_68 : decode cX9_readClauses 68 = .ok (.invokevirtual 92, 3) := by decide +kernel
theorem dX9_readClauses_71 : decode cX9_readClauses 71 = .ok (.ireturn, 1) := by decide +kernel
abbrev mtX9_readClauses : mj_T := (yX9_readClauses.cls, cX9_readClauses, 4, (some .int), mj_no, yX9_readClauses.name)
abbrev kX9_readClauses (k0 : Nat) (g : mj_S) (M : mj_M) (q : Int32 → mj_M → Prop) (qx : String → mj_M → Prop) : Prop := mj_CIX yX9_readClauses (.code yX9_readClauses cX9_readClauses 4 (some .int)) 8 2 12 [.ref (k0)] g M q qx
theorem kiX9_readClauses : mj_cV yX9_readClauses cX9_readClauses 4 (some .int) 0 := ⟨⟨wd_902, wd_903, wd_1, wd_904⟩, ⟨by decide +kernel, by decide +kernel, by decide +kernel⟩, Nat.le_of_ble_eq_true rfl⟩
def LX9_readClauses_41 (k0 : Nat) (x3 : Int32) (g : mj_S) (M : mj_M) (q : Int32 → mj_M → Prop) (qx : String → mj_M → Prop) : Prop := ∀ d, 8 ≤ d → mj_G mtX9_readClauses (mj_rm d 2 12) (mj_Fi (mj_qI g q) (mj_qX g qx) 2 12) false 0 0 41 [(0, .ref (k0)), (2, .ref (k0 + 84 + 1)), (3, .int (x3))] [] g M
theorem eX9_readClauses {k0 : Nat} {g : mj_S} {M : mj_M} {q : Int32 → mj_M → Prop} {qx : String → mj_M → Prop} (h0 : is9 g k0) (h : ∃ (q1 : mj_M → Prop) (qx1 : String → mj_M → Prop), kX9_requireRoomFor (k0) (0) g (M) q1 qx1 ∧ (∀ (X : String) (M' : mj_M), qx1 X M' → qx X M') ∧ ∀ (M1 : mj_M), q1 M1 → (∃ (q2 : Int32 → mj_M → Prop), kX9_readText (k0) g (M1) q2 ∧ ∀ (v2 : Int32) (M2 : mj_M), q2 v2 M2 → (((v2 : Int32) = (-1 : Int32) → ∃ (q3 : Int32 → mj_M → Prop), kX0_size (k0 + 84 + 1) g (M2) q3 ∧ ∀ (v3 : Int32) (M3 : mj_M), q3 v3 M3 → (∃ (q4 : mj_M → Prop) (qx4 : String → mj_M → Prop), kX9_requireRoomFor (k0) (v3) g (M3) q4 qx4 ∧ (∀ (X : String) (M' : mj_M), qx4 X M' → qx X M') ∧ ∀ (M4 : mj_M), q4 M4 → (∃ (q5 : mj_M → Prop), kX9_saveState (k0) g (M4) q5 ∧ ∀ (M5 : mj_M), q5 M5 → (LX9_readClauses_41 k0 (0) g (M5) q qx)))) ∧ (¬ (v2 : Int32) = (-1 : Int32) → q ((-1 : Int32) - (v2)) (M2))))) : kX9_readClauses (k0) g M q qx := by
  intro d hd; refine mj_enter (by decide +kernel) (Nat.le_of_ble_eq_true rfl) ?_
  show mj_G mtX9_readClauses (mj_rm d 2 12) (mj_Fi (mj_qI g q) (mj_qX g qx) 2 12) false 2 12 0 [(0, .ref (k0))] [] g M
  refine mg_aload_n dX9_readClauses_0 rfl 0 rfl ?_
  refine mg_iconst (v := 0) dX9_readClauses_1 (by decide) ?_
  obtain ⟨q1, qx1, hC, hkx, hk⟩ := h
  refine mx_Vv [.int (0)] [] dX9_readClauses_2 wd_759 kiX9_requireRoomFor (Nat.le_of_ble_eq_true rfl) h0.1.1 h0.1.2 rfl (Nat.le_trans (Nat.le_of_ble_eq_true rfl) hd) ⟨Nat.le_of_ble_eq_true rfl, Nat.le_of_ble_eq_true rfl⟩ rfl rfl hC hkx (fun M1 hq => ?_)
  replace h := hk M1 hq
  refine mg_aload_n dX9_readClauses_5 rfl 0 rfl ?_
  obtain ⟨q2, hC, hk⟩ := h
  refine mc_Vi [] [] dX9_readClauses_6 wd_905 kiX9_readText (Nat.le_of_ble_eq_true rfl) h0.1.1 h0.1.2 rfl (Nat.le_trans (Nat.le_of_ble_eq_true rfl) hd) hC (fun v2 M2 hq => ?_)
  replace h := hk v2 M2 hq
  refine mg_istore_n (ls' := [(1, .int (v2)), (0, .ref (k0))]) dX9_readClauses_9 rfl (Nat.le_of_ble_eq_true rfl) rfl ?_
  refine mg_iload_n dX9_readClauses_10 rfl 0 rfl ?_
  refine mg_iconst (v := (-1)) dX9_readClauses_11 (by decide) ?_
  refine mg_icmp_eq (tgt := 19) dX9_readClauses_12 (by decide) (fun hc => ?_) (fun hc => ?_)
  · replace h := h.1 hc
    refine mg_aload_n dX9_readClauses_19 rfl 1 rfl ?_
    refine mg_getR (j := 5) dX9_readClauses_20 kc_9 (Nat.le_of_ble_eq_true rfl) wd_236 rfl rfl h0.1.1 h0.1.2 h0.2.2.2.2.2.1.1 ?_
    refine mg_getR (j := 0) dX9_readClauses_23 kc_1 (Nat.le_of_ble_eq_true rfl) wd_127 rfl rfl h0.2.2.2.2.2.1.2.1.1 h0.2.2.2.2.2.1.2.1.2 h0.2.2.2.2.2.1.2.2.1 ?_
    refine mg_astore_n (ls' := [(2, .ref (k0 + 84 + 1)), (1, .int (v2)), (0, .ref (k0))]) dX9_readClauses_26 rfl (Nat.le_of_ble_eq_true rfl) rfl ?_
    refine mg_aload_n dX9_readClauses_27 rfl 2 rfl ?_
    refine mg_aload_n dX9_readClauses_28 rfl 0 rfl ?_
    obtain ⟨q3, hC, hk⟩ := h
    refine mc_Vi [] [.ref (k0)] dX9_readClauses_29 wd_260 kiX0_size (Nat.le_of_ble_eq_true rfl) h0.2.2.2.2.2.1.2.2.2.1.1 h0.2.2.2.2.2.1.2.2.2.1.2 rfl (Nat.le_trans (Nat.le_of_ble_eq_true rfl) hd) hC (fun v3 M3 hq => ?_)
    replace h := hk v3 M3 hq
    obtain ⟨q4, qx4, hC, hkx, hk⟩ := h
    refine mx_Vv [.int (v3)] [] dX9_readClauses_32 wd_759 kiX9_requireRoomFor (Nat.le_of_ble_eq_true rfl) h0.1.1 h0.1.2 rfl (Nat.le_trans (Nat.le_of_ble_eq_true rfl) hd) ⟨Nat.le_of_ble_eq_true rfl, Nat.le_of_ble_eq_true rfl⟩ rfl rfl hC hkx (fun M4 hq => ?_)
    replace h := hk M4 hq
    refine mg_aload_n dX9_readClauses_35 rfl 2 rfl ?_
    obtain ⟨q5, hC, hk⟩ := h
    refine mc_Vv [] [] dX9_readClauses_36 wd_745 kiX9_saveState (Nat.le_of_ble_eq_true rfl) h0.1.1 h0.1.2 rfl (Nat.le_trans (Nat.le_of_ble_eq_true rfl) hd) hC (fun M5 hq => ?_)
    replace h := hk M5 hq
    refine mg_iconst (v := 0) dX9_readClauses_39 (by decide) ?_
    refine mg_istore_n (ls' := [(3, .int (0)), (2, .ref (k0 + 84 + 1)), (1, .int (v2)), (0, .ref (k0))]) dX9_readClauses_40 rfl (Nat.le_of_ble_eq_true rfl) rfl ?_
    refine mg_bud (Nat.zero_le _) (Nat.zero_le _) ?_
    exact mg_pick [3, 1, 0] rfl (h d hd)
  · replace h := h.2 hc
    refine mg_iconst (v := (-1)) dX9_readClauses_15 (by decide) ?_
    refine mg_iload_n dX9_readClauses_16 rfl 0 rfl ?_
    refine mg_isub dX9_readClauses_17 ?_
    exact mex_i dX9_readClauses_18 rfl h
theorem bX9_readClauses_41 {k0 : Nat} {x3 : Int32} {g : mj_S} {M : mj_M} {q : Int32 → mj_M → Prop} {qx : String → mj_M → Prop} (h0 : is9 g k0) (h : ∃ (q1 : Int32 → mj_M → Prop), kX0_size (k0 + 84 + 1) g (M) q1 ∧ ∀ (v1 : Int32) (M1 : mj_M), q1 v1 M1 → (((v1 : Int32) ≤ (x3) → ∃ (q2 : Int32 → mj_M → Prop), kX0_size (k0 + 84 + 1) g (M1) q2 ∧ ∀ (v2 : Int32) (M2 : mj_M), q2 v2 M2 → (q (v2) (M2))) ∧ (¬ (v1 : Int32) ≤ (x3) → ∃ (q3 : Int32 → mj_M → Prop), kX0_at (k0 + 84 + 1) (x3) g (M1) q3 ∧ ∀ (v3 : Int32) (M3 : mj_M), q3 v3 M3 → (∃ (q4 : mj_M → Prop), kX6_addOriginal (k0 + 1) (v3) g (M3) q4 ∧ ∀ (M4 : mj_M), q4 M4 → (LX9_readClauses_41 k0 (x3 + 1) g (M4) q qx))))) : LX9_readClauses_41 k0 x3 g M q qx := by
  intro d hd
  refine mg_iload_n dX9_readClauses_41 rfl 2 rfl ?_
  refine mg_aload_n dX9_readClauses_42 rfl 1 rfl ?_
  obtain ⟨q1, hC, hk⟩ := h
  refine mc_Vi [] [.int (x3)] dX9_readClauses_43 wd_260 kiX0_size (Nat.le_of_ble_eq_true rfl) h0.2.2.2.2.2.1.2.2.2.1.1 h0.2.2.2.2.2.1.2.2.2.1.2 rfl (Nat.le_trans (Nat.le_of_ble_eq_true rfl) hd) hC (fun v1 M1 hq => ?_)
  replace h := hk v1 M1 hq
  refine mg_icmp_ge (tgt := 67) dX9_readClauses_46 (by decide) (fun hc => ?_) (fun hc => ?_)
  · replace h := h.1 hc
    refine mg_aload_n dX9_readClauses_67 rfl 1 rfl ?_
    obtain ⟨q2, hC, hk⟩ := h
    refine mc_Vi [] [] dX9_readClauses_68 wd_260 kiX0_size (Nat.le_of_ble_eq_true rfl) h0.2.2.2.2.2.1.2.2.2.1.1 h0.2.2.2.2.2.1.2.2.2.1.2 rfl (Nat.le_trans (Nat.le_of_ble_eq_true rfl) hd) hC (fun v2 M2 hq => ?_)
    replace h := hk v2 M2 hq
    exact mex_i dX9_readClauses_71 rfl h
  · replace h := h.2 hc
    refine mg_aload_n dX9_readClauses_49 rfl 0 rfl ?_
    refine mg_getR (j := 0) dX9_readClauses_50 kc_9 (Nat.le_of_ble_eq_true rfl) wd_231 rfl rfl h0.1.1 h0.1.2 h0.2.1.1 ?_
    refine mg_aload_n dX9_readClauses_53 rfl 1 rfl ?_
    refine mg_iload_n dX9_readClauses_54 rfl 2 rfl ?_
    obtain ⟨q3, hC, hk⟩ := h
    refine mc_Vi [.int (x3)] [.ref (k0 + 1)] dX9_readClauses_55 wd_539 kiX0_at (Nat.le_of_ble_eq_true rfl) h0.2.2.2.2.2.1.2.2.2.1.1 h0.2.2.2.2.2.1.2.2.2.1.2 rfl (Nat.le_trans (Nat.le_of_ble_eq_true rfl) hd) hC (fun v3 M3 hq => ?_)
    replace h := hk v3 M3 hq
    obtain ⟨q4, hC, hk⟩ := h
    refine mc_Vv [.int (v3)] [] dX9_readClauses_58 wd_780 kiX6_addOriginal (Nat.le_of_ble_eq_true rfl) h0.2.1.2.1.1 h0.2.1.2.1.2 rfl (Nat.le_trans (Nat.le_of_ble_eq_true rfl) hd) hC (fun M4 hq => ?_)
    replace h := hk M4 hq
    refine mg_iinc (v := x3 + 1) (ls' := [(3, .int (x3 + 1)), (0, .ref (k0)), (2, .ref (k0 + 84 + 1))]) dX9_readClauses_61 2 rfl rfl (Nat.le_of_ble_eq_true rfl) rfl ?_
    refine mg_goto (tgt := 41) dX9_readClauses_64 (by decide) ?_
    refine mg_bud (Nat.zero_le _) (Nat.zero_le _) ?_
    exact mg_pick [1, 2, 0] rfl (h d hd)
theorem dX9_outputByte_0 : decode cX9_outputByte 0 = .ok (.iload_n 1, 1) := by decide +kernel
theorem dX9_outputByte_1 : decode cX9_outputByte 1 = .ok (.ifCond .ge 13, 3) := by decide +kernel
theorem dX9_outputByte_4 : decode cX9_outputByte 4 = .ok (.new 55, 3) := by decide +kernel
theorem dX9_outputByte_7 : decode cX9_outputByte 7 = .ok (.dup, 1) := by decide +kernel
theorem dX9_outputByte_8 : decode cX9_outputByte 8 = .ok (.ldc 170, 2) := by decide +kernel
theorem dX9_outputByte_10 : decode cX9_outputByte 10 = .ok (.invokespecial 59, 3) := by decide +kernel
theorem dX9_outputByte_13 : decode cX9_outputByte 13 = .ok (.athrow, 1) := by decide +kernel
theorem dX9_outputByte_14 : decode cX9_outputByte 14 = .ok (.iload_n 1, 1) := by decide +kernel
theorem dX9_outputByte_15 : decode cX9_outputByte 15 = .ok (.istore_n 2, 1) := by decide +kernel
theorem dX9_outputByte_16 : decode cX9_outputByte 16 = .ok (.iconst 0, 1) := by decide +kernel
theorem dX9_outputByte_17 : decode cX9_outputByte 17 = .ok (.istore_n 3, 1) := by decide +kernel
theorem dX9_outputByte_18 : decode cX9_outputByte 18 = .ok (.iload_n 3, 1) := by decide +kernel
theorem dX9_outputByte_19 : decode cX9_outputByte 19 = .ok (.aload_n 0, 1) := by decide +kernel
theorem dX9_outputByte_20 : decode cX9_outputByte 20 = .ok (.getfield 12, 3) := by decide +kernel
theorem dX9_outputByte_23 : decode cX9_outputByte 23 = .ok (.getfield 119, 3) := by decide +kernel
theorem dX9_outputByte_26 : decode cX9_outputByte 26 = .ok (.invokevirtual 92, 3) := by decide +kernel
theorem dX9_outputByte_29 : decode cX9_outputByte 29 = .ok (.if_icmp .ge 47, 3) := by decide +kernel
theorem dX9_outputByte_32 : decode cX9_outputByte 32 = .ok (.aload_n 0, 1) := by decide +kernel
theorem dX9_outputByte_33 : decode cX9_outputByte 33 = .ok (.getfield 12, 3) := by decide +kernel
theorem dX9_outputByte_36 : decode cX9_outputByte 36 = .ok (.getfield 119, 3) := by decide +kernel
theorem dX9_outputByte_39 : decode cX9_outputByte 39 = .ok (.iload_n 3, 1) := by decide +kernel
theorem dX9_outputByte_40 : decode cX9_outputByte 40 = .ok (.invokevirtual 112, 3) := by decide +kernel
theorem dX9_outputByte_43 : decode cX9_outputByte 43 = .ok (.istore 4, 2) := by decide +kernel
theorem dX9_outputByte_45 : decode cX9_outputByte 45 = .ok (.iload 4, 2) := by decide +kernel
theorem dX9_outputByte_47 : decode cX9_outputByte 47 = .ok (.invokestatic 172, 3) := by decide +kernel
theorem dX9_outputByte_50 : decode cX9_outputByte 50 = .ok (.istore 5, 2) := by decide +kernel
theorem dX9_outputByte_52 : decode cX9_outputByte 52 = .ok (.iload_n 2, 1) := by decide +kernel
theorem dX9_outputByte_53 : decode cX9_outputByte 53 = .ok (.iload 5, 2) := by decide +kernel
theorem dX9_outputByte_55 : decode cX9_outputByte 55 = .ok (.if_icmp .ge 10, 3) := by decide +kernel
theorem dX9_outputByte_58 : decode cX9_outputByte 58 = .ok (.iload 4, 2) := by decide +kernel
theorem dX9_outputByte_60 : decode cX9_outputByte 60 = .ok (.iload_n 2, 1) := by decide +kernel
theorem dX9_outputByte_61 : decode cX9_outputByte 61 = .ok (.invokestatic 175, 3) := by decide +kernel
theorem dX9_outputByte_64 : decode cX9_outputByte 64 = .ok (.ireturn, 1) := by decide +kernel
theorem dX9_outputByte_65 : decode cX9_outputByte 65 = .ok (.iload_n 2, 1) := by decide +kernel
theorem dX9_outputByte_66 : decode cX9_outputByte 66 = .ok (.iload 5, 2) := by decide +kernel
theorem dX9_outputByte_68 : decode cX9_outputByte 68 = .ok (.isub, 1) := by decide +kernel
theorem dX9_outputByte_69 : decode cX9_outputByte 69 = .ok (.istore_n 2, 1) := by decide +kernel
theorem dX9_outputByte_70 : decode cX9_outputByte 70 = .ok (.iinc 3 1, 3) := by decide +kernel
theorem dX9_outputByte_73 : decode cX9_outputByte 73 = .ok (.goto (-55), 3) := by decide +kernel
theorem dX9_outputByte_76 : decode cX9_outputByte 76 = .ok (.iconst (-1), 1) := by decide +kernel
theorem dX9_outputByte_77 : decode cX9_outputByte 77 = .ok (.ireturn, 1) := by decide +kernel
abbrev mtX9_outputByte : mj_T := (yX9_outputByte.cls, cX9_outputByte, 6, (some .int), mj_no, yX9_outputByte.name)
abbrev kX9_outputByte (k0 : Nat) (x1 : Int32) (g : mj_S) (M : mj_M) (q : Int32 → mj_M → Prop) (qx : String → mj_M → Prop) : Prop := mj_CIX yX9_outputByte (.code yX9_outputByte cX9_outputByte 6 (some .int)) 7 1 6 [.ref (k0), .int (x1)] g M q qx
theorem kiX9_outputByte : mj_cV yX9_outputByte cX9_outputByte 6 (some .int) 1 := ⟨⟨wd_952, wd_953, wd_1, wd_954⟩, ⟨by decide +kernel, by decide +kernel, by decide +kernel⟩, Nat.le_of_ble_eq_true rfl⟩
def LX9_outputByte_18 (k0 : Nat) (x2 : Int32) (x3 : Int32) (g : mj_S) (M : mj_M) (q : Int32 → mj_M → Prop) (qx : String → mj_M → Prop) : Prop := ∀ d, 7 ≤ d → mj_G mtX9_outputByte (mj_rm d 1 6) (mj_Fi (mj_qI g q) (mj_qX g qx) 1 6) false 0 0 18 [(0, .ref (k0)), (2, .int (x2)), (3, .int (x3))] [] g M
theorem eX9_outputByte {k0 : Nat} {x1 : Int32} {g : mj_S} {M : mj_M} {q : Int32 → mj_M → Prop} {qx : String → mj_M → Prop} (h0 : is9 g k0) (h : ((0 : Int32) ≤ (x1) → LX9_outputByte_18 k0 (x1) (0) g (M) q qx) ∧ (¬ (0 : Int32) ≤ (x1) → qx mj_IA (M))) : kX9_outputByte (k0) (x1) g M q qx := by
  intro d hd; refine mj_enter (by decide +kernel) (Nat.le_of_ble_eq_true rfl) ?_
  show mj_G mtX9_outputByte (mj_rm d 1 6) (mj_Fi (mj_qI g q) (mj_qX g qx) 1 6) false 1 6 0 [(0, .ref (k0)), (1, .int (x1))] [] g M
  refine mg_iload_n dX9_outputByte_0 rfl 1 rfl ?_
  refine mg_if_ge (tgt := 14) dX9_outputByte_1 (by decide) (fun hc => ?_) (fun hc => ?_)
  · replace h := h.1 hc
    refine mg_iload_n dX9_outputByte_14 rfl 1 rfl ?_
    refine mg_istore_n (ls' := [(2, .int (x1)), (0, .ref (k0)), (1, .int (x1))]) dX9_outputByte_15 rfl (Nat.le_of_ble_eq_true rfl) rfl ?_
    refine mg_iconst (v := 0) dX9_outputByte_16 (by decide) ?_
    refine mg_istore_n (ls' := [(3, .int (0)), (2, .int (x1)), (0, .ref (k0)), (1, .int (x1))]) dX9_outputByte_17 rfl (Nat.le_of_ble_eq_true rfl) rfl ?_
    refine mg_bud (Nat.zero_le _) (Nat.zero_le _) ?_
    exact mg_pick [2, 1, 0] rfl (h d hd)
  · replace h := h.2 hc
    exact mg_throw (ti := 12) rfl rfl xw_IA rfl dX9_outputByte_4 dX9_outputByte_7 dX9_outputByte_8 dX9_outputByte_10 dX9_outputByte_13 (Nat.le_trans (Nat.le_of_ble_eq_true rfl) hd) (Nat.le_of_ble_eq_true rfl) (Nat.le_of_ble_eq_true rfl) ⟨rfl, h⟩
theorem bX9_outputByte_18 {k0 : Nat} {x2 : Int32} {x3 : Int32} {g : mj_S} {M : mj_M} {q : Int32 → mj_M → Prop} {qx : String → mj_M → Prop} (h0 : is9 g k0) (h : ∃ (q1 : Int32 → mj_M → Prop), kX0_size (k0 + 1 + 1) g (M) q1 ∧ ∀ (v1 : Int32) (M1 : mj_M), q1 v1 M1 → (((v1 : Int32) ≤ (x3) → q ((-1)) (M1)) ∧ (¬ (v1 : Int32) ≤ (x3) → ∃ (q2 : Int32 → mj_M → Prop), kX0_at (k0 + 1 + 1) (x3) g (M1) q2 ∧ ∀ (v2 : Int32) (M2 : mj_M), q2 v2 M2 → (∃ (q3 : Int32 → mj_M → Prop), kX9_lengthOfClause (v2) g (M2) q3 ∧ ∀ (v3 : Int32) (M3 : mj_M), q3 v3 M3 → (((v3 : Int32) ≤ (x2) → LX9_outputByte_18 k0 ((x2) - (v3)) (x3 + 1) g (M3) q qx) ∧ (¬ (v3 : Int32) ≤ (x2) → ∃ (q4 : Int32 → mj_M → Prop), kX9_byteOfClause (v2) (x2) g (M3) q4 ∧ ∀ (v4 : Int32) (M4 : mj_M), q4 v4 M4 → (q (v4) (M4)))))))) : LX9_outputByte_18 k0 x2 x3 g M q qx := by
  intro d hd
  refine mg_iload_n dX9_outputByte_18 rfl 2 rfl ?_
  refine mg_aload_n dX9_outputByte_19 rfl 0 rfl ?_
  refine mg_getR (j := 0) dX9_outputByte_20 kc_9 (Nat.le_of_ble_eq_true rfl) wd_231 rfl rfl h0.1.1 h0.1.2 h0.2.1.1 ?_
  refine mg_getR (j := 3) dX9_outputByte_23 kc_6 (Nat.le_of_ble_eq_true rfl) wd_75 rfl rfl h0.2.1.2.1.1 h0.2.1.2.1.2 h0.2.1.2.2.1.1 ?_
  obtain ⟨q1, hC, hk⟩ := h
  refine mc_Vi [] [.int (x3)] dX9_outputByte_26 wd_260 kiX0_size (Nat.le_of_ble_eq_true rfl) h0.2.1.2.2.1.2.1.1 h0.2.1.2.2.1.2.1.2 rfl (Nat.le_trans (Nat.le_of_ble_eq_true rfl) hd) hC (fun v1 M1 hq => ?_)
  replace h := hk v1 M1 hq
  refine mg_icmp_ge (tgt := 76) dX9_outputByte_29 (by decide) (fun hc => ?_) (fun hc => ?_)
  · replace h := h.1 hc
    refine mg_iconst (v := (-1)) dX9_outputByte_76 (by decide) ?_
    exact mex_i dX9_outputByte_77 rfl h
  · replace h := h.2 hc
    refine mg_aload_n dX9_outputByte_32 rfl 0 rfl ?_
    refine mg_getR (j := 0) dX9_outputByte_33 kc_9 (Nat.le_of_ble_eq_true rfl) wd_231 rfl rfl h0.1.1 h0.1.2 h0.2.1.1 ?_
    refine mg_getR (j := 3) dX9_outputByte_36 kc_6 (Nat.le_of_ble_eq_true rfl) wd_75 rfl rfl h0.2.1.2.1.1 h0.2.1.2.1.2 h0.2.1.2.2.1.1 ?_
    refine mg_iload_n dX9_outputByte_39 rfl 2 rfl ?_
    obtain ⟨q2, hC, hk⟩ := h
    refine mc_Vi [.int (x3)] [] dX9_outputByte_40 wd_539 kiX0_at (Nat.le_of_ble_eq_true rfl) h0.2.1.2.2.1.2.1.1 h0.2.1.2.2.1.2.1.2 rfl (Nat.le_trans (Nat.le_of_ble_eq_true rfl) hd) hC (fun v2 M2 hq => ?_)
    replace h := hk v2 M2 hq
    refine mg_istore (ls' := [(4, .int (v2)), (0, .ref (k0)), (2, .int (x2)), (3, .int (x3))]) dX9_outputByte_43 (Nat.le_of_ble_eq_true rfl) rfl ?_
    refine mg_iload dX9_outputByte_45 0 rfl ?_
    obtain ⟨q3, hC, hk⟩ := h
    refine mc_Si [.int (v2)] [] dX9_outputByte_47 wd_956 kiX9_lengthOfClause (Nat.le_of_ble_eq_true rfl) (Nat.le_trans (Nat.le_of_ble_eq_true rfl) hd) hC (fun v3 M3 hq => ?_)
    replace h := hk v3 M3 hq
    refine mg_istore (ls' := [(5, .int (v3)), (4, .int (v2)), (0, .ref (k0)), (2, .int (x2)), (3, .int (x3))]) dX9_outputByte_50 (Nat.le_of_ble_eq_true rfl) rfl ?_
    refine mg_iload_n dX9_outputByte_52 rfl 3 rfl ?_
    refine mg_iload dX9_outputByte_53 0 rfl ?_
    refine mg_icmp_ge (tgt := 65) dX9_outputByte_55 (by decide) (fun hc => ?_) (fun hc => ?_)
    · replace h := h.1 hc
      refine mg_iload_n dX9_outputByte_65 rfl 3 rfl ?_
      refine mg_iload dX9_outputByte_66 0 rfl ?_
      refine mg_isub dX9_outputByte_68 ?_
      refine mg_istore_n (ls' := [(2, .int ((x2) - (v3))), (5, .int (v3)), (4, .int (v2)), (0, .ref (k0)), (3, .int (x3))]) dX9_outputByte_69 rfl (Nat.le_of_ble_eq_true rfl) rfl ?_
      refine mg_iinc (v := x3 + 1) (ls' := [(3, .int (x3 + 1)), (2, .int ((x2) - (v3))), (5, .int (v3)), (4, .int (v2)), (0, .ref (k0))]) dX9_outputByte_70 4 rfl rfl (Nat.le_of_ble_eq_true rfl) rfl ?_
      refine mg_goto (tgt := 18) dX9_outputByte_73 (by decide) ?_
      refine mg_bud (Nat.zero_le _) (Nat.zero_le _) ?_
      exact mg_pick [4, 1, 0] rfl (h d hd)
    · replace h := h.2 hc
      refine mg_iload dX9_outputByte_58 1 rfl ?_
      refine mg_iload_n dX9_outputByte_60 rfl 3 rfl ?_
      obtain ⟨q4, hC, hk⟩ := h
      refine mc_Si [.int (v2), .int (x2)] [] dX9_outputByte_61 wd_962 kiX9_byteOfClause (Nat.le_of_ble_eq_true rfl) (Nat.le_trans (Nat.le_of_ble_eq_true rfl) hd) hC (fun v4 M4 hq => ?_)
      replace h := hk v4 M4 hq
      exact mex_i dX9_outputByte_64 rfl h
theorem dX9_requireTechnique_0 : decode cX9_requireTechnique 0 = .ok (.iload_n 1, 1) := by decide +kernel
theorem dX9_requireTechnique_1 : decode cX9_requireTechnique 1 = .ok (.ifCond .lt 9, 3) := by decide +kernel
theorem dX9_requireTechnique_4 : decode cX9_requireTechnique 4 = .ok (.iload_n 1, 1) := by decide +kernel
theorem dX9_requireTechnique_5 : decode cX9_requireTechnique 5 = .ok (.bipush 10, 2) := by decide +kernel
theorem dX9_requireTechnique_7 : decode cX9_requireTechnique 7 = .ok (.if_icmp .lt 14, 3) := by decide +kernel
theorem dX9_requireTechnique_10 : decode cX9_requireTechnique 10 = .ok (.new 55, 3) := by decide +kernel
theorem dX9_requireTechnique_13 : decode cX9_requireTechnique 13 = .ok (.dup, 1) := by decide +kernel
theorem dX9_requireTechnique_14 : decode cX9_requireTechnique 14 = .ok (.ldc_w 353, 3) := by decide +kernel
theorem dX9_requireTechnique_17 : decode cX9_requireTechnique 17 = .ok (.invokespecial 59, 3) := by decide +kernel
theorem dX9_requireTechnique_20 : decode cX9_requireTechnique 20 = .ok (.athrow, 1) := by decide +kernel
theorem dX9_requireTechnique_21 : decode cX9_requireTechnique 21 = .ok (.return_, 1) := by decide +kernel
abbrev mtX9_requireTechnique : mj_T := (yX9_requireTechnique.cls, cX9_requireTechnique, 2, none, mj_no, yX9_requireTechnique.name)
abbrev kX9_requireTechnique (k0 : Nat) (x1 : Int32) (g : mj_S) (M : mj_M) (q : mj_M → Prop) (qx : String → mj_M → Prop) : Prop := mj_CVX yX9_requireTechnique (.code yX9_requireTechnique cX9_requireTechnique 2 none) 7 1 6 [.ref (k0), .int (x1)] g M q qx
theorem kiX9_requireTechnique : mj_cV yX9_requireTechnique cX9_requireTechnique 2 none 1 := ⟨⟨wd_977, wp_37, wd_1, wd_978⟩, ⟨by decide +kernel, by decide +kernel, by decide +kernel⟩, Nat.le_of_ble_eq_true rfl⟩
theorem eX9_requireTechnique {k0 : Nat} {x1 : Int32} {g : mj_S} {M : mj_M} {q : mj_M → Prop} {qx : String → mj_M → Prop} (h0 : is9 g k0) (h : ((x1 : Int32) < 0 → qx mj_IA (M)) ∧ (¬ (x1 : Int32) < 0 → ((x1 : Int32) < (10 : Int32) → q (M)) ∧ (¬ (x1 : Int32) < (10 : Int32) → qx mj_IA (M)))) : kX9_requireTechnique (k0) (x1) g M q qx := by
  intro d hd; refine mj_enter (by decide +kernel) (Nat.le_of_ble_eq_true rfl) ?_
  show mj_G mtX9_requireTechnique (mj_rm d 1 6) (mj_Fi (mj_qV g q) (mj_qX g qx) 1 6) false 1 6 0 [(0, .ref (k0)), (1, .int (x1))] [] g M
  refine mg_iload_n dX9_requireTechnique_0 rfl 1 rfl ?_
  refine mg_if_lt (tgt := 10) dX9_requireTechnique_1 (by decide) (fun hc => ?_) (fun hc => ?_)
  · replace h := h.1 hc
    exact mg_throwW (ti := 13) rfl rfl xw_IA rfl dX9_requireTechnique_10 dX9_requireTechnique_13 dX9_requireTechnique_14 dX9_requireTechnique_17 dX9_requireTechnique_20 (Nat.le_trans (Nat.le_of_ble_eq_true rfl) hd) (Nat.le_of_ble_eq_true rfl) (Nat.le_of_ble_eq_true rfl) ⟨rfl, h⟩
  · replace h := h.2 hc
    refine mg_iload_n dX9_requireTechnique_4 rfl 1 rfl ?_
    refine mg_bipush (v := 10) dX9_requireTechnique_5 (by decide) ?_
    refine mg_icmp_lt (tgt := 21) dX9_requireTechnique_7 (by decide) (fun hc => ?_) (fun hc => ?_)
    · replace h := h.1 hc
      exact mex_v dX9_requireTechnique_21 rfl h
    · replace h := h.2 hc
      exact mg_throwW (ti := 13) rfl rfl xw_IA rfl dX9_requireTechnique_10 dX9_requireTechnique_13 dX9_requireTechnique_14 dX9_requireTechnique_17 dX9_requireTechnique_20 (Nat.le_trans (Nat.le_of_ble_eq_true rfl) hd) (Nat.le_of_ble_eq_true rfl) (Nat.le_of_ble_eq_true rfl) ⟨rfl, h⟩
theorem dX9_apply_0 : decode cX9_apply 0 = .ok (.aload_n 0, 1) := by decide +kernel
theorem dX9_apply_1 : decode cX9_apply 1 = .ok (.iload_n 1, 1) := by decide +kernel
theorem dX9_apply_2 : decode cX9_apply 2 = .ok (.invokevirtual 178, 3) := by decide +kernel
theorem dX9_apply_5 : decode cX9_apply 5 = .ok (.aload_n 0, 1) := by decide +kernel
theorem dX9_apply_6 : decode cX9_apply 6 = .ok (.invokevirtual 65, 3) := by decide +kernel
theorem dX9_apply_9 : decode cX9_apply 9 = .ok (.aload_n 0, 1) := by decide +kernel
theorem dX9_apply_10 : decode cX9_apply 10 = .ok (.getfield 51, 3) := by decide +kernel
theorem dX9_apply_13 : decode cX9_apply 13 = .ok (.aload_n 0, 1) := by decide +kernel
theorem dX9_apply_14 : decode cX9_apply 14 = .ok (.getfield 12, 3) := by decide +kernel
theorem dX9_apply_17 : decode cX9_apply 17 = .ok (.iload_n 1, 1) := by decide +kernel
theorem dX9_apply_18 : decode cX9_apply 18 = .ok (.invokevirtual 181, 3) := by decide +kernel
theorem dX9_apply_21 : decode cX9_apply 21 = .ok (.ireturn, 1) := by decide +kernel
abbrev mtX9_apply : mj_T := (yX9_apply.cls, cX9_apply, 2, (some .int), mj_no, yX9_apply.name)
abbrev kX9_apply (k0 : Nat) (x1 : Int32) (g : mj_S) (M : mj_M) (q : Int32 → mj_M → Prop) (qx : String → mj_M → Prop) : Prop := mj_CIX yX9_apply (.code yX9_apply cX9_apply 2 (some .int)) 8 1 6 [.ref (k0), .int (x1)] g M q qx
theorem kiX9_apply : mj_cV yX9_apply cX9_apply 2 (some .int) 1 := ⟨⟨wd_972, wd_973, wd_1, wd_974⟩, ⟨by decide +kernel, by decide +kernel, by decide +kernel⟩, Nat.le_of_ble_eq_true rfl⟩
theorem eX9_apply {k0 : Nat} {x1 : Int32} {g : mj_S} {M : mj_M} {q : Int32 → mj_M → Prop} {qx : String → mj_M → Prop} (h0 : is9 g k0) (h : ∃ (q1 : mj_M → Prop) (qx1 : String → mj_M → Prop), kX9_requireTechnique (k0) (x1) g (M) q1 qx1 ∧ (∀ (X : String) (M' : mj_M), qx1 X M' → qx X M') ∧ ∀ (M1 : mj_M), q1 M1 → (∃ (q2 : mj_M → Prop), kX9_saveState (k0) g (M1) q2 ∧ ∀ (M2 : mj_M), q2 M2 → (∃ (q3 : Int32 → mj_M → Prop), kX7_perform (k0 + 88) (k0 + 1) (x1) g (M2) q3 ∧ ∀ (v3 : Int32) (M3 : mj_M), q3 v3 M3 → (q (v3) (M3))))) : kX9_apply (k0) (x1) g M q qx := by
  intro d hd; refine mj_enter (by decide +kernel) (Nat.le_of_ble_eq_true rfl) ?_
  show mj_G mtX9_apply (mj_rm d 1 6) (mj_Fi (mj_qI g q) (mj_qX g qx) 1 6) false 1 6 0 [(0, .ref (k0)), (1, .int (x1))] [] g M
  refine mg_aload_n dX9_apply_0 rfl 0 rfl ?_
  refine mg_iload_n dX9_apply_1 rfl 1 rfl ?_
  obtain ⟨q1, qx1, hC, hkx, hk⟩ := h
  refine mx_Vv [.int (x1)] [] dX9_apply_2 wd_975 kiX9_requireTechnique (Nat.le_of_ble_eq_true rfl) h0.1.1 h0.1.2 rfl (Nat.le_trans (Nat.le_of_ble_eq_true rfl) hd) ⟨Nat.le_of_ble_eq_true rfl, Nat.le_of_ble_eq_true rfl⟩ rfl rfl hC hkx (fun M1 hq => ?_)
  replace h := hk M1 hq
  refine mg_aload_n dX9_apply_5 rfl 0 rfl ?_
  obtain ⟨q2, hC, hk⟩ := h
  refine mc_Vv [] [] dX9_apply_6 wd_745 kiX9_saveState (Nat.le_of_ble_eq_true rfl) h0.1.1 h0.1.2 rfl (Nat.le_trans (Nat.le_of_ble_eq_true rfl) hd) hC (fun M2 hq => ?_)
  replace h := hk M2 hq
  refine mg_aload_n dX9_apply_9 rfl 0 rfl ?_
  refine mg_getR (j := 7) dX9_apply_10 kc_9 (Nat.le_of_ble_eq_true rfl) wd_238 rfl rfl h0.1.1 h0.1.2 h0.2.2.2.2.2.2.2.1 ?_
  refine mg_aload_n dX9_apply_13 rfl 0 rfl ?_
  refine mg_getR (j := 0) dX9_apply_14 kc_9 (Nat.le_of_ble_eq_true rfl) wd_231 rfl rfl h0.1.1 h0.1.2 h0.2.1.1 ?_
  refine mg_iload_n dX9_apply_17 rfl 1 rfl ?_
  obtain ⟨q3, hC, hk⟩ := h
  refine mc_Vi [.ref (k0 + 1), .int (x1)] [] dX9_apply_18 wd_393 kiX7_perform (Nat.le_of_ble_eq_true rfl) h0.2.2.2.2.2.2.2.2.1.1 h0.2.2.2.2.2.2.2.2.1.2 rfl (Nat.le_trans (Nat.le_of_ble_eq_true rfl) hd) hC (fun v3 M3 hq => ?_)
  replace h := hk v3 M3 hq
  exact mex_i dX9_apply_21 rfl h
theorem dX9_run_0 : decode cX9_run 0 = .ok (.iload_n 1, 1) := by decide +kernel
theorem dX9_run_1 : decode cX9_run 1 = .ok (.iconst 1, 1) := by decide +kernel
theorem dX9_run_2 : decode cX9_run 2 = .ok (.if_icmp .lt 9, 3) := by decide +kernel
theorem dX9_run_5 : decode cX9_run 5 = .ok (.iload_n 1, 1) := by decide +kernel
theorem dX9_run_6 : decode cX9_run 6 = .ok (.bipush 9, 2) := by decide +kernel
theorem dX9_run_8 : decode cX9_run 8 = .ok (.if_icmp .le 13, 3) := by decide +kernel
theorem dX9_run_11 : decode cX9_run 11 = .ok (.new 55, 3) := by decide +kernel
theorem dX9_run_14 : decode cX9_run 14 = .ok (.dup, 1) := by decide +kernel
theorem dX9_run_15 : decode cX9_run 15 = .ok (.ldc 185, 2) := by decide +kernel
theorem dX9_run_17 : decode cX9_run 17 = .ok (.invokespecial 59, 3) := by decide +kernel
theorem dX9_run_20 : decode cX9_run 20 = .ok (.athrow, 1) := by decide +kernel
theorem dX9_run_21 : decode cX9_run 21 = .ok (.aload_n 0, 1) := by decide +kernel
theorem dX9_run_22 : decode cX9_run 22 = .ok (.getfield 30, 3) := by decide +kernel
theorem dX9_run_25 : decode cX9_run 25 = .ok (.invokevirtual 187, 3) := by decide +kernel
theorem dX9_run_28 : decode cX9_run 28 = .ok (.istore_n 2, 1) := by decide +kernel
theorem dX9_run_29 : decode cX9_run 29 = .ok (.iload_n 2, 1) := by decide +kernel
theorem dX9_run_30 : decode cX9_run 30 = .ok (.iconst (-1), 1) := by decide +kernel
theorem dX9_run_31 : decode cX9_run 31 = .ok (.if_icmp .eq 7, 3) := by decide +kernel
theorem dX9_run_34 : decode cX9_run 34 = .ok (.iconst (-1), 1) := by decide +kernel
theorem dX9_run_35 : decode cX9_run 35 = .ok (.iload_n 2, 1) := by decide +kernel
theorem dX9_run_36 : decode cX9_run 36 = .ok (.isub, 1) := by decide +kernel
theorem dX9_run_37 : decode cX9_run 37 = .ok (.ireturn, 1) := by decide +kernel
theorem dX9_run_38 : decode cX9_run 38 = .ok (.aload_n 0, 1) := by decide +kernel
theorem dX9_run_39 : decode cX9_run 39 = .ok (.invokevirtual 65, 3) := by decide +kernel
theorem dX9_run_42 : decode cX9_run 42 = .ok (.iconst 1, 1) := by decide +kernel
theorem dX9_run_43 : decode cX9_run 43 = .ok (.istore_n 3, 1) := by decide +kernel
theorem dX9_run_44 : decode cX9_run 44 = .ok (.iload_n 3, 1) := by decide +kernel
theorem dX9_run_45 : decode cX9_run 45 = .ok (.iload_n 1, 1) := by decide +kernel
theorem dX9_run_46 : decode cX9_run 46 = .ok (.if_icmp .gt 89, 3) := by decide +kernel
theorem dX9_run_49 : decode cX9_run 49 = .ok (.iconst 1, 1) := by decide +kernel
theorem dX9_run_50 : decode cX9_run 50 = .ok (.istore 4, 2) := by decide +kernel
theorem dX9_run_52 : decode cX9_run 52 = .ok (.iconst 0, 1) := by decide +kernel
theorem dX9_run_53 : decode cX9_run 53 = .ok (.istore 5, 2) := by decide +kernel
theorem dX9_run_55 : decode cX9_run 55 = .ok (.iload 5, 2) := by decide +kernel
theorem dX9_run_57 : decode cX9_run 57 = .ok (.aload_n 0, 1) := by decide +kernel
theorem dX9_run_58 : decode cX9_run 58 = .ok (.getfield 30, 3) := by decide +kernel
theorem dX9_run_61 : decode cX9_run 61 = .ok (.invokevirtual 160, 3) := by decide +kernel
theorem dX9_run_64 : decode cX9_run 64 = .ok (.if_icmp .ge 45, 3) := by decide +kernel
theorem dX9_run_67 : decode cX9_run 67 = .ok (.aload_n 0, 1) := by decide +kernel
theorem dX9_run_68 : decode cX9_run 68 = .ok (.getfield 30, 3) := by decide +kernel
theorem dX9_run_71 : decode cX9_run 71 = .ok (.iload 5, 2) := by decide +kernel
theorem dX9_run_73 : decode cX9_run 73 = .ok (.invokevirtual 190, 3) := by decide +kernel
theorem dX9_run_76 : decode cX9_run 76 = .ok (.istore 6, 2) := by decide +kernel
theorem dX9_run_78 : decode cX9_run 78 = .ok (.iload 6, 2) := by decide +kernel
theorem dX9_run_80 : decode cX9_run 80 = .ok (.iconst (-1), 1) := by decide +kernel
theorem dX9_run_81 : decode cX9_run 81 = .ok (.if_icmp .eq 22, 3) := by decide +kernel
theorem dX9_run_84 : decode cX9_run 84 = .ok (.aload_n 0, 1) := by decide +kernel
theorem dX9_run_85 : decode cX9_run 85 = .ok (.getfield 51, 3) := by decide +kernel
theorem dX9_run_88 : decode cX9_run 88 = .ok (.aload_n 0, 1) := by decide +kernel
theorem dX9_run_89 : decode cX9_run 89 = .ok (.getfield 12, 3) := by decide +kernel
theorem dX9_run_92 : decode cX9_run 92 = .ok (.iload 6, 2) := by decide +kernel
theorem dX9_run_94 : decode cX9_run 94 = .ok (.invokevirtual 181, 3) := by decide +kernel
theorem dX9_run_97 : decode cX9_run 97 = .ok (.ifCond .eq 6, 3) := by decide +kernel
theorem dX9_run_100 : decode cX9_run 100 = .ok (.iconst 0, 1) := by decide +kernel
theorem dX9_run_101 : decode cX9_run 101 = .ok (.istore 4, 2) := by decide +kernel
theorem dX9_run_103 : decode cX9_run 103 = .ok (.iinc 5 1, 3) := by decide +kernel
theorem dX9_run_106 : decode cX9_run 106 = .ok (.goto (-51), 3) := by decide +kernel
theorem dX9_run_109 : decode cX9_run 109 = .ok (.iload 4, 2) := by decide +kernel
theorem dX9_run_111 : decode cX9_run 111 = .ok (.ifCond .ne 16, 3) := by decide +kernel
theorem dX9_run_114 : decode cX9_run 114 = .ok (.aload_n 0, 1) := by decide +kernel
theorem dX9_run_115 : decode cX9_run 115 = .ok (.getfield 12, 3) := by decide +kernel
theorem dX9_run_118 : decode cX9_run 118 = .ok (.getfield 119, 3) := by decide +kernel
theorem dX9_run_121 : decode cX9_run 121 = .ok (.invokevirtual 128, 3) := by decide +kernel
theorem dX9_run_124 : decode cX9_run 124 = .ok (.ifCond .eq 5, 3) := by decide +kernel
theorem dX9_run_127 : decode cX9_run 127 = .ok (.iload_n 3, 1) := by decide +kernel
theorem dX9_run_128 : decode cX9_run 128 = .ok (.ireturn, 1) := by decide +kernel
theorem dX9_run_129 : decode cX9_run 129 = .ok (.iinc 3 1, 3) := by decide +kernel
theorem dX9_run_132 : decode cX9_run 132 = .ok (.goto (-88), 3) := by decide +kernel
theorem dX9_run_135 : decode cX9_run 135 = .ok (.iload_n 1, 1) := by decide +kernel
theorem dX9_run_136 : decode cX9_run 136 = .ok (.ireturn, 1) := by decide +kernel
abbrev mtX9_run : mj_T := (yX9_run.cls, cX9_run, 7, (some .int), mj_no, yX9_run.name)
abbrev kX9_run (k0 : Nat) (x1 : Int32) (g : mj_S) (M : mj_M) (q : Int32 → mj_M → Prop) (qx : String → mj_M → Prop) : Prop := mj_CIX yX9_run (.code yX9_run cX9_run 7 (some .int)) 7 1 6 [.ref (k0), .int (x1)] g M q qx
theorem kiX9_run : mj_cV yX9_run cX9_run 7 (some .int) 1 := ⟨⟨wd_984, wd_985, wd_1, wd_986⟩, ⟨by decide +kernel, by decide +kernel, by decide +kernel⟩, Nat.le_of_ble_eq_true rfl⟩
def LX9_run_44 (k0 : Nat) (x1 : Int32) (x3 : Int32) (g : mj_S) (M : mj_M) (q : Int32 → mj_M → Prop) (qx : String → mj_M → Prop) : Prop := ∀ d, 7 ≤ d → mj_G mtX9_run (mj_rm d 1 6) (mj_Fi (mj_qI g q) (mj_qX g qx) 1 6) false 0 0 44 [(0, .ref (k0)), (1, .int (x1)), (3, .int (x3))] [] g M
def LX9_run_55 (k0 : Nat) (x1 : Int32) (x3 : Int32) (x4 : Int32) (x5 : Int32) (g : mj_S) (M : mj_M) (q : Int32 → mj_M → Prop) (qx : String → mj_M → Prop) : Prop := ∀ d, 7 ≤ d → mj_G mtX9_run (mj_rm d 1 6) (mj_Fi (mj_qI g q) (mj_qX g qx) 1 6) false 0 0 55 [(0, .ref (k0)), (1, .int (x1)), (3, .int (x3)), (4, .int (x4)), (5, .int (x5))] [] g M
theorem eX9_run {k0 : Nat} {x1 : Int32} {g : mj_S} {M : mj_M} {q : Int32 → mj_M → Prop} {qx : String → mj_M → Prop} (h0 : is9 g k0) (h : ((x1 : Int32) < (1 : Int32) → qx mj_IA (M)) ∧ (¬ (x1 : Int32) < (1 : Int32) → ((x1 : Int32) ≤ (9 : Int32) → ∃ (q1 : Int32 → mj_M → Prop), kX8_scheduleError (k0 + 82) g (M) q1 ∧ ∀ (v1 : Int32) (M1 : mj_M), q1 v1 M1 → (((v1 : Int32) = (-1 : Int32) → ∃ (q2 : mj_M → Prop), kX9_saveState (k0) g (M1) q2 ∧ ∀ (M2 : mj_M), q2 M2 → (LX9_run_44 k0 (x1) (1) g (M2) q qx)) ∧ (¬ (v1 : Int32) = (-1 : Int32) → q ((-1 : Int32) - (v1)) (M1)))) ∧ (¬ (x1 : Int32) ≤ (9 : Int32) → qx mj_IA (M)))) : kX9_run (k0) (x1) g M q qx := by
  intro d hd; refine mj_enter (by decide +kernel) (Nat.le_of_ble_eq_true rfl) ?_
  show mj_G mtX9_run (mj_rm d 1 6) (mj_Fi (mj_qI g q) (mj_qX g qx) 1 6) false 1 6 0 [(0, .ref (k0)), (1, .int (x1))] [] g M
  refine mg_iload_n dX9_run_0 rfl 1 rfl ?_
  refine mg_iconst (v := 1) dX9_run_1 (by decide) ?_
  refine mg_icmp_lt (tgt := 11) dX9_run_2 (by decide) (fun hc => ?_) (fun hc => ?_)
  · replace h := h.1 hc
    exact mg_throw (ti := 14) rfl rfl xw_IA rfl dX9_run_11 dX9_run_14 dX9_run_15 dX9_run_17 dX9_run_20 (Nat.le_trans (Nat.le_of_ble_eq_true rfl) hd) (Nat.le_of_ble_eq_true rfl) (Nat.le_of_ble_eq_true rfl) ⟨rfl, h⟩
  · replace h := h.2 hc
    refine mg_iload_n dX9_run_5 rfl 1 rfl ?_
    refine mg_bipush (v := 9) dX9_run_6 (by decide) ?_
    refine mg_icmp_le (tgt := 21) dX9_run_8 (by decide) (fun hc => ?_) (fun hc => ?_)
    · replace h := h.1 hc
      refine mg_aload_n dX9_run_21 rfl 0 rfl ?_
      refine mg_getR (j := 4) dX9_run_22 kc_9 (Nat.le_of_ble_eq_true rfl) wd_235 rfl rfl h0.1.1 h0.1.2 h0.2.2.2.2.1.1 ?_
      obtain ⟨q1, hC, hk⟩ := h
      refine mc_Vi [] [] dX9_run_25 wd_988 kiX8_scheduleError (Nat.le_of_ble_eq_true rfl) h0.2.2.2.2.1.2.1.1 h0.2.2.2.2.1.2.1.2 rfl (Nat.le_trans (Nat.le_of_ble_eq_true rfl) hd) hC (fun v1 M1 hq => ?_)
      replace h := hk v1 M1 hq
      refine mg_istore_n (ls' := [(2, .int (v1)), (0, .ref (k0)), (1, .int (x1))]) dX9_run_28 rfl (Nat.le_of_ble_eq_true rfl) rfl ?_
      refine mg_iload_n dX9_run_29 rfl 0 rfl ?_
      refine mg_iconst (v := (-1)) dX9_run_30 (by decide) ?_
      refine mg_icmp_eq (tgt := 38) dX9_run_31 (by decide) (fun hc => ?_) (fun hc => ?_)
      · replace h := h.1 hc
        refine mg_aload_n dX9_run_38 rfl 1 rfl ?_
        obtain ⟨q2, hC, hk⟩ := h
        refine mc_Vv [] [] dX9_run_39 wd_745 kiX9_saveState (Nat.le_of_ble_eq_true rfl) h0.1.1 h0.1.2 rfl (Nat.le_trans (Nat.le_of_ble_eq_true rfl) hd) hC (fun M2 hq => ?_)
        replace h := hk M2 hq
        refine mg_iconst (v := 1) dX9_run_42 (by decide) ?_
        refine mg_istore_n (ls' := [(3, .int (1)), (2, .int (v1)), (0, .ref (k0)), (1, .int (x1))]) dX9_run_43 rfl (Nat.le_of_ble_eq_true rfl) rfl ?_
        refine mg_bud (Nat.zero_le _) (Nat.zero_le _) ?_
        exact mg_pick [2, 3, 0] rfl (h d hd)
      · replace h := h.2 hc
        refine mg_iconst (v := (-1)) dX9_run_34 (by decide) ?_
        refine mg_iload_n dX9_run_35 rfl 0 rfl ?_
        refine mg_isub dX9_run_36 ?_
        exact mex_i dX9_run_37 rfl h
    · replace h := h.2 hc
      exact mg_throw (ti := 14) rfl rfl xw_IA rfl dX9_run_11 dX9_run_14 dX9_run_15 dX9_run_17 dX9_run_20 (Nat.le_trans (Nat.le_of_ble_eq_true rfl) hd) (Nat.le_of_ble_eq_true rfl) (Nat.le_of_ble_eq_true rfl) ⟨rfl, h⟩
theorem bX9_run_44 {k0 : Nat} {x1 : Int32} {x3 : Int32} {g : mj_S} {M : mj_M} {q : Int32 → mj_M → Prop} {qx : String → mj_M → Prop} (h0 : is9 g k0) (h : ((x1 : Int32) < (x3) → q (x1) (M)) ∧ (¬ (x1 : Int32) < (x3) → LX9_run_55 k0 (x1) (x3) (1) (0) g (M) q qx)) : LX9_run_44 k0 x1 x3 g M q qx := by
  intro d hd
  refine mg_iload_n dX9_run_44 rfl 2 rfl ?_
  refine mg_iload_n dX9_run_45 rfl 1 rfl ?_
  refine mg_icmp_gt (tgt := 135) dX9_run_46 (by decide) (fun hc => ?_) (fun hc => ?_)
  · replace h := h.1 hc
    refine mg_iload_n dX9_run_135 rfl 1 rfl ?_
    exact mex_i dX9_run_136 rfl h
  · replace h := h.2 hc
    refine mg_iconst (v := 1) dX9_run_49 (by decide) ?_
    refine mg_istore (ls' := [(4, .int (1)), (0, .ref (k0)), (1, .int (x1)), (3, .int (x3))]) dX9_run_50 (Nat.le_of_ble_eq_true rfl) rfl ?_
    refine mg_iconst (v := 0) dX9_run_52 (by decide) ?_
    refine mg_istore (ls' := [(5, .int (0)), (4, .int (1)), (0, .ref (k0)), (1, .int (x1)), (3, .int (x3))]) dX9_run_53 (Nat.le_of_ble_eq_true rfl) rfl ?_
    refine mg_bud (Nat.zero_le _) (Nat.zero_le _) ?_
    exact mg_pick [2, 3, 4, 1, 0] rfl (h d hd)
theorem bX9_run_55 {k0 : Nat} {x1 : Int32} {x3 : Int32} {x4 : Int32} {x5 : Int32} {g : mj_S} {M : mj_M} {q : Int32 → mj_M → Prop} {qx : String → mj_M → Prop} (h0 : is9 g k0) (h : ∃ (q1 : Int32 → mj_M → Prop), kX8_size (k0 + 82) g (M) q1 ∧ ∀ (v1 : Int32) (M1 : mj_M), q1 v1 M1 → (((v1 : Int32) ≤ (x5) → (¬ (x4 : Int32) = 0 → q (x3) (M1)) ∧ ((x4 : Int32) = 0 → ∃ (q2 : Int32 → mj_M → Prop), kX0_isContradictory (k0 + 1 + 1) g (M1) q2 ∧ ∀ (v2 : Int32) (M2 : mj_M), q2 v2 M2 → (((v2 : Int32) = 0 → LX9_run_44 k0 (x1) (x3 + 1) g (M2) q qx) ∧ (¬ (v2 : Int32) = 0 → q (x3) (M2))))) ∧ (¬ (v1 : Int32) ≤ (x5) → ∃ (q3 : Int32 → mj_M → Prop), kX8_techniqueAt (k0 + 82) (x5) g (M1) q3 ∧ ∀ (v3 : Int32) (M3 : mj_M), q3 v3 M3 → (((v3 : Int32) = (-1 : Int32) → LX9_run_55 k0 (x1) (x3) (x4) (x5 + 1) g (M3) q qx) ∧ (¬ (v3 : Int32) = (-1 : Int32) → ∃ (q4 : Int32 → mj_M → Prop), kX7_perform (k0 + 88) (k0 + 1) (v3) g (M3) q4 ∧ ∀ (v4 : Int32) (M4 : mj_M), q4 v4 M4 → (((v4 : Int32) = 0 → LX9_run_55 k0 (x1) (x3) (x4) (x5 + 1) g (M4) q qx) ∧ (¬ (v4 : Int32) = 0 → LX9_run_55 k0 (x1) (x3) (0) (x5 + 1) g (M4) q qx))))))) : LX9_run_55 k0 x1 x3 x4 x5 g M q qx := by
  intro d hd
  refine mg_iload dX9_run_55 4 rfl ?_
  refine mg_aload_n dX9_run_57 rfl 0 rfl ?_
  refine mg_getR (j := 4) dX9_run_58 kc_9 (Nat.le_of_ble_eq_true rfl) wd_235 rfl rfl h0.1.1 h0.1.2 h0.2.2.2.2.1.1 ?_
  obtain ⟨q1, hC, hk⟩ := h
  refine mc_Vi [] [.int (x5)] dX9_run_61 wd_298 kiX8_size (Nat.le_of_ble_eq_true rfl) h0.2.2.2.2.1.2.1.1 h0.2.2.2.2.1.2.1.2 rfl (Nat.le_trans (Nat.le_of_ble_eq_true rfl) hd) hC (fun v1 M1 hq => ?_)
  replace h := hk v1 M1 hq
  refine mg_icmp_ge (tgt := 109) dX9_run_64 (by decide) (fun hc => ?_) (fun hc => ?_)
  · replace h := h.1 hc
    refine mg_iload dX9_run_109 3 rfl ?_
    refine mg_if_ne (tgt := 127) dX9_run_111 (by decide) (fun hc => ?_) (fun hc => ?_)
    · replace h := h.1 hc
      refine mg_iload_n dX9_run_127 rfl 2 rfl ?_
      exact mex_i dX9_run_128 rfl h
    · replace h := h.2 hc
      refine mg_aload_n dX9_run_114 rfl 0 rfl ?_
      refine mg_getR (j := 0) dX9_run_115 kc_9 (Nat.le_of_ble_eq_true rfl) wd_231 rfl rfl h0.1.1 h0.1.2 h0.2.1.1 ?_
      refine mg_getR (j := 3) dX9_run_118 kc_6 (Nat.le_of_ble_eq_true rfl) wd_75 rfl rfl h0.2.1.2.1.1 h0.2.1.2.1.2 h0.2.1.2.2.1.1 ?_
      obtain ⟨q2, hC, hk⟩ := h
      refine mc_Vi [] [] dX9_run_121 wd_286 kiX0_isContradictory (Nat.le_of_ble_eq_true rfl) h0.2.1.2.2.1.2.1.1 h0.2.1.2.2.1.2.1.2 rfl (Nat.le_trans (Nat.le_of_ble_eq_true rfl) hd) hC (fun v2 M2 hq => ?_)
      replace h := hk v2 M2 hq
      refine mg_if_eq (tgt := 129) dX9_run_124 (by decide) (fun hc => ?_) (fun hc => ?_)
      · replace h := h.1 hc
        refine mg_iinc (v := x3 + 1) (ls' := [(3, .int (x3 + 1)), (0, .ref (k0)), (1, .int (x1)), (4, .int (x4)), (5, .int (x5))]) dX9_run_129 2 rfl rfl (Nat.le_of_ble_eq_true rfl) rfl ?_
        refine mg_goto (tgt := 44) dX9_run_132 (by decide) ?_
        refine mg_bud (Nat.zero_le _) (Nat.zero_le _) ?_
        exact mg_pick [1, 2, 0] rfl (h d hd)
      · replace h := h.2 hc
        refine mg_iload_n dX9_run_127 rfl 2 rfl ?_
        exact mex_i dX9_run_128 rfl h
  · replace h := h.2 hc
    refine mg_aload_n dX9_run_67 rfl 0 rfl ?_
    refine mg_getR (j := 4) dX9_run_68 kc_9 (Nat.le_of_ble_eq_true rfl) wd_235 rfl rfl h0.1.1 h0.1.2 h0.2.2.2.2.1.1 ?_
    refine mg_iload dX9_run_71 4 rfl ?_
    obtain ⟨q3, hC, hk⟩ := h
    refine mc_Vi [.int (x5)] [] dX9_run_73 wd_1080 kiX8_techniqueAt (Nat.le_of_ble_eq_true rfl) h0.2.2.2.2.1.2.1.1 h0.2.2.2.2.1.2.1.2 rfl (Nat.le_trans (Nat.le_of_ble_eq_true rfl) hd) hC (fun v3 M3 hq => ?_)
    replace h := hk v3 M3 hq
    refine mg_istore (ls' := [(6, .int (v3)), (0, .ref (k0)), (1, .int (x1)), (3, .int (x3)), (4, .int (x4)), (5, .int (x5))]) dX9_run_76 (Nat.le_of_ble_eq_true rfl) rfl ?_
    refine mg_iload dX9_run_78 0 rfl ?_
    refine mg_iconst (v := (-1)) dX9_run_80 (by decide) ?_
    refine mg_icmp_eq (tgt := 103) dX9_run_81 (by decide) (fun hc => ?_) (fun hc => ?_)
    · replace h := h.1 hc
      refine mg_iinc (v := x5 + 1) (ls' := [(5, .int (x5 + 1)), (6, .int (v3)), (0, .ref (k0)), (1, .int (x1)), (3, .int (x3)), (4, .int (x4))]) dX9_run_103 5 rfl rfl (Nat.le_of_ble_eq_true rfl) rfl ?_
      refine mg_goto (tgt := 55) dX9_run_106 (by decide) ?_
      refine mg_bud (Nat.zero_le _) (Nat.zero_le _) ?_
      exact mg_pick [2, 3, 4, 5, 0] rfl (h d hd)
    · replace h := h.2 hc
      refine mg_aload_n dX9_run_84 rfl 1 rfl ?_
      refine mg_getR (j := 7) dX9_run_85 kc_9 (Nat.le_of_ble_eq_true rfl) wd_238 rfl rfl h0.1.1 h0.1.2 h0.2.2.2.2.2.2.2.1 ?_
      refine mg_aload_n dX9_run_88 rfl 1 rfl ?_
      refine mg_getR (j := 0) dX9_run_89 kc_9 (Nat.le_of_ble_eq_true rfl) wd_231 rfl rfl h0.1.1 h0.1.2 h0.2.1.1 ?_
      refine mg_iload dX9_run_92 0 rfl ?_
      obtain ⟨q4, hC, hk⟩ := h
      refine mc_Vi [.ref (k0 + 1), .int (v3)] [] dX9_run_94 wd_393 kiX7_perform (Nat.le_of_ble_eq_true rfl) h0.2.2.2.2.2.2.2.2.1.1 h0.2.2.2.2.2.2.2.2.1.2 rfl (Nat.le_trans (Nat.le_of_ble_eq_true rfl) hd) hC (fun v4 M4 hq => ?_)
      replace h := hk v4 M4 hq
      refine mg_if_eq (tgt := 103) dX9_run_97 (by decide) (fun hc => ?_) (fun hc => ?_)
      · replace h := h.1 hc
        refine mg_iinc (v := x5 + 1) (ls' := [(5, .int (x5 + 1)), (6, .int (v3)), (0, .ref (k0)), (1, .int (x1)), (3, .int (x3)), (4, .int (x4))]) dX9_run_103 5 rfl rfl (Nat.le_of_ble_eq_true rfl) rfl ?_
        refine mg_goto (tgt := 55) dX9_run_106 (by decide) ?_
        refine mg_bud (Nat.zero_le _) (Nat.zero_le _) ?_
        exact mg_pick [2, 3, 4, 5, 0] rfl (h d hd)
      · replace h := h.2 hc
        refine mg_iconst (v := 0) dX9_run_100 (by decide) ?_
        refine mg_istore (ls' := [(4, .int (0)), (6, .int (v3)), (0, .ref (k0)), (1, .int (x1)), (3, .int (x3)), (5, .int (x5))]) dX9_run_101 (Nat.le_of_ble_eq_true rfl) rfl ?_
        refine mg_iinc (v := x5 + 1) (ls' := [(5, .int (x5 + 1)), (4, .int (0)), (6, .int (v3)), (0, .ref (k0)), (1, .int (x1)), (3, .int (x3))]) dX9_run_103 5 rfl rfl (Nat.le_of_ble_eq_true rfl) rfl ?_
        refine mg_goto (tgt := 55) dX9_run_106 (by decide) ?_
        refine mg_bud (Nat.zero_le _) (Nat.zero_le _) ?_
        exact mg_pick [3, 4, 5, 1, 0] rfl (h d hd)
theorem dX9_eliminate_0 : decode cX9_eliminate 0 = .ok (.aload_n 0, 1) := by decide +kernel
theorem dX9_eliminate_1 : decode cX9_eliminate 1 = .ok (.iload_n 1, 1) := by decide +kernel
theorem dX9_eliminate_2 : decode cX9_eliminate 2 = .ok (.invokevirtual 132, 3) := by decide +kernel
theorem dX9_eliminate_5 : decode cX9_eliminate 5 = .ok (.aload_n 0, 1) := by decide +kernel
theorem dX9_eliminate_6 : decode cX9_eliminate 6 = .ok (.getfield 51, 3) := by decide +kernel
theorem dX9_eliminate_9 : decode cX9_eliminate 9 = .ok (.aload_n 0, 1) := by decide +kernel
theorem dX9_eliminate_10 : decode cX9_eliminate 10 = .ok (.getfield 12, 3) := by decide +kernel
theorem dX9_eliminate_13 : decode cX9_eliminate 13 = .ok (.iload_n 1, 1) := by decide +kernel
theorem dX9_eliminate_14 : decode cX9_eliminate 14 = .ok (.invokevirtual 193, 3) := by decide +kernel
theorem dX9_eliminate_17 : decode cX9_eliminate 17 = .ok (.ifCond .ne 13, 3) := by decide +kernel
theorem dX9_eliminate_20 : decode cX9_eliminate 20 = .ok (.new 152, 3) := by decide +kernel
theorem dX9_eliminate_23 : decode cX9_eliminate 23 = .ok (.dup, 1) := by decide +kernel
theorem dX9_eliminate_24 : decode cX9_eliminate 24 = .ok (.ldc 197, 2) := by decide +kernel
theorem dX9_eliminate_26 : decode cX9_eliminate 26 = .ok (.invokespecial 156, 3) := by decide +kernel
theorem dX9_eliminate_29 : decode cX9_eliminate 29 = .ok (.athrow, 1) := by decide +kernel
theorem dX9_eliminate_30 : decode cX9_eliminate 30 = .ok (.aload_n 0, 1) := by decide +kernel
theorem dX9_eliminate_31 : decode cX9_eliminate 31 = .ok (.invokevirtual 65, 3) := by decide +kernel
theorem dX9_eliminate_34 : decode cX9_eliminate 34 = .ok (.aload_n 0, 1) := by decide +kernel
theorem dX9_eliminate_35 : decode cX9_eliminate 35 = .ok (.getfield 51, 3) := by decide +kernel
theorem dX9_eliminate_38 : decode cX9_eliminate 38 = .ok (.aload_n 0, 1) := by decide +kernel
theorem dX9_eliminate_39 : decode cX9_eliminate 39 = .ok (.getfield 12, 3) := by decide +kernel
theorem dX9_eliminate_42 : decode cX9_eliminate 42 = .ok (.iload_n 1, 1) := by decide +kernel
theorem dX9_eliminate_43 : decode cX9_eliminate 43 = .ok (.invokevirtual 199, 3) := by decide +kernel
theorem dX9_eliminate_46 : decode cX9_eliminate 46 = .ok (.aload_n 0, 1) := by decide +kernel
theorem dX9_eliminate_47 : decode cX9_eliminate 47 = .ok (.getfield 12, 3) := by decide +kernel
theorem dX9_eliminate_50 : decode cX9_eliminate 50 = .ok (.iconst 4, 1) := by decide +kernel
theorem dX9_eliminate_51 : decode cX9_eliminate 51 = .ok (.iconst 1, 1) := by decide +kernel
theorem dX9_eliminate_52 : decode cX9_eliminate 52 = .ok (.invokevirtual 203, 3) := by decide +kernel
theorem dX9_eliminate_55 : decode cX9_eliminate 55 = .ok (.aload_n 0, 1) := by decide +kernel
theorem dX9_eliminate_56 : decode cX9_eliminate 56 = .ok (.getfield 51, 3) := by decide +kernel
theorem dX9_eliminate_59 : decode cX9_eliminate 59 = .ok (.getfield 206, 3) := by decide +kernel
theorem dX9_eliminate_62 : decode cX9_eliminate 62 = .ok (.getfield 210, 3) := by decide +kernel
theorem dX9_eliminate_65 : decode cX9_eliminate 65 = .ok (.invokevirtual 92, 3) := by decide +kernel
theorem dX9_eliminate_68 : decode cX9_eliminate 68 = .ok (.ireturn, 1) := by decide +kernel
abbrev mtX9_eliminate : mj_T := (yX9_eliminate.cls, cX9_eliminate, 2, (some .int), mj_no, yX9_eliminate.name)
abbrev kX9_eliminate (k0 : Nat) (x1 : Int32) (g : mj_S) (M : mj_M) (q : Int32 → mj_M → Prop) (qx : String → mj_M → Prop) : Prop := mj_CIX yX9_eliminate (.code yX9_eliminate cX9_eliminate 2 (some .int)) 8 2 12 [.ref (k0), .int (x1)] g M q qx
theorem kiX9_eliminate : mj_cV yX9_eliminate cX9_eliminate 2 (some .int) 1 := ⟨⟨wd_1085, wd_1086, wd_1, wd_1087⟩, ⟨by decide +kernel, by decide +kernel, by decide +kernel⟩, Nat.le_of_ble_eq_true rfl⟩
theorem eX9_eliminate {k0 : Nat} {x1 : Int32} {g : mj_S} {M : mj_M} {q : Int32 → mj_M → Prop} {qx : String → mj_M → Prop} (h0 : is9 g k0) (h : ∃ (q1 : mj_M → Prop) (qx1 : String → mj_M → Prop), kX9_requireVariable (k0) (x1) g (M) q1 qx1 ∧ (∀ (X : String) (M' : mj_M), qx1 X M' → qx X M') ∧ ∀ (M1 : mj_M), q1 M1 → (∃ (q2 : Int32 → mj_M → Prop), kX7_findElimination (k0 + 88) (k0 + 1) (x1) g (M1) q2 ∧ ∀ (v2 : Int32) (M2 : mj_M), q2 v2 M2 → ((¬ (v2 : Int32) = 0 → ∃ (q3 : mj_M → Prop), kX9_saveState (k0) g (M2) q3 ∧ ∀ (M3 : mj_M), q3 M3 → (∃ (q4 : mj_M → Prop), kX7_eliminateFound (k0 + 88) (k0 + 1) (x1) g (M3) q4 ∧ ∀ (M4 : mj_M), q4 M4 → (∃ (q5 : mj_M → Prop), kX6_addToTotal (k0 + 1) (4) (1) g (M4) q5 ∧ ∀ (M5 : mj_M), q5 M5 → (∃ (q6 : Int32 → mj_M → Prop), kX0_size (k0 + 88 + 1 + 1) g (M5) q6 ∧ ∀ (v6 : Int32) (M6 : mj_M), q6 v6 M6 → (q (v6) (M6)))))) ∧ ((v2 : Int32) = 0 → qx mj_IS (M2))))) : kX9_eliminate (k0) (x1) g M q qx := by
  intro d hd; refine mj_enter (by decide +kernel) (Nat.le_of_ble_eq_true rfl) ?_
  show mj_G mtX9_eliminate (mj_rm d 2 12) (mj_Fi (mj_qI g q) (mj_qX g qx) 2 12) false 2 12 0 [(0, .ref (k0)), (1, .int (x1))] [] g M
  refine mg_aload_n dX9_eliminate_0 rfl 0 rfl ?_
  refine mg_iload_n dX9_eliminate_1 rfl 1 rfl ?_
  obtain ⟨q1, qx1, hC, hkx, hk⟩ := h
  refine mx_Vv [.int (x1)] [] dX9_eliminate_2 wd_856 kiX9_requireVariable (Nat.le_of_ble_eq_true rfl) h0.1.1 h0.1.2 rfl (Nat.le_trans (Nat.le_of_ble_eq_true rfl) hd) ⟨Nat.le_of_ble_eq_true rfl, Nat.le_of_ble_eq_true rfl⟩ rfl rfl hC hkx (fun M1 hq => ?_)
  replace h := hk M1 hq
  refine mg_aload_n dX9_eliminate_5 rfl 0 rfl ?_
  refine mg_getR (j := 7) dX9_eliminate_6 kc_9 (Nat.le_of_ble_eq_true rfl) wd_238 rfl rfl h0.1.1 h0.1.2 h0.2.2.2.2.2.2.2.1 ?_
  refine mg_aload_n dX9_eliminate_9 rfl 0 rfl ?_
  refine mg_getR (j := 0) dX9_eliminate_10 kc_9 (Nat.le_of_ble_eq_true rfl) wd_231 rfl rfl h0.1.1 h0.1.2 h0.2.1.1 ?_
  refine mg_iload_n dX9_eliminate_13 rfl 1 rfl ?_
  obtain ⟨q2, hC, hk⟩ := h
  refine mc_Vi [.ref (k0 + 1), .int (x1)] [] dX9_eliminate_14 wd_1088 kiX7_findElimination (Nat.le_of_ble_eq_true rfl) h0.2.2.2.2.2.2.2.2.1.1 h0.2.2.2.2.2.2.2.2.1.2 rfl (Nat.le_trans (Nat.le_of_ble_eq_true rfl) hd) hC (fun v2 M2 hq => ?_)
  replace h := hk v2 M2 hq
  refine mg_if_ne (tgt := 30) dX9_eliminate_17 (by decide) (fun hc => ?_) (fun hc => ?_)
  · replace h := h.1 hc
    refine mg_aload_n dX9_eliminate_30 rfl 0 rfl ?_
    obtain ⟨q3, hC, hk⟩ := h
    refine mc_Vv [] [] dX9_eliminate_31 wd_745 kiX9_saveState (Nat.le_of_ble_eq_true rfl) h0.1.1 h0.1.2 rfl (Nat.le_trans (Nat.le_of_ble_eq_true rfl) hd) hC (fun M3 hq => ?_)
    replace h := hk M3 hq
    refine mg_aload_n dX9_eliminate_34 rfl 0 rfl ?_
    refine mg_getR (j := 7) dX9_eliminate_35 kc_9 (Nat.le_of_ble_eq_true rfl) wd_238 rfl rfl h0.1.1 h0.1.2 h0.2.2.2.2.2.2.2.1 ?_
    refine mg_aload_n dX9_eliminate_38 rfl 0 rfl ?_
    refine mg_getR (j := 0) dX9_eliminate_39 kc_9 (Nat.le_of_ble_eq_true rfl) wd_231 rfl rfl h0.1.1 h0.1.2 h0.2.1.1 ?_
    refine mg_iload_n dX9_eliminate_42 rfl 1 rfl ?_
    obtain ⟨q4, hC, hk⟩ := h
    refine mc_Vv [.ref (k0 + 1), .int (x1)] [] dX9_eliminate_43 wd_1090 kiX7_eliminateFound (Nat.le_of_ble_eq_true rfl) h0.2.2.2.2.2.2.2.2.1.1 h0.2.2.2.2.2.2.2.2.1.2 rfl (Nat.le_trans (Nat.le_of_ble_eq_true rfl) hd) hC (fun M4 hq => ?_)
    replace h := hk M4 hq
    refine mg_aload_n dX9_eliminate_46 rfl 0 rfl ?_
    refine mg_getR (j := 0) dX9_eliminate_47 kc_9 (Nat.le_of_ble_eq_true rfl) wd_231 rfl rfl h0.1.1 h0.1.2 h0.2.1.1 ?_
    refine mg_iconst (v := 4) dX9_eliminate_50 (by decide) ?_
    refine mg_iconst (v := 1) dX9_eliminate_51 (by decide) ?_
    obtain ⟨q5, hC, hk⟩ := h
    refine mc_Vv [.int (4), .int (1)] [] dX9_eliminate_52 wd_1091 kiX6_addToTotal (Nat.le_of_ble_eq_true rfl) h0.2.1.2.1.1 h0.2.1.2.1.2 rfl (Nat.le_trans (Nat.le_of_ble_eq_true rfl) hd) hC (fun M5 hq => ?_)
    replace h := hk M5 hq
    refine mg_aload_n dX9_eliminate_55 rfl 0 rfl ?_
    refine mg_getR (j := 7) dX9_eliminate_56 kc_9 (Nat.le_of_ble_eq_true rfl) wd_238 rfl rfl h0.1.1 h0.1.2 h0.2.2.2.2.2.2.2.1 ?_
    refine mg_getR (j := 0) dX9_eliminate_59 kc_7 (Nat.le_of_ble_eq_true rfl) wd_219 rfl rfl h0.2.2.2.2.2.2.2.2.1.1 h0.2.2.2.2.2.2.2.2.1.2 h0.2.2.2.2.2.2.2.2.2.1.1 ?_
    refine mg_getR (j := 0) dX9_eliminate_62 kc_5 (Nat.le_of_ble_eq_true rfl) wd_178 rfl rfl h0.2.2.2.2.2.2.2.2.2.1.2.1.1 h0.2.2.2.2.2.2.2.2.2.1.2.1.2 h0.2.2.2.2.2.2.2.2.2.1.2.2.1 ?_
    obtain ⟨q6, hC, hk⟩ := h
    refine mc_Vi [] [] dX9_eliminate_65 wd_260 kiX0_size (Nat.le_of_ble_eq_true rfl) h0.2.2.2.2.2.2.2.2.2.1.2.2.2.1.1 h0.2.2.2.2.2.2.2.2.2.1.2.2.2.1.2 rfl (Nat.le_trans (Nat.le_of_ble_eq_true rfl) hd) hC (fun v6 M6 hq => ?_)
    replace h := hk v6 M6 hq
    exact mex_i dX9_eliminate_68 rfl h
  · replace h := h.2 hc
    exact mg_throw (ti := 15) rfl rfl xw_IS rfl dX9_eliminate_20 dX9_eliminate_23 dX9_eliminate_24 dX9_eliminate_26 dX9_eliminate_29 (Nat.le_trans (Nat.le_of_ble_eq_true rfl) hd) (Nat.le_of_ble_eq_true rfl) (Nat.le_of_ble_eq_true rfl) ⟨rfl, h⟩
theorem dX9_setGrowth_0 : decode cX9_setGrowth 0 = .ok (.iload_n 1, 1) := by decide +kernel
theorem dX9_setGrowth_1 : decode cX9_setGrowth 1 = .ok (.ifCond .lt 9, 3) := by decide +kernel
theorem dX9_setGrowth_4 : decode cX9_setGrowth 4 = .ok (.iload_n 1, 1) := by decide +kernel
theorem dX9_setGrowth_5 : decode cX9_setGrowth 5 = .ok (.bipush 8, 2) := by decide +kernel
theorem dX9_setGrowth_7 : decode cX9_setGrowth 7 = .ok (.if_icmp .le 13, 3) := by decide +kernel
theorem dX9_setGrowth_10 : decode cX9_setGrowth 10 = .ok (.new 55, 3) := by decide +kernel
theorem dX9_setGrowth_13 : decode cX9_setGrowth 13 = .ok (.dup, 1) := by decide +kernel
theorem dX9_setGrowth_14 : decode cX9_setGrowth 14 = .ok (.ldc 215, 2) := by decide +kernel
theorem dX9_setGrowth_16 : decode cX9_setGrowth 16 = .ok (.invokespecial 59, 3) := by decide +kernel
theorem dX9_setGrowth_19 : decode cX9_setGrowth 19 = .ok (.athrow, 1) := by decide +kernel
theorem dX9_setGrowth_20 : decode cX9_setGrowth 20 = .ok (.aload_n 0, 1) := by decide +kernel
theorem dX9_setGrowth_21 : decode cX9_setGrowth 21 = .ok (.getfield 12, 3) := by decide +kernel
theorem dX9_setGrowth_24 : decode cX9_setGrowth 24 = .ok (.getfield 217, 3) := by decide +kernel
theorem dX9_setGrowth_27 : decode cX9_setGrowth 27 = .ok (.istore_n 2, 1) := by decide +kernel
theorem dX9_setGrowth_28 : decode cX9_setGrowth 28 = .ok (.aload_n 0, 1) := by decide +kernel
theorem dX9_setGrowth_29 : decode cX9_setGrowth 29 = .ok (.invokevirtual 65, 3) := by decide +kernel
theorem dX9_setGrowth_32 : decode cX9_setGrowth 32 = .ok (.aload_n 0, 1) := by decide +kernel
theorem dX9_setGrowth_33 : decode cX9_setGrowth 33 = .ok (.getfield 12, 3) := by decide +kernel
theorem dX9_setGrowth_36 : decode cX9_setGrowth 36 = .ok (.iload_n 1, 1) := by decide +kernel
theorem dX9_setGrowth_37 : decode cX9_setGrowth 37 = .ok (.putfield 217, 3) := by decide +kernel
theorem dX9_setGrowth_40 : decode cX9_setGrowth 40 = .ok (.iload_n 2, 1) := by decide +kernel
theorem dX9_setGrowth_41 : decode cX9_setGrowth 41 = .ok (.ireturn, 1) := by decide +kernel
abbrev mtX9_setGrowth : mj_T := (yX9_setGrowth.cls, cX9_setGrowth, 3, (some .int), mj_no, yX9_setGrowth.name)
abbrev kX9_setGrowth (k0 : Nat) (x1 : Int32) (g : mj_S) (M : mj_M) (q : Int32 → mj_M → Prop) (qx : String → mj_M → Prop) : Prop := mj_CIX yX9_setGrowth (.code yX9_setGrowth cX9_setGrowth 3 (some .int)) 7 1 6 [.ref (k0), .int (x1)] g M q qx
theorem kiX9_setGrowth : mj_cV yX9_setGrowth cX9_setGrowth 3 (some .int) 1 := ⟨⟨wd_1096, wd_1097, wd_1, wd_1098⟩, ⟨by decide +kernel, by decide +kernel, by decide +kernel⟩, Nat.le_of_ble_eq_true rfl⟩
theorem eX9_setGrowth {k0 : Nat} {x1 : Int32} {g : mj_S} {M : mj_M} {q : Int32 → mj_M → Prop} {qx : String → mj_M → Prop} (h0 : is9 g k0) (h : ((x1 : Int32) < 0 → qx mj_IA (M)) ∧ (¬ (x1 : Int32) < 0 → ((x1 : Int32) ≤ (8 : Int32) → ∃ (q1 : mj_M → Prop), kX9_saveState (k0) g (M) q1 ∧ ∀ (M1 : mj_M), q1 M1 → (q ((M).1 (k0 + 1) 1) (mj_wI (M1) (k0 + 1) 1 (x1)))) ∧ (¬ (x1 : Int32) ≤ (8 : Int32) → qx mj_IA (M)))) : kX9_setGrowth (k0) (x1) g M q qx := by
  intro d hd; refine mj_enter (by decide +kernel) (Nat.le_of_ble_eq_true rfl) ?_
  show mj_G mtX9_setGrowth (mj_rm d 1 6) (mj_Fi (mj_qI g q) (mj_qX g qx) 1 6) false 1 6 0 [(0, .ref (k0)), (1, .int (x1))] [] g M
  refine mg_iload_n dX9_setGrowth_0 rfl 1 rfl ?_
  refine mg_if_lt (tgt := 10) dX9_setGrowth_1 (by decide) (fun hc => ?_) (fun hc => ?_)
  · replace h := h.1 hc
    exact mg_throw (ti := 16) rfl rfl xw_IA rfl dX9_setGrowth_10 dX9_setGrowth_13 dX9_setGrowth_14 dX9_setGrowth_16 dX9_setGrowth_19 (Nat.le_trans (Nat.le_of_ble_eq_true rfl) hd) (Nat.le_of_ble_eq_true rfl) (Nat.le_of_ble_eq_true rfl) ⟨rfl, h⟩
  · replace h := h.2 hc
    refine mg_iload_n dX9_setGrowth_4 rfl 1 rfl ?_
    refine mg_bipush (v := 8) dX9_setGrowth_5 (by decide) ?_
    refine mg_icmp_le (tgt := 20) dX9_setGrowth_7 (by decide) (fun hc => ?_) (fun hc => ?_)
    · replace h := h.1 hc
      refine mg_aload_n dX9_setGrowth_20 rfl 0 rfl ?_
      refine mg_getR (j := 0) dX9_setGrowth_21 kc_9 (Nat.le_of_ble_eq_true rfl) wd_231 rfl rfl h0.1.1 h0.1.2 h0.2.1.1 ?_
      refine mg_getI (j := 1) dX9_setGrowth_24 kc_6 (Nat.le_of_ble_eq_true rfl) wd_69 rfl rfl h0.2.1.2.1.1 h0.2.1.2.1.2 rfl ?_
      refine mg_istore_n (ls' := [(2, .int ((M).1 (k0 + 1) 1)), (0, .ref (k0)), (1, .int (x1))]) dX9_setGrowth_27 rfl (Nat.le_of_ble_eq_true rfl) rfl ?_
      refine mg_aload_n dX9_setGrowth_28 rfl 1 rfl ?_
      obtain ⟨q1, hC, hk⟩ := h
      refine mc_Vv [] [] dX9_setGrowth_29 wd_745 kiX9_saveState (Nat.le_of_ble_eq_true rfl) h0.1.1 h0.1.2 rfl (Nat.le_trans (Nat.le_of_ble_eq_true rfl) hd) hC (fun M1 hq => ?_)
      replace h := hk M1 hq
      refine mg_aload_n dX9_setGrowth_32 rfl 1 rfl ?_
      refine mg_getR (j := 0) dX9_setGrowth_33 kc_9 (Nat.le_of_ble_eq_true rfl) wd_231 rfl rfl h0.1.1 h0.1.2 h0.2.1.1 ?_
      refine mg_iload_n dX9_setGrowth_36 rfl 2 rfl ?_
      refine mg_putI (j := 1) dX9_setGrowth_37 kc_6 (Nat.le_of_ble_eq_true rfl) wd_69 rfl rfl rfl h0.2.1.2.1.1 h0.2.1.2.1.2 ?_
      refine mg_iload_n dX9_setGrowth_40 rfl 0 rfl ?_
      exact mex_i dX9_setGrowth_41 rfl h
    · replace h := h.2 hc
      exact mg_throw (ti := 16) rfl rfl xw_IA rfl dX9_setGrowth_10 dX9_setGrowth_13 dX9_setGrowth_14 dX9_setGrowth_16 dX9_setGrowth_19 (Nat.le_trans (Nat.le_of_ble_eq_true rfl) hd) (Nat.le_of_ble_eq_true rfl) (Nat.le_of_ble_eq_true rfl) ⟨rfl, h⟩
theorem dX9_total_0 : decode cX9_total 0 = .ok (.aload_n 0, 1) := by decide +kernel
theorem dX9_total_1 : decode cX9_total 1 = .ok (.iload_n 1, 1) := by decide +kernel
theorem dX9_total_2 : decode cX9_total 2 = .ok (.invokevirtual 178, 3) := by decide +kernel
theorem dX9_total_5 : decode cX9_total 5 = .ok (.aload_n 0, 1) := by decide +kernel
theorem dX9_total_6 : decode cX9_total 6 = .ok (.getfield 12, 3) := by decide +kernel
theorem dX9_total_9 : decode cX9_total 9 = .ok (.iload_n 1, 1) := by decide +kernel
theorem dX9_total_10 : decode cX9_total 10 = .ok (.invokevirtual 220, 3) := by decide +kernel
theorem dX9_total_13 : decode cX9_total 13 = .ok (.ireturn, 1) := by decide +kernel
abbrev mtX9_total : mj_T := (yX9_total.cls, cX9_total, 2, (some .int), mj_no, yX9_total.name)
abbrev kX9_total (k0 : Nat) (x1 : Int32) (g : mj_S) (M : mj_M) (q : Int32 → mj_M → Prop) (qx : String → mj_M → Prop) : Prop := mj_CIX yX9_total (.code yX9_total cX9_total 2 (some .int)) 8 1 6 [.ref (k0), .int (x1)] g M q qx
theorem kiX9_total : mj_cV yX9_total cX9_total 2 (some .int) 1 := ⟨⟨wd_1104, wd_1105, wd_1, wd_1106⟩, ⟨by decide +kernel, by decide +kernel, by decide +kernel⟩, Nat.le_of_ble_eq_true rfl⟩
theorem eX9_total {k0 : Nat} {x1 : Int32} {g : mj_S} {M : mj_M} {q : Int32 → mj_M → Prop} {qx : String → mj_M → Prop} (h0 : is9 g k0) (h : ∃ (q1 : mj_M → Prop) (qx1 : String → mj_M → Prop), kX9_requireTechnique (k0) (x1) g (M) q1 qx1 ∧ (∀ (X : String) (M' : mj_M), qx1 X M' → qx X M') ∧ ∀ (M1 : mj_M), q1 M1 → (∃ (q2 : Int32 → mj_M → Prop), kX6_totalOf (k0 + 1) (x1) g (M1) q2 ∧ ∀ (v2 : Int32) (M2 : mj_M), q2 v2 M2 → (q (v2) (M2)))) : kX9_total (k0) (x1) g M q qx := by
  intro d hd; refine mj_enter (by decide +kernel) (Nat.le_of_ble_eq_true rfl) ?_
  show mj_G mtX9_total (mj_rm d 1 6) (mj_Fi (mj_qI g q) (mj_qX g qx) 1 6) false 1 6 0 [(0, .ref (k0)), (1, .int (x1))] [] g M
  refine mg_aload_n dX9_total_0 rfl 0 rfl ?_
  refine mg_iload_n dX9_total_1 rfl 1 rfl ?_
  obtain ⟨q1, qx1, hC, hkx, hk⟩ := h
  refine mx_Vv [.int (x1)] [] dX9_total_2 wd_975 kiX9_requireTechnique (Nat.le_of_ble_eq_true rfl) h0.1.1 h0.1.2 rfl (Nat.le_trans (Nat.le_of_ble_eq_true rfl) hd) ⟨Nat.le_of_ble_eq_true rfl, Nat.le_of_ble_eq_true rfl⟩ rfl rfl hC hkx (fun M1 hq => ?_)
  replace h := hk M1 hq
  refine mg_aload_n dX9_total_5 rfl 0 rfl ?_
  refine mg_getR (j := 0) dX9_total_6 kc_9 (Nat.le_of_ble_eq_true rfl) wd_231 rfl rfl h0.1.1 h0.1.2 h0.2.1.1 ?_
  refine mg_iload_n dX9_total_9 rfl 1 rfl ?_
  obtain ⟨q2, hC, hk⟩ := h
  refine mc_Vi [.int (x1)] [] dX9_total_10 wd_665 kiX6_totalOf (Nat.le_of_ble_eq_true rfl) h0.2.1.2.1.1 h0.2.1.2.1.2 rfl (Nat.le_trans (Nat.le_of_ble_eq_true rfl) hd) hC (fun v2 M2 hq => ?_)
  replace h := hk v2 M2 hq
  exact mex_i dX9_total_13 rfl h
theorem dX9_undo_0 : decode cX9_undo 0 = .ok (.aload_n 0, 1) := by decide +kernel
theorem dX9_undo_1 : decode cX9_undo 1 = .ok (.getfield 23, 3) := by decide +kernel
theorem dX9_undo_4 : decode cX9_undo 4 = .ok (.iconst 1, 1) := by decide +kernel
theorem dX9_undo_5 : decode cX9_undo 5 = .ok (.if_icmp .lt 15, 3) := by decide +kernel
theorem dX9_undo_8 : decode cX9_undo 8 = .ok (.aload_n 0, 1) := by decide +kernel
theorem dX9_undo_9 : decode cX9_undo 9 = .ok (.getfield 23, 3) := by decide +kernel
theorem dX9_undo_12 : decode cX9_undo 12 = .ok (.aload_n 0, 1) := by decide +kernel
theorem dX9_undo_13 : decode cX9_undo 13 = .ok (.getfield 19, 3) := by decide +kernel
theorem dX9_undo_16 : decode cX9_undo 16 = .ok (.arraylength, 1) := by decide +kernel
theorem dX9_undo_17 : decode cX9_undo 17 = .ok (.if_icmp .le 13, 3) := by decide +kernel
theorem dX9_undo_20 : decode cX9_undo 20 = .ok (.new 152, 3) := by decide +kernel
theorem dX9_undo_23 : decode cX9_undo 23 = .ok (.dup, 1) := by decide +kernel
theorem dX9_undo_24 : decode cX9_undo 24 = .ok (.ldc 223, 2) := by decide +kernel
theorem dX9_undo_26 : decode cX9_undo 26 = .ok (.invokespecial 156, 3) := by decide +kernel
theorem dX9_undo_29 : decode cX9_undo 29 = .ok (.athrow, 1) := by decide +kernel
theorem dX9_undo_30 : decode cX9_undo 30 = .ok (.aload_n 0, 1) := by decide +kernel
theorem dX9_undo_31 : decode cX9_undo 31 = .ok (.getfield 19, 3) := by decide +kernel
theorem dX9_undo_34 : decode cX9_undo 34 = .ok (.aload_n 0, 1) := by decide +kernel
theorem dX9_undo_35 : decode cX9_undo 35 = .ok (.getfield 23, 3) := by decide +kernel
theorem dX9_undo_38 : decode cX9_undo 38 = .ok (.iconst 1, 1) := by decide +kernel
theorem dX9_undo_39 : decode cX9_undo 39 = .ok (.isub, 1) := by decide +kernel
theorem dX9_undo_40 : decode cX9_undo 40 = .ok (.aaload, 1) := by decide +kernel
theorem dX9_undo_41 : decode cX9_undo 41 = .ok (.astore_n 1, 1) := by decide +kernel
theorem dX9_undo_42 : decode cX9_undo 42 = .ok (.aload_n 1, 1) := by decide +kernel
theorem dX9_undo_43 : decode cX9_undo 43 = .ok (.ifnull 11, 3) := by decide +kernel
theorem dX9_undo_46 : decode cX9_undo 46 = .ok (.aload_n 0, 1) := by decide +kernel
theorem dX9_undo_47 : decode cX9_undo 47 = .ok (.getfield 12, 3) := by decide +kernel
theorem dX9_undo_50 : decode cX9_undo 50 = .ok (.aload_n 1, 1) := by decide +kernel
theorem dX9_undo_51 : decode cX9_undo 51 = .ok (.invokevirtual 225, 3) := by decide +kernel
theorem dX9_undo_54 : decode cX9_undo 54 = .ok (.aload_n 0, 1) := by decide +kernel
theorem dX9_undo_55 : decode cX9_undo 55 = .ok (.dup, 1) := by decide +kernel
theorem dX9_undo_56 : decode cX9_undo 56 = .ok (.getfield 23, 3) := by decide +kernel
theorem dX9_undo_59 : decode cX9_undo 59 = .ok (.iconst 1, 1) := by decide +kernel
theorem dX9_undo_60 : decode cX9_undo 60 = .ok (.isub, 1) := by decide +kernel
theorem dX9_undo_61 : decode cX9_undo 61 = .ok (.putfield 23, 3) := by decide +kernel
theorem dX9_undo_64 : decode cX9_undo 64 = .ok (.aload_n 0, 1) := by decide +kernel
theorem dX9_undo_65 : decode cX9_undo 65 = .ok (.getfield 23, 3) := by decide +kernel
theorem dX9_undo_68 : decode cX9_undo 68 = .ok (.ireturn, 1) := by decide +kernel
abbrev mtX9_undo : mj_T := (yX9_undo.cls, cX9_undo, 2, (some .int), mj_no, yX9_undo.name)
abbrev kX9_undo (k0 : Nat) (g : mj_S) (M : mj_M) (q : Int32 → mj_M → Prop) (qx : String → mj_M → Prop) : Prop := mj_CIX yX9_undo (.code yX9_undo cX9_undo 2 (some .int)) 7 1 6 [.ref (k0)] g M q qx
theorem kiX9_undo : mj_cV yX9_undo cX9_undo 2 (some .int) 0 := ⟨⟨wd_1111, wd_1112, wd_1, wd_1113⟩, ⟨by decide +kernel, by decide +kernel, by decide +kernel⟩, Nat.le_of_ble_eq_true rfl⟩
theorem eX9_undo {k0 : Nat} {g : mj_S} {M : mj_M} {q : Int32 → mj_M → Prop} {qx : String → mj_M → Prop} (h0 : is9 g k0) (h : (((M).1 (k0) 3 : Int32) < (1 : Int32) → qx mj_IS (M)) ∧ (¬ ((M).1 (k0) 3 : Int32) < (1 : Int32) → (((M).1 (k0) 3 : Int32) ≤ (6 : Int32) → vp_in (((M).1 (k0) 3) - (1 : Int32)) (6) ∧ ∃ a1 : Nat, ((M).2.2 (k0 + 21) (Int32.toNatClampNeg (((M).1 (k0) 3) - (1 : Int32))) = some a1 ∧ is6 g a1) ∧ (∃ (q2 : mj_M → Prop), kX6_copyFrom (k0 + 1) (a1) g (M) q2 ∧ ∀ (M2 : mj_M), q2 M2 → (q ((mj_wI (M2) (k0) 3 (((M2).1 (k0) 3) - (1 : Int32))).1 (k0) 3) (mj_wI (M2) (k0) 3 (((M2).1 (k0) 3) - (1 : Int32)))))) ∧ (¬ ((M).1 (k0) 3 : Int32) ≤ (6 : Int32) → qx mj_IS (M)))) : kX9_undo (k0) g M q qx := by
  intro d hd; refine mj_enter (by decide +kernel) (Nat.le_of_ble_eq_true rfl) ?_
  show mj_G mtX9_undo (mj_rm d 1 6) (mj_Fi (mj_qI g q) (mj_qX g qx) 1 6) false 1 6 0 [(0, .ref (k0))] [] g M
  refine mg_aload_n dX9_undo_0 rfl 0 rfl ?_
  refine mg_getI (j := 3) dX9_undo_1 kc_9 (Nat.le_of_ble_eq_true rfl) wd_234 rfl rfl h0.1.1 h0.1.2 rfl ?_
  refine mg_iconst (v := 1) dX9_undo_4 (by decide) ?_
  refine mg_icmp_lt (tgt := 20) dX9_undo_5 (by decide) (fun hc => ?_) (fun hc => ?_)
  · replace h := h.1 hc
    exact mg_throw (ti := 17) rfl rfl xw_IS rfl dX9_undo_20 dX9_undo_23 dX9_undo_24 dX9_undo_26 dX9_undo_29 (Nat.le_trans (Nat.le_of_ble_eq_true rfl) hd) (Nat.le_of_ble_eq_true rfl) (Nat.le_of_ble_eq_true rfl) ⟨rfl, h⟩
  · replace h := h.2 hc
    refine mg_aload_n dX9_undo_8 rfl 0 rfl ?_
    refine mg_getI (j := 3) dX9_undo_9 kc_9 (Nat.le_of_ble_eq_true rfl) wd_234 rfl rfl h0.1.1 h0.1.2 rfl ?_
    refine mg_aload_n dX9_undo_12 rfl 0 rfl ?_
    refine mg_getR (j := 2) dX9_undo_13 kc_9 (Nat.le_of_ble_eq_true rfl) wd_233 rfl rfl h0.1.1 h0.1.2 h0.2.2.2.1.1 ?_
    refine mg_alen (v := 6) dX9_undo_16 h0.2.2.2.1.2.1 h0.2.2.2.1.2.2 (Nat.le_of_ble_eq_true rfl) rfl ?_
    refine mg_icmp_le (tgt := 30) dX9_undo_17 (by decide) (fun hc => ?_) (fun hc => ?_)
    · replace h := h.1 hc
      refine mg_aload_n dX9_undo_30 rfl 0 rfl ?_
      refine mg_getR (j := 2) dX9_undo_31 kc_9 (Nat.le_of_ble_eq_true rfl) wd_233 rfl rfl h0.1.1 h0.1.2 h0.2.2.2.1.1 ?_
      refine mg_aload_n dX9_undo_34 rfl 0 rfl ?_
      refine mg_getI (j := 3) dX9_undo_35 kc_9 (Nat.le_of_ble_eq_true rfl) wd_234 rfl rfl h0.1.1 h0.1.2 rfl ?_
      refine mg_iconst (v := 1) dX9_undo_38 (by decide) ?_
      refine mg_isub dX9_undo_39 ?_
      obtain ⟨hi1, a1, ha1, h⟩ := h
      refine mg_aald dX9_undo_40 h0.2.2.2.1.2.1 h0.2.2.2.1.2.2 hi1 ha1.1 ?_
      refine mg_astore_n (ls' := [(1, .ref (a1)), (0, .ref (k0))]) dX9_undo_41 rfl (Nat.le_of_ble_eq_true rfl) rfl ?_
      refine mg_aload_n dX9_undo_42 rfl 0 rfl ?_
      refine mg_ifnull dX9_undo_43 ?_
      refine mg_aload_n dX9_undo_46 rfl 1 rfl ?_
      refine mg_getR (j := 0) dX9_undo_47 kc_9 (Nat.le_of_ble_eq_true rfl) wd_231 rfl rfl h0.1.1 h0.1.2 h0.2.1.1 ?_
      refine mg_aload_n dX9_undo_50 rfl 0 rfl ?_
      obtain ⟨q2, hC, hk⟩ := h
      refine mc_Vv [.ref (a1)] [] dX9_undo_51 wd_376 kiX6_copyFrom (Nat.le_of_ble_eq_true rfl) h0.2.1.2.1.1 h0.2.1.2.1.2 rfl (Nat.le_trans (Nat.le_of_ble_eq_true rfl) hd) hC (fun M2 hq => ?_)
      replace h := hk M2 hq
      refine mg_aload_n dX9_undo_54 rfl 1 rfl ?_
      refine mg_dup dX9_undo_55 rfl ?_
      refine mg_getI (j := 3) dX9_undo_56 kc_9 (Nat.le_of_ble_eq_true rfl) wd_234 rfl rfl h0.1.1 h0.1.2 rfl ?_
      refine mg_iconst (v := 1) dX9_undo_59 (by decide) ?_
      refine mg_isub dX9_undo_60 ?_
      refine mg_putI (j := 3) dX9_undo_61 kc_9 (Nat.le_of_ble_eq_true rfl) wd_234 rfl rfl rfl h0.1.1 h0.1.2 ?_
      refine mg_aload_n dX9_undo_64 rfl 1 rfl ?_
      refine mg_getI (j := 3) dX9_undo_65 kc_9 (Nat.le_of_ble_eq_true rfl) wd_234 rfl rfl h0.1.1 h0.1.2 rfl ?_
      exact mex_i dX9_undo_68 rfl h
    · replace h := h.2 hc
      exact mg_throw (ti := 17) rfl rfl xw_IS rfl dX9_undo_20 dX9_undo_23 dX9_undo_24 dX9_undo_26 dX9_undo_29 (Nat.le_trans (Nat.le_of_ble_eq_true rfl) hd) (Nat.le_of_ble_eq_true rfl) (Nat.le_of_ble_eq_true rfl) ⟨rfl, h⟩
theorem dX9_canEliminate_0 : decode cX9_canEliminate 0 = .ok (.aload_n 0, 1) := by decide +kernel
theorem dX9_canEliminate_1 : decode cX9_canEliminate 1 = .ok (.iload_n 1, 1) := by decide +kernel
theorem dX9_canEliminate_2 : decode cX9_canEliminate 2 = .ok (.invokevirtual 132, 3) := by decide +kernel
theorem dX9_canEliminate_5 : decode cX9_canEliminate 5 = .ok (.aload_n 0, 1) := by decide +kernel
theorem dX9_canEliminate_6 : decode cX9_canEliminate 6 = .ok (.getfield 51, 3) := by decide +kernel
theorem dX9_canEliminate_9 : decode cX9_canEliminate 9 = .ok (.aload_n 0, 1) := by decide +kernel
theorem dX9_canEliminate_10 : decode cX9_canEliminate 10 = .ok (.getfield 12, 3) := by decide +kernel
theorem dX9_canEliminate_13 : decode cX9_canEliminate 13 = .ok (.iload_n 1, 1) := by decide +kernel
theorem dX9_canEliminate_14 : decode cX9_canEliminate 14 = .ok (.invokevirtual 193, 3) := by decide +kernel
theorem dX9_canEliminate_17 : decode cX9_canEliminate 17 = .ok (.ireturn, 1) := by decide +kernel
abbrev mtX9_canEliminate : mj_T := (yX9_canEliminate.cls, cX9_canEliminate, 2, (some .boolean), mj_no, yX9_canEliminate.name)
abbrev kX9_canEliminate (k0 : Nat) (x1 : Int32) (g : mj_S) (M : mj_M) (q : Int32 → mj_M → Prop) (qx : String → mj_M → Prop) : Prop := mj_CIX yX9_canEliminate (.code yX9_canEliminate cX9_canEliminate 2 (some .boolean)) 8 1 6 [.ref (k0), .int (x1)] g M q qx
theorem kiX9_canEliminate : mj_cV yX9_canEliminate cX9_canEliminate 2 (some .boolean) 1 := ⟨⟨wd_1119, wd_1120, wd_1, wd_1121⟩, ⟨by decide +kernel, by decide +kernel, by decide +kernel⟩, Nat.le_of_ble_eq_true rfl⟩
theorem eX9_canEliminate {k0 : Nat} {x1 : Int32} {g : mj_S} {M : mj_M} {q : Int32 → mj_M → Prop} {qx : String → mj_M → Prop} (h0 : is9 g k0) (h : ∃ (q1 : mj_M → Prop) (qx1 : String → mj_M → Prop), kX9_requireVariable (k0) (x1) g (M) q1 qx1 ∧ (∀ (X : String) (M' : mj_M), qx1 X M' → qx X M') ∧ ∀ (M1 : mj_M), q1 M1 → (∃ (q2 : Int32 → mj_M → Prop), kX7_findElimination (k0 + 88) (k0 + 1) (x1) g (M1) q2 ∧ ∀ (v2 : Int32) (M2 : mj_M), q2 v2 M2 → (((v2 : Int32) = 0 ∨ (v2 : Int32) = 1) ∧ q (v2) (M2)))) : kX9_canEliminate (k0) (x1) g M q qx := by
  intro d hd; refine mj_enter (by decide +kernel) (Nat.le_of_ble_eq_true rfl) ?_
  show mj_G mtX9_canEliminate (mj_rm d 1 6) (mj_Fi (mj_qI g q) (mj_qX g qx) 1 6) false 1 6 0 [(0, .ref (k0)), (1, .int (x1))] [] g M
  refine mg_aload_n dX9_canEliminate_0 rfl 0 rfl ?_
  refine mg_iload_n dX9_canEliminate_1 rfl 1 rfl ?_
  obtain ⟨q1, qx1, hC, hkx, hk⟩ := h
  refine mx_Vv [.int (x1)] [] dX9_canEliminate_2 wd_856 kiX9_requireVariable (Nat.le_of_ble_eq_true rfl) h0.1.1 h0.1.2 rfl (Nat.le_trans (Nat.le_of_ble_eq_true rfl) hd) ⟨Nat.le_of_ble_eq_true rfl, Nat.le_of_ble_eq_true rfl⟩ rfl rfl hC hkx (fun M1 hq => ?_)
  replace h := hk M1 hq
  refine mg_aload_n dX9_canEliminate_5 rfl 0 rfl ?_
  refine mg_getR (j := 7) dX9_canEliminate_6 kc_9 (Nat.le_of_ble_eq_true rfl) wd_238 rfl rfl h0.1.1 h0.1.2 h0.2.2.2.2.2.2.2.1 ?_
  refine mg_aload_n dX9_canEliminate_9 rfl 0 rfl ?_
  refine mg_getR (j := 0) dX9_canEliminate_10 kc_9 (Nat.le_of_ble_eq_true rfl) wd_231 rfl rfl h0.1.1 h0.1.2 h0.2.1.1 ?_
  refine mg_iload_n dX9_canEliminate_13 rfl 1 rfl ?_
  obtain ⟨q2, hC, hk⟩ := h
  refine mc_Vi [.ref (k0 + 1), .int (x1)] [] dX9_canEliminate_14 wd_1088 kiX7_findElimination (Nat.le_of_ble_eq_true rfl) h0.2.2.2.2.2.2.2.2.1.1 h0.2.2.2.2.2.2.2.2.1.2 rfl (Nat.le_trans (Nat.le_of_ble_eq_true rfl) hd) hC (fun v2 M2 hq => ?_)
  replace h := hk v2 M2 hq
  exact mex_z dX9_canEliminate_17 rfl h.1 h.2
theorem dX9_requireActive_0 : decode cX9_requireActive 0 = .ok (.aload_n 0, 1) := by decide +kernel
theorem dX9_requireActive_1 : decode cX9_requireActive 1 = .ok (.getfield 12, 3) := by decide +kernel
theorem dX9_requireActive_4 : decode cX9_requireActive 4 = .ok (.iload_n 1, 1) := by decide +kernel
theorem dX9_requireActive_5 : decode cX9_requireActive 5 = .ok (.invokevirtual 348, 3) := by decide +kernel
theorem dX9_requireActive_8 : decode cX9_requireActive 8 = .ok (.ifCond .ne 14, 3) := by decide +kernel
theorem dX9_requireActive_11 : decode cX9_requireActive 11 = .ok (.new 152, 3) := by decide +kernel
theorem dX9_requireActive_14 : decode cX9_requireActive 14 = .ok (.dup, 1) := by decide +kernel
theorem dX9_requireActive_15 : decode cX9_requireActive 15 = .ok (.ldc_w 351, 3) := by decide +kernel
theorem dX9_requireActive_18 : decode cX9_requireActive 18 = .ok (.invokespecial 156, 3) := by decide +kernel
theorem dX9_requireActive_21 : decode cX9_requireActive 21 = .ok (.athrow, 1) := by decide +kernel
theorem dX9_requireActive_22 : decode cX9_requireActive 22 = .ok (.return_, 1) := by decide +kernel
abbrev mtX9_requireActive : mj_T := (yX9_requireActive.cls, cX9_requireActive, 2, none, mj_no, yX9_requireActive.name)
abbrev kX9_requireActive (k0 : Nat) (x1 : Int32) (g : mj_S) (M : mj_M) (q : mj_M → Prop) (qx : String → mj_M → Prop) : Prop := mj_CVX yX9_requireActive (.code yX9_requireActive cX9_requireActive 2 none) 7 1 6 [.ref (k0), .int (x1)] g M q qx
theorem kiX9_requireActive : mj_cV yX9_requireActive cX9_requireActive 2 none 1 := ⟨⟨wd_1131, wp_38, wd_1, wd_1132⟩, ⟨by decide +kernel, by decide +kernel, by decide +kernel⟩, Nat.le_of_ble_eq_true rfl⟩
theorem eX9_requireActive {k0 : Nat} {x1 : Int32} {g : mj_S} {M : mj_M} {q : mj_M → Prop} {qx : String → mj_M → Prop} (h0 : is9 g k0) (h : ∃ (q1 : Int32 → mj_M → Prop), kX6_isActive (k0 + 1) (x1) g (M) q1 ∧ ∀ (v1 : Int32) (M1 : mj_M), q1 v1 M1 → ((¬ (v1 : Int32) = 0 → q (M1)) ∧ ((v1 : Int32) = 0 → qx mj_IS (M1)))) : kX9_requireActive (k0) (x1) g M q qx := by
  intro d hd; refine mj_enter (by decide +kernel) (Nat.le_of_ble_eq_true rfl) ?_
  show mj_G mtX9_requireActive (mj_rm d 1 6) (mj_Fi (mj_qV g q) (mj_qX g qx) 1 6) false 1 6 0 [(0, .ref (k0)), (1, .int (x1))] [] g M
  refine mg_aload_n dX9_requireActive_0 rfl 0 rfl ?_
  refine mg_getR (j := 0) dX9_requireActive_1 kc_9 (Nat.le_of_ble_eq_true rfl) wd_231 rfl rfl h0.1.1 h0.1.2 h0.2.1.1 ?_
  refine mg_iload_n dX9_requireActive_4 rfl 1 rfl ?_
  obtain ⟨q1, hC, hk⟩ := h
  refine mc_Vi [.int (x1)] [] dX9_requireActive_5 wd_1133 kiX6_isActive (Nat.le_of_ble_eq_true rfl) h0.2.1.2.1.1 h0.2.1.2.1.2 rfl (Nat.le_trans (Nat.le_of_ble_eq_true rfl) hd) hC (fun v1 M1 hq => ?_)
  replace h := hk v1 M1 hq
  refine mg_if_ne (tgt := 22) dX9_requireActive_8 (by decide) (fun hc => ?_) (fun hc => ?_)
  · replace h := h.1 hc
    exact mex_v dX9_requireActive_22 rfl h
  · replace h := h.2 hc
    exact mg_throwW (ti := 18) rfl rfl xw_IS rfl dX9_requireActive_11 dX9_requireActive_14 dX9_requireActive_15 dX9_requireActive_18 dX9_requireActive_21 (Nat.le_trans (Nat.le_of_ble_eq_true rfl) hd) (Nat.le_of_ble_eq_true rfl) (Nat.le_of_ble_eq_true rfl) ⟨rfl, h⟩
theorem dX9_resolventCount_0 : decode cX9_resolventCount 0 = .ok (.aload_n 0, 1) := by decide +kernel
theorem dX9_resolventCount_1 : decode cX9_resolventCount 1 = .ok (.iload_n 1, 1) := by decide +kernel
theorem dX9_resolventCount_2 : decode cX9_resolventCount 2 = .ok (.invokevirtual 132, 3) := by decide +kernel
theorem dX9_resolventCount_5 : decode cX9_resolventCount 5 = .ok (.aload_n 0, 1) := by decide +kernel
theorem dX9_resolventCount_6 : decode cX9_resolventCount 6 = .ok (.iload_n 1, 1) := by decide +kernel
theorem dX9_resolventCount_7 : decode cX9_resolventCount 7 = .ok (.invokevirtual 229, 3) := by decide +kernel
theorem dX9_resolventCount_10 : decode cX9_resolventCount 10 = .ok (.aload_n 0, 1) := by decide +kernel
theorem dX9_resolventCount_11 : decode cX9_resolventCount 11 = .ok (.getfield 51, 3) := by decide +kernel
theorem dX9_resolventCount_14 : decode cX9_resolventCount 14 = .ok (.getfield 206, 3) := by decide +kernel
theorem dX9_resolventCount_17 : decode cX9_resolventCount 17 = .ok (.aload_n 0, 1) := by decide +kernel
theorem dX9_resolventCount_18 : decode cX9_resolventCount 18 = .ok (.getfield 12, 3) := by decide +kernel
theorem dX9_resolventCount_21 : decode cX9_resolventCount 21 = .ok (.getfield 119, 3) := by decide +kernel
theorem dX9_resolventCount_24 : decode cX9_resolventCount 24 = .ok (.iload_n 1, 1) := by decide +kernel
theorem dX9_resolventCount_25 : decode cX9_resolventCount 25 = .ok (.sipush 576, 3) := by decide +kernel
theorem dX9_resolventCount_28 : decode cX9_resolventCount 28 = .ok (.invokevirtual 232, 3) := by decide +kernel
theorem dX9_resolventCount_31 : decode cX9_resolventCount 31 = .ok (.aload_n 0, 1) := by decide +kernel
theorem dX9_resolventCount_32 : decode cX9_resolventCount 32 = .ok (.getfield 51, 3) := by decide +kernel
theorem dX9_resolventCount_35 : decode cX9_resolventCount 35 = .ok (.getfield 206, 3) := by decide +kernel
theorem dX9_resolventCount_38 : decode cX9_resolventCount 38 = .ok (.getfield 210, 3) := by decide +kernel
theorem dX9_resolventCount_41 : decode cX9_resolventCount 41 = .ok (.invokevirtual 92, 3) := by decide +kernel
theorem dX9_resolventCount_44 : decode cX9_resolventCount 44 = .ok (.ireturn, 1) := by decide +kernel
abbrev mtX9_resolventCount : mj_T := (yX9_resolventCount.cls, cX9_resolventCount, 2, (some .int), mj_no, yX9_resolventCount.name)
abbrev kX9_resolventCount (k0 : Nat) (x1 : Int32) (g : mj_S) (M : mj_M) (q : Int32 → mj_M → Prop) (qx : String → mj_M → Prop) : Prop := mj_CIX yX9_resolventCount (.code yX9_resolventCount cX9_resolventCount 2 (some .int)) 8 2 12 [.ref (k0), .int (x1)] g M q qx
theorem kiX9_resolventCount : mj_cV yX9_resolventCount cX9_resolventCount 2 (some .int) 1 := ⟨⟨wd_1126, wd_1127, wd_1, wd_1128⟩, ⟨by decide +kernel, by decide +kernel, by decide +kernel⟩, Nat.le_of_ble_eq_true rfl⟩
theorem eX9_resolventCount {k0 : Nat} {x1 : Int32} {g : mj_S} {M : mj_M} {q : Int32 → mj_M → Prop} {qx : String → mj_M → Prop} (h0 : is9 g k0) (h : ∃ (q1 : mj_M → Prop) (qx1 : String → mj_M → Prop), kX9_requireVariable (k0) (x1) g (M) q1 qx1 ∧ (∀ (X : String) (M' : mj_M), qx1 X M' → qx X M') ∧ ∀ (M1 : mj_M), q1 M1 → (∃ (q2 : mj_M → Prop) (qx2 : String → mj_M → Prop), kX9_requireActive (k0) (x1) g (M1) q2 qx2 ∧ (∀ (X : String) (M' : mj_M), qx2 X M' → qx X M') ∧ ∀ (M2 : mj_M), q2 M2 → (∃ (q3 : mj_M → Prop), kX5_find (k0 + 88 + 1) (k0 + 1 + 1) (x1) (576) g (M2) q3 ∧ ∀ (M3 : mj_M), q3 M3 → (∃ (q4 : Int32 → mj_M → Prop), kX0_size (k0 + 88 + 1 + 1) g (M3) q4 ∧ ∀ (v4 : Int32) (M4 : mj_M), q4 v4 M4 → (q (v4) (M4)))))) : kX9_resolventCount (k0) (x1) g M q qx := by
  intro d hd; refine mj_enter (by decide +kernel) (Nat.le_of_ble_eq_true rfl) ?_
  show mj_G mtX9_resolventCount (mj_rm d 2 12) (mj_Fi (mj_qI g q) (mj_qX g qx) 2 12) false 2 12 0 [(0, .ref (k0)), (1, .int (x1))] [] g M
  refine mg_aload_n dX9_resolventCount_0 rfl 0 rfl ?_
  refine mg_iload_n dX9_resolventCount_1 rfl 1 rfl ?_
  obtain ⟨q1, qx1, hC, hkx, hk⟩ := h
  refine mx_Vv [.int (x1)] [] dX9_resolventCount_2 wd_856 kiX9_requireVariable (Nat.le_of_ble_eq_true rfl) h0.1.1 h0.1.2 rfl (Nat.le_trans (Nat.le_of_ble_eq_true rfl) hd) ⟨Nat.le_of_ble_eq_true rfl, Nat.le_of_ble_eq_true rfl⟩ rfl rfl hC hkx (fun M1 hq => ?_)
  replace h := hk M1 hq
  refine mg_aload_n dX9_resolventCount_5 rfl 0 rfl ?_
  refine mg_iload_n dX9_resolventCount_6 rfl 1 rfl ?_
  obtain ⟨q2, qx2, hC, hkx, hk⟩ := h
  refine mx_Vv [.int (x1)] [] dX9_resolventCount_7 wd_1129 kiX9_requireActive (Nat.le_of_ble_eq_true rfl) h0.1.1 h0.1.2 rfl (Nat.le_trans (Nat.le_of_ble_eq_true rfl) hd) ⟨Nat.le_of_ble_eq_true rfl, Nat.le_of_ble_eq_true rfl⟩ rfl rfl hC hkx (fun M2 hq => ?_)
  replace h := hk M2 hq
  refine mg_aload_n dX9_resolventCount_10 rfl 0 rfl ?_
  refine mg_getR (j := 7) dX9_resolventCount_11 kc_9 (Nat.le_of_ble_eq_true rfl) wd_238 rfl rfl h0.1.1 h0.1.2 h0.2.2.2.2.2.2.2.1 ?_
  refine mg_getR (j := 0) dX9_resolventCount_14 kc_7 (Nat.le_of_ble_eq_true rfl) wd_219 rfl rfl h0.2.2.2.2.2.2.2.2.1.1 h0.2.2.2.2.2.2.2.2.1.2 h0.2.2.2.2.2.2.2.2.2.1.1 ?_
  refine mg_aload_n dX9_resolventCount_17 rfl 0 rfl ?_
  refine mg_getR (j := 0) dX9_resolventCount_18 kc_9 (Nat.le_of_ble_eq_true rfl) wd_231 rfl rfl h0.1.1 h0.1.2 h0.2.1.1 ?_
  refine mg_getR (j := 3) dX9_resolventCount_21 kc_6 (Nat.le_of_ble_eq_true rfl) wd_75 rfl rfl h0.2.1.2.1.1 h0.2.1.2.1.2 h0.2.1.2.2.1.1 ?_
  refine mg_iload_n dX9_resolventCount_24 rfl 1 rfl ?_
  refine mg_sipush (v := 576) dX9_resolventCount_25 (by decide) ?_
  obtain ⟨q3, hC, hk⟩ := h
  refine mc_Vv [.ref (k0 + 1 + 1), .int (x1), .int (576)] [] dX9_resolventCount_28 wd_1135 kiX5_find (Nat.le_of_ble_eq_true rfl) h0.2.2.2.2.2.2.2.2.2.1.2.1.1 h0.2.2.2.2.2.2.2.2.2.1.2.1.2 rfl (Nat.le_trans (Nat.le_of_ble_eq_true rfl) hd) hC (fun M3 hq => ?_)
  replace h := hk M3 hq
  refine mg_aload_n dX9_resolventCount_31 rfl 0 rfl ?_
  refine mg_getR (j := 7) dX9_resolventCount_32 kc_9 (Nat.le_of_ble_eq_true rfl) wd_238 rfl rfl h0.1.1 h0.1.2 h0.2.2.2.2.2.2.2.1 ?_
  refine mg_getR (j := 0) dX9_resolventCount_35 kc_7 (Nat.le_of_ble_eq_true rfl) wd_219 rfl rfl h0.2.2.2.2.2.2.2.2.1.1 h0.2.2.2.2.2.2.2.2.1.2 h0.2.2.2.2.2.2.2.2.2.1.1 ?_
  refine mg_getR (j := 0) dX9_resolventCount_38 kc_5 (Nat.le_of_ble_eq_true rfl) wd_178 rfl rfl h0.2.2.2.2.2.2.2.2.2.1.2.1.1 h0.2.2.2.2.2.2.2.2.2.1.2.1.2 h0.2.2.2.2.2.2.2.2.2.1.2.2.1 ?_
  obtain ⟨q4, hC, hk⟩ := h
  refine mc_Vi [] [] dX9_resolventCount_41 wd_260 kiX0_size (Nat.le_of_ble_eq_true rfl) h0.2.2.2.2.2.2.2.2.2.1.2.2.2.1.1 h0.2.2.2.2.2.2.2.2.2.1.2.2.2.1.2 rfl (Nat.le_trans (Nat.le_of_ble_eq_true rfl) hd) hC (fun v4 M4 hq => ?_)
  replace h := hk v4 M4 hq
  exact mex_i dX9_resolventCount_44 rfl h
theorem dX9_resolvent_0 : decode cX9_resolvent 0 = .ok (.aload_n 0, 1) := by decide +kernel
theorem dX9_resolvent_1 : decode cX9_resolvent 1 = .ok (.iload_n 1, 1) := by decide +kernel
theorem dX9_resolvent_2 : decode cX9_resolvent 2 = .ok (.invokevirtual 132, 3) := by decide +kernel
theorem dX9_resolvent_5 : decode cX9_resolvent 5 = .ok (.aload_n 0, 1) := by decide +kernel
theorem dX9_resolvent_6 : decode cX9_resolvent 6 = .ok (.iload_n 1, 1) := by decide +kernel
theorem dX9_resolvent_7 : decode cX9_resolvent 7 = .ok (.invokevirtual 229, 3) := by decide +kernel
theorem dX9_resolvent_10 : decode cX9_resolvent 10 = .ok (.aload_n 0, 1) := by decide +kernel
theorem dX9_resolvent_11 : decode cX9_resolvent 11 = .ok (.getfield 51, 3) := by decide +kernel
theorem dX9_resolvent_14 : decode cX9_resolvent 14 = .ok (.getfield 206, 3) := by decide +kernel
theorem dX9_resolvent_17 : decode cX9_resolvent 17 = .ok (.aload_n 0, 1) := by decide +kernel
theorem dX9_resolvent_18 : decode cX9_resolvent 18 = .ok (.getfield 12, 3) := by decide +kernel
theorem dX9_resolvent_21 : decode cX9_resolvent 21 = .ok (.getfield 119, 3) := by decide +kernel
theorem dX9_resolvent_24 : decode cX9_resolvent 24 = .ok (.iload_n 1, 1) := by decide +kernel
theorem dX9_resolvent_25 : decode cX9_resolvent 25 = .ok (.sipush 576, 3) := by decide +kernel
theorem dX9_resolvent_28 : decode cX9_resolvent 28 = .ok (.invokevirtual 232, 3) := by decide +kernel
theorem dX9_resolvent_31 : decode cX9_resolvent 31 = .ok (.aload_n 0, 1) := by decide +kernel
theorem dX9_resolvent_32 : decode cX9_resolvent 32 = .ok (.getfield 51, 3) := by decide +kernel
theorem dX9_resolvent_35 : decode cX9_resolvent 35 = .ok (.getfield 206, 3) := by decide +kernel
theorem dX9_resolvent_38 : decode cX9_resolvent 38 = .ok (.getfield 210, 3) := by decide +kernel
theorem dX9_resolvent_41 : decode cX9_resolvent 41 = .ok (.astore 4, 2) := by decide +kernel
theorem dX9_resolvent_43 : decode cX9_resolvent 43 = .ok (.iload_n 2, 1) := by decide +kernel
theorem dX9_resolvent_44 : decode cX9_resolvent 44 = .ok (.ifCond .lt 12, 3) := by decide +kernel
theorem dX9_resolvent_47 : decode cX9_resolvent 47 = .ok (.iload_n 2, 1) := by decide +kernel
theorem dX9_resolvent_48 : decode cX9_resolvent 48 = .ok (.aload 4, 2) := by decide +kernel
theorem dX9_resolvent_50 : decode cX9_resolvent 50 = .ok (.invokevirtual 92, 3) := by decide +kernel
theorem dX9_resolvent_53 : decode cX9_resolvent 53 = .ok (.if_icmp .lt 13, 3) := by decide +kernel
theorem dX9_resolvent_56 : decode cX9_resolvent 56 = .ok (.new 107, 3) := by decide +kernel
theorem dX9_resolvent_59 : decode cX9_resolvent 59 = .ok (.dup, 1) := by decide +kernel
theorem dX9_resolvent_60 : decode cX9_resolvent 60 = .ok (.ldc 236, 2) := by decide +kernel
theorem dX9_resolvent_62 : decode cX9_resolvent 62 = .ok (.invokespecial 111, 3) := by decide +kernel
theorem dX9_resolvent_65 : decode cX9_resolvent 65 = .ok (.athrow, 1) := by decide +kernel
theorem dX9_resolvent_66 : decode cX9_resolvent 66 = .ok (.aload 4, 2) := by decide +kernel
theorem dX9_resolvent_68 : decode cX9_resolvent 68 = .ok (.iload_n 2, 1) := by decide +kernel
theorem dX9_resolvent_69 : decode cX9_resolvent 69 = .ok (.invokevirtual 112, 3) := by decide +kernel
theorem dX9_resolvent_72 : decode cX9_resolvent 72 = .ok (.iload_n 3, 1) := by decide +kernel
theorem dX9_resolvent_73 : decode cX9_resolvent 73 = .ok (.invokestatic 115, 3) := by decide +kernel
theorem dX9_resolvent_76 : decode cX9_resolvent 76 = .ok (.ireturn, 1) := by decide +kernel
abbrev mtX9_resolvent : mj_T := (yX9_resolvent.cls, cX9_resolvent, 5, (some .int), mj_no, yX9_resolvent.name)
abbrev kX9_resolvent (k0 : Nat) (x1 : Int32) (x2 : Int32) (x3 : Int32) (g : mj_S) (M : mj_M) (q : Int32 → mj_M → Prop) (qx : String → mj_M → Prop) : Prop := mj_CIX yX9_resolvent (.code yX9_resolvent cX9_resolvent 5 (some .int)) 8 3 18 [.ref (k0), .int (x1), .int (x2), .int (x3)] g M q qx
theorem kiX9_resolvent : mj_cV yX9_resolvent cX9_resolvent 5 (some .int) 3 := ⟨⟨wd_1140, wd_1141, wd_1, wd_1142⟩, ⟨by decide +kernel, by decide +kernel, by decide +kernel⟩, Nat.le_of_ble_eq_true rfl⟩
theorem eX9_resolvent {k0 : Nat} {x1 : Int32} {x2 : Int32} {x3 : Int32} {g : mj_S} {M : mj_M} {q : Int32 → mj_M → Prop} {qx : String → mj_M → Prop} (h0 : is9 g k0) (h : ∃ (q1 : mj_M → Prop) (qx1 : String → mj_M → Prop), kX9_requireVariable (k0) (x1) g (M) q1 qx1 ∧ (∀ (X : String) (M' : mj_M), qx1 X M' → qx X M') ∧ ∀ (M1 : mj_M), q1 M1 → (∃ (q2 : mj_M → Prop) (qx2 : String → mj_M → Prop), kX9_requireActive (k0) (x1) g (M1) q2 qx2 ∧ (∀ (X : String) (M' : mj_M), qx2 X M' → qx X M') ∧ ∀ (M2 : mj_M), q2 M2 → (∃ (q3 : mj_M → Prop), kX5_find (k0 + 88 + 1) (k0 + 1 + 1) (x1) (576) g (M2) q3 ∧ ∀ (M3 : mj_M), q3 M3 → (((x2 : Int32) < 0 → qx mj_IO (M3)) ∧ (¬ (x2 : Int32) < 0 → ∃ (q4 : Int32 → mj_M → Prop), kX0_size (k0 + 88 + 1 + 1) g (M3) q4 ∧ ∀ (v4 : Int32) (M4 : mj_M), q4 v4 M4 → (((x2 : Int32) < (v4) → ∃ (q5 : Int32 → mj_M → Prop), kX0_at (k0 + 88 + 1 + 1) (x2) g (M4) q5 ∧ ∀ (v5 : Int32) (M5 : mj_M), q5 v5 M5 → (∃ (q6 : Int32 → mj_M → Prop), kX9_half (v5) (x3) g (M5) q6 ∧ ∀ (v6 : Int32) (M6 : mj_M), q6 v6 M6 → (q (v6) (M6)))) ∧ (¬ (x2 : Int32) < (v4) → qx mj_IO (M4)))))))) : kX9_resolvent (k0) (x1) (x2) (x3) g M q qx := by
  intro d hd; refine mj_enter (by decide +kernel) (Nat.le_of_ble_eq_true rfl) ?_
  show mj_G mtX9_resolvent (mj_rm d 3 18) (mj_Fi (mj_qI g q) (mj_qX g qx) 3 18) false 3 18 0 [(0, .ref (k0)), (1, .int (x1)), (2, .int (x2)), (3, .int (x3))] [] g M
  refine mg_aload_n dX9_resolvent_0 rfl 0 rfl ?_
  refine mg_iload_n dX9_resolvent_1 rfl 1 rfl ?_
  obtain ⟨q1, qx1, hC, hkx, hk⟩ := h
  refine mx_Vv [.int (x1)] [] dX9_resolvent_2 wd_856 kiX9_requireVariable (Nat.le_of_ble_eq_true rfl) h0.1.1 h0.1.2 rfl (Nat.le_trans (Nat.le_of_ble_eq_true rfl) hd) ⟨Nat.le_of_ble_eq_true rfl, Nat.le_of_ble_eq_true rfl⟩ rfl rfl hC hkx (fun M1 hq => ?_)
  replace h := hk M1 hq
  refine mg_aload_n dX9_resolvent_5 rfl 0 rfl ?_
  refine mg_iload_n dX9_resolvent_6 rfl 1 rfl ?_
  obtain ⟨q2, qx2, hC, hkx, hk⟩ := h
  refine mx_Vv [.int (x1)] [] dX9_resolvent_7 wd_1129 kiX9_requireActive (Nat.le_of_ble_eq_true rfl) h0.1.1 h0.1.2 rfl (Nat.le_trans (Nat.le_of_ble_eq_true rfl) hd) ⟨Nat.le_of_ble_eq_true rfl, Nat.le_of_ble_eq_true rfl⟩ rfl rfl hC hkx (fun M2 hq => ?_)
  replace h := hk M2 hq
  refine mg_aload_n dX9_resolvent_10 rfl 0 rfl ?_
  refine mg_getR (j := 7) dX9_resolvent_11 kc_9 (Nat.le_of_ble_eq_true rfl) wd_238 rfl rfl h0.1.1 h0.1.2 h0.2.2.2.2.2.2.2.1 ?_
  refine mg_getR (j := 0) dX9_resolvent_14 kc_7 (Nat.le_of_ble_eq_true rfl) wd_219 rfl rfl h0.2.2.2.2.2.2.2.2.1.1 h0.2.2.2.2.2.2.2.2.1.2 h0.2.2.2.2.2.2.2.2.2.1.1 ?_
  refine mg_aload_n dX9_resolvent_17 rfl 0 rfl ?_
  refine mg_getR (j := 0) dX9_resolvent_18 kc_9 (Nat.le_of_ble_eq_true rfl) wd_231 rfl rfl h0.1.1 h0.1.2 h0.2.1.1 ?_
  refine mg_getR (j := 3) dX9_resolvent_21 kc_6 (Nat.le_of_ble_eq_true rfl) wd_75 rfl rfl h0.2.1.2.1.1 h0.2.1.2.1.2 h0.2.1.2.2.1.1 ?_
  refine mg_iload_n dX9_resolvent_24 rfl 1 rfl ?_
  refine mg_sipush (v := 576) dX9_resolvent_25 (by decide) ?_
  obtain ⟨q3, hC, hk⟩ := h
  refine mc_Vv [.ref (k0 + 1 + 1), .int (x1), .int (576)] [] dX9_resolvent_28 wd_1135 kiX5_find (Nat.le_of_ble_eq_true rfl) h0.2.2.2.2.2.2.2.2.2.1.2.1.1 h0.2.2.2.2.2.2.2.2.2.1.2.1.2 rfl (Nat.le_trans (Nat.le_of_ble_eq_true rfl) hd) hC (fun M3 hq => ?_)
  replace h := hk M3 hq
  refine mg_aload_n dX9_resolvent_31 rfl 0 rfl ?_
  refine mg_getR (j := 7) dX9_resolvent_32 kc_9 (Nat.le_of_ble_eq_true rfl) wd_238 rfl rfl h0.1.1 h0.1.2 h0.2.2.2.2.2.2.2.1 ?_
  refine mg_getR (j := 0) dX9_resolvent_35 kc_7 (Nat.le_of_ble_eq_true rfl) wd_219 rfl rfl h0.2.2.2.2.2.2.2.2.1.1 h0.2.2.2.2.2.2.2.2.1.2 h0.2.2.2.2.2.2.2.2.2.1.1 ?_
  refine mg_getR (j := 0) dX9_resolvent_38 kc_5 (Nat.le_of_ble_eq_true rfl) wd_178 rfl rfl h0.2.2.2.2.2.2.2.2.2.1.2.1.1 h0.2.2.2.2.2.2.2.2.2.1.2.1.2 h0.2.2.2.2.2.2.2.2.2.1.2.2.1 ?_
  refine mg_astore (ls' := [(4, .ref (k0 + 88 + 1 + 1)), (0, .ref (k0)), (1, .int (x1)), (2, .int (x2)), (3, .int (x3))]) dX9_resolvent_41 (Nat.le_of_ble_eq_true rfl) rfl ?_
  refine mg_iload_n dX9_resolvent_43 rfl 3 rfl ?_
  refine mg_if_lt (tgt := 56) dX9_resolvent_44 (by decide) (fun hc => ?_) (fun hc => ?_)
  · replace h := h.1 hc
    exact mg_throw (ti := 19) rfl rfl xw_IO rfl dX9_resolvent_56 dX9_resolvent_59 dX9_resolvent_60 dX9_resolvent_62 dX9_resolvent_65 (Nat.le_trans (Nat.le_of_ble_eq_true rfl) hd) (Nat.le_of_ble_eq_true rfl) (Nat.le_of_ble_eq_true rfl) ⟨rfl, h⟩
  · replace h := h.2 hc
    refine mg_iload_n dX9_resolvent_47 rfl 3 rfl ?_
    refine mg_aload dX9_resolvent_48 0 rfl ?_
    obtain ⟨q4, hC, hk⟩ := h
    refine mc_Vi [] [.int (x2)] dX9_resolvent_50 wd_260 kiX0_size (Nat.le_of_ble_eq_true rfl) h0.2.2.2.2.2.2.2.2.2.1.2.2.2.1.1 h0.2.2.2.2.2.2.2.2.2.1.2.2.2.1.2 rfl (Nat.le_trans (Nat.le_of_ble_eq_true rfl) hd) hC (fun v4 M4 hq => ?_)
    replace h := hk v4 M4 hq
    refine mg_icmp_lt (tgt := 66) dX9_resolvent_53 (by decide) (fun hc => ?_) (fun hc => ?_)
    · replace h := h.1 hc
      refine mg_aload dX9_resolvent_66 0 rfl ?_
      refine mg_iload_n dX9_resolvent_68 rfl 3 rfl ?_
      obtain ⟨q5, hC, hk⟩ := h
      refine mc_Vi [.int (x2)] [] dX9_resolvent_69 wd_539 kiX0_at (Nat.le_of_ble_eq_true rfl) h0.2.2.2.2.2.2.2.2.2.1.2.2.2.1.1 h0.2.2.2.2.2.2.2.2.2.1.2.2.2.1.2 rfl (Nat.le_trans (Nat.le_of_ble_eq_true rfl) hd) hC (fun v5 M5 hq => ?_)
      replace h := hk v5 M5 hq
      refine mg_iload_n dX9_resolvent_72 rfl 4 rfl ?_
      obtain ⟨q6, hC, hk⟩ := h
      refine mc_Si [.int (v5), .int (x3)] [] dX9_resolvent_73 wd_652 kiX9_half (Nat.le_of_ble_eq_true rfl) (Nat.le_trans (Nat.le_of_ble_eq_true rfl) hd) hC (fun v6 M6 hq => ?_)
      replace h := hk v6 M6 hq
      exact mex_i dX9_resolvent_76 rfl h
    · replace h := h.2 hc
      exact mg_throw (ti := 19) rfl rfl xw_IO rfl dX9_resolvent_56 dX9_resolvent_59 dX9_resolvent_60 dX9_resolvent_62 dX9_resolvent_65 (Nat.le_trans (Nat.le_of_ble_eq_true rfl) hd) (Nat.le_of_ble_eq_true rfl) (Nat.le_of_ble_eq_true rfl) ⟨rfl, h⟩
theorem dX9_blockingLiteral_0 : decode cX9_blockingLiteral 0 = .ok (.aload_n 0, 1) := by decide +kernel
theorem dX9_blockingLiteral_1 : decode cX9_blockingLiteral 1 = .ok (.iload_n 1, 1) := by decide +kernel
theorem dX9_blockingLiteral_2 : decode cX9_blockingLiteral 2 = .ok (.invokevirtual 125, 3) := by decide +kernel
theorem dX9_blockingLiteral_5 : decode cX9_blockingLiteral 5 = .ok (.aload_n 0, 1) := by decide +kernel
theorem dX9_blockingLiteral_6 : decode cX9_blockingLiteral 6 = .ok (.getfield 12, 3) := by decide +kernel
theorem dX9_blockingLiteral_9 : decode cX9_blockingLiteral 9 = .ok (.getfield 119, 3) := by decide +kernel
theorem dX9_blockingLiteral_12 : decode cX9_blockingLiteral 12 = .ok (.iload_n 1, 1) := by decide +kernel
theorem dX9_blockingLiteral_13 : decode cX9_blockingLiteral 13 = .ok (.invokestatic 238, 3) := by decide +kernel
theorem dX9_blockingLiteral_16 : decode cX9_blockingLiteral 16 = .ok (.ireturn, 1) := by decide +kernel
abbrev mtX9_blockingLiteral : mj_T := (yX9_blockingLiteral.cls, cX9_blockingLiteral, 2, (some .int), mj_no, yX9_blockingLiteral.name)
abbrev kX9_blockingLiteral (k0 : Nat) (x1 : Int32) (g : mj_S) (M : mj_M) (q : Int32 → mj_M → Prop) (qx : String → mj_M → Prop) : Prop := mj_CIX yX9_blockingLiteral (.code yX9_blockingLiteral cX9_blockingLiteral 2 (some .int)) 8 1 6 [.ref (k0), .int (x1)] g M q qx
theorem kiX9_blockingLiteral : mj_cV yX9_blockingLiteral cX9_blockingLiteral 2 (some .int) 1 := ⟨⟨wd_1148, wd_1149, wd_1, wd_1150⟩, ⟨by decide +kernel, by decide +kernel, by decide +kernel⟩, Nat.le_of_ble_eq_true rfl⟩
theorem eX9_blockingLiteral {k0 : Nat} {x1 : Int32} {g : mj_S} {M : mj_M} {q : Int32 → mj_M → Prop} {qx : String → mj_M → Prop} (h0 : is9 g k0) (h : ∃ (q1 : mj_M → Prop) (qx1 : String → mj_M → Prop), kX9_requireClause (k0) (x1) g (M) q1 qx1 ∧ (∀ (X : String) (M' : mj_M), qx1 X M' → qx X M') ∧ ∀ (M1 : mj_M), q1 M1 → (∃ (q2 : Int32 → mj_M → Prop), kX9_lowestBlocking (k0 + 1 + 1) (x1) g (M1) q2 ∧ ∀ (v2 : Int32) (M2 : mj_M), q2 v2 M2 → (q (v2) (M2)))) : kX9_blockingLiteral (k0) (x1) g M q qx := by
  intro d hd; refine mj_enter (by decide +kernel) (Nat.le_of_ble_eq_true rfl) ?_
  show mj_G mtX9_blockingLiteral (mj_rm d 1 6) (mj_Fi (mj_qI g q) (mj_qX g qx) 1 6) false 1 6 0 [(0, .ref (k0)), (1, .int (x1))] [] g M
  refine mg_aload_n dX9_blockingLiteral_0 rfl 0 rfl ?_
  refine mg_iload_n dX9_blockingLiteral_1 rfl 1 rfl ?_
  obtain ⟨q1, qx1, hC, hkx, hk⟩ := h
  refine mx_Vv [.int (x1)] [] dX9_blockingLiteral_2 wd_844 kiX9_requireClause (Nat.le_of_ble_eq_true rfl) h0.1.1 h0.1.2 rfl (Nat.le_trans (Nat.le_of_ble_eq_true rfl) hd) ⟨Nat.le_of_ble_eq_true rfl, Nat.le_of_ble_eq_true rfl⟩ rfl rfl hC hkx (fun M1 hq => ?_)
  replace h := hk M1 hq
  refine mg_aload_n dX9_blockingLiteral_5 rfl 0 rfl ?_
  refine mg_getR (j := 0) dX9_blockingLiteral_6 kc_9 (Nat.le_of_ble_eq_true rfl) wd_231 rfl rfl h0.1.1 h0.1.2 h0.2.1.1 ?_
  refine mg_getR (j := 3) dX9_blockingLiteral_9 kc_6 (Nat.le_of_ble_eq_true rfl) wd_75 rfl rfl h0.2.1.2.1.1 h0.2.1.2.1.2 h0.2.1.2.2.1.1 ?_
  refine mg_iload_n dX9_blockingLiteral_12 rfl 1 rfl ?_
  obtain ⟨q2, hC, hk⟩ := h
  refine mc_Si [.ref (k0 + 1 + 1), .int (x1)] [] dX9_blockingLiteral_13 wd_1151 kiX9_lowestBlocking (Nat.le_of_ble_eq_true rfl) (Nat.le_trans (Nat.le_of_ble_eq_true rfl) hd) hC (fun v2 M2 hq => ?_)
  replace h := hk v2 M2 hq
  exact mex_i dX9_blockingLiteral_16 rfl h
theorem dX9_coverPairs_0 : decode cX9_coverPairs 0 = .ok (.aload_n 0, 1) := by decide +kernel
theorem dX9_coverPairs_1 : decode cX9_coverPairs 1 = .ok (.iload_n 1, 1) := by decide +kernel
theorem dX9_coverPairs_2 : decode cX9_coverPairs 2 = .ok (.invokevirtual 125, 3) := by decide +kernel
theorem dX9_coverPairs_5 : decode cX9_coverPairs 5 = .ok (.aload_n 0, 1) := by decide +kernel
theorem dX9_coverPairs_6 : decode cX9_coverPairs 6 = .ok (.getfield 51, 3) := by decide +kernel
theorem dX9_coverPairs_9 : decode cX9_coverPairs 9 = .ok (.getfield 242, 3) := by decide +kernel
theorem dX9_coverPairs_12 : decode cX9_coverPairs 12 = .ok (.astore_n 2, 1) := by decide +kernel
theorem dX9_coverPairs_13 : decode cX9_coverPairs 13 = .ok (.aload_n 2, 1) := by decide +kernel
theorem dX9_coverPairs_14 : decode cX9_coverPairs 14 = .ok (.aload_n 0, 1) := by decide +kernel
theorem dX9_coverPairs_15 : decode cX9_coverPairs 15 = .ok (.getfield 12, 3) := by decide +kernel
theorem dX9_coverPairs_18 : decode cX9_coverPairs 18 = .ok (.getfield 119, 3) := by decide +kernel
theorem dX9_coverPairs_21 : decode cX9_coverPairs 21 = .ok (.iload_n 1, 1) := by decide +kernel
theorem dX9_coverPairs_22 : decode cX9_coverPairs 22 = .ok (.invokevirtual 246, 3) := by decide +kernel
theorem dX9_coverPairs_25 : decode cX9_coverPairs 25 = .ok (.aload_n 2, 1) := by decide +kernel
theorem dX9_coverPairs_26 : decode cX9_coverPairs 26 = .ok (.getfield 251, 3) := by decide +kernel
theorem dX9_coverPairs_29 : decode cX9_coverPairs 29 = .ok (.ifCond .eq 13, 3) := by decide +kernel
theorem dX9_coverPairs_32 : decode cX9_coverPairs 32 = .ok (.aload_n 2, 1) := by decide +kernel
theorem dX9_coverPairs_33 : decode cX9_coverPairs 33 = .ok (.getfield 255, 3) := by decide +kernel
theorem dX9_coverPairs_36 : decode cX9_coverPairs 36 = .ok (.invokevirtual 92, 3) := by decide +kernel
theorem dX9_coverPairs_39 : decode cX9_coverPairs 39 = .ok (.goto 4, 3) := by decide +kernel
theorem dX9_coverPairs_42 : decode cX9_coverPairs 42 = .ok (.iconst (-1), 1) := by decide +kernel
theorem dX9_coverPairs_43 : decode cX9_coverPairs 43 = .ok (.ireturn, 1) := by decide +kernel
abbrev mtX9_coverPairs : mj_T := (yX9_coverPairs.cls, cX9_coverPairs, 3, (some .int), mj_no, yX9_coverPairs.name)
abbrev kX9_coverPairs (k0 : Nat) (x1 : Int32) (g : mj_S) (M : mj_M) (q : Int32 → mj_M → Prop) (qx : String → mj_M → Prop) : Prop := mj_CIX yX9_coverPairs (.code yX9_coverPairs cX9_coverPairs 3 (some .int)) 8 1 6 [.ref (k0), .int (x1)] g M q qx
theorem kiX9_coverPairs : mj_cV yX9_coverPairs cX9_coverPairs 3 (some .int) 1 := ⟨⟨wd_1156, wd_1157, wd_1, wd_1158⟩, ⟨by decide +kernel, by decide +kernel, by decide +kernel⟩, Nat.le_of_ble_eq_true rfl⟩
theorem eX9_coverPairs {k0 : Nat} {x1 : Int32} {g : mj_S} {M : mj_M} {q : Int32 → mj_M → Prop} {qx : String → mj_M → Prop} (h0 : is9 g k0) (h : ∃ (q1 : mj_M → Prop) (qx1 : String → mj_M → Prop), kX9_requireClause (k0) (x1) g (M) q1 qx1 ∧ (∀ (X : String) (M' : mj_M), qx1 X M' → qx X M') ∧ ∀ (M1 : mj_M), q1 M1 → (∃ (q2 : mj_M → Prop), kX3_find (k0 + 88 + 4) (k0 + 1 + 1) (x1) g (M1) q2 ∧ ∀ (M2 : mj_M), q2 M2 → ((((M2).1 (k0 + 88 + 4) 3 : Int32) = 0 → q ((-1)) (M2)) ∧ (¬ ((M2).1 (k0 + 88 + 4) 3 : Int32) = 0 → ∃ (q3 : Int32 → mj_M → Prop), kX0_size (k0 + 88 + 4 + 1) g (M2) q3 ∧ ∀ (v3 : Int32) (M3 : mj_M), q3 v3 M3 → (q (v3) (M3)))))) : kX9_coverPairs (k0) (x1) g M q qx := by
  intro d hd; refine mj_enter (by decide +kernel) (Nat.le_of_ble_eq_true rfl) ?_
  show mj_G mtX9_coverPairs (mj_rm d 1 6) (mj_Fi (mj_qI g q) (mj_qX g qx) 1 6) false 1 6 0 [(0, .ref (k0)), (1, .int (x1))] [] g M
  refine mg_aload_n dX9_coverPairs_0 rfl 0 rfl ?_
  refine mg_iload_n dX9_coverPairs_1 rfl 1 rfl ?_
  obtain ⟨q1, qx1, hC, hkx, hk⟩ := h
  refine mx_Vv [.int (x1)] [] dX9_coverPairs_2 wd_844 kiX9_requireClause (Nat.le_of_ble_eq_true rfl) h0.1.1 h0.1.2 rfl (Nat.le_trans (Nat.le_of_ble_eq_true rfl) hd) ⟨Nat.le_of_ble_eq_true rfl, Nat.le_of_ble_eq_true rfl⟩ rfl rfl hC hkx (fun M1 hq => ?_)
  replace h := hk M1 hq
  refine mg_aload_n dX9_coverPairs_5 rfl 0 rfl ?_
  refine mg_getR (j := 7) dX9_coverPairs_6 kc_9 (Nat.le_of_ble_eq_true rfl) wd_238 rfl rfl h0.1.1 h0.1.2 h0.2.2.2.2.2.2.2.1 ?_
  refine mg_getR (j := 1) dX9_coverPairs_9 kc_7 (Nat.le_of_ble_eq_true rfl) wd_221 rfl rfl h0.2.2.2.2.2.2.2.2.1.1 h0.2.2.2.2.2.2.2.2.1.2 h0.2.2.2.2.2.2.2.2.2.2.1.1 ?_
  refine mg_astore_n (ls' := [(2, .ref (k0 + 88 + 4)), (0, .ref (k0)), (1, .int (x1))]) dX9_coverPairs_12 rfl (Nat.le_of_ble_eq_true rfl) rfl ?_
  refine mg_aload_n dX9_coverPairs_13 rfl 0 rfl ?_
  refine mg_aload_n dX9_coverPairs_14 rfl 1 rfl ?_
  refine mg_getR (j := 0) dX9_coverPairs_15 kc_9 (Nat.le_of_ble_eq_true rfl) wd_231 rfl rfl h0.1.1 h0.1.2 h0.2.1.1 ?_
  refine mg_getR (j := 3) dX9_coverPairs_18 kc_6 (Nat.le_of_ble_eq_true rfl) wd_75 rfl rfl h0.2.1.2.1.1 h0.2.1.2.1.2 h0.2.1.2.2.1.1 ?_
  refine mg_iload_n dX9_coverPairs_21 rfl 2 rfl ?_
  obtain ⟨q2, hC, hk⟩ := h
  refine mc_Vv [.ref (k0 + 1 + 1), .int (x1)] [] dX9_coverPairs_22 wd_1159 kiX3_find (Nat.le_of_ble_eq_true rfl) h0.2.2.2.2.2.2.2.2.2.2.1.2.1.1 h0.2.2.2.2.2.2.2.2.2.2.1.2.1.2 rfl (Nat.le_trans (Nat.le_of_ble_eq_true rfl) hd) hC (fun M2 hq => ?_)
  replace h := hk M2 hq
  refine mg_aload_n dX9_coverPairs_25 rfl 0 rfl ?_
  refine mg_getI (j := 3) dX9_coverPairs_26 kc_3 (Nat.le_of_ble_eq_true rfl) wd_198 rfl rfl h0.2.2.2.2.2.2.2.2.2.2.1.2.1.1 h0.2.2.2.2.2.2.2.2.2.2.1.2.1.2 rfl ?_
  refine mg_if_eq (tgt := 42) dX9_coverPairs_29 (by decide) (fun hc => ?_) (fun hc => ?_)
  · replace h := h.1 hc
    refine mg_iconst (v := (-1)) dX9_coverPairs_42 (by decide) ?_
    exact mex_i dX9_coverPairs_43 rfl h
  · replace h := h.2 hc
    refine mg_aload_n dX9_coverPairs_32 rfl 0 rfl ?_
    refine mg_getR (j := 0) dX9_coverPairs_33 kc_3 (Nat.le_of_ble_eq_true rfl) wd_192 rfl rfl h0.2.2.2.2.2.2.2.2.2.2.1.2.1.1 h0.2.2.2.2.2.2.2.2.2.2.1.2.1.2 h0.2.2.2.2.2.2.2.2.2.2.1.2.2.1.1 ?_
    obtain ⟨q3, hC, hk⟩ := h
    refine mc_Vi [] [] dX9_coverPairs_36 wd_260 kiX0_size (Nat.le_of_ble_eq_true rfl) h0.2.2.2.2.2.2.2.2.2.2.1.2.2.1.2.1.1 h0.2.2.2.2.2.2.2.2.2.2.1.2.2.1.2.1.2 rfl (Nat.le_trans (Nat.le_of_ble_eq_true rfl) hd) hC (fun v3 M3 hq => ?_)
    replace h := hk v3 M3 hq
    refine mg_goto (tgt := 43) dX9_coverPairs_39 (by decide) ?_
    exact mex_i dX9_coverPairs_43 rfl h
theorem dX9_extension_0 : decode cX9_extension 0 = .ok (.aload_n 0, 1) := by decide +kernel
theorem dX9_extension_1 : decode cX9_extension 1 = .ok (.iload_n 1, 1) := by decide +kernel
theorem dX9_extension_2 : decode cX9_extension 2 = .ok (.invokevirtual 125, 3) := by decide +kernel
theorem dX9_extension_5 : decode cX9_extension 5 = .ok (.aload_n 0, 1) := by decide +kernel
theorem dX9_extension_6 : decode cX9_extension 6 = .ok (.getfield 51, 3) := by decide +kernel
theorem dX9_extension_9 : decode cX9_extension 9 = .ok (.getfield 242, 3) := by decide +kernel
theorem dX9_extension_12 : decode cX9_extension 12 = .ok (.astore_n 3, 1) := by decide +kernel
theorem dX9_extension_13 : decode cX9_extension 13 = .ok (.aload_n 3, 1) := by decide +kernel
theorem dX9_extension_14 : decode cX9_extension 14 = .ok (.aload_n 0, 1) := by decide +kernel
theorem dX9_extension_15 : decode cX9_extension 15 = .ok (.getfield 12, 3) := by decide +kernel
theorem dX9_extension_18 : decode cX9_extension 18 = .ok (.getfield 119, 3) := by decide +kernel
theorem dX9_extension_21 : decode cX9_extension 21 = .ok (.iload_n 1, 1) := by decide +kernel
theorem dX9_extension_22 : decode cX9_extension 22 = .ok (.invokevirtual 246, 3) := by decide +kernel
theorem dX9_extension_25 : decode cX9_extension 25 = .ok (.aload_n 3, 1) := by decide +kernel
theorem dX9_extension_26 : decode cX9_extension 26 = .ok (.getfield 258, 3) := by decide +kernel
theorem dX9_extension_29 : decode cX9_extension 29 = .ok (.iload_n 2, 1) := by decide +kernel
theorem dX9_extension_30 : decode cX9_extension 30 = .ok (.invokestatic 115, 3) := by decide +kernel
theorem dX9_extension_33 : decode cX9_extension 33 = .ok (.ireturn, 1) := by decide +kernel
abbrev mtX9_extension : mj_T := (yX9_extension.cls, cX9_extension, 4, (some .int), mj_no, yX9_extension.name)
abbrev kX9_extension (k0 : Nat) (x1 : Int32) (x2 : Int32) (g : mj_S) (M : mj_M) (q : Int32 → mj_M → Prop) (qx : String → mj_M → Prop) : Prop := mj_CIX yX9_extension (.code yX9_extension cX9_extension 4 (some .int)) 8 1 6 [.ref (k0), .int (x1), .int (x2)] g M q qx
theorem kiX9_extension : mj_cV yX9_extension cX9_extension 4 (some .int) 2 := ⟨⟨wd_1164, wd_1165, wd_1, wd_1166⟩, ⟨by decide +kernel, by decide +kernel, by decide +kernel⟩, Nat.le_of_ble_eq_true rfl⟩
theorem eX9_extension {k0 : Nat} {x1 : Int32} {x2 : Int32} {g : mj_S} {M : mj_M} {q : Int32 → mj_M → Prop} {qx : String → mj_M → Prop} (h0 : is9 g k0) (h : ∃ (q1 : mj_M → Prop) (qx1 : String → mj_M → Prop), kX9_requireClause (k0) (x1) g (M) q1 qx1 ∧ (∀ (X : String) (M' : mj_M), qx1 X M' → qx X M') ∧ ∀ (M1 : mj_M), q1 M1 → (∃ (q2 : mj_M → Prop), kX3_find (k0 + 88 + 4) (k0 + 1 + 1) (x1) g (M1) q2 ∧ ∀ (M2 : mj_M), q2 M2 → (∃ (q3 : Int32 → mj_M → Prop), kX9_half ((M2).1 (k0 + 88 + 4) 2) (x2) g (M2) q3 ∧ ∀ (v3 : Int32) (M3 : mj_M), q3 v3 M3 → (q (v3) (M3))))) : kX9_extension (k0) (x1) (x2) g M q qx := by
  intro d hd; refine mj_enter (by decide +kernel) (Nat.le_of_ble_eq_true rfl) ?_
  show mj_G mtX9_extension (mj_rm d 1 6) (mj_Fi (mj_qI g q) (mj_qX g qx) 1 6) false 1 6 0 [(0, .ref (k0)), (1, .int (x1)), (2, .int (x2))] [] g M
  refine mg_aload_n dX9_extension_0 rfl 0 rfl ?_
  refine mg_iload_n dX9_extension_1 rfl 1 rfl ?_
  obtain ⟨q1, qx1, hC, hkx, hk⟩ := h
  refine mx_Vv [.int (x1)] [] dX9_extension_2 wd_844 kiX9_requireClause (Nat.le_of_ble_eq_true rfl) h0.1.1 h0.1.2 rfl (Nat.le_trans (Nat.le_of_ble_eq_true rfl) hd) ⟨Nat.le_of_ble_eq_true rfl, Nat.le_of_ble_eq_true rfl⟩ rfl rfl hC hkx (fun M1 hq => ?_)
  replace h := hk M1 hq
  refine mg_aload_n dX9_extension_5 rfl 0 rfl ?_
  refine mg_getR (j := 7) dX9_extension_6 kc_9 (Nat.le_of_ble_eq_true rfl) wd_238 rfl rfl h0.1.1 h0.1.2 h0.2.2.2.2.2.2.2.1 ?_
  refine mg_getR (j := 1) dX9_extension_9 kc_7 (Nat.le_of_ble_eq_true rfl) wd_221 rfl rfl h0.2.2.2.2.2.2.2.2.1.1 h0.2.2.2.2.2.2.2.2.1.2 h0.2.2.2.2.2.2.2.2.2.2.1.1 ?_
  refine mg_astore_n (ls' := [(3, .ref (k0 + 88 + 4)), (0, .ref (k0)), (1, .int (x1)), (2, .int (x2))]) dX9_extension_12 rfl (Nat.le_of_ble_eq_true rfl) rfl ?_
  refine mg_aload_n dX9_extension_13 rfl 0 rfl ?_
  refine mg_aload_n dX9_extension_14 rfl 1 rfl ?_
  refine mg_getR (j := 0) dX9_extension_15 kc_9 (Nat.le_of_ble_eq_true rfl) wd_231 rfl rfl h0.1.1 h0.1.2 h0.2.1.1 ?_
  refine mg_getR (j := 3) dX9_extension_18 kc_6 (Nat.le_of_ble_eq_true rfl) wd_75 rfl rfl h0.2.1.2.1.1 h0.2.1.2.1.2 h0.2.1.2.2.1.1 ?_
  refine mg_iload_n dX9_extension_21 rfl 2 rfl ?_
  obtain ⟨q2, hC, hk⟩ := h
  refine mc_Vv [.ref (k0 + 1 + 1), .int (x1)] [] dX9_extension_22 wd_1159 kiX3_find (Nat.le_of_ble_eq_true rfl) h0.2.2.2.2.2.2.2.2.2.2.1.2.1.1 h0.2.2.2.2.2.2.2.2.2.2.1.2.1.2 rfl (Nat.le_trans (Nat.le_of_ble_eq_true rfl) hd) hC (fun M2 hq => ?_)
  replace h := hk M2 hq
  refine mg_aload_n dX9_extension_25 rfl 0 rfl ?_
  refine mg_getI (j := 2) dX9_extension_26 kc_3 (Nat.le_of_ble_eq_true rfl) wd_195 rfl rfl h0.2.2.2.2.2.2.2.2.2.2.1.2.1.1 h0.2.2.2.2.2.2.2.2.2.2.1.2.1.2 rfl ?_
  refine mg_iload_n dX9_extension_29 rfl 3 rfl ?_
  obtain ⟨q3, hC, hk⟩ := h
  refine mc_Si [.int ((M2).1 (k0 + 88 + 4) 2), .int (x2)] [] dX9_extension_30 wd_652 kiX9_half (Nat.le_of_ble_eq_true rfl) (Nat.le_trans (Nat.le_of_ble_eq_true rfl) hd) hC (fun v3 M3 hq => ?_)
  replace h := hk v3 M3 hq
  exact mex_i dX9_extension_33 rfl h
theorem dX9_vivified_0 : decode cX9_vivified 0 = .ok (.aload_n 0, 1) := by decide +kernel
theorem dX9_vivified_1 : decode cX9_vivified 1 = .ok (.iload_n 1, 1) := by decide +kernel
theorem dX9_vivified_2 : decode cX9_vivified 2 = .ok (.invokevirtual 125, 3) := by decide +kernel
theorem dX9_vivified_5 : decode cX9_vivified 5 = .ok (.aload_n 0, 1) := by decide +kernel
theorem dX9_vivified_6 : decode cX9_vivified 6 = .ok (.getfield 12, 3) := by decide +kernel
theorem dX9_vivified_9 : decode cX9_vivified 9 = .ok (.getfield 119, 3) := by decide +kernel
theorem dX9_vivified_12 : decode cX9_vivified 12 = .ok (.iload_n 1, 1) := by decide +kernel
theorem dX9_vivified_13 : decode cX9_vivified 13 = .ok (.invokestatic 261, 3) := by decide +kernel
theorem dX9_vivified_16 : decode cX9_vivified 16 = .ok (.istore_n 3, 1) := by decide +kernel
theorem dX9_vivified_17 : decode cX9_vivified 17 = .ok (.iload_n 3, 1) := by decide +kernel
theorem dX9_vivified_18 : decode cX9_vivified 18 = .ok (.iconst (-1), 1) := by decide +kernel
theorem dX9_vivified_19 : decode cX9_vivified 19 = .ok (.if_icmp .ne 7, 3) := by decide +kernel
theorem dX9_vivified_22 : decode cX9_vivified 22 = .ok (.iconst 0, 1) := by decide +kernel
theorem dX9_vivified_23 : decode cX9_vivified 23 = .ok (.goto 8, 3) := by decide +kernel
theorem dX9_vivified_26 : decode cX9_vivified 26 = .ok (.iload_n 3, 1) := by decide +kernel
theorem dX9_vivified_27 : decode cX9_vivified 27 = .ok (.iload_n 2, 1) := by decide +kernel
theorem dX9_vivified_28 : decode cX9_vivified 28 = .ok (.invokestatic 115, 3) := by decide +kernel
theorem dX9_vivified_31 : decode cX9_vivified 31 = .ok (.ireturn, 1) := by decide +kernel
abbrev mtX9_vivified : mj_T := (yX9_vivified.cls, cX9_vivified, 4, (some .int), mj_no, yX9_vivified.name)
abbrev kX9_vivified (k0 : Nat) (x1 : Int32) (x2 : Int32) (g : mj_S) (M : mj_M) (q : Int32 → mj_M → Prop) (qx : String → mj_M → Prop) : Prop := mj_CIX yX9_vivified (.code yX9_vivified cX9_vivified 4 (some .int)) 8 1 6 [.ref (k0), .int (x1), .int (x2)] g M q qx
theorem kiX9_vivified : mj_cV yX9_vivified cX9_vivified 4 (some .int) 2 := ⟨⟨wd_1171, wd_1172, wd_1, wd_1173⟩, ⟨by decide +kernel, by decide +kernel, by decide +kernel⟩, Nat.le_of_ble_eq_true rfl⟩
theorem eX9_vivified {k0 : Nat} {x1 : Int32} {x2 : Int32} {g : mj_S} {M : mj_M} {q : Int32 → mj_M → Prop} {qx : String → mj_M → Prop} (h0 : is9 g k0) (h : ∃ (q1 : mj_M → Prop) (qx1 : String → mj_M → Prop), kX9_requireClause (k0) (x1) g (M) q1 qx1 ∧ (∀ (X : String) (M' : mj_M), qx1 X M' → qx X M') ∧ ∀ (M1 : mj_M), q1 M1 → (∃ (q2 : Int32 → mj_M → Prop), kX9_vivify (k0 + 1 + 1) (x1) g (M1) q2 ∧ ∀ (v2 : Int32) (M2 : mj_M), q2 v2 M2 → ((¬ (v2 : Int32) = (-1 : Int32) → ∃ (q3 : Int32 → mj_M → Prop), kX9_half (v2) (x2) g (M2) q3 ∧ ∀ (v3 : Int32) (M3 : mj_M), q3 v3 M3 → (q (v3) (M3))) ∧ ((v2 : Int32) = (-1 : Int32) → q (0) (M2))))) : kX9_vivified (k0) (x1) (x2) g M q qx := by
  intro d hd; refine mj_enter (by decide +kernel) (Nat.le_of_ble_eq_true rfl) ?_
  show mj_G mtX9_vivified (mj_rm d 1 6) (mj_Fi (mj_qI g q) (mj_qX g qx) 1 6) false 1 6 0 [(0, .ref (k0)), (1, .int (x1)), (2, .int (x2))] [] g M
  refine mg_aload_n dX9_vivified_0 rfl 0 rfl ?_
  refine mg_iload_n dX9_vivified_1 rfl 1 rfl ?_
  obtain ⟨q1, qx1, hC, hkx, hk⟩ := h
  refine mx_Vv [.int (x1)] [] dX9_vivified_2 wd_844 kiX9_requireClause (Nat.le_of_ble_eq_true rfl) h0.1.1 h0.1.2 rfl (Nat.le_trans (Nat.le_of_ble_eq_true rfl) hd) ⟨Nat.le_of_ble_eq_true rfl, Nat.le_of_ble_eq_true rfl⟩ rfl rfl hC hkx (fun M1 hq => ?_)
  replace h := hk M1 hq
  refine mg_aload_n dX9_vivified_5 rfl 0 rfl ?_
  refine mg_getR (j := 0) dX9_vivified_6 kc_9 (Nat.le_of_ble_eq_true rfl) wd_231 rfl rfl h0.1.1 h0.1.2 h0.2.1.1 ?_
  refine mg_getR (j := 3) dX9_vivified_9 kc_6 (Nat.le_of_ble_eq_true rfl) wd_75 rfl rfl h0.2.1.2.1.1 h0.2.1.2.1.2 h0.2.1.2.2.1.1 ?_
  refine mg_iload_n dX9_vivified_12 rfl 1 rfl ?_
  obtain ⟨q2, hC, hk⟩ := h
  refine mc_Si [.ref (k0 + 1 + 1), .int (x1)] [] dX9_vivified_13 wd_1174 kiX9_vivify (Nat.le_of_ble_eq_true rfl) (Nat.le_trans (Nat.le_of_ble_eq_true rfl) hd) hC (fun v2 M2 hq => ?_)
  replace h := hk v2 M2 hq
  refine mg_istore_n (ls' := [(3, .int (v2)), (0, .ref (k0)), (1, .int (x1)), (2, .int (x2))]) dX9_vivified_16 rfl (Nat.le_of_ble_eq_true rfl) rfl ?_
  refine mg_iload_n dX9_vivified_17 rfl 0 rfl ?_
  refine mg_iconst (v := (-1)) dX9_vivified_18 (by decide) ?_
  refine mg_icmp_ne (tgt := 26) dX9_vivified_19 (by decide) (fun hc => ?_) (fun hc => ?_)
  · replace h := h.1 hc
    refine mg_iload_n dX9_vivified_26 rfl 0 rfl ?_
    refine mg_iload_n dX9_vivified_27 rfl 3 rfl ?_
    obtain ⟨q3, hC, hk⟩ := h
    refine mc_Si [.int (v2), .int (x2)] [] dX9_vivified_28 wd_652 kiX9_half (Nat.le_of_ble_eq_true rfl) (Nat.le_trans (Nat.le_of_ble_eq_true rfl) hd) hC (fun v3 M3 hq => ?_)
    replace h := hk v3 M3 hq
    exact mex_i dX9_vivified_31 rfl h
  · replace h := h.2 hc
    refine mg_iconst (v := 0) dX9_vivified_22 (by decide) ?_
    refine mg_goto (tgt := 31) dX9_vivified_23 (by decide) ?_
    exact mex_i dX9_vivified_31 rfl h
theorem dX9_implied_0 : decode cX9_implied 0 = .ok (.aload_n 0, 1) := by decide +kernel
theorem dX9_implied_1 : decode cX9_implied 1 = .ok (.iload_n 1, 1) := by decide +kernel
theorem dX9_implied_2 : decode cX9_implied 2 = .ok (.invokevirtual 125, 3) := by decide +kernel
theorem dX9_implied_5 : decode cX9_implied 5 = .ok (.aload_n 0, 1) := by decide +kernel
theorem dX9_implied_6 : decode cX9_implied 6 = .ok (.getfield 12, 3) := by decide +kernel
theorem dX9_implied_9 : decode cX9_implied 9 = .ok (.getfield 119, 3) := by decide +kernel
theorem dX9_implied_12 : decode cX9_implied 12 = .ok (.iload_n 1, 1) := by decide +kernel
theorem dX9_implied_13 : decode cX9_implied 13 = .ok (.aload_n 0, 1) := by decide +kernel
theorem dX9_implied_14 : decode cX9_implied 14 = .ok (.getfield 12, 3) := by decide +kernel
theorem dX9_implied_17 : decode cX9_implied 17 = .ok (.getfield 119, 3) := by decide +kernel
theorem dX9_implied_20 : decode cX9_implied 20 = .ok (.iload_n 1, 1) := by decide +kernel
theorem dX9_implied_21 : decode cX9_implied 21 = .ok (.invokevirtual 112, 3) := by decide +kernel
theorem dX9_implied_24 : decode cX9_implied 24 = .ok (.invokestatic 264, 3) := by decide +kernel
theorem dX9_implied_27 : decode cX9_implied 27 = .ok (.invokestatic 267, 3) := by decide +kernel
theorem dX9_implied_30 : decode cX9_implied 30 = .ok (.iconst (-1), 1) := by decide +kernel
theorem dX9_implied_31 : decode cX9_implied 31 = .ok (.if_icmp .ne 7, 3) := by decide +kernel
theorem dX9_implied_34 : decode cX9_implied 34 = .ok (.iconst 1, 1) := by decide +kernel
theorem dX9_implied_35 : decode cX9_implied 35 = .ok (.goto 4, 3) := by decide +kernel
theorem dX9_implied_38 : decode cX9_implied 38 = .ok (.iconst 0, 1) := by decide +kernel
theorem dX9_implied_39 : decode cX9_implied 39 = .ok (.ireturn, 1) := by decide +kernel
abbrev mtX9_implied : mj_T := (yX9_implied.cls, cX9_implied, 2, (some .boolean), mj_no, yX9_implied.name)
abbrev kX9_implied (k0 : Nat) (x1 : Int32) (g : mj_S) (M : mj_M) (q : Int32 → mj_M → Prop) (qx : String → mj_M → Prop) : Prop := mj_CIX yX9_implied (.code yX9_implied cX9_implied 2 (some .boolean)) 8 1 6 [.ref (k0), .int (x1)] g M q qx
theorem kiX9_implied : mj_cV yX9_implied cX9_implied 2 (some .boolean) 1 := ⟨⟨wd_1179, wd_1180, wd_1, wd_1181⟩, ⟨by decide +kernel, by decide +kernel, by decide +kernel⟩, Nat.le_of_ble_eq_true rfl⟩
theorem eX9_implied {k0 : Nat} {x1 : Int32} {g : mj_S} {M : mj_M} {q : Int32 → mj_M → Prop} {qx : String → mj_M → Prop} (h0 : is9 g k0) (h : ∃ (q1 : mj_M → Prop) (qx1 : String → mj_M → Prop), kX9_requireClause (k0) (x1) g (M) q1 qx1 ∧ (∀ (X : String) (M' : mj_M), qx1 X M' → qx X M') ∧ ∀ (M1 : mj_M), q1 M1 → (∃ (q2 : Int32 → mj_M → Prop), kX0_at (k0 + 1 + 1) (x1) g (M1) q2 ∧ ∀ (v2 : Int32) (M2 : mj_M), q2 v2 M2 → (∃ (q3 : Int32 → mj_M → Prop), kX9_complements (v2) g (M2) q3 ∧ ∀ (v3 : Int32) (M3 : mj_M), q3 v3 M3 → (∃ (q4 : Int32 → mj_M → Prop), kX9_closure (k0 + 1 + 1) (x1) (v3) g (M3) q4 ∧ ∀ (v4 : Int32) (M4 : mj_M), q4 v4 M4 → ((¬ (v4 : Int32) = (-1 : Int32) → q 0 (M4)) ∧ ((v4 : Int32) = (-1 : Int32) → q 1 (M4))))))) : kX9_implied (k0) (x1) g M q qx := by
  intro d hd; refine mj_enter (by decide +kernel) (Nat.le_of_ble_eq_true rfl) ?_
  show mj_G mtX9_implied (mj_rm d 1 6) (mj_Fi (mj_qI g q) (mj_qX g qx) 1 6) false 1 6 0 [(0, .ref (k0)), (1, .int (x1))] [] g M
  refine mg_aload_n dX9_implied_0 rfl 0 rfl ?_
  refine mg_iload_n dX9_implied_1 rfl 1 rfl ?_
  obtain ⟨q1, qx1, hC, hkx, hk⟩ := h
  refine mx_Vv [.int (x1)] [] dX9_implied_2 wd_844 kiX9_requireClause (Nat.le_of_ble_eq_true rfl) h0.1.1 h0.1.2 rfl (Nat.le_trans (Nat.le_of_ble_eq_true rfl) hd) ⟨Nat.le_of_ble_eq_true rfl, Nat.le_of_ble_eq_true rfl⟩ rfl rfl hC hkx (fun M1 hq => ?_)
  replace h := hk M1 hq
  refine mg_aload_n dX9_implied_5 rfl 0 rfl ?_
  refine mg_getR (j := 0) dX9_implied_6 kc_9 (Nat.le_of_ble_eq_true rfl) wd_231 rfl rfl h0.1.1 h0.1.2 h0.2.1.1 ?_
  refine mg_getR (j := 3) dX9_implied_9 kc_6 (Nat.le_of_ble_eq_true rfl) wd_75 rfl rfl h0.2.1.2.1.1 h0.2.1.2.1.2 h0.2.1.2.2.1.1 ?_
  refine mg_iload_n dX9_implied_12 rfl 1 rfl ?_
  refine mg_aload_n dX9_implied_13 rfl 0 rfl ?_
  refine mg_getR (j := 0) dX9_implied_14 kc_9 (Nat.le_of_ble_eq_true rfl) wd_231 rfl rfl h0.1.1 h0.1.2 h0.2.1.1 ?_
  refine mg_getR (j := 3) dX9_implied_17 kc_6 (Nat.le_of_ble_eq_true rfl) wd_75 rfl rfl h0.2.1.2.1.1 h0.2.1.2.1.2 h0.2.1.2.2.1.1 ?_
  refine mg_iload_n dX9_implied_20 rfl 1 rfl ?_
  obtain ⟨q2, hC, hk⟩ := h
  refine mc_Vi [.int (x1)] [.int (x1), .ref (k0 + 1 + 1)] dX9_implied_21 wd_539 kiX0_at (Nat.le_of_ble_eq_true rfl) h0.2.1.2.2.1.2.1.1 h0.2.1.2.2.1.2.1.2 rfl (Nat.le_trans (Nat.le_of_ble_eq_true rfl) hd) hC (fun v2 M2 hq => ?_)
  replace h := hk v2 M2 hq
  obtain ⟨q3, hC, hk⟩ := h
  refine mc_Si [.int (v2)] [.int (x1), .ref (k0 + 1 + 1)] dX9_implied_24 wd_544 kiX9_complements (Nat.le_of_ble_eq_true rfl) (Nat.le_trans (Nat.le_of_ble_eq_true rfl) hd) hC (fun v3 M3 hq => ?_)
  replace h := hk v3 M3 hq
  obtain ⟨q4, hC, hk⟩ := h
  refine mc_Si [.ref (k0 + 1 + 1), .int (x1), .int (v3)] [] dX9_implied_27 wd_632 kiX9_closure (Nat.le_of_ble_eq_true rfl) (Nat.le_trans (Nat.le_of_ble_eq_true rfl) hd) hC (fun v4 M4 hq => ?_)
  replace h := hk v4 M4 hq
  refine mg_iconst (v := (-1)) dX9_implied_30 (by decide) ?_
  refine mg_icmp_ne (tgt := 38) dX9_implied_31 (by decide) (fun hc => ?_) (fun hc => ?_)
  · replace h := h.1 hc
    refine mg_iconst (v := 0) dX9_implied_38 (by decide) ?_
    exact mex_z dX9_implied_39 rfl (Or.inl rfl) h
  · replace h := h.2 hc
    refine mg_iconst (v := 1) dX9_implied_34 (by decide) ?_
    refine mg_goto (tgt := 39) dX9_implied_35 (by decide) ?_
    exact mex_z dX9_implied_39 rfl (Or.inr rfl) h
theorem dX9_propagate_0 : decode cX9_propagate 0 = .ok (.aload_n 0, 1) := by decide +kernel
theorem dX9_propagate_1 : decode cX9_propagate 1 = .ok (.iload_n 1, 1) := by decide +kernel
theorem dX9_propagate_2 : decode cX9_propagate 2 = .ok (.invokevirtual 141, 3) := by decide +kernel
theorem dX9_propagate_5 : decode cX9_propagate 5 = .ok (.aload_n 0, 1) := by decide +kernel
theorem dX9_propagate_6 : decode cX9_propagate 6 = .ok (.iload_n 1, 1) := by decide +kernel
theorem dX9_propagate_7 : decode cX9_propagate 7 = .ok (.iconst 1, 1) := by decide +kernel
theorem dX9_propagate_8 : decode cX9_propagate 8 = .ok (.ishr, 1) := by decide +kernel
theorem dX9_propagate_9 : decode cX9_propagate 9 = .ok (.invokevirtual 229, 3) := by decide +kernel
theorem dX9_propagate_12 : decode cX9_propagate 12 = .ok (.aload_n 0, 1) := by decide +kernel
theorem dX9_propagate_13 : decode cX9_propagate 13 = .ok (.getfield 12, 3) := by decide +kernel
theorem dX9_propagate_16 : decode cX9_propagate 16 = .ok (.getfield 119, 3) := by decide +kernel
theorem dX9_propagate_19 : decode cX9_propagate 19 = .ok (.iconst (-1), 1) := by decide +kernel
theorem dX9_propagate_20 : decode cX9_propagate 20 = .ok (.iconst 1, 1) := by decide +kernel
theorem dX9_propagate_21 : decode cX9_propagate 21 = .ok (.iload_n 1, 1) := by decide +kernel
theorem dX9_propagate_22 : decode cX9_propagate 22 = .ok (.ishl, 1) := by decide +kernel
theorem dX9_propagate_23 : decode cX9_propagate 23 = .ok (.invokestatic 267, 3) := by decide +kernel
theorem dX9_propagate_26 : decode cX9_propagate 26 = .ok (.ireturn, 1) := by decide +kernel
abbrev mtX9_propagate : mj_T := (yX9_propagate.cls, cX9_propagate, 2, (some .int), mj_no, yX9_propagate.name)
abbrev kX9_propagate (k0 : Nat) (x1 : Int32) (g : mj_S) (M : mj_M) (q : Int32 → mj_M → Prop) (qx : String → mj_M → Prop) : Prop := mj_CIX yX9_propagate (.code yX9_propagate cX9_propagate 2 (some .int)) 8 2 12 [.ref (k0), .int (x1)] g M q qx
theorem kiX9_propagate : mj_cV yX9_propagate cX9_propagate 2 (some .int) 1 := ⟨⟨wd_1186, wd_1187, wd_1, wd_1188⟩, ⟨by decide +kernel, by decide +kernel, by decide +kernel⟩, Nat.le_of_ble_eq_true rfl⟩
theorem eX9_propagate {k0 : Nat} {x1 : Int32} {g : mj_S} {M : mj_M} {q : Int32 → mj_M → Prop} {qx : String → mj_M → Prop} (h0 : is9 g k0) (h : ∃ (q1 : mj_M → Prop) (qx1 : String → mj_M → Prop), kX9_requireLiteral (k0) (x1) g (M) q1 qx1 ∧ (∀ (X : String) (M' : mj_M), qx1 X M' → qx X M') ∧ ∀ (M1 : mj_M), q1 M1 → (∃ (q2 : mj_M → Prop) (qx2 : String → mj_M → Prop), kX9_requireActive (k0) ((x1) >>> ((1 : Int32) &&& 31)) g (M1) q2 qx2 ∧ (∀ (X : String) (M' : mj_M), qx2 X M' → qx X M') ∧ ∀ (M2 : mj_M), q2 M2 → (∃ (q3 : Int32 → mj_M → Prop), kX9_closure (k0 + 1 + 1) ((-1)) ((1 : Int32) <<< ((x1) &&& 31)) g (M2) q3 ∧ ∀ (v3 : Int32) (M3 : mj_M), q3 v3 M3 → (q (v3) (M3))))) : kX9_propagate (k0) (x1) g M q qx := by
  intro d hd; refine mj_enter (by decide +kernel) (Nat.le_of_ble_eq_true rfl) ?_
  show mj_G mtX9_propagate (mj_rm d 2 12) (mj_Fi (mj_qI g q) (mj_qX g qx) 2 12) false 2 12 0 [(0, .ref (k0)), (1, .int (x1))] [] g M
  refine mg_aload_n dX9_propagate_0 rfl 0 rfl ?_
  refine mg_iload_n dX9_propagate_1 rfl 1 rfl ?_
  obtain ⟨q1, qx1, hC, hkx, hk⟩ := h
  refine mx_Vv [.int (x1)] [] dX9_propagate_2 wd_875 kiX9_requireLiteral (Nat.le_of_ble_eq_true rfl) h0.1.1 h0.1.2 rfl (Nat.le_trans (Nat.le_of_ble_eq_true rfl) hd) ⟨Nat.le_of_ble_eq_true rfl, Nat.le_of_ble_eq_true rfl⟩ rfl rfl hC hkx (fun M1 hq => ?_)
  replace h := hk M1 hq
  refine mg_aload_n dX9_propagate_5 rfl 0 rfl ?_
  refine mg_iload_n dX9_propagate_6 rfl 1 rfl ?_
  refine mg_iconst (v := 1) dX9_propagate_7 (by decide) ?_
  refine mg_ishr dX9_propagate_8 ?_
  obtain ⟨q2, qx2, hC, hkx, hk⟩ := h
  refine mx_Vv [.int ((x1) >>> ((1 : Int32) &&& 31))] [] dX9_propagate_9 wd_1129 kiX9_requireActive (Nat.le_of_ble_eq_true rfl) h0.1.1 h0.1.2 rfl (Nat.le_trans (Nat.le_of_ble_eq_true rfl) hd) ⟨Nat.le_of_ble_eq_true rfl, Nat.le_of_ble_eq_true rfl⟩ rfl rfl hC hkx (fun M2 hq => ?_)
  replace h := hk M2 hq
  refine mg_aload_n dX9_propagate_12 rfl 0 rfl ?_
  refine mg_getR (j := 0) dX9_propagate_13 kc_9 (Nat.le_of_ble_eq_true rfl) wd_231 rfl rfl h0.1.1 h0.1.2 h0.2.1.1 ?_
  refine mg_getR (j := 3) dX9_propagate_16 kc_6 (Nat.le_of_ble_eq_true rfl) wd_75 rfl rfl h0.2.1.2.1.1 h0.2.1.2.1.2 h0.2.1.2.2.1.1 ?_
  refine mg_iconst (v := (-1)) dX9_propagate_19 (by decide) ?_
  refine mg_iconst (v := 1) dX9_propagate_20 (by decide) ?_
  refine mg_iload_n dX9_propagate_21 rfl 1 rfl ?_
  refine mg_ishl dX9_propagate_22 ?_
  obtain ⟨q3, hC, hk⟩ := h
  refine mc_Si [.ref (k0 + 1 + 1), .int ((-1)), .int ((1 : Int32) <<< ((x1) &&& 31))] [] dX9_propagate_23 wd_632 kiX9_closure (Nat.le_of_ble_eq_true rfl) (Nat.le_trans (Nat.le_of_ble_eq_true rfl) hd) hC (fun v3 M3 hq => ?_)
  replace h := hk v3 M3 hq
  exact mex_i dX9_propagate_26 rfl h
theorem dX9_reachable_0 : decode cX9_reachable 0 = .ok (.aload_n 0, 1) := by decide +kernel
theorem dX9_reachable_1 : decode cX9_reachable 1 = .ok (.iload_n 1, 1) := by decide +kernel
theorem dX9_reachable_2 : decode cX9_reachable 2 = .ok (.invokevirtual 141, 3) := by decide +kernel
theorem dX9_reachable_5 : decode cX9_reachable 5 = .ok (.aload_n 0, 1) := by decide +kernel
theorem dX9_reachable_6 : decode cX9_reachable 6 = .ok (.iload_n 2, 1) := by decide +kernel
theorem dX9_reachable_7 : decode cX9_reachable 7 = .ok (.invokevirtual 141, 3) := by decide +kernel
theorem dX9_reachable_10 : decode cX9_reachable 10 = .ok (.aload_n 0, 1) := by decide +kernel
theorem dX9_reachable_11 : decode cX9_reachable 11 = .ok (.getfield 51, 3) := by decide +kernel
theorem dX9_reachable_14 : decode cX9_reachable 14 = .ok (.getfield 271, 3) := by decide +kernel
theorem dX9_reachable_17 : decode cX9_reachable 17 = .ok (.aload_n 0, 1) := by decide +kernel
theorem dX9_reachable_18 : decode cX9_reachable 18 = .ok (.getfield 12, 3) := by decide +kernel
theorem dX9_reachable_21 : decode cX9_reachable 21 = .ok (.getfield 119, 3) := by decide +kernel
theorem dX9_reachable_24 : decode cX9_reachable 24 = .ok (.invokevirtual 275, 3) := by decide +kernel
theorem dX9_reachable_27 : decode cX9_reachable 27 = .ok (.aload_n 0, 1) := by decide +kernel
theorem dX9_reachable_28 : decode cX9_reachable 28 = .ok (.getfield 51, 3) := by decide +kernel
theorem dX9_reachable_31 : decode cX9_reachable 31 = .ok (.getfield 271, 3) := by decide +kernel
theorem dX9_reachable_34 : decode cX9_reachable 34 = .ok (.iload_n 1, 1) := by decide +kernel
theorem dX9_reachable_35 : decode cX9_reachable 35 = .ok (.iload_n 2, 1) := by decide +kernel
theorem dX9_reachable_36 : decode cX9_reachable 36 = .ok (.invokevirtual 280, 3) := by decide +kernel
theorem dX9_reachable_39 : decode cX9_reachable 39 = .ok (.ireturn, 1) := by decide +kernel
abbrev mtX9_reachable : mj_T := (yX9_reachable.cls, cX9_reachable, 3, (some .boolean), mj_no, yX9_reachable.name)
abbrev kX9_reachable (k0 : Nat) (x1 : Int32) (x2 : Int32) (g : mj_S) (M : mj_M) (q : Int32 → mj_M → Prop) (qx : String → mj_M → Prop) : Prop := mj_CIX yX9_reachable (.code yX9_reachable cX9_reachable 3 (some .boolean)) 8 2 12 [.ref (k0), .int (x1), .int (x2)] g M q qx
theorem kiX9_reachable : mj_cV yX9_reachable cX9_reachable 3 (some .boolean) 2 := ⟨⟨wd_1193, wd_1194, wd_1, wd_1195⟩, ⟨by decide +kernel, by decide +kernel, by decide +kernel⟩, Nat.le_of_ble_eq_true rfl⟩
theorem eX9_reachable {k0 : Nat} {x1 : Int32} {x2 : Int32} {g : mj_S} {M : mj_M} {q : Int32 → mj_M → Prop} {qx : String → mj_M → Prop} (h0 : is9 g k0) (h : ∃ (q1 : mj_M → Prop) (qx1 : String → mj_M → Prop), kX9_requireLiteral (k0) (x1) g (M) q1 qx1 ∧ (∀ (X : String) (M' : mj_M), qx1 X M' → qx X M') ∧ ∀ (M1 : mj_M), q1 M1 → (∃ (q2 : mj_M → Prop) (qx2 : String → mj_M → Prop), kX9_requireLiteral (k0) (x2) g (M1) q2 qx2 ∧ (∀ (X : String) (M' : mj_M), qx2 X M' → qx X M') ∧ ∀ (M2 : mj_M), q2 M2 → (∃ (q3 : mj_M → Prop), kX4_find (k0 + 88 + 8) (k0 + 1 + 1) g (M2) q3 ∧ ∀ (M3 : mj_M), q3 M3 → (∃ (q4 : Int32 → mj_M → Prop), kX4_leads (k0 + 88 + 8) (x1) (x2) g (M3) q4 ∧ ∀ (v4 : Int32) (M4 : mj_M), q4 v4 M4 → (((v4 : Int32) = 0 ∨ (v4 : Int32) = 1) ∧ q (v4) (M4)))))) : kX9_reachable (k0) (x1) (x2) g M q qx := by
  intro d hd; refine mj_enter (by decide +kernel) (Nat.le_of_ble_eq_true rfl) ?_
  show mj_G mtX9_reachable (mj_rm d 2 12) (mj_Fi (mj_qI g q) (mj_qX g qx) 2 12) false 2 12 0 [(0, .ref (k0)), (1, .int (x1)), (2, .int (x2))] [] g M
  refine mg_aload_n dX9_reachable_0 rfl 0 rfl ?_
  refine mg_iload_n dX9_reachable_1 rfl 1 rfl ?_
  obtain ⟨q1, qx1, hC, hkx, hk⟩ := h
  refine mx_Vv [.int (x1)] [] dX9_reachable_2 wd_875 kiX9_requireLiteral (Nat.le_of_ble_eq_true rfl) h0.1.1 h0.1.2 rfl (Nat.le_trans (Nat.le_of_ble_eq_true rfl) hd) ⟨Nat.le_of_ble_eq_true rfl, Nat.le_of_ble_eq_true rfl⟩ rfl rfl hC hkx (fun M1 hq => ?_)
  replace h := hk M1 hq
  refine mg_aload_n dX9_reachable_5 rfl 0 rfl ?_
  refine mg_iload_n dX9_reachable_6 rfl 2 rfl ?_
  obtain ⟨q2, qx2, hC, hkx, hk⟩ := h
  refine mx_Vv [.int (x2)] [] dX9_reachable_7 wd_875 kiX9_requireLiteral (Nat.le_of_ble_eq_true rfl) h0.1.1 h0.1.2 rfl (Nat.le_trans (Nat.le_of_ble_eq_true rfl) hd) ⟨Nat.le_of_ble_eq_true rfl, Nat.le_of_ble_eq_true rfl⟩ rfl rfl hC hkx (fun M2 hq => ?_)
  replace h := hk M2 hq
  refine mg_aload_n dX9_reachable_10 rfl 0 rfl ?_
  refine mg_getR (j := 7) dX9_reachable_11 kc_9 (Nat.le_of_ble_eq_true rfl) wd_238 rfl rfl h0.1.1 h0.1.2 h0.2.2.2.2.2.2.2.1 ?_
  refine mg_getR (j := 2) dX9_reachable_14 kc_7 (Nat.le_of_ble_eq_true rfl) wd_223 rfl rfl h0.2.2.2.2.2.2.2.2.1.1 h0.2.2.2.2.2.2.2.2.1.2 h0.2.2.2.2.2.2.2.2.2.2.2.1 ?_
  refine mg_aload_n dX9_reachable_17 rfl 0 rfl ?_
  refine mg_getR (j := 0) dX9_reachable_18 kc_9 (Nat.le_of_ble_eq_true rfl) wd_231 rfl rfl h0.1.1 h0.1.2 h0.2.1.1 ?_
  refine mg_getR (j := 3) dX9_reachable_21 kc_6 (Nat.le_of_ble_eq_true rfl) wd_75 rfl rfl h0.2.1.2.1.1 h0.2.1.2.1.2 h0.2.1.2.2.1.1 ?_
  obtain ⟨q3, hC, hk⟩ := h
  refine mc_Vv [.ref (k0 + 1 + 1)] [] dX9_reachable_24 wd_1196 kiX4_find (Nat.le_of_ble_eq_true rfl) h0.2.2.2.2.2.2.2.2.2.2.2.2.1.1 h0.2.2.2.2.2.2.2.2.2.2.2.2.1.2 rfl (Nat.le_trans (Nat.le_of_ble_eq_true rfl) hd) hC (fun M3 hq => ?_)
  replace h := hk M3 hq
  refine mg_aload_n dX9_reachable_27 rfl 0 rfl ?_
  refine mg_getR (j := 7) dX9_reachable_28 kc_9 (Nat.le_of_ble_eq_true rfl) wd_238 rfl rfl h0.1.1 h0.1.2 h0.2.2.2.2.2.2.2.1 ?_
  refine mg_getR (j := 2) dX9_reachable_31 kc_7 (Nat.le_of_ble_eq_true rfl) wd_223 rfl rfl h0.2.2.2.2.2.2.2.2.1.1 h0.2.2.2.2.2.2.2.2.1.2 h0.2.2.2.2.2.2.2.2.2.2.2.1 ?_
  refine mg_iload_n dX9_reachable_34 rfl 1 rfl ?_
  refine mg_iload_n dX9_reachable_35 rfl 2 rfl ?_
  obtain ⟨q4, hC, hk⟩ := h
  refine mc_Vi [.int (x1), .int (x2)] [] dX9_reachable_36 wd_1197 kiX4_leads (Nat.le_of_ble_eq_true rfl) h0.2.2.2.2.2.2.2.2.2.2.2.2.1.1 h0.2.2.2.2.2.2.2.2.2.2.2.2.1.2 rfl (Nat.le_trans (Nat.le_of_ble_eq_true rfl) hd) hC (fun v4 M4 hq => ?_)
  replace h := hk v4 M4 hq
  exact mex_z dX9_reachable_39 rfl h.1 h.2
theorem dX9_representative_0 : decode cX9_representative 0 = .ok (.aload_n 0, 1) := by decide +kernel
theorem dX9_representative_1 : decode cX9_representative 1 = .ok (.iload_n 1, 1) := by decide +kernel
theorem dX9_representative_2 : decode cX9_representative 2 = .ok (.invokevirtual 141, 3) := by decide +kernel
theorem dX9_representative_5 : decode cX9_representative 5 = .ok (.aload_n 0, 1) := by decide +kernel
theorem dX9_representative_6 : decode cX9_representative 6 = .ok (.getfield 51, 3) := by decide +kernel
theorem dX9_representative_9 : decode cX9_representative 9 = .ok (.getfield 271, 3) := by decide +kernel
theorem dX9_representative_12 : decode cX9_representative 12 = .ok (.aload_n 0, 1) := by decide +kernel
theorem dX9_representative_13 : decode cX9_representative 13 = .ok (.getfield 12, 3) := by decide +kernel
theorem dX9_representative_16 : decode cX9_representative 16 = .ok (.getfield 119, 3) := by decide +kernel
theorem dX9_representative_19 : decode cX9_representative 19 = .ok (.invokevirtual 275, 3) := by decide +kernel
theorem dX9_representative_22 : decode cX9_representative 22 = .ok (.aload_n 0, 1) := by decide +kernel
theorem dX9_representative_23 : decode cX9_representative 23 = .ok (.getfield 51, 3) := by decide +kernel
theorem dX9_representative_26 : decode cX9_representative 26 = .ok (.getfield 271, 3) := by decide +kernel
theorem dX9_representative_29 : decode cX9_representative 29 = .ok (.iload_n 1, 1) := by decide +kernel
theorem dX9_representative_30 : decode cX9_representative 30 = .ok (.invokevirtual 284, 3) := by decide +kernel
theorem dX9_representative_33 : decode cX9_representative 33 = .ok (.ireturn, 1) := by decide +kernel
abbrev mtX9_representative : mj_T := (yX9_representative.cls, cX9_representative, 2, (some .int), mj_no, yX9_representative.name)
abbrev kX9_representative (k0 : Nat) (x1 : Int32) (g : mj_S) (M : mj_M) (q : Int32 → mj_M → Prop) (qx : String → mj_M → Prop) : Prop := mj_CIX yX9_representative (.code yX9_representative cX9_representative 2 (some .int)) 8 1 6 [.ref (k0), .int (x1)] g M q qx
theorem kiX9_representative : mj_cV yX9_representative cX9_representative 2 (some .int) 1 := ⟨⟨wd_1202, wd_1203, wd_1, wd_1204⟩, ⟨by decide +kernel, by decide +kernel, by decide +kernel⟩, Nat.le_of_ble_eq_true rfl⟩
theorem eX9_representative {k0 : Nat} {x1 : Int32} {g : mj_S} {M : mj_M} {q : Int32 → mj_M → Prop} {qx : String → mj_M → Prop} (h0 : is9 g k0) (h : ∃ (q1 : mj_M → Prop) (qx1 : String → mj_M → Prop), kX9_requireLiteral (k0) (x1) g (M) q1 qx1 ∧ (∀ (X : String) (M' : mj_M), qx1 X M' → qx X M') ∧ ∀ (M1 : mj_M), q1 M1 → (∃ (q2 : mj_M → Prop), kX4_find (k0 + 88 + 8) (k0 + 1 + 1) g (M1) q2 ∧ ∀ (M2 : mj_M), q2 M2 → (∃ (q3 : Int32 → mj_M → Prop), kX4_lowestEquivalent (k0 + 88 + 8) (x1) g (M2) q3 ∧ ∀ (v3 : Int32) (M3 : mj_M), q3 v3 M3 → (q (v3) (M3))))) : kX9_representative (k0) (x1) g M q qx := by
  intro d hd; refine mj_enter (by decide +kernel) (Nat.le_of_ble_eq_true rfl) ?_
  show mj_G mtX9_representative (mj_rm d 1 6) (mj_Fi (mj_qI g q) (mj_qX g qx) 1 6) false 1 6 0 [(0, .ref (k0)), (1, .int (x1))] [] g M
  refine mg_aload_n dX9_representative_0 rfl 0 rfl ?_
  refine mg_iload_n dX9_representative_1 rfl 1 rfl ?_
  obtain ⟨q1, qx1, hC, hkx, hk⟩ := h
  refine mx_Vv [.int (x1)] [] dX9_representative_2 wd_875 kiX9_requireLiteral (Nat.le_of_ble_eq_true rfl) h0.1.1 h0.1.2 rfl (Nat.le_trans (Nat.le_of_ble_eq_true rfl) hd) ⟨Nat.le_of_ble_eq_true rfl, Nat.le_of_ble_eq_true rfl⟩ rfl rfl hC hkx (fun M1 hq => ?_)
  replace h := hk M1 hq
  refine mg_aload_n dX9_representative_5 rfl 0 rfl ?_
  refine mg_getR (j := 7) dX9_representative_6 kc_9 (Nat.le_of_ble_eq_true rfl) wd_238 rfl rfl h0.1.1 h0.1.2 h0.2.2.2.2.2.2.2.1 ?_
  refine mg_getR (j := 2) dX9_representative_9 kc_7 (Nat.le_of_ble_eq_true rfl) wd_223 rfl rfl h0.2.2.2.2.2.2.2.2.1.1 h0.2.2.2.2.2.2.2.2.1.2 h0.2.2.2.2.2.2.2.2.2.2.2.1 ?_
  refine mg_aload_n dX9_representative_12 rfl 0 rfl ?_
  refine mg_getR (j := 0) dX9_representative_13 kc_9 (Nat.le_of_ble_eq_true rfl) wd_231 rfl rfl h0.1.1 h0.1.2 h0.2.1.1 ?_
  refine mg_getR (j := 3) dX9_representative_16 kc_6 (Nat.le_of_ble_eq_true rfl) wd_75 rfl rfl h0.2.1.2.1.1 h0.2.1.2.1.2 h0.2.1.2.2.1.1 ?_
  obtain ⟨q2, hC, hk⟩ := h
  refine mc_Vv [.ref (k0 + 1 + 1)] [] dX9_representative_19 wd_1196 kiX4_find (Nat.le_of_ble_eq_true rfl) h0.2.2.2.2.2.2.2.2.2.2.2.2.1.1 h0.2.2.2.2.2.2.2.2.2.2.2.2.1.2 rfl (Nat.le_trans (Nat.le_of_ble_eq_true rfl) hd) hC (fun M2 hq => ?_)
  replace h := hk M2 hq
  refine mg_aload_n dX9_representative_22 rfl 0 rfl ?_
  refine mg_getR (j := 7) dX9_representative_23 kc_9 (Nat.le_of_ble_eq_true rfl) wd_238 rfl rfl h0.1.1 h0.1.2 h0.2.2.2.2.2.2.2.1 ?_
  refine mg_getR (j := 2) dX9_representative_26 kc_7 (Nat.le_of_ble_eq_true rfl) wd_223 rfl rfl h0.2.2.2.2.2.2.2.2.1.1 h0.2.2.2.2.2.2.2.2.1.2 h0.2.2.2.2.2.2.2.2.2.2.2.1 ?_
  refine mg_iload_n dX9_representative_29 rfl 1 rfl ?_
  obtain ⟨q3, hC, hk⟩ := h
  refine mc_Vi [.int (x1)] [] dX9_representative_30 wd_1205 kiX4_lowestEquivalent (Nat.le_of_ble_eq_true rfl) h0.2.2.2.2.2.2.2.2.2.2.2.2.1.1 h0.2.2.2.2.2.2.2.2.2.2.2.2.1.2 rfl (Nat.le_trans (Nat.le_of_ble_eq_true rfl) hd) hC (fun v3 M3 hq => ?_)
  replace h := hk v3 M3 hq
  exact mex_i dX9_representative_33 rfl h
theorem dX9_rowCount_0 : decode cX9_rowCount 0 = .ok (.aload_n 0, 1) := by decide +kernel
theorem dX9_rowCount_1 : decode cX9_rowCount 1 = .ok (.getfield 12, 3) := by decide +kernel
theorem dX9_rowCount_4 : decode cX9_rowCount 4 = .ok (.getfield 287, 3) := by decide +kernel
theorem dX9_rowCount_7 : decode cX9_rowCount 7 = .ok (.ireturn, 1) := by decide +kernel
abbrev mtX9_rowCount : mj_T := (yX9_rowCount.cls, cX9_rowCount, 1, (some .int), mj_no, yX9_rowCount.name)
abbrev kX9_rowCount (k0 : Nat) (g : mj_S) (M : mj_M) (q : Int32 → mj_M → Prop) : Prop := mj_CI yX9_rowCount (.code yX9_rowCount cX9_rowCount 1 (some .int)) 0 [.ref (k0)] g M q
theorem kiX9_rowCount : mj_cV yX9_rowCount cX9_rowCount 1 (some .int) 0 := ⟨⟨wd_307, wd_308, wd_1, wd_309⟩, ⟨by decide +kernel, by decide +kernel, by decide +kernel⟩, Nat.le_of_ble_eq_true rfl⟩
theorem eX9_rowCount {k0 : Nat} {g : mj_S} {M : mj_M} {q : Int32 → mj_M → Prop} (h0 : is9 g k0) (h : q ((M).1 (k0 + 1) 2) (M)) : kX9_rowCount (k0) g M q := by
  intro d hd; refine mj_enter (by decide +kernel) (Nat.le_of_ble_eq_true rfl) ?_
  generalize (false : Bool) = ex
  show mj_G mtX9_rowCount (mj_rm d 0 0) (mj_Fi (mj_qI g q) mj_x0 0 0) ex 0 0 0 [(0, .ref (k0))] [] g M
  refine mg_aload_n dX9_rowCount_0 rfl 0 rfl ?_
  refine mg_getR (j := 0) dX9_rowCount_1 kc_9 (Nat.le_of_ble_eq_true rfl) wd_231 rfl rfl h0.1.1 h0.1.2 h0.2.1.1 ?_
  refine mg_getI (j := 2) dX9_rowCount_4 kc_6 (Nat.le_of_ble_eq_true rfl) wd_72 rfl rfl h0.2.1.2.1.1 h0.2.1.2.1.2 rfl ?_
  exact me_i dX9_rowCount_7 rfl h
theorem dX9_row_0 : decode cX9_row 0 = .ok (.iload_n 1, 1) := by decide +kernel
theorem dX9_row_1 : decode cX9_row 1 = .ok (.ifCond .lt 14, 3) := by decide +kernel
theorem dX9_row_4 : decode cX9_row 4 = .ok (.iload_n 1, 1) := by decide +kernel
theorem dX9_row_5 : decode cX9_row 5 = .ok (.aload_n 0, 1) := by decide +kernel
theorem dX9_row_6 : decode cX9_row 6 = .ok (.getfield 12, 3) := by decide +kernel
theorem dX9_row_9 : decode cX9_row 9 = .ok (.getfield 287, 3) := by decide +kernel
theorem dX9_row_12 : decode cX9_row 12 = .ok (.if_icmp .lt 14, 3) := by decide +kernel
theorem dX9_row_15 : decode cX9_row 15 = .ok (.new 107, 3) := by decide +kernel
theorem dX9_row_18 : decode cX9_row 18 = .ok (.dup, 1) := by decide +kernel
theorem dX9_row_19 : decode cX9_row 19 = .ok (.ldc_w 290, 3) := by decide +kernel
theorem dX9_row_22 : decode cX9_row 22 = .ok (.invokespecial 111, 3) := by decide +kernel
theorem dX9_row_25 : decode cX9_row 25 = .ok (.athrow, 1) := by decide +kernel
theorem dX9_row_26 : decode cX9_row 26 = .ok (.iload_n 2, 1) := by decide +kernel
theorem dX9_row_27 : decode cX9_row 27 = .ok (.ifCond .lt 8, 3) := by decide +kernel
theorem dX9_row_30 : decode cX9_row 30 = .ok (.iload_n 2, 1) := by decide +kernel
theorem dX9_row_31 : decode cX9_row 31 = .ok (.iconst 2, 1) := by decide +kernel
theorem dX9_row_32 : decode cX9_row 32 = .ok (.if_icmp .le 14, 3) := by decide +kernel
theorem dX9_row_35 : decode cX9_row 35 = .ok (.new 55, 3) := by decide +kernel
theorem dX9_row_38 : decode cX9_row 38 = .ok (.dup, 1) := by decide +kernel
theorem dX9_row_39 : decode cX9_row 39 = .ok (.ldc_w 292, 3) := by decide +kernel
theorem dX9_row_42 : decode cX9_row 42 = .ok (.invokespecial 59, 3) := by decide +kernel
theorem dX9_row_45 : decode cX9_row 45 = .ok (.athrow, 1) := by decide +kernel
theorem dX9_row_46 : decode cX9_row 46 = .ok (.iload_n 2, 1) := by decide +kernel
theorem dX9_row_47 : decode cX9_row 47 = .ok (.iconst 2, 1) := by decide +kernel
theorem dX9_row_48 : decode cX9_row 48 = .ok (.if_icmp .ne 14, 3) := by decide +kernel
theorem dX9_row_51 : decode cX9_row 51 = .ok (.aload_n 0, 1) := by decide +kernel
theorem dX9_row_52 : decode cX9_row 52 = .ok (.getfield 12, 3) := by decide +kernel
theorem dX9_row_55 : decode cX9_row 55 = .ok (.iload_n 1, 1) := by decide +kernel
theorem dX9_row_56 : decode cX9_row 56 = .ok (.invokevirtual 294, 3) := by decide +kernel
theorem dX9_row_59 : decode cX9_row 59 = .ok (.goto 23, 3) := by decide +kernel
theorem dX9_row_62 : decode cX9_row 62 = .ok (.aload_n 0, 1) := by decide +kernel
theorem dX9_row_63 : decode cX9_row 63 = .ok (.getfield 12, 3) := by decide +kernel
theorem dX9_row_66 : decode cX9_row 66 = .ok (.iload_n 1, 1) := by decide +kernel
theorem dX9_row_67 : decode cX9_row 67 = .ok (.invokevirtual 297, 3) := by decide +kernel
theorem dX9_row_70 : decode cX9_row 70 = .ok (.iload_n 2, 1) := by decide +kernel
theorem dX9_row_71 : decode cX9_row 71 = .ok (.ifCond .ne 7, 3) := by decide +kernel
theorem dX9_row_74 : decode cX9_row 74 = .ok (.iconst 1, 1) := by decide +kernel
theorem dX9_row_75 : decode cX9_row 75 = .ok (.goto 4, 3) := by decide +kernel
theorem dX9_row_78 : decode cX9_row 78 = .ok (.iconst 0, 1) := by decide +kernel
theorem dX9_row_79 : decode cX9_row 79 = .ok (.invokestatic 115, 3) := by decide +kernel
theorem dX9_row_82 : decode cX9_row 82 = .ok (.ireturn, 1) := by decide +kernel
abbrev mtX9_row : mj_T := (yX9_row.cls, cX9_row, 3, (some .int), mj_no, yX9_row.name)
abbrev kX9_row (k0 : Nat) (x1 : Int32) (x2 : Int32) (g : mj_S) (M : mj_M) (q : Int32 → mj_M → Prop) (qx : String → mj_M → Prop) : Prop := mj_CIX yX9_row (.code yX9_row cX9_row 3 (some .int)) 7 1 6 [.ref (k0), .int (x1), .int (x2)] g M q qx
theorem kiX9_row : mj_cV yX9_row cX9_row 3 (some .int) 2 := ⟨⟨wd_1210, wd_1211, wd_1, wd_1212⟩, ⟨by decide +kernel, by decide +kernel, by decide +kernel⟩, Nat.le_of_ble_eq_true rfl⟩
theorem eX9_row {k0 : Nat} {x1 : Int32} {x2 : Int32} {g : mj_S} {M : mj_M} {q : Int32 → mj_M → Prop} {qx : String → mj_M → Prop} (h0 : is9 g k0) (h : ((x1 : Int32) < 0 → qx mj_IO (M)) ∧ (¬ (x1 : Int32) < 0 → ((x1 : Int32) < ((M).1 (k0 + 1) 2) → ((x2 : Int32) < 0 → qx mj_IA (M)) ∧ (¬ (x2 : Int32) < 0 → ((x2 : Int32) ≤ (2 : Int32) → (¬ (x2 : Int32) = (2 : Int32) → ∃ (q1 : Int32 → mj_M → Prop), kX6_setOfRow (k0 + 1) (x1) g (M) q1 ∧ ∀ (v1 : Int32) (M1 : mj_M), q1 v1 M1 → ((¬ (x2 : Int32) = 0 → ∃ (q2 : Int32 → mj_M → Prop), kX9_half (v1) (0) g (M1) q2 ∧ ∀ (v2 : Int32) (M2 : mj_M), q2 v2 M2 → (q (v2) (M2))) ∧ ((x2 : Int32) = 0 → ∃ (q3 : Int32 → mj_M → Prop), kX9_half (v1) (1) g (M1) q3 ∧ ∀ (v3 : Int32) (M3 : mj_M), q3 v3 M3 → (q (v3) (M3))))) ∧ ((x2 : Int32) = (2 : Int32) → ∃ (q4 : Int32 → mj_M → Prop), kX6_witnessOfRow (k0 + 1) (x1) g (M) q4 ∧ ∀ (v4 : Int32) (M4 : mj_M), q4 v4 M4 → (q (v4) (M4)))) ∧ (¬ (x2 : Int32) ≤ (2 : Int32) → qx mj_IA (M)))) ∧ (¬ (x1 : Int32) < ((M).1 (k0 + 1) 2) → qx mj_IO (M)))) : kX9_row (k0) (x1) (x2) g M q qx := by
  intro d hd; refine mj_enter (by decide +kernel) (Nat.le_of_ble_eq_true rfl) ?_
  show mj_G mtX9_row (mj_rm d 1 6) (mj_Fi (mj_qI g q) (mj_qX g qx) 1 6) false 1 6 0 [(0, .ref (k0)), (1, .int (x1)), (2, .int (x2))] [] g M
  refine mg_iload_n dX9_row_0 rfl 1 rfl ?_
  refine mg_if_lt (tgt := 15) dX9_row_1 (by decide) (fun hc => ?_) (fun hc => ?_)
  · replace h := h.1 hc
    exact mg_throwW (ti := 20) rfl rfl xw_IO rfl dX9_row_15 dX9_row_18 dX9_row_19 dX9_row_22 dX9_row_25 (Nat.le_trans (Nat.le_of_ble_eq_true rfl) hd) (Nat.le_of_ble_eq_true rfl) (Nat.le_of_ble_eq_true rfl) ⟨rfl, h⟩
  · replace h := h.2 hc
    refine mg_iload_n dX9_row_4 rfl 1 rfl ?_
    refine mg_aload_n dX9_row_5 rfl 0 rfl ?_
    refine mg_getR (j := 0) dX9_row_6 kc_9 (Nat.le_of_ble_eq_true rfl) wd_231 rfl rfl h0.1.1 h0.1.2 h0.2.1.1 ?_
    refine mg_getI (j := 2) dX9_row_9 kc_6 (Nat.le_of_ble_eq_true rfl) wd_72 rfl rfl h0.2.1.2.1.1 h0.2.1.2.1.2 rfl ?_
    refine mg_icmp_lt (tgt := 26) dX9_row_12 (by decide) (fun hc => ?_) (fun hc => ?_)
    · replace h := h.1 hc
      refine mg_iload_n dX9_row_26 rfl 2 rfl ?_
      refine mg_if_lt (tgt := 35) dX9_row_27 (by decide) (fun hc => ?_) (fun hc => ?_)
      · replace h := h.1 hc
        exact mg_throwW (ti := 21) rfl rfl xw_IA rfl dX9_row_35 dX9_row_38 dX9_row_39 dX9_row_42 dX9_row_45 (Nat.le_trans (Nat.le_of_ble_eq_true rfl) hd) (Nat.le_of_ble_eq_true rfl) (Nat.le_of_ble_eq_true rfl) ⟨rfl, h⟩
      · replace h := h.2 hc
        refine mg_iload_n dX9_row_30 rfl 2 rfl ?_
        refine mg_iconst (v := 2) dX9_row_31 (by decide) ?_
        refine mg_icmp_le (tgt := 46) dX9_row_32 (by decide) (fun hc => ?_) (fun hc => ?_)
        · replace h := h.1 hc
          refine mg_iload_n dX9_row_46 rfl 2 rfl ?_
          refine mg_iconst (v := 2) dX9_row_47 (by decide) ?_
          refine mg_icmp_ne (tgt := 62) dX9_row_48 (by decide) (fun hc => ?_) (fun hc => ?_)
          · replace h := h.1 hc
            refine mg_aload_n dX9_row_62 rfl 0 rfl ?_
            refine mg_getR (j := 0) dX9_row_63 kc_9 (Nat.le_of_ble_eq_true rfl) wd_231 rfl rfl h0.1.1 h0.1.2 h0.2.1.1 ?_
            refine mg_iload_n dX9_row_66 rfl 1 rfl ?_
            obtain ⟨q1, hC, hk⟩ := h
            refine mc_Vi [.int (x1)] [] dX9_row_67 wd_663 kiX6_setOfRow (Nat.le_of_ble_eq_true rfl) h0.2.1.2.1.1 h0.2.1.2.1.2 rfl (Nat.le_trans (Nat.le_of_ble_eq_true rfl) hd) hC (fun v1 M1 hq => ?_)
            replace h := hk v1 M1 hq
            refine mg_iload_n dX9_row_70 rfl 2 rfl ?_
            refine mg_if_ne (tgt := 78) dX9_row_71 (by decide) (fun hc => ?_) (fun hc => ?_)
            · replace h := h.1 hc
              refine mg_iconst (v := 0) dX9_row_78 (by decide) ?_
              obtain ⟨q2, hC, hk⟩ := h
              refine mc_Si [.int (v1), .int (0)] [] dX9_row_79 wd_652 kiX9_half (Nat.le_of_ble_eq_true rfl) (Nat.le_trans (Nat.le_of_ble_eq_true rfl) hd) hC (fun v2 M2 hq => ?_)
              replace h := hk v2 M2 hq
              exact mex_i dX9_row_82 rfl h
            · replace h := h.2 hc
              refine mg_iconst (v := 1) dX9_row_74 (by decide) ?_
              refine mg_goto (tgt := 79) dX9_row_75 (by decide) ?_
              obtain ⟨q3, hC, hk⟩ := h
              refine mc_Si [.int (v1), .int (1)] [] dX9_row_79 wd_652 kiX9_half (Nat.le_of_ble_eq_true rfl) (Nat.le_trans (Nat.le_of_ble_eq_true rfl) hd) hC (fun v3 M3 hq => ?_)
              replace h := hk v3 M3 hq
              exact mex_i dX9_row_82 rfl h
          · replace h := h.2 hc
            refine mg_aload_n dX9_row_51 rfl 0 rfl ?_
            refine mg_getR (j := 0) dX9_row_52 kc_9 (Nat.le_of_ble_eq_true rfl) wd_231 rfl rfl h0.1.1 h0.1.2 h0.2.1.1 ?_
            refine mg_iload_n dX9_row_55 rfl 1 rfl ?_
            obtain ⟨q4, hC, hk⟩ := h
            refine mc_Vi [.int (x1)] [] dX9_row_56 wd_664 kiX6_witnessOfRow (Nat.le_of_ble_eq_true rfl) h0.2.1.2.1.1 h0.2.1.2.1.2 rfl (Nat.le_trans (Nat.le_of_ble_eq_true rfl) hd) hC (fun v4 M4 hq => ?_)
            replace h := hk v4 M4 hq
            refine mg_goto (tgt := 82) dX9_row_59 (by decide) ?_
            exact mex_i dX9_row_82 rfl h
        · replace h := h.2 hc
          exact mg_throwW (ti := 21) rfl rfl xw_IA rfl dX9_row_35 dX9_row_38 dX9_row_39 dX9_row_42 dX9_row_45 (Nat.le_trans (Nat.le_of_ble_eq_true rfl) hd) (Nat.le_of_ble_eq_true rfl) (Nat.le_of_ble_eq_true rfl) ⟨rfl, h⟩
    · replace h := h.2 hc
      exact mg_throwW (ti := 20) rfl rfl xw_IO rfl dX9_row_15 dX9_row_18 dX9_row_19 dX9_row_22 dX9_row_25 (Nat.le_trans (Nat.le_of_ble_eq_true rfl) hd) (Nat.le_of_ble_eq_true rfl) (Nat.le_of_ble_eq_true rfl) ⟨rfl, h⟩
theorem dX9_requireAssignment_0 : decode cX9_requireAssignment 0 = .ok (.iload_n 1, 1) := by decide +kernel
theorem dX9_requireAssignment_1 : decode cX9_requireAssignment 1 = .ok (.ifCond .lt 14, 3) := by decide +kernel
theorem dX9_requireAssignment_4 : decode cX9_requireAssignment 4 = .ok (.iload_n 1, 1) := by decide +kernel
theorem dX9_requireAssignment_5 : decode cX9_requireAssignment 5 = .ok (.aload_n 0, 1) := by decide +kernel
theorem dX9_requireAssignment_6 : decode cX9_requireAssignment 6 = .ok (.getfield 12, 3) := by decide +kernel
theorem dX9_requireAssignment_9 : decode cX9_requireAssignment 9 = .ok (.invokevirtual 72, 3) := by decide +kernel
theorem dX9_requireAssignment_12 : decode cX9_requireAssignment 12 = .ok (.if_icmp .le 14, 3) := by decide +kernel
theorem dX9_requireAssignment_15 : decode cX9_requireAssignment 15 = .ok (.new 55, 3) := by decide +kernel
theorem dX9_requireAssignment_18 : decode cX9_requireAssignment 18 = .ok (.dup, 1) := by decide +kernel
theorem dX9_requireAssignment_19 : decode cX9_requireAssignment 19 = .ok (.ldc_w 355, 3) := by decide +kernel
theorem dX9_requireAssignment_22 : decode cX9_requireAssignment 22 = .ok (.invokespecial 59, 3) := by decide +kernel
theorem dX9_requireAssignment_25 : decode cX9_requireAssignment 25 = .ok (.athrow, 1) := by decide +kernel
theorem dX9_requireAssignment_26 : decode cX9_requireAssignment 26 = .ok (.return_, 1) := by decide +kernel
abbrev mtX9_requireAssignment : mj_T := (yX9_requireAssignment.cls, cX9_requireAssignment, 2, none, mj_no, yX9_requireAssignment.name)
abbrev kX9_requireAssignment (k0 : Nat) (x1 : Int32) (g : mj_S) (M : mj_M) (q : mj_M → Prop) (qx : String → mj_M → Prop) : Prop := mj_CVX yX9_requireAssignment (.code yX9_requireAssignment cX9_requireAssignment 2 none) 7 1 6 [.ref (k0), .int (x1)] g M q qx
theorem kiX9_requireAssignment : mj_cV yX9_requireAssignment cX9_requireAssignment 2 none 1 := ⟨⟨wd_1224, wp_39, wd_1, wd_1225⟩, ⟨by decide +kernel, by decide +kernel, by decide +kernel⟩, Nat.le_of_ble_eq_true rfl⟩
theorem eX9_requireAssignment {k0 : Nat} {x1 : Int32} {g : mj_S} {M : mj_M} {q : mj_M → Prop} {qx : String → mj_M → Prop} (h0 : is9 g k0) (h : ((x1 : Int32) < 0 → qx mj_IA (M)) ∧ (¬ (x1 : Int32) < 0 → ∃ (q1 : Int32 → mj_M → Prop), kX6_allVariables (k0 + 1) g (M) q1 ∧ ∀ (v1 : Int32) (M1 : mj_M), q1 v1 M1 → (((x1 : Int32) ≤ (v1) → q (M1)) ∧ (¬ (x1 : Int32) ≤ (v1) → qx mj_IA (M1))))) : kX9_requireAssignment (k0) (x1) g M q qx := by
  intro d hd; refine mj_enter (by decide +kernel) (Nat.le_of_ble_eq_true rfl) ?_
  show mj_G mtX9_requireAssignment (mj_rm d 1 6) (mj_Fi (mj_qV g q) (mj_qX g qx) 1 6) false 1 6 0 [(0, .ref (k0)), (1, .int (x1))] [] g M
  refine mg_iload_n dX9_requireAssignment_0 rfl 1 rfl ?_
  refine mg_if_lt (tgt := 15) dX9_requireAssignment_1 (by decide) (fun hc => ?_) (fun hc => ?_)
  · replace h := h.1 hc
    exact mg_throwW (ti := 22) rfl rfl xw_IA rfl dX9_requireAssignment_15 dX9_requireAssignment_18 dX9_requireAssignment_19 dX9_requireAssignment_22 dX9_requireAssignment_25 (Nat.le_trans (Nat.le_of_ble_eq_true rfl) hd) (Nat.le_of_ble_eq_true rfl) (Nat.le_of_ble_eq_true rfl) ⟨rfl, h⟩
  · replace h := h.2 hc
    refine mg_iload_n dX9_requireAssignment_4 rfl 1 rfl ?_
    refine mg_aload_n dX9_requireAssignment_5 rfl 0 rfl ?_
    refine mg_getR (j := 0) dX9_requireAssignment_6 kc_9 (Nat.le_of_ble_eq_true rfl) wd_231 rfl rfl h0.1.1 h0.1.2 h0.2.1.1 ?_
    obtain ⟨q1, hC, hk⟩ := h
    refine mc_Vi [] [.int (x1)] dX9_requireAssignment_9 wd_364 kiX6_allVariables (Nat.le_of_ble_eq_true rfl) h0.2.1.2.1.1 h0.2.1.2.1.2 rfl (Nat.le_trans (Nat.le_of_ble_eq_true rfl) hd) hC (fun v1 M1 hq => ?_)
    replace h := hk v1 M1 hq
    refine mg_icmp_le (tgt := 26) dX9_requireAssignment_12 (by decide) (fun hc => ?_) (fun hc => ?_)
    · replace h := h.1 hc
      exact mex_v dX9_requireAssignment_26 rfl h
    · replace h := h.2 hc
      exact mg_throwW (ti := 22) rfl rfl xw_IA rfl dX9_requireAssignment_15 dX9_requireAssignment_18 dX9_requireAssignment_19 dX9_requireAssignment_22 dX9_requireAssignment_25 (Nat.le_trans (Nat.le_of_ble_eq_true rfl) hd) (Nat.le_of_ble_eq_true rfl) (Nat.le_of_ble_eq_true rfl) ⟨rfl, h⟩
theorem dX9_extend_0 : decode cX9_extend 0 = .ok (.aload_n 0, 1) := by decide +kernel
theorem dX9_extend_1 : decode cX9_extend 1 = .ok (.iload_n 1, 1) := by decide +kernel
theorem dX9_extend_2 : decode cX9_extend 2 = .ok (.invokevirtual 300, 3) := by decide +kernel
theorem dX9_extend_5 : decode cX9_extend 5 = .ok (.aload_n 0, 1) := by decide +kernel
theorem dX9_extend_6 : decode cX9_extend 6 = .ok (.getfield 12, 3) := by decide +kernel
theorem dX9_extend_9 : decode cX9_extend 9 = .ok (.getfield 119, 3) := by decide +kernel
theorem dX9_extend_12 : decode cX9_extend 12 = .ok (.iload_n 1, 1) := by decide +kernel
theorem dX9_extend_13 : decode cX9_extend 13 = .ok (.invokestatic 303, 3) := by decide +kernel
theorem dX9_extend_16 : decode cX9_extend 16 = .ok (.invokevirtual 306, 3) := by decide +kernel
theorem dX9_extend_19 : decode cX9_extend 19 = .ok (.ifCond .ne 5, 3) := by decide +kernel
theorem dX9_extend_22 : decode cX9_extend 22 = .ok (.iconst (-1), 1) := by decide +kernel
theorem dX9_extend_23 : decode cX9_extend 23 = .ok (.ireturn, 1) := by decide +kernel
theorem dX9_extend_24 : decode cX9_extend 24 = .ok (.aload_n 0, 1) := by decide +kernel
theorem dX9_extend_25 : decode cX9_extend 25 = .ok (.getfield 12, 3) := by decide +kernel
theorem dX9_extend_28 : decode cX9_extend 28 = .ok (.iload_n 1, 1) := by decide +kernel
theorem dX9_extend_29 : decode cX9_extend 29 = .ok (.invokevirtual 310, 3) := by decide +kernel
theorem dX9_extend_32 : decode cX9_extend 32 = .ok (.ireturn, 1) := by decide +kernel
abbrev mtX9_extend : mj_T := (yX9_extend.cls, cX9_extend, 2, (some .int), mj_no, yX9_extend.name)
abbrev kX9_extend (k0 : Nat) (x1 : Int32) (g : mj_S) (M : mj_M) (q : Int32 → mj_M → Prop) (qx : String → mj_M → Prop) : Prop := mj_CIX yX9_extend (.code yX9_extend cX9_extend 2 (some .int)) 8 1 6 [.ref (k0), .int (x1)] g M q qx
theorem kiX9_extend : mj_cV yX9_extend cX9_extend 2 (some .int) 1 := ⟨⟨wd_1219, wd_1220, wd_1, wd_1221⟩, ⟨by decide +kernel, by decide +kernel, by decide +kernel⟩, Nat.le_of_ble_eq_true rfl⟩
theorem eX9_extend {k0 : Nat} {x1 : Int32} {g : mj_S} {M : mj_M} {q : Int32 → mj_M → Prop} {qx : String → mj_M → Prop} (h0 : is9 g k0) (h : ∃ (q1 : mj_M → Prop) (qx1 : String → mj_M → Prop), kX9_requireAssignment (k0) (x1) g (M) q1 qx1 ∧ (∀ (X : String) (M' : mj_M), qx1 X M' → qx X M') ∧ ∀ (M1 : mj_M), q1 M1 → (∃ (q2 : Int32 → mj_M → Prop), kX9_trueLiterals (x1) g (M1) q2 ∧ ∀ (v2 : Int32) (M2 : mj_M), q2 v2 M2 → (∃ (q3 : Int32 → mj_M → Prop), kX0_isSatisfied (k0 + 1 + 1) (v2) g (M2) q3 ∧ ∀ (v3 : Int32) (M3 : mj_M), q3 v3 M3 → ((¬ (v3 : Int32) = 0 → ∃ (q4 : Int32 → mj_M → Prop), kX6_reconstruct (k0 + 1) (x1) g (M3) q4 ∧ ∀ (v4 : Int32) (M4 : mj_M), q4 v4 M4 → (q (v4) (M4))) ∧ ((v3 : Int32) = 0 → q ((-1)) (M3)))))) : kX9_extend (k0) (x1) g M q qx := by
  intro d hd; refine mj_enter (by decide +kernel) (Nat.le_of_ble_eq_true rfl) ?_
  show mj_G mtX9_extend (mj_rm d 1 6) (mj_Fi (mj_qI g q) (mj_qX g qx) 1 6) false 1 6 0 [(0, .ref (k0)), (1, .int (x1))] [] g M
  refine mg_aload_n dX9_extend_0 rfl 0 rfl ?_
  refine mg_iload_n dX9_extend_1 rfl 1 rfl ?_
  obtain ⟨q1, qx1, hC, hkx, hk⟩ := h
  refine mx_Vv [.int (x1)] [] dX9_extend_2 wd_1222 kiX9_requireAssignment (Nat.le_of_ble_eq_true rfl) h0.1.1 h0.1.2 rfl (Nat.le_trans (Nat.le_of_ble_eq_true rfl) hd) ⟨Nat.le_of_ble_eq_true rfl, Nat.le_of_ble_eq_true rfl⟩ rfl rfl hC hkx (fun M1 hq => ?_)
  replace h := hk M1 hq
  refine mg_aload_n dX9_extend_5 rfl 0 rfl ?_
  refine mg_getR (j := 0) dX9_extend_6 kc_9 (Nat.le_of_ble_eq_true rfl) wd_231 rfl rfl h0.1.1 h0.1.2 h0.2.1.1 ?_
  refine mg_getR (j := 3) dX9_extend_9 kc_6 (Nat.le_of_ble_eq_true rfl) wd_75 rfl rfl h0.2.1.2.1.1 h0.2.1.2.1.2 h0.2.1.2.2.1.1 ?_
  refine mg_iload_n dX9_extend_12 rfl 1 rfl ?_
  obtain ⟨q2, hC, hk⟩ := h
  refine mc_Si [.int (x1)] [.ref (k0 + 1 + 1)] dX9_extend_13 wd_326 kiX9_trueLiterals (Nat.le_of_ble_eq_true rfl) (Nat.le_trans (Nat.le_of_ble_eq_true rfl) hd) hC (fun v2 M2 hq => ?_)
  replace h := hk v2 M2 hq
  obtain ⟨q3, hC, hk⟩ := h
  refine mc_Vi [.int (v2)] [] dX9_extend_16 wd_339 kiX0_isSatisfied (Nat.le_of_ble_eq_true rfl) h0.2.1.2.2.1.2.1.1 h0.2.1.2.2.1.2.1.2 rfl (Nat.le_trans (Nat.le_of_ble_eq_true rfl) hd) hC (fun v3 M3 hq => ?_)
  replace h := hk v3 M3 hq
  refine mg_if_ne (tgt := 24) dX9_extend_19 (by decide) (fun hc => ?_) (fun hc => ?_)
  · replace h := h.1 hc
    refine mg_aload_n dX9_extend_24 rfl 0 rfl ?_
    refine mg_getR (j := 0) dX9_extend_25 kc_9 (Nat.le_of_ble_eq_true rfl) wd_231 rfl rfl h0.1.1 h0.1.2 h0.2.1.1 ?_
    refine mg_iload_n dX9_extend_28 rfl 1 rfl ?_
    obtain ⟨q4, hC, hk⟩ := h
    refine mc_Vi [.int (x1)] [] dX9_extend_29 wd_343 kiX6_reconstruct (Nat.le_of_ble_eq_true rfl) h0.2.1.2.1.1 h0.2.1.2.1.2 rfl (Nat.le_trans (Nat.le_of_ble_eq_true rfl) hd) hC (fun v4 M4 hq => ?_)
    replace h := hk v4 M4 hq
    exact mex_i dX9_extend_32 rfl h
  · replace h := h.2 hc
    refine mg_iconst (v := (-1)) dX9_extend_22 (by decide) ?_
    exact mex_i dX9_extend_23 rfl h
theorem dX9_solve_0 : decode cX9_solve 0 = .ok (.aload_n 0, 1) := by decide +kernel
theorem dX9_solve_1 : decode cX9_solve 1 = .ok (.getfield 12, 3) := by decide +kernel
theorem dX9_solve_4 : decode cX9_solve 4 = .ok (.invokevirtual 313, 3) := by decide +kernel
theorem dX9_solve_7 : decode cX9_solve 7 = .ok (.istore_n 1, 1) := by decide +kernel
theorem dX9_solve_8 : decode cX9_solve 8 = .ok (.iconst 0, 1) := by decide +kernel
theorem dX9_solve_9 : decode cX9_solve 9 = .ok (.istore_n 2, 1) := by decide +kernel
theorem dX9_solve_10 : decode cX9_solve 10 = .ok (.iconst 0, 1) := by decide +kernel
theorem dX9_solve_11 : decode cX9_solve 11 = .ok (.istore_n 3, 1) := by decide +kernel
theorem dX9_solve_12 : decode cX9_solve 12 = .ok (.iload_n 3, 1) := by decide +kernel
theorem dX9_solve_13 : decode cX9_solve 13 = .ok (.sipush 1024, 3) := by decide +kernel
theorem dX9_solve_16 : decode cX9_solve 16 = .ok (.if_icmp .ge 47, 3) := by decide +kernel
theorem dX9_solve_19 : decode cX9_solve 19 = .ok (.aload_n 0, 1) := by decide +kernel
theorem dX9_solve_20 : decode cX9_solve 20 = .ok (.getfield 12, 3) := by decide +kernel
theorem dX9_solve_23 : decode cX9_solve 23 = .ok (.getfield 119, 3) := by decide +kernel
theorem dX9_solve_26 : decode cX9_solve 26 = .ok (.iload_n 2, 1) := by decide +kernel
theorem dX9_solve_27 : decode cX9_solve 27 = .ok (.invokestatic 303, 3) := by decide +kernel
theorem dX9_solve_30 : decode cX9_solve 30 = .ok (.invokevirtual 306, 3) := by decide +kernel
theorem dX9_solve_33 : decode cX9_solve 33 = .ok (.ifCond .eq 12, 3) := by decide +kernel
theorem dX9_solve_36 : decode cX9_solve 36 = .ok (.aload_n 0, 1) := by decide +kernel
theorem dX9_solve_37 : decode cX9_solve 37 = .ok (.getfield 12, 3) := by decide +kernel
theorem dX9_solve_40 : decode cX9_solve 40 = .ok (.iload_n 2, 1) := by decide +kernel
theorem dX9_solve_41 : decode cX9_solve 41 = .ok (.invokevirtual 310, 3) := by decide +kernel
theorem dX9_solve_44 : decode cX9_solve 44 = .ok (.ireturn, 1) := by decide +kernel
theorem dX9_solve_45 : decode cX9_solve 45 = .ok (.iload_n 2, 1) := by decide +kernel
theorem dX9_solve_46 : decode cX9_solve 46 = .ok (.iload_n 1, 1) := by decide +kernel
theorem dX9_solve_47 : decode cX9_solve 47 = .ok (.invokestatic 316, 3) := by decide +kernel
theorem dX9_solve_50 : decode cX9_solve 50 = .ok (.istore_n 2, 1) := by decide +kernel
theorem dX9_solve_51 : decode cX9_solve 51 = .ok (.iload_n 2, 1) := by decide +kernel
theorem dX9_solve_52 : decode cX9_solve 52 = .ok (.ifCond .ne 5, 3) := by decide +kernel
theorem dX9_solve_55 : decode cX9_solve 55 = .ok (.iconst (-1), 1) := by decide +kernel
theorem dX9_solve_56 : decode cX9_solve 56 = .ok (.ireturn, 1) := by decide +kernel
theorem dX9_solve_57 : decode cX9_solve 57 = .ok (.iinc 3 1, 3) := by decide +kernel
theorem dX9_solve_60 : decode cX9_solve 60 = .ok (.goto (-48), 3) := by decide +kernel
theorem dX9_solve_63 : decode cX9_solve 63 = .ok (.iconst (-1), 1) := by decide +kernel
theorem dX9_solve_64 : decode cX9_solve 64 = .ok (.ireturn, 1) := by decide +kernel
abbrev mtX9_solve : mj_T := (yX9_solve.cls, cX9_solve, 4, (some .int), mj_no, yX9_solve.name)
abbrev kX9_solve (k0 : Nat) (g : mj_S) (M : mj_M) (q : Int32 → mj_M → Prop) : Prop := mj_CI yX9_solve (.code yX9_solve cX9_solve 4 (some .int)) 4 [.ref (k0)] g M q
theorem kiX9_solve : mj_cV yX9_solve cX9_solve 4 (some .int) 0 := ⟨⟨wd_311, wd_312, wd_1, wd_313⟩, ⟨by decide +kernel, by decide +kernel, by decide +kernel⟩, Nat.le_of_ble_eq_true rfl⟩
def LX9_solve_12 (k0 : Nat) (x1 : Int32) (x2 : Int32) (x3 : Int32) (g : mj_S) (M : mj_M) (q : Int32 → mj_M → Prop) : Prop := ∀ d, 4 ≤ d → ∀ ex : Bool, mj_G mtX9_solve (mj_rm d 0 0) (mj_Fi (mj_qI g q) mj_x0 0 0) ex 0 0 12 [(0, .ref (k0)), (1, .int (x1)), (2, .int (x2)), (3, .int (x3))] [] g M
theorem eX9_solve {k0 : Nat} {g : mj_S} {M : mj_M} {q : Int32 → mj_M → Prop} (h0 : is9 g k0) (h : ∃ (q1 : Int32 → mj_M → Prop), kX6_activeVariables (k0 + 1) g (M) q1 ∧ ∀ (v1 : Int32) (M1 : mj_M), q1 v1 M1 → (LX9_solve_12 k0 (v1) (0) (0) g (M1) q)) : kX9_solve (k0) g M q := by
  intro d hd; refine mj_enter (by decide +kernel) (Nat.le_of_ble_eq_true rfl) ?_
  generalize (false : Bool) = ex
  show mj_G mtX9_solve (mj_rm d 0 0) (mj_Fi (mj_qI g q) mj_x0 0 0) ex 0 0 0 [(0, .ref (k0))] [] g M
  refine mg_aload_n dX9_solve_0 rfl 0 rfl ?_
  refine mg_getR (j := 0) dX9_solve_1 kc_9 (Nat.le_of_ble_eq_true rfl) wd_231 rfl rfl h0.1.1 h0.1.2 h0.2.1.1 ?_
  obtain ⟨q1, hC, hk⟩ := h
  refine mc_Vi [] [] dX9_solve_4 wd_314 kiX6_activeVariables (Nat.le_of_ble_eq_true rfl) h0.2.1.2.1.1 h0.2.1.2.1.2 rfl (Nat.le_trans (Nat.le_of_ble_eq_true rfl) hd) hC (fun v1 M1 hq => ?_)
  replace h := hk v1 M1 hq
  refine mg_istore_n (ls' := [(1, .int (v1)), (0, .ref (k0))]) dX9_solve_7 rfl (Nat.le_of_ble_eq_true rfl) rfl ?_
  refine mg_iconst (v := 0) dX9_solve_8 (by decide) ?_
  refine mg_istore_n (ls' := [(2, .int (0)), (1, .int (v1)), (0, .ref (k0))]) dX9_solve_9 rfl (Nat.le_of_ble_eq_true rfl) rfl ?_
  refine mg_iconst (v := 0) dX9_solve_10 (by decide) ?_
  refine mg_istore_n (ls' := [(3, .int (0)), (2, .int (0)), (1, .int (v1)), (0, .ref (k0))]) dX9_solve_11 rfl (Nat.le_of_ble_eq_true rfl) rfl ?_
  exact mg_pick [3, 2, 1, 0] rfl (h d hd ex)
theorem bX9_solve_12 {k0 : Nat} {x1 : Int32} {x2 : Int32} {x3 : Int32} {g : mj_S} {M : mj_M} {q : Int32 → mj_M → Prop} (h0 : is9 g k0) (h : ((1024 : Int32) ≤ (x3) → q ((-1)) (M)) ∧ (¬ (1024 : Int32) ≤ (x3) → ∃ (q1 : Int32 → mj_M → Prop), kX9_trueLiterals (x2) g (M) q1 ∧ ∀ (v1 : Int32) (M1 : mj_M), q1 v1 M1 → (∃ (q2 : Int32 → mj_M → Prop), kX0_isSatisfied (k0 + 1 + 1) (v1) g (M1) q2 ∧ ∀ (v2 : Int32) (M2 : mj_M), q2 v2 M2 → (((v2 : Int32) = 0 → ∃ (q3 : Int32 → mj_M → Prop), kX9_nextSubset (x2) (x1) g (M2) q3 ∧ ∀ (v3 : Int32) (M3 : mj_M), q3 v3 M3 → ((¬ (v3 : Int32) = 0 → LX9_solve_12 k0 (x1) (v3) (x3 + 1) g (M3) q) ∧ ((v3 : Int32) = 0 → q ((-1)) (M3)))) ∧ (¬ (v2 : Int32) = 0 → ∃ (q4 : Int32 → mj_M → Prop), kX6_reconstruct (k0 + 1) (x2) g (M2) q4 ∧ ∀ (v4 : Int32) (M4 : mj_M), q4 v4 M4 → (q (v4) (M4))))))) : LX9_solve_12 k0 x1 x2 x3 g M q := by
  intro d hd ex
  refine mg_iload_n dX9_solve_12 rfl 3 rfl ?_
  refine mg_sipush (v := 1024) dX9_solve_13 (by decide) ?_
  refine mg_icmp_ge (tgt := 63) dX9_solve_16 (by decide) (fun hc => ?_) (fun hc => ?_)
  · replace h := h.1 hc
    refine mg_iconst (v := (-1)) dX9_solve_63 (by decide) ?_
    exact me_i dX9_solve_64 rfl h
  · replace h := h.2 hc
    refine mg_aload_n dX9_solve_19 rfl 0 rfl ?_
    refine mg_getR (j := 0) dX9_solve_20 kc_9 (Nat.le_of_ble_eq_true rfl) wd_231 rfl rfl h0.1.1 h0.1.2 h0.2.1.1 ?_
    refine mg_getR (j := 3) dX9_solve_23 kc_6 (Nat.le_of_ble_eq_true rfl) wd_75 rfl rfl h0.2.1.2.1.1 h0.2.1.2.1.2 h0.2.1.2.2.1.1 ?_
    refine mg_iload_n dX9_solve_26 rfl 2 rfl ?_
    obtain ⟨q1, hC, hk⟩ := h
    refine mc_Si [.int (x2)] [.ref (k0 + 1 + 1)] dX9_solve_27 wd_326 kiX9_trueLiterals (Nat.le_of_ble_eq_true rfl) (Nat.le_trans (Nat.le_of_ble_eq_true rfl) hd) hC (fun v1 M1 hq => ?_)
    replace h := hk v1 M1 hq
    obtain ⟨q2, hC, hk⟩ := h
    refine mc_Vi [.int (v1)] [] dX9_solve_30 wd_339 kiX0_isSatisfied (Nat.le_of_ble_eq_true rfl) h0.2.1.2.2.1.2.1.1 h0.2.1.2.2.1.2.1.2 rfl (Nat.le_trans (Nat.le_of_ble_eq_true rfl) hd) hC (fun v2 M2 hq => ?_)
    replace h := hk v2 M2 hq
    refine mg_if_eq (tgt := 45) dX9_solve_33 (by decide) (fun hc => ?_) (fun hc => ?_)
    · replace h := h.1 hc
      refine mg_iload_n dX9_solve_45 rfl 2 rfl ?_
      refine mg_iload_n dX9_solve_46 rfl 1 rfl ?_
      obtain ⟨q3, hC, hk⟩ := h
      refine mc_Si [.int (x2), .int (x1)] [] dX9_solve_47 wd_357 kiX9_nextSubset (Nat.le_of_ble_eq_true rfl) (Nat.le_trans (Nat.le_of_ble_eq_true rfl) hd) hC (fun v3 M3 hq => ?_)
      replace h := hk v3 M3 hq
      refine mg_istore_n (ls' := [(2, .int (v3)), (0, .ref (k0)), (1, .int (x1)), (3, .int (x3))]) dX9_solve_50 rfl (Nat.le_of_ble_eq_true rfl) rfl ?_
      refine mg_iload_n dX9_solve_51 rfl 0 rfl ?_
      refine mg_if_ne (tgt := 57) dX9_solve_52 (by decide) (fun hc => ?_) (fun hc => ?_)
      · replace h := h.1 hc
        refine mg_iinc (v := x3 + 1) (ls' := [(3, .int (x3 + 1)), (2, .int (v3)), (0, .ref (k0)), (1, .int (x1))]) dX9_solve_57 3 rfl rfl (Nat.le_of_ble_eq_true rfl) rfl ?_
        refine mg_goto (tgt := 12) dX9_solve_60 (by decide) ?_
        exact mg_pick [2, 3, 1, 0] rfl (h d hd ex)
      · replace h := h.2 hc
        refine mg_iconst (v := (-1)) dX9_solve_55 (by decide) ?_
        exact me_i dX9_solve_56 rfl h
    · replace h := h.2 hc
      refine mg_aload_n dX9_solve_36 rfl 0 rfl ?_
      refine mg_getR (j := 0) dX9_solve_37 kc_9 (Nat.le_of_ble_eq_true rfl) wd_231 rfl rfl h0.1.1 h0.1.2 h0.2.1.1 ?_
      refine mg_iload_n dX9_solve_40 rfl 2 rfl ?_
      obtain ⟨q4, hC, hk⟩ := h
      refine mc_Vi [.int (x2)] [] dX9_solve_41 wd_343 kiX6_reconstruct (Nat.le_of_ble_eq_true rfl) h0.2.1.2.1.1 h0.2.1.2.1.2 rfl (Nat.le_trans (Nat.le_of_ble_eq_true rfl) hd) hC (fun v4 M4 hq => ?_)
      replace h := hk v4 M4 hq
      exact me_i dX9_solve_44 rfl h
theorem dX9_unsatisfied_0 : decode cX9_unsatisfied 0 = .ok (.aload_n 0, 1) := by decide +kernel
theorem dX9_unsatisfied_1 : decode cX9_unsatisfied 1 = .ok (.iload_n 1, 1) := by decide +kernel
theorem dX9_unsatisfied_2 : decode cX9_unsatisfied 2 = .ok (.invokevirtual 300, 3) := by decide +kernel
theorem dX9_unsatisfied_5 : decode cX9_unsatisfied 5 = .ok (.aload_n 0, 1) := by decide +kernel
theorem dX9_unsatisfied_6 : decode cX9_unsatisfied 6 = .ok (.getfield 12, 3) := by decide +kernel
theorem dX9_unsatisfied_9 : decode cX9_unsatisfied 9 = .ok (.getfield 88, 3) := by decide +kernel
theorem dX9_unsatisfied_12 : decode cX9_unsatisfied 12 = .ok (.iload_n 1, 1) := by decide +kernel
theorem dX9_unsatisfied_13 : decode cX9_unsatisfied 13 = .ok (.invokestatic 303, 3) := by decide +kernel
theorem dX9_unsatisfied_16 : decode cX9_unsatisfied 16 = .ok (.invokevirtual 319, 3) := by decide +kernel
theorem dX9_unsatisfied_19 : decode cX9_unsatisfied 19 = .ok (.ireturn, 1) := by decide +kernel
abbrev mtX9_unsatisfied : mj_T := (yX9_unsatisfied.cls, cX9_unsatisfied, 2, (some .int), mj_no, yX9_unsatisfied.name)
abbrev kX9_unsatisfied (k0 : Nat) (x1 : Int32) (g : mj_S) (M : mj_M) (q : Int32 → mj_M → Prop) (qx : String → mj_M → Prop) : Prop := mj_CIX yX9_unsatisfied (.code yX9_unsatisfied cX9_unsatisfied 2 (some .int)) 8 1 6 [.ref (k0), .int (x1)] g M q qx
theorem kiX9_unsatisfied : mj_cV yX9_unsatisfied cX9_unsatisfied 2 (some .int) 1 := ⟨⟨wd_1231, wd_1232, wd_1, wd_1233⟩, ⟨by decide +kernel, by decide +kernel, by decide +kernel⟩, Nat.le_of_ble_eq_true rfl⟩
theorem eX9_unsatisfied {k0 : Nat} {x1 : Int32} {g : mj_S} {M : mj_M} {q : Int32 → mj_M → Prop} {qx : String → mj_M → Prop} (h0 : is9 g k0) (h : ∃ (q1 : mj_M → Prop) (qx1 : String → mj_M → Prop), kX9_requireAssignment (k0) (x1) g (M) q1 qx1 ∧ (∀ (X : String) (M' : mj_M), qx1 X M' → qx X M') ∧ ∀ (M1 : mj_M), q1 M1 → (∃ (q2 : Int32 → mj_M → Prop), kX9_trueLiterals (x1) g (M1) q2 ∧ ∀ (v2 : Int32) (M2 : mj_M), q2 v2 M2 → (∃ (q3 : Int32 → mj_M → Prop), kX0_countFalsified (k0 + 1 + 3) (v2) g (M2) q3 ∧ ∀ (v3 : Int32) (M3 : mj_M), q3 v3 M3 → (q (v3) (M3))))) : kX9_unsatisfied (k0) (x1) g M q qx := by
  intro d hd; refine mj_enter (by decide +kernel) (Nat.le_of_ble_eq_true rfl) ?_
  show mj_G mtX9_unsatisfied (mj_rm d 1 6) (mj_Fi (mj_qI g q) (mj_qX g qx) 1 6) false 1 6 0 [(0, .ref (k0)), (1, .int (x1))] [] g M
  refine mg_aload_n dX9_unsatisfied_0 rfl 0 rfl ?_
  refine mg_iload_n dX9_unsatisfied_1 rfl 1 rfl ?_
  obtain ⟨q1, qx1, hC, hkx, hk⟩ := h
  refine mx_Vv [.int (x1)] [] dX9_unsatisfied_2 wd_1222 kiX9_requireAssignment (Nat.le_of_ble_eq_true rfl) h0.1.1 h0.1.2 rfl (Nat.le_trans (Nat.le_of_ble_eq_true rfl) hd) ⟨Nat.le_of_ble_eq_true rfl, Nat.le_of_ble_eq_true rfl⟩ rfl rfl hC hkx (fun M1 hq => ?_)
  replace h := hk M1 hq
  refine mg_aload_n dX9_unsatisfied_5 rfl 0 rfl ?_
  refine mg_getR (j := 0) dX9_unsatisfied_6 kc_9 (Nat.le_of_ble_eq_true rfl) wd_231 rfl rfl h0.1.1 h0.1.2 h0.2.1.1 ?_
  refine mg_getR (j := 4) dX9_unsatisfied_9 kc_6 (Nat.le_of_ble_eq_true rfl) wd_77 rfl rfl h0.2.1.2.1.1 h0.2.1.2.1.2 h0.2.1.2.2.2.1.1 ?_
  refine mg_iload_n dX9_unsatisfied_12 rfl 1 rfl ?_
  obtain ⟨q2, hC, hk⟩ := h
  refine mc_Si [.int (x1)] [.ref (k0 + 1 + 3)] dX9_unsatisfied_13 wd_326 kiX9_trueLiterals (Nat.le_of_ble_eq_true rfl) (Nat.le_trans (Nat.le_of_ble_eq_true rfl) hd) hC (fun v2 M2 hq => ?_)
  replace h := hk v2 M2 hq
  obtain ⟨q3, hC, hk⟩ := h
  refine mc_Vi [.int (v2)] [] dX9_unsatisfied_16 wd_1234 kiX0_countFalsified (Nat.le_of_ble_eq_true rfl) h0.2.1.2.2.2.1.2.1.1 h0.2.1.2.2.2.1.2.1.2 rfl (Nat.le_trans (Nat.le_of_ble_eq_true rfl) hd) hC (fun v3 M3 hq => ?_)
  replace h := hk v3 M3 hq
  exact mex_i dX9_unsatisfied_19 rfl h
theorem dX9_models_0 : decode cX9_models 0 = .ok (.iload_n 1, 1) := by decide +kernel
theorem dX9_models_1 : decode cX9_models 1 = .ok (.ifCond .eq 23, 3) := by decide +kernel
theorem dX9_models_4 : decode cX9_models 4 = .ok (.aload_n 0, 1) := by decide +kernel
theorem dX9_models_5 : decode cX9_models 5 = .ok (.getfield 12, 3) := by decide +kernel
theorem dX9_models_8 : decode cX9_models 8 = .ok (.getfield 88, 3) := by decide +kernel
theorem dX9_models_11 : decode cX9_models 11 = .ok (.aload_n 0, 1) := by decide +kernel
theorem dX9_models_12 : decode cX9_models 12 = .ok (.getfield 12, 3) := by decide +kernel
theorem dX9_models_15 : decode cX9_models 15 = .ok (.invokevirtual 72, 3) := by decide +kernel
theorem dX9_models_18 : decode cX9_models 18 = .ok (.invokestatic 322, 3) := by decide +kernel
theorem dX9_models_21 : decode cX9_models 21 = .ok (.goto 20, 3) := by decide +kernel
theorem dX9_models_24 : decode cX9_models 24 = .ok (.aload_n 0, 1) := by decide +kernel
theorem dX9_models_25 : decode cX9_models 25 = .ok (.getfield 12, 3) := by decide +kernel
theorem dX9_models_28 : decode cX9_models 28 = .ok (.getfield 119, 3) := by decide +kernel
theorem dX9_models_31 : decode cX9_models 31 = .ok (.aload_n 0, 1) := by decide +kernel
theorem dX9_models_32 : decode cX9_models 32 = .ok (.getfield 12, 3) := by decide +kernel
theorem dX9_models_35 : decode cX9_models 35 = .ok (.invokevirtual 313, 3) := by decide +kernel
theorem dX9_models_38 : decode cX9_models 38 = .ok (.invokestatic 322, 3) := by decide +kernel
theorem dX9_models_41 : decode cX9_models 41 = .ok (.ireturn, 1) := by decide +kernel
abbrev mtX9_models : mj_T := (yX9_models.cls, cX9_models, 2, (some .int), mj_no, yX9_models.name)
abbrev kX9_models (k0 : Nat) (x1 : Int32) (g : mj_S) (M : mj_M) (q : Int32 → mj_M → Prop) : Prop := mj_CI yX9_models (.code yX9_models cX9_models 2 (some .int)) 4 [.ref (k0), .int (x1)] g M q
theorem kiX9_models : mj_cV yX9_models cX9_models 2 (some .int) 1 := ⟨⟨wd_361, wd_362, wd_1, wd_363⟩, ⟨by decide +kernel, by decide +kernel, by decide +kernel⟩, Nat.le_of_ble_eq_true rfl⟩
theorem eX9_models {k0 : Nat} {x1 : Int32} {g : mj_S} {M : mj_M} {q : Int32 → mj_M → Prop} (h0 : is9 g k0) (h : ((x1 : Int32) = 0 → ∃ (q1 : Int32 → mj_M → Prop), kX6_activeVariables (k0 + 1) g (M) q1 ∧ ∀ (v1 : Int32) (M1 : mj_M), q1 v1 M1 → (∃ (q2 : Int32 → mj_M → Prop), kX9_countModels (k0 + 1 + 1) (v1) g (M1) q2 ∧ ∀ (v2 : Int32) (M2 : mj_M), q2 v2 M2 → (q (v2) (M2)))) ∧ (¬ (x1 : Int32) = 0 → ∃ (q3 : Int32 → mj_M → Prop), kX6_allVariables (k0 + 1) g (M) q3 ∧ ∀ (v3 : Int32) (M3 : mj_M), q3 v3 M3 → (∃ (q4 : Int32 → mj_M → Prop), kX9_countModels (k0 + 1 + 3) (v3) g (M3) q4 ∧ ∀ (v4 : Int32) (M4 : mj_M), q4 v4 M4 → (q (v4) (M4))))) : kX9_models (k0) (x1) g M q := by
  intro d hd; refine mj_enter (by decide +kernel) (Nat.le_of_ble_eq_true rfl) ?_
  generalize (false : Bool) = ex
  show mj_G mtX9_models (mj_rm d 0 0) (mj_Fi (mj_qI g q) mj_x0 0 0) ex 0 0 0 [(0, .ref (k0)), (1, .int (x1))] [] g M
  refine mg_iload_n dX9_models_0 rfl 1 rfl ?_
  refine mg_if_eq (tgt := 24) dX9_models_1 (by decide) (fun hc => ?_) (fun hc => ?_)
  · replace h := h.1 hc
    refine mg_aload_n dX9_models_24 rfl 0 rfl ?_
    refine mg_getR (j := 0) dX9_models_25 kc_9 (Nat.le_of_ble_eq_true rfl) wd_231 rfl rfl h0.1.1 h0.1.2 h0.2.1.1 ?_
    refine mg_getR (j := 3) dX9_models_28 kc_6 (Nat.le_of_ble_eq_true rfl) wd_75 rfl rfl h0.2.1.2.1.1 h0.2.1.2.1.2 h0.2.1.2.2.1.1 ?_
    refine mg_aload_n dX9_models_31 rfl 0 rfl ?_
    refine mg_getR (j := 0) dX9_models_32 kc_9 (Nat.le_of_ble_eq_true rfl) wd_231 rfl rfl h0.1.1 h0.1.2 h0.2.1.1 ?_
    obtain ⟨q1, hC, hk⟩ := h
    refine mc_Vi [] [.ref (k0 + 1 + 1)] dX9_models_35 wd_314 kiX6_activeVariables (Nat.le_of_ble_eq_true rfl) h0.2.1.2.1.1 h0.2.1.2.1.2 rfl (Nat.le_trans (Nat.le_of_ble_eq_true rfl) hd) hC (fun v1 M1 hq => ?_)
    replace h := hk v1 M1 hq
    obtain ⟨q2, hC, hk⟩ := h
    refine mc_Si [.ref (k0 + 1 + 1), .int (v1)] [] dX9_models_38 wd_368 kiX9_countModels (Nat.le_of_ble_eq_true rfl) (Nat.le_trans (Nat.le_of_ble_eq_true rfl) hd) hC (fun v2 M2 hq => ?_)
    replace h := hk v2 M2 hq
    exact me_i dX9_models_41 rfl h
  · replace h := h.2 hc
    refine mg_aload_n dX9_models_4 rfl 0 rfl ?_
    refine mg_getR (j := 0) dX9_models_5 kc_9 (Nat.le_of_ble_eq_true rfl) wd_231 rfl rfl h0.1.1 h0.1.2 h0.2.1.1 ?_
    refine mg_getR (j := 4) dX9_models_8 kc_6 (Nat.le_of_ble_eq_true rfl) wd_77 rfl rfl h0.2.1.2.1.1 h0.2.1.2.1.2 h0.2.1.2.2.2.1.1 ?_
    refine mg_aload_n dX9_models_11 rfl 0 rfl ?_
    refine mg_getR (j := 0) dX9_models_12 kc_9 (Nat.le_of_ble_eq_true rfl) wd_231 rfl rfl h0.1.1 h0.1.2 h0.2.1.1 ?_
    obtain ⟨q3, hC, hk⟩ := h
    refine mc_Vi [] [.ref (k0 + 1 + 3)] dX9_models_15 wd_364 kiX6_allVariables (Nat.le_of_ble_eq_true rfl) h0.2.1.2.1.1 h0.2.1.2.1.2 rfl (Nat.le_trans (Nat.le_of_ble_eq_true rfl) hd) hC (fun v3 M3 hq => ?_)
    replace h := hk v3 M3 hq
    obtain ⟨q4, hC, hk⟩ := h
    refine mc_Si [.ref (k0 + 1 + 3), .int (v3)] [] dX9_models_18 wd_368 kiX9_countModels (Nat.le_of_ble_eq_true rfl) (Nat.le_trans (Nat.le_of_ble_eq_true rfl) hd) hC (fun v4 M4 hq => ?_)
    replace h := hk v4 M4 hq
    refine mg_goto (tgt := 41) dX9_models_21 (by decide) ?_
    exact me_i dX9_models_41 rfl h
theorem dX9_predict_0 : decode cX9_predict 0 = .ok (.aload_n 0, 1) := by decide +kernel
theorem dX9_predict_1 : decode cX9_predict 1 = .ok (.iload_n 1, 1) := by decide +kernel
theorem dX9_predict_2 : decode cX9_predict 2 = .ok (.invokevirtual 178, 3) := by decide +kernel
theorem dX9_predict_5 : decode cX9_predict 5 = .ok (.aload_n 0, 1) := by decide +kernel
theorem dX9_predict_6 : decode cX9_predict 6 = .ok (.getfield 16, 3) := by decide +kernel
theorem dX9_predict_9 : decode cX9_predict 9 = .ok (.aload_n 0, 1) := by decide +kernel
theorem dX9_predict_10 : decode cX9_predict 10 = .ok (.getfield 12, 3) := by decide +kernel
theorem dX9_predict_13 : decode cX9_predict 13 = .ok (.invokevirtual 225, 3) := by decide +kernel
theorem dX9_predict_16 : decode cX9_predict 16 = .ok (.aload_n 0, 1) := by decide +kernel
theorem dX9_predict_17 : decode cX9_predict 17 = .ok (.getfield 51, 3) := by decide +kernel
theorem dX9_predict_20 : decode cX9_predict 20 = .ok (.aload_n 0, 1) := by decide +kernel
theorem dX9_predict_21 : decode cX9_predict 21 = .ok (.getfield 16, 3) := by decide +kernel
theorem dX9_predict_24 : decode cX9_predict 24 = .ok (.iload_n 1, 1) := by decide +kernel
theorem dX9_predict_25 : decode cX9_predict 25 = .ok (.invokevirtual 181, 3) := by decide +kernel
theorem dX9_predict_28 : decode cX9_predict 28 = .ok (.pop, 1) := by decide +kernel
theorem dX9_predict_29 : decode cX9_predict 29 = .ok (.iload_n 2, 1) := by decide +kernel
theorem dX9_predict_30 : decode cX9_predict 30 = .ok (.ifCond .eq 16, 3) := by decide +kernel
theorem dX9_predict_33 : decode cX9_predict 33 = .ok (.aload_n 0, 1) := by decide +kernel
theorem dX9_predict_34 : decode cX9_predict 34 = .ok (.getfield 16, 3) := by decide +kernel
theorem dX9_predict_37 : decode cX9_predict 37 = .ok (.getfield 119, 3) := by decide +kernel
theorem dX9_predict_40 : decode cX9_predict 40 = .ok (.invokevirtual 122, 3) := by decide +kernel
theorem dX9_predict_43 : decode cX9_predict 43 = .ok (.goto 13, 3) := by decide +kernel
theorem dX9_predict_46 : decode cX9_predict 46 = .ok (.aload_n 0, 1) := by decide +kernel
theorem dX9_predict_47 : decode cX9_predict 47 = .ok (.getfield 16, 3) := by decide +kernel
theorem dX9_predict_50 : decode cX9_predict 50 = .ok (.getfield 119, 3) := by decide +kernel
theorem dX9_predict_53 : decode cX9_predict 53 = .ok (.invokevirtual 92, 3) := by decide +kernel
theorem dX9_predict_56 : decode cX9_predict 56 = .ok (.ireturn, 1) := by decide +kernel
abbrev mtX9_predict : mj_T := (yX9_predict.cls, cX9_predict, 3, (some .int), mj_no, yX9_predict.name)
abbrev kX9_predict (k0 : Nat) (x1 : Int32) (x2 : Int32) (g : mj_S) (M : mj_M) (q : Int32 → mj_M → Prop) (qx : String → mj_M → Prop) : Prop := mj_CIX yX9_predict (.code yX9_predict cX9_predict 3 (some .int)) 8 1 6 [.ref (k0), .int (x1), .int (x2)] g M q qx
theorem kiX9_predict : mj_cV yX9_predict cX9_predict 3 (some .int) 2 := ⟨⟨wd_1242, wd_1243, wd_1, wd_1244⟩, ⟨by decide +kernel, by decide +kernel, by decide +kernel⟩, Nat.le_of_ble_eq_true rfl⟩
theorem eX9_predict {k0 : Nat} {x1 : Int32} {x2 : Int32} {g : mj_S} {M : mj_M} {q : Int32 → mj_M → Prop} {qx : String → mj_M → Prop} (h0 : is9 g k0) (h : ∃ (q1 : mj_M → Prop) (qx1 : String → mj_M → Prop), kX9_requireTechnique (k0) (x1) g (M) q1 qx1 ∧ (∀ (X : String) (M' : mj_M), qx1 X M' → qx X M') ∧ ∀ (M1 : mj_M), q1 M1 → (∃ (q2 : mj_M → Prop), kX6_copyFrom (k0 + 11) (k0 + 1) g (M1) q2 ∧ ∀ (M2 : mj_M), q2 M2 → (∃ (q3 : Int32 → mj_M → Prop), kX7_perform (k0 + 88) (k0 + 11) (x1) g (M2) q3 ∧ ∀ (v3 : Int32) (M3 : mj_M), q3 v3 M3 → (((x2 : Int32) = 0 → ∃ (q4 : Int32 → mj_M → Prop), kX0_size (k0 + 11 + 1) g (M3) q4 ∧ ∀ (v4 : Int32) (M4 : mj_M), q4 v4 M4 → (q (v4) (M4))) ∧ (¬ (x2 : Int32) = 0 → ∃ (q5 : Int32 → mj_M → Prop), kX0_countLiterals (k0 + 11 + 1) g (M3) q5 ∧ ∀ (v5 : Int32) (M5 : mj_M), q5 v5 M5 → (q (v5) (M5))))))) : kX9_predict (k0) (x1) (x2) g M q qx := by
  intro d hd; refine mj_enter (by decide +kernel) (Nat.le_of_ble_eq_true rfl) ?_
  show mj_G mtX9_predict (mj_rm d 1 6) (mj_Fi (mj_qI g q) (mj_qX g qx) 1 6) false 1 6 0 [(0, .ref (k0)), (1, .int (x1)), (2, .int (x2))] [] g M
  refine mg_aload_n dX9_predict_0 rfl 0 rfl ?_
  refine mg_iload_n dX9_predict_1 rfl 1 rfl ?_
  obtain ⟨q1, qx1, hC, hkx, hk⟩ := h
  refine mx_Vv [.int (x1)] [] dX9_predict_2 wd_975 kiX9_requireTechnique (Nat.le_of_ble_eq_true rfl) h0.1.1 h0.1.2 rfl (Nat.le_trans (Nat.le_of_ble_eq_true rfl) hd) ⟨Nat.le_of_ble_eq_true rfl, Nat.le_of_ble_eq_true rfl⟩ rfl rfl hC hkx (fun M1 hq => ?_)
  replace h := hk M1 hq
  refine mg_aload_n dX9_predict_5 rfl 0 rfl ?_
  refine mg_getR (j := 1) dX9_predict_6 kc_9 (Nat.le_of_ble_eq_true rfl) wd_232 rfl rfl h0.1.1 h0.1.2 h0.2.2.1.1 ?_
  refine mg_aload_n dX9_predict_9 rfl 0 rfl ?_
  refine mg_getR (j := 0) dX9_predict_10 kc_9 (Nat.le_of_ble_eq_true rfl) wd_231 rfl rfl h0.1.1 h0.1.2 h0.2.1.1 ?_
  obtain ⟨q2, hC, hk⟩ := h
  refine mc_Vv [.ref (k0 + 1)] [] dX9_predict_13 wd_376 kiX6_copyFrom (Nat.le_of_ble_eq_true rfl) h0.2.2.1.2.1.1 h0.2.2.1.2.1.2 rfl (Nat.le_trans (Nat.le_of_ble_eq_true rfl) hd) hC (fun M2 hq => ?_)
  replace h := hk M2 hq
  refine mg_aload_n dX9_predict_16 rfl 0 rfl ?_
  refine mg_getR (j := 7) dX9_predict_17 kc_9 (Nat.le_of_ble_eq_true rfl) wd_238 rfl rfl h0.1.1 h0.1.2 h0.2.2.2.2.2.2.2.1 ?_
  refine mg_aload_n dX9_predict_20 rfl 0 rfl ?_
  refine mg_getR (j := 1) dX9_predict_21 kc_9 (Nat.le_of_ble_eq_true rfl) wd_232 rfl rfl h0.1.1 h0.1.2 h0.2.2.1.1 ?_
  refine mg_iload_n dX9_predict_24 rfl 1 rfl ?_
  obtain ⟨q3, hC, hk⟩ := h
  refine mc_Vi [.ref (k0 + 11), .int (x1)] [] dX9_predict_25 wd_393 kiX7_perform (Nat.le_of_ble_eq_true rfl) h0.2.2.2.2.2.2.2.2.1.1 h0.2.2.2.2.2.2.2.2.1.2 rfl (Nat.le_trans (Nat.le_of_ble_eq_true rfl) hd) hC (fun v3 M3 hq => ?_)
  replace h := hk v3 M3 hq
  refine mg_pop dX9_predict_28 rfl ?_
  refine mg_iload_n dX9_predict_29 rfl 2 rfl ?_
  refine mg_if_eq (tgt := 46) dX9_predict_30 (by decide) (fun hc => ?_) (fun hc => ?_)
  · replace h := h.1 hc
    refine mg_aload_n dX9_predict_46 rfl 0 rfl ?_
    refine mg_getR (j := 1) dX9_predict_47 kc_9 (Nat.le_of_ble_eq_true rfl) wd_232 rfl rfl h0.1.1 h0.1.2 h0.2.2.1.1 ?_
    refine mg_getR (j := 3) dX9_predict_50 kc_6 (Nat.le_of_ble_eq_true rfl) wd_75 rfl rfl h0.2.2.1.2.1.1 h0.2.2.1.2.1.2 h0.2.2.1.2.2.1.1 ?_
    obtain ⟨q4, hC, hk⟩ := h
    refine mc_Vi [] [] dX9_predict_53 wd_260 kiX0_size (Nat.le_of_ble_eq_true rfl) h0.2.2.1.2.2.1.2.1.1 h0.2.2.1.2.2.1.2.1.2 rfl (Nat.le_trans (Nat.le_of_ble_eq_true rfl) hd) hC (fun v4 M4 hq => ?_)
    replace h := hk v4 M4 hq
    exact mex_i dX9_predict_56 rfl h
  · replace h := h.2 hc
    refine mg_aload_n dX9_predict_33 rfl 0 rfl ?_
    refine mg_getR (j := 1) dX9_predict_34 kc_9 (Nat.le_of_ble_eq_true rfl) wd_232 rfl rfl h0.1.1 h0.1.2 h0.2.2.1.1 ?_
    refine mg_getR (j := 3) dX9_predict_37 kc_6 (Nat.le_of_ble_eq_true rfl) wd_75 rfl rfl h0.2.2.1.2.1.1 h0.2.2.1.2.1.2 h0.2.2.1.2.2.1.1 ?_
    obtain ⟨q5, hC, hk⟩ := h
    refine mc_Vi [] [] dX9_predict_40 wd_272 kiX0_countLiterals (Nat.le_of_ble_eq_true rfl) h0.2.2.1.2.2.1.2.1.1 h0.2.2.1.2.2.1.2.1.2 rfl (Nat.le_trans (Nat.le_of_ble_eq_true rfl) hd) hC (fun v5 M5 hq => ?_)
    replace h := hk v5 M5 hq
    refine mg_goto (tgt := 56) dX9_predict_43 (by decide) ?_
    exact mex_i dX9_predict_56 rfl h
theorem dX9_bestTechnique_0 : decode cX9_bestTechnique 0 = .ok (.iconst 0, 1) := by decide +kernel
theorem dX9_bestTechnique_1 : decode cX9_bestTechnique 1 = .ok (.istore_n 1, 1) := by decide +kernel
theorem dX9_bestTechnique_2 : decode cX9_bestTechnique 2 = .ok (.ldc_w 327, 3) := by decide +kernel
theorem dX9_bestTechnique_5 : decode cX9_bestTechnique 5 = .ok (.istore_n 2, 1) := by decide +kernel
theorem dX9_bestTechnique_6 : decode cX9_bestTechnique 6 = .ok (.ldc_w 327, 3) := by decide +kernel
theorem dX9_bestTechnique_9 : decode cX9_bestTechnique 9 = .ok (.istore_n 3, 1) := by decide +kernel
theorem dX9_bestTechnique_10 : decode cX9_bestTechnique 10 = .ok (.iconst 0, 1) := by decide +kernel
theorem dX9_bestTechnique_11 : decode cX9_bestTechnique 11 = .ok (.istore 4, 2) := by decide +kernel
theorem dX9_bestTechnique_13 : decode cX9_bestTechnique 13 = .ok (.iload 4, 2) := by decide +kernel
theorem dX9_bestTechnique_15 : decode cX9_bestTechnique 15 = .ok (.bipush 10, 2) := by decide +kernel
theorem dX9_bestTechnique_17 : decode cX9_bestTechnique 17 = .ok (.if_icmp .ge 85, 3) := by decide +kernel
theorem dX9_bestTechnique_20 : decode cX9_bestTechnique 20 = .ok (.aload_n 0, 1) := by decide +kernel
theorem dX9_bestTechnique_21 : decode cX9_bestTechnique 21 = .ok (.getfield 16, 3) := by decide +kernel
theorem dX9_bestTechnique_24 : decode cX9_bestTechnique 24 = .ok (.aload_n 0, 1) := by decide +kernel
theorem dX9_bestTechnique_25 : decode cX9_bestTechnique 25 = .ok (.getfield 12, 3) := by decide +kernel
theorem dX9_bestTechnique_28 : decode cX9_bestTechnique 28 = .ok (.invokevirtual 225, 3) := by decide +kernel
theorem dX9_bestTechnique_31 : decode cX9_bestTechnique 31 = .ok (.aload_n 0, 1) := by decide +kernel
theorem dX9_bestTechnique_32 : decode cX9_bestTechnique 32 = .ok (.getfield 51, 3) := by decide +kernel
theorem dX9_bestTechnique_35 : decode cX9_bestTechnique 35 = .ok (.aload_n 0, 1) := by decide +kernel
theorem dX9_bestTechnique_36 : decode cX9_bestTechnique 36 = .ok (.getfield 16, 3) := by decide +kernel
theorem dX9_bestTechnique_39 : decode cX9_bestTechnique 39 = .ok (.iload 4, 2) := by decide +kernel
theorem dX9_bestTechnique_41 : decode cX9_bestTechnique 41 = .ok (.invokevirtual 181, 3) := by decide +kernel
theorem dX9_bestTechnique_44 : decode cX9_bestTechnique 44 = .ok (.pop, 1) := by decide +kernel
theorem dX9_bestTechnique_45 : decode cX9_bestTechnique 45 = .ok (.aload_n 0, 1) := by decide +kernel
theorem dX9_bestTechnique_46 : decode cX9_bestTechnique 46 = .ok (.getfield 16, 3) := by decide +kernel
theorem dX9_bestTechnique_49 : decode cX9_bestTechnique 49 = .ok (.getfield 119, 3) := by decide +kernel
theorem dX9_bestTechnique_52 : decode cX9_bestTechnique 52 = .ok (.invokevirtual 122, 3) := by decide +kernel
theorem dX9_bestTechnique_55 : decode cX9_bestTechnique 55 = .ok (.istore 5, 2) := by decide +kernel
theorem dX9_bestTechnique_57 : decode cX9_bestTechnique 57 = .ok (.aload_n 0, 1) := by decide +kernel
theorem dX9_bestTechnique_58 : decode cX9_bestTechnique 58 = .ok (.getfield 16, 3) := by decide +kernel
theorem dX9_bestTechnique_61 : decode cX9_bestTechnique 61 = .ok (.getfield 119, 3) := by decide +kernel
theorem dX9_bestTechnique_64 : decode cX9_bestTechnique 64 = .ok (.invokevirtual 92, 3) := by decide +kernel
theorem dX9_bestTechnique_67 : decode cX9_bestTechnique 67 = .ok (.istore 6, 2) := by decide +kernel
theorem dX9_bestTechnique_69 : decode cX9_bestTechnique 69 = .ok (.iload 5, 2) := by decide +kernel
theorem dX9_bestTechnique_71 : decode cX9_bestTechnique 71 = .ok (.iload_n 2, 1) := by decide +kernel
theorem dX9_bestTechnique_72 : decode cX9_bestTechnique 72 = .ok (.if_icmp .lt 15, 3) := by decide +kernel
theorem dX9_bestTechnique_75 : decode cX9_bestTechnique 75 = .ok (.iload 5, 2) := by decide +kernel
theorem dX9_bestTechnique_77 : decode cX9_bestTechnique 77 = .ok (.iload_n 2, 1) := by decide +kernel
theorem dX9_bestTechnique_78 : decode cX9_bestTechnique 78 = .ok (.if_icmp .ne 18, 3) := by decide +kernel
theorem dX9_bestTechnique_81 : decode cX9_bestTechnique 81 = .ok (.iload 6, 2) := by decide +kernel
theorem dX9_bestTechnique_83 : decode cX9_bestTechnique 83 = .ok (.iload_n 3, 1) := by decide +kernel
theorem dX9_bestTechnique_84 : decode cX9_bestTechnique 84 = .ok (.if_icmp .ge 12, 3) := by decide +kernel
theorem dX9_bestTechnique_87 : decode cX9_bestTechnique 87 = .ok (.iload 4, 2) := by decide +kernel
theorem dX9_bestTechnique_89 : decode cX9_bestTechnique 89 = .ok (.istore_n 1, 1) := by decide +kernel
theorem dX9_bestTechnique_90 : decode cX9_bestTechnique 90 = .ok (.iload 5, 2) := by decide +kernel
theorem dX9_bestTechnique_92 : decode cX9_bestTechnique 92 = .ok (.istore_n 2, 1) := by decide +kernel
theorem dX9_bestTechnique_93 : decode cX9_bestTechnique 93 = .ok (.iload 6, 2) := by decide +kernel
theorem dX9_bestTechnique_95 : decode cX9_bestTechnique 95 = .ok (.istore_n 3, 1) := by decide +kernel
theorem dX9_bestTechnique_96 : decode cX9_bestTechnique 96 = .ok (.iinc 4 1, 3) := by decide +kernel
theorem dX9_bestTechnique_99 : decode cX9_bestTechnique 99 = .ok (.goto (-86), 3) := by decide +kernel
theorem dX9_bestTechnique_102 : decode cX9_bestTechnique 102 = .ok (.iload_n 1, 1) := by decide +kernel
theorem dX9_bestTechnique_103 : decode cX9_bestTechnique 103 = .ok (.ireturn, 1) := by decide +kernel
abbrev mtX9_bestTechnique : mj_T := (yX9_bestTechnique.cls, cX9_bestTechnique, 7, (some .int), mj_no, yX9_bestTechnique.name)
abbrev kX9_bestTechnique (k0 : Nat) (g : mj_S) (M : mj_M) (q : Int32 → mj_M → Prop) : Prop := mj_CI yX9_bestTechnique (.code yX9_bestTechnique cX9_bestTechnique 7 (some .int)) 6 [.ref (k0)] g M q
theorem kiX9_bestTechnique : mj_cV yX9_bestTechnique cX9_bestTechnique 7 (some .int) 0 := ⟨⟨wd_372, wd_373, wd_1, wd_374⟩, ⟨by decide +kernel, by decide +kernel, by decide +kernel⟩, Nat.le_of_ble_eq_true rfl⟩
def LX9_bestTechnique_13 (k0 : Nat) (x1 : Int32) (x2 : Int32) (x3 : Int32) (x4 : Int32) (g : mj_S) (M : mj_M) (q : Int32 → mj_M → Prop) : Prop := ∀ d, 6 ≤ d → ∀ ex : Bool, mj_G mtX9_bestTechnique (mj_rm d 0 0) (mj_Fi (mj_qI g q) mj_x0 0 0) ex 0 0 13 [(0, .ref (k0)), (1, .int (x1)), (2, .int (x2)), (3, .int (x3)), (4, .int (x4))] [] g M
theorem eX9_bestTechnique {k0 : Nat} {g : mj_S} {M : mj_M} {q : Int32 → mj_M → Prop} (h0 : is9 g k0) (h : LX9_bestTechnique_13 k0 (0) (2147483647) (2147483647) (0) g (M) q) : kX9_bestTechnique (k0) g M q := by
  intro d hd; refine mj_enter (by decide +kernel) (Nat.le_of_ble_eq_true rfl) ?_
  generalize (false : Bool) = ex
  show mj_G mtX9_bestTechnique (mj_rm d 0 0) (mj_Fi (mj_qI g q) mj_x0 0 0) ex 0 0 0 [(0, .ref (k0))] [] g M
  refine mg_iconst (v := 0) dX9_bestTechnique_0 (by decide) ?_
  refine mg_istore_n (ls' := [(1, .int (0)), (0, .ref (k0))]) dX9_bestTechnique_1 rfl (Nat.le_of_ble_eq_true rfl) rfl ?_
  refine mg_ldcw (v := 2147483647) dX9_bestTechnique_2 wd_375 ?_
  refine mg_istore_n (ls' := [(2, .int (2147483647)), (1, .int (0)), (0, .ref (k0))]) dX9_bestTechnique_5 rfl (Nat.le_of_ble_eq_true rfl) rfl ?_
  refine mg_ldcw (v := 2147483647) dX9_bestTechnique_6 wd_375 ?_
  refine mg_istore_n (ls' := [(3, .int (2147483647)), (2, .int (2147483647)), (1, .int (0)), (0, .ref (k0))]) dX9_bestTechnique_9 rfl (Nat.le_of_ble_eq_true rfl) rfl ?_
  refine mg_iconst (v := 0) dX9_bestTechnique_10 (by decide) ?_
  refine mg_istore (ls' := [(4, .int (0)), (3, .int (2147483647)), (2, .int (2147483647)), (1, .int (0)), (0, .ref (k0))]) dX9_bestTechnique_11 (Nat.le_of_ble_eq_true rfl) rfl ?_
  exact mg_pick [4, 3, 2, 1, 0] rfl (h d hd ex)
theorem bX9_bestTechnique_13 {k0 : Nat} {x1 : Int32} {x2 : Int32} {x3 : Int32} {x4 : Int32} {g : mj_S} {M : mj_M} {q : Int32 → mj_M → Prop} (h0 : is9 g k0) (h : ((10 : Int32) ≤ (x4) → q (x1) (M)) ∧ (¬ (10 : Int32) ≤ (x4) → ∃ (q1 : mj_M → Prop), kX6_copyFrom (k0 + 11) (k0 + 1) g (M) q1 ∧ ∀ (M1 : mj_M), q1 M1 → (∃ (q2 : Int32 → mj_M → Prop), kX7_perform (k0 + 88) (k0 + 11) (x4) g (M1) q2 ∧ ∀ (v2 : Int32) (M2 : mj_M), q2 v2 M2 → (∃ (q3 : Int32 → mj_M → Prop), kX0_countLiterals (k0 + 11 + 1) g (M2) q3 ∧ ∀ (v3 : Int32) (M3 : mj_M), q3 v3 M3 → (∃ (q4 : Int32 → mj_M → Prop), kX0_size (k0 + 11 + 1) g (M3) q4 ∧ ∀ (v4 : Int32) (M4 : mj_M), q4 v4 M4 → (((v3 : Int32) < (x2) → LX9_bestTechnique_13 k0 (x4) (v3) (v4) (x4 + 1) g (M4) q) ∧ (¬ (v3 : Int32) < (x2) → (¬ (v3 : Int32) = (x2) → LX9_bestTechnique_13 k0 (x1) (x2) (x3) (x4 + 1) g (M4) q) ∧ ((v3 : Int32) = (x2) → ((x3 : Int32) ≤ (v4) → LX9_bestTechnique_13 k0 (x1) (x2) (x3) (x4 + 1) g (M4) q) ∧ (¬ (x3 : Int32) ≤ (v4) → LX9_bestTechnique_13 k0 (x4) (v3) (v4) (x4 + 1) g (M4) q))))))))) : LX9_bestTechnique_13 k0 x1 x2 x3 x4 g M q := by
  intro d hd ex
  refine mg_iload dX9_bestTechnique_13 4 rfl ?_
  refine mg_bipush (v := 10) dX9_bestTechnique_15 (by decide) ?_
  refine mg_icmp_ge (tgt := 102) dX9_bestTechnique_17 (by decide) (fun hc => ?_) (fun hc => ?_)
  · replace h := h.1 hc
    refine mg_iload_n dX9_bestTechnique_102 rfl 1 rfl ?_
    exact me_i dX9_bestTechnique_103 rfl h
  · replace h := h.2 hc
    refine mg_aload_n dX9_bestTechnique_20 rfl 0 rfl ?_
    refine mg_getR (j := 1) dX9_bestTechnique_21 kc_9 (Nat.le_of_ble_eq_true rfl) wd_232 rfl rfl h0.1.1 h0.1.2 h0.2.2.1.1 ?_
    refine mg_aload_n dX9_bestTechnique_24 rfl 0 rfl ?_
    refine mg_getR (j := 0) dX9_bestTechnique_25 kc_9 (Nat.le_of_ble_eq_true rfl) wd_231 rfl rfl h0.1.1 h0.1.2 h0.2.1.1 ?_
    obtain ⟨q1, hC, hk⟩ := h
    refine mc_Vv [.ref (k0 + 1)] [] dX9_bestTechnique_28 wd_376 kiX6_copyFrom (Nat.le_of_ble_eq_true rfl) h0.2.2.1.2.1.1 h0.2.2.1.2.1.2 rfl (Nat.le_trans (Nat.le_of_ble_eq_true rfl) hd) hC (fun M1 hq => ?_)
    replace h := hk M1 hq
    refine mg_aload_n dX9_bestTechnique_31 rfl 0 rfl ?_
    refine mg_getR (j := 7) dX9_bestTechnique_32 kc_9 (Nat.le_of_ble_eq_true rfl) wd_238 rfl rfl h0.1.1 h0.1.2 h0.2.2.2.2.2.2.2.1 ?_
    refine mg_aload_n dX9_bestTechnique_35 rfl 0 rfl ?_
    refine mg_getR (j := 1) dX9_bestTechnique_36 kc_9 (Nat.le_of_ble_eq_true rfl) wd_232 rfl rfl h0.1.1 h0.1.2 h0.2.2.1.1 ?_
    refine mg_iload dX9_bestTechnique_39 4 rfl ?_
    obtain ⟨q2, hC, hk⟩ := h
    refine mc_Vi [.ref (k0 + 11), .int (x4)] [] dX9_bestTechnique_41 wd_393 kiX7_perform (Nat.le_of_ble_eq_true rfl) h0.2.2.2.2.2.2.2.2.1.1 h0.2.2.2.2.2.2.2.2.1.2 rfl (Nat.le_trans (Nat.le_of_ble_eq_true rfl) hd) hC (fun v2 M2 hq => ?_)
    replace h := hk v2 M2 hq
    refine mg_pop dX9_bestTechnique_44 rfl ?_
    refine mg_aload_n dX9_bestTechnique_45 rfl 0 rfl ?_
    refine mg_getR (j := 1) dX9_bestTechnique_46 kc_9 (Nat.le_of_ble_eq_true rfl) wd_232 rfl rfl h0.1.1 h0.1.2 h0.2.2.1.1 ?_
    refine mg_getR (j := 3) dX9_bestTechnique_49 kc_6 (Nat.le_of_ble_eq_true rfl) wd_75 rfl rfl h0.2.2.1.2.1.1 h0.2.2.1.2.1.2 h0.2.2.1.2.2.1.1 ?_
    obtain ⟨q3, hC, hk⟩ := h
    refine mc_Vi [] [] dX9_bestTechnique_52 wd_272 kiX0_countLiterals (Nat.le_of_ble_eq_true rfl) h0.2.2.1.2.2.1.2.1.1 h0.2.2.1.2.2.1.2.1.2 rfl (Nat.le_trans (Nat.le_of_ble_eq_true rfl) hd) hC (fun v3 M3 hq => ?_)
    replace h := hk v3 M3 hq
    refine mg_istore (ls' := [(5, .int (v3)), (0, .ref (k0)), (1, .int (x1)), (2, .int (x2)), (3, .int (x3)), (4, .int (x4))]) dX9_bestTechnique_55 (Nat.le_of_ble_eq_true rfl) rfl ?_
    refine mg_aload_n dX9_bestTechnique_57 rfl 1 rfl ?_
    refine mg_getR (j := 1) dX9_bestTechnique_58 kc_9 (Nat.le_of_ble_eq_true rfl) wd_232 rfl rfl h0.1.1 h0.1.2 h0.2.2.1.1 ?_
    refine mg_getR (j := 3) dX9_bestTechnique_61 kc_6 (Nat.le_of_ble_eq_true rfl) wd_75 rfl rfl h0.2.2.1.2.1.1 h0.2.2.1.2.1.2 h0.2.2.1.2.2.1.1 ?_
    obtain ⟨q4, hC, hk⟩ := h
    refine mc_Vi [] [] dX9_bestTechnique_64 wd_260 kiX0_size (Nat.le_of_ble_eq_true rfl) h0.2.2.1.2.2.1.2.1.1 h0.2.2.1.2.2.1.2.1.2 rfl (Nat.le_trans (Nat.le_of_ble_eq_true rfl) hd) hC (fun v4 M4 hq => ?_)
    replace h := hk v4 M4 hq
    refine mg_istore (ls' := [(6, .int (v4)), (5, .int (v3)), (0, .ref (k0)), (1, .int (x1)), (2, .int (x2)), (3, .int (x3)), (4, .int (x4))]) dX9_bestTechnique_67 (Nat.le_of_ble_eq_true rfl) rfl ?_
    refine mg_iload dX9_bestTechnique_69 1 rfl ?_
    refine mg_iload_n dX9_bestTechnique_71 rfl 4 rfl ?_
    refine mg_icmp_lt (tgt := 87) dX9_bestTechnique_72 (by decide) (fun hc => ?_) (fun hc => ?_)
    · replace h := h.1 hc
      refine mg_iload dX9_bestTechnique_87 6 rfl ?_
      refine mg_istore_n (ls' := [(1, .int (x4)), (6, .int (v4)), (5, .int (v3)), (0, .ref (k0)), (2, .int (x2)), (3, .int (x3)), (4, .int (x4))]) dX9_bestTechnique_89 rfl (Nat.le_of_ble_eq_true rfl) rfl ?_
      refine mg_iload dX9_bestTechnique_90 2 rfl ?_
      refine mg_istore_n (ls' := [(2, .int (v3)), (1, .int (x4)), (6, .int (v4)), (5, .int (v3)), (0, .ref (k0)), (3, .int (x3)), (4, .int (x4))]) dX9_bestTechnique_92 rfl (Nat.le_of_ble_eq_true rfl) rfl ?_
      refine mg_iload dX9_bestTechnique_93 2 rfl ?_
      refine mg_istore_n (ls' := [(3, .int (v4)), (2, .int (v3)), (1, .int (x4)), (6, .int (v4)), (5, .int (v3)), (0, .ref (k0)), (4, .int (x4))]) dX9_bestTechnique_95 rfl (Nat.le_of_ble_eq_true rfl) rfl ?_
      refine mg_iinc (v := x4 + 1) (ls' := [(4, .int (x4 + 1)), (3, .int (v4)), (2, .int (v3)), (1, .int (x4)), (6, .int (v4)), (5, .int (v3)), (0, .ref (k0))]) dX9_bestTechnique_96 6 rfl rfl (Nat.le_of_ble_eq_true rfl) rfl ?_
      refine mg_goto (tgt := 13) dX9_bestTechnique_99 (by decide) ?_
      exact mg_pick [6, 3, 2, 1, 0] rfl (h d hd ex)
    · replace h := h.2 hc
      refine mg_iload dX9_bestTechnique_75 1 rfl ?_
      refine mg_iload_n dX9_bestTechnique_77 rfl 4 rfl ?_
      refine mg_icmp_ne (tgt := 96) dX9_bestTechnique_78 (by decide) (fun hc => ?_) (fun hc => ?_)
      · replace h := h.1 hc
        refine mg_iinc (v := x4 + 1) (ls' := [(4, .int (x4 + 1)), (6, .int (v4)), (5, .int (v3)), (0, .ref (k0)), (1, .int (x1)), (2, .int (x2)), (3, .int (x3))]) dX9_bestTechnique_96 6 rfl rfl (Nat.le_of_ble_eq_true rfl) rfl ?_
        refine mg_goto (tgt := 13) dX9_bestTechnique_99 (by decide) ?_
        exact mg_pick [3, 4, 5, 6, 0] rfl (h d hd ex)
      · replace h := h.2 hc
        refine mg_iload dX9_bestTechnique_81 0 rfl ?_
        refine mg_iload_n dX9_bestTechnique_83 rfl 5 rfl ?_
        refine mg_icmp_ge (tgt := 96) dX9_bestTechnique_84 (by decide) (fun hc => ?_) (fun hc => ?_)
        · replace h := h.1 hc
          refine mg_iinc (v := x4 + 1) (ls' := [(4, .int (x4 + 1)), (6, .int (v4)), (5, .int (v3)), (0, .ref (k0)), (1, .int (x1)), (2, .int (x2)), (3, .int (x3))]) dX9_bestTechnique_96 6 rfl rfl (Nat.le_of_ble_eq_true rfl) rfl ?_
          refine mg_goto (tgt := 13) dX9_bestTechnique_99 (by decide) ?_
          exact mg_pick [3, 4, 5, 6, 0] rfl (h d hd ex)
        · replace h := h.2 hc
          refine mg_iload dX9_bestTechnique_87 6 rfl ?_
          refine mg_istore_n (ls' := [(1, .int (x4)), (6, .int (v4)), (5, .int (v3)), (0, .ref (k0)), (2, .int (x2)), (3, .int (x3)), (4, .int (x4))]) dX9_bestTechnique_89 rfl (Nat.le_of_ble_eq_true rfl) rfl ?_
          refine mg_iload dX9_bestTechnique_90 2 rfl ?_
          refine mg_istore_n (ls' := [(2, .int (v3)), (1, .int (x4)), (6, .int (v4)), (5, .int (v3)), (0, .ref (k0)), (3, .int (x3)), (4, .int (x4))]) dX9_bestTechnique_92 rfl (Nat.le_of_ble_eq_true rfl) rfl ?_
          refine mg_iload dX9_bestTechnique_93 2 rfl ?_
          refine mg_istore_n (ls' := [(3, .int (v4)), (2, .int (v3)), (1, .int (x4)), (6, .int (v4)), (5, .int (v3)), (0, .ref (k0)), (4, .int (x4))]) dX9_bestTechnique_95 rfl (Nat.le_of_ble_eq_true rfl) rfl ?_
          refine mg_iinc (v := x4 + 1) (ls' := [(4, .int (x4 + 1)), (3, .int (v4)), (2, .int (v3)), (1, .int (x4)), (6, .int (v4)), (5, .int (v3)), (0, .ref (k0))]) dX9_bestTechnique_96 6 rfl rfl (Nat.le_of_ble_eq_true rfl) rfl ?_
          refine mg_goto (tgt := 13) dX9_bestTechnique_99 (by decide) ?_
          exact mg_pick [6, 3, 2, 1, 0] rfl (h d hd ex)
theorem dX9_digest_0 : decode cX9_digest 0 = .ok (.ldc2_w 328, 3) := by decide +kernel
theorem dX9_digest_3 : decode cX9_digest 3 = .ok (.aload_n 0, 1) := by decide +kernel
theorem dX9_digest_4 : decode cX9_digest 4 = .ok (.getfield 12, 3) := by decide +kernel
theorem dX9_digest_7 : decode cX9_digest 7 = .ok (.getfield 62, 3) := by decide +kernel
theorem dX9_digest_10 : decode cX9_digest 10 = .ok (.i2l, 1) := by decide +kernel
theorem dX9_digest_11 : decode cX9_digest 11 = .ok (.invokestatic 330, 3) := by decide +kernel
theorem dX9_digest_14 : decode cX9_digest 14 = .ok (.lstore_n 1, 1) := by decide +kernel
theorem dX9_digest_15 : decode cX9_digest 15 = .ok (.lload_n 1, 1) := by decide +kernel
theorem dX9_digest_16 : decode cX9_digest 16 = .ok (.aload_n 0, 1) := by decide +kernel
theorem dX9_digest_17 : decode cX9_digest 17 = .ok (.getfield 12, 3) := by decide +kernel
theorem dX9_digest_20 : decode cX9_digest 20 = .ok (.getfield 217, 3) := by decide +kernel
theorem dX9_digest_23 : decode cX9_digest 23 = .ok (.i2l, 1) := by decide +kernel
theorem dX9_digest_24 : decode cX9_digest 24 = .ok (.invokestatic 330, 3) := by decide +kernel
theorem dX9_digest_27 : decode cX9_digest 27 = .ok (.lstore_n 1, 1) := by decide +kernel
theorem dX9_digest_28 : decode cX9_digest 28 = .ok (.lload_n 1, 1) := by decide +kernel
theorem dX9_digest_29 : decode cX9_digest 29 = .ok (.aload_n 0, 1) := by decide +kernel
theorem dX9_digest_30 : decode cX9_digest 30 = .ok (.getfield 12, 3) := by decide +kernel
theorem dX9_digest_33 : decode cX9_digest 33 = .ok (.getfield 119, 3) := by decide +kernel
theorem dX9_digest_36 : decode cX9_digest 36 = .ok (.invokevirtual 128, 3) := by decide +kernel
theorem dX9_digest_39 : decode cX9_digest 39 = .ok (.ifCond .eq 7, 3) := by decide +kernel
theorem dX9_digest_42 : decode cX9_digest 42 = .ok (.lconst 1, 1) := by decide +kernel
theorem dX9_digest_43 : decode cX9_digest 43 = .ok (.goto 4, 3) := by decide +kernel
theorem dX9_digest_46 : decode cX9_digest 46 = .ok (.lconst 0, 1) := by decide +kernel
theorem dX9_digest_47 : decode cX9_digest 47 = .ok (.invokestatic 330, 3) := by decide +kernel
theorem dX9_digest_50 : decode cX9_digest 50 = .ok (.lstore_n 1, 1) := by decide +kernel
theorem dX9_digest_51 : decode cX9_digest 51 = .ok (.lload_n 1, 1) := by decide +kernel
theorem dX9_digest_52 : decode cX9_digest 52 = .ok (.aload_n 0, 1) := by decide +kernel
theorem dX9_digest_53 : decode cX9_digest 53 = .ok (.getfield 12, 3) := by decide +kernel
theorem dX9_digest_56 : decode cX9_digest 56 = .ok (.getfield 119, 3) := by decide +kernel
theorem dX9_digest_59 : decode cX9_digest 59 = .ok (.invokestatic 334, 3) := by decide +kernel
theorem dX9_digest_62 : decode cX9_digest 62 = .ok (.lstore_n 1, 1) := by decide +kernel
theorem dX9_digest_63 : decode cX9_digest 63 = .ok (.lload_n 1, 1) := by decide +kernel
theorem dX9_digest_64 : decode cX9_digest 64 = .ok (.aload_n 0, 1) := by decide +kernel
theorem dX9_digest_65 : decode cX9_digest 65 = .ok (.getfield 12, 3) := by decide +kernel
theorem dX9_digest_68 : decode cX9_digest 68 = .ok (.getfield 88, 3) := by decide +kernel
theorem dX9_digest_71 : decode cX9_digest 71 = .ok (.invokestatic 334, 3) := by decide +kernel
theorem dX9_digest_74 : decode cX9_digest 74 = .ok (.lstore_n 1, 1) := by decide +kernel
theorem dX9_digest_75 : decode cX9_digest 75 = .ok (.iconst 0, 1) := by decide +kernel
theorem dX9_digest_76 : decode cX9_digest 76 = .ok (.istore_n 3, 1) := by decide +kernel
theorem dX9_digest_77 : decode cX9_digest 77 = .ok (.iload_n 3, 1) := by decide +kernel
theorem dX9_digest_78 : decode cX9_digest 78 = .ok (.aload_n 0, 1) := by decide +kernel
theorem dX9_digest_79 : decode cX9_digest 79 = .ok (.getfield 12, 3) := by decide +kernel
theorem dX9_digest_82 : decode cX9_digest 82 = .ok (.getfield 62, 3) := by decide +kernel
theorem dX9_digest_85 : decode cX9_digest 85 = .ok (.if_icmp .ge 35, 3) := by decide +kernel
theorem dX9_digest_88 : decode cX9_digest 88 = .ok (.lload_n 1, 1) := by decide +kernel
theorem dX9_digest_89 : decode cX9_digest 89 = .ok (.aload_n 0, 1) := by decide +kernel
theorem dX9_digest_90 : decode cX9_digest 90 = .ok (.getfield 12, 3) := by decide +kernel
theorem dX9_digest_93 : decode cX9_digest 93 = .ok (.iload_n 3, 1) := by decide +kernel
theorem dX9_digest_94 : decode cX9_digest 94 = .ok (.invokevirtual 135, 3) := by decide +kernel
theorem dX9_digest_97 : decode cX9_digest 97 = .ok (.i2l, 1) := by decide +kernel
theorem dX9_digest_98 : decode cX9_digest 98 = .ok (.invokestatic 330, 3) := by decide +kernel
theorem dX9_digest_101 : decode cX9_digest 101 = .ok (.aload_n 0, 1) := by decide +kernel
theorem dX9_digest_102 : decode cX9_digest 102 = .ok (.getfield 12, 3) := by decide +kernel
theorem dX9_digest_105 : decode cX9_digest 105 = .ok (.iload_n 3, 1) := by decide +kernel
theorem dX9_digest_106 : decode cX9_digest 106 = .ok (.invokevirtual 138, 3) := by decide +kernel
theorem dX9_digest_109 : decode cX9_digest 109 = .ok (.i2l, 1) := by decide +kernel
theorem dX9_digest_110 : decode cX9_digest 110 = .ok (.invokestatic 330, 3) := by decide +kernel
theorem dX9_digest_113 : decode cX9_digest 113 = .ok (.lstore_n 1, 1) := by decide +kernel
theorem dX9_digest_114 : decode cX9_digest 114 = .ok (.iinc 3 1, 3) := by decide +kernel
theorem dX9_digest_117 : decode cX9_digest 117 = .ok (.goto (-40), 3) := by decide +kernel
theorem dX9_digest_120 : decode cX9_digest 120 = .ok (.lload_n 1, 1) := by decide +kernel
theorem dX9_digest_121 : decode cX9_digest 121 = .ok (.aload_n 0, 1) := by decide +kernel
theorem dX9_digest_122 : decode cX9_digest 122 = .ok (.getfield 12, 3) := by decide +kernel
theorem dX9_digest_125 : decode cX9_digest 125 = .ok (.getfield 287, 3) := by decide +kernel
theorem dX9_digest_128 : decode cX9_digest 128 = .ok (.i2l, 1) := by decide +kernel
theorem dX9_digest_129 : decode cX9_digest 129 = .ok (.invokestatic 330, 3) := by decide +kernel
theorem dX9_digest_132 : decode cX9_digest 132 = .ok (.lstore_n 1, 1) := by decide +kernel
theorem dX9_digest_133 : decode cX9_digest 133 = .ok (.iconst 0, 1) := by decide +kernel
theorem dX9_digest_134 : decode cX9_digest 134 = .ok (.istore_n 3, 1) := by decide +kernel
theorem dX9_digest_135 : decode cX9_digest 135 = .ok (.iload_n 3, 1) := by decide +kernel
theorem dX9_digest_136 : decode cX9_digest 136 = .ok (.aload_n 0, 1) := by decide +kernel
theorem dX9_digest_137 : decode cX9_digest 137 = .ok (.getfield 12, 3) := by decide +kernel
theorem dX9_digest_140 : decode cX9_digest 140 = .ok (.getfield 287, 3) := by decide +kernel
theorem dX9_digest_143 : decode cX9_digest 143 = .ok (.if_icmp .ge 34, 3) := by decide +kernel
theorem dX9_digest_146 : decode cX9_digest 146 = .ok (.lload_n 1, 1) := by decide +kernel
theorem dX9_digest_147 : decode cX9_digest 147 = .ok (.aload_n 0, 1) := by decide +kernel
theorem dX9_digest_148 : decode cX9_digest 148 = .ok (.getfield 12, 3) := by decide +kernel
theorem dX9_digest_151 : decode cX9_digest 151 = .ok (.iload_n 3, 1) := by decide +kernel
theorem dX9_digest_152 : decode cX9_digest 152 = .ok (.invokevirtual 297, 3) := by decide +kernel
theorem dX9_digest_155 : decode cX9_digest 155 = .ok (.invokestatic 338, 3) := by decide +kernel
theorem dX9_digest_158 : decode cX9_digest 158 = .ok (.aload_n 0, 1) := by decide +kernel
theorem dX9_digest_159 : decode cX9_digest 159 = .ok (.getfield 12, 3) := by decide +kernel
theorem dX9_digest_162 : decode cX9_digest 162 = .ok (.iload_n 3, 1) := by decide +kernel
theorem dX9_digest_163 : decode cX9_digest 163 = .ok (.invokevirtual 294, 3) := by decide +kernel
theorem dX9_digest_166 : decode cX9_digest 166 = .ok (.i2l, 1) := by decide +kernel
theorem dX9_digest_167 : decode cX9_digest 167 = .ok (.invokestatic 330, 3) := by decide +kernel
theorem dX9_digest_170 : decode cX9_digest 170 = .ok (.lstore_n 1, 1) := by decide +kernel
theorem dX9_digest_171 : decode cX9_digest 171 = .ok (.iinc 3 1, 3) := by decide +kernel
theorem dX9_digest_174 : decode cX9_digest 174 = .ok (.goto (-39), 3) := by decide +kernel
theorem dX9_digest_177 : decode cX9_digest 177 = .ok (.iconst 0, 1) := by decide +kernel
theorem dX9_digest_178 : decode cX9_digest 178 = .ok (.istore_n 3, 1) := by decide +kernel
theorem dX9_digest_179 : decode cX9_digest 179 = .ok (.iload_n 3, 1) := by decide +kernel
theorem dX9_digest_180 : decode cX9_digest 180 = .ok (.bipush 10, 2) := by decide +kernel
theorem dX9_digest_182 : decode cX9_digest 182 = .ok (.if_icmp .ge 23, 3) := by decide +kernel
theorem dX9_digest_185 : decode cX9_digest 185 = .ok (.lload_n 1, 1) := by decide +kernel
theorem dX9_digest_186 : decode cX9_digest 186 = .ok (.aload_n 0, 1) := by decide +kernel
theorem dX9_digest_187 : decode cX9_digest 187 = .ok (.getfield 12, 3) := by decide +kernel
theorem dX9_digest_190 : decode cX9_digest 190 = .ok (.iload_n 3, 1) := by decide +kernel
theorem dX9_digest_191 : decode cX9_digest 191 = .ok (.invokevirtual 220, 3) := by decide +kernel
theorem dX9_digest_194 : decode cX9_digest 194 = .ok (.i2l, 1) := by decide +kernel
theorem dX9_digest_195 : decode cX9_digest 195 = .ok (.invokestatic 330, 3) := by decide +kernel
theorem dX9_digest_198 : decode cX9_digest 198 = .ok (.lstore_n 1, 1) := by decide +kernel
theorem dX9_digest_199 : decode cX9_digest 199 = .ok (.iinc 3 1, 3) := by decide +kernel
theorem dX9_digest_202 : decode cX9_digest 202 = .ok (.goto (-23), 3) := by decide +kernel
theorem dX9_digest_205 : decode cX9_digest 205 = .ok (.lload_n 1, 1) := by decide +kernel
theorem dX9_digest_206 : decode cX9_digest 206 = .ok (.aload_n 0, 1) := by decide +kernel
theorem dX9_digest_207 : decode cX9_digest 207 = .ok (.getfield 30, 3) := by decide +kernel
theorem dX9_digest_210 : decode cX9_digest 210 = .ok (.invokevirtual 160, 3) := by decide +kernel
theorem dX9_digest_213 : decode cX9_digest 213 = .ok (.i2l, 1) := by decide +kernel
theorem dX9_digest_214 : decode cX9_digest 214 = .ok (.invokestatic 330, 3) := by decide +kernel
theorem dX9_digest_217 : decode cX9_digest 217 = .ok (.aload_n 0, 1) := by decide +kernel
theorem dX9_digest_218 : decode cX9_digest 218 = .ok (.getfield 23, 3) := by decide +kernel
theorem dX9_digest_221 : decode cX9_digest 221 = .ok (.i2l, 1) := by decide +kernel
theorem dX9_digest_222 : decode cX9_digest 222 = .ok (.invokestatic 330, 3) := by decide +kernel
theorem dX9_digest_225 : decode cX9_digest 225 = .ok (.lreturn, 1) := by decide +kernel
abbrev mtX9_digest : mj_T := (yX9_digest.cls, cX9_digest, 4, (some .long), mj_no, yX9_digest.name)
abbrev kX9_digest (k0 : Nat) (g : mj_S) (M : mj_M) (q : Int64 → mj_M → Prop) : Prop := mj_CL yX9_digest (.code yX9_digest cX9_digest 4 (some .long)) 4 [.ref (k0)] g M q
theorem kiX9_digest : mj_cV yX9_digest cX9_digest 4 (some .long) 0 := ⟨⟨wd_638, wd_639, wd_1, wd_640⟩, ⟨by decide +kernel, by decide +kernel, by decide +kernel⟩, Nat.le_of_ble_eq_true rfl⟩
def LX9_digest_77 (k0 : Nat) (x1 : Int64) (x3 : Int32) (g : mj_S) (M : mj_M) (q : Int64 → mj_M → Prop) : Prop := ∀ d, 4 ≤ d → ∀ ex : Bool, mj_G mtX9_digest (mj_rm d 0 0) (mj_Fi (mj_qL g q) mj_x0 0 0) ex 0 0 77 [(0, .ref (k0)), (1, .long (x1)), (3, .int (x3))] [] g M
def LX9_digest_135 (k0 : Nat) (x1 : Int64) (x3 : Int32) (g : mj_S) (M : mj_M) (q : Int64 → mj_M → Prop) : Prop := ∀ d, 4 ≤ d → ∀ ex : Bool, mj_G mtX9_digest (mj_rm d 0 0) (mj_Fi (mj_qL g q) mj_x0 0 0) ex 0 0 135 [(0, .ref (k0)), (1, .long (x1)), (3, .int (x3))] [] g M
def LX9_digest_179 (k0 : Nat) (x1 : Int64) (x3 : Int32) (g : mj_S) (M : mj_M) (q : Int64 → mj_M → Prop) : Prop := ∀ d, 4 ≤ d → ∀ ex : Bool, mj_G mtX9_digest (mj_rm d 0 0) (mj_Fi (mj_qL g q) mj_x0 0 0) ex 0 0 179 [(0, .ref (k0)), (1, .long (x1)), (3, .int (x3))] [] g M
theorem eX9_digest {k0 : Nat} {g : mj_S} {M : mj_M} {q : Int64 → mj_M → Prop} (h0 : is9 g k0) (h : ∃ (q1 : Int64 → mj_M → Prop), kX9_mixed ((3079 : Int64)) (Int32.toInt64 ((M).1 (k0 + 1) 0)) g (M) q1 ∧ ∀ (v1 : Int64) (M1 : mj_M), q1 v1 M1 → (∃ (q2 : Int64 → mj_M → Prop), kX9_mixed (v1) (Int32.toInt64 ((M1).1 (k0 + 1) 1)) g (M1) q2 ∧ ∀ (v2 : Int64) (M2 : mj_M), q2 v2 M2 → (∃ (q3 : Int32 → mj_M → Prop), kX0_isContradictory (k0 + 1 + 1) g (M2) q3 ∧ ∀ (v3 : Int32) (M3 : mj_M), q3 v3 M3 → (((v3 : Int32) = 0 → ∃ (q4 : Int64 → mj_M → Prop), kX9_mixed (v2) ((0 : Int64)) g (M3) q4 ∧ ∀ (v4 : Int64) (M4 : mj_M), q4 v4 M4 → (∃ (q5 : Int64 → mj_M → Prop), kX9_mixedClauses (v4) (k0 + 1 + 1) g (M4) q5 ∧ ∀ (v5 : Int64) (M5 : mj_M), q5 v5 M5 → (∃ (q6 : Int64 → mj_M → Prop), kX9_mixedClauses (v5) (k0 + 1 + 3) g (M5) q6 ∧ ∀ (v6 : Int64) (M6 : mj_M), q6 v6 M6 → (LX9_digest_77 k0 (v6) (0) g (M6) q)))) ∧ (¬ (v3 : Int32) = 0 → ∃ (q7 : Int64 → mj_M → Prop), kX9_mixed (v2) ((1 : Int64)) g (M3) q7 ∧ ∀ (v7 : Int64) (M7 : mj_M), q7 v7 M7 → (∃ (q8 : Int64 → mj_M → Prop), kX9_mixedClauses (v7) (k0 + 1 + 1) g (M7) q8 ∧ ∀ (v8 : Int64) (M8 : mj_M), q8 v8 M8 → (∃ (q9 : Int64 → mj_M → Prop), kX9_mixedClauses (v8) (k0 + 1 + 3) g (M8) q9 ∧ ∀ (v9 : Int64) (M9 : mj_M), q9 v9 M9 → (LX9_digest_77 k0 (v9) (0) g (M9) q)))))))) : kX9_digest (k0) g M q := by
  intro d hd; refine mj_enter (by decide +kernel) (Nat.le_of_ble_eq_true rfl) ?_
  generalize (false : Bool) = ex
  show mj_G mtX9_digest (mj_rm d 0 0) (mj_Fi (mj_qL g q) mj_x0 0 0) ex 0 0 0 [(0, .ref (k0))] [] g M
  refine mg_ldc2 (v := 3079) dX9_digest_0 wd_641 ?_
  refine mg_aload_n dX9_digest_3 rfl 0 rfl ?_
  refine mg_getR (j := 0) dX9_digest_4 kc_9 (Nat.le_of_ble_eq_true rfl) wd_231 rfl rfl h0.1.1 h0.1.2 h0.2.1.1 ?_
  refine mg_getI (j := 0) dX9_digest_7 kc_6 (Nat.le_of_ble_eq_true rfl) wd_65 rfl rfl h0.2.1.2.1.1 h0.2.1.2.1.2 rfl ?_
  refine mg_i2l dX9_digest_10 ?_
  obtain ⟨q1, hC, hk⟩ := h
  refine mc_Sl [.long ((3079 : Int64)), .long (Int32.toInt64 ((M).1 (k0 + 1) 0))] [] dX9_digest_11 wd_642 kiX9_mixed (Nat.le_of_ble_eq_true rfl) (Nat.le_trans (Nat.le_of_ble_eq_true rfl) hd) hC (fun v1 M1 hq => ?_)
  replace h := hk v1 M1 hq
  refine mg_lstore_n (ls' := [(1, .long (v1)), (0, .ref (k0))]) dX9_digest_14 rfl (Nat.le_of_ble_eq_true rfl) rfl ?_
  refine mg_lload_n dX9_digest_15 rfl 0 rfl ?_
  refine mg_aload_n dX9_digest_16 rfl 1 rfl ?_
  refine mg_getR (j := 0) dX9_digest_17 kc_9 (Nat.le_of_ble_eq_true rfl) wd_231 rfl rfl h0.1.1 h0.1.2 h0.2.1.1 ?_
  refine mg_getI (j := 1) dX9_digest_20 kc_6 (Nat.le_of_ble_eq_true rfl) wd_69 rfl rfl h0.2.1.2.1.1 h0.2.1.2.1.2 rfl ?_
  refine mg_i2l dX9_digest_23 ?_
  obtain ⟨q2, hC, hk⟩ := h
  refine mc_Sl [.long (v1), .long (Int32.toInt64 ((M1).1 (k0 + 1) 1))] [] dX9_digest_24 wd_642 kiX9_mixed (Nat.le_of_ble_eq_true rfl) (Nat.le_trans (Nat.le_of_ble_eq_true rfl) hd) hC (fun v2 M2 hq => ?_)
  replace h := hk v2 M2 hq
  refine mg_lstore_n (ls' := [(1, .long (v2)), (0, .ref (k0))]) dX9_digest_27 rfl (Nat.le_of_ble_eq_true rfl) rfl ?_
  refine mg_lload_n dX9_digest_28 rfl 0 rfl ?_
  refine mg_aload_n dX9_digest_29 rfl 1 rfl ?_
  refine mg_getR (j := 0) dX9_digest_30 kc_9 (Nat.le_of_ble_eq_true rfl) wd_231 rfl rfl h0.1.1 h0.1.2 h0.2.1.1 ?_
  refine mg_getR (j := 3) dX9_digest_33 kc_6 (Nat.le_of_ble_eq_true rfl) wd_75 rfl rfl h0.2.1.2.1.1 h0.2.1.2.1.2 h0.2.1.2.2.1.1 ?_
  obtain ⟨q3, hC, hk⟩ := h
  refine mc_Vi [] [.long (v2)] dX9_digest_36 wd_286 kiX0_isContradictory (Nat.le_of_ble_eq_true rfl) h0.2.1.2.2.1.2.1.1 h0.2.1.2.2.1.2.1.2 rfl (Nat.le_trans (Nat.le_of_ble_eq_true rfl) hd) hC (fun v3 M3 hq => ?_)
  replace h := hk v3 M3 hq
  refine mg_if_eq (tgt := 46) dX9_digest_39 (by decide) (fun hc => ?_) (fun hc => ?_)
  · replace h := h.1 hc
    refine mg_lconst (v := 0) dX9_digest_46 (by decide) ?_
    obtain ⟨q4, hC, hk⟩ := h
    refine mc_Sl [.long (v2), .long ((0 : Int64))] [] dX9_digest_47 wd_642 kiX9_mixed (Nat.le_of_ble_eq_true rfl) (Nat.le_trans (Nat.le_of_ble_eq_true rfl) hd) hC (fun v4 M4 hq => ?_)
    replace h := hk v4 M4 hq
    refine mg_lstore_n (ls' := [(1, .long (v4)), (0, .ref (k0))]) dX9_digest_50 rfl (Nat.le_of_ble_eq_true rfl) rfl ?_
    refine mg_lload_n dX9_digest_51 rfl 0 rfl ?_
    refine mg_aload_n dX9_digest_52 rfl 1 rfl ?_
    refine mg_getR (j := 0) dX9_digest_53 kc_9 (Nat.le_of_ble_eq_true rfl) wd_231 rfl rfl h0.1.1 h0.1.2 h0.2.1.1 ?_
    refine mg_getR (j := 3) dX9_digest_56 kc_6 (Nat.le_of_ble_eq_true rfl) wd_75 rfl rfl h0.2.1.2.1.1 h0.2.1.2.1.2 h0.2.1.2.2.1.1 ?_
    obtain ⟨q5, hC, hk⟩ := h
    refine mc_Sl [.long (v4), .ref (k0 + 1 + 1)] [] dX9_digest_59 wd_646 kiX9_mixedClauses (Nat.le_of_ble_eq_true rfl) (Nat.le_trans (Nat.le_of_ble_eq_true rfl) hd) hC (fun v5 M5 hq => ?_)
    replace h := hk v5 M5 hq
    refine mg_lstore_n (ls' := [(1, .long (v5)), (0, .ref (k0))]) dX9_digest_62 rfl (Nat.le_of_ble_eq_true rfl) rfl ?_
    refine mg_lload_n dX9_digest_63 rfl 0 rfl ?_
    refine mg_aload_n dX9_digest_64 rfl 1 rfl ?_
    refine mg_getR (j := 0) dX9_digest_65 kc_9 (Nat.le_of_ble_eq_true rfl) wd_231 rfl rfl h0.1.1 h0.1.2 h0.2.1.1 ?_
    refine mg_getR (j := 4) dX9_digest_68 kc_6 (Nat.le_of_ble_eq_true rfl) wd_77 rfl rfl h0.2.1.2.1.1 h0.2.1.2.1.2 h0.2.1.2.2.2.1.1 ?_
    obtain ⟨q6, hC, hk⟩ := h
    refine mc_Sl [.long (v5), .ref (k0 + 1 + 3)] [] dX9_digest_71 wd_646 kiX9_mixedClauses (Nat.le_of_ble_eq_true rfl) (Nat.le_trans (Nat.le_of_ble_eq_true rfl) hd) hC (fun v6 M6 hq => ?_)
    replace h := hk v6 M6 hq
    refine mg_lstore_n (ls' := [(1, .long (v6)), (0, .ref (k0))]) dX9_digest_74 rfl (Nat.le_of_ble_eq_true rfl) rfl ?_
    refine mg_iconst (v := 0) dX9_digest_75 (by decide) ?_
    refine mg_istore_n (ls' := [(3, .int (0)), (1, .long (v6)), (0, .ref (k0))]) dX9_digest_76 rfl (Nat.le_of_ble_eq_true rfl) rfl ?_
    exact mg_pick [2, 1, 0] rfl (h d hd ex)
  · replace h := h.2 hc
    refine mg_lconst (v := 1) dX9_digest_42 (by decide) ?_
    refine mg_goto (tgt := 47) dX9_digest_43 (by decide) ?_
    obtain ⟨q7, hC, hk⟩ := h
    refine mc_Sl [.long (v2), .long ((1 : Int64))] [] dX9_digest_47 wd_642 kiX9_mixed (Nat.le_of_ble_eq_true rfl) (Nat.le_trans (Nat.le_of_ble_eq_true rfl) hd) hC (fun v7 M7 hq => ?_)
    replace h := hk v7 M7 hq
    refine mg_lstore_n (ls' := [(1, .long (v7)), (0, .ref (k0))]) dX9_digest_50 rfl (Nat.le_of_ble_eq_true rfl) rfl ?_
    refine mg_lload_n dX9_digest_51 rfl 0 rfl ?_
    refine mg_aload_n dX9_digest_52 rfl 1 rfl ?_
    refine mg_getR (j := 0) dX9_digest_53 kc_9 (Nat.le_of_ble_eq_true rfl) wd_231 rfl rfl h0.1.1 h0.1.2 h0.2.1.1 ?_
    refine mg_getR (j := 3) dX9_digest_56 kc_6 (Nat.le_of_ble_eq_true rfl) wd_75 rfl rfl h0.2.1.2.1.1 h0.2.1.2.1.2 h0.2.1.2.2.1.1 ?_
    obtain ⟨q8, hC, hk⟩ := h
    refine mc_Sl [.long (v7), .ref (k0 + 1 + 1)] [] dX9_digest_59 wd_646 kiX9_mixedClauses (Nat.le_of_ble_eq_true rfl) (Nat.le_trans (Nat.le_of_ble_eq_true rfl) hd) hC (fun v8 M8 hq => ?_)
    replace h := hk v8 M8 hq
    refine mg_lstore_n (ls' := [(1, .long (v8)), (0, .ref (k0))]) dX9_digest_62 rfl (Nat.le_of_ble_eq_true rfl) rfl ?_
    refine mg_lload_n dX9_digest_63 rfl 0 rfl ?_
    refine mg_aload_n dX9_digest_64 rfl 1 rfl ?_
    refine mg_getR (j := 0) dX9_digest_65 kc_9 (Nat.le_of_ble_eq_true rfl) wd_231 rfl rfl h0.1.1 h0.1.2 h0.2.1.1 ?_
    refine mg_getR (j := 4) dX9_digest_68 kc_6 (Nat.le_of_ble_eq_true rfl) wd_77 rfl rfl h0.2.1.2.1.1 h0.2.1.2.1.2 h0.2.1.2.2.2.1.1 ?_
    obtain ⟨q9, hC, hk⟩ := h
    refine mc_Sl [.long (v8), .ref (k0 + 1 + 3)] [] dX9_digest_71 wd_646 kiX9_mixedClauses (Nat.le_of_ble_eq_true rfl) (Nat.le_trans (Nat.le_of_ble_eq_true rfl) hd) hC (fun v9 M9 hq => ?_)
    replace h := hk v9 M9 hq
    refine mg_lstore_n (ls' := [(1, .long (v9)), (0, .ref (k0))]) dX9_digest_74 rfl (Nat.le_of_ble_eq_true rfl) rfl ?_
    refine mg_iconst (v := 0) dX9_digest_75 (by decide) ?_
    refine mg_istore_n (ls' := [(3, .int (0)), (1, .long (v9)), (0, .ref (k0))]) dX9_digest_76 rfl (Nat.le_of_ble_eq_true rfl) rfl ?_
    exact mg_pick [2, 1, 0] rfl (h d hd ex)
theorem bX9_digest_77 {k0 : Nat} {x1 : Int64} {x3 : Int32} {g : mj_S} {M : mj_M} {q : Int64 → mj_M → Prop} (h0 : is9 g k0) (h : (((M).1 (k0 + 1) 0 : Int32) ≤ (x3) → ∃ (q1 : Int64 → mj_M → Prop), kX9_mixed (x1) (Int32.toInt64 ((M).1 (k0 + 1) 2)) g (M) q1 ∧ ∀ (v1 : Int64) (M1 : mj_M), q1 v1 M1 → (LX9_digest_135 k0 (v1) (0) g (M1) q)) ∧ (¬ ((M).1 (k0 + 1) 0 : Int32) ≤ (x3) → ∃ (q2 : Int32 → mj_M → Prop), kX6_statusOf (k0 + 1) (x3) g (M) q2 ∧ ∀ (v2 : Int32) (M2 : mj_M), q2 v2 M2 → (∃ (q3 : Int64 → mj_M → Prop), kX9_mixed (x1) (Int32.toInt64 (v2)) g (M2) q3 ∧ ∀ (v3 : Int64) (M3 : mj_M), q3 v3 M3 → (∃ (q4 : Int32 → mj_M → Prop), kX6_knownOf (k0 + 1) (x3) g (M3) q4 ∧ ∀ (v4 : Int32) (M4 : mj_M), q4 v4 M4 → (∃ (q5 : Int64 → mj_M → Prop), kX9_mixed (v3) (Int32.toInt64 (v4)) g (M4) q5 ∧ ∀ (v5 : Int64) (M5 : mj_M), q5 v5 M5 → (LX9_digest_77 k0 (v5) (x3 + 1) g (M5) q)))))) : LX9_digest_77 k0 x1 x3 g M q := by
  intro d hd ex
  refine mg_iload_n dX9_digest_77 rfl 2 rfl ?_
  refine mg_aload_n dX9_digest_78 rfl 0 rfl ?_
  refine mg_getR (j := 0) dX9_digest_79 kc_9 (Nat.le_of_ble_eq_true rfl) wd_231 rfl rfl h0.1.1 h0.1.2 h0.2.1.1 ?_
  refine mg_getI (j := 0) dX9_digest_82 kc_6 (Nat.le_of_ble_eq_true rfl) wd_65 rfl rfl h0.2.1.2.1.1 h0.2.1.2.1.2 rfl ?_
  refine mg_icmp_ge (tgt := 120) dX9_digest_85 (by decide) (fun hc => ?_) (fun hc => ?_)
  · replace h := h.1 hc
    refine mg_lload_n dX9_digest_120 rfl 1 rfl ?_
    refine mg_aload_n dX9_digest_121 rfl 0 rfl ?_
    refine mg_getR (j := 0) dX9_digest_122 kc_9 (Nat.le_of_ble_eq_true rfl) wd_231 rfl rfl h0.1.1 h0.1.2 h0.2.1.1 ?_
    refine mg_getI (j := 2) dX9_digest_125 kc_6 (Nat.le_of_ble_eq_true rfl) wd_72 rfl rfl h0.2.1.2.1.1 h0.2.1.2.1.2 rfl ?_
    refine mg_i2l dX9_digest_128 ?_
    obtain ⟨q1, hC, hk⟩ := h
    refine mc_Sl [.long (x1), .long (Int32.toInt64 ((M).1 (k0 + 1) 2))] [] dX9_digest_129 wd_642 kiX9_mixed (Nat.le_of_ble_eq_true rfl) (Nat.le_trans (Nat.le_of_ble_eq_true rfl) hd) hC (fun v1 M1 hq => ?_)
    replace h := hk v1 M1 hq
    refine mg_lstore_n (ls' := [(1, .long (v1)), (0, .ref (k0)), (3, .int (x3))]) dX9_digest_132 rfl (Nat.le_of_ble_eq_true rfl) rfl ?_
    refine mg_iconst (v := 0) dX9_digest_133 (by decide) ?_
    refine mg_istore_n (ls' := [(3, .int (0)), (1, .long (v1)), (0, .ref (k0))]) dX9_digest_134 rfl (Nat.le_of_ble_eq_true rfl) rfl ?_
    exact mg_pick [2, 1, 0] rfl (h d hd ex)
  · replace h := h.2 hc
    refine mg_lload_n dX9_digest_88 rfl 1 rfl ?_
    refine mg_aload_n dX9_digest_89 rfl 0 rfl ?_
    refine mg_getR (j := 0) dX9_digest_90 kc_9 (Nat.le_of_ble_eq_true rfl) wd_231 rfl rfl h0.1.1 h0.1.2 h0.2.1.1 ?_
    refine mg_iload_n dX9_digest_93 rfl 2 rfl ?_
    obtain ⟨q2, hC, hk⟩ := h
    refine mc_Vi [.int (x3)] [.long (x1)] dX9_digest_94 wd_658 kiX6_statusOf (Nat.le_of_ble_eq_true rfl) h0.2.1.2.1.1 h0.2.1.2.1.2 rfl (Nat.le_trans (Nat.le_of_ble_eq_true rfl) hd) hC (fun v2 M2 hq => ?_)
    replace h := hk v2 M2 hq
    refine mg_i2l dX9_digest_97 ?_
    obtain ⟨q3, hC, hk⟩ := h
    refine mc_Sl [.long (x1), .long (Int32.toInt64 (v2))] [] dX9_digest_98 wd_642 kiX9_mixed (Nat.le_of_ble_eq_true rfl) (Nat.le_trans (Nat.le_of_ble_eq_true rfl) hd) hC (fun v3 M3 hq => ?_)
    replace h := hk v3 M3 hq
    refine mg_aload_n dX9_digest_101 rfl 0 rfl ?_
    refine mg_getR (j := 0) dX9_digest_102 kc_9 (Nat.le_of_ble_eq_true rfl) wd_231 rfl rfl h0.1.1 h0.1.2 h0.2.1.1 ?_
    refine mg_iload_n dX9_digest_105 rfl 2 rfl ?_
    obtain ⟨q4, hC, hk⟩ := h
    refine mc_Vi [.int (x3)] [.long (v3)] dX9_digest_106 wd_659 kiX6_knownOf (Nat.le_of_ble_eq_true rfl) h0.2.1.2.1.1 h0.2.1.2.1.2 rfl (Nat.le_trans (Nat.le_of_ble_eq_true rfl) hd) hC (fun v4 M4 hq => ?_)
    replace h := hk v4 M4 hq
    refine mg_i2l dX9_digest_109 ?_
    obtain ⟨q5, hC, hk⟩ := h
    refine mc_Sl [.long (v3), .long (Int32.toInt64 (v4))] [] dX9_digest_110 wd_642 kiX9_mixed (Nat.le_of_ble_eq_true rfl) (Nat.le_trans (Nat.le_of_ble_eq_true rfl) hd) hC (fun v5 M5 hq => ?_)
    replace h := hk v5 M5 hq
    refine mg_lstore_n (ls' := [(1, .long (v5)), (0, .ref (k0)), (3, .int (x3))]) dX9_digest_113 rfl (Nat.le_of_ble_eq_true rfl) rfl ?_
    refine mg_iinc (v := x3 + 1) (ls' := [(3, .int (x3 + 1)), (1, .long (v5)), (0, .ref (k0))]) dX9_digest_114 2 rfl rfl (Nat.le_of_ble_eq_true rfl) rfl ?_
    refine mg_goto (tgt := 77) dX9_digest_117 (by decide) ?_
    exact mg_pick [2, 1, 0] rfl (h d hd ex)
theorem bX9_digest_135 {k0 : Nat} {x1 : Int64} {x3 : Int32} {g : mj_S} {M : mj_M} {q : Int64 → mj_M → Prop} (h0 : is9 g k0) (h : (((M).1 (k0 + 1) 2 : Int32) ≤ (x3) → LX9_digest_179 k0 (x1) (0) g (M) q) ∧ (¬ ((M).1 (k0 + 1) 2 : Int32) ≤ (x3) → ∃ (q1 : Int32 → mj_M → Prop), kX6_setOfRow (k0 + 1) (x3) g (M) q1 ∧ ∀ (v1 : Int32) (M1 : mj_M), q1 v1 M1 → (∃ (q2 : Int64 → mj_M → Prop), kX9_mixedSet (x1) (v1) g (M1) q2 ∧ ∀ (v2 : Int64) (M2 : mj_M), q2 v2 M2 → (∃ (q3 : Int32 → mj_M → Prop), kX6_witnessOfRow (k0 + 1) (x3) g (M2) q3 ∧ ∀ (v3 : Int32) (M3 : mj_M), q3 v3 M3 → (∃ (q4 : Int64 → mj_M → Prop), kX9_mixed (v2) (Int32.toInt64 (v3)) g (M3) q4 ∧ ∀ (v4 : Int64) (M4 : mj_M), q4 v4 M4 → (LX9_digest_135 k0 (v4) (x3 + 1) g (M4) q)))))) : LX9_digest_135 k0 x1 x3 g M q := by
  intro d hd ex
  refine mg_iload_n dX9_digest_135 rfl 2 rfl ?_
  refine mg_aload_n dX9_digest_136 rfl 0 rfl ?_
  refine mg_getR (j := 0) dX9_digest_137 kc_9 (Nat.le_of_ble_eq_true rfl) wd_231 rfl rfl h0.1.1 h0.1.2 h0.2.1.1 ?_
  refine mg_getI (j := 2) dX9_digest_140 kc_6 (Nat.le_of_ble_eq_true rfl) wd_72 rfl rfl h0.2.1.2.1.1 h0.2.1.2.1.2 rfl ?_
  refine mg_icmp_ge (tgt := 177) dX9_digest_143 (by decide) (fun hc => ?_) (fun hc => ?_)
  · replace h := h.1 hc
    refine mg_iconst (v := 0) dX9_digest_177 (by decide) ?_
    refine mg_istore_n (ls' := [(3, .int (0)), (0, .ref (k0)), (1, .long (x1))]) dX9_digest_178 rfl (Nat.le_of_ble_eq_true rfl) rfl ?_
    exact mg_pick [1, 2, 0] rfl (h d hd ex)
  · replace h := h.2 hc
    refine mg_lload_n dX9_digest_146 rfl 1 rfl ?_
    refine mg_aload_n dX9_digest_147 rfl 0 rfl ?_
    refine mg_getR (j := 0) dX9_digest_148 kc_9 (Nat.le_of_ble_eq_true rfl) wd_231 rfl rfl h0.1.1 h0.1.2 h0.2.1.1 ?_
    refine mg_iload_n dX9_digest_151 rfl 2 rfl ?_
    obtain ⟨q1, hC, hk⟩ := h
    refine mc_Vi [.int (x3)] [.long (x1)] dX9_digest_152 wd_663 kiX6_setOfRow (Nat.le_of_ble_eq_true rfl) h0.2.1.2.1.1 h0.2.1.2.1.2 rfl (Nat.le_trans (Nat.le_of_ble_eq_true rfl) hd) hC (fun v1 M1 hq => ?_)
    replace h := hk v1 M1 hq
    obtain ⟨q2, hC, hk⟩ := h
    refine mc_Sl [.long (x1), .int (v1)] [] dX9_digest_155 wd_649 kiX9_mixedSet (Nat.le_of_ble_eq_true rfl) (Nat.le_trans (Nat.le_of_ble_eq_true rfl) hd) hC (fun v2 M2 hq => ?_)
    replace h := hk v2 M2 hq
    refine mg_aload_n dX9_digest_158 rfl 0 rfl ?_
    refine mg_getR (j := 0) dX9_digest_159 kc_9 (Nat.le_of_ble_eq_true rfl) wd_231 rfl rfl h0.1.1 h0.1.2 h0.2.1.1 ?_
    refine mg_iload_n dX9_digest_162 rfl 2 rfl ?_
    obtain ⟨q3, hC, hk⟩ := h
    refine mc_Vi [.int (x3)] [.long (v2)] dX9_digest_163 wd_664 kiX6_witnessOfRow (Nat.le_of_ble_eq_true rfl) h0.2.1.2.1.1 h0.2.1.2.1.2 rfl (Nat.le_trans (Nat.le_of_ble_eq_true rfl) hd) hC (fun v3 M3 hq => ?_)
    replace h := hk v3 M3 hq
    refine mg_i2l dX9_digest_166 ?_
    obtain ⟨q4, hC, hk⟩ := h
    refine mc_Sl [.long (v2), .long (Int32.toInt64 (v3))] [] dX9_digest_167 wd_642 kiX9_mixed (Nat.le_of_ble_eq_true rfl) (Nat.le_trans (Nat.le_of_ble_eq_true rfl) hd) hC (fun v4 M4 hq => ?_)
    replace h := hk v4 M4 hq
    refine mg_lstore_n (ls' := [(1, .long (v4)), (0, .ref (k0)), (3, .int (x3))]) dX9_digest_170 rfl (Nat.le_of_ble_eq_true rfl) rfl ?_
    refine mg_iinc (v := x3 + 1) (ls' := [(3, .int (x3 + 1)), (1, .long (v4)), (0, .ref (k0))]) dX9_digest_171 2 rfl rfl (Nat.le_of_ble_eq_true rfl) rfl ?_
    refine mg_goto (tgt := 135) dX9_digest_174 (by decide) ?_
    exact mg_pick [2, 1, 0] rfl (h d hd ex)
theorem bX9_digest_179 {k0 : Nat} {x1 : Int64} {x3 : Int32} {g : mj_S} {M : mj_M} {q : Int64 → mj_M → Prop} (h0 : is9 g k0) (h : ((10 : Int32) ≤ (x3) → ∃ (q1 : Int32 → mj_M → Prop), kX8_size (k0 + 82) g (M) q1 ∧ ∀ (v1 : Int32) (M1 : mj_M), q1 v1 M1 → (∃ (q2 : Int64 → mj_M → Prop), kX9_mixed (x1) (Int32.toInt64 (v1)) g (M1) q2 ∧ ∀ (v2 : Int64) (M2 : mj_M), q2 v2 M2 → (∃ (q3 : Int64 → mj_M → Prop), kX9_mixed (v2) (Int32.toInt64 ((M2).1 (k0) 3)) g (M2) q3 ∧ ∀ (v3 : Int64) (M3 : mj_M), q3 v3 M3 → (q (v3) (M3))))) ∧ (¬ (10 : Int32) ≤ (x3) → ∃ (q4 : Int32 → mj_M → Prop), kX6_totalOf (k0 + 1) (x3) g (M) q4 ∧ ∀ (v4 : Int32) (M4 : mj_M), q4 v4 M4 → (∃ (q5 : Int64 → mj_M → Prop), kX9_mixed (x1) (Int32.toInt64 (v4)) g (M4) q5 ∧ ∀ (v5 : Int64) (M5 : mj_M), q5 v5 M5 → (LX9_digest_179 k0 (v5) (x3 + 1) g (M5) q)))) : LX9_digest_179 k0 x1 x3 g M q := by
  intro d hd ex
  refine mg_iload_n dX9_digest_179 rfl 2 rfl ?_
  refine mg_bipush (v := 10) dX9_digest_180 (by decide) ?_
  refine mg_icmp_ge (tgt := 205) dX9_digest_182 (by decide) (fun hc => ?_) (fun hc => ?_)
  · replace h := h.1 hc
    refine mg_lload_n dX9_digest_205 rfl 1 rfl ?_
    refine mg_aload_n dX9_digest_206 rfl 0 rfl ?_
    refine mg_getR (j := 4) dX9_digest_207 kc_9 (Nat.le_of_ble_eq_true rfl) wd_235 rfl rfl h0.1.1 h0.1.2 h0.2.2.2.2.1.1 ?_
    obtain ⟨q1, hC, hk⟩ := h
    refine mc_Vi [] [.long (x1)] dX9_digest_210 wd_298 kiX8_size (Nat.le_of_ble_eq_true rfl) h0.2.2.2.2.1.2.1.1 h0.2.2.2.2.1.2.1.2 rfl (Nat.le_trans (Nat.le_of_ble_eq_true rfl) hd) hC (fun v1 M1 hq => ?_)
    replace h := hk v1 M1 hq
    refine mg_i2l dX9_digest_213 ?_
    obtain ⟨q2, hC, hk⟩ := h
    refine mc_Sl [.long (x1), .long (Int32.toInt64 (v1))] [] dX9_digest_214 wd_642 kiX9_mixed (Nat.le_of_ble_eq_true rfl) (Nat.le_trans (Nat.le_of_ble_eq_true rfl) hd) hC (fun v2 M2 hq => ?_)
    replace h := hk v2 M2 hq
    refine mg_aload_n dX9_digest_217 rfl 0 rfl ?_
    refine mg_getI (j := 3) dX9_digest_218 kc_9 (Nat.le_of_ble_eq_true rfl) wd_234 rfl rfl h0.1.1 h0.1.2 rfl ?_
    refine mg_i2l dX9_digest_221 ?_
    obtain ⟨q3, hC, hk⟩ := h
    refine mc_Sl [.long (v2), .long (Int32.toInt64 ((M2).1 (k0) 3))] [] dX9_digest_222 wd_642 kiX9_mixed (Nat.le_of_ble_eq_true rfl) (Nat.le_trans (Nat.le_of_ble_eq_true rfl) hd) hC (fun v3 M3 hq => ?_)
    replace h := hk v3 M3 hq
    exact me_l dX9_digest_225 rfl h
  · replace h := h.2 hc
    refine mg_lload_n dX9_digest_185 rfl 1 rfl ?_
    refine mg_aload_n dX9_digest_186 rfl 0 rfl ?_
    refine mg_getR (j := 0) dX9_digest_187 kc_9 (Nat.le_of_ble_eq_true rfl) wd_231 rfl rfl h0.1.1 h0.1.2 h0.2.1.1 ?_
    refine mg_iload_n dX9_digest_190 rfl 2 rfl ?_
    obtain ⟨q4, hC, hk⟩ := h
    refine mc_Vi [.int (x3)] [.long (x1)] dX9_digest_191 wd_665 kiX6_totalOf (Nat.le_of_ble_eq_true rfl) h0.2.1.2.1.1 h0.2.1.2.1.2 rfl (Nat.le_trans (Nat.le_of_ble_eq_true rfl) hd) hC (fun v4 M4 hq => ?_)
    replace h := hk v4 M4 hq
    refine mg_i2l dX9_digest_194 ?_
    obtain ⟨q5, hC, hk⟩ := h
    refine mc_Sl [.long (x1), .long (Int32.toInt64 (v4))] [] dX9_digest_195 wd_642 kiX9_mixed (Nat.le_of_ble_eq_true rfl) (Nat.le_trans (Nat.le_of_ble_eq_true rfl) hd) hC (fun v5 M5 hq => ?_)
    replace h := hk v5 M5 hq
    refine mg_lstore_n (ls' := [(1, .long (v5)), (0, .ref (k0)), (3, .int (x3))]) dX9_digest_198 rfl (Nat.le_of_ble_eq_true rfl) rfl ?_
    refine mg_iinc (v := x3 + 1) (ls' := [(3, .int (x3 + 1)), (1, .long (v5)), (0, .ref (k0))]) dX9_digest_199 2 rfl rfl (Nat.le_of_ble_eq_true rfl) rfl ?_
    refine mg_goto (tgt := 179) dX9_digest_202 (by decide) ?_
    exact mg_pick [2, 1, 0] rfl (h d hd ex)
