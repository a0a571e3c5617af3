theorem dL_reset_0 : decode cL_reset 0 = .ok (.aload_n 2, 1) := by decide +kernel
theorem dL_reset_1 : decode cL_reset 1 = .ok (.iconst 0, 1) := by decide +kernel
theorem dL_reset_2 : decode cL_reset 2 = .ok (.aload_n 0, 1) := by decide +kernel
theorem dL_reset_3 : decode cL_reset 3 = .ok (.iload_n 1, 1) := by decide +kernel
theorem dL_reset_4 : decode cL_reset 4 = .ok (.invokevirtual 7, 3) := by decide +kernel
theorem dL_reset_7 : decode cL_reset 7 = .ok (.i2l, 1) := by decide +kernel
theorem dL_reset_8 : decode cL_reset 8 = .ok (.lastore, 1) := by decide +kernel
theorem dL_reset_9 : decode cL_reset 9 = .ok (.goto 6, 3) := by decide +kernel
theorem dL_reset_12 : decode cL_reset 12 = .ok (.astore_n 3, 1) := by decide +kernel
theorem dL_reset_13 : decode cL_reset 13 = .ok (.iconst 1, 1) := by decide +kernel
theorem dL_reset_14 : decode cL_reset 14 = .ok (.ireturn, 1) := by decide +kernel
theorem dL_reset_15 : decode cL_reset 15 = .ok (.iconst 0, 1) := by decide +kernel
theorem dL_reset_16 : decode cL_reset 16 = .ok (.ireturn, 1) := by decide +kernel
abbrev mtL_reset : mj_T := (yL_reset.cls, cL_reset, 4, some .int, mj_tb [(0, 9, 12, 13)], yL_reset.name)
abbrev kL_reset (k0 : Nat) (x1 : Int32) (k2 : Nat) (g : mj_S) (M : mj_M) (q : Int32 → mj_M → Prop) : Prop := mj_CIW yL_reset (.codeWith yL_reset cL_reset 4 (some .int) [(0, 9, 12, 13)]) 8 1 6 [.ref (k0), .int (x1), .ref (k2)] g M q
theorem eL_reset {k0 : Nat} {x1 : Int32} {k2 : Nat} {g : mj_S} {M : mj_M} {q : Int32 → mj_M → Prop} (h0 : is9 g k0) (h2 : k2 < g.1 ∧ g.2.1 k2 = (1, 2, 1)) (h : ∃ (q1 : Int32 → mj_M → Prop) (qx1 : String → mj_M → Prop), kX9_reset (k0) (x1) g (M) q1 qx1 ∧ (∀ (X : String) (M9 : mj_M), qx1 X M9 → (X = mj_IA ∧ q (1) (M9))) ∧ ∀ (v1 : Int32) (M1 : mj_M), q1 v1 M1 → (q (0) (mj_wL (M1) (k2) (Int32.toNatClampNeg (0)) (Int32.toInt64 (v1))))) : kL_reset (k0) (x1) (k2) g M q := by
  intro d hd; refine mj_enterH (by decide +kernel) (Nat.le_of_ble_eq_true rfl) ?_
  show mj_G mtL_reset (mj_rm d 1 6) (mj_Fi (mj_qI g q) mj_x0 1 6) false 1 6 0 [(0, .ref (k0)), (1, .int (x1)), (2, .ref (k2))] [] g M
  refine mg_aload_n dL_reset_0 rfl 2 rfl ?_
  refine mg_iconst (v := 0) dL_reset_1 (by decide) ?_
  refine mg_aload_n dL_reset_2 rfl 0 rfl ?_
  refine mg_iload_n dL_reset_3 rfl 1 rfl ?_
  obtain ⟨q1, qx1, hC, hkx, hk⟩ := h
  refine mw_Vi [.int (x1)] [.int (0), .ref (k2)] dL_reset_4 wd_673 kiX9_reset (Nat.le_of_ble_eq_true rfl) h0.1.1 h0.1.2 rfl (Nat.le_trans (Nat.le_of_ble_eq_true rfl) hd) ⟨Nat.le_of_ble_eq_true rfl, Nat.le_of_ble_eq_true rfl⟩ hC (fun X M9 hx => ?_) (fun v1 M1 hq => ?_)
  · obtain ⟨rfl, h⟩ := hkx X M9 hx
    refine mgx_catch1 (i := 3) [] ⟨0, 9, 12, 13⟩ [] (hh := [(0, 9, 12, 13)]) rfl rfl (by decide) (fun z hz => by cases hz) (by decide) (by decide) wd_672 dL_reset_12 rfl (Nat.le_of_ble_eq_true rfl) rfl ?_
    show mj_G mtL_reset (mj_rm d 1 6) (mj_Fi (mj_qI g q) mj_x0 1 6) false _ _ _ [(0, .ref (k0)), (1, .int (x1)), (2, .ref (k2))] [] g M9
    refine mg_iconst (v := 1) dL_reset_13 (by decide) ?_
    exact mex_i dL_reset_14 rfl h
  · replace h := hk v1 M1 hq
    refine mg_i2l dL_reset_7 ?_
    refine mg_last dL_reset_8 h2.1 h2.2 (vp_in_nI (n := 0) (Nat.le_of_ble_eq_true rfl) (Nat.le_of_ble_eq_true rfl)) ?_
    refine mg_goto (tgt := 15) dL_reset_9 (by decide) ?_
    refine mg_iconst (v := 0) dL_reset_15 (by decide) ?_
    exact mex_i dL_reset_16 rfl h
theorem dL_addClause_0 : decode cL_addClause 0 = .ok (.aload_n 3, 1) := by decide +kernel
theorem dL_addClause_1 : decode cL_addClause 1 = .ok (.iconst 0, 1) := by decide +kernel
theorem dL_addClause_2 : decode cL_addClause 2 = .ok (.aload_n 0, 1) := by decide +kernel
theorem dL_addClause_3 : decode cL_addClause 3 = .ok (.iload_n 1, 1) := by decide +kernel
theorem dL_addClause_4 : decode cL_addClause 4 = .ok (.iload_n 2, 1) := by decide +kernel
theorem dL_addClause_5 : decode cL_addClause 5 = .ok (.invokevirtual 15, 3) := by decide +kernel
theorem dL_addClause_8 : decode cL_addClause 8 = .ok (.i2l, 1) := by decide +kernel
theorem dL_addClause_9 : decode cL_addClause 9 = .ok (.lastore, 1) := by decide +kernel
theorem dL_addClause_10 : decode cL_addClause 10 = .ok (.goto 11, 3) := by decide +kernel
theorem dL_addClause_13 : decode cL_addClause 13 = .ok (.astore 4, 2) := by decide +kernel
theorem dL_addClause_15 : decode cL_addClause 15 = .ok (.iconst 1, 1) := by decide +kernel
theorem dL_addClause_16 : decode cL_addClause 16 = .ok (.ireturn, 1) := by decide +kernel
theorem dL_addClause_17 : decode cL_addClause 17 = .ok (.astore 4, 2) := by decide +kernel
theorem dL_addClause_19 : decode cL_addClause 19 = .ok (.iconst 2, 1) := by decide +kernel
theorem dL_addClause_20 : decode cL_addClause 20 = .ok (.ireturn, 1) := by decide +kernel
theorem dL_addClause_21 : decode cL_addClause 21 = .ok (.iconst 0, 1) := by decide +kernel
theorem dL_addClause_22 : decode cL_addClause 22 = .ok (.ireturn, 1) := by decide +kernel
abbrev mtL_addClause : mj_T := (yL_addClause.cls, cL_addClause, 5, some .int, mj_tb [(0, 10, 13, 13), (0, 10, 17, 19)], yL_addClause.name)
abbrev kL_addClause (k0 : Nat) (x1 : Int32) (x2 : Int32) (k3 : Nat) (g : mj_S) (M : mj_M) (q : Int32 → mj_M → Prop) : Prop := mj_CIW yL_addClause (.codeWith yL_addClause cL_addClause 5 (some .int) [(0, 10, 13, 13), (0, 10, 17, 19)]) 9 2 12 [.ref (k0), .int (x1), .int (x2), .ref (k3)] g M q
theorem eL_addClause {k0 : Nat} {x1 : Int32} {x2 : Int32} {k3 : Nat} {g : mj_S} {M : mj_M} {q : Int32 → mj_M → Prop} (h0 : is9 g k0) (h3 : k3 < g.1 ∧ g.2.1 k3 = (1, 2, 1)) (h : ∃ (q1 : Int32 → mj_M → Prop) (qx1 : String → mj_M → Prop), kX9_addClause (k0) (x1) (x2) g (M) q1 qx1 ∧ (∀ (X : String) (M9 : mj_M), qx1 X M9 → (X = mj_IA ∧ q (1) (M9)) ∨ (X = mj_IS ∧ q (2) (M9))) ∧ ∀ (v1 : Int32) (M1 : mj_M), q1 v1 M1 → (q (0) (mj_wL (M1) (k3) (Int32.toNatClampNeg (0)) (Int32.toInt64 (v1))))) : kL_addClause (k0) (x1) (x2) (k3) g M q := by
  intro d hd; refine mj_enterH (by decide +kernel) (Nat.le_of_ble_eq_true rfl) ?_
  show mj_G mtL_addClause (mj_rm d 2 12) (mj_Fi (mj_qI g q) mj_x0 2 12) false 2 12 0 [(0, .ref (k0)), (1, .int (x1)), (2, .int (x2)), (3, .ref (k3))] [] g M
  refine mg_aload_n dL_addClause_0 rfl 3 rfl ?_
  refine mg_iconst (v := 0) dL_addClause_1 (by decide) ?_
  refine mg_aload_n dL_addClause_2 rfl 0 rfl ?_
  refine mg_iload_n dL_addClause_3 rfl 1 rfl ?_
  refine mg_iload_n dL_addClause_4 rfl 2 rfl ?_
  obtain ⟨q1, qx1, hC, hkx, hk⟩ := h
  refine mw_Vi [.int (x1), .int (x2)] [.int (0), .ref (k3)] dL_addClause_5 wd_754 kiX9_addClause (Nat.le_of_ble_eq_true rfl) h0.1.1 h0.1.2 rfl (Nat.le_trans (Nat.le_of_ble_eq_true rfl) hd) ⟨Nat.le_of_ble_eq_true rfl, Nat.le_of_ble_eq_true rfl⟩ hC (fun X M9 hx => ?_) (fun v1 M1 hq => ?_)
  · rcases hkx X M9 hx with ⟨rfl, h⟩ | ⟨rfl, h⟩
    · refine mgx_catch2 (i := 4) [] ⟨0, 10, 13, 13⟩ [⟨0, 10, 17, 19⟩] (hh := [(0, 10, 13, 13), (0, 10, 17, 19)]) rfl rfl (by decide) (fun z hz => by cases hz) (by decide) (by decide) wd_672 dL_addClause_13 (Nat.le_of_ble_eq_true rfl) rfl ?_
      show mj_G mtL_addClause (mj_rm d 2 12) (mj_Fi (mj_qI g q) mj_x0 2 12) false _ _ _ [(0, .ref (k0)), (1, .int (x1)), (2, .int (x2)), (3, .ref (k3))] [] g M9
      refine mg_iconst (v := 1) dL_addClause_15 (by decide) ?_
      exact mex_i dL_addClause_16 rfl h
    · refine mgx_catch2 (i := 4) [⟨0, 10, 13, 13⟩] ⟨0, 10, 17, 19⟩ [] (hh := [(0, 10, 13, 13), (0, 10, 17, 19)]) rfl rfl (by decide) (fun z hz => by rcases List.mem_cons.mp hz with rfl | hz; exact ⟨by decide, mj_IA, by decide, wd_672, by decide⟩; cases hz) (by decide) (by decide) wd_753 dL_addClause_17 (Nat.le_of_ble_eq_true rfl) rfl ?_
      show mj_G mtL_addClause (mj_rm d 2 12) (mj_Fi (mj_qI g q) mj_x0 2 12) false _ _ _ [(0, .ref (k0)), (1, .int (x1)), (2, .int (x2)), (3, .ref (k3))] [] g M9
      refine mg_iconst (v := 2) dL_addClause_19 (by decide) ?_
      exact mex_i dL_addClause_20 rfl h
  · replace h := hk v1 M1 hq
    refine mg_i2l dL_addClause_8 ?_
    refine mg_last dL_addClause_9 h3.1 h3.2 (vp_in_nI (n := 0) (Nat.le_of_ble_eq_true rfl) (Nat.le_of_ble_eq_true rfl)) ?_
    refine mg_goto (tgt := 21) dL_addClause_10 (by decide) ?_
    refine mg_iconst (v := 0) dL_addClause_21 (by decide) ?_
    exact mex_i dL_addClause_22 rfl h
theorem dL_generate_0 : decode cL_generate 0 = .ok (.aload 4, 2) := by decide +kernel
theorem dL_generate_2 : decode cL_generate 2 = .ok (.iconst 0, 1) := by decide +kernel
theorem dL_generate_3 : decode cL_generate 3 = .ok (.aload_n 0, 1) := by decide +kernel
theorem dL_generate_4 : decode cL_generate 4 = .ok (.iload_n 1, 1) := by decide +kernel
theorem dL_generate_5 : decode cL_generate 5 = .ok (.iload_n 2, 1) := by decide +kernel
theorem dL_generate_6 : decode cL_generate 6 = .ok (.iload_n 3, 1) := by decide +kernel
theorem dL_generate_7 : decode cL_generate 7 = .ok (.invokevirtual 21, 3) := by decide +kernel
theorem dL_generate_10 : decode cL_generate 10 = .ok (.i2l, 1) := by decide +kernel
theorem dL_generate_11 : decode cL_generate 11 = .ok (.lastore, 1) := by decide +kernel
theorem dL_generate_12 : decode cL_generate 12 = .ok (.goto 11, 3) := by decide +kernel
theorem dL_generate_15 : decode cL_generate 15 = .ok (.astore 5, 2) := by decide +kernel
theorem dL_generate_17 : decode cL_generate 17 = .ok (.iconst 1, 1) := by decide +kernel
theorem dL_generate_18 : decode cL_generate 18 = .ok (.ireturn, 1) := by decide +kernel
theorem dL_generate_19 : decode cL_generate 19 = .ok (.astore 5, 2) := by decide +kernel
theorem dL_generate_21 : decode cL_generate 21 = .ok (.iconst 2, 1) := by decide +kernel
theorem dL_generate_22 : decode cL_generate 22 = .ok (.ireturn, 1) := by decide +kernel
theorem dL_generate_23 : decode cL_generate 23 = .ok (.iconst 0, 1) := by decide +kernel
theorem dL_generate_24 : decode cL_generate 24 = .ok (.ireturn, 1) := by decide +kernel
abbrev mtL_generate : mj_T := (yL_generate.cls, cL_generate, 6, some .int, mj_tb [(0, 12, 15, 13), (0, 12, 19, 19)], yL_generate.name)
abbrev kL_generate (k0 : Nat) (x1 : Int32) (x2 : Int32) (x3 : Int32) (k4 : Nat) (g : mj_S) (M : mj_M) (q : Int32 → mj_M → Prop) : Prop := mj_CIW yL_generate (.codeWith yL_generate cL_generate 6 (some .int) [(0, 12, 15, 13), (0, 12, 19, 19)]) 9 2 12 [.ref (k0), .int (x1), .int (x2), .int (x3), .ref (k4)] g M q
theorem eL_generate {k0 : Nat} {x1 : Int32} {x2 : Int32} {x3 : Int32} {k4 : Nat} {g : mj_S} {M : mj_M} {q : Int32 → mj_M → Prop} (h0 : is9 g k0) (h4 : k4 < g.1 ∧ g.2.1 k4 = (1, 2, 1)) (h : ∃ (q1 : Int32 → mj_M → Prop) (qx1 : String → mj_M → Prop), kX9_generate (k0) (x1) (x2) (x3) g (M) q1 qx1 ∧ (∀ (X : String) (M9 : mj_M), qx1 X M9 → (X = mj_IA ∧ q (1) (M9)) ∨ (X = mj_IS ∧ q (2) (M9))) ∧ ∀ (v1 : Int32) (M1 : mj_M), q1 v1 M1 → (q (0) (mj_wL (M1) (k4) (Int32.toNatClampNeg (0)) (Int32.toInt64 (v1))))) : kL_generate (k0) (x1) (x2) (x3) (k4) g M q := by
  intro d hd; refine mj_enterH (by decide +kernel) (Nat.le_of_ble_eq_true rfl) ?_
  show mj_G mtL_generate (mj_rm d 2 12) (mj_Fi (mj_qI g q) mj_x0 2 12) false 2 12 0 [(0, .ref (k0)), (1, .int (x1)), (2, .int (x2)), (3, .int (x3)), (4, .ref (k4))] [] g M
  refine mg_aload dL_generate_0 4 rfl ?_
  refine mg_iconst (v := 0) dL_generate_2 (by decide) ?_
  refine mg_aload_n dL_generate_3 rfl 0 rfl ?_
  refine mg_iload_n dL_generate_4 rfl 1 rfl ?_
  refine mg_iload_n dL_generate_5 rfl 2 rfl ?_
  refine mg_iload_n dL_generate_6 rfl 3 rfl ?_
  obtain ⟨q1, qx1, hC, hkx, hk⟩ := h
  refine mw_Vi [.int (x1), .int (x2), .int (x3)] [.int (0), .ref (k4)] dL_generate_7 wd_788 kiX9_generate (Nat.le_of_ble_eq_true rfl) h0.1.1 h0.1.2 rfl (Nat.le_trans (Nat.le_of_ble_eq_true rfl) hd) ⟨Nat.le_of_ble_eq_true rfl, Nat.le_of_ble_eq_true rfl⟩ hC (fun X M9 hx => ?_) (fun v1 M1 hq => ?_)
  · rcases hkx X M9 hx with ⟨rfl, h⟩ | ⟨rfl, h⟩
    · refine mgx_catch2 (i := 5) [] ⟨0, 12, 15, 13⟩ [⟨0, 12, 19, 19⟩] (hh := [(0, 12, 15, 13), (0, 12, 19, 19)]) rfl rfl (by decide) (fun z hz => by cases hz) (by decide) (by decide) wd_672 dL_generate_15 (Nat.le_of_ble_eq_true rfl) rfl ?_
      show mj_G mtL_generate (mj_rm d 2 12) (mj_Fi (mj_qI g q) mj_x0 2 12) false _ _ _ [(0, .ref (k0)), (1, .int (x1)), (2, .int (x2)), (3, .int (x3)), (4, .ref (k4))] [] g M9
      refine mg_iconst (v := 1) dL_generate_17 (by decide) ?_
      exact mex_i dL_generate_18 rfl h
    · refine mgx_catch2 (i := 5) [⟨0, 12, 15, 13⟩] ⟨0, 12, 19, 19⟩ [] (hh := [(0, 12, 15, 13), (0, 12, 19, 19)]) rfl rfl (by decide) (fun z hz => by rcases List.mem_cons.mp hz with rfl | hz; exact ⟨by decide, mj_IA, by decide, wd_672, by decide⟩; cases hz) (by decide) (by decide) wd_753 dL_generate_19 (Nat.le_of_ble_eq_true rfl) rfl ?_
      show mj_G mtL_generate (mj_rm d 2 12) (mj_Fi (mj_qI g q) mj_x0 2 12) false _ _ _ [(0, .ref (k0)), (1, .int (x1)), (2, .int (x2)), (3, .int (x3)), (4, .ref (k4))] [] g M9
      refine mg_iconst (v := 2) dL_generate_21 (by decide) ?_
      exact mex_i dL_generate_22 rfl h
  · replace h := hk v1 M1 hq
    refine mg_i2l dL_generate_10 ?_
    refine mg_last dL_generate_11 h4.1 h4.2 (vp_in_nI (n := 0) (Nat.le_of_ble_eq_true rfl) (Nat.le_of_ble_eq_true rfl)) ?_
    refine mg_goto (tgt := 23) dL_generate_12 (by decide) ?_
    refine mg_iconst (v := 0) dL_generate_23 (by decide) ?_
    exact mex_i dL_generate_24 rfl h
theorem dL_original_0 : decode cL_original 0 = .ok (.aload_n 3, 1) := by decide +kernel
theorem dL_original_1 : decode cL_original 1 = .ok (.iconst 0, 1) := by decide +kernel
theorem dL_original_2 : decode cL_original 2 = .ok (.aload_n 0, 1) := by decide +kernel
theorem dL_original_3 : decode cL_original 3 = .ok (.iload_n 1, 1) := by decide +kernel
theorem dL_original_4 : decode cL_original 4 = .ok (.iload_n 2, 1) := by decide +kernel
theorem dL_original_5 : decode cL_original 5 = .ok (.invokevirtual 25, 3) := by decide +kernel
theorem dL_original_8 : decode cL_original 8 = .ok (.i2l, 1) := by decide +kernel
theorem dL_original_9 : decode cL_original 9 = .ok (.lastore, 1) := by decide +kernel
theorem dL_original_10 : decode cL_original 10 = .ok (.goto 7, 3) := by decide +kernel
theorem dL_original_13 : decode cL_original 13 = .ok (.astore 4, 2) := by decide +kernel
theorem dL_original_15 : decode cL_original 15 = .ok (.iconst 1, 1) := by decide +kernel
theorem dL_original_16 : decode cL_original 16 = .ok (.ireturn, 1) := by decide +kernel
theorem dL_original_17 : decode cL_original 17 = .ok (.iconst 0, 1) := by decide +kernel
theorem dL_original_18 : decode cL_original 18 = .ok (.ireturn, 1) := by decide +kernel
abbrev mtL_original : mj_T := (yL_original.cls, cL_original, 5, some .int, mj_tb [(0, 10, 13, 29)], yL_original.name)
abbrev kL_original (k0 : Nat) (x1 : Int32) (x2 : Int32) (k3 : Nat) (g : mj_S) (M : mj_M) (q : Int32 → mj_M → Prop) : Prop := mj_CIW yL_original (.codeWith yL_original cL_original 5 (some .int) [(0, 10, 13, 29)]) 8 1 6 [.ref (k0), .int (x1), .int (x2), .ref (k3)] g M q
theorem eL_original {k0 : Nat} {x1 : Int32} {x2 : Int32} {k3 : Nat} {g : mj_S} {M : mj_M} {q : Int32 → mj_M → Prop} (h0 : is9 g k0) (h3 : k3 < g.1 ∧ g.2.1 k3 = (1, 2, 1)) (h : ∃ (q1 : Int32 → mj_M → Prop) (qx1 : String → mj_M → Prop), kX9_original (k0) (x1) (x2) g (M) q1 qx1 ∧ (∀ (X : String) (M9 : mj_M), qx1 X M9 → (X = mj_IO ∧ q (1) (M9))) ∧ ∀ (v1 : Int32) (M1 : mj_M), q1 v1 M1 → (q (0) (mj_wL (M1) (k3) (Int32.toNatClampNeg (0)) (Int32.toInt64 (v1))))) : kL_original (k0) (x1) (x2) (k3) g M q := by
  intro d hd; refine mj_enterH (by decide +kernel) (Nat.le_of_ble_eq_true rfl) ?_
  show mj_G mtL_original (mj_rm d 1 6) (mj_Fi (mj_qI g q) mj_x0 1 6) false 1 6 0 [(0, .ref (k0)), (1, .int (x1)), (2, .int (x2)), (3, .ref (k3))] [] g M
  refine mg_aload_n dL_original_0 rfl 3 rfl ?_
  refine mg_iconst (v := 0) dL_original_1 (by decide) ?_
  refine mg_aload_n dL_original_2 rfl 0 rfl ?_
  refine mg_iload_n dL_original_3 rfl 1 rfl ?_
  refine mg_iload_n dL_original_4 rfl 2 rfl ?_
  obtain ⟨q1, qx1, hC, hkx, hk⟩ := h
  refine mw_Vi [.int (x1), .int (x2)] [.int (0), .ref (k3)] dL_original_5 wd_817 kiX9_original (Nat.le_of_ble_eq_true rfl) h0.1.1 h0.1.2 rfl (Nat.le_trans (Nat.le_of_ble_eq_true rfl) hd) ⟨Nat.le_of_ble_eq_true rfl, Nat.le_of_ble_eq_true rfl⟩ hC (fun X M9 hx => ?_) (fun v1 M1 hq => ?_)
  · obtain ⟨rfl, h⟩ := hkx X M9 hx
    refine mgx_catch2 (i := 4) [] ⟨0, 10, 13, 29⟩ [] (hh := [(0, 10, 13, 29)]) rfl rfl (by decide) (fun z hz => by cases hz) (by decide) (by decide) wd_816 dL_original_13 (Nat.le_of_ble_eq_true rfl) rfl ?_
    show mj_G mtL_original (mj_rm d 1 6) (mj_Fi (mj_qI g q) mj_x0 1 6) false _ _ _ [(0, .ref (k0)), (1, .int (x1)), (2, .int (x2)), (3, .ref (k3))] [] g M9
    refine mg_iconst (v := 1) dL_original_15 (by decide) ?_
    exact mex_i dL_original_16 rfl h
  · replace h := hk v1 M1 hq
    refine mg_i2l dL_original_8 ?_
    refine mg_last dL_original_9 h3.1 h3.2 (vp_in_nI (n := 0) (Nat.le_of_ble_eq_true rfl) (Nat.le_of_ble_eq_true rfl)) ?_
    refine mg_goto (tgt := 17) dL_original_10 (by decide) ?_
    refine mg_iconst (v := 0) dL_original_17 (by decide) ?_
    exact mex_i dL_original_18 rfl h
theorem dL_clause_0 : decode cL_clause 0 = .ok (.aload_n 3, 1) := by decide +kernel
theorem dL_clause_1 : decode cL_clause 1 = .ok (.iconst 0, 1) := by decide +kernel
theorem dL_clause_2 : decode cL_clause 2 = .ok (.aload_n 0, 1) := by decide +kernel
theorem dL_clause_3 : decode cL_clause 3 = .ok (.iload_n 1, 1) := by decide +kernel
theorem dL_clause_4 : decode cL_clause 4 = .ok (.iload_n 2, 1) := by decide +kernel
theorem dL_clause_5 : decode cL_clause 5 = .ok (.invokevirtual 31, 3) := by decide +kernel
theorem dL_clause_8 : decode cL_clause 8 = .ok (.i2l, 1) := by decide +kernel
theorem dL_clause_9 : decode cL_clause 9 = .ok (.lastore, 1) := by decide +kernel
theorem dL_clause_10 : decode cL_clause 10 = .ok (.goto 7, 3) := by decide +kernel
theorem dL_clause_13 : decode cL_clause 13 = .ok (.astore 4, 2) := by decide +kernel
theorem dL_clause_15 : decode cL_clause 15 = .ok (.iconst 1, 1) := by decide +kernel
theorem dL_clause_16 : decode cL_clause 16 = .ok (.ireturn, 1) := by decide +kernel
theorem dL_clause_17 : decode cL_clause 17 = .ok (.iconst 0, 1) := by decide +kernel
theorem dL_clause_18 : decode cL_clause 18 = .ok (.ireturn, 1) := by decide +kernel
abbrev mtL_clause : mj_T := (yL_clause.cls, cL_clause, 5, some .int, mj_tb [(0, 10, 13, 29)], yL_clause.name)
abbrev kL_clause (k0 : Nat) (x1 : Int32) (x2 : Int32) (k3 : Nat) (g : mj_S) (M : mj_M) (q : Int32 → mj_M → Prop) : Prop := mj_CIW yL_clause (.codeWith yL_clause cL_clause 5 (some .int) [(0, 10, 13, 29)]) 9 1 6 [.ref (k0), .int (x1), .int (x2), .ref (k3)] g M q
theorem eL_clause {k0 : Nat} {x1 : Int32} {x2 : Int32} {k3 : Nat} {g : mj_S} {M : mj_M} {q : Int32 → mj_M → Prop} (h0 : is9 g k0) (h3 : k3 < g.1 ∧ g.2.1 k3 = (1, 2, 1)) (h : ∃ (q1 : Int32 → mj_M → Prop) (qx1 : String → mj_M → Prop), kX9_clause (k0) (x1) (x2) g (M) q1 qx1 ∧ (∀ (X : String) (M9 : mj_M), qx1 X M9 → (X = mj_IO ∧ q (1) (M9))) ∧ ∀ (v1 : Int32) (M1 : mj_M), q1 v1 M1 → (q (0) (mj_wL (M1) (k3) (Int32.toNatClampNeg (0)) (Int32.toInt64 (v1))))) : kL_clause (k0) (x1) (x2) (k3) g M q := by
  intro d hd; refine mj_enterH (by decide +kernel) (Nat.le_of_ble_eq_true rfl) ?_
  show mj_G mtL_clause (mj_rm d 1 6) (mj_Fi (mj_qI g q) mj_x0 1 6) false 1 6 0 [(0, .ref (k0)), (1, .int (x1)), (2, .int (x2)), (3, .ref (k3))] [] g M
  refine mg_aload_n dL_clause_0 rfl 3 rfl ?_
  refine mg_iconst (v := 0) dL_clause_1 (by decide) ?_
  refine mg_aload_n dL_clause_2 rfl 0 rfl ?_
  refine mg_iload_n dL_clause_3 rfl 1 rfl ?_
  refine mg_iload_n dL_clause_4 rfl 2 rfl ?_
  obtain ⟨q1, qx1, hC, hkx, hk⟩ := h
  refine mw_Vi [.int (x1), .int (x2)] [.int (0), .ref (k3)] dL_clause_5 wd_840 kiX9_clause (Nat.le_of_ble_eq_true rfl) h0.1.1 h0.1.2 rfl (Nat.le_trans (Nat.le_of_ble_eq_true rfl) hd) ⟨Nat.le_of_ble_eq_true rfl, Nat.le_of_ble_eq_true rfl⟩ hC (fun X M9 hx => ?_) (fun v1 M1 hq => ?_)
  · obtain ⟨rfl, h⟩ := hkx X M9 hx
    refine mgx_catch2 (i := 4) [] ⟨0, 10, 13, 29⟩ [] (hh := [(0, 10, 13, 29)]) rfl rfl (by decide) (fun z hz => by cases hz) (by decide) (by decide) wd_816 dL_clause_13 (Nat.le_of_ble_eq_true rfl) rfl ?_
    show mj_G mtL_clause (mj_rm d 1 6) (mj_Fi (mj_qI g q) mj_x0 1 6) false _ _ _ [(0, .ref (k0)), (1, .int (x1)), (2, .int (x2)), (3, .ref (k3))] [] g M9
    refine mg_iconst (v := 1) dL_clause_15 (by decide) ?_
    exact mex_i dL_clause_16 rfl h
  · replace h := hk v1 M1 hq
    refine mg_i2l dL_clause_8 ?_
    refine mg_last dL_clause_9 h3.1 h3.2 (vp_in_nI (n := 0) (Nat.le_of_ble_eq_true rfl) (Nat.le_of_ble_eq_true rfl)) ?_
    refine mg_goto (tgt := 17) dL_clause_10 (by decide) ?_
    refine mg_iconst (v := 0) dL_clause_17 (by decide) ?_
    exact mex_i dL_clause_18 rfl h
theorem dL_status_0 : decode cL_status 0 = .ok (.aload_n 2, 1) := by decide +kernel
theorem dL_status_1 : decode cL_status 1 = .ok (.iconst 0, 1) := by decide +kernel
theorem dL_status_2 : decode cL_status 2 = .ok (.aload_n 0, 1) := by decide +kernel
theorem dL_status_3 : decode cL_status 3 = .ok (.iload_n 1, 1) := by decide +kernel
theorem dL_status_4 : decode cL_status 4 = .ok (.invokevirtual 34, 3) := by decide +kernel
theorem dL_status_7 : decode cL_status 7 = .ok (.i2l, 1) := by decide +kernel
theorem dL_status_8 : decode cL_status 8 = .ok (.lastore, 1) := by decide +kernel
theorem dL_status_9 : decode cL_status 9 = .ok (.goto 6, 3) := by decide +kernel
theorem dL_status_12 : decode cL_status 12 = .ok (.astore_n 3, 1) := by decide +kernel
theorem dL_status_13 : decode cL_status 13 = .ok (.iconst 1, 1) := by decide +kernel
theorem dL_status_14 : decode cL_status 14 = .ok (.ireturn, 1) := by decide +kernel
theorem dL_status_15 : decode cL_status 15 = .ok (.iconst 0, 1) := by decide +kernel
theorem dL_status_16 : decode cL_status 16 = .ok (.ireturn, 1) := by decide +kernel
abbrev mtL_status : mj_T := (yL_status.cls, cL_status, 4, some .int, mj_tb [(0, 9, 12, 29)], yL_status.name)
abbrev kL_status (k0 : Nat) (x1 : Int32) (k2 : Nat) (g : mj_S) (M : mj_M) (q : Int32 → mj_M → Prop) : Prop := mj_CIW yL_status (.codeWith yL_status cL_status 4 (some .int) [(0, 9, 12, 29)]) 9 1 6 [.ref (k0), .int (x1), .ref (k2)] g M q
theorem eL_status {k0 : Nat} {x1 : Int32} {k2 : Nat} {g : mj_S} {M : mj_M} {q : Int32 → mj_M → Prop} (h0 : is9 g k0) (h2 : k2 < g.1 ∧ g.2.1 k2 = (1, 2, 1)) (h : ∃ (q1 : Int32 → mj_M → Prop) (qx1 : String → mj_M → Prop), kX9_status (k0) (x1) g (M) q1 qx1 ∧ (∀ (X : String) (M9 : mj_M), qx1 X M9 → (X = mj_IO ∧ q (1) (M9))) ∧ ∀ (v1 : Int32) (M1 : mj_M), q1 v1 M1 → (q (0) (mj_wL (M1) (k2) (Int32.toNatClampNeg (0)) (Int32.toInt64 (v1))))) : kL_status (k0) (x1) (k2) g M q := by
  intro d hd; refine mj_enterH (by decide +kernel) (Nat.le_of_ble_eq_true rfl) ?_
  show mj_G mtL_status (mj_rm d 1 6) (mj_Fi (mj_qI g q) mj_x0 1 6) false 1 6 0 [(0, .ref (k0)), (1, .int (x1)), (2, .ref (k2))] [] g M
  refine mg_aload_n dL_status_0 rfl 2 rfl ?_
  refine mg_iconst (v := 0) dL_status_1 (by decide) ?_
  refine mg_aload_n dL_status_2 rfl 0 rfl ?_
  refine mg_iload_n dL_status_3 rfl 1 rfl ?_
  obtain ⟨q1, qx1, hC, hkx, hk⟩ := h
  refine mw_Vi [.int (x1)] [.int (0), .ref (k2)] dL_status_4 wd_852 kiX9_status (Nat.le_of_ble_eq_true rfl) h0.1.1 h0.1.2 rfl (Nat.le_trans (Nat.le_of_ble_eq_true rfl) hd) ⟨Nat.le_of_ble_eq_true rfl, Nat.le_of_ble_eq_true rfl⟩ hC (fun X M9 hx => ?_) (fun v1 M1 hq => ?_)
  · obtain ⟨rfl, h⟩ := hkx X M9 hx
    refine mgx_catch1 (i := 3) [] ⟨0, 9, 12, 29⟩ [] (hh := [(0, 9, 12, 29)]) rfl rfl (by decide) (fun z hz => by cases hz) (by decide) (by decide) wd_816 dL_status_12 rfl (Nat.le_of_ble_eq_true rfl) rfl ?_
    show mj_G mtL_status (mj_rm d 1 6) (mj_Fi (mj_qI g q) mj_x0 1 6) false _ _ _ [(0, .ref (k0)), (1, .int (x1)), (2, .ref (k2))] [] g M9
    refine mg_iconst (v := 1) dL_status_13 (by decide) ?_
    exact mex_i dL_status_14 rfl h
  · replace h := hk v1 M1 hq
    refine mg_i2l dL_status_7 ?_
    refine mg_last dL_status_8 h2.1 h2.2 (vp_in_nI (n := 0) (Nat.le_of_ble_eq_true rfl) (Nat.le_of_ble_eq_true rfl)) ?_
    refine mg_goto (tgt := 15) dL_status_9 (by decide) ?_
    refine mg_iconst (v := 0) dL_status_15 (by decide) ?_
    exact mex_i dL_status_16 rfl h
theorem dL_value_0 : decode cL_value 0 = .ok (.aload_n 2, 1) := by decide +kernel
theorem dL_value_1 : decode cL_value 1 = .ok (.iconst 0, 1) := by decide +kernel
theorem dL_value_2 : decode cL_value 2 = .ok (.aload_n 0, 1) := by decide +kernel
theorem dL_value_3 : decode cL_value 3 = .ok (.iload_n 1, 1) := by decide +kernel
theorem dL_value_4 : decode cL_value 4 = .ok (.invokevirtual 37, 3) := by decide +kernel
theorem dL_value_7 : decode cL_value 7 = .ok (.i2l, 1) := by decide +kernel
theorem dL_value_8 : decode cL_value 8 = .ok (.lastore, 1) := by decide +kernel
theorem dL_value_9 : decode cL_value 9 = .ok (.goto 6, 3) := by decide +kernel
theorem dL_value_12 : decode cL_value 12 = .ok (.astore_n 3, 1) := by decide +kernel
theorem dL_value_13 : decode cL_value 13 = .ok (.iconst 1, 1) := by decide +kernel
theorem dL_value_14 : decode cL_value 14 = .ok (.ireturn, 1) := by decide +kernel
theorem dL_value_15 : decode cL_value 15 = .ok (.iconst 0, 1) := by decide +kernel
theorem dL_value_16 : decode cL_value 16 = .ok (.ireturn, 1) := by decide +kernel
abbrev mtL_value : mj_T := (yL_value.cls, cL_value, 4, some .int, mj_tb [(0, 9, 12, 29)], yL_value.name)
abbrev kL_value (k0 : Nat) (x1 : Int32) (k2 : Nat) (g : mj_S) (M : mj_M) (q : Int32 → mj_M → Prop) : Prop := mj_CIW yL_value (.codeWith yL_value cL_value 4 (some .int) [(0, 9, 12, 29)]) 9 1 6 [.ref (k0), .int (x1), .ref (k2)] g M q
theorem eL_value {k0 : Nat} {x1 : Int32} {k2 : Nat} {g : mj_S} {M : mj_M} {q : Int32 → mj_M → Prop} (h0 : is9 g k0) (h2 : k2 < g.1 ∧ g.2.1 k2 = (1, 2, 1)) (h : ∃ (q1 : Int32 → mj_M → Prop) (qx1 : String → mj_M → Prop), kX9_value (k0) (x1) g (M) q1 qx1 ∧ (∀ (X : String) (M9 : mj_M), qx1 X M9 → (X = mj_IO ∧ q (1) (M9))) ∧ ∀ (v1 : Int32) (M1 : mj_M), q1 v1 M1 → (q (0) (mj_wL (M1) (k2) (Int32.toNatClampNeg (0)) (Int32.toInt64 (v1))))) : kL_value (k0) (x1) (k2) g M q := by
  intro d hd; refine mj_enterH (by decide +kernel) (Nat.le_of_ble_eq_true rfl) ?_
  show mj_G mtL_value (mj_rm d 1 6) (mj_Fi (mj_qI g q) mj_x0 1 6) false 1 6 0 [(0, .ref (k0)), (1, .int (x1)), (2, .ref (k2))] [] g M
  refine mg_aload_n dL_value_0 rfl 2 rfl ?_
  refine mg_iconst (v := 0) dL_value_1 (by decide) ?_
  refine mg_aload_n dL_value_2 rfl 0 rfl ?_
  refine mg_iload_n dL_value_3 rfl 1 rfl ?_
  obtain ⟨q1, qx1, hC, hkx, hk⟩ := h
  refine mw_Vi [.int (x1)] [.int (0), .ref (k2)] dL_value_4 wd_864 kiX9_value (Nat.le_of_ble_eq_true rfl) h0.1.1 h0.1.2 rfl (Nat.le_trans (Nat.le_of_ble_eq_true rfl) hd) ⟨Nat.le_of_ble_eq_true rfl, Nat.le_of_ble_eq_true rfl⟩ hC (fun X M9 hx => ?_) (fun v1 M1 hq => ?_)
  · obtain ⟨rfl, h⟩ := hkx X M9 hx
    refine mgx_catch1 (i := 3) [] ⟨0, 9, 12, 29⟩ [] (hh := [(0, 9, 12, 29)]) rfl rfl (by decide) (fun z hz => by cases hz) (by decide) (by decide) wd_816 dL_value_12 rfl (Nat.le_of_ble_eq_true rfl) rfl ?_
    show mj_G mtL_value (mj_rm d 1 6) (mj_Fi (mj_qI g q) mj_x0 1 6) false _ _ _ [(0, .ref (k0)), (1, .int (x1)), (2, .ref (k2))] [] g M9
    refine mg_iconst (v := 1) dL_value_13 (by decide) ?_
    exact mex_i dL_value_14 rfl h
  · replace h := hk v1 M1 hq
    refine mg_i2l dL_value_7 ?_
    refine mg_last dL_value_8 h2.1 h2.2 (vp_in_nI (n := 0) (Nat.le_of_ble_eq_true rfl) (Nat.le_of_ble_eq_true rfl)) ?_
    refine mg_goto (tgt := 15) dL_value_9 (by decide) ?_
    refine mg_iconst (v := 0) dL_value_15 (by decide) ?_
    exact mex_i dL_value_16 rfl h
theorem dL_occurrences_0 : decode cL_occurrences 0 = .ok (.aload_n 2, 1) := by decide +kernel
theorem dL_occurrences_1 : decode cL_occurrences 1 = .ok (.iconst 0, 1) := by decide +kernel
theorem dL_occurrences_2 : decode cL_occurrences 2 = .ok (.aload_n 0, 1) := by decide +kernel
theorem dL_occurrences_3 : decode cL_occurrences 3 = .ok (.iload_n 1, 1) := by decide +kernel
theorem dL_occurrences_4 : decode cL_occurrences 4 = .ok (.invokevirtual 40, 3) := by decide +kernel
theorem dL_occurrences_7 : decode cL_occurrences 7 = .ok (.i2l, 1) := by decide +kernel
theorem dL_occurrences_8 : decode cL_occurrences 8 = .ok (.lastore, 1) := by decide +kernel
theorem dL_occurrences_9 : decode cL_occurrences 9 = .ok (.goto 6, 3) := by decide +kernel
theorem dL_occurrences_12 : decode cL_occurrences 12 = .ok (.astore_n 3, 1) := by decide +kernel
theorem dL_occurrences_13 : decode cL_occurrences 13 = .ok (.iconst 1, 1) := by decide +kernel
theorem dL_occurrences_14 : decode cL_occurrences 14 = .ok (.ireturn, 1) := by decide +kernel
theorem dL_occurrences_15 : decode cL_occurrences 15 = .ok (.iconst 0, 1) := by decide +kernel
theorem dL_occurrences_16 : decode cL_occurrences 16 = .ok (.ireturn, 1) := by decide +kernel
abbrev mtL_occurrences : mj_T := (yL_occurrences.cls, cL_occurrences, 4, some .int, mj_tb [(0, 9, 12, 29)], yL_occurrences.name)
abbrev kL_occurrences (k0 : Nat) (x1 : Int32) (k2 : Nat) (g : mj_S) (M : mj_M) (q : Int32 → mj_M → Prop) : Prop := mj_CIW yL_occurrences (.codeWith yL_occurrences cL_occurrences 4 (some .int) [(0, 9, 12, 29)]) 9 1 6 [.ref (k0), .int (x1), .ref (k2)] g M q
theorem eL_occurrences {k0 : Nat} {x1 : Int32} {k2 : Nat} {g : mj_S} {M : mj_M} {q : Int32 → mj_M → Prop} (h0 : is9 g k0) (h2 : k2 < g.1 ∧ g.2.1 k2 = (1, 2, 1)) (h : ∃ (q1 : Int32 → mj_M → Prop) (qx1 : String → mj_M → Prop), kX9_occurrences (k0) (x1) g (M) q1 qx1 ∧ (∀ (X : String) (M9 : mj_M), qx1 X M9 → (X = mj_IO ∧ q (1) (M9))) ∧ ∀ (v1 : Int32) (M1 : mj_M), q1 v1 M1 → (q (0) (mj_wL (M1) (k2) (Int32.toNatClampNeg (0)) (Int32.toInt64 (v1))))) : kL_occurrences (k0) (x1) (k2) g M q := by
  intro d hd; refine mj_enterH (by decide +kernel) (Nat.le_of_ble_eq_true rfl) ?_
  show mj_G mtL_occurrences (mj_rm d 1 6) (mj_Fi (mj_qI g q) mj_x0 1 6) false 1 6 0 [(0, .ref (k0)), (1, .int (x1)), (2, .ref (k2))] [] g M
  refine mg_aload_n dL_occurrences_0 rfl 2 rfl ?_
  refine mg_iconst (v := 0) dL_occurrences_1 (by decide) ?_
  refine mg_aload_n dL_occurrences_2 rfl 0 rfl ?_
  refine mg_iload_n dL_occurrences_3 rfl 1 rfl ?_
  obtain ⟨q1, qx1, hC, hkx, hk⟩ := h
  refine mw_Vi [.int (x1)] [.int (0), .ref (k2)] dL_occurrences_4 wd_871 kiX9_occurrences (Nat.le_of_ble_eq_true rfl) h0.1.1 h0.1.2 rfl (Nat.le_trans (Nat.le_of_ble_eq_true rfl) hd) ⟨Nat.le_of_ble_eq_true rfl, Nat.le_of_ble_eq_true rfl⟩ hC (fun X M9 hx => ?_) (fun v1 M1 hq => ?_)
  · obtain ⟨rfl, h⟩ := hkx X M9 hx
    refine mgx_catch1 (i := 3) [] ⟨0, 9, 12, 29⟩ [] (hh := [(0, 9, 12, 29)]) rfl rfl (by decide) (fun z hz => by cases hz) (by decide) (by decide) wd_816 dL_occurrences_12 rfl (Nat.le_of_ble_eq_true rfl) rfl ?_
    show mj_G mtL_occurrences (mj_rm d 1 6) (mj_Fi (mj_qI g q) mj_x0 1 6) false _ _ _ [(0, .ref (k0)), (1, .int (x1)), (2, .ref (k2))] [] g M9
    refine mg_iconst (v := 1) dL_occurrences_13 (by decide) ?_
    exact mex_i dL_occurrences_14 rfl h
  · replace h := hk v1 M1 hq
    refine mg_i2l dL_occurrences_7 ?_
    refine mg_last dL_occurrences_8 h2.1 h2.2 (vp_in_nI (n := 0) (Nat.le_of_ble_eq_true rfl) (Nat.le_of_ble_eq_true rfl)) ?_
    refine mg_goto (tgt := 15) dL_occurrences_9 (by decide) ?_
    refine mg_iconst (v := 0) dL_occurrences_15 (by decide) ?_
    exact mex_i dL_occurrences_16 rfl h
theorem dL_append_0 : decode cL_append 0 = .ok (.aload_n 2, 1) := by decide +kernel
theorem dL_append_1 : decode cL_append 1 = .ok (.iconst 0, 1) := by decide +kernel
theorem dL_append_2 : decode cL_append 2 = .ok (.aload_n 0, 1) := by decide +kernel
theorem dL_append_3 : decode cL_append 3 = .ok (.iload_n 1, 1) := by decide +kernel
theorem dL_append_4 : decode cL_append 4 = .ok (.invokevirtual 43, 3) := by decide +kernel
theorem dL_append_7 : decode cL_append 7 = .ok (.i2l, 1) := by decide +kernel
theorem dL_append_8 : decode cL_append 8 = .ok (.lastore, 1) := by decide +kernel
theorem dL_append_9 : decode cL_append 9 = .ok (.goto 9, 3) := by decide +kernel
theorem dL_append_12 : decode cL_append 12 = .ok (.astore_n 3, 1) := by decide +kernel
theorem dL_append_13 : decode cL_append 13 = .ok (.iconst 1, 1) := by decide +kernel
theorem dL_append_14 : decode cL_append 14 = .ok (.ireturn, 1) := by decide +kernel
theorem dL_append_15 : decode cL_append 15 = .ok (.astore_n 3, 1) := by decide +kernel
theorem dL_append_16 : decode cL_append 16 = .ok (.iconst 2, 1) := by decide +kernel
theorem dL_append_17 : decode cL_append 17 = .ok (.ireturn, 1) := by decide +kernel
theorem dL_append_18 : decode cL_append 18 = .ok (.iconst 0, 1) := by decide +kernel
theorem dL_append_19 : decode cL_append 19 = .ok (.ireturn, 1) := by decide +kernel
abbrev mtL_append : mj_T := (yL_append.cls, cL_append, 4, some .int, mj_tb [(0, 9, 12, 13), (0, 9, 15, 19)], yL_append.name)
abbrev kL_append (k0 : Nat) (x1 : Int32) (k2 : Nat) (g : mj_S) (M : mj_M) (q : Int32 → mj_M → Prop) : Prop := mj_CIW yL_append (.codeWith yL_append cL_append 4 (some .int) [(0, 9, 12, 13), (0, 9, 15, 19)]) 8 1 6 [.ref (k0), .int (x1), .ref (k2)] g M q
theorem eL_append {k0 : Nat} {x1 : Int32} {k2 : Nat} {g : mj_S} {M : mj_M} {q : Int32 → mj_M → Prop} (h0 : is9 g k0) (h2 : k2 < g.1 ∧ g.2.1 k2 = (1, 2, 1)) (h : ∃ (q1 : Int32 → mj_M → Prop) (qx1 : String → mj_M → Prop), kX9_append (k0) (x1) g (M) q1 qx1 ∧ (∀ (X : String) (M9 : mj_M), qx1 X M9 → (X = mj_IA ∧ q (1) (M9)) ∨ (X = mj_IS ∧ q (2) (M9))) ∧ ∀ (v1 : Int32) (M1 : mj_M), q1 v1 M1 → (q (0) (mj_wL (M1) (k2) (Int32.toNatClampNeg (0)) (Int32.toInt64 (v1))))) : kL_append (k0) (x1) (k2) g M q := by
  intro d hd; refine mj_enterH (by decide +kernel) (Nat.le_of_ble_eq_true rfl) ?_
  show mj_G mtL_append (mj_rm d 1 6) (mj_Fi (mj_qI g q) mj_x0 1 6) false 1 6 0 [(0, .ref (k0)), (1, .int (x1)), (2, .ref (k2))] [] g M
  refine mg_aload_n dL_append_0 rfl 2 rfl ?_
  refine mg_iconst (v := 0) dL_append_1 (by decide) ?_
  refine mg_aload_n dL_append_2 rfl 0 rfl ?_
  refine mg_iload_n dL_append_3 rfl 1 rfl ?_
  obtain ⟨q1, qx1, hC, hkx, hk⟩ := h
  refine mw_Vi [.int (x1)] [.int (0), .ref (k2)] dL_append_4 wd_884 kiX9_append (Nat.le_of_ble_eq_true rfl) h0.1.1 h0.1.2 rfl (Nat.le_trans (Nat.le_of_ble_eq_true rfl) hd) ⟨Nat.le_of_ble_eq_true rfl, Nat.le_of_ble_eq_true rfl⟩ hC (fun X M9 hx => ?_) (fun v1 M1 hq => ?_)
  · rcases hkx X M9 hx with ⟨rfl, h⟩ | ⟨rfl, h⟩
    · refine mgx_catch1 (i := 3) [] ⟨0, 9, 12, 13⟩ [⟨0, 9, 15, 19⟩] (hh := [(0, 9, 12, 13), (0, 9, 15, 19)]) rfl rfl (by decide) (fun z hz => by cases hz) (by decide) (by decide) wd_672 dL_append_12 rfl (Nat.le_of_ble_eq_true rfl) rfl ?_
      show mj_G mtL_append (mj_rm d 1 6) (mj_Fi (mj_qI g q) mj_x0 1 6) false _ _ _ [(0, .ref (k0)), (1, .int (x1)), (2, .ref (k2))] [] g M9
      refine mg_iconst (v := 1) dL_append_13 (by decide) ?_
      exact mex_i dL_append_14 rfl h
    · refine mgx_catch1 (i := 3) [⟨0, 9, 12, 13⟩] ⟨0, 9, 15, 19⟩ [] (hh := [(0, 9, 12, 13), (0, 9, 15, 19)]) rfl rfl (by decide) (fun z hz => by rcases List.mem_cons.mp hz with rfl | hz; exact ⟨by decide, mj_IA, by decide, wd_672, by decide⟩; cases hz) (by decide) (by decide) wd_753 dL_append_15 rfl (Nat.le_of_ble_eq_true rfl) rfl ?_
      show mj_G mtL_append (mj_rm d 1 6) (mj_Fi (mj_qI g q) mj_x0 1 6) false _ _ _ [(0, .ref (k0)), (1, .int (x1)), (2, .ref (k2))] [] g M9
      refine mg_iconst (v := 2) dL_append_16 (by decide) ?_
      exact mex_i dL_append_17 rfl h
  · replace h := hk v1 M1 hq
    refine mg_i2l dL_append_7 ?_
    refine mg_last dL_append_8 h2.1 h2.2 (vp_in_nI (n := 0) (Nat.le_of_ble_eq_true rfl) (Nat.le_of_ble_eq_true rfl)) ?_
    refine mg_goto (tgt := 18) dL_append_9 (by decide) ?_
    refine mg_iconst (v := 0) dL_append_18 (by decide) ?_
    exact mex_i dL_append_19 rfl h
theorem dL_readClauses_0 : decode cL_readClauses 0 = .ok (.aload_n 1, 1) := by decide +kernel
theorem dL_readClauses_1 : decode cL_readClauses 1 = .ok (.iconst 0, 1) := by decide +kernel
theorem dL_readClauses_2 : decode cL_readClauses 2 = .ok (.aload_n 0, 1) := by decide +kernel
theorem dL_readClauses_3 : decode cL_readClauses 3 = .ok (.invokevirtual 46, 3) := by decide +kernel
theorem dL_readClauses_6 : decode cL_readClauses 6 = .ok (.i2l, 1) := by decide +kernel
theorem dL_readClauses_7 : decode cL_readClauses 7 = .ok (.lastore, 1) := by decide +kernel
theorem dL_readClauses_8 : decode cL_readClauses 8 = .ok (.goto 6, 3) := by decide +kernel
theorem dL_readClauses_11 : decode cL_readClauses 11 = .ok (.astore_n 2, 1) := by decide +kernel
theorem dL_readClauses_12 : decode cL_readClauses 12 = .ok (.iconst 1, 1) := by decide +kernel
theorem dL_readClauses_13 : decode cL_readClauses 13 = .ok (.ireturn, 1) := by decide +kernel
theorem dL_readClauses_14 : decode cL_readClauses 14 = .ok (.iconst 0, 1) := by decide +kernel
theorem dL_readClauses_15 : decode cL_readClauses 15 = .ok (.ireturn, 1) := by decide +kernel
abbrev mtL_readClauses : mj_T := (yL_readClauses.cls, cL_readClauses, 3, some .int, mj_tb [(0, 8, 11, 19)], yL_readClauses.name)
abbrev kL_readClauses (k0 : Nat) (k1 : Nat) (g : mj_S) (M : mj_M) (q : Int32 → mj_M → Prop) : Prop := mj_CIW yL_readClauses (.codeWith yL_readClauses cL_readClauses 3 (some .int) [(0, 8, 11, 19)]) 9 2 12 [.ref (k0), .ref (k1)] g M q
theorem eL_readClauses {k0 : Nat} {k1 : Nat} {g : mj_S} {M : mj_M} {q : Int32 → mj_M → Prop} (h0 : is9 g k0) (h1 : k1 < g.1 ∧ g.2.1 k1 = (1, 2, 1)) (h : ∃ (q1 : Int32 → mj_M → Prop) (qx1 : String → mj_M → Prop), kX9_readClauses (k0) g (M) q1 qx1 ∧ (∀ (X : String) (M9 : mj_M), qx1 X M9 → (X = mj_IS ∧ q (1) (M9))) ∧ ∀ (v1 : Int32) (M1 : mj_M), q1 v1 M1 → (q (0) (mj_wL (M1) (k1) (Int32.toNatClampNeg (0)) (Int32.toInt64 (v1))))) : kL_readClauses (k0) (k1) g M q := by
  intro d hd; refine mj_enterH (by decide +kernel) (Nat.le_of_ble_eq_true rfl) ?_
  show mj_G mtL_readClauses (mj_rm d 2 12) (mj_Fi (mj_qI g q) mj_x0 2 12) false 2 12 0 [(0, .ref (k0)), (1, .ref (k1))] [] g M
  refine mg_aload_n dL_readClauses_0 rfl 1 rfl ?_
  refine mg_iconst (v := 0) dL_readClauses_1 (by decide) ?_
  refine mg_aload_n dL_readClauses_2 rfl 0 rfl ?_
  obtain ⟨q1, qx1, hC, hkx, hk⟩ := h
  refine mw_Vi [] [.int (0), .ref (k1)] dL_readClauses_3 wd_901 kiX9_readClauses (Nat.le_of_ble_eq_true rfl) h0.1.1 h0.1.2 rfl (Nat.le_trans (Nat.le_of_ble_eq_true rfl) hd) ⟨Nat.le_of_ble_eq_true rfl, Nat.le_of_ble_eq_true rfl⟩ hC (fun X M9 hx => ?_) (fun v1 M1 hq => ?_)
  · obtain ⟨rfl, h⟩ := hkx X M9 hx
    refine mgx_catch1 (i := 2) [] ⟨0, 8, 11, 19⟩ [] (hh := [(0, 8, 11, 19)]) rfl rfl (by decide) (fun z hz => by cases hz) (by decide) (by decide) wd_753 dL_readClauses_11 rfl (Nat.le_of_ble_eq_true rfl) rfl ?_
    show mj_G mtL_readClauses (mj_rm d 2 12) (mj_Fi (mj_qI g q) mj_x0 2 12) false _ _ _ [(0, .ref (k0)), (1, .ref (k1))] [] g M9
    refine mg_iconst (v := 1) dL_readClauses_12 (by decide) ?_
    exact mex_i dL_readClauses_13 rfl h
  · replace h := hk v1 M1 hq
    refine mg_i2l dL_readClauses_6 ?_
    refine mg_last dL_readClauses_7 h1.1 h1.2 (vp_in_nI (n := 0) (Nat.le_of_ble_eq_true rfl) (Nat.le_of_ble_eq_true rfl)) ?_
    refine mg_goto (tgt := 14) dL_readClauses_8 (by decide) ?_
    refine mg_iconst (v := 0) dL_readClauses_14 (by decide) ?_
    exact mex_i dL_readClauses_15 rfl h
theorem dL_outputByte_0 : decode cL_outputByte 0 = .ok (.aload_n 2, 1) := by decide +kernel
theorem dL_outputByte_1 : decode cL_outputByte 1 = .ok (.iconst 0, 1) := by decide +kernel
theorem dL_outputByte_2 : decode cL_outputByte 2 = .ok (.aload_n 0, 1) := by decide +kernel
theorem dL_outputByte_3 : decode cL_outputByte 3 = .ok (.iload_n 1, 1) := by decide +kernel
theorem dL_outputByte_4 : decode cL_outputByte 4 = .ok (.invokevirtual 50, 3) := by decide +kernel
theorem dL_outputByte_7 : decode cL_outputByte 7 = .ok (.i2l, 1) := by decide +kernel
theorem dL_outputByte_8 : decode cL_outputByte 8 = .ok (.lastore, 1) := by decide +kernel
theorem dL_outputByte_9 : decode cL_outputByte 9 = .ok (.goto 6, 3) := by decide +kernel
theorem dL_outputByte_12 : decode cL_outputByte 12 = .ok (.astore_n 3, 1) := by decide +kernel
theorem dL_outputByte_13 : decode cL_outputByte 13 = .ok (.iconst 1, 1) := by decide +kernel
theorem dL_outputByte_14 : decode cL_outputByte 14 = .ok (.ireturn, 1) := by decide +kernel
theorem dL_outputByte_15 : decode cL_outputByte 15 = .ok (.iconst 0, 1) := by decide +kernel
theorem dL_outputByte_16 : decode cL_outputByte 16 = .ok (.ireturn, 1) := by decide +kernel
abbrev mtL_outputByte : mj_T := (yL_outputByte.cls, cL_outputByte, 4, some .int, mj_tb [(0, 9, 12, 13)], yL_outputByte.name)
abbrev kL_outputByte (k0 : Nat) (x1 : Int32) (k2 : Nat) (g : mj_S) (M : mj_M) (q : Int32 → mj_M → Prop) : Prop := mj_CIW yL_outputByte (.codeWith yL_outputByte cL_outputByte 4 (some .int) [(0, 9, 12, 13)]) 8 1 6 [.ref (k0), .int (x1), .ref (k2)] g M q
theorem eL_outputByte {k0 : Nat} {x1 : Int32} {k2 : Nat} {g : mj_S} {M : mj_M} {q : Int32 → mj_M → Prop} (h0 : is9 g k0) (h2 : k2 < g.1 ∧ g.2.1 k2 = (1, 2, 1)) (h : ∃ (q1 : Int32 → mj_M → Prop) (qx1 : String → mj_M → Prop), kX9_outputByte (k0) (x1) g (M) q1 qx1 ∧ (∀ (X : String) (M9 : mj_M), qx1 X M9 → (X = mj_IA ∧ q (1) (M9))) ∧ ∀ (v1 : Int32) (M1 : mj_M), q1 v1 M1 → (q (0) (mj_wL (M1) (k2) (Int32.toNatClampNeg (0)) (Int32.toInt64 (v1))))) : kL_outputByte (k0) (x1) (k2) g M q := by
  intro d hd; refine mj_enterH (by decide +kernel) (Nat.le_of_ble_eq_true rfl) ?_
  show mj_G mtL_outputByte (mj_rm d 1 6) (mj_Fi (mj_qI g q) mj_x0 1 6) false 1 6 0 [(0, .ref (k0)), (1, .int (x1)), (2, .ref (k2))] [] g M
  refine mg_aload_n dL_outputByte_0 rfl 2 rfl ?_
  refine mg_iconst (v := 0) dL_outputByte_1 (by decide) ?_
  refine mg_aload_n dL_outputByte_2 rfl 0 rfl ?_
  refine mg_iload_n dL_outputByte_3 rfl 1 rfl ?_
  obtain ⟨q1, qx1, hC, hkx, hk⟩ := h
  refine mw_Vi [.int (x1)] [.int (0), .ref (k2)] dL_outputByte_4 wd_951 kiX9_outputByte (Nat.le_of_ble_eq_true rfl) h0.1.1 h0.1.2 rfl (Nat.le_trans (Nat.le_of_ble_eq_true rfl) hd) ⟨Nat.le_of_ble_eq_true rfl, Nat.le_of_ble_eq_true rfl⟩ hC (fun X M9 hx => ?_) (fun v1 M1 hq => ?_)
  · obtain ⟨rfl, h⟩ := hkx X M9 hx
    refine mgx_catch1 (i := 3) [] ⟨0, 9, 12, 13⟩ [] (hh := [(0, 9, 12, 13)]) rfl rfl (by decide) (fun z hz => by cases hz) (by decide) (by decide) wd_672 dL_outputByte_12 rfl (Nat.le_of_ble_eq_true rfl) rfl ?_
    show mj_G mtL_outputByte (mj_rm d 1 6) (mj_Fi (mj_qI g q) mj_x0 1 6) false _ _ _ [(0, .ref (k0)), (1, .int (x1)), (2, .ref (k2))] [] g M9
    refine mg_iconst (v := 1) dL_outputByte_13 (by decide) ?_
    exact mex_i dL_outputByte_14 rfl h
  · replace h := hk v1 M1 hq
    refine mg_i2l dL_outputByte_7 ?_
    refine mg_last dL_outputByte_8 h2.1 h2.2 (vp_in_nI (n := 0) (Nat.le_of_ble_eq_true rfl) (Nat.le_of_ble_eq_true rfl)) ?_
    refine mg_goto (tgt := 15) dL_outputByte_9 (by decide) ?_
    refine mg_iconst (v := 0) dL_outputByte_15 (by decide) ?_
    exact mex_i dL_outputByte_16 rfl h
theorem dL_apply_0 : decode cL_apply 0 = .ok (.aload_n 2, 1) := by decide +kernel
theorem dL_apply_1 : decode cL_apply 1 = .ok (.iconst 0, 1) := by decide +kernel
theorem dL_apply_2 : decode cL_apply 2 = .ok (.aload_n 0, 1) := by decide +kernel
theorem dL_apply_3 : decode cL_apply 3 = .ok (.iload_n 1, 1) := by decide +kernel
theorem dL_apply_4 : decode cL_apply 4 = .ok (.invokevirtual 53, 3) := by decide +kernel
theorem dL_apply_7 : decode cL_apply 7 = .ok (.i2l, 1) := by decide +kernel
theorem dL_apply_8 : decode cL_apply 8 = .ok (.lastore, 1) := by decide +kernel
theorem dL_apply_9 : decode cL_apply 9 = .ok (.goto 6, 3) := by decide +kernel
theorem dL_apply_12 : decode cL_apply 12 = .ok (.astore_n 3, 1) := by decide +kernel
theorem dL_apply_13 : decode cL_apply 13 = .ok (.iconst 1, 1) := by decide +kernel
theorem dL_apply_14 : decode cL_apply 14 = .ok (.ireturn, 1) := by decide +kernel
theorem dL_apply_15 : decode cL_apply 15 = .ok (.iconst 0, 1) := by decide +kernel
theorem dL_apply_16 : decode cL_apply 16 = .ok (.ireturn, 1) := by decide +kernel
abbrev mtL_apply : mj_T := (yL_apply.cls, cL_apply, 4, some .int, mj_tb [(0, 9, 12, 13)], yL_apply.name)
abbrev kL_apply (k0 : Nat) (x1 : Int32) (k2 : Nat) (g : mj_S) (M : mj_M) (q : Int32 → mj_M → Prop) : Prop := mj_CIW yL_apply (.codeWith yL_apply cL_apply 4 (some .int) [(0, 9, 12, 13)]) 9 1 6 [.ref (k0), .int (x1), .ref (k2)] g M q
theorem eL_apply {k0 : Nat} {x1 : Int32} {k2 : Nat} {g : mj_S} {M : mj_M} {q : Int32 → mj_M → Prop} (h0 : is9 g k0) (h2 : k2 < g.1 ∧ g.2.1 k2 = (1, 2, 1)) (h : ∃ (q1 : Int32 → mj_M → Prop) (qx1 : String → mj_M → Prop), kX9_apply (k0) (x1) g (M) q1 qx1 ∧ (∀ (X : String) (M9 : mj_M), qx1 X M9 → (X = mj_IA ∧ q (1) (M9))) ∧ ∀ (v1 : Int32) (M1 : mj_M), q1 v1 M1 → (q (0) (mj_wL (M1) (k2) (Int32.toNatClampNeg (0)) (Int32.toInt64 (v1))))) : kL_apply (k0) (x1) (k2) g M q := by
  intro d hd; refine mj_enterH (by decide +kernel) (Nat.le_of_ble_eq_true rfl) ?_
  show mj_G mtL_apply (mj_rm d 1 6) (mj_Fi (mj_qI g q) mj_x0 1 6) false 1 6 0 [(0, .ref (k0)), (1, .int (x1)), (2, .ref (k2))] [] g M
  refine mg_aload_n dL_apply_0 rfl 2 rfl ?_
  refine mg_iconst (v := 0) dL_apply_1 (by decide) ?_
  refine mg_aload_n dL_apply_2 rfl 0 rfl ?_
  refine mg_iload_n dL_apply_3 rfl 1 rfl ?_
  obtain ⟨q1, qx1, hC, hkx, hk⟩ := h
  refine mw_Vi [.int (x1)] [.int (0), .ref (k2)] dL_apply_4 wd_971 kiX9_apply (Nat.le_of_ble_eq_true rfl) h0.1.1 h0.1.2 rfl (Nat.le_trans (Nat.le_of_ble_eq_true rfl) hd) ⟨Nat.le_of_ble_eq_true rfl, Nat.le_of_ble_eq_true rfl⟩ hC (fun X M9 hx => ?_) (fun v1 M1 hq => ?_)
  · obtain ⟨rfl, h⟩ := hkx X M9 hx
    refine mgx_catch1 (i := 3) [] ⟨0, 9, 12, 13⟩ [] (hh := [(0, 9, 12, 13)]) rfl rfl (by decide) (fun z hz => by cases hz) (by decide) (by decide) wd_672 dL_apply_12 rfl (Nat.le_of_ble_eq_true rfl) rfl ?_
    show mj_G mtL_apply (mj_rm d 1 6) (mj_Fi (mj_qI g q) mj_x0 1 6) false _ _ _ [(0, .ref (k0)), (1, .int (x1)), (2, .ref (k2))] [] g M9
    refine mg_iconst (v := 1) dL_apply_13 (by decide) ?_
    exact mex_i dL_apply_14 rfl h
  · replace h := hk v1 M1 hq
    refine mg_i2l dL_apply_7 ?_
    refine mg_last dL_apply_8 h2.1 h2.2 (vp_in_nI (n := 0) (Nat.le_of_ble_eq_true rfl) (Nat.le_of_ble_eq_true rfl)) ?_
    refine mg_goto (tgt := 15) dL_apply_9 (by decide) ?_
    refine mg_iconst (v := 0) dL_apply_15 (by decide) ?_
    exact mex_i dL_apply_16 rfl h
theorem dL_run_0 : decode cL_run 0 = .ok (.aload_n 2, 1) := by decide +kernel
theorem dL_run_1 : decode cL_run 1 = .ok (.iconst 0, 1) := by decide +kernel
theorem dL_run_2 : decode cL_run 2 = .ok (.aload_n 0, 1) := by decide +kernel
theorem dL_run_3 : decode cL_run 3 = .ok (.iload_n 1, 1) := by decide +kernel
theorem dL_run_4 : decode cL_run 4 = .ok (.invokevirtual 56, 3) := by decide +kernel
theorem dL_run_7 : decode cL_run 7 = .ok (.i2l, 1) := by decide +kernel
theorem dL_run_8 : decode cL_run 8 = .ok (.lastore, 1) := by decide +kernel
theorem dL_run_9 : decode cL_run 9 = .ok (.goto 6, 3) := by decide +kernel
theorem dL_run_12 : decode cL_run 12 = .ok (.astore_n 3, 1) := by decide +kernel
theorem dL_run_13 : decode cL_run 13 = .ok (.iconst 1, 1) := by decide +kernel
theorem dL_run_14 : decode cL_run 14 = .ok (.ireturn, 1) := by decide +kernel
theorem dL_run_15 : decode cL_run 15 = .ok (.iconst 0, 1) := by decide +kernel
theorem dL_run_16 : decode cL_run 16 = .ok (.ireturn, 1) := by decide +kernel
abbrev mtL_run : mj_T := (yL_run.cls, cL_run, 4, some .int, mj_tb [(0, 9, 12, 13)], yL_run.name)
abbrev kL_run (k0 : Nat) (x1 : Int32) (k2 : Nat) (g : mj_S) (M : mj_M) (q : Int32 → mj_M → Prop) : Prop := mj_CIW yL_run (.codeWith yL_run cL_run 4 (some .int) [(0, 9, 12, 13)]) 8 1 6 [.ref (k0), .int (x1), .ref (k2)] g M q
theorem eL_run {k0 : Nat} {x1 : Int32} {k2 : Nat} {g : mj_S} {M : mj_M} {q : Int32 → mj_M → Prop} (h0 : is9 g k0) (h2 : k2 < g.1 ∧ g.2.1 k2 = (1, 2, 1)) (h : ∃ (q1 : Int32 → mj_M → Prop) (qx1 : String → mj_M → Prop), kX9_run (k0) (x1) g (M) q1 qx1 ∧ (∀ (X : String) (M9 : mj_M), qx1 X M9 → (X = mj_IA ∧ q (1) (M9))) ∧ ∀ (v1 : Int32) (M1 : mj_M), q1 v1 M1 → (q (0) (mj_wL (M1) (k2) (Int32.toNatClampNeg (0)) (Int32.toInt64 (v1))))) : kL_run (k0) (x1) (k2) g M q := by
  intro d hd; refine mj_enterH (by decide +kernel) (Nat.le_of_ble_eq_true rfl) ?_
  show mj_G mtL_run (mj_rm d 1 6) (mj_Fi (mj_qI g q) mj_x0 1 6) false 1 6 0 [(0, .ref (k0)), (1, .int (x1)), (2, .ref (k2))] [] g M
  refine mg_aload_n dL_run_0 rfl 2 rfl ?_
  refine mg_iconst (v := 0) dL_run_1 (by decide) ?_
  refine mg_aload_n dL_run_2 rfl 0 rfl ?_
  refine mg_iload_n dL_run_3 rfl 1 rfl ?_
  obtain ⟨q1, qx1, hC, hkx, hk⟩ := h
  refine mw_Vi [.int (x1)] [.int (0), .ref (k2)] dL_run_4 wd_983 kiX9_run (Nat.le_of_ble_eq_true rfl) h0.1.1 h0.1.2 rfl (Nat.le_trans (Nat.le_of_ble_eq_true rfl) hd) ⟨Nat.le_of_ble_eq_true rfl, Nat.le_of_ble_eq_true rfl⟩ hC (fun X M9 hx => ?_) (fun v1 M1 hq => ?_)
  · obtain ⟨rfl, h⟩ := hkx X M9 hx
    refine mgx_catch1 (i := 3) [] ⟨0, 9, 12, 13⟩ [] (hh := [(0, 9, 12, 13)]) rfl rfl (by decide) (fun z hz => by cases hz) (by decide) (by decide) wd_672 dL_run_12 rfl (Nat.le_of_ble_eq_true rfl) rfl ?_
    show mj_G mtL_run (mj_rm d 1 6) (mj_Fi (mj_qI g q) mj_x0 1 6) false _ _ _ [(0, .ref (k0)), (1, .int (x1)), (2, .ref (k2))] [] g M9
    refine mg_iconst (v := 1) dL_run_13 (by decide) ?_
    exact mex_i dL_run_14 rfl h
  · replace h := hk v1 M1 hq
    refine mg_i2l dL_run_7 ?_
    refine mg_last dL_run_8 h2.1 h2.2 (vp_in_nI (n := 0) (Nat.le_of_ble_eq_true rfl) (Nat.le_of_ble_eq_true rfl)) ?_
    refine mg_goto (tgt := 15) dL_run_9 (by decide) ?_
    refine mg_iconst (v := 0) dL_run_15 (by decide) ?_
    exact mex_i dL_run_16 rfl h
theorem dL_eliminate_0 : decode cL_eliminate 0 = .ok (.aload_n 2, 1) := by decide +kernel
theorem dL_eliminate_1 : decode cL_eliminate 1 = .ok (.iconst 0, 1) := by decide +kernel
theorem dL_eliminate_2 : decode cL_eliminate 2 = .ok (.aload_n 0, 1) := by decide +kernel
theorem dL_eliminate_3 : decode cL_eliminate 3 = .ok (.iload_n 1, 1) := by decide +kernel
theorem dL_eliminate_4 : decode cL_eliminate 4 = .ok (.invokevirtual 59, 3) := by decide +kernel
theorem dL_eliminate_7 : decode cL_eliminate 7 = .ok (.i2l, 1) := by decide +kernel
theorem dL_eliminate_8 : decode cL_eliminate 8 = .ok (.lastore, 1) := by decide +kernel
theorem dL_eliminate_9 : decode cL_eliminate 9 = .ok (.goto 9, 3) := by decide +kernel
theorem dL_eliminate_12 : decode cL_eliminate 12 = .ok (.astore_n 3, 1) := by decide +kernel
theorem dL_eliminate_13 : decode cL_eliminate 13 = .ok (.iconst 1, 1) := by decide +kernel
theorem dL_eliminate_14 : decode cL_eliminate 14 = .ok (.ireturn, 1) := by decide +kernel
theorem dL_eliminate_15 : decode cL_eliminate 15 = .ok (.astore_n 3, 1) := by decide +kernel
theorem dL_eliminate_16 : decode cL_eliminate 16 = .ok (.iconst 2, 1) := by decide +kernel
theorem dL_eliminate_17 : decode cL_eliminate 17 = .ok (.ireturn, 1) := by decide +kernel
theorem dL_eliminate_18 : decode cL_eliminate 18 = .ok (.iconst 0, 1) := by decide +kernel
theorem dL_eliminate_19 : decode cL_eliminate 19 = .ok (.ireturn, 1) := by decide +kernel
abbrev mtL_eliminate : mj_T := (yL_eliminate.cls, cL_eliminate, 4, some .int, mj_tb [(0, 9, 12, 29), (0, 9, 15, 19)], yL_eliminate.name)
abbrev kL_eliminate (k0 : Nat) (x1 : Int32) (k2 : Nat) (g : mj_S) (M : mj_M) (q : Int32 → mj_M → Prop) : Prop := mj_CIW yL_eliminate (.codeWith yL_eliminate cL_eliminate 4 (some .int) [(0, 9, 12, 29), (0, 9, 15, 19)]) 9 2 12 [.ref (k0), .int (x1), .ref (k2)] g M q
theorem eL_eliminate {k0 : Nat} {x1 : Int32} {k2 : Nat} {g : mj_S} {M : mj_M} {q : Int32 → mj_M → Prop} (h0 : is9 g k0) (h2 : k2 < g.1 ∧ g.2.1 k2 = (1, 2, 1)) (h : ∃ (q1 : Int32 → mj_M → Prop) (qx1 : String → mj_M → Prop), kX9_eliminate (k0) (x1) g (M) q1 qx1 ∧ (∀ (X : String) (M9 : mj_M), qx1 X M9 → (X = mj_IO ∧ q (1) (M9)) ∨ (X = mj_IS ∧ q (2) (M9))) ∧ ∀ (v1 : Int32) (M1 : mj_M), q1 v1 M1 → (q (0) (mj_wL (M1) (k2) (Int32.toNatClampNeg (0)) (Int32.toInt64 (v1))))) : kL_eliminate (k0) (x1) (k2) g M q := by
  intro d hd; refine mj_enterH (by decide +kernel) (Nat.le_of_ble_eq_true rfl) ?_
  show mj_G mtL_eliminate (mj_rm d 2 12) (mj_Fi (mj_qI g q) mj_x0 2 12) false 2 12 0 [(0, .ref (k0)), (1, .int (x1)), (2, .ref (k2))] [] g M
  refine mg_aload_n dL_eliminate_0 rfl 2 rfl ?_
  refine mg_iconst (v := 0) dL_eliminate_1 (by decide) ?_
  refine mg_aload_n dL_eliminate_2 rfl 0 rfl ?_
  refine mg_iload_n dL_eliminate_3 rfl 1 rfl ?_
  obtain ⟨q1, qx1, hC, hkx, hk⟩ := h
  refine mw_Vi [.int (x1)] [.int (0), .ref (k2)] dL_eliminate_4 wd_1084 kiX9_eliminate (Nat.le_of_ble_eq_true rfl) h0.1.1 h0.1.2 rfl (Nat.le_trans (Nat.le_of_ble_eq_true rfl) hd) ⟨Nat.le_of_ble_eq_true rfl, Nat.le_of_ble_eq_true rfl⟩ hC (fun X M9 hx => ?_) (fun v1 M1 hq => ?_)
  · rcases hkx X M9 hx with ⟨rfl, h⟩ | ⟨rfl, h⟩
    · refine mgx_catch1 (i := 3) [] ⟨0, 9, 12, 29⟩ [⟨0, 9, 15, 19⟩] (hh := [(0, 9, 12, 29), (0, 9, 15, 19)]) rfl rfl (by decide) (fun z hz => by cases hz) (by decide) (by decide) wd_816 dL_eliminate_12 rfl (Nat.le_of_ble_eq_true rfl) rfl ?_
      show mj_G mtL_eliminate (mj_rm d 2 12) (mj_Fi (mj_qI g q) mj_x0 2 12) false _ _ _ [(0, .ref (k0)), (1, .int (x1)), (2, .ref (k2))] [] g M9
      refine mg_iconst (v := 1) dL_eliminate_13 (by decide) ?_
      exact mex_i dL_eliminate_14 rfl h
    · refine mgx_catch1 (i := 3) [⟨0, 9, 12, 29⟩] ⟨0, 9, 15, 19⟩ [] (hh := [(0, 9, 12, 29), (0, 9, 15, 19)]) rfl rfl (by decide) (fun z hz => by rcases List.mem_cons.mp hz with rfl | hz; exact ⟨by decide, mj_IO, by decide, wd_816, by decide⟩; cases hz) (by decide) (by decide) wd_753 dL_eliminate_15 rfl (Nat.le_of_ble_eq_true rfl) rfl ?_
      show mj_G mtL_eliminate (mj_rm d 2 12) (mj_Fi (mj_qI g q) mj_x0 2 12) false _ _ _ [(0, .ref (k0)), (1, .int (x1)), (2, .ref (k2))] [] g M9
      refine mg_iconst (v := 2) dL_eliminate_16 (by decide) ?_
      exact mex_i dL_eliminate_17 rfl h
  · replace h := hk v1 M1 hq
    refine mg_i2l dL_eliminate_7 ?_
    refine mg_last dL_eliminate_8 h2.1 h2.2 (vp_in_nI (n := 0) (Nat.le_of_ble_eq_true rfl) (Nat.le_of_ble_eq_true rfl)) ?_
    refine mg_goto (tgt := 18) dL_eliminate_9 (by decide) ?_
    refine mg_iconst (v := 0) dL_eliminate_18 (by decide) ?_
    exact mex_i dL_eliminate_19 rfl h
theorem dL_setGrowth_0 : decode cL_setGrowth 0 = .ok (.aload_n 2, 1) := by decide +kernel
theorem dL_setGrowth_1 : decode cL_setGrowth 1 = .ok (.iconst 0, 1) := by decide +kernel
theorem dL_setGrowth_2 : decode cL_setGrowth 2 = .ok (.aload_n 0, 1) := by decide +kernel
theorem dL_setGrowth_3 : decode cL_setGrowth 3 = .ok (.iload_n 1, 1) := by decide +kernel
theorem dL_setGrowth_4 : decode cL_setGrowth 4 = .ok (.invokevirtual 62, 3) := by decide +kernel
theorem dL_setGrowth_7 : decode cL_setGrowth 7 = .ok (.i2l, 1) := by decide +kernel
theorem dL_setGrowth_8 : decode cL_setGrowth 8 = .ok (.lastore, 1) := by decide +kernel
theorem dL_setGrowth_9 : decode cL_setGrowth 9 = .ok (.goto 6, 3) := by decide +kernel
theorem dL_setGrowth_12 : decode cL_setGrowth 12 = .ok (.astore_n 3, 1) := by decide +kernel
theorem dL_setGrowth_13 : decode cL_setGrowth 13 = .ok (.iconst 1, 1) := by decide +kernel
theorem dL_setGrowth_14 : decode cL_setGrowth 14 = .ok (.ireturn, 1) := by decide +kernel
theorem dL_setGrowth_15 : decode cL_setGrowth 15 = .ok (.iconst 0, 1) := by decide +kernel
theorem dL_setGrowth_16 : decode cL_setGrowth 16 = .ok (.ireturn, 1) := by decide +kernel
abbrev mtL_setGrowth : mj_T := (yL_setGrowth.cls, cL_setGrowth, 4, some .int, mj_tb [(0, 9, 12, 13)], yL_setGrowth.name)
abbrev kL_setGrowth (k0 : Nat) (x1 : Int32) (k2 : Nat) (g : mj_S) (M : mj_M) (q : Int32 → mj_M → Prop) : Prop := mj_CIW yL_setGrowth (.codeWith yL_setGrowth cL_setGrowth 4 (some .int) [(0, 9, 12, 13)]) 8 1 6 [.ref (k0), .int (x1), .ref (k2)] g M q
theorem eL_setGrowth {k0 : Nat} {x1 : Int32} {k2 : Nat} {g : mj_S} {M : mj_M} {q : Int32 → mj_M → Prop} (h0 : is9 g k0) (h2 : k2 < g.1 ∧ g.2.1 k2 = (1, 2, 1)) (h : ∃ (q1 : Int32 → mj_M → Prop) (qx1 : String → mj_M → Prop), kX9_setGrowth (k0) (x1) g (M) q1 qx1 ∧ (∀ (X : String) (M9 : mj_M), qx1 X M9 → (X = mj_IA ∧ q (1) (M9))) ∧ ∀ (v1 : Int32) (M1 : mj_M), q1 v1 M1 → (q (0) (mj_wL (M1) (k2) (Int32.toNatClampNeg (0)) (Int32.toInt64 (v1))))) : kL_setGrowth (k0) (x1) (k2) g M q := by
  intro d hd; refine mj_enterH (by decide +kernel) (Nat.le_of_ble_eq_true rfl) ?_
  show mj_G mtL_setGrowth (mj_rm d 1 6) (mj_Fi (mj_qI g q) mj_x0 1 6) false 1 6 0 [(0, .ref (k0)), (1, .int (x1)), (2, .ref (k2))] [] g M
  refine mg_aload_n dL_setGrowth_0 rfl 2 rfl ?_
  refine mg_iconst (v := 0) dL_setGrowth_1 (by decide) ?_
  refine mg_aload_n dL_setGrowth_2 rfl 0 rfl ?_
  refine mg_iload_n dL_setGrowth_3 rfl 1 rfl ?_
  obtain ⟨q1, qx1, hC, hkx, hk⟩ := h
  refine mw_Vi [.int (x1)] [.int (0), .ref (k2)] dL_setGrowth_4 wd_1095 kiX9_setGrowth (Nat.le_of_ble_eq_true rfl) h0.1.1 h0.1.2 rfl (Nat.le_trans (Nat.le_of_ble_eq_true rfl) hd) ⟨Nat.le_of_ble_eq_true rfl, Nat.le_of_ble_eq_true rfl⟩ hC (fun X M9 hx => ?_) (fun v1 M1 hq => ?_)
  · obtain ⟨rfl, h⟩ := hkx X M9 hx
    refine mgx_catch1 (i := 3) [] ⟨0, 9, 12, 13⟩ [] (hh := [(0, 9, 12, 13)]) rfl rfl (by decide) (fun z hz => by cases hz) (by decide) (by decide) wd_672 dL_setGrowth_12 rfl (Nat.le_of_ble_eq_true rfl) rfl ?_
    show mj_G mtL_setGrowth (mj_rm d 1 6) (mj_Fi (mj_qI g q) mj_x0 1 6) false _ _ _ [(0, .ref (k0)), (1, .int (x1)), (2, .ref (k2))] [] g M9
    refine mg_iconst (v := 1) dL_setGrowth_13 (by decide) ?_
    exact mex_i dL_setGrowth_14 rfl h
  · replace h := hk v1 M1 hq
    refine mg_i2l dL_setGrowth_7 ?_
    refine mg_last dL_setGrowth_8 h2.1 h2.2 (vp_in_nI (n := 0) (Nat.le_of_ble_eq_true rfl) (Nat.le_of_ble_eq_true rfl)) ?_
    refine mg_goto (tgt := 15) dL_setGrowth_9 (by decide) ?_
    refine mg_iconst (v := 0) dL_setGrowth_15 (by decide) ?_
    exact mex_i dL_setGrowth_16 rfl h
theorem dL_total_0 : decode cL_total 0 = .ok (.aload_n 2, 1) := by decide +kernel
theorem dL_total_1 : decode cL_total 1 = .ok (.iconst 0, 1) := by decide +kernel
theorem dL_total_2 : decode cL_total 2 = .ok (.aload_n 0, 1) := by decide +kernel
theorem dL_total_3 : decode cL_total 3 = .ok (.iload_n 1, 1) := by decide +kernel
theorem dL_total_4 : decode cL_total 4 = .ok (.invokevirtual 65, 3) := by decide +kernel
theorem dL_total_7 : decode cL_total 7 = .ok (.i2l, 1) := by decide +kernel
theorem dL_total_8 : decode cL_total 8 = .ok (.lastore, 1) := by decide +kernel
theorem dL_total_9 : decode cL_total 9 = .ok (.goto 6, 3) := by decide +kernel
theorem dL_total_12 : decode cL_total 12 = .ok (.astore_n 3, 1) := by decide +kernel
theorem dL_total_13 : decode cL_total 13 = .ok (.iconst 1, 1) := by decide +kernel
theorem dL_total_14 : decode cL_total 14 = .ok (.ireturn, 1) := by decide +kernel
theorem dL_total_15 : decode cL_total 15 = .ok (.iconst 0, 1) := by decide +kernel
theorem dL_total_16 : decode cL_total 16 = .ok (.ireturn, 1) := by decide +kernel
abbrev mtL_total : mj_T := (yL_total.cls, cL_total, 4, some .int, mj_tb [(0, 9, 12, 13)], yL_total.name)
abbrev kL_total (k0 : Nat) (x1 : Int32) (k2 : Nat) (g : mj_S) (M : mj_M) (q : Int32 → mj_M → Prop) : Prop := mj_CIW yL_total (.codeWith yL_total cL_total 4 (some .int) [(0, 9, 12, 13)]) 9 1 6 [.ref (k0), .int (x1), .ref (k2)] g M q
theorem eL_total {k0 : Nat} {x1 : Int32} {k2 : Nat} {g : mj_S} {M : mj_M} {q : Int32 → mj_M → Prop} (h0 : is9 g k0) (h2 : k2 < g.1 ∧ g.2.1 k2 = (1, 2, 1)) (h : ∃ (q1 : Int32 → mj_M → Prop) (qx1 : String → mj_M → Prop), kX9_total (k0) (x1) g (M) q1 qx1 ∧ (∀ (X : String) (M9 : mj_M), qx1 X M9 → (X = mj_IA ∧ q (1) (M9))) ∧ ∀ (v1 : Int32) (M1 : mj_M), q1 v1 M1 → (q (0) (mj_wL (M1) (k2) (Int32.toNatClampNeg (0)) (Int32.toInt64 (v1))))) : kL_total (k0) (x1) (k2) g M q := by
  intro d hd; refine mj_enterH (by decide +kernel) (Nat.le_of_ble_eq_true rfl) ?_
  show mj_G mtL_total (mj_rm d 1 6) (mj_Fi (mj_qI g q) mj_x0 1 6) false 1 6 0 [(0, .ref (k0)), (1, .int (x1)), (2, .ref (k2))] [] g M
  refine mg_aload_n dL_total_0 rfl 2 rfl ?_
  refine mg_iconst (v := 0) dL_total_1 (by decide) ?_
  refine mg_aload_n dL_total_2 rfl 0 rfl ?_
  refine mg_iload_n dL_total_3 rfl 1 rfl ?_
  obtain ⟨q1, qx1, hC, hkx, hk⟩ := h
  refine mw_Vi [.int (x1)] [.int (0), .ref (k2)] dL_total_4 wd_1103 kiX9_total (Nat.le_of_ble_eq_true rfl) h0.1.1 h0.1.2 rfl (Nat.le_trans (Nat.le_of_ble_eq_true rfl) hd) ⟨Nat.le_of_ble_eq_true rfl, Nat.le_of_ble_eq_true rfl⟩ hC (fun X M9 hx => ?_) (fun v1 M1 hq => ?_)
  · obtain ⟨rfl, h⟩ := hkx X M9 hx
    refine mgx_catch1 (i := 3) [] ⟨0, 9, 12, 13⟩ [] (hh := [(0, 9, 12, 13)]) rfl rfl (by decide) (fun z hz => by cases hz) (by decide) (by decide) wd_672 dL_total_12 rfl (Nat.le_of_ble_eq_true rfl) rfl ?_
    show mj_G mtL_total (mj_rm d 1 6) (mj_Fi (mj_qI g q) mj_x0 1 6) false _ _ _ [(0, .ref (k0)), (1, .int (x1)), (2, .ref (k2))] [] g M9
    refine mg_iconst (v := 1) dL_total_13 (by decide) ?_
    exact mex_i dL_total_14 rfl h
  · replace h := hk v1 M1 hq
    refine mg_i2l dL_total_7 ?_
    refine mg_last dL_total_8 h2.1 h2.2 (vp_in_nI (n := 0) (Nat.le_of_ble_eq_true rfl) (Nat.le_of_ble_eq_true rfl)) ?_
    refine mg_goto (tgt := 15) dL_total_9 (by decide) ?_
    refine mg_iconst (v := 0) dL_total_15 (by decide) ?_
    exact mex_i dL_total_16 rfl h
theorem dL_undo_0 : decode cL_undo 0 = .ok (.aload_n 1, 1) := by decide +kernel
theorem dL_undo_1 : decode cL_undo 1 = .ok (.iconst 0, 1) := by decide +kernel
theorem dL_undo_2 : decode cL_undo 2 = .ok (.aload_n 0, 1) := by decide +kernel
theorem dL_undo_3 : decode cL_undo 3 = .ok (.invokevirtual 68, 3) := by decide +kernel
theorem dL_undo_6 : decode cL_undo 6 = .ok (.i2l, 1) := by decide +kernel
theorem dL_undo_7 : decode cL_undo 7 = .ok (.lastore, 1) := by decide +kernel
theorem dL_undo_8 : decode cL_undo 8 = .ok (.goto 6, 3) := by decide +kernel
theorem dL_undo_11 : decode cL_undo 11 = .ok (.astore_n 2, 1) := by decide +kernel
theorem dL_undo_12 : decode cL_undo 12 = .ok (.iconst 1, 1) := by decide +kernel
theorem dL_undo_13 : decode cL_undo 13 = .ok (.ireturn, 1) := by decide +kernel
theorem dL_undo_14 : decode cL_undo 14 = .ok (.iconst 0, 1) := by decide +kernel
theorem dL_undo_15 : decode cL_undo 15 = .ok (.ireturn, 1) := by decide +kernel
abbrev mtL_undo : mj_T := (yL_undo.cls, cL_undo, 3, some .int, mj_tb [(0, 8, 11, 19)], yL_undo.name)
abbrev kL_undo (k0 : Nat) (k1 : Nat) (g : mj_S) (M : mj_M) (q : Int32 → mj_M → Prop) : Prop := mj_CIW yL_undo (.codeWith yL_undo cL_undo 3 (some .int) [(0, 8, 11, 19)]) 8 1 6 [.ref (k0), .ref (k1)] g M q
theorem eL_undo {k0 : Nat} {k1 : Nat} {g : mj_S} {M : mj_M} {q : Int32 → mj_M → Prop} (h0 : is9 g k0) (h1 : k1 < g.1 ∧ g.2.1 k1 = (1, 2, 1)) (h : ∃ (q1 : Int32 → mj_M → Prop) (qx1 : String → mj_M → Prop), kX9_undo (k0) g (M) q1 qx1 ∧ (∀ (X : String) (M9 : mj_M), qx1 X M9 → (X = mj_IS ∧ q (1) (M9))) ∧ ∀ (v1 : Int32) (M1 : mj_M), q1 v1 M1 → (q (0) (mj_wL (M1) (k1) (Int32.toNatClampNeg (0)) (Int32.toInt64 (v1))))) : kL_undo (k0) (k1) g M q := by
  intro d hd; refine mj_enterH (by decide +kernel) (Nat.le_of_ble_eq_true rfl) ?_
  show mj_G mtL_undo (mj_rm d 1 6) (mj_Fi (mj_qI g q) mj_x0 1 6) false 1 6 0 [(0, .ref (k0)), (1, .ref (k1))] [] g M
  refine mg_aload_n dL_undo_0 rfl 1 rfl ?_
  refine mg_iconst (v := 0) dL_undo_1 (by decide) ?_
  refine mg_aload_n dL_undo_2 rfl 0 rfl ?_
  obtain ⟨q1, qx1, hC, hkx, hk⟩ := h
  refine mw_Vi [] [.int (0), .ref (k1)] dL_undo_3 wd_1110 kiX9_undo (Nat.le_of_ble_eq_true rfl) h0.1.1 h0.1.2 rfl (Nat.le_trans (Nat.le_of_ble_eq_true rfl) hd) ⟨Nat.le_of_ble_eq_true rfl, Nat.le_of_ble_eq_true rfl⟩ hC (fun X M9 hx => ?_) (fun v1 M1 hq => ?_)
  · obtain ⟨rfl, h⟩ := hkx X M9 hx
    refine mgx_catch1 (i := 2) [] ⟨0, 8, 11, 19⟩ [] (hh := [(0, 8, 11, 19)]) rfl rfl (by decide) (fun z hz => by cases hz) (by decide) (by decide) wd_753 dL_undo_11 rfl (Nat.le_of_ble_eq_true rfl) rfl ?_
    show mj_G mtL_undo (mj_rm d 1 6) (mj_Fi (mj_qI g q) mj_x0 1 6) false _ _ _ [(0, .ref (k0)), (1, .ref (k1))] [] g M9
    refine mg_iconst (v := 1) dL_undo_12 (by decide) ?_
    exact mex_i dL_undo_13 rfl h
  · replace h := hk v1 M1 hq
    refine mg_i2l dL_undo_6 ?_
    refine mg_last dL_undo_7 h1.1 h1.2 (vp_in_nI (n := 0) (Nat.le_of_ble_eq_true rfl) (Nat.le_of_ble_eq_true rfl)) ?_
    refine mg_goto (tgt := 14) dL_undo_8 (by decide) ?_
    refine mg_iconst (v := 0) dL_undo_14 (by decide) ?_
    exact mex_i dL_undo_15 rfl h
theorem dL_canEliminate_0 : decode cL_canEliminate 0 = .ok (.aload_n 2, 1) := by decide +kernel
theorem dL_canEliminate_1 : decode cL_canEliminate 1 = .ok (.iconst 0, 1) := by decide +kernel
theorem dL_canEliminate_2 : decode cL_canEliminate 2 = .ok (.aload_n 0, 1) := by decide +kernel
theorem dL_canEliminate_3 : decode cL_canEliminate 3 = .ok (.iload_n 1, 1) := by decide +kernel
theorem dL_canEliminate_4 : decode cL_canEliminate 4 = .ok (.invokevirtual 71, 3) := by decide +kernel
theorem dL_canEliminate_7 : decode cL_canEliminate 7 = .ok (.ifCond .eq 7, 3) := by decide +kernel
theorem dL_canEliminate_10 : decode cL_canEliminate 10 = .ok (.lconst 1, 1) := by decide +kernel
theorem dL_canEliminate_11 : decode cL_canEliminate 11 = .ok (.goto 4, 3) := by decide +kernel
theorem dL_canEliminate_14 : decode cL_canEliminate 14 = .ok (.lconst 0, 1) := by decide +kernel
theorem dL_canEliminate_15 : decode cL_canEliminate 15 = .ok (.lastore, 1) := by decide +kernel
theorem dL_canEliminate_16 : decode cL_canEliminate 16 = .ok (.goto 6, 3) := by decide +kernel
theorem dL_canEliminate_19 : decode cL_canEliminate 19 = .ok (.astore_n 3, 1) := by decide +kernel
theorem dL_canEliminate_20 : decode cL_canEliminate 20 = .ok (.iconst 1, 1) := by decide +kernel
theorem dL_canEliminate_21 : decode cL_canEliminate 21 = .ok (.ireturn, 1) := by decide +kernel
theorem dL_canEliminate_22 : decode cL_canEliminate 22 = .ok (.iconst 0, 1) := by decide +kernel
theorem dL_canEliminate_23 : decode cL_canEliminate 23 = .ok (.ireturn, 1) := by decide +kernel
abbrev mtL_canEliminate : mj_T := (yL_canEliminate.cls, cL_canEliminate, 4, some .int, mj_tb [(0, 16, 19, 29)], yL_canEliminate.name)
abbrev kL_canEliminate (k0 : Nat) (x1 : Int32) (k2 : Nat) (g : mj_S) (M : mj_M) (q : Int32 → mj_M → Prop) : Prop := mj_CIW yL_canEliminate (.codeWith yL_canEliminate cL_canEliminate 4 (some .int) [(0, 16, 19, 29)]) 9 1 6 [.ref (k0), .int (x1), .ref (k2)] g M q
theorem eL_canEliminate {k0 : Nat} {x1 : Int32} {k2 : Nat} {g : mj_S} {M : mj_M} {q : Int32 → mj_M → Prop} (h0 : is9 g k0) (h2 : k2 < g.1 ∧ g.2.1 k2 = (1, 2, 1)) (h : ∃ (q1 : Int32 → mj_M → Prop) (qx1 : String → mj_M → Prop), kX9_canEliminate (k0) (x1) g (M) q1 qx1 ∧ (∀ (X : String) (M9 : mj_M), qx1 X M9 → (X = mj_IO ∧ q (1) (M9))) ∧ ∀ (v1 : Int32) (M1 : mj_M), q1 v1 M1 → (((v1 : Int32) = 0 → q (0) (mj_wL (M1) (k2) (Int32.toNatClampNeg (0)) ((0 : Int64)))) ∧ (¬ (v1 : Int32) = 0 → q (0) (mj_wL (M1) (k2) (Int32.toNatClampNeg (0)) ((1 : Int64)))))) : kL_canEliminate (k0) (x1) (k2) g M q := by
  intro d hd; refine mj_enterH (by decide +kernel) (Nat.le_of_ble_eq_true rfl) ?_
  show mj_G mtL_canEliminate (mj_rm d 1 6) (mj_Fi (mj_qI g q) mj_x0 1 6) false 1 6 0 [(0, .ref (k0)), (1, .int (x1)), (2, .ref (k2))] [] g M
  refine mg_aload_n dL_canEliminate_0 rfl 2 rfl ?_
  refine mg_iconst (v := 0) dL_canEliminate_1 (by decide) ?_
  refine mg_aload_n dL_canEliminate_2 rfl 0 rfl ?_
  refine mg_iload_n dL_canEliminate_3 rfl 1 rfl ?_
  obtain ⟨q1, qx1, hC, hkx, hk⟩ := h
  refine mw_Vi [.int (x1)] [.int (0), .ref (k2)] dL_canEliminate_4 wd_1118 kiX9_canEliminate (Nat.le_of_ble_eq_true rfl) h0.1.1 h0.1.2 rfl (Nat.le_trans (Nat.le_of_ble_eq_true rfl) hd) ⟨Nat.le_of_ble_eq_true rfl, Nat.le_of_ble_eq_true rfl⟩ hC (fun X M9 hx => ?_) (fun v1 M1 hq => ?_)
  · obtain ⟨rfl, h⟩ := hkx X M9 hx
    refine mgx_catch1 (i := 3) [] ⟨0, 16, 19, 29⟩ [] (hh := [(0, 16, 19, 29)]) rfl rfl (by decide) (fun z hz => by cases hz) (by decide) (by decide) wd_816 dL_canEliminate_19 rfl (Nat.le_of_ble_eq_true rfl) rfl ?_
    show mj_G mtL_canEliminate (mj_rm d 1 6) (mj_Fi (mj_qI g q) mj_x0 1 6) false _ _ _ [(0, .ref (k0)), (1, .int (x1)), (2, .ref (k2))] [] g M9
    refine mg_iconst (v := 1) dL_canEliminate_20 (by decide) ?_
    exact mex_i dL_canEliminate_21 rfl h
  · replace h := hk v1 M1 hq
    refine mg_if_eq (tgt := 14) dL_canEliminate_7 (by decide) (fun hc => ?_) (fun hc => ?_)
    · replace h := h.1 hc
      refine mg_lconst (v := 0) dL_canEliminate_14 (by decide) ?_
      refine mg_last dL_canEliminate_15 h2.1 h2.2 (vp_in_nI (n := 0) (Nat.le_of_ble_eq_true rfl) (Nat.le_of_ble_eq_true rfl)) ?_
      refine mg_goto (tgt := 22) dL_canEliminate_16 (by decide) ?_
      refine mg_iconst (v := 0) dL_canEliminate_22 (by decide) ?_
      exact mex_i dL_canEliminate_23 rfl h
    · replace h := h.2 hc
      refine mg_lconst (v := 1) dL_canEliminate_10 (by decide) ?_
      refine mg_goto (tgt := 15) dL_canEliminate_11 (by decide) ?_
      refine mg_last dL_canEliminate_15 h2.1 h2.2 (vp_in_nI (n := 0) (Nat.le_of_ble_eq_true rfl) (Nat.le_of_ble_eq_true rfl)) ?_
      refine mg_goto (tgt := 22) dL_canEliminate_16 (by decide) ?_
      refine mg_iconst (v := 0) dL_canEliminate_22 (by decide) ?_
      exact mex_i dL_canEliminate_23 rfl h
theorem dL_resolventCount_0 : decode cL_resolventCount 0 = .ok (.aload_n 2, 1) := by decide +kernel
theorem dL_resolventCount_1 : decode cL_resolventCount 1 = .ok (.iconst 0, 1) := by decide +kernel
theorem dL_resolventCount_2 : decode cL_resolventCount 2 = .ok (.aload_n 0, 1) := by decide +kernel
theorem dL_resolventCount_3 : decode cL_resolventCount 3 = .ok (.iload_n 1, 1) := by decide +kernel
theorem dL_resolventCount_4 : decode cL_resolventCount 4 = .ok (.invokevirtual 75, 3) := by decide +kernel
theorem dL_resolventCount_7 : decode cL_resolventCount 7 = .ok (.i2l, 1) := by decide +kernel
theorem dL_resolventCount_8 : decode cL_resolventCount 8 = .ok (.lastore, 1) := by decide +kernel
theorem dL_resolventCount_9 : decode cL_resolventCount 9 = .ok (.goto 9, 3) := by decide +kernel
theorem dL_resolventCount_12 : decode cL_resolventCount 12 = .ok (.astore_n 3, 1) := by decide +kernel
theorem dL_resolventCount_13 : decode cL_resolventCount 13 = .ok (.iconst 1, 1) := by decide +kernel
theorem dL_resolventCount_14 : decode cL_resolventCount 14 = .ok (.ireturn, 1) := by decide +kernel
theorem dL_resolventCount_15 : decode cL_resolventCount 15 = .ok (.astore_n 3, 1) := by decide +kernel
theorem dL_resolventCount_16 : decode cL_resolventCount 16 = .ok (.iconst 2, 1) := by decide +kernel
theorem dL_resolventCount_17 : decode cL_resolventCount 17 = .ok (.ireturn, 1) := by decide +kernel
theorem dL_resolventCount_18 : decode cL_resolventCount 18 = .ok (.iconst 0, 1) := by decide +kernel
theorem dL_resolventCount_19 : decode cL_resolventCount 19 = .ok (.ireturn, 1) := by decide +kernel
abbrev mtL_resolventCount : mj_T := (yL_resolventCount.cls, cL_resolventCount, 4, some .int, mj_tb [(0, 9, 12, 29), (0, 9, 15, 19)], yL_resolventCount.name)
abbrev kL_resolventCount (k0 : Nat) (x1 : Int32) (k2 : Nat) (g : mj_S) (M : mj_M) (q : Int32 → mj_M → Prop) : Prop := mj_CIW yL_resolventCount (.codeWith yL_resolventCount cL_resolventCount 4 (some .int) [(0, 9, 12, 29), (0, 9, 15, 19)]) 9 2 12 [.ref (k0), .int (x1), .ref (k2)] g M q
theorem eL_resolventCount {k0 : Nat} {x1 : Int32} {k2 : Nat} {g : mj_S} {M : mj_M} {q : Int32 → mj_M → Prop} (h0 : is9 g k0) (h2 : k2 < g.1 ∧ g.2.1 k2 = (1, 2, 1)) (h : ∃ (q1 : Int32 → mj_M → Prop) (qx1 : String → mj_M → Prop), kX9_resolventCount (k0) (x1) g (M) q1 qx1 ∧ (∀ (X : String) (M9 : mj_M), qx1 X M9 → (X = mj_IO ∧ q (1) (M9)) ∨ (X = mj_IS ∧ q (2) (M9))) ∧ ∀ (v1 : Int32) (M1 : mj_M), q1 v1 M1 → (q (0) (mj_wL (M1) (k2) (Int32.toNatClampNeg (0)) (Int32.toInt64 (v1))))) : kL_resolventCount (k0) (x1) (k2) g M q := by
  intro d hd; refine mj_enterH (by decide +kernel) (Nat.le_of_ble_eq_true rfl) ?_
  show mj_G mtL_resolventCount (mj_rm d 2 12) (mj_Fi (mj_qI g q) mj_x0 2 12) false 2 12 0 [(0, .ref (k0)), (1, .int (x1)), (2, .ref (k2))] [] g M
  refine mg_aload_n dL_resolventCount_0 rfl 2 rfl ?_
  refine mg_iconst (v := 0) dL_resolventCount_1 (by decide) ?_
  refine mg_aload_n dL_resolventCount_2 rfl 0 rfl ?_
  refine mg_iload_n dL_resolventCount_3 rfl 1 rfl ?_
  obtain ⟨q1, qx1, hC, hkx, hk⟩ := h
  refine mw_Vi [.int (x1)] [.int (0), .ref (k2)] dL_resolventCount_4 wd_1125 kiX9_resolventCount (Nat.le_of_ble_eq_true rfl) h0.1.1 h0.1.2 rfl (Nat.le_trans (Nat.le_of_ble_eq_true rfl) hd) ⟨Nat.le_of_ble_eq_true rfl, Nat.le_of_ble_eq_true rfl⟩ hC (fun X M9 hx => ?_) (fun v1 M1 hq => ?_)
  · rcases hkx X M9 hx with ⟨rfl, h⟩ | ⟨rfl, h⟩
    · refine mgx_catch1 (i := 3) [] ⟨0, 9, 12, 29⟩ [⟨0, 9, 15, 19⟩] (hh := [(0, 9, 12, 29), (0, 9, 15, 19)]) rfl rfl (by decide) (fun z hz => by cases hz) (by decide) (by decide) wd_816 dL_resolventCount_12 rfl (Nat.le_of_ble_eq_true rfl) rfl ?_
      show mj_G mtL_resolventCount (mj_rm d 2 12) (mj_Fi (mj_qI g q) mj_x0 2 12) false _ _ _ [(0, .ref (k0)), (1, .int (x1)), (2, .ref (k2))] [] g M9
      refine mg_iconst (v := 1) dL_resolventCount_13 (by decide) ?_
      exact mex_i dL_resolventCount_14 rfl h
    · refine mgx_catch1 (i := 3) [⟨0, 9, 12, 29⟩] ⟨0, 9, 15, 19⟩ [] (hh := [(0, 9, 12, 29), (0, 9, 15, 19)]) rfl rfl (by decide) (fun z hz => by rcases List.mem_cons.mp hz with rfl | hz; exact ⟨by decide, mj_IO, by decide, wd_816, by decide⟩; cases hz) (by decide) (by decide) wd_753 dL_resolventCount_15 rfl (Nat.le_of_ble_eq_true rfl) rfl ?_
      show mj_G mtL_resolventCount (mj_rm d 2 12) (mj_Fi (mj_qI g q) mj_x0 2 12) false _ _ _ [(0, .ref (k0)), (1, .int (x1)), (2, .ref (k2))] [] g M9
      refine mg_iconst (v := 2) dL_resolventCount_16 (by decide) ?_
      exact mex_i dL_resolventCount_17 rfl h
  · replace h := hk v1 M1 hq
    refine mg_i2l dL_resolventCount_7 ?_
    refine mg_last dL_resolventCount_8 h2.1 h2.2 (vp_in_nI (n := 0) (Nat.le_of_ble_eq_true rfl) (Nat.le_of_ble_eq_true rfl)) ?_
    refine mg_goto (tgt := 18) dL_resolventCount_9 (by decide) ?_
    refine mg_iconst (v := 0) dL_resolventCount_18 (by decide) ?_
    exact mex_i dL_resolventCount_19 rfl h
theorem dL_resolvent_0 : decode cL_resolvent 0 = .ok (.aload 4, 2) := by decide +kernel
theorem dL_resolvent_2 : decode cL_resolvent 2 = .ok (.iconst 0, 1) := by decide +kernel
theorem dL_resolvent_3 : decode cL_resolvent 3 = .ok (.aload_n 0, 1) := by decide +kernel
theorem dL_resolvent_4 : decode cL_resolvent 4 = .ok (.iload_n 1, 1) := by decide +kernel
theorem dL_resolvent_5 : decode cL_resolvent 5 = .ok (.iload_n 2, 1) := by decide +kernel
theorem dL_resolvent_6 : decode cL_resolvent 6 = .ok (.iload_n 3, 1) := by decide +kernel
theorem dL_resolvent_7 : decode cL_resolvent 7 = .ok (.invokevirtual 78, 3) := by decide +kernel
theorem dL_resolvent_10 : decode cL_resolvent 10 = .ok (.i2l, 1) := by decide +kernel
theorem dL_resolvent_11 : decode cL_resolvent 11 = .ok (.lastore, 1) := by decide +kernel
theorem dL_resolvent_12 : decode cL_resolvent 12 = .ok (.goto 11, 3) := by decide +kernel
theorem dL_resolvent_15 : decode cL_resolvent 15 = .ok (.astore 5, 2) := by decide +kernel
theorem dL_resolvent_17 : decode cL_resolvent 17 = .ok (.iconst 1, 1) := by decide +kernel
theorem dL_resolvent_18 : decode cL_resolvent 18 = .ok (.ireturn, 1) := by decide +kernel
theorem dL_resolvent_19 : decode cL_resolvent 19 = .ok (.astore 5, 2) := by decide +kernel
theorem dL_resolvent_21 : decode cL_resolvent 21 = .ok (.iconst 2, 1) := by decide +kernel
theorem dL_resolvent_22 : decode cL_resolvent 22 = .ok (.ireturn, 1) := by decide +kernel
theorem dL_resolvent_23 : decode cL_resolvent 23 = .ok (.iconst 0, 1) := by decide +kernel
theorem dL_resolvent_24 : decode cL_resolvent 24 = .ok (.ireturn, 1) := by decide +kernel
abbrev mtL_resolvent : mj_T := (yL_resolvent.cls, cL_resolvent, 6, some .int, mj_tb [(0, 12, 15, 29), (0, 12, 19, 19)], yL_resolvent.name)
abbrev kL_resolvent (k0 : Nat) (x1 : Int32) (x2 : Int32) (x3 : Int32) (k4 : Nat) (g : mj_S) (M : mj_M) (q : Int32 → mj_M → Prop) : Prop := mj_CIW yL_resolvent (.codeWith yL_resolvent cL_resolvent 6 (some .int) [(0, 12, 15, 29), (0, 12, 19, 19)]) 9 3 18 [.ref (k0), .int (x1), .int (x2), .int (x3), .ref (k4)] g M q
theorem eL_resolvent {k0 : Nat} {x1 : Int32} {x2 : Int32} {x3 : Int32} {k4 : Nat} {g : mj_S} {M : mj_M} {q : Int32 → mj_M → Prop} (h0 : is9 g k0) (h4 : k4 < g.1 ∧ g.2.1 k4 = (1, 2, 1)) (h : ∃ (q1 : Int32 → mj_M → Prop) (qx1 : String → mj_M → Prop), kX9_resolvent (k0) (x1) (x2) (x3) g (M) q1 qx1 ∧ (∀ (X : String) (M9 : mj_M), qx1 X M9 → (X = mj_IO ∧ q (1) (M9)) ∨ (X = mj_IS ∧ q (2) (M9))) ∧ ∀ (v1 : Int32) (M1 : mj_M), q1 v1 M1 → (q (0) (mj_wL (M1) (k4) (Int32.toNatClampNeg (0)) (Int32.toInt64 (v1))))) : kL_resolvent (k0) (x1) (x2) (x3) (k4) g M q := by
  intro d hd; refine mj_enterH (by decide +kernel) (Nat.le_of_ble_eq_true rfl) ?_
  show mj_G mtL_resolvent (mj_rm d 3 18) (mj_Fi (mj_qI g q) mj_x0 3 18) false 3 18 0 [(0, .ref (k0)), (1, .int (x1)), (2, .int (x2)), (3, .int (x3)), (4, .ref (k4))] [] g M
  refine mg_aload dL_resolvent_0 4 rfl ?_
  refine mg_iconst (v := 0) dL_resolvent_2 (by decide) ?_
  refine mg_aload_n dL_resolvent_3 rfl 0 rfl ?_
  refine mg_iload_n dL_resolvent_4 rfl 1 rfl ?_
  refine mg_iload_n dL_resolvent_5 rfl 2 rfl ?_
  refine mg_iload_n dL_resolvent_6 rfl 3 rfl ?_
  obtain ⟨q1, qx1, hC, hkx, hk⟩ := h
  refine mw_Vi [.int (x1), .int (x2), .int (x3)] [.int (0), .ref (k4)] dL_resolvent_7 wd_1139 kiX9_resolvent (Nat.le_of_ble_eq_true rfl) h0.1.1 h0.1.2 rfl (Nat.le_trans (Nat.le_of_ble_eq_true rfl) hd) ⟨Nat.le_of_ble_eq_true rfl, Nat.le_of_ble_eq_true rfl⟩ hC (fun X M9 hx => ?_) (fun v1 M1 hq => ?_)
  · rcases hkx X M9 hx with ⟨rfl, h⟩ | ⟨rfl, h⟩
    · refine mgx_catch2 (i := 5) [] ⟨0, 12, 15, 29⟩ [⟨0, 12, 19, 19⟩] (hh := [(0, 12, 15, 29), (0, 12, 19, 19)]) rfl rfl (by decide) (fun z hz => by cases hz) (by decide) (by decide) wd_816 dL_resolvent_15 (Nat.le_of_ble_eq_true rfl) rfl ?_
      show mj_G mtL_resolvent (mj_rm d 3 18) (mj_Fi (mj_qI g q) mj_x0 3 18) false _ _ _ [(0, .ref (k0)), (1, .int (x1)), (2, .int (x2)), (3, .int (x3)), (4, .ref (k4))] [] g M9
      refine mg_iconst (v := 1) dL_resolvent_17 (by decide) ?_
      exact mex_i dL_resolvent_18 rfl h
    · refine mgx_catch2 (i := 5) [⟨0, 12, 15, 29⟩] ⟨0, 12, 19, 19⟩ [] (hh := [(0, 12, 15, 29), (0, 12, 19, 19)]) rfl rfl (by decide) (fun z hz => by rcases List.mem_cons.mp hz with rfl | hz; exact ⟨by decide, mj_IO, by decide, wd_816, by decide⟩; cases hz) (by decide) (by decide) wd_753 dL_resolvent_19 (Nat.le_of_ble_eq_true rfl) rfl ?_
      show mj_G mtL_resolvent (mj_rm d 3 18) (mj_Fi (mj_qI g q) mj_x0 3 18) false _ _ _ [(0, .ref (k0)), (1, .int (x1)), (2, .int (x2)), (3, .int (x3)), (4, .ref (k4))] [] g M9
      refine mg_iconst (v := 2) dL_resolvent_21 (by decide) ?_
      exact mex_i dL_resolvent_22 rfl h
  · replace h := hk v1 M1 hq
    refine mg_i2l dL_resolvent_10 ?_
    refine mg_last dL_resolvent_11 h4.1 h4.2 (vp_in_nI (n := 0) (Nat.le_of_ble_eq_true rfl) (Nat.le_of_ble_eq_true rfl)) ?_
    refine mg_goto (tgt := 23) dL_resolvent_12 (by decide) ?_
    refine mg_iconst (v := 0) dL_resolvent_23 (by decide) ?_
    exact mex_i dL_resolvent_24 rfl h
theorem dL_blockingLiteral_0 : decode cL_blockingLiteral 0 = .ok (.aload_n 2, 1) := by decide +kernel
theorem dL_blockingLiteral_1 : decode cL_blockingLiteral 1 = .ok (.iconst 0, 1) := by decide +kernel
theorem dL_blockingLiteral_2 : decode cL_blockingLiteral 2 = .ok (.aload_n 0, 1) := by decide +kernel
theorem dL_blockingLiteral_3 : decode cL_blockingLiteral 3 = .ok (.iload_n 1, 1) := by decide +kernel
theorem dL_blockingLiteral_4 : decode cL_blockingLiteral 4 = .ok (.invokevirtual 82, 3) := by decide +kernel
theorem dL_blockingLiteral_7 : decode cL_blockingLiteral 7 = .ok (.i2l, 1) := by decide +kernel
theorem dL_blockingLiteral_8 : decode cL_blockingLiteral 8 = .ok (.lastore, 1) := by decide +kernel
theorem dL_blockingLiteral_9 : decode cL_blockingLiteral 9 = .ok (.goto 6, 3) := by decide +kernel
theorem dL_blockingLiteral_12 : decode cL_blockingLiteral 12 = .ok (.astore_n 3, 1) := by decide +kernel
theorem dL_blockingLiteral_13 : decode cL_blockingLiteral 13 = .ok (.iconst 1, 1) := by decide +kernel
theorem dL_blockingLiteral_14 : decode cL_blockingLiteral 14 = .ok (.ireturn, 1) := by decide +kernel
theorem dL_blockingLiteral_15 : decode cL_blockingLiteral 15 = .ok (.iconst 0, 1) := by decide +kernel
theorem dL_blockingLiteral_16 : decode cL_blockingLiteral 16 = .ok (.ireturn, 1) := by decide +kernel
abbrev mtL_blockingLiteral : mj_T := (yL_blockingLiteral.cls, cL_blockingLiteral, 4, some .int, mj_tb [(0, 9, 12, 29)], yL_blockingLiteral.name)
abbrev kL_blockingLiteral (k0 : Nat) (x1 : Int32) (k2 : Nat) (g : mj_S) (M : mj_M) (q : Int32 → mj_M → Prop) : Prop := mj_CIW yL_blockingLiteral (.codeWith yL_blockingLiteral cL_blockingLiteral 4 (some .int) [(0, 9, 12, 29)]) 9 1 6 [.ref (k0), .int (x1), .ref (k2)] g M q
theorem eL_blockingLiteral {k0 : Nat} {x1 : Int32} {k2 : Nat} {g : mj_S} {M : mj_M} {q : Int32 → mj_M → Prop} (h0 : is9 g k0) (h2 : k2 < g.1 ∧ g.2.1 k2 = (1, 2, 1)) (h : ∃ (q1 : Int32 → mj_M → Prop) (qx1 : String → mj_M → Prop), kX9_blockingLiteral (k0) (x1) g (M) q1 qx1 ∧ (∀ (X : String) (M9 : mj_M), qx1 X M9 → (X = mj_IO ∧ q (1) (M9))) ∧ ∀ (v1 : Int32) (M1 : mj_M), q1 v1 M1 → (q (0) (mj_wL (M1) (k2) (Int32.toNatClampNeg (0)) (Int32.toInt64 (v1))))) : kL_blockingLiteral (k0) (x1) (k2) g M q := by
  intro d hd; refine mj_enterH (by decide +kernel) (Nat.le_of_ble_eq_true rfl) ?_
  show mj_G mtL_blockingLiteral (mj_rm d 1 6) (mj_Fi (mj_qI g q) mj_x0 1 6) false 1 6 0 [(0, .ref (k0)), (1, .int (x1)), (2, .ref (k2))] [] g M
  refine mg_aload_n dL_blockingLiteral_0 rfl 2 rfl ?_
  refine mg_iconst (v := 0) dL_blockingLiteral_1 (by decide) ?_
  refine mg_aload_n dL_blockingLiteral_2 rfl 0 rfl ?_
  refine mg_iload_n dL_blockingLiteral_3 rfl 1 rfl ?_
  obtain ⟨q1, qx1, hC, hkx, hk⟩ := h
  refine mw_Vi [.int (x1)] [.int (0), .ref (k2)] dL_blockingLiteral_4 wd_1147 kiX9_blockingLiteral (Nat.le_of_ble_eq_true rfl) h0.1.1 h0.1.2 rfl (Nat.le_trans (Nat.le_of_ble_eq_true rfl) hd) ⟨Nat.le_of_ble_eq_true rfl, Nat.le_of_ble_eq_true rfl⟩ hC (fun X M9 hx => ?_) (fun v1 M1 hq => ?_)
  · obtain ⟨rfl, h⟩ := hkx X M9 hx
    refine mgx_catch1 (i := 3) [] ⟨0, 9, 12, 29⟩ [] (hh := [(0, 9, 12, 29)]) rfl rfl (by decide) (fun z hz => by cases hz) (by decide) (by decide) wd_816 dL_blockingLiteral_12 rfl (Nat.le_of_ble_eq_true rfl) rfl ?_
    show mj_G mtL_blockingLiteral (mj_rm d 1 6) (mj_Fi (mj_qI g q) mj_x0 1 6) false _ _ _ [(0, .ref (k0)), (1, .int (x1)), (2, .ref (k2))] [] g M9
    refine mg_iconst (v := 1) dL_blockingLiteral_13 (by decide) ?_
    exact mex_i dL_blockingLiteral_14 rfl h
  · replace h := hk v1 M1 hq
    refine mg_i2l dL_blockingLiteral_7 ?_
    refine mg_last dL_blockingLiteral_8 h2.1 h2.2 (vp_in_nI (n := 0) (Nat.le_of_ble_eq_true rfl) (Nat.le_of_ble_eq_true rfl)) ?_
    refine mg_goto (tgt := 15) dL_blockingLiteral_9 (by decide) ?_
    refine mg_iconst (v := 0) dL_blockingLiteral_15 (by decide) ?_
    exact mex_i dL_blockingLiteral_16 rfl h
theorem dL_coverPairs_0 : decode cL_coverPairs 0 = .ok (.aload_n 2, 1) := by decide +kernel
theorem dL_coverPairs_1 : decode cL_coverPairs 1 = .ok (.iconst 0, 1) := by decide +kernel
theorem dL_coverPairs_2 : decode cL_coverPairs 2 = .ok (.aload_n 0, 1) := by decide +kernel
theorem dL_coverPairs_3 : decode cL_coverPairs 3 = .ok (.iload_n 1, 1) := by decide +kernel
theorem dL_coverPairs_4 : decode cL_coverPairs 4 = .ok (.invokevirtual 85, 3) := by decide +kernel
theorem dL_coverPairs_7 : decode cL_coverPairs 7 = .ok (.i2l, 1) := by decide +kernel
theorem dL_coverPairs_8 : decode cL_coverPairs 8 = .ok (.lastore, 1) := by decide +kernel
theorem dL_coverPairs_9 : decode cL_coverPairs 9 = .ok (.goto 6, 3) := by decide +kernel
theorem dL_coverPairs_12 : decode cL_coverPairs 12 = .ok (.astore_n 3, 1) := by decide +kernel
theorem dL_coverPairs_13 : decode cL_coverPairs 13 = .ok (.iconst 1, 1) := by decide +kernel
theorem dL_coverPairs_14 : decode cL_coverPairs 14 = .ok (.ireturn, 1) := by decide +kernel
theorem dL_coverPairs_15 : decode cL_coverPairs 15 = .ok (.iconst 0, 1) := by decide +kernel
theorem dL_coverPairs_16 : decode cL_coverPairs 16 = .ok (.ireturn, 1) := by decide +kernel
abbrev mtL_coverPairs : mj_T := (yL_coverPairs.cls, cL_coverPairs, 4, some .int, mj_tb [(0, 9, 12, 29)], yL_coverPairs.name)
abbrev kL_coverPairs (k0 : Nat) (x1 : Int32) (k2 : Nat) (g : mj_S) (M : mj_M) (q : Int32 → mj_M → Prop) : Prop := mj_CIW yL_coverPairs (.codeWith yL_coverPairs cL_coverPairs 4 (some .int) [(0, 9, 12, 29)]) 9 1 6 [.ref (k0), .int (x1), .ref (k2)] g M q
theorem eL_coverPairs {k0 : Nat} {x1 : Int32} {k2 : Nat} {g : mj_S} {M : mj_M} {q : Int32 → mj_M → Prop} (h0 : is9 g k0) (h2 : k2 < g.1 ∧ g.2.1 k2 = (1, 2, 1)) (h : ∃ (q1 : Int32 → mj_M → Prop) (qx1 : String → mj_M → Prop), kX9_coverPairs (k0) (x1) g (M) q1 qx1 ∧ (∀ (X : String) (M9 : mj_M), qx1 X M9 → (X = mj_IO ∧ q (1) (M9))) ∧ ∀ (v1 : Int32) (M1 : mj_M), q1 v1 M1 → (q (0) (mj_wL (M1) (k2) (Int32.toNatClampNeg (0)) (Int32.toInt64 (v1))))) : kL_coverPairs (k0) (x1) (k2) g M q := by
  intro d hd; refine mj_enterH (by decide +kernel) (Nat.le_of_ble_eq_true rfl) ?_
  show mj_G mtL_coverPairs (mj_rm d 1 6) (mj_Fi (mj_qI g q) mj_x0 1 6) false 1 6 0 [(0, .ref (k0)), (1, .int (x1)), (2, .ref (k2))] [] g M
  refine mg_aload_n dL_coverPairs_0 rfl 2 rfl ?_
  refine mg_iconst (v := 0) dL_coverPairs_1 (by decide) ?_
  refine mg_aload_n dL_coverPairs_2 rfl 0 rfl ?_
  refine mg_iload_n dL_coverPairs_3 rfl 1 rfl ?_
  obtain ⟨q1, qx1, hC, hkx, hk⟩ := h
  refine mw_Vi [.int (x1)] [.int (0), .ref (k2)] dL_coverPairs_4 wd_1155 kiX9_coverPairs (Nat.le_of_ble_eq_true rfl) h0.1.1 h0.1.2 rfl (Nat.le_trans (Nat.le_of_ble_eq_true rfl) hd) ⟨Nat.le_of_ble_eq_true rfl, Nat.le_of_ble_eq_true rfl⟩ hC (fun X M9 hx => ?_) (fun v1 M1 hq => ?_)
  · obtain ⟨rfl, h⟩ := hkx X M9 hx
    refine mgx_catch1 (i := 3) [] ⟨0, 9, 12, 29⟩ [] (hh := [(0, 9, 12, 29)]) rfl rfl (by decide) (fun z hz => by cases hz) (by decide) (by decide) wd_816 dL_coverPairs_12 rfl (Nat.le_of_ble_eq_true rfl) rfl ?_
    show mj_G mtL_coverPairs (mj_rm d 1 6) (mj_Fi (mj_qI g q) mj_x0 1 6) false _ _ _ [(0, .ref (k0)), (1, .int (x1)), (2, .ref (k2))] [] g M9
    refine mg_iconst (v := 1) dL_coverPairs_13 (by decide) ?_
    exact mex_i dL_coverPairs_14 rfl h
  · replace h := hk v1 M1 hq
    refine mg_i2l dL_coverPairs_7 ?_
    refine mg_last dL_coverPairs_8 h2.1 h2.2 (vp_in_nI (n := 0) (Nat.le_of_ble_eq_true rfl) (Nat.le_of_ble_eq_true rfl)) ?_
    refine mg_goto (tgt := 15) dL_coverPairs_9 (by decide) ?_
    refine mg_iconst (v := 0) dL_coverPairs_15 (by decide) ?_
    exact mex_i dL_coverPairs_16 rfl h
theorem dL_extension_0 : decode cL_extension 0 = .ok (.aload_n 3, 1) := by decide +kernel
theorem dL_extension_1 : decode cL_extension 1 = .ok (.iconst 0, 1) := by decide +kernel
theorem dL_extension_2 : decode cL_extension 2 = .ok (.aload_n 0, 1) := by decide +kernel
theorem dL_extension_3 : decode cL_extension 3 = .ok (.iload_n 1, 1) := by decide +kernel
theorem dL_extension_4 : decode cL_extension 4 = .ok (.iload_n 2, 1) := by decide +kernel
theorem dL_extension_5 : decode cL_extension 5 = .ok (.invokevirtual 88, 3) := by decide +kernel
theorem dL_extension_8 : decode cL_extension 8 = .ok (.i2l, 1) := by decide +kernel
theorem dL_extension_9 : decode cL_extension 9 = .ok (.lastore, 1) := by decide +kernel
theorem dL_extension_10 : decode cL_extension 10 = .ok (.goto 7, 3) := by decide +kernel
theorem dL_extension_13 : decode cL_extension 13 = .ok (.astore 4, 2) := by decide +kernel
theorem dL_extension_15 : decode cL_extension 15 = .ok (.iconst 1, 1) := by decide +kernel
theorem dL_extension_16 : decode cL_extension 16 = .ok (.ireturn, 1) := by decide +kernel
theorem dL_extension_17 : decode cL_extension 17 = .ok (.iconst 0, 1) := by decide +kernel
theorem dL_extension_18 : decode cL_extension 18 = .ok (.ireturn, 1) := by decide +kernel
abbrev mtL_extension : mj_T := (yL_extension.cls, cL_extension, 5, some .int, mj_tb [(0, 10, 13, 29)], yL_extension.name)
abbrev kL_extension (k0 : Nat) (x1 : Int32) (x2 : Int32) (k3 : Nat) (g : mj_S) (M : mj_M) (q : Int32 → mj_M → Prop) : Prop := mj_CIW yL_extension (.codeWith yL_extension cL_extension 5 (some .int) [(0, 10, 13, 29)]) 9 1 6 [.ref (k0), .int (x1), .int (x2), .ref (k3)] g M q
theorem eL_extension {k0 : Nat} {x1 : Int32} {x2 : Int32} {k3 : Nat} {g : mj_S} {M : mj_M} {q : Int32 → mj_M → Prop} (h0 : is9 g k0) (h3 : k3 < g.1 ∧ g.2.1 k3 = (1, 2, 1)) (h : ∃ (q1 : Int32 → mj_M → Prop) (qx1 : String → mj_M → Prop), kX9_extension (k0) (x1) (x2) g (M) q1 qx1 ∧ (∀ (X : String) (M9 : mj_M), qx1 X M9 → (X = mj_IO ∧ q (1) (M9))) ∧ ∀ (v1 : Int32) (M1 : mj_M), q1 v1 M1 → (q (0) (mj_wL (M1) (k3) (Int32.toNatClampNeg (0)) (Int32.toInt64 (v1))))) : kL_extension (k0) (x1) (x2) (k3) g M q := by
  intro d hd; refine mj_enterH (by decide +kernel) (Nat.le_of_ble_eq_true rfl) ?_
  show mj_G mtL_extension (mj_rm d 1 6) (mj_Fi (mj_qI g q) mj_x0 1 6) false 1 6 0 [(0, .ref (k0)), (1, .int (x1)), (2, .int (x2)), (3, .ref (k3))] [] g M
  refine mg_aload_n dL_extension_0 rfl 3 rfl ?_
  refine mg_iconst (v := 0) dL_extension_1 (by decide) ?_
  refine mg_aload_n dL_extension_2 rfl 0 rfl ?_
  refine mg_iload_n dL_extension_3 rfl 1 rfl ?_
  refine mg_iload_n dL_extension_4 rfl 2 rfl ?_
  obtain ⟨q1, qx1, hC, hkx, hk⟩ := h
  refine mw_Vi [.int (x1), .int (x2)] [.int (0), .ref (k3)] dL_extension_5 wd_1163 kiX9_extension (Nat.le_of_ble_eq_true rfl) h0.1.1 h0.1.2 rfl (Nat.le_trans (Nat.le_of_ble_eq_true rfl) hd) ⟨Nat.le_of_ble_eq_true rfl, Nat.le_of_ble_eq_true rfl⟩ hC (fun X M9 hx => ?_) (fun v1 M1 hq => ?_)
  · obtain ⟨rfl, h⟩ := hkx X M9 hx
    refine mgx_catch2 (i := 4) [] ⟨0, 10, 13, 29⟩ [] (hh := [(0, 10, 13, 29)]) rfl rfl (by decide) (fun z hz => by cases hz) (by decide) (by decide) wd_816 dL_extension_13 (Nat.le_of_ble_eq_true rfl) rfl ?_
    show mj_G mtL_extension (mj_rm d 1 6) (mj_Fi (mj_qI g q) mj_x0 1 6) false _ _ _ [(0, .ref (k0)), (1, .int (x1)), (2, .int (x2)), (3, .ref (k3))] [] g M9
    refine mg_iconst (v := 1) dL_extension_15 (by decide) ?_
    exact mex_i dL_extension_16 rfl h
  · replace h := hk v1 M1 hq
    refine mg_i2l dL_extension_8 ?_
    refine mg_last dL_extension_9 h3.1 h3.2 (vp_in_nI (n := 0) (Nat.le_of_ble_eq_true rfl) (Nat.le_of_ble_eq_true rfl)) ?_
    refine mg_goto (tgt := 17) dL_extension_10 (by decide) ?_
    refine mg_iconst (v := 0) dL_extension_17 (by decide) ?_
    exact mex_i dL_extension_18 rfl h
theorem dL_vivified_0 : decode cL_vivified 0 = .ok (.aload_n 3, 1) := by decide +kernel
theorem dL_vivified_1 : decode cL_vivified 1 = .ok (.iconst 0, 1) := by decide +kernel
theorem dL_vivified_2 : decode cL_vivified 2 = .ok (.aload_n 0, 1) := by decide +kernel
theorem dL_vivified_3 : decode cL_vivified 3 = .ok (.iload_n 1, 1) := by decide +kernel
theorem dL_vivified_4 : decode cL_vivified 4 = .ok (.iload_n 2, 1) := by decide +kernel
theorem dL_vivified_5 : decode cL_vivified 5 = .ok (.invokevirtual 91, 3) := by decide +kernel
theorem dL_vivified_8 : decode cL_vivified 8 = .ok (.i2l, 1) := by decide +kernel
theorem dL_vivified_9 : decode cL_vivified 9 = .ok (.lastore, 1) := by decide +kernel
theorem dL_vivified_10 : decode cL_vivified 10 = .ok (.goto 7, 3) := by decide +kernel
theorem dL_vivified_13 : decode cL_vivified 13 = .ok (.astore 4, 2) := by decide +kernel
theorem dL_vivified_15 : decode cL_vivified 15 = .ok (.iconst 1, 1) := by decide +kernel
theorem dL_vivified_16 : decode cL_vivified 16 = .ok (.ireturn, 1) := by decide +kernel
theorem dL_vivified_17 : decode cL_vivified 17 = .ok (.iconst 0, 1) := by decide +kernel
theorem dL_vivified_18 : decode cL_vivified 18 = .ok (.ireturn, 1) := by decide +kernel
abbrev mtL_vivified : mj_T := (yL_vivified.cls, cL_vivified, 5, some .int, mj_tb [(0, 10, 13, 29)], yL_vivified.name)
abbrev kL_vivified (k0 : Nat) (x1 : Int32) (x2 : Int32) (k3 : Nat) (g : mj_S) (M : mj_M) (q : Int32 → mj_M → Prop) : Prop := mj_CIW yL_vivified (.codeWith yL_vivified cL_vivified 5 (some .int) [(0, 10, 13, 29)]) 9 1 6 [.ref (k0), .int (x1), .int (x2), .ref (k3)] g M q
theorem eL_vivified {k0 : Nat} {x1 : Int32} {x2 : Int32} {k3 : Nat} {g : mj_S} {M : mj_M} {q : Int32 → mj_M → Prop} (h0 : is9 g k0) (h3 : k3 < g.1 ∧ g.2.1 k3 = (1, 2, 1)) (h : ∃ (q1 : Int32 → mj_M → Prop) (qx1 : String → mj_M → Prop), kX9_vivified (k0) (x1) (x2) g (M) q1 qx1 ∧ (∀ (X : String) (M9 : mj_M), qx1 X M9 → (X = mj_IO ∧ q (1) (M9))) ∧ ∀ (v1 : Int32) (M1 : mj_M), q1 v1 M1 → (q (0) (mj_wL (M1) (k3) (Int32.toNatClampNeg (0)) (Int32.toInt64 (v1))))) : kL_vivified (k0) (x1) (x2) (k3) g M q := by
  intro d hd; refine mj_enterH (by decide +kernel) (Nat.le_of_ble_eq_true rfl) ?_
  show mj_G mtL_vivified (mj_rm d 1 6) (mj_Fi (mj_qI g q) mj_x0 1 6) false 1 6 0 [(0, .ref (k0)), (1, .int (x1)), (2, .int (x2)), (3, .ref (k3))] [] g M
  refine mg_aload_n dL_vivified_0 rfl 3 rfl ?_
  refine mg_iconst (v := 0) dL_vivified_1 (by decide) ?_
  refine mg_aload_n dL_vivified_2 rfl 0 rfl ?_
  refine mg_iload_n dL_vivified_3 rfl 1 rfl ?_
  refine mg_iload_n dL_vivified_4 rfl 2 rfl ?_
  obtain ⟨q1, qx1, hC, hkx, hk⟩ := h
  refine mw_Vi [.int (x1), .int (x2)] [.int (0), .ref (k3)] dL_vivified_5 wd_1170 kiX9_vivified (Nat.le_of_ble_eq_true rfl) h0.1.1 h0.1.2 rfl (Nat.le_trans (Nat.le_of_ble_eq_true rfl) hd) ⟨Nat.le_of_ble_eq_true rfl, Nat.le_of_ble_eq_true rfl⟩ hC (fun X M9 hx => ?_) (fun v1 M1 hq => ?_)
  · obtain ⟨rfl, h⟩ := hkx X M9 hx
    refine mgx_catch2 (i := 4) [] ⟨0, 10, 13, 29⟩ [] (hh := [(0, 10, 13, 29)]) rfl rfl (by decide) (fun z hz => by cases hz) (by decide) (by decide) wd_816 dL_vivified_13 (Nat.le_of_ble_eq_true rfl) rfl ?_
    show mj_G mtL_vivified (mj_rm d 1 6) (mj_Fi (mj_qI g q) mj_x0 1 6) false _ _ _ [(0, .ref (k0)), (1, .int (x1)), (2, .int (x2)), (3, .ref (k3))] [] g M9
    refine mg_iconst (v := 1) dL_vivified_15 (by decide) ?_
    exact mex_i dL_vivified_16 rfl h
  · replace h := hk v1 M1 hq
    refine mg_i2l dL_vivified_8 ?_
    refine mg_last dL_vivified_9 h3.1 h3.2 (vp_in_nI (n := 0) (Nat.le_of_ble_eq_true rfl) (Nat.le_of_ble_eq_true rfl)) ?_
    refine mg_goto (tgt := 17) dL_vivified_10 (by decide) ?_
    refine mg_iconst (v := 0) dL_vivified_17 (by decide) ?_
    exact mex_i dL_vivified_18 rfl h
theorem dL_implied_0 : decode cL_implied 0 = .ok (.aload_n 2, 1) := by decide +kernel
theorem dL_implied_1 : decode cL_implied 1 = .ok (.iconst 0, 1) := by decide +kernel
theorem dL_implied_2 : decode cL_implied 2 = .ok (.aload_n 0, 1) := by decide +kernel
theorem dL_implied_3 : decode cL_implied 3 = .ok (.iload_n 1, 1) := by decide +kernel
theorem dL_implied_4 : decode cL_implied 4 = .ok (.invokevirtual 94, 3) := by decide +kernel
theorem dL_implied_7 : decode cL_implied 7 = .ok (.ifCond .eq 7, 3) := by decide +kernel
theorem dL_implied_10 : decode cL_implied 10 = .ok (.lconst 1, 1) := by decide +kernel
theorem dL_implied_11 : decode cL_implied 11 = .ok (.goto 4, 3) := by decide +kernel
theorem dL_implied_14 : decode cL_implied 14 = .ok (.lconst 0, 1) := by decide +kernel
theorem dL_implied_15 : decode cL_implied 15 = .ok (.lastore, 1) := by decide +kernel
theorem dL_implied_16 : decode cL_implied 16 = .ok (.goto 6, 3) := by decide +kernel
theorem dL_implied_19 : decode cL_implied 19 = .ok (.astore_n 3, 1) := by decide +kernel
theorem dL_implied_20 : decode cL_implied 20 = .ok (.iconst 1, 1) := by decide +kernel
theorem dL_implied_21 : decode cL_implied 21 = .ok (.ireturn, 1) := by decide +kernel
theorem dL_implied_22 : decode cL_implied 22 = .ok (.iconst 0, 1) := by decide +kernel
theorem dL_implied_23 : decode cL_implied 23 = .ok (.ireturn, 1) := by decide +kernel
abbrev mtL_implied : mj_T := (yL_implied.cls, cL_implied, 4, some .int, mj_tb [(0, 16, 19, 29)], yL_implied.name)
abbrev kL_implied (k0 : Nat) (x1 : Int32) (k2 : Nat) (g : mj_S) (M : mj_M) (q : Int32 → mj_M → Prop) : Prop := mj_CIW yL_implied (.codeWith yL_implied cL_implied 4 (some .int) [(0, 16, 19, 29)]) 9 1 6 [.ref (k0), .int (x1), .ref (k2)] g M q
theorem eL_implied {k0 : Nat} {x1 : Int32} {k2 : Nat} {g : mj_S} {M : mj_M} {q : Int32 → mj_M → Prop} (h0 : is9 g k0) (h2 : k2 < g.1 ∧ g.2.1 k2 = (1, 2, 1)) (h : ∃ (q1 : Int32 → mj_M → Prop) (qx1 : String → mj_M → Prop), kX9_implied (k0) (x1) g (M) q1 qx1 ∧ (∀ (X : String) (M9 : mj_M), qx1 X M9 → (X = mj_IO ∧ q (1) (M9))) ∧ ∀ (v1 : Int32) (M1 : mj_M), q1 v1 M1 → (((v1 : Int32) = 0 → q (0) (mj_wL (M1) (k2) (Int32.toNatClampNeg (0)) ((0 : Int64)))) ∧ (¬ (v1 : Int32) = 0 → q (0) (mj_wL (M1) (k2) (Int32.toNatClampNeg (0)) ((1 : Int64)))))) : kL_implied (k0) (x1) (k2) g M q := by
  intro d hd; refine mj_enterH (by decide +kernel) (Nat.le_of_ble_eq_true rfl) ?_
  show mj_G mtL_implied (mj_rm d 1 6) (mj_Fi (mj_qI g q) mj_x0 1 6) false 1 6 0 [(0, .ref (k0)), (1, .int (x1)), (2, .ref (k2))] [] g M
  refine mg_aload_n dL_implied_0 rfl 2 rfl ?_
  refine mg_iconst (v := 0) dL_implied_1 (by decide) ?_
  refine mg_aload_n dL_implied_2 rfl 0 rfl ?_
  refine mg_iload_n dL_implied_3 rfl 1 rfl ?_
  obtain ⟨q1, qx1, hC, hkx, hk⟩ := h
  refine mw_Vi [.int (x1)] [.int (0), .ref (k2)] dL_implied_4 wd_1178 kiX9_implied (Nat.le_of_ble_eq_true rfl) h0.1.1 h0.1.2 rfl (Nat.le_trans (Nat.le_of_ble_eq_true rfl) hd) ⟨Nat.le_of_ble_eq_true rfl, Nat.le_of_ble_eq_true rfl⟩ hC (fun X M9 hx => ?_) (fun v1 M1 hq => ?_)
  · obtain ⟨rfl, h⟩ := hkx X M9 hx
    refine mgx_catch1 (i := 3) [] ⟨0, 16, 19, 29⟩ [] (hh := [(0, 16, 19, 29)]) rfl rfl (by decide) (fun z hz => by cases hz) (by decide) (by decide) wd_816 dL_implied_19 rfl (Nat.le_of_ble_eq_true rfl) rfl ?_
    show mj_G mtL_implied (mj_rm d 1 6) (mj_Fi (mj_qI g q) mj_x0 1 6) false _ _ _ [(0, .ref (k0)), (1, .int (x1)), (2, .ref (k2))] [] g M9
    refine mg_iconst (v := 1) dL_implied_20 (by decide) ?_
    exact mex_i dL_implied_21 rfl h
  · replace h := hk v1 M1 hq
    refine mg_if_eq (tgt := 14) dL_implied_7 (by decide) (fun hc => ?_) (fun hc => ?_)
    · replace h := h.1 hc
      refine mg_lconst (v := 0) dL_implied_14 (by decide) ?_
      refine mg_last dL_implied_15 h2.1 h2.2 (vp_in_nI (n := 0) (Nat.le_of_ble_eq_true rfl) (Nat.le_of_ble_eq_true rfl)) ?_
      refine mg_goto (tgt := 22) dL_implied_16 (by decide) ?_
      refine mg_iconst (v := 0) dL_implied_22 (by decide) ?_
      exact mex_i dL_implied_23 rfl h
    · replace h := h.2 hc
      refine mg_lconst (v := 1) dL_implied_10 (by decide) ?_
      refine mg_goto (tgt := 15) dL_implied_11 (by decide) ?_
      refine mg_last dL_implied_15 h2.1 h2.2 (vp_in_nI (n := 0) (Nat.le_of_ble_eq_true rfl) (Nat.le_of_ble_eq_true rfl)) ?_
      refine mg_goto (tgt := 22) dL_implied_16 (by decide) ?_
      refine mg_iconst (v := 0) dL_implied_22 (by decide) ?_
      exact mex_i dL_implied_23 rfl h
theorem dL_propagate_0 : decode cL_propagate 0 = .ok (.aload_n 2, 1) := by decide +kernel
theorem dL_propagate_1 : decode cL_propagate 1 = .ok (.iconst 0, 1) := by decide +kernel
theorem dL_propagate_2 : decode cL_propagate 2 = .ok (.aload_n 0, 1) := by decide +kernel
theorem dL_propagate_3 : decode cL_propagate 3 = .ok (.iload_n 1, 1) := by decide +kernel
theorem dL_propagate_4 : decode cL_propagate 4 = .ok (.invokevirtual 97, 3) := by decide +kernel
theorem dL_propagate_7 : decode cL_propagate 7 = .ok (.i2l, 1) := by decide +kernel
theorem dL_propagate_8 : decode cL_propagate 8 = .ok (.lastore, 1) := by decide +kernel
theorem dL_propagate_9 : decode cL_propagate 9 = .ok (.goto 9, 3) := by decide +kernel
theorem dL_propagate_12 : decode cL_propagate 12 = .ok (.astore_n 3, 1) := by decide +kernel
theorem dL_propagate_13 : decode cL_propagate 13 = .ok (.iconst 1, 1) := by decide +kernel
theorem dL_propagate_14 : decode cL_propagate 14 = .ok (.ireturn, 1) := by decide +kernel
theorem dL_propagate_15 : decode cL_propagate 15 = .ok (.astore_n 3, 1) := by decide +kernel
theorem dL_propagate_16 : decode cL_propagate 16 = .ok (.iconst 2, 1) := by decide +kernel
theorem dL_propagate_17 : decode cL_propagate 17 = .ok (.ireturn, 1) := by decide +kernel
theorem dL_propagate_18 : decode cL_propagate 18 = .ok (.iconst 0, 1) := by decide +kernel
theorem dL_propagate_19 : decode cL_propagate 19 = .ok (.ireturn, 1) := by decide +kernel
abbrev mtL_propagate : mj_T := (yL_propagate.cls, cL_propagate, 4, some .int, mj_tb [(0, 9, 12, 29), (0, 9, 15, 19)], yL_propagate.name)
abbrev kL_propagate (k0 : Nat) (x1 : Int32) (k2 : Nat) (g : mj_S) (M : mj_M) (q : Int32 → mj_M → Prop) : Prop := mj_CIW yL_propagate (.codeWith yL_propagate cL_propagate 4 (some .int) [(0, 9, 12, 29), (0, 9, 15, 19)]) 9 2 12 [.ref (k0), .int (x1), .ref (k2)] g M q
theorem eL_propagate {k0 : Nat} {x1 : Int32} {k2 : Nat} {g : mj_S} {M : mj_M} {q : Int32 → mj_M → Prop} (h0 : is9 g k0) (h2 : k2 < g.1 ∧ g.2.1 k2 = (1, 2, 1)) (h : ∃ (q1 : Int32 → mj_M → Prop) (qx1 : String → mj_M → Prop), kX9_propagate (k0) (x1) g (M) q1 qx1 ∧ (∀ (X : String) (M9 : mj_M), qx1 X M9 → (X = mj_IO ∧ q (1) (M9)) ∨ (X = mj_IS ∧ q (2) (M9))) ∧ ∀ (v1 : Int32) (M1 : mj_M), q1 v1 M1 → (q (0) (mj_wL (M1) (k2) (Int32.toNatClampNeg (0)) (Int32.toInt64 (v1))))) : kL_propagate (k0) (x1) (k2) g M q := by
  intro d hd; refine mj_enterH (by decide +kernel) (Nat.le_of_ble_eq_true rfl) ?_
  show mj_G mtL_propagate (mj_rm d 2 12) (mj_Fi (mj_qI g q) mj_x0 2 12) false 2 12 0 [(0, .ref (k0)), (1, .int (x1)), (2, .ref (k2))] [] g M
  refine mg_aload_n dL_propagate_0 rfl 2 rfl ?_
  refine mg_iconst (v := 0) dL_propagate_1 (by decide) ?_
  refine mg_aload_n dL_propagate_2 rfl 0 rfl ?_
  refine mg_iload_n dL_propagate_3 rfl 1 rfl ?_
  obtain ⟨q1, qx1, hC, hkx, hk⟩ := h
  refine mw_Vi [.int (x1)] [.int (0), .ref (k2)] dL_propagate_4 wd_1185 kiX9_propagate (Nat.le_of_ble_eq_true rfl) h0.1.1 h0.1.2 rfl (Nat.le_trans (Nat.le_of_ble_eq_true rfl) hd) ⟨Nat.le_of_ble_eq_true rfl, Nat.le_of_ble_eq_true rfl⟩ hC (fun X M9 hx => ?_) (fun v1 M1 hq => ?_)
  · rcases hkx X M9 hx with ⟨rfl, h⟩ | ⟨rfl, h⟩
    · refine mgx_catch1 (i := 3) [] ⟨0, 9, 12, 29⟩ [⟨0, 9, 15, 19⟩] (hh := [(0, 9, 12, 29), (0, 9, 15, 19)]) rfl rfl (by decide) (fun z hz => by cases hz) (by decide) (by decide) wd_816 dL_propagate_12 rfl (Nat.le_of_ble_eq_true rfl) rfl ?_
      show mj_G mtL_propagate (mj_rm d 2 12) (mj_Fi (mj_qI g q) mj_x0 2 12) false _ _ _ [(0, .ref (k0)), (1, .int (x1)), (2, .ref (k2))] [] g M9
      refine mg_iconst (v := 1) dL_propagate_13 (by decide) ?_
      exact mex_i dL_propagate_14 rfl h
    · refine mgx_catch1 (i := 3) [⟨0, 9, 12, 29⟩] ⟨0, 9, 15, 19⟩ [] (hh := [(0, 9, 12, 29), (0, 9, 15, 19)]) rfl rfl (by decide) (fun z hz => by rcases List.mem_cons.mp hz with rfl | hz; exact ⟨by decide, mj_IO, by decide, wd_816, by decide⟩; cases hz) (by decide) (by decide) wd_753 dL_propagate_15 rfl (Nat.le_of_ble_eq_true rfl) rfl ?_
      show mj_G mtL_propagate (mj_rm d 2 12) (mj_Fi (mj_qI g q) mj_x0 2 12) false _ _ _ [(0, .ref (k0)), (1, .int (x1)), (2, .ref (k2))] [] g M9
      refine mg_iconst (v := 2) dL_propagate_16 (by decide) ?_
      exact mex_i dL_propagate_17 rfl h
  · replace h := hk v1 M1 hq
    refine mg_i2l dL_propagate_7 ?_
    refine mg_last dL_propagate_8 h2.1 h2.2 (vp_in_nI (n := 0) (Nat.le_of_ble_eq_true rfl) (Nat.le_of_ble_eq_true rfl)) ?_
    refine mg_goto (tgt := 18) dL_propagate_9 (by decide) ?_
    refine mg_iconst (v := 0) dL_propagate_18 (by decide) ?_
    exact mex_i dL_propagate_19 rfl h
theorem dL_reachable_0 : decode cL_reachable 0 = .ok (.aload_n 3, 1) := by decide +kernel
theorem dL_reachable_1 : decode cL_reachable 1 = .ok (.iconst 0, 1) := by decide +kernel
theorem dL_reachable_2 : decode cL_reachable 2 = .ok (.aload_n 0, 1) := by decide +kernel
theorem dL_reachable_3 : decode cL_reachable 3 = .ok (.iload_n 1, 1) := by decide +kernel
theorem dL_reachable_4 : decode cL_reachable 4 = .ok (.iload_n 2, 1) := by decide +kernel
theorem dL_reachable_5 : decode cL_reachable 5 = .ok (.invokevirtual 100, 3) := by decide +kernel
theorem dL_reachable_8 : decode cL_reachable 8 = .ok (.ifCond .eq 7, 3) := by decide +kernel
theorem dL_reachable_11 : decode cL_reachable 11 = .ok (.lconst 1, 1) := by decide +kernel
theorem dL_reachable_12 : decode cL_reachable 12 = .ok (.goto 4, 3) := by decide +kernel
theorem dL_reachable_15 : decode cL_reachable 15 = .ok (.lconst 0, 1) := by decide +kernel
theorem dL_reachable_16 : decode cL_reachable 16 = .ok (.lastore, 1) := by decide +kernel
theorem dL_reachable_17 : decode cL_reachable 17 = .ok (.goto 7, 3) := by decide +kernel
theorem dL_reachable_20 : decode cL_reachable 20 = .ok (.astore 4, 2) := by decide +kernel
theorem dL_reachable_22 : decode cL_reachable 22 = .ok (.iconst 1, 1) := by decide +kernel
theorem dL_reachable_23 : decode cL_reachable 23 = .ok (.ireturn, 1) := by decide +kernel
theorem dL_reachable_24 : decode cL_reachable 24 = .ok (.iconst 0, 1) := by decide +kernel
theorem dL_reachable_25 : decode cL_reachable 25 = .ok (.ireturn, 1) := by decide +kernel
abbrev mtL_reachable : mj_T := (yL_reachable.cls, cL_reachable, 5, some .int, mj_tb [(0, 17, 20, 29)], yL_reachable.name)
abbrev kL_reachable (k0 : Nat) (x1 : Int32) (x2 : Int32) (k3 : Nat) (g : mj_S) (M : mj_M) (q : Int32 → mj_M → Prop) : Prop := mj_CIW yL_reachable (.codeWith yL_reachable cL_reachable 5 (some .int) [(0, 17, 20, 29)]) 9 2 12 [.ref (k0), .int (x1), .int (x2), .ref (k3)] g M q
theorem eL_reachable {k0 : Nat} {x1 : Int32} {x2 : Int32} {k3 : Nat} {g : mj_S} {M : mj_M} {q : Int32 → mj_M → Prop} (h0 : is9 g k0) (h3 : k3 < g.1 ∧ g.2.1 k3 = (1, 2, 1)) (h : ∃ (q1 : Int32 → mj_M → Prop) (qx1 : String → mj_M → Prop), kX9_reachable (k0) (x1) (x2) g (M) q1 qx1 ∧ (∀ (X : String) (M9 : mj_M), qx1 X M9 → (X = mj_IO ∧ q (1) (M9))) ∧ ∀ (v1 : Int32) (M1 : mj_M), q1 v1 M1 → (((v1 : Int32) = 0 → q (0) (mj_wL (M1) (k3) (Int32.toNatClampNeg (0)) ((0 : Int64)))) ∧ (¬ (v1 : Int32) = 0 → q (0) (mj_wL (M1) (k3) (Int32.toNatClampNeg (0)) ((1 : Int64)))))) : kL_reachable (k0) (x1) (x2) (k3) g M q := by
  intro d hd; refine mj_enterH (by decide +kernel) (Nat.le_of_ble_eq_true rfl) ?_
  show mj_G mtL_reachable (mj_rm d 2 12) (mj_Fi (mj_qI g q) mj_x0 2 12) false 2 12 0 [(0, .ref (k0)), (1, .int (x1)), (2, .int (x2)), (3, .ref (k3))] [] g M
  refine mg_aload_n dL_reachable_0 rfl 3 rfl ?_
  refine mg_iconst (v := 0) dL_reachable_1 (by decide) ?_
  refine mg_aload_n dL_reachable_2 rfl 0 rfl ?_
  refine mg_iload_n dL_reachable_3 rfl 1 rfl ?_
  refine mg_iload_n dL_reachable_4 rfl 2 rfl ?_
  obtain ⟨q1, qx1, hC, hkx, hk⟩ := h
  refine mw_Vi [.int (x1), .int (x2)] [.int (0), .ref (k3)] dL_reachable_5 wd_1192 kiX9_reachable (Nat.le_of_ble_eq_true rfl) h0.1.1 h0.1.2 rfl (Nat.le_trans (Nat.le_of_ble_eq_true rfl) hd) ⟨Nat.le_of_ble_eq_true rfl, Nat.le_of_ble_eq_true rfl⟩ hC (fun X M9 hx => ?_) (fun v1 M1 hq => ?_)
  · obtain ⟨rfl, h⟩ := hkx X M9 hx
    refine mgx_catch2 (i := 4) [] ⟨0, 17, 20, 29⟩ [] (hh := [(0, 17, 20, 29)]) rfl rfl (by decide) (fun z hz => by cases hz) (by decide) (by decide) wd_816 dL_reachable_20 (Nat.le_of_ble_eq_true rfl) rfl ?_
    show mj_G mtL_reachable (mj_rm d 2 12) (mj_Fi (mj_qI g q) mj_x0 2 12) false _ _ _ [(0, .ref (k0)), (1, .int (x1)), (2, .int (x2)), (3, .ref (k3))] [] g M9
    refine mg_iconst (v := 1) dL_reachable_22 (by decide) ?_
    exact mex_i dL_reachable_23 rfl h
  · replace h := hk v1 M1 hq
    refine mg_if_eq (tgt := 15) dL_reachable_8 (by decide) (fun hc => ?_) (fun hc => ?_)
    · replace h := h.1 hc
      refine mg_lconst (v := 0) dL_reachable_15 (by decide) ?_
      refine mg_last dL_reachable_16 h3.1 h3.2 (vp_in_nI (n := 0) (Nat.le_of_ble_eq_true rfl) (Nat.le_of_ble_eq_true rfl)) ?_
      refine mg_goto (tgt := 24) dL_reachable_17 (by decide) ?_
      refine mg_iconst (v := 0) dL_reachable_24 (by decide) ?_
      exact mex_i dL_reachable_25 rfl h
    · replace h := h.2 hc
      refine mg_lconst (v := 1) dL_reachable_11 (by decide) ?_
      refine mg_goto (tgt := 16) dL_reachable_12 (by decide) ?_
      refine mg_last dL_reachable_16 h3.1 h3.2 (vp_in_nI (n := 0) (Nat.le_of_ble_eq_true rfl) (Nat.le_of_ble_eq_true rfl)) ?_
      refine mg_goto (tgt := 24) dL_reachable_17 (by decide) ?_
      refine mg_iconst (v := 0) dL_reachable_24 (by decide) ?_
      exact mex_i dL_reachable_25 rfl h
theorem dL_representative_0 : decode cL_representative 0 = .ok (.aload_n 2, 1) := by decide +kernel
theorem dL_representative_1 : decode cL_representative 1 = .ok (.iconst 0, 1) := by decide +kernel
theorem dL_representative_2 : decode cL_representative 2 = .ok (.aload_n 0, 1) := by decide +kernel
theorem dL_representative_3 : decode cL_representative 3 = .ok (.iload_n 1, 1) := by decide +kernel
theorem dL_representative_4 : decode cL_representative 4 = .ok (.invokevirtual 104, 3) := by decide +kernel
theorem dL_representative_7 : decode cL_representative 7 = .ok (.i2l, 1) := by decide +kernel
theorem dL_representative_8 : decode cL_representative 8 = .ok (.lastore, 1) := by decide +kernel
theorem dL_representative_9 : decode cL_representative 9 = .ok (.goto 6, 3) := by decide +kernel
theorem dL_representative_12 : decode cL_representative 12 = .ok (.astore_n 3, 1) := by decide +kernel
theorem dL_representative_13 : decode cL_representative 13 = .ok (.iconst 1, 1) := by decide +kernel
theorem dL_representative_14 : decode cL_representative 14 = .ok (.ireturn, 1) := by decide +kernel
theorem dL_representative_15 : decode cL_representative 15 = .ok (.iconst 0, 1) := by decide +kernel
theorem dL_representative_16 : decode cL_representative 16 = .ok (.ireturn, 1) := by decide +kernel
abbrev mtL_representative : mj_T := (yL_representative.cls, cL_representative, 4, some .int, mj_tb [(0, 9, 12, 29)], yL_representative.name)
abbrev kL_representative (k0 : Nat) (x1 : Int32) (k2 : Nat) (g : mj_S) (M : mj_M) (q : Int32 → mj_M → Prop) : Prop := mj_CIW yL_representative (.codeWith yL_representative cL_representative 4 (some .int) [(0, 9, 12, 29)]) 9 1 6 [.ref (k0), .int (x1), .ref (k2)] g M q
theorem eL_representative {k0 : Nat} {x1 : Int32} {k2 : Nat} {g : mj_S} {M : mj_M} {q : Int32 → mj_M → Prop} (h0 : is9 g k0) (h2 : k2 < g.1 ∧ g.2.1 k2 = (1, 2, 1)) (h : ∃ (q1 : Int32 → mj_M → Prop) (qx1 : String → mj_M → Prop), kX9_representative (k0) (x1) g (M) q1 qx1 ∧ (∀ (X : String) (M9 : mj_M), qx1 X M9 → (X = mj_IO ∧ q (1) (M9))) ∧ ∀ (v1 : Int32) (M1 : mj_M), q1 v1 M1 → (q (0) (mj_wL (M1) (k2) (Int32.toNatClampNeg (0)) (Int32.toInt64 (v1))))) : kL_representative (k0) (x1) (k2) g M q := by
  intro d hd; refine mj_enterH (by decide +kernel) (Nat.le_of_ble_eq_true rfl) ?_
  show mj_G mtL_representative (mj_rm d 1 6) (mj_Fi (mj_qI g q) mj_x0 1 6) false 1 6 0 [(0, .ref (k0)), (1, .int (x1)), (2, .ref (k2))] [] g M
  refine mg_aload_n dL_representative_0 rfl 2 rfl ?_
  refine mg_iconst (v := 0) dL_representative_1 (by decide) ?_
  refine mg_aload_n dL_representative_2 rfl 0 rfl ?_
  refine mg_iload_n dL_representative_3 rfl 1 rfl ?_
  obtain ⟨q1, qx1, hC, hkx, hk⟩ := h
  refine mw_Vi [.int (x1)] [.int (0), .ref (k2)] dL_representative_4 wd_1201 kiX9_representative (Nat.le_of_ble_eq_true rfl) h0.1.1 h0.1.2 rfl (Nat.le_trans (Nat.le_of_ble_eq_true rfl) hd) ⟨Nat.le_of_ble_eq_true rfl, Nat.le_of_ble_eq_true rfl⟩ hC (fun X M9 hx => ?_) (fun v1 M1 hq => ?_)
  · obtain ⟨rfl, h⟩ := hkx X M9 hx
    refine mgx_catch1 (i := 3) [] ⟨0, 9, 12, 29⟩ [] (hh := [(0, 9, 12, 29)]) rfl rfl (by decide) (fun z hz => by cases hz) (by decide) (by decide) wd_816 dL_representative_12 rfl (Nat.le_of_ble_eq_true rfl) rfl ?_
    show mj_G mtL_representative (mj_rm d 1 6) (mj_Fi (mj_qI g q) mj_x0 1 6) false _ _ _ [(0, .ref (k0)), (1, .int (x1)), (2, .ref (k2))] [] g M9
    refine mg_iconst (v := 1) dL_representative_13 (by decide) ?_
    exact mex_i dL_representative_14 rfl h
  · replace h := hk v1 M1 hq
    refine mg_i2l dL_representative_7 ?_
    refine mg_last dL_representative_8 h2.1 h2.2 (vp_in_nI (n := 0) (Nat.le_of_ble_eq_true rfl) (Nat.le_of_ble_eq_true rfl)) ?_
    refine mg_goto (tgt := 15) dL_representative_9 (by decide) ?_
    refine mg_iconst (v := 0) dL_representative_15 (by decide) ?_
    exact mex_i dL_representative_16 rfl h
theorem dL_row_0 : decode cL_row 0 = .ok (.aload_n 3, 1) := by decide +kernel
theorem dL_row_1 : decode cL_row 1 = .ok (.iconst 0, 1) := by decide +kernel
theorem dL_row_2 : decode cL_row 2 = .ok (.aload_n 0, 1) := by decide +kernel
theorem dL_row_3 : decode cL_row 3 = .ok (.iload_n 1, 1) := by decide +kernel
theorem dL_row_4 : decode cL_row 4 = .ok (.iload_n 2, 1) := by decide +kernel
theorem dL_row_5 : decode cL_row 5 = .ok (.invokevirtual 107, 3) := by decide +kernel
theorem dL_row_8 : decode cL_row 8 = .ok (.i2l, 1) := by decide +kernel
theorem dL_row_9 : decode cL_row 9 = .ok (.lastore, 1) := by decide +kernel
theorem dL_row_10 : decode cL_row 10 = .ok (.goto 11, 3) := by decide +kernel
theorem dL_row_13 : decode cL_row 13 = .ok (.astore 4, 2) := by decide +kernel
theorem dL_row_15 : decode cL_row 15 = .ok (.iconst 1, 1) := by decide +kernel
theorem dL_row_16 : decode cL_row 16 = .ok (.ireturn, 1) := by decide +kernel
theorem dL_row_17 : decode cL_row 17 = .ok (.astore 4, 2) := by decide +kernel
theorem dL_row_19 : decode cL_row 19 = .ok (.iconst 2, 1) := by decide +kernel
theorem dL_row_20 : decode cL_row 20 = .ok (.ireturn, 1) := by decide +kernel
theorem dL_row_21 : decode cL_row 21 = .ok (.iconst 0, 1) := by decide +kernel
theorem dL_row_22 : decode cL_row 22 = .ok (.ireturn, 1) := by decide +kernel
abbrev mtL_row : mj_T := (yL_row.cls, cL_row, 5, some .int, mj_tb [(0, 10, 13, 29), (0, 10, 17, 13)], yL_row.name)
abbrev kL_row (k0 : Nat) (x1 : Int32) (x2 : Int32) (k3 : Nat) (g : mj_S) (M : mj_M) (q : Int32 → mj_M → Prop) : Prop := mj_CIW yL_row (.codeWith yL_row cL_row 5 (some .int) [(0, 10, 13, 29), (0, 10, 17, 13)]) 8 1 6 [.ref (k0), .int (x1), .int (x2), .ref (k3)] g M q
theorem eL_row {k0 : Nat} {x1 : Int32} {x2 : Int32} {k3 : Nat} {g : mj_S} {M : mj_M} {q : Int32 → mj_M → Prop} (h0 : is9 g k0) (h3 : k3 < g.1 ∧ g.2.1 k3 = (1, 2, 1)) (h : ∃ (q1 : Int32 → mj_M → Prop) (qx1 : String → mj_M → Prop), kX9_row (k0) (x1) (x2) g (M) q1 qx1 ∧ (∀ (X : String) (M9 : mj_M), qx1 X M9 → (X = mj_IO ∧ q (1) (M9)) ∨ (X = mj_IA ∧ q (2) (M9))) ∧ ∀ (v1 : Int32) (M1 : mj_M), q1 v1 M1 → (q (0) (mj_wL (M1) (k3) (Int32.toNatClampNeg (0)) (Int32.toInt64 (v1))))) : kL_row (k0) (x1) (x2) (k3) g M q := by
  intro d hd; refine mj_enterH (by decide +kernel) (Nat.le_of_ble_eq_true rfl) ?_
  show mj_G mtL_row (mj_rm d 1 6) (mj_Fi (mj_qI g q) mj_x0 1 6) false 1 6 0 [(0, .ref (k0)), (1, .int (x1)), (2, .int (x2)), (3, .ref (k3))] [] g M
  refine mg_aload_n dL_row_0 rfl 3 rfl ?_
  refine mg_iconst (v := 0) dL_row_1 (by decide) ?_
  refine mg_aload_n dL_row_2 rfl 0 rfl ?_
  refine mg_iload_n dL_row_3 rfl 1 rfl ?_
  refine mg_iload_n dL_row_4 rfl 2 rfl ?_
  obtain ⟨q1, qx1, hC, hkx, hk⟩ := h
  refine mw_Vi [.int (x1), .int (x2)] [.int (0), .ref (k3)] dL_row_5 wd_1209 kiX9_row (Nat.le_of_ble_eq_true rfl) h0.1.1 h0.1.2 rfl (Nat.le_trans (Nat.le_of_ble_eq_true rfl) hd) ⟨Nat.le_of_ble_eq_true rfl, Nat.le_of_ble_eq_true rfl⟩ hC (fun X M9 hx => ?_) (fun v1 M1 hq => ?_)
  · rcases hkx X M9 hx with ⟨rfl, h⟩ | ⟨rfl, h⟩
    · refine mgx_catch2 (i := 4) [] ⟨0, 10, 13, 29⟩ [⟨0, 10, 17, 13⟩] (hh := [(0, 10, 13, 29), (0, 10, 17, 13)]) rfl rfl (by decide) (fun z hz => by cases hz) (by decide) (by decide) wd_816 dL_row_13 (Nat.le_of_ble_eq_true rfl) rfl ?_
      show mj_G mtL_row (mj_rm d 1 6) (mj_Fi (mj_qI g q) mj_x0 1 6) false _ _ _ [(0, .ref (k0)), (1, .int (x1)), (2, .int (x2)), (3, .ref (k3))] [] g M9
      refine mg_iconst (v := 1) dL_row_15 (by decide) ?_
      exact mex_i dL_row_16 rfl h
    · refine mgx_catch2 (i := 4) [⟨0, 10, 13, 29⟩] ⟨0, 10, 17, 13⟩ [] (hh := [(0, 10, 13, 29), (0, 10, 17, 13)]) rfl rfl (by decide) (fun z hz => by rcases List.mem_cons.mp hz with rfl | hz; exact ⟨by decide, mj_IO, by decide, wd_816, by decide⟩; cases hz) (by decide) (by decide) wd_672 dL_row_17 (Nat.le_of_ble_eq_true rfl) rfl ?_
      show mj_G mtL_row (mj_rm d 1 6) (mj_Fi (mj_qI g q) mj_x0 1 6) false _ _ _ [(0, .ref (k0)), (1, .int (x1)), (2, .int (x2)), (3, .ref (k3))] [] g M9
      refine mg_iconst (v := 2) dL_row_19 (by decide) ?_
      exact mex_i dL_row_20 rfl h
  · replace h := hk v1 M1 hq
    refine mg_i2l dL_row_8 ?_
    refine mg_last dL_row_9 h3.1 h3.2 (vp_in_nI (n := 0) (Nat.le_of_ble_eq_true rfl) (Nat.le_of_ble_eq_true rfl)) ?_
    refine mg_goto (tgt := 21) dL_row_10 (by decide) ?_
    refine mg_iconst (v := 0) dL_row_21 (by decide) ?_
    exact mex_i dL_row_22 rfl h
theorem dL_extend_0 : decode cL_extend 0 = .ok (.aload_n 2, 1) := by decide +kernel
theorem dL_extend_1 : decode cL_extend 1 = .ok (.iconst 0, 1) := by decide +kernel
theorem dL_extend_2 : decode cL_extend 2 = .ok (.aload_n 0, 1) := by decide +kernel
theorem dL_extend_3 : decode cL_extend 3 = .ok (.iload_n 1, 1) := by decide +kernel
theorem dL_extend_4 : decode cL_extend 4 = .ok (.invokevirtual 110, 3) := by decide +kernel
theorem dL_extend_7 : decode cL_extend 7 = .ok (.i2l, 1) := by decide +kernel
theorem dL_extend_8 : decode cL_extend 8 = .ok (.lastore, 1) := by decide +kernel
theorem dL_extend_9 : decode cL_extend 9 = .ok (.goto 6, 3) := by decide +kernel
theorem dL_extend_12 : decode cL_extend 12 = .ok (.astore_n 3, 1) := by decide +kernel
theorem dL_extend_13 : decode cL_extend 13 = .ok (.iconst 1, 1) := by decide +kernel
theorem dL_extend_14 : decode cL_extend 14 = .ok (.ireturn, 1) := by decide +kernel
theorem dL_extend_15 : decode cL_extend 15 = .ok (.iconst 0, 1) := by decide +kernel
theorem dL_extend_16 : decode cL_extend 16 = .ok (.ireturn, 1) := by decide +kernel
abbrev mtL_extend : mj_T := (yL_extend.cls, cL_extend, 4, some .int, mj_tb [(0, 9, 12, 13)], yL_extend.name)
abbrev kL_extend (k0 : Nat) (x1 : Int32) (k2 : Nat) (g : mj_S) (M : mj_M) (q : Int32 → mj_M → Prop) : Prop := mj_CIW yL_extend (.codeWith yL_extend cL_extend 4 (some .int) [(0, 9, 12, 13)]) 9 1 6 [.ref (k0), .int (x1), .ref (k2)] g M q
theorem eL_extend {k0 : Nat} {x1 : Int32} {k2 : Nat} {g : mj_S} {M : mj_M} {q : Int32 → mj_M → Prop} (h0 : is9 g k0) (h2 : k2 < g.1 ∧ g.2.1 k2 = (1, 2, 1)) (h : ∃ (q1 : Int32 → mj_M → Prop) (qx1 : String → mj_M → Prop), kX9_extend (k0) (x1) g (M) q1 qx1 ∧ (∀ (X : String) (M9 : mj_M), qx1 X M9 → (X = mj_IA ∧ q (1) (M9))) ∧ ∀ (v1 : Int32) (M1 : mj_M), q1 v1 M1 → (q (0) (mj_wL (M1) (k2) (Int32.toNatClampNeg (0)) (Int32.toInt64 (v1))))) : kL_extend (k0) (x1) (k2) g M q := by
  intro d hd; refine mj_enterH (by decide +kernel) (Nat.le_of_ble_eq_true rfl) ?_
  show mj_G mtL_extend (mj_rm d 1 6) (mj_Fi (mj_qI g q) mj_x0 1 6) false 1 6 0 [(0, .ref (k0)), (1, .int (x1)), (2, .ref (k2))] [] g M
  refine mg_aload_n dL_extend_0 rfl 2 rfl ?_
  refine mg_iconst (v := 0) dL_extend_1 (by decide) ?_
  refine mg_aload_n dL_extend_2 rfl 0 rfl ?_
  refine mg_iload_n dL_extend_3 rfl 1 rfl ?_
  obtain ⟨q1, qx1, hC, hkx, hk⟩ := h
  refine mw_Vi [.int (x1)] [.int (0), .ref (k2)] dL_extend_4 wd_1218 kiX9_extend (Nat.le_of_ble_eq_true rfl) h0.1.1 h0.1.2 rfl (Nat.le_trans (Nat.le_of_ble_eq_true rfl) hd) ⟨Nat.le_of_ble_eq_true rfl, Nat.le_of_ble_eq_true rfl⟩ hC (fun X M9 hx => ?_) (fun v1 M1 hq => ?_)
  · obtain ⟨rfl, h⟩ := hkx X M9 hx
    refine mgx_catch1 (i := 3) [] ⟨0, 9, 12, 13⟩ [] (hh := [(0, 9, 12, 13)]) rfl rfl (by decide) (fun z hz => by cases hz) (by decide) (by decide) wd_672 dL_extend_12 rfl (Nat.le_of_ble_eq_true rfl) rfl ?_
    show mj_G mtL_extend (mj_rm d 1 6) (mj_Fi (mj_qI g q) mj_x0 1 6) false _ _ _ [(0, .ref (k0)), (1, .int (x1)), (2, .ref (k2))] [] g M9
    refine mg_iconst (v := 1) dL_extend_13 (by decide) ?_
    exact mex_i dL_extend_14 rfl h
  · replace h := hk v1 M1 hq
    refine mg_i2l dL_extend_7 ?_
    refine mg_last dL_extend_8 h2.1 h2.2 (vp_in_nI (n := 0) (Nat.le_of_ble_eq_true rfl) (Nat.le_of_ble_eq_true rfl)) ?_
    refine mg_goto (tgt := 15) dL_extend_9 (by decide) ?_
    refine mg_iconst (v := 0) dL_extend_15 (by decide) ?_
    exact mex_i dL_extend_16 rfl h
theorem dL_unsatisfied_0 : decode cL_unsatisfied 0 = .ok (.aload_n 2, 1) := by decide +kernel
theorem dL_unsatisfied_1 : decode cL_unsatisfied 1 = .ok (.iconst 0, 1) := by decide +kernel
theorem dL_unsatisfied_2 : decode cL_unsatisfied 2 = .ok (.aload_n 0, 1) := by decide +kernel
theorem dL_unsatisfied_3 : decode cL_unsatisfied 3 = .ok (.iload_n 1, 1) := by decide +kernel
theorem dL_unsatisfied_4 : decode cL_unsatisfied 4 = .ok (.invokevirtual 113, 3) := by decide +kernel
theorem dL_unsatisfied_7 : decode cL_unsatisfied 7 = .ok (.i2l, 1) := by decide +kernel
theorem dL_unsatisfied_8 : decode cL_unsatisfied 8 = .ok (.lastore, 1) := by decide +kernel
theorem dL_unsatisfied_9 : decode cL_unsatisfied 9 = .ok (.goto 6, 3) := by decide +kernel
theorem dL_unsatisfied_12 : decode cL_unsatisfied 12 = .ok (.astore_n 3, 1) := by decide +kernel
theorem dL_unsatisfied_13 : decode cL_unsatisfied 13 = .ok (.iconst 1, 1) := by decide +kernel
theorem dL_unsatisfied_14 : decode cL_unsatisfied 14 = .ok (.ireturn, 1) := by decide +kernel
theorem dL_unsatisfied_15 : decode cL_unsatisfied 15 = .ok (.iconst 0, 1) := by decide +kernel
theorem dL_unsatisfied_16 : decode cL_unsatisfied 16 = .ok (.ireturn, 1) := by decide +kernel
abbrev mtL_unsatisfied : mj_T := (yL_unsatisfied.cls, cL_unsatisfied, 4, some .int, mj_tb [(0, 9, 12, 13)], yL_unsatisfied.name)
abbrev kL_unsatisfied (k0 : Nat) (x1 : Int32) (k2 : Nat) (g : mj_S) (M : mj_M) (q : Int32 → mj_M → Prop) : Prop := mj_CIW yL_unsatisfied (.codeWith yL_unsatisfied cL_unsatisfied 4 (some .int) [(0, 9, 12, 13)]) 9 1 6 [.ref (k0), .int (x1), .ref (k2)] g M q
theorem eL_unsatisfied {k0 : Nat} {x1 : Int32} {k2 : Nat} {g : mj_S} {M : mj_M} {q : Int32 → mj_M → Prop} (h0 : is9 g k0) (h2 : k2 < g.1 ∧ g.2.1 k2 = (1, 2, 1)) (h : ∃ (q1 : Int32 → mj_M → Prop) (qx1 : String → mj_M → Prop), kX9_unsatisfied (k0) (x1) g (M) q1 qx1 ∧ (∀ (X : String) (M9 : mj_M), qx1 X M9 → (X = mj_IA ∧ q (1) (M9))) ∧ ∀ (v1 : Int32) (M1 : mj_M), q1 v1 M1 → (q (0) (mj_wL (M1) (k2) (Int32.toNatClampNeg (0)) (Int32.toInt64 (v1))))) : kL_unsatisfied (k0) (x1) (k2) g M q := by
  intro d hd; refine mj_enterH (by decide +kernel) (Nat.le_of_ble_eq_true rfl) ?_
  show mj_G mtL_unsatisfied (mj_rm d 1 6) (mj_Fi (mj_qI g q) mj_x0 1 6) false 1 6 0 [(0, .ref (k0)), (1, .int (x1)), (2, .ref (k2))] [] g M
  refine mg_aload_n dL_unsatisfied_0 rfl 2 rfl ?_
  refine mg_iconst (v := 0) dL_unsatisfied_1 (by decide) ?_
  refine mg_aload_n dL_unsatisfied_2 rfl 0 rfl ?_
  refine mg_iload_n dL_unsatisfied_3 rfl 1 rfl ?_
  obtain ⟨q1, qx1, hC, hkx, hk⟩ := h
  refine mw_Vi [.int (x1)] [.int (0), .ref (k2)] dL_unsatisfied_4 wd_1230 kiX9_unsatisfied (Nat.le_of_ble_eq_true rfl) h0.1.1 h0.1.2 rfl (Nat.le_trans (Nat.le_of_ble_eq_true rfl) hd) ⟨Nat.le_of_ble_eq_true rfl, Nat.le_of_ble_eq_true rfl⟩ hC (fun X M9 hx => ?_) (fun v1 M1 hq => ?_)
  · obtain ⟨rfl, h⟩ := hkx X M9 hx
    refine mgx_catch1 (i := 3) [] ⟨0, 9, 12, 13⟩ [] (hh := [(0, 9, 12, 13)]) rfl rfl (by decide) (fun z hz => by cases hz) (by decide) (by decide) wd_672 dL_unsatisfied_12 rfl (Nat.le_of_ble_eq_true rfl) rfl ?_
    show mj_G mtL_unsatisfied (mj_rm d 1 6) (mj_Fi (mj_qI g q) mj_x0 1 6) false _ _ _ [(0, .ref (k0)), (1, .int (x1)), (2, .ref (k2))] [] g M9
    refine mg_iconst (v := 1) dL_unsatisfied_13 (by decide) ?_
    exact mex_i dL_unsatisfied_14 rfl h
  · replace h := hk v1 M1 hq
    refine mg_i2l dL_unsatisfied_7 ?_
    refine mg_last dL_unsatisfied_8 h2.1 h2.2 (vp_in_nI (n := 0) (Nat.le_of_ble_eq_true rfl) (Nat.le_of_ble_eq_true rfl)) ?_
    refine mg_goto (tgt := 15) dL_unsatisfied_9 (by decide) ?_
    refine mg_iconst (v := 0) dL_unsatisfied_15 (by decide) ?_
    exact mex_i dL_unsatisfied_16 rfl h
theorem dL_predict_0 : decode cL_predict 0 = .ok (.aload_n 3, 1) := by decide +kernel
theorem dL_predict_1 : decode cL_predict 1 = .ok (.iconst 0, 1) := by decide +kernel
theorem dL_predict_2 : decode cL_predict 2 = .ok (.aload_n 0, 1) := by decide +kernel
theorem dL_predict_3 : decode cL_predict 3 = .ok (.iload_n 1, 1) := by decide +kernel
theorem dL_predict_4 : decode cL_predict 4 = .ok (.iload_n 2, 1) := by decide +kernel
theorem dL_predict_5 : decode cL_predict 5 = .ok (.invokevirtual 116, 3) := by decide +kernel
theorem dL_predict_8 : decode cL_predict 8 = .ok (.i2l, 1) := by decide +kernel
theorem dL_predict_9 : decode cL_predict 9 = .ok (.lastore, 1) := by decide +kernel
theorem dL_predict_10 : decode cL_predict 10 = .ok (.goto 7, 3) := by decide +kernel
theorem dL_predict_13 : decode cL_predict 13 = .ok (.astore 4, 2) := by decide +kernel
theorem dL_predict_15 : decode cL_predict 15 = .ok (.iconst 1, 1) := by decide +kernel
theorem dL_predict_16 : decode cL_predict 16 = .ok (.ireturn, 1) := by decide +kernel
theorem dL_predict_17 : decode cL_predict 17 = .ok (.iconst 0, 1) := by decide +kernel
theorem dL_predict_18 : decode cL_predict 18 = .ok (.ireturn, 1) := by decide +kernel
abbrev mtL_predict : mj_T := (yL_predict.cls, cL_predict, 5, some .int, mj_tb [(0, 10, 13, 13)], yL_predict.name)
abbrev kL_predict (k0 : Nat) (x1 : Int32) (x2 : Int32) (k3 : Nat) (g : mj_S) (M : mj_M) (q : Int32 → mj_M → Prop) : Prop := mj_CIW yL_predict (.codeWith yL_predict cL_predict 5 (some .int) [(0, 10, 13, 13)]) 9 1 6 [.ref (k0), .int (x1), .int (x2), .ref (k3)] g M q
theorem eL_predict {k0 : Nat} {x1 : Int32} {x2 : Int32} {k3 : Nat} {g : mj_S} {M : mj_M} {q : Int32 → mj_M → Prop} (h0 : is9 g k0) (h3 : k3 < g.1 ∧ g.2.1 k3 = (1, 2, 1)) (h : ∃ (q1 : Int32 → mj_M → Prop) (qx1 : String → mj_M → Prop), kX9_predict (k0) (x1) (x2) g (M) q1 qx1 ∧ (∀ (X : String) (M9 : mj_M), qx1 X M9 → (X = mj_IA ∧ q (1) (M9))) ∧ ∀ (v1 : Int32) (M1 : mj_M), q1 v1 M1 → (q (0) (mj_wL (M1) (k3) (Int32.toNatClampNeg (0)) (Int32.toInt64 (v1))))) : kL_predict (k0) (x1) (x2) (k3) g M q := by
  intro d hd; refine mj_enterH (by decide +kernel) (Nat.le_of_ble_eq_true rfl) ?_
  show mj_G mtL_predict (mj_rm d 1 6) (mj_Fi (mj_qI g q) mj_x0 1 6) false 1 6 0 [(0, .ref (k0)), (1, .int (x1)), (2, .int (x2)), (3, .ref (k3))] [] g M
  refine mg_aload_n dL_predict_0 rfl 3 rfl ?_
  refine mg_iconst (v := 0) dL_predict_1 (by decide) ?_
  refine mg_aload_n dL_predict_2 rfl 0 rfl ?_
  refine mg_iload_n dL_predict_3 rfl 1 rfl ?_
  refine mg_iload_n dL_predict_4 rfl 2 rfl ?_
  obtain ⟨q1, qx1, hC, hkx, hk⟩ := h
  refine mw_Vi [.int (x1), .int (x2)] [.int (0), .ref (k3)] dL_predict_5 wd_1241 kiX9_predict (Nat.le_of_ble_eq_true rfl) h0.1.1 h0.1.2 rfl (Nat.le_trans (Nat.le_of_ble_eq_true rfl) hd) ⟨Nat.le_of_ble_eq_true rfl, Nat.le_of_ble_eq_true rfl⟩ hC (fun X M9 hx => ?_) (fun v1 M1 hq => ?_)
  · obtain ⟨rfl, h⟩ := hkx X M9 hx
    refine mgx_catch2 (i := 4) [] ⟨0, 10, 13, 13⟩ [] (hh := [(0, 10, 13, 13)]) rfl rfl (by decide) (fun z hz => by cases hz) (by decide) (by decide) wd_672 dL_predict_13 (Nat.le_of_ble_eq_true rfl) rfl ?_
    show mj_G mtL_predict (mj_rm d 1 6) (mj_Fi (mj_qI g q) mj_x0 1 6) false _ _ _ [(0, .ref (k0)), (1, .int (x1)), (2, .int (x2)), (3, .ref (k3))] [] g M9
    refine mg_iconst (v := 1) dL_predict_15 (by decide) ?_
    exact mex_i dL_predict_16 rfl h
  · replace h := hk v1 M1 hq
    refine mg_i2l dL_predict_8 ?_
    refine mg_last dL_predict_9 h3.1 h3.2 (vp_in_nI (n := 0) (Nat.le_of_ble_eq_true rfl) (Nat.le_of_ble_eq_true rfl)) ?_
    refine mg_goto (tgt := 17) dL_predict_10 (by decide) ?_
    refine mg_iconst (v := 0) dL_predict_17 (by decide) ?_
    exact mex_i dL_predict_18 rfl h
