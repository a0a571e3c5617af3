theorem dX0_init_0 : decode cX0_init 0 = .ok (.aload_n 0, 1) := by decide +kernel
theorem dX0_init_1 : decode cX0_init 1 = .ok (.invokespecial 1, 3) := by decide +kernel
theorem dX0_init_4 : decode cX0_init 4 = .ok (.aload_n 0, 1) := by decide +kernel
theorem dX0_init_5 : decode cX0_init 5 = .ok (.iload_n 1, 1) := by decide +kernel
theorem dX0_init_6 : decode cX0_init 6 = .ok (.iconst 0, 1) := by decide +kernel
theorem dX0_init_7 : decode cX0_init 7 = .ok (.invokestatic 7, 3) := by decide +kernel
theorem dX0_init_10 : decode cX0_init 10 = .ok (.newarray .int, 2) := by decide +kernel
theorem dX0_init_12 : decode cX0_init 12 = .ok (.putfield 13, 3) := by decide +kernel
theorem dX0_init_15 : decode cX0_init 15 = .ok (.aload_n 0, 1) := by decide +kernel
theorem dX0_init_16 : decode cX0_init 16 = .ok (.iconst 0, 1) := by decide +kernel
theorem dX0_init_17 : decode cX0_init 17 = .ok (.putfield 19, 3) := by decide +kernel
theorem dX0_init_20 : decode cX0_init 20 = .ok (.return_, 1) := by decide +kernel
abbrev mtX0_init : mj_T := (yX0_init.cls, cX0_init, 2, none, mj_no, yX0_init.name)
abbrev kX0_init (k0 : Nat) (x1 : Int32) (g : mj_S) (M : mj_M) (q : mj_S → mj_M → Prop) : Prop := mj_CN yX0_init (.code yX0_init cX0_init 2 none) 1 1 (x1.toNatClampNeg) [.ref k0, .int x1] g M q
theorem eX0_init {k0 : Nat} {x1 : Int32} {g : mj_S} {M : mj_M} {q : mj_S → mj_M → Prop} (h : (¬ (if (x1) < (0 : Int32) then (0 : Int32) else (x1) : Int32) < 0 ∧ Int32.toNatClampNeg (if (x1) < (0 : Int32) then (0 : Int32) else (x1)) = Int32.toNatClampNeg (if (x1) < (0 : Int32) then (0 : Int32) else (x1)) ∧ Int32.toNatClampNeg (if (x1) < (0 : Int32) then (0 : Int32) else (x1)) ≤ 100000 ∧ 1 ≤ 1 ∧ Int32.toNatClampNeg (if (x1) < (0 : Int32) then (0 : Int32) else (x1)) ≤ (x1.toNatClampNeg) ∧ (g).1 + 1 ≤ 900000) ∧ (∀ a1 : Nat, a1 = g.1 → ∀ g1, g1 = mj_gA (g) (1, 0, Int32.toNatClampNeg (if (x1) < (0 : Int32) then (0 : Int32) else (x1))) → ∀ M1, M1 = mj_mZ (M) a1 → ((k0) < (g1).1 ∧ (g1).2.1 (k0) = (0, 0, 0)) ∧ (∀ g2, g2 = mj_gR g1 (k0) 0 (some (a1)) → ((k0) < (g2).1 ∧ (g2).2.1 (k0) = (0, 0, 0)) ∧ (g.1 + 1 = (g2).1 ∧ q (g2) (mj_wI (M1) (k0) 1 (0)))))) : kX0_init k0 x1 g M q := by
  intro d hd; refine mj_enter (by decide +kernel) (Nat.le_of_ble_eq_true rfl) ?_
  show mj_G mtX0_init (mj_rm d 1 (x1.toNatClampNeg)) (mj_Fi (mj_qN g 1 q) mj_x0 1 (x1.toNatClampNeg)) true 1 (x1.toNatClampNeg) 0 [(0, .ref (k0)), (1, .int (x1))] [] g M
  refine mg_aload_n dX0_init_0 rfl 0 rfl ?_
  refine mg_objInit dX0_init_1 wd_44 wd_31 wd_32 (Nat.le_trans (Nat.le_of_ble_eq_true rfl) hd) (Nat.le_trans (Nat.le_of_ble_eq_true rfl) (Nat.mul_le_mul_left 38 hd)) (Nat.le_of_ble_eq_true rfl) ?_
  refine mg_aload_n dX0_init_4 rfl 0 rfl ?_
  refine mg_iload_n dX0_init_5 rfl 1 rfl ?_
  refine mg_iconst (v := 0) dX0_init_6 (by decide) ?_
  refine mg_mmax dX0_init_7 wd_45 (Nat.le_trans (Nat.le_of_ble_eq_true rfl) hd) (Nat.le_of_ble_eq_true rfl) ?_
  obtain ⟨⟨hn, hN, hb0, hb1, hb2, hb3⟩, h⟩ := h
  refine mg_newarr (t := 0) (N := Int32.toNatClampNeg (if (x1) < (0 : Int32) then (0 : Int32) else (x1))) dX0_init_10 (Or.inl ⟨rfl, rfl⟩) wd_55 hn hN hb0 hb1 hb2 hb3 ?_
  obtain ⟨a1, ea1⟩ : ∃ z, z = g.1 := ⟨_, rfl⟩
  rw [← ea1]
  obtain ⟨g1, eg1⟩ : ∃ z, z = mj_gA (g) (1, 0, Int32.toNatClampNeg (if (x1) < (0 : Int32) then (0 : Int32) else (x1))) := ⟨_, rfl⟩
  rw [← eg1]
  obtain ⟨M1, eM1⟩ : ∃ z, z = mj_mZ (M) a1 := ⟨_, rfl⟩
  rw [← eM1]
  replace h := h a1 ea1 g1 eg1 M1 eM1
  obtain ⟨hkk, h⟩ := h
  refine mg_putR (j := 0) dX0_init_12 kc_0 (Nat.le_of_ble_eq_true rfl) wd_48 rfl rfl rfl rfl rfl hkk.1 hkk.2 ?_
  obtain ⟨g2, eg2⟩ : ∃ z, z = mj_gR g1 (k0) 0 (some (a1)) := ⟨_, rfl⟩
  rw [← eg2]
  replace h := h g2 eg2
  refine mg_aload_n dX0_init_15 rfl 0 rfl ?_
  refine mg_iconst (v := 0) dX0_init_16 (by decide) ?_
  obtain ⟨hkk, h⟩ := h
  refine mg_putI (j := 1) dX0_init_17 kc_0 (Nat.le_of_ble_eq_true rfl) wd_49 rfl rfl rfl hkk.1 hkk.2 ?_
  exact mg_vret dX0_init_20 rfl ⟨rfl, h.1.symm, h.2⟩
theorem dX2_init_0 : decode cX2_init 0 = .ok (.aload_n 0, 1) := by decide +kernel
theorem dX2_init_1 : decode cX2_init 1 = .ok (.invokespecial 1, 3) := by decide +kernel
theorem dX2_init_4 : decode cX2_init 4 = .ok (.return_, 1) := by decide +kernel
abbrev mtX2_init : mj_T := (yX2_init.cls, cX2_init, 1, none, mj_no, yX2_init.name)
abbrev kX2_init (k0 : Nat) (g : mj_S) (M : mj_M) (q : mj_S → mj_M → Prop) : Prop := mj_CN yX2_init (.code yX2_init cX2_init 1 none) 1 0 (0) [.ref k0] g M q
theorem eX2_init {k0 : Nat} {g : mj_S} {M : mj_M} {q : mj_S → mj_M → Prop} (h : g.1 + 0 = (g).1 ∧ q (g) (M)) : kX2_init k0 g M q := by
  intro d hd; refine mj_enter (by decide +kernel) (Nat.le_of_ble_eq_true rfl) ?_
  show mj_G mtX2_init (mj_rm d 0 (0)) (mj_Fi (mj_qN g 0 q) mj_x0 0 (0)) true 0 (0) 0 [(0, .ref (k0))] [] g M
  refine mg_aload_n dX2_init_0 rfl 0 rfl ?_
  refine mg_objInit dX2_init_1 wd_154 wd_31 wd_32 (Nat.le_trans (Nat.le_of_ble_eq_true rfl) hd) (Nat.le_trans (Nat.le_of_ble_eq_true rfl) (Nat.mul_le_mul_left 38 hd)) (Nat.le_of_ble_eq_true rfl) ?_
  exact mg_vret dX2_init_4 rfl ⟨rfl, h.1.symm, h.2⟩
theorem dX4_init_0 : decode cX4_init 0 = .ok (.aload_n 0, 1) := by decide +kernel
theorem dX4_init_1 : decode cX4_init 1 = .ok (.invokespecial 3, 3) := by decide +kernel
theorem dX4_init_4 : decode cX4_init 4 = .ok (.aload_n 0, 1) := by decide +kernel
theorem dX4_init_5 : decode cX4_init 5 = .ok (.bipush 20, 2) := by decide +kernel
theorem dX4_init_7 : decode cX4_init 7 = .ok (.newarray .int, 2) := by decide +kernel
theorem dX4_init_9 : decode cX4_init 9 = .ok (.putfield 9, 3) := by decide +kernel
theorem dX4_init_12 : decode cX4_init 12 = .ok (.return_, 1) := by decide +kernel
abbrev mtX4_init : mj_T := (yX4_init.cls, cX4_init, 1, none, mj_no, yX4_init.name)
abbrev kX4_init (k0 : Nat) (g : mj_S) (M : mj_M) (q : mj_S → mj_M → Prop) : Prop := mj_CN yX4_init (.code yX4_init cX4_init 1 none) 1 1 (20) [.ref k0] g M q
theorem eX4_init {k0 : Nat} {g : mj_S} {M : mj_M} {q : mj_S → mj_M → Prop} (h : (¬ (20 : Int32) < 0 ∧ Int32.toNatClampNeg (20 : Int32) = 20 ∧ 20 ≤ 100000 ∧ 1 ≤ 1 ∧ 20 ≤ (20) ∧ (g).1 + 1 ≤ 900000) ∧ (∀ a1 : Nat, a1 = g.1 → ∀ g1, g1 = mj_gA (g) (1, 0, 20) → ∀ M1, M1 = mj_mZ (M) a1 → ((k0) < (g1).1 ∧ (g1).2.1 (k0) = (0, 4, 0)) ∧ (∀ g2, g2 = mj_gR g1 (k0) 0 (some (a1)) → g.1 + 1 = (g2).1 ∧ q (g2) (M1)))) : kX4_init k0 g M q := by
  intro d hd; refine mj_enter (by decide +kernel) (Nat.le_of_ble_eq_true rfl) ?_
  show mj_G mtX4_init (mj_rm d 1 (20)) (mj_Fi (mj_qN g 1 q) mj_x0 1 (20)) true 1 (20) 0 [(0, .ref (k0))] [] g M
  refine mg_aload_n dX4_init_0 rfl 0 rfl ?_
  refine mg_objInit dX4_init_1 wd_213 wd_31 wd_32 (Nat.le_trans (Nat.le_of_ble_eq_true rfl) hd) (Nat.le_trans (Nat.le_of_ble_eq_true rfl) (Nat.mul_le_mul_left 38 hd)) (Nat.le_of_ble_eq_true rfl) ?_
  refine mg_aload_n dX4_init_4 rfl 0 rfl ?_
  refine mg_bipush (v := 20) dX4_init_5 (by decide) ?_
  obtain ⟨⟨hn, hN, hb0, hb1, hb2, hb3⟩, h⟩ := h
  refine mg_newarr (t := 0) (N := 20) dX4_init_7 (Or.inl ⟨rfl, rfl⟩) wd_55 hn hN hb0 hb1 hb2 hb3 ?_
  obtain ⟨a1, ea1⟩ : ∃ z, z = g.1 := ⟨_, rfl⟩
  rw [← ea1]
  obtain ⟨g1, eg1⟩ : ∃ z, z = mj_gA (g) (1, 0, 20) := ⟨_, rfl⟩
  rw [← eg1]
  obtain ⟨M1, eM1⟩ : ∃ z, z = mj_mZ (M) a1 := ⟨_, rfl⟩
  rw [← eM1]
  replace h := h a1 ea1 g1 eg1 M1 eM1
  obtain ⟨hkk, h⟩ := h
  refine mg_putR (j := 0) dX4_init_9 kc_4 (Nat.le_of_ble_eq_true rfl) wd_214 rfl rfl rfl rfl rfl hkk.1 hkk.2 ?_
  obtain ⟨g2, eg2⟩ : ∃ z, z = mj_gR g1 (k0) 0 (some (a1)) := ⟨_, rfl⟩
  rw [← eg2]
  replace h := h g2 eg2
  exact mg_vret dX4_init_12 rfl ⟨rfl, h.1.symm, h.2⟩
theorem dX5_init_0 : decode cX5_init 0 = .ok (.aload_n 0, 1) := by decide +kernel
theorem dX5_init_1 : decode cX5_init 1 = .ok (.invokespecial 3, 3) := by decide +kernel
theorem dX5_init_4 : decode cX5_init 4 = .ok (.aload_n 0, 1) := by decide +kernel
theorem dX5_init_5 : decode cX5_init 5 = .ok (.new 9, 3) := by decide +kernel
theorem dX5_init_8 : decode cX5_init 8 = .ok (.dup, 1) := by decide +kernel
theorem dX5_init_9 : decode cX5_init 9 = .ok (.sipush 576, 3) := by decide +kernel
theorem dX5_init_12 : decode cX5_init 12 = .ok (.invokespecial 11, 3) := by decide +kernel
theorem dX5_init_15 : decode cX5_init 15 = .ok (.putfield 14, 3) := by decide +kernel
theorem dX5_init_18 : decode cX5_init 18 = .ok (.return_, 1) := by decide +kernel
abbrev mtX5_init : mj_T := (yX5_init.cls, cX5_init, 1, none, mj_no, yX5_init.name)
abbrev kX5_init (k0 : Nat) (g : mj_S) (M : mj_M) (q : mj_S → mj_M → Prop) : Prop := mj_CN yX5_init (.code yX5_init cX5_init 1 none) 2 2 (578) [.ref k0] g M q
theorem eX5_init {k0 : Nat} {g : mj_S} {M : mj_M} {q : mj_S → mj_M → Prop} (h : (1 ≤ 2 ∧ 2 ≤ (578) ∧ (g).1 + 1 ≤ 900000) ∧ (∀ a1 : Nat, a1 = g.1 → ∀ g1, g1 = mj_gA (g) (0, 0, 0) → ∀ M1, M1 = mj_mZ (M) a1 → ∃ q2 : mj_S → mj_M → Prop, (1 ≤ 2 - 1 ∧ 576 ≤ (578) - 2) ∧ kX0_init (a1) (576) (g1) (M1) q2 ∧ ∀ (g2 : mj_S) (M2 : mj_M), q2 g2 M2 → (((k0) < (g2).1 ∧ (g2).2.1 (k0) = (0, 5, 0)) ∧ (∀ g3, g3 = mj_gR g2 (k0) 0 (some (a1)) → g.1 + 2 = (g3).1 ∧ q (g3) (M2))))) : kX5_init k0 g M q := by
  intro d hd; refine mj_enter (by decide +kernel) (Nat.le_of_ble_eq_true rfl) ?_
  show mj_G mtX5_init (mj_rm d 2 (578)) (mj_Fi (mj_qN g 2 q) mj_x0 2 (578)) true 2 (578) 0 [(0, .ref (k0))] [] g M
  refine mg_aload_n dX5_init_0 rfl 0 rfl ?_
  refine mg_objInit dX5_init_1 wd_173 wd_31 wd_32 (Nat.le_trans (Nat.le_of_ble_eq_true rfl) hd) (Nat.le_trans (Nat.le_of_ble_eq_true rfl) (Nat.mul_le_mul_left 38 hd)) (Nat.le_of_ble_eq_true rfl) ?_
  refine mg_aload_n dX5_init_4 rfl 0 rfl ?_
  obtain ⟨⟨hb1, hb2, hb3⟩, h⟩ := h
  refine mg_new dX5_init_5 kc_0 wd_174 wd_40 wd_3 hb1 hb2 hb3 ?_
  obtain ⟨a1, ea1⟩ : ∃ z, z = g.1 := ⟨_, rfl⟩
  rw [← ea1]
  obtain ⟨g1, eg1⟩ : ∃ z, z = mj_gA (g) (0, 0, 0) := ⟨_, rfl⟩
  rw [← eg1]
  obtain ⟨M1, eM1⟩ : ∃ z, z = mj_mZ (M) a1 := ⟨_, rfl⟩
  rw [← eM1]
  replace h := h a1 ea1 g1 eg1 M1 eM1
  refine mg_dup dX5_init_8 rfl ?_
  refine mg_sipush (v := 576) dX5_init_9 (by decide) ?_
  obtain ⟨q2, hb, hC, hk⟩ := h
  refine mn_I [.int (576)] [.ref (a1), .ref (k0)] dX5_init_12 wd_175 rfl wd_42 wd_3 wd_43 ⟨by decide +kernel, by decide +kernel, by decide +kernel⟩ (mj_hR (Nat.le_trans (Nat.le_of_ble_eq_true rfl) hd) (Nat.le_of_ble_eq_true rfl)) (Nat.le_of_ble_eq_true rfl) hb hC (fun g2 M2 hq => ?_)
  replace h := hk g2 M2 hq
  obtain ⟨hkk, h⟩ := h
  refine mg_putR (j := 0) dX5_init_15 kc_5 (Nat.le_of_ble_eq_true rfl) wd_176 rfl rfl rfl rfl rfl hkk.1 hkk.2 ?_
  obtain ⟨g3, eg3⟩ : ∃ z, z = mj_gR g2 (k0) 0 (some (a1)) := ⟨_, rfl⟩
  rw [← eg3]
  replace h := h g3 eg3
  exact mg_vret dX5_init_18 rfl ⟨rfl, h.1.symm, h.2⟩
theorem dX1_init_0 : decode cX1_init 0 = .ok (.aload_n 0, 1) := by decide +kernel
theorem dX1_init_1 : decode cX1_init 1 = .ok (.invokespecial 3, 3) := by decide +kernel
theorem dX1_init_4 : decode cX1_init 4 = .ok (.aload_n 0, 1) := by decide +kernel
theorem dX1_init_5 : decode cX1_init 5 = .ok (.new 9, 3) := by decide +kernel
theorem dX1_init_8 : decode cX1_init 8 = .ok (.dup, 1) := by decide +kernel
theorem dX1_init_9 : decode cX1_init 9 = .ok (.bipush 81, 2) := by decide +kernel
theorem dX1_init_11 : decode cX1_init 11 = .ok (.invokespecial 11, 3) := by decide +kernel
theorem dX1_init_14 : decode cX1_init 14 = .ok (.putfield 14, 3) := by decide +kernel
theorem dX1_init_17 : decode cX1_init 17 = .ok (.return_, 1) := by decide +kernel
abbrev mtX1_init : mj_T := (yX1_init.cls, cX1_init, 1, none, mj_no, yX1_init.name)
abbrev kX1_init (k0 : Nat) (g : mj_S) (M : mj_M) (q : mj_S → mj_M → Prop) : Prop := mj_CN yX1_init (.code yX1_init cX1_init 1 none) 2 2 (83) [.ref k0] g M q
theorem eX1_init {k0 : Nat} {g : mj_S} {M : mj_M} {q : mj_S → mj_M → Prop} (h : (1 ≤ 2 ∧ 2 ≤ (83) ∧ (g).1 + 1 ≤ 900000) ∧ (∀ a1 : Nat, a1 = g.1 → ∀ g1, g1 = mj_gA (g) (0, 0, 0) → ∀ M1, M1 = mj_mZ (M) a1 → ∃ q2 : mj_S → mj_M → Prop, (1 ≤ 2 - 1 ∧ 81 ≤ (83) - 2) ∧ kX0_init (a1) (81) (g1) (M1) q2 ∧ ∀ (g2 : mj_S) (M2 : mj_M), q2 g2 M2 → (((k0) < (g2).1 ∧ (g2).2.1 (k0) = (0, 1, 0)) ∧ (∀ g3, g3 = mj_gR g2 (k0) 0 (some (a1)) → g.1 + 2 = (g3).1 ∧ q (g3) (M2))))) : kX1_init k0 g M q := by
  intro d hd; refine mj_enter (by decide +kernel) (Nat.le_of_ble_eq_true rfl) ?_
  show mj_G mtX1_init (mj_rm d 2 (83)) (mj_Fi (mj_qN g 2 q) mj_x0 2 (83)) true 2 (83) 0 [(0, .ref (k0))] [] g M
  refine mg_aload_n dX1_init_0 rfl 0 rfl ?_
  refine mg_objInit dX1_init_1 wd_123 wd_31 wd_32 (Nat.le_trans (Nat.le_of_ble_eq_true rfl) hd) (Nat.le_trans (Nat.le_of_ble_eq_true rfl) (Nat.mul_le_mul_left 38 hd)) (Nat.le_of_ble_eq_true rfl) ?_
  refine mg_aload_n dX1_init_4 rfl 0 rfl ?_
  obtain ⟨⟨hb1, hb2, hb3⟩, h⟩ := h
  refine mg_new dX1_init_5 kc_0 wd_124 wd_40 wd_3 hb1 hb2 hb3 ?_
  obtain ⟨a1, ea1⟩ : ∃ z, z = g.1 := ⟨_, rfl⟩
  rw [← ea1]
  obtain ⟨g1, eg1⟩ : ∃ z, z = mj_gA (g) (0, 0, 0) := ⟨_, rfl⟩
  rw [← eg1]
  obtain ⟨M1, eM1⟩ : ∃ z, z = mj_mZ (M) a1 := ⟨_, rfl⟩
  rw [← eM1]
  replace h := h a1 ea1 g1 eg1 M1 eM1
  refine mg_dup dX1_init_8 rfl ?_
  refine mg_bipush (v := 81) dX1_init_9 (by decide) ?_
  obtain ⟨q2, hb, hC, hk⟩ := h
  refine mn_I [.int (81)] [.ref (a1), .ref (k0)] dX1_init_11 wd_125 rfl wd_42 wd_3 wd_43 ⟨by decide +kernel, by decide +kernel, by decide +kernel⟩ (mj_hR (Nat.le_trans (Nat.le_of_ble_eq_true rfl) hd) (Nat.le_of_ble_eq_true rfl)) (Nat.le_of_ble_eq_true rfl) hb hC (fun g2 M2 hq => ?_)
  replace h := hk g2 M2 hq
  obtain ⟨hkk, h⟩ := h
  refine mg_putR (j := 0) dX1_init_14 kc_1 (Nat.le_of_ble_eq_true rfl) wd_126 rfl rfl rfl rfl rfl hkk.1 hkk.2 ?_
  obtain ⟨g3, eg3⟩ : ∃ z, z = mj_gR g2 (k0) 0 (some (a1)) := ⟨_, rfl⟩
  rw [← eg3]
  replace h := h g3 eg3
  exact mg_vret dX1_init_17 rfl ⟨rfl, h.1.symm, h.2⟩
theorem dX3_init_0 : decode cX3_init 0 = .ok (.aload_n 0, 1) := by decide +kernel
theorem dX3_init_1 : decode cX3_init 1 = .ok (.invokespecial 3, 3) := by decide +kernel
theorem dX3_init_4 : decode cX3_init 4 = .ok (.aload_n 0, 1) := by decide +kernel
theorem dX3_init_5 : decode cX3_init 5 = .ok (.new 9, 3) := by decide +kernel
theorem dX3_init_8 : decode cX3_init 8 = .ok (.dup, 1) := by decide +kernel
theorem dX3_init_9 : decode cX3_init 9 = .ok (.bipush 11, 2) := by decide +kernel
theorem dX3_init_11 : decode cX3_init 11 = .ok (.invokespecial 11, 3) := by decide +kernel
theorem dX3_init_14 : decode cX3_init 14 = .ok (.putfield 14, 3) := by decide +kernel
theorem dX3_init_17 : decode cX3_init 17 = .ok (.aload_n 0, 1) := by decide +kernel
theorem dX3_init_18 : decode cX3_init 18 = .ok (.bipush 11, 2) := by decide +kernel
theorem dX3_init_20 : decode cX3_init 20 = .ok (.newarray .int, 2) := by decide +kernel
theorem dX3_init_22 : decode cX3_init 22 = .ok (.putfield 20, 3) := by decide +kernel
theorem dX3_init_25 : decode cX3_init 25 = .ok (.return_, 1) := by decide +kernel
abbrev mtX3_init : mj_T := (yX3_init.cls, cX3_init, 1, none, mj_no, yX3_init.name)
abbrev kX3_init (k0 : Nat) (g : mj_S) (M : mj_M) (q : mj_S → mj_M → Prop) : Prop := mj_CN yX3_init (.code yX3_init cX3_init 1 none) 2 3 (24) [.ref k0] g M q
theorem eX3_init {k0 : Nat} {g : mj_S} {M : mj_M} {q : mj_S → mj_M → Prop} (h : (1 ≤ 3 ∧ 2 ≤ (24) ∧ (g).1 + 1 ≤ 900000) ∧ (∀ a1 : Nat, a1 = g.1 → ∀ g1, g1 = mj_gA (g) (0, 0, 0) → ∀ M1, M1 = mj_mZ (M) a1 → ∃ q2 : mj_S → mj_M → Prop, (1 ≤ 3 - 1 ∧ 11 ≤ (24) - 2) ∧ kX0_init (a1) (11) (g1) (M1) q2 ∧ ∀ (g2 : mj_S) (M2 : mj_M), q2 g2 M2 → (((k0) < (g2).1 ∧ (g2).2.1 (k0) = (0, 3, 0)) ∧ (∀ g3, g3 = mj_gR g2 (k0) 0 (some (a1)) → (¬ (11 : Int32) < 0 ∧ Int32.toNatClampNeg (11 : Int32) = 11 ∧ 11 ≤ 100000 ∧ 1 ≤ 3 - 1 - 1 ∧ 11 ≤ (24) - 2 - 11 ∧ (g3).1 + 1 ≤ 900000) ∧ (∀ a4 : Nat, a4 = g3.1 → ∀ g4, g4 = mj_gA (g3) (1, 0, 11) → ∀ M4, M4 = mj_mZ (M2) a4 → ((k0) < (g4).1 ∧ (g4).2.1 (k0) = (0, 3, 0)) ∧ (∀ g5, g5 = mj_gR g4 (k0) 1 (some (a4)) → g.1 + 3 = (g5).1 ∧ q (g5) (M4))))))) : kX3_init k0 g M q := by
  intro d hd; refine mj_enter (by decide +kernel) (Nat.le_of_ble_eq_true rfl) ?_
  show mj_G mtX3_init (mj_rm d 3 (24)) (mj_Fi (mj_qN g 3 q) mj_x0 3 (24)) true 3 (24) 0 [(0, .ref (k0))] [] g M
  refine mg_aload_n dX3_init_0 rfl 0 rfl ?_
  refine mg_objInit dX3_init_1 wd_187 wd_31 wd_32 (Nat.le_trans (Nat.le_of_ble_eq_true rfl) hd) (Nat.le_trans (Nat.le_of_ble_eq_true rfl) (Nat.mul_le_mul_left 38 hd)) (Nat.le_of_ble_eq_true rfl) ?_
  refine mg_aload_n dX3_init_4 rfl 0 rfl ?_
  obtain ⟨⟨hb1, hb2, hb3⟩, h⟩ := h
  refine mg_new dX3_init_5 kc_0 wd_188 wd_40 wd_3 hb1 hb2 hb3 ?_
  obtain ⟨a1, ea1⟩ : ∃ z, z = g.1 := ⟨_, rfl⟩
  rw [← ea1]
  obtain ⟨g1, eg1⟩ : ∃ z, z = mj_gA (g) (0, 0, 0) := ⟨_, rfl⟩
  rw [← eg1]
  obtain ⟨M1, eM1⟩ : ∃ z, z = mj_mZ (M) a1 := ⟨_, rfl⟩
  rw [← eM1]
  replace h := h a1 ea1 g1 eg1 M1 eM1
  refine mg_dup dX3_init_8 rfl ?_
  refine mg_bipush (v := 11) dX3_init_9 (by decide) ?_
  obtain ⟨q2, hb, hC, hk⟩ := h
  refine mn_I [.int (11)] [.ref (a1), .ref (k0)] dX3_init_11 wd_189 rfl wd_42 wd_3 wd_43 ⟨by decide +kernel, by decide +kernel, by decide +kernel⟩ (mj_hR (Nat.le_trans (Nat.le_of_ble_eq_true rfl) hd) (Nat.le_of_ble_eq_true rfl)) (Nat.le_of_ble_eq_true rfl) hb hC (fun g2 M2 hq => ?_)
  replace h := hk g2 M2 hq
  obtain ⟨hkk, h⟩ := h
  refine mg_putR (j := 0) dX3_init_14 kc_3 (Nat.le_of_ble_eq_true rfl) wd_190 rfl rfl rfl rfl rfl hkk.1 hkk.2 ?_
  obtain ⟨g3, eg3⟩ : ∃ z, z = mj_gR g2 (k0) 0 (some (a1)) := ⟨_, rfl⟩
  rw [← eg3]
  replace h := h g3 eg3
  refine mg_aload_n dX3_init_17 rfl 0 rfl ?_
  refine mg_bipush (v := 11) dX3_init_18 (by decide) ?_
  obtain ⟨⟨hn, hN, hb0, hb1, hb2, hb3⟩, h⟩ := h
  refine mg_newarr (t := 0) (N := 11) dX3_init_20 (Or.inl ⟨rfl, rfl⟩) wd_55 hn hN hb0 hb1 hb2 hb3 ?_
  obtain ⟨a4, ea4⟩ : ∃ z, z = g3.1 := ⟨_, rfl⟩
  rw [← ea4]
  obtain ⟨g4, eg4⟩ : ∃ z, z = mj_gA (g3) (1, 0, 11) := ⟨_, rfl⟩
  rw [← eg4]
  obtain ⟨M4, eM4⟩ : ∃ z, z = mj_mZ (M2) a4 := ⟨_, rfl⟩
  rw [← eM4]
  replace h := h a4 ea4 g4 eg4 M4 eM4
  obtain ⟨hkk, h⟩ := h
  refine mg_putR (j := 1) dX3_init_22 kc_3 (Nat.le_of_ble_eq_true rfl) wd_193 rfl rfl rfl rfl rfl hkk.1 hkk.2 ?_
  obtain ⟨g5, eg5⟩ : ∃ z, z = mj_gR g4 (k0) 1 (some (a4)) := ⟨_, rfl⟩
  rw [← eg5]
  replace h := h g5 eg5
  exact mg_vret dX3_init_25 rfl ⟨rfl, h.1.symm, h.2⟩
theorem dX6_init_0 : decode cX6_init 0 = .ok (.aload_n 0, 1) := by decide +kernel
theorem dX6_init_1 : decode cX6_init 1 = .ok (.invokespecial 3, 3) := by decide +kernel
theorem dX6_init_4 : decode cX6_init 4 = .ok (.aload_n 0, 1) := by decide +kernel
theorem dX6_init_5 : decode cX6_init 5 = .ok (.new 9, 3) := by decide +kernel
theorem dX6_init_8 : decode cX6_init 8 = .ok (.dup, 1) := by decide +kernel
theorem dX6_init_9 : decode cX6_init 9 = .ok (.bipush 48, 2) := by decide +kernel
theorem dX6_init_11 : decode cX6_init 11 = .ok (.invokespecial 11, 3) := by decide +kernel
theorem dX6_init_14 : decode cX6_init 14 = .ok (.putfield 14, 3) := by decide +kernel
theorem dX6_init_17 : decode cX6_init 17 = .ok (.aload_n 0, 1) := by decide +kernel
theorem dX6_init_18 : decode cX6_init 18 = .ok (.new 9, 3) := by decide +kernel
theorem dX6_init_21 : decode cX6_init 21 = .ok (.dup, 1) := by decide +kernel
theorem dX6_init_22 : decode cX6_init 22 = .ok (.bipush 32, 2) := by decide +kernel
theorem dX6_init_24 : decode cX6_init 24 = .ok (.invokespecial 11, 3) := by decide +kernel
theorem dX6_init_27 : decode cX6_init 27 = .ok (.putfield 20, 3) := by decide +kernel
theorem dX6_init_30 : decode cX6_init 30 = .ok (.aload_n 0, 1) := by decide +kernel
theorem dX6_init_31 : decode cX6_init 31 = .ok (.bipush 10, 2) := by decide +kernel
theorem dX6_init_33 : decode cX6_init 33 = .ok (.newarray .int, 2) := by decide +kernel
theorem dX6_init_35 : decode cX6_init 35 = .ok (.putfield 23, 3) := by decide +kernel
theorem dX6_init_38 : decode cX6_init 38 = .ok (.aload_n 0, 1) := by decide +kernel
theorem dX6_init_39 : decode cX6_init 39 = .ok (.bipush 10, 2) := by decide +kernel
theorem dX6_init_41 : decode cX6_init 41 = .ok (.newarray .int, 2) := by decide +kernel
theorem dX6_init_43 : decode cX6_init 43 = .ok (.putfield 27, 3) := by decide +kernel
theorem dX6_init_46 : decode cX6_init 46 = .ok (.aload_n 0, 1) := by decide +kernel
theorem dX6_init_47 : decode cX6_init 47 = .ok (.bipush 10, 2) := by decide +kernel
theorem dX6_init_49 : decode cX6_init 49 = .ok (.newarray .int, 2) := by decide +kernel
theorem dX6_init_51 : decode cX6_init 51 = .ok (.putfield 30, 3) := by decide +kernel
theorem dX6_init_54 : decode cX6_init 54 = .ok (.aload_n 0, 1) := by decide +kernel
theorem dX6_init_55 : decode cX6_init 55 = .ok (.sipush 140, 3) := by decide +kernel
theorem dX6_init_58 : decode cX6_init 58 = .ok (.newarray .int, 2) := by decide +kernel
theorem dX6_init_60 : decode cX6_init 60 = .ok (.putfield 33, 3) := by decide +kernel
theorem dX6_init_63 : decode cX6_init 63 = .ok (.aload_n 0, 1) := by decide +kernel
theorem dX6_init_64 : decode cX6_init 64 = .ok (.sipush 140, 3) := by decide +kernel
theorem dX6_init_67 : decode cX6_init 67 = .ok (.newarray .int, 2) := by decide +kernel
theorem dX6_init_69 : decode cX6_init 69 = .ok (.putfield 36, 3) := by decide +kernel
theorem dX6_init_72 : decode cX6_init 72 = .ok (.aload_n 0, 1) := by decide +kernel
theorem dX6_init_73 : decode cX6_init 73 = .ok (.bipush 8, 2) := by decide +kernel
theorem dX6_init_75 : decode cX6_init 75 = .ok (.invokevirtual 39, 3) := by decide +kernel
theorem dX6_init_78 : decode cX6_init 78 = .ok (.return_, 1) := by decide +kernel
abbrev mtX6_init : mj_T := (yX6_init.cls, cX6_init, 1, none, mj_no, yX6_init.name)
abbrev kX6_init (k0 : Nat) (g : mj_S) (M : mj_M) (q : mj_S → mj_M → Prop) : Prop := mj_CN yX6_init (.code yX6_init cX6_init 1 none) 2 9 (394) [.ref k0] g M q
theorem eX6_init {k0 : Nat} {g : mj_S} {M : mj_M} {q : mj_S → mj_M → Prop} (h : (1 ≤ 9 ∧ 2 ≤ (394) ∧ (g).1 + 1 ≤ 900000) ∧ (∀ a1 : Nat, a1 = g.1 → ∀ g1, g1 = mj_gA (g) (0, 0, 0) → ∀ M1, M1 = mj_mZ (M) a1 → ∃ q2 : mj_S → mj_M → Prop, (1 ≤ 9 - 1 ∧ 48 ≤ (394) - 2) ∧ kX0_init (a1) (48) (g1) (M1) q2 ∧ ∀ (g2 : mj_S) (M2 : mj_M), q2 g2 M2 → (((k0) < (g2).1 ∧ (g2).2.1 (k0) = (0, 6, 0)) ∧ (∀ g3, g3 = mj_gR g2 (k0) 3 (some (a1)) → (1 ≤ 9 - 1 - 1 ∧ 2 ≤ (394) - 2 - 48 ∧ (g3).1 + 1 ≤ 900000) ∧ (∀ a4 : Nat, a4 = g3.1 → ∀ g4, g4 = mj_gA (g3) (0, 0, 0) → ∀ M4, M4 = mj_mZ (M2) a4 → ∃ q5 : mj_S → mj_M → Prop, (1 ≤ 9 - 1 - 1 - 1 ∧ 32 ≤ (394) - 2 - 48 - 2) ∧ kX0_init (a4) (32) (g4) (M4) q5 ∧ ∀ (g5 : mj_S) (M5 : mj_M), q5 g5 M5 → (((k0) < (g5).1 ∧ (g5).2.1 (k0) = (0, 6, 0)) ∧ (∀ g6, g6 = mj_gR g5 (k0) 4 (some (a4)) → (¬ (10 : Int32) < 0 ∧ Int32.toNatClampNeg (10 : Int32) = 10 ∧ 10 ≤ 100000 ∧ 1 ≤ 9 - 1 - 1 - 1 - 1 ∧ 10 ≤ (394) - 2 - 48 - 2 - 32 ∧ (g6).1 + 1 ≤ 900000) ∧ (∀ a7 : Nat, a7 = g6.1 → ∀ g7, g7 = mj_gA (g6) (1, 0, 10) → ∀ M7, M7 = mj_mZ (M5) a7 → ((k0) < (g7).1 ∧ (g7).2.1 (k0) = (0, 6, 0)) ∧ (∀ g8, g8 = mj_gR g7 (k0) 5 (some (a7)) → (¬ (10 : Int32) < 0 ∧ Int32.toNatClampNeg (10 : Int32) = 10 ∧ 10 ≤ 100000 ∧ 1 ≤ 9 - 1 - 1 - 1 - 1 - 1 ∧ 10 ≤ (394) - 2 - 48 - 2 - 32 - (10) ∧ (g8).1 + 1 ≤ 900000) ∧ (∀ a9 : Nat, a9 = g8.1 → ∀ g9, g9 = mj_gA (g8) (1, 0, 10) → ∀ M9, M9 = mj_mZ (M7) a9 → ((k0) < (g9).1 ∧ (g9).2.1 (k0) = (0, 6, 0)) ∧ (∀ g10, g10 = mj_gR g9 (k0) 6 (some (a9)) → (¬ (10 : Int32) < 0 ∧ Int32.toNatClampNeg (10 : Int32) = 10 ∧ 10 ≤ 100000 ∧ 1 ≤ 9 - 1 - 1 - 1 - 1 - 1 - 1 ∧ 10 ≤ (394) - 2 - 48 - 2 - 32 - (10) - (10) ∧ (g10).1 + 1 ≤ 900000) ∧ (∀ a11 : Nat, a11 = g10.1 → ∀ g11, g11 = mj_gA (g10) (1, 0, 10) → ∀ M11, M11 = mj_mZ (M9) a11 → ((k0) < (g11).1 ∧ (g11).2.1 (k0) = (0, 6, 0)) ∧ (∀ g12, g12 = mj_gR g11 (k0) 7 (some (a11)) → (¬ (140 : Int32) < 0 ∧ Int32.toNatClampNeg (140 : Int32) = 140 ∧ 140 ≤ 100000 ∧ 1 ≤ 9 - 1 - 1 - 1 - 1 - 1 - 1 - 1 ∧ 140 ≤ (394) - 2 - 48 - 2 - 32 - (10) - (10) - (10) ∧ (g12).1 + 1 ≤ 900000) ∧ (∀ a13 : Nat, a13 = g12.1 → ∀ g13, g13 = mj_gA (g12) (1, 0, 140) → ∀ M13, M13 = mj_mZ (M11) a13 → ((k0) < (g13).1 ∧ (g13).2.1 (k0) = (0, 6, 0)) ∧ (∀ g14, g14 = mj_gR g13 (k0) 8 (some (a13)) → (¬ (140 : Int32) < 0 ∧ Int32.toNatClampNeg (140 : Int32) = 140 ∧ 140 ≤ 100000 ∧ 1 ≤ 9 - 1 - 1 - 1 - 1 - 1 - 1 - 1 - 1 ∧ 140 ≤ (394) - 2 - 48 - 2 - 32 - (10) - (10) - (10) - (140) ∧ (g14).1 + 1 ≤ 900000) ∧ (∀ a15 : Nat, a15 = g14.1 → ∀ g15, g15 = mj_gA (g14) (1, 0, 140) → ∀ M15, M15 = mj_mZ (M13) a15 → ((k0) < (g15).1 ∧ (g15).2.1 (k0) = (0, 6, 0)) ∧ (∀ g16, g16 = mj_gR g15 (k0) 9 (some (a15)) → ∃ q17 : mj_M → Prop, ((k0) < (g16).1 ∧ (g16).2.1 (k0) = (0, 6, 0)) ∧ kX6_beginAnew (k0) (8) (g16) (M15) q17 ∧ ∀ (M17 : mj_M), q17 M17 → (g.1 + 9 = (g16).1 ∧ q (g16) (M17))))))))))))))))))) : kX6_init k0 g M q := by
  intro d hd; refine mj_enter (by decide +kernel) (Nat.le_of_ble_eq_true rfl) ?_
  show mj_G mtX6_init (mj_rm d 9 (394)) (mj_Fi (mj_qN g 9 q) mj_x0 9 (394)) true 9 (394) 0 [(0, .ref (k0))] [] g M
  refine mg_aload_n dX6_init_0 rfl 0 rfl ?_
  refine mg_objInit dX6_init_1 wd_38 wd_31 wd_32 (Nat.le_trans (Nat.le_of_ble_eq_true rfl) hd) (Nat.le_trans (Nat.le_of_ble_eq_true rfl) (Nat.mul_le_mul_left 38 hd)) (Nat.le_of_ble_eq_true rfl) ?_
  refine mg_aload_n dX6_init_4 rfl 0 rfl ?_
  obtain ⟨⟨hb1, hb2, hb3⟩, h⟩ := h
  refine mg_new dX6_init_5 kc_0 wd_39 wd_40 wd_3 hb1 hb2 hb3 ?_
  obtain ⟨a1, ea1⟩ : ∃ z, z = g.1 := ⟨_, rfl⟩
  rw [← ea1]
  obtain ⟨g1, eg1⟩ : ∃ z, z = mj_gA (g) (0, 0, 0) := ⟨_, rfl⟩
  rw [← eg1]
  obtain ⟨M1, eM1⟩ : ∃ z, z = mj_mZ (M) a1 := ⟨_, rfl⟩
  rw [← eM1]
  replace h := h a1 ea1 g1 eg1 M1 eM1
  refine mg_dup dX6_init_8 rfl ?_
  refine mg_bipush (v := 48) dX6_init_9 (by decide) ?_
  obtain ⟨q2, hb, hC, hk⟩ := h
  refine mn_I [.int (48)] [.ref (a1), .ref (k0)] dX6_init_11 wd_41 rfl wd_42 wd_3 wd_43 ⟨by decide +kernel, by decide +kernel, by decide +kernel⟩ (mj_hR (Nat.le_trans (Nat.le_of_ble_eq_true rfl) hd) (Nat.le_of_ble_eq_true rfl)) (Nat.le_of_ble_eq_true rfl) hb hC (fun g2 M2 hq => ?_)
  replace h := hk g2 M2 hq
  obtain ⟨hkk, h⟩ := h
  refine mg_putR (j := 3) dX6_init_14 kc_6 (Nat.le_of_ble_eq_true rfl) wd_73 rfl rfl rfl rfl rfl hkk.1 hkk.2 ?_
  obtain ⟨g3, eg3⟩ : ∃ z, z = mj_gR g2 (k0) 3 (some (a1)) := ⟨_, rfl⟩
  rw [← eg3]
  replace h := h g3 eg3
  refine mg_aload_n dX6_init_17 rfl 0 rfl ?_
  obtain ⟨⟨hb1, hb2, hb3⟩, h⟩ := h
  refine mg_new dX6_init_18 kc_0 wd_39 wd_40 wd_3 hb1 hb2 hb3 ?_
  obtain ⟨a4, ea4⟩ : ∃ z, z = g3.1 := ⟨_, rfl⟩
  rw [← ea4]
  obtain ⟨g4, eg4⟩ : ∃ z, z = mj_gA (g3) (0, 0, 0) := ⟨_, rfl⟩
  rw [← eg4]
  obtain ⟨M4, eM4⟩ : ∃ z, z = mj_mZ (M2) a4 := ⟨_, rfl⟩
  rw [← eM4]
  replace h := h a4 ea4 g4 eg4 M4 eM4
  refine mg_dup dX6_init_21 rfl ?_
  refine mg_bipush (v := 32) dX6_init_22 (by decide) ?_
  obtain ⟨q5, hb, hC, hk⟩ := h
  refine mn_I [.int (32)] [.ref (a4), .ref (k0)] dX6_init_24 wd_41 rfl wd_42 wd_3 wd_43 ⟨by decide +kernel, by decide +kernel, by decide +kernel⟩ (mj_hR (Nat.le_trans (Nat.le_of_ble_eq_true rfl) hd) (Nat.le_of_ble_eq_true rfl)) (Nat.le_of_ble_eq_true rfl) hb hC (fun g5 M5 hq => ?_)
  replace h := hk g5 M5 hq
  obtain ⟨hkk, h⟩ := h
  refine mg_putR (j := 4) dX6_init_27 kc_6 (Nat.le_of_ble_eq_true rfl) wd_76 rfl rfl rfl rfl rfl hkk.1 hkk.2 ?_
  obtain ⟨g6, eg6⟩ : ∃ z, z = mj_gR g5 (k0) 4 (some (a4)) := ⟨_, rfl⟩
  rw [← eg6]
  replace h := h g6 eg6
  refine mg_aload_n dX6_init_30 rfl 0 rfl ?_
  refine mg_bipush (v := 10) dX6_init_31 (by decide) ?_
  obtain ⟨⟨hn, hN, hb0, hb1, hb2, hb3⟩, h⟩ := h
  refine mg_newarr (t := 0) (N := 10) dX6_init_33 (Or.inl ⟨rfl, rfl⟩) wd_55 hn hN hb0 hb1 hb2 hb3 ?_
  obtain ⟨a7, ea7⟩ : ∃ z, z = g6.1 := ⟨_, rfl⟩
  rw [← ea7]
  obtain ⟨g7, eg7⟩ : ∃ z, z = mj_gA (g6) (1, 0, 10) := ⟨_, rfl⟩
  rw [← eg7]
  obtain ⟨M7, eM7⟩ : ∃ z, z = mj_mZ (M5) a7 := ⟨_, rfl⟩
  rw [← eM7]
  replace h := h a7 ea7 g7 eg7 M7 eM7
  obtain ⟨hkk, h⟩ := h
  refine mg_putR (j := 5) dX6_init_35 kc_6 (Nat.le_of_ble_eq_true rfl) wd_78 rfl rfl rfl rfl rfl hkk.1 hkk.2 ?_
  obtain ⟨g8, eg8⟩ : ∃ z, z = mj_gR g7 (k0) 5 (some (a7)) := ⟨_, rfl⟩
  rw [← eg8]
  replace h := h g8 eg8
  refine mg_aload_n dX6_init_38 rfl 0 rfl ?_
  refine mg_bipush (v := 10) dX6_init_39 (by decide) ?_
  obtain ⟨⟨hn, hN, hb0, hb1, hb2, hb3⟩, h⟩ := h
  refine mg_newarr (t := 0) (N := 10) dX6_init_41 (Or.inl ⟨rfl, rfl⟩) wd_55 hn hN hb0 hb1 hb2 hb3 ?_
  obtain ⟨a9, ea9⟩ : ∃ z, z = g8.1 := ⟨_, rfl⟩
  rw [← ea9]
  obtain ⟨g9, eg9⟩ : ∃ z, z = mj_gA (g8) (1, 0, 10) := ⟨_, rfl⟩
  rw [← eg9]
  obtain ⟨M9, eM9⟩ : ∃ z, z = mj_mZ (M7) a9 := ⟨_, rfl⟩
  rw [← eM9]
  replace h := h a9 ea9 g9 eg9 M9 eM9
  obtain ⟨hkk, h⟩ := h
  refine mg_putR (j := 6) dX6_init_43 kc_6 (Nat.le_of_ble_eq_true rfl) wd_79 rfl rfl rfl rfl rfl hkk.1 hkk.2 ?_
  obtain ⟨g10, eg10⟩ : ∃ z, z = mj_gR g9 (k0) 6 (some (a9)) := ⟨_, rfl⟩
  rw [← eg10]
  replace h := h g10 eg10
  refine mg_aload_n dX6_init_46 rfl 0 rfl ?_
  refine mg_bipush (v := 10) dX6_init_47 (by decide) ?_
  obtain ⟨⟨hn, hN, hb0, hb1, hb2, hb3⟩, h⟩ := h
  refine mg_newarr (t := 0) (N := 10) dX6_init_49 (Or.inl ⟨rfl, rfl⟩) wd_55 hn hN hb0 hb1 hb2 hb3 ?_
  obtain ⟨a11, ea11⟩ : ∃ z, z = g10.1 := ⟨_, rfl⟩
  rw [← ea11]
  obtain ⟨g11, eg11⟩ : ∃ z, z = mj_gA (g10) (1, 0, 10) := ⟨_, rfl⟩
  rw [← eg11]
  obtain ⟨M11, eM11⟩ : ∃ z, z = mj_mZ (M9) a11 := ⟨_, rfl⟩
  rw [← eM11]
  replace h := h a11 ea11 g11 eg11 M11 eM11
  obtain ⟨hkk, h⟩ := h
  refine mg_putR (j := 7) dX6_init_51 kc_6 (Nat.le_of_ble_eq_true rfl) wd_80 rfl rfl rfl rfl rfl hkk.1 hkk.2 ?_
  obtain ⟨g12, eg12⟩ : ∃ z, z = mj_gR g11 (k0) 7 (some (a11)) := ⟨_, rfl⟩
  rw [← eg12]
  replace h := h g12 eg12
  refine mg_aload_n dX6_init_54 rfl 0 rfl ?_
  refine mg_sipush (v := 140) dX6_init_55 (by decide) ?_
  obtain ⟨⟨hn, hN, hb0, hb1, hb2, hb3⟩, h⟩ := h
  refine mg_newarr (t := 0) (N := 140) dX6_init_58 (Or.inl ⟨rfl, rfl⟩) wd_55 hn hN hb0 hb1 hb2 hb3 ?_
  obtain ⟨a13, ea13⟩ : ∃ z, z = g12.1 := ⟨_, rfl⟩
  rw [← ea13]
  obtain ⟨g13, eg13⟩ : ∃ z, z = mj_gA (g12) (1, 0, 140) := ⟨_, rfl⟩
  rw [← eg13]
  obtain ⟨M13, eM13⟩ : ∃ z, z = mj_mZ (M11) a13 := ⟨_, rfl⟩
  rw [← eM13]
  replace h := h a13 ea13 g13 eg13 M13 eM13
  obtain ⟨hkk, h⟩ := h
  refine mg_putR (j := 8) dX6_init_60 kc_6 (Nat.le_of_ble_eq_true rfl) wd_81 rfl rfl rfl rfl rfl hkk.1 hkk.2 ?_
  obtain ⟨g14, eg14⟩ : ∃ z, z = mj_gR g13 (k0) 8 (some (a13)) := ⟨_, rfl⟩
  rw [← eg14]
  replace h := h g14 eg14
  refine mg_aload_n dX6_init_63 rfl 0 rfl ?_
  refine mg_sipush (v := 140) dX6_init_64 (by decide) ?_
  obtain ⟨⟨hn, hN, hb0, hb1, hb2, hb3⟩, h⟩ := h
  refine mg_newarr (t := 0) (N := 140) dX6_init_67 (Or.inl ⟨rfl, rfl⟩) wd_55 hn hN hb0 hb1 hb2 hb3 ?_
  obtain ⟨a15, ea15⟩ : ∃ z, z = g14.1 := ⟨_, rfl⟩
  rw [← ea15]
  obtain ⟨g15, eg15⟩ : ∃ z, z = mj_gA (g14) (1, 0, 140) := ⟨_, rfl⟩
  rw [← eg15]
  obtain ⟨M15, eM15⟩ : ∃ z, z = mj_mZ (M13) a15 := ⟨_, rfl⟩
  rw [← eM15]
  replace h := h a15 ea15 g15 eg15 M15 eM15
  obtain ⟨hkk, h⟩ := h
  refine mg_putR (j := 9) dX6_init_69 kc_6 (Nat.le_of_ble_eq_true rfl) wd_82 rfl rfl rfl rfl rfl hkk.1 hkk.2 ?_
  obtain ⟨g16, eg16⟩ : ∃ z, z = mj_gR g15 (k0) 9 (some (a15)) := ⟨_, rfl⟩
  rw [← eg16]
  replace h := h g16 eg16
  refine mg_aload_n dX6_init_72 rfl 0 rfl ?_
  refine mg_bipush (v := 8) dX6_init_73 (by decide) ?_
  obtain ⟨q17, hkk, hC, hk⟩ := h
  refine ml_Vv [.int (8)] [] dX6_init_75 wd_56 kiX6_beginAnew (Nat.le_of_ble_eq_true rfl) hkk.1 hkk.2 rfl (mj_hR (Nat.le_trans (Nat.le_of_ble_eq_true rfl) hd) (Nat.le_of_ble_eq_true rfl)) hC (fun M17 hq => ?_)
  replace h := hk M17 hq
  exact mg_vret dX6_init_78 rfl ⟨rfl, h.1.symm, h.2⟩
theorem dX8_init_0 : decode cX8_init 0 = .ok (.aload_n 0, 1) := by decide +kernel
theorem dX8_init_1 : decode cX8_init 1 = .ok (.invokespecial 3, 3) := by decide +kernel
theorem dX8_init_4 : decode cX8_init 4 = .ok (.aload_n 0, 1) := by decide +kernel
theorem dX8_init_5 : decode cX8_init 5 = .ok (.sipush 160, 3) := by decide +kernel
theorem dX8_init_8 : decode cX8_init 8 = .ok (.newarray .int, 2) := by decide +kernel
theorem dX8_init_10 : decode cX8_init 10 = .ok (.putfield 9, 3) := by decide +kernel
theorem dX8_init_13 : decode cX8_init 13 = .ok (.return_, 1) := by decide +kernel
abbrev mtX8_init : mj_T := (yX8_init.cls, cX8_init, 1, none, mj_no, yX8_init.name)
abbrev kX8_init (k0 : Nat) (g : mj_S) (M : mj_M) (q : mj_S → mj_M → Prop) : Prop := mj_CN yX8_init (.code yX8_init cX8_init 1 none) 1 1 (160) [.ref k0] g M q
theorem eX8_init {k0 : Nat} {g : mj_S} {M : mj_M} {q : mj_S → mj_M → Prop} (h : (¬ (160 : Int32) < 0 ∧ Int32.toNatClampNeg (160 : Int32) = 160 ∧ 160 ≤ 100000 ∧ 1 ≤ 1 ∧ 160 ≤ (160) ∧ (g).1 + 1 ≤ 900000) ∧ (∀ a1 : Nat, a1 = g.1 → ∀ g1, g1 = mj_gA (g) (1, 0, 160) → ∀ M1, M1 = mj_mZ (M) a1 → ((k0) < (g1).1 ∧ (g1).2.1 (k0) = (0, 8, 0)) ∧ (∀ g2, g2 = mj_gR g1 (k0) 0 (some (a1)) → g.1 + 1 = (g2).1 ∧ q (g2) (M1)))) : kX8_init k0 g M q := by
  intro d hd; refine mj_enter (by decide +kernel) (Nat.le_of_ble_eq_true rfl) ?_
  show mj_G mtX8_init (mj_rm d 1 (160)) (mj_Fi (mj_qN g 1 q) mj_x0 1 (160)) true 1 (160) 0 [(0, .ref (k0))] [] g M
  refine mg_aload_n dX8_init_0 rfl 0 rfl ?_
  refine mg_objInit dX8_init_1 wd_110 wd_31 wd_32 (Nat.le_trans (Nat.le_of_ble_eq_true rfl) hd) (Nat.le_trans (Nat.le_of_ble_eq_true rfl) (Nat.mul_le_mul_left 38 hd)) (Nat.le_of_ble_eq_true rfl) ?_
  refine mg_aload_n dX8_init_4 rfl 0 rfl ?_
  refine mg_sipush (v := 160) dX8_init_5 (by decide) ?_
  obtain ⟨⟨hn, hN, hb0, hb1, hb2, hb3⟩, h⟩ := h
  refine mg_newarr (t := 0) (N := 160) dX8_init_8 (Or.inl ⟨rfl, rfl⟩) wd_55 hn hN hb0 hb1 hb2 hb3 ?_
  obtain ⟨a1, ea1⟩ : ∃ z, z = g.1 := ⟨_, rfl⟩
  rw [← ea1]
  obtain ⟨g1, eg1⟩ : ∃ z, z = mj_gA (g) (1, 0, 160) := ⟨_, rfl⟩
  rw [← eg1]
  obtain ⟨M1, eM1⟩ : ∃ z, z = mj_mZ (M) a1 := ⟨_, rfl⟩
  rw [← eM1]
  replace h := h a1 ea1 g1 eg1 M1 eM1
  obtain ⟨hkk, h⟩ := h
  refine mg_putR (j := 0) dX8_init_10 kc_8 (Nat.le_of_ble_eq_true rfl) wd_111 rfl rfl rfl rfl rfl hkk.1 hkk.2 ?_
  obtain ⟨g2, eg2⟩ : ∃ z, z = mj_gR g1 (k0) 0 (some (a1)) := ⟨_, rfl⟩
  rw [← eg2]
  replace h := h g2 eg2
  exact mg_vret dX8_init_13 rfl ⟨rfl, h.1.symm, h.2⟩
theorem dX7_init_0 : decode cX7_init 0 = .ok (.aload_n 0, 1) := by decide +kernel
theorem dX7_init_1 : decode cX7_init 1 = .ok (.invokespecial 3, 3) := by decide +kernel
theorem dX7_init_4 : decode cX7_init 4 = .ok (.aload_n 0, 1) := by decide +kernel
theorem dX7_init_5 : decode cX7_init 5 = .ok (.new 9, 3) := by decide +kernel
theorem dX7_init_8 : decode cX7_init 8 = .ok (.dup, 1) := by decide +kernel
theorem dX7_init_9 : decode cX7_init 9 = .ok (.invokespecial 11, 3) := by decide +kernel
theorem dX7_init_12 : decode cX7_init 12 = .ok (.putfield 12, 3) := by decide +kernel
theorem dX7_init_15 : decode cX7_init 15 = .ok (.aload_n 0, 1) := by decide +kernel
theorem dX7_init_16 : decode cX7_init 16 = .ok (.new 18, 3) := by decide +kernel
theorem dX7_init_19 : decode cX7_init 19 = .ok (.dup, 1) := by decide +kernel
theorem dX7_init_20 : decode cX7_init 20 = .ok (.invokespecial 20, 3) := by decide +kernel
theorem dX7_init_23 : decode cX7_init 23 = .ok (.putfield 21, 3) := by decide +kernel
theorem dX7_init_26 : decode cX7_init 26 = .ok (.aload_n 0, 1) := by decide +kernel
theorem dX7_init_27 : decode cX7_init 27 = .ok (.new 25, 3) := by decide +kernel
theorem dX7_init_30 : decode cX7_init 30 = .ok (.dup, 1) := by decide +kernel
theorem dX7_init_31 : decode cX7_init 31 = .ok (.invokespecial 27, 3) := by decide +kernel
theorem dX7_init_34 : decode cX7_init 34 = .ok (.putfield 28, 3) := by decide +kernel
theorem dX7_init_37 : decode cX7_init 37 = .ok (.return_, 1) := by decide +kernel
abbrev mtX7_init : mj_T := (yX7_init.cls, cX7_init, 1, none, mj_no, yX7_init.name)
abbrev kX7_init (k0 : Nat) (g : mj_S) (M : mj_M) (q : mj_S → mj_M → Prop) : Prop := mj_CN yX7_init (.code yX7_init cX7_init 1 none) 3 9 (628) [.ref k0] g M q
theorem eX7_init {k0 : Nat} {g : mj_S} {M : mj_M} {q : mj_S → mj_M → Prop} (h : (1 ≤ 9 ∧ 1 ≤ (628) ∧ (g).1 + 1 ≤ 900000) ∧ (∀ a1 : Nat, a1 = g.1 → ∀ g1, g1 = mj_gA (g) (0, 5, 0) → ∀ M1, M1 = mj_mZ (M) a1 → ∃ q2 : mj_S → mj_M → Prop, (2 ≤ 9 - 1 ∧ 578 ≤ (628) - 1) ∧ kX5_init (a1) (g1) (M1) q2 ∧ ∀ (g2 : mj_S) (M2 : mj_M), q2 g2 M2 → (((k0) < (g2).1 ∧ (g2).2.1 (k0) = (0, 7, 0)) ∧ (∀ g3, g3 = mj_gR g2 (k0) 0 (some (a1)) → (1 ≤ 9 - 1 - 2 ∧ 4 ≤ (628) - 1 - 578 ∧ (g3).1 + 1 ≤ 900000) ∧ (∀ a4 : Nat, a4 = g3.1 → ∀ g4, g4 = mj_gA (g3) (0, 3, 0) → ∀ M4, M4 = mj_mZ (M2) a4 → ∃ q5 : mj_S → mj_M → Prop, (3 ≤ 9 - 1 - 2 - 1 ∧ 24 ≤ (628) - 1 - 578 - 4) ∧ kX3_init (a4) (g4) (M4) q5 ∧ ∀ (g5 : mj_S) (M5 : mj_M), q5 g5 M5 → (((k0) < (g5).1 ∧ (g5).2.1 (k0) = (0, 7, 0)) ∧ (∀ g6, g6 = mj_gR g5 (k0) 1 (some (a4)) → (1 ≤ 9 - 1 - 2 - 1 - 3 ∧ 1 ≤ (628) - 1 - 578 - 4 - 24 ∧ (g6).1 + 1 ≤ 900000) ∧ (∀ a7 : Nat, a7 = g6.1 → ∀ g7, g7 = mj_gA (g6) (0, 4, 0) → ∀ M7, M7 = mj_mZ (M5) a7 → ∃ q8 : mj_S → mj_M → Prop, (1 ≤ 9 - 1 - 2 - 1 - 3 - 1 ∧ 20 ≤ (628) - 1 - 578 - 4 - 24 - 1) ∧ kX4_init (a7) (g7) (M7) q8 ∧ ∀ (g8 : mj_S) (M8 : mj_M), q8 g8 M8 → (((k0) < (g8).1 ∧ (g8).2.1 (k0) = (0, 7, 0)) ∧ (∀ g9, g9 = mj_gR g8 (k0) 2 (some (a7)) → g.1 + 9 = (g9).1 ∧ q (g9) (M8))))))))))) : kX7_init k0 g M q := by
  intro d hd; refine mj_enter (by decide +kernel) (Nat.le_of_ble_eq_true rfl) ?_
  show mj_G mtX7_init (mj_rm d 9 (628)) (mj_Fi (mj_qN g 9 q) mj_x0 9 (628)) true 9 (628) 0 [(0, .ref (k0))] [] g M
  refine mg_aload_n dX7_init_0 rfl 0 rfl ?_
  refine mg_objInit dX7_init_1 wd_167 wd_31 wd_32 (Nat.le_trans (Nat.le_of_ble_eq_true rfl) hd) (Nat.le_trans (Nat.le_of_ble_eq_true rfl) (Nat.mul_le_mul_left 38 hd)) (Nat.le_of_ble_eq_true rfl) ?_
  refine mg_aload_n dX7_init_4 rfl 0 rfl ?_
  obtain ⟨⟨hb1, hb2, hb3⟩, h⟩ := h
  refine mg_new dX7_init_5 kc_5 wd_168 wd_169 wd_9 hb1 hb2 hb3 ?_
  obtain ⟨a1, ea1⟩ : ∃ z, z = g.1 := ⟨_, rfl⟩
  rw [← ea1]
  obtain ⟨g1, eg1⟩ : ∃ z, z = mj_gA (g) (0, 5, 0) := ⟨_, rfl⟩
  rw [← eg1]
  obtain ⟨M1, eM1⟩ : ∃ z, z = mj_mZ (M) a1 := ⟨_, rfl⟩
  rw [← eM1]
  replace h := h a1 ea1 g1 eg1 M1 eM1
  refine mg_dup dX7_init_8 rfl ?_
  obtain ⟨q2, hb, hC, hk⟩ := h
  refine mn_IN [] [.ref (a1), .ref (k0)] 4 dX7_init_9 rfl rfl wd_171 wd_9 wd_172 ⟨by decide +kernel, by decide +kernel, by decide +kernel⟩ (mj_hR (Nat.le_trans (Nat.le_of_ble_eq_true rfl) hd) (Nat.le_of_ble_eq_true rfl)) (Nat.le_of_ble_eq_true rfl) hb hC (fun g2 M2 hq => ?_)
  replace h := hk g2 M2 hq
  obtain ⟨hkk, h⟩ := h
  refine mg_putR (j := 0) dX7_init_12 kc_7 (Nat.le_of_ble_eq_true rfl) wd_218 rfl rfl rfl rfl rfl hkk.1 hkk.2 ?_
  obtain ⟨g3, eg3⟩ : ∃ z, z = mj_gR g2 (k0) 0 (some (a1)) := ⟨_, rfl⟩
  rw [← eg3]
  replace h := h g3 eg3
  refine mg_aload_n dX7_init_15 rfl 0 rfl ?_
  obtain ⟨⟨hb1, hb2, hb3⟩, h⟩ := h
  refine mg_new dX7_init_16 kc_3 wd_182 wd_183 wd_10 hb1 hb2 hb3 ?_
  obtain ⟨a4, ea4⟩ : ∃ z, z = g3.1 := ⟨_, rfl⟩
  rw [← ea4]
  obtain ⟨g4, eg4⟩ : ∃ z, z = mj_gA (g3) (0, 3, 0) := ⟨_, rfl⟩
  rw [← eg4]
  obtain ⟨M4, eM4⟩ : ∃ z, z = mj_mZ (M2) a4 := ⟨_, rfl⟩
  rw [← eM4]
  replace h := h a4 ea4 g4 eg4 M4 eM4
  refine mg_dup dX7_init_19 rfl ?_
  obtain ⟨q5, hb, hC, hk⟩ := h
  refine mn_IN [] [.ref (a4), .ref (k0)] 5 dX7_init_20 rfl rfl wd_185 wd_10 wd_186 ⟨by decide +kernel, by decide +kernel, by decide +kernel⟩ (mj_hR (Nat.le_trans (Nat.le_of_ble_eq_true rfl) hd) (Nat.le_of_ble_eq_true rfl)) (Nat.le_of_ble_eq_true rfl) hb hC (fun g5 M5 hq => ?_)
  replace h := hk g5 M5 hq
  obtain ⟨hkk, h⟩ := h
  refine mg_putR (j := 1) dX7_init_23 kc_7 (Nat.le_of_ble_eq_true rfl) wd_220 rfl rfl rfl rfl rfl hkk.1 hkk.2 ?_
  obtain ⟨g6, eg6⟩ : ∃ z, z = mj_gR g5 (k0) 1 (some (a4)) := ⟨_, rfl⟩
  rw [← eg6]
  replace h := h g6 eg6
  refine mg_aload_n dX7_init_26 rfl 0 rfl ?_
  obtain ⟨⟨hb1, hb2, hb3⟩, h⟩ := h
  refine mg_new dX7_init_27 kc_4 wd_208 wd_209 wd_11 hb1 hb2 hb3 ?_
  obtain ⟨a7, ea7⟩ : ∃ z, z = g6.1 := ⟨_, rfl⟩
  rw [← ea7]
  obtain ⟨g7, eg7⟩ : ∃ z, z = mj_gA (g6) (0, 4, 0) := ⟨_, rfl⟩
  rw [← eg7]
  obtain ⟨M7, eM7⟩ : ∃ z, z = mj_mZ (M5) a7 := ⟨_, rfl⟩
  rw [← eM7]
  replace h := h a7 ea7 g7 eg7 M7 eM7
  refine mg_dup dX7_init_30 rfl ?_
  obtain ⟨q8, hb, hC, hk⟩ := h
  refine mn_IN [] [.ref (a7), .ref (k0)] 6 dX7_init_31 rfl rfl wd_211 wd_11 wd_212 ⟨by decide +kernel, by decide +kernel, by decide +kernel⟩ (mj_hR (Nat.le_trans (Nat.le_of_ble_eq_true rfl) hd) (Nat.le_of_ble_eq_true rfl)) (Nat.le_of_ble_eq_true rfl) hb hC (fun g8 M8 hq => ?_)
  replace h := hk g8 M8 hq
  obtain ⟨hkk, h⟩ := h
  refine mg_putR (j := 2) dX7_init_34 kc_7 (Nat.le_of_ble_eq_true rfl) wd_222 rfl rfl rfl rfl rfl hkk.1 hkk.2 ?_
  obtain ⟨g9, eg9⟩ : ∃ z, z = mj_gR g8 (k0) 2 (some (a7)) := ⟨_, rfl⟩
  rw [← eg9]
  replace h := h g9 eg9
  exact mg_vret dX7_init_37 rfl ⟨rfl, h.1.symm, h.2⟩
theorem dX9_init_0 : decode cX9_init 0 = .ok (.aload_n 0, 1) := by decide +kernel
theorem dX9_init_1 : decode cX9_init 1 = .ok (.invokespecial 3, 3) := by decide +kernel
theorem dX9_init_4 : decode cX9_init 4 = .ok (.aload_n 0, 1) := by decide +kernel
theorem dX9_init_5 : decode cX9_init 5 = .ok (.new 9, 3) := by decide +kernel
theorem dX9_init_8 : decode cX9_init 8 = .ok (.dup, 1) := by decide +kernel
theorem dX9_init_9 : decode cX9_init 9 = .ok (.invokespecial 11, 3) := by decide +kernel
theorem dX9_init_12 : decode cX9_init 12 = .ok (.putfield 12, 3) := by decide +kernel
theorem dX9_init_15 : decode cX9_init 15 = .ok (.aload_n 0, 1) := by decide +kernel
theorem dX9_init_16 : decode cX9_init 16 = .ok (.new 9, 3) := by decide +kernel
theorem dX9_init_19 : decode cX9_init 19 = .ok (.dup, 1) := by decide +kernel
theorem dX9_init_20 : decode cX9_init 20 = .ok (.invokespecial 11, 3) := by decide +kernel
theorem dX9_init_23 : decode cX9_init 23 = .ok (.putfield 16, 3) := by decide +kernel
theorem dX9_init_26 : decode cX9_init 26 = .ok (.aload_n 0, 1) := by decide +kernel
theorem dX9_init_27 : decode cX9_init 27 = .ok (.bipush 6, 2) := by decide +kernel
theorem dX9_init_29 : decode cX9_init 29 = .ok (.anewarray 9, 3) := by decide +kernel
theorem dX9_init_32 : decode cX9_init 32 = .ok (.putfield 19, 3) := by decide +kernel
theorem dX9_init_35 : decode cX9_init 35 = .ok (.iconst 0, 1) := by decide +kernel
theorem dX9_init_36 : decode cX9_init 36 = .ok (.istore_n 1, 1) := by decide +kernel
theorem dX9_init_37 : decode cX9_init 37 = .ok (.iload_n 1, 1) := by decide +kernel
theorem dX9_init_38 : decode cX9_init 38 = .ok (.aload_n 0, 1) := by decide +kernel
theorem dX9_init_39 : decode cX9_init 39 = .ok (.getfield 19, 3) := by decide +kernel
theorem dX9_init_42 : decode cX9_init 42 = .ok (.arraylength, 1) := by decide +kernel
theorem dX9_init_43 : decode cX9_init 43 = .ok (.if_icmp .ge 22, 3) := by decide +kernel
theorem dX9_init_46 : decode cX9_init 46 = .ok (.aload_n 0, 1) := by decide +kernel
theorem dX9_init_47 : decode cX9_init 47 = .ok (.getfield 19, 3) := by decide +kernel
theorem dX9_init_50 : decode cX9_init 50 = .ok (.iload_n 1, 1) := by decide +kernel
theorem dX9_init_51 : decode cX9_init 51 = .ok (.new 9, 3) := by decide +kernel
theorem dX9_init_54 : decode cX9_init 54 = .ok (.dup, 1) := by decide +kernel
theorem dX9_init_55 : decode cX9_init 55 = .ok (.invokespecial 11, 3) := by decide +kernel
theorem dX9_init_58 : decode cX9_init 58 = .ok (.aastore, 1) := by decide +kernel
theorem dX9_init_59 : decode cX9_init 59 = .ok (.iinc 1 1, 3) := by decide +kernel
theorem dX9_init_62 : decode cX9_init 62 = .ok (.goto (-25), 3) := by decide +kernel
theorem dX9_init_65 : decode cX9_init 65 = .ok (.aload_n 0, 1) := by decide +kernel
theorem dX9_init_66 : decode cX9_init 66 = .ok (.iconst 0, 1) := by decide +kernel
theorem dX9_init_67 : decode cX9_init 67 = .ok (.putfield 23, 3) := by decide +kernel
theorem dX9_init_70 : decode cX9_init 70 = .ok (.aload_n 0, 1) := by decide +kernel
theorem dX9_init_71 : decode cX9_init 71 = .ok (.new 27, 3) := by decide +kernel
theorem dX9_init_74 : decode cX9_init 74 = .ok (.dup, 1) := by decide +kernel
theorem dX9_init_75 : decode cX9_init 75 = .ok (.invokespecial 29, 3) := by decide +kernel
theorem dX9_init_78 : decode cX9_init 78 = .ok (.putfield 30, 3) := by decide +kernel
theorem dX9_init_81 : decode cX9_init 81 = .ok (.aload_n 0, 1) := by decide +kernel
theorem dX9_init_82 : decode cX9_init 82 = .ok (.new 34, 3) := by decide +kernel
theorem dX9_init_85 : decode cX9_init 85 = .ok (.dup, 1) := by decide +kernel
theorem dX9_init_86 : decode cX9_init 86 = .ok (.invokespecial 36, 3) := by decide +kernel
theorem dX9_init_89 : decode cX9_init 89 = .ok (.putfield 37, 3) := by decide +kernel
theorem dX9_init_92 : decode cX9_init 92 = .ok (.aload_n 0, 1) := by decide +kernel
theorem dX9_init_93 : decode cX9_init 93 = .ok (.new 41, 3) := by decide +kernel
theorem dX9_init_96 : decode cX9_init 96 = .ok (.dup, 1) := by decide +kernel
theorem dX9_init_97 : decode cX9_init 97 = .ok (.invokespecial 43, 3) := by decide +kernel
theorem dX9_init_100 : decode cX9_init 100 = .ok (.putfield 44, 3) := by decide +kernel
theorem dX9_init_103 : decode cX9_init 103 = .ok (.aload_n 0, 1) := by decide +kernel
theorem dX9_init_104 : decode cX9_init 104 = .ok (.new 48, 3) := by decide +kernel
theorem dX9_init_107 : decode cX9_init 107 = .ok (.dup, 1) := by decide +kernel
theorem dX9_init_108 : decode cX9_init 108 = .ok (.invokespecial 50, 3) := by decide +kernel
theorem dX9_init_111 : decode cX9_init 111 = .ok (.putfield 51, 3) := by decide +kernel
theorem dX9_init_114 : decode cX9_init 114 = .ok (.return_, 1) := by decide +kernel
abbrev mtX9_init : mj_T := (yX9_init.cls, cX9_init, 2, none, mj_no, yX9_init.name)
abbrev kX9_init (k0 : Nat) (g : mj_S) (M : mj_M) (q : mj_S → mj_M → Prop) : Prop := mj_CN yX9_init (.code yX9_init cX9_init 2 none) 4 97 (4123) [.ref k0] g M q
def LX9_init_37 (k0 : Nat) (x1 : Int32) (g0 : mj_S) (bc bs : Nat) (g : mj_S) (M : mj_M) (q : mj_S → mj_M → Prop) : Prop := ∀ d, 4 ≤ d → mj_G mtX9_init (mj_rm d 97 (4123)) (mj_Fi (mj_qN g0 97 q) mj_x0 97 (4123)) true bc bs 37 [(0, .ref (k0)), (1, .int (x1))] [] g M
theorem eX9_init {k0 : Nat} {g : mj_S} {M : mj_M} {q : mj_S → mj_M → Prop} (h : (1 ≤ 97 ∧ 10 ≤ (4123) ∧ (g).1 + 1 ≤ 900000) ∧ (∀ a1 : Nat, a1 = g.1 → ∀ g1, g1 = mj_gA (g) (0, 6, 0) → ∀ M1, M1 = mj_mZ (M) a1 → ∃ q2 : mj_S → mj_M → Prop, (9 ≤ 97 - 1 ∧ 394 ≤ (4123) - 10) ∧ kX6_init (a1) (g1) (M1) q2 ∧ ∀ (g2 : mj_S) (M2 : mj_M), q2 g2 M2 → (((k0) < (g2).1 ∧ (g2).2.1 (k0) = (0, 9, 0)) ∧ (∀ g3, g3 = mj_gR g2 (k0) 0 (some (a1)) → (1 ≤ 97 - 1 - 9 ∧ 10 ≤ (4123) - 10 - 394 ∧ (g3).1 + 1 ≤ 900000) ∧ (∀ a4 : Nat, a4 = g3.1 → ∀ g4, g4 = mj_gA (g3) (0, 6, 0) → ∀ M4, M4 = mj_mZ (M2) a4 → ∃ q5 : mj_S → mj_M → Prop, (9 ≤ 97 - 1 - 9 - 1 ∧ 394 ≤ (4123) - 10 - 394 - 10) ∧ kX6_init (a4) (g4) (M4) q5 ∧ ∀ (g5 : mj_S) (M5 : mj_M), q5 g5 M5 → (((k0) < (g5).1 ∧ (g5).2.1 (k0) = (0, 9, 0)) ∧ (∀ g6, g6 = mj_gR g5 (k0) 1 (some (a4)) → (¬ (6 : Int32) < 0 ∧ Int32.toNatClampNeg (6 : Int32) = 6 ∧ 6 ≤ 100000 ∧ 1 ≤ 97 - 1 - 9 - 1 - 9 ∧ 6 ≤ (4123) - 10 - 394 - 10 - 394 ∧ (g6).1 + 1 ≤ 900000) ∧ (∀ a7 : Nat, a7 = g6.1 → ∀ g7, g7 = mj_gA (g6) (1, 3, 6) → ∀ M7, M7 = mj_mZ (M5) a7 → ((k0) < (g7).1 ∧ (g7).2.1 (k0) = (0, 9, 0)) ∧ (∀ g8, g8 = mj_gR g7 (k0) 2 (some (a7)) → LX9_init_37 k0 (0) g (97 - 1 - 9 - 1 - 9 - 1) ((4123) - 10 - 394 - 10 - 394 - (6)) (g8) (M7) q))))))))) : kX9_init k0 g M q := by
  intro d hd; refine mj_enter (by decide +kernel) (Nat.le_of_ble_eq_true rfl) ?_
  show mj_G mtX9_init (mj_rm d 97 (4123)) (mj_Fi (mj_qN g 97 q) mj_x0 97 (4123)) true 97 (4123) 0 [(0, .ref (k0))] [] g M
  refine mg_aload_n dX9_init_0 rfl 0 rfl ?_
  refine mg_objInit dX9_init_1 wd_30 wd_31 wd_32 (Nat.le_trans (Nat.le_of_ble_eq_true rfl) hd) (Nat.le_trans (Nat.le_of_ble_eq_true rfl) (Nat.mul_le_mul_left 38 hd)) (Nat.le_of_ble_eq_true rfl) ?_
  refine mg_aload_n dX9_init_4 rfl 0 rfl ?_
  obtain ⟨⟨hb1, hb2, hb3⟩, h⟩ := h
  refine mg_new dX9_init_5 kc_6 wd_33 wd_34 wd_2 hb1 hb2 hb3 ?_
  obtain ⟨a1, ea1⟩ : ∃ z, z = g.1 := ⟨_, rfl⟩
  rw [← ea1]
  obtain ⟨g1, eg1⟩ : ∃ z, z = mj_gA (g) (0, 6, 0) := ⟨_, rfl⟩
  rw [← eg1]
  obtain ⟨M1, eM1⟩ : ∃ z, z = mj_mZ (M) a1 := ⟨_, rfl⟩
  rw [← eM1]
  replace h := h a1 ea1 g1 eg1 M1 eM1
  refine mg_dup dX9_init_8 rfl ?_
  obtain ⟨q2, hb, hC, hk⟩ := h
  refine mn_I [] [.ref (a1), .ref (k0)] dX9_init_9 wd_35 rfl wd_36 wd_2 wd_37 ⟨by decide +kernel, by decide +kernel, by decide +kernel⟩ (mj_hR (Nat.le_trans (Nat.le_of_ble_eq_true rfl) hd) (Nat.le_of_ble_eq_true rfl)) (Nat.le_of_ble_eq_true rfl) hb hC (fun g2 M2 hq => ?_)
  replace h := hk g2 M2 hq
  obtain ⟨hkk, h⟩ := h
  refine mg_putR (j := 0) dX9_init_12 kc_9 (Nat.le_of_ble_eq_true rfl) wd_231 rfl rfl rfl rfl rfl hkk.1 hkk.2 ?_
  obtain ⟨g3, eg3⟩ : ∃ z, z = mj_gR g2 (k0) 0 (some (a1)) := ⟨_, rfl⟩
  rw [← eg3]
  replace h := h g3 eg3
  refine mg_aload_n dX9_init_15 rfl 0 rfl ?_
  obtain ⟨⟨hb1, hb2, hb3⟩, h⟩ := h
  refine mg_new dX9_init_16 kc_6 wd_33 wd_34 wd_2 hb1 hb2 hb3 ?_
  obtain ⟨a4, ea4⟩ : ∃ z, z = g3.1 := ⟨_, rfl⟩
  rw [← ea4]
  obtain ⟨g4, eg4⟩ : ∃ z, z = mj_gA (g3) (0, 6, 0) := ⟨_, rfl⟩
  rw [← eg4]
  obtain ⟨M4, eM4⟩ : ∃ z, z = mj_mZ (M2) a4 := ⟨_, rfl⟩
  rw [← eM4]
  replace h := h a4 ea4 g4 eg4 M4 eM4
  refine mg_dup dX9_init_19 rfl ?_
  obtain ⟨q5, hb, hC, hk⟩ := h
  refine mn_I [] [.ref (a4), .ref (k0)] dX9_init_20 wd_35 rfl wd_36 wd_2 wd_37 ⟨by decide +kernel, by decide +kernel, by decide +kernel⟩ (mj_hR (Nat.le_trans (Nat.le_of_ble_eq_true rfl) hd) (Nat.le_of_ble_eq_true rfl)) (Nat.le_of_ble_eq_true rfl) hb hC (fun g5 M5 hq => ?_)
  replace h := hk g5 M5 hq
  obtain ⟨hkk, h⟩ := h
  refine mg_putR (j := 1) dX9_init_23 kc_9 (Nat.le_of_ble_eq_true rfl) wd_232 rfl rfl rfl rfl rfl hkk.1 hkk.2 ?_
  obtain ⟨g6, eg6⟩ : ∃ z, z = mj_gR g5 (k0) 1 (some (a4)) := ⟨_, rfl⟩
  rw [← eg6]
  replace h := h g6 eg6
  refine mg_aload_n dX9_init_26 rfl 0 rfl ?_
  refine mg_bipush (v := 6) dX9_init_27 (by decide) ?_
  obtain ⟨⟨hn, hN, hb0, hb1, hb2, hb3⟩, h⟩ := h
  refine mg_newq (N := 6) dX9_init_29 wd_33 hn hN hb0 hb1 hb2 hb3 ?_
  obtain ⟨a7, ea7⟩ : ∃ z, z = g6.1 := ⟨_, rfl⟩
  rw [← ea7]
  obtain ⟨g7, eg7⟩ : ∃ z, z = mj_gA (g6) (1, 3, 6) := ⟨_, rfl⟩
  rw [← eg7]
  obtain ⟨M7, eM7⟩ : ∃ z, z = mj_mZ (M5) a7 := ⟨_, rfl⟩
  rw [← eM7]
  replace h := h a7 ea7 g7 eg7 M7 eM7
  obtain ⟨hkk, h⟩ := h
  refine mg_putR (j := 2) dX9_init_32 kc_9 (Nat.le_of_ble_eq_true rfl) wd_233 rfl rfl rfl rfl rfl hkk.1 hkk.2 ?_
  obtain ⟨g8, eg8⟩ : ∃ z, z = mj_gR g7 (k0) 2 (some (a7)) := ⟨_, rfl⟩
  rw [← eg8]
  replace h := h g8 eg8
  refine mg_iconst (v := 0) dX9_init_35 (by decide) ?_
  refine mg_istore_n (ls' := [(1, .int (0)), (0, .ref (k0))]) dX9_init_36 rfl (Nat.le_of_ble_eq_true rfl) rfl ?_
  exact mg_pick [1, 0] rfl (h d hd)
theorem bX9_init_37 {k0 : Nat} {x1 : Int32} {g0 : mj_S} {bc bs : Nat} {g : mj_S} {M : mj_M} {q : mj_S → mj_M → Prop} (h : ((k0) < (g).1 ∧ (g).2.1 (k0) = (0, 9, 0)) ∧ ∃ a1 : Nat, (g).2.2 (k0) 2 = some a1 ∧ (∃ n2 : Nat, ((a1) < (g).1 ∧ (g).2.1 (a1) = (1, 3, n2)) ∧ (((nI n2 : Int32) ≤ (x1) → ((k0) < (g).1 ∧ (g).2.1 (k0) = (0, 9, 0)) ∧ ((1 ≤ bc ∧ 2 ≤ bs ∧ (g).1 + 1 ≤ 900000) ∧ (∀ a3 : Nat, a3 = g.1 → ∀ g3, g3 = mj_gA (g) (0, 8, 0) → ∀ M3, M3 = mj_mZ (mj_wI (M) (k0) 3 (0)) a3 → ∃ q4 : mj_S → mj_M → Prop, (1 ≤ bc - 1 ∧ 160 ≤ bs - 2) ∧ kX8_init (a3) (g3) (M3) q4 ∧ ∀ (g4 : mj_S) (M4 : mj_M), q4 g4 M4 → (((k0) < (g4).1 ∧ (g4).2.1 (k0) = (0, 9, 0)) ∧ (∀ g5, g5 = mj_gR g4 (k0) 4 (some (a3)) → (1 ≤ bc - 1 - 1 ∧ 7 ≤ bs - 2 - 160 ∧ (g5).1 + 1 ≤ 900000) ∧ (∀ a6 : Nat, a6 = g5.1 → ∀ g6, g6 = mj_gA (g5) (0, 1, 0) → ∀ M6, M6 = mj_mZ (M4) a6 → ∃ q7 : mj_S → mj_M → Prop, (2 ≤ bc - 1 - 1 - 1 ∧ 83 ≤ bs - 2 - 160 - 7) ∧ kX1_init (a6) (g6) (M6) q7 ∧ ∀ (g7 : mj_S) (M7 : mj_M), q7 g7 M7 → (((k0) < (g7).1 ∧ (g7).2.1 (k0) = (0, 9, 0)) ∧ (∀ g8, g8 = mj_gR g7 (k0) 5 (some (a6)) → (1 ≤ bc - 1 - 1 - 1 - 2 ∧ 2 ≤ bs - 2 - 160 - 7 - 83 ∧ (g8).1 + 1 ≤ 900000) ∧ (∀ a9 : Nat, a9 = g8.1 → ∀ g9, g9 = mj_gA (g8) (0, 2, 0) → ∀ M9, M9 = mj_mZ (M7) a9 → ∃ q10 : mj_S → mj_M → Prop, (0 ≤ bc - 1 - 1 - 1 - 2 - 1 ∧ 0 ≤ bs - 2 - 160 - 7 - 83 - 2) ∧ kX2_init (a9) (g9) (M9) q10 ∧ ∀ (g10 : mj_S) (M10 : mj_M), q10 g10 M10 → (((k0) < (g10).1 ∧ (g10).2.1 (k0) = (0, 9, 0)) ∧ (∀ g11, g11 = mj_gR g10 (k0) 6 (some (a9)) → (1 ≤ bc - 1 - 1 - 1 - 2 - 1 - 0 ∧ 3 ≤ bs - 2 - 160 - 7 - 83 - 2 - 0 ∧ (g11).1 + 1 ≤ 900000) ∧ (∀ a12 : Nat, a12 = g11.1 → ∀ g12, g12 = mj_gA (g11) (0, 7, 0) → ∀ M12, M12 = mj_mZ (M10) a12 → ∃ q13 : mj_S → mj_M → Prop, (9 ≤ bc - 1 - 1 - 1 - 2 - 1 - 0 - 1 ∧ 628 ≤ bs - 2 - 160 - 7 - 83 - 2 - 0 - 3) ∧ kX7_init (a12) (g12) (M12) q13 ∧ ∀ (g13 : mj_S) (M13 : mj_M), q13 g13 M13 → (((k0) < (g13).1 ∧ (g13).2.1 (k0) = (0, 9, 0)) ∧ (∀ g14, g14 = mj_gR g13 (k0) 7 (some (a12)) → g0.1 + 97 = (g14).1 ∧ q (g14) (M13))))))))))))))) ∧ (¬ (nI n2 : Int32) ≤ (x1) → ((k0) < (g).1 ∧ (g).2.1 (k0) = (0, 9, 0)) ∧ ∃ a15 : Nat, (g).2.2 (k0) 2 = some a15 ∧ ((1 ≤ bc ∧ 10 ≤ bs ∧ (g).1 + 1 ≤ 900000) ∧ (∀ a16 : Nat, a16 = g.1 → ∀ g16, g16 = mj_gA (g) (0, 6, 0) → ∀ M16, M16 = mj_mZ (M) a16 → ∃ q17 : mj_S → mj_M → Prop, (9 ≤ bc - 1 ∧ 394 ≤ bs - 10) ∧ kX6_init (a16) (g16) (M16) q17 ∧ ∀ (g17 : mj_S) (M17 : mj_M), q17 g17 M17 → (∃ n18 : Nat, ((a15) < (g17).1 ∧ (g17).2.1 (a15) = (1, 3, n18) ∧ vp_in (x1) n18 ∧ (a16) < (g17).1 ∧ (g17).2.1 (a16) = (0, 6, 0)) ∧ (LX9_init_37 k0 (x1 + 1) g0 (bc - 1 - 9) (bs - 10 - 394) (g17) (mj_wR (M17) (a15) (Int32.toNatClampNeg (x1)) (some (a16))) q)))))))) : LX9_init_37 k0 x1 g0 bc bs g M q := by
  intro d hd
  refine mg_iload_n dX9_init_37 rfl 1 rfl ?_
  refine mg_aload_n dX9_init_38 rfl 0 rfl ?_
  obtain ⟨hkk, a1, ha, h⟩ := h
  refine mg_getR (j := 2) dX9_init_39 kc_9 (Nat.le_of_ble_eq_true rfl) wd_233 rfl rfl hkk.1 hkk.2 ha ?_
  obtain ⟨n2, hkk, h⟩ := h
  refine mg_alen (v := nI n2) dX9_init_42 hkk.1 hkk.2 (Nat.le_of_ble_eq_true rfl) rfl ?_
  refine mg_icmp_ge (tgt := 65) dX9_init_43 (by decide) (fun hc => ?_) (fun hc => ?_)
  · replace h := h.1 hc
    refine mg_aload_n dX9_init_65 rfl 0 rfl ?_
    refine mg_iconst (v := 0) dX9_init_66 (by decide) ?_
    obtain ⟨hkk, h⟩ := h
    refine mg_putI (j := 3) dX9_init_67 kc_9 (Nat.le_of_ble_eq_true rfl) wd_234 rfl rfl rfl hkk.1 hkk.2 ?_
    refine mg_aload_n dX9_init_70 rfl 0 rfl ?_
    obtain ⟨⟨hb1, hb2, hb3⟩, h⟩ := h
    refine mg_new dX9_init_71 kc_8 wd_105 wd_106 wd_5 hb1 hb2 hb3 ?_
    obtain ⟨a3, ea3⟩ : ∃ z, z = g.1 := ⟨_, rfl⟩
    rw [← ea3]
    obtain ⟨g3, eg3⟩ : ∃ z, z = mj_gA (g) (0, 8, 0) := ⟨_, rfl⟩
    rw [← eg3]
    obtain ⟨M3, eM3⟩ : ∃ z, z = mj_mZ (mj_wI (M) (k0) 3 (0)) a3 := ⟨_, rfl⟩
    rw [← eM3]
    replace h := h a3 ea3 g3 eg3 M3 eM3
    refine mg_dup dX9_init_74 rfl ?_
    obtain ⟨q4, hb, hC, hk⟩ := h
    refine mn_IN [] [.ref (a3), .ref (k0)] 0 dX9_init_75 rfl rfl wd_108 wd_5 wd_109 ⟨by decide +kernel, by decide +kernel, by decide +kernel⟩ (mj_hR (Nat.le_trans (Nat.le_of_ble_eq_true rfl) hd) (Nat.le_of_ble_eq_true rfl)) (Nat.le_of_ble_eq_true rfl) hb hC (fun g4 M4 hq => ?_)
    replace h := hk g4 M4 hq
    obtain ⟨hkk, h⟩ := h
    refine mg_putR (j := 4) dX9_init_78 kc_9 (Nat.le_of_ble_eq_true rfl) wd_235 rfl rfl rfl rfl rfl hkk.1 hkk.2 ?_
    obtain ⟨g5, eg5⟩ : ∃ z, z = mj_gR g4 (k0) 4 (some (a3)) := ⟨_, rfl⟩
    rw [← eg5]
    replace h := h g5 eg5
    refine mg_aload_n dX9_init_81 rfl 0 rfl ?_
    obtain ⟨⟨hb1, hb2, hb3⟩, h⟩ := h
    refine mg_new dX9_init_82 kc_1 wd_118 wd_119 wd_6 hb1 hb2 hb3 ?_
    obtain ⟨a6, ea6⟩ : ∃ z, z = g5.1 := ⟨_, rfl⟩
    rw [← ea6]
    obtain ⟨g6, eg6⟩ : ∃ z, z = mj_gA (g5) (0, 1, 0) := ⟨_, rfl⟩
    rw [← eg6]
    obtain ⟨M6, eM6⟩ : ∃ z, z = mj_mZ (M4) a6 := ⟨_, rfl⟩
    rw [← eM6]
    replace h := h a6 ea6 g6 eg6 M6 eM6
    refine mg_dup dX9_init_85 rfl ?_
    obtain ⟨q7, hb, hC, hk⟩ := h
    refine mn_IN [] [.ref (a6), .ref (k0)] 1 dX9_init_86 rfl rfl wd_121 wd_6 wd_122 ⟨by decide +kernel, by decide +kernel, by decide +kernel⟩ (mj_hR (Nat.le_trans (Nat.le_of_ble_eq_true rfl) hd) (Nat.le_of_ble_eq_true rfl)) (Nat.le_of_ble_eq_true rfl) hb hC (fun g7 M7 hq => ?_)
    replace h := hk g7 M7 hq
    obtain ⟨hkk, h⟩ := h
    refine mg_putR (j := 5) dX9_init_89 kc_9 (Nat.le_of_ble_eq_true rfl) wd_236 rfl rfl rfl rfl rfl hkk.1 hkk.2 ?_
    obtain ⟨g8, eg8⟩ : ∃ z, z = mj_gR g7 (k0) 5 (some (a6)) := ⟨_, rfl⟩
    rw [← eg8]
    replace h := h g8 eg8
    refine mg_aload_n dX9_init_92 rfl 0 rfl ?_
    obtain ⟨⟨hb1, hb2, hb3⟩, h⟩ := h
    refine mg_new dX9_init_93 kc_2 wd_149 wd_150 wd_7 hb1 hb2 hb3 ?_
    obtain ⟨a9, ea9⟩ : ∃ z, z = g8.1 := ⟨_, rfl⟩
    rw [← ea9]
    obtain ⟨g9, eg9⟩ : ∃ z, z = mj_gA (g8) (0, 2, 0) := ⟨_, rfl⟩
    rw [← eg9]
    obtain ⟨M9, eM9⟩ : ∃ z, z = mj_mZ (M7) a9 := ⟨_, rfl⟩
    rw [← eM9]
    replace h := h a9 ea9 g9 eg9 M9 eM9
    refine mg_dup dX9_init_96 rfl ?_
    obtain ⟨q10, hb, hC, hk⟩ := h
    refine mn_IN [] [.ref (a9), .ref (k0)] 2 dX9_init_97 rfl rfl wd_152 wd_7 wd_153 ⟨by decide +kernel, by decide +kernel, by decide +kernel⟩ (mj_hR (Nat.le_trans (Nat.le_of_ble_eq_true rfl) hd) (Nat.le_of_ble_eq_true rfl)) (Nat.le_of_ble_eq_true rfl) hb hC (fun g10 M10 hq => ?_)
    replace h := hk g10 M10 hq
    obtain ⟨hkk, h⟩ := h
    refine mg_putR (j := 6) dX9_init_100 kc_9 (Nat.le_of_ble_eq_true rfl) wd_237 rfl rfl rfl rfl rfl hkk.1 hkk.2 ?_
    obtain ⟨g11, eg11⟩ : ∃ z, z = mj_gR g10 (k0) 6 (some (a9)) := ⟨_, rfl⟩
    rw [← eg11]
    replace h := h g11 eg11
    refine mg_aload_n dX9_init_103 rfl 0 rfl ?_
    obtain ⟨⟨hb1, hb2, hb3⟩, h⟩ := h
    refine mg_new dX9_init_104 kc_7 wd_162 wd_163 wd_8 hb1 hb2 hb3 ?_
    obtain ⟨a12, ea12⟩ : ∃ z, z = g11.1 := ⟨_, rfl⟩
    rw [← ea12]
    obtain ⟨g12, eg12⟩ : ∃ z, z = mj_gA (g11) (0, 7, 0) := ⟨_, rfl⟩
    rw [← eg12]
    obtain ⟨M12, eM12⟩ : ∃ z, z = mj_mZ (M10) a12 := ⟨_, rfl⟩
    rw [← eM12]
    replace h := h a12 ea12 g12 eg12 M12 eM12
    refine mg_dup dX9_init_107 rfl ?_
    obtain ⟨q13, hb, hC, hk⟩ := h
    refine mn_IN [] [.ref (a12), .ref (k0)] 3 dX9_init_108 rfl rfl wd_165 wd_8 wd_166 ⟨by decide +kernel, by decide +kernel, by decide +kernel⟩ (mj_hR (Nat.le_trans (Nat.le_of_ble_eq_true rfl) hd) (Nat.le_of_ble_eq_true rfl)) (Nat.le_of_ble_eq_true rfl) hb hC (fun g13 M13 hq => ?_)
    replace h := hk g13 M13 hq
    obtain ⟨hkk, h⟩ := h
    refine mg_putR (j := 7) dX9_init_111 kc_9 (Nat.le_of_ble_eq_true rfl) wd_238 rfl rfl rfl rfl rfl hkk.1 hkk.2 ?_
    obtain ⟨g14, eg14⟩ : ∃ z, z = mj_gR g13 (k0) 7 (some (a12)) := ⟨_, rfl⟩
    rw [← eg14]
    replace h := h g14 eg14
    exact mg_vret dX9_init_114 rfl ⟨rfl, h.1.symm, h.2⟩
  · replace h := h.2 hc
    refine mg_aload_n dX9_init_46 rfl 0 rfl ?_
    obtain ⟨hkk, a15, ha, h⟩ := h
    refine mg_getR (j := 2) dX9_init_47 kc_9 (Nat.le_of_ble_eq_true rfl) wd_233 rfl rfl hkk.1 hkk.2 ha ?_
    refine mg_iload_n dX9_init_50 rfl 1 rfl ?_
    obtain ⟨⟨hb1, hb2, hb3⟩, h⟩ := h
    refine mg_new dX9_init_51 kc_6 wd_33 wd_34 wd_2 hb1 hb2 hb3 ?_
    obtain ⟨a16, ea16⟩ : ∃ z, z = g.1 := ⟨_, rfl⟩
    rw [← ea16]
    obtain ⟨g16, eg16⟩ : ∃ z, z = mj_gA (g) (0, 6, 0) := ⟨_, rfl⟩
    rw [← eg16]
    obtain ⟨M16, eM16⟩ : ∃ z, z = mj_mZ (M) a16 := ⟨_, rfl⟩
    rw [← eM16]
    replace h := h a16 ea16 g16 eg16 M16 eM16
    refine mg_dup dX9_init_54 rfl ?_
    obtain ⟨q17, hb, hC, hk⟩ := h
    refine mn_I [] [.ref (a16), .int (x1), .ref (a15)] dX9_init_55 wd_35 rfl wd_36 wd_2 wd_37 ⟨by decide +kernel, by decide +kernel, by decide +kernel⟩ (mj_hR (Nat.le_trans (Nat.le_of_ble_eq_true rfl) hd) (Nat.le_of_ble_eq_true rfl)) (Nat.le_of_ble_eq_true rfl) hb hC (fun g17 M17 hq => ?_)
    replace h := hk g17 M17 hq
    obtain ⟨n18, ⟨h1, h2, h3, h4, h5⟩, h⟩ := h
    refine mg_aast dX9_init_58 h1 h2 h3 h4 h5 ?_
    refine mg_iinc (v := x1 + 1) (ls' := [(1, .int (x1 + 1)), (0, .ref (k0))]) dX9_init_59 1 rfl rfl (Nat.le_of_ble_eq_true rfl) rfl ?_
    refine mg_goto (tgt := 37) dX9_init_62 (by decide) ?_
    exact mg_pick [1, 0] rfl (h d hd)
theorem dX10_init_0 : decode cX10_init 0 = .ok (.aload_n 0, 1) := by decide +kernel
theorem dX10_init_1 : decode cX10_init 1 = .ok (.invokespecial 1, 3) := by decide +kernel
theorem dX10_init_4 : decode cX10_init 4 = .ok (.aload_n 0, 1) := by decide +kernel
theorem dX10_init_5 : decode cX10_init 5 = .ok (.sipush 395, 3) := by decide +kernel
theorem dX10_init_8 : decode cX10_init 8 = .ok (.newarray .int, 2) := by decide +kernel
theorem dX10_init_10 : decode cX10_init 10 = .ok (.putfield 7, 3) := by decide +kernel
theorem dX10_init_13 : decode cX10_init 13 = .ok (.aload_n 0, 1) := by decide +kernel
theorem dX10_init_14 : decode cX10_init 14 = .ok (.sipush 2370, 3) := by decide +kernel
theorem dX10_init_17 : decode cX10_init 17 = .ok (.newarray .int, 2) := by decide +kernel
theorem dX10_init_19 : decode cX10_init 19 = .ok (.putfield 13, 3) := by decide +kernel
theorem dX10_init_22 : decode cX10_init 22 = .ok (.aload_n 0, 1) := by decide +kernel
theorem dX10_init_23 : decode cX10_init 23 = .ok (.sipush 395, 3) := by decide +kernel
theorem dX10_init_26 : decode cX10_init 26 = .ok (.newarray .int, 2) := by decide +kernel
theorem dX10_init_28 : decode cX10_init 28 = .ok (.putfield 16, 3) := by decide +kernel
theorem dX10_init_31 : decode cX10_init 31 = .ok (.aload_n 0, 1) := by decide +kernel
theorem dX10_init_32 : decode cX10_init 32 = .ok (.sipush 160, 3) := by decide +kernel
theorem dX10_init_35 : decode cX10_init 35 = .ok (.newarray .int, 2) := by decide +kernel
theorem dX10_init_37 : decode cX10_init 37 = .ok (.putfield 19, 3) := by decide +kernel
theorem dX10_init_40 : decode cX10_init 40 = .ok (.aload_n 0, 1) := by decide +kernel
theorem dX10_init_41 : decode cX10_init 41 = .ok (.sipush 160, 3) := by decide +kernel
theorem dX10_init_44 : decode cX10_init 44 = .ok (.newarray .int, 2) := by decide +kernel
theorem dX10_init_46 : decode cX10_init 46 = .ok (.putfield 22, 3) := by decide +kernel
theorem dX10_init_49 : decode cX10_init 49 = .ok (.aload_n 0, 1) := by decide +kernel
theorem dX10_init_50 : decode cX10_init 50 = .ok (.bipush 48, 2) := by decide +kernel
theorem dX10_init_52 : decode cX10_init 52 = .ok (.newarray .boolean, 2) := by decide +kernel
theorem dX10_init_54 : decode cX10_init 54 = .ok (.putfield 25, 3) := by decide +kernel
theorem dX10_init_57 : decode cX10_init 57 = .ok (.aload_n 0, 1) := by decide +kernel
theorem dX10_init_58 : decode cX10_init 58 = .ok (.sipush 600, 3) := by decide +kernel
theorem dX10_init_61 : decode cX10_init 61 = .ok (.newarray .int, 2) := by decide +kernel
theorem dX10_init_63 : decode cX10_init 63 = .ok (.putfield 29, 3) := by decide +kernel
theorem dX10_init_66 : decode cX10_init 66 = .ok (.aload_n 0, 1) := by decide +kernel
theorem dX10_init_67 : decode cX10_init 67 = .ok (.bipush 40, 2) := by decide +kernel
theorem dX10_init_69 : decode cX10_init 69 = .ok (.newarray .int, 2) := by decide +kernel
theorem dX10_init_71 : decode cX10_init 71 = .ok (.putfield 32, 3) := by decide +kernel
theorem dX10_init_74 : decode cX10_init 74 = .ok (.aload_n 0, 1) := by decide +kernel
theorem dX10_init_75 : decode cX10_init 75 = .ok (.bipush 40, 2) := by decide +kernel
theorem dX10_init_77 : decode cX10_init 77 = .ok (.newarray .int, 2) := by decide +kernel
theorem dX10_init_79 : decode cX10_init 79 = .ok (.putfield 35, 3) := by decide +kernel
theorem dX10_init_82 : decode cX10_init 82 = .ok (.aload_n 0, 1) := by decide +kernel
theorem dX10_init_83 : decode cX10_init 83 = .ok (.bipush 20, 2) := by decide +kernel
theorem dX10_init_85 : decode cX10_init 85 = .ok (.newarray .int, 2) := by decide +kernel
theorem dX10_init_87 : decode cX10_init 87 = .ok (.putfield 38, 3) := by decide +kernel
theorem dX10_init_90 : decode cX10_init 90 = .ok (.aload_n 0, 1) := by decide +kernel
theorem dX10_init_91 : decode cX10_init 91 = .ok (.bipush 20, 2) := by decide +kernel
theorem dX10_init_93 : decode cX10_init 93 = .ok (.newarray .int, 2) := by decide +kernel
theorem dX10_init_95 : decode cX10_init 95 = .ok (.putfield 41, 3) := by decide +kernel
theorem dX10_init_98 : decode cX10_init 98 = .ok (.aload_n 0, 1) := by decide +kernel
theorem dX10_init_99 : decode cX10_init 99 = .ok (.bipush 8, 2) := by decide +kernel
theorem dX10_init_101 : decode cX10_init 101 = .ok (.invokevirtual 44, 3) := by decide +kernel
theorem dX10_init_104 : decode cX10_init 104 = .ok (.return_, 1) := by decide +kernel
abbrev mtX10_init : mj_T := (yX10_init.cls, cX10_init, 1, none, mj_no, yX10_init.name)
abbrev kX10_init (k0 : Nat) (g : mj_S) (M : mj_M) (q : mj_S → mj_M → Prop) : Prop := mj_CN yX10_init (.code yX10_init cX10_init 1 none) 1 11 (4248) [.ref k0] g M q
theorem eX10_init {k0 : Nat} {g : mj_S} {M : mj_M} {q : mj_S → mj_M → Prop} (h : (¬ (395 : Int32) < 0 ∧ Int32.toNatClampNeg (395 : Int32) = 395 ∧ 395 ≤ 100000 ∧ 1 ≤ 11 ∧ 395 ≤ (4248) ∧ (g).1 + 1 ≤ 900000) ∧ (∀ a1 : Nat, a1 = g.1 → ∀ g1, g1 = mj_gA (g) (1, 0, 395) → ∀ M1, M1 = mj_mZ (M) a1 → ((k0) < (g1).1 ∧ (g1).2.1 (k0) = (0, 10, 0)) ∧ (∀ g2, g2 = mj_gR g1 (k0) 0 (some (a1)) → (¬ (2370 : Int32) < 0 ∧ Int32.toNatClampNeg (2370 : Int32) = 2370 ∧ 2370 ≤ 100000 ∧ 1 ≤ 11 - 1 ∧ 2370 ≤ (4248) - (395) ∧ (g2).1 + 1 ≤ 900000) ∧ (∀ a3 : Nat, a3 = g2.1 → ∀ g3, g3 = mj_gA (g2) (1, 0, 2370) → ∀ M3, M3 = mj_mZ (M1) a3 → ((k0) < (g3).1 ∧ (g3).2.1 (k0) = (0, 10, 0)) ∧ (∀ g4, g4 = mj_gR g3 (k0) 1 (some (a3)) → (¬ (395 : Int32) < 0 ∧ Int32.toNatClampNeg (395 : Int32) = 395 ∧ 395 ≤ 100000 ∧ 1 ≤ 11 - 1 - 1 ∧ 395 ≤ (4248) - (395) - (2370) ∧ (g4).1 + 1 ≤ 900000) ∧ (∀ a5 : Nat, a5 = g4.1 → ∀ g5, g5 = mj_gA (g4) (1, 0, 395) → ∀ M5, M5 = mj_mZ (M3) a5 → ((k0) < (g5).1 ∧ (g5).2.1 (k0) = (0, 10, 0)) ∧ (∀ g6, g6 = mj_gR g5 (k0) 2 (some (a5)) → (¬ (160 : Int32) < 0 ∧ Int32.toNatClampNeg (160 : Int32) = 160 ∧ 160 ≤ 100000 ∧ 1 ≤ 11 - 1 - 1 - 1 ∧ 160 ≤ (4248) - (395) - (2370) - (395) ∧ (g6).1 + 1 ≤ 900000) ∧ (∀ a7 : Nat, a7 = g6.1 → ∀ g7, g7 = mj_gA (g6) (1, 0, 160) → ∀ M7, M7 = mj_mZ (M5) a7 → ((k0) < (g7).1 ∧ (g7).2.1 (k0) = (0, 10, 0)) ∧ (∀ g8, g8 = mj_gR g7 (k0) 4 (some (a7)) → (¬ (160 : Int32) < 0 ∧ Int32.toNatClampNeg (160 : Int32) = 160 ∧ 160 ≤ 100000 ∧ 1 ≤ 11 - 1 - 1 - 1 - 1 ∧ 160 ≤ (4248) - (395) - (2370) - (395) - (160) ∧ (g8).1 + 1 ≤ 900000) ∧ (∀ a9 : Nat, a9 = g8.1 → ∀ g9, g9 = mj_gA (g8) (1, 0, 160) → ∀ M9, M9 = mj_mZ (M7) a9 → ((k0) < (g9).1 ∧ (g9).2.1 (k0) = (0, 10, 0)) ∧ (∀ g10, g10 = mj_gR g9 (k0) 11 (some (a9)) → (¬ (48 : Int32) < 0 ∧ Int32.toNatClampNeg (48 : Int32) = 48 ∧ 48 ≤ 100000 ∧ 1 ≤ 11 - 1 - 1 - 1 - 1 - 1 ∧ 48 ≤ (4248) - (395) - (2370) - (395) - (160) - (160) ∧ (g10).1 + 1 ≤ 900000) ∧ (∀ a11 : Nat, a11 = g10.1 → ∀ g11, g11 = mj_gA (g10) (1, 1, 48) → ∀ M11, M11 = mj_mZ (M9) a11 → ((k0) < (g11).1 ∧ (g11).2.1 (k0) = (0, 10, 0)) ∧ (∀ g12, g12 = mj_gR g11 (k0) 16 (some (a11)) → (¬ (600 : Int32) < 0 ∧ Int32.toNatClampNeg (600 : Int32) = 600 ∧ 600 ≤ 100000 ∧ 1 ≤ 11 - 1 - 1 - 1 - 1 - 1 - 1 ∧ 600 ≤ (4248) - (395) - (2370) - (395) - (160) - (160) - (48) ∧ (g12).1 + 1 ≤ 900000) ∧ (∀ a13 : Nat, a13 = g12.1 → ∀ g13, g13 = mj_gA (g12) (1, 0, 600) → ∀ M13, M13 = mj_mZ (M11) a13 → ((k0) < (g13).1 ∧ (g13).2.1 (k0) = (0, 10, 0)) ∧ (∀ g14, g14 = mj_gR g13 (k0) 17 (some (a13)) → (¬ (40 : Int32) < 0 ∧ Int32.toNatClampNeg (40 : Int32) = 40 ∧ 40 ≤ 100000 ∧ 1 ≤ 11 - 1 - 1 - 1 - 1 - 1 - 1 - 1 ∧ 40 ≤ (4248) - (395) - (2370) - (395) - (160) - (160) - (48) - (600) ∧ (g14).1 + 1 ≤ 900000) ∧ (∀ a15 : Nat, a15 = g14.1 → ∀ g15, g15 = mj_gA (g14) (1, 0, 40) → ∀ M15, M15 = mj_mZ (M13) a15 → ((k0) < (g15).1 ∧ (g15).2.1 (k0) = (0, 10, 0)) ∧ (∀ g16, g16 = mj_gR g15 (k0) 19 (some (a15)) → (¬ (40 : Int32) < 0 ∧ Int32.toNatClampNeg (40 : Int32) = 40 ∧ 40 ≤ 100000 ∧ 1 ≤ 11 - 1 - 1 - 1 - 1 - 1 - 1 - 1 - 1 ∧ 40 ≤ (4248) - (395) - (2370) - (395) - (160) - (160) - (48) - (600) - (40) ∧ (g16).1 + 1 ≤ 900000) ∧ (∀ a17 : Nat, a17 = g16.1 → ∀ g17, g17 = mj_gA (g16) (1, 0, 40) → ∀ M17, M17 = mj_mZ (M15) a17 → ((k0) < (g17).1 ∧ (g17).2.1 (k0) = (0, 10, 0)) ∧ (∀ g18, g18 = mj_gR g17 (k0) 20 (some (a17)) → (¬ (20 : Int32) < 0 ∧ Int32.toNatClampNeg (20 : Int32) = 20 ∧ 20 ≤ 100000 ∧ 1 ≤ 11 - 1 - 1 - 1 - 1 - 1 - 1 - 1 - 1 - 1 ∧ 20 ≤ (4248) - (395) - (2370) - (395) - (160) - (160) - (48) - (600) - (40) - (40) ∧ (g18).1 + 1 ≤ 900000) ∧ (∀ a19 : Nat, a19 = g18.1 → ∀ g19, g19 = mj_gA (g18) (1, 0, 20) → ∀ M19, M19 = mj_mZ (M17) a19 → ((k0) < (g19).1 ∧ (g19).2.1 (k0) = (0, 10, 0)) ∧ (∀ g20, g20 = mj_gR g19 (k0) 23 (some (a19)) → (¬ (20 : Int32) < 0 ∧ Int32.toNatClampNeg (20 : Int32) = 20 ∧ 20 ≤ 100000 ∧ 1 ≤ 11 - 1 - 1 - 1 - 1 - 1 - 1 - 1 - 1 - 1 - 1 ∧ 20 ≤ (4248) - (395) - (2370) - (395) - (160) - (160) - (48) - (600) - (40) - (40) - (20) ∧ (g20).1 + 1 ≤ 900000) ∧ (∀ a21 : Nat, a21 = g20.1 → ∀ g21, g21 = mj_gA (g20) (1, 0, 20) → ∀ M21, M21 = mj_mZ (M19) a21 → ((k0) < (g21).1 ∧ (g21).2.1 (k0) = (0, 10, 0)) ∧ (∀ g22, g22 = mj_gR g21 (k0) 24 (some (a21)) → ∃ q23 : mj_M → Prop, ((k0) < (g22).1 ∧ (g22).2.1 (k0) = (0, 10, 0)) ∧ kX10_begins (k0) (8) (g22) (M21) q23 ∧ ∀ (M23 : mj_M), q23 M23 → (g.1 + 11 = (g22).1 ∧ q (g22) (M23))))))))))))))))))))))))) : kX10_init k0 g M q := by
  intro d hd; refine mj_enter (by decide +kernel) (Nat.le_of_ble_eq_true rfl) ?_
  show mj_G mtX10_init (mj_rm d 11 (4248)) (mj_Fi (mj_qN g 11 q) mj_x0 11 (4248)) true 11 (4248) 0 [(0, .ref (k0))] [] g M
  refine mg_aload_n dX10_init_0 rfl 0 rfl ?_
  refine mg_objInit dX10_init_1 wd_1250 wd_31 wd_32 (Nat.le_trans (Nat.le_of_ble_eq_true rfl) hd) (Nat.le_trans (Nat.le_of_ble_eq_true rfl) (Nat.mul_le_mul_left 38 hd)) (Nat.le_of_ble_eq_true rfl) ?_
  refine mg_aload_n dX10_init_4 rfl 0 rfl ?_
  refine mg_sipush (v := 395) dX10_init_5 (by decide) ?_
  obtain ⟨⟨hn, hN, hb0, hb1, hb2, hb3⟩, h⟩ := h
  refine mg_newarr (t := 0) (N := 395) dX10_init_8 (Or.inl ⟨rfl, rfl⟩) wd_55 hn hN hb0 hb1 hb2 hb3 ?_
  obtain ⟨a1, ea1⟩ : ∃ z, z = g.1 := ⟨_, rfl⟩
  rw [← ea1]
  obtain ⟨g1, eg1⟩ : ∃ z, z = mj_gA (g) (1, 0, 395) := ⟨_, rfl⟩
  rw [← eg1]
  obtain ⟨M1, eM1⟩ : ∃ z, z = mj_mZ (M) a1 := ⟨_, rfl⟩
  rw [← eM1]
  replace h := h a1 ea1 g1 eg1 M1 eM1
  obtain ⟨hkk, h⟩ := h
  refine mg_putR (j := 0) dX10_init_10 kc_10 (Nat.le_of_ble_eq_true rfl) wd_1255 rfl rfl rfl rfl rfl hkk.1 hkk.2 ?_
  obtain ⟨g2, eg2⟩ : ∃ z, z = mj_gR g1 (k0) 0 (some (a1)) := ⟨_, rfl⟩
  rw [← eg2]
  replace h := h g2 eg2
  refine mg_aload_n dX10_init_13 rfl 0 rfl ?_
  refine mg_sipush (v := 2370) dX10_init_14 (by decide) ?_
  obtain ⟨⟨hn, hN, hb0, hb1, hb2, hb3⟩, h⟩ := h
  refine mg_newarr (t := 0) (N := 2370) dX10_init_17 (Or.inl ⟨rfl, rfl⟩) wd_55 hn hN hb0 hb1 hb2 hb3 ?_
  obtain ⟨a3, ea3⟩ : ∃ z, z = g2.1 := ⟨_, rfl⟩
  rw [← ea3]
  obtain ⟨g3, eg3⟩ : ∃ z, z = mj_gA (g2) (1, 0, 2370) := ⟨_, rfl⟩
  rw [← eg3]
  obtain ⟨M3, eM3⟩ : ∃ z, z = mj_mZ (M1) a3 := ⟨_, rfl⟩
  rw [← eM3]
  replace h := h a3 ea3 g3 eg3 M3 eM3
  obtain ⟨hkk, h⟩ := h
  refine mg_putR (j := 1) dX10_init_19 kc_10 (Nat.le_of_ble_eq_true rfl) wd_1256 rfl rfl rfl rfl rfl hkk.1 hkk.2 ?_
  obtain ⟨g4, eg4⟩ : ∃ z, z = mj_gR g3 (k0) 1 (some (a3)) := ⟨_, rfl⟩
  rw [← eg4]
  replace h := h g4 eg4
  refine mg_aload_n dX10_init_22 rfl 0 rfl ?_
  refine mg_sipush (v := 395) dX10_init_23 (by decide) ?_
  obtain ⟨⟨hn, hN, hb0, hb1, hb2, hb3⟩, h⟩ := h
  refine mg_newarr (t := 0) (N := 395) dX10_init_26 (Or.inl ⟨rfl, rfl⟩) wd_55 hn hN hb0 hb1 hb2 hb3 ?_
  obtain ⟨a5, ea5⟩ : ∃ z, z = g4.1 := ⟨_, rfl⟩
  rw [← ea5]
  obtain ⟨g5, eg5⟩ : ∃ z, z = mj_gA (g4) (1, 0, 395) := ⟨_, rfl⟩
  rw [← eg5]
  obtain ⟨M5, eM5⟩ : ∃ z, z = mj_mZ (M3) a5 := ⟨_, rfl⟩
  rw [← eM5]
  replace h := h a5 ea5 g5 eg5 M5 eM5
  obtain ⟨hkk, h⟩ := h
  refine mg_putR (j := 2) dX10_init_28 kc_10 (Nat.le_of_ble_eq_true rfl) wd_1257 rfl rfl rfl rfl rfl hkk.1 hkk.2 ?_
  obtain ⟨g6, eg6⟩ : ∃ z, z = mj_gR g5 (k0) 2 (some (a5)) := ⟨_, rfl⟩
  rw [← eg6]
  replace h := h g6 eg6
  refine mg_aload_n dX10_init_31 rfl 0 rfl ?_
  refine mg_sipush (v := 160) dX10_init_32 (by decide) ?_
  obtain ⟨⟨hn, hN, hb0, hb1, hb2, hb3⟩, h⟩ := h
  refine mg_newarr (t := 0) (N := 160) dX10_init_35 (Or.inl ⟨rfl, rfl⟩) wd_55 hn hN hb0 hb1 hb2 hb3 ?_
  obtain ⟨a7, ea7⟩ : ∃ z, z = g6.1 := ⟨_, rfl⟩
  rw [← ea7]
  obtain ⟨g7, eg7⟩ : ∃ z, z = mj_gA (g6) (1, 0, 160) := ⟨_, rfl⟩
  rw [← eg7]
  obtain ⟨M7, eM7⟩ : ∃ z, z = mj_mZ (M5) a7 := ⟨_, rfl⟩
  rw [← eM7]
  replace h := h a7 ea7 g7 eg7 M7 eM7
  obtain ⟨hkk, h⟩ := h
  refine mg_putR (j := 4) dX10_init_37 kc_10 (Nat.le_of_ble_eq_true rfl) wd_1259 rfl rfl rfl rfl rfl hkk.1 hkk.2 ?_
  obtain ⟨g8, eg8⟩ : ∃ z, z = mj_gR g7 (k0) 4 (some (a7)) := ⟨_, rfl⟩
  rw [← eg8]
  replace h := h g8 eg8
  refine mg_aload_n dX10_init_40 rfl 0 rfl ?_
  refine mg_sipush (v := 160) dX10_init_41 (by decide) ?_
  obtain ⟨⟨hn, hN, hb0, hb1, hb2, hb3⟩, h⟩ := h
  refine mg_newarr (t := 0) (N := 160) dX10_init_44 (Or.inl ⟨rfl, rfl⟩) wd_55 hn hN hb0 hb1 hb2 hb3 ?_
  obtain ⟨a9, ea9⟩ : ∃ z, z = g8.1 := ⟨_, rfl⟩
  rw [← ea9]
  obtain ⟨g9, eg9⟩ : ∃ z, z = mj_gA (g8) (1, 0, 160) := ⟨_, rfl⟩
  rw [← eg9]
  obtain ⟨M9, eM9⟩ : ∃ z, z = mj_mZ (M7) a9 := ⟨_, rfl⟩
  rw [← eM9]
  replace h := h a9 ea9 g9 eg9 M9 eM9
  obtain ⟨hkk, h⟩ := h
  refine mg_putR (j := 11) dX10_init_46 kc_10 (Nat.le_of_ble_eq_true rfl) wd_1266 rfl rfl rfl rfl rfl hkk.1 hkk.2 ?_
  obtain ⟨g10, eg10⟩ : ∃ z, z = mj_gR g9 (k0) 11 (some (a9)) := ⟨_, rfl⟩
  rw [← eg10]
  replace h := h g10 eg10
  refine mg_aload_n dX10_init_49 rfl 0 rfl ?_
  refine mg_bipush (v := 48) dX10_init_50 (by decide) ?_
  obtain ⟨⟨hn, hN, hb0, hb1, hb2, hb3⟩, h⟩ := h
  refine mg_newarr (t := 1) (N := 48) dX10_init_52 (Or.inr (Or.inl ⟨rfl, rfl⟩)) wd_1340 hn hN hb0 hb1 hb2 hb3 ?_
  obtain ⟨a11, ea11⟩ : ∃ z, z = g10.1 := ⟨_, rfl⟩
  rw [← ea11]
  obtain ⟨g11, eg11⟩ : ∃ z, z = mj_gA (g10) (1, 1, 48) := ⟨_, rfl⟩
  rw [← eg11]
  obtain ⟨M11, eM11⟩ : ∃ z, z = mj_mZ (M9) a11 := ⟨_, rfl⟩
  rw [← eM11]
  replace h := h a11 ea11 g11 eg11 M11 eM11
  obtain ⟨hkk, h⟩ := h
  refine mg_putR (j := 16) dX10_init_54 kc_10 (Nat.le_of_ble_eq_true rfl) wd_1271 rfl rfl rfl rfl rfl hkk.1 hkk.2 ?_
  obtain ⟨g12, eg12⟩ : ∃ z, z = mj_gR g11 (k0) 16 (some (a11)) := ⟨_, rfl⟩
  rw [← eg12]
  replace h := h g12 eg12
  refine mg_aload_n dX10_init_57 rfl 0 rfl ?_
  refine mg_sipush (v := 600) dX10_init_58 (by decide) ?_
  obtain ⟨⟨hn, hN, hb0, hb1, hb2, hb3⟩, h⟩ := h
  refine mg_newarr (t := 0) (N := 600) dX10_init_61 (Or.inl ⟨rfl, rfl⟩) wd_55 hn hN hb0 hb1 hb2 hb3 ?_
  obtain ⟨a13, ea13⟩ : ∃ z, z = g12.1 := ⟨_, rfl⟩
  rw [← ea13]
  obtain ⟨g13, eg13⟩ : ∃ z, z = mj_gA (g12) (1, 0, 600) := ⟨_, rfl⟩
  rw [← eg13]
  obtain ⟨M13, eM13⟩ : ∃ z, z = mj_mZ (M11) a13 := ⟨_, rfl⟩
  rw [← eM13]
  replace h := h a13 ea13 g13 eg13 M13 eM13
  obtain ⟨hkk, h⟩ := h
  refine mg_putR (j := 17) dX10_init_63 kc_10 (Nat.le_of_ble_eq_true rfl) wd_1272 rfl rfl rfl rfl rfl hkk.1 hkk.2 ?_
  obtain ⟨g14, eg14⟩ : ∃ z, z = mj_gR g13 (k0) 17 (some (a13)) := ⟨_, rfl⟩
  rw [← eg14]
  replace h := h g14 eg14
  refine mg_aload_n dX10_init_66 rfl 0 rfl ?_
  refine mg_bipush (v := 40) dX10_init_67 (by decide) ?_
  obtain ⟨⟨hn, hN, hb0, hb1, hb2, hb3⟩, h⟩ := h
  refine mg_newarr (t := 0) (N := 40) dX10_init_69 (Or.inl ⟨rfl, rfl⟩) wd_55 hn hN hb0 hb1 hb2 hb3 ?_
  obtain ⟨a15, ea15⟩ : ∃ z, z = g14.1 := ⟨_, rfl⟩
  rw [← ea15]
  obtain ⟨g15, eg15⟩ : ∃ z, z = mj_gA (g14) (1, 0, 40) := ⟨_, rfl⟩
  rw [← eg15]
  obtain ⟨M15, eM15⟩ : ∃ z, z = mj_mZ (M13) a15 := ⟨_, rfl⟩
  rw [← eM15]
  replace h := h a15 ea15 g15 eg15 M15 eM15
  obtain ⟨hkk, h⟩ := h
  refine mg_putR (j := 19) dX10_init_71 kc_10 (Nat.le_of_ble_eq_true rfl) wd_1274 rfl rfl rfl rfl rfl hkk.1 hkk.2 ?_
  obtain ⟨g16, eg16⟩ : ∃ z, z = mj_gR g15 (k0) 19 (some (a15)) := ⟨_, rfl⟩
  rw [← eg16]
  replace h := h g16 eg16
  refine mg_aload_n dX10_init_74 rfl 0 rfl ?_
  refine mg_bipush (v := 40) dX10_init_75 (by decide) ?_
  obtain ⟨⟨hn, hN, hb0, hb1, hb2, hb3⟩, h⟩ := h
  refine mg_newarr (t := 0) (N := 40) dX10_init_77 (Or.inl ⟨rfl, rfl⟩) wd_55 hn hN hb0 hb1 hb2 hb3 ?_
  obtain ⟨a17, ea17⟩ : ∃ z, z = g16.1 := ⟨_, rfl⟩
  rw [← ea17]
  obtain ⟨g17, eg17⟩ : ∃ z, z = mj_gA (g16) (1, 0, 40) := ⟨_, rfl⟩
  rw [← eg17]
  obtain ⟨M17, eM17⟩ : ∃ z, z = mj_mZ (M15) a17 := ⟨_, rfl⟩
  rw [← eM17]
  replace h := h a17 ea17 g17 eg17 M17 eM17
  obtain ⟨hkk, h⟩ := h
  refine mg_putR (j := 20) dX10_init_79 kc_10 (Nat.le_of_ble_eq_true rfl) wd_1275 rfl rfl rfl rfl rfl hkk.1 hkk.2 ?_
  obtain ⟨g18, eg18⟩ : ∃ z, z = mj_gR g17 (k0) 20 (some (a17)) := ⟨_, rfl⟩
  rw [← eg18]
  replace h := h g18 eg18
  refine mg_aload_n dX10_init_82 rfl 0 rfl ?_
  refine mg_bipush (v := 20) dX10_init_83 (by decide) ?_
  obtain ⟨⟨hn, hN, hb0, hb1, hb2, hb3⟩, h⟩ := h
  refine mg_newarr (t := 0) (N := 20) dX10_init_85 (Or.inl ⟨rfl, rfl⟩) wd_55 hn hN hb0 hb1 hb2 hb3 ?_
  obtain ⟨a19, ea19⟩ : ∃ z, z = g18.1 := ⟨_, rfl⟩
  rw [← ea19]
  obtain ⟨g19, eg19⟩ : ∃ z, z = mj_gA (g18) (1, 0, 20) := ⟨_, rfl⟩
  rw [← eg19]
  obtain ⟨M19, eM19⟩ : ∃ z, z = mj_mZ (M17) a19 := ⟨_, rfl⟩
  rw [← eM19]
  replace h := h a19 ea19 g19 eg19 M19 eM19
  obtain ⟨hkk, h⟩ := h
  refine mg_putR (j := 23) dX10_init_87 kc_10 (Nat.le_of_ble_eq_true rfl) wd_1278 rfl rfl rfl rfl rfl hkk.1 hkk.2 ?_
  obtain ⟨g20, eg20⟩ : ∃ z, z = mj_gR g19 (k0) 23 (some (a19)) := ⟨_, rfl⟩
  rw [← eg20]
  replace h := h g20 eg20
  refine mg_aload_n dX10_init_90 rfl 0 rfl ?_
  refine mg_bipush (v := 20) dX10_init_91 (by decide) ?_
  obtain ⟨⟨hn, hN, hb0, hb1, hb2, hb3⟩, h⟩ := h
  refine mg_newarr (t := 0) (N := 20) dX10_init_93 (Or.inl ⟨rfl, rfl⟩) wd_55 hn hN hb0 hb1 hb2 hb3 ?_
  obtain ⟨a21, ea21⟩ : ∃ z, z = g20.1 := ⟨_, rfl⟩
  rw [← ea21]
  obtain ⟨g21, eg21⟩ : ∃ z, z = mj_gA (g20) (1, 0, 20) := ⟨_, rfl⟩
  rw [← eg21]
  obtain ⟨M21, eM21⟩ : ∃ z, z = mj_mZ (M19) a21 := ⟨_, rfl⟩
  rw [← eM21]
  replace h := h a21 ea21 g21 eg21 M21 eM21
  obtain ⟨hkk, h⟩ := h
  refine mg_putR (j := 24) dX10_init_95 kc_10 (Nat.le_of_ble_eq_true rfl) wd_1279 rfl rfl rfl rfl rfl hkk.1 hkk.2 ?_
  obtain ⟨g22, eg22⟩ : ∃ z, z = mj_gR g21 (k0) 24 (some (a21)) := ⟨_, rfl⟩
  rw [← eg22]
  replace h := h g22 eg22
  refine mg_aload_n dX10_init_98 rfl 0 rfl ?_
  refine mg_bipush (v := 8) dX10_init_99 (by decide) ?_
  obtain ⟨q23, hkk, hC, hk⟩ := h
  refine ml_Vv [.int (8)] [] dX10_init_101 wd_1251 kiX10_begins (Nat.le_of_ble_eq_true rfl) hkk.1 hkk.2 rfl (mj_hR (Nat.le_trans (Nat.le_of_ble_eq_true rfl) hd) (Nat.le_of_ble_eq_true rfl)) hC (fun M23 hq => ?_)
  replace h := hk M23 hq
  exact mg_vret dX10_init_104 rfl ⟨rfl, h.1.symm, h.2⟩
