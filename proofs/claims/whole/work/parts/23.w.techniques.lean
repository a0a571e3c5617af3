theorem dX7_firstUnit_0 : decode cX7_firstUnit 0 = .ok (.iconst 0, 1) := by decide +kernel
theorem dX7_firstUnit_1 : decode cX7_firstUnit 1 = .ok (.istore_n 2, 1) := by decide +kernel
theorem dX7_firstUnit_2 : decode cX7_firstUnit 2 = .ok (.iload_n 2, 1) := by decide +kernel
theorem dX7_firstUnit_3 : decode cX7_firstUnit 3 = .ok (.aload_n 1, 1) := by decide +kernel
theorem dX7_firstUnit_4 : decode cX7_firstUnit 4 = .ok (.invokevirtual 88, 3) := by decide +kernel
theorem dX7_firstUnit_7 : decode cX7_firstUnit 7 = .ok (.if_icmp .ge 30, 3) := by decide +kernel
theorem dX7_firstUnit_10 : decode cX7_firstUnit 10 = .ok (.aload_n 1, 1) := by decide +kernel
theorem dX7_firstUnit_11 : decode cX7_firstUnit 11 = .ok (.iload_n 2, 1) := by decide +kernel
theorem dX7_firstUnit_12 : decode cX7_firstUnit 12 = .ok (.invokevirtual 92, 3) := by decide +kernel
theorem dX7_firstUnit_15 : decode cX7_firstUnit 15 = .ok (.invokestatic 96, 3) := by decide +kernel
theorem dX7_firstUnit_18 : decode cX7_firstUnit 18 = .ok (.iconst 1, 1) := by decide +kernel
theorem dX7_firstUnit_19 : decode cX7_firstUnit 19 = .ok (.if_icmp .ne 12, 3) := by decide +kernel
theorem dX7_firstUnit_22 : decode cX7_firstUnit 22 = .ok (.aload_n 1, 1) := by decide +kernel
theorem dX7_firstUnit_23 : decode cX7_firstUnit 23 = .ok (.iload_n 2, 1) := by decide +kernel
theorem dX7_firstUnit_24 : decode cX7_firstUnit 24 = .ok (.invokevirtual 92, 3) := by decide +kernel
theorem dX7_firstUnit_27 : decode cX7_firstUnit 27 = .ok (.invokestatic 101, 3) := by decide +kernel
theorem dX7_firstUnit_30 : decode cX7_firstUnit 30 = .ok (.ireturn, 1) := by decide +kernel
theorem dX7_firstUnit_31 : decode cX7_firstUnit 31 = .ok (.iinc 2 1, 3) := by decide +kernel
theorem dX7_firstUnit_34 : decode cX7_firstUnit 34 = .ok (.goto (-32), 3) := by decide +kernel
theorem dX7_firstUnit_37 : decode cX7_firstUnit 37 = .ok (.iconst (-1), 1) := by decide +kernel
theorem dX7_firstUnit_38 : decode cX7_firstUnit 38 = .ok (.ireturn, 1) := by decide +kernel
abbrev mtX7_firstUnit : mj_T := (yX7_firstUnit.cls, cX7_firstUnit, 3, (some .int), mj_no, yX7_firstUnit.name)
abbrev kX7_firstUnit (k0 : Nat) (k1 : Nat) (g : mj_S) (M : mj_M) (q : Int32 → mj_M → Prop) : Prop := mj_CI yX7_firstUnit (.code yX7_firstUnit cX7_firstUnit 3 (some .int)) 1 [.ref (k0), .ref (k1)] g M q
theorem kiX7_firstUnit : mj_cV yX7_firstUnit cX7_firstUnit 3 (some .int) 1 := ⟨⟨wd_405, wp_1, wd_8, wd_406⟩, ⟨by decide +kernel, by decide +kernel, by decide +kernel⟩, Nat.le_of_ble_eq_true rfl⟩
def LX7_firstUnit_2 (k0 : Nat) (k1 n1 : Nat) (x2 : Int32) (g : mj_S) (M : mj_M) (q : Int32 → mj_M → Prop) : Prop := ∀ d, 1 ≤ d → ∀ ex : Bool, mj_G mtX7_firstUnit (mj_rm d 0 0) (mj_Fi (mj_qI g q) mj_x0 0 0) ex 0 0 2 [(1, .ref (k1)), (2, .int (x2))] [] g M
theorem eX7_firstUnit {k0 : Nat} {k1 n1 : Nat} {g : mj_S} {M : mj_M} {q : Int32 → mj_M → Prop} (h0 : is7 g k0) (h1 : is0 g k1 n1) (h : LX7_firstUnit_2 k0 k1 n1 (0) g (M) q) : kX7_firstUnit (k0) (k1) g M q := by
  intro d hd; refine mj_enter (by decide +kernel) (Nat.le_of_ble_eq_true rfl) ?_
  generalize (false : Bool) = ex
  show mj_G mtX7_firstUnit (mj_rm d 0 0) (mj_Fi (mj_qI g q) mj_x0 0 0) ex 0 0 0 [(0, .ref (k0)), (1, .ref (k1))] [] g M
  refine mg_iconst (v := 0) dX7_firstUnit_0 (by decide) ?_
  refine mg_istore_n (ls' := [(2, .int (0)), (0, .ref (k0)), (1, .ref (k1))]) dX7_firstUnit_1 rfl (Nat.le_of_ble_eq_true rfl) rfl ?_
  exact mg_pick [2, 0] rfl (h d hd ex)
theorem bX7_firstUnit_2 {k0 : Nat} {k1 n1 : Nat} {x2 : Int32} {g : mj_S} {M : mj_M} {q : Int32 → mj_M → Prop} (h0 : is7 g k0) (h1 : is0 g k1 n1) (h : ∃ (q1 : Int32 → mj_M → Prop), kX0_size (k1) g (M) q1 ∧ ∀ (v1 : Int32) (M1 : mj_M), q1 v1 M1 → (((v1 : Int32) ≤ (x2) → q ((-1)) (M1)) ∧ (¬ (v1 : Int32) ≤ (x2) → ∃ (q2 : Int32 → mj_M → Prop), kX0_at (k1) (x2) g (M1) q2 ∧ ∀ (v2 : Int32) (M2 : mj_M), q2 v2 M2 → (∃ (q3 : Int32 → mj_M → Prop), kJ6_bitCount_0f7a4 (v2) g (M2) q3 ∧ ∀ (v3 : Int32) (M3 : mj_M), q3 v3 M3 → ((¬ (v3 : Int32) = (1 : Int32) → LX7_firstUnit_2 k0 k1 n1 (x2 + 1) g (M3) q) ∧ ((v3 : Int32) = (1 : Int32) → ∃ (q4 : Int32 → mj_M → Prop), kX0_at (k1) (x2) g (M3) q4 ∧ ∀ (v4 : Int32) (M4 : mj_M), q4 v4 M4 → (∃ (q5 : Int32 → mj_M → Prop), kJ6_numberOfTrailingZeros_0f7a4 (v4) g (M4) q5 ∧ ∀ (v5 : Int32) (M5 : mj_M), q5 v5 M5 → (q (v5) (M5))))))))) : LX7_firstUnit_2 k0 k1 n1 x2 g M q := by
  intro d hd ex
  refine mg_iload_n dX7_firstUnit_2 rfl 1 rfl ?_
  refine mg_aload_n dX7_firstUnit_3 rfl 0 rfl ?_
  obtain ⟨q1, hC, hk⟩ := h
  refine mc_Vi [] [.int (x2)] dX7_firstUnit_4 wd_407 kiX0_size (Nat.le_of_ble_eq_true rfl) h1.1.1 h1.1.2 rfl (Nat.le_trans (Nat.le_of_ble_eq_true rfl) hd) hC (fun v1 M1 hq => ?_)
  replace h := hk v1 M1 hq
  refine mg_icmp_ge (tgt := 37) dX7_firstUnit_7 (by decide) (fun hc => ?_) (fun hc => ?_)
  · replace h := h.1 hc
    refine mg_iconst (v := (-1)) dX7_firstUnit_37 (by decide) ?_
    exact me_i dX7_firstUnit_38 rfl h
  · replace h := h.2 hc
    refine mg_aload_n dX7_firstUnit_10 rfl 0 rfl ?_
    refine mg_iload_n dX7_firstUnit_11 rfl 1 rfl ?_
    obtain ⟨q2, hC, hk⟩ := h
    refine mc_Vi [.int (x2)] [] dX7_firstUnit_12 wd_408 kiX0_at (Nat.le_of_ble_eq_true rfl) h1.1.1 h1.1.2 rfl (Nat.le_trans (Nat.le_of_ble_eq_true rfl) hd) hC (fun v2 M2 hq => ?_)
    replace h := hk v2 M2 hq
    obtain ⟨q3, hC, hk⟩ := h
    refine mc_Si [.int (v2)] [] dX7_firstUnit_15 wd_409 kiJ6_bitCount_0f7a4 (Nat.le_of_ble_eq_true rfl) (Nat.le_trans (Nat.le_of_ble_eq_true rfl) hd) hC (fun v3 M3 hq => ?_)
    replace h := hk v3 M3 hq
    refine mg_iconst (v := 1) dX7_firstUnit_18 (by decide) ?_
    refine mg_icmp_ne (tgt := 31) dX7_firstUnit_19 (by decide) (fun hc => ?_) (fun hc => ?_)
    · replace h := h.1 hc
      refine mg_iinc (v := x2 + 1) (ls' := [(2, .int (x2 + 1)), (1, .ref (k1))]) dX7_firstUnit_31 1 rfl rfl (Nat.le_of_ble_eq_true rfl) rfl ?_
      refine mg_goto (tgt := 2) dX7_firstUnit_34 (by decide) ?_
      exact mg_pick [1, 0] rfl (h d hd ex)
    · replace h := h.2 hc
      refine mg_aload_n dX7_firstUnit_22 rfl 0 rfl ?_
      refine mg_iload_n dX7_firstUnit_23 rfl 1 rfl ?_
      obtain ⟨q4, hC, hk⟩ := h
      refine mc_Vi [.int (x2)] [] dX7_firstUnit_24 wd_408 kiX0_at (Nat.le_of_ble_eq_true rfl) h1.1.1 h1.1.2 rfl (Nat.le_trans (Nat.le_of_ble_eq_true rfl) hd) hC (fun v4 M4 hq => ?_)
      replace h := hk v4 M4 hq
      obtain ⟨q5, hC, hk⟩ := h
      refine mc_Si [.int (v4)] [] dX7_firstUnit_27 wd_410 kiJ6_numberOfTrailingZeros_0f7a4 (Nat.le_of_ble_eq_true rfl) (Nat.le_trans (Nat.le_of_ble_eq_true rfl) hd) hC (fun v5 M5 hq => ?_)
      replace h := hk v5 M5 hq
      exact me_i dX7_firstUnit_30 rfl h
theorem dX7_fixUnits_0 : decode cX7_fixUnits 0 = .ok (.iconst 0, 1) := by decide +kernel
theorem dX7_fixUnits_1 : decode cX7_fixUnits 1 = .ok (.istore_n 2, 1) := by decide +kernel
theorem dX7_fixUnits_2 : decode cX7_fixUnits 2 = .ok (.iconst 0, 1) := by decide +kernel
theorem dX7_fixUnits_3 : decode cX7_fixUnits 3 = .ok (.istore_n 3, 1) := by decide +kernel
theorem dX7_fixUnits_4 : decode cX7_fixUnits 4 = .ok (.iload_n 3, 1) := by decide +kernel
theorem dX7_fixUnits_5 : decode cX7_fixUnits 5 = .ok (.ldc 80, 2) := by decide +kernel
theorem dX7_fixUnits_7 : decode cX7_fixUnits 7 = .ok (.if_icmp .ge 36, 3) := by decide +kernel
theorem dX7_fixUnits_10 : decode cX7_fixUnits 10 = .ok (.aload_n 0, 1) := by decide +kernel
theorem dX7_fixUnits_11 : decode cX7_fixUnits 11 = .ok (.aload_n 1, 1) := by decide +kernel
theorem dX7_fixUnits_12 : decode cX7_fixUnits 12 = .ok (.getfield 32, 3) := by decide +kernel
theorem dX7_fixUnits_15 : decode cX7_fixUnits 15 = .ok (.invokevirtual 81, 3) := by decide +kernel
theorem dX7_fixUnits_18 : decode cX7_fixUnits 18 = .ok (.istore 4, 2) := by decide +kernel
theorem dX7_fixUnits_20 : decode cX7_fixUnits 20 = .ok (.iload 4, 2) := by decide +kernel
theorem dX7_fixUnits_22 : decode cX7_fixUnits 22 = .ok (.iconst (-1), 1) := by decide +kernel
theorem dX7_fixUnits_23 : decode cX7_fixUnits 23 = .ok (.if_icmp .ne 5, 3) := by decide +kernel
theorem dX7_fixUnits_26 : decode cX7_fixUnits 26 = .ok (.iload_n 2, 1) := by decide +kernel
theorem dX7_fixUnits_27 : decode cX7_fixUnits 27 = .ok (.ireturn, 1) := by decide +kernel
theorem dX7_fixUnits_28 : decode cX7_fixUnits 28 = .ok (.aload_n 1, 1) := by decide +kernel
theorem dX7_fixUnits_29 : decode cX7_fixUnits 29 = .ok (.iload 4, 2) := by decide +kernel
theorem dX7_fixUnits_31 : decode cX7_fixUnits 31 = .ok (.invokevirtual 84, 3) := by decide +kernel
theorem dX7_fixUnits_34 : decode cX7_fixUnits 34 = .ok (.iinc 2 1, 3) := by decide +kernel
theorem dX7_fixUnits_37 : decode cX7_fixUnits 37 = .ok (.iinc 3 1, 3) := by decide +kernel
theorem dX7_fixUnits_40 : decode cX7_fixUnits 40 = .ok (.goto (-36), 3) := by decide +kernel
theorem dX7_fixUnits_43 : decode cX7_fixUnits 43 = .ok (.iload_n 2, 1) := by decide +kernel
theorem dX7_fixUnits_44 : decode cX7_fixUnits 44 = .ok (.ireturn, 1) := by decide +kernel
abbrev mtX7_fixUnits : mj_T := (yX7_fixUnits.cls, cX7_fixUnits, 5, (some .int), mj_no, yX7_fixUnits.name)
abbrev kX7_fixUnits (k0 : Nat) (k1 : Nat) (g : mj_S) (M : mj_M) (q : Int32 → mj_M → Prop) : Prop := mj_CI yX7_fixUnits (.code yX7_fixUnits cX7_fixUnits 5 (some .int)) 3 [.ref (k0), .ref (k1)] g M q
theorem kiX7_fixUnits : mj_cV yX7_fixUnits cX7_fixUnits 5 (some .int) 1 := ⟨⟨wd_400, wp_0, wd_8, wd_401⟩, ⟨by decide +kernel, by decide +kernel, by decide +kernel⟩, Nat.le_of_ble_eq_true rfl⟩
def LX7_fixUnits_4 (k0 : Nat) (k1 : Nat) (x2 : Int32) (x3 : Int32) (g : mj_S) (M : mj_M) (q : Int32 → mj_M → Prop) : Prop := ∀ d, 3 ≤ d → ∀ ex : Bool, mj_G mtX7_fixUnits (mj_rm d 0 0) (mj_Fi (mj_qI g q) mj_x0 0 0) ex 0 0 4 [(0, .ref (k0)), (1, .ref (k1)), (2, .int (x2)), (3, .int (x3))] [] g M
theorem eX7_fixUnits {k0 : Nat} {k1 : Nat} {g : mj_S} {M : mj_M} {q : Int32 → mj_M → Prop} (h0 : is7 g k0) (h1 : is6 g k1) (h : LX7_fixUnits_4 k0 k1 (0) (0) g (M) q) : kX7_fixUnits (k0) (k1) g M q := by
  intro d hd; refine mj_enter (by decide +kernel) (Nat.le_of_ble_eq_true rfl) ?_
  generalize (false : Bool) = ex
  show mj_G mtX7_fixUnits (mj_rm d 0 0) (mj_Fi (mj_qI g q) mj_x0 0 0) ex 0 0 0 [(0, .ref (k0)), (1, .ref (k1))] [] g M
  refine mg_iconst (v := 0) dX7_fixUnits_0 (by decide) ?_
  refine mg_istore_n (ls' := [(2, .int (0)), (0, .ref (k0)), (1, .ref (k1))]) dX7_fixUnits_1 rfl (Nat.le_of_ble_eq_true rfl) rfl ?_
  refine mg_iconst (v := 0) dX7_fixUnits_2 (by decide) ?_
  refine mg_istore_n (ls' := [(3, .int (0)), (2, .int (0)), (0, .ref (k0)), (1, .ref (k1))]) dX7_fixUnits_3 rfl (Nat.le_of_ble_eq_true rfl) rfl ?_
  exact mg_pick [2, 3, 1, 0] rfl (h d hd ex)
theorem bX7_fixUnits_4 {k0 : Nat} {k1 : Nat} {x2 : Int32} {x3 : Int32} {g : mj_S} {M : mj_M} {q : Int32 → mj_M → Prop} (h0 : is7 g k0) (h1 : is6 g k1) (h : ((1000000 : Int32) ≤ (x3) → q (x2) (M)) ∧ (¬ (1000000 : Int32) ≤ (x3) → ∃ (q1 : Int32 → mj_M → Prop), kX7_firstUnit (k0) (k1 + 1) g (M) q1 ∧ ∀ (v1 : Int32) (M1 : mj_M), q1 v1 M1 → ((¬ (v1 : Int32) = (-1 : Int32) → ∃ (q2 : mj_M → Prop), kX6_fix (k1) (v1) g (M1) q2 ∧ ∀ (M2 : mj_M), q2 M2 → (LX7_fixUnits_4 k0 k1 (x2 + 1) (x3 + 1) g (M2) q)) ∧ ((v1 : Int32) = (-1 : Int32) → q (x2) (M1))))) : LX7_fixUnits_4 k0 k1 x2 x3 g M q := by
  intro d hd ex
  refine mg_iload_n dX7_fixUnits_4 rfl 3 rfl ?_
  refine mg_ldc (v := 1000000) dX7_fixUnits_5 wd_402 ?_
  refine mg_icmp_ge (tgt := 43) dX7_fixUnits_7 (by decide) (fun hc => ?_) (fun hc => ?_)
  · replace h := h.1 hc
    refine mg_iload_n dX7_fixUnits_43 rfl 2 rfl ?_
    exact me_i dX7_fixUnits_44 rfl h
  · replace h := h.2 hc
    refine mg_aload_n dX7_fixUnits_10 rfl 0 rfl ?_
    refine mg_aload_n dX7_fixUnits_11 rfl 1 rfl ?_
    refine mg_getR (j := 3) dX7_fixUnits_12 kc_6 (Nat.le_of_ble_eq_true rfl) wd_74 rfl rfl h1.1.1 h1.1.2 h1.2.1.1 ?_
    obtain ⟨q1, hC, hk⟩ := h
    refine mc_Vi [.ref (k1 + 1)] [] dX7_fixUnits_15 wd_403 kiX7_firstUnit (Nat.le_of_ble_eq_true rfl) h0.1.1 h0.1.2 rfl (Nat.le_trans (Nat.le_of_ble_eq_true rfl) hd) hC (fun v1 M1 hq => ?_)
    replace h := hk v1 M1 hq
    refine mg_istore (ls' := [(4, .int (v1)), (0, .ref (k0)), (1, .ref (k1)), (2, .int (x2)), (3, .int (x3))]) dX7_fixUnits_18 (Nat.le_of_ble_eq_true rfl) rfl ?_
    refine mg_iload dX7_fixUnits_20 0 rfl ?_
    refine mg_iconst (v := (-1)) dX7_fixUnits_22 (by decide) ?_
    refine mg_icmp_ne (tgt := 28) dX7_fixUnits_23 (by decide) (fun hc => ?_) (fun hc => ?_)
    · replace h := h.1 hc
      refine mg_aload_n dX7_fixUnits_28 rfl 2 rfl ?_
      refine mg_iload dX7_fixUnits_29 0 rfl ?_
      obtain ⟨q2, hC, hk⟩ := h
      refine mc_Vv [.int (v1)] [] dX7_fixUnits_31 wd_414 kiX6_fix (Nat.le_of_ble_eq_true rfl) h1.1.1 h1.1.2 rfl (Nat.le_trans (Nat.le_of_ble_eq_true rfl) hd) hC (fun M2 hq => ?_)
      replace h := hk M2 hq
      refine mg_iinc (v := x2 + 1) (ls' := [(2, .int (x2 + 1)), (4, .int (v1)), (0, .ref (k0)), (1, .ref (k1)), (3, .int (x3))]) dX7_fixUnits_34 3 rfl rfl (Nat.le_of_ble_eq_true rfl) rfl ?_
      refine mg_iinc (v := x3 + 1) (ls' := [(3, .int (x3 + 1)), (2, .int (x2 + 1)), (4, .int (v1)), (0, .ref (k0)), (1, .ref (k1))]) dX7_fixUnits_37 4 rfl rfl (Nat.le_of_ble_eq_true rfl) rfl ?_
      refine mg_goto (tgt := 4) dX7_fixUnits_40 (by decide) ?_
      exact mg_pick [3, 4, 1, 0] rfl (h d hd ex)
    · replace h := h.2 hc
      refine mg_iload_n dX7_fixUnits_26 rfl 3 rfl ?_
      exact me_i dX7_fixUnits_27 rfl h
theorem dX7_lowestPureLiteral_0 : decode cX7_lowestPureLiteral 0 = .ok (.iconst 0, 1) := by decide +kernel
theorem dX7_lowestPureLiteral_1 : decode cX7_lowestPureLiteral 1 = .ok (.istore_n 2, 1) := by decide +kernel
theorem dX7_lowestPureLiteral_2 : decode cX7_lowestPureLiteral 2 = .ok (.iconst 0, 1) := by decide +kernel
theorem dX7_lowestPureLiteral_3 : decode cX7_lowestPureLiteral 3 = .ok (.istore_n 3, 1) := by decide +kernel
theorem dX7_lowestPureLiteral_4 : decode cX7_lowestPureLiteral 4 = .ok (.iload_n 3, 1) := by decide +kernel
theorem dX7_lowestPureLiteral_5 : decode cX7_lowestPureLiteral 5 = .ok (.aload_n 1, 1) := by decide +kernel
theorem dX7_lowestPureLiteral_6 : decode cX7_lowestPureLiteral 6 = .ok (.getfield 32, 3) := by decide +kernel
theorem dX7_lowestPureLiteral_9 : decode cX7_lowestPureLiteral 9 = .ok (.invokevirtual 88, 3) := by decide +kernel
theorem dX7_lowestPureLiteral_12 : decode cX7_lowestPureLiteral 12 = .ok (.if_icmp .ge 20, 3) := by decide +kernel
theorem dX7_lowestPureLiteral_15 : decode cX7_lowestPureLiteral 15 = .ok (.iload_n 2, 1) := by decide +kernel
theorem dX7_lowestPureLiteral_16 : decode cX7_lowestPureLiteral 16 = .ok (.aload_n 1, 1) := by decide +kernel
theorem dX7_lowestPureLiteral_17 : decode cX7_lowestPureLiteral 17 = .ok (.getfield 32, 3) := by decide +kernel
theorem dX7_lowestPureLiteral_20 : decode cX7_lowestPureLiteral 20 = .ok (.iload_n 3, 1) := by decide +kernel
theorem dX7_lowestPureLiteral_21 : decode cX7_lowestPureLiteral 21 = .ok (.invokevirtual 92, 3) := by decide +kernel
theorem dX7_lowestPureLiteral_24 : decode cX7_lowestPureLiteral 24 = .ok (.ior, 1) := by decide +kernel
theorem dX7_lowestPureLiteral_25 : decode cX7_lowestPureLiteral 25 = .ok (.istore_n 2, 1) := by decide +kernel
theorem dX7_lowestPureLiteral_26 : decode cX7_lowestPureLiteral 26 = .ok (.iinc 3 1, 3) := by decide +kernel
theorem dX7_lowestPureLiteral_29 : decode cX7_lowestPureLiteral 29 = .ok (.goto (-25), 3) := by decide +kernel
theorem dX7_lowestPureLiteral_32 : decode cX7_lowestPureLiteral 32 = .ok (.iconst 0, 1) := by decide +kernel
theorem dX7_lowestPureLiteral_33 : decode cX7_lowestPureLiteral 33 = .ok (.istore_n 3, 1) := by decide +kernel
theorem dX7_lowestPureLiteral_34 : decode cX7_lowestPureLiteral 34 = .ok (.iload_n 3, 1) := by decide +kernel
theorem dX7_lowestPureLiteral_35 : decode cX7_lowestPureLiteral 35 = .ok (.iconst 2, 1) := by decide +kernel
theorem dX7_lowestPureLiteral_36 : decode cX7_lowestPureLiteral 36 = .ok (.aload_n 1, 1) := by decide +kernel
theorem dX7_lowestPureLiteral_37 : decode cX7_lowestPureLiteral 37 = .ok (.getfield 107, 3) := by decide +kernel
theorem dX7_lowestPureLiteral_40 : decode cX7_lowestPureLiteral 40 = .ok (.imul, 1) := by decide +kernel
theorem dX7_lowestPureLiteral_41 : decode cX7_lowestPureLiteral 41 = .ok (.if_icmp .ge 39, 3) := by decide +kernel
theorem dX7_lowestPureLiteral_44 : decode cX7_lowestPureLiteral 44 = .ok (.aload_n 1, 1) := by decide +kernel
theorem dX7_lowestPureLiteral_45 : decode cX7_lowestPureLiteral 45 = .ok (.iload_n 3, 1) := by decide +kernel
theorem dX7_lowestPureLiteral_46 : decode cX7_lowestPureLiteral 46 = .ok (.iconst 1, 1) := by decide +kernel
theorem dX7_lowestPureLiteral_47 : decode cX7_lowestPureLiteral 47 = .ok (.ishr, 1) := by decide +kernel
theorem dX7_lowestPureLiteral_48 : decode cX7_lowestPureLiteral 48 = .ok (.invokevirtual 111, 3) := by decide +kernel
theorem dX7_lowestPureLiteral_51 : decode cX7_lowestPureLiteral 51 = .ok (.ifCond .eq 23, 3) := by decide +kernel
theorem dX7_lowestPureLiteral_54 : decode cX7_lowestPureLiteral 54 = .ok (.iload_n 2, 1) := by decide +kernel
theorem dX7_lowestPureLiteral_55 : decode cX7_lowestPureLiteral 55 = .ok (.iload_n 3, 1) := by decide +kernel
theorem dX7_lowestPureLiteral_56 : decode cX7_lowestPureLiteral 56 = .ok (.invokestatic 115, 3) := by decide +kernel
theorem dX7_lowestPureLiteral_59 : decode cX7_lowestPureLiteral 59 = .ok (.ifCond .eq 15, 3) := by decide +kernel
theorem dX7_lowestPureLiteral_62 : decode cX7_lowestPureLiteral 62 = .ok (.iload_n 2, 1) := by decide +kernel
theorem dX7_lowestPureLiteral_63 : decode cX7_lowestPureLiteral 63 = .ok (.iload_n 3, 1) := by decide +kernel
theorem dX7_lowestPureLiteral_64 : decode cX7_lowestPureLiteral 64 = .ok (.iconst 1, 1) := by decide +kernel
theorem dX7_lowestPureLiteral_65 : decode cX7_lowestPureLiteral 65 = .ok (.ixor, 1) := by decide +kernel
theorem dX7_lowestPureLiteral_66 : decode cX7_lowestPureLiteral 66 = .ok (.invokestatic 115, 3) := by decide +kernel
theorem dX7_lowestPureLiteral_69 : decode cX7_lowestPureLiteral 69 = .ok (.ifCond .ne 5, 3) := by decide +kernel
theorem dX7_lowestPureLiteral_72 : decode cX7_lowestPureLiteral 72 = .ok (.iload_n 3, 1) := by decide +kernel
theorem dX7_lowestPureLiteral_73 : decode cX7_lowestPureLiteral 73 = .ok (.ireturn, 1) := by decide +kernel
theorem dX7_lowestPureLiteral_74 : decode cX7_lowestPureLiteral 74 = .ok (.iinc 3 1, 3) := by decide +kernel
theorem dX7_lowestPureLiteral_77 : decode cX7_lowestPureLiteral 77 = .ok (.goto (-43), 3) := by decide +kernel
theorem dX7_lowestPureLiteral_80 : decode cX7_lowestPureLiteral 80 = .ok (.iconst (-1), 1) := by decide +kernel
theorem dX7_lowestPureLiteral_81 : decode cX7_lowestPureLiteral 81 = .ok (.ireturn, 1) := by decide +kernel
abbrev mtX7_lowestPureLiteral : mj_T := (yX7_lowestPureLiteral.cls, cX7_lowestPureLiteral, 4, (some .int), mj_no, yX7_lowestPureLiteral.name)
abbrev kX7_lowestPureLiteral (k0 : Nat) (k1 : Nat) (g : mj_S) (M : mj_M) (q : Int32 → mj_M → Prop) : Prop := mj_CI yX7_lowestPureLiteral (.code yX7_lowestPureLiteral cX7_lowestPureLiteral 4 (some .int)) 2 [.ref (k0), .ref (k1)] g M q
theorem kiX7_lowestPureLiteral : mj_cV yX7_lowestPureLiteral cX7_lowestPureLiteral 4 (some .int) 1 := ⟨⟨wd_440, wp_3, wd_8, wd_441⟩, ⟨by decide +kernel, by decide +kernel, by decide +kernel⟩, Nat.le_of_ble_eq_true rfl⟩
def LX7_lowestPureLiteral_4 (k0 : Nat) (k1 : Nat) (x2 : Int32) (x3 : Int32) (g : mj_S) (M : mj_M) (q : Int32 → mj_M → Prop) : Prop := ∀ d, 2 ≤ d → ∀ ex : Bool, mj_G mtX7_lowestPureLiteral (mj_rm d 0 0) (mj_Fi (mj_qI g q) mj_x0 0 0) ex 0 0 4 [(1, .ref (k1)), (2, .int (x2)), (3, .int (x3))] [] g M
def LX7_lowestPureLiteral_34 (k0 : Nat) (k1 : Nat) (x2 : Int32) (x3 : Int32) (g : mj_S) (M : mj_M) (q : Int32 → mj_M → Prop) : Prop := ∀ d, 2 ≤ d → ∀ ex : Bool, mj_G mtX7_lowestPureLiteral (mj_rm d 0 0) (mj_Fi (mj_qI g q) mj_x0 0 0) ex 0 0 34 [(1, .ref (k1)), (2, .int (x2)), (3, .int (x3))] [] g M
theorem eX7_lowestPureLiteral {k0 : Nat} {k1 : Nat} {g : mj_S} {M : mj_M} {q : Int32 → mj_M → Prop} (h0 : is7 g k0) (h1 : is6 g k1) (h : LX7_lowestPureLiteral_4 k0 k1 (0) (0) g (M) q) : kX7_lowestPureLiteral (k0) (k1) g M q := by
  intro d hd; refine mj_enter (by decide +kernel) (Nat.le_of_ble_eq_true rfl) ?_
  generalize (false : Bool) = ex
  show mj_G mtX7_lowestPureLiteral (mj_rm d 0 0) (mj_Fi (mj_qI g q) mj_x0 0 0) ex 0 0 0 [(0, .ref (k0)), (1, .ref (k1))] [] g M
  refine mg_iconst (v := 0) dX7_lowestPureLiteral_0 (by decide) ?_
  refine mg_istore_n (ls' := [(2, .int (0)), (0, .ref (k0)), (1, .ref (k1))]) dX7_lowestPureLiteral_1 rfl (Nat.le_of_ble_eq_true rfl) rfl ?_
  refine mg_iconst (v := 0) dX7_lowestPureLiteral_2 (by decide) ?_
  refine mg_istore_n (ls' := [(3, .int (0)), (2, .int (0)), (0, .ref (k0)), (1, .ref (k1))]) dX7_lowestPureLiteral_3 rfl (Nat.le_of_ble_eq_true rfl) rfl ?_
  exact mg_pick [3, 1, 0] rfl (h d hd ex)
theorem bX7_lowestPureLiteral_4 {k0 : Nat} {k1 : Nat} {x2 : Int32} {x3 : Int32} {g : mj_S} {M : mj_M} {q : Int32 → mj_M → Prop} (h0 : is7 g k0) (h1 : is6 g k1) (h : ∃ (q1 : Int32 → mj_M → Prop), kX0_size (k1 + 1) g (M) q1 ∧ ∀ (v1 : Int32) (M1 : mj_M), q1 v1 M1 → (((v1 : Int32) ≤ (x3) → LX7_lowestPureLiteral_34 k0 k1 (x2) (0) g (M1) q) ∧ (¬ (v1 : Int32) ≤ (x3) → ∃ (q2 : Int32 → mj_M → Prop), kX0_at (k1 + 1) (x3) g (M1) q2 ∧ ∀ (v2 : Int32) (M2 : mj_M), q2 v2 M2 → (LX7_lowestPureLiteral_4 k0 k1 ((x2) ||| (v2)) (x3 + 1) g (M2) q)))) : LX7_lowestPureLiteral_4 k0 k1 x2 x3 g M q := by
  intro d hd ex
  refine mg_iload_n dX7_lowestPureLiteral_4 rfl 2 rfl ?_
  refine mg_aload_n dX7_lowestPureLiteral_5 rfl 0 rfl ?_
  refine mg_getR (j := 3) dX7_lowestPureLiteral_6 kc_6 (Nat.le_of_ble_eq_true rfl) wd_74 rfl rfl h1.1.1 h1.1.2 h1.2.1.1 ?_
  obtain ⟨q1, hC, hk⟩ := h
  refine mc_Vi [] [.int (x3)] dX7_lowestPureLiteral_9 wd_407 kiX0_size (Nat.le_of_ble_eq_true rfl) h1.2.1.2.1.1 h1.2.1.2.1.2 rfl (Nat.le_trans (Nat.le_of_ble_eq_true rfl) hd) hC (fun v1 M1 hq => ?_)
  replace h := hk v1 M1 hq
  refine mg_icmp_ge (tgt := 32) dX7_lowestPureLiteral_12 (by decide) (fun hc => ?_) (fun hc => ?_)
  · replace h := h.1 hc
    refine mg_iconst (v := 0) dX7_lowestPureLiteral_32 (by decide) ?_
    refine mg_istore_n (ls' := [(3, .int (0)), (1, .ref (k1)), (2, .int (x2))]) dX7_lowestPureLiteral_33 rfl (Nat.le_of_ble_eq_true rfl) rfl ?_
    exact mg_pick [1, 2, 0] rfl (h d hd ex)
  · replace h := h.2 hc
    refine mg_iload_n dX7_lowestPureLiteral_15 rfl 1 rfl ?_
    refine mg_aload_n dX7_lowestPureLiteral_16 rfl 0 rfl ?_
    refine mg_getR (j := 3) dX7_lowestPureLiteral_17 kc_6 (Nat.le_of_ble_eq_true rfl) wd_74 rfl rfl h1.1.1 h1.1.2 h1.2.1.1 ?_
    refine mg_iload_n dX7_lowestPureLiteral_20 rfl 2 rfl ?_
    obtain ⟨q2, hC, hk⟩ := h
    refine mc_Vi [.int (x3)] [.int (x2)] dX7_lowestPureLiteral_21 wd_408 kiX0_at (Nat.le_of_ble_eq_true rfl) h1.2.1.2.1.1 h1.2.1.2.1.2 rfl (Nat.le_trans (Nat.le_of_ble_eq_true rfl) hd) hC (fun v2 M2 hq => ?_)
    replace h := hk v2 M2 hq
    refine mg_ior dX7_lowestPureLiteral_24 ?_
    refine mg_istore_n (ls' := [(2, .int ((x2) ||| (v2))), (1, .ref (k1)), (3, .int (x3))]) dX7_lowestPureLiteral_25 rfl (Nat.le_of_ble_eq_true rfl) rfl ?_
    refine mg_iinc (v := x3 + 1) (ls' := [(3, .int (x3 + 1)), (2, .int ((x2) ||| (v2))), (1, .ref (k1))]) dX7_lowestPureLiteral_26 2 rfl rfl (Nat.le_of_ble_eq_true rfl) rfl ?_
    refine mg_goto (tgt := 4) dX7_lowestPureLiteral_29 (by decide) ?_
    exact mg_pick [2, 1, 0] rfl (h d hd ex)
theorem bX7_lowestPureLiteral_34 {k0 : Nat} {k1 : Nat} {x2 : Int32} {x3 : Int32} {g : mj_S} {M : mj_M} {q : Int32 → mj_M → Prop} (h0 : is7 g k0) (h1 : is6 g k1) (h : (((2 : Int32) * ((M).1 (k1) 0) : Int32) ≤ (x3) → q ((-1)) (M)) ∧ (¬ ((2 : Int32) * ((M).1 (k1) 0) : Int32) ≤ (x3) → ∃ (q1 : Int32 → mj_M → Prop), kX6_isActive (k1) ((x3) >>> ((1 : Int32) &&& 31)) g (M) q1 ∧ ∀ (v1 : Int32) (M1 : mj_M), q1 v1 M1 → (((v1 : Int32) = 0 → LX7_lowestPureLiteral_34 k0 k1 (x2) (x3 + 1) g (M1) q) ∧ (¬ (v1 : Int32) = 0 → ∃ (q2 : Int32 → mj_M → Prop), kX9_contains (x2) (x3) g (M1) q2 ∧ ∀ (v2 : Int32) (M2 : mj_M), q2 v2 M2 → (((v2 : Int32) = 0 → LX7_lowestPureLiteral_34 k0 k1 (x2) (x3 + 1) g (M2) q) ∧ (¬ (v2 : Int32) = 0 → ∃ (q3 : Int32 → mj_M → Prop), kX9_contains (x2) ((x3) ^^^ (1 : Int32)) g (M2) q3 ∧ ∀ (v3 : Int32) (M3 : mj_M), q3 v3 M3 → ((¬ (v3 : Int32) = 0 → LX7_lowestPureLiteral_34 k0 k1 (x2) (x3 + 1) g (M3) q) ∧ ((v3 : Int32) = 0 → q (x3) (M3))))))))) : LX7_lowestPureLiteral_34 k0 k1 x2 x3 g M q := by
  intro d hd ex
  refine mg_iload_n dX7_lowestPureLiteral_34 rfl 2 rfl ?_
  refine mg_iconst (v := 2) dX7_lowestPureLiteral_35 (by decide) ?_
  refine mg_aload_n dX7_lowestPureLiteral_36 rfl 0 rfl ?_
  refine mg_getI (j := 0) dX7_lowestPureLiteral_37 kc_6 (Nat.le_of_ble_eq_true rfl) wd_66 rfl rfl h1.1.1 h1.1.2 rfl ?_
  refine mg_imul dX7_lowestPureLiteral_40 ?_
  refine mg_icmp_ge (tgt := 80) dX7_lowestPureLiteral_41 (by decide) (fun hc => ?_) (fun hc => ?_)
  · replace h := h.1 hc
    refine mg_iconst (v := (-1)) dX7_lowestPureLiteral_80 (by decide) ?_
    exact me_i dX7_lowestPureLiteral_81 rfl h
  · replace h := h.2 hc
    refine mg_aload_n dX7_lowestPureLiteral_44 rfl 0 rfl ?_
    refine mg_iload_n dX7_lowestPureLiteral_45 rfl 2 rfl ?_
    refine mg_iconst (v := 1) dX7_lowestPureLiteral_46 (by decide) ?_
    refine mg_ishr dX7_lowestPureLiteral_47 ?_
    obtain ⟨q1, hC, hk⟩ := h
    refine mc_Vi [.int ((x3) >>> ((1 : Int32) &&& 31))] [] dX7_lowestPureLiteral_48 wd_442 kiX6_isActive (Nat.le_of_ble_eq_true rfl) h1.1.1 h1.1.2 rfl (Nat.le_trans (Nat.le_of_ble_eq_true rfl) hd) hC (fun v1 M1 hq => ?_)
    replace h := hk v1 M1 hq
    refine mg_if_eq (tgt := 74) dX7_lowestPureLiteral_51 (by decide) (fun hc => ?_) (fun hc => ?_)
    · replace h := h.1 hc
      refine mg_iinc (v := x3 + 1) (ls' := [(3, .int (x3 + 1)), (1, .ref (k1)), (2, .int (x2))]) dX7_lowestPureLiteral_74 2 rfl rfl (Nat.le_of_ble_eq_true rfl) rfl ?_
      refine mg_goto (tgt := 34) dX7_lowestPureLiteral_77 (by decide) ?_
      exact mg_pick [1, 2, 0] rfl (h d hd ex)
    · replace h := h.2 hc
      refine mg_iload_n dX7_lowestPureLiteral_54 rfl 1 rfl ?_
      refine mg_iload_n dX7_lowestPureLiteral_55 rfl 2 rfl ?_
      obtain ⟨q2, hC, hk⟩ := h
      refine mc_Ni [.int (x2), .int (x3)] [] 8 dX7_lowestPureLiteral_56 rfl kiX9_contains (Nat.le_of_ble_eq_true rfl) (Nat.le_trans (Nat.le_of_ble_eq_true rfl) hd) hC (fun v2 M2 hq => ?_)
      replace h := hk v2 M2 hq
      refine mg_if_eq (tgt := 74) dX7_lowestPureLiteral_59 (by decide) (fun hc => ?_) (fun hc => ?_)
      · replace h := h.1 hc
        refine mg_iinc (v := x3 + 1) (ls' := [(3, .int (x3 + 1)), (1, .ref (k1)), (2, .int (x2))]) dX7_lowestPureLiteral_74 2 rfl rfl (Nat.le_of_ble_eq_true rfl) rfl ?_
        refine mg_goto (tgt := 34) dX7_lowestPureLiteral_77 (by decide) ?_
        exact mg_pick [1, 2, 0] rfl (h d hd ex)
      · replace h := h.2 hc
        refine mg_iload_n dX7_lowestPureLiteral_62 rfl 1 rfl ?_
        refine mg_iload_n dX7_lowestPureLiteral_63 rfl 2 rfl ?_
        refine mg_iconst (v := 1) dX7_lowestPureLiteral_64 (by decide) ?_
        refine mg_ixor dX7_lowestPureLiteral_65 ?_
        obtain ⟨q3, hC, hk⟩ := h
        refine mc_Ni [.int (x2), .int ((x3) ^^^ (1 : Int32))] [] 8 dX7_lowestPureLiteral_66 rfl kiX9_contains (Nat.le_of_ble_eq_true rfl) (Nat.le_trans (Nat.le_of_ble_eq_true rfl) hd) hC (fun v3 M3 hq => ?_)
        replace h := hk v3 M3 hq
        refine mg_if_ne (tgt := 74) dX7_lowestPureLiteral_69 (by decide) (fun hc => ?_) (fun hc => ?_)
        · replace h := h.1 hc
          refine mg_iinc (v := x3 + 1) (ls' := [(3, .int (x3 + 1)), (1, .ref (k1)), (2, .int (x2))]) dX7_lowestPureLiteral_74 2 rfl rfl (Nat.le_of_ble_eq_true rfl) rfl ?_
          refine mg_goto (tgt := 34) dX7_lowestPureLiteral_77 (by decide) ?_
          exact mg_pick [1, 2, 0] rfl (h d hd ex)
        · replace h := h.2 hc
          refine mg_iload_n dX7_lowestPureLiteral_72 rfl 2 rfl ?_
          exact me_i dX7_lowestPureLiteral_73 rfl h
theorem dX7_fixPureLiterals_0 : decode cX7_fixPureLiterals 0 = .ok (.iconst 0, 1) := by decide +kernel
theorem dX7_fixPureLiterals_1 : decode cX7_fixPureLiterals 1 = .ok (.istore_n 2, 1) := by decide +kernel
theorem dX7_fixPureLiterals_2 : decode cX7_fixPureLiterals 2 = .ok (.iconst 0, 1) := by decide +kernel
theorem dX7_fixPureLiterals_3 : decode cX7_fixPureLiterals 3 = .ok (.istore_n 3, 1) := by decide +kernel
theorem dX7_fixPureLiterals_4 : decode cX7_fixPureLiterals 4 = .ok (.iload_n 3, 1) := by decide +kernel
theorem dX7_fixPureLiterals_5 : decode cX7_fixPureLiterals 5 = .ok (.ldc 80, 2) := by decide +kernel
theorem dX7_fixPureLiterals_7 : decode cX7_fixPureLiterals 7 = .ok (.if_icmp .ge 33, 3) := by decide +kernel
theorem dX7_fixPureLiterals_10 : decode cX7_fixPureLiterals 10 = .ok (.aload_n 0, 1) := by decide +kernel
theorem dX7_fixPureLiterals_11 : decode cX7_fixPureLiterals 11 = .ok (.aload_n 1, 1) := by decide +kernel
theorem dX7_fixPureLiterals_12 : decode cX7_fixPureLiterals 12 = .ok (.invokevirtual 104, 3) := by decide +kernel
theorem dX7_fixPureLiterals_15 : decode cX7_fixPureLiterals 15 = .ok (.istore 4, 2) := by decide +kernel
theorem dX7_fixPureLiterals_17 : decode cX7_fixPureLiterals 17 = .ok (.iload 4, 2) := by decide +kernel
theorem dX7_fixPureLiterals_19 : decode cX7_fixPureLiterals 19 = .ok (.iconst (-1), 1) := by decide +kernel
theorem dX7_fixPureLiterals_20 : decode cX7_fixPureLiterals 20 = .ok (.if_icmp .ne 5, 3) := by decide +kernel
theorem dX7_fixPureLiterals_23 : decode cX7_fixPureLiterals 23 = .ok (.iload_n 2, 1) := by decide +kernel
theorem dX7_fixPureLiterals_24 : decode cX7_fixPureLiterals 24 = .ok (.ireturn, 1) := by decide +kernel
theorem dX7_fixPureLiterals_25 : decode cX7_fixPureLiterals 25 = .ok (.aload_n 1, 1) := by decide +kernel
theorem dX7_fixPureLiterals_26 : decode cX7_fixPureLiterals 26 = .ok (.iload 4, 2) := by decide +kernel
theorem dX7_fixPureLiterals_28 : decode cX7_fixPureLiterals 28 = .ok (.invokevirtual 84, 3) := by decide +kernel
theorem dX7_fixPureLiterals_31 : decode cX7_fixPureLiterals 31 = .ok (.iinc 2 1, 3) := by decide +kernel
theorem dX7_fixPureLiterals_34 : decode cX7_fixPureLiterals 34 = .ok (.iinc 3 1, 3) := by decide +kernel
theorem dX7_fixPureLiterals_37 : decode cX7_fixPureLiterals 37 = .ok (.goto (-33), 3) := by decide +kernel
theorem dX7_fixPureLiterals_40 : decode cX7_fixPureLiterals 40 = .ok (.iload_n 2, 1) := by decide +kernel
theorem dX7_fixPureLiterals_41 : decode cX7_fixPureLiterals 41 = .ok (.ireturn, 1) := by decide +kernel
abbrev mtX7_fixPureLiterals : mj_T := (yX7_fixPureLiterals.cls, cX7_fixPureLiterals, 5, (some .int), mj_no, yX7_fixPureLiterals.name)
abbrev kX7_fixPureLiterals (k0 : Nat) (k1 : Nat) (g : mj_S) (M : mj_M) (q : Int32 → mj_M → Prop) : Prop := mj_CI yX7_fixPureLiterals (.code yX7_fixPureLiterals cX7_fixPureLiterals 5 (some .int)) 3 [.ref (k0), .ref (k1)] g M q
theorem kiX7_fixPureLiterals : mj_cV yX7_fixPureLiterals cX7_fixPureLiterals 5 (some .int) 1 := ⟨⟨wd_436, wp_2, wd_8, wd_437⟩, ⟨by decide +kernel, by decide +kernel, by decide +kernel⟩, Nat.le_of_ble_eq_true rfl⟩
def LX7_fixPureLiterals_4 (k0 : Nat) (k1 : Nat) (x2 : Int32) (x3 : Int32) (g : mj_S) (M : mj_M) (q : Int32 → mj_M → Prop) : Prop := ∀ d, 3 ≤ d → ∀ ex : Bool, mj_G mtX7_fixPureLiterals (mj_rm d 0 0) (mj_Fi (mj_qI g q) mj_x0 0 0) ex 0 0 4 [(0, .ref (k0)), (1, .ref (k1)), (2, .int (x2)), (3, .int (x3))] [] g M
theorem eX7_fixPureLiterals {k0 : Nat} {k1 : Nat} {g : mj_S} {M : mj_M} {q : Int32 → mj_M → Prop} (h0 : is7 g k0) (h1 : is6 g k1) (h : LX7_fixPureLiterals_4 k0 k1 (0) (0) g (M) q) : kX7_fixPureLiterals (k0) (k1) g M q := by
  intro d hd; refine mj_enter (by decide +kernel) (Nat.le_of_ble_eq_true rfl) ?_
  generalize (false : Bool) = ex
  show mj_G mtX7_fixPureLiterals (mj_rm d 0 0) (mj_Fi (mj_qI g q) mj_x0 0 0) ex 0 0 0 [(0, .ref (k0)), (1, .ref (k1))] [] g M
  refine mg_iconst (v := 0) dX7_fixPureLiterals_0 (by decide) ?_
  refine mg_istore_n (ls' := [(2, .int (0)), (0, .ref (k0)), (1, .ref (k1))]) dX7_fixPureLiterals_1 rfl (Nat.le_of_ble_eq_true rfl) rfl ?_
  refine mg_iconst (v := 0) dX7_fixPureLiterals_2 (by decide) ?_
  refine mg_istore_n (ls' := [(3, .int (0)), (2, .int (0)), (0, .ref (k0)), (1, .ref (k1))]) dX7_fixPureLiterals_3 rfl (Nat.le_of_ble_eq_true rfl) rfl ?_
  exact mg_pick [2, 3, 1, 0] rfl (h d hd ex)
theorem bX7_fixPureLiterals_4 {k0 : Nat} {k1 : Nat} {x2 : Int32} {x3 : Int32} {g : mj_S} {M : mj_M} {q : Int32 → mj_M → Prop} (h0 : is7 g k0) (h1 : is6 g k1) (h : ((1000000 : Int32) ≤ (x3) → q (x2) (M)) ∧ (¬ (1000000 : Int32) ≤ (x3) → ∃ (q1 : Int32 → mj_M → Prop), kX7_lowestPureLiteral (k0) (k1) g (M) q1 ∧ ∀ (v1 : Int32) (M1 : mj_M), q1 v1 M1 → ((¬ (v1 : Int32) = (-1 : Int32) → ∃ (q2 : mj_M → Prop), kX6_fix (k1) (v1) g (M1) q2 ∧ ∀ (M2 : mj_M), q2 M2 → (LX7_fixPureLiterals_4 k0 k1 (x2 + 1) (x3 + 1) g (M2) q)) ∧ ((v1 : Int32) = (-1 : Int32) → q (x2) (M1))))) : LX7_fixPureLiterals_4 k0 k1 x2 x3 g M q := by
  intro d hd ex
  refine mg_iload_n dX7_fixPureLiterals_4 rfl 3 rfl ?_
  refine mg_ldc (v := 1000000) dX7_fixPureLiterals_5 wd_402 ?_
  refine mg_icmp_ge (tgt := 40) dX7_fixPureLiterals_7 (by decide) (fun hc => ?_) (fun hc => ?_)
  · replace h := h.1 hc
    refine mg_iload_n dX7_fixPureLiterals_40 rfl 2 rfl ?_
    exact me_i dX7_fixPureLiterals_41 rfl h
  · replace h := h.2 hc
    refine mg_aload_n dX7_fixPureLiterals_10 rfl 0 rfl ?_
    refine mg_aload_n dX7_fixPureLiterals_11 rfl 1 rfl ?_
    obtain ⟨q1, hC, hk⟩ := h
    refine mc_Vi [.ref (k1)] [] dX7_fixPureLiterals_12 wd_438 kiX7_lowestPureLiteral (Nat.le_of_ble_eq_true rfl) h0.1.1 h0.1.2 rfl (Nat.le_trans (Nat.le_of_ble_eq_true rfl) hd) hC (fun v1 M1 hq => ?_)
    replace h := hk v1 M1 hq
    refine mg_istore (ls' := [(4, .int (v1)), (0, .ref (k0)), (1, .ref (k1)), (2, .int (x2)), (3, .int (x3))]) dX7_fixPureLiterals_15 (Nat.le_of_ble_eq_true rfl) rfl ?_
    refine mg_iload dX7_fixPureLiterals_17 0 rfl ?_
    refine mg_iconst (v := (-1)) dX7_fixPureLiterals_19 (by decide) ?_
    refine mg_icmp_ne (tgt := 25) dX7_fixPureLiterals_20 (by decide) (fun hc => ?_) (fun hc => ?_)
    · replace h := h.1 hc
      refine mg_aload_n dX7_fixPureLiterals_25 rfl 2 rfl ?_
      refine mg_iload dX7_fixPureLiterals_26 0 rfl ?_
      obtain ⟨q2, hC, hk⟩ := h
      refine mc_Vv [.int (v1)] [] dX7_fixPureLiterals_28 wd_414 kiX6_fix (Nat.le_of_ble_eq_true rfl) h1.1.1 h1.1.2 rfl (Nat.le_trans (Nat.le_of_ble_eq_true rfl) hd) hC (fun M2 hq => ?_)
      replace h := hk M2 hq
      refine mg_iinc (v := x2 + 1) (ls' := [(2, .int (x2 + 1)), (4, .int (v1)), (0, .ref (k0)), (1, .ref (k1)), (3, .int (x3))]) dX7_fixPureLiterals_31 3 rfl rfl (Nat.le_of_ble_eq_true rfl) rfl ?_
      refine mg_iinc (v := x3 + 1) (ls' := [(3, .int (x3 + 1)), (2, .int (x2 + 1)), (4, .int (v1)), (0, .ref (k0)), (1, .ref (k1))]) dX7_fixPureLiterals_34 4 rfl rfl (Nat.le_of_ble_eq_true rfl) rfl ?_
      refine mg_goto (tgt := 4) dX7_fixPureLiterals_37 (by decide) ?_
      exact mg_pick [3, 4, 1, 0] rfl (h d hd ex)
    · replace h := h.2 hc
      refine mg_iload_n dX7_fixPureLiterals_23 rfl 3 rfl ?_
      exact me_i dX7_fixPureLiterals_24 rfl h
theorem dX7_isSubsumed_0 : decode cX7_isSubsumed 0 = .ok (.aload_n 1, 1) := by decide +kernel
theorem dX7_isSubsumed_1 : decode cX7_isSubsumed 1 = .ok (.iload_n 2, 1) := by decide +kernel
theorem dX7_isSubsumed_2 : decode cX7_isSubsumed 2 = .ok (.invokevirtual 92, 3) := by decide +kernel
theorem dX7_isSubsumed_5 : decode cX7_isSubsumed 5 = .ok (.istore_n 3, 1) := by decide +kernel
theorem dX7_isSubsumed_6 : decode cX7_isSubsumed 6 = .ok (.iconst 0, 1) := by decide +kernel
theorem dX7_isSubsumed_7 : decode cX7_isSubsumed 7 = .ok (.istore 4, 2) := by decide +kernel
theorem dX7_isSubsumed_9 : decode cX7_isSubsumed 9 = .ok (.iload 4, 2) := by decide +kernel
theorem dX7_isSubsumed_11 : decode cX7_isSubsumed 11 = .ok (.aload_n 1, 1) := by decide +kernel
theorem dX7_isSubsumed_12 : decode cX7_isSubsumed 12 = .ok (.invokevirtual 88, 3) := by decide +kernel
theorem dX7_isSubsumed_15 : decode cX7_isSubsumed 15 = .ok (.if_icmp .ge 52, 3) := by decide +kernel
theorem dX7_isSubsumed_18 : decode cX7_isSubsumed 18 = .ok (.aload_n 1, 1) := by decide +kernel
theorem dX7_isSubsumed_19 : decode cX7_isSubsumed 19 = .ok (.iload 4, 2) := by decide +kernel
theorem dX7_isSubsumed_21 : decode cX7_isSubsumed 21 = .ok (.invokevirtual 92, 3) := by decide +kernel
theorem dX7_isSubsumed_24 : decode cX7_isSubsumed 24 = .ok (.istore 5, 2) := by decide +kernel
theorem dX7_isSubsumed_26 : decode cX7_isSubsumed 26 = .ok (.iload 5, 2) := by decide +kernel
theorem dX7_isSubsumed_28 : decode cX7_isSubsumed 28 = .ok (.iload_n 3, 1) := by decide +kernel
theorem dX7_isSubsumed_29 : decode cX7_isSubsumed 29 = .ok (.iconst (-1), 1) := by decide +kernel
theorem dX7_isSubsumed_30 : decode cX7_isSubsumed 30 = .ok (.ixor, 1) := by decide +kernel
theorem dX7_isSubsumed_31 : decode cX7_isSubsumed 31 = .ok (.iand, 1) := by decide +kernel
theorem dX7_isSubsumed_32 : decode cX7_isSubsumed 32 = .ok (.ifCond .ne 7, 3) := by decide +kernel
theorem dX7_isSubsumed_35 : decode cX7_isSubsumed 35 = .ok (.iconst 1, 1) := by decide +kernel
theorem dX7_isSubsumed_36 : decode cX7_isSubsumed 36 = .ok (.goto 4, 3) := by decide +kernel
theorem dX7_isSubsumed_39 : decode cX7_isSubsumed 39 = .ok (.iconst 0, 1) := by decide +kernel
theorem dX7_isSubsumed_40 : decode cX7_isSubsumed 40 = .ok (.istore 6, 2) := by decide +kernel
theorem dX7_isSubsumed_42 : decode cX7_isSubsumed 42 = .ok (.iload 6, 2) := by decide +kernel
theorem dX7_isSubsumed_44 : decode cX7_isSubsumed 44 = .ok (.ifCond .eq 17, 3) := by decide +kernel
theorem dX7_isSubsumed_47 : decode cX7_isSubsumed 47 = .ok (.iload 5, 2) := by decide +kernel
theorem dX7_isSubsumed_49 : decode cX7_isSubsumed 49 = .ok (.iload_n 3, 1) := by decide +kernel
theorem dX7_isSubsumed_50 : decode cX7_isSubsumed 50 = .ok (.if_icmp .ne 9, 3) := by decide +kernel
theorem dX7_isSubsumed_53 : decode cX7_isSubsumed 53 = .ok (.iload 4, 2) := by decide +kernel
theorem dX7_isSubsumed_55 : decode cX7_isSubsumed 55 = .ok (.iload_n 2, 1) := by decide +kernel
theorem dX7_isSubsumed_56 : decode cX7_isSubsumed 56 = .ok (.if_icmp .ge 5, 3) := by decide +kernel
theorem dX7_isSubsumed_59 : decode cX7_isSubsumed 59 = .ok (.iconst 1, 1) := by decide +kernel
theorem dX7_isSubsumed_60 : decode cX7_isSubsumed 60 = .ok (.ireturn, 1) := by decide +kernel
theorem dX7_isSubsumed_61 : decode cX7_isSubsumed 61 = .ok (.iinc 4 1, 3) := by decide +kernel
theorem dX7_isSubsumed_64 : decode cX7_isSubsumed 64 = .ok (.goto (-55), 3) := by decide +kernel
theorem dX7_isSubsumed_67 : decode cX7_isSubsumed 67 = .ok (.iconst 0, 1) := by decide +kernel
theorem dX7_isSubsumed_68 : decode cX7_isSubsumed 68 = .ok (.ireturn, 1) := by decide +kernel
abbrev mtX7_isSubsumed : mj_T := (yX7_isSubsumed.cls, cX7_isSubsumed, 7, (some .boolean), mj_no, yX7_isSubsumed.name)
abbrev kX7_isSubsumed (k0 : Nat) (k1 : Nat) (x2 : Int32) (g : mj_S) (M : mj_M) (q : Int32 → mj_M → Prop) : Prop := mj_CI yX7_isSubsumed (.code yX7_isSubsumed cX7_isSubsumed 7 (some .boolean)) 1 [.ref (k0), .ref (k1), .int (x2)] g M q
theorem kiX7_isSubsumed : mj_cV yX7_isSubsumed cX7_isSubsumed 7 (some .boolean) 2 := ⟨⟨wd_452, wp_5, wd_8, wd_453⟩, ⟨by decide +kernel, by decide +kernel, by decide +kernel⟩, Nat.le_of_ble_eq_true rfl⟩
def LX7_isSubsumed_9 (k0 : Nat) (k1 n1 : Nat) (x2 : Int32) (x3 : Int32) (x4 : Int32) (g : mj_S) (M : mj_M) (q : Int32 → mj_M → Prop) : Prop := ∀ d, 1 ≤ d → ∀ ex : Bool, mj_G mtX7_isSubsumed (mj_rm d 0 0) (mj_Fi (mj_qI g q) mj_x0 0 0) ex 0 0 9 [(1, .ref (k1)), (2, .int (x2)), (3, .int (x3)), (4, .int (x4))] [] g M
theorem eX7_isSubsumed {k0 : Nat} {k1 n1 : Nat} {x2 : Int32} {g : mj_S} {M : mj_M} {q : Int32 → mj_M → Prop} (h0 : is7 g k0) (h1 : is0 g k1 n1) (h : ∃ (q1 : Int32 → mj_M → Prop), kX0_at (k1) (x2) g (M) q1 ∧ ∀ (v1 : Int32) (M1 : mj_M), q1 v1 M1 → (LX7_isSubsumed_9 k0 k1 n1 (x2) (v1) (0) g (M1) q)) : kX7_isSubsumed (k0) (k1) (x2) g M q := by
  intro d hd; refine mj_enter (by decide +kernel) (Nat.le_of_ble_eq_true rfl) ?_
  generalize (false : Bool) = ex
  show mj_G mtX7_isSubsumed (mj_rm d 0 0) (mj_Fi (mj_qI g q) mj_x0 0 0) ex 0 0 0 [(0, .ref (k0)), (1, .ref (k1)), (2, .int (x2))] [] g M
  refine mg_aload_n dX7_isSubsumed_0 rfl 1 rfl ?_
  refine mg_iload_n dX7_isSubsumed_1 rfl 2 rfl ?_
  obtain ⟨q1, hC, hk⟩ := h
  refine mc_Vi [.int (x2)] [] dX7_isSubsumed_2 wd_408 kiX0_at (Nat.le_of_ble_eq_true rfl) h1.1.1 h1.1.2 rfl (Nat.le_trans (Nat.le_of_ble_eq_true rfl) hd) hC (fun v1 M1 hq => ?_)
  replace h := hk v1 M1 hq
  refine mg_istore_n (ls' := [(3, .int (v1)), (0, .ref (k0)), (1, .ref (k1)), (2, .int (x2))]) dX7_isSubsumed_5 rfl (Nat.le_of_ble_eq_true rfl) rfl ?_
  refine mg_iconst (v := 0) dX7_isSubsumed_6 (by decide) ?_
  refine mg_istore (ls' := [(4, .int (0)), (3, .int (v1)), (0, .ref (k0)), (1, .ref (k1)), (2, .int (x2))]) dX7_isSubsumed_7 (Nat.le_of_ble_eq_true rfl) rfl ?_
  exact mg_pick [3, 4, 1, 0] rfl (h d hd ex)
theorem bX7_isSubsumed_9 {k0 : Nat} {k1 n1 : Nat} {x2 : Int32} {x3 : Int32} {x4 : Int32} {g : mj_S} {M : mj_M} {q : Int32 → mj_M → Prop} (h0 : is7 g k0) (h1 : is0 g k1 n1) (h : ∃ (q1 : Int32 → mj_M → Prop), kX0_size (k1) g (M) q1 ∧ ∀ (v1 : Int32) (M1 : mj_M), q1 v1 M1 → (((v1 : Int32) ≤ (x4) → q 0 (M1)) ∧ (¬ (v1 : Int32) ≤ (x4) → ∃ (q2 : Int32 → mj_M → Prop), kX0_at (k1) (x4) g (M1) q2 ∧ ∀ (v2 : Int32) (M2 : mj_M), q2 v2 M2 → ((¬ ((v2) &&& ((x3) ^^^ (-1 : Int32)) : Int32) = 0 → ((0 : Int32) = 0 → LX7_isSubsumed_9 k0 k1 n1 (x2) (x3) (x4 + 1) g (M2) q) ∧ (¬ (0 : Int32) = 0 → (¬ (v2 : Int32) = (x3) → q 1 (M2)) ∧ ((v2 : Int32) = (x3) → ((x2 : Int32) ≤ (x4) → LX7_isSubsumed_9 k0 k1 n1 (x2) (x3) (x4 + 1) g (M2) q) ∧ (¬ (x2 : Int32) ≤ (x4) → q 1 (M2))))) ∧ (((v2) &&& ((x3) ^^^ (-1 : Int32)) : Int32) = 0 → ((1 : Int32) = 0 → LX7_isSubsumed_9 k0 k1 n1 (x2) (x3) (x4 + 1) g (M2) q) ∧ (¬ (1 : Int32) = 0 → (¬ (v2 : Int32) = (x3) → q 1 (M2)) ∧ ((v2 : Int32) = (x3) → ((x2 : Int32) ≤ (x4) → LX7_isSubsumed_9 k0 k1 n1 (x2) (x3) (x4 + 1) g (M2) q) ∧ (¬ (x2 : Int32) ≤ (x4) → q 1 (M2))))))))) : LX7_isSubsumed_9 k0 k1 n1 x2 x3 x4 g M q := by
  intro d hd ex
  refine mg_iload dX7_isSubsumed_9 3 rfl ?_
  refine mg_aload_n dX7_isSubsumed_11 rfl 0 rfl ?_
  obtain ⟨q1, hC, hk⟩ := h
  refine mc_Vi [] [.int (x4)] dX7_isSubsumed_12 wd_407 kiX0_size (Nat.le_of_ble_eq_true rfl) h1.1.1 h1.1.2 rfl (Nat.le_trans (Nat.le_of_ble_eq_true rfl) hd) hC (fun v1 M1 hq => ?_)
  replace h := hk v1 M1 hq
  refine mg_icmp_ge (tgt := 67) dX7_isSubsumed_15 (by decide) (fun hc => ?_) (fun hc => ?_)
  · replace h := h.1 hc
    refine mg_iconst (v := 0) dX7_isSubsumed_67 (by decide) ?_
    exact me_z dX7_isSubsumed_68 rfl (Or.inl rfl) h
  · replace h := h.2 hc
    refine mg_aload_n dX7_isSubsumed_18 rfl 0 rfl ?_
    refine mg_iload dX7_isSubsumed_19 3 rfl ?_
    obtain ⟨q2, hC, hk⟩ := h
    refine mc_Vi [.int (x4)] [] dX7_isSubsumed_21 wd_408 kiX0_at (Nat.le_of_ble_eq_true rfl) h1.1.1 h1.1.2 rfl (Nat.le_trans (Nat.le_of_ble_eq_true rfl) hd) hC (fun v2 M2 hq => ?_)
    replace h := hk v2 M2 hq
    refine mg_istore (ls' := [(5, .int (v2)), (1, .ref (k1)), (2, .int (x2)), (3, .int (x3)), (4, .int (x4))]) dX7_isSubsumed_24 (Nat.le_of_ble_eq_true rfl) rfl ?_
    refine mg_iload dX7_isSubsumed_26 0 rfl ?_
    refine mg_iload_n dX7_isSubsumed_28 rfl 3 rfl ?_
    refine mg_iconst (v := (-1)) dX7_isSubsumed_29 (by decide) ?_
    refine mg_ixor dX7_isSubsumed_30 ?_
    refine mg_iand dX7_isSubsumed_31 ?_
    refine mg_if_ne (tgt := 39) dX7_isSubsumed_32 (by decide) (fun hc => ?_) (fun hc => ?_)
    · replace h := h.1 hc
      refine mg_iconst (v := 0) dX7_isSubsumed_39 (by decide) ?_
      refine mg_istore (ls' := [(6, .int (0)), (5, .int (v2)), (1, .ref (k1)), (2, .int (x2)), (3, .int (x3)), (4, .int (x4))]) dX7_isSubsumed_40 (Nat.le_of_ble_eq_true rfl) rfl ?_
      refine mg_iload dX7_isSubsumed_42 0 rfl ?_
      refine mg_if_eq (tgt := 61) dX7_isSubsumed_44 (by decide) (fun hc => ?_) (fun hc => ?_)
      · replace h := h.1 hc
        refine mg_iinc (v := x4 + 1) (ls' := [(4, .int (x4 + 1)), (6, .int (0)), (5, .int (v2)), (1, .ref (k1)), (2, .int (x2)), (3, .int (x3))]) dX7_isSubsumed_61 5 rfl rfl (Nat.le_of_ble_eq_true rfl) rfl ?_
        refine mg_goto (tgt := 9) dX7_isSubsumed_64 (by decide) ?_
        exact mg_pick [3, 4, 5, 0] rfl (h d hd ex)
      · replace h := h.2 hc
        refine mg_iload dX7_isSubsumed_47 1 rfl ?_
        refine mg_iload_n dX7_isSubsumed_49 rfl 4 rfl ?_
        refine mg_icmp_ne (tgt := 59) dX7_isSubsumed_50 (by decide) (fun hc => ?_) (fun hc => ?_)
        · replace h := h.1 hc
          refine mg_iconst (v := 1) dX7_isSubsumed_59 (by decide) ?_
          exact me_z dX7_isSubsumed_60 rfl (Or.inr rfl) h
        · replace h := h.2 hc
          refine mg_iload dX7_isSubsumed_53 5 rfl ?_
          refine mg_iload_n dX7_isSubsumed_55 rfl 3 rfl ?_
          refine mg_icmp_ge (tgt := 61) dX7_isSubsumed_56 (by decide) (fun hc => ?_) (fun hc => ?_)
          · replace h := h.1 hc
            refine mg_iinc (v := x4 + 1) (ls' := [(4, .int (x4 + 1)), (6, .int (0)), (5, .int (v2)), (1, .ref (k1)), (2, .int (x2)), (3, .int (x3))]) dX7_isSubsumed_61 5 rfl rfl (Nat.le_of_ble_eq_true rfl) rfl ?_
            refine mg_goto (tgt := 9) dX7_isSubsumed_64 (by decide) ?_
            exact mg_pick [3, 4, 5, 0] rfl (h d hd ex)
          · replace h := h.2 hc
            refine mg_iconst (v := 1) dX7_isSubsumed_59 (by decide) ?_
            exact me_z dX7_isSubsumed_60 rfl (Or.inr rfl) h
    · replace h := h.2 hc
      refine mg_iconst (v := 1) dX7_isSubsumed_35 (by decide) ?_
      refine mg_goto (tgt := 40) dX7_isSubsumed_36 (by decide) ?_
      refine mg_istore (ls' := [(6, .int (1)), (5, .int (v2)), (1, .ref (k1)), (2, .int (x2)), (3, .int (x3)), (4, .int (x4))]) dX7_isSubsumed_40 (Nat.le_of_ble_eq_true rfl) rfl ?_
      refine mg_iload dX7_isSubsumed_42 0 rfl ?_
      refine mg_if_eq (tgt := 61) dX7_isSubsumed_44 (by decide) (fun hc => ?_) (fun hc => ?_)
      · replace h := h.1 hc
        refine mg_iinc (v := x4 + 1) (ls' := [(4, .int (x4 + 1)), (6, .int (1)), (5, .int (v2)), (1, .ref (k1)), (2, .int (x2)), (3, .int (x3))]) dX7_isSubsumed_61 5 rfl rfl (Nat.le_of_ble_eq_true rfl) rfl ?_
        refine mg_goto (tgt := 9) dX7_isSubsumed_64 (by decide) ?_
        exact mg_pick [3, 4, 5, 0] rfl (h d hd ex)
      · replace h := h.2 hc
        refine mg_iload dX7_isSubsumed_47 1 rfl ?_
        refine mg_iload_n dX7_isSubsumed_49 rfl 4 rfl ?_
        refine mg_icmp_ne (tgt := 59) dX7_isSubsumed_50 (by decide) (fun hc => ?_) (fun hc => ?_)
        · replace h := h.1 hc
          refine mg_iconst (v := 1) dX7_isSubsumed_59 (by decide) ?_
          exact me_z dX7_isSubsumed_60 rfl (Or.inr rfl) h
        · replace h := h.2 hc
          refine mg_iload dX7_isSubsumed_53 5 rfl ?_
          refine mg_iload_n dX7_isSubsumed_55 rfl 3 rfl ?_
          refine mg_icmp_ge (tgt := 61) dX7_isSubsumed_56 (by decide) (fun hc => ?_) (fun hc => ?_)
          · replace h := h.1 hc
            refine mg_iinc (v := x4 + 1) (ls' := [(4, .int (x4 + 1)), (6, .int (1)), (5, .int (v2)), (1, .ref (k1)), (2, .int (x2)), (3, .int (x3))]) dX7_isSubsumed_61 5 rfl rfl (Nat.le_of_ble_eq_true rfl) rfl ?_
            refine mg_goto (tgt := 9) dX7_isSubsumed_64 (by decide) ?_
            exact mg_pick [3, 4, 5, 0] rfl (h d hd ex)
          · replace h := h.2 hc
            refine mg_iconst (v := 1) dX7_isSubsumed_59 (by decide) ?_
            exact me_z dX7_isSubsumed_60 rfl (Or.inr rfl) h
theorem dX7_removeSubsumed_0 : decode cX7_removeSubsumed 0 = .ok (.aload_n 1, 1) := by decide +kernel
theorem dX7_removeSubsumed_1 : decode cX7_removeSubsumed 1 = .ok (.invokevirtual 88, 3) := by decide +kernel
theorem dX7_removeSubsumed_4 : decode cX7_removeSubsumed 4 = .ok (.istore_n 2, 1) := by decide +kernel
theorem dX7_removeSubsumed_5 : decode cX7_removeSubsumed 5 = .ok (.lconst 0, 1) := by decide +kernel
theorem dX7_removeSubsumed_6 : decode cX7_removeSubsumed 6 = .ok (.lstore_n 3, 1) := by decide +kernel
theorem dX7_removeSubsumed_7 : decode cX7_removeSubsumed 7 = .ok (.iconst 0, 1) := by decide +kernel
theorem dX7_removeSubsumed_8 : decode cX7_removeSubsumed 8 = .ok (.istore 5, 2) := by decide +kernel
theorem dX7_removeSubsumed_10 : decode cX7_removeSubsumed 10 = .ok (.iload 5, 2) := by decide +kernel
theorem dX7_removeSubsumed_12 : decode cX7_removeSubsumed 12 = .ok (.iload_n 2, 1) := by decide +kernel
theorem dX7_removeSubsumed_13 : decode cX7_removeSubsumed 13 = .ok (.if_icmp .ge 26, 3) := by decide +kernel
theorem dX7_removeSubsumed_16 : decode cX7_removeSubsumed 16 = .ok (.aload_n 0, 1) := by decide +kernel
theorem dX7_removeSubsumed_17 : decode cX7_removeSubsumed 17 = .ok (.aload_n 1, 1) := by decide +kernel
theorem dX7_removeSubsumed_18 : decode cX7_removeSubsumed 18 = .ok (.iload 5, 2) := by decide +kernel
theorem dX7_removeSubsumed_20 : decode cX7_removeSubsumed 20 = .ok (.invokevirtual 119, 3) := by decide +kernel
theorem dX7_removeSubsumed_23 : decode cX7_removeSubsumed 23 = .ok (.ifCond .eq 10, 3) := by decide +kernel
theorem dX7_removeSubsumed_26 : decode cX7_removeSubsumed 26 = .ok (.lload_n 3, 1) := by decide +kernel
theorem dX7_removeSubsumed_27 : decode cX7_removeSubsumed 27 = .ok (.lconst 1, 1) := by decide +kernel
theorem dX7_removeSubsumed_28 : decode cX7_removeSubsumed 28 = .ok (.iload 5, 2) := by decide +kernel
theorem dX7_removeSubsumed_30 : decode cX7_removeSubsumed 30 = .ok (.lshl, 1) := by decide +kernel
theorem dX7_removeSubsumed_31 : decode cX7_removeSubsumed 31 = .ok (.lor, 1) := by decide +kernel
theorem dX7_removeSubsumed_32 : decode cX7_removeSubsumed 32 = .ok (.lstore_n 3, 1) := by decide +kernel
theorem dX7_removeSubsumed_33 : decode cX7_removeSubsumed 33 = .ok (.iinc 5 1, 3) := by decide +kernel
theorem dX7_removeSubsumed_36 : decode cX7_removeSubsumed 36 = .ok (.goto (-26), 3) := by decide +kernel
theorem dX7_removeSubsumed_39 : decode cX7_removeSubsumed 39 = .ok (.iload_n 2, 1) := by decide +kernel
theorem dX7_removeSubsumed_40 : decode cX7_removeSubsumed 40 = .ok (.iconst 1, 1) := by decide +kernel
theorem dX7_removeSubsumed_41 : decode cX7_removeSubsumed 41 = .ok (.isub, 1) := by decide +kernel
theorem dX7_removeSubsumed_42 : decode cX7_removeSubsumed 42 = .ok (.istore 5, 2) := by decide +kernel
theorem dX7_removeSubsumed_44 : decode cX7_removeSubsumed 44 = .ok (.iload 5, 2) := by decide +kernel
theorem dX7_removeSubsumed_46 : decode cX7_removeSubsumed 46 = .ok (.ifCond .lt 26, 3) := by decide +kernel
theorem dX7_removeSubsumed_49 : decode cX7_removeSubsumed 49 = .ok (.lload_n 3, 1) := by decide +kernel
theorem dX7_removeSubsumed_50 : decode cX7_removeSubsumed 50 = .ok (.iload 5, 2) := by decide +kernel
theorem dX7_removeSubsumed_52 : decode cX7_removeSubsumed 52 = .ok (.lshr, 1) := by decide +kernel
theorem dX7_removeSubsumed_53 : decode cX7_removeSubsumed 53 = .ok (.lconst 1, 1) := by decide +kernel
theorem dX7_removeSubsumed_54 : decode cX7_removeSubsumed 54 = .ok (.land, 1) := by decide +kernel
theorem dX7_removeSubsumed_55 : decode cX7_removeSubsumed 55 = .ok (.lconst 0, 1) := by decide +kernel
theorem dX7_removeSubsumed_56 : decode cX7_removeSubsumed 56 = .ok (.lcmp, 1) := by decide +kernel
theorem dX7_removeSubsumed_57 : decode cX7_removeSubsumed 57 = .ok (.ifCond .eq 9, 3) := by decide +kernel
theorem dX7_removeSubsumed_60 : decode cX7_removeSubsumed 60 = .ok (.aload_n 1, 1) := by decide +kernel
theorem dX7_removeSubsumed_61 : decode cX7_removeSubsumed 61 = .ok (.iload 5, 2) := by decide +kernel
theorem dX7_removeSubsumed_63 : decode cX7_removeSubsumed 63 = .ok (.invokevirtual 123, 3) := by decide +kernel
theorem dX7_removeSubsumed_66 : decode cX7_removeSubsumed 66 = .ok (.iinc 5 (-1), 3) := by decide +kernel
theorem dX7_removeSubsumed_69 : decode cX7_removeSubsumed 69 = .ok (.goto (-25), 3) := by decide +kernel
theorem dX7_removeSubsumed_72 : decode cX7_removeSubsumed 72 = .ok (.iload_n 2, 1) := by decide +kernel
theorem dX7_removeSubsumed_73 : decode cX7_removeSubsumed 73 = .ok (.aload_n 1, 1) := by decide +kernel
theorem dX7_removeSubsumed_74 : decode cX7_removeSubsumed 74 = .ok (.invokevirtual 88, 3) := by decide +kernel
theorem dX7_removeSubsumed_77 : decode cX7_removeSubsumed 77 = .ok (.isub, 1) := by decide +kernel
theorem dX7_removeSubsumed_78 : decode cX7_removeSubsumed 78 = .ok (.ireturn, 1) := by decide +kernel
abbrev mtX7_removeSubsumed : mj_T := (yX7_removeSubsumed.cls, cX7_removeSubsumed, 6, (some .int), mj_no, yX7_removeSubsumed.name)
abbrev kX7_removeSubsumed (k0 : Nat) (k1 : Nat) (g : mj_S) (M : mj_M) (q : Int32 → mj_M → Prop) : Prop := mj_CI yX7_removeSubsumed (.code yX7_removeSubsumed cX7_removeSubsumed 6 (some .int)) 2 [.ref (k0), .ref (k1)] g M q
theorem kiX7_removeSubsumed : mj_cV yX7_removeSubsumed cX7_removeSubsumed 6 (some .int) 1 := ⟨⟨wd_448, wp_4, wd_8, wd_449⟩, ⟨by decide +kernel, by decide +kernel, by decide +kernel⟩, Nat.le_of_ble_eq_true rfl⟩
def LX7_removeSubsumed_10 (k0 : Nat) (k1 n1 : Nat) (x2 : Int32) (x3 : Int64) (x5 : Int32) (g : mj_S) (M : mj_M) (q : Int32 → mj_M → Prop) : Prop := ∀ d, 2 ≤ d → ∀ ex : Bool, mj_G mtX7_removeSubsumed (mj_rm d 0 0) (mj_Fi (mj_qI g q) mj_x0 0 0) ex 0 0 10 [(0, .ref (k0)), (1, .ref (k1)), (2, .int (x2)), (3, .long (x3)), (5, .int (x5))] [] g M
def LX7_removeSubsumed_44 (k0 : Nat) (k1 n1 : Nat) (x2 : Int32) (x3 : Int64) (x5 : Int32) (g : mj_S) (M : mj_M) (q : Int32 → mj_M → Prop) : Prop := ∀ d, 2 ≤ d → ∀ ex : Bool, mj_G mtX7_removeSubsumed (mj_rm d 0 0) (mj_Fi (mj_qI g q) mj_x0 0 0) ex 0 0 44 [(1, .ref (k1)), (2, .int (x2)), (3, .long (x3)), (5, .int (x5))] [] g M
theorem eX7_removeSubsumed {k0 : Nat} {k1 n1 : Nat} {g : mj_S} {M : mj_M} {q : Int32 → mj_M → Prop} (h0 : is7 g k0) (h1 : is0 g k1 n1) (h : ∃ (q1 : Int32 → mj_M → Prop), kX0_size (k1) g (M) q1 ∧ ∀ (v1 : Int32) (M1 : mj_M), q1 v1 M1 → (LX7_removeSubsumed_10 k0 k1 n1 (v1) ((0 : Int64)) (0) g (M1) q)) : kX7_removeSubsumed (k0) (k1) g M q := by
  intro d hd; refine mj_enter (by decide +kernel) (Nat.le_of_ble_eq_true rfl) ?_
  generalize (false : Bool) = ex
  show mj_G mtX7_removeSubsumed (mj_rm d 0 0) (mj_Fi (mj_qI g q) mj_x0 0 0) ex 0 0 0 [(0, .ref (k0)), (1, .ref (k1))] [] g M
  refine mg_aload_n dX7_removeSubsumed_0 rfl 1 rfl ?_
  obtain ⟨q1, hC, hk⟩ := h
  refine mc_Vi [] [] dX7_removeSubsumed_1 wd_407 kiX0_size (Nat.le_of_ble_eq_true rfl) h1.1.1 h1.1.2 rfl (Nat.le_trans (Nat.le_of_ble_eq_true rfl) hd) hC (fun v1 M1 hq => ?_)
  replace h := hk v1 M1 hq
  refine mg_istore_n (ls' := [(2, .int (v1)), (0, .ref (k0)), (1, .ref (k1))]) dX7_removeSubsumed_4 rfl (Nat.le_of_ble_eq_true rfl) rfl ?_
  refine mg_lconst (v := 0) dX7_removeSubsumed_5 (by decide) ?_
  refine mg_lstore_n (ls' := [(3, .long ((0 : Int64))), (2, .int (v1)), (0, .ref (k0)), (1, .ref (k1))]) dX7_removeSubsumed_6 rfl (Nat.le_of_ble_eq_true rfl) rfl ?_
  refine mg_iconst (v := 0) dX7_removeSubsumed_7 (by decide) ?_
  refine mg_istore (ls' := [(5, .int (0)), (3, .long ((0 : Int64))), (2, .int (v1)), (0, .ref (k0)), (1, .ref (k1))]) dX7_removeSubsumed_8 (Nat.le_of_ble_eq_true rfl) rfl ?_
  exact mg_pick [3, 4, 2, 1, 0] rfl (h d hd ex)
theorem bX7_removeSubsumed_10 {k0 : Nat} {k1 n1 : Nat} {x2 : Int32} {x3 : Int64} {x5 : Int32} {g : mj_S} {M : mj_M} {q : Int32 → mj_M → Prop} (h0 : is7 g k0) (h1 : is0 g k1 n1) (h : ((x2 : Int32) ≤ (x5) → LX7_removeSubsumed_44 k0 k1 n1 (x2) (x3) ((x2) - (1 : Int32)) g (M) q) ∧ (¬ (x2 : Int32) ≤ (x5) → ∃ (q1 : Int32 → mj_M → Prop), kX7_isSubsumed (k0) (k1) (x5) g (M) q1 ∧ ∀ (v1 : Int32) (M1 : mj_M), q1 v1 M1 → (((v1 : Int32) = 0 → LX7_removeSubsumed_10 k0 k1 n1 (x2) (x3) (x5 + 1) g (M1) q) ∧ (¬ (v1 : Int32) = 0 → LX7_removeSubsumed_10 k0 k1 n1 (x2) ((x3) ||| (((1 : Int64)) <<< (Int32.toInt64 (x5) &&& 63))) (x5 + 1) g (M1) q)))) : LX7_removeSubsumed_10 k0 k1 n1 x2 x3 x5 g M q := by
  intro d hd ex
  refine mg_iload dX7_removeSubsumed_10 4 rfl ?_
  refine mg_iload_n dX7_removeSubsumed_12 rfl 2 rfl ?_
  refine mg_icmp_ge (tgt := 39) dX7_removeSubsumed_13 (by decide) (fun hc => ?_) (fun hc => ?_)
  · replace h := h.1 hc
    refine mg_iload_n dX7_removeSubsumed_39 rfl 2 rfl ?_
    refine mg_iconst (v := 1) dX7_removeSubsumed_40 (by decide) ?_
    refine mg_isub dX7_removeSubsumed_41 ?_
    refine mg_istore (ls' := [(5, .int ((x2) - (1 : Int32))), (0, .ref (k0)), (1, .ref (k1)), (2, .int (x2)), (3, .long (x3))]) dX7_removeSubsumed_42 (Nat.le_of_ble_eq_true rfl) rfl ?_
    exact mg_pick [2, 3, 4, 0] rfl (h d hd ex)
  · replace h := h.2 hc
    refine mg_aload_n dX7_removeSubsumed_16 rfl 0 rfl ?_
    refine mg_aload_n dX7_removeSubsumed_17 rfl 1 rfl ?_
    refine mg_iload dX7_removeSubsumed_18 4 rfl ?_
    obtain ⟨q1, hC, hk⟩ := h
    refine mc_Vi [.ref (k1), .int (x5)] [] dX7_removeSubsumed_20 wd_450 kiX7_isSubsumed (Nat.le_of_ble_eq_true rfl) h0.1.1 h0.1.2 rfl (Nat.le_trans (Nat.le_of_ble_eq_true rfl) hd) hC (fun v1 M1 hq => ?_)
    replace h := hk v1 M1 hq
    refine mg_if_eq (tgt := 33) dX7_removeSubsumed_23 (by decide) (fun hc => ?_) (fun hc => ?_)
    · replace h := h.1 hc
      refine mg_iinc (v := x5 + 1) (ls' := [(5, .int (x5 + 1)), (0, .ref (k0)), (1, .ref (k1)), (2, .int (x2)), (3, .long (x3))]) dX7_removeSubsumed_33 4 rfl rfl (Nat.le_of_ble_eq_true rfl) rfl ?_
      refine mg_goto (tgt := 10) dX7_removeSubsumed_36 (by decide) ?_
      exact mg_pick [1, 2, 3, 4, 0] rfl (h d hd ex)
    · replace h := h.2 hc
      refine mg_lload_n dX7_removeSubsumed_26 rfl 3 rfl ?_
      refine mg_lconst (v := 1) dX7_removeSubsumed_27 (by decide) ?_
      refine mg_iload dX7_removeSubsumed_28 4 rfl ?_
      refine mg_lshl dX7_removeSubsumed_30 ?_
      refine mg_lor dX7_removeSubsumed_31 ?_
      refine mg_lstore_n (ls' := [(3, .long ((x3) ||| (((1 : Int64)) <<< (Int32.toInt64 (x5) &&& 63)))), (0, .ref (k0)), (1, .ref (k1)), (2, .int (x2)), (5, .int (x5))]) dX7_removeSubsumed_32 rfl (Nat.le_of_ble_eq_true rfl) rfl ?_
      refine mg_iinc (v := x5 + 1) (ls' := [(5, .int (x5 + 1)), (3, .long ((x3) ||| (((1 : Int64)) <<< (Int32.toInt64 (x5) &&& 63)))), (0, .ref (k0)), (1, .ref (k1)), (2, .int (x2))]) dX7_removeSubsumed_33 4 rfl rfl (Nat.le_of_ble_eq_true rfl) rfl ?_
      refine mg_goto (tgt := 10) dX7_removeSubsumed_36 (by decide) ?_
      exact mg_pick [2, 3, 4, 1, 0] rfl (h d hd ex)
theorem bX7_removeSubsumed_44 {k0 : Nat} {k1 n1 : Nat} {x2 : Int32} {x3 : Int64} {x5 : Int32} {g : mj_S} {M : mj_M} {q : Int32 → mj_M → Prop} (h0 : is7 g k0) (h1 : is0 g k1 n1) (h : ((x5 : Int32) < 0 → ∃ (q1 : Int32 → mj_M → Prop), kX0_size (k1) g (M) q1 ∧ ∀ (v1 : Int32) (M1 : mj_M), q1 v1 M1 → (q ((x2) - (v1)) (M1))) ∧ (¬ (x5 : Int32) < 0 → ((lg_cmp (((x3) >>> (Int32.toInt64 (x5) &&& 63)) &&& ((1 : Int64))) ((0 : Int64)) : Int32) = 0 → LX7_removeSubsumed_44 k0 k1 n1 (x2) (x3) (x5 + (-1)) g (M) q) ∧ (¬ (lg_cmp (((x3) >>> (Int32.toInt64 (x5) &&& 63)) &&& ((1 : Int64))) ((0 : Int64)) : Int32) = 0 → ∃ (q2 : mj_M → Prop), kX0_removeAt (k1) (x5) g (M) q2 ∧ ∀ (M2 : mj_M), q2 M2 → (LX7_removeSubsumed_44 k0 k1 n1 (x2) (x3) (x5 + (-1)) g (M2) q)))) : LX7_removeSubsumed_44 k0 k1 n1 x2 x3 x5 g M q := by
  intro d hd ex
  refine mg_iload dX7_removeSubsumed_44 3 rfl ?_
  refine mg_if_lt (tgt := 72) dX7_removeSubsumed_46 (by decide) (fun hc => ?_) (fun hc => ?_)
  · replace h := h.1 hc
    refine mg_iload_n dX7_removeSubsumed_72 rfl 1 rfl ?_
    refine mg_aload_n dX7_removeSubsumed_73 rfl 0 rfl ?_
    obtain ⟨q1, hC, hk⟩ := h
    refine mc_Vi [] [.int (x2)] dX7_removeSubsumed_74 wd_407 kiX0_size (Nat.le_of_ble_eq_true rfl) h1.1.1 h1.1.2 rfl (Nat.le_trans (Nat.le_of_ble_eq_true rfl) hd) hC (fun v1 M1 hq => ?_)
    replace h := hk v1 M1 hq
    refine mg_isub dX7_removeSubsumed_77 ?_
    exact me_i dX7_removeSubsumed_78 rfl h
  · replace h := h.2 hc
    refine mg_lload_n dX7_removeSubsumed_49 rfl 2 rfl ?_
    refine mg_iload dX7_removeSubsumed_50 3 rfl ?_
    refine mg_lshr dX7_removeSubsumed_52 ?_
    refine mg_lconst (v := 1) dX7_removeSubsumed_53 (by decide) ?_
    refine mg_land dX7_removeSubsumed_54 ?_
    refine mg_lconst (v := 0) dX7_removeSubsumed_55 (by decide) ?_
    refine mg_lcmp dX7_removeSubsumed_56 ?_
    refine mg_if_eq (tgt := 66) dX7_removeSubsumed_57 (by decide) (fun hc => ?_) (fun hc => ?_)
    · replace h := h.1 hc
      refine mg_iinc (v := x5 + (-1)) (ls' := [(5, .int (x5 + (-1))), (1, .ref (k1)), (2, .int (x2)), (3, .long (x3))]) dX7_removeSubsumed_66 3 rfl rfl (Nat.le_of_ble_eq_true rfl) rfl ?_
      refine mg_goto (tgt := 44) dX7_removeSubsumed_69 (by decide) ?_
      exact mg_pick [1, 2, 3, 0] rfl (h d hd ex)
    · replace h := h.2 hc
      refine mg_aload_n dX7_removeSubsumed_60 rfl 0 rfl ?_
      refine mg_iload dX7_removeSubsumed_61 3 rfl ?_
      obtain ⟨q2, hC, hk⟩ := h
      refine mc_Vv [.int (x5)] [] dX7_removeSubsumed_63 wd_454 kiX0_removeAt (Nat.le_of_ble_eq_true rfl) h1.1.1 h1.1.2 rfl (Nat.le_trans (Nat.le_of_ble_eq_true rfl) hd) hC (fun M2 hq => ?_)
      replace h := hk M2 hq
      refine mg_iinc (v := x5 + (-1)) (ls' := [(5, .int (x5 + (-1))), (1, .ref (k1)), (2, .int (x2)), (3, .long (x3))]) dX7_removeSubsumed_66 3 rfl rfl (Nat.le_of_ble_eq_true rfl) rfl ?_
      refine mg_goto (tgt := 44) dX7_removeSubsumed_69 (by decide) ?_
      exact mg_pick [1, 2, 3, 0] rfl (h d hd ex)
theorem dX7_lowestSuperfluous_0 : decode cX7_lowestSuperfluous 0 = .ok (.aload_n 1, 1) := by decide +kernel
theorem dX7_lowestSuperfluous_1 : decode cX7_lowestSuperfluous 1 = .ok (.iload_n 2, 1) := by decide +kernel
theorem dX7_lowestSuperfluous_2 : decode cX7_lowestSuperfluous 2 = .ok (.invokevirtual 92, 3) := by decide +kernel
theorem dX7_lowestSuperfluous_5 : decode cX7_lowestSuperfluous 5 = .ok (.istore_n 3, 1) := by decide +kernel
theorem dX7_lowestSuperfluous_6 : decode cX7_lowestSuperfluous 6 = .ok (.iconst (-1), 1) := by decide +kernel
theorem dX7_lowestSuperfluous_7 : decode cX7_lowestSuperfluous 7 = .ok (.istore 4, 2) := by decide +kernel
theorem dX7_lowestSuperfluous_9 : decode cX7_lowestSuperfluous 9 = .ok (.iconst 0, 1) := by decide +kernel
theorem dX7_lowestSuperfluous_10 : decode cX7_lowestSuperfluous 10 = .ok (.istore 5, 2) := by decide +kernel
theorem dX7_lowestSuperfluous_12 : decode cX7_lowestSuperfluous 12 = .ok (.iload 5, 2) := by decide +kernel
theorem dX7_lowestSuperfluous_14 : decode cX7_lowestSuperfluous 14 = .ok (.aload_n 1, 1) := by decide +kernel
theorem dX7_lowestSuperfluous_15 : decode cX7_lowestSuperfluous 15 = .ok (.invokevirtual 88, 3) := by decide +kernel
theorem dX7_lowestSuperfluous_18 : decode cX7_lowestSuperfluous 18 = .ok (.if_icmp .ge 76, 3) := by decide +kernel
theorem dX7_lowestSuperfluous_21 : decode cX7_lowestSuperfluous 21 = .ok (.aload_n 1, 1) := by decide +kernel
theorem dX7_lowestSuperfluous_22 : decode cX7_lowestSuperfluous 22 = .ok (.iload 5, 2) := by decide +kernel
theorem dX7_lowestSuperfluous_24 : decode cX7_lowestSuperfluous 24 = .ok (.invokevirtual 92, 3) := by decide +kernel
theorem dX7_lowestSuperfluous_27 : decode cX7_lowestSuperfluous 27 = .ok (.iload_n 3, 1) := by decide +kernel
theorem dX7_lowestSuperfluous_28 : decode cX7_lowestSuperfluous 28 = .ok (.iconst (-1), 1) := by decide +kernel
theorem dX7_lowestSuperfluous_29 : decode cX7_lowestSuperfluous 29 = .ok (.ixor, 1) := by decide +kernel
theorem dX7_lowestSuperfluous_30 : decode cX7_lowestSuperfluous 30 = .ok (.iand, 1) := by decide +kernel
theorem dX7_lowestSuperfluous_31 : decode cX7_lowestSuperfluous 31 = .ok (.istore 6, 2) := by decide +kernel
theorem dX7_lowestSuperfluous_33 : decode cX7_lowestSuperfluous 33 = .ok (.iload 5, 2) := by decide +kernel
theorem dX7_lowestSuperfluous_35 : decode cX7_lowestSuperfluous 35 = .ok (.iload_n 2, 1) := by decide +kernel
theorem dX7_lowestSuperfluous_36 : decode cX7_lowestSuperfluous 36 = .ok (.if_icmp .eq 52, 3) := by decide +kernel
theorem dX7_lowestSuperfluous_39 : decode cX7_lowestSuperfluous 39 = .ok (.iload 6, 2) := by decide +kernel
theorem dX7_lowestSuperfluous_41 : decode cX7_lowestSuperfluous 41 = .ok (.invokestatic 96, 3) := by decide +kernel
theorem dX7_lowestSuperfluous_44 : decode cX7_lowestSuperfluous 44 = .ok (.iconst 1, 1) := by decide +kernel
theorem dX7_lowestSuperfluous_45 : decode cX7_lowestSuperfluous 45 = .ok (.if_icmp .ne 43, 3) := by decide +kernel
theorem dX7_lowestSuperfluous_48 : decode cX7_lowestSuperfluous 48 = .ok (.iload 6, 2) := by decide +kernel
theorem dX7_lowestSuperfluous_50 : decode cX7_lowestSuperfluous 50 = .ok (.invokestatic 140, 3) := by decide +kernel
theorem dX7_lowestSuperfluous_53 : decode cX7_lowestSuperfluous 53 = .ok (.iload_n 3, 1) := by decide +kernel
theorem dX7_lowestSuperfluous_54 : decode cX7_lowestSuperfluous 54 = .ok (.iand, 1) := by decide +kernel
theorem dX7_lowestSuperfluous_55 : decode cX7_lowestSuperfluous 55 = .ok (.ifCond .eq 33, 3) := by decide +kernel
theorem dX7_lowestSuperfluous_58 : decode cX7_lowestSuperfluous 58 = .ok (.iload 6, 2) := by decide +kernel
theorem dX7_lowestSuperfluous_60 : decode cX7_lowestSuperfluous 60 = .ok (.invokestatic 140, 3) := by decide +kernel
theorem dX7_lowestSuperfluous_63 : decode cX7_lowestSuperfluous 63 = .ok (.invokestatic 101, 3) := by decide +kernel
theorem dX7_lowestSuperfluous_66 : decode cX7_lowestSuperfluous 66 = .ok (.istore 7, 2) := by decide +kernel
theorem dX7_lowestSuperfluous_68 : decode cX7_lowestSuperfluous 68 = .ok (.iload 4, 2) := by decide +kernel
theorem dX7_lowestSuperfluous_70 : decode cX7_lowestSuperfluous 70 = .ok (.iconst (-1), 1) := by decide +kernel
theorem dX7_lowestSuperfluous_71 : decode cX7_lowestSuperfluous 71 = .ok (.if_icmp .ne 8, 3) := by decide +kernel
theorem dX7_lowestSuperfluous_74 : decode cX7_lowestSuperfluous 74 = .ok (.iload 7, 2) := by decide +kernel
theorem dX7_lowestSuperfluous_76 : decode cX7_lowestSuperfluous 76 = .ok (.goto 10, 3) := by decide +kernel
theorem dX7_lowestSuperfluous_79 : decode cX7_lowestSuperfluous 79 = .ok (.iload 4, 2) := by decide +kernel
theorem dX7_lowestSuperfluous_81 : decode cX7_lowestSuperfluous 81 = .ok (.iload 7, 2) := by decide +kernel
theorem dX7_lowestSuperfluous_83 : decode cX7_lowestSuperfluous 83 = .ok (.invokestatic 143, 3) := by decide +kernel
theorem dX7_lowestSuperfluous_86 : decode cX7_lowestSuperfluous 86 = .ok (.istore 4, 2) := by decide +kernel
theorem dX7_lowestSuperfluous_88 : decode cX7_lowestSuperfluous 88 = .ok (.iinc 5 1, 3) := by decide +kernel
theorem dX7_lowestSuperfluous_91 : decode cX7_lowestSuperfluous 91 = .ok (.goto (-79), 3) := by decide +kernel
theorem dX7_lowestSuperfluous_94 : decode cX7_lowestSuperfluous 94 = .ok (.iload 4, 2) := by decide +kernel
theorem dX7_lowestSuperfluous_96 : decode cX7_lowestSuperfluous 96 = .ok (.ireturn, 1) := by decide +kernel
abbrev mtX7_lowestSuperfluous : mj_T := (yX7_lowestSuperfluous.cls, cX7_lowestSuperfluous, 8, (some .int), mj_no, yX7_lowestSuperfluous.name)
abbrev kX7_lowestSuperfluous (k0 : Nat) (k1 : Nat) (x2 : Int32) (g : mj_S) (M : mj_M) (q : Int32 → mj_M → Prop) : Prop := mj_CI yX7_lowestSuperfluous (.code yX7_lowestSuperfluous cX7_lowestSuperfluous 8 (some .int)) 1 [.ref (k0), .ref (k1), .int (x2)] g M q
theorem kiX7_lowestSuperfluous : mj_cV yX7_lowestSuperfluous cX7_lowestSuperfluous 8 (some .int) 2 := ⟨⟨wd_468, wp_8, wd_8, wd_469⟩, ⟨by decide +kernel, by decide +kernel, by decide +kernel⟩, Nat.le_of_ble_eq_true rfl⟩
def LX7_lowestSuperfluous_12 (k0 : Nat) (k1 n1 : Nat) (x2 : Int32) (x3 : Int32) (x4 : Int32) (x5 : Int32) (g : mj_S) (M : mj_M) (q : Int32 → mj_M → Prop) : Prop := ∀ d, 1 ≤ d → ∀ ex : Bool, mj_G mtX7_lowestSuperfluous (mj_rm d 0 0) (mj_Fi (mj_qI g q) mj_x0 0 0) ex 0 0 12 [(1, .ref (k1)), (2, .int (x2)), (3, .int (x3)), (4, .int (x4)), (5, .int (x5))] [] g M
theorem eX7_lowestSuperfluous {k0 : Nat} {k1 n1 : Nat} {x2 : Int32} {g : mj_S} {M : mj_M} {q : Int32 → mj_M → Prop} (h0 : is7 g k0) (h1 : is0 g k1 n1) (h : ∃ (q1 : Int32 → mj_M → Prop), kX0_at (k1) (x2) g (M) q1 ∧ ∀ (v1 : Int32) (M1 : mj_M), q1 v1 M1 → (LX7_lowestSuperfluous_12 k0 k1 n1 (x2) (v1) ((-1)) (0) g (M1) q)) : kX7_lowestSuperfluous (k0) (k1) (x2) g M q := by
  intro d hd; refine mj_enter (by decide +kernel) (Nat.le_of_ble_eq_true rfl) ?_
  generalize (false : Bool) = ex
  show mj_G mtX7_lowestSuperfluous (mj_rm d 0 0) (mj_Fi (mj_qI g q) mj_x0 0 0) ex 0 0 0 [(0, .ref (k0)), (1, .ref (k1)), (2, .int (x2))] [] g M
  refine mg_aload_n dX7_lowestSuperfluous_0 rfl 1 rfl ?_
  refine mg_iload_n dX7_lowestSuperfluous_1 rfl 2 rfl ?_
  obtain ⟨q1, hC, hk⟩ := h
  refine mc_Vi [.int (x2)] [] dX7_lowestSuperfluous_2 wd_408 kiX0_at (Nat.le_of_ble_eq_true rfl) h1.1.1 h1.1.2 rfl (Nat.le_trans (Nat.le_of_ble_eq_true rfl) hd) hC (fun v1 M1 hq => ?_)
  replace h := hk v1 M1 hq
  refine mg_istore_n (ls' := [(3, .int (v1)), (0, .ref (k0)), (1, .ref (k1)), (2, .int (x2))]) dX7_lowestSuperfluous_5 rfl (Nat.le_of_ble_eq_true rfl) rfl ?_
  refine mg_iconst (v := (-1)) dX7_lowestSuperfluous_6 (by decide) ?_
  refine mg_istore (ls' := [(4, .int ((-1))), (3, .int (v1)), (0, .ref (k0)), (1, .ref (k1)), (2, .int (x2))]) dX7_lowestSuperfluous_7 (Nat.le_of_ble_eq_true rfl) rfl ?_
  refine mg_iconst (v := 0) dX7_lowestSuperfluous_9 (by decide) ?_
  refine mg_istore (ls' := [(5, .int (0)), (4, .int ((-1))), (3, .int (v1)), (0, .ref (k0)), (1, .ref (k1)), (2, .int (x2))]) dX7_lowestSuperfluous_10 (Nat.le_of_ble_eq_true rfl) rfl ?_
  exact mg_pick [4, 5, 2, 1, 0] rfl (h d hd ex)
theorem bX7_lowestSuperfluous_12 {k0 : Nat} {k1 n1 : Nat} {x2 : Int32} {x3 : Int32} {x4 : Int32} {x5 : Int32} {g : mj_S} {M : mj_M} {q : Int32 → mj_M → Prop} (h0 : is7 g k0) (h1 : is0 g k1 n1) (h : ∃ (q1 : Int32 → mj_M → Prop), kX0_size (k1) g (M) q1 ∧ ∀ (v1 : Int32) (M1 : mj_M), q1 v1 M1 → (((v1 : Int32) ≤ (x5) → q (x4) (M1)) ∧ (¬ (v1 : Int32) ≤ (x5) → ∃ (q2 : Int32 → mj_M → Prop), kX0_at (k1) (x5) g (M1) q2 ∧ ∀ (v2 : Int32) (M2 : mj_M), q2 v2 M2 → (((x5 : Int32) = (x2) → LX7_lowestSuperfluous_12 k0 k1 n1 (x2) (x3) (x4) (x5 + 1) g (M2) q) ∧ (¬ (x5 : Int32) = (x2) → ∃ (q3 : Int32 → mj_M → Prop), kJ6_bitCount_0f7a4 ((v2) &&& ((x3) ^^^ (-1 : Int32))) g (M2) q3 ∧ ∀ (v3 : Int32) (M3 : mj_M), q3 v3 M3 → ((¬ (v3 : Int32) = (1 : Int32) → LX7_lowestSuperfluous_12 k0 k1 n1 (x2) (x3) (x4) (x5 + 1) g (M3) q) ∧ ((v3 : Int32) = (1 : Int32) → ∃ (q4 : Int32 → mj_M → Prop), kX9_complements ((v2) &&& ((x3) ^^^ (-1 : Int32))) g (M3) q4 ∧ ∀ (v4 : Int32) (M4 : mj_M), q4 v4 M4 → ((((v4) &&& (x3) : Int32) = 0 → LX7_lowestSuperfluous_12 k0 k1 n1 (x2) (x3) (x4) (x5 + 1) g (M4) q) ∧ (¬ ((v4) &&& (x3) : Int32) = 0 → ∃ (q5 : Int32 → mj_M → Prop), kX9_complements ((v2) &&& ((x3) ^^^ (-1 : Int32))) g (M4) q5 ∧ ∀ (v5 : Int32) (M5 : mj_M), q5 v5 M5 → (∃ (q6 : Int32 → mj_M → Prop), kJ6_numberOfTrailingZeros_0f7a4 (v5) g (M5) q6 ∧ ∀ (v6 : Int32) (M6 : mj_M), q6 v6 M6 → ((¬ (x4 : Int32) = (-1 : Int32) → LX7_lowestSuperfluous_12 k0 k1 n1 (x2) (x3) (if (v6) < (x4) then (v6) else (x4)) (x5 + 1) g (M6) q) ∧ ((x4 : Int32) = (-1 : Int32) → LX7_lowestSuperfluous_12 k0 k1 n1 (x2) (x3) (v6) (x5 + 1) g (M6) q)))))))))))) : LX7_lowestSuperfluous_12 k0 k1 n1 x2 x3 x4 x5 g M q := by
  intro d hd ex
  refine mg_iload dX7_lowestSuperfluous_12 4 rfl ?_
  refine mg_aload_n dX7_lowestSuperfluous_14 rfl 0 rfl ?_
  obtain ⟨q1, hC, hk⟩ := h
  refine mc_Vi [] [.int (x5)] dX7_lowestSuperfluous_15 wd_407 kiX0_size (Nat.le_of_ble_eq_true rfl) h1.1.1 h1.1.2 rfl (Nat.le_trans (Nat.le_of_ble_eq_true rfl) hd) hC (fun v1 M1 hq => ?_)
  replace h := hk v1 M1 hq
  refine mg_icmp_ge (tgt := 94) dX7_lowestSuperfluous_18 (by decide) (fun hc => ?_) (fun hc => ?_)
  · replace h := h.1 hc
    refine mg_iload dX7_lowestSuperfluous_94 3 rfl ?_
    exact me_i dX7_lowestSuperfluous_96 rfl h
  · replace h := h.2 hc
    refine mg_aload_n dX7_lowestSuperfluous_21 rfl 0 rfl ?_
    refine mg_iload dX7_lowestSuperfluous_22 4 rfl ?_
    obtain ⟨q2, hC, hk⟩ := h
    refine mc_Vi [.int (x5)] [] dX7_lowestSuperfluous_24 wd_408 kiX0_at (Nat.le_of_ble_eq_true rfl) h1.1.1 h1.1.2 rfl (Nat.le_trans (Nat.le_of_ble_eq_true rfl) hd) hC (fun v2 M2 hq => ?_)
    replace h := hk v2 M2 hq
    refine mg_iload_n dX7_lowestSuperfluous_27 rfl 2 rfl ?_
    refine mg_iconst (v := (-1)) dX7_lowestSuperfluous_28 (by decide) ?_
    refine mg_ixor dX7_lowestSuperfluous_29 ?_
    refine mg_iand dX7_lowestSuperfluous_30 ?_
    refine mg_istore (ls' := [(6, .int ((v2) &&& ((x3) ^^^ (-1 : Int32)))), (1, .ref (k1)), (2, .int (x2)), (3, .int (x3)), (4, .int (x4)), (5, .int (x5))]) dX7_lowestSuperfluous_31 (Nat.le_of_ble_eq_true rfl) rfl ?_
    refine mg_iload dX7_lowestSuperfluous_33 5 rfl ?_
    refine mg_iload_n dX7_lowestSuperfluous_35 rfl 2 rfl ?_
    refine mg_icmp_eq (tgt := 88) dX7_lowestSuperfluous_36 (by decide) (fun hc => ?_) (fun hc => ?_)
    · replace h := h.1 hc
      refine mg_iinc (v := x5 + 1) (ls' := [(5, .int (x5 + 1)), (6, .int ((v2) &&& ((x3) ^^^ (-1 : Int32)))), (1, .ref (k1)), (2, .int (x2)), (3, .int (x3)), (4, .int (x4))]) dX7_lowestSuperfluous_88 5 rfl rfl (Nat.le_of_ble_eq_true rfl) rfl ?_
      refine mg_goto (tgt := 12) dX7_lowestSuperfluous_91 (by decide) ?_
      exact mg_pick [2, 3, 4, 5, 0] rfl (h d hd ex)
    · replace h := h.2 hc
      refine mg_iload dX7_lowestSuperfluous_39 0 rfl ?_
      obtain ⟨q3, hC, hk⟩ := h
      refine mc_Si [.int ((v2) &&& ((x3) ^^^ (-1 : Int32)))] [] dX7_lowestSuperfluous_41 wd_409 kiJ6_bitCount_0f7a4 (Nat.le_of_ble_eq_true rfl) (Nat.le_trans (Nat.le_of_ble_eq_true rfl) hd) hC (fun v3 M3 hq => ?_)
      replace h := hk v3 M3 hq
      refine mg_iconst (v := 1) dX7_lowestSuperfluous_44 (by decide) ?_
      refine mg_icmp_ne (tgt := 88) dX7_lowestSuperfluous_45 (by decide) (fun hc => ?_) (fun hc => ?_)
      · replace h := h.1 hc
        refine mg_iinc (v := x5 + 1) (ls' := [(5, .int (x5 + 1)), (6, .int ((v2) &&& ((x3) ^^^ (-1 : Int32)))), (1, .ref (k1)), (2, .int (x2)), (3, .int (x3)), (4, .int (x4))]) dX7_lowestSuperfluous_88 5 rfl rfl (Nat.le_of_ble_eq_true rfl) rfl ?_
        refine mg_goto (tgt := 12) dX7_lowestSuperfluous_91 (by decide) ?_
        exact mg_pick [2, 3, 4, 5, 0] rfl (h d hd ex)
      · replace h := h.2 hc
        refine mg_iload dX7_lowestSuperfluous_48 0 rfl ?_
        obtain ⟨q4, hC, hk⟩ := h
        refine mc_Ni [.int ((v2) &&& ((x3) ^^^ (-1 : Int32)))] [] 9 dX7_lowestSuperfluous_50 rfl kiX9_complements (Nat.le_of_ble_eq_true rfl) (Nat.le_trans (Nat.le_of_ble_eq_true rfl) hd) hC (fun v4 M4 hq => ?_)
        replace h := hk v4 M4 hq
        refine mg_iload_n dX7_lowestSuperfluous_53 rfl 3 rfl ?_
        refine mg_iand dX7_lowestSuperfluous_54 ?_
        refine mg_if_eq (tgt := 88) dX7_lowestSuperfluous_55 (by decide) (fun hc => ?_) (fun hc => ?_)
        · replace h := h.1 hc
          refine mg_iinc (v := x5 + 1) (ls' := [(5, .int (x5 + 1)), (6, .int ((v2) &&& ((x3) ^^^ (-1 : Int32)))), (1, .ref (k1)), (2, .int (x2)), (3, .int (x3)), (4, .int (x4))]) dX7_lowestSuperfluous_88 5 rfl rfl (Nat.le_of_ble_eq_true rfl) rfl ?_
          refine mg_goto (tgt := 12) dX7_lowestSuperfluous_91 (by decide) ?_
          exact mg_pick [2, 3, 4, 5, 0] rfl (h d hd ex)
        · replace h := h.2 hc
          refine mg_iload dX7_lowestSuperfluous_58 0 rfl ?_
          obtain ⟨q5, hC, hk⟩ := h
          refine mc_Ni [.int ((v2) &&& ((x3) ^^^ (-1 : Int32)))] [] 9 dX7_lowestSuperfluous_60 rfl kiX9_complements (Nat.le_of_ble_eq_true rfl) (Nat.le_trans (Nat.le_of_ble_eq_true rfl) hd) hC (fun v5 M5 hq => ?_)
          replace h := hk v5 M5 hq
          obtain ⟨q6, hC, hk⟩ := h
          refine mc_Si [.int (v5)] [] dX7_lowestSuperfluous_63 wd_410 kiJ6_numberOfTrailingZeros_0f7a4 (Nat.le_of_ble_eq_true rfl) (Nat.le_trans (Nat.le_of_ble_eq_true rfl) hd) hC (fun v6 M6 hq => ?_)
          replace h := hk v6 M6 hq
          refine mg_istore (ls' := [(7, .int (v6)), (6, .int ((v2) &&& ((x3) ^^^ (-1 : Int32)))), (1, .ref (k1)), (2, .int (x2)), (3, .int (x3)), (4, .int (x4)), (5, .int (x5))]) dX7_lowestSuperfluous_66 (Nat.le_of_ble_eq_true rfl) rfl ?_
          refine mg_iload dX7_lowestSuperfluous_68 5 rfl ?_
          refine mg_iconst (v := (-1)) dX7_lowestSuperfluous_70 (by decide) ?_
          refine mg_icmp_ne (tgt := 79) dX7_lowestSuperfluous_71 (by decide) (fun hc => ?_) (fun hc => ?_)
          · replace h := h.1 hc
            refine mg_iload dX7_lowestSuperfluous_79 5 rfl ?_
            refine mg_iload dX7_lowestSuperfluous_81 0 rfl ?_
            refine mg_mmin dX7_lowestSuperfluous_83 wd_474 (Nat.le_trans (Nat.le_of_ble_eq_true rfl) hd) (Nat.le_of_ble_eq_true rfl) ?_
            refine mg_istore (ls' := [(4, .int (if (v6) < (x4) then (v6) else (x4))), (7, .int (v6)), (6, .int ((v2) &&& ((x3) ^^^ (-1 : Int32)))), (1, .ref (k1)), (2, .int (x2)), (3, .int (x3)), (5, .int (x5))]) dX7_lowestSuperfluous_86 (Nat.le_of_ble_eq_true rfl) rfl ?_
            refine mg_iinc (v := x5 + 1) (ls' := [(5, .int (x5 + 1)), (4, .int (if (v6) < (x4) then (v6) else (x4))), (7, .int (v6)), (6, .int ((v2) &&& ((x3) ^^^ (-1 : Int32)))), (1, .ref (k1)), (2, .int (x2)), (3, .int (x3))]) dX7_lowestSuperfluous_88 6 rfl rfl (Nat.le_of_ble_eq_true rfl) rfl ?_
            refine mg_goto (tgt := 12) dX7_lowestSuperfluous_91 (by decide) ?_
            exact mg_pick [4, 5, 6, 1, 0] rfl (h d hd ex)
          · replace h := h.2 hc
            refine mg_iload dX7_lowestSuperfluous_74 0 rfl ?_
            refine mg_goto (tgt := 86) dX7_lowestSuperfluous_76 (by decide) ?_
            refine mg_istore (ls' := [(4, .int (v6)), (7, .int (v6)), (6, .int ((v2) &&& ((x3) ^^^ (-1 : Int32)))), (1, .ref (k1)), (2, .int (x2)), (3, .int (x3)), (5, .int (x5))]) dX7_lowestSuperfluous_86 (Nat.le_of_ble_eq_true rfl) rfl ?_
            refine mg_iinc (v := x5 + 1) (ls' := [(5, .int (x5 + 1)), (4, .int (v6)), (7, .int (v6)), (6, .int ((v2) &&& ((x3) ^^^ (-1 : Int32)))), (1, .ref (k1)), (2, .int (x2)), (3, .int (x3))]) dX7_lowestSuperfluous_88 6 rfl rfl (Nat.le_of_ble_eq_true rfl) rfl ?_
            refine mg_goto (tgt := 12) dX7_lowestSuperfluous_91 (by decide) ?_
            exact mg_pick [4, 5, 6, 1, 0] rfl (h d hd ex)
theorem dX7_strengthenFirst_0 : decode cX7_strengthenFirst 0 = .ok (.iconst 0, 1) := by decide +kernel
theorem dX7_strengthenFirst_1 : decode cX7_strengthenFirst 1 = .ok (.istore_n 2, 1) := by decide +kernel
theorem dX7_strengthenFirst_2 : decode cX7_strengthenFirst 2 = .ok (.iload_n 2, 1) := by decide +kernel
theorem dX7_strengthenFirst_3 : decode cX7_strengthenFirst 3 = .ok (.aload_n 1, 1) := by decide +kernel
theorem dX7_strengthenFirst_4 : decode cX7_strengthenFirst 4 = .ok (.invokevirtual 88, 3) := by decide +kernel
theorem dX7_strengthenFirst_7 : decode cX7_strengthenFirst 7 = .ok (.if_icmp .ge 51, 3) := by decide +kernel
theorem dX7_strengthenFirst_10 : decode cX7_strengthenFirst 10 = .ok (.aload_n 0, 1) := by decide +kernel
theorem dX7_strengthenFirst_11 : decode cX7_strengthenFirst 11 = .ok (.aload_n 1, 1) := by decide +kernel
theorem dX7_strengthenFirst_12 : decode cX7_strengthenFirst 12 = .ok (.iload_n 2, 1) := by decide +kernel
theorem dX7_strengthenFirst_13 : decode cX7_strengthenFirst 13 = .ok (.invokevirtual 130, 3) := by decide +kernel
theorem dX7_strengthenFirst_16 : decode cX7_strengthenFirst 16 = .ok (.istore_n 3, 1) := by decide +kernel
theorem dX7_strengthenFirst_17 : decode cX7_strengthenFirst 17 = .ok (.iload_n 3, 1) := by decide +kernel
theorem dX7_strengthenFirst_18 : decode cX7_strengthenFirst 18 = .ok (.iconst (-1), 1) := by decide +kernel
theorem dX7_strengthenFirst_19 : decode cX7_strengthenFirst 19 = .ok (.if_icmp .eq 33, 3) := by decide +kernel
theorem dX7_strengthenFirst_22 : decode cX7_strengthenFirst 22 = .ok (.aload_n 1, 1) := by decide +kernel
theorem dX7_strengthenFirst_23 : decode cX7_strengthenFirst 23 = .ok (.iload_n 2, 1) := by decide +kernel
theorem dX7_strengthenFirst_24 : decode cX7_strengthenFirst 24 = .ok (.aload_n 1, 1) := by decide +kernel
theorem dX7_strengthenFirst_25 : decode cX7_strengthenFirst 25 = .ok (.iload_n 2, 1) := by decide +kernel
theorem dX7_strengthenFirst_26 : decode cX7_strengthenFirst 26 = .ok (.invokevirtual 92, 3) := by decide +kernel
theorem dX7_strengthenFirst_29 : decode cX7_strengthenFirst 29 = .ok (.iconst 1, 1) := by decide +kernel
theorem dX7_strengthenFirst_30 : decode cX7_strengthenFirst 30 = .ok (.iload_n 3, 1) := by decide +kernel
theorem dX7_strengthenFirst_31 : decode cX7_strengthenFirst 31 = .ok (.ishl, 1) := by decide +kernel
theorem dX7_strengthenFirst_32 : decode cX7_strengthenFirst 32 = .ok (.iconst (-1), 1) := by decide +kernel
theorem dX7_strengthenFirst_33 : decode cX7_strengthenFirst 33 = .ok (.ixor, 1) := by decide +kernel
theorem dX7_strengthenFirst_34 : decode cX7_strengthenFirst 34 = .ok (.iand, 1) := by decide +kernel
theorem dX7_strengthenFirst_35 : decode cX7_strengthenFirst 35 = .ok (.invokevirtual 134, 3) := by decide +kernel
theorem dX7_strengthenFirst_38 : decode cX7_strengthenFirst 38 = .ok (.aload_n 1, 1) := by decide +kernel
theorem dX7_strengthenFirst_39 : decode cX7_strengthenFirst 39 = .ok (.iload_n 2, 1) := by decide +kernel
theorem dX7_strengthenFirst_40 : decode cX7_strengthenFirst 40 = .ok (.invokevirtual 92, 3) := by decide +kernel
theorem dX7_strengthenFirst_43 : decode cX7_strengthenFirst 43 = .ok (.ifCond .ne 7, 3) := by decide +kernel
theorem dX7_strengthenFirst_46 : decode cX7_strengthenFirst 46 = .ok (.aload_n 1, 1) := by decide +kernel
theorem dX7_strengthenFirst_47 : decode cX7_strengthenFirst 47 = .ok (.invokevirtual 137, 3) := by decide +kernel
theorem dX7_strengthenFirst_50 : decode cX7_strengthenFirst 50 = .ok (.iconst 1, 1) := by decide +kernel
theorem dX7_strengthenFirst_51 : decode cX7_strengthenFirst 51 = .ok (.ireturn, 1) := by decide +kernel
theorem dX7_strengthenFirst_52 : decode cX7_strengthenFirst 52 = .ok (.iinc 2 1, 3) := by decide +kernel
theorem dX7_strengthenFirst_55 : decode cX7_strengthenFirst 55 = .ok (.goto (-53), 3) := by decide +kernel
theorem dX7_strengthenFirst_58 : decode cX7_strengthenFirst 58 = .ok (.iconst 0, 1) := by decide +kernel
theorem dX7_strengthenFirst_59 : decode cX7_strengthenFirst 59 = .ok (.ireturn, 1) := by decide +kernel
abbrev mtX7_strengthenFirst : mj_T := (yX7_strengthenFirst.cls, cX7_strengthenFirst, 4, (some .boolean), mj_no, yX7_strengthenFirst.name)
abbrev kX7_strengthenFirst (k0 : Nat) (k1 : Nat) (g : mj_S) (M : mj_M) (q : Int32 → mj_M → Prop) : Prop := mj_CI yX7_strengthenFirst (.code yX7_strengthenFirst cX7_strengthenFirst 4 (some .boolean)) 2 [.ref (k0), .ref (k1)] g M q
theorem kiX7_strengthenFirst : mj_cV yX7_strengthenFirst cX7_strengthenFirst 4 (some .boolean) 1 := ⟨⟨wd_464, wp_7, wd_8, wd_465⟩, ⟨by decide +kernel, by decide +kernel, by decide +kernel⟩, Nat.le_of_ble_eq_true rfl⟩
def LX7_strengthenFirst_2 (k0 : Nat) (k1 n1 : Nat) (x2 : Int32) (g : mj_S) (M : mj_M) (q : Int32 → mj_M → Prop) : Prop := ∀ d, 2 ≤ d → ∀ ex : Bool, mj_G mtX7_strengthenFirst (mj_rm d 0 0) (mj_Fi (mj_qI g q) mj_x0 0 0) ex 0 0 2 [(0, .ref (k0)), (1, .ref (k1)), (2, .int (x2))] [] g M
theorem eX7_strengthenFirst {k0 : Nat} {k1 n1 : Nat} {g : mj_S} {M : mj_M} {q : Int32 → mj_M → Prop} (h0 : is7 g k0) (h1 : is0 g k1 n1) (h : LX7_strengthenFirst_2 k0 k1 n1 (0) g (M) q) : kX7_strengthenFirst (k0) (k1) g M q := by
  intro d hd; refine mj_enter (by decide +kernel) (Nat.le_of_ble_eq_true rfl) ?_
  generalize (false : Bool) = ex
  show mj_G mtX7_strengthenFirst (mj_rm d 0 0) (mj_Fi (mj_qI g q) mj_x0 0 0) ex 0 0 0 [(0, .ref (k0)), (1, .ref (k1))] [] g M
  refine mg_iconst (v := 0) dX7_strengthenFirst_0 (by decide) ?_
  refine mg_istore_n (ls' := [(2, .int (0)), (0, .ref (k0)), (1, .ref (k1))]) dX7_strengthenFirst_1 rfl (Nat.le_of_ble_eq_true rfl) rfl ?_
  exact mg_pick [1, 2, 0] rfl (h d hd ex)
theorem bX7_strengthenFirst_2 {k0 : Nat} {k1 n1 : Nat} {x2 : Int32} {g : mj_S} {M : mj_M} {q : Int32 → mj_M → Prop} (h0 : is7 g k0) (h1 : is0 g k1 n1) (h : ∃ (q1 : Int32 → mj_M → Prop), kX0_size (k1) g (M) q1 ∧ ∀ (v1 : Int32) (M1 : mj_M), q1 v1 M1 → (((v1 : Int32) ≤ (x2) → q 0 (M1)) ∧ (¬ (v1 : Int32) ≤ (x2) → ∃ (q2 : Int32 → mj_M → Prop), kX7_lowestSuperfluous (k0) (k1) (x2) g (M1) q2 ∧ ∀ (v2 : Int32) (M2 : mj_M), q2 v2 M2 → (((v2 : Int32) = (-1 : Int32) → LX7_strengthenFirst_2 k0 k1 n1 (x2 + 1) g (M2) q) ∧ (¬ (v2 : Int32) = (-1 : Int32) → ∃ (q3 : Int32 → mj_M → Prop), kX0_at (k1) (x2) g (M2) q3 ∧ ∀ (v3 : Int32) (M3 : mj_M), q3 v3 M3 → (∃ (q4 : mj_M → Prop), kX0_put (k1) (x2) ((v3) &&& (((1 : Int32) <<< ((v2) &&& 31)) ^^^ (-1 : Int32))) g (M3) q4 ∧ ∀ (M4 : mj_M), q4 M4 → (∃ (q5 : Int32 → mj_M → Prop), kX0_at (k1) (x2) g (M4) q5 ∧ ∀ (v5 : Int32) (M5 : mj_M), q5 v5 M5 → ((¬ (v5 : Int32) = 0 → q 1 (M5)) ∧ ((v5 : Int32) = 0 → ∃ (q6 : mj_M → Prop), kX0_collapse (k1) g (M5) q6 ∧ ∀ (M6 : mj_M), q6 M6 → (q 1 (M6))))))))))) : LX7_strengthenFirst_2 k0 k1 n1 x2 g M q := by
  intro d hd ex
  refine mg_iload_n dX7_strengthenFirst_2 rfl 2 rfl ?_
  refine mg_aload_n dX7_strengthenFirst_3 rfl 1 rfl ?_
  obtain ⟨q1, hC, hk⟩ := h
  refine mc_Vi [] [.int (x2)] dX7_strengthenFirst_4 wd_407 kiX0_size (Nat.le_of_ble_eq_true rfl) h1.1.1 h1.1.2 rfl (Nat.le_trans (Nat.le_of_ble_eq_true rfl) hd) hC (fun v1 M1 hq => ?_)
  replace h := hk v1 M1 hq
  refine mg_icmp_ge (tgt := 58) dX7_strengthenFirst_7 (by decide) (fun hc => ?_) (fun hc => ?_)
  · replace h := h.1 hc
    refine mg_iconst (v := 0) dX7_strengthenFirst_58 (by decide) ?_
    exact me_z dX7_strengthenFirst_59 rfl (Or.inl rfl) h
  · replace h := h.2 hc
    refine mg_aload_n dX7_strengthenFirst_10 rfl 0 rfl ?_
    refine mg_aload_n dX7_strengthenFirst_11 rfl 1 rfl ?_
    refine mg_iload_n dX7_strengthenFirst_12 rfl 2 rfl ?_
    obtain ⟨q2, hC, hk⟩ := h
    refine mc_Vi [.ref (k1), .int (x2)] [] dX7_strengthenFirst_13 wd_466 kiX7_lowestSuperfluous (Nat.le_of_ble_eq_true rfl) h0.1.1 h0.1.2 rfl (Nat.le_trans (Nat.le_of_ble_eq_true rfl) hd) hC (fun v2 M2 hq => ?_)
    replace h := hk v2 M2 hq
    refine mg_istore_n (ls' := [(3, .int (v2)), (0, .ref (k0)), (1, .ref (k1)), (2, .int (x2))]) dX7_strengthenFirst_16 rfl (Nat.le_of_ble_eq_true rfl) rfl ?_
    refine mg_iload_n dX7_strengthenFirst_17 rfl 0 rfl ?_
    refine mg_iconst (v := (-1)) dX7_strengthenFirst_18 (by decide) ?_
    refine mg_icmp_eq (tgt := 52) dX7_strengthenFirst_19 (by decide) (fun hc => ?_) (fun hc => ?_)
    · replace h := h.1 hc
      refine mg_iinc (v := x2 + 1) (ls' := [(2, .int (x2 + 1)), (3, .int (v2)), (0, .ref (k0)), (1, .ref (k1))]) dX7_strengthenFirst_52 3 rfl rfl (Nat.le_of_ble_eq_true rfl) rfl ?_
      refine mg_goto (tgt := 2) dX7_strengthenFirst_55 (by decide) ?_
      exact mg_pick [2, 3, 0] rfl (h d hd ex)
    · replace h := h.2 hc
      refine mg_aload_n dX7_strengthenFirst_22 rfl 2 rfl ?_
      refine mg_iload_n dX7_strengthenFirst_23 rfl 3 rfl ?_
      refine mg_aload_n dX7_strengthenFirst_24 rfl 2 rfl ?_
      refine mg_iload_n dX7_strengthenFirst_25 rfl 3 rfl ?_
      obtain ⟨q3, hC, hk⟩ := h
      refine mc_Vi [.int (x2)] [.int (x2), .ref (k1)] dX7_strengthenFirst_26 wd_408 kiX0_at (Nat.le_of_ble_eq_true rfl) h1.1.1 h1.1.2 rfl (Nat.le_trans (Nat.le_of_ble_eq_true rfl) hd) hC (fun v3 M3 hq => ?_)
      replace h := hk v3 M3 hq
      refine mg_iconst (v := 1) dX7_strengthenFirst_29 (by decide) ?_
      refine mg_iload_n dX7_strengthenFirst_30 rfl 0 rfl ?_
      refine mg_ishl dX7_strengthenFirst_31 ?_
      refine mg_iconst (v := (-1)) dX7_strengthenFirst_32 (by decide) ?_
      refine mg_ixor dX7_strengthenFirst_33 ?_
      refine mg_iand dX7_strengthenFirst_34 ?_
      obtain ⟨q4, hC, hk⟩ := h
      refine mc_Vv [.int (x2), .int ((v3) &&& (((1 : Int32) <<< ((v2) &&& 31)) ^^^ (-1 : Int32)))] [] dX7_strengthenFirst_35 wd_477 kiX0_put (Nat.le_of_ble_eq_true rfl) h1.1.1 h1.1.2 rfl (Nat.le_trans (Nat.le_of_ble_eq_true rfl) hd) hC (fun M4 hq => ?_)
      replace h := hk M4 hq
      refine mg_aload_n dX7_strengthenFirst_38 rfl 2 rfl ?_
      refine mg_iload_n dX7_strengthenFirst_39 rfl 3 rfl ?_
      obtain ⟨q5, hC, hk⟩ := h
      refine mc_Vi [.int (x2)] [] dX7_strengthenFirst_40 wd_408 kiX0_at (Nat.le_of_ble_eq_true rfl) h1.1.1 h1.1.2 rfl (Nat.le_trans (Nat.le_of_ble_eq_true rfl) hd) hC (fun v5 M5 hq => ?_)
      replace h := hk v5 M5 hq
      refine mg_if_ne (tgt := 50) dX7_strengthenFirst_43 (by decide) (fun hc => ?_) (fun hc => ?_)
      · replace h := h.1 hc
        refine mg_iconst (v := 1) dX7_strengthenFirst_50 (by decide) ?_
        exact me_z dX7_strengthenFirst_51 rfl (Or.inr rfl) h
      · replace h := h.2 hc
        refine mg_aload_n dX7_strengthenFirst_46 rfl 2 rfl ?_
        obtain ⟨q6, hC, hk⟩ := h
        refine mc_Vv [] [] dX7_strengthenFirst_47 wd_481 kiX0_collapse (Nat.le_of_ble_eq_true rfl) h1.1.1 h1.1.2 rfl (Nat.le_trans (Nat.le_of_ble_eq_true rfl) hd) hC (fun M6 hq => ?_)
        replace h := hk M6 hq
        refine mg_iconst (v := 1) dX7_strengthenFirst_50 (by decide) ?_
        exact me_z dX7_strengthenFirst_51 rfl (Or.inr rfl) h
theorem dX7_strengthenAll_0 : decode cX7_strengthenAll 0 = .ok (.iconst 0, 1) := by decide +kernel
theorem dX7_strengthenAll_1 : decode cX7_strengthenAll 1 = .ok (.istore_n 2, 1) := by decide +kernel
theorem dX7_strengthenAll_2 : decode cX7_strengthenAll 2 = .ok (.iconst 0, 1) := by decide +kernel
theorem dX7_strengthenAll_3 : decode cX7_strengthenAll 3 = .ok (.istore_n 3, 1) := by decide +kernel
theorem dX7_strengthenAll_4 : decode cX7_strengthenAll 4 = .ok (.iload_n 3, 1) := by decide +kernel
theorem dX7_strengthenAll_5 : decode cX7_strengthenAll 5 = .ok (.ldc 80, 2) := by decide +kernel
theorem dX7_strengthenAll_7 : decode cX7_strengthenAll 7 = .ok (.if_icmp .ge 22, 3) := by decide +kernel
theorem dX7_strengthenAll_10 : decode cX7_strengthenAll 10 = .ok (.aload_n 0, 1) := by decide +kernel
theorem dX7_strengthenAll_11 : decode cX7_strengthenAll 11 = .ok (.aload_n 1, 1) := by decide +kernel
theorem dX7_strengthenAll_12 : decode cX7_strengthenAll 12 = .ok (.invokevirtual 126, 3) := by decide +kernel
theorem dX7_strengthenAll_15 : decode cX7_strengthenAll 15 = .ok (.ifCond .ne 5, 3) := by decide +kernel
theorem dX7_strengthenAll_18 : decode cX7_strengthenAll 18 = .ok (.iload_n 2, 1) := by decide +kernel
theorem dX7_strengthenAll_19 : decode cX7_strengthenAll 19 = .ok (.ireturn, 1) := by decide +kernel
theorem dX7_strengthenAll_20 : decode cX7_strengthenAll 20 = .ok (.iinc 2 1, 3) := by decide +kernel
theorem dX7_strengthenAll_23 : decode cX7_strengthenAll 23 = .ok (.iinc 3 1, 3) := by decide +kernel
theorem dX7_strengthenAll_26 : decode cX7_strengthenAll 26 = .ok (.goto (-22), 3) := by decide +kernel
theorem dX7_strengthenAll_29 : decode cX7_strengthenAll 29 = .ok (.iload_n 2, 1) := by decide +kernel
theorem dX7_strengthenAll_30 : decode cX7_strengthenAll 30 = .ok (.ireturn, 1) := by decide +kernel
abbrev mtX7_strengthenAll : mj_T := (yX7_strengthenAll.cls, cX7_strengthenAll, 4, (some .int), mj_no, yX7_strengthenAll.name)
abbrev kX7_strengthenAll (k0 : Nat) (k1 : Nat) (g : mj_S) (M : mj_M) (q : Int32 → mj_M → Prop) : Prop := mj_CI yX7_strengthenAll (.code yX7_strengthenAll cX7_strengthenAll 4 (some .int)) 3 [.ref (k0), .ref (k1)] g M q
theorem kiX7_strengthenAll : mj_cV yX7_strengthenAll cX7_strengthenAll 4 (some .int) 1 := ⟨⟨wd_460, wp_6, wd_8, wd_461⟩, ⟨by decide +kernel, by decide +kernel, by decide +kernel⟩, Nat.le_of_ble_eq_true rfl⟩
def LX7_strengthenAll_4 (k0 : Nat) (k1 n1 : Nat) (x2 : Int32) (x3 : Int32) (g : mj_S) (M : mj_M) (q : Int32 → mj_M → Prop) : Prop := ∀ d, 3 ≤ d → ∀ ex : Bool, mj_G mtX7_strengthenAll (mj_rm d 0 0) (mj_Fi (mj_qI g q) mj_x0 0 0) ex 0 0 4 [(0, .ref (k0)), (1, .ref (k1)), (2, .int (x2)), (3, .int (x3))] [] g M
theorem eX7_strengthenAll {k0 : Nat} {k1 n1 : Nat} {g : mj_S} {M : mj_M} {q : Int32 → mj_M → Prop} (h0 : is7 g k0) (h1 : is0 g k1 n1) (h : LX7_strengthenAll_4 k0 k1 n1 (0) (0) g (M) q) : kX7_strengthenAll (k0) (k1) g M q := by
  intro d hd; refine mj_enter (by decide +kernel) (Nat.le_of_ble_eq_true rfl) ?_
  generalize (false : Bool) = ex
  show mj_G mtX7_strengthenAll (mj_rm d 0 0) (mj_Fi (mj_qI g q) mj_x0 0 0) ex 0 0 0 [(0, .ref (k0)), (1, .ref (k1))] [] g M
  refine mg_iconst (v := 0) dX7_strengthenAll_0 (by decide) ?_
  refine mg_istore_n (ls' := [(2, .int (0)), (0, .ref (k0)), (1, .ref (k1))]) dX7_strengthenAll_1 rfl (Nat.le_of_ble_eq_true rfl) rfl ?_
  refine mg_iconst (v := 0) dX7_strengthenAll_2 (by decide) ?_
  refine mg_istore_n (ls' := [(3, .int (0)), (2, .int (0)), (0, .ref (k0)), (1, .ref (k1))]) dX7_strengthenAll_3 rfl (Nat.le_of_ble_eq_true rfl) rfl ?_
  exact mg_pick [2, 3, 1, 0] rfl (h d hd ex)
theorem bX7_strengthenAll_4 {k0 : Nat} {k1 n1 : Nat} {x2 : Int32} {x3 : Int32} {g : mj_S} {M : mj_M} {q : Int32 → mj_M → Prop} (h0 : is7 g k0) (h1 : is0 g k1 n1) (h : ((1000000 : Int32) ≤ (x3) → q (x2) (M)) ∧ (¬ (1000000 : Int32) ≤ (x3) → ∃ (q1 : Int32 → mj_M → Prop), kX7_strengthenFirst (k0) (k1) g (M) q1 ∧ ∀ (v1 : Int32) (M1 : mj_M), q1 v1 M1 → ((¬ (v1 : Int32) = 0 → LX7_strengthenAll_4 k0 k1 n1 (x2 + 1) (x3 + 1) g (M1) q) ∧ ((v1 : Int32) = 0 → q (x2) (M1))))) : LX7_strengthenAll_4 k0 k1 n1 x2 x3 g M q := by
  intro d hd ex
  refine mg_iload_n dX7_strengthenAll_4 rfl 3 rfl ?_
  refine mg_ldc (v := 1000000) dX7_strengthenAll_5 wd_402 ?_
  refine mg_icmp_ge (tgt := 29) dX7_strengthenAll_7 (by decide) (fun hc => ?_) (fun hc => ?_)
  · replace h := h.1 hc
    refine mg_iload_n dX7_strengthenAll_29 rfl 2 rfl ?_
    exact me_i dX7_strengthenAll_30 rfl h
  · replace h := h.2 hc
    refine mg_aload_n dX7_strengthenAll_10 rfl 0 rfl ?_
    refine mg_aload_n dX7_strengthenAll_11 rfl 1 rfl ?_
    obtain ⟨q1, hC, hk⟩ := h
    refine mc_Vi [.ref (k1)] [] dX7_strengthenAll_12 wd_462 kiX7_strengthenFirst (Nat.le_of_ble_eq_true rfl) h0.1.1 h0.1.2 rfl (Nat.le_trans (Nat.le_of_ble_eq_true rfl) hd) hC (fun v1 M1 hq => ?_)
    replace h := hk v1 M1 hq
    refine mg_if_ne (tgt := 20) dX7_strengthenAll_15 (by decide) (fun hc => ?_) (fun hc => ?_)
    · replace h := h.1 hc
      refine mg_iinc (v := x2 + 1) (ls' := [(2, .int (x2 + 1)), (0, .ref (k0)), (1, .ref (k1)), (3, .int (x3))]) dX7_strengthenAll_20 2 rfl rfl (Nat.le_of_ble_eq_true rfl) rfl ?_
      refine mg_iinc (v := x3 + 1) (ls' := [(3, .int (x3 + 1)), (2, .int (x2 + 1)), (0, .ref (k0)), (1, .ref (k1))]) dX7_strengthenAll_23 3 rfl rfl (Nat.le_of_ble_eq_true rfl) rfl ?_
      refine mg_goto (tgt := 4) dX7_strengthenAll_26 (by decide) ?_
      exact mg_pick [2, 3, 1, 0] rfl (h d hd ex)
    · replace h := h.2 hc
      refine mg_iload_n dX7_strengthenAll_18 rfl 2 rfl ?_
      exact me_i dX7_strengthenAll_19 rfl h
theorem dX7_findElimination_0 : decode cX7_findElimination 0 = .ok (.aload_n 1, 1) := by decide +kernel
theorem dX7_findElimination_1 : decode cX7_findElimination 1 = .ok (.getfield 32, 3) := by decide +kernel
theorem dX7_findElimination_4 : decode cX7_findElimination 4 = .ok (.iconst 2, 1) := by decide +kernel
theorem dX7_findElimination_5 : decode cX7_findElimination 5 = .ok (.iload_n 2, 1) := by decide +kernel
theorem dX7_findElimination_6 : decode cX7_findElimination 6 = .ok (.imul, 1) := by decide +kernel
theorem dX7_findElimination_7 : decode cX7_findElimination 7 = .ok (.invokevirtual 164, 3) := by decide +kernel
theorem dX7_findElimination_10 : decode cX7_findElimination 10 = .ok (.istore_n 3, 1) := by decide +kernel
theorem dX7_findElimination_11 : decode cX7_findElimination 11 = .ok (.iload_n 3, 1) := by decide +kernel
theorem dX7_findElimination_12 : decode cX7_findElimination 12 = .ok (.aload_n 1, 1) := by decide +kernel
theorem dX7_findElimination_13 : decode cX7_findElimination 13 = .ok (.getfield 32, 3) := by decide +kernel
theorem dX7_findElimination_16 : decode cX7_findElimination 16 = .ok (.iconst 2, 1) := by decide +kernel
theorem dX7_findElimination_17 : decode cX7_findElimination 17 = .ok (.iload_n 2, 1) := by decide +kernel
theorem dX7_findElimination_18 : decode cX7_findElimination 18 = .ok (.imul, 1) := by decide +kernel
theorem dX7_findElimination_19 : decode cX7_findElimination 19 = .ok (.iconst 1, 1) := by decide +kernel
theorem dX7_findElimination_20 : decode cX7_findElimination 20 = .ok (.iadd, 1) := by decide +kernel
theorem dX7_findElimination_21 : decode cX7_findElimination 21 = .ok (.invokevirtual 164, 3) := by decide +kernel
theorem dX7_findElimination_24 : decode cX7_findElimination 24 = .ok (.iadd, 1) := by decide +kernel
theorem dX7_findElimination_25 : decode cX7_findElimination 25 = .ok (.istore 4, 2) := by decide +kernel
theorem dX7_findElimination_27 : decode cX7_findElimination 27 = .ok (.aload_n 1, 1) := by decide +kernel
theorem dX7_findElimination_28 : decode cX7_findElimination 28 = .ok (.iload_n 2, 1) := by decide +kernel
theorem dX7_findElimination_29 : decode cX7_findElimination 29 = .ok (.invokevirtual 111, 3) := by decide +kernel
theorem dX7_findElimination_32 : decode cX7_findElimination 32 = .ok (.ifCond .eq 19, 3) := by decide +kernel
theorem dX7_findElimination_35 : decode cX7_findElimination 35 = .ok (.iload 4, 2) := by decide +kernel
theorem dX7_findElimination_37 : decode cX7_findElimination 37 = .ok (.ifCond .eq 14, 3) := by decide +kernel
theorem dX7_findElimination_40 : decode cX7_findElimination 40 = .ok (.aload_n 1, 1) := by decide +kernel
theorem dX7_findElimination_41 : decode cX7_findElimination 41 = .ok (.getfield 167, 3) := by decide +kernel
theorem dX7_findElimination_44 : decode cX7_findElimination 44 = .ok (.iload_n 3, 1) := by decide +kernel
theorem dX7_findElimination_45 : decode cX7_findElimination 45 = .ok (.iadd, 1) := by decide +kernel
theorem dX7_findElimination_46 : decode cX7_findElimination 46 = .ok (.bipush 120, 2) := by decide +kernel
theorem dX7_findElimination_48 : decode cX7_findElimination 48 = .ok (.if_icmp .le 5, 3) := by decide +kernel
theorem dX7_findElimination_51 : decode cX7_findElimination 51 = .ok (.iconst 0, 1) := by decide +kernel
theorem dX7_findElimination_52 : decode cX7_findElimination 52 = .ok (.ireturn, 1) := by decide +kernel
theorem dX7_findElimination_53 : decode cX7_findElimination 53 = .ok (.aload_n 1, 1) := by decide +kernel
theorem dX7_findElimination_54 : decode cX7_findElimination 54 = .ok (.getfield 32, 3) := by decide +kernel
theorem dX7_findElimination_57 : decode cX7_findElimination 57 = .ok (.invokevirtual 88, 3) := by decide +kernel
theorem dX7_findElimination_60 : decode cX7_findElimination 60 = .ok (.iload 4, 2) := by decide +kernel
theorem dX7_findElimination_62 : decode cX7_findElimination 62 = .ok (.isub, 1) := by decide +kernel
theorem dX7_findElimination_63 : decode cX7_findElimination 63 = .ok (.istore 5, 2) := by decide +kernel
theorem dX7_findElimination_65 : decode cX7_findElimination 65 = .ok (.iload 4, 2) := by decide +kernel
theorem dX7_findElimination_67 : decode cX7_findElimination 67 = .ok (.aload_n 1, 1) := by decide +kernel
theorem dX7_findElimination_68 : decode cX7_findElimination 68 = .ok (.getfield 170, 3) := by decide +kernel
theorem dX7_findElimination_71 : decode cX7_findElimination 71 = .ok (.iadd, 1) := by decide +kernel
theorem dX7_findElimination_72 : decode cX7_findElimination 72 = .ok (.bipush 48, 2) := by decide +kernel
theorem dX7_findElimination_74 : decode cX7_findElimination 74 = .ok (.iload 5, 2) := by decide +kernel
theorem dX7_findElimination_76 : decode cX7_findElimination 76 = .ok (.isub, 1) := by decide +kernel
theorem dX7_findElimination_77 : decode cX7_findElimination 77 = .ok (.invokestatic 143, 3) := by decide +kernel
theorem dX7_findElimination_80 : decode cX7_findElimination 80 = .ok (.istore 6, 2) := by decide +kernel
theorem dX7_findElimination_82 : decode cX7_findElimination 82 = .ok (.aload_n 0, 1) := by decide +kernel
theorem dX7_findElimination_83 : decode cX7_findElimination 83 = .ok (.getfield 12, 3) := by decide +kernel
theorem dX7_findElimination_86 : decode cX7_findElimination 86 = .ok (.aload_n 1, 1) := by decide +kernel
theorem dX7_findElimination_87 : decode cX7_findElimination 87 = .ok (.getfield 32, 3) := by decide +kernel
theorem dX7_findElimination_90 : decode cX7_findElimination 90 = .ok (.iload_n 2, 1) := by decide +kernel
theorem dX7_findElimination_91 : decode cX7_findElimination 91 = .ok (.iload 6, 2) := by decide +kernel
theorem dX7_findElimination_93 : decode cX7_findElimination 93 = .ok (.invokevirtual 173, 3) := by decide +kernel
theorem dX7_findElimination_96 : decode cX7_findElimination 96 = .ok (.aload_n 0, 1) := by decide +kernel
theorem dX7_findElimination_97 : decode cX7_findElimination 97 = .ok (.getfield 12, 3) := by decide +kernel
theorem dX7_findElimination_100 : decode cX7_findElimination 100 = .ok (.getfield 161, 3) := by decide +kernel
theorem dX7_findElimination_103 : decode cX7_findElimination 103 = .ok (.invokevirtual 88, 3) := by decide +kernel
theorem dX7_findElimination_106 : decode cX7_findElimination 106 = .ok (.iload 6, 2) := by decide +kernel
theorem dX7_findElimination_108 : decode cX7_findElimination 108 = .ok (.if_icmp .gt 7, 3) := by decide +kernel
theorem dX7_findElimination_111 : decode cX7_findElimination 111 = .ok (.iconst 1, 1) := by decide +kernel
theorem dX7_findElimination_112 : decode cX7_findElimination 112 = .ok (.goto 4, 3) := by decide +kernel
theorem dX7_findElimination_115 : decode cX7_findElimination 115 = .ok (.iconst 0, 1) := by decide +kernel
theorem dX7_findElimination_116 : decode cX7_findElimination 116 = .ok (.ireturn, 1) := by decide +kernel
abbrev mtX7_findElimination : mj_T := (yX7_findElimination.cls, cX7_findElimination, 7, (some .boolean), mj_no, yX7_findElimination.name)
abbrev kX7_findElimination (k0 : Nat) (k1 : Nat) (x2 : Int32) (g : mj_S) (M : mj_M) (q : Int32 → mj_M → Prop) : Prop := mj_CI yX7_findElimination (.code yX7_findElimination cX7_findElimination 7 (some .boolean)) 2 [.ref (k0), .ref (k1), .int (x2)] g M q
theorem kiX7_findElimination : mj_cV yX7_findElimination cX7_findElimination 7 (some .boolean) 2 := ⟨⟨wd_492, wd_493, wd_8, wd_494⟩, ⟨by decide +kernel, by decide +kernel, by decide +kernel⟩, Nat.le_of_ble_eq_true rfl⟩
theorem eX7_findElimination {k0 : Nat} {k1 : Nat} {x2 : Int32} {g : mj_S} {M : mj_M} {q : Int32 → mj_M → Prop} (h0 : is7 g k0) (h1 : is6 g k1) (h : ∃ (q1 : Int32 → mj_M → Prop), kX0_countContaining (k1 + 1) ((2 : Int32) * (x2)) g (M) q1 ∧ ∀ (v1 : Int32) (M1 : mj_M), q1 v1 M1 → (∃ (q2 : Int32 → mj_M → Prop), kX0_countContaining (k1 + 1) (((2 : Int32) * (x2)) + (1 : Int32)) g (M1) q2 ∧ ∀ (v2 : Int32) (M2 : mj_M), q2 v2 M2 → (∃ (q3 : Int32 → mj_M → Prop), kX6_isActive (k1) (x2) g (M2) q3 ∧ ∀ (v3 : Int32) (M3 : mj_M), q3 v3 M3 → (((v3 : Int32) = 0 → q 0 (M3)) ∧ (¬ (v3 : Int32) = 0 → (((v1) + (v2) : Int32) = 0 → q 0 (M3)) ∧ (¬ ((v1) + (v2) : Int32) = 0 → ((((M3).1 (k1) 2) + (v1) : Int32) ≤ (120 : Int32) → ∃ (q4 : Int32 → mj_M → Prop), kX0_size (k1 + 1) g (M3) q4 ∧ ∀ (v4 : Int32) (M4 : mj_M), q4 v4 M4 → (∃ (q5 : mj_M → Prop), kX5_find (k0 + 1) (k1 + 1) (x2) (if ((48 : Int32) - ((v4) - ((v1) + (v2)))) < (((v1) + (v2)) + ((M4).1 (k1) 1)) then ((48 : Int32) - ((v4) - ((v1) + (v2)))) else (((v1) + (v2)) + ((M4).1 (k1) 1))) g (M4) q5 ∧ ∀ (M5 : mj_M), q5 M5 → (∃ (q6 : Int32 → mj_M → Prop), kX0_size (k0 + 1 + 1) g (M5) q6 ∧ ∀ (v6 : Int32) (M6 : mj_M), q6 v6 M6 → (((if ((48 : Int32) - ((v4) - ((v1) + (v2)))) < (((v1) + (v2)) + ((M4).1 (k1) 1)) then ((48 : Int32) - ((v4) - ((v1) + (v2)))) else (((v1) + (v2)) + ((M4).1 (k1) 1)) : Int32) < (v6) → q 0 (M6)) ∧ (¬ (if ((48 : Int32) - ((v4) - ((v1) + (v2)))) < (((v1) + (v2)) + ((M4).1 (k1) 1)) then ((48 : Int32) - ((v4) - ((v1) + (v2)))) else (((v1) + (v2)) + ((M4).1 (k1) 1)) : Int32) < (v6) → q 1 (M6)))))) ∧ (¬ (((M3).1 (k1) 2) + (v1) : Int32) ≤ (120 : Int32) → q 0 (M3)))))))) : kX7_findElimination (k0) (k1) (x2) g M q := by
  intro d hd; refine mj_enter (by decide +kernel) (Nat.le_of_ble_eq_true rfl) ?_
  generalize (false : Bool) = ex
  show mj_G mtX7_findElimination (mj_rm d 0 0) (mj_Fi (mj_qI g q) mj_x0 0 0) ex 0 0 0 [(0, .ref (k0)), (1, .ref (k1)), (2, .int (x2))] [] g M
  refine mg_aload_n dX7_findElimination_0 rfl 1 rfl ?_
  refine mg_getR (j := 3) dX7_findElimination_1 kc_6 (Nat.le_of_ble_eq_true rfl) wd_74 rfl rfl h1.1.1 h1.1.2 h1.2.1.1 ?_
  refine mg_iconst (v := 2) dX7_findElimination_4 (by decide) ?_
  refine mg_iload_n dX7_findElimination_5 rfl 2 rfl ?_
  refine mg_imul dX7_findElimination_6 ?_
  obtain ⟨q1, hC, hk⟩ := h
  refine mc_Vi [.int ((2 : Int32) * (x2))] [] dX7_findElimination_7 wd_495 kiX0_countContaining (Nat.le_of_ble_eq_true rfl) h1.2.1.2.1.1 h1.2.1.2.1.2 rfl (Nat.le_trans (Nat.le_of_ble_eq_true rfl) hd) hC (fun v1 M1 hq => ?_)
  replace h := hk v1 M1 hq
  refine mg_istore_n (ls' := [(3, .int (v1)), (0, .ref (k0)), (1, .ref (k1)), (2, .int (x2))]) dX7_findElimination_10 rfl (Nat.le_of_ble_eq_true rfl) rfl ?_
  refine mg_iload_n dX7_findElimination_11 rfl 0 rfl ?_
  refine mg_aload_n dX7_findElimination_12 rfl 2 rfl ?_
  refine mg_getR (j := 3) dX7_findElimination_13 kc_6 (Nat.le_of_ble_eq_true rfl) wd_74 rfl rfl h1.1.1 h1.1.2 h1.2.1.1 ?_
  refine mg_iconst (v := 2) dX7_findElimination_16 (by decide) ?_
  refine mg_iload_n dX7_findElimination_17 rfl 3 rfl ?_
  refine mg_imul dX7_findElimination_18 ?_
  refine mg_iconst (v := 1) dX7_findElimination_19 (by decide) ?_
  refine mg_iadd dX7_findElimination_20 ?_
  obtain ⟨q2, hC, hk⟩ := h
  refine mc_Vi [.int (((2 : Int32) * (x2)) + (1 : Int32))] [.int (v1)] dX7_findElimination_21 wd_495 kiX0_countContaining (Nat.le_of_ble_eq_true rfl) h1.2.1.2.1.1 h1.2.1.2.1.2 rfl (Nat.le_trans (Nat.le_of_ble_eq_true rfl) hd) hC (fun v2 M2 hq => ?_)
  replace h := hk v2 M2 hq
  refine mg_iadd dX7_findElimination_24 ?_
  refine mg_istore (ls' := [(4, .int ((v1) + (v2))), (3, .int (v1)), (0, .ref (k0)), (1, .ref (k1)), (2, .int (x2))]) dX7_findElimination_25 (Nat.le_of_ble_eq_true rfl) rfl ?_
  refine mg_aload_n dX7_findElimination_27 rfl 3 rfl ?_
  refine mg_iload_n dX7_findElimination_28 rfl 4 rfl ?_
  obtain ⟨q3, hC, hk⟩ := h
  refine mc_Vi [.int (x2)] [] dX7_findElimination_29 wd_442 kiX6_isActive (Nat.le_of_ble_eq_true rfl) h1.1.1 h1.1.2 rfl (Nat.le_trans (Nat.le_of_ble_eq_true rfl) hd) hC (fun v3 M3 hq => ?_)
  replace h := hk v3 M3 hq
  refine mg_if_eq (tgt := 51) dX7_findElimination_32 (by decide) (fun hc => ?_) (fun hc => ?_)
  · replace h := h.1 hc
    refine mg_iconst (v := 0) dX7_findElimination_51 (by decide) ?_
    exact me_z dX7_findElimination_52 rfl (Or.inl rfl) h
  · replace h := h.2 hc
    refine mg_iload dX7_findElimination_35 0 rfl ?_
    refine mg_if_eq (tgt := 51) dX7_findElimination_37 (by decide) (fun hc => ?_) (fun hc => ?_)
    · replace h := h.1 hc
      refine mg_iconst (v := 0) dX7_findElimination_51 (by decide) ?_
      exact me_z dX7_findElimination_52 rfl (Or.inl rfl) h
    · replace h := h.2 hc
      refine mg_aload_n dX7_findElimination_40 rfl 3 rfl ?_
      refine mg_getI (j := 2) dX7_findElimination_41 kc_6 (Nat.le_of_ble_eq_true rfl) wd_71 rfl rfl h1.1.1 h1.1.2 rfl ?_
      refine mg_iload_n dX7_findElimination_44 rfl 1 rfl ?_
      refine mg_iadd dX7_findElimination_45 ?_
      refine mg_bipush (v := 120) dX7_findElimination_46 (by decide) ?_
      refine mg_icmp_le (tgt := 53) dX7_findElimination_48 (by decide) (fun hc => ?_) (fun hc => ?_)
      · replace h := h.1 hc
        refine mg_aload_n dX7_findElimination_53 rfl 3 rfl ?_
        refine mg_getR (j := 3) dX7_findElimination_54 kc_6 (Nat.le_of_ble_eq_true rfl) wd_74 rfl rfl h1.1.1 h1.1.2 h1.2.1.1 ?_
        obtain ⟨q4, hC, hk⟩ := h
        refine mc_Vi [] [] dX7_findElimination_57 wd_407 kiX0_size (Nat.le_of_ble_eq_true rfl) h1.2.1.2.1.1 h1.2.1.2.1.2 rfl (Nat.le_trans (Nat.le_of_ble_eq_true rfl) hd) hC (fun v4 M4 hq => ?_)
        replace h := hk v4 M4 hq
        refine mg_iload dX7_findElimination_60 0 rfl ?_
        refine mg_isub dX7_findElimination_62 ?_
        refine mg_istore (ls' := [(5, .int ((v4) - ((v1) + (v2)))), (4, .int ((v1) + (v2))), (3, .int (v1)), (0, .ref (k0)), (1, .ref (k1)), (2, .int (x2))]) dX7_findElimination_63 (Nat.le_of_ble_eq_true rfl) rfl ?_
        refine mg_iload dX7_findElimination_65 1 rfl ?_
        refine mg_aload_n dX7_findElimination_67 rfl 4 rfl ?_
        refine mg_getI (j := 1) dX7_findElimination_68 kc_6 (Nat.le_of_ble_eq_true rfl) wd_68 rfl rfl h1.1.1 h1.1.2 rfl ?_
        refine mg_iadd dX7_findElimination_71 ?_
        refine mg_bipush (v := 48) dX7_findElimination_72 (by decide) ?_
        refine mg_iload dX7_findElimination_74 0 rfl ?_
        refine mg_isub dX7_findElimination_76 ?_
        refine mg_mmin dX7_findElimination_77 wd_474 (Nat.le_trans (Nat.le_of_ble_eq_true rfl) hd) (Nat.le_of_ble_eq_true rfl) ?_
        refine mg_istore (ls' := [(6, .int (if ((48 : Int32) - ((v4) - ((v1) + (v2)))) < (((v1) + (v2)) + ((M4).1 (k1) 1)) then ((48 : Int32) - ((v4) - ((v1) + (v2)))) else (((v1) + (v2)) + ((M4).1 (k1) 1)))), (5, .int ((v4) - ((v1) + (v2)))), (4, .int ((v1) + (v2))), (3, .int (v1)), (0, .ref (k0)), (1, .ref (k1)), (2, .int (x2))]) dX7_findElimination_80 (Nat.le_of_ble_eq_true rfl) rfl ?_
        refine mg_aload_n dX7_findElimination_82 rfl 4 rfl ?_
        refine mg_getR (j := 0) dX7_findElimination_83 kc_7 (Nat.le_of_ble_eq_true rfl) wd_218 rfl rfl h0.1.1 h0.1.2 h0.2.1.1 ?_
        refine mg_aload_n dX7_findElimination_86 rfl 5 rfl ?_
        refine mg_getR (j := 3) dX7_findElimination_87 kc_6 (Nat.le_of_ble_eq_true rfl) wd_74 rfl rfl h1.1.1 h1.1.2 h1.2.1.1 ?_
        refine mg_iload_n dX7_findElimination_90 rfl 6 rfl ?_
        refine mg_iload dX7_findElimination_91 0 rfl ?_
        obtain ⟨q5, hC, hk⟩ := h
        refine mc_Vv [.ref (k1 + 1), .int (x2), .int (if ((48 : Int32) - ((v4) - ((v1) + (v2)))) < (((v1) + (v2)) + ((M4).1 (k1) 1)) then ((48 : Int32) - ((v4) - ((v1) + (v2)))) else (((v1) + (v2)) + ((M4).1 (k1) 1)))] [] dX7_findElimination_93 wd_500 kiX5_find (Nat.le_of_ble_eq_true rfl) h0.2.1.2.1.1 h0.2.1.2.1.2 rfl (Nat.le_trans (Nat.le_of_ble_eq_true rfl) hd) hC (fun M5 hq => ?_)
        replace h := hk M5 hq
        refine mg_aload_n dX7_findElimination_96 rfl 4 rfl ?_
        refine mg_getR (j := 0) dX7_findElimination_97 kc_7 (Nat.le_of_ble_eq_true rfl) wd_218 rfl rfl h0.1.1 h0.1.2 h0.2.1.1 ?_
        refine mg_getR (j := 0) dX7_findElimination_100 kc_5 (Nat.le_of_ble_eq_true rfl) wd_177 rfl rfl h0.2.1.2.1.1 h0.2.1.2.1.2 h0.2.1.2.2.1 ?_
        obtain ⟨q6, hC, hk⟩ := h
        refine mc_Vi [] [] dX7_findElimination_103 wd_407 kiX0_size (Nat.le_of_ble_eq_true rfl) h0.2.1.2.2.2.1.1 h0.2.1.2.2.2.1.2 rfl (Nat.le_trans (Nat.le_of_ble_eq_true rfl) hd) hC (fun v6 M6 hq => ?_)
        replace h := hk v6 M6 hq
        refine mg_iload dX7_findElimination_106 0 rfl ?_
        refine mg_icmp_gt (tgt := 115) dX7_findElimination_108 (by decide) (fun hc => ?_) (fun hc => ?_)
        · replace h := h.1 hc
          refine mg_iconst (v := 0) dX7_findElimination_115 (by decide) ?_
          exact me_z dX7_findElimination_116 rfl (Or.inl rfl) h
        · replace h := h.2 hc
          refine mg_iconst (v := 1) dX7_findElimination_111 (by decide) ?_
          refine mg_goto (tgt := 116) dX7_findElimination_112 (by decide) ?_
          exact me_z dX7_findElimination_116 rfl (Or.inr rfl) h
      · replace h := h.2 hc
        refine mg_iconst (v := 0) dX7_findElimination_51 (by decide) ?_
        exact me_z dX7_findElimination_52 rfl (Or.inl rfl) h
theorem dX7_cheapestVariable_0 : decode cX7_cheapestVariable 0 = .ok (.iconst (-1), 1) := by decide +kernel
theorem dX7_cheapestVariable_1 : decode cX7_cheapestVariable 1 = .ok (.istore_n 2, 1) := by decide +kernel
theorem dX7_cheapestVariable_2 : decode cX7_cheapestVariable 2 = .ok (.ldc 160, 2) := by decide +kernel
theorem dX7_cheapestVariable_4 : decode cX7_cheapestVariable 4 = .ok (.istore_n 3, 1) := by decide +kernel
theorem dX7_cheapestVariable_5 : decode cX7_cheapestVariable 5 = .ok (.iconst 0, 1) := by decide +kernel
theorem dX7_cheapestVariable_6 : decode cX7_cheapestVariable 6 = .ok (.istore 4, 2) := by decide +kernel
theorem dX7_cheapestVariable_8 : decode cX7_cheapestVariable 8 = .ok (.iload 4, 2) := by decide +kernel
theorem dX7_cheapestVariable_10 : decode cX7_cheapestVariable 10 = .ok (.aload_n 1, 1) := by decide +kernel
theorem dX7_cheapestVariable_11 : decode cX7_cheapestVariable 11 = .ok (.getfield 107, 3) := by decide +kernel
theorem dX7_cheapestVariable_14 : decode cX7_cheapestVariable 14 = .ok (.if_icmp .ge 69, 3) := by decide +kernel
theorem dX7_cheapestVariable_17 : decode cX7_cheapestVariable 17 = .ok (.aload_n 0, 1) := by decide +kernel
theorem dX7_cheapestVariable_18 : decode cX7_cheapestVariable 18 = .ok (.aload_n 1, 1) := by decide +kernel
theorem dX7_cheapestVariable_19 : decode cX7_cheapestVariable 19 = .ok (.iload 4, 2) := by decide +kernel
theorem dX7_cheapestVariable_21 : decode cX7_cheapestVariable 21 = .ok (.invokevirtual 152, 3) := by decide +kernel
theorem dX7_cheapestVariable_24 : decode cX7_cheapestVariable 24 = .ok (.ifCond .eq 53, 3) := by decide +kernel
theorem dX7_cheapestVariable_27 : decode cX7_cheapestVariable 27 = .ok (.aload_n 0, 1) := by decide +kernel
theorem dX7_cheapestVariable_28 : decode cX7_cheapestVariable 28 = .ok (.getfield 12, 3) := by decide +kernel
theorem dX7_cheapestVariable_31 : decode cX7_cheapestVariable 31 = .ok (.getfield 161, 3) := by decide +kernel
theorem dX7_cheapestVariable_34 : decode cX7_cheapestVariable 34 = .ok (.invokevirtual 88, 3) := by decide +kernel
theorem dX7_cheapestVariable_37 : decode cX7_cheapestVariable 37 = .ok (.aload_n 1, 1) := by decide +kernel
theorem dX7_cheapestVariable_38 : decode cX7_cheapestVariable 38 = .ok (.getfield 32, 3) := by decide +kernel
theorem dX7_cheapestVariable_41 : decode cX7_cheapestVariable 41 = .ok (.iconst 2, 1) := by decide +kernel
theorem dX7_cheapestVariable_42 : decode cX7_cheapestVariable 42 = .ok (.iload 4, 2) := by decide +kernel
theorem dX7_cheapestVariable_44 : decode cX7_cheapestVariable 44 = .ok (.imul, 1) := by decide +kernel
theorem dX7_cheapestVariable_45 : decode cX7_cheapestVariable 45 = .ok (.invokevirtual 164, 3) := by decide +kernel
theorem dX7_cheapestVariable_48 : decode cX7_cheapestVariable 48 = .ok (.isub, 1) := by decide +kernel
theorem dX7_cheapestVariable_49 : decode cX7_cheapestVariable 49 = .ok (.aload_n 1, 1) := by decide +kernel
theorem dX7_cheapestVariable_50 : decode cX7_cheapestVariable 50 = .ok (.getfield 32, 3) := by decide +kernel
theorem dX7_cheapestVariable_53 : decode cX7_cheapestVariable 53 = .ok (.iconst 2, 1) := by decide +kernel
theorem dX7_cheapestVariable_54 : decode cX7_cheapestVariable 54 = .ok (.iload 4, 2) := by decide +kernel
theorem dX7_cheapestVariable_56 : decode cX7_cheapestVariable 56 = .ok (.imul, 1) := by decide +kernel
theorem dX7_cheapestVariable_57 : decode cX7_cheapestVariable 57 = .ok (.iconst 1, 1) := by decide +kernel
theorem dX7_cheapestVariable_58 : decode cX7_cheapestVariable 58 = .ok (.iadd, 1) := by decide +kernel
theorem dX7_cheapestVariable_59 : decode cX7_cheapestVariable 59 = .ok (.invokevirtual 164, 3) := by decide +kernel
theorem dX7_cheapestVariable_62 : decode cX7_cheapestVariable 62 = .ok (.isub, 1) := by decide +kernel
theorem dX7_cheapestVariable_63 : decode cX7_cheapestVariable 63 = .ok (.istore 5, 2) := by decide +kernel
theorem dX7_cheapestVariable_65 : decode cX7_cheapestVariable 65 = .ok (.iload 5, 2) := by decide +kernel
theorem dX7_cheapestVariable_67 : decode cX7_cheapestVariable 67 = .ok (.iload_n 3, 1) := by decide +kernel
theorem dX7_cheapestVariable_68 : decode cX7_cheapestVariable 68 = .ok (.if_icmp .ge 9, 3) := by decide +kernel
theorem dX7_cheapestVariable_71 : decode cX7_cheapestVariable 71 = .ok (.iload 4, 2) := by decide +kernel
theorem dX7_cheapestVariable_73 : decode cX7_cheapestVariable 73 = .ok (.istore_n 2, 1) := by decide +kernel
theorem dX7_cheapestVariable_74 : decode cX7_cheapestVariable 74 = .ok (.iload 5, 2) := by decide +kernel
theorem dX7_cheapestVariable_76 : decode cX7_cheapestVariable 76 = .ok (.istore_n 3, 1) := by decide +kernel
theorem dX7_cheapestVariable_77 : decode cX7_cheapestVariable 77 = .ok (.iinc 4 1, 3) := by decide +kernel
theorem dX7_cheapestVariable_80 : decode cX7_cheapestVariable 80 = .ok (.goto (-72), 3) := by decide +kernel
theorem dX7_cheapestVariable_83 : decode cX7_cheapestVariable 83 = .ok (.iload_n 2, 1) := by decide +kernel
theorem dX7_cheapestVariable_84 : decode cX7_cheapestVariable 84 = .ok (.ireturn, 1) := by decide +kernel
abbrev mtX7_cheapestVariable : mj_T := (yX7_cheapestVariable.cls, cX7_cheapestVariable, 6, (some .int), mj_no, yX7_cheapestVariable.name)
abbrev kX7_cheapestVariable (k0 : Nat) (k1 : Nat) (g : mj_S) (M : mj_M) (q : Int32 → mj_M → Prop) : Prop := mj_CI yX7_cheapestVariable (.code yX7_cheapestVariable cX7_cheapestVariable 6 (some .int)) 3 [.ref (k0), .ref (k1)] g M q
theorem kiX7_cheapestVariable : mj_cV yX7_cheapestVariable cX7_cheapestVariable 6 (some .int) 1 := ⟨⟨wd_488, wp_10, wd_8, wd_489⟩, ⟨by decide +kernel, by decide +kernel, by decide +kernel⟩, Nat.le_of_ble_eq_true rfl⟩
def LX7_cheapestVariable_8 (k0 : Nat) (k1 : Nat) (x2 : Int32) (x3 : Int32) (x4 : Int32) (g : mj_S) (M : mj_M) (q : Int32 → mj_M → Prop) : Prop := ∀ d, 3 ≤ d → ∀ ex : Bool, mj_G mtX7_cheapestVariable (mj_rm d 0 0) (mj_Fi (mj_qI g q) mj_x0 0 0) ex 0 0 8 [(0, .ref (k0)), (1, .ref (k1)), (2, .int (x2)), (3, .int (x3)), (4, .int (x4))] [] g M
theorem eX7_cheapestVariable {k0 : Nat} {k1 : Nat} {g : mj_S} {M : mj_M} {q : Int32 → mj_M → Prop} (h0 : is7 g k0) (h1 : is6 g k1) (h : LX7_cheapestVariable_8 k0 k1 ((-1)) (2147483647) (0) g (M) q) : kX7_cheapestVariable (k0) (k1) g M q := by
  intro d hd; refine mj_enter (by decide +kernel) (Nat.le_of_ble_eq_true rfl) ?_
  generalize (false : Bool) = ex
  show mj_G mtX7_cheapestVariable (mj_rm d 0 0) (mj_Fi (mj_qI g q) mj_x0 0 0) ex 0 0 0 [(0, .ref (k0)), (1, .ref (k1))] [] g M
  refine mg_iconst (v := (-1)) dX7_cheapestVariable_0 (by decide) ?_
  refine mg_istore_n (ls' := [(2, .int ((-1))), (0, .ref (k0)), (1, .ref (k1))]) dX7_cheapestVariable_1 rfl (Nat.le_of_ble_eq_true rfl) rfl ?_
  refine mg_ldc (v := 2147483647) dX7_cheapestVariable_2 wd_490 ?_
  refine mg_istore_n (ls' := [(3, .int (2147483647)), (2, .int ((-1))), (0, .ref (k0)), (1, .ref (k1))]) dX7_cheapestVariable_4 rfl (Nat.le_of_ble_eq_true rfl) rfl ?_
  refine mg_iconst (v := 0) dX7_cheapestVariable_5 (by decide) ?_
  refine mg_istore (ls' := [(4, .int (0)), (3, .int (2147483647)), (2, .int ((-1))), (0, .ref (k0)), (1, .ref (k1))]) dX7_cheapestVariable_6 (Nat.le_of_ble_eq_true rfl) rfl ?_
  exact mg_pick [3, 4, 2, 1, 0] rfl (h d hd ex)
theorem bX7_cheapestVariable_8 {k0 : Nat} {k1 : Nat} {x2 : Int32} {x3 : Int32} {x4 : Int32} {g : mj_S} {M : mj_M} {q : Int32 → mj_M → Prop} (h0 : is7 g k0) (h1 : is6 g k1) (h : (((M).1 (k1) 0 : Int32) ≤ (x4) → q (x2) (M)) ∧ (¬ ((M).1 (k1) 0 : Int32) ≤ (x4) → ∃ (q1 : Int32 → mj_M → Prop), kX7_findElimination (k0) (k1) (x4) g (M) q1 ∧ ∀ (v1 : Int32) (M1 : mj_M), q1 v1 M1 → (((v1 : Int32) = 0 → LX7_cheapestVariable_8 k0 k1 (x2) (x3) (x4 + 1) g (M1) q) ∧ (¬ (v1 : Int32) = 0 → ∃ (q2 : Int32 → mj_M → Prop), kX0_size (k0 + 1 + 1) g (M1) q2 ∧ ∀ (v2 : Int32) (M2 : mj_M), q2 v2 M2 → (∃ (q3 : Int32 → mj_M → Prop), kX0_countContaining (k1 + 1) ((2 : Int32) * (x4)) g (M2) q3 ∧ ∀ (v3 : Int32) (M3 : mj_M), q3 v3 M3 → (∃ (q4 : Int32 → mj_M → Prop), kX0_countContaining (k1 + 1) (((2 : Int32) * (x4)) + (1 : Int32)) g (M3) q4 ∧ ∀ (v4 : Int32) (M4 : mj_M), q4 v4 M4 → (((x3 : Int32) ≤ (((v2) - (v3)) - (v4)) → LX7_cheapestVariable_8 k0 k1 (x2) (x3) (x4 + 1) g (M4) q) ∧ (¬ (x3 : Int32) ≤ (((v2) - (v3)) - (v4)) → LX7_cheapestVariable_8 k0 k1 (x4) (((v2) - (v3)) - (v4)) (x4 + 1) g (M4) q)))))))) : LX7_cheapestVariable_8 k0 k1 x2 x3 x4 g M q := by
  intro d hd ex
  refine mg_iload dX7_cheapestVariable_8 4 rfl ?_
  refine mg_aload_n dX7_cheapestVariable_10 rfl 1 rfl ?_
  refine mg_getI (j := 0) dX7_cheapestVariable_11 kc_6 (Nat.le_of_ble_eq_true rfl) wd_66 rfl rfl h1.1.1 h1.1.2 rfl ?_
  refine mg_icmp_ge (tgt := 83) dX7_cheapestVariable_14 (by decide) (fun hc => ?_) (fun hc => ?_)
  · replace h := h.1 hc
    refine mg_iload_n dX7_cheapestVariable_83 rfl 2 rfl ?_
    exact me_i dX7_cheapestVariable_84 rfl h
  · replace h := h.2 hc
    refine mg_aload_n dX7_cheapestVariable_17 rfl 0 rfl ?_
    refine mg_aload_n dX7_cheapestVariable_18 rfl 1 rfl ?_
    refine mg_iload dX7_cheapestVariable_19 4 rfl ?_
    obtain ⟨q1, hC, hk⟩ := h
    refine mc_Vi [.ref (k1), .int (x4)] [] dX7_cheapestVariable_21 wd_491 kiX7_findElimination (Nat.le_of_ble_eq_true rfl) h0.1.1 h0.1.2 rfl (Nat.le_trans (Nat.le_of_ble_eq_true rfl) hd) hC (fun v1 M1 hq => ?_)
    replace h := hk v1 M1 hq
    refine mg_if_eq (tgt := 77) dX7_cheapestVariable_24 (by decide) (fun hc => ?_) (fun hc => ?_)
    · replace h := h.1 hc
      refine mg_iinc (v := x4 + 1) (ls' := [(4, .int (x4 + 1)), (0, .ref (k0)), (1, .ref (k1)), (2, .int (x2)), (3, .int (x3))]) dX7_cheapestVariable_77 4 rfl rfl (Nat.le_of_ble_eq_true rfl) rfl ?_
      refine mg_goto (tgt := 8) dX7_cheapestVariable_80 (by decide) ?_
      exact mg_pick [1, 2, 3, 4, 0] rfl (h d hd ex)
    · replace h := h.2 hc
      refine mg_aload_n dX7_cheapestVariable_27 rfl 0 rfl ?_
      refine mg_getR (j := 0) dX7_cheapestVariable_28 kc_7 (Nat.le_of_ble_eq_true rfl) wd_218 rfl rfl h0.1.1 h0.1.2 h0.2.1.1 ?_
      refine mg_getR (j := 0) dX7_cheapestVariable_31 kc_5 (Nat.le_of_ble_eq_true rfl) wd_177 rfl rfl h0.2.1.2.1.1 h0.2.1.2.1.2 h0.2.1.2.2.1 ?_
      obtain ⟨q2, hC, hk⟩ := h
      refine mc_Vi [] [] dX7_cheapestVariable_34 wd_407 kiX0_size (Nat.le_of_ble_eq_true rfl) h0.2.1.2.2.2.1.1 h0.2.1.2.2.2.1.2 rfl (Nat.le_trans (Nat.le_of_ble_eq_true rfl) hd) hC (fun v2 M2 hq => ?_)
      replace h := hk v2 M2 hq
      refine mg_aload_n dX7_cheapestVariable_37 rfl 1 rfl ?_
      refine mg_getR (j := 3) dX7_cheapestVariable_38 kc_6 (Nat.le_of_ble_eq_true rfl) wd_74 rfl rfl h1.1.1 h1.1.2 h1.2.1.1 ?_
      refine mg_iconst (v := 2) dX7_cheapestVariable_41 (by decide) ?_
      refine mg_iload dX7_cheapestVariable_42 4 rfl ?_
      refine mg_imul dX7_cheapestVariable_44 ?_
      obtain ⟨q3, hC, hk⟩ := h
      refine mc_Vi [.int ((2 : Int32) * (x4))] [.int (v2)] dX7_cheapestVariable_45 wd_495 kiX0_countContaining (Nat.le_of_ble_eq_true rfl) h1.2.1.2.1.1 h1.2.1.2.1.2 rfl (Nat.le_trans (Nat.le_of_ble_eq_true rfl) hd) hC (fun v3 M3 hq => ?_)
      replace h := hk v3 M3 hq
      refine mg_isub dX7_cheapestVariable_48 ?_
      refine mg_aload_n dX7_cheapestVariable_49 rfl 1 rfl ?_
      refine mg_getR (j := 3) dX7_cheapestVariable_50 kc_6 (Nat.le_of_ble_eq_true rfl) wd_74 rfl rfl h1.1.1 h1.1.2 h1.2.1.1 ?_
      refine mg_iconst (v := 2) dX7_cheapestVariable_53 (by decide) ?_
      refine mg_iload dX7_cheapestVariable_54 4 rfl ?_
      refine mg_imul dX7_cheapestVariable_56 ?_
      refine mg_iconst (v := 1) dX7_cheapestVariable_57 (by decide) ?_
      refine mg_iadd dX7_cheapestVariable_58 ?_
      obtain ⟨q4, hC, hk⟩ := h
      refine mc_Vi [.int (((2 : Int32) * (x4)) + (1 : Int32))] [.int ((v2) - (v3))] dX7_cheapestVariable_59 wd_495 kiX0_countContaining (Nat.le_of_ble_eq_true rfl) h1.2.1.2.1.1 h1.2.1.2.1.2 rfl (Nat.le_trans (Nat.le_of_ble_eq_true rfl) hd) hC (fun v4 M4 hq => ?_)
      replace h := hk v4 M4 hq
      refine mg_isub dX7_cheapestVariable_62 ?_
      refine mg_istore (ls' := [(5, .int (((v2) - (v3)) - (v4))), (0, .ref (k0)), (1, .ref (k1)), (2, .int (x2)), (3, .int (x3)), (4, .int (x4))]) dX7_cheapestVariable_63 (Nat.le_of_ble_eq_true rfl) rfl ?_
      refine mg_iload dX7_cheapestVariable_65 0 rfl ?_
      refine mg_iload_n dX7_cheapestVariable_67 rfl 4 rfl ?_
      refine mg_icmp_ge (tgt := 77) dX7_cheapestVariable_68 (by decide) (fun hc => ?_) (fun hc => ?_)
      · replace h := h.1 hc
        refine mg_iinc (v := x4 + 1) (ls' := [(4, .int (x4 + 1)), (5, .int (((v2) - (v3)) - (v4))), (0, .ref (k0)), (1, .ref (k1)), (2, .int (x2)), (3, .int (x3))]) dX7_cheapestVariable_77 5 rfl rfl (Nat.le_of_ble_eq_true rfl) rfl ?_
        refine mg_goto (tgt := 8) dX7_cheapestVariable_80 (by decide) ?_
        exact mg_pick [2, 3, 4, 5, 0] rfl (h d hd ex)
      · replace h := h.2 hc
        refine mg_iload dX7_cheapestVariable_71 5 rfl ?_
        refine mg_istore_n (ls' := [(2, .int (x4)), (5, .int (((v2) - (v3)) - (v4))), (0, .ref (k0)), (1, .ref (k1)), (3, .int (x3)), (4, .int (x4))]) dX7_cheapestVariable_73 rfl (Nat.le_of_ble_eq_true rfl) rfl ?_
        refine mg_iload dX7_cheapestVariable_74 1 rfl ?_
        refine mg_istore_n (ls' := [(3, .int (((v2) - (v3)) - (v4))), (2, .int (x4)), (5, .int (((v2) - (v3)) - (v4))), (0, .ref (k0)), (1, .ref (k1)), (4, .int (x4))]) dX7_cheapestVariable_76 rfl (Nat.le_of_ble_eq_true rfl) rfl ?_
        refine mg_iinc (v := x4 + 1) (ls' := [(4, .int (x4 + 1)), (3, .int (((v2) - (v3)) - (v4))), (2, .int (x4)), (5, .int (((v2) - (v3)) - (v4))), (0, .ref (k0)), (1, .ref (k1))]) dX7_cheapestVariable_77 5 rfl rfl (Nat.le_of_ble_eq_true rfl) rfl ?_
        refine mg_goto (tgt := 8) dX7_cheapestVariable_80 (by decide) ?_
        exact mg_pick [4, 5, 2, 1, 0] rfl (h d hd ex)
theorem dX7_eliminateFound_0 : decode cX7_eliminateFound 0 = .ok (.iconst 0, 1) := by decide +kernel
theorem dX7_eliminateFound_1 : decode cX7_eliminateFound 1 = .ok (.istore_n 3, 1) := by decide +kernel
theorem dX7_eliminateFound_2 : decode cX7_eliminateFound 2 = .ok (.iload_n 3, 1) := by decide +kernel
theorem dX7_eliminateFound_3 : decode cX7_eliminateFound 3 = .ok (.aload_n 1, 1) := by decide +kernel
theorem dX7_eliminateFound_4 : decode cX7_eliminateFound 4 = .ok (.getfield 32, 3) := by decide +kernel
theorem dX7_eliminateFound_7 : decode cX7_eliminateFound 7 = .ok (.invokevirtual 88, 3) := by decide +kernel
theorem dX7_eliminateFound_10 : decode cX7_eliminateFound 10 = .ok (.if_icmp .ge 41, 3) := by decide +kernel
theorem dX7_eliminateFound_13 : decode cX7_eliminateFound 13 = .ok (.aload_n 1, 1) := by decide +kernel
theorem dX7_eliminateFound_14 : decode cX7_eliminateFound 14 = .ok (.getfield 32, 3) := by decide +kernel
theorem dX7_eliminateFound_17 : decode cX7_eliminateFound 17 = .ok (.iload_n 3, 1) := by decide +kernel
theorem dX7_eliminateFound_18 : decode cX7_eliminateFound 18 = .ok (.invokevirtual 92, 3) := by decide +kernel
theorem dX7_eliminateFound_21 : decode cX7_eliminateFound 21 = .ok (.iconst 2, 1) := by decide +kernel
theorem dX7_eliminateFound_22 : decode cX7_eliminateFound 22 = .ok (.iload_n 2, 1) := by decide +kernel
theorem dX7_eliminateFound_23 : decode cX7_eliminateFound 23 = .ok (.imul, 1) := by decide +kernel
theorem dX7_eliminateFound_24 : decode cX7_eliminateFound 24 = .ok (.invokestatic 115, 3) := by decide +kernel
theorem dX7_eliminateFound_27 : decode cX7_eliminateFound 27 = .ok (.ifCond .eq 18, 3) := by decide +kernel
theorem dX7_eliminateFound_30 : decode cX7_eliminateFound 30 = .ok (.aload_n 1, 1) := by decide +kernel
theorem dX7_eliminateFound_31 : decode cX7_eliminateFound 31 = .ok (.aload_n 1, 1) := by decide +kernel
theorem dX7_eliminateFound_32 : decode cX7_eliminateFound 32 = .ok (.getfield 32, 3) := by decide +kernel
theorem dX7_eliminateFound_35 : decode cX7_eliminateFound 35 = .ok (.iload_n 3, 1) := by decide +kernel
theorem dX7_eliminateFound_36 : decode cX7_eliminateFound 36 = .ok (.invokevirtual 92, 3) := by decide +kernel
theorem dX7_eliminateFound_39 : decode cX7_eliminateFound 39 = .ok (.iconst 2, 1) := by decide +kernel
theorem dX7_eliminateFound_40 : decode cX7_eliminateFound 40 = .ok (.iload_n 2, 1) := by decide +kernel
theorem dX7_eliminateFound_41 : decode cX7_eliminateFound 41 = .ok (.imul, 1) := by decide +kernel
theorem dX7_eliminateFound_42 : decode cX7_eliminateFound 42 = .ok (.invokevirtual 177, 3) := by decide +kernel
theorem dX7_eliminateFound_45 : decode cX7_eliminateFound 45 = .ok (.iinc 3 1, 3) := by decide +kernel
theorem dX7_eliminateFound_48 : decode cX7_eliminateFound 48 = .ok (.goto (-46), 3) := by decide +kernel
theorem dX7_eliminateFound_51 : decode cX7_eliminateFound 51 = .ok (.aload_n 1, 1) := by decide +kernel
theorem dX7_eliminateFound_52 : decode cX7_eliminateFound 52 = .ok (.getfield 32, 3) := by decide +kernel
theorem dX7_eliminateFound_55 : decode cX7_eliminateFound 55 = .ok (.iconst 3, 1) := by decide +kernel
theorem dX7_eliminateFound_56 : decode cX7_eliminateFound 56 = .ok (.iconst 2, 1) := by decide +kernel
theorem dX7_eliminateFound_57 : decode cX7_eliminateFound 57 = .ok (.iload_n 2, 1) := by decide +kernel
theorem dX7_eliminateFound_58 : decode cX7_eliminateFound 58 = .ok (.imul, 1) := by decide +kernel
theorem dX7_eliminateFound_59 : decode cX7_eliminateFound 59 = .ok (.ishl, 1) := by decide +kernel
theorem dX7_eliminateFound_60 : decode cX7_eliminateFound 60 = .ok (.invokevirtual 180, 3) := by decide +kernel
theorem dX7_eliminateFound_63 : decode cX7_eliminateFound 63 = .ok (.aload_n 1, 1) := by decide +kernel
theorem dX7_eliminateFound_64 : decode cX7_eliminateFound 64 = .ok (.iload_n 2, 1) := by decide +kernel
theorem dX7_eliminateFound_65 : decode cX7_eliminateFound 65 = .ok (.iconst 2, 1) := by decide +kernel
theorem dX7_eliminateFound_66 : decode cX7_eliminateFound 66 = .ok (.iconst (-1), 1) := by decide +kernel
theorem dX7_eliminateFound_67 : decode cX7_eliminateFound 67 = .ok (.invokevirtual 183, 3) := by decide +kernel
theorem dX7_eliminateFound_70 : decode cX7_eliminateFound 70 = .ok (.iconst 0, 1) := by decide +kernel
theorem dX7_eliminateFound_71 : decode cX7_eliminateFound 71 = .ok (.istore_n 3, 1) := by decide +kernel
theorem dX7_eliminateFound_72 : decode cX7_eliminateFound 72 = .ok (.iload_n 3, 1) := by decide +kernel
theorem dX7_eliminateFound_73 : decode cX7_eliminateFound 73 = .ok (.aload_n 0, 1) := by decide +kernel
theorem dX7_eliminateFound_74 : decode cX7_eliminateFound 74 = .ok (.getfield 12, 3) := by decide +kernel
theorem dX7_eliminateFound_77 : decode cX7_eliminateFound 77 = .ok (.getfield 161, 3) := by decide +kernel
theorem dX7_eliminateFound_80 : decode cX7_eliminateFound 80 = .ok (.invokevirtual 88, 3) := by decide +kernel
theorem dX7_eliminateFound_83 : decode cX7_eliminateFound 83 = .ok (.if_icmp .ge 24, 3) := by decide +kernel
theorem dX7_eliminateFound_86 : decode cX7_eliminateFound 86 = .ok (.aload_n 1, 1) := by decide +kernel
theorem dX7_eliminateFound_87 : decode cX7_eliminateFound 87 = .ok (.aload_n 0, 1) := by decide +kernel
theorem dX7_eliminateFound_88 : decode cX7_eliminateFound 88 = .ok (.getfield 12, 3) := by decide +kernel
theorem dX7_eliminateFound_91 : decode cX7_eliminateFound 91 = .ok (.getfield 161, 3) := by decide +kernel
theorem dX7_eliminateFound_94 : decode cX7_eliminateFound 94 = .ok (.iload_n 3, 1) := by decide +kernel
theorem dX7_eliminateFound_95 : decode cX7_eliminateFound 95 = .ok (.invokevirtual 92, 3) := by decide +kernel
theorem dX7_eliminateFound_98 : decode cX7_eliminateFound 98 = .ok (.invokevirtual 187, 3) := by decide +kernel
theorem dX7_eliminateFound_101 : decode cX7_eliminateFound 101 = .ok (.iinc 3 1, 3) := by decide +kernel
theorem dX7_eliminateFound_104 : decode cX7_eliminateFound 104 = .ok (.goto (-32), 3) := by decide +kernel
theorem dX7_eliminateFound_107 : decode cX7_eliminateFound 107 = .ok (.return_, 1) := by decide +kernel
abbrev mtX7_eliminateFound : mj_T := (yX7_eliminateFound.cls, cX7_eliminateFound, 4, none, mj_no, yX7_eliminateFound.name)
abbrev kX7_eliminateFound (k0 : Nat) (k1 : Nat) (x2 : Int32) (g : mj_S) (M : mj_M) (q : mj_M → Prop) : Prop := mj_CV yX7_eliminateFound (.code yX7_eliminateFound cX7_eliminateFound 4 none) 3 [.ref (k0), .ref (k1), .int (x2)] g M q
theorem kiX7_eliminateFound : mj_cV yX7_eliminateFound cX7_eliminateFound 4 none 2 := ⟨⟨wd_516, wd_517, wd_8, wd_518⟩, ⟨by decide +kernel, by decide +kernel, by decide +kernel⟩, Nat.le_of_ble_eq_true rfl⟩
def LX7_eliminateFound_2 (k0 : Nat) (k1 : Nat) (x2 : Int32) (x3 : Int32) (g : mj_S) (M : mj_M) (q : mj_M → Prop) : Prop := ∀ d, 3 ≤ d → ∀ ex : Bool, mj_G mtX7_eliminateFound (mj_rm d 0 0) (mj_Fi (mj_qV g q) mj_x0 0 0) ex 0 0 2 [(0, .ref (k0)), (1, .ref (k1)), (2, .int (x2)), (3, .int (x3))] [] g M
def LX7_eliminateFound_72 (k0 : Nat) (k1 : Nat) (x3 : Int32) (g : mj_S) (M : mj_M) (q : mj_M → Prop) : Prop := ∀ d, 3 ≤ d → ∀ ex : Bool, mj_G mtX7_eliminateFound (mj_rm d 0 0) (mj_Fi (mj_qV g q) mj_x0 0 0) ex 0 0 72 [(0, .ref (k0)), (1, .ref (k1)), (3, .int (x3))] [] g M
theorem eX7_eliminateFound {k0 : Nat} {k1 : Nat} {x2 : Int32} {g : mj_S} {M : mj_M} {q : mj_M → Prop} (h0 : is7 g k0) (h1 : is6 g k1) (h : LX7_eliminateFound_2 k0 k1 (x2) (0) g (M) q) : kX7_eliminateFound (k0) (k1) (x2) g M q := by
  intro d hd; refine mj_enter (by decide +kernel) (Nat.le_of_ble_eq_true rfl) ?_
  generalize (false : Bool) = ex
  show mj_G mtX7_eliminateFound (mj_rm d 0 0) (mj_Fi (mj_qV g q) mj_x0 0 0) ex 0 0 0 [(0, .ref (k0)), (1, .ref (k1)), (2, .int (x2))] [] g M
  refine mg_iconst (v := 0) dX7_eliminateFound_0 (by decide) ?_
  refine mg_istore_n (ls' := [(3, .int (0)), (0, .ref (k0)), (1, .ref (k1)), (2, .int (x2))]) dX7_eliminateFound_1 rfl (Nat.le_of_ble_eq_true rfl) rfl ?_
  exact mg_pick [1, 2, 3, 0] rfl (h d hd ex)
theorem bX7_eliminateFound_2 {k0 : Nat} {k1 : Nat} {x2 : Int32} {x3 : Int32} {g : mj_S} {M : mj_M} {q : mj_M → Prop} (h0 : is7 g k0) (h1 : is6 g k1) (h : ∃ (q1 : Int32 → mj_M → Prop), kX0_size (k1 + 1) g (M) q1 ∧ ∀ (v1 : Int32) (M1 : mj_M), q1 v1 M1 → (((v1 : Int32) ≤ (x3) → ∃ (q2 : mj_M → Prop), kX0_removeContaining (k1 + 1) ((3 : Int32) <<< (((2 : Int32) * (x2)) &&& 31)) g (M1) q2 ∧ ∀ (M2 : mj_M), q2 M2 → (∃ (q3 : mj_M → Prop), kX6_retire (k1) (x2) (2) ((-1)) g (M2) q3 ∧ ∀ (M3 : mj_M), q3 M3 → (LX7_eliminateFound_72 k0 k1 (0) g (M3) q))) ∧ (¬ (v1 : Int32) ≤ (x3) → ∃ (q4 : Int32 → mj_M → Prop), kX0_at (k1 + 1) (x3) g (M1) q4 ∧ ∀ (v4 : Int32) (M4 : mj_M), q4 v4 M4 → (∃ (q5 : Int32 → mj_M → Prop), kX9_contains (v4) ((2 : Int32) * (x2)) g (M4) q5 ∧ ∀ (v5 : Int32) (M5 : mj_M), q5 v5 M5 → (((v5 : Int32) = 0 → LX7_eliminateFound_2 k0 k1 (x2) (x3 + 1) g (M5) q) ∧ (¬ (v5 : Int32) = 0 → ∃ (q6 : Int32 → mj_M → Prop), kX0_at (k1 + 1) (x3) g (M5) q6 ∧ ∀ (v6 : Int32) (M6 : mj_M), q6 v6 M6 → (∃ (q7 : mj_M → Prop), kX6_pushRow (k1) (v6) ((2 : Int32) * (x2)) g (M6) q7 ∧ ∀ (M7 : mj_M), q7 M7 → (LX7_eliminateFound_2 k0 k1 (x2) (x3 + 1) g (M7) q)))))))) : LX7_eliminateFound_2 k0 k1 x2 x3 g M q := by
  intro d hd ex
  refine mg_iload_n dX7_eliminateFound_2 rfl 3 rfl ?_
  refine mg_aload_n dX7_eliminateFound_3 rfl 1 rfl ?_
  refine mg_getR (j := 3) dX7_eliminateFound_4 kc_6 (Nat.le_of_ble_eq_true rfl) wd_74 rfl rfl h1.1.1 h1.1.2 h1.2.1.1 ?_
  obtain ⟨q1, hC, hk⟩ := h
  refine mc_Vi [] [.int (x3)] dX7_eliminateFound_7 wd_407 kiX0_size (Nat.le_of_ble_eq_true rfl) h1.2.1.2.1.1 h1.2.1.2.1.2 rfl (Nat.le_trans (Nat.le_of_ble_eq_true rfl) hd) hC (fun v1 M1 hq => ?_)
  replace h := hk v1 M1 hq
  refine mg_icmp_ge (tgt := 51) dX7_eliminateFound_10 (by decide) (fun hc => ?_) (fun hc => ?_)
  · replace h := h.1 hc
    refine mg_aload_n dX7_eliminateFound_51 rfl 1 rfl ?_
    refine mg_getR (j := 3) dX7_eliminateFound_52 kc_6 (Nat.le_of_ble_eq_true rfl) wd_74 rfl rfl h1.1.1 h1.1.2 h1.2.1.1 ?_
    refine mg_iconst (v := 3) dX7_eliminateFound_55 (by decide) ?_
    refine mg_iconst (v := 2) dX7_eliminateFound_56 (by decide) ?_
    refine mg_iload_n dX7_eliminateFound_57 rfl 2 rfl ?_
    refine mg_imul dX7_eliminateFound_58 ?_
    refine mg_ishl dX7_eliminateFound_59 ?_
    obtain ⟨q2, hC, hk⟩ := h
    refine mc_Vv [.int ((3 : Int32) <<< (((2 : Int32) * (x2)) &&& 31))] [] dX7_eliminateFound_60 wd_520 kiX0_removeContaining (Nat.le_of_ble_eq_true rfl) h1.2.1.2.1.1 h1.2.1.2.1.2 rfl (Nat.le_trans (Nat.le_of_ble_eq_true rfl) hd) hC (fun M2 hq => ?_)
    replace h := hk M2 hq
    refine mg_aload_n dX7_eliminateFound_63 rfl 1 rfl ?_
    refine mg_iload_n dX7_eliminateFound_64 rfl 2 rfl ?_
    refine mg_iconst (v := 2) dX7_eliminateFound_65 (by decide) ?_
    refine mg_iconst (v := (-1)) dX7_eliminateFound_66 (by decide) ?_
    obtain ⟨q3, hC, hk⟩ := h
    refine mc_Vv [.int (x2), .int (2), .int ((-1))] [] dX7_eliminateFound_67 wd_521 kiX6_retire (Nat.le_of_ble_eq_true rfl) h1.1.1 h1.1.2 rfl (Nat.le_trans (Nat.le_of_ble_eq_true rfl) hd) hC (fun M3 hq => ?_)
    replace h := hk M3 hq
    refine mg_iconst (v := 0) dX7_eliminateFound_70 (by decide) ?_
    refine mg_istore_n (ls' := [(3, .int (0)), (0, .ref (k0)), (1, .ref (k1)), (2, .int (x2))]) dX7_eliminateFound_71 rfl (Nat.le_of_ble_eq_true rfl) rfl ?_
    exact mg_pick [1, 2, 0] rfl (h d hd ex)
  · replace h := h.2 hc
    refine mg_aload_n dX7_eliminateFound_13 rfl 1 rfl ?_
    refine mg_getR (j := 3) dX7_eliminateFound_14 kc_6 (Nat.le_of_ble_eq_true rfl) wd_74 rfl rfl h1.1.1 h1.1.2 h1.2.1.1 ?_
    refine mg_iload_n dX7_eliminateFound_17 rfl 3 rfl ?_
    obtain ⟨q4, hC, hk⟩ := h
    refine mc_Vi [.int (x3)] [] dX7_eliminateFound_18 wd_408 kiX0_at (Nat.le_of_ble_eq_true rfl) h1.2.1.2.1.1 h1.2.1.2.1.2 rfl (Nat.le_trans (Nat.le_of_ble_eq_true rfl) hd) hC (fun v4 M4 hq => ?_)
    replace h := hk v4 M4 hq
    refine mg_iconst (v := 2) dX7_eliminateFound_21 (by decide) ?_
    refine mg_iload_n dX7_eliminateFound_22 rfl 2 rfl ?_
    refine mg_imul dX7_eliminateFound_23 ?_
    obtain ⟨q5, hC, hk⟩ := h
    refine mc_Ni [.int (v4), .int ((2 : Int32) * (x2))] [] 8 dX7_eliminateFound_24 rfl kiX9_contains (Nat.le_of_ble_eq_true rfl) (Nat.le_trans (Nat.le_of_ble_eq_true rfl) hd) hC (fun v5 M5 hq => ?_)
    replace h := hk v5 M5 hq
    refine mg_if_eq (tgt := 45) dX7_eliminateFound_27 (by decide) (fun hc => ?_) (fun hc => ?_)
    · replace h := h.1 hc
      refine mg_iinc (v := x3 + 1) (ls' := [(3, .int (x3 + 1)), (0, .ref (k0)), (1, .ref (k1)), (2, .int (x2))]) dX7_eliminateFound_45 3 rfl rfl (Nat.le_of_ble_eq_true rfl) rfl ?_
      refine mg_goto (tgt := 2) dX7_eliminateFound_48 (by decide) ?_
      exact mg_pick [1, 2, 3, 0] rfl (h d hd ex)
    · replace h := h.2 hc
      refine mg_aload_n dX7_eliminateFound_30 rfl 1 rfl ?_
      refine mg_aload_n dX7_eliminateFound_31 rfl 1 rfl ?_
      refine mg_getR (j := 3) dX7_eliminateFound_32 kc_6 (Nat.le_of_ble_eq_true rfl) wd_74 rfl rfl h1.1.1 h1.1.2 h1.2.1.1 ?_
      refine mg_iload_n dX7_eliminateFound_35 rfl 3 rfl ?_
      obtain ⟨q6, hC, hk⟩ := h
      refine mc_Vi [.int (x3)] [.ref (k1)] dX7_eliminateFound_36 wd_408 kiX0_at (Nat.le_of_ble_eq_true rfl) h1.2.1.2.1.1 h1.2.1.2.1.2 rfl (Nat.le_trans (Nat.le_of_ble_eq_true rfl) hd) hC (fun v6 M6 hq => ?_)
      replace h := hk v6 M6 hq
      refine mg_iconst (v := 2) dX7_eliminateFound_39 (by decide) ?_
      refine mg_iload_n dX7_eliminateFound_40 rfl 2 rfl ?_
      refine mg_imul dX7_eliminateFound_41 ?_
      obtain ⟨q7, hC, hk⟩ := h
      refine mc_Vv [.int (v6), .int ((2 : Int32) * (x2))] [] dX7_eliminateFound_42 wd_519 kiX6_pushRow (Nat.le_of_ble_eq_true rfl) h1.1.1 h1.1.2 rfl (Nat.le_trans (Nat.le_of_ble_eq_true rfl) hd) hC (fun M7 hq => ?_)
      replace h := hk M7 hq
      refine mg_iinc (v := x3 + 1) (ls' := [(3, .int (x3 + 1)), (0, .ref (k0)), (1, .ref (k1)), (2, .int (x2))]) dX7_eliminateFound_45 3 rfl rfl (Nat.le_of_ble_eq_true rfl) rfl ?_
      refine mg_goto (tgt := 2) dX7_eliminateFound_48 (by decide) ?_
      exact mg_pick [1, 2, 3, 0] rfl (h d hd ex)
theorem bX7_eliminateFound_72 {k0 : Nat} {k1 : Nat} {x3 : Int32} {g : mj_S} {M : mj_M} {q : mj_M → Prop} (h0 : is7 g k0) (h1 : is6 g k1) (h : ∃ (q1 : Int32 → mj_M → Prop), kX0_size (k0 + 1 + 1) g (M) q1 ∧ ∀ (v1 : Int32) (M1 : mj_M), q1 v1 M1 → (((v1 : Int32) ≤ (x3) → q (M1)) ∧ (¬ (v1 : Int32) ≤ (x3) → ∃ (q2 : Int32 → mj_M → Prop), kX0_at (k0 + 1 + 1) (x3) g (M1) q2 ∧ ∀ (v2 : Int32) (M2 : mj_M), q2 v2 M2 → (∃ (q3 : mj_M → Prop), kX6_include (k1) (v2) g (M2) q3 ∧ ∀ (M3 : mj_M), q3 M3 → (LX7_eliminateFound_72 k0 k1 (x3 + 1) g (M3) q))))) : LX7_eliminateFound_72 k0 k1 x3 g M q := by
  intro d hd ex
  refine mg_iload_n dX7_eliminateFound_72 rfl 2 rfl ?_
  refine mg_aload_n dX7_eliminateFound_73 rfl 0 rfl ?_
  refine mg_getR (j := 0) dX7_eliminateFound_74 kc_7 (Nat.le_of_ble_eq_true rfl) wd_218 rfl rfl h0.1.1 h0.1.2 h0.2.1.1 ?_
  refine mg_getR (j := 0) dX7_eliminateFound_77 kc_5 (Nat.le_of_ble_eq_true rfl) wd_177 rfl rfl h0.2.1.2.1.1 h0.2.1.2.1.2 h0.2.1.2.2.1 ?_
  obtain ⟨q1, hC, hk⟩ := h
  refine mc_Vi [] [.int (x3)] dX7_eliminateFound_80 wd_407 kiX0_size (Nat.le_of_ble_eq_true rfl) h0.2.1.2.2.2.1.1 h0.2.1.2.2.2.1.2 rfl (Nat.le_trans (Nat.le_of_ble_eq_true rfl) hd) hC (fun v1 M1 hq => ?_)
  replace h := hk v1 M1 hq
  refine mg_icmp_ge (tgt := 107) dX7_eliminateFound_83 (by decide) (fun hc => ?_) (fun hc => ?_)
  · replace h := h.1 hc
    exact me_v dX7_eliminateFound_107 rfl h
  · replace h := h.2 hc
    refine mg_aload_n dX7_eliminateFound_86 rfl 1 rfl ?_
    refine mg_aload_n dX7_eliminateFound_87 rfl 0 rfl ?_
    refine mg_getR (j := 0) dX7_eliminateFound_88 kc_7 (Nat.le_of_ble_eq_true rfl) wd_218 rfl rfl h0.1.1 h0.1.2 h0.2.1.1 ?_
    refine mg_getR (j := 0) dX7_eliminateFound_91 kc_5 (Nat.le_of_ble_eq_true rfl) wd_177 rfl rfl h0.2.1.2.1.1 h0.2.1.2.1.2 h0.2.1.2.2.1 ?_
    refine mg_iload_n dX7_eliminateFound_94 rfl 2 rfl ?_
    obtain ⟨q2, hC, hk⟩ := h
    refine mc_Vi [.int (x3)] [.ref (k1)] dX7_eliminateFound_95 wd_408 kiX0_at (Nat.le_of_ble_eq_true rfl) h0.2.1.2.2.2.1.1 h0.2.1.2.2.2.1.2 rfl (Nat.le_trans (Nat.le_of_ble_eq_true rfl) hd) hC (fun v2 M2 hq => ?_)
    replace h := hk v2 M2 hq
    obtain ⟨q3, hC, hk⟩ := h
    refine mc_Vv [.int (v2)] [] dX7_eliminateFound_98 wd_522 kiX6_include (Nat.le_of_ble_eq_true rfl) h1.1.1 h1.1.2 rfl (Nat.le_trans (Nat.le_of_ble_eq_true rfl) hd) hC (fun M3 hq => ?_)
    replace h := hk M3 hq
    refine mg_iinc (v := x3 + 1) (ls' := [(3, .int (x3 + 1)), (0, .ref (k0)), (1, .ref (k1))]) dX7_eliminateFound_101 2 rfl rfl (Nat.le_of_ble_eq_true rfl) rfl ?_
    refine mg_goto (tgt := 72) dX7_eliminateFound_104 (by decide) ?_
    exact mg_pick [1, 2, 0] rfl (h d hd ex)
theorem dX7_eliminateAll_0 : decode cX7_eliminateAll 0 = .ok (.iconst 0, 1) := by decide +kernel
theorem dX7_eliminateAll_1 : decode cX7_eliminateAll 1 = .ok (.istore_n 2, 1) := by decide +kernel
theorem dX7_eliminateAll_2 : decode cX7_eliminateAll 2 = .ok (.iconst 0, 1) := by decide +kernel
theorem dX7_eliminateAll_3 : decode cX7_eliminateAll 3 = .ok (.istore_n 3, 1) := by decide +kernel
theorem dX7_eliminateAll_4 : decode cX7_eliminateAll 4 = .ok (.iload_n 3, 1) := by decide +kernel
theorem dX7_eliminateAll_5 : decode cX7_eliminateAll 5 = .ok (.ldc 80, 2) := by decide +kernel
theorem dX7_eliminateAll_7 : decode cX7_eliminateAll 7 = .ok (.if_icmp .ge 44, 3) := by decide +kernel
theorem dX7_eliminateAll_10 : decode cX7_eliminateAll 10 = .ok (.aload_n 0, 1) := by decide +kernel
theorem dX7_eliminateAll_11 : decode cX7_eliminateAll 11 = .ok (.aload_n 1, 1) := by decide +kernel
theorem dX7_eliminateAll_12 : decode cX7_eliminateAll 12 = .ok (.invokevirtual 149, 3) := by decide +kernel
theorem dX7_eliminateAll_15 : decode cX7_eliminateAll 15 = .ok (.istore 4, 2) := by decide +kernel
theorem dX7_eliminateAll_17 : decode cX7_eliminateAll 17 = .ok (.iload 4, 2) := by decide +kernel
theorem dX7_eliminateAll_19 : decode cX7_eliminateAll 19 = .ok (.iconst (-1), 1) := by decide +kernel
theorem dX7_eliminateAll_20 : decode cX7_eliminateAll 20 = .ok (.if_icmp .eq 13, 3) := by decide +kernel
theorem dX7_eliminateAll_23 : decode cX7_eliminateAll 23 = .ok (.aload_n 0, 1) := by decide +kernel
theorem dX7_eliminateAll_24 : decode cX7_eliminateAll 24 = .ok (.aload_n 1, 1) := by decide +kernel
theorem dX7_eliminateAll_25 : decode cX7_eliminateAll 25 = .ok (.iload 4, 2) := by decide +kernel
theorem dX7_eliminateAll_27 : decode cX7_eliminateAll 27 = .ok (.invokevirtual 152, 3) := by decide +kernel
theorem dX7_eliminateAll_30 : decode cX7_eliminateAll 30 = .ok (.ifCond .ne 5, 3) := by decide +kernel
theorem dX7_eliminateAll_33 : decode cX7_eliminateAll 33 = .ok (.iload_n 2, 1) := by decide +kernel
theorem dX7_eliminateAll_34 : decode cX7_eliminateAll 34 = .ok (.ireturn, 1) := by decide +kernel
theorem dX7_eliminateAll_35 : decode cX7_eliminateAll 35 = .ok (.aload_n 0, 1) := by decide +kernel
theorem dX7_eliminateAll_36 : decode cX7_eliminateAll 36 = .ok (.aload_n 1, 1) := by decide +kernel
theorem dX7_eliminateAll_37 : decode cX7_eliminateAll 37 = .ok (.iload 4, 2) := by decide +kernel
theorem dX7_eliminateAll_39 : decode cX7_eliminateAll 39 = .ok (.invokevirtual 156, 3) := by decide +kernel
theorem dX7_eliminateAll_42 : decode cX7_eliminateAll 42 = .ok (.iinc 2 1, 3) := by decide +kernel
theorem dX7_eliminateAll_45 : decode cX7_eliminateAll 45 = .ok (.iinc 3 1, 3) := by decide +kernel
theorem dX7_eliminateAll_48 : decode cX7_eliminateAll 48 = .ok (.goto (-44), 3) := by decide +kernel
theorem dX7_eliminateAll_51 : decode cX7_eliminateAll 51 = .ok (.iload_n 2, 1) := by decide +kernel
theorem dX7_eliminateAll_52 : decode cX7_eliminateAll 52 = .ok (.ireturn, 1) := by decide +kernel
abbrev mtX7_eliminateAll : mj_T := (yX7_eliminateAll.cls, cX7_eliminateAll, 5, (some .int), mj_no, yX7_eliminateAll.name)
abbrev kX7_eliminateAll (k0 : Nat) (k1 : Nat) (g : mj_S) (M : mj_M) (q : Int32 → mj_M → Prop) : Prop := mj_CI yX7_eliminateAll (.code yX7_eliminateAll cX7_eliminateAll 5 (some .int)) 4 [.ref (k0), .ref (k1)] g M q
theorem kiX7_eliminateAll : mj_cV yX7_eliminateAll cX7_eliminateAll 5 (some .int) 1 := ⟨⟨wd_484, wp_9, wd_8, wd_485⟩, ⟨by decide +kernel, by decide +kernel, by decide +kernel⟩, Nat.le_of_ble_eq_true rfl⟩
def LX7_eliminateAll_4 (k0 : Nat) (k1 : Nat) (x2 : Int32) (x3 : Int32) (g : mj_S) (M : mj_M) (q : Int32 → mj_M → Prop) : Prop := ∀ d, 4 ≤ d → ∀ ex : Bool, mj_G mtX7_eliminateAll (mj_rm d 0 0) (mj_Fi (mj_qI g q) mj_x0 0 0) ex 0 0 4 [(0, .ref (k0)), (1, .ref (k1)), (2, .int (x2)), (3, .int (x3))] [] g M
theorem eX7_eliminateAll {k0 : Nat} {k1 : Nat} {g : mj_S} {M : mj_M} {q : Int32 → mj_M → Prop} (h0 : is7 g k0) (h1 : is6 g k1) (h : LX7_eliminateAll_4 k0 k1 (0) (0) g (M) q) : kX7_eliminateAll (k0) (k1) g M q := by
  intro d hd; refine mj_enter (by decide +kernel) (Nat.le_of_ble_eq_true rfl) ?_
  generalize (false : Bool) = ex
  show mj_G mtX7_eliminateAll (mj_rm d 0 0) (mj_Fi (mj_qI g q) mj_x0 0 0) ex 0 0 0 [(0, .ref (k0)), (1, .ref (k1))] [] g M
  refine mg_iconst (v := 0) dX7_eliminateAll_0 (by decide) ?_
  refine mg_istore_n (ls' := [(2, .int (0)), (0, .ref (k0)), (1, .ref (k1))]) dX7_eliminateAll_1 rfl (Nat.le_of_ble_eq_true rfl) rfl ?_
  refine mg_iconst (v := 0) dX7_eliminateAll_2 (by decide) ?_
  refine mg_istore_n (ls' := [(3, .int (0)), (2, .int (0)), (0, .ref (k0)), (1, .ref (k1))]) dX7_eliminateAll_3 rfl (Nat.le_of_ble_eq_true rfl) rfl ?_
  exact mg_pick [2, 3, 1, 0] rfl (h d hd ex)
theorem bX7_eliminateAll_4 {k0 : Nat} {k1 : Nat} {x2 : Int32} {x3 : Int32} {g : mj_S} {M : mj_M} {q : Int32 → mj_M → Prop} (h0 : is7 g k0) (h1 : is6 g k1) (h : ((1000000 : Int32) ≤ (x3) → q (x2) (M)) ∧ (¬ (1000000 : Int32) ≤ (x3) → ∃ (q1 : Int32 → mj_M → Prop), kX7_cheapestVariable (k0) (k1) g (M) q1 ∧ ∀ (v1 : Int32) (M1 : mj_M), q1 v1 M1 → (((v1 : Int32) = (-1 : Int32) → q (x2) (M1)) ∧ (¬ (v1 : Int32) = (-1 : Int32) → ∃ (q2 : Int32 → mj_M → Prop), kX7_findElimination (k0) (k1) (v1) g (M1) q2 ∧ ∀ (v2 : Int32) (M2 : mj_M), q2 v2 M2 → ((¬ (v2 : Int32) = 0 → ∃ (q3 : mj_M → Prop), kX7_eliminateFound (k0) (k1) (v1) g (M2) q3 ∧ ∀ (M3 : mj_M), q3 M3 → (LX7_eliminateAll_4 k0 k1 (x2 + 1) (x3 + 1) g (M3) q)) ∧ ((v2 : Int32) = 0 → q (x2) (M2))))))) : LX7_eliminateAll_4 k0 k1 x2 x3 g M q := by
  intro d hd ex
  refine mg_iload_n dX7_eliminateAll_4 rfl 3 rfl ?_
  refine mg_ldc (v := 1000000) dX7_eliminateAll_5 wd_402 ?_
  refine mg_icmp_ge (tgt := 51) dX7_eliminateAll_7 (by decide) (fun hc => ?_) (fun hc => ?_)
  · replace h := h.1 hc
    refine mg_iload_n dX7_eliminateAll_51 rfl 2 rfl ?_
    exact me_i dX7_eliminateAll_52 rfl h
  · replace h := h.2 hc
    refine mg_aload_n dX7_eliminateAll_10 rfl 0 rfl ?_
    refine mg_aload_n dX7_eliminateAll_11 rfl 1 rfl ?_
    obtain ⟨q1, hC, hk⟩ := h
    refine mc_Vi [.ref (k1)] [] dX7_eliminateAll_12 wd_486 kiX7_cheapestVariable (Nat.le_of_ble_eq_true rfl) h0.1.1 h0.1.2 rfl (Nat.le_trans (Nat.le_of_ble_eq_true rfl) hd) hC (fun v1 M1 hq => ?_)
    replace h := hk v1 M1 hq
    refine mg_istore (ls' := [(4, .int (v1)), (0, .ref (k0)), (1, .ref (k1)), (2, .int (x2)), (3, .int (x3))]) dX7_eliminateAll_15 (Nat.le_of_ble_eq_true rfl) rfl ?_
    refine mg_iload dX7_eliminateAll_17 0 rfl ?_
    refine mg_iconst (v := (-1)) dX7_eliminateAll_19 (by decide) ?_
    refine mg_icmp_eq (tgt := 33) dX7_eliminateAll_20 (by decide) (fun hc => ?_) (fun hc => ?_)
    · replace h := h.1 hc
      refine mg_iload_n dX7_eliminateAll_33 rfl 3 rfl ?_
      exact me_i dX7_eliminateAll_34 rfl h
    · replace h := h.2 hc
      refine mg_aload_n dX7_eliminateAll_23 rfl 1 rfl ?_
      refine mg_aload_n dX7_eliminateAll_24 rfl 2 rfl ?_
      refine mg_iload dX7_eliminateAll_25 0 rfl ?_
      obtain ⟨q2, hC, hk⟩ := h
      refine mc_Vi [.ref (k1), .int (v1)] [] dX7_eliminateAll_27 wd_491 kiX7_findElimination (Nat.le_of_ble_eq_true rfl) h0.1.1 h0.1.2 rfl (Nat.le_trans (Nat.le_of_ble_eq_true rfl) hd) hC (fun v2 M2 hq => ?_)
      replace h := hk v2 M2 hq
      refine mg_if_ne (tgt := 35) dX7_eliminateAll_30 (by decide) (fun hc => ?_) (fun hc => ?_)
      · replace h := h.1 hc
        refine mg_aload_n dX7_eliminateAll_35 rfl 1 rfl ?_
        refine mg_aload_n dX7_eliminateAll_36 rfl 2 rfl ?_
        refine mg_iload dX7_eliminateAll_37 0 rfl ?_
        obtain ⟨q3, hC, hk⟩ := h
        refine mc_Vv [.ref (k1), .int (v1)] [] dX7_eliminateAll_39 wd_515 kiX7_eliminateFound (Nat.le_of_ble_eq_true rfl) h0.1.1 h0.1.2 rfl (Nat.le_trans (Nat.le_of_ble_eq_true rfl) hd) hC (fun M3 hq => ?_)
        replace h := hk M3 hq
        refine mg_iinc (v := x2 + 1) (ls' := [(2, .int (x2 + 1)), (4, .int (v1)), (0, .ref (k0)), (1, .ref (k1)), (3, .int (x3))]) dX7_eliminateAll_42 3 rfl rfl (Nat.le_of_ble_eq_true rfl) rfl ?_
        refine mg_iinc (v := x3 + 1) (ls' := [(3, .int (x3 + 1)), (2, .int (x2 + 1)), (4, .int (v1)), (0, .ref (k0)), (1, .ref (k1))]) dX7_eliminateAll_45 4 rfl rfl (Nat.le_of_ble_eq_true rfl) rfl ?_
        refine mg_goto (tgt := 4) dX7_eliminateAll_48 (by decide) ?_
        exact mg_pick [3, 4, 1, 0] rfl (h d hd ex)
      · replace h := h.2 hc
        refine mg_iload_n dX7_eliminateAll_33 rfl 3 rfl ?_
        exact me_i dX7_eliminateAll_34 rfl h
theorem dX7_removeFirstBlocked_0 : decode cX7_removeFirstBlocked 0 = .ok (.iconst 0, 1) := by decide +kernel
theorem dX7_removeFirstBlocked_1 : decode cX7_removeFirstBlocked 1 = .ok (.istore_n 2, 1) := by decide +kernel
theorem dX7_removeFirstBlocked_2 : decode cX7_removeFirstBlocked 2 = .ok (.iload_n 2, 1) := by decide +kernel
theorem dX7_removeFirstBlocked_3 : decode cX7_removeFirstBlocked 3 = .ok (.aload_n 1, 1) := by decide +kernel
theorem dX7_removeFirstBlocked_4 : decode cX7_removeFirstBlocked 4 = .ok (.getfield 32, 3) := by decide +kernel
theorem dX7_removeFirstBlocked_7 : decode cX7_removeFirstBlocked 7 = .ok (.invokevirtual 88, 3) := by decide +kernel
theorem dX7_removeFirstBlocked_10 : decode cX7_removeFirstBlocked 10 = .ok (.if_icmp .ge 46, 3) := by decide +kernel
theorem dX7_removeFirstBlocked_13 : decode cX7_removeFirstBlocked 13 = .ok (.aload_n 1, 1) := by decide +kernel
theorem dX7_removeFirstBlocked_14 : decode cX7_removeFirstBlocked 14 = .ok (.getfield 32, 3) := by decide +kernel
theorem dX7_removeFirstBlocked_17 : decode cX7_removeFirstBlocked 17 = .ok (.iload_n 2, 1) := by decide +kernel
theorem dX7_removeFirstBlocked_18 : decode cX7_removeFirstBlocked 18 = .ok (.invokestatic 194, 3) := by decide +kernel
theorem dX7_removeFirstBlocked_21 : decode cX7_removeFirstBlocked 21 = .ok (.istore_n 3, 1) := by decide +kernel
theorem dX7_removeFirstBlocked_22 : decode cX7_removeFirstBlocked 22 = .ok (.iload_n 3, 1) := by decide +kernel
theorem dX7_removeFirstBlocked_23 : decode cX7_removeFirstBlocked 23 = .ok (.iconst (-1), 1) := by decide +kernel
theorem dX7_removeFirstBlocked_24 : decode cX7_removeFirstBlocked 24 = .ok (.if_icmp .eq 26, 3) := by decide +kernel
theorem dX7_removeFirstBlocked_27 : decode cX7_removeFirstBlocked 27 = .ok (.aload_n 1, 1) := by decide +kernel
theorem dX7_removeFirstBlocked_28 : decode cX7_removeFirstBlocked 28 = .ok (.aload_n 1, 1) := by decide +kernel
theorem dX7_removeFirstBlocked_29 : decode cX7_removeFirstBlocked 29 = .ok (.getfield 32, 3) := by decide +kernel
theorem dX7_removeFirstBlocked_32 : decode cX7_removeFirstBlocked 32 = .ok (.iload_n 2, 1) := by decide +kernel
theorem dX7_removeFirstBlocked_33 : decode cX7_removeFirstBlocked 33 = .ok (.invokevirtual 92, 3) := by decide +kernel
theorem dX7_removeFirstBlocked_36 : decode cX7_removeFirstBlocked 36 = .ok (.iload_n 3, 1) := by decide +kernel
theorem dX7_removeFirstBlocked_37 : decode cX7_removeFirstBlocked 37 = .ok (.invokevirtual 177, 3) := by decide +kernel
theorem dX7_removeFirstBlocked_40 : decode cX7_removeFirstBlocked 40 = .ok (.aload_n 1, 1) := by decide +kernel
theorem dX7_removeFirstBlocked_41 : decode cX7_removeFirstBlocked 41 = .ok (.getfield 32, 3) := by decide +kernel
theorem dX7_removeFirstBlocked_44 : decode cX7_removeFirstBlocked 44 = .ok (.iload_n 2, 1) := by decide +kernel
theorem dX7_removeFirstBlocked_45 : decode cX7_removeFirstBlocked 45 = .ok (.invokevirtual 123, 3) := by decide +kernel
theorem dX7_removeFirstBlocked_48 : decode cX7_removeFirstBlocked 48 = .ok (.iconst 1, 1) := by decide +kernel
theorem dX7_removeFirstBlocked_49 : decode cX7_removeFirstBlocked 49 = .ok (.ireturn, 1) := by decide +kernel
theorem dX7_removeFirstBlocked_50 : decode cX7_removeFirstBlocked 50 = .ok (.iinc 2 1, 3) := by decide +kernel
theorem dX7_removeFirstBlocked_53 : decode cX7_removeFirstBlocked 53 = .ok (.goto (-51), 3) := by decide +kernel
theorem dX7_removeFirstBlocked_56 : decode cX7_removeFirstBlocked 56 = .ok (.iconst 0, 1) := by decide +kernel
theorem dX7_removeFirstBlocked_57 : decode cX7_removeFirstBlocked 57 = .ok (.ireturn, 1) := by decide +kernel
abbrev mtX7_removeFirstBlocked : mj_T := (yX7_removeFirstBlocked.cls, cX7_removeFirstBlocked, 4, (some .boolean), mj_no, yX7_removeFirstBlocked.name)
abbrev kX7_removeFirstBlocked (k0 : Nat) (k1 : Nat) (g : mj_S) (M : mj_M) (q : Int32 → mj_M → Prop) : Prop := mj_CI yX7_removeFirstBlocked (.code yX7_removeFirstBlocked cX7_removeFirstBlocked 4 (some .boolean)) 3 [.ref (k0), .ref (k1)] g M q
theorem kiX7_removeFirstBlocked : mj_cV yX7_removeFirstBlocked cX7_removeFirstBlocked 4 (some .boolean) 1 := ⟨⟨wd_534, wp_12, wd_8, wd_535⟩, ⟨by decide +kernel, by decide +kernel, by decide +kernel⟩, Nat.le_of_ble_eq_true rfl⟩
def LX7_removeFirstBlocked_2 (k0 : Nat) (k1 : Nat) (x2 : Int32) (g : mj_S) (M : mj_M) (q : Int32 → mj_M → Prop) : Prop := ∀ d, 3 ≤ d → ∀ ex : Bool, mj_G mtX7_removeFirstBlocked (mj_rm d 0 0) (mj_Fi (mj_qI g q) mj_x0 0 0) ex 0 0 2 [(1, .ref (k1)), (2, .int (x2))] [] g M
theorem eX7_removeFirstBlocked {k0 : Nat} {k1 : Nat} {g : mj_S} {M : mj_M} {q : Int32 → mj_M → Prop} (h0 : is7 g k0) (h1 : is6 g k1) (h : LX7_removeFirstBlocked_2 k0 k1 (0) g (M) q) : kX7_removeFirstBlocked (k0) (k1) g M q := by
  intro d hd; refine mj_enter (by decide +kernel) (Nat.le_of_ble_eq_true rfl) ?_
  generalize (false : Bool) = ex
  show mj_G mtX7_removeFirstBlocked (mj_rm d 0 0) (mj_Fi (mj_qI g q) mj_x0 0 0) ex 0 0 0 [(0, .ref (k0)), (1, .ref (k1))] [] g M
  refine mg_iconst (v := 0) dX7_removeFirstBlocked_0 (by decide) ?_
  refine mg_istore_n (ls' := [(2, .int (0)), (0, .ref (k0)), (1, .ref (k1))]) dX7_removeFirstBlocked_1 rfl (Nat.le_of_ble_eq_true rfl) rfl ?_
  exact mg_pick [2, 0] rfl (h d hd ex)
theorem bX7_removeFirstBlocked_2 {k0 : Nat} {k1 : Nat} {x2 : Int32} {g : mj_S} {M : mj_M} {q : Int32 → mj_M → Prop} (h0 : is7 g k0) (h1 : is6 g k1) (h : ∃ (q1 : Int32 → mj_M → Prop), kX0_size (k1 + 1) g (M) q1 ∧ ∀ (v1 : Int32) (M1 : mj_M), q1 v1 M1 → (((v1 : Int32) ≤ (x2) → q 0 (M1)) ∧ (¬ (v1 : Int32) ≤ (x2) → ∃ (q2 : Int32 → mj_M → Prop), kX9_lowestBlocking (k1 + 1) (x2) g (M1) q2 ∧ ∀ (v2 : Int32) (M2 : mj_M), q2 v2 M2 → (((v2 : Int32) = (-1 : Int32) → LX7_removeFirstBlocked_2 k0 k1 (x2 + 1) g (M2) q) ∧ (¬ (v2 : Int32) = (-1 : Int32) → ∃ (q3 : Int32 → mj_M → Prop), kX0_at (k1 + 1) (x2) g (M2) q3 ∧ ∀ (v3 : Int32) (M3 : mj_M), q3 v3 M3 → (∃ (q4 : mj_M → Prop), kX6_pushRow (k1) (v3) (v2) g (M3) q4 ∧ ∀ (M4 : mj_M), q4 M4 → (∃ (q5 : mj_M → Prop), kX0_removeAt (k1 + 1) (x2) g (M4) q5 ∧ ∀ (M5 : mj_M), q5 M5 → (q 1 (M5))))))))) : LX7_removeFirstBlocked_2 k0 k1 x2 g M q := by
  intro d hd ex
  refine mg_iload_n dX7_removeFirstBlocked_2 rfl 1 rfl ?_
  refine mg_aload_n dX7_removeFirstBlocked_3 rfl 0 rfl ?_
  refine mg_getR (j := 3) dX7_removeFirstBlocked_4 kc_6 (Nat.le_of_ble_eq_true rfl) wd_74 rfl rfl h1.1.1 h1.1.2 h1.2.1.1 ?_
  obtain ⟨q1, hC, hk⟩ := h
  refine mc_Vi [] [.int (x2)] dX7_removeFirstBlocked_7 wd_407 kiX0_size (Nat.le_of_ble_eq_true rfl) h1.2.1.2.1.1 h1.2.1.2.1.2 rfl (Nat.le_trans (Nat.le_of_ble_eq_true rfl) hd) hC (fun v1 M1 hq => ?_)
  replace h := hk v1 M1 hq
  refine mg_icmp_ge (tgt := 56) dX7_removeFirstBlocked_10 (by decide) (fun hc => ?_) (fun hc => ?_)
  · replace h := h.1 hc
    refine mg_iconst (v := 0) dX7_removeFirstBlocked_56 (by decide) ?_
    exact me_z dX7_removeFirstBlocked_57 rfl (Or.inl rfl) h
  · replace h := h.2 hc
    refine mg_aload_n dX7_removeFirstBlocked_13 rfl 0 rfl ?_
    refine mg_getR (j := 3) dX7_removeFirstBlocked_14 kc_6 (Nat.le_of_ble_eq_true rfl) wd_74 rfl rfl h1.1.1 h1.1.2 h1.2.1.1 ?_
    refine mg_iload_n dX7_removeFirstBlocked_17 rfl 1 rfl ?_
    obtain ⟨q2, hC, hk⟩ := h
    refine mc_Ni [.ref (k1 + 1), .int (x2)] [] 12 dX7_removeFirstBlocked_18 rfl kiX9_lowestBlocking (Nat.le_of_ble_eq_true rfl) (Nat.le_trans (Nat.le_of_ble_eq_true rfl) hd) hC (fun v2 M2 hq => ?_)
    replace h := hk v2 M2 hq
    refine mg_istore_n (ls' := [(3, .int (v2)), (1, .ref (k1)), (2, .int (x2))]) dX7_removeFirstBlocked_21 rfl (Nat.le_of_ble_eq_true rfl) rfl ?_
    refine mg_iload_n dX7_removeFirstBlocked_22 rfl 0 rfl ?_
    refine mg_iconst (v := (-1)) dX7_removeFirstBlocked_23 (by decide) ?_
    refine mg_icmp_eq (tgt := 50) dX7_removeFirstBlocked_24 (by decide) (fun hc => ?_) (fun hc => ?_)
    · replace h := h.1 hc
      refine mg_iinc (v := x2 + 1) (ls' := [(2, .int (x2 + 1)), (3, .int (v2)), (1, .ref (k1))]) dX7_removeFirstBlocked_50 2 rfl rfl (Nat.le_of_ble_eq_true rfl) rfl ?_
      refine mg_goto (tgt := 2) dX7_removeFirstBlocked_53 (by decide) ?_
      exact mg_pick [2, 0] rfl (h d hd ex)
    · replace h := h.2 hc
      refine mg_aload_n dX7_removeFirstBlocked_27 rfl 1 rfl ?_
      refine mg_aload_n dX7_removeFirstBlocked_28 rfl 1 rfl ?_
      refine mg_getR (j := 3) dX7_removeFirstBlocked_29 kc_6 (Nat.le_of_ble_eq_true rfl) wd_74 rfl rfl h1.1.1 h1.1.2 h1.2.1.1 ?_
      refine mg_iload_n dX7_removeFirstBlocked_32 rfl 2 rfl ?_
      obtain ⟨q3, hC, hk⟩ := h
      refine mc_Vi [.int (x2)] [.ref (k1)] dX7_removeFirstBlocked_33 wd_408 kiX0_at (Nat.le_of_ble_eq_true rfl) h1.2.1.2.1.1 h1.2.1.2.1.2 rfl (Nat.le_trans (Nat.le_of_ble_eq_true rfl) hd) hC (fun v3 M3 hq => ?_)
      replace h := hk v3 M3 hq
      refine mg_iload_n dX7_removeFirstBlocked_36 rfl 0 rfl ?_
      obtain ⟨q4, hC, hk⟩ := h
      refine mc_Vv [.int (v3), .int (v2)] [] dX7_removeFirstBlocked_37 wd_519 kiX6_pushRow (Nat.le_of_ble_eq_true rfl) h1.1.1 h1.1.2 rfl (Nat.le_trans (Nat.le_of_ble_eq_true rfl) hd) hC (fun M4 hq => ?_)
      replace h := hk M4 hq
      refine mg_aload_n dX7_removeFirstBlocked_40 rfl 1 rfl ?_
      refine mg_getR (j := 3) dX7_removeFirstBlocked_41 kc_6 (Nat.le_of_ble_eq_true rfl) wd_74 rfl rfl h1.1.1 h1.1.2 h1.2.1.1 ?_
      refine mg_iload_n dX7_removeFirstBlocked_44 rfl 2 rfl ?_
      obtain ⟨q5, hC, hk⟩ := h
      refine mc_Vv [.int (x2)] [] dX7_removeFirstBlocked_45 wd_454 kiX0_removeAt (Nat.le_of_ble_eq_true rfl) h1.2.1.2.1.1 h1.2.1.2.1.2 rfl (Nat.le_trans (Nat.le_of_ble_eq_true rfl) hd) hC (fun M5 hq => ?_)
      replace h := hk M5 hq
      refine mg_iconst (v := 1) dX7_removeFirstBlocked_48 (by decide) ?_
      exact me_z dX7_removeFirstBlocked_49 rfl (Or.inr rfl) h
theorem dX7_removeBlocked_0 : decode cX7_removeBlocked 0 = .ok (.iconst 0, 1) := by decide +kernel
theorem dX7_removeBlocked_1 : decode cX7_removeBlocked 1 = .ok (.istore_n 2, 1) := by decide +kernel
theorem dX7_removeBlocked_2 : decode cX7_removeBlocked 2 = .ok (.iconst 0, 1) := by decide +kernel
theorem dX7_removeBlocked_3 : decode cX7_removeBlocked 3 = .ok (.istore_n 3, 1) := by decide +kernel
theorem dX7_removeBlocked_4 : decode cX7_removeBlocked 4 = .ok (.iload_n 3, 1) := by decide +kernel
theorem dX7_removeBlocked_5 : decode cX7_removeBlocked 5 = .ok (.ldc 80, 2) := by decide +kernel
theorem dX7_removeBlocked_7 : decode cX7_removeBlocked 7 = .ok (.if_icmp .ge 31, 3) := by decide +kernel
theorem dX7_removeBlocked_10 : decode cX7_removeBlocked 10 = .ok (.aload_n 1, 1) := by decide +kernel
theorem dX7_removeBlocked_11 : decode cX7_removeBlocked 11 = .ok (.getfield 167, 3) := by decide +kernel
theorem dX7_removeBlocked_14 : decode cX7_removeBlocked 14 = .ok (.bipush 120, 2) := by decide +kernel
theorem dX7_removeBlocked_16 : decode cX7_removeBlocked 16 = .ok (.if_icmp .ge 11, 3) := by decide +kernel
theorem dX7_removeBlocked_19 : decode cX7_removeBlocked 19 = .ok (.aload_n 0, 1) := by decide +kernel
theorem dX7_removeBlocked_20 : decode cX7_removeBlocked 20 = .ok (.aload_n 1, 1) := by decide +kernel
theorem dX7_removeBlocked_21 : decode cX7_removeBlocked 21 = .ok (.invokevirtual 190, 3) := by decide +kernel
theorem dX7_removeBlocked_24 : decode cX7_removeBlocked 24 = .ok (.ifCond .ne 5, 3) := by decide +kernel
theorem dX7_removeBlocked_27 : decode cX7_removeBlocked 27 = .ok (.iload_n 2, 1) := by decide +kernel
theorem dX7_removeBlocked_28 : decode cX7_removeBlocked 28 = .ok (.ireturn, 1) := by decide +kernel
theorem dX7_removeBlocked_29 : decode cX7_removeBlocked 29 = .ok (.iinc 2 1, 3) := by decide +kernel
theorem dX7_removeBlocked_32 : decode cX7_removeBlocked 32 = .ok (.iinc 3 1, 3) := by decide +kernel
theorem dX7_removeBlocked_35 : decode cX7_removeBlocked 35 = .ok (.goto (-31), 3) := by decide +kernel
theorem dX7_removeBlocked_38 : decode cX7_removeBlocked 38 = .ok (.iload_n 2, 1) := by decide +kernel
theorem dX7_removeBlocked_39 : decode cX7_removeBlocked 39 = .ok (.ireturn, 1) := by decide +kernel
abbrev mtX7_removeBlocked : mj_T := (yX7_removeBlocked.cls, cX7_removeBlocked, 4, (some .int), mj_no, yX7_removeBlocked.name)
abbrev kX7_removeBlocked (k0 : Nat) (k1 : Nat) (g : mj_S) (M : mj_M) (q : Int32 → mj_M → Prop) : Prop := mj_CI yX7_removeBlocked (.code yX7_removeBlocked cX7_removeBlocked 4 (some .int)) 4 [.ref (k0), .ref (k1)] g M q
theorem kiX7_removeBlocked : mj_cV yX7_removeBlocked cX7_removeBlocked 4 (some .int) 1 := ⟨⟨wd_530, wp_11, wd_8, wd_531⟩, ⟨by decide +kernel, by decide +kernel, by decide +kernel⟩, Nat.le_of_ble_eq_true rfl⟩
def LX7_removeBlocked_4 (k0 : Nat) (k1 : Nat) (x2 : Int32) (x3 : Int32) (g : mj_S) (M : mj_M) (q : Int32 → mj_M → Prop) : Prop := ∀ d, 4 ≤ d → ∀ ex : Bool, mj_G mtX7_removeBlocked (mj_rm d 0 0) (mj_Fi (mj_qI g q) mj_x0 0 0) ex 0 0 4 [(0, .ref (k0)), (1, .ref (k1)), (2, .int (x2)), (3, .int (x3))] [] g M
theorem eX7_removeBlocked {k0 : Nat} {k1 : Nat} {g : mj_S} {M : mj_M} {q : Int32 → mj_M → Prop} (h0 : is7 g k0) (h1 : is6 g k1) (h : LX7_removeBlocked_4 k0 k1 (0) (0) g (M) q) : kX7_removeBlocked (k0) (k1) g M q := by
  intro d hd; refine mj_enter (by decide +kernel) (Nat.le_of_ble_eq_true rfl) ?_
  generalize (false : Bool) = ex
  show mj_G mtX7_removeBlocked (mj_rm d 0 0) (mj_Fi (mj_qI g q) mj_x0 0 0) ex 0 0 0 [(0, .ref (k0)), (1, .ref (k1))] [] g M
  refine mg_iconst (v := 0) dX7_removeBlocked_0 (by decide) ?_
  refine mg_istore_n (ls' := [(2, .int (0)), (0, .ref (k0)), (1, .ref (k1))]) dX7_removeBlocked_1 rfl (Nat.le_of_ble_eq_true rfl) rfl ?_
  refine mg_iconst (v := 0) dX7_removeBlocked_2 (by decide) ?_
  refine mg_istore_n (ls' := [(3, .int (0)), (2, .int (0)), (0, .ref (k0)), (1, .ref (k1))]) dX7_removeBlocked_3 rfl (Nat.le_of_ble_eq_true rfl) rfl ?_
  exact mg_pick [2, 3, 1, 0] rfl (h d hd ex)
theorem bX7_removeBlocked_4 {k0 : Nat} {k1 : Nat} {x2 : Int32} {x3 : Int32} {g : mj_S} {M : mj_M} {q : Int32 → mj_M → Prop} (h0 : is7 g k0) (h1 : is6 g k1) (h : ((1000000 : Int32) ≤ (x3) → q (x2) (M)) ∧ (¬ (1000000 : Int32) ≤ (x3) → ((120 : Int32) ≤ ((M).1 (k1) 2) → q (x2) (M)) ∧ (¬ (120 : Int32) ≤ ((M).1 (k1) 2) → ∃ (q1 : Int32 → mj_M → Prop), kX7_removeFirstBlocked (k0) (k1) g (M) q1 ∧ ∀ (v1 : Int32) (M1 : mj_M), q1 v1 M1 → ((¬ (v1 : Int32) = 0 → LX7_removeBlocked_4 k0 k1 (x2 + 1) (x3 + 1) g (M1) q) ∧ ((v1 : Int32) = 0 → q (x2) (M1)))))) : LX7_removeBlocked_4 k0 k1 x2 x3 g M q := by
  intro d hd ex
  refine mg_iload_n dX7_removeBlocked_4 rfl 3 rfl ?_
  refine mg_ldc (v := 1000000) dX7_removeBlocked_5 wd_402 ?_
  refine mg_icmp_ge (tgt := 38) dX7_removeBlocked_7 (by decide) (fun hc => ?_) (fun hc => ?_)
  · replace h := h.1 hc
    refine mg_iload_n dX7_removeBlocked_38 rfl 2 rfl ?_
    exact me_i dX7_removeBlocked_39 rfl h
  · replace h := h.2 hc
    refine mg_aload_n dX7_removeBlocked_10 rfl 1 rfl ?_
    refine mg_getI (j := 2) dX7_removeBlocked_11 kc_6 (Nat.le_of_ble_eq_true rfl) wd_71 rfl rfl h1.1.1 h1.1.2 rfl ?_
    refine mg_bipush (v := 120) dX7_removeBlocked_14 (by decide) ?_
    refine mg_icmp_ge (tgt := 27) dX7_removeBlocked_16 (by decide) (fun hc => ?_) (fun hc => ?_)
    · replace h := h.1 hc
      refine mg_iload_n dX7_removeBlocked_27 rfl 2 rfl ?_
      exact me_i dX7_removeBlocked_28 rfl h
    · replace h := h.2 hc
      refine mg_aload_n dX7_removeBlocked_19 rfl 0 rfl ?_
      refine mg_aload_n dX7_removeBlocked_20 rfl 1 rfl ?_
      obtain ⟨q1, hC, hk⟩ := h
      refine mc_Vi [.ref (k1)] [] dX7_removeBlocked_21 wd_532 kiX7_removeFirstBlocked (Nat.le_of_ble_eq_true rfl) h0.1.1 h0.1.2 rfl (Nat.le_trans (Nat.le_of_ble_eq_true rfl) hd) hC (fun v1 M1 hq => ?_)
      replace h := hk v1 M1 hq
      refine mg_if_ne (tgt := 29) dX7_removeBlocked_24 (by decide) (fun hc => ?_) (fun hc => ?_)
      · replace h := h.1 hc
        refine mg_iinc (v := x2 + 1) (ls' := [(2, .int (x2 + 1)), (0, .ref (k0)), (1, .ref (k1)), (3, .int (x3))]) dX7_removeBlocked_29 2 rfl rfl (Nat.le_of_ble_eq_true rfl) rfl ?_
        refine mg_iinc (v := x3 + 1) (ls' := [(3, .int (x3 + 1)), (2, .int (x2 + 1)), (0, .ref (k0)), (1, .ref (k1))]) dX7_removeBlocked_32 3 rfl rfl (Nat.le_of_ble_eq_true rfl) rfl ?_
        refine mg_goto (tgt := 4) dX7_removeBlocked_35 (by decide) ?_
        exact mg_pick [2, 3, 1, 0] rfl (h d hd ex)
      · replace h := h.2 hc
        refine mg_iload_n dX7_removeBlocked_27 rfl 2 rfl ?_
        exact me_i dX7_removeBlocked_28 rfl h
theorem dX7_removeFirstCovered_0 : decode cX7_removeFirstCovered 0 = .ok (.iconst 0, 1) := by decide +kernel
theorem dX7_removeFirstCovered_1 : decode cX7_removeFirstCovered 1 = .ok (.istore_n 2, 1) := by decide +kernel
theorem dX7_removeFirstCovered_2 : decode cX7_removeFirstCovered 2 = .ok (.iload_n 2, 1) := by decide +kernel
theorem dX7_removeFirstCovered_3 : decode cX7_removeFirstCovered 3 = .ok (.aload_n 1, 1) := by decide +kernel
theorem dX7_removeFirstCovered_4 : decode cX7_removeFirstCovered 4 = .ok (.getfield 32, 3) := by decide +kernel
theorem dX7_removeFirstCovered_7 : decode cX7_removeFirstCovered 7 = .ok (.invokevirtual 88, 3) := by decide +kernel
theorem dX7_removeFirstCovered_10 : decode cX7_removeFirstCovered 10 = .ok (.if_icmp .ge 106, 3) := by decide +kernel
theorem dX7_removeFirstCovered_13 : decode cX7_removeFirstCovered 13 = .ok (.aload_n 0, 1) := by decide +kernel
theorem dX7_removeFirstCovered_14 : decode cX7_removeFirstCovered 14 = .ok (.getfield 21, 3) := by decide +kernel
theorem dX7_removeFirstCovered_17 : decode cX7_removeFirstCovered 17 = .ok (.aload_n 1, 1) := by decide +kernel
theorem dX7_removeFirstCovered_18 : decode cX7_removeFirstCovered 18 = .ok (.getfield 32, 3) := by decide +kernel
theorem dX7_removeFirstCovered_21 : decode cX7_removeFirstCovered 21 = .ok (.iload_n 2, 1) := by decide +kernel
theorem dX7_removeFirstCovered_22 : decode cX7_removeFirstCovered 22 = .ok (.invokevirtual 200, 3) := by decide +kernel
theorem dX7_removeFirstCovered_25 : decode cX7_removeFirstCovered 25 = .ok (.aload_n 0, 1) := by decide +kernel
theorem dX7_removeFirstCovered_26 : decode cX7_removeFirstCovered 26 = .ok (.getfield 21, 3) := by decide +kernel
theorem dX7_removeFirstCovered_29 : decode cX7_removeFirstCovered 29 = .ok (.getfield 203, 3) := by decide +kernel
theorem dX7_removeFirstCovered_32 : decode cX7_removeFirstCovered 32 = .ok (.ifCond .eq 78, 3) := by decide +kernel
theorem dX7_removeFirstCovered_35 : decode cX7_removeFirstCovered 35 = .ok (.aload_n 1, 1) := by decide +kernel
theorem dX7_removeFirstCovered_36 : decode cX7_removeFirstCovered 36 = .ok (.getfield 167, 3) := by decide +kernel
theorem dX7_removeFirstCovered_39 : decode cX7_removeFirstCovered 39 = .ok (.aload_n 0, 1) := by decide +kernel
theorem dX7_removeFirstCovered_40 : decode cX7_removeFirstCovered 40 = .ok (.getfield 21, 3) := by decide +kernel
theorem dX7_removeFirstCovered_43 : decode cX7_removeFirstCovered 43 = .ok (.getfield 207, 3) := by decide +kernel
theorem dX7_removeFirstCovered_46 : decode cX7_removeFirstCovered 46 = .ok (.invokevirtual 88, 3) := by decide +kernel
theorem dX7_removeFirstCovered_49 : decode cX7_removeFirstCovered 49 = .ok (.iadd, 1) := by decide +kernel
theorem dX7_removeFirstCovered_50 : decode cX7_removeFirstCovered 50 = .ok (.bipush 120, 2) := by decide +kernel
theorem dX7_removeFirstCovered_52 : decode cX7_removeFirstCovered 52 = .ok (.if_icmp .gt 58, 3) := by decide +kernel
theorem dX7_removeFirstCovered_55 : decode cX7_removeFirstCovered 55 = .ok (.iconst 0, 1) := by decide +kernel
theorem dX7_removeFirstCovered_56 : decode cX7_removeFirstCovered 56 = .ok (.istore_n 3, 1) := by decide +kernel
theorem dX7_removeFirstCovered_57 : decode cX7_removeFirstCovered 57 = .ok (.iload_n 3, 1) := by decide +kernel
theorem dX7_removeFirstCovered_58 : decode cX7_removeFirstCovered 58 = .ok (.aload_n 0, 1) := by decide +kernel
theorem dX7_removeFirstCovered_59 : decode cX7_removeFirstCovered 59 = .ok (.getfield 21, 3) := by decide +kernel
theorem dX7_removeFirstCovered_62 : decode cX7_removeFirstCovered 62 = .ok (.getfield 207, 3) := by decide +kernel
theorem dX7_removeFirstCovered_65 : decode cX7_removeFirstCovered 65 = .ok (.invokevirtual 88, 3) := by decide +kernel
theorem dX7_removeFirstCovered_68 : decode cX7_removeFirstCovered 68 = .ok (.if_icmp .ge 32, 3) := by decide +kernel
theorem dX7_removeFirstCovered_71 : decode cX7_removeFirstCovered 71 = .ok (.aload_n 1, 1) := by decide +kernel
theorem dX7_removeFirstCovered_72 : decode cX7_removeFirstCovered 72 = .ok (.aload_n 0, 1) := by decide +kernel
theorem dX7_removeFirstCovered_73 : decode cX7_removeFirstCovered 73 = .ok (.getfield 21, 3) := by decide +kernel
theorem dX7_removeFirstCovered_76 : decode cX7_removeFirstCovered 76 = .ok (.getfield 207, 3) := by decide +kernel
theorem dX7_removeFirstCovered_79 : decode cX7_removeFirstCovered 79 = .ok (.iload_n 3, 1) := by decide +kernel
theorem dX7_removeFirstCovered_80 : decode cX7_removeFirstCovered 80 = .ok (.invokevirtual 92, 3) := by decide +kernel
theorem dX7_removeFirstCovered_83 : decode cX7_removeFirstCovered 83 = .ok (.aload_n 0, 1) := by decide +kernel
theorem dX7_removeFirstCovered_84 : decode cX7_removeFirstCovered 84 = .ok (.getfield 21, 3) := by decide +kernel
theorem dX7_removeFirstCovered_87 : decode cX7_removeFirstCovered 87 = .ok (.iload_n 3, 1) := by decide +kernel
theorem dX7_removeFirstCovered_88 : decode cX7_removeFirstCovered 88 = .ok (.invokevirtual 210, 3) := by decide +kernel
theorem dX7_removeFirstCovered_91 : decode cX7_removeFirstCovered 91 = .ok (.invokevirtual 177, 3) := by decide +kernel
theorem dX7_removeFirstCovered_94 : decode cX7_removeFirstCovered 94 = .ok (.iinc 3 1, 3) := by decide +kernel
theorem dX7_removeFirstCovered_97 : decode cX7_removeFirstCovered 97 = .ok (.goto (-40), 3) := by decide +kernel
theorem dX7_removeFirstCovered_100 : decode cX7_removeFirstCovered 100 = .ok (.aload_n 1, 1) := by decide +kernel
theorem dX7_removeFirstCovered_101 : decode cX7_removeFirstCovered 101 = .ok (.getfield 32, 3) := by decide +kernel
theorem dX7_removeFirstCovered_104 : decode cX7_removeFirstCovered 104 = .ok (.iload_n 2, 1) := by decide +kernel
theorem dX7_removeFirstCovered_105 : decode cX7_removeFirstCovered 105 = .ok (.invokevirtual 123, 3) := by decide +kernel
theorem dX7_removeFirstCovered_108 : decode cX7_removeFirstCovered 108 = .ok (.iconst 1, 1) := by decide +kernel
theorem dX7_removeFirstCovered_109 : decode cX7_removeFirstCovered 109 = .ok (.ireturn, 1) := by decide +kernel
theorem dX7_removeFirstCovered_110 : decode cX7_removeFirstCovered 110 = .ok (.iinc 2 1, 3) := by decide +kernel
theorem dX7_removeFirstCovered_113 : decode cX7_removeFirstCovered 113 = .ok (.goto (-111), 3) := by decide +kernel
theorem dX7_removeFirstCovered_116 : decode cX7_removeFirstCovered 116 = .ok (.iconst 0, 1) := by decide +kernel
theorem dX7_removeFirstCovered_117 : decode cX7_removeFirstCovered 117 = .ok (.ireturn, 1) := by decide +kernel
abbrev mtX7_removeFirstCovered : mj_T := (yX7_removeFirstCovered.cls, cX7_removeFirstCovered, 4, (some .boolean), mj_no, yX7_removeFirstCovered.name)
abbrev kX7_removeFirstCovered (k0 : Nat) (k1 : Nat) (g : mj_S) (M : mj_M) (q : Int32 → mj_M → Prop) : Prop := mj_CI yX7_removeFirstCovered (.code yX7_removeFirstCovered cX7_removeFirstCovered 4 (some .boolean)) 3 [.ref (k0), .ref (k1)] g M q
theorem kiX7_removeFirstCovered : mj_cV yX7_removeFirstCovered cX7_removeFirstCovered 4 (some .boolean) 1 := ⟨⟨wd_551, wp_14, wd_8, wd_552⟩, ⟨by decide +kernel, by decide +kernel, by decide +kernel⟩, Nat.le_of_ble_eq_true rfl⟩
def LX7_removeFirstCovered_2 (k0 : Nat) (k1 : Nat) (x2 : Int32) (g : mj_S) (M : mj_M) (q : Int32 → mj_M → Prop) : Prop := ∀ d, 3 ≤ d → ∀ ex : Bool, mj_G mtX7_removeFirstCovered (mj_rm d 0 0) (mj_Fi (mj_qI g q) mj_x0 0 0) ex 0 0 2 [(0, .ref (k0)), (1, .ref (k1)), (2, .int (x2))] [] g M
def LX7_removeFirstCovered_57 (k0 : Nat) (k1 : Nat) (x2 : Int32) (x3 : Int32) (g : mj_S) (M : mj_M) (q : Int32 → mj_M → Prop) : Prop := ∀ d, 3 ≤ d → ∀ ex : Bool, mj_G mtX7_removeFirstCovered (mj_rm d 0 0) (mj_Fi (mj_qI g q) mj_x0 0 0) ex 0 0 57 [(0, .ref (k0)), (1, .ref (k1)), (2, .int (x2)), (3, .int (x3))] [] g M
theorem eX7_removeFirstCovered {k0 : Nat} {k1 : Nat} {g : mj_S} {M : mj_M} {q : Int32 → mj_M → Prop} (h0 : is7 g k0) (h1 : is6 g k1) (h : LX7_removeFirstCovered_2 k0 k1 (0) g (M) q) : kX7_removeFirstCovered (k0) (k1) g M q := by
  intro d hd; refine mj_enter (by decide +kernel) (Nat.le_of_ble_eq_true rfl) ?_
  generalize (false : Bool) = ex
  show mj_G mtX7_removeFirstCovered (mj_rm d 0 0) (mj_Fi (mj_qI g q) mj_x0 0 0) ex 0 0 0 [(0, .ref (k0)), (1, .ref (k1))] [] g M
  refine mg_iconst (v := 0) dX7_removeFirstCovered_0 (by decide) ?_
  refine mg_istore_n (ls' := [(2, .int (0)), (0, .ref (k0)), (1, .ref (k1))]) dX7_removeFirstCovered_1 rfl (Nat.le_of_ble_eq_true rfl) rfl ?_
  exact mg_pick [1, 2, 0] rfl (h d hd ex)
theorem bX7_removeFirstCovered_2 {k0 : Nat} {k1 : Nat} {x2 : Int32} {g : mj_S} {M : mj_M} {q : Int32 → mj_M → Prop} (h0 : is7 g k0) (h1 : is6 g k1) (h : ∃ (q1 : Int32 → mj_M → Prop), kX0_size (k1 + 1) g (M) q1 ∧ ∀ (v1 : Int32) (M1 : mj_M), q1 v1 M1 → (((v1 : Int32) ≤ (x2) → q 0 (M1)) ∧ (¬ (v1 : Int32) ≤ (x2) → ∃ (q2 : mj_M → Prop), kX3_find (k0 + 4) (k1 + 1) (x2) g (M1) q2 ∧ ∀ (M2 : mj_M), q2 M2 → ((((M2).1 (k0 + 4) 3 : Int32) = 0 → LX7_removeFirstCovered_2 k0 k1 (x2 + 1) g (M2) q) ∧ (¬ ((M2).1 (k0 + 4) 3 : Int32) = 0 → ∃ (q3 : Int32 → mj_M → Prop), kX0_size (k0 + 4 + 1) g (M2) q3 ∧ ∀ (v3 : Int32) (M3 : mj_M), q3 v3 M3 → (((120 : Int32) < (((M2).1 (k1) 2) + (v3)) → LX7_removeFirstCovered_2 k0 k1 (x2 + 1) g (M3) q) ∧ (¬ (120 : Int32) < (((M2).1 (k1) 2) + (v3)) → LX7_removeFirstCovered_57 k0 k1 (x2) (0) g (M3) q))))))) : LX7_removeFirstCovered_2 k0 k1 x2 g M q := by
  intro d hd ex
  refine mg_iload_n dX7_removeFirstCovered_2 rfl 2 rfl ?_
  refine mg_aload_n dX7_removeFirstCovered_3 rfl 1 rfl ?_
  refine mg_getR (j := 3) dX7_removeFirstCovered_4 kc_6 (Nat.le_of_ble_eq_true rfl) wd_74 rfl rfl h1.1.1 h1.1.2 h1.2.1.1 ?_
  obtain ⟨q1, hC, hk⟩ := h
  refine mc_Vi [] [.int (x2)] dX7_removeFirstCovered_7 wd_407 kiX0_size (Nat.le_of_ble_eq_true rfl) h1.2.1.2.1.1 h1.2.1.2.1.2 rfl (Nat.le_trans (Nat.le_of_ble_eq_true rfl) hd) hC (fun v1 M1 hq => ?_)
  replace h := hk v1 M1 hq
  refine mg_icmp_ge (tgt := 116) dX7_removeFirstCovered_10 (by decide) (fun hc => ?_) (fun hc => ?_)
  · replace h := h.1 hc
    refine mg_iconst (v := 0) dX7_removeFirstCovered_116 (by decide) ?_
    exact me_z dX7_removeFirstCovered_117 rfl (Or.inl rfl) h
  · replace h := h.2 hc
    refine mg_aload_n dX7_removeFirstCovered_13 rfl 0 rfl ?_
    refine mg_getR (j := 1) dX7_removeFirstCovered_14 kc_7 (Nat.le_of_ble_eq_true rfl) wd_220 rfl rfl h0.1.1 h0.1.2 h0.2.2.1.1 ?_
    refine mg_aload_n dX7_removeFirstCovered_17 rfl 1 rfl ?_
    refine mg_getR (j := 3) dX7_removeFirstCovered_18 kc_6 (Nat.le_of_ble_eq_true rfl) wd_74 rfl rfl h1.1.1 h1.1.2 h1.2.1.1 ?_
    refine mg_iload_n dX7_removeFirstCovered_21 rfl 2 rfl ?_
    obtain ⟨q2, hC, hk⟩ := h
    refine mc_Vv [.ref (k1 + 1), .int (x2)] [] dX7_removeFirstCovered_22 wd_553 kiX3_find (Nat.le_of_ble_eq_true rfl) h0.2.2.1.2.1.1 h0.2.2.1.2.1.2 rfl (Nat.le_trans (Nat.le_of_ble_eq_true rfl) hd) hC (fun M2 hq => ?_)
    replace h := hk M2 hq
    refine mg_aload_n dX7_removeFirstCovered_25 rfl 0 rfl ?_
    refine mg_getR (j := 1) dX7_removeFirstCovered_26 kc_7 (Nat.le_of_ble_eq_true rfl) wd_220 rfl rfl h0.1.1 h0.1.2 h0.2.2.1.1 ?_
    refine mg_getI (j := 3) dX7_removeFirstCovered_29 kc_3 (Nat.le_of_ble_eq_true rfl) wd_197 rfl rfl h0.2.2.1.2.1.1 h0.2.2.1.2.1.2 rfl ?_
    refine mg_if_eq (tgt := 110) dX7_removeFirstCovered_32 (by decide) (fun hc => ?_) (fun hc => ?_)
    · replace h := h.1 hc
      refine mg_iinc (v := x2 + 1) (ls' := [(2, .int (x2 + 1)), (0, .ref (k0)), (1, .ref (k1))]) dX7_removeFirstCovered_110 2 rfl rfl (Nat.le_of_ble_eq_true rfl) rfl ?_
      refine mg_goto (tgt := 2) dX7_removeFirstCovered_113 (by decide) ?_
      exact mg_pick [1, 2, 0] rfl (h d hd ex)
    · replace h := h.2 hc
      refine mg_aload_n dX7_removeFirstCovered_35 rfl 1 rfl ?_
      refine mg_getI (j := 2) dX7_removeFirstCovered_36 kc_6 (Nat.le_of_ble_eq_true rfl) wd_71 rfl rfl h1.1.1 h1.1.2 rfl ?_
      refine mg_aload_n dX7_removeFirstCovered_39 rfl 0 rfl ?_
      refine mg_getR (j := 1) dX7_removeFirstCovered_40 kc_7 (Nat.le_of_ble_eq_true rfl) wd_220 rfl rfl h0.1.1 h0.1.2 h0.2.2.1.1 ?_
      refine mg_getR (j := 0) dX7_removeFirstCovered_43 kc_3 (Nat.le_of_ble_eq_true rfl) wd_191 rfl rfl h0.2.2.1.2.1.1 h0.2.2.1.2.1.2 h0.2.2.1.2.2.1.1 ?_
      obtain ⟨q3, hC, hk⟩ := h
      refine mc_Vi [] [.int ((M2).1 (k1) 2)] dX7_removeFirstCovered_46 wd_407 kiX0_size (Nat.le_of_ble_eq_true rfl) h0.2.2.1.2.2.1.2.1.1 h0.2.2.1.2.2.1.2.1.2 rfl (Nat.le_trans (Nat.le_of_ble_eq_true rfl) hd) hC (fun v3 M3 hq => ?_)
      replace h := hk v3 M3 hq
      refine mg_iadd dX7_removeFirstCovered_49 ?_
      refine mg_bipush (v := 120) dX7_removeFirstCovered_50 (by decide) ?_
      refine mg_icmp_gt (tgt := 110) dX7_removeFirstCovered_52 (by decide) (fun hc => ?_) (fun hc => ?_)
      · replace h := h.1 hc
        refine mg_iinc (v := x2 + 1) (ls' := [(2, .int (x2 + 1)), (0, .ref (k0)), (1, .ref (k1))]) dX7_removeFirstCovered_110 2 rfl rfl (Nat.le_of_ble_eq_true rfl) rfl ?_
        refine mg_goto (tgt := 2) dX7_removeFirstCovered_113 (by decide) ?_
        exact mg_pick [1, 2, 0] rfl (h d hd ex)
      · replace h := h.2 hc
        refine mg_iconst (v := 0) dX7_removeFirstCovered_55 (by decide) ?_
        refine mg_istore_n (ls' := [(3, .int (0)), (0, .ref (k0)), (1, .ref (k1)), (2, .int (x2))]) dX7_removeFirstCovered_56 rfl (Nat.le_of_ble_eq_true rfl) rfl ?_
        exact mg_pick [1, 2, 3, 0] rfl (h d hd ex)
theorem bX7_removeFirstCovered_57 {k0 : Nat} {k1 : Nat} {x2 : Int32} {x3 : Int32} {g : mj_S} {M : mj_M} {q : Int32 → mj_M → Prop} (h0 : is7 g k0) (h1 : is6 g k1) (h : ∃ (q1 : Int32 → mj_M → Prop), kX0_size (k0 + 4 + 1) g (M) q1 ∧ ∀ (v1 : Int32) (M1 : mj_M), q1 v1 M1 → (((v1 : Int32) ≤ (x3) → ∃ (q2 : mj_M → Prop), kX0_removeAt (k1 + 1) (x2) g (M1) q2 ∧ ∀ (M2 : mj_M), q2 M2 → (q 1 (M2))) ∧ (¬ (v1 : Int32) ≤ (x3) → ∃ (q3 : Int32 → mj_M → Prop), kX0_at (k0 + 4 + 1) (x3) g (M1) q3 ∧ ∀ (v3 : Int32) (M3 : mj_M), q3 v3 M3 → (∃ (q4 : Int32 → mj_M → Prop), kX3_witnessAt (k0 + 4) (x3) g (M3) q4 ∧ ∀ (v4 : Int32) (M4 : mj_M), q4 v4 M4 → (∃ (q5 : mj_M → Prop), kX6_pushRow (k1) (v3) (v4) g (M4) q5 ∧ ∀ (M5 : mj_M), q5 M5 → (LX7_removeFirstCovered_57 k0 k1 (x2) (x3 + 1) g (M5) q)))))) : LX7_removeFirstCovered_57 k0 k1 x2 x3 g M q := by
  intro d hd ex
  refine mg_iload_n dX7_removeFirstCovered_57 rfl 3 rfl ?_
  refine mg_aload_n dX7_removeFirstCovered_58 rfl 0 rfl ?_
  refine mg_getR (j := 1) dX7_removeFirstCovered_59 kc_7 (Nat.le_of_ble_eq_true rfl) wd_220 rfl rfl h0.1.1 h0.1.2 h0.2.2.1.1 ?_
  refine mg_getR (j := 0) dX7_removeFirstCovered_62 kc_3 (Nat.le_of_ble_eq_true rfl) wd_191 rfl rfl h0.2.2.1.2.1.1 h0.2.2.1.2.1.2 h0.2.2.1.2.2.1.1 ?_
  obtain ⟨q1, hC, hk⟩ := h
  refine mc_Vi [] [.int (x3)] dX7_removeFirstCovered_65 wd_407 kiX0_size (Nat.le_of_ble_eq_true rfl) h0.2.2.1.2.2.1.2.1.1 h0.2.2.1.2.2.1.2.1.2 rfl (Nat.le_trans (Nat.le_of_ble_eq_true rfl) hd) hC (fun v1 M1 hq => ?_)
  replace h := hk v1 M1 hq
  refine mg_icmp_ge (tgt := 100) dX7_removeFirstCovered_68 (by decide) (fun hc => ?_) (fun hc => ?_)
  · replace h := h.1 hc
    refine mg_aload_n dX7_removeFirstCovered_100 rfl 1 rfl ?_
    refine mg_getR (j := 3) dX7_removeFirstCovered_101 kc_6 (Nat.le_of_ble_eq_true rfl) wd_74 rfl rfl h1.1.1 h1.1.2 h1.2.1.1 ?_
    refine mg_iload_n dX7_removeFirstCovered_104 rfl 2 rfl ?_
    obtain ⟨q2, hC, hk⟩ := h
    refine mc_Vv [.int (x2)] [] dX7_removeFirstCovered_105 wd_454 kiX0_removeAt (Nat.le_of_ble_eq_true rfl) h1.2.1.2.1.1 h1.2.1.2.1.2 rfl (Nat.le_trans (Nat.le_of_ble_eq_true rfl) hd) hC (fun M2 hq => ?_)
    replace h := hk M2 hq
    refine mg_iconst (v := 1) dX7_removeFirstCovered_108 (by decide) ?_
    exact me_z dX7_removeFirstCovered_109 rfl (Or.inr rfl) h
  · replace h := h.2 hc
    refine mg_aload_n dX7_removeFirstCovered_71 rfl 1 rfl ?_
    refine mg_aload_n dX7_removeFirstCovered_72 rfl 0 rfl ?_
    refine mg_getR (j := 1) dX7_removeFirstCovered_73 kc_7 (Nat.le_of_ble_eq_true rfl) wd_220 rfl rfl h0.1.1 h0.1.2 h0.2.2.1.1 ?_
    refine mg_getR (j := 0) dX7_removeFirstCovered_76 kc_3 (Nat.le_of_ble_eq_true rfl) wd_191 rfl rfl h0.2.2.1.2.1.1 h0.2.2.1.2.1.2 h0.2.2.1.2.2.1.1 ?_
    refine mg_iload_n dX7_removeFirstCovered_79 rfl 3 rfl ?_
    obtain ⟨q3, hC, hk⟩ := h
    refine mc_Vi [.int (x3)] [.ref (k1)] dX7_removeFirstCovered_80 wd_408 kiX0_at (Nat.le_of_ble_eq_true rfl) h0.2.2.1.2.2.1.2.1.1 h0.2.2.1.2.2.1.2.1.2 rfl (Nat.le_trans (Nat.le_of_ble_eq_true rfl) hd) hC (fun v3 M3 hq => ?_)
    replace h := hk v3 M3 hq
    refine mg_aload_n dX7_removeFirstCovered_83 rfl 0 rfl ?_
    refine mg_getR (j := 1) dX7_removeFirstCovered_84 kc_7 (Nat.le_of_ble_eq_true rfl) wd_220 rfl rfl h0.1.1 h0.1.2 h0.2.2.1.1 ?_
    refine mg_iload_n dX7_removeFirstCovered_87 rfl 3 rfl ?_
    obtain ⟨q4, hC, hk⟩ := h
    refine mc_Vi [.int (x3)] [.int (v3), .ref (k1)] dX7_removeFirstCovered_88 wd_571 kiX3_witnessAt (Nat.le_of_ble_eq_true rfl) h0.2.2.1.2.1.1 h0.2.2.1.2.1.2 rfl (Nat.le_trans (Nat.le_of_ble_eq_true rfl) hd) hC (fun v4 M4 hq => ?_)
    replace h := hk v4 M4 hq
    obtain ⟨q5, hC, hk⟩ := h
    refine mc_Vv [.int (v3), .int (v4)] [] dX7_removeFirstCovered_91 wd_519 kiX6_pushRow (Nat.le_of_ble_eq_true rfl) h1.1.1 h1.1.2 rfl (Nat.le_trans (Nat.le_of_ble_eq_true rfl) hd) hC (fun M5 hq => ?_)
    replace h := hk M5 hq
    refine mg_iinc (v := x3 + 1) (ls' := [(3, .int (x3 + 1)), (0, .ref (k0)), (1, .ref (k1)), (2, .int (x2))]) dX7_removeFirstCovered_94 3 rfl rfl (Nat.le_of_ble_eq_true rfl) rfl ?_
    refine mg_goto (tgt := 57) dX7_removeFirstCovered_97 (by decide) ?_
    exact mg_pick [1, 2, 3, 0] rfl (h d hd ex)
theorem dX7_removeCovered_0 : decode cX7_removeCovered 0 = .ok (.iconst 0, 1) := by decide +kernel
theorem dX7_removeCovered_1 : decode cX7_removeCovered 1 = .ok (.istore_n 2, 1) := by decide +kernel
theorem dX7_removeCovered_2 : decode cX7_removeCovered 2 = .ok (.iconst 0, 1) := by decide +kernel
theorem dX7_removeCovered_3 : decode cX7_removeCovered 3 = .ok (.istore_n 3, 1) := by decide +kernel
theorem dX7_removeCovered_4 : decode cX7_removeCovered 4 = .ok (.iload_n 3, 1) := by decide +kernel
theorem dX7_removeCovered_5 : decode cX7_removeCovered 5 = .ok (.ldc 80, 2) := by decide +kernel
theorem dX7_removeCovered_7 : decode cX7_removeCovered 7 = .ok (.if_icmp .ge 22, 3) := by decide +kernel
theorem dX7_removeCovered_10 : decode cX7_removeCovered 10 = .ok (.aload_n 0, 1) := by decide +kernel
theorem dX7_removeCovered_11 : decode cX7_removeCovered 11 = .ok (.aload_n 1, 1) := by decide +kernel
theorem dX7_removeCovered_12 : decode cX7_removeCovered 12 = .ok (.invokevirtual 197, 3) := by decide +kernel
theorem dX7_removeCovered_15 : decode cX7_removeCovered 15 = .ok (.ifCond .ne 5, 3) := by decide +kernel
theorem dX7_removeCovered_18 : decode cX7_removeCovered 18 = .ok (.iload_n 2, 1) := by decide +kernel
theorem dX7_removeCovered_19 : decode cX7_removeCovered 19 = .ok (.ireturn, 1) := by decide +kernel
theorem dX7_removeCovered_20 : decode cX7_removeCovered 20 = .ok (.iinc 2 1, 3) := by decide +kernel
theorem dX7_removeCovered_23 : decode cX7_removeCovered 23 = .ok (.iinc 3 1, 3) := by decide +kernel
theorem dX7_removeCovered_26 : decode cX7_removeCovered 26 = .ok (.goto (-22), 3) := by decide +kernel
theorem dX7_removeCovered_29 : decode cX7_removeCovered 29 = .ok (.iload_n 2, 1) := by decide +kernel
theorem dX7_removeCovered_30 : decode cX7_removeCovered 30 = .ok (.ireturn, 1) := by decide +kernel
abbrev mtX7_removeCovered : mj_T := (yX7_removeCovered.cls, cX7_removeCovered, 4, (some .int), mj_no, yX7_removeCovered.name)
abbrev kX7_removeCovered (k0 : Nat) (k1 : Nat) (g : mj_S) (M : mj_M) (q : Int32 → mj_M → Prop) : Prop := mj_CI yX7_removeCovered (.code yX7_removeCovered cX7_removeCovered 4 (some .int)) 4 [.ref (k0), .ref (k1)] g M q
theorem kiX7_removeCovered : mj_cV yX7_removeCovered cX7_removeCovered 4 (some .int) 1 := ⟨⟨wd_547, wp_13, wd_8, wd_548⟩, ⟨by decide +kernel, by decide +kernel, by decide +kernel⟩, Nat.le_of_ble_eq_true rfl⟩
def LX7_removeCovered_4 (k0 : Nat) (k1 : Nat) (x2 : Int32) (x3 : Int32) (g : mj_S) (M : mj_M) (q : Int32 → mj_M → Prop) : Prop := ∀ d, 4 ≤ d → ∀ ex : Bool, mj_G mtX7_removeCovered (mj_rm d 0 0) (mj_Fi (mj_qI g q) mj_x0 0 0) ex 0 0 4 [(0, .ref (k0)), (1, .ref (k1)), (2, .int (x2)), (3, .int (x3))] [] g M
theorem eX7_removeCovered {k0 : Nat} {k1 : Nat} {g : mj_S} {M : mj_M} {q : Int32 → mj_M → Prop} (h0 : is7 g k0) (h1 : is6 g k1) (h : LX7_removeCovered_4 k0 k1 (0) (0) g (M) q) : kX7_removeCovered (k0) (k1) g M q := by
  intro d hd; refine mj_enter (by decide +kernel) (Nat.le_of_ble_eq_true rfl) ?_
  generalize (false : Bool) = ex
  show mj_G mtX7_removeCovered (mj_rm d 0 0) (mj_Fi (mj_qI g q) mj_x0 0 0) ex 0 0 0 [(0, .ref (k0)), (1, .ref (k1))] [] g M
  refine mg_iconst (v := 0) dX7_removeCovered_0 (by decide) ?_
  refine mg_istore_n (ls' := [(2, .int (0)), (0, .ref (k0)), (1, .ref (k1))]) dX7_removeCovered_1 rfl (Nat.le_of_ble_eq_true rfl) rfl ?_
  refine mg_iconst (v := 0) dX7_removeCovered_2 (by decide) ?_
  refine mg_istore_n (ls' := [(3, .int (0)), (2, .int (0)), (0, .ref (k0)), (1, .ref (k1))]) dX7_removeCovered_3 rfl (Nat.le_of_ble_eq_true rfl) rfl ?_
  exact mg_pick [2, 3, 1, 0] rfl (h d hd ex)
theorem bX7_removeCovered_4 {k0 : Nat} {k1 : Nat} {x2 : Int32} {x3 : Int32} {g : mj_S} {M : mj_M} {q : Int32 → mj_M → Prop} (h0 : is7 g k0) (h1 : is6 g k1) (h : ((1000000 : Int32) ≤ (x3) → q (x2) (M)) ∧ (¬ (1000000 : Int32) ≤ (x3) → ∃ (q1 : Int32 → mj_M → Prop), kX7_removeFirstCovered (k0) (k1) g (M) q1 ∧ ∀ (v1 : Int32) (M1 : mj_M), q1 v1 M1 → ((¬ (v1 : Int32) = 0 → LX7_removeCovered_4 k0 k1 (x2 + 1) (x3 + 1) g (M1) q) ∧ ((v1 : Int32) = 0 → q (x2) (M1))))) : LX7_removeCovered_4 k0 k1 x2 x3 g M q := by
  intro d hd ex
  refine mg_iload_n dX7_removeCovered_4 rfl 3 rfl ?_
  refine mg_ldc (v := 1000000) dX7_removeCovered_5 wd_402 ?_
  refine mg_icmp_ge (tgt := 29) dX7_removeCovered_7 (by decide) (fun hc => ?_) (fun hc => ?_)
  · replace h := h.1 hc
    refine mg_iload_n dX7_removeCovered_29 rfl 2 rfl ?_
    exact me_i dX7_removeCovered_30 rfl h
  · replace h := h.2 hc
    refine mg_aload_n dX7_removeCovered_10 rfl 0 rfl ?_
    refine mg_aload_n dX7_removeCovered_11 rfl 1 rfl ?_
    obtain ⟨q1, hC, hk⟩ := h
    refine mc_Vi [.ref (k1)] [] dX7_removeCovered_12 wd_549 kiX7_removeFirstCovered (Nat.le_of_ble_eq_true rfl) h0.1.1 h0.1.2 rfl (Nat.le_trans (Nat.le_of_ble_eq_true rfl) hd) hC (fun v1 M1 hq => ?_)
    replace h := hk v1 M1 hq
    refine mg_if_ne (tgt := 20) dX7_removeCovered_15 (by decide) (fun hc => ?_) (fun hc => ?_)
    · replace h := h.1 hc
      refine mg_iinc (v := x2 + 1) (ls' := [(2, .int (x2 + 1)), (0, .ref (k0)), (1, .ref (k1)), (3, .int (x3))]) dX7_removeCovered_20 2 rfl rfl (Nat.le_of_ble_eq_true rfl) rfl ?_
      refine mg_iinc (v := x3 + 1) (ls' := [(3, .int (x3 + 1)), (2, .int (x2 + 1)), (0, .ref (k0)), (1, .ref (k1))]) dX7_removeCovered_23 3 rfl rfl (Nat.le_of_ble_eq_true rfl) rfl ?_
      refine mg_goto (tgt := 4) dX7_removeCovered_26 (by decide) ?_
      exact mg_pick [2, 3, 1, 0] rfl (h d hd ex)
    · replace h := h.2 hc
      refine mg_iload_n dX7_removeCovered_18 rfl 2 rfl ?_
      exact me_i dX7_removeCovered_19 rfl h
theorem dX7_fixFailedLiterals_0 : decode cX7_fixFailedLiterals 0 = .ok (.iconst 0, 1) := by decide +kernel
theorem dX7_fixFailedLiterals_1 : decode cX7_fixFailedLiterals 1 = .ok (.istore_n 2, 1) := by decide +kernel
theorem dX7_fixFailedLiterals_2 : decode cX7_fixFailedLiterals 2 = .ok (.iconst 0, 1) := by decide +kernel
theorem dX7_fixFailedLiterals_3 : decode cX7_fixFailedLiterals 3 = .ok (.istore_n 3, 1) := by decide +kernel
theorem dX7_fixFailedLiterals_4 : decode cX7_fixFailedLiterals 4 = .ok (.iload_n 3, 1) := by decide +kernel
theorem dX7_fixFailedLiterals_5 : decode cX7_fixFailedLiterals 5 = .ok (.iconst 2, 1) := by decide +kernel
theorem dX7_fixFailedLiterals_6 : decode cX7_fixFailedLiterals 6 = .ok (.aload_n 1, 1) := by decide +kernel
theorem dX7_fixFailedLiterals_7 : decode cX7_fixFailedLiterals 7 = .ok (.getfield 107, 3) := by decide +kernel
theorem dX7_fixFailedLiterals_10 : decode cX7_fixFailedLiterals 10 = .ok (.imul, 1) := by decide +kernel
theorem dX7_fixFailedLiterals_11 : decode cX7_fixFailedLiterals 11 = .ok (.if_icmp .ge 60, 3) := by decide +kernel
theorem dX7_fixFailedLiterals_14 : decode cX7_fixFailedLiterals 14 = .ok (.aload_n 1, 1) := by decide +kernel
theorem dX7_fixFailedLiterals_15 : decode cX7_fixFailedLiterals 15 = .ok (.getfield 32, 3) := by decide +kernel
theorem dX7_fixFailedLiterals_18 : decode cX7_fixFailedLiterals 18 = .ok (.invokevirtual 38, 3) := by decide +kernel
theorem dX7_fixFailedLiterals_21 : decode cX7_fixFailedLiterals 21 = .ok (.ifCond .ne 50, 3) := by decide +kernel
theorem dX7_fixFailedLiterals_24 : decode cX7_fixFailedLiterals 24 = .ok (.aload_n 1, 1) := by decide +kernel
theorem dX7_fixFailedLiterals_25 : decode cX7_fixFailedLiterals 25 = .ok (.iload_n 3, 1) := by decide +kernel
theorem dX7_fixFailedLiterals_26 : decode cX7_fixFailedLiterals 26 = .ok (.iconst 1, 1) := by decide +kernel
theorem dX7_fixFailedLiterals_27 : decode cX7_fixFailedLiterals 27 = .ok (.ishr, 1) := by decide +kernel
theorem dX7_fixFailedLiterals_28 : decode cX7_fixFailedLiterals 28 = .ok (.invokevirtual 111, 3) := by decide +kernel
theorem dX7_fixFailedLiterals_31 : decode cX7_fixFailedLiterals 31 = .ok (.ifCond .eq 34, 3) := by decide +kernel
theorem dX7_fixFailedLiterals_34 : decode cX7_fixFailedLiterals 34 = .ok (.aload_n 1, 1) := by decide +kernel
theorem dX7_fixFailedLiterals_35 : decode cX7_fixFailedLiterals 35 = .ok (.getfield 32, 3) := by decide +kernel
theorem dX7_fixFailedLiterals_38 : decode cX7_fixFailedLiterals 38 = .ok (.iconst (-1), 1) := by decide +kernel
theorem dX7_fixFailedLiterals_39 : decode cX7_fixFailedLiterals 39 = .ok (.iconst 1, 1) := by decide +kernel
theorem dX7_fixFailedLiterals_40 : decode cX7_fixFailedLiterals 40 = .ok (.iload_n 3, 1) := by decide +kernel
theorem dX7_fixFailedLiterals_41 : decode cX7_fixFailedLiterals 41 = .ok (.ishl, 1) := by decide +kernel
theorem dX7_fixFailedLiterals_42 : decode cX7_fixFailedLiterals 42 = .ok (.invokestatic 213, 3) := by decide +kernel
theorem dX7_fixFailedLiterals_45 : decode cX7_fixFailedLiterals 45 = .ok (.iconst (-1), 1) := by decide +kernel
theorem dX7_fixFailedLiterals_46 : decode cX7_fixFailedLiterals 46 = .ok (.if_icmp .ne 19, 3) := by decide +kernel
theorem dX7_fixFailedLiterals_49 : decode cX7_fixFailedLiterals 49 = .ok (.aload_n 1, 1) := by decide +kernel
theorem dX7_fixFailedLiterals_50 : decode cX7_fixFailedLiterals 50 = .ok (.iload_n 3, 1) := by decide +kernel
theorem dX7_fixFailedLiterals_51 : decode cX7_fixFailedLiterals 51 = .ok (.iconst 1, 1) := by decide +kernel
theorem dX7_fixFailedLiterals_52 : decode cX7_fixFailedLiterals 52 = .ok (.ixor, 1) := by decide +kernel
theorem dX7_fixFailedLiterals_53 : decode cX7_fixFailedLiterals 53 = .ok (.invokevirtual 84, 3) := by decide +kernel
theorem dX7_fixFailedLiterals_56 : decode cX7_fixFailedLiterals 56 = .ok (.aload_n 0, 1) := by decide +kernel
theorem dX7_fixFailedLiterals_57 : decode cX7_fixFailedLiterals 57 = .ok (.aload_n 1, 1) := by decide +kernel
theorem dX7_fixFailedLiterals_58 : decode cX7_fixFailedLiterals 58 = .ok (.invokevirtual 44, 3) := by decide +kernel
theorem dX7_fixFailedLiterals_61 : decode cX7_fixFailedLiterals 61 = .ok (.pop, 1) := by decide +kernel
theorem dX7_fixFailedLiterals_62 : decode cX7_fixFailedLiterals 62 = .ok (.iinc 2 1, 3) := by decide +kernel
theorem dX7_fixFailedLiterals_65 : decode cX7_fixFailedLiterals 65 = .ok (.iinc 3 1, 3) := by decide +kernel
theorem dX7_fixFailedLiterals_68 : decode cX7_fixFailedLiterals 68 = .ok (.goto (-64), 3) := by decide +kernel
theorem dX7_fixFailedLiterals_71 : decode cX7_fixFailedLiterals 71 = .ok (.iload_n 2, 1) := by decide +kernel
theorem dX7_fixFailedLiterals_72 : decode cX7_fixFailedLiterals 72 = .ok (.ireturn, 1) := by decide +kernel
abbrev mtX7_fixFailedLiterals : mj_T := (yX7_fixFailedLiterals.cls, cX7_fixFailedLiterals, 4, (some .int), mj_no, yX7_fixFailedLiterals.name)
abbrev kX7_fixFailedLiterals (k0 : Nat) (k1 : Nat) (g : mj_S) (M : mj_M) (q : Int32 → mj_M → Prop) : Prop := mj_CI yX7_fixFailedLiterals (.code yX7_fixFailedLiterals cX7_fixFailedLiterals 4 (some .int)) 4 [.ref (k0), .ref (k1)] g M q
theorem kiX7_fixFailedLiterals : mj_cV yX7_fixFailedLiterals cX7_fixFailedLiterals 4 (some .int) 1 := ⟨⟨wd_577, wp_17, wd_8, wd_578⟩, ⟨by decide +kernel, by decide +kernel, by decide +kernel⟩, Nat.le_of_ble_eq_true rfl⟩
def LX7_fixFailedLiterals_4 (k0 : Nat) (k1 : Nat) (x2 : Int32) (x3 : Int32) (g : mj_S) (M : mj_M) (q : Int32 → mj_M → Prop) : Prop := ∀ d, 4 ≤ d → ∀ ex : Bool, mj_G mtX7_fixFailedLiterals (mj_rm d 0 0) (mj_Fi (mj_qI g q) mj_x0 0 0) ex 0 0 4 [(0, .ref (k0)), (1, .ref (k1)), (2, .int (x2)), (3, .int (x3))] [] g M
theorem eX7_fixFailedLiterals {k0 : Nat} {k1 : Nat} {g : mj_S} {M : mj_M} {q : Int32 → mj_M → Prop} (h0 : is7 g k0) (h1 : is6 g k1) (h : LX7_fixFailedLiterals_4 k0 k1 (0) (0) g (M) q) : kX7_fixFailedLiterals (k0) (k1) g M q := by
  intro d hd; refine mj_enter (by decide +kernel) (Nat.le_of_ble_eq_true rfl) ?_
  generalize (false : Bool) = ex
  show mj_G mtX7_fixFailedLiterals (mj_rm d 0 0) (mj_Fi (mj_qI g q) mj_x0 0 0) ex 0 0 0 [(0, .ref (k0)), (1, .ref (k1))] [] g M
  refine mg_iconst (v := 0) dX7_fixFailedLiterals_0 (by decide) ?_
  refine mg_istore_n (ls' := [(2, .int (0)), (0, .ref (k0)), (1, .ref (k1))]) dX7_fixFailedLiterals_1 rfl (Nat.le_of_ble_eq_true rfl) rfl ?_
  refine mg_iconst (v := 0) dX7_fixFailedLiterals_2 (by decide) ?_
  refine mg_istore_n (ls' := [(3, .int (0)), (2, .int (0)), (0, .ref (k0)), (1, .ref (k1))]) dX7_fixFailedLiterals_3 rfl (Nat.le_of_ble_eq_true rfl) rfl ?_
  exact mg_pick [2, 3, 1, 0] rfl (h d hd ex)
theorem bX7_fixFailedLiterals_4 {k0 : Nat} {k1 : Nat} {x2 : Int32} {x3 : Int32} {g : mj_S} {M : mj_M} {q : Int32 → mj_M → Prop} (h0 : is7 g k0) (h1 : is6 g k1) (h : (((2 : Int32) * ((M).1 (k1) 0) : Int32) ≤ (x3) → q (x2) (M)) ∧ (¬ ((2 : Int32) * ((M).1 (k1) 0) : Int32) ≤ (x3) → ∃ (q1 : Int32 → mj_M → Prop), kX0_isContradictory (k1 + 1) g (M) q1 ∧ ∀ (v1 : Int32) (M1 : mj_M), q1 v1 M1 → ((¬ (v1 : Int32) = 0 → q (x2) (M1)) ∧ ((v1 : Int32) = 0 → ∃ (q2 : Int32 → mj_M → Prop), kX6_isActive (k1) ((x3) >>> ((1 : Int32) &&& 31)) g (M1) q2 ∧ ∀ (v2 : Int32) (M2 : mj_M), q2 v2 M2 → (((v2 : Int32) = 0 → LX7_fixFailedLiterals_4 k0 k1 (x2) (x3 + 1) g (M2) q) ∧ (¬ (v2 : Int32) = 0 → ∃ (q3 : Int32 → mj_M → Prop), kX9_closure (k1 + 1) ((-1)) ((1 : Int32) <<< ((x3) &&& 31)) g (M2) q3 ∧ ∀ (v3 : Int32) (M3 : mj_M), q3 v3 M3 → ((¬ (v3 : Int32) = (-1 : Int32) → LX7_fixFailedLiterals_4 k0 k1 (x2) (x3 + 1) g (M3) q) ∧ ((v3 : Int32) = (-1 : Int32) → ∃ (q4 : mj_M → Prop), kX6_fix (k1) ((x3) ^^^ (1 : Int32)) g (M3) q4 ∧ ∀ (M4 : mj_M), q4 M4 → (∃ (q5 : Int32 → mj_M → Prop), kX7_fixUnits (k0) (k1) g (M4) q5 ∧ ∀ (v5 : Int32) (M5 : mj_M), q5 v5 M5 → (LX7_fixFailedLiterals_4 k0 k1 (x2 + 1) (x3 + 1) g (M5) q)))))))))) : LX7_fixFailedLiterals_4 k0 k1 x2 x3 g M q := by
  intro d hd ex
  refine mg_iload_n dX7_fixFailedLiterals_4 rfl 3 rfl ?_
  refine mg_iconst (v := 2) dX7_fixFailedLiterals_5 (by decide) ?_
  refine mg_aload_n dX7_fixFailedLiterals_6 rfl 1 rfl ?_
  refine mg_getI (j := 0) dX7_fixFailedLiterals_7 kc_6 (Nat.le_of_ble_eq_true rfl) wd_66 rfl rfl h1.1.1 h1.1.2 rfl ?_
  refine mg_imul dX7_fixFailedLiterals_10 ?_
  refine mg_icmp_ge (tgt := 71) dX7_fixFailedLiterals_11 (by decide) (fun hc => ?_) (fun hc => ?_)
  · replace h := h.1 hc
    refine mg_iload_n dX7_fixFailedLiterals_71 rfl 2 rfl ?_
    exact me_i dX7_fixFailedLiterals_72 rfl h
  · replace h := h.2 hc
    refine mg_aload_n dX7_fixFailedLiterals_14 rfl 1 rfl ?_
    refine mg_getR (j := 3) dX7_fixFailedLiterals_15 kc_6 (Nat.le_of_ble_eq_true rfl) wd_74 rfl rfl h1.1.1 h1.1.2 h1.2.1.1 ?_
    obtain ⟨q1, hC, hk⟩ := h
    refine mc_Vi [] [] dX7_fixFailedLiterals_18 wd_397 kiX0_isContradictory (Nat.le_of_ble_eq_true rfl) h1.2.1.2.1.1 h1.2.1.2.1.2 rfl (Nat.le_trans (Nat.le_of_ble_eq_true rfl) hd) hC (fun v1 M1 hq => ?_)
    replace h := hk v1 M1 hq
    refine mg_if_ne (tgt := 71) dX7_fixFailedLiterals_21 (by decide) (fun hc => ?_) (fun hc => ?_)
    · replace h := h.1 hc
      refine mg_iload_n dX7_fixFailedLiterals_71 rfl 2 rfl ?_
      exact me_i dX7_fixFailedLiterals_72 rfl h
    · replace h := h.2 hc
      refine mg_aload_n dX7_fixFailedLiterals_24 rfl 1 rfl ?_
      refine mg_iload_n dX7_fixFailedLiterals_25 rfl 3 rfl ?_
      refine mg_iconst (v := 1) dX7_fixFailedLiterals_26 (by decide) ?_
      refine mg_ishr dX7_fixFailedLiterals_27 ?_
      obtain ⟨q2, hC, hk⟩ := h
      refine mc_Vi [.int ((x3) >>> ((1 : Int32) &&& 31))] [] dX7_fixFailedLiterals_28 wd_442 kiX6_isActive (Nat.le_of_ble_eq_true rfl) h1.1.1 h1.1.2 rfl (Nat.le_trans (Nat.le_of_ble_eq_true rfl) hd) hC (fun v2 M2 hq => ?_)
      replace h := hk v2 M2 hq
      refine mg_if_eq (tgt := 65) dX7_fixFailedLiterals_31 (by decide) (fun hc => ?_) (fun hc => ?_)
      · replace h := h.1 hc
        refine mg_iinc (v := x3 + 1) (ls' := [(3, .int (x3 + 1)), (0, .ref (k0)), (1, .ref (k1)), (2, .int (x2))]) dX7_fixFailedLiterals_65 3 rfl rfl (Nat.le_of_ble_eq_true rfl) rfl ?_
        refine mg_goto (tgt := 4) dX7_fixFailedLiterals_68 (by decide) ?_
        exact mg_pick [1, 2, 3, 0] rfl (h d hd ex)
      · replace h := h.2 hc
        refine mg_aload_n dX7_fixFailedLiterals_34 rfl 1 rfl ?_
        refine mg_getR (j := 3) dX7_fixFailedLiterals_35 kc_6 (Nat.le_of_ble_eq_true rfl) wd_74 rfl rfl h1.1.1 h1.1.2 h1.2.1.1 ?_
        refine mg_iconst (v := (-1)) dX7_fixFailedLiterals_38 (by decide) ?_
        refine mg_iconst (v := 1) dX7_fixFailedLiterals_39 (by decide) ?_
        refine mg_iload_n dX7_fixFailedLiterals_40 rfl 3 rfl ?_
        refine mg_ishl dX7_fixFailedLiterals_41 ?_
        obtain ⟨q3, hC, hk⟩ := h
        refine mc_Ni [.ref (k1 + 1), .int ((-1)), .int ((1 : Int32) <<< ((x3) &&& 31))] [] 15 dX7_fixFailedLiterals_42 rfl kiX9_closure (Nat.le_of_ble_eq_true rfl) (Nat.le_trans (Nat.le_of_ble_eq_true rfl) hd) hC (fun v3 M3 hq => ?_)
        replace h := hk v3 M3 hq
        refine mg_iconst (v := (-1)) dX7_fixFailedLiterals_45 (by decide) ?_
        refine mg_icmp_ne (tgt := 65) dX7_fixFailedLiterals_46 (by decide) (fun hc => ?_) (fun hc => ?_)
        · replace h := h.1 hc
          refine mg_iinc (v := x3 + 1) (ls' := [(3, .int (x3 + 1)), (0, .ref (k0)), (1, .ref (k1)), (2, .int (x2))]) dX7_fixFailedLiterals_65 3 rfl rfl (Nat.le_of_ble_eq_true rfl) rfl ?_
          refine mg_goto (tgt := 4) dX7_fixFailedLiterals_68 (by decide) ?_
          exact mg_pick [1, 2, 3, 0] rfl (h d hd ex)
        · replace h := h.2 hc
          refine mg_aload_n dX7_fixFailedLiterals_49 rfl 1 rfl ?_
          refine mg_iload_n dX7_fixFailedLiterals_50 rfl 3 rfl ?_
          refine mg_iconst (v := 1) dX7_fixFailedLiterals_51 (by decide) ?_
          refine mg_ixor dX7_fixFailedLiterals_52 ?_
          obtain ⟨q4, hC, hk⟩ := h
          refine mc_Vv [.int ((x3) ^^^ (1 : Int32))] [] dX7_fixFailedLiterals_53 wd_414 kiX6_fix (Nat.le_of_ble_eq_true rfl) h1.1.1 h1.1.2 rfl (Nat.le_trans (Nat.le_of_ble_eq_true rfl) hd) hC (fun M4 hq => ?_)
          replace h := hk M4 hq
          refine mg_aload_n dX7_fixFailedLiterals_56 rfl 0 rfl ?_
          refine mg_aload_n dX7_fixFailedLiterals_57 rfl 1 rfl ?_
          obtain ⟨q5, hC, hk⟩ := h
          refine mc_Vi [.ref (k1)] [] dX7_fixFailedLiterals_58 wd_398 kiX7_fixUnits (Nat.le_of_ble_eq_true rfl) h0.1.1 h0.1.2 rfl (Nat.le_trans (Nat.le_of_ble_eq_true rfl) hd) hC (fun v5 M5 hq => ?_)
          replace h := hk v5 M5 hq
          refine mg_pop dX7_fixFailedLiterals_61 rfl ?_
          refine mg_iinc (v := x2 + 1) (ls' := [(2, .int (x2 + 1)), (0, .ref (k0)), (1, .ref (k1)), (3, .int (x3))]) dX7_fixFailedLiterals_62 2 rfl rfl (Nat.le_of_ble_eq_true rfl) rfl ?_
          refine mg_iinc (v := x3 + 1) (ls' := [(3, .int (x3 + 1)), (2, .int (x2 + 1)), (0, .ref (k0)), (1, .ref (k1))]) dX7_fixFailedLiterals_65 3 rfl rfl (Nat.le_of_ble_eq_true rfl) rfl ?_
          refine mg_goto (tgt := 4) dX7_fixFailedLiterals_68 (by decide) ?_
          exact mg_pick [2, 3, 1, 0] rfl (h d hd ex)
theorem dX7_hasEquivalentComplements_0 : decode cX7_hasEquivalentComplements 0 = .ok (.iconst 0, 1) := by decide +kernel
theorem dX7_hasEquivalentComplements_1 : decode cX7_hasEquivalentComplements 1 = .ok (.istore_n 2, 1) := by decide +kernel
theorem dX7_hasEquivalentComplements_2 : decode cX7_hasEquivalentComplements 2 = .ok (.iload_n 2, 1) := by decide +kernel
theorem dX7_hasEquivalentComplements_3 : decode cX7_hasEquivalentComplements 3 = .ok (.aload_n 1, 1) := by decide +kernel
theorem dX7_hasEquivalentComplements_4 : decode cX7_hasEquivalentComplements 4 = .ok (.getfield 107, 3) := by decide +kernel
theorem dX7_hasEquivalentComplements_7 : decode cX7_hasEquivalentComplements 7 = .ok (.if_icmp .ge 47, 3) := by decide +kernel
theorem dX7_hasEquivalentComplements_10 : decode cX7_hasEquivalentComplements 10 = .ok (.aload_n 0, 1) := by decide +kernel
theorem dX7_hasEquivalentComplements_11 : decode cX7_hasEquivalentComplements 11 = .ok (.getfield 28, 3) := by decide +kernel
theorem dX7_hasEquivalentComplements_14 : decode cX7_hasEquivalentComplements 14 = .ok (.iconst 2, 1) := by decide +kernel
theorem dX7_hasEquivalentComplements_15 : decode cX7_hasEquivalentComplements 15 = .ok (.iload_n 2, 1) := by decide +kernel
theorem dX7_hasEquivalentComplements_16 : decode cX7_hasEquivalentComplements 16 = .ok (.imul, 1) := by decide +kernel
theorem dX7_hasEquivalentComplements_17 : decode cX7_hasEquivalentComplements 17 = .ok (.iconst 2, 1) := by decide +kernel
theorem dX7_hasEquivalentComplements_18 : decode cX7_hasEquivalentComplements 18 = .ok (.iload_n 2, 1) := by decide +kernel
theorem dX7_hasEquivalentComplements_19 : decode cX7_hasEquivalentComplements 19 = .ok (.imul, 1) := by decide +kernel
theorem dX7_hasEquivalentComplements_20 : decode cX7_hasEquivalentComplements 20 = .ok (.iconst 1, 1) := by decide +kernel
theorem dX7_hasEquivalentComplements_21 : decode cX7_hasEquivalentComplements 21 = .ok (.iadd, 1) := by decide +kernel
theorem dX7_hasEquivalentComplements_22 : decode cX7_hasEquivalentComplements 22 = .ok (.invokevirtual 232, 3) := by decide +kernel
theorem dX7_hasEquivalentComplements_25 : decode cX7_hasEquivalentComplements 25 = .ok (.ifCond .eq 23, 3) := by decide +kernel
theorem dX7_hasEquivalentComplements_28 : decode cX7_hasEquivalentComplements 28 = .ok (.aload_n 0, 1) := by decide +kernel
theorem dX7_hasEquivalentComplements_29 : decode cX7_hasEquivalentComplements 29 = .ok (.getfield 28, 3) := by decide +kernel
theorem dX7_hasEquivalentComplements_32 : decode cX7_hasEquivalentComplements 32 = .ok (.iconst 2, 1) := by decide +kernel
theorem dX7_hasEquivalentComplements_33 : decode cX7_hasEquivalentComplements 33 = .ok (.iload_n 2, 1) := by decide +kernel
theorem dX7_hasEquivalentComplements_34 : decode cX7_hasEquivalentComplements 34 = .ok (.imul, 1) := by decide +kernel
theorem dX7_hasEquivalentComplements_35 : decode cX7_hasEquivalentComplements 35 = .ok (.iconst 1, 1) := by decide +kernel
theorem dX7_hasEquivalentComplements_36 : decode cX7_hasEquivalentComplements 36 = .ok (.iadd, 1) := by decide +kernel
theorem dX7_hasEquivalentComplements_37 : decode cX7_hasEquivalentComplements 37 = .ok (.iconst 2, 1) := by decide +kernel
theorem dX7_hasEquivalentComplements_38 : decode cX7_hasEquivalentComplements 38 = .ok (.iload_n 2, 1) := by decide +kernel
theorem dX7_hasEquivalentComplements_39 : decode cX7_hasEquivalentComplements 39 = .ok (.imul, 1) := by decide +kernel
theorem dX7_hasEquivalentComplements_40 : decode cX7_hasEquivalentComplements 40 = .ok (.invokevirtual 232, 3) := by decide +kernel
theorem dX7_hasEquivalentComplements_43 : decode cX7_hasEquivalentComplements 43 = .ok (.ifCond .eq 5, 3) := by decide +kernel
theorem dX7_hasEquivalentComplements_46 : decode cX7_hasEquivalentComplements 46 = .ok (.iconst 1, 1) := by decide +kernel
theorem dX7_hasEquivalentComplements_47 : decode cX7_hasEquivalentComplements 47 = .ok (.ireturn, 1) := by decide +kernel
theorem dX7_hasEquivalentComplements_48 : decode cX7_hasEquivalentComplements 48 = .ok (.iinc 2 1, 3) := by decide +kernel
theorem dX7_hasEquivalentComplements_51 : decode cX7_hasEquivalentComplements 51 = .ok (.goto (-49), 3) := by decide +kernel
theorem dX7_hasEquivalentComplements_54 : decode cX7_hasEquivalentComplements 54 = .ok (.iconst 0, 1) := by decide +kernel
theorem dX7_hasEquivalentComplements_55 : decode cX7_hasEquivalentComplements 55 = .ok (.ireturn, 1) := by decide +kernel
abbrev mtX7_hasEquivalentComplements : mj_T := (yX7_hasEquivalentComplements.cls, cX7_hasEquivalentComplements, 3, (some .boolean), mj_no, yX7_hasEquivalentComplements.name)
abbrev kX7_hasEquivalentComplements (k0 : Nat) (k1 : Nat) (g : mj_S) (M : mj_M) (q : Int32 → mj_M → Prop) : Prop := mj_CI yX7_hasEquivalentComplements (.code yX7_hasEquivalentComplements cX7_hasEquivalentComplements 3 (some .boolean)) 1 [.ref (k0), .ref (k1)] g M q
theorem kiX7_hasEquivalentComplements : mj_cV yX7_hasEquivalentComplements cX7_hasEquivalentComplements 3 (some .boolean) 1 := ⟨⟨wd_601, wp_20, wd_8, wd_602⟩, ⟨by decide +kernel, by decide +kernel, by decide +kernel⟩, Nat.le_of_ble_eq_true rfl⟩
def LX7_hasEquivalentComplements_2 (k0 : Nat) (k1 : Nat) (x2 : Int32) (g : mj_S) (M : mj_M) (q : Int32 → mj_M → Prop) : Prop := ∀ d, 1 ≤ d → ∀ ex : Bool, mj_G mtX7_hasEquivalentComplements (mj_rm d 0 0) (mj_Fi (mj_qI g q) mj_x0 0 0) ex 0 0 2 [(0, .ref (k0)), (1, .ref (k1)), (2, .int (x2))] [] g M
theorem eX7_hasEquivalentComplements {k0 : Nat} {k1 : Nat} {g : mj_S} {M : mj_M} {q : Int32 → mj_M → Prop} (h0 : is7 g k0) (h1 : is6 g k1) (h : LX7_hasEquivalentComplements_2 k0 k1 (0) g (M) q) : kX7_hasEquivalentComplements (k0) (k1) g M q := by
  intro d hd; refine mj_enter (by decide +kernel) (Nat.le_of_ble_eq_true rfl) ?_
  generalize (false : Bool) = ex
  show mj_G mtX7_hasEquivalentComplements (mj_rm d 0 0) (mj_Fi (mj_qI g q) mj_x0 0 0) ex 0 0 0 [(0, .ref (k0)), (1, .ref (k1))] [] g M
  refine mg_iconst (v := 0) dX7_hasEquivalentComplements_0 (by decide) ?_
  refine mg_istore_n (ls' := [(2, .int (0)), (0, .ref (k0)), (1, .ref (k1))]) dX7_hasEquivalentComplements_1 rfl (Nat.le_of_ble_eq_true rfl) rfl ?_
  exact mg_pick [1, 2, 0] rfl (h d hd ex)
theorem bX7_hasEquivalentComplements_2 {k0 : Nat} {k1 : Nat} {x2 : Int32} {g : mj_S} {M : mj_M} {q : Int32 → mj_M → Prop} (h0 : is7 g k0) (h1 : is6 g k1) (h : (((M).1 (k1) 0 : Int32) ≤ (x2) → q 0 (M)) ∧ (¬ ((M).1 (k1) 0 : Int32) ≤ (x2) → ∃ (q1 : Int32 → mj_M → Prop), kX4_leads (k0 + 8) ((2 : Int32) * (x2)) (((2 : Int32) * (x2)) + (1 : Int32)) g (M) q1 ∧ ∀ (v1 : Int32) (M1 : mj_M), q1 v1 M1 → (((v1 : Int32) = 0 → LX7_hasEquivalentComplements_2 k0 k1 (x2 + 1) g (M1) q) ∧ (¬ (v1 : Int32) = 0 → ∃ (q2 : Int32 → mj_M → Prop), kX4_leads (k0 + 8) (((2 : Int32) * (x2)) + (1 : Int32)) ((2 : Int32) * (x2)) g (M1) q2 ∧ ∀ (v2 : Int32) (M2 : mj_M), q2 v2 M2 → (((v2 : Int32) = 0 → LX7_hasEquivalentComplements_2 k0 k1 (x2 + 1) g (M2) q) ∧ (¬ (v2 : Int32) = 0 → q 1 (M2))))))) : LX7_hasEquivalentComplements_2 k0 k1 x2 g M q := by
  intro d hd ex
  refine mg_iload_n dX7_hasEquivalentComplements_2 rfl 2 rfl ?_
  refine mg_aload_n dX7_hasEquivalentComplements_3 rfl 1 rfl ?_
  refine mg_getI (j := 0) dX7_hasEquivalentComplements_4 kc_6 (Nat.le_of_ble_eq_true rfl) wd_66 rfl rfl h1.1.1 h1.1.2 rfl ?_
  refine mg_icmp_ge (tgt := 54) dX7_hasEquivalentComplements_7 (by decide) (fun hc => ?_) (fun hc => ?_)
  · replace h := h.1 hc
    refine mg_iconst (v := 0) dX7_hasEquivalentComplements_54 (by decide) ?_
    exact me_z dX7_hasEquivalentComplements_55 rfl (Or.inl rfl) h
  · replace h := h.2 hc
    refine mg_aload_n dX7_hasEquivalentComplements_10 rfl 0 rfl ?_
    refine mg_getR (j := 2) dX7_hasEquivalentComplements_11 kc_7 (Nat.le_of_ble_eq_true rfl) wd_222 rfl rfl h0.1.1 h0.1.2 h0.2.2.2.1 ?_
    refine mg_iconst (v := 2) dX7_hasEquivalentComplements_14 (by decide) ?_
    refine mg_iload_n dX7_hasEquivalentComplements_15 rfl 2 rfl ?_
    refine mg_imul dX7_hasEquivalentComplements_16 ?_
    refine mg_iconst (v := 2) dX7_hasEquivalentComplements_17 (by decide) ?_
    refine mg_iload_n dX7_hasEquivalentComplements_18 rfl 2 rfl ?_
    refine mg_imul dX7_hasEquivalentComplements_19 ?_
    refine mg_iconst (v := 1) dX7_hasEquivalentComplements_20 (by decide) ?_
    refine mg_iadd dX7_hasEquivalentComplements_21 ?_
    obtain ⟨q1, hC, hk⟩ := h
    refine mc_Vi [.int ((2 : Int32) * (x2)), .int (((2 : Int32) * (x2)) + (1 : Int32))] [] dX7_hasEquivalentComplements_22 wd_603 kiX4_leads (Nat.le_of_ble_eq_true rfl) h0.2.2.2.2.1.1 h0.2.2.2.2.1.2 rfl (Nat.le_trans (Nat.le_of_ble_eq_true rfl) hd) hC (fun v1 M1 hq => ?_)
    replace h := hk v1 M1 hq
    refine mg_if_eq (tgt := 48) dX7_hasEquivalentComplements_25 (by decide) (fun hc => ?_) (fun hc => ?_)
    · replace h := h.1 hc
      refine mg_iinc (v := x2 + 1) (ls' := [(2, .int (x2 + 1)), (0, .ref (k0)), (1, .ref (k1))]) dX7_hasEquivalentComplements_48 2 rfl rfl (Nat.le_of_ble_eq_true rfl) rfl ?_
      refine mg_goto (tgt := 2) dX7_hasEquivalentComplements_51 (by decide) ?_
      exact mg_pick [1, 2, 0] rfl (h d hd ex)
    · replace h := h.2 hc
      refine mg_aload_n dX7_hasEquivalentComplements_28 rfl 0 rfl ?_
      refine mg_getR (j := 2) dX7_hasEquivalentComplements_29 kc_7 (Nat.le_of_ble_eq_true rfl) wd_222 rfl rfl h0.1.1 h0.1.2 h0.2.2.2.1 ?_
      refine mg_iconst (v := 2) dX7_hasEquivalentComplements_32 (by decide) ?_
      refine mg_iload_n dX7_hasEquivalentComplements_33 rfl 2 rfl ?_
      refine mg_imul dX7_hasEquivalentComplements_34 ?_
      refine mg_iconst (v := 1) dX7_hasEquivalentComplements_35 (by decide) ?_
      refine mg_iadd dX7_hasEquivalentComplements_36 ?_
      refine mg_iconst (v := 2) dX7_hasEquivalentComplements_37 (by decide) ?_
      refine mg_iload_n dX7_hasEquivalentComplements_38 rfl 2 rfl ?_
      refine mg_imul dX7_hasEquivalentComplements_39 ?_
      obtain ⟨q2, hC, hk⟩ := h
      refine mc_Vi [.int (((2 : Int32) * (x2)) + (1 : Int32)), .int ((2 : Int32) * (x2))] [] dX7_hasEquivalentComplements_40 wd_603 kiX4_leads (Nat.le_of_ble_eq_true rfl) h0.2.2.2.2.1.1 h0.2.2.2.2.1.2 rfl (Nat.le_trans (Nat.le_of_ble_eq_true rfl) hd) hC (fun v2 M2 hq => ?_)
      replace h := hk v2 M2 hq
      refine mg_if_eq (tgt := 48) dX7_hasEquivalentComplements_43 (by decide) (fun hc => ?_) (fun hc => ?_)
      · replace h := h.1 hc
        refine mg_iinc (v := x2 + 1) (ls' := [(2, .int (x2 + 1)), (0, .ref (k0)), (1, .ref (k1))]) dX7_hasEquivalentComplements_48 2 rfl rfl (Nat.le_of_ble_eq_true rfl) rfl ?_
        refine mg_goto (tgt := 2) dX7_hasEquivalentComplements_51 (by decide) ?_
        exact mg_pick [1, 2, 0] rfl (h d hd ex)
      · replace h := h.2 hc
        refine mg_iconst (v := 1) dX7_hasEquivalentComplements_46 (by decide) ?_
        exact me_z dX7_hasEquivalentComplements_47 rfl (Or.inr rfl) h
theorem dX7_replaceLiterals_0 : decode cX7_replaceLiterals 0 = .ok (.aload_n 1, 1) := by decide +kernel
theorem dX7_replaceLiterals_1 : decode cX7_replaceLiterals 1 = .ok (.invokevirtual 88, 3) := by decide +kernel
theorem dX7_replaceLiterals_4 : decode cX7_replaceLiterals 4 = .ok (.iconst 1, 1) := by decide +kernel
theorem dX7_replaceLiterals_5 : decode cX7_replaceLiterals 5 = .ok (.isub, 1) := by decide +kernel
theorem dX7_replaceLiterals_6 : decode cX7_replaceLiterals 6 = .ok (.istore_n 2, 1) := by decide +kernel
theorem dX7_replaceLiterals_7 : decode cX7_replaceLiterals 7 = .ok (.iload_n 2, 1) := by decide +kernel
theorem dX7_replaceLiterals_8 : decode cX7_replaceLiterals 8 = .ok (.ifCond .lt 43, 3) := by decide +kernel
theorem dX7_replaceLiterals_11 : decode cX7_replaceLiterals 11 = .ok (.aload_n 0, 1) := by decide +kernel
theorem dX7_replaceLiterals_12 : decode cX7_replaceLiterals 12 = .ok (.getfield 28, 3) := by decide +kernel
theorem dX7_replaceLiterals_15 : decode cX7_replaceLiterals 15 = .ok (.aload_n 1, 1) := by decide +kernel
theorem dX7_replaceLiterals_16 : decode cX7_replaceLiterals 16 = .ok (.iload_n 2, 1) := by decide +kernel
theorem dX7_replaceLiterals_17 : decode cX7_replaceLiterals 17 = .ok (.invokevirtual 92, 3) := by decide +kernel
theorem dX7_replaceLiterals_20 : decode cX7_replaceLiterals 20 = .ok (.invokevirtual 235, 3) := by decide +kernel
theorem dX7_replaceLiterals_23 : decode cX7_replaceLiterals 23 = .ok (.istore_n 3, 1) := by decide +kernel
theorem dX7_replaceLiterals_24 : decode cX7_replaceLiterals 24 = .ok (.iload_n 3, 1) := by decide +kernel
theorem dX7_replaceLiterals_25 : decode cX7_replaceLiterals 25 = .ok (.invokestatic 238, 3) := by decide +kernel
theorem dX7_replaceLiterals_28 : decode cX7_replaceLiterals 28 = .ok (.ifCond .eq 11, 3) := by decide +kernel
theorem dX7_replaceLiterals_31 : decode cX7_replaceLiterals 31 = .ok (.aload_n 1, 1) := by decide +kernel
theorem dX7_replaceLiterals_32 : decode cX7_replaceLiterals 32 = .ok (.iload_n 2, 1) := by decide +kernel
theorem dX7_replaceLiterals_33 : decode cX7_replaceLiterals 33 = .ok (.invokevirtual 123, 3) := by decide +kernel
theorem dX7_replaceLiterals_36 : decode cX7_replaceLiterals 36 = .ok (.goto 9, 3) := by decide +kernel
theorem dX7_replaceLiterals_39 : decode cX7_replaceLiterals 39 = .ok (.aload_n 1, 1) := by decide +kernel
theorem dX7_replaceLiterals_40 : decode cX7_replaceLiterals 40 = .ok (.iload_n 2, 1) := by decide +kernel
theorem dX7_replaceLiterals_41 : decode cX7_replaceLiterals 41 = .ok (.iload_n 3, 1) := by decide +kernel
theorem dX7_replaceLiterals_42 : decode cX7_replaceLiterals 42 = .ok (.invokevirtual 134, 3) := by decide +kernel
theorem dX7_replaceLiterals_45 : decode cX7_replaceLiterals 45 = .ok (.iinc 2 (-1), 3) := by decide +kernel
theorem dX7_replaceLiterals_48 : decode cX7_replaceLiterals 48 = .ok (.goto (-41), 3) := by decide +kernel
theorem dX7_replaceLiterals_51 : decode cX7_replaceLiterals 51 = .ok (.return_, 1) := by decide +kernel
abbrev mtX7_replaceLiterals : mj_T := (yX7_replaceLiterals.cls, cX7_replaceLiterals, 4, none, mj_no, yX7_replaceLiterals.name)
abbrev kX7_replaceLiterals (k0 : Nat) (k1 : Nat) (g : mj_S) (M : mj_M) (q : mj_M → Prop) : Prop := mj_CV yX7_replaceLiterals (.code yX7_replaceLiterals cX7_replaceLiterals 4 none) 3 [.ref (k0), .ref (k1)] g M q
theorem kiX7_replaceLiterals : mj_cV yX7_replaceLiterals cX7_replaceLiterals 4 none 1 := ⟨⟨wd_617, wp_21, wd_8, wd_618⟩, ⟨by decide +kernel, by decide +kernel, by decide +kernel⟩, Nat.le_of_ble_eq_true rfl⟩
def LX7_replaceLiterals_7 (k0 : Nat) (k1 n1 : Nat) (x2 : Int32) (g : mj_S) (M : mj_M) (q : mj_M → Prop) : Prop := ∀ d, 3 ≤ d → ∀ ex : Bool, mj_G mtX7_replaceLiterals (mj_rm d 0 0) (mj_Fi (mj_qV g q) mj_x0 0 0) ex 0 0 7 [(0, .ref (k0)), (1, .ref (k1)), (2, .int (x2))] [] g M
theorem eX7_replaceLiterals {k0 : Nat} {k1 n1 : Nat} {g : mj_S} {M : mj_M} {q : mj_M → Prop} (h0 : is7 g k0) (h1 : is0 g k1 n1) (h : ∃ (q1 : Int32 → mj_M → Prop), kX0_size (k1) g (M) q1 ∧ ∀ (v1 : Int32) (M1 : mj_M), q1 v1 M1 → (LX7_replaceLiterals_7 k0 k1 n1 ((v1) - (1 : Int32)) g (M1) q)) : kX7_replaceLiterals (k0) (k1) g M q := by
  intro d hd; refine mj_enter (by decide +kernel) (Nat.le_of_ble_eq_true rfl) ?_
  generalize (false : Bool) = ex
  show mj_G mtX7_replaceLiterals (mj_rm d 0 0) (mj_Fi (mj_qV g q) mj_x0 0 0) ex 0 0 0 [(0, .ref (k0)), (1, .ref (k1))] [] g M
  refine mg_aload_n dX7_replaceLiterals_0 rfl 1 rfl ?_
  obtain ⟨q1, hC, hk⟩ := h
  refine mc_Vi [] [] dX7_replaceLiterals_1 wd_407 kiX0_size (Nat.le_of_ble_eq_true rfl) h1.1.1 h1.1.2 rfl (Nat.le_trans (Nat.le_of_ble_eq_true rfl) hd) hC (fun v1 M1 hq => ?_)
  replace h := hk v1 M1 hq
  refine mg_iconst (v := 1) dX7_replaceLiterals_4 (by decide) ?_
  refine mg_isub dX7_replaceLiterals_5 ?_
  refine mg_istore_n (ls' := [(2, .int ((v1) - (1 : Int32))), (0, .ref (k0)), (1, .ref (k1))]) dX7_replaceLiterals_6 rfl (Nat.le_of_ble_eq_true rfl) rfl ?_
  exact mg_pick [1, 2, 0] rfl (h d hd ex)
theorem bX7_replaceLiterals_7 {k0 : Nat} {k1 n1 : Nat} {x2 : Int32} {g : mj_S} {M : mj_M} {q : mj_M → Prop} (h0 : is7 g k0) (h1 : is0 g k1 n1) (h : ((x2 : Int32) < 0 → q (M)) ∧ (¬ (x2 : Int32) < 0 → ∃ (q1 : Int32 → mj_M → Prop), kX0_at (k1) (x2) g (M) q1 ∧ ∀ (v1 : Int32) (M1 : mj_M), q1 v1 M1 → (∃ (q2 : Int32 → mj_M → Prop), kX4_replaced (k0 + 8) (v1) g (M1) q2 ∧ ∀ (v2 : Int32) (M2 : mj_M), q2 v2 M2 → (∃ (q3 : Int32 → mj_M → Prop), kX9_hasComplementary (v2) g (M2) q3 ∧ ∀ (v3 : Int32) (M3 : mj_M), q3 v3 M3 → (((v3 : Int32) = 0 → ∃ (q4 : mj_M → Prop), kX0_put (k1) (x2) (v2) g (M3) q4 ∧ ∀ (M4 : mj_M), q4 M4 → (LX7_replaceLiterals_7 k0 k1 n1 (x2 + (-1)) g (M4) q)) ∧ (¬ (v3 : Int32) = 0 → ∃ (q5 : mj_M → Prop), kX0_removeAt (k1) (x2) g (M3) q5 ∧ ∀ (M5 : mj_M), q5 M5 → (LX7_replaceLiterals_7 k0 k1 n1 (x2 + (-1)) g (M5) q))))))) : LX7_replaceLiterals_7 k0 k1 n1 x2 g M q := by
  intro d hd ex
  refine mg_iload_n dX7_replaceLiterals_7 rfl 2 rfl ?_
  refine mg_if_lt (tgt := 51) dX7_replaceLiterals_8 (by decide) (fun hc => ?_) (fun hc => ?_)
  · replace h := h.1 hc
    exact me_v dX7_replaceLiterals_51 rfl h
  · replace h := h.2 hc
    refine mg_aload_n dX7_replaceLiterals_11 rfl 0 rfl ?_
    refine mg_getR (j := 2) dX7_replaceLiterals_12 kc_7 (Nat.le_of_ble_eq_true rfl) wd_222 rfl rfl h0.1.1 h0.1.2 h0.2.2.2.1 ?_
    refine mg_aload_n dX7_replaceLiterals_15 rfl 1 rfl ?_
    refine mg_iload_n dX7_replaceLiterals_16 rfl 2 rfl ?_
    obtain ⟨q1, hC, hk⟩ := h
    refine mc_Vi [.int (x2)] [.ref (k0 + 8)] dX7_replaceLiterals_17 wd_408 kiX0_at (Nat.le_of_ble_eq_true rfl) h1.1.1 h1.1.2 rfl (Nat.le_trans (Nat.le_of_ble_eq_true rfl) hd) hC (fun v1 M1 hq => ?_)
    replace h := hk v1 M1 hq
    obtain ⟨q2, hC, hk⟩ := h
    refine mc_Vi [.int (v1)] [] dX7_replaceLiterals_20 wd_619 kiX4_replaced (Nat.le_of_ble_eq_true rfl) h0.2.2.2.2.1.1 h0.2.2.2.2.1.2 rfl (Nat.le_trans (Nat.le_of_ble_eq_true rfl) hd) hC (fun v2 M2 hq => ?_)
    replace h := hk v2 M2 hq
    refine mg_istore_n (ls' := [(3, .int (v2)), (0, .ref (k0)), (1, .ref (k1)), (2, .int (x2))]) dX7_replaceLiterals_23 rfl (Nat.le_of_ble_eq_true rfl) rfl ?_
    refine mg_iload_n dX7_replaceLiterals_24 rfl 0 rfl ?_
    obtain ⟨q3, hC, hk⟩ := h
    refine mc_Ni [.int (v2)] [] 18 dX7_replaceLiterals_25 rfl kiX9_hasComplementary (Nat.le_of_ble_eq_true rfl) (Nat.le_trans (Nat.le_of_ble_eq_true rfl) hd) hC (fun v3 M3 hq => ?_)
    replace h := hk v3 M3 hq
    refine mg_if_eq (tgt := 39) dX7_replaceLiterals_28 (by decide) (fun hc => ?_) (fun hc => ?_)
    · replace h := h.1 hc
      refine mg_aload_n dX7_replaceLiterals_39 rfl 2 rfl ?_
      refine mg_iload_n dX7_replaceLiterals_40 rfl 3 rfl ?_
      refine mg_iload_n dX7_replaceLiterals_41 rfl 0 rfl ?_
      obtain ⟨q4, hC, hk⟩ := h
      refine mc_Vv [.int (x2), .int (v2)] [] dX7_replaceLiterals_42 wd_477 kiX0_put (Nat.le_of_ble_eq_true rfl) h1.1.1 h1.1.2 rfl (Nat.le_trans (Nat.le_of_ble_eq_true rfl) hd) hC (fun M4 hq => ?_)
      replace h := hk M4 hq
      refine mg_iinc (v := x2 + (-1)) (ls' := [(2, .int (x2 + (-1))), (3, .int (v2)), (0, .ref (k0)), (1, .ref (k1))]) dX7_replaceLiterals_45 3 rfl rfl (Nat.le_of_ble_eq_true rfl) rfl ?_
      refine mg_goto (tgt := 7) dX7_replaceLiterals_48 (by decide) ?_
      exact mg_pick [2, 3, 0] rfl (h d hd ex)
    · replace h := h.2 hc
      refine mg_aload_n dX7_replaceLiterals_31 rfl 2 rfl ?_
      refine mg_iload_n dX7_replaceLiterals_32 rfl 3 rfl ?_
      obtain ⟨q5, hC, hk⟩ := h
      refine mc_Vv [.int (x2)] [] dX7_replaceLiterals_33 wd_454 kiX0_removeAt (Nat.le_of_ble_eq_true rfl) h1.1.1 h1.1.2 rfl (Nat.le_trans (Nat.le_of_ble_eq_true rfl) hd) hC (fun M5 hq => ?_)
      replace h := hk M5 hq
      refine mg_goto (tgt := 45) dX7_replaceLiterals_36 (by decide) ?_
      refine mg_iinc (v := x2 + (-1)) (ls' := [(2, .int (x2 + (-1))), (3, .int (v2)), (0, .ref (k0)), (1, .ref (k1))]) dX7_replaceLiterals_45 3 rfl rfl (Nat.le_of_ble_eq_true rfl) rfl ?_
      refine mg_goto (tgt := 7) dX7_replaceLiterals_48 (by decide) ?_
      exact mg_pick [2, 3, 0] rfl (h d hd ex)
theorem dX7_substituteAll_0 : decode cX7_substituteAll 0 = .ok (.aload_n 0, 1) := by decide +kernel
theorem dX7_substituteAll_1 : decode cX7_substituteAll 1 = .ok (.getfield 28, 3) := by decide +kernel
theorem dX7_substituteAll_4 : decode cX7_substituteAll 4 = .ok (.aload_n 1, 1) := by decide +kernel
theorem dX7_substituteAll_5 : decode cX7_substituteAll 5 = .ok (.getfield 32, 3) := by decide +kernel
theorem dX7_substituteAll_8 : decode cX7_substituteAll 8 = .ok (.invokevirtual 217, 3) := by decide +kernel
theorem dX7_substituteAll_11 : decode cX7_substituteAll 11 = .ok (.aload_n 0, 1) := by decide +kernel
theorem dX7_substituteAll_12 : decode cX7_substituteAll 12 = .ok (.aload_n 1, 1) := by decide +kernel
theorem dX7_substituteAll_13 : decode cX7_substituteAll 13 = .ok (.invokevirtual 220, 3) := by decide +kernel
theorem dX7_substituteAll_16 : decode cX7_substituteAll 16 = .ok (.ifCond .eq 12, 3) := by decide +kernel
theorem dX7_substituteAll_19 : decode cX7_substituteAll 19 = .ok (.aload_n 1, 1) := by decide +kernel
theorem dX7_substituteAll_20 : decode cX7_substituteAll 20 = .ok (.getfield 32, 3) := by decide +kernel
theorem dX7_substituteAll_23 : decode cX7_substituteAll 23 = .ok (.invokevirtual 137, 3) := by decide +kernel
theorem dX7_substituteAll_26 : decode cX7_substituteAll 26 = .ok (.iconst 0, 1) := by decide +kernel
theorem dX7_substituteAll_27 : decode cX7_substituteAll 27 = .ok (.ireturn, 1) := by decide +kernel
theorem dX7_substituteAll_28 : decode cX7_substituteAll 28 = .ok (.iconst 0, 1) := by decide +kernel
theorem dX7_substituteAll_29 : decode cX7_substituteAll 29 = .ok (.istore_n 2, 1) := by decide +kernel
theorem dX7_substituteAll_30 : decode cX7_substituteAll 30 = .ok (.iconst 0, 1) := by decide +kernel
theorem dX7_substituteAll_31 : decode cX7_substituteAll 31 = .ok (.istore_n 3, 1) := by decide +kernel
theorem dX7_substituteAll_32 : decode cX7_substituteAll 32 = .ok (.iload_n 3, 1) := by decide +kernel
theorem dX7_substituteAll_33 : decode cX7_substituteAll 33 = .ok (.aload_n 1, 1) := by decide +kernel
theorem dX7_substituteAll_34 : decode cX7_substituteAll 34 = .ok (.getfield 107, 3) := by decide +kernel
theorem dX7_substituteAll_37 : decode cX7_substituteAll 37 = .ok (.if_icmp .ge 84, 3) := by decide +kernel
theorem dX7_substituteAll_40 : decode cX7_substituteAll 40 = .ok (.aload_n 0, 1) := by decide +kernel
theorem dX7_substituteAll_41 : decode cX7_substituteAll 41 = .ok (.getfield 28, 3) := by decide +kernel
theorem dX7_substituteAll_44 : decode cX7_substituteAll 44 = .ok (.iconst 2, 1) := by decide +kernel
theorem dX7_substituteAll_45 : decode cX7_substituteAll 45 = .ok (.iload_n 3, 1) := by decide +kernel
theorem dX7_substituteAll_46 : decode cX7_substituteAll 46 = .ok (.imul, 1) := by decide +kernel
theorem dX7_substituteAll_47 : decode cX7_substituteAll 47 = .ok (.invokevirtual 223, 3) := by decide +kernel
theorem dX7_substituteAll_50 : decode cX7_substituteAll 50 = .ok (.istore 4, 2) := by decide +kernel
theorem dX7_substituteAll_52 : decode cX7_substituteAll 52 = .ok (.aload_n 1, 1) := by decide +kernel
theorem dX7_substituteAll_53 : decode cX7_substituteAll 53 = .ok (.iload_n 3, 1) := by decide +kernel
theorem dX7_substituteAll_54 : decode cX7_substituteAll 54 = .ok (.invokevirtual 111, 3) := by decide +kernel
theorem dX7_substituteAll_57 : decode cX7_substituteAll 57 = .ok (.ifCond .eq 58, 3) := by decide +kernel
theorem dX7_substituteAll_60 : decode cX7_substituteAll 60 = .ok (.iload 4, 2) := by decide +kernel
theorem dX7_substituteAll_62 : decode cX7_substituteAll 62 = .ok (.iconst 2, 1) := by decide +kernel
theorem dX7_substituteAll_63 : decode cX7_substituteAll 63 = .ok (.iload_n 3, 1) := by decide +kernel
theorem dX7_substituteAll_64 : decode cX7_substituteAll 64 = .ok (.imul, 1) := by decide +kernel
theorem dX7_substituteAll_65 : decode cX7_substituteAll 65 = .ok (.if_icmp .eq 50, 3) := by decide +kernel
theorem dX7_substituteAll_68 : decode cX7_substituteAll 68 = .ok (.aload_n 1, 1) := by decide +kernel
theorem dX7_substituteAll_69 : decode cX7_substituteAll 69 = .ok (.iconst 2, 1) := by decide +kernel
theorem dX7_substituteAll_70 : decode cX7_substituteAll 70 = .ok (.iload_n 3, 1) := by decide +kernel
theorem dX7_substituteAll_71 : decode cX7_substituteAll 71 = .ok (.imul, 1) := by decide +kernel
theorem dX7_substituteAll_72 : decode cX7_substituteAll 72 = .ok (.iload 4, 2) := by decide +kernel
theorem dX7_substituteAll_74 : decode cX7_substituteAll 74 = .ok (.iconst 1, 1) := by decide +kernel
theorem dX7_substituteAll_75 : decode cX7_substituteAll 75 = .ok (.ixor, 1) := by decide +kernel
theorem dX7_substituteAll_76 : decode cX7_substituteAll 76 = .ok (.invokestatic 226, 3) := by decide +kernel
theorem dX7_substituteAll_79 : decode cX7_substituteAll 79 = .ok (.iconst 2, 1) := by decide +kernel
theorem dX7_substituteAll_80 : decode cX7_substituteAll 80 = .ok (.iload_n 3, 1) := by decide +kernel
theorem dX7_substituteAll_81 : decode cX7_substituteAll 81 = .ok (.imul, 1) := by decide +kernel
theorem dX7_substituteAll_82 : decode cX7_substituteAll 82 = .ok (.invokevirtual 177, 3) := by decide +kernel
theorem dX7_substituteAll_85 : decode cX7_substituteAll 85 = .ok (.aload_n 1, 1) := by decide +kernel
theorem dX7_substituteAll_86 : decode cX7_substituteAll 86 = .ok (.iconst 2, 1) := by decide +kernel
theorem dX7_substituteAll_87 : decode cX7_substituteAll 87 = .ok (.iload_n 3, 1) := by decide +kernel
theorem dX7_substituteAll_88 : decode cX7_substituteAll 88 = .ok (.imul, 1) := by decide +kernel
theorem dX7_substituteAll_89 : decode cX7_substituteAll 89 = .ok (.iconst 1, 1) := by decide +kernel
theorem dX7_substituteAll_90 : decode cX7_substituteAll 90 = .ok (.iadd, 1) := by decide +kernel
theorem dX7_substituteAll_91 : decode cX7_substituteAll 91 = .ok (.iload 4, 2) := by decide +kernel
theorem dX7_substituteAll_93 : decode cX7_substituteAll 93 = .ok (.invokestatic 226, 3) := by decide +kernel
theorem dX7_substituteAll_96 : decode cX7_substituteAll 96 = .ok (.iconst 2, 1) := by decide +kernel
theorem dX7_substituteAll_97 : decode cX7_substituteAll 97 = .ok (.iload_n 3, 1) := by decide +kernel
theorem dX7_substituteAll_98 : decode cX7_substituteAll 98 = .ok (.imul, 1) := by decide +kernel
theorem dX7_substituteAll_99 : decode cX7_substituteAll 99 = .ok (.iconst 1, 1) := by decide +kernel
theorem dX7_substituteAll_100 : decode cX7_substituteAll 100 = .ok (.iadd, 1) := by decide +kernel
theorem dX7_substituteAll_101 : decode cX7_substituteAll 101 = .ok (.invokevirtual 177, 3) := by decide +kernel
theorem dX7_substituteAll_104 : decode cX7_substituteAll 104 = .ok (.aload_n 1, 1) := by decide +kernel
theorem dX7_substituteAll_105 : decode cX7_substituteAll 105 = .ok (.iload_n 3, 1) := by decide +kernel
theorem dX7_substituteAll_106 : decode cX7_substituteAll 106 = .ok (.iconst 3, 1) := by decide +kernel
theorem dX7_substituteAll_107 : decode cX7_substituteAll 107 = .ok (.iload 4, 2) := by decide +kernel
theorem dX7_substituteAll_109 : decode cX7_substituteAll 109 = .ok (.invokevirtual 183, 3) := by decide +kernel
theorem dX7_substituteAll_112 : decode cX7_substituteAll 112 = .ok (.iinc 2 1, 3) := by decide +kernel
theorem dX7_substituteAll_115 : decode cX7_substituteAll 115 = .ok (.iinc 3 1, 3) := by decide +kernel
theorem dX7_substituteAll_118 : decode cX7_substituteAll 118 = .ok (.goto (-86), 3) := by decide +kernel
theorem dX7_substituteAll_121 : decode cX7_substituteAll 121 = .ok (.aload_n 0, 1) := by decide +kernel
theorem dX7_substituteAll_122 : decode cX7_substituteAll 122 = .ok (.aload_n 1, 1) := by decide +kernel
theorem dX7_substituteAll_123 : decode cX7_substituteAll 123 = .ok (.getfield 32, 3) := by decide +kernel
theorem dX7_substituteAll_126 : decode cX7_substituteAll 126 = .ok (.invokevirtual 229, 3) := by decide +kernel
theorem dX7_substituteAll_129 : decode cX7_substituteAll 129 = .ok (.iload_n 2, 1) := by decide +kernel
theorem dX7_substituteAll_130 : decode cX7_substituteAll 130 = .ok (.ireturn, 1) := by decide +kernel
abbrev mtX7_substituteAll : mj_T := (yX7_substituteAll.cls, cX7_substituteAll, 5, (some .int), mj_no, yX7_substituteAll.name)
abbrev kX7_substituteAll (k0 : Nat) (k1 : Nat) (g : mj_S) (M : mj_M) (q : Int32 → mj_M → Prop) : Prop := mj_CI yX7_substituteAll (.code yX7_substituteAll cX7_substituteAll 5 (some .int)) 4 [.ref (k0), .ref (k1)] g M q
theorem kiX7_substituteAll : mj_cV yX7_substituteAll cX7_substituteAll 5 (some .int) 1 := ⟨⟨wd_585, wp_18, wd_8, wd_586⟩, ⟨by decide +kernel, by decide +kernel, by decide +kernel⟩, Nat.le_of_ble_eq_true rfl⟩
def LX7_substituteAll_32 (k0 : Nat) (k1 : Nat) (x2 : Int32) (x3 : Int32) (g : mj_S) (M : mj_M) (q : Int32 → mj_M → Prop) : Prop := ∀ d, 4 ≤ d → ∀ ex : Bool, mj_G mtX7_substituteAll (mj_rm d 0 0) (mj_Fi (mj_qI g q) mj_x0 0 0) ex 0 0 32 [(0, .ref (k0)), (1, .ref (k1)), (2, .int (x2)), (3, .int (x3))] [] g M
theorem eX7_substituteAll {k0 : Nat} {k1 : Nat} {g : mj_S} {M : mj_M} {q : Int32 → mj_M → Prop} (h0 : is7 g k0) (h1 : is6 g k1) (h : ∃ (q1 : mj_M → Prop), kX4_find (k0 + 8) (k1 + 1) g (M) q1 ∧ ∀ (M1 : mj_M), q1 M1 → (∃ (q2 : Int32 → mj_M → Prop), kX7_hasEquivalentComplements (k0) (k1) g (M1) q2 ∧ ∀ (v2 : Int32) (M2 : mj_M), q2 v2 M2 → (((v2 : Int32) = 0 → LX7_substituteAll_32 k0 k1 (0) (0) g (M2) q) ∧ (¬ (v2 : Int32) = 0 → ∃ (q3 : mj_M → Prop), kX0_collapse (k1 + 1) g (M2) q3 ∧ ∀ (M3 : mj_M), q3 M3 → (q (0) (M3)))))) : kX7_substituteAll (k0) (k1) g M q := by
  intro d hd; refine mj_enter (by decide +kernel) (Nat.le_of_ble_eq_true rfl) ?_
  generalize (false : Bool) = ex
  show mj_G mtX7_substituteAll (mj_rm d 0 0) (mj_Fi (mj_qI g q) mj_x0 0 0) ex 0 0 0 [(0, .ref (k0)), (1, .ref (k1))] [] g M
  refine mg_aload_n dX7_substituteAll_0 rfl 0 rfl ?_
  refine mg_getR (j := 2) dX7_substituteAll_1 kc_7 (Nat.le_of_ble_eq_true rfl) wd_222 rfl rfl h0.1.1 h0.1.2 h0.2.2.2.1 ?_
  refine mg_aload_n dX7_substituteAll_4 rfl 1 rfl ?_
  refine mg_getR (j := 3) dX7_substituteAll_5 kc_6 (Nat.le_of_ble_eq_true rfl) wd_74 rfl rfl h1.1.1 h1.1.2 h1.2.1.1 ?_
  obtain ⟨q1, hC, hk⟩ := h
  refine mc_Vv [.ref (k1 + 1)] [] dX7_substituteAll_8 wd_587 kiX4_find (Nat.le_of_ble_eq_true rfl) h0.2.2.2.2.1.1 h0.2.2.2.2.1.2 rfl (Nat.le_trans (Nat.le_of_ble_eq_true rfl) hd) hC (fun M1 hq => ?_)
  replace h := hk M1 hq
  refine mg_aload_n dX7_substituteAll_11 rfl 0 rfl ?_
  refine mg_aload_n dX7_substituteAll_12 rfl 1 rfl ?_
  obtain ⟨q2, hC, hk⟩ := h
  refine mc_Vi [.ref (k1)] [] dX7_substituteAll_13 wd_599 kiX7_hasEquivalentComplements (Nat.le_of_ble_eq_true rfl) h0.1.1 h0.1.2 rfl (Nat.le_trans (Nat.le_of_ble_eq_true rfl) hd) hC (fun v2 M2 hq => ?_)
  replace h := hk v2 M2 hq
  refine mg_if_eq (tgt := 28) dX7_substituteAll_16 (by decide) (fun hc => ?_) (fun hc => ?_)
  · replace h := h.1 hc
    refine mg_iconst (v := 0) dX7_substituteAll_28 (by decide) ?_
    refine mg_istore_n (ls' := [(2, .int (0)), (0, .ref (k0)), (1, .ref (k1))]) dX7_substituteAll_29 rfl (Nat.le_of_ble_eq_true rfl) rfl ?_
    refine mg_iconst (v := 0) dX7_substituteAll_30 (by decide) ?_
    refine mg_istore_n (ls' := [(3, .int (0)), (2, .int (0)), (0, .ref (k0)), (1, .ref (k1))]) dX7_substituteAll_31 rfl (Nat.le_of_ble_eq_true rfl) rfl ?_
    exact mg_pick [2, 3, 1, 0] rfl (h d hd ex)
  · replace h := h.2 hc
    refine mg_aload_n dX7_substituteAll_19 rfl 1 rfl ?_
    refine mg_getR (j := 3) dX7_substituteAll_20 kc_6 (Nat.le_of_ble_eq_true rfl) wd_74 rfl rfl h1.1.1 h1.1.2 h1.2.1.1 ?_
    obtain ⟨q3, hC, hk⟩ := h
    refine mc_Vv [] [] dX7_substituteAll_23 wd_481 kiX0_collapse (Nat.le_of_ble_eq_true rfl) h1.2.1.2.1.1 h1.2.1.2.1.2 rfl (Nat.le_trans (Nat.le_of_ble_eq_true rfl) hd) hC (fun M3 hq => ?_)
    replace h := hk M3 hq
    refine mg_iconst (v := 0) dX7_substituteAll_26 (by decide) ?_
    exact me_i dX7_substituteAll_27 rfl h
theorem bX7_substituteAll_32 {k0 : Nat} {k1 : Nat} {x2 : Int32} {x3 : Int32} {g : mj_S} {M : mj_M} {q : Int32 → mj_M → Prop} (h0 : is7 g k0) (h1 : is6 g k1) (h : (((M).1 (k1) 0 : Int32) ≤ (x3) → ∃ (q1 : mj_M → Prop), kX7_replaceLiterals (k0) (k1 + 1) g (M) q1 ∧ ∀ (M1 : mj_M), q1 M1 → (q (x2) (M1))) ∧ (¬ ((M).1 (k1) 0 : Int32) ≤ (x3) → ∃ (q2 : Int32 → mj_M → Prop), kX4_lowestEquivalent (k0 + 8) ((2 : Int32) * (x3)) g (M) q2 ∧ ∀ (v2 : Int32) (M2 : mj_M), q2 v2 M2 → (∃ (q3 : Int32 → mj_M → Prop), kX6_isActive (k1) (x3) g (M2) q3 ∧ ∀ (v3 : Int32) (M3 : mj_M), q3 v3 M3 → (((v3 : Int32) = 0 → LX7_substituteAll_32 k0 k1 (x2) (x3 + 1) g (M3) q) ∧ (¬ (v3 : Int32) = 0 → ((v2 : Int32) = ((2 : Int32) * (x3)) → LX7_substituteAll_32 k0 k1 (x2) (x3 + 1) g (M3) q) ∧ (¬ (v2 : Int32) = ((2 : Int32) * (x3)) → ∃ (q4 : Int32 → mj_M → Prop), kX9_pairOf ((2 : Int32) * (x3)) ((v2) ^^^ (1 : Int32)) g (M3) q4 ∧ ∀ (v4 : Int32) (M4 : mj_M), q4 v4 M4 → (∃ (q5 : mj_M → Prop), kX6_pushRow (k1) (v4) ((2 : Int32) * (x3)) g (M4) q5 ∧ ∀ (M5 : mj_M), q5 M5 → (∃ (q6 : Int32 → mj_M → Prop), kX9_pairOf (((2 : Int32) * (x3)) + (1 : Int32)) (v2) g (M5) q6 ∧ ∀ (v6 : Int32) (M6 : mj_M), q6 v6 M6 → (∃ (q7 : mj_M → Prop), kX6_pushRow (k1) (v6) (((2 : Int32) * (x3)) + (1 : Int32)) g (M6) q7 ∧ ∀ (M7 : mj_M), q7 M7 → (∃ (q8 : mj_M → Prop), kX6_retire (k1) (x3) (3) (v2) g (M7) q8 ∧ ∀ (M8 : mj_M), q8 M8 → (LX7_substituteAll_32 k0 k1 (x2 + 1) (x3 + 1) g (M8) q))))))))))) : LX7_substituteAll_32 k0 k1 x2 x3 g M q := by
  intro d hd ex
  refine mg_iload_n dX7_substituteAll_32 rfl 3 rfl ?_
  refine mg_aload_n dX7_substituteAll_33 rfl 1 rfl ?_
  refine mg_getI (j := 0) dX7_substituteAll_34 kc_6 (Nat.le_of_ble_eq_true rfl) wd_66 rfl rfl h1.1.1 h1.1.2 rfl ?_
  refine mg_icmp_ge (tgt := 121) dX7_substituteAll_37 (by decide) (fun hc => ?_) (fun hc => ?_)
  · replace h := h.1 hc
    refine mg_aload_n dX7_substituteAll_121 rfl 0 rfl ?_
    refine mg_aload_n dX7_substituteAll_122 rfl 1 rfl ?_
    refine mg_getR (j := 3) dX7_substituteAll_123 kc_6 (Nat.le_of_ble_eq_true rfl) wd_74 rfl rfl h1.1.1 h1.1.2 h1.2.1.1 ?_
    obtain ⟨q1, hC, hk⟩ := h
    refine mc_Vv [.ref (k1 + 1)] [] dX7_substituteAll_126 wd_615 kiX7_replaceLiterals (Nat.le_of_ble_eq_true rfl) h0.1.1 h0.1.2 rfl (Nat.le_trans (Nat.le_of_ble_eq_true rfl) hd) hC (fun M1 hq => ?_)
    replace h := hk M1 hq
    refine mg_iload_n dX7_substituteAll_129 rfl 2 rfl ?_
    exact me_i dX7_substituteAll_130 rfl h
  · replace h := h.2 hc
    refine mg_aload_n dX7_substituteAll_40 rfl 0 rfl ?_
    refine mg_getR (j := 2) dX7_substituteAll_41 kc_7 (Nat.le_of_ble_eq_true rfl) wd_222 rfl rfl h0.1.1 h0.1.2 h0.2.2.2.1 ?_
    refine mg_iconst (v := 2) dX7_substituteAll_44 (by decide) ?_
    refine mg_iload_n dX7_substituteAll_45 rfl 3 rfl ?_
    refine mg_imul dX7_substituteAll_46 ?_
    obtain ⟨q2, hC, hk⟩ := h
    refine mc_Vi [.int ((2 : Int32) * (x3))] [] dX7_substituteAll_47 wd_607 kiX4_lowestEquivalent (Nat.le_of_ble_eq_true rfl) h0.2.2.2.2.1.1 h0.2.2.2.2.1.2 rfl (Nat.le_trans (Nat.le_of_ble_eq_true rfl) hd) hC (fun v2 M2 hq => ?_)
    replace h := hk v2 M2 hq
    refine mg_istore (ls' := [(4, .int (v2)), (0, .ref (k0)), (1, .ref (k1)), (2, .int (x2)), (3, .int (x3))]) dX7_substituteAll_50 (Nat.le_of_ble_eq_true rfl) rfl ?_
    refine mg_aload_n dX7_substituteAll_52 rfl 2 rfl ?_
    refine mg_iload_n dX7_substituteAll_53 rfl 4 rfl ?_
    obtain ⟨q3, hC, hk⟩ := h
    refine mc_Vi [.int (x3)] [] dX7_substituteAll_54 wd_442 kiX6_isActive (Nat.le_of_ble_eq_true rfl) h1.1.1 h1.1.2 rfl (Nat.le_trans (Nat.le_of_ble_eq_true rfl) hd) hC (fun v3 M3 hq => ?_)
    replace h := hk v3 M3 hq
    refine mg_if_eq (tgt := 115) dX7_substituteAll_57 (by decide) (fun hc => ?_) (fun hc => ?_)
    · replace h := h.1 hc
      refine mg_iinc (v := x3 + 1) (ls' := [(3, .int (x3 + 1)), (4, .int (v2)), (0, .ref (k0)), (1, .ref (k1)), (2, .int (x2))]) dX7_substituteAll_115 4 rfl rfl (Nat.le_of_ble_eq_true rfl) rfl ?_
      refine mg_goto (tgt := 32) dX7_substituteAll_118 (by decide) ?_
      exact mg_pick [2, 3, 4, 0] rfl (h d hd ex)
    · replace h := h.2 hc
      refine mg_iload dX7_substituteAll_60 0 rfl ?_
      refine mg_iconst (v := 2) dX7_substituteAll_62 (by decide) ?_
      refine mg_iload_n dX7_substituteAll_63 rfl 4 rfl ?_
      refine mg_imul dX7_substituteAll_64 ?_
      refine mg_icmp_eq (tgt := 115) dX7_substituteAll_65 (by decide) (fun hc => ?_) (fun hc => ?_)
      · replace h := h.1 hc
        refine mg_iinc (v := x3 + 1) (ls' := [(3, .int (x3 + 1)), (4, .int (v2)), (0, .ref (k0)), (1, .ref (k1)), (2, .int (x2))]) dX7_substituteAll_115 4 rfl rfl (Nat.le_of_ble_eq_true rfl) rfl ?_
        refine mg_goto (tgt := 32) dX7_substituteAll_118 (by decide) ?_
        exact mg_pick [2, 3, 4, 0] rfl (h d hd ex)
      · replace h := h.2 hc
        refine mg_aload_n dX7_substituteAll_68 rfl 2 rfl ?_
        refine mg_iconst (v := 2) dX7_substituteAll_69 (by decide) ?_
        refine mg_iload_n dX7_substituteAll_70 rfl 4 rfl ?_
        refine mg_imul dX7_substituteAll_71 ?_
        refine mg_iload dX7_substituteAll_72 0 rfl ?_
        refine mg_iconst (v := 1) dX7_substituteAll_74 (by decide) ?_
        refine mg_ixor dX7_substituteAll_75 ?_
        obtain ⟨q4, hC, hk⟩ := h
        refine mc_Ni [.int ((2 : Int32) * (x3)), .int ((v2) ^^^ (1 : Int32))] [.ref (k1)] 17 dX7_substituteAll_76 rfl kiX9_pairOf (Nat.le_of_ble_eq_true rfl) (Nat.le_trans (Nat.le_of_ble_eq_true rfl) hd) hC (fun v4 M4 hq => ?_)
        replace h := hk v4 M4 hq
        refine mg_iconst (v := 2) dX7_substituteAll_79 (by decide) ?_
        refine mg_iload_n dX7_substituteAll_80 rfl 4 rfl ?_
        refine mg_imul dX7_substituteAll_81 ?_
        obtain ⟨q5, hC, hk⟩ := h
        refine mc_Vv [.int (v4), .int ((2 : Int32) * (x3))] [] dX7_substituteAll_82 wd_519 kiX6_pushRow (Nat.le_of_ble_eq_true rfl) h1.1.1 h1.1.2 rfl (Nat.le_trans (Nat.le_of_ble_eq_true rfl) hd) hC (fun M5 hq => ?_)
        replace h := hk M5 hq
        refine mg_aload_n dX7_substituteAll_85 rfl 2 rfl ?_
        refine mg_iconst (v := 2) dX7_substituteAll_86 (by decide) ?_
        refine mg_iload_n dX7_substituteAll_87 rfl 4 rfl ?_
        refine mg_imul dX7_substituteAll_88 ?_
        refine mg_iconst (v := 1) dX7_substituteAll_89 (by decide) ?_
        refine mg_iadd dX7_substituteAll_90 ?_
        refine mg_iload dX7_substituteAll_91 0 rfl ?_
        obtain ⟨q6, hC, hk⟩ := h
        refine mc_Ni [.int (((2 : Int32) * (x3)) + (1 : Int32)), .int (v2)] [.ref (k1)] 17 dX7_substituteAll_93 rfl kiX9_pairOf (Nat.le_of_ble_eq_true rfl) (Nat.le_trans (Nat.le_of_ble_eq_true rfl) hd) hC (fun v6 M6 hq => ?_)
        replace h := hk v6 M6 hq
        refine mg_iconst (v := 2) dX7_substituteAll_96 (by decide) ?_
        refine mg_iload_n dX7_substituteAll_97 rfl 4 rfl ?_
        refine mg_imul dX7_substituteAll_98 ?_
        refine mg_iconst (v := 1) dX7_substituteAll_99 (by decide) ?_
        refine mg_iadd dX7_substituteAll_100 ?_
        obtain ⟨q7, hC, hk⟩ := h
        refine mc_Vv [.int (v6), .int (((2 : Int32) * (x3)) + (1 : Int32))] [] dX7_substituteAll_101 wd_519 kiX6_pushRow (Nat.le_of_ble_eq_true rfl) h1.1.1 h1.1.2 rfl (Nat.le_trans (Nat.le_of_ble_eq_true rfl) hd) hC (fun M7 hq => ?_)
        replace h := hk M7 hq
        refine mg_aload_n dX7_substituteAll_104 rfl 2 rfl ?_
        refine mg_iload_n dX7_substituteAll_105 rfl 4 rfl ?_
        refine mg_iconst (v := 3) dX7_substituteAll_106 (by decide) ?_
        refine mg_iload dX7_substituteAll_107 0 rfl ?_
        obtain ⟨q8, hC, hk⟩ := h
        refine mc_Vv [.int (x3), .int (3), .int (v2)] [] dX7_substituteAll_109 wd_521 kiX6_retire (Nat.le_of_ble_eq_true rfl) h1.1.1 h1.1.2 rfl (Nat.le_trans (Nat.le_of_ble_eq_true rfl) hd) hC (fun M8 hq => ?_)
        replace h := hk M8 hq
        refine mg_iinc (v := x2 + 1) (ls' := [(2, .int (x2 + 1)), (4, .int (v2)), (0, .ref (k0)), (1, .ref (k1)), (3, .int (x3))]) dX7_substituteAll_112 3 rfl rfl (Nat.le_of_ble_eq_true rfl) rfl ?_
        refine mg_iinc (v := x3 + 1) (ls' := [(3, .int (x3 + 1)), (2, .int (x2 + 1)), (4, .int (v2)), (0, .ref (k0)), (1, .ref (k1))]) dX7_substituteAll_115 4 rfl rfl (Nat.le_of_ble_eq_true rfl) rfl ?_
        refine mg_goto (tgt := 32) dX7_substituteAll_118 (by decide) ?_
        exact mg_pick [3, 4, 1, 0] rfl (h d hd ex)
theorem dX7_vivifyAll_0 : decode cX7_vivifyAll 0 = .ok (.iconst 0, 1) := by decide +kernel
theorem dX7_vivifyAll_1 : decode cX7_vivifyAll 1 = .ok (.istore_n 2, 1) := by decide +kernel
theorem dX7_vivifyAll_2 : decode cX7_vivifyAll 2 = .ok (.iconst 0, 1) := by decide +kernel
theorem dX7_vivifyAll_3 : decode cX7_vivifyAll 3 = .ok (.istore_n 3, 1) := by decide +kernel
theorem dX7_vivifyAll_4 : decode cX7_vivifyAll 4 = .ok (.iload_n 3, 1) := by decide +kernel
theorem dX7_vivifyAll_5 : decode cX7_vivifyAll 5 = .ok (.aload_n 1, 1) := by decide +kernel
theorem dX7_vivifyAll_6 : decode cX7_vivifyAll 6 = .ok (.invokevirtual 88, 3) := by decide +kernel
theorem dX7_vivifyAll_9 : decode cX7_vivifyAll 9 = .ok (.if_icmp .ge 63, 3) := by decide +kernel
theorem dX7_vivifyAll_12 : decode cX7_vivifyAll 12 = .ok (.aload_n 1, 1) := by decide +kernel
theorem dX7_vivifyAll_13 : decode cX7_vivifyAll 13 = .ok (.iload_n 3, 1) := by decide +kernel
theorem dX7_vivifyAll_14 : decode cX7_vivifyAll 14 = .ok (.invokestatic 241, 3) := by decide +kernel
theorem dX7_vivifyAll_17 : decode cX7_vivifyAll 17 = .ok (.istore 4, 2) := by decide +kernel
theorem dX7_vivifyAll_19 : decode cX7_vivifyAll 19 = .ok (.iload 4, 2) := by decide +kernel
theorem dX7_vivifyAll_21 : decode cX7_vivifyAll 21 = .ok (.iconst (-1), 1) := by decide +kernel
theorem dX7_vivifyAll_22 : decode cX7_vivifyAll 22 = .ok (.if_icmp .ne 9, 3) := by decide +kernel
theorem dX7_vivifyAll_25 : decode cX7_vivifyAll 25 = .ok (.aload_n 1, 1) := by decide +kernel
theorem dX7_vivifyAll_26 : decode cX7_vivifyAll 26 = .ok (.invokevirtual 137, 3) := by decide +kernel
theorem dX7_vivifyAll_29 : decode cX7_vivifyAll 29 = .ok (.iload_n 2, 1) := by decide +kernel
theorem dX7_vivifyAll_30 : decode cX7_vivifyAll 30 = .ok (.ireturn, 1) := by decide +kernel
theorem dX7_vivifyAll_31 : decode cX7_vivifyAll 31 = .ok (.iload_n 2, 1) := by decide +kernel
theorem dX7_vivifyAll_32 : decode cX7_vivifyAll 32 = .ok (.aload_n 1, 1) := by decide +kernel
theorem dX7_vivifyAll_33 : decode cX7_vivifyAll 33 = .ok (.iload_n 3, 1) := by decide +kernel
theorem dX7_vivifyAll_34 : decode cX7_vivifyAll 34 = .ok (.invokevirtual 92, 3) := by decide +kernel
theorem dX7_vivifyAll_37 : decode cX7_vivifyAll 37 = .ok (.invokestatic 96, 3) := by decide +kernel
theorem dX7_vivifyAll_40 : decode cX7_vivifyAll 40 = .ok (.iload 4, 2) := by decide +kernel
theorem dX7_vivifyAll_42 : decode cX7_vivifyAll 42 = .ok (.invokestatic 96, 3) := by decide +kernel
theorem dX7_vivifyAll_45 : decode cX7_vivifyAll 45 = .ok (.isub, 1) := by decide +kernel
theorem dX7_vivifyAll_46 : decode cX7_vivifyAll 46 = .ok (.iadd, 1) := by decide +kernel
theorem dX7_vivifyAll_47 : decode cX7_vivifyAll 47 = .ok (.istore_n 2, 1) := by decide +kernel
theorem dX7_vivifyAll_48 : decode cX7_vivifyAll 48 = .ok (.iload 4, 2) := by decide +kernel
theorem dX7_vivifyAll_50 : decode cX7_vivifyAll 50 = .ok (.ifCond .ne 9, 3) := by decide +kernel
theorem dX7_vivifyAll_53 : decode cX7_vivifyAll 53 = .ok (.aload_n 1, 1) := by decide +kernel
theorem dX7_vivifyAll_54 : decode cX7_vivifyAll 54 = .ok (.invokevirtual 137, 3) := by decide +kernel
theorem dX7_vivifyAll_57 : decode cX7_vivifyAll 57 = .ok (.iload_n 2, 1) := by decide +kernel
theorem dX7_vivifyAll_58 : decode cX7_vivifyAll 58 = .ok (.ireturn, 1) := by decide +kernel
theorem dX7_vivifyAll_59 : decode cX7_vivifyAll 59 = .ok (.aload_n 1, 1) := by decide +kernel
theorem dX7_vivifyAll_60 : decode cX7_vivifyAll 60 = .ok (.iload_n 3, 1) := by decide +kernel
theorem dX7_vivifyAll_61 : decode cX7_vivifyAll 61 = .ok (.iload 4, 2) := by decide +kernel
theorem dX7_vivifyAll_63 : decode cX7_vivifyAll 63 = .ok (.invokevirtual 134, 3) := by decide +kernel
theorem dX7_vivifyAll_66 : decode cX7_vivifyAll 66 = .ok (.iinc 3 1, 3) := by decide +kernel
theorem dX7_vivifyAll_69 : decode cX7_vivifyAll 69 = .ok (.goto (-65), 3) := by decide +kernel
theorem dX7_vivifyAll_72 : decode cX7_vivifyAll 72 = .ok (.iload_n 2, 1) := by decide +kernel
theorem dX7_vivifyAll_73 : decode cX7_vivifyAll 73 = .ok (.ireturn, 1) := by decide +kernel
abbrev mtX7_vivifyAll : mj_T := (yX7_vivifyAll.cls, cX7_vivifyAll, 5, (some .int), mj_no, yX7_vivifyAll.name)
abbrev kX7_vivifyAll (k0 : Nat) (k1 : Nat) (g : mj_S) (M : mj_M) (q : Int32 → mj_M → Prop) : Prop := mj_CI yX7_vivifyAll (.code yX7_vivifyAll cX7_vivifyAll 5 (some .int)) 3 [.ref (k0), .ref (k1)] g M q
theorem kiX7_vivifyAll : mj_cV yX7_vivifyAll cX7_vivifyAll 5 (some .int) 1 := ⟨⟨wd_627, wp_22, wd_8, wd_628⟩, ⟨by decide +kernel, by decide +kernel, by decide +kernel⟩, Nat.le_of_ble_eq_true rfl⟩
def LX7_vivifyAll_4 (k0 : Nat) (k1 n1 : Nat) (x2 : Int32) (x3 : Int32) (g : mj_S) (M : mj_M) (q : Int32 → mj_M → Prop) : Prop := ∀ d, 3 ≤ d → ∀ ex : Bool, mj_G mtX7_vivifyAll (mj_rm d 0 0) (mj_Fi (mj_qI g q) mj_x0 0 0) ex 0 0 4 [(1, .ref (k1)), (2, .int (x2)), (3, .int (x3))] [] g M
theorem eX7_vivifyAll {k0 : Nat} {k1 n1 : Nat} {g : mj_S} {M : mj_M} {q : Int32 → mj_M → Prop} (h0 : is7 g k0) (h1 : is0 g k1 n1) (h : LX7_vivifyAll_4 k0 k1 n1 (0) (0) g (M) q) : kX7_vivifyAll (k0) (k1) g M q := by
  intro d hd; refine mj_enter (by decide +kernel) (Nat.le_of_ble_eq_true rfl) ?_
  generalize (false : Bool) = ex
  show mj_G mtX7_vivifyAll (mj_rm d 0 0) (mj_Fi (mj_qI g q) mj_x0 0 0) ex 0 0 0 [(0, .ref (k0)), (1, .ref (k1))] [] g M
  refine mg_iconst (v := 0) dX7_vivifyAll_0 (by decide) ?_
  refine mg_istore_n (ls' := [(2, .int (0)), (0, .ref (k0)), (1, .ref (k1))]) dX7_vivifyAll_1 rfl (Nat.le_of_ble_eq_true rfl) rfl ?_
  refine mg_iconst (v := 0) dX7_vivifyAll_2 (by decide) ?_
  refine mg_istore_n (ls' := [(3, .int (0)), (2, .int (0)), (0, .ref (k0)), (1, .ref (k1))]) dX7_vivifyAll_3 rfl (Nat.le_of_ble_eq_true rfl) rfl ?_
  exact mg_pick [3, 1, 0] rfl (h d hd ex)
theorem bX7_vivifyAll_4 {k0 : Nat} {k1 n1 : Nat} {x2 : Int32} {x3 : Int32} {g : mj_S} {M : mj_M} {q : Int32 → mj_M → Prop} (h0 : is7 g k0) (h1 : is0 g k1 n1) (h : ∃ (q1 : Int32 → mj_M → Prop), kX0_size (k1) g (M) q1 ∧ ∀ (v1 : Int32) (M1 : mj_M), q1 v1 M1 → (((v1 : Int32) ≤ (x3) → q (x2) (M1)) ∧ (¬ (v1 : Int32) ≤ (x3) → ∃ (q2 : Int32 → mj_M → Prop), kX9_vivify (k1) (x3) g (M1) q2 ∧ ∀ (v2 : Int32) (M2 : mj_M), q2 v2 M2 → ((¬ (v2 : Int32) = (-1 : Int32) → ∃ (q3 : Int32 → mj_M → Prop), kX0_at (k1) (x3) g (M2) q3 ∧ ∀ (v3 : Int32) (M3 : mj_M), q3 v3 M3 → (∃ (q4 : Int32 → mj_M → Prop), kJ6_bitCount_0f7a4 (v3) g (M3) q4 ∧ ∀ (v4 : Int32) (M4 : mj_M), q4 v4 M4 → (∃ (q5 : Int32 → mj_M → Prop), kJ6_bitCount_0f7a4 (v2) g (M4) q5 ∧ ∀ (v5 : Int32) (M5 : mj_M), q5 v5 M5 → ((¬ (v2 : Int32) = 0 → ∃ (q6 : mj_M → Prop), kX0_put (k1) (x3) (v2) g (M5) q6 ∧ ∀ (M6 : mj_M), q6 M6 → (LX7_vivifyAll_4 k0 k1 n1 ((x2) + ((v4) - (v5))) (x3 + 1) g (M6) q)) ∧ ((v2 : Int32) = 0 → ∃ (q7 : mj_M → Prop), kX0_collapse (k1) g (M5) q7 ∧ ∀ (M7 : mj_M), q7 M7 → (q ((x2) + ((v4) - (v5))) (M7))))))) ∧ ((v2 : Int32) = (-1 : Int32) → ∃ (q8 : mj_M → Prop), kX0_collapse (k1) g (M2) q8 ∧ ∀ (M8 : mj_M), q8 M8 → (q (x2) (M8))))))) : LX7_vivifyAll_4 k0 k1 n1 x2 x3 g M q := by
  intro d hd ex
  refine mg_iload_n dX7_vivifyAll_4 rfl 2 rfl ?_
  refine mg_aload_n dX7_vivifyAll_5 rfl 0 rfl ?_
  obtain ⟨q1, hC, hk⟩ := h
  refine mc_Vi [] [.int (x3)] dX7_vivifyAll_6 wd_407 kiX0_size (Nat.le_of_ble_eq_true rfl) h1.1.1 h1.1.2 rfl (Nat.le_trans (Nat.le_of_ble_eq_true rfl) hd) hC (fun v1 M1 hq => ?_)
  replace h := hk v1 M1 hq
  refine mg_icmp_ge (tgt := 72) dX7_vivifyAll_9 (by decide) (fun hc => ?_) (fun hc => ?_)
  · replace h := h.1 hc
    refine mg_iload_n dX7_vivifyAll_72 rfl 1 rfl ?_
    exact me_i dX7_vivifyAll_73 rfl h
  · replace h := h.2 hc
    refine mg_aload_n dX7_vivifyAll_12 rfl 0 rfl ?_
    refine mg_iload_n dX7_vivifyAll_13 rfl 2 rfl ?_
    obtain ⟨q2, hC, hk⟩ := h
    refine mc_Ni [.ref (k1), .int (x3)] [] 19 dX7_vivifyAll_14 rfl kiX9_vivify (Nat.le_of_ble_eq_true rfl) (Nat.le_trans (Nat.le_of_ble_eq_true rfl) hd) hC (fun v2 M2 hq => ?_)
    replace h := hk v2 M2 hq
    refine mg_istore (ls' := [(4, .int (v2)), (1, .ref (k1)), (2, .int (x2)), (3, .int (x3))]) dX7_vivifyAll_17 (Nat.le_of_ble_eq_true rfl) rfl ?_
    refine mg_iload dX7_vivifyAll_19 0 rfl ?_
    refine mg_iconst (v := (-1)) dX7_vivifyAll_21 (by decide) ?_
    refine mg_icmp_ne (tgt := 31) dX7_vivifyAll_22 (by decide) (fun hc => ?_) (fun hc => ?_)
    · replace h := h.1 hc
      refine mg_iload_n dX7_vivifyAll_31 rfl 2 rfl ?_
      refine mg_aload_n dX7_vivifyAll_32 rfl 1 rfl ?_
      refine mg_iload_n dX7_vivifyAll_33 rfl 3 rfl ?_
      obtain ⟨q3, hC, hk⟩ := h
      refine mc_Vi [.int (x3)] [.int (x2)] dX7_vivifyAll_34 wd_408 kiX0_at (Nat.le_of_ble_eq_true rfl) h1.1.1 h1.1.2 rfl (Nat.le_trans (Nat.le_of_ble_eq_true rfl) hd) hC (fun v3 M3 hq => ?_)
      replace h := hk v3 M3 hq
      obtain ⟨q4, hC, hk⟩ := h
      refine mc_Si [.int (v3)] [.int (x2)] dX7_vivifyAll_37 wd_409 kiJ6_bitCount_0f7a4 (Nat.le_of_ble_eq_true rfl) (Nat.le_trans (Nat.le_of_ble_eq_true rfl) hd) hC (fun v4 M4 hq => ?_)
      replace h := hk v4 M4 hq
      refine mg_iload dX7_vivifyAll_40 0 rfl ?_
      obtain ⟨q5, hC, hk⟩ := h
      refine mc_Si [.int (v2)] [.int (v4), .int (x2)] dX7_vivifyAll_42 wd_409 kiJ6_bitCount_0f7a4 (Nat.le_of_ble_eq_true rfl) (Nat.le_trans (Nat.le_of_ble_eq_true rfl) hd) hC (fun v5 M5 hq => ?_)
      replace h := hk v5 M5 hq
      refine mg_isub dX7_vivifyAll_45 ?_
      refine mg_iadd dX7_vivifyAll_46 ?_
      refine mg_istore_n (ls' := [(2, .int ((x2) + ((v4) - (v5)))), (4, .int (v2)), (1, .ref (k1)), (3, .int (x3))]) dX7_vivifyAll_47 rfl (Nat.le_of_ble_eq_true rfl) rfl ?_
      refine mg_iload dX7_vivifyAll_48 1 rfl ?_
      refine mg_if_ne (tgt := 59) dX7_vivifyAll_50 (by decide) (fun hc => ?_) (fun hc => ?_)
      · replace h := h.1 hc
        refine mg_aload_n dX7_vivifyAll_59 rfl 2 rfl ?_
        refine mg_iload_n dX7_vivifyAll_60 rfl 3 rfl ?_
        refine mg_iload dX7_vivifyAll_61 1 rfl ?_
        obtain ⟨q6, hC, hk⟩ := h
        refine mc_Vv [.int (x3), .int (v2)] [] dX7_vivifyAll_63 wd_477 kiX0_put (Nat.le_of_ble_eq_true rfl) h1.1.1 h1.1.2 rfl (Nat.le_trans (Nat.le_of_ble_eq_true rfl) hd) hC (fun M6 hq => ?_)
        replace h := hk M6 hq
        refine mg_iinc (v := x3 + 1) (ls' := [(3, .int (x3 + 1)), (2, .int ((x2) + ((v4) - (v5)))), (4, .int (v2)), (1, .ref (k1))]) dX7_vivifyAll_66 3 rfl rfl (Nat.le_of_ble_eq_true rfl) rfl ?_
        refine mg_goto (tgt := 4) dX7_vivifyAll_69 (by decide) ?_
        exact mg_pick [3, 1, 0] rfl (h d hd ex)
      · replace h := h.2 hc
        refine mg_aload_n dX7_vivifyAll_53 rfl 2 rfl ?_
        obtain ⟨q7, hC, hk⟩ := h
        refine mc_Vv [] [] dX7_vivifyAll_54 wd_481 kiX0_collapse (Nat.le_of_ble_eq_true rfl) h1.1.1 h1.1.2 rfl (Nat.le_trans (Nat.le_of_ble_eq_true rfl) hd) hC (fun M7 hq => ?_)
        replace h := hk M7 hq
        refine mg_iload_n dX7_vivifyAll_57 rfl 0 rfl ?_
        exact me_i dX7_vivifyAll_58 rfl h
    · replace h := h.2 hc
      refine mg_aload_n dX7_vivifyAll_25 rfl 1 rfl ?_
      obtain ⟨q8, hC, hk⟩ := h
      refine mc_Vv [] [] dX7_vivifyAll_26 wd_481 kiX0_collapse (Nat.le_of_ble_eq_true rfl) h1.1.1 h1.1.2 rfl (Nat.le_trans (Nat.le_of_ble_eq_true rfl) hd) hC (fun M8 hq => ?_)
      replace h := hk M8 hq
      refine mg_iload_n dX7_vivifyAll_29 rfl 2 rfl ?_
      exact me_i dX7_vivifyAll_30 rfl h
theorem dX7_perform_0 : decode cX7_perform 0 = .ok (.iconst 0, 1) := by decide +kernel
theorem dX7_perform_1 : decode cX7_perform 1 = .ok (.istore_n 3, 1) := by decide +kernel
theorem dX7_perform_2 : decode cX7_perform 2 = .ok (.aload_n 1, 1) := by decide +kernel
theorem dX7_perform_3 : decode cX7_perform 3 = .ok (.getfield 32, 3) := by decide +kernel
theorem dX7_perform_6 : decode cX7_perform 6 = .ok (.invokevirtual 38, 3) := by decide +kernel
theorem dX7_perform_9 : decode cX7_perform 9 = .ok (.ifCond .ne 158, 3) := by decide +kernel
theorem dX7_perform_12 : decode cX7_perform 12 = .ok (.iload_n 2, 1) := by decide +kernel
theorem dX7_perform_13 : decode cX7_perform 13 = .ok (.tableswitch 154 0 9 #[55, 64, 73, 85, 97, 106, 115, 124, 133, 142], 55) := by decide +kernel
theorem dX7_perform_68 : decode cX7_perform 68 = .ok (.aload_n 0, 1) := by decide +kernel
theorem dX7_perform_69 : decode cX7_perform 69 = .ok (.aload_n 1, 1) := by decide +kernel
theorem dX7_perform_70 : decode cX7_perform 70 = .ok (.invokevirtual 44, 3) := by decide +kernel
theorem dX7_perform_73 : decode cX7_perform 73 = .ok (.istore_n 3, 1) := by decide +kernel
theorem dX7_perform_74 : decode cX7_perform 74 = .ok (.goto 93, 3) := by decide +kernel
theorem dX7_perform_77 : decode cX7_perform 77 = .ok (.aload_n 0, 1) := by decide +kernel
theorem dX7_perform_78 : decode cX7_perform 78 = .ok (.aload_n 1, 1) := by decide +kernel
theorem dX7_perform_79 : decode cX7_perform 79 = .ok (.invokevirtual 48, 3) := by decide +kernel
theorem dX7_perform_82 : decode cX7_perform 82 = .ok (.istore_n 3, 1) := by decide +kernel
theorem dX7_perform_83 : decode cX7_perform 83 = .ok (.goto 84, 3) := by decide +kernel
theorem dX7_perform_86 : decode cX7_perform 86 = .ok (.aload_n 0, 1) := by decide +kernel
theorem dX7_perform_87 : decode cX7_perform 87 = .ok (.aload_n 1, 1) := by decide +kernel
theorem dX7_perform_88 : decode cX7_perform 88 = .ok (.getfield 32, 3) := by decide +kernel
theorem dX7_perform_91 : decode cX7_perform 91 = .ok (.invokevirtual 51, 3) := by decide +kernel
theorem dX7_perform_94 : decode cX7_perform 94 = .ok (.istore_n 3, 1) := by decide +kernel
theorem dX7_perform_95 : decode cX7_perform 95 = .ok (.goto 72, 3) := by decide +kernel
theorem dX7_perform_98 : decode cX7_perform 98 = .ok (.aload_n 0, 1) := by decide +kernel
theorem dX7_perform_99 : decode cX7_perform 99 = .ok (.aload_n 1, 1) := by decide +kernel
theorem dX7_perform_100 : decode cX7_perform 100 = .ok (.getfield 32, 3) := by decide +kernel
theorem dX7_perform_103 : decode cX7_perform 103 = .ok (.invokevirtual 55, 3) := by decide +kernel
theorem dX7_perform_106 : decode cX7_perform 106 = .ok (.istore_n 3, 1) := by decide +kernel
theorem dX7_perform_107 : decode cX7_perform 107 = .ok (.goto 60, 3) := by decide +kernel
theorem dX7_perform_110 : decode cX7_perform 110 = .ok (.aload_n 0, 1) := by decide +kernel
theorem dX7_perform_111 : decode cX7_perform 111 = .ok (.aload_n 1, 1) := by decide +kernel
theorem dX7_perform_112 : decode cX7_perform 112 = .ok (.invokevirtual 58, 3) := by decide +kernel
theorem dX7_perform_115 : decode cX7_perform 115 = .ok (.istore_n 3, 1) := by decide +kernel
theorem dX7_perform_116 : decode cX7_perform 116 = .ok (.goto 51, 3) := by decide +kernel
theorem dX7_perform_119 : decode cX7_perform 119 = .ok (.aload_n 0, 1) := by decide +kernel
theorem dX7_perform_120 : decode cX7_perform 120 = .ok (.aload_n 1, 1) := by decide +kernel
theorem dX7_perform_121 : decode cX7_perform 121 = .ok (.invokevirtual 61, 3) := by decide +kernel
theorem dX7_perform_124 : decode cX7_perform 124 = .ok (.istore_n 3, 1) := by decide +kernel
theorem dX7_perform_125 : decode cX7_perform 125 = .ok (.goto 42, 3) := by decide +kernel
theorem dX7_perform_128 : decode cX7_perform 128 = .ok (.aload_n 0, 1) := by decide +kernel
theorem dX7_perform_129 : decode cX7_perform 129 = .ok (.aload_n 1, 1) := by decide +kernel
theorem dX7_perform_130 : decode cX7_perform 130 = .ok (.invokevirtual 64, 3) := by decide +kernel
theorem dX7_perform_133 : decode cX7_perform 133 = .ok (.istore_n 3, 1) := by decide +kernel
theorem dX7_perform_134 : decode cX7_perform 134 = .ok (.goto 33, 3) := by decide +kernel
theorem dX7_perform_137 : decode cX7_perform 137 = .ok (.aload_n 0, 1) := by decide +kernel
theorem dX7_perform_138 : decode cX7_perform 138 = .ok (.aload_n 1, 1) := by decide +kernel
theorem dX7_perform_139 : decode cX7_perform 139 = .ok (.invokevirtual 67, 3) := by decide +kernel
theorem dX7_perform_142 : decode cX7_perform 142 = .ok (.istore_n 3, 1) := by decide +kernel
theorem dX7_perform_143 : decode cX7_perform 143 = .ok (.goto 24, 3) := by decide +kernel
theorem dX7_perform_146 : decode cX7_perform 146 = .ok (.aload_n 0, 1) := by decide +kernel
theorem dX7_perform_147 : decode cX7_perform 147 = .ok (.aload_n 1, 1) := by decide +kernel
theorem dX7_perform_148 : decode cX7_perform 148 = .ok (.invokevirtual 70, 3) := by decide +kernel
theorem dX7_perform_151 : decode cX7_perform 151 = .ok (.istore_n 3, 1) := by decide +kernel
theorem dX7_perform_152 : decode cX7_perform 152 = .ok (.goto 15, 3) := by decide +kernel
theorem dX7_perform_155 : decode cX7_perform 155 = .ok (.aload_n 0, 1) := by decide +kernel
theorem dX7_perform_156 : decode cX7_perform 156 = .ok (.aload_n 1, 1) := by decide +kernel
theorem dX7_perform_157 : decode cX7_perform 157 = .ok (.getfield 32, 3) := by decide +kernel
theorem dX7_perform_160 : decode cX7_perform 160 = .ok (.invokevirtual 73, 3) := by decide +kernel
theorem dX7_perform_163 : decode cX7_perform 163 = .ok (.istore_n 3, 1) := by decide +kernel
theorem dX7_perform_164 : decode cX7_perform 164 = .ok (.goto 3, 3) := by decide +kernel
theorem dX7_perform_167 : decode cX7_perform 167 = .ok (.aload_n 1, 1) := by decide +kernel
theorem dX7_perform_168 : decode cX7_perform 168 = .ok (.iload_n 2, 1) := by decide +kernel
theorem dX7_perform_169 : decode cX7_perform 169 = .ok (.iload_n 3, 1) := by decide +kernel
theorem dX7_perform_170 : decode cX7_perform 170 = .ok (.invokevirtual 76, 3) := by decide +kernel
theorem dX7_perform_173 : decode cX7_perform 173 = .ok (.iload_n 3, 1) := by decide +kernel
theorem dX7_perform_174 : decode cX7_perform 174 = .ok (.ireturn, 1) := by decide +kernel
abbrev mtX7_perform : mj_T := (yX7_perform.cls, cX7_perform, 4, (some .int), mj_no, yX7_perform.name)
abbrev kX7_perform (k0 : Nat) (k1 : Nat) (x2 : Int32) (g : mj_S) (M : mj_M) (q : Int32 → mj_M → Prop) : Prop := mj_CI yX7_perform (.code yX7_perform cX7_perform 4 (some .int)) 5 [.ref (k0), .ref (k1), .int (x2)] g M q
theorem kiX7_perform : mj_cV yX7_perform cX7_perform 4 (some .int) 2 := ⟨⟨wd_394, wd_395, wd_8, wd_396⟩, ⟨by decide +kernel, by decide +kernel, by decide +kernel⟩, Nat.le_of_ble_eq_true rfl⟩
theorem eX7_perform {k0 : Nat} {k1 : Nat} {x2 : Int32} {g : mj_S} {M : mj_M} {q : Int32 → mj_M → Prop} (h0 : is7 g k0) (h1 : is6 g k1) (h : ∃ (q1 : Int32 → mj_M → Prop), kX0_isContradictory (k1 + 1) g (M) q1 ∧ ∀ (v1 : Int32) (M1 : mj_M), q1 v1 M1 → ((¬ (v1 : Int32) = 0 → ∃ (q2 : mj_M → Prop), kX6_addToTotal (k1) (x2) (0) g (M1) q2 ∧ ∀ (M2 : mj_M), q2 M2 → (q (0) (M2))) ∧ ((v1 : Int32) = 0 → ((x2 : Int32) = 0 → ∃ (q3 : Int32 → mj_M → Prop), kX7_fixUnits (k0) (k1) g (M1) q3 ∧ ∀ (v3 : Int32) (M3 : mj_M), q3 v3 M3 → (∃ (q4 : mj_M → Prop), kX6_addToTotal (k1) (x2) (v3) g (M3) q4 ∧ ∀ (M4 : mj_M), q4 M4 → (q (v3) (M4)))) ∧ ((x2 : Int32) = 1 → ∃ (q5 : Int32 → mj_M → Prop), kX7_fixPureLiterals (k0) (k1) g (M1) q5 ∧ ∀ (v5 : Int32) (M5 : mj_M), q5 v5 M5 → (∃ (q6 : mj_M → Prop), kX6_addToTotal (k1) (x2) (v5) g (M5) q6 ∧ ∀ (M6 : mj_M), q6 M6 → (q (v5) (M6)))) ∧ ((x2 : Int32) = 2 → ∃ (q7 : Int32 → mj_M → Prop), kX7_removeSubsumed (k0) (k1 + 1) g (M1) q7 ∧ ∀ (v7 : Int32) (M7 : mj_M), q7 v7 M7 → (∃ (q8 : mj_M → Prop), kX6_addToTotal (k1) (x2) (v7) g (M7) q8 ∧ ∀ (M8 : mj_M), q8 M8 → (q (v7) (M8)))) ∧ ((x2 : Int32) = 3 → ∃ (q9 : Int32 → mj_M → Prop), kX7_strengthenAll (k0) (k1 + 1) g (M1) q9 ∧ ∀ (v9 : Int32) (M9 : mj_M), q9 v9 M9 → (∃ (q10 : mj_M → Prop), kX6_addToTotal (k1) (x2) (v9) g (M9) q10 ∧ ∀ (M10 : mj_M), q10 M10 → (q (v9) (M10)))) ∧ ((x2 : Int32) = 4 → ∃ (q11 : Int32 → mj_M → Prop), kX7_eliminateAll (k0) (k1) g (M1) q11 ∧ ∀ (v11 : Int32) (M11 : mj_M), q11 v11 M11 → (∃ (q12 : mj_M → Prop), kX6_addToTotal (k1) (x2) (v11) g (M11) q12 ∧ ∀ (M12 : mj_M), q12 M12 → (q (v11) (M12)))) ∧ ((x2 : Int32) = 5 → ∃ (q13 : Int32 → mj_M → Prop), kX7_removeBlocked (k0) (k1) g (M1) q13 ∧ ∀ (v13 : Int32) (M13 : mj_M), q13 v13 M13 → (∃ (q14 : mj_M → Prop), kX6_addToTotal (k1) (x2) (v13) g (M13) q14 ∧ ∀ (M14 : mj_M), q14 M14 → (q (v13) (M14)))) ∧ ((x2 : Int32) = 6 → ∃ (q15 : Int32 → mj_M → Prop), kX7_removeCovered (k0) (k1) g (M1) q15 ∧ ∀ (v15 : Int32) (M15 : mj_M), q15 v15 M15 → (∃ (q16 : mj_M → Prop), kX6_addToTotal (k1) (x2) (v15) g (M15) q16 ∧ ∀ (M16 : mj_M), q16 M16 → (q (v15) (M16)))) ∧ ((x2 : Int32) = 7 → ∃ (q17 : Int32 → mj_M → Prop), kX7_fixFailedLiterals (k0) (k1) g (M1) q17 ∧ ∀ (v17 : Int32) (M17 : mj_M), q17 v17 M17 → (∃ (q18 : mj_M → Prop), kX6_addToTotal (k1) (x2) (v17) g (M17) q18 ∧ ∀ (M18 : mj_M), q18 M18 → (q (v17) (M18)))) ∧ ((x2 : Int32) = 8 → ∃ (q19 : Int32 → mj_M → Prop), kX7_substituteAll (k0) (k1) g (M1) q19 ∧ ∀ (v19 : Int32) (M19 : mj_M), q19 v19 M19 → (∃ (q20 : mj_M → Prop), kX6_addToTotal (k1) (x2) (v19) g (M19) q20 ∧ ∀ (M20 : mj_M), q20 M20 → (q (v19) (M20)))) ∧ ((x2 : Int32) = 9 → ∃ (q21 : Int32 → mj_M → Prop), kX7_vivifyAll (k0) (k1 + 1) g (M1) q21 ∧ ∀ (v21 : Int32) (M21 : mj_M), q21 v21 M21 → (∃ (q22 : mj_M → Prop), kX6_addToTotal (k1) (x2) (v21) g (M21) q22 ∧ ∀ (M22 : mj_M), q22 M22 → (q (v21) (M22)))) ∧ (¬ (x2 : Int32) = 0 ∧ ¬ (x2 : Int32) = 1 ∧ ¬ (x2 : Int32) = 2 ∧ ¬ (x2 : Int32) = 3 ∧ ¬ (x2 : Int32) = 4 ∧ ¬ (x2 : Int32) = 5 ∧ ¬ (x2 : Int32) = 6 ∧ ¬ (x2 : Int32) = 7 ∧ ¬ (x2 : Int32) = 8 ∧ ¬ (x2 : Int32) = 9 → ∃ (q23 : mj_M → Prop), kX6_addToTotal (k1) (x2) (0) g (M1) q23 ∧ ∀ (M23 : mj_M), q23 M23 → (q (0) (M23)))))) : kX7_perform (k0) (k1) (x2) g M q := by
  intro d hd; refine mj_enter (by decide +kernel) (Nat.le_of_ble_eq_true rfl) ?_
  generalize (false : Bool) = ex
  show mj_G mtX7_perform (mj_rm d 0 0) (mj_Fi (mj_qI g q) mj_x0 0 0) ex 0 0 0 [(0, .ref (k0)), (1, .ref (k1)), (2, .int (x2))] [] g M
  refine mg_iconst (v := 0) dX7_perform_0 (by decide) ?_
  refine mg_istore_n (ls' := [(3, .int (0)), (0, .ref (k0)), (1, .ref (k1)), (2, .int (x2))]) dX7_perform_1 rfl (Nat.le_of_ble_eq_true rfl) rfl ?_
  refine mg_aload_n dX7_perform_2 rfl 2 rfl ?_
  refine mg_getR (j := 3) dX7_perform_3 kc_6 (Nat.le_of_ble_eq_true rfl) wd_74 rfl rfl h1.1.1 h1.1.2 h1.2.1.1 ?_
  obtain ⟨q1, hC, hk⟩ := h
  refine mc_Vi [] [] dX7_perform_6 wd_397 kiX0_isContradictory (Nat.le_of_ble_eq_true rfl) h1.2.1.2.1.1 h1.2.1.2.1.2 rfl (Nat.le_trans (Nat.le_of_ble_eq_true rfl) hd) hC (fun v1 M1 hq => ?_)
  replace h := hk v1 M1 hq
  refine mg_if_ne (tgt := 167) dX7_perform_9 (by decide) (fun hc => ?_) (fun hc => ?_)
  · replace h := h.1 hc
    refine mg_aload_n dX7_perform_167 rfl 2 rfl ?_
    refine mg_iload_n dX7_perform_168 rfl 3 rfl ?_
    refine mg_iload_n dX7_perform_169 rfl 0 rfl ?_
    obtain ⟨q2, hC, hk⟩ := h
    refine mc_Vv [.int (x2), .int (0)] [] dX7_perform_170 wd_633 kiX6_addToTotal (Nat.le_of_ble_eq_true rfl) h1.1.1 h1.1.2 rfl (Nat.le_trans (Nat.le_of_ble_eq_true rfl) hd) hC (fun M2 hq => ?_)
    replace h := hk M2 hq
    refine mg_iload_n dX7_perform_173 rfl 0 rfl ?_
    exact me_i dX7_perform_174 rfl h
  · replace h := h.2 hc
    refine mg_iload_n dX7_perform_12 rfl 3 rfl ?_
    by_cases e0 : (x2 : Int32) = 0
    · replace h := h.1 e0
      refine mg_tblC (off := 55) (tgt := 68) dX7_perform_13 e0 (by decide) (by decide) rfl (by decide) ?_
      refine mg_aload_n dX7_perform_68 rfl 1 rfl ?_
      refine mg_aload_n dX7_perform_69 rfl 2 rfl ?_
      obtain ⟨q3, hC, hk⟩ := h
      refine mc_Vi [.ref (k1)] [] dX7_perform_70 wd_398 kiX7_fixUnits (Nat.le_of_ble_eq_true rfl) h0.1.1 h0.1.2 rfl (Nat.le_trans (Nat.le_of_ble_eq_true rfl) hd) hC (fun v3 M3 hq => ?_)
      replace h := hk v3 M3 hq
      refine mg_istore_n (ls' := [(3, .int (v3)), (0, .ref (k0)), (1, .ref (k1)), (2, .int (x2))]) dX7_perform_73 rfl (Nat.le_of_ble_eq_true rfl) rfl ?_
      refine mg_goto (tgt := 167) dX7_perform_74 (by decide) ?_
      refine mg_aload_n dX7_perform_167 rfl 2 rfl ?_
      refine mg_iload_n dX7_perform_168 rfl 3 rfl ?_
      refine mg_iload_n dX7_perform_169 rfl 0 rfl ?_
      obtain ⟨q4, hC, hk⟩ := h
      refine mc_Vv [.int (x2), .int (v3)] [] dX7_perform_170 wd_633 kiX6_addToTotal (Nat.le_of_ble_eq_true rfl) h1.1.1 h1.1.2 rfl (Nat.le_trans (Nat.le_of_ble_eq_true rfl) hd) hC (fun M4 hq => ?_)
      replace h := hk M4 hq
      refine mg_iload_n dX7_perform_173 rfl 0 rfl ?_
      exact me_i dX7_perform_174 rfl h
    by_cases e1 : (x2 : Int32) = 1
    · replace h := h.2.1 e1
      refine mg_tblC (off := 64) (tgt := 77) dX7_perform_13 e1 (by decide) (by decide) rfl (by decide) ?_
      refine mg_aload_n dX7_perform_77 rfl 1 rfl ?_
      refine mg_aload_n dX7_perform_78 rfl 2 rfl ?_
      obtain ⟨q5, hC, hk⟩ := h
      refine mc_Vi [.ref (k1)] [] dX7_perform_79 wd_434 kiX7_fixPureLiterals (Nat.le_of_ble_eq_true rfl) h0.1.1 h0.1.2 rfl (Nat.le_trans (Nat.le_of_ble_eq_true rfl) hd) hC (fun v5 M5 hq => ?_)
      replace h := hk v5 M5 hq
      refine mg_istore_n (ls' := [(3, .int (v5)), (0, .ref (k0)), (1, .ref (k1)), (2, .int (x2))]) dX7_perform_82 rfl (Nat.le_of_ble_eq_true rfl) rfl ?_
      refine mg_goto (tgt := 167) dX7_perform_83 (by decide) ?_
      refine mg_aload_n dX7_perform_167 rfl 2 rfl ?_
      refine mg_iload_n dX7_perform_168 rfl 3 rfl ?_
      refine mg_iload_n dX7_perform_169 rfl 0 rfl ?_
      obtain ⟨q6, hC, hk⟩ := h
      refine mc_Vv [.int (x2), .int (v5)] [] dX7_perform_170 wd_633 kiX6_addToTotal (Nat.le_of_ble_eq_true rfl) h1.1.1 h1.1.2 rfl (Nat.le_trans (Nat.le_of_ble_eq_true rfl) hd) hC (fun M6 hq => ?_)
      replace h := hk M6 hq
      refine mg_iload_n dX7_perform_173 rfl 0 rfl ?_
      exact me_i dX7_perform_174 rfl h
    by_cases e2 : (x2 : Int32) = 2
    · replace h := h.2.2.1 e2
      refine mg_tblC (off := 73) (tgt := 86) dX7_perform_13 e2 (by decide) (by decide) rfl (by decide) ?_
      refine mg_aload_n dX7_perform_86 rfl 1 rfl ?_
      refine mg_aload_n dX7_perform_87 rfl 2 rfl ?_
      refine mg_getR (j := 3) dX7_perform_88 kc_6 (Nat.le_of_ble_eq_true rfl) wd_74 rfl rfl h1.1.1 h1.1.2 h1.2.1.1 ?_
      obtain ⟨q7, hC, hk⟩ := h
      refine mc_Vi [.ref (k1 + 1)] [] dX7_perform_91 wd_446 kiX7_removeSubsumed (Nat.le_of_ble_eq_true rfl) h0.1.1 h0.1.2 rfl (Nat.le_trans (Nat.le_of_ble_eq_true rfl) hd) hC (fun v7 M7 hq => ?_)
      replace h := hk v7 M7 hq
      refine mg_istore_n (ls' := [(3, .int (v7)), (0, .ref (k0)), (1, .ref (k1)), (2, .int (x2))]) dX7_perform_94 rfl (Nat.le_of_ble_eq_true rfl) rfl ?_
      refine mg_goto (tgt := 167) dX7_perform_95 (by decide) ?_
      refine mg_aload_n dX7_perform_167 rfl 2 rfl ?_
      refine mg_iload_n dX7_perform_168 rfl 3 rfl ?_
      refine mg_iload_n dX7_perform_169 rfl 0 rfl ?_
      obtain ⟨q8, hC, hk⟩ := h
      refine mc_Vv [.int (x2), .int (v7)] [] dX7_perform_170 wd_633 kiX6_addToTotal (Nat.le_of_ble_eq_true rfl) h1.1.1 h1.1.2 rfl (Nat.le_trans (Nat.le_of_ble_eq_true rfl) hd) hC (fun M8 hq => ?_)
      replace h := hk M8 hq
      refine mg_iload_n dX7_perform_173 rfl 0 rfl ?_
      exact me_i dX7_perform_174 rfl h
    by_cases e3 : (x2 : Int32) = 3
    · replace h := h.2.2.2.1 e3
      refine mg_tblC (off := 85) (tgt := 98) dX7_perform_13 e3 (by decide) (by decide) rfl (by decide) ?_
      refine mg_aload_n dX7_perform_98 rfl 1 rfl ?_
      refine mg_aload_n dX7_perform_99 rfl 2 rfl ?_
      refine mg_getR (j := 3) dX7_perform_100 kc_6 (Nat.le_of_ble_eq_true rfl) wd_74 rfl rfl h1.1.1 h1.1.2 h1.2.1.1 ?_
      obtain ⟨q9, hC, hk⟩ := h
      refine mc_Vi [.ref (k1 + 1)] [] dX7_perform_103 wd_458 kiX7_strengthenAll (Nat.le_of_ble_eq_true rfl) h0.1.1 h0.1.2 rfl (Nat.le_trans (Nat.le_of_ble_eq_true rfl) hd) hC (fun v9 M9 hq => ?_)
      replace h := hk v9 M9 hq
      refine mg_istore_n (ls' := [(3, .int (v9)), (0, .ref (k0)), (1, .ref (k1)), (2, .int (x2))]) dX7_perform_106 rfl (Nat.le_of_ble_eq_true rfl) rfl ?_
      refine mg_goto (tgt := 167) dX7_perform_107 (by decide) ?_
      refine mg_aload_n dX7_perform_167 rfl 2 rfl ?_
      refine mg_iload_n dX7_perform_168 rfl 3 rfl ?_
      refine mg_iload_n dX7_perform_169 rfl 0 rfl ?_
      obtain ⟨q10, hC, hk⟩ := h
      refine mc_Vv [.int (x2), .int (v9)] [] dX7_perform_170 wd_633 kiX6_addToTotal (Nat.le_of_ble_eq_true rfl) h1.1.1 h1.1.2 rfl (Nat.le_trans (Nat.le_of_ble_eq_true rfl) hd) hC (fun M10 hq => ?_)
      replace h := hk M10 hq
      refine mg_iload_n dX7_perform_173 rfl 0 rfl ?_
      exact me_i dX7_perform_174 rfl h
    by_cases e4 : (x2 : Int32) = 4
    · replace h := h.2.2.2.2.1 e4
      refine mg_tblC (off := 97) (tgt := 110) dX7_perform_13 e4 (by decide) (by decide) rfl (by decide) ?_
      refine mg_aload_n dX7_perform_110 rfl 1 rfl ?_
      refine mg_aload_n dX7_perform_111 rfl 2 rfl ?_
      obtain ⟨q11, hC, hk⟩ := h
      refine mc_Vi [.ref (k1)] [] dX7_perform_112 wd_482 kiX7_eliminateAll (Nat.le_of_ble_eq_true rfl) h0.1.1 h0.1.2 rfl (Nat.le_trans (Nat.le_of_ble_eq_true rfl) hd) hC (fun v11 M11 hq => ?_)
      replace h := hk v11 M11 hq
      refine mg_istore_n (ls' := [(3, .int (v11)), (0, .ref (k0)), (1, .ref (k1)), (2, .int (x2))]) dX7_perform_115 rfl (Nat.le_of_ble_eq_true rfl) rfl ?_
      refine mg_goto (tgt := 167) dX7_perform_116 (by decide) ?_
      refine mg_aload_n dX7_perform_167 rfl 2 rfl ?_
      refine mg_iload_n dX7_perform_168 rfl 3 rfl ?_
      refine mg_iload_n dX7_perform_169 rfl 0 rfl ?_
      obtain ⟨q12, hC, hk⟩ := h
      refine mc_Vv [.int (x2), .int (v11)] [] dX7_perform_170 wd_633 kiX6_addToTotal (Nat.le_of_ble_eq_true rfl) h1.1.1 h1.1.2 rfl (Nat.le_trans (Nat.le_of_ble_eq_true rfl) hd) hC (fun M12 hq => ?_)
      replace h := hk M12 hq
      refine mg_iload_n dX7_perform_173 rfl 0 rfl ?_
      exact me_i dX7_perform_174 rfl h
    by_cases e5 : (x2 : Int32) = 5
    · replace h := h.2.2.2.2.2.1 e5
      refine mg_tblC (off := 106) (tgt := 119) dX7_perform_13 e5 (by decide) (by decide) rfl (by decide) ?_
      refine mg_aload_n dX7_perform_119 rfl 1 rfl ?_
      refine mg_aload_n dX7_perform_120 rfl 2 rfl ?_
      obtain ⟨q13, hC, hk⟩ := h
      refine mc_Vi [.ref (k1)] [] dX7_perform_121 wd_528 kiX7_removeBlocked (Nat.le_of_ble_eq_true rfl) h0.1.1 h0.1.2 rfl (Nat.le_trans (Nat.le_of_ble_eq_true rfl) hd) hC (fun v13 M13 hq => ?_)
      replace h := hk v13 M13 hq
      refine mg_istore_n (ls' := [(3, .int (v13)), (0, .ref (k0)), (1, .ref (k1)), (2, .int (x2))]) dX7_perform_124 rfl (Nat.le_of_ble_eq_true rfl) rfl ?_
      refine mg_goto (tgt := 167) dX7_perform_125 (by decide) ?_
      refine mg_aload_n dX7_perform_167 rfl 2 rfl ?_
      refine mg_iload_n dX7_perform_168 rfl 3 rfl ?_
      refine mg_iload_n dX7_perform_169 rfl 0 rfl ?_
      obtain ⟨q14, hC, hk⟩ := h
      refine mc_Vv [.int (x2), .int (v13)] [] dX7_perform_170 wd_633 kiX6_addToTotal (Nat.le_of_ble_eq_true rfl) h1.1.1 h1.1.2 rfl (Nat.le_trans (Nat.le_of_ble_eq_true rfl) hd) hC (fun M14 hq => ?_)
      replace h := hk M14 hq
      refine mg_iload_n dX7_perform_173 rfl 0 rfl ?_
      exact me_i dX7_perform_174 rfl h
    by_cases e6 : (x2 : Int32) = 6
    · replace h := h.2.2.2.2.2.2.1 e6
      refine mg_tblC (off := 115) (tgt := 128) dX7_perform_13 e6 (by decide) (by decide) rfl (by decide) ?_
      refine mg_aload_n dX7_perform_128 rfl 1 rfl ?_
      refine mg_aload_n dX7_perform_129 rfl 2 rfl ?_
      obtain ⟨q15, hC, hk⟩ := h
      refine mc_Vi [.ref (k1)] [] dX7_perform_130 wd_545 kiX7_removeCovered (Nat.le_of_ble_eq_true rfl) h0.1.1 h0.1.2 rfl (Nat.le_trans (Nat.le_of_ble_eq_true rfl) hd) hC (fun v15 M15 hq => ?_)
      replace h := hk v15 M15 hq
      refine mg_istore_n (ls' := [(3, .int (v15)), (0, .ref (k0)), (1, .ref (k1)), (2, .int (x2))]) dX7_perform_133 rfl (Nat.le_of_ble_eq_true rfl) rfl ?_
      refine mg_goto (tgt := 167) dX7_perform_134 (by decide) ?_
      refine mg_aload_n dX7_perform_167 rfl 2 rfl ?_
      refine mg_iload_n dX7_perform_168 rfl 3 rfl ?_
      refine mg_iload_n dX7_perform_169 rfl 0 rfl ?_
      obtain ⟨q16, hC, hk⟩ := h
      refine mc_Vv [.int (x2), .int (v15)] [] dX7_perform_170 wd_633 kiX6_addToTotal (Nat.le_of_ble_eq_true rfl) h1.1.1 h1.1.2 rfl (Nat.le_trans (Nat.le_of_ble_eq_true rfl) hd) hC (fun M16 hq => ?_)
      replace h := hk M16 hq
      refine mg_iload_n dX7_perform_173 rfl 0 rfl ?_
      exact me_i dX7_perform_174 rfl h
    by_cases e7 : (x2 : Int32) = 7
    · replace h := h.2.2.2.2.2.2.2.1 e7
      refine mg_tblC (off := 124) (tgt := 137) dX7_perform_13 e7 (by decide) (by decide) rfl (by decide) ?_
      refine mg_aload_n dX7_perform_137 rfl 1 rfl ?_
      refine mg_aload_n dX7_perform_138 rfl 2 rfl ?_
      obtain ⟨q17, hC, hk⟩ := h
      refine mc_Vi [.ref (k1)] [] dX7_perform_139 wd_575 kiX7_fixFailedLiterals (Nat.le_of_ble_eq_true rfl) h0.1.1 h0.1.2 rfl (Nat.le_trans (Nat.le_of_ble_eq_true rfl) hd) hC (fun v17 M17 hq => ?_)
      replace h := hk v17 M17 hq
      refine mg_istore_n (ls' := [(3, .int (v17)), (0, .ref (k0)), (1, .ref (k1)), (2, .int (x2))]) dX7_perform_142 rfl (Nat.le_of_ble_eq_true rfl) rfl ?_
      refine mg_goto (tgt := 167) dX7_perform_143 (by decide) ?_
      refine mg_aload_n dX7_perform_167 rfl 2 rfl ?_
      refine mg_iload_n dX7_perform_168 rfl 3 rfl ?_
      refine mg_iload_n dX7_perform_169 rfl 0 rfl ?_
      obtain ⟨q18, hC, hk⟩ := h
      refine mc_Vv [.int (x2), .int (v17)] [] dX7_perform_170 wd_633 kiX6_addToTotal (Nat.le_of_ble_eq_true rfl) h1.1.1 h1.1.2 rfl (Nat.le_trans (Nat.le_of_ble_eq_true rfl) hd) hC (fun M18 hq => ?_)
      replace h := hk M18 hq
      refine mg_iload_n dX7_perform_173 rfl 0 rfl ?_
      exact me_i dX7_perform_174 rfl h
    by_cases e8 : (x2 : Int32) = 8
    · replace h := h.2.2.2.2.2.2.2.2.1 e8
      refine mg_tblC (off := 133) (tgt := 146) dX7_perform_13 e8 (by decide) (by decide) rfl (by decide) ?_
      refine mg_aload_n dX7_perform_146 rfl 1 rfl ?_
      refine mg_aload_n dX7_perform_147 rfl 2 rfl ?_
      obtain ⟨q19, hC, hk⟩ := h
      refine mc_Vi [.ref (k1)] [] dX7_perform_148 wd_583 kiX7_substituteAll (Nat.le_of_ble_eq_true rfl) h0.1.1 h0.1.2 rfl (Nat.le_trans (Nat.le_of_ble_eq_true rfl) hd) hC (fun v19 M19 hq => ?_)
      replace h := hk v19 M19 hq
      refine mg_istore_n (ls' := [(3, .int (v19)), (0, .ref (k0)), (1, .ref (k1)), (2, .int (x2))]) dX7_perform_151 rfl (Nat.le_of_ble_eq_true rfl) rfl ?_
      refine mg_goto (tgt := 167) dX7_perform_152 (by decide) ?_
      refine mg_aload_n dX7_perform_167 rfl 2 rfl ?_
      refine mg_iload_n dX7_perform_168 rfl 3 rfl ?_
      refine mg_iload_n dX7_perform_169 rfl 0 rfl ?_
      obtain ⟨q20, hC, hk⟩ := h
      refine mc_Vv [.int (x2), .int (v19)] [] dX7_perform_170 wd_633 kiX6_addToTotal (Nat.le_of_ble_eq_true rfl) h1.1.1 h1.1.2 rfl (Nat.le_trans (Nat.le_of_ble_eq_true rfl) hd) hC (fun M20 hq => ?_)
      replace h := hk M20 hq
      refine mg_iload_n dX7_perform_173 rfl 0 rfl ?_
      exact me_i dX7_perform_174 rfl h
    by_cases e9 : (x2 : Int32) = 9
    · replace h := h.2.2.2.2.2.2.2.2.2.1 e9
      refine mg_tblC (off := 142) (tgt := 155) dX7_perform_13 e9 (by decide) (by decide) rfl (by decide) ?_
      refine mg_aload_n dX7_perform_155 rfl 1 rfl ?_
      refine mg_aload_n dX7_perform_156 rfl 2 rfl ?_
      refine mg_getR (j := 3) dX7_perform_157 kc_6 (Nat.le_of_ble_eq_true rfl) wd_74 rfl rfl h1.1.1 h1.1.2 h1.2.1.1 ?_
      obtain ⟨q21, hC, hk⟩ := h
      refine mc_Vi [.ref (k1 + 1)] [] dX7_perform_160 wd_625 kiX7_vivifyAll (Nat.le_of_ble_eq_true rfl) h0.1.1 h0.1.2 rfl (Nat.le_trans (Nat.le_of_ble_eq_true rfl) hd) hC (fun v21 M21 hq => ?_)
      replace h := hk v21 M21 hq
      refine mg_istore_n (ls' := [(3, .int (v21)), (0, .ref (k0)), (1, .ref (k1)), (2, .int (x2))]) dX7_perform_163 rfl (Nat.le_of_ble_eq_true rfl) rfl ?_
      refine mg_goto (tgt := 167) dX7_perform_164 (by decide) ?_
      refine mg_aload_n dX7_perform_167 rfl 2 rfl ?_
      refine mg_iload_n dX7_perform_168 rfl 3 rfl ?_
      refine mg_iload_n dX7_perform_169 rfl 0 rfl ?_
      obtain ⟨q22, hC, hk⟩ := h
      refine mc_Vv [.int (x2), .int (v21)] [] dX7_perform_170 wd_633 kiX6_addToTotal (Nat.le_of_ble_eq_true rfl) h1.1.1 h1.1.2 rfl (Nat.le_trans (Nat.le_of_ble_eq_true rfl) hd) hC (fun M22 hq => ?_)
      replace h := hk M22 hq
      refine mg_iload_n dX7_perform_173 rfl 0 rfl ?_
      exact me_i dX7_perform_174 rfl h
    replace h := h.2.2.2.2.2.2.2.2.2.2 ⟨e0, e1, e2, e3, e4, e5, e6, e7, e8, e9⟩
    refine mg_tblD (tgt := 167) [0, 1, 2, 3, 4, 5, 6, 7, 8, 9] dX7_perform_13 (by decide) (by decide) (List.forall_mem_cons.mpr ⟨mj_neT e0 rfl, List.forall_mem_cons.mpr ⟨mj_neT e1 rfl, List.forall_mem_cons.mpr ⟨mj_neT e2 rfl, List.forall_mem_cons.mpr ⟨mj_neT e3 rfl, List.forall_mem_cons.mpr ⟨mj_neT e4 rfl, List.forall_mem_cons.mpr ⟨mj_neT e5 rfl, List.forall_mem_cons.mpr ⟨mj_neT e6 rfl, List.forall_mem_cons.mpr ⟨mj_neT e7 rfl, List.forall_mem_cons.mpr ⟨mj_neT e8 rfl, List.forall_mem_cons.mpr ⟨mj_neT e9 rfl, fun _ h9 => nomatch h9⟩⟩⟩⟩⟩⟩⟩⟩⟩⟩) (by decide) ?_
    refine mg_aload_n dX7_perform_167 rfl 2 rfl ?_
    refine mg_iload_n dX7_perform_168 rfl 3 rfl ?_
    refine mg_iload_n dX7_perform_169 rfl 0 rfl ?_
    obtain ⟨q23, hC, hk⟩ := h
    refine mc_Vv [.int (x2), .int (0)] [] dX7_perform_170 wd_633 kiX6_addToTotal (Nat.le_of_ble_eq_true rfl) h1.1.1 h1.1.2 rfl (Nat.le_trans (Nat.le_of_ble_eq_true rfl) hd) hC (fun M23 hq => ?_)
    replace h := hk M23 hq
    refine mg_iload_n dX7_perform_173 rfl 0 rfl ?_
    exact me_i dX7_perform_174 rfl h
