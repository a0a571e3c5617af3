def LL_23 (b L : Nat) (xs : Nat → Int32) (k1 k2 k3 : Nat) (x4 : Int32) (bc bs : Nat) (g : mj_S) (M : mj_M) : Prop := mj_G (mj_mtL b L xs) room_1 (mj_FL b) false bc bs 23 [(0, .ref 900001), (1, .ref k1), (2, .ref k2), (3, .ref k3), (4, .int x4)] [] g M
theorem eL_law {b L : Nat} {xs : Nat → Int32} {g : mj_S} {M : mj_M} (h : (1 ≤ 601024 ∧ 8 ≤ 7293034 ∧ (g).1 + 1 ≤ 900000) ∧ (∀ a1 : Nat, a1 = g.1 → ∀ g1, g1 = mj_gA (g) (0, 9, 0) → ∀ M1, M1 = mj_mZ (M) a1 → ∃ q2 : mj_S → mj_M → Prop, (97 ≤ 601024 - 1 ∧ 4123 ≤ 7293034 - 8) ∧ kX9_init (a1) (g1) (M1) q2 ∧ ∀ (g2 : mj_S) (M2 : mj_M), q2 g2 M2 → ((1 ≤ 601024 - 1 - 97 ∧ 28 ≤ 7293034 - 8 - 4123 ∧ (g2).1 + 1 ≤ 900000) ∧ (∀ a3 : Nat, a3 = g2.1 → ∀ g3, g3 = mj_gA (g2) (0, 10, 0) → ∀ M3, M3 = mj_mZ (M2) a3 → ∃ q4 : mj_S → mj_M → Prop, (11 ≤ 601024 - 1 - 97 - 1 ∧ 4248 ≤ 7293034 - 8 - 4123 - 28) ∧ kX10_init (a3) (g3) (M3) q4 ∧ ∀ (g4 : mj_S) (M4 : mj_M), q4 g4 M4 → ((¬ (1 : Int32) < 0 ∧ Int32.toNatClampNeg (1 : Int32) = 1 ∧ 1 ≤ 100000 ∧ 1 ≤ 601024 - 1 - 97 - 1 - 11 ∧ 1 ≤ 7293034 - 8 - 4123 - 28 - 4248 ∧ (g4).1 + 1 ≤ 900000) ∧ (∀ a5 : Nat, a5 = g4.1 → ∀ g5, g5 = mj_gA (g4) (1, 2, 1) → ∀ M5, M5 = mj_mZ (M4) a5 → LL_23 b L xs (a1) (a3) (a5) (0) (601024 - 1 - 97 - 1 - 11 - 1) (7293034 - 8 - 4123 - 28 - 4248 - (1)) (g5) (M5))))))) : mj_G (mj_mtL b L xs) room_1 (mj_FL b) true 601024 7293034 0 [(0, .ref 900001)] [] g M := by
  obtain ⟨⟨hb1, hb2, hb3⟩, h⟩ := h
  refine mg_new dL_law_0 kc_9 wd_25 wd_26 wd_1 hb1 hb2 hb3 ?_
  obtain ⟨a1, ea1⟩ : ∃ z, z = g.1 := ⟨_, rfl⟩
  rw [← ea1]
  obtain ⟨g1, eg1⟩ : ∃ z, z = mj_gA (g) (0, 9, 0) := ⟨_, rfl⟩
  rw [← eg1]
  obtain ⟨M1, eM1⟩ : ∃ z, z = mj_mZ (M) a1 := ⟨_, rfl⟩
  rw [← eM1]
  replace h := h a1 ea1 g1 eg1 M1 eM1
  refine mg_dup dL_law_3 rfl ?_
  obtain ⟨q2, hb, hC, hk⟩ := h
  refine mn_I [] [.ref (a1)] dL_law_4 wd_27 rfl wd_28 wd_1 wd_29 ⟨by decide +kernel, by decide +kernel, by decide +kernel⟩ ⟨Nat.le_of_ble_eq_true rfl, Nat.le_of_ble_eq_true rfl⟩ (Nat.le_of_ble_eq_true rfl) hb hC (fun g2 M2 hq => ?_)
  replace h := hk g2 M2 hq
  refine mg_astore_n (ls' := [(1, .ref (a1)), (0, .ref (900001))]) dL_law_7 rfl (Nat.le_of_ble_eq_true rfl) rfl ?_
  obtain ⟨⟨hb1, hb2, hb3⟩, h⟩ := h
  refine mg_new dL_law_8 kc_10 wd_1245 wd_1246 wd_12 hb1 hb2 hb3 ?_
  obtain ⟨a3, ea3⟩ : ∃ z, z = g2.1 := ⟨_, rfl⟩
  rw [← ea3]
  obtain ⟨g3, eg3⟩ : ∃ z, z = mj_gA (g2) (0, 10, 0) := ⟨_, rfl⟩
  rw [← eg3]
  obtain ⟨M3, eM3⟩ : ∃ z, z = mj_mZ (M2) a3 := ⟨_, rfl⟩
  rw [← eM3]
  replace h := h a3 ea3 g3 eg3 M3 eM3
  refine mg_dup dL_law_11 rfl ?_
  obtain ⟨q4, hb, hC, hk⟩ := h
  refine mn_I [] [.ref (a3)] dL_law_12 wd_1247 rfl wd_1248 wd_12 wd_1249 ⟨by decide +kernel, by decide +kernel, by decide +kernel⟩ ⟨Nat.le_of_ble_eq_true rfl, Nat.le_of_ble_eq_true rfl⟩ (Nat.le_of_ble_eq_true rfl) hb hC (fun g4 M4 hq => ?_)
  replace h := hk g4 M4 hq
  refine mg_astore_n (ls' := [(2, .ref (a3)), (1, .ref (a1)), (0, .ref (900001))]) dL_law_15 rfl (Nat.le_of_ble_eq_true rfl) rfl ?_
  refine mg_iconst (v := 1) dL_law_16 (by decide) ?_
  obtain ⟨⟨hn, hN, hb0, hb1, hb2, hb3⟩, h⟩ := h
  refine mg_newarr (t := 2) (N := 1) dL_law_17 (Or.inr (Or.inr ⟨rfl, rfl⟩)) wd_1842 hn hN hb0 hb1 hb2 hb3 ?_
  obtain ⟨a5, ea5⟩ : ∃ z, z = g4.1 := ⟨_, rfl⟩
  rw [← ea5]
  obtain ⟨g5, eg5⟩ : ∃ z, z = mj_gA (g4) (1, 2, 1) := ⟨_, rfl⟩
  rw [← eg5]
  obtain ⟨M5, eM5⟩ : ∃ z, z = mj_mZ (M4) a5 := ⟨_, rfl⟩
  rw [← eM5]
  replace h := h a5 ea5 g5 eg5 M5 eM5
  refine mg_astore_n (ls' := [(3, .ref (a5)), (2, .ref (a3)), (1, .ref (a1)), (0, .ref (900001))]) dL_law_19 rfl (Nat.le_of_ble_eq_true rfl) rfl ?_
  refine mg_iconst (v := 0) dL_law_20 (by decide) ?_
  refine mg_istore (ls' := [(4, .int (0)), (3, .ref (a5)), (2, .ref (a3)), (1, .ref (a1)), (0, .ref (900001))]) dL_law_21 (Nat.le_of_ble_eq_true rfl) rfl ?_
  refine mg_exF ?_
  exact mg_pick [4, 3, 2, 1, 0] rfl h
theorem cL_law_0 {b L : Nat} {xs : Nat → Int32} {k1 k2 k3 : Nat} {x4 : Int32} {bc bs : Nat} {g : mj_S} {M : mj_M} (h1 : is9 g k1) (h2 : is10 g k2) (h3 : k3 < g.1 ∧ g.2.1 k3 = (1, 2, 1)) (hb1 : 8 ≤ bc) (hb2 : 48 ≤ bs) (h : vp_in ((x4) + (1 : Int32)) L ∧ (∃ (q1 : Int32 → mj_M → Prop), kL_reset (k1) (xs (Int32.toNatClampNeg ((x4) + (1 : Int32)))) (k3) g (M) q1 ∧ ∀ (v1 : Int32) (M1 : mj_M), q1 v1 M1 → (vp_in ((x4) + (1 : Int32)) L ∧ (∃ (q2 : Int32 → mj_M → Prop), kX10_reset (k2) (xs (Int32.toNatClampNeg ((x4) + (1 : Int32)))) g (M1) q2 ∧ ∀ (v2 : Int32) (M2 : mj_M), q2 v2 M2 → (∃ (q3 : Int32 → mj_M → Prop), kX10_thrown (k2) g (M2) q3 ∧ ∀ (v3 : Int32) (M3 : mj_M), q3 v3 M3 → (((v3 : Int32) = (v1) → (¬ (v1 : Int32) = 0 → LL_23 b L xs k1 k2 k3 (x4 + 4) (bc - 8) (bs - 48) g (M3)) ∧ ((v1 : Int32) = 0 → ((lg_cmp ((M3).2.1 (k3) (Int32.toNatClampNeg (0))) (Int32.toInt64 (v2)) : Int32) = 0 → LL_23 b L xs k1 k2 k3 (x4 + 4) (bc - 8) (bs - 48) g (M3)) ∧ (¬ (lg_cmp ((M3).2.1 (k3) (Int32.toNatClampNeg (0))) (Int32.toInt64 (v2)) : Int32) = 0 → False))) ∧ (¬ (v3 : Int32) = (v1) → False))))))) : mj_G (mj_mtL b L xs) room_1 (mj_FL b) false bc bs 220 [(0, .ref (900001)), (1, .ref (k1)), (2, .ref (k2)), (3, .ref (k3)), (4, .int (x4))] [] g M := by
  refine mg_aload_n dL_law_220 rfl 1 rfl ?_
  refine mg_aload_n dL_law_221 rfl 0 rfl ?_
  refine mg_iload dL_law_222 4 rfl ?_
  refine mg_iconst (v := 1) dL_law_224 (by decide) ?_
  refine mg_iadd dL_law_225 ?_
  refine mg_sld (b := b) (L := L) (xs := xs) rfl dL_law_226 h.1 ?_
  replace h := h.2
  refine mg_aload_n dL_law_227 rfl 3 rfl ?_
  obtain ⟨q1, hC, hk⟩ := h
  refine mw_H2 [.ref (k1), .int (xs (Int32.toNatClampNeg ((x4) + (1 : Int32)))), .ref (k3)] [] dL_law_228 wd_669 kiL_reset ⟨Nat.le_of_ble_eq_true rfl, Nat.le_of_ble_eq_true rfl⟩ (Nat.le_of_ble_eq_true rfl) ⟨by omega, by omega⟩ hC (fun v1 M1 hq => ?_)
  replace h := hk v1 M1 hq
  refine mg_istore (ls' := [(5, .int (v1)), (0, .ref (900001)), (1, .ref (k1)), (2, .ref (k2)), (3, .ref (k3)), (4, .int (x4))]) dL_law_231 (Nat.le_of_ble_eq_true rfl) rfl ?_
  refine mg_aload_n dL_law_233 rfl 3 rfl ?_
  refine mg_aload_n dL_law_234 rfl 1 rfl ?_
  refine mg_iload dL_law_235 5 rfl ?_
  refine mg_iconst (v := 1) dL_law_237 (by decide) ?_
  refine mg_iadd dL_law_238 ?_
  refine mg_sld (b := b) (L := L) (xs := xs) rfl dL_law_239 h.1 ?_
  replace h := h.2
  obtain ⟨q2, hC, hk⟩ := h
  refine ml_Vi [.int (xs (Int32.toNatClampNeg ((x4) + (1 : Int32))))] [] dL_law_240 wd_1345 kiX10_reset (Nat.le_of_ble_eq_true rfl) h2.1.1 h2.1.2 rfl ⟨Nat.le_of_ble_eq_true rfl, Nat.le_of_ble_eq_true rfl⟩ hC (fun v2 M2 hq => ?_)
  replace h := hk v2 M2 hq
  refine mg_istore (ls' := [(6, .int (v2)), (5, .int (v1)), (0, .ref (900001)), (1, .ref (k1)), (2, .ref (k2)), (3, .ref (k3)), (4, .int (x4))]) dL_law_243 (Nat.le_of_ble_eq_true rfl) rfl ?_
  refine mg_aload_n dL_law_245 rfl 4 rfl ?_
  obtain ⟨q3, hC, hk⟩ := h
  refine ml_Vi [] [] dL_law_246 wd_1341 kiX10_thrown (Nat.le_of_ble_eq_true rfl) h2.1.1 h2.1.2 rfl ⟨Nat.le_of_ble_eq_true rfl, Nat.le_of_ble_eq_true rfl⟩ hC (fun v3 M3 hq => ?_)
  replace h := hk v3 M3 hq
  refine mg_iload dL_law_249 1 rfl ?_
  refine mg_icmp_eq (tgt := 256) dL_law_251 (by decide) (fun hc => ?_) (fun hc => ?_)
  · replace h := h.1 hc
    refine mg_iload dL_law_256 1 rfl ?_
    refine mg_if_ne (tgt := 273) dL_law_258 (by decide) (fun hc => ?_) (fun hc => ?_)
    · replace h := h.1 hc
      refine mg_goto (tgt := 2408) dL_law_273 (by decide) ?_
      refine mg_iinc (v := x4 + 4) (ls' := [(4, .int (x4 + 4)), (6, .int (v2)), (5, .int (v1)), (0, .ref (900001)), (1, .ref (k1)), (2, .ref (k2)), (3, .ref (k3))]) dL_law_2408 6 rfl rfl (Nat.le_of_ble_eq_true rfl) rfl ?_
      refine mg_goto (tgt := 23) dL_law_2411 (by decide) ?_
      refine mg_bud (bc' := bc - 8) (bs' := bs - 48) (by omega) (by omega) ?_
      exact mg_pick [3, 4, 5, 6, 0] rfl h
    · replace h := h.2 hc
      refine mg_aload_n dL_law_261 rfl 5 rfl ?_
      refine mg_iconst (v := 0) dL_law_262 (by decide) ?_
      refine mg_lald dL_law_263 h3.1 h3.2 (vp_in_nI (n := 0) (Nat.le_of_ble_eq_true rfl) (Nat.le_of_ble_eq_true rfl)) rfl ?_
      refine mg_iload dL_law_264 0 rfl ?_
      refine mg_i2l dL_law_266 ?_
      refine mg_lcmp dL_law_267 ?_
      refine mg_if_eq (tgt := 273) dL_law_268 (by decide) (fun hc => ?_) (fun hc => ?_)
      · replace h := h.1 hc
        refine mg_goto (tgt := 2408) dL_law_273 (by decide) ?_
        refine mg_iinc (v := x4 + 4) (ls' := [(4, .int (x4 + 4)), (6, .int (v2)), (5, .int (v1)), (0, .ref (900001)), (1, .ref (k1)), (2, .ref (k2)), (3, .ref (k3))]) dL_law_2408 6 rfl rfl (Nat.le_of_ble_eq_true rfl) rfl ?_
        refine mg_goto (tgt := 23) dL_law_2411 (by decide) ?_
        refine mg_bud (bc' := bc - 8) (bs' := bs - 48) (by omega) (by omega) ?_
        exact mg_pick [3, 4, 5, 6, 0] rfl h
      · replace h := h.2 hc
        exact h.elim
  · replace h := h.2 hc
    exact h.elim
theorem cL_law_1 {b L : Nat} {xs : Nat → Int32} {k1 k2 k3 : Nat} {x4 : Int32} {bc bs : Nat} {g : mj_S} {M : mj_M} (h1 : is9 g k1) (h2 : is10 g k2) (h3 : k3 < g.1 ∧ g.2.1 k3 = (1, 2, 1)) (hb1 : 8 ≤ bc) (hb2 : 48 ≤ bs) (h : vp_in ((x4) + (1 : Int32)) L ∧ (vp_in ((x4) + (2 : Int32)) L ∧ (∃ (q1 : Int32 → mj_M → Prop), kL_addClause (k1) (xs (Int32.toNatClampNeg ((x4) + (1 : Int32)))) (xs (Int32.toNatClampNeg ((x4) + (2 : Int32)))) (k3) g (M) q1 ∧ ∀ (v1 : Int32) (M1 : mj_M), q1 v1 M1 → (vp_in ((x4) + (1 : Int32)) L ∧ (vp_in ((x4) + (2 : Int32)) L ∧ (∃ (q2 : Int32 → mj_M → Prop), kX10_addClause (k2) (xs (Int32.toNatClampNeg ((x4) + (1 : Int32)))) (xs (Int32.toNatClampNeg ((x4) + (2 : Int32)))) g (M1) q2 ∧ ∀ (v2 : Int32) (M2 : mj_M), q2 v2 M2 → (∃ (q3 : Int32 → mj_M → Prop), kX10_thrown (k2) g (M2) q3 ∧ ∀ (v3 : Int32) (M3 : mj_M), q3 v3 M3 → (((v3 : Int32) = (v1) → (¬ (v1 : Int32) = 0 → LL_23 b L xs k1 k2 k3 (x4 + 4) (bc - 8) (bs - 48) g (M3)) ∧ ((v1 : Int32) = 0 → ((lg_cmp ((M3).2.1 (k3) (Int32.toNatClampNeg (0))) (Int32.toInt64 (v2)) : Int32) = 0 → LL_23 b L xs k1 k2 k3 (x4 + 4) (bc - 8) (bs - 48) g (M3)) ∧ (¬ (lg_cmp ((M3).2.1 (k3) (Int32.toNatClampNeg (0))) (Int32.toInt64 (v2)) : Int32) = 0 → False))) ∧ (¬ (v3 : Int32) = (v1) → False))))))))) : mj_G (mj_mtL b L xs) room_1 (mj_FL b) false bc bs 276 [(0, .ref (900001)), (1, .ref (k1)), (2, .ref (k2)), (3, .ref (k3)), (4, .int (x4))] [] g M := by
  refine mg_aload_n dL_law_276 rfl 1 rfl ?_
  refine mg_aload_n dL_law_277 rfl 0 rfl ?_
  refine mg_iload dL_law_278 4 rfl ?_
  refine mg_iconst (v := 1) dL_law_280 (by decide) ?_
  refine mg_iadd dL_law_281 ?_
  refine mg_sld (b := b) (L := L) (xs := xs) rfl dL_law_282 h.1 ?_
  replace h := h.2
  refine mg_aload_n dL_law_283 rfl 0 rfl ?_
  refine mg_iload dL_law_284 4 rfl ?_
  refine mg_iconst (v := 2) dL_law_286 (by decide) ?_
  refine mg_iadd dL_law_287 ?_
  refine mg_sld (b := b) (L := L) (xs := xs) rfl dL_law_288 h.1 ?_
  replace h := h.2
  refine mg_aload_n dL_law_289 rfl 3 rfl ?_
  obtain ⟨q1, hC, hk⟩ := h
  refine mw_H2 [.ref (k1), .int (xs (Int32.toNatClampNeg ((x4) + (1 : Int32)))), .int (xs (Int32.toNatClampNeg ((x4) + (2 : Int32)))), .ref (k3)] [] dL_law_290 wd_750 kiL_addClause ⟨Nat.le_of_ble_eq_true rfl, Nat.le_of_ble_eq_true rfl⟩ (Nat.le_of_ble_eq_true rfl) ⟨by omega, by omega⟩ hC (fun v1 M1 hq => ?_)
  replace h := hk v1 M1 hq
  refine mg_istore (ls' := [(5, .int (v1)), (0, .ref (900001)), (1, .ref (k1)), (2, .ref (k2)), (3, .ref (k3)), (4, .int (x4))]) dL_law_293 (Nat.le_of_ble_eq_true rfl) rfl ?_
  refine mg_aload_n dL_law_295 rfl 3 rfl ?_
  refine mg_aload_n dL_law_296 rfl 1 rfl ?_
  refine mg_iload dL_law_297 5 rfl ?_
  refine mg_iconst (v := 1) dL_law_299 (by decide) ?_
  refine mg_iadd dL_law_300 ?_
  refine mg_sld (b := b) (L := L) (xs := xs) rfl dL_law_301 h.1 ?_
  replace h := h.2
  refine mg_aload_n dL_law_302 rfl 1 rfl ?_
  refine mg_iload dL_law_303 5 rfl ?_
  refine mg_iconst (v := 2) dL_law_305 (by decide) ?_
  refine mg_iadd dL_law_306 ?_
  refine mg_sld (b := b) (L := L) (xs := xs) rfl dL_law_307 h.1 ?_
  replace h := h.2
  obtain ⟨q2, hC, hk⟩ := h
  refine ml_Vi [.int (xs (Int32.toNatClampNeg ((x4) + (1 : Int32)))), .int (xs (Int32.toNatClampNeg ((x4) + (2 : Int32))))] [] dL_law_308 wd_1360 kiX10_addClause (Nat.le_of_ble_eq_true rfl) h2.1.1 h2.1.2 rfl ⟨Nat.le_of_ble_eq_true rfl, Nat.le_of_ble_eq_true rfl⟩ hC (fun v2 M2 hq => ?_)
  replace h := hk v2 M2 hq
  refine mg_istore (ls' := [(6, .int (v2)), (5, .int (v1)), (0, .ref (900001)), (1, .ref (k1)), (2, .ref (k2)), (3, .ref (k3)), (4, .int (x4))]) dL_law_311 (Nat.le_of_ble_eq_true rfl) rfl ?_
  refine mg_aload_n dL_law_313 rfl 4 rfl ?_
  obtain ⟨q3, hC, hk⟩ := h
  refine ml_Vi [] [] dL_law_314 wd_1341 kiX10_thrown (Nat.le_of_ble_eq_true rfl) h2.1.1 h2.1.2 rfl ⟨Nat.le_of_ble_eq_true rfl, Nat.le_of_ble_eq_true rfl⟩ hC (fun v3 M3 hq => ?_)
  replace h := hk v3 M3 hq
  refine mg_iload dL_law_317 1 rfl ?_
  refine mg_icmp_eq (tgt := 324) dL_law_319 (by decide) (fun hc => ?_) (fun hc => ?_)
  · replace h := h.1 hc
    refine mg_iload dL_law_324 1 rfl ?_
    refine mg_if_ne (tgt := 341) dL_law_326 (by decide) (fun hc => ?_) (fun hc => ?_)
    · replace h := h.1 hc
      refine mg_goto (tgt := 2408) dL_law_341 (by decide) ?_
      refine mg_iinc (v := x4 + 4) (ls' := [(4, .int (x4 + 4)), (6, .int (v2)), (5, .int (v1)), (0, .ref (900001)), (1, .ref (k1)), (2, .ref (k2)), (3, .ref (k3))]) dL_law_2408 6 rfl rfl (Nat.le_of_ble_eq_true rfl) rfl ?_
      refine mg_goto (tgt := 23) dL_law_2411 (by decide) ?_
      refine mg_bud (bc' := bc - 8) (bs' := bs - 48) (by omega) (by omega) ?_
      exact mg_pick [3, 4, 5, 6, 0] rfl h
    · replace h := h.2 hc
      refine mg_aload_n dL_law_329 rfl 5 rfl ?_
      refine mg_iconst (v := 0) dL_law_330 (by decide) ?_
      refine mg_lald dL_law_331 h3.1 h3.2 (vp_in_nI (n := 0) (Nat.le_of_ble_eq_true rfl) (Nat.le_of_ble_eq_true rfl)) rfl ?_
      refine mg_iload dL_law_332 0 rfl ?_
      refine mg_i2l dL_law_334 ?_
      refine mg_lcmp dL_law_335 ?_
      refine mg_if_eq (tgt := 341) dL_law_336 (by decide) (fun hc => ?_) (fun hc => ?_)
      · replace h := h.1 hc
        refine mg_goto (tgt := 2408) dL_law_341 (by decide) ?_
        refine mg_iinc (v := x4 + 4) (ls' := [(4, .int (x4 + 4)), (6, .int (v2)), (5, .int (v1)), (0, .ref (900001)), (1, .ref (k1)), (2, .ref (k2)), (3, .ref (k3))]) dL_law_2408 6 rfl rfl (Nat.le_of_ble_eq_true rfl) rfl ?_
        refine mg_goto (tgt := 23) dL_law_2411 (by decide) ?_
        refine mg_bud (bc' := bc - 8) (bs' := bs - 48) (by omega) (by omega) ?_
        exact mg_pick [3, 4, 5, 6, 0] rfl h
      · replace h := h.2 hc
        exact h.elim
  · replace h := h.2 hc
    exact h.elim
theorem cL_law_2 {b L : Nat} {xs : Nat → Int32} {k1 k2 k3 : Nat} {x4 : Int32} {bc bs : Nat} {g : mj_S} {M : mj_M} (h1 : is9 g k1) (h2 : is10 g k2) (h3 : k3 < g.1 ∧ g.2.1 k3 = (1, 2, 1)) (hb1 : 8 ≤ bc) (hb2 : 48 ≤ bs) (h : vp_in ((x4) + (1 : Int32)) L ∧ (vp_in ((x4) + (2 : Int32)) L ∧ (vp_in ((x4) + (3 : Int32)) L ∧ (∃ (q1 : Int32 → mj_M → Prop), kL_generate (k1) (xs (Int32.toNatClampNeg ((x4) + (1 : Int32)))) (xs (Int32.toNatClampNeg ((x4) + (2 : Int32)))) (xs (Int32.toNatClampNeg ((x4) + (3 : Int32)))) (k3) g (M) q1 ∧ ∀ (v1 : Int32) (M1 : mj_M), q1 v1 M1 → (vp_in ((x4) + (1 : Int32)) L ∧ (vp_in ((x4) + (2 : Int32)) L ∧ (vp_in ((x4) + (3 : Int32)) L ∧ (∃ (q2 : Int32 → mj_M → Prop), kX10_generate (k2) (xs (Int32.toNatClampNeg ((x4) + (1 : Int32)))) (xs (Int32.toNatClampNeg ((x4) + (2 : Int32)))) (xs (Int32.toNatClampNeg ((x4) + (3 : Int32)))) g (M1) q2 ∧ ∀ (v2 : Int32) (M2 : mj_M), q2 v2 M2 → (∃ (q3 : Int32 → mj_M → Prop), kX10_thrown (k2) g (M2) q3 ∧ ∀ (v3 : Int32) (M3 : mj_M), q3 v3 M3 → (((v3 : Int32) = (v1) → (¬ (v1 : Int32) = 0 → LL_23 b L xs k1 k2 k3 (x4 + 4) (bc - 8) (bs - 48) g (M3)) ∧ ((v1 : Int32) = 0 → ((lg_cmp ((M3).2.1 (k3) (Int32.toNatClampNeg (0))) (Int32.toInt64 (v2)) : Int32) = 0 → LL_23 b L xs k1 k2 k3 (x4 + 4) (bc - 8) (bs - 48) g (M3)) ∧ (¬ (lg_cmp ((M3).2.1 (k3) (Int32.toNatClampNeg (0))) (Int32.toInt64 (v2)) : Int32) = 0 → False))) ∧ (¬ (v3 : Int32) = (v1) → False))))))))))) : mj_G (mj_mtL b L xs) room_1 (mj_FL b) false bc bs 344 [(0, .ref (900001)), (1, .ref (k1)), (2, .ref (k2)), (3, .ref (k3)), (4, .int (x4))] [] g M := by
  refine mg_aload_n dL_law_344 rfl 1 rfl ?_
  refine mg_aload_n dL_law_345 rfl 0 rfl ?_
  refine mg_iload dL_law_346 4 rfl ?_
  refine mg_iconst (v := 1) dL_law_348 (by decide) ?_
  refine mg_iadd dL_law_349 ?_
  refine mg_sld (b := b) (L := L) (xs := xs) rfl dL_law_350 h.1 ?_
  replace h := h.2
  refine mg_aload_n dL_law_351 rfl 0 rfl ?_
  refine mg_iload dL_law_352 4 rfl ?_
  refine mg_iconst (v := 2) dL_law_354 (by decide) ?_
  refine mg_iadd dL_law_355 ?_
  refine mg_sld (b := b) (L := L) (xs := xs) rfl dL_law_356 h.1 ?_
  replace h := h.2
  refine mg_aload_n dL_law_357 rfl 0 rfl ?_
  refine mg_iload dL_law_358 4 rfl ?_
  refine mg_iconst (v := 3) dL_law_360 (by decide) ?_
  refine mg_iadd dL_law_361 ?_
  refine mg_sld (b := b) (L := L) (xs := xs) rfl dL_law_362 h.1 ?_
  replace h := h.2
  refine mg_aload_n dL_law_363 rfl 3 rfl ?_
  obtain ⟨q1, hC, hk⟩ := h
  refine mw_H2 [.ref (k1), .int (xs (Int32.toNatClampNeg ((x4) + (1 : Int32)))), .int (xs (Int32.toNatClampNeg ((x4) + (2 : Int32)))), .int (xs (Int32.toNatClampNeg ((x4) + (3 : Int32)))), .ref (k3)] [] dL_law_364 wd_785 kiL_generate ⟨Nat.le_of_ble_eq_true rfl, Nat.le_of_ble_eq_true rfl⟩ (Nat.le_of_ble_eq_true rfl) ⟨by omega, by omega⟩ hC (fun v1 M1 hq => ?_)
  replace h := hk v1 M1 hq
  refine mg_istore (ls' := [(5, .int (v1)), (0, .ref (900001)), (1, .ref (k1)), (2, .ref (k2)), (3, .ref (k3)), (4, .int (x4))]) dL_law_367 (Nat.le_of_ble_eq_true rfl) rfl ?_
  refine mg_aload_n dL_law_369 rfl 3 rfl ?_
  refine mg_aload_n dL_law_370 rfl 1 rfl ?_
  refine mg_iload dL_law_371 5 rfl ?_
  refine mg_iconst (v := 1) dL_law_373 (by decide) ?_
  refine mg_iadd dL_law_374 ?_
  refine mg_sld (b := b) (L := L) (xs := xs) rfl dL_law_375 h.1 ?_
  replace h := h.2
  refine mg_aload_n dL_law_376 rfl 1 rfl ?_
  refine mg_iload dL_law_377 5 rfl ?_
  refine mg_iconst (v := 2) dL_law_379 (by decide) ?_
  refine mg_iadd dL_law_380 ?_
  refine mg_sld (b := b) (L := L) (xs := xs) rfl dL_law_381 h.1 ?_
  replace h := h.2
  refine mg_aload_n dL_law_382 rfl 1 rfl ?_
  refine mg_iload dL_law_383 5 rfl ?_
  refine mg_iconst (v := 3) dL_law_385 (by decide) ?_
  refine mg_iadd dL_law_386 ?_
  refine mg_sld (b := b) (L := L) (xs := xs) rfl dL_law_387 h.1 ?_
  replace h := h.2
  obtain ⟨q2, hC, hk⟩ := h
  refine ml_Vi [.int (xs (Int32.toNatClampNeg ((x4) + (1 : Int32)))), .int (xs (Int32.toNatClampNeg ((x4) + (2 : Int32)))), .int (xs (Int32.toNatClampNeg ((x4) + (3 : Int32))))] [] dL_law_388 wd_1394 kiX10_generate (Nat.le_of_ble_eq_true rfl) h2.1.1 h2.1.2 rfl ⟨Nat.le_of_ble_eq_true rfl, Nat.le_of_ble_eq_true rfl⟩ hC (fun v2 M2 hq => ?_)
  replace h := hk v2 M2 hq
  refine mg_istore (ls' := [(6, .int (v2)), (5, .int (v1)), (0, .ref (900001)), (1, .ref (k1)), (2, .ref (k2)), (3, .ref (k3)), (4, .int (x4))]) dL_law_391 (Nat.le_of_ble_eq_true rfl) rfl ?_
  refine mg_aload_n dL_law_393 rfl 4 rfl ?_
  obtain ⟨q3, hC, hk⟩ := h
  refine ml_Vi [] [] dL_law_394 wd_1341 kiX10_thrown (Nat.le_of_ble_eq_true rfl) h2.1.1 h2.1.2 rfl ⟨Nat.le_of_ble_eq_true rfl, Nat.le_of_ble_eq_true rfl⟩ hC (fun v3 M3 hq => ?_)
  replace h := hk v3 M3 hq
  refine mg_iload dL_law_397 1 rfl ?_
  refine mg_icmp_eq (tgt := 404) dL_law_399 (by decide) (fun hc => ?_) (fun hc => ?_)
  · replace h := h.1 hc
    refine mg_iload dL_law_404 1 rfl ?_
    refine mg_if_ne (tgt := 421) dL_law_406 (by decide) (fun hc => ?_) (fun hc => ?_)
    · replace h := h.1 hc
      refine mg_goto (tgt := 2408) dL_law_421 (by decide) ?_
      refine mg_iinc (v := x4 + 4) (ls' := [(4, .int (x4 + 4)), (6, .int (v2)), (5, .int (v1)), (0, .ref (900001)), (1, .ref (k1)), (2, .ref (k2)), (3, .ref (k3))]) dL_law_2408 6 rfl rfl (Nat.le_of_ble_eq_true rfl) rfl ?_
      refine mg_goto (tgt := 23) dL_law_2411 (by decide) ?_
      refine mg_bud (bc' := bc - 8) (bs' := bs - 48) (by omega) (by omega) ?_
      exact mg_pick [3, 4, 5, 6, 0] rfl h
    · replace h := h.2 hc
      refine mg_aload_n dL_law_409 rfl 5 rfl ?_
      refine mg_iconst (v := 0) dL_law_410 (by decide) ?_
      refine mg_lald dL_law_411 h3.1 h3.2 (vp_in_nI (n := 0) (Nat.le_of_ble_eq_true rfl) (Nat.le_of_ble_eq_true rfl)) rfl ?_
      refine mg_iload dL_law_412 0 rfl ?_
      refine mg_i2l dL_law_414 ?_
      refine mg_lcmp dL_law_415 ?_
      refine mg_if_eq (tgt := 421) dL_law_416 (by decide) (fun hc => ?_) (fun hc => ?_)
      · replace h := h.1 hc
        refine mg_goto (tgt := 2408) dL_law_421 (by decide) ?_
        refine mg_iinc (v := x4 + 4) (ls' := [(4, .int (x4 + 4)), (6, .int (v2)), (5, .int (v1)), (0, .ref (900001)), (1, .ref (k1)), (2, .ref (k2)), (3, .ref (k3))]) dL_law_2408 6 rfl rfl (Nat.le_of_ble_eq_true rfl) rfl ?_
        refine mg_goto (tgt := 23) dL_law_2411 (by decide) ?_
        refine mg_bud (bc' := bc - 8) (bs' := bs - 48) (by omega) (by omega) ?_
        exact mg_pick [3, 4, 5, 6, 0] rfl h
      · replace h := h.2 hc
        exact h.elim
  · replace h := h.2 hc
    exact h.elim
theorem cL_law_3 {b L : Nat} {xs : Nat → Int32} {k1 k2 k3 : Nat} {x4 : Int32} {bc bs : Nat} {g : mj_S} {M : mj_M} (h1 : is9 g k1) (h2 : is10 g k2) (h3 : k3 < g.1 ∧ g.2.1 k3 = (1, 2, 1)) (hb1 : 8 ≤ bc) (hb2 : 48 ≤ bs) (h : ∃ (q1 : Int32 → mj_M → Prop), kX9_originalCount (k1) g (M) q1 ∧ ∀ (v1 : Int32) (M1 : mj_M), q1 v1 M1 → (∃ (q2 : Int32 → mj_M → Prop), kX10_originalCount (k2) g (M1) q2 ∧ ∀ (v2 : Int32) (M2 : mj_M), q2 v2 M2 → (((v1 : Int32) = (v2) → LL_23 b L xs k1 k2 k3 (x4 + 4) (bc - 8) (bs - 48) g (M2)) ∧ (¬ (v1 : Int32) = (v2) → False)))) : mj_G (mj_mtL b L xs) room_1 (mj_FL b) false bc bs 424 [(0, .ref (900001)), (1, .ref (k1)), (2, .ref (k2)), (3, .ref (k3)), (4, .int (x4))] [] g M := by
  refine mg_aload_n dL_law_424 rfl 1 rfl ?_
  obtain ⟨q1, hC, hk⟩ := h
  refine ml_Vi [] [] dL_law_425 wd_256 kiX9_originalCount (Nat.le_of_ble_eq_true rfl) h1.1.1 h1.1.2 rfl ⟨Nat.le_of_ble_eq_true rfl, Nat.le_of_ble_eq_true rfl⟩ hC (fun v1 M1 hq => ?_)
  replace h := hk v1 M1 hq
  refine mg_aload_n dL_law_428 rfl 2 rfl ?_
  obtain ⟨q2, hC, hk⟩ := h
  refine ml_Vi [] [.int (v1)] dL_law_429 wd_1410 kiX10_originalCount (Nat.le_of_ble_eq_true rfl) h2.1.1 h2.1.2 rfl ⟨Nat.le_of_ble_eq_true rfl, Nat.le_of_ble_eq_true rfl⟩ hC (fun v2 M2 hq => ?_)
  replace h := hk v2 M2 hq
  refine mg_icmp_eq (tgt := 2408) dL_law_432 (by decide) (fun hc => ?_) (fun hc => ?_)
  · replace h := h.1 hc
    refine mg_iinc (v := x4 + 4) (ls' := [(4, .int (x4 + 4)), (0, .ref (900001)), (1, .ref (k1)), (2, .ref (k2)), (3, .ref (k3))]) dL_law_2408 4 rfl rfl (Nat.le_of_ble_eq_true rfl) rfl ?_
    refine mg_goto (tgt := 23) dL_law_2411 (by decide) ?_
    refine mg_bud (bc' := bc - 8) (bs' := bs - 48) (by omega) (by omega) ?_
    exact mg_pick [1, 2, 3, 4, 0] rfl h
  · replace h := h.2 hc
    exact h.elim
theorem cL_law_4 {b L : Nat} {xs : Nat → Int32} {k1 k2 k3 : Nat} {x4 : Int32} {bc bs : Nat} {g : mj_S} {M : mj_M} (h1 : is9 g k1) (h2 : is10 g k2) (h3 : k3 < g.1 ∧ g.2.1 k3 = (1, 2, 1)) (hb1 : 8 ≤ bc) (hb2 : 48 ≤ bs) (h : vp_in ((x4) + (1 : Int32)) L ∧ (vp_in ((x4) + (2 : Int32)) L ∧ (((xs (Int32.toNatClampNeg ((x4) + (2 : Int32))) : Int32) = 0 → ∃ (q1 : Int32 → mj_M → Prop), kL_original (k1) (xs (Int32.toNatClampNeg ((x4) + (1 : Int32)))) (0) (k3) g (M) q1 ∧ ∀ (v1 : Int32) (M1 : mj_M), q1 v1 M1 → (vp_in ((x4) + (1 : Int32)) L ∧ (vp_in ((x4) + (2 : Int32)) L ∧ (((xs (Int32.toNatClampNeg ((x4) + (2 : Int32))) : Int32) = 0 → ∃ (q2 : Int32 → mj_M → Prop), kX10_original (k2) (xs (Int32.toNatClampNeg ((x4) + (1 : Int32)))) (0) g (M1) q2 ∧ ∀ (v2 : Int32) (M2 : mj_M), q2 v2 M2 → (∃ (q3 : Int32 → mj_M → Prop), kX10_thrown (k2) g (M2) q3 ∧ ∀ (v3 : Int32) (M3 : mj_M), q3 v3 M3 → (((v3 : Int32) = (v1) → (¬ (v1 : Int32) = 0 → LL_23 b L xs k1 k2 k3 (x4 + 4) (bc - 8) (bs - 48) g (M3)) ∧ ((v1 : Int32) = 0 → ((lg_cmp ((M3).2.1 (k3) (Int32.toNatClampNeg (0))) (Int32.toInt64 (v2)) : Int32) = 0 → LL_23 b L xs k1 k2 k3 (x4 + 4) (bc - 8) (bs - 48) g (M3)) ∧ (¬ (lg_cmp ((M3).2.1 (k3) (Int32.toNatClampNeg (0))) (Int32.toInt64 (v2)) : Int32) = 0 → False))) ∧ (¬ (v3 : Int32) = (v1) → False)))) ∧ (¬ (xs (Int32.toNatClampNeg ((x4) + (2 : Int32))) : Int32) = 0 → ∃ (q4 : Int32 → mj_M → Prop), kX10_original (k2) (xs (Int32.toNatClampNeg ((x4) + (1 : Int32)))) (1) g (M1) q4 ∧ ∀ (v4 : Int32) (M4 : mj_M), q4 v4 M4 → (∃ (q5 : Int32 → mj_M → Prop), kX10_thrown (k2) g (M4) q5 ∧ ∀ (v5 : Int32) (M5 : mj_M), q5 v5 M5 → (((v5 : Int32) = (v1) → (¬ (v1 : Int32) = 0 → LL_23 b L xs k1 k2 k3 (x4 + 4) (bc - 8) (bs - 48) g (M5)) ∧ ((v1 : Int32) = 0 → ((lg_cmp ((M5).2.1 (k3) (Int32.toNatClampNeg (0))) (Int32.toInt64 (v4)) : Int32) = 0 → LL_23 b L xs k1 k2 k3 (x4 + 4) (bc - 8) (bs - 48) g (M5)) ∧ (¬ (lg_cmp ((M5).2.1 (k3) (Int32.toNatClampNeg (0))) (Int32.toInt64 (v4)) : Int32) = 0 → False))) ∧ (¬ (v5 : Int32) = (v1) → False)))))))) ∧ (¬ (xs (Int32.toNatClampNeg ((x4) + (2 : Int32))) : Int32) = 0 → ∃ (q6 : Int32 → mj_M → Prop), kL_original (k1) (xs (Int32.toNatClampNeg ((x4) + (1 : Int32)))) (1) (k3) g (M) q6 ∧ ∀ (v6 : Int32) (M6 : mj_M), q6 v6 M6 → (vp_in ((x4) + (1 : Int32)) L ∧ (vp_in ((x4) + (2 : Int32)) L ∧ (((xs (Int32.toNatClampNeg ((x4) + (2 : Int32))) : Int32) = 0 → ∃ (q7 : Int32 → mj_M → Prop), kX10_original (k2) (xs (Int32.toNatClampNeg ((x4) + (1 : Int32)))) (0) g (M6) q7 ∧ ∀ (v7 : Int32) (M7 : mj_M), q7 v7 M7 → (∃ (q8 : Int32 → mj_M → Prop), kX10_thrown (k2) g (M7) q8 ∧ ∀ (v8 : Int32) (M8 : mj_M), q8 v8 M8 → (((v8 : Int32) = (v6) → (¬ (v6 : Int32) = 0 → LL_23 b L xs k1 k2 k3 (x4 + 4) (bc - 8) (bs - 48) g (M8)) ∧ ((v6 : Int32) = 0 → ((lg_cmp ((M8).2.1 (k3) (Int32.toNatClampNeg (0))) (Int32.toInt64 (v7)) : Int32) = 0 → LL_23 b L xs k1 k2 k3 (x4 + 4) (bc - 8) (bs - 48) g (M8)) ∧ (¬ (lg_cmp ((M8).2.1 (k3) (Int32.toNatClampNeg (0))) (Int32.toInt64 (v7)) : Int32) = 0 → False))) ∧ (¬ (v8 : Int32) = (v6) → False)))) ∧ (¬ (xs (Int32.toNatClampNeg ((x4) + (2 : Int32))) : Int32) = 0 → ∃ (q9 : Int32 → mj_M → Prop), kX10_original (k2) (xs (Int32.toNatClampNeg ((x4) + (1 : Int32)))) (1) g (M6) q9 ∧ ∀ (v9 : Int32) (M9 : mj_M), q9 v9 M9 → (∃ (q10 : Int32 → mj_M → Prop), kX10_thrown (k2) g (M9) q10 ∧ ∀ (v10 : Int32) (M10 : mj_M), q10 v10 M10 → (((v10 : Int32) = (v6) → (¬ (v6 : Int32) = 0 → LL_23 b L xs k1 k2 k3 (x4 + 4) (bc - 8) (bs - 48) g (M10)) ∧ ((v6 : Int32) = 0 → ((lg_cmp ((M10).2.1 (k3) (Int32.toNatClampNeg (0))) (Int32.toInt64 (v9)) : Int32) = 0 → LL_23 b L xs k1 k2 k3 (x4 + 4) (bc - 8) (bs - 48) g (M10)) ∧ (¬ (lg_cmp ((M10).2.1 (k3) (Int32.toNatClampNeg (0))) (Int32.toInt64 (v9)) : Int32) = 0 → False))) ∧ (¬ (v10 : Int32) = (v6) → False))))))))))) : mj_G (mj_mtL b L xs) room_1 (mj_FL b) false bc bs 437 [(0, .ref (900001)), (1, .ref (k1)), (2, .ref (k2)), (3, .ref (k3)), (4, .int (x4))] [] g M := by
  refine mg_aload_n dL_law_437 rfl 1 rfl ?_
  refine mg_aload_n dL_law_438 rfl 0 rfl ?_
  refine mg_iload dL_law_439 4 rfl ?_
  refine mg_iconst (v := 1) dL_law_441 (by decide) ?_
  refine mg_iadd dL_law_442 ?_
  refine mg_sld (b := b) (L := L) (xs := xs) rfl dL_law_443 h.1 ?_
  replace h := h.2
  refine mg_aload_n dL_law_444 rfl 0 rfl ?_
  refine mg_iload dL_law_445 4 rfl ?_
  refine mg_iconst (v := 2) dL_law_447 (by decide) ?_
  refine mg_iadd dL_law_448 ?_
  refine mg_sld (b := b) (L := L) (xs := xs) rfl dL_law_449 h.1 ?_
  replace h := h.2
  refine mg_if_eq (tgt := 457) dL_law_450 (by decide) (fun hc => ?_) (fun hc => ?_)
  · replace h := h.1 hc
    refine mg_iconst (v := 0) dL_law_457 (by decide) ?_
    refine mg_aload_n dL_law_458 rfl 3 rfl ?_
    obtain ⟨q1, hC, hk⟩ := h
    refine mw_H2 [.ref (k1), .int (xs (Int32.toNatClampNeg ((x4) + (1 : Int32)))), .int (0), .ref (k3)] [] dL_law_459 wd_813 kiL_original ⟨Nat.le_of_ble_eq_true rfl, Nat.le_of_ble_eq_true rfl⟩ (Nat.le_of_ble_eq_true rfl) ⟨by omega, by omega⟩ hC (fun v1 M1 hq => ?_)
    replace h := hk v1 M1 hq
    refine mg_istore (ls' := [(5, .int (v1)), (0, .ref (900001)), (1, .ref (k1)), (2, .ref (k2)), (3, .ref (k3)), (4, .int (x4))]) dL_law_462 (Nat.le_of_ble_eq_true rfl) rfl ?_
    refine mg_aload_n dL_law_464 rfl 3 rfl ?_
    refine mg_aload_n dL_law_465 rfl 1 rfl ?_
    refine mg_iload dL_law_466 5 rfl ?_
    refine mg_iconst (v := 1) dL_law_468 (by decide) ?_
    refine mg_iadd dL_law_469 ?_
    refine mg_sld (b := b) (L := L) (xs := xs) rfl dL_law_470 h.1 ?_
    replace h := h.2
    refine mg_aload_n dL_law_471 rfl 1 rfl ?_
    refine mg_iload dL_law_472 5 rfl ?_
    refine mg_iconst (v := 2) dL_law_474 (by decide) ?_
    refine mg_iadd dL_law_475 ?_
    refine mg_sld (b := b) (L := L) (xs := xs) rfl dL_law_476 h.1 ?_
    replace h := h.2
    refine mg_if_eq (tgt := 484) dL_law_477 (by decide) (fun hc => ?_) (fun hc => ?_)
    · replace h := h.1 hc
      refine mg_iconst (v := 0) dL_law_484 (by decide) ?_
      obtain ⟨q2, hC, hk⟩ := h
      refine ml_Vi [.int (xs (Int32.toNatClampNeg ((x4) + (1 : Int32)))), .int (0)] [] dL_law_485 wd_1418 kiX10_original (Nat.le_of_ble_eq_true rfl) h2.1.1 h2.1.2 rfl ⟨Nat.le_of_ble_eq_true rfl, Nat.le_of_ble_eq_true rfl⟩ hC (fun v2 M2 hq => ?_)
      replace h := hk v2 M2 hq
      refine mg_istore (ls' := [(6, .int (v2)), (5, .int (v1)), (0, .ref (900001)), (1, .ref (k1)), (2, .ref (k2)), (3, .ref (k3)), (4, .int (x4))]) dL_law_488 (Nat.le_of_ble_eq_true rfl) rfl ?_
      refine mg_aload_n dL_law_490 rfl 4 rfl ?_
      obtain ⟨q3, hC, hk⟩ := h
      refine ml_Vi [] [] dL_law_491 wd_1341 kiX10_thrown (Nat.le_of_ble_eq_true rfl) h2.1.1 h2.1.2 rfl ⟨Nat.le_of_ble_eq_true rfl, Nat.le_of_ble_eq_true rfl⟩ hC (fun v3 M3 hq => ?_)
      replace h := hk v3 M3 hq
      refine mg_iload dL_law_494 1 rfl ?_
      refine mg_icmp_eq (tgt := 501) dL_law_496 (by decide) (fun hc => ?_) (fun hc => ?_)
      · replace h := h.1 hc
        refine mg_iload dL_law_501 1 rfl ?_
        refine mg_if_ne (tgt := 518) dL_law_503 (by decide) (fun hc => ?_) (fun hc => ?_)
        · replace h := h.1 hc
          refine mg_goto (tgt := 2408) dL_law_518 (by decide) ?_
          refine mg_iinc (v := x4 + 4) (ls' := [(4, .int (x4 + 4)), (6, .int (v2)), (5, .int (v1)), (0, .ref (900001)), (1, .ref (k1)), (2, .ref (k2)), (3, .ref (k3))]) dL_law_2408 6 rfl rfl (Nat.le_of_ble_eq_true rfl) rfl ?_
          refine mg_goto (tgt := 23) dL_law_2411 (by decide) ?_
          refine mg_bud (bc' := bc - 8) (bs' := bs - 48) (by omega) (by omega) ?_
          exact mg_pick [3, 4, 5, 6, 0] rfl h
        · replace h := h.2 hc
          refine mg_aload_n dL_law_506 rfl 5 rfl ?_
          refine mg_iconst (v := 0) dL_law_507 (by decide) ?_
          refine mg_lald dL_law_508 h3.1 h3.2 (vp_in_nI (n := 0) (Nat.le_of_ble_eq_true rfl) (Nat.le_of_ble_eq_true rfl)) rfl ?_
          refine mg_iload dL_law_509 0 rfl ?_
          refine mg_i2l dL_law_511 ?_
          refine mg_lcmp dL_law_512 ?_
          refine mg_if_eq (tgt := 518) dL_law_513 (by decide) (fun hc => ?_) (fun hc => ?_)
          · replace h := h.1 hc
            refine mg_goto (tgt := 2408) dL_law_518 (by decide) ?_
            refine mg_iinc (v := x4 + 4) (ls' := [(4, .int (x4 + 4)), (6, .int (v2)), (5, .int (v1)), (0, .ref (900001)), (1, .ref (k1)), (2, .ref (k2)), (3, .ref (k3))]) dL_law_2408 6 rfl rfl (Nat.le_of_ble_eq_true rfl) rfl ?_
            refine mg_goto (tgt := 23) dL_law_2411 (by decide) ?_
            refine mg_bud (bc' := bc - 8) (bs' := bs - 48) (by omega) (by omega) ?_
            exact mg_pick [3, 4, 5, 6, 0] rfl h
          · replace h := h.2 hc
            exact h.elim
      · replace h := h.2 hc
        exact h.elim
    · replace h := h.2 hc
      refine mg_iconst (v := 1) dL_law_480 (by decide) ?_
      refine mg_goto (tgt := 485) dL_law_481 (by decide) ?_
      obtain ⟨q4, hC, hk⟩ := h
      refine ml_Vi [.int (xs (Int32.toNatClampNeg ((x4) + (1 : Int32)))), .int (1)] [] dL_law_485 wd_1418 kiX10_original (Nat.le_of_ble_eq_true rfl) h2.1.1 h2.1.2 rfl ⟨Nat.le_of_ble_eq_true rfl, Nat.le_of_ble_eq_true rfl⟩ hC (fun v4 M4 hq => ?_)
      replace h := hk v4 M4 hq
      refine mg_istore (ls' := [(6, .int (v4)), (5, .int (v1)), (0, .ref (900001)), (1, .ref (k1)), (2, .ref (k2)), (3, .ref (k3)), (4, .int (x4))]) dL_law_488 (Nat.le_of_ble_eq_true rfl) rfl ?_
      refine mg_aload_n dL_law_490 rfl 4 rfl ?_
      obtain ⟨q5, hC, hk⟩ := h
      refine ml_Vi [] [] dL_law_491 wd_1341 kiX10_thrown (Nat.le_of_ble_eq_true rfl) h2.1.1 h2.1.2 rfl ⟨Nat.le_of_ble_eq_true rfl, Nat.le_of_ble_eq_true rfl⟩ hC (fun v5 M5 hq => ?_)
      replace h := hk v5 M5 hq
      refine mg_iload dL_law_494 1 rfl ?_
      refine mg_icmp_eq (tgt := 501) dL_law_496 (by decide) (fun hc => ?_) (fun hc => ?_)
      · replace h := h.1 hc
        refine mg_iload dL_law_501 1 rfl ?_
        refine mg_if_ne (tgt := 518) dL_law_503 (by decide) (fun hc => ?_) (fun hc => ?_)
        · replace h := h.1 hc
          refine mg_goto (tgt := 2408) dL_law_518 (by decide) ?_
          refine mg_iinc (v := x4 + 4) (ls' := [(4, .int (x4 + 4)), (6, .int (v4)), (5, .int (v1)), (0, .ref (900001)), (1, .ref (k1)), (2, .ref (k2)), (3, .ref (k3))]) dL_law_2408 6 rfl rfl (Nat.le_of_ble_eq_true rfl) rfl ?_
          refine mg_goto (tgt := 23) dL_law_2411 (by decide) ?_
          refine mg_bud (bc' := bc - 8) (bs' := bs - 48) (by omega) (by omega) ?_
          exact mg_pick [3, 4, 5, 6, 0] rfl h
        · replace h := h.2 hc
          refine mg_aload_n dL_law_506 rfl 5 rfl ?_
          refine mg_iconst (v := 0) dL_law_507 (by decide) ?_
          refine mg_lald dL_law_508 h3.1 h3.2 (vp_in_nI (n := 0) (Nat.le_of_ble_eq_true rfl) (Nat.le_of_ble_eq_true rfl)) rfl ?_
          refine mg_iload dL_law_509 0 rfl ?_
          refine mg_i2l dL_law_511 ?_
          refine mg_lcmp dL_law_512 ?_
          refine mg_if_eq (tgt := 518) dL_law_513 (by decide) (fun hc => ?_) (fun hc => ?_)
          · replace h := h.1 hc
            refine mg_goto (tgt := 2408) dL_law_518 (by decide) ?_
            refine mg_iinc (v := x4 + 4) (ls' := [(4, .int (x4 + 4)), (6, .int (v4)), (5, .int (v1)), (0, .ref (900001)), (1, .ref (k1)), (2, .ref (k2)), (3, .ref (k3))]) dL_law_2408 6 rfl rfl (Nat.le_of_ble_eq_true rfl) rfl ?_
            refine mg_goto (tgt := 23) dL_law_2411 (by decide) ?_
            refine mg_bud (bc' := bc - 8) (bs' := bs - 48) (by omega) (by omega) ?_
            exact mg_pick [3, 4, 5, 6, 0] rfl h
          · replace h := h.2 hc
            exact h.elim
      · replace h := h.2 hc
        exact h.elim
  · replace h := h.2 hc
    refine mg_iconst (v := 1) dL_law_453 (by decide) ?_
    refine mg_goto (tgt := 458) dL_law_454 (by decide) ?_
    refine mg_aload_n dL_law_458 rfl 3 rfl ?_
    obtain ⟨q6, hC, hk⟩ := h
    refine mw_H2 [.ref (k1), .int (xs (Int32.toNatClampNeg ((x4) + (1 : Int32)))), .int (1), .ref (k3)] [] dL_law_459 wd_813 kiL_original ⟨Nat.le_of_ble_eq_true rfl, Nat.le_of_ble_eq_true rfl⟩ (Nat.le_of_ble_eq_true rfl) ⟨by omega, by omega⟩ hC (fun v6 M6 hq => ?_)
    replace h := hk v6 M6 hq
    refine mg_istore (ls' := [(5, .int (v6)), (0, .ref (900001)), (1, .ref (k1)), (2, .ref (k2)), (3, .ref (k3)), (4, .int (x4))]) dL_law_462 (Nat.le_of_ble_eq_true rfl) rfl ?_
    refine mg_aload_n dL_law_464 rfl 3 rfl ?_
    refine mg_aload_n dL_law_465 rfl 1 rfl ?_
    refine mg_iload dL_law_466 5 rfl ?_
    refine mg_iconst (v := 1) dL_law_468 (by decide) ?_
    refine mg_iadd dL_law_469 ?_
    refine mg_sld (b := b) (L := L) (xs := xs) rfl dL_law_470 h.1 ?_
    replace h := h.2
    refine mg_aload_n dL_law_471 rfl 1 rfl ?_
    refine mg_iload dL_law_472 5 rfl ?_
    refine mg_iconst (v := 2) dL_law_474 (by decide) ?_
    refine mg_iadd dL_law_475 ?_
    refine mg_sld (b := b) (L := L) (xs := xs) rfl dL_law_476 h.1 ?_
    replace h := h.2
    refine mg_if_eq (tgt := 484) dL_law_477 (by decide) (fun hc => ?_) (fun hc => ?_)
    · replace h := h.1 hc
      refine mg_iconst (v := 0) dL_law_484 (by decide) ?_
      obtain ⟨q7, hC, hk⟩ := h
      refine ml_Vi [.int (xs (Int32.toNatClampNeg ((x4) + (1 : Int32)))), .int (0)] [] dL_law_485 wd_1418 kiX10_original (Nat.le_of_ble_eq_true rfl) h2.1.1 h2.1.2 rfl ⟨Nat.le_of_ble_eq_true rfl, Nat.le_of_ble_eq_true rfl⟩ hC (fun v7 M7 hq => ?_)
      replace h := hk v7 M7 hq
      refine mg_istore (ls' := [(6, .int (v7)), (5, .int (v6)), (0, .ref (900001)), (1, .ref (k1)), (2, .ref (k2)), (3, .ref (k3)), (4, .int (x4))]) dL_law_488 (Nat.le_of_ble_eq_true rfl) rfl ?_
      refine mg_aload_n dL_law_490 rfl 4 rfl ?_
      obtain ⟨q8, hC, hk⟩ := h
      refine ml_Vi [] [] dL_law_491 wd_1341 kiX10_thrown (Nat.le_of_ble_eq_true rfl) h2.1.1 h2.1.2 rfl ⟨Nat.le_of_ble_eq_true rfl, Nat.le_of_ble_eq_true rfl⟩ hC (fun v8 M8 hq => ?_)
      replace h := hk v8 M8 hq
      refine mg_iload dL_law_494 1 rfl ?_
      refine mg_icmp_eq (tgt := 501) dL_law_496 (by decide) (fun hc => ?_) (fun hc => ?_)
      · replace h := h.1 hc
        refine mg_iload dL_law_501 1 rfl ?_
        refine mg_if_ne (tgt := 518) dL_law_503 (by decide) (fun hc => ?_) (fun hc => ?_)
        · replace h := h.1 hc
          refine mg_goto (tgt := 2408) dL_law_518 (by decide) ?_
          refine mg_iinc (v := x4 + 4) (ls' := [(4, .int (x4 + 4)), (6, .int (v7)), (5, .int (v6)), (0, .ref (900001)), (1, .ref (k1)), (2, .ref (k2)), (3, .ref (k3))]) dL_law_2408 6 rfl rfl (Nat.le_of_ble_eq_true rfl) rfl ?_
          refine mg_goto (tgt := 23) dL_law_2411 (by decide) ?_
          refine mg_bud (bc' := bc - 8) (bs' := bs - 48) (by omega) (by omega) ?_
          exact mg_pick [3, 4, 5, 6, 0] rfl h
        · replace h := h.2 hc
          refine mg_aload_n dL_law_506 rfl 5 rfl ?_
          refine mg_iconst (v := 0) dL_law_507 (by decide) ?_
          refine mg_lald dL_law_508 h3.1 h3.2 (vp_in_nI (n := 0) (Nat.le_of_ble_eq_true rfl) (Nat.le_of_ble_eq_true rfl)) rfl ?_
          refine mg_iload dL_law_509 0 rfl ?_
          refine mg_i2l dL_law_511 ?_
          refine mg_lcmp dL_law_512 ?_
          refine mg_if_eq (tgt := 518) dL_law_513 (by decide) (fun hc => ?_) (fun hc => ?_)
          · replace h := h.1 hc
            refine mg_goto (tgt := 2408) dL_law_518 (by decide) ?_
            refine mg_iinc (v := x4 + 4) (ls' := [(4, .int (x4 + 4)), (6, .int (v7)), (5, .int (v6)), (0, .ref (900001)), (1, .ref (k1)), (2, .ref (k2)), (3, .ref (k3))]) dL_law_2408 6 rfl rfl (Nat.le_of_ble_eq_true rfl) rfl ?_
            refine mg_goto (tgt := 23) dL_law_2411 (by decide) ?_
            refine mg_bud (bc' := bc - 8) (bs' := bs - 48) (by omega) (by omega) ?_
            exact mg_pick [3, 4, 5, 6, 0] rfl h
          · replace h := h.2 hc
            exact h.elim
      · replace h := h.2 hc
        exact h.elim
    · replace h := h.2 hc
      refine mg_iconst (v := 1) dL_law_480 (by decide) ?_
      refine mg_goto (tgt := 485) dL_law_481 (by decide) ?_
      obtain ⟨q9, hC, hk⟩ := h
      refine ml_Vi [.int (xs (Int32.toNatClampNeg ((x4) + (1 : Int32)))), .int (1)] [] dL_law_485 wd_1418 kiX10_original (Nat.le_of_ble_eq_true rfl) h2.1.1 h2.1.2 rfl ⟨Nat.le_of_ble_eq_true rfl, Nat.le_of_ble_eq_true rfl⟩ hC (fun v9 M9 hq => ?_)
      replace h := hk v9 M9 hq
      refine mg_istore (ls' := [(6, .int (v9)), (5, .int (v6)), (0, .ref (900001)), (1, .ref (k1)), (2, .ref (k2)), (3, .ref (k3)), (4, .int (x4))]) dL_law_488 (Nat.le_of_ble_eq_true rfl) rfl ?_
      refine mg_aload_n dL_law_490 rfl 4 rfl ?_
      obtain ⟨q10, hC, hk⟩ := h
      refine ml_Vi [] [] dL_law_491 wd_1341 kiX10_thrown (Nat.le_of_ble_eq_true rfl) h2.1.1 h2.1.2 rfl ⟨Nat.le_of_ble_eq_true rfl, Nat.le_of_ble_eq_true rfl⟩ hC (fun v10 M10 hq => ?_)
      replace h := hk v10 M10 hq
      refine mg_iload dL_law_494 1 rfl ?_
      refine mg_icmp_eq (tgt := 501) dL_law_496 (by decide) (fun hc => ?_) (fun hc => ?_)
      · replace h := h.1 hc
        refine mg_iload dL_law_501 1 rfl ?_
        refine mg_if_ne (tgt := 518) dL_law_503 (by decide) (fun hc => ?_) (fun hc => ?_)
        · replace h := h.1 hc
          refine mg_goto (tgt := 2408) dL_law_518 (by decide) ?_
          refine mg_iinc (v := x4 + 4) (ls' := [(4, .int (x4 + 4)), (6, .int (v9)), (5, .int (v6)), (0, .ref (900001)), (1, .ref (k1)), (2, .ref (k2)), (3, .ref (k3))]) dL_law_2408 6 rfl rfl (Nat.le_of_ble_eq_true rfl) rfl ?_
          refine mg_goto (tgt := 23) dL_law_2411 (by decide) ?_
          refine mg_bud (bc' := bc - 8) (bs' := bs - 48) (by omega) (by omega) ?_
          exact mg_pick [3, 4, 5, 6, 0] rfl h
        · replace h := h.2 hc
          refine mg_aload_n dL_law_506 rfl 5 rfl ?_
          refine mg_iconst (v := 0) dL_law_507 (by decide) ?_
          refine mg_lald dL_law_508 h3.1 h3.2 (vp_in_nI (n := 0) (Nat.le_of_ble_eq_true rfl) (Nat.le_of_ble_eq_true rfl)) rfl ?_
          refine mg_iload dL_law_509 0 rfl ?_
          refine mg_i2l dL_law_511 ?_
          refine mg_lcmp dL_law_512 ?_
          refine mg_if_eq (tgt := 518) dL_law_513 (by decide) (fun hc => ?_) (fun hc => ?_)
          · replace h := h.1 hc
            refine mg_goto (tgt := 2408) dL_law_518 (by decide) ?_
            refine mg_iinc (v := x4 + 4) (ls' := [(4, .int (x4 + 4)), (6, .int (v9)), (5, .int (v6)), (0, .ref (900001)), (1, .ref (k1)), (2, .ref (k2)), (3, .ref (k3))]) dL_law_2408 6 rfl rfl (Nat.le_of_ble_eq_true rfl) rfl ?_
            refine mg_goto (tgt := 23) dL_law_2411 (by decide) ?_
            refine mg_bud (bc' := bc - 8) (bs' := bs - 48) (by omega) (by omega) ?_
            exact mg_pick [3, 4, 5, 6, 0] rfl h
          · replace h := h.2 hc
            exact h.elim
      · replace h := h.2 hc
        exact h.elim
theorem cL_law_5 {b L : Nat} {xs : Nat → Int32} {k1 k2 k3 : Nat} {x4 : Int32} {bc bs : Nat} {g : mj_S} {M : mj_M} (h1 : is9 g k1) (h2 : is10 g k2) (h3 : k3 < g.1 ∧ g.2.1 k3 = (1, 2, 1)) (hb1 : 8 ≤ bc) (hb2 : 48 ≤ bs) (h : ∃ (q1 : Int32 → mj_M → Prop), kX9_clauseCount (k1) g (M) q1 ∧ ∀ (v1 : Int32) (M1 : mj_M), q1 v1 M1 → (∃ (q2 : Int32 → mj_M → Prop), kX10_clauseCount (k2) g (M1) q2 ∧ ∀ (v2 : Int32) (M2 : mj_M), q2 v2 M2 → (((v1 : Int32) = (v2) → LL_23 b L xs k1 k2 k3 (x4 + 4) (bc - 8) (bs - 48) g (M2)) ∧ (¬ (v1 : Int32) = (v2) → False)))) : mj_G (mj_mtL b L xs) room_1 (mj_FL b) false bc bs 521 [(0, .ref (900001)), (1, .ref (k1)), (2, .ref (k2)), (3, .ref (k3)), (4, .int (x4))] [] g M := by
  refine mg_aload_n dL_law_521 rfl 1 rfl ?_
  obtain ⟨q1, hC, hk⟩ := h
  refine ml_Vi [] [] dL_law_522 wd_264 kiX9_clauseCount (Nat.le_of_ble_eq_true rfl) h1.1.1 h1.1.2 rfl ⟨Nat.le_of_ble_eq_true rfl, Nat.le_of_ble_eq_true rfl⟩ hC (fun v1 M1 hq => ?_)
  replace h := hk v1 M1 hq
  refine mg_aload_n dL_law_525 rfl 2 rfl ?_
  obtain ⟨q2, hC, hk⟩ := h
  refine ml_Vi [] [.int (v1)] dL_law_526 wd_1425 kiX10_clauseCount (Nat.le_of_ble_eq_true rfl) h2.1.1 h2.1.2 rfl ⟨Nat.le_of_ble_eq_true rfl, Nat.le_of_ble_eq_true rfl⟩ hC (fun v2 M2 hq => ?_)
  replace h := hk v2 M2 hq
  refine mg_icmp_eq (tgt := 2408) dL_law_529 (by decide) (fun hc => ?_) (fun hc => ?_)
  · replace h := h.1 hc
    refine mg_iinc (v := x4 + 4) (ls' := [(4, .int (x4 + 4)), (0, .ref (900001)), (1, .ref (k1)), (2, .ref (k2)), (3, .ref (k3))]) dL_law_2408 4 rfl rfl (Nat.le_of_ble_eq_true rfl) rfl ?_
    refine mg_goto (tgt := 23) dL_law_2411 (by decide) ?_
    refine mg_bud (bc' := bc - 8) (bs' := bs - 48) (by omega) (by omega) ?_
    exact mg_pick [1, 2, 3, 4, 0] rfl h
  · replace h := h.2 hc
    exact h.elim
theorem cL_law_6 {b L : Nat} {xs : Nat → Int32} {k1 k2 k3 : Nat} {x4 : Int32} {bc bs : Nat} {g : mj_S} {M : mj_M} (h1 : is9 g k1) (h2 : is10 g k2) (h3 : k3 < g.1 ∧ g.2.1 k3 = (1, 2, 1)) (hb1 : 8 ≤ bc) (hb2 : 48 ≤ bs) (h : ∃ (q1 : Int32 → mj_M → Prop), kX9_literalCount (k1) g (M) q1 ∧ ∀ (v1 : Int32) (M1 : mj_M), q1 v1 M1 → (∃ (q2 : Int32 → mj_M → Prop), kX10_literalCount (k2) g (M1) q2 ∧ ∀ (v2 : Int32) (M2 : mj_M), q2 v2 M2 → (((v1 : Int32) = (v2) → LL_23 b L xs k1 k2 k3 (x4 + 4) (bc - 8) (bs - 48) g (M2)) ∧ (¬ (v1 : Int32) = (v2) → False)))) : mj_G (mj_mtL b L xs) room_1 (mj_FL b) false bc bs 534 [(0, .ref (900001)), (1, .ref (k1)), (2, .ref (k2)), (3, .ref (k3)), (4, .int (x4))] [] g M := by
  refine mg_aload_n dL_law_534 rfl 1 rfl ?_
  obtain ⟨q1, hC, hk⟩ := h
  refine ml_Vi [] [] dL_law_535 wd_268 kiX9_literalCount (Nat.le_of_ble_eq_true rfl) h1.1.1 h1.1.2 rfl ⟨Nat.le_of_ble_eq_true rfl, Nat.le_of_ble_eq_true rfl⟩ hC (fun v1 M1 hq => ?_)
  replace h := hk v1 M1 hq
  refine mg_aload_n dL_law_538 rfl 2 rfl ?_
  obtain ⟨q2, hC, hk⟩ := h
  refine ml_Vi [] [.int (v1)] dL_law_539 wd_1429 kiX10_literalCount (Nat.le_of_ble_eq_true rfl) h2.1.1 h2.1.2 rfl ⟨Nat.le_of_ble_eq_true rfl, Nat.le_of_ble_eq_true rfl⟩ hC (fun v2 M2 hq => ?_)
  replace h := hk v2 M2 hq
  refine mg_icmp_eq (tgt := 2408) dL_law_542 (by decide) (fun hc => ?_) (fun hc => ?_)
  · replace h := h.1 hc
    refine mg_iinc (v := x4 + 4) (ls' := [(4, .int (x4 + 4)), (0, .ref (900001)), (1, .ref (k1)), (2, .ref (k2)), (3, .ref (k3))]) dL_law_2408 4 rfl rfl (Nat.le_of_ble_eq_true rfl) rfl ?_
    refine mg_goto (tgt := 23) dL_law_2411 (by decide) ?_
    refine mg_bud (bc' := bc - 8) (bs' := bs - 48) (by omega) (by omega) ?_
    exact mg_pick [1, 2, 3, 4, 0] rfl h
  · replace h := h.2 hc
    exact h.elim
theorem cL_law_7 {b L : Nat} {xs : Nat → Int32} {k1 k2 k3 : Nat} {x4 : Int32} {bc bs : Nat} {g : mj_S} {M : mj_M} (h1 : is9 g k1) (h2 : is10 g k2) (h3 : k3 < g.1 ∧ g.2.1 k3 = (1, 2, 1)) (hb1 : 8 ≤ bc) (hb2 : 48 ≤ bs) (h : vp_in ((x4) + (1 : Int32)) L ∧ (vp_in ((x4) + (2 : Int32)) L ∧ (((xs (Int32.toNatClampNeg ((x4) + (2 : Int32))) : Int32) = 0 → ∃ (q1 : Int32 → mj_M → Prop), kL_clause (k1) (xs (Int32.toNatClampNeg ((x4) + (1 : Int32)))) (0) (k3) g (M) q1 ∧ ∀ (v1 : Int32) (M1 : mj_M), q1 v1 M1 → (vp_in ((x4) + (1 : Int32)) L ∧ (vp_in ((x4) + (2 : Int32)) L ∧ (((xs (Int32.toNatClampNeg ((x4) + (2 : Int32))) : Int32) = 0 → ∃ (q2 : Int32 → mj_M → Prop), kX10_clause (k2) (xs (Int32.toNatClampNeg ((x4) + (1 : Int32)))) (0) g (M1) q2 ∧ ∀ (v2 : Int32) (M2 : mj_M), q2 v2 M2 → (∃ (q3 : Int32 → mj_M → Prop), kX10_thrown (k2) g (M2) q3 ∧ ∀ (v3 : Int32) (M3 : mj_M), q3 v3 M3 → (((v3 : Int32) = (v1) → (¬ (v1 : Int32) = 0 → LL_23 b L xs k1 k2 k3 (x4 + 4) (bc - 8) (bs - 48) g (M3)) ∧ ((v1 : Int32) = 0 → ((lg_cmp ((M3).2.1 (k3) (Int32.toNatClampNeg (0))) (Int32.toInt64 (v2)) : Int32) = 0 → LL_23 b L xs k1 k2 k3 (x4 + 4) (bc - 8) (bs - 48) g (M3)) ∧ (¬ (lg_cmp ((M3).2.1 (k3) (Int32.toNatClampNeg (0))) (Int32.toInt64 (v2)) : Int32) = 0 → False))) ∧ (¬ (v3 : Int32) = (v1) → False)))) ∧ (¬ (xs (Int32.toNatClampNeg ((x4) + (2 : Int32))) : Int32) = 0 → ∃ (q4 : Int32 → mj_M → Prop), kX10_clause (k2) (xs (Int32.toNatClampNeg ((x4) + (1 : Int32)))) (1) g (M1) q4 ∧ ∀ (v4 : Int32) (M4 : mj_M), q4 v4 M4 → (∃ (q5 : Int32 → mj_M → Prop), kX10_thrown (k2) g (M4) q5 ∧ ∀ (v5 : Int32) (M5 : mj_M), q5 v5 M5 → (((v5 : Int32) = (v1) → (¬ (v1 : Int32) = 0 → LL_23 b L xs k1 k2 k3 (x4 + 4) (bc - 8) (bs - 48) g (M5)) ∧ ((v1 : Int32) = 0 → ((lg_cmp ((M5).2.1 (k3) (Int32.toNatClampNeg (0))) (Int32.toInt64 (v4)) : Int32) = 0 → LL_23 b L xs k1 k2 k3 (x4 + 4) (bc - 8) (bs - 48) g (M5)) ∧ (¬ (lg_cmp ((M5).2.1 (k3) (Int32.toNatClampNeg (0))) (Int32.toInt64 (v4)) : Int32) = 0 → False))) ∧ (¬ (v5 : Int32) = (v1) → False)))))))) ∧ (¬ (xs (Int32.toNatClampNeg ((x4) + (2 : Int32))) : Int32) = 0 → ∃ (q6 : Int32 → mj_M → Prop), kL_clause (k1) (xs (Int32.toNatClampNeg ((x4) + (1 : Int32)))) (1) (k3) g (M) q6 ∧ ∀ (v6 : Int32) (M6 : mj_M), q6 v6 M6 → (vp_in ((x4) + (1 : Int32)) L ∧ (vp_in ((x4) + (2 : Int32)) L ∧ (((xs (Int32.toNatClampNeg ((x4) + (2 : Int32))) : Int32) = 0 → ∃ (q7 : Int32 → mj_M → Prop), kX10_clause (k2) (xs (Int32.toNatClampNeg ((x4) + (1 : Int32)))) (0) g (M6) q7 ∧ ∀ (v7 : Int32) (M7 : mj_M), q7 v7 M7 → (∃ (q8 : Int32 → mj_M → Prop), kX10_thrown (k2) g (M7) q8 ∧ ∀ (v8 : Int32) (M8 : mj_M), q8 v8 M8 → (((v8 : Int32) = (v6) → (¬ (v6 : Int32) = 0 → LL_23 b L xs k1 k2 k3 (x4 + 4) (bc - 8) (bs - 48) g (M8)) ∧ ((v6 : Int32) = 0 → ((lg_cmp ((M8).2.1 (k3) (Int32.toNatClampNeg (0))) (Int32.toInt64 (v7)) : Int32) = 0 → LL_23 b L xs k1 k2 k3 (x4 + 4) (bc - 8) (bs - 48) g (M8)) ∧ (¬ (lg_cmp ((M8).2.1 (k3) (Int32.toNatClampNeg (0))) (Int32.toInt64 (v7)) : Int32) = 0 → False))) ∧ (¬ (v8 : Int32) = (v6) → False)))) ∧ (¬ (xs (Int32.toNatClampNeg ((x4) + (2 : Int32))) : Int32) = 0 → ∃ (q9 : Int32 → mj_M → Prop), kX10_clause (k2) (xs (Int32.toNatClampNeg ((x4) + (1 : Int32)))) (1) g (M6) q9 ∧ ∀ (v9 : Int32) (M9 : mj_M), q9 v9 M9 → (∃ (q10 : Int32 → mj_M → Prop), kX10_thrown (k2) g (M9) q10 ∧ ∀ (v10 : Int32) (M10 : mj_M), q10 v10 M10 → (((v10 : Int32) = (v6) → (¬ (v6 : Int32) = 0 → LL_23 b L xs k1 k2 k3 (x4 + 4) (bc - 8) (bs - 48) g (M10)) ∧ ((v6 : Int32) = 0 → ((lg_cmp ((M10).2.1 (k3) (Int32.toNatClampNeg (0))) (Int32.toInt64 (v9)) : Int32) = 0 → LL_23 b L xs k1 k2 k3 (x4 + 4) (bc - 8) (bs - 48) g (M10)) ∧ (¬ (lg_cmp ((M10).2.1 (k3) (Int32.toNatClampNeg (0))) (Int32.toInt64 (v9)) : Int32) = 0 → False))) ∧ (¬ (v10 : Int32) = (v6) → False))))))))))) : mj_G (mj_mtL b L xs) room_1 (mj_FL b) false bc bs 547 [(0, .ref (900001)), (1, .ref (k1)), (2, .ref (k2)), (3, .ref (k3)), (4, .int (x4))] [] g M := by
  refine mg_aload_n dL_law_547 rfl 1 rfl ?_
  refine mg_aload_n dL_law_548 rfl 0 rfl ?_
  refine mg_iload dL_law_549 4 rfl ?_
  refine mg_iconst (v := 1) dL_law_551 (by decide) ?_
  refine mg_iadd dL_law_552 ?_
  refine mg_sld (b := b) (L := L) (xs := xs) rfl dL_law_553 h.1 ?_
  replace h := h.2
  refine mg_aload_n dL_law_554 rfl 0 rfl ?_
  refine mg_iload dL_law_555 4 rfl ?_
  refine mg_iconst (v := 2) dL_law_557 (by decide) ?_
  refine mg_iadd dL_law_558 ?_
  refine mg_sld (b := b) (L := L) (xs := xs) rfl dL_law_559 h.1 ?_
  replace h := h.2
  refine mg_if_eq (tgt := 567) dL_law_560 (by decide) (fun hc => ?_) (fun hc => ?_)
  · replace h := h.1 hc
    refine mg_iconst (v := 0) dL_law_567 (by decide) ?_
    refine mg_aload_n dL_law_568 rfl 3 rfl ?_
    obtain ⟨q1, hC, hk⟩ := h
    refine mw_H2 [.ref (k1), .int (xs (Int32.toNatClampNeg ((x4) + (1 : Int32)))), .int (0), .ref (k3)] [] dL_law_569 wd_837 kiL_clause ⟨Nat.le_of_ble_eq_true rfl, Nat.le_of_ble_eq_true rfl⟩ (Nat.le_of_ble_eq_true rfl) ⟨by omega, by omega⟩ hC (fun v1 M1 hq => ?_)
    replace h := hk v1 M1 hq
    refine mg_istore (ls' := [(5, .int (v1)), (0, .ref (900001)), (1, .ref (k1)), (2, .ref (k2)), (3, .ref (k3)), (4, .int (x4))]) dL_law_572 (Nat.le_of_ble_eq_true rfl) rfl ?_
    refine mg_aload_n dL_law_574 rfl 3 rfl ?_
    refine mg_aload_n dL_law_575 rfl 1 rfl ?_
    refine mg_iload dL_law_576 5 rfl ?_
    refine mg_iconst (v := 1) dL_law_578 (by decide) ?_
    refine mg_iadd dL_law_579 ?_
    refine mg_sld (b := b) (L := L) (xs := xs) rfl dL_law_580 h.1 ?_
    replace h := h.2
    refine mg_aload_n dL_law_581 rfl 1 rfl ?_
    refine mg_iload dL_law_582 5 rfl ?_
    refine mg_iconst (v := 2) dL_law_584 (by decide) ?_
    refine mg_iadd dL_law_585 ?_
    refine mg_sld (b := b) (L := L) (xs := xs) rfl dL_law_586 h.1 ?_
    replace h := h.2
    refine mg_if_eq (tgt := 594) dL_law_587 (by decide) (fun hc => ?_) (fun hc => ?_)
    · replace h := h.1 hc
      refine mg_iconst (v := 0) dL_law_594 (by decide) ?_
      obtain ⟨q2, hC, hk⟩ := h
      refine ml_Vi [.int (xs (Int32.toNatClampNeg ((x4) + (1 : Int32)))), .int (0)] [] dL_law_595 wd_1444 kiX10_clause (Nat.le_of_ble_eq_true rfl) h2.1.1 h2.1.2 rfl ⟨Nat.le_of_ble_eq_true rfl, Nat.le_of_ble_eq_true rfl⟩ hC (fun v2 M2 hq => ?_)
      replace h := hk v2 M2 hq
      refine mg_istore (ls' := [(6, .int (v2)), (5, .int (v1)), (0, .ref (900001)), (1, .ref (k1)), (2, .ref (k2)), (3, .ref (k3)), (4, .int (x4))]) dL_law_598 (Nat.le_of_ble_eq_true rfl) rfl ?_
      refine mg_aload_n dL_law_600 rfl 4 rfl ?_
      obtain ⟨q3, hC, hk⟩ := h
      refine ml_Vi [] [] dL_law_601 wd_1341 kiX10_thrown (Nat.le_of_ble_eq_true rfl) h2.1.1 h2.1.2 rfl ⟨Nat.le_of_ble_eq_true rfl, Nat.le_of_ble_eq_true rfl⟩ hC (fun v3 M3 hq => ?_)
      replace h := hk v3 M3 hq
      refine mg_iload dL_law_604 1 rfl ?_
      refine mg_icmp_eq (tgt := 611) dL_law_606 (by decide) (fun hc => ?_) (fun hc => ?_)
      · replace h := h.1 hc
        refine mg_iload dL_law_611 1 rfl ?_
        refine mg_if_ne (tgt := 628) dL_law_613 (by decide) (fun hc => ?_) (fun hc => ?_)
        · replace h := h.1 hc
          refine mg_goto (tgt := 2408) dL_law_628 (by decide) ?_
          refine mg_iinc (v := x4 + 4) (ls' := [(4, .int (x4 + 4)), (6, .int (v2)), (5, .int (v1)), (0, .ref (900001)), (1, .ref (k1)), (2, .ref (k2)), (3, .ref (k3))]) dL_law_2408 6 rfl rfl (Nat.le_of_ble_eq_true rfl) rfl ?_
          refine mg_goto (tgt := 23) dL_law_2411 (by decide) ?_
          refine mg_bud (bc' := bc - 8) (bs' := bs - 48) (by omega) (by omega) ?_
          exact mg_pick [3, 4, 5, 6, 0] rfl h
        · replace h := h.2 hc
          refine mg_aload_n dL_law_616 rfl 5 rfl ?_
          refine mg_iconst (v := 0) dL_law_617 (by decide) ?_
          refine mg_lald dL_law_618 h3.1 h3.2 (vp_in_nI (n := 0) (Nat.le_of_ble_eq_true rfl) (Nat.le_of_ble_eq_true rfl)) rfl ?_
          refine mg_iload dL_law_619 0 rfl ?_
          refine mg_i2l dL_law_621 ?_
          refine mg_lcmp dL_law_622 ?_
          refine mg_if_eq (tgt := 628) dL_law_623 (by decide) (fun hc => ?_) (fun hc => ?_)
          · replace h := h.1 hc
            refine mg_goto (tgt := 2408) dL_law_628 (by decide) ?_
            refine mg_iinc (v := x4 + 4) (ls' := [(4, .int (x4 + 4)), (6, .int (v2)), (5, .int (v1)), (0, .ref (900001)), (1, .ref (k1)), (2, .ref (k2)), (3, .ref (k3))]) dL_law_2408 6 rfl rfl (Nat.le_of_ble_eq_true rfl) rfl ?_
            refine mg_goto (tgt := 23) dL_law_2411 (by decide) ?_
            refine mg_bud (bc' := bc - 8) (bs' := bs - 48) (by omega) (by omega) ?_
            exact mg_pick [3, 4, 5, 6, 0] rfl h
          · replace h := h.2 hc
            exact h.elim
      · replace h := h.2 hc
        exact h.elim
    · replace h := h.2 hc
      refine mg_iconst (v := 1) dL_law_590 (by decide) ?_
      refine mg_goto (tgt := 595) dL_law_591 (by decide) ?_
      obtain ⟨q4, hC, hk⟩ := h
      refine ml_Vi [.int (xs (Int32.toNatClampNeg ((x4) + (1 : Int32)))), .int (1)] [] dL_law_595 wd_1444 kiX10_clause (Nat.le_of_ble_eq_true rfl) h2.1.1 h2.1.2 rfl ⟨Nat.le_of_ble_eq_true rfl, Nat.le_of_ble_eq_true rfl⟩ hC (fun v4 M4 hq => ?_)
      replace h := hk v4 M4 hq
      refine mg_istore (ls' := [(6, .int (v4)), (5, .int (v1)), (0, .ref (900001)), (1, .ref (k1)), (2, .ref (k2)), (3, .ref (k3)), (4, .int (x4))]) dL_law_598 (Nat.le_of_ble_eq_true rfl) rfl ?_
      refine mg_aload_n dL_law_600 rfl 4 rfl ?_
      obtain ⟨q5, hC, hk⟩ := h
      refine ml_Vi [] [] dL_law_601 wd_1341 kiX10_thrown (Nat.le_of_ble_eq_true rfl) h2.1.1 h2.1.2 rfl ⟨Nat.le_of_ble_eq_true rfl, Nat.le_of_ble_eq_true rfl⟩ hC (fun v5 M5 hq => ?_)
      replace h := hk v5 M5 hq
      refine mg_iload dL_law_604 1 rfl ?_
      refine mg_icmp_eq (tgt := 611) dL_law_606 (by decide) (fun hc => ?_) (fun hc => ?_)
      · replace h := h.1 hc
        refine mg_iload dL_law_611 1 rfl ?_
        refine mg_if_ne (tgt := 628) dL_law_613 (by decide) (fun hc => ?_) (fun hc => ?_)
        · replace h := h.1 hc
          refine mg_goto (tgt := 2408) dL_law_628 (by decide) ?_
          refine mg_iinc (v := x4 + 4) (ls' := [(4, .int (x4 + 4)), (6, .int (v4)), (5, .int (v1)), (0, .ref (900001)), (1, .ref (k1)), (2, .ref (k2)), (3, .ref (k3))]) dL_law_2408 6 rfl rfl (Nat.le_of_ble_eq_true rfl) rfl ?_
          refine mg_goto (tgt := 23) dL_law_2411 (by decide) ?_
          refine mg_bud (bc' := bc - 8) (bs' := bs - 48) (by omega) (by omega) ?_
          exact mg_pick [3, 4, 5, 6, 0] rfl h
        · replace h := h.2 hc
          refine mg_aload_n dL_law_616 rfl 5 rfl ?_
          refine mg_iconst (v := 0) dL_law_617 (by decide) ?_
          refine mg_lald dL_law_618 h3.1 h3.2 (vp_in_nI (n := 0) (Nat.le_of_ble_eq_true rfl) (Nat.le_of_ble_eq_true rfl)) rfl ?_
          refine mg_iload dL_law_619 0 rfl ?_
          refine mg_i2l dL_law_621 ?_
          refine mg_lcmp dL_law_622 ?_
          refine mg_if_eq (tgt := 628) dL_law_623 (by decide) (fun hc => ?_) (fun hc => ?_)
          · replace h := h.1 hc
            refine mg_goto (tgt := 2408) dL_law_628 (by decide) ?_
            refine mg_iinc (v := x4 + 4) (ls' := [(4, .int (x4 + 4)), (6, .int (v4)), (5, .int (v1)), (0, .ref (900001)), (1, .ref (k1)), (2, .ref (k2)), (3, .ref (k3))]) dL_law_2408 6 rfl rfl (Nat.le_of_ble_eq_true rfl) rfl ?_
            refine mg_goto (tgt := 23) dL_law_2411 (by decide) ?_
            refine mg_bud (bc' := bc - 8) (bs' := bs - 48) (by omega) (by omega) ?_
            exact mg_pick [3, 4, 5, 6, 0] rfl h
          · replace h := h.2 hc
            exact h.elim
      · replace h := h.2 hc
        exact h.elim
  · replace h := h.2 hc
    refine mg_iconst (v := 1) dL_law_563 (by decide) ?_
    refine mg_goto (tgt := 568) dL_law_564 (by decide) ?_
    refine mg_aload_n dL_law_568 rfl 3 rfl ?_
    obtain ⟨q6, hC, hk⟩ := h
    refine mw_H2 [.ref (k1), .int (xs (Int32.toNatClampNeg ((x4) + (1 : Int32)))), .int (1), .ref (k3)] [] dL_law_569 wd_837 kiL_clause ⟨Nat.le_of_ble_eq_true rfl, Nat.le_of_ble_eq_true rfl⟩ (Nat.le_of_ble_eq_true rfl) ⟨by omega, by omega⟩ hC (fun v6 M6 hq => ?_)
    replace h := hk v6 M6 hq
    refine mg_istore (ls' := [(5, .int (v6)), (0, .ref (900001)), (1, .ref (k1)), (2, .ref (k2)), (3, .ref (k3)), (4, .int (x4))]) dL_law_572 (Nat.le_of_ble_eq_true rfl) rfl ?_
    refine mg_aload_n dL_law_574 rfl 3 rfl ?_
    refine mg_aload_n dL_law_575 rfl 1 rfl ?_
    refine mg_iload dL_law_576 5 rfl ?_
    refine mg_iconst (v := 1) dL_law_578 (by decide) ?_
    refine mg_iadd dL_law_579 ?_
    refine mg_sld (b := b) (L := L) (xs := xs) rfl dL_law_580 h.1 ?_
    replace h := h.2
    refine mg_aload_n dL_law_581 rfl 1 rfl ?_
    refine mg_iload dL_law_582 5 rfl ?_
    refine mg_iconst (v := 2) dL_law_584 (by decide) ?_
    refine mg_iadd dL_law_585 ?_
    refine mg_sld (b := b) (L := L) (xs := xs) rfl dL_law_586 h.1 ?_
    replace h := h.2
    refine mg_if_eq (tgt := 594) dL_law_587 (by decide) (fun hc => ?_) (fun hc => ?_)
    · replace h := h.1 hc
      refine mg_iconst (v := 0) dL_law_594 (by decide) ?_
      obtain ⟨q7, hC, hk⟩ := h
      refine ml_Vi [.int (xs (Int32.toNatClampNeg ((x4) + (1 : Int32)))), .int (0)] [] dL_law_595 wd_1444 kiX10_clause (Nat.le_of_ble_eq_true rfl) h2.1.1 h2.1.2 rfl ⟨Nat.le_of_ble_eq_true rfl, Nat.le_of_ble_eq_true rfl⟩ hC (fun v7 M7 hq => ?_)
      replace h := hk v7 M7 hq
      refine mg_istore (ls' := [(6, .int (v7)), (5, .int (v6)), (0, .ref (900001)), (1, .ref (k1)), (2, .ref (k2)), (3, .ref (k3)), (4, .int (x4))]) dL_law_598 (Nat.le_of_ble_eq_true rfl) rfl ?_
      refine mg_aload_n dL_law_600 rfl 4 rfl ?_
      obtain ⟨q8, hC, hk⟩ := h
      refine ml_Vi [] [] dL_law_601 wd_1341 kiX10_thrown (Nat.le_of_ble_eq_true rfl) h2.1.1 h2.1.2 rfl ⟨Nat.le_of_ble_eq_true rfl, Nat.le_of_ble_eq_true rfl⟩ hC (fun v8 M8 hq => ?_)
      replace h := hk v8 M8 hq
      refine mg_iload dL_law_604 1 rfl ?_
      refine mg_icmp_eq (tgt := 611) dL_law_606 (by decide) (fun hc => ?_) (fun hc => ?_)
      · replace h := h.1 hc
        refine mg_iload dL_law_611 1 rfl ?_
        refine mg_if_ne (tgt := 628) dL_law_613 (by decide) (fun hc => ?_) (fun hc => ?_)
        · replace h := h.1 hc
          refine mg_goto (tgt := 2408) dL_law_628 (by decide) ?_
          refine mg_iinc (v := x4 + 4) (ls' := [(4, .int (x4 + 4)), (6, .int (v7)), (5, .int (v6)), (0, .ref (900001)), (1, .ref (k1)), (2, .ref (k2)), (3, .ref (k3))]) dL_law_2408 6 rfl rfl (Nat.le_of_ble_eq_true rfl) rfl ?_
          refine mg_goto (tgt := 23) dL_law_2411 (by decide) ?_
          refine mg_bud (bc' := bc - 8) (bs' := bs - 48) (by omega) (by omega) ?_
          exact mg_pick [3, 4, 5, 6, 0] rfl h
        · replace h := h.2 hc
          refine mg_aload_n dL_law_616 rfl 5 rfl ?_
          refine mg_iconst (v := 0) dL_law_617 (by decide) ?_
          refine mg_lald dL_law_618 h3.1 h3.2 (vp_in_nI (n := 0) (Nat.le_of_ble_eq_true rfl) (Nat.le_of_ble_eq_true rfl)) rfl ?_
          refine mg_iload dL_law_619 0 rfl ?_
          refine mg_i2l dL_law_621 ?_
          refine mg_lcmp dL_law_622 ?_
          refine mg_if_eq (tgt := 628) dL_law_623 (by decide) (fun hc => ?_) (fun hc => ?_)
          · replace h := h.1 hc
            refine mg_goto (tgt := 2408) dL_law_628 (by decide) ?_
            refine mg_iinc (v := x4 + 4) (ls' := [(4, .int (x4 + 4)), (6, .int (v7)), (5, .int (v6)), (0, .ref (900001)), (1, .ref (k1)), (2, .ref (k2)), (3, .ref (k3))]) dL_law_2408 6 rfl rfl (Nat.le_of_ble_eq_true rfl) rfl ?_
            refine mg_goto (tgt := 23) dL_law_2411 (by decide) ?_
            refine mg_bud (bc' := bc - 8) (bs' := bs - 48) (by omega) (by omega) ?_
            exact mg_pick [3, 4, 5, 6, 0] rfl h
          · replace h := h.2 hc
            exact h.elim
      · replace h := h.2 hc
        exact h.elim
    · replace h := h.2 hc
      refine mg_iconst (v := 1) dL_law_590 (by decide) ?_
      refine mg_goto (tgt := 595) dL_law_591 (by decide) ?_
      obtain ⟨q9, hC, hk⟩ := h
      refine ml_Vi [.int (xs (Int32.toNatClampNeg ((x4) + (1 : Int32)))), .int (1)] [] dL_law_595 wd_1444 kiX10_clause (Nat.le_of_ble_eq_true rfl) h2.1.1 h2.1.2 rfl ⟨Nat.le_of_ble_eq_true rfl, Nat.le_of_ble_eq_true rfl⟩ hC (fun v9 M9 hq => ?_)
      replace h := hk v9 M9 hq
      refine mg_istore (ls' := [(6, .int (v9)), (5, .int (v6)), (0, .ref (900001)), (1, .ref (k1)), (2, .ref (k2)), (3, .ref (k3)), (4, .int (x4))]) dL_law_598 (Nat.le_of_ble_eq_true rfl) rfl ?_
      refine mg_aload_n dL_law_600 rfl 4 rfl ?_
      obtain ⟨q10, hC, hk⟩ := h
      refine ml_Vi [] [] dL_law_601 wd_1341 kiX10_thrown (Nat.le_of_ble_eq_true rfl) h2.1.1 h2.1.2 rfl ⟨Nat.le_of_ble_eq_true rfl, Nat.le_of_ble_eq_true rfl⟩ hC (fun v10 M10 hq => ?_)
      replace h := hk v10 M10 hq
      refine mg_iload dL_law_604 1 rfl ?_
      refine mg_icmp_eq (tgt := 611) dL_law_606 (by decide) (fun hc => ?_) (fun hc => ?_)
      · replace h := h.1 hc
        refine mg_iload dL_law_611 1 rfl ?_
        refine mg_if_ne (tgt := 628) dL_law_613 (by decide) (fun hc => ?_) (fun hc => ?_)
        · replace h := h.1 hc
          refine mg_goto (tgt := 2408) dL_law_628 (by decide) ?_
          refine mg_iinc (v := x4 + 4) (ls' := [(4, .int (x4 + 4)), (6, .int (v9)), (5, .int (v6)), (0, .ref (900001)), (1, .ref (k1)), (2, .ref (k2)), (3, .ref (k3))]) dL_law_2408 6 rfl rfl (Nat.le_of_ble_eq_true rfl) rfl ?_
          refine mg_goto (tgt := 23) dL_law_2411 (by decide) ?_
          refine mg_bud (bc' := bc - 8) (bs' := bs - 48) (by omega) (by omega) ?_
          exact mg_pick [3, 4, 5, 6, 0] rfl h
        · replace h := h.2 hc
          refine mg_aload_n dL_law_616 rfl 5 rfl ?_
          refine mg_iconst (v := 0) dL_law_617 (by decide) ?_
          refine mg_lald dL_law_618 h3.1 h3.2 (vp_in_nI (n := 0) (Nat.le_of_ble_eq_true rfl) (Nat.le_of_ble_eq_true rfl)) rfl ?_
          refine mg_iload dL_law_619 0 rfl ?_
          refine mg_i2l dL_law_621 ?_
          refine mg_lcmp dL_law_622 ?_
          refine mg_if_eq (tgt := 628) dL_law_623 (by decide) (fun hc => ?_) (fun hc => ?_)
          · replace h := h.1 hc
            refine mg_goto (tgt := 2408) dL_law_628 (by decide) ?_
            refine mg_iinc (v := x4 + 4) (ls' := [(4, .int (x4 + 4)), (6, .int (v9)), (5, .int (v6)), (0, .ref (900001)), (1, .ref (k1)), (2, .ref (k2)), (3, .ref (k3))]) dL_law_2408 6 rfl rfl (Nat.le_of_ble_eq_true rfl) rfl ?_
            refine mg_goto (tgt := 23) dL_law_2411 (by decide) ?_
            refine mg_bud (bc' := bc - 8) (bs' := bs - 48) (by omega) (by omega) ?_
            exact mg_pick [3, 4, 5, 6, 0] rfl h
          · replace h := h.2 hc
            exact h.elim
      · replace h := h.2 hc
        exact h.elim
theorem cL_law_8 {b L : Nat} {xs : Nat → Int32} {k1 k2 k3 : Nat} {x4 : Int32} {bc bs : Nat} {g : mj_S} {M : mj_M} (h1 : is9 g k1) (h2 : is10 g k2) (h3 : k3 < g.1 ∧ g.2.1 k3 = (1, 2, 1)) (hb1 : 8 ≤ bc) (hb2 : 48 ≤ bs) (h : ∃ (q1 : Int32 → mj_M → Prop), kX9_contradictory (k1) g (M) q1 ∧ ∀ (v1 : Int32) (M1 : mj_M), q1 v1 M1 → (∃ (q2 : Int32 → mj_M → Prop), kX10_contradictory (k2) g (M1) q2 ∧ ∀ (v2 : Int32) (M2 : mj_M), q2 v2 M2 → (((v1 : Int32) = (v2) → LL_23 b L xs k1 k2 k3 (x4 + 4) (bc - 8) (bs - 48) g (M2)) ∧ (¬ (v1 : Int32) = (v2) → False)))) : mj_G (mj_mtL b L xs) room_1 (mj_FL b) false bc bs 631 [(0, .ref (900001)), (1, .ref (k1)), (2, .ref (k2)), (3, .ref (k3)), (4, .int (x4))] [] g M := by
  refine mg_aload_n dL_law_631 rfl 1 rfl ?_
  obtain ⟨q1, hC, hk⟩ := h
  refine ml_Vi [] [] dL_law_632 wd_282 kiX9_contradictory (Nat.le_of_ble_eq_true rfl) h1.1.1 h1.1.2 rfl ⟨Nat.le_of_ble_eq_true rfl, Nat.le_of_ble_eq_true rfl⟩ hC (fun v1 M1 hq => ?_)
  replace h := hk v1 M1 hq
  refine mg_aload_n dL_law_635 rfl 2 rfl ?_
  obtain ⟨q2, hC, hk⟩ := h
  refine ml_Vi [] [.int (v1)] dL_law_636 wd_1452 kiX10_contradictory (Nat.le_of_ble_eq_true rfl) h2.1.1 h2.1.2 rfl ⟨Nat.le_of_ble_eq_true rfl, Nat.le_of_ble_eq_true rfl⟩ hC (fun v2 M2 hq => ?_)
  replace h := hk v2 M2 hq
  refine mg_icmp_eq (tgt := 2408) dL_law_639 (by decide) (fun hc => ?_) (fun hc => ?_)
  · replace h := h.1 hc
    refine mg_iinc (v := x4 + 4) (ls' := [(4, .int (x4 + 4)), (0, .ref (900001)), (1, .ref (k1)), (2, .ref (k2)), (3, .ref (k3))]) dL_law_2408 4 rfl rfl (Nat.le_of_ble_eq_true rfl) rfl ?_
    refine mg_goto (tgt := 23) dL_law_2411 (by decide) ?_
    refine mg_bud (bc' := bc - 8) (bs' := bs - 48) (by omega) (by omega) ?_
    exact mg_pick [1, 2, 3, 4, 0] rfl h
  · replace h := h.2 hc
    exact h.elim
theorem cL_law_9 {b L : Nat} {xs : Nat → Int32} {k1 k2 k3 : Nat} {x4 : Int32} {bc bs : Nat} {g : mj_S} {M : mj_M} (h1 : is9 g k1) (h2 : is10 g k2) (h3 : k3 < g.1 ∧ g.2.1 k3 = (1, 2, 1)) (hb1 : 8 ≤ bc) (hb2 : 48 ≤ bs) (h : vp_in ((x4) + (1 : Int32)) L ∧ (∃ (q1 : Int32 → mj_M → Prop), kL_status (k1) (xs (Int32.toNatClampNeg ((x4) + (1 : Int32)))) (k3) g (M) q1 ∧ ∀ (v1 : Int32) (M1 : mj_M), q1 v1 M1 → (vp_in ((x4) + (1 : Int32)) L ∧ (∃ (q2 : Int32 → mj_M → Prop), kX10_status (k2) (xs (Int32.toNatClampNeg ((x4) + (1 : Int32)))) g (M1) q2 ∧ ∀ (v2 : Int32) (M2 : mj_M), q2 v2 M2 → (∃ (q3 : Int32 → mj_M → Prop), kX10_thrown (k2) g (M2) q3 ∧ ∀ (v3 : Int32) (M3 : mj_M), q3 v3 M3 → (((v3 : Int32) = (v1) → (¬ (v1 : Int32) = 0 → LL_23 b L xs k1 k2 k3 (x4 + 4) (bc - 8) (bs - 48) g (M3)) ∧ ((v1 : Int32) = 0 → ((lg_cmp ((M3).2.1 (k3) (Int32.toNatClampNeg (0))) (Int32.toInt64 (v2)) : Int32) = 0 → LL_23 b L xs k1 k2 k3 (x4 + 4) (bc - 8) (bs - 48) g (M3)) ∧ (¬ (lg_cmp ((M3).2.1 (k3) (Int32.toNatClampNeg (0))) (Int32.toInt64 (v2)) : Int32) = 0 → False))) ∧ (¬ (v3 : Int32) = (v1) → False))))))) : mj_G (mj_mtL b L xs) room_1 (mj_FL b) false bc bs 644 [(0, .ref (900001)), (1, .ref (k1)), (2, .ref (k2)), (3, .ref (k3)), (4, .int (x4))] [] g M := by
  refine mg_aload_n dL_law_644 rfl 1 rfl ?_
  refine mg_aload_n dL_law_645 rfl 0 rfl ?_
  refine mg_iload dL_law_646 4 rfl ?_
  refine mg_iconst (v := 1) dL_law_648 (by decide) ?_
  refine mg_iadd dL_law_649 ?_
  refine mg_sld (b := b) (L := L) (xs := xs) rfl dL_law_650 h.1 ?_
  replace h := h.2
  refine mg_aload_n dL_law_651 rfl 3 rfl ?_
  obtain ⟨q1, hC, hk⟩ := h
  refine mw_H2 [.ref (k1), .int (xs (Int32.toNatClampNeg ((x4) + (1 : Int32)))), .ref (k3)] [] dL_law_652 wd_849 kiL_status ⟨Nat.le_of_ble_eq_true rfl, Nat.le_of_ble_eq_true rfl⟩ (Nat.le_of_ble_eq_true rfl) ⟨by omega, by omega⟩ hC (fun v1 M1 hq => ?_)
  replace h := hk v1 M1 hq
  refine mg_istore (ls' := [(5, .int (v1)), (0, .ref (900001)), (1, .ref (k1)), (2, .ref (k2)), (3, .ref (k3)), (4, .int (x4))]) dL_law_655 (Nat.le_of_ble_eq_true rfl) rfl ?_
  refine mg_aload_n dL_law_657 rfl 3 rfl ?_
  refine mg_aload_n dL_law_658 rfl 1 rfl ?_
  refine mg_iload dL_law_659 5 rfl ?_
  refine mg_iconst (v := 1) dL_law_661 (by decide) ?_
  refine mg_iadd dL_law_662 ?_
  refine mg_sld (b := b) (L := L) (xs := xs) rfl dL_law_663 h.1 ?_
  replace h := h.2
  obtain ⟨q2, hC, hk⟩ := h
  refine ml_Vi [.int (xs (Int32.toNatClampNeg ((x4) + (1 : Int32))))] [] dL_law_664 wd_1456 kiX10_status (Nat.le_of_ble_eq_true rfl) h2.1.1 h2.1.2 rfl ⟨Nat.le_of_ble_eq_true rfl, Nat.le_of_ble_eq_true rfl⟩ hC (fun v2 M2 hq => ?_)
  replace h := hk v2 M2 hq
  refine mg_istore (ls' := [(6, .int (v2)), (5, .int (v1)), (0, .ref (900001)), (1, .ref (k1)), (2, .ref (k2)), (3, .ref (k3)), (4, .int (x4))]) dL_law_667 (Nat.le_of_ble_eq_true rfl) rfl ?_
  refine mg_aload_n dL_law_669 rfl 4 rfl ?_
  obtain ⟨q3, hC, hk⟩ := h
  refine ml_Vi [] [] dL_law_670 wd_1341 kiX10_thrown (Nat.le_of_ble_eq_true rfl) h2.1.1 h2.1.2 rfl ⟨Nat.le_of_ble_eq_true rfl, Nat.le_of_ble_eq_true rfl⟩ hC (fun v3 M3 hq => ?_)
  replace h := hk v3 M3 hq
  refine mg_iload dL_law_673 1 rfl ?_
  refine mg_icmp_eq (tgt := 680) dL_law_675 (by decide) (fun hc => ?_) (fun hc => ?_)
  · replace h := h.1 hc
    refine mg_iload dL_law_680 1 rfl ?_
    refine mg_if_ne (tgt := 697) dL_law_682 (by decide) (fun hc => ?_) (fun hc => ?_)
    · replace h := h.1 hc
      refine mg_goto (tgt := 2408) dL_law_697 (by decide) ?_
      refine mg_iinc (v := x4 + 4) (ls' := [(4, .int (x4 + 4)), (6, .int (v2)), (5, .int (v1)), (0, .ref (900001)), (1, .ref (k1)), (2, .ref (k2)), (3, .ref (k3))]) dL_law_2408 6 rfl rfl (Nat.le_of_ble_eq_true rfl) rfl ?_
      refine mg_goto (tgt := 23) dL_law_2411 (by decide) ?_
      refine mg_bud (bc' := bc - 8) (bs' := bs - 48) (by omega) (by omega) ?_
      exact mg_pick [3, 4, 5, 6, 0] rfl h
    · replace h := h.2 hc
      refine mg_aload_n dL_law_685 rfl 5 rfl ?_
      refine mg_iconst (v := 0) dL_law_686 (by decide) ?_
      refine mg_lald dL_law_687 h3.1 h3.2 (vp_in_nI (n := 0) (Nat.le_of_ble_eq_true rfl) (Nat.le_of_ble_eq_true rfl)) rfl ?_
      refine mg_iload dL_law_688 0 rfl ?_
      refine mg_i2l dL_law_690 ?_
      refine mg_lcmp dL_law_691 ?_
      refine mg_if_eq (tgt := 697) dL_law_692 (by decide) (fun hc => ?_) (fun hc => ?_)
      · replace h := h.1 hc
        refine mg_goto (tgt := 2408) dL_law_697 (by decide) ?_
        refine mg_iinc (v := x4 + 4) (ls' := [(4, .int (x4 + 4)), (6, .int (v2)), (5, .int (v1)), (0, .ref (900001)), (1, .ref (k1)), (2, .ref (k2)), (3, .ref (k3))]) dL_law_2408 6 rfl rfl (Nat.le_of_ble_eq_true rfl) rfl ?_
        refine mg_goto (tgt := 23) dL_law_2411 (by decide) ?_
        refine mg_bud (bc' := bc - 8) (bs' := bs - 48) (by omega) (by omega) ?_
        exact mg_pick [3, 4, 5, 6, 0] rfl h
      · replace h := h.2 hc
        exact h.elim
  · replace h := h.2 hc
    exact h.elim
theorem cL_law_10 {b L : Nat} {xs : Nat → Int32} {k1 k2 k3 : Nat} {x4 : Int32} {bc bs : Nat} {g : mj_S} {M : mj_M} (h1 : is9 g k1) (h2 : is10 g k2) (h3 : k3 < g.1 ∧ g.2.1 k3 = (1, 2, 1)) (hb1 : 8 ≤ bc) (hb2 : 48 ≤ bs) (h : vp_in ((x4) + (1 : Int32)) L ∧ (∃ (q1 : Int32 → mj_M → Prop), kL_value (k1) (xs (Int32.toNatClampNeg ((x4) + (1 : Int32)))) (k3) g (M) q1 ∧ ∀ (v1 : Int32) (M1 : mj_M), q1 v1 M1 → (vp_in ((x4) + (1 : Int32)) L ∧ (∃ (q2 : Int32 → mj_M → Prop), kX10_value (k2) (xs (Int32.toNatClampNeg ((x4) + (1 : Int32)))) g (M1) q2 ∧ ∀ (v2 : Int32) (M2 : mj_M), q2 v2 M2 → (∃ (q3 : Int32 → mj_M → Prop), kX10_thrown (k2) g (M2) q3 ∧ ∀ (v3 : Int32) (M3 : mj_M), q3 v3 M3 → (((v3 : Int32) = (v1) → (¬ (v1 : Int32) = 0 → LL_23 b L xs k1 k2 k3 (x4 + 4) (bc - 8) (bs - 48) g (M3)) ∧ ((v1 : Int32) = 0 → ((lg_cmp ((M3).2.1 (k3) (Int32.toNatClampNeg (0))) (Int32.toInt64 (v2)) : Int32) = 0 → LL_23 b L xs k1 k2 k3 (x4 + 4) (bc - 8) (bs - 48) g (M3)) ∧ (¬ (lg_cmp ((M3).2.1 (k3) (Int32.toNatClampNeg (0))) (Int32.toInt64 (v2)) : Int32) = 0 → False))) ∧ (¬ (v3 : Int32) = (v1) → False))))))) : mj_G (mj_mtL b L xs) room_1 (mj_FL b) false bc bs 700 [(0, .ref (900001)), (1, .ref (k1)), (2, .ref (k2)), (3, .ref (k3)), (4, .int (x4))] [] g M := by
  refine mg_aload_n dL_law_700 rfl 1 rfl ?_
  refine mg_aload_n dL_law_701 rfl 0 rfl ?_
  refine mg_iload dL_law_702 4 rfl ?_
  refine mg_iconst (v := 1) dL_law_704 (by decide) ?_
  refine mg_iadd dL_law_705 ?_
  refine mg_sld (b := b) (L := L) (xs := xs) rfl dL_law_706 h.1 ?_
  replace h := h.2
  refine mg_aload_n dL_law_707 rfl 3 rfl ?_
  obtain ⟨q1, hC, hk⟩ := h
  refine mw_H2 [.ref (k1), .int (xs (Int32.toNatClampNeg ((x4) + (1 : Int32)))), .ref (k3)] [] dL_law_708 wd_861 kiL_value ⟨Nat.le_of_ble_eq_true rfl, Nat.le_of_ble_eq_true rfl⟩ (Nat.le_of_ble_eq_true rfl) ⟨by omega, by omega⟩ hC (fun v1 M1 hq => ?_)
  replace h := hk v1 M1 hq
  refine mg_istore (ls' := [(5, .int (v1)), (0, .ref (900001)), (1, .ref (k1)), (2, .ref (k2)), (3, .ref (k3)), (4, .int (x4))]) dL_law_711 (Nat.le_of_ble_eq_true rfl) rfl ?_
  refine mg_aload_n dL_law_713 rfl 3 rfl ?_
  refine mg_aload_n dL_law_714 rfl 1 rfl ?_
  refine mg_iload dL_law_715 5 rfl ?_
  refine mg_iconst (v := 1) dL_law_717 (by decide) ?_
  refine mg_iadd dL_law_718 ?_
  refine mg_sld (b := b) (L := L) (xs := xs) rfl dL_law_719 h.1 ?_
  replace h := h.2
  obtain ⟨q2, hC, hk⟩ := h
  refine ml_Vi [.int (xs (Int32.toNatClampNeg ((x4) + (1 : Int32))))] [] dL_law_720 wd_1464 kiX10_value (Nat.le_of_ble_eq_true rfl) h2.1.1 h2.1.2 rfl ⟨Nat.le_of_ble_eq_true rfl, Nat.le_of_ble_eq_true rfl⟩ hC (fun v2 M2 hq => ?_)
  replace h := hk v2 M2 hq
  refine mg_istore (ls' := [(6, .int (v2)), (5, .int (v1)), (0, .ref (900001)), (1, .ref (k1)), (2, .ref (k2)), (3, .ref (k3)), (4, .int (x4))]) dL_law_723 (Nat.le_of_ble_eq_true rfl) rfl ?_
  refine mg_aload_n dL_law_725 rfl 4 rfl ?_
  obtain ⟨q3, hC, hk⟩ := h
  refine ml_Vi [] [] dL_law_726 wd_1341 kiX10_thrown (Nat.le_of_ble_eq_true rfl) h2.1.1 h2.1.2 rfl ⟨Nat.le_of_ble_eq_true rfl, Nat.le_of_ble_eq_true rfl⟩ hC (fun v3 M3 hq => ?_)
  replace h := hk v3 M3 hq
  refine mg_iload dL_law_729 1 rfl ?_
  refine mg_icmp_eq (tgt := 736) dL_law_731 (by decide) (fun hc => ?_) (fun hc => ?_)
  · replace h := h.1 hc
    refine mg_iload dL_law_736 1 rfl ?_
    refine mg_if_ne (tgt := 753) dL_law_738 (by decide) (fun hc => ?_) (fun hc => ?_)
    · replace h := h.1 hc
      refine mg_goto (tgt := 2408) dL_law_753 (by decide) ?_
      refine mg_iinc (v := x4 + 4) (ls' := [(4, .int (x4 + 4)), (6, .int (v2)), (5, .int (v1)), (0, .ref (900001)), (1, .ref (k1)), (2, .ref (k2)), (3, .ref (k3))]) dL_law_2408 6 rfl rfl (Nat.le_of_ble_eq_true rfl) rfl ?_
      refine mg_goto (tgt := 23) dL_law_2411 (by decide) ?_
      refine mg_bud (bc' := bc - 8) (bs' := bs - 48) (by omega) (by omega) ?_
      exact mg_pick [3, 4, 5, 6, 0] rfl h
    · replace h := h.2 hc
      refine mg_aload_n dL_law_741 rfl 5 rfl ?_
      refine mg_iconst (v := 0) dL_law_742 (by decide) ?_
      refine mg_lald dL_law_743 h3.1 h3.2 (vp_in_nI (n := 0) (Nat.le_of_ble_eq_true rfl) (Nat.le_of_ble_eq_true rfl)) rfl ?_
      refine mg_iload dL_law_744 0 rfl ?_
      refine mg_i2l dL_law_746 ?_
      refine mg_lcmp dL_law_747 ?_
      refine mg_if_eq (tgt := 753) dL_law_748 (by decide) (fun hc => ?_) (fun hc => ?_)
      · replace h := h.1 hc
        refine mg_goto (tgt := 2408) dL_law_753 (by decide) ?_
        refine mg_iinc (v := x4 + 4) (ls' := [(4, .int (x4 + 4)), (6, .int (v2)), (5, .int (v1)), (0, .ref (900001)), (1, .ref (k1)), (2, .ref (k2)), (3, .ref (k3))]) dL_law_2408 6 rfl rfl (Nat.le_of_ble_eq_true rfl) rfl ?_
        refine mg_goto (tgt := 23) dL_law_2411 (by decide) ?_
        refine mg_bud (bc' := bc - 8) (bs' := bs - 48) (by omega) (by omega) ?_
        exact mg_pick [3, 4, 5, 6, 0] rfl h
      · replace h := h.2 hc
        exact h.elim
  · replace h := h.2 hc
    exact h.elim
theorem cL_law_11 {b L : Nat} {xs : Nat → Int32} {k1 k2 k3 : Nat} {x4 : Int32} {bc bs : Nat} {g : mj_S} {M : mj_M} (h1 : is9 g k1) (h2 : is10 g k2) (h3 : k3 < g.1 ∧ g.2.1 k3 = (1, 2, 1)) (hb1 : 8 ≤ bc) (hb2 : 48 ≤ bs) (h : vp_in ((x4) + (1 : Int32)) L ∧ (∃ (q1 : Int32 → mj_M → Prop), kL_occurrences (k1) (xs (Int32.toNatClampNeg ((x4) + (1 : Int32)))) (k3) g (M) q1 ∧ ∀ (v1 : Int32) (M1 : mj_M), q1 v1 M1 → (vp_in ((x4) + (1 : Int32)) L ∧ (∃ (q2 : Int32 → mj_M → Prop), kX10_occurrences (k2) (xs (Int32.toNatClampNeg ((x4) + (1 : Int32)))) g (M1) q2 ∧ ∀ (v2 : Int32) (M2 : mj_M), q2 v2 M2 → (∃ (q3 : Int32 → mj_M → Prop), kX10_thrown (k2) g (M2) q3 ∧ ∀ (v3 : Int32) (M3 : mj_M), q3 v3 M3 → (((v3 : Int32) = (v1) → (¬ (v1 : Int32) = 0 → LL_23 b L xs k1 k2 k3 (x4 + 4) (bc - 8) (bs - 48) g (M3)) ∧ ((v1 : Int32) = 0 → ((lg_cmp ((M3).2.1 (k3) (Int32.toNatClampNeg (0))) (Int32.toInt64 (v2)) : Int32) = 0 → LL_23 b L xs k1 k2 k3 (x4 + 4) (bc - 8) (bs - 48) g (M3)) ∧ (¬ (lg_cmp ((M3).2.1 (k3) (Int32.toNatClampNeg (0))) (Int32.toInt64 (v2)) : Int32) = 0 → False))) ∧ (¬ (v3 : Int32) = (v1) → False))))))) : mj_G (mj_mtL b L xs) room_1 (mj_FL b) false bc bs 756 [(0, .ref (900001)), (1, .ref (k1)), (2, .ref (k2)), (3, .ref (k3)), (4, .int (x4))] [] g M := by
  refine mg_aload_n dL_law_756 rfl 1 rfl ?_
  refine mg_aload_n dL_law_757 rfl 0 rfl ?_
  refine mg_iload dL_law_758 4 rfl ?_
  refine mg_iconst (v := 1) dL_law_760 (by decide) ?_
  refine mg_iadd dL_law_761 ?_
  refine mg_sld (b := b) (L := L) (xs := xs) rfl dL_law_762 h.1 ?_
  replace h := h.2
  refine mg_aload_n dL_law_763 rfl 3 rfl ?_
  obtain ⟨q1, hC, hk⟩ := h
  refine mw_H2 [.ref (k1), .int (xs (Int32.toNatClampNeg ((x4) + (1 : Int32)))), .ref (k3)] [] dL_law_764 wd_868 kiL_occurrences ⟨Nat.le_of_ble_eq_true rfl, Nat.le_of_ble_eq_true rfl⟩ (Nat.le_of_ble_eq_true rfl) ⟨by omega, by omega⟩ hC (fun v1 M1 hq => ?_)
  replace h := hk v1 M1 hq
  refine mg_istore (ls' := [(5, .int (v1)), (0, .ref (900001)), (1, .ref (k1)), (2, .ref (k2)), (3, .ref (k3)), (4, .int (x4))]) dL_law_767 (Nat.le_of_ble_eq_true rfl) rfl ?_
  refine mg_aload_n dL_law_769 rfl 3 rfl ?_
  refine mg_aload_n dL_law_770 rfl 1 rfl ?_
  refine mg_iload dL_law_771 5 rfl ?_
  refine mg_iconst (v := 1) dL_law_773 (by decide) ?_
  refine mg_iadd dL_law_774 ?_
  refine mg_sld (b := b) (L := L) (xs := xs) rfl dL_law_775 h.1 ?_
  replace h := h.2
  obtain ⟨q2, hC, hk⟩ := h
  refine ml_Vi [.int (xs (Int32.toNatClampNeg ((x4) + (1 : Int32))))] [] dL_law_776 wd_1468 kiX10_occurrences (Nat.le_of_ble_eq_true rfl) h2.1.1 h2.1.2 rfl ⟨Nat.le_of_ble_eq_true rfl, Nat.le_of_ble_eq_true rfl⟩ hC (fun v2 M2 hq => ?_)
  replace h := hk v2 M2 hq
  refine mg_istore (ls' := [(6, .int (v2)), (5, .int (v1)), (0, .ref (900001)), (1, .ref (k1)), (2, .ref (k2)), (3, .ref (k3)), (4, .int (x4))]) dL_law_779 (Nat.le_of_ble_eq_true rfl) rfl ?_
  refine mg_aload_n dL_law_781 rfl 4 rfl ?_
  obtain ⟨q3, hC, hk⟩ := h
  refine ml_Vi [] [] dL_law_782 wd_1341 kiX10_thrown (Nat.le_of_ble_eq_true rfl) h2.1.1 h2.1.2 rfl ⟨Nat.le_of_ble_eq_true rfl, Nat.le_of_ble_eq_true rfl⟩ hC (fun v3 M3 hq => ?_)
  replace h := hk v3 M3 hq
  refine mg_iload dL_law_785 1 rfl ?_
  refine mg_icmp_eq (tgt := 792) dL_law_787 (by decide) (fun hc => ?_) (fun hc => ?_)
  · replace h := h.1 hc
    refine mg_iload dL_law_792 1 rfl ?_
    refine mg_if_ne (tgt := 809) dL_law_794 (by decide) (fun hc => ?_) (fun hc => ?_)
    · replace h := h.1 hc
      refine mg_goto (tgt := 2408) dL_law_809 (by decide) ?_
      refine mg_iinc (v := x4 + 4) (ls' := [(4, .int (x4 + 4)), (6, .int (v2)), (5, .int (v1)), (0, .ref (900001)), (1, .ref (k1)), (2, .ref (k2)), (3, .ref (k3))]) dL_law_2408 6 rfl rfl (Nat.le_of_ble_eq_true rfl) rfl ?_
      refine mg_goto (tgt := 23) dL_law_2411 (by decide) ?_
      refine mg_bud (bc' := bc - 8) (bs' := bs - 48) (by omega) (by omega) ?_
      exact mg_pick [3, 4, 5, 6, 0] rfl h
    · replace h := h.2 hc
      refine mg_aload_n dL_law_797 rfl 5 rfl ?_
      refine mg_iconst (v := 0) dL_law_798 (by decide) ?_
      refine mg_lald dL_law_799 h3.1 h3.2 (vp_in_nI (n := 0) (Nat.le_of_ble_eq_true rfl) (Nat.le_of_ble_eq_true rfl)) rfl ?_
      refine mg_iload dL_law_800 0 rfl ?_
      refine mg_i2l dL_law_802 ?_
      refine mg_lcmp dL_law_803 ?_
      refine mg_if_eq (tgt := 809) dL_law_804 (by decide) (fun hc => ?_) (fun hc => ?_)
      · replace h := h.1 hc
        refine mg_goto (tgt := 2408) dL_law_809 (by decide) ?_
        refine mg_iinc (v := x4 + 4) (ls' := [(4, .int (x4 + 4)), (6, .int (v2)), (5, .int (v1)), (0, .ref (900001)), (1, .ref (k1)), (2, .ref (k2)), (3, .ref (k3))]) dL_law_2408 6 rfl rfl (Nat.le_of_ble_eq_true rfl) rfl ?_
        refine mg_goto (tgt := 23) dL_law_2411 (by decide) ?_
        refine mg_bud (bc' := bc - 8) (bs' := bs - 48) (by omega) (by omega) ?_
        exact mg_pick [3, 4, 5, 6, 0] rfl h
      · replace h := h.2 hc
        exact h.elim
  · replace h := h.2 hc
    exact h.elim
theorem cL_law_12 {b L : Nat} {xs : Nat → Int32} {k1 k2 k3 : Nat} {x4 : Int32} {bc bs : Nat} {g : mj_S} {M : mj_M} (h1 : is9 g k1) (h2 : is10 g k2) (h3 : k3 < g.1 ∧ g.2.1 k3 = (1, 2, 1)) (hb1 : 8 ≤ bc) (hb2 : 48 ≤ bs) (h : vp_in ((x4) + (1 : Int32)) L ∧ (∃ (q1 : Int32 → mj_M → Prop), kL_append (k1) (xs (Int32.toNatClampNeg ((x4) + (1 : Int32)))) (k3) g (M) q1 ∧ ∀ (v1 : Int32) (M1 : mj_M), q1 v1 M1 → (vp_in ((x4) + (1 : Int32)) L ∧ (∃ (q2 : Int32 → mj_M → Prop), kX10_append (k2) (xs (Int32.toNatClampNeg ((x4) + (1 : Int32)))) g (M1) q2 ∧ ∀ (v2 : Int32) (M2 : mj_M), q2 v2 M2 → (∃ (q3 : Int32 → mj_M → Prop), kX10_thrown (k2) g (M2) q3 ∧ ∀ (v3 : Int32) (M3 : mj_M), q3 v3 M3 → (((v3 : Int32) = (v1) → (¬ (v1 : Int32) = 0 → LL_23 b L xs k1 k2 k3 (x4 + 4) (bc - 8) (bs - 48) g (M3)) ∧ ((v1 : Int32) = 0 → ((lg_cmp ((M3).2.1 (k3) (Int32.toNatClampNeg (0))) (Int32.toInt64 (v2)) : Int32) = 0 → LL_23 b L xs k1 k2 k3 (x4 + 4) (bc - 8) (bs - 48) g (M3)) ∧ (¬ (lg_cmp ((M3).2.1 (k3) (Int32.toNatClampNeg (0))) (Int32.toInt64 (v2)) : Int32) = 0 → False))) ∧ (¬ (v3 : Int32) = (v1) → False))))))) : mj_G (mj_mtL b L xs) room_1 (mj_FL b) false bc bs 812 [(0, .ref (900001)), (1, .ref (k1)), (2, .ref (k2)), (3, .ref (k3)), (4, .int (x4))] [] g M := by
  refine mg_aload_n dL_law_812 rfl 1 rfl ?_
  refine mg_aload_n dL_law_813 rfl 0 rfl ?_
  refine mg_iload dL_law_814 4 rfl ?_
  refine mg_iconst (v := 1) dL_law_816 (by decide) ?_
  refine mg_iadd dL_law_817 ?_
  refine mg_sld (b := b) (L := L) (xs := xs) rfl dL_law_818 h.1 ?_
  replace h := h.2
  refine mg_aload_n dL_law_819 rfl 3 rfl ?_
  obtain ⟨q1, hC, hk⟩ := h
  refine mw_H2 [.ref (k1), .int (xs (Int32.toNatClampNeg ((x4) + (1 : Int32)))), .ref (k3)] [] dL_law_820 wd_881 kiL_append ⟨Nat.le_of_ble_eq_true rfl, Nat.le_of_ble_eq_true rfl⟩ (Nat.le_of_ble_eq_true rfl) ⟨by omega, by omega⟩ hC (fun v1 M1 hq => ?_)
  replace h := hk v1 M1 hq
  refine mg_istore (ls' := [(5, .int (v1)), (0, .ref (900001)), (1, .ref (k1)), (2, .ref (k2)), (3, .ref (k3)), (4, .int (x4))]) dL_law_823 (Nat.le_of_ble_eq_true rfl) rfl ?_
  refine mg_aload_n dL_law_825 rfl 3 rfl ?_
  refine mg_aload_n dL_law_826 rfl 1 rfl ?_
  refine mg_iload dL_law_827 5 rfl ?_
  refine mg_iconst (v := 1) dL_law_829 (by decide) ?_
  refine mg_iadd dL_law_830 ?_
  refine mg_sld (b := b) (L := L) (xs := xs) rfl dL_law_831 h.1 ?_
  replace h := h.2
  obtain ⟨q2, hC, hk⟩ := h
  refine ml_Vi [.int (xs (Int32.toNatClampNeg ((x4) + (1 : Int32))))] [] dL_law_832 wd_1480 kiX10_append (Nat.le_of_ble_eq_true rfl) h2.1.1 h2.1.2 rfl ⟨Nat.le_of_ble_eq_true rfl, Nat.le_of_ble_eq_true rfl⟩ hC (fun v2 M2 hq => ?_)
  replace h := hk v2 M2 hq
  refine mg_istore (ls' := [(6, .int (v2)), (5, .int (v1)), (0, .ref (900001)), (1, .ref (k1)), (2, .ref (k2)), (3, .ref (k3)), (4, .int (x4))]) dL_law_835 (Nat.le_of_ble_eq_true rfl) rfl ?_
  refine mg_aload_n dL_law_837 rfl 4 rfl ?_
  obtain ⟨q3, hC, hk⟩ := h
  refine ml_Vi [] [] dL_law_838 wd_1341 kiX10_thrown (Nat.le_of_ble_eq_true rfl) h2.1.1 h2.1.2 rfl ⟨Nat.le_of_ble_eq_true rfl, Nat.le_of_ble_eq_true rfl⟩ hC (fun v3 M3 hq => ?_)
  replace h := hk v3 M3 hq
  refine mg_iload dL_law_841 1 rfl ?_
  refine mg_icmp_eq (tgt := 848) dL_law_843 (by decide) (fun hc => ?_) (fun hc => ?_)
  · replace h := h.1 hc
    refine mg_iload dL_law_848 1 rfl ?_
    refine mg_if_ne (tgt := 865) dL_law_850 (by decide) (fun hc => ?_) (fun hc => ?_)
    · replace h := h.1 hc
      refine mg_goto (tgt := 2408) dL_law_865 (by decide) ?_
      refine mg_iinc (v := x4 + 4) (ls' := [(4, .int (x4 + 4)), (6, .int (v2)), (5, .int (v1)), (0, .ref (900001)), (1, .ref (k1)), (2, .ref (k2)), (3, .ref (k3))]) dL_law_2408 6 rfl rfl (Nat.le_of_ble_eq_true rfl) rfl ?_
      refine mg_goto (tgt := 23) dL_law_2411 (by decide) ?_
      refine mg_bud (bc' := bc - 8) (bs' := bs - 48) (by omega) (by omega) ?_
      exact mg_pick [3, 4, 5, 6, 0] rfl h
    · replace h := h.2 hc
      refine mg_aload_n dL_law_853 rfl 5 rfl ?_
      refine mg_iconst (v := 0) dL_law_854 (by decide) ?_
      refine mg_lald dL_law_855 h3.1 h3.2 (vp_in_nI (n := 0) (Nat.le_of_ble_eq_true rfl) (Nat.le_of_ble_eq_true rfl)) rfl ?_
      refine mg_iload dL_law_856 0 rfl ?_
      refine mg_i2l dL_law_858 ?_
      refine mg_lcmp dL_law_859 ?_
      refine mg_if_eq (tgt := 865) dL_law_860 (by decide) (fun hc => ?_) (fun hc => ?_)
      · replace h := h.1 hc
        refine mg_goto (tgt := 2408) dL_law_865 (by decide) ?_
        refine mg_iinc (v := x4 + 4) (ls' := [(4, .int (x4 + 4)), (6, .int (v2)), (5, .int (v1)), (0, .ref (900001)), (1, .ref (k1)), (2, .ref (k2)), (3, .ref (k3))]) dL_law_2408 6 rfl rfl (Nat.le_of_ble_eq_true rfl) rfl ?_
        refine mg_goto (tgt := 23) dL_law_2411 (by decide) ?_
        refine mg_bud (bc' := bc - 8) (bs' := bs - 48) (by omega) (by omega) ?_
        exact mg_pick [3, 4, 5, 6, 0] rfl h
      · replace h := h.2 hc
        exact h.elim
  · replace h := h.2 hc
    exact h.elim
theorem cL_law_13 {b L : Nat} {xs : Nat → Int32} {k1 k2 k3 : Nat} {x4 : Int32} {bc bs : Nat} {g : mj_S} {M : mj_M} (h1 : is9 g k1) (h2 : is10 g k2) (h3 : k3 < g.1 ∧ g.2.1 k3 = (1, 2, 1)) (hb1 : 8 ≤ bc) (hb2 : 48 ≤ bs) (h : ∃ (q1 : Int32 → mj_M → Prop), kX9_clearText (k1) g (M) q1 ∧ ∀ (v1 : Int32) (M1 : mj_M), q1 v1 M1 → (∃ (q2 : Int32 → mj_M → Prop), kX10_clearText (k2) g (M1) q2 ∧ ∀ (v2 : Int32) (M2 : mj_M), q2 v2 M2 → (((v1 : Int32) = (v2) → LL_23 b L xs k1 k2 k3 (x4 + 4) (bc - 8) (bs - 48) g (M2)) ∧ (¬ (v1 : Int32) = (v2) → False)))) : mj_G (mj_mtL b L xs) room_1 (mj_FL b) false bc bs 868 [(0, .ref (900001)), (1, .ref (k1)), (2, .ref (k2)), (3, .ref (k3)), (4, .int (x4))] [] g M := by
  refine mg_aload_n dL_law_868 rfl 1 rfl ?_
  obtain ⟨q1, hC, hk⟩ := h
  refine ml_Vi [] [] dL_law_869 wd_294 kiX9_clearText (Nat.le_of_ble_eq_true rfl) h1.1.1 h1.1.2 rfl ⟨Nat.le_of_ble_eq_true rfl, Nat.le_of_ble_eq_true rfl⟩ hC (fun v1 M1 hq => ?_)
  replace h := hk v1 M1 hq
  refine mg_aload_n dL_law_872 rfl 2 rfl ?_
  obtain ⟨q2, hC, hk⟩ := h
  refine ml_Vi [] [.int (v1)] dL_law_873 wd_1484 kiX10_clearText (Nat.le_of_ble_eq_true rfl) h2.1.1 h2.1.2 rfl ⟨Nat.le_of_ble_eq_true rfl, Nat.le_of_ble_eq_true rfl⟩ hC (fun v2 M2 hq => ?_)
  replace h := hk v2 M2 hq
  refine mg_icmp_eq (tgt := 2408) dL_law_876 (by decide) (fun hc => ?_) (fun hc => ?_)
  · replace h := h.1 hc
    refine mg_iinc (v := x4 + 4) (ls' := [(4, .int (x4 + 4)), (0, .ref (900001)), (1, .ref (k1)), (2, .ref (k2)), (3, .ref (k3))]) dL_law_2408 4 rfl rfl (Nat.le_of_ble_eq_true rfl) rfl ?_
    refine mg_goto (tgt := 23) dL_law_2411 (by decide) ?_
    refine mg_bud (bc' := bc - 8) (bs' := bs - 48) (by omega) (by omega) ?_
    exact mg_pick [1, 2, 3, 4, 0] rfl h
  · replace h := h.2 hc
    exact h.elim
theorem cL_law_14 {b L : Nat} {xs : Nat → Int32} {k1 k2 k3 : Nat} {x4 : Int32} {bc bs : Nat} {g : mj_S} {M : mj_M} (h1 : is9 g k1) (h2 : is10 g k2) (h3 : k3 < g.1 ∧ g.2.1 k3 = (1, 2, 1)) (hb1 : 8 ≤ bc) (hb2 : 48 ≤ bs) (h : ∃ (q1 : Int32 → mj_M → Prop), kL_readClauses (k1) (k3) g (M) q1 ∧ ∀ (v1 : Int32) (M1 : mj_M), q1 v1 M1 → (∃ (q2 : Int32 → mj_M → Prop), kX10_readClauses (k2) g (M1) q2 ∧ ∀ (v2 : Int32) (M2 : mj_M), q2 v2 M2 → (∃ (q3 : Int32 → mj_M → Prop), kX10_thrown (k2) g (M2) q3 ∧ ∀ (v3 : Int32) (M3 : mj_M), q3 v3 M3 → (((v3 : Int32) = (v1) → (¬ (v1 : Int32) = 0 → LL_23 b L xs k1 k2 k3 (x4 + 4) (bc - 8) (bs - 48) g (M3)) ∧ ((v1 : Int32) = 0 → ((lg_cmp ((M3).2.1 (k3) (Int32.toNatClampNeg (0))) (Int32.toInt64 (v2)) : Int32) = 0 → LL_23 b L xs k1 k2 k3 (x4 + 4) (bc - 8) (bs - 48) g (M3)) ∧ (¬ (lg_cmp ((M3).2.1 (k3) (Int32.toNatClampNeg (0))) (Int32.toInt64 (v2)) : Int32) = 0 → False))) ∧ (¬ (v3 : Int32) = (v1) → False))))) : mj_G (mj_mtL b L xs) room_1 (mj_FL b) false bc bs 881 [(0, .ref (900001)), (1, .ref (k1)), (2, .ref (k2)), (3, .ref (k3)), (4, .int (x4))] [] g M := by
  refine mg_aload_n dL_law_881 rfl 1 rfl ?_
  refine mg_aload_n dL_law_882 rfl 3 rfl ?_
  obtain ⟨q1, hC, hk⟩ := h
  refine mw_H2 [.ref (k1), .ref (k3)] [] dL_law_883 wd_898 kiL_readClauses ⟨Nat.le_of_ble_eq_true rfl, Nat.le_of_ble_eq_true rfl⟩ (Nat.le_of_ble_eq_true rfl) ⟨by omega, by omega⟩ hC (fun v1 M1 hq => ?_)
  replace h := hk v1 M1 hq
  refine mg_istore (ls' := [(5, .int (v1)), (0, .ref (900001)), (1, .ref (k1)), (2, .ref (k2)), (3, .ref (k3)), (4, .int (x4))]) dL_law_886 (Nat.le_of_ble_eq_true rfl) rfl ?_
  refine mg_aload_n dL_law_888 rfl 3 rfl ?_
  obtain ⟨q2, hC, hk⟩ := h
  refine ml_Vi [] [] dL_law_889 wd_1488 kiX10_readClauses (Nat.le_of_ble_eq_true rfl) h2.1.1 h2.1.2 rfl ⟨Nat.le_of_ble_eq_true rfl, Nat.le_of_ble_eq_true rfl⟩ hC (fun v2 M2 hq => ?_)
  replace h := hk v2 M2 hq
  refine mg_istore (ls' := [(6, .int (v2)), (5, .int (v1)), (0, .ref (900001)), (1, .ref (k1)), (2, .ref (k2)), (3, .ref (k3)), (4, .int (x4))]) dL_law_892 (Nat.le_of_ble_eq_true rfl) rfl ?_
  refine mg_aload_n dL_law_894 rfl 4 rfl ?_
  obtain ⟨q3, hC, hk⟩ := h
  refine ml_Vi [] [] dL_law_895 wd_1341 kiX10_thrown (Nat.le_of_ble_eq_true rfl) h2.1.1 h2.1.2 rfl ⟨Nat.le_of_ble_eq_true rfl, Nat.le_of_ble_eq_true rfl⟩ hC (fun v3 M3 hq => ?_)
  replace h := hk v3 M3 hq
  refine mg_iload dL_law_898 1 rfl ?_
  refine mg_icmp_eq (tgt := 905) dL_law_900 (by decide) (fun hc => ?_) (fun hc => ?_)
  · replace h := h.1 hc
    refine mg_iload dL_law_905 1 rfl ?_
    refine mg_if_ne (tgt := 922) dL_law_907 (by decide) (fun hc => ?_) (fun hc => ?_)
    · replace h := h.1 hc
      refine mg_goto (tgt := 2408) dL_law_922 (by decide) ?_
      refine mg_iinc (v := x4 + 4) (ls' := [(4, .int (x4 + 4)), (6, .int (v2)), (5, .int (v1)), (0, .ref (900001)), (1, .ref (k1)), (2, .ref (k2)), (3, .ref (k3))]) dL_law_2408 6 rfl rfl (Nat.le_of_ble_eq_true rfl) rfl ?_
      refine mg_goto (tgt := 23) dL_law_2411 (by decide) ?_
      refine mg_bud (bc' := bc - 8) (bs' := bs - 48) (by omega) (by omega) ?_
      exact mg_pick [3, 4, 5, 6, 0] rfl h
    · replace h := h.2 hc
      refine mg_aload_n dL_law_910 rfl 5 rfl ?_
      refine mg_iconst (v := 0) dL_law_911 (by decide) ?_
      refine mg_lald dL_law_912 h3.1 h3.2 (vp_in_nI (n := 0) (Nat.le_of_ble_eq_true rfl) (Nat.le_of_ble_eq_true rfl)) rfl ?_
      refine mg_iload dL_law_913 0 rfl ?_
      refine mg_i2l dL_law_915 ?_
      refine mg_lcmp dL_law_916 ?_
      refine mg_if_eq (tgt := 922) dL_law_917 (by decide) (fun hc => ?_) (fun hc => ?_)
      · replace h := h.1 hc
        refine mg_goto (tgt := 2408) dL_law_922 (by decide) ?_
        refine mg_iinc (v := x4 + 4) (ls' := [(4, .int (x4 + 4)), (6, .int (v2)), (5, .int (v1)), (0, .ref (900001)), (1, .ref (k1)), (2, .ref (k2)), (3, .ref (k3))]) dL_law_2408 6 rfl rfl (Nat.le_of_ble_eq_true rfl) rfl ?_
        refine mg_goto (tgt := 23) dL_law_2411 (by decide) ?_
        refine mg_bud (bc' := bc - 8) (bs' := bs - 48) (by omega) (by omega) ?_
        exact mg_pick [3, 4, 5, 6, 0] rfl h
      · replace h := h.2 hc
        exact h.elim
  · replace h := h.2 hc
    exact h.elim
theorem cL_law_15 {b L : Nat} {xs : Nat → Int32} {k1 k2 k3 : Nat} {x4 : Int32} {bc bs : Nat} {g : mj_S} {M : mj_M} (h1 : is9 g k1) (h2 : is10 g k2) (h3 : k3 < g.1 ∧ g.2.1 k3 = (1, 2, 1)) (hb1 : 8 ≤ bc) (hb2 : 48 ≤ bs) (h : vp_in ((x4) + (1 : Int32)) L ∧ (∃ (q1 : Int32 → mj_M → Prop), kL_outputByte (k1) (xs (Int32.toNatClampNeg ((x4) + (1 : Int32)))) (k3) g (M) q1 ∧ ∀ (v1 : Int32) (M1 : mj_M), q1 v1 M1 → (vp_in ((x4) + (1 : Int32)) L ∧ (∃ (q2 : Int32 → mj_M → Prop), kX10_outputByte (k2) (xs (Int32.toNatClampNeg ((x4) + (1 : Int32)))) g (M1) q2 ∧ ∀ (v2 : Int32) (M2 : mj_M), q2 v2 M2 → (∃ (q3 : Int32 → mj_M → Prop), kX10_thrown (k2) g (M2) q3 ∧ ∀ (v3 : Int32) (M3 : mj_M), q3 v3 M3 → (((v3 : Int32) = (v1) → (¬ (v1 : Int32) = 0 → LL_23 b L xs k1 k2 k3 (x4 + 4) (bc - 8) (bs - 48) g (M3)) ∧ ((v1 : Int32) = 0 → ((lg_cmp ((M3).2.1 (k3) (Int32.toNatClampNeg (0))) (Int32.toInt64 (v2)) : Int32) = 0 → LL_23 b L xs k1 k2 k3 (x4 + 4) (bc - 8) (bs - 48) g (M3)) ∧ (¬ (lg_cmp ((M3).2.1 (k3) (Int32.toNatClampNeg (0))) (Int32.toInt64 (v2)) : Int32) = 0 → False))) ∧ (¬ (v3 : Int32) = (v1) → False))))))) : mj_G (mj_mtL b L xs) room_1 (mj_FL b) false bc bs 925 [(0, .ref (900001)), (1, .ref (k1)), (2, .ref (k2)), (3, .ref (k3)), (4, .int (x4))] [] g M := by
  refine mg_aload_n dL_law_925 rfl 1 rfl ?_
  refine mg_aload_n dL_law_926 rfl 0 rfl ?_
  refine mg_iload dL_law_927 4 rfl ?_
  refine mg_iconst (v := 1) dL_law_929 (by decide) ?_
  refine mg_iadd dL_law_930 ?_
  refine mg_sld (b := b) (L := L) (xs := xs) rfl dL_law_931 h.1 ?_
  replace h := h.2
  refine mg_aload_n dL_law_932 rfl 3 rfl ?_
  obtain ⟨q1, hC, hk⟩ := h
  refine mw_H2 [.ref (k1), .int (xs (Int32.toNatClampNeg ((x4) + (1 : Int32)))), .ref (k3)] [] dL_law_933 wd_948 kiL_outputByte ⟨Nat.le_of_ble_eq_true rfl, Nat.le_of_ble_eq_true rfl⟩ (Nat.le_of_ble_eq_true rfl) ⟨by omega, by omega⟩ hC (fun v1 M1 hq => ?_)
  replace h := hk v1 M1 hq
  refine mg_istore (ls' := [(5, .int (v1)), (0, .ref (900001)), (1, .ref (k1)), (2, .ref (k2)), (3, .ref (k3)), (4, .int (x4))]) dL_law_936 (Nat.le_of_ble_eq_true rfl) rfl ?_
  refine mg_aload_n dL_law_938 rfl 3 rfl ?_
  refine mg_aload_n dL_law_939 rfl 1 rfl ?_
  refine mg_iload dL_law_940 5 rfl ?_
  refine mg_iconst (v := 1) dL_law_942 (by decide) ?_
  refine mg_iadd dL_law_943 ?_
  refine mg_sld (b := b) (L := L) (xs := xs) rfl dL_law_944 h.1 ?_
  replace h := h.2
  obtain ⟨q2, hC, hk⟩ := h
  refine ml_Vi [.int (xs (Int32.toNatClampNeg ((x4) + (1 : Int32))))] [] dL_law_945 wd_1519 kiX10_outputByte (Nat.le_of_ble_eq_true rfl) h2.1.1 h2.1.2 rfl ⟨Nat.le_of_ble_eq_true rfl, Nat.le_of_ble_eq_true rfl⟩ hC (fun v2 M2 hq => ?_)
  replace h := hk v2 M2 hq
  refine mg_istore (ls' := [(6, .int (v2)), (5, .int (v1)), (0, .ref (900001)), (1, .ref (k1)), (2, .ref (k2)), (3, .ref (k3)), (4, .int (x4))]) dL_law_948 (Nat.le_of_ble_eq_true rfl) rfl ?_
  refine mg_aload_n dL_law_950 rfl 4 rfl ?_
  obtain ⟨q3, hC, hk⟩ := h
  refine ml_Vi [] [] dL_law_951 wd_1341 kiX10_thrown (Nat.le_of_ble_eq_true rfl) h2.1.1 h2.1.2 rfl ⟨Nat.le_of_ble_eq_true rfl, Nat.le_of_ble_eq_true rfl⟩ hC (fun v3 M3 hq => ?_)
  replace h := hk v3 M3 hq
  refine mg_iload dL_law_954 1 rfl ?_
  refine mg_icmp_eq (tgt := 961) dL_law_956 (by decide) (fun hc => ?_) (fun hc => ?_)
  · replace h := h.1 hc
    refine mg_iload dL_law_961 1 rfl ?_
    refine mg_if_ne (tgt := 978) dL_law_963 (by decide) (fun hc => ?_) (fun hc => ?_)
    · replace h := h.1 hc
      refine mg_goto (tgt := 2408) dL_law_978 (by decide) ?_
      refine mg_iinc (v := x4 + 4) (ls' := [(4, .int (x4 + 4)), (6, .int (v2)), (5, .int (v1)), (0, .ref (900001)), (1, .ref (k1)), (2, .ref (k2)), (3, .ref (k3))]) dL_law_2408 6 rfl rfl (Nat.le_of_ble_eq_true rfl) rfl ?_
      refine mg_goto (tgt := 23) dL_law_2411 (by decide) ?_
      refine mg_bud (bc' := bc - 8) (bs' := bs - 48) (by omega) (by omega) ?_
      exact mg_pick [3, 4, 5, 6, 0] rfl h
    · replace h := h.2 hc
      refine mg_aload_n dL_law_966 rfl 5 rfl ?_
      refine mg_iconst (v := 0) dL_law_967 (by decide) ?_
      refine mg_lald dL_law_968 h3.1 h3.2 (vp_in_nI (n := 0) (Nat.le_of_ble_eq_true rfl) (Nat.le_of_ble_eq_true rfl)) rfl ?_
      refine mg_iload dL_law_969 0 rfl ?_
      refine mg_i2l dL_law_971 ?_
      refine mg_lcmp dL_law_972 ?_
      refine mg_if_eq (tgt := 978) dL_law_973 (by decide) (fun hc => ?_) (fun hc => ?_)
      · replace h := h.1 hc
        refine mg_goto (tgt := 2408) dL_law_978 (by decide) ?_
        refine mg_iinc (v := x4 + 4) (ls' := [(4, .int (x4 + 4)), (6, .int (v2)), (5, .int (v1)), (0, .ref (900001)), (1, .ref (k1)), (2, .ref (k2)), (3, .ref (k3))]) dL_law_2408 6 rfl rfl (Nat.le_of_ble_eq_true rfl) rfl ?_
        refine mg_goto (tgt := 23) dL_law_2411 (by decide) ?_
        refine mg_bud (bc' := bc - 8) (bs' := bs - 48) (by omega) (by omega) ?_
        exact mg_pick [3, 4, 5, 6, 0] rfl h
      · replace h := h.2 hc
        exact h.elim
  · replace h := h.2 hc
    exact h.elim
theorem cL_law_16 {b L : Nat} {xs : Nat → Int32} {k1 k2 k3 : Nat} {x4 : Int32} {bc bs : Nat} {g : mj_S} {M : mj_M} (h1 : is9 g k1) (h2 : is10 g k2) (h3 : k3 < g.1 ∧ g.2.1 k3 = (1, 2, 1)) (hb1 : 8 ≤ bc) (hb2 : 48 ≤ bs) (h : vp_in ((x4) + (1 : Int32)) L ∧ (∃ (q1 : Int32 → mj_M → Prop), kL_apply (k1) (xs (Int32.toNatClampNeg ((x4) + (1 : Int32)))) (k3) g (M) q1 ∧ ∀ (v1 : Int32) (M1 : mj_M), q1 v1 M1 → (vp_in ((x4) + (1 : Int32)) L ∧ (∃ (q2 : Int32 → mj_M → Prop), kX10_apply (k2) (xs (Int32.toNatClampNeg ((x4) + (1 : Int32)))) g (M1) q2 ∧ ∀ (v2 : Int32) (M2 : mj_M), q2 v2 M2 → (∃ (q3 : Int32 → mj_M → Prop), kX10_thrown (k2) g (M2) q3 ∧ ∀ (v3 : Int32) (M3 : mj_M), q3 v3 M3 → (((v3 : Int32) = (v1) → (¬ (v1 : Int32) = 0 → LL_23 b L xs k1 k2 k3 (x4 + 4) (bc - 8) (bs - 48) g (M3)) ∧ ((v1 : Int32) = 0 → ((lg_cmp ((M3).2.1 (k3) (Int32.toNatClampNeg (0))) (Int32.toInt64 (v2)) : Int32) = 0 → LL_23 b L xs k1 k2 k3 (x4 + 4) (bc - 8) (bs - 48) g (M3)) ∧ (¬ (lg_cmp ((M3).2.1 (k3) (Int32.toNatClampNeg (0))) (Int32.toInt64 (v2)) : Int32) = 0 → False))) ∧ (¬ (v3 : Int32) = (v1) → False))))))) : mj_G (mj_mtL b L xs) room_1 (mj_FL b) false bc bs 981 [(0, .ref (900001)), (1, .ref (k1)), (2, .ref (k2)), (3, .ref (k3)), (4, .int (x4))] [] g M := by
  refine mg_aload_n dL_law_981 rfl 1 rfl ?_
  refine mg_aload_n dL_law_982 rfl 0 rfl ?_
  refine mg_iload dL_law_983 4 rfl ?_
  refine mg_iconst (v := 1) dL_law_985 (by decide) ?_
  refine mg_iadd dL_law_986 ?_
  refine mg_sld (b := b) (L := L) (xs := xs) rfl dL_law_987 h.1 ?_
  replace h := h.2
  refine mg_aload_n dL_law_988 rfl 3 rfl ?_
  obtain ⟨q1, hC, hk⟩ := h
  refine mw_H2 [.ref (k1), .int (xs (Int32.toNatClampNeg ((x4) + (1 : Int32)))), .ref (k3)] [] dL_law_989 wd_968 kiL_apply ⟨Nat.le_of_ble_eq_true rfl, Nat.le_of_ble_eq_true rfl⟩ (Nat.le_of_ble_eq_true rfl) ⟨by omega, by omega⟩ hC (fun v1 M1 hq => ?_)
  replace h := hk v1 M1 hq
  refine mg_istore (ls' := [(5, .int (v1)), (0, .ref (900001)), (1, .ref (k1)), (2, .ref (k2)), (3, .ref (k3)), (4, .int (x4))]) dL_law_992 (Nat.le_of_ble_eq_true rfl) rfl ?_
  refine mg_aload_n dL_law_994 rfl 3 rfl ?_
  refine mg_aload_n dL_law_995 rfl 1 rfl ?_
  refine mg_iload dL_law_996 5 rfl ?_
  refine mg_iconst (v := 1) dL_law_998 (by decide) ?_
  refine mg_iadd dL_law_999 ?_
  refine mg_sld (b := b) (L := L) (xs := xs) rfl dL_law_1000 h.1 ?_
  replace h := h.2
  obtain ⟨q2, hC, hk⟩ := h
  refine ml_Vi [.int (xs (Int32.toNatClampNeg ((x4) + (1 : Int32))))] [] dL_law_1001 wd_1531 kiX10_apply (Nat.le_of_ble_eq_true rfl) h2.1.1 h2.1.2 rfl ⟨Nat.le_of_ble_eq_true rfl, Nat.le_of_ble_eq_true rfl⟩ hC (fun v2 M2 hq => ?_)
  replace h := hk v2 M2 hq
  refine mg_istore (ls' := [(6, .int (v2)), (5, .int (v1)), (0, .ref (900001)), (1, .ref (k1)), (2, .ref (k2)), (3, .ref (k3)), (4, .int (x4))]) dL_law_1004 (Nat.le_of_ble_eq_true rfl) rfl ?_
  refine mg_aload_n dL_law_1006 rfl 4 rfl ?_
  obtain ⟨q3, hC, hk⟩ := h
  refine ml_Vi [] [] dL_law_1007 wd_1341 kiX10_thrown (Nat.le_of_ble_eq_true rfl) h2.1.1 h2.1.2 rfl ⟨Nat.le_of_ble_eq_true rfl, Nat.le_of_ble_eq_true rfl⟩ hC (fun v3 M3 hq => ?_)
  replace h := hk v3 M3 hq
  refine mg_iload dL_law_1010 1 rfl ?_
  refine mg_icmp_eq (tgt := 1017) dL_law_1012 (by decide) (fun hc => ?_) (fun hc => ?_)
  · replace h := h.1 hc
    refine mg_iload dL_law_1017 1 rfl ?_
    refine mg_if_ne (tgt := 1034) dL_law_1019 (by decide) (fun hc => ?_) (fun hc => ?_)
    · replace h := h.1 hc
      refine mg_goto (tgt := 2408) dL_law_1034 (by decide) ?_
      refine mg_iinc (v := x4 + 4) (ls' := [(4, .int (x4 + 4)), (6, .int (v2)), (5, .int (v1)), (0, .ref (900001)), (1, .ref (k1)), (2, .ref (k2)), (3, .ref (k3))]) dL_law_2408 6 rfl rfl (Nat.le_of_ble_eq_true rfl) rfl ?_
      refine mg_goto (tgt := 23) dL_law_2411 (by decide) ?_
      refine mg_bud (bc' := bc - 8) (bs' := bs - 48) (by omega) (by omega) ?_
      exact mg_pick [3, 4, 5, 6, 0] rfl h
    · replace h := h.2 hc
      refine mg_aload_n dL_law_1022 rfl 5 rfl ?_
      refine mg_iconst (v := 0) dL_law_1023 (by decide) ?_
      refine mg_lald dL_law_1024 h3.1 h3.2 (vp_in_nI (n := 0) (Nat.le_of_ble_eq_true rfl) (Nat.le_of_ble_eq_true rfl)) rfl ?_
      refine mg_iload dL_law_1025 0 rfl ?_
      refine mg_i2l dL_law_1027 ?_
      refine mg_lcmp dL_law_1028 ?_
      refine mg_if_eq (tgt := 1034) dL_law_1029 (by decide) (fun hc => ?_) (fun hc => ?_)
      · replace h := h.1 hc
        refine mg_goto (tgt := 2408) dL_law_1034 (by decide) ?_
        refine mg_iinc (v := x4 + 4) (ls' := [(4, .int (x4 + 4)), (6, .int (v2)), (5, .int (v1)), (0, .ref (900001)), (1, .ref (k1)), (2, .ref (k2)), (3, .ref (k3))]) dL_law_2408 6 rfl rfl (Nat.le_of_ble_eq_true rfl) rfl ?_
        refine mg_goto (tgt := 23) dL_law_2411 (by decide) ?_
        refine mg_bud (bc' := bc - 8) (bs' := bs - 48) (by omega) (by omega) ?_
        exact mg_pick [3, 4, 5, 6, 0] rfl h
      · replace h := h.2 hc
        exact h.elim
  · replace h := h.2 hc
    exact h.elim
theorem cL_law_17 {b L : Nat} {xs : Nat → Int32} {k1 k2 k3 : Nat} {x4 : Int32} {bc bs : Nat} {g : mj_S} {M : mj_M} (h1 : is9 g k1) (h2 : is10 g k2) (h3 : k3 < g.1 ∧ g.2.1 k3 = (1, 2, 1)) (hb1 : 8 ≤ bc) (hb2 : 48 ≤ bs) (h : vp_in ((x4) + (1 : Int32)) L ∧ (∃ (q1 : Int32 → mj_M → Prop), kL_run (k1) (xs (Int32.toNatClampNeg ((x4) + (1 : Int32)))) (k3) g (M) q1 ∧ ∀ (v1 : Int32) (M1 : mj_M), q1 v1 M1 → (vp_in ((x4) + (1 : Int32)) L ∧ (∃ (q2 : Int32 → mj_M → Prop), kX10_run (k2) (xs (Int32.toNatClampNeg ((x4) + (1 : Int32)))) g (M1) q2 ∧ ∀ (v2 : Int32) (M2 : mj_M), q2 v2 M2 → (∃ (q3 : Int32 → mj_M → Prop), kX10_thrown (k2) g (M2) q3 ∧ ∀ (v3 : Int32) (M3 : mj_M), q3 v3 M3 → (((v3 : Int32) = (v1) → (¬ (v1 : Int32) = 0 → LL_23 b L xs k1 k2 k3 (x4 + 4) (bc - 8) (bs - 48) g (M3)) ∧ ((v1 : Int32) = 0 → ((lg_cmp ((M3).2.1 (k3) (Int32.toNatClampNeg (0))) (Int32.toInt64 (v2)) : Int32) = 0 → LL_23 b L xs k1 k2 k3 (x4 + 4) (bc - 8) (bs - 48) g (M3)) ∧ (¬ (lg_cmp ((M3).2.1 (k3) (Int32.toNatClampNeg (0))) (Int32.toInt64 (v2)) : Int32) = 0 → False))) ∧ (¬ (v3 : Int32) = (v1) → False))))))) : mj_G (mj_mtL b L xs) room_1 (mj_FL b) false bc bs 1037 [(0, .ref (900001)), (1, .ref (k1)), (2, .ref (k2)), (3, .ref (k3)), (4, .int (x4))] [] g M := by
  refine mg_aload_n dL_law_1037 rfl 1 rfl ?_
  refine mg_aload_n dL_law_1038 rfl 0 rfl ?_
  refine mg_iload dL_law_1039 4 rfl ?_
  refine mg_iconst (v := 1) dL_law_1041 (by decide) ?_
  refine mg_iadd dL_law_1042 ?_
  refine mg_sld (b := b) (L := L) (xs := xs) rfl dL_law_1043 h.1 ?_
  replace h := h.2
  refine mg_aload_n dL_law_1044 rfl 3 rfl ?_
  obtain ⟨q1, hC, hk⟩ := h
  refine mw_H2 [.ref (k1), .int (xs (Int32.toNatClampNeg ((x4) + (1 : Int32)))), .ref (k3)] [] dL_law_1045 wd_980 kiL_run ⟨Nat.le_of_ble_eq_true rfl, Nat.le_of_ble_eq_true rfl⟩ (Nat.le_of_ble_eq_true rfl) ⟨by omega, by omega⟩ hC (fun v1 M1 hq => ?_)
  replace h := hk v1 M1 hq
  refine mg_istore (ls' := [(5, .int (v1)), (0, .ref (900001)), (1, .ref (k1)), (2, .ref (k2)), (3, .ref (k3)), (4, .int (x4))]) dL_law_1048 (Nat.le_of_ble_eq_true rfl) rfl ?_
  refine mg_aload_n dL_law_1050 rfl 3 rfl ?_
  refine mg_aload_n dL_law_1051 rfl 1 rfl ?_
  refine mg_iload dL_law_1052 5 rfl ?_
  refine mg_iconst (v := 1) dL_law_1054 (by decide) ?_
  refine mg_iadd dL_law_1055 ?_
  refine mg_sld (b := b) (L := L) (xs := xs) rfl dL_law_1056 h.1 ?_
  replace h := h.2
  obtain ⟨q2, hC, hk⟩ := h
  refine ml_Vi [.int (xs (Int32.toNatClampNeg ((x4) + (1 : Int32))))] [] dL_law_1057 wd_1694 kiX10_run (Nat.le_of_ble_eq_true rfl) h2.1.1 h2.1.2 rfl ⟨Nat.le_of_ble_eq_true rfl, Nat.le_of_ble_eq_true rfl⟩ hC (fun v2 M2 hq => ?_)
  replace h := hk v2 M2 hq
  refine mg_istore (ls' := [(6, .int (v2)), (5, .int (v1)), (0, .ref (900001)), (1, .ref (k1)), (2, .ref (k2)), (3, .ref (k3)), (4, .int (x4))]) dL_law_1060 (Nat.le_of_ble_eq_true rfl) rfl ?_
  refine mg_aload_n dL_law_1062 rfl 4 rfl ?_
  obtain ⟨q3, hC, hk⟩ := h
  refine ml_Vi [] [] dL_law_1063 wd_1341 kiX10_thrown (Nat.le_of_ble_eq_true rfl) h2.1.1 h2.1.2 rfl ⟨Nat.le_of_ble_eq_true rfl, Nat.le_of_ble_eq_true rfl⟩ hC (fun v3 M3 hq => ?_)
  replace h := hk v3 M3 hq
  refine mg_iload dL_law_1066 1 rfl ?_
  refine mg_icmp_eq (tgt := 1073) dL_law_1068 (by decide) (fun hc => ?_) (fun hc => ?_)
  · replace h := h.1 hc
    refine mg_iload dL_law_1073 1 rfl ?_
    refine mg_if_ne (tgt := 1090) dL_law_1075 (by decide) (fun hc => ?_) (fun hc => ?_)
    · replace h := h.1 hc
      refine mg_goto (tgt := 2408) dL_law_1090 (by decide) ?_
      refine mg_iinc (v := x4 + 4) (ls' := [(4, .int (x4 + 4)), (6, .int (v2)), (5, .int (v1)), (0, .ref (900001)), (1, .ref (k1)), (2, .ref (k2)), (3, .ref (k3))]) dL_law_2408 6 rfl rfl (Nat.le_of_ble_eq_true rfl) rfl ?_
      refine mg_goto (tgt := 23) dL_law_2411 (by decide) ?_
      refine mg_bud (bc' := bc - 8) (bs' := bs - 48) (by omega) (by omega) ?_
      exact mg_pick [3, 4, 5, 6, 0] rfl h
    · replace h := h.2 hc
      refine mg_aload_n dL_law_1078 rfl 5 rfl ?_
      refine mg_iconst (v := 0) dL_law_1079 (by decide) ?_
      refine mg_lald dL_law_1080 h3.1 h3.2 (vp_in_nI (n := 0) (Nat.le_of_ble_eq_true rfl) (Nat.le_of_ble_eq_true rfl)) rfl ?_
      refine mg_iload dL_law_1081 0 rfl ?_
      refine mg_i2l dL_law_1083 ?_
      refine mg_lcmp dL_law_1084 ?_
      refine mg_if_eq (tgt := 1090) dL_law_1085 (by decide) (fun hc => ?_) (fun hc => ?_)
      · replace h := h.1 hc
        refine mg_goto (tgt := 2408) dL_law_1090 (by decide) ?_
        refine mg_iinc (v := x4 + 4) (ls' := [(4, .int (x4 + 4)), (6, .int (v2)), (5, .int (v1)), (0, .ref (900001)), (1, .ref (k1)), (2, .ref (k2)), (3, .ref (k3))]) dL_law_2408 6 rfl rfl (Nat.le_of_ble_eq_true rfl) rfl ?_
        refine mg_goto (tgt := 23) dL_law_2411 (by decide) ?_
        refine mg_bud (bc' := bc - 8) (bs' := bs - 48) (by omega) (by omega) ?_
        exact mg_pick [3, 4, 5, 6, 0] rfl h
      · replace h := h.2 hc
        exact h.elim
  · replace h := h.2 hc
    exact h.elim
theorem cL_law_18 {b L : Nat} {xs : Nat → Int32} {k1 k2 k3 : Nat} {x4 : Int32} {bc bs : Nat} {g : mj_S} {M : mj_M} (h1 : is9 g k1) (h2 : is10 g k2) (h3 : k3 < g.1 ∧ g.2.1 k3 = (1, 2, 1)) (hb1 : 8 ≤ bc) (hb2 : 48 ≤ bs) (h : vp_in ((x4) + (1 : Int32)) L ∧ (∃ (q1 : Int32 → mj_M → Prop), kL_eliminate (k1) (xs (Int32.toNatClampNeg ((x4) + (1 : Int32)))) (k3) g (M) q1 ∧ ∀ (v1 : Int32) (M1 : mj_M), q1 v1 M1 → (vp_in ((x4) + (1 : Int32)) L ∧ (∃ (q2 : Int32 → mj_M → Prop), kX10_eliminate (k2) (xs (Int32.toNatClampNeg ((x4) + (1 : Int32)))) g (M1) q2 ∧ ∀ (v2 : Int32) (M2 : mj_M), q2 v2 M2 → (∃ (q3 : Int32 → mj_M → Prop), kX10_thrown (k2) g (M2) q3 ∧ ∀ (v3 : Int32) (M3 : mj_M), q3 v3 M3 → (((v3 : Int32) = (v1) → (¬ (v1 : Int32) = 0 → LL_23 b L xs k1 k2 k3 (x4 + 4) (bc - 8) (bs - 48) g (M3)) ∧ ((v1 : Int32) = 0 → ((lg_cmp ((M3).2.1 (k3) (Int32.toNatClampNeg (0))) (Int32.toInt64 (v2)) : Int32) = 0 → LL_23 b L xs k1 k2 k3 (x4 + 4) (bc - 8) (bs - 48) g (M3)) ∧ (¬ (lg_cmp ((M3).2.1 (k3) (Int32.toNatClampNeg (0))) (Int32.toInt64 (v2)) : Int32) = 0 → False))) ∧ (¬ (v3 : Int32) = (v1) → False))))))) : mj_G (mj_mtL b L xs) room_1 (mj_FL b) false bc bs 1093 [(0, .ref (900001)), (1, .ref (k1)), (2, .ref (k2)), (3, .ref (k3)), (4, .int (x4))] [] g M := by
  refine mg_aload_n dL_law_1093 rfl 1 rfl ?_
  refine mg_aload_n dL_law_1094 rfl 0 rfl ?_
  refine mg_iload dL_law_1095 4 rfl ?_
  refine mg_iconst (v := 1) dL_law_1097 (by decide) ?_
  refine mg_iadd dL_law_1098 ?_
  refine mg_sld (b := b) (L := L) (xs := xs) rfl dL_law_1099 h.1 ?_
  replace h := h.2
  refine mg_aload_n dL_law_1100 rfl 3 rfl ?_
  obtain ⟨q1, hC, hk⟩ := h
  refine mw_H2 [.ref (k1), .int (xs (Int32.toNatClampNeg ((x4) + (1 : Int32)))), .ref (k3)] [] dL_law_1101 wd_1081 kiL_eliminate ⟨Nat.le_of_ble_eq_true rfl, Nat.le_of_ble_eq_true rfl⟩ (Nat.le_of_ble_eq_true rfl) ⟨by omega, by omega⟩ hC (fun v1 M1 hq => ?_)
  replace h := hk v1 M1 hq
  refine mg_istore (ls' := [(5, .int (v1)), (0, .ref (900001)), (1, .ref (k1)), (2, .ref (k2)), (3, .ref (k3)), (4, .int (x4))]) dL_law_1104 (Nat.le_of_ble_eq_true rfl) rfl ?_
  refine mg_aload_n dL_law_1106 rfl 3 rfl ?_
  refine mg_aload_n dL_law_1107 rfl 1 rfl ?_
  refine mg_iload dL_law_1108 5 rfl ?_
  refine mg_iconst (v := 1) dL_law_1110 (by decide) ?_
  refine mg_iadd dL_law_1111 ?_
  refine mg_sld (b := b) (L := L) (xs := xs) rfl dL_law_1112 h.1 ?_
  replace h := h.2
  obtain ⟨q2, hC, hk⟩ := h
  refine ml_Vi [.int (xs (Int32.toNatClampNeg ((x4) + (1 : Int32))))] [] dL_law_1113 wd_1705 kiX10_eliminate (Nat.le_of_ble_eq_true rfl) h2.1.1 h2.1.2 rfl ⟨Nat.le_of_ble_eq_true rfl, Nat.le_of_ble_eq_true rfl⟩ hC (fun v2 M2 hq => ?_)
  replace h := hk v2 M2 hq
  refine mg_istore (ls' := [(6, .int (v2)), (5, .int (v1)), (0, .ref (900001)), (1, .ref (k1)), (2, .ref (k2)), (3, .ref (k3)), (4, .int (x4))]) dL_law_1116 (Nat.le_of_ble_eq_true rfl) rfl ?_
  refine mg_aload_n dL_law_1118 rfl 4 rfl ?_
  obtain ⟨q3, hC, hk⟩ := h
  refine ml_Vi [] [] dL_law_1119 wd_1341 kiX10_thrown (Nat.le_of_ble_eq_true rfl) h2.1.1 h2.1.2 rfl ⟨Nat.le_of_ble_eq_true rfl, Nat.le_of_ble_eq_true rfl⟩ hC (fun v3 M3 hq => ?_)
  replace h := hk v3 M3 hq
  refine mg_iload dL_law_1122 1 rfl ?_
  refine mg_icmp_eq (tgt := 1129) dL_law_1124 (by decide) (fun hc => ?_) (fun hc => ?_)
  · replace h := h.1 hc
    refine mg_iload dL_law_1129 1 rfl ?_
    refine mg_if_ne (tgt := 1146) dL_law_1131 (by decide) (fun hc => ?_) (fun hc => ?_)
    · replace h := h.1 hc
      refine mg_goto (tgt := 2408) dL_law_1146 (by decide) ?_
      refine mg_iinc (v := x4 + 4) (ls' := [(4, .int (x4 + 4)), (6, .int (v2)), (5, .int (v1)), (0, .ref (900001)), (1, .ref (k1)), (2, .ref (k2)), (3, .ref (k3))]) dL_law_2408 6 rfl rfl (Nat.le_of_ble_eq_true rfl) rfl ?_
      refine mg_goto (tgt := 23) dL_law_2411 (by decide) ?_
      refine mg_bud (bc' := bc - 8) (bs' := bs - 48) (by omega) (by omega) ?_
      exact mg_pick [3, 4, 5, 6, 0] rfl h
    · replace h := h.2 hc
      refine mg_aload_n dL_law_1134 rfl 5 rfl ?_
      refine mg_iconst (v := 0) dL_law_1135 (by decide) ?_
      refine mg_lald dL_law_1136 h3.1 h3.2 (vp_in_nI (n := 0) (Nat.le_of_ble_eq_true rfl) (Nat.le_of_ble_eq_true rfl)) rfl ?_
      refine mg_iload dL_law_1137 0 rfl ?_
      refine mg_i2l dL_law_1139 ?_
      refine mg_lcmp dL_law_1140 ?_
      refine mg_if_eq (tgt := 1146) dL_law_1141 (by decide) (fun hc => ?_) (fun hc => ?_)
      · replace h := h.1 hc
        refine mg_goto (tgt := 2408) dL_law_1146 (by decide) ?_
        refine mg_iinc (v := x4 + 4) (ls' := [(4, .int (x4 + 4)), (6, .int (v2)), (5, .int (v1)), (0, .ref (900001)), (1, .ref (k1)), (2, .ref (k2)), (3, .ref (k3))]) dL_law_2408 6 rfl rfl (Nat.le_of_ble_eq_true rfl) rfl ?_
        refine mg_goto (tgt := 23) dL_law_2411 (by decide) ?_
        refine mg_bud (bc' := bc - 8) (bs' := bs - 48) (by omega) (by omega) ?_
        exact mg_pick [3, 4, 5, 6, 0] rfl h
      · replace h := h.2 hc
        exact h.elim
  · replace h := h.2 hc
    exact h.elim
theorem cL_law_19 {b L : Nat} {xs : Nat → Int32} {k1 k2 k3 : Nat} {x4 : Int32} {bc bs : Nat} {g : mj_S} {M : mj_M} (h1 : is9 g k1) (h2 : is10 g k2) (h3 : k3 < g.1 ∧ g.2.1 k3 = (1, 2, 1)) (hb1 : 8 ≤ bc) (hb2 : 48 ≤ bs) (h : vp_in ((x4) + (1 : Int32)) L ∧ (∃ (q1 : Int32 → mj_M → Prop), kL_setGrowth (k1) (xs (Int32.toNatClampNeg ((x4) + (1 : Int32)))) (k3) g (M) q1 ∧ ∀ (v1 : Int32) (M1 : mj_M), q1 v1 M1 → (vp_in ((x4) + (1 : Int32)) L ∧ (∃ (q2 : Int32 → mj_M → Prop), kX10_setGrowth (k2) (xs (Int32.toNatClampNeg ((x4) + (1 : Int32)))) g (M1) q2 ∧ ∀ (v2 : Int32) (M2 : mj_M), q2 v2 M2 → (∃ (q3 : Int32 → mj_M → Prop), kX10_thrown (k2) g (M2) q3 ∧ ∀ (v3 : Int32) (M3 : mj_M), q3 v3 M3 → (((v3 : Int32) = (v1) → (¬ (v1 : Int32) = 0 → LL_23 b L xs k1 k2 k3 (x4 + 4) (bc - 8) (bs - 48) g (M3)) ∧ ((v1 : Int32) = 0 → ((lg_cmp ((M3).2.1 (k3) (Int32.toNatClampNeg (0))) (Int32.toInt64 (v2)) : Int32) = 0 → LL_23 b L xs k1 k2 k3 (x4 + 4) (bc - 8) (bs - 48) g (M3)) ∧ (¬ (lg_cmp ((M3).2.1 (k3) (Int32.toNatClampNeg (0))) (Int32.toInt64 (v2)) : Int32) = 0 → False))) ∧ (¬ (v3 : Int32) = (v1) → False))))))) : mj_G (mj_mtL b L xs) room_1 (mj_FL b) false bc bs 1149 [(0, .ref (900001)), (1, .ref (k1)), (2, .ref (k2)), (3, .ref (k3)), (4, .int (x4))] [] g M := by
  refine mg_aload_n dL_law_1149 rfl 1 rfl ?_
  refine mg_aload_n dL_law_1150 rfl 0 rfl ?_
  refine mg_iload dL_law_1151 4 rfl ?_
  refine mg_iconst (v := 1) dL_law_1153 (by decide) ?_
  refine mg_iadd dL_law_1154 ?_
  refine mg_sld (b := b) (L := L) (xs := xs) rfl dL_law_1155 h.1 ?_
  replace h := h.2
  refine mg_aload_n dL_law_1156 rfl 3 rfl ?_
  obtain ⟨q1, hC, hk⟩ := h
  refine mw_H2 [.ref (k1), .int (xs (Int32.toNatClampNeg ((x4) + (1 : Int32)))), .ref (k3)] [] dL_law_1157 wd_1092 kiL_setGrowth ⟨Nat.le_of_ble_eq_true rfl, Nat.le_of_ble_eq_true rfl⟩ (Nat.le_of_ble_eq_true rfl) ⟨by omega, by omega⟩ hC (fun v1 M1 hq => ?_)
  replace h := hk v1 M1 hq
  refine mg_istore (ls' := [(5, .int (v1)), (0, .ref (900001)), (1, .ref (k1)), (2, .ref (k2)), (3, .ref (k3)), (4, .int (x4))]) dL_law_1160 (Nat.le_of_ble_eq_true rfl) rfl ?_
  refine mg_aload_n dL_law_1162 rfl 3 rfl ?_
  refine mg_aload_n dL_law_1163 rfl 1 rfl ?_
  refine mg_iload dL_law_1164 5 rfl ?_
  refine mg_iconst (v := 1) dL_law_1166 (by decide) ?_
  refine mg_iadd dL_law_1167 ?_
  refine mg_sld (b := b) (L := L) (xs := xs) rfl dL_law_1168 h.1 ?_
  replace h := h.2
  obtain ⟨q2, hC, hk⟩ := h
  refine ml_Vi [.int (xs (Int32.toNatClampNeg ((x4) + (1 : Int32))))] [] dL_law_1169 wd_1709 kiX10_setGrowth (Nat.le_of_ble_eq_true rfl) h2.1.1 h2.1.2 rfl ⟨Nat.le_of_ble_eq_true rfl, Nat.le_of_ble_eq_true rfl⟩ hC (fun v2 M2 hq => ?_)
  replace h := hk v2 M2 hq
  refine mg_istore (ls' := [(6, .int (v2)), (5, .int (v1)), (0, .ref (900001)), (1, .ref (k1)), (2, .ref (k2)), (3, .ref (k3)), (4, .int (x4))]) dL_law_1172 (Nat.le_of_ble_eq_true rfl) rfl ?_
  refine mg_aload_n dL_law_1174 rfl 4 rfl ?_
  obtain ⟨q3, hC, hk⟩ := h
  refine ml_Vi [] [] dL_law_1175 wd_1341 kiX10_thrown (Nat.le_of_ble_eq_true rfl) h2.1.1 h2.1.2 rfl ⟨Nat.le_of_ble_eq_true rfl, Nat.le_of_ble_eq_true rfl⟩ hC (fun v3 M3 hq => ?_)
  replace h := hk v3 M3 hq
  refine mg_iload dL_law_1178 1 rfl ?_
  refine mg_icmp_eq (tgt := 1185) dL_law_1180 (by decide) (fun hc => ?_) (fun hc => ?_)
  · replace h := h.1 hc
    refine mg_iload dL_law_1185 1 rfl ?_
    refine mg_if_ne (tgt := 1202) dL_law_1187 (by decide) (fun hc => ?_) (fun hc => ?_)
    · replace h := h.1 hc
      refine mg_goto (tgt := 2408) dL_law_1202 (by decide) ?_
      refine mg_iinc (v := x4 + 4) (ls' := [(4, .int (x4 + 4)), (6, .int (v2)), (5, .int (v1)), (0, .ref (900001)), (1, .ref (k1)), (2, .ref (k2)), (3, .ref (k3))]) dL_law_2408 6 rfl rfl (Nat.le_of_ble_eq_true rfl) rfl ?_
      refine mg_goto (tgt := 23) dL_law_2411 (by decide) ?_
      refine mg_bud (bc' := bc - 8) (bs' := bs - 48) (by omega) (by omega) ?_
      exact mg_pick [3, 4, 5, 6, 0] rfl h
    · replace h := h.2 hc
      refine mg_aload_n dL_law_1190 rfl 5 rfl ?_
      refine mg_iconst (v := 0) dL_law_1191 (by decide) ?_
      refine mg_lald dL_law_1192 h3.1 h3.2 (vp_in_nI (n := 0) (Nat.le_of_ble_eq_true rfl) (Nat.le_of_ble_eq_true rfl)) rfl ?_
      refine mg_iload dL_law_1193 0 rfl ?_
      refine mg_i2l dL_law_1195 ?_
      refine mg_lcmp dL_law_1196 ?_
      refine mg_if_eq (tgt := 1202) dL_law_1197 (by decide) (fun hc => ?_) (fun hc => ?_)
      · replace h := h.1 hc
        refine mg_goto (tgt := 2408) dL_law_1202 (by decide) ?_
        refine mg_iinc (v := x4 + 4) (ls' := [(4, .int (x4 + 4)), (6, .int (v2)), (5, .int (v1)), (0, .ref (900001)), (1, .ref (k1)), (2, .ref (k2)), (3, .ref (k3))]) dL_law_2408 6 rfl rfl (Nat.le_of_ble_eq_true rfl) rfl ?_
        refine mg_goto (tgt := 23) dL_law_2411 (by decide) ?_
        refine mg_bud (bc' := bc - 8) (bs' := bs - 48) (by omega) (by omega) ?_
        exact mg_pick [3, 4, 5, 6, 0] rfl h
      · replace h := h.2 hc
        exact h.elim
  · replace h := h.2 hc
    exact h.elim
theorem cL_law_20 {b L : Nat} {xs : Nat → Int32} {k1 k2 k3 : Nat} {x4 : Int32} {bc bs : Nat} {g : mj_S} {M : mj_M} (h1 : is9 g k1) (h2 : is10 g k2) (h3 : k3 < g.1 ∧ g.2.1 k3 = (1, 2, 1)) (hb1 : 8 ≤ bc) (hb2 : 48 ≤ bs) (h : vp_in ((x4) + (1 : Int32)) L ∧ (∃ (q1 : Int32 → mj_M → Prop), kL_total (k1) (xs (Int32.toNatClampNeg ((x4) + (1 : Int32)))) (k3) g (M) q1 ∧ ∀ (v1 : Int32) (M1 : mj_M), q1 v1 M1 → (vp_in ((x4) + (1 : Int32)) L ∧ (∃ (q2 : Int32 → mj_M → Prop), kX10_total (k2) (xs (Int32.toNatClampNeg ((x4) + (1 : Int32)))) g (M1) q2 ∧ ∀ (v2 : Int32) (M2 : mj_M), q2 v2 M2 → (∃ (q3 : Int32 → mj_M → Prop), kX10_thrown (k2) g (M2) q3 ∧ ∀ (v3 : Int32) (M3 : mj_M), q3 v3 M3 → (((v3 : Int32) = (v1) → (¬ (v1 : Int32) = 0 → LL_23 b L xs k1 k2 k3 (x4 + 4) (bc - 8) (bs - 48) g (M3)) ∧ ((v1 : Int32) = 0 → ((lg_cmp ((M3).2.1 (k3) (Int32.toNatClampNeg (0))) (Int32.toInt64 (v2)) : Int32) = 0 → LL_23 b L xs k1 k2 k3 (x4 + 4) (bc - 8) (bs - 48) g (M3)) ∧ (¬ (lg_cmp ((M3).2.1 (k3) (Int32.toNatClampNeg (0))) (Int32.toInt64 (v2)) : Int32) = 0 → False))) ∧ (¬ (v3 : Int32) = (v1) → False))))))) : mj_G (mj_mtL b L xs) room_1 (mj_FL b) false bc bs 1205 [(0, .ref (900001)), (1, .ref (k1)), (2, .ref (k2)), (3, .ref (k3)), (4, .int (x4))] [] g M := by
  refine mg_aload_n dL_law_1205 rfl 1 rfl ?_
  refine mg_aload_n dL_law_1206 rfl 0 rfl ?_
  refine mg_iload dL_law_1207 4 rfl ?_
  refine mg_iconst (v := 1) dL_law_1209 (by decide) ?_
  refine mg_iadd dL_law_1210 ?_
  refine mg_sld (b := b) (L := L) (xs := xs) rfl dL_law_1211 h.1 ?_
  replace h := h.2
  refine mg_aload_n dL_law_1212 rfl 3 rfl ?_
  obtain ⟨q1, hC, hk⟩ := h
  refine mw_H2 [.ref (k1), .int (xs (Int32.toNatClampNeg ((x4) + (1 : Int32)))), .ref (k3)] [] dL_law_1213 wd_1100 kiL_total ⟨Nat.le_of_ble_eq_true rfl, Nat.le_of_ble_eq_true rfl⟩ (Nat.le_of_ble_eq_true rfl) ⟨by omega, by omega⟩ hC (fun v1 M1 hq => ?_)
  replace h := hk v1 M1 hq
  refine mg_istore (ls' := [(5, .int (v1)), (0, .ref (900001)), (1, .ref (k1)), (2, .ref (k2)), (3, .ref (k3)), (4, .int (x4))]) dL_law_1216 (Nat.le_of_ble_eq_true rfl) rfl ?_
  refine mg_aload_n dL_law_1218 rfl 3 rfl ?_
  refine mg_aload_n dL_law_1219 rfl 1 rfl ?_
  refine mg_iload dL_law_1220 5 rfl ?_
  refine mg_iconst (v := 1) dL_law_1222 (by decide) ?_
  refine mg_iadd dL_law_1223 ?_
  refine mg_sld (b := b) (L := L) (xs := xs) rfl dL_law_1224 h.1 ?_
  replace h := h.2
  obtain ⟨q2, hC, hk⟩ := h
  refine ml_Vi [.int (xs (Int32.toNatClampNeg ((x4) + (1 : Int32))))] [] dL_law_1225 wd_1713 kiX10_total (Nat.le_of_ble_eq_true rfl) h2.1.1 h2.1.2 rfl ⟨Nat.le_of_ble_eq_true rfl, Nat.le_of_ble_eq_true rfl⟩ hC (fun v2 M2 hq => ?_)
  replace h := hk v2 M2 hq
  refine mg_istore (ls' := [(6, .int (v2)), (5, .int (v1)), (0, .ref (900001)), (1, .ref (k1)), (2, .ref (k2)), (3, .ref (k3)), (4, .int (x4))]) dL_law_1228 (Nat.le_of_ble_eq_true rfl) rfl ?_
  refine mg_aload_n dL_law_1230 rfl 4 rfl ?_
  obtain ⟨q3, hC, hk⟩ := h
  refine ml_Vi [] [] dL_law_1231 wd_1341 kiX10_thrown (Nat.le_of_ble_eq_true rfl) h2.1.1 h2.1.2 rfl ⟨Nat.le_of_ble_eq_true rfl, Nat.le_of_ble_eq_true rfl⟩ hC (fun v3 M3 hq => ?_)
  replace h := hk v3 M3 hq
  refine mg_iload dL_law_1234 1 rfl ?_
  refine mg_icmp_eq (tgt := 1241) dL_law_1236 (by decide) (fun hc => ?_) (fun hc => ?_)
  · replace h := h.1 hc
    refine mg_iload dL_law_1241 1 rfl ?_
    refine mg_if_ne (tgt := 1258) dL_law_1243 (by decide) (fun hc => ?_) (fun hc => ?_)
    · replace h := h.1 hc
      refine mg_goto (tgt := 2408) dL_law_1258 (by decide) ?_
      refine mg_iinc (v := x4 + 4) (ls' := [(4, .int (x4 + 4)), (6, .int (v2)), (5, .int (v1)), (0, .ref (900001)), (1, .ref (k1)), (2, .ref (k2)), (3, .ref (k3))]) dL_law_2408 6 rfl rfl (Nat.le_of_ble_eq_true rfl) rfl ?_
      refine mg_goto (tgt := 23) dL_law_2411 (by decide) ?_
      refine mg_bud (bc' := bc - 8) (bs' := bs - 48) (by omega) (by omega) ?_
      exact mg_pick [3, 4, 5, 6, 0] rfl h
    · replace h := h.2 hc
      refine mg_aload_n dL_law_1246 rfl 5 rfl ?_
      refine mg_iconst (v := 0) dL_law_1247 (by decide) ?_
      refine mg_lald dL_law_1248 h3.1 h3.2 (vp_in_nI (n := 0) (Nat.le_of_ble_eq_true rfl) (Nat.le_of_ble_eq_true rfl)) rfl ?_
      refine mg_iload dL_law_1249 0 rfl ?_
      refine mg_i2l dL_law_1251 ?_
      refine mg_lcmp dL_law_1252 ?_
      refine mg_if_eq (tgt := 1258) dL_law_1253 (by decide) (fun hc => ?_) (fun hc => ?_)
      · replace h := h.1 hc
        refine mg_goto (tgt := 2408) dL_law_1258 (by decide) ?_
        refine mg_iinc (v := x4 + 4) (ls' := [(4, .int (x4 + 4)), (6, .int (v2)), (5, .int (v1)), (0, .ref (900001)), (1, .ref (k1)), (2, .ref (k2)), (3, .ref (k3))]) dL_law_2408 6 rfl rfl (Nat.le_of_ble_eq_true rfl) rfl ?_
        refine mg_goto (tgt := 23) dL_law_2411 (by decide) ?_
        refine mg_bud (bc' := bc - 8) (bs' := bs - 48) (by omega) (by omega) ?_
        exact mg_pick [3, 4, 5, 6, 0] rfl h
      · replace h := h.2 hc
        exact h.elim
  · replace h := h.2 hc
    exact h.elim
theorem cL_law_21 {b L : Nat} {xs : Nat → Int32} {k1 k2 k3 : Nat} {x4 : Int32} {bc bs : Nat} {g : mj_S} {M : mj_M} (h1 : is9 g k1) (h2 : is10 g k2) (h3 : k3 < g.1 ∧ g.2.1 k3 = (1, 2, 1)) (hb1 : 8 ≤ bc) (hb2 : 48 ≤ bs) (h : ∃ (q1 : Int32 → mj_M → Prop), kL_undo (k1) (k3) g (M) q1 ∧ ∀ (v1 : Int32) (M1 : mj_M), q1 v1 M1 → (∃ (q2 : Int32 → mj_M → Prop), kX10_undo (k2) g (M1) q2 ∧ ∀ (v2 : Int32) (M2 : mj_M), q2 v2 M2 → (∃ (q3 : Int32 → mj_M → Prop), kX10_thrown (k2) g (M2) q3 ∧ ∀ (v3 : Int32) (M3 : mj_M), q3 v3 M3 → (((v3 : Int32) = (v1) → (¬ (v1 : Int32) = 0 → LL_23 b L xs k1 k2 k3 (x4 + 4) (bc - 8) (bs - 48) g (M3)) ∧ ((v1 : Int32) = 0 → ((lg_cmp ((M3).2.1 (k3) (Int32.toNatClampNeg (0))) (Int32.toInt64 (v2)) : Int32) = 0 → LL_23 b L xs k1 k2 k3 (x4 + 4) (bc - 8) (bs - 48) g (M3)) ∧ (¬ (lg_cmp ((M3).2.1 (k3) (Int32.toNatClampNeg (0))) (Int32.toInt64 (v2)) : Int32) = 0 → False))) ∧ (¬ (v3 : Int32) = (v1) → False))))) : mj_G (mj_mtL b L xs) room_1 (mj_FL b) false bc bs 1261 [(0, .ref (900001)), (1, .ref (k1)), (2, .ref (k2)), (3, .ref (k3)), (4, .int (x4))] [] g M := by
  refine mg_aload_n dL_law_1261 rfl 1 rfl ?_
  refine mg_aload_n dL_law_1262 rfl 3 rfl ?_
  obtain ⟨q1, hC, hk⟩ := h
  refine mw_H2 [.ref (k1), .ref (k3)] [] dL_law_1263 wd_1107 kiL_undo ⟨Nat.le_of_ble_eq_true rfl, Nat.le_of_ble_eq_true rfl⟩ (Nat.le_of_ble_eq_true rfl) ⟨by omega, by omega⟩ hC (fun v1 M1 hq => ?_)
  replace h := hk v1 M1 hq
  refine mg_istore (ls' := [(5, .int (v1)), (0, .ref (900001)), (1, .ref (k1)), (2, .ref (k2)), (3, .ref (k3)), (4, .int (x4))]) dL_law_1266 (Nat.le_of_ble_eq_true rfl) rfl ?_
  refine mg_aload_n dL_law_1268 rfl 3 rfl ?_
  obtain ⟨q2, hC, hk⟩ := h
  refine ml_Vi [] [] dL_law_1269 wd_1717 kiX10_undo (Nat.le_of_ble_eq_true rfl) h2.1.1 h2.1.2 rfl ⟨Nat.le_of_ble_eq_true rfl, Nat.le_of_ble_eq_true rfl⟩ hC (fun v2 M2 hq => ?_)
  replace h := hk v2 M2 hq
  refine mg_istore (ls' := [(6, .int (v2)), (5, .int (v1)), (0, .ref (900001)), (1, .ref (k1)), (2, .ref (k2)), (3, .ref (k3)), (4, .int (x4))]) dL_law_1272 (Nat.le_of_ble_eq_true rfl) rfl ?_
  refine mg_aload_n dL_law_1274 rfl 4 rfl ?_
  obtain ⟨q3, hC, hk⟩ := h
  refine ml_Vi [] [] dL_law_1275 wd_1341 kiX10_thrown (Nat.le_of_ble_eq_true rfl) h2.1.1 h2.1.2 rfl ⟨Nat.le_of_ble_eq_true rfl, Nat.le_of_ble_eq_true rfl⟩ hC (fun v3 M3 hq => ?_)
  replace h := hk v3 M3 hq
  refine mg_iload dL_law_1278 1 rfl ?_
  refine mg_icmp_eq (tgt := 1285) dL_law_1280 (by decide) (fun hc => ?_) (fun hc => ?_)
  · replace h := h.1 hc
    refine mg_iload dL_law_1285 1 rfl ?_
    refine mg_if_ne (tgt := 1302) dL_law_1287 (by decide) (fun hc => ?_) (fun hc => ?_)
    · replace h := h.1 hc
      refine mg_goto (tgt := 2408) dL_law_1302 (by decide) ?_
      refine mg_iinc (v := x4 + 4) (ls' := [(4, .int (x4 + 4)), (6, .int (v2)), (5, .int (v1)), (0, .ref (900001)), (1, .ref (k1)), (2, .ref (k2)), (3, .ref (k3))]) dL_law_2408 6 rfl rfl (Nat.le_of_ble_eq_true rfl) rfl ?_
      refine mg_goto (tgt := 23) dL_law_2411 (by decide) ?_
      refine mg_bud (bc' := bc - 8) (bs' := bs - 48) (by omega) (by omega) ?_
      exact mg_pick [3, 4, 5, 6, 0] rfl h
    · replace h := h.2 hc
      refine mg_aload_n dL_law_1290 rfl 5 rfl ?_
      refine mg_iconst (v := 0) dL_law_1291 (by decide) ?_
      refine mg_lald dL_law_1292 h3.1 h3.2 (vp_in_nI (n := 0) (Nat.le_of_ble_eq_true rfl) (Nat.le_of_ble_eq_true rfl)) rfl ?_
      refine mg_iload dL_law_1293 0 rfl ?_
      refine mg_i2l dL_law_1295 ?_
      refine mg_lcmp dL_law_1296 ?_
      refine mg_if_eq (tgt := 1302) dL_law_1297 (by decide) (fun hc => ?_) (fun hc => ?_)
      · replace h := h.1 hc
        refine mg_goto (tgt := 2408) dL_law_1302 (by decide) ?_
        refine mg_iinc (v := x4 + 4) (ls' := [(4, .int (x4 + 4)), (6, .int (v2)), (5, .int (v1)), (0, .ref (900001)), (1, .ref (k1)), (2, .ref (k2)), (3, .ref (k3))]) dL_law_2408 6 rfl rfl (Nat.le_of_ble_eq_true rfl) rfl ?_
        refine mg_goto (tgt := 23) dL_law_2411 (by decide) ?_
        refine mg_bud (bc' := bc - 8) (bs' := bs - 48) (by omega) (by omega) ?_
        exact mg_pick [3, 4, 5, 6, 0] rfl h
      · replace h := h.2 hc
        exact h.elim
  · replace h := h.2 hc
    exact h.elim
theorem cL_law_22 {b L : Nat} {xs : Nat → Int32} {k1 k2 k3 : Nat} {x4 : Int32} {bc bs : Nat} {g : mj_S} {M : mj_M} (h1 : is9 g k1) (h2 : is10 g k2) (h3 : k3 < g.1 ∧ g.2.1 k3 = (1, 2, 1)) (hb1 : 8 ≤ bc) (hb2 : 48 ≤ bs) (h : vp_in ((x4) + (1 : Int32)) L ∧ (∃ (q1 : Int32 → mj_M → Prop), kL_canEliminate (k1) (xs (Int32.toNatClampNeg ((x4) + (1 : Int32)))) (k3) g (M) q1 ∧ ∀ (v1 : Int32) (M1 : mj_M), q1 v1 M1 → (vp_in ((x4) + (1 : Int32)) L ∧ (∃ (q2 : Int32 → mj_M → Prop), kX10_canEliminate (k2) (xs (Int32.toNatClampNeg ((x4) + (1 : Int32)))) g (M1) q2 ∧ ∀ (v2 : Int32) (M2 : mj_M), q2 v2 M2 → (∃ (q3 : Int32 → mj_M → Prop), kX10_thrown (k2) g (M2) q3 ∧ ∀ (v3 : Int32) (M3 : mj_M), q3 v3 M3 → (((v3 : Int32) = (v1) → (¬ (v1 : Int32) = 0 → LL_23 b L xs k1 k2 k3 (x4 + 4) (bc - 8) (bs - 48) g (M3)) ∧ ((v1 : Int32) = 0 → ((v2 : Int32) = 0 → ((lg_cmp ((M3).2.1 (k3) (Int32.toNatClampNeg (0))) ((0 : Int64)) : Int32) = 0 → LL_23 b L xs k1 k2 k3 (x4 + 4) (bc - 8) (bs - 48) g (M3)) ∧ (¬ (lg_cmp ((M3).2.1 (k3) (Int32.toNatClampNeg (0))) ((0 : Int64)) : Int32) = 0 → False)) ∧ (¬ (v2 : Int32) = 0 → ((lg_cmp ((M3).2.1 (k3) (Int32.toNatClampNeg (0))) ((1 : Int64)) : Int32) = 0 → LL_23 b L xs k1 k2 k3 (x4 + 4) (bc - 8) (bs - 48) g (M3)) ∧ (¬ (lg_cmp ((M3).2.1 (k3) (Int32.toNatClampNeg (0))) ((1 : Int64)) : Int32) = 0 → False)))) ∧ (¬ (v3 : Int32) = (v1) → False))))))) : mj_G (mj_mtL b L xs) room_1 (mj_FL b) false bc bs 1305 [(0, .ref (900001)), (1, .ref (k1)), (2, .ref (k2)), (3, .ref (k3)), (4, .int (x4))] [] g M := by
  refine mg_aload_n dL_law_1305 rfl 1 rfl ?_
  refine mg_aload_n dL_law_1306 rfl 0 rfl ?_
  refine mg_iload dL_law_1307 4 rfl ?_
  refine mg_iconst (v := 1) dL_law_1309 (by decide) ?_
  refine mg_iadd dL_law_1310 ?_
  refine mg_sld (b := b) (L := L) (xs := xs) rfl dL_law_1311 h.1 ?_
  replace h := h.2
  refine mg_aload_n dL_law_1312 rfl 3 rfl ?_
  obtain ⟨q1, hC, hk⟩ := h
  refine mw_H2 [.ref (k1), .int (xs (Int32.toNatClampNeg ((x4) + (1 : Int32)))), .ref (k3)] [] dL_law_1313 wd_1115 kiL_canEliminate ⟨Nat.le_of_ble_eq_true rfl, Nat.le_of_ble_eq_true rfl⟩ (Nat.le_of_ble_eq_true rfl) ⟨by omega, by omega⟩ hC (fun v1 M1 hq => ?_)
  replace h := hk v1 M1 hq
  refine mg_istore (ls' := [(5, .int (v1)), (0, .ref (900001)), (1, .ref (k1)), (2, .ref (k2)), (3, .ref (k3)), (4, .int (x4))]) dL_law_1316 (Nat.le_of_ble_eq_true rfl) rfl ?_
  refine mg_aload_n dL_law_1318 rfl 3 rfl ?_
  refine mg_aload_n dL_law_1319 rfl 1 rfl ?_
  refine mg_iload dL_law_1320 5 rfl ?_
  refine mg_iconst (v := 1) dL_law_1322 (by decide) ?_
  refine mg_iadd dL_law_1323 ?_
  refine mg_sld (b := b) (L := L) (xs := xs) rfl dL_law_1324 h.1 ?_
  replace h := h.2
  obtain ⟨q2, hC, hk⟩ := h
  refine ml_Vi [.int (xs (Int32.toNatClampNeg ((x4) + (1 : Int32))))] [] dL_law_1325 wd_1721 kiX10_canEliminate (Nat.le_of_ble_eq_true rfl) h2.1.1 h2.1.2 rfl ⟨Nat.le_of_ble_eq_true rfl, Nat.le_of_ble_eq_true rfl⟩ hC (fun v2 M2 hq => ?_)
  replace h := hk v2 M2 hq
  refine mg_istore (ls' := [(6, .int (v2)), (5, .int (v1)), (0, .ref (900001)), (1, .ref (k1)), (2, .ref (k2)), (3, .ref (k3)), (4, .int (x4))]) dL_law_1328 (Nat.le_of_ble_eq_true rfl) rfl ?_
  refine mg_aload_n dL_law_1330 rfl 4 rfl ?_
  obtain ⟨q3, hC, hk⟩ := h
  refine ml_Vi [] [] dL_law_1331 wd_1341 kiX10_thrown (Nat.le_of_ble_eq_true rfl) h2.1.1 h2.1.2 rfl ⟨Nat.le_of_ble_eq_true rfl, Nat.le_of_ble_eq_true rfl⟩ hC (fun v3 M3 hq => ?_)
  replace h := hk v3 M3 hq
  refine mg_iload dL_law_1334 1 rfl ?_
  refine mg_icmp_eq (tgt := 1341) dL_law_1336 (by decide) (fun hc => ?_) (fun hc => ?_)
  · replace h := h.1 hc
    refine mg_iload dL_law_1341 1 rfl ?_
    refine mg_if_ne (tgt := 1365) dL_law_1343 (by decide) (fun hc => ?_) (fun hc => ?_)
    · replace h := h.1 hc
      refine mg_goto (tgt := 2408) dL_law_1365 (by decide) ?_
      refine mg_iinc (v := x4 + 4) (ls' := [(4, .int (x4 + 4)), (6, .int (v2)), (5, .int (v1)), (0, .ref (900001)), (1, .ref (k1)), (2, .ref (k2)), (3, .ref (k3))]) dL_law_2408 6 rfl rfl (Nat.le_of_ble_eq_true rfl) rfl ?_
      refine mg_goto (tgt := 23) dL_law_2411 (by decide) ?_
      refine mg_bud (bc' := bc - 8) (bs' := bs - 48) (by omega) (by omega) ?_
      exact mg_pick [3, 4, 5, 6, 0] rfl h
    · replace h := h.2 hc
      refine mg_aload_n dL_law_1346 rfl 5 rfl ?_
      refine mg_iconst (v := 0) dL_law_1347 (by decide) ?_
      refine mg_lald dL_law_1348 h3.1 h3.2 (vp_in_nI (n := 0) (Nat.le_of_ble_eq_true rfl) (Nat.le_of_ble_eq_true rfl)) rfl ?_
      refine mg_iload dL_law_1349 0 rfl ?_
      refine mg_if_eq (tgt := 1358) dL_law_1351 (by decide) (fun hc => ?_) (fun hc => ?_)
      · replace h := h.1 hc
        refine mg_lconst (v := 0) dL_law_1358 (by decide) ?_
        refine mg_lcmp dL_law_1359 ?_
        refine mg_if_eq (tgt := 1365) dL_law_1360 (by decide) (fun hc => ?_) (fun hc => ?_)
        · replace h := h.1 hc
          refine mg_goto (tgt := 2408) dL_law_1365 (by decide) ?_
          refine mg_iinc (v := x4 + 4) (ls' := [(4, .int (x4 + 4)), (6, .int (v2)), (5, .int (v1)), (0, .ref (900001)), (1, .ref (k1)), (2, .ref (k2)), (3, .ref (k3))]) dL_law_2408 6 rfl rfl (Nat.le_of_ble_eq_true rfl) rfl ?_
          refine mg_goto (tgt := 23) dL_law_2411 (by decide) ?_
          refine mg_bud (bc' := bc - 8) (bs' := bs - 48) (by omega) (by omega) ?_
          exact mg_pick [3, 4, 5, 6, 0] rfl h
        · replace h := h.2 hc
          exact h.elim
      · replace h := h.2 hc
        refine mg_lconst (v := 1) dL_law_1354 (by decide) ?_
        refine mg_goto (tgt := 1359) dL_law_1355 (by decide) ?_
        refine mg_lcmp dL_law_1359 ?_
        refine mg_if_eq (tgt := 1365) dL_law_1360 (by decide) (fun hc => ?_) (fun hc => ?_)
        · replace h := h.1 hc
          refine mg_goto (tgt := 2408) dL_law_1365 (by decide) ?_
          refine mg_iinc (v := x4 + 4) (ls' := [(4, .int (x4 + 4)), (6, .int (v2)), (5, .int (v1)), (0, .ref (900001)), (1, .ref (k1)), (2, .ref (k2)), (3, .ref (k3))]) dL_law_2408 6 rfl rfl (Nat.le_of_ble_eq_true rfl) rfl ?_
          refine mg_goto (tgt := 23) dL_law_2411 (by decide) ?_
          refine mg_bud (bc' := bc - 8) (bs' := bs - 48) (by omega) (by omega) ?_
          exact mg_pick [3, 4, 5, 6, 0] rfl h
        · replace h := h.2 hc
          exact h.elim
  · replace h := h.2 hc
    exact h.elim
theorem cL_law_23 {b L : Nat} {xs : Nat → Int32} {k1 k2 k3 : Nat} {x4 : Int32} {bc bs : Nat} {g : mj_S} {M : mj_M} (h1 : is9 g k1) (h2 : is10 g k2) (h3 : k3 < g.1 ∧ g.2.1 k3 = (1, 2, 1)) (hb1 : 8 ≤ bc) (hb2 : 48 ≤ bs) (h : vp_in ((x4) + (1 : Int32)) L ∧ (∃ (q1 : Int32 → mj_M → Prop), kL_resolventCount (k1) (xs (Int32.toNatClampNeg ((x4) + (1 : Int32)))) (k3) g (M) q1 ∧ ∀ (v1 : Int32) (M1 : mj_M), q1 v1 M1 → (vp_in ((x4) + (1 : Int32)) L ∧ (∃ (q2 : Int32 → mj_M → Prop), kX10_resolventCount (k2) (xs (Int32.toNatClampNeg ((x4) + (1 : Int32)))) g (M1) q2 ∧ ∀ (v2 : Int32) (M2 : mj_M), q2 v2 M2 → (∃ (q3 : Int32 → mj_M → Prop), kX10_thrown (k2) g (M2) q3 ∧ ∀ (v3 : Int32) (M3 : mj_M), q3 v3 M3 → (((v3 : Int32) = (v1) → (¬ (v1 : Int32) = 0 → LL_23 b L xs k1 k2 k3 (x4 + 4) (bc - 8) (bs - 48) g (M3)) ∧ ((v1 : Int32) = 0 → ((lg_cmp ((M3).2.1 (k3) (Int32.toNatClampNeg (0))) (Int32.toInt64 (v2)) : Int32) = 0 → LL_23 b L xs k1 k2 k3 (x4 + 4) (bc - 8) (bs - 48) g (M3)) ∧ (¬ (lg_cmp ((M3).2.1 (k3) (Int32.toNatClampNeg (0))) (Int32.toInt64 (v2)) : Int32) = 0 → False))) ∧ (¬ (v3 : Int32) = (v1) → False))))))) : mj_G (mj_mtL b L xs) room_1 (mj_FL b) false bc bs 1368 [(0, .ref (900001)), (1, .ref (k1)), (2, .ref (k2)), (3, .ref (k3)), (4, .int (x4))] [] g M := by
  refine mg_aload_n dL_law_1368 rfl 1 rfl ?_
  refine mg_aload_n dL_law_1369 rfl 0 rfl ?_
  refine mg_iload dL_law_1370 4 rfl ?_
  refine mg_iconst (v := 1) dL_law_1372 (by decide) ?_
  refine mg_iadd dL_law_1373 ?_
  refine mg_sld (b := b) (L := L) (xs := xs) rfl dL_law_1374 h.1 ?_
  replace h := h.2
  refine mg_aload_n dL_law_1375 rfl 3 rfl ?_
  obtain ⟨q1, hC, hk⟩ := h
  refine mw_H2 [.ref (k1), .int (xs (Int32.toNatClampNeg ((x4) + (1 : Int32)))), .ref (k3)] [] dL_law_1376 wd_1122 kiL_resolventCount ⟨Nat.le_of_ble_eq_true rfl, Nat.le_of_ble_eq_true rfl⟩ (Nat.le_of_ble_eq_true rfl) ⟨by omega, by omega⟩ hC (fun v1 M1 hq => ?_)
  replace h := hk v1 M1 hq
  refine mg_istore (ls' := [(5, .int (v1)), (0, .ref (900001)), (1, .ref (k1)), (2, .ref (k2)), (3, .ref (k3)), (4, .int (x4))]) dL_law_1379 (Nat.le_of_ble_eq_true rfl) rfl ?_
  refine mg_aload_n dL_law_1381 rfl 3 rfl ?_
  refine mg_aload_n dL_law_1382 rfl 1 rfl ?_
  refine mg_iload dL_law_1383 5 rfl ?_
  refine mg_iconst (v := 1) dL_law_1385 (by decide) ?_
  refine mg_iadd dL_law_1386 ?_
  refine mg_sld (b := b) (L := L) (xs := xs) rfl dL_law_1387 h.1 ?_
  replace h := h.2
  obtain ⟨q2, hC, hk⟩ := h
  refine ml_Vi [.int (xs (Int32.toNatClampNeg ((x4) + (1 : Int32))))] [] dL_law_1388 wd_1725 kiX10_resolventCount (Nat.le_of_ble_eq_true rfl) h2.1.1 h2.1.2 rfl ⟨Nat.le_of_ble_eq_true rfl, Nat.le_of_ble_eq_true rfl⟩ hC (fun v2 M2 hq => ?_)
  replace h := hk v2 M2 hq
  refine mg_istore (ls' := [(6, .int (v2)), (5, .int (v1)), (0, .ref (900001)), (1, .ref (k1)), (2, .ref (k2)), (3, .ref (k3)), (4, .int (x4))]) dL_law_1391 (Nat.le_of_ble_eq_true rfl) rfl ?_
  refine mg_aload_n dL_law_1393 rfl 4 rfl ?_
  obtain ⟨q3, hC, hk⟩ := h
  refine ml_Vi [] [] dL_law_1394 wd_1341 kiX10_thrown (Nat.le_of_ble_eq_true rfl) h2.1.1 h2.1.2 rfl ⟨Nat.le_of_ble_eq_true rfl, Nat.le_of_ble_eq_true rfl⟩ hC (fun v3 M3 hq => ?_)
  replace h := hk v3 M3 hq
  refine mg_iload dL_law_1397 1 rfl ?_
  refine mg_icmp_eq (tgt := 1404) dL_law_1399 (by decide) (fun hc => ?_) (fun hc => ?_)
  · replace h := h.1 hc
    refine mg_iload dL_law_1404 1 rfl ?_
    refine mg_if_ne (tgt := 1421) dL_law_1406 (by decide) (fun hc => ?_) (fun hc => ?_)
    · replace h := h.1 hc
      refine mg_goto (tgt := 2408) dL_law_1421 (by decide) ?_
      refine mg_iinc (v := x4 + 4) (ls' := [(4, .int (x4 + 4)), (6, .int (v2)), (5, .int (v1)), (0, .ref (900001)), (1, .ref (k1)), (2, .ref (k2)), (3, .ref (k3))]) dL_law_2408 6 rfl rfl (Nat.le_of_ble_eq_true rfl) rfl ?_
      refine mg_goto (tgt := 23) dL_law_2411 (by decide) ?_
      refine mg_bud (bc' := bc - 8) (bs' := bs - 48) (by omega) (by omega) ?_
      exact mg_pick [3, 4, 5, 6, 0] rfl h
    · replace h := h.2 hc
      refine mg_aload_n dL_law_1409 rfl 5 rfl ?_
      refine mg_iconst (v := 0) dL_law_1410 (by decide) ?_
      refine mg_lald dL_law_1411 h3.1 h3.2 (vp_in_nI (n := 0) (Nat.le_of_ble_eq_true rfl) (Nat.le_of_ble_eq_true rfl)) rfl ?_
      refine mg_iload dL_law_1412 0 rfl ?_
      refine mg_i2l dL_law_1414 ?_
      refine mg_lcmp dL_law_1415 ?_
      refine mg_if_eq (tgt := 1421) dL_law_1416 (by decide) (fun hc => ?_) (fun hc => ?_)
      · replace h := h.1 hc
        refine mg_goto (tgt := 2408) dL_law_1421 (by decide) ?_
        refine mg_iinc (v := x4 + 4) (ls' := [(4, .int (x4 + 4)), (6, .int (v2)), (5, .int (v1)), (0, .ref (900001)), (1, .ref (k1)), (2, .ref (k2)), (3, .ref (k3))]) dL_law_2408 6 rfl rfl (Nat.le_of_ble_eq_true rfl) rfl ?_
        refine mg_goto (tgt := 23) dL_law_2411 (by decide) ?_
        refine mg_bud (bc' := bc - 8) (bs' := bs - 48) (by omega) (by omega) ?_
        exact mg_pick [3, 4, 5, 6, 0] rfl h
      · replace h := h.2 hc
        exact h.elim
  · replace h := h.2 hc
    exact h.elim
theorem cL_law_24 {b L : Nat} {xs : Nat → Int32} {k1 k2 k3 : Nat} {x4 : Int32} {bc bs : Nat} {g : mj_S} {M : mj_M} (h1 : is9 g k1) (h2 : is10 g k2) (h3 : k3 < g.1 ∧ g.2.1 k3 = (1, 2, 1)) (hb1 : 8 ≤ bc) (hb2 : 48 ≤ bs) (h : vp_in ((x4) + (1 : Int32)) L ∧ (vp_in ((x4) + (2 : Int32)) L ∧ (vp_in ((x4) + (3 : Int32)) L ∧ (((xs (Int32.toNatClampNeg ((x4) + (3 : Int32))) : Int32) = 0 → ∃ (q1 : Int32 → mj_M → Prop), kL_resolvent (k1) (xs (Int32.toNatClampNeg ((x4) + (1 : Int32)))) (xs (Int32.toNatClampNeg ((x4) + (2 : Int32)))) (0) (k3) g (M) q1 ∧ ∀ (v1 : Int32) (M1 : mj_M), q1 v1 M1 → (vp_in ((x4) + (1 : Int32)) L ∧ (vp_in ((x4) + (2 : Int32)) L ∧ (vp_in ((x4) + (3 : Int32)) L ∧ (((xs (Int32.toNatClampNeg ((x4) + (3 : Int32))) : Int32) = 0 → ∃ (q2 : Int32 → mj_M → Prop), kX10_resolvent (k2) (xs (Int32.toNatClampNeg ((x4) + (1 : Int32)))) (xs (Int32.toNatClampNeg ((x4) + (2 : Int32)))) (0) g (M1) q2 ∧ ∀ (v2 : Int32) (M2 : mj_M), q2 v2 M2 → (∃ (q3 : Int32 → mj_M → Prop), kX10_thrown (k2) g (M2) q3 ∧ ∀ (v3 : Int32) (M3 : mj_M), q3 v3 M3 → (((v3 : Int32) = (v1) → (¬ (v1 : Int32) = 0 → LL_23 b L xs k1 k2 k3 (x4 + 4) (bc - 8) (bs - 48) g (M3)) ∧ ((v1 : Int32) = 0 → ((lg_cmp ((M3).2.1 (k3) (Int32.toNatClampNeg (0))) (Int32.toInt64 (v2)) : Int32) = 0 → LL_23 b L xs k1 k2 k3 (x4 + 4) (bc - 8) (bs - 48) g (M3)) ∧ (¬ (lg_cmp ((M3).2.1 (k3) (Int32.toNatClampNeg (0))) (Int32.toInt64 (v2)) : Int32) = 0 → False))) ∧ (¬ (v3 : Int32) = (v1) → False)))) ∧ (¬ (xs (Int32.toNatClampNeg ((x4) + (3 : Int32))) : Int32) = 0 → ∃ (q4 : Int32 → mj_M → Prop), kX10_resolvent (k2) (xs (Int32.toNatClampNeg ((x4) + (1 : Int32)))) (xs (Int32.toNatClampNeg ((x4) + (2 : Int32)))) (1) g (M1) q4 ∧ ∀ (v4 : Int32) (M4 : mj_M), q4 v4 M4 → (∃ (q5 : Int32 → mj_M → Prop), kX10_thrown (k2) g (M4) q5 ∧ ∀ (v5 : Int32) (M5 : mj_M), q5 v5 M5 → (((v5 : Int32) = (v1) → (¬ (v1 : Int32) = 0 → LL_23 b L xs k1 k2 k3 (x4 + 4) (bc - 8) (bs - 48) g (M5)) ∧ ((v1 : Int32) = 0 → ((lg_cmp ((M5).2.1 (k3) (Int32.toNatClampNeg (0))) (Int32.toInt64 (v4)) : Int32) = 0 → LL_23 b L xs k1 k2 k3 (x4 + 4) (bc - 8) (bs - 48) g (M5)) ∧ (¬ (lg_cmp ((M5).2.1 (k3) (Int32.toNatClampNeg (0))) (Int32.toInt64 (v4)) : Int32) = 0 → False))) ∧ (¬ (v5 : Int32) = (v1) → False))))))))) ∧ (¬ (xs (Int32.toNatClampNeg ((x4) + (3 : Int32))) : Int32) = 0 → ∃ (q6 : Int32 → mj_M → Prop), kL_resolvent (k1) (xs (Int32.toNatClampNeg ((x4) + (1 : Int32)))) (xs (Int32.toNatClampNeg ((x4) + (2 : Int32)))) (1) (k3) g (M) q6 ∧ ∀ (v6 : Int32) (M6 : mj_M), q6 v6 M6 → (vp_in ((x4) + (1 : Int32)) L ∧ (vp_in ((x4) + (2 : Int32)) L ∧ (vp_in ((x4) + (3 : Int32)) L ∧ (((xs (Int32.toNatClampNeg ((x4) + (3 : Int32))) : Int32) = 0 → ∃ (q7 : Int32 → mj_M → Prop), kX10_resolvent (k2) (xs (Int32.toNatClampNeg ((x4) + (1 : Int32)))) (xs (Int32.toNatClampNeg ((x4) + (2 : Int32)))) (0) g (M6) q7 ∧ ∀ (v7 : Int32) (M7 : mj_M), q7 v7 M7 → (∃ (q8 : Int32 → mj_M → Prop), kX10_thrown (k2) g (M7) q8 ∧ ∀ (v8 : Int32) (M8 : mj_M), q8 v8 M8 → (((v8 : Int32) = (v6) → (¬ (v6 : Int32) = 0 → LL_23 b L xs k1 k2 k3 (x4 + 4) (bc - 8) (bs - 48) g (M8)) ∧ ((v6 : Int32) = 0 → ((lg_cmp ((M8).2.1 (k3) (Int32.toNatClampNeg (0))) (Int32.toInt64 (v7)) : Int32) = 0 → LL_23 b L xs k1 k2 k3 (x4 + 4) (bc - 8) (bs - 48) g (M8)) ∧ (¬ (lg_cmp ((M8).2.1 (k3) (Int32.toNatClampNeg (0))) (Int32.toInt64 (v7)) : Int32) = 0 → False))) ∧ (¬ (v8 : Int32) = (v6) → False)))) ∧ (¬ (xs (Int32.toNatClampNeg ((x4) + (3 : Int32))) : Int32) = 0 → ∃ (q9 : Int32 → mj_M → Prop), kX10_resolvent (k2) (xs (Int32.toNatClampNeg ((x4) + (1 : Int32)))) (xs (Int32.toNatClampNeg ((x4) + (2 : Int32)))) (1) g (M6) q9 ∧ ∀ (v9 : Int32) (M9 : mj_M), q9 v9 M9 → (∃ (q10 : Int32 → mj_M → Prop), kX10_thrown (k2) g (M9) q10 ∧ ∀ (v10 : Int32) (M10 : mj_M), q10 v10 M10 → (((v10 : Int32) = (v6) → (¬ (v6 : Int32) = 0 → LL_23 b L xs k1 k2 k3 (x4 + 4) (bc - 8) (bs - 48) g (M10)) ∧ ((v6 : Int32) = 0 → ((lg_cmp ((M10).2.1 (k3) (Int32.toNatClampNeg (0))) (Int32.toInt64 (v9)) : Int32) = 0 → LL_23 b L xs k1 k2 k3 (x4 + 4) (bc - 8) (bs - 48) g (M10)) ∧ (¬ (lg_cmp ((M10).2.1 (k3) (Int32.toNatClampNeg (0))) (Int32.toInt64 (v9)) : Int32) = 0 → False))) ∧ (¬ (v10 : Int32) = (v6) → False))))))))))))) : mj_G (mj_mtL b L xs) room_1 (mj_FL b) false bc bs 1424 [(0, .ref (900001)), (1, .ref (k1)), (2, .ref (k2)), (3, .ref (k3)), (4, .int (x4))] [] g M := by
  refine mg_aload_n dL_law_1424 rfl 1 rfl ?_
  refine mg_aload_n dL_law_1425 rfl 0 rfl ?_
  refine mg_iload dL_law_1426 4 rfl ?_
  refine mg_iconst (v := 1) dL_law_1428 (by decide) ?_
  refine mg_iadd dL_law_1429 ?_
  refine mg_sld (b := b) (L := L) (xs := xs) rfl dL_law_1430 h.1 ?_
  replace h := h.2
  refine mg_aload_n dL_law_1431 rfl 0 rfl ?_
  refine mg_iload dL_law_1432 4 rfl ?_
  refine mg_iconst (v := 2) dL_law_1434 (by decide) ?_
  refine mg_iadd dL_law_1435 ?_
  refine mg_sld (b := b) (L := L) (xs := xs) rfl dL_law_1436 h.1 ?_
  replace h := h.2
  refine mg_aload_n dL_law_1437 rfl 0 rfl ?_
  refine mg_iload dL_law_1438 4 rfl ?_
  refine mg_iconst (v := 3) dL_law_1440 (by decide) ?_
  refine mg_iadd dL_law_1441 ?_
  refine mg_sld (b := b) (L := L) (xs := xs) rfl dL_law_1442 h.1 ?_
  replace h := h.2
  refine mg_if_eq (tgt := 1450) dL_law_1443 (by decide) (fun hc => ?_) (fun hc => ?_)
  · replace h := h.1 hc
    refine mg_iconst (v := 0) dL_law_1450 (by decide) ?_
    refine mg_aload_n dL_law_1451 rfl 3 rfl ?_
    obtain ⟨q1, hC, hk⟩ := h
    refine mw_H2 [.ref (k1), .int (xs (Int32.toNatClampNeg ((x4) + (1 : Int32)))), .int (xs (Int32.toNatClampNeg ((x4) + (2 : Int32)))), .int (0), .ref (k3)] [] dL_law_1452 wd_1136 kiL_resolvent ⟨Nat.le_of_ble_eq_true rfl, Nat.le_of_ble_eq_true rfl⟩ (Nat.le_of_ble_eq_true rfl) ⟨by omega, by omega⟩ hC (fun v1 M1 hq => ?_)
    replace h := hk v1 M1 hq
    refine mg_istore (ls' := [(5, .int (v1)), (0, .ref (900001)), (1, .ref (k1)), (2, .ref (k2)), (3, .ref (k3)), (4, .int (x4))]) dL_law_1455 (Nat.le_of_ble_eq_true rfl) rfl ?_
    refine mg_aload_n dL_law_1457 rfl 3 rfl ?_
    refine mg_aload_n dL_law_1458 rfl 1 rfl ?_
    refine mg_iload dL_law_1459 5 rfl ?_
    refine mg_iconst (v := 1) dL_law_1461 (by decide) ?_
    refine mg_iadd dL_law_1462 ?_
    refine mg_sld (b := b) (L := L) (xs := xs) rfl dL_law_1463 h.1 ?_
    replace h := h.2
    refine mg_aload_n dL_law_1464 rfl 1 rfl ?_
    refine mg_iload dL_law_1465 5 rfl ?_
    refine mg_iconst (v := 2) dL_law_1467 (by decide) ?_
    refine mg_iadd dL_law_1468 ?_
    refine mg_sld (b := b) (L := L) (xs := xs) rfl dL_law_1469 h.1 ?_
    replace h := h.2
    refine mg_aload_n dL_law_1470 rfl 1 rfl ?_
    refine mg_iload dL_law_1471 5 rfl ?_
    refine mg_iconst (v := 3) dL_law_1473 (by decide) ?_
    refine mg_iadd dL_law_1474 ?_
    refine mg_sld (b := b) (L := L) (xs := xs) rfl dL_law_1475 h.1 ?_
    replace h := h.2
    refine mg_if_eq (tgt := 1483) dL_law_1476 (by decide) (fun hc => ?_) (fun hc => ?_)
    · replace h := h.1 hc
      refine mg_iconst (v := 0) dL_law_1483 (by decide) ?_
      obtain ⟨q2, hC, hk⟩ := h
      refine ml_Vi [.int (xs (Int32.toNatClampNeg ((x4) + (1 : Int32)))), .int (xs (Int32.toNatClampNeg ((x4) + (2 : Int32)))), .int (0)] [] dL_law_1484 wd_1729 kiX10_resolvent (Nat.le_of_ble_eq_true rfl) h2.1.1 h2.1.2 rfl ⟨Nat.le_of_ble_eq_true rfl, Nat.le_of_ble_eq_true rfl⟩ hC (fun v2 M2 hq => ?_)
      replace h := hk v2 M2 hq
      refine mg_istore (ls' := [(6, .int (v2)), (5, .int (v1)), (0, .ref (900001)), (1, .ref (k1)), (2, .ref (k2)), (3, .ref (k3)), (4, .int (x4))]) dL_law_1487 (Nat.le_of_ble_eq_true rfl) rfl ?_
      refine mg_aload_n dL_law_1489 rfl 4 rfl ?_
      obtain ⟨q3, hC, hk⟩ := h
      refine ml_Vi [] [] dL_law_1490 wd_1341 kiX10_thrown (Nat.le_of_ble_eq_true rfl) h2.1.1 h2.1.2 rfl ⟨Nat.le_of_ble_eq_true rfl, Nat.le_of_ble_eq_true rfl⟩ hC (fun v3 M3 hq => ?_)
      replace h := hk v3 M3 hq
      refine mg_iload dL_law_1493 1 rfl ?_
      refine mg_icmp_eq (tgt := 1500) dL_law_1495 (by decide) (fun hc => ?_) (fun hc => ?_)
      · replace h := h.1 hc
        refine mg_iload dL_law_1500 1 rfl ?_
        refine mg_if_ne (tgt := 1517) dL_law_1502 (by decide) (fun hc => ?_) (fun hc => ?_)
        · replace h := h.1 hc
          refine mg_goto (tgt := 2408) dL_law_1517 (by decide) ?_
          refine mg_iinc (v := x4 + 4) (ls' := [(4, .int (x4 + 4)), (6, .int (v2)), (5, .int (v1)), (0, .ref (900001)), (1, .ref (k1)), (2, .ref (k2)), (3, .ref (k3))]) dL_law_2408 6 rfl rfl (Nat.le_of_ble_eq_true rfl) rfl ?_
          refine mg_goto (tgt := 23) dL_law_2411 (by decide) ?_
          refine mg_bud (bc' := bc - 8) (bs' := bs - 48) (by omega) (by omega) ?_
          exact mg_pick [3, 4, 5, 6, 0] rfl h
        · replace h := h.2 hc
          refine mg_aload_n dL_law_1505 rfl 5 rfl ?_
          refine mg_iconst (v := 0) dL_law_1506 (by decide) ?_
          refine mg_lald dL_law_1507 h3.1 h3.2 (vp_in_nI (n := 0) (Nat.le_of_ble_eq_true rfl) (Nat.le_of_ble_eq_true rfl)) rfl ?_
          refine mg_iload dL_law_1508 0 rfl ?_
          refine mg_i2l dL_law_1510 ?_
          refine mg_lcmp dL_law_1511 ?_
          refine mg_if_eq (tgt := 1517) dL_law_1512 (by decide) (fun hc => ?_) (fun hc => ?_)
          · replace h := h.1 hc
            refine mg_goto (tgt := 2408) dL_law_1517 (by decide) ?_
            refine mg_iinc (v := x4 + 4) (ls' := [(4, .int (x4 + 4)), (6, .int (v2)), (5, .int (v1)), (0, .ref (900001)), (1, .ref (k1)), (2, .ref (k2)), (3, .ref (k3))]) dL_law_2408 6 rfl rfl (Nat.le_of_ble_eq_true rfl) rfl ?_
            refine mg_goto (tgt := 23) dL_law_2411 (by decide) ?_
            refine mg_bud (bc' := bc - 8) (bs' := bs - 48) (by omega) (by omega) ?_
            exact mg_pick [3, 4, 5, 6, 0] rfl h
          · replace h := h.2 hc
            exact h.elim
      · replace h := h.2 hc
        exact h.elim
    · replace h := h.2 hc
      refine mg_iconst (v := 1) dL_law_1479 (by decide) ?_
      refine mg_goto (tgt := 1484) dL_law_1480 (by decide) ?_
      obtain ⟨q4, hC, hk⟩ := h
      refine ml_Vi [.int (xs (Int32.toNatClampNeg ((x4) + (1 : Int32)))), .int (xs (Int32.toNatClampNeg ((x4) + (2 : Int32)))), .int (1)] [] dL_law_1484 wd_1729 kiX10_resolvent (Nat.le_of_ble_eq_true rfl) h2.1.1 h2.1.2 rfl ⟨Nat.le_of_ble_eq_true rfl, Nat.le_of_ble_eq_true rfl⟩ hC (fun v4 M4 hq => ?_)
      replace h := hk v4 M4 hq
      refine mg_istore (ls' := [(6, .int (v4)), (5, .int (v1)), (0, .ref (900001)), (1, .ref (k1)), (2, .ref (k2)), (3, .ref (k3)), (4, .int (x4))]) dL_law_1487 (Nat.le_of_ble_eq_true rfl) rfl ?_
      refine mg_aload_n dL_law_1489 rfl 4 rfl ?_
      obtain ⟨q5, hC, hk⟩ := h
      refine ml_Vi [] [] dL_law_1490 wd_1341 kiX10_thrown (Nat.le_of_ble_eq_true rfl) h2.1.1 h2.1.2 rfl ⟨Nat.le_of_ble_eq_true rfl, Nat.le_of_ble_eq_true rfl⟩ hC (fun v5 M5 hq => ?_)
      replace h := hk v5 M5 hq
      refine mg_iload dL_law_1493 1 rfl ?_
      refine mg_icmp_eq (tgt := 1500) dL_law_1495 (by decide) (fun hc => ?_) (fun hc => ?_)
      · replace h := h.1 hc
        refine mg_iload dL_law_1500 1 rfl ?_
        refine mg_if_ne (tgt := 1517) dL_law_1502 (by decide) (fun hc => ?_) (fun hc => ?_)
        · replace h := h.1 hc
          refine mg_goto (tgt := 2408) dL_law_1517 (by decide) ?_
          refine mg_iinc (v := x4 + 4) (ls' := [(4, .int (x4 + 4)), (6, .int (v4)), (5, .int (v1)), (0, .ref (900001)), (1, .ref (k1)), (2, .ref (k2)), (3, .ref (k3))]) dL_law_2408 6 rfl rfl (Nat.le_of_ble_eq_true rfl) rfl ?_
          refine mg_goto (tgt := 23) dL_law_2411 (by decide) ?_
          refine mg_bud (bc' := bc - 8) (bs' := bs - 48) (by omega) (by omega) ?_
          exact mg_pick [3, 4, 5, 6, 0] rfl h
        · replace h := h.2 hc
          refine mg_aload_n dL_law_1505 rfl 5 rfl ?_
          refine mg_iconst (v := 0) dL_law_1506 (by decide) ?_
          refine mg_lald dL_law_1507 h3.1 h3.2 (vp_in_nI (n := 0) (Nat.le_of_ble_eq_true rfl) (Nat.le_of_ble_eq_true rfl)) rfl ?_
          refine mg_iload dL_law_1508 0 rfl ?_
          refine mg_i2l dL_law_1510 ?_
          refine mg_lcmp dL_law_1511 ?_
          refine mg_if_eq (tgt := 1517) dL_law_1512 (by decide) (fun hc => ?_) (fun hc => ?_)
          · replace h := h.1 hc
            refine mg_goto (tgt := 2408) dL_law_1517 (by decide) ?_
            refine mg_iinc (v := x4 + 4) (ls' := [(4, .int (x4 + 4)), (6, .int (v4)), (5, .int (v1)), (0, .ref (900001)), (1, .ref (k1)), (2, .ref (k2)), (3, .ref (k3))]) dL_law_2408 6 rfl rfl (Nat.le_of_ble_eq_true rfl) rfl ?_
            refine mg_goto (tgt := 23) dL_law_2411 (by decide) ?_
            refine mg_bud (bc' := bc - 8) (bs' := bs - 48) (by omega) (by omega) ?_
            exact mg_pick [3, 4, 5, 6, 0] rfl h
          · replace h := h.2 hc
            exact h.elim
      · replace h := h.2 hc
        exact h.elim
  · replace h := h.2 hc
    refine mg_iconst (v := 1) dL_law_1446 (by decide) ?_
    refine mg_goto (tgt := 1451) dL_law_1447 (by decide) ?_
    refine mg_aload_n dL_law_1451 rfl 3 rfl ?_
    obtain ⟨q6, hC, hk⟩ := h
    refine mw_H2 [.ref (k1), .int (xs (Int32.toNatClampNeg ((x4) + (1 : Int32)))), .int (xs (Int32.toNatClampNeg ((x4) + (2 : Int32)))), .int (1), .ref (k3)] [] dL_law_1452 wd_1136 kiL_resolvent ⟨Nat.le_of_ble_eq_true rfl, Nat.le_of_ble_eq_true rfl⟩ (Nat.le_of_ble_eq_true rfl) ⟨by omega, by omega⟩ hC (fun v6 M6 hq => ?_)
    replace h := hk v6 M6 hq
    refine mg_istore (ls' := [(5, .int (v6)), (0, .ref (900001)), (1, .ref (k1)), (2, .ref (k2)), (3, .ref (k3)), (4, .int (x4))]) dL_law_1455 (Nat.le_of_ble_eq_true rfl) rfl ?_
    refine mg_aload_n dL_law_1457 rfl 3 rfl ?_
    refine mg_aload_n dL_law_1458 rfl 1 rfl ?_
    refine mg_iload dL_law_1459 5 rfl ?_
    refine mg_iconst (v := 1) dL_law_1461 (by decide) ?_
    refine mg_iadd dL_law_1462 ?_
    refine mg_sld (b := b) (L := L) (xs := xs) rfl dL_law_1463 h.1 ?_
    replace h := h.2
    refine mg_aload_n dL_law_1464 rfl 1 rfl ?_
    refine mg_iload dL_law_1465 5 rfl ?_
    refine mg_iconst (v := 2) dL_law_1467 (by decide) ?_
    refine mg_iadd dL_law_1468 ?_
    refine mg_sld (b := b) (L := L) (xs := xs) rfl dL_law_1469 h.1 ?_
    replace h := h.2
    refine mg_aload_n dL_law_1470 rfl 1 rfl ?_
    refine mg_iload dL_law_1471 5 rfl ?_
    refine mg_iconst (v := 3) dL_law_1473 (by decide) ?_
    refine mg_iadd dL_law_1474 ?_
    refine mg_sld (b := b) (L := L) (xs := xs) rfl dL_law_1475 h.1 ?_
    replace h := h.2
    refine mg_if_eq (tgt := 1483) dL_law_1476 (by decide) (fun hc => ?_) (fun hc => ?_)
    · replace h := h.1 hc
      refine mg_iconst (v := 0) dL_law_1483 (by decide) ?_
      obtain ⟨q7, hC, hk⟩ := h
      refine ml_Vi [.int (xs (Int32.toNatClampNeg ((x4) + (1 : Int32)))), .int (xs (Int32.toNatClampNeg ((x4) + (2 : Int32)))), .int (0)] [] dL_law_1484 wd_1729 kiX10_resolvent (Nat.le_of_ble_eq_true rfl) h2.1.1 h2.1.2 rfl ⟨Nat.le_of_ble_eq_true rfl, Nat.le_of_ble_eq_true rfl⟩ hC (fun v7 M7 hq => ?_)
      replace h := hk v7 M7 hq
      refine mg_istore (ls' := [(6, .int (v7)), (5, .int (v6)), (0, .ref (900001)), (1, .ref (k1)), (2, .ref (k2)), (3, .ref (k3)), (4, .int (x4))]) dL_law_1487 (Nat.le_of_ble_eq_true rfl) rfl ?_
      refine mg_aload_n dL_law_1489 rfl 4 rfl ?_
      obtain ⟨q8, hC, hk⟩ := h
      refine ml_Vi [] [] dL_law_1490 wd_1341 kiX10_thrown (Nat.le_of_ble_eq_true rfl) h2.1.1 h2.1.2 rfl ⟨Nat.le_of_ble_eq_true rfl, Nat.le_of_ble_eq_true rfl⟩ hC (fun v8 M8 hq => ?_)
      replace h := hk v8 M8 hq
      refine mg_iload dL_law_1493 1 rfl ?_
      refine mg_icmp_eq (tgt := 1500) dL_law_1495 (by decide) (fun hc => ?_) (fun hc => ?_)
      · replace h := h.1 hc
        refine mg_iload dL_law_1500 1 rfl ?_
        refine mg_if_ne (tgt := 1517) dL_law_1502 (by decide) (fun hc => ?_) (fun hc => ?_)
        · replace h := h.1 hc
          refine mg_goto (tgt := 2408) dL_law_1517 (by decide) ?_
          refine mg_iinc (v := x4 + 4) (ls' := [(4, .int (x4 + 4)), (6, .int (v7)), (5, .int (v6)), (0, .ref (900001)), (1, .ref (k1)), (2, .ref (k2)), (3, .ref (k3))]) dL_law_2408 6 rfl rfl (Nat.le_of_ble_eq_true rfl) rfl ?_
          refine mg_goto (tgt := 23) dL_law_2411 (by decide) ?_
          refine mg_bud (bc' := bc - 8) (bs' := bs - 48) (by omega) (by omega) ?_
          exact mg_pick [3, 4, 5, 6, 0] rfl h
        · replace h := h.2 hc
          refine mg_aload_n dL_law_1505 rfl 5 rfl ?_
          refine mg_iconst (v := 0) dL_law_1506 (by decide) ?_
          refine mg_lald dL_law_1507 h3.1 h3.2 (vp_in_nI (n := 0) (Nat.le_of_ble_eq_true rfl) (Nat.le_of_ble_eq_true rfl)) rfl ?_
          refine mg_iload dL_law_1508 0 rfl ?_
          refine mg_i2l dL_law_1510 ?_
          refine mg_lcmp dL_law_1511 ?_
          refine mg_if_eq (tgt := 1517) dL_law_1512 (by decide) (fun hc => ?_) (fun hc => ?_)
          · replace h := h.1 hc
            refine mg_goto (tgt := 2408) dL_law_1517 (by decide) ?_
            refine mg_iinc (v := x4 + 4) (ls' := [(4, .int (x4 + 4)), (6, .int (v7)), (5, .int (v6)), (0, .ref (900001)), (1, .ref (k1)), (2, .ref (k2)), (3, .ref (k3))]) dL_law_2408 6 rfl rfl (Nat.le_of_ble_eq_true rfl) rfl ?_
            refine mg_goto (tgt := 23) dL_law_2411 (by decide) ?_
            refine mg_bud (bc' := bc - 8) (bs' := bs - 48) (by omega) (by omega) ?_
            exact mg_pick [3, 4, 5, 6, 0] rfl h
          · replace h := h.2 hc
            exact h.elim
      · replace h := h.2 hc
        exact h.elim
    · replace h := h.2 hc
      refine mg_iconst (v := 1) dL_law_1479 (by decide) ?_
      refine mg_goto (tgt := 1484) dL_law_1480 (by decide) ?_
      obtain ⟨q9, hC, hk⟩ := h
      refine ml_Vi [.int (xs (Int32.toNatClampNeg ((x4) + (1 : Int32)))), .int (xs (Int32.toNatClampNeg ((x4) + (2 : Int32)))), .int (1)] [] dL_law_1484 wd_1729 kiX10_resolvent (Nat.le_of_ble_eq_true rfl) h2.1.1 h2.1.2 rfl ⟨Nat.le_of_ble_eq_true rfl, Nat.le_of_ble_eq_true rfl⟩ hC (fun v9 M9 hq => ?_)
      replace h := hk v9 M9 hq
      refine mg_istore (ls' := [(6, .int (v9)), (5, .int (v6)), (0, .ref (900001)), (1, .ref (k1)), (2, .ref (k2)), (3, .ref (k3)), (4, .int (x4))]) dL_law_1487 (Nat.le_of_ble_eq_true rfl) rfl ?_
      refine mg_aload_n dL_law_1489 rfl 4 rfl ?_
      obtain ⟨q10, hC, hk⟩ := h
      refine ml_Vi [] [] dL_law_1490 wd_1341 kiX10_thrown (Nat.le_of_ble_eq_true rfl) h2.1.1 h2.1.2 rfl ⟨Nat.le_of_ble_eq_true rfl, Nat.le_of_ble_eq_true rfl⟩ hC (fun v10 M10 hq => ?_)
      replace h := hk v10 M10 hq
      refine mg_iload dL_law_1493 1 rfl ?_
      refine mg_icmp_eq (tgt := 1500) dL_law_1495 (by decide) (fun hc => ?_) (fun hc => ?_)
      · replace h := h.1 hc
        refine mg_iload dL_law_1500 1 rfl ?_
        refine mg_if_ne (tgt := 1517) dL_law_1502 (by decide) (fun hc => ?_) (fun hc => ?_)
        · replace h := h.1 hc
          refine mg_goto (tgt := 2408) dL_law_1517 (by decide) ?_
          refine mg_iinc (v := x4 + 4) (ls' := [(4, .int (x4 + 4)), (6, .int (v9)), (5, .int (v6)), (0, .ref (900001)), (1, .ref (k1)), (2, .ref (k2)), (3, .ref (k3))]) dL_law_2408 6 rfl rfl (Nat.le_of_ble_eq_true rfl) rfl ?_
          refine mg_goto (tgt := 23) dL_law_2411 (by decide) ?_
          refine mg_bud (bc' := bc - 8) (bs' := bs - 48) (by omega) (by omega) ?_
          exact mg_pick [3, 4, 5, 6, 0] rfl h
        · replace h := h.2 hc
          refine mg_aload_n dL_law_1505 rfl 5 rfl ?_
          refine mg_iconst (v := 0) dL_law_1506 (by decide) ?_
          refine mg_lald dL_law_1507 h3.1 h3.2 (vp_in_nI (n := 0) (Nat.le_of_ble_eq_true rfl) (Nat.le_of_ble_eq_true rfl)) rfl ?_
          refine mg_iload dL_law_1508 0 rfl ?_
          refine mg_i2l dL_law_1510 ?_
          refine mg_lcmp dL_law_1511 ?_
          refine mg_if_eq (tgt := 1517) dL_law_1512 (by decide) (fun hc => ?_) (fun hc => ?_)
          · replace h := h.1 hc
            refine mg_goto (tgt := 2408) dL_law_1517 (by decide) ?_
            refine mg_iinc (v := x4 + 4) (ls' := [(4, .int (x4 + 4)), (6, .int (v9)), (5, .int (v6)), (0, .ref (900001)), (1, .ref (k1)), (2, .ref (k2)), (3, .ref (k3))]) dL_law_2408 6 rfl rfl (Nat.le_of_ble_eq_true rfl) rfl ?_
            refine mg_goto (tgt := 23) dL_law_2411 (by decide) ?_
            refine mg_bud (bc' := bc - 8) (bs' := bs - 48) (by omega) (by omega) ?_
            exact mg_pick [3, 4, 5, 6, 0] rfl h
          · replace h := h.2 hc
            exact h.elim
      · replace h := h.2 hc
        exact h.elim
theorem cL_law_25 {b L : Nat} {xs : Nat → Int32} {k1 k2 k3 : Nat} {x4 : Int32} {bc bs : Nat} {g : mj_S} {M : mj_M} (h1 : is9 g k1) (h2 : is10 g k2) (h3 : k3 < g.1 ∧ g.2.1 k3 = (1, 2, 1)) (hb1 : 8 ≤ bc) (hb2 : 48 ≤ bs) (h : vp_in ((x4) + (1 : Int32)) L ∧ (∃ (q1 : Int32 → mj_M → Prop), kL_blockingLiteral (k1) (xs (Int32.toNatClampNeg ((x4) + (1 : Int32)))) (k3) g (M) q1 ∧ ∀ (v1 : Int32) (M1 : mj_M), q1 v1 M1 → (vp_in ((x4) + (1 : Int32)) L ∧ (∃ (q2 : Int32 → mj_M → Prop), kX10_blockingLiteral (k2) (xs (Int32.toNatClampNeg ((x4) + (1 : Int32)))) g (M1) q2 ∧ ∀ (v2 : Int32) (M2 : mj_M), q2 v2 M2 → (∃ (q3 : Int32 → mj_M → Prop), kX10_thrown (k2) g (M2) q3 ∧ ∀ (v3 : Int32) (M3 : mj_M), q3 v3 M3 → (((v3 : Int32) = (v1) → (¬ (v1 : Int32) = 0 → LL_23 b L xs k1 k2 k3 (x4 + 4) (bc - 8) (bs - 48) g (M3)) ∧ ((v1 : Int32) = 0 → ((lg_cmp ((M3).2.1 (k3) (Int32.toNatClampNeg (0))) (Int32.toInt64 (v2)) : Int32) = 0 → LL_23 b L xs k1 k2 k3 (x4 + 4) (bc - 8) (bs - 48) g (M3)) ∧ (¬ (lg_cmp ((M3).2.1 (k3) (Int32.toNatClampNeg (0))) (Int32.toInt64 (v2)) : Int32) = 0 → False))) ∧ (¬ (v3 : Int32) = (v1) → False))))))) : mj_G (mj_mtL b L xs) room_1 (mj_FL b) false bc bs 1520 [(0, .ref (900001)), (1, .ref (k1)), (2, .ref (k2)), (3, .ref (k3)), (4, .int (x4))] [] g M := by
  refine mg_aload_n dL_law_1520 rfl 1 rfl ?_
  refine mg_aload_n dL_law_1521 rfl 0 rfl ?_
  refine mg_iload dL_law_1522 4 rfl ?_
  refine mg_iconst (v := 1) dL_law_1524 (by decide) ?_
  refine mg_iadd dL_law_1525 ?_
  refine mg_sld (b := b) (L := L) (xs := xs) rfl dL_law_1526 h.1 ?_
  replace h := h.2
  refine mg_aload_n dL_law_1527 rfl 3 rfl ?_
  obtain ⟨q1, hC, hk⟩ := h
  refine mw_H2 [.ref (k1), .int (xs (Int32.toNatClampNeg ((x4) + (1 : Int32)))), .ref (k3)] [] dL_law_1528 wd_1144 kiL_blockingLiteral ⟨Nat.le_of_ble_eq_true rfl, Nat.le_of_ble_eq_true rfl⟩ (Nat.le_of_ble_eq_true rfl) ⟨by omega, by omega⟩ hC (fun v1 M1 hq => ?_)
  replace h := hk v1 M1 hq
  refine mg_istore (ls' := [(5, .int (v1)), (0, .ref (900001)), (1, .ref (k1)), (2, .ref (k2)), (3, .ref (k3)), (4, .int (x4))]) dL_law_1531 (Nat.le_of_ble_eq_true rfl) rfl ?_
  refine mg_aload_n dL_law_1533 rfl 3 rfl ?_
  refine mg_aload_n dL_law_1534 rfl 1 rfl ?_
  refine mg_iload dL_law_1535 5 rfl ?_
  refine mg_iconst (v := 1) dL_law_1537 (by decide) ?_
  refine mg_iadd dL_law_1538 ?_
  refine mg_sld (b := b) (L := L) (xs := xs) rfl dL_law_1539 h.1 ?_
  replace h := h.2
  obtain ⟨q2, hC, hk⟩ := h
  refine ml_Vi [.int (xs (Int32.toNatClampNeg ((x4) + (1 : Int32))))] [] dL_law_1540 wd_1733 kiX10_blockingLiteral (Nat.le_of_ble_eq_true rfl) h2.1.1 h2.1.2 rfl ⟨Nat.le_of_ble_eq_true rfl, Nat.le_of_ble_eq_true rfl⟩ hC (fun v2 M2 hq => ?_)
  replace h := hk v2 M2 hq
  refine mg_istore (ls' := [(6, .int (v2)), (5, .int (v1)), (0, .ref (900001)), (1, .ref (k1)), (2, .ref (k2)), (3, .ref (k3)), (4, .int (x4))]) dL_law_1543 (Nat.le_of_ble_eq_true rfl) rfl ?_
  refine mg_aload_n dL_law_1545 rfl 4 rfl ?_
  obtain ⟨q3, hC, hk⟩ := h
  refine ml_Vi [] [] dL_law_1546 wd_1341 kiX10_thrown (Nat.le_of_ble_eq_true rfl) h2.1.1 h2.1.2 rfl ⟨Nat.le_of_ble_eq_true rfl, Nat.le_of_ble_eq_true rfl⟩ hC (fun v3 M3 hq => ?_)
  replace h := hk v3 M3 hq
  refine mg_iload dL_law_1549 1 rfl ?_
  refine mg_icmp_eq (tgt := 1556) dL_law_1551 (by decide) (fun hc => ?_) (fun hc => ?_)
  · replace h := h.1 hc
    refine mg_iload dL_law_1556 1 rfl ?_
    refine mg_if_ne (tgt := 1573) dL_law_1558 (by decide) (fun hc => ?_) (fun hc => ?_)
    · replace h := h.1 hc
      refine mg_goto (tgt := 2408) dL_law_1573 (by decide) ?_
      refine mg_iinc (v := x4 + 4) (ls' := [(4, .int (x4 + 4)), (6, .int (v2)), (5, .int (v1)), (0, .ref (900001)), (1, .ref (k1)), (2, .ref (k2)), (3, .ref (k3))]) dL_law_2408 6 rfl rfl (Nat.le_of_ble_eq_true rfl) rfl ?_
      refine mg_goto (tgt := 23) dL_law_2411 (by decide) ?_
      refine mg_bud (bc' := bc - 8) (bs' := bs - 48) (by omega) (by omega) ?_
      exact mg_pick [3, 4, 5, 6, 0] rfl h
    · replace h := h.2 hc
      refine mg_aload_n dL_law_1561 rfl 5 rfl ?_
      refine mg_iconst (v := 0) dL_law_1562 (by decide) ?_
      refine mg_lald dL_law_1563 h3.1 h3.2 (vp_in_nI (n := 0) (Nat.le_of_ble_eq_true rfl) (Nat.le_of_ble_eq_true rfl)) rfl ?_
      refine mg_iload dL_law_1564 0 rfl ?_
      refine mg_i2l dL_law_1566 ?_
      refine mg_lcmp dL_law_1567 ?_
      refine mg_if_eq (tgt := 1573) dL_law_1568 (by decide) (fun hc => ?_) (fun hc => ?_)
      · replace h := h.1 hc
        refine mg_goto (tgt := 2408) dL_law_1573 (by decide) ?_
        refine mg_iinc (v := x4 + 4) (ls' := [(4, .int (x4 + 4)), (6, .int (v2)), (5, .int (v1)), (0, .ref (900001)), (1, .ref (k1)), (2, .ref (k2)), (3, .ref (k3))]) dL_law_2408 6 rfl rfl (Nat.le_of_ble_eq_true rfl) rfl ?_
        refine mg_goto (tgt := 23) dL_law_2411 (by decide) ?_
        refine mg_bud (bc' := bc - 8) (bs' := bs - 48) (by omega) (by omega) ?_
        exact mg_pick [3, 4, 5, 6, 0] rfl h
      · replace h := h.2 hc
        exact h.elim
  · replace h := h.2 hc
    exact h.elim
theorem cL_law_26 {b L : Nat} {xs : Nat → Int32} {k1 k2 k3 : Nat} {x4 : Int32} {bc bs : Nat} {g : mj_S} {M : mj_M} (h1 : is9 g k1) (h2 : is10 g k2) (h3 : k3 < g.1 ∧ g.2.1 k3 = (1, 2, 1)) (hb1 : 8 ≤ bc) (hb2 : 48 ≤ bs) (h : vp_in ((x4) + (1 : Int32)) L ∧ (∃ (q1 : Int32 → mj_M → Prop), kL_coverPairs (k1) (xs (Int32.toNatClampNeg ((x4) + (1 : Int32)))) (k3) g (M) q1 ∧ ∀ (v1 : Int32) (M1 : mj_M), q1 v1 M1 → (vp_in ((x4) + (1 : Int32)) L ∧ (∃ (q2 : Int32 → mj_M → Prop), kX10_coverPairs (k2) (xs (Int32.toNatClampNeg ((x4) + (1 : Int32)))) g (M1) q2 ∧ ∀ (v2 : Int32) (M2 : mj_M), q2 v2 M2 → (∃ (q3 : Int32 → mj_M → Prop), kX10_thrown (k2) g (M2) q3 ∧ ∀ (v3 : Int32) (M3 : mj_M), q3 v3 M3 → (((v3 : Int32) = (v1) → (¬ (v1 : Int32) = 0 → LL_23 b L xs k1 k2 k3 (x4 + 4) (bc - 8) (bs - 48) g (M3)) ∧ ((v1 : Int32) = 0 → ((lg_cmp ((M3).2.1 (k3) (Int32.toNatClampNeg (0))) (Int32.toInt64 (v2)) : Int32) = 0 → LL_23 b L xs k1 k2 k3 (x4 + 4) (bc - 8) (bs - 48) g (M3)) ∧ (¬ (lg_cmp ((M3).2.1 (k3) (Int32.toNatClampNeg (0))) (Int32.toInt64 (v2)) : Int32) = 0 → False))) ∧ (¬ (v3 : Int32) = (v1) → False))))))) : mj_G (mj_mtL b L xs) room_1 (mj_FL b) false bc bs 1576 [(0, .ref (900001)), (1, .ref (k1)), (2, .ref (k2)), (3, .ref (k3)), (4, .int (x4))] [] g M := by
  refine mg_aload_n dL_law_1576 rfl 1 rfl ?_
  refine mg_aload_n dL_law_1577 rfl 0 rfl ?_
  refine mg_iload dL_law_1578 4 rfl ?_
  refine mg_iconst (v := 1) dL_law_1580 (by decide) ?_
  refine mg_iadd dL_law_1581 ?_
  refine mg_sld (b := b) (L := L) (xs := xs) rfl dL_law_1582 h.1 ?_
  replace h := h.2
  refine mg_aload_n dL_law_1583 rfl 3 rfl ?_
  obtain ⟨q1, hC, hk⟩ := h
  refine mw_H2 [.ref (k1), .int (xs (Int32.toNatClampNeg ((x4) + (1 : Int32)))), .ref (k3)] [] dL_law_1584 wd_1152 kiL_coverPairs ⟨Nat.le_of_ble_eq_true rfl, Nat.le_of_ble_eq_true rfl⟩ (Nat.le_of_ble_eq_true rfl) ⟨by omega, by omega⟩ hC (fun v1 M1 hq => ?_)
  replace h := hk v1 M1 hq
  refine mg_istore (ls' := [(5, .int (v1)), (0, .ref (900001)), (1, .ref (k1)), (2, .ref (k2)), (3, .ref (k3)), (4, .int (x4))]) dL_law_1587 (Nat.le_of_ble_eq_true rfl) rfl ?_
  refine mg_aload_n dL_law_1589 rfl 3 rfl ?_
  refine mg_aload_n dL_law_1590 rfl 1 rfl ?_
  refine mg_iload dL_law_1591 5 rfl ?_
  refine mg_iconst (v := 1) dL_law_1593 (by decide) ?_
  refine mg_iadd dL_law_1594 ?_
  refine mg_sld (b := b) (L := L) (xs := xs) rfl dL_law_1595 h.1 ?_
  replace h := h.2
  obtain ⟨q2, hC, hk⟩ := h
  refine ml_Vi [.int (xs (Int32.toNatClampNeg ((x4) + (1 : Int32))))] [] dL_law_1596 wd_1737 kiX10_coverPairs (Nat.le_of_ble_eq_true rfl) h2.1.1 h2.1.2 rfl ⟨Nat.le_of_ble_eq_true rfl, Nat.le_of_ble_eq_true rfl⟩ hC (fun v2 M2 hq => ?_)
  replace h := hk v2 M2 hq
  refine mg_istore (ls' := [(6, .int (v2)), (5, .int (v1)), (0, .ref (900001)), (1, .ref (k1)), (2, .ref (k2)), (3, .ref (k3)), (4, .int (x4))]) dL_law_1599 (Nat.le_of_ble_eq_true rfl) rfl ?_
  refine mg_aload_n dL_law_1601 rfl 4 rfl ?_
  obtain ⟨q3, hC, hk⟩ := h
  refine ml_Vi [] [] dL_law_1602 wd_1341 kiX10_thrown (Nat.le_of_ble_eq_true rfl) h2.1.1 h2.1.2 rfl ⟨Nat.le_of_ble_eq_true rfl, Nat.le_of_ble_eq_true rfl⟩ hC (fun v3 M3 hq => ?_)
  replace h := hk v3 M3 hq
  refine mg_iload dL_law_1605 1 rfl ?_
  refine mg_icmp_eq (tgt := 1612) dL_law_1607 (by decide) (fun hc => ?_) (fun hc => ?_)
  · replace h := h.1 hc
    refine mg_iload dL_law_1612 1 rfl ?_
    refine mg_if_ne (tgt := 1629) dL_law_1614 (by decide) (fun hc => ?_) (fun hc => ?_)
    · replace h := h.1 hc
      refine mg_goto (tgt := 2408) dL_law_1629 (by decide) ?_
      refine mg_iinc (v := x4 + 4) (ls' := [(4, .int (x4 + 4)), (6, .int (v2)), (5, .int (v1)), (0, .ref (900001)), (1, .ref (k1)), (2, .ref (k2)), (3, .ref (k3))]) dL_law_2408 6 rfl rfl (Nat.le_of_ble_eq_true rfl) rfl ?_
      refine mg_goto (tgt := 23) dL_law_2411 (by decide) ?_
      refine mg_bud (bc' := bc - 8) (bs' := bs - 48) (by omega) (by omega) ?_
      exact mg_pick [3, 4, 5, 6, 0] rfl h
    · replace h := h.2 hc
      refine mg_aload_n dL_law_1617 rfl 5 rfl ?_
      refine mg_iconst (v := 0) dL_law_1618 (by decide) ?_
      refine mg_lald dL_law_1619 h3.1 h3.2 (vp_in_nI (n := 0) (Nat.le_of_ble_eq_true rfl) (Nat.le_of_ble_eq_true rfl)) rfl ?_
      refine mg_iload dL_law_1620 0 rfl ?_
      refine mg_i2l dL_law_1622 ?_
      refine mg_lcmp dL_law_1623 ?_
      refine mg_if_eq (tgt := 1629) dL_law_1624 (by decide) (fun hc => ?_) (fun hc => ?_)
      · replace h := h.1 hc
        refine mg_goto (tgt := 2408) dL_law_1629 (by decide) ?_
        refine mg_iinc (v := x4 + 4) (ls' := [(4, .int (x4 + 4)), (6, .int (v2)), (5, .int (v1)), (0, .ref (900001)), (1, .ref (k1)), (2, .ref (k2)), (3, .ref (k3))]) dL_law_2408 6 rfl rfl (Nat.le_of_ble_eq_true rfl) rfl ?_
        refine mg_goto (tgt := 23) dL_law_2411 (by decide) ?_
        refine mg_bud (bc' := bc - 8) (bs' := bs - 48) (by omega) (by omega) ?_
        exact mg_pick [3, 4, 5, 6, 0] rfl h
      · replace h := h.2 hc
        exact h.elim
  · replace h := h.2 hc
    exact h.elim
theorem cL_law_27 {b L : Nat} {xs : Nat → Int32} {k1 k2 k3 : Nat} {x4 : Int32} {bc bs : Nat} {g : mj_S} {M : mj_M} (h1 : is9 g k1) (h2 : is10 g k2) (h3 : k3 < g.1 ∧ g.2.1 k3 = (1, 2, 1)) (hb1 : 8 ≤ bc) (hb2 : 48 ≤ bs) (h : vp_in ((x4) + (1 : Int32)) L ∧ (vp_in ((x4) + (2 : Int32)) L ∧ (((xs (Int32.toNatClampNeg ((x4) + (2 : Int32))) : Int32) = 0 → ∃ (q1 : Int32 → mj_M → Prop), kL_extension (k1) (xs (Int32.toNatClampNeg ((x4) + (1 : Int32)))) (0) (k3) g (M) q1 ∧ ∀ (v1 : Int32) (M1 : mj_M), q1 v1 M1 → (vp_in ((x4) + (1 : Int32)) L ∧ (vp_in ((x4) + (2 : Int32)) L ∧ (((xs (Int32.toNatClampNeg ((x4) + (2 : Int32))) : Int32) = 0 → ∃ (q2 : Int32 → mj_M → Prop), kX10_extension (k2) (xs (Int32.toNatClampNeg ((x4) + (1 : Int32)))) (0) g (M1) q2 ∧ ∀ (v2 : Int32) (M2 : mj_M), q2 v2 M2 → (∃ (q3 : Int32 → mj_M → Prop), kX10_thrown (k2) g (M2) q3 ∧ ∀ (v3 : Int32) (M3 : mj_M), q3 v3 M3 → (((v3 : Int32) = (v1) → (¬ (v1 : Int32) = 0 → LL_23 b L xs k1 k2 k3 (x4 + 4) (bc - 8) (bs - 48) g (M3)) ∧ ((v1 : Int32) = 0 → ((lg_cmp ((M3).2.1 (k3) (Int32.toNatClampNeg (0))) (Int32.toInt64 (v2)) : Int32) = 0 → LL_23 b L xs k1 k2 k3 (x4 + 4) (bc - 8) (bs - 48) g (M3)) ∧ (¬ (lg_cmp ((M3).2.1 (k3) (Int32.toNatClampNeg (0))) (Int32.toInt64 (v2)) : Int32) = 0 → False))) ∧ (¬ (v3 : Int32) = (v1) → False)))) ∧ (¬ (xs (Int32.toNatClampNeg ((x4) + (2 : Int32))) : Int32) = 0 → ∃ (q4 : Int32 → mj_M → Prop), kX10_extension (k2) (xs (Int32.toNatClampNeg ((x4) + (1 : Int32)))) (1) g (M1) q4 ∧ ∀ (v4 : Int32) (M4 : mj_M), q4 v4 M4 → (∃ (q5 : Int32 → mj_M → Prop), kX10_thrown (k2) g (M4) q5 ∧ ∀ (v5 : Int32) (M5 : mj_M), q5 v5 M5 → (((v5 : Int32) = (v1) → (¬ (v1 : Int32) = 0 → LL_23 b L xs k1 k2 k3 (x4 + 4) (bc - 8) (bs - 48) g (M5)) ∧ ((v1 : Int32) = 0 → ((lg_cmp ((M5).2.1 (k3) (Int32.toNatClampNeg (0))) (Int32.toInt64 (v4)) : Int32) = 0 → LL_23 b L xs k1 k2 k3 (x4 + 4) (bc - 8) (bs - 48) g (M5)) ∧ (¬ (lg_cmp ((M5).2.1 (k3) (Int32.toNatClampNeg (0))) (Int32.toInt64 (v4)) : Int32) = 0 → False))) ∧ (¬ (v5 : Int32) = (v1) → False)))))))) ∧ (¬ (xs (Int32.toNatClampNeg ((x4) + (2 : Int32))) : Int32) = 0 → ∃ (q6 : Int32 → mj_M → Prop), kL_extension (k1) (xs (Int32.toNatClampNeg ((x4) + (1 : Int32)))) (1) (k3) g (M) q6 ∧ ∀ (v6 : Int32) (M6 : mj_M), q6 v6 M6 → (vp_in ((x4) + (1 : Int32)) L ∧ (vp_in ((x4) + (2 : Int32)) L ∧ (((xs (Int32.toNatClampNeg ((x4) + (2 : Int32))) : Int32) = 0 → ∃ (q7 : Int32 → mj_M → Prop), kX10_extension (k2) (xs (Int32.toNatClampNeg ((x4) + (1 : Int32)))) (0) g (M6) q7 ∧ ∀ (v7 : Int32) (M7 : mj_M), q7 v7 M7 → (∃ (q8 : Int32 → mj_M → Prop), kX10_thrown (k2) g (M7) q8 ∧ ∀ (v8 : Int32) (M8 : mj_M), q8 v8 M8 → (((v8 : Int32) = (v6) → (¬ (v6 : Int32) = 0 → LL_23 b L xs k1 k2 k3 (x4 + 4) (bc - 8) (bs - 48) g (M8)) ∧ ((v6 : Int32) = 0 → ((lg_cmp ((M8).2.1 (k3) (Int32.toNatClampNeg (0))) (Int32.toInt64 (v7)) : Int32) = 0 → LL_23 b L xs k1 k2 k3 (x4 + 4) (bc - 8) (bs - 48) g (M8)) ∧ (¬ (lg_cmp ((M8).2.1 (k3) (Int32.toNatClampNeg (0))) (Int32.toInt64 (v7)) : Int32) = 0 → False))) ∧ (¬ (v8 : Int32) = (v6) → False)))) ∧ (¬ (xs (Int32.toNatClampNeg ((x4) + (2 : Int32))) : Int32) = 0 → ∃ (q9 : Int32 → mj_M → Prop), kX10_extension (k2) (xs (Int32.toNatClampNeg ((x4) + (1 : Int32)))) (1) g (M6) q9 ∧ ∀ (v9 : Int32) (M9 : mj_M), q9 v9 M9 → (∃ (q10 : Int32 → mj_M → Prop), kX10_thrown (k2) g (M9) q10 ∧ ∀ (v10 : Int32) (M10 : mj_M), q10 v10 M10 → (((v10 : Int32) = (v6) → (¬ (v6 : Int32) = 0 → LL_23 b L xs k1 k2 k3 (x4 + 4) (bc - 8) (bs - 48) g (M10)) ∧ ((v6 : Int32) = 0 → ((lg_cmp ((M10).2.1 (k3) (Int32.toNatClampNeg (0))) (Int32.toInt64 (v9)) : Int32) = 0 → LL_23 b L xs k1 k2 k3 (x4 + 4) (bc - 8) (bs - 48) g (M10)) ∧ (¬ (lg_cmp ((M10).2.1 (k3) (Int32.toNatClampNeg (0))) (Int32.toInt64 (v9)) : Int32) = 0 → False))) ∧ (¬ (v10 : Int32) = (v6) → False))))))))))) : mj_G (mj_mtL b L xs) room_1 (mj_FL b) false bc bs 1632 [(0, .ref (900001)), (1, .ref (k1)), (2, .ref (k2)), (3, .ref (k3)), (4, .int (x4))] [] g M := by
  refine mg_aload_n dL_law_1632 rfl 1 rfl ?_
  refine mg_aload_n dL_law_1633 rfl 0 rfl ?_
  refine mg_iload dL_law_1634 4 rfl ?_
  refine mg_iconst (v := 1) dL_law_1636 (by decide) ?_
  refine mg_iadd dL_law_1637 ?_
  refine mg_sld (b := b) (L := L) (xs := xs) rfl dL_law_1638 h.1 ?_
  replace h := h.2
  refine mg_aload_n dL_law_1639 rfl 0 rfl ?_
  refine mg_iload dL_law_1640 4 rfl ?_
  refine mg_iconst (v := 2) dL_law_1642 (by decide) ?_
  refine mg_iadd dL_law_1643 ?_
  refine mg_sld (b := b) (L := L) (xs := xs) rfl dL_law_1644 h.1 ?_
  replace h := h.2
  refine mg_if_eq (tgt := 1652) dL_law_1645 (by decide) (fun hc => ?_) (fun hc => ?_)
  · replace h := h.1 hc
    refine mg_iconst (v := 0) dL_law_1652 (by decide) ?_
    refine mg_aload_n dL_law_1653 rfl 3 rfl ?_
    obtain ⟨q1, hC, hk⟩ := h
    refine mw_H2 [.ref (k1), .int (xs (Int32.toNatClampNeg ((x4) + (1 : Int32)))), .int (0), .ref (k3)] [] dL_law_1654 wd_1160 kiL_extension ⟨Nat.le_of_ble_eq_true rfl, Nat.le_of_ble_eq_true rfl⟩ (Nat.le_of_ble_eq_true rfl) ⟨by omega, by omega⟩ hC (fun v1 M1 hq => ?_)
    replace h := hk v1 M1 hq
    refine mg_istore (ls' := [(5, .int (v1)), (0, .ref (900001)), (1, .ref (k1)), (2, .ref (k2)), (3, .ref (k3)), (4, .int (x4))]) dL_law_1657 (Nat.le_of_ble_eq_true rfl) rfl ?_
    refine mg_aload_n dL_law_1659 rfl 3 rfl ?_
    refine mg_aload_n dL_law_1660 rfl 1 rfl ?_
    refine mg_iload dL_law_1661 5 rfl ?_
    refine mg_iconst (v := 1) dL_law_1663 (by decide) ?_
    refine mg_iadd dL_law_1664 ?_
    refine mg_sld (b := b) (L := L) (xs := xs) rfl dL_law_1665 h.1 ?_
    replace h := h.2
    refine mg_aload_n dL_law_1666 rfl 1 rfl ?_
    refine mg_iload dL_law_1667 5 rfl ?_
    refine mg_iconst (v := 2) dL_law_1669 (by decide) ?_
    refine mg_iadd dL_law_1670 ?_
    refine mg_sld (b := b) (L := L) (xs := xs) rfl dL_law_1671 h.1 ?_
    replace h := h.2
    refine mg_if_eq (tgt := 1679) dL_law_1672 (by decide) (fun hc => ?_) (fun hc => ?_)
    · replace h := h.1 hc
      refine mg_iconst (v := 0) dL_law_1679 (by decide) ?_
      obtain ⟨q2, hC, hk⟩ := h
      refine ml_Vi [.int (xs (Int32.toNatClampNeg ((x4) + (1 : Int32)))), .int (0)] [] dL_law_1680 wd_1741 kiX10_extension (Nat.le_of_ble_eq_true rfl) h2.1.1 h2.1.2 rfl ⟨Nat.le_of_ble_eq_true rfl, Nat.le_of_ble_eq_true rfl⟩ hC (fun v2 M2 hq => ?_)
      replace h := hk v2 M2 hq
      refine mg_istore (ls' := [(6, .int (v2)), (5, .int (v1)), (0, .ref (900001)), (1, .ref (k1)), (2, .ref (k2)), (3, .ref (k3)), (4, .int (x4))]) dL_law_1683 (Nat.le_of_ble_eq_true rfl) rfl ?_
      refine mg_aload_n dL_law_1685 rfl 4 rfl ?_
      obtain ⟨q3, hC, hk⟩ := h
      refine ml_Vi [] [] dL_law_1686 wd_1341 kiX10_thrown (Nat.le_of_ble_eq_true rfl) h2.1.1 h2.1.2 rfl ⟨Nat.le_of_ble_eq_true rfl, Nat.le_of_ble_eq_true rfl⟩ hC (fun v3 M3 hq => ?_)
      replace h := hk v3 M3 hq
      refine mg_iload dL_law_1689 1 rfl ?_
      refine mg_icmp_eq (tgt := 1696) dL_law_1691 (by decide) (fun hc => ?_) (fun hc => ?_)
      · replace h := h.1 hc
        refine mg_iload dL_law_1696 1 rfl ?_
        refine mg_if_ne (tgt := 1713) dL_law_1698 (by decide) (fun hc => ?_) (fun hc => ?_)
        · replace h := h.1 hc
          refine mg_goto (tgt := 2408) dL_law_1713 (by decide) ?_
          refine mg_iinc (v := x4 + 4) (ls' := [(4, .int (x4 + 4)), (6, .int (v2)), (5, .int (v1)), (0, .ref (900001)), (1, .ref (k1)), (2, .ref (k2)), (3, .ref (k3))]) dL_law_2408 6 rfl rfl (Nat.le_of_ble_eq_true rfl) rfl ?_
          refine mg_goto (tgt := 23) dL_law_2411 (by decide) ?_
          refine mg_bud (bc' := bc - 8) (bs' := bs - 48) (by omega) (by omega) ?_
          exact mg_pick [3, 4, 5, 6, 0] rfl h
        · replace h := h.2 hc
          refine mg_aload_n dL_law_1701 rfl 5 rfl ?_
          refine mg_iconst (v := 0) dL_law_1702 (by decide) ?_
          refine mg_lald dL_law_1703 h3.1 h3.2 (vp_in_nI (n := 0) (Nat.le_of_ble_eq_true rfl) (Nat.le_of_ble_eq_true rfl)) rfl ?_
          refine mg_iload dL_law_1704 0 rfl ?_
          refine mg_i2l dL_law_1706 ?_
          refine mg_lcmp dL_law_1707 ?_
          refine mg_if_eq (tgt := 1713) dL_law_1708 (by decide) (fun hc => ?_) (fun hc => ?_)
          · replace h := h.1 hc
            refine mg_goto (tgt := 2408) dL_law_1713 (by decide) ?_
            refine mg_iinc (v := x4 + 4) (ls' := [(4, .int (x4 + 4)), (6, .int (v2)), (5, .int (v1)), (0, .ref (900001)), (1, .ref (k1)), (2, .ref (k2)), (3, .ref (k3))]) dL_law_2408 6 rfl rfl (Nat.le_of_ble_eq_true rfl) rfl ?_
            refine mg_goto (tgt := 23) dL_law_2411 (by decide) ?_
            refine mg_bud (bc' := bc - 8) (bs' := bs - 48) (by omega) (by omega) ?_
            exact mg_pick [3, 4, 5, 6, 0] rfl h
          · replace h := h.2 hc
            exact h.elim
      · replace h := h.2 hc
        exact h.elim
    · replace h := h.2 hc
      refine mg_iconst (v := 1) dL_law_1675 (by decide) ?_
      refine mg_goto (tgt := 1680) dL_law_1676 (by decide) ?_
      obtain ⟨q4, hC, hk⟩ := h
      refine ml_Vi [.int (xs (Int32.toNatClampNeg ((x4) + (1 : Int32)))), .int (1)] [] dL_law_1680 wd_1741 kiX10_extension (Nat.le_of_ble_eq_true rfl) h2.1.1 h2.1.2 rfl ⟨Nat.le_of_ble_eq_true rfl, Nat.le_of_ble_eq_true rfl⟩ hC (fun v4 M4 hq => ?_)
      replace h := hk v4 M4 hq
      refine mg_istore (ls' := [(6, .int (v4)), (5, .int (v1)), (0, .ref (900001)), (1, .ref (k1)), (2, .ref (k2)), (3, .ref (k3)), (4, .int (x4))]) dL_law_1683 (Nat.le_of_ble_eq_true rfl) rfl ?_
      refine mg_aload_n dL_law_1685 rfl 4 rfl ?_
      obtain ⟨q5, hC, hk⟩ := h
      refine ml_Vi [] [] dL_law_1686 wd_1341 kiX10_thrown (Nat.le_of_ble_eq_true rfl) h2.1.1 h2.1.2 rfl ⟨Nat.le_of_ble_eq_true rfl, Nat.le_of_ble_eq_true rfl⟩ hC (fun v5 M5 hq => ?_)
      replace h := hk v5 M5 hq
      refine mg_iload dL_law_1689 1 rfl ?_
      refine mg_icmp_eq (tgt := 1696) dL_law_1691 (by decide) (fun hc => ?_) (fun hc => ?_)
      · replace h := h.1 hc
        refine mg_iload dL_law_1696 1 rfl ?_
        refine mg_if_ne (tgt := 1713) dL_law_1698 (by decide) (fun hc => ?_) (fun hc => ?_)
        · replace h := h.1 hc
          refine mg_goto (tgt := 2408) dL_law_1713 (by decide) ?_
          refine mg_iinc (v := x4 + 4) (ls' := [(4, .int (x4 + 4)), (6, .int (v4)), (5, .int (v1)), (0, .ref (900001)), (1, .ref (k1)), (2, .ref (k2)), (3, .ref (k3))]) dL_law_2408 6 rfl rfl (Nat.le_of_ble_eq_true rfl) rfl ?_
          refine mg_goto (tgt := 23) dL_law_2411 (by decide) ?_
          refine mg_bud (bc' := bc - 8) (bs' := bs - 48) (by omega) (by omega) ?_
          exact mg_pick [3, 4, 5, 6, 0] rfl h
        · replace h := h.2 hc
          refine mg_aload_n dL_law_1701 rfl 5 rfl ?_
          refine mg_iconst (v := 0) dL_law_1702 (by decide) ?_
          refine mg_lald dL_law_1703 h3.1 h3.2 (vp_in_nI (n := 0) (Nat.le_of_ble_eq_true rfl) (Nat.le_of_ble_eq_true rfl)) rfl ?_
          refine mg_iload dL_law_1704 0 rfl ?_
          refine mg_i2l dL_law_1706 ?_
          refine mg_lcmp dL_law_1707 ?_
          refine mg_if_eq (tgt := 1713) dL_law_1708 (by decide) (fun hc => ?_) (fun hc => ?_)
          · replace h := h.1 hc
            refine mg_goto (tgt := 2408) dL_law_1713 (by decide) ?_
            refine mg_iinc (v := x4 + 4) (ls' := [(4, .int (x4 + 4)), (6, .int (v4)), (5, .int (v1)), (0, .ref (900001)), (1, .ref (k1)), (2, .ref (k2)), (3, .ref (k3))]) dL_law_2408 6 rfl rfl (Nat.le_of_ble_eq_true rfl) rfl ?_
            refine mg_goto (tgt := 23) dL_law_2411 (by decide) ?_
            refine mg_bud (bc' := bc - 8) (bs' := bs - 48) (by omega) (by omega) ?_
            exact mg_pick [3, 4, 5, 6, 0] rfl h
          · replace h := h.2 hc
            exact h.elim
      · replace h := h.2 hc
        exact h.elim
  · replace h := h.2 hc
    refine mg_iconst (v := 1) dL_law_1648 (by decide) ?_
    refine mg_goto (tgt := 1653) dL_law_1649 (by decide) ?_
    refine mg_aload_n dL_law_1653 rfl 3 rfl ?_
    obtain ⟨q6, hC, hk⟩ := h
    refine mw_H2 [.ref (k1), .int (xs (Int32.toNatClampNeg ((x4) + (1 : Int32)))), .int (1), .ref (k3)] [] dL_law_1654 wd_1160 kiL_extension ⟨Nat.le_of_ble_eq_true rfl, Nat.le_of_ble_eq_true rfl⟩ (Nat.le_of_ble_eq_true rfl) ⟨by omega, by omega⟩ hC (fun v6 M6 hq => ?_)
    replace h := hk v6 M6 hq
    refine mg_istore (ls' := [(5, .int (v6)), (0, .ref (900001)), (1, .ref (k1)), (2, .ref (k2)), (3, .ref (k3)), (4, .int (x4))]) dL_law_1657 (Nat.le_of_ble_eq_true rfl) rfl ?_
    refine mg_aload_n dL_law_1659 rfl 3 rfl ?_
    refine mg_aload_n dL_law_1660 rfl 1 rfl ?_
    refine mg_iload dL_law_1661 5 rfl ?_
    refine mg_iconst (v := 1) dL_law_1663 (by decide) ?_
    refine mg_iadd dL_law_1664 ?_
    refine mg_sld (b := b) (L := L) (xs := xs) rfl dL_law_1665 h.1 ?_
    replace h := h.2
    refine mg_aload_n dL_law_1666 rfl 1 rfl ?_
    refine mg_iload dL_law_1667 5 rfl ?_
    refine mg_iconst (v := 2) dL_law_1669 (by decide) ?_
    refine mg_iadd dL_law_1670 ?_
    refine mg_sld (b := b) (L := L) (xs := xs) rfl dL_law_1671 h.1 ?_
    replace h := h.2
    refine mg_if_eq (tgt := 1679) dL_law_1672 (by decide) (fun hc => ?_) (fun hc => ?_)
    · replace h := h.1 hc
      refine mg_iconst (v := 0) dL_law_1679 (by decide) ?_
      obtain ⟨q7, hC, hk⟩ := h
      refine ml_Vi [.int (xs (Int32.toNatClampNeg ((x4) + (1 : Int32)))), .int (0)] [] dL_law_1680 wd_1741 kiX10_extension (Nat.le_of_ble_eq_true rfl) h2.1.1 h2.1.2 rfl ⟨Nat.le_of_ble_eq_true rfl, Nat.le_of_ble_eq_true rfl⟩ hC (fun v7 M7 hq => ?_)
      replace h := hk v7 M7 hq
      refine mg_istore (ls' := [(6, .int (v7)), (5, .int (v6)), (0, .ref (900001)), (1, .ref (k1)), (2, .ref (k2)), (3, .ref (k3)), (4, .int (x4))]) dL_law_1683 (Nat.le_of_ble_eq_true rfl) rfl ?_
      refine mg_aload_n dL_law_1685 rfl 4 rfl ?_
      obtain ⟨q8, hC, hk⟩ := h
      refine ml_Vi [] [] dL_law_1686 wd_1341 kiX10_thrown (Nat.le_of_ble_eq_true rfl) h2.1.1 h2.1.2 rfl ⟨Nat.le_of_ble_eq_true rfl, Nat.le_of_ble_eq_true rfl⟩ hC (fun v8 M8 hq => ?_)
      replace h := hk v8 M8 hq
      refine mg_iload dL_law_1689 1 rfl ?_
      refine mg_icmp_eq (tgt := 1696) dL_law_1691 (by decide) (fun hc => ?_) (fun hc => ?_)
      · replace h := h.1 hc
        refine mg_iload dL_law_1696 1 rfl ?_
        refine mg_if_ne (tgt := 1713) dL_law_1698 (by decide) (fun hc => ?_) (fun hc => ?_)
        · replace h := h.1 hc
          refine mg_goto (tgt := 2408) dL_law_1713 (by decide) ?_
          refine mg_iinc (v := x4 + 4) (ls' := [(4, .int (x4 + 4)), (6, .int (v7)), (5, .int (v6)), (0, .ref (900001)), (1, .ref (k1)), (2, .ref (k2)), (3, .ref (k3))]) dL_law_2408 6 rfl rfl (Nat.le_of_ble_eq_true rfl) rfl ?_
          refine mg_goto (tgt := 23) dL_law_2411 (by decide) ?_
          refine mg_bud (bc' := bc - 8) (bs' := bs - 48) (by omega) (by omega) ?_
          exact mg_pick [3, 4, 5, 6, 0] rfl h
        · replace h := h.2 hc
          refine mg_aload_n dL_law_1701 rfl 5 rfl ?_
          refine mg_iconst (v := 0) dL_law_1702 (by decide) ?_
          refine mg_lald dL_law_1703 h3.1 h3.2 (vp_in_nI (n := 0) (Nat.le_of_ble_eq_true rfl) (Nat.le_of_ble_eq_true rfl)) rfl ?_
          refine mg_iload dL_law_1704 0 rfl ?_
          refine mg_i2l dL_law_1706 ?_
          refine mg_lcmp dL_law_1707 ?_
          refine mg_if_eq (tgt := 1713) dL_law_1708 (by decide) (fun hc => ?_) (fun hc => ?_)
          · replace h := h.1 hc
            refine mg_goto (tgt := 2408) dL_law_1713 (by decide) ?_
            refine mg_iinc (v := x4 + 4) (ls' := [(4, .int (x4 + 4)), (6, .int (v7)), (5, .int (v6)), (0, .ref (900001)), (1, .ref (k1)), (2, .ref (k2)), (3, .ref (k3))]) dL_law_2408 6 rfl rfl (Nat.le_of_ble_eq_true rfl) rfl ?_
            refine mg_goto (tgt := 23) dL_law_2411 (by decide) ?_
            refine mg_bud (bc' := bc - 8) (bs' := bs - 48) (by omega) (by omega) ?_
            exact mg_pick [3, 4, 5, 6, 0] rfl h
          · replace h := h.2 hc
            exact h.elim
      · replace h := h.2 hc
        exact h.elim
    · replace h := h.2 hc
      refine mg_iconst (v := 1) dL_law_1675 (by decide) ?_
      refine mg_goto (tgt := 1680) dL_law_1676 (by decide) ?_
      obtain ⟨q9, hC, hk⟩ := h
      refine ml_Vi [.int (xs (Int32.toNatClampNeg ((x4) + (1 : Int32)))), .int (1)] [] dL_law_1680 wd_1741 kiX10_extension (Nat.le_of_ble_eq_true rfl) h2.1.1 h2.1.2 rfl ⟨Nat.le_of_ble_eq_true rfl, Nat.le_of_ble_eq_true rfl⟩ hC (fun v9 M9 hq => ?_)
      replace h := hk v9 M9 hq
      refine mg_istore (ls' := [(6, .int (v9)), (5, .int (v6)), (0, .ref (900001)), (1, .ref (k1)), (2, .ref (k2)), (3, .ref (k3)), (4, .int (x4))]) dL_law_1683 (Nat.le_of_ble_eq_true rfl) rfl ?_
      refine mg_aload_n dL_law_1685 rfl 4 rfl ?_
      obtain ⟨q10, hC, hk⟩ := h
      refine ml_Vi [] [] dL_law_1686 wd_1341 kiX10_thrown (Nat.le_of_ble_eq_true rfl) h2.1.1 h2.1.2 rfl ⟨Nat.le_of_ble_eq_true rfl, Nat.le_of_ble_eq_true rfl⟩ hC (fun v10 M10 hq => ?_)
      replace h := hk v10 M10 hq
      refine mg_iload dL_law_1689 1 rfl ?_
      refine mg_icmp_eq (tgt := 1696) dL_law_1691 (by decide) (fun hc => ?_) (fun hc => ?_)
      · replace h := h.1 hc
        refine mg_iload dL_law_1696 1 rfl ?_
        refine mg_if_ne (tgt := 1713) dL_law_1698 (by decide) (fun hc => ?_) (fun hc => ?_)
        · replace h := h.1 hc
          refine mg_goto (tgt := 2408) dL_law_1713 (by decide) ?_
          refine mg_iinc (v := x4 + 4) (ls' := [(4, .int (x4 + 4)), (6, .int (v9)), (5, .int (v6)), (0, .ref (900001)), (1, .ref (k1)), (2, .ref (k2)), (3, .ref (k3))]) dL_law_2408 6 rfl rfl (Nat.le_of_ble_eq_true rfl) rfl ?_
          refine mg_goto (tgt := 23) dL_law_2411 (by decide) ?_
          refine mg_bud (bc' := bc - 8) (bs' := bs - 48) (by omega) (by omega) ?_
          exact mg_pick [3, 4, 5, 6, 0] rfl h
        · replace h := h.2 hc
          refine mg_aload_n dL_law_1701 rfl 5 rfl ?_
          refine mg_iconst (v := 0) dL_law_1702 (by decide) ?_
          refine mg_lald dL_law_1703 h3.1 h3.2 (vp_in_nI (n := 0) (Nat.le_of_ble_eq_true rfl) (Nat.le_of_ble_eq_true rfl)) rfl ?_
          refine mg_iload dL_law_1704 0 rfl ?_
          refine mg_i2l dL_law_1706 ?_
          refine mg_lcmp dL_law_1707 ?_
          refine mg_if_eq (tgt := 1713) dL_law_1708 (by decide) (fun hc => ?_) (fun hc => ?_)
          · replace h := h.1 hc
            refine mg_goto (tgt := 2408) dL_law_1713 (by decide) ?_
            refine mg_iinc (v := x4 + 4) (ls' := [(4, .int (x4 + 4)), (6, .int (v9)), (5, .int (v6)), (0, .ref (900001)), (1, .ref (k1)), (2, .ref (k2)), (3, .ref (k3))]) dL_law_2408 6 rfl rfl (Nat.le_of_ble_eq_true rfl) rfl ?_
            refine mg_goto (tgt := 23) dL_law_2411 (by decide) ?_
            refine mg_bud (bc' := bc - 8) (bs' := bs - 48) (by omega) (by omega) ?_
            exact mg_pick [3, 4, 5, 6, 0] rfl h
          · replace h := h.2 hc
            exact h.elim
      · replace h := h.2 hc
        exact h.elim
theorem cL_law_28 {b L : Nat} {xs : Nat → Int32} {k1 k2 k3 : Nat} {x4 : Int32} {bc bs : Nat} {g : mj_S} {M : mj_M} (h1 : is9 g k1) (h2 : is10 g k2) (h3 : k3 < g.1 ∧ g.2.1 k3 = (1, 2, 1)) (hb1 : 8 ≤ bc) (hb2 : 48 ≤ bs) (h : vp_in ((x4) + (1 : Int32)) L ∧ (vp_in ((x4) + (2 : Int32)) L ∧ (((xs (Int32.toNatClampNeg ((x4) + (2 : Int32))) : Int32) = 0 → ∃ (q1 : Int32 → mj_M → Prop), kL_vivified (k1) (xs (Int32.toNatClampNeg ((x4) + (1 : Int32)))) (0) (k3) g (M) q1 ∧ ∀ (v1 : Int32) (M1 : mj_M), q1 v1 M1 → (vp_in ((x4) + (1 : Int32)) L ∧ (vp_in ((x4) + (2 : Int32)) L ∧ (((xs (Int32.toNatClampNeg ((x4) + (2 : Int32))) : Int32) = 0 → ∃ (q2 : Int32 → mj_M → Prop), kX10_vivified (k2) (xs (Int32.toNatClampNeg ((x4) + (1 : Int32)))) (0) g (M1) q2 ∧ ∀ (v2 : Int32) (M2 : mj_M), q2 v2 M2 → (∃ (q3 : Int32 → mj_M → Prop), kX10_thrown (k2) g (M2) q3 ∧ ∀ (v3 : Int32) (M3 : mj_M), q3 v3 M3 → (((v3 : Int32) = (v1) → (¬ (v1 : Int32) = 0 → LL_23 b L xs k1 k2 k3 (x4 + 4) (bc - 8) (bs - 48) g (M3)) ∧ ((v1 : Int32) = 0 → ((lg_cmp ((M3).2.1 (k3) (Int32.toNatClampNeg (0))) (Int32.toInt64 (v2)) : Int32) = 0 → LL_23 b L xs k1 k2 k3 (x4 + 4) (bc - 8) (bs - 48) g (M3)) ∧ (¬ (lg_cmp ((M3).2.1 (k3) (Int32.toNatClampNeg (0))) (Int32.toInt64 (v2)) : Int32) = 0 → False))) ∧ (¬ (v3 : Int32) = (v1) → False)))) ∧ (¬ (xs (Int32.toNatClampNeg ((x4) + (2 : Int32))) : Int32) = 0 → ∃ (q4 : Int32 → mj_M → Prop), kX10_vivified (k2) (xs (Int32.toNatClampNeg ((x4) + (1 : Int32)))) (1) g (M1) q4 ∧ ∀ (v4 : Int32) (M4 : mj_M), q4 v4 M4 → (∃ (q5 : Int32 → mj_M → Prop), kX10_thrown (k2) g (M4) q5 ∧ ∀ (v5 : Int32) (M5 : mj_M), q5 v5 M5 → (((v5 : Int32) = (v1) → (¬ (v1 : Int32) = 0 → LL_23 b L xs k1 k2 k3 (x4 + 4) (bc - 8) (bs - 48) g (M5)) ∧ ((v1 : Int32) = 0 → ((lg_cmp ((M5).2.1 (k3) (Int32.toNatClampNeg (0))) (Int32.toInt64 (v4)) : Int32) = 0 → LL_23 b L xs k1 k2 k3 (x4 + 4) (bc - 8) (bs - 48) g (M5)) ∧ (¬ (lg_cmp ((M5).2.1 (k3) (Int32.toNatClampNeg (0))) (Int32.toInt64 (v4)) : Int32) = 0 → False))) ∧ (¬ (v5 : Int32) = (v1) → False)))))))) ∧ (¬ (xs (Int32.toNatClampNeg ((x4) + (2 : Int32))) : Int32) = 0 → ∃ (q6 : Int32 → mj_M → Prop), kL_vivified (k1) (xs (Int32.toNatClampNeg ((x4) + (1 : Int32)))) (1) (k3) g (M) q6 ∧ ∀ (v6 : Int32) (M6 : mj_M), q6 v6 M6 → (vp_in ((x4) + (1 : Int32)) L ∧ (vp_in ((x4) + (2 : Int32)) L ∧ (((xs (Int32.toNatClampNeg ((x4) + (2 : Int32))) : Int32) = 0 → ∃ (q7 : Int32 → mj_M → Prop), kX10_vivified (k2) (xs (Int32.toNatClampNeg ((x4) + (1 : Int32)))) (0) g (M6) q7 ∧ ∀ (v7 : Int32) (M7 : mj_M), q7 v7 M7 → (∃ (q8 : Int32 → mj_M → Prop), kX10_thrown (k2) g (M7) q8 ∧ ∀ (v8 : Int32) (M8 : mj_M), q8 v8 M8 → (((v8 : Int32) = (v6) → (¬ (v6 : Int32) = 0 → LL_23 b L xs k1 k2 k3 (x4 + 4) (bc - 8) (bs - 48) g (M8)) ∧ ((v6 : Int32) = 0 → ((lg_cmp ((M8).2.1 (k3) (Int32.toNatClampNeg (0))) (Int32.toInt64 (v7)) : Int32) = 0 → LL_23 b L xs k1 k2 k3 (x4 + 4) (bc - 8) (bs - 48) g (M8)) ∧ (¬ (lg_cmp ((M8).2.1 (k3) (Int32.toNatClampNeg (0))) (Int32.toInt64 (v7)) : Int32) = 0 → False))) ∧ (¬ (v8 : Int32) = (v6) → False)))) ∧ (¬ (xs (Int32.toNatClampNeg ((x4) + (2 : Int32))) : Int32) = 0 → ∃ (q9 : Int32 → mj_M → Prop), kX10_vivified (k2) (xs (Int32.toNatClampNeg ((x4) + (1 : Int32)))) (1) g (M6) q9 ∧ ∀ (v9 : Int32) (M9 : mj_M), q9 v9 M9 → (∃ (q10 : Int32 → mj_M → Prop), kX10_thrown (k2) g (M9) q10 ∧ ∀ (v10 : Int32) (M10 : mj_M), q10 v10 M10 → (((v10 : Int32) = (v6) → (¬ (v6 : Int32) = 0 → LL_23 b L xs k1 k2 k3 (x4 + 4) (bc - 8) (bs - 48) g (M10)) ∧ ((v6 : Int32) = 0 → ((lg_cmp ((M10).2.1 (k3) (Int32.toNatClampNeg (0))) (Int32.toInt64 (v9)) : Int32) = 0 → LL_23 b L xs k1 k2 k3 (x4 + 4) (bc - 8) (bs - 48) g (M10)) ∧ (¬ (lg_cmp ((M10).2.1 (k3) (Int32.toNatClampNeg (0))) (Int32.toInt64 (v9)) : Int32) = 0 → False))) ∧ (¬ (v10 : Int32) = (v6) → False))))))))))) : mj_G (mj_mtL b L xs) room_1 (mj_FL b) false bc bs 1716 [(0, .ref (900001)), (1, .ref (k1)), (2, .ref (k2)), (3, .ref (k3)), (4, .int (x4))] [] g M := by
  refine mg_aload_n dL_law_1716 rfl 1 rfl ?_
  refine mg_aload_n dL_law_1717 rfl 0 rfl ?_
  refine mg_iload dL_law_1718 4 rfl ?_
  refine mg_iconst (v := 1) dL_law_1720 (by decide) ?_
  refine mg_iadd dL_law_1721 ?_
  refine mg_sld (b := b) (L := L) (xs := xs) rfl dL_law_1722 h.1 ?_
  replace h := h.2
  refine mg_aload_n dL_law_1723 rfl 0 rfl ?_
  refine mg_iload dL_law_1724 4 rfl ?_
  refine mg_iconst (v := 2) dL_law_1726 (by decide) ?_
  refine mg_iadd dL_law_1727 ?_
  refine mg_sld (b := b) (L := L) (xs := xs) rfl dL_law_1728 h.1 ?_
  replace h := h.2
  refine mg_if_eq (tgt := 1736) dL_law_1729 (by decide) (fun hc => ?_) (fun hc => ?_)
  · replace h := h.1 hc
    refine mg_iconst (v := 0) dL_law_1736 (by decide) ?_
    refine mg_aload_n dL_law_1737 rfl 3 rfl ?_
    obtain ⟨q1, hC, hk⟩ := h
    refine mw_H2 [.ref (k1), .int (xs (Int32.toNatClampNeg ((x4) + (1 : Int32)))), .int (0), .ref (k3)] [] dL_law_1738 wd_1167 kiL_vivified ⟨Nat.le_of_ble_eq_true rfl, Nat.le_of_ble_eq_true rfl⟩ (Nat.le_of_ble_eq_true rfl) ⟨by omega, by omega⟩ hC (fun v1 M1 hq => ?_)
    replace h := hk v1 M1 hq
    refine mg_istore (ls' := [(5, .int (v1)), (0, .ref (900001)), (1, .ref (k1)), (2, .ref (k2)), (3, .ref (k3)), (4, .int (x4))]) dL_law_1741 (Nat.le_of_ble_eq_true rfl) rfl ?_
    refine mg_aload_n dL_law_1743 rfl 3 rfl ?_
    refine mg_aload_n dL_law_1744 rfl 1 rfl ?_
    refine mg_iload dL_law_1745 5 rfl ?_
    refine mg_iconst (v := 1) dL_law_1747 (by decide) ?_
    refine mg_iadd dL_law_1748 ?_
    refine mg_sld (b := b) (L := L) (xs := xs) rfl dL_law_1749 h.1 ?_
    replace h := h.2
    refine mg_aload_n dL_law_1750 rfl 1 rfl ?_
    refine mg_iload dL_law_1751 5 rfl ?_
    refine mg_iconst (v := 2) dL_law_1753 (by decide) ?_
    refine mg_iadd dL_law_1754 ?_
    refine mg_sld (b := b) (L := L) (xs := xs) rfl dL_law_1755 h.1 ?_
    replace h := h.2
    refine mg_if_eq (tgt := 1763) dL_law_1756 (by decide) (fun hc => ?_) (fun hc => ?_)
    · replace h := h.1 hc
      refine mg_iconst (v := 0) dL_law_1763 (by decide) ?_
      obtain ⟨q2, hC, hk⟩ := h
      refine ml_Vi [.int (xs (Int32.toNatClampNeg ((x4) + (1 : Int32)))), .int (0)] [] dL_law_1764 wd_1745 kiX10_vivified (Nat.le_of_ble_eq_true rfl) h2.1.1 h2.1.2 rfl ⟨Nat.le_of_ble_eq_true rfl, Nat.le_of_ble_eq_true rfl⟩ hC (fun v2 M2 hq => ?_)
      replace h := hk v2 M2 hq
      refine mg_istore (ls' := [(6, .int (v2)), (5, .int (v1)), (0, .ref (900001)), (1, .ref (k1)), (2, .ref (k2)), (3, .ref (k3)), (4, .int (x4))]) dL_law_1767 (Nat.le_of_ble_eq_true rfl) rfl ?_
      refine mg_aload_n dL_law_1769 rfl 4 rfl ?_
      obtain ⟨q3, hC, hk⟩ := h
      refine ml_Vi [] [] dL_law_1770 wd_1341 kiX10_thrown (Nat.le_of_ble_eq_true rfl) h2.1.1 h2.1.2 rfl ⟨Nat.le_of_ble_eq_true rfl, Nat.le_of_ble_eq_true rfl⟩ hC (fun v3 M3 hq => ?_)
      replace h := hk v3 M3 hq
      refine mg_iload dL_law_1773 1 rfl ?_
      refine mg_icmp_eq (tgt := 1780) dL_law_1775 (by decide) (fun hc => ?_) (fun hc => ?_)
      · replace h := h.1 hc
        refine mg_iload dL_law_1780 1 rfl ?_
        refine mg_if_ne (tgt := 1797) dL_law_1782 (by decide) (fun hc => ?_) (fun hc => ?_)
        · replace h := h.1 hc
          refine mg_goto (tgt := 2408) dL_law_1797 (by decide) ?_
          refine mg_iinc (v := x4 + 4) (ls' := [(4, .int (x4 + 4)), (6, .int (v2)), (5, .int (v1)), (0, .ref (900001)), (1, .ref (k1)), (2, .ref (k2)), (3, .ref (k3))]) dL_law_2408 6 rfl rfl (Nat.le_of_ble_eq_true rfl) rfl ?_
          refine mg_goto (tgt := 23) dL_law_2411 (by decide) ?_
          refine mg_bud (bc' := bc - 8) (bs' := bs - 48) (by omega) (by omega) ?_
          exact mg_pick [3, 4, 5, 6, 0] rfl h
        · replace h := h.2 hc
          refine mg_aload_n dL_law_1785 rfl 5 rfl ?_
          refine mg_iconst (v := 0) dL_law_1786 (by decide) ?_
          refine mg_lald dL_law_1787 h3.1 h3.2 (vp_in_nI (n := 0) (Nat.le_of_ble_eq_true rfl) (Nat.le_of_ble_eq_true rfl)) rfl ?_
          refine mg_iload dL_law_1788 0 rfl ?_
          refine mg_i2l dL_law_1790 ?_
          refine mg_lcmp dL_law_1791 ?_
          refine mg_if_eq (tgt := 1797) dL_law_1792 (by decide) (fun hc => ?_) (fun hc => ?_)
          · replace h := h.1 hc
            refine mg_goto (tgt := 2408) dL_law_1797 (by decide) ?_
            refine mg_iinc (v := x4 + 4) (ls' := [(4, .int (x4 + 4)), (6, .int (v2)), (5, .int (v1)), (0, .ref (900001)), (1, .ref (k1)), (2, .ref (k2)), (3, .ref (k3))]) dL_law_2408 6 rfl rfl (Nat.le_of_ble_eq_true rfl) rfl ?_
            refine mg_goto (tgt := 23) dL_law_2411 (by decide) ?_
            refine mg_bud (bc' := bc - 8) (bs' := bs - 48) (by omega) (by omega) ?_
            exact mg_pick [3, 4, 5, 6, 0] rfl h
          · replace h := h.2 hc
            exact h.elim
      · replace h := h.2 hc
        exact h.elim
    · replace h := h.2 hc
      refine mg_iconst (v := 1) dL_law_1759 (by decide) ?_
      refine mg_goto (tgt := 1764) dL_law_1760 (by decide) ?_
      obtain ⟨q4, hC, hk⟩ := h
      refine ml_Vi [.int (xs (Int32.toNatClampNeg ((x4) + (1 : Int32)))), .int (1)] [] dL_law_1764 wd_1745 kiX10_vivified (Nat.le_of_ble_eq_true rfl) h2.1.1 h2.1.2 rfl ⟨Nat.le_of_ble_eq_true rfl, Nat.le_of_ble_eq_true rfl⟩ hC (fun v4 M4 hq => ?_)
      replace h := hk v4 M4 hq
      refine mg_istore (ls' := [(6, .int (v4)), (5, .int (v1)), (0, .ref (900001)), (1, .ref (k1)), (2, .ref (k2)), (3, .ref (k3)), (4, .int (x4))]) dL_law_1767 (Nat.le_of_ble_eq_true rfl) rfl ?_
      refine mg_aload_n dL_law_1769 rfl 4 rfl ?_
      obtain ⟨q5, hC, hk⟩ := h
      refine ml_Vi [] [] dL_law_1770 wd_1341 kiX10_thrown (Nat.le_of_ble_eq_true rfl) h2.1.1 h2.1.2 rfl ⟨Nat.le_of_ble_eq_true rfl, Nat.le_of_ble_eq_true rfl⟩ hC (fun v5 M5 hq => ?_)
      replace h := hk v5 M5 hq
      refine mg_iload dL_law_1773 1 rfl ?_
      refine mg_icmp_eq (tgt := 1780) dL_law_1775 (by decide) (fun hc => ?_) (fun hc => ?_)
      · replace h := h.1 hc
        refine mg_iload dL_law_1780 1 rfl ?_
        refine mg_if_ne (tgt := 1797) dL_law_1782 (by decide) (fun hc => ?_) (fun hc => ?_)
        · replace h := h.1 hc
          refine mg_goto (tgt := 2408) dL_law_1797 (by decide) ?_
          refine mg_iinc (v := x4 + 4) (ls' := [(4, .int (x4 + 4)), (6, .int (v4)), (5, .int (v1)), (0, .ref (900001)), (1, .ref (k1)), (2, .ref (k2)), (3, .ref (k3))]) dL_law_2408 6 rfl rfl (Nat.le_of_ble_eq_true rfl) rfl ?_
          refine mg_goto (tgt := 23) dL_law_2411 (by decide) ?_
          refine mg_bud (bc' := bc - 8) (bs' := bs - 48) (by omega) (by omega) ?_
          exact mg_pick [3, 4, 5, 6, 0] rfl h
        · replace h := h.2 hc
          refine mg_aload_n dL_law_1785 rfl 5 rfl ?_
          refine mg_iconst (v := 0) dL_law_1786 (by decide) ?_
          refine mg_lald dL_law_1787 h3.1 h3.2 (vp_in_nI (n := 0) (Nat.le_of_ble_eq_true rfl) (Nat.le_of_ble_eq_true rfl)) rfl ?_
          refine mg_iload dL_law_1788 0 rfl ?_
          refine mg_i2l dL_law_1790 ?_
          refine mg_lcmp dL_law_1791 ?_
          refine mg_if_eq (tgt := 1797) dL_law_1792 (by decide) (fun hc => ?_) (fun hc => ?_)
          · replace h := h.1 hc
            refine mg_goto (tgt := 2408) dL_law_1797 (by decide) ?_
            refine mg_iinc (v := x4 + 4) (ls' := [(4, .int (x4 + 4)), (6, .int (v4)), (5, .int (v1)), (0, .ref (900001)), (1, .ref (k1)), (2, .ref (k2)), (3, .ref (k3))]) dL_law_2408 6 rfl rfl (Nat.le_of_ble_eq_true rfl) rfl ?_
            refine mg_goto (tgt := 23) dL_law_2411 (by decide) ?_
            refine mg_bud (bc' := bc - 8) (bs' := bs - 48) (by omega) (by omega) ?_
            exact mg_pick [3, 4, 5, 6, 0] rfl h
          · replace h := h.2 hc
            exact h.elim
      · replace h := h.2 hc
        exact h.elim
  · replace h := h.2 hc
    refine mg_iconst (v := 1) dL_law_1732 (by decide) ?_
    refine mg_goto (tgt := 1737) dL_law_1733 (by decide) ?_
    refine mg_aload_n dL_law_1737 rfl 3 rfl ?_
    obtain ⟨q6, hC, hk⟩ := h
    refine mw_H2 [.ref (k1), .int (xs (Int32.toNatClampNeg ((x4) + (1 : Int32)))), .int (1), .ref (k3)] [] dL_law_1738 wd_1167 kiL_vivified ⟨Nat.le_of_ble_eq_true rfl, Nat.le_of_ble_eq_true rfl⟩ (Nat.le_of_ble_eq_true rfl) ⟨by omega, by omega⟩ hC (fun v6 M6 hq => ?_)
    replace h := hk v6 M6 hq
    refine mg_istore (ls' := [(5, .int (v6)), (0, .ref (900001)), (1, .ref (k1)), (2, .ref (k2)), (3, .ref (k3)), (4, .int (x4))]) dL_law_1741 (Nat.le_of_ble_eq_true rfl) rfl ?_
    refine mg_aload_n dL_law_1743 rfl 3 rfl ?_
    refine mg_aload_n dL_law_1744 rfl 1 rfl ?_
    refine mg_iload dL_law_1745 5 rfl ?_
    refine mg_iconst (v := 1) dL_law_1747 (by decide) ?_
    refine mg_iadd dL_law_1748 ?_
    refine mg_sld (b := b) (L := L) (xs := xs) rfl dL_law_1749 h.1 ?_
    replace h := h.2
    refine mg_aload_n dL_law_1750 rfl 1 rfl ?_
    refine mg_iload dL_law_1751 5 rfl ?_
    refine mg_iconst (v := 2) dL_law_1753 (by decide) ?_
    refine mg_iadd dL_law_1754 ?_
    refine mg_sld (b := b) (L := L) (xs := xs) rfl dL_law_1755 h.1 ?_
    replace h := h.2
    refine mg_if_eq (tgt := 1763) dL_law_1756 (by decide) (fun hc => ?_) (fun hc => ?_)
    · replace h := h.1 hc
      refine mg_iconst (v := 0) dL_law_1763 (by decide) ?_
      obtain ⟨q7, hC, hk⟩ := h
      refine ml_Vi [.int (xs (Int32.toNatClampNeg ((x4) + (1 : Int32)))), .int (0)] [] dL_law_1764 wd_1745 kiX10_vivified (Nat.le_of_ble_eq_true rfl) h2.1.1 h2.1.2 rfl ⟨Nat.le_of_ble_eq_true rfl, Nat.le_of_ble_eq_true rfl⟩ hC (fun v7 M7 hq => ?_)
      replace h := hk v7 M7 hq
      refine mg_istore (ls' := [(6, .int (v7)), (5, .int (v6)), (0, .ref (900001)), (1, .ref (k1)), (2, .ref (k2)), (3, .ref (k3)), (4, .int (x4))]) dL_law_1767 (Nat.le_of_ble_eq_true rfl) rfl ?_
      refine mg_aload_n dL_law_1769 rfl 4 rfl ?_
      obtain ⟨q8, hC, hk⟩ := h
      refine ml_Vi [] [] dL_law_1770 wd_1341 kiX10_thrown (Nat.le_of_ble_eq_true rfl) h2.1.1 h2.1.2 rfl ⟨Nat.le_of_ble_eq_true rfl, Nat.le_of_ble_eq_true rfl⟩ hC (fun v8 M8 hq => ?_)
      replace h := hk v8 M8 hq
      refine mg_iload dL_law_1773 1 rfl ?_
      refine mg_icmp_eq (tgt := 1780) dL_law_1775 (by decide) (fun hc => ?_) (fun hc => ?_)
      · replace h := h.1 hc
        refine mg_iload dL_law_1780 1 rfl ?_
        refine mg_if_ne (tgt := 1797) dL_law_1782 (by decide) (fun hc => ?_) (fun hc => ?_)
        · replace h := h.1 hc
          refine mg_goto (tgt := 2408) dL_law_1797 (by decide) ?_
          refine mg_iinc (v := x4 + 4) (ls' := [(4, .int (x4 + 4)), (6, .int (v7)), (5, .int (v6)), (0, .ref (900001)), (1, .ref (k1)), (2, .ref (k2)), (3, .ref (k3))]) dL_law_2408 6 rfl rfl (Nat.le_of_ble_eq_true rfl) rfl ?_
          refine mg_goto (tgt := 23) dL_law_2411 (by decide) ?_
          refine mg_bud (bc' := bc - 8) (bs' := bs - 48) (by omega) (by omega) ?_
          exact mg_pick [3, 4, 5, 6, 0] rfl h
        · replace h := h.2 hc
          refine mg_aload_n dL_law_1785 rfl 5 rfl ?_
          refine mg_iconst (v := 0) dL_law_1786 (by decide) ?_
          refine mg_lald dL_law_1787 h3.1 h3.2 (vp_in_nI (n := 0) (Nat.le_of_ble_eq_true rfl) (Nat.le_of_ble_eq_true rfl)) rfl ?_
          refine mg_iload dL_law_1788 0 rfl ?_
          refine mg_i2l dL_law_1790 ?_
          refine mg_lcmp dL_law_1791 ?_
          refine mg_if_eq (tgt := 1797) dL_law_1792 (by decide) (fun hc => ?_) (fun hc => ?_)
          · replace h := h.1 hc
            refine mg_goto (tgt := 2408) dL_law_1797 (by decide) ?_
            refine mg_iinc (v := x4 + 4) (ls' := [(4, .int (x4 + 4)), (6, .int (v7)), (5, .int (v6)), (0, .ref (900001)), (1, .ref (k1)), (2, .ref (k2)), (3, .ref (k3))]) dL_law_2408 6 rfl rfl (Nat.le_of_ble_eq_true rfl) rfl ?_
            refine mg_goto (tgt := 23) dL_law_2411 (by decide) ?_
            refine mg_bud (bc' := bc - 8) (bs' := bs - 48) (by omega) (by omega) ?_
            exact mg_pick [3, 4, 5, 6, 0] rfl h
          · replace h := h.2 hc
            exact h.elim
      · replace h := h.2 hc
        exact h.elim
    · replace h := h.2 hc
      refine mg_iconst (v := 1) dL_law_1759 (by decide) ?_
      refine mg_goto (tgt := 1764) dL_law_1760 (by decide) ?_
      obtain ⟨q9, hC, hk⟩ := h
      refine ml_Vi [.int (xs (Int32.toNatClampNeg ((x4) + (1 : Int32)))), .int (1)] [] dL_law_1764 wd_1745 kiX10_vivified (Nat.le_of_ble_eq_true rfl) h2.1.1 h2.1.2 rfl ⟨Nat.le_of_ble_eq_true rfl, Nat.le_of_ble_eq_true rfl⟩ hC (fun v9 M9 hq => ?_)
      replace h := hk v9 M9 hq
      refine mg_istore (ls' := [(6, .int (v9)), (5, .int (v6)), (0, .ref (900001)), (1, .ref (k1)), (2, .ref (k2)), (3, .ref (k3)), (4, .int (x4))]) dL_law_1767 (Nat.le_of_ble_eq_true rfl) rfl ?_
      refine mg_aload_n dL_law_1769 rfl 4 rfl ?_
      obtain ⟨q10, hC, hk⟩ := h
      refine ml_Vi [] [] dL_law_1770 wd_1341 kiX10_thrown (Nat.le_of_ble_eq_true rfl) h2.1.1 h2.1.2 rfl ⟨Nat.le_of_ble_eq_true rfl, Nat.le_of_ble_eq_true rfl⟩ hC (fun v10 M10 hq => ?_)
      replace h := hk v10 M10 hq
      refine mg_iload dL_law_1773 1 rfl ?_
      refine mg_icmp_eq (tgt := 1780) dL_law_1775 (by decide) (fun hc => ?_) (fun hc => ?_)
      · replace h := h.1 hc
        refine mg_iload dL_law_1780 1 rfl ?_
        refine mg_if_ne (tgt := 1797) dL_law_1782 (by decide) (fun hc => ?_) (fun hc => ?_)
        · replace h := h.1 hc
          refine mg_goto (tgt := 2408) dL_law_1797 (by decide) ?_
          refine mg_iinc (v := x4 + 4) (ls' := [(4, .int (x4 + 4)), (6, .int (v9)), (5, .int (v6)), (0, .ref (900001)), (1, .ref (k1)), (2, .ref (k2)), (3, .ref (k3))]) dL_law_2408 6 rfl rfl (Nat.le_of_ble_eq_true rfl) rfl ?_
          refine mg_goto (tgt := 23) dL_law_2411 (by decide) ?_
          refine mg_bud (bc' := bc - 8) (bs' := bs - 48) (by omega) (by omega) ?_
          exact mg_pick [3, 4, 5, 6, 0] rfl h
        · replace h := h.2 hc
          refine mg_aload_n dL_law_1785 rfl 5 rfl ?_
          refine mg_iconst (v := 0) dL_law_1786 (by decide) ?_
          refine mg_lald dL_law_1787 h3.1 h3.2 (vp_in_nI (n := 0) (Nat.le_of_ble_eq_true rfl) (Nat.le_of_ble_eq_true rfl)) rfl ?_
          refine mg_iload dL_law_1788 0 rfl ?_
          refine mg_i2l dL_law_1790 ?_
          refine mg_lcmp dL_law_1791 ?_
          refine mg_if_eq (tgt := 1797) dL_law_1792 (by decide) (fun hc => ?_) (fun hc => ?_)
          · replace h := h.1 hc
            refine mg_goto (tgt := 2408) dL_law_1797 (by decide) ?_
            refine mg_iinc (v := x4 + 4) (ls' := [(4, .int (x4 + 4)), (6, .int (v9)), (5, .int (v6)), (0, .ref (900001)), (1, .ref (k1)), (2, .ref (k2)), (3, .ref (k3))]) dL_law_2408 6 rfl rfl (Nat.le_of_ble_eq_true rfl) rfl ?_
            refine mg_goto (tgt := 23) dL_law_2411 (by decide) ?_
            refine mg_bud (bc' := bc - 8) (bs' := bs - 48) (by omega) (by omega) ?_
            exact mg_pick [3, 4, 5, 6, 0] rfl h
          · replace h := h.2 hc
            exact h.elim
      · replace h := h.2 hc
        exact h.elim
theorem cL_law_29 {b L : Nat} {xs : Nat → Int32} {k1 k2 k3 : Nat} {x4 : Int32} {bc bs : Nat} {g : mj_S} {M : mj_M} (h1 : is9 g k1) (h2 : is10 g k2) (h3 : k3 < g.1 ∧ g.2.1 k3 = (1, 2, 1)) (hb1 : 8 ≤ bc) (hb2 : 48 ≤ bs) (h : vp_in ((x4) + (1 : Int32)) L ∧ (∃ (q1 : Int32 → mj_M → Prop), kL_implied (k1) (xs (Int32.toNatClampNeg ((x4) + (1 : Int32)))) (k3) g (M) q1 ∧ ∀ (v1 : Int32) (M1 : mj_M), q1 v1 M1 → (vp_in ((x4) + (1 : Int32)) L ∧ (∃ (q2 : Int32 → mj_M → Prop), kX10_implied (k2) (xs (Int32.toNatClampNeg ((x4) + (1 : Int32)))) g (M1) q2 ∧ ∀ (v2 : Int32) (M2 : mj_M), q2 v2 M2 → (∃ (q3 : Int32 → mj_M → Prop), kX10_thrown (k2) g (M2) q3 ∧ ∀ (v3 : Int32) (M3 : mj_M), q3 v3 M3 → (((v3 : Int32) = (v1) → (¬ (v1 : Int32) = 0 → LL_23 b L xs k1 k2 k3 (x4 + 4) (bc - 8) (bs - 48) g (M3)) ∧ ((v1 : Int32) = 0 → ((v2 : Int32) = 0 → ((lg_cmp ((M3).2.1 (k3) (Int32.toNatClampNeg (0))) ((0 : Int64)) : Int32) = 0 → LL_23 b L xs k1 k2 k3 (x4 + 4) (bc - 8) (bs - 48) g (M3)) ∧ (¬ (lg_cmp ((M3).2.1 (k3) (Int32.toNatClampNeg (0))) ((0 : Int64)) : Int32) = 0 → False)) ∧ (¬ (v2 : Int32) = 0 → ((lg_cmp ((M3).2.1 (k3) (Int32.toNatClampNeg (0))) ((1 : Int64)) : Int32) = 0 → LL_23 b L xs k1 k2 k3 (x4 + 4) (bc - 8) (bs - 48) g (M3)) ∧ (¬ (lg_cmp ((M3).2.1 (k3) (Int32.toNatClampNeg (0))) ((1 : Int64)) : Int32) = 0 → False)))) ∧ (¬ (v3 : Int32) = (v1) → False))))))) : mj_G (mj_mtL b L xs) room_1 (mj_FL b) false bc bs 1800 [(0, .ref (900001)), (1, .ref (k1)), (2, .ref (k2)), (3, .ref (k3)), (4, .int (x4))] [] g M := by
  refine mg_aload_n dL_law_1800 rfl 1 rfl ?_
  refine mg_aload_n dL_law_1801 rfl 0 rfl ?_
  refine mg_iload dL_law_1802 4 rfl ?_
  refine mg_iconst (v := 1) dL_law_1804 (by decide) ?_
  refine mg_iadd dL_law_1805 ?_
  refine mg_sld (b := b) (L := L) (xs := xs) rfl dL_law_1806 h.1 ?_
  replace h := h.2
  refine mg_aload_n dL_law_1807 rfl 3 rfl ?_
  obtain ⟨q1, hC, hk⟩ := h
  refine mw_H2 [.ref (k1), .int (xs (Int32.toNatClampNeg ((x4) + (1 : Int32)))), .ref (k3)] [] dL_law_1808 wd_1175 kiL_implied ⟨Nat.le_of_ble_eq_true rfl, Nat.le_of_ble_eq_true rfl⟩ (Nat.le_of_ble_eq_true rfl) ⟨by omega, by omega⟩ hC (fun v1 M1 hq => ?_)
  replace h := hk v1 M1 hq
  refine mg_istore (ls' := [(5, .int (v1)), (0, .ref (900001)), (1, .ref (k1)), (2, .ref (k2)), (3, .ref (k3)), (4, .int (x4))]) dL_law_1811 (Nat.le_of_ble_eq_true rfl) rfl ?_
  refine mg_aload_n dL_law_1813 rfl 3 rfl ?_
  refine mg_aload_n dL_law_1814 rfl 1 rfl ?_
  refine mg_iload dL_law_1815 5 rfl ?_
  refine mg_iconst (v := 1) dL_law_1817 (by decide) ?_
  refine mg_iadd dL_law_1818 ?_
  refine mg_sld (b := b) (L := L) (xs := xs) rfl dL_law_1819 h.1 ?_
  replace h := h.2
  obtain ⟨q2, hC, hk⟩ := h
  refine ml_Vi [.int (xs (Int32.toNatClampNeg ((x4) + (1 : Int32))))] [] dL_law_1820 wd_1749 kiX10_implied (Nat.le_of_ble_eq_true rfl) h2.1.1 h2.1.2 rfl ⟨Nat.le_of_ble_eq_true rfl, Nat.le_of_ble_eq_true rfl⟩ hC (fun v2 M2 hq => ?_)
  replace h := hk v2 M2 hq
  refine mg_istore (ls' := [(6, .int (v2)), (5, .int (v1)), (0, .ref (900001)), (1, .ref (k1)), (2, .ref (k2)), (3, .ref (k3)), (4, .int (x4))]) dL_law_1823 (Nat.le_of_ble_eq_true rfl) rfl ?_
  refine mg_aload_n dL_law_1825 rfl 4 rfl ?_
  obtain ⟨q3, hC, hk⟩ := h
  refine ml_Vi [] [] dL_law_1826 wd_1341 kiX10_thrown (Nat.le_of_ble_eq_true rfl) h2.1.1 h2.1.2 rfl ⟨Nat.le_of_ble_eq_true rfl, Nat.le_of_ble_eq_true rfl⟩ hC (fun v3 M3 hq => ?_)
  replace h := hk v3 M3 hq
  refine mg_iload dL_law_1829 1 rfl ?_
  refine mg_icmp_eq (tgt := 1836) dL_law_1831 (by decide) (fun hc => ?_) (fun hc => ?_)
  · replace h := h.1 hc
    refine mg_iload dL_law_1836 1 rfl ?_
    refine mg_if_ne (tgt := 1860) dL_law_1838 (by decide) (fun hc => ?_) (fun hc => ?_)
    · replace h := h.1 hc
      refine mg_goto (tgt := 2408) dL_law_1860 (by decide) ?_
      refine mg_iinc (v := x4 + 4) (ls' := [(4, .int (x4 + 4)), (6, .int (v2)), (5, .int (v1)), (0, .ref (900001)), (1, .ref (k1)), (2, .ref (k2)), (3, .ref (k3))]) dL_law_2408 6 rfl rfl (Nat.le_of_ble_eq_true rfl) rfl ?_
      refine mg_goto (tgt := 23) dL_law_2411 (by decide) ?_
      refine mg_bud (bc' := bc - 8) (bs' := bs - 48) (by omega) (by omega) ?_
      exact mg_pick [3, 4, 5, 6, 0] rfl h
    · replace h := h.2 hc
      refine mg_aload_n dL_law_1841 rfl 5 rfl ?_
      refine mg_iconst (v := 0) dL_law_1842 (by decide) ?_
      refine mg_lald dL_law_1843 h3.1 h3.2 (vp_in_nI (n := 0) (Nat.le_of_ble_eq_true rfl) (Nat.le_of_ble_eq_true rfl)) rfl ?_
      refine mg_iload dL_law_1844 0 rfl ?_
      refine mg_if_eq (tgt := 1853) dL_law_1846 (by decide) (fun hc => ?_) (fun hc => ?_)
      · replace h := h.1 hc
        refine mg_lconst (v := 0) dL_law_1853 (by decide) ?_
        refine mg_lcmp dL_law_1854 ?_
        refine mg_if_eq (tgt := 1860) dL_law_1855 (by decide) (fun hc => ?_) (fun hc => ?_)
        · replace h := h.1 hc
          refine mg_goto (tgt := 2408) dL_law_1860 (by decide) ?_
          refine mg_iinc (v := x4 + 4) (ls' := [(4, .int (x4 + 4)), (6, .int (v2)), (5, .int (v1)), (0, .ref (900001)), (1, .ref (k1)), (2, .ref (k2)), (3, .ref (k3))]) dL_law_2408 6 rfl rfl (Nat.le_of_ble_eq_true rfl) rfl ?_
          refine mg_goto (tgt := 23) dL_law_2411 (by decide) ?_
          refine mg_bud (bc' := bc - 8) (bs' := bs - 48) (by omega) (by omega) ?_
          exact mg_pick [3, 4, 5, 6, 0] rfl h
        · replace h := h.2 hc
          exact h.elim
      · replace h := h.2 hc
        refine mg_lconst (v := 1) dL_law_1849 (by decide) ?_
        refine mg_goto (tgt := 1854) dL_law_1850 (by decide) ?_
        refine mg_lcmp dL_law_1854 ?_
        refine mg_if_eq (tgt := 1860) dL_law_1855 (by decide) (fun hc => ?_) (fun hc => ?_)
        · replace h := h.1 hc
          refine mg_goto (tgt := 2408) dL_law_1860 (by decide) ?_
          refine mg_iinc (v := x4 + 4) (ls' := [(4, .int (x4 + 4)), (6, .int (v2)), (5, .int (v1)), (0, .ref (900001)), (1, .ref (k1)), (2, .ref (k2)), (3, .ref (k3))]) dL_law_2408 6 rfl rfl (Nat.le_of_ble_eq_true rfl) rfl ?_
          refine mg_goto (tgt := 23) dL_law_2411 (by decide) ?_
          refine mg_bud (bc' := bc - 8) (bs' := bs - 48) (by omega) (by omega) ?_
          exact mg_pick [3, 4, 5, 6, 0] rfl h
        · replace h := h.2 hc
          exact h.elim
  · replace h := h.2 hc
    exact h.elim
theorem cL_law_30 {b L : Nat} {xs : Nat → Int32} {k1 k2 k3 : Nat} {x4 : Int32} {bc bs : Nat} {g : mj_S} {M : mj_M} (h1 : is9 g k1) (h2 : is10 g k2) (h3 : k3 < g.1 ∧ g.2.1 k3 = (1, 2, 1)) (hb1 : 8 ≤ bc) (hb2 : 48 ≤ bs) (h : vp_in ((x4) + (1 : Int32)) L ∧ (∃ (q1 : Int32 → mj_M → Prop), kL_propagate (k1) (xs (Int32.toNatClampNeg ((x4) + (1 : Int32)))) (k3) g (M) q1 ∧ ∀ (v1 : Int32) (M1 : mj_M), q1 v1 M1 → (vp_in ((x4) + (1 : Int32)) L ∧ (∃ (q2 : Int32 → mj_M → Prop), kX10_propagate (k2) (xs (Int32.toNatClampNeg ((x4) + (1 : Int32)))) g (M1) q2 ∧ ∀ (v2 : Int32) (M2 : mj_M), q2 v2 M2 → (∃ (q3 : Int32 → mj_M → Prop), kX10_thrown (k2) g (M2) q3 ∧ ∀ (v3 : Int32) (M3 : mj_M), q3 v3 M3 → (((v3 : Int32) = (v1) → (¬ (v1 : Int32) = 0 → LL_23 b L xs k1 k2 k3 (x4 + 4) (bc - 8) (bs - 48) g (M3)) ∧ ((v1 : Int32) = 0 → ((lg_cmp ((M3).2.1 (k3) (Int32.toNatClampNeg (0))) (Int32.toInt64 (v2)) : Int32) = 0 → LL_23 b L xs k1 k2 k3 (x4 + 4) (bc - 8) (bs - 48) g (M3)) ∧ (¬ (lg_cmp ((M3).2.1 (k3) (Int32.toNatClampNeg (0))) (Int32.toInt64 (v2)) : Int32) = 0 → False))) ∧ (¬ (v3 : Int32) = (v1) → False))))))) : mj_G (mj_mtL b L xs) room_1 (mj_FL b) false bc bs 1863 [(0, .ref (900001)), (1, .ref (k1)), (2, .ref (k2)), (3, .ref (k3)), (4, .int (x4))] [] g M := by
  refine mg_aload_n dL_law_1863 rfl 1 rfl ?_
  refine mg_aload_n dL_law_1864 rfl 0 rfl ?_
  refine mg_iload dL_law_1865 4 rfl ?_
  refine mg_iconst (v := 1) dL_law_1867 (by decide) ?_
  refine mg_iadd dL_law_1868 ?_
  refine mg_sld (b := b) (L := L) (xs := xs) rfl dL_law_1869 h.1 ?_
  replace h := h.2
  refine mg_aload_n dL_law_1870 rfl 3 rfl ?_
  obtain ⟨q1, hC, hk⟩ := h
  refine mw_H2 [.ref (k1), .int (xs (Int32.toNatClampNeg ((x4) + (1 : Int32)))), .ref (k3)] [] dL_law_1871 wd_1182 kiL_propagate ⟨Nat.le_of_ble_eq_true rfl, Nat.le_of_ble_eq_true rfl⟩ (Nat.le_of_ble_eq_true rfl) ⟨by omega, by omega⟩ hC (fun v1 M1 hq => ?_)
  replace h := hk v1 M1 hq
  refine mg_istore (ls' := [(5, .int (v1)), (0, .ref (900001)), (1, .ref (k1)), (2, .ref (k2)), (3, .ref (k3)), (4, .int (x4))]) dL_law_1874 (Nat.le_of_ble_eq_true rfl) rfl ?_
  refine mg_aload_n dL_law_1876 rfl 3 rfl ?_
  refine mg_aload_n dL_law_1877 rfl 1 rfl ?_
  refine mg_iload dL_law_1878 5 rfl ?_
  refine mg_iconst (v := 1) dL_law_1880 (by decide) ?_
  refine mg_iadd dL_law_1881 ?_
  refine mg_sld (b := b) (L := L) (xs := xs) rfl dL_law_1882 h.1 ?_
  replace h := h.2
  obtain ⟨q2, hC, hk⟩ := h
  refine ml_Vi [.int (xs (Int32.toNatClampNeg ((x4) + (1 : Int32))))] [] dL_law_1883 wd_1753 kiX10_propagate (Nat.le_of_ble_eq_true rfl) h2.1.1 h2.1.2 rfl ⟨Nat.le_of_ble_eq_true rfl, Nat.le_of_ble_eq_true rfl⟩ hC (fun v2 M2 hq => ?_)
  replace h := hk v2 M2 hq
  refine mg_istore (ls' := [(6, .int (v2)), (5, .int (v1)), (0, .ref (900001)), (1, .ref (k1)), (2, .ref (k2)), (3, .ref (k3)), (4, .int (x4))]) dL_law_1886 (Nat.le_of_ble_eq_true rfl) rfl ?_
  refine mg_aload_n dL_law_1888 rfl 4 rfl ?_
  obtain ⟨q3, hC, hk⟩ := h
  refine ml_Vi [] [] dL_law_1889 wd_1341 kiX10_thrown (Nat.le_of_ble_eq_true rfl) h2.1.1 h2.1.2 rfl ⟨Nat.le_of_ble_eq_true rfl, Nat.le_of_ble_eq_true rfl⟩ hC (fun v3 M3 hq => ?_)
  replace h := hk v3 M3 hq
  refine mg_iload dL_law_1892 1 rfl ?_
  refine mg_icmp_eq (tgt := 1899) dL_law_1894 (by decide) (fun hc => ?_) (fun hc => ?_)
  · replace h := h.1 hc
    refine mg_iload dL_law_1899 1 rfl ?_
    refine mg_if_ne (tgt := 1916) dL_law_1901 (by decide) (fun hc => ?_) (fun hc => ?_)
    · replace h := h.1 hc
      refine mg_goto (tgt := 2408) dL_law_1916 (by decide) ?_
      refine mg_iinc (v := x4 + 4) (ls' := [(4, .int (x4 + 4)), (6, .int (v2)), (5, .int (v1)), (0, .ref (900001)), (1, .ref (k1)), (2, .ref (k2)), (3, .ref (k3))]) dL_law_2408 6 rfl rfl (Nat.le_of_ble_eq_true rfl) rfl ?_
      refine mg_goto (tgt := 23) dL_law_2411 (by decide) ?_
      refine mg_bud (bc' := bc - 8) (bs' := bs - 48) (by omega) (by omega) ?_
      exact mg_pick [3, 4, 5, 6, 0] rfl h
    · replace h := h.2 hc
      refine mg_aload_n dL_law_1904 rfl 5 rfl ?_
      refine mg_iconst (v := 0) dL_law_1905 (by decide) ?_
      refine mg_lald dL_law_1906 h3.1 h3.2 (vp_in_nI (n := 0) (Nat.le_of_ble_eq_true rfl) (Nat.le_of_ble_eq_true rfl)) rfl ?_
      refine mg_iload dL_law_1907 0 rfl ?_
      refine mg_i2l dL_law_1909 ?_
      refine mg_lcmp dL_law_1910 ?_
      refine mg_if_eq (tgt := 1916) dL_law_1911 (by decide) (fun hc => ?_) (fun hc => ?_)
      · replace h := h.1 hc
        refine mg_goto (tgt := 2408) dL_law_1916 (by decide) ?_
        refine mg_iinc (v := x4 + 4) (ls' := [(4, .int (x4 + 4)), (6, .int (v2)), (5, .int (v1)), (0, .ref (900001)), (1, .ref (k1)), (2, .ref (k2)), (3, .ref (k3))]) dL_law_2408 6 rfl rfl (Nat.le_of_ble_eq_true rfl) rfl ?_
        refine mg_goto (tgt := 23) dL_law_2411 (by decide) ?_
        refine mg_bud (bc' := bc - 8) (bs' := bs - 48) (by omega) (by omega) ?_
        exact mg_pick [3, 4, 5, 6, 0] rfl h
      · replace h := h.2 hc
        exact h.elim
  · replace h := h.2 hc
    exact h.elim
theorem cL_law_31 {b L : Nat} {xs : Nat → Int32} {k1 k2 k3 : Nat} {x4 : Int32} {bc bs : Nat} {g : mj_S} {M : mj_M} (h1 : is9 g k1) (h2 : is10 g k2) (h3 : k3 < g.1 ∧ g.2.1 k3 = (1, 2, 1)) (hb1 : 8 ≤ bc) (hb2 : 48 ≤ bs) (h : vp_in ((x4) + (1 : Int32)) L ∧ (vp_in ((x4) + (2 : Int32)) L ∧ (∃ (q1 : Int32 → mj_M → Prop), kL_reachable (k1) (xs (Int32.toNatClampNeg ((x4) + (1 : Int32)))) (xs (Int32.toNatClampNeg ((x4) + (2 : Int32)))) (k3) g (M) q1 ∧ ∀ (v1 : Int32) (M1 : mj_M), q1 v1 M1 → (vp_in ((x4) + (1 : Int32)) L ∧ (vp_in ((x4) + (2 : Int32)) L ∧ (∃ (q2 : Int32 → mj_M → Prop), kX10_reachable (k2) (xs (Int32.toNatClampNeg ((x4) + (1 : Int32)))) (xs (Int32.toNatClampNeg ((x4) + (2 : Int32)))) g (M1) q2 ∧ ∀ (v2 : Int32) (M2 : mj_M), q2 v2 M2 → (∃ (q3 : Int32 → mj_M → Prop), kX10_thrown (k2) g (M2) q3 ∧ ∀ (v3 : Int32) (M3 : mj_M), q3 v3 M3 → (((v3 : Int32) = (v1) → (¬ (v1 : Int32) = 0 → LL_23 b L xs k1 k2 k3 (x4 + 4) (bc - 8) (bs - 48) g (M3)) ∧ ((v1 : Int32) = 0 → ((v2 : Int32) = 0 → ((lg_cmp ((M3).2.1 (k3) (Int32.toNatClampNeg (0))) ((0 : Int64)) : Int32) = 0 → LL_23 b L xs k1 k2 k3 (x4 + 4) (bc - 8) (bs - 48) g (M3)) ∧ (¬ (lg_cmp ((M3).2.1 (k3) (Int32.toNatClampNeg (0))) ((0 : Int64)) : Int32) = 0 → False)) ∧ (¬ (v2 : Int32) = 0 → ((lg_cmp ((M3).2.1 (k3) (Int32.toNatClampNeg (0))) ((1 : Int64)) : Int32) = 0 → LL_23 b L xs k1 k2 k3 (x4 + 4) (bc - 8) (bs - 48) g (M3)) ∧ (¬ (lg_cmp ((M3).2.1 (k3) (Int32.toNatClampNeg (0))) ((1 : Int64)) : Int32) = 0 → False)))) ∧ (¬ (v3 : Int32) = (v1) → False))))))))) : mj_G (mj_mtL b L xs) room_1 (mj_FL b) false bc bs 1919 [(0, .ref (900001)), (1, .ref (k1)), (2, .ref (k2)), (3, .ref (k3)), (4, .int (x4))] [] g M := by
  refine mg_aload_n dL_law_1919 rfl 1 rfl ?_
  refine mg_aload_n dL_law_1920 rfl 0 rfl ?_
  refine mg_iload dL_law_1921 4 rfl ?_
  refine mg_iconst (v := 1) dL_law_1923 (by decide) ?_
  refine mg_iadd dL_law_1924 ?_
  refine mg_sld (b := b) (L := L) (xs := xs) rfl dL_law_1925 h.1 ?_
  replace h := h.2
  refine mg_aload_n dL_law_1926 rfl 0 rfl ?_
  refine mg_iload dL_law_1927 4 rfl ?_
  refine mg_iconst (v := 2) dL_law_1929 (by decide) ?_
  refine mg_iadd dL_law_1930 ?_
  refine mg_sld (b := b) (L := L) (xs := xs) rfl dL_law_1931 h.1 ?_
  replace h := h.2
  refine mg_aload_n dL_law_1932 rfl 3 rfl ?_
  obtain ⟨q1, hC, hk⟩ := h
  refine mw_H2 [.ref (k1), .int (xs (Int32.toNatClampNeg ((x4) + (1 : Int32)))), .int (xs (Int32.toNatClampNeg ((x4) + (2 : Int32)))), .ref (k3)] [] dL_law_1933 wd_1189 kiL_reachable ⟨Nat.le_of_ble_eq_true rfl, Nat.le_of_ble_eq_true rfl⟩ (Nat.le_of_ble_eq_true rfl) ⟨by omega, by omega⟩ hC (fun v1 M1 hq => ?_)
  replace h := hk v1 M1 hq
  refine mg_istore (ls' := [(5, .int (v1)), (0, .ref (900001)), (1, .ref (k1)), (2, .ref (k2)), (3, .ref (k3)), (4, .int (x4))]) dL_law_1936 (Nat.le_of_ble_eq_true rfl) rfl ?_
  refine mg_aload_n dL_law_1938 rfl 3 rfl ?_
  refine mg_aload_n dL_law_1939 rfl 1 rfl ?_
  refine mg_iload dL_law_1940 5 rfl ?_
  refine mg_iconst (v := 1) dL_law_1942 (by decide) ?_
  refine mg_iadd dL_law_1943 ?_
  refine mg_sld (b := b) (L := L) (xs := xs) rfl dL_law_1944 h.1 ?_
  replace h := h.2
  refine mg_aload_n dL_law_1945 rfl 1 rfl ?_
  refine mg_iload dL_law_1946 5 rfl ?_
  refine mg_iconst (v := 2) dL_law_1948 (by decide) ?_
  refine mg_iadd dL_law_1949 ?_
  refine mg_sld (b := b) (L := L) (xs := xs) rfl dL_law_1950 h.1 ?_
  replace h := h.2
  obtain ⟨q2, hC, hk⟩ := h
  refine ml_Vi [.int (xs (Int32.toNatClampNeg ((x4) + (1 : Int32)))), .int (xs (Int32.toNatClampNeg ((x4) + (2 : Int32))))] [] dL_law_1951 wd_1757 kiX10_reachable (Nat.le_of_ble_eq_true rfl) h2.1.1 h2.1.2 rfl ⟨Nat.le_of_ble_eq_true rfl, Nat.le_of_ble_eq_true rfl⟩ hC (fun v2 M2 hq => ?_)
  replace h := hk v2 M2 hq
  refine mg_istore (ls' := [(6, .int (v2)), (5, .int (v1)), (0, .ref (900001)), (1, .ref (k1)), (2, .ref (k2)), (3, .ref (k3)), (4, .int (x4))]) dL_law_1954 (Nat.le_of_ble_eq_true rfl) rfl ?_
  refine mg_aload_n dL_law_1956 rfl 4 rfl ?_
  obtain ⟨q3, hC, hk⟩ := h
  refine ml_Vi [] [] dL_law_1957 wd_1341 kiX10_thrown (Nat.le_of_ble_eq_true rfl) h2.1.1 h2.1.2 rfl ⟨Nat.le_of_ble_eq_true rfl, Nat.le_of_ble_eq_true rfl⟩ hC (fun v3 M3 hq => ?_)
  replace h := hk v3 M3 hq
  refine mg_iload dL_law_1960 1 rfl ?_
  refine mg_icmp_eq (tgt := 1967) dL_law_1962 (by decide) (fun hc => ?_) (fun hc => ?_)
  · replace h := h.1 hc
    refine mg_iload dL_law_1967 1 rfl ?_
    refine mg_if_ne (tgt := 1991) dL_law_1969 (by decide) (fun hc => ?_) (fun hc => ?_)
    · replace h := h.1 hc
      refine mg_goto (tgt := 2408) dL_law_1991 (by decide) ?_
      refine mg_iinc (v := x4 + 4) (ls' := [(4, .int (x4 + 4)), (6, .int (v2)), (5, .int (v1)), (0, .ref (900001)), (1, .ref (k1)), (2, .ref (k2)), (3, .ref (k3))]) dL_law_2408 6 rfl rfl (Nat.le_of_ble_eq_true rfl) rfl ?_
      refine mg_goto (tgt := 23) dL_law_2411 (by decide) ?_
      refine mg_bud (bc' := bc - 8) (bs' := bs - 48) (by omega) (by omega) ?_
      exact mg_pick [3, 4, 5, 6, 0] rfl h
    · replace h := h.2 hc
      refine mg_aload_n dL_law_1972 rfl 5 rfl ?_
      refine mg_iconst (v := 0) dL_law_1973 (by decide) ?_
      refine mg_lald dL_law_1974 h3.1 h3.2 (vp_in_nI (n := 0) (Nat.le_of_ble_eq_true rfl) (Nat.le_of_ble_eq_true rfl)) rfl ?_
      refine mg_iload dL_law_1975 0 rfl ?_
      refine mg_if_eq (tgt := 1984) dL_law_1977 (by decide) (fun hc => ?_) (fun hc => ?_)
      · replace h := h.1 hc
        refine mg_lconst (v := 0) dL_law_1984 (by decide) ?_
        refine mg_lcmp dL_law_1985 ?_
        refine mg_if_eq (tgt := 1991) dL_law_1986 (by decide) (fun hc => ?_) (fun hc => ?_)
        · replace h := h.1 hc
          refine mg_goto (tgt := 2408) dL_law_1991 (by decide) ?_
          refine mg_iinc (v := x4 + 4) (ls' := [(4, .int (x4 + 4)), (6, .int (v2)), (5, .int (v1)), (0, .ref (900001)), (1, .ref (k1)), (2, .ref (k2)), (3, .ref (k3))]) dL_law_2408 6 rfl rfl (Nat.le_of_ble_eq_true rfl) rfl ?_
          refine mg_goto (tgt := 23) dL_law_2411 (by decide) ?_
          refine mg_bud (bc' := bc - 8) (bs' := bs - 48) (by omega) (by omega) ?_
          exact mg_pick [3, 4, 5, 6, 0] rfl h
        · replace h := h.2 hc
          exact h.elim
      · replace h := h.2 hc
        refine mg_lconst (v := 1) dL_law_1980 (by decide) ?_
        refine mg_goto (tgt := 1985) dL_law_1981 (by decide) ?_
        refine mg_lcmp dL_law_1985 ?_
        refine mg_if_eq (tgt := 1991) dL_law_1986 (by decide) (fun hc => ?_) (fun hc => ?_)
        · replace h := h.1 hc
          refine mg_goto (tgt := 2408) dL_law_1991 (by decide) ?_
          refine mg_iinc (v := x4 + 4) (ls' := [(4, .int (x4 + 4)), (6, .int (v2)), (5, .int (v1)), (0, .ref (900001)), (1, .ref (k1)), (2, .ref (k2)), (3, .ref (k3))]) dL_law_2408 6 rfl rfl (Nat.le_of_ble_eq_true rfl) rfl ?_
          refine mg_goto (tgt := 23) dL_law_2411 (by decide) ?_
          refine mg_bud (bc' := bc - 8) (bs' := bs - 48) (by omega) (by omega) ?_
          exact mg_pick [3, 4, 5, 6, 0] rfl h
        · replace h := h.2 hc
          exact h.elim
  · replace h := h.2 hc
    exact h.elim
theorem cL_law_32 {b L : Nat} {xs : Nat → Int32} {k1 k2 k3 : Nat} {x4 : Int32} {bc bs : Nat} {g : mj_S} {M : mj_M} (h1 : is9 g k1) (h2 : is10 g k2) (h3 : k3 < g.1 ∧ g.2.1 k3 = (1, 2, 1)) (hb1 : 8 ≤ bc) (hb2 : 48 ≤ bs) (h : vp_in ((x4) + (1 : Int32)) L ∧ (∃ (q1 : Int32 → mj_M → Prop), kL_representative (k1) (xs (Int32.toNatClampNeg ((x4) + (1 : Int32)))) (k3) g (M) q1 ∧ ∀ (v1 : Int32) (M1 : mj_M), q1 v1 M1 → (vp_in ((x4) + (1 : Int32)) L ∧ (∃ (q2 : Int32 → mj_M → Prop), kX10_representative (k2) (xs (Int32.toNatClampNeg ((x4) + (1 : Int32)))) g (M1) q2 ∧ ∀ (v2 : Int32) (M2 : mj_M), q2 v2 M2 → (∃ (q3 : Int32 → mj_M → Prop), kX10_thrown (k2) g (M2) q3 ∧ ∀ (v3 : Int32) (M3 : mj_M), q3 v3 M3 → (((v3 : Int32) = (v1) → (¬ (v1 : Int32) = 0 → LL_23 b L xs k1 k2 k3 (x4 + 4) (bc - 8) (bs - 48) g (M3)) ∧ ((v1 : Int32) = 0 → ((lg_cmp ((M3).2.1 (k3) (Int32.toNatClampNeg (0))) (Int32.toInt64 (v2)) : Int32) = 0 → LL_23 b L xs k1 k2 k3 (x4 + 4) (bc - 8) (bs - 48) g (M3)) ∧ (¬ (lg_cmp ((M3).2.1 (k3) (Int32.toNatClampNeg (0))) (Int32.toInt64 (v2)) : Int32) = 0 → False))) ∧ (¬ (v3 : Int32) = (v1) → False))))))) : mj_G (mj_mtL b L xs) room_1 (mj_FL b) false bc bs 1994 [(0, .ref (900001)), (1, .ref (k1)), (2, .ref (k2)), (3, .ref (k3)), (4, .int (x4))] [] g M := by
  refine mg_aload_n dL_law_1994 rfl 1 rfl ?_
  refine mg_aload_n dL_law_1995 rfl 0 rfl ?_
  refine mg_iload dL_law_1996 4 rfl ?_
  refine mg_iconst (v := 1) dL_law_1998 (by decide) ?_
  refine mg_iadd dL_law_1999 ?_
  refine mg_sld (b := b) (L := L) (xs := xs) rfl dL_law_2000 h.1 ?_
  replace h := h.2
  refine mg_aload_n dL_law_2001 rfl 3 rfl ?_
  obtain ⟨q1, hC, hk⟩ := h
  refine mw_H2 [.ref (k1), .int (xs (Int32.toNatClampNeg ((x4) + (1 : Int32)))), .ref (k3)] [] dL_law_2002 wd_1198 kiL_representative ⟨Nat.le_of_ble_eq_true rfl, Nat.le_of_ble_eq_true rfl⟩ (Nat.le_of_ble_eq_true rfl) ⟨by omega, by omega⟩ hC (fun v1 M1 hq => ?_)
  replace h := hk v1 M1 hq
  refine mg_istore (ls' := [(5, .int (v1)), (0, .ref (900001)), (1, .ref (k1)), (2, .ref (k2)), (3, .ref (k3)), (4, .int (x4))]) dL_law_2005 (Nat.le_of_ble_eq_true rfl) rfl ?_
  refine mg_aload_n dL_law_2007 rfl 3 rfl ?_
  refine mg_aload_n dL_law_2008 rfl 1 rfl ?_
  refine mg_iload dL_law_2009 5 rfl ?_
  refine mg_iconst (v := 1) dL_law_2011 (by decide) ?_
  refine mg_iadd dL_law_2012 ?_
  refine mg_sld (b := b) (L := L) (xs := xs) rfl dL_law_2013 h.1 ?_
  replace h := h.2
  obtain ⟨q2, hC, hk⟩ := h
  refine ml_Vi [.int (xs (Int32.toNatClampNeg ((x4) + (1 : Int32))))] [] dL_law_2014 wd_1761 kiX10_representative (Nat.le_of_ble_eq_true rfl) h2.1.1 h2.1.2 rfl ⟨Nat.le_of_ble_eq_true rfl, Nat.le_of_ble_eq_true rfl⟩ hC (fun v2 M2 hq => ?_)
  replace h := hk v2 M2 hq
  refine mg_istore (ls' := [(6, .int (v2)), (5, .int (v1)), (0, .ref (900001)), (1, .ref (k1)), (2, .ref (k2)), (3, .ref (k3)), (4, .int (x4))]) dL_law_2017 (Nat.le_of_ble_eq_true rfl) rfl ?_
  refine mg_aload_n dL_law_2019 rfl 4 rfl ?_
  obtain ⟨q3, hC, hk⟩ := h
  refine ml_Vi [] [] dL_law_2020 wd_1341 kiX10_thrown (Nat.le_of_ble_eq_true rfl) h2.1.1 h2.1.2 rfl ⟨Nat.le_of_ble_eq_true rfl, Nat.le_of_ble_eq_true rfl⟩ hC (fun v3 M3 hq => ?_)
  replace h := hk v3 M3 hq
  refine mg_iload dL_law_2023 1 rfl ?_
  refine mg_icmp_eq (tgt := 2030) dL_law_2025 (by decide) (fun hc => ?_) (fun hc => ?_)
  · replace h := h.1 hc
    refine mg_iload dL_law_2030 1 rfl ?_
    refine mg_if_ne (tgt := 2047) dL_law_2032 (by decide) (fun hc => ?_) (fun hc => ?_)
    · replace h := h.1 hc
      refine mg_goto (tgt := 2408) dL_law_2047 (by decide) ?_
      refine mg_iinc (v := x4 + 4) (ls' := [(4, .int (x4 + 4)), (6, .int (v2)), (5, .int (v1)), (0, .ref (900001)), (1, .ref (k1)), (2, .ref (k2)), (3, .ref (k3))]) dL_law_2408 6 rfl rfl (Nat.le_of_ble_eq_true rfl) rfl ?_
      refine mg_goto (tgt := 23) dL_law_2411 (by decide) ?_
      refine mg_bud (bc' := bc - 8) (bs' := bs - 48) (by omega) (by omega) ?_
      exact mg_pick [3, 4, 5, 6, 0] rfl h
    · replace h := h.2 hc
      refine mg_aload_n dL_law_2035 rfl 5 rfl ?_
      refine mg_iconst (v := 0) dL_law_2036 (by decide) ?_
      refine mg_lald dL_law_2037 h3.1 h3.2 (vp_in_nI (n := 0) (Nat.le_of_ble_eq_true rfl) (Nat.le_of_ble_eq_true rfl)) rfl ?_
      refine mg_iload dL_law_2038 0 rfl ?_
      refine mg_i2l dL_law_2040 ?_
      refine mg_lcmp dL_law_2041 ?_
      refine mg_if_eq (tgt := 2047) dL_law_2042 (by decide) (fun hc => ?_) (fun hc => ?_)
      · replace h := h.1 hc
        refine mg_goto (tgt := 2408) dL_law_2047 (by decide) ?_
        refine mg_iinc (v := x4 + 4) (ls' := [(4, .int (x4 + 4)), (6, .int (v2)), (5, .int (v1)), (0, .ref (900001)), (1, .ref (k1)), (2, .ref (k2)), (3, .ref (k3))]) dL_law_2408 6 rfl rfl (Nat.le_of_ble_eq_true rfl) rfl ?_
        refine mg_goto (tgt := 23) dL_law_2411 (by decide) ?_
        refine mg_bud (bc' := bc - 8) (bs' := bs - 48) (by omega) (by omega) ?_
        exact mg_pick [3, 4, 5, 6, 0] rfl h
      · replace h := h.2 hc
        exact h.elim
  · replace h := h.2 hc
    exact h.elim
theorem cL_law_33 {b L : Nat} {xs : Nat → Int32} {k1 k2 k3 : Nat} {x4 : Int32} {bc bs : Nat} {g : mj_S} {M : mj_M} (h1 : is9 g k1) (h2 : is10 g k2) (h3 : k3 < g.1 ∧ g.2.1 k3 = (1, 2, 1)) (hb1 : 8 ≤ bc) (hb2 : 48 ≤ bs) (h : ∃ (q1 : Int32 → mj_M → Prop), kX9_rowCount (k1) g (M) q1 ∧ ∀ (v1 : Int32) (M1 : mj_M), q1 v1 M1 → (∃ (q2 : Int32 → mj_M → Prop), kX10_rowCount (k2) g (M1) q2 ∧ ∀ (v2 : Int32) (M2 : mj_M), q2 v2 M2 → (((v1 : Int32) = (v2) → LL_23 b L xs k1 k2 k3 (x4 + 4) (bc - 8) (bs - 48) g (M2)) ∧ (¬ (v1 : Int32) = (v2) → False)))) : mj_G (mj_mtL b L xs) room_1 (mj_FL b) false bc bs 2050 [(0, .ref (900001)), (1, .ref (k1)), (2, .ref (k2)), (3, .ref (k3)), (4, .int (x4))] [] g M := by
  refine mg_aload_n dL_law_2050 rfl 1 rfl ?_
  obtain ⟨q1, hC, hk⟩ := h
  refine ml_Vi [] [] dL_law_2051 wd_306 kiX9_rowCount (Nat.le_of_ble_eq_true rfl) h1.1.1 h1.1.2 rfl ⟨Nat.le_of_ble_eq_true rfl, Nat.le_of_ble_eq_true rfl⟩ hC (fun v1 M1 hq => ?_)
  replace h := hk v1 M1 hq
  refine mg_aload_n dL_law_2054 rfl 2 rfl ?_
  obtain ⟨q2, hC, hk⟩ := h
  refine ml_Vi [] [.int (v1)] dL_law_2055 wd_1765 kiX10_rowCount (Nat.le_of_ble_eq_true rfl) h2.1.1 h2.1.2 rfl ⟨Nat.le_of_ble_eq_true rfl, Nat.le_of_ble_eq_true rfl⟩ hC (fun v2 M2 hq => ?_)
  replace h := hk v2 M2 hq
  refine mg_icmp_eq (tgt := 2408) dL_law_2058 (by decide) (fun hc => ?_) (fun hc => ?_)
  · replace h := h.1 hc
    refine mg_iinc (v := x4 + 4) (ls' := [(4, .int (x4 + 4)), (0, .ref (900001)), (1, .ref (k1)), (2, .ref (k2)), (3, .ref (k3))]) dL_law_2408 4 rfl rfl (Nat.le_of_ble_eq_true rfl) rfl ?_
    refine mg_goto (tgt := 23) dL_law_2411 (by decide) ?_
    refine mg_bud (bc' := bc - 8) (bs' := bs - 48) (by omega) (by omega) ?_
    exact mg_pick [1, 2, 3, 4, 0] rfl h
  · replace h := h.2 hc
    exact h.elim
theorem cL_law_34 {b L : Nat} {xs : Nat → Int32} {k1 k2 k3 : Nat} {x4 : Int32} {bc bs : Nat} {g : mj_S} {M : mj_M} (h1 : is9 g k1) (h2 : is10 g k2) (h3 : k3 < g.1 ∧ g.2.1 k3 = (1, 2, 1)) (hb1 : 8 ≤ bc) (hb2 : 48 ≤ bs) (h : vp_in ((x4) + (1 : Int32)) L ∧ (vp_in ((x4) + (2 : Int32)) L ∧ (∃ (q1 : Int32 → mj_M → Prop), kL_row (k1) (xs (Int32.toNatClampNeg ((x4) + (1 : Int32)))) (xs (Int32.toNatClampNeg ((x4) + (2 : Int32)))) (k3) g (M) q1 ∧ ∀ (v1 : Int32) (M1 : mj_M), q1 v1 M1 → (vp_in ((x4) + (1 : Int32)) L ∧ (vp_in ((x4) + (2 : Int32)) L ∧ (∃ (q2 : Int32 → mj_M → Prop), kX10_row (k2) (xs (Int32.toNatClampNeg ((x4) + (1 : Int32)))) (xs (Int32.toNatClampNeg ((x4) + (2 : Int32)))) g (M1) q2 ∧ ∀ (v2 : Int32) (M2 : mj_M), q2 v2 M2 → (∃ (q3 : Int32 → mj_M → Prop), kX10_thrown (k2) g (M2) q3 ∧ ∀ (v3 : Int32) (M3 : mj_M), q3 v3 M3 → (((v3 : Int32) = (v1) → (¬ (v1 : Int32) = 0 → LL_23 b L xs k1 k2 k3 (x4 + 4) (bc - 8) (bs - 48) g (M3)) ∧ ((v1 : Int32) = 0 → ((lg_cmp ((M3).2.1 (k3) (Int32.toNatClampNeg (0))) (Int32.toInt64 (v2)) : Int32) = 0 → LL_23 b L xs k1 k2 k3 (x4 + 4) (bc - 8) (bs - 48) g (M3)) ∧ (¬ (lg_cmp ((M3).2.1 (k3) (Int32.toNatClampNeg (0))) (Int32.toInt64 (v2)) : Int32) = 0 → False))) ∧ (¬ (v3 : Int32) = (v1) → False))))))))) : mj_G (mj_mtL b L xs) room_1 (mj_FL b) false bc bs 2063 [(0, .ref (900001)), (1, .ref (k1)), (2, .ref (k2)), (3, .ref (k3)), (4, .int (x4))] [] g M := by
  refine mg_aload_n dL_law_2063 rfl 1 rfl ?_
  refine mg_aload_n dL_law_2064 rfl 0 rfl ?_
  refine mg_iload dL_law_2065 4 rfl ?_
  refine mg_iconst (v := 1) dL_law_2067 (by decide) ?_
  refine mg_iadd dL_law_2068 ?_
  refine mg_sld (b := b) (L := L) (xs := xs) rfl dL_law_2069 h.1 ?_
  replace h := h.2
  refine mg_aload_n dL_law_2070 rfl 0 rfl ?_
  refine mg_iload dL_law_2071 4 rfl ?_
  refine mg_iconst (v := 2) dL_law_2073 (by decide) ?_
  refine mg_iadd dL_law_2074 ?_
  refine mg_sld (b := b) (L := L) (xs := xs) rfl dL_law_2075 h.1 ?_
  replace h := h.2
  refine mg_aload_n dL_law_2076 rfl 3 rfl ?_
  obtain ⟨q1, hC, hk⟩ := h
  refine mw_H2 [.ref (k1), .int (xs (Int32.toNatClampNeg ((x4) + (1 : Int32)))), .int (xs (Int32.toNatClampNeg ((x4) + (2 : Int32)))), .ref (k3)] [] dL_law_2077 wd_1206 kiL_row ⟨Nat.le_of_ble_eq_true rfl, Nat.le_of_ble_eq_true rfl⟩ (Nat.le_of_ble_eq_true rfl) ⟨by omega, by omega⟩ hC (fun v1 M1 hq => ?_)
  replace h := hk v1 M1 hq
  refine mg_istore (ls' := [(5, .int (v1)), (0, .ref (900001)), (1, .ref (k1)), (2, .ref (k2)), (3, .ref (k3)), (4, .int (x4))]) dL_law_2080 (Nat.le_of_ble_eq_true rfl) rfl ?_
  refine mg_aload_n dL_law_2082 rfl 3 rfl ?_
  refine mg_aload_n dL_law_2083 rfl 1 rfl ?_
  refine mg_iload dL_law_2084 5 rfl ?_
  refine mg_iconst (v := 1) dL_law_2086 (by decide) ?_
  refine mg_iadd dL_law_2087 ?_
  refine mg_sld (b := b) (L := L) (xs := xs) rfl dL_law_2088 h.1 ?_
  replace h := h.2
  refine mg_aload_n dL_law_2089 rfl 1 rfl ?_
  refine mg_iload dL_law_2090 5 rfl ?_
  refine mg_iconst (v := 2) dL_law_2092 (by decide) ?_
  refine mg_iadd dL_law_2093 ?_
  refine mg_sld (b := b) (L := L) (xs := xs) rfl dL_law_2094 h.1 ?_
  replace h := h.2
  obtain ⟨q2, hC, hk⟩ := h
  refine ml_Vi [.int (xs (Int32.toNatClampNeg ((x4) + (1 : Int32)))), .int (xs (Int32.toNatClampNeg ((x4) + (2 : Int32))))] [] dL_law_2095 wd_1769 kiX10_row (Nat.le_of_ble_eq_true rfl) h2.1.1 h2.1.2 rfl ⟨Nat.le_of_ble_eq_true rfl, Nat.le_of_ble_eq_true rfl⟩ hC (fun v2 M2 hq => ?_)
  replace h := hk v2 M2 hq
  refine mg_istore (ls' := [(6, .int (v2)), (5, .int (v1)), (0, .ref (900001)), (1, .ref (k1)), (2, .ref (k2)), (3, .ref (k3)), (4, .int (x4))]) dL_law_2098 (Nat.le_of_ble_eq_true rfl) rfl ?_
  refine mg_aload_n dL_law_2100 rfl 4 rfl ?_
  obtain ⟨q3, hC, hk⟩ := h
  refine ml_Vi [] [] dL_law_2101 wd_1341 kiX10_thrown (Nat.le_of_ble_eq_true rfl) h2.1.1 h2.1.2 rfl ⟨Nat.le_of_ble_eq_true rfl, Nat.le_of_ble_eq_true rfl⟩ hC (fun v3 M3 hq => ?_)
  replace h := hk v3 M3 hq
  refine mg_iload dL_law_2104 1 rfl ?_
  refine mg_icmp_eq (tgt := 2111) dL_law_2106 (by decide) (fun hc => ?_) (fun hc => ?_)
  · replace h := h.1 hc
    refine mg_iload dL_law_2111 1 rfl ?_
    refine mg_if_ne (tgt := 2128) dL_law_2113 (by decide) (fun hc => ?_) (fun hc => ?_)
    · replace h := h.1 hc
      refine mg_goto (tgt := 2408) dL_law_2128 (by decide) ?_
      refine mg_iinc (v := x4 + 4) (ls' := [(4, .int (x4 + 4)), (6, .int (v2)), (5, .int (v1)), (0, .ref (900001)), (1, .ref (k1)), (2, .ref (k2)), (3, .ref (k3))]) dL_law_2408 6 rfl rfl (Nat.le_of_ble_eq_true rfl) rfl ?_
      refine mg_goto (tgt := 23) dL_law_2411 (by decide) ?_
      refine mg_bud (bc' := bc - 8) (bs' := bs - 48) (by omega) (by omega) ?_
      exact mg_pick [3, 4, 5, 6, 0] rfl h
    · replace h := h.2 hc
      refine mg_aload_n dL_law_2116 rfl 5 rfl ?_
      refine mg_iconst (v := 0) dL_law_2117 (by decide) ?_
      refine mg_lald dL_law_2118 h3.1 h3.2 (vp_in_nI (n := 0) (Nat.le_of_ble_eq_true rfl) (Nat.le_of_ble_eq_true rfl)) rfl ?_
      refine mg_iload dL_law_2119 0 rfl ?_
      refine mg_i2l dL_law_2121 ?_
      refine mg_lcmp dL_law_2122 ?_
      refine mg_if_eq (tgt := 2128) dL_law_2123 (by decide) (fun hc => ?_) (fun hc => ?_)
      · replace h := h.1 hc
        refine mg_goto (tgt := 2408) dL_law_2128 (by decide) ?_
        refine mg_iinc (v := x4 + 4) (ls' := [(4, .int (x4 + 4)), (6, .int (v2)), (5, .int (v1)), (0, .ref (900001)), (1, .ref (k1)), (2, .ref (k2)), (3, .ref (k3))]) dL_law_2408 6 rfl rfl (Nat.le_of_ble_eq_true rfl) rfl ?_
        refine mg_goto (tgt := 23) dL_law_2411 (by decide) ?_
        refine mg_bud (bc' := bc - 8) (bs' := bs - 48) (by omega) (by omega) ?_
        exact mg_pick [3, 4, 5, 6, 0] rfl h
      · replace h := h.2 hc
        exact h.elim
  · replace h := h.2 hc
    exact h.elim
theorem cL_law_35 {b L : Nat} {xs : Nat → Int32} {k1 k2 k3 : Nat} {x4 : Int32} {bc bs : Nat} {g : mj_S} {M : mj_M} (h1 : is9 g k1) (h2 : is10 g k2) (h3 : k3 < g.1 ∧ g.2.1 k3 = (1, 2, 1)) (hb1 : 8 ≤ bc) (hb2 : 48 ≤ bs) (h : vp_in ((x4) + (1 : Int32)) L ∧ (∃ (q1 : Int32 → mj_M → Prop), kL_extend (k1) (xs (Int32.toNatClampNeg ((x4) + (1 : Int32)))) (k3) g (M) q1 ∧ ∀ (v1 : Int32) (M1 : mj_M), q1 v1 M1 → (vp_in ((x4) + (1 : Int32)) L ∧ (∃ (q2 : Int32 → mj_M → Prop), kX10_extend (k2) (xs (Int32.toNatClampNeg ((x4) + (1 : Int32)))) g (M1) q2 ∧ ∀ (v2 : Int32) (M2 : mj_M), q2 v2 M2 → (∃ (q3 : Int32 → mj_M → Prop), kX10_thrown (k2) g (M2) q3 ∧ ∀ (v3 : Int32) (M3 : mj_M), q3 v3 M3 → (((v3 : Int32) = (v1) → (¬ (v1 : Int32) = 0 → LL_23 b L xs k1 k2 k3 (x4 + 4) (bc - 8) (bs - 48) g (M3)) ∧ ((v1 : Int32) = 0 → ((lg_cmp ((M3).2.1 (k3) (Int32.toNatClampNeg (0))) (Int32.toInt64 (v2)) : Int32) = 0 → LL_23 b L xs k1 k2 k3 (x4 + 4) (bc - 8) (bs - 48) g (M3)) ∧ (¬ (lg_cmp ((M3).2.1 (k3) (Int32.toNatClampNeg (0))) (Int32.toInt64 (v2)) : Int32) = 0 → False))) ∧ (¬ (v3 : Int32) = (v1) → False))))))) : mj_G (mj_mtL b L xs) room_1 (mj_FL b) false bc bs 2131 [(0, .ref (900001)), (1, .ref (k1)), (2, .ref (k2)), (3, .ref (k3)), (4, .int (x4))] [] g M := by
  refine mg_aload_n dL_law_2131 rfl 1 rfl ?_
  refine mg_aload_n dL_law_2132 rfl 0 rfl ?_
  refine mg_iload dL_law_2133 4 rfl ?_
  refine mg_iconst (v := 1) dL_law_2135 (by decide) ?_
  refine mg_iadd dL_law_2136 ?_
  refine mg_sld (b := b) (L := L) (xs := xs) rfl dL_law_2137 h.1 ?_
  replace h := h.2
  refine mg_aload_n dL_law_2138 rfl 3 rfl ?_
  obtain ⟨q1, hC, hk⟩ := h
  refine mw_H2 [.ref (k1), .int (xs (Int32.toNatClampNeg ((x4) + (1 : Int32)))), .ref (k3)] [] dL_law_2139 wd_1215 kiL_extend ⟨Nat.le_of_ble_eq_true rfl, Nat.le_of_ble_eq_true rfl⟩ (Nat.le_of_ble_eq_true rfl) ⟨by omega, by omega⟩ hC (fun v1 M1 hq => ?_)
  replace h := hk v1 M1 hq
  refine mg_istore (ls' := [(5, .int (v1)), (0, .ref (900001)), (1, .ref (k1)), (2, .ref (k2)), (3, .ref (k3)), (4, .int (x4))]) dL_law_2142 (Nat.le_of_ble_eq_true rfl) rfl ?_
  refine mg_aload_n dL_law_2144 rfl 3 rfl ?_
  refine mg_aload_n dL_law_2145 rfl 1 rfl ?_
  refine mg_iload dL_law_2146 5 rfl ?_
  refine mg_iconst (v := 1) dL_law_2148 (by decide) ?_
  refine mg_iadd dL_law_2149 ?_
  refine mg_sld (b := b) (L := L) (xs := xs) rfl dL_law_2150 h.1 ?_
  replace h := h.2
  obtain ⟨q2, hC, hk⟩ := h
  refine ml_Vi [.int (xs (Int32.toNatClampNeg ((x4) + (1 : Int32))))] [] dL_law_2151 wd_1777 kiX10_extend (Nat.le_of_ble_eq_true rfl) h2.1.1 h2.1.2 rfl ⟨Nat.le_of_ble_eq_true rfl, Nat.le_of_ble_eq_true rfl⟩ hC (fun v2 M2 hq => ?_)
  replace h := hk v2 M2 hq
  refine mg_istore (ls' := [(6, .int (v2)), (5, .int (v1)), (0, .ref (900001)), (1, .ref (k1)), (2, .ref (k2)), (3, .ref (k3)), (4, .int (x4))]) dL_law_2154 (Nat.le_of_ble_eq_true rfl) rfl ?_
  refine mg_aload_n dL_law_2156 rfl 4 rfl ?_
  obtain ⟨q3, hC, hk⟩ := h
  refine ml_Vi [] [] dL_law_2157 wd_1341 kiX10_thrown (Nat.le_of_ble_eq_true rfl) h2.1.1 h2.1.2 rfl ⟨Nat.le_of_ble_eq_true rfl, Nat.le_of_ble_eq_true rfl⟩ hC (fun v3 M3 hq => ?_)
  replace h := hk v3 M3 hq
  refine mg_iload dL_law_2160 1 rfl ?_
  refine mg_icmp_eq (tgt := 2167) dL_law_2162 (by decide) (fun hc => ?_) (fun hc => ?_)
  · replace h := h.1 hc
    refine mg_iload dL_law_2167 1 rfl ?_
    refine mg_if_ne (tgt := 2184) dL_law_2169 (by decide) (fun hc => ?_) (fun hc => ?_)
    · replace h := h.1 hc
      refine mg_goto (tgt := 2408) dL_law_2184 (by decide) ?_
      refine mg_iinc (v := x4 + 4) (ls' := [(4, .int (x4 + 4)), (6, .int (v2)), (5, .int (v1)), (0, .ref (900001)), (1, .ref (k1)), (2, .ref (k2)), (3, .ref (k3))]) dL_law_2408 6 rfl rfl (Nat.le_of_ble_eq_true rfl) rfl ?_
      refine mg_goto (tgt := 23) dL_law_2411 (by decide) ?_
      refine mg_bud (bc' := bc - 8) (bs' := bs - 48) (by omega) (by omega) ?_
      exact mg_pick [3, 4, 5, 6, 0] rfl h
    · replace h := h.2 hc
      refine mg_aload_n dL_law_2172 rfl 5 rfl ?_
      refine mg_iconst (v := 0) dL_law_2173 (by decide) ?_
      refine mg_lald dL_law_2174 h3.1 h3.2 (vp_in_nI (n := 0) (Nat.le_of_ble_eq_true rfl) (Nat.le_of_ble_eq_true rfl)) rfl ?_
      refine mg_iload dL_law_2175 0 rfl ?_
      refine mg_i2l dL_law_2177 ?_
      refine mg_lcmp dL_law_2178 ?_
      refine mg_if_eq (tgt := 2184) dL_law_2179 (by decide) (fun hc => ?_) (fun hc => ?_)
      · replace h := h.1 hc
        refine mg_goto (tgt := 2408) dL_law_2184 (by decide) ?_
        refine mg_iinc (v := x4 + 4) (ls' := [(4, .int (x4 + 4)), (6, .int (v2)), (5, .int (v1)), (0, .ref (900001)), (1, .ref (k1)), (2, .ref (k2)), (3, .ref (k3))]) dL_law_2408 6 rfl rfl (Nat.le_of_ble_eq_true rfl) rfl ?_
        refine mg_goto (tgt := 23) dL_law_2411 (by decide) ?_
        refine mg_bud (bc' := bc - 8) (bs' := bs - 48) (by omega) (by omega) ?_
        exact mg_pick [3, 4, 5, 6, 0] rfl h
      · replace h := h.2 hc
        exact h.elim
  · replace h := h.2 hc
    exact h.elim
theorem cL_law_36 {b L : Nat} {xs : Nat → Int32} {k1 k2 k3 : Nat} {x4 : Int32} {bc bs : Nat} {g : mj_S} {M : mj_M} (h1 : is9 g k1) (h2 : is10 g k2) (h3 : k3 < g.1 ∧ g.2.1 k3 = (1, 2, 1)) (hb1 : 8 ≤ bc) (hb2 : 48 ≤ bs) (h : ∃ (q1 : Int32 → mj_M → Prop), kX9_solve (k1) g (M) q1 ∧ ∀ (v1 : Int32) (M1 : mj_M), q1 v1 M1 → (∃ (q2 : Int32 → mj_M → Prop), kX10_solve (k2) g (M1) q2 ∧ ∀ (v2 : Int32) (M2 : mj_M), q2 v2 M2 → (((v1 : Int32) = (v2) → LL_23 b L xs k1 k2 k3 (x4 + 4) (bc - 8) (bs - 48) g (M2)) ∧ (¬ (v1 : Int32) = (v2) → False)))) : mj_G (mj_mtL b L xs) room_1 (mj_FL b) false bc bs 2187 [(0, .ref (900001)), (1, .ref (k1)), (2, .ref (k2)), (3, .ref (k3)), (4, .int (x4))] [] g M := by
  refine mg_aload_n dL_law_2187 rfl 1 rfl ?_
  obtain ⟨q1, hC, hk⟩ := h
  refine ml_Vi [] [] dL_law_2188 wd_310 kiX9_solve (Nat.le_of_ble_eq_true rfl) h1.1.1 h1.1.2 rfl ⟨Nat.le_of_ble_eq_true rfl, Nat.le_of_ble_eq_true rfl⟩ hC (fun v1 M1 hq => ?_)
  replace h := hk v1 M1 hq
  refine mg_aload_n dL_law_2191 rfl 2 rfl ?_
  obtain ⟨q2, hC, hk⟩ := h
  refine ml_Vi [] [.int (v1)] dL_law_2192 wd_1800 kiX10_solve (Nat.le_of_ble_eq_true rfl) h2.1.1 h2.1.2 rfl ⟨Nat.le_of_ble_eq_true rfl, Nat.le_of_ble_eq_true rfl⟩ hC (fun v2 M2 hq => ?_)
  replace h := hk v2 M2 hq
  refine mg_icmp_eq (tgt := 2408) dL_law_2195 (by decide) (fun hc => ?_) (fun hc => ?_)
  · replace h := h.1 hc
    refine mg_iinc (v := x4 + 4) (ls' := [(4, .int (x4 + 4)), (0, .ref (900001)), (1, .ref (k1)), (2, .ref (k2)), (3, .ref (k3))]) dL_law_2408 4 rfl rfl (Nat.le_of_ble_eq_true rfl) rfl ?_
    refine mg_goto (tgt := 23) dL_law_2411 (by decide) ?_
    refine mg_bud (bc' := bc - 8) (bs' := bs - 48) (by omega) (by omega) ?_
    exact mg_pick [1, 2, 3, 4, 0] rfl h
  · replace h := h.2 hc
    exact h.elim
theorem cL_law_37 {b L : Nat} {xs : Nat → Int32} {k1 k2 k3 : Nat} {x4 : Int32} {bc bs : Nat} {g : mj_S} {M : mj_M} (h1 : is9 g k1) (h2 : is10 g k2) (h3 : k3 < g.1 ∧ g.2.1 k3 = (1, 2, 1)) (hb1 : 8 ≤ bc) (hb2 : 48 ≤ bs) (h : vp_in ((x4) + (1 : Int32)) L ∧ (∃ (q1 : Int32 → mj_M → Prop), kL_unsatisfied (k1) (xs (Int32.toNatClampNeg ((x4) + (1 : Int32)))) (k3) g (M) q1 ∧ ∀ (v1 : Int32) (M1 : mj_M), q1 v1 M1 → (vp_in ((x4) + (1 : Int32)) L ∧ (∃ (q2 : Int32 → mj_M → Prop), kX10_unsatisfied (k2) (xs (Int32.toNatClampNeg ((x4) + (1 : Int32)))) g (M1) q2 ∧ ∀ (v2 : Int32) (M2 : mj_M), q2 v2 M2 → (∃ (q3 : Int32 → mj_M → Prop), kX10_thrown (k2) g (M2) q3 ∧ ∀ (v3 : Int32) (M3 : mj_M), q3 v3 M3 → (((v3 : Int32) = (v1) → (¬ (v1 : Int32) = 0 → LL_23 b L xs k1 k2 k3 (x4 + 4) (bc - 8) (bs - 48) g (M3)) ∧ ((v1 : Int32) = 0 → ((lg_cmp ((M3).2.1 (k3) (Int32.toNatClampNeg (0))) (Int32.toInt64 (v2)) : Int32) = 0 → LL_23 b L xs k1 k2 k3 (x4 + 4) (bc - 8) (bs - 48) g (M3)) ∧ (¬ (lg_cmp ((M3).2.1 (k3) (Int32.toNatClampNeg (0))) (Int32.toInt64 (v2)) : Int32) = 0 → False))) ∧ (¬ (v3 : Int32) = (v1) → False))))))) : mj_G (mj_mtL b L xs) room_1 (mj_FL b) false bc bs 2200 [(0, .ref (900001)), (1, .ref (k1)), (2, .ref (k2)), (3, .ref (k3)), (4, .int (x4))] [] g M := by
  refine mg_aload_n dL_law_2200 rfl 1 rfl ?_
  refine mg_aload_n dL_law_2201 rfl 0 rfl ?_
  refine mg_iload dL_law_2202 4 rfl ?_
  refine mg_iconst (v := 1) dL_law_2204 (by decide) ?_
  refine mg_iadd dL_law_2205 ?_
  refine mg_sld (b := b) (L := L) (xs := xs) rfl dL_law_2206 h.1 ?_
  replace h := h.2
  refine mg_aload_n dL_law_2207 rfl 3 rfl ?_
  obtain ⟨q1, hC, hk⟩ := h
  refine mw_H2 [.ref (k1), .int (xs (Int32.toNatClampNeg ((x4) + (1 : Int32)))), .ref (k3)] [] dL_law_2208 wd_1227 kiL_unsatisfied ⟨Nat.le_of_ble_eq_true rfl, Nat.le_of_ble_eq_true rfl⟩ (Nat.le_of_ble_eq_true rfl) ⟨by omega, by omega⟩ hC (fun v1 M1 hq => ?_)
  replace h := hk v1 M1 hq
  refine mg_istore (ls' := [(5, .int (v1)), (0, .ref (900001)), (1, .ref (k1)), (2, .ref (k2)), (3, .ref (k3)), (4, .int (x4))]) dL_law_2211 (Nat.le_of_ble_eq_true rfl) rfl ?_
  refine mg_aload_n dL_law_2213 rfl 3 rfl ?_
  refine mg_aload_n dL_law_2214 rfl 1 rfl ?_
  refine mg_iload dL_law_2215 5 rfl ?_
  refine mg_iconst (v := 1) dL_law_2217 (by decide) ?_
  refine mg_iadd dL_law_2218 ?_
  refine mg_sld (b := b) (L := L) (xs := xs) rfl dL_law_2219 h.1 ?_
  replace h := h.2
  obtain ⟨q2, hC, hk⟩ := h
  refine ml_Vi [.int (xs (Int32.toNatClampNeg ((x4) + (1 : Int32))))] [] dL_law_2220 wd_1804 kiX10_unsatisfied (Nat.le_of_ble_eq_true rfl) h2.1.1 h2.1.2 rfl ⟨Nat.le_of_ble_eq_true rfl, Nat.le_of_ble_eq_true rfl⟩ hC (fun v2 M2 hq => ?_)
  replace h := hk v2 M2 hq
  refine mg_istore (ls' := [(6, .int (v2)), (5, .int (v1)), (0, .ref (900001)), (1, .ref (k1)), (2, .ref (k2)), (3, .ref (k3)), (4, .int (x4))]) dL_law_2223 (Nat.le_of_ble_eq_true rfl) rfl ?_
  refine mg_aload_n dL_law_2225 rfl 4 rfl ?_
  obtain ⟨q3, hC, hk⟩ := h
  refine ml_Vi [] [] dL_law_2226 wd_1341 kiX10_thrown (Nat.le_of_ble_eq_true rfl) h2.1.1 h2.1.2 rfl ⟨Nat.le_of_ble_eq_true rfl, Nat.le_of_ble_eq_true rfl⟩ hC (fun v3 M3 hq => ?_)
  replace h := hk v3 M3 hq
  refine mg_iload dL_law_2229 1 rfl ?_
  refine mg_icmp_eq (tgt := 2236) dL_law_2231 (by decide) (fun hc => ?_) (fun hc => ?_)
  · replace h := h.1 hc
    refine mg_iload dL_law_2236 1 rfl ?_
    refine mg_if_ne (tgt := 2253) dL_law_2238 (by decide) (fun hc => ?_) (fun hc => ?_)
    · replace h := h.1 hc
      refine mg_goto (tgt := 2408) dL_law_2253 (by decide) ?_
      refine mg_iinc (v := x4 + 4) (ls' := [(4, .int (x4 + 4)), (6, .int (v2)), (5, .int (v1)), (0, .ref (900001)), (1, .ref (k1)), (2, .ref (k2)), (3, .ref (k3))]) dL_law_2408 6 rfl rfl (Nat.le_of_ble_eq_true rfl) rfl ?_
      refine mg_goto (tgt := 23) dL_law_2411 (by decide) ?_
      refine mg_bud (bc' := bc - 8) (bs' := bs - 48) (by omega) (by omega) ?_
      exact mg_pick [3, 4, 5, 6, 0] rfl h
    · replace h := h.2 hc
      refine mg_aload_n dL_law_2241 rfl 5 rfl ?_
      refine mg_iconst (v := 0) dL_law_2242 (by decide) ?_
      refine mg_lald dL_law_2243 h3.1 h3.2 (vp_in_nI (n := 0) (Nat.le_of_ble_eq_true rfl) (Nat.le_of_ble_eq_true rfl)) rfl ?_
      refine mg_iload dL_law_2244 0 rfl ?_
      refine mg_i2l dL_law_2246 ?_
      refine mg_lcmp dL_law_2247 ?_
      refine mg_if_eq (tgt := 2253) dL_law_2248 (by decide) (fun hc => ?_) (fun hc => ?_)
      · replace h := h.1 hc
        refine mg_goto (tgt := 2408) dL_law_2253 (by decide) ?_
        refine mg_iinc (v := x4 + 4) (ls' := [(4, .int (x4 + 4)), (6, .int (v2)), (5, .int (v1)), (0, .ref (900001)), (1, .ref (k1)), (2, .ref (k2)), (3, .ref (k3))]) dL_law_2408 6 rfl rfl (Nat.le_of_ble_eq_true rfl) rfl ?_
        refine mg_goto (tgt := 23) dL_law_2411 (by decide) ?_
        refine mg_bud (bc' := bc - 8) (bs' := bs - 48) (by omega) (by omega) ?_
        exact mg_pick [3, 4, 5, 6, 0] rfl h
      · replace h := h.2 hc
        exact h.elim
  · replace h := h.2 hc
    exact h.elim
theorem cL_law_38 {b L : Nat} {xs : Nat → Int32} {k1 k2 k3 : Nat} {x4 : Int32} {bc bs : Nat} {g : mj_S} {M : mj_M} (h1 : is9 g k1) (h2 : is10 g k2) (h3 : k3 < g.1 ∧ g.2.1 k3 = (1, 2, 1)) (hb1 : 8 ≤ bc) (hb2 : 48 ≤ bs) (h : vp_in ((x4) + (1 : Int32)) L ∧ (((xs (Int32.toNatClampNeg ((x4) + (1 : Int32))) : Int32) = 0 → ∃ (q1 : Int32 → mj_M → Prop), kX9_models (k1) (0) g (M) q1 ∧ ∀ (v1 : Int32) (M1 : mj_M), q1 v1 M1 → (vp_in ((x4) + (1 : Int32)) L ∧ (((xs (Int32.toNatClampNeg ((x4) + (1 : Int32))) : Int32) = 0 → ∃ (q2 : Int32 → mj_M → Prop), kX10_models (k2) (0) g (M1) q2 ∧ ∀ (v2 : Int32) (M2 : mj_M), q2 v2 M2 → (((v1 : Int32) = (v2) → LL_23 b L xs k1 k2 k3 (x4 + 4) (bc - 8) (bs - 48) g (M2)) ∧ (¬ (v1 : Int32) = (v2) → False))) ∧ (¬ (xs (Int32.toNatClampNeg ((x4) + (1 : Int32))) : Int32) = 0 → ∃ (q3 : Int32 → mj_M → Prop), kX10_models (k2) (1) g (M1) q3 ∧ ∀ (v3 : Int32) (M3 : mj_M), q3 v3 M3 → (((v1 : Int32) = (v3) → LL_23 b L xs k1 k2 k3 (x4 + 4) (bc - 8) (bs - 48) g (M3)) ∧ (¬ (v1 : Int32) = (v3) → False)))))) ∧ (¬ (xs (Int32.toNatClampNeg ((x4) + (1 : Int32))) : Int32) = 0 → ∃ (q4 : Int32 → mj_M → Prop), kX9_models (k1) (1) g (M) q4 ∧ ∀ (v4 : Int32) (M4 : mj_M), q4 v4 M4 → (vp_in ((x4) + (1 : Int32)) L ∧ (((xs (Int32.toNatClampNeg ((x4) + (1 : Int32))) : Int32) = 0 → ∃ (q5 : Int32 → mj_M → Prop), kX10_models (k2) (0) g (M4) q5 ∧ ∀ (v5 : Int32) (M5 : mj_M), q5 v5 M5 → (((v4 : Int32) = (v5) → LL_23 b L xs k1 k2 k3 (x4 + 4) (bc - 8) (bs - 48) g (M5)) ∧ (¬ (v4 : Int32) = (v5) → False))) ∧ (¬ (xs (Int32.toNatClampNeg ((x4) + (1 : Int32))) : Int32) = 0 → ∃ (q6 : Int32 → mj_M → Prop), kX10_models (k2) (1) g (M4) q6 ∧ ∀ (v6 : Int32) (M6 : mj_M), q6 v6 M6 → (((v4 : Int32) = (v6) → LL_23 b L xs k1 k2 k3 (x4 + 4) (bc - 8) (bs - 48) g (M6)) ∧ (¬ (v4 : Int32) = (v6) → False)))))))) : mj_G (mj_mtL b L xs) room_1 (mj_FL b) false bc bs 2256 [(0, .ref (900001)), (1, .ref (k1)), (2, .ref (k2)), (3, .ref (k3)), (4, .int (x4))] [] g M := by
  refine mg_aload_n dL_law_2256 rfl 1 rfl ?_
  refine mg_aload_n dL_law_2257 rfl 0 rfl ?_
  refine mg_iload dL_law_2258 4 rfl ?_
  refine mg_iconst (v := 1) dL_law_2260 (by decide) ?_
  refine mg_iadd dL_law_2261 ?_
  refine mg_sld (b := b) (L := L) (xs := xs) rfl dL_law_2262 h.1 ?_
  replace h := h.2
  refine mg_if_eq (tgt := 2270) dL_law_2263 (by decide) (fun hc => ?_) (fun hc => ?_)
  · replace h := h.1 hc
    refine mg_iconst (v := 0) dL_law_2270 (by decide) ?_
    obtain ⟨q1, hC, hk⟩ := h
    refine ml_Vi [.int (0)] [] dL_law_2271 wd_360 kiX9_models (Nat.le_of_ble_eq_true rfl) h1.1.1 h1.1.2 rfl ⟨Nat.le_of_ble_eq_true rfl, Nat.le_of_ble_eq_true rfl⟩ hC (fun v1 M1 hq => ?_)
    replace h := hk v1 M1 hq
    refine mg_aload_n dL_law_2274 rfl 2 rfl ?_
    refine mg_aload_n dL_law_2275 rfl 0 rfl ?_
    refine mg_iload dL_law_2276 4 rfl ?_
    refine mg_iconst (v := 1) dL_law_2278 (by decide) ?_
    refine mg_iadd dL_law_2279 ?_
    refine mg_sld (b := b) (L := L) (xs := xs) rfl dL_law_2280 h.1 ?_
    replace h := h.2
    refine mg_if_eq (tgt := 2288) dL_law_2281 (by decide) (fun hc => ?_) (fun hc => ?_)
    · replace h := h.1 hc
      refine mg_iconst (v := 0) dL_law_2288 (by decide) ?_
      obtain ⟨q2, hC, hk⟩ := h
      refine ml_Vi [.int (0)] [.int (v1)] dL_law_2289 wd_1812 kiX10_models (Nat.le_of_ble_eq_true rfl) h2.1.1 h2.1.2 rfl ⟨Nat.le_of_ble_eq_true rfl, Nat.le_of_ble_eq_true rfl⟩ hC (fun v2 M2 hq => ?_)
      replace h := hk v2 M2 hq
      refine mg_icmp_eq (tgt := 2408) dL_law_2292 (by decide) (fun hc => ?_) (fun hc => ?_)
      · replace h := h.1 hc
        refine mg_iinc (v := x4 + 4) (ls' := [(4, .int (x4 + 4)), (0, .ref (900001)), (1, .ref (k1)), (2, .ref (k2)), (3, .ref (k3))]) dL_law_2408 4 rfl rfl (Nat.le_of_ble_eq_true rfl) rfl ?_
        refine mg_goto (tgt := 23) dL_law_2411 (by decide) ?_
        refine mg_bud (bc' := bc - 8) (bs' := bs - 48) (by omega) (by omega) ?_
        exact mg_pick [1, 2, 3, 4, 0] rfl h
      · replace h := h.2 hc
        exact h.elim
    · replace h := h.2 hc
      refine mg_iconst (v := 1) dL_law_2284 (by decide) ?_
      refine mg_goto (tgt := 2289) dL_law_2285 (by decide) ?_
      obtain ⟨q3, hC, hk⟩ := h
      refine ml_Vi [.int (1)] [.int (v1)] dL_law_2289 wd_1812 kiX10_models (Nat.le_of_ble_eq_true rfl) h2.1.1 h2.1.2 rfl ⟨Nat.le_of_ble_eq_true rfl, Nat.le_of_ble_eq_true rfl⟩ hC (fun v3 M3 hq => ?_)
      replace h := hk v3 M3 hq
      refine mg_icmp_eq (tgt := 2408) dL_law_2292 (by decide) (fun hc => ?_) (fun hc => ?_)
      · replace h := h.1 hc
        refine mg_iinc (v := x4 + 4) (ls' := [(4, .int (x4 + 4)), (0, .ref (900001)), (1, .ref (k1)), (2, .ref (k2)), (3, .ref (k3))]) dL_law_2408 4 rfl rfl (Nat.le_of_ble_eq_true rfl) rfl ?_
        refine mg_goto (tgt := 23) dL_law_2411 (by decide) ?_
        refine mg_bud (bc' := bc - 8) (bs' := bs - 48) (by omega) (by omega) ?_
        exact mg_pick [1, 2, 3, 4, 0] rfl h
      · replace h := h.2 hc
        exact h.elim
  · replace h := h.2 hc
    refine mg_iconst (v := 1) dL_law_2266 (by decide) ?_
    refine mg_goto (tgt := 2271) dL_law_2267 (by decide) ?_
    obtain ⟨q4, hC, hk⟩ := h
    refine ml_Vi [.int (1)] [] dL_law_2271 wd_360 kiX9_models (Nat.le_of_ble_eq_true rfl) h1.1.1 h1.1.2 rfl ⟨Nat.le_of_ble_eq_true rfl, Nat.le_of_ble_eq_true rfl⟩ hC (fun v4 M4 hq => ?_)
    replace h := hk v4 M4 hq
    refine mg_aload_n dL_law_2274 rfl 2 rfl ?_
    refine mg_aload_n dL_law_2275 rfl 0 rfl ?_
    refine mg_iload dL_law_2276 4 rfl ?_
    refine mg_iconst (v := 1) dL_law_2278 (by decide) ?_
    refine mg_iadd dL_law_2279 ?_
    refine mg_sld (b := b) (L := L) (xs := xs) rfl dL_law_2280 h.1 ?_
    replace h := h.2
    refine mg_if_eq (tgt := 2288) dL_law_2281 (by decide) (fun hc => ?_) (fun hc => ?_)
    · replace h := h.1 hc
      refine mg_iconst (v := 0) dL_law_2288 (by decide) ?_
      obtain ⟨q5, hC, hk⟩ := h
      refine ml_Vi [.int (0)] [.int (v4)] dL_law_2289 wd_1812 kiX10_models (Nat.le_of_ble_eq_true rfl) h2.1.1 h2.1.2 rfl ⟨Nat.le_of_ble_eq_true rfl, Nat.le_of_ble_eq_true rfl⟩ hC (fun v5 M5 hq => ?_)
      replace h := hk v5 M5 hq
      refine mg_icmp_eq (tgt := 2408) dL_law_2292 (by decide) (fun hc => ?_) (fun hc => ?_)
      · replace h := h.1 hc
        refine mg_iinc (v := x4 + 4) (ls' := [(4, .int (x4 + 4)), (0, .ref (900001)), (1, .ref (k1)), (2, .ref (k2)), (3, .ref (k3))]) dL_law_2408 4 rfl rfl (Nat.le_of_ble_eq_true rfl) rfl ?_
        refine mg_goto (tgt := 23) dL_law_2411 (by decide) ?_
        refine mg_bud (bc' := bc - 8) (bs' := bs - 48) (by omega) (by omega) ?_
        exact mg_pick [1, 2, 3, 4, 0] rfl h
      · replace h := h.2 hc
        exact h.elim
    · replace h := h.2 hc
      refine mg_iconst (v := 1) dL_law_2284 (by decide) ?_
      refine mg_goto (tgt := 2289) dL_law_2285 (by decide) ?_
      obtain ⟨q6, hC, hk⟩ := h
      refine ml_Vi [.int (1)] [.int (v4)] dL_law_2289 wd_1812 kiX10_models (Nat.le_of_ble_eq_true rfl) h2.1.1 h2.1.2 rfl ⟨Nat.le_of_ble_eq_true rfl, Nat.le_of_ble_eq_true rfl⟩ hC (fun v6 M6 hq => ?_)
      replace h := hk v6 M6 hq
      refine mg_icmp_eq (tgt := 2408) dL_law_2292 (by decide) (fun hc => ?_) (fun hc => ?_)
      · replace h := h.1 hc
        refine mg_iinc (v := x4 + 4) (ls' := [(4, .int (x4 + 4)), (0, .ref (900001)), (1, .ref (k1)), (2, .ref (k2)), (3, .ref (k3))]) dL_law_2408 4 rfl rfl (Nat.le_of_ble_eq_true rfl) rfl ?_
        refine mg_goto (tgt := 23) dL_law_2411 (by decide) ?_
        refine mg_bud (bc' := bc - 8) (bs' := bs - 48) (by omega) (by omega) ?_
        exact mg_pick [1, 2, 3, 4, 0] rfl h
      · replace h := h.2 hc
        exact h.elim
theorem cL_law_39 {b L : Nat} {xs : Nat → Int32} {k1 k2 k3 : Nat} {x4 : Int32} {bc bs : Nat} {g : mj_S} {M : mj_M} (h1 : is9 g k1) (h2 : is10 g k2) (h3 : k3 < g.1 ∧ g.2.1 k3 = (1, 2, 1)) (hb1 : 8 ≤ bc) (hb2 : 48 ≤ bs) (h : vp_in ((x4) + (1 : Int32)) L ∧ (vp_in ((x4) + (2 : Int32)) L ∧ (((xs (Int32.toNatClampNeg ((x4) + (2 : Int32))) : Int32) = 0 → ∃ (q1 : Int32 → mj_M → Prop), kL_predict (k1) (xs (Int32.toNatClampNeg ((x4) + (1 : Int32)))) (0) (k3) g (M) q1 ∧ ∀ (v1 : Int32) (M1 : mj_M), q1 v1 M1 → (vp_in ((x4) + (1 : Int32)) L ∧ (vp_in ((x4) + (2 : Int32)) L ∧ (((xs (Int32.toNatClampNeg ((x4) + (2 : Int32))) : Int32) = 0 → ∃ (q2 : Int32 → mj_M → Prop), kX10_predict (k2) (xs (Int32.toNatClampNeg ((x4) + (1 : Int32)))) (0) g (M1) q2 ∧ ∀ (v2 : Int32) (M2 : mj_M), q2 v2 M2 → (∃ (q3 : Int32 → mj_M → Prop), kX10_thrown (k2) g (M2) q3 ∧ ∀ (v3 : Int32) (M3 : mj_M), q3 v3 M3 → (((v3 : Int32) = (v1) → (¬ (v1 : Int32) = 0 → LL_23 b L xs k1 k2 k3 (x4 + 4) (bc - 8) (bs - 48) g (M3)) ∧ ((v1 : Int32) = 0 → ((lg_cmp ((M3).2.1 (k3) (Int32.toNatClampNeg (0))) (Int32.toInt64 (v2)) : Int32) = 0 → LL_23 b L xs k1 k2 k3 (x4 + 4) (bc - 8) (bs - 48) g (M3)) ∧ (¬ (lg_cmp ((M3).2.1 (k3) (Int32.toNatClampNeg (0))) (Int32.toInt64 (v2)) : Int32) = 0 → False))) ∧ (¬ (v3 : Int32) = (v1) → False)))) ∧ (¬ (xs (Int32.toNatClampNeg ((x4) + (2 : Int32))) : Int32) = 0 → ∃ (q4 : Int32 → mj_M → Prop), kX10_predict (k2) (xs (Int32.toNatClampNeg ((x4) + (1 : Int32)))) (1) g (M1) q4 ∧ ∀ (v4 : Int32) (M4 : mj_M), q4 v4 M4 → (∃ (q5 : Int32 → mj_M → Prop), kX10_thrown (k2) g (M4) q5 ∧ ∀ (v5 : Int32) (M5 : mj_M), q5 v5 M5 → (((v5 : Int32) = (v1) → (¬ (v1 : Int32) = 0 → LL_23 b L xs k1 k2 k3 (x4 + 4) (bc - 8) (bs - 48) g (M5)) ∧ ((v1 : Int32) = 0 → ((lg_cmp ((M5).2.1 (k3) (Int32.toNatClampNeg (0))) (Int32.toInt64 (v4)) : Int32) = 0 → LL_23 b L xs k1 k2 k3 (x4 + 4) (bc - 8) (bs - 48) g (M5)) ∧ (¬ (lg_cmp ((M5).2.1 (k3) (Int32.toNatClampNeg (0))) (Int32.toInt64 (v4)) : Int32) = 0 → False))) ∧ (¬ (v5 : Int32) = (v1) → False)))))))) ∧ (¬ (xs (Int32.toNatClampNeg ((x4) + (2 : Int32))) : Int32) = 0 → ∃ (q6 : Int32 → mj_M → Prop), kL_predict (k1) (xs (Int32.toNatClampNeg ((x4) + (1 : Int32)))) (1) (k3) g (M) q6 ∧ ∀ (v6 : Int32) (M6 : mj_M), q6 v6 M6 → (vp_in ((x4) + (1 : Int32)) L ∧ (vp_in ((x4) + (2 : Int32)) L ∧ (((xs (Int32.toNatClampNeg ((x4) + (2 : Int32))) : Int32) = 0 → ∃ (q7 : Int32 → mj_M → Prop), kX10_predict (k2) (xs (Int32.toNatClampNeg ((x4) + (1 : Int32)))) (0) g (M6) q7 ∧ ∀ (v7 : Int32) (M7 : mj_M), q7 v7 M7 → (∃ (q8 : Int32 → mj_M → Prop), kX10_thrown (k2) g (M7) q8 ∧ ∀ (v8 : Int32) (M8 : mj_M), q8 v8 M8 → (((v8 : Int32) = (v6) → (¬ (v6 : Int32) = 0 → LL_23 b L xs k1 k2 k3 (x4 + 4) (bc - 8) (bs - 48) g (M8)) ∧ ((v6 : Int32) = 0 → ((lg_cmp ((M8).2.1 (k3) (Int32.toNatClampNeg (0))) (Int32.toInt64 (v7)) : Int32) = 0 → LL_23 b L xs k1 k2 k3 (x4 + 4) (bc - 8) (bs - 48) g (M8)) ∧ (¬ (lg_cmp ((M8).2.1 (k3) (Int32.toNatClampNeg (0))) (Int32.toInt64 (v7)) : Int32) = 0 → False))) ∧ (¬ (v8 : Int32) = (v6) → False)))) ∧ (¬ (xs (Int32.toNatClampNeg ((x4) + (2 : Int32))) : Int32) = 0 → ∃ (q9 : Int32 → mj_M → Prop), kX10_predict (k2) (xs (Int32.toNatClampNeg ((x4) + (1 : Int32)))) (1) g (M6) q9 ∧ ∀ (v9 : Int32) (M9 : mj_M), q9 v9 M9 → (∃ (q10 : Int32 → mj_M → Prop), kX10_thrown (k2) g (M9) q10 ∧ ∀ (v10 : Int32) (M10 : mj_M), q10 v10 M10 → (((v10 : Int32) = (v6) → (¬ (v6 : Int32) = 0 → LL_23 b L xs k1 k2 k3 (x4 + 4) (bc - 8) (bs - 48) g (M10)) ∧ ((v6 : Int32) = 0 → ((lg_cmp ((M10).2.1 (k3) (Int32.toNatClampNeg (0))) (Int32.toInt64 (v9)) : Int32) = 0 → LL_23 b L xs k1 k2 k3 (x4 + 4) (bc - 8) (bs - 48) g (M10)) ∧ (¬ (lg_cmp ((M10).2.1 (k3) (Int32.toNatClampNeg (0))) (Int32.toInt64 (v9)) : Int32) = 0 → False))) ∧ (¬ (v10 : Int32) = (v6) → False))))))))))) : mj_G (mj_mtL b L xs) room_1 (mj_FL b) false bc bs 2297 [(0, .ref (900001)), (1, .ref (k1)), (2, .ref (k2)), (3, .ref (k3)), (4, .int (x4))] [] g M := by
  refine mg_aload_n dL_law_2297 rfl 1 rfl ?_
  refine mg_aload_n dL_law_2298 rfl 0 rfl ?_
  refine mg_iload dL_law_2299 4 rfl ?_
  refine mg_iconst (v := 1) dL_law_2301 (by decide) ?_
  refine mg_iadd dL_law_2302 ?_
  refine mg_sld (b := b) (L := L) (xs := xs) rfl dL_law_2303 h.1 ?_
  replace h := h.2
  refine mg_aload_n dL_law_2304 rfl 0 rfl ?_
  refine mg_iload dL_law_2305 4 rfl ?_
  refine mg_iconst (v := 2) dL_law_2307 (by decide) ?_
  refine mg_iadd dL_law_2308 ?_
  refine mg_sld (b := b) (L := L) (xs := xs) rfl dL_law_2309 h.1 ?_
  replace h := h.2
  refine mg_if_eq (tgt := 2317) dL_law_2310 (by decide) (fun hc => ?_) (fun hc => ?_)
  · replace h := h.1 hc
    refine mg_iconst (v := 0) dL_law_2317 (by decide) ?_
    refine mg_aload_n dL_law_2318 rfl 3 rfl ?_
    obtain ⟨q1, hC, hk⟩ := h
    refine mw_H2 [.ref (k1), .int (xs (Int32.toNatClampNeg ((x4) + (1 : Int32)))), .int (0), .ref (k3)] [] dL_law_2319 wd_1238 kiL_predict ⟨Nat.le_of_ble_eq_true rfl, Nat.le_of_ble_eq_true rfl⟩ (Nat.le_of_ble_eq_true rfl) ⟨by omega, by omega⟩ hC (fun v1 M1 hq => ?_)
    replace h := hk v1 M1 hq
    refine mg_istore (ls' := [(5, .int (v1)), (0, .ref (900001)), (1, .ref (k1)), (2, .ref (k2)), (3, .ref (k3)), (4, .int (x4))]) dL_law_2322 (Nat.le_of_ble_eq_true rfl) rfl ?_
    refine mg_aload_n dL_law_2324 rfl 3 rfl ?_
    refine mg_aload_n dL_law_2325 rfl 1 rfl ?_
    refine mg_iload dL_law_2326 5 rfl ?_
    refine mg_iconst (v := 1) dL_law_2328 (by decide) ?_
    refine mg_iadd dL_law_2329 ?_
    refine mg_sld (b := b) (L := L) (xs := xs) rfl dL_law_2330 h.1 ?_
    replace h := h.2
    refine mg_aload_n dL_law_2331 rfl 1 rfl ?_
    refine mg_iload dL_law_2332 5 rfl ?_
    refine mg_iconst (v := 2) dL_law_2334 (by decide) ?_
    refine mg_iadd dL_law_2335 ?_
    refine mg_sld (b := b) (L := L) (xs := xs) rfl dL_law_2336 h.1 ?_
    replace h := h.2
    refine mg_if_eq (tgt := 2344) dL_law_2337 (by decide) (fun hc => ?_) (fun hc => ?_)
    · replace h := h.1 hc
      refine mg_iconst (v := 0) dL_law_2344 (by decide) ?_
      obtain ⟨q2, hC, hk⟩ := h
      refine ml_Vi [.int (xs (Int32.toNatClampNeg ((x4) + (1 : Int32)))), .int (0)] [] dL_law_2345 wd_1816 kiX10_predict (Nat.le_of_ble_eq_true rfl) h2.1.1 h2.1.2 rfl ⟨Nat.le_of_ble_eq_true rfl, Nat.le_of_ble_eq_true rfl⟩ hC (fun v2 M2 hq => ?_)
      replace h := hk v2 M2 hq
      refine mg_istore (ls' := [(6, .int (v2)), (5, .int (v1)), (0, .ref (900001)), (1, .ref (k1)), (2, .ref (k2)), (3, .ref (k3)), (4, .int (x4))]) dL_law_2348 (Nat.le_of_ble_eq_true rfl) rfl ?_
      refine mg_aload_n dL_law_2350 rfl 4 rfl ?_
      obtain ⟨q3, hC, hk⟩ := h
      refine ml_Vi [] [] dL_law_2351 wd_1341 kiX10_thrown (Nat.le_of_ble_eq_true rfl) h2.1.1 h2.1.2 rfl ⟨Nat.le_of_ble_eq_true rfl, Nat.le_of_ble_eq_true rfl⟩ hC (fun v3 M3 hq => ?_)
      replace h := hk v3 M3 hq
      refine mg_iload dL_law_2354 1 rfl ?_
      refine mg_icmp_eq (tgt := 2361) dL_law_2356 (by decide) (fun hc => ?_) (fun hc => ?_)
      · replace h := h.1 hc
        refine mg_iload dL_law_2361 1 rfl ?_
        refine mg_if_ne (tgt := 2378) dL_law_2363 (by decide) (fun hc => ?_) (fun hc => ?_)
        · replace h := h.1 hc
          refine mg_goto (tgt := 2408) dL_law_2378 (by decide) ?_
          refine mg_iinc (v := x4 + 4) (ls' := [(4, .int (x4 + 4)), (6, .int (v2)), (5, .int (v1)), (0, .ref (900001)), (1, .ref (k1)), (2, .ref (k2)), (3, .ref (k3))]) dL_law_2408 6 rfl rfl (Nat.le_of_ble_eq_true rfl) rfl ?_
          refine mg_goto (tgt := 23) dL_law_2411 (by decide) ?_
          refine mg_bud (bc' := bc - 8) (bs' := bs - 48) (by omega) (by omega) ?_
          exact mg_pick [3, 4, 5, 6, 0] rfl h
        · replace h := h.2 hc
          refine mg_aload_n dL_law_2366 rfl 5 rfl ?_
          refine mg_iconst (v := 0) dL_law_2367 (by decide) ?_
          refine mg_lald dL_law_2368 h3.1 h3.2 (vp_in_nI (n := 0) (Nat.le_of_ble_eq_true rfl) (Nat.le_of_ble_eq_true rfl)) rfl ?_
          refine mg_iload dL_law_2369 0 rfl ?_
          refine mg_i2l dL_law_2371 ?_
          refine mg_lcmp dL_law_2372 ?_
          refine mg_if_eq (tgt := 2378) dL_law_2373 (by decide) (fun hc => ?_) (fun hc => ?_)
          · replace h := h.1 hc
            refine mg_goto (tgt := 2408) dL_law_2378 (by decide) ?_
            refine mg_iinc (v := x4 + 4) (ls' := [(4, .int (x4 + 4)), (6, .int (v2)), (5, .int (v1)), (0, .ref (900001)), (1, .ref (k1)), (2, .ref (k2)), (3, .ref (k3))]) dL_law_2408 6 rfl rfl (Nat.le_of_ble_eq_true rfl) rfl ?_
            refine mg_goto (tgt := 23) dL_law_2411 (by decide) ?_
            refine mg_bud (bc' := bc - 8) (bs' := bs - 48) (by omega) (by omega) ?_
            exact mg_pick [3, 4, 5, 6, 0] rfl h
          · replace h := h.2 hc
            exact h.elim
      · replace h := h.2 hc
        exact h.elim
    · replace h := h.2 hc
      refine mg_iconst (v := 1) dL_law_2340 (by decide) ?_
      refine mg_goto (tgt := 2345) dL_law_2341 (by decide) ?_
      obtain ⟨q4, hC, hk⟩ := h
      refine ml_Vi [.int (xs (Int32.toNatClampNeg ((x4) + (1 : Int32)))), .int (1)] [] dL_law_2345 wd_1816 kiX10_predict (Nat.le_of_ble_eq_true rfl) h2.1.1 h2.1.2 rfl ⟨Nat.le_of_ble_eq_true rfl, Nat.le_of_ble_eq_true rfl⟩ hC (fun v4 M4 hq => ?_)
      replace h := hk v4 M4 hq
      refine mg_istore (ls' := [(6, .int (v4)), (5, .int (v1)), (0, .ref (900001)), (1, .ref (k1)), (2, .ref (k2)), (3, .ref (k3)), (4, .int (x4))]) dL_law_2348 (Nat.le_of_ble_eq_true rfl) rfl ?_
      refine mg_aload_n dL_law_2350 rfl 4 rfl ?_
      obtain ⟨q5, hC, hk⟩ := h
      refine ml_Vi [] [] dL_law_2351 wd_1341 kiX10_thrown (Nat.le_of_ble_eq_true rfl) h2.1.1 h2.1.2 rfl ⟨Nat.le_of_ble_eq_true rfl, Nat.le_of_ble_eq_true rfl⟩ hC (fun v5 M5 hq => ?_)
      replace h := hk v5 M5 hq
      refine mg_iload dL_law_2354 1 rfl ?_
      refine mg_icmp_eq (tgt := 2361) dL_law_2356 (by decide) (fun hc => ?_) (fun hc => ?_)
      · replace h := h.1 hc
        refine mg_iload dL_law_2361 1 rfl ?_
        refine mg_if_ne (tgt := 2378) dL_law_2363 (by decide) (fun hc => ?_) (fun hc => ?_)
        · replace h := h.1 hc
          refine mg_goto (tgt := 2408) dL_law_2378 (by decide) ?_
          refine mg_iinc (v := x4 + 4) (ls' := [(4, .int (x4 + 4)), (6, .int (v4)), (5, .int (v1)), (0, .ref (900001)), (1, .ref (k1)), (2, .ref (k2)), (3, .ref (k3))]) dL_law_2408 6 rfl rfl (Nat.le_of_ble_eq_true rfl) rfl ?_
          refine mg_goto (tgt := 23) dL_law_2411 (by decide) ?_
          refine mg_bud (bc' := bc - 8) (bs' := bs - 48) (by omega) (by omega) ?_
          exact mg_pick [3, 4, 5, 6, 0] rfl h
        · replace h := h.2 hc
          refine mg_aload_n dL_law_2366 rfl 5 rfl ?_
          refine mg_iconst (v := 0) dL_law_2367 (by decide) ?_
          refine mg_lald dL_law_2368 h3.1 h3.2 (vp_in_nI (n := 0) (Nat.le_of_ble_eq_true rfl) (Nat.le_of_ble_eq_true rfl)) rfl ?_
          refine mg_iload dL_law_2369 0 rfl ?_
          refine mg_i2l dL_law_2371 ?_
          refine mg_lcmp dL_law_2372 ?_
          refine mg_if_eq (tgt := 2378) dL_law_2373 (by decide) (fun hc => ?_) (fun hc => ?_)
          · replace h := h.1 hc
            refine mg_goto (tgt := 2408) dL_law_2378 (by decide) ?_
            refine mg_iinc (v := x4 + 4) (ls' := [(4, .int (x4 + 4)), (6, .int (v4)), (5, .int (v1)), (0, .ref (900001)), (1, .ref (k1)), (2, .ref (k2)), (3, .ref (k3))]) dL_law_2408 6 rfl rfl (Nat.le_of_ble_eq_true rfl) rfl ?_
            refine mg_goto (tgt := 23) dL_law_2411 (by decide) ?_
            refine mg_bud (bc' := bc - 8) (bs' := bs - 48) (by omega) (by omega) ?_
            exact mg_pick [3, 4, 5, 6, 0] rfl h
          · replace h := h.2 hc
            exact h.elim
      · replace h := h.2 hc
        exact h.elim
  · replace h := h.2 hc
    refine mg_iconst (v := 1) dL_law_2313 (by decide) ?_
    refine mg_goto (tgt := 2318) dL_law_2314 (by decide) ?_
    refine mg_aload_n dL_law_2318 rfl 3 rfl ?_
    obtain ⟨q6, hC, hk⟩ := h
    refine mw_H2 [.ref (k1), .int (xs (Int32.toNatClampNeg ((x4) + (1 : Int32)))), .int (1), .ref (k3)] [] dL_law_2319 wd_1238 kiL_predict ⟨Nat.le_of_ble_eq_true rfl, Nat.le_of_ble_eq_true rfl⟩ (Nat.le_of_ble_eq_true rfl) ⟨by omega, by omega⟩ hC (fun v6 M6 hq => ?_)
    replace h := hk v6 M6 hq
    refine mg_istore (ls' := [(5, .int (v6)), (0, .ref (900001)), (1, .ref (k1)), (2, .ref (k2)), (3, .ref (k3)), (4, .int (x4))]) dL_law_2322 (Nat.le_of_ble_eq_true rfl) rfl ?_
    refine mg_aload_n dL_law_2324 rfl 3 rfl ?_
    refine mg_aload_n dL_law_2325 rfl 1 rfl ?_
    refine mg_iload dL_law_2326 5 rfl ?_
    refine mg_iconst (v := 1) dL_law_2328 (by decide) ?_
    refine mg_iadd dL_law_2329 ?_
    refine mg_sld (b := b) (L := L) (xs := xs) rfl dL_law_2330 h.1 ?_
    replace h := h.2
    refine mg_aload_n dL_law_2331 rfl 1 rfl ?_
    refine mg_iload dL_law_2332 5 rfl ?_
    refine mg_iconst (v := 2) dL_law_2334 (by decide) ?_
    refine mg_iadd dL_law_2335 ?_
    refine mg_sld (b := b) (L := L) (xs := xs) rfl dL_law_2336 h.1 ?_
    replace h := h.2
    refine mg_if_eq (tgt := 2344) dL_law_2337 (by decide) (fun hc => ?_) (fun hc => ?_)
    · replace h := h.1 hc
      refine mg_iconst (v := 0) dL_law_2344 (by decide) ?_
      obtain ⟨q7, hC, hk⟩ := h
      refine ml_Vi [.int (xs (Int32.toNatClampNeg ((x4) + (1 : Int32)))), .int (0)] [] dL_law_2345 wd_1816 kiX10_predict (Nat.le_of_ble_eq_true rfl) h2.1.1 h2.1.2 rfl ⟨Nat.le_of_ble_eq_true rfl, Nat.le_of_ble_eq_true rfl⟩ hC (fun v7 M7 hq => ?_)
      replace h := hk v7 M7 hq
      refine mg_istore (ls' := [(6, .int (v7)), (5, .int (v6)), (0, .ref (900001)), (1, .ref (k1)), (2, .ref (k2)), (3, .ref (k3)), (4, .int (x4))]) dL_law_2348 (Nat.le_of_ble_eq_true rfl) rfl ?_
      refine mg_aload_n dL_law_2350 rfl 4 rfl ?_
      obtain ⟨q8, hC, hk⟩ := h
      refine ml_Vi [] [] dL_law_2351 wd_1341 kiX10_thrown (Nat.le_of_ble_eq_true rfl) h2.1.1 h2.1.2 rfl ⟨Nat.le_of_ble_eq_true rfl, Nat.le_of_ble_eq_true rfl⟩ hC (fun v8 M8 hq => ?_)
      replace h := hk v8 M8 hq
      refine mg_iload dL_law_2354 1 rfl ?_
      refine mg_icmp_eq (tgt := 2361) dL_law_2356 (by decide) (fun hc => ?_) (fun hc => ?_)
      · replace h := h.1 hc
        refine mg_iload dL_law_2361 1 rfl ?_
        refine mg_if_ne (tgt := 2378) dL_law_2363 (by decide) (fun hc => ?_) (fun hc => ?_)
        · replace h := h.1 hc
          refine mg_goto (tgt := 2408) dL_law_2378 (by decide) ?_
          refine mg_iinc (v := x4 + 4) (ls' := [(4, .int (x4 + 4)), (6, .int (v7)), (5, .int (v6)), (0, .ref (900001)), (1, .ref (k1)), (2, .ref (k2)), (3, .ref (k3))]) dL_law_2408 6 rfl rfl (Nat.le_of_ble_eq_true rfl) rfl ?_
          refine mg_goto (tgt := 23) dL_law_2411 (by decide) ?_
          refine mg_bud (bc' := bc - 8) (bs' := bs - 48) (by omega) (by omega) ?_
          exact mg_pick [3, 4, 5, 6, 0] rfl h
        · replace h := h.2 hc
          refine mg_aload_n dL_law_2366 rfl 5 rfl ?_
          refine mg_iconst (v := 0) dL_law_2367 (by decide) ?_
          refine mg_lald dL_law_2368 h3.1 h3.2 (vp_in_nI (n := 0) (Nat.le_of_ble_eq_true rfl) (Nat.le_of_ble_eq_true rfl)) rfl ?_
          refine mg_iload dL_law_2369 0 rfl ?_
          refine mg_i2l dL_law_2371 ?_
          refine mg_lcmp dL_law_2372 ?_
          refine mg_if_eq (tgt := 2378) dL_law_2373 (by decide) (fun hc => ?_) (fun hc => ?_)
          · replace h := h.1 hc
            refine mg_goto (tgt := 2408) dL_law_2378 (by decide) ?_
            refine mg_iinc (v := x4 + 4) (ls' := [(4, .int (x4 + 4)), (6, .int (v7)), (5, .int (v6)), (0, .ref (900001)), (1, .ref (k1)), (2, .ref (k2)), (3, .ref (k3))]) dL_law_2408 6 rfl rfl (Nat.le_of_ble_eq_true rfl) rfl ?_
            refine mg_goto (tgt := 23) dL_law_2411 (by decide) ?_
            refine mg_bud (bc' := bc - 8) (bs' := bs - 48) (by omega) (by omega) ?_
            exact mg_pick [3, 4, 5, 6, 0] rfl h
          · replace h := h.2 hc
            exact h.elim
      · replace h := h.2 hc
        exact h.elim
    · replace h := h.2 hc
      refine mg_iconst (v := 1) dL_law_2340 (by decide) ?_
      refine mg_goto (tgt := 2345) dL_law_2341 (by decide) ?_
      obtain ⟨q9, hC, hk⟩ := h
      refine ml_Vi [.int (xs (Int32.toNatClampNeg ((x4) + (1 : Int32)))), .int (1)] [] dL_law_2345 wd_1816 kiX10_predict (Nat.le_of_ble_eq_true rfl) h2.1.1 h2.1.2 rfl ⟨Nat.le_of_ble_eq_true rfl, Nat.le_of_ble_eq_true rfl⟩ hC (fun v9 M9 hq => ?_)
      replace h := hk v9 M9 hq
      refine mg_istore (ls' := [(6, .int (v9)), (5, .int (v6)), (0, .ref (900001)), (1, .ref (k1)), (2, .ref (k2)), (3, .ref (k3)), (4, .int (x4))]) dL_law_2348 (Nat.le_of_ble_eq_true rfl) rfl ?_
      refine mg_aload_n dL_law_2350 rfl 4 rfl ?_
      obtain ⟨q10, hC, hk⟩ := h
      refine ml_Vi [] [] dL_law_2351 wd_1341 kiX10_thrown (Nat.le_of_ble_eq_true rfl) h2.1.1 h2.1.2 rfl ⟨Nat.le_of_ble_eq_true rfl, Nat.le_of_ble_eq_true rfl⟩ hC (fun v10 M10 hq => ?_)
      replace h := hk v10 M10 hq
      refine mg_iload dL_law_2354 1 rfl ?_
      refine mg_icmp_eq (tgt := 2361) dL_law_2356 (by decide) (fun hc => ?_) (fun hc => ?_)
      · replace h := h.1 hc
        refine mg_iload dL_law_2361 1 rfl ?_
        refine mg_if_ne (tgt := 2378) dL_law_2363 (by decide) (fun hc => ?_) (fun hc => ?_)
        · replace h := h.1 hc
          refine mg_goto (tgt := 2408) dL_law_2378 (by decide) ?_
          refine mg_iinc (v := x4 + 4) (ls' := [(4, .int (x4 + 4)), (6, .int (v9)), (5, .int (v6)), (0, .ref (900001)), (1, .ref (k1)), (2, .ref (k2)), (3, .ref (k3))]) dL_law_2408 6 rfl rfl (Nat.le_of_ble_eq_true rfl) rfl ?_
          refine mg_goto (tgt := 23) dL_law_2411 (by decide) ?_
          refine mg_bud (bc' := bc - 8) (bs' := bs - 48) (by omega) (by omega) ?_
          exact mg_pick [3, 4, 5, 6, 0] rfl h
        · replace h := h.2 hc
          refine mg_aload_n dL_law_2366 rfl 5 rfl ?_
          refine mg_iconst (v := 0) dL_law_2367 (by decide) ?_
          refine mg_lald dL_law_2368 h3.1 h3.2 (vp_in_nI (n := 0) (Nat.le_of_ble_eq_true rfl) (Nat.le_of_ble_eq_true rfl)) rfl ?_
          refine mg_iload dL_law_2369 0 rfl ?_
          refine mg_i2l dL_law_2371 ?_
          refine mg_lcmp dL_law_2372 ?_
          refine mg_if_eq (tgt := 2378) dL_law_2373 (by decide) (fun hc => ?_) (fun hc => ?_)
          · replace h := h.1 hc
            refine mg_goto (tgt := 2408) dL_law_2378 (by decide) ?_
            refine mg_iinc (v := x4 + 4) (ls' := [(4, .int (x4 + 4)), (6, .int (v9)), (5, .int (v6)), (0, .ref (900001)), (1, .ref (k1)), (2, .ref (k2)), (3, .ref (k3))]) dL_law_2408 6 rfl rfl (Nat.le_of_ble_eq_true rfl) rfl ?_
            refine mg_goto (tgt := 23) dL_law_2411 (by decide) ?_
            refine mg_bud (bc' := bc - 8) (bs' := bs - 48) (by omega) (by omega) ?_
            exact mg_pick [3, 4, 5, 6, 0] rfl h
          · replace h := h.2 hc
            exact h.elim
      · replace h := h.2 hc
        exact h.elim
theorem cL_law_40 {b L : Nat} {xs : Nat → Int32} {k1 k2 k3 : Nat} {x4 : Int32} {bc bs : Nat} {g : mj_S} {M : mj_M} (h1 : is9 g k1) (h2 : is10 g k2) (h3 : k3 < g.1 ∧ g.2.1 k3 = (1, 2, 1)) (hb1 : 8 ≤ bc) (hb2 : 48 ≤ bs) (h : ∃ (q1 : Int32 → mj_M → Prop), kX9_bestTechnique (k1) g (M) q1 ∧ ∀ (v1 : Int32) (M1 : mj_M), q1 v1 M1 → (∃ (q2 : Int32 → mj_M → Prop), kX10_bestTechnique (k2) g (M1) q2 ∧ ∀ (v2 : Int32) (M2 : mj_M), q2 v2 M2 → (((v1 : Int32) = (v2) → LL_23 b L xs k1 k2 k3 (x4 + 4) (bc - 8) (bs - 48) g (M2)) ∧ (¬ (v1 : Int32) = (v2) → False)))) : mj_G (mj_mtL b L xs) room_1 (mj_FL b) false bc bs 2381 [(0, .ref (900001)), (1, .ref (k1)), (2, .ref (k2)), (3, .ref (k3)), (4, .int (x4))] [] g M := by
  refine mg_aload_n dL_law_2381 rfl 1 rfl ?_
  obtain ⟨q1, hC, hk⟩ := h
  refine ml_Vi [] [] dL_law_2382 wd_371 kiX9_bestTechnique (Nat.le_of_ble_eq_true rfl) h1.1.1 h1.1.2 rfl ⟨Nat.le_of_ble_eq_true rfl, Nat.le_of_ble_eq_true rfl⟩ hC (fun v1 M1 hq => ?_)
  replace h := hk v1 M1 hq
  refine mg_aload_n dL_law_2385 rfl 2 rfl ?_
  obtain ⟨q2, hC, hk⟩ := h
  refine ml_Vi [] [.int (v1)] dL_law_2386 wd_1824 kiX10_bestTechnique (Nat.le_of_ble_eq_true rfl) h2.1.1 h2.1.2 rfl ⟨Nat.le_of_ble_eq_true rfl, Nat.le_of_ble_eq_true rfl⟩ hC (fun v2 M2 hq => ?_)
  replace h := hk v2 M2 hq
  refine mg_icmp_eq (tgt := 2408) dL_law_2389 (by decide) (fun hc => ?_) (fun hc => ?_)
  · replace h := h.1 hc
    refine mg_iinc (v := x4 + 4) (ls' := [(4, .int (x4 + 4)), (0, .ref (900001)), (1, .ref (k1)), (2, .ref (k2)), (3, .ref (k3))]) dL_law_2408 4 rfl rfl (Nat.le_of_ble_eq_true rfl) rfl ?_
    refine mg_goto (tgt := 23) dL_law_2411 (by decide) ?_
    refine mg_bud (bc' := bc - 8) (bs' := bs - 48) (by omega) (by omega) ?_
    exact mg_pick [1, 2, 3, 4, 0] rfl h
  · replace h := h.2 hc
    exact h.elim
theorem cL_law_41 {b L : Nat} {xs : Nat → Int32} {k1 k2 k3 : Nat} {x4 : Int32} {bc bs : Nat} {g : mj_S} {M : mj_M} (h1 : is9 g k1) (h2 : is10 g k2) (h3 : k3 < g.1 ∧ g.2.1 k3 = (1, 2, 1)) (hb1 : 8 ≤ bc) (hb2 : 48 ≤ bs) (h : ∃ (q1 : Int64 → mj_M → Prop), kX9_digest (k1) g (M) q1 ∧ ∀ (v1 : Int64) (M1 : mj_M), q1 v1 M1 → (∃ (q2 : Int64 → mj_M → Prop), kX10_digest (k2) g (M1) q2 ∧ ∀ (v2 : Int64) (M2 : mj_M), q2 v2 M2 → (((lg_cmp (v1) (v2) : Int32) = 0 → LL_23 b L xs k1 k2 k3 (x4 + 4) (bc - 8) (bs - 48) g (M2)) ∧ (¬ (lg_cmp (v1) (v2) : Int32) = 0 → False)))) : mj_G (mj_mtL b L xs) room_1 (mj_FL b) false bc bs 2394 [(0, .ref (900001)), (1, .ref (k1)), (2, .ref (k2)), (3, .ref (k3)), (4, .int (x4))] [] g M := by
  refine mg_aload_n dL_law_2394 rfl 1 rfl ?_
  obtain ⟨q1, hC, hk⟩ := h
  refine ml_Vl [] [] dL_law_2395 wd_637 kiX9_digest (Nat.le_of_ble_eq_true rfl) h1.1.1 h1.1.2 rfl ⟨Nat.le_of_ble_eq_true rfl, Nat.le_of_ble_eq_true rfl⟩ hC (fun v1 M1 hq => ?_)
  replace h := hk v1 M1 hq
  refine mg_aload_n dL_law_2398 rfl 2 rfl ?_
  obtain ⟨q2, hC, hk⟩ := h
  refine ml_Vl [] [.long (v1)] dL_law_2399 wd_1828 kiX10_digest (Nat.le_of_ble_eq_true rfl) h2.1.1 h2.1.2 rfl ⟨Nat.le_of_ble_eq_true rfl, Nat.le_of_ble_eq_true rfl⟩ hC (fun v2 M2 hq => ?_)
  replace h := hk v2 M2 hq
  refine mg_lcmp dL_law_2402 ?_
  refine mg_if_eq (tgt := 2408) dL_law_2403 (by decide) (fun hc => ?_) (fun hc => ?_)
  · replace h := h.1 hc
    refine mg_iinc (v := x4 + 4) (ls' := [(4, .int (x4 + 4)), (0, .ref (900001)), (1, .ref (k1)), (2, .ref (k2)), (3, .ref (k3))]) dL_law_2408 4 rfl rfl (Nat.le_of_ble_eq_true rfl) rfl ?_
    refine mg_goto (tgt := 23) dL_law_2411 (by decide) ?_
    refine mg_bud (bc' := bc - 8) (bs' := bs - 48) (by omega) (by omega) ?_
    exact mg_pick [1, 2, 3, 4, 0] rfl h
  · replace h := h.2 hc
    exact h.elim
theorem cL_law_d {b L : Nat} {xs : Nat → Int32} {k1 k2 k3 : Nat} {x4 : Int32} {bc bs : Nat} {g : mj_S} {M : mj_M} (h1 : is9 g k1) (h2 : is10 g k2) (h3 : k3 < g.1 ∧ g.2.1 k3 = (1, 2, 1)) (hb1 : 8 ≤ bc) (hb2 : 48 ≤ bs) (h : LL_23 b L xs k1 k2 k3 (x4 + 4) (bc - 8) (bs - 48) g (M)) : mj_G (mj_mtL b L xs) room_1 (mj_FL b) false bc bs 2408 [(0, .ref (900001)), (1, .ref (k1)), (2, .ref (k2)), (3, .ref (k3)), (4, .int (x4))] [] g M := by
  refine mg_iinc (v := x4 + 4) (ls' := [(4, .int (x4 + 4)), (0, .ref (900001)), (1, .ref (k1)), (2, .ref (k2)), (3, .ref (k3))]) dL_law_2408 4 rfl rfl (Nat.le_of_ble_eq_true rfl) rfl ?_
  refine mg_goto (tgt := 23) dL_law_2411 (by decide) ?_
  refine mg_bud (bc' := bc - 8) (bs' := bs - 48) (by omega) (by omega) ?_
  exact mg_pick [1, 2, 3, 4, 0] rfl h
theorem bL_law_23 {b L : Nat} {xs : Nat → Int32} {k1 k2 k3 : Nat} {x4 : Int32} {bc bs : Nat} {g : mj_S} {M : mj_M} (h1 : is9 g k1) (h2 : is10 g k2) (h3 : k3 < g.1 ∧ g.2.1 k3 = (1, 2, 1)) (hb1 : 8 ≤ bc) (hb2 : 48 ≤ bs) (h : ((nI L) - (4 : Int32) < x4 → True) ∧ (¬ (nI L) - (4 : Int32) < x4 → vp_in x4 L ∧ (xs (Int32.toNatClampNeg (x4)) &&& (63 : Int32) = 0 → mj_G (mj_mtL b L xs) room_1 (mj_FL b) false bc bs 220 [(0, .ref (900001)), (1, .ref (k1)), (2, .ref (k2)), (3, .ref (k3)), (4, .int (x4))] [] g M) ∧ (xs (Int32.toNatClampNeg (x4)) &&& (63 : Int32) = 1 → mj_G (mj_mtL b L xs) room_1 (mj_FL b) false bc bs 276 [(0, .ref (900001)), (1, .ref (k1)), (2, .ref (k2)), (3, .ref (k3)), (4, .int (x4))] [] g M) ∧ (xs (Int32.toNatClampNeg (x4)) &&& (63 : Int32) = 2 → mj_G (mj_mtL b L xs) room_1 (mj_FL b) false bc bs 344 [(0, .ref (900001)), (1, .ref (k1)), (2, .ref (k2)), (3, .ref (k3)), (4, .int (x4))] [] g M) ∧ (xs (Int32.toNatClampNeg (x4)) &&& (63 : Int32) = 3 → mj_G (mj_mtL b L xs) room_1 (mj_FL b) false bc bs 424 [(0, .ref (900001)), (1, .ref (k1)), (2, .ref (k2)), (3, .ref (k3)), (4, .int (x4))] [] g M) ∧ (xs (Int32.toNatClampNeg (x4)) &&& (63 : Int32) = 4 → mj_G (mj_mtL b L xs) room_1 (mj_FL b) false bc bs 437 [(0, .ref (900001)), (1, .ref (k1)), (2, .ref (k2)), (3, .ref (k3)), (4, .int (x4))] [] g M) ∧ (xs (Int32.toNatClampNeg (x4)) &&& (63 : Int32) = 5 → mj_G (mj_mtL b L xs) room_1 (mj_FL b) false bc bs 521 [(0, .ref (900001)), (1, .ref (k1)), (2, .ref (k2)), (3, .ref (k3)), (4, .int (x4))] [] g M) ∧ (xs (Int32.toNatClampNeg (x4)) &&& (63 : Int32) = 6 → mj_G (mj_mtL b L xs) room_1 (mj_FL b) false bc bs 534 [(0, .ref (900001)), (1, .ref (k1)), (2, .ref (k2)), (3, .ref (k3)), (4, .int (x4))] [] g M) ∧ (xs (Int32.toNatClampNeg (x4)) &&& (63 : Int32) = 7 → mj_G (mj_mtL b L xs) room_1 (mj_FL b) false bc bs 547 [(0, .ref (900001)), (1, .ref (k1)), (2, .ref (k2)), (3, .ref (k3)), (4, .int (x4))] [] g M) ∧ (xs (Int32.toNatClampNeg (x4)) &&& (63 : Int32) = 8 → mj_G (mj_mtL b L xs) room_1 (mj_FL b) false bc bs 631 [(0, .ref (900001)), (1, .ref (k1)), (2, .ref (k2)), (3, .ref (k3)), (4, .int (x4))] [] g M) ∧ (xs (Int32.toNatClampNeg (x4)) &&& (63 : Int32) = 9 → mj_G (mj_mtL b L xs) room_1 (mj_FL b) false bc bs 644 [(0, .ref (900001)), (1, .ref (k1)), (2, .ref (k2)), (3, .ref (k3)), (4, .int (x4))] [] g M) ∧ (xs (Int32.toNatClampNeg (x4)) &&& (63 : Int32) = 10 → mj_G (mj_mtL b L xs) room_1 (mj_FL b) false bc bs 700 [(0, .ref (900001)), (1, .ref (k1)), (2, .ref (k2)), (3, .ref (k3)), (4, .int (x4))] [] g M) ∧ (xs (Int32.toNatClampNeg (x4)) &&& (63 : Int32) = 11 → mj_G (mj_mtL b L xs) room_1 (mj_FL b) false bc bs 756 [(0, .ref (900001)), (1, .ref (k1)), (2, .ref (k2)), (3, .ref (k3)), (4, .int (x4))] [] g M) ∧ (xs (Int32.toNatClampNeg (x4)) &&& (63 : Int32) = 12 → mj_G (mj_mtL b L xs) room_1 (mj_FL b) false bc bs 812 [(0, .ref (900001)), (1, .ref (k1)), (2, .ref (k2)), (3, .ref (k3)), (4, .int (x4))] [] g M) ∧ (xs (Int32.toNatClampNeg (x4)) &&& (63 : Int32) = 13 → mj_G (mj_mtL b L xs) room_1 (mj_FL b) false bc bs 868 [(0, .ref (900001)), (1, .ref (k1)), (2, .ref (k2)), (3, .ref (k3)), (4, .int (x4))] [] g M) ∧ (xs (Int32.toNatClampNeg (x4)) &&& (63 : Int32) = 14 → mj_G (mj_mtL b L xs) room_1 (mj_FL b) false bc bs 881 [(0, .ref (900001)), (1, .ref (k1)), (2, .ref (k2)), (3, .ref (k3)), (4, .int (x4))] [] g M) ∧ (xs (Int32.toNatClampNeg (x4)) &&& (63 : Int32) = 15 → mj_G (mj_mtL b L xs) room_1 (mj_FL b) false bc bs 925 [(0, .ref (900001)), (1, .ref (k1)), (2, .ref (k2)), (3, .ref (k3)), (4, .int (x4))] [] g M) ∧ (xs (Int32.toNatClampNeg (x4)) &&& (63 : Int32) = 16 → mj_G (mj_mtL b L xs) room_1 (mj_FL b) false bc bs 981 [(0, .ref (900001)), (1, .ref (k1)), (2, .ref (k2)), (3, .ref (k3)), (4, .int (x4))] [] g M) ∧ (xs (Int32.toNatClampNeg (x4)) &&& (63 : Int32) = 17 → mj_G (mj_mtL b L xs) room_1 (mj_FL b) false bc bs 1037 [(0, .ref (900001)), (1, .ref (k1)), (2, .ref (k2)), (3, .ref (k3)), (4, .int (x4))] [] g M) ∧ (xs (Int32.toNatClampNeg (x4)) &&& (63 : Int32) = 18 → mj_G (mj_mtL b L xs) room_1 (mj_FL b) false bc bs 1093 [(0, .ref (900001)), (1, .ref (k1)), (2, .ref (k2)), (3, .ref (k3)), (4, .int (x4))] [] g M) ∧ (xs (Int32.toNatClampNeg (x4)) &&& (63 : Int32) = 19 → mj_G (mj_mtL b L xs) room_1 (mj_FL b) false bc bs 1149 [(0, .ref (900001)), (1, .ref (k1)), (2, .ref (k2)), (3, .ref (k3)), (4, .int (x4))] [] g M) ∧ (xs (Int32.toNatClampNeg (x4)) &&& (63 : Int32) = 20 → mj_G (mj_mtL b L xs) room_1 (mj_FL b) false bc bs 1205 [(0, .ref (900001)), (1, .ref (k1)), (2, .ref (k2)), (3, .ref (k3)), (4, .int (x4))] [] g M) ∧ (xs (Int32.toNatClampNeg (x4)) &&& (63 : Int32) = 21 → mj_G (mj_mtL b L xs) room_1 (mj_FL b) false bc bs 1261 [(0, .ref (900001)), (1, .ref (k1)), (2, .ref (k2)), (3, .ref (k3)), (4, .int (x4))] [] g M) ∧ (xs (Int32.toNatClampNeg (x4)) &&& (63 : Int32) = 22 → mj_G (mj_mtL b L xs) room_1 (mj_FL b) false bc bs 1305 [(0, .ref (900001)), (1, .ref (k1)), (2, .ref (k2)), (3, .ref (k3)), (4, .int (x4))] [] g M) ∧ (xs (Int32.toNatClampNeg (x4)) &&& (63 : Int32) = 23 → mj_G (mj_mtL b L xs) room_1 (mj_FL b) false bc bs 1368 [(0, .ref (900001)), (1, .ref (k1)), (2, .ref (k2)), (3, .ref (k3)), (4, .int (x4))] [] g M) ∧ (xs (Int32.toNatClampNeg (x4)) &&& (63 : Int32) = 24 → mj_G (mj_mtL b L xs) room_1 (mj_FL b) false bc bs 1424 [(0, .ref (900001)), (1, .ref (k1)), (2, .ref (k2)), (3, .ref (k3)), (4, .int (x4))] [] g M) ∧ (xs (Int32.toNatClampNeg (x4)) &&& (63 : Int32) = 25 → mj_G (mj_mtL b L xs) room_1 (mj_FL b) false bc bs 1520 [(0, .ref (900001)), (1, .ref (k1)), (2, .ref (k2)), (3, .ref (k3)), (4, .int (x4))] [] g M) ∧ (xs (Int32.toNatClampNeg (x4)) &&& (63 : Int32) = 26 → mj_G (mj_mtL b L xs) room_1 (mj_FL b) false bc bs 1576 [(0, .ref (900001)), (1, .ref (k1)), (2, .ref (k2)), (3, .ref (k3)), (4, .int (x4))] [] g M) ∧ (xs (Int32.toNatClampNeg (x4)) &&& (63 : Int32) = 27 → mj_G (mj_mtL b L xs) room_1 (mj_FL b) false bc bs 1632 [(0, .ref (900001)), (1, .ref (k1)), (2, .ref (k2)), (3, .ref (k3)), (4, .int (x4))] [] g M) ∧ (xs (Int32.toNatClampNeg (x4)) &&& (63 : Int32) = 28 → mj_G (mj_mtL b L xs) room_1 (mj_FL b) false bc bs 1716 [(0, .ref (900001)), (1, .ref (k1)), (2, .ref (k2)), (3, .ref (k3)), (4, .int (x4))] [] g M) ∧ (xs (Int32.toNatClampNeg (x4)) &&& (63 : Int32) = 29 → mj_G (mj_mtL b L xs) room_1 (mj_FL b) false bc bs 1800 [(0, .ref (900001)), (1, .ref (k1)), (2, .ref (k2)), (3, .ref (k3)), (4, .int (x4))] [] g M) ∧ (xs (Int32.toNatClampNeg (x4)) &&& (63 : Int32) = 30 → mj_G (mj_mtL b L xs) room_1 (mj_FL b) false bc bs 1863 [(0, .ref (900001)), (1, .ref (k1)), (2, .ref (k2)), (3, .ref (k3)), (4, .int (x4))] [] g M) ∧ (xs (Int32.toNatClampNeg (x4)) &&& (63 : Int32) = 31 → mj_G (mj_mtL b L xs) room_1 (mj_FL b) false bc bs 1919 [(0, .ref (900001)), (1, .ref (k1)), (2, .ref (k2)), (3, .ref (k3)), (4, .int (x4))] [] g M) ∧ (xs (Int32.toNatClampNeg (x4)) &&& (63 : Int32) = 32 → mj_G (mj_mtL b L xs) room_1 (mj_FL b) false bc bs 1994 [(0, .ref (900001)), (1, .ref (k1)), (2, .ref (k2)), (3, .ref (k3)), (4, .int (x4))] [] g M) ∧ (xs (Int32.toNatClampNeg (x4)) &&& (63 : Int32) = 33 → mj_G (mj_mtL b L xs) room_1 (mj_FL b) false bc bs 2050 [(0, .ref (900001)), (1, .ref (k1)), (2, .ref (k2)), (3, .ref (k3)), (4, .int (x4))] [] g M) ∧ (xs (Int32.toNatClampNeg (x4)) &&& (63 : Int32) = 34 → mj_G (mj_mtL b L xs) room_1 (mj_FL b) false bc bs 2063 [(0, .ref (900001)), (1, .ref (k1)), (2, .ref (k2)), (3, .ref (k3)), (4, .int (x4))] [] g M) ∧ (xs (Int32.toNatClampNeg (x4)) &&& (63 : Int32) = 35 → mj_G (mj_mtL b L xs) room_1 (mj_FL b) false bc bs 2131 [(0, .ref (900001)), (1, .ref (k1)), (2, .ref (k2)), (3, .ref (k3)), (4, .int (x4))] [] g M) ∧ (xs (Int32.toNatClampNeg (x4)) &&& (63 : Int32) = 36 → mj_G (mj_mtL b L xs) room_1 (mj_FL b) false bc bs 2187 [(0, .ref (900001)), (1, .ref (k1)), (2, .ref (k2)), (3, .ref (k3)), (4, .int (x4))] [] g M) ∧ (xs (Int32.toNatClampNeg (x4)) &&& (63 : Int32) = 37 → mj_G (mj_mtL b L xs) room_1 (mj_FL b) false bc bs 2200 [(0, .ref (900001)), (1, .ref (k1)), (2, .ref (k2)), (3, .ref (k3)), (4, .int (x4))] [] g M) ∧ (xs (Int32.toNatClampNeg (x4)) &&& (63 : Int32) = 38 → mj_G (mj_mtL b L xs) room_1 (mj_FL b) false bc bs 2256 [(0, .ref (900001)), (1, .ref (k1)), (2, .ref (k2)), (3, .ref (k3)), (4, .int (x4))] [] g M) ∧ (xs (Int32.toNatClampNeg (x4)) &&& (63 : Int32) = 39 → mj_G (mj_mtL b L xs) room_1 (mj_FL b) false bc bs 2297 [(0, .ref (900001)), (1, .ref (k1)), (2, .ref (k2)), (3, .ref (k3)), (4, .int (x4))] [] g M) ∧ (xs (Int32.toNatClampNeg (x4)) &&& (63 : Int32) = 40 → mj_G (mj_mtL b L xs) room_1 (mj_FL b) false bc bs 2381 [(0, .ref (900001)), (1, .ref (k1)), (2, .ref (k2)), (3, .ref (k3)), (4, .int (x4))] [] g M) ∧ (xs (Int32.toNatClampNeg (x4)) &&& (63 : Int32) = 41 → mj_G (mj_mtL b L xs) room_1 (mj_FL b) false bc bs 2394 [(0, .ref (900001)), (1, .ref (k1)), (2, .ref (k2)), (3, .ref (k3)), (4, .int (x4))] [] g M) ∧ (¬ xs (Int32.toNatClampNeg (x4)) &&& (63 : Int32) = 0 ∧ ¬ xs (Int32.toNatClampNeg (x4)) &&& (63 : Int32) = 1 ∧ ¬ xs (Int32.toNatClampNeg (x4)) &&& (63 : Int32) = 2 ∧ ¬ xs (Int32.toNatClampNeg (x4)) &&& (63 : Int32) = 3 ∧ ¬ xs (Int32.toNatClampNeg (x4)) &&& (63 : Int32) = 4 ∧ ¬ xs (Int32.toNatClampNeg (x4)) &&& (63 : Int32) = 5 ∧ ¬ xs (Int32.toNatClampNeg (x4)) &&& (63 : Int32) = 6 ∧ ¬ xs (Int32.toNatClampNeg (x4)) &&& (63 : Int32) = 7 ∧ ¬ xs (Int32.toNatClampNeg (x4)) &&& (63 : Int32) = 8 ∧ ¬ xs (Int32.toNatClampNeg (x4)) &&& (63 : Int32) = 9 ∧ ¬ xs (Int32.toNatClampNeg (x4)) &&& (63 : Int32) = 10 ∧ ¬ xs (Int32.toNatClampNeg (x4)) &&& (63 : Int32) = 11 ∧ ¬ xs (Int32.toNatClampNeg (x4)) &&& (63 : Int32) = 12 ∧ ¬ xs (Int32.toNatClampNeg (x4)) &&& (63 : Int32) = 13 ∧ ¬ xs (Int32.toNatClampNeg (x4)) &&& (63 : Int32) = 14 ∧ ¬ xs (Int32.toNatClampNeg (x4)) &&& (63 : Int32) = 15 ∧ ¬ xs (Int32.toNatClampNeg (x4)) &&& (63 : Int32) = 16 ∧ ¬ xs (Int32.toNatClampNeg (x4)) &&& (63 : Int32) = 17 ∧ ¬ xs (Int32.toNatClampNeg (x4)) &&& (63 : Int32) = 18 ∧ ¬ xs (Int32.toNatClampNeg (x4)) &&& (63 : Int32) = 19 ∧ ¬ xs (Int32.toNatClampNeg (x4)) &&& (63 : Int32) = 20 ∧ ¬ xs (Int32.toNatClampNeg (x4)) &&& (63 : Int32) = 21 ∧ ¬ xs (Int32.toNatClampNeg (x4)) &&& (63 : Int32) = 22 ∧ ¬ xs (Int32.toNatClampNeg (x4)) &&& (63 : Int32) = 23 ∧ ¬ xs (Int32.toNatClampNeg (x4)) &&& (63 : Int32) = 24 ∧ ¬ xs (Int32.toNatClampNeg (x4)) &&& (63 : Int32) = 25 ∧ ¬ xs (Int32.toNatClampNeg (x4)) &&& (63 : Int32) = 26 ∧ ¬ xs (Int32.toNatClampNeg (x4)) &&& (63 : Int32) = 27 ∧ ¬ xs (Int32.toNatClampNeg (x4)) &&& (63 : Int32) = 28 ∧ ¬ xs (Int32.toNatClampNeg (x4)) &&& (63 : Int32) = 29 ∧ ¬ xs (Int32.toNatClampNeg (x4)) &&& (63 : Int32) = 30 ∧ ¬ xs (Int32.toNatClampNeg (x4)) &&& (63 : Int32) = 31 ∧ ¬ xs (Int32.toNatClampNeg (x4)) &&& (63 : Int32) = 32 ∧ ¬ xs (Int32.toNatClampNeg (x4)) &&& (63 : Int32) = 33 ∧ ¬ xs (Int32.toNatClampNeg (x4)) &&& (63 : Int32) = 34 ∧ ¬ xs (Int32.toNatClampNeg (x4)) &&& (63 : Int32) = 35 ∧ ¬ xs (Int32.toNatClampNeg (x4)) &&& (63 : Int32) = 36 ∧ ¬ xs (Int32.toNatClampNeg (x4)) &&& (63 : Int32) = 37 ∧ ¬ xs (Int32.toNatClampNeg (x4)) &&& (63 : Int32) = 38 ∧ ¬ xs (Int32.toNatClampNeg (x4)) &&& (63 : Int32) = 39 ∧ ¬ xs (Int32.toNatClampNeg (x4)) &&& (63 : Int32) = 40 ∧ ¬ xs (Int32.toNatClampNeg (x4)) &&& (63 : Int32) = 41 → mj_G (mj_mtL b L xs) room_1 (mj_FL b) false bc bs 2408 [(0, .ref (900001)), (1, .ref (k1)), (2, .ref (k2)), (3, .ref (k3)), (4, .int (x4))] [] g M))) : LL_23 b L xs k1 k2 k3 x4 bc bs g M := by
  refine mg_iload dL_law_23 4 rfl ?_
  refine mg_aload_n dL_law_25 rfl 0 rfl ?_
  refine mg_slen (b := b) (L := L) (xs := xs) rfl dL_law_26 ?_
  refine mg_iconst (v := 4) dL_law_27 (by decide) ?_
  refine mg_isub dL_law_28 ?_
  refine mg_icmp_gt (tgt := 2414) dL_law_29 (by decide) (fun hc => ?_) (fun hc => ?_)
  · refine mg_iconst (v := 1) dL_law_2414 (by decide) ?_
    exact mg_lwret dL_law_2415
  · replace h := h.2 hc
    refine mg_aload_n dL_law_32 rfl 0 rfl ?_
    refine mg_iload dL_law_33 4 rfl ?_
    refine mg_sld (b := b) (L := L) (xs := xs) rfl dL_law_35 h.1 ?_
    replace h := h.2
    refine mg_bipush (v := 63) dL_law_36 (by decide) ?_
    refine mg_iand dL_law_38 ?_
    by_cases e0 : xs (Int32.toNatClampNeg (x4)) &&& (63 : Int32) = 0
    · exact mg_tblC (off := 181) (tgt := 220) dL_law_39 e0 (by decide) (by decide) rfl (by decide) (h.1 e0)
    by_cases e1 : xs (Int32.toNatClampNeg (x4)) &&& (63 : Int32) = 1
    · exact mg_tblC (off := 237) (tgt := 276) dL_law_39 e1 (by decide) (by decide) rfl (by decide) (h.2.1 e1)
    by_cases e2 : xs (Int32.toNatClampNeg (x4)) &&& (63 : Int32) = 2
    · exact mg_tblC (off := 305) (tgt := 344) dL_law_39 e2 (by decide) (by decide) rfl (by decide) (h.2.2.1 e2)
    by_cases e3 : xs (Int32.toNatClampNeg (x4)) &&& (63 : Int32) = 3
    · exact mg_tblC (off := 385) (tgt := 424) dL_law_39 e3 (by decide) (by decide) rfl (by decide) (h.2.2.2.1 e3)
    by_cases e4 : xs (Int32.toNatClampNeg (x4)) &&& (63 : Int32) = 4
    · exact mg_tblC (off := 398) (tgt := 437) dL_law_39 e4 (by decide) (by decide) rfl (by decide) (h.2.2.2.2.1 e4)
    by_cases e5 : xs (Int32.toNatClampNeg (x4)) &&& (63 : Int32) = 5
    · exact mg_tblC (off := 482) (tgt := 521) dL_law_39 e5 (by decide) (by decide) rfl (by decide) (h.2.2.2.2.2.1 e5)
    by_cases e6 : xs (Int32.toNatClampNeg (x4)) &&& (63 : Int32) = 6
    · exact mg_tblC (off := 495) (tgt := 534) dL_law_39 e6 (by decide) (by decide) rfl (by decide) (h.2.2.2.2.2.2.1 e6)
    by_cases e7 : xs (Int32.toNatClampNeg (x4)) &&& (63 : Int32) = 7
    · exact mg_tblC (off := 508) (tgt := 547) dL_law_39 e7 (by decide) (by decide) rfl (by decide) (h.2.2.2.2.2.2.2.1 e7)
    by_cases e8 : xs (Int32.toNatClampNeg (x4)) &&& (63 : Int32) = 8
    · exact mg_tblC (off := 592) (tgt := 631) dL_law_39 e8 (by decide) (by decide) rfl (by decide) (h.2.2.2.2.2.2.2.2.1 e8)
    by_cases e9 : xs (Int32.toNatClampNeg (x4)) &&& (63 : Int32) = 9
    · exact mg_tblC (off := 605) (tgt := 644) dL_law_39 e9 (by decide) (by decide) rfl (by decide) (h.2.2.2.2.2.2.2.2.2.1 e9)
    by_cases e10 : xs (Int32.toNatClampNeg (x4)) &&& (63 : Int32) = 10
    · exact mg_tblC (off := 661) (tgt := 700) dL_law_39 e10 (by decide) (by decide) rfl (by decide) (h.2.2.2.2.2.2.2.2.2.2.1 e10)
    by_cases e11 : xs (Int32.toNatClampNeg (x4)) &&& (63 : Int32) = 11
    · exact mg_tblC (off := 717) (tgt := 756) dL_law_39 e11 (by decide) (by decide) rfl (by decide) (h.2.2.2.2.2.2.2.2.2.2.2.1 e11)
    by_cases e12 : xs (Int32.toNatClampNeg (x4)) &&& (63 : Int32) = 12
    · exact mg_tblC (off := 773) (tgt := 812) dL_law_39 e12 (by decide) (by decide) rfl (by decide) (h.2.2.2.2.2.2.2.2.2.2.2.2.1 e12)
    by_cases e13 : xs (Int32.toNatClampNeg (x4)) &&& (63 : Int32) = 13
    · exact mg_tblC (off := 829) (tgt := 868) dL_law_39 e13 (by decide) (by decide) rfl (by decide) (h.2.2.2.2.2.2.2.2.2.2.2.2.2.1 e13)
    by_cases e14 : xs (Int32.toNatClampNeg (x4)) &&& (63 : Int32) = 14
    · exact mg_tblC (off := 842) (tgt := 881) dL_law_39 e14 (by decide) (by decide) rfl (by decide) (h.2.2.2.2.2.2.2.2.2.2.2.2.2.2.1 e14)
    by_cases e15 : xs (Int32.toNatClampNeg (x4)) &&& (63 : Int32) = 15
    · exact mg_tblC (off := 886) (tgt := 925) dL_law_39 e15 (by decide) (by decide) rfl (by decide) (h.2.2.2.2.2.2.2.2.2.2.2.2.2.2.2.1 e15)
    by_cases e16 : xs (Int32.toNatClampNeg (x4)) &&& (63 : Int32) = 16
    · exact mg_tblC (off := 942) (tgt := 981) dL_law_39 e16 (by decide) (by decide) rfl (by decide) (h.2.2.2.2.2.2.2.2.2.2.2.2.2.2.2.2.1 e16)
    by_cases e17 : xs (Int32.toNatClampNeg (x4)) &&& (63 : Int32) = 17
    · exact mg_tblC (off := 998) (tgt := 1037) dL_law_39 e17 (by decide) (by decide) rfl (by decide) (h.2.2.2.2.2.2.2.2.2.2.2.2.2.2.2.2.2.1 e17)
    by_cases e18 : xs (Int32.toNatClampNeg (x4)) &&& (63 : Int32) = 18
    · exact mg_tblC (off := 1054) (tgt := 1093) dL_law_39 e18 (by decide) (by decide) rfl (by decide) (h.2.2.2.2.2.2.2.2.2.2.2.2.2.2.2.2.2.2.1 e18)
    by_cases e19 : xs (Int32.toNatClampNeg (x4)) &&& (63 : Int32) = 19
    · exact mg_tblC (off := 1110) (tgt := 1149) dL_law_39 e19 (by decide) (by decide) rfl (by decide) (h.2.2.2.2.2.2.2.2.2.2.2.2.2.2.2.2.2.2.2.1 e19)
    by_cases e20 : xs (Int32.toNatClampNeg (x4)) &&& (63 : Int32) = 20
    · exact mg_tblC (off := 1166) (tgt := 1205) dL_law_39 e20 (by decide) (by decide) rfl (by decide) (h.2.2.2.2.2.2.2.2.2.2.2.2.2.2.2.2.2.2.2.2.1 e20)
    by_cases e21 : xs (Int32.toNatClampNeg (x4)) &&& (63 : Int32) = 21
    · exact mg_tblC (off := 1222) (tgt := 1261) dL_law_39 e21 (by decide) (by decide) rfl (by decide) (h.2.2.2.2.2.2.2.2.2.2.2.2.2.2.2.2.2.2.2.2.2.1 e21)
    by_cases e22 : xs (Int32.toNatClampNeg (x4)) &&& (63 : Int32) = 22
    · exact mg_tblC (off := 1266) (tgt := 1305) dL_law_39 e22 (by decide) (by decide) rfl (by decide) (h.2.2.2.2.2.2.2.2.2.2.2.2.2.2.2.2.2.2.2.2.2.2.1 e22)
    by_cases e23 : xs (Int32.toNatClampNeg (x4)) &&& (63 : Int32) = 23
    · exact mg_tblC (off := 1329) (tgt := 1368) dL_law_39 e23 (by decide) (by decide) rfl (by decide) (h.2.2.2.2.2.2.2.2.2.2.2.2.2.2.2.2.2.2.2.2.2.2.2.1 e23)
    by_cases e24 : xs (Int32.toNatClampNeg (x4)) &&& (63 : Int32) = 24
    · exact mg_tblC (off := 1385) (tgt := 1424) dL_law_39 e24 (by decide) (by decide) rfl (by decide) (h.2.2.2.2.2.2.2.2.2.2.2.2.2.2.2.2.2.2.2.2.2.2.2.2.1 e24)
    by_cases e25 : xs (Int32.toNatClampNeg (x4)) &&& (63 : Int32) = 25
    · exact mg_tblC (off := 1481) (tgt := 1520) dL_law_39 e25 (by decide) (by decide) rfl (by decide) (h.2.2.2.2.2.2.2.2.2.2.2.2.2.2.2.2.2.2.2.2.2.2.2.2.2.1 e25)
    by_cases e26 : xs (Int32.toNatClampNeg (x4)) &&& (63 : Int32) = 26
    · exact mg_tblC (off := 1537) (tgt := 1576) dL_law_39 e26 (by decide) (by decide) rfl (by decide) (h.2.2.2.2.2.2.2.2.2.2.2.2.2.2.2.2.2.2.2.2.2.2.2.2.2.2.1 e26)
    by_cases e27 : xs (Int32.toNatClampNeg (x4)) &&& (63 : Int32) = 27
    · exact mg_tblC (off := 1593) (tgt := 1632) dL_law_39 e27 (by decide) (by decide) rfl (by decide) (h.2.2.2.2.2.2.2.2.2.2.2.2.2.2.2.2.2.2.2.2.2.2.2.2.2.2.2.1 e27)
    by_cases e28 : xs (Int32.toNatClampNeg (x4)) &&& (63 : Int32) = 28
    · exact mg_tblC (off := 1677) (tgt := 1716) dL_law_39 e28 (by decide) (by decide) rfl (by decide) (h.2.2.2.2.2.2.2.2.2.2.2.2.2.2.2.2.2.2.2.2.2.2.2.2.2.2.2.2.1 e28)
    by_cases e29 : xs (Int32.toNatClampNeg (x4)) &&& (63 : Int32) = 29
    · exact mg_tblC (off := 1761) (tgt := 1800) dL_law_39 e29 (by decide) (by decide) rfl (by decide) (h.2.2.2.2.2.2.2.2.2.2.2.2.2.2.2.2.2.2.2.2.2.2.2.2.2.2.2.2.2.1 e29)
    by_cases e30 : xs (Int32.toNatClampNeg (x4)) &&& (63 : Int32) = 30
    · exact mg_tblC (off := 1824) (tgt := 1863) dL_law_39 e30 (by decide) (by decide) rfl (by decide) (h.2.2.2.2.2.2.2.2.2.2.2.2.2.2.2.2.2.2.2.2.2.2.2.2.2.2.2.2.2.2.1 e30)
    by_cases e31 : xs (Int32.toNatClampNeg (x4)) &&& (63 : Int32) = 31
    · exact mg_tblC (off := 1880) (tgt := 1919) dL_law_39 e31 (by decide) (by decide) rfl (by decide) (h.2.2.2.2.2.2.2.2.2.2.2.2.2.2.2.2.2.2.2.2.2.2.2.2.2.2.2.2.2.2.2.1 e31)
    by_cases e32 : xs (Int32.toNatClampNeg (x4)) &&& (63 : Int32) = 32
    · exact mg_tblC (off := 1955) (tgt := 1994) dL_law_39 e32 (by decide) (by decide) rfl (by decide) (h.2.2.2.2.2.2.2.2.2.2.2.2.2.2.2.2.2.2.2.2.2.2.2.2.2.2.2.2.2.2.2.2.1 e32)
    by_cases e33 : xs (Int32.toNatClampNeg (x4)) &&& (63 : Int32) = 33
    · exact mg_tblC (off := 2011) (tgt := 2050) dL_law_39 e33 (by decide) (by decide) rfl (by decide) (h.2.2.2.2.2.2.2.2.2.2.2.2.2.2.2.2.2.2.2.2.2.2.2.2.2.2.2.2.2.2.2.2.2.1 e33)
    by_cases e34 : xs (Int32.toNatClampNeg (x4)) &&& (63 : Int32) = 34
    · exact mg_tblC (off := 2024) (tgt := 2063) dL_law_39 e34 (by decide) (by decide) rfl (by decide) (h.2.2.2.2.2.2.2.2.2.2.2.2.2.2.2.2.2.2.2.2.2.2.2.2.2.2.2.2.2.2.2.2.2.2.1 e34)
    by_cases e35 : xs (Int32.toNatClampNeg (x4)) &&& (63 : Int32) = 35
    · exact mg_tblC (off := 2092) (tgt := 2131) dL_law_39 e35 (by decide) (by decide) rfl (by decide) (h.2.2.2.2.2.2.2.2.2.2.2.2.2.2.2.2.2.2.2.2.2.2.2.2.2.2.2.2.2.2.2.2.2.2.2.1 e35)
    by_cases e36 : xs (Int32.toNatClampNeg (x4)) &&& (63 : Int32) = 36
    · exact mg_tblC (off := 2148) (tgt := 2187) dL_law_39 e36 (by decide) (by decide) rfl (by decide) (h.2.2.2.2.2.2.2.2.2.2.2.2.2.2.2.2.2.2.2.2.2.2.2.2.2.2.2.2.2.2.2.2.2.2.2.2.1 e36)
    by_cases e37 : xs (Int32.toNatClampNeg (x4)) &&& (63 : Int32) = 37
    · exact mg_tblC (off := 2161) (tgt := 2200) dL_law_39 e37 (by decide) (by decide) rfl (by decide) (h.2.2.2.2.2.2.2.2.2.2.2.2.2.2.2.2.2.2.2.2.2.2.2.2.2.2.2.2.2.2.2.2.2.2.2.2.2.1 e37)
    by_cases e38 : xs (Int32.toNatClampNeg (x4)) &&& (63 : Int32) = 38
    · exact mg_tblC (off := 2217) (tgt := 2256) dL_law_39 e38 (by decide) (by decide) rfl (by decide) (h.2.2.2.2.2.2.2.2.2.2.2.2.2.2.2.2.2.2.2.2.2.2.2.2.2.2.2.2.2.2.2.2.2.2.2.2.2.2.1 e38)
    by_cases e39 : xs (Int32.toNatClampNeg (x4)) &&& (63 : Int32) = 39
    · exact mg_tblC (off := 2258) (tgt := 2297) dL_law_39 e39 (by decide) (by decide) rfl (by decide) (h.2.2.2.2.2.2.2.2.2.2.2.2.2.2.2.2.2.2.2.2.2.2.2.2.2.2.2.2.2.2.2.2.2.2.2.2.2.2.2.1 e39)
    by_cases e40 : xs (Int32.toNatClampNeg (x4)) &&& (63 : Int32) = 40
    · exact mg_tblC (off := 2342) (tgt := 2381) dL_law_39 e40 (by decide) (by decide) rfl (by decide) (h.2.2.2.2.2.2.2.2.2.2.2.2.2.2.2.2.2.2.2.2.2.2.2.2.2.2.2.2.2.2.2.2.2.2.2.2.2.2.2.2.1 e40)
    by_cases e41 : xs (Int32.toNatClampNeg (x4)) &&& (63 : Int32) = 41
    · exact mg_tblC (off := 2355) (tgt := 2394) dL_law_39 e41 (by decide) (by decide) rfl (by decide) (h.2.2.2.2.2.2.2.2.2.2.2.2.2.2.2.2.2.2.2.2.2.2.2.2.2.2.2.2.2.2.2.2.2.2.2.2.2.2.2.2.2.1 e41)
    exact mg_tblD (tgt := 2408) [0, 1, 2, 3, 4, 5, 6, 7, 8, 9, 10, 11, 12, 13, 14, 15, 16, 17, 18, 19, 20, 21, 22, 23, 24, 25, 26, 27, 28, 29, 30, 31, 32, 33, 34, 35, 36, 37, 38, 39, 40, 41] dL_law_39 (by decide) (by decide) (List.forall_mem_cons.mpr ⟨mj_neT e0 rfl, List.forall_mem_cons.mpr ⟨mj_neT e1 rfl, List.forall_mem_cons.mpr ⟨mj_neT e2 rfl, List.forall_mem_cons.mpr ⟨mj_neT e3 rfl, List.forall_mem_cons.mpr ⟨mj_neT e4 rfl, List.forall_mem_cons.mpr ⟨mj_neT e5 rfl, List.forall_mem_cons.mpr ⟨mj_neT e6 rfl, List.forall_mem_cons.mpr ⟨mj_neT e7 rfl, List.forall_mem_cons.mpr ⟨mj_neT e8 rfl, List.forall_mem_cons.mpr ⟨mj_neT e9 rfl, List.forall_mem_cons.mpr ⟨mj_neT e10 rfl, List.forall_mem_cons.mpr ⟨mj_neT e11 rfl, List.forall_mem_cons.mpr ⟨mj_neT e12 rfl, List.forall_mem_cons.mpr ⟨mj_neT e13 rfl, List.forall_mem_cons.mpr ⟨mj_neT e14 rfl, List.forall_mem_cons.mpr ⟨mj_neT e15 rfl, List.forall_mem_cons.mpr ⟨mj_neT e16 rfl, List.forall_mem_cons.mpr ⟨mj_neT e17 rfl, List.forall_mem_cons.mpr ⟨mj_neT e18 rfl, List.forall_mem_cons.mpr ⟨mj_neT e19 rfl, List.forall_mem_cons.mpr ⟨mj_neT e20 rfl, List.forall_mem_cons.mpr ⟨mj_neT e21 rfl, List.forall_mem_cons.mpr ⟨mj_neT e22 rfl, List.forall_mem_cons.mpr ⟨mj_neT e23 rfl, List.forall_mem_cons.mpr ⟨mj_neT e24 rfl, List.forall_mem_cons.mpr ⟨mj_neT e25 rfl, List.forall_mem_cons.mpr ⟨mj_neT e26 rfl, List.forall_mem_cons.mpr ⟨mj_neT e27 rfl, List.forall_mem_cons.mpr ⟨mj_neT e28 rfl, List.forall_mem_cons.mpr ⟨mj_neT e29 rfl, List.forall_mem_cons.mpr ⟨mj_neT e30 rfl, List.forall_mem_cons.mpr ⟨mj_neT e31 rfl, List.forall_mem_cons.mpr ⟨mj_neT e32 rfl, List.forall_mem_cons.mpr ⟨mj_neT e33 rfl, List.forall_mem_cons.mpr ⟨mj_neT e34 rfl, List.forall_mem_cons.mpr ⟨mj_neT e35 rfl, List.forall_mem_cons.mpr ⟨mj_neT e36 rfl, List.forall_mem_cons.mpr ⟨mj_neT e37 rfl, List.forall_mem_cons.mpr ⟨mj_neT e38 rfl, List.forall_mem_cons.mpr ⟨mj_neT e39 rfl, List.forall_mem_cons.mpr ⟨mj_neT e40 rfl, List.forall_mem_cons.mpr ⟨mj_neT e41 rfl, fun _ h9 => nomatch h9⟩⟩⟩⟩⟩⟩⟩⟩⟩⟩⟩⟩⟩⟩⟩⟩⟩⟩⟩⟩⟩⟩⟩⟩⟩⟩⟩⟩⟩⟩⟩⟩⟩⟩⟩⟩⟩⟩⟩⟩⟩⟩) (by decide) (h.2.2.2.2.2.2.2.2.2.2.2.2.2.2.2.2.2.2.2.2.2.2.2.2.2.2.2.2.2.2.2.2.2.2.2.2.2.2.2.2.2.2 ⟨e0, e1, e2, e3, e4, e5, e6, e7, e8, e9, e10, e11, e12, e13, e14, e15, e16, e17, e18, e19, e20, e21, e22, e23, e24, e25, e26, e27, e28, e29, e30, e31, e32, e33, e34, e35, e36, e37, e38, e39, e40, e41⟩)
