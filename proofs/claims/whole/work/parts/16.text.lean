/-! rows for the letters' text: a String of the class's own constants -/
section MGL
variable {mt : mj_T} {R : Room} {Fi : mj_F} {ex : Bool} {bc bs pc : Nat} {ls : List (Nat × Value)} {st : List Value} {g : mj_S} {M : mj_M}
theorem mg_ldcT (hm : mt.1 = RX8) (hd : decode mt.2.1 pc = .ok (.ldc 19, 2)) (k : mj_G mt R Fi ex bc bs (pc + 2) ls (.ref 900000 :: st) g M) : mj_G mt R Fi ex bc bs pc ls st g M := by
  intro p l e s m args below meth c E C H locs cells slots hw hS hc hs hex lr hl
  exact va_ldcS C.1 C.2.2.1 C.2.2.2.2.1 (by rw [hm]; exact C.2.2.2.2.2.2.2.2.2.2.2.2.2.2.2.1 0 (RX8, 19, "upstebcfqv") rfl) hd (k p l e s m args below meth c E C H locs cells slots hw hS hc hs hex lr hl)
theorem mg_compact {idx : Nat} (hd : decode mt.2.1 pc = .ok (.getstatic idx, 3)) (hlk : Cond.fieldLink mt.1 idx "java/lang/String" "COMPACT_STRINGS" "Z" ∈ lw_good) (k : mj_G mt R Fi ex bc bs (pc + 3) ls (.int 1 :: st) g M) : mj_G mt R Fi ex bc bs pc ls st g M := by
  intro p l e s m args below meth c E C H locs cells slots hw hS hc hs hex lr hl
  exact va_gets C.1 C.2.2.1 C.2.2.2.2.2.2.2.2.2.2.2.2.2.2.2.2.2.2.2.1 hS C.2.2.2.2.1 (C.2.2.2.2.2.1 _ hlk) (fun _ h => h) hd (k p l e s m args below meth c E C H locs cells slots hw hS hc hs hex lr hl)
theorem mg_strV {idx : Nat} (hd : decode mt.2.1 pc = .ok (.getfield idx, 3)) (hlk : Cond.fieldLink mt.1 idx "java/lang/String" "value" "[B" ∈ lw_good) (k : mj_G mt R Fi ex bc bs (pc + 3) ls (.ref 900002 :: st) g M) : mj_G mt R Fi ex bc bs pc ls (.ref 900000 :: st) g M := by
  intro p l e s m args below meth c E C H locs cells slots hw hS hc hs hex lr hl
  exact vk_getf C.1 C.2.2.1 (C.2.2.2.2.2.2.2.2.2.2.2.2.2.2.2.2.2.2.2.2.1.1 0 (by decide)).2.2.1 hS C.2.2.2.2.1 (C.2.2.2.2.2.1 _ hlk) (fun _ h => h) hd (k p l e s m args below meth c E C H locs cells slots hw hS hc hs hex lr hl)
theorem mg_strC {idx : Nat} (hd : decode mt.2.1 pc = .ok (.getfield idx, 3)) (hlk : Cond.fieldLink mt.1 idx "java/lang/String" "coder" "B" ∈ lw_good) (k : mj_G mt R Fi ex bc bs (pc + 3) ls (.int 0 :: st) g M) : mj_G mt R Fi ex bc bs pc ls (.ref 900000 :: st) g M := by
  intro p l e s m args below meth c E C H locs cells slots hw hS hc hs hex lr hl
  exact vk_getf C.1 C.2.2.1 (C.2.2.2.2.2.2.2.2.2.2.2.2.2.2.2.2.2.2.2.2.1.1 0 (by decide)).2.1 hS C.2.2.2.2.1 (C.2.2.2.2.2.1 _ hlk) (fun _ h => h) hd (k p l e s m args below meth c E C H locs cells slots hw hS hc hs hex lr hl)
theorem mg_strN (hd : decode mt.2.1 pc = .ok (.arraylength, 1)) (k : mj_G mt R Fi ex bc bs (pc + 1) ls (.int 10 :: st) g M) : mj_G mt R Fi ex bc bs pc ls (.ref 900002 :: st) g M := by
  intro p l e s m args below meth c E C H locs cells slots hw hS hc hs hex lr hl
  exact va_tlen C.1 C.2.2.1 (C.2.2.2.2.2.2.2.2.2.2.2.2.2.2.2.2.2.2.2.2.1.1 0 (by decide)).2.2.2 hS rfl hd (k p l e s m args below meth c E C H locs cells slots hw hS hc hs hex lr hl)
def mj_let : List Int32 := [117, 112, 115, 116, 101, 98, 99, 102, 113, 118]
theorem mg_strL {i : Int32} (hd : decode mt.2.1 pc = .ok (.baload, 1)) (hin : vp_in i 10) (k : mj_G mt R Fi ex bc bs (pc + 1) ls (.int (mj_let.getD i.toNatClampNeg 0) :: st) g M) : mj_G mt R Fi ex bc bs pc ls (.int i :: .ref 900002 :: st) g M := by
  intro p l e s m args below meth c E C H locs cells slots hw hS hc hs hex lr hl
  exact va_tb C.1 C.2.2.1 (C.2.2.2.2.2.2.2.2.2.2.2.2.2.2.2.2.2.2.2.2.1.1 0 (by decide)).2.2.2 hS hin rfl hd (k p l e s m args below meth c E C H locs cells slots hw hS hc hs hex lr hl)
theorem mg_i2b {x : Int32} (hd : decode mt.2.1 pc = .ok (.i2b, 1)) (k : mj_G mt R Fi ex bc bs (pc + 1) ls (.int x.toInt8.toInt32 :: st) g M) : mj_G mt R Fi ex bc bs pc ls (.int x :: st) g M := by
  intro p l e s m args below meth c E C H locs cells slots hw hS hc hs hex lr hl
  exact lv_i2b C.1 C.2.2.1 hd rfl (k p l e s m args below meth c E C H locs cells slots hw hS hc hs hex lr hl)
end MGL
section MGM
variable {mt : mj_T} {Fi : mj_F} {ex : Bool} {bc bs pc : Nat} {ls : List (Nat × Value)} {g : mj_S} {M : mj_M} {d mc ms d0 : Nat} {y : MethodName} {cc' : ByteArray} {nL' idx : Nat} {ret' : Option FieldType}
theorem mc_Ti (As rest : List Value) {q : Int32 → mj_M → Prop} (hd : decode mt.2.1 pc = .ok (.invokevirtual idx, 3)) (hlk : Cond.methodLink mt.1 idx y ∈ lw_good) (hy : mj_cV y cc' nL' ret' As.length) (hcs : y.cls = "java/lang/String") (hrest : (rest.map fun v => v.category).sum ≤ 8) (hdp : d0 + 1 ≤ d)
    (hC : mj_CI y (.code y cc' nL' ret') d0 (.ref 900000 :: As) g M q) (K : ∀ v M', q v M' → mj_G mt (mj_rm d mc ms) Fi ex bc bs (pc + 3) ls (.int v :: rest) g M') : mj_G mt (mj_rm d mc ms) Fi ex bc bs pc ls (As.reverse ++ .ref 900000 :: rest) g M := by
  intro p l e s m args below meth c E X H locs cells slots hw hS hc hs hex lr hl
  refine mj_callk (rest := rest) (q := mj_qI g q) (qx := mj_x0) (mc' := 0) (ms' := 0) X hS hc hs hex hl ⟨Nat.zero_le _, Nat.zero_le _⟩ (fun _ r g' M' h => by rw [h.1]; rfl) (a := (Value.ref (mj_ad E 900000) :: As.map (mj_rv E)).toArray) ?_ (fun X g' M' h => h.elim) (fun r g' M' h => by obtain ⟨rfl, v, rfl, h⟩ := h; exact K v M' h)
  exact vx_runV (Ts := lw_good) (own := mt.1) (C := y.cls) (n := As.length) ⟨X.1, X.2.2.1, X.2.2.2.1, X.2.2.2.2.1, X.2.2.2.2.2.1⟩ (hC d0 (Nat.le_refl _) l E X.2.1) ⟨callB_of _ X.2.2.2.2.2.1 (mj_goodIn hy.1.2.2.2) rfl rfl rfl (X.2.2.2.2.2.1 _ hy.1.2.2.1) (X.2.2.2.2.2.1 _ hlk) hy.2.1 (mj_hR hdp hy.2.2), X.2.2.2.2.2.1 _ hy.1.1, X.2.2.2.2.2.1 _ hy.1.2.1⟩ ⟨mj_blind, by rw [hcs]; exact vk_recv (i := 0) X.2.2.2.2.2.2.2.2.2.2.2.2.2.2.2.2.2.2.2.2.1 (by decide) hS, mj_pre X hw hS (fun h => by cases h)⟩ rfl (by simp) hl.1 (by simp [List.map_append, List.map_reverse, mj_rv]) (lv_room (by rw [mj_catsum]; exact hrest)) hd ⟨by omega, by omega⟩
end MGM
theorem me_b {mt : mj_T} {ex : Bool} {bc bs pc : Nat} {ls : List (Nat × Value)} {g : mj_S} {M : mj_M} {d : Nat} {v : Int32} {q : Int32 → mj_M → Prop} (hd : decode mt.2.1 pc = .ok (.ireturn, 1)) (hr : mt.2.2.2.1 = some .byte) (hn : narrow .byte (.int v) = .int v) (hq : q v M) : mj_G mt (mj_rm d 0 0) (mj_Fi (mj_qI g q) mj_x0 0 0) ex bc bs pc ls [.int v] g M := by
  intro p l e s m args below meth c E X H locs cells slots hw hS hc hs hex lr hl
  have hc' : cells + bc ≤ 0 := hc
  have hs' : slots + bs ≤ 0 := hs
  refine W.widen (k := 0) (n := 0) (by omega) (by omega) ?_
  refine vx_ret ?_
  exact W.zret X.1 X.2.2.1 (X.2.2.2.2.2.2.2.1.trans hr) hn (fun t ht hW => ⟨⟨some (.int v), g, M, rfl, ⟨rfl, v, rfl, hq⟩, by rw [ht]; exact hw⟩, hS.F ht⟩) hS.2.2 hd X.2.2.2.2.2.2.1
