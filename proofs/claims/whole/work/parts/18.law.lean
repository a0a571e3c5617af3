/-! the law's own methods: handlers, the script, calls of methods with handlers; constructors -/
def mj_tb (hh : List (Nat × Nat × Nat × Nat)) : Code → mj_E → Prop := fun c _ => c.exceptionTable.toList = tableOf hh
section MGN
variable {mt : mj_T} {R : Room} {Fi : mj_F} {ex : Bool} {bc bs pc : Nat} {ls : List (Nat × Value)} {st : List Value} {g : mj_S} {M : mj_M} {d mc ms : Nat} {Qn : mj_Qn} {Qx : mj_Qx}
theorem mj_enterH {y : MethodName} {cc : ByteArray} {nL : Nat} {ret : Option FieldType} {hh : List (Nat × Nat × Nat × Nat)} {As : List Value} (hy : plainName y.cls = true) (hlen : (lg_sl As).length ≤ nL)
    (K : mj_G (y.cls, cc, nL, ret, mj_tb hh, y.name) (mj_rm d mc ms) (mj_Fi Qn Qx mc ms) ex mc ms 0 (lv_args 0 As) [] g M) : mj_C y (.codeWith y cc nL ret hh) ex d mc ms As g M Qn Qx := by
  intro l E hl9
  refine vx_ofWH (cc := cc) (maxL := nL) (ret := ret) (hh := hh) hy rfl ?_
  intro p e s m args below meth c s₁ B hml hv
  obtain ⟨rfl, hE, hw, hex⟩ := hv
  have hts := atoms_spec (ws := Cond.codeWith y cc nL ret hh :: lw_good) B.pre
  have hl := lv_entry (As.map (mj_rv E)) (n := nL) (by rw [mj_sl_len]; exact hlen)
  rw [mj_args] at hl
  rw [lg_entry_eq]
  exact K p l e s m _ below meth c E ⟨B.exec, hl9, B.bytes, hml, findClass_of_methodNamed B.named, fun w hw => hts w (List.mem_cons_of_mem _ hw), B.notSynchronized, B.returns, vx_table (x := y) B (hts _ List.mem_cons_self), (name_of_methodNamed B.named B.method).1, hE⟩ s.heap [] 0 0 hw va_S.rf (Nat.le_of_eq (Nat.zero_add _)) (Nat.le_of_eq (Nat.zero_add _)) (fun h => by have := hex h; omega) _ hl
/-- a handler: the throw lies in a local that nobody reads -/
theorem mgx_catch1 {X : String} {k4 : Fin 4} {i : Nat} (pre : List ExceptionTableEntry) (x : ExceptionTableEntry) (suf : List ExceptionTableEntry) {hh : List (Nat × Nat × Nat × Nat)} (ht : mt.2.2.2.2.1 = mj_tb hh) (hs9 : tableOf hh = pre ++ x :: suf) (hX : X ∈ [mj_IA, mj_IS, mj_IO])
    (hpass : ∀ z ∈ pre, z.catchType ≠ 0 ∧ ∃ nm ∈ [mj_IA, mj_IS, mj_IO], Cond.classLink mt.1 z.catchType nm ∈ lw_good ∧ X ≠ nm) (hx : covers x pc = true) (h0 : x.catchType ≠ 0) (hlk : Cond.classLink mt.1 x.catchType X ∈ lw_good)
    (hd : decode mt.2.1 x.handlerPc = .ok (.astore_n k4, 1)) (hi : (k4 : Nat) = i) (hin : i < mt.2.2.1) (he : ex = false) (K : mj_G mt R Fi ex bc bs (x.handlerPc + 1) (ls.filter (mj_keep1 i)) [] g M) : mj_GX mt R Fi ex bc bs pc ls st g M X := by
  intro p l e s m args below meth c E C H locs cells slots hw hS hc hs lr hl q ce hq9 hv hcl
  have htb : c.exceptionTable.toList = tableOf hh := by have h := C.2.2.2.2.2.2.2.2.1; rw [ht] at h; exact h
  refine vx_catch C.2.2.2.2.1 pre x suf (htb.trans hs9) (fun z hz => ?_) hx h0 (C.2.2.2.2.2.1 _ hlk) (va_Nw.use rfl (C.2.2.2.2.2.2.2.2.2.2.2.2.2.1 X hX)) hq9 hv hcl ?_
  · obtain ⟨h1, nm, h2, h3, h4⟩ := hpass z hz
    exact Or.inr ⟨h1, nm, C.2.2.2.2.2.1 _ h3, C.2.2.2.2.2.2.2.2.2.2.2.2.2.2.1 X hX nm h2 h4⟩
  · refine lv_astore_n C.1 C.2.2.1 hd hi hl hin rfl (fun lr9 hl9 => ?_)
    refine K p l e s m args below meth c E C H locs cells slots hw hS hc hs (fun h => by rw [he] at h; cases h) lr9 ?_
    refine ⟨hl9.1, hl9.2.1, fun r hr => hl9.2.2 r (List.mem_cons_of_mem _ ?_)⟩
    obtain ⟨r9, hr9, rfl⟩ := List.mem_map.mp hr
    obtain ⟨h1, h2⟩ := List.mem_filter.mp hr9
    exact List.mem_filter.mpr ⟨List.mem_map.mpr ⟨r9, h1, rfl⟩, by simpa [mj_keep1, mj_rv_cat] using h2⟩
theorem mgx_catch2 {X : String} {i : Nat} (pre : List ExceptionTableEntry) (x : ExceptionTableEntry) (suf : List ExceptionTableEntry) {hh : List (Nat × Nat × Nat × Nat)} (ht : mt.2.2.2.2.1 = mj_tb hh) (hs9 : tableOf hh = pre ++ x :: suf) (hX : X ∈ [mj_IA, mj_IS, mj_IO])
    (hpass : ∀ z ∈ pre, z.catchType ≠ 0 ∧ ∃ nm ∈ [mj_IA, mj_IS, mj_IO], Cond.classLink mt.1 z.catchType nm ∈ lw_good ∧ X ≠ nm) (hx : covers x pc = true) (h0 : x.catchType ≠ 0) (hlk : Cond.classLink mt.1 x.catchType X ∈ lw_good)
    (hd : decode mt.2.1 x.handlerPc = .ok (.astore i, 2)) (hin : i < mt.2.2.1) (he : ex = false) (K : mj_G mt R Fi ex bc bs (x.handlerPc + 2) (ls.filter (mj_keep1 i)) [] g M) : mj_GX mt R Fi ex bc bs pc ls st g M X := by
  intro p l e s m args below meth c E C H locs cells slots hw hS hc hs lr hl q ce hq9 hv hcl
  have htb : c.exceptionTable.toList = tableOf hh := by have h := C.2.2.2.2.2.2.2.2.1; rw [ht] at h; exact h
  refine vx_catch C.2.2.2.2.1 pre x suf (htb.trans hs9) (fun z hz => ?_) hx h0 (C.2.2.2.2.2.1 _ hlk) (va_Nw.use rfl (C.2.2.2.2.2.2.2.2.2.2.2.2.2.1 X hX)) hq9 hv hcl ?_
  · obtain ⟨h1, nm, h2, h3, h4⟩ := hpass z hz
    exact Or.inr ⟨h1, nm, C.2.2.2.2.2.1 _ h3, C.2.2.2.2.2.2.2.2.2.2.2.2.2.2.1 X hX nm h2 h4⟩
  · refine lv_astore C.1 C.2.2.1 hd hl hin rfl (fun lr9 hl9 => ?_)
    refine K p l e s m args below meth c E C H locs cells slots hw hS hc hs (fun h => by rw [he] at h; cases h) lr9 ?_
    refine ⟨hl9.1, hl9.2.1, fun r hr => hl9.2.2 r (List.mem_cons_of_mem _ ?_)⟩
    obtain ⟨r9, hr9, rfl⟩ := List.mem_map.mp hr
    obtain ⟨h1, h2⟩ := List.mem_filter.mp hr9
    exact List.mem_filter.mpr ⟨List.mem_map.mpr ⟨r9, h1, rfl⟩, by simpa [mj_keep1, mj_rv_cat] using h2⟩
end MGN
def mj_CIW (y : MethodName) (hd : Cond) (d0 mc ms : Nat) (As : List Value) (g : mj_S) (M : mj_M) (q : Int32 → mj_M → Prop) : Prop := ∀ d, d0 ≤ d → mj_C y hd false d mc ms As g M (mj_qI g q) mj_x0
section MGO
variable {mt : mj_T} {R : Room} {Fi : mj_F} {bc bs pc : Nat} {ls : List (Nat × Value)} {g : mj_S} {M : mj_M} {d mc ms d0 mc' ms' : Nat} {y : MethodName} {cc' : ByteArray} {nL' idx : Nat} {ret' : Option FieldType}
/-- a call within a try -/
theorem mw_Vi (As rest : List Value) {k ci nk NN : Nat} {TT : u_T} {q : Int32 → mj_M → Prop} {qx : String → mj_M → Prop} (hd : decode mt.2.1 pc = .ok (.invokevirtual idx, 3)) (hlk : Cond.methodLink mt.1 idx y ∈ lw_good) (hy : mj_cV y cc' nL' ret' As.length) (hrest : (rest.map fun v => v.category).sum ≤ 8) (hk : k < g.1) (hkk : g.2.1 k = (0, ci, nk)) (hcl : mj_cl[ci]? = some (y.cls, TT, NN)) (hdp : d0 + 1 ≤ d) (hbc : mc' ≤ bc ∧ ms' ≤ bs)
    (hC : mj_CIX y (.code y cc' nL' ret') d0 mc' ms' (.ref k :: As) g M q qx) (KX : ∀ X M', qx X M' → mj_GX mt (mj_rm d mc ms) Fi false (bc - mc') (bs - ms') pc ls rest g M' X) (K : ∀ v M', q v M' → mj_G mt (mj_rm d mc ms) Fi false (bc - mc') (bs - ms') (pc + 3) ls (.int v :: rest) g M') : mj_G mt (mj_rm d mc ms) Fi false bc bs pc ls (As.reverse ++ .ref k :: rest) g M :=
  mg_callV hd hlk hy.1.1 hy.1.2.1 hy.1.2.2.1 hy.1.2.2.2 hy.2.1 (mj_hR hdp hy.2.2) hrest hk hkk hcl hbc (fun h => by cases h) (fun h => by cases h) (hC d0 (Nat.le_refl _)) (fun X g' M' h => by obtain ⟨rfl, h⟩ := h; exact KX X M' h) (fun r g' M' h => by obtain ⟨rfl, v, rfl, h⟩ := h; exact K v M' h)
/-- the law calls a method with handlers -/
theorem mw_H (As rest : List Value) {hh : List (Nat × Nat × Nat × Nat)} {q : Int32 → mj_M → Prop} (hd : decode mt.2.1 pc = .ok (.invokestatic idx, 3)) (hlk : Cond.methodLink mt.1 idx y ∈ lw_good) (hst : Cond.static y ∈ lw_good) (hini : Cond.initialized y.cls ∈ lw_good) (hcd : Cond.codeWith y cc' nL' ret' hh ∈ lw_good)
    (hdd : y.cls ≠ "java/lang/invoke/MethodHandle" ∧ y.cls ≠ "java/lang/invoke/VarHandle" ∧ (parseMethodDescriptor y.desc).map (fun d => d.parameters.length) = some As.length) (hR : d0 + 1 ≤ R.frames ∧ 8 + (nL' + 11) + 38 * d0 ≤ R.locals) (hrest : (rest.map fun v => v.category).sum ≤ 8) (hbc : mc' ≤ bc ∧ ms' ≤ bs)
    (hC : mj_CIW y (.codeWith y cc' nL' ret' hh) d0 mc' ms' As g M q) (K : ∀ v M', q v M' → mj_G mt R Fi false (bc - mc') (bs - ms') (pc + 3) ls (.int v :: rest) g M') : mj_G mt R Fi false bc bs pc ls (As.reverse ++ rest) g M := by
  intro p l e s m args below meth c E X H locs cells slots hw hS hc hs hex lr hl
  refine mj_callk (rest := rest) (q := mj_qI g q) (qx := mj_x0) X hS hc hs hex hl hbc (fun h => by cases h) (a := (As.map (mj_rv E)).toArray) ?_ (fun X g' M' h => h.elim) (fun r g' M' h => by obtain ⟨rfl, v, rfl, h⟩ := h; exact K v M' h)
  refine vx_runSX (bytes := cc') (maxL := nL') (ret := ret') (Ts := lw_good) (own := mt.1) (n := As.length) (hh := hh) ⟨X.1, X.2.2.1, X.2.2.2.1, X.2.2.2.2.1, X.2.2.2.2.2.1⟩ (hC d0 (Nat.le_refl _) l E X.2.1) ?_ ⟨mj_blind, mj_pre X hw hS (fun h => by cases h)⟩ rfl (by simp) hl.1 (by simp [List.map_append, List.map_reverse]) (lv_room (by rw [mj_catsum]; exact hrest)) hd ⟨by omega, by omega⟩
  exact ⟨⟨rfl, rfl, hR.1, hR.2, pay_in X.2.2.2.2.2.1 (mj_goodIn hcd), List.mem_cons_self⟩, X.2.2.2.2.2.1 _ hcd, X.2.2.2.2.2.1 _ hini, ⟨hdd.1, hdd.2.1⟩, fun sig h => by have h2 := hdd.2.2; rw [h] at h2; exact (Option.some.inj h2).symm, X.2.2.2.2.2.1 _ hlk, X.2.2.2.2.2.1 _ hst⟩
/-- the script -/
theorem mg_sld {ex : Bool} {st : List Value} {L b : Nat} {xs : Nat → Int32} {i : Int32} (hm : mt.2.2.2.2.1 = fun _ E => E.2.2.2.2.2 = (b, L, xs)) (hd : decode mt.2.1 pc = .ok (.iaload, 1)) (hin : vp_in i L) (k : mj_G mt R Fi ex bc bs (pc + 1) ls (.int (xs i.toNatClampNeg) :: st) g M) : mj_G mt R Fi ex bc bs pc ls (.int i :: .ref 900001 :: st) g M := by
  intro p l e s m args below meth c E C H locs cells slots hw hS hc hs hex lr hl
  have hE : E.2.2.2.2.2 = (b, L, xs) := by have h := C.2.2.2.2.2.2.2.2.1; rw [hm] at h; exact h
  have hX := C.2.2.2.2.2.2.2.2.2.2.2.2.2.2.2.2.2.2.2.2.2.1
  have hb := C.2.2.2.2.2.2.2.2.2.2.2.2.2.2.2.2.2.2.2.2.2.2.1
  have h0 := C.2.2.2.2.2.2.2.2.2.2.2.2.2.2.2.2.2.2.2.2.2.2.2
  rw [hE] at hX hb
  have hadr : mj_rv E (.ref 900001) = .ref b := by
    show Value.ref (mj_ad E 900001) = .ref b
    have : mj_ad E 900001 = E.2.2.2.2.2.1 := rfl
    rw [this, hE]
  show W p l e R s m args below meth c H locs cells slots (Fi below args s E) (F0 m pc lr (.int i :: mj_rv E (.ref 900001) :: st.map (mj_rv E)))
  rw [hadr]
  exact va_sld C.1 C.2.2.1 hX (Nat.lt_of_lt_of_le hb h0) (Nat.not_le.mpr hb) hS hin hd (k p l e s m args below meth c E C H locs cells slots hw hS hc hs hex lr hl)
theorem mg_slen {ex : Bool} {st : List Value} {L b : Nat} {xs : Nat → Int32} (hm : mt.2.2.2.2.1 = fun _ E => E.2.2.2.2.2 = (b, L, xs)) (hd : decode mt.2.1 pc = .ok (.arraylength, 1)) (k : mj_G mt R Fi ex bc bs (pc + 1) ls (.int (nI L) :: st) g M) : mj_G mt R Fi ex bc bs pc ls (.ref 900001 :: st) g M := by
  intro p l e s m args below meth c E C H locs cells slots hw hS hc hs hex lr hl
  have hE : E.2.2.2.2.2 = (b, L, xs) := by have h := C.2.2.2.2.2.2.2.2.1; rw [hm] at h; exact h
  have hX := C.2.2.2.2.2.2.2.2.2.2.2.2.2.2.2.2.2.2.2.2.2.1
  have hb := C.2.2.2.2.2.2.2.2.2.2.2.2.2.2.2.2.2.2.2.2.2.2.1
  have h0 := C.2.2.2.2.2.2.2.2.2.2.2.2.2.2.2.2.2.2.2.2.2.2.2
  rw [hE] at hX hb
  have hadr : mj_rv E (.ref 900001) = .ref b := by
    show Value.ref (mj_ad E 900001) = .ref b
    have : mj_ad E 900001 = E.2.2.2.2.2.1 := rfl
    rw [this, hE]
  show W p l e R s m args below meth c H locs cells slots (Fi below args s E) (F0 m pc lr (mj_rv E (.ref 900001) :: st.map (mj_rv E)))
  rw [hadr]
  exact va_slen C.1 C.2.2.1 hX (Nat.lt_of_lt_of_le hb h0) (Nat.not_le.mpr hb) hS hd (k p l e s m args below meth c E C H locs cells slots hw hS hc hs hex lr hl)
end MGO
section MGS
variable {mt : mj_T} {R : Room} {Fi : mj_F} {ex : Bool} {bc bs pc : Nat} {ls : List (Nat × Value)} {st : List Value} {g : mj_S} {M : mj_M} {d0 : Nat} {y : MethodName} {cc' : ByteArray} {nL' idx : Nat} {ret' : Option FieldType}
/-- calls in any room -/
theorem ml_Vi (As rest : List Value) {k ci nk NN : Nat} {TT : u_T} {q : Int32 → mj_M → Prop} (hd : decode mt.2.1 pc = .ok (.invokevirtual idx, 3)) (hlk : Cond.methodLink mt.1 idx y ∈ lw_good) (hy : mj_cV y cc' nL' ret' As.length) (hrest : (rest.map fun v => v.category).sum ≤ 8) (hk : k < g.1) (hkk : g.2.1 k = (0, ci, nk)) (hcl : mj_cl[ci]? = some (y.cls, TT, NN)) (hR : d0 + 1 ≤ R.frames ∧ 8 + (nL' + 11) + 38 * d0 ≤ R.locals)
    (hC : mj_CI y (.code y cc' nL' ret') d0 (.ref k :: As) g M q) (K : ∀ v M', q v M' → mj_G mt R Fi ex bc bs (pc + 3) ls (.int v :: rest) g M') : mj_G mt R Fi ex bc bs pc ls (As.reverse ++ .ref k :: rest) g M :=
  mg_callV hd hlk hy.1.1 hy.1.2.1 hy.1.2.2.1 hy.1.2.2.2 hy.2.1 hR hrest hk hkk hcl ⟨Nat.zero_le _, Nat.zero_le _⟩ (fun h => by cases h) (fun _ r g' M' h => by rw [h.1]; rfl) (hC d0 (Nat.le_refl _)) (fun X g' M' h => h.elim) (fun r g' M' h => by obtain ⟨rfl, v, rfl, h⟩ := h; exact K v M' h)
theorem ml_Vl (As rest : List Value) {k ci nk NN : Nat} {TT : u_T} {q : Int64 → mj_M → Prop} (hd : decode mt.2.1 pc = .ok (.invokevirtual idx, 3)) (hlk : Cond.methodLink mt.1 idx y ∈ lw_good) (hy : mj_cV y cc' nL' ret' As.length) (hrest : (rest.map fun v => v.category).sum ≤ 8) (hk : k < g.1) (hkk : g.2.1 k = (0, ci, nk)) (hcl : mj_cl[ci]? = some (y.cls, TT, NN)) (hR : d0 + 1 ≤ R.frames ∧ 8 + (nL' + 11) + 38 * d0 ≤ R.locals)
    (hC : mj_CL y (.code y cc' nL' ret') d0 (.ref k :: As) g M q) (K : ∀ v M', q v M' → mj_G mt R Fi ex bc bs (pc + 3) ls (.long v :: rest) g M') : mj_G mt R Fi ex bc bs pc ls (As.reverse ++ .ref k :: rest) g M :=
  mg_callV hd hlk hy.1.1 hy.1.2.1 hy.1.2.2.1 hy.1.2.2.2 hy.2.1 hR hrest hk hkk hcl ⟨Nat.zero_le _, Nat.zero_le _⟩ (fun h => by cases h) (fun _ r g' M' h => by rw [h.1]; rfl) (hC d0 (Nat.le_refl _)) (fun X g' M' h => h.elim) (fun r g' M' h => by obtain ⟨rfl, v, rfl, h⟩ := h; exact K v M' h)
theorem ml_Vv (As rest : List Value) {k ci nk NN : Nat} {TT : u_T} {q : mj_M → Prop} (hd : decode mt.2.1 pc = .ok (.invokevirtual idx, 3)) (hlk : Cond.methodLink mt.1 idx y ∈ lw_good) (hy : mj_cV y cc' nL' ret' As.length) (hrest : (rest.map fun v => v.category).sum ≤ 8) (hk : k < g.1) (hkk : g.2.1 k = (0, ci, nk)) (hcl : mj_cl[ci]? = some (y.cls, TT, NN)) (hR : d0 + 1 ≤ R.frames ∧ 8 + (nL' + 11) + 38 * d0 ≤ R.locals)
    (hC : mj_CV y (.code y cc' nL' ret') d0 (.ref k :: As) g M q) (K : ∀ M', q M' → mj_G mt R Fi ex bc bs (pc + 3) ls rest g M') : mj_G mt R Fi ex bc bs pc ls (As.reverse ++ .ref k :: rest) g M :=
  mg_callV hd hlk hy.1.1 hy.1.2.1 hy.1.2.2.1 hy.1.2.2.2 hy.2.1 hR hrest hk hkk hcl ⟨Nat.zero_le _, Nat.zero_le _⟩ (fun h => by cases h) (fun _ r g' M' h => by rw [h.1]; rfl) (hC d0 (Nat.le_refl _)) (fun X g' M' h => h.elim) (fun r g' M' h => by obtain ⟨rfl, rfl, h⟩ := h; exact K M' h)
theorem mg_exF (k : mj_G mt R Fi false bc bs pc ls st g M) : mj_G mt R Fi ex bc bs pc ls st g M := by
  intro p l e s m args below meth c E C H locs cells slots hw hS hc hs hex lr hl
  exact k p l e s m args below meth c E C H locs cells slots hw hS hc hs (fun h => by cases h) lr hl
end MGS
