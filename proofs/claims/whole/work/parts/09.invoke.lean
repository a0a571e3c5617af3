/-! calls in the small machine -/
theorem mj_hR {d d' mc ms nL : Nat} (h : d' + 1 ≤ d) (hn : nL ≤ 19) : d' + 1 ≤ (mj_rm d mc ms).frames ∧ 8 + (nL + 11) + 38 * d' ≤ (mj_rm d mc ms).locals := by
  refine ⟨h, ?_⟩
  show 8 + (nL + 11) + 38 * d' ≤ 38 * d
  omega
section MGD
variable {mt : mj_T} {R : Room} {Fi : mj_F} {ex ex' : Bool} {bc bs pc : Nat} {ls : List (Nat × Value)} {g : mj_S} {M : mj_M} {d' mc' ms' : Nat} {q : mj_Qn} {qx : mj_Qx} {rest As : List Value} {y : MethodName} {cc' : ByteArray} {nL' idx : Nat} {ret' : Option FieldType}
theorem mj_callk {p : Program} {l : Launch} {e : Env} {s : State} {m : MethodId} {args : Array Value} {below : List Frame} {meth : Method} {c : Code} {E : mj_E} {H : Heap} {locs : List Loc} {cells slots : Nat} {lr : Array Slot} {st0 : List Value} {a : Array Value}
    (X : mj_CX mt p l s m args meth c E) (hS : va_S (mj_A E.1) s.heap H locs) (hc : cells + bc ≤ R.cells) (hs : slots + bs ≤ R.slots) (hex : ex = true → s.heap.size + cells = E.1 + g.1) (hl : lv_has lr mt.2.2.1 (mj_ls E ls)) (hbc : mc' ≤ bc ∧ ms' ≤ bs) (hcnt : ex = true → ∀ r g' M', q r g' M' → g'.1 = g.1 + mc')
    (hr : vx_Run p l e R s m args below meth c H locs cells slots mc' ms' (F0 m pc lr st0) (rest.map (mj_rv E)) (mj_Qc E q a) (mj_Xc E qx) (mj_A E.1))
    (KX : ∀ X g' M', qx X g' M' → mj_GX mt R Fi ex (bc - mc') (bs - ms') pc ls rest g' M' X)
    (K : ∀ r g' M', q r g' M' → mj_G mt R Fi ex (bc - mc') (bs - ms') (pc + 3) ls (r.toList ++ rest) g' M') : W p l e R s m args below meth c H locs cells slots (Fi below args s E) (F0 m pc lr st0) := by
  refine mj_go hr hS (fun Y ce q9 g' M' H1 locs1 hq hw1 hS1 h1 h2 h3 => ?_) (fun r g' M' H1 locs1 hq hw1 hS1 => ?_)
  · exact KX Y g' M' hq p l e s m args below meth c E X H1 locs1 _ _ hw1 hS1 (by omega) (by omega) lr hl q9 ce h1 h2 h3
  · have hst : (r.map (mj_rv E)).toList ++ rest.map (mj_rv E) = (r.toList ++ rest).map (mj_rv E) := by cases r <;> simp
    rw [hst]
    exact K r g' M' hq p l e s m args below meth c E X H1 locs1 _ _ hw1 hS1 (by omega) (by omega) (fun h => by have h1 := hex h; have h2 := hcnt h r g' M' hq; omega) lr hl
theorem mj_catsum (E : mj_E) (rest : List Value) : ((rest.map (mj_rv E)).map fun v => v.category).sum = (rest.map fun v => v.category).sum := by
  rw [List.map_map]
  congr 1
  exact List.map_congr_left (fun v _ => mj_rv_cat E v)
theorem mg_callS (hd : decode mt.2.1 pc = .ok (.invokestatic idx, 3)) (hlk : Cond.methodLink mt.1 idx y ∈ lw_good) (hst : Cond.static y ∈ lw_good) (hini : Cond.initialized y.cls ∈ lw_good) (hcd : Cond.code y cc' nL' ret' ∈ lw_good)
    (hdd : y.cls ≠ "java/lang/invoke/MethodHandle" ∧ y.cls ≠ "java/lang/invoke/VarHandle" ∧ (parseMethodDescriptor y.desc).map (fun d => d.parameters.length) = some As.length) (hR : d' + 1 ≤ R.frames ∧ 8 + (nL' + 11) + 38 * d' ≤ R.locals) (hrest : (rest.map fun v => v.category).sum ≤ 8)
    (hbc : mc' ≤ bc ∧ ms' ≤ bs) (hexx : ex' = true → ex = true) (hcnt : ex = true → ∀ r g' M', q r g' M' → g'.1 = g.1 + mc') (hC : mj_C y (.code y cc' nL' ret') ex' d' mc' ms' As g M q qx)
    (KX : ∀ X g' M', qx X g' M' → mj_GX mt R Fi ex (bc - mc') (bs - ms') pc ls rest g' M' X)
    (K : ∀ r g' M', q r g' M' → mj_G mt R Fi ex (bc - mc') (bs - ms') (pc + 3) ls (r.toList ++ rest) g' M') : mj_G mt R Fi ex bc bs pc ls (As.reverse ++ rest) g M := by
  intro p l e s m args below meth c E X H locs cells slots hw hS hc hs hex lr hl
  have main : (ex' = true → H.size = E.1 + g.1) → W p l e R s m args below meth c H locs cells slots (Fi below args s E) (F0 m pc lr ((As.reverse ++ rest).map (mj_rv E))) := by
    intro hsz
    refine mj_callk X hS hc hs hex hl hbc hcnt (a := (As.map (mj_rv E)).toArray) ?_ KX K
    exact vx_runS (Ts := lw_good) (own := mt.1) (n := As.length) ⟨X.1, X.2.2.1, X.2.2.2.1, X.2.2.2.2.1, X.2.2.2.2.2.1⟩ (hC l E X.2.1) ⟨callB_of _ X.2.2.2.2.2.1 (mj_goodIn hcd) rfl rfl rfl (X.2.2.2.2.2.1 _ hini) (X.2.2.2.2.2.1 _ hlk) hdd hR, X.2.2.2.2.2.1 _ hst⟩ ⟨mj_blind, mj_pre X hw hS hsz⟩ rfl (by simp) hl.1 (by simp [List.map_append, List.map_reverse]) (lv_room (by rw [mj_catsum]; exact hrest)) hd ⟨by omega, by omega⟩
  cases hx : ex' with
  | false => exact main (fun h => by rw [hx] at h; cases h)
  | true => exact mj_size hw hS (hex (hexx hx)) X.2.2.2.2.2.2.2.2.2.2.2.2.2.2.2.2.2.2.2.2.2.2.2 (fun h => main (fun _ => h))
theorem mg_callSN {host : String} (i9 : Nat) (hd : decode mt.2.1 pc = .ok (.invokestatic idx, 3)) (hlk : mj_nest[i9]? = some (mt.1, idx, y, host)) (hst : Cond.static y ∈ lw_good) (hini : Cond.initialized y.cls ∈ lw_good) (hcd : Cond.code y cc' nL' ret' ∈ lw_good)
    (hdd : y.cls ≠ "java/lang/invoke/MethodHandle" ∧ y.cls ≠ "java/lang/invoke/VarHandle" ∧ (parseMethodDescriptor y.desc).map (fun d => d.parameters.length) = some As.length) (hR : d' + 1 ≤ R.frames ∧ 8 + (nL' + 11) + 38 * d' ≤ R.locals) (hrest : (rest.map fun v => v.category).sum ≤ 8)
    (hbc : mc' ≤ bc ∧ ms' ≤ bs) (hexx : ex' = true → ex = true) (hcnt : ex = true → ∀ r g' M', q r g' M' → g'.1 = g.1 + mc') (hC : mj_C y (.code y cc' nL' ret') ex' d' mc' ms' As g M q qx)
    (KX : ∀ X g' M', qx X g' M' → mj_GX mt R Fi ex (bc - mc') (bs - ms') pc ls rest g' M' X)
    (K : ∀ r g' M', q r g' M' → mj_G mt R Fi ex (bc - mc') (bs - ms') (pc + 3) ls (r.toList ++ rest) g' M') : mj_G mt R Fi ex bc bs pc ls (As.reverse ++ rest) g M := by
  intro p l e s m args below meth c E X H locs cells slots hw hS hc hs hex lr hl
  have main : (ex' = true → H.size = E.1 + g.1) → W p l e R s m args below meth c H locs cells slots (Fi below args s E) (F0 m pc lr ((As.reverse ++ rest).map (mj_rv E))) := by
    intro hsz
    refine mj_callk X hS hc hs hex hl hbc hcnt (a := (As.map (mj_rv E)).toArray) ?_ KX K
    exact vx_runSN (Ts := lw_good) (own := mt.1) (n := As.length) ⟨X.1, X.2.2.1, X.2.2.2.1, X.2.2.2.2.1, X.2.2.2.2.2.1⟩ (hC l E X.2.1) ⟨va_cnB _ X.2.2.2.2.2.1 (mj_goodIn hcd) rfl rfl rfl (X.2.2.2.2.2.2.2.2.2.2.2.1 _ (List.mem_of_getElem? hlk)) (X.2.2.2.2.2.1 _ hini) hdd hR, X.2.2.2.2.2.1 _ hst, trivial⟩ ⟨mj_blind, mj_pre X hw hS hsz⟩ rfl (by simp) hl.1 (by simp [List.map_append, List.map_reverse]) (lv_room (by rw [mj_catsum]; exact hrest)) hd ⟨by omega, by omega⟩
  cases hx : ex' with
  | false => exact main (fun h => by rw [hx] at h; cases h)
  | true => exact mj_size hw hS (hex (hexx hx)) X.2.2.2.2.2.2.2.2.2.2.2.2.2.2.2.2.2.2.2.2.2.2.2 (fun h => main (fun _ => h))
theorem mg_callV {k ci nk NN : Nat} {TT : u_T} (hd : decode mt.2.1 pc = .ok (.invokevirtual idx, 3)) (hlk : Cond.methodLink mt.1 idx y ∈ lw_good) (hin : Cond.instanceMethod y ∈ lw_good) (hse : Cond.selects y.cls y y ∈ lw_good) (hini : Cond.initialized y.cls ∈ lw_good) (hcd : Cond.code y cc' nL' ret' ∈ lw_good)
    (hdd : y.cls ≠ "java/lang/invoke/MethodHandle" ∧ y.cls ≠ "java/lang/invoke/VarHandle" ∧ (parseMethodDescriptor y.desc).map (fun d => d.parameters.length) = some As.length) (hR : d' + 1 ≤ R.frames ∧ 8 + (nL' + 11) + 38 * d' ≤ R.locals) (hrest : (rest.map fun v => v.category).sum ≤ 8)
    (hk : k < g.1) (hkk : g.2.1 k = (0, ci, nk)) (hcl : mj_cl[ci]? = some (y.cls, TT, NN))
    (hbc : mc' ≤ bc ∧ ms' ≤ bs) (hexx : ex' = true → ex = true) (hcnt : ex = true → ∀ r g' M', q r g' M' → g'.1 = g.1 + mc') (hC : mj_C y (.code y cc' nL' ret') ex' d' mc' ms' (.ref k :: As) g M q qx)
    (KX : ∀ X g' M', qx X g' M' → mj_GX mt R Fi ex (bc - mc') (bs - ms') pc ls rest g' M' X)
    (K : ∀ r g' M', q r g' M' → mj_G mt R Fi ex (bc - mc') (bs - ms') (pc + 3) ls (r.toList ++ rest) g' M') : mj_G mt R Fi ex bc bs pc ls (As.reverse ++ .ref k :: rest) g M := by
  intro p l e s m args below meth c E X H locs cells slots hw hS hc hs hex lr hl
  have main : (ex' = true → H.size = E.1 + g.1) → W p l e R s m args below meth c H locs cells slots (Fi below args s E) (F0 m pc lr ((As.reverse ++ .ref k :: rest).map (mj_rv E))) := by
    intro hsz
    refine mj_callk X hS hc hs hex hl hbc hcnt (a := (Value.ref (mj_ad E k) :: As.map (mj_rv E)).toArray) ?_ KX K
    exact vx_runV (Ts := lw_good) (own := mt.1) (C := y.cls) (n := As.length) ⟨X.1, X.2.2.1, X.2.2.2.1, X.2.2.2.2.1, X.2.2.2.2.2.1⟩ (hC l E X.2.1) ⟨callB_of _ X.2.2.2.2.2.1 (mj_goodIn hcd) rfl rfl rfl (X.2.2.2.2.2.1 _ hini) (X.2.2.2.2.2.1 _ hlk) hdd hR, X.2.2.2.2.2.1 _ hin, X.2.2.2.2.2.1 _ hse⟩ ⟨mj_blind, va_recv X.2.2.2.2.2.2.2.2.2.2.1 hw.1 hcl (by rw [mj_ws_at hk, mj_cell_obj hkk]), mj_pre X hw hS hsz⟩ rfl (by simp) hl.1 (by simp [List.map_append, List.map_reverse, mj_rv]) (lv_room (by rw [mj_catsum]; exact hrest)) hd ⟨by omega, by omega⟩
  cases hx : ex' with
  | false => exact main (fun h => by rw [hx] at h; cases h)
  | true => exact mj_size hw hS (hex (hexx hx)) X.2.2.2.2.2.2.2.2.2.2.2.2.2.2.2.2.2.2.2.2.2.2.2 (fun h => main (fun _ => h))
theorem mg_callI {k : Nat} (hd : decode mt.2.1 pc = .ok (.invokespecial idx, 3)) (hlk : Cond.methodLink mt.1 idx y ∈ lw_good) (hnm : y.name = "<init>") (hin : Cond.instanceMethod y ∈ lw_good) (hini : Cond.initialized y.cls ∈ lw_good) (hcd : Cond.code y cc' nL' none ∈ lw_good)
    (hdd : y.cls ≠ "java/lang/invoke/MethodHandle" ∧ y.cls ≠ "java/lang/invoke/VarHandle" ∧ (parseMethodDescriptor y.desc).map (fun d => d.parameters.length) = some As.length) (hR : d' + 1 ≤ R.frames ∧ 8 + (nL' + 11) + 38 * d' ≤ R.locals) (hrest : (rest.map fun v => v.category).sum ≤ 8)
    (hbc : mc' ≤ bc ∧ ms' ≤ bs) (hexx : ex' = true → ex = true) (hcnt : ex = true → ∀ r g' M', q r g' M' → g'.1 = g.1 + mc') (hC : mj_C y (.code y cc' nL' none) ex' d' mc' ms' (.ref k :: As) g M q qx)
    (KX : ∀ X g' M', qx X g' M' → mj_GX mt R Fi ex (bc - mc') (bs - ms') pc ls rest g' M' X)
    (K : ∀ r g' M', q r g' M' → mj_G mt R Fi ex (bc - mc') (bs - ms') (pc + 3) ls (r.toList ++ rest) g' M') : mj_G mt R Fi ex bc bs pc ls (As.reverse ++ .ref k :: rest) g M := by
  intro p l e s m args below meth c E X H locs cells slots hw hS hc hs hex lr hl
  have main : (ex' = true → H.size = E.1 + g.1) → W p l e R s m args below meth c H locs cells slots (Fi below args s E) (F0 m pc lr ((As.reverse ++ .ref k :: rest).map (mj_rv E))) := by
    intro hsz
    refine mj_callk X hS hc hs hex hl hbc hcnt (a := (Value.ref (mj_ad E k) :: As.map (mj_rv E)).toArray) ?_ KX K
    exact vx_runI (Ts := lw_good) (own := mt.1) (n := As.length) ⟨X.1, X.2.2.1, X.2.2.2.1, X.2.2.2.2.1, X.2.2.2.2.2.1⟩ (hC l E X.2.1) ⟨callB_of _ X.2.2.2.2.2.1 (mj_goodIn hcd) rfl rfl rfl (X.2.2.2.2.2.1 _ hini) (X.2.2.2.2.2.1 _ hlk) hdd hR, hnm, X.2.2.2.2.2.1 _ hin⟩ ⟨mj_blind, mj_pre X hw hS hsz⟩ rfl (by simp) hl.1 (by simp [List.map_append, List.map_reverse, mj_rv]) (lv_room (by rw [mj_catsum]; exact hrest)) hd ⟨by omega, by omega⟩
  cases hx : ex' with
  | false => exact main (fun h => by rw [hx] at h; cases h)
  | true => exact mj_size hw hS (hex (hexx hx)) X.2.2.2.2.2.2.2.2.2.2.2.2.2.2.2.2.2.2.2.2.2.2.2 (fun h => main (fun _ => h))
theorem mg_callIN {k : Nat} {host : String} (i9 : Nat) (hd : decode mt.2.1 pc = .ok (.invokespecial idx, 3)) (hlk : mj_nest[i9]? = some (mt.1, idx, y, host)) (hnm : y.name = "<init>") (hin : Cond.instanceMethod y ∈ lw_good) (hini : Cond.initialized y.cls ∈ lw_good) (hcd : Cond.code y cc' nL' none ∈ lw_good)
    (hdd : y.cls ≠ "java/lang/invoke/MethodHandle" ∧ y.cls ≠ "java/lang/invoke/VarHandle" ∧ (parseMethodDescriptor y.desc).map (fun d => d.parameters.length) = some As.length) (hR : d' + 1 ≤ R.frames ∧ 8 + (nL' + 11) + 38 * d' ≤ R.locals) (hrest : (rest.map fun v => v.category).sum ≤ 8)
    (hbc : mc' ≤ bc ∧ ms' ≤ bs) (hexx : ex' = true → ex = true) (hcnt : ex = true → ∀ r g' M', q r g' M' → g'.1 = g.1 + mc') (hC : mj_C y (.code y cc' nL' none) ex' d' mc' ms' (.ref k :: As) g M q qx)
    (KX : ∀ X g' M', qx X g' M' → mj_GX mt R Fi ex (bc - mc') (bs - ms') pc ls rest g' M' X)
    (K : ∀ r g' M', q r g' M' → mj_G mt R Fi ex (bc - mc') (bs - ms') (pc + 3) ls (r.toList ++ rest) g' M') : mj_G mt R Fi ex bc bs pc ls (As.reverse ++ .ref k :: rest) g M := by
  intro p l e s m args below meth c E X H locs cells slots hw hS hc hs hex lr hl
  have main : (ex' = true → H.size = E.1 + g.1) → W p l e R s m args below meth c H locs cells slots (Fi below args s E) (F0 m pc lr ((As.reverse ++ .ref k :: rest).map (mj_rv E))) := by
    intro hsz
    refine mj_callk X hS hc hs hex hl hbc hcnt (a := (Value.ref (mj_ad E k) :: As.map (mj_rv E)).toArray) ?_ KX K
    exact vx_runIN (Ts := lw_good) (own := mt.1) (n := As.length) ⟨X.1, X.2.2.1, X.2.2.2.1, X.2.2.2.2.1, X.2.2.2.2.2.1⟩ (hC l E X.2.1) ⟨va_cnB _ X.2.2.2.2.2.1 (mj_goodIn hcd) rfl rfl rfl (X.2.2.2.2.2.2.2.2.2.2.2.1 _ (List.mem_of_getElem? hlk)) (X.2.2.2.2.2.1 _ hini) hdd hR, hnm, X.2.2.2.2.2.1 _ hin⟩ ⟨mj_blind, mj_pre X hw hS hsz⟩ rfl (by simp) hl.1 (by simp [List.map_append, List.map_reverse, mj_rv]) (lv_room (by rw [mj_catsum]; exact hrest)) hd ⟨by omega, by omega⟩
  cases hx : ex' with
  | false => exact main (fun h => by rw [hx] at h; cases h)
  | true => exact mj_size hw hS (hex (hexx hx)) X.2.2.2.2.2.2.2.2.2.2.2.2.2.2.2.2.2.2.2.2.2.2.2 (fun h => main (fun _ => h))
end MGD
