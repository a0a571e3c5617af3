/-! ends, entry, calls -/
section MGC
variable {mt : mj_T} {R : Room} {Fi : mj_F} {ex : Bool} {bc bs pc : Nat} {ls : List (Nat × Value)} {st : List Value} {g : mj_S} {M : mj_M} {d mc ms : Nat} {Qn : mj_Qn} {Qx : mj_Qx}
theorem mg_iret {v : Int32} (hd : decode mt.2.1 pc = .ok (.ireturn, 1)) (hr : mt.2.2.2.1 = some .int) (hq : Qn (some (.int v)) g M) : mj_G mt (mj_rm d mc ms) (mj_Fi Qn Qx mc ms) ex bc bs pc ls [.int v] g M := by
  intro p l e s m args below meth c E X H locs cells slots hw hS hc hs hex lr hl
  have hc' : cells + bc ≤ mc := hc
  have hs' : slots + bs ≤ ms := hs
  refine W.widen (k := mc) (n := ms) (by omega) (by omega) ?_
  refine vx_ret ?_
  exact W.iret X.1 X.2.2.1 (X.2.2.2.2.2.2.2.1.trans hr) (fun t ht hW => ⟨⟨some (.int v), g, M, rfl, hq, by rw [ht]; exact hw⟩, hS.F ht⟩) hS.2.2 hd X.2.2.2.2.2.2.1
theorem mg_zret {v : Int32} (hd : decode mt.2.1 pc = .ok (.ireturn, 1)) (hr : mt.2.2.2.1 = some .boolean) (h01 : v = 0 ∨ v = 1) (hq : Qn (some (.int v)) g M) : mj_G mt (mj_rm d mc ms) (mj_Fi Qn Qx mc ms) ex bc bs pc ls [.int v] g M := by
  intro p l e s m args below meth c E X H locs cells slots hw hS hc hs hex lr hl
  have hc' : cells + bc ≤ mc := hc
  have hs' : slots + bs ≤ ms := hs
  refine W.widen (k := mc) (n := ms) (by omega) (by omega) ?_
  refine vx_ret ?_
  exact W.zret X.1 X.2.2.1 (X.2.2.2.2.2.2.2.1.trans hr) (by rcases h01 with rfl | rfl <;> decide +kernel) (fun t ht hW => ⟨⟨some (.int v), g, M, rfl, hq, by rw [ht]; exact hw⟩, hS.F ht⟩) hS.2.2 hd X.2.2.2.2.2.2.1
theorem mg_lret {v : Int64} (hd : decode mt.2.1 pc = .ok (.lreturn, 1)) (hr : mt.2.2.2.1 = some .long) (hq : Qn (some (.long v)) g M) : mj_G mt (mj_rm d mc ms) (mj_Fi Qn Qx mc ms) ex bc bs pc ls [.long v] g M := by
  intro p l e s m args below meth c E X H locs cells slots hw hS hc hs hex lr hl
  have hc' : cells + bc ≤ mc := hc
  have hs' : slots + bs ≤ ms := hs
  refine W.widen (k := mc) (n := ms) (by omega) (by omega) ?_
  refine vx_ret ?_
  exact W.lret X.1 X.2.2.1 (X.2.2.2.2.2.2.2.1.trans hr) (fun t ht hW => ⟨⟨some (.long v), g, M, rfl, hq, by rw [ht]; exact hw⟩, hS.F ht⟩) hS.2.2 hd X.2.2.2.2.2.2.1
theorem mg_vret (hd : decode mt.2.1 pc = .ok (.return_, 1)) (hr : mt.2.2.2.1 = none) (hq : Qn none g M) : mj_G mt (mj_rm d mc ms) (mj_Fi Qn Qx mc ms) ex bc bs pc ls [] g M := by
  intro p l e s m args below meth c E X H locs cells slots hw hS hc hs hex lr hl
  have hc' : cells + bc ≤ mc := hc
  have hs' : slots + bs ≤ ms := hs
  refine W.widen (k := mc) (n := ms) (by omega) (by omega) ?_
  refine vx_ret ?_
  exact W.vret X.1 X.2.2.1 (X.2.2.2.2.2.2.2.1.trans hr) (fun t ht hW => ⟨⟨none, g, M, rfl, hq, by rw [ht]; exact hw⟩, hS.F ht⟩) hS.2.2 hd X.2.2.2.2.2.2.1
theorem mj_args (E : mj_E) : ∀ (As : List Value) (i : Nat), lv_args i (As.map (mj_rv E)) = mj_ls E (lv_args i As)
  | [], _ => rfl
  | v :: t, i => by
    show (i, mj_rv E v) :: lv_args (if (mj_rv E v).category = 2 then i + 2 else i + 1) (t.map (mj_rv E)) = (i, mj_rv E v) :: mj_ls E (lv_args (if v.category = 2 then i + 2 else i + 1) t)
    rw [mj_rv_cat, mj_args E t]
theorem mj_sl_len (E : mj_E) : ∀ As : List Value, (lg_sl (As.map (mj_rv E))).length = (lg_sl As).length
  | [] => rfl
  | v :: t => by
    have h := mj_sl_len E t
    unfold lg_sl at h ⊢
    simp only [List.map_cons, List.flatMap_cons, List.length_append, h, mj_rv_cat]
    split <;> rfl
/-- no handlers -/
def mj_no : Code → mj_E → Prop := fun c _ => ∀ x ∈ c.exceptionTable.toList, False
/-- a contract out of the walk of the body -/
theorem mj_enter {y : MethodName} {cc : ByteArray} {nL : Nat} {ret : Option FieldType} {As : List Value} (hy : plainName y.cls = true) (hlen : (lg_sl As).length ≤ nL)
    (K : mj_G (y.cls, cc, nL, ret, mj_no, y.name) (mj_rm d mc ms) (mj_Fi Qn Qx mc ms) ex mc ms 0 (lv_args 0 As) [] g M) : mj_C y (.code y cc nL ret) ex d mc ms As g M Qn Qx := by
  intro l E hl9
  refine vx_ofW (cc := cc) (maxL := nL) (ret := ret) hy rfl ?_
  intro p e s m args below meth c s₁ B hml hno hv
  obtain ⟨rfl, hE, hw, hex⟩ := hv
  have hts := atoms_spec (ws := Cond.code y cc nL ret :: lw_good) B.pre
  have hl := lv_entry (As.map (mj_rv E)) (n := nL) (by rw [mj_sl_len]; exact hlen)
  rw [mj_args] at hl
  rw [lg_entry_eq]
  exact K p l e s m _ below meth c E ⟨B.exec, hl9, B.bytes, hml, findClass_of_methodNamed B.named, fun w hw => hts w (List.mem_cons_of_mem _ hw), B.notSynchronized, B.returns, hno, (name_of_methodNamed B.named B.method).1, hE⟩ s.heap [] 0 0 hw va_S.rf (Nat.le_of_eq (Nat.zero_add _)) (Nat.le_of_eq (Nat.zero_add _)) (fun h => by have := hex h; omega) _ hl
/-- a throw is under way -/
def mj_GX (mt : mj_T) (R : Room) (Fi : mj_F) (ex : Bool) (bc bs : Nat) (pc : Nat) (ls : List (Nat × Value)) (st : List Value) (g : mj_S) (M : mj_M) (X : String) : Prop :=
  ∀ (p : Program) (l : Launch) (e : Env) (s : State) (m : MethodId) (args : Array Value) (below : List Frame) (meth : Method) (c : Code) (E : mj_E), mj_CX mt p l s m args meth c E →
  ∀ (H : Heap) (locs : List Loc) (cells slots : Nat), mj_Wd E g M H → va_S (mj_A E.1) s.heap H locs → cells + bc ≤ R.cells → slots + bs ≤ R.slots →
  ∀ lr : Array Slot, lv_has lr mt.2.2.1 (mj_ls E ls) → ∀ (q : Addr) (ce : Cell), H[q]? = some ce → ce.vm = .none → s.vm.findClass X = some ce.cls → vx_W p l e R s m args below meth c H locs cells slots (Fi below args s E) (F0 m pc lr (st.map (mj_rv E))) q
theorem mgx_out {X : String} (hno : ∀ c E, mt.2.2.2.2.1 c E → mj_no c E) (hq : Qx X g M) : mj_GX mt (mj_rm d mc ms) (mj_Fi Qn Qx mc ms) ex bc bs pc ls st g M X := by
  intro p l e s m args below meth c E C H locs cells slots hw hS hc hs lr hl q ce hq9 hv hcl
  have hc' : cells + bc ≤ mc := hc
  have hs' : slots + bs ≤ ms := hs
  exact vx_out (fun x hx => (hno c E C.2.2.2.2.2.2.2.2.1 x hx).elim) C.2.2.2.2.2.2.1 hq9 hv hcl (fun t ht _ => ⟨⟨g, M, hq, by rw [ht]; exact hw⟩, hS.F ht⟩) hS.2.2 (by omega) (by omega)
section
variable {p : Program} {l : Launch} {e : Env} {s : State} {m : MethodId} {args : Array Value} {below : List Frame} {meth : Method} {c : Code} {E : mj_E} {H : Heap} {locs : List Loc} {cells slots : Nat} {Q : State → Prop}
theorem mj_go {lr : Array Slot} {st0 rest : List Value} {mc' ms' : Nat} {q : mj_Qn} {qx : mj_Qx} {a : Array Value} (hr : vx_Run p l e R s m args below meth c H locs cells slots mc' ms' (F0 m pc lr st0) rest (mj_Qc E q a) (mj_Xc E qx) (mj_A E.1)) (hS : va_S (mj_A E.1) s.heap H locs)
    (kx : ∀ (X : String) (ce : Cell) (q9 : Addr) (g' : mj_S) (M' : mj_M) (H1 : Heap) (locs1 : List Loc), qx X g' M' → mj_Wd E g' M' H1 → va_S (mj_A E.1) s.heap H1 locs1 → H1[q9]? = some ce → ce.vm = .none → s.vm.findClass X = some ce.cls → vx_W p l e R s m args below meth c H1 locs1 (cells + mc') (slots + ms') Q (F0 m pc lr rest) q9)
    (kk : ∀ (r : Option Value) (g' : mj_S) (M' : mj_M) (H1 : Heap) (locs1 : List Loc), q r g' M' → mj_Wd E g' M' H1 → va_S (mj_A E.1) s.heap H1 locs1 → W p l e R s m args below meth c H1 locs1 (cells + mc') (slots + ms') Q (F0 m (pc + 3) lr ((r.map (mj_rv E)).toList ++ rest))) : W p l e R s m args below meth c H locs cells slots Q (F0 m pc lr st0) := by
  intro T hT X
  rcases hr T hT X with ⟨v, st₀, t, T', L, h0, X', hL, e1, e2, ⟨⟨r, g', M', hv, hq, hw'⟩, hF⟩, st⟩ | ⟨q9, st₀, t, T', L, EE, ce, h0, X', hL, e1, e2, ⟨⟨g', M', hq, hw'⟩, hF⟩, hce, hcv, hcl, st⟩
  · cases hv
    obtain ⟨k1, k2, k3⟩ := vx_keep h0 e1 hS (fun _ _ h => h) (fun _ h => h) hL hF
    obtain ⟨t2, a1, b1⟩ := kk r g' M' T'.heap (locs ++ L) hq (by rw [e1]; exact hw') k3 T' rfl X'
    exact ⟨t2, st t2 a1, b1⟩
  · obtain ⟨k1, k2, k3⟩ := vx_keep h0 e1 hS (fun _ _ h => h) (fun _ h => h) hL hF
    obtain ⟨t2, a1, b1⟩ := kx EE ce q9 g' M' T'.heap (locs ++ L) hq (by rw [e1]; exact hw') k3 (by rw [e1]; exact hce) hcv hcl T' rfl X'
    exact ⟨t2, st.trans a1, b1⟩
end
theorem mj_goodIn {hd9 : Cond} (h : hd9 ∈ lw_good) : GoodIn lw_good (hd9 :: lw_good) := fun w hw => by
  rcases List.mem_cons.mp hw with rfl | hw
  · exact ⟨h, (mj_good h).2⟩
  · exact ⟨hw, (mj_good hw).2⟩
theorem mj_blind {E : mj_E} {As : List Value} : FrameBlind (mj_Pc E ex As g M) := fun a U gg mk h => by
  obtain ⟨h1, h2, h3, h4⟩ := h
  exact ⟨h1, h2.same rfl rfl, h3, h4⟩
theorem mj_S.kept {E : mj_E} {H0 H : Heap} {locs : List Loc} (h : va_S (mj_A E.1) H0 H locs) : mj_kept E.1 H0 H := ⟨h.1, h.2.1⟩
/-- what a callee's start asks -/
theorem mj_pre {p : Program} {l : Launch} {s : State} {m : MethodId} {args : Array Value} {meth : Method} {c : Code} {E : mj_E} {H : Heap} {locs : List Loc} {As : List Value} {ex' : Bool} (X : mj_CX mt p l s m args meth c E) (hw : mj_Wd E g M H) (hS : va_S (mj_A E.1) s.heap H locs) (hx : ex' = true → H.size = E.1 + g.1) : ∀ U : State, U.heap = H → s.WarmedH U.vm → mj_Pc E ex' As g M (As.map (mj_rv E)).toArray U := fun U hU hW =>
  ⟨rfl, X.2.2.2.2.2.2.2.2.2.2.warm hW (by rw [hU]; exact mj_S.kept hS), by rw [hU]; exact hw, fun h => by rw [hU]; exact hx h⟩
/-- the heap's size where cells are made side by side -/
theorem mj_size {p : Program} {l : Launch} {e : Env} {s : State} {m : MethodId} {args : Array Value} {below : List Frame} {meth : Method} {c : Code} {E : mj_E} {H : Heap} {locs : List Loc} {cells slots : Nat} {Q : State → Prop} {gg : JFrame} (hw : mj_Wd E g M H) (hS : va_S (mj_A E.1) s.heap H locs) (hsz : s.heap.size + cells = E.1 + g.1) (h0 : E.1 ≤ s.heap.size)
    (K : H.size = E.1 + g.1 → W p l e R s m args below meth c H locs cells slots Q gg) : W p l e R s m args below meth c H locs cells slots Q gg := by
  intro T hT X
  have h1 := X.same.2.2.1
  have h2 : T.heap.size ≤ s.heap.size + cells := h1
  refine K ?_ T hT X
  rw [hT] at h2
  have h3 : E.1 + g.1 ≤ H.size := by
    rcases Nat.eq_zero_or_pos g.1 with hz | hz
    · have := hS.1; omega
    · have h4 := (hw.1 (g.1 - 1) _ (mj_ws_at (E := E) (M := M) (show g.1 - 1 < g.1 by omega))).lt
      have h5 : mj_ad E (g.1 - 1) = E.1 + (g.1 - 1) := mj_ad_lt (by have := hw.2; omega)
      simp only [h5] at h4
      omega
  omega
end MGC
