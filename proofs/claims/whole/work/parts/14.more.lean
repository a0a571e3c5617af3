/-! switches, throws, methods that throw -/
theorem mj_neT {x c : Int32} {n : Int} (h : ¬ x = c) (hc : c.toInt = n) : x.toInt ≠ n := fun e => h (Int32.toInt_inj.mp (e.trans hc.symm))
def mj_swok (offs : List Int) (dflt lo : Int) (cs : List Int) : Bool := (List.range offs.length).all (fun i => decide (offs.getD i dflt = dflt) || cs.contains (lo + i))
section MGF
variable {mt : mj_T} {R : Room} {Fi : mj_F} {ex : Bool} {bc bs pc : Nat} {ls : List (Nat × Value)} {st : List Value} {g : mj_S} {M : mj_M}
theorem mg_tblC {dflt lo hi : Int} {offs : Array Int} {len : Nat} {x cv : Int32} {off : Int} {tgt : Nat} (hd : decode mt.2.1 pc = .ok (.tableswitch dflt lo hi offs, len)) (e : x = cv) (h1 : ¬ cv.toInt < lo) (h2 : ¬ hi < cv.toInt) (ho : offs[(cv.toInt - lo).toNat]? = some off) (ht : (pc : Int) + off = (tgt : Int)) (k : mj_G mt R Fi ex bc bs tgt ls st g M) : mj_G mt R Fi ex bc bs pc ls (.int x :: st) g M := by
  subst e
  exact mg_tblIn hd h1 h2 ho ht k
theorem mg_tblD {dflt lo hi : Int} {offs : Array Int} {len : Nat} {x : Int32} {tgt : Nat} (cs : List Int) (hd : decode mt.2.1 pc = .ok (.tableswitch dflt lo hi offs, len)) (hz : (offs.size : Int) = hi - lo + 1) (hok : mj_swok offs.toList dflt lo cs = true) (hcs : ∀ c ∈ cs, x.toInt ≠ c) (ht : (pc : Int) + dflt = (tgt : Int)) (k : mj_G mt R Fi ex bc bs tgt ls st g M) : mj_G mt R Fi ex bc bs pc ls (.int x :: st) g M := by
  by_cases hr : x.toInt < lo ∨ hi < x.toInt
  · exact mg_tblOut hd hr ht k
  · have h1 : ¬ x.toInt < lo := fun h => hr (Or.inl h)
    have h2 : ¬ hi < x.toInt := fun h => hr (Or.inr h)
    have hi' : (x.toInt - lo).toNat < offs.size := by omega
    have hg : offs[(x.toInt - lo).toNat]? = some offs[(x.toInt - lo).toNat] := Array.getElem?_eq_getElem hi'
    have hall := List.all_eq_true.mp hok (x.toInt - lo).toNat (List.mem_range.mpr (by simpa using hi'))
    have hge : offs.toList.getD (x.toInt - lo).toNat dflt = offs[(x.toInt - lo).toNat] := by
      rw [List.getD_eq_getElem?_getD, Array.getElem?_toList, hg]; rfl
    rw [hge] at hall
    rcases (Bool.or_eq_true _ _).mp hall with h | h
    · exact mg_tblIn hd h1 h2 hg (by rw [of_decide_eq_true h]; exact ht) k
    · have hm := List.contains_iff_mem.mp h
      exact absurd (by omega) (hcs _ hm)
end MGF
def mj_nm : List String := ["java/lang/RuntimeException", "java/lang/Exception"]
/-- what the tables say of the making of a text-bearing throw -/
def mj_xw (ik ic : Nat) (cls : String) : Prop := Bundle.fit cls = true ∧ Cond.classLink RX9 ik cls ∈ lw_good ∧ Cond.initialized cls ∈ lw_good ∧ (∀ w ∈ (vx_atS RX9 ic cls mj_nm).filter goodWord, w ∈ lw_tbl) ∧ (∀ w ∈ (vx_atS RX9 ic cls mj_nm).filter (fun w => !goodWord w), w ∈ Cond.castable cls cls :: mj_decl.map Cond.declares) ∧ (∀ w ∈ Cond.classLink RX9 ik cls :: Cond.initialized cls :: vx_atS RX9 ic cls mj_nm, vx_ot w = true) ∧ cls ∈ [mj_IA, mj_IS, mj_IO]
theorem mj_nm_fit : ∀ n ∈ mj_nm, Bundle.fit n = true := by decide +kernel
section MGH
variable {mt : mj_T} {ex : Bool} {bc bs pc : Nat} {ls : List (Nat × Value)} {g : mj_S} {M : mj_M} {d mc ms : Nat} {Qn : mj_Qn} {Qx : mj_Qx}
theorem mg_throw {ik is ic ti : Nat} {cls text : String} (hm : mt.1 = RX9) (hno : mt.2.2.2.2.1 = mj_no) (hw : mj_xw ik ic cls) (htx : mj_txt[ti]? = some (RX9, is, text))
    (d0 : decode mt.2.1 pc = .ok (.new ik, 3)) (d3 : decode mt.2.1 (pc + 3) = .ok (.dup, 1)) (d4 : decode mt.2.1 (pc + 4) = .ok (.ldc is, 2)) (d6 : decode mt.2.1 (pc + 6) = .ok (.invokespecial ic, 3)) (d9 : decode mt.2.1 (pc + 9) = .ok (.athrow, 1))
    (hd : 7 ≤ d) (hbc : 1 ≤ bc) (hbs : 6 ≤ bs) (hq : Qx cls g M) : mj_G mt (mj_rm d mc ms) (mj_Fi Qn Qx mc ms) ex bc bs pc ls [] g M := by
  intro p l e s m args below meth c E X H locs cells slots hWd hS hc hs hex lr hl
  have hc' : cells + bc ≤ mc := hc
  have hs' : slots + bs ≤ ms := hs
  have hEV := X.2.2.2.2.2.2.2.2.2.2
  have hex0 : mj_no c E := by rw [← hno]; exact X.2.2.2.2.2.2.2.2.1
  refine vx_throwS (cls := cls) (own := RX9) (names := mj_nm) (text := text) (sa := E.2.2.2.1 ti) (A := mj_A E.1) X.1 X.2.2.1 X.2.1 (by rw [← hm]; exact X.2.2.2.2.1) hw.1 mj_nm_fit (X.2.2.2.2.2.1 _ hw.2.1) (X.2.2.2.2.2.1 _ hw.2.2.1) (hEV.2.2.2.2.2.1 ti _ htx) ?_ hw.2.2.2.2.2.1 hEV.2.2.2.2.2.2.2.1 hEV.2.2.2.2.2.2.2.2.1 hS (by rw [hl.1]; exact X.2.2.2.1.symm) d0 d3 d4 d6 d9 (fun x hx => (hex0 x hx).elim) (show 2 + 3 < d by omega) (show 0 + (13 * (2 + 1) + 43) ≤ 38 * d by omega) (show cells + 1 ≤ mc by omega) (show slots + 6 ≤ ms by omega) X.2.2.2.2.2.2.1 ?_ hS.2.2 (by omega) (by omega)
  · refine vx_hat (B := Cond.castable cls cls :: mj_decl.map Cond.declares) (fun w hw9 => X.2.2.2.2.2.1 w (List.mem_filter.mpr ⟨hw.2.2.2.1 w hw9, (List.mem_filter.mp hw9).2⟩)) hw.2.2.2.2.1 (fun w hw9 => ?_)
    rcases List.mem_cons.mp hw9 with rfl | hw9
    · exact va_Nw.use rfl (hEV.2.2.2.1 cls hw.2.2.2.2.2.2)
    · obtain ⟨q, hq9, rfl⟩ := List.mem_map.mp hw9
      exact va_Nw.use rfl (hEV.2.2.1 q hq9)
  · intro t _ hz hk
    exact ⟨⟨g, M, hq, hWd.1.kept (fun k x hx => hk x.1 ((hWd.1 k x hx).lt)), hWd.2⟩, Nat.le_trans hS.1 hz, fun x h1 h2 => (hk x (Nat.lt_of_lt_of_le h1 hS.1)).trans (hS.2.1 x h1 h2)⟩
theorem mg_bud {R : Room} {Fi : mj_F} {st : List Value} {bc' bs' : Nat} (h1 : bc' ≤ bc) (h2 : bs' ≤ bs) (k : mj_G mt R Fi ex bc' bs' pc ls st g M) : mj_G mt R Fi ex bc bs pc ls st g M := by
  intro p l e s m args below meth c E X H locs cells slots hw hS hc hs hex lr hl
  exact k p l e s m args below meth c E X H locs cells slots hw hS (by omega) (by omega) hex lr hl
end MGH
def mj_qX (g : mj_S) (qx : String → mj_M → Prop) : mj_Qx := fun X g' M' => g' = g ∧ qx X M'
def mj_CIX (y : MethodName) (hd : Cond) (d0 mc ms : Nat) (As : List Value) (g : mj_S) (M : mj_M) (q : Int32 → mj_M → Prop) (qx : String → mj_M → Prop) : Prop := ∀ d, d0 ≤ d → mj_C y hd false d mc ms As g M (mj_qI g q) (mj_qX g qx)
def mj_CVX (y : MethodName) (hd : Cond) (d0 mc ms : Nat) (As : List Value) (g : mj_S) (M : mj_M) (q : mj_M → Prop) (qx : String → mj_M → Prop) : Prop := ∀ d, d0 ≤ d → mj_C y hd false d mc ms As g M (mj_qV g q) (mj_qX g qx)
section MGI
variable {mt : mj_T} {ex : Bool} {bc bs pc : Nat} {ls : List (Nat × Value)} {g : mj_S} {M : mj_M} {d mc ms d0 mc' ms' : Nat} {y : MethodName} {cc' : ByteArray} {nL' idx : Nat} {ret' : Option FieldType} {Qn : mj_Qn} {qxm : String → mj_M → Prop}
theorem mx_Vv (As rest : List Value) {k ci nk NN : Nat} {TT : u_T} {q : mj_M → Prop} {qx : String → mj_M → Prop} (hd : decode mt.2.1 pc = .ok (.invokevirtual idx, 3)) (hlk : Cond.methodLink mt.1 idx y ∈ lw_good) (hy : mj_cV y cc' nL' ret' As.length) (hrest : (rest.map fun v => v.category).sum ≤ 8) (hk : k < g.1) (hkk : g.2.1 k = (0, ci, nk)) (hcl : mj_cl[ci]? = some (y.cls, TT, NN)) (hdp : d0 + 1 ≤ d) (hbc : mc' ≤ bc ∧ ms' ≤ bs) (hno : mt.2.2.2.2.1 = mj_no) (hex : ex = false)
    (hC : mj_CVX y (.code y cc' nL' ret') d0 mc' ms' (.ref k :: As) g M q qx) (KX : ∀ X M', qx X M' → qxm X M') (K : ∀ M', q M' → mj_G mt (mj_rm d mc ms) (mj_Fi Qn (mj_qX g qxm) mc ms) ex (bc - mc') (bs - ms') (pc + 3) ls rest g M') : mj_G mt (mj_rm d mc ms) (mj_Fi Qn (mj_qX g qxm) mc ms) ex bc bs pc ls (As.reverse ++ .ref k :: rest) g M :=
  mg_callV hd hlk hy.1.1 hy.1.2.1 hy.1.2.2.1 hy.1.2.2.2 hy.2.1 (mj_hR hdp hy.2.2) hrest hk hkk hcl hbc (fun h => by cases h) (fun h => by rw [hex] at h; cases h) (hC d0 (Nat.le_refl _)) (fun X g' M' h => mgx_out (fun c E hc => by rw [hno] at hc; exact hc) ⟨h.1, KX X M' h.2⟩) (fun r g' M' h => by obtain ⟨rfl, rfl, h⟩ := h; exact K M' h)
theorem mx_Vi (As rest : List Value) {k ci nk NN : Nat} {TT : u_T} {q : Int32 → mj_M → Prop} {qx : String → mj_M → Prop} (hd : decode mt.2.1 pc = .ok (.invokevirtual idx, 3)) (hlk : Cond.methodLink mt.1 idx y ∈ lw_good) (hy : mj_cV y cc' nL' ret' As.length) (hrest : (rest.map fun v => v.category).sum ≤ 8) (hk : k < g.1) (hkk : g.2.1 k = (0, ci, nk)) (hcl : mj_cl[ci]? = some (y.cls, TT, NN)) (hdp : d0 + 1 ≤ d) (hbc : mc' ≤ bc ∧ ms' ≤ bs) (hno : mt.2.2.2.2.1 = mj_no) (hex : ex = false)
    (hC : mj_CIX y (.code y cc' nL' ret') d0 mc' ms' (.ref k :: As) g M q qx) (KX : ∀ X M', qx X M' → qxm X M') (K : ∀ v M', q v M' → mj_G mt (mj_rm d mc ms) (mj_Fi Qn (mj_qX g qxm) mc ms) ex (bc - mc') (bs - ms') (pc + 3) ls (.int v :: rest) g M') : mj_G mt (mj_rm d mc ms) (mj_Fi Qn (mj_qX g qxm) mc ms) ex bc bs pc ls (As.reverse ++ .ref k :: rest) g M :=
  mg_callV hd hlk hy.1.1 hy.1.2.1 hy.1.2.2.1 hy.1.2.2.2 hy.2.1 (mj_hR hdp hy.2.2) hrest hk hkk hcl hbc (fun h => by cases h) (fun h => by rw [hex] at h; cases h) (hC d0 (Nat.le_refl _)) (fun X g' M' h => mgx_out (fun c E hc => by rw [hno] at hc; exact hc) ⟨h.1, KX X M' h.2⟩) (fun r g' M' h => by obtain ⟨rfl, v, rfl, h⟩ := h; exact K v M' h)
theorem mex_i {v : Int32} {q : Int32 → mj_M → Prop} {Qx : mj_Qx} (hd : decode mt.2.1 pc = .ok (.ireturn, 1)) (hr : mt.2.2.2.1 = some .int) (hq : q v M) : mj_G mt (mj_rm d mc ms) (mj_Fi (mj_qI g q) Qx mc ms) ex bc bs pc ls [.int v] g M := mg_iret hd hr ⟨rfl, v, rfl, hq⟩
theorem mex_z {v : Int32} {q : Int32 → mj_M → Prop} {Qx : mj_Qx} (hd : decode mt.2.1 pc = .ok (.ireturn, 1)) (hr : mt.2.2.2.1 = some .boolean) (h01 : v = 0 ∨ v = 1) (hq : q v M) : mj_G mt (mj_rm d mc ms) (mj_Fi (mj_qI g q) Qx mc ms) ex bc bs pc ls [.int v] g M := mg_zret hd hr h01 ⟨rfl, v, rfl, hq⟩
theorem mex_v {q : mj_M → Prop} {Qx : mj_Qx} (hd : decode mt.2.1 pc = .ok (.return_, 1)) (hr : mt.2.2.2.1 = none) (hq : q M) : mj_G mt (mj_rm d mc ms) (mj_Fi (mj_qV g q) Qx mc ms) ex bc bs pc ls [] g M := mg_vret hd hr ⟨rfl, rfl, hq⟩
end MGI
theorem xw_IA : mj_xw 55 59 mj_IA := ⟨by decide +kernel, wd_677, wd_16, by decide +kernel, by decide +kernel, by decide +kernel, by decide +kernel⟩
theorem xw_IS : mj_xw 152 156 mj_IS := ⟨by decide +kernel, wd_763, wd_17, by decide +kernel, by decide +kernel, by decide +kernel, by decide +kernel⟩
theorem xw_IO : mj_xw 107 111 mj_IO := ⟨by decide +kernel, wd_821, wd_18, by decide +kernel, by decide +kernel, by decide +kernel, by decide +kernel⟩
