/-! cells are made -/
def mj_gA (g : mj_S) (kd : Nat × Nat × Nat) : mj_S := (g.1 + 1, fun k => if k = g.1 then kd else g.2.1 k, fun k j => if k = g.1 then none else g.2.2 k j)
def mj_mZ (M : mj_M) (k : Nat) : mj_M := (fun a b => if a = k then 0 else M.1 a b, fun a b => if a = k then 0 else M.2.1 a b, fun a b => if a = k then none else M.2.2 a b)
theorem mj_gA_old {E : mj_E} {g : mj_S} {M : mj_M} {kd : Nat × Nat × Nat} {k : Nat} (h : k < g.1) : mj_cell E (mj_gA g kd) (mj_mZ M g.1) k = mj_cell E g M k := by
  have hk : ¬ k = g.1 := by omega
  refine mj_cell_eq ?_ ?_ ?_ ?_ ?_
  · show (if k = g.1 then kd else g.2.1 k) = g.2.1 k
    rw [if_neg hk]
  · funext b; show (if k = g.1 then 0 else M.1 k b) = M.1 k b
    rw [if_neg hk]
  · funext b; show (if k = g.1 then 0 else M.2.1 k b) = M.2.1 k b
    rw [if_neg hk]
  · funext b; show (if k = g.1 then none else M.2.2 k b) = M.2.2 k b
    rw [if_neg hk]
  · funext b; show (if k = g.1 then none else g.2.2 k b) = g.2.2 k b
    rw [if_neg hk]
theorem mj_gA_wd {E : mj_E} {g : mj_S} {M : mj_M} {kd : Nat × Nat × Nat} {H H1 : Heap} (hw : mj_Wd E g M H) (hsz : H.size = E.1 + g.1) (o1 : ∀ q, q < H.size → H1[q]? = H[q]?) (h9 : g.1 + 1 ≤ 900000) (hn : va_at E.2.1 mj_cl (E.1 + g.1, mj_cell E (mj_gA g kd) (mj_mZ M g.1) g.1) H1) : mj_Wd E (mj_gA g kd) (mj_mZ M g.1) H1 := by
  refine ⟨fun k q hq => ?_, h9⟩
  have hk : k < g.1 + 1 := by
    have h := (List.getElem?_eq_some_iff.mp hq).1
    rw [mj_ws_len] at h
    exact h
  rw [mj_ws_at (g := mj_gA g kd) hk] at hq
  cases hq
  rcases Nat.lt_or_ge k g.1 with h | h
  · rw [mj_gA_old h]
    have h1 := hw.1 k _ (mj_ws_at h)
    exact h1.kept (o1 _ h1.lt)
  · have hke : k = g.1 := by omega
    subst hke
    rw [mj_ad_lt (by omega)]
    exact hn
theorem mj_tyk {ci j N : Nat} {C : String} {T : u_T} (h : mj_cl[ci]? = some (C, T, N)) (hj : j < mj_N ci) : (mj_ty ci j = .int ∨ mj_ty ci j = .boolean) ∨ mj_ty ci j = .long ∨ mj_isR (mj_ty ci j) = true := by
  have hb : ci < 11 := (List.getElem?_eq_some_iff.mp h).1
  have key : ∀ c, c < 11 → ∀ i, i < mj_N c → (mj_ty c i = .int ∨ mj_ty c i = .boolean) ∨ mj_ty c i = .long ∨ mj_isR (mj_ty c i) = true := by decide +kernel
  exact key ci hb j hj
section MGP
variable {mt : mj_T} {R : Room} {Fi : mj_F} {bc bs pc : Nat} {ls : List (Nat × Value)} {st : List Value} {g : mj_S} {M : mj_M}
theorem mg_new {ci N idx : Nat} {C : String} {T : u_T} (hd : decode mt.2.1 pc = .ok (.new idx, 3)) (hC : mj_KC ci C T N) (hlk : Cond.classLink mt.1 idx C ∈ lw_good) (hins : Cond.instantiable C N ∈ lw_good) (hini : Cond.initialized C ∈ lw_good) (hb1 : 1 ≤ bc) (hb2 : N ≤ bs) (h9 : g.1 + 1 ≤ 900000)
    (K : mj_G mt R Fi true (bc - 1) (bs - N) (pc + 3) ls (.ref g.1 :: st) (mj_gA g (0, ci, 0)) (mj_mZ M g.1)) : mj_G mt R Fi true bc bs pc ls st g M := by
  intro p l e s m args below meth c E X H locs cells slots hw hS hc hs hex lr hl
  refine mj_size hw hS (hex rfl) X.2.2.2.2.2.2.2.2.2.2.2.2.2.2.2.2.2.2.2.2.2.2.2 (fun hsz => ?_)
  have hK := X.2.2.2.2.2.2.2.2.2.2.1
  have hKn := hK.1 ci _ hC.1
  refine W.newcK X.1 X.2.2.1 X.2.2.2.2.1 (X.2.2.2.2.2.1 _ hlk) (X.2.2.2.2.2.1 _ hins) (X.2.2.2.2.2.1 _ hini) rfl hd (by omega) (by omega) hKn.2.1 hsz (fun H1 kC hkC e1 z1 o1 => ?_)
  have o2 : ∀ q, q < H.size → H1[q]? = H[q]? := fun q hq => o1 q (by omega)
  have hst : (.ref (E.1 + g.1) :: st.map (mj_rv E) : List Value) = ((.ref g.1 :: st : List Value)).map (mj_rv E) := by
    show _ = Value.ref (mj_ad E g.1) :: _
    rw [mj_ad_lt (by omega)]
  show W p l e R s m args below meth c H1 locs (cells + 1) (slots + N) (Fi below args s E) (F0 m (pc + 3) lr (.ref (E.1 + g.1) :: st.map (mj_rv E)))
  rw [hst]
  refine K p l e s m args below meth c E X H1 locs _ _ (mj_gA_wd hw hsz o2 h9 ?_) ⟨Nat.le_trans hS.1 (by omega), fun q h1 h2 => (o2 q (Nat.lt_of_lt_of_le h1 hS.1)).trans (hS.2.1 q h1 h2), hS.2.2⟩ (by omega) (by omega) (fun _ => by have := hex rfl; show s.heap.size + (cells + 1) = E.1 + (g.1 + 1); omega) lr hl
  rw [mj_cell_obj (show (mj_gA g (0, ci, 0)).2.1 g.1 = (0, ci, 0) from if_pos rfl)]
  refine ⟨_, hC.1, (u_born (mj_ty ci) X.2.2.2.2.2.1 hC.2.2.1 hKn hkC e1 hC.2.2.2.1).to (fun j hj => ?_)⟩
  unfold vp_V
  rw [List.getD_eq_getElem?_getD, mj_fs_at (by rw [hC.2.1]; exact hj)]
  show defaultValue (mj_ty ci j) = mj_fv E (mj_gA g (0, ci, 0)) (mj_mZ M g.1) g.1 (mj_ty ci j) j
  have hN : j < mj_N ci := by rw [hC.2.1]; exact hj
  have hz1 : (mj_mZ M g.1).1 g.1 j = 0 := if_pos rfl
  have hz2 : (mj_mZ M g.1).2.1 g.1 j = 0 := if_pos rfl
  have hz3 : (mj_gA g (0, ci, 0)).2.2 g.1 j = none := if_pos rfl
  have hty : (mj_ty ci j = .int ∨ mj_ty ci j = .boolean) ∨ mj_ty ci j = .long ∨ mj_isR (mj_ty ci j) = true := mj_tyk hC.1 hN
  rcases hty with (h | h) | h | h
  · rw [h]; simp only [mj_fv, hz1]; rfl
  · rw [h]; simp only [mj_fv, hz1]; rfl
  · rw [h]; simp only [mj_fv, hz2]; rfl
  · rw [mj_fvR h, hz3]
    cases hq : mj_ty ci j <;> rw [hq] at h <;> first | rfl | cases h
end MGP
section MGQ
variable {mt : mj_T} {R : Room} {Fi : mj_F} {bc bs pc : Nat} {ls : List (Nat × Value)} {st : List Value} {g : mj_S} {M : mj_M}
/-- an array of numbers: t 0 int, 1 boolean, 2 long -/
theorem mg_newarr {t N : Nat} {n : Int32} {at9 : ArrayType} (hd : decode mt.2.1 pc = .ok (.newarray at9, 2)) (ht : (t = 0 ∧ at9 = .int) ∨ (t = 1 ∧ at9 = .boolean) ∨ (t = 2 ∧ at9 = .long)) (hac : Cond.arrayClass (newarray.typeOf at9) ∈ lw_good) (hn : ¬ n < 0) (hN : n.toNatClampNeg = N) (hN2 : N ≤ 100000) (hb1 : 1 ≤ bc) (hb2 : N ≤ bs) (h9 : g.1 + 1 ≤ 900000)
    (K : mj_G mt R Fi true (bc - 1) (bs - N) (pc + 2) ls (.ref g.1 :: st) (mj_gA g (1, t, N)) (mj_mZ M g.1)) : mj_G mt R Fi true bc bs pc ls (.int n :: st) g M := by
  intro p l e s m args below meth c E X H locs cells slots hw hS hc hs hex lr hl
  refine mj_size hw hS (hex rfl) X.2.2.2.2.2.2.2.2.2.2.2.2.2.2.2.2.2.2.2.2.2.2.2 (fun hsz => ?_)
  have hK := X.2.2.2.2.2.2.2.2.2.2.1
  have hby : N * componentBytes (newarray.typeOf at9) ≤ 536870912 := by
    rcases ht with ⟨-, rfl⟩ | ⟨-, rfl⟩ | ⟨-, rfl⟩ <;> simp only [newarray.typeOf, componentBytes] <;> omega
  refine va_newaK X.1 X.2.2.1 (X.2.2.2.2.2.1 _ hac) rfl hd rfl hn hN hby (by omega) (by omega) hsz (fun H1 cA e1 z1 o1 hAr hNm => ?_)
  have o2 : ∀ q, q < H.size → H1[q]? = H[q]? := fun q hq => o1 q (by omega)
  have hst : (.ref (E.1 + g.1) :: st.map (mj_rv E) : List Value) = ((.ref g.1 :: st : List Value)).map (mj_rv E) := by
    show _ = Value.ref (mj_ad E g.1) :: _
    rw [mj_ad_lt (by omega)]
  show W p l e R s m args below meth c H1 locs (cells + 1) (slots + N) (Fi below args s E) (F0 m (pc + 2) lr (.ref (E.1 + g.1) :: st.map (mj_rv E)))
  rw [hst]
  refine K p l e s m args below meth c E X H1 locs _ _ (mj_gA_wd hw hsz o2 h9 ?_) ⟨Nat.le_trans hS.1 (by omega), fun q h1 h2 => (o2 q (Nat.lt_of_lt_of_le h1 hS.1)).trans (hS.2.1 q h1 h2), hS.2.2⟩ (by omega) (by omega) (fun _ => by have := hex rfl; show s.heap.size + (cells + 1) = E.1 + (g.1 + 1); omega) lr hl
  rw [mj_cell_arr (show (mj_gA g (1, t, N)).2.1 g.1 = (1, t, N) from if_pos rfl)]
  have hz1 : (mj_mZ M g.1).1 g.1 = fun _ => 0 := by funext b; exact if_pos rfl
  have hz2 : (mj_mZ M g.1).2.1 g.1 = fun _ => 0 := by funext b; exact if_pos rfl
  show H1[E.1 + g.1]? = some (vp_cell (E.2.2.1 t) (mj_ac E (mj_mZ M g.1) g.1 t N))
  rw [e1]
  rcases ht with ⟨rfl, rfl⟩ | ⟨rfl, rfl⟩ | ⟨rfl, rfl⟩
  · have hca : E.2.2.1 0 = cA := Option.some.inj ((show s.vm.findClass ("[" ++ FieldType.int.toString) = some (E.2.2.1 0) from (hK.2 0 _ rfl).2).symm.trans hNm)
    rw [hca]; simp only [mj_ac, hz1, vp_cell]; rfl
  · have hca : E.2.2.1 1 = cA := Option.some.inj ((show s.vm.findClass ("[" ++ FieldType.boolean.toString) = some (E.2.2.1 1) from (hK.2 1 _ rfl).2).symm.trans hNm)
    rw [hca]; simp only [mj_ac, hz1, vp_cell]; rfl
  · have hca : E.2.2.1 2 = cA := Option.some.inj ((show s.vm.findClass ("[" ++ FieldType.long.toString) = some (E.2.2.1 2) from (hK.2 2 _ rfl).2).symm.trans hNm)
    rw [hca]; simp only [mj_ac, hz2, vp_cell]; rfl
/-- an array of states -/
theorem mg_newq {N idx : Nat} {n : Int32} (hd : decode mt.2.1 pc = .ok (.anewarray idx, 3)) (hlk : Cond.classLink mt.1 idx RX6 ∈ lw_good) (hn : ¬ n < 0) (hN : n.toNatClampNeg = N) (hN2 : N ≤ 100000) (hb1 : 1 ≤ bc) (hb2 : N ≤ bs) (h9 : g.1 + 1 ≤ 900000)
    (K : mj_G mt R Fi true (bc - 1) (bs - N) (pc + 3) ls (.ref g.1 :: st) (mj_gA g (1, 3, N)) (mj_mZ M g.1)) : mj_G mt R Fi true bc bs pc ls (.int n :: st) g M := by
  intro p l e s m args below meth c E X H locs cells slots hw hS hc hs hex lr hl
  refine mj_size hw hS (hex rfl) X.2.2.2.2.2.2.2.2.2.2.2.2.2.2.2.2.2.2.2.2.2.2.2 (fun hsz => ?_)
  have hEV := X.2.2.2.2.2.2.2.2.2.2
  have hK := hEV.1
  subst hN
  refine W.anew X.1 X.2.2.1 X.2.2.2.2.1 (X.2.2.2.2.2.1 _ hlk) (va_AO.use hEV.2.2.2.2.2.2.1) rfl hd rfl hn (by omega) (by omega) (by omega) fun cA kA comp f1 f2 f3 f4 => ?_
  generalize hH1 : H.push ({ cls := cA, slots := Array.replicate n.toNatClampNeg .null, vm := .none } : Cell) = H1
  have z1 : H1.size = H.size + 1 := by rw [← hH1, Array.size_push]
  have e1 : H1[H.size]? = some (arrV cA n.toNatClampNeg (fun _ => .null)) := by rw [← hH1, Array.getElem?_push_size, ← arrV_new]
  have o2 : ∀ q : Nat, q < H.size → H1[q]? = H[q]? := fun q hq => by rw [← hH1, Array.getElem?_push, if_neg (Nat.ne_of_lt hq)]
  have hst : (.ref H.size :: st.map (mj_rv E) : List Value) = ((.ref g.1 :: st : List Value)).map (mj_rv E) := by
    show _ = Value.ref (mj_ad E g.1) :: _
    rw [mj_ad_lt (by omega), hsz]
  show W p l e R s m args below meth c H1 locs (cells + 1) (slots + n.toNatClampNeg) (Fi below args s E) (F0 m (pc + 3) lr (.ref H.size :: st.map (mj_rv E)))
  rw [hst]
  refine K p l e s m args below meth c E X H1 locs _ _ (mj_gA_wd hw hsz o2 h9 ?_) ⟨Nat.le_trans hS.1 (by omega), fun q h1 h2 => (o2 q (Nat.lt_of_lt_of_le h1 hS.1)).trans (hS.2.1 q h1 h2), hS.2.2⟩ (by omega) (by omega) (fun _ => by have := hex rfl; show s.heap.size + (cells + 1) = E.1 + (g.1 + 1); omega) lr hl
  rw [mj_cell_arr (show (mj_gA g (1, 3, n.toNatClampNeg)).2.1 g.1 = (1, 3, n.toNatClampNeg) from if_pos rfl)]
  have hz3 : (fun i => ((mj_mZ M g.1).2.2 g.1 i).map (mj_ad E)) = fun _ => none := by funext b; rw [show (mj_mZ M g.1).2.2 g.1 b = none from if_pos rfl]; rfl
  show H1[E.1 + g.1]? = some (vp_cell (E.2.2.1 3) (mj_ac E (mj_mZ M g.1) g.1 3 n.toNatClampNeg))
  rw [← hsz, e1]
  have hca : E.2.2.1 3 = cA := by
    obtain ⟨kA', comp', g1, g2, g3, g4⟩ := (show va_RA s (E.2.2.1 3) (.object RX6) from (hK.2 3 _ rfl).2)
    exact Option.some.inj (g4.symm.trans f1)
  rw [hca]; simp only [mj_ac, hz3, vp_cell]; rfl
/-- a constructor sets a final field -/
theorem mg_putR {ci j k n N idx a : Nat} {C : String} {T : u_T} {ex : Bool} (hd : decode mt.2.1 pc = .ok (.putfield idx, 3)) (hC : mj_KC ci C T N) (hj : j < N) (hw9 : Cond.fieldLink mt.1 idx C (T j).2.1 (T j).2.2.1 ∈ lw_good) (hO : (T j).1 = C) (hM : mt.1 = C) (hnm : mt.2.2.2.2.2 = "<init>") (hfin : (T j).2.2.2 = true) (ht : mj_isR (mj_ty ci j) = true) (hk : k < g.1) (hkk : g.2.1 k = (0, ci, n))
    (K : mj_G mt R Fi ex bc bs (pc + 3) ls st (mj_gR g k j (some a)) M) : mj_G mt R Fi ex bc bs pc ls (.ref a :: .ref k :: st) g M := by
  intro p l e s m args below meth c E X H locs cells slots hw hS hc hs hex lr hl
  refine va_putF (ty := mj_ty ci j) (v := .ref (mj_ad E a)) X.1 X.2.2.1 X.2.2.2.2.2.1 hC.2.2.1 (mj_ty ci) hC.2.2.2.1 hC.2.2.2.2 X.2.2.2.2.1 X.2.2.2.2.2.2.2.2.2.2.1 hw.1 hw.D hS k (by rw [mj_ws_at hk, mj_cell_obj hkk]) hC.1 j hj (X.2.2.2.2.2.1 _ hw9) (by rw [hO]; exact fun _ h => h) hfin (X.2.2.2.2.2.2.2.2.2.1.trans hnm) (by rw [hO, hM]) (hC.2.2.2.1 j hj) ?_ ?_ (by rw [mj_fs_len, hC.2.1]; exact hj) hd (fun H1 locs1 hP1 _ hS1 => ?_)
  · cases hq : mj_ty ci j <;> rw [hq] at ht <;> first | rfl | cases ht
  · cases hq : mj_ty ci j <;> rw [hq] at ht <;> first | rfl | cases ht
  · exact K p l e s m args below meth c E X H1 locs1 cells slots ⟨by rw [← mj_setR ht hkk]; exact hP1, hw.2⟩ hS1 hc hs hex lr hl
theorem mg_objInit {k idx : Nat} {ex : Bool} (hd : decode mt.2.1 pc = .ok (.invokespecial idx, 3)) (hlk : Cond.methodLink mt.1 idx objectInit ∈ lw_good) (hin : Cond.instanceMethod objectInit ∈ lw_good) (hcd : Cond.code objectInit ⟨#[0xb1]⟩ 1 none ∈ lw_good) (hf : 1 ≤ R.frames) (hl9 : 20 ≤ R.locals) (hrest : (st.map fun v => v.category).sum ≤ 8)
    (K : mj_G mt R Fi ex bc bs (pc + 3) ls st g M) : mj_G mt R Fi ex bc bs pc ls (.ref k :: st) g M := by
  intro p l e s m args below meth c E X H locs cells slots hw hS hc hs hex lr hl
  refine W.objInit X.1 X.2.2.1 X.2.2.2.2.1 (X.2.2.2.2.2.1 _ hlk) (X.2.2.2.2.2.1 _ hin) (X.2.2.2.2.2.1 _ hcd) rfl (hl.1.trans X.2.2.2.1.symm) rfl hd hf ?_ ?_
  · have h := lv_room (m := m) (pc := pc) (ls := lr) (rest := st.map (mj_rv E)) (st := st.map (mj_rv E)) (by rw [mj_catsum]; exact hrest)
    simp only at h ⊢
    exact Nat.le_trans (Nat.add_le_add_right h 12) hl9
  · exact K p l e s m args below meth c E X H locs cells slots hw hS hc hs hex lr hl
end MGQ
/-- a constructor's contract: it makes mc cells side by side -/
def mj_qN (g : mj_S) (mc : Nat) (q : mj_S → mj_M → Prop) : mj_Qn := fun r g' M' => r = none ∧ g'.1 = g.1 + mc ∧ q g' M'
def mj_CN (y : MethodName) (hd : Cond) (d0 mc ms : Nat) (As : List Value) (g : mj_S) (M : mj_M) (q : mj_S → mj_M → Prop) : Prop := ∀ d, d0 ≤ d → mj_C y hd true d mc ms As g M (mj_qN g mc q) mj_x0
section MGR
variable {mt : mj_T} {R : Room} {Fi : mj_F} {bc bs pc : Nat} {ls : List (Nat × Value)} {g : mj_S} {M : mj_M} {d mc ms d0 mc' ms' : Nat} {y : MethodName} {cc' : ByteArray} {nL' idx : Nat}
theorem mn_I (As rest : List Value) {k : Nat} {q : mj_S → mj_M → Prop} (hd : decode mt.2.1 pc = .ok (.invokespecial idx, 3)) (hlk : Cond.methodLink mt.1 idx y ∈ lw_good) (hnm : y.name = "<init>") (hin : Cond.instanceMethod y ∈ lw_good) (hini : Cond.initialized y.cls ∈ lw_good) (hcd : Cond.code y cc' nL' none ∈ lw_good)
    (hdd : y.cls ≠ "java/lang/invoke/MethodHandle" ∧ y.cls ≠ "java/lang/invoke/VarHandle" ∧ (parseMethodDescriptor y.desc).map (fun d => d.parameters.length) = some As.length) (hR : d0 + 1 ≤ R.frames ∧ 8 + (nL' + 11) + 38 * d0 ≤ R.locals) (hrest : (rest.map fun v => v.category).sum ≤ 8) (hbc : mc' ≤ bc ∧ ms' ≤ bs)
    (hC : mj_CN y (.code y cc' nL' none) d0 mc' ms' (.ref k :: As) g M q) (K : ∀ g' M', q g' M' → mj_G mt R Fi true (bc - mc') (bs - ms') (pc + 3) ls rest g' M') : mj_G mt R Fi true bc bs pc ls (As.reverse ++ .ref k :: rest) g M :=
  mg_callI hd hlk hnm hin hini hcd hdd hR hrest hbc (fun h => h) (fun _ r g' M' h => h.2.1) (hC d0 (Nat.le_refl _)) (fun X g' M' h => h.elim) (fun r g' M' h => by obtain ⟨rfl, -, h⟩ := h; exact K g' M' h)
theorem mn_IN (As rest : List Value) {k : Nat} {host : String} {q : mj_S → mj_M → Prop} (i9 : Nat) (hd : decode mt.2.1 pc = .ok (.invokespecial idx, 3)) (hlk : mj_nest[i9]? = some (mt.1, idx, y, host)) (hnm : y.name = "<init>") (hin : Cond.instanceMethod y ∈ lw_good) (hini : Cond.initialized y.cls ∈ lw_good) (hcd : Cond.code y cc' nL' none ∈ lw_good)
    (hdd : y.cls ≠ "java/lang/invoke/MethodHandle" ∧ y.cls ≠ "java/lang/invoke/VarHandle" ∧ (parseMethodDescriptor y.desc).map (fun d => d.parameters.length) = some As.length) (hR : d0 + 1 ≤ R.frames ∧ 8 + (nL' + 11) + 38 * d0 ≤ R.locals) (hrest : (rest.map fun v => v.category).sum ≤ 8) (hbc : mc' ≤ bc ∧ ms' ≤ bs)
    (hC : mj_CN y (.code y cc' nL' none) d0 mc' ms' (.ref k :: As) g M q) (K : ∀ g' M', q g' M' → mj_G mt R Fi true (bc - mc') (bs - ms') (pc + 3) ls rest g' M') : mj_G mt R Fi true bc bs pc ls (As.reverse ++ .ref k :: rest) g M :=
  mg_callIN i9 hd hlk hnm hin hini hcd hdd hR hrest hbc (fun h => h) (fun _ r g' M' h => h.2.1) (hC d0 (Nat.le_refl _)) (fun X g' M' h => h.elim) (fun r g' M' h => by obtain ⟨rfl, -, h⟩ := h; exact K g' M' h)
end MGR
