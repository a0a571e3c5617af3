section MGA
variable {mt : mj_T} {R : Room} {Fi : mj_F} {ex : Bool} {bc bs pc : Nat} {ls : List (Nat × Value)} {st : List Value} {g : mj_S} {M : mj_M}
theorem mj_lat {E : mj_E} {lr : Array Slot} {nL : Nat} {i : Nat} {v : Value} (h : lv_has lr nL (mj_ls E ls)) (j : Nat) (hj : ls[j]? = some (i, v)) : lr[i]? = some (.val (mj_rv E v)) :=
  lv_at h j (by unfold mj_ls; rw [List.getElem?_map, hj]; rfl)
theorem mj_lsub {E : mj_E} {lr : Array Slot} {nL : Nat} {ls' : List (Nat × Value)} (h : lv_has lr nL (mj_ls E ls)) (hs : ∀ q ∈ ls', q ∈ ls) : lv_has lr nL (mj_ls E ls') :=
  ⟨h.1, h.2.1, fun q hq => by
    obtain ⟨r, hr, rfl⟩ := List.mem_map.mp hq
    exact h.2.2 _ (List.mem_map.mpr ⟨r, hs r hr, rfl⟩)⟩
/-- locals behind a store: what stood there goes, and a long whose second half stood there -/
def mj_keep1 (i : Nat) (q : Nat × Value) : Bool := !(q.1 == i) && !(q.1 + 1 == i && q.2.category == 2)
def mj_keep2 (i : Nat) (q : Nat × Value) : Bool := !(q.1 == i) && (!(q.1 == i + 1) && !(q.1 + 1 == i && q.2.category == 2))
theorem mj_lput1 {E : mj_E} {lr : Array Slot} {nL i : Nat} {v : Value} {ls' : List (Nat × Value)} (h : lv_has lr nL ((i, mj_rv E v) :: (mj_ls E ls).filter (fun q => !(q.1 == i) && !(q.1 + 1 == i && q.2.category == 2)))) (hp : (i, v) :: ls.filter (mj_keep1 i) = ls') : lv_has lr nL (mj_ls E ls') := by
  subst hp
  refine ⟨h.1, h.2.1, fun q hq => h.2.2 q ?_⟩
  rcases List.mem_cons.mp (show q ∈ (i, mj_rv E v) :: mj_ls E (ls.filter (mj_keep1 i)) from hq) with rfl | hq
  · exact List.mem_cons_self
  · obtain ⟨r, hr, rfl⟩ := List.mem_map.mp hq
    obtain ⟨h1, h2⟩ := List.mem_filter.mp hr
    refine List.mem_cons_of_mem _ (List.mem_filter.mpr ⟨List.mem_map.mpr ⟨r, h1, rfl⟩, ?_⟩)
    simpa [mj_keep1, mj_rv_cat] using h2
theorem mj_lput2 {E : mj_E} {lr : Array Slot} {nL i : Nat} {v : Value} {ls' : List (Nat × Value)} (h : lv_has lr nL ((i, mj_rv E v) :: (mj_ls E ls).filter (fun q => !(q.1 == i) && (!(q.1 == i + 1) && !(q.1 + 1 == i && q.2.category == 2))))) (hp : (i, v) :: ls.filter (mj_keep2 i) = ls') : lv_has lr nL (mj_ls E ls') := by
  subst hp
  refine ⟨h.1, h.2.1, fun q hq => h.2.2 q ?_⟩
  rcases List.mem_cons.mp (show q ∈ (i, mj_rv E v) :: mj_ls E (ls.filter (mj_keep2 i)) from hq) with rfl | hq
  · exact List.mem_cons_self
  · obtain ⟨r, hr, rfl⟩ := List.mem_map.mp hq
    obtain ⟨h1, h2⟩ := List.mem_filter.mp hr
    refine List.mem_cons_of_mem _ (List.mem_filter.mpr ⟨List.mem_map.mpr ⟨r, h1, rfl⟩, ?_⟩)
    simpa [mj_keep2, mj_rv_cat] using h2
/-- fewer locals, in any order -/
theorem mg_drop {ls' : List (Nat × Value)} (hsub : ∀ q ∈ ls', q ∈ ls) (k : mj_G mt R Fi ex bc bs pc ls' st g M) : mj_G mt R Fi ex bc bs pc ls st g M := by
  intro p l e s m args below meth c E C H locs cells slots hw hS hc hs hex lr hl
  exact k p l e s m args below meth c E C H locs cells slots hw hS hc hs hex lr (mj_lsub hl hsub)
theorem mg_iconst {n : Int} {v : Int32} (hd : decode mt.2.1 pc = .ok (.iconst n, 1)) (hv : Int32.ofInt n = v) (k : mj_G mt R Fi ex bc bs (pc + 1) ls (.int v :: st) g M) : mj_G mt R Fi ex bc bs pc ls (st) g M := by
  intro p l e s m args below meth c E C H locs cells slots hw hS hc hs hex lr hl
  exact lv_iconst C.1 C.2.2.1 hd hv (k p l e s m args below meth c E C H locs cells slots hw hS hc hs hex lr hl)
theorem mg_bipush {n : Int} {v : Int32} (hd : decode mt.2.1 pc = .ok (.bipush n, 2)) (hv : (Int8.ofInt n).toInt32 = v) (k : mj_G mt R Fi ex bc bs (pc + 2) ls (.int v :: st) g M) : mj_G mt R Fi ex bc bs pc ls (st) g M := by
  intro p l e s m args below meth c E C H locs cells slots hw hS hc hs hex lr hl
  exact lv_bipush C.1 C.2.2.1 hd hv (k p l e s m args below meth c E C H locs cells slots hw hS hc hs hex lr hl)
theorem mg_sipush {n : Int} {v : Int32} (hd : decode mt.2.1 pc = .ok (.sipush n, 3)) (hv : (Int16.ofInt n).toInt32 = v) (k : mj_G mt R Fi ex bc bs (pc + 3) ls (.int v :: st) g M) : mj_G mt R Fi ex bc bs pc ls (st) g M := by
  intro p l e s m args below meth c E C H locs cells slots hw hS hc hs hex lr hl
  exact lv_sipush C.1 C.2.2.1 hd hv (k p l e s m args below meth c E C H locs cells slots hw hS hc hs hex lr hl)
theorem mg_lconst {n : Fin 2} {v : Int64} (hd : decode mt.2.1 pc = .ok (.lconst n, 1)) (hv : Int64.ofNat (n : Nat) = v) (k : mj_G mt R Fi ex bc bs (pc + 1) ls (.long v :: st) g M) : mj_G mt R Fi ex bc bs pc ls (st) g M := by
  intro p l e s m args below meth c E C H locs cells slots hw hS hc hs hex lr hl
  exact lv_lconst C.1 C.2.2.1 hd hv (k p l e s m args below meth c E C H locs cells slots hw hS hc hs hex lr hl)
theorem mg_ldc {x : Nat} {v : Int32} (hd : decode mt.2.1 pc = .ok (.ldc x, 2)) (hw9 : Cond.constant mt.1 x v ∈ lw_good) (k : mj_G mt R Fi ex bc bs (pc + 2) ls (.int v :: st) g M) : mj_G mt R Fi ex bc bs pc ls (st) g M := by
  intro p l e s m args below meth c E C H locs cells slots hw hS hc hs hex lr hl
  exact lv_ldc C.1 C.2.2.1 C.2.2.2.2.1 (C.2.2.2.2.2.1 _ hw9) hd (k p l e s m args below meth c E C H locs cells slots hw hS hc hs hex lr hl)
theorem mg_ldcw {x : Nat} {v : Int32} (hd : decode mt.2.1 pc = .ok (.ldc_w x, 3)) (hw9 : Cond.constant mt.1 x v ∈ lw_good) (k : mj_G mt R Fi ex bc bs (pc + 3) ls (.int v :: st) g M) : mj_G mt R Fi ex bc bs pc ls (st) g M := by
  intro p l e s m args below meth c E C H locs cells slots hw hS hc hs hex lr hl
  exact lv_ldcw C.1 C.2.2.1 C.2.2.2.2.1 (C.2.2.2.2.2.1 _ hw9) hd (k p l e s m args below meth c E C H locs cells slots hw hS hc hs hex lr hl)
theorem mg_ldc2 {x : Nat} {v : Int64} (hd : decode mt.2.1 pc = .ok (.ldc2_w x, 3)) (hw9 : Cond.constantLong mt.1 x v ∈ lw_good) (k : mj_G mt R Fi ex bc bs (pc + 3) ls (.long v :: st) g M) : mj_G mt R Fi ex bc bs pc ls (st) g M := by
  intro p l e s m args below meth c E C H locs cells slots hw hS hc hs hex lr hl
  exact lv_ldc2 C.1 C.2.2.1 C.2.2.2.2.1 (C.2.2.2.2.2.1 _ hw9) hd (k p l e s m args below meth c E C H locs cells slots hw hS hc hs hex lr hl)
theorem mg_iload_n {k4 : Fin 4} {i : Nat} {x : Int32} (hd : decode mt.2.1 pc = .ok (.iload_n k4, 1)) (hi : (k4 : Nat) = i) (j : Nat) (hj : ls[j]? = some (i, .int x)) (k : mj_G mt R Fi ex bc bs (pc + 1) ls (.int x :: st) g M) : mj_G mt R Fi ex bc bs pc ls (st) g M := by
  intro p l e s m args below meth c E C H locs cells slots hw hS hc hs hex lr hl
  exact lv_iload_n C.1 C.2.2.1 hd hi (mj_lat hl j hj) (k p l e s m args below meth c E C H locs cells slots hw hS hc hs hex lr hl)
theorem mg_iload {i : Nat} {x : Int32} (hd : decode mt.2.1 pc = .ok (.iload i, 2)) (j : Nat) (hj : ls[j]? = some (i, .int x)) (k : mj_G mt R Fi ex bc bs (pc + 2) ls (.int x :: st) g M) : mj_G mt R Fi ex bc bs pc ls (st) g M := by
  intro p l e s m args below meth c E C H locs cells slots hw hS hc hs hex lr hl
  exact lv_iload C.1 C.2.2.1 hd (mj_lat hl j hj) (k p l e s m args below meth c E C H locs cells slots hw hS hc hs hex lr hl)
theorem mg_lload_n {k4 : Fin 4} {i : Nat} {x : Int64} (hd : decode mt.2.1 pc = .ok (.lload_n k4, 1)) (hi : (k4 : Nat) = i) (j : Nat) (hj : ls[j]? = some (i, .long x)) (k : mj_G mt R Fi ex bc bs (pc + 1) ls (.long x :: st) g M) : mj_G mt R Fi ex bc bs pc ls (st) g M := by
  intro p l e s m args below meth c E C H locs cells slots hw hS hc hs hex lr hl
  exact lv_lload_n C.1 C.2.2.1 hd hi (mj_lat hl j hj) (k p l e s m args below meth c E C H locs cells slots hw hS hc hs hex lr hl)
theorem mg_lload {i : Nat} {x : Int64} (hd : decode mt.2.1 pc = .ok (.lload i, 2)) (j : Nat) (hj : ls[j]? = some (i, .long x)) (k : mj_G mt R Fi ex bc bs (pc + 2) ls (.long x :: st) g M) : mj_G mt R Fi ex bc bs pc ls (st) g M := by
  intro p l e s m args below meth c E C H locs cells slots hw hS hc hs hex lr hl
  exact lv_lload C.1 C.2.2.1 hd (mj_lat hl j hj) (k p l e s m args below meth c E C H locs cells slots hw hS hc hs hex lr hl)
theorem mg_aload_n {k4 : Fin 4} {i : Nat} {x : Nat} (hd : decode mt.2.1 pc = .ok (.aload_n k4, 1)) (hi : (k4 : Nat) = i) (j : Nat) (hj : ls[j]? = some (i, .ref x)) (k : mj_G mt R Fi ex bc bs (pc + 1) ls (.ref x :: st) g M) : mj_G mt R Fi ex bc bs pc ls (st) g M := by
  intro p l e s m args below meth c E C H locs cells slots hw hS hc hs hex lr hl
  exact lv_aload_n C.1 C.2.2.1 hd hi (mj_lat hl j hj) (k p l e s m args below meth c E C H locs cells slots hw hS hc hs hex lr hl)
theorem mg_aload {i : Nat} {x : Nat} (hd : decode mt.2.1 pc = .ok (.aload i, 2)) (j : Nat) (hj : ls[j]? = some (i, .ref x)) (k : mj_G mt R Fi ex bc bs (pc + 2) ls (.ref x :: st) g M) : mj_G mt R Fi ex bc bs pc ls (st) g M := by
  intro p l e s m args below meth c E C H locs cells slots hw hS hc hs hex lr hl
  exact lv_aload C.1 C.2.2.1 hd (mj_lat hl j hj) (k p l e s m args below meth c E C H locs cells slots hw hS hc hs hex lr hl)
theorem mg_istore_n {k4 : Fin 4} {i : Nat} {x : Int32} {ls' : List (Nat × Value)} (hd : decode mt.2.1 pc = .ok (.istore_n k4, 1)) (hi : (k4 : Nat) = i) (hin : i < mt.2.2.1) (hp : (i, Value.int x) :: ls.filter (mj_keep1 i) = ls') (k : mj_G mt R Fi ex bc bs (pc + 1) ls' st g M) : mj_G mt R Fi ex bc bs pc ls (.int x :: st) g M := by
  intro p l e s m args below meth c E C H locs cells slots hw hS hc hs hex lr hl
  exact lv_istore_n C.1 C.2.2.1 hd hi hl hin rfl (fun lr9 hl9 => k p l e s m args below meth c E C H locs cells slots hw hS hc hs hex lr9 (mj_lput1 hl9 hp))
theorem mg_istore {i : Nat} {x : Int32} {ls' : List (Nat × Value)} (hd : decode mt.2.1 pc = .ok (.istore i, 2)) (hin : i < mt.2.2.1) (hp : (i, Value.int x) :: ls.filter (mj_keep1 i) = ls') (k : mj_G mt R Fi ex bc bs (pc + 2) ls' st g M) : mj_G mt R Fi ex bc bs pc ls (.int x :: st) g M := by
  intro p l e s m args below meth c E C H locs cells slots hw hS hc hs hex lr hl
  exact lv_istore C.1 C.2.2.1 hd hl hin rfl (fun lr9 hl9 => k p l e s m args below meth c E C H locs cells slots hw hS hc hs hex lr9 (mj_lput1 hl9 hp))
theorem mg_lstore_n {k4 : Fin 4} {i : Nat} {x : Int64} {ls' : List (Nat × Value)} (hd : decode mt.2.1 pc = .ok (.lstore_n k4, 1)) (hi : (k4 : Nat) = i) (hin : i + 1 < mt.2.2.1) (hp : (i, Value.long x) :: ls.filter (mj_keep2 i) = ls') (k : mj_G mt R Fi ex bc bs (pc + 1) ls' st g M) : mj_G mt R Fi ex bc bs pc ls (.long x :: st) g M := by
  intro p l e s m args below meth c E C H locs cells slots hw hS hc hs hex lr hl
  exact lv_lstore_n C.1 C.2.2.1 hd hi hl hin rfl (fun lr9 hl9 => k p l e s m args below meth c E C H locs cells slots hw hS hc hs hex lr9 (mj_lput2 hl9 hp))
theorem mg_lstore {i : Nat} {x : Int64} {ls' : List (Nat × Value)} (hd : decode mt.2.1 pc = .ok (.lstore i, 2)) (hin : i + 1 < mt.2.2.1) (hp : (i, Value.long x) :: ls.filter (mj_keep2 i) = ls') (k : mj_G mt R Fi ex bc bs (pc + 2) ls' st g M) : mj_G mt R Fi ex bc bs pc ls (.long x :: st) g M := by
  intro p l e s m args below meth c E C H locs cells slots hw hS hc hs hex lr hl
  exact lv_lstore C.1 C.2.2.1 hd hl hin rfl (fun lr9 hl9 => k p l e s m args below meth c E C H locs cells slots hw hS hc hs hex lr9 (mj_lput2 hl9 hp))
theorem mg_astore_n {k4 : Fin 4} {i : Nat} {x : Nat} {ls' : List (Nat × Value)} (hd : decode mt.2.1 pc = .ok (.astore_n k4, 1)) (hi : (k4 : Nat) = i) (hin : i < mt.2.2.1) (hp : (i, Value.ref x) :: ls.filter (mj_keep1 i) = ls') (k : mj_G mt R Fi ex bc bs (pc + 1) ls' st g M) : mj_G mt R Fi ex bc bs pc ls (.ref x :: st) g M := by
  intro p l e s m args below meth c E C H locs cells slots hw hS hc hs hex lr hl
  exact lv_astore_n C.1 C.2.2.1 hd hi hl hin rfl (fun lr9 hl9 => k p l e s m args below meth c E C H locs cells slots hw hS hc hs hex lr9 (mj_lput1 hl9 hp))
theorem mg_astore {i : Nat} {x : Nat} {ls' : List (Nat × Value)} (hd : decode mt.2.1 pc = .ok (.astore i, 2)) (hin : i < mt.2.2.1) (hp : (i, Value.ref x) :: ls.filter (mj_keep1 i) = ls') (k : mj_G mt R Fi ex bc bs (pc + 2) ls' st g M) : mj_G mt R Fi ex bc bs pc ls (.ref x :: st) g M := by
  intro p l e s m args below meth c E C H locs cells slots hw hS hc hs hex lr hl
  exact lv_astore C.1 C.2.2.1 hd hl hin rfl (fun lr9 hl9 => k p l e s m args below meth c E C H locs cells slots hw hS hc hs hex lr9 (mj_lput1 hl9 hp))
theorem mg_iinc {i : Nat} {n : Int} {x v : Int32} {ls' : List (Nat × Value)} (hd : decode mt.2.1 pc = .ok (.iinc i n, 3)) (j : Nat) (hj : ls[j]? = some (i, .int x)) (hv : x + Int32.ofInt n = v) (hin : i < mt.2.2.1) (hp : (i, Value.int v) :: ls.filter (mj_keep1 i) = ls') (k : mj_G mt R Fi ex bc bs (pc + 3) ls' st g M) : mj_G mt R Fi ex bc bs pc ls st g M := by
  intro p l e s m args below meth c E C H locs cells slots hw hS hc hs hex lr hl
  exact lv_iinc C.1 C.2.2.1 hd hl (k := j) (by unfold mj_ls; rw [List.getElem?_map, hj]; rfl) hv hin rfl (fun lr9 hl9 => k p l e s m args below meth c E C H locs cells slots hw hS hc hs hex lr9 (mj_lput1 (v := .int v) hl9 hp))
theorem mg_iadd {x y : Int32} (hd : decode mt.2.1 pc = .ok (.iadd, 1))  (k : mj_G mt R Fi ex bc bs (pc + 1) ls (.int (x + y) :: st) g M) : mj_G mt R Fi ex bc bs pc ls (.int y :: .int x :: st) g M := by
  intro p l e s m args below meth c E C H locs cells slots hw hS hc hs hex lr hl
  exact lv_iadd C.1 C.2.2.1 hd (k p l e s m args below meth c E C H locs cells slots hw hS hc hs hex lr hl)
theorem mg_isub {x y : Int32} (hd : decode mt.2.1 pc = .ok (.isub, 1))  (k : mj_G mt R Fi ex bc bs (pc + 1) ls (.int (x - y) :: st) g M) : mj_G mt R Fi ex bc bs pc ls (.int y :: .int x :: st) g M := by
  intro p l e s m args below meth c E C H locs cells slots hw hS hc hs hex lr hl
  exact lv_isub C.1 C.2.2.1 hd (k p l e s m args below meth c E C H locs cells slots hw hS hc hs hex lr hl)
theorem mg_imul {x y : Int32} (hd : decode mt.2.1 pc = .ok (.imul, 1))  (k : mj_G mt R Fi ex bc bs (pc + 1) ls (.int (x * y) :: st) g M) : mj_G mt R Fi ex bc bs pc ls (.int y :: .int x :: st) g M := by
  intro p l e s m args below meth c E C H locs cells slots hw hS hc hs hex lr hl
  exact lv_imul C.1 C.2.2.1 hd (k p l e s m args below meth c E C H locs cells slots hw hS hc hs hex lr hl)
theorem mg_iand {x y : Int32} (hd : decode mt.2.1 pc = .ok (.iand, 1))  (k : mj_G mt R Fi ex bc bs (pc + 1) ls (.int (x &&& y) :: st) g M) : mj_G mt R Fi ex bc bs pc ls (.int y :: .int x :: st) g M := by
  intro p l e s m args below meth c E C H locs cells slots hw hS hc hs hex lr hl
  exact lv_iand C.1 C.2.2.1 hd (k p l e s m args below meth c E C H locs cells slots hw hS hc hs hex lr hl)
theorem mg_ior {x y : Int32} (hd : decode mt.2.1 pc = .ok (.ior, 1))  (k : mj_G mt R Fi ex bc bs (pc + 1) ls (.int (x ||| y) :: st) g M) : mj_G mt R Fi ex bc bs pc ls (.int y :: .int x :: st) g M := by
  intro p l e s m args below meth c E C H locs cells slots hw hS hc hs hex lr hl
  exact lv_ior C.1 C.2.2.1 hd (k p l e s m args below meth c E C H locs cells slots hw hS hc hs hex lr hl)
theorem mg_ixor {x y : Int32} (hd : decode mt.2.1 pc = .ok (.ixor, 1))  (k : mj_G mt R Fi ex bc bs (pc + 1) ls (.int (x ^^^ y) :: st) g M) : mj_G mt R Fi ex bc bs pc ls (.int y :: .int x :: st) g M := by
  intro p l e s m args below meth c E C H locs cells slots hw hS hc hs hex lr hl
  exact lv_ixor C.1 C.2.2.1 hd (k p l e s m args below meth c E C H locs cells slots hw hS hc hs hex lr hl)
theorem mg_ishl {x y : Int32} (hd : decode mt.2.1 pc = .ok (.ishl, 1))  (k : mj_G mt R Fi ex bc bs (pc + 1) ls (.int (x <<< (y &&& 31)) :: st) g M) : mj_G mt R Fi ex bc bs pc ls (.int y :: .int x :: st) g M := by
  intro p l e s m args below meth c E C H locs cells slots hw hS hc hs hex lr hl
  exact lv_ishl C.1 C.2.2.1 hd (k p l e s m args below meth c E C H locs cells slots hw hS hc hs hex lr hl)
theorem mg_ishr {x y : Int32} (hd : decode mt.2.1 pc = .ok (.ishr, 1))  (k : mj_G mt R Fi ex bc bs (pc + 1) ls (.int (x >>> (y &&& 31)) :: st) g M) : mj_G mt R Fi ex bc bs pc ls (.int y :: .int x :: st) g M := by
  intro p l e s m args below meth c E C H locs cells slots hw hS hc hs hex lr hl
  exact lv_ishr C.1 C.2.2.1 hd (k p l e s m args below meth c E C H locs cells slots hw hS hc hs hex lr hl)
theorem mg_ineg {x : Int32} (hd : decode mt.2.1 pc = .ok (.ineg, 1))  (k : mj_G mt R Fi ex bc bs (pc + 1) ls (.int (-x) :: st) g M) : mj_G mt R Fi ex bc bs pc ls (.int x :: st) g M := by
  intro p l e s m args below meth c E C H locs cells slots hw hS hc hs hex lr hl
  exact lv_ineg C.1 C.2.2.1 hd (k p l e s m args below meth c E C H locs cells slots hw hS hc hs hex lr hl)
theorem mg_idiv {x y : Int32} (hd : decode mt.2.1 pc = .ok (.idiv, 1)) (hne : ¬ y = 0) (k : mj_G mt R Fi ex bc bs (pc + 1) ls (.int (x / y) :: st) g M) : mj_G mt R Fi ex bc bs pc ls (.int y :: .int x :: st) g M := by
  intro p l e s m args below meth c E C H locs cells slots hw hS hc hs hex lr hl
  exact lv_idiv C.1 C.2.2.1 hd hne (k p l e s m args below meth c E C H locs cells slots hw hS hc hs hex lr hl)
theorem mg_irem {x y : Int32} (hd : decode mt.2.1 pc = .ok (.irem, 1)) (hne : ¬ y = 0) (k : mj_G mt R Fi ex bc bs (pc + 1) ls (.int (x - x / y * y) :: st) g M) : mj_G mt R Fi ex bc bs pc ls (.int y :: .int x :: st) g M := by
  intro p l e s m args below meth c E C H locs cells slots hw hS hc hs hex lr hl
  exact lv_irem C.1 C.2.2.1 hd hne (k p l e s m args below meth c E C H locs cells slots hw hS hc hs hex lr hl)
theorem mg_iushr {x y : Int32} (hd : decode mt.2.1 pc = .ok (.iushr, 1))  (k : mj_G mt R Fi ex bc bs (pc + 1) ls (.int (x.toUInt32 >>> (y.toUInt32 &&& Int32.toUInt32 31)).toInt32 :: st) g M) : mj_G mt R Fi ex bc bs pc ls (.int y :: .int x :: st) g M := by
  intro p l e s m args below meth c E C H locs cells slots hw hS hc hs hex lr hl
  exact lv_iushr C.1 C.2.2.1 hd rfl (k p l e s m args below meth c E C H locs cells slots hw hS hc hs hex lr hl)
theorem mg_ladd {x y : Int64} (hd : decode mt.2.1 pc = .ok (.ladd, 1))  (k : mj_G mt R Fi ex bc bs (pc + 1) ls (.long (x + y) :: st) g M) : mj_G mt R Fi ex bc bs pc ls (.long y :: .long x :: st) g M := by
  intro p l e s m args below meth c E C H locs cells slots hw hS hc hs hex lr hl
  exact lv_ladd C.1 C.2.2.1 hd (k p l e s m args below meth c E C H locs cells slots hw hS hc hs hex lr hl)
theorem mg_lmul {x y : Int64} (hd : decode mt.2.1 pc = .ok (.lmul, 1))  (k : mj_G mt R Fi ex bc bs (pc + 1) ls (.long (x * y) :: st) g M) : mj_G mt R Fi ex bc bs pc ls (.long y :: .long x :: st) g M := by
  intro p l e s m args below meth c E C H locs cells slots hw hS hc hs hex lr hl
  exact lv_lmul C.1 C.2.2.1 hd (k p l e s m args below meth c E C H locs cells slots hw hS hc hs hex lr hl)
theorem mg_land {x y : Int64} (hd : decode mt.2.1 pc = .ok (.land, 1))  (k : mj_G mt R Fi ex bc bs (pc + 1) ls (.long (x &&& y) :: st) g M) : mj_G mt R Fi ex bc bs pc ls (.long y :: .long x :: st) g M := by
  intro p l e s m args below meth c E C H locs cells slots hw hS hc hs hex lr hl
  exact lv_land C.1 C.2.2.1 hd (k p l e s m args below meth c E C H locs cells slots hw hS hc hs hex lr hl)
theorem mg_lor {x y : Int64} (hd : decode mt.2.1 pc = .ok (.lor, 1))  (k : mj_G mt R Fi ex bc bs (pc + 1) ls (.long (x ||| y) :: st) g M) : mj_G mt R Fi ex bc bs pc ls (.long y :: .long x :: st) g M := by
  intro p l e s m args below meth c E C H locs cells slots hw hS hc hs hex lr hl
  exact lv_lor C.1 C.2.2.1 hd (k p l e s m args below meth c E C H locs cells slots hw hS hc hs hex lr hl)
theorem mg_ldiv {x y : Int64} (hd : decode mt.2.1 pc = .ok (.ldiv, 1)) (hne : ¬ y = 0) (k : mj_G mt R Fi ex bc bs (pc + 1) ls (.long (x / y) :: st) g M) : mj_G mt R Fi ex bc bs pc ls (.long y :: .long x :: st) g M := by
  intro p l e s m args below meth c E C H locs cells slots hw hS hc hs hex lr hl
  exact lv_ldiv C.1 C.2.2.1 hd hne (k p l e s m args below meth c E C H locs cells slots hw hS hc hs hex lr hl)
theorem mg_lrem {x y : Int64} (hd : decode mt.2.1 pc = .ok (.lrem, 1)) (hne : ¬ y = 0) (k : mj_G mt R Fi ex bc bs (pc + 1) ls (.long (x - x / y * y) :: st) g M) : mj_G mt R Fi ex bc bs pc ls (.long y :: .long x :: st) g M := by
  intro p l e s m args below meth c E C H locs cells slots hw hS hc hs hex lr hl
  exact lv_lrem C.1 C.2.2.1 hd hne (k p l e s m args below meth c E C H locs cells slots hw hS hc hs hex lr hl)
theorem mg_lshl {x : Int64} {y : Int32} (hd : decode mt.2.1 pc = .ok (.lshl, 1))  (k : mj_G mt R Fi ex bc bs (pc + 1) ls (.long (x <<< (y.toInt64 &&& 63)) :: st) g M) : mj_G mt R Fi ex bc bs pc ls (.int y :: .long x :: st) g M := by
  intro p l e s m args below meth c E C H locs cells slots hw hS hc hs hex lr hl
  exact lv_lshl C.1 C.2.2.1 hd rfl (k p l e s m args below meth c E C H locs cells slots hw hS hc hs hex lr hl)
theorem mg_lshr {x : Int64} {y : Int32} (hd : decode mt.2.1 pc = .ok (.lshr, 1))  (k : mj_G mt R Fi ex bc bs (pc + 1) ls (.long (x >>> (y.toInt64 &&& 63)) :: st) g M) : mj_G mt R Fi ex bc bs pc ls (.int y :: .long x :: st) g M := by
  intro p l e s m args below meth c E C H locs cells slots hw hS hc hs hex lr hl
  exact lv_lshr C.1 C.2.2.1 hd rfl (k p l e s m args below meth c E C H locs cells slots hw hS hc hs hex lr hl)
theorem mg_lcmp {x y : Int64} (hd : decode mt.2.1 pc = .ok (.lcmp, 1))  (k : mj_G mt R Fi ex bc bs (pc + 1) ls (.int (lg_cmp x y) :: st) g M) : mj_G mt R Fi ex bc bs pc ls (.long y :: .long x :: st) g M := by
  intro p l e s m args below meth c E C H locs cells slots hw hS hc hs hex lr hl
  exact W.lcmp C.1 C.2.2.1 hd (k p l e s m args below meth c E C H locs cells slots hw hS hc hs hex lr hl)
theorem mg_i2l {x : Int32} (hd : decode mt.2.1 pc = .ok (.i2l, 1))  (k : mj_G mt R Fi ex bc bs (pc + 1) ls (.long x.toInt64 :: st) g M) : mj_G mt R Fi ex bc bs pc ls (.int x :: st) g M := by
  intro p l e s m args below meth c E C H locs cells slots hw hS hc hs hex lr hl
  exact lv_i2l C.1 C.2.2.1 hd rfl (k p l e s m args below meth c E C H locs cells slots hw hS hc hs hex lr hl)
theorem mg_l2i {x : Int64} (hd : decode mt.2.1 pc = .ok (.l2i, 1))  (k : mj_G mt R Fi ex bc bs (pc + 1) ls (.int x.toInt32 :: st) g M) : mj_G mt R Fi ex bc bs pc ls (.long x :: st) g M := by
  intro p l e s m args below meth c E C H locs cells slots hw hS hc hs hex lr hl
  exact lv_l2i C.1 C.2.2.1 hd rfl (k p l e s m args below meth c E C H locs cells slots hw hS hc hs hex lr hl)
theorem mg_i2c {x : Int32} (hd : decode mt.2.1 pc = .ok (.i2c, 1))  (k : mj_G mt R Fi ex bc bs (pc + 1) ls (.int (x.toUInt32 % 65536).toInt32 :: st) g M) : mj_G mt R Fi ex bc bs pc ls (.int x :: st) g M := by
  intro p l e s m args below meth c E C H locs cells slots hw hS hc hs hex lr hl
  exact lv_i2c C.1 C.2.2.1 hd rfl (k p l e s m args below meth c E C H locs cells slots hw hS hc hs hex lr hl)
theorem mg_dup {va : Value} (hd : decode mt.2.1 pc = .ok (.dup, 1)) (hva : va.category = 1) (k : mj_G mt R Fi ex bc bs (pc + 1) ls (va :: va :: st) g M) : mj_G mt R Fi ex bc bs pc ls (va :: st) g M := by
  intro p l e s m args below meth c E C H locs cells slots hw hS hc hs hex lr hl
  exact lv_dup C.1 C.2.2.1 hd ((mj_rv_cat E va).trans hva) (k p l e s m args below meth c E C H locs cells slots hw hS hc hs hex lr hl)
theorem mg_pop {va : Value} (hd : decode mt.2.1 pc = .ok (.pop, 1)) (hva : va.category = 1) (k : mj_G mt R Fi ex bc bs (pc + 1) ls (st) g M) : mj_G mt R Fi ex bc bs pc ls (va :: st) g M := by
  intro p l e s m args below meth c E C H locs cells slots hw hS hc hs hex lr hl
  exact lv_pop C.1 C.2.2.1 hd ((mj_rv_cat E va).trans hva) (k p l e s m args below meth c E C H locs cells slots hw hS hc hs hex lr hl)
theorem mg_dup2 {va vb : Value} (hd : decode mt.2.1 pc = .ok (.dup2, 1)) (hva : va.category = 1) (hvb : vb.category = 1) (k : mj_G mt R Fi ex bc bs (pc + 1) ls (va :: vb :: va :: vb :: st) g M) : mj_G mt R Fi ex bc bs pc ls (va :: vb :: st) g M := by
  intro p l e s m args below meth c E C H locs cells slots hw hS hc hs hex lr hl
  exact lv_dup2_11 C.1 C.2.2.1 hd ((mj_rv_cat E va).trans hva) ((mj_rv_cat E vb).trans hvb) (k p l e s m args below meth c E C H locs cells slots hw hS hc hs hex lr hl)
theorem mg_null  (hd : decode mt.2.1 pc = .ok (.aconst_null, 1))  (k : mj_G mt R Fi ex bc bs (pc + 1) ls (.null :: st) g M) : mj_G mt R Fi ex bc bs pc ls (st) g M := by
  intro p l e s m args below meth c E C H locs cells slots hw hS hc hs hex lr hl
  exact lv_null C.1 C.2.2.1 hd (k p l e s m args below meth c E C H locs cells slots hw hS hc hs hex lr hl)
theorem mg_if_eq {x : Int32} {off : Int} {tgt : Nat} (hd : decode mt.2.1 pc = .ok (.ifCond .eq off, 3)) (ht : (pc : Int) + off = (tgt : Int)) (kt : x = 0 → mj_G mt R Fi ex bc bs tgt ls st g M) (kf : ¬ x = 0 → mj_G mt R Fi ex bc bs (pc + 3) ls st g M) : mj_G mt R Fi ex bc bs pc ls (.int x :: st) g M := by
  intro p l e s m args below meth c E C H locs cells slots hw hS hc hs hex lr hl
  exact lv_if_eq C.1 C.2.2.1 hd ht (fun h9 => kt h9 p l e s m args below meth c E C H locs cells slots hw hS hc hs hex lr hl) (fun h9 => kf h9 p l e s m args below meth c E C H locs cells slots hw hS hc hs hex lr hl)
theorem mg_if_ne {x : Int32} {off : Int} {tgt : Nat} (hd : decode mt.2.1 pc = .ok (.ifCond .ne off, 3)) (ht : (pc : Int) + off = (tgt : Int)) (kt : ¬ x = 0 → mj_G mt R Fi ex bc bs tgt ls st g M) (kf : x = 0 → mj_G mt R Fi ex bc bs (pc + 3) ls st g M) : mj_G mt R Fi ex bc bs pc ls (.int x :: st) g M := by
  intro p l e s m args below meth c E C H locs cells slots hw hS hc hs hex lr hl
  exact lv_if_ne C.1 C.2.2.1 hd ht (fun h9 => kt h9 p l e s m args below meth c E C H locs cells slots hw hS hc hs hex lr hl) (fun h9 => kf h9 p l e s m args below meth c E C H locs cells slots hw hS hc hs hex lr hl)
theorem mg_if_lt {x : Int32} {off : Int} {tgt : Nat} (hd : decode mt.2.1 pc = .ok (.ifCond .lt off, 3)) (ht : (pc : Int) + off = (tgt : Int)) (kt : x < 0 → mj_G mt R Fi ex bc bs tgt ls st g M) (kf : ¬ x < 0 → mj_G mt R Fi ex bc bs (pc + 3) ls st g M) : mj_G mt R Fi ex bc bs pc ls (.int x :: st) g M := by
  intro p l e s m args below meth c E C H locs cells slots hw hS hc hs hex lr hl
  exact lv_if_lt C.1 C.2.2.1 hd ht (fun h9 => kt h9 p l e s m args below meth c E C H locs cells slots hw hS hc hs hex lr hl) (fun h9 => kf h9 p l e s m args below meth c E C H locs cells slots hw hS hc hs hex lr hl)
theorem mg_if_ge {x : Int32} {off : Int} {tgt : Nat} (hd : decode mt.2.1 pc = .ok (.ifCond .ge off, 3)) (ht : (pc : Int) + off = (tgt : Int)) (kt : 0 ≤ x → mj_G mt R Fi ex bc bs tgt ls st g M) (kf : ¬ 0 ≤ x → mj_G mt R Fi ex bc bs (pc + 3) ls st g M) : mj_G mt R Fi ex bc bs pc ls (.int x :: st) g M := by
  intro p l e s m args below meth c E C H locs cells slots hw hS hc hs hex lr hl
  exact lv_if_ge C.1 C.2.2.1 hd ht (fun h9 => kt h9 p l e s m args below meth c E C H locs cells slots hw hS hc hs hex lr hl) (fun h9 => kf h9 p l e s m args below meth c E C H locs cells slots hw hS hc hs hex lr hl)
theorem mg_if_gt {x : Int32} {off : Int} {tgt : Nat} (hd : decode mt.2.1 pc = .ok (.ifCond .gt off, 3)) (ht : (pc : Int) + off = (tgt : Int)) (kt : 0 < x → mj_G mt R Fi ex bc bs tgt ls st g M) (kf : ¬ 0 < x → mj_G mt R Fi ex bc bs (pc + 3) ls st g M) : mj_G mt R Fi ex bc bs pc ls (.int x :: st) g M := by
  intro p l e s m args below meth c E C H locs cells slots hw hS hc hs hex lr hl
  exact lv_if_gt C.1 C.2.2.1 hd ht (fun h9 => kt h9 p l e s m args below meth c E C H locs cells slots hw hS hc hs hex lr hl) (fun h9 => kf h9 p l e s m args below meth c E C H locs cells slots hw hS hc hs hex lr hl)
theorem mg_if_le {x : Int32} {off : Int} {tgt : Nat} (hd : decode mt.2.1 pc = .ok (.ifCond .le off, 3)) (ht : (pc : Int) + off = (tgt : Int)) (kt : x ≤ 0 → mj_G mt R Fi ex bc bs tgt ls st g M) (kf : ¬ x ≤ 0 → mj_G mt R Fi ex bc bs (pc + 3) ls st g M) : mj_G mt R Fi ex bc bs pc ls (.int x :: st) g M := by
  intro p l e s m args below meth c E C H locs cells slots hw hS hc hs hex lr hl
  exact lv_if_le C.1 C.2.2.1 hd ht (fun h9 => kt h9 p l e s m args below meth c E C H locs cells slots hw hS hc hs hex lr hl) (fun h9 => kf h9 p l e s m args below meth c E C H locs cells slots hw hS hc hs hex lr hl)
theorem mg_icmp_eq {x y : Int32} {off : Int} {tgt : Nat} (hd : decode mt.2.1 pc = .ok (.if_icmp .eq off, 3)) (ht : (pc : Int) + off = (tgt : Int)) (kt : x = y → mj_G mt R Fi ex bc bs tgt ls st g M) (kf : ¬ x = y → mj_G mt R Fi ex bc bs (pc + 3) ls st g M) : mj_G mt R Fi ex bc bs pc ls (.int y :: .int x :: st) g M := by
  intro p l e s m args below meth c E C H locs cells slots hw hS hc hs hex lr hl
  exact lv_icmp_eq C.1 C.2.2.1 hd ht (fun h9 => kt h9 p l e s m args below meth c E C H locs cells slots hw hS hc hs hex lr hl) (fun h9 => kf h9 p l e s m args below meth c E C H locs cells slots hw hS hc hs hex lr hl)
theorem mg_icmp_ne {x y : Int32} {off : Int} {tgt : Nat} (hd : decode mt.2.1 pc = .ok (.if_icmp .ne off, 3)) (ht : (pc : Int) + off = (tgt : Int)) (kt : ¬ x = y → mj_G mt R Fi ex bc bs tgt ls st g M) (kf : x = y → mj_G mt R Fi ex bc bs (pc + 3) ls st g M) : mj_G mt R Fi ex bc bs pc ls (.int y :: .int x :: st) g M := by
  intro p l e s m args below meth c E C H locs cells slots hw hS hc hs hex lr hl
  exact lv_icmp_ne C.1 C.2.2.1 hd ht (fun h9 => kt h9 p l e s m args below meth c E C H locs cells slots hw hS hc hs hex lr hl) (fun h9 => kf h9 p l e s m args below meth c E C H locs cells slots hw hS hc hs hex lr hl)
theorem mg_icmp_lt {x y : Int32} {off : Int} {tgt : Nat} (hd : decode mt.2.1 pc = .ok (.if_icmp .lt off, 3)) (ht : (pc : Int) + off = (tgt : Int)) (kt : x < y → mj_G mt R Fi ex bc bs tgt ls st g M) (kf : ¬ x < y → mj_G mt R Fi ex bc bs (pc + 3) ls st g M) : mj_G mt R Fi ex bc bs pc ls (.int y :: .int x :: st) g M := by
  intro p l e s m args below meth c E C H locs cells slots hw hS hc hs hex lr hl
  exact lv_icmp_lt C.1 C.2.2.1 hd ht (fun h9 => kt h9 p l e s m args below meth c E C H locs cells slots hw hS hc hs hex lr hl) (fun h9 => kf h9 p l e s m args below meth c E C H locs cells slots hw hS hc hs hex lr hl)
theorem mg_icmp_ge {x y : Int32} {off : Int} {tgt : Nat} (hd : decode mt.2.1 pc = .ok (.if_icmp .ge off, 3)) (ht : (pc : Int) + off = (tgt : Int)) (kt : y ≤ x → mj_G mt R Fi ex bc bs tgt ls st g M) (kf : ¬ y ≤ x → mj_G mt R Fi ex bc bs (pc + 3) ls st g M) : mj_G mt R Fi ex bc bs pc ls (.int y :: .int x :: st) g M := by
  intro p l e s m args below meth c E C H locs cells slots hw hS hc hs hex lr hl
  exact lv_icmp_ge C.1 C.2.2.1 hd ht (fun h9 => kt h9 p l e s m args below meth c E C H locs cells slots hw hS hc hs hex lr hl) (fun h9 => kf h9 p l e s m args below meth c E C H locs cells slots hw hS hc hs hex lr hl)
theorem mg_icmp_gt {x y : Int32} {off : Int} {tgt : Nat} (hd : decode mt.2.1 pc = .ok (.if_icmp .gt off, 3)) (ht : (pc : Int) + off = (tgt : Int)) (kt : y < x → mj_G mt R Fi ex bc bs tgt ls st g M) (kf : ¬ y < x → mj_G mt R Fi ex bc bs (pc + 3) ls st g M) : mj_G mt R Fi ex bc bs pc ls (.int y :: .int x :: st) g M := by
  intro p l e s m args below meth c E C H locs cells slots hw hS hc hs hex lr hl
  exact lv_icmp_gt C.1 C.2.2.1 hd ht (fun h9 => kt h9 p l e s m args below meth c E C H locs cells slots hw hS hc hs hex lr hl) (fun h9 => kf h9 p l e s m args below meth c E C H locs cells slots hw hS hc hs hex lr hl)
theorem mg_icmp_le {x y : Int32} {off : Int} {tgt : Nat} (hd : decode mt.2.1 pc = .ok (.if_icmp .le off, 3)) (ht : (pc : Int) + off = (tgt : Int)) (kt : x ≤ y → mj_G mt R Fi ex bc bs tgt ls st g M) (kf : ¬ x ≤ y → mj_G mt R Fi ex bc bs (pc + 3) ls st g M) : mj_G mt R Fi ex bc bs pc ls (.int y :: .int x :: st) g M := by
  intro p l e s m args below meth c E C H locs cells slots hw hS hc hs hex lr hl
  exact lv_icmp_le C.1 C.2.2.1 hd ht (fun h9 => kt h9 p l e s m args below meth c E C H locs cells slots hw hS hc hs hex lr hl) (fun h9 => kf h9 p l e s m args below meth c E C H locs cells slots hw hS hc hs hex lr hl)
theorem mg_goto {off : Int} {tgt : Nat} (hd : decode mt.2.1 pc = .ok (.goto off, 3)) (ht : (pc : Int) + off = (tgt : Int)) (k : mj_G mt R Fi ex bc bs tgt ls st g M) : mj_G mt R Fi ex bc bs pc ls st g M := by
  intro p l e s m args below meth c E C H locs cells slots hw hS hc hs hex lr hl
  exact lv_goto C.1 C.2.2.1 hd ht (k p l e s m args below meth c E C H locs cells slots hw hS hc hs hex lr hl)
theorem mg_ifnull {x : Nat} {off : Int} (hd : decode mt.2.1 pc = .ok (.ifnull off, 3)) (k : mj_G mt R Fi ex bc bs (pc + 3) ls st g M) : mj_G mt R Fi ex bc bs pc ls (.ref x :: st) g M := by
  intro p l e s m args below meth c E C H locs cells slots hw hS hc hs hex lr hl
  exact lv_ifnull C.1 C.2.2.1 hd (k p l e s m args below meth c E C H locs cells slots hw hS hc hs hex lr hl)
theorem mg_tblIn {dflt lo hi : Int} {offs : Array Int} {len : Nat} {x : Int32} {off : Int} {tgt : Nat} (hd : decode mt.2.1 pc = .ok (.tableswitch dflt lo hi offs, len)) (h1 : ¬ x.toInt < lo) (h2 : ¬ hi < x.toInt) (ho : offs[(x.toInt - lo).toNat]? = some off) (ht : (pc : Int) + off = (tgt : Int)) (k : mj_G mt R Fi ex bc bs tgt ls st g M) : mj_G mt R Fi ex bc bs pc ls (.int x :: st) g M := by
  intro p l e s m args below meth c E C H locs cells slots hw hS hc hs hex lr hl
  exact lv_tableIn C.1 C.2.2.1 hd h1 h2 ho ht (k p l e s m args below meth c E C H locs cells slots hw hS hc hs hex lr hl)
theorem mg_tblOut {dflt lo hi : Int} {offs : Array Int} {len : Nat} {x : Int32} {tgt : Nat} (hd : decode mt.2.1 pc = .ok (.tableswitch dflt lo hi offs, len)) (h : x.toInt < lo ∨ hi < x.toInt) (ht : (pc : Int) + dflt = (tgt : Int)) (k : mj_G mt R Fi ex bc bs tgt ls st g M) : mj_G mt R Fi ex bc bs pc ls (.int x :: st) g M := by
  intro p l e s m args below meth c E C H locs cells slots hw hS hc hs hex lr hl
  exact lv_tableOut C.1 C.2.2.1 hd h ht (k p l e s m args below meth c E C H locs cells slots hw hS hc hs hex lr hl)
end MGA
