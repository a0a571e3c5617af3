/-! rows of the small machine that touch cells; ends; entry -/
/-- a class of the world: its place in the list, name, fields -/
def mj_KC (ci : Nat) (C : String) (T : u_T) (N : Nat) : Prop := mj_cl[ci]? = some (C, T, N) ∧ mj_N ci = N ∧ (∀ w ∈ u_ws C T N, w ∈ lw_good) ∧ (∀ k, k < N → parseFieldDescriptor (T k).2.2.1 = some (mj_ty ci k)) ∧ (∀ a, a < N → ∀ b, b < N → a ≠ b → (T a).2.1 ≠ (T b).2.1)
def mj_isI (t : FieldType) : Bool := match t with
  | .int => true
  | .boolean => true
  | _ => false
def mj_isR (t : FieldType) : Bool := match t with
  | .object _ => true
  | .array _ => true
  | _ => false
section MGB
variable {mt : mj_T} {R : Room} {Fi : mj_F} {ex : Bool} {bc bs pc : Nat} {ls : List (Nat × Value)} {st : List Value} {g : mj_S} {M : mj_M}
theorem mj_fvI {E : mj_E} {k j : Nat} {t : FieldType} (h : mj_isI t = true) : mj_fv E g M k t j = .int (M.1 k j) := by
  cases t <;> first | rfl | cases h
theorem mj_fvR {E : mj_E} {k j : Nat} {t : FieldType} (h : mj_isR t = true) : mj_fv E g M k t j = mj_rf E (g.2.2 k j) := by
  cases t <;> first | rfl | cases h
theorem mg_getI {ci j k n N idx : Nat} {C : String} {T : u_T} {v : Int32} (hd : decode mt.2.1 pc = .ok (.getfield idx, 3)) (hC : mj_KC ci C T N) (hj : j < N) (hw9 : Cond.fieldLink mt.1 idx C (T j).2.1 (T j).2.2.1 ∈ lw_good) (hO : (T j).1 = C) (ht : mj_isI (mj_ty ci j) = true) (hk : k < g.1) (hkk : g.2.1 k = (0, ci, n)) (hv : M.1 k j = v)
    (K : mj_G mt R Fi ex bc bs (pc + 3) ls (.int v :: st) g M) : mj_G mt R Fi ex bc bs pc ls (.ref k :: st) g M := by
  subst hv
  intro p l e s m args below meth c E X H locs cells slots hw hS hc hs hex lr hl
  refine va_get X.1 X.2.2.1 X.2.2.2.2.2.1 hC.2.2.1 X.2.2.2.2.1 X.2.2.2.2.2.2.2.2.2.2.1 hw.1 k (by rw [mj_ws_at hk, mj_cell_obj hkk]) hC.1 j hj (X.2.2.2.2.2.1 _ hw9) (by rw [hO]; exact fun _ h => h) (v := .int (M.1 k j)) (by rw [mj_fs_at (by rw [hC.2.1]; exact hj), mj_fvI ht]) hd ?_
  exact K p l e s m args below meth c E X H locs cells slots hw hS hc hs hex lr hl
theorem mg_getL {ci j k n N idx : Nat} {C : String} {T : u_T} {v : Int64} (hd : decode mt.2.1 pc = .ok (.getfield idx, 3)) (hC : mj_KC ci C T N) (hj : j < N) (hw9 : Cond.fieldLink mt.1 idx C (T j).2.1 (T j).2.2.1 ∈ lw_good) (hO : (T j).1 = C) (ht : mj_ty ci j = .long) (hk : k < g.1) (hkk : g.2.1 k = (0, ci, n)) (hv : M.2.1 k j = v)
    (K : mj_G mt R Fi ex bc bs (pc + 3) ls (.long v :: st) g M) : mj_G mt R Fi ex bc bs pc ls (.ref k :: st) g M := by
  subst hv
  intro p l e s m args below meth c E X H locs cells slots hw hS hc hs hex lr hl
  refine va_get X.1 X.2.2.1 X.2.2.2.2.2.1 hC.2.2.1 X.2.2.2.2.1 X.2.2.2.2.2.2.2.2.2.2.1 hw.1 k (by rw [mj_ws_at hk, mj_cell_obj hkk]) hC.1 j hj (X.2.2.2.2.2.1 _ hw9) (by rw [hO]; exact fun _ h => h) (v := .long (M.2.1 k j)) (by rw [mj_fs_at (by rw [hC.2.1]; exact hj), ht]; rfl) hd ?_
  exact K p l e s m args below meth c E X H locs cells slots hw hS hc hs hex lr hl
/-- a field that holds a reference: where it leads is known -/
theorem mg_getR {ci j k n N idx a : Nat} {C : String} {T : u_T} (hd : decode mt.2.1 pc = .ok (.getfield idx, 3)) (hC : mj_KC ci C T N) (hj : j < N) (hw9 : Cond.fieldLink mt.1 idx C (T j).2.1 (T j).2.2.1 ∈ lw_good) (hO : (T j).1 = C) (ht : mj_isR (mj_ty ci j) = true) (hk : k < g.1) (hkk : g.2.1 k = (0, ci, n)) (hr : g.2.2 k j = some a)
    (K : mj_G mt R Fi ex bc bs (pc + 3) ls (.ref a :: st) g M) : mj_G mt R Fi ex bc bs pc ls (.ref k :: st) g M := by
  intro p l e s m args below meth c E X H locs cells slots hw hS hc hs hex lr hl
  refine va_get X.1 X.2.2.1 X.2.2.2.2.2.1 hC.2.2.1 X.2.2.2.2.1 X.2.2.2.2.2.2.2.2.2.2.1 hw.1 k (by rw [mj_ws_at hk, mj_cell_obj hkk]) hC.1 j hj (X.2.2.2.2.2.1 _ hw9) (by rw [hO]; exact fun _ h => h) (v := .ref (mj_ad E a)) (by rw [mj_fs_at (by rw [hC.2.1]; exact hj), mj_fvR ht, hr]; rfl) hd ?_
  exact K p l e s m args below meth c E X H locs cells slots hw hS hc hs hex lr hl
/-- the tables behind a store into an object -/
theorem mj_setI {E : mj_E} {ci j k n : Nat} {v : Int32} (ht : mj_isI (mj_ty ci j) = true) (hkk : g.2.1 k = (0, ci, n)) : (mj_ws E g M).set k (mj_ad E k, .inr (ci, (mj_fs E g M k ci).set j (.int v))) = mj_ws E g (mj_wI M k j v) := by
  refine mj_ws_set rfl ?_ (fun i _ hi => mj_cell_eq rfl (mj_up2_k _ _ hi) rfl rfl rfl)
  rw [mj_cell_obj hkk, mj_fs_set (g' := g) (M' := mj_wI M k j v)]
  · rw [mj_fvI ht]; simp [mj_wI, mj_up2]
  · intro i hi
    cases hti : mj_ty ci i <;> simp [mj_fv, mj_wI, mj_up2, hi]
theorem mj_setL {E : mj_E} {ci j k n : Nat} {v : Int64} (ht : mj_ty ci j = .long) (hkk : g.2.1 k = (0, ci, n)) : (mj_ws E g M).set k (mj_ad E k, .inr (ci, (mj_fs E g M k ci).set j (.long v))) = mj_ws E g (mj_wL M k j v) := by
  refine mj_ws_set rfl ?_ (fun i _ hi => mj_cell_eq rfl rfl (mj_up2_k _ _ hi) rfl rfl)
  rw [mj_cell_obj hkk, mj_fs_set (g' := g) (M' := mj_wL M k j v)]
  · rw [ht]; simp [mj_fv, mj_wL, mj_up2]
  · intro i hi
    cases hti : mj_ty ci i <;> simp [mj_fv, mj_wL, mj_up2, hi]
/-- a reference is put into a field -/
def mj_gR (g : mj_S) (k j : Nat) (v : Option Nat) : mj_S := (g.1, g.2.1, mj_up2 g.2.2 k j v)
theorem mj_setR {E : mj_E} {ci j k n : Nat} {a : Nat} (ht : mj_isR (mj_ty ci j) = true) (hkk : g.2.1 k = (0, ci, n)) : (mj_ws E g M).set k (mj_ad E k, .inr (ci, (mj_fs E g M k ci).set j (.ref (mj_ad E a)))) = mj_ws E (mj_gR g k j (some a)) M := by
  refine mj_ws_set rfl ?_ (fun i _ hi => mj_cell_eq rfl rfl rfl rfl (mj_up2_k _ _ hi))
  rw [mj_cell_obj (g := mj_gR g k j (some a)) hkk, mj_fs_set (g' := mj_gR g k j (some a)) (M' := M)]
  · rw [mj_fvR ht]; simp [mj_gR, mj_up2, mj_rf]
  · intro i hi
    cases hti : mj_ty ci i <;> simp [mj_fv, mj_gR, mj_up2, hi]
theorem mg_putI {ci j k n N idx : Nat} {C : String} {T : u_T} {v : Int32} (hd : decode mt.2.1 pc = .ok (.putfield idx, 3)) (hC : mj_KC ci C T N) (hj : j < N) (hw9 : Cond.fieldLink mt.1 idx C (T j).2.1 (T j).2.2.1 ∈ lw_good) (hO : (T j).1 = C) (hfin : (T j).2.2.2 = false) (ht : mj_ty ci j = .int) (hk : k < g.1) (hkk : g.2.1 k = (0, ci, n))
    (K : mj_G mt R Fi ex bc bs (pc + 3) ls st g (mj_wI M k j v)) : mj_G mt R Fi ex bc bs pc ls (.int v :: .ref k :: st) g M := by
  intro p l e s m args below meth c E X H locs cells slots hw hS hc hs hex lr hl
  refine va_put X.1 X.2.2.1 X.2.2.2.2.2.1 hC.2.2.1 (mj_ty ci) hC.2.2.2.1 hC.2.2.2.2 X.2.2.2.2.1 X.2.2.2.2.2.2.2.2.2.2.1 hw.1 hw.D hS k (by rw [mj_ws_at hk, mj_cell_obj hkk]) hC.1 j hj (X.2.2.2.2.2.1 _ hw9) (by rw [hO]; exact fun _ h => h) hfin (ty := .int) (v := .int v) ((hC.2.2.2.1 j hj).trans (by rw [ht])) rfl rfl (by rw [mj_fs_len, hC.2.1]; exact hj) hd (fun H1 locs1 hP1 _ hS1 => ?_)
  exact K p l e s m args below meth c E X H1 locs1 cells slots ⟨by rw [← mj_setI (by rw [ht]; rfl) hkk]; exact hP1, hw.2⟩ hS1 hc hs hex lr hl
theorem mg_putZ {ci j k n N idx : Nat} {C : String} {T : u_T} {v : Int32} (hd : decode mt.2.1 pc = .ok (.putfield idx, 3)) (hC : mj_KC ci C T N) (hj : j < N) (hw9 : Cond.fieldLink mt.1 idx C (T j).2.1 (T j).2.2.1 ∈ lw_good) (hO : (T j).1 = C) (hfin : (T j).2.2.2 = false) (ht : mj_ty ci j = .boolean) (hk : k < g.1) (hkk : g.2.1 k = (0, ci, n)) (h01 : v = 0 ∨ v = 1)
    (K : mj_G mt R Fi ex bc bs (pc + 3) ls st g (mj_wI M k j v)) : mj_G mt R Fi ex bc bs pc ls (.int v :: .ref k :: st) g M := by
  intro p l e s m args below meth c E X H locs cells slots hw hS hc hs hex lr hl
  refine va_put X.1 X.2.2.1 X.2.2.2.2.2.1 hC.2.2.1 (mj_ty ci) hC.2.2.2.1 hC.2.2.2.2 X.2.2.2.2.1 X.2.2.2.2.2.2.2.2.2.2.1 hw.1 hw.D hS k (by rw [mj_ws_at hk, mj_cell_obj hkk]) hC.1 j hj (X.2.2.2.2.2.1 _ hw9) (by rw [hO]; exact fun _ h => h) hfin (ty := .boolean) (v := .int v) ((hC.2.2.2.1 j hj).trans (by rw [ht])) (by rcases h01 with rfl | rfl <;> decide +kernel) (by rcases h01 with rfl | rfl <;> decide +kernel) (by rw [mj_fs_len, hC.2.1]; exact hj) hd (fun H1 locs1 hP1 _ hS1 => ?_)
  exact K p l e s m args below meth c E X H1 locs1 cells slots ⟨by rw [← mj_setI (by rw [ht]; rfl) hkk]; exact hP1, hw.2⟩ hS1 hc hs hex lr hl
theorem mg_putL {ci j k n N idx : Nat} {C : String} {T : u_T} {v : Int64} (hd : decode mt.2.1 pc = .ok (.putfield idx, 3)) (hC : mj_KC ci C T N) (hj : j < N) (hw9 : Cond.fieldLink mt.1 idx C (T j).2.1 (T j).2.2.1 ∈ lw_good) (hO : (T j).1 = C) (hfin : (T j).2.2.2 = false) (ht : mj_ty ci j = .long) (hk : k < g.1) (hkk : g.2.1 k = (0, ci, n))
    (K : mj_G mt R Fi ex bc bs (pc + 3) ls st g (mj_wL M k j v)) : mj_G mt R Fi ex bc bs pc ls (.long v :: .ref k :: st) g M := by
  intro p l e s m args below meth c E X H locs cells slots hw hS hc hs hex lr hl
  refine va_put X.1 X.2.2.1 X.2.2.2.2.2.1 hC.2.2.1 (mj_ty ci) hC.2.2.2.1 hC.2.2.2.2 X.2.2.2.2.1 X.2.2.2.2.2.2.2.2.2.2.1 hw.1 hw.D hS k (by rw [mj_ws_at hk, mj_cell_obj hkk]) hC.1 j hj (X.2.2.2.2.2.1 _ hw9) (by rw [hO]; exact fun _ h => h) hfin (ty := .long) (v := .long v) ((hC.2.2.2.1 j hj).trans (by rw [ht])) rfl rfl (by rw [mj_fs_len, hC.2.1]; exact hj) hd (fun H1 locs1 hP1 _ hS1 => ?_)
  exact K p l e s m args below meth c E X H1 locs1 cells slots ⟨by rw [← mj_setL ht hkk]; exact hP1, hw.2⟩ hS1 hc hs hex lr hl
/-- an array's place is read, is written -/
theorem mj_setA {E : mj_E} {k t n i : Nat} {v : Int32} (hkk : g.2.1 k = (1, t, n)) (ht : t = 0 ∨ t = 1) : (mj_ws E g M).set k (mj_ad E k, .inl (E.2.2.1 t, n, .inl (upd (M.1 k) i v))) = mj_ws E g (mj_wI M k i v) := by
  refine mj_ws_set rfl ?_ (fun j _ hj => mj_cell_eq rfl (mj_up2_k _ _ hj) rfl rfl rfl)
  rw [mj_cell_arr hkk]
  have hu : mj_up2 M.1 k i v k = upd (M.1 k) i v := by funext b; by_cases h : b = i <;> simp [mj_up2, upd, h]
  rcases ht with rfl | rfl <;> simp [mj_ac, mj_wI, hu]
theorem mg_iald {k n : Nat} {i v : Int32} (hd : decode mt.2.1 pc = .ok (.iaload, 1)) (hk : k < g.1) (hkk : g.2.1 k = (1, 0, n)) (hin : vp_in i n) (hv : M.1 k i.toNatClampNeg = v)
    (K : mj_G mt R Fi ex bc bs (pc + 1) ls (.int v :: st) g M) : mj_G mt R Fi ex bc bs pc ls (.int i :: .ref k :: st) g M := by
  subst hv
  intro p l e s m args below meth c E X H locs cells slots hw hS hc hs hex lr hl
  refine va_iald X.1 X.2.2.1 X.2.2.2.2.2.2.2.2.2.2.1 hw.1 k 0 (by rw [mj_ws_at hk, mj_cell_arr hkk]; rfl) rfl hin hd ?_
  exact K p l e s m args below meth c E X H locs cells slots hw hS hc hs hex lr hl
theorem mg_iast {k n : Nat} {i v : Int32} (hd : decode mt.2.1 pc = .ok (.iastore, 1)) (hk : k < g.1) (hkk : g.2.1 k = (1, 0, n)) (hin : vp_in i n)
    (K : mj_G mt R Fi ex bc bs (pc + 1) ls st g (mj_wI M k i.toNatClampNeg v)) : mj_G mt R Fi ex bc bs pc ls (.int v :: .int i :: .ref k :: st) g M := by
  intro p l e s m args below meth c E X H locs cells slots hw hS hc hs hex lr hl
  refine va_iast X.1 X.2.2.1 X.2.2.2.2.2.2.2.2.2.2.1 hw.1 hw.D hS k 0 (by rw [mj_ws_at hk, mj_cell_arr hkk]; rfl) rfl hin hd (fun H1 locs1 hP1 _ hS1 => ?_)
  exact K p l e s m args below meth c E X H1 locs1 cells slots ⟨by rw [← mj_setA hkk (Or.inl rfl)]; exact hP1, hw.2⟩ hS1 hc hs hex lr hl
theorem mg_zald {k n : Nat} {i v : Int32} (hd : decode mt.2.1 pc = .ok (.baload, 1)) (hk : k < g.1) (hkk : g.2.1 k = (1, 1, n)) (hin : vp_in i n) (hv : M.1 k i.toNatClampNeg = v)
    (K : mj_G mt R Fi ex bc bs (pc + 1) ls (.int v :: st) g M) : mj_G mt R Fi ex bc bs pc ls (.int i :: .ref k :: st) g M := by
  subst hv
  intro p l e s m args below meth c E X H locs cells slots hw hS hc hs hex lr hl
  refine va_zald X.1 X.2.2.1 X.2.2.2.2.2.2.2.2.2.2.1 hw.1 k 1 (by rw [mj_ws_at hk, mj_cell_arr hkk]; rfl) rfl hin hd ?_
  exact K p l e s m args below meth c E X H locs cells slots hw hS hc hs hex lr hl
theorem mg_zast {k n : Nat} {i v : Int32} (hd : decode mt.2.1 pc = .ok (.bastore, 1)) (hk : k < g.1) (hkk : g.2.1 k = (1, 1, n)) (hin : vp_in i n) (h01 : v = 0 ∨ v = 1)
    (K : mj_G mt R Fi ex bc bs (pc + 1) ls st g (mj_wI M k i.toNatClampNeg v)) : mj_G mt R Fi ex bc bs pc ls (.int v :: .int i :: .ref k :: st) g M := by
  intro p l e s m args below meth c E X H locs cells slots hw hS hc hs hex lr hl
  have hz : vp_nar .boolean v = v := by rcases h01 with rfl | rfl <;> decide +kernel
  refine va_zast X.1 X.2.2.1 X.2.2.2.2.2.2.2.2.2.2.1 hw.1 hw.D hS k 1 (by rw [mj_ws_at hk, mj_cell_arr hkk]; rfl) rfl hin hd (fun H1 locs1 hP1 _ hS1 => ?_)
  rw [hz] at hP1
  exact K p l e s m args below meth c E X H1 locs1 cells slots ⟨by rw [← mj_setA hkk (Or.inr rfl)]; exact hP1, hw.2⟩ hS1 hc hs hex lr hl
theorem mg_lald {k n : Nat} {i : Int32} {v : Int64} (hd : decode mt.2.1 pc = .ok (.laload, 1)) (hk : k < g.1) (hkk : g.2.1 k = (1, 2, n)) (hin : vp_in i n) (hv : M.2.1 k i.toNatClampNeg = v)
    (K : mj_G mt R Fi ex bc bs (pc + 1) ls (.long v :: st) g M) : mj_G mt R Fi ex bc bs pc ls (.int i :: .ref k :: st) g M := by
  subst hv
  intro p l e s m args below meth c E X H locs cells slots hw hS hc hs hex lr hl
  refine va_lald X.1 X.2.2.1 X.2.2.2.2.2.2.2.2.2.2.1 hw.1 k 2 (by rw [mj_ws_at hk, mj_cell_arr hkk]; rfl) rfl hin hd ?_
  exact K p l e s m args below meth c E X H locs cells slots hw hS hc hs hex lr hl
theorem mj_setAL {E : mj_E} {k n i : Nat} {v : Int64} (hkk : g.2.1 k = (1, 2, n)) : (mj_ws E g M).set k (mj_ad E k, .inl (E.2.2.1 2, n, .inr (.inl (vp_updL (M.2.1 k) i v)))) = mj_ws E g (mj_wL M k i v) := by
  refine mj_ws_set rfl ?_ (fun j _ hj => mj_cell_eq rfl rfl (mj_up2_k _ _ hj) rfl rfl)
  rw [mj_cell_arr hkk]
  have hu : mj_up2 M.2.1 k i v k = vp_updL (M.2.1 k) i v := by funext b; by_cases h : b = i <;> simp [mj_up2, vp_updL, h]
  simp [mj_ac, mj_wL, hu]
theorem mg_last {k n : Nat} {i : Int32} {v : Int64} (hd : decode mt.2.1 pc = .ok (.lastore, 1)) (hk : k < g.1) (hkk : g.2.1 k = (1, 2, n)) (hin : vp_in i n)
    (K : mj_G mt R Fi ex bc bs (pc + 1) ls st g (mj_wL M k i.toNatClampNeg v)) : mj_G mt R Fi ex bc bs pc ls (.long v :: .int i :: .ref k :: st) g M := by
  intro p l e s m args below meth c E X H locs cells slots hw hS hc hs hex lr hl
  refine va_last X.1 X.2.2.1 X.2.2.2.2.2.2.2.2.2.2.1 hw.1 hw.D hS k 2 (by rw [mj_ws_at hk, mj_cell_arr hkk]; rfl) rfl hin hd (fun H1 locs1 hP1 _ hS1 => ?_)
  exact K p l e s m args below meth c E X H1 locs1 cells slots ⟨by rw [← mj_setAL hkk]; exact hP1, hw.2⟩ hS1 hc hs hex lr hl
theorem mg_aald {k n a : Nat} {i : Int32} (hd : decode mt.2.1 pc = .ok (.aaload, 1)) (hk : k < g.1) (hkk : g.2.1 k = (1, 3, n)) (hin : vp_in i n) (hv : M.2.2 k i.toNatClampNeg = some a)
    (K : mj_G mt R Fi ex bc bs (pc + 1) ls (.ref a :: st) g M) : mj_G mt R Fi ex bc bs pc ls (.int i :: .ref k :: st) g M := by
  intro p l e s m args below meth c E X H locs cells slots hw hS hc hs hex lr hl
  refine va_aldq X.1 X.2.2.1 X.2.2.2.2.2.2.2.2.2.2.1 hw.1 k 3 (by rw [mj_ws_at hk, mj_cell_arr hkk]; rfl) rfl hin hd ?_
  rw [hv]
  exact K p l e s m args below meth c E X H locs cells slots hw hS hc hs hex lr hl
theorem mj_setAR {E : mj_E} {k n i a : Nat} (hkk : g.2.1 k = (1, 3, n)) : (mj_ws E g M).set k (mj_ad E k, .inl (E.2.2.1 3, n, .inr (.inr (.inr (.inr (va_up (fun i => (M.2.2 k i).map (mj_ad E)) i (some (mj_ad E a)))))))) = mj_ws E g (mj_wR M k i (some a)) := by
  refine mj_ws_set rfl ?_ (fun j _ hj => mj_cell_eq rfl rfl rfl (mj_up2_k _ _ hj) rfl)
  rw [mj_cell_arr hkk]
  have hu : (fun b => (mj_up2 M.2.2 k i (some a) k b).map (mj_ad E)) = va_up (fun i => (M.2.2 k i).map (mj_ad E)) i (some (mj_ad E a)) := by funext b; by_cases h : b = i <;> simp [mj_up2, va_up, h]
  simp [mj_ac, mj_wR, hu]
theorem mg_aast {k n a na : Nat} {i : Int32} (hd : decode mt.2.1 pc = .ok (.aastore, 1)) (hk : k < g.1) (hkk : g.2.1 k = (1, 3, n)) (hin : vp_in i n) (ha : a < g.1) (hka : g.2.1 a = (0, 6, na))
    (K : mj_G mt R Fi ex bc bs (pc + 1) ls st g (mj_wR M k i.toNatClampNeg (some a))) : mj_G mt R Fi ex bc bs pc ls (.ref a :: .int i :: .ref k :: st) g M := by
  intro p l e s m args below meth c E X H locs cells slots hw hS hc hs hex lr hl
  refine va_astq (r := (RX6, TX6, 10)) (cA := E.2.2.1 3) (v := mj_ad E a) (f := fun i => (M.2.2 k i).map (mj_ad E)) (vs := mj_fs E g M a 6) X.1 X.2.2.1 X.2.2.2.2.2.2.2.2.2.2.1 hw.1 hw.D hS k 3 a 6 (by rw [mj_ws_at hk, mj_cell_arr hkk]; rfl) rfl (by rw [mj_ws_at ha, mj_cell_obj hka]) rfl hin hd (fun H1 locs1 hP1 _ hS1 => ?_)
  exact K p l e s m args below meth c E X H1 locs1 cells slots ⟨by rw [← mj_setAR hkk]; exact hP1, hw.2⟩ hS1 hc hs hex lr hl
theorem mg_alen {k t n : Nat} {v : Int32} (hd : decode mt.2.1 pc = .ok (.arraylength, 1)) (hk : k < g.1) (hkk : g.2.1 k = (1, t, n)) (ht : t < 4) (hv : Int32.ofNat n = v)
    (K : mj_G mt R Fi ex bc bs (pc + 1) ls (.int v :: st) g M) : mj_G mt R Fi ex bc bs pc ls (.ref k :: st) g M := by
  intro p l e s m args below meth c E X H locs cells slots hw hS hc hs hex lr hl
  obtain ⟨ty, hty⟩ : ∃ ty, (mj_tys E.2.2.1)[t]? = some (E.2.2.1 t, ty) := by
    rcases (show t = 0 ∨ t = 1 ∨ t = 2 ∨ t = 3 by omega) with rfl | rfl | rfl | rfl <;> exact ⟨_, rfl⟩
  refine va_alen (x := mj_ac E M k t n) X.1 X.2.2.1 X.2.2.2.2.2.2.2.2.2.2.1 hw.1 k t (by rw [mj_ws_at hk, mj_cell_arr hkk]) hty hv hd ?_
  exact K p l e s m args below meth c E X H locs cells slots hw hS hc hs hex lr hl
end MGB
