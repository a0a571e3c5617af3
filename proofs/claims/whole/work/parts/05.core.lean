/-! THE SMALL MACHINE: cells by small numbers; what they hold as three tables of numbers; a judgement for a method's body -/
/-- what the cells hold: whole numbers, long ones, references in arrays -/
abbrev mj_M : Type := (Nat → Nat → Int32) × (Nat → Nat → Int64) × (Nat → Nat → Option Nat)
/-- how many cells there are; a cell's kind: (0, class, _) an object, (1, t, n) an array of n places; the references in objects' fields -/
abbrev mj_S : Type := Nat × (Nat → Nat × Nat × Nat) × (Nat → Nat → Option Nat)
/-- what a walk of the law takes from its start: the heap's size, the classes' numbers, the array classes, the addresses of texts -/
abbrev mj_E : Type := Nat × va_G × (Nat → ClassId) × (Nat → Nat) × (Nat → Nat) × Nat × Nat × (Nat → Int32)
/-- where a cell lies: the law's own lie side by side; 900000: the letters' text, 900001: the script, 900002: the letters' bytes -/
def mj_ad (E : mj_E) (a : Nat) : Nat := if a < 900000 then E.1 + a else if a = 900000 then E.2.2.2.1 0 else if a = 900002 then E.2.2.2.2.1 0 else E.2.2.2.2.2.1
def mj_rv (E : mj_E) (v : Value) : Value := match v with
  | .ref a => .ref (mj_ad E a)
  | w => w
def mj_rf (E : mj_E) (r : Option Nat) : Value := match r with
  | none => .null
  | some a => .ref (mj_ad E a)
abbrev mj_cl : List vw_C := [(RX0, TX0, 2), (RX1, TX1, 7), (RX2, TX2, 2), (RX3, TX3, 4), (RX4, TX4, 1), (RX5, TX5, 1), (RX6, TX6, 10), (RX7, TX7, 3), (RX8, TX8, 2), (RX9, TX9, 8), (RX10, TX10, 28)]
def mj_N (c : Nat) : Nat := match c with
  | 0 => 2
  | 1 => 7
  | 2 => 2
  | 3 => 4
  | 4 => 1
  | 5 => 1
  | 6 => 10
  | 7 => 3
  | 8 => 2
  | 9 => 8
  | _ => 28
def mj_ty (c : Nat) : Nat → FieldType := match c with
  | 0 => tyX0
  | 1 => tyX1
  | 2 => tyX2
  | 3 => tyX3
  | 4 => tyX4
  | 5 => tyX5
  | 6 => tyX6
  | 7 => tyX7
  | 8 => tyX8
  | 9 => tyX9
  | _ => tyX10
def mj_fv (E : mj_E) (g : mj_S) (M : mj_M) (k : Nat) (t : FieldType) (j : Nat) : Value := match t with
  | .int => .int (M.1 k j)
  | .boolean => .int (M.1 k j)
  | .long => .long (M.2.1 k j)
  | _ => mj_rf E (g.2.2 k j)
def mj_fs (E : mj_E) (g : mj_S) (M : mj_M) (k c : Nat) : List Value := (List.range (mj_N c)).map (fun j => mj_fv E g M k (mj_ty c j) j)
def mj_ac (E : mj_E) (M : mj_M) (k t n : Nat) : vp_A := (n, match t with
  | 0 => .inl (M.1 k)
  | 1 => .inl (M.1 k)
  | 2 => .inr (.inl (M.2.1 k))
  | _ => .inr (.inr (.inr (.inr (fun i => (M.2.2 k i).map (mj_ad E))))))
def mj_cell (E : mj_E) (g : mj_S) (M : mj_M) (k : Nat) : va_E := match g.2.1 k with
  | (0, c, _) => .inr (c, mj_fs E g M k c)
  | (_ + 1, t, n) => .inl (E.2.2.1 t, mj_ac E M k t n)
def mj_ws (E : mj_E) (g : mj_S) (M : mj_M) : va_W := (List.range g.1).map (fun k => (mj_ad E k, mj_cell E g M k))
def mj_tys (ca : Nat → ClassId) : List (ClassId × FieldType) := [(ca 0, .int), (ca 1, .boolean), (ca 2, .long), (ca 3, .object RX6)]
def mj_A (base : Nat) : Nat → Prop := fun q => base ≤ q
/-- the heap holds the cells -/
def mj_Wd (E : mj_E) (g : mj_S) (M : mj_M) (H : Heap) : Prop := va_P E.2.1 mj_cl (mj_ws E g M) H ∧ g.1 ≤ 900000
def mj_nest : List (String × Nat × MethodName × String) := [(RX9, 29, yX8_init, "CnfPreprocessor"), (RX9, 36, yX1_init, "CnfPreprocessor"), (RX9, 43, yX2_init, "CnfPreprocessor"), (RX9, 50, yX7_init, "CnfPreprocessor"), (RX7, 11, yX5_init, "CnfPreprocessor"), (RX7, 20, yX3_init, "CnfPreprocessor"), (RX7, 27, yX4_init, "CnfPreprocessor"), (RX6, 104, yX9_trueLiterals, "CnfPreprocessor"), (RX7, 115, yX9_contains, "CnfPreprocessor"), (RX7, 140, yX9_complements, "CnfPreprocessor"), (RX0, 39, yX9_contains, "CnfPreprocessor"), (RX5, 31, yX9_hasComplementary, "CnfPreprocessor"), (RX7, 194, yX9_lowestBlocking, "CnfPreprocessor"), (RX3, 39, yX9_contains, "CnfPreprocessor"), (RX3, 57, yX9_complements, "CnfPreprocessor"), (RX7, 213, yX9_closure, "CnfPreprocessor"), (RX4, 34, yX9_contains, "CnfPreprocessor"), (RX7, 226, yX9_pairOf, "CnfPreprocessor"), (RX7, 238, yX9_hasComplementary, "CnfPreprocessor"), (RX7, 241, yX9_vivify, "CnfPreprocessor"), (RX1, 60, yX9_hasComplementary, "CnfPreprocessor")]
def mj_decl : List MethodName := [⟨"java/lang/RuntimeException", "<init>", "()V"⟩, ⟨"java/lang/RuntimeException", "<init>", "(Ljava/lang/String;)V"⟩, ⟨"java/lang/Exception", "<init>", "()V"⟩, ⟨"java/lang/Exception", "<init>", "(Ljava/lang/String;)V"⟩, ⟨"java/lang/Throwable", "<init>", "()V"⟩, ⟨"java/lang/Throwable", "<init>", "(Ljava/lang/String;)V"⟩]
def mj_IA : String := "java/lang/IllegalArgumentException"
def mj_IS : String := "java/lang/IllegalStateException"
def mj_IO : String := "java/lang/IndexOutOfBoundsException"
/-- texts: class, place, text; the first is the schedule's letters -/
def mj_txt : List (String × Nat × String) := [(RX8, 19, "upstebcfqv"), (RX9, 57, "the number of variables is out of range"), (RX9, 76, "these are not the sets of a clause"), (RX9, 357, "no clause can be added any more"), (RX9, 359, "there would be too many original clauses"), (RX9, 97, "start, count or width is out of range"), (RX9, 109, "there is no such original clause"), (RX9, 346, "there is no such clause"), (RX9, 342, "there is no such variable"), (RX9, 344, "there is no such literal"), (RX9, 147, "the byte is out of range"), (RX9, 154, "the text is full"), (RX9, 170, "the index is negative"), (RX9, 353, "there is no such technique"), (RX9, 185, "the number of rounds is out of range"), (RX9, 197, "the variable cannot be eliminated"), (RX9, 215, "the growth is out of range"), (RX9, 223, "no state is saved"), (RX9, 351, "the variable is not active"), (RX9, 236, "there is no such resolvent"), (RX9, 290, "there is no such row"), (RX9, 292, "a row has only 0, 1 and 2"), (RX9, 355, "the assignment is out of range")]
/-- what holds of the machine at a method's entry, whatever the cells hold -/
def mj_EV (E : mj_E) (s : State) : Prop :=
  va_K E.2.1 mj_cl (mj_tys E.2.2.1) s ∧ (∀ q ∈ mj_nest, va_Nw (.methodLinkNest q.1 q.2.1 q.2.2.1 q.2.2.2) s) ∧ (∀ q ∈ mj_decl, va_Nw (.declares q) s) ∧ (∀ q ∈ [mj_IA, mj_IS, mj_IO], va_Nw (.castable q q) s) ∧
  (∀ a ∈ [mj_IA, mj_IS, mj_IO], ∀ b ∈ [mj_IA, mj_IS, mj_IO], a ≠ b → va_Nc a b s) ∧ (∀ (i : Nat) (q : String × Nat × String), mj_txt[i]? = some q → vk_R q.1 q.2.1 q.2.2 (E.2.2.2.1 i) s) ∧ va_AO RX6 s ∧
  vx_Zq Bundle.tN "UNASSIGNED_STACK" Bundle.steD (mj_A E.1) s s.heap ∧ vx_Zq Bundle.tN "SUPPRESSED_SENTINEL" Bundle.listD (mj_A E.1) s s.heap ∧
  va_Z "java/lang/String" "COMPACT_STRINGS" "Z" (.int 1) (mj_A E.1) s s.heap ∧ vk_S 1 [10] [[117, 112, 115, 116, 101, 98, 99, 102, 113, 118]] E.2.2.2.1 E.2.2.2.2.1 (mj_A E.1) s s.heap ∧ va_X E.2.2.2.2.2.1 E.2.2.2.2.2.2.1 E.2.2.2.2.2.2.2 s s.heap ∧ E.2.2.2.2.2.1 < E.1 ∧ E.1 ≤ s.heap.size
/-- what isn't of the law's own cells stays -/
def mj_kept (base : Nat) (H0 H : Heap) : Prop := H0.size ≤ H.size ∧ ∀ q : Nat, q < H0.size → ¬ mj_A base q → H[q]? = H0[q]?
theorem mj_EV.warm {E : mj_E} {s U : State} (h : mj_EV E s) (hW : s.WarmedH U.vm) (hk : mj_kept E.1 s.heap U.heap) : mj_EV E U := by
  obtain ⟨h1, h2, h3, h4, h5, h6, h7, h8, h9, h10, h11, hX, hb, h12⟩ := h
  refine ⟨va_K.moved hW.alike h1, fun q hq => va_Nw.warmM hW (h2 q hq), fun q hq => va_Nw.warmD hW (h3 q hq), fun q hq => va_Nw.warmC hW (h4 q hq), fun a ha b hb hab => va_Nc.moved hW.alike (h5 a ha b hb hab), fun i q hq => vk_R.warm hW (h6 i q hq), ?_, (h8.kept hk.2).moved hW.alike, (h9.kept hk.2).moved hW.alike, (h10.kept hk.2).moved hW.alike, (h11.kept hk.2).moved hW.alike, ?_, hb, Nat.le_trans h12 hk.1⟩
  · exact va_AO.moved hW.alike h7
  · obtain ⟨scr, g1, g2⟩ := hX
    exact va_X.moved hW.alike ⟨scr, (hk.2 _ (Nat.lt_of_lt_of_le hb h12) (Nat.not_le.mpr hb)).trans g1, g2⟩
theorem mj_EV.same {E : mj_E} {s U : State} (h : mj_EV E s) (hv : U.vm = s.vm) (hh : U.heap = s.heap) : mj_EV E U :=
  h.warm (by rw [hv]; exact State.WarmedH.refl s) ⟨by rw [hh]; exact Nat.le_refl _, fun q _ _ => by rw [hh]⟩
theorem mj_ws_at {E : mj_E} {g : mj_S} {M : mj_M} {k : Nat} (h : k < g.1) : (mj_ws E g M)[k]? = some (mj_ad E k, mj_cell E g M k) := by
  unfold mj_ws
  rw [List.getElem?_map, List.getElem?_range h]
  rfl
theorem mj_ws_len {E : mj_E} {g : mj_S} {M : mj_M} : (mj_ws E g M).length = g.1 := by simp [mj_ws]
theorem mj_ad_lt {E : mj_E} {k : Nat} (h : k < 900000) : mj_ad E k = E.1 + k := by simp [mj_ad, h]
/-- the cells are apart, and are the law's own -/
theorem mj_Wd.D {E : mj_E} {g : mj_S} {M : mj_M} {H : Heap} (h : mj_Wd E g M H) : va_D (mj_A E.1) (mj_ws E g M) := by
  have at' : ∀ (i : Nat) (p : Nat × va_E), (mj_ws E g M)[i]? = some p → i < g.1 ∧ p.1 = E.1 + i := by
    intro i p hp
    have hi : i < g.1 := by
      have := (List.getElem?_eq_some_iff.mp hp).1
      rw [mj_ws_len] at this; exact this
    rw [mj_ws_at hi] at hp
    cases hp
    exact ⟨hi, mj_ad_lt (Nat.lt_of_lt_of_le hi h.2)⟩
  refine ⟨fun i j p q hp hq hpq => ?_, fun k q hq => ?_⟩
  · have h1 := (at' i p hp).2
    have h2 := (at' j q hq).2
    omega
  · show E.1 ≤ q.1
    rw [(at' k q hq).2]
    exact Nat.le_add_right _ _
/-- another table of the same cells: it differs in one cell at most -/
theorem mj_ws_set {E : mj_E} {g g' : mj_S} {M M' : mj_M} {k : Nat} {e : va_E} (hn : g'.1 = g.1) (he : mj_cell E g' M' k = e) (ho : ∀ j, j < g.1 → j ≠ k → mj_cell E g' M' j = mj_cell E g M j) : (mj_ws E g M).set k (mj_ad E k, e) = mj_ws E g' M' := by
  apply List.ext_getElem?
  intro i
  by_cases hi : i < g.1
  · rw [mj_ws_at (g := g') (by omega)]
    by_cases hk : i = k
    · subst hk
      rw [List.getElem?_set_self (by rw [mj_ws_len]; exact hi), he]
    · rw [List.getElem?_set_ne (fun h => hk h.symm), mj_ws_at hi, ho i hi hk]
  · rw [List.getElem?_eq_none (by rw [List.length_set, mj_ws_len]; omega), List.getElem?_eq_none (by rw [mj_ws_len]; omega)]
theorem mj_fs_at {E : mj_E} {g : mj_S} {M : mj_M} {k c j : Nat} (h : j < mj_N c) : (mj_fs E g M k c)[j]? = some (mj_fv E g M k (mj_ty c j) j) := by
  unfold mj_fs
  rw [List.getElem?_map, List.getElem?_range h]
  rfl
theorem mj_fs_len {E : mj_E} {g : mj_S} {M : mj_M} {k c : Nat} : (mj_fs E g M k c).length = mj_N c := by simp [mj_fs]
theorem mj_fs_set {E : mj_E} {g g' : mj_S} {M M' : mj_M} {k c j : Nat} {v : Value} (he : mj_fv E g' M' k (mj_ty c j) j = v) (ho : ∀ i, i ≠ j → mj_fv E g' M' k (mj_ty c i) i = mj_fv E g M k (mj_ty c i) i) : (mj_fs E g M k c).set j v = mj_fs E g' M' k c := by
  apply List.ext_getElem?
  intro i
  by_cases hi : i < mj_N c
  · rw [mj_fs_at hi]
    by_cases hk : i = j
    · subst hk
      rw [List.getElem?_set_self (by rw [mj_fs_len]; exact hi), he]
    · rw [List.getElem?_set_ne (fun h => hk h.symm), mj_fs_at hi, ho i hk]
  · rw [List.getElem?_eq_none (by rw [List.length_set, mj_fs_len]; omega), List.getElem?_eq_none (by rw [mj_fs_len]; omega)]
/-- a number is put at a place -/
def mj_up2 {α : Type} (f : Nat → Nat → α) (k j : Nat) (v : α) : Nat → Nat → α := fun a b => if a = k ∧ b = j then v else f a b
theorem mj_up2_s {α : Type} (f : Nat → Nat → α) (k j : Nat) (v : α) : mj_up2 f k j v k j = v := by simp [mj_up2]
theorem mj_up2_n {α : Type} (f : Nat → Nat → α) {k j a b : Nat} (v : α) (h : ¬ (a = k ∧ b = j)) : mj_up2 f k j v a b = f a b := by simp [mj_up2, h]
theorem mj_up2_k {α : Type} (f : Nat → Nat → α) {k j a : Nat} (v : α) (h : a ≠ k) : mj_up2 f k j v a = f a := by funext b; simp [mj_up2, h]
def mj_wI (M : mj_M) (k j : Nat) (v : Int32) : mj_M := (mj_up2 M.1 k j v, M.2.1, M.2.2)
def mj_wL (M : mj_M) (k j : Nat) (v : Int64) : mj_M := (M.1, mj_up2 M.2.1 k j v, M.2.2)
def mj_wR (M : mj_M) (k j : Nat) (v : Option Nat) : mj_M := (M.1, M.2.1, mj_up2 M.2.2 k j v)
theorem mj_cell_obj {E : mj_E} {g : mj_S} {M : mj_M} {k c n : Nat} (h : g.2.1 k = (0, c, n)) : mj_cell E g M k = .inr (c, mj_fs E g M k c) := by simp [mj_cell, h]
theorem mj_cell_arr {E : mj_E} {g : mj_S} {M : mj_M} {k t n : Nat} (h : g.2.1 k = (1, t, n)) : mj_cell E g M k = .inl (E.2.2.1 t, mj_ac E M k t n) := by simp [mj_cell, h]
/-- a cell whose numbers are the same is the same -/
theorem mj_cell_eq {E : mj_E} {g g' : mj_S} {M M' : mj_M} {k : Nat} (h0 : g'.2.1 k = g.2.1 k) (h1 : M'.1 k = M.1 k) (h2 : M'.2.1 k = M.2.1 k) (h3 : M'.2.2 k = M.2.2 k) (h4 : g'.2.2 k = g.2.2 k) : mj_cell E g' M' k = mj_cell E g M k := by
  have hf : ∀ t j, mj_fv E g' M' k t j = mj_fv E g M k t j := fun t j => by cases t <;> simp [mj_fv, h1, h2, h4]
  have hs : ∀ c, mj_fs E g' M' k c = mj_fs E g M k c := fun c => by simp [mj_fs, hf]
  have hc : ∀ t n, mj_ac E M' k t n = mj_ac E M k t n := fun t n => by simp [mj_ac, h1, h2, h3]
  unfold mj_cell
  rw [h0]
  split
  · rw [hs]
  · rw [hc]
theorem mj_rv_cat (E : mj_E) (v : Value) : (mj_rv E v).category = v.category := by cases v <;> rfl
/-- a method: its class, bytes, locals, answer's type, what is known of its handlers, its name -/
abbrev mj_T : Type := String × ByteArray × Nat × Option FieldType × (Code → mj_E → Prop) × String
def mj_rm (d mc ms : Nat) : Room := { frames := d, cells := mc, slots := ms, locals := 38 * d }
abbrev mj_Qn : Type := Option Value → mj_S → mj_M → Prop
abbrev mj_Qx : Type := String → mj_S → mj_M → Prop
def mj_Qc (E : mj_E) (Qn : mj_Qn) : Array Value → State → Outcome → State → Prop := fun _ st oc t =>
  (∃ (r : Option Value) (g : mj_S) (M : mj_M), oc = .returned (r.map (mj_rv E)) ∧ Qn r g M ∧ mj_Wd E g M t.heap) ∧ va_F (mj_A E.1) st t
def mj_Xc (E : mj_E) (Qx : mj_Qx) : String → State → State → Prop := fun X st t =>
  (∃ (g : mj_S) (M : mj_M), Qx X g M ∧ mj_Wd E g M t.heap) ∧ va_F (mj_A E.1) st t
def mj_Pc (E : mj_E) (ex : Bool) (As : List Value) (g : mj_S) (M : mj_M) : Array Value → State → Prop := va_Pc (As.map (mj_rv E)) (fun U => mj_EV E U ∧ mj_Wd E g M U.heap ∧ (ex = true → U.heap.size = E.1 + g.1))
/-- a method's contract: hd is the word that says its code; ex: it makes cells side by side behind those that are there -/
def mj_C (y : MethodName) (hd : Cond) (ex : Bool) (d mc ms : Nat) (As : List Value) (g : mj_S) (M : mj_M) (Qn : mj_Qn) (Qx : mj_Qx) : Prop :=
  ∀ (l : Launch) (E : mj_E), l.stackTraces = false → vx_Met l y (hd :: lw_good) (mj_rm d mc ms) (mj_Pc E ex As g M) (mj_Qc E Qn) (mj_Xc E Qx) mc ms (mj_A E.1)
/-- what a body's walk has at hand -/
def mj_CX (mt : mj_T) (p : Program) (l : Launch) (s : State) (m : MethodId) (args : Array Value) (meth : Method) (c : Code) (E : mj_E) : Prop :=
  p.tables.exec = Jvm.exec ∧ l.stackTraces = false ∧ c.code = mt.2.1 ∧ c.maxLocals = mt.2.2.1 ∧ s.vm.findClass mt.1 = some m.cls ∧ (∀ w ∈ lw_good, w.before args s = true) ∧ meth.locks = false ∧ meth.sig.returnType = mt.2.2.2.1 ∧ mt.2.2.2.2.1 c E ∧ meth.name = mt.2.2.2.2.2 ∧ mj_EV E s
def mj_ls (E : mj_E) (ls : List (Nat × Value)) : List (Nat × Value) := ls.map (fun q => (q.1, mj_rv E q.2))
/-- where a walk is to come -/
abbrev mj_F : Type := List Frame → Array Value → State → mj_E → State → Prop
/-- the body's walk: from here on it comes to its end; (bc, bs): cells and slots that it may still make -/
def mj_G (mt : mj_T) (R : Room) (Fi : mj_F) (ex : Bool) (bc bs : Nat) (pc : Nat) (ls : List (Nat × Value)) (st : List Value) (g : mj_S) (M : mj_M) : Prop :=
  ∀ (p : Program) (l : Launch) (e : Env) (s : State) (m : MethodId) (args : Array Value) (below : List Frame) (meth : Method) (c : Code) (E : mj_E), mj_CX mt p l s m args meth c E →
  ∀ (H : Heap) (locs : List Loc) (cells slots : Nat), mj_Wd E g M H → va_S (mj_A E.1) s.heap H locs → cells + bc ≤ R.cells → slots + bs ≤ R.slots → (ex = true → s.heap.size + cells = E.1 + g.1) →
  ∀ lr : Array Slot, lv_has lr mt.2.2.1 (mj_ls E ls) → W p l e R s m args below meth c H locs cells slots (Fi below args s E) (F0 m pc lr (st.map (mj_rv E)))
/-- a method's end -/
def mj_Fi (Qn : mj_Qn) (Qx : mj_Qx) (mc ms : Nat) : mj_F := fun below args s E => vx_MQ below (mj_Qc E Qn) (mj_Xc E Qx) args s mc ms (mj_A E.1)
