/-! THE CLAIM OUT OF ONE WALK OF THE LAW'S BODY. Your part is whole_start (and what it stands on); all else here is the same for every law, but numbers. -/
def R_law : String := "CnfPreprocessorLaw"
def lw_P (b : Addr) (xs : List Int32) (args : Array Value) (s : State) : Prop := args = #[.ref b] ∧ s.IntsAt b xs ∧ xs.length ≤ 2048 ∧ (Jvm.Cond.and given_1 narrow_1).before args s = true
def lw_Q (_ : Array Value) (s : State) (o : Outcome) (t : State) : Prop := o = .returned (some (.int 1)) ∧ Framed s o t [] 601024 7293034
def lw_Z (below : List Frame) (a : Array Value) (s : State) : State → Prop := fun t => ∃ o, t.status = .running ∧ Ended t below o ∧ lw_Q a s o t
/-- the law's own end, with 1 on the stack, nothing written that was there before, its room as the claim has it -/
theorem lw_ret {p : Program} {l : Launch} {e : Env} {s : State} {m : MethodId} {below : List Frame} {meth : Method} {c : Code} {b : Nat} (hx : p.tables.exec = Jvm.exec) (hb : c.code = code) (hr : meth.sig.returnType = ret) (hlocks : meth.locks = false) {pc : Nat} {H : Heap} {ls : Array Slot} (hdg : decode code pc = .ok (.ireturn, 1)) : W p l e room_1 s m #[Value.ref b] below meth c H [] 601024 7293034 (lw_Z below #[Value.ref b] s) (F0 m pc ls [.int 1]) := by
  intro T hT X
  obtain ⟨fs, hret, hrun, hended, hW, hframe⟩ := X.leave (v := some (.int 1)) (hlocks := hlocks) (fun h => by rw [hr] at h; cases h)
  have hmeth' : T.vm.method? m = some meth := X.method'
  refine ⟨T.setFrames fs, ?_, .returned (some (.int 1)), hrun, hended, rfl, ⟨_, rfl⟩, hW, hframe⟩
  jvm_step X.here [X.here.top, hx, hb, hdg, hmeth', hr, ret, narrow_b1]
  (try refine ⟨rfl, ?_⟩); (try refine ⟨rfl, ?_⟩)
  first | (intro acts; rw [hret _ acts rfl rfl rfl]) | rw [hret _ _ rfl rfl rfl]
  exact Steps.refl _
/-- what holds at the law's entry: the machine, the code, the tables' words (any of lw_tbl by 'hts w (by decide +kernel)'), the script of L ints xs at the cell b, what the Statement gives of the start (any of its parts by flat_of_before) -/
def lw_At (p : Program) (s : State) (m : MethodId) (meth : Method) (c : Code) (b L : Nat) (xs : Nat → Int32) : Prop :=
  p.tables.exec = Jvm.exec ∧ c.code = code ∧ meth.sig.returnType = ret ∧ c.maxLocals = 7 ∧ s.vm.findClass R_law = some m.cls ∧ (∀ w ∈ lw_tbl, w.before #[Value.ref b] s = true) ∧ va_X b L xs s s.heap ∧ b < s.heap.size ∧ meth.locks = false ∧ (Jvm.Cond.and given_1 narrow_1).before #[Value.ref b] s = true
/-- where the law is to come -/
def mj_FL (b : Nat) : mj_F := fun below args s E t => (s.heap.size ≤ E.1 ∧ args = #[Value.ref b]) → lw_Z below args s t
theorem mj_Wimp {P : Prop} {p : Program} {l : Launch} {e : Env} {R : Room} {s : State} {m : MethodId} {args : Array Value} {below : List Frame} {meth : Method} {c : Code} {H : Heap} {locs : List Loc} {cells slots : Nat} {Q : State → Prop} {gg : JFrame} (h : P → W p l e R s m args below meth c H locs cells slots Q gg) : W p l e R s m args below meth c H locs cells slots (fun t => P → Q t) gg := by
  intro T hT X
  by_cases hp : P
  · obtain ⟨t, a1, b1⟩ := h hp T hT X
    exact ⟨t, a1, fun _ => b1⟩
  · exact ⟨_, Steps.refl _, fun h => absurd h hp⟩
/-- the law's method: its table of handlers is empty; the script is known -/
abbrev mj_mtL (b L : Nat) (xs : Nat → Int32) : mj_T := (R_law, code, 7, ret, fun _ E => E.2.2.2.2.2 = (b, L, xs), "law")
theorem mg_lwret {b L : Nat} {xs : Nat → Int32} {ex : Bool} {bc bs pc : Nat} {ls : List (Nat × Value)} {g : mj_S} {M : mj_M} (hd : decode code pc = .ok (.ireturn, 1)) : mj_G (mj_mtL b L xs) room_1 (mj_FL b) ex bc bs pc ls [.int 1] g M := by
  intro p l e s m args below meth c E X H locs cells slots hw hS hc hs hex lr hl
  refine mj_Wimp (fun hp => ?_)
  obtain ⟨h1, rfl⟩ := hp
  refine va_forget (fun q hq => Nat.le_trans h1 (hS.2.2 q hq)) ?_
  have hc' : cells + bc ≤ 601024 := hc
  have hs' : slots + bs ≤ 7293034 := hs
  refine W.widen (k := 601024) (n := 7293034) (by omega) (by omega) ?_
  exact lw_ret X.1 X.2.2.1 X.2.2.2.2.2.2.2.1 X.2.2.2.2.2.2.1 hd
