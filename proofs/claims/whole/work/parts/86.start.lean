/-! from the law's entry -/
theorem wh_K {args : Array Value} {s : State} (hts : ∀ w ∈ lw_tbl, w.before args s = true) : ∃ (D : va_G) (ca : Nat → ClassId), va_K D mj_cl (mj_tys ca) s := by
  have hg : ∀ w ∈ lw_good, w.before args s = true := fun w hw => hts w (mj_good hw).1
  obtain ⟨c0, i0, k0⟩ := u_known (C := RX0) (T := TX0) (N := 2) (n := 2) hg kc_0.2.2.1 (hts (.instantiable RX0 2) (by decide +kernel))
  obtain ⟨c1, i1, k1⟩ := u_known (C := RX1) (T := TX1) (N := 7) (n := 7) hg kc_1.2.2.1 (hts (.instantiable RX1 7) (by decide +kernel))
  obtain ⟨c2, i2, k2⟩ := u_known (C := RX2) (T := TX2) (N := 2) (n := 2) hg kc_2.2.2.1 (hts (.instantiable RX2 2) (by decide +kernel))
  obtain ⟨c3, i3, k3⟩ := u_known (C := RX3) (T := TX3) (N := 4) (n := 4) hg kc_3.2.2.1 (hts (.instantiable RX3 4) (by decide +kernel))
  obtain ⟨c4, i4, k4⟩ := u_known (C := RX4) (T := TX4) (N := 1) (n := 1) hg kc_4.2.2.1 (hts (.instantiable RX4 1) (by decide +kernel))
  obtain ⟨c5, i5, k5⟩ := u_known (C := RX5) (T := TX5) (N := 1) (n := 1) hg kc_5.2.2.1 (hts (.instantiable RX5 1) (by decide +kernel))
  obtain ⟨c6, i6, k6⟩ := u_known (C := RX6) (T := TX6) (N := 10) (n := 10) hg kc_6.2.2.1 (hts (.instantiable RX6 10) (by decide +kernel))
  obtain ⟨c7, i7, k7⟩ := u_known (C := RX7) (T := TX7) (N := 3) (n := 3) hg kc_7.2.2.1 (hts (.instantiable RX7 3) (by decide +kernel))
  obtain ⟨c8, i8, k8⟩ := u_known (C := RX8) (T := TX8) (N := 2) (n := 2) hg kc_8.2.2.1 (hts (.instantiable RX8 2) (by decide +kernel))
  obtain ⟨c9, i9, k9⟩ := u_known (C := RX9) (T := TX9) (N := 8) (n := 8) hg kc_9.2.2.1 (hts (.instantiable RX9 8) (by decide +kernel))
  obtain ⟨c10, i10, k10⟩ := u_known (C := RX10) (T := TX10) (N := 28) (n := 28) hg kc_10.2.2.1 (hts (.instantiable RX10 28) (by decide +kernel))
  obtain ⟨a0, b0, d0, e0, f0, g0⟩ := Cond.arrayClass_spec (args := args) (first := s) (o := none) (s := s) (idx := []) (type := .int) (hts (.arrayClass .int) (by decide +kernel))
  obtain ⟨a1, b1, d1, e1, f1, g1⟩ := Cond.arrayClass_spec (args := args) (first := s) (o := none) (s := s) (idx := []) (type := .boolean) (hts (.arrayClass .boolean) (by decide +kernel))
  obtain ⟨a2, b2, d2, e2, f2, g2⟩ := Cond.arrayClass_spec (args := args) (first := s) (o := none) (s := s) (idx := []) (type := .long) (hts (.arrayClass .long) (by decide +kernel))
  obtain ⟨d3, a3, b3, e3, x3, f3, g3, y3⟩ := Cond.arrayOver_spec (args := args) (first := s) (o := none) (s := s) (idx := []) (n := RX6) (hts (.arrayOver (.object RX6)) (by decide +kernel))
  refine ⟨(fun k => if k = 0 then c0 else if k = 1 then c1 else if k = 2 then c2 else if k = 3 then c3 else if k = 4 then c4 else if k = 5 then c5 else if k = 6 then c6 else if k = 7 then c7 else if k = 8 then c8 else if k = 9 then c9 else c10, fun k => if k = 0 then i0 else if k = 1 then i1 else if k = 2 then i2 else if k = 3 then i3 else if k = 4 then i4 else if k = 5 then i5 else if k = 6 then i6 else if k = 7 then i7 else if k = 8 then i8 else if k = 9 then i9 else i10), fun k => if k = 0 then a0 else if k = 1 then a1 else if k = 2 then a2 else a3, fun k q hq => ?_, fun k q hq => ?_⟩
  · match k, hq with
    | 0, hq => cases hq; exact k0
    | 1, hq => cases hq; exact k1
    | 2, hq => cases hq; exact k2
    | 3, hq => cases hq; exact k3
    | 4, hq => cases hq; exact k4
    | 5, hq => cases hq; exact k5
    | 6, hq => cases hq; exact k6
    | 7, hq => cases hq; exact k7
    | 8, hq => cases hq; exact k8
    | 9, hq => cases hq; exact k9
    | 10, hq => cases hq; exact k10
    | k + 11, hq => simp at hq
  · match k, hq with
    | 0, hq => cases hq; exact ⟨fun n z => ⟨fun k h => (by cases h), b0, f0, d0, g0⟩, e0⟩
    | 1, hq => cases hq; exact ⟨fun n z => ⟨fun k h => (by cases h), b1, f1, d1, g1⟩, e1⟩
    | 2, hq => cases hq; exact ⟨fun n z => ⟨fun k h => (by cases h), b2, f2, d2, g2⟩, e2⟩
    | 3, hq => cases hq; exact ⟨fun n z => ⟨fun k h => (by cases h), b3, f3, d3, g3⟩, b3, d3, f3, g3, e3, y3⟩
    | k + 4, hq => simp [mj_tys] at hq
theorem wh_nest : ∀ q ∈ mj_nest, Cond.methodLinkNest q.1 q.2.1 q.2.2.1 q.2.2.2 ∈ lw_tbl := by decide +kernel
theorem wh_decl : ∀ q ∈ mj_decl, Cond.declares q ∈ lw_tbl := by decide +kernel
theorem wh_cast : ∀ q ∈ [mj_IA, mj_IS, mj_IO], Cond.castable q q ∈ lw_tbl := by decide +kernel
theorem wh_sref : ∀ q ∈ mj_txt, Cond.stringRef q.1 q.2.1 q.2.2 ∈ lw_tbl := by decide +kernel
theorem wh_E {b L : Nat} {xs : Nat → Int32} {s : State} (hts : ∀ w ∈ lw_tbl, w.before #[Value.ref b] s = true) (hX : va_X b L xs s s.heap) (hbl : b < s.heap.size) (hgv : (Jvm.Cond.and given_1 narrow_1).before #[Value.ref b] s = true) : ∃ E : mj_E, E.1 = s.heap.size ∧ E.2.2.2.2.2 = (b, L, xs) ∧ mj_EV E s := by
  obtain ⟨D, ca, hK⟩ := wh_K hts
  have hf := flat_of_before _ hgv
  have hA : ∀ a : Nat, a < s.heap.size → ¬ mj_A s.heap.size a := fun a h => Nat.not_le.mpr h
  have h0 : ∀ i : Nat, ∃ a : Nat, ∀ q, mj_txt[i]? = some q → (Term.string q.1 q.2.1).eval #[Value.ref b] s none [] s = some (.ref a) := by
    intro i
    cases e : mj_txt[i]? with
    | none => exact ⟨0, fun q hq => by cases hq⟩
    | some q0 =>
      have hm : q0 ∈ mj_txt := List.mem_of_getElem? e
      have hx : (Cond.exactly (.string q0.1 q0.2.1) "java/lang/String").before #[Value.ref b] s = true := hf _ ((by decide +kernel : ∀ q ∈ mj_txt, Cond.exactly (.string q.1 q.2.1) "java/lang/String" ∈ _) q0 hm)
      obtain ⟨a, c, cA, kA, q1, -⟩ := Cond.exactly_spec (args := #[Value.ref b]) (first := s) (o := none) (s := s) (idx := []) (t := .string q0.1 q0.2.1) (cls := "java/lang/String") hx
      exact ⟨a, fun q hq => by cases hq; exact q1⟩
  obtain ⟨ad, had⟩ := Classical.axiomOfChoice h0
  obtain ⟨adK, adV, hS, hev⟩ := vk_Sof (args := #[Value.ref b]) (s := s) (N := 1) (tm := fun _ => .string RX8 19) (len := [10]) (byt := [[117, 112, 115, 116, 101, 98, 99, 102, 113, 118]]) (A := mj_A s.heap.size)
    (fun i hi => by rw [show i = 0 by omega]; decide) (fun i _ => hf _ (by decide +kernel)) (fun i _ => hf _ (by decide +kernel)) (fun i _ => hf _ (by decide +kernel))
    (fun i hi => by rw [show i = 0 by omega]; exact hf _ (by decide +kernel))
    (fun i hi j hj => by
      have e : i = 0 := by omega
      subst e
      exact hf _ ((by decide +kernel : ∀ j, j < 10 → Cond.eq (.elem (.field (.string RX8 19) "java/lang/String" "value" "[B") (.int (Int32.ofNat j))) (.int (([117, 112, 115, 116, 101, 98, 99, 102, 113, 118] : List Int32).getD j 0)) ∈ _) j hj))
    (fun i j hi hj hne => absurd (show i = j by omega) hne) hA
  have e0 : adK 0 = ad 0 := by
    have h1 := hev 0 (by decide)
    have h2 := had 0 _ rfl
    exact Value.ref.inj (Option.some.inj (h1.symm.trans h2))
  refine ⟨(s.heap.size, D, ca, ad, adV, b, L, xs), rfl, rfl, hK, fun q hq => va_Nw.of rfl (hts _ (wh_nest q hq)), fun q hq => va_Nw.of rfl (hts _ (wh_decl q hq)), fun q hq => va_Nw.of rfl (hts _ (wh_cast q hq)), fun a ha c hc hac => va_Nc.of (hf _ ((by decide +kernel : ∀ a ∈ [mj_IA, mj_IS, mj_IO], ∀ c ∈ [mj_IA, mj_IS, mj_IO], a ≠ c → Cond.not (.castable a c) ∈ _) a ha c hc hac)), fun i q hq => vk_R.of (A := #[Value.ref b]) (hts _ (wh_sref q (List.mem_of_getElem? hq))) (had i q hq), va_AO.of (hts (.arrayOver (.object RX6)) (by decide +kernel)), vx_Zqof (hts _ (by decide +kernel)) (hts _ (by decide +kernel)) (hf _ (by decide +kernel)) hA, vx_Zqof (hts _ (by decide +kernel)) (hts _ (by decide +kernel)) (hf _ (by decide +kernel)) hA, va_Zof (hts _ (by decide +kernel)) (hts _ (by decide +kernel)) (va_eqt (hf _ (by decide +kernel))) hA, ⟨fun i hi => ?_, fun i j hi hj _ => by omega⟩, hX, hbl, Nat.le_refl _⟩
  have e : i = 0 := by omega
  subst e
  have h := hS.1 0 hi
  rw [e0] at h
  exact h
set_option maxHeartbeats 4000000 in
theorem whole_start {p : Program} {e : Env} {s : State} {m : MethodId} {below : List Frame} {meth : Method} {c : Code} (l : Launch) (hflags : l.flags = flags0) {b L : Nat} {xs : Nat → Int32} (hL : L ≤ 2048) (C0 : lw_At p s m meth c b L xs) (hnm : meth.name = "law") : W p l e room_1 s m #[Value.ref b] below meth c s.heap [] 0 0 (lw_Z below #[Value.ref b] s) (entryFrame m ([Value.ref b] : List Value).toArray 7) := by
  obtain ⟨hx, hb, hr, hml, hown, hts, hX, hbl, hlocks, hgv⟩ := id C0
  have hst : l.stackTraces = false := by unfold Launch.stackTraces; rw [hflags]; decide +kernel
  obtain ⟨E, hE1, hE2, hEV⟩ := wh_E hts hX hbl hgv
  have hl := lv_entry ([.ref b]) (n := 7) (Nat.le_of_ble_eq_true rfl)
  rw [lg_entry_eq]
  generalize (lg_sl ([.ref b]) ++ List.replicate (7 - (lg_sl ([.ref b])).length) Slot.unset).toArray = ls at hl ⊢
  have hl : lv_has ls 7 [(0, .ref b)] := hl
  have hG := law_body (b := b) (ys := xs) hL (g := (0, fun _ => (0, 0, 0), fun _ _ => none)) (M := (fun _ _ => 0, fun _ _ => 0, fun _ _ => none)) (by decide)
  have hW := hG p l e s m #[Value.ref b] below meth c E ⟨hx, hst, hb, hml, hown, fun w hw => hts w (mj_good hw).1, hlocks, hr, hE2, hnm, hEV⟩ s.heap [] 0 0 ⟨fun k q h => by simp [mj_ws] at h, Nat.zero_le _⟩ va_S.rf (Nat.le_refl _) (Nat.le_refl _) (fun _ => by rw [hE1]) ls (by
    show lv_has ls 7 [(0, .ref (mj_ad E 900001))]
    rw [show mj_ad E 900001 = b by rw [show mj_ad E 900001 = E.2.2.2.2.2.1 from rfl, hE2]]
    exact hl)
  intro T hT X
  obtain ⟨t, a1, a2⟩ := hW T hT X
  exact ⟨t, a1, a2 ⟨by rw [hE1]; exact Nat.le_refl _, rfl⟩⟩
