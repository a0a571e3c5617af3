/-! THE WHOLE OBJECT: state, text, saved states -/
abbrev ob : Type := sg × List Int32 × List sg
def gf_ (lo hi : Nat) (M M' : mj_M) : Prop := ∀ a, (a < lo ∨ hi ≤ a) → M'.1 a = M.1 a ∧ M'.2.1 a = M.2.1 a ∧ M'.2.2 a = M.2.2 a
theorem gf_.rf {lo hi : Nat} {M : mj_M} : gf_ lo hi M M := fun _ _ => ⟨rfl, rfl, rfl⟩
theorem gf_.tr {lo hi : Nat} {M M1 M2 : mj_M} (h1 : gf_ lo hi M M1) (h2 : gf_ lo hi M1 M2) : gf_ lo hi M M2 := fun a ha => ⟨(h2 a ha).1.trans (h1 a ha).1, (h2 a ha).2.1.trans (h1 a ha).2.1, (h2 a ha).2.2.trans (h1 a ha).2.2⟩
theorem gf_.wd {lo hi lo' hi' : Nat} {M M1 : mj_M} (h : gf_ lo hi M M1) (hl : lo' ≤ lo) (hh : hi ≤ hi') : gf_ lo' hi' M M1 := fun a ha => h a (by omega)
theorem fr_.g {lo hi : Nat} {M M1 : mj_M} (h : fr_ lo hi M M1) : gf_ lo hi M M1 := fun a ha => ⟨h.1 a ha, by rw [h.2], by rw [h.2]⟩
theorem rf_.g {k : Nat} {M M1 : mj_M} (h : rf_ k M M1) : gf_ k (k + 12) M M1 := fun a ha => ⟨h.2.1 a (by omega), by rw [h.1], by rw [h.1]⟩
/-- the class's cells that techniques and questions leave as they are -/
def kf_ (k : Nat) (M M' : mj_M) : Prop := M'.2 = M.2 ∧ ∀ a, (a ≤ k ∨ (k + 21 ≤ a ∧ a < k + 84) ∨ k + 98 ≤ a) → M'.1 a = M.1 a
theorem kf_.rf {k : Nat} {M : mj_M} : kf_ k M M := ⟨rfl, fun _ _ => rfl⟩
theorem kf_.tr {k : Nat} {M M1 M2 : mj_M} (h1 : kf_ k M M1) (h2 : kf_ k M1 M2) : kf_ k M M2 := ⟨h2.1.trans h1.1, fun a ha => (h2.2 a ha).trans (h1.2 a ha)⟩
theorem fr_.k {k lo hi : Nat} {M M1 : mj_M} (h : fr_ lo hi M M1) (hk : (k + 1 ≤ lo ∧ hi ≤ k + 21) ∨ (k + 84 ≤ lo ∧ hi ≤ k + 98)) : kf_ k M M1 := ⟨h.2, fun a ha => h.1 a (by omega)⟩
theorem tf_.k {k : Nat} {M M1 : mj_M} (h : tf_ (k + 1) (k + 88) M M1) : kf_ k M M1 := ⟨h.1, fun a ha => h.2 a (by omega) (by omega)⟩
theorem tf_.k2 {k : Nat} {M M1 : mj_M} (h : tf_ (k + 11) (k + 88) M M1) : kf_ k M M1 := ⟨h.1, fun a ha => h.2 a (by omega) (by omega)⟩
theorem kf_.g {k : Nat} {M M1 : mj_M} (h : kf_ k M M1) : gf_ k (k + 98) M M1 := fun a ha => ⟨h.2 a (by omega), by rw [h.1], by rw [h.1]⟩
/-- a state holds if its cells are the same -/
theorem rc_.c {M M' : mj_M} {k : Nat} {s : sg} (h : rc_ M k s) (e : ∀ a, k ≤ a → a < k + 10 → M'.1 a = M.1 a) : rc_ M' k s := by
  obtain ⟨h1, h2, h3, h4, h5, h6, h7, h8, h9, h10, h11⟩ := h
  have ec : ∀ kk nn LL, cl_ M kk nn LL → k ≤ kk → kk + 2 ≤ k + 10 → cl_ M' kk nn LL := fun kk nn LL hc hk1 hk2 => by
    obtain ⟨c1, c2, c3, c4⟩ := hc
    exact ⟨by rw [e kk (by omega) (by omega)]; exact c1, c2, c3, fun i hi => by rw [e (kk + 1) (by omega) (by omega)]; exact c4 i hi⟩
  exact ⟨by rw [e k (by omega) (by omega)]; exact h1, by rw [e k (by omega) (by omega)]; exact h2, by rw [e k (by omega) (by omega)]; exact h3, ec _ _ _ h4 (by omega) (by omega), ec _ _ _ h5 (by omega) (by omega), fun v hv => by rw [e _ (by omega) (by omega)]; exact h6 v hv, fun v hv => by rw [e _ (by omega) (by omega)]; exact h7 v hv, fun v hv => by rw [e _ (by omega) (by omega)]; exact h8 v hv, h9, fun i hi => by rw [e (k + 8) (by omega) (by omega), e (k + 9) (by omega) (by omega)]; exact h10 i hi, h11⟩
def sv_ (M : mj_M) (k : Nat) (ps : List sg) : Prop := M.1 k 3 = nI ps.length ∧ ps.length ≤ 6 ∧ ∃ p : Nat → Nat, (∀ i, i < 6 → p i < 6 ∧ M.2.2 (k + 21) i = some (k + 22 + 10 * p i)) ∧ (∀ i j, i < 6 → j < 6 → p i = p j → i = j) ∧ (∀ i, i < 6 → ∃ t, rc_ M (k + 22 + 10 * p i) t ∧ (i < ps.length → t = ps.getD i (s0 1)))
def tx_ (M : mj_M) (kx : Nat) (T : List Int32) : Prop := M.1 kx 1 = nI T.length ∧ T.length ≤ 160 ∧ ∀ i, i < T.length → M.1 (kx + 1) i = T.getD i 0
def CR (M : mj_M) (k : Nat) (o : ob) : Prop := rc_ M (k + 1) o.1 ∧ (∃ t, rc_ M (k + 11) t) ∧ sv_ M k o.2.2 ∧ tx_ M (k + 82) o.2.1
theorem sv_.c {M M' : mj_M} {k : Nat} {ps : List sg} (h : sv_ M k ps) (e1 : M'.1 k 3 = M.1 k 3) (e2 : M'.2.2 (k + 21) = M.2.2 (k + 21)) (e3 : ∀ a, k + 22 ≤ a → a < k + 82 → M'.1 a = M.1 a) : sv_ M' k ps := by
  obtain ⟨h1, h2, p, h3, h4, h5⟩ := h
  refine ⟨by rw [e1]; exact h1, h2, p, fun i hi => by rw [e2]; exact h3 i hi, h4, fun i hi => ?_⟩
  obtain ⟨t, t1, t2⟩ := h5 i hi
  have := (h3 i hi).1
  exact ⟨t, t1.c (fun a h1 h2 => e3 a (by omega) (by omega)), t2⟩
theorem tx_.c {M M' : mj_M} {k : Nat} {T : List Int32} (h : tx_ M k T) (e1 : M'.1 k = M.1 k) (e2 : M'.1 (k + 1) = M.1 (k + 1)) : tx_ M' k T := ⟨by rw [e1]; exact h.1, h.2.1, fun i hi => by rw [e2]; exact h.2.2 i hi⟩
theorem CR.s {M : mj_M} {k : Nat} {o : ob} (h : CR M k o) : rc_ M (k + 1) o.1 := h.1
/-- nothing but the state and the working cells has changed -/
theorem CR.kf {M M' : mj_M} {k : Nat} {o : ob} {s' : sg} (h : CR M k o) (hf : kf_ k M M') (hs : rc_ M' (k + 1) s') (ht : ∃ t, rc_ M' (k + 11) t) : CR M' k (s', o.2) :=
  ⟨hs, ht, h.2.2.1.c (by rw [hf.2 k (by omega)]) (by rw [hf.1]) (fun a h1 h2 => hf.2 a (by omega)), h.2.2.2.c (hf.2 _ (by omega)) (hf.2 _ (by omega))⟩
theorem CR.gf {M M' : mj_M} {k lo hi : Nat} {o : ob} (h : CR M k o) (hf : gf_ lo hi M M') (hk : k + 98 ≤ lo ∨ hi ≤ k) : CR M' k o := by
  obtain ⟨h1, ⟨t, h2⟩, h3, h4⟩ := h
  have e : ∀ a, k ≤ a → a < k + 98 → M'.1 a = M.1 a := fun a h1 h2 => (hf a (by omega)).1
  exact ⟨h1.c (fun a a1 a2 => e a (by omega) (by omega)), ⟨t, h2.c (fun a a1 a2 => e a (by omega) (by omega))⟩, h3.c (by rw [e k (by omega) (by omega)]) (hf _ (by omega)).2.2 (fun a a1 a2 => e a (by omega) (by omega)), h4.c (e _ (by omega) (by omega)) (e _ (by omega) (by omega))⟩
def sav (ps : List sg) (s : sg) : List sg := (if ps.length < 6 then ps else ps.drop 1) ++ [s]
theorem sav_len {ps : List sg} {s : sg} (h : ps.length ≤ 6) : (sav ps s).length ≤ 6 := by
  unfold sav
  rw [List.length_append]
  show _ + 1 ≤ 6
  split
  · omega
  · rw [List.length_drop]; omega
theorem gds_last (P : List sg) (a d : sg) : (P ++ [a]).getD P.length d = a := by
  rw [List.getD_eq_getElem?_getD, List.getElem?_append_right (Nat.le_refl _), Nat.sub_self]; rfl
theorem gds_left {P Q : List sg} {d : sg} {i : Nat} (h : i < P.length) : (P ++ Q).getD i d = P.getD i d := by
  rw [List.getD_eq_getElem?_getD, List.getD_eq_getElem?_getD, List.getElem?_append_left h]
theorem gds_drop {P : List sg} {d : sg} {i : Nat} : (P.drop 1).getD i d = P.getD (i + 1) d := by
  rw [List.getD_eq_getElem?_getD, List.getD_eq_getElem?_getD, List.getElem?_drop, Nat.add_comm]
def is9s (g : mj_S) (k : Nat) : Prop := is9 g k ∧ ∀ i, i < 6 → is6 g (k + 22 + 10 * i)
section OBJ
variable {g : mj_S} {M : mj_M} {k : Nat} {o : ob}
/-- the present state is put into a place that holds none of the first n saved ones -/
theorem sv_put {ps : List sg} {s : sg} {p : Nat → Nat} (h0 : is9s g k) (hs : rc_ M (k + 1) s) (ht : ∃ t, rc_ M (k + 11) t) (hx : tx_ M (k + 82) o.2.1) (hn : ps.length < 6) (hc : M.1 k 3 = nI ps.length) (h3 : ∀ i, i < 6 → p i < 6 ∧ M.2.2 (k + 21) i = some (k + 22 + 10 * p i)) (h4 : ∀ i j, i < 6 → j < 6 → p i = p j → i = j) (h5 : ∀ i, i < 6 → ∃ t, rc_ M (k + 22 + 10 * p i) t ∧ (i < ps.length → t = ps.getD i (s0 1))) : ∃ q2 : mj_M → Prop, kX6_copyFrom (k + 22 + 10 * p ps.length) (k + 1) g M q2 ∧ ∀ M2, q2 M2 → CR (mj_wI M2 k 3 (M2.1 k 3 + 1)) k (s, o.2.1, ps ++ [s]) ∧ gf_ k (k + 82) M (mj_wI M2 k 3 (M2.1 k 3 + 1)) := by
  obtain ⟨t0, t1, _⟩ := h5 ps.length hn
  have hp := (h3 ps.length hn).1
  refine ⟨_, c_copyState (h0.2 _ hp) h0.1.2.1.2 t1 hs (by omega), fun M2 hq => ?_⟩
  obtain ⟨q1, q2⟩ := hq
  have e3 : M2.1 k 3 = nI ps.length := by rw [q2.1 k (by omega)]; exact hc
  rw [e3, nI_1]
  have f : fr_ k (k + 1) M2 (mj_wI M2 k 3 (nI (ps.length + 1))) := fr_.wI (by omega) (by omega)
  obtain ⟨t, ht⟩ := ht
  refine ⟨⟨(hs.fr q2 (by omega)).fr f (by omega), ⟨t, (ht.fr q2 (by omega)).fr f (by omega)⟩, ⟨?_, ?_, p, fun i hi => ?_, h4, fun i hi => ?_⟩, hx.c ?_ ?_⟩, (q2.wd (lo' := k) (hi' := k + 82) (by omega) (by omega)).g.tr (f.wd (by omega) (by omega)).g⟩
  · rw [wI_s, List.length_append]; rfl
  · rw [List.length_append]; show ps.length + 1 ≤ 6; omega
  · refine ⟨(h3 i hi).1, ?_⟩
    show M2.2.2 (k + 21) i = _
    rw [q2.2]; exact (h3 i hi).2
  · by_cases e : i = ps.length
    · subst e
      exact ⟨s, q1.fr f (by omega), fun _ => (gds_last ps s (s0 1)).symm⟩
    · obtain ⟨t', u1, u2⟩ := h5 i hi
      have hne : p i ≠ p ps.length := fun q => e (h4 i ps.length hi hn q)
      refine ⟨t', (u1.fr q2 (by omega)).fr f (by omega), fun hl => ?_⟩
      rw [List.length_append] at hl
      have hl : i < ps.length + 1 := hl
      rw [gds_left (by omega)]; exact u2 (by omega)
  · rw [f.1 _ (by omega), q2.1 _ (by omega)]
  · rw [f.1 _ (by omega), q2.1 _ (by omega)]
theorem c_saveState (h0 : is9s g k) (h : CR M k o) : kX9_saveState k g M (fun M' => CR M' k (o.1, o.2.1, sav o.2.2 o.1) ∧ gf_ k (k + 82) M M') := by
  obtain ⟨hs, ht, ⟨h1, h2, p, h3, h4, h5⟩, hx⟩ := h
  refine eX9_saveState h0.1 ?_
  rw [h1, show (6 : Int32) = nI 6 from rfl, nI_ltI (by omega) (by decide)]
  refine ⟨fun hl => ⟨fun hc => absurd hc (nI_pos (by omega)), fun _ => ?_⟩, fun hl => ?_⟩
  · rw [nI_clamp (by omega)]
    refine ⟨vp_in_nI hl (by decide), _, ⟨(h3 _ hl).2, h0.2 _ (h3 _ hl).1⟩, ?_⟩
    have e : sav o.2.2 o.1 = o.2.2 ++ [o.1] := by unfold sav; rw [if_pos hl]
    rw [e]
    exact sv_put h0 hs ht hx hl h1 h3 h4 h5
  · have hlen : o.2.2.length = 6 := by omega
    have e : sav o.2.2 o.1 = o.2.2.drop 1 ++ [o.1] := by unfold sav; rw [if_neg hl]
    rw [e, t0]
    refine ⟨vp_in_nI (n := 0) (by decide) (by decide), _, ⟨(h3 0 (by decide)).2, h0.2 _ (h3 0 (by decide)).1⟩, ?_⟩
    have key : ∀ m j, j + m = 6 → 1 ≤ j → ∀ M1 : mj_M, M1.1 = M.1 → M1.2.1 = M.2.1 → (∀ a, a ≠ k + 21 → M1.2.2 a = M.2.2 a) → (∀ i, i < 6 → M1.2.2 (k + 21) i = some (k + 22 + 10 * (if i + 1 < j then p (i + 1) else p i))) → LX9_saveState_21 k (k + 22 + 10 * p 0) (nI j) g M1 (fun M' => CR M' k (o.1, o.2.1, o.2.2.drop 1 ++ [o.1]) ∧ gf_ k (k + 82) M M') := by
      intro m
      induction m with
      | zero =>
        intro j hj h1j M1 e1 e2 e3 e4
        have hj6 : j = 6 := by omega
        subst hj6
        refine bX9_saveState_21 h0.1 (h0.2 _ (h3 0 (by decide)).1) ⟨fun _ => ⟨by rw [show ((6 : Int32) - 1) = nI 5 from by decide]; exact vp_in_nI (by decide) (by decide), ?_⟩, fun hc => absurd (by decide) hc⟩
        rw [show Int32.toNatClampNeg ((6 : Int32) - 1) = 5 from by decide, show ((6 : Int32) - 1) = nI 5 from by decide]
        obtain ⟨M2, eM⟩ : ∃ z, z = mj_wI (mj_wR M1 (k + 21) 5 (some (k + 22 + 10 * p 0))) k 3 (nI 5) := ⟨_, rfl⟩
        rw [← eM]
        have c3 : M2.1 k 3 = nI 5 := by rw [eM]; exact wI_s
        have m1 : ∀ a b, ¬ (a = k ∧ b = 3) → M2.1 a b = M.1 a b := fun a b hab => by rw [eM, wI_k hab]; show M1.1 a b = _; rw [e1]
        have m1a : ∀ a, a ≠ k → M2.1 a = M.1 a := fun a ha => by funext b; exact m1 a b (by omega)
        have m2 : M2.2.1 = M.2.1 := by rw [eM]; exact e2
        have m3 : ∀ a, a ≠ k + 21 → M2.2.2 a = M.2.2 a := fun a ha => by
          rw [eM]; show mj_up2 M1.2.2 (k + 21) 5 _ a = _
          rw [mj_up2_k _ _ ha]; exact e3 a ha
        have m4 : ∀ i, i < 6 → M2.2.2 (k + 21) i = some (k + 22 + 10 * (if i < 5 then p (i + 1) else p 0)) := fun i hi => by
          rw [eM]; show mj_up2 M1.2.2 (k + 21) 5 _ (k + 21) i = _
          by_cases q : i = 5
          · subst q; rw [mj_up2_s]; rfl
          · rw [mj_up2_n _ _ (by omega), e4 i hi, if_pos (by omega), if_pos (by omega)]
        rw [c3, nI_clamp (show 5 < 2 ^ 31 by decide)]
        refine ⟨fun hc => absurd hc (by decide), fun _ => ⟨vp_in_nI (by decide) (by decide), k + 22 + 10 * p 0, ⟨by rw [m4 5 (by decide)]; rfl, h0.2 _ (h3 0 (by decide)).1⟩, ?_⟩⟩
        obtain ⟨t, ht⟩ := ht
        have pl : (o.2.2.drop 1).length = 5 := by rw [List.length_drop]; omega
        have put := sv_put (M := M2) (o := o) (ps := o.2.2.drop 1) (s := o.1) (p := fun i => if i < 5 then p (i + 1) else p 0) h0 (hs.c (fun a a1 a2 => m1a a (by omega))) ⟨t, ht.c (fun a a1 a2 => m1a a (by omega))⟩ (hx.c (m1a _ (by omega)) (m1a _ (by omega))) (by omega) (by rw [pl]; exact c3) (fun i hi => ⟨?_, m4 i hi⟩) (fun i j hi hj he => ?_) (fun i hi => ?_)
        · rw [pl] at put
          obtain ⟨q2, u1, u2⟩ := put
          refine ⟨q2, u1, fun M3 hq => ⟨(u2 M3 hq).1, gf_.tr (fun a ha => ⟨m1a a (by omega), by rw [m2], m3 a (by omega)⟩) (u2 M3 hq).2⟩⟩
        · show (if i < 5 then p (i + 1) else p 0) < 6
          split
          · exact (h3 (i + 1) (by omega)).1
          · exact (h3 0 (by decide)).1
        · have he : (if i < 5 then p (i + 1) else p 0) = (if j < 5 then p (j + 1) else p 0) := he
          split at he
          · split at he
            · have := h4 (i + 1) (j + 1) (by omega) (by omega) he; omega
            · have := h4 (i + 1) 0 (by omega) (by omega) he; omega
          · split at he
            · have := h4 0 (j + 1) (by omega) (by omega) he; omega
            · omega
        · show ∃ t, rc_ M2 (k + 22 + 10 * (if i < 5 then p (i + 1) else p 0)) t ∧ _
          by_cases q : i < 5
          · rw [if_pos q]
            obtain ⟨t', u1, u2⟩ := h5 (i + 1) (by omega)
            exact ⟨t', u1.c (fun a a1 a2 => m1a a (by omega)), fun _ => by rw [gds_drop]; exact u2 (by omega)⟩
          · rw [if_neg q]
            obtain ⟨t', u1, u2⟩ := h5 0 (by decide)
            exact ⟨t', u1.c (fun a a1 a2 => m1a a (by omega)), fun hl => by omega⟩
      | succ m ih =>
        intro j hj h1j M1 e1 e2 e3 e4
        have hj6 : j < 6 := by omega
        have ej : M1.2.2 (k + 21) j = some (k + 22 + 10 * p j) := by rw [e4 j hj6, if_neg (by omega)]
        obtain ⟨j', ej'⟩ : ∃ j', j = j' + 1 := ⟨j - 1, by omega⟩
        refine bX9_saveState_21 h0.1 (h0.2 _ (h3 0 (by decide)).1) ⟨fun hc => ?_, fun _ => ⟨vp_in_nI hj6 (by decide), k + 22 + 10 * p j, ⟨by rw [nI_clamp (by omega)]; exact ej, h0.2 _ (h3 j hj6).1⟩, ?_⟩⟩
        · rw [show (6 : Int32) = nI 6 from rfl, nI_leI (by decide) (by omega)] at hc; omega
        · rw [show nI j - 1 = nI j' by rw [ej', nI_pred], nI_clamp (show j' < 2 ^ 31 by omega), nI_1]
          refine ⟨vp_in_nI (by omega) (by decide), ih (j + 1) (by omega) (by omega) _ e1 e2 (fun a ha => ?_) (fun i hi => ?_)⟩
          · show mj_up2 M1.2.2 (k + 21) j' _ a = _
            rw [mj_up2_k _ _ ha]; exact e3 a ha
          · show mj_up2 M1.2.2 (k + 21) j' _ (k + 21) i = _
            by_cases q : i = j'
            · subst q
              rw [mj_up2_s, if_pos (by omega), ej']
            · rw [mj_up2_n _ _ (by omega), e4 i hi]
              by_cases q2 : i + 1 < j
              · rw [if_pos q2, if_pos (by omega)]
              · rw [if_neg q2, if_neg (by omega)]
    exact key 5 1 (by omega) (by omega) M rfl rfl (fun _ _ => rfl) (fun i hi => by rw [if_neg (by omega)]; exact (h3 i hi).2)
end OBJ
