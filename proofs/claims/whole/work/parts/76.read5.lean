/-! READING ALL: the reference -/
def rdf_ (k : Nat) (M M' : mj_M) : Prop := M'.2 = M.2 ∧ (∀ a, a ≠ k → a ≠ k + 5 → M'.1 a = M.1 a) ∧ ∀ b, b ≠ 8 → b ≠ 9 → b ≠ 10 → b ≠ 12 → M'.1 k b = M.1 k b
theorem rdf_.rf {k : Nat} {M : mj_M} : rdf_ k M M := ⟨rfl, fun _ _ _ => rfl, fun _ _ _ _ _ => rfl⟩
theorem rdf_.tr {k : Nat} {M M1 M2 : mj_M} (h1 : rdf_ k M M1) (h2 : rdf_ k M1 M2) : rdf_ k M M2 := ⟨h2.1.trans h1.1, fun a a1 a2 => (h2.2.1 a a1 a2).trans (h1.2.1 a a1 a2), fun b b1 b2 b3 b4 => (h2.2.2 b b1 b2 b3 b4).trans (h1.2.2 b b1 b2 b3 b4)⟩
theorem nf_.d {k : Nat} {J : Nat → Prop} {M M1 : mj_M} (h : nf_ k J M M1) (hJ : ∀ b, J b → b = 8 ∨ b = 9 ∨ b = 10 ∨ b = 12) : rdf_ k M M1 := ⟨h.1, fun a a1 _ => h.row a1, fun b b1 b2 b3 b4 => h.f (fun q => by have := hJ b q; omega)⟩
theorem rdf_.w {k : Nat} {M : mj_M} {a j : Nat} {x : Int32} (h : a = k + 5 ∨ (a = k ∧ (j = 8 ∨ j = 9 ∨ j = 10 ∨ j = 12))) : rdf_ k M (mj_wI M a j x) := ⟨rfl, fun b b1 b2 => mj_up2_k _ _ (by omega), fun b b1 b2 b3 b4 => wI_k (by omega)⟩
theorem rdf_.g {k : Nat} {M M1 : mj_M} (h : rdf_ k M M1) : gf_ k (k + 12) M M1 := fun a ha => ⟨h.2.1 a (by omega) (by omega), by rw [h.1], by rw [h.1]⟩
def tl_ (M : mj_M) (k : Nat) (cs : List Int32) : Prop := M.1 k 12 = nI cs.length ∧ cs.length ≤ 160 ∧ ∀ i, i < cs.length → M.1 (k + 5) i = cs.getD i 0
theorem rt_.d {M M1 : mj_M} {k : Nat} {T : List Int32} (h : rt_ M k T) (hf : rdf_ k M M1) : rt_ M1 k T := ⟨by rw [hf.2.2 5 (by decide) (by decide) (by decide) (by decide)]; exact h.1, h.2.1, fun i hi => by rw [hf.2.1 (k + 4) (by omega) (by omega)]; exact h.2.2 i hi⟩
theorem jn_d : ∀ b, jn b → b = 8 ∨ b = 9 ∨ b = 10 ∨ b = 12 := fun b h => by unfold jn at h; omega
theorem j8_d : ∀ b, j8 b → b = 8 ∨ b = 9 ∨ b = 10 ∨ b = 12 := fun b h => Or.inl h
def smR (R X : Option Nat × List Int32) : Prop := R.1 = X.1 ∧ (R.1 = none → R = X)
theorem smR.tr {R X Y : Option Nat × List Int32} (h1 : smR R X) (h2 : smR X Y) : smR R Y := ⟨h1.1.trans h2.1, fun h => (h1.2 h).trans (h2.2 (h1.1 ▸ h))⟩
theorem smR_e {R X : Option Nat × List Int32} (h : R = X) : smR R X := ⟨by rw [h], fun _ => h⟩
theorem ng_lit : ∀ n, n < 11 → 1 ≤ n → ((-2 : Int32) * (-(nI n))) - 1 = nI (2 * (n - 1) + 1) := by decide +kernel
theorem ps_lit : ∀ n, n < 11 → 1 ≤ n → ((2 : Int32) * nI n) - 2 = nI (2 * (n - 1)) := by decide +kernel
theorem ng_sgn : ∀ n, n < 11 → 1 ≤ n → (¬ -(nI n) = 0 ∧ -(nI n) ≤ 0) := by decide +kernel
theorem ps_sgn : ∀ n, n < 11 → 1 ≤ n → (¬ nI n = 0 ∧ ¬ nI n ≤ 0) := by decide +kernel
section RE7
variable {g : mj_S} {M : mj_M} {k : Nat} {T : List Int32} {o : ob}
theorem r_readNumber (h0 : is10 g k) (hx : rt_ M k T) (hT : tOK T) {V : Nat} (hV10 : V ≤ 10) (hVs : M.1 (k + 1) (Int32.toNatClampNeg 0) = nI V) {p : Nat} (hp : p < T.length) (hb : bkT T p = false) (e8 : M.1 k 8 = nI p) (e9 : M.1 k 9 = -1) {lit : Int32} {w : Bool} {cs : List Int32} {X : Option Nat × List Int32} (hX : X = rA T V (T.length - p) p (0, 0, 0, lit, w, cs)) {q : mj_M → Prop}
    (HF : ∀ M' f p', nf_ k jn M M' → M'.1 k 9 = nI f → f ≤ T.length → M'.1 k 8 = nI p' → p' ≤ T.length → X.1 = some f → q M')
    (H0 : ∀ M' p', nf_ k jn M M' → M'.1 k 9 = -1 → M'.1 k 8 = nI p' → p < p' → p' ≤ T.length → (p' = T.length ∨ bkT T p' = true) → M'.1 k 10 = 0 → X = rA T V (T.length - p') p' (2, 0, 0, 0, false, adC cs lit) → q M')
    (H1 : ∀ M' p' n, ∀ l : Bool, nf_ k jn M M' → M'.1 k 9 = -1 → M'.1 k 8 = nI p' → p < p' → p' ≤ T.length → (p' = T.length ∨ bkT T p' = true) → 1 ≤ n → n ≤ V → M'.1 k 10 = (if l then -(nI n) else nI n) → X = rA T V (T.length - p') p' (3, n, sgn l, lit, true, cs) → q M') : ∃ q1 : mj_M → Prop, kX10_readNumber k g M q1 ∧ ∀ M', q1 M' → q M' := by
  refine ⟨q, ?_, fun _ h => h⟩
  have h160 := hT.1
  obtain ⟨b1, b2⟩ := hT.at hp
  have hbk : bk (bn T p) = false := by unfold bkT at hb; rw [decide_eq_true hp, Bool.true_and] at hb; exact hb
  refine eX10_readNumber h0 ⟨_, r_here h0 hx e8 (by omega), fun v1 M1 hq => ?_⟩
  obtain ⟨rfl, rfl⟩ := hq
  rw [if_pos hp, b1, e8]
  have e45 : nI (bn T p) = 45 ↔ bn T p = 45 := nI_eq (b := 45) (by omega) (by decide)
  rw [e45]
  have fr : ∀ y, nf_ k jn M1 (mj_wI (mj_wI M1 k 8 y) k 10 0) := fun y => (nf_.w (J := jn) (Or.inl rfl) _).tr (nf_.w (J := jn) (Or.inr (Or.inr rfl)) _)
  have z8 : ∀ y, (mj_wI (mj_wI M1 k 8 y) k 10 0).1 k 8 = y := fun y => by rw [wI_k (by omega)]; exact wI_s
  have z9 : ∀ y, (mj_wI (mj_wI M1 k 8 y) k 10 0).1 k 9 = -1 := fun y => by rw [wI_k (by omega), wI_k (by omega)]; exact e9
  refine ⟨fun h45 => ⟨fun _ => ?_, fun hc => absurd rfl hc⟩, fun h45 => ⟨fun hc => absurd hc (by decide), fun _ => ?_⟩⟩
  · have := r_num (l := false) (ps := p) (w := w) h0 hx hT hV10 hVs (R := X) (q := q) HF H0 (fun M' p' n => H1 M' p' n false) (T.length - p) p 0 0 (0, 0, 0, lit, w, cs) (mj_wI (mj_wI M1 k 8 (nI p + 0)) k 10 0) (by omega) (by omega) (Nat.le_refl _) (fun h => by rcases h with h | h; omega; cases h) (by rw [z8, Int32.add_zero]) (z9 _) wI_s (fr _) (Or.inl ⟨rfl, rfl, rfl, rfl, hp, hbk, h45⟩) hX
    exact this
  · have tk1 : tk V (0, 0, 0, lit, w, cs) (bn T p) = some (1, 0, 1, lit, true, cs) := by
      show (if bk (bn T p) = true then _ else if dg (bn T p) = true then _ else if bn T p = 45 then _ else _) = _
      rw [if_neg (by rw [hbk]; decide), if_neg (by unfold dg; rw [decide_eq_false (show ¬ 48 ≤ bn T p by omega), Bool.false_and]; decide), if_pos h45]
    have hX2 : X = rA T V (T.length - (p + 1)) (p + 1) (1, 0, 1, lit, true, cs) := by
      rw [hX, show T.length - p = (T.length - (p + 1)) + 1 by omega, rA_s tk1]
    have := r_num (l := true) (ps := p) (w := w) h0 hx hT hV10 hVs (R := X) (q := q) HF H0 (fun M' p' n => H1 M' p' n true) (T.length - (p + 1)) (p + 1) 0 0 (1, 0, 1, lit, true, cs) (mj_wI (mj_wI M1 k 8 (nI p + 1)) k 10 0) (by omega) (by omega) (by omega) (fun _ => by omega) (by rw [z8, nI_1]) (z9 _) wI_s (fr _) (Or.inr (Or.inl ⟨rfl, rfl, rfl, rfl⟩)) hX2
    exact this
theorem r_readAll (h0 : is10 g k) (h : RR M k o) (hT : tOK o.2.1) : kX10_readAll k g M (fun M' => (∀ f, (rdT o.2.1 (sV o.1)).1 = some f → M'.1 k 9 = nI f) ∧ ((rdT o.2.1 (sV o.1)).1 = none → M'.1 k 9 = -1 ∧ tl_ M' k (rdT o.2.1 (sV o.1)).2) ∧ rdf_ k M M') := by
  obtain ⟨T, eT⟩ : ∃ T, T = o.2.1 := ⟨_, rfl⟩
  obtain ⟨V, eV⟩ : ∃ V, V = sV o.1 := ⟨_, rfl⟩
  have hx := h.2.2
  have hV10 : V ≤ 10 := by rw [eV]; exact h.1.V10
  have hVs : M.1 (k + 1) (Int32.toNatClampNeg 0) = nI V := by rw [eV]; exact h.1.V
  rw [← eT] at hx hT ⊢
  rw [← eV]
  obtain ⟨R, eR⟩ : ∃ R, R = rdT T V := ⟨_, rfl⟩
  rw [← eR]
  have h160 := hT.1
  obtain ⟨Q, eQ⟩ : ∃ Q : mj_M → Prop, Q = (fun M' => (∀ f, R.1 = some f → M'.1 k 9 = nI f) ∧ (R.1 = none → M'.1 k 9 = -1 ∧ tl_ M' k R.2) ∧ rdf_ k M M') := ⟨_, rfl⟩
  rw [← eQ]
  have finF : ∀ s x M1 f, M1.1 k 9 = nI f → f ≤ T.length → rdf_ k M M1 → R.1 = some f → LX10_readAll_23 k s x g M1 Q := by
    intro s x M1 f a1 a2 a3 a4
    have hne : ¬ M1.1 k 9 = -1 := by rw [a1]; exact nI_m1 (by omega)
    have fin : Q M1 := by
      rw [eQ]
      exact ⟨fun f' hf' => (by rw [a4] at hf'; cases hf'; exact a1), fun hn => (by rw [a4] at hn; cases hn), a3⟩
    exact bX10_readAll_23 h0 ⟨fun _ => ⟨fun _ => fin, fun e => absurd e hne⟩, fun e => absurd e hne⟩
  have key : ∀ n p (lit : Int32) (w : Bool) (cs : List Int32) M1, T.length - p < n → p ≤ T.length → bkT T p = false → cs.length ≤ p → M1.1 k 8 = nI p → M1.1 k 9 = -1 → tl_ M1 k cs → rdf_ k M M1 → smR R (rA T V (T.length - p) p (0, 0, 0, lit, w, cs)) → LX10_readAll_23 k lit (if w then 1 else 0) g M1 Q := by
    intro n
    induction n with
    | zero => intro p _ _ _ _ hn; omega
    | succ n ih =>
      intro p lit w cs M1 hn hp hb hcs e8 e9 htl hf hR
      have hx1 := hx.d hf
      have hVs1 : M1.1 (k + 1) (Int32.toNatClampNeg 0) = nI V := by rw [hf.2.1 (k + 1) (by omega) (by omega)]; exact hVs
      refine bX10_readAll_23 h0 ⟨fun hc => absurd e9 hc, fun _ => ?_⟩
      rw [hx1.1, e8, nI_leI (by omega) (by omega)]
      refine ⟨fun hle => ⟨fun hc => absurd e9 hc, fun _ => ?_⟩, fun hle => ?_⟩
      · have hpT : p = T.length := by omega
        rw [hpT, Nat.sub_self] at hR
        cases w with
        | true =>
          have hR1 : R.1 = some T.length := hR.1
          refine ⟨fun hc => absurd hc (by decide), fun _ => ?_⟩
          rw [eQ]
          exact ⟨fun f hf' => (by rw [hR1] at hf'; cases hf'; exact wI_s), fun hn => (by rw [hR1] at hn; cases hn), hf.tr (rdf_.w (by omega))⟩
        | false =>
          have hR1 : R.1 = none := hR.1
          have hR2 : R.2 = cs := by rw [hR.2 hR1]; rfl
          refine ⟨fun _ => ?_, fun hc => absurd rfl hc⟩
          rw [eQ]
          exact ⟨fun f hf' => (by rw [hR1] at hf'; cases hf'), fun _ => ⟨e9, by rw [hR2]; exact htl⟩, hf⟩
      · -- a number
        have hpl : p < T.length := by omega
        refine r_readNumber (lit := lit) (w := w) (cs := cs) h0 hx1 hT hV10 hVs1 hpl hb e8 e9 rfl (fun M2 f p' a1 a2 a3 a4 a5 a6 => ?_) (fun M2 p' a1 a2 a3 a4 a5 a6 a7 a8 => ?_) (fun M2 p' m l a1 a2 a3 a4 a5 a6 a7 a8 a9 a10 => ?_)
        · -- a fault
          have hR1 : R.1 = some f := hR.1.trans a6
          have e12 : M2.1 k 12 = nI cs.length := by rw [a1.f (by unfold jn; omega)]; exact htl.1
          have f2 := hf.tr (a1.d jn_d)
          have sk : ∀ s x M3, M3.1 k 8 = nI p' → M3.1 k 9 = nI f → rdf_ k M M3 → ∃ q2 : mj_M → Prop, kX10_skips k g M3 q2 ∧ ∀ M4, q2 M4 → LX10_readAll_23 k s x g M4 Q := by
            intro s x M3 b1 b2 b3
            refine ⟨_, r_skips h0 (hx.d b3) hT b1 a5, fun M4 hq => ?_⟩
            obtain ⟨_, _, _, _, _, _, c6⟩ := hq
            exact finF s x M4 f (by rw [c6.f (by unfold j8; omega)]; exact b2) a3 (b3.tr (c6.d j8_d)) hR1
          have tr : ∀ x, vp_in (M2.1 k 12) 160 ∧ (∃ q4 : Int32 → mj_M → Prop, kX10_isTrivial lit g (mj_wI M2 (k + 5) (Int32.toNatClampNeg (M2.1 k 12)) lit) q4 ∧ ∀ v4 M4, q4 v4 M4 → ((v4 = 0 → ∃ q5 : mj_M → Prop, kX10_skips k g (mj_wI M4 k 12 (((mj_wI M2 (k + 5) (Int32.toNatClampNeg (M2.1 k 12)) lit).1 k 12) + 1)) q5 ∧ ∀ M5, q5 M5 → (LX10_readAll_23 k 0 x g M5 Q)) ∧ (¬ v4 = 0 → ∃ q6 : mj_M → Prop, kX10_skips k g (mj_wI M4 k 12 (((mj_wI M2 (k + 5) (Int32.toNatClampNeg (M2.1 k 12)) lit).1 k 12) + 0)) q6 ∧ ∀ M6, q6 M6 → (LX10_readAll_23 k 0 x g M6 Q)))) := by
            intro x
            refine ⟨by rw [e12]; exact vp_in_nI (by omega) (by decide), _, r_isTrivial _, fun v4 M4 hq => ?_⟩
            obtain ⟨rfl, rfl⟩ := hq
            refine ⟨fun _ => sk _ _ _ ?_ ?_ ((f2.tr (rdf_.w (by omega))).tr (rdf_.w (by omega))), fun _ => sk _ _ _ ?_ ?_ ((f2.tr (rdf_.w (by omega))).tr (rdf_.w (by omega)))⟩
            · rw [wI_k (by omega), wI_k (by omega)]; exact a4
            · rw [wI_k (by omega), wI_k (by omega)]; exact a2
            · rw [wI_k (by omega), wI_k (by omega)]; exact a4
            · rw [wI_k (by omega), wI_k (by omega)]; exact a2
          exact ⟨fun hz => ⟨fun hc => absurd hz hc, fun _ => tr _⟩, fun hz => ⟨fun _ => ⟨fun _ => sk _ _ M2 a4 a2 f2, fun _ => sk _ _ M2 a4 a2 f2⟩, fun hc => absurd hc hz⟩⟩
        · -- 0: the clause has ended
          have e12 : M2.1 k 12 = nI cs.length := by rw [a1.f (by unfold jn; omega)]; exact htl.1
          have f2 := hf.tr (a1.d jn_d)
          have hR2 := hR.tr (smR_e (a8.trans (rA_zero (V := V) (cs := adC cs lit) a5 a6)))
          rw [a7]
          refine ⟨fun _ => ⟨fun hc => absurd rfl hc, fun _ => ⟨by rw [e12]; exact vp_in_nI (by omega) (by decide), _, r_isTrivial _, fun v4 M4 hq => ?_⟩⟩, fun hc => absurd rfl hc⟩
          obtain ⟨rfl, rfl⟩ := hq
          have e12b : (mj_wI M2 (k + 5) (Int32.toNatClampNeg (M2.1 k 12)) lit).1 k 12 = nI cs.length := by rw [wI_k (by omega)]; exact e12
          rw [e12b, e12, nI_clamp (show cs.length < 2 ^ 31 by omega)]
          have go : ∀ y, y = nI (adC cs lit).length → ∃ q5 : mj_M → Prop, kX10_skips k g (mj_wI (mj_wI M2 (k + 5) cs.length lit) k 12 y) q5 ∧ ∀ M5, q5 M5 → (LX10_readAll_23 k 0 0 g M5 Q) := by
            intro y ey
            have f3 : rdf_ k M (mj_wI (mj_wI M2 (k + 5) cs.length lit) k 12 y) := (f2.tr (rdf_.w (by omega))).tr (rdf_.w (by omega))
            refine ⟨_, r_skips h0 (hx.d f3) hT (by rw [wI_k (by omega), wI_k (by omega)]; exact a3) a5, fun M5 hq => ?_⟩
            obtain ⟨p2, c1, c2, c3, c4, c5, c6⟩ := hq
            have hsk := rA_skip (T := T) (V := V) (n := 0) (sn := 0) (lit := 0) (op := false) (cs := adC cs lit) (p2 - p') p' (by omega) (fun t t1 t2 => c4 t t1 (by omega))
            rw [show p' + (p2 - p') = p2 by omega] at hsk
            have hal := adC_len (cs := cs) (l := lit)
            refine ih p2 0 false (adC cs lit) M5 (by omega) c2 c3 (by omega) c5 ?_ ⟨?_, by omega, fun i hi => ?_⟩ (f3.tr (c6.d j8_d)) (hR2.tr (smR_e hsk))
            · rw [c6.f (by unfold j8; omega), wI_k (by omega), wI_k (by omega)]; exact a2
            · rw [c6.f (by unfold j8; omega), wI_s]; exact ey
            · rw [c6.row (by omega), wI_k (by omega)]
              by_cases q : i = cs.length
              · subst q
                rw [wI_s]
                unfold adC at hi ⊢
                split at hi
                · omega
                · rename_i ht
                  rw [if_neg ht, gd_last]
              · have hi2 : i < cs.length := by omega
                rw [wI_k (by omega), a1.row (by omega), htl.2.2 i hi2]
                unfold adC
                split
                · rfl
                · rw [List.getD_eq_getElem?_getD, List.getD_eq_getElem?_getD, List.getElem?_append_left hi2]
          refine ⟨fun hz => go _ ?_, fun hz => go _ ?_⟩
          · unfold adC; rw [if_neg (by rw [(if01 _).1.mp hz]; decide), nI_1, List.length_append]; rfl
          · unfold adC; rw [if_pos ((if01 _).2.mp hz), Int32.add_zero]
        · -- a literal
          have f2 := hf.tr (a1.d jn_d)
          have hlt := rA_lit (V := V) (n := m) (sn := sgn l) (lit := lit) (cs := cs) a5 a6
          have hR2 : smR R (rA T V (T.length - p') p' (0, 0, 0, lit ||| bi (2 * (m - 1) + sgn l), true, cs)) := (hR.tr (smR_e a10)).tr hlt
          have go : ∃ q5 : mj_M → Prop, kX10_skips k g M2 q5 ∧ ∀ M5, q5 M5 → (LX10_readAll_23 k (lit ||| bi (2 * (m - 1) + sgn l)) 1 g M5 Q) := by
            refine ⟨_, r_skips h0 (hx.d f2) hT a3 a5, fun M5 hq => ?_⟩
            obtain ⟨p2, c1, c2, c3, c4, c5, c6⟩ := hq
            have hsk := rA_skip (T := T) (V := V) (n := 0) (sn := 0) (lit := lit ||| bi (2 * (m - 1) + sgn l)) (op := true) (cs := cs) (p2 - p') p' (by omega) (fun t t1 t2 => c4 t t1 (by omega))
            rw [show p' + (p2 - p') = p2 by omega] at hsk
            refine ih p2 _ true cs M5 (by omega) c2 c3 (by omega) c5 ?_ ⟨?_, htl.2.1, fun i hi => ?_⟩ (f2.tr (c6.d j8_d)) (hR2.tr (smR_e hsk))
            · rw [c6.f (by unfold j8; omega)]; exact a2
            · rw [c6.f (by unfold j8; omega), a1.f (by unfold jn; omega)]; exact htl.1
            · rw [c6.row (by omega), a1.row (by omega)]; exact htl.2.2 i hi
          rw [a9]
          cases l with
          | true =>
            have sg := ng_sgn m (by omega) a7
            rw [if_pos rfl]
            refine ⟨fun hz => absurd hz sg.1, fun _ => ⟨fun _ => ⟨fun _ => ?_, fun hc => absurd sg.2 hc⟩, fun hz => absurd hz sg.1⟩⟩
            rw [ng_lit m (by omega) a7]; exact go
          | false =>
            have sg := ps_sgn m (by omega) a7
            rw [if_neg (by decide)]
            refine ⟨fun hz => absurd hz sg.1, fun _ => ⟨fun _ => ⟨fun hc => absurd hc sg.2, fun _ => ?_⟩, fun hz => absurd hz sg.1⟩⟩
            rw [ps_lit m (by omega) a7]; exact go
  obtain ⟨MA, eA⟩ : ∃ z, z = mj_wI (mj_wI (mj_wI M k 8 0) k 9 (-1)) k 12 0 := ⟨_, rfl⟩
  have fA : rdf_ k M MA := by rw [eA]; exact ((rdf_.w (by omega)).tr (rdf_.w (by omega))).tr (rdf_.w (by omega))
  refine eX10_readAll h0 ?_
  rw [← eA]
  refine ⟨_, r_skips h0 (hx.d fA) hT (p := 0) (by rw [eA, wI_k (by omega), wI_k (by omega), wI_s]; rfl) (Nat.zero_le _), fun M1 hq => ?_⟩
  obtain ⟨p2, c1, c2, c3, c4, c5, c6⟩ := hq
  have hsk := rA_skip (T := T) (V := V) (n := 0) (sn := 0) (lit := 0) (op := false) (cs := []) p2 0 (by omega) (fun t t1 t2 => c4 t t1 (by omega))
  rw [Nat.zero_add] at hsk
  refine key (T.length - p2 + 1) p2 0 false [] M1 (by omega) c2 c3 (Nat.zero_le _) c5 ?_ ⟨?_, Nat.zero_le _, fun i hi => absurd hi (Nat.not_lt_zero i)⟩ (fA.tr (c6.d j8_d)) (smR_e (eR.trans hsk))
  · rw [c6.f (by unfold j8; omega), eA, wI_k (by omega), wI_s]
  · rw [c6.f (by unfold j8; omega), eA, wI_s]; rfl
theorem RR.d {M1 : mj_M} (h : RR M k o) (hf : rdf_ k M M1) : RR M1 k o := h.c (by unfold rr_; rw [hf.2.1 (k + 1) (by omega) (by omega)]; exact h.1) (hf.2.1 _ (by omega) (by omega)) (hf.2.1 _ (by omega) (by omega)) (hf.2.2 3 (by decide) (by decide) (by decide) (by decide)) (hf.2.2 5 (by decide) (by decide) (by decide) (by decide))
theorem r_readClauses (h0 : is10 g k) (h : RR M k o) (hI : Inv o.1) (hT : tOK o.2.1) : kX10_readClauses k g M (rq (A_readClauses o) k M) := by
  have hV := hI.V10
  refine eX10_readClauses h0 ⟨_, r_isOpen h0 h.1, fun v1 M1 hq => ?_⟩
  obtain ⟨rfl, rfl⟩ := hq
  have hok := rA_ok (T := o.2.1) hV o.2.1.length 0 _ (Nat.zero_add _) WS_0
  have h160 := hT.1
  refine ⟨fun ho => ⟨_, r_readAll h0 h hT, fun M2 hq => ?_⟩, fun ho => r_fail (r := A_readClauses o) h0 h gf_.rf 1 (rdc_1 (by rw [(if01 _).1.mp ho]; decide)) (fun _ _ h => h)⟩
  have ho := (if01 _).2.mp ho
  obtain ⟨q1, q2, q3⟩ := hq
  have h2 := h.d q3
  cases e : (rdT o.2.1 (sV o.1)).1 with
  | some f =>
    have hf : f ≤ o.2.1.length := hok.1 f e
    rw [q1 f e]
    refine ⟨fun hc => absurd hc (nI_m1 (by omega)), fun _ => ?_⟩
    exact r_tell (r := A_readClauses o) h0 h2 q3.g _ (rdc_e ho e) (fun _ _ h => h)
  | none =>
    obtain ⟨e9, htl⟩ := q2 e
    obtain ⟨hok1, hok2⟩ := hok.2 e
    obtain ⟨F, eF⟩ : ∃ F, F = (rdT o.2.1 (sV o.1)).2 := ⟨_, rfl⟩
    rw [← eF] at htl
    have hok1 : ∀ c, c ∈ F → tv c = false ∧ ∀ i, i < 32 → bt c i = true → i < 2 * sV o.1 := by rw [eF]; exact hok1
    have hok2 : 2 * F.length ≤ o.2.1.length + 1 := by rw [eF]; exact hok2
    have h32 := h2.1.o32
    rw [e9, h2.1.o, htl.1, nI_add, show (32 : Int32) = nI 32 from rfl, nI_leI (by omega) (by decide)]
    refine ⟨fun _ => ⟨fun hl => ⟨_, r_save h0 h2, fun M3 hq => ?_⟩, fun hl => r_fail (r := A_readClauses o) h0 h2 q3.g 1 (rdc_2 ho e (by rw [← eF]; exact hl)) (fun _ _ h => h)⟩, fun hc => absurd rfl hc⟩
    obtain ⟨s1, s2, s3⟩ := hq
    have htl3 : tl_ M3 k F := ⟨by rw [s3.2.2 12 (by decide) (by decide)]; exact htl.1, htl.2.1, fun i hi => by rw [s3.2.1 (k + 5) (by omega) (by omega)]; exact htl.2.2 i hi⟩
    have key : ∀ m i M6, i + m = F.length → Inv ((F.take i).foldl addO o.1) → (∀ v, v < sV ((F.take i).foldl addO o.1) → sS ((F.take i).foldl addO o.1) v = 0) → sV ((F.take i).foldl addO o.1) = sV o.1 → (sO ((F.take i).foldl addO o.1)).length = (sO o.1).length + i → RR M6 k ((F.take i).foldl addO o.1, o.2.1, sav o.2.2 o.1) → tl_ M6 k F → M6.1 k 6 = 0 → gf_ k (k + 12) M1 M6 → LX10_readClauses_65 k (nI i) g M6 (rq (A_readClauses o) k M1) := by
      intro m
      induction m with
      | zero =>
        intro i M6 hi _ _ _ _ h6 hF e6 hg
        refine bX10_readClauses_65 h0 ⟨fun _ => ?_, fun hc => absurd (by rw [hF.1, show i = F.length by omega]; exact Int32.le_refl _) hc⟩
        rw [rdc_0 ho e (by rw [← eF]; exact hl), ← eF]
        rw [tk_all (show i = F.length by omega)] at h6
        exact ⟨e6, fun _ => hF.1, h6, hg⟩
      | succ m ih =>
        intro i M6 hi hI6 ha eV eO h6 hF e6 hg
        have hil : i < F.length := by omega
        refine bX10_readClauses_65 h0 ⟨fun hc => absurd hc (nlt hil (by omega) hF.1), fun _ => ⟨vp_in_nI (by omega) (by decide), ?_⟩⟩
        rw [nI_clamp (show i < 2 ^ 31 by omega), hF.2.2 i hil]
        obtain ⟨a1, a2, a3, a4, a5⟩ := fa_step hI6 ha (by omega) (x := F.getD i 0) (by rw [eV]; exact hok1 _ (gd_mem hil))
        refine ⟨_, r_adds h0 h6.1 _ (show (sO ((F.take i).foldl addO o.1)).length < 32 by omega) (fun _ hb => a2 hb), fun M9 hq => ?_⟩
        rw [nI_1]
        have nx := ih (i + 1) M9 (by omega)
        rw [fold_tk hil] at nx
        exact nx a1 (by rw [a3, a4]; exact ha) (by rw [a3]; exact eV) (by rw [a5, eO]; omega) (h6.rf (hq.2.r (by omega)) hq.1) ⟨by rw [hq.2.1 k (by omega)]; exact hF.1, hF.2.1, fun i hi => by rw [hq.2.1 (k + 5) (by omega)]; exact hF.2.2 i hi⟩ (by rw [hq.2.1 k (by omega)]; exact e6) (hg.tr (hq.2.wd (by omega) (by omega)).g)
    exact key F.length 0 M3 (Nat.zero_add _) hI (opn_iff.mp ho).2.2 rfl rfl s1 htl3 s2 (q3.g.tr s3.g)
end RE7
