/-! ELIMINATION: the reference -/
/-- what is made lies there -/
def md_ (M : mj_M) (k : Nat) (F : List Int32) : Prop := M.1 k 18 = nI F.length ∧ F.length ≤ 576 ∧ ∀ t, t < F.length → M.1 (k + 7) t = F.getD t 0
theorem md_.fr {M M' : mj_M} {k : Nat} {F : List Int32} (h : md_ M k F) (hf : fr_ (k + 1) (k + 2) M M') : md_ M' k F := ⟨by rw [hf.1 k (by omega)]; exact h.1, h.2.1, fun t ht => by rw [hf.1 (k + 7) (by omega)]; exact h.2.2 t ht⟩
theorem kpA_filter {p : Nat → Bool} {q : Int32 → Bool} : ∀ (L : List Int32) (i : Nat), (∀ t, t < L.length → p (i + t) = !q (L.getD t 0)) → kpA p i L = L.filter q
  | [], _, _ => rfl
  | c :: cs, i, h => by
    have h0 := h 0 (Nat.succ_pos _)
    have ih := kpA_filter cs (i + 1) (fun t ht => by
      have := h (t + 1) (by rw [List.length_cons]; omega)
      rw [show i + 1 + t = i + (t + 1) by omega]; exact this)
    rw [Nat.add_zero, List.getD_cons_zero] at h0
    show (if p i = true then kpA p (i + 1) cs else c :: kpA p (i + 1) cs) = _
    rw [ih, h0]
    cases hq : q c with
    | true => rw [List.filter_cons_of_pos hq]; rfl
    | false => rw [List.filter_cons_of_neg (by rw [hq]; decide)]; rfl
theorem gd_tk_app {L X : List Int32} {i : Nat} (h : i < L.length) : (L.take (i + 1) ++ X).getD i 0 = L.getD i 0 := by
  have hl : i < (L.take (i + 1)).length := by rw [List.length_take]; omega
  rw [List.getD_eq_getElem?_getD, List.getD_eq_getElem?_getD, List.getElem?_append_left hl, List.getElem?_take_of_lt (by omega)]
section EL2
variable {g : mj_S} {M : mj_M} {k : Nat} {s : sg}
theorem r_isMade (h0 : is10 g k) {F : List Int32} (h : md_ M k F) (x : Int32) : kX10_isMade k x g M (fun v M' => M' = M ∧ v = if x ∈ F then 1 else 0) := by
  have hl := h.2.1
  refine eX10_isMade h0 ?_
  have key : ∀ m i, i + m = F.length → ∀ b, b = anA (fun t => decide (F.getD t 0 = x)) i → LX10_isMade_4 k x (if b then 1 else 0) (nI i) g M (fun v M' => M' = M ∧ v = if x ∈ F then 1 else 0) := by
    intro m
    induction m with
    | zero =>
      intro i hi b hb
      refine bX10_isMade_4 h0 ⟨fun _ => ⟨by cases b <;> decide, rfl, ?_⟩, fun hc => absurd (by rw [h.1]; exact nI_le (by omega) (by omega)) hc⟩
      rw [show i = F.length by omega] at hb
      have hiff : b = true ↔ x ∈ F := by
        rw [hb, anA_iff]
        constructor
        · rintro ⟨t, ht, e⟩
          rw [← of_decide_eq_true e]; exact gd_mem ht
        · intro hm
          obtain ⟨t, ht, e⟩ := List.getElem_of_mem hm
          exact ⟨t, ht, decide_eq_true (by rw [List.getD_eq_getElem?_getD, List.getElem?_eq_getElem ht]; exact e)⟩
      by_cases hm : x ∈ F
      · rw [if_pos hm, hiff.mpr hm]; rfl
      · rw [if_neg hm]
        cases hbb : b with
        | true => exact absurd (hiff.mp hbb) hm
        | false => rfl
    | succ m ih =>
      intro i hi b hb
      have nx := ih (i + 1) (by omega)
      rw [anA_s, ← hb] at nx
      refine bX10_isMade_4 h0 ⟨fun hc => absurd hc (nlt (n := F.length) (by omega) (by omega) h.1), fun _ => ?_⟩
      rw [nI_1, nI_clamp (n := i) (by omega), h.2.2 i (by omega)]
      refine ⟨fun hz => nx true (by rw [(if01 _).2.mp hz]; rfl), fun hz => ⟨vp_in_nI (by omega) (by decide), fun hc => nx false (by rw [(if01 _).1.mp hz, decide_eq_false hc]; rfl), fun hc => nx true (by rw [decide_eq_true hc, Bool.or_true])⟩⟩
  exact key F.length 0 (by omega) false rfl
theorem r_resolves (h0 : is10 g k) (h : rr_ M k s) (hn : nice (sL s)) {v : Nat} (hv : v < 10) : kX10_resolves k (nI v) g M (fun M' => rr_ M' k s ∧ md_ M' k (rs (sL s) v) ∧ rf_ k M M') := by
  have h48 := h.n48
  have key : ∀ m i, i + m = (sL s).length → ∀ M1, rr_ M1 k s → md_ M1 k (rsI (sL s) v i) → rf_ k M M1 → LX10_resolves_13 k (nI v) (bi (2 * v) ||| bi (2 * v + 1)) (nI i) g M1 (fun M' => rr_ M' k s ∧ md_ M' k (rs (sL s) v) ∧ rf_ k M M') := by
    intro m
    induction m with
    | zero =>
      intro i hi M1 h hm hf
      refine bX10_resolves_13 h0 ⟨fun _ => ⟨h, ?_, hf⟩, fun hc => absurd (h.done (by omega)) hc⟩
      rw [show i = (sL s).length by omega] at hm; exact hm
    | succ m ih =>
      intro i hi M1 h hm hf
      have hil : i < (sL s).length := by omega
      refine bX10_resolves_13 h0 ⟨fun hc => absurd hc (h.more hil), fun _ => ?_⟩
      cases hb : bt ((sL s).getD i 0) (2 * v) with
      | false =>
        have nx := ih (i + 1) (by omega) M1 h (by rw [rsI_f hb]; exact hm) hf
        rw [← nI_1] at nx
        refine bX10_resolves_27 h0 ⟨fun _ => nx, fun _ => ⟨_, r_clauseAt h0 h hil, fun v1 M2 hq => ?_⟩⟩
        obtain ⟨rfl, rfl⟩ := hq
        rw [two_nI]
        refine ⟨_, r_has _ (show 2 * v < 32 by omega), fun v2 M3 hq => ?_⟩
        obtain ⟨rfl, rfl⟩ := hq
        rw [hb]
        exact ⟨fun _ => nx, fun hc => absurd rfl hc⟩
      | true =>
        have inner : ∀ q j, j + q = (sL s).length → ∀ M1, rr_ M1 k s → md_ M1 k (rsJ (sL s) v i j (rsI (sL s) v i)) → rf_ k M M1 → LX10_resolves_27 k (nI v) (bi (2 * v) ||| bi (2 * v + 1)) (nI i) (nI j) g M1 (fun M' => rr_ M' k s ∧ md_ M' k (rs (sL s) v) ∧ rf_ k M M') := by
          intro q
          induction q with
          | zero =>
            intro j hj M1 h hm hf
            refine bX10_resolves_27 h0 ⟨fun _ => ?_, fun hc => absurd (h.done (by omega)) hc⟩
            rw [nI_1]
            refine ih (i + 1) (by omega) M1 h ?_ hf
            rw [rsI_t hb]
            rw [show j = (sL s).length by omega] at hm; exact hm
          | succ q ihq =>
            intro j hj M1 h hm hf
            have hjl : j < (sL s).length := by omega
            refine bX10_resolves_27 h0 ⟨fun hc => absurd hc (h.more hjl), fun _ => ⟨_, r_clauseAt h0 h hil, fun v1 M2 hq => ?_⟩⟩
            obtain ⟨rfl, rfl⟩ := hq
            rw [two_nI, nI_1, nI_1, nI_1]
            refine ⟨_, r_has _ (show 2 * v < 32 by omega), fun v2 M3 hq => ?_⟩
            obtain ⟨rfl, rfl⟩ := hq
            rw [hb]
            refine ⟨fun hc => absurd hc (by decide), fun _ => ⟨_, r_clauseAt h0 h hil, fun v1 M4 hq => ?_⟩⟩
            obtain ⟨rfl, rfl⟩ := hq
            refine ⟨_, r_clauseAt h0 h hjl, fun v1 M5 hq => ?_⟩
            obtain ⟨rfl, rfl⟩ := hq
            refine ⟨_, r_clauseAt h0 h hjl, fun v1 M6 hq => ?_⟩
            obtain ⟨rfl, rfl⟩ := hq
            refine ⟨_, r_has _ (show 2 * v + 1 < 32 by omega), fun v2 M7 hq => ?_⟩
            obtain ⟨rfl, rfl⟩ := hq
            obtain ⟨F, eF⟩ : ∃ F, F = rsJ (sL s) v i j (rsI (sL s) v i) := ⟨_, rfl⟩
            rw [← eF] at hm
            have nx : rsC (sL s) v i j F = false → LX10_resolves_27 k (nI v) (bi (2 * v) ||| bi (2 * v + 1)) (nI i) (nI (j + 1)) g M7 (fun M' => rr_ M' k s ∧ md_ M' k (rs (sL s) v) ∧ rf_ k M M') := fun hcc => ihq (j + 1) (by omega) M7 h (by rw [rsJ_s, ← eF, rsT_f hcc]; exact hm) hf
            refine ⟨fun hc => nx (by unfold rsC; rw [(if01 _).1.mp hc]; rfl), fun hc => ⟨_, r_isTrivial _, fun v1 M8 hq => ?_⟩⟩
            obtain ⟨rfl, rfl⟩ := hq
            have hbj := (if01 _).2.mp hc
            refine ⟨fun hc2 => nx ?_, fun hc2 => ⟨_, r_isMade h0 hm _, fun v1 M9 hq => ?_⟩⟩
            · have : tv (rsR (sL s) v i j) = true := (if01 _).2.mp hc2
              unfold rsC; rw [this]; simp
            · obtain ⟨rfl, rfl⟩ := hq
              have ht : tv (rsR (sL s) v i j) = false := (if01 _).1.mp hc2
              refine ⟨fun hc3 => nx ?_, fun hc3 => ?_⟩
              · have : rsR (sL s) v i j ∈ F := Classical.byContradiction (fun hh => hc3 (if_neg hh))
                unfold rsC; rw [decide_eq_true this]; simp
              · have hmm : ¬ rsR (sL s) v i j ∈ F := fun hh => absurd ((if_pos hh).symm.trans hc3) (by decide)
                have hrm : F.length < 576 := by rw [eF]; exact rs_room hn h48 hv hil hjl hb hbj
                rw [hm.1, nI_clamp (n := F.length) (by omega), wI_k (by omega), hm.1, nI_1]
                refine ⟨vp_in_nI (by omega) (by decide), ihq (j + 1) (by omega) _ ?_ ?_ ((hf.tr (rf_.wI (by omega))).tr (rf_.wI (by omega)))⟩
                · exact (h.fr (fr_.wI (lo := k + 7) (hi := k + 8) (by omega) (by omega)) (by omega)).fr (fr_.wI (lo := k) (hi := k + 1) (by omega) (by omega)) (by omega)
                · rw [rsJ_s, ← eF, rsT_t (by unfold rsC; rw [hbj, ht, decide_eq_false hmm]; rfl)]
                  refine ⟨by rw [wI_s, List.length_append]; rfl, by rw [List.length_append]; exact hrm, fun t ht => ?_⟩
                  rw [List.length_append] at ht
                  have ht' : t < F.length + 1 := ht
                  rw [wI_k (by omega)]
                  rcases Nat.lt_or_ge t F.length with q | q
                  · rw [wI_k (by omega), hm.2.2 t q, List.getD_eq_getElem?_getD, List.getD_eq_getElem?_getD, List.getElem?_append_left q]
                  · have : t = F.length := by omega
                    subst this
                    rw [wI_s, gd_last]; rfl
        exact inner (sL s).length 0 (by omega) M1 h hm hf
  refine eX10_resolves h0 ?_
  rw [two_nI, sh3 v hv]
  exact key (sL s).length 0 (by omega) _ (h.fr (fr_.wI (lo := k) (hi := k + 1) (by omega) (by omega)) (by omega)) ⟨by rw [wI_s]; rfl, Nat.zero_le _, fun t ht => absurd ht (Nat.not_lt_zero t)⟩ (rf_.wI (by omega))
theorem rr_.gr (h : rr_ M k s) : M.1 (k + 1) (Int32.toNatClampNeg 1) = sG s := by rw [t1]; exact h.2.1
theorem r_mayEliminate (h0 : is10 g k) (h : rr_ M k s) (hI : Inv s) {v : Nat} (hv : v < 10) : kX10_mayEliminate k (nI v) g M (fun r M' => r = (if me s v then 1 else 0) ∧ rr_ M' k s ∧ (sS s v = 0 → md_ M' k (rs (sL s) v)) ∧ rf_ k M M') := by
  have h48 := hI.L48
  have h140 := h.r140
  have htw := nice_two hI.nice hv
  obtain ⟨g1, g2⟩ := hI.grow
  have r1 := rs_576 hI.nice h48 hv
  refine eX10_mayEliminate h0 ⟨_, r_isActive h0 h hv, fun v1 M1 hq => ?_⟩
  obtain ⟨rfl, rfl⟩ := hq
  have hme : ∀ P : Prop, (me s v = true → P) → ¬ P → me s v = false := fun P h1 h2 => by
    cases e : me s v with
    | false => rfl
    | true => exact absurd (h1 e) h2
  by_cases ha : sS s v = 0
  · rw [if_pos ha, two_nI, nI_1]
    refine ⟨fun _ => ⟨_, r_countOf h0 h (j := 2 * v) (by omega), fun v2 M2 hq => ?_⟩, fun hc => absurd hc (by decide)⟩
    obtain ⟨rfl, rfl⟩ := hq
    refine ⟨_, r_countOf h0 h (j := 2 * v + 1) (by omega), fun v3 M3 hq => ?_⟩
    obtain ⟨rfl, rfl⟩ := hq
    obtain ⟨up, eup⟩ : ∃ z, z = ct (sL s) (2 * v) := ⟨_, rfl⟩
    obtain ⟨dn, edn⟩ : ∃ z, z = ct (sL s) (2 * v + 1) := ⟨_, rfl⟩
    rw [show (sL s).countP (fun c => bt c (2 * v)) = up from eup.symm, show (sL s).countP (fun c => bt c (2 * v + 1)) = dn from edn.symm, nI_add]
    have eal : al s v = up + dn := by unfold al; rw [eup, edn]
    rw [← eup, ← edn] at htw
    refine ⟨_, r_resolves h0 h hI.nice hv, fun M4 hq => ?_⟩
    obtain ⟨q1, q2, q3⟩ := hq
    have hno : me s v = false → ((0 : Int32) = (if me s v then 1 else 0) ∧ rr_ M4 k s ∧ (sS s v = 0 → md_ M4 k (rs (sL s) v)) ∧ rf_ k M3 M4) := fun e => ⟨by rw [e]; rfl, q1, fun _ => q2, q3⟩
    rw [q1.gr, g1, q2.1, q1.n, q1.r, nI_add, pk_sub htw, nI_add, nI_add, show (48 : Int32) = nI 48 from rfl, show (120 : Int32) = nI 120 from rfl, nI_ltI (by omega) (by omega), nI_ltI (by decide) (by omega), nI_ltI (by decide) (by omega)]
    rw [show (0 : Int32) = nI 0 from rfl, nI_leI (by omega) (by decide)]
    refine ⟨fun hc => hno (hme _ (fun e => (me_iff.mp e).2.1) (by omega)), fun hc => ⟨fun hc2 => hno (hme _ (fun e => (me_iff.mp e).2.2.1) (by omega)), fun hc2 => ⟨fun hc3 => hno (hme _ (fun e => (me_iff.mp e).2.2.2.1) (by omega)), fun hc3 => ⟨fun hc4 => hno (hme _ (fun e => (me_iff.mp e).2.2.2.2) (by omega)), fun hc4 => ?_⟩⟩⟩⟩
    have e : me s v = true := me_iff.mpr ⟨ha, by omega, by omega, by omega, by omega⟩
    exact ⟨by rw [e]; rfl, q1, fun _ => q2, q3⟩
  · rw [if_neg ha]
    refine ⟨fun hc => absurd rfl hc, fun _ => ⟨?_, h, fun e => absurd e ha, rf_.rf⟩⟩
    rw [hme _ (fun e => (me_iff.mp e).1) ha]; rfl
theorem r_eliminates (h0 : is10 g k) (h : rr_ M k s) (hI : Inv s) {v : Nat} (hv : v < 10) (hm : me s v = true) (hF : md_ M k (rs (sL s) v)) : kX10_eliminates k (nI v) g M (fun M' => rr_ M' k (elS s v) ∧ fr_ (k + 1) (k + 2) M M') := by
  have h48 := hI.L48
  obtain ⟨m1, m2, m3, m4, m5⟩ := me_iff.mp hm
  have hlen : (elL s v).length + al s v = (sL s).length := el_len hI.nice hv
  have hFl := hF.2.1
  have hK : sK s v = -1 := hI.2.2.2.2.2.2.2.2 v hv m1
  have k3 : ∀ m j, j + m = (rs (sL s) v).length → ∀ M1, rr_ M1 k (((rs (sL s) v).take j).foldl inc (el0 s v)) → fr_ (k + 1) (k + 2) M M1 → LX10_eliminates_96 k (nI j) g M1 (fun M' => rr_ M' k (elS s v) ∧ fr_ (k + 1) (k + 2) M M') := by
    intro m
    induction m with
    | zero =>
      intro j hj M1 h1 hf
      refine bX10_eliminates_96 h0 ⟨fun _ => ⟨?_, hf⟩, fun hc => absurd (by rw [(hF.fr hf).1]; exact nI_le (by omega) (by omega)) hc⟩
      rw [tk_all (by omega)] at h1; exact h1
    | succ m ih =>
      intro j hj M1 h1 hf
      have hjl : j < (rs (sL s) v).length := by omega
      refine bX10_eliminates_96 h0 ⟨fun hc => absurd hc (nlt hjl (by omega) (hF.fr hf).1), fun _ => ?_⟩
      rw [nI_clamp (n := j) (by omega), (hF.fr hf).2.2 j hjl, nI_1]
      refine ⟨vp_in_nI (by omega) (by decide), _, r_appends h0 h1 _ (fun _ _ => ?_), fun M4 hq => ?_⟩
      · have := foldl_inc_len ((rs (sL s) v).take j) (el0 s v)
        rw [List.length_take] at this
        have e : (sL (el0 s v)).length = (elL s v).length := rfl
        omega
      · refine ih (j + 1) (by omega) M4 ?_ (hf.tr hq.2)
        rw [tk_succ hjl, List.foldl_append]; exact hq.1
  have k2 : ∀ i, i ≤ (sL s).length → ∀ M1, rr_ M1 k (uL (uR s (elR s v)) ((sL s).take i ++ kpA (fun t => !decide ((sL s).getD t 0 &&& (bi (2 * v) ||| bi (2 * v + 1)) = 0)) i ((sL s).drop i))) → fr_ (k + 1) (k + 2) M M1 → LX10_eliminates_55 k (nI v) (nI i - 1) g M1 (fun M' => rr_ M' k (elS s v) ∧ fr_ (k + 1) (k + 2) M M') := by
    intro i
    induction i with
    | zero =>
      intro _ M1 h1 hf
      refine bX10_eliminates_55 h0 ⟨fun _ => ?_, fun hc => absurd m1lt hc⟩
      rw [i12, nI_clamp (n := 12 + v) (by omega)]
      refine ⟨vp_in_nI (by omega) (by decide), k3 _ 0 (Nat.zero_add _) _ ?_ (hf.tr (fr_.wI (by omega) (by omega)))⟩
      rw [List.take_zero, List.drop_zero, List.nil_append, kpA_filter (q := fun c => decide (c &&& (bi (2 * v) ||| bi (2 * v + 1)) = 0)) (sL s) 0 (fun t _ => by rw [Nat.zero_add])] at h1
      show rr_ _ k (uS (uL (uR s (elR s v)) (elL s v)) v 2 (-1))
      refine ra_S h1 hv (by rw [wI_s]) ?_ (fun j a b => by rw [wI_k (by omega)])
      rw [wI_k (by omega)]
      exact (h1.2.2.2.2.1 v hv).trans hK
    | succ i ih =>
      intro hi M1 h1 hf
      have hil : i < (sL s).length := by omega
      have hlt : i < ((sL s).take (i + 1) ++ kpA (fun t => !decide ((sL s).getD t 0 &&& (bi (2 * v) ||| bi (2 * v + 1)) = 0)) (i + 1) ((sL s).drop (i + 1))).length := by rw [List.length_append, List.length_take]; omega
      rw [nI_pred]
      refine bX10_eliminates_55 h0 ⟨fun hc => absurd hc (nI_pos (by omega)), fun _ => ⟨_, r_clauseAt h0 h1 (i := i) hlt, fun v1 M2 hq => ?_⟩⟩
      obtain ⟨rfl, rfl⟩ := hq
      rw [two_nI, sh3 v hv, m1', show (sL (uL (uR s (elR s v)) ((sL s).take (i + 1) ++ kpA (fun t => !decide ((sL s).getD t 0 &&& (bi (2 * v) ||| bi (2 * v + 1)) = 0)) (i + 1) ((sL s).drop (i + 1))))).getD i 0 = (sL s).getD i 0 from gd_tk_app hil]
      refine ⟨fun hc => ih (by omega) M2 ?_ hf, fun hc => ⟨_, r_removes h0 h1 hlt, fun M3 hq => ?_⟩⟩
      · rw [← kp_f hil (by rw [decide_eq_true hc]; rfl)]; exact h1
      · refine ih (by omega) M3 ?_ (hf.tr hq.2)
        rw [← kp_t hil (by rw [decide_eq_false hc]; rfl)]; exact hq.1
  have k1 : ∀ m i, i + m = (sL s).length → ∀ M1, rr_ M1 k (uR s (sR s ++ (((sL s).take i).filter (fun c => bt c (2 * v))).map (fun c => (c, nI (2 * v))))) → fr_ (k + 1) (k + 2) M M1 → LX10_eliminates_2 k (nI v) (nI i) g M1 (fun M' => rr_ M' k (elS s v) ∧ fr_ (k + 1) (k + 2) M M') := by
    intro m
    induction m with
    | zero =>
      intro i hi M1 h1 hf
      refine bX10_eliminates_2 h0 ⟨fun _ => ?_, fun hc => absurd (h1.done (show i = (sL s).length by omega)) hc⟩
      rw [h1.n]
      rw [tk_all (by omega)] at h1
      refine k2 (sL s).length (Nat.le_refl _) M1 ?_ hf
      rw [List.take_length, List.drop_length]
      show rr_ M1 k (uL (uR s (elR s v)) (sL s ++ []))
      rw [List.append_nil]; exact h1
    | succ m ih =>
      intro i hi M1 h1 hf
      have hil : i < (sL s).length := by omega
      have nx := ih (i + 1) (by omega)
      refine bX10_eliminates_2 h0 ⟨fun hc => absurd hc (h1.more (show i < (sL s).length by omega)), fun _ => ⟨_, r_clauseAt h0 h1 (show i < (sL s).length by omega), fun v1 M2 hq => ?_⟩⟩
      obtain ⟨rfl, rfl⟩ := hq
      rw [two_nI, nI_1]
      refine ⟨_, r_has _ (show 2 * v < 32 by omega), fun v3 M4 hq => ?_⟩
      obtain ⟨rfl, rfl⟩ := hq
      rw [tk_succ hil, List.filter_append, List.map_append, ← List.append_assoc] at nx
      refine ⟨fun hc => ?_, fun hc => ⟨_, r_clauseAt h0 h1 (show i < (sL s).length by omega), fun v4 M5 hq => ?_⟩⟩
      · have hb := (if01 _).1.mp hc
        rw [List.filter_cons_of_neg (by rw [show bt ((sL s).getD i 0) (2 * v) = false from hb]; decide), List.filter_nil, List.map_nil, List.append_nil] at nx
        exact nx M4 h1 hf
      · obtain ⟨rfl, rfl⟩ := hq
        have hb : bt ((sL s).getD i 0) (2 * v) = true := (if01 _).2.mp hc
        rw [List.filter_cons_of_pos (p := fun c => bt c (2 * v)) hb, List.filter_nil, List.map_cons, List.map_nil] at nx
        refine ⟨_, r_pushes h0 h1 ?_ _ _, fun M6 hq => nx M6 hq.1 (hf.tr hq.2)⟩
        show (sR s ++ (((sL s).take i).filter (fun c => bt c (2 * v))).map (fun c => (c, nI (2 * v)))).length < 140
        rw [List.length_append, List.length_map, ← List.countP_eq_length_filter]
        have := ct_le (L := sL s) (j := 2 * v) (i := i) (by omega)
        unfold ct at this m5
        omega
  refine eX10_eliminates h0 (k1 (sL s).length 0 (by omega) M ?_ fr_.rf)
  show rr_ M k (uR s (sR s ++ []))
  rw [List.append_nil]; exact h
theorem r_cheapest (h0 : is10 g k) (h : rr_ M k s) (hI : Inv s) : kX10_cheapest k g M (fun r M' => r = chv (ch s (sV s)) ∧ rr_ M' k s ∧ rf_ k M M') := by
  have hV := hI.V10
  have h48 := hI.L48
  refine eX10_cheapest h0 ?_
  have key : ∀ m i, i + m = sV s → ∀ M1 x, (∀ p, ch s i = some p → x = p.2) → rr_ M1 k s → rf_ k M M1 → LX10_cheapest_6 k (chv (ch s i)) x (nI i) g M1 (fun r M' => r = chv (ch s (sV s)) ∧ rr_ M' k s ∧ rf_ k M M') := by
    intro m
    induction m with
    | zero =>
      intro i hi M1 x hx h1 hf
      exact bX10_cheapest_6 h0 ⟨fun _ => ⟨by rw [show i = sV s by omega], h1, hf⟩, fun hc => absurd (by rw [h1.V]; exact nI_le (by omega) (by omega)) hc⟩
    | succ m ih =>
      intro i hi M1 x hx h1 hf
      have nx := ih (i + 1) (by omega)
      refine bX10_cheapest_6 h0 ⟨fun hc => absurd hc (nlt (n := sV s) (by omega) (by omega) h1.V), fun _ => ⟨_, r_mayEliminate h0 h1 hI (v := i) (by omega), fun v1 M2 hq => ?_⟩⟩
      obtain ⟨rfl, q1, q2, q3⟩ := hq
      have hf2 := hf.tr q3
      rw [nI_1, two_nI, nI_1]
      cases e : me s i with
      | false =>
        rw [ch_f e] at nx
        exact ⟨fun _ => nx M2 x hx q1 hf2, fun hc => absurd rfl hc⟩
      | true =>
        have hmd := q2 (me_iff.mp e).1
        refine ⟨fun hc => absurd hc (by decide), fun _ => ⟨_, r_countOf h0 q1 (j := 2 * i) (by omega), fun v3 M4 hq => ?_⟩⟩
        obtain ⟨rfl, rfl⟩ := hq
        refine ⟨_, r_countOf h0 q1 (j := 2 * i + 1) (by omega), fun v4 M5 hq => ?_⟩
        obtain ⟨rfl, rfl⟩ := hq
        rw [hmd.1]
        show (chv (ch s i) = -1 → LX10_cheapest_6 k (nI i) (cost s i) (nI (i + 1)) g M5 _) ∧ (¬ chv (ch s i) = -1 → (x ≤ cost s i → _) ∧ (¬ x ≤ cost s i → LX10_cheapest_6 k (nI i) (cost s i) (nI (i + 1)) g M5 _))
        cases e2 : ch s i with
        | none =>
          rw [ch_t0 e e2] at nx
          exact ⟨fun _ => nx M5 (cost s i) (fun p hp => by (cases hp; rfl)) q1 hf2, fun hc => absurd rfl hc⟩
        | some p =>
          obtain ⟨b, c⟩ := p
          have hb := (ch_ok e2).1
          have hxc : x = c := hx _ e2
          subst hxc
          rw [ch_t1 e e2] at nx
          refine ⟨fun hc => absurd hc (nI_m1 (n := b) (by omega)), fun _ => ⟨fun hc => ?_, fun hc => ?_⟩⟩
          · rw [if_pos hc] at nx; exact nx M5 x (fun p hp => by (cases hp; rfl)) q1 hf2
          · rw [if_neg hc] at nx; exact nx M5 (cost s i) (fun p hp => by (cases hp; rfl)) q1 hf2
  exact key (sV s) 0 (by omega) M 0 (fun p hp => by cases hp) h rf_.rf
theorem r_eliminations (h0 : is10 g k) (h : rr_ M k s) (hI : Inv s) : kX10_eliminations k g M (fun v M' => rr_ M' k (it elF 2000 s).1 ∧ v = nI (it elF 2000 s).2 ∧ rf_ k M M') := by
  have key : ∀ n s M1 c, 10 - ina s < n → Inv s → rr_ M1 k s → rf_ k M M1 → LX10_eliminations_7 k (nI c) (chv (ch s (sV s))) g M1 (fun v M' => rr_ M' k (it elF n s).1 ∧ v = nI (c + (it elF n s).2) ∧ rf_ k M M') := by
    intro n
    induction n with
    | zero => intro s M1 c hn; omega
    | succ n ih =>
      intro s M1 c hn hI h hf
      have hV := hI.V10
      cases e : ch s (sV s) with
      | none =>
        refine bX10_eliminations_7 h0 ⟨fun _ => ?_, fun hx => absurd rfl hx⟩
        rw [it_none (show elF s = none by unfold elF; rw [e]; rfl)]
        exact ⟨h, rfl, hf⟩
      | some p =>
        obtain ⟨b, w⟩ := p
        obtain ⟨b1, b2⟩ := ch_ok e
        have es : elF s = some (elS s b) := by unfold elF; rw [e]; rfl
        refine bX10_eliminations_7 h0 ⟨fun hx => absurd hx (nI_m1 (n := b) (by omega)), fun _ => ⟨_, r_resolves h0 h hI.nice (v := b) (by omega), fun M3 hq => ?_⟩⟩
        obtain ⟨q1, q2, q3⟩ := hq
        refine ⟨_, r_eliminates h0 q1 hI (v := b) (by omega) b2 q2, fun M4 hq => ?_⟩
        obtain ⟨i1, i2⟩ := inv_el hI b1 b2
        have hlt := ina_lt (s := s) (v := b) (by omega) (me_iff.mp b2).1
        refine ⟨_, r_cheapest h0 hq.1 i1, fun v5 M5 hq5 => ?_⟩
        obtain ⟨rfl, q5, q6⟩ := hq5
        rw [nI_1, it_some es]
        have nx := ih _ M5 (c + 1) (by omega) i1 q5 (((hf.tr q3).tr (hq.2.r (by omega))).tr q6)
        rw [Nat.add_assoc, Nat.add_comm 1] at nx
        exact nx
  refine eX10_eliminations h0 ⟨_, r_cheapest h0 h hI, fun v1 M1 hq => ?_⟩
  obtain ⟨rfl, q1, q2⟩ := hq
  have k0 := key 2000 s M1 0 (by omega) hI q1 q2
  rw [Nat.zero_add] at k0
  exact k0
end EL2
