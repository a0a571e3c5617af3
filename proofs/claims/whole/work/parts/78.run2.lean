/-! SCHEDULES: the reference -/
theorem scA_skip {T : List Int32} {L : List Nat} : ∀ (d p : Nat), p + d ≤ T.length → (∀ t, p ≤ t → t < p + d → bkT T t = true) → scA T (T.length - p) p L = scA T (T.length - (p + d)) (p + d) L
  | 0, p, _, _ => rfl
  | d + 1, p, hp, h => by
    have hb := h p (Nat.le_refl _) (by omega)
    unfold bkT at hb
    rw [Bool.and_eq_true] at hb
    rw [show T.length - p = (T.length - (p + 1)) + 1 by omega, scA_b hb.2, scA_skip d (p + 1) (by omega) (fun t t1 t2 => h t (by omega) (by omega)), show p + 1 + d = p + (d + 1) by omega]
theorem gd_nI {L : List Nat} {i : Nat} (h : i < L.length) : (L.map nI).getD i 0 = nI (L.getD i 0) := by
  rw [List.getD_eq_getElem?_getD, List.getD_eq_getElem?_getD, List.getElem?_map, List.getElem?_eq_getElem h]; rfl
section RU3
variable {g : mj_S} {M : mj_M} {k : Nat} {o : ob}
theorem r_readSchedule (h0 : is10 g k) (h : RR M k o) (hT : tOK o.2.1) : kX10_readSchedule k g M (fun M' => (∀ f, (scT o.2.1).1 = some f → M'.1 k 9 = nI f) ∧ ((scT o.2.1).1 = none → M'.1 k 9 = -1 ∧ tl_ M' k ((scT o.2.1).2.map nI)) ∧ rdf_ k M M') := by
  obtain ⟨T, eT⟩ : ∃ T, T = o.2.1 := ⟨_, rfl⟩
  have hx := h.2.2
  rw [← eT] at hx hT ⊢
  have h160 := hT.1
  obtain ⟨R, eR⟩ : ∃ R, R = scT T := ⟨_, rfl⟩
  rw [← eR]
  obtain ⟨Q, eQ⟩ : ∃ Q : mj_M → Prop, Q = (fun M' => (∀ f, R.1 = some f → M'.1 k 9 = nI f) ∧ (R.1 = none → M'.1 k 9 = -1 ∧ tl_ M' k (R.2.map nI)) ∧ rdf_ k M M') := ⟨_, rfl⟩
  rw [← eQ]
  have finF : ∀ M1 f, M1.1 k 9 = nI f → f ≤ T.length → rdf_ k M M1 → R.1 = some f → LX10_readSchedule_19 k g M1 Q := by
    intro M1 f a1 a2 a3 a4
    have hne : ¬ M1.1 k 9 = -1 := by rw [a1]; exact nI_m1 (by omega)
    have fin : Q M1 := by
      rw [eQ]
      exact ⟨fun f' hf' => (by rw [a4] at hf'; cases hf'; exact a1), fun hn => (by rw [a4] at hn; cases hn), a3⟩
    exact bX10_readSchedule_19 h0 ⟨fun _ => ⟨fun _ => fin, fun e => absurd e hne⟩, fun e => absurd e hne⟩
  have key : ∀ n p (L : List Nat) M1, T.length - p < n → p ≤ T.length → bkT T p = false → L.length ≤ 20 → M1.1 k 8 = nI p → M1.1 k 9 = -1 → tl_ M1 k (L.map nI) → rdf_ k M M1 → R = scA T (T.length - p) p L → LX10_readSchedule_19 k g M1 Q := by
    intro n
    induction n with
    | zero => intro p _ _ hn; omega
    | succ n ih =>
      intro p L M1 hn hp hb hL e8 e9 htl hf hR
      have hx1 := hx.d hf
      have e12 : M1.1 k 12 = nI L.length := by rw [htl.1, List.length_map]
      refine bX10_readSchedule_19 h0 ⟨fun hc => absurd e9 hc, fun _ => ?_⟩
      rw [hx1.1, e8, nI_leI (by omega) (by omega)]
      refine ⟨fun hle => ⟨fun hc => absurd e9 hc, fun _ => ?_⟩, fun hle => ?_⟩
      · have hpT : p = T.length := by omega
        rw [hpT, Nat.sub_self] at hR
        have hR1 : R.1 = if L.length = 0 then some T.length else none := by rw [hR]; rfl
        have hR2 : R.2 = L := by rw [hR]; rfl
        rw [e12, show (0 : Int32) = nI 0 from rfl, nI_eq (by omega) (by decide)]
        refine ⟨fun hc => ?_, fun hc => ?_⟩
        · rw [if_neg hc] at hR1
          rw [eQ]
          exact ⟨fun f hf' => (by rw [hR1] at hf'; cases hf'), fun _ => ⟨e9, by rw [hR2]; exact htl⟩, hf⟩
        · rw [if_pos hc] at hR1
          rw [eQ]
          exact ⟨fun f hf' => (by rw [hR1] at hf'; cases hf'; exact wI_s), fun hn => (by rw [hR1] at hn; cases hn), hf.tr (rdf_.w (by omega))⟩
      · have hpl : p < T.length := by omega
        obtain ⟨b1, b2⟩ := hT.at hpl
        have hk : bk (bn T p) = false := by unfold bkT at hb; rw [decide_eq_true hpl, Bool.true_and] at hb; exact hb
        rw [show T.length - p = (T.length - (p + 1)) + 1 by omega] at hR
        refine ⟨_, r_here h0 hx1 e8 hp, fun v M2 hq => ?_⟩
        obtain ⟨rfl, rfl⟩ := hq
        rw [if_pos hpl, b1]
        refine ⟨_, r_techniqueOf b2, fun v M3 hq => ?_⟩
        obtain ⟨rfl, rfl⟩ := hq
        have flt : R.1 = some p → LX10_readSchedule_19 k g (mj_wI M3 k 9 (M3.1 k 8)) Q := fun hR1 => finF _ p (by rw [wI_s]; exact e8) hp (hf.tr (rdf_.w (by omega))) hR1
        cases ht : tq (bn T p) with
        | none => exact ⟨fun _ => flt (by rw [hR, scA_n hk ht]), fun hc => absurd rfl hc⟩
        | some t =>
          have h10 := tq_10 ht
          rw [e12, show (20 : Int32) = nI 20 from rfl, nI_eq (by omega) (by decide), nI_clamp (show L.length < 2 ^ 31 by omega)]
          refine ⟨fun hc => absurd hc (nI_m1 (n := t) (by omega)), fun _ => ⟨fun h20 => ⟨vp_in_nI (by omega) (by decide), ?_⟩, fun h20 => flt (by rw [hR, scA_f hk ht h20])⟩⟩
          have e1 : (mj_wI M3 (k + 5) L.length (oN (some t))).1 k 12 + 1 = nI (L.length + 1) := by rw [wI_k (by omega), e12, nI_1]
          rw [e1]
          have e2 : (mj_wI (mj_wI M3 (k + 5) L.length (oN (some t))) k 12 (nI (L.length + 1))).1 k 8 + 1 = nI (p + 1) := by rw [wI_k (by omega), wI_k (by omega), e8, nI_1]
          rw [e2]
          obtain ⟨M4, eM⟩ : ∃ z, z = mj_wI (mj_wI (mj_wI M3 (k + 5) L.length (oN (some t))) k 12 (nI (L.length + 1))) k 8 (nI (p + 1)) := ⟨_, rfl⟩
          rw [← eM]
          have f4 : rdf_ k M M4 := by rw [eM]; exact ((hf.tr (rdf_.w (by omega))).tr (rdf_.w (by omega))).tr (rdf_.w (by omega))
          rw [scA_t hk ht h20] at hR
          refine ⟨_, r_skips h0 (hx.d f4) hT (p := p + 1) (by rw [eM]; exact wI_s) (by omega), fun M5 hq => ?_⟩
          obtain ⟨p2, c1, c2, c3, c4, c5, c6⟩ := hq
          have hsk := scA_skip (T := T) (L := L ++ [t]) (p2 - (p + 1)) (p + 1) (by omega) (fun u u1 u2 => c4 u u1 (by omega))
          rw [show p + 1 + (p2 - (p + 1)) = p2 by omega] at hsk
          refine ih p2 (L ++ [t]) M5 (by omega) c2 c3 (by rw [List.length_append]; show L.length + 1 ≤ 20; omega) c5 ?_ ⟨?_, ?_, fun i hi => ?_⟩ (f4.tr (c6.d j8_d)) (hR.trans hsk)
          · rw [c6.f (by unfold j8; omega), eM, wI_k (by omega), wI_k (by omega), wI_k (by omega)]; exact e9
          · rw [c6.f (by unfold j8; omega), eM, wI_k (by omega), wI_s, List.length_map, List.length_append]; rfl
          · rw [List.length_map, List.length_append]; show L.length + 1 ≤ 160; omega
          · rw [List.length_map, List.length_append] at hi
            have hi : i < L.length + 1 := hi
            rw [c6.row (by omega), eM, wI_k (by omega), wI_k (by omega), List.map_append]
            by_cases q : i = L.length
            · subst q
              rw [wI_s]
              have := gd_last (L.map nI) (nI t)
              rw [List.length_map] at this
              exact this.symm
            · rw [wI_k (by omega), htl.2.2 i (by rw [List.length_map]; omega), List.getD_eq_getElem?_getD, List.getD_eq_getElem?_getD, List.getElem?_append_left (by rw [List.length_map]; omega)]
  obtain ⟨MA, eA⟩ : ∃ z, z = mj_wI (mj_wI (mj_wI M k 8 0) k 9 (-1)) k 12 0 := ⟨_, rfl⟩
  have fA : rdf_ k M MA := by rw [eA]; exact ((rdf_.w (by omega)).tr (rdf_.w (by omega))).tr (rdf_.w (by omega))
  refine eX10_readSchedule h0 ?_
  rw [← eA]
  refine ⟨_, r_skips h0 (hx.d fA) hT (p := 0) (by rw [eA, wI_k (by omega), wI_k (by omega), wI_s]; rfl) (Nat.zero_le _), fun M1 hq => ?_⟩
  obtain ⟨p2, c1, c2, c3, c4, c5, c6⟩ := hq
  have hsk := scA_skip (T := T) (L := []) p2 0 (by omega) (fun t t1 t2 => c4 t t1 (by omega))
  rw [Nat.zero_add] at hsk
  refine key (T.length - p2 + 1) p2 [] M1 (by omega) c2 c3 (Nat.zero_le _) c5 ?_ ⟨?_, Nat.zero_le _, fun i hi => absurd hi (Nat.not_lt_zero i)⟩ (fA.tr (c6.d j8_d)) (eR.trans hsk)
  · rw [c6.f (by unfold j8; omega), eA, wI_k (by omega), wI_s]
  · rw [c6.f (by unfold j8; omega), eA, wI_s]; rfl
theorem rd1_cons {t : Nat} {L : List Nat} {s : sg} : rd1 (t :: L) s = ((rd1 L (ap1 t s)).1, (dt t s).2 + (rd1 L (ap1 t s)).2) := rfl
theorem dpN {L : List Nat} {i : Nat} (h : i < L.length) : L.drop i = L.getD i 0 :: L.drop (i + 1) := by
  rw [List.getD_eq_getElem?_getD, List.getElem?_eq_getElem h]
  exact List.drop_eq_getElem_cons h
theorem r_run (h0 : is10 g k) (h : RR M k o) (hI : Inv o.1) (hT : tOK o.2.1) (x : Int32) : kX10_run k x g M (rq (A_run o x) k M) := by
  have h160 := hT.1
  refine eX10_run h0 ⟨_, r_in, fun v1 M1 hq => ?_⟩
  obtain ⟨rfl, rfl⟩ := hq
  rcases rg_cs (a := 1) (b := 9) (by decide) (by decide) x with ⟨e, hx⟩ | ⟨r, h1, h2, rfl, e⟩
  · rw [if_neg (show ¬ ((1 : Int32) ≤ x ∧ x ≤ 9) from hx)]
    exact ⟨fun hc => absurd rfl hc, fun _ => r_fail (r := A_run o x) h0 h gf_.rf 1 (run_1 e) (fun _ _ h => h)⟩
  rw [if_pos (show (1 : Int32) ≤ nI r ∧ nI r ≤ 9 from ⟨nI_le (a := 1) h1 (by omega), nI_le h2 (by decide)⟩)]
  refine ⟨fun _ => ⟨_, r_readSchedule h0 h hT, fun M2 hq => ?_⟩, fun hc => absurd hc (by decide)⟩
  obtain ⟨q1, q2, q3⟩ := hq
  have h2' := h.d q3
  have hok := scA_ok hT o.2.1.length 0 [] (Nat.zero_add _) (Nat.zero_le _)
  cases e2 : (scT o.2.1).1 with
  | some f =>
    have hf : f ≤ o.2.1.length := hok.1 f e2
    rw [q1 f e2]
    exact ⟨fun hc => absurd hc (nI_m1 (by omega)), fun _ => r_tell (r := A_run o (nI r)) h0 h2' q3.g _ (run_e e e2) (fun _ _ h => h)⟩
  | none =>
    obtain ⟨e9, htl⟩ := q2 e2
    obtain ⟨hk1, hk2⟩ := hok.2 e2
    obtain ⟨L, eL⟩ : ∃ L, L = tsf o.2.1 o.2.1.length 0 := ⟨_, rfl⟩
    have eS : (scT o.2.1).2 = L := by rw [eL]; exact hk1
    have hL20 : L.length ≤ 20 := by rw [← eS]; exact hk2
    have hL10 : ∀ t, t ∈ L → t < 10 := fun t ht => tsf_10 _ _ t (eL ▸ ht)
    rw [eS] at htl
    have er := run_0 e e2
    rw [← eL] at er
    rw [e9]
    refine ⟨fun _ => ⟨_, r_save h0 h2', fun M3 hq => ?_⟩, fun hc => absurd rfl hc⟩
    obtain ⟨s1, s2, s3⟩ := hq
    have htl3 : tl_ M3 k (L.map nI) := ⟨by rw [s3.2.2 12 (by decide) (by decide)]; exact htl.1, htl.2.1, fun i hi => by rw [s3.2.1 (k + 5) (by omega) (by omega)]; exact htl.2.2 i hi⟩
    have tlr : ∀ {Ma Mb : mj_M}, tl_ Ma k (L.map nI) → rf_ k Ma Mb → tl_ Mb k (L.map nI) := fun ha hf => ⟨by rw [hf.2.2 12 (by decide)]; exact ha.1, ha.2.1, fun i hi => by rw [hf.2.1 (k + 5) (by omega)]; exact ha.2.2 i hi⟩
    have key : ∀ m n s M4, n + m = r → Inv s → RR M4 k (s, o.2.1, sav o.2.2 o.1) → tl_ M4 k (L.map nI) → M4.1 k 6 = 0 → gf_ k (k + 12) M1 M4 → rnR L r 0 o.1 = rnR L m n s → LX10_run_47 k (nI r) (nI n) (if m = 0 then 0 else 1) g M4 (rq (A_run o (nI r)) k M1) := by
      intro m
      induction m with
      | zero =>
        intro n s M4 hn hIs h4 _ e6 hg hR
        refine bX10_run_47 h0 ⟨fun _ => ?_, fun hc => absurd rfl hc⟩
        rw [er, hR]
        exact ⟨e6, fun _ => rfl, h4, hg⟩
      | succ m ih =>
        intro n s M4 hn hIs h4 ht4 e6 hg hR
        refine bX10_run_47 h0 ⟨fun hc => absurd hc (by rw [if_neg (by omega)]; decide), fun _ => ?_⟩
        have rdk := rd1_ok L s hIs
        have inn : ∀ mm i s1 c M5, i + mm = L.length → Inv s1 → RR M5 k (s1, o.2.1, sav o.2.2 o.1) → tl_ M5 k (L.map nI) → M5.1 k 6 = 0 → gf_ k (k + 12) M1 M5 → (rd1 L s).1 = (rd1 (L.drop i) s1).1 → (rd1 L s).2 = c + (rd1 (L.drop i) s1).2 → LX10_run_57 k (nI r) (nI n) (nI c) (nI i) g M5 (rq (A_run o (nI r)) k M1) := by
          intro mm
          induction mm with
          | zero =>
            intro i s1 c M5 hi hI1 h5 ht5 e65 hg5 hr1 hr2
            rw [show i = L.length by omega, List.drop_length] at hr1 hr2
            have hr1 : (rd1 L s).1 = s1 := hr1
            have hr2 : (rd1 L s).2 = c := hr2
            refine bX10_run_57 h0 ⟨fun _ => ?_, fun hc => absurd (by rw [ht5.1, List.length_map, show i = L.length by omega]; exact Int32.le_refl _) hc⟩
            have stop : ∀ M6, ((rd1 L s).2 = 0 ∨ sL (rd1 L s).1 = [0]) → RR M6 k (s1, o.2.1, sav o.2.2 o.1) → M6.1 k 6 = 0 → gf_ k (k + 12) M1 M6 → LX10_run_47 k (nI r) (nI (n + 1)) 0 g M6 (rq (A_run o (nI r)) k M1) := fun M6 hs a1 a2 a3 => by
              refine bX10_run_47 h0 ⟨fun _ => ?_, fun hc => absurd rfl hc⟩
              rw [er, hR, rnR_e hs, hr1]
              exact ⟨a2, fun _ => rfl, a1, a3⟩
            rw [nI_1, show (0 : Int32) = nI 0 from rfl, nI_leI (show c < 2 ^ 31 by omega) (by decide)]
            refine ⟨fun hz => stop M5 (Or.inl (by omega)) h5 e65 hg5, fun hz => ⟨_, r_isBroken h0 h5.1, fun v M6 hq => ?_⟩⟩
            obtain ⟨rfl, rfl⟩ := hq
            have e01 : (if sL s1 = [0] then (1 : Int32) else 0) = nI 0 ↔ ¬ sL s1 = [0] := by
              by_cases q : sL s1 = [0]
              · rw [if_pos q]; exact ⟨fun h => absurd h (by decide), fun h => absurd q h⟩
              · rw [if_neg q]; exact ⟨fun _ => q, fun _ => rfl⟩
            show (¬ (if sL s1 = [0] then (1 : Int32) else 0) = nI 0 → _) ∧ ((if sL s1 = [0] then (1 : Int32) else 0) = nI 0 → _)
            rw [e01, nI_leI (show r < 2 ^ 31 by omega) (by omega)]
            refine ⟨fun hb => stop M6 (Or.inr (by rw [hr1]; exact Classical.not_not.mp hb)) h5 e65 hg5, fun hb => ?_⟩
            have hR2 : rnR L r 0 o.1 = rnR L m (n + 1) s1 := by rw [hR, rnR_s (fun q => by rcases q with q | q; exact hz (by omega); exact hb (hr1 ▸ q)), hr1]
            have nx := ih (n + 1) s1 M6 (by omega) hI1 h5 ht5 e65 hg5 hR2
            refine ⟨fun hle => ?_, fun hle => ?_⟩
            · rw [if_pos (by omega)] at nx; exact nx
            · rw [if_neg (by omega)] at nx; exact nx
          | succ mm ihm =>
            intro i s1 c M5 hi hI1 h5 ht5 e65 hg5 hr1 hr2
            have hil : i < L.length := by omega
            have hd := (dt_inv hI1 (L.getD i 0)).2
            have ht10 : L.getD i 0 < 10 := hL10 _ (by rw [List.getD_eq_getElem?_getD, List.getElem?_eq_getElem hil]; exact List.getElem_mem hil)
            rw [dpN hil, rd1_cons] at hr1 hr2
            refine bX10_run_57 h0 ⟨fun hc => absurd hc (nlt (n := L.length) hil (by omega) (by rw [ht5.1, List.length_map])), fun _ => ⟨vp_in_nI (by omega) (by decide), ?_⟩⟩
            rw [nI_clamp (show i < 2 ^ 31 by omega), ht5.2.2 i (by rw [List.length_map]; exact hil), gd_nI hil, nI_1]
            refine ⟨_, r_applies h0 h5.1 hI1 ht10, fun v M6 hq => ?_⟩
            obtain ⟨q4, q5, q6⟩ := hq
            rw [q5]
            show LX10_run_57 k (nI r) (nI n) (nI c + nI (dt (L.getD i 0) s1).2) (nI (i + 1)) g M6 _
            rw [nI_add]
            have hr2 : (rd1 L s).2 = c + ((dt (L.getD i 0) s1).2 + (rd1 (L.drop (i + 1)) (ap1 (L.getD i 0) s1)).2) := hr2
            exact ihm (i + 1) (ap1 (L.getD i 0) s1) (c + (dt (L.getD i 0) s1).2) M6 (by omega) (ap1_inv hI1 _) (h5.rf q6 q4) (tlr ht5 q6) (by rw [q6.2.2 6 (by decide)]; exact e65) (hg5.tr q6.g) hr1 (by omega)
        exact inn L.length 0 s 0 M4 (Nat.zero_add _) hIs h4 ht4 e6 hg (by rw [List.drop_zero]) (by rw [List.drop_zero, Nat.zero_add])
    have k0 := key r 0 o.1 M3 (Nat.zero_add _) hI s1 htl3 s2 (q3.g.tr s3.g) rfl
    rw [if_neg (by omega)] at k0
    exact k0
end RU3
