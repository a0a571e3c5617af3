/-! COVERED CLAUSES: the reference -/
def pr_ (M : mj_M) (k : Nat) (P : List (Int32 × Int32)) : Prop := M.1 k 21 = nI P.length ∧ P.length ≤ 11 ∧ ∀ i, i < P.length → M.1 (k + 8) i = (P.getD i (0, 0)).1 ∧ M.1 (k + 9) i = (P.getD i (0, 0)).2
theorem pr_.fr {M M' : mj_M} {k : Nat} {P : List (Int32 × Int32)} (h : pr_ M k P) (hf : fr_ (k + 1) (k + 2) M M') : pr_ M' k P := ⟨by rw [hf.1 k (by omega)]; exact h.1, h.2.1, fun t ht => by rw [hf.1 (k + 8) (by omega), hf.1 (k + 9) (by omega)]; exact h.2.2 t ht⟩
section CV3
variable {g : mj_S} {M : mj_M} {k : Nat} {s : sg} {P : List (Int32 × Int32)} {E : Int32}
theorem rr_.eq {M' : mj_M} (h : rr_ M k s) (e : M'.1 (k + 1) = M.1 (k + 1)) : rr_ M' k s := by unfold rr_; rw [e]; exact h
theorem r_common (h0 : is10 g k) (h : rr_ M k s) (hE : M.1 k 22 = E) {j l : Nat} (hj : j < (sL s).length) (hl : l < 20) : kX10_common k (nI j) (nI l) g M (fun v M' => M' = M ∧ v = cma (sL s) j E l) := by
  have h48 := h.n48
  have hf := fl32 hl
  refine eX10_common h0 ?_
  rw [hE]
  have key : ∀ m i, i + m = (sL s).length → LX10_common_17 k (nI j) (nI l) (cm (sL s) j E l i) (E &&& (bi l ^^^ (-1))) (nI i) g M (fun v M' => M' = M ∧ v = cma (sL s) j E l) := by
    intro m
    induction m with
    | zero =>
      intro i hi
      exact bX10_common_17 h0 ⟨fun _ => ⟨rfl, by rw [show i = (sL s).length by omega]; rfl⟩, fun hc => absurd (h.done (by omega)) hc⟩
    | succ m ih =>
      intro i hi
      have hil : i < (sL s).length := by omega
      have nx := ih (i + 1) (by omega)
      refine bX10_common_17 h0 ⟨fun hc => absurd hc (h.more hil), fun _ => ⟨_, r_clauseAt h0 h hil, fun v1 M1 hq => ?_⟩⟩
      obtain ⟨rfl, rfl⟩ := hq
      rw [xor1 l hl, nI_1, nI_eq (by omega) (by omega)]
      refine ⟨fun he => ?_, fun he => ⟨_, r_clauseAt h0 h hil, fun v2 M2 hq => ?_⟩⟩
      · rw [cm_f (show cvP (sL s) j E l i = false by unfold cvP; rw [decide_eq_true he]; rfl)] at nx; exact nx
      · obtain ⟨rfl, rfl⟩ := hq
        refine ⟨_, r_has _ (show fl l < 32 by omega), fun v3 M3 hq => ?_⟩
        obtain ⟨rfl, rfl⟩ := hq
        refine ⟨fun hc => ?_, fun hc => ⟨_, r_isTrivial _, fun v4 M4 hq => ?_⟩⟩
        · rw [cm_f (show cvP (sL s) j E l i = false by unfold cvP; rw [(if01 _).1.mp hc]; simp)] at nx; exact nx
        · obtain ⟨rfl, rfl⟩ := hq
          refine ⟨fun hd => ?_, fun hd => ?_⟩
          · have e : tv ((E &&& (bi l ^^^ (-1))) ||| ((sL s).getD i 0 &&& (bi (fl l) ^^^ (-1)))) = true := (if01 _).2.mp hd
            rw [cm_f (show cvP (sL s) j E l i = false by unfold cvP; rw [e]; simp)] at nx; exact nx
          · have e : tv ((E &&& (bi l ^^^ (-1))) ||| ((sL s).getD i 0 &&& (bi (fl l) ^^^ (-1)))) = false := (if01 _).1.mp hd
            rw [cm_t (show cvP (sL s) j E l i = true by unfold cvP; rw [e, (if01 _).2.mp hc, decide_eq_false he]; rfl)] at nx; exact nx
  exact key (sL s).length 0 (by omega)
theorem r_pairsWith (h0 : is10 g k) (hP : pr_ M k P) (hE : M.1 k 22 = E) (hp : P.length < 11) (l : Nat) : kX10_pairsWith k (nI l) g M (fun M' => pr_ M' k (P ++ [(E, nI l)]) ∧ M'.1 k 22 = E ∧ M'.1 (k + 1) = M.1 (k + 1) ∧ rf_ k M M') := by
  refine eX10_pairsWith h0 ?_
  have a1 : (mj_wI M (k + 8) (Int32.toNatClampNeg (M.1 k 21)) (M.1 k 22)).1 k 21 = nI P.length := by rw [wI_k (by omega)]; exact hP.1
  rw [a1, hP.1, nI_clamp (by omega), hE]
  have a2 : (mj_wI (mj_wI M (k + 8) P.length E) (k + 9) P.length (nI l)).1 k 21 = nI P.length := by rw [wI_k (by omega), wI_k (by omega)]; exact hP.1
  rw [a2, nI_1]
  refine ⟨vp_in_nI (by omega) (by decide), vp_in_nI (by omega) (by decide), ⟨?_, ?_, fun i hi => ?_⟩, ?_, ?_, ?_⟩
  · rw [wI_s, List.length_append]; rfl
  · rw [List.length_append]; show P.length + 1 ≤ 11; omega
  · rw [List.length_append] at hi
    have hi : i < P.length + 1 := hi
    by_cases e : i = P.length
    · subst e
      rw [gdr_last, wI_k (by omega), wI_k (by omega), wI_s, wI_k (by omega), wI_s]; exact ⟨rfl, rfl⟩
    · rw [gdr_left (by omega), wI_k (by omega), wI_k (by omega), wI_k (by omega), wI_k (by omega), wI_k (by omega), wI_k (by omega)]; exact hP.2.2 i (by omega)
  · rw [wI_k (by omega), wI_k (by omega), wI_k (by omega)]; exact hE
  · funext b; rw [wI_k (by omega), wI_k (by omega), wI_k (by omega)]
  · exact ((rf_.wI (by omega)).tr (rf_.wI (by omega))).tr (rf_.wI (by omega))
theorem r_isCovered (h0 : is10 g k) (h : rr_ M k s) (hn : nice (sL s)) {j : Nat} (hj : j < (sL s).length) : kX10_isCovered k (nI j) g M (fun v M' => v = (if (exr (sL s) j).2.2 then 1 else 0) ∧ M'.1 k 22 = (exr (sL s) j).1 ∧ pr_ M' k (exr (sL s) j).2.1 ∧ rr_ M' k s ∧ rf_ k M M') := by
  have key : ∀ n E P, 10 - pc E < n → P.length + n ≤ 11 → nc E → ∀ m l, l + m = 20 → (∀ t, t < l → glP (sL s) j E t = false) → ∀ M1, rr_ M1 k s → M1.1 k 22 = E → pr_ M1 k P → rf_ k M M1 → LX10_isCovered_16 k (nI j) (nI l) g M1 (fun v M' => v = (if (ex (sL s) j n E P).2.2 then 1 else 0) ∧ M'.1 k 22 = (ex (sL s) j n E P).1 ∧ pr_ M' k (ex (sL s) j n E P).2.1 ∧ rr_ M' k s ∧ rf_ k M M') := by
    intro n
    induction n with
    | zero => intro E P hn; omega
    | succ n ihn =>
      intro E P hfu hPn hE m
      induction m with
      | zero =>
        intro l hl hno M1 hr e2 hP hf
        have en : gl (sL s) j E = none := fdF_none' (fun t _ ht => hno t (by omega))
        rw [ex_no en]
        exact bX10_isCovered_16 h0 ⟨fun _ => ⟨rfl, e2, hP, hr, hf⟩, fun hc => absurd (by rw [show l = 20 by omega]; decide) hc⟩
      | succ m ih =>
        intro l hl hno M1 hr e2 hP hf
        have hl20 : l < 20 := by omega
        have nx : glP (sL s) j E l = false → _ := fun hp => ih (l + 1) (by omega) (ltS hno hp) M1 hr e2 hP hf
        refine bX10_isCovered_16 h0 ⟨fun hc => ?_, fun _ => ?_⟩
        · rw [show (20 : Int32) = nI 20 from rfl, nI_leI (by decide) (by omega)] at hc; omega
        rw [e2]
        refine ⟨_, r_has _ (show l < 32 by omega), fun v1 M2 hq => ?_⟩
        obtain ⟨rfl, rfl⟩ := hq
        rw [nI_1]
        refine ⟨fun hc => nx (by unfold glP; rw [(if01 _).1.mp hc]; rfl), fun hc => ⟨_, r_common h0 hr e2 hj hl20, fun v2 M3 hq => ?_⟩⟩
        obtain ⟨rfl, rfl⟩ := hq
        have hb : bt E l = true := (if01 _).2.mp hc
        rw [e2]
        refine ⟨fun hm => ⟨fun hz => nx (by unfold glP; rw [decide_eq_true hz]; simp), fun hz => ⟨_, r_pairsWith h0 hP e2 (by omega) l, fun M4 hq => ?_⟩⟩, fun hm => ⟨_, r_pairsWith h0 hP e2 (by omega) l, fun M4 hq => ?_⟩⟩
        · obtain ⟨q1, q2, q3, q4⟩ := hq
          have eg : gl (sL s) j E = some l := fdF_some' (Nat.zero_le _) (by omega) (by unfold glP; rw [hb, decide_eq_false hz]; rfl) (fun t _ ht => hno t ht)
          have hE2 := grow_nc hn hE hl20 hm
          have hpc := grow_pc hz
          have h10 := nc_pc hE2
          rw [ex_go eg hm, q2, show ((-1 : Int32) + 1) = nI 0 from by decide]
          refine ihn _ _ (by omega) (by rw [List.length_append]; show P.length + 1 + n ≤ 11; omega) hE2 20 0 (by omega) (fun t ht => absurd ht (Nat.not_lt_zero t)) _ ?_ wI_s ?_ ((hf.tr q4).tr (rf_.wI (by omega)))
          · exact (hr.eq q3).fr (fr_.wI (lo := k) (hi := k + 1) (by omega) (by omega)) (by omega)
          · obtain ⟨p1, p2, p3⟩ := q1
            exact ⟨by rw [wI_k (by omega)]; exact p1, p2, fun i hi => by rw [wI_k (by omega), wI_k (by omega)]; exact p3 i hi⟩
        · obtain ⟨q1, q2, q3, q4⟩ := hq
          have eg : gl (sL s) j E = some l := fdF_some' (Nat.zero_le _) (by omega) (by unfold glP; rw [hb, hm, decide_eq_false (m1_grow hE)]; rfl) (fun t _ ht => hno t ht)
          rw [ex_yes eg hm]
          exact ⟨rfl, q2, q1, hr.eq q3, hf.tr q4⟩
  refine eX10_isCovered h0 ⟨_, r_clauseAt h0 h hj, fun v1 M1 hq => ?_⟩
  obtain ⟨rfl, rfl⟩ := hq
  have f : fr_ k (k + 1) M1 (mj_wI (mj_wI M1 k 22 ((sL s).getD j 0)) k 21 0) := (fr_.wI (by omega) (by omega)).tr (fr_.wI (by omega) (by omega))
  exact key 11 ((sL s).getD j 0) [] (by omega) (by show 0 + 11 ≤ 11; omega) (nice_nc hn hj) 20 0 (by omega) (fun t ht => absurd ht (Nat.not_lt_zero t)) _ (h.fr f (by omega)) (by rw [wI_k (by omega)]; exact wI_s) ⟨wI_s, Nat.zero_le _, fun i hi => absurd hi (Nat.not_lt_zero i)⟩ ((rf_.wI (by omega)).tr (rf_.wI (by omega)))
theorem r_firstCovered (h0 : is10 g k) (h : rr_ M k s) (hI : Inv s) : kX10_firstCovered k g M (fun v M' => v = oN (cvI s) ∧ (∀ i, cvI s = some i → pr_ M' k (exr (sL s) i).2.1) ∧ rr_ M' k s ∧ rf_ k M M') := by
  have h48 := hI.L48
  obtain ⟨Q, eQ⟩ : ∃ Q : Int32 → mj_M → Prop, Q = (fun v M' => v = oN (cvI s) ∧ (∀ i, cvI s = some i → pr_ M' k (exr (sL s) i).2.1) ∧ rr_ M' k s ∧ rf_ k M M') := ⟨_, rfl⟩
  rw [← eQ]
  have key : ∀ m i, i + m = (sL s).length → (∀ t, t < i → cvB s t = false) → ∀ M1, rr_ M1 k s → rf_ k M M1 → LX10_firstCovered_4 k (-1) (nI i) g M1 Q := by
    intro m
    induction m with
    | zero =>
      intro i hi hno M1 hr hf
      have en := cvI_no (s := s) (fun t ht => hno t (by omega))
      refine bX10_firstCovered_4 h0 ⟨fun _ => ?_, fun hc => absurd (hr.done (by omega)) hc⟩
      rw [eQ, en]
      exact ⟨rfl, fun i e => (by cases e), hr, hf⟩
    | succ m ih =>
      intro i hi hno M1 hr hf
      have hil : i < (sL s).length := by omega
      refine bX10_firstCovered_4 h0 ⟨fun hc => absurd hc (hr.more hil), fun _ => ⟨fun hc => absurd rfl hc, fun _ => ⟨_, r_isCovered h0 hr hI.nice hil, fun v1 M2 hq => ?_⟩⟩⟩
      obtain ⟨rfl, _, q3, q4, q5⟩ := hq
      have hw := ex_wit (L := sL s) (k := i) 11 ((sL s).getD i 0) [] (fun r hr => by cases hr)
      have hw2 : (exr (sL s) i).2.1.length ≤ 11 := Nat.le_trans hw.2 (by decide)
      have h140 := q4.r140
      rw [nI_1]
      refine ⟨fun hc => ih (i + 1) (by omega) (ltS hno (by unfold cvB; rw [(if01 _).1.mp hc]; rfl)) M2 q4 (hf.tr q5), fun hc => ?_⟩
      rw [q4.r, q3.1, nI_add, show (120 : Int32) = nI 120 from rfl, nI_ltI (by decide) (by omega)]
      refine ⟨fun hx => ih (i + 1) (by omega) (ltS hno (by unfold cvB; rw [decide_eq_false (by omega)]; simp)) M2 q4 (hf.tr q5), fun hx => ?_⟩
      have hle : (sR s).length + (exr (sL s) i).2.1.length ≤ 120 := by omega
      have eI : cvI s = some i := cvI_at hil hno (by unfold cvB; rw [(if01 _).2.mp hc, decide_eq_true hle]; rfl)
      have fin : Q (nI i) M2 := by
        rw [eQ]
        refine ⟨by rw [eI]; rfl, fun i2 e => ?_, q4, hf.tr q5⟩
        rw [eI] at e; cases e; exact q3
      exact bX10_firstCovered_4 h0 ⟨fun _ => fin, fun _ => ⟨fun _ => fin, fun e => absurd e (nI_m1 (by omega))⟩⟩
  exact eX10_firstCovered h0 (key (sL s).length 0 (by omega) (fun t ht => absurd ht (Nat.not_lt_zero t)) M h rf_.rf)
theorem r_covers (h0 : is10 g k) (h : rr_ M k s) (hI : Inv s) : kX10_covers k g M (fun v M' => rr_ M' k (it covF 2000 s).1 ∧ v = nI (it covF 2000 s).2 ∧ rf_ k M M') := by
  have key : ∀ n s M1 c, (sL s).length < n → Inv s → rr_ M1 k s → (∀ i, cvI s = some i → pr_ M1 k (exr (sL s) i).2.1) → rf_ k M M1 → LX10_covers_7 k (nI c) (oN (cvI s)) g M1 (fun v M' => rr_ M' k (it covF n s).1 ∧ v = nI (c + (it covF n s).2) ∧ rf_ k M M') := by
    intro n
    induction n with
    | zero => intro s M1 c hn; omega
    | succ n ih =>
      intro s M1 c hn hI h hP hf
      have h48 := hI.L48
      cases e : cvI s with
      | none =>
        refine bX10_covers_7 h0 ⟨fun _ => ?_, fun hx => absurd rfl hx⟩
        rw [it_none (covF_none e)]
        exact ⟨h, rfl, hf⟩
      | some i =>
        have hP := hP i e
        obtain ⟨_, u1, u2, _⟩ := fdF_some e
        unfold cvB at u2
        simp only [Bool.and_eq_true, decide_eq_true_eq] at u2
        have hil : i < (sL s).length := by omega
        obtain ⟨i1, i2⟩ := covF_inv hI (covF_some e)
        refine bX10_covers_7 h0 ⟨fun hx => absurd hx (nI_m1 (by omega)), fun _ => ⟨_, r_removes h0 h hil, fun M2 hq => ?_⟩⟩
        have pu : ∀ m t, t + m = (exr (sL s) i).2.1.length → ∀ M3, rr_ M3 k (uR (uL s ((sL s).eraseIdx i)) (sR s ++ (exr (sL s) i).2.1.take t)) → pr_ M3 k (exr (sL s) i).2.1 → rf_ k M M3 → LX10_covers_19 k (nI c) (nI t) g M3 (fun v M' => rr_ M' k (it covF (n + 1) s).1 ∧ v = nI (c + (it covF (n + 1) s).2) ∧ rf_ k M M') := by
          intro m
          induction m with
          | zero =>
            intro t ht M3 hr hp hf3
            have hr : rr_ M3 k (cvS s i) := by
              rw [show t = (exr (sL s) i).2.1.length by omega, List.take_length] at hr
              exact hr
            refine bX10_covers_19 h0 ⟨fun _ => ⟨_, r_firstCovered h0 hr i1, fun v4 M4 hq => ?_⟩, fun hc => absurd (by rw [hp.1, show t = (exr (sL s) i).2.1.length by omega]; exact Int32.le_refl _) hc⟩
            obtain ⟨rfl, q2, q3, q4⟩ := hq
            rw [nI_1, it_some (covF_some e)]
            have nx := ih _ M4 (c + 1) (by omega) i1 q3 q2 (hf3.tr q4)
            rw [Nat.add_assoc, Nat.add_comm 1] at nx
            exact nx
          | succ m ihm =>
            intro t ht M3 hr hp hf3
            have htP : t < (exr (sL s) i).2.1.length := by omega
            have h11 := hp.2.1
            refine bX10_covers_19 h0 ⟨fun hc => absurd hc (nlt htP (by omega) hp.1), fun _ => ⟨vp_in_nI (by omega) (by decide), vp_in_nI (by omega) (by decide), ?_⟩⟩
            rw [nI_clamp (by omega), (hp.2.2 t htP).1, (hp.2.2 t htP).2, nI_1]
            refine ⟨_, r_pushes h0 hr (show (sR s ++ (exr (sL s) i).2.1.take t).length < 140 by rw [List.length_append, List.length_take]; omega) _ _, fun M4 hq => ?_⟩
            rw [push_tk htP] at hq
            exact ihm (t + 1) (by omega) M4 hq.1 (hp.fr hq.2) (hf3.tr (hq.2.r (by omega)))
        exact pu _ 0 (Nat.zero_add _) M2 (by rw [List.take_zero, List.append_nil]; exact hq.1) (hP.fr hq.2) (hf.tr (hq.2.r (by omega)))
  refine eX10_covers h0 ⟨_, r_firstCovered h0 h hI, fun v1 M1 hq => ?_⟩
  obtain ⟨rfl, q2, q3, q4⟩ := hq
  have k0 := key 2000 s M1 0 (by have := hI.L48; omega) hI q3 q2 q4
  rw [Nat.zero_add] at k0
  exact k0
end CV3
