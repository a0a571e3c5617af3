/-! COVERED CLAUSES: the class -/
def xp_ (M : mj_M) (ke : Nat) (P : List (Int32 × Int32)) : Prop := cl_ M (ke + 1) 11 (P.map Prod.fst) ∧ P.length ≤ 11 ∧ ∀ i, i < P.length → M.1 (ke + 3) i = (P.getD i (0, 0)).2
theorem xp_.fr {M M' : mj_M} {ke lo hi : Nat} {P : List (Int32 × Int32)} (h : xp_ M ke P) (hf : fr_ lo hi M M') (hk : ke + 4 ≤ lo ∨ hi ≤ ke + 1) : xp_ M' ke P := ⟨h.1.fr hf (by omega), h.2.1, fun i hi => by rw [hf.1 (ke + 3) (by omega)]; exact h.2.2 i hi⟩
theorem cs_fin {L : List Int32} (hn : nice L) {k l : Nat} {E : Int32} (hl : l < 20) : (cs L k E l L.length = -1 ↔ cma L k E l = -1) ∧ (¬ cma L k E l = -1 → (cs L k E l L.length &&& (E ^^^ (-1))) &&& (bi (fl l) ^^^ (-1)) = cma L k E l &&& (E ^^^ (-1))) := by
  have hf := fl32 hl
  cases ha : anA (cvP L k E l) L.length with
  | false =>
    obtain ⟨h1, h2⟩ := cm_no ha
    exact ⟨⟨fun _ => h1, fun _ => h2⟩, fun h => absurd h1 h⟩
  | true =>
    obtain ⟨h1, h2, _⟩ := cm_cs hn hl (Nat.le_refl _) ha
    have hm : bt (cma L k E l) 31 = false := by unfold cma; rw [h1 31 (by decide), h2]; rfl
    refine ⟨⟨fun e => absurd e (m1_bt h2), fun e => absurd e (m1_bt hm)⟩, fun _ => ?_⟩
    refine b_ext (fun b hb => ?_)
    unfold cma
    rw [b_and, b_and, b_and, h1 b hb, b_not hb, b_not hb, b_bi (by omega) hb]
    cases bt (cs L k E l L.length) b <;> cases bt E b <;> cases decide (b = fl l) <;> rfl
theorem or_grow (E c : Int32) : E ||| (c &&& (E ^^^ (-1))) = E ||| c := b_ext (fun b hb => by rw [b_or, b_or, b_and, b_not hb]; cases bt E b <;> cases bt c b <;> rfl)
theorem m1_grow {E : Int32} (h : nc E) : ¬ (-1 : Int32) &&& (E ^^^ (-1)) = 0 := by
  refine bnz.mpr ⟨31, by decide, ?_⟩
  rw [b_and, b_m1 31 (by decide), b_not (by decide), Bool.true_and]
  cases e : bt E 31 with
  | false => rfl
  | true => have := h.2 31 (by decide) e; omega
section CV2
variable {g : mj_S} {M : mj_M} {k ke kt n : Nat} {s : sg} {L : List Int32} {P : List (Int32 × Int32)} {E : Int32}
theorem c_sharedByPartners (h3 : is3 g ke) (h0 : is0 g k n) (h : cl_ M k n L) (hn : nice L) (hE : nc E) (hM : M.1 ke 2 = E) {l j : Nat} (hl : l < 20) (hj : j < L.length) : kX3_sharedByPartners ke k (nI j) (nI l) g M (fun v M' => M' = M ∧ v = if cma L j E l = -1 then -1 else cma L j E l &&& (E ^^^ (-1))) := by
  have hlt := h.lt
  have hf := fl32 hl
  refine eX3_sharedByPartners h3 h0 ⟨_, c_complements _, fun v1 M1 hq => ?_⟩
  obtain ⟨rfl, rfl⟩ := hq
  rw [hM]
  have key : ∀ m i, i + m = L.length → LX3_sharedByPartners_21 ke k n (nI j) (nI l) (ng (E &&& (bi l ^^^ (-1)))) (cs L j E l i) (nI i) g M1 (fun v M' => M' = M1 ∧ v = if cma L j E l = -1 then -1 else cma L j E l &&& (E ^^^ (-1))) := by
    intro m
    induction m with
    | zero =>
      intro i hi
      have ei : i = L.length := by omega
      refine bX3_sharedByPartners_21 h3 h0 ⟨_, c_size h0 h, fun v2 M2 hq => ?_⟩
      obtain ⟨rfl, rfl⟩ := hq
      obtain ⟨f1, f2⟩ := cs_fin (k := j) (E := E) hn hl
      refine ⟨fun _ => ⟨fun hc => ⟨rfl, ?_⟩, fun hc => ⟨rfl, ?_⟩⟩, fun hc => absurd (nI_le (by omega) (by omega)) hc⟩
      · rw [ei, f1] at hc
        rw [hM, xor1 l hl, ei, if_neg hc]; exact f2 hc
      · rw [ei, f1] at hc
        rw [if_pos hc]
    | succ m ih =>
      intro i hi
      have hil : i < L.length := by omega
      have nx := ih (i + 1) (by omega)
      have hcl := clash (x := E) (c := L.getD i 0) hE.1 (hn _ (gd_mem hil)).1 hl
      refine bX3_sharedByPartners_21 h3 h0 ⟨_, c_size h0 h, fun v2 M2 hq => ?_⟩
      obtain ⟨rfl, rfl⟩ := hq
      refine ⟨fun hc => absurd hc (nI_ge hil hlt), fun _ => ⟨_, c_at h0 h (i := i) (by omega), fun v3 M3 hq => ?_⟩⟩
      obtain ⟨rfl, rfl⟩ := hq
      rw [xor1 l hl, nI_1, nI_eq (by omega) (by omega)]
      refine ⟨fun he => ?_, fun he => ⟨_, c_contains _ (show fl l < 32 by omega), fun v4 M4 hq => ?_⟩⟩
      · rw [cs_f (show cvP L j E l i = false by unfold cvP; rw [decide_eq_true he]; rfl)] at nx; exact nx
      · obtain ⟨rfl, rfl⟩ := hq
        refine ⟨fun hc => ?_, fun hc => ⟨fun hd => ?_, fun hd => ?_⟩⟩
        · rw [cs_f (show cvP L j E l i = false by unfold cvP; rw [(if01 _).1.mp hc]; simp)] at nx; exact nx
        · have e : tv ((E &&& (bi l ^^^ (-1))) ||| (L.getD i 0 &&& (bi (fl l) ^^^ (-1)))) = true := by
            cases e : tv ((E &&& (bi l ^^^ (-1))) ||| (L.getD i 0 &&& (bi (fl l) ^^^ (-1)))) with
            | true => rfl
            | false => exact absurd (hcl.mp e) hd
          rw [cs_f (show cvP L j E l i = false by unfold cvP; rw [e]; simp)] at nx; exact nx
        · rw [cs_t (show cvP L j E l i = true by unfold cvP; rw [hcl.mpr hd, (if01 _).2.mp hc, decide_eq_false he]; rfl)] at nx; exact nx
  exact key L.length 0 (by omega)
theorem c_addPair (h3 : is3 g ke) (hP : xp_ M ke P) (hE : M.1 ke 2 = E) (hp : P.length < 11) (l : Nat) : kX3_addPair ke (nI l) g M (fun M' => xp_ M' ke (P ++ [(E, nI l)]) ∧ M'.1 ke = M.1 ke ∧ fr_ ke (ke + 4) M M') := by
  refine eX3_addPair h3 ⟨_, c_size h3.2.1.2 hP.1, fun v1 M1 hq => ?_⟩
  obtain ⟨rfl, rfl⟩ := hq
  rw [List.length_map]
  refine ⟨fun hc => ?_, fun _ => ⟨vp_in_nI hp (by decide), ?_⟩⟩
  · rw [show (11 : Int32) = nI 11 from rfl, nI_leI (by decide) (by omega)] at hc; omega
  · rw [nI_clamp (by omega)]
    have f : fr_ (ke + 3) (ke + 4) M1 (mj_wI M1 (ke + 3) P.length (nI l)) := fr_.wI (by omega) (by omega)
    have e2 : (mj_wI M1 (ke + 3) P.length (nI l)).1 ke 2 = E := by rw [f.1 ke (by omega)]; exact hE
    rw [e2]
    refine ⟨_, c_add h3.2.1.2 (hP.1.fr f (by omega)) (by rw [List.length_map]; exact hp) E, fun M2 hq => ⟨⟨?_, ?_, fun i hi => ?_⟩, (hq.2.1 ke (by omega)).trans (f.1 ke (by omega)), (f.wd (by omega) (by omega)).tr (hq.2.wd (by omega) (by omega))⟩⟩
    · rw [List.map_append]; exact hq.1
    · rw [List.length_append]; show P.length + 1 ≤ 11; omega
    · rw [List.length_append] at hi
      have hi : i < P.length + 1 := hi
      rw [hq.2.1 (ke + 3) (by omega)]
      by_cases e : i = P.length
      · subst e; rw [gdr_last]; exact wI_s
      · rw [gdr_left (by omega), wI_k (by omega)]; exact hP.2.2 i (by omega)
theorem nice_nc (hn : nice L) {j : Nat} (hj : j < L.length) : nc (L.getD j 0) := hn _ (gd_mem hj)
theorem c_extend (h3 : is3 g ke) (h0 : is0 g k n) (h : cl_ M k n L) (hn : nice L) (hd : k + 2 ≤ ke ∨ ke + 4 ≤ k) {j : Nat} (hj : j < L.length) : kX3_find ke k (nI j) g M (fun M' => M'.1 ke 2 = (exr L j).1 ∧ xp_ M' ke (exr L j).2.1 ∧ M'.1 ke 3 = (if (exr L j).2.2 then 1 else 0) ∧ fr_ ke (ke + 4) M M') := by
  have hlt := h.lt
  -- u: the steps that are left; m: the pairs that may come; each round of the document takes at most 20 steps
  have key : ∀ u t m l E P M1, t + u = 240 → m + P.length = 11 → t ≤ 20 * P.length + l → l ≤ 20 → (∀ i, i < l → glP L j E i = false) → P.length ≤ pc E → nc E → M1.1 ke 2 = E → M1.1 ke 3 = 0 → xp_ M1 ke P → fr_ ke (ke + 4) M M1 → LX3_find_26 ke k n (nI j) (nI l) (nI t) g M1 (fun M' => M'.1 ke 2 = (ex L j m E P).1 ∧ xp_ M' ke (ex L j m E P).2.1 ∧ M'.1 ke 3 = (if (ex L j m E P).2.2 then 1 else 0) ∧ fr_ ke (ke + 4) M M') := by
    intro u
    induction u with
    | zero =>
      intro t m l E P M1 ht hm htl hl hno hpc hE e2 e3 hP hf
      have h10 := nc_pc hE
      have el : l = 20 := by omega
      obtain ⟨m', rfl⟩ : ∃ m', m = m' + 1 := ⟨m - 1, by omega⟩
      have en : gl L j E = none := fdF_none' (fun i _ hi => hno i (by omega))
      rw [ex_no en]
      exact bX3_find_26 h3 h0 ⟨fun _ => ⟨e2, hP, e3, hf⟩, fun _ => ⟨fun _ => ⟨e2, hP, e3, hf⟩, fun hc => absurd (by rw [el]; decide) hc⟩⟩
    | succ u ih =>
      intro t m l E P M1 ht hm htl hl hno hpc hE e2 e3 hP hf
      have h10 := nc_pc hE
      obtain ⟨m', rfl⟩ : ∃ m', m = m' + 1 := ⟨m - 1, by omega⟩
      by_cases el : l = 20
      · have en : gl L j E = none := fdF_none' (fun i _ hi => hno i (by omega))
        rw [ex_no en]
        exact bX3_find_26 h3 h0 ⟨fun _ => ⟨e2, hP, e3, hf⟩, fun _ => ⟨fun _ => ⟨e2, hP, e3, hf⟩, fun hc => absurd (by rw [el]; decide) hc⟩⟩
      have hl20 : l < 20 := by omega
      have nx : glP L j E l = false → _ := fun hp => ih (t + 1) (m' + 1) (l + 1) E P M1 (by omega) hm (by omega) (by omega) (fun i hi => by
        by_cases e : i = l
        · rw [e]; exact hp
        · exact hno i (by omega)) hpc hE e2 e3 hP hf
      refine bX3_find_26 h3 h0 ⟨fun hc => ?_, fun _ => ⟨fun hc => ?_, fun _ => ⟨fun hc => absurd e3 hc, fun _ => ?_⟩⟩⟩
      · rw [show (240 : Int32) = nI 240 from rfl, nI_leI (by decide) (by omega)] at hc; omega
      · rw [show (20 : Int32) = nI 20 from rfl, nI_leI (by decide) (by omega)] at hc; omega
      rw [e2]
      refine ⟨_, c_contains _ (show l < 32 by omega), fun v1 M2 hq => ?_⟩
      obtain ⟨rfl, rfl⟩ := hq
      rw [nI_1, nI_1]
      refine ⟨fun hc => ⟨fun hx => absurd rfl hx, fun _ => nx (by unfold glP; rw [(if01 _).1.mp hc]; rfl)⟩, fun hc => ⟨_, c_sharedByPartners h3 h0 (h.fr hf (by omega)) hn hE e2 hl20 hj, fun v3 M3 hq => ?_⟩⟩
      obtain ⟨rfl, rfl⟩ := hq
      have hb : bt E l = true := (if01 _).2.mp hc
      by_cases hm1 : cma L j E l = -1
      · rw [if_pos hm1]
        have hg : glP L j E l = true := by unfold glP; rw [hb, hm1, decide_eq_false (m1_grow hE)]; rfl
        have eg : gl L j E = some l := fdF_some' (Nat.zero_le _) (by omega) hg (fun i _ hi => hno i hi)
        refine ⟨fun _ => ⟨_, c_addPair h3 hP e2 (by omega) l, fun M4 hq => ⟨fun hz => absurd rfl hz, fun _ => ?_⟩⟩, fun hz => absurd hz (by decide)⟩
        have f : fr_ ke (ke + 1) M4 (mj_wI M4 ke 3 1) := fr_.wI (by omega) (by omega)
        have a2 : (mj_wI M4 ke 3 1).1 ke 2 = E := by rw [wI_k (by omega), hq.2.1]; exact e2
        have a3 : (mj_wI M4 ke 3 1).1 ke 3 = 1 := wI_s
        have a4 := hq.1.fr f (by omega)
        have a5 := hf.tr (hq.2.2.tr (f.wd (by omega) (by omega)))
        rw [ex_yes eg hm1]
        exact bX3_find_26 h3 h0 ⟨fun _ => ⟨a2, a4, a3, a5⟩, fun _ => ⟨fun _ => ⟨a2, a4, a3, a5⟩, fun _ => ⟨fun _ => ⟨a2, a4, a3, a5⟩, fun hz => absurd hz (by rw [a3]; decide)⟩⟩⟩
      · rw [if_neg hm1]
        refine ⟨fun hz => ?_, fun hz => nx (by unfold glP; rw [decide_eq_true hz]; simp)⟩
        have hg : glP L j E l = true := by unfold glP; rw [hb, decide_eq_false hz]; rfl
        have eg : gl L j E = some l := fdF_some' (Nat.zero_le _) (by omega) hg (fun i _ hi => hno i hi)
        have h31 : ¬ cma L j E l &&& (E ^^^ (-1)) = -1 := m1_bt (by rw [b_and, (cma_ok hn hl20 hm1).1]; rfl)
        refine ⟨_, c_addPair h3 hP e2 (by omega) l, fun M4 hq => ⟨fun _ => ?_, fun hx => absurd hx h31⟩⟩
        have f : fr_ ke (ke + 1) M4 (mj_wI M4 ke 2 ((M4.1 ke 2) ||| (cma L j E l &&& (E ^^^ (-1))))) := fr_.wI (by omega) (by omega)
        have gp := grow_pc hz
        rw [ex_go eg hm1]
        refine ih (t + 1) m' 0 _ _ _ (by omega) (by rw [List.length_append]; show m' + (P.length + 1) = 11; omega) (by rw [List.length_append]; show t + 1 ≤ 20 * (P.length + 1) + 0; omega) (Nat.zero_le _) (fun i hi => absurd hi (Nat.not_lt_zero i)) (by rw [List.length_append]; show P.length + 1 ≤ _; omega) (grow_nc hn hE hl20 hm1) ?_ ?_ (hq.1.fr f (by omega)) (hf.tr (hq.2.2.tr (f.wd (by omega) (by omega))))
        · rw [wI_s, hq.2.1, e2]; exact or_grow E _
        · rw [wI_k (by omega), hq.2.1]; exact e3
  refine eX3_find h3 h0 ⟨_, c_at h0 h (i := j) (by omega), fun v1 M1 hq => ?_⟩
  obtain ⟨rfl, rfl⟩ := hq
  refine ⟨_, c_clear1 h3.2.1.2 (by decide), fun M2 hq => ?_⟩
  have f : fr_ ke (ke + 1) M1 (mj_wI (mj_wI M1 ke 2 (L.getD j 0)) ke 3 0) := (fr_.wI (by omega) (by omega)).tr (fr_.wI (by omega) (by omega))
  have e0 := hq.2.1 ke (by omega)
  exact key 240 0 11 0 (L.getD j 0) [] M2 (by omega) rfl (Nat.zero_le _) (Nat.zero_le _) (fun i hi => absurd hi (Nat.not_lt_zero i)) (Nat.zero_le _) (nice_nc hn hj) (by rw [e0, wI_k (by omega)]; exact wI_s) (by rw [e0]; exact wI_s) ⟨hq.1, Nat.zero_le _, fun i hi => absurd hi (Nat.not_lt_zero i)⟩ ((f.wd (by omega) (by omega)).tr (hq.2.wd (by omega) (by omega)))
theorem c_witnessAt (h3 : is3 g ke) (hP : xp_ M ke P) {i : Nat} (hi : i < P.length) : kX3_witnessAt ke (nI i) g M (fun v M' => M' = M ∧ v = (P.getD i (0, 0)).2) := by
  have := hP.2.1
  refine eX3_witnessAt h3 ⟨fun hc => absurd hc (nI_pos (by omega)), fun _ => ⟨fun hc => ?_, fun _ => ⟨vp_in_nI (by omega) (by decide), rfl, ?_⟩⟩⟩
  · rw [show (11 : Int32) = nI 11 from rfl, nI_leI (by decide) (by omega)] at hc; omega
  · rw [nI_clamp (by omega)]; exact hP.2.2 i hi
theorem gd_fst {i : Nat} : (P.map Prod.fst).getD i 0 = (P.getD i (0, 0)).1 := by
  rw [List.getD_eq_getElem?_getD, List.getD_eq_getElem?_getD, List.getElem?_map]
  cases P[i]? <;> rfl
theorem push_tk {R : List (Int32 × Int32)} {i : Nat} (hi : i < P.length) : pushS (uR s (R ++ P.take i)) (P.getD i (0, 0)).1 (P.getD i (0, 0)).2 = uR s (R ++ P.take (i + 1)) := by
  rw [tkr_succ hi, ← List.append_assoc]; rfl
theorem cvI_no (h : ∀ t, t < (sL s).length → cvB s t = false) : cvI s = none := fdF_none' (fun t _ ht => h t (by omega))
theorem cvI_at {i : Nat} (hi : i < (sL s).length) (h : ∀ t, t < i → cvB s t = false) (h2 : cvB s i = true) : cvI s = some i := fdF_some' (Nat.zero_le _) (by omega) h2 (fun t _ ht => h t ht)
theorem ltS {p : Nat → Bool} {i : Nat} (h : ∀ t, t < i → p t = false) (h2 : p i = false) : ∀ t, t < i + 1 → p t = false := fun t ht => by
  by_cases e : t = i
  · rw [e]; exact h2
  · exact h t (by omega)
theorem c_removeFirstCovered (ht : is7 g kt) (h0 : is6 g k) (h : rc_ M k s) (hI : Inv s) (hd : k + 10 ≤ kt ∨ kt + 10 ≤ k) : kX7_removeFirstCovered kt k g M (fun v M' => (cvI s = none → rc_ M' k s ∧ v = 0) ∧ (∀ i, cvI s = some i → rc_ M' k (cvS s i) ∧ v = 1) ∧ tf_ k kt M M') := by
  have h48 := hI.L48
  have h3 : is3 g (kt + 4) := ht.2.2.1.2
  obtain ⟨Q, eQ⟩ : ∃ Q : Int32 → mj_M → Prop, Q = (fun v M' => (cvI s = none → rc_ M' k s ∧ v = 0) ∧ (∀ i, cvI s = some i → rc_ M' k (cvS s i) ∧ v = 1) ∧ tf_ k kt M M') := ⟨_, rfl⟩
  rw [← eQ]
  have pu : ∀ i, i < (sL s).length → cvI s = some i → (sR s).length + (exr (sL s) i).2.1.length ≤ 120 → ∀ m t, t + m = (exr (sL s) i).2.1.length → ∀ M1, rc_ M1 k (uR s (sR s ++ (exr (sL s) i).2.1.take t)) → xp_ M1 (kt + 4) (exr (sL s) i).2.1 → tf_ k kt M M1 → LX7_removeFirstCovered_57 kt k (nI i) (nI t) g M1 Q := by
    intro i hi eI h120 m
    induction m with
    | zero =>
      intro t htl M1 hr hP hf
      refine bX7_removeFirstCovered_57 ht h0 ⟨_, c_size h3.2.1.2 hP.1, fun v1 M2 hq => ?_⟩
      obtain ⟨rfl, rfl⟩ := hq
      rw [List.length_map]
      refine ⟨fun _ => ⟨_, c_removeAt h0.2.1.2 hr.2.2.2.1 (i := i) hi, fun M3 hc => ?_⟩, fun hc => absurd (nI_le (by omega) (by omega)) hc⟩
      rw [eQ]
      rw [show t = (exr (sL s) i).2.1.length by omega, List.take_length] at hr
      refine ⟨fun e => (by rw [eI] at e; cases e), fun i2 e => ?_, hf.tr (hc.2.t (by omega))⟩
      rw [eI] at e; cases e
      exact ⟨hr.L hc.2 hc.1, rfl⟩
    | succ m ih =>
      intro t htl M1 hr hP hf
      have htP : t < (exr (sL s) i).2.1.length := by omega
      refine bX7_removeFirstCovered_57 ht h0 ⟨_, c_size h3.2.1.2 hP.1, fun v1 M2 hq => ?_⟩
      obtain ⟨rfl, rfl⟩ := hq
      rw [List.length_map]
      refine ⟨fun hc => absurd hc (nI_ge htP (by omega)), fun _ => ⟨_, c_at h3.2.1.2 hP.1 (i := t) (by omega), fun v3 M3 hq => ?_⟩⟩
      obtain ⟨rfl, rfl⟩ := hq
      refine ⟨_, c_witnessAt h3 hP htP, fun v4 M4 hq => ?_⟩
      obtain ⟨rfl, rfl⟩ := hq
      rw [gd_fst]
      refine ⟨_, c_pushRow h0 hr (show (sR s ++ (exr (sL s) i).2.1.take t).length < 140 by rw [List.length_append, List.length_take]; omega) _ _, fun M5 hq => ?_⟩
      rw [push_tk htP] at hq
      rw [nI_1]
      exact ih (t + 1) (by omega) M5 hq.1 (hP.fr hq.2 (by omega)) (hf.tr (hq.2.t (by omega)))
  have key : ∀ m i, i + m = (sL s).length → (∀ t, t < i → cvB s t = false) → ∀ M1, rc_ M1 k s → tf_ k kt M M1 → LX7_removeFirstCovered_2 kt k (nI i) g M1 Q := by
    intro m
    induction m with
    | zero =>
      intro i hi hno M1 hr hf
      refine bX7_removeFirstCovered_2 ht h0 ⟨_, c_size h0.2.1.2 hr.2.2.2.1, fun v1 M2 hq => ?_⟩
      obtain ⟨rfl, rfl⟩ := hq
      have en := cvI_no (s := s) (fun t ht => hno t (by omega))
      rw [eQ]
      exact ⟨fun _ => ⟨fun _ => ⟨hr, rfl⟩, fun i e => by (rw [en] at e; cases e), hf⟩, fun hc => absurd (nI_le (by omega) (by omega)) hc⟩
    | succ m ih =>
      intro i hi hno M1 hr hf
      have hil : i < (sL s).length := by omega
      refine bX7_removeFirstCovered_2 ht h0 ⟨_, c_size h0.2.1.2 hr.2.2.2.1, fun v1 M2 hq => ?_⟩
      obtain ⟨rfl, rfl⟩ := hq
      refine ⟨fun hc => absurd hc (nI_ge hil (by omega)), fun _ => ⟨_, c_extend h3 h0.2.1.2 hr.2.2.2.1 hI.nice (by omega) hil, fun M3 hq => ?_⟩⟩
      obtain ⟨_, q2, q3, q4⟩ := hq
      have hr3 := hr.fr q4 (by omega)
      have hf3 := hf.tr (q4.t (k := k) (kt := kt) (by omega))
      have hw := ex_wit (L := sL s) (k := i) 11 ((sL s).getD i 0) [] (fun r hr => by cases hr)
      have hw2 : (exr (sL s) i).2.1.length ≤ 11 := Nat.le_trans hw.2 (by decide)
      rw [q3, nI_1]
      refine ⟨fun hc => ?_, fun hc => ⟨_, c_size h3.2.1.2 q2.1, fun v3 M4 hq => ?_⟩⟩
      · exact ih (i + 1) (by omega) (ltS hno (by unfold cvB; rw [(if01 _).1.mp hc]; rfl)) M3 hr3 hf3
      · obtain ⟨rfl, rfl⟩ := hq
        have h140 := hr3.2.2.2.2.2.2.2.2.1
        rw [hr3.2.2.1, List.length_map, nI_add, show (120 : Int32) = nI 120 from rfl, nI_ltI (by decide) (by omega)]
        refine ⟨fun hx => ?_, fun hx => ?_⟩
        · exact ih (i + 1) (by omega) (ltS hno (by unfold cvB; rw [decide_eq_false (by omega)]; simp)) _ hr3 hf3
        · have hle : (sR s).length + (exr (sL s) i).2.1.length ≤ 120 := by omega
          exact pu i hil (cvI_at hil hno (by unfold cvB; rw [(if01 _).2.mp hc, decide_eq_true hle]; rfl)) hle _ 0 (Nat.zero_add _) _ (by rw [List.take_zero, List.append_nil]; exact hr3) q2 hf3
  exact eX7_removeFirstCovered ht h0 (key (sL s).length 0 (by omega) (fun t ht => absurd ht (Nat.not_lt_zero t)) M h tf_.rf)
theorem covF_none (h : cvI s = none) : covF s = none := by unfold covF; rw [h]; rfl
theorem covF_some {i : Nat} (h : cvI s = some i) : covF s = some (cvS s i) := by unfold covF; rw [h]; rfl
theorem c_removeCovered (ht : is7 g kt) (h0 : is6 g k) (h : rc_ M k s) (hI : Inv s) (hd : k + 10 ≤ kt ∨ kt + 10 ≤ k) : kX7_removeCovered kt k g M (fun v M' => rc_ M' k (it covF 2000 s).1 ∧ v = nI (it covF 2000 s).2 ∧ tf_ k kt M M') := by
  refine eX7_removeCovered ht h0 ?_
  have key : ∀ n s M1 c, (sL s).length < n → c + n ≤ 2000 → Inv s → rc_ M1 k s → tf_ k kt M M1 → LX7_removeCovered_4 kt k (nI c) (nI c) g M1 (fun v M' => rc_ M' k (it covF n s).1 ∧ v = nI (c + (it covF n s).2) ∧ tf_ k kt M M') := by
    intro n
    induction n with
    | zero => intro s M1 c hn; omega
    | succ n ih =>
      intro s M1 c hn hc hI h hf
      refine bX7_removeCovered_4 ht h0 ⟨fun hx => ?_, fun _ => ⟨_, c_removeFirstCovered ht h0 h hI hd, fun v1 M2 hq => ?_⟩⟩
      · rw [show (1000000 : Int32) = nI 1000000 from rfl, nI_leI (by decide) (by omega)] at hx; omega
      · cases e : cvI s with
        | none =>
          obtain ⟨q1, rfl⟩ := hq.1 e
          refine ⟨fun hx => absurd rfl hx, fun _ => ?_⟩
          rw [it_none (covF_none e)]
          exact ⟨q1, rfl, hf.tr hq.2.2⟩
        | some i =>
          obtain ⟨q1, rfl⟩ := hq.2.1 i e
          obtain ⟨i1, i2⟩ := covF_inv hI (covF_some e)
          refine ⟨fun _ => ?_, fun hx => absurd hx (by decide)⟩
          rw [nI_1, it_some (covF_some e)]
          have nx := ih _ M2 (c + 1) (by omega) (by omega) i1 q1 (hf.tr hq.2.2)
          rw [Nat.add_assoc, Nat.add_comm 1] at nx
          exact nx
  have k0 := key 2000 s M 0 (by have := hI.L48; omega) (by omega) hI h tf_.rf
  rw [Nat.zero_add] at k0
  exact k0
end CV2
