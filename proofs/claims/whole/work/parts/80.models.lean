/-! extend, unsatisfied, predict, bestTechnique -/
def sat (L : List Int32) (a : Int32) : Bool := L.all (fun c => !decide (c &&& tl a = 0))
def A_extend (o : ob) (x : Int32) : res := if inS (sV o.1) x = true then (0, if sat (sL o.1) x = true then recon o.1 x else -1, o) else (1, 0, o)
theorem ext_1 {o : ob} {x : Int32} (h : inS (sV o.1) x = false) : A_extend o x = (1, 0, o) := if_neg (by rw [h]; decide)
theorem ext_0 {o : ob} {x : Int32} (h : inS (sV o.1) x = true) : A_extend o x = (0, if sat (sL o.1) x = true then recon o.1 x else -1, o) := if_pos h
def A_unsatisfied (o : ob) (x : Int32) : res := if inS (sV o.1) x = true then (0, nI ((sO o.1).countP (fun c => decide (c &&& tl x = 0))), o) else (1, 0, o)
theorem uns_1 {o : ob} {x : Int32} (h : inS (sV o.1) x = false) : A_unsatisfied o x = (1, 0, o) := if_neg (by rw [h]; decide)
theorem uns_0 {o : ob} {x : Int32} (h : inS (sV o.1) x = true) : A_unsatisfied o x = (0, nI ((sO o.1).countP (fun c => decide (c &&& tl x = 0))), o) := if_pos h
section MOD
variable {g : mj_S} {M : mj_M} {k : Nat} {o : ob}
theorem c_reqAssignment (h0 : is9s g k) (h : CR M k o) (x : Int32) : kX9_requireAssignment k x g M (fun M' => M' = M ∧ inS (sV o.1) x = true) (fun X M' => M' = M ∧ X = mj_IA ∧ inS (sV o.1) x = false) := by
  have hV : sV o.1 ≤ 10 := h.1.2.2.2.2.2.2.2.2.2.2
  have no : ¬ (0 ≤ x ∧ x ≤ bi (sV o.1) - 1) → inS (sV o.1) x = false := fun q => by
    cases e : inS (sV o.1) x with
    | false => rfl
    | true => exact absurd ((inS_r hV).mpr e) q
  refine eX9_requireAssignment h0.1 ⟨fun hx => ⟨rfl, rfl, no (fun q => neg_le.mpr q.1 hx)⟩, fun hx => ⟨_, c_allVariables (S9 h0) h.1, fun v M1 hq => ?_⟩⟩
  obtain ⟨rfl, rfl⟩ := hq
  exact ⟨fun hl => ⟨rfl, (inS_r hV).mp ⟨neg_le.mp hx, hl⟩⟩, fun hl => ⟨rfl, rfl, no (fun q => hl q.2)⟩⟩
theorem r_isAssignment (h0 : is10 g k) (h : RR M k o) (x : Int32) : kX10_isAssignment k x g M (fun v M' => M' = M ∧ v = if inS (sV o.1) x then 1 else 0) := by
  have hV := h.1.V10
  refine eX10_isAssignment h0 ?_
  rw [h.1.V]
  refine ⟨_, r_in, fun v M1 hq => ⟨?_, hq.1, ?_⟩⟩
  · rw [hq.2]; exact p01 _
  · rw [hq.2]
    by_cases q : inS (sV o.1) x = true
    · rw [if_pos q]; exact if_pos ((inS_r hV).mpr q)
    · rw [if_neg q]; exact if_neg (fun p => q ((inS_r hV).mp p))
theorem c_extend2 (h0 : is9s g k) (h : CR M k o) (x : Int32) : kX9_extend k x g M (cq (A_extend o x) k M) (cx (A_extend o x) k M mj_IA mj_IA) := by
  refine eX9_extend h0.1 ⟨_, _, c_reqAssignment h0 h x, fun X M' hq => ?_, fun M1 hq => ?_⟩
  · obtain ⟨rfl, rfl, e⟩ := hq; exact cx_1 h (ext_1 e)
  · obtain ⟨rfl, e⟩ := hq
    refine ⟨_, c_trueLiterals x, fun v M2 hq => ?_⟩
    obtain ⟨rfl, rfl⟩ := hq
    refine ⟨_, c_isSatisfied (S9 h0).2.1.2 h.1.2.2.2.1 _, fun v M3 hq => ?_⟩
    obtain ⟨rfl, rfl⟩ := hq
    refine ⟨fun hs => ⟨_, c_reconstruct (S9 h0) h.1 x, fun v M4 hq => ?_⟩, fun hs => cq_o h ((ext_0 e).trans ?_)⟩
    · obtain ⟨rfl, rfl⟩ := hq
      refine cq_o h ((ext_0 e).trans ?_)
      rw [if_pos (show sat (sL o.1) x = true from (if01 _).2.mp hs)]
    · rw [if_neg (show ¬ sat (sL o.1) x = true from by rw [show sat (sL o.1) x = false from (if01 _).1.mp hs]; decide)]
theorem r_extend2 (h0 : is10 g k) (h : RR M k o) (hI : Inv o.1) (x : Int32) : kX10_extend k x g M (rq (A_extend o x) k M) := by
  refine eX10_extend h0 ⟨_, r_isAssignment h0 h x, fun v M1 hq => ?_⟩
  obtain ⟨rfl, rfl⟩ := hq
  refine ⟨fun hc => ⟨_, r_isModel h0 h.1 x, fun v M2 hq => ?_⟩, fun hc => r_fail (r := A_extend o x) h0 h gf_.rf 1 (ext_1 ((if01 _).1.mp hc)) (fun _ _ h => h)⟩
  have e := (if01 _).2.mp hc
  obtain ⟨rfl, rfl⟩ := hq
  refine ⟨fun hs => r_tell (r := A_extend o x) h0 h gf_.rf _ ((ext_0 e).trans ?_) (fun _ _ h => h), fun hs => ⟨_, r_extendedBy h0 h.1 hI.wit x, fun v M3 hq => ?_⟩⟩
  · rw [if_neg (show ¬ sat (sL o.1) x = true from by rw [show sat (sL o.1) x = false from (if01 _).1.mp hs]; decide)]
  · obtain ⟨rfl, rfl⟩ := hq
    refine r_tell (r := A_extend o x) h0 h gf_.rf _ ((ext_0 e).trans ?_) (fun _ _ h => h)
    rw [if_pos (show sat (sL o.1) x = true from (if01 _).2.mp hs)]
theorem c_unsatisfied (h0 : is9s g k) (h : CR M k o) (x : Int32) : kX9_unsatisfied k x g M (cq (A_unsatisfied o x) k M) (cx (A_unsatisfied o x) k M mj_IA mj_IA) := by
  refine eX9_unsatisfied h0.1 ⟨_, _, c_reqAssignment h0 h x, fun X M' hq => ?_, fun M1 hq => ?_⟩
  · obtain ⟨rfl, rfl, e⟩ := hq; exact cx_1 h (uns_1 e)
  · obtain ⟨rfl, e⟩ := hq
    refine ⟨_, c_trueLiterals x, fun v M2 hq => ?_⟩
    obtain ⟨rfl, rfl⟩ := hq
    refine ⟨_, c_countFalsified (S9 h0).2.2.1.2 h.1.2.2.2.2.1 _, fun v M3 hq => ?_⟩
    obtain ⟨rfl, rfl⟩ := hq
    exact cq_o h (uns_0 e)
theorem r_unsatisfied (h0 : is10 g k) (h : RR M k o) (x : Int32) : kX10_unsatisfied k x g M (rq (A_unsatisfied o x) k M) := by
  refine eX10_unsatisfied h0 ⟨_, r_isAssignment h0 h x, fun v M1 hq => ?_⟩
  obtain ⟨rfl, rfl⟩ := hq
  refine ⟨fun hc => r_fail (r := A_unsatisfied o x) h0 h gf_.rf 1 (uns_1 ((if01 _).1.mp hc)) (fun _ _ h => h), fun hc => ⟨_, r_missed h0 h.1 x, fun v M2 hq => ?_⟩⟩
  have e := (if01 _).2.mp hc
  obtain ⟨rfl, rfl⟩ := hq
  exact r_tell (r := A_unsatisfied o x) h0 h gf_.rf _ (uns_0 e) (fun _ _ h => h)
/-! a trial -/
theorem c_trial (h0 : is9s g k) (h : CR M k o) (hI : Inv o.1) {t : Nat} (ht : t < 10) {q : mj_M → Prop} (hq : ∀ M', CR M' k o → rc_ M' (k + 11) (ap1 t o.1) → gf_ k (k + 98) M M' → q M') : ∃ q2 : mj_M → Prop, kX6_copyFrom (k + 11) (k + 1) g M q2 ∧ ∀ M2, q2 M2 → (∃ q3 : Int32 → mj_M → Prop, kX7_perform (k + 88) (k + 11) (nI t) g M2 q3 ∧ ∀ v3 M3, q3 v3 M3 → q M3) := by
  have hT6 : is6 g (k + 11) := h0.1.2.2.1.2
  obtain ⟨t0, ht0⟩ := h.2.1
  refine ⟨_, c_copyState hT6 (S9 h0) ht0 h.1 (by omega), fun M2 hq2 => ⟨_, c_perform (T9 h0) hT6 hq2.1 hI (by omega) ht, fun v M3 hq3 => ?_⟩⟩
  obtain ⟨q1, _, q3⟩ := hq3
  have kf : kf_ k M M3 := (hq2.2.k (by omega)).tr q3.k2
  refine hq M3 (h.kf kf ?_ ⟨_, q1⟩) q1 kf.g
  refine (h.1.fr hq2.2 (by omega)).c (fun a a1 a2 => q3.2 a (by omega) (by omega))
def A_predict (o : ob) (x : Int32) (p : Bool) : res := qA (ix 10 x) (fun t => if p then nI (lits (sL (dt t o.1).1)) else nI (sL (dt t o.1).1).length) o
theorem c_predict (h0 : is9s g k) (h : CR M k o) (hI : Inv o.1) (x : Int32) (p : Bool) : kX9_predict k x (if p then 1 else 0) g M (cq (A_predict o x p) k M) (cx (A_predict o x p) k M mj_IA mj_IA) := by
  have hT6 : is6 g (k + 11) := h0.1.2.2.1.2
  refine eX9_predict h0.1 ⟨_, _, c_reqTechnique h0 x, fun X M' hq => ?_, fun M1 hq => ?_⟩
  · obtain ⟨rfl, rfl, e⟩ := hq; exact cx_1 h (qA_n e)
  · obtain ⟨rfl, t, ht, rfl, e⟩ := hq
    refine c_trial h0 h hI ht (fun M3 a1 a2 a3 => ?_)
    have er : A_predict o (nI t) p = (0, if p then nI (lits (sL (dt t o.1).1)) else nI (sL (dt t o.1).1).length, o) := qA_s e
    refine ⟨fun hp => ⟨_, c_size hT6.2.1.2 a2.2.2.2.1, fun v M4 hq => ?_⟩, fun hp => ⟨_, c_countLiterals hT6.2.1.2 a2.2.2.2.1, fun v M4 hq => ?_⟩⟩
    · obtain ⟨rfl, rfl⟩ := hq
      rw [er, (if01 _).1.mp hp]
      exact ⟨rfl, rfl, a1, a3⟩
    · obtain ⟨rfl, rfl⟩ := hq
      rw [er, (if01 _).2.mp hp]
      exact ⟨rfl, rfl, a1, a3⟩
theorem r_predicted (h0 : is10 g k) (h : RR M k o) (hI : Inv o.1) {t : Nat} (ht : t < 10) : kX10_predicted k (nI t) g M (fun v M' => v = nI (lits (sL (dt t o.1).1)) ∧ M'.1 k 26 = nI (sL (dt t o.1).1).length ∧ RR M' k o ∧ gf_ k (k + 12) M M') := by
  obtain ⟨Q, eQ⟩ : ∃ Q : Int32 → mj_M → Prop, Q = (fun v M' => v = nI (lits (sL (dt t o.1).1)) ∧ M'.1 k 26 = nI (sL (dt t o.1).1).length ∧ RR M' k o ∧ gf_ k (k + 12) M M') := ⟨_, rfl⟩
  rw [← eQ]
  have back : ∀ m i M1, i + m = 395 → (∀ j, j < 395 → M1.1 (k + 3) j = M.1 (k + 1) j) → (∀ j, j < i → M1.1 (k + 1) j = M.1 (k + 1) j) → M1.1 (k + 2) = M.1 (k + 2) → M1.1 (k + 4) = M.1 (k + 4) → M1.1 k 3 = M.1 k 3 → M1.1 k 5 = M.1 k 5 → M1.1 k 26 = nI (sL (dt t o.1).1).length → gf_ k (k + 12) M M1 → LX10_predicted_52 k (nI (lits (sL (dt t o.1).1))) (nI i) g M1 Q := by
    intro m
    induction m with
    | zero =>
      intro i M1 hi a1 a2 a3 a4 a5 a6 a7 a8
      have hi : i = 395 := by omega
      subst hi
      refine bX10_predicted_52 h0 ⟨fun _ => ?_, fun hc => absurd (by decide) hc⟩
      rw [eQ]
      exact ⟨rfl, a7, h.c (s' := o.1) (ra_.c h.1 a2) a3 a4 a5 a6, a8⟩
    | succ m ih =>
      intro i M1 hi a1 a2 a3 a4 a5 a6 a7 a8
      refine bX10_predicted_52 h0 ⟨fun hc => ?_, fun _ => ⟨vp_in_nI (by omega) (by decide), vp_in_nI (by omega) (by decide), ?_⟩⟩
      · rw [show (395 : Int32) = nI 395 from rfl, nI_leI (by decide) (by omega)] at hc; omega
      · rw [nI_clamp (show i < 2 ^ 31 by omega), nI_1]
        have f : fr_ (k + 1) (k + 2) M1 (mj_wI M1 (k + 1) i (M1.1 (k + 3) i)) := fr_.wI (by omega) (by omega)
        refine ih (i + 1) _ (by omega) (fun j hj => by rw [f.1 (k + 3) (by omega)]; exact a1 j hj) (fun j hj => ?_) (by rw [f.1 _ (by omega)]; exact a3) (by rw [f.1 _ (by omega)]; exact a4) (by rw [f.1 k (by omega)]; exact a5) (by rw [f.1 k (by omega)]; exact a6) (by rw [f.1 k (by omega)]; exact a7) (a8.tr (f.wd (by omega) (by omega)).g)
        by_cases e : j = i
        · subst e; rw [wI_s]; exact a1 j (by omega)
        · rw [wI_k (by omega)]; exact a2 j (by omega)
  have forth : ∀ m i M1, i + m = 395 → (∀ j, j < i → M1.1 (k + 3) j = M.1 (k + 1) j) → fr_ (k + 3) (k + 4) M M1 → LX10_predicted_2 k (nI t) (nI i) g M1 Q := by
    intro m
    induction m with
    | zero =>
      intro i M1 hi a1 a2
      have hi : i = 395 := by omega
      subst hi
      have h1 : rr_ M1 k o.1 := h.1.fr a2 (by omega)
      refine bX10_predicted_2 h0 ⟨fun _ => ⟨_, r_does h0 h1 hI ht, fun v M2 hq => ?_⟩, fun hc => absurd (by decide) hc⟩
      obtain ⟨q1, _, q3⟩ := hq
      refine ⟨_, r_lengths h0 q1, fun v M3 hq => ?_⟩
      obtain ⟨rfl, rfl⟩ := hq
      rw [q1.n]
      have fw : fr_ k (k + 1) M3 (mj_wI M3 k 26 (nI (sL (dt t o.1).1).length)) := fr_.wI (by omega) (by omega)
      refine back 395 0 _ (by omega) (fun j hj => ?_) (fun j hj => absurd hj (Nat.not_lt_zero j)) ?_ ?_ ?_ ?_ wI_s ?_
      · rw [fw.1 _ (by omega), q3.2.1 _ (by omega)]; exact a1 j hj
      · rw [fw.1 _ (by omega), q3.2.1 _ (by omega), a2.1 _ (by omega)]
      · rw [fw.1 _ (by omega), q3.2.1 _ (by omega), a2.1 _ (by omega)]
      · rw [wI_k (by omega), q3.2.2 3 (by decide), a2.1 k (by omega)]
      · rw [wI_k (by omega), q3.2.2 5 (by decide), a2.1 k (by omega)]
      · exact ((a2.wd (by omega) (by omega)).g.tr q3.g).tr (fw.wd (by omega) (by omega)).g
    | succ m ih =>
      intro i M1 hi a1 a2
      refine bX10_predicted_2 h0 ⟨fun hc => ?_, fun _ => ⟨vp_in_nI (by omega) (by decide), vp_in_nI (by omega) (by decide), ?_⟩⟩
      · rw [show (395 : Int32) = nI 395 from rfl, nI_leI (by decide) (by omega)] at hc; omega
      · rw [nI_clamp (show i < 2 ^ 31 by omega), nI_1]
        refine ih (i + 1) _ (by omega) (fun j hj => ?_) (a2.tr (fr_.wI (by omega) (by omega)))
        by_cases e : j = i
        · subst e; rw [wI_s, a2.1 (k + 1) (by omega)]
        · rw [wI_k (by omega)]; exact a1 j (by omega)
  exact eX10_predicted h0 (forth 395 0 M (by omega) (fun j hj => absurd hj (Nat.not_lt_zero j)) fr_.rf)
theorem r_predict (h0 : is10 g k) (h : RR M k o) (hI : Inv o.1) (x : Int32) (p : Bool) : kX10_predict k x (if p then 1 else 0) g M (rq (A_predict o x p) k M) := by
  refine eX10_predict h0 ⟨_, r_isTechnique x, fun v1 M1 hq => ?_⟩
  obtain ⟨rfl, rfl⟩ := hq
  rcases ix_cs (n := 10) (by decide) x with ⟨e, _⟩ | ⟨t, ht, rfl, e⟩
  · rw [e]; exact ⟨fun hc => absurd rfl hc, fun _ => r_fail (r := A_predict o x p) h0 h gf_.rf 1 (qA_n e) (fun _ _ h => h)⟩
  · rw [e]
    have er : A_predict o (nI t) p = (0, if p then nI (lits (sL (dt t o.1).1)) else nI (sL (dt t o.1).1).length, o) := qA_s e
    refine ⟨fun _ => ⟨_, r_predicted h0 h hI ht, fun v M2 hq => ?_⟩, fun hc => absurd hc s1⟩
    obtain ⟨rfl, q2, q3, q4⟩ := hq
    rw [q2]
    refine ⟨fun hp => r_tell (r := A_predict o (nI t) p) h0 q3 q4 _ (er.trans ?_) (fun _ _ h => h), fun hp => r_tell (r := A_predict o (nI t) p) h0 q3 q4 _ (er.trans ?_) (fun _ _ h => h)⟩
    · rw [(if01 _).1.mp hp]; rfl
    · rw [(if01 _).2.mp hp]; rfl
/-! the best one -/
def sc (s : sg) (t : Nat) : Nat := 100 * lits (sL (dt t s).1) + (sL (dt t s).1).length
def bb (s : sg) : Nat → Nat
  | 0 => 0
  | i + 1 => if sc s (i + 1) < sc s (bb s i) then i + 1 else bb s i
theorem bb_t {s : sg} {i : Nat} (h : sc s (i + 1) < sc s (bb s i)) : bb s (i + 1) = i + 1 := if_pos h
theorem bb_f {s : sg} {i : Nat} (h : ¬ sc s (i + 1) < sc s (bb s i)) : bb s (i + 1) = bb s i := if_neg h
theorem bb_le {s : sg} : ∀ i, bb s i ≤ i
  | 0 => Nat.le_refl _
  | i + 1 => by
    have := bb_le (s := s) i
    show (if sc s (i + 1) < sc s (bb s i) then i + 1 else bb s i) ≤ i + 1
    split <;> omega
theorem sc_lits {s : sg} (hI : Inv s) (t : Nat) : lits (sL (dt t s).1) ≤ 1536 ∧ (sL (dt t s).1).length ≤ 48 := by
  have h48 := (dt_inv hI t).1.L48
  have := lits_le (sL (dt t s).1)
  omega
theorem c_bestTechnique (h0 : is9s g k) (h : CR M k o) (hI : Inv o.1) : kX9_bestTechnique k g M (cq (0, nI (bb o.1 9), o) k M) := by
  have hT6 : is6 g (k + 11) := h0.1.2.2.1.2
  have key : ∀ m i M1, i + m = 9 → CR M1 k o → gf_ k (k + 98) M M1 → LX9_bestTechnique_13 k (nI (bb o.1 i)) (nI (lits (sL (dt (bb o.1 i) o.1).1))) (nI (sL (dt (bb o.1 i) o.1).1).length) (nI (i + 1)) g M1 (cq (0, nI (bb o.1 9), o) k M) := by
    intro m
    induction m with
    | zero =>
      intro i M1 hi h1 hg
      refine bX9_bestTechnique_13 h0.1 ⟨fun _ => ⟨rfl, by rw [show i = 9 by omega], h1, hg⟩, fun hc => absurd (by rw [show i = 9 by omega]; decide) hc⟩
    | succ m ih =>
      intro i M1 hi h1 hg
      refine bX9_bestTechnique_13 h0.1 ⟨fun hc => ?_, fun _ => c_trial h0 h1 hI (show i + 1 < 10 by omega) (fun M3 a1 a2 a3 => ?_)⟩
      · rw [show (10 : Int32) = nI 10 from rfl, nI_leI (by decide) (by omega)] at hc; omega
      refine ⟨_, c_countLiterals hT6.2.1.2 a2.2.2.2.1, fun v M4 hq => ?_⟩
      obtain ⟨rfl, rfl⟩ := hq
      refine ⟨_, c_size hT6.2.1.2 a2.2.2.2.1, fun v M5 hq => ?_⟩
      obtain ⟨rfl, rfl⟩ := hq
      have b1 := sc_lits hI (i + 1)
      have b2 := sc_lits hI (bb o.1 i)
      show (nI (lits (sL (dt (i + 1) o.1).1)) < _ → LX9_bestTechnique_13 k (nI (i + 1)) (nI (lits (sL (dt (i + 1) o.1).1))) (nI (sL (dt (i + 1) o.1).1).length) (nI (i + 1) + 1) g M5 _) ∧ (¬ nI (lits (sL (dt (i + 1) o.1).1)) < _ → (¬ nI (lits (sL (dt (i + 1) o.1).1)) = _ → _) ∧ (nI (lits (sL (dt (i + 1) o.1).1)) = _ → (_ ≤ nI (sL (dt (i + 1) o.1).1).length → _) ∧ (¬ _ ≤ nI (sL (dt (i + 1) o.1).1).length → LX9_bestTechnique_13 k (nI (i + 1)) (nI (lits (sL (dt (i + 1) o.1).1))) (nI (sL (dt (i + 1) o.1).1).length) (nI (i + 1) + 1) g M5 _)))
      rw [nI_ltI (by omega) (by omega), nI_eq (by omega) (by omega), nI_leI (by omega) (by omega), nI_1]
      have nx := ih (i + 1) M5 (by omega) a1 (hg.tr a3)
      have yes : sc o.1 (i + 1) < sc o.1 (bb o.1 i) → LX9_bestTechnique_13 k (nI (i + 1)) (nI (lits (sL (dt (i + 1) o.1).1))) (nI (sL (dt (i + 1) o.1).1).length) (nI (i + 1 + 1)) g M5 (cq (0, nI (bb o.1 9), o) k M) := fun hs => by rw [bb_t hs] at nx; exact nx
      have non : ¬ sc o.1 (i + 1) < sc o.1 (bb o.1 i) → LX9_bestTechnique_13 k (nI (bb o.1 i)) (nI (lits (sL (dt (bb o.1 i) o.1).1))) (nI (sL (dt (bb o.1 i) o.1).1).length) (nI (i + 1 + 1)) g M5 (cq (0, nI (bb o.1 9), o) k M) := fun hs => by rw [bb_f hs] at nx; exact nx
      refine ⟨fun q => yes (by unfold sc; omega), fun q => ⟨fun q2 => non (by unfold sc; omega), fun q2 => ⟨fun q3 => non (by unfold sc; omega), fun q3 => yes (by unfold sc; omega)⟩⟩⟩
  refine eX9_bestTechnique h0.1 ?_
  refine bX9_bestTechnique_13 h0.1 ⟨fun hc => absurd hc (by decide), fun _ => c_trial h0 h hI (t := 0) (by decide) (fun M3 a1 a2 a3 => ?_)⟩
  refine ⟨_, c_countLiterals hT6.2.1.2 a2.2.2.2.1, fun v M4 hq => ?_⟩
  obtain ⟨rfl, rfl⟩ := hq
  refine ⟨_, c_size hT6.2.1.2 a2.2.2.2.1, fun v M5 hq => ?_⟩
  obtain ⟨rfl, rfl⟩ := hq
  have b1 := sc_lits hI 0
  refine ⟨fun _ => key 9 0 M5 (by omega) a1 a3, fun hc => absurd ?_ hc⟩
  show nI (lits (sL (dt 0 o.1).1)) < nI 2147483647
  exact nI_lt (by omega) (by decide)
theorem r_bestTechnique (h0 : is10 g k) (h : RR M k o) (hI : Inv o.1) : kX10_bestTechnique k g M (rq (0, nI (bb o.1 9), o) k M) := by
  have val : ∀ t, (100 : Int32) * nI (lits (sL (dt t o.1).1)) + nI (sL (dt t o.1).1).length = nI (sc o.1 t) := fun t => by rw [show (100 : Int32) = nI 100 from rfl, pk_mul, nI_add]; rfl
  have scb : ∀ t, sc o.1 t < 2 ^ 31 := fun t => by have := sc_lits hI t; unfold sc; omega
  have key : ∀ m i M1, i + m = 9 → RR M1 k o → gf_ k (k + 12) M M1 → LX10_bestTechnique_6 k (nI (bb o.1 i)) (nI (sc o.1 (bb o.1 i))) (nI (i + 1)) g M1 (rq (0, nI (bb o.1 9), o) k M) := by
    intro m
    induction m with
    | zero =>
      intro i M1 hi h1 hg
      refine bX10_bestTechnique_6 h0 ⟨fun _ => r_tell (r := (0, nI (bb o.1 9), o)) h0 h1 hg _ (by rw [show i = 9 by omega]) (fun _ _ h => h), fun hc => absurd (by rw [show i = 9 by omega]; decide) hc⟩
    | succ m ih =>
      intro i M1 hi h1 hg
      have hle := bb_le (s := o.1) i
      refine bX10_bestTechnique_6 h0 ⟨fun hc => ?_, fun _ => ⟨_, r_predicted h0 h1 hI (show i + 1 < 10 by omega), fun v M2 hq => ?_⟩⟩
      · rw [show (10 : Int32) = nI 10 from rfl, nI_leI (by decide) (by omega)] at hc; omega
      obtain ⟨rfl, q2, q3, q4⟩ := hq
      rw [q2, val, nI_leI (scb _) (scb _), nI_1]
      have nx := ih (i + 1) M2 (by omega) q3 (hg.tr q4)
      refine ⟨fun hc => absurd hc (nI_m1 (by omega)), fun _ => ⟨fun q => ?_, fun q => ?_⟩⟩
      · rw [bb_f (by omega)] at nx; exact nx
      · rw [bb_t (by omega)] at nx; exact nx
  refine eX10_bestTechnique h0 (bX10_bestTechnique_6 h0 ⟨fun hc => absurd hc (by decide), fun _ => ⟨_, r_predicted h0 h hI (t := 0) (by decide), fun v M2 hq => ?_⟩⟩)
  obtain ⟨rfl, q2, q3, q4⟩ := hq
  rw [q2, val]
  exact ⟨fun _ => key 9 0 M2 (by omega) q3 q4, fun hc => absurd rfl hc⟩
end MOD
