/-! SUBSTITUTION: the class -/
def tb_ (M : mj_M) (c : Nat) (R : Nat → Int32) : Prop := ∀ a, a < 20 → M.1 c a = R a
theorem tb_.fr {M M' : mj_M} {c lo hi : Nat} {R : Nat → Int32} (h : tb_ M c R) (hf : fr_ lo hi M M') (hk : c < lo ∨ hi ≤ c) : tb_ M' c R := fun a ha => by rw [hf.1 c (by omega)]; exact h a ha
theorem or_as (x y z : Int32) : (x ||| y) ||| z = x ||| (y ||| z) := b_ext (fun i _ => by rw [b_or, b_or, b_or, b_or, Bool.or_assoc])
theorem or_se (x : Int32) : x ||| x = x := b_ext (fun i _ => by rw [b_or, Bool.or_self])
theorem c20 {l : Nat} (h : l < 20) : ¬ (20 : Int32) ≤ nI l := by rw [show (20 : Int32) = nI 20 from rfl]; exact nI_ge h (by decide)
theorem d20 {l : Nat} (h : l = 20) : (20 : Int32) ≤ nI l := by rw [h]; decide
theorem wS_self {R : Nat → Int32} {m : Nat} : wS R m m = R m := by unfold wS; split; exact or_se _; rfl
theorem lS_self {R : Nat → Int32} {f t : Nat} : lS R f t t = R t := by unfold lS; split; exact or_se _; rfl
section SU2
variable {g : mj_S} {M : mj_M} {k ki kt n : Nat} {s : sg} {L : List Int32}
theorem c_addImplications (h4 : is4 g ki) {R : Nat → Int32} (hR : tb_ M (ki + 1) R) (x : Int32) : kX4_addImplications ki x g M (fun M' => tb_ M' (ki + 1) (fun a => if bt x (fl a) = true then R a ||| (x &&& (bi (fl a) ^^^ (-1))) else R a) ∧ fr_ (ki + 1) (ki + 2) M M') := by
  have key : ∀ m l, l + m = 20 → ∀ M1, tb_ M1 (ki + 1) (fun a => if fl a < l ∧ bt x (fl a) = true then R a ||| (x &&& (bi (fl a) ^^^ (-1))) else R a) → fr_ (ki + 1) (ki + 2) M M1 → LX4_addImplications_2 ki x (nI l) g M1 (fun M' => tb_ M' (ki + 1) (fun a => if bt x (fl a) = true then R a ||| (x &&& (bi (fl a) ^^^ (-1))) else R a) ∧ fr_ (ki + 1) (ki + 2) M M') := by
    intro m
    induction m with
    | zero =>
      intro l hl M1 hT hf
      refine bX4_addImplications_2 h4 ⟨fun _ => ⟨fun a ha => ?_, hf⟩, fun hc => absurd (d20 (by omega)) hc⟩
      rw [hT a ha]
      have := fl32 ha
      show (if fl a < l ∧ bt x (fl a) = true then _ else _) = if bt x (fl a) = true then _ else _
      by_cases q : bt x (fl a) = true
      · rw [if_pos q, if_pos ⟨by omega, q⟩]
      · rw [if_neg q, if_neg (fun p => q p.2)]
    | succ m ih =>
      intro l hl M1 hT hf
      have hl20 : l < 20 := by omega
      have hfl := fl32 hl20
      refine bX4_addImplications_2 h4 ⟨fun hc => absurd hc (c20 hl20), fun _ => ⟨_, c_contains _ (show l < 32 by omega), fun v1 M2 hq => ?_⟩⟩
      obtain ⟨rfl, rfl⟩ := hq
      rw [xor1 l hl20, nI_1, nI_clamp (show fl l < 2 ^ 31 by omega)]
      refine ⟨fun hc => ih (l + 1) (by omega) M2 (fun a ha => ?_) hf, fun hc => ⟨fun hx => absurd hx (c20 hfl), fun _ => ⟨vp_in_nI hfl (by decide), vp_in_nI hfl (by decide), ih (l + 1) (by omega) _ (fun a ha => ?_) (hf.tr (fr_.wI (by omega) (by omega)))⟩⟩⟩
      · rw [hT a ha]
        show (if fl a < l ∧ bt x (fl a) = true then _ else _) = if fl a < l + 1 ∧ bt x (fl a) = true then _ else _
        by_cases q : fl a < l ∧ bt x (fl a) = true
        · rw [if_pos q, if_pos ⟨by omega, q.2⟩]
        · rw [if_neg q, if_neg]
          rintro ⟨p1, p2⟩
          by_cases e : fl a = l
          · rw [e, (if01 _).1.mp hc] at p2; cases p2
          · exact q ⟨by omega, p2⟩
      · have hb := (if01 _).2.mp hc
        by_cases e : a = fl l
        · subst e
          rw [wI_s, hT (fl l) hfl]
          show (if fl (fl l) < l ∧ bt x (fl (fl l)) = true then _ else _) ||| _ = if fl (fl l) < l + 1 ∧ bt x (fl (fl l)) = true then _ else _
          rw [fl_fl, if_neg (by omega), if_pos ⟨by omega, hb⟩]
          rfl
        · rw [wI_k (by omega), hT a ha]
          have hne : fl a ≠ l := fun q => e (by rw [← q, fl_fl])
          show (if fl a < l ∧ bt x (fl a) = true then _ else _) = if fl a < l + 1 ∧ bt x (fl a) = true then _ else _
          by_cases q : fl a < l ∧ bt x (fl a) = true
          · rw [if_pos q, if_pos ⟨by omega, q.2⟩]
          · rw [if_neg q, if_neg (fun p => q ⟨by omega, p.2⟩)]
  refine eX4_addImplications h4 (key 20 0 (by omega) M (fun a ha => ?_) fr_.rf)
  rw [hR a ha]
  show _ = if fl a < 0 ∧ bt x (fl a) = true then _ else _
  rw [if_neg (fun p => absurd p.1 (Nat.not_lt_zero _))]
theorem c_implFind (h4 : is4 g ki) (h0 : is0 g k n) (h : cl_ M k n L) (hn : nice L) (hd : k + 2 ≤ ki + 1 ∨ ki + 2 ≤ k) : kX4_find ki k g M (fun M' => tb_ M' (ki + 1) (rch L) ∧ fr_ (ki + 1) (ki + 2) M M') := by
  have hlt := h.lt
  obtain ⟨Q, eQ⟩ : ∃ Q : mj_M → Prop, Q = (fun M' => tb_ M' (ki + 1) (rch L) ∧ fr_ (ki + 1) (ki + 2) M M') := ⟨_, rfl⟩
  rw [← eQ]
  have k4 : ∀ mm (nxt : ∀ M1, tb_ M1 (ki + 1) (wA (R0 L) (mm + 1)) → fr_ (ki + 1) (ki + 2) M M1 → LX4_find_62 ki k n (nI (mm + 1)) g M1 Q), mm < 20 → ∀ m i, i + m = 20 → ∀ M1, tb_ M1 (ki + 1) (fun a => if a < i then wA (R0 L) (mm + 1) a else wA (R0 L) mm a) → fr_ (ki + 1) (ki + 2) M M1 → LX4_find_70 ki k n (nI mm) (nI i) g M1 Q := by
    intro mm nxt hmm m
    induction m with
    | zero =>
      intro i hi M1 hT hf
      refine bX4_find_70 h4 h0 ⟨fun _ => ?_, fun hc => absurd (d20 (by omega)) hc⟩
      rw [nI_1]
      refine nxt M1 (fun a ha => ?_) hf
      rw [hT a ha]; exact if_pos (by omega)
    | succ m ih =>
      intro i hi M1 hT hf
      have hi20 : i < 20 := by omega
      have ri : M1.1 (ki + 1) i = wA (R0 L) mm i := by rw [hT i hi20]; exact if_neg (by omega)
      have rm : M1.1 (ki + 1) mm = wA (R0 L) mm mm := by
        rw [hT mm hmm]
        show (if mm < i then wS (wA (R0 L) mm) mm mm else wA (R0 L) mm mm) = _
        split
        · exact wS_self
        · rfl
      refine bX4_find_70 h4 h0 ⟨fun hc => absurd hc (c20 hi20), fun _ => ⟨vp_in_nI hi20 (by decide), ?_⟩⟩
      rw [nI_clamp (show i < 2 ^ 31 by omega), ri]
      refine ⟨_, c_contains _ (show mm < 32 by omega), fun v1 M2 hq => ?_⟩
      obtain ⟨rfl, rfl⟩ := hq
      rw [nI_1, nI_clamp (show mm < 2 ^ 31 by omega), ri, rm]
      refine ⟨fun hc => ih (i + 1) (by omega) M2 (fun a ha => ?_) hf, fun hc => ⟨vp_in_nI hi20 (by decide), vp_in_nI hmm (by decide), vp_in_nI hi20 (by decide), ih (i + 1) (by omega) _ (fun a ha => ?_) (hf.tr (fr_.wI (by omega) (by omega)))⟩⟩
      · rw [hT a ha]
        show (if a < i then _ else _) = if a < i + 1 then _ else _
        by_cases q : a = i
        · subst q
          rw [if_neg (by omega), if_pos (by omega)]
          show _ = wS (wA (R0 L) mm) mm a
          unfold wS
          rw [if_neg (by rw [(if01 _).1.mp hc]; decide)]
        · by_cases q2 : a < i
          · rw [if_pos q2, if_pos (by omega)]
          · rw [if_neg q2, if_neg (by omega)]
      · by_cases q : a = i
        · subst q
          rw [wI_s]
          show _ = if a < a + 1 then wS (wA (R0 L) mm) mm a else _
          rw [if_pos (by omega)]
          unfold wS
          rw [if_pos ((if01 _).2.mp hc)]
        · rw [wI_k (by omega), hT a ha]
          show (if a < i then _ else _) = if a < i + 1 then _ else _
          by_cases q2 : a < i
          · rw [if_pos q2, if_pos (by omega)]
          · rw [if_neg q2, if_neg (by omega)]
  have k3 : ∀ m i, i + m = 20 → ∀ M1, tb_ M1 (ki + 1) (wA (R0 L) i) → fr_ (ki + 1) (ki + 2) M M1 → LX4_find_62 ki k n (nI i) g M1 Q := by
    intro m
    induction m with
    | zero =>
      intro i hi M1 hT hf
      refine bX4_find_62 h4 h0 ⟨fun _ => ?_, fun hc => absurd (d20 (by omega)) hc⟩
      rw [eQ]
      refine ⟨fun a ha => ?_, hf⟩
      rw [hT a ha, show i = 20 by omega]; exact wA_rch hn ha
    | succ m ih =>
      intro i hi M1 hT hf
      refine bX4_find_62 h4 h0 ⟨fun hc => absurd hc (c20 (by omega)), fun _ => k4 i (ih (i + 1) (by omega)) (by omega) 20 0 (by omega) M1 (fun a ha => ?_) hf⟩
      rw [hT a ha]; exact (if_neg (Nat.not_lt_zero a)).symm
  have k2 : ∀ m i, i + m = L.length → ∀ M1, tb_ M1 (ki + 1) (fun a => bi a ||| eA L a i) → fr_ (ki + 1) (ki + 2) M M1 → LX4_find_25 ki k n (nI i) g M1 Q := by
    intro m
    induction m with
    | zero =>
      intro i hi M1 hT hf
      refine bX4_find_25 h4 h0 ⟨_, c_size h0 (h.fr hf (by omega)), fun v1 M2 hq => ?_⟩
      obtain ⟨rfl, rfl⟩ := hq
      refine ⟨fun _ => k3 20 0 (by omega) M2 (fun a ha => ?_) hf, fun hc => absurd (nI_le (by omega) (by omega)) hc⟩
      rw [hT a ha, show i = L.length by omega]; rfl
    | succ m ih =>
      intro i hi M1 hT hf
      have hil : i < L.length := by omega
      have h1 := h.fr hf (by omega)
      refine bX4_find_25 h4 h0 ⟨_, c_size h0 h1, fun v1 M2 hq => ?_⟩
      obtain ⟨rfl, rfl⟩ := hq
      refine ⟨fun hc => absurd hc (nI_ge hil hlt), fun _ => ⟨_, c_at h0 h1 (i := i) (by omega), fun v2 M3 hq => ?_⟩⟩
      obtain ⟨rfl, rfl⟩ := hq
      refine ⟨_, c_bitCount _, fun v3 M4 hq => ?_⟩
      obtain ⟨rfl, rfl⟩ := hq
      have e2 : nI (pc (L.getD i 0)) = 2 ↔ pc (L.getD i 0) = 2 := nI_eq (b := 2) (by have := pc_le (L.getD i 0); omega) (by decide)
      rw [e2, nI_1]
      refine ⟨fun hp => ih (i + 1) (by omega) M4 (fun a ha => ?_) hf, fun hp => ⟨_, c_at h0 h1 (i := i) (by omega), fun v4 M5 hq => ?_⟩⟩
      · rw [hT a ha]
        show _ = bi a ||| (if (decide (pc (L.getD i 0) = 2) && bt (L.getD i 0) (fl a)) = true then _ else _)
        rw [if_neg (by rw [decide_eq_false hp, Bool.false_and]; decide)]
      · obtain ⟨rfl, rfl⟩ := hq
        refine ⟨_, c_addImplications h4 hT _, fun M6 hq => ih (i + 1) (by omega) M6 (fun a ha => ?_) (hf.tr hq.2)⟩
        rw [hq.1 a ha]
        show (if bt (L.getD i 0) (fl a) = true then _ else _) = bi a ||| (if (decide (pc (L.getD i 0) = 2) && bt (L.getD i 0) (fl a)) = true then _ else _)
        rw [decide_eq_true hp, Bool.true_and]
        split
        · exact or_as _ _ _
        · rfl
  have k1 : ∀ m i, i + m = 20 → ∀ M1, (∀ a, a < i → M1.1 (ki + 1) a = bi a) → fr_ (ki + 1) (ki + 2) M M1 → LX4_find_2 ki k n (nI i) g M1 Q := by
    intro m
    induction m with
    | zero =>
      intro i hi M1 hT hf
      refine bX4_find_2 h4 h0 ⟨fun _ => k2 L.length 0 (Nat.zero_add _) M1 (fun a ha => ?_) hf, fun hc => absurd (d20 (by omega)) hc⟩
      rw [hT a (by omega)]; exact (or_0 _).symm
    | succ m ih =>
      intro i hi M1 hT hf
      refine bX4_find_2 h4 h0 ⟨fun hc => absurd hc (c20 (by omega)), fun _ => ⟨vp_in_nI (by omega) (by decide), ?_⟩⟩
      rw [nI_1, nI_clamp (by omega)]
      refine ih (i + 1) (by omega) _ (fun a ha => ?_) (hf.tr (fr_.wI (by omega) (by omega)))
      by_cases e : a = i
      · subst e; exact wI_s
      · rw [wI_k (by omega)]; exact hT a (by omega)
  exact eX4_find h4 h0 (k1 20 0 (by omega) M (fun a ha => absurd ha (Nat.not_lt_zero a)) fr_.rf)
theorem c_leads (h4 : is4 g ki) {R : Nat → Int32} (hR : tb_ M (ki + 1) R) {a b : Nat} (ha : a < 20) (hb : b < 32) : kX4_leads ki (nI a) (nI b) g M (fun v M' => M' = M ∧ v = if bt (R a) b then 1 else 0) := by
  refine eX4_leads h4 ⟨fun hc => absurd hc (nI_pos (by omega)), fun _ => ⟨fun hc => absurd hc (c20 ha), fun _ => ⟨vp_in_nI ha (by decide), ?_⟩⟩⟩
  rw [nI_clamp (by omega), hR a ha]
  refine ⟨fun hc => ⟨rfl, ?_⟩, fun hc => ⟨rfl, ?_⟩⟩
  · rw [b_and1, b_has hb] at hc; rw [hc]; rfl
  · rw [b_and1, b_has hb] at hc; rw [(Bool.not_eq_false _).mp hc]; rfl
theorem c_lowestEquivalent (h4 : is4 g ki) {R : Nat → Int32} (hR : tb_ M (ki + 1) R) {l : Nat} (hl : l < 20) : kX4_lowestEquivalent ki (nI l) g M (fun v M' => M' = M ∧ v = nI (nm R l)) := by
  have key : ∀ m i, i + m = l → LX4_lowestEquivalent_2 ki (nI l) (nI i) g M (fun v M' => M' = M ∧ v = nI ((fdF (fun o => bt (R l) o && bt (R o) l) m i).getD l)) := by
    intro m
    induction m with
    | zero =>
      intro i hi
      exact bX4_lowestEquivalent_2 h4 ⟨fun _ => ⟨rfl, rfl⟩, fun hc => absurd (nI_le (by omega) (by omega)) hc⟩
    | succ m ih =>
      intro i hi
      have nx := ih (i + 1) (by omega)
      refine bX4_lowestEquivalent_2 h4 ⟨fun hc => absurd hc (nI_ge (by omega) (by omega)), fun _ => ⟨_, c_leads h4 hR hl (show i < 32 by omega), fun v1 M1 hq => ?_⟩⟩
      obtain ⟨rfl, rfl⟩ := hq
      rw [nI_1]
      refine ⟨fun hc => ?_, fun hc => ⟨_, c_leads h4 hR (show i < 20 by omega) (show l < 32 by omega), fun v2 M2 hq => ?_⟩⟩
      · rw [fdF_f (show (bt (R l) i && bt (R i) l) = false by rw [(if01 _).1.mp hc]; rfl)]; exact nx
      · obtain ⟨rfl, rfl⟩ := hq
        refine ⟨fun hd => ?_, fun hd => ⟨rfl, ?_⟩⟩
        · rw [fdF_f (show (bt (R l) i && bt (R i) l) = false by rw [(if01 _).1.mp hd]; simp)]; exact nx
        · rw [fdF_t (show (bt (R l) i && bt (R i) l) = true by rw [(if01 _).2.mp hc, (if01 _).2.mp hd]; rfl)]; rfl
  exact eX4_lowestEquivalent h4 (key l 0 (by omega))
theorem c_replaced (h4 : is4 g ki) (hR : tb_ M (ki + 1) (rch L)) (x : Int32) : kX4_replaced ki x g M (fun v M' => M' = M ∧ v = rn (nmL L) x) := by
  have key : ∀ m l, l + m = 20 → LX4_replaced_4 ki x (rnA (nmL L) x l) (nI l) g M (fun v M' => M' = M ∧ v = rn (nmL L) x) := by
    intro m
    induction m with
    | zero =>
      intro l hl
      exact bX4_replaced_4 h4 ⟨fun _ => ⟨rfl, by rw [show l = 20 by omega]; rfl⟩, fun hc => absurd (d20 (by omega)) hc⟩
    | succ m ih =>
      intro l hl
      have nx := ih (l + 1) (by omega)
      refine bX4_replaced_4 h4 ⟨fun hc => absurd hc (c20 (by omega)), fun _ => ⟨_, c_contains _ (show l < 32 by omega), fun v1 M1 hq => ?_⟩⟩
      obtain ⟨rfl, rfl⟩ := hq
      rw [nI_1]
      refine ⟨fun hc => ?_, fun hc => ⟨_, c_lowestEquivalent h4 hR (show l < 20 by omega), fun v2 M2 hq => ?_⟩⟩
      · rw [rnA_f ((if01 _).1.mp hc)] at nx; exact nx
      · obtain ⟨rfl, rfl⟩ := hq
        rw [rnA_t ((if01 _).2.mp hc)] at nx; exact nx
  exact eX4_replaced h4 (key 20 0 (by omega))
theorem c_hasEq (ht : is7 g kt) (h0 : is6 g k) (h : rc_ M k s) (hR : tb_ M (kt + 9) (rch (sL s))) : kX7_hasEquivalentComplements kt k g M (fun v M' => M' = M ∧ v = if eqB s then 1 else 0) := by
  have hV := h.2.2.2.2.2.2.2.2.2.2
  have h4 : is4 g (kt + 8) := ht.2.2.2.2
  have key : ∀ m i, i + m = sV s → anA (eqV (sL s)) i = false → LX7_hasEquivalentComplements_2 kt k (nI i) g M (fun v M' => M' = M ∧ v = if eqB s then 1 else 0) := by
    intro m
    induction m with
    | zero =>
      intro i hi hno
      refine bX7_hasEquivalentComplements_2 ht h0 ⟨fun _ => ⟨rfl, ?_⟩, fun hc => absurd (by rw [h.1, show i = sV s by omega]; exact Int32.le_refl _) hc⟩
      unfold eqB
      rw [show i = sV s by omega] at hno
      rw [hno]; rfl
    | succ m ih =>
      intro i hi hno
      have nx := ih (i + 1) (by omega)
      rw [anA_s, hno, Bool.false_or] at nx
      refine bX7_hasEquivalentComplements_2 ht h0 ⟨fun hc => absurd hc (nlt (n := sV s) (by omega) (by omega) h.1), fun _ => ?_⟩
      rw [two_nI, nI_1, nI_1]
      refine ⟨_, c_leads h4 hR (show 2 * i < 20 by omega) (show 2 * i + 1 < 32 by omega), fun v1 M1 hq => ?_⟩
      obtain ⟨rfl, rfl⟩ := hq
      refine ⟨fun hc => nx (by unfold eqV; rw [(if01 _).1.mp hc]; rfl), fun hc => ⟨_, c_leads h4 hR (show 2 * i + 1 < 20 by omega) (show 2 * i < 32 by omega), fun v2 M2 hq => ?_⟩⟩
      obtain ⟨rfl, rfl⟩ := hq
      refine ⟨fun hd => nx (by unfold eqV; rw [(if01 _).1.mp hd]; simp), fun hd => ⟨rfl, ?_⟩⟩
      have : eqB s = true := anA_t (i := i) (by omega) (by unfold eqV; rw [(if01 _).2.mp hc, (if01 _).2.mp hd]; rfl)
      rw [this]; rfl
  exact eX7_hasEquivalentComplements ht h0 (key (sV s) 0 (Nat.zero_add _) rfl)
theorem rnL_d {N : Nat → Nat} {i : Nat} (hi : i < L.length) : rnL N (L.drop i) = if tv (rn N (L.getD i 0)) = true then rnL N (L.drop (i + 1)) else rn N (L.getD i 0) :: rnL N (L.drop (i + 1)) := by
  rw [dp_step hi]
  unfold rnL
  rw [List.map_cons]
  split
  · rename_i q; rw [List.filter_cons_of_neg (by rw [q]; decide)]
  · rename_i q; rw [List.filter_cons_of_pos (by show (!tv (rn N (L.getD i 0))) = true; rw [Bool.eq_false_iff.mpr q]; rfl)]
theorem set_tk {X : List Int32} {i : Nat} (h : i < L.length) (y : Int32) : (L.take (i + 1) ++ X).set i y = L.take i ++ y :: X := by
  have hl : (L.take i).length = i := by rw [List.length_take]; omega
  rw [tk_succ h, List.append_assoc, List.set_append_right _ _ (by omega), hl, Nat.sub_self]; rfl
theorem c_replaceLiterals (ht : is7 g kt) (h0 : is0 g k n) (h : cl_ M k n L) (hd : k + 2 ≤ kt ∨ kt + 10 ≤ k) {L0 : List Int32} (hR : tb_ M (kt + 9) (rch L0)) : kX7_replaceLiterals kt k g M (fun M' => cl_ M' k n (rnL (nmL L0) L) ∧ fr_ k (k + 2) M M') := by
  have h4 : is4 g (kt + 8) := ht.2.2.2.2
  have hlt := h.lt
  have key : ∀ i, i ≤ L.length → ∀ M1, cl_ M1 k n (L.take i ++ rnL (nmL L0) (L.drop i)) → fr_ k (k + 2) M M1 → LX7_replaceLiterals_7 kt k n (nI i - 1) g M1 (fun M' => cl_ M' k n (rnL (nmL L0) L) ∧ fr_ k (k + 2) M M') := by
    intro i
    induction i with
    | zero =>
      intro _ M1 h1 hf
      exact bX7_replaceLiterals_7 ht h0 ⟨fun _ => ⟨h1, hf⟩, fun hc => absurd m1lt hc⟩
    | succ i ih =>
      intro hi M1 h1 hf
      have hil : i < L.length := by omega
      have hlen : i < (L.take (i + 1) ++ rnL (nmL L0) (L.drop (i + 1))).length := by rw [List.length_append, List.length_take]; omega
      rw [nI_pred]
      refine bX7_replaceLiterals_7 ht h0 ⟨fun hc => absurd hc (nI_pos (by omega)), fun _ => ⟨_, c_at h0 h1 (i := i) (by omega), fun v1 M2 hq => ?_⟩⟩
      obtain ⟨rfl, rfl⟩ := hq
      rw [gd_tk_app hil]
      refine ⟨_, c_replaced h4 (hR.fr hf (by omega)) _, fun v2 M3 hq => ?_⟩
      obtain ⟨rfl, rfl⟩ := hq
      refine ⟨_, c_hasComplementary _, fun v3 M4 hq => ?_⟩
      obtain ⟨rfl, rfl⟩ := hq
      rw [m1']
      have nx := ih (by omega)
      rw [rnL_d hil] at nx
      refine ⟨fun hc => ⟨_, c_put h0 h1 hlen _, fun M5 hq => ?_⟩, fun hc => ⟨_, c_removeAt h0 h1 hlen, fun M5 hq => ?_⟩⟩
      · rw [set_tk hil] at hq
        rw [if_neg (by rw [(if01 _).1.mp hc]; decide)] at nx
        exact nx M5 hq.1 (hf.tr hq.2)
      · rw [er_tk hil] at hq
        rw [if_pos ((if01 _).2.mp hc)] at nx
        exact nx M5 hq.1 (hf.tr hq.2)
  refine eX7_replaceLiterals ht h0 ⟨_, c_size h0 h, fun v1 M1 hq => ?_⟩
  obtain ⟨rfl, rfl⟩ := hq
  refine key L.length (Nat.le_refl _) M1 ?_ fr_.rf
  rw [List.take_length, List.drop_length]
  show cl_ M1 k n (L ++ [])
  rw [List.append_nil]; exact h
theorem c_substituteAll (ht : is7 g kt) (h0 : is6 g k) (h : rc_ M k s) (hI : Inv s) (hd : k + 10 ≤ kt ∨ kt + 10 ≤ k) : kX7_substituteAll kt k g M (fun v M' => rc_ M' k (sbs s).1 ∧ v = nI (sbs s).2 ∧ tf_ k kt M M') := by
  have hV := hI.V10
  have hn := hI.nice
  have h4 : is4 g (kt + 8) := ht.2.2.2.2
  refine eX7_substituteAll ht h0 ⟨_, c_implFind h4 h0.2.1.2 h.2.2.2.1 hn (by omega), fun M1 hq => ?_⟩
  obtain ⟨q1, q2⟩ := hq
  have h1 := h.fr q2 (by omega)
  have t1 : tf_ k kt M M1 := q2.t (by omega)
  refine ⟨_, c_hasEq ht h0 h1 q1, fun v2 M2 hq => ?_⟩
  obtain ⟨rfl, rfl⟩ := hq
  refine ⟨fun hc => ?_, fun hc => ⟨_, c_collapse h0.2.1.2 h1.2.2.2.1 (by decide), fun M3 hq => ?_⟩⟩
  · have eB := (if01 _).1.mp hc
    rw [sbs_f eB]
    have key : ∀ m v s1 c, v + m = sV s → Iw s1 → sV s1 = sV s → sL s1 = sL s → ∀ M3, rc_ M3 k s1 → tb_ M3 (kt + 9) (rch (sL s)) → tf_ k kt M M3 → LX7_substituteAll_32 kt k (nI c) (nI v) g M3 (fun r M' => rc_ M' k (uL (sbA (nmL (sL s)) m v s1 c).1 (rnL (nmL (sL s)) (sL s))) ∧ r = nI (sbA (nmL (sL s)) m v s1 c).2 ∧ tf_ k kt M M') := by
      intro m
      induction m with
      | zero =>
        intro v s1 c hv hw eV eL M3 h3 hT hf
        refine bX7_substituteAll_32 ht h0 ⟨fun _ => ⟨_, c_replaceLiterals ht h0.2.1.2 h3.2.2.2.1 (by omega) hT, fun M4 hq => ?_⟩, fun hx => absurd (by rw [h3.1, eV, show v = sV s by omega]; exact Int32.le_refl _) hx⟩
        rw [eL] at hq
        exact ⟨h3.L hq.2 hq.1, rfl, hf.tr (hq.2.t (by omega))⟩
      | succ m ih =>
        intro v s1 c hv hw eV eL M3 h3 hT hf
        have hv10 : v < 10 := by omega
        refine bX7_substituteAll_32 ht h0 ⟨fun hx => absurd hx (nlt (n := sV s) (by omega) (by omega) (by rw [h3.1, eV])), fun _ => ?_⟩
        rw [two_nI]
        refine ⟨_, c_lowestEquivalent h4 hT (show 2 * v < 20 by omega), fun v4 M4 hq => ?_⟩
        obtain ⟨rfl, rfl⟩ := hq
        refine ⟨_, c_isActive h0 h3 hv10, fun v5 M5 hq => ?_⟩
        obtain ⟨rfl, rfl⟩ := hq
        have hN : nm (rch (sL s)) (2 * v) = nmL (sL s) (2 * v) := rfl
        have h20 := nm_20 (L := sL s) (l := 2 * v) (by omega)
        rw [hN, nI_1, nI_1, nI_eq (by omega) (by omega)]
        by_cases ha : sS s1 v = 0
        · rw [if_pos ha]
          refine ⟨fun hx => absurd hx (by decide), fun _ => ⟨fun he => ?_, fun he => ?_⟩⟩
          · rw [sbA_f (by unfold sbC; rw [decide_eq_true he]; simp)]
            exact ih (v + 1) s1 c (by omega) hw eV eL M5 h3 hT hf
          · have eC : sbC (nmL (sL s)) s1 v = true := by unfold sbC; rw [decide_eq_true ha, decide_eq_false he]; rfl
            obtain ⟨w1, w2⟩ := sb1_w (N := nmL (sL s)) hw hv10 ha
            rw [xor1 _ h20]
            refine ⟨_, c_pairOf, fun v6 M6 hq => ?_⟩
            obtain ⟨rfl, rfl⟩ := hq
            refine ⟨_, c_pushRow h0 h3 (by omega) _ _, fun M7 p7 => ?_⟩
            rw [nI_1]
            refine ⟨_, c_pairOf, fun v8 M8 hq => ?_⟩
            obtain ⟨rfl, rfl⟩ := hq
            refine ⟨_, c_pushRow h0 p7.1 (show (sR s1 ++ [_]).length < 140 by rw [List.length_append]; show (sR s1).length + 1 < 140; omega) _ _, fun M9 p9 => ⟨_, c_retire h0 p9.1 hv10 _ _, fun M10 p10 => ?_⟩⟩
            rw [sbA_t eC]
            have fall := (p7.2.tr p9.2).tr p10.2
            exact ih (v + 1) (sb1 (nmL (sL s)) s1 v) (c + 1) (by omega) w1 eV eL M10 p10.1 (hT.fr fall (by omega)) (hf.tr (fall.t (by omega)))
        · rw [if_neg ha]
          refine ⟨fun _ => ?_, fun hx => absurd rfl hx⟩
          rw [sbA_f (by unfold sbC; rw [decide_eq_false ha]; rfl)]
          exact ih (v + 1) s1 c (by omega) hw eV eL M5 h3 hT hf
    exact key (sV s) 0 s 0 (Nat.zero_add _) hI.w rfl rfl M2 h1 q1 t1
  · rw [sbs_t ((if01 _).2.mp hc)]
    exact ⟨h1.L hq.2 hq.1, rfl, t1.tr (hq.2.t (by omega))⟩
end SU2
