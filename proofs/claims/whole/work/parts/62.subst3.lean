/-! SUBSTITUTION: the reference -/
section SU3
variable {g : mj_S} {M : mj_M} {k : Nat} {s : sg}
theorem r_leads (h0 : is10 g k) {R : Nat → Int32} (hR : tb_ M (k + 10) R) {f t : Nat} (hf20 : f < 20) (ht20 : t < 20) : kX10_leads k (nI f) (nI t) g M (fun M' => tb_ M' (k + 10) (lS R f t) ∧ fr_ (k + 10) (k + 11) M M') := by
  have key : ∀ m i, i + m = 20 → ∀ M1, tb_ M1 (k + 10) (fun a => if a < i then lS R f t a else R a) → fr_ (k + 10) (k + 11) M M1 → LX10_leads_2 k (nI f) (nI t) (nI i) g M1 (fun M' => tb_ M' (k + 10) (lS R f t) ∧ fr_ (k + 10) (k + 11) M M') := by
    intro m
    induction m with
    | zero =>
      intro i hi M1 hT hf
      refine bX10_leads_2 h0 ⟨fun _ => ⟨fun a ha => ?_, hf⟩, fun hc => absurd (d20 (by omega)) hc⟩
      rw [hT a ha]; exact if_pos (by omega)
    | succ m ih =>
      intro i hi M1 hT hf
      have hi20 : i < 20 := by omega
      have ri : M1.1 (k + 10) i = R i := by rw [hT i hi20]; exact if_neg (by omega)
      have rt : M1.1 (k + 10) t = R t := by
        rw [hT t ht20]
        show (if t < i then lS R f t t else R t) = R t
        split
        · exact lS_self
        · rfl
      have hin : vp_in (nI i) 20 := vp_in_nI hi20 (by decide)
      refine bX10_leads_2 h0 ⟨fun hc => absurd hc (c20 hi20), fun _ => ⟨hin, hin, ?_⟩⟩
      rw [nI_clamp (show i < 2 ^ 31 by omega), ri]
      refine ⟨_, r_has _ (show f < 32 by omega), fun v1 M2 hq => ?_⟩
      obtain ⟨rfl, rfl⟩ := hq
      rw [nI_1, nI_clamp (show t < 2 ^ 31 by omega), rt]
      have put : ∀ y, y = lS R f t i → LX10_leads_2 k (nI f) (nI t) (nI (i + 1)) g (mj_wI M2 (k + 10) i y) (fun M' => tb_ M' (k + 10) (lS R f t) ∧ fr_ (k + 10) (k + 11) M M') := fun y ey => by
        refine ih (i + 1) (by omega) _ (fun a ha => ?_) (hf.tr (fr_.wI (by omega) (by omega)))
        by_cases q : a = i
        · subst q
          rw [wI_s, ey]; exact (if_pos (by omega)).symm
        · rw [wI_k (by omega), hT a ha]
          show (if a < i then _ else _) = if a < i + 1 then _ else _
          by_cases q2 : a < i
          · rw [if_pos q2, if_pos (by omega)]
          · rw [if_neg q2, if_neg (by omega)]
      refine ⟨fun hc => ⟨hin, put _ ?_⟩, fun hc => ⟨vp_in_nI ht20 (by decide), hin, put _ ?_⟩⟩
      · rw [or_0]; unfold lS; rw [if_neg (by rw [(if01 _).1.mp hc]; decide)]
      · unfold lS; rw [if_pos ((if01 _).2.mp hc)]
  refine eX10_leads h0 (key 20 0 (by omega) M (fun a ha => ?_) fr_.rf)
  rw [hR a ha]; exact (if_neg (Nat.not_lt_zero a)).symm
theorem r_named (h0 : is10 g k) {R : Nat → Int32} (hR : tb_ M (k + 10) R) {l : Nat} (hl : l < 20) : kX10_named k (nI l) g M (fun v M' => M' = M ∧ v = nI (nm R l)) := by
  have key : ∀ i, i ≤ l + 1 → ∀ f, f = (fdF (fun o => bt (R l) o && bt (R o) l) (l - i) i).getD l → LX10_named_4 k (nI l) (nI f) (nI i - 1) g M (fun v M' => M' = M ∧ v = nI (nm R l)) := by
    intro i
    induction i with
    | zero =>
      intro _ f ef
      refine bX10_named_4 h0 ⟨fun _ => ⟨rfl, ?_⟩, fun hc => absurd m1lt hc⟩
      rw [ef]; rfl
    | succ i ih =>
      intro hi f ef
      have nx := ih (by omega)
      rw [nI_pred]
      have hstep : ∀ f', ((bt (R l) i && bt (R i) l) = true ∧ f' = i) ∨ ((bt (R l) i && bt (R i) l) = false ∧ f' = f) → f' = (fdF (fun o => bt (R l) o && bt (R o) l) (l - i) i).getD l := by
        intro f' hh
        by_cases e : i = l
        · subst e
          rw [Nat.sub_self]
          show f' = i
          rcases hh with q | q
          · exact q.2
          · rw [q.2, ef, show i - (i + 1) = 0 by omega]; rfl
        · rw [show l - i = (l - (i + 1)) + 1 by omega]
          rcases hh with q | q
          · rw [fdF_t (p := fun o => bt (R l) o && bt (R o) l) q.1]; exact q.2
          · rw [fdF_f (p := fun o => bt (R l) o && bt (R o) l) q.1, q.2]; exact ef
      refine bX10_named_4 h0 ⟨fun hc => absurd hc (nI_pos (by omega)), fun _ => ⟨vp_in_nI hl (by decide), ?_⟩⟩
      rw [nI_clamp (show l < 2 ^ 31 by omega), hR l hl]
      refine ⟨_, r_has _ (show i < 32 by omega), fun v1 M1 hq => ?_⟩
      obtain ⟨rfl, rfl⟩ := hq
      rw [m1']
      refine ⟨fun hc => nx f (hstep f (Or.inr ⟨by rw [(if01 _).1.mp hc]; rfl, rfl⟩)), fun hc => ⟨vp_in_nI (show i < 20 by omega) (by decide), ?_⟩⟩
      rw [nI_clamp (show i < 2 ^ 31 by omega), hR i (by omega)]
      refine ⟨_, r_has _ (show l < 32 by omega), fun v2 M2 hq => ?_⟩
      obtain ⟨rfl, rfl⟩ := hq
      refine ⟨fun hd => nx f (hstep f (Or.inr ⟨by rw [(if01 _).1.mp hd]; simp, rfl⟩)), fun hd => nx i (hstep i (Or.inl ⟨by rw [(if01 _).2.mp hc, (if01 _).2.mp hd]; rfl, rfl⟩))⟩
  refine eX10_named h0 ?_
  have k0 := key (l + 1) (Nat.le_refl _) l (by rw [show l - (l + 1) = 0 by omega]; rfl)
  rw [nI_pred] at k0
  exact k0
theorem lw_lt {x : Int32} (h : l20 x) (hz : x ≠ 0) : lw x < 20 := h _ (lw_ok hz).1 (lw_ok hz).2.1
theorem r_reaches (h0 : is10 g k) (h : rr_ M k s) (hn : nice (sL s)) : kX10_reaches k g M (fun M' => rr_ M' k s ∧ tb_ M' (k + 10) (rch (sL s)) ∧ (∀ l, l < 20 → M'.1 (k + 11) l = nI (nmL (sL s) l)) ∧ fr_ (k + 10) (k + 12) M M') := by
  obtain ⟨Q, eQ⟩ : ∃ Q : mj_M → Prop, Q = (fun M' => rr_ M' k s ∧ tb_ M' (k + 10) (rch (sL s)) ∧ (∀ l, l < 20 → M'.1 (k + 11) l = nI (nmL (sL s) l)) ∧ fr_ (k + 10) (k + 12) M M') := ⟨_, rfl⟩
  rw [← eQ]
  have k4 : ∀ m i, i + m = 20 → ∀ M1, tb_ M1 (k + 10) (rch (sL s)) → (∀ l, l < i → M1.1 (k + 11) l = nI (nmL (sL s) l)) → fr_ (k + 10) (k + 12) M M1 → LX10_reaches_108 k (nI i) g M1 Q := by
    intro m
    induction m with
    | zero =>
      intro i hi M1 hT hN hf
      refine bX10_reaches_108 h0 ⟨fun _ => ?_, fun hc => absurd (d20 (by omega)) hc⟩
      rw [eQ]
      exact ⟨h.fr hf (by omega), hT, fun l hl => hN l (by omega), hf⟩
    | succ m ih =>
      intro i hi M1 hT hN hf
      refine bX10_reaches_108 h0 ⟨fun hc => absurd hc (c20 (by omega)), fun _ => ⟨_, r_named h0 hT (show i < 20 by omega), fun v1 M2 hq => ⟨vp_in_nI (show i < 20 by omega) (by decide), ?_⟩⟩⟩
      obtain ⟨rfl, rfl⟩ := hq
      rw [nI_1, nI_clamp (show i < 2 ^ 31 by omega)]
      have f : fr_ (k + 11) (k + 12) M2 (mj_wI M2 (k + 11) i (nI (nm (rch (sL s)) i))) := fr_.wI (by omega) (by omega)
      refine ih (i + 1) (by omega) _ (hT.fr f (by omega)) (fun l hl => ?_) (hf.tr (f.wd (by omega) (by omega)))
      by_cases e : l = i
      · subst e; exact wI_s
      · rw [wI_k (by omega)]; exact hN l (by omega)
  have k3 : ∀ r (nxt : ∀ M1, tb_ M1 (k + 10) (lR (sL s) (r + 1)) → fr_ (k + 10) (k + 12) M M1 → LX10_reaches_25 k (nI (r + 1)) g M1 Q), ∀ m i, i + m = (sL s).length → ∀ M1, tb_ M1 (k + 10) (lP (sL s) (lR (sL s) r) i) → fr_ (k + 10) (k + 12) M M1 → LX10_reaches_33 k (nI r) (nI i) g M1 Q := by
    intro r nxt m
    induction m with
    | zero =>
      intro i hi M1 hT hf
      refine bX10_reaches_33 h0 ⟨fun _ => ?_, fun hc => absurd ((h.fr hf (by omega)).done (by omega)) hc⟩
      rw [nI_1]
      refine nxt M1 ?_ hf
      rw [show i = (sL s).length by omega] at hT; exact hT
    | succ m ih =>
      intro i hi M1 hT hf
      have hil : i < (sL s).length := by omega
      have h1 := h.fr hf (by omega)
      refine bX10_reaches_33 h0 ⟨fun hc => absurd hc (h1.more hil), fun _ => ⟨_, r_clauseAt h0 h1 hil, fun v1 M2 hq => ?_⟩⟩
      obtain ⟨rfl, rfl⟩ := hq
      refine ⟨_, r_bits _, fun v2 M3 hq => ?_⟩
      obtain ⟨rfl, rfl⟩ := hq
      have e2 : nI (pc ((sL s).getD i 0)) = 2 ↔ pc ((sL s).getD i 0) = 2 := nI_eq (b := 2) (by have := pc_le ((sL s).getD i 0); omega) (by decide)
      rw [e2, nI_1]
      have lPs : lP (sL s) (lR (sL s) r) (i + 1) = l2 ((sL s).getD i 0) (lP (sL s) (lR (sL s) r) i) := rfl
      refine ⟨fun hp => ih (i + 1) (by omega) M3 ?_ hf, fun hp => ?_⟩
      · rw [lPs]; unfold l2; rw [if_neg hp]; exact hT
      · obtain ⟨a, b, ha, hb, _, z1, z2, e1, e3, hh⟩ := pc_two hp
        have h20 := nice20 hn i
        have a20 := h20 a ha ((hh a ha).mpr (Or.inl rfl))
        have b20 := h20 b hb ((hh b hb).mpr (Or.inr rfl))
        refine ⟨_, r_lowest1 z1, fun v4 M4 hq => ?_⟩
        obtain ⟨rfl, rfl⟩ := hq
        refine ⟨_, r_lowest1 z2, fun v5 M5 hq => ?_⟩
        obtain ⟨rfl, rfl⟩ := hq
        rw [e1, e3, xor1 a a20, xor1 b b20]
        refine ⟨_, r_leads h0 hT (fl32 a20) b20, fun M6 q6 => ⟨_, r_leads h0 q6.1 (fl32 b20) a20, fun M7 q7 => ih (i + 1) (by omega) M7 ?_ ((hf.tr (q6.2.wd (by omega) (by omega))).tr (q7.2.wd (by omega) (by omega)))⟩⟩
        rw [lPs]; unfold l2; rw [if_pos hp, e1, e3]; exact q7.1
  have k2 : ∀ m r, r + m = 20 → ∀ M1, tb_ M1 (k + 10) (lR (sL s) r) → fr_ (k + 10) (k + 12) M M1 → LX10_reaches_25 k (nI r) g M1 Q := by
    intro m
    induction m with
    | zero =>
      intro r hr M1 hT hf
      refine bX10_reaches_25 h0 ⟨fun _ => k4 20 0 (by omega) M1 (fun a ha => ?_) (fun l hl => absurd hl (Nat.not_lt_zero l)) hf, fun hc => absurd (d20 (by omega)) hc⟩
      rw [hT a ha, show r = 20 by omega]; exact lR_rch hn ha
    | succ m ih =>
      intro r hr M1 hT hf
      exact bX10_reaches_25 h0 ⟨fun hc => absurd hc (c20 (by omega)), fun _ => k3 r (ih (r + 1) (by omega)) (sL s).length 0 (Nat.zero_add _) M1 hT hf⟩
  have k1 : ∀ m i, i + m = 20 → ∀ M1, (∀ a, a < i → M1.1 (k + 10) a = bi a) → fr_ (k + 10) (k + 12) M M1 → LX10_reaches_2 k (nI i) g M1 Q := by
    intro m
    induction m with
    | zero =>
      intro i hi M1 hT hf
      exact bX10_reaches_2 h0 ⟨fun _ => k2 20 0 (by omega) M1 (fun a ha => hT a (by omega)) hf, fun hc => absurd (d20 (by omega)) hc⟩
    | succ m ih =>
      intro i hi M1 hT hf
      refine bX10_reaches_2 h0 ⟨fun hc => absurd hc (c20 (by omega)), fun _ => ⟨vp_in_nI (by omega) (by decide), ?_⟩⟩
      rw [nI_1, nI_clamp (by omega)]
      refine ih (i + 1) (by omega) _ (fun a ha => ?_) (hf.tr (fr_.wI (by omega) (by omega)))
      by_cases e : a = i
      · subst e; exact wI_s
      · rw [wI_k (by omega)]; exact hT a (by omega)
  exact eX10_reaches h0 (k1 20 0 (by omega) M (fun a ha => absurd ha (Nat.not_lt_zero a)) fr_.rf)
theorem r_renamed (h0 : is10 g k) {N : Nat → Nat} (hN : ∀ l, l < 20 → M.1 (k + 11) l = nI (N l)) (x : Int32) : kX10_renamed k x g M (fun v M' => M' = M ∧ v = rn N x) := by
  have key : ∀ m l, l + m = 20 → LX10_renamed_4 k x (rnA N x l) (nI l) g M (fun v M' => M' = M ∧ v = rn N x) := by
    intro m
    induction m with
    | zero =>
      intro l hl
      exact bX10_renamed_4 h0 ⟨fun _ => ⟨rfl, by rw [show l = 20 by omega]; rfl⟩, fun hc => absurd (d20 (by omega)) hc⟩
    | succ m ih =>
      intro l hl
      have nx := ih (l + 1) (by omega)
      refine bX10_renamed_4 h0 ⟨fun hc => absurd hc (c20 (by omega)), fun _ => ⟨_, r_has _ (show l < 32 by omega), fun v1 M1 hq => ?_⟩⟩
      obtain ⟨rfl, rfl⟩ := hq
      rw [nI_1, or_0, nI_clamp (show l < 2 ^ 31 by omega), hN l (by omega)]
      refine ⟨fun hc => ?_, fun hc => ⟨vp_in_nI (show l < 20 by omega) (by decide), ?_⟩⟩
      · rw [rnA_f ((if01 _).1.mp hc)] at nx; exact nx
      · rw [rnA_t ((if01 _).2.mp hc)] at nx; exact nx
  exact eX10_renamed h0 (key 20 0 (by omega))
theorem rnL_tk {L : List Int32} {N : Nat → Nat} {i : Nat} (hi : i < L.length) : rnL N (L.take (i + 1)) = if tv (rn N (L.getD i 0)) = true then rnL N (L.take i) else rnL N (L.take i) ++ [rn N (L.getD i 0)] := by
  rw [tk_succ hi]
  unfold rnL
  rw [List.map_append, List.filter_append, show [L.getD i 0].map (rn N) = [rn N (L.getD i 0)] from rfl]
  split
  · rename_i q; rw [List.filter_cons_of_neg (by rw [q]; decide)]; exact List.append_nil _
  · rename_i q; rw [List.filter_cons_of_pos (by show (!tv (rn N (L.getD i 0))) = true; rw [Bool.eq_false_iff.mpr q]; rfl)]; rfl
theorem rnL_le {L : List Int32} {N : Nat → Nat} : (rnL N L).length ≤ L.length := by
  unfold rnL
  exact Nat.le_trans (List.length_filter_le _ _) (by rw [List.length_map]; exact Nat.le_refl _)
theorem two_sh' {v : Nat} (hv : v < 10) : (2 : Int32) <<< (nI (2 * v) &&& 31) = bi (2 * v + 1) := two_sh v hv
theorem r_substitutes (h0 : is10 g k) (h : rr_ M k s) (hI : Inv s) (hbr : sL s ≠ [0]) : kX10_substitutes k g M (fun v M' => rr_ M' k (sbs s).1 ∧ v = nI (sbs s).2 ∧ rf_ k M M') := by
  have hV := hI.V10
  have hn := hI.nice
  have h48 := hI.L48
  obtain ⟨N, eN⟩ : ∃ N, N = nmL (sL s) := ⟨_, rfl⟩
  have hN20 : ∀ l, l < 20 → N l < 20 := fun l hl => by rw [eN]; exact nm_20 hl
  refine eX10_substitutes h0 ⟨_, r_reaches h0 h hn, fun M1 hq => ?_⟩
  obtain ⟨q1, _, q3, q4⟩ := hq
  rw [← eN] at q3
  have t1 : rf_ k M M1 := q4.r (by omega)
  -- the list
  have lst : ∀ s1 c, sL s1 = sL s → ∀ Mb, rr_ Mb k s1 → (∀ l, l < 20 → Mb.1 (k + 11) l = nI (N l)) → rf_ k M Mb → LX10_substitutes_164 k (nI c) 0 0 g Mb (fun r M' => rr_ M' k (uL s1 (rnL N (sL s))) ∧ r = nI c ∧ rf_ k M M') := by
    intro s1 c eL Mb hb hNb hfb
    have key : ∀ m i, i + m = (sL s).length → ∀ M3, M3.1 (k + 1) 65 = nI (sL s).length → (∀ t, t < (rnL N ((sL s).take i)).length → M3.1 (k + 1) (66 + t) = (rnL N ((sL s).take i)).getD t 0) → (∀ t, i ≤ t → t < (sL s).length → M3.1 (k + 1) (66 + t) = (sL s).getD t 0) → (∀ b, b < 65 ∨ 114 ≤ b → M3.1 (k + 1) b = Mb.1 (k + 1) b) → fr_ (k + 1) (k + 2) Mb M3 → LX10_substitutes_164 k (nI c) (nI (rnL N ((sL s).take i)).length) (nI i) g M3 (fun r M' => rr_ M' k (uL s1 (rnL N (sL s))) ∧ r = nI c ∧ rf_ k M M') := by
      intro m
      induction m with
      | zero =>
        intro i hi M3 a1 a2 a3 a4 a5
        have le := rnL_le (L := sL s) (N := N)
        rw [tk_all (by omega)] at a2 ⊢
        refine bX10_substitutes_164 h0 ⟨fun _ => ⟨?_, rfl, (hfb.tr (a5.r (by omega))).tr (rf_.wI (by omega))⟩, fun hc => absurd (by rw [t65, a1, show i = (sL s).length by omega]; exact Int32.le_refl _) hc⟩
        unfold rr_
        rw [wI_row, t65]
        refine ra_L hb (by simp [upd]) (by omega) (fun t ht => ?_) (fun j hj => ?_)
        · rw [pk_un (by omega)]; exact a2 t ht
        · rw [pk_un (by omega)]; exact a4 j hj
      | succ m ih =>
        intro i hi M3 a1 a2 a3 a4 a5
        have hil : i < (sL s).length := by omega
        have le := rnL_le (L := (sL s).take i) (N := N)
        have le2 : ((sL s).take i).length ≤ i := by rw [List.length_take]; omega
        refine bX10_substitutes_164 h0 ⟨fun hc => absurd hc (nlt hil (by omega) (by rw [t65]; exact a1)), fun _ => ⟨_, r_cA h0 (show i < 48 by omega) (a3 i (Nat.le_refl _) hil), fun v1 M4 hq => ?_⟩⟩
        obtain ⟨rfl, rfl⟩ := hq
        refine ⟨_, r_renamed h0 (fun l hl => by rw [a5.1 (k + 11) (by omega)]; exact hNb l hl) _, fun v2 M5 hq => ?_⟩
        obtain ⟨rfl, rfl⟩ := hq
        refine ⟨_, r_isTrivial _, fun v3 M6 hq => ?_⟩
        obtain ⟨rfl, rfl⟩ := hq
        have nx := ih (i + 1) (by omega)
        rw [rnL_tk hil] at nx
        rw [nI_1, nI_1, i66, nI_clamp (show 66 + (rnL N ((sL s).take i)).length < 2 ^ 31 by omega)]
        refine ⟨fun hc => ?_, fun hc => ⟨vp_in_nI (by omega) (by decide), ?_⟩⟩
        · rw [if_pos ((if01 _).2.mp hc)] at nx
          exact nx M6 a1 a2 (fun t h1 h2 => a3 t (by omega) h2) a4 a5
        · rw [if_neg (by rw [(if01 _).1.mp hc]; decide), List.length_append] at nx
          obtain ⟨P, eP⟩ : ∃ P, P = rnL N ((sL s).take i) := ⟨_, rfl⟩
          rw [← eP] at nx a2 le ⊢
          refine nx _ ?_ (fun t ht => ?_) (fun t h1 h2 => ?_) (fun b hb => ?_) (a5.tr (fr_.wI (by omega) (by omega)))
          · rw [wI_k (by omega)]; exact a1
          · have ht : t < P.length + 1 := ht
            by_cases e : t = P.length
            · subst e; rw [wI_s, gd_last]
            · rw [wI_k (by omega), a2 t (by omega), List.getD_eq_getElem?_getD, List.getD_eq_getElem?_getD, List.getElem?_append_left (by omega)]
          · rw [wI_k (by omega)]; exact a3 t (by omega) h2
          · rw [wI_k (by omega)]; exact a4 b hb
    have hb2 := hb
    have e65 := hb.2.2.2.2.2.2.2.2.1
    rw [eL] at e65
    exact key (sL s).length 0 (Nat.zero_add _) Mb e65 (fun t ht => absurd ht (Nat.not_lt_zero t)) (fun t _ ht => by have := hb.at (i := t) (by rw [eL]; exact ht); rw [eL] at this; exact this) (fun b _ => rfl) fr_.rf
  have sbl : ∀ m v s1 c, v + m = sV s → Iw s1 → sV s1 = sV s → sL s1 = sL s → ∀ M3, rr_ M3 k s1 → (∀ l, l < 20 → M3.1 (k + 11) l = nI (N l)) → rf_ k M M3 → LX10_substitutes_61 k (nI c) (nI v) g M3 (fun r M' => rr_ M' k (uL (sbA N m v s1 c).1 (rnL N (sL s))) ∧ r = nI (sbA N m v s1 c).2 ∧ rf_ k M M') := by
    intro m
    induction m with
    | zero =>
      intro v s1 c hv hw eV eL M3 h3 hT hf
      exact bX10_substitutes_61 h0 ⟨fun _ => lst s1 c eL M3 h3 hT hf, fun hx => absurd (by rw [h3.V, eV, show v = sV s by omega]; exact Int32.le_refl _) hx⟩
    | succ m ih =>
      intro v s1 c hv hw eV eL M3 h3 hT hf
      have hv10 : v < 10 := by omega
      have h20 := hN20 (2 * v) (by omega)
      refine bX10_substitutes_61 h0 ⟨fun hx => absurd hx (nlt (n := sV s) (by omega) (by omega) (by rw [h3.V, eV])), fun _ => ?_⟩
      rw [two_nI, nI_clamp (show 2 * v < 2 ^ 31 by omega), hT (2 * v) (by omega)]
      refine ⟨vp_in_nI (by omega) (by decide), _, r_isActive h0 h3 hv10, fun v5 M5 hq => ?_⟩
      obtain ⟨rfl, rfl⟩ := hq
      rw [nI_1, nI_eq (show N (2 * v) < 2 ^ 31 by omega) (show 2 * v < 2 ^ 31 by omega)]
      by_cases ha : sS s1 v = 0
      · rw [if_pos ha]
        refine ⟨fun hx => absurd hx (by decide), fun _ => ⟨fun he => ?_, fun he => ?_⟩⟩
        · rw [sbA_f (by unfold sbC; rw [decide_eq_true he]; simp)]
          exact ih (v + 1) s1 c (by omega) hw eV eL M5 h3 hT hf
        · have eC : sbC N s1 v = true := by unfold sbC; rw [decide_eq_true ha, decide_eq_false he]; rfl
          obtain ⟨w1, w2⟩ := sb1_w (N := N) hw hv10 ha
          rw [xor1 _ h20, two_sh' hv10, nI_1, nI_1, i12, i22, nI_clamp (show 12 + v < 2 ^ 31 by omega), nI_clamp (show 22 + v < 2 ^ 31 by omega)]
          refine ⟨_, r_pushes h0 h3 (by omega) _ _, fun M7 p7 => ⟨_, r_pushes h0 p7.1 (show (sR s1 ++ [_]).length < 140 by rw [List.length_append]; show (sR s1).length + 1 < 140; omega) _ _, fun M9 p9 => ⟨vp_in_nI (by omega) (by decide), vp_in_nI (by omega) (by decide), ?_⟩⟩⟩
          rw [sbA_t eC]
          have f2 : fr_ (k + 1) (k + 2) M9 (mj_wI (mj_wI M9 (k + 1) (12 + v) 3) (k + 1) (22 + v) (nI (N (2 * v)))) := (fr_.wI (by omega) (by omega)).tr (fr_.wI (by omega) (by omega))
          have fall := (p7.2.tr p9.2).tr f2
          refine ih (v + 1) (sb1 N s1 v) (c + 1) (by omega) w1 eV eL _ ?_ (fun l hl => by rw [fall.1 (k + 11) (by omega)]; exact hT l hl) (hf.tr (fall.r (by omega)))
          unfold rr_
          rw [wI_row, wI_row]
          refine ra_S p9.1 hv10 ?_ pk_us (fun j h1 h2 => ?_)
          · rw [pk_un (by omega)]; exact pk_us
          · rw [pk_un h2, pk_un h1]
      · rw [if_neg ha]
        refine ⟨fun _ => ?_, fun hx => absurd rfl hx⟩
        rw [sbA_f (by unfold sbC; rw [decide_eq_false ha]; rfl)]
        exact ih (v + 1) s1 c (by omega) hw eV eL M5 h3 hT hf
  have eqs : ∀ m v, v + m = sV s → anA (eqV (sL s)) v = false → LX10_substitutes_6 k (nI v) g M1 (fun r M' => rr_ M' k (sbs s).1 ∧ r = nI (sbs s).2 ∧ rf_ k M M') := by
    intro m
    induction m with
    | zero =>
      intro v hv hno
      have eB : eqB s = false := by unfold eqB; rw [show v = sV s by omega] at hno; exact hno
      refine bX10_substitutes_6 h0 ⟨fun _ => ?_, fun hx => absurd (by rw [q1.V, show v = sV s by omega]; exact Int32.le_refl _) hx⟩
      rw [sbs_f eB, ← eN]
      exact sbl (sV s) 0 s 0 (Nat.zero_add _) hI.w rfl rfl M1 q1 q3 t1
    | succ m ih =>
      intro v hv hno
      have hvV : v < sV s := by omega
      have eq := eqV_r hI hbr hvV
      rw [← eN] at eq
      have nx := ih (v + 1) (by omega)
      rw [anA_s, hno, Bool.false_or] at nx
      refine bX10_substitutes_6 h0 ⟨fun hx => absurd hx (nlt (n := sV s) (by omega) (by omega) q1.V), fun _ => ⟨_, r_isActive h0 q1 (show v < 10 by omega), fun v5 M5 hq => ?_⟩⟩
      obtain ⟨rfl, rfl⟩ := hq
      rw [nI_1, two_nI, nI_1, nI_clamp (show 2 * v < 2 ^ 31 by omega), nI_clamp (show 2 * v + 1 < 2 ^ 31 by omega), q3 (2 * v) (by omega), q3 (2 * v + 1) (by omega), nI_eq (by have := hN20 (2 * v) (by omega); omega) (by have := hN20 (2 * v + 1) (by omega); omega)]
      by_cases ha : sS s v = 0
      · rw [if_pos ha]
        rw [decide_eq_true ha, Bool.true_and] at eq
        refine ⟨fun hx => absurd hx (by decide), fun _ => ⟨vp_in_nI (by omega) (by decide), vp_in_nI (by omega) (by decide), fun he => nx (by rw [eq]; exact decide_eq_false he), fun he => ⟨_, r_breaks h0 q1, fun M6 hq => ?_⟩⟩⟩
        have eB : eqB s = true := anA_t hvV (by rw [eq]; exact decide_eq_true he)
        rw [sbs_t eB]
        exact ⟨hq.1, rfl, t1.tr (hq.2.r (by omega))⟩
      · rw [if_neg ha]
        refine ⟨fun _ => nx (by rw [eq, decide_eq_false ha]; rfl), fun hx => absurd rfl hx⟩
  exact eqs (sV s) 0 (Nat.zero_add _) rfl
end SU3
