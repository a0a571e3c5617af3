/-! THE REFERENCE'S ROW: what changes it -/
theorem div2 : ∀ l, l < 20 → nI l / 2 = nI (l / 2) := by decide +kernel
theorem rem2 : ∀ l, l < 20 → (nI l - nI l / 2 * 2 = 0 ↔ l % 2 = 0) := by decide +kernel
section RE2
variable {g : mj_S} {M : mj_M} {k : Nat} {s : sg}
/-- rows and what is known of a variable change -/
theorem ra_R {a a' : Nat → Int32} {x w : Int32} (h : ra_ a s) (hr : (sR s).length < 140) (hn : a' 114 = nI ((sR s).length + 1)) (h1 : a' (115 + 2 * (sR s).length) = x) (h2 : a' (115 + 2 * (sR s).length + 1) = w) (ho : ∀ j, j ≠ 114 → j ≠ 115 + 2 * (sR s).length → j ≠ 115 + 2 * (sR s).length + 1 → a' j = a j) : ra_ a' (pushS s x w) := by
  obtain ⟨c1, c2, c3, c4, c5, c6, c7, c8, c9, c10, c11, c12, c13, c14, c15⟩ := h
  have o : ∀ j, j < 114 → a' j = a j := fun j hj => ho j (by omega) (by omega) (by omega)
  refine ⟨by rw [o 0 (by decide)]; exact c1, by rw [o 1 (by decide)]; exact c2, fun t ht => by rw [o _ (by omega)]; exact c3 t ht, fun t ht => by rw [o _ (by omega)]; exact c4 t ht, fun t ht => by rw [o _ (by omega)]; exact c5 t ht, by rw [o 32 (by decide)]; exact c6, c7, fun i hi => ?_, by rw [o 65 (by decide)]; exact c9, c10, fun i hi => ?_, ?_, ?_, fun i hi => ?_, c15⟩
  · have hi' : i < (sO s).length := hi
    rw [o _ (by omega)]; exact c8 i hi'
  · have hi' : i < (sL s).length := hi
    rw [o _ (by omega)]; exact c11 i hi'
  · show a' 114 = nI (sR s ++ [(x, w)]).length
    rw [hn, List.length_append]; rfl
  · show (sR s ++ [(x, w)]).length ≤ 140
    rw [List.length_append]; show (sR s).length + 1 ≤ 140; omega
  · have hi2 : i < (sR s).length + 1 := by have : i < (sR s ++ [(x, w)]).length := hi; rwa [List.length_append] at this
    show a' (115 + 2 * i) = ((sR s ++ [(x, w)]).getD i (0, 0)).1 ∧ a' (115 + 2 * i + 1) = ((sR s ++ [(x, w)]).getD i (0, 0)).2
    rcases Nat.lt_or_ge i (sR s).length with q | q
    · rw [gdr_left q, ho _ (by omega) (by omega) (by omega), ho _ (by omega) (by omega) (by omega)]; exact c14 i q
    · have : i = (sR s).length := by omega
      subst this
      rw [gdr_last]; exact ⟨h1, h2⟩
theorem r_pushes (h0 : is10 g k) (h : rr_ M k s) (hr : (sR s).length < 140) (x w : Int32) : kX10_pushes k x w g M (fun M' => rr_ M' k (pushS s x w) ∧ fr_ (k + 1) (k + 2) M M') := by
  refine eX10_pushes h0 ?_
  obtain ⟨n, en⟩ : ∃ n, n = (sR s).length := ⟨_, rfl⟩
  rw [← en] at hr
  have e1 : (115 : Int32) + (2 : Int32) * M.1 (k + 1) (Int32.toNatClampNeg 114) = nI (115 + 2 * n) := by rw [h.r, ← en, two_nI, i115]
  rw [e1]
  have c1 : Int32.toNatClampNeg (nI (115 + 2 * n)) = 115 + 2 * n := nI_clamp (by omega)
  rw [c1]
  have e2 : (115 : Int32) + (2 : Int32) * (mj_wI M (k + 1) (115 + 2 * n) x).1 (k + 1) (Int32.toNatClampNeg 114) + 1 = nI (115 + 2 * n + 1) := by rw [wI_k (by rw [t114]; omega), e1, nI_1]
  rw [e2]
  have c2 : Int32.toNatClampNeg (nI (115 + 2 * n + 1)) = 115 + 2 * n + 1 := nI_clamp (by omega)
  rw [c2]
  have e3 : (mj_wI (mj_wI M (k + 1) (115 + 2 * n) x) (k + 1) (115 + 2 * n + 1) w).1 (k + 1) (Int32.toNatClampNeg 114) + 1 = nI (n + 1) := by rw [wI_k (by rw [t114]; omega), wI_k (by rw [t114]; omega), h.r, ← en, nI_1]
  rw [e3]
  refine ⟨vp_in_nI (by omega) (by decide), vp_in_nI (by omega) (by decide), ?_, ((fr_.wI (by omega) (by omega)).tr (fr_.wI (by omega) (by omega))).tr (fr_.wI (by omega) (by omega))⟩
  unfold rr_
  rw [wI_row, wI_row, wI_row, t114]
  subst en
  refine ra_R h hr ?_ ?_ ?_ (fun j h1 h2 h3 => ?_)
  · simp [upd]
  · simp only [upd]; rw [if_neg (by omega), if_neg (by omega), if_pos trivial]
  · simp only [upd]; rw [if_neg (by omega), if_pos trivial]
  · simp only [upd]; rw [if_neg h1, if_neg h3, if_neg h2]
theorem r_adds (h0 : is10 g k) (h : rr_ M k s) (x : Int32) (ho : (sO s).length < 32) (hl : x ≠ 0 → sL s ≠ [0] → (sL s).length < 48) : kX10_adds k x g M (fun M' => rr_ M' k (addO s x) ∧ fr_ (k + 1) (k + 2) M M') := by
  refine eX10_adds h0 ?_
  have e1 : (33 : Int32) + M.1 (k + 1) (Int32.toNatClampNeg 32) = nI (33 + (sO s).length) := by rw [h.o, i33]
  rw [e1, nI_clamp (by omega)]
  have e2 : (mj_wI M (k + 1) (33 + (sO s).length) x).1 (k + 1) (Int32.toNatClampNeg 32) + 1 = nI ((sO s).length + 1) := by rw [wI_k (by rw [t32]; omega), h.o, nI_1]
  rw [e2]
  refine ⟨vp_in_nI (by omega) (by decide), _, r_appends (s := uO s (sO s ++ [x])) h0 ?_ x hl, fun M1 hq => ⟨hq.1, ((fr_.wI (by omega) (by omega)).tr (fr_.wI (by omega) (by omega))).tr hq.2⟩⟩
  unfold rr_
  rw [wI_row, wI_row, t32]
  obtain ⟨c1, c2, c3, c4, c5, c6, c7, c8, c9, c10, c11, c12, c13, c14, c15⟩ := h
  have o : ∀ j, j ≠ 32 → j ≠ 33 + (sO s).length → upd (upd (M.1 (k + 1)) (33 + (sO s).length) x) 32 (nI ((sO s).length + 1)) j = M.1 (k + 1) j := fun j h1 h2 => by simp only [upd]; rw [if_neg h1, if_neg h2]
  refine ⟨by rw [o 0 (by decide) (by omega)]; exact c1, by rw [o 1 (by decide) (by omega)]; exact c2, fun t ht => by rw [o _ (by omega) (by omega)]; exact c3 t ht, fun t ht => by rw [o _ (by omega) (by omega)]; exact c4 t ht, fun t ht => by rw [o _ (by omega) (by omega)]; exact c5 t ht, ?_, ?_, fun i hi => ?_, by rw [o 65 (by decide) (by omega)]; exact c9, c10, fun i hi => by rw [o _ (by omega) (by omega)]; exact c11 i hi, by rw [o 114 (by decide) (by omega)]; exact c12, c13, fun i hi => by rw [o _ (by omega) (by omega), o _ (by omega) (by omega)]; exact c14 i hi, c15⟩
  · show _ = nI (sO s ++ [x]).length
    rw [List.length_append]; simp [upd]
  · show (sO s ++ [x]).length ≤ 32
    rw [List.length_append]; show (sO s).length + 1 ≤ 32; omega
  · have hi2 : i < (sO s).length + 1 := by have : i < (sO s ++ [x]).length := hi; rwa [List.length_append] at this
    show _ = (sO s ++ [x]).getD i 0
    rcases Nat.lt_or_ge i (sO s).length with q | q
    · rw [o _ (by omega) (by omega), c8 i q, List.getD_eq_getElem?_getD, List.getD_eq_getElem?_getD, List.getElem?_append_left q]
    · have : i = (sO s).length := by omega
      subst this
      simp only [upd]
      rw [if_neg (by omega), if_pos trivial, gd_last]
theorem r_isModel (h0 : is10 g k) (h : rr_ M k s) (a : Int32) : kX10_isModel k a g M (fun v M' => M' = M ∧ v = if (sL s).all (fun c => !decide (c &&& tl a = 0)) then 1 else 0) := by
  refine eX10_isModel h0 ⟨_, r_truths a, fun v1 M1 hq => ?_⟩
  obtain ⟨rfl, rfl⟩ := hq
  have key : ∀ m i, i + m = (sL s).length → LX10_isModel_10 k (tl a) (if ((sL s).take i).all (fun c => !decide (c &&& tl a = 0)) then 1 else 0) (nI i) g M1 (fun v M' => M' = M1 ∧ v = if (sL s).all (fun c => !decide (c &&& tl a = 0)) then 1 else 0) := by
    intro m
    induction m with
    | zero =>
      intro i hi
      refine bX10_isModel_10 h0 ⟨fun _ => ⟨?_, rfl, by rw [tk_all (by omega)]⟩, fun hc => absurd (h.done (by omega)) hc⟩
      cases ((sL s).take i).all (fun c => !decide (c &&& tl a = 0)) <;> decide
    | succ m ih =>
      intro i hi
      have hl : i < (sL s).length := by omega
      have nx := ih (i + 1) (by omega)
      rw [tk_succ hl, List.all_append, show [(sL s).getD i 0].all (fun c => !decide (c &&& tl a = 0)) = (!decide ((sL s).getD i 0 &&& tl a = 0) && true) from rfl] at nx
      refine bX10_isModel_10 h0 ⟨fun hc => absurd hc (h.more hl), fun _ => ⟨fun hz => ?_, fun hz => ⟨_, r_clauseAt h0 h hl, fun v1 M2 hq => ?_⟩⟩⟩
      · rw [(if01 _).1.mp hz] at nx
        rw [nI_1]; exact nx
      · obtain ⟨rfl, rfl⟩ := hq
        rw [(if01 _).2.mp hz] at nx
        rw [nI_1]
        refine ⟨fun hc => ?_, fun hc => ?_⟩
        · rw [decide_eq_true hc] at nx; exact nx
        · rw [decide_eq_false hc] at nx; exact nx
  exact key (sL s).length 0 (by omega)
theorem r_missed (h0 : is10 g k) (h : rr_ M k s) (a : Int32) : kX10_missed k a g M (fun v M' => M' = M ∧ v = nI ((sO s).countP (fun c => decide (c &&& tl a = 0)))) := by
  have h32 := h.o32
  refine eX10_missed h0 ⟨_, r_truths a, fun v1 M1 hq => ?_⟩
  obtain ⟨rfl, rfl⟩ := hq
  have key : ∀ m i, i + m = (sO s).length → LX10_missed_10 k (tl a) (nI (((sO s).take i).countP (fun c => decide (c &&& tl a = 0)))) (nI i) g M1 (fun v M' => M' = M1 ∧ v = nI ((sO s).countP (fun c => decide (c &&& tl a = 0)))) := by
    intro m
    induction m with
    | zero => intro i hi; exact bX10_missed_10 h0 ⟨fun _ => ⟨rfl, by rw [tk_all (by omega)]⟩, fun hc => absurd (by rw [h.o, show i = (sO s).length by omega]; exact Int32.le_refl _) hc⟩
    | succ m ih =>
      intro i hi
      have hl : i < (sO s).length := by omega
      have nx := ih (i + 1) (by omega)
      rw [tk_succ hl, List.countP_append, List.countP_singleton] at nx
      have hat : M1.1 (k + 1) (33 + i) = (sO s).getD i 0 := h.2.2.2.2.2.2.2.1 i hl
      refine bX10_missed_10 h0 ⟨fun hc => absurd hc (nlt hl (by omega) h.o), fun _ => ?_⟩
      rw [i33, nI_clamp (by omega), hat, nI_1]
      refine ⟨vp_in_nI (by omega) (by decide), fun hc => ?_, fun hc => ?_⟩
      · rw [decide_eq_false hc] at nx; rw [show (0 : Int32) = nI 0 from rfl, nI_add]; exact nx
      · rw [decide_eq_true hc] at nx; rw [show (1 : Int32) = nI 1 from rfl, nI_add]; exact nx
  exact key (sO s).length 0 (by omega)
end RE2
