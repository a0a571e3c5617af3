theorem lg_cmp0 {x y : Int64} : lg_cmp x y = 0 ↔ x = y := by
  unfold lg_cmp
  constructor
  · intro h
    split at h
    · exact absurd h (by decide)
    · split at h
      · assumption
      · exact absurd h (by decide)
  · intro h
    subst h
    rw [if_neg (fun q => absurd q (Int64.lt_irrefl)), if_pos rfl]
section SUB
variable {g : mj_S} {M : mj_M} {k kt n : Nat} {s : sg} {L : List Int32}
theorem sbP_eq {i j : Nat} (h1 : L.getD i 0 &&& (L.getD j 0 ^^^ (-1)) = 0) : sbP L j i = (!decide (L.getD i 0 = L.getD j 0) || decide (i < j)) := by unfold sbP; rw [decide_eq_true h1]; rfl
theorem c_isSubsumed (ht : is7 g kt) (h0 : is0 g k n) (h : cl_ M k n L) {j : Nat} (hj : j < L.length) : kX7_isSubsumed kt k (nI j) g M (fun v M' => M' = M ∧ v = if sbd L j then 1 else 0) := by
  have hlt := h.lt
  refine eX7_isSubsumed ht h0 ⟨_, c_at h0 h (i := j) (by omega), fun v1 M1 hq => ?_⟩
  obtain ⟨rfl, rfl⟩ := hq
  have key : ∀ m i, i + m = L.length → anA (sbP L j) i = false → LX7_isSubsumed_9 kt k n (nI j) (L.getD j 0) (nI i) g M1 (fun v M' => M' = M1 ∧ v = if sbd L j then 1 else 0) := by
    intro m
    induction m with
    | zero =>
      intro i hi hno
      refine bX7_isSubsumed_9 ht h0 ⟨_, c_size h0 h, fun v1 M2 hq => ?_⟩
      obtain ⟨rfl, rfl⟩ := hq
      refine ⟨fun _ => ⟨rfl, ?_⟩, fun hc => absurd (nI_le (by omega) (by omega)) hc⟩
      rw [show i = L.length by omega] at hno
      unfold sbd; rw [hno]; rfl
    | succ m ih =>
      intro i hi hno
      have nx := ih (i + 1) (by omega)
      rw [anA_s, hno, Bool.false_or] at nx
      have fin : sbP L j i = true → sbd L j = true := fun hp => anA_t (by omega) hp
      refine bX7_isSubsumed_9 ht h0 ⟨_, c_size h0 h, fun v1 M2 hq => ?_⟩
      obtain ⟨rfl, rfl⟩ := hq
      refine ⟨fun hc => absurd hc (nI_ge (by omega) hlt), fun _ => ⟨_, c_at h0 h (i := i) (by omega), fun v2 M3 hq => ?_⟩⟩
      obtain ⟨rfl, rfl⟩ := hq
      rw [nI_1]
      refine ⟨fun hc => ⟨fun _ => nx (by unfold sbP; rw [decide_eq_false hc]; rfl), fun hz => absurd rfl hz⟩, fun hc => ⟨fun hz => absurd hz (by decide), fun _ => ⟨fun hd => ⟨rfl, ?_⟩, fun hd => ⟨fun he => ?_, fun he => ⟨rfl, ?_⟩⟩⟩⟩⟩
      · rw [fin (by rw [sbP_eq hc, decide_eq_false hd]; rfl)]; rfl
      · rw [nI_leI (by omega) (by omega)] at he
        exact nx (by rw [sbP_eq hc, decide_eq_true hd, decide_eq_false (by omega)]; rfl)
      · rw [nI_leI (by omega) (by omega)] at he
        rw [fin (by rw [sbP_eq hc, decide_eq_true (show i < j by omega), Bool.or_true])]; rfl
  exact key L.length 0 (by omega) rfl
theorem c_removeSubsumed (ht : is7 g kt) (h0 : is0 g k n) (h : cl_ M k n L) (h48 : L.length ≤ 48) : kX7_removeSubsumed kt k g M (fun v M' => cl_ M' k n (subL L) ∧ v = nI (L.length - (subL L).length) ∧ fr_ k (k + 2) M M') := by
  have hlt := h.lt
  refine eX7_removeSubsumed ht h0 ⟨_, c_size h0 h, fun v1 M1 hq => ?_⟩
  obtain ⟨rfl, rfl⟩ := hq
  have k2 : ∀ x : Int64, (∀ i, i < L.length → bL x i = sbd L i) → ∀ i, i ≤ L.length → ∀ M2, cl_ M2 k n (L.take i ++ kpA (sbd L) i (L.drop i)) → fr_ k (k + 2) M1 M2 → LX7_removeSubsumed_44 kt k n (nI L.length) x (nI i - 1) g M2 (fun v M' => cl_ M' k n (subL L) ∧ v = nI (L.length - (subL L).length) ∧ fr_ k (k + 2) M1 M') := by
    intro x hx i
    induction i with
    | zero =>
      intro _ M2 hc hf
      refine bX7_removeSubsumed_44 ht h0 ⟨fun _ => ⟨_, c_size h0 hc, fun v1 M3 hq => ?_⟩, fun hc => absurd m1lt hc⟩
      obtain ⟨rfl, rfl⟩ := hq
      have hc' : cl_ M3 k n (subL L) := hc
      refine ⟨hc', ?_, hf⟩
      exact pk_sub (kpA_le _ _ _)
    | succ i ih =>
      intro hi M2 hc hf
      have hil : i < L.length := by omega
      rw [nI_pred]
      refine bX7_removeSubsumed_44 ht h0 ⟨fun hc => absurd hc (nI_pos (by omega)), fun _ => ?_⟩
      rw [lg_cmp0, bL_te x (by omega), hx i hil, m1']
      refine ⟨fun hp => ?_, fun hp => ?_⟩
      · rw [kp_f hil hp] at hc
        exact ih (by omega) M2 hc hf
      · have hp' : sbd L i = true := (Bool.not_eq_false _).mp hp
        refine ⟨_, c_removeAt h0 hc (i := i) (by rw [List.length_append, List.length_take]; omega), fun M3 hq => ?_⟩
        rw [kp_t hil hp'] at hq
        exact ih (by omega) M3 hq.1 (hf.tr hq.2)
  have k1 : ∀ m i, i + m = L.length → ∀ x : Int64, (∀ t, t < 64 → bL x t = (decide (t < i) && sbd L t)) → LX7_removeSubsumed_10 kt k n (nI L.length) x (nI i) g M1 (fun v M' => cl_ M' k n (subL L) ∧ v = nI (L.length - (subL L).length) ∧ fr_ k (k + 2) M1 M') := by
    intro m
    induction m with
    | zero =>
      intro i hi x hx
      refine bX7_removeSubsumed_10 ht h0 ⟨fun _ => ?_, fun hc => absurd (nI_le (by omega) (by omega)) hc⟩
      refine k2 x (fun t ht => ?_) L.length (Nat.le_refl _) M1 ?_ fr_.rf
      · rw [hx t (by omega), decide_eq_true (by omega)]; rfl
      · rw [List.take_length, List.drop_length]
        show cl_ M1 k n (L ++ [])
        rw [List.append_nil]; exact h
    | succ m ih =>
      intro i hi x hx
      have nx := ih (i + 1) (by omega)
      refine bX7_removeSubsumed_10 ht h0 ⟨fun hc => absurd hc (nI_ge (by omega) hlt), fun _ => ⟨_, c_isSubsumed ht h0 h (j := i) (by omega), fun v1 M2 hq => ?_⟩⟩
      obtain ⟨rfl, rfl⟩ := hq
      rw [nI_1]
      refine ⟨fun hc => nx x (fun t ht => ?_), fun hc => nx _ (fun t ht => ?_)⟩
      · rw [hx t ht]
        by_cases e : t = i
        · subst e; rw [(if01 _).1.mp hc]; simp
        · rw [show decide (t < i + 1) = decide (t < i) from decide_eq_decide.mpr (by omega)]
      · rw [bL_or, hx t ht, bL_sh (by omega) ht]
        by_cases e : t = i
        · subst e; rw [(if01 _).2.mp hc]; simp
        · rw [show decide (t < i + 1) = decide (t < i) from decide_eq_decide.mpr (by omega), decide_eq_false e, Bool.or_false]
  exact k1 L.length 0 (by omega) 0 (fun t ht => by rw [show bL 0 t = false from BitVec.getLsbD_zero]; simp)
theorem r_isSubsumed (h0 : is10 g k) (h : rr_ M k s) {j : Nat} (hj : j < (sL s).length) : kX10_isSubsumed k (nI j) g M (fun v M' => M' = M ∧ v = if sbd (sL s) j then 1 else 0) := by
  have h48 := h.n48
  refine eX10_isSubsumed h0 ?_
  have key : ∀ m i, i + m = (sL s).length → ∀ b, b = anA (sbP (sL s) j) i → LX10_isSubsumed_4 k (nI j) (if b then 1 else 0) (nI i) g M (fun v M' => M' = M ∧ v = if sbd (sL s) j then 1 else 0) := by
    intro m
    induction m with
    | zero =>
      intro i hi b hb
      refine bX10_isSubsumed_4 h0 ⟨fun _ => ⟨by cases b <;> decide, rfl, ?_⟩, fun hc => absurd (h.done (by omega)) hc⟩
      rw [hb, show i = (sL s).length by omega]; rfl
    | succ m ih =>
      intro i hi b hb
      have hl : i < (sL s).length := by omega
      have nx := ih (i + 1) (by omega)
      rw [anA_s, ← hb] at nx
      refine bX10_isSubsumed_4 h0 ⟨fun hc => absurd hc (h.more hl), fun _ => ?_⟩
      rw [nI_1]
      refine ⟨fun hz => nx true (by rw [(if01 _).2.mp hz]; rfl), fun hz => ?_⟩
      have hbf := (if01 _).1.mp hz
      rw [hbf, Bool.false_or] at nx
      refine ⟨fun he => ?_, fun he => ⟨_, r_clauseAt h0 h hl, fun v1 M1 hq => ?_⟩⟩
      · have he' := (nI_eq (by omega) (by omega)).mp he
        exact nx false (by rw [he']; unfold sbP; simp)
      · obtain ⟨rfl, rfl⟩ := hq
        refine ⟨_, r_clauseAt h0 h hj, fun v1 M2 hq => ?_⟩
        obtain ⟨rfl, rfl⟩ := hq
        refine ⟨fun hc => nx false (by unfold sbP; rw [decide_eq_false hc]; rfl), fun hc => ⟨_, r_clauseAt h0 h hl, fun v1 M3 hq => ?_⟩⟩
        obtain ⟨rfl, rfl⟩ := hq
        refine ⟨_, r_clauseAt h0 h hj, fun v1 M4 hq => ?_⟩
        obtain ⟨rfl, rfl⟩ := hq
        refine ⟨fun hd => nx true (by rw [sbP_eq hc, decide_eq_false hd]; rfl), fun hd => ⟨fun hg => ?_, fun hg => ?_⟩⟩
        · rw [nI_leI (by omega) (by omega)] at hg
          exact nx false (by rw [sbP_eq hc, decide_eq_true hd, decide_eq_false (by omega)]; rfl)
        · rw [nI_leI (by omega) (by omega)] at hg
          exact nx true (by rw [sbP_eq hc, decide_eq_true (show i < j by omega), Bool.or_true])
  exact key (sL s).length 0 (by omega) false rfl
theorem r_subsumes (h0 : is10 g k) (h : rr_ M k s) : kX10_subsumes k g M (fun v M' => rr_ M' k (uL s (subL (sL s))) ∧ v = nI ((sL s).length - (subL (sL s)).length) ∧ rf_ k M M') := by
  have h48 := h.n48
  have k2 : ∀ i, i ≤ (sL s).length → ∀ M2 c, c + (kpA (sbd (sL s)) i ((sL s).drop i)).length + i = (sL s).length → rr_ M2 k (uL s ((sL s).take i ++ kpA (sbd (sL s)) i ((sL s).drop i))) → (∀ t, t < (sL s).length → M2.1 (k + 6) t = if sbd (sL s) t then 1 else 0) → rf_ k M M2 → LX10_subsumes_42 k (nI c) (nI i - 1) g M2 (fun v M' => rr_ M' k (uL s (subL (sL s))) ∧ v = nI ((sL s).length - (subL (sL s)).length) ∧ rf_ k M M') := by
    intro i
    induction i with
    | zero =>
      intro _ M2 c hn hc hg hf
      refine bX10_subsumes_42 h0 ⟨fun _ => ?_, fun hc => absurd m1lt hc⟩
      have hc' : rr_ M2 k (uL s (subL (sL s))) := hc
      have hn' : c + (subL (sL s)).length + 0 = (sL s).length := hn
      exact ⟨hc', by rw [show (sL s).length - (subL (sL s)).length = c by omega], hf⟩
    | succ i ih =>
      intro hi M2 c hn hc hg hf
      have hil : i < (sL s).length := by omega
      rw [nI_pred]
      refine bX10_subsumes_42 h0 ⟨fun hc => absurd hc (nI_pos (by omega)), fun _ => ?_⟩
      rw [nI_clamp (n := i) (by omega), hg i hil, m1']
      refine ⟨vp_in_nI (by omega) (by decide), fun hp => ?_, fun hp => ?_⟩
      · have hp' := (if01 _).1.mp hp
        rw [kp_f hil hp'] at hc
        exact ih (by omega) M2 c (by rw [kp_fl hil hp']; omega) hc hg hf
      · have hp' := (if01 _).2.mp hp
        refine ⟨_, r_removes h0 hc (i := i) (by show i < ((sL s).take (i + 1) ++ kpA (sbd (sL s)) (i + 1) ((sL s).drop (i + 1))).length; rw [List.length_append, List.length_take]; omega), fun M3 hq => ?_⟩
        rw [nI_1]
        refine ih (by omega) M3 (c + 1) (by rw [kp_tl hil hp']; omega) ?_ (fun t ht => ?_) (hf.tr (hq.2.r (by omega)))
        · rw [← kp_t hil hp']; exact hq.1
        · rw [hq.2.1 (k + 6) (by omega)]; exact hg t ht
  have k1 : ∀ m i, i + m = (sL s).length → ∀ M1, rr_ M1 k s → (∀ t, t < i → M1.1 (k + 6) t = if sbd (sL s) t then 1 else 0) → rf_ k M M1 → LX10_subsumes_2 k (nI i) g M1 (fun v M' => rr_ M' k (uL s (subL (sL s))) ∧ v = nI ((sL s).length - (subL (sL s)).length) ∧ rf_ k M M') := by
    intro m
    induction m with
    | zero =>
      intro i hi M1 h hg hf
      refine bX10_subsumes_2 h0 ⟨fun _ => ?_, fun hc => absurd (h.done (by omega)) hc⟩
      rw [h.n]
      refine k2 (sL s).length (Nat.le_refl _) M1 0 ?_ ?_ (fun t ht => hg t (by omega)) hf
      · rw [List.drop_length]; show 0 + 0 + (sL s).length = _; omega
      · rw [List.take_length, List.drop_length]
        show rr_ M1 k (uL s (sL s ++ []))
        rw [List.append_nil]; exact h
    | succ m ih =>
      intro i hi M1 h hg hf
      have hl : i < (sL s).length := by omega
      refine bX10_subsumes_2 h0 ⟨fun hc => absurd hc (h.more hl), fun _ => ⟨_, r_isSubsumed h0 h hl, fun v1 M2 hq => ?_⟩⟩
      obtain ⟨rfl, rfl⟩ := hq
      rw [nI_1, nI_clamp (n := i) (by omega)]
      refine ⟨vp_in_nI (by omega) (by decide), by cases sbd (sL s) i <;> decide, ih (i + 1) (by omega) _ (h.fr (fr_.wI (lo := k + 6) (hi := k + 7) (by omega) (by omega)) (by omega)) (fun t ht => ?_) (hf.tr (rf_.wI (by omega)))⟩
      by_cases e : t = i
      · subst e; rw [wI_s]
      · rw [wI_k (by omega)]; exact hg t (by omega)
  exact eX10_subsumes h0 (k1 (sL s).length 0 (by omega) M h (fun t ht => absurd ht (Nat.not_lt_zero t)) rf_.rf)
end SUB
