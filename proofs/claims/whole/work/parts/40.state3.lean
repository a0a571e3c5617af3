/-! THE STATE: beginning anew, copying, extending an assignment -/
section ST3
variable {g : mj_S} {M : mj_M} {k : Nat} {s : sg}
theorem wI_k {M : mj_M} {k j a b : Nat} {v : Int32} (h : ¬ (a = k ∧ b = j)) : (mj_wI M k j v).1 a b = M.1 a b := mj_up2_n _ _ h
theorem wI_s {M : mj_M} {k j : Nat} {v : Int32} : (mj_wI M k j v).1 k j = v := mj_up2_s _ _ _ _
theorem c_beginAnew {V : Nat} {L O : List Int32} (h0 : is6 g k) (hV : V ≤ 10) (hL : cl_ M (k + 1) 48 L) (hO : cl_ M (k + 3) 32 O) : kX6_beginAnew k (nI V) g M (fun M' => rc_ M' k (s0 V) ∧ fr_ k (k + 10) M M') := by
  obtain ⟨M0, e0⟩ : ∃ z, z = mj_wI (mj_wI (mj_wI M k 0 (nI V)) k 1 0) k 2 0 := ⟨_, rfl⟩
  have f0 : fr_ k (k + 1) M M0 := by rw [e0]; exact ((fr_.wI (by omega) (by omega)).tr (fr_.wI (by omega) (by omega))).tr (fr_.wI (by omega) (by omega))
  have z0 : M0.1 k 0 = nI V := by rw [e0, wI_k (by omega), wI_k (by omega), wI_s]
  have z1 : M0.1 k 1 = 0 := by rw [e0, wI_k (by omega), wI_s]
  have z2 : M0.1 k 2 = 0 := by rw [e0, wI_s]
  refine eX6_beginAnew h0 ?_
  rw [← e0]
  refine ⟨_, c_clear h0.2.1.2 (hL.fr f0 (by omega)), fun M1 q1 => ⟨_, c_clear h0.2.2.1.2 ((hO.fr f0 (by omega)).fr q1.2 (by omega)), fun M2 q2 => ?_⟩⟩
  have g2 : M2.1 k = M0.1 k := (q2.2.1 k (by omega)).trans (q1.2.1 k (by omega))
  have fin : ∀ m t, t + m = 10 → ∀ M3, M3.1 k = M0.1 k → cl_ M3 (k + 1) 48 [] → cl_ M3 (k + 3) 32 [] → (∀ v, v < 10 → M3.1 (k + 5) v = 0 ∧ M3.1 (k + 6) v = -1) → (∀ v, v < t → M3.1 (k + 7) v = 0) → fr_ k (k + 10) M M3 → LX6_beginAnew_59 k (nI t) g M3 (fun M' => rc_ M' k (s0 V) ∧ fr_ k (k + 10) M M') := by
    intro m
    induction m with
    | zero =>
      intro t ht M3 a1 a2 a3 a4 a5 a6
      have : t = 10 := by omega
      subst this
      exact bX6_beginAnew_59 h0 ⟨fun _ => ⟨⟨by rw [a1]; exact z0, by rw [a1]; exact z1, by rw [a1]; exact z2, a2, a3, fun v hv => (a4 v hv).1, fun v hv => (a4 v hv).2, a5, Nat.zero_le _, fun i hi => absurd hi (Nat.not_lt_zero i), hV⟩, a6⟩, fun hc => absurd (by decide) hc⟩
    | succ m ih =>
      intro t ht M3 a1 a2 a3 a4 a5 a6
      refine bX6_beginAnew_59 h0 ⟨fun hc => absurd hc (nlt (n := 10) (by omega) (by decide) rfl), fun _ => ⟨vp_in_nI (by omega) (by decide), ?_⟩⟩
      rw [nI_clamp (by omega), nI_1]
      have f : fr_ (k + 7) (k + 8) M3 (mj_wI M3 (k + 7) t 0) := fr_.wI (by omega) (by omega)
      refine ih (t + 1) (by omega) _ ((f.1 k (by omega)).trans a1) (a2.fr f (by omega)) (a3.fr f (by omega)) (fun v hv => ?_) (fun v hv => ?_) (a6.tr (f.wd (by omega) (by omega)))
      · rw [f.1 (k + 5) (by omega), f.1 (k + 6) (by omega)]; exact a4 v hv
      · by_cases hvt : v = t
        · subst hvt; exact wI_s
        · rw [wI_k (by omega)]; exact a5 v (by omega)
  have key : ∀ m t, t + m = 10 → ∀ M3, M3.1 k = M0.1 k → cl_ M3 (k + 1) 48 [] → cl_ M3 (k + 3) 32 [] → (∀ v, v < t → M3.1 (k + 5) v = 0 ∧ M3.1 (k + 6) v = -1) → fr_ k (k + 10) M M3 → LX6_beginAnew_31 k (nI t) g M3 (fun M' => rc_ M' k (s0 V) ∧ fr_ k (k + 10) M M') := by
    intro m
    induction m with
    | zero =>
      intro t ht M3 a1 a2 a3 a4 a6
      have : t = 10 := by omega
      subst this
      exact bX6_beginAnew_31 h0 ⟨fun _ => fin 10 0 (by omega) M3 a1 a2 a3 a4 (fun v hv => absurd hv (Nat.not_lt_zero v)) a6, fun hc => absurd (by decide) hc⟩
    | succ m ih =>
      intro t ht M3 a1 a2 a3 a4 a6
      refine bX6_beginAnew_31 h0 ⟨fun hc => absurd hc (nlt (n := 10) (by omega) (by decide) rfl), fun _ => ⟨vp_in_nI (by omega) (by decide), vp_in_nI (by omega) (by decide), ?_⟩⟩
      rw [nI_clamp (by omega), nI_1]
      have f : fr_ (k + 5) (k + 7) M3 (mj_wI (mj_wI M3 (k + 5) t 0) (k + 6) t (-1)) := (fr_.wI (by omega) (by omega)).tr (fr_.wI (by omega) (by omega))
      refine ih (t + 1) (by omega) _ ((f.1 k (by omega)).trans a1) (a2.fr f (by omega)) (a3.fr f (by omega)) (fun v hv => ?_) (a6.tr (f.wd (by omega) (by omega)))
      by_cases hvt : v = t
      · subst hvt; exact ⟨by rw [wI_k (by omega)]; exact wI_s, wI_s⟩
      · rw [wI_k (by omega), wI_k (by omega), wI_k (by omega), wI_k (by omega)]; exact a4 v (by omega)
  exact key 10 0 (by omega) M2 g2 (q1.1.fr q2.2 (by omega)) q2.1 (fun v hv => absurd hv (Nat.not_lt_zero v)) (((f0.wd (by omega) (by omega)).tr (q1.2.wd (by omega) (by omega))).tr (q2.2.wd (by omega) (by omega)))
theorem tkr_succ {L : List (Int32 × Int32)} {i : Nat} (h : i < L.length) : L.take (i + 1) = L.take i ++ [((L.getD i (0, 0)).1, (L.getD i (0, 0)).2)] := by
  rw [List.take_succ, List.getElem?_eq_getElem h, List.getD_eq_getElem?_getD, List.getElem?_eq_getElem h]; rfl
theorem c_copyState {k1 : Nat} {s1 : sg} (h0 : is6 g k) (h1 : is6 g k1) (h : rc_ M k s) (hs1 : rc_ M k1 s1) (hd : k + 10 ≤ k1 ∨ k1 + 10 ≤ k) : kX6_copyFrom k k1 g M (fun M' => rc_ M' k s1 ∧ fr_ k (k + 10) M M') := by
  obtain ⟨M0, e0⟩ : ∃ z, z = mj_wI (mj_wI M k 0 (M.1 k1 0)) k 1 ((mj_wI M k 0 (M.1 k1 0)).1 k1 1) := ⟨_, rfl⟩
  have f0 : fr_ k (k + 1) M M0 := by rw [e0]; exact (fr_.wI (by omega) (by omega)).tr (fr_.wI (by omega) (by omega))
  have z0 : M0.1 k 0 = nI (sV s1) := by rw [e0, wI_k (by omega), wI_s]; exact hs1.1
  have z1 : M0.1 k 1 = sG s1 := by rw [e0, wI_s, wI_k (by omega)]; exact hs1.2.1
  have hs0 := hs1.fr f0 (by omega)
  refine eX6_copyFrom h0 h1 ?_
  rw [← e0]
  refine ⟨_, c_copyFrom h0.2.1.2 h1.2.1.2 (h.2.2.2.1.fr f0 (by omega)) hs0.2.2.2.1 (by omega) hs0.2.2.2.1.2.1, fun M1 q1 => ?_⟩
  have hs2 := hs0.fr q1.2 (by omega)
  refine ⟨_, c_copyFrom h0.2.2.1.2 h1.2.2.1.2 ((h.2.2.2.2.1.fr f0 (by omega)).fr q1.2 (by omega)) hs2.2.2.2.2.1 (by omega) hs2.2.2.2.2.1.2.1, fun M2 q2 => ?_⟩
  have g2 : M2.1 k = M0.1 k := (q2.2.1 k (by omega)).trans (q1.2.1 k (by omega))
  have rws : ∀ m t, t + m = (sR s1).length → ∀ M3, rc_ M3 k (uR s1 ((sR s1).take t)) → fr_ k (k + 10) M M3 → LX6_copyFrom_109 k k1 (nI t) g M3 (fun M' => rc_ M' k s1 ∧ fr_ k (k + 10) M M') := by
    have h140 := hs1.2.2.2.2.2.2.2.2.1
    intro m
    induction m with
    | zero =>
      intro t ht M3 a1 a6
      have hs3 := hs1.fr a6 (by omega)
      refine bX6_copyFrom_109 h0 h1 ⟨fun _ => ⟨?_, a6⟩, fun hc => absurd (by rw [hs3.2.2.1, show t = (sR s1).length by omega]; exact Int32.le_refl _) hc⟩
      rw [show t = (sR s1).length by omega, List.take_length] at a1
      exact a1
    | succ m ih =>
      intro t ht M3 a1 a6
      have hs3 := hs1.fr a6 (by omega)
      have htl : t < (sR s1).length := by omega
      refine bX6_copyFrom_109 h0 h1 ⟨fun hc => absurd hc (nlt htl (by omega) hs3.2.2.1), fun _ => ⟨_, c_setOfRow h1 hs3 htl, fun v1 M4 q4 => ?_⟩⟩
      obtain ⟨rfl, rfl⟩ := q4
      refine ⟨_, c_witnessOfRow h1 hs3 htl, fun v2 M5 q5 => ?_⟩
      obtain ⟨rfl, rfl⟩ := q5
      refine ⟨_, c_pushRow h0 a1 (show ((sR s1).take t).length < 140 by rw [List.length_take]; omega) _ _, fun M6 q6 => ?_⟩
      rw [nI_1]
      refine ih (t + 1) (by omega) M6 ?_ (a6.tr q6.2)
      rw [tkr_succ htl]
      exact q6.1
  have fin : ∀ m t, t + m = 10 → ∀ M3, M3.1 k 0 = nI (sV s1) → M3.1 k 1 = sG s1 → cl_ M3 (k + 1) 48 (sL s1) → cl_ M3 (k + 3) 32 (sO s1) → (∀ v, v < 10 → M3.1 (k + 5) v = sS s1 v ∧ M3.1 (k + 6) v = sK s1 v) → (∀ v, v < t → M3.1 (k + 7) v = sT s1 v) → fr_ k (k + 10) M M3 → LX6_copyFrom_78 k k1 (nI t) g M3 (fun M' => rc_ M' k s1 ∧ fr_ k (k + 10) M M') := by
    intro m
    induction m with
    | zero =>
      intro t ht M3 a0 a1 a2 a3 a4 a5 a6
      have : t = 10 := by omega
      subst this
      refine bX6_copyFrom_78 h0 h1 ⟨fun _ => ?_, fun hc => absurd (by decide) hc⟩
      have f : fr_ k (k + 1) M3 (mj_wI M3 k 2 0) := fr_.wI (by omega) (by omega)
      refine rws (sR s1).length 0 (by omega) _ ⟨by rw [wI_k (by omega)]; exact a0, by rw [wI_k (by omega)]; exact a1, wI_s, a2.fr f (by omega), a3.fr f (by omega), fun v hv => by rw [f.1 (k + 5) (by omega)]; exact (a4 v hv).1, fun v hv => by rw [f.1 (k + 6) (by omega)]; exact (a4 v hv).2, fun v hv => by rw [f.1 (k + 7) (by omega)]; exact a5 v hv, Nat.zero_le _, fun i hi => absurd hi (Nat.not_lt_zero i), hs1.2.2.2.2.2.2.2.2.2.2⟩ (a6.tr (f.wd (by omega) (by omega)))
    | succ m ih =>
      intro t ht M3 a0 a1 a2 a3 a4 a5 a6
      have hs3 := hs1.fr a6 (by omega)
      refine bX6_copyFrom_78 h0 h1 ⟨fun hc => absurd hc (nlt (n := 10) (by omega) (by decide) rfl), fun _ => ⟨vp_in_nI (by omega) (by decide), vp_in_nI (by omega) (by decide), ?_⟩⟩
      rw [nI_clamp (by omega), nI_1, hs3.2.2.2.2.2.2.2.1 t (by omega)]
      have f : fr_ (k + 7) (k + 8) M3 (mj_wI M3 (k + 7) t (sT s1 t)) := fr_.wI (by omega) (by omega)
      refine ih (t + 1) (by omega) _ (by rw [f.1 k (by omega)]; exact a0) (by rw [f.1 k (by omega)]; exact a1) (a2.fr f (by omega)) (a3.fr f (by omega)) (fun v hv => ?_) (fun v hv => ?_) (a6.tr (f.wd (by omega) (by omega)))
      · rw [f.1 (k + 5) (by omega), f.1 (k + 6) (by omega)]; exact a4 v hv
      · by_cases hvt : v = t
        · subst hvt; exact wI_s
        · rw [wI_k (by omega)]; exact a5 v (by omega)
  have key : ∀ m t, t + m = 10 → ∀ M3, M3.1 k 0 = nI (sV s1) → M3.1 k 1 = sG s1 → cl_ M3 (k + 1) 48 (sL s1) → cl_ M3 (k + 3) 32 (sO s1) → (∀ v, v < t → M3.1 (k + 5) v = sS s1 v ∧ M3.1 (k + 6) v = sK s1 v) → fr_ k (k + 10) M M3 → LX6_copyFrom_40 k k1 (nI t) g M3 (fun M' => rc_ M' k s1 ∧ fr_ k (k + 10) M M') := by
    intro m
    induction m with
    | zero =>
      intro t ht M3 a0 a1 a2 a3 a4 a6
      have : t = 10 := by omega
      subst this
      exact bX6_copyFrom_40 h0 h1 ⟨fun _ => fin 10 0 (by omega) M3 a0 a1 a2 a3 a4 (fun v hv => absurd hv (Nat.not_lt_zero v)) a6, fun hc => absurd (by decide) hc⟩
    | succ m ih =>
      intro t ht M3 a0 a1 a2 a3 a4 a6
      have hs3 := hs1.fr a6 (by omega)
      have hin : vp_in (nI t) 10 := vp_in_nI (by omega) (by decide)
      refine bX6_copyFrom_40 h0 h1 ⟨fun hc => absurd hc (nlt (n := 10) (by omega) (by decide) rfl), fun _ => ⟨hin, hin, hin, hin, ?_⟩⟩
      rw [nI_clamp (by omega), nI_1, wI_k (by omega), hs3.2.2.2.2.2.1 t (by omega), hs3.2.2.2.2.2.2.1 t (by omega)]
      have f : fr_ (k + 5) (k + 7) M3 (mj_wI (mj_wI M3 (k + 5) t (sS s1 t)) (k + 6) t (sK s1 t)) := (fr_.wI (by omega) (by omega)).tr (fr_.wI (by omega) (by omega))
      refine ih (t + 1) (by omega) _ (by rw [f.1 k (by omega)]; exact a0) (by rw [f.1 k (by omega)]; exact a1) (a2.fr f (by omega)) (a3.fr f (by omega)) (fun v hv => ?_) (a6.tr (f.wd (by omega) (by omega)))
      by_cases hvt : v = t
      · subst hvt; exact ⟨by rw [wI_k (by omega)]; exact wI_s, wI_s⟩
      · rw [wI_k (by omega), wI_k (by omega), wI_k (by omega), wI_k (by omega)]; exact a4 v (by omega)
  exact key 10 0 (by omega) M2 (by rw [g2]; exact z0) (by rw [g2]; exact z1) (q1.1.fr q2.2 (by omega)) q2.1 (fun v hv => absurd hv (Nat.not_lt_zero v)) (((f0.wd (by omega) (by omega)).tr (q1.2.wd (by omega) (by omega))).tr (q2.2.wd (by omega) (by omega)))
/-- an assignment, extended by a row -/
def rec1 (r : Int32 × Int32) (a : Int32) : Int32 := if r.1 &&& tl a = 0 then (if r.2 &&& 1 = 0 then a ||| ((1 : Int32) <<< ((r.2 >>> ((1 : Int32) &&& 31)) &&& 31)) else a &&& (((1 : Int32) <<< ((r.2 >>> ((1 : Int32) &&& 31)) &&& 31)) ^^^ (-1))) else a
def recon (s : sg) (a : Int32) : Int32 := (sR s).foldr rec1 (a &&& act s)
theorem drop_step {L : List (Int32 × Int32)} {i : Nat} (h : i < L.length) : L.drop i = L.getD i (0, 0) :: L.drop (i + 1) := by
  rw [List.getD_eq_getElem?_getD, List.getElem?_eq_getElem h]
  exact List.drop_eq_getElem_cons h
theorem c_reconstruct (h0 : is6 g k) (h : rc_ M k s) (a : Int32) : kX6_reconstruct k a g M (fun r M' => M' = M ∧ r = recon s a) := by
  have h140 := h.2.2.2.2.2.2.2.2.1
  refine eX6_reconstruct h0 ⟨_, c_activeVariables h0 h, fun v1 M1 hq => ?_⟩
  obtain ⟨rfl, rfl⟩ := hq
  have key : ∀ i, i ≤ (sR s).length → LX6_reconstruct_14 k (((sR s).drop i).foldr rec1 (a &&& act s)) (nI i - 1) g M1 (fun r M' => M' = M1 ∧ r = recon s a) := by
    intro i
    induction i with
    | zero =>
      intro _
      refine bX6_reconstruct_14 h0 ⟨fun _ => ⟨rfl, rfl⟩, fun hc => absurd (by decide) hc⟩
    | succ i ih =>
      intro hi
      have hil : i < (sR s).length := by omega
      have nx := ih (by omega)
      rw [drop_step hil, List.foldr_cons] at nx
      have e1 : nI (i + 1) - 1 = nI i := nI_pred i
      have e2 : nI i + (-1) = nI i - 1 := by rw [Int32.sub_eq_add_neg]
      rw [e1]
      refine bX6_reconstruct_14 h0 ⟨fun hc => absurd hc (nI_pos (by omega)), fun _ => ⟨_, c_setOfRow h0 h hil, fun v2 M2 hq => ?_⟩⟩
      obtain ⟨rfl, rfl⟩ := hq
      refine ⟨_, c_trueLiterals _, fun v3 M3 hq => ?_⟩
      obtain ⟨rfl, rfl⟩ := hq
      rw [e2]
      obtain ⟨b, eb⟩ : ∃ z, z = ((sR s).drop (i + 1)).foldr rec1 (a &&& act s) := ⟨_, rfl⟩
      rw [← eb] at nx ⊢
      refine ⟨fun hc => ?_, fun hc => ⟨_, c_witnessOfRow h0 h hil, fun v4 M4 hq => ?_⟩⟩
      · have hc' : ¬ ((sR s).getD i (0, 0)).1 &&& tl b = 0 := hc
        have er : rec1 ((sR s).getD i (0, 0)) b = b := if_neg hc'
        rw [er] at nx; exact nx
      · obtain ⟨rfl, rfl⟩ := hq
        have hc' : ((sR s).getD i (0, 0)).1 &&& tl b = 0 := hc
        refine ⟨fun hb => ?_, fun hb => ?_⟩
        · have er : rec1 ((sR s).getD i (0, 0)) b = b &&& (((1 : Int32) <<< ((((sR s).getD i (0, 0)).2 >>> ((1 : Int32) &&& 31)) &&& 31)) ^^^ (-1)) := by unfold rec1; rw [if_pos hc', if_neg hb]
          rw [er] at nx; exact nx
        · have er : rec1 ((sR s).getD i (0, 0)) b = b ||| ((1 : Int32) <<< ((((sR s).getD i (0, 0)).2 >>> ((1 : Int32) &&& 31)) &&& 31)) := by unfold rec1; rw [if_pos hc', if_pos hb]
          rw [er] at nx; exact nx
  have h9 := key (sR s).length (Nat.le_refl _)
  rw [List.drop_length] at h9
  rw [h.2.2.1]
  exact h9
end ST3
