/-! THE STATE, second half -/
theorem xor1 : ∀ l, l < 20 → nI l ^^^ 1 = nI (fl l) := by decide +kernel
theorem sub1 : ∀ l, l < 20 → (1 : Int32) - (nI l &&& 1) = if l % 2 = 0 then 1 else 0 := by decide +kernel
theorem shr1 : ∀ l, l < 20 → nI l >>> ((1 : Int32) &&& 31) = nI (l / 2) := by decide +kernel
def pushS (s : sg) (x w : Int32) : sg := uR s (sR s ++ [(x, w)])
def addO (s : sg) (x : Int32) : sg := inc (uO s (sO s ++ [x])) x
def fixL (L : List Int32) (l : Nat) : List Int32 := (L.filter (fun c => decide (c &&& bi l = 0))).map (fun c => c &&& (bi (fl l) ^^^ (-1)))
def fixS (s : sg) (l : Nat) : sg := uL (pushS (uS s (l / 2) 1 (if l % 2 = 0 then 1 else 0)) (bi l) (nI l)) (if (fixL (sL s) l).any (fun c => decide (c = 0)) then [0] else fixL (sL s) l)
theorem gdr_last (P : List (Int32 × Int32)) (a : Int32 × Int32) : (P ++ [a]).getD P.length (0, 0) = a := by
  rw [List.getD_eq_getElem?_getD, List.getElem?_append_right (Nat.le_refl _), Nat.sub_self]; rfl
theorem gdr_left {P : List (Int32 × Int32)} {a : Int32 × Int32} {i : Nat} (h : i < P.length) : (P ++ [a]).getD i (0, 0) = P.getD i (0, 0) := by
  rw [List.getD_eq_getElem?_getD, List.getD_eq_getElem?_getD, List.getElem?_append_left h]
section ST2
variable {g : mj_S} {M : mj_M} {k : Nat} {s : sg}
theorem c_pushRow (h0 : is6 g k) (h : rc_ M k s) (hr : (sR s).length < 140) (x w : Int32) : kX6_pushRow k x w g M (fun M' => rc_ M' k (pushS s x w) ∧ fr_ k (k + 10) M M') := by
  obtain ⟨h1, h2, h3, h4, h5, h6, h7, h8, h9, h10, h11⟩ := h
  have hr2 : (sR s).length < 2 ^ 31 := by omega
  have a1 : (mj_wI M (k + 8) (Int32.toNatClampNeg (M.1 k 2)) x).1 k 2 = nI (sR s).length := by rw [show (mj_wI M (k + 8) (Int32.toNatClampNeg (M.1 k 2)) x).1 k = M.1 k from mj_up2_k _ _ (by omega)]; exact h3
  refine eX6_pushRow h0 ⟨fun hc => absurd hc (by rw [h3]; exact nI_pos hr2), fun _ => ⟨fun hc => ?_, fun _ => ⟨by rw [h3]; exact vp_in_nI hr (by decide), by rw [a1]; exact vp_in_nI hr (by decide), ?_⟩⟩⟩
  · rw [h3, show (140 : Int32) = nI 140 from rfl, nI_leI (by decide) hr2] at hc; omega
  · rw [a1, h3, nI_clamp hr2]
    have a2 : (mj_wI (mj_wI M (k + 8) (sR s).length x) (k + 9) (sR s).length w).1 k = M.1 k := by
      rw [show (mj_wI (mj_wI M (k + 8) (sR s).length x) (k + 9) (sR s).length w).1 k = (mj_wI M (k + 8) (sR s).length x).1 k from mj_up2_k _ _ (by omega)]; exact mj_up2_k _ _ (by omega)
    rw [a2, h3, nI_1]
    obtain ⟨M', eM⟩ : ∃ z, z = mj_wI (mj_wI (mj_wI M (k + 8) (sR s).length x) (k + 9) (sR s).length w) k 2 (nI ((sR s).length + 1)) := ⟨_, rfl⟩
    rw [← eM]
    have e : ∀ j, 1 ≤ j → j < 8 → M'.1 (k + j) = M.1 (k + j) := fun j hj1 hj2 => by
      rw [eM]; funext b; simp only [mj_wI, mj_up2]; rw [if_neg (by omega), if_neg (by omega), if_neg (by omega)]
    have ef : fr_ k (k + 10) M M' := by rw [eM]; exact ((fr_.wI (by omega) (by omega)).tr (fr_.wI (by omega) (by omega))).tr (fr_.wI (by omega) (by omega))
    have ec : ∀ kk nn LL, cl_ M kk nn LL → k + 1 ≤ kk → kk + 2 ≤ k + 8 → cl_ M' kk nn LL := fun kk nn LL hc hk1 hk2 => by
      obtain ⟨c1, c2, c3, c4⟩ := hc
      have q0 : M'.1 kk = M.1 kk := by have := e (kk - k) (by omega) (by omega); rwa [show k + (kk - k) = kk by omega] at this
      have q1 : M'.1 (kk + 1) = M.1 (kk + 1) := by have := e (kk + 1 - k) (by omega) (by omega); rwa [show k + (kk + 1 - k) = kk + 1 by omega] at this
      exact ⟨by rw [q0]; exact c1, c2, c3, fun i hi => by rw [q1]; exact c4 i hi⟩
    refine ⟨⟨?_, ?_, ?_, ec _ _ _ h4 (by omega) (by omega), ec _ _ _ h5 (by omega) (by omega), fun v hv => by rw [e 5 (by decide) (by decide)]; exact h6 v hv, fun v hv => by rw [e 6 (by decide) (by decide)]; exact h7 v hv, fun v hv => by rw [e 7 (by decide) (by decide)]; exact h8 v hv, ?_, fun i hi => ?_, h11⟩, ef⟩
    · rw [eM]; simp only [mj_wI, mj_up2]; rw [if_neg (by omega), if_neg (by omega), if_neg (by omega)]; exact h1
    · rw [eM]; simp only [mj_wI, mj_up2]; rw [if_neg (by omega), if_neg (by omega), if_neg (by omega)]; exact h2
    · rw [eM]; show mj_up2 _ k 2 _ k 2 = nI (sR s ++ [(x, w)]).length
      rw [mj_up2_s, List.length_append]; rfl
    · show (sR s ++ [(x, w)]).length ≤ 140
      rw [List.length_append]; show (sR s).length + 1 ≤ 140; omega
    · have hi2 : i < (sR s).length + 1 := by have : i < (sR s ++ [(x, w)]).length := hi; rwa [List.length_append] at this
      show M'.1 (k + 8) i = ((sR s ++ [(x, w)]).getD i (0, 0)).1 ∧ M'.1 (k + 9) i = ((sR s ++ [(x, w)]).getD i (0, 0)).2
      rw [eM]
      rcases Nat.lt_or_ge i (sR s).length with q | q
      · rw [gdr_left q]
        simp only [mj_wI, mj_up2]
        rw [if_neg (by omega), if_neg (by omega), if_neg (by omega), if_neg (by omega), if_neg (by omega), if_neg (by omega)]
        exact h10 i q
      · have : i = (sR s).length := by omega
        subst this
        rw [gdr_last]
        simp [mj_wI, mj_up2]
theorem c_addOriginal (h0 : is6 g k) (h : rc_ M k s) (x : Int32) (ho : (sO s).length < 32) (hl : x ≠ 0 → sL s ≠ [0] → (sL s).length < 48) : kX6_addOriginal k x g M (fun M' => rc_ M' k (addO s x) ∧ fr_ k (k + 10) M M') := by
  refine eX6_addOriginal h0 ⟨_, c_add h0.2.2.1.2 h.2.2.2.2.1 ho x, fun M1 hq => ⟨_, c_include h0 (h.O hq.2 hq.1) x hl, fun M2 hq2 => ⟨hq2.1, (hq.2.wd (by omega) (by omega)).tr (hq2.2.wd (by omega) (by omega))⟩⟩⟩
theorem c_fix (h0 : is6 g k) (h : rc_ M k s) {l : Nat} (hl : l < 20) (hr : (sR s).length < 140) : kX6_fix k (nI l) g M (fun M' => rc_ M' k (fixS s l) ∧ fr_ k (k + 10) M M') := by
  refine eX6_fix h0 ?_
  rw [shr1 l hl, sub1 l hl, xor1 l hl]
  refine ⟨_, c_retire h0 h (show l / 2 < 10 by omega) _ _, fun M1 q1 => ⟨_, c_pushRow h0 q1.1 hr (bi l) (nI l), fun M2 q2 => ⟨_, c_removeContaining h0.2.1.2 q2.1.2.2.2.1 (bi l), fun M3 q3 => ⟨_, c_strip h0.2.1.2 q3.1 (bi (fl l)), fun v4 M4 q4 => ?_⟩⟩⟩⟩
  have ff : fr_ k (k + 10) M M4 := ((q1.2.tr q2.2).tr (q3.2.wd (by omega) (by omega))).tr (q4.2.1.wd (by omega) (by omega))
  have hr4 : rc_ M4 k (uL (pushS (uS s (l / 2) 1 (if l % 2 = 0 then 1 else 0)) (bi l) (nI l)) (fixL (sL s) l)) := q2.1.L (q3.2.tr q4.2.1) q4.1
  have hv : v4 = if (fixL (sL s) l).any (fun c => decide (c = 0)) then 1 else 0 := q4.2.2
  refine ⟨fun hc => ?_, fun hc => ⟨_, c_collapse h0.2.1.2 hr4.2.2.2.1 (by decide), fun M5 q5 => ?_⟩⟩
  · rw [hv] at hc
    have := (if01 _).1.mp hc
    unfold fixS
    rw [this]
    exact ⟨hr4, ff⟩
  · rw [hv] at hc
    have := (if01 _).2.mp hc
    unfold fixS
    rw [this]
    exact ⟨hr4.L q5.2 q5.1, ff.tr (q5.2.wd (by omega) (by omega))⟩
end ST2
