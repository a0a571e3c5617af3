/-! CLAUSE LISTS: what their methods do, in words of lists -/
/-- the object at k holds the list L in a row of n places -/
def cl_ (M : mj_M) (k n : Nat) (L : List Int32) : Prop := M.1 k 1 = nI L.length ∧ L.length ≤ n ∧ n ≤ 1000 ∧ ∀ i, i < L.length → M.1 (k + 1) i = L.getD i 0
/-- cells outside lo .. hi are as before -/
def fr_ (lo hi : Nat) (M M' : mj_M) : Prop := (∀ a, (a < lo ∨ hi ≤ a) → M'.1 a = M.1 a) ∧ M'.2 = M.2
theorem fr_.rf {lo hi : Nat} {M : mj_M} : fr_ lo hi M M := ⟨fun _ _ => rfl, rfl⟩
theorem fr_.tr {lo hi : Nat} {M M1 M2 : mj_M} (h1 : fr_ lo hi M M1) (h2 : fr_ lo hi M1 M2) : fr_ lo hi M M2 := ⟨fun a h => (h2.1 a h).trans (h1.1 a h), h2.2.trans h1.2⟩
theorem fr_.wd {lo hi lo' hi' : Nat} {M M1 : mj_M} (h1 : fr_ lo hi M M1) (hl : lo' ≤ lo) (hh : hi ≤ hi') : fr_ lo' hi' M M1 := ⟨fun a h => h1.1 a (by omega), h1.2⟩
theorem fr_.wI {lo hi k j : Nat} {M : mj_M} {v : Int32} (h1 : lo ≤ k) (h2 : k < hi) : fr_ lo hi M (mj_wI M k j v) := ⟨fun a h => mj_up2_k _ _ (by omega), rfl⟩
theorem cl_.fr {M M' : mj_M} {k n lo hi : Nat} {L : List Int32} (h : cl_ M k n L) (hf : fr_ lo hi M M') (hk : k + 2 ≤ lo ∨ hi ≤ k) : cl_ M' k n L := by
  obtain ⟨h1, h2, h3, h4⟩ := h
  have e0 : M'.1 k = M.1 k := hf.1 k (by omega)
  have e1 : M'.1 (k + 1) = M.1 (k + 1) := hf.1 (k + 1) (by omega)
  exact ⟨by rw [e0]; exact h1, h2, h3, fun i hi => by rw [e1]; exact h4 i hi⟩
theorem cl_.at {M : mj_M} {k n i : Nat} {L : List Int32} (h : cl_ M k n L) (hi : i < L.length) : vp_in (nI i) n ∧ M.1 (k + 1) (nI i).toNatClampNeg = L.getD i 0 := by
  obtain ⟨h1, h2, h3, h4⟩ := h
  refine ⟨vp_in_nI (by omega) (by omega), ?_⟩
  rw [nI_clamp (by omega)]
  exact h4 i hi
theorem cl_.lt {M : mj_M} {k n : Nat} {L : List Int32} (h : cl_ M k n L) : L.length < 2 ^ 31 := by have := h.2.1; have := h.2.2.1; omega
section CLS
variable {g : mj_S} {M : mj_M} {k n : Nat} {L : List Int32}
theorem c_size (h0 : is0 g k n) (h : cl_ M k n L) : kX0_size k g M (fun v M' => M' = M ∧ v = nI L.length) := eX0_size h0 ⟨rfl, h.1⟩
theorem c_at (h0 : is0 g k n) (h : cl_ M k n L) {i : Nat} (hi : i < 2 ^ 31) : kX0_at k (nI i) g M (fun v M' => M' = M ∧ v = L.getD i 0) := by
  refine eX0_at h0 ⟨fun hc => absurd hc (nI_pos hi), fun _ => ⟨fun hc => ⟨rfl, ?_⟩, fun hc => ?_⟩⟩
  · rw [h.1] at hc
    have := (nI_leI h.lt hi).mp hc
    rw [List.getD_eq_getElem?_getD, List.getElem?_eq_none this]; rfl
  · rw [h.1] at hc
    have hl : i < L.length := by
      rcases Nat.lt_or_ge i L.length with q | q
      · exact q
      · exact absurd (nI_le q hi) hc
    exact ⟨(h.at hl).1, rfl, (h.at hl).2⟩
theorem c_add (h0 : is0 g k n) (h : cl_ M k n L) (hl : L.length < n) (x : Int32) : kX0_add k x g M (fun M' => cl_ M' k n (L ++ [x]) ∧ fr_ k (k + 2) M M') := by
  have hn := h.2.2.1
  refine eX0_add h0 ⟨fun hc => ?_, fun hc => ⟨?_, ?_⟩⟩
  · rw [h.1] at hc
    have := (nI_leI (by omega) h.lt).mp hc
    omega
  · rw [h.1]; exact vp_in_nI hl (by omega)
  · have e1 : (mj_wI M (k + 1) (Int32.toNatClampNeg (M.1 k 1)) x).1 k 1 = nI L.length := by
      rw [show (mj_wI M (k + 1) (Int32.toNatClampNeg (M.1 k 1)) x).1 k = M.1 k from mj_up2_k _ _ (by omega)]; exact h.1
    rw [e1, h.1, nI_clamp h.lt, nI_1]
    refine ⟨⟨?_, by simp; omega, hn, fun i hi => ?_⟩, (fr_.wI (by omega) (by omega)).tr (fr_.wI (by omega) (by omega))⟩
    · simp [mj_wI, mj_up2]
    · simp only [List.length_append, List.length_cons, List.length_nil] at hi
      simp only [mj_wI, mj_up2]
      rw [if_neg (by omega)]
      rcases Nat.lt_or_ge i L.length with q | q
      · rw [if_neg (by omega), h.2.2.2 i q, List.getD_eq_getElem?_getD, List.getD_eq_getElem?_getD, List.getElem?_append_left q]
      · have : i = L.length := by omega
        subst this
        simp
theorem c_put (h0 : is0 g k n) (h : cl_ M k n L) {i : Nat} (hi : i < L.length) (x : Int32) : kX0_put k (nI i) x g M (fun M' => cl_ M' k n (L.set i x) ∧ fr_ k (k + 2) M M') := by
  have h31 : i < 2 ^ 31 := Nat.lt_trans hi h.lt
  refine eX0_put h0 ⟨fun hc => absurd hc (nI_pos h31), fun _ => ⟨fun hc => ?_, fun hc => ⟨(h.at hi).1, ?_⟩⟩⟩
  · rw [h.1] at hc; have := (nI_leI h.lt h31).mp hc; omega
  · rw [nI_clamp h31]
    refine ⟨⟨?_, by simpa using h.2.1, h.2.2.1, fun j hj => ?_⟩, fr_.wI (by omega) (by omega)⟩
    · rw [show (mj_wI M (k + 1) i x).1 k = M.1 k from mj_up2_k _ _ (by omega), h.1]; simp
    · simp only [List.length_set] at hj
      simp only [mj_wI, mj_up2]
      by_cases hji : j = i
      · subst hji; simp [hj]
      · rw [if_neg (by omega), h.2.2.2 j hj, List.getD_eq_getElem?_getD, List.getD_eq_getElem?_getD, List.getElem?_set_ne (fun e => hji e.symm)]
theorem c_clear (h0 : is0 g k n) (h : cl_ M k n L) : kX0_clear k g M (fun M' => cl_ M' k n [] ∧ fr_ k (k + 2) M M') := by
  refine eX0_clear h0 ⟨⟨?_, by simp, h.2.2.1, fun i hi => by simp at hi⟩, fr_.wI (by omega) (by omega)⟩
  simp [mj_wI, mj_up2]; exact nI_0.symm
theorem c_collapse (h0 : is0 g k n) (h : cl_ M k n L) (hn : 0 < n) : kX0_collapse k g M (fun M' => cl_ M' k n [0] ∧ fr_ k (k + 2) M M') := by
  refine eX0_collapse h0 ⟨_, c_clear h0 h, fun M1 h1 => ⟨_, c_add h0 h1.1 (by simpa using hn) 0, fun M2 h2 => ⟨by simpa using h2.1, h1.2.tr h2.2⟩⟩⟩
theorem c_isContradictory (h0 : is0 g k n) (h : cl_ M k n L) : kX0_isContradictory k g M (fun v M' => M' = M ∧ v = if L = [0] then 1 else 0) := by
  refine eX0_isContradictory h0 ⟨fun hc => ⟨rfl, ?_⟩, fun hc => ⟨_, c_at h0 h (i := 0) (by decide), fun v1 M1 hq => ?_⟩⟩
  · rw [if_neg]
    intro e; subst e; exact hc (by rw [h.1]; rfl)
  · obtain ⟨rfl, rfl⟩ := hq
    rw [h.1] at hc
    have hl : L.length = 1 := (nI_eq h.lt (by decide)).mp hc
    obtain ⟨a, rfl⟩ := List.length_eq_one_iff.mp hl
    refine ⟨fun hv => ⟨rfl, ?_⟩, fun hv => ⟨rfl, ?_⟩⟩
    · rw [if_neg]; intro e; exact hv (by simpa using e)
    · rw [if_pos]; simpa using hv
theorem c_has (h0 : is0 g k n) (h : cl_ M k n L) (x : Int32) : kX0_has k x g M (fun v M' => M' = M ∧ v = if x ∈ L then 1 else 0) := by
  refine eX0_has h0 ?_
  have key : ∀ m i, i + m = L.length → (∀ j, j < i → L.getD j 0 ≠ x) → LX0_has_2 k n x (nI i) g M (fun v M' => M' = M ∧ v = if x ∈ L then 1 else 0) := by
    intro m
    induction m with
    | zero =>
      intro i hi hno
      refine bX0_has_2 h0 ⟨fun _ => ⟨rfl, ?_⟩, fun hc => absurd (by rw [h.1]; exact nI_le (by omega) (by have := h.lt; omega)) hc⟩
      rw [if_neg]
      intro hm
      obtain ⟨j, hj, e⟩ := List.getElem_of_mem hm
      refine hno j (by omega) ?_
      rw [List.getD_eq_getElem?_getD, List.getElem?_eq_getElem hj]; exact e
    | succ m ih =>
      intro i hi hno
      have hil : i < L.length := by omega
      refine bX0_has_2 h0 ⟨fun hc => ?_, fun hc => ⟨(h.at hil).1, fun hv => ?_, fun hv => ⟨rfl, ?_⟩⟩⟩
      · rw [h.1] at hc; have := (nI_leI h.lt (by have := h.lt; omega)).mp hc; omega
      · rw [nI_1]
        refine ih (i + 1) (by omega) (fun j hj => ?_)
        rcases Nat.lt_or_ge j i with q | q
        · exact hno j q
        · have : j = i := by omega
          subst this
          rw [(h.at hil).2] at hv; exact hv
      · rw [if_pos]
        rw [(h.at hil).2, List.getD_eq_getElem?_getD, List.getElem?_eq_getElem hil] at hv
        rw [← hv]; exact List.getElem_mem hil
  exact key L.length 0 (by omega) (fun j hj => by omega)
end CLS
