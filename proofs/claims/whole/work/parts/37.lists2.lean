/-! CLAUSE LISTS: the methods with loops -/
theorem tk_succ {L : List Int32} {i : Nat} (h : i < L.length) : L.take (i + 1) = L.take i ++ [L.getD i 0] := by
  rw [List.take_succ, List.getElem?_eq_getElem h, List.getD_eq_getElem?_getD, List.getElem?_eq_getElem h]; rfl
theorem tk_all {L : List Int32} {i : Nat} (h : i = L.length) : L.take i = L := by rw [h, List.take_length]
theorem gd_last (P : List Int32) (a : Int32) : (P ++ [a]).getD P.length 0 = a := by
  rw [List.getD_eq_getElem?_getD, List.getElem?_append_right (Nat.le_refl _), Nat.sub_self]; rfl
theorem gd_erase (L : List Int32) (i t : Nat) : (L.eraseIdx i).getD t 0 = if t < i then L.getD t 0 else L.getD (t + 1) 0 := by
  rw [List.getD_eq_getElem?_getD, List.getElem?_eraseIdx]
  by_cases h : t < i
  · rw [if_pos h, if_pos h, List.getD_eq_getElem?_getD]
  · rw [if_neg h, if_neg h, List.getD_eq_getElem?_getD]
def lits (L : List Int32) : Nat := (L.map pc).sum
theorem lits_tk {L : List Int32} {i : Nat} (h : i < L.length) : lits (L.take (i + 1)) = lits (L.take i) + pc (L.getD i 0) := by
  rw [tk_succ h]; simp [lits]
theorem lits_le (L : List Int32) : lits L ≤ 32 * L.length := by
  induction L with
  | nil => simp [lits]
  | cons a t ih =>
    have := pc_le a
    simp only [lits, List.map_cons, List.sum_cons, List.length_cons] at ih ⊢
    omega
section CLT
variable {g : mj_S} {M : mj_M} {k n : Nat} {L : List Int32}
theorem cl_.done (h : cl_ M k n L) {i : Nat} (hi : i = L.length) : M.1 k 1 ≤ nI i := by rw [h.1, hi]; exact Int32.le_refl _
theorem cl_.more (h : cl_ M k n L) {i : Nat} (hi : i < L.length) : ¬ M.1 k 1 ≤ nI i := by rw [h.1]; exact nI_ge hi h.lt
theorem c_countLiterals (h0 : is0 g k n) (h : cl_ M k n L) : kX0_countLiterals k g M (fun v M' => M' = M ∧ v = nI (lits L)) := by
  refine eX0_countLiterals h0 ?_
  have key : ∀ m i, i + m = L.length → LX0_countLiterals_4 k n (nI (lits (L.take i))) (nI i) g M (fun v M' => M' = M ∧ v = nI (lits L)) := by
    intro m
    induction m with
    | zero => intro i hi; exact bX0_countLiterals_4 h0 ⟨fun _ => ⟨rfl, by rw [tk_all (by omega)]⟩, fun hc => absurd (h.done (by omega)) hc⟩
    | succ m ih =>
      intro i hi
      have hl : i < L.length := by omega
      refine bX0_countLiterals_4 h0 ⟨fun hc => absurd hc (h.more hl), fun _ => ⟨(h.at hl).1, _, c_bitCount _, fun v1 M1 hq => ?_⟩⟩
      obtain ⟨rfl, rfl⟩ := hq
      rw [(h.at hl).2, nI_add, nI_1, ← lits_tk hl]
      exact ih (i + 1) (by omega)
  exact key L.length 0 (by omega)
theorem c_countContaining (h0 : is0 g k n) (h : cl_ M k n L) {j : Nat} (hj : j < 32) : kX0_countContaining k (nI j) g M (fun v M' => M' = M ∧ v = nI (L.countP (fun c => bt c j))) := by
  refine eX0_countContaining h0 ?_
  have key : ∀ m i, i + m = L.length → LX0_countContaining_4 k n (nI j) (nI ((L.take i).countP (fun c => bt c j))) (nI i) g M (fun v M' => M' = M ∧ v = nI (L.countP (fun c => bt c j))) := by
    intro m
    induction m with
    | zero => intro i hi; exact bX0_countContaining_4 h0 ⟨fun _ => ⟨rfl, by rw [tk_all (by omega)]⟩, fun hc => absurd (h.done (by omega)) hc⟩
    | succ m ih =>
      intro i hi
      have hl : i < L.length := by omega
      have nx := ih (i + 1) (by omega)
      rw [tk_succ hl, List.countP_append] at nx
      refine bX0_countContaining_4 h0 ⟨fun hc => absurd hc (h.more hl), fun _ => ⟨(h.at hl).1, _, c_contains _ hj, fun v1 M1 hq => ?_⟩⟩
      obtain ⟨rfl, rfl⟩ := hq
      rw [(h.at hl).2, nI_1, nI_1]
      cases hb : bt (L.getD i 0) j with
      | true => rw [List.countP_singleton, hb] at nx; exact ⟨fun hc => absurd hc (by decide), fun _ => nx⟩
      | false => rw [List.countP_singleton, hb] at nx; exact ⟨fun _ => nx, fun hc => absurd rfl hc⟩
  exact key L.length 0 (by omega)
theorem c_isSatisfied (h0 : is0 g k n) (h : cl_ M k n L) (t : Int32) : kX0_isSatisfied k t g M (fun v M' => M' = M ∧ v = if L.all (fun c => !decide (c &&& t = 0)) then 1 else 0) := by
  refine eX0_isSatisfied h0 ?_
  have key : ∀ m i, i + m = L.length → (L.take i).all (fun c => !decide (c &&& t = 0)) = true → LX0_isSatisfied_2 k n t (nI i) g M (fun v M' => M' = M ∧ v = if L.all (fun c => !decide (c &&& t = 0)) then 1 else 0) := by
    intro m
    induction m with
    | zero => intro i hi ha; exact bX0_isSatisfied_2 h0 ⟨fun _ => ⟨rfl, by rw [tk_all (by omega)] at ha; rw [ha]; rfl⟩, fun hc => absurd (h.done (by omega)) hc⟩
    | succ m ih =>
      intro i hi ha
      have hl : i < L.length := by omega
      refine bX0_isSatisfied_2 h0 ⟨fun hc => absurd hc (h.more hl), fun _ => ⟨(h.at hl).1, fun hc => ?_, fun hc => ⟨rfl, ?_⟩⟩⟩
      · rw [(h.at hl).2] at hc
        rw [nI_1]
        refine ih (i + 1) (by omega) ?_
        rw [tk_succ hl, List.all_append, ha]
        show (true && (!decide (L.getD i 0 &&& t = 0) && true)) = true
        rw [decide_eq_false hc]; rfl
      · rw [(h.at hl).2] at hc
        rw [if_neg]
        intro hall
        have := List.all_eq_true.mp hall (L.getD i 0) (by rw [List.getD_eq_getElem?_getD, List.getElem?_eq_getElem hl]; exact List.getElem_mem hl)
        rw [decide_eq_true hc] at this
        cases this
  exact key L.length 0 (by omega) (by simp)
theorem c_countFalsified (h0 : is0 g k n) (h : cl_ M k n L) (t : Int32) : kX0_countFalsified k t g M (fun v M' => M' = M ∧ v = nI (L.countP (fun c => decide (c &&& t = 0)))) := by
  refine eX0_countFalsified h0 ?_
  have key : ∀ m i, i + m = L.length → LX0_countFalsified_4 k n t (nI ((L.take i).countP (fun c => decide (c &&& t = 0)))) (nI i) g M (fun v M' => M' = M ∧ v = nI (L.countP (fun c => decide (c &&& t = 0)))) := by
    intro m
    induction m with
    | zero => intro i hi; exact bX0_countFalsified_4 h0 ⟨fun _ => ⟨rfl, by rw [tk_all (by omega)]⟩, fun hc => absurd (h.done (by omega)) hc⟩
    | succ m ih =>
      intro i hi
      have hl : i < L.length := by omega
      have nx := ih (i + 1) (by omega)
      rw [tk_succ hl, List.countP_append, List.countP_singleton] at nx
      refine bX0_countFalsified_4 h0 ⟨fun hc => absurd hc (h.more hl), fun _ => ⟨(h.at hl).1, fun hc => ?_, fun hc => ?_⟩⟩
      · rw [(h.at hl).2] at hc
        rw [decide_eq_false hc] at nx
        rw [nI_1]; exact nx
      · rw [(h.at hl).2] at hc
        rw [decide_eq_true hc] at nx
        rw [nI_1, nI_1]; exact nx
  exact key L.length 0 (by omega)
/-- a list whose first places are L' and whose rest is as in L -/
def mid_ (M : mj_M) (k n : Nat) (L L' : List Int32) (i : Nat) : Prop := M.1 k 1 = nI L.length ∧ L.length ≤ n ∧ n ≤ 1000 ∧ L'.length ≤ i ∧ (∀ j, j < L'.length → M.1 (k + 1) j = L'.getD j 0) ∧ ∀ j, i ≤ j → j < L.length → M.1 (k + 1) j = L.getD j 0
theorem c_removeContaining (h0 : is0 g k n) (h : cl_ M k n L) (x : Int32) : kX0_removeContaining k x g M (fun M' => cl_ M' k n (L.filter (fun c => decide (c &&& x = 0))) ∧ fr_ k (k + 2) M M') := by
  refine eX0_removeContaining h0 ?_
  have key : ∀ m i, i + m = L.length → ∀ M1, mid_ M1 k n L ((L.take i).filter (fun c => decide (c &&& x = 0))) i → fr_ k (k + 2) M M1 → LX0_removeContaining_4 k n x (nI ((L.take i).filter (fun c => decide (c &&& x = 0))).length) (nI i) g M1 (fun M' => cl_ M' k n (L.filter (fun c => decide (c &&& x = 0))) ∧ fr_ k (k + 2) M M') := by
    intro m
    induction m with
    | zero =>
      intro i hi M1 hm hf
      obtain ⟨e1, e2, e3, e4, e5, e6⟩ := hm
      refine bX0_removeContaining_4 h0 ⟨fun _ => ⟨⟨?_, ?_, e3, fun j hj => ?_⟩, hf.tr (fr_.wI (by omega) (by omega))⟩, fun hc => absurd (by rw [e1]; exact nI_le (by omega) (by omega)) hc⟩
      · rw [tk_all (by omega)]; simp [mj_wI, mj_up2]
      · exact Nat.le_trans (List.length_filter_le _ _) e2
      · rw [show (mj_wI M1 k 1 _).1 (k + 1) = M1.1 (k + 1) from mj_up2_k _ _ (by omega)]
        rw [tk_all (by omega)] at e5
        exact e5 j hj
    | succ m ih =>
      intro i hi M1 hm hf
      have hl : i < L.length := by omega
      obtain ⟨e1, e2, e3, e4, e5, e6⟩ := hm
      have hat : M1.1 (k + 1) (nI i).toNatClampNeg = L.getD i 0 := by rw [nI_clamp (by omega)]; exact e6 i (Nat.le_refl _) hl
      have hin : vp_in (nI i) n := vp_in_nI (by omega) (by omega)
      refine bX0_removeContaining_4 h0 ⟨fun hc => ?_, fun _ => ⟨hin, fun hc => ?_, fun hc => ⟨hin, vp_in_nI (by omega) (by omega), ?_⟩⟩⟩
      · rw [e1] at hc; have := (nI_leI (by omega) (by omega)).mp hc; omega
      · rw [hat] at hc
        have ef : (L.take (i + 1)).filter (fun c => decide (c &&& x = 0)) = (L.take i).filter (fun c => decide (c &&& x = 0)) := by
          rw [tk_succ hl, List.filter_append, List.filter_cons_of_neg (by rw [decide_eq_false hc]; decide), List.filter_nil, List.append_nil]
        have nx := ih (i + 1) (by omega) M1
        rw [ef] at nx
        rw [nI_1]
        exact nx ⟨e1, e2, e3, by omega, e5, fun j h1 h2 => e6 j (by omega) h2⟩ hf
      · rw [hat] at hc
        have ef : (L.take (i + 1)).filter (fun c => decide (c &&& x = 0)) = (L.take i).filter (fun c => decide (c &&& x = 0)) ++ [L.getD i 0] := by
          rw [tk_succ hl, List.filter_append, List.filter_cons_of_pos (p := fun c => decide (c &&& x = 0)) (a := L.getD i 0) (decide_eq_true hc)]; rfl
        obtain ⟨P, eP⟩ : ∃ P, P = (L.take i).filter (fun c => decide (c &&& x = 0)) := ⟨_, rfl⟩
        rw [← eP] at e4 e5 ef ⊢
        rw [nI_clamp (n := P.length) (by omega), hat]
        have nx := ih (i + 1) (by omega) (mj_wI M1 (k + 1) P.length (L.getD i 0))
        rw [ef] at nx
        rw [nI_1, nI_1]
        rw [show (P ++ [L.getD i 0]).length = P.length + 1 by simp] at nx
        refine nx ⟨?_, e2, e3, by simp; omega, fun j hj => ?_, fun j h1 h2 => ?_⟩ (hf.tr (fr_.wI (by omega) (by omega)))
        · rw [show (mj_wI M1 (k + 1) P.length (L.getD i 0)).1 k = M1.1 k from mj_up2_k _ _ (by omega)]; exact e1
        · simp only [List.length_append, List.length_cons, List.length_nil] at hj
          simp only [mj_wI, mj_up2]
          rcases Nat.lt_or_ge j P.length with q | q
          · rw [if_neg (by omega), e5 j q, List.getD_eq_getElem?_getD, List.getD_eq_getElem?_getD, List.getElem?_append_left q]
          · have : j = P.length := by omega
            subst this
            simp
        · simp only [mj_wI, mj_up2]
          rw [if_neg (by omega)]
          exact e6 j (by omega) h2
  exact key L.length 0 (by omega) M ⟨h.1, h.2.1, h.2.2.1, by simp, by simp, fun j _ hj => h.2.2.2 j hj⟩ fr_.rf
theorem c_strip (h0 : is0 g k n) (h : cl_ M k n L) (x : Int32) : kX0_strip k x g M (fun v M' => cl_ M' k n (L.map (fun c => c &&& (x ^^^ (-1)))) ∧ fr_ k (k + 2) M M' ∧ v = if (L.map (fun c => c &&& (x ^^^ (-1)))).any (fun c => decide (c = 0)) then 1 else 0) := by
  refine eX0_strip h0 ?_
  obtain ⟨f, ef⟩ : ∃ f : Int32 → Int32, f = fun c => c &&& (x ^^^ (-1)) := ⟨_, rfl⟩
  have key : ∀ m i, i + m = L.length → ∀ M1, mid_ M1 k n L ((L.take i).map f) i → fr_ k (k + 2) M M1 → LX0_strip_4 k n x (if ((L.take i).map f).any (fun c => decide (c = 0)) then 1 else 0) (nI i) g M1 (fun v M' => cl_ M' k n (L.map f) ∧ fr_ k (k + 2) M M' ∧ v = if (L.map f).any (fun c => decide (c = 0)) then 1 else 0) := by
    intro m
    induction m with
    | zero =>
      intro i hi M1 hm hf
      obtain ⟨e1, e2, e3, e4, e5, e6⟩ := hm
      rw [tk_all (by omega)] at e5 ⊢
      refine bX0_strip_4 h0 ⟨fun _ => ⟨?_, ⟨by rw [e1]; simp, by simpa using e2, e3, e5⟩, hf, rfl⟩, fun hc => absurd (by rw [e1]; exact nI_le (by omega) (by omega)) hc⟩
      cases (L.map f).any (fun c => decide (c = 0)) <;> decide
    | succ m ih =>
      intro i hi M1 hm hf
      have hl : i < L.length := by omega
      obtain ⟨e1, e2, e3, e4, e5, e6⟩ := hm
      have hcl : (nI i).toNatClampNeg = i := nI_clamp (by omega)
      have hat : M1.1 (k + 1) i = L.getD i 0 := e6 i (Nat.le_refl _) hl
      have hin : vp_in (nI i) n := vp_in_nI (by omega) (by omega)
      have em : (L.take (i + 1)).map f = (L.take i).map f ++ [f (L.getD i 0)] := by rw [tk_succ hl, List.map_append]; rfl
      obtain ⟨P, eP⟩ : ∃ P, P = (L.take i).map f := ⟨_, rfl⟩
      have hPl : P.length = i := by rw [eP]; simp; omega
      rw [← eP] at e4 e5 em ⊢
      have nx := ih (i + 1) (by omega) (mj_wI M1 (k + 1) i (f (L.getD i 0)))
      rw [em, List.any_append] at nx
      have nx := nx ⟨by rw [show (mj_wI M1 (k + 1) i (f (L.getD i 0))).1 k = M1.1 k from mj_up2_k _ _ (by omega)]; exact e1, e2, e3, by simp; omega, fun j hj => by
          simp only [List.length_append, List.length_cons, List.length_nil] at hj
          simp only [mj_wI, mj_up2]
          rcases Nat.lt_or_ge j P.length with q | q
          · rw [if_neg (by omega), e5 j q, List.getD_eq_getElem?_getD, List.getD_eq_getElem?_getD, List.getElem?_append_left q]
          · have : j = P.length := by omega
            subst this
            rw [if_pos (by first | exact ⟨rfl, hPl⟩ | exact ⟨trivial, hPl⟩), gd_last], fun j h1 h2 => by
          simp only [mj_wI, mj_up2]
          rw [if_neg (by omega)]
          exact e6 j (by omega) h2⟩ (hf.tr (fr_.wI (by omega) (by omega)))
      have eself : (mj_wI M1 (k + 1) i (f (L.getD i 0))).1 (k + 1) i = f (L.getD i 0) := by simp [mj_wI, mj_up2]
      refine bX0_strip_4 h0 ⟨fun hc => ?_, fun _ => ⟨hin, hin, ?_⟩⟩
      · rw [e1] at hc; have := (nI_leI (by omega) (by omega)).mp hc; omega
      rw [hcl, hat, show (L.getD i 0 &&& (x ^^^ (-1))) = f (L.getD i 0) by rw [ef], eself, nI_1]
      cases hany : P.any (fun c => decide (c = 0)) with
      | true =>
        rw [hany] at nx
        exact ⟨fun _ => nx, fun hc => absurd hc (by decide)⟩
      | false =>
        rw [hany] at nx
        refine ⟨fun hc => absurd rfl hc, fun _ => ⟨hin, fun hz => ?_, fun hz => ?_⟩⟩
        · rw [show [f (L.getD i 0)].any (fun c => decide (c = 0)) = false by show (decide (f (L.getD i 0) = 0) || false) = false; rw [decide_eq_false hz]; rfl] at nx
          exact nx
        · rw [show [f (L.getD i 0)].any (fun c => decide (c = 0)) = true by show (decide (f (L.getD i 0) = 0) || false) = true; rw [decide_eq_true hz]; rfl] at nx
          exact nx
  have h9 := key L.length 0 (by omega) M ⟨h.1, h.2.1, h.2.2.1, by simp, by simp, fun j _ hj => h.2.2.2 j hj⟩ fr_.rf
  rw [ef] at h9
  exact h9
theorem c_copyFrom {k1 n1 : Nat} {L1 : List Int32} (h0 : is0 g k n) (h1 : is0 g k1 n1) (h : cl_ M k n L) (hc1 : cl_ M k1 n1 L1) (hd : k + 2 ≤ k1 ∨ k1 + 2 ≤ k) (hn : L1.length ≤ n) : kX0_copyFrom k k1 g M (fun M' => cl_ M' k n L1 ∧ fr_ k (k + 2) M M') := by
  refine eX0_copyFrom h0 h1 ⟨_, c_clear h0 h, fun M1 hq => ?_⟩
  have key : ∀ m i, i + m = L1.length → ∀ M2, cl_ M2 k n (L1.take i) → fr_ k (k + 2) M M2 → LX0_copyFrom_6 k n k1 n1 (nI i) g M2 (fun M' => cl_ M' k n L1 ∧ fr_ k (k + 2) M M') := by
    intro m
    induction m with
    | zero =>
      intro i hi M2 hm hf
      have hc2 : cl_ M2 k1 n1 L1 := hc1.fr hf (by omega)
      rw [tk_all (by omega)] at hm
      exact bX0_copyFrom_6 h0 h1 ⟨fun _ => ⟨hm, hf⟩, fun hc => absurd (hc2.done (by omega)) hc⟩
    | succ m ih =>
      intro i hi M2 hm hf
      have hl : i < L1.length := by omega
      have hc2 : cl_ M2 k1 n1 L1 := hc1.fr hf (by omega)
      refine bX0_copyFrom_6 h0 h1 ⟨fun hc => absurd hc (hc2.more hl), fun _ => ⟨_, c_at h1 hc2 (by have := hc2.lt; omega), fun v1 M3 hq => ?_⟩⟩
      obtain ⟨rfl, rfl⟩ := hq
      refine ⟨_, c_add h0 hm (by simp; omega) _, fun M4 hq => ?_⟩
      rw [nI_1]
      refine ih (i + 1) (by omega) M4 ?_ (hf.tr hq.2)
      rw [tk_succ hl]; exact hq.1
  exact key L1.length 0 (by omega) M1 hq.1 hq.2
theorem c_removeAt (h0 : is0 g k n) (h : cl_ M k n L) {i : Nat} (hi : i < L.length) : kX0_removeAt k (nI i) g M (fun M' => cl_ M' k n (L.eraseIdx i) ∧ fr_ k (k + 2) M M') := by
  have hlt := h.lt
  have hn1 := h.2.1
  have hn2 := h.2.2.1
  refine eX0_removeAt h0 ⟨fun hc => absurd hc (nI_pos (by omega)), fun _ => ⟨fun _ => ?_, fun hc => absurd (by rw [h.1]; exact nI_lt hi hlt) hc⟩⟩
  have key : ∀ m j, j + m = L.length → i + 1 ≤ j → ∀ M1, M1.1 k 1 = nI L.length → (∀ t, t < L.length → M1.1 (k + 1) t = if t < i then L.getD t 0 else if t + 1 < j then L.getD (t + 1) 0 else L.getD t 0) → fr_ k (k + 2) M M1 → LX0_removeAt_17 k n (nI j) g M1 (fun M' => cl_ M' k n (L.eraseIdx i) ∧ fr_ k (k + 2) M M') := by
    intro m
    induction m with
    | zero =>
      intro j hj hij M1 e1 e2 hf
      refine bX0_removeAt_17 h0 ⟨fun _ => ⟨⟨?_, ?_, hn2, fun t ht => ?_⟩, hf.tr (fr_.wI (by omega) (by omega))⟩, fun hc => absurd (by rw [e1]; exact nI_le (by omega) (by omega)) hc⟩
      · rw [e1, List.length_eraseIdx, if_pos hi]
        obtain ⟨z, hz⟩ : ∃ z, L.length = z + 1 := ⟨L.length - 1, by omega⟩
        rw [hz, nI_pred]; simp [mj_wI, mj_up2]
      · rw [List.length_eraseIdx, if_pos hi]; omega
      · rw [List.length_eraseIdx, if_pos hi] at ht
        rw [show (mj_wI M1 k 1 _).1 (k + 1) = M1.1 (k + 1) from mj_up2_k _ _ (by omega), e2 t (by omega), gd_erase]
        by_cases hti : t < i
        · rw [if_pos hti, if_pos hti]
        · rw [if_neg hti, if_neg hti, if_pos (by omega)]
    | succ m ih =>
      intro j hj hij M1 e1 e2 hf
      have hjl : j < L.length := by omega
      have es : nI j - 1 = nI (j - 1) := by
        obtain ⟨z, rfl⟩ : ∃ z, j = z + 1 := ⟨j - 1, by omega⟩
        rw [nI_pred]; rfl
      refine bX0_removeAt_17 h0 ⟨fun hc => ?_, fun _ => ⟨vp_in_nI (by omega) (by omega), ?_, ?_⟩⟩
      · rw [e1] at hc; have := (nI_leI (by omega) (by omega)).mp hc; omega
      · rw [es]; exact vp_in_nI (by omega) (by omega)
      · rw [es, nI_clamp (n := j) (by omega), nI_clamp (n := j - 1) (by omega), nI_1]
        refine ih (j + 1) (by omega) (by omega) _ ?_ (fun t ht => ?_) (hf.tr (fr_.wI (by omega) (by omega)))
        · rw [show (mj_wI M1 (k + 1) (j - 1) _).1 k = M1.1 k from mj_up2_k _ _ (by omega)]; exact e1
        · simp only [mj_wI, mj_up2]
          by_cases htj : t = j - 1
          · rw [if_pos (by first | exact ⟨rfl, htj⟩ | exact ⟨trivial, htj⟩), e2 j hjl, if_neg (by omega), if_neg (by omega), if_neg (by omega), if_pos (by omega), show t + 1 = j by omega]
          · rw [if_neg (by omega), e2 t ht]
            by_cases hti : t < i
            · rw [if_pos hti, if_pos hti]
            · rw [if_neg hti, if_neg hti]
              by_cases h3 : t + 1 < j
              · rw [if_pos h3, if_pos (by omega)]
              · rw [if_neg h3, if_neg (by omega)]
  rw [nI_1]
  refine key (L.length - (i + 1)) (i + 1) (by omega) (Nat.le_refl _) M h.1 (fun t ht => ?_) fr_.rf
  rw [h.2.2.2 t ht]
  by_cases hti : t < i
  · rw [if_pos hti]
  · rw [if_neg hti, if_neg (by omega)]
end CLT
