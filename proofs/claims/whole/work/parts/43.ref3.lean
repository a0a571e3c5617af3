/-! THE REFERENCE'S ROW: removing, fixing, extending, beginning anew -/
theorem and_bi {c : Int32} {l : Nat} (hl : l < 32) : c &&& bi l = 0 ↔ bt c l = false := by
  rw [bz]
  constructor
  · intro h
    have := h l hl
    rw [b_and, b_bi hl hl, decide_eq_true rfl, Bool.and_true] at this; exact this
  · intro h i hi
    rw [b_and, b_bi hl hi]
    by_cases e : i = l
    · subst e; rw [h]; rfl
    · rw [decide_eq_false e, Bool.and_false]
theorem m1 (i : Nat) : nI (i + 1) + (-1) = nI i := pk_m1 i
theorem m1' (i : Nat) : nI i + (-1) = nI i - 1 := by rw [Int32.sub_eq_add_neg]
theorem m1lt : nI 0 - 1 < 0 := by decide
section RE3
variable {g : mj_S} {M : mj_M} {k : Nat} {s : sg}
theorem r_cA (h0 : is10 g k) {i : Nat} {x : Int32} (hi : i < 48) (h : M.1 (k + 1) (66 + i) = x) : kX10_clauseAt k (nI i) g M (fun v M' => M' = M ∧ v = x) := by
  refine eX10_clauseAt h0 ?_
  rw [i66]
  exact ⟨vp_in_nI (by omega) (by decide), rfl, by rw [nI_clamp (by omega)]; exact h⟩
theorem r_removes (h0 : is10 g k) (h : rr_ M k s) {i : Nat} (hi : i < (sL s).length) : kX10_removes k (nI i) g M (fun M' => rr_ M' k (uL s ((sL s).eraseIdx i)) ∧ fr_ (k + 1) (k + 2) M M') := by
  have h48 := h.n48
  obtain ⟨n, en⟩ : ∃ n, (sL s).length = n + 1 := ⟨(sL s).length - 1, by omega⟩
  refine eX10_removes h0 ?_
  rw [h.n, en, nI_pred, t65]
  have key : ∀ m j, j + m = n → i ≤ j → ∀ M1, M1.1 (k + 1) 65 = nI n → (∀ t, t < n + 1 → M1.1 (k + 1) (66 + t) = if t < i then (sL s).getD t 0 else if t < j then (sL s).getD (t + 1) 0 else (sL s).getD t 0) → (∀ b, b < 65 ∨ 114 ≤ b → M1.1 (k + 1) b = M.1 (k + 1) b) → fr_ (k + 1) (k + 2) M M1 → LX10_removes_13 k (nI j) g M1 (fun M' => rr_ M' k (uL s ((sL s).eraseIdx i)) ∧ fr_ (k + 1) (k + 2) M M') := by
    intro m
    induction m with
    | zero =>
      intro j hj hij M1 e1 e2 e3 hf
      refine bX10_removes_13 h0 ⟨fun _ => ⟨?_, hf⟩, fun hc => absurd (by rw [t65, e1]; exact nI_le (by omega) (by omega)) hc⟩
      have el : ((sL s).eraseIdx i).length = n := by rw [List.length_eraseIdx, if_pos hi]; omega
      refine ra_L h (by rw [el]; exact e1) (by omega) (fun t ht => ?_) e3
      rw [el] at ht
      rw [e2 t (by omega), gd_erase]
      by_cases hti : t < i
      · rw [if_pos hti, if_pos hti]
      · rw [if_neg hti, if_neg hti, if_pos (by omega)]
    | succ m ih =>
      intro j hj hij M1 e1 e2 e3 hf
      refine bX10_removes_13 h0 ⟨fun hc => absurd hc (nlt (n := n) (by omega) (by omega) (by rw [t65]; exact e1)), fun _ => ?_⟩
      rw [i66, nI_1, nI_1, nI_clamp (n := 66 + j) (by omega), nI_clamp (n := 66 + j + 1) (by omega)]
      refine ⟨vp_in_nI (by omega) (by decide), vp_in_nI (by omega) (by decide), ih (j + 1) (by omega) (by omega) _ ?_ (fun t ht => ?_) (fun b hb => ?_) (hf.tr (fr_.wI (by omega) (by omega)))⟩
      · rw [wI_k (by omega)]; exact e1
      · by_cases htj : t = j
        · subst htj
          rw [wI_s, show 66 + t + 1 = 66 + (t + 1) from rfl, e2 (t + 1) (by omega), if_neg (by omega), if_neg (by omega), if_neg (by omega), if_pos (by omega)]
        · rw [wI_k (by omega), e2 t ht]
          by_cases h1 : t < i
          · rw [if_pos h1, if_pos h1]
          · rw [if_neg h1, if_neg h1]
            by_cases h2 : t < j
            · rw [if_pos h2, if_pos (by omega)]
            · rw [if_neg h2, if_neg (by omega)]
      · rw [wI_k (by omega)]; exact e3 b hb
  refine key (n - i) i (by omega) (Nat.le_refl _) _ ?_ (fun t ht => ?_) (fun b hb => ?_) (fr_.wI (by omega) (by omega))
  · rw [wI_s]
  · rw [wI_k (by omega), h.at (by omega)]
    by_cases h1 : t < i
    · rw [if_pos h1]
    · rw [if_neg h1, if_neg h1]
  · rw [wI_k (by omega)]
theorem ra_S {a a' : Nat → Int32} {v : Nat} {x y : Int32} (h : ra_ a s) (hv : v < 10) (h1 : a' (12 + v) = x) (h2 : a' (22 + v) = y) (ho : ∀ j, j ≠ 12 + v → j ≠ 22 + v → a' j = a j) : ra_ a' (uS s v x y) := by
  obtain ⟨c1, c2, c3, c4, c5, c6, c7, c8, c9, c10, c11, c12, c13, c14, c15⟩ := h
  have hb : ∀ j, 32 ≤ j → a' j = a j := fun j hj => ho j (by omega) (by omega)
  refine ⟨by rw [ho 0 (by omega) (by omega)]; exact c1, by rw [ho 1 (by omega) (by omega)]; exact c2, fun t ht => by rw [ho _ (by omega) (by omega)]; exact c3 t ht, fun w hw => ?_, fun w hw => ?_, by rw [hb 32 (by omega)]; exact c6, c7, fun i hi => by rw [hb _ (by omega)]; exact c8 i hi, by rw [hb 65 (by omega)]; exact c9, c10, fun i hi => by rw [hb _ (by omega)]; exact c11 i hi, by rw [hb 114 (by omega)]; exact c12, c13, fun i hi => by rw [hb _ (by omega), hb _ (by omega)]; exact c14 i hi, c15⟩
  · show a' (12 + w) = upd (sS s) v x w
    by_cases e : w = v
    · subst e; rw [h1]; simp [upd]
    · rw [ho _ (by omega) (by omega), c4 w hw]; simp [upd, e]
  · show a' (22 + w) = upd (sK s) v y w
    by_cases e : w = v
    · subst e; rw [h2]; simp [upd]
    · rw [ho _ (by omega) (by omega), c5 w hw]; simp [upd, e]
theorem fixL_tk {L : List Int32} {i l : Nat} (hi : i < L.length) : fixL (L.take (i + 1)) l = if L.getD i 0 &&& bi l = 0 then fixL (L.take i) l ++ [L.getD i 0 &&& (bi (fl l) ^^^ (-1))] else fixL (L.take i) l := by
  unfold fixL
  rw [tk_succ hi, List.filter_append, List.map_append]
  by_cases hc : L.getD i 0 &&& bi l = 0
  · rw [if_pos hc, List.filter_cons_of_pos (by simpa using hc)]; rfl
  · rw [if_neg hc, List.filter_cons_of_neg (by simpa using hc)]; simp
theorem fixL_le {L : List Int32} {l : Nat} : (fixL L l).length ≤ L.length := by
  unfold fixL; rw [List.length_map]; exact List.length_filter_le _ _
theorem r_fixes (h0 : is10 g k) (h : rr_ M k s) {l : Nat} (hl : l < 20) (hr : (sR s).length < 140) : kX10_fixes k (nI l) g M (fun M' => rr_ M' k (fixS s l) ∧ fr_ (k + 1) (k + 2) M M') := by
  have fin : ∀ Mp, rr_ Mp k (pushS (uS s (l / 2) 1 (if l % 2 = 0 then 1 else 0)) (bi l) (nI l)) → fr_ (k + 1) (k + 2) M Mp → LX10_fixes_49 k (nI l) 0 0 0 g Mp (fun M' => rr_ M' k (fixS s l) ∧ fr_ (k + 1) (k + 2) M M') := by
    intro Mp hp hfp
    have h48 : (sL s).length ≤ 48 := hp.n48
    have key : ∀ m i, i + m = (sL s).length → ∀ M1, M1.1 (k + 1) 65 = nI (sL s).length → (∀ t, t < (fixL ((sL s).take i) l).length → M1.1 (k + 1) (66 + t) = (fixL ((sL s).take i) l).getD t 0) → (∀ t, i ≤ t → t < (sL s).length → M1.1 (k + 1) (66 + t) = (sL s).getD t 0) → (∀ b, b < 65 ∨ 114 ≤ b → M1.1 (k + 1) b = Mp.1 (k + 1) b) → fr_ (k + 1) (k + 2) M M1 → LX10_fixes_49 k (nI l) (nI (fixL ((sL s).take i) l).length) (if (fixL ((sL s).take i) l).any (fun c => decide (c = 0)) then 1 else 0) (nI i) g M1 (fun M' => rr_ M' k (fixS s l) ∧ fr_ (k + 1) (k + 2) M M') := by
      intro m
      induction m with
      | zero =>
        intro i hi M1 e1 e2 e3 e4 hf
        have hfl : (fixL (sL s) l).length ≤ (sL s).length := fixL_le
        rw [tk_all (by omega)] at e2 ⊢
        refine bX10_fixes_49 h0 ⟨fun _ => ?_, fun hc => absurd (by rw [t65, e1]; exact nI_le (by omega) (by omega)) hc⟩
        rw [t65]
        have r1 : rr_ (mj_wI M1 (k + 1) 65 (nI (fixL (sL s) l).length)) k (uL (pushS (uS s (l / 2) 1 (if l % 2 = 0 then 1 else 0)) (bi l) (nI l)) (fixL (sL s) l)) := by
          refine ra_L hp ?_ (by omega) (fun t ht => ?_) (fun b hb => ?_)
          · rw [wI_s]
          · rw [wI_k (by omega)]; exact e2 t ht
          · rw [wI_k (by omega)]; exact e4 b hb
        have f1 : fr_ (k + 1) (k + 2) M (mj_wI M1 (k + 1) 65 (nI (fixL (sL s) l).length)) := hf.tr (fr_.wI (by omega) (by omega))
        refine ⟨fun hc => ⟨?_, f1⟩, fun hc => ⟨_, r_breaks h0 r1, fun M2 hq => ⟨?_, f1.tr hq.2⟩⟩⟩
        · have := (if01 _).1.mp hc
          unfold fixS; rw [this]; exact r1
        · have := (if01 _).2.mp hc
          unfold fixS; rw [this]; exact hq.1
      | succ m ih =>
        intro i hi M1 e1 e2 e3 e4 hf
        have hil : i < (sL s).length := by omega
        have nx := ih (i + 1) (by omega)
        have hfl : (fixL ((sL s).take i) l).length ≤ i := Nat.le_trans fixL_le (by rw [List.length_take]; omega)
        refine bX10_fixes_49 h0 ⟨fun hc => absurd hc (nlt hil (by omega) (by rw [t65]; exact e1)), fun _ => ⟨_, r_cA h0 (by omega) (e3 i (Nat.le_refl _) hil), fun v2 M2 hq => ?_⟩⟩
        obtain ⟨rfl, rfl⟩ := hq
        refine ⟨_, r_has _ (show l < 32 by omega), fun v3 M3 hq => ?_⟩
        obtain ⟨rfl, rfl⟩ := hq
        rw [fixL_tk hil] at nx
        refine ⟨fun hb => ?_, fun hb => ?_⟩
        · have hb' := (if01 _).2.mp hb
          rw [if_neg (by rw [and_bi (by omega), hb']; decide)] at nx
          rw [nI_1]
          exact nx M3 e1 e2 (fun t h1 h2 => e3 t (by omega) h2) e4 hf
        · have hb' := (if01 _).1.mp hb
          rw [if_pos ((and_bi (by omega)).mpr hb'), List.any_append, List.length_append] at nx
          rw [xor1 l hl, i66, nI_1, nI_1, nI_clamp (n := 66 + _) (by omega)]
          rw [show [(sL s).getD i 0 &&& (bi (fl l) ^^^ (-1))].length = 1 from rfl, show [(sL s).getD i 0 &&& (bi (fl l) ^^^ (-1))].any (fun c => decide (c = 0)) = (decide ((sL s).getD i 0 &&& (bi (fl l) ^^^ (-1)) = 0) || false) from rfl] at nx
          have nx2 := nx (mj_wI M3 (k + 1) (66 + (fixL ((sL s).take i) l).length) ((sL s).getD i 0 &&& (bi (fl l) ^^^ (-1)))) (by rw [wI_k (by omega)]; exact e1) (fun t ht => by
            rcases Nat.lt_or_ge t (fixL ((sL s).take i) l).length with q | q
            · rw [wI_k (by omega), e2 t q, List.getD_eq_getElem?_getD, List.getD_eq_getElem?_getD, List.getElem?_append_left q]
            · have : t = (fixL ((sL s).take i) l).length := by omega
              subst this
              rw [wI_s, gd_last]) (fun t h1 h2 => by rw [wI_k (by omega)]; exact e3 t (by omega) h2) (fun b hb => by rw [wI_k (by omega)]; exact e4 b hb) (hf.tr (fr_.wI (by omega) (by omega)))
          refine ⟨vp_in_nI (by omega) (by decide), fun hz => ?_, fun hz => ⟨fun hy => ?_, fun hy => ?_⟩⟩
          · rw [(if01 _).2.mp hz] at nx2; exact nx2
          · have hy' : ¬ (sL s).getD i 0 &&& (bi (fl l) ^^^ (-1)) = 0 := hy
            rw [(if01 _).1.mp hz, decide_eq_false hy'] at nx2; exact nx2
          · have hy' : (sL s).getD i 0 &&& (bi (fl l) ^^^ (-1)) = 0 := hy
            rw [(if01 _).1.mp hz, decide_eq_true hy'] at nx2; exact nx2
    have k0 := key (sL s).length 0 (by omega) Mp hp.2.2.2.2.2.2.2.2.1 (fun t ht => absurd ht (by simp [fixL])) (fun t _ ht => hp.at ht) (fun b _ => rfl) hfp
    exact k0
  refine eX10_fixes h0 ?_
  rw [div2 l hl, i12, i22, nI_clamp (n := 12 + l / 2) (by omega), nI_clamp (n := 22 + l / 2) (by omega)]
  refine ⟨vp_in_nI (by omega) (by decide), fun hc => ⟨vp_in_nI (by omega) (by decide), _, r_pushes (s := uS s (l / 2) 1 0) h0 ?_ hr _ _, fun M1 hq => ?_⟩, fun hc => ⟨vp_in_nI (by omega) (by decide), _, r_pushes (s := uS s (l / 2) 1 1) h0 ?_ hr _ _, fun M1 hq => ?_⟩⟩
  · refine ra_S h (by omega) ?_ ?_ (fun j h1 h2 => ?_)
    · rw [wI_k (by omega), wI_s]
    · rw [wI_s]
    · rw [wI_k (by omega), wI_k (by omega)]
  · refine fin M1 ?_ (((fr_.wI (by omega) (by omega)).tr (fr_.wI (by omega) (by omega))).tr hq.2)
    rw [← div2 l hl, rem2 l hl] at hc
    rw [if_neg hc]; exact hq.1
  · refine ra_S h (by omega) ?_ ?_ (fun j h1 h2 => ?_)
    · rw [wI_k (by omega), wI_s]
    · rw [wI_s]
    · rw [wI_k (by omega), wI_k (by omega)]
  · refine fin M1 ?_ (((fr_.wI (by omega) (by omega)).tr (fr_.wI (by omega) (by omega))).tr hq.2)
    rw [← div2 l hl, rem2 l hl] at hc
    rw [if_pos hc]; exact hq.1
theorem and1 : ∀ l, l < 20 → (nI l &&& 1 = 0 ↔ l % 2 = 0) := by decide +kernel
theorem r_extendedBy (h0 : is10 g k) (h : rr_ M k s) (hw : ∀ r, r ∈ sR s → ∃ l, l < 20 ∧ r.2 = nI l) (a : Int32) : kX10_extendedBy k a g M (fun r M' => M' = M ∧ r = recon s a) := by
  have h140 := h.r140
  refine eX10_extendedBy h0 ⟨_, r_actives h0 h, fun v1 M1 hq => ?_⟩
  obtain ⟨rfl, rfl⟩ := hq
  have key : ∀ i, i ≤ (sR s).length → LX10_extendedBy_17 k (((sR s).drop i).foldr rec1 (a &&& act s)) (nI i - 1) g M1 (fun r M' => M' = M1 ∧ r = recon s a) := by
    intro i
    induction i with
    | zero =>
      intro _
      exact bX10_extendedBy_17 h0 ⟨fun _ => ⟨rfl, rfl⟩, fun hc => absurd m1lt hc⟩
    | succ i ih =>
      intro hi
      have hil : i < (sR s).length := by omega
      have nx := ih (by omega)
      rw [drop_step hil, List.foldr_cons] at nx
      obtain ⟨b, eb⟩ : ∃ z, z = ((sR s).drop (i + 1)).foldr rec1 (a &&& act s) := ⟨_, rfl⟩
      obtain ⟨r, er⟩ : ∃ z, z = (sR s).getD i (0, 0) := ⟨_, rfl⟩
      obtain ⟨l, hl, e2⟩ := hw r (by rw [er, List.getD_eq_getElem?_getD, List.getElem?_eq_getElem hil]; exact List.getElem_mem hil)
      have a1 : M1.1 (k + 1) (115 + 2 * i) = r.1 := by rw [er]; exact (h.2.2.2.2.2.2.2.2.2.2.2.2.2.1 i hil).1
      have a2 : M1.1 (k + 1) (115 + 2 * i + 1) = nI l := by rw [← e2, er]; exact (h.2.2.2.2.2.2.2.2.2.2.2.2.2.1 i hil).2
      rw [← eb, ← er] at nx
      rw [nI_pred, ← eb]
      refine bX10_extendedBy_17 h0 ⟨fun hc => absurd hc (nI_pos (by omega)), fun _ => ?_⟩
      rw [two_nI, i115, nI_1, m1', nI_clamp (n := 115 + 2 * i) (by omega), nI_clamp (n := 115 + 2 * i + 1) (by omega), a1, a2]
      refine ⟨vp_in_nI (by omega) (by decide), vp_in_nI (by omega) (by decide), _, r_truths b, fun v3 M3 hq => ?_⟩
      obtain ⟨rfl, rfl⟩ := hq
      unfold rec1 at nx
      rw [e2] at nx
      refine ⟨fun hc => ?_, fun hc => ⟨fun hb => ?_, fun hb => ?_⟩⟩
      · rw [if_neg hc] at nx; exact nx
      · rw [rem2 l hl] at hb
        rw [if_pos hc, if_neg (by rw [and1 l hl]; exact hb), shr1 l hl] at nx
        rw [div2 l hl]; exact nx
      · rw [rem2 l hl] at hb
        rw [if_pos hc, if_pos (by rw [and1 l hl]; exact hb), shr1 l hl] at nx
        rw [div2 l hl]; exact nx
  have h9 := key (sR s).length (Nat.le_refl _)
  rw [List.drop_length] at h9
  rw [h.r]
  exact h9
/-- whether clauses may come -/
def opn (s : sg) : Bool := (decide ((sR s).length = 0) && !decide (sL s = [0])) && decide (∀ v, v < sV s → sS s v = 0)
theorem r_isOpen (h0 : is10 g k) (h : rr_ M k s) : kX10_isOpen k g M (fun v M' => M' = M ∧ v = if opn s then 1 else 0) := by
  have hV := h.V10
  have h140 := h.r140
  have key : ∀ m i, i + m = sV s → ∀ b : Bool, b = ((decide ((sR s).length = 0) && !decide (sL s = [0])) && decide (∀ v, v < i → sS s v = 0)) → LX10_isOpen_25 k (if b then 1 else 0) (nI i) g M (fun v M' => M' = M ∧ v = if opn s then 1 else 0) := by
    intro m
    induction m with
    | zero =>
      intro i hi b hb
      refine bX10_isOpen_25 h0 ⟨fun _ => ⟨by cases b <;> decide, rfl, ?_⟩, fun hc => absurd (by rw [h.V, show i = sV s by omega]; exact Int32.le_refl _) hc⟩
      rw [hb, show i = sV s by omega]; rfl
    | succ m ih =>
      intro i hi b hb
      have nx := ih (i + 1) (by omega)
      have e : (decide (∀ v, v < i + 1 → sS s v = 0)) = (decide (∀ v, v < i → sS s v = 0) && decide (sS s i = 0)) := by
        rw [← Bool.decide_and]
        refine decide_eq_decide.mpr ⟨fun hh => ⟨fun v hv => hh v (by omega), hh i (by omega)⟩, fun hh v hv => ?_⟩
        rcases Nat.lt_or_ge v i with q | q
        · exact hh.1 v q
        · rw [show v = i by omega]; exact hh.2
      rw [e, ← Bool.and_assoc, ← hb] at nx
      refine bX10_isOpen_25 h0 ⟨fun hc => absurd hc (nlt (n := sV s) (by omega) (by omega) h.V), fun _ => ⟨fun hz => ?_, fun hz => ⟨_, r_isActive h0 h (by omega), fun v1 M1 hq => ?_⟩⟩⟩
      · rw [nI_1]
        have := (if01 _).1.mp hz
        exact nx false (by rw [this]; rfl)
      · obtain ⟨rfl, rfl⟩ := hq
        have hbt := (if01 _).2.mp hz
        rw [nI_1]
        by_cases hs : sS s i = 0
        · rw [if_pos hs]
          exact ⟨fun hc => absurd hc (by decide), fun _ => nx true (by rw [hbt, decide_eq_true hs]; rfl)⟩
        · rw [if_neg hs]
          exact ⟨fun _ => nx false (by rw [hbt, decide_eq_false hs]; rfl), fun hc => absurd rfl hc⟩
  have er : (M.1 (k + 1) (Int32.toNatClampNeg 114) = 0) ↔ (sR s).length = 0 := by rw [h.r, show (0 : Int32) = nI 0 from rfl, nI_eq (by omega) (by decide)]
  refine eX10_isOpen h0 ⟨fun hc => ?_, fun hc => ⟨_, r_isBroken h0 h, fun v1 M1 hq => ?_⟩⟩
  · rw [er] at hc
    exact key (sV s) 0 (by omega) false (by rw [decide_eq_false hc]; rfl)
  · obtain ⟨rfl, rfl⟩ := hq
    rw [er] at hc
    by_cases hb : sL s = [0]
    · rw [if_pos hb]
      exact ⟨fun _ => key (sV s) 0 (by omega) false (by rw [decide_eq_true hb]; simp), fun hc => absurd hc (by decide)⟩
    · rw [if_neg hb]
      exact ⟨fun hc => absurd rfl hc, fun _ => key (sV s) 0 (by omega) true (by rw [decide_eq_true hc, decide_eq_false hb]; simp)⟩
theorem r_begins (h0 : is10 g k) {V : Nat} (hV : V ≤ 10) : kX10_begins k (nI V) g M (fun M' => rr_ M' k (s0 V) ∧ fr_ (k + 1) (k + 2) M M') := by
  refine eX10_begins h0 ?_
  have k2 : ∀ m i, i + m = 10 → ∀ M1, M1.1 (k + 1) 0 = nI V → (∀ j, 0 < j → j < 395 → M1.1 (k + 1) j = if 22 ≤ j ∧ j < 22 + i then -1 else 0) → fr_ (k + 1) (k + 2) M M1 → LX10_begins_31 k (nI i) g M1 (fun M' => rr_ M' k (s0 V) ∧ fr_ (k + 1) (k + 2) M M') := by
    intro m
    induction m with
    | zero =>
      intro i hi M1 e0 e1 hf
      have : i = 10 := by omega
      subst this
      refine bX10_begins_31 h0 ⟨fun _ => ⟨?_, hf⟩, fun hc => absurd (by decide) hc⟩
      refine ⟨e0, ?_, fun t ht => ?_, fun v hv => ?_, fun v hv => ?_, ?_, Nat.zero_le _, fun i hi => absurd hi (Nat.not_lt_zero i), ?_, Nat.zero_le _, fun i hi => absurd hi (Nat.not_lt_zero i), ?_, Nat.zero_le _, fun i hi => absurd hi (Nat.not_lt_zero i), hV⟩
      · rw [e1 1 (by decide) (by decide), if_neg (by omega)]; rfl
      · rw [e1 _ (by omega) (by omega), if_neg (by omega)]; rfl
      · rw [e1 _ (by omega) (by omega), if_neg (by omega)]; rfl
      · rw [e1 _ (by omega) (by omega), if_pos (by omega)]; rfl
      · rw [e1 32 (by decide) (by decide), if_neg (by omega)]; rfl
      · rw [e1 65 (by decide) (by decide), if_neg (by omega)]; rfl
      · rw [e1 114 (by decide) (by decide), if_neg (by omega)]; rfl
    | succ m ih =>
      intro i hi M1 e0 e1 hf
      refine bX10_begins_31 h0 ⟨fun hc => ?_, fun _ => ?_⟩
      · rw [show (10 : Int32) = nI 10 from rfl, nI_leI (by decide) (by omega)] at hc; omega
      · rw [i22, nI_1, nI_clamp (n := 22 + i) (by omega)]
        refine ⟨vp_in_nI (by omega) (by decide), ih (i + 1) (by omega) _ ?_ (fun j h1 h2 => ?_) (hf.tr (fr_.wI (by omega) (by omega)))⟩
        · rw [wI_k (by omega)]; exact e0
        · by_cases hj : j = 22 + i
          · subst hj; rw [wI_s, if_pos (by omega)]
          · rw [wI_k (by omega), e1 j h1 h2]
            by_cases hc : 22 ≤ j ∧ j < 22 + i
            · rw [if_pos hc, if_pos (by omega)]
            · rw [if_neg hc, if_neg (by omega)]
  have k1 : ∀ m i, i + m = 395 → ∀ M1, (∀ j, j < i → M1.1 (k + 1) j = 0) → fr_ (k + 1) (k + 2) M M1 → LX10_begins_2 k (nI V) (nI i) g M1 (fun M' => rr_ M' k (s0 V) ∧ fr_ (k + 1) (k + 2) M M') := by
    intro m
    induction m with
    | zero =>
      intro i hi M1 e1 hf
      have : i = 395 := by omega
      subst this
      refine bX10_begins_2 h0 ⟨fun _ => ?_, fun hc => absurd (by decide) hc⟩
      rw [t0]
      refine k2 10 0 (by omega) _ (by rw [wI_s]) (fun j h1 h2 => ?_) (hf.tr (fr_.wI (by omega) (by omega)))
      rw [wI_k (by omega), e1 j h2, if_neg (by omega)]
    | succ m ih =>
      intro i hi M1 e1 hf
      refine bX10_begins_2 h0 ⟨fun hc => ?_, fun _ => ?_⟩
      · rw [show (395 : Int32) = nI 395 from rfl, nI_leI (by decide) (by omega)] at hc; omega
      · rw [nI_1, nI_clamp (n := i) (by omega)]
        refine ⟨vp_in_nI (by omega) (by decide), ih (i + 1) (by omega) _ (fun j h1 => ?_) (hf.tr (fr_.wI (by omega) (by omega)))⟩
        by_cases hj : j = i
        · subst hj; rw [wI_s]
        · rw [wI_k (by omega)]; exact e1 j (by omega)
  exact k1 395 0 (by omega) M (fun j hj => absurd hj (Nat.not_lt_zero j)) fr_.rf
end RE3
