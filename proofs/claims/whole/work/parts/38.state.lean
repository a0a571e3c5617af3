/-! THE STATE: variables, growth, totals, statuses, what is known, originals, list, rows -/
abbrev sg : Type := Nat × Int32 × (Nat → Int32) × (Nat → Int32) × (Nat → Int32) × List Int32 × List Int32 × List (Int32 × Int32)
abbrev sV (s : sg) : Nat := s.1
abbrev sG (s : sg) : Int32 := s.2.1
abbrev sT (s : sg) : Nat → Int32 := s.2.2.1
abbrev sS (s : sg) : Nat → Int32 := s.2.2.2.1
abbrev sK (s : sg) : Nat → Int32 := s.2.2.2.2.1
abbrev sO (s : sg) : List Int32 := s.2.2.2.2.2.1
abbrev sL (s : sg) : List Int32 := s.2.2.2.2.2.2.1
abbrev sR (s : sg) : List (Int32 × Int32) := s.2.2.2.2.2.2.2
def uL (s : sg) (L : List Int32) : sg := (sV s, sG s, sT s, sS s, sK s, sO s, L, sR s)
def uO (s : sg) (O : List Int32) : sg := (sV s, sG s, sT s, sS s, sK s, O, sL s, sR s)
def uR (s : sg) (R : List (Int32 × Int32)) : sg := (sV s, sG s, sT s, sS s, sK s, sO s, sL s, R)
def uG (s : sg) (x : Int32) : sg := (sV s, x, sT s, sS s, sK s, sO s, sL s, sR s)
def uT (s : sg) (t : Nat) (x : Int32) : sg := (sV s, sG s, upd (sT s) t x, sS s, sK s, sO s, sL s, sR s)
def uS (s : sg) (v : Nat) (x y : Int32) : sg := (sV s, sG s, sT s, upd (sS s) v x, upd (sK s) v y, sO s, sL s, sR s)
/-- a fresh state -/
def s0 (V : Nat) : sg := (V, 0, fun _ => 0, fun _ => 0, fun _ => -1, [], [], [])
/-- the State at k holds s -/
def rc_ (M : mj_M) (k : Nat) (s : sg) : Prop := M.1 k 0 = nI (sV s) ∧ M.1 k 1 = sG s ∧ M.1 k 2 = nI (sR s).length ∧ cl_ M (k + 1) 48 (sL s) ∧ cl_ M (k + 3) 32 (sO s) ∧ (∀ v, v < 10 → M.1 (k + 5) v = sS s v) ∧ (∀ v, v < 10 → M.1 (k + 6) v = sK s v) ∧ (∀ t, t < 10 → M.1 (k + 7) t = sT s t) ∧ (sR s).length ≤ 140 ∧ (∀ i, i < (sR s).length → M.1 (k + 8) i = ((sR s).getD i (0, 0)).1 ∧ M.1 (k + 9) i = ((sR s).getD i (0, 0)).2) ∧ sV s ≤ 10
theorem rc_.fr {M M' : mj_M} {k lo hi : Nat} {s : sg} (h : rc_ M k s) (hf : fr_ lo hi M M') (hk : k + 10 ≤ lo ∨ hi ≤ k) : rc_ M' k s := by
  obtain ⟨h1, h2, h3, h4, h5, h6, h7, h8, h9, h10, h11⟩ := h
  have e : ∀ j, j < 10 → M'.1 (k + j) = M.1 (k + j) := fun j hj => hf.1 (k + j) (by omega)
  have e0 := e 0 (by decide)
  refine ⟨by rw [show k = k + 0 from rfl, e0]; exact h1, by rw [show k = k + 0 from rfl, e0]; exact h2, by rw [show k = k + 0 from rfl, e0]; exact h3, h4.fr hf (by omega), h5.fr hf (by omega), fun v hv => by rw [e 5 (by decide)]; exact h6 v hv, fun v hv => by rw [e 6 (by decide)]; exact h7 v hv, fun v hv => by rw [e 7 (by decide)]; exact h8 v hv, h9, fun i hi => by rw [e 8 (by decide), e 9 (by decide)]; exact h10 i hi, h11⟩
/-- the list has changed, nothing else -/
theorem rc_.L {M M' : mj_M} {k : Nat} {s : sg} {L : List Int32} (h : rc_ M k s) (hf : fr_ (k + 1) (k + 3) M M') (hL : cl_ M' (k + 1) 48 L) : rc_ M' k (uL s L) := by
  obtain ⟨h1, h2, h3, h4, h5, h6, h7, h8, h9, h10, h11⟩ := h
  have e : ∀ j, 3 ≤ j → M'.1 (k + j) = M.1 (k + j) := fun j hj => hf.1 (k + j) (by omega)
  have e0 : M'.1 k = M.1 k := hf.1 k (by omega)
  exact ⟨by rw [e0]; exact h1, by rw [e0]; exact h2, by rw [e0]; exact h3, hL, h5.fr hf (by omega), fun v hv => by rw [e 5 (by decide)]; exact h6 v hv, fun v hv => by rw [e 6 (by decide)]; exact h7 v hv, fun v hv => by rw [e 7 (by decide)]; exact h8 v hv, h9, fun i hi => by rw [e 8 (by decide), e 9 (by decide)]; exact h10 i hi, h11⟩
theorem rc_.O {M M' : mj_M} {k : Nat} {s : sg} {O : List Int32} (h : rc_ M k s) (hf : fr_ (k + 3) (k + 5) M M') (hL : cl_ M' (k + 3) 32 O) : rc_ M' k (uO s O) := by
  obtain ⟨h1, h2, h3, h4, h5, h6, h7, h8, h9, h10, h11⟩ := h
  have e : ∀ j, 5 ≤ j → M'.1 (k + j) = M.1 (k + j) := fun j hj => hf.1 (k + j) (by omega)
  have e0 : M'.1 k = M.1 k := hf.1 k (by omega)
  exact ⟨by rw [e0]; exact h1, by rw [e0]; exact h2, by rw [e0]; exact h3, h4.fr hf (by omega), hL, fun v hv => by rw [e 5 (by decide)]; exact h6 v hv, fun v hv => by rw [e 6 (by decide)]; exact h7 v hv, fun v hv => by rw [e 7 (by decide)]; exact h8 v hv, h9, fun i hi => by rw [e 8 (by decide), e 9 (by decide)]; exact h10 i hi, h11⟩
/-- the clause is appended, unless the list is the empty clause -/
def inc (s : sg) (x : Int32) : sg := if sL s = [0] then s else if x = 0 then uL s [0] else uL s (sL s ++ [x])
section STT
variable {g : mj_S} {M : mj_M} {k : Nat} {s : sg}
theorem nlt {i n : Nat} (h : i < n) (hn : n < 2 ^ 31) {x : Int32} (hx : x = nI n) : ¬ x ≤ nI i := by rw [hx]; exact nI_ge h hn
theorem c_statusOf (h0 : is6 g k) (h : rc_ M k s) {v : Nat} (hv : v < 10) : kX6_statusOf k (nI v) g M (fun r M' => M' = M ∧ r = sS s v) := by
  refine eX6_statusOf h0 ⟨fun hc => absurd hc (nI_pos (by omega)), fun _ => ⟨fun hc => absurd hc (nlt hv (by decide) rfl), fun _ => ⟨vp_in_nI hv (by decide), rfl, ?_⟩⟩⟩
  rw [nI_clamp (by omega)]; exact h.2.2.2.2.2.1 v hv
theorem c_knownOf (h0 : is6 g k) (h : rc_ M k s) {v : Nat} (hv : v < 10) : kX6_knownOf k (nI v) g M (fun r M' => M' = M ∧ r = sK s v) := by
  refine eX6_knownOf h0 ⟨fun hc => absurd hc (nI_pos (by omega)), fun _ => ⟨fun hc => absurd hc (nlt hv (by decide) rfl), fun _ => ⟨vp_in_nI hv (by decide), rfl, ?_⟩⟩⟩
  rw [nI_clamp (by omega)]; exact h.2.2.2.2.2.2.1 v hv
theorem c_totalOf (h0 : is6 g k) (h : rc_ M k s) {v : Nat} (hv : v < 10) : kX6_totalOf k (nI v) g M (fun r M' => M' = M ∧ r = sT s v) := by
  refine eX6_totalOf h0 ⟨fun hc => absurd hc (nI_pos (by omega)), fun _ => ⟨fun hc => absurd hc (nlt hv (by decide) rfl), fun _ => ⟨vp_in_nI hv (by decide), rfl, ?_⟩⟩⟩
  rw [nI_clamp (by omega)]; exact h.2.2.2.2.2.2.2.1 v hv
theorem c_isActive (h0 : is6 g k) (h : rc_ M k s) {v : Nat} (hv : v < 10) : kX6_isActive k (nI v) g M (fun r M' => M' = M ∧ r = if sS s v = 0 then 1 else 0) := by
  refine eX6_isActive h0 ⟨_, c_statusOf h0 h hv, fun v1 M1 hq => ?_⟩
  obtain ⟨rfl, rfl⟩ := hq
  exact ⟨fun hc => ⟨rfl, by rw [if_neg hc]⟩, fun hc => ⟨rfl, by rw [if_pos hc]⟩⟩
theorem c_setOfRow (h0 : is6 g k) (h : rc_ M k s) {i : Nat} (hi : i < (sR s).length) : kX6_setOfRow k (nI i) g M (fun r M' => M' = M ∧ r = ((sR s).getD i (0, 0)).1) := by
  have h9 := h.2.2.2.2.2.2.2.2.1
  refine eX6_setOfRow h0 ⟨fun hc => absurd hc (nI_pos (by omega)), fun _ => ⟨fun hc => absurd hc (nlt (n := 140) (by omega) (by decide) rfl), fun _ => ⟨vp_in_nI (by omega) (by decide), rfl, ?_⟩⟩⟩
  rw [nI_clamp (by omega)]; exact (h.2.2.2.2.2.2.2.2.2.1 i hi).1
theorem c_witnessOfRow (h0 : is6 g k) (h : rc_ M k s) {i : Nat} (hi : i < (sR s).length) : kX6_witnessOfRow k (nI i) g M (fun r M' => M' = M ∧ r = ((sR s).getD i (0, 0)).2) := by
  have h9 := h.2.2.2.2.2.2.2.2.1
  refine eX6_witnessOfRow h0 ⟨fun hc => absurd hc (nI_pos (by omega)), fun _ => ⟨fun hc => absurd hc (nlt (n := 140) (by omega) (by decide) rfl), fun _ => ⟨vp_in_nI (by omega) (by decide), rfl, ?_⟩⟩⟩
  rw [nI_clamp (by omega)]; exact (h.2.2.2.2.2.2.2.2.2.1 i hi).2
theorem c_allVariables (h0 : is6 g k) (h : rc_ M k s) : kX6_allVariables k g M (fun r M' => M' = M ∧ r = bi (sV s) - 1) := eX6_allVariables h0 ⟨rfl, by rw [h.1]; rfl⟩
/-- the set of active variables -/
def act (s : sg) : Int32 := bm (fun v => decide (v < sV s) && decide (sS s v = 0))
theorem c_activeVariables (h0 : is6 g k) (h : rc_ M k s) : kX6_activeVariables k g M (fun r M' => M' = M ∧ r = act s) := by
  refine eX6_activeVariables h0 ?_
  have hV := h.2.2.2.2.2.2.2.2.2.2
  have key : ∀ m i, i + m = sV s → LX6_activeVariables_4 k (bmA (fun v => decide (sS s v = 0)) i) (nI i) g M (fun r M' => M' = M ∧ r = act s) := by
    intro m
    induction m with
    | zero =>
      intro i hi
      refine bX6_activeVariables_4 h0 ⟨fun _ => ⟨rfl, ?_⟩, fun hc => absurd (by rw [h.1, show i = sV s by omega]; exact Int32.le_refl _) hc⟩
      refine bm_eq (fun j hj => ?_)
      rw [bmA_bt _ i (by omega) j hj, show i = sV s by omega]
    | succ m ih =>
      intro i hi
      have nx := ih (i + 1) (by omega)
      rw [show bmA (fun v => decide (sS s v = 0)) (i + 1) = bmA (fun v => decide (sS s v = 0)) i ||| (if decide (sS s i = 0) then bi i else 0) from rfl] at nx
      refine bX6_activeVariables_4 h0 ⟨fun hc => absurd hc (nlt (n := sV s) (by omega) (by omega) h.1), fun _ => ⟨_, c_isActive h0 h (by omega), fun v1 M1 hq => ?_⟩⟩
      obtain ⟨rfl, rfl⟩ := hq
      rw [nI_1]
      by_cases hs : sS s i = 0
      · rw [if_pos hs]
        rw [decide_eq_true hs] at nx
        exact ⟨fun hc => absurd hc (by decide), fun _ => nx⟩
      · rw [if_neg hs]
        rw [decide_eq_false hs] at nx
        refine ⟨fun _ => ?_, fun hc => absurd rfl hc⟩
        rw [show (if false = true then bi i else 0) = (0 : Int32) from rfl, or_0] at nx
        exact nx
  exact key (sV s) 0 (by omega)
theorem c_retire (h0 : is6 g k) (h : rc_ M k s) {v : Nat} (hv : v < 10) (x y : Int32) : kX6_retire k (nI v) x y g M (fun M' => rc_ M' k (uS s v x y) ∧ fr_ k (k + 10) M M') := by
  refine eX6_retire h0 ⟨fun hc => absurd hc (nI_pos (by omega)), fun _ => ⟨fun hc => absurd hc (nlt hv (by decide) rfl), fun _ => ⟨vp_in_nI hv (by decide), vp_in_nI hv (by decide), ?_⟩⟩⟩
  rw [nI_clamp (by omega)]
  obtain ⟨h1, h2, h3, h4, h5, h6, h7, h8, h9, h10, h11⟩ := h
  have f1 : fr_ (k + 5) (k + 7) M (mj_wI (mj_wI M (k + 5) v x) (k + 6) v y) := (fr_.wI (by omega) (by omega)).tr (fr_.wI (by omega) (by omega))
  have e : ∀ j, j < 5 ∨ 7 ≤ j → (mj_wI (mj_wI M (k + 5) v x) (k + 6) v y).1 (k + j) = M.1 (k + j) := fun j hj => f1.1 (k + j) (by omega)
  have e0 := e 0 (by decide)
  refine ⟨⟨by rw [show k = k + 0 from rfl, e0]; exact h1, by rw [show k = k + 0 from rfl, e0]; exact h2, by rw [show k = k + 0 from rfl, e0]; exact h3, h4.fr f1 (by omega), h5.fr f1 (by omega), fun w hw => ?_, fun w hw => ?_, fun t ht => by rw [e 7 (by decide)]; exact h8 t ht, h9, fun i hi => by rw [e 8 (by decide), e 9 (by decide)]; exact h10 i hi, h11⟩, f1.wd (by omega) (by omega)⟩
  · show (mj_wI (mj_wI M (k + 5) v x) (k + 6) v y).1 (k + 5) w = upd (sS s) v x w
    simp only [mj_wI, mj_up2, upd]
    rw [if_neg (by omega)]
    by_cases hvw : w = v
    · subst hvw; simp
    · rw [if_neg (by omega), if_neg hvw]; exact h6 w hw
  · show (mj_wI (mj_wI M (k + 5) v x) (k + 6) v y).1 (k + 6) w = upd (sK s) v y w
    simp only [mj_wI, mj_up2, upd]
    by_cases hvw : w = v
    · subst hvw; simp
    · rw [if_neg (by omega), if_neg (by omega), if_neg hvw]; exact h7 w hw
theorem c_addToTotal (h0 : is6 g k) (h : rc_ M k s) {t : Nat} (ht : t < 10) (x : Int32) : kX6_addToTotal k (nI t) x g M (fun M' => rc_ M' k (uT s t (sT s t + x)) ∧ fr_ k (k + 10) M M') := by
  refine eX6_addToTotal h0 ⟨fun hc => absurd hc (nI_pos (by omega)), fun _ => ⟨fun hc => absurd hc (nlt ht (by decide) rfl), fun _ => ⟨vp_in_nI ht (by decide), vp_in_nI ht (by decide), ?_⟩⟩⟩
  rw [nI_clamp (by omega)]
  obtain ⟨h1, h2, h3, h4, h5, h6, h7, h8, h9, h10, h11⟩ := h
  rw [h8 t ht]
  have f1 : fr_ (k + 7) (k + 8) M (mj_wI M (k + 7) t (sT s t + x)) := fr_.wI (by omega) (by omega)
  have e : ∀ j, j < 7 ∨ 8 ≤ j → (mj_wI M (k + 7) t (sT s t + x)).1 (k + j) = M.1 (k + j) := fun j hj => f1.1 (k + j) (by omega)
  have e0 := e 0 (by decide)
  refine ⟨⟨by rw [show k = k + 0 from rfl, e0]; exact h1, by rw [show k = k + 0 from rfl, e0]; exact h2, by rw [show k = k + 0 from rfl, e0]; exact h3, h4.fr f1 (by omega), h5.fr f1 (by omega), fun w hw => by rw [e 5 (by decide)]; exact h6 w hw, fun w hw => by rw [e 6 (by decide)]; exact h7 w hw, fun w hw => ?_, h9, fun i hi => by rw [e 8 (by decide), e 9 (by decide)]; exact h10 i hi, h11⟩, f1.wd (by omega) (by omega)⟩
  show (mj_wI M (k + 7) t (sT s t + x)).1 (k + 7) w = upd (sT s) t (sT s t + x) w
  simp only [mj_wI, mj_up2, upd]
  by_cases hvw : w = t
  · subst hvw; simp
  · rw [if_neg (by omega), if_neg hvw]; exact h8 w hw
theorem c_include (h0 : is6 g k) (h : rc_ M k s) (x : Int32) (hl : x ≠ 0 → sL s ≠ [0] → (sL s).length < 48) : kX6_include k x g M (fun M' => rc_ M' k (inc s x) ∧ fr_ (k + 1) (k + 3) M M') := by
  have hL := h.2.2.2.1
  refine eX6_include h0 ⟨_, c_isContradictory h0.2.1.2 hL, fun v1 M1 hq => ?_⟩
  obtain ⟨rfl, rfl⟩ := hq
  unfold inc
  by_cases hb : sL s = [0]
  · rw [if_pos hb, if_pos hb]
    exact ⟨fun hc => absurd hc (by decide), fun _ => ⟨h, fr_.rf⟩⟩
  · rw [if_neg hb, if_neg hb]
    refine ⟨fun _ => ⟨fun hx => ?_, fun hx => ?_⟩, fun hc => absurd rfl hc⟩
    · rw [if_neg hx]
      exact ⟨_, c_add h0.2.1.2 hL (hl hx hb) x, fun M2 hq => ⟨h.L hq.2 hq.1, hq.2⟩⟩
    · rw [if_pos hx]
      exact ⟨_, c_collapse h0.2.1.2 hL (by decide), fun M2 hq => ⟨h.L hq.2 hq.1, hq.2⟩⟩
end STT
