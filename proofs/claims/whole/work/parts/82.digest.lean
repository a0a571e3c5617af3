/-! the digest -/
def mx (h : Int64) (v : Int32) : Int64 := (31 : Int64) * h + Int32.toInt64 v
def mxS (h : Int64) (c : Int32) : Int64 := mx (mx h (vs c true)) (vs c false)
def fo (f : Int64 → Nat → Int64) : Nat → Nat → Int64 → Int64
  | 0, _, h => h
  | m + 1, i, h => fo f m (i + 1) (f h i)
def mxC (h : Int64) (L : List Int32) : Int64 := fo (fun h i => mxS h (L.getD i 0)) L.length 0 (mx h (nI L.length))
def fV (s : sg) (h : Int64) (v : Nat) : Int64 := mx (mx h (sS s v)) (sK s v)
def fR (s : sg) (h : Int64) (i : Nat) : Int64 := mx (mxS h ((sR s).getD i (0, 0)).1) ((sR s).getD i (0, 0)).2
def fT (s : sg) (h : Int64) (t : Nat) : Int64 := mx h (sT s t)
def dg0 (s : sg) : Int64 := mxC (mxC (mx (mx (mx 3079 (nI (sV s))) (sG s)) (if sL s = [0] then 1 else 0)) (sL s)) (sO s)
def dg1 (s : sg) : Int64 := fo (fT s) 10 0 (fo (fR s) (sR s).length 0 (mx (fo (fV s) (sV s) 0 (dg0 s)) (nI (sR s).length)))
def dgA (o : ob) : Int64 := mx (mx (dg1 o.1) (nI o.2.1.length)) (nI o.2.2.length)
section DIG
variable {g : mj_S} {M : mj_M} {k : Nat} {o : ob}
theorem c_mixd (x : Int64) (v : Int32) : kX9_mixed x (Int32.toInt64 v) g M (fun r M' => M' = M ∧ r = mx x v) := eX9_mixed ⟨rfl, rfl⟩
theorem c_mixS (x : Int64) (c : Int32) : kX9_mixedSet x c g M (fun r M' => M' = M ∧ r = mxS x c) := by
  refine eX9_mixedSet ⟨_, c_half c true, fun v M1 hq => ?_⟩
  obtain ⟨rfl, rfl⟩ := hq
  refine ⟨_, c_mixd _ _, fun v M1 hq => ?_⟩
  obtain ⟨rfl, rfl⟩ := hq
  refine ⟨_, c_half c false, fun v M1 hq => ?_⟩
  obtain ⟨rfl, rfl⟩ := hq
  refine ⟨_, c_mixd _ _, fun v M1 hq => ?_⟩
  obtain ⟨rfl, rfl⟩ := hq
  exact ⟨rfl, rfl⟩
theorem c_mixC {kl nl : Nat} {L : List Int32} (h0 : is0 g kl nl) (h : cl_ M kl nl L) (x : Int64) : kX9_mixedClauses x kl g M (fun r M' => M' = M ∧ r = mxC x L) := by
  have hl : L.length ≤ 1000 := Nat.le_trans h.2.1 h.2.2.1
  have key : ∀ m i y, i + m = L.length → fo (fun h i => mxS h (L.getD i 0)) m i y = mxC x L → LX9_mixedClauses_13 kl nl y (nI i) g M (fun r M' => M' = M ∧ r = mxC x L) := by
    intro m
    induction m with
    | zero =>
      intro i y hi he
      refine bX9_mixedClauses_13 h0 ⟨_, c_size h0 h, fun v M1 hq => ?_⟩
      obtain ⟨rfl, rfl⟩ := hq
      rw [nI_leI (by omega) (by omega)]
      exact ⟨fun _ => ⟨rfl, he⟩, fun hc => absurd (by omega) hc⟩
    | succ m ih =>
      intro i y hi he
      refine bX9_mixedClauses_13 h0 ⟨_, c_size h0 h, fun v M1 hq => ?_⟩
      obtain ⟨rfl, rfl⟩ := hq
      rw [nI_leI (by omega) (by omega)]
      refine ⟨fun hc => absurd hc (by omega), fun _ => ⟨_, c_at h0 h (by omega), fun v M2 hq => ?_⟩⟩
      obtain ⟨rfl, rfl⟩ := hq
      refine ⟨_, c_mixS _ _, fun v M3 hq => ?_⟩
      obtain ⟨rfl, rfl⟩ := hq
      rw [nI_1]
      exact ih (i + 1) _ (by omega) he
  refine eX9_mixedClauses h0 ⟨_, c_size h0 h, fun v M1 hq => ?_⟩
  obtain ⟨rfl, rfl⟩ := hq
  refine ⟨_, c_mixd _ _, fun v M2 hq => ?_⟩
  obtain ⟨rfl, rfl⟩ := hq
  exact key L.length 0 _ (by omega) rfl
theorem c_digest (h0 : is9s g k) (h : CR M k o) : kX9_digest k g M (fun v M' => M' = M ∧ v = dgA o) := by
  have hV : sV o.1 ≤ 10 := h.1.2.2.2.2.2.2.2.2.2.2
  have hR : (sR o.1).length ≤ 140 := h.1.2.2.2.2.2.2.2.2.1
  have kT : ∀ m i y, i + m = 10 → fo (fT o.1) m i y = dg1 o.1 → LX9_digest_179 k y (nI i) g M (fun v M' => M' = M ∧ v = dgA o) := by
    intro m
    induction m with
    | zero =>
      intro i y hi he
      refine bX9_digest_179 h0.1 ⟨fun _ => ⟨_, c_textSize h0 h.2.2.2, fun v M1 hq => ?_⟩, fun hc => absurd (by rw [show i = 10 by omega]; decide) hc⟩
      obtain ⟨rfl, rfl⟩ := hq
      refine ⟨_, c_mixd _ _, fun v M2 hq => ?_⟩
      obtain ⟨rfl, rfl⟩ := hq
      refine ⟨_, c_mixd _ _, fun v M2 hq => ?_⟩
      obtain ⟨rfl, rfl⟩ := hq
      refine ⟨rfl, ?_⟩
      rw [h.2.2.1.1, show y = dg1 o.1 from he]; rfl
    | succ m ih =>
      intro i y hi he
      refine bX9_digest_179 h0.1 ⟨fun hc => ?_, fun _ => ⟨_, c_totalOf (S9 h0) h.1 (by omega), fun v M1 hq => ?_⟩⟩
      · rw [show (10 : Int32) = nI 10 from rfl, nI_leI (by decide) (by omega)] at hc; omega
      obtain ⟨rfl, rfl⟩ := hq
      refine ⟨_, c_mixd _ _, fun v M2 hq => ?_⟩
      obtain ⟨rfl, rfl⟩ := hq
      rw [nI_1]
      exact ih (i + 1) _ (by omega) he
  have kR : ∀ m i y, i + m = (sR o.1).length → fo (fT o.1) 10 0 (fo (fR o.1) m i y) = dg1 o.1 → LX9_digest_135 k y (nI i) g M (fun v M' => M' = M ∧ v = dgA o) := by
    intro m
    induction m with
    | zero =>
      intro i y hi he
      refine bX9_digest_135 h0.1 ?_
      rw [h.1.2.2.1, nI_leI (by omega) (by omega)]
      exact ⟨fun _ => kT 10 0 _ (by omega) he, fun hc => absurd (by omega) hc⟩
    | succ m ih =>
      intro i y hi he
      refine bX9_digest_135 h0.1 ?_
      rw [h.1.2.2.1, nI_leI (by omega) (by omega)]
      refine ⟨fun hc => absurd hc (by omega), fun _ => ⟨_, c_setOfRow (S9 h0) h.1 (by omega), fun v M1 hq => ?_⟩⟩
      obtain ⟨rfl, rfl⟩ := hq
      refine ⟨_, c_mixS _ _, fun v M2 hq => ?_⟩
      obtain ⟨rfl, rfl⟩ := hq
      refine ⟨_, c_witnessOfRow (S9 h0) h.1 (by omega), fun v M1 hq => ?_⟩
      obtain ⟨rfl, rfl⟩ := hq
      refine ⟨_, c_mixd _ _, fun v M2 hq => ?_⟩
      obtain ⟨rfl, rfl⟩ := hq
      rw [nI_1]
      exact ih (i + 1) _ (by omega) he
  have kV : ∀ m i y, i + m = sV o.1 → fo (fT o.1) 10 0 (fo (fR o.1) (sR o.1).length 0 (mx (fo (fV o.1) m i y) (nI (sR o.1).length))) = dg1 o.1 → LX9_digest_77 k y (nI i) g M (fun v M' => M' = M ∧ v = dgA o) := by
    intro m
    induction m with
    | zero =>
      intro i y hi he
      refine bX9_digest_77 h0.1 ?_
      rw [h.1.1, nI_leI (by omega) (by omega)]
      refine ⟨fun _ => ⟨_, c_mixd _ _, fun v M2 hq => ?_⟩, fun hc => absurd (by omega) hc⟩
      obtain ⟨rfl, rfl⟩ := hq
      rw [h.1.2.2.1]
      exact kR (sR o.1).length 0 _ (by omega) he
    | succ m ih =>
      intro i y hi he
      refine bX9_digest_77 h0.1 ?_
      rw [h.1.1, nI_leI (by omega) (by omega)]
      refine ⟨fun hc => absurd hc (by omega), fun _ => ⟨_, c_statusOf (S9 h0) h.1 (by omega), fun v M1 hq => ?_⟩⟩
      obtain ⟨rfl, rfl⟩ := hq
      refine ⟨_, c_mixd _ _, fun v M2 hq => ?_⟩
      obtain ⟨rfl, rfl⟩ := hq
      refine ⟨_, c_knownOf (S9 h0) h.1 (by omega), fun v M1 hq => ?_⟩
      obtain ⟨rfl, rfl⟩ := hq
      refine ⟨_, c_mixd _ _, fun v M2 hq => ?_⟩
      obtain ⟨rfl, rfl⟩ := hq
      rw [nI_1]
      exact ih (i + 1) _ (by omega) he
  refine eX9_digest h0.1 ⟨_, c_mixd _ _, fun v M2 hq => ?_⟩
  obtain ⟨rfl, rfl⟩ := hq
  refine ⟨_, c_mixd _ _, fun v M2 hq => ?_⟩
  obtain ⟨rfl, rfl⟩ := hq
  refine ⟨_, c_isContradictory (S9 h0).2.1.2 h.1.2.2.2.1, fun v M2 hq => ?_⟩
  obtain ⟨rfl, rfl⟩ := hq
  rw [h.1.1, h.1.2.1]
  have goal : ∀ b : Int32, (if sL o.1 = [0] then (1 : Int32) else 0) = b → ∃ (q4 : Int64 → mj_M → Prop), kX9_mixed (mx (mx 3079 (nI (sV o.1))) (sG o.1)) (Int32.toInt64 b) g M2 q4 ∧ ∀ (v4 : Int64) M4, q4 v4 M4 → (∃ (q5 : Int64 → mj_M → Prop), kX9_mixedClauses v4 (k + 1 + 1) g M4 q5 ∧ ∀ (v5 : Int64) M5, q5 v5 M5 → (∃ (q6 : Int64 → mj_M → Prop), kX9_mixedClauses v5 (k + 1 + 3) g M5 q6 ∧ ∀ (v6 : Int64) M6, q6 v6 M6 → (LX9_digest_77 k v6 (0) g M6 (fun v M' => M' = M2 ∧ v = dgA o)))) := by
    intro b hb
    refine ⟨_, c_mixd _ _, fun v M3 hq => ?_⟩
    obtain ⟨rfl, rfl⟩ := hq
    refine ⟨_, c_mixC (S9 h0).2.1.2 h.1.2.2.2.1 _, fun v M3 hq => ?_⟩
    obtain ⟨rfl, rfl⟩ := hq
    refine ⟨_, c_mixC (S9 h0).2.2.1.2 h.1.2.2.2.2.1 _, fun v M3 hq => ?_⟩
    obtain ⟨rfl, rfl⟩ := hq
    refine kV (sV o.1) 0 _ (by omega) ?_
    rw [← hb]; rfl
  by_cases e : sL o.1 = [0]
  · rw [if_pos e]
    exact ⟨fun hc => absurd hc (by decide), fun _ => goal 1 (if_pos e)⟩
  · rw [if_neg e]
    exact ⟨fun _ => goal 0 (if_neg e), fun hc => absurd rfl hc⟩
/-! the reference's -/
def dI (k : Nat) (o : ob) (M0 : mj_M) (h : Int64) (M : mj_M) : Prop := RR M k o ∧ gf_ k (k + 12) M0 M ∧ M.1 k 6 = nI 0 ∧ M.2.1 k 27 = h
theorem r_mix {M0 : mj_M} {y : Int64} (h0 : is10 g k) (h : dI k o M0 y M) (v : Int32) : kX10_mix k v g M (dI k o M0 (mx y v)) := by
  refine eX10_mix h0 ⟨h.1, h.2.1.tr (wL_g (by omega) (by omega)), h.2.2.1, ?_⟩
  rw [wL_s, h.2.2.2]; rfl
theorem r_mixC {M0 : mj_M} {y : Int64} (h0 : is10 g k) (h : dI k o M0 y M) (c : Int32) : kX10_mixClause k c g M (dI k o M0 (mxS y c)) := by
  refine eX10_mixClause h0 ⟨_, r_variablesOf c true, fun v M1 hq => ?_⟩
  obtain ⟨rfl, rfl⟩ := hq
  refine ⟨_, r_mix h0 h _, fun M2 h2 => ⟨_, r_variablesOf c false, fun v M1 hq => ?_⟩⟩
  obtain ⟨rfl, rfl⟩ := hq
  exact ⟨_, r_mix h0 h2 _, fun M3 h3 => h3⟩
theorem d3 : ∀ n, n < 420 → nI n / 3 = nI (n / 3) ∧ nI n - nI n / 3 * 3 = nI (n % 3) := by decide +kernel
theorem r_digest (h0 : is10 g k) (h : RR M k o) : kX10_digest k g M (fun v M' => v = dgA o ∧ M'.1 k 6 = nI 0 ∧ RR M' k o ∧ gf_ k (k + 12) M M') := by
  obtain ⟨Q, eQ⟩ : ∃ Q : Int64 → mj_M → Prop, Q = (fun v M' => v = dgA o ∧ M'.1 k 6 = nI 0 ∧ RR M' k o ∧ gf_ k (k + 12) M M') := ⟨_, rfl⟩
  rw [← eQ]
  have hV := h.1.V10
  have hR := h.1.r140
  have hO := h.1.o32
  have hL := h.1.n48
  have kT : ∀ m i y M1, dI k o M y M1 → i + m = 10 → fo (fT o.1) m i y = dg1 o.1 → LX10_digest_222 k (nI i) g M1 Q := by
    intro m
    induction m with
    | zero =>
      intro i y M1 h1 hi he
      refine bX10_digest_222 h0 ⟨fun _ => ⟨_, r_mix h0 h1 _, fun M2 h2 => ⟨_, r_mix h0 h2 _, fun M3 h3 => ?_⟩⟩, fun hc => absurd (by rw [show i = 10 by omega]; decide) hc⟩
      rw [eQ]
      refine ⟨?_, h3.2.2.1, h3.1, h3.2.1⟩
      rw [h3.2.2.2, h1.1.2.2.1, h2.1.2.1.1, show y = dg1 o.1 from he]; rfl
    | succ m ih =>
      intro i y M1 h1 hi he
      refine bX10_digest_222 h0 ⟨fun hc => ?_, fun _ => ?_⟩
      · rw [show (10 : Int32) = nI 10 from rfl, nI_leI (by decide) (by omega)] at hc; omega
      rw [show (2 : Int32) + nI i = nI (2 + i) from nI_add 2 i]
      refine ⟨vp_in_nI (by omega) (by decide), ⟨_, r_mix h0 h1 _, fun M2 h2 => ?_⟩⟩
      rw [nI_clamp (by omega), h1.1.1.2.2.1 i (by omega)] at h2
      rw [nI_1]
      exact ih (i + 1) _ M2 h2 (by omega) he
  have kR : ∀ m i y M1, dI k o M y M1 → i + m = (sR o.1).length → fo (fT o.1) 10 0 (fo (fR o.1) m i y) = dg1 o.1 → LX10_digest_187 k (nI (3 * i)) g M1 Q := by
    intro m
    induction m with
    | zero =>
      intro i y M1 h1 hi he
      refine bX10_digest_187 h0 ?_
      rw [h1.1.1.r, show (3 : Int32) * nI (sR o.1).length = nI (3 * (sR o.1).length) from pk_mul 3 _, nI_leI (by omega) (by omega)]
      exact ⟨fun _ => kT 10 0 _ M1 h1 (by omega) he, fun hc => absurd (by omega) hc⟩
    | succ m ih =>
      intro i y M1 h1 hi he
      have st : ∀ w M1 y, w < 3 → dI k o M y M1 → (∀ M2, dI k o M (mx y (rowA o.1 i w)) M2 → LX10_digest_187 k (nI (3 * i + w + 1)) g M2 Q) → LX10_digest_187 k (nI (3 * i + w)) g M1 Q := by
        intro w M1 y hw h1 nx
        refine bX10_digest_187 h0 ?_
        obtain ⟨e1, e2⟩ := d3 (3 * i + w) (by omega)
        rw [h1.1.1.r, show (3 : Int32) * nI (sR o.1).length = nI (3 * (sR o.1).length) from pk_mul 3 _, nI_leI (by omega) (by omega), e1, show (3 * i + w) / 3 = i by omega]
        rw [e1, show (3 * i + w) / 3 = i by omega, show (3 * i + w) % 3 = w by omega] at e2
        rw [e2]
        refine ⟨fun hc => absurd hc (by omega), fun _ => ⟨_, r_rowOf h0 h1.1.1 (by omega) hw, fun v M2 hq => ?_⟩⟩
        obtain ⟨rfl, rfl⟩ := hq
        refine ⟨_, r_mix h0 h1 _, fun M3 h3 => ?_⟩
        rw [nI_1]
        exact nx M3 h3
      refine st 0 M1 y (by decide) h1 (fun M2 h2 => st 1 M2 _ (by decide) h2 (fun M3 h3 => st 2 M3 _ (by decide) h3 (fun M4 h4 => ?_)))
      exact ih (i + 1) _ M4 h4 (by omega) he
  have kV : ∀ m i y M1, dI k o M y M1 → i + m = sV o.1 → fo (fT o.1) 10 0 (fo (fR o.1) (sR o.1).length 0 (mx (fo (fV o.1) m i y) (nI (sR o.1).length))) = dg1 o.1 → LX10_digest_132 k (nI i) g M1 Q := by
    intro m
    induction m with
    | zero =>
      intro i y M1 h1 hi he
      refine bX10_digest_132 h0 ?_
      rw [h1.1.1.V, nI_leI (by omega) (by omega), h1.1.1.r]
      exact ⟨fun _ => ⟨_, r_mix h0 h1 _, fun M2 h2 => kR (sR o.1).length 0 _ M2 h2 (by omega) he⟩, fun hc => absurd (by omega) hc⟩
    | succ m ih =>
      intro i y M1 h1 hi he
      refine bX10_digest_132 h0 ?_
      rw [h1.1.1.V, nI_leI (by omega) (by omega), show (12 : Int32) + nI i = nI (12 + i) from nI_add 12 i, show (22 : Int32) + nI i = nI (22 + i) from nI_add 22 i, nI_clamp (by omega), nI_clamp (by omega), h1.1.1.2.2.2.1 i (by omega), nI_1]
      refine ⟨fun hc => absurd hc (by omega), fun _ => ⟨vp_in_nI (by omega) (by decide), ⟨_, r_mix h0 h1 _, fun M2 h2 => ⟨vp_in_nI (by omega) (by decide), ?_⟩⟩⟩⟩
      rw [h2.1.1.2.2.2.2.1 i (by omega)]
      exact ⟨_, r_mix h0 h2 _, fun M3 h3 => ih (i + 1) _ M3 h3 (by omega) he⟩
  have kO : ∀ m i y M1, dI k o M y M1 → i + m = (sO o.1).length → fo (fun h i => mxS h ((sO o.1).getD i 0)) m i y = dg0 o.1 → LX10_digest_100 k (nI i) g M1 Q := by
    intro m
    induction m with
    | zero =>
      intro i y M1 h1 hi he
      refine bX10_digest_100 h0 ?_
      rw [h1.1.1.o, nI_leI (by omega) (by omega)]
      refine ⟨fun _ => kV (sV o.1) 0 y M1 h1 (by omega) ?_, fun hc => absurd (by omega) hc⟩
      rw [show y = dg0 o.1 from he]; rfl
    | succ m ih =>
      intro i y M1 h1 hi he
      refine bX10_digest_100 h0 ?_
      rw [h1.1.1.o, nI_leI (by omega) (by omega), show (33 : Int32) + nI i = nI (33 + i) from nI_add 33 i, nI_clamp (by omega), h1.1.1.2.2.2.2.2.2.2.1 i (by omega), nI_1]
      exact ⟨fun hc => absurd hc (by omega), fun _ => ⟨vp_in_nI (by omega) (by decide), ⟨_, r_mixC h0 h1 _, fun M2 h2 => ih (i + 1) _ M2 h2 (by omega) he⟩⟩⟩
  have kL : ∀ m i y M1, dI k o M y M1 → i + m = (sL o.1).length → mxC (fo (fun h i => mxS h ((sL o.1).getD i 0)) m i y) (sO o.1) = dg0 o.1 → LX10_digest_61 k (nI i) g M1 Q := by
    intro m
    induction m with
    | zero =>
      intro i y M1 h1 hi he
      refine bX10_digest_61 h0 ?_
      rw [h1.1.1.n, nI_leI (by omega) (by omega), h1.1.1.o]
      exact ⟨fun _ => ⟨_, r_mix h0 h1 _, fun M2 h2 => kO (sO o.1).length 0 _ M2 h2 (by omega) he⟩, fun hc => absurd (by omega) hc⟩
    | succ m ih =>
      intro i y M1 h1 hi he
      refine bX10_digest_61 h0 ?_
      rw [h1.1.1.n, nI_leI (by omega) (by omega), nI_1]
      refine ⟨fun hc => absurd hc (by omega), fun _ => ⟨_, r_clauseAt h0 h1.1.1 (by omega), fun v M2 hq => ?_⟩⟩
      obtain ⟨rfl, rfl⟩ := hq
      exact ⟨_, r_mixC h0 h1 _, fun M2 h2 => ih (i + 1) _ M2 h2 (by omega) he⟩
  have h1 : dI k o M 3079 (mj_wL (mj_wI M k 6 0) k 27 3079) := ⟨h.wf (by decide) (by decide) _, (fr_.wI (lo := k) (hi := k + 12) (by omega) (by omega)).g.tr (wL_g (by omega) (by omega)), wI_s, wL_s⟩
  refine eX10_digest h0 ?_
  generalize mj_wL (mj_wI M k 6 0) k 27 3079 = M1 at *
  rw [h1.1.1.V]
  refine ⟨_, r_mix h0 h1 _, fun M2 h2 => ?_⟩
  rw [show M2.1 (k + 1) (Int32.toNatClampNeg 1) = sG o.1 from h2.1.1.2.1]
  refine ⟨_, r_mix h0 h2 _, fun M3 h3 => ⟨_, r_isBroken h0 h3.1.1, fun v M4 hq => ?_⟩⟩
  obtain ⟨rfl, rfl⟩ := hq
  have goal : ∀ b : Int32, (if sL o.1 = [0] then (1 : Int32) else 0) = b → ∃ q4 : mj_M → Prop, kX10_mix k b g M4 q4 ∧ ∀ M5, q4 M5 → (∃ q5 : mj_M → Prop, kX10_mix k (M5.1 (k + 1) (Int32.toNatClampNeg 65)) g M5 q5 ∧ ∀ M6, q5 M6 → (LX10_digest_61 k (0) g M6 Q)) := by
    intro b hb
    refine ⟨_, r_mix h0 h3 _, fun M5 h5 => ?_⟩
    rw [h5.1.1.n]
    refine ⟨_, r_mix h0 h5 _, fun M6 h6 => kL (sL o.1).length 0 _ M6 h6 (by omega) ?_⟩
    rw [← hb]; rfl
  by_cases e : sL o.1 = [0]
  · rw [if_pos e]
    exact ⟨fun hc => absurd hc (by decide), fun _ => goal 1 (if_pos e)⟩
  · rw [if_neg e]
    exact ⟨fun _ => goal 0 (if_neg e), fun hc => absurd rfl hc⟩
end DIG
