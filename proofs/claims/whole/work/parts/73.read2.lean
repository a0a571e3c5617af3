/-! READING CLAUSES: the text as a whole -/
def bn (T : List Int32) (p : Nat) : Nat := (T.getD p 0).toNatClampNeg
def rA (T : List Int32) (V : Nat) : Nat → Nat → ast → Option Nat × List Int32
  | 0, p, s => (if s.2.2.2.2.1 then some p else none, s.2.2.2.2.2)
  | m + 1, p, s => match tk V s (bn T p) with
    | none => (some p, [])
    | some s' => rA T V m (p + 1) s'
theorem rA_n {T : List Int32} {V m p : Nat} {s : ast} (h : tk V s (bn T p) = none) : rA T V (m + 1) p s = (some p, []) := by simp only [rA, h]
theorem rA_s {T : List Int32} {V m p : Nat} {s s' : ast} (h : tk V s (bn T p) = some s') : rA T V (m + 1) p s = rA T V m (p + 1) s' := by simp only [rA, h]
def tOK (T : List Int32) : Prop := T.length ≤ 160 ∧ ∀ b, b ∈ T → ∃ n, n < 128 ∧ b = nI n
theorem tOK.at {T : List Int32} (h : tOK T) {p : Nat} (hp : p < T.length) : T.getD p 0 = nI (bn T p) ∧ bn T p < 128 := by
  obtain ⟨n, h1, h2⟩ := h.2 _ (gd_mem hp)
  have e : bn T p = n := by unfold bn; rw [h2, nI_clamp (by omega)]
  rw [e]; exact ⟨h2, h1⟩
def rdT (T : List Int32) (V : Nat) : Option Nat × List Int32 := rA T V T.length 0 (0, 0, 0, 0, false, [])
theorem rA_ok {T : List Int32} {V : Nat} (hV : V ≤ 10) : ∀ m p s, p + m = T.length → WS V p s → (∀ f, (rA T V m p s).1 = some f → f ≤ T.length) ∧ ((rA T V m p s).1 = none → (∀ c, c ∈ (rA T V m p s).2 → tv c = false ∧ ∀ i, i < 32 → bt c i = true → i < 2 * V) ∧ 2 * (rA T V m p s).2.length ≤ T.length + 1)
  | 0, p, s, hp, hW => by
    refine ⟨fun f hf => ?_, fun hf => ⟨hW.2.2.2.2.2.2.1, ?_⟩⟩
    · have hf : (if s.2.2.2.2.1 then some p else none) = some f := hf
      split at hf
      · cases hf; omega
      · cases hf
    · have := hW.2.2.2.2.2.2.2.2.1
      show 2 * s.2.2.2.2.2.length ≤ _
      omega
  | m + 1, p, s, hp, hW => by
    cases e : tk V s (bn T p) with
    | none =>
      rw [rA_n e]
      exact ⟨fun f hf => by cases hf; omega, fun hf => by cases hf⟩
    | some s' =>
      rw [rA_s e]
      exact rA_ok hV m (p + 1) s' (by omega) (WS_s hV hW e)
theorem WS_0 {V : Nat} : WS V 0 (0, 0, 0, 0, false, []) := ⟨Nat.zero_le _, Nat.zero_le _, Nat.zero_le _, fun _ => rfl, fun q => (by cases q), fun i _ q => (by rw [show bt (0, 0, 0, (0 : Int32), false, ([] : List Int32)).2.2.2.1 i = bt 0 i from rfl, b_0] at q; cases q), fun c hc => (by cases hc), fun _ => Nat.zero_le _, Nat.zero_le _, fun _ => rfl⟩
section RE4
variable {g : mj_S} {M : mj_M} {k : Nat} {o : ob}
theorem X9r (h0 : is9s g k) : is1 g (k + 84) := h0.1.2.2.2.2.2.1.2
theorem c_textSize (h0 : is9s g k) {T : List Int32} (h : tx_ M (k + 82) T) : kX8_size (k + 82) g M (fun v M' => M' = M ∧ v = nI T.length) := eX8_size (X9t h0) ⟨rfl, h.1⟩
theorem c_textAt (h0 : is9s g k) {T : List Int32} (h : tx_ M (k + 82) T) {p : Nat} (hp : p < T.length) : kX8_at (k + 82) (nI p) g M (fun v M' => M' = M ∧ v = T.getD p 0) := by
  have h160 := h.2.1
  refine eX8_at (X9t h0) ⟨fun hc => absurd hc (nI_pos (by omega)), fun _ => ⟨fun hc => absurd hc (nlt hp (by omega) h.1), fun _ => ⟨vp_in_nI (by omega) (by decide), rfl, ?_⟩⟩⟩
  rw [nI_clamp (by omega)]; exact h.2.2 p hp
theorem c_readText (h0 : is9s g k) (h : CR M k o) (hT : tOK o.2.1) : kX9_readText k g M (fun v M' => (∀ f, (rdT o.2.1 (sV o.1)).1 = some f → v = nI f) ∧ ((rdT o.2.1 (sV o.1)).1 = none → v = -1 ∧ cl_ M' (k + 84 + 1) 81 (rdT o.2.1 (sV o.1)).2) ∧ fr_ (k + 84) (k + 87) M M') := by
  obtain ⟨T, eT⟩ : ∃ T, T = o.2.1 := ⟨_, rfl⟩
  obtain ⟨V, eV⟩ : ∃ V, V = sV o.1 := ⟨_, rfl⟩
  have hx := h.2.2.2
  have hV : V ≤ 10 := by rw [eV]; exact h.1.2.2.2.2.2.2.2.2.2.2
  rw [← eT] at hx hT ⊢
  rw [← eV]
  have h1 := X9r h0
  have h160 := hT.1
  have bg : kX1_begin (k + 84) (nI V) g M (fun M' => ar_ M' (k + 84) V (0, 0, 0, 0, false, []) ∧ fr_ (k + 84) (k + 87) M M') := by
    refine eX1_begin h1 ⟨_, c_clear1 h1.2.2 (by decide), fun M1 hq => ?_⟩
    have e1 : M1.1 (k + 84) 1 = nI V := by rw [hq.2.1 (k + 84) (by omega)]; exact wI_s
    obtain ⟨M2, eM⟩ : ∃ z, z = mj_wI (mj_wI (mj_wI (mj_wI (mj_wI M1 (k + 84) 2 0) (k + 84) 3 0) (k + 84) 4 0) (k + 84) 5 0) (k + 84) 6 0 := ⟨_, rfl⟩
    rw [← eM]
    have f : fr_ (k + 84) (k + 85) M1 M2 := by rw [eM]; exact ((((fr_.wI (by omega) (by omega)).tr (fr_.wI (by omega) (by omega))).tr (fr_.wI (by omega) (by omega))).tr (fr_.wI (by omega) (by omega))).tr (fr_.wI (by omega) (by omega))
    refine ⟨⟨?_, ?_, ?_, ?_, ?_, ?_, hq.1.fr f (by omega)⟩, ((fr_.wI (lo := k + 84) (hi := k + 87) (by omega) (by omega)).tr (hq.2.wd (by omega) (by omega))).tr (f.wd (by omega) (by omega))⟩
    · rw [eM, wI_k (by omega), wI_k (by omega), wI_k (by omega), wI_k (by omega), wI_k (by omega)]; exact e1
    · rw [eM, wI_k (by omega), wI_k (by omega), wI_k (by omega), wI_k (by omega), wI_s]; rfl
    · rw [eM, wI_k (by omega), wI_k (by omega), wI_k (by omega), wI_s]; rfl
    · rw [eM, wI_k (by omega), wI_k (by omega), wI_s]; rfl
    · rw [eM, wI_k (by omega), wI_s]
    · rw [eM, wI_s]; rfl
  obtain ⟨R, eR⟩ : ∃ R, R = rdT T V := ⟨_, rfl⟩
  rw [← eR]
  have key : ∀ m p s M1, p + m = T.length → WS V p s → ar_ M1 (k + 84) V s → fr_ (k + 84) (k + 87) M M1 → R = rA T V m p s → LX9_readText_16 k (nI p) g M1 (fun v M' => (∀ f, R.1 = some f → v = nI f) ∧ (R.1 = none → v = -1 ∧ cl_ M' (k + 84 + 1) 81 R.2) ∧ fr_ (k + 84) (k + 87) M M') := by
    intro m
    induction m with
    | zero =>
      intro p s M1 hp hW hA hf hR
      have hx1 : tx_ M1 (k + 82) T := hx.c (hf.1 _ (by omega)) (hf.1 _ (by omega))
      have hR1 : R.1 = if s.2.2.2.2.1 then some p else none := by rw [hR]; rfl
      have hR2 : R.2 = s.2.2.2.2.2 := by rw [hR]; rfl
      refine bX9_readText_16 h0.1 ⟨_, c_textSize h0 hx1, fun v1 M2 hq => ?_⟩
      obtain ⟨rfl, rfl⟩ := hq
      refine ⟨fun _ => ?_, fun hc => absurd (nI_le (by omega) (by omega)) hc⟩
      have cpl : kX1_isComplete (k + 84) g M2 (fun v M' => M' = M2 ∧ v = if s.2.2.2.2.1 then 0 else 1) := by
        refine eX1_isComplete h1 ?_
        rw [hA.2.2.2.2.2.1]
        cases eo : s.2.2.2.2.1 with
        | true => exact ⟨fun _ => ⟨rfl, rfl⟩, fun hc => absurd hc (by decide)⟩
        | false => exact ⟨fun hc => absurd rfl hc, fun _ => ⟨rfl, rfl⟩⟩
      refine ⟨_, cpl, fun v2 M3 hq => ?_⟩
      obtain ⟨rfl, rfl⟩ := hq
      cases eo : s.2.2.2.2.1 with
      | true =>
        rw [eo] at hR1
        refine ⟨fun _ => ⟨_, c_textSize h0 hx1, fun v3 M4 hq => ?_⟩, fun hc => absurd rfl hc⟩
        obtain ⟨rfl, rfl⟩ := hq
        refine ⟨fun f hf => ?_, fun hn => ?_, hf⟩
        · rw [hR1] at hf; cases hf; rw [show p = T.length by omega]
        · rw [hR1] at hn; cases hn
      | false =>
        rw [eo] at hR1
        refine ⟨fun hc => absurd hc (by decide), fun _ => ⟨fun f hf => ?_, fun _ => ⟨rfl, ?_⟩, hf⟩⟩
        · rw [hR1] at hf; cases hf
        · rw [hR2]; exact hA.2.2.2.2.2.2
    | succ m ih =>
      intro p s M1 hp hW hA hf hR
      have hx1 : tx_ M1 (k + 82) T := hx.c (hf.1 _ (by omega)) (hf.1 _ (by omega))
      have hpl : p < T.length := by omega
      obtain ⟨b1, b2⟩ := hT.at hpl
      refine bX9_readText_16 h0.1 ⟨_, c_textSize h0 hx1, fun v1 M2 hq => ?_⟩
      obtain ⟨rfl, rfl⟩ := hq
      refine ⟨fun hc => absurd hc (nI_ge hpl (by omega)), fun _ => ⟨_, c_textAt h0 hx1 hpl, fun v4 M4 hq => ?_⟩⟩
      obtain ⟨rfl, rfl⟩ := hq
      rw [b1, nI_1]
      obtain ⟨pl, n, sn, lit, op, cs⟩ := s
      refine ⟨_, c_takes h1 hA (p := p) hW hV (by omega) b2, fun v5 M5 hq => ?_⟩
      obtain ⟨q1, q2, q3⟩ := hq
      have f5 : fr_ (k + 84) (k + 87) M M5 := hf.tr q3
      cases e : tk V (pl, n, sn, lit, op, cs) (bn T p) with
      | none =>
        rw [q2 e]
        rw [rA_n e] at hR
        refine ⟨fun hc => absurd rfl hc, fun _ => ⟨fun f hf => ?_, fun hn => ?_, f5⟩⟩
        · rw [hR] at hf; cases hf; rfl
        · rw [hR] at hn; cases hn
      | some s' =>
        obtain ⟨rfl, q5⟩ := q1 s' e
        rw [rA_s e] at hR
        exact ⟨fun _ => ih (p + 1) s' M5 (by omega) (WS_s hV hW e) q5 f5 hR, fun hc => absurd hc (by decide)⟩
  refine eX9_readText h0.1 ?_
  rw [h.1.1, ← eV]
  exact ⟨_, bg, fun M1 hq => key T.length 0 _ M1 (Nat.zero_add _) WS_0 hq.1 hq.2 eR⟩
/-! readClauses: its answer; the class -/
def A_readClauses (o : ob) : res := if opn o.1 = true then (match (rdT o.2.1 (sV o.1)).1 with
    | some f => (0, -1 - nI f, o)
    | none => if (sO o.1).length + (rdT o.2.1 (sV o.1)).2.length ≤ 32 then (0, nI (rdT o.2.1 (sV o.1)).2.length, ((rdT o.2.1 (sV o.1)).2.foldl addO o.1, o.2.1, sav o.2.2 o.1)) else (1, 0, o)) else (1, 0, o)
theorem rdc_1 (h : ¬ opn o.1 = true) : A_readClauses o = (1, 0, o) := if_neg h
theorem rdc_e (h : opn o.1 = true) {f : Nat} (h2 : (rdT o.2.1 (sV o.1)).1 = some f) : A_readClauses o = (0, -1 - nI f, o) := by unfold A_readClauses; rw [if_pos h]; simp only [h2]
theorem rdc_2 (h : opn o.1 = true) (h2 : (rdT o.2.1 (sV o.1)).1 = none) (h3 : ¬ (sO o.1).length + (rdT o.2.1 (sV o.1)).2.length ≤ 32) : A_readClauses o = (1, 0, o) := by unfold A_readClauses; rw [if_pos h]; simp only [h2]; exact if_neg h3
theorem rdc_0 (h : opn o.1 = true) (h2 : (rdT o.2.1 (sV o.1)).1 = none) (h3 : (sO o.1).length + (rdT o.2.1 (sV o.1)).2.length ≤ 32) : A_readClauses o = (0, nI (rdT o.2.1 (sV o.1)).2.length, ((rdT o.2.1 (sV o.1)).2.foldl addO o.1, o.2.1, sav o.2.2 o.1)) := by unfold A_readClauses; rw [if_pos h]; simp only [h2]; exact if_pos h3
theorem fa_step {s : sg} (h : Inv s) (ha : ∀ v, v < sV s → sS s v = 0) (ho : (sO s).length < 32) {x : Int32} (hx : tv x = false ∧ ∀ i, i < 32 → bt x i = true → i < 2 * sV s) : Inv (addO s x) ∧ (sL s ≠ [0] → (sL s).length < 48) ∧ sV (addO s x) = sV s ∧ sS (addO s x) = sS s ∧ (sO (addO s x)).length = (sO s).length + 1 := by
  obtain ⟨a1, a2, a3, a4, a5, _⟩ := inv_addO h ha ho (x := x) (fun hz => ⟨hz, hx.1, fun i hi hb => ⟨hx.2 i hi hb, ha _ (by have := hx.2 i hi hb; omega)⟩⟩)
  exact ⟨a1, a2, a3, a4, by rw [a5, List.length_append]; rfl⟩
theorem fa_inv : ∀ (F : List Int32) (s : sg), Inv s → (∀ v, v < sV s → sS s v = 0) → (sO s).length + F.length ≤ 32 → (∀ c, c ∈ F → tv c = false ∧ ∀ i, i < 32 → bt c i = true → i < 2 * sV s) → Inv (F.foldl addO s)
  | [], s, h, _, _, _ => h
  | x :: F, s, h, ha, ho, hF => by
    have ho : (sO s).length + (F.length + 1) ≤ 32 := ho
    obtain ⟨a1, a2, a3, a4, a5⟩ := fa_step h ha (by omega) (hF x (by simp))
    exact fa_inv F (addO s x) a1 (by rw [a3, a4]; exact ha) (by omega) (fun c hc => by rw [a3]; exact hF c (by simp [hc]))
theorem A_readClauses_ok (h : OI o) : OI (A_readClauses o).2.2 := by
  by_cases ho : opn o.1 = true
  · cases e : (rdT o.2.1 (sV o.1)).1 with
    | some f => rw [rdc_e ho e]; exact h
    | none =>
      by_cases hl : (sO o.1).length + (rdT o.2.1 (sV o.1)).2.length ≤ 32
      · rw [rdc_0 ho e hl]
        have hr := (rA_ok (T := o.2.1) h.1.V10 o.2.1.length 0 _ (Nat.zero_add _) WS_0).2 e
        exact h.sv (fa_inv _ _ h.1 (opn_iff.mp ho).2.2 hl hr.1)
      · rw [rdc_2 ho e hl]; exact h
  · rw [rdc_1 ho]; exact h
theorem fold_tk {F : List Int32} {s : sg} {i : Nat} (hi : i < F.length) : (F.take (i + 1)).foldl addO s = addO ((F.take i).foldl addO s) (F.getD i 0) := by rw [tk_succ hi, List.foldl_append]; rfl
theorem c_readClauses (h0 : is9s g k) (h : CR M k o) (hI : Inv o.1) (hT : tOK o.2.1) : kX9_readClauses k g M (cq (A_readClauses o) k M) (cx (A_readClauses o) k M mj_IS mj_IS) := by
  have hV := hI.V10
  refine eX9_readClauses h0.1 ⟨_, _, c_reqRoom h0 h (n := 0) (by decide), fun X M' hq => ?_, fun M1 hq => ?_⟩
  · obtain ⟨rfl, rfl, hn⟩ := hq
    have h32 := h.1.2.2.2.2.1.2.1
    exact cx_1 h (rdc_1 (fun q => hn ⟨q, by omega⟩))
  obtain ⟨rfl, ho, _⟩ := hq
  have hok := rA_ok (T := o.2.1) hV o.2.1.length 0 _ (Nat.zero_add _) WS_0
  have h160 := hT.1
  refine ⟨_, c_readText h0 h hT, fun v2 M2 hq => ?_⟩
  obtain ⟨q1, q2, q3⟩ := hq
  have h2 := h.w q3 (by omega)
  have g2 : gf_ k (k + 98) M1 M2 := (q3.wd (by omega) (by omega)).g
  cases e : (rdT o.2.1 (sV o.1)).1 with
  | some f =>
    have hf : f ≤ o.2.1.length := hok.1 f e
    rw [q1 f e]
    refine ⟨fun hc => absurd hc (nI_m1 (by omega)), fun _ => ?_⟩
    rw [rdc_e ho e]
    exact ⟨rfl, rfl, h2, g2⟩
  | none =>
    obtain ⟨rfl, hcl⟩ := q2 e
    obtain ⟨hok1, hok2⟩ := hok.2 e
    obtain ⟨F, eF⟩ : ∃ F, F = (rdT o.2.1 (sV o.1)).2 := ⟨_, rfl⟩
    rw [← eF] at hcl
    have hok1 : ∀ c, c ∈ F → tv c = false ∧ ∀ i, i < 32 → bt c i = true → i < 2 * sV o.1 := by rw [eF]; exact hok1
    have hok2 : 2 * F.length ≤ o.2.1.length + 1 := by rw [eF]; exact hok2
    refine ⟨fun _ => ⟨_, c_size (X9r h0).2.2 hcl, fun v3 M3 hq => ?_⟩, fun hc => absurd rfl hc⟩
    obtain ⟨rfl, rfl⟩ := hq
    refine ⟨_, _, c_reqRoom h0 h2 (n := F.length) (by omega), fun X M' hq => ?_, fun M4 hq => ?_⟩
    · obtain ⟨rfl, rfl, hn⟩ := hq
      rw [rdc_2 ho e (by rw [← eF]; exact fun q => hn ⟨ho, q⟩)]
      exact ⟨Or.inl ⟨rfl, rfl⟩, h2, g2⟩
    · obtain ⟨rfl, _, hl⟩ := hq
      refine ⟨_, c_saveState h0 h2, fun M5 hq => ?_⟩
      obtain ⟨s1, s2⟩ := hq
      have hcl5 : cl_ M5 (k + 84 + 1) 81 F := by
        obtain ⟨c1, c2, c3, c4⟩ := hcl
        exact ⟨by rw [(s2 _ (by omega)).1]; exact c1, c2, c3, fun i hi => by rw [(s2 _ (by omega)).1]; exact c4 i hi⟩
      have key : ∀ m i M6, i + m = F.length → Inv ((F.take i).foldl addO o.1) → (∀ v, v < sV ((F.take i).foldl addO o.1) → sS ((F.take i).foldl addO o.1) v = 0) → sV ((F.take i).foldl addO o.1) = sV o.1 → (sO ((F.take i).foldl addO o.1)).length = (sO o.1).length + i → CR M6 k ((F.take i).foldl addO o.1, o.2.1, sav o.2.2 o.1) → cl_ M6 (k + 84 + 1) 81 F → gf_ k (k + 98) M1 M6 → LX9_readClauses_41 k (nI i) g M6 (cq (A_readClauses o) k M1) (cx (A_readClauses o) k M1 mj_IS mj_IS) := by
        intro m
        induction m with
        | zero =>
          intro i M6 hi _ _ _ _ h6 hF hg
          refine bX9_readClauses_41 h0.1 ⟨_, c_size (X9r h0).2.2 hF, fun v7 M7 hq => ?_⟩
          obtain ⟨rfl, rfl⟩ := hq
          refine ⟨fun _ => ⟨_, c_size (X9r h0).2.2 hF, fun v7 M7 hq => ?_⟩, fun hc => absurd (nI_le (by omega) (by omega)) hc⟩
          obtain ⟨rfl, rfl⟩ := hq
          rw [rdc_0 ho e (by rw [← eF]; exact hl), ← eF]
          rw [tk_all (show i = F.length by omega)] at h6
          exact ⟨rfl, rfl, h6, hg⟩
        | succ m ih =>
          intro i M6 hi hI6 ha eV eO h6 hF hg
          have hil : i < F.length := by omega
          refine bX9_readClauses_41 h0.1 ⟨_, c_size (X9r h0).2.2 hF, fun v7 M7 hq => ?_⟩
          obtain ⟨rfl, rfl⟩ := hq
          refine ⟨fun hc => absurd hc (nI_ge hil (by omega)), fun _ => ⟨_, c_at (X9r h0).2.2 hF (i := i) (by omega), fun v8 M8 hq => ?_⟩⟩
          obtain ⟨rfl, rfl⟩ := hq
          obtain ⟨a1, a2, a3, a4, a5⟩ := fa_step hI6 ha (by omega) (x := F.getD i 0) (by rw [eV]; exact hok1 _ (gd_mem hil))
          refine ⟨_, c_addOriginal (S9 h0) h6.1 _ (show (sO ((F.take i).foldl addO o.1)).length < 32 by omega) (fun _ hb => a2 hb), fun M9 hq => ?_⟩
          rw [nI_1]
          have nx := ih (i + 1) M9 (by omega)
          rw [fold_tk hil] at nx
          exact nx a1 (by rw [a3, a4]; exact ha) (by rw [a3]; exact eV) (by rw [a5, eO]; omega) (h6.st hq.2 hq.1) (hF.fr hq.2 (by omega)) (hg.tr (hq.2.wd (by omega) (by omega)).g)
      exact key F.length 0 M5 (Nat.zero_add _) hI (opn_iff.mp ho).2.2 rfl rfl s1 hcl5 (g2.tr (s2.wd (by omega) (by omega)))
end RE4
