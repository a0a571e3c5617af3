/-! READING A NUMBER: the reference -/
def sgn (l : Bool) : Nat := if l then 1 else 0
def St (V : Nat) (T : List Int32) (lit : Int32) (w : Bool) (cs : List Int32) (l : Bool) (p c num : Nat) (st : ast) : Prop :=
  (c = 0 ∧ num = 0 ∧ l = false ∧ st = (0, 0, 0, lit, w, cs) ∧ p < T.length ∧ bk (bn T p) = false ∧ bn T p ≠ 45) ∨ (c = 0 ∧ num = 0 ∧ l = true ∧ st = (1, 0, 1, lit, true, cs)) ∨ (1 ≤ c ∧ num = 0 ∧ l = false ∧ st = (2, 0, 0, 0, false, adC cs lit)) ∨ (1 ≤ c ∧ 1 ≤ num ∧ num ≤ V ∧ st = (3, num, sgn l, lit, true, cs))
theorem tk_0d {V n sn b : Nat} {lit : Int32} {op : Bool} {cs : List Int32} (h1 : bk b = false) (h2 : dg b = true) : tk V (0, n, sn, lit, op, cs) b = (if b = 48 then some (2, n, sn, 0, false, adC cs lit) else tkD V (0, n, sn, lit, op, cs) (b - 48)) := by
  show (if bk b = true then _ else if dg b = true then _ else _) = _
  rw [if_neg (by rw [h1]; decide), if_pos h2]
theorem tk_0n {V n sn b : Nat} {lit : Int32} {op : Bool} {cs : List Int32} (h1 : bk b = false) (h2 : dg b = false) (h3 : b ≠ 45) : tk V (0, n, sn, lit, op, cs) b = none := by
  show (if bk b = true then _ else if dg b = true then _ else if b = 45 then _ else _) = _
  rw [if_neg (by rw [h1]; decide), if_neg (by rw [h2]; decide), if_neg h3]
theorem tk_1d {V n sn b : Nat} {lit : Int32} {op : Bool} {cs : List Int32} (h2 : dg b = true) (h3 : b ≠ 48) : tk V (1, n, sn, lit, op, cs) b = tkD V (1, n, sn, lit, op, cs) (b - 48) := by
  show (if (dg b && !decide (b = 48)) = true then _ else _) = _
  rw [if_pos (by rw [h2, decide_eq_false h3]; rfl)]
theorem tk_1n {V n sn b : Nat} {lit : Int32} {op : Bool} {cs : List Int32} (h2 : dg b = false ∨ b = 48) : tk V (1, n, sn, lit, op, cs) b = none := by
  show (if (dg b && !decide (b = 48)) = true then _ else _) = _
  rcases h2 with q | q
  · rw [if_neg (by rw [q, Bool.false_and]; decide)]
  · rw [if_neg (by rw [decide_eq_true q]; simp)]
theorem tk_2n {V n sn b : Nat} {lit : Int32} {op : Bool} {cs : List Int32} (h2 : bk b = false) : tk V (2, n, sn, lit, op, cs) b = none := by
  show (if bk b = true then _ else _) = _
  rw [if_neg (by rw [h2]; decide)]
theorem tk_3d {V n sn b : Nat} {lit : Int32} {op : Bool} {cs : List Int32} (h1 : bk b = false) (h2 : dg b = true) : tk V (3, n, sn, lit, op, cs) b = tkD V (3, n, sn, lit, op, cs) (b - 48) := by
  show (if bk b = true then _ else if dg b = true then _ else _) = _
  rw [if_neg (by rw [h1]; decide), if_pos h2]
theorem tk_3n {V n sn b : Nat} {lit : Int32} {op : Bool} {cs : List Int32} (h1 : bk b = false) (h2 : dg b = false) : tk V (3, n, sn, lit, op, cs) b = none := by
  show (if bk b = true then _ else if dg b = true then _ else _) = _
  rw [if_neg (by rw [h1]; decide), if_neg (by rw [h2]; decide)]
theorem dg_bk {b : Nat} (h : dg b = true) : bk b = false := by
  unfold dg at h
  simp only [Bool.and_eq_true, decide_eq_true_eq] at h
  unfold bk
  rw [decide_eq_false (by omega), decide_eq_false (by omega)]; rfl
section RE6
variable {g : mj_S} {M0 : mj_M} {k V ps : Nat} {T : List Int32} {lit : Int32} {w l : Bool} {cs : List Int32} {R : Option Nat × List Int32} {q : mj_M → Prop}
theorem r_num (h0 : is10 g k) (hx : rt_ M0 k T) (hT : tOK T) (hV10 : V ≤ 10) (hVs : M0.1 (k + 1) (Int32.toNatClampNeg 0) = nI V)
    (HF : ∀ M' f p', nf_ k jn M0 M' → M'.1 k 9 = nI f → f ≤ T.length → M'.1 k 8 = nI p' → p' ≤ T.length → R.1 = some f → q M')
    (H0 : ∀ M' p', nf_ k jn M0 M' → M'.1 k 9 = -1 → M'.1 k 8 = nI p' → ps < p' → p' ≤ T.length → (p' = T.length ∨ bkT T p' = true) → M'.1 k 10 = 0 → R = rA T V (T.length - p') p' (2, 0, 0, 0, false, adC cs lit) → q M')
    (H1 : ∀ M' p' n, nf_ k jn M0 M' → M'.1 k 9 = -1 → M'.1 k 8 = nI p' → ps < p' → p' ≤ T.length → (p' = T.length ∨ bkT T p' = true) → 1 ≤ n → n ≤ V → M'.1 k 10 = (if l then -(nI n) else nI n) → R = rA T V (T.length - p') p' (3, n, sgn l, lit, true, cs) → q M') :
    ∀ m p c num st M1, p + m = T.length → c ≤ p → ps ≤ p → ((1 ≤ c ∨ l = true) → ps < p) → M1.1 k 8 = nI p → M1.1 k 9 = -1 → M1.1 k 10 = nI num → nf_ k jn M0 M1 → St V T lit w cs l p c num st → R = rA T V m p st → LX10_readNumber_40 k (if l then 1 else 0) (nI c) g M1 q := by
  have h160 := hT.1
  have flt : ∀ (x2 : Int32) M2 f p', nf_ k jn M0 M2 → M2.1 k 9 = nI f → f ≤ T.length → M2.1 k 8 = nI p' → p' ≤ T.length → R.1 = some f → LX10_readNumber_40 k (if l then 1 else 0) x2 g M2 q := by
    intro x2 M2 f p' a1 a2 a3 a4 a5 a6
    have hne : ¬ M2.1 k 9 = -1 := by rw [a2]; exact nI_m1 (by omega)
    have fin : ∀ z, q (mj_wI M2 k 10 z) := fun z => HF _ f p' (a1.tr (nf_.w (J := jn) (Or.inr (Or.inr rfl)) _)) (by rw [wI_k (by omega)]; exact a2) a3 (by rw [wI_k (by omega)]; exact a4) a5 a6
    exact bX10_readNumber_40 h0 ⟨fun _ => ⟨fun _ => ⟨fun _ => fin _, fun _ => fin _⟩, fun e => absurd e hne⟩, fun e => absurd e hne⟩
  have flt2 : ∀ M1 p, M1.1 k 8 = nI p → p ≤ T.length → nf_ k jn M0 M1 → R.1 = some p → ∀ z, q (mj_wI (mj_wI M1 k 9 (M1.1 k 8)) k 10 z) := by
    intro M1 p a1 a2 a3 a4 z
    refine HF _ p p ((a3.tr (nf_.w (J := jn) (Or.inr (Or.inl rfl)) _)).tr (nf_.w (J := jn) (Or.inr (Or.inr rfl)) _)) ?_ a2 ?_ a2 a4
    · rw [wI_k (by omega), wI_s]; exact a1
    · rw [wI_k (by omega), wI_k (by omega)]; exact a1
  -- the number has ended
  have ends : ∀ m p c num st M1, p + m = T.length → c ≤ p → ((1 ≤ c ∨ l = true) → ps < p) → M1.1 k 8 = nI p → M1.1 k 9 = -1 → M1.1 k 10 = nI num → nf_ k jn M0 M1 → St V T lit w cs l p c num st → R = rA T V m p st → (p < T.length → dg (bn T p) = false) → (¬ (M1.1 k 9) = (-1) → ((if l then (1 : Int32) else 0) = 0 → q (mj_wI M1 k 10 (M1.1 k 10))) ∧ (¬ (if l then (1 : Int32) else 0) = 0 → q (mj_wI M1 k 10 (-(M1.1 k 10))))) ∧ ((M1.1 k 9) = (-1) → (nI c = 0 → ((if l then (1 : Int32) else 0) = 0 → q (mj_wI (mj_wI M1 k 9 (M1.1 k 8)) k 10 ((mj_wI M1 k 9 (M1.1 k 8)).1 k 10))) ∧ (¬ (if l then (1 : Int32) else 0) = 0 → q (mj_wI (mj_wI M1 k 9 (M1.1 k 8)) k 10 (-((mj_wI M1 k 9 (M1.1 k 8)).1 k 10))))) ∧ (¬ nI c = 0 → ((M1.1 k 5) ≤ (M1.1 k 8) → ((if l then (1 : Int32) else 0) = 0 → q (mj_wI M1 k 10 (M1.1 k 10))) ∧ (¬ (if l then (1 : Int32) else 0) = 0 → q (mj_wI M1 k 10 (-(M1.1 k 10))))) ∧ (¬ (M1.1 k 5) ≤ (M1.1 k 8) → ∃ q1 : Int32 → mj_M → Prop, kX10_isBlank k g M1 q1 ∧ ∀ v1 M2, q1 v1 M2 → ((¬ v1 = 0 → ((if l then (1 : Int32) else 0) = 0 → q (mj_wI M2 k 10 (M2.1 k 10))) ∧ (¬ (if l then (1 : Int32) else 0) = 0 → q (mj_wI M2 k 10 (-(M2.1 k 10))))) ∧ (v1 = 0 → ((if l then (1 : Int32) else 0) = 0 → q (mj_wI (mj_wI M2 k 9 (M2.1 k 8)) k 10 ((mj_wI M2 k 9 (M2.1 k 8)).1 k 10))) ∧ (¬ (if l then (1 : Int32) else 0) = 0 → q (mj_wI (mj_wI M2 k 9 (M2.1 k 8)) k 10 (-((mj_wI M2 k 9 (M2.1 k 8)).1 k 10))))))))) := by
    intro m p c num st M1 hp hc hps e8 e9 e10 hf hS hR hnd
    have hx1 : rt_ M1 k T := hx.n hf (by unfold jn; omega)
    have c0 : nI c = 0 ↔ c = 0 := nI_eq (b := 0) (by omega) (by decide)
    rw [c0]
    -- what is told at a good end
    have good : 1 ≤ c → (p = T.length ∨ bkT T p = true) → ((if l then (1 : Int32) else 0) = 0 → q (mj_wI M1 k 10 (M1.1 k 10))) ∧ (¬ (if l then (1 : Int32) else 0) = 0 → q (mj_wI M1 k 10 (-(M1.1 k 10)))) := by
      intro hc1 hb
      have fr : ∀ z, nf_ k jn M0 (mj_wI M1 k 10 z) := fun z => hf.tr (nf_.w (J := jn) (Or.inr (Or.inr rfl)) _)
      have z9 : ∀ z, (mj_wI M1 k 10 z).1 k 9 = -1 := fun z => by rw [wI_k (by omega)]; exact e9
      have z8 : ∀ z, (mj_wI M1 k 10 z).1 k 8 = nI p := fun z => by rw [wI_k (by omega)]; exact e8
      have em : m = T.length - p := by omega
      rw [em] at hR
      have hps := hps (Or.inl hc1)
      rcases hS with s | s | s | s
      · omega
      · omega
      · obtain ⟨_, s2, s3, s4⟩ := s
        rw [s3]
        refine ⟨fun _ => H0 _ p (fr _) (z9 _) (z8 _) hps (by omega) hb ?_ (by rw [hR, s4]), fun hc => absurd rfl hc⟩
        rw [wI_s, e10, s2]; rfl
      · obtain ⟨_, s2, s3, s4⟩ := s
        cases el : l with
        | true =>
          refine ⟨fun hc => absurd hc (by decide), fun _ => H1 _ p num (fr _) (z9 _) (z8 _) hps (by omega) hb s2 s3 ?_ (by rw [hR, s4])⟩
          rw [wI_s, e10, el]; rfl
        | false =>
          refine ⟨fun _ => H1 _ p num (fr _) (z9 _) (z8 _) hps (by omega) hb s2 s3 ?_ (by rw [hR, s4]), fun hc => absurd rfl hc⟩
          rw [wI_s, e10, el]; rfl
    refine ⟨fun hc => absurd e9 hc, fun _ => ⟨fun hc0 => ?_, fun hc0 => ?_⟩⟩
    · -- no digit
      have hR1 : R.1 = some p := by
        rcases hS with s | s | s | s
        · obtain ⟨_, _, _, s4, s5, s6, s7⟩ := s
          rw [hR, s4, show m = (m - 1) + 1 by omega, rA_n (tk_0n s6 (hnd s5) s7)]
        · obtain ⟨_, _, _, s4⟩ := s
          rw [hR, s4]
          by_cases hpl : p < T.length
          · rw [show m = (m - 1) + 1 by omega, rA_n (tk_1n (Or.inl (hnd hpl)))]
          · rw [show m = 0 by omega]; rfl
        · omega
        · omega
      exact ⟨fun _ => flt2 M1 p e8 (by omega) hf hR1 _, fun _ => flt2 M1 p e8 (by omega) hf hR1 _⟩
    · have hc1 : 1 ≤ c := by omega
      rw [hx1.1, e8, nI_leI (by omega) (by omega)]
      refine ⟨fun hle => good hc1 (Or.inl (by omega)), fun hle => ⟨_, r_isBlank h0 hx1 hT e8 (by omega), fun v M2 hq => ?_⟩⟩
      obtain ⟨rfl, rfl⟩ := hq
      refine ⟨fun hb => good hc1 (Or.inr ((if01 _).2.mp hb)), fun hb => ?_⟩
      have hb := (if01 _).1.mp hb
      have hpl : p < T.length := by omega
      have hbk : bk (bn T p) = false := by unfold bkT at hb; rw [decide_eq_true hpl, Bool.true_and] at hb; exact hb
      have hR1 : R.1 = some p := by
        rcases hS with s | s | s | s
        · omega
        · omega
        · rw [hR, s.2.2.2, show m = (m - 1) + 1 by omega, rA_n (tk_2n hbk)]
        · rw [hR, s.2.2.2, show m = (m - 1) + 1 by omega, rA_n (tk_3n hbk (hnd hpl))]
      have f2 := flt2 M2 p e8 (by omega) hf hR1
      rw [e8] at f2 ⊢
      exact ⟨fun _ => f2 _, fun _ => f2 _⟩
  intro m
  induction m with
  | zero =>
    intro p c num st M1 hp hc _ hps e8 e9 e10 hf hS hR
    have hx1 : rt_ M1 k T := hx.n hf (by unfold jn; omega)
    have en := ends 0 p c num st M1 hp hc hps e8 e9 e10 hf hS hR (fun h => by omega)
    refine bX10_readNumber_40 h0 ⟨fun hc => absurd e9 hc, fun _ => ⟨_, r_here h0 hx1 e8 (by omega), fun v2 M2 hq => ?_⟩⟩
    obtain ⟨rfl, rfl⟩ := hq
    refine ⟨_, r_in, fun v3 M3 hq => ?_⟩
    obtain ⟨rfl, rfl⟩ := hq
    rw [if_neg (show ¬ p < T.length by omega), if_neg (show ¬ ((48 : Int32) ≤ -1 ∧ (-1 : Int32) ≤ 57) by decide)]
    exact ⟨fun _ => en, fun hc => absurd rfl hc⟩
  | succ m ih =>
    intro p c num st M1 hp hc hpp hps e8 e9 e10 hf hS hR
    have hx1 : rt_ M1 k T := hx.n hf (by unfold jn; omega)
    have hpl : p < T.length := by omega
    obtain ⟨b1, b2⟩ := hT.at hpl
    refine bX10_readNumber_40 h0 ⟨fun hc => absurd e9 hc, fun _ => ⟨_, r_here h0 hx1 e8 (by omega), fun v2 M2 hq => ?_⟩⟩
    obtain ⟨rfl, rfl⟩ := hq
    refine ⟨_, r_in, fun v3 M3 hq => ?_⟩
    obtain ⟨rfl, rfl⟩ := hq
    rw [if_pos hpl, b1]
    have hin : ((48 : Int32) ≤ nI (bn T p) ∧ nI (bn T p) ≤ 57) ↔ dg (bn T p) = true := by
      rw [show (48 : Int32) = nI 48 from rfl, show (57 : Int32) = nI 57 from rfl, nI_leI (by decide) (by omega), nI_leI (by omega) (by decide)]
      unfold dg
      rw [Bool.and_eq_true, decide_eq_true_eq, decide_eq_true_eq]
    cases hd : dg (bn T p) with
    | false =>
      rw [if_neg (by rw [hin, hd]; decide)]
      exact ⟨fun _ => ends (m + 1) p c num st M3 hp hc hps e8 e9 e10 hf hS hR (fun _ => hd), fun hc => absurd rfl hc⟩
    | true =>
      rw [if_pos (hin.mpr hd)]
      have hbk := dg_bk hd
      have hd2 : 48 ≤ bn T p ∧ bn T p ≤ 57 := by unfold dg at hd; rw [Bool.and_eq_true, decide_eq_true_eq, decide_eq_true_eq] at hd; exact hd
      have hnum : num ≤ 10 := by
        rcases hS with s | s | s | s
        · omega
        · omega
        · omega
        · omega
      refine ⟨fun hc => absurd hc (by decide), fun _ => ⟨_, r_here h0 hx1 e8 (by omega), fun v5 M5 hq => ?_⟩⟩
      obtain ⟨rfl, rfl⟩ := hq
      obtain ⟨d, ed⟩ : ∃ d, d = bn T p - 48 := ⟨_, rfl⟩
      have ev : ((10 : Int32) * nI num + nI (bn T p)) - 48 = nI (10 * num + d) := by
        rw [show (10 : Int32) = nI 10 from rfl, show (48 : Int32) = nI 48 from rfl, pk_mul, nI_add, pk_sub (by omega), show 10 * num + bn T p - 48 = 10 * num + d by omega]
      have hVs5 : M5.1 (k + 1) (Int32.toNatClampNeg 0) = nI V := by rw [hf.row (by omega)]; exact hVs
      rw [if_pos hpl, b1, e10, ev, hVs5, nI_ltI (by omega) (by omega), nI_1, show (0 : Int32) = nI 0 from rfl, nI_leI (show c < 2 ^ 31 by omega) (by decide), nI_eq (show 10 * num + d < 2 ^ 31 by omega) (by decide), nI_eq (show num < 2 ^ 31 by omega) (by decide)]
      -- a step, a fault
      have e81 : (mj_wI M5 k 10 (nI (10 * num + d))).1 k 8 + 1 = nI (p + 1) := by rw [wI_k (by omega), e8, nI_1]
      have e82 : (mj_wI (mj_wI M5 k 9 (M5.1 k 8)) k 10 (nI (10 * num + d))).1 k 8 + 1 = nI (p + 1) := by rw [wI_k (by omega), wI_k (by omega), e8, nI_1]
      rw [e81, e82]
      have stp : ∀ st', tk V st (bn T p) = some st' → St V T lit w cs l (p + 1) (c + 1) (10 * num + d) st' → LX10_readNumber_40 k (if l then 1 else nI 0) (nI (c + 1)) g (mj_wI (mj_wI M5 k 10 (nI (10 * num + d))) k 8 (nI (p + 1))) q := by
        intro st' h1 h2
        refine ih (p + 1) (c + 1) (10 * num + d) st' _ (by omega) (by omega) (by omega) (fun _ => by omega) wI_s ?_ ?_ ((hf.tr (nf_.w (J := jn) (Or.inr (Or.inr rfl)) _)).tr (nf_.w (J := jn) (Or.inl rfl) _)) h2 (by rw [hR, rA_s h1])
        · rw [wI_k (by omega), wI_k (by omega)]; exact e9
        · rw [wI_k (by omega), wI_s]
      have fau : tk V st (bn T p) = none → LX10_readNumber_40 k (if l then 1 else nI 0) (nI (c + 1)) g (mj_wI (mj_wI (mj_wI M5 k 9 (M5.1 k 8)) k 10 (nI (10 * num + d))) k 8 (nI (p + 1))) q := by
        intro h1
        refine flt _ _ p (p + 1) (((hf.tr (nf_.w (J := jn) (Or.inr (Or.inl rfl)) _)).tr (nf_.w (J := jn) (Or.inr (Or.inr rfl)) _)).tr (nf_.w (J := jn) (Or.inl rfl) _)) ?_ (by omega) wI_s (by omega) (by rw [hR, rA_n h1])
        rw [wI_k (by omega), wI_k (by omega), wI_s]; exact e8
      rcases hS with s | s | s | s
      · obtain ⟨s1, s2, s3, s4, s5, s6, s7⟩ := s
        have t0 := tk_0d (V := V) (n := 0) (sn := 0) (lit := lit) (op := w) (cs := cs) hbk hd
        subst s1
        subst s2
        rw [s4] at stp fau
        rw [t0] at stp fau
        refine ⟨fun _ => ⟨fun hv => fau ?_, fun hv => ⟨fun _ => ?_, fun hc => absurd (by rw [s3]; rfl) hc⟩⟩, fun hc => absurd (Nat.le_refl _) hc⟩
        · rw [if_neg (by omega)]; exact if_neg (by show ¬ 10 * 0 + (bn T p - 48) ≤ V; omega)
        · by_cases h48 : bn T p = 48
          · exact stp (2, 0, 0, 0, false, adC cs lit) (if_pos h48) (Or.inr (Or.inr (Or.inl ⟨by omega, by omega, s3, rfl⟩)))
          · refine stp (3, 10 * 0 + (bn T p - 48), 0, lit, true, cs) ?_ (Or.inr (Or.inr (Or.inr ⟨by omega, by omega, by omega, ?_⟩)))
            · rw [if_neg h48]; exact if_pos (by show 10 * 0 + (bn T p - 48) ≤ V; omega)
            · rw [ed, s3]; rfl
      · obtain ⟨s1, s2, s3, s4⟩ := s
        subst s1
        subst s2
        rw [s4] at stp fau
        refine ⟨fun _ => ⟨fun hv => fau ?_, fun hv => ⟨fun hc => absurd hc (by rw [s3]; decide), fun _ => ⟨fun hz => ?_, fun hz => fau (tk_1n (Or.inr (by omega)))⟩⟩⟩, fun hc => absurd (Nat.le_refl _) hc⟩
        · rw [tk_1d hd (by omega)]; exact if_neg (by show ¬ 10 * 0 + (bn T p - 48) ≤ V; omega)
        · refine stp (3, 10 * 0 + (bn T p - 48), 1, lit, true, cs) ?_ (Or.inr (Or.inr (Or.inr ⟨by omega, by omega, by omega, ?_⟩)))
          · rw [tk_1d hd (by omega)]; exact if_pos (by show 10 * 0 + (bn T p - 48) ≤ V; omega)
          · rw [ed, s3]; rfl
      · obtain ⟨s1, s2, s3, s4⟩ := s
        rw [s4] at fau
        exact ⟨fun hc => by omega, fun _ => ⟨fun _ => fau (tk_2n hbk), fun hc => absurd s2 hc⟩⟩
      · obtain ⟨s1, s2, s3, s4⟩ := s
        rw [s4] at stp fau
        have t3 := tk_3d (V := V) (n := num) (sn := sgn l) (lit := lit) (op := true) (cs := cs) hbk hd
        rw [t3] at stp fau
        have go : ¬ V < 10 * num + d → LX10_readNumber_40 k (if l then 1 else nI 0) (nI (c + 1)) g (mj_wI (mj_wI M5 k 10 (nI (10 * num + d))) k 8 (nI (p + 1))) q := fun hv => by
          refine stp (3, 10 * num + (bn T p - 48), sgn l, lit, true, cs) ?_ (Or.inr (Or.inr (Or.inr ⟨by omega, by omega, by omega, ?_⟩)))
          · exact if_pos (by show 10 * num + (bn T p - 48) ≤ V; omega)
          · rw [ed]
        refine ⟨fun hc => by omega, fun _ => ⟨fun hc => by omega, fun _ => ⟨fun hv => fau (if_neg (by show ¬ 10 * num + (bn T p - 48) ≤ V; omega)), fun hv => ⟨fun _ => go hv, fun _ => ⟨fun _ => go hv, fun hc => by omega⟩⟩⟩⟩⟩
end RE6
