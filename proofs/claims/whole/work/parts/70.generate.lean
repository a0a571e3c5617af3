/-! RANDOM CLAUSES -/
def nxN (x : Nat) : Nat := (x * 1103515245 + 12345) % 2147483648
theorem nxN_lt (x : Nat) : nxN x < 2 ^ 31 := Nat.mod_lt _ (by decide)
theorem c64a : (1103515245 : Int64) = lN 1103515245 := by decide
theorem c64b : (12345 : Int64) = lN 12345 := by decide
theorem c64c : (2147483648 : Int64) = lN 2147483648 := by decide
theorem c64d : (65536 : Int64) = lN 65536 := by decide
theorem nx64 {x : Nat} (h : x < 2 ^ 31) : ((lN x * (1103515245 : Int64)) + (12345 : Int64)) - ((lN x * (1103515245 : Int64)) + (12345 : Int64)) / (2147483648 : Int64) * (2147483648 : Int64) = lN (nxN x) := by
  rw [c64a, c64b, c64c, lN_mul, lN_add, pk_lRem (by omega) (by decide) (by decide)]; rfl
theorem dr64 {x n : Nat} (h : x < 2 ^ 31) (hn : 0 < n) (hn2 : n < 2 ^ 31) : Int64.toInt32 ((lN x / (65536 : Int64)) - (lN x / (65536 : Int64)) / (Int32.toInt64 (nI n)) * (Int32.toInt64 (nI n))) = nI (x / 65536 % n) := by
  have hx : x / 65536 < 2 ^ 63 := Nat.lt_of_le_of_lt (Nat.div_le_self _ _) (by omega)
  rw [c64d, nI_l hn2, pk_lDiv (by omega) (by decide) (by decide), pk_lRem hx hn (by omega), lN_i]
theorem z64 {n : Nat} (hn : 0 < n) (hn2 : n < 2 ^ 31) : ¬ Int32.toInt64 (nI n) = 0 := by
  rw [nI_l hn2, show (0 : Int64) = lN 0 from rfl, pk_lEQ (by omega) (by decide)]; omega
/-- the k-th that is not taken -/
def frA (tk : Int32) : Nat → Nat → Nat → Option Nat
  | 0, _, _ => none
  | m + 1, v, l => if bt tk v = true then frA tk m (v + 1) l else if l = 0 then some v else frA tk m (v + 1) (l - 1)
theorem frA_t {tk : Int32} {m v l : Nat} (h : bt tk v = true) : frA tk (m + 1) v l = frA tk m (v + 1) l := if_pos h
theorem frA_0 {tk : Int32} {m v l : Nat} (h : bt tk v = false) (h2 : l = 0) : frA tk (m + 1) v l = some v := by unfold frA; rw [if_neg (by rw [h]; decide), if_pos h2]
theorem frA_s {tk : Int32} {m v l : Nat} (h : bt tk v = false) (h2 : ¬ l = 0) : frA tk (m + 1) v l = frA tk m (v + 1) (l - 1) := by rw [frA, if_neg (by rw [h]; decide), if_neg h2]
def cf (tk : Int32) : Nat → Nat → Nat
  | 0, _ => 0
  | m + 1, v => (if bt tk v = true then 0 else 1) + cf tk m (v + 1)
theorem cf_pc (tk : Int32) : ∀ m v, pcA tk (v + m) + cf tk m v = pcA tk v + m
  | 0, v => rfl
  | m + 1, v => by
    have ih := cf_pc tk m (v + 1)
    have e1 : pcA tk (v + 1) = pcA tk v + if bt tk v then 1 else 0 := rfl
    show pcA tk (v + (m + 1)) + ((if bt tk v = true then 0 else 1) + cf tk m (v + 1)) = pcA tk v + (m + 1)
    rw [show v + (m + 1) = v + 1 + m by omega]
    rw [e1] at ih
    cases e : bt tk v with
    | true => rw [e] at ih; simp at ih ⊢; omega
    | false => rw [e] at ih; simp at ih ⊢; omega
theorem frA_ok {tk : Int32} : ∀ m v l, l < cf tk m v → ∃ w, frA tk m v l = some w ∧ v ≤ w ∧ w < v + m ∧ bt tk w = false
  | 0, v, l, h => absurd h (Nat.not_lt_zero l)
  | m + 1, v, l, h => by
    have h : l < (if bt tk v = true then 0 else 1) + cf tk m (v + 1) := h
    cases e : bt tk v with
    | true =>
      rw [e] at h
      obtain ⟨w, h1, h2, h3, h4⟩ := frA_ok (tk := tk) m (v + 1) l (by simpa using h)
      exact ⟨w, by rw [frA_t e]; exact h1, by omega, by omega, h4⟩
    | false =>
      rw [e] at h
      by_cases q : l = 0
      · exact ⟨v, frA_0 e q, Nat.le_refl _, by omega, e⟩
      · have h : l < 1 + cf tk m (v + 1) := by simpa using h
        obtain ⟨w, h1, h2, h3, h4⟩ := frA_ok (tk := tk) m (v + 1) (l - 1) (by omega)
        exact ⟨w, by rw [frA_s e q]; exact h1, by omega, by omega, h4⟩
def dk (x n : Nat) : Nat := nxN x / 65536 % n
def wv (V : Nat) (i x : Nat) (tk : Int32) : Nat := (frA tk V 0 (dk x (V - i))).getD 0
def gcA (V : Nat) : Nat → Nat → Nat → Int32 → Int32 → Int32 × Nat
  | 0, _, x, _, st => (st, x)
  | m + 1, i, x, tk, st => gcA V m (i + 1) (nxN (nxN x)) (tk ||| bi (wv V i x tk)) (st ||| bi (2 * wv V i x tk + dk (nxN x) 2))
theorem gcA_s {V m i x : Nat} {tk st : Int32} : gcA V (m + 1) i x tk st = gcA V m (i + 1) (nxN (nxN x)) (tk ||| bi (wv V i x tk)) (st ||| bi (2 * wv V i x tk + dk (nxN x) 2)) := rfl
/-- what has been taken, and the clause so far -/
def GI (V i : Nat) (tk st : Int32) : Prop := pcA tk V = i ∧ (∀ b, b < 32 → bt st b = true → b < 2 * V ∧ bt tk (b / 2) = true) ∧ tv st = false
theorem wv_ok {V i x : Nat} {tk st : Int32} (h : GI V i tk st) (hi : i < V) (hV : V ≤ 10) : frA tk V 0 (dk x (V - i)) = some (wv V i x tk) ∧ wv V i x tk < V ∧ bt tk (wv V i x tk) = false := by
  have hc := cf_pc tk V 0
  rw [Nat.zero_add, h.1, show pcA tk 0 = 0 from rfl] at hc
  have hd : dk x (V - i) < V - i := Nat.mod_lt _ (by omega)
  obtain ⟨w, h1, _, h3, h4⟩ := frA_ok (tk := tk) V 0 (dk x (V - i)) (by omega)
  have e : wv V i x tk = w := by unfold wv; rw [h1]; rfl
  rw [e]
  exact ⟨h1, by omega, h4⟩
theorem GI_step {V i x : Nat} {tk st : Int32} (h : GI V i tk st) (hi : i < V) (hV : V ≤ 10) : GI V (i + 1) (tk ||| bi (wv V i x tk)) (st ||| bi (2 * wv V i x tk + dk (nxN x) 2)) := by
  obtain ⟨_, w1, w2⟩ := wv_ok (x := x) h hi hV
  obtain ⟨w, ew⟩ : ∃ w, w = wv V i x tk := ⟨_, rfl⟩
  have hd : dk (nxN x) 2 < 2 := Nat.mod_lt _ (by decide)
  obtain ⟨d, ed⟩ : ∃ d, d = dk (nxN x) 2 := ⟨_, rfl⟩
  rw [← ew] at w1 w2 ⊢
  rw [← ed] at hd ⊢
  obtain ⟨g1, g2, g3⟩ := h
  have sb : ∀ b, b < 32 → bt (st ||| bi (2 * w + d)) b = (bt st b || decide (b = 2 * w + d)) := fun b hb => by rw [b_or, b_bi (by omega) hb]
  have tb : ∀ b, b < 32 → bt (tk ||| bi w) b = (bt tk b || decide (b = w)) := fun b hb => by rw [b_or, b_bi (by omega) hb]
  refine ⟨?_, fun b hb hq => ?_, ?_⟩
  · have := pcA_set (x := tk ||| bi w) (y := tk) (j := w) (by rw [tb w (by omega)]; simp) w2 (fun i hi hne => by rw [tb i hi, decide_eq_false hne, Bool.or_false]) V (by omega)
    rw [this, if_pos w1, g1]
  · rw [sb b hb, Bool.or_eq_true, decide_eq_true_eq] at hq
    rcases hq with q | q
    · obtain ⟨a1, a2⟩ := g2 b hb q
      exact ⟨a1, by rw [tb _ (by omega), a2]; rfl⟩
    · refine ⟨by omega, ?_⟩
      rw [tb _ (by omega), decide_eq_true (show b / 2 = w by omega), Bool.or_true]
  · cases ht : tv (st ||| bi (2 * w + d)) with
    | false => rfl
    | true =>
      exfalso
      obtain ⟨b, hb, h1, h2⟩ := (tv_iff _).mp ht
      have hf := fl32 hb
      rw [sb b (by omega), Bool.or_eq_true, decide_eq_true_eq] at h1
      rw [sb _ (by omega), Bool.or_eq_true, decide_eq_true_eq] at h2
      have key : ∀ b, b < 20 → bt st b = true → b / 2 = w → False := fun b hb hq e => by
        have := (g2 b (by omega) hq).2
        rw [e, w2] at this; cases this
      rcases h1 with q1 | q1
      · rcases h2 with q2 | q2
        · have := nof g3 hb q1
          rw [q2] at this; cases this
        · exact key b hb q1 (by have := fl_div b; omega)
      · rcases h2 with q2 | q2
        · exact key (fl b) hf q2 (by have := fl_div b; omega)
        · exact fl_ne b (by omega)
theorem gcA_ok {V : Nat} (hV : V ≤ 10) : ∀ m i x tk st, i + m ≤ V → GI V i tk st → x < 2 ^ 31 → (∀ b, b < 32 → bt (gcA V m i x tk st).1 b = true → b < 2 * V) ∧ tv (gcA V m i x tk st).1 = false ∧ (gcA V m i x tk st).2 < 2 ^ 31
  | 0, _, _, _, _, _, h, hx => ⟨fun b hb hq => (h.2.1 b hb hq).1, h.2.2, hx⟩
  | m + 1, i, x, tk, st, hm, h, hx => gcA_ok hV m (i + 1) (nxN (nxN x)) _ _ (by omega) (GI_step h (by omega) hV) (nxN_lt _)
theorem GI_0 {V : Nat} : GI V 0 0 0 := ⟨pcA_0 V, fun b _ h => (by rw [b_0] at h; cases h), tv_0⟩
def gnA (V w : Nat) : Nat → sg → Nat → sg
  | 0, s, _ => s
  | m + 1, s, x => gnA V w m (addO s (gcA V w 0 x 0 0).1) (gcA V w 0 x 0 0).2
theorem gn_step {s : sg} (h : Inv s) (ha : ∀ v, v < sV s → sS s v = 0) (ho : (sO s).length < 32) {w x : Nat} (hw : w ≤ sV s) (hx : x < 2 ^ 31) : Inv (addO s (gcA (sV s) w 0 x 0 0).1) ∧ (sL s ≠ [0] → (sL s).length < 48) ∧ sV (addO s (gcA (sV s) w 0 x 0 0).1) = sV s ∧ sS (addO s (gcA (sV s) w 0 x 0 0).1) = sS s ∧ (sO (addO s (gcA (sV s) w 0 x 0 0).1)).length = (sO s).length + 1 ∧ (gcA (sV s) w 0 x 0 0).2 < 2 ^ 31 := by
  obtain ⟨g1, g2, g3⟩ := gcA_ok h.V10 w 0 x 0 0 (by omega) GI_0 hx
  obtain ⟨a1, a2, a3, a4, a5, _⟩ := inv_addO h ha ho (x := (gcA (sV s) w 0 x 0 0).1) (fun hz => ⟨hz, g2, fun i hi hb => ⟨g1 i hi hb, ha _ (by have := g1 i hi hb; omega)⟩⟩)
  exact ⟨a1, a2, a3, a4, by rw [a5, List.length_append]; rfl, g3⟩
theorem gn_inv {w : Nat} : ∀ m s x, Inv s → (∀ v, v < sV s → sS s v = 0) → (sO s).length + m ≤ 32 → w ≤ sV s → x < 2 ^ 31 → Inv (gnA (sV s) w m s x) ∧ (sO (gnA (sV s) w m s x)).length = (sO s).length + m
  | 0, s, x, h, _, _, _, _ => ⟨h, rfl⟩
  | m + 1, s, x, h, ha, ho, hw, hx => by
    obtain ⟨a1, a2, a3, a4, a5, a6⟩ := gn_step h ha (by omega) hw hx
    have := gn_inv (w := w) m (addO s (gcA (sV s) w 0 x 0 0).1) (gcA (sV s) w 0 x 0 0).2 a1 (by rw [a3, a4]; exact ha) (by omega) (by rw [a3]; exact hw) a6
    rw [a3, a5] at this
    exact ⟨this.1, by rw [show gnA (sV s) w (m + 1) s x = gnA (sV s) w m (addO s (gcA (sV s) w 0 x 0 0).1) (gcA (sV s) w 0 x 0 0).2 from rfl, this.2]; omega⟩
section GEN
variable {g : mj_S} {M : mj_M} {k ks : Nat} {o : ob}
theorem wL_s {k j : Nat} {v : Int64} : (mj_wL M k j v).2.1 k j = v := mj_up2_s _ _ _ _
theorem c_draw (h2 : is2 g ks) {x n : Nat} (hx : M.2.1 ks 0 = lN x) (hx31 : x < 2 ^ 31) (hn : 0 < n) (hn2 : n < 2 ^ 31) : kX2_draw ks (nI n) g M (fun v M' => v = nI (dk x n) ∧ M' = mj_wL M ks 0 (lN (nxN x))) := by
  refine eX2_draw h2 ?_
  rw [hx, nx64 hx31, wL_s]
  refine ⟨fun hc => absurd hc (nI_nle hn hn2), fun _ => ⟨z64 hn hn2, ?_, rfl⟩⟩
  exact dr64 (nxN_lt x) hn hn2
theorem r_draws (h0 : is10 g k) {x n : Nat} (hx : M.2.1 k 7 = lN x) (hx31 : x < 2 ^ 31) (hn : 0 < n) (hn2 : n < 2 ^ 31) : kX10_draws k (nI n) g M (fun v M' => v = nI (dk x n) ∧ M' = mj_wL M k 7 (lN (nxN x))) := by
  refine eX10_draws h0 ?_
  rw [hx, nx64 hx31, wL_s]
  exact ⟨z64 hn hn2, dr64 (nxN_lt x) hn hn2, rfl⟩
theorem sh_bt {tk : Int32} {v : Nat} (hv : v < 32) : (tk >>> (nI v &&& 31)) &&& 1 = 0 ↔ bt tk v = false := by rw [b_and1, b_has hv]
theorem c_free (h2 : is2 g ks) {V : Nat} (hV : M.1 ks 1 = nI V) (hV10 : V ≤ 10) (tk : Int32) {l : Nat} (hl : l < 2 ^ 31) : kX2_freeVariable ks tk (nI l) g M (fun v M' => M' = M ∧ v = nI ((frA tk V 0 l).getD 0)) := by
  have key : ∀ m v l, v + m = V → l < 2 ^ 31 → LX2_freeVariable_5 ks tk (nI l) (nI v) g M (fun r M' => M' = M ∧ r = nI ((frA tk m v l).getD 0)) := by
    intro m
    induction m with
    | zero =>
      intro v l hv hl
      exact bX2_freeVariable_5 h2 ⟨fun _ => ⟨rfl, rfl⟩, fun hc => absurd (by rw [hV, show v = V by omega]; exact Int32.le_refl _) hc⟩
    | succ m ih =>
      intro v l hv hl
      refine bX2_freeVariable_5 h2 ⟨fun hc => absurd hc (nlt (n := V) (by omega) (by omega) hV), fun _ => ?_⟩
      rw [sh_bt (show v < 32 by omega), nI_1, show (0 : Int32) = nI 0 from rfl, nI_eq hl (by decide)]
      refine ⟨fun hc => ?_, fun hc => ⟨fun h0 => ?_, fun h0 => ⟨rfl, ?_⟩⟩⟩
      · rw [frA_t (by cases e : bt tk v; exact absurd e hc; rfl)]; exact ih (v + 1) l (by omega) hl
      · obtain ⟨l', el⟩ : ∃ l', l = l' + 1 := ⟨l - 1, by omega⟩
        rw [frA_s hc h0, el, m1, show l' + 1 - 1 = l' by omega]
        exact ih (v + 1) l' (by omega) (by omega)
      · rw [frA_0 hc h0]; rfl
  exact eX2_freeVariable h2 (key V 0 l (by omega) hl)
theorem c_nextClause (h2 : is2 g ks) {V w x : Nat} (hV : M.1 ks 1 = nI V) (hV10 : V ≤ 10) (hx : M.2.1 ks 0 = lN x) (hx31 : x < 2 ^ 31) (hw : w ≤ V) : kX2_nextClause ks (nI w) g M (fun v M' => v = (gcA V w 0 x 0 0).1 ∧ M' = mj_wL M ks 0 (lN (gcA V w 0 x 0 0).2)) := by
  have key : ∀ m i x tk st M1, i + m = w → GI V i tk st → x < 2 ^ 31 → M1 = mj_wL M ks 0 (lN x) → LX2_nextClause_7 ks (nI w) tk st (nI i) g M1 (fun v M' => v = (gcA V m i x tk st).1 ∧ M' = mj_wL M ks 0 (lN (gcA V m i x tk st).2)) := by
    intro m
    induction m with
    | zero =>
      intro i x tk st M1 hi _ _ eM
      exact bX2_nextClause_7 h2 ⟨fun _ => ⟨rfl, eM⟩, fun hc => absurd (nI_le (by omega) (by omega)) hc⟩
    | succ m ih =>
      intro i x tk st M1 hi hG hx eM
      have hiV : i < V := by omega
      obtain ⟨w1, w2, w3⟩ := wv_ok (x := x) hG hiV hV10
      have ww : ∀ y z : Int64, mj_wL (mj_wL M ks 0 y) ks 0 z = mj_wL M ks 0 z := fun y z => by
        unfold mj_wL
        refine congrArg (fun f => (M.1, f, M.2.2)) ?_
        funext a b
        show mj_up2 (mj_up2 M.2.1 ks 0 y) ks 0 z a b = mj_up2 M.2.1 ks 0 z a b
        unfold mj_up2
        split <;> rfl
      have e1 : M1.1 ks 1 = nI V := by rw [eM]; exact hV
      refine bX2_nextClause_7 h2 ⟨fun hc => absurd hc (nI_ge (by omega) (by omega)), fun _ => ?_⟩
      rw [e1, pk_sub (show i ≤ V by omega)]
      refine ⟨_, c_draw h2 (x := x) (by rw [eM]; exact wL_s) hx (show 0 < V - i by omega) (by omega), fun v1 M2 hq => ?_⟩
      obtain ⟨rfl, rfl⟩ := hq
      have hd : dk x (V - i) < V - i := Nat.mod_lt _ (by omega)
      refine ⟨_, c_free (M := mj_wL M1 ks 0 (lN (nxN x))) h2 (V := V) e1 hV10 tk (show dk x (V - i) < 2 ^ 31 by omega), fun v2 M3 hq => ?_⟩
      obtain ⟨rfl, rfl⟩ := hq
      rw [show (frA tk V 0 (dk x (V - i))).getD 0 = wv V i x tk from rfl]
      refine ⟨_, c_draw h2 (x := nxN x) (n := 2) wL_s (nxN_lt x) (by decide) (by decide), fun v3 M4 hq => ?_⟩
      obtain ⟨rfl, rfl⟩ := hq
      rw [two_nI, nI_add, nI_1, gcA_s]
      refine ih (i + 1) (nxN (nxN x)) _ _ _ (by omega) (GI_step hG hiV hV10) (nxN_lt _) ?_
      rw [eM, ww, ww]
  have k0 := key w 0 x 0 0 M (by omega) GI_0 hx31 ?_
  · exact eX2_nextClause h2 k0
  · unfold mj_wL
    refine Prod.ext rfl (Prod.ext ?_ rfl)
    funext a b
    show M.2.1 a b = mj_up2 M.2.1 ks 0 (lN x) a b
    unfold mj_up2
    split
    · rename_i q; rw [q.1, q.2]; exact hx
    · rfl
theorem r_drawnClause (h0 : is10 g k) {s : sg} (hs : rr_ M k s) {w x : Nat} (hx : M.2.1 k 7 = lN x) (hx31 : x < 2 ^ 31) (hw : w ≤ sV s) : kX10_drawnClause k (nI w) g M (fun v M' => v = (gcA (sV s) w 0 x 0 0).1 ∧ M' = mj_wL M k 7 (lN (gcA (sV s) w 0 x 0 0).2)) := by
  have hV10 := hs.V10
  obtain ⟨V, eV⟩ : ∃ V, V = sV s := ⟨_, rfl⟩
  rw [← eV] at hV10 hw ⊢
  have key : ∀ m i x tk st M1, i + m = w → GI V i tk st → x < 2 ^ 31 → M1 = mj_wL M k 7 (lN x) → LX10_drawnClause_7 k (nI w) st tk (nI i) g M1 (fun v M' => v = (gcA V m i x tk st).1 ∧ M' = mj_wL M k 7 (lN (gcA V m i x tk st).2)) := by
    intro m
    induction m with
    | zero =>
      intro i x tk st M1 hi _ _ eM
      exact bX10_drawnClause_7 h0 ⟨fun _ => ⟨rfl, eM⟩, fun hc => absurd (nI_le (by omega) (by omega)) hc⟩
    | succ m ih =>
      intro i x tk st M1 hi hG hx eM
      have hiV : i < V := by omega
      obtain ⟨w1, w2, w3⟩ := wv_ok (x := x) hG hiV hV10
      have ww : ∀ y z : Int64, mj_wL (mj_wL M k 7 y) k 7 z = mj_wL M k 7 z := fun y z => by
        unfold mj_wL
        refine congrArg (fun f => (M.1, f, M.2.2)) ?_
        funext a b
        show mj_up2 (mj_up2 M.2.1 k 7 y) k 7 z a b = mj_up2 M.2.1 k 7 z a b
        unfold mj_up2
        split <;> rfl
      have e1 : M1.1 (k + 1) (Int32.toNatClampNeg 0) = nI V := by rw [eM, eV]; exact hs.V
      refine bX10_drawnClause_7 h0 ⟨fun hc => absurd hc (nI_ge (by omega) (by omega)), fun _ => ?_⟩
      rw [e1, pk_sub (show i ≤ V by omega)]
      refine ⟨_, r_draws h0 (x := x) (by rw [eM]; exact wL_s) hx (show 0 < V - i by omega) (by omega), fun v1 M2 hq => ?_⟩
      obtain ⟨rfl, rfl⟩ := hq
      have hd : dk x (V - i) < V - i := Nat.mod_lt _ (by omega)
      have lp : ∀ n v l, v + n = V → l < 2 ^ 31 → frA tk n v l = some (wv V i x tk) → LX10_drawnClause_31 k (nI w) st tk (nI i) (nI l) (nI v) g (mj_wL M1 k 7 (lN (nxN x))) (fun v M' => v = (gcA V (m + 1) i x tk st).1 ∧ M' = mj_wL M k 7 (lN (gcA V (m + 1) i x tk st).2)) := by
        intro n
        induction n with
        | zero => intro v l _ _ h; cases h
        | succ n ihn =>
          intro v l hv hl hf
          refine bX10_drawnClause_31 h0 ⟨_, r_has _ (show v < 32 by omega), fun v1 M2 hq => ?_⟩
          obtain ⟨e2, rfl⟩ := hq
          subst e2
          rw [nI_1, Int32.sub_zero]
          cases hb : bt tk v with
          | true =>
            rw [frA_t hb] at hf
            refine ⟨fun _ => ⟨_, r_has _ (show v < 32 by omega), fun v2 M3 hq => ?_⟩, fun hc => absurd hc (by decide)⟩
            obtain ⟨e3, rfl⟩ := hq
            subst e3
            rw [hb]
            exact ⟨fun hc => absurd hc (by decide), fun _ => ihn (v + 1) l (by omega) hl hf⟩
          | false =>
            refine ⟨fun hc => absurd rfl hc, fun _ => ?_⟩
            rw [show (0 : Int32) = nI 0 from rfl, nI_leI hl (by decide)]
            refine ⟨fun hz => ⟨_, r_draws h0 (x := nxN x) (n := 2) wL_s (nxN_lt x) (by decide) (by decide), fun v3 M3 hq => ?_⟩, fun hz => ⟨_, r_has _ (show v < 32 by omega), fun v4 M4 hq => ?_⟩⟩
            · obtain ⟨rfl, rfl⟩ := hq
              rw [frA_0 hb (by omega)] at hf
              have ev : v = wv V i x tk := by simpa using hf
              rw [two_nI, nI_add, nI_1, gcA_s, ← ev]
              have hG2 := GI_step (x := x) hG hiV hV10
              rw [← ev] at hG2
              refine ih (i + 1) (nxN (nxN x)) _ _ _ (by omega) hG2 (nxN_lt _) ?_
              rw [eM, ww, ww]
            · obtain ⟨e4, rfl⟩ := hq
              subst e4
              rw [hb]
              rw [frA_s hb (by omega)] at hf
              obtain ⟨l', el⟩ : ∃ l', l = l' + 1 := ⟨l - 1, by omega⟩
              refine ⟨fun _ => ?_, fun hc => absurd rfl hc⟩
              rw [el, nI_pred]
              rw [el, show l' + 1 - 1 = l' by omega] at hf
              exact ihn (v + 1) l' (by omega) (by omega) hf
      exact lp V 0 (dk x (V - i)) (by omega) (by omega) w1
  have k0 := key w 0 x 0 0 M (by omega) GI_0 hx31 ?_
  · exact eX10_drawnClause h0 k0
  · unfold mj_wL
    refine Prod.ext rfl (Prod.ext ?_ rfl)
    funext a b
    show M.2.1 a b = mj_up2 M.2.1 k 7 (lN x) a b
    unfold mj_up2
    split
    · rename_i q; rw [q.1, q.2]; exact hx
    · rfl
end GEN
