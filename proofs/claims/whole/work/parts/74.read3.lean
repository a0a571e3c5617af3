/-! READING CLAUSES: the reference -/
theorem bX10_skips_0 {k0 : Nat} {g : mj_S} {M : mj_M} {q : mj_M → Prop} (h0 : is10 g k0) (h : ∃ (q1 : Int32 → mj_M → Prop), kX10_isBlank (k0) g (M) q1 ∧ ∀ (v1 : Int32) (M1 : mj_M), q1 v1 M1 → (((v1 : Int32) = 0 → q (M1)) ∧ (¬ (v1 : Int32) = 0 → LX10_skips_0 k0 g (mj_wI (M1) (k0) 8 (((M1).1 (k0) 8) + (1 : Int32))) q))) : LX10_skips_0 k0 g M q := by
  intro d hd ex
  show mj_G mtX10_skips (mj_rm d 0 0) (mj_Fi (mj_qV g q) mj_x0 0 0) ex 0 0 0 [(0, .ref (k0))] [] g M
  refine mg_aload_n dX10_skips_0 rfl 0 rfl ?_
  obtain ⟨q1, hC, hk⟩ := h
  refine mc_Vi [] [] dX10_skips_1 wd_1500 kiX10_isBlank (Nat.le_of_ble_eq_true rfl) h0.1.1 h0.1.2 rfl (Nat.le_trans (Nat.le_of_ble_eq_true rfl) hd) hC (fun v1 M1 hq => ?_)
  replace h := hk v1 M1 hq
  refine mg_if_eq (tgt := 20) dX10_skips_4 (by decide) (fun hc => ?_) (fun hc => ?_)
  · replace h := h.1 hc
    exact me_v dX10_skips_20 rfl h
  · replace h := h.2 hc
    refine mg_aload_n dX10_skips_7 rfl 0 rfl ?_
    refine mg_dup dX10_skips_8 rfl ?_
    refine mg_getI (j := 8) dX10_skips_9 kc_10 (Nat.le_of_ble_eq_true rfl) wd_1263 rfl rfl h0.1.1 h0.1.2 rfl ?_
    refine mg_iconst (v := 1) dX10_skips_12 (by decide) ?_
    refine mg_iadd dX10_skips_13 ?_
    refine mg_putI (j := 8) dX10_skips_14 kc_10 (Nat.le_of_ble_eq_true rfl) wd_1263 rfl rfl rfl h0.1.1 h0.1.2 ?_
    refine mg_goto (tgt := 0) dX10_skips_17 (by decide) ?_
    exact mg_pick [0] rfl (h d hd ex)
/-- only some fields of the object have changed -/
def nf_ (k : Nat) (J : Nat → Prop) (M M' : mj_M) : Prop := M'.2 = M.2 ∧ ∀ a b, ¬ (a = k ∧ J b) → M'.1 a b = M.1 a b
theorem nf_.rf {k : Nat} {J : Nat → Prop} {M : mj_M} : nf_ k J M M := ⟨rfl, fun _ _ _ => rfl⟩
theorem nf_.tr {k : Nat} {J : Nat → Prop} {M M1 M2 : mj_M} (h1 : nf_ k J M M1) (h2 : nf_ k J M1 M2) : nf_ k J M M2 := ⟨h2.1.trans h1.1, fun a b h => (h2.2 a b h).trans (h1.2 a b h)⟩
theorem nf_.w {k : Nat} {J : Nat → Prop} {M : mj_M} {j : Nat} (hj : J j) (x : Int32) : nf_ k J M (mj_wI M k j x) := ⟨rfl, fun a b h => wI_k (fun q => h ⟨q.1, by rw [q.2]; exact hj⟩)⟩
theorem nf_.row {k : Nat} {J : Nat → Prop} {M M1 : mj_M} (h : nf_ k J M M1) {a : Nat} (ha : a ≠ k) : M1.1 a = M.1 a := funext (fun b => h.2 a b (fun q => ha q.1))
theorem nf_.f {k : Nat} {J : Nat → Prop} {M M1 : mj_M} (h : nf_ k J M M1) {b : Nat} (hb : ¬ J b) : M1.1 k b = M.1 k b := h.2 k b (fun q => hb q.2)
theorem nf_.mono {k : Nat} {J J' : Nat → Prop} {M M1 : mj_M} (h : nf_ k J M M1) (hJ : ∀ j, J j → J' j) : nf_ k J' M M1 := ⟨h.1, fun a b hb => h.2 a b (fun q => hb ⟨q.1, hJ b q.2⟩)⟩
def j8 (b : Nat) : Prop := b = 8
def jn (b : Nat) : Prop := b = 8 ∨ b = 9 ∨ b = 10
section RE5
variable {g : mj_S} {M : mj_M} {k : Nat} {T : List Int32}
theorem rt_.n {M1 : mj_M} {J : Nat → Prop} (h : rt_ M k T) (hf : nf_ k J M M1) (h5 : ¬ J 5) : rt_ M1 k T := ⟨by rw [hf.f h5]; exact h.1, h.2.1, fun i hi => by rw [hf.row (by omega)]; exact h.2.2 i hi⟩
theorem r_here (h0 : is10 g k) (h : rt_ M k T) {p : Nat} (hp : M.1 k 8 = nI p) (hp2 : p ≤ T.length) : kX10_here k g M (fun v M' => M' = M ∧ v = if p < T.length then T.getD p 0 else -1) := by
  have h160 := h.2.1
  refine eX10_here h0 ?_
  rw [h.1, hp, nI_leI (by omega) (by omega), nI_clamp (show p < 2 ^ 31 by omega)]
  refine ⟨fun q => ⟨rfl, by rw [if_neg (by omega)]⟩, fun q => ⟨vp_in_nI (by omega) (by decide), rfl, ?_⟩⟩
  rw [if_pos (by omega)]; exact h.2.2 p (by omega)
def bkT (T : List Int32) (p : Nat) : Bool := decide (p < T.length) && bk (bn T p)
theorem r_isBlank (h0 : is10 g k) (h : rt_ M k T) (hT : tOK T) {p : Nat} (hp : M.1 k 8 = nI p) (hp2 : p ≤ T.length) : kX10_isBlank k g M (fun v M' => M' = M ∧ v = if bkT T p then 1 else 0) := by
  refine eX10_isBlank h0 ⟨_, r_here h0 h hp hp2, fun v1 M1 hq => ?_⟩
  obtain ⟨rfl, rfl⟩ := hq
  by_cases hpl : p < T.length
  · obtain ⟨b1, b2⟩ := hT.at hpl
    rw [if_pos hpl, b1]
    have e32 : nI (bn T p) = 32 ↔ bn T p = 32 := nI_eq (b := 32) (by omega) (by decide)
    have e10 : nI (bn T p) = 10 ↔ bn T p = 10 := nI_eq (b := 10) (by omega) (by decide)
    rw [e32]
    refine ⟨fun e => ⟨rfl, ?_⟩, fun e => ⟨_, r_here h0 h hp hp2, fun v2 M2 hq => ?_⟩⟩
    · unfold bkT bk; rw [decide_eq_true hpl, decide_eq_true e]; rfl
    · obtain ⟨rfl, rfl⟩ := hq
      rw [if_pos hpl, b1, e10]
      refine ⟨fun e2 => ⟨rfl, ?_⟩, fun e2 => ⟨rfl, ?_⟩⟩
      · unfold bkT bk; rw [decide_eq_false e, decide_eq_false e2]; simp
      · unfold bkT bk; rw [decide_eq_true hpl, decide_eq_true e2]; simp
  · rw [if_neg hpl]
    refine ⟨fun e => absurd e (by decide), fun _ => ⟨_, r_here h0 h hp hp2, fun v2 M2 hq => ?_⟩⟩
    obtain ⟨rfl, rfl⟩ := hq
    rw [if_neg hpl]
    refine ⟨fun _ => ⟨rfl, ?_⟩, fun e => absurd e (by decide)⟩
    unfold bkT; rw [decide_eq_false hpl]; rfl
theorem r_skips (h0 : is10 g k) (h : rt_ M k T) (hT : tOK T) {p : Nat} (hp : M.1 k 8 = nI p) (hp2 : p ≤ T.length) : kX10_skips k g M (fun M' => ∃ p', p ≤ p' ∧ p' ≤ T.length ∧ bkT T p' = false ∧ (∀ t, p ≤ t → t < p' → bkT T t = true) ∧ M'.1 k 8 = nI p' ∧ nf_ k j8 M M') := by
  have body : ∀ m p1 M1, p1 + m = T.length → p ≤ p1 → (∀ t, p ≤ t → t < p1 → bkT T t = true) → M1.1 k 8 = nI p1 → nf_ k j8 M M1 → LX10_skips_0 k g M1 (fun M' => ∃ p', p ≤ p' ∧ p' ≤ T.length ∧ bkT T p' = false ∧ (∀ t, p ≤ t → t < p' → bkT T t = true) ∧ M'.1 k 8 = nI p' ∧ nf_ k j8 M M') := by
    intro m
    induction m with
    | zero =>
      intro p1 M1 h1 h2 h3 h4 h5
      refine bX10_skips_0 h0 ⟨_, r_isBlank h0 (h.n h5 (by unfold j8; omega)) hT h4 (by omega), fun v M2 hq => ?_⟩
      obtain ⟨rfl, rfl⟩ := hq
      have e : bkT T p1 = false := by unfold bkT; rw [decide_eq_false (by omega)]; rfl
      rw [e]
      exact ⟨fun _ => ⟨p1, h2, by omega, e, h3, h4, h5⟩, fun hc => absurd rfl hc⟩
    | succ m ih =>
      intro p1 M1 h1 h2 h3 h4 h5
      refine bX10_skips_0 h0 ⟨_, r_isBlank h0 (h.n h5 (by unfold j8; omega)) hT h4 (by omega), fun v M2 hq => ?_⟩
      obtain ⟨rfl, rfl⟩ := hq
      refine ⟨fun hc => ⟨p1, h2, by omega, (if01 _).1.mp hc, h3, h4, h5⟩, fun hc => ?_⟩
      have e := (if01 _).2.mp hc
      rw [h4, nI_1]
      refine ih (p1 + 1) _ (by omega) (by omega) (fun t t1 t2 => ?_) wI_s (h5.tr (nf_.w (J := j8) rfl _))
      by_cases q : t = p1
      · rw [q]; exact e
      · exact h3 t t1 (by omega)
  refine eX10_skips h0 ⟨_, r_isBlank h0 h hT hp hp2, fun v M2 hq => ?_⟩
  obtain ⟨rfl, rfl⟩ := hq
  refine ⟨fun hc => ⟨p, Nat.le_refl _, hp2, (if01 _).1.mp hc, fun t t1 t2 => by omega, hp, nf_.rf⟩, fun hc => ?_⟩
  have e := (if01 _).2.mp hc
  have hlt : p < T.length := by
    unfold bkT at e; rw [Bool.and_eq_true] at e; exact of_decide_eq_true e.1
  rw [hp, nI_1]
  refine body (T.length - (p + 1)) (p + 1) _ (by omega) (by omega) (fun t t1 t2 => ?_) wI_s (nf_.w (J := j8) rfl _)
  rw [show t = p by omega]; exact e
/-- blanks between numbers change nothing -/
theorem rA_blank {V m p n sn : Nat} {lit : Int32} {op : Bool} {cs : List Int32} (h : bk (bn T p) = true) : rA T V (m + 1) p (0, n, sn, lit, op, cs) = rA T V m (p + 1) (0, n, sn, lit, op, cs) := rA_s (if_pos h)
theorem rA_skip {V n sn : Nat} {lit : Int32} {op : Bool} {cs : List Int32} : ∀ (d p : Nat), p + d ≤ T.length → (∀ t, p ≤ t → t < p + d → bkT T t = true) → rA T V (T.length - p) p (0, n, sn, lit, op, cs) = rA T V (T.length - (p + d)) (p + d) (0, n, sn, lit, op, cs)
  | 0, p, _, _ => rfl
  | d + 1, p, hp, h => by
    have hb := h p (Nat.le_refl _) (by omega)
    unfold bkT at hb
    rw [Bool.and_eq_true] at hb
    rw [show T.length - p = (T.length - (p + 1)) + 1 by omega, rA_blank hb.2, rA_skip d (p + 1) (by omega) (fun t t1 t2 => h t (by omega) (by omega)), show p + 1 + d = p + (d + 1) by omega]
/-- behind a 0, and behind a literal, where a blank or the end stands -/
theorem rA_zero {V p : Nat} {cs : List Int32} (hp : p ≤ T.length) (h : p = T.length ∨ bkT T p = true) : rA T V (T.length - p) p (2, 0, 0, 0, false, cs) = rA T V (T.length - p) p (0, 0, 0, 0, false, cs) := by
  rcases h with e | e
  · rw [e, Nat.sub_self]; rfl
  · unfold bkT at e
    rw [Bool.and_eq_true, decide_eq_true_eq] at e
    rw [show T.length - p = (T.length - (p + 1)) + 1 by omega, rA_blank e.2]
    exact rA_s (if_pos e.2)
theorem rA_lit {V p n sn : Nat} {lit : Int32} {cs : List Int32} (hp : p ≤ T.length) (h : p = T.length ∨ bkT T p = true) : (rA T V (T.length - p) p (3, n, sn, lit, true, cs)).1 = (rA T V (T.length - p) p (0, 0, 0, lit ||| bi (2 * (n - 1) + sn), true, cs)).1 ∧ ((rA T V (T.length - p) p (3, n, sn, lit, true, cs)).1 = none → rA T V (T.length - p) p (3, n, sn, lit, true, cs) = rA T V (T.length - p) p (0, 0, 0, lit ||| bi (2 * (n - 1) + sn), true, cs)) := by
  rcases h with e | e
  · rw [e, Nat.sub_self]
    exact ⟨rfl, fun q => by cases q⟩
  · unfold bkT at e
    rw [Bool.and_eq_true, decide_eq_true_eq] at e
    have e2 : rA T V (T.length - p) p (3, n, sn, lit, true, cs) = rA T V (T.length - p) p (0, 0, 0, lit ||| bi (2 * (n - 1) + sn), true, cs) := by
      rw [show T.length - p = (T.length - (p + 1)) + 1 by omega, rA_blank e.2]
      exact rA_s (if_pos e.2)
    exact ⟨by rw [e2], fun _ => e2⟩
end RE5
