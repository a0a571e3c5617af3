/-! THE WHOLE OBJECT: the reference; answers of calls -/
theorem ra_.c {a a' : Nat → Int32} {s : sg} (h : ra_ a s) (e : ∀ j, j < 395 → a' j = a j) : ra_ a' s := by
  obtain ⟨c1, c2, c3, c4, c5, c6, c7, c8, c9, c10, c11, c12, c13, c14, c15⟩ := h
  refine ⟨by rw [e 0 (by omega)]; exact c1, by rw [e 1 (by omega)]; exact c2, fun t ht => by rw [e _ (by omega)]; exact c3 t ht, fun t ht => by rw [e _ (by omega)]; exact c4 t ht, fun t ht => by rw [e _ (by omega)]; exact c5 t ht, by rw [e 32 (by omega)]; exact c6, c7, fun i hi => by rw [e _ (by omega)]; exact c8 i hi, by rw [e 65 (by omega)]; exact c9, c10, fun i hi => by rw [e _ (by omega)]; exact c11 i hi, by rw [e 114 (by omega)]; exact c12, c13, fun i hi => by rw [e _ (by omega), e _ (by omega)]; exact c14 i hi, c15⟩
def pa_ (M : mj_M) (k : Nat) (ps : List sg) : Prop := M.1 k 3 = nI ps.length ∧ ps.length ≤ 6 ∧ ∀ i, i < ps.length → ra_ (fun j => M.1 (k + 2) (395 * i + j)) (ps.getD i (s0 1))
def rt_ (M : mj_M) (k : Nat) (T : List Int32) : Prop := M.1 k 5 = nI T.length ∧ T.length ≤ 160 ∧ ∀ i, i < T.length → M.1 (k + 4) i = T.getD i 0
def RR (M : mj_M) (k : Nat) (o : ob) : Prop := rr_ M k o.1 ∧ pa_ M k o.2.2 ∧ rt_ M k o.2.1
theorem RR.c {M M' : mj_M} {k : Nat} {o : ob} {s' : sg} (h : RR M k o) (h1 : rr_ M' k s') (h2 : M'.1 (k + 2) = M.1 (k + 2)) (h4 : M'.1 (k + 4) = M.1 (k + 4)) (h3 : M'.1 k 3 = M.1 k 3) (h5 : M'.1 k 5 = M.1 k 5) : RR M' k (s', o.2) := by
  obtain ⟨a, ⟨b1, b2, b3⟩, c1, c2, c3⟩ := h
  exact ⟨h1, ⟨by rw [h3]; exact b1, b2, fun i hi => by rw [h2]; exact b3 i hi⟩, by rw [h5]; exact c1, c2, fun i hi => by rw [h4]; exact c3 i hi⟩
theorem RR.rf {M M' : mj_M} {k : Nat} {o : ob} {s' : sg} (h : RR M k o) (hf : rf_ k M M') (h1 : rr_ M' k s') : RR M' k (s', o.2) := h.c h1 (hf.2.1 _ (by omega)) (hf.2.1 _ (by omega)) (hf.2.2 3 (by decide)) (hf.2.2 5 (by decide))
theorem RR.wf {M : mj_M} {k : Nat} {o : ob} (h : RR M k o) {j : Nat} (h3 : j ≠ 3) (h5 : j ≠ 5) (x : Int32) : RR (mj_wI M k j x) k o := by
  have f : fr_ k (k + 1) M (mj_wI M k j x) := fr_.wI (by omega) (by omega)
  exact h.c (h.1.fr f (by omega)) (f.1 _ (by omega)) (f.1 _ (by omega)) (wI_k (by omega)) (wI_k (by omega))
theorem RR.gf {M M' : mj_M} {k lo hi : Nat} {o : ob} (h : RR M k o) (hf : gf_ lo hi M M') (hk : k + 12 ≤ lo ∨ hi ≤ k) : RR M' k o := by
  have e : ∀ a, k ≤ a → a < k + 12 → M'.1 a = M.1 a := fun a h1 h2 => (hf a (by omega)).1
  exact h.c (by unfold rr_; rw [e _ (by omega) (by omega)]; exact h.1) (e _ (by omega) (by omega)) (e _ (by omega) (by omega)) (by rw [e k (by omega) (by omega)]) (by rw [e k (by omega) (by omega)])
abbrev res : Type := Nat × Int32 × ob
def rq (r : res) (k : Nat) (M : mj_M) (v : Int32) (M' : mj_M) : Prop := M'.1 k 6 = nI r.1 ∧ (r.1 = 0 → v = r.2.1) ∧ RR M' k r.2.2 ∧ gf_ k (k + 12) M M'
theorem rq.tr {r : res} {k : Nat} {M M1 M2 : mj_M} {v : Int32} (h1 : gf_ k (k + 12) M M1) (h : rq r k M1 v M2) : rq r k M v M2 := ⟨h.1, h.2.1, h.2.2.1, h1.tr h.2.2.2⟩
def cq (r : res) (k : Nat) (M : mj_M) (v : Int32) (M' : mj_M) : Prop := r.1 = 0 ∧ v = r.2.1 ∧ CR M' k r.2.2 ∧ gf_ k (k + 98) M M'
def cx (r : res) (k : Nat) (M : mj_M) (X1 X2 : String) (X : String) (M' : mj_M) : Prop := ((r.1 = 1 ∧ X = X1) ∨ (r.1 = 2 ∧ X = X2)) ∧ CR M' k r.2.2 ∧ gf_ k (k + 98) M M'
theorem cq.tr {r : res} {k : Nat} {M M1 M2 : mj_M} {v : Int32} (h1 : gf_ k (k + 98) M M1) (h : cq r k M1 v M2) : cq r k M v M2 := ⟨h.1, h.2.1, h.2.2.1, h1.tr h.2.2.2⟩
theorem cq_o {r : res} {k : Nat} {M : mj_M} {o : ob} {v : Int32} (h : CR M k o) (e : r = (0, v, o)) : cq r k M v M := by subst e; exact ⟨rfl, rfl, h, gf_.rf⟩
theorem cx_1 {r : res} {k : Nat} {M : mj_M} {o : ob} {v : Int32} {X1 X2 : String} (h : CR M k o) (e : r = (1, v, o)) : cx r k M X1 X2 X1 M := by subst e; exact ⟨Or.inl ⟨rfl, rfl⟩, h, gf_.rf⟩
theorem cx_2 {r : res} {k : Nat} {M : mj_M} {o : ob} {v : Int32} {X1 X2 : String} (h : CR M k o) (e : r = (2, v, o)) : cx r k M X1 X2 X2 M := by subst e; exact ⟨Or.inr ⟨rfl, rfl⟩, h, gf_.rf⟩
/-- a number among n -/
def ix (n : Nat) (x : Int32) : Option Nat := if 0 ≤ x ∧ x < nI n then some x.toNatClampNeg else none
theorem ix_j {n j : Nat} (hn : n < 2 ^ 31) (hj : j < n) : ix n (nI j) = some j := by
  unfold ix
  rw [if_pos ⟨nI_pos' (by omega), nI_lt hj hn⟩, nI_clamp (by omega)]
theorem ix_cs {n : Nat} (hn : n < 2 ^ 31) (x : Int32) : (ix n x = none ∧ ¬ (0 ≤ x ∧ x < nI n)) ∨ ∃ j, j < n ∧ x = nI j ∧ ix n x = some j := by
  rcases pk_ix x hn with h | h | ⟨j, hj, rfl⟩
  · have : ¬ (0 ≤ x ∧ x < nI n) := fun q => by
      have a := Int32.lt_iff_toInt_lt.mp h
      have b := Int32.le_iff_toInt_le.mp q.1
      omega
    exact Or.inl ⟨if_neg this, this⟩
  · have : ¬ (0 ≤ x ∧ x < nI n) := fun q => by
      have a := Int32.le_iff_toInt_le.mp h
      have b := Int32.lt_iff_toInt_lt.mp q.2
      omega
    exact Or.inl ⟨if_neg this, this⟩
  · exact Or.inr ⟨j, hj, rfl, ix_j hn hj⟩
theorem neg_le {x : Int32} : ¬ x < 0 ↔ 0 ≤ x := by
  rw [Int32.lt_iff_toInt_lt, Int32.le_iff_toInt_le]; omega
theorem in_ix {n : Nat} (hn : n < 2 ^ 30) (x : Int32) : (0 ≤ x ∧ x ≤ nI n - 1) ↔ (ix n x).isSome = true := by
  have e : (nI n - 1).toInt = (n : Int) - 1 := by have := pk_sub_toInt (a := n) (b := 1) hn (by decide); rw [show nI 1 = (1 : Int32) from rfl] at this; omega
  rcases ix_cs (show n < 2 ^ 31 by omega) x with ⟨h1, h2⟩ | ⟨j, hj, rfl, h1⟩
  · rw [h1]
    refine ⟨fun q => absurd ⟨q.1, ?_⟩ h2, fun q => by cases q⟩
    have a := Int32.le_iff_toInt_le.mp q.2
    rw [Int32.lt_iff_toInt_lt, nI_toInt (by omega)]; omega
  · rw [h1]
    refine ⟨fun _ => rfl, fun _ => ⟨nI_pos' (by omega), ?_⟩⟩
    rw [Int32.le_iff_toInt_le, e, nI_toInt (by omega)]; omega
def svf_ (k : Nat) (M M' : mj_M) : Prop := M'.2 = M.2 ∧ (∀ a, a ≠ k → a ≠ k + 2 → M'.1 a = M.1 a) ∧ ∀ j, j ≠ 3 → j ≠ 6 → M'.1 k j = M.1 k j
theorem svf_.tr {k : Nat} {M M1 M2 : mj_M} (h1 : svf_ k M M1) (h2 : svf_ k M1 M2) : svf_ k M M2 := ⟨h2.1.trans h1.1, fun a ha hb => (h2.2.1 a ha hb).trans (h1.2.1 a ha hb), fun j ha hb => (h2.2.2 j ha hb).trans (h1.2.2 j ha hb)⟩
theorem svf_.g {k : Nat} {M M1 : mj_M} (h : svf_ k M M1) : gf_ k (k + 12) M M1 := fun a ha => ⟨h.2.1 a (by omega) (by omega), by rw [h.1], by rw [h.1]⟩
theorem svf_.p {k : Nat} {M M1 : mj_M} (h : fr_ (k + 2) (k + 3) M M1) : svf_ k M M1 := ⟨h.2, fun a ha hb => h.1 a (by omega), fun j _ _ => by rw [h.1 k (by omega)]⟩
theorem svf_.w {k : Nat} {M : mj_M} {j : Nat} (hj : j = 3 ∨ j = 6) (x : Int32) : svf_ k M (mj_wI M k j x) := ⟨rfl, fun a ha _ => mj_up2_k _ _ ha, fun i h3 h6 => wI_k (by omega)⟩
section ROB
variable {g : mj_S} {M : mj_M} {k : Nat} {o : ob}
theorem r_fails (h0 : is10 g k) (h : RR M k o) (c : Nat) : kX10_fails k (nI c) g M (rq (c, 0, o) k M) := eX10_fails h0 ⟨wI_s, fun _ => rfl, h.wf (by decide) (by decide) _, (fr_.wI (lo := k) (hi := k + 12) (by omega) (by omega)).g⟩
theorem r_tells (h0 : is10 g k) (h : RR M k o) (v : Int32) : kX10_tells k v g M (rq (0, v, o) k M) := eX10_tells h0 ⟨wI_s, fun _ => rfl, h.wf (by decide) (by decide) _, (fr_.wI (lo := k) (hi := k + 12) (by omega) (by omega)).g⟩
/-- its last steps -/
theorem r_fail {q : Int32 → mj_M → Prop} {r : res} {M0 : mj_M} (h0 : is10 g k) (h : RR M k o) (hf : gf_ k (k + 12) M0 M) (c : Nat) (e : r = (c, 0, o)) (hq : ∀ v M', rq r k M0 v M' → q v M') : ∃ q2 : Int32 → mj_M → Prop, kX10_fails k (nI c) g M q2 ∧ ∀ v M', q2 v M' → q v M' := ⟨_, r_fails h0 h c, fun v M' h => hq v M' (by rw [e]; exact h.tr hf)⟩
theorem r_tell {q : Int32 → mj_M → Prop} {r : res} {M0 : mj_M} (h0 : is10 g k) (h : RR M k o) (hf : gf_ k (k + 12) M0 M) (v : Int32) (e : r = (0, v, o)) (hq : ∀ v M', rq r k M0 v M' → q v M') : ∃ q2 : Int32 → mj_M → Prop, kX10_tells k v g M q2 ∧ ∀ v M', q2 v M' → q v M' := ⟨_, r_tells h0 h v, fun v M' h => hq v M' (by rw [e]; exact h.tr hf)⟩
theorem r_ix {n : Nat} (hn : n < 2 ^ 30) (x : Int32) : kX10_in x 0 (nI n - 1) g M (fun v M' => M' = M ∧ v = if (ix n x).isSome then 1 else 0) := by
  have h := r_in (g := g) (M := M) (x := x) (a := 0) (b := nI n - 1)
  rw [show (if 0 ≤ x ∧ x ≤ nI n - 1 then (1 : Int32) else 0) = if (ix n x).isSome then 1 else 0 by
    by_cases q : (0 ≤ x ∧ x ≤ nI n - 1)
    · rw [if_pos q, if_pos ((in_ix hn x).mp q)]
    · rw [if_neg q, if_neg (fun p => q ((in_ix hn x).mpr p))]] at h
  exact h
theorem l01 {b : Bool} : (if b then (1 : Int32) else 0) = 0 ∨ (if b then (1 : Int32) else 0) = 1 := by cases b <;> decide
theorem r_isVariable (h0 : is10 g k) (h : RR M k o) (x : Int32) : kX10_isVariable k x g M (fun v M' => M' = M ∧ v = if (ix (sV o.1) x).isSome then 1 else 0) := by
  have hV := h.1.V10
  refine eX10_isVariable h0 ?_
  rw [h.1.V]
  refine ⟨_, r_ix (by omega) x, fun v M1 hq => ⟨?_, hq⟩⟩
  rw [hq.2]; exact l01
theorem r_isLiteral (h0 : is10 g k) (h : RR M k o) (x : Int32) : kX10_isLiteral k x g M (fun v M' => M' = M ∧ v = if (ix (2 * sV o.1) x).isSome then 1 else 0) := by
  have hV := h.1.V10
  refine eX10_isLiteral h0 ?_
  rw [h.1.V, two_nI]
  refine ⟨_, r_ix (by omega) x, fun v M1 hq => ⟨?_, hq⟩⟩
  rw [hq.2]; exact l01
theorem r_isClause (h0 : is10 g k) (h : RR M k o) (x : Int32) : kX10_isClause k x g M (fun v M' => M' = M ∧ v = if (ix (sL o.1).length x).isSome then 1 else 0) := by
  have hV := h.1.n48
  refine eX10_isClause h0 ?_
  rw [h.1.n]
  refine ⟨_, r_ix (by omega) x, fun v M1 hq => ⟨?_, hq⟩⟩
  rw [hq.2]; exact l01
theorem ix_neg {n : Nat} {x : Int32} (h : ¬ (0 ≤ x ∧ x < nI n)) : ¬ x < 0 → ¬ x < nI n := fun h1 h2 => h ⟨neg_le.mp h1, h2⟩
theorem c_reqVariable (h0 : is9s g k) (h : CR M k o) (x : Int32) : kX9_requireVariable k x g M (fun M' => M' = M ∧ ∃ j, j < sV o.1 ∧ x = nI j ∧ ix (sV o.1) x = some j) (fun X M' => M' = M ∧ X = mj_IO ∧ ix (sV o.1) x = none) := by
  have hV : sV o.1 ≤ 10 := h.1.2.2.2.2.2.2.2.2.2.2
  refine eX9_requireVariable h0.1 ?_
  rw [h.1.1]
  rcases ix_cs (n := sV o.1) (by omega) x with ⟨e, hx⟩ | ⟨j, hj, rfl, e⟩
  · exact ⟨fun _ => ⟨rfl, rfl, e⟩, fun h1 => ⟨fun h2 => absurd h2 (ix_neg hx h1), fun _ => ⟨rfl, rfl, e⟩⟩⟩
  · exact ⟨fun h1 => absurd h1 (nI_pos (by omega)), fun _ => ⟨fun _ => ⟨rfl, j, hj, rfl, e⟩, fun h1 => absurd (nI_lt hj (by omega)) h1⟩⟩
theorem c_reqLiteral (h0 : is9s g k) (h : CR M k o) (x : Int32) : kX9_requireLiteral k x g M (fun M' => M' = M ∧ ∃ j, j < 2 * sV o.1 ∧ x = nI j ∧ ix (2 * sV o.1) x = some j) (fun X M' => M' = M ∧ X = mj_IO ∧ ix (2 * sV o.1) x = none) := by
  have hV : sV o.1 ≤ 10 := h.1.2.2.2.2.2.2.2.2.2.2
  refine eX9_requireLiteral h0.1 ?_
  rw [h.1.1, two_nI]
  rcases ix_cs (n := 2 * sV o.1) (by omega) x with ⟨e, hx⟩ | ⟨j, hj, rfl, e⟩
  · exact ⟨fun _ => ⟨rfl, rfl, e⟩, fun h1 => ⟨fun h2 => absurd h2 (ix_neg hx h1), fun _ => ⟨rfl, rfl, e⟩⟩⟩
  · exact ⟨fun h1 => absurd h1 (nI_pos (by omega)), fun _ => ⟨fun _ => ⟨rfl, j, hj, rfl, e⟩, fun h1 => absurd (nI_lt hj (by omega)) h1⟩⟩
theorem c_reqClause (h0 : is9s g k) (h : CR M k o) (x : Int32) : kX9_requireClause k x g M (fun M' => M' = M ∧ ∃ j, j < (sL o.1).length ∧ x = nI j ∧ ix (sL o.1).length x = some j) (fun X M' => M' = M ∧ X = mj_IO ∧ ix (sL o.1).length x = none) := by
  have hL := h.1.2.2.2.1
  have hlt := hL.lt
  refine eX9_requireClause h0.1 ?_
  rcases ix_cs (n := (sL o.1).length) (by omega) x with ⟨e, hx⟩ | ⟨j, hj, rfl, e⟩
  · refine ⟨fun _ => ⟨rfl, rfl, e⟩, fun h1 => ⟨_, c_size h0.1.2.1.2.2.1.2 hL, fun v M1 hq => ?_⟩⟩
    obtain ⟨rfl, rfl⟩ := hq
    exact ⟨fun h2 => absurd h2 (ix_neg hx h1), fun _ => ⟨rfl, rfl, e⟩⟩
  · refine ⟨fun h1 => absurd h1 (nI_pos (by omega)), fun _ => ⟨_, c_size h0.1.2.1.2.2.1.2 hL, fun v M1 hq => ?_⟩⟩
    obtain ⟨rfl, rfl⟩ := hq
    exact ⟨fun _ => ⟨rfl, j, hj, rfl, e⟩, fun h1 => absurd (nI_lt hj (by omega)) h1⟩
theorem c_reqTechnique (h0 : is9s g k) (x : Int32) : kX9_requireTechnique k x g M (fun M' => M' = M ∧ ∃ j, j < 10 ∧ x = nI j ∧ ix 10 x = some j) (fun X M' => M' = M ∧ X = mj_IA ∧ ix 10 x = none) := by
  refine eX9_requireTechnique h0.1 ?_
  rw [show (10 : Int32) = nI 10 from rfl]
  rcases ix_cs (n := 10) (by omega) x with ⟨e, hx⟩ | ⟨j, hj, rfl, e⟩
  · exact ⟨fun _ => ⟨rfl, rfl, e⟩, fun h1 => ⟨fun h2 => absurd h2 (ix_neg hx h1), fun _ => ⟨rfl, rfl, e⟩⟩⟩
  · exact ⟨fun h1 => absurd h1 (nI_pos (by omega)), fun _ => ⟨fun _ => ⟨rfl, j, hj, rfl, e⟩, fun h1 => absurd (nI_lt hj (by omega)) h1⟩⟩
theorem r_isTechnique (x : Int32) : kX10_in x 0 9 g M (fun v M' => M' = M ∧ v = if (ix 10 x).isSome then 1 else 0) := r_ix (n := 10) (by decide) x
/-! saving -/
theorem i395 (n i : Nat) : (395 : Int32) * nI n + nI i = nI (395 * n + i) := by rw [show (395 : Int32) = nI 395 from rfl, pk_mul, nI_add]
theorem r_save57 (h0 : is10 g k) {s : sg} {T : List Int32} {qs : List sg} (hq : qs.length < 6) (h : RR M k (s, T, qs)) {q : mj_M → Prop} (hQ : ∀ M', RR M' k (s, T, qs ++ [s]) → M'.1 k 6 = M.1 k 6 → svf_ k M M' → q M') : LX10_save_57 k 0 g M q := by
  obtain ⟨h1, ⟨h2, h3, h4⟩, h5⟩ := h
  have key : ∀ m i, i + m = 395 → ∀ M1, M1.1 k = M.1 k → fr_ (k + 2) (k + 3) M M1 → (∀ a, M1.1 (k + 2) a = if 395 * qs.length ≤ a ∧ a < 395 * qs.length + i then M.1 (k + 1) (a - 395 * qs.length) else M.1 (k + 2) a) → LX10_save_57 k (nI i) g M1 q := by
    intro m
    induction m with
    | zero =>
      intro i hi M1 e0 hf hp
      have hi : i = 395 := by omega
      subst hi
      refine bX10_save_57 h0 ⟨fun _ => ?_, fun hc => absurd (by decide) hc⟩
      have h2' : nI qs.length = M1.1 k 3 := by rw [e0]; exact h2.symm
      rw [← h2', nI_1]
      have f : fr_ k (k + 1) M1 (mj_wI M1 k 3 (nI (qs.length + 1))) := fr_.wI (by omega) (by omega)
      refine hQ _ ⟨(h1.fr hf (by omega)).fr f (by omega), ⟨?_, ?_, fun i hi => ?_⟩, ?_, h5.2.1, fun i hi => ?_⟩ ?_ ((svf_.p hf).tr (svf_.w (Or.inl rfl) _))
      · rw [wI_s, List.length_append]; rfl
      · rw [List.length_append]; show qs.length + 1 ≤ 6; omega
      · rw [List.length_append] at hi
        have hi : i < qs.length + 1 := hi
        rw [f.1 (k + 2) (by omega)]
        by_cases e : i = qs.length
        · subst e
          rw [gds_last]
          refine ra_.c h1 (fun j hj => ?_)
          show M1.1 (k + 2) (395 * qs.length + j) = M.1 (k + 1) j
          rw [hp, if_pos (by omega), show 395 * qs.length + j - 395 * qs.length = j by omega]
        · rw [gds_left (by omega)]
          refine ra_.c (h4 i (show i < qs.length by omega)) (fun j hj => ?_)
          show M1.1 (k + 2) (395 * i + j) = M.1 (k + 2) (395 * i + j)
          rw [hp, if_neg (by omega)]
      · rw [wI_k (by omega), e0]; exact h5.1
      · rw [f.1 (k + 4) (by omega), hf.1 (k + 4) (by omega)]; exact h5.2.2 i hi
      · rw [wI_k (by omega), e0]
    | succ m ih =>
      intro i hi M1 e0 hf hp
      refine bX10_save_57 h0 ⟨fun hc => ?_, fun _ => ⟨vp_in_nI (by omega) (by decide), ?_⟩⟩
      · rw [show (395 : Int32) = nI 395 from rfl, nI_leI (by decide) (by omega)] at hc; omega
      · rw [show M1.1 k 3 = nI qs.length by rw [e0]; exact h2, i395, nI_1, nI_clamp (show 395 * qs.length + i < 2 ^ 31 by omega), nI_clamp (show i < 2 ^ 31 by omega)]
        refine ⟨vp_in_nI (by omega) (by decide), ih (i + 1) (by omega) _ ?_ (hf.tr (fr_.wI (by omega) (by omega))) (fun a => ?_)⟩
        · rw [← e0]; exact mj_up2_k _ _ (by omega)
        · by_cases e : a = 395 * qs.length + i
          · subst e
            rw [wI_s, if_pos (by omega), hf.1 (k + 1) (by omega), show 395 * qs.length + i - 395 * qs.length = i by omega]
          · rw [wI_k (by omega), hp]
            by_cases q : 395 * qs.length ≤ a ∧ a < 395 * qs.length + i
            · rw [if_pos q, if_pos (by omega)]
            · rw [if_neg q, if_neg (by omega)]
  exact key 395 0 (by omega) M rfl fr_.rf (fun a => by rw [if_neg (by omega)])
theorem r_save (h0 : is10 g k) (h : RR M k o) : kX10_save k g M (fun M' => RR M' k (o.1, o.2.1, sav o.2.2 o.1) ∧ M'.1 k 6 = 0 ∧ svf_ k M M') := by
  have hA : RR (mj_wI M k 6 0) k o := h.wf (by decide) (by decide) 0
  have gA : svf_ k M (mj_wI M k 6 0) := svf_.w (Or.inr rfl) _
  have e6 : (mj_wI M k 6 0).1 k 6 = 0 := wI_s
  obtain ⟨MA, eA⟩ : ∃ z, z = mj_wI M k 6 0 := ⟨_, rfl⟩
  refine eX10_save h0 ?_
  rw [← eA] at hA gA e6 ⊢
  obtain ⟨a1, ⟨a2, a3, a4⟩, a5⟩ := hA
  rw [a2, show (6 : Int32) = nI 6 from rfl, nI_eq (by omega) (by decide)]
  have imp : ∀ (Mx : mj_M) (qs : List sg), qs.length < 6 → sav o.2.2 o.1 = qs ++ [o.1] → RR Mx k (o.1, o.2.1, qs) → Mx.1 k 6 = 0 → svf_ k M Mx → LX10_save_57 k 0 g Mx (fun M' => RR M' k (o.1, o.2.1, sav o.2.2 o.1) ∧ M'.1 k 6 = 0 ∧ svf_ k M M') := by
    intro Mx qs hl es hR h6 hg
    rw [es]
    exact r_save57 h0 hl hR (fun M' b1 b2 b3 => ⟨b1, b2.trans h6, hg.tr b3⟩)
  refine ⟨fun hl => imp MA o.2.2 (by omega) (by unfold sav; rw [if_pos (by omega)]) ⟨a1, ⟨a2, a3, a4⟩, a5⟩ e6 gA, fun hl => ?_⟩
  have key : ∀ m i, i + m = 1975 → ∀ M1, fr_ (k + 2) (k + 3) MA M1 → (∀ a, M1.1 (k + 2) a = if a < i then MA.1 (k + 2) (a + 395) else MA.1 (k + 2) a) → LX10_save_16 k (nI i) g M1 (fun M' => RR M' k (o.1, o.2.1, sav o.2.2 o.1) ∧ M'.1 k 6 = 0 ∧ svf_ k M M') := by
    intro m
    induction m with
    | zero =>
      intro i hi M1 hf hp
      have hi : i = 1975 := by omega
      subst hi
      refine bX10_save_16 h0 ⟨fun _ => ?_, fun hc => absurd (by decide) hc⟩
      have pl : (o.2.2.drop 1).length = 5 := by rw [List.length_drop]; omega
      have e3 : M1.1 k 3 = nI 6 := by rw [hf.1 k (by omega), a2, hl]
      rw [e3, show nI 6 - 1 = nI 5 from by decide]
      have f : fr_ k (k + 1) M1 (mj_wI M1 k 3 (nI 5)) := fr_.wI (by omega) (by omega)
      refine imp _ (o.2.2.drop 1) (by omega) (by unfold sav; rw [if_neg (by omega)]) ⟨(a1.fr hf (by omega)).fr f (by omega), ⟨?_, by show (o.2.2.drop 1).length ≤ 6; omega, fun i hi => ?_⟩, ?_, a5.2.1, fun i hi => ?_⟩ ?_ (gA.tr ((svf_.p hf).tr (svf_.w (Or.inl rfl) _)))
      · rw [wI_s]; show nI 5 = nI (o.2.2.drop 1).length; rw [pl]
      · have hi : i < (o.2.2.drop 1).length := hi
        rw [f.1 (k + 2) (by omega)]
        show ra_ _ ((o.2.2.drop 1).getD i (s0 1))
        rw [gds_drop]
        refine ra_.c (a4 (i + 1) (by omega)) (fun j hj => ?_)
        show M1.1 (k + 2) (395 * i + j) = MA.1 (k + 2) (395 * (i + 1) + j)
        rw [hp, if_pos (by omega), show 395 * i + j + 395 = 395 * (i + 1) + j by omega]
      · rw [wI_k (by omega), hf.1 k (by omega)]; exact a5.1
      · rw [f.1 (k + 4) (by omega), hf.1 (k + 4) (by omega)]; exact a5.2.2 i hi
      · rw [wI_k (by omega), hf.1 k (by omega)]; exact e6
    | succ m ih =>
      intro i hi M1 hf hp
      refine bX10_save_16 h0 ⟨fun hc => ?_, fun _ => ?_⟩
      · rw [show (1975 : Int32) = nI 1975 from rfl, nI_leI (by decide) (by omega)] at hc; omega
      · rw [show (395 : Int32) = nI 395 from rfl, nI_add, nI_1, nI_clamp (show i + 395 < 2 ^ 31 by omega), nI_clamp (show i < 2 ^ 31 by omega)]
        refine ⟨vp_in_nI (by omega) (by decide), vp_in_nI (by omega) (by decide), ih (i + 1) (by omega) _ (hf.tr (fr_.wI (by omega) (by omega))) (fun a => ?_)⟩
        by_cases e : a = i
        · subst e
          rw [wI_s, if_pos (by omega), hp, if_neg (by omega)]
        · rw [wI_k (by omega), hp]
          by_cases q : a < i
          · rw [if_pos q, if_pos (by omega)]
          · rw [if_neg q, if_neg (by omega)]
  exact key 1975 0 (by omega) MA fr_.rf (fun a => by rw [if_neg (by omega)])
/-! undoing -/
def A_undo (o : ob) : res := if o.2.2.length = 0 then (1, 0, o) else (0, nI (o.2.2.length - 1), (o.2.2.getD (o.2.2.length - 1) (s0 1), o.2.1, o.2.2.take (o.2.2.length - 1)))
theorem gds_tk {P : List sg} {d : sg} {i n : Nat} (h : i < n) : (P.take n).getD i d = P.getD i d := by
  rw [List.getD_eq_getElem?_getD, List.getD_eq_getElem?_getD, List.getElem?_take_of_lt h]
theorem c_undo (h0 : is9s g k) (h : CR M k o) : kX9_undo k g M (cq (A_undo o) k M) (cx (A_undo o) k M mj_IS mj_IS) := by
  obtain ⟨hs, ht, ⟨h1, h2, p, h3, h4, h5⟩, hx⟩ := h
  have hC : CR M k o := ⟨hs, ht, ⟨h1, h2, p, h3, h4, h5⟩, hx⟩
  refine eX9_undo h0.1 ?_
  rw [h1, show (1 : Int32) = nI 1 from rfl, nI_ltI (by omega) (by decide)]
  refine ⟨fun hl => cx_1 (o := o) (v := 0) hC (by unfold A_undo; rw [if_pos (by omega)]), fun hl => ⟨fun _ => ?_, fun hc => absurd (nI_le (b := 6) h2 (by decide)) hc⟩⟩
  obtain ⟨n, en⟩ : ∃ n, o.2.2.length = n + 1 := ⟨o.2.2.length - 1, by omega⟩
  rw [en, show nI (n + 1) - nI 1 = nI n from nI_pred n, nI_clamp (show n < 2 ^ 31 by omega)]
  have hn : n < 6 := by omega
  obtain ⟨t, t1, t2⟩ := h5 n hn
  have t2 := t2 (by omega)
  subst t2
  have hp := (h3 n hn).1
  refine ⟨vp_in_nI hn (by decide), _, ⟨(h3 n hn).2, h0.2 _ hp⟩, _, c_copyState h0.1.2.1.2 (h0.2 _ hp) hs t1 (by omega), fun M2 hq => ?_⟩
  have e3 : M2.1 k 3 = nI (n + 1) := by rw [hq.2.1 k (by omega), h1, en]
  rw [e3, show nI (n + 1) - nI 1 = nI n from nI_pred n, wI_s]
  have f : fr_ k (k + 1) M2 (mj_wI M2 k 3 (nI n)) := fr_.wI (by omega) (by omega)
  have er : A_undo o = (0, nI n, (o.2.2.getD n (s0 1), o.2.1, o.2.2.take n)) := by unfold A_undo; rw [if_neg (by omega), en]; rfl
  rw [er]
  obtain ⟨tt, ht⟩ := ht
  refine ⟨rfl, rfl, ⟨hq.1.fr f (by omega), ⟨tt, (ht.fr hq.2 (by omega)).fr f (by omega)⟩, ⟨?_, ?_, p, fun i hi => ⟨(h3 i hi).1, ?_⟩, h4, fun i hi => ?_⟩, hx.c ?_ ?_⟩, (hq.2.wd (lo' := k) (hi' := k + 98) (by omega) (by omega)).g.tr (f.wd (by omega) (by omega)).g⟩
  · rw [wI_s]; show nI n = nI (o.2.2.take n).length; rw [List.length_take, Nat.min_eq_left (by omega)]
  · show (o.2.2.take n).length ≤ 6; rw [List.length_take]; omega
  · show M2.2.2 (k + 21) i = _
    rw [hq.2.2]; exact (h3 i hi).2
  · obtain ⟨t', u1, u2⟩ := h5 i hi
    refine ⟨t', (u1.fr hq.2 (by omega)).fr f (by omega), fun hl => ?_⟩
    have hl : i < (o.2.2.take n).length := hl
    rw [List.length_take] at hl
    show t' = (o.2.2.take n).getD i (s0 1)
    rw [gds_tk (by omega)]; exact u2 (by omega)
  · rw [f.1 _ (by omega), hq.2.1 _ (by omega)]
  · rw [f.1 _ (by omega), hq.2.1 _ (by omega)]
theorem r_undo (h0 : is10 g k) (h : RR M k o) : kX10_undo k g M (rq (A_undo o) k M) := by
  obtain ⟨a1, ⟨a2, a3, a4⟩, a5⟩ := h
  refine eX10_undo h0 ?_
  rw [a2, show (0 : Int32) = nI 0 from rfl, nI_eq (by omega) (by decide)]
  refine ⟨fun hl => ?_, fun hl => r_fail (o := o) h0 ⟨a1, ⟨a2, a3, a4⟩, a5⟩ gf_.rf 1 (by unfold A_undo; rw [if_pos hl]) (fun _ _ h => h)⟩
  obtain ⟨n, en⟩ : ∃ n, o.2.2.length = n + 1 := ⟨o.2.2.length - 1, by omega⟩
  have er : A_undo o = (0, nI n, (o.2.2.getD n (s0 1), o.2.1, o.2.2.take n)) := by unfold A_undo; rw [if_neg (by omega), en]; rfl
  rw [er, en, show nI (n + 1) - 1 = nI n from nI_pred n]
  have key : ∀ m i, i + m = 395 → ∀ M1, fr_ (k + 1) (k + 2) (mj_wI M k 3 (nI n)) M1 → (∀ a, a < i → M1.1 (k + 1) a = M.1 (k + 2) (395 * n + a)) → LX10_undo_25 k (nI i) g M1 (rq (0, nI n, (o.2.2.getD n (s0 1), o.2.1, o.2.2.take n)) k M) := by
    intro m
    have f0 : fr_ k (k + 1) M (mj_wI M k 3 (nI n)) := fr_.wI (by omega) (by omega)
    induction m with
    | zero =>
      intro i hi M1 hf hp
      have hi : i = 395 := by omega
      subst hi
      refine bX10_undo_25 h0 ⟨fun _ => ?_, fun hc => absurd (by decide) hc⟩
      have e3 : M1.1 k 3 = nI n := by rw [hf.1 k (by omega)]; exact wI_s
      rw [e3]
      refine r_tell (o := (o.2.2.getD n (s0 1), o.2.1, o.2.2.take n)) h0 ⟨ra_.c (a4 n (by omega)) (fun j hj => hp j hj), ⟨?_, ?_, fun i hi => ?_⟩, ?_, a5.2.1, fun i hi => ?_⟩ ((f0.wd (by omega) (by omega)).g.tr (hf.wd (by omega) (by omega)).g) _ rfl (fun _ _ h => h)
      · rw [e3]; show nI n = nI (o.2.2.take n).length; rw [List.length_take, Nat.min_eq_left (by omega)]
      · show (o.2.2.take n).length ≤ 6; rw [List.length_take]; omega
      · have hi : i < (o.2.2.take n).length := hi
        rw [List.length_take] at hi
        show ra_ _ ((o.2.2.take n).getD i (s0 1))
        rw [gds_tk (by omega), hf.1 (k + 2) (by omega), f0.1 (k + 2) (by omega)]
        exact a4 i (by omega)
      · rw [hf.1 k (by omega), wI_k (by omega)]; exact a5.1
      · rw [hf.1 (k + 4) (by omega), f0.1 (k + 4) (by omega)]; exact a5.2.2 i hi
    | succ m ih =>
      intro i hi M1 hf hp
      refine bX10_undo_25 h0 ⟨fun hc => ?_, fun _ => ?_⟩
      · rw [show (395 : Int32) = nI 395 from rfl, nI_leI (by decide) (by omega)] at hc; omega
      · have e3 : M1.1 k 3 = nI n := by rw [hf.1 k (by omega)]; exact wI_s
        rw [e3, i395, nI_1, nI_clamp (show 395 * n + i < 2 ^ 31 by omega), nI_clamp (show i < 2 ^ 31 by omega)]
        refine ⟨vp_in_nI (by omega) (by decide), vp_in_nI (by omega) (by decide), ih (i + 1) (by omega) _ (hf.tr (fr_.wI (by omega) (by omega))) (fun a ha => ?_)⟩
        by_cases e : a = i
        · subst e
          rw [wI_s, hf.1 (k + 2) (by omega), f0.1 (k + 2) (by omega)]
        · rw [wI_k (by omega)]; exact hp a (by omega)
  exact key 395 0 (by omega) _ fr_.rf (fun a ha => absurd ha (Nat.not_lt_zero a))
end ROB
