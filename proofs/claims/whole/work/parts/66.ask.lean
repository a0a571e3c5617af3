/-! QUESTIONS -/
def qA (i : Option Nat) (f : Nat → Int32) (o : ob) : res := match i with
  | none => (1, 0, o)
  | some j => (0, f j, o)
theorem qA_n {i : Option Nat} {f : Nat → Int32} {o : ob} (h : i = none) : qA i f o = (1, 0, o) := by rw [h]; rfl
theorem qA_s {i : Option Nat} {f : Nat → Int32} {o : ob} {j : Nat} (h : i = some j) : qA i f o = (0, f j, o) := by rw [h]; rfl
theorem s1 {j : Nat} : ¬ (if (some j).isSome = true then (1 : Int32) else 0) = 0 := by simp
section ASK
variable {g : mj_S} {M : mj_M} {k : Nat} {o : ob}
theorem S9 (h0 : is9s g k) : is6 g (k + 1) := h0.1.2.1.2
theorem T9 (h0 : is9s g k) : is7 g (k + 88) := h0.1.2.2.2.2.2.2.2.2
theorem X9t (h0 : is9s g k) : is8 g (k + 82) := h0.1.2.2.2.2.1.2
theorem CR.w {M' : mj_M} {lo hi : Nat} (h : CR M k o) (hf : fr_ lo hi M M') (hk : k + 84 ≤ lo ∧ hi ≤ k + 98) : CR M' k o := by
  obtain ⟨h1, ⟨t, h2⟩, h3⟩ := h
  exact CR.kf (o := o) ⟨h1, ⟨t, h2⟩, h3⟩ (hf.k (by omega)) (h1.fr hf (by omega)) ⟨t, h2.fr hf (by omega)⟩
theorem cq_w {r : res} {M' : mj_M} {v : Int32} {lo hi : Nat} (h : CR M k o) (hf : fr_ lo hi M M') (hk : k + 84 ≤ lo ∧ hi ≤ k + 98) (e : r = (0, v, o)) : cq r k M v M' := by subst e; exact ⟨rfl, rfl, h.w hf hk, (hf.wd (by omega) (by omega)).g⟩
theorem cx_w1 {r : res} {M' : mj_M} {v : Int32} {lo hi : Nat} {X1 X2 : String} (h : CR M k o) (hf : fr_ lo hi M M') (hk : k + 84 ≤ lo ∧ hi ≤ k + 98) (e : r = (1, v, o)) : cx r k M X1 X2 X1 M' := by subst e; exact ⟨Or.inl ⟨rfl, rfl⟩, h.w hf hk, (hf.wd (by omega) (by omega)).g⟩
/-! original, clause, status, value, occurrences, total -/
def A_original (o : ob) (x : Int32) (p : Bool) : res := qA (ix (sO o.1).length x) (fun j => vs ((sO o.1).getD j 0) p) o
theorem c_original (h0 : is9s g k) (h : CR M k o) (x : Int32) (p : Bool) : kX9_original k x (if p then 1 else 0) g M (cq (A_original o x p) k M) (cx (A_original o x p) k M mj_IO mj_IO) := by
  have hL := h.1.2.2.2.2.1
  have hlt := hL.lt
  refine eX9_original h0.1 ?_
  rcases ix_cs (n := (sO o.1).length) (by omega) x with ⟨e, hx⟩ | ⟨j, hj, rfl, e⟩
  · refine ⟨fun _ => cx_1 h (qA_n e), fun h1 => ⟨_, c_size (S9 h0).2.2.1.2 hL, fun v M1 hq => ?_⟩⟩
    obtain ⟨rfl, rfl⟩ := hq
    exact ⟨fun h2 => absurd h2 (ix_neg hx h1), fun _ => cx_1 h (qA_n e)⟩
  · refine ⟨fun h1 => absurd h1 (nI_pos (by omega)), fun _ => ⟨_, c_size (S9 h0).2.2.1.2 hL, fun v M1 hq => ?_⟩⟩
    obtain ⟨rfl, rfl⟩ := hq
    refine ⟨fun _ => ⟨_, c_at (S9 h0).2.2.1.2 hL (i := j) (by omega), fun v M2 hq => ?_⟩, fun h1 => absurd (nI_lt hj (by omega)) h1⟩
    obtain ⟨rfl, rfl⟩ := hq
    refine ⟨_, c_half _ p, fun v M3 hq => ?_⟩
    obtain ⟨rfl, rfl⟩ := hq
    exact cq_o h (qA_s e)
theorem r_original (h0 : is10 g k) (h : RR M k o) (x : Int32) (p : Bool) : kX10_original k x (if p then 1 else 0) g M (rq (A_original o x p) k M) := by
  have h32 := h.1.o32
  refine eX10_original h0 ?_
  rw [h.1.o]
  refine ⟨_, r_ix (by omega) x, fun v1 M1 hq => ?_⟩
  obtain ⟨rfl, rfl⟩ := hq
  rcases ix_cs (n := (sO o.1).length) (by omega) x with ⟨e, hx⟩ | ⟨j, hj, rfl, e⟩
  · rw [e]; exact ⟨fun _ => r_fail (r := A_original o x p) h0 h gf_.rf 1 (qA_n e) (fun _ _ h => h), fun hc => absurd rfl hc⟩
  · rw [e, i33, nI_clamp (show 33 + j < 2 ^ 31 by omega), h.1.2.2.2.2.2.2.2.1 j hj]
    refine ⟨fun hc => absurd hc s1, fun _ => ⟨vp_in_nI (by omega) (by decide), _, r_variablesOf _ p, fun v3 M3 hq => ?_⟩⟩
    obtain ⟨rfl, rfl⟩ := hq
    exact r_tell (r := A_original o (nI j) p) h0 h gf_.rf _ (qA_s e) (fun _ _ h => h)
def A_clause (o : ob) (x : Int32) (p : Bool) : res := qA (ix (sL o.1).length x) (fun j => vs ((sL o.1).getD j 0) p) o
theorem c_clause (h0 : is9s g k) (h : CR M k o) (x : Int32) (p : Bool) : kX9_clause k x (if p then 1 else 0) g M (cq (A_clause o x p) k M) (cx (A_clause o x p) k M mj_IO mj_IO) := by
  refine eX9_clause h0.1 ⟨_, _, c_reqClause h0 h x, fun X M' hq => ?_, fun M1 hq => ?_⟩
  · obtain ⟨rfl, rfl, e⟩ := hq; exact cx_1 h (qA_n e)
  · obtain ⟨rfl, j, hj, rfl, e⟩ := hq
    have hlt := h.1.2.2.2.1.lt
    refine ⟨_, c_at (S9 h0).2.1.2 h.1.2.2.2.1 (i := j) (by omega), fun v M2 hq => ?_⟩
    obtain ⟨rfl, rfl⟩ := hq
    refine ⟨_, c_half _ p, fun v M3 hq => ?_⟩
    obtain ⟨rfl, rfl⟩ := hq
    exact cq_o h (qA_s e)
theorem r_clause (h0 : is10 g k) (h : RR M k o) (x : Int32) (p : Bool) : kX10_clause k x (if p then 1 else 0) g M (rq (A_clause o x p) k M) := by
  have h48 := h.1.n48
  refine eX10_clause h0 ⟨_, r_isClause h0 h x, fun v1 M1 hq => ?_⟩
  obtain ⟨rfl, rfl⟩ := hq
  rcases ix_cs (n := (sL o.1).length) (by omega) x with ⟨e, hx⟩ | ⟨j, hj, rfl, e⟩
  · rw [e]; exact ⟨fun _ => r_fail (r := A_clause o x p) h0 h gf_.rf 1 (qA_n e) (fun _ _ h => h), fun hc => absurd rfl hc⟩
  · rw [e]
    refine ⟨fun hc => absurd hc s1, fun _ => ⟨_, r_clauseAt h0 h.1 hj, fun v3 M3 hq => ?_⟩⟩
    obtain ⟨rfl, rfl⟩ := hq
    refine ⟨_, r_variablesOf _ p, fun v3 M3 hq => ?_⟩
    obtain ⟨rfl, rfl⟩ := hq
    exact r_tell (r := A_clause o (nI j) p) h0 h gf_.rf _ (qA_s e) (fun _ _ h => h)
def A_status (o : ob) (x : Int32) : res := qA (ix (sV o.1) x) (sS o.1) o
theorem c_status (h0 : is9s g k) (h : CR M k o) (x : Int32) : kX9_status k x g M (cq (A_status o x) k M) (cx (A_status o x) k M mj_IO mj_IO) := by
  refine eX9_status h0.1 ⟨_, _, c_reqVariable h0 h x, fun X M' hq => ?_, fun M1 hq => ?_⟩
  · obtain ⟨rfl, rfl, e⟩ := hq; exact cx_1 h (qA_n e)
  · obtain ⟨rfl, j, hj, rfl, e⟩ := hq
    have hV : sV o.1 ≤ 10 := h.1.2.2.2.2.2.2.2.2.2.2
    refine ⟨_, c_statusOf (S9 h0) h.1 (by omega), fun v M2 hq => ?_⟩
    obtain ⟨rfl, rfl⟩ := hq
    exact cq_o h (qA_s e)
theorem r_status (h0 : is10 g k) (h : RR M k o) (x : Int32) : kX10_status k x g M (rq (A_status o x) k M) := by
  have hV := h.1.V10
  refine eX10_status h0 ⟨_, r_isVariable h0 h x, fun v1 M1 hq => ?_⟩
  obtain ⟨rfl, rfl⟩ := hq
  rcases ix_cs (n := sV o.1) (by omega) x with ⟨e, hx⟩ | ⟨j, hj, rfl, e⟩
  · rw [e]; exact ⟨fun _ => r_fail (r := A_status o x) h0 h gf_.rf 1 (qA_n e) (fun _ _ h => h), fun hc => absurd rfl hc⟩
  · rw [e, i12, nI_clamp (show 12 + j < 2 ^ 31 by omega), h.1.2.2.2.1 j (by omega)]
    exact ⟨fun hc => absurd hc s1, fun _ => ⟨vp_in_nI (by omega) (by decide), r_tell (r := A_status o (nI j)) h0 h gf_.rf _ (qA_s e) (fun _ _ h => h)⟩⟩
def A_value (o : ob) (x : Int32) : res := qA (ix (sV o.1) x) (sK o.1) o
theorem c_value (h0 : is9s g k) (h : CR M k o) (x : Int32) : kX9_value k x g M (cq (A_value o x) k M) (cx (A_value o x) k M mj_IO mj_IO) := by
  refine eX9_value h0.1 ⟨_, _, c_reqVariable h0 h x, fun X M' hq => ?_, fun M1 hq => ?_⟩
  · obtain ⟨rfl, rfl, e⟩ := hq; exact cx_1 h (qA_n e)
  · obtain ⟨rfl, j, hj, rfl, e⟩ := hq
    have hV : sV o.1 ≤ 10 := h.1.2.2.2.2.2.2.2.2.2.2
    refine ⟨_, c_knownOf (S9 h0) h.1 (by omega), fun v M2 hq => ?_⟩
    obtain ⟨rfl, rfl⟩ := hq
    exact cq_o h (qA_s e)
theorem r_value (h0 : is10 g k) (h : RR M k o) (x : Int32) : kX10_value k x g M (rq (A_value o x) k M) := by
  have hV := h.1.V10
  refine eX10_value h0 ⟨_, r_isVariable h0 h x, fun v1 M1 hq => ?_⟩
  obtain ⟨rfl, rfl⟩ := hq
  rcases ix_cs (n := sV o.1) (by omega) x with ⟨e, hx⟩ | ⟨j, hj, rfl, e⟩
  · rw [e]; exact ⟨fun _ => r_fail (r := A_value o x) h0 h gf_.rf 1 (qA_n e) (fun _ _ h => h), fun hc => absurd rfl hc⟩
  · rw [e, i22, nI_clamp (show 22 + j < 2 ^ 31 by omega), h.1.2.2.2.2.1 j (by omega)]
    exact ⟨fun hc => absurd hc s1, fun _ => ⟨vp_in_nI (by omega) (by decide), r_tell (r := A_value o (nI j)) h0 h gf_.rf _ (qA_s e) (fun _ _ h => h)⟩⟩
def A_occurrences (o : ob) (x : Int32) : res := qA (ix (2 * sV o.1) x) (fun j => nI ((sL o.1).countP (fun c => bt c j))) o
theorem c_occurrences (h0 : is9s g k) (h : CR M k o) (x : Int32) : kX9_occurrences k x g M (cq (A_occurrences o x) k M) (cx (A_occurrences o x) k M mj_IO mj_IO) := by
  refine eX9_occurrences h0.1 ⟨_, _, c_reqLiteral h0 h x, fun X M' hq => ?_, fun M1 hq => ?_⟩
  · obtain ⟨rfl, rfl, e⟩ := hq; exact cx_1 h (qA_n e)
  · obtain ⟨rfl, j, hj, rfl, e⟩ := hq
    have hV : sV o.1 ≤ 10 := h.1.2.2.2.2.2.2.2.2.2.2
    refine ⟨_, c_countContaining (S9 h0).2.1.2 h.1.2.2.2.1 (show j < 32 by omega), fun v M2 hq => ?_⟩
    obtain ⟨rfl, rfl⟩ := hq
    exact cq_o h (qA_s e)
theorem r_occurrences (h0 : is10 g k) (h : RR M k o) (x : Int32) : kX10_occurrences k x g M (rq (A_occurrences o x) k M) := by
  have hV := h.1.V10
  refine eX10_occurrences h0 ⟨_, r_isLiteral h0 h x, fun v1 M1 hq => ?_⟩
  obtain ⟨rfl, rfl⟩ := hq
  rcases ix_cs (n := 2 * sV o.1) (by omega) x with ⟨e, hx⟩ | ⟨j, hj, rfl, e⟩
  · rw [e]; exact ⟨fun _ => r_fail (r := A_occurrences o x) h0 h gf_.rf 1 (qA_n e) (fun _ _ h => h), fun hc => absurd rfl hc⟩
  · rw [e]
    refine ⟨fun hc => absurd hc s1, fun _ => ⟨_, r_countOf h0 h.1 (show j < 32 by omega), fun v M2 hq => ?_⟩⟩
    obtain ⟨rfl, rfl⟩ := hq
    exact r_tell (r := A_occurrences o (nI j)) h0 h gf_.rf _ (qA_s e) (fun _ _ h => h)
def A_total (o : ob) (x : Int32) : res := qA (ix 10 x) (sT o.1) o
theorem c_total (h0 : is9s g k) (h : CR M k o) (x : Int32) : kX9_total k x g M (cq (A_total o x) k M) (cx (A_total o x) k M mj_IA mj_IA) := by
  refine eX9_total h0.1 ⟨_, _, c_reqTechnique h0 x, fun X M' hq => ?_, fun M1 hq => ?_⟩
  · obtain ⟨rfl, rfl, e⟩ := hq; exact cx_1 h (qA_n e)
  · obtain ⟨rfl, j, hj, rfl, e⟩ := hq
    refine ⟨_, c_totalOf (S9 h0) h.1 hj, fun v M2 hq => ?_⟩
    obtain ⟨rfl, rfl⟩ := hq
    exact cq_o h (qA_s e)
theorem r_total (h0 : is10 g k) (h : RR M k o) (x : Int32) : kX10_total k x g M (rq (A_total o x) k M) := by
  refine eX10_total h0 ⟨_, r_isTechnique x, fun v1 M1 hq => ?_⟩
  obtain ⟨rfl, rfl⟩ := hq
  rcases ix_cs (n := 10) (by omega) x with ⟨e, hx⟩ | ⟨j, hj, rfl, e⟩
  · rw [e]; exact ⟨fun _ => r_fail (r := A_total o x) h0 h gf_.rf 1 (qA_n e) (fun _ _ h => h), fun hc => absurd rfl hc⟩
  · rw [e, i2, nI_clamp (show 2 + j < 2 ^ 31 by omega), h.1.2.2.1 j hj]
    exact ⟨fun hc => absurd hc s1, fun _ => ⟨vp_in_nI (by omega) (by decide), r_tell (r := A_total o (nI j)) h0 h gf_.rf _ (qA_s e) (fun _ _ h => h)⟩⟩
/-! blockingLiteral, coverPairs, extension, vivified -/
def A_blocking (o : ob) (x : Int32) : res := qA (ix (sL o.1).length x) (fun j => oN (blK (sL o.1) j)) o
theorem c_blockingLiteral (h0 : is9s g k) (h : CR M k o) (hI : Inv o.1) (x : Int32) : kX9_blockingLiteral k x g M (cq (A_blocking o x) k M) (cx (A_blocking o x) k M mj_IO mj_IO) := by
  refine eX9_blockingLiteral h0.1 ⟨_, _, c_reqClause h0 h x, fun X M' hq => ?_, fun M1 hq => ?_⟩
  · obtain ⟨rfl, rfl, e⟩ := hq; exact cx_1 h (qA_n e)
  · obtain ⟨rfl, j, hj, rfl, e⟩ := hq
    refine ⟨_, c_lowestBlocking (S9 h0).2.1.2 h.1.2.2.2.1 hI.nice hj, fun v M2 hq => ?_⟩
    obtain ⟨rfl, rfl⟩ := hq
    exact cq_o h (qA_s e)
theorem r_blockingLiteral (h0 : is10 g k) (h : RR M k o) (x : Int32) : kX10_blockingLiteral k x g M (rq (A_blocking o x) k M) := by
  have h48 := h.1.n48
  refine eX10_blockingLiteral h0 ⟨_, r_isClause h0 h x, fun v1 M1 hq => ?_⟩
  obtain ⟨rfl, rfl⟩ := hq
  rcases ix_cs (n := (sL o.1).length) (by omega) x with ⟨e, hx⟩ | ⟨j, hj, rfl, e⟩
  · rw [e]; exact ⟨fun _ => r_fail (r := A_blocking o x) h0 h gf_.rf 1 (qA_n e) (fun _ _ h => h), fun hc => absurd rfl hc⟩
  · rw [e]
    refine ⟨fun hc => absurd hc s1, fun _ => ⟨_, r_blocking h0 h.1 hj, fun v3 M3 hq => ?_⟩⟩
    obtain ⟨rfl, rfl⟩ := hq
    exact r_tell (r := A_blocking o (nI j)) h0 h gf_.rf _ (qA_s e) (fun _ _ h => h)
def A_coverPairs (o : ob) (x : Int32) : res := qA (ix (sL o.1).length x) (fun j => if (exr (sL o.1) j).2.2 then nI (exr (sL o.1) j).2.1.length else -1) o
theorem c_coverPairs (h0 : is9s g k) (h : CR M k o) (hI : Inv o.1) (x : Int32) : kX9_coverPairs k x g M (cq (A_coverPairs o x) k M) (cx (A_coverPairs o x) k M mj_IO mj_IO) := by
  refine eX9_coverPairs h0.1 ⟨_, _, c_reqClause h0 h x, fun X M' hq => ?_, fun M1 hq => ?_⟩
  · obtain ⟨rfl, rfl, e⟩ := hq; exact cx_1 h (qA_n e)
  · obtain ⟨rfl, j, hj, rfl, e⟩ := hq
    have h3 : is3 g (k + 88 + 4) := (T9 h0).2.2.1.2
    refine ⟨_, c_extend h3 (S9 h0).2.1.2 h.1.2.2.2.1 hI.nice (by omega) hj, fun M2 hq => ?_⟩
    obtain ⟨q1, q2, q3, q4⟩ := hq
    rw [q3]
    refine ⟨fun hc => cq_w h q4 (by omega) ((qA_s e).trans ?_), fun hc => ⟨_, c_size h3.2.1.2 q2.1, fun v3 M3 hq => ?_⟩⟩
    · rw [(if01 _).1.mp hc]; rfl
    · obtain ⟨rfl, rfl⟩ := hq
      refine cq_w h q4 (by omega) ((qA_s e).trans ?_)
      rw [(if01 _).2.mp hc, List.length_map]; rfl
theorem r_coverPairs (h0 : is10 g k) (h : RR M k o) (hI : Inv o.1) (x : Int32) : kX10_coverPairs k x g M (rq (A_coverPairs o x) k M) := by
  have h48 := h.1.n48
  refine eX10_coverPairs h0 ⟨_, r_isClause h0 h x, fun v1 M1 hq => ?_⟩
  obtain ⟨rfl, rfl⟩ := hq
  rcases ix_cs (n := (sL o.1).length) (by omega) x with ⟨e, hx⟩ | ⟨j, hj, rfl, e⟩
  · rw [e]; exact ⟨fun _ => r_fail (r := A_coverPairs o x) h0 h gf_.rf 1 (qA_n e) (fun _ _ h => h), fun hc => absurd rfl hc⟩
  · rw [e]
    refine ⟨fun hc => absurd hc s1, fun _ => ⟨_, r_isCovered h0 h.1 hI.nice hj, fun v3 M3 hq => ?_⟩⟩
    obtain ⟨rfl, q2, q3, q4, q5⟩ := hq
    have h3 : RR M3 k o := h.rf q5 q4
    rw [q3.1]
    refine ⟨fun hc => r_tell (r := A_coverPairs o (nI j)) h0 h3 q5.g _ ((qA_s e).trans ?_) (fun _ _ h => h), fun hc => r_tell (r := A_coverPairs o (nI j)) h0 h3 q5.g _ ((qA_s e).trans ?_) (fun _ _ h => h)⟩
    · rw [(if01 _).1.mp hc]; rfl
    · rw [(if01 _).2.mp hc]; rfl
def A_extension (o : ob) (x : Int32) (p : Bool) : res := qA (ix (sL o.1).length x) (fun j => vs (exr (sL o.1) j).1 p) o
theorem c_extension (h0 : is9s g k) (h : CR M k o) (hI : Inv o.1) (x : Int32) (p : Bool) : kX9_extension k x (if p then 1 else 0) g M (cq (A_extension o x p) k M) (cx (A_extension o x p) k M mj_IO mj_IO) := by
  refine eX9_extension h0.1 ⟨_, _, c_reqClause h0 h x, fun X M' hq => ?_, fun M1 hq => ?_⟩
  · obtain ⟨rfl, rfl, e⟩ := hq; exact cx_1 h (qA_n e)
  · obtain ⟨rfl, j, hj, rfl, e⟩ := hq
    have h3 : is3 g (k + 88 + 4) := (T9 h0).2.2.1.2
    refine ⟨_, c_extend h3 (S9 h0).2.1.2 h.1.2.2.2.1 hI.nice (by omega) hj, fun M2 hq => ?_⟩
    obtain ⟨q1, q2, q3, q4⟩ := hq
    rw [q1]
    refine ⟨_, c_half _ p, fun v3 M3 hq => ?_⟩
    obtain ⟨rfl, rfl⟩ := hq
    exact cq_w h q4 (by omega) (qA_s e)
theorem r_extension (h0 : is10 g k) (h : RR M k o) (hI : Inv o.1) (x : Int32) (p : Bool) : kX10_extension k x (if p then 1 else 0) g M (rq (A_extension o x p) k M) := by
  have h48 := h.1.n48
  refine eX10_extension h0 ⟨_, r_isClause h0 h x, fun v1 M1 hq => ?_⟩
  obtain ⟨rfl, rfl⟩ := hq
  rcases ix_cs (n := (sL o.1).length) (by omega) x with ⟨e, hx⟩ | ⟨j, hj, rfl, e⟩
  · rw [e]; exact ⟨fun hc => absurd rfl hc, fun _ => r_fail (r := A_extension o x p) h0 h gf_.rf 1 (qA_n e) (fun _ _ h => h)⟩
  · rw [e]
    refine ⟨fun _ => ⟨_, r_isCovered h0 h.1 hI.nice hj, fun v3 M3 hq => ?_⟩, fun hc => absurd hc s1⟩
    obtain ⟨rfl, q2, q3, q4, q5⟩ := hq
    have h3 : RR M3 k o := h.rf q5 q4
    rw [q2]
    refine ⟨_, r_variablesOf _ p, fun v4 M4 hq => ?_⟩
    obtain ⟨rfl, rfl⟩ := hq
    exact r_tell (r := A_extension o (nI j) p) h0 h3 q5.g _ (qA_s e) (fun _ _ h => h)
def A_vivified (o : ob) (x : Int32) (p : Bool) : res := qA (ix (sL o.1).length x) (fun j => vs ((vv (sL o.1) j).getD 0) p) o
theorem vs_0 (p : Bool) : vs 0 p = 0 := by
  refine b_ext (fun i hi => ?_)
  unfold vs
  rw [bm_bt _ hi, b_0, b_0, Bool.and_false]
theorem c_vivified (h0 : is9s g k) (h : CR M k o) (hI : Inv o.1) (x : Int32) (p : Bool) : kX9_vivified k x (if p then 1 else 0) g M (cq (A_vivified o x p) k M) (cx (A_vivified o x p) k M mj_IO mj_IO) := by
  refine eX9_vivified h0.1 ⟨_, _, c_reqClause h0 h x, fun X M' hq => ?_, fun M1 hq => ?_⟩
  · obtain ⟨rfl, rfl, e⟩ := hq; exact cx_1 h (qA_n e)
  · obtain ⟨rfl, j, hj, rfl, e⟩ := hq
    refine ⟨_, c_vivify (S9 h0).2.1.2 h.1.2.2.2.1 hI.nice hj, fun v M2 hq => ?_⟩
    obtain ⟨rfl, rfl⟩ := hq
    rw [oI_m1 (fun y hy => vv_20 hI.nice hy)]
    cases ev : vv (sL o.1) j with
    | none =>
      refine ⟨fun hc => absurd rfl hc, fun _ => cq_o h ((qA_s e).trans ?_)⟩
      rw [ev]; show (0, vs 0 p, o) = _; rw [vs_0]
    | some y =>
      refine ⟨fun _ => ⟨_, c_half _ p, fun v M3 hq => ?_⟩, fun hc => by cases hc⟩
      obtain ⟨rfl, rfl⟩ := hq
      exact cq_o h ((qA_s e).trans (by rw [ev]; rfl))
theorem r_vivified (h0 : is10 g k) (h : RR M k o) (hI : Inv o.1) (x : Int32) (p : Bool) : kX10_vivified k x (if p then 1 else 0) g M (rq (A_vivified o x p) k M) := by
  have h48 := h.1.n48
  refine eX10_vivified h0 ⟨_, r_isClause h0 h x, fun v1 M1 hq => ?_⟩
  obtain ⟨rfl, rfl⟩ := hq
  rcases ix_cs (n := (sL o.1).length) (by omega) x with ⟨e, hx⟩ | ⟨j, hj, rfl, e⟩
  · rw [e]; exact ⟨fun _ => r_fail (r := A_vivified o x p) h0 h gf_.rf 1 (qA_n e) (fun _ _ h => h), fun hc => absurd rfl hc⟩
  · rw [e]
    refine ⟨fun hc => absurd hc s1, fun _ => ⟨_, r_vivid h0 h.1 hI.nice hj, fun v3 M3 hq => ?_⟩⟩
    obtain ⟨rfl, q2, q3, q4⟩ := hq
    have h3 : RR M3 k o := h.rf q4 q3
    refine ⟨_, r_variablesOf _ p, fun v4 M4 hq => ?_⟩
    obtain ⟨rfl, rfl⟩ := hq
    exact r_tell (r := A_vivified o (nI j) p) h0 h3 q4.g _ (qA_s e) (fun _ _ h => h)
end ASK
