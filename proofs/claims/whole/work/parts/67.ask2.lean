/-! QUESTIONS, second half -/
theorem b01 (b : Bool) : (if b then (1 : Int32) else 0) = 0 ∨ (if b then (1 : Int32) else 0) = 1 := by cases b <;> decide
section AS2
variable {g : mj_S} {M : mj_M} {k : Nat} {o : ob}
def A_implied (o : ob) (x : Int32) : res := qA (ix (sL o.1).length x) (fun j => if (prop (sL o.1) (nI j) (ng ((sL o.1).getD j 0))).isNone then 1 else 0) o
theorem c_implied (h0 : is9s g k) (h : CR M k o) (hI : Inv o.1) (x : Int32) : kX9_implied k x g M (cq (A_implied o x) k M) (cx (A_implied o x) k M mj_IO mj_IO) := by
  refine eX9_implied h0.1 ⟨_, _, c_reqClause h0 h x, fun X M' hq => ?_, fun M1 hq => ?_⟩
  · obtain ⟨rfl, rfl, e⟩ := hq; exact cx_1 h (qA_n e)
  · obtain ⟨rfl, j, hj, rfl, e⟩ := hq
    have hlt := h.1.2.2.2.1.lt
    refine ⟨_, c_at (S9 h0).2.1.2 h.1.2.2.2.1 (i := j) (by omega), fun v M2 hq => ?_⟩
    obtain ⟨rfl, rfl⟩ := hq
    refine ⟨_, c_complements _, fun v M3 hq => ?_⟩
    obtain ⟨rfl, rfl⟩ := hq
    refine ⟨_, c_closure (S9 h0).2.1.2 h.1.2.2.2.1 _ _, fun v M4 hq => ?_⟩
    obtain ⟨rfl, rfl⟩ := hq
    rw [prop_m1 hI.nice (l20_ng _)]
    refine ⟨fun hc => cq_o h ((qA_s e).trans ?_), fun hc => cq_o h ((qA_s e).trans ?_)⟩
    · cases ep : prop (sL o.1) (nI j) (ng ((sL o.1).getD j 0)) with
      | none => exact absurd ep hc
      | some y => rfl
    · rw [hc]; rfl
theorem r_implied (h0 : is10 g k) (h : RR M k o) (hI : Inv o.1) (x : Int32) : kX10_implied k x g M (rq (A_implied o x) k M) := by
  have h48 := h.1.n48
  refine eX10_implied h0 ⟨_, r_isClause h0 h x, fun v1 M1 hq => ?_⟩
  obtain ⟨rfl, rfl⟩ := hq
  have g6 : ∀ c, gf_ k (k + 12) M1 (mj_wI M1 k 6 c) := fun c => (fr_.wI (lo := k) (hi := k + 12) (by omega) (by omega)).g
  rcases ix_cs (n := (sL o.1).length) (by omega) x with ⟨e, hx⟩ | ⟨j, hj, rfl, e⟩
  · rw [e]
    refine ⟨fun _ => ⟨fun _ => ?_, fun hc => absurd hc (by rw [wI_s]; decide)⟩, fun hc => absurd rfl hc⟩
    rw [show A_implied o x = (1, 0, o) from qA_n e]
    exact ⟨wI_s, fun _ => rfl, h.wf (by decide) (by decide) _, g6 1⟩
  · rw [e]
    refine ⟨fun hc => absurd hc s1, fun _ => ⟨fun hc => absurd wI_s hc, fun _ => ?_⟩⟩
    have h6 := h.wf (j := 6) (by decide) (by decide) 0
    refine ⟨_, r_clauseAt h0 h6.1 hj, fun v M2 hq => ?_⟩
    obtain ⟨e2, rfl⟩ := hq
    refine ⟨_, r_turned _, fun v M3 hq => ?_⟩
    obtain ⟨e3, rfl⟩ := hq
    rw [e3, e2]
    refine ⟨_, r_propagated h0 h6.1 hI.nice _ (l20_ng _), fun v M4 hq => ?_⟩
    obtain ⟨e4, rfl⟩ := hq
    rw [e4, prop_m1 hI.nice (l20_ng _), show A_implied o (nI j) = _ from qA_s e]
    refine ⟨fun hc => ⟨wI_s, fun _ => ?_, h6, g6 0⟩, fun hc => ⟨wI_s, fun _ => ?_, h6, g6 0⟩⟩
    · cases ep : prop (sL o.1) (nI j) (ng ((sL o.1).getD j 0)) with
      | none => exact absurd ep hc
      | some y => rfl
    · show (1 : Int32) = if (prop (sL o.1) (nI j) (ng ((sL o.1).getD j 0))).isNone then 1 else 0
      rw [hc]; rfl
/-- a question about an active variable -/
def qB (i : Option Nat) (a : Nat → Bool) (f : Nat → res) (o : ob) : res := match i with
  | none => (1, 0, o)
  | some j => if a j = true then f j else (2, 0, o)
theorem qB_n {i : Option Nat} {a : Nat → Bool} {f : Nat → res} {o : ob} (h : i = none) : qB i a f o = (1, 0, o) := by rw [h]; rfl
theorem qB_f {i : Option Nat} {a : Nat → Bool} {f : Nat → res} {o : ob} {j : Nat} (h : i = some j) (h2 : a j = false) : qB i a f o = (2, 0, o) := by rw [h]; exact if_neg (by rw [h2]; decide)
theorem qB_t {i : Option Nat} {a : Nat → Bool} {f : Nat → res} {o : ob} {j : Nat} (h : i = some j) (h2 : a j = true) : qB i a f o = f j := by rw [h]; exact if_pos h2
theorem c_reqActive (h0 : is9s g k) (h : CR M k o) {v : Nat} (hv : v < 10) : kX9_requireActive k (nI v) g M (fun M' => M' = M ∧ sS o.1 v = 0) (fun X M' => M' = M ∧ X = mj_IS ∧ ¬ sS o.1 v = 0) := by
  refine eX9_requireActive h0.1 ⟨_, c_isActive (S9 h0) h.1 hv, fun r M1 hq => ?_⟩
  obtain ⟨rfl, rfl⟩ := hq
  by_cases ha : sS o.1 v = 0
  · rw [if_pos ha]; exact ⟨fun _ => ⟨rfl, ha⟩, fun hc => absurd hc (by decide)⟩
  · rw [if_neg ha]; exact ⟨fun hc => absurd rfl hc, fun _ => ⟨rfl, rfl, ha⟩⟩
def A_propagate (o : ob) (x : Int32) : res := qB (ix (2 * sV o.1) x) (fun l => decide (sS o.1 (l / 2) = 0)) (fun l => (0, oI (prop (sL o.1) (-1) (bi l)), o)) o
theorem c_propagate (h0 : is9s g k) (h : CR M k o) (x : Int32) : kX9_propagate k x g M (cq (A_propagate o x) k M) (cx (A_propagate o x) k M mj_IO mj_IS) := by
  refine eX9_propagate h0.1 ⟨_, _, c_reqLiteral h0 h x, fun X M' hq => ?_, fun M1 hq => ?_⟩
  · obtain ⟨rfl, rfl, e⟩ := hq; exact cx_1 h (qB_n e)
  · obtain ⟨rfl, j, hj, rfl, e⟩ := hq
    have hV : sV o.1 ≤ 10 := h.1.2.2.2.2.2.2.2.2.2.2
    rw [shr1 j (by omega)]
    refine ⟨_, _, c_reqActive h0 h (show j / 2 < 10 by omega), fun X M' hq => ?_, fun M2 hq => ?_⟩
    · obtain ⟨rfl, rfl, ha⟩ := hq; exact cx_2 h (qB_f e (decide_eq_false ha))
    · obtain ⟨rfl, ha⟩ := hq
      refine ⟨_, c_closure (S9 h0).2.1.2 h.1.2.2.2.1 _ _, fun v M4 hq => ?_⟩
      obtain ⟨rfl, rfl⟩ := hq
      exact cq_o h (qB_t e (decide_eq_true ha))
theorem r_propagate (h0 : is10 g k) (h : RR M k o) (hI : Inv o.1) (x : Int32) : kX10_propagate k x g M (rq (A_propagate o x) k M) := by
  have hV := h.1.V10
  refine eX10_propagate h0 ⟨_, r_isLiteral h0 h x, fun v1 M1 hq => ?_⟩
  obtain ⟨rfl, rfl⟩ := hq
  rcases ix_cs (n := 2 * sV o.1) (by omega) x with ⟨e, hx⟩ | ⟨j, hj, rfl, e⟩
  · rw [e]; exact ⟨fun hc => absurd rfl hc, fun _ => r_fail (r := A_propagate o x) h0 h gf_.rf 1 (qB_n e) (fun _ _ h => h)⟩
  · rw [e, div2 j (by omega)]
    refine ⟨fun _ => ⟨_, r_isActive h0 h.1 (show j / 2 < 10 by omega), fun v M2 hq => ?_⟩, fun hc => absurd hc s1⟩
    obtain ⟨rfl, rfl⟩ := hq
    by_cases ha : sS o.1 (j / 2) = 0
    · rw [if_pos ha]
      refine ⟨fun _ => ⟨_, r_propagated h0 h.1 hI.nice _ (l20_bi (l := j) (by omega)), fun v M3 hq => ?_⟩, fun hc => absurd hc (by decide)⟩
      obtain ⟨rfl, rfl⟩ := hq
      exact r_tell (r := A_propagate o (nI j)) h0 h gf_.rf _ (qB_t e (decide_eq_true ha)) (fun _ _ h => h)
    · rw [if_neg ha]
      exact ⟨fun hc => absurd rfl hc, fun _ => r_fail (r := A_propagate o (nI j)) h0 h gf_.rf 2 (qB_f e (decide_eq_false ha)) (fun _ _ h => h)⟩
def A_reachable (o : ob) (x y : Int32) : res := match ix (2 * sV o.1) x with
  | none => (1, 0, o)
  | some a => qA (ix (2 * sV o.1) y) (fun b => if bt (rch (sL o.1) a) b then 1 else 0) o
theorem reach_n {x y : Int32} (h : ix (2 * sV o.1) x = none) : A_reachable o x y = (1, 0, o) := by unfold A_reachable; rw [h]
theorem reach_s {x y : Int32} {a : Nat} (h : ix (2 * sV o.1) x = some a) : A_reachable o x y = qA (ix (2 * sV o.1) y) (fun b => if bt (rch (sL o.1) a) b then 1 else 0) o := by unfold A_reachable; rw [h]
theorem c_reachable (h0 : is9s g k) (h : CR M k o) (hI : Inv o.1) (x y : Int32) : kX9_reachable k x y g M (cq (A_reachable o x y) k M) (cx (A_reachable o x y) k M mj_IO mj_IO) := by
  refine eX9_reachable h0.1 ⟨_, _, c_reqLiteral h0 h x, fun X M' hq => ?_, fun M1 hq => ?_⟩
  · obtain ⟨rfl, rfl, e⟩ := hq; exact cx_1 h (reach_n e)
  · obtain ⟨rfl, a, ha, rfl, e⟩ := hq
    have hV : sV o.1 ≤ 10 := h.1.2.2.2.2.2.2.2.2.2.2
    refine ⟨_, _, c_reqLiteral h0 h y, fun X M' hq => ?_, fun M2 hq => ?_⟩
    · obtain ⟨rfl, rfl, e2⟩ := hq; exact cx_1 h ((reach_s e).trans (qA_n e2))
    · obtain ⟨rfl, b, hb, rfl, e2⟩ := hq
      refine ⟨_, c_implFind (T9 h0).2.2.2.2 (S9 h0).2.1.2 h.1.2.2.2.1 hI.nice (by omega), fun M3 hq => ?_⟩
      refine ⟨_, c_leads (T9 h0).2.2.2.2 hq.1 (show a < 20 by omega) (show b < 32 by omega), fun v M4 hq2 => ⟨?_, ?_⟩⟩
      · rw [hq2.2]; exact b01 _
      · obtain ⟨rfl, rfl⟩ := hq2
        exact cq_w h hq.2 (by omega) ((reach_s e).trans (qA_s e2))
theorem r_reachable (h0 : is10 g k) (h : RR M k o) (hI : Inv o.1) (x y : Int32) : kX10_reachable k x y g M (rq (A_reachable o x y) k M) := by
  have hV := h.1.V10
  refine eX10_reachable h0 ⟨_, r_isLiteral h0 h x, fun v1 M1 hq => ?_⟩
  obtain ⟨rfl, rfl⟩ := hq
  have g6 : ∀ c, gf_ k (k + 12) M1 (mj_wI M1 k 6 c) := fun c => (fr_.wI (lo := k) (hi := k + 12) (by omega) (by omega)).g
  have no : A_reachable o x y = (1, 0, o) → rq (A_reachable o x y) k M1 0 (mj_wI M1 k 6 1) := fun e => by
    rw [e]; exact ⟨wI_s, fun _ => rfl, h.wf (by decide) (by decide) _, g6 1⟩
  have n1 : ¬ (mj_wI M1 k 6 1).1 k 6 = 0 := by rw [wI_s]; decide
  rcases ix_cs (n := 2 * sV o.1) (by omega) x with ⟨e, hx⟩ | ⟨a, ha, rfl, e⟩
  · rw [e]
    exact ⟨fun _ => ⟨fun _ => ⟨fun _ => no (reach_n e), fun hc => absurd hc n1⟩, fun hc => absurd hc n1⟩, fun hc => absurd rfl hc⟩
  · rw [e]
    refine ⟨fun hc => absurd hc s1, fun _ => ⟨_, r_isLiteral h0 h y, fun v M2 hq => ?_⟩⟩
    obtain ⟨rfl, rfl⟩ := hq
    rcases ix_cs (n := 2 * sV o.1) (by omega) y with ⟨e2, hy⟩ | ⟨b, hb, rfl, e2⟩
    · rw [e2]
      exact ⟨fun _ => ⟨fun _ => ⟨fun _ => no ((reach_s e).trans (qA_n e2)), fun hc => absurd hc n1⟩, fun hc => absurd hc n1⟩, fun hc => absurd rfl hc⟩
    · rw [e2]
      have h6 := h.wf (j := 6) (by decide) (by decide) 0
      refine ⟨fun hc => absurd hc s1, fun _ => ⟨fun hc => absurd wI_s hc, fun _ => ⟨_, r_reaches h0 h6.1 hI.nice, fun M3 hq => ?_⟩⟩⟩
      obtain ⟨q1, q2, q3, q4⟩ := hq
      have e6 : M3.1 k 6 = 0 := by rw [q4.1 k (by omega)]; exact wI_s
      have h3 : RR M3 k o := h6.rf (q4.r (by omega)) q1
      have gg : gf_ k (k + 12) M2 M3 := (g6 0).tr (q4.wd (by omega) (by omega)).g
      rw [nI_clamp (show a < 2 ^ 31 by omega), q2 a (by omega), (reach_s e).trans (qA_s e2)]
      refine ⟨fun hc => absurd e6 hc, fun _ => ⟨vp_in_nI (by omega) (by decide), _, r_has _ (show b < 32 by omega), fun v M4 hq => ?_⟩⟩
      obtain ⟨rfl, rfl⟩ := hq
      refine ⟨fun hc => ⟨e6, fun _ => ?_, h3, gg⟩, fun hc => ⟨e6, fun _ => ?_, h3, gg⟩⟩
      · exact hc.symm
      · show (1 : Int32) = if bt (rch (sL o.1) a) b then 1 else 0
        rw [(if01 _).2.mp hc]; rfl
def A_representative (o : ob) (x : Int32) : res := qA (ix (2 * sV o.1) x) (fun l => nI (nmL (sL o.1) l)) o
theorem c_representative (h0 : is9s g k) (h : CR M k o) (hI : Inv o.1) (x : Int32) : kX9_representative k x g M (cq (A_representative o x) k M) (cx (A_representative o x) k M mj_IO mj_IO) := by
  refine eX9_representative h0.1 ⟨_, _, c_reqLiteral h0 h x, fun X M' hq => ?_, fun M1 hq => ?_⟩
  · obtain ⟨rfl, rfl, e⟩ := hq; exact cx_1 h (qA_n e)
  · obtain ⟨rfl, a, ha, rfl, e⟩ := hq
    have hV : sV o.1 ≤ 10 := h.1.2.2.2.2.2.2.2.2.2.2
    refine ⟨_, c_implFind (T9 h0).2.2.2.2 (S9 h0).2.1.2 h.1.2.2.2.1 hI.nice (by omega), fun M3 hq => ⟨_, c_lowestEquivalent (T9 h0).2.2.2.2 hq.1 (show a < 20 by omega), fun v M4 hq2 => ?_⟩⟩
    obtain ⟨rfl, rfl⟩ := hq2
    exact cq_w h hq.2 (by omega) (qA_s e)
theorem r_representative (h0 : is10 g k) (h : RR M k o) (hI : Inv o.1) (x : Int32) : kX10_representative k x g M (rq (A_representative o x) k M) := by
  have hV := h.1.V10
  refine eX10_representative h0 ⟨_, r_isLiteral h0 h x, fun v1 M1 hq => ?_⟩
  obtain ⟨rfl, rfl⟩ := hq
  rcases ix_cs (n := 2 * sV o.1) (by omega) x with ⟨e, hx⟩ | ⟨j, hj, rfl, e⟩
  · rw [e]; exact ⟨fun hc => absurd rfl hc, fun _ => r_fail (r := A_representative o x) h0 h gf_.rf 1 (qA_n e) (fun _ _ h => h)⟩
  · rw [e]
    refine ⟨fun _ => ⟨_, r_reaches h0 h.1 hI.nice, fun M3 hq => ?_⟩, fun hc => absurd hc s1⟩
    obtain ⟨q1, q2, q3, q4⟩ := hq
    have h3 : RR M3 k o := h.rf (q4.r (by omega)) q1
    rw [nI_clamp (show j < 2 ^ 31 by omega), q3 j (by omega)]
    exact ⟨vp_in_nI (by omega) (by decide), r_tell (r := A_representative o (nI j)) h0 h3 (q4.wd (by omega) (by omega)).g _ (qA_s e) (fun _ _ h => h)⟩
def rowA (s : sg) (i w : Nat) : Int32 := if w = 2 then ((sR s).getD i (0, 0)).2 else vs ((sR s).getD i (0, 0)).1 (decide (w = 0))
def A_row (o : ob) (x y : Int32) : res := match ix (sR o.1).length x with
  | none => (1, 0, o)
  | some i => match ix 3 y with
    | none => (2, 0, o)
    | some w => (0, rowA o.1 i w, o)
theorem row_n {x y : Int32} (h : ix (sR o.1).length x = none) : A_row o x y = (1, 0, o) := by unfold A_row; rw [h]
theorem row_m {x y : Int32} {i : Nat} (h : ix (sR o.1).length x = some i) (h2 : ix 3 y = none) : A_row o x y = (2, 0, o) := by unfold A_row; simp only [h, h2]
theorem row_s {x y : Int32} {i w : Nat} (h : ix (sR o.1).length x = some i) (h2 : ix 3 y = some w) : A_row o x y = (0, rowA o.1 i w, o) := by unfold A_row; simp only [h, h2]
theorem le2 {x : Int32} : x ≤ 2 ↔ x < 3 := by
  rw [Int32.le_iff_toInt_le, Int32.lt_iff_toInt_lt, show (2 : Int32).toInt = 2 from rfl, show (3 : Int32).toInt = 3 from rfl]; omega
theorem c_row (h0 : is9s g k) (h : CR M k o) (x y : Int32) : kX9_row k x y g M (cq (A_row o x y) k M) (cx (A_row o x y) k M mj_IO mj_IA) := by
  have h140 := h.1.2.2.2.2.2.2.2.2.1
  refine eX9_row h0.1 ?_
  rw [h.1.2.2.1]
  rcases ix_cs (n := (sR o.1).length) (by omega) x with ⟨e, hx⟩ | ⟨i, hi, rfl, e⟩
  · exact ⟨fun _ => cx_1 h (row_n e), fun h1 => ⟨fun h2 => absurd h2 (ix_neg hx h1), fun _ => cx_1 h (row_n e)⟩⟩
  · refine ⟨fun h1 => absurd h1 (nI_pos (by omega)), fun _ => ⟨fun _ => ?_, fun h1 => absurd (nI_lt hi (by omega)) h1⟩⟩
    rw [le2]
    rcases ix_cs (n := 3) (by omega) y with ⟨e2, hy⟩ | ⟨w, hw, rfl, e2⟩
    · exact ⟨fun _ => cx_2 h (row_m e e2), fun h1 => ⟨fun h2 => absurd h2 (ix_neg hy h1), fun _ => cx_2 h (row_m e e2)⟩⟩
    · refine ⟨fun h1 => absurd h1 (nI_pos (by omega)), fun _ => ⟨fun _ => ⟨fun hne => ⟨_, c_setOfRow (S9 h0) h.1 hi, fun v1 M1 hq => ?_⟩, fun he => ⟨_, c_witnessOfRow (S9 h0) h.1 hi, fun v1 M1 hq => ?_⟩⟩, fun h1 => absurd (nI_lt hw (by decide)) h1⟩⟩
      · obtain ⟨rfl, rfl⟩ := hq
        have hw2 : w ≠ 2 := fun q => hne (by rw [q]; rfl)
        refine ⟨fun hz => ⟨_, c_half _ false, fun v2 M2 hq => ?_⟩, fun hz => ⟨_, c_half _ true, fun v2 M2 hq => ?_⟩⟩
        · obtain ⟨rfl, rfl⟩ := hq
          have hw0 : w ≠ 0 := fun q => hz (by rw [q]; rfl)
          exact cq_o h ((row_s e e2).trans (by unfold rowA; rw [if_neg hw2, decide_eq_false hw0]))
        · obtain ⟨rfl, rfl⟩ := hq
          have hw0 : w = 0 := (nI_eq (b := 0) (by omega) (by decide)).mp hz
          exact cq_o h ((row_s e e2).trans (by unfold rowA; rw [if_neg hw2, decide_eq_true hw0]))
      · obtain ⟨rfl, rfl⟩ := hq
        have hw2 : w = 2 := (nI_eq (b := 2) (by omega) (by decide)).mp he
        exact cq_o h ((row_s e e2).trans (by unfold rowA; rw [if_pos hw2]))
theorem r_rowOf (h0 : is10 g k) {s : sg} (h : rr_ M k s) {i w : Nat} (hi : i < (sR s).length) (hw : w < 3) : kX10_rowOf k (nI i) (nI w) g M (fun v M' => M' = M ∧ v = rowA s i w) := by
  have h140 := h.r140
  refine eX10_rowOf h0 ?_
  rw [two_nI, i115, nI_1, nI_clamp (show 115 + 2 * i < 2 ^ 31 by omega), nI_clamp (show 115 + 2 * i + 1 < 2 ^ 31 by omega), (h.2.2.2.2.2.2.2.2.2.2.2.2.2.1 i hi).1, (h.2.2.2.2.2.2.2.2.2.2.2.2.2.1 i hi).2]
  refine ⟨fun hne => ⟨vp_in_nI (by omega) (by decide), fun hz => ⟨_, r_variablesOf _ false, fun v2 M2 hq => ?_⟩, fun hz => ⟨_, r_variablesOf _ true, fun v2 M2 hq => ?_⟩⟩, fun he => ⟨vp_in_nI (by omega) (by decide), rfl, ?_⟩⟩
  · obtain ⟨rfl, rfl⟩ := hq
    have hw2 : w ≠ 2 := fun q => hne (by rw [q]; rfl)
    have hw0 : w ≠ 0 := fun q => hz (by rw [q]; rfl)
    exact ⟨rfl, by unfold rowA; rw [if_neg hw2, decide_eq_false hw0]⟩
  · obtain ⟨rfl, rfl⟩ := hq
    have hw2 : w ≠ 2 := fun q => hne (by rw [q]; rfl)
    have hw0 : w = 0 := (nI_eq (b := 0) (by omega) (by decide)).mp hz
    exact ⟨rfl, by unfold rowA; rw [if_neg hw2, decide_eq_true hw0]⟩
  · have hw2 : w = 2 := (nI_eq (b := 2) (by omega) (by decide)).mp he
    unfold rowA; rw [if_pos hw2]
theorem r_row (h0 : is10 g k) (h : RR M k o) (x y : Int32) : kX10_row k x y g M (rq (A_row o x y) k M) := by
  have h140 := h.1.r140
  refine eX10_row h0 ?_
  rw [h.1.r]
  refine ⟨_, r_ix (by omega) x, fun v1 M1 hq => ?_⟩
  obtain ⟨rfl, rfl⟩ := hq
  rcases ix_cs (n := (sR o.1).length) (by omega) x with ⟨e, hx⟩ | ⟨i, hi, rfl, e⟩
  · rw [e]; exact ⟨fun hc => absurd rfl hc, fun _ => r_fail (r := A_row o x y) h0 h gf_.rf 1 (row_n e) (fun _ _ h => h)⟩
  · rw [e]
    refine ⟨fun _ => ⟨_, r_ix (n := 3) (by decide) y, fun v1 M2 hq => ?_⟩, fun hc => absurd hc s1⟩
    obtain ⟨rfl, rfl⟩ := hq
    rcases ix_cs (n := 3) (by omega) y with ⟨e2, hy⟩ | ⟨w, hw, rfl, e2⟩
    · rw [e2]; exact ⟨fun _ => r_fail (r := A_row o (nI i) y) h0 h gf_.rf 2 (row_m e e2) (fun _ _ h => h), fun hc => absurd rfl hc⟩
    · rw [e2]
      refine ⟨fun hc => absurd hc s1, fun _ => ⟨_, r_rowOf h0 h.1 hi hw, fun v2 M3 hq => ?_⟩⟩
      obtain ⟨rfl, rfl⟩ := hq
      exact r_tell (r := A_row o (nI i) (nI w)) h0 h gf_.rf _ (row_s e e2) (fun _ _ h => h)
/-! resolvents -/
def A_resolventCount (o : ob) (x : Int32) : res := qB (ix (sV o.1) x) (fun v => decide (sS o.1 v = 0)) (fun v => (0, nI (rs (sL o.1) v).length, o)) o
theorem find576 {M' : mj_M} {kk : Nat} {X : List Int32} (h : ∃ F, cl_ M' kk 576 F ∧ ap 576 F X) : cl_ M' kk 576 X := by
  obtain ⟨F, h1, h2⟩ := h
  rw [← h2.eq h1.2.1]; exact h1
theorem c_resolventCount (h0 : is9s g k) (h : CR M k o) (hI : Inv o.1) (x : Int32) : kX9_resolventCount k x g M (cq (A_resolventCount o x) k M) (cx (A_resolventCount o x) k M mj_IO mj_IS) := by
  refine eX9_resolventCount h0.1 ⟨_, _, c_reqVariable h0 h x, fun X M' hq => ?_, fun M1 hq => ?_⟩
  · obtain ⟨rfl, rfl, e⟩ := hq; exact cx_1 h (qB_n e)
  · obtain ⟨rfl, j, hj, rfl, e⟩ := hq
    have hV : sV o.1 ≤ 10 := h.1.2.2.2.2.2.2.2.2.2.2
    refine ⟨_, _, c_reqActive h0 h (show j < 10 by omega), fun X M' hq => ?_, fun M2 hq => ?_⟩
    · obtain ⟨rfl, rfl, ha⟩ := hq; exact cx_2 h (qB_f e (decide_eq_false ha))
    · obtain ⟨rfl, ha⟩ := hq
      refine ⟨_, c_find (T9 h0).2.1.2 (S9 h0).2.1.2 h.1.2.2.2.1 (by omega) hI.nice hI.L48 (show j < 10 by omega) (lim := 576) (by decide), fun M3 hq => ?_⟩
      have hF := find576 hq.1
      refine ⟨_, c_size (T9 h0).2.1.2.2.2 hF, fun v M4 hq2 => ?_⟩
      obtain ⟨rfl, rfl⟩ := hq2
      exact cq_w h hq.2 (by omega) (qB_t e (decide_eq_true ha))
theorem r_resolventCount (h0 : is10 g k) (h : RR M k o) (hI : Inv o.1) (x : Int32) : kX10_resolventCount k x g M (rq (A_resolventCount o x) k M) := by
  have hV := h.1.V10
  refine eX10_resolventCount h0 ⟨_, r_isVariable h0 h x, fun v1 M1 hq => ?_⟩
  obtain ⟨rfl, rfl⟩ := hq
  rcases ix_cs (n := sV o.1) (by omega) x with ⟨e, hx⟩ | ⟨j, hj, rfl, e⟩
  · rw [e]; exact ⟨fun hc => absurd rfl hc, fun _ => r_fail (r := A_resolventCount o x) h0 h gf_.rf 1 (qB_n e) (fun _ _ h => h)⟩
  · rw [e]
    refine ⟨fun _ => ⟨_, r_isActive h0 h.1 (show j < 10 by omega), fun v M2 hq => ?_⟩, fun hc => absurd hc s1⟩
    obtain ⟨rfl, rfl⟩ := hq
    by_cases ha : sS o.1 j = 0
    · rw [if_pos ha]
      refine ⟨fun _ => ⟨_, r_resolves h0 h.1 hI.nice (show j < 10 by omega), fun M3 hq => ?_⟩, fun hc => absurd hc (by decide)⟩
      obtain ⟨q1, q2, q3⟩ := hq
      have h3 : RR M3 k o := h.rf q3 q1
      rw [q2.1]
      exact r_tell (r := A_resolventCount o (nI j)) h0 h3 q3.g _ (qB_t e (decide_eq_true ha)) (fun _ _ h => h)
    · rw [if_neg ha]
      exact ⟨fun hc => absurd rfl hc, fun _ => r_fail (r := A_resolventCount o (nI j)) h0 h gf_.rf 2 (qB_f e (decide_eq_false ha)) (fun _ _ h => h)⟩
def A_resolvent (o : ob) (x y : Int32) (p : Bool) : res := qB (ix (sV o.1) x) (fun v => decide (sS o.1 v = 0)) (fun v => qA (ix (rs (sL o.1) v).length y) (fun j => vs ((rs (sL o.1) v).getD j 0) p) o) o
theorem c_resolvent (h0 : is9s g k) (h : CR M k o) (hI : Inv o.1) (x y : Int32) (p : Bool) : kX9_resolvent k x y (if p then 1 else 0) g M (cq (A_resolvent o x y p) k M) (cx (A_resolvent o x y p) k M mj_IO mj_IS) := by
  refine eX9_resolvent h0.1 ⟨_, _, c_reqVariable h0 h x, fun X M' hq => ?_, fun M1 hq => ?_⟩
  · obtain ⟨rfl, rfl, e⟩ := hq; exact cx_1 h (qB_n e)
  · obtain ⟨rfl, j, hj, rfl, e⟩ := hq
    have hV : sV o.1 ≤ 10 := h.1.2.2.2.2.2.2.2.2.2.2
    refine ⟨_, _, c_reqActive h0 h (show j < 10 by omega), fun X M' hq => ?_, fun M2 hq => ?_⟩
    · obtain ⟨rfl, rfl, ha⟩ := hq; exact cx_2 h (qB_f e (decide_eq_false ha))
    · obtain ⟨rfl, ha⟩ := hq
      refine ⟨_, c_find (T9 h0).2.1.2 (S9 h0).2.1.2 h.1.2.2.2.1 (by omega) hI.nice hI.L48 (show j < 10 by omega) (lim := 576) (by decide), fun M3 hq => ?_⟩
      have hF := find576 hq.1
      have e1 := qB_t (a := fun v => decide (sS o.1 v = 0)) (f := fun v => qA (ix (rs (sL o.1) v).length y) (fun j => vs ((rs (sL o.1) v).getD j 0) p) o) (o := o) e (decide_eq_true ha)
      have hlt := hF.lt
      rcases ix_cs (n := (rs (sL o.1) j).length) (by omega) y with ⟨e2, hy⟩ | ⟨i, hi, rfl, e2⟩
      · refine ⟨fun _ => cx_w1 h hq.2 (by omega) (e1.trans (qA_n e2)), fun h1 => ⟨_, c_size (T9 h0).2.1.2.2.2 hF, fun v M4 hq2 => ?_⟩⟩
        obtain ⟨rfl, rfl⟩ := hq2
        exact ⟨fun h2 => absurd h2 (ix_neg hy h1), fun _ => cx_w1 h hq.2 (by omega) (e1.trans (qA_n e2))⟩
      · refine ⟨fun h1 => absurd h1 (nI_pos (by omega)), fun _ => ⟨_, c_size (T9 h0).2.1.2.2.2 hF, fun v M4 hq2 => ?_⟩⟩
        obtain ⟨rfl, rfl⟩ := hq2
        refine ⟨fun _ => ⟨_, c_at (T9 h0).2.1.2.2.2 hF (i := i) (by omega), fun v M5 hq2 => ?_⟩, fun h1 => absurd (nI_lt hi (by omega)) h1⟩
        obtain ⟨rfl, rfl⟩ := hq2
        refine ⟨_, c_half _ p, fun v M6 hq2 => ?_⟩
        obtain ⟨rfl, rfl⟩ := hq2
        exact cq_w h hq.2 (by omega) (e1.trans (qA_s e2))
theorem r_resolvent (h0 : is10 g k) (h : RR M k o) (hI : Inv o.1) (x y : Int32) (p : Bool) : kX10_resolvent k x y (if p then 1 else 0) g M (rq (A_resolvent o x y p) k M) := by
  have hV := h.1.V10
  refine eX10_resolvent h0 ⟨_, r_isVariable h0 h x, fun v1 M1 hq => ?_⟩
  obtain ⟨rfl, rfl⟩ := hq
  rcases ix_cs (n := sV o.1) (by omega) x with ⟨e, hx⟩ | ⟨j, hj, rfl, e⟩
  · rw [e]; exact ⟨fun hc => absurd rfl hc, fun _ => r_fail (r := A_resolvent o x y p) h0 h gf_.rf 1 (qB_n e) (fun _ _ h => h)⟩
  · rw [e]
    refine ⟨fun _ => ⟨_, r_isActive h0 h.1 (show j < 10 by omega), fun v M2 hq => ?_⟩, fun hc => absurd hc s1⟩
    obtain ⟨rfl, rfl⟩ := hq
    by_cases ha : sS o.1 j = 0
    · rw [if_pos ha]
      refine ⟨fun _ => ⟨_, r_resolves h0 h.1 hI.nice (show j < 10 by omega), fun M3 hq => ?_⟩, fun hc => absurd hc (by decide)⟩
      obtain ⟨q1, q2, q3⟩ := hq
      have h3 : RR M3 k o := h.rf q3 q1
      have h576 := q2.2.1
      have e1 : A_resolvent o (nI j) y p = qA (ix (rs (sL o.1) j).length y) (fun i => vs ((rs (sL o.1) j).getD i 0) p) o := qB_t e (decide_eq_true ha)
      rw [q2.1]
      refine ⟨_, r_ix (by omega) y, fun v M4 hq => ?_⟩
      obtain ⟨rfl, rfl⟩ := hq
      rcases ix_cs (n := (rs (sL o.1) j).length) (by omega) y with ⟨e2, hy⟩ | ⟨i, hi, rfl, e2⟩
      · rw [e2]; exact ⟨fun _ => r_fail (r := A_resolvent o (nI j) y p) h0 h3 q3.g 1 (e1.trans (qA_n e2)) (fun _ _ h => h), fun hc => absurd rfl hc⟩
      · rw [e2, nI_clamp (show i < 2 ^ 31 by omega), q2.2.2 i hi]
        refine ⟨fun hc => absurd hc s1, fun _ => ⟨vp_in_nI (by omega) (by decide), _, r_variablesOf _ p, fun v5 M5 hq => ?_⟩⟩
        obtain ⟨rfl, rfl⟩ := hq
        exact r_tell (r := A_resolvent o (nI j) (nI i) p) h0 h3 q3.g _ (e1.trans (qA_s e2)) (fun _ _ h => h)
    · rw [if_neg ha]
      exact ⟨fun hc => absurd rfl hc, fun _ => r_fail (r := A_resolvent o (nI j) y p) h0 h gf_.rf 2 (qB_f e (decide_eq_false ha)) (fun _ _ h => h)⟩
def A_canEliminate (o : ob) (x : Int32) : res := qA (ix (sV o.1) x) (fun v => if me o.1 v then 1 else 0) o
theorem c_canEliminate (h0 : is9s g k) (h : CR M k o) (hI : Inv o.1) (x : Int32) : kX9_canEliminate k x g M (cq (A_canEliminate o x) k M) (cx (A_canEliminate o x) k M mj_IO mj_IO) := by
  refine eX9_canEliminate h0.1 ⟨_, _, c_reqVariable h0 h x, fun X M' hq => ?_, fun M1 hq => ?_⟩
  · obtain ⟨rfl, rfl, e⟩ := hq; exact cx_1 h (qA_n e)
  · obtain ⟨rfl, j, hj, rfl, e⟩ := hq
    have hV : sV o.1 ≤ 10 := h.1.2.2.2.2.2.2.2.2.2.2
    refine ⟨_, c_findElimination (T9 h0) (S9 h0) h.1 hI (by omega) (show j < 10 by omega), fun v M2 hq => ⟨?_, ?_⟩⟩
    · rw [hq.1]; exact b01 _
    · rw [hq.1]; exact cq_w h hq.2.2 (by omega) (qA_s e)
theorem r_canEliminate (h0 : is10 g k) (h : RR M k o) (hI : Inv o.1) (x : Int32) : kX10_canEliminate k x g M (rq (A_canEliminate o x) k M) := by
  have hV := h.1.V10
  refine eX10_canEliminate h0 ⟨_, r_isVariable h0 h x, fun v1 M1 hq => ?_⟩
  obtain ⟨rfl, rfl⟩ := hq
  have g6 : ∀ c, gf_ k (k + 12) M1 (mj_wI M1 k 6 c) := fun c => (fr_.wI (lo := k) (hi := k + 12) (by omega) (by omega)).g
  rcases ix_cs (n := sV o.1) (by omega) x with ⟨e, hx⟩ | ⟨j, hj, rfl, e⟩
  · rw [e]
    refine ⟨fun _ => ⟨fun _ => ?_, fun hc => absurd hc (by rw [wI_s]; decide)⟩, fun hc => absurd rfl hc⟩
    rw [show A_canEliminate o x = (1, 0, o) from qA_n e]
    exact ⟨wI_s, fun _ => rfl, h.wf (by decide) (by decide) _, g6 1⟩
  · rw [e]
    have h6 := h.wf (j := 6) (by decide) (by decide) 0
    refine ⟨fun hc => absurd hc s1, fun _ => ⟨fun hc => absurd wI_s hc, fun _ => ⟨_, r_mayEliminate h0 h6.1 hI (show j < 10 by omega), fun v M2 hq => ?_⟩⟩⟩
    obtain ⟨rfl, q2, q3, q4⟩ := hq
    have e6 : M2.1 k 6 = 0 := by rw [q4.2.2 6 (by decide)]; exact wI_s
    have h3 : RR M2 k o := h6.rf q4 q2
    have gg : gf_ k (k + 12) M1 M2 := (g6 0).tr q4.g
    rw [show A_canEliminate o (nI j) = _ from qA_s e]
    refine ⟨fun hc => ⟨e6, fun _ => hc.symm, h3, gg⟩, fun hc => ⟨e6, fun _ => ?_, h3, gg⟩⟩
    show (1 : Int32) = if me o.1 j then 1 else 0
    rw [(if01 _).2.mp hc]; rfl
/-! counts -/
theorem c_originalCount (h0 : is9s g k) (h : CR M k o) : kX9_originalCount k g M (cq (0, nI (sO o.1).length, o) k M) := by
  refine eX9_originalCount h0.1 ⟨_, c_size (S9 h0).2.2.1.2 h.1.2.2.2.2.1, fun v M1 hq => ?_⟩
  obtain ⟨rfl, rfl⟩ := hq
  exact cq_o h rfl
theorem r_originalCount (h0 : is10 g k) (h : RR M k o) : kX10_originalCount k g M (rq (0, nI (sO o.1).length, o) k M) := by
  refine eX10_originalCount h0 ?_
  rw [h.1.o]
  exact r_tell (r := (0, nI (sO o.1).length, o)) h0 h gf_.rf _ rfl (fun _ _ h => h)
theorem c_clauseCount (h0 : is9s g k) (h : CR M k o) : kX9_clauseCount k g M (cq (0, nI (sL o.1).length, o) k M) := by
  refine eX9_clauseCount h0.1 ⟨_, c_size (S9 h0).2.1.2 h.1.2.2.2.1, fun v M1 hq => ?_⟩
  obtain ⟨rfl, rfl⟩ := hq
  exact cq_o h rfl
theorem r_clauseCount (h0 : is10 g k) (h : RR M k o) : kX10_clauseCount k g M (rq (0, nI (sL o.1).length, o) k M) := by
  refine eX10_clauseCount h0 ?_
  rw [h.1.n]
  exact r_tell (r := (0, nI (sL o.1).length, o)) h0 h gf_.rf _ rfl (fun _ _ h => h)
theorem c_literalCount (h0 : is9s g k) (h : CR M k o) : kX9_literalCount k g M (cq (0, nI (lits (sL o.1)), o) k M) := by
  refine eX9_literalCount h0.1 ⟨_, c_countLiterals (S9 h0).2.1.2 h.1.2.2.2.1, fun v M1 hq => ?_⟩
  obtain ⟨rfl, rfl⟩ := hq
  exact cq_o h rfl
theorem r_literalCount (h0 : is10 g k) (h : RR M k o) : kX10_literalCount k g M (rq (0, nI (lits (sL o.1)), o) k M) := by
  refine eX10_literalCount h0 ⟨_, r_lengths h0 h.1, fun v M1 hq => ?_⟩
  obtain ⟨rfl, rfl⟩ := hq
  exact r_tell (r := (0, nI (lits (sL o.1)), o)) h0 h gf_.rf _ rfl (fun _ _ h => h)
theorem p01 (p : Prop) [Decidable p] : (if p then (1 : Int32) else 0) = 0 ∨ (if p then (1 : Int32) else 0) = 1 := by split <;> decide
theorem c_contradictory (h0 : is9s g k) (h : CR M k o) : kX9_contradictory k g M (cq (0, if sL o.1 = [0] then 1 else 0, o) k M) := by
  refine eX9_contradictory h0.1 ⟨_, c_isContradictory (S9 h0).2.1.2 h.1.2.2.2.1, fun v M1 hq => ⟨?_, ?_⟩⟩
  · rw [hq.2]; exact p01 _
  · obtain ⟨rfl, rfl⟩ := hq
    exact cq_o h rfl
theorem r_contradictory (h0 : is10 g k) (h : RR M k o) : kX10_contradictory k g M (rq (0, if sL o.1 = [0] then 1 else 0, o) k M) := by
  have h6 := h.wf (j := 6) (by decide) (by decide) 0
  refine eX10_contradictory h0 ⟨_, r_isBroken h0 h6.1, fun v M1 hq => ⟨?_, ?_⟩⟩
  · rw [hq.2]; exact p01 _
  · obtain ⟨rfl, rfl⟩ := hq
    exact ⟨wI_s, fun _ => rfl, h6, (fr_.wI (lo := k) (hi := k + 12) (by omega) (by omega)).g⟩
theorem c_rowCount (h0 : is9s g k) (h : CR M k o) : kX9_rowCount k g M (cq (0, nI (sR o.1).length, o) k M) := by
  refine eX9_rowCount h0.1 ?_
  rw [h.1.2.2.1]
  exact cq_o h rfl
theorem r_rowCount (h0 : is10 g k) (h : RR M k o) : kX10_rowCount k g M (rq (0, nI (sR o.1).length, o) k M) := by
  refine eX10_rowCount h0 ?_
  rw [h.1.r]
  exact r_tell (r := (0, nI (sR o.1).length, o)) h0 h gf_.rf _ rfl (fun _ _ h => h)
end AS2
