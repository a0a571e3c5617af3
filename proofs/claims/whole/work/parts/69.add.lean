/-! ADDING A CLAUSE; ELIMINATING; THE TEXT'S BYTES -/
theorem mk_bt : ∀ V, V < 11 → ∀ i, i < 32 → bt (bi V - 1) i = decide (i < V) := by decide +kernel
theorem mk_nI : ∀ V, V < 11 → bi V - 1 = nI (2 ^ V - 1) := by decide +kernel
theorem act_all {s : sg} (hV : sV s ≤ 10) : act s = bi (sV s) - 1 ↔ ∀ v, v < sV s → sS s v = 0 := by
  have hb : ∀ i, i < 32 → bt (act s) i = (decide (i < sV s) && decide (sS s i = 0)) := fun i hi => by unfold act; rw [bm_bt _ hi]
  constructor
  · intro e v hv
    have h1 := hb v (by omega)
    rw [e, mk_bt _ (by omega) v (by omega), decide_eq_true hv, Bool.true_and] at h1
    exact of_decide_eq_true h1.symm
  · intro h
    refine b_ext (fun i hi => ?_)
    rw [hb i hi, mk_bt _ (by omega) i hi]
    by_cases q : i < sV s
    · rw [decide_eq_true q, decide_eq_true (h i q)]; rfl
    · rw [decide_eq_false q]; rfl
theorem opn_iff {s : sg} : opn s = true ↔ (sR s).length = 0 ∧ ¬ sL s = [0] ∧ ∀ v, v < sV s → sS s v = 0 := by
  unfold opn
  simp only [Bool.and_eq_true, decide_eq_true_eq, Bool.not_eq_true', decide_eq_false_iff_not]
  exact ⟨fun h => ⟨h.1.1, h.1.2, h.2⟩, fun h => ⟨⟨h.1, h.2.1⟩, h.2.2⟩⟩
/-- a set of variables -/
def inS (V : Nat) (x : Int32) : Bool := decide (tn x < 2 ^ V)
theorem inS_bt {V : Nat} {x : Int32} : inS V x = true ↔ ∀ i, i < 32 → V ≤ i → bt x i = false := by
  unfold inS
  rw [decide_eq_true_eq]
  constructor
  · intro h i _ hV
    rw [bt_tn]
    exact Nat.testBit_lt_two_pow (Nat.lt_of_lt_of_le h (Nat.pow_le_pow_right (by decide) hV))
  · intro h
    refine Nat.lt_pow_two_of_testBit _ (fun i hi => ?_)
    by_cases q : i < 32
    · exact h i q hi
    · exact Nat.testBit_lt_two_pow (Nat.lt_of_lt_of_le (tn_lt x) (Nat.pow_le_pow_right (by decide) (by omega)))
theorem inS_c {V : Nat} (hV : V ≤ 10) {x : Int32} : x &&& ((bi V - 1) ^^^ (-1)) = 0 ↔ inS V x = true := by
  rw [inS_bt, bz]
  constructor
  · intro h i hi hVi
    have := h i hi
    rw [b_and, b_not hi, mk_bt V (by omega) i hi, decide_eq_false (by omega)] at this
    simpa using this
  · intro h i hi
    rw [b_and, b_not hi, mk_bt V (by omega) i hi]
    by_cases q : i < V
    · rw [decide_eq_true q]; simp
    · rw [h i hi (by omega)]; rfl
theorem pow10 {V : Nat} (h : V ≤ 10) : 1 ≤ 2 ^ V ∧ 2 ^ V ≤ 1024 := ⟨Nat.one_le_two_pow, Nat.pow_le_pow_right (n := 2) (by decide) h⟩
theorem inS_r {V : Nat} (hV : V ≤ 10) {x : Int32} : (0 ≤ x ∧ x ≤ bi V - 1) ↔ inS V x = true := by
  have hp := pow10 hV
  rw [mk_nI V (by omega)]
  unfold inS
  rw [decide_eq_true_eq]
  rcases rg_cs (a := 0) (b := 2 ^ V - 1) (by omega) (by omega) x with ⟨e, hx⟩ | ⟨j, h1, h2, rfl, e⟩
  · refine ⟨fun h => absurd h hx, fun h => absurd ?_ hx⟩
    have ex : x = nI (tn x) := (nI_tn x).symm
    rw [ex]
    exact ⟨nI_le (Nat.zero_le _) (by omega), nI_le (by omega) (by omega)⟩
  · rw [tn_nI (by omega)]
    exact ⟨fun _ => by omega, fun _ => ⟨nI_pos' (by omega), nI_le h2 (by omega)⟩⟩
theorem so_okv {V : Nat} (hV : V ≤ 10) {S : Nat → Int32} (hS : ∀ v, v < V → S v = 0) {p n : Int32} (hp : inS V p = true) (hn : inS V n = true) (hd : p &&& n = 0) (hz : so p n ≠ 0) : okv V S (so p n) := by
  have hb : ∀ i, i < 32 → bt (so p n) i = (decide (i < 20) && bt (if i % 2 = 0 then p else n) (i / 2)) := fun i hi => by unfold so; rw [bm_bt _ hi]
  have hpn := inS_bt.mp hp
  have hnn := inS_bt.mp hn
  have hlt : ∀ i, i < 32 → bt (so p n) i = true → i / 2 < V := by
    intro i hi h
    rw [hb i hi, Bool.and_eq_true] at h
    refine Nat.lt_of_not_le (fun hc => ?_)
    have h2 := h.2
    split at h2
    · rw [hpn (i / 2) (by omega) hc] at h2; cases h2
    · rw [hnn (i / 2) (by omega) hc] at h2; cases h2
  refine ⟨hz, ?_, fun i hi h => ⟨by have := hlt i hi h; omega, hS _ (hlt i hi h)⟩⟩
  cases ht : tv (so p n) with
  | false => rfl
  | true =>
    exfalso
    obtain ⟨i, hi, h1, h2⟩ := (tv_iff _).mp ht
    have hf := fl32 hi
    have hz := bz.mp hd (i / 2) (by omega)
    rw [b_and] at hz
    rw [hb i (by omega), Bool.and_eq_true] at h1
    rw [hb _ (by omega), Bool.and_eq_true, fl_div] at h2
    have a1 := h1.2
    have a2 := h2.2
    by_cases he : i % 2 = 0
    · rw [if_pos he] at a1
      rw [if_neg (by unfold fl; rw [if_pos he]; omega)] at a2
      rw [a1, a2] at hz; cases hz
    · rw [if_neg he] at a1
      rw [if_pos (by unfold fl; rw [if_neg he]; omega)] at a2
      rw [a1, a2] at hz; cases hz
/-- a clause is added -/
theorem inv_addO {s : sg} (h : Inv s) (ha : ∀ v, v < sV s → sS s v = 0) (ho : (sO s).length < 32) {x : Int32} (hx : x ≠ 0 → okv (sV s) (sS s) x) : Inv (addO s x) ∧ (sL s ≠ [0] → (sL s).length < 48) ∧ sV (addO s x) = sV s ∧ sS (addO s x) = sS s ∧ sO (addO s x) = sO s ++ [x] ∧ sR (addO s x) = sR s := by
  have hl : sL s = [0] ∨ (sL s).length ≤ (sO s).length := h.2.2.2.2.2.2.2.1 ha
  have h48 := h.L48
  have eI : addO s x = uL (uO s (sO s ++ [x])) (sL (addO s x)) := inc_V _ _
  have len : sL (addO s x) = [0] ∨ (sL (addO s x)).length ≤ (sO s).length + 1 := by
    unfold addO inc
    split
    · rename_i q; exact Or.inl q
    · rename_i q
      split
      · exact Or.inl rfl
      · refine Or.inr ?_
        show (sL s ++ [x]).length ≤ _
        rw [List.length_append]
        show (sL s).length + 1 ≤ _
        rcases hl with e | e
        · exact absurd e q
        · omega
  refine ⟨?_, fun hb => by rcases hl with e | e; exact absurd e hb; omega, by rw [eI]; rfl, by rw [eI]; rfl, by rw [eI]; rfl, by rw [eI]; rfl⟩
  have hok := inc_ok (s := uO s (sO s ++ [x])) (V := sV s) (S := sS s) (x := x) h.2.2.2.2.2.1 hx
  rw [eI]
  refine ⟨h.1, h.2.1, ?_, ?_, h.2.2.2.2.1, hok, h.wit, fun _ => ?_, h.2.2.2.2.2.2.2.2⟩
  · show (sL (addO s x)).length ≤ 48
    rcases len with e | e
    · rw [e]; decide
    · omega
  · show (sO s ++ [x]).length ≤ 32
    rw [List.length_append]; show (sO s).length + 1 ≤ 32; omega
  · show sL (addO s x) = [0] ∨ (sL (addO s x)).length ≤ (sO s ++ [x]).length
    rw [List.length_append]; exact len
section ADD
variable {g : mj_S} {M : mj_M} {k : Nat} {o : ob}
theorem c_reqRoom (h0 : is9s g k) (h : CR M k o) {n : Nat} (hn : n < 1000) : kX9_requireRoomFor k (nI n) g M (fun M' => M' = M ∧ opn o.1 = true ∧ (sO o.1).length + n ≤ 32) (fun X M' => M' = M ∧ X = mj_IS ∧ ¬ (opn o.1 = true ∧ (sO o.1).length + n ≤ 32)) := by
  have hV : sV o.1 ≤ 10 := h.1.2.2.2.2.2.2.2.2.2.2
  have h140 := h.1.2.2.2.2.2.2.2.2.1
  have hO := h.1.2.2.2.2.1
  have h32 := hO.2.1
  refine eX9_requireRoomFor h0.1 ⟨_, c_activeVariables (S9 h0) h.1, fun v1 M1 hq => ?_⟩
  obtain ⟨rfl, rfl⟩ := hq
  refine ⟨_, c_allVariables (S9 h0) h.1, fun v2 M2 hq => ?_⟩
  obtain ⟨rfl, rfl⟩ := hq
  rw [act_all hV, h.1.2.2.1]
  refine ⟨fun ha => ⟨rfl, rfl, fun q => ha (opn_iff.mp q.1).2.2⟩, fun ha => ⟨fun hr => ⟨rfl, rfl, fun q => hr (by rw [(opn_iff.mp q.1).1]; rfl)⟩, fun hr => ⟨_, c_isContradictory (S9 h0).2.1.2 h.1.2.2.2.1, fun v3 M3 hq => ?_⟩⟩⟩
  obtain ⟨rfl, rfl⟩ := hq
  have hr0 : (sR o.1).length = 0 := (nI_eq (b := 0) (by omega) (by decide)).mp hr
  by_cases hb : sL o.1 = [0]
  · rw [if_pos hb]
    exact ⟨fun hc => absurd hc (by decide), fun _ => ⟨rfl, rfl, fun q => (opn_iff.mp q.1).2.1 hb⟩⟩
  · rw [if_neg hb]
    refine ⟨fun _ => ⟨_, c_size (S9 h0).2.2.1.2 hO, fun v4 M4 hq => ?_⟩, fun hc => absurd rfl hc⟩
    obtain ⟨rfl, rfl⟩ := hq
    rw [nI_add, show (32 : Int32) = nI 32 from rfl, nI_leI (by omega) (by decide)]
    exact ⟨fun hl => ⟨rfl, opn_iff.mpr ⟨hr0, hb, ha⟩, hl⟩, fun hl => ⟨rfl, rfl, fun q => hl q.2⟩⟩
def adB (o : ob) (x y : Int32) : Bool := inS (sV o.1) x && (inS (sV o.1) y && decide (x &&& y = 0))
def A_addClause (o : ob) (x y : Int32) : res := if adB o x y = true then (if opn o.1 = true ∧ (sO o.1).length + 1 ≤ 32 then (0, nI ((sO o.1).length + 1), (addO o.1 (so x y), o.2.1, sav o.2.2 o.1)) else (2, 0, o)) else (1, 0, o)
theorem add_1 {x y : Int32} (h : adB o x y = false) : A_addClause o x y = (1, 0, o) := if_neg (by rw [h]; decide)
theorem add_2 {x y : Int32} (h : adB o x y = true) (h2 : ¬ (opn o.1 = true ∧ (sO o.1).length + 1 ≤ 32)) : A_addClause o x y = (2, 0, o) := by unfold A_addClause; rw [if_pos h, if_neg h2]
theorem add_0 {x y : Int32} (h : adB o x y = true) (h2 : opn o.1 = true ∧ (sO o.1).length + 1 ≤ 32) : A_addClause o x y = (0, nI ((sO o.1).length + 1), (addO o.1 (so x y), o.2.1, sav o.2.2 o.1)) := by unfold A_addClause; rw [if_pos h, if_pos h2]
theorem adB_iff {x y : Int32} : adB o x y = true ↔ inS (sV o.1) x = true ∧ inS (sV o.1) y = true ∧ x &&& y = 0 := by
  unfold adB; rw [Bool.and_eq_true, Bool.and_eq_true, decide_eq_true_eq]
theorem adB_f {x y : Int32} (h : ¬ (inS (sV o.1) x = true ∧ inS (sV o.1) y = true ∧ x &&& y = 0)) : adB o x y = false := by
  cases e : adB o x y with
  | false => rfl
  | true => exact absurd (adB_iff.mp e) h
theorem add_inv (hI : Inv o.1) {x y : Int32} (h : adB o x y = true) (h2 : opn o.1 = true ∧ (sO o.1).length + 1 ≤ 32) : Inv (addO o.1 (so x y)) ∧ (sL o.1 ≠ [0] → (sL o.1).length < 48) := by
  obtain ⟨a1, a2, a3⟩ := adB_iff.mp h
  have ho := opn_iff.mp h2.1
  have := inv_addO hI ho.2.2 (show (sO o.1).length < 32 by omega) (x := so x y) (fun hz => so_okv hI.V10 ho.2.2 a1 a2 a3 hz)
  exact ⟨this.1, this.2.1⟩
theorem A_addClause_ok (h : OI o) (x y : Int32) : OI (A_addClause o x y).2.2 := by
  cases e : adB o x y with
  | false => rw [add_1 e]; exact h
  | true =>
    by_cases h2 : opn o.1 = true ∧ (sO o.1).length + 1 ≤ 32
    · rw [add_0 e h2]; exact h.sv (add_inv h.1 e h2).1
    · rw [add_2 e h2]; exact h
theorem c_addClause (h0 : is9s g k) (h : CR M k o) (hI : Inv o.1) (x y : Int32) : kX9_addClause k x y g M (cq (A_addClause o x y) k M) (cx (A_addClause o x y) k M mj_IA mj_IS) := by
  have hV := hI.V10
  refine eX9_addClause h0.1 ⟨_, c_allVariables (S9 h0) h.1, fun v1 M1 hq => ?_⟩
  obtain ⟨rfl, rfl⟩ := hq
  rw [inS_c hV, inS_c hV]
  refine ⟨fun h1 => cx_1 h (add_1 (adB_f (fun q => h1 q.1))), fun h1 => ⟨fun h2 => cx_1 h (add_1 (adB_f (fun q => h2 q.2.1))), fun h2 => ⟨fun h3 => ?_, fun h3 => cx_1 h (add_1 (adB_f (fun q => h3 q.2.2)))⟩⟩⟩
  have eB := adB_iff.mpr ⟨h1, h2, h3⟩
  refine ⟨_, _, c_reqRoom h0 h (n := 1) (by decide), fun X M' hq => ?_, fun M2 hq => ?_⟩
  · obtain ⟨rfl, rfl, hn⟩ := hq; exact cx_2 h (add_2 eB hn)
  · obtain ⟨rfl, ho, hl⟩ := hq
    have inv := add_inv hI eB ⟨ho, hl⟩
    refine ⟨_, c_saveState h0 h, fun M3 hq => ?_⟩
    obtain ⟨q1, q2⟩ := hq
    refine ⟨_, c_setOf _ _, fun v4 M4 hq => ?_⟩
    obtain ⟨rfl, rfl⟩ := hq
    refine ⟨_, c_addOriginal (S9 h0) q1.1 _ (show (sO o.1).length < 32 by omega) (fun _ hb => inv.2 hb), fun M5 hq => ?_⟩
    have e5 : sO (addO o.1 (so x y)) = sO o.1 ++ [so x y] := by unfold addO; rw [inc_V]; rfl
    refine ⟨_, c_size (S9 h0).2.2.1.2 hq.1.2.2.2.2.1, fun v6 M6 hq6 => ?_⟩
    obtain ⟨rfl, rfl⟩ := hq6
    rw [add_0 eB ⟨ho, hl⟩]
    refine ⟨rfl, ?_, q1.st hq.2 hq.1, (q2.wd (by omega) (by omega)).tr (hq.2.wd (by omega) (by omega)).g⟩
    show nI (sO (addO o.1 (so x y))).length = nI ((sO o.1).length + 1)
    rw [e5, List.length_append]; rfl
theorem r_addClause (h0 : is10 g k) (h : RR M k o) (hI : Inv o.1) (x y : Int32) : kX10_addClause k x y g M (rq (A_addClause o x y) k M) := by
  have hV := hI.V10
  have h32 := h.1.o32
  refine eX10_addClause h0 ?_
  rw [h.1.V]
  have ein : ∀ z : Int32, (if (0 : Int32) ≤ z ∧ z ≤ ((1 : Int32) <<< (nI (sV o.1) &&& 31)) - 1 then (1 : Int32) else 0) = if inS (sV o.1) z then 1 else 0 := fun z => by
    by_cases q : inS (sV o.1) z = true
    · rw [if_pos q]; exact if_pos ((inS_r hV).mpr q)
    · rw [if_neg q]; exact if_neg (fun p => q ((inS_r hV).mp p))
  refine ⟨_, r_in, fun v1 M1 hq => ?_⟩
  obtain ⟨rfl, rfl⟩ := hq
  rw [ein]
  refine ⟨fun h1 => r_fail (r := A_addClause o x y) h0 h gf_.rf 1 (add_1 (adB_f (fun q => by rw [q.1] at h1; exact absurd h1 (by decide)))) (fun _ _ h => h), fun h1 => ⟨_, r_in, fun v2 M2 hq => ?_⟩⟩
  obtain ⟨rfl, rfl⟩ := hq
  rw [ein]
  have h1 := (if01 _).2.mp h1
  refine ⟨fun h2 => r_fail (r := A_addClause o x y) h0 h gf_.rf 1 (add_1 (adB_f (fun q => by rw [q.2.1] at h2; exact absurd h2 (by decide)))) (fun _ _ h => h), fun h2 => ⟨fun h3 => ⟨_, r_isOpen h0 h.1, fun v3 M3 hq => ?_⟩, fun h3 => r_fail (r := A_addClause o x y) h0 h gf_.rf 1 (add_1 (adB_f (fun q => h3 q.2.2))) (fun _ _ h => h)⟩⟩
  have h2 := (if01 _).2.mp h2
  obtain ⟨rfl, rfl⟩ := hq
  have eB := adB_iff.mpr ⟨h1, h2, h3⟩
  rw [h.1.o, show (32 : Int32) = nI 32 from rfl, nI_eq (by omega) (by decide)]
  refine ⟨fun h4 => r_fail (r := A_addClause o x y) h0 h gf_.rf 2 (add_2 eB (fun q => by rw [q.1] at h4; exact absurd h4 (by decide))) (fun _ _ h => h), fun h4 => ⟨fun h5 => ⟨_, r_save h0 h, fun M7 hq => ?_⟩, fun h5 => r_fail (r := A_addClause o x y) h0 h gf_.rf 2 (add_2 eB (fun q => by omega)) (fun _ _ h => h)⟩⟩
  have ho := (if01 _).2.mp h4
  have hl : (sO o.1).length + 1 ≤ 32 := by omega
  have inv := add_inv hI eB ⟨ho, hl⟩
  obtain ⟨q1, q2, q3⟩ := hq
  refine ⟨_, r_literalsOf _ _, fun v8 M8 hq => ?_⟩
  obtain ⟨rfl, rfl⟩ := hq
  refine ⟨_, r_adds h0 q1.1 _ (show (sO o.1).length < 32 by omega) (fun _ hb => inv.2 hb), fun M9 hq => ?_⟩
  have e5 : sO (addO o.1 (so x y)) = sO o.1 ++ [so x y] := by unfold addO; rw [inc_V]; rfl
  rw [add_0 eB ⟨ho, hl⟩, show Int32.toNatClampNeg (nI 32) = 32 from nI_clamp (by decide)]
  refine ⟨by rw [hq.2.1 k (by omega)]; exact q2, fun _ => ?_, q1.rf (hq.2.r (by omega)) hq.1, q3.g.tr (hq.2.wd (by omega) (by omega)).g⟩
  have e9 := hq.1.2.2.2.2.2.1
  rw [e5, List.length_append] at e9
  exact e9
/-! eliminate -/
def A_eliminate (o : ob) (x : Int32) : res := qB (ix (sV o.1) x) (me o.1) (fun v => (0, nI (rs (sL o.1) v).length, (uT (elS o.1 v) 4 (sT (elS o.1 v) 4 + 1), o.2.1, sav o.2.2 o.1))) o
theorem A_eliminate_ok (h : OI o) (x : Int32) : OI (A_eliminate o x).2.2 := by
  have hV := h.1.V10
  rcases ix_cs (n := sV o.1) (by omega) x with ⟨e, _⟩ | ⟨v, hv, rfl, e⟩
  · rw [show A_eliminate o x = (1, 0, o) from qB_n e]; exact h
  · cases hm : me o.1 v with
    | false => rw [show A_eliminate o (nI v) = (2, 0, o) from qB_f e hm]; exact h
    | true => rw [show A_eliminate o (nI v) = _ from qB_t e hm]; exact h.sv (s' := uT (elS o.1 v) 4 (sT (elS o.1 v) 4 + 1)) (inv_el h.1 hv hm).1
theorem c_eliminate (h0 : is9s g k) (h : CR M k o) (hI : Inv o.1) (x : Int32) : kX9_eliminate k x g M (cq (A_eliminate o x) k M) (cx (A_eliminate o x) k M mj_IO mj_IS) := by
  refine eX9_eliminate h0.1 ⟨_, _, c_reqVariable h0 h x, fun X M' hq => ?_, fun M1 hq => ?_⟩
  · obtain ⟨rfl, rfl, e⟩ := hq; exact cx_1 h (qB_n e)
  · obtain ⟨rfl, v, hv, rfl, e⟩ := hq
    have hV := hI.V10
    have hv10 : v < 10 := by omega
    refine ⟨_, c_findElimination (T9 h0) (S9 h0) h.1 hI (by omega) hv10, fun r M2 hq => ?_⟩
    obtain ⟨rfl, q2, q3⟩ := hq
    have h2 := h.w q3 (by omega)
    refine ⟨fun hm => ?_, fun hm => ?_⟩
    · have hm := (if01 _).2.mp hm
      refine ⟨_, c_saveState h0 h2, fun M3 hq => ?_⟩
      obtain ⟨s1, s2⟩ := hq
      have hF : cl_ M3 (k + 88 + 2) 576 (rs (sL o.1) v) := by
        have hc := q2 hm
        obtain ⟨c1, c2, c3, c4⟩ := hc
        exact ⟨by rw [(s2 _ (by omega)).1]; exact c1, c2, c3, fun i hi => by rw [(s2 _ (by omega)).1]; exact c4 i hi⟩
      refine ⟨_, c_eliminateFound (T9 h0) (S9 h0) s1.1 hI (by omega) hv10 hm hF, fun M4 hq => ⟨_, c_addToTotal (S9 h0) hq.1 (t := 4) (by decide) 1, fun M5 hq5 => ?_⟩⟩
      have hF5 : cl_ M5 (k + 88 + 1 + 1) 576 (rs (sL o.1) v) := (hF.fr hq.2 (by omega)).fr hq5.2 (by omega)
      refine ⟨_, c_size (T9 h0).2.1.2.2.2 hF5, fun v6 M6 hq6 => ?_⟩
      obtain ⟨rfl, rfl⟩ := hq6
      rw [show A_eliminate o (nI v) = _ from qB_t e hm]
      have ff := hq.2.tr hq5.2
      exact ⟨rfl, rfl, s1.st ff hq5.1, ((q3.wd (lo' := k) (hi' := k + 98) (by omega) (by omega)).g.tr (s2.wd (by omega) (by omega))).tr (ff.wd (by omega) (by omega)).g⟩
    · have hm := (if01 _).1.mp hm
      rw [show A_eliminate o (nI v) = (2, 0, o) from qB_f e hm]
      exact ⟨Or.inr ⟨rfl, rfl⟩, h2, (q3.wd (by omega) (by omega)).g⟩
theorem r_eliminate (h0 : is10 g k) (h : RR M k o) (hI : Inv o.1) (x : Int32) : kX10_eliminate k x g M (rq (A_eliminate o x) k M) := by
  have hV := h.1.V10
  refine eX10_eliminate h0 ⟨_, r_isVariable h0 h x, fun v1 M1 hq => ?_⟩
  obtain ⟨rfl, rfl⟩ := hq
  rcases ix_cs (n := sV o.1) (by omega) x with ⟨e, hx⟩ | ⟨v, hv, rfl, e⟩
  · rw [e]; exact ⟨fun hc => absurd rfl hc, fun _ => r_fail (r := A_eliminate o x) h0 h gf_.rf 1 (qB_n e) (fun _ _ h => h)⟩
  · rw [e]
    have hv10 : v < 10 := by omega
    refine ⟨fun _ => ⟨_, r_mayEliminate h0 h.1 hI hv10, fun r M2 hq => ?_⟩, fun hc => absurd hc s1⟩
    obtain ⟨rfl, q2, q3, q4⟩ := hq
    have h2 : RR M2 k o := h.rf q4 q2
    refine ⟨fun hm => ?_, fun hm => r_fail (r := A_eliminate o (nI v)) h0 h2 q4.g 2 (qB_f e ((if01 _).1.mp hm)) (fun _ _ h => h)⟩
    have hm := (if01 _).2.mp hm
    have hF := q3 (me_iff.mp hm).1
    refine ⟨_, r_save h0 h2, fun M3 hq => ?_⟩
    obtain ⟨s1, s2, s3⟩ := hq
    have hF3 : md_ M3 k (rs (sL o.1) v) := ⟨by rw [s3.2.2 18 (by decide) (by decide)]; exact hF.1, hF.2.1, fun t ht => by rw [s3.2.1 (k + 7) (by omega) (by omega)]; exact hF.2.2 t ht⟩
    refine ⟨_, r_eliminates h0 s1.1 hI hv10 hm hF3, fun M4 hq => ?_⟩
    have f5 : fr_ (k + 1) (k + 2) M4 (mj_wI M4 (k + 1) (2 + 4) (sT (elS o.1 v) 4 + 1)) := fr_.wI (by omega) (by omega)
    have e6 : M4.1 (k + 1) (Int32.toNatClampNeg 6) = sT (elS o.1 v) 4 := by rw [t6]; exact hq.1.2.2.1 4 (by decide)
    rw [e6, t6, show A_eliminate o (nI v) = _ from qB_t e hm, wI_k (by omega)]
    have hF4 := hF3.fr hq.2
    refine ⟨by rw [wI_k (by omega), hq.2.1 k (by omega)]; exact s2, fun _ => hF4.1, s1.rf ((hq.2.tr f5).r (by omega)) (r_addTotal hq.1 (t := 4) (by decide) 1), (q4.g.tr s3.g).tr ((hq.2.tr f5).wd (by omega) (by omega)).g⟩
/-! append, clearText -/
def A_append (o : ob) (x : Int32) : res := match rg 0 127 x with
  | none => (1, 0, o)
  | some n => if o.2.1.length = 160 then (2, 0, o) else (0, nI (o.2.1.length + 1), (o.1, o.2.1 ++ [nI n], o.2.2))
theorem app_1 {x : Int32} (h : rg 0 127 x = none) : A_append o x = (1, 0, o) := by unfold A_append; rw [h]
theorem app_2 {x : Int32} {n : Nat} (h : rg 0 127 x = some n) (h2 : o.2.1.length = 160) : A_append o x = (2, 0, o) := by unfold A_append; simp only [h]; exact if_pos h2
theorem app_0 {x : Int32} {n : Nat} (h : rg 0 127 x = some n) (h2 : ¬ o.2.1.length = 160) : A_append o x = (0, nI (o.2.1.length + 1), (o.1, o.2.1 ++ [nI n], o.2.2)) := by unfold A_append; simp only [h]; exact if_neg h2
theorem A_append_ok (h : OI o) (x : Int32) : OI (A_append o x).2.2 := by
  rcases rg_cs (a := 0) (b := 127) (by decide) (by decide) x with ⟨e, _⟩ | ⟨n, h1, h2, rfl, e⟩
  · rw [app_1 e]; exact h
  · by_cases hl : o.2.1.length = 160
    · rw [app_2 e hl]; exact h
    · rw [app_0 e hl]
      refine ⟨h.1, h.2.1, fun b hb => ?_⟩
      rcases List.mem_append.mp hb with q | q
      · exact h.2.2 b q
      · exact ⟨n, by omega, by simpa using q⟩
theorem c_append (h0 : is9s g k) (h : CR M k o) (x : Int32) : kX9_append k x g M (cq (A_append o x) k M) (cx (A_append o x) k M mj_IA mj_IS) := by
  obtain ⟨hs, ht, hv, x1, x2, x3⟩ := h
  have h : CR M k o := ⟨hs, ht, hv, x1, x2, x3⟩
  refine eX9_append h0.1 ?_
  rcases rg_cs (a := 0) (b := 127) (by decide) (by decide) x with ⟨e, hx⟩ | ⟨n, h1, h2, rfl, e⟩
  · exact ⟨fun _ => cx_1 h (app_1 e), fun h1 => ⟨fun h2 => absurd ⟨nle_lt.mp h1, h2⟩ hx, fun _ => cx_1 h (app_1 e)⟩⟩
  · refine ⟨fun hc => absurd hc (nI_pos (by omega)), fun _ => ⟨fun _ => ?_, fun hc => absurd (nI_le h2 (by decide)) hc⟩⟩
    have full : kX8_isFull (k + 82) g M (fun v M' => M' = M ∧ v = if o.2.1.length = 160 then 1 else 0) := by
      refine eX8_isFull (X9t h0) ?_
      rw [x1, show (160 : Int32) = nI 160 from rfl, nI_ltI (by omega) (by decide)]
      exact ⟨fun q => ⟨rfl, by rw [if_neg (by omega)]⟩, fun q => ⟨rfl, by rw [if_pos (by omega)]⟩⟩
    refine ⟨_, full, fun v1 M1 hq => ?_⟩
    obtain ⟨rfl, rfl⟩ := hq
    by_cases hl : o.2.1.length = 160
    · rw [if_pos hl]
      exact ⟨fun hc => absurd hc (by decide), fun _ => cx_2 h (app_2 e hl)⟩
    · rw [if_neg hl]
      have hlt : o.2.1.length < 160 := by omega
      have addb : kX8_addByte (k + 82) (nI n) g M1 (fun M' => M' = mj_wI (mj_wI M1 (k + 82 + 1) o.2.1.length (nI n)) (k + 82) 1 (nI (o.2.1.length + 1))) := by
        refine eX8_addByte (X9t h0) ?_
        rw [x1, show (160 : Int32) = nI 160 from rfl, nI_leI (by decide) (by omega), nI_clamp (show o.2.1.length < 2 ^ 31 by omega)]
        refine ⟨fun q => by omega, fun _ => ⟨vp_in_nI hlt (by decide), ?_⟩⟩
        rw [wI_k (by omega), x1, nI_1]
      refine ⟨fun _ => ⟨_, addb, fun M2 hq => ?_⟩, fun hc => absurd rfl hc⟩
      have f : fr_ (k + 82) (k + 84) M1 M2 := by rw [hq]; exact (fr_.wI (by omega) (by omega)).tr (fr_.wI (by omega) (by omega))
      refine ⟨fun v M' => M' = M2 ∧ v = nI (o.2.1.length + 1), eX8_size (X9t h0) ⟨rfl, by rw [hq]; exact wI_s⟩, fun v3 M3 hq3 => ?_⟩
      obtain ⟨rfl, rfl⟩ := hq3
      rw [app_0 e hl]
      obtain ⟨t, ht⟩ := ht
      refine ⟨rfl, rfl, ⟨hs.fr f (by omega), ⟨t, ht.fr f (by omega)⟩, hv.c (by rw [f.1 k (by omega)]) (by rw [f.2]) (fun a a1 a2 => f.1 a (by omega)), ?_, ?_, fun i hi => ?_⟩, (f.wd (by omega) (by omega)).g⟩
      · rw [hq, wI_s]; show _ = nI (o.2.1 ++ [nI n]).length; rw [List.length_append]; rfl
      · show (o.2.1 ++ [nI n]).length ≤ 160; rw [List.length_append]; show o.2.1.length + 1 ≤ 160; omega
      · have hi : i < (o.2.1 ++ [nI n]).length := hi
        rw [List.length_append] at hi
        have hi : i < o.2.1.length + 1 := hi
        show M3.1 (k + 82 + 1) i = (o.2.1 ++ [nI n]).getD i 0
        rw [hq, wI_k (by omega)]
        by_cases q : i = o.2.1.length
        · subst q; rw [wI_s, gd_last]
        · rw [wI_k (by omega), x3 i (by omega), List.getD_eq_getElem?_getD, List.getD_eq_getElem?_getD, List.getElem?_append_left (by omega)]
theorem r_append (h0 : is10 g k) (h : RR M k o) (x : Int32) : kX10_append k x g M (rq (A_append o x) k M) := by
  obtain ⟨hs, hp, x1, x2, x3⟩ := h
  have h : RR M k o := ⟨hs, hp, x1, x2, x3⟩
  refine eX10_append h0 ⟨_, r_in, fun v1 M1 hq => ?_⟩
  obtain ⟨rfl, rfl⟩ := hq
  rcases rg_cs (a := 0) (b := 127) (by decide) (by decide) x with ⟨e, hx⟩ | ⟨n, h1, h2, rfl, e⟩
  · rw [if_neg (show ¬ ((0 : Int32) ≤ x ∧ x ≤ 127) from hx)]
    exact ⟨fun hc => absurd rfl hc, fun _ => r_fail (r := A_append o x) h0 h gf_.rf 1 (app_1 e) (fun _ _ h => h)⟩
  · rw [if_pos (show (0 : Int32) ≤ nI n ∧ nI n ≤ 127 from ⟨nI_pos' (by omega), nI_le h2 (by decide)⟩)]
    refine ⟨fun _ => ?_, fun hc => absurd hc (by decide)⟩
    rw [x1, show (160 : Int32) = nI 160 from rfl, nI_eq (by omega) (by decide)]
    refine ⟨fun hl => ?_, fun hl => r_fail (r := A_append o (nI n)) h0 h gf_.rf 2 (app_2 e hl) (fun _ _ h => h)⟩
    have hlt : o.2.1.length < 160 := by omega
    rw [nI_clamp (show o.2.1.length < 2 ^ 31 by omega), wI_s, wI_k (by omega), x1, nI_1]
    refine ⟨vp_in_nI hlt (by decide), ?_⟩
    have g2 : gf_ k (k + 12) M1 (mj_wI (mj_wI M1 (k + 4) o.2.1.length (nI n)) k 5 (nI (o.2.1.length + 1))) := ((fr_.wI (lo := k) (hi := k + 12) (by omega) (by omega)).tr (fr_.wI (by omega) (by omega))).g
    refine r_tell (r := A_append o (nI n)) (o := (o.1, o.2.1 ++ [nI n], o.2.2)) h0 ⟨?_, ⟨?_, hp.2.1, fun i hi => ?_⟩, ?_, ?_, fun i hi => ?_⟩ g2 _ (app_0 e hl) (fun _ _ h => h)
    · exact (hs.fr (fr_.wI (lo := k + 4) (hi := k + 5) (by omega) (by omega)) (by omega)).fr (fr_.wI (lo := k) (hi := k + 1) (by omega) (by omega)) (by omega)
    · rw [wI_k (by omega), wI_k (by omega)]; exact hp.1
    · refine ra_.c (hp.2.2 i hi) (fun j hj => ?_)
      show (mj_wI (mj_wI M1 (k + 4) o.2.1.length (nI n)) k 5 (nI (o.2.1.length + 1))).1 (k + 2) _ = _
      rw [wI_k (by omega), wI_k (by omega)]
    · rw [wI_s]; show _ = nI (o.2.1 ++ [nI n]).length; rw [List.length_append]; rfl
    · show (o.2.1 ++ [nI n]).length ≤ 160; rw [List.length_append]; show o.2.1.length + 1 ≤ 160; omega
    · have hi : i < (o.2.1 ++ [nI n]).length := hi
      rw [List.length_append] at hi
      have hi : i < o.2.1.length + 1 := hi
      show _ = (o.2.1 ++ [nI n]).getD i 0
      rw [wI_k (by omega)]
      by_cases q : i = o.2.1.length
      · subst q; rw [wI_s, gd_last]
      · rw [wI_k (by omega), x3 i (by omega), List.getD_eq_getElem?_getD, List.getD_eq_getElem?_getD, List.getElem?_append_left (by omega)]
def A_clearText (o : ob) : res := (0, nI o.2.1.length, (o.1, [], o.2.2))
theorem A_clearText_ok (h : OI o) : OI (A_clearText o).2.2 := ⟨h.1, h.2.1, fun b hb => by cases hb⟩
theorem c_clearText (h0 : is9s g k) (h : CR M k o) : kX9_clearText k g M (cq (A_clearText o) k M) := by
  obtain ⟨hs, ⟨t, ht⟩, hv, x1, x2, x3⟩ := h
  refine eX9_clearText h0.1 ⟨fun v M' => M' = M ∧ v = nI o.2.1.length, eX8_size (X9t h0) ⟨rfl, x1⟩, fun v1 M1 hq => ?_⟩
  obtain ⟨rfl, rfl⟩ := hq
  refine ⟨fun M' => M' = mj_wI M1 (k + 82) 1 0, eX8_clear (X9t h0) rfl, fun M2 hq => ?_⟩
  subst hq
  have f : fr_ (k + 82) (k + 83) M1 (mj_wI M1 (k + 82) 1 0) := fr_.wI (by omega) (by omega)
  exact ⟨rfl, rfl, ⟨hs.fr f (by omega), ⟨t, ht.fr f (by omega)⟩, hv.c (by rw [f.1 k (by omega)]) (by rw [f.2]) (fun a a1 a2 => f.1 a (by omega)), wI_s, Nat.zero_le _, fun i hi => absurd hi (Nat.not_lt_zero i)⟩, (f.wd (by omega) (by omega)).g⟩
theorem r_clearText (h0 : is10 g k) (h : RR M k o) : kX10_clearText k g M (rq (A_clearText o) k M) := by
  obtain ⟨hs, hp, x1, x2, x3⟩ := h
  refine eX10_clearText h0 ?_
  rw [x1]
  have f : fr_ k (k + 1) M (mj_wI M k 5 0) := fr_.wI (by omega) (by omega)
  refine r_tell (r := A_clearText o) (o := (o.1, [], o.2.2)) h0 ⟨hs.fr f (by omega), ⟨by rw [wI_k (by omega)]; exact hp.1, hp.2.1, fun i hi => by rw [f.1 (k + 2) (by omega)]; exact hp.2.2 i hi⟩, wI_s, Nat.zero_le _, fun i hi => absurd hi (Nat.not_lt_zero i)⟩ (f.wd (by omega) (by omega)).g _ rfl (fun _ _ h => h)
end ADD
