/-! STRENGTHENING -/
def nice (L : List Int32) : Prop := ∀ c, c ∈ L → tv c = false ∧ ∀ i, i < 32 → bt c i = true → i < 20
theorem okv.nice {V : Nat} {S : Nat → Int32} {c : Int32} (h : okv V S c) (hV : V ≤ 10) : tv c = false ∧ ∀ i, i < 32 → bt c i = true → i < 20 := ⟨h.2.1, fun i hi hb => by have := (h.2.2 i hi hb).1; omega⟩
theorem tv_0 : tv 0 = false := by decide +kernel
theorem Inv.nice {s : sg} (h : Inv s) : nice (sL s) := by
  rcases h.2.2.2.2.2.1 with q | q
  · rw [q]; intro c hc
    rw [show c = 0 by simpa using hc]
    exact ⟨tv_0, fun i _ hb => by rw [b_0] at hb; cases hb⟩
  · exact fun c hc => (q c hc).nice h.V10
theorem bi_inj {a b : Nat} (ha : a < 32) (hb : b < 32) (h : bi a = bi b) : a = b := by rw [← lw_bi ha, ← lw_bi hb, h]
theorem fl32 {l : Nat} (h : l < 20) : fl l < 20 := fl_lt (n := 10) h
theorem ng_bi {j : Nat} (hj : j < 20) : ng (bi j) = bi (fl j) := by
  have := fl32 hj
  refine b_ext (fun i hi => ?_)
  rw [b_ng _ hi, b_bi (by omega) hi]
  by_cases h20 : i < 20
  · have hf := fl32 h20
    rw [decide_eq_true h20, Bool.true_and, b_bi (by omega) (by omega)]
    refine decide_eq_decide.mpr ⟨fun e => by rw [← e, fl_fl], fun e => by rw [e, fl_fl]⟩
  · rw [decide_eq_false h20, Bool.false_and, decide_eq_false (by omega)]
def stP (L : List Int32) (k l i : Nat) : Bool := !decide (i = k) && (bt (L.getD i 0) (fl l) && decide ((L.getD i 0 &&& (bi (fl l) ^^^ (-1))) &&& (L.getD k 0 ^^^ (-1)) = 0))
def stL (L : List Int32) (k l : Nat) : Bool := bt (L.getD k 0) l && anA (stP L k l) L.length
def stK (L : List Int32) (k : Nat) : Option Nat := fdF (stL L k) 20 0
def stI (L : List Int32) : Option Nat := fdF (fun k => (stK L k).isSome) L.length 0
def stepL (L : List Int32) (k l : Nat) : List Int32 := if L.getD k 0 &&& (bi l ^^^ (-1)) = 0 then [0] else L.set k (L.getD k 0 &&& (bi l ^^^ (-1)))
def strF (s : sg) : Option sg := match stI (sL s) with
  | none => none
  | some k => (stK (sL s) k).map (fun l => uL s (stepL (sL s) k l))
/-- what another clause has beyond this one -/
theorem st_iff {c x : Int32} (hx : tv x = false) {l : Nat} (hl : l < 20) (hb : bt x l = true) : (bt c (fl l) && decide ((c &&& (bi (fl l) ^^^ (-1))) &&& (x ^^^ (-1)) = 0)) = true ↔ c &&& (x ^^^ (-1)) = bi (fl l) := by
  have hf := fl32 hl
  have hxf : bt x (fl l) = false := by
    cases e : bt x (fl l) with
    | false => rfl
    | true => rw [(tv_iff x).mpr ⟨l, hl, hb, e⟩] at hx; cases hx
  rw [Bool.and_eq_true, decide_eq_true_eq, bz]
  constructor
  · rintro ⟨h1, h2⟩
    refine b_ext (fun i hi => ?_)
    rw [b_and, b_not hi, b_bi (by omega) hi]
    by_cases e : i = fl l
    · subst e; rw [h1, hxf]; simp
    · have := h2 i hi
      rw [b_and, b_and, b_not hi, b_not hi, b_bi (by omega) hi, decide_eq_false e] at this
      rw [decide_eq_false e]
      simpa using this
  · intro h
    have hbit : ∀ i, i < 32 → (bt c i && !bt x i) = decide (i = fl l) := fun i hi => by rw [← b_bi (show fl l < 32 by omega) hi, ← h, b_and, b_not hi]
    constructor
    · have := hbit (fl l) (by omega)
      rw [hxf] at this; simpa using this
    · intro i hi
      have := hbit i hi
      rw [b_and, b_and, b_not hi, b_not hi, b_bi (by omega) hi]
      by_cases e : i = fl l
      · rw [decide_eq_true e]; simp
      · rw [decide_eq_false e] at this ⊢
        simpa using this
theorem fd_min {p p' : Nat → Bool} {m N : Nat} (hm : m < N) (h : ∀ l, l < N → p' l = (p l || decide (l = m))) : fdF p' N 0 = some (match fdF p N 0 with | none => m | some o => if m < o then m else o) := by
  cases e : fdF p N 0 with
  | none =>
    show fdF p' N 0 = some m
    refine fdF_some' (Nat.zero_le _) (by omega) (by rw [h m hm]; simp) (fun t _ ht => ?_)
    rw [h t (by omega), fdF_none e t (Nat.zero_le _) (by omega), decide_eq_false (by omega)]; rfl
  | some o =>
    obtain ⟨_, h2, h3, h4⟩ := fdF_some e
    show fdF p' N 0 = some (if m < o then m else o)
    by_cases hmo : m < o
    · rw [if_pos hmo]
      refine fdF_some' (Nat.zero_le _) (by omega) (by rw [h m hm]; simp) (fun t _ ht => ?_)
      rw [h t (by omega), h4 t (Nat.zero_le _) (by omega), decide_eq_false (by omega)]; rfl
    · rw [if_neg hmo]
      refine fdF_some' (Nat.zero_le _) (by omega) (by rw [h o (by omega), h3]; rfl) (fun t _ ht => ?_)
      rw [h t (by omega), h4 t (Nat.zero_le _) (by omega), decide_eq_false (by omega)]; rfl
theorem uL_self (s : sg) : uL s (sL s) = s := rfl
theorem it_uL {f : sg → Option sg} (h : ∀ s s', f s = some s' → s' = uL s (sL s')) : ∀ n s, (it f n s).1 = uL s (sL (it f n s).1)
  | 0, _ => rfl
  | n + 1, s => by
    cases e : f s with
    | none => rw [it_none e]; rfl
    | some s' =>
      rw [it_some e]
      show (it f n s').1 = uL s (sL (it f n s').1)
      have := it_uL h n s'
      rw [this, h s s' e]; rfl
theorem stI_ok {L : List Int32} {k : Nat} (h : stI L = some k) : k < L.length ∧ ∃ l, stK L k = some l ∧ l < 20 ∧ bt (L.getD k 0) l = true := by
  obtain ⟨_, h2, h3, _⟩ := fdF_some h
  cases e : stK L k with
  | none => rw [e] at h3; cases h3
  | some l =>
    obtain ⟨_, e2, e3, _⟩ := fdF_some e
    unfold stL at e3
    rw [Bool.and_eq_true] at e3
    exact ⟨by omega, l, rfl, by omega, e3.1⟩
theorem strF_none {s : sg} (h : stI (sL s) = none) : strF s = none := by unfold strF; simp only [h]
theorem strF_some {s : sg} {k l : Nat} (h : stI (sL s) = some k) (h2 : stK (sL s) k = some l) : strF s = some (uL s (stepL (sL s) k l)) := by unfold strF; simp only [h, h2]; rfl
theorem strF_uL {s s' : sg} (h : strF s = some s') : s' = uL s (sL s') := by
  cases e : stI (sL s) with
  | none => rw [strF_none e] at h; cases h
  | some k =>
    obtain ⟨_, l, e2, _⟩ := stI_ok e
    rw [strF_some e e2] at h
    cases h; rfl
theorem lits_set {L : List Int32} : ∀ {i : Nat} {x : Int32}, i < L.length → lits (L.set i x) + pc (L.getD i 0) = lits L + pc x := by
  induction L with
  | nil => intro i x h; exact absurd h (Nat.not_lt_zero i)
  | cons c cs ih =>
    intro i x h
    cases i with
    | zero => simp only [lits, List.set_cons_zero, List.map_cons, List.sum_cons, List.getD_cons_zero]; omega
    | succ i =>
      have := ih (i := i) (x := x) (by simpa using h)
      simp only [lits, List.set_cons_succ, List.map_cons, List.sum_cons, List.getD_cons_succ] at this ⊢; omega
theorem pc_clear {x : Int32} {l : Nat} (hl : l < 32) (hb : bt x l = true) : pc x = pc (x &&& (bi l ^^^ (-1))) + 1 := by
  refine pc_set hl hb ?_ (fun i hi hne => ?_)
  · rw [b_and, b_not hl, b_bi hl hl]; simp
  · rw [b_and, b_not hi, b_bi hl hi]; simp [hne]
theorem okv_sub {V : Nat} {S : Nat → Int32} {c d : Int32} (h : okv V S c) (hd : d ≠ 0) (hs : ∀ i, i < 32 → bt d i = true → bt c i = true) : okv V S d := ⟨hd, tv_sub hs h.2.1, fun i hi hb => h.2.2 i hi (hs i hi hb)⟩
theorem mem_set {L : List Int32} {i : Nat} {x c : Int32} (h : c ∈ L.set i x) : c = x ∨ c ∈ L := (List.mem_or_eq_of_mem_set h).symm
theorem stepL_ok {s : sg} (h : Inv s) (hb : sL s ≠ [0]) {k l : Nat} (hk : k < (sL s).length) (hl : l < 20) (hbt : bt ((sL s).getD k 0) l = true) : Inv (uL s (stepL (sL s) k l)) ∧ lits (stepL (sL s) k l) < lits (sL s) := by
  have hp := pc_clear (show l < 32 by omega) hbt
  have hset := lits_set (x := (sL s).getD k 0 &&& (bi l ^^^ (-1))) hk
  unfold stepL
  by_cases hz : (sL s).getD k 0 &&& (bi l ^^^ (-1)) = 0
  · rw [if_pos hz]
    refine ⟨inv_uL h hb (Or.inl rfl), ?_⟩
    have : lits [0] = 0 := by decide +kernel
    omega
  · rw [if_neg hz]
    refine ⟨inv_uL h hb (Or.inr ⟨fun c hc => ?_, by rw [List.length_set]; exact Nat.le_refl _⟩), by omega⟩
    rcases mem_set hc with q | q
    · rw [q]
      refine okv_sub (h.ok' hb _ (gd_mem hk)) hz (fun i hi hbi => ?_)
      rw [b_and, Bool.and_eq_true] at hbi; exact hbi.1
    · exact h.ok' hb c q
theorem ne0_of_bt {L : List Int32} {k l : Nat} (hk : k < L.length) (hb : bt (L.getD k 0) l = true) : L ≠ [0] := by
  intro e
  subst e
  have : k = 0 := by simp at hk; omega
  subst this
  rw [show ([0] : List Int32).getD 0 0 = 0 from rfl, b_0] at hb; cases hb
theorem strF_inv {s s' : sg} (h : Inv s) (hf : strF s = some s') : Inv s' ∧ lits (sL s') < lits (sL s) := by
  cases e : stI (sL s) with
  | none => rw [strF_none e] at hf; cases hf
  | some k =>
    obtain ⟨h1, l, h2, h3, h4⟩ := stI_ok e
    rw [strF_some e h2] at hf
    cases hf
    exact stepL_ok h (ne0_of_bt h1 h4) h1 h3 h4
