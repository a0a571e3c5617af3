/-! FINDING THE FIRST; REPEATING A STEP; THE INVARIANT; UNITS AND PURE LITERALS -/
/-- the first of i .. i + m - 1 for which p holds -/
def fdF (p : Nat → Bool) : Nat → Nat → Option Nat
  | 0, _ => none
  | m + 1, i => if p i = true then some i else fdF p m (i + 1)
def oN : Option Nat → Int32
  | none => -1
  | some i => nI i
theorem fdF_t {p : Nat → Bool} {m i : Nat} (h : p i = true) : fdF p (m + 1) i = some i := if_pos h
theorem fdF_f {p : Nat → Bool} {m i : Nat} (h : p i = false) : fdF p (m + 1) i = fdF p m (i + 1) := if_neg (by rw [h]; decide)
theorem fdF_some {p : Nat → Bool} : ∀ {m i j : Nat}, fdF p m i = some j → i ≤ j ∧ j < i + m ∧ p j = true ∧ ∀ t, i ≤ t → t < j → p t = false
  | 0, _, _, h => by cases h
  | m + 1, i, j, h => by
    cases hp : p i with
    | true =>
      rw [fdF_t hp] at h
      cases h
      exact ⟨Nat.le_refl _, by omega, hp, fun t h1 h2 => by omega⟩
    | false =>
      rw [fdF_f hp] at h
      obtain ⟨h1, h2, h3, h4⟩ := fdF_some h
      refine ⟨by omega, by omega, h3, fun t h5 h6 => ?_⟩
      by_cases e : t = i
      · rw [e]; exact hp
      · exact h4 t (by omega) h6
theorem fdF_none {p : Nat → Bool} : ∀ {m i : Nat}, fdF p m i = none → ∀ t, i ≤ t → t < i + m → p t = false
  | 0, _, _, t, h1, h2 => by omega
  | m + 1, i, h, t, h1, h2 => by
    cases hp : p i with
    | true => rw [fdF_t hp] at h; cases h
    | false =>
      rw [fdF_f hp] at h
      by_cases e : t = i
      · rw [e]; exact hp
      · exact fdF_none h t (by omega) (by omega)
theorem fdF_none' {p : Nat → Bool} : ∀ {m i : Nat}, (∀ t, i ≤ t → t < i + m → p t = false) → fdF p m i = none
  | 0, _, _ => rfl
  | m + 1, i, h => by rw [fdF_f (h i (Nat.le_refl _) (by omega))]; exact fdF_none' (fun t h1 h2 => h t (by omega) (by omega))
theorem fdF_some' {p : Nat → Bool} : ∀ {m i j : Nat}, i ≤ j → j < i + m → p j = true → (∀ t, i ≤ t → t < j → p t = false) → fdF p m i = some j
  | 0, _, _, h1, h2, _, _ => by omega
  | m + 1, i, j, h1, h2, h3, h4 => by
    by_cases e : i = j
    · subst e; exact fdF_t h3
    · rw [fdF_f (h4 i (Nat.le_refl _) (by omega))]
      exact fdF_some' (by omega) (by omega) h3 (fun t h5 h6 => h4 t (by omega) h6)
theorem fdF_cong {p q : Nat → Bool} : ∀ {m i : Nat}, (∀ t, i ≤ t → t < i + m → p t = q t) → fdF p m i = fdF q m i
  | 0, _, _ => rfl
  | m + 1, i, h => by
    have e := h i (Nat.le_refl _) (by omega)
    have r := fdF_cong (m := m) (i := i + 1) (fun t h1 h2 => h t (by omega) (by omega))
    show (if p i = true then some i else fdF p m (i + 1)) = if q i = true then some i else fdF q m (i + 1)
    rw [e, r]
theorem nI_m1 {n : Nat} (h : n < 2 ^ 31) : ¬ nI n = -1 := fun e => absurd (show nI n < 0 by rw [e]; decide) (nI_pos h)
/-- the lowest literal of a set -/
def lw (x : Int32) : Nat := match fdF (bt x) 32 0 with
  | some i => i
  | none => 0
theorem lw_ok {x : Int32} (h : x ≠ 0) : lw x < 32 ∧ bt x (lw x) = true ∧ ∀ i, i < lw x → bt x i = false := by
  unfold lw
  cases e : fdF (bt x) 32 0 with
  | none =>
    obtain ⟨i, hi, hb⟩ := bnz.mp h
    rw [fdF_none e i (Nat.zero_le _) (by omega)] at hb; cases hb
  | some j =>
    obtain ⟨_, h2, h3, h4⟩ := fdF_some e
    exact ⟨by omega, h3, fun i hi => h4 i (Nat.zero_le _) hi⟩
theorem lw_eq {x : Int32} {j : Nat} (hj : j < 32) (hb : bt x j = true) (hm : ∀ i, i < j → bt x i = false) : lw x = j := by
  unfold lw
  rw [fdF_some' (Nat.zero_le _) (by omega) hb (fun t _ ht => hm t ht)]
theorem lw_bi {j : Nat} (hj : j < 32) : lw (bi j) = j := lw_eq hj (by rw [b_bi hj hj]; simp) (fun i hi => by rw [b_bi hj (by omega)]; simp; omega)
theorem pc_one {x : Int32} (h : pc x = 1) : x ≠ 0 ∧ x = bi (lw x) := by
  have hz : ¬ x = 0 := fun e => by rw [pc_zero.mpr e] at h; cases h
  obtain ⟨j, hj, hb, hm, ho⟩ := and_pred hz
  have hp := pc_pred hz
  have hz2 : x &&& (x - 1) = 0 := pc_zero.mp (by omega)
  refine ⟨hz, ?_⟩
  rw [lw_eq hj hb hm]
  refine b_ext (fun i hi => ?_)
  rw [b_bi hj hi]
  by_cases e : i = j
  · subst e; rw [hb]; simp
  · have := ho i hi
    rw [hz2, b_0] at this
    simp [e] at this ⊢
    exact this
theorem pc_bi {j : Nat} (hj : j < 32) : pc (bi j) = 1 := by
  have hb : bt (bi j) j = true := by rw [b_bi hj hj]; simp
  have := pc_set (x := bi j) (y := 0) hj hb (b_0 j) (fun i hi hne => by rw [b_bi hj hi, b_0]; simp [hne])
  rw [this, pc_zero.mpr rfl]
theorem pc1 {x : Int32} : nI (pc x) = 1 ↔ pc x = 1 := nI_eq (b := 1) (by have := pc_le x; omega) (by decide)
theorem c_ntz1 {g : mj_S} {M : mj_M} {x : Int32} (h : pc x = 1) : kJ6_numberOfTrailingZeros_0f7a4 x g M (fun v M' => M' = M ∧ v = nI (lw x)) := by
  have e := (pc_one h).2
  have hl := (lw_ok (pc_one h).1).1
  have := c_ntz (g := g) (M := M) (lw x) hl
  rw [← e] at this; exact this
theorem r_lowest1 {g : mj_S} {M : mj_M} {x : Int32} (h : x ≠ 0) : kX10_lowest x g M (fun v M' => M' = M ∧ v = nI (lw x)) := r_lowest (lw_ok h).1 (lw_ok h).2.1 (lw_ok h).2.2
/-- a step, again and again -/
def it (f : sg → Option sg) : Nat → sg → sg × Nat
  | 0, s => (s, 0)
  | n + 1, s => match f s with
    | none => (s, 0)
    | some s' => ((it f n s').1, (it f n s').2 + 1)
theorem it_none {f : sg → Option sg} {n : Nat} {s : sg} (h : f s = none) : it f (n + 1) s = (s, 0) := by simp only [it, h]
theorem it_some {f : sg → Option sg} {n : Nat} {s s' : sg} (h : f s = some s') : it f (n + 1) s = ((it f n s').1, (it f n s').2 + 1) := by simp only [it, h]
theorem it_inv {f : sg → Option sg} {I : sg → Prop} (h : ∀ s s', I s → f s = some s' → I s') : ∀ n s, I s → I (it f n s).1
  | 0, s, hs => hs
  | n + 1, s, hs => by
    cases e : f s with
    | none => rw [it_none e]; exact hs
    | some s' => rw [it_some e]; exact it_inv h n s' (h s s' hs e)
theorem it_le (f : sg → Option sg) : ∀ n s, (it f n s).2 ≤ n
  | 0, _ => Nat.le_refl _
  | n + 1, s => by
    cases e : f s with
    | none => rw [it_none e]; exact Nat.zero_le _
    | some s' => rw [it_some e]; exact Nat.succ_le_succ (it_le f n s')
/-- how many of the first n are not active -/
def inaA (S : Nat → Int32) : Nat → Nat
  | 0 => 0
  | n + 1 => inaA S n + if S n = 0 then 0 else 1
theorem inaA_le (S : Nat → Int32) : ∀ n, inaA S n ≤ n
  | 0 => Nat.le_refl _
  | n + 1 => by
    have := inaA_le S n
    show inaA S n + (if S n = 0 then 0 else 1) ≤ n + 1
    split <;> omega
theorem inaA_out (S : Nat → Int32) {v : Nat} (x : Int32) : ∀ n, n ≤ v → inaA (upd S v x) n = inaA S n
  | 0, _ => rfl
  | n + 1, h => by
    show inaA (upd S v x) n + (if upd S v x n = 0 then 0 else 1) = inaA S n + if S n = 0 then 0 else 1
    rw [inaA_out S x n (by omega), show upd S v x n = S n from if_neg (by omega)]
theorem inaA_upd (S : Nat → Int32) {v : Nat} {x : Int32} (hx : x ≠ 0) (hS : S v = 0) : ∀ n, v < n → inaA (upd S v x) n = inaA S n + 1
  | 0, h => by omega
  | n + 1, h => by
    show inaA (upd S v x) n + (if upd S v x n = 0 then 0 else 1) = (inaA S n + if S n = 0 then 0 else 1) + 1
    by_cases e : v = n
    · subst e
      rw [inaA_out S x v (Nat.le_refl _), show upd S v x v = x from if_pos rfl, if_neg hx, if_pos hS]
    · rw [inaA_upd S hx hS n (by omega), show upd S v x n = S n from if_neg (fun q => e q.symm)]; omega
def ina (s : sg) : Nat := inaA (sS s) 10
theorem ina_lt {s : sg} {v : Nat} (hv : v < 10) (hS : sS s v = 0) : ina s < 10 := by
  have := inaA_upd (sS s) (v := v) (x := 1) (by decide) hS 10 hv
  have h2 := inaA_le (upd (sS s) v 1) 10
  unfold ina; omega
/-- a clause over active variables, with no pair of complements -/
def okv (V : Nat) (S : Nat → Int32) (c : Int32) : Prop := c ≠ 0 ∧ tv c = false ∧ ∀ i, i < 32 → bt c i = true → i < 2 * V ∧ S (i / 2) = 0
def Inv (s : sg) : Prop := (1 ≤ sV s ∧ sV s ≤ 10) ∧ (∃ n, n ≤ 8 ∧ sG s = nI n) ∧ (sL s).length ≤ 48 ∧ (sO s).length ≤ 32 ∧ (sR s).length ≤ 120 + 2 * ina s ∧ (sL s = [0] ∨ ∀ c, c ∈ sL s → okv (sV s) (sS s) c) ∧ (∀ r, r ∈ sR s → ∃ l, l < 20 ∧ r.2 = nI l) ∧ ((∀ v, v < sV s → sS s v = 0) → sL s = [0] ∨ (sL s).length ≤ (sO s).length) ∧ ∀ v, v < 10 → sS s v = 0 → sK s v = -1
theorem Inv.V1 {s : sg} (h : Inv s) : 1 ≤ sV s := h.1.1
theorem Inv.V10 {s : sg} (h : Inv s) : sV s ≤ 10 := h.1.2
theorem Inv.L48 {s : sg} (h : Inv s) : (sL s).length ≤ 48 := h.2.2.1
theorem Inv.R {s : sg} (h : Inv s) : (sR s).length ≤ 120 + 2 * ina s := h.2.2.2.2.1
theorem Inv.wit {s : sg} (h : Inv s) : ∀ r, r ∈ sR s → ∃ l, l < 20 ∧ r.2 = nI l := h.2.2.2.2.2.2.1
theorem gd_mem {L : List Int32} {i : Nat} (h : i < L.length) : L.getD i 0 ∈ L := by
  rw [List.getD_eq_getElem?_getD, List.getElem?_eq_getElem h]; exact List.getElem_mem h
theorem Inv.ok {s : sg} (h : Inv s) {i : Nat} (hi : i < (sL s).length) (hz : (sL s).getD i 0 ≠ 0) : okv (sV s) (sS s) ((sL s).getD i 0) := by
  rcases h.2.2.2.2.2.1 with e | e
  · rw [e] at hi hz
    have : i = 0 := by simp at hi; omega
    subst this
    exact absurd rfl hz
  · exact e _ (gd_mem hi)
theorem tv_sub {x y : Int32} (h : ∀ i, i < 32 → bt x i = true → bt y i = true) (hy : tv y = false) : tv x = false := by
  cases ht : tv x with
  | false => rfl
  | true =>
    obtain ⟨i, hi, h1, h2⟩ := (tv_iff x).mp ht
    have : fl i < 2 * 10 := fl_lt (n := 10) (by omega)
    rw [(tv_iff y).mpr ⟨i, hi, h i (by omega) h1, h (fl i) (by omega) h2⟩] at hy; cases hy
theorem fl_eq {i l : Nat} (h : i / 2 = l / 2) : i = l ∨ i = fl l := by
  unfold fl
  split <;> omega
theorem mem_fixL {L : List Int32} {l : Nat} {c : Int32} (h : c ∈ fixL L l) : ∃ d, d ∈ L ∧ d &&& bi l = 0 ∧ c = d &&& (bi (fl l) ^^^ (-1)) := by
  unfold fixL at h
  obtain ⟨d, hd, e⟩ := List.mem_map.mp h
  obtain ⟨h1, h2⟩ := List.mem_filter.mp hd
  exact ⟨d, h1, by simpa using h2, e.symm⟩
theorem upd_s {f : Nat → Int32} {v : Nat} {x : Int32} : upd f v x v = x := if_pos rfl
theorem upd_n {f : Nat → Int32} {v w : Nat} {x : Int32} (h : w ≠ v) : upd f v x w = f w := if_neg h
/-- fixing keeps the invariant, and leaves fewer active variables -/
theorem inv_fix {s : sg} (h : Inv s) {l : Nat} (hl : l < 2 * sV s) (ha : sS s (l / 2) = 0) : Inv (fixS s l) ∧ ina (fixS s l) = ina s + 1 := by
  have hV := h.V10
  have ei : ina (fixS s l) = ina s + 1 := inaA_upd (sS s) (v := l / 2) (x := 1) (by decide) ha 10 (by omega)
  refine ⟨⟨h.1, h.2.1, ?_, h.2.2.2.1, ?_, ?_, ?_, ?_, ?_⟩, ei⟩
  · show (if (fixL (sL s) l).any (fun c => decide (c = 0)) then [0] else fixL (sL s) l).length ≤ 48
    split
    · decide
    · exact Nat.le_trans fixL_le h.L48
  · show (sR s ++ [(bi l, nI l)]).length ≤ 120 + 2 * ina (fixS s l)
    have := h.R
    rw [ei, List.length_append]
    show (sR s).length + 1 ≤ _
    omega
  · show (if (fixL (sL s) l).any (fun c => decide (c = 0)) then [0] else fixL (sL s) l) = [0] ∨ ∀ c, c ∈ (if (fixL (sL s) l).any (fun c => decide (c = 0)) then [0] else fixL (sL s) l) → okv (sV s) (upd (sS s) (l / 2) 1) c
    cases hz : (fixL (sL s) l).any (fun c => decide (c = 0)) with
    | true => exact Or.inl rfl
    | false =>
      refine Or.inr (fun c hc => ?_)
      have hc' : c ∈ fixL (sL s) l := hc
      have hc0 : c ≠ 0 := by
        have := List.any_eq_false.mp hz c hc'
        simpa using this
      obtain ⟨d, hd, e1, e2⟩ := mem_fixL hc'
      have sub : ∀ i, i < 32 → bt c i = true → bt d i = true ∧ i ≠ fl l := by
        intro i hi hb
        rw [e2, b_and, b_not hi, b_bi (by have := fl_lt (n := 10) (show l < 2 * 10 by omega); omega) hi] at hb
        simp at hb
        exact ⟨hb.1, hb.2⟩
      have hdz : d ≠ 0 := by
        intro e
        rw [e] at e2
        refine hc0 (bz.mpr (fun i hi => ?_))
        rw [e2, b_and, b_0, Bool.false_and]
      have hok : okv (sV s) (sS s) d := by
        rcases h.2.2.2.2.2.1 with q | q
        · rw [q] at hd; exact absurd (by simpa using hd) hdz
        · exact q d hd
      refine ⟨hc0, tv_sub (fun i hi hb => (sub i hi hb).1) hok.2.1, fun i hi hb => ?_⟩
      obtain ⟨s1, s2⟩ := sub i hi hb
      obtain ⟨o1, o2⟩ := hok.2.2 i hi s1
      refine ⟨o1, ?_⟩
      rw [upd_n]
      · exact o2
      · intro e
        rcases fl_eq e with q | q
        · rw [and_bi (by omega)] at e1; rw [q, e1] at s1; cases s1
        · exact s2 q
  · intro r hr
    rcases List.mem_append.mp hr with q | q
    · exact h.wit r q
    · have : r = (bi l, nI l) := by simpa using q
      exact ⟨l, by omega, by rw [this]⟩
  · intro hall
    have := hall (l / 2) (show l / 2 < sV s by omega)
    rw [show sS (fixS s l) (l / 2) = 1 from upd_s] at this
    exact absurd this (by decide)
  · intro w hw hs
    show upd (sK s) (l / 2) _ w = -1
    by_cases e : w = l / 2
    · rw [show sS (fixS s l) w = upd (sS s) (l / 2) 1 w from rfl, e, upd_s] at hs
      exact absurd hs (by decide)
    · rw [show sS (fixS s l) w = upd (sS s) (l / 2) 1 w from rfl, upd_n e] at hs
      rw [upd_n e]; exact h.2.2.2.2.2.2.2.2 w hw hs
/-- the first unit -/
def fu (L : List Int32) : Option Nat := fdF (fun i => decide (pc (L.getD i 0) = 1)) L.length 0
def unitF (s : sg) : Option sg := (fu (sL s)).map (fun i => fixS s (lw ((sL s).getD i 0)))
theorem unit_ok {s : sg} (h : Inv s) {i : Nat} (hf : fu (sL s) = some i) : i < (sL s).length ∧ pc ((sL s).getD i 0) = 1 ∧ lw ((sL s).getD i 0) < 2 * sV s ∧ sS s (lw ((sL s).getD i 0) / 2) = 0 := by
  obtain ⟨_, h2, h3, _⟩ := fdF_some hf
  have h3' := of_decide_eq_true h3
  have hz := (pc_one h3').1
  have hok := h.ok (by omega) hz
  obtain ⟨l1, l2, _⟩ := lw_ok hz
  exact ⟨by omega, h3', hok.2.2 _ l1 l2⟩
theorem unitF_inv {s s' : sg} (h : Inv s) (hf : unitF s = some s') : Inv s' ∧ ina s' = ina s + 1 := by
  unfold unitF at hf
  cases e : fu (sL s) with
  | none => rw [e] at hf; cases hf
  | some i =>
    rw [e] at hf; cases hf
    exact inv_fix h (unit_ok h e).2.2.1 (unit_ok h e).2.2.2
/-- the first pure literal -/
def occ (L : List Int32) : Int32 := L.foldl (· ||| ·) 0
def puP (s : sg) (l : Nat) : Bool := decide (sS s (l / 2) = 0) && (bt (occ (sL s)) l && !bt (occ (sL s)) (fl l))
def pu (s : sg) : Option Nat := fdF (puP s) (2 * sV s) 0
def pureF (s : sg) : Option sg := (pu s).map (fixS s)
theorem pu_ok {s : sg} {l : Nat} (hf : pu s = some l) : l < 2 * sV s ∧ sS s (l / 2) = 0 := by
  obtain ⟨_, h2, h3, _⟩ := fdF_some hf
  unfold puP at h3
  simp only [Bool.and_eq_true, decide_eq_true_eq] at h3
  exact ⟨by omega, h3.1⟩
theorem pureF_inv {s s' : sg} (h : Inv s) (hf : pureF s = some s') : Inv s' ∧ ina s' = ina s + 1 := by
  unfold pureF at hf
  cases e : pu s with
  | none => rw [e] at hf; cases hf
  | some i =>
    rw [e] at hf; cases hf
    exact inv_fix h (pu_ok e).1 (pu_ok e).2
theorem ina_r {s : sg} (h : Inv s) {l : Nat} (hl : l < 2 * sV s) (ha : sS s (l / 2) = 0) : (sR s).length < 140 := by
  have := h.R
  have := h.V10
  have := ina_lt (s := s) (v := l / 2) (by omega) ha
  omega
section UNI
variable {g : mj_S} {M : mj_M} {k kt : Nat} {s : sg}
theorem c_firstUnit {n : Nat} {L : List Int32} (ht : is7 g kt) (h0 : is0 g k n) (h : cl_ M k n L) : kX7_firstUnit kt k g M (fun v M' => M' = M ∧ v = oN ((fu L).map (fun i => lw (L.getD i 0)))) := by
  refine eX7_firstUnit ht h0 ?_
  have key : ∀ m i, i + m = L.length → LX7_firstUnit_2 kt k n (nI i) g M (fun v M' => M' = M ∧ v = oN ((fdF (fun i => decide (pc (L.getD i 0) = 1)) m i).map (fun i => lw (L.getD i 0)))) := by
    intro m
    induction m with
    | zero =>
      intro i hi
      refine bX7_firstUnit_2 ht h0 ⟨_, c_size h0 h, fun v1 M1 hq => ?_⟩
      obtain ⟨rfl, rfl⟩ := hq
      exact ⟨fun _ => ⟨rfl, rfl⟩, fun hc => absurd (nI_le (by omega) (by have := h.lt; omega)) hc⟩
    | succ m ih =>
      intro i hi
      have hlt := h.lt
      refine bX7_firstUnit_2 ht h0 ⟨_, c_size h0 h, fun v1 M1 hq => ?_⟩
      obtain ⟨rfl, rfl⟩ := hq
      refine ⟨fun hc => absurd hc (nI_ge (by omega) hlt), fun _ => ⟨_, c_at h0 h (i := i) (by omega), fun v2 M2 hq => ?_⟩⟩
      obtain ⟨rfl, rfl⟩ := hq
      refine ⟨_, c_bitCount _, fun v3 M3 hq => ?_⟩
      obtain ⟨rfl, rfl⟩ := hq
      rw [pc1]
      refine ⟨fun hc => ?_, fun hc => ⟨_, c_at h0 h (i := i) (by omega), fun v4 M4 hq => ?_⟩⟩
      · rw [nI_1, fdF_f (decide_eq_false hc)]
        exact ih (i + 1) (by omega)
      · obtain ⟨rfl, rfl⟩ := hq
        refine ⟨_, c_ntz1 hc, fun v5 M5 hq => ?_⟩
        obtain ⟨rfl, rfl⟩ := hq
        rw [fdF_t (decide_eq_true hc)]
        exact ⟨rfl, rfl⟩
  exact key L.length 0 (by omega)
theorem c_fixUnits (ht : is7 g kt) (h0 : is6 g k) (h : rc_ M k s) (hI : Inv s) : kX7_fixUnits kt k g M (fun v M' => rc_ M' k (it unitF 2000 s).1 ∧ v = nI (it unitF 2000 s).2 ∧ fr_ k (k + 10) M M') := by
  refine eX7_fixUnits ht h0 ?_
  have key : ∀ n s M1 c, 10 - ina s < n → c + n ≤ 2000 → Inv s → rc_ M1 k s → fr_ k (k + 10) M M1 → LX7_fixUnits_4 kt k (nI c) (nI c) g M1 (fun v M' => rc_ M' k (it unitF n s).1 ∧ v = nI (c + (it unitF n s).2) ∧ fr_ k (k + 10) M M') := by
    intro n
    induction n with
    | zero => intro s M1 c hn; omega
    | succ n ih =>
      intro s M1 c hn hc hI h hf
      refine bX7_fixUnits_4 ht h0 ⟨fun hx => ?_, fun _ => ⟨_, c_firstUnit ht h0.2.1.2 h.2.2.2.1, fun v1 M2 hq => ?_⟩⟩
      · rw [show (1000000 : Int32) = nI 1000000 from rfl, nI_leI (by decide) (by omega)] at hx; omega
      · obtain ⟨rfl, rfl⟩ := hq
        cases e : fu (sL s) with
        | none =>
          refine ⟨fun hx => absurd rfl hx, fun _ => ?_⟩
          rw [it_none (show unitF s = none by unfold unitF; rw [e]; rfl)]
          exact ⟨h, rfl, hf⟩
        | some i =>
          obtain ⟨u1, u2, u3, u4⟩ := unit_ok hI e
          have hV := hI.V10
          have es : unitF s = some (fixS s (lw ((sL s).getD i 0))) := by unfold unitF; rw [e]; rfl
          refine ⟨fun _ => ⟨_, c_fix h0 h (l := lw ((sL s).getD i 0)) (by omega) (ina_r hI u3 u4), fun M3 hq => ?_⟩, fun hx => absurd hx (nI_m1 (n := lw ((sL s).getD i 0)) (by omega))⟩
          obtain ⟨i1, i2⟩ := inv_fix hI u3 u4
          have hlt := ina_lt (s := s) (v := lw ((sL s).getD i 0) / 2) (by omega) u4
          rw [nI_1, it_some es]
          have nx := ih _ M3 (c + 1) (by omega) (by omega) i1 hq.1 (hf.tr hq.2)
          rw [Nat.add_assoc, Nat.add_comm 1] at nx
          exact nx
  have k0 := key 2000 s M 0 (by omega) (by omega) hI h fr_.rf
  rw [Nat.zero_add] at k0
  exact k0
theorem r_firstUnit (h0 : is10 g k) (h : rr_ M k s) : kX10_firstUnit k g M (fun v M' => M' = M ∧ v = oN (fu (sL s))) := by
  have h48 := h.n48
  have key : ∀ i, i ≤ (sL s).length → LX10_firstUnit_12 k (oN (fdF (fun i => decide (pc ((sL s).getD i 0) = 1)) ((sL s).length - i) i)) (nI i - 1) g M (fun v M' => M' = M ∧ v = oN (fu (sL s))) := by
    intro i
    induction i with
    | zero =>
      intro _
      exact bX10_firstUnit_12 h0 ⟨fun _ => ⟨rfl, rfl⟩, fun hc => absurd m1lt hc⟩
    | succ i ih =>
      intro hi
      have nx := ih (by omega)
      rw [show (sL s).length - i = (sL s).length - (i + 1) + 1 by omega] at nx
      rw [nI_pred]
      refine bX10_firstUnit_12 h0 ⟨fun hc => absurd hc (nI_pos (by omega)), fun _ => ⟨_, r_clauseAt h0 h (by omega), fun v1 M1 hq => ?_⟩⟩
      obtain ⟨rfl, rfl⟩ := hq
      refine ⟨_, r_bits _, fun v2 M2 hq => ?_⟩
      obtain ⟨rfl, rfl⟩ := hq
      rw [pc1, m1']
      refine ⟨fun hc => ?_, fun hc => ?_⟩
      · rw [fdF_f (decide_eq_false hc)] at nx; exact nx
      · rw [fdF_t (decide_eq_true hc)] at nx; exact nx
  refine eX10_firstUnit h0 ?_
  rw [h.n]
  have k0 := key (sL s).length (Nat.le_refl _)
  rw [Nat.sub_self] at k0
  exact k0
theorem r_units (h0 : is10 g k) (h : rr_ M k s) (hI : Inv s) : kX10_units k g M (fun v M' => rr_ M' k (it unitF 2000 s).1 ∧ v = nI (it unitF 2000 s).2 ∧ fr_ (k + 1) (k + 2) M M') := by
  have key : ∀ n s M1 c, 10 - ina s < n → Inv s → rr_ M1 k s → fr_ (k + 1) (k + 2) M M1 → LX10_units_7 k (nI c) (oN (fu (sL s))) g M1 (fun v M' => rr_ M' k (it unitF n s).1 ∧ v = nI (c + (it unitF n s).2) ∧ fr_ (k + 1) (k + 2) M M') := by
    intro n
    induction n with
    | zero => intro s M1 c hn; omega
    | succ n ih =>
      intro s M1 c hn hI h hf
      have h48 := hI.L48
      cases e : fu (sL s) with
      | none =>
        refine bX10_units_7 h0 ⟨fun _ => ?_, fun hx => absurd rfl hx⟩
        rw [it_none (show unitF s = none by unfold unitF; rw [e]; rfl)]
        exact ⟨h, rfl, hf⟩
      | some i =>
        obtain ⟨u1, u2, u3, u4⟩ := unit_ok hI e
        have hV := hI.V10
        have es : unitF s = some (fixS s (lw ((sL s).getD i 0))) := by unfold unitF; rw [e]; rfl
        refine bX10_units_7 h0 ⟨fun hx => absurd hx (nI_m1 (by omega)), fun _ => ⟨_, r_clauseAt h0 h u1, fun v1 M2 hq => ?_⟩⟩
        obtain ⟨rfl, rfl⟩ := hq
        refine ⟨_, r_lowest1 (pc_one u2).1, fun v2 M3 hq => ?_⟩
        obtain ⟨rfl, rfl⟩ := hq
        refine ⟨_, r_fixes h0 h (l := lw ((sL s).getD i 0)) (by omega) (ina_r hI u3 u4), fun M4 hq => ?_⟩
        obtain ⟨i1, i2⟩ := inv_fix hI u3 u4
        have hlt := ina_lt (s := s) (v := lw ((sL s).getD i 0) / 2) (by omega) u4
        refine ⟨_, r_firstUnit h0 hq.1, fun v5 M5 hq5 => ?_⟩
        obtain ⟨rfl, rfl⟩ := hq5
        rw [nI_1, it_some es]
        have nx := ih _ M5 (c + 1) (by omega) i1 hq.1 (hf.tr hq.2)
        rw [Nat.add_assoc, Nat.add_comm 1] at nx
        exact nx
  refine eX10_units h0 ⟨_, r_firstUnit h0 h, fun v1 M1 hq => ?_⟩
  obtain ⟨rfl, rfl⟩ := hq
  have k0 := key 2000 s M1 0 (by omega) hI h fr_.rf
  rw [Nat.zero_add] at k0
  exact k0
theorem c_lowestPureLiteral (ht : is7 g kt) (h0 : is6 g k) (h : rc_ M k s) : kX7_lowestPureLiteral kt k g M (fun v M' => M' = M ∧ v = oN (pu s)) := by
  have hL := h.2.2.2.1
  have hlt := hL.lt
  have hV := h.2.2.2.2.2.2.2.2.2.2
  refine eX7_lowestPureLiteral ht h0 ?_
  have k2 : ∀ m l, l + m = 2 * sV s → LX7_lowestPureLiteral_34 kt k (occ (sL s)) (nI l) g M (fun v M' => M' = M ∧ v = oN (fdF (puP s) m l)) := by
    intro m
    induction m with
    | zero =>
      intro l hl
      refine bX7_lowestPureLiteral_34 ht h0 ⟨fun _ => ⟨rfl, rfl⟩, fun hc => absurd (by rw [h.1, two_nI, show l = 2 * sV s by omega]; exact Int32.le_refl _) hc⟩
    | succ m ih =>
      intro l hl
      have nx := ih (l + 1) (by omega)
      refine bX7_lowestPureLiteral_34 ht h0 ⟨fun hc => absurd hc (by rw [h.1, two_nI]; exact nI_ge (by omega) (by omega)), fun _ => ?_⟩
      rw [shr1 l (by omega), xor1 l (by omega), nI_1]
      refine ⟨_, c_isActive h0 h (by omega), fun v1 M1 hq => ?_⟩
      obtain ⟨rfl, rfl⟩ := hq
      by_cases ha : sS s (l / 2) = 0
      · rw [if_pos ha]
        refine ⟨fun hc => absurd hc (by decide), fun _ => ⟨_, c_contains _ (show l < 32 by omega), fun v2 M2 hq => ?_⟩⟩
        obtain ⟨rfl, rfl⟩ := hq
        refine ⟨fun hc => ?_, fun hc => ⟨_, c_contains _ (show fl l < 32 by have := fl_lt (n := 10) (show l < 2 * 10 by omega); omega), fun v3 M3 hq => ?_⟩⟩
        · rw [fdF_f (show puP s l = false by unfold puP; rw [(if01 _).1.mp hc]; simp)]; exact nx
        · obtain ⟨rfl, rfl⟩ := hq
          refine ⟨fun hd => ?_, fun hd => ?_⟩
          · rw [fdF_f (show puP s l = false by unfold puP; rw [(if01 _).2.mp hd]; simp)]; exact nx
          · rw [fdF_t (show puP s l = true by unfold puP; rw [(if01 _).2.mp hc, (if01 _).1.mp hd, decide_eq_true ha]; rfl)]
            exact ⟨rfl, rfl⟩
      · rw [if_neg ha]
        refine ⟨fun _ => ?_, fun hc => absurd rfl hc⟩
        rw [fdF_f (show puP s l = false by unfold puP; rw [decide_eq_false ha]; rfl)]; exact nx
  have k1 : ∀ m i, i + m = (sL s).length → LX7_lowestPureLiteral_4 kt k (occ ((sL s).take i)) (nI i) g M (fun v M' => M' = M ∧ v = oN (pu s)) := by
    intro m
    induction m with
    | zero =>
      intro i hi
      refine bX7_lowestPureLiteral_4 ht h0 ⟨_, c_size h0.2.1.2 hL, fun v1 M1 hq => ?_⟩
      obtain ⟨rfl, rfl⟩ := hq
      rw [tk_all (by omega)]
      exact ⟨fun _ => k2 (2 * sV s) 0 (by omega), fun hc => absurd (nI_le (by omega) (by omega)) hc⟩
    | succ m ih =>
      intro i hi
      have nx := ih (i + 1) (by omega)
      rw [tk_succ (by omega), show occ ((sL s).take i ++ [(sL s).getD i 0]) = occ ((sL s).take i) ||| (sL s).getD i 0 by unfold occ; rw [List.foldl_append]; rfl] at nx
      refine bX7_lowestPureLiteral_4 ht h0 ⟨_, c_size h0.2.1.2 hL, fun v1 M1 hq => ?_⟩
      obtain ⟨rfl, rfl⟩ := hq
      refine ⟨fun hc => absurd hc (nI_ge (by omega) hlt), fun _ => ⟨_, c_at h0.2.1.2 hL (i := i) (by omega), fun v2 M2 hq => ?_⟩⟩
      obtain ⟨rfl, rfl⟩ := hq
      rw [nI_1]; exact nx
  exact k1 (sL s).length 0 (by omega)
theorem c_fixPureLiterals (ht : is7 g kt) (h0 : is6 g k) (h : rc_ M k s) (hI : Inv s) : kX7_fixPureLiterals kt k g M (fun v M' => rc_ M' k (it pureF 2000 s).1 ∧ v = nI (it pureF 2000 s).2 ∧ fr_ k (k + 10) M M') := by
  refine eX7_fixPureLiterals ht h0 ?_
  have key : ∀ n s M1 c, 10 - ina s < n → c + n ≤ 2000 → Inv s → rc_ M1 k s → fr_ k (k + 10) M M1 → LX7_fixPureLiterals_4 kt k (nI c) (nI c) g M1 (fun v M' => rc_ M' k (it pureF n s).1 ∧ v = nI (c + (it pureF n s).2) ∧ fr_ k (k + 10) M M') := by
    intro n
    induction n with
    | zero => intro s M1 c hn; omega
    | succ n ih =>
      intro s M1 c hn hc hI h hf
      refine bX7_fixPureLiterals_4 ht h0 ⟨fun hx => ?_, fun _ => ⟨_, c_lowestPureLiteral ht h0 h, fun v1 M2 hq => ?_⟩⟩
      · rw [show (1000000 : Int32) = nI 1000000 from rfl, nI_leI (by decide) (by omega)] at hx; omega
      · obtain ⟨rfl, rfl⟩ := hq
        cases e : pu s with
        | none =>
          refine ⟨fun hx => absurd rfl hx, fun _ => ?_⟩
          rw [it_none (show pureF s = none by unfold pureF; rw [e]; rfl)]
          exact ⟨h, rfl, hf⟩
        | some l =>
          obtain ⟨u3, u4⟩ := pu_ok e
          have hV := hI.V10
          have es : pureF s = some (fixS s l) := by unfold pureF; rw [e]; rfl
          refine ⟨fun _ => ⟨_, c_fix h0 h (l := l) (by omega) (ina_r hI u3 u4), fun M3 hq => ?_⟩, fun hx => absurd hx (nI_m1 (by omega))⟩
          obtain ⟨i1, i2⟩ := inv_fix hI u3 u4
          have hlt := ina_lt (s := s) (v := l / 2) (by omega) u4
          rw [nI_1, it_some es]
          have nx := ih _ M3 (c + 1) (by omega) (by omega) i1 hq.1 (hf.tr hq.2)
          rw [Nat.add_assoc, Nat.add_comm 1] at nx
          exact nx
  have k0 := key 2000 s M 0 (by omega) (by omega) hI h fr_.rf
  rw [Nat.zero_add] at k0
  exact k0
theorem r_purest (h0 : is10 g k) (h : rr_ M k s) : kX10_purest k g M (fun v M' => M' = M ∧ v = oN (pu s)) := by
  have hV := h.V10
  refine eX10_purest h0 ⟨_, r_occurring h0 h, fun v1 M1 hq => ?_⟩
  obtain ⟨rfl, rfl⟩ := hq
  have key : ∀ i, i ≤ sV s → LX10_purest_16 k (occ (sL s)) (oN (fdF (puP s) (2 * (sV s - i)) (2 * i))) (nI i - 1) g M1 (fun v M' => M' = M1 ∧ v = oN (pu s)) := by
    intro i
    induction i with
    | zero =>
      intro _
      exact bX10_purest_16 h0 ⟨fun _ => ⟨rfl, rfl⟩, fun hc => absurd m1lt hc⟩
    | succ i ih =>
      intro hi
      have nx := ih (by omega)
      rw [show 2 * (sV s - i) = 2 * (sV s - (i + 1)) + 1 + 1 by omega] at nx
      rw [nI_pred]
      have f0 : fl (2 * i) = 2 * i + 1 := by unfold fl; rw [if_pos (by omega)]
      have f1 : fl (2 * i + 1) = 2 * i := by unfold fl; rw [if_neg (by omega)]; omega
      refine bX10_purest_16 h0 ⟨fun hc => absurd hc (nI_pos (by omega)), fun _ => ?_⟩
      rw [two_nI, nI_1, m1']
      refine ⟨_, r_has _ (show 2 * i < 32 by omega), fun v1 M2 hq => ?_⟩
      obtain ⟨rfl, rfl⟩ := hq
      refine ⟨_, r_has _ (show 2 * i + 1 < 32 by omega), fun v1 M3 hq => ?_⟩
      obtain ⟨rfl, rfl⟩ := hq
      refine ⟨_, r_isActive h0 h (show i < 10 by omega), fun v1 M4 hq => ?_⟩
      obtain ⟨rfl, rfl⟩ := hq
      have p0 : puP s (2 * i) = (decide (sS s i = 0) && (bt (occ (sL s)) (2 * i) && !bt (occ (sL s)) (2 * i + 1))) := by unfold puP; rw [f0, show 2 * i / 2 = i by omega]
      have p1 : puP s (2 * i + 1) = (decide (sS s i = 0) && (bt (occ (sL s)) (2 * i + 1) && !bt (occ (sL s)) (2 * i))) := by unfold puP; rw [f1, show (2 * i + 1) / 2 = i by omega]
      by_cases ha : sS s i = 0
      · rw [if_pos ha]
        rw [decide_eq_true ha, Bool.true_and] at p0 p1
        refine ⟨fun hc => absurd hc (by decide), fun _ => ?_⟩
        cases hu : bt (occ (sL s)) (2 * i) with
        | false =>
          rw [hu] at p0 p1
          cases hd : bt (occ (sL s)) (2 * i + 1) with
          | false =>
            rw [hd] at p0 p1
            rw [fdF_f p0, fdF_f p1] at nx
            exact ⟨fun _ => nx, fun hc => absurd rfl hc⟩
          | true =>
            rw [hd] at p0 p1
            rw [fdF_f p0, fdF_t p1] at nx
            exact ⟨fun hc => absurd hc (by decide), fun _ => ⟨fun _ => nx, fun hc => absurd rfl hc⟩⟩
        | true =>
          rw [hu] at p0 p1
          cases hd : bt (occ (sL s)) (2 * i + 1) with
          | false =>
            rw [hd] at p0 p1
            rw [fdF_t p0] at nx
            exact ⟨fun hc => absurd hc (by decide), fun _ => ⟨fun hc => absurd hc (by decide), fun _ => nx⟩⟩
          | true =>
            rw [hd] at p0 p1
            rw [fdF_f p0, fdF_f p1] at nx
            exact ⟨fun _ => nx, fun hc => absurd rfl hc⟩
      · rw [if_neg ha]
        rw [decide_eq_false ha, Bool.false_and] at p0 p1
        rw [fdF_f p0, fdF_f p1] at nx
        exact ⟨fun _ => nx, fun hc => absurd rfl hc⟩
  have k0 := key (sV s) (Nat.le_refl _)
  rw [Nat.sub_self] at k0
  rw [h.V]
  exact k0
theorem r_pures (h0 : is10 g k) (h : rr_ M k s) (hI : Inv s) : kX10_pures k g M (fun v M' => rr_ M' k (it pureF 2000 s).1 ∧ v = nI (it pureF 2000 s).2 ∧ fr_ (k + 1) (k + 2) M M') := by
  have key : ∀ n s M1 c, 10 - ina s < n → Inv s → rr_ M1 k s → fr_ (k + 1) (k + 2) M M1 → LX10_pures_7 k (nI c) (oN (pu s)) g M1 (fun v M' => rr_ M' k (it pureF n s).1 ∧ v = nI (c + (it pureF n s).2) ∧ fr_ (k + 1) (k + 2) M M') := by
    intro n
    induction n with
    | zero => intro s M1 c hn; omega
    | succ n ih =>
      intro s M1 c hn hI h hf
      cases e : pu s with
      | none =>
        refine bX10_pures_7 h0 ⟨fun _ => ?_, fun hx => absurd rfl hx⟩
        rw [it_none (show pureF s = none by unfold pureF; rw [e]; rfl)]
        exact ⟨h, rfl, hf⟩
      | some l =>
        obtain ⟨u3, u4⟩ := pu_ok e
        have hV := hI.V10
        have es : pureF s = some (fixS s l) := by unfold pureF; rw [e]; rfl
        refine bX10_pures_7 h0 ⟨fun hx => absurd hx (nI_m1 (by omega)), fun _ => ⟨_, r_fixes h0 h (l := l) (by omega) (ina_r hI u3 u4), fun M4 hq => ?_⟩⟩
        obtain ⟨i1, i2⟩ := inv_fix hI u3 u4
        have hlt := ina_lt (s := s) (v := l / 2) (by omega) u4
        refine ⟨_, r_purest h0 hq.1, fun v5 M5 hq5 => ?_⟩
        obtain ⟨rfl, rfl⟩ := hq5
        rw [nI_1, it_some es]
        have nx := ih _ M5 (c + 1) (by omega) i1 hq.1 (hf.tr hq.2)
        rw [Nat.add_assoc, Nat.add_comm 1] at nx
        exact nx
  refine eX10_pures h0 ⟨_, r_purest h0 h, fun v1 M1 hq => ?_⟩
  obtain ⟨rfl, rfl⟩ := hq
  have k0 := key 2000 s M1 0 (by omega) hI h fr_.rf
  rw [Nat.zero_add] at k0
  exact k0
end UNI
