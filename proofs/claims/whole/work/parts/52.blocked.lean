/-! BLOCKED CLAUSES -/
def f2 (K : Nat → Option Nat) (n : Nat) : Option Nat := fdF (fun k => (K k).isSome) n 0
theorem f2_no {K : Nat → Option Nat} {n : Nat} (h : ∀ t, t < n → K t = none) : f2 K n = none := fdF_none' (fun t _ ht => by show (K t).isSome = false; rw [h t (by omega)]; rfl)
theorem f2_at {K : Nat → Option Nat} {n i l : Nat} (hi : i < n) (h : ∀ t, t < i → K t = none) (h2 : K i = some l) : f2 K n = some i := fdF_some' (Nat.zero_le _) (by omega) (by show (K i).isSome = true; rw [h2]; rfl) (fun t _ ht => by show (K t).isSome = false; rw [h t ht]; rfl)
theorem f2_ok {K : Nat → Option Nat} {n k : Nat} (h : f2 K n = some k) : k < n ∧ (∃ l, K k = some l) ∧ ∀ t, t < k → K t = none := by
  obtain ⟨_, h2, h3, h4⟩ := fdF_some h
  refine ⟨by omega, ?_, fun t ht => ?_⟩
  · cases e : K k with
    | none => rw [e] at h3; cases h3
    | some l => exact ⟨l, rfl⟩
  · have := h4 t (Nat.zero_le _) ht
    cases e : K t with
    | none => rfl
    | some l => rw [e] at this; cases this
theorem nof {x : Int32} (h : tv x = false) {i : Nat} (hi : i < 20) (hb : bt x i = true) : bt x (fl i) = false := by
  cases e : bt x (fl i) with
  | false => rfl
  | true => rw [(tv_iff x).mpr ⟨i, hi, hb, e⟩] at h; cases h
/-- the resolvent has no pair of complements: the other clause does not clash -/
theorem clash {x c : Int32} {l : Nat} (hx : tv x = false) (hc : tv c = false) (hl : l < 20) : tv ((x &&& (bi l ^^^ (-1))) ||| (c &&& (bi (fl l) ^^^ (-1)))) = false ↔ c &&& ng (x &&& (bi l ^^^ (-1))) = 0 := by
  have hf := fl32 hl
  obtain ⟨y, ey⟩ : ∃ y, y = x &&& (bi l ^^^ (-1)) := ⟨_, rfl⟩
  have hy : ∀ i, i < 32 → bt y i = (bt x i && !decide (i = l)) := fun i hi => by rw [ey, b_and, b_not hi, b_bi (by omega) hi]
  have hu : ∀ i, i < 32 → bt (y ||| (c &&& (bi (fl l) ^^^ (-1)))) i = (bt y i || (bt c i && !decide (i = fl l))) := fun i hi => by rw [b_or, b_and, b_not hi, b_bi (by omega) hi]
  rw [← ey]
  have main : tv (y ||| (c &&& (bi (fl l) ^^^ (-1)))) = true ↔ ¬ c &&& ng y = 0 := by
    rw [tv_iff, bnz]
    constructor
    · rintro ⟨i, hi, h1, h2⟩
      have hfi := fl32 hi
      rw [hu i (by omega)] at h1
      rw [hu _ (by omega)] at h2
      have hxy : ∀ j, j < 32 → bt y j = true → bt x j = true := fun j hj hb => by rw [hy j hj, Bool.and_eq_true] at hb; exact hb.1
      cases a1 : bt y i with
      | true =>
        have := nof hx hi (hxy i (by omega) a1)
        cases a2 : bt y (fl i) with
        | true => rw [hxy _ (by omega) a2] at this; cases this
        | false =>
          rw [a2, Bool.false_or, Bool.and_eq_true] at h2
          refine ⟨fl i, by omega, ?_⟩
          rw [b_and, h2.1, b_ng _ (by omega), fl_fl, a1, decide_eq_true hfi]; rfl
      | false =>
        rw [a1, Bool.false_or, Bool.and_eq_true] at h1
        cases a2 : bt y (fl i) with
        | true =>
          refine ⟨i, by omega, ?_⟩
          rw [b_and, h1.1, b_ng _ (by omega), a2, decide_eq_true hi]; rfl
        | false =>
          rw [a2, Bool.false_or, Bool.and_eq_true] at h2
          have := nof hc hi h1.1
          rw [h2.1] at this; cases this
    · rintro ⟨i, hi, h⟩
      rw [b_and, b_ng _ hi] at h
      simp only [Bool.and_eq_true, decide_eq_true_eq] at h
      obtain ⟨h1, h2, h3⟩ := h
      have hfi := fl32 h2
      refine ⟨i, h2, ?_, ?_⟩
      · have : i ≠ fl l := by
          intro e
          rw [e, fl_fl, hy l (by omega), decide_eq_true rfl] at h3
          simp at h3
        rw [hu i hi, h1, decide_eq_false this]; simp
      · rw [hu _ (by omega), h3]; rfl
  constructor
  · intro h
    refine Classical.byContradiction (fun hn => ?_)
    rw [main.mpr hn] at h; cases h
  · intro h
    cases e : tv (y ||| (c &&& (bi (fl l) ^^^ (-1)))) with
    | false => rfl
    | true => exact absurd h (main.mp e)
def blP (L : List Int32) (k l i : Nat) : Bool := bt (L.getD i 0) (fl l) && !tv ((L.getD k 0 &&& (bi l ^^^ (-1))) ||| (L.getD i 0 &&& (bi (fl l) ^^^ (-1))))
def bl (L : List Int32) (k l : Nat) : Bool := bt (L.getD k 0) l && !anA (blP L k l) L.length
def blK (L : List Int32) (k : Nat) : Option Nat := fdF (bl L k) 20 0
def blI (L : List Int32) : Option Nat := f2 (blK L) L.length
def blS (s : sg) (k l : Nat) : sg := uL (pushS s ((sL s).getD k 0) (nI l)) ((sL s).eraseIdx k)
def blF (s : sg) : Option sg := if 120 ≤ (sR s).length then none else match blI (sL s) with
  | none => none
  | some k => (blK (sL s) k).map (blS s k)
theorem blF_full {s : sg} (h : 120 ≤ (sR s).length) : blF s = none := if_pos h
theorem blF_none {s : sg} (h : blI (sL s) = none) : blF s = none := by
  unfold blF
  split
  · rfl
  · simp only [h]
theorem blF_some {s : sg} (h : ¬ 120 ≤ (sR s).length) {k l : Nat} (h1 : blI (sL s) = some k) (h2 : blK (sL s) k = some l) : blF s = some (blS s k l) := by
  unfold blF
  rw [if_neg h]
  simp only [h1, h2]; rfl
theorem blK_ok {L : List Int32} {k l : Nat} (h : blK L k = some l) : l < 20 ∧ bt (L.getD k 0) l = true := by
  obtain ⟨_, h2, h3, _⟩ := fdF_some h
  unfold bl at h3
  rw [Bool.and_eq_true] at h3
  exact ⟨by omega, h3.1⟩
theorem mem_erase {L : List Int32} {i : Nat} {c : Int32} (h : c ∈ L.eraseIdx i) : c ∈ L := List.mem_of_mem_eraseIdx h
theorem inv_push {s : sg} (h : Inv s) (hr : (sR s).length < 120) (x : Int32) {l : Nat} (hl : l < 20) : Inv (pushS s x (nI l)) := by
  refine ⟨h.1, h.2.1, h.2.2.1, h.2.2.2.1, ?_, h.2.2.2.2.2.1, ?_, h.2.2.2.2.2.2.2.1, h.2.2.2.2.2.2.2.2⟩
  · show (sR s ++ [(x, nI l)]).length ≤ 120 + 2 * ina s
    rw [List.length_append]; show (sR s).length + 1 ≤ _; omega
  · intro r hr
    rcases List.mem_append.mp hr with q | q
    · exact h.wit r q
    · have : r = (x, nI l) := by simpa using q
      exact ⟨l, hl, by rw [this]⟩
theorem inv_erase {s : sg} (h : Inv s) (hb : sL s ≠ [0]) (k : Nat) : Inv (uL s ((sL s).eraseIdx k)) := inv_uL h hb (Or.inr ⟨fun c hc => h.ok' hb c (mem_erase hc), List.length_eraseIdx_le _ _⟩)
theorem blS_inv {s : sg} (h : Inv s) (hr : ¬ 120 ≤ (sR s).length) {k l : Nat} (hk : k < (sL s).length) (hl : l < 20) (hb : bt ((sL s).getD k 0) l = true) : Inv (blS s k l) ∧ (sL (blS s k l)).length < (sL s).length := by
  refine ⟨inv_erase (s := pushS s ((sL s).getD k 0) (nI l)) (inv_push h (by omega) _ hl) (ne0_of_bt hk hb) k, ?_⟩
  show ((sL s).eraseIdx k).length < _
  rw [List.length_eraseIdx, if_pos hk]; omega
theorem blF_inv {s s' : sg} (h : Inv s) (hf : blF s = some s') : Inv s' ∧ (sL s').length < (sL s).length := by
  by_cases hr : 120 ≤ (sR s).length
  · rw [blF_full hr] at hf; cases hf
  · cases e : blI (sL s) with
    | none => rw [blF_none e] at hf; cases hf
    | some k =>
      obtain ⟨h1, ⟨l, h2⟩, _⟩ := f2_ok e
      rw [blF_some hr e h2] at hf; cases hf
      exact blS_inv h hr h1 (blK_ok h2).1 (blK_ok h2).2
section BLO
variable {g : mj_S} {M : mj_M} {k kt n : Nat} {s : sg} {L : List Int32}
theorem c_isBlocking (h0 : is0 g k n) (h : cl_ M k n L) (hn : nice L) {j l : Nat} (hj : j < L.length) (hl : l < 20) : kX9_isBlocking k (L.getD j 0) (nI l) g M (fun v M' => M' = M ∧ v = if anA (blP L j l) L.length then 0 else 1) := by
  have hlt := h.lt
  have hf := fl32 hl
  refine eX9_isBlocking h0 ⟨_, c_complements _, fun v1 M1 hq => ?_⟩
  obtain ⟨rfl, rfl⟩ := hq
  have key : ∀ m i, i + m = L.length → anA (blP L j l) i = false → LX9_isBlocking_14 k n (nI l) (ng (L.getD j 0 &&& (bi l ^^^ (-1)))) (nI i) g M1 (fun v M' => M' = M1 ∧ v = if anA (blP L j l) L.length then 0 else 1) := by
    intro m
    induction m with
    | zero =>
      intro i hi hno
      refine bX9_isBlocking_14 h0 ⟨_, c_size h0 h, fun v1 M2 hq => ?_⟩
      obtain ⟨rfl, rfl⟩ := hq
      refine ⟨fun _ => ⟨rfl, ?_⟩, fun hc => absurd (nI_le (by omega) (by omega)) hc⟩
      rw [show i = L.length by omega] at hno
      rw [hno]; rfl
    | succ m ih =>
      intro i hi hno
      have nx := ih (i + 1) (by omega)
      rw [anA_s, hno, Bool.false_or] at nx
      have hcl := clash (hn _ (gd_mem hj)).1 (hn _ (gd_mem (show i < L.length by omega))).1 hl
      refine bX9_isBlocking_14 h0 ⟨_, c_size h0 h, fun v1 M2 hq => ?_⟩
      obtain ⟨rfl, rfl⟩ := hq
      refine ⟨fun hc => absurd hc (nI_ge (by omega) hlt), fun _ => ⟨_, c_at h0 h (i := i) (by omega), fun v2 M3 hq => ?_⟩⟩
      obtain ⟨rfl, rfl⟩ := hq
      rw [xor1 l hl, nI_1]
      refine ⟨_, c_contains _ (show fl l < 32 by omega), fun v3 M4 hq => ?_⟩
      obtain ⟨rfl, rfl⟩ := hq
      refine ⟨fun hc => nx (by unfold blP; rw [(if01 _).1.mp hc]; rfl), fun hc => ⟨fun hd => nx ?_, fun hd => ⟨rfl, ?_⟩⟩⟩
      · have e : tv ((L.getD j 0 &&& (bi l ^^^ (-1))) ||| (L.getD i 0 &&& (bi (fl l) ^^^ (-1)))) = true := by
          cases e : tv ((L.getD j 0 &&& (bi l ^^^ (-1))) ||| (L.getD i 0 &&& (bi (fl l) ^^^ (-1)))) with
          | true => rfl
          | false => exact absurd (hcl.mp e) hd
        unfold blP; rw [e]; simp
      · rw [anA_t (i := i) (by omega) (by unfold blP; rw [hcl.mpr hd, (if01 _).2.mp hc]; rfl)]; rfl
  exact key L.length 0 (by omega) rfl
theorem c_lowestBlocking (h0 : is0 g k n) (h : cl_ M k n L) (hn : nice L) {j : Nat} (hj : j < L.length) : kX9_lowestBlocking k (nI j) g M (fun v M' => M' = M ∧ v = oN (blK L j)) := by
  have hlt := h.lt
  refine eX9_lowestBlocking h0 ⟨_, c_at h0 h (i := j) (by omega), fun v1 M1 hq => ?_⟩
  obtain ⟨rfl, rfl⟩ := hq
  have key : ∀ m l, l + m = 20 → LX9_lowestBlocking_8 k n (L.getD j 0) (nI l) g M1 (fun v M' => M' = M1 ∧ v = oN (fdF (bl L j) m l)) := by
    intro m
    induction m with
    | zero =>
      intro l hl
      exact bX9_lowestBlocking_8 h0 ⟨fun _ => ⟨rfl, rfl⟩, fun hc => absurd (by rw [show l = 20 by omega]; decide) hc⟩
    | succ m ih =>
      intro l hl
      have nx := ih (l + 1) (by omega)
      refine bX9_lowestBlocking_8 h0 ⟨fun hc => ?_, fun _ => ⟨_, c_contains _ (show l < 32 by omega), fun v2 M2 hq => ?_⟩⟩
      · rw [show (20 : Int32) = nI 20 from rfl, nI_leI (by decide) (by omega)] at hc; omega
      · obtain ⟨rfl, rfl⟩ := hq
        rw [nI_1]
        refine ⟨fun hc => ?_, fun hc => ⟨_, c_isBlocking h0 h hn hj (show l < 20 by omega), fun v3 M3 hq => ?_⟩⟩
        · rw [fdF_f (show bl L j l = false by unfold bl; rw [(if01 _).1.mp hc]; rfl)]; exact nx
        · obtain ⟨rfl, rfl⟩ := hq
          cases e : anA (blP L j l) L.length with
          | true =>
            refine ⟨fun _ => ?_, fun hd => absurd rfl hd⟩
            rw [fdF_f (show bl L j l = false by unfold bl; rw [e]; simp)]; exact nx
          | false =>
            refine ⟨fun hd => absurd hd (by decide), fun _ => ⟨rfl, ?_⟩⟩
            rw [fdF_t (show bl L j l = true by unfold bl; rw [e, (if01 _).2.mp hc]; rfl)]; rfl
  exact key 20 0 (by omega)
theorem c_removeFirstBlocked (ht : is7 g kt) (h0 : is6 g k) (h : rc_ M k s) (hI : Inv s) (hr : (sR s).length < 140) : kX7_removeFirstBlocked kt k g M (fun v M' => (blI (sL s) = none → M' = M ∧ v = 0) ∧ ∀ i l, blI (sL s) = some i → blK (sL s) i = some l → rc_ M' k (blS s i l) ∧ v = 1 ∧ fr_ k (k + 10) M M') := by
  have hL := h.2.2.2.1
  have h48 := hI.L48
  refine eX7_removeFirstBlocked ht h0 ?_
  have key : ∀ m i, i + m = (sL s).length → (∀ t, t < i → blK (sL s) t = none) → LX7_removeFirstBlocked_2 kt k (nI i) g M (fun v M' => (blI (sL s) = none → M' = M ∧ v = 0) ∧ ∀ i l, blI (sL s) = some i → blK (sL s) i = some l → rc_ M' k (blS s i l) ∧ v = 1 ∧ fr_ k (k + 10) M M') := by
    intro m
    induction m with
    | zero =>
      intro i hi hno
      refine bX7_removeFirstBlocked_2 ht h0 ⟨_, c_size h0.2.1.2 hL, fun v1 M2 hq => ?_⟩
      obtain ⟨rfl, rfl⟩ := hq
      have : blI (sL s) = none := f2_no (fun t ht => hno t (by omega))
      exact ⟨fun _ => ⟨fun _ => ⟨rfl, rfl⟩, fun i l h1 => by (rw [this] at h1; cases h1)⟩, fun hc => absurd (nI_le (by omega) (by omega)) hc⟩
    | succ m ih =>
      intro i hi hno
      have hil : i < (sL s).length := by omega
      have nx := ih (i + 1) (by omega)
      refine bX7_removeFirstBlocked_2 ht h0 ⟨_, c_size h0.2.1.2 hL, fun v1 M2 hq => ?_⟩
      obtain ⟨rfl, rfl⟩ := hq
      refine ⟨fun hc => absurd hc (nI_ge (by omega) (by omega)), fun _ => ⟨_, c_lowestBlocking h0.2.1.2 hL hI.nice hil, fun v2 M3 hq => ?_⟩⟩
      obtain ⟨rfl, rfl⟩ := hq
      rw [nI_1]
      cases e : blK (sL s) i with
      | none =>
        refine ⟨fun _ => nx (fun t ht => ?_), fun hc => absurd rfl hc⟩
        by_cases et : t = i
        · rw [et]; exact e
        · exact hno t (by omega)
      | some l =>
        have l2 := (blK_ok e).1
        have eI : blI (sL s) = some i := f2_at hil hno e
        refine ⟨fun hc => absurd hc (nI_m1 (n := l) (by omega)), fun _ => ⟨_, c_at h0.2.1.2 hL (i := i) (by omega), fun v3 M4 hq => ?_⟩⟩
        obtain ⟨rfl, rfl⟩ := hq
        refine ⟨_, c_pushRow h0 h hr _ _, fun M5 hp => ⟨_, c_removeAt h0.2.1.2 hp.1.2.2.2.1 (i := i) hil, fun M6 hc => ⟨fun e => (by rw [eI] at e; cases e), fun i2 l2 e1 e2 => ?_⟩⟩⟩
        rw [eI] at e1; cases e1
        rw [e] at e2; cases e2
        exact ⟨hp.1.L hc.2 hc.1, rfl, hp.2.tr (hc.2.wd (by omega) (by omega))⟩
  exact key (sL s).length 0 (by omega) (fun t ht => absurd ht (Nat.not_lt_zero t))
theorem c_removeBlocked (ht : is7 g kt) (h0 : is6 g k) (h : rc_ M k s) (hI : Inv s) : kX7_removeBlocked kt k g M (fun v M' => rc_ M' k (it blF 2000 s).1 ∧ v = nI (it blF 2000 s).2 ∧ fr_ k (k + 10) M M') := by
  refine eX7_removeBlocked ht h0 ?_
  have key : ∀ n s M1 c, (sL s).length < n → c + n ≤ 2000 → Inv s → rc_ M1 k s → fr_ k (k + 10) M M1 → LX7_removeBlocked_4 kt k (nI c) (nI c) g M1 (fun v M' => rc_ M' k (it blF n s).1 ∧ v = nI (c + (it blF n s).2) ∧ fr_ k (k + 10) M M') := by
    intro n
    induction n with
    | zero => intro s M1 c hn; omega
    | succ n ih =>
      intro s M1 c hn hc hI h hf
      have h140 := h.2.2.2.2.2.2.2.2.1
      refine bX7_removeBlocked_4 ht h0 ⟨fun hx => ?_, fun _ => ?_⟩
      · rw [show (1000000 : Int32) = nI 1000000 from rfl, nI_leI (by decide) (by omega)] at hx; omega
      · rw [h.2.2.1, show (120 : Int32) = nI 120 from rfl, nI_leI (by decide) (by omega)]
        refine ⟨fun hx => ?_, fun hx => ⟨_, c_removeFirstBlocked ht h0 h hI (by omega), fun v1 M2 hq => ?_⟩⟩
        · rw [it_none (blF_full hx)]
          exact ⟨h, rfl, hf⟩
        · cases e : blI (sL s) with
          | none =>
            obtain ⟨rfl, rfl⟩ := hq.1 e
            refine ⟨fun hx => absurd rfl hx, fun _ => ?_⟩
            rw [it_none (blF_none e)]
            exact ⟨h, rfl, hf⟩
          | some i =>
            obtain ⟨_, ⟨l, e2⟩, _⟩ := f2_ok e
            obtain ⟨q1, rfl, q3⟩ := hq.2 i l e e2
            obtain ⟨i1, i2⟩ := blF_inv hI (blF_some hx e e2)
            refine ⟨fun _ => ?_, fun hx => absurd hx (by decide)⟩
            rw [nI_1, it_some (blF_some hx e e2)]
            have nx := ih _ M2 (c + 1) (by omega) (by omega) i1 q1 (hf.tr q3)
            rw [Nat.add_assoc, Nat.add_comm 1] at nx
            exact nx
  have k0 := key 2000 s M 0 (by have := hI.L48; omega) (by omega) hI h fr_.rf
  rw [Nat.zero_add] at k0
  exact k0
theorem r_isBlocking (h0 : is10 g k) (h : rr_ M k s) {j l : Nat} (hj : j < (sL s).length) (hl : l < 20) : kX10_isBlocking k (nI j) (nI l) g M (fun v M' => M' = M ∧ v = if bl (sL s) j l then 1 else 0) := by
  have h48 := h.n48
  have hf := fl32 hl
  refine eX10_isBlocking h0 ⟨_, r_clauseAt h0 h hj, fun v1 M1 hq => ?_⟩
  obtain ⟨rfl, rfl⟩ := hq
  refine ⟨_, r_has _ (show l < 32 by omega), fun v1 M2 hq => ?_⟩
  obtain ⟨rfl, rfl⟩ := hq
  refine ⟨_, r_clauseAt h0 h hj, fun v1 M3 hq => ?_⟩
  obtain ⟨rfl, rfl⟩ := hq
  have key : ∀ m i, i + m = (sL s).length → ∀ b, b = (bt ((sL s).getD j 0) l && !anA (blP (sL s) j l) i) → LX10_isBlocking_26 k (nI l) (if b then 1 else 0) ((sL s).getD j 0 &&& (bi l ^^^ (-1))) (nI i) g M3 (fun v M' => M' = M3 ∧ v = if bl (sL s) j l then 1 else 0) := by
    intro m
    induction m with
    | zero =>
      intro i hi b hb
      refine bX10_isBlocking_26 h0 ⟨fun _ => ⟨by cases b <;> decide, rfl, ?_⟩, fun hc => absurd (h.done (by omega)) hc⟩
      rw [hb, show i = (sL s).length by omega]; rfl
    | succ m ih =>
      intro i hi b hb
      have hil : i < (sL s).length := by omega
      have nx := ih (i + 1) (by omega)
      refine bX10_isBlocking_26 h0 ⟨fun hc => absurd hc (h.more hil), fun _ => ?_⟩
      rw [nI_1, xor1 l hl]
      refine ⟨fun hz => ⟨by cases b <;> decide, rfl, ?_⟩, fun hz => ⟨_, r_clauseAt h0 h hil, fun v1 M4 hq => ?_⟩⟩
      · have hbf := (if01 _).1.mp hz
        have : bl (sL s) j l = false := by
          unfold bl
          cases hb2 : bt ((sL s).getD j 0) l with
          | false => rfl
          | true =>
            rw [hb2, hbf, Bool.true_and] at hb
            have : anA (blP (sL s) j l) i = true := by
              cases e : anA (blP (sL s) j l) i with
              | true => rfl
              | false => rw [e] at hb; cases hb
            obtain ⟨t, ht, hp⟩ := anA_iff.mp this
            rw [anA_t (i := t) (by omega) hp]; rfl
        rw [this, hbf]
      · obtain ⟨rfl, rfl⟩ := hq
        have hbt := (if01 _).2.mp hz
        rw [hbt] at hb
        have hb1 := hb.symm
        rw [Bool.and_eq_true, Bool.not_eq_true'] at hb1
        rw [anA_s, hb1.1, hb1.2, Bool.true_and, Bool.false_or] at nx
        refine ⟨_, r_has _ (show fl l < 32 by omega), fun v1 M5 hq => ?_⟩
        obtain ⟨rfl, rfl⟩ := hq
        refine ⟨fun hc => nx true (by unfold blP; rw [(if01 _).1.mp hc]; rfl), fun hc => ⟨_, r_clauseAt h0 h hil, fun v1 M6 hq => ?_⟩⟩
        obtain ⟨rfl, rfl⟩ := hq
        refine ⟨_, r_isTrivial _, fun v1 M7 hq => ?_⟩
        obtain ⟨rfl, rfl⟩ := hq
        refine ⟨fun hd => nx false ?_, fun hd => nx true ?_⟩
        · have : tv (((sL s).getD j 0 &&& (bi l ^^^ (-1))) ||| ((sL s).getD i 0 &&& (bi (fl l) ^^^ (-1)))) = false := (if01 _).1.mp hd
          unfold blP; rw [this, (if01 _).2.mp hc]; rfl
        · have : tv (((sL s).getD j 0 &&& (bi l ^^^ (-1))) ||| ((sL s).getD i 0 &&& (bi (fl l) ^^^ (-1)))) = true := (if01 _).2.mp hd
          unfold blP; rw [this, (if01 _).2.mp hc]; rfl
  exact key (sL s).length 0 (by omega) _ (by show _ = (bt ((sL s).getD j 0) l && !false); rw [show (!false) = true from rfl, Bool.and_true])
theorem r_blocking (h0 : is10 g k) (h : rr_ M k s) {j : Nat} (hj : j < (sL s).length) : kX10_blocking k (nI j) g M (fun v M' => M' = M ∧ v = oN (blK (sL s) j)) := by
  have key : ∀ i, i ≤ 20 → LX10_blocking_5 k (nI j) (oN (fdF (bl (sL s) j) (20 - i) i)) (nI i - 1) g M (fun v M' => M' = M ∧ v = oN (blK (sL s) j)) := by
    intro i
    induction i with
    | zero =>
      intro _
      exact bX10_blocking_5 h0 ⟨fun _ => ⟨rfl, rfl⟩, fun hc => absurd m1lt hc⟩
    | succ i ih =>
      intro hi
      have nx := ih (by omega)
      rw [show 20 - i = 20 - (i + 1) + 1 by omega] at nx
      rw [nI_pred]
      refine bX10_blocking_5 h0 ⟨fun hc => absurd hc (nI_pos (by omega)), fun _ => ⟨_, r_isBlocking h0 h hj (show i < 20 by omega), fun v1 M1 hq => ?_⟩⟩
      obtain ⟨rfl, rfl⟩ := hq
      rw [m1']
      refine ⟨fun hc => ?_, fun hc => ?_⟩
      · rw [fdF_f ((if01 _).1.mp hc)] at nx; exact nx
      · rw [fdF_t ((if01 _).2.mp hc)] at nx; exact nx
  exact eX10_blocking h0 (key 20 (Nat.le_refl _))
theorem r_firstBlocked (h0 : is10 g k) (h : rr_ M k s) : kX10_firstBlocked k g M (fun v M' => M' = M ∧ v = oN (blI (sL s))) := by
  have h48 := h.n48
  refine eX10_firstBlocked h0 ?_
  have key : ∀ m i, i + m = (sL s).length → (∀ t, t < i → blK (sL s) t = none) → LX10_firstBlocked_4 k (-1) (nI i) g M (fun v M' => M' = M ∧ v = oN (blI (sL s))) := by
    intro m
    induction m with
    | zero =>
      intro i hi hno
      refine bX10_firstBlocked_4 h0 ⟨fun _ => ⟨rfl, ?_⟩, fun hc => absurd (h.done (by omega)) hc⟩
      rw [show blI (sL s) = none from f2_no (fun t ht => hno t (by omega))]; rfl
    | succ m ih =>
      intro i hi hno
      have hil : i < (sL s).length := by omega
      refine bX10_firstBlocked_4 h0 ⟨fun hc => absurd hc (h.more hil), fun _ => ⟨fun hc => absurd rfl hc, fun _ => ⟨_, r_blocking h0 h hil, fun v1 M1 hq => ?_⟩⟩⟩
      obtain ⟨rfl, rfl⟩ := hq
      rw [nI_1]
      cases e : blK (sL s) i with
      | none =>
        refine ⟨fun hc => absurd rfl hc, fun _ => ih (i + 1) (by omega) (fun t ht => ?_)⟩
        by_cases et : t = i
        · rw [et]; exact e
        · exact hno t (by omega)
      | some l =>
        have l2 := (blK_ok e).1
        have eI : blI (sL s) = some i := f2_at hil hno e
        have fin : (fun v M' => M' = M1 ∧ v = oN (blI (sL s))) (nI i) M1 := ⟨rfl, by rw [eI]; rfl⟩
        refine ⟨fun _ => ?_, fun hc => absurd hc (nI_m1 (n := l) (by omega))⟩
        exact bX10_firstBlocked_4 h0 ⟨fun _ => fin, fun _ => ⟨fun _ => fin, fun hc => absurd hc (nI_m1 (by omega))⟩⟩
  exact key (sL s).length 0 (by omega) (fun t ht => absurd ht (Nat.not_lt_zero t))
theorem r_blocks (h0 : is10 g k) (h : rr_ M k s) (hI : Inv s) : kX10_blocks k g M (fun v M' => rr_ M' k (it blF 2000 s).1 ∧ v = nI (it blF 2000 s).2 ∧ fr_ (k + 1) (k + 2) M M') := by
  have key : ∀ f s M1 c, (sL s).length < f → Inv s → rr_ M1 k s → fr_ (k + 1) (k + 2) M M1 → LX10_blocks_7 k (nI c) (oN (blI (sL s))) g M1 (fun v M' => rr_ M' k (it blF f s).1 ∧ v = nI (c + (it blF f s).2) ∧ fr_ (k + 1) (k + 2) M M') := by
    intro f
    induction f with
    | zero => intro s M1 c hn; omega
    | succ f ih =>
      intro s M1 c hn hI h hf
      have h48 := hI.L48
      have h140 := h.r140
      cases e : blI (sL s) with
      | none =>
        refine bX10_blocks_7 h0 ⟨fun _ => ?_, fun hx => absurd rfl hx⟩
        rw [it_none (blF_none e)]
        exact ⟨h, rfl, hf⟩
      | some i =>
        obtain ⟨u1, ⟨l, e2⟩, _⟩ := f2_ok e
        refine bX10_blocks_7 h0 ⟨fun hx => absurd hx (nI_m1 (n := i) (by omega)), fun _ => ?_⟩
        rw [h.r, show (120 : Int32) = nI 120 from rfl, nI_leI (by decide) (by omega)]
        refine ⟨fun hx => ?_, fun hx => ⟨_, r_clauseAt h0 h u1, fun v1 M2 hq => ?_⟩⟩
        · rw [it_none (blF_full hx)]
          exact ⟨h, rfl, hf⟩
        · obtain ⟨rfl, rfl⟩ := hq
          obtain ⟨i1, i2⟩ := blF_inv hI (blF_some hx e e2)
          refine ⟨_, r_blocking h0 h u1, fun v1 M3 hq => ?_⟩
          obtain ⟨rfl, rfl⟩ := hq
          rw [e2]
          refine ⟨_, r_pushes h0 h (by omega) _ _, fun M4 hp => ⟨_, r_removes h0 hp.1 (i := i) u1, fun M5 hr => ⟨_, r_firstBlocked h0 hr.1, fun v5 M6 hq => ?_⟩⟩⟩
          obtain ⟨rfl, rfl⟩ := hq
          rw [nI_1, it_some (blF_some hx e e2)]
          have nx := ih _ M6 (c + 1) (by omega) i1 hr.1 ((hf.tr hp.2).tr hr.2)
          rw [Nat.add_assoc, Nat.add_comm 1] at nx
          exact nx
  refine eX10_blocks h0 ⟨_, r_firstBlocked h0 h, fun v1 M1 hq => ?_⟩
  obtain ⟨rfl, rfl⟩ := hq
  have k0 := key 2000 s M1 0 (by have := hI.L48; omega) hI h fr_.rf
  rw [Nat.zero_add] at k0
  exact k0
end BLO
