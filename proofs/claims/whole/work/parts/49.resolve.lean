/-! ELIMINATION, in words of lists -/
theorem sh1 : ∀ v, v < 10 → bi (2 * v) <<< ((1 : Int32) &&& 31) = bi (2 * v + 1) := by decide +kernel
theorem sh3 : ∀ v, v < 10 → (3 : Int32) <<< (nI (2 * v) &&& 31) = bi (2 * v) ||| bi (2 * v + 1) := by decide +kernel
def rsR (L : List Int32) (v i j : Nat) : Int32 := (L.getD i 0 ||| L.getD j 0) &&& ((bi (2 * v) ||| bi (2 * v + 1)) ^^^ (-1))
def rsC (L : List Int32) (v i j : Nat) (F : List Int32) : Bool := bt (L.getD j 0) (2 * v + 1) && (!tv (rsR L v i j) && !decide (rsR L v i j ∈ F))
def rsT (L : List Int32) (v i j : Nat) (F : List Int32) : List Int32 := if rsC L v i j F = true then F ++ [rsR L v i j] else F
def rsJ (L : List Int32) (v i : Nat) : Nat → List Int32 → List Int32
  | 0, F => F
  | m + 1, F => rsT L v i m (rsJ L v i m F)
def rsI (L : List Int32) (v : Nat) : Nat → List Int32
  | 0 => []
  | i + 1 => if bt (L.getD i 0) (2 * v) = true then rsJ L v i L.length (rsI L v i) else rsI L v i
def rs (L : List Int32) (v : Nat) : List Int32 := rsI L v L.length
theorem rsT_t {L : List Int32} {v i j : Nat} {F : List Int32} (h : rsC L v i j F = true) : rsT L v i j F = F ++ [rsR L v i j] := if_pos h
theorem rsT_f {L : List Int32} {v i j : Nat} {F : List Int32} (h : rsC L v i j F = false) : rsT L v i j F = F := if_neg (by rw [h]; decide)
theorem rsT_le {L : List Int32} {v i j : Nat} {F : List Int32} : F.length ≤ (rsT L v i j F).length := by
  unfold rsT
  split
  · rw [List.length_append]; omega
  · exact Nat.le_refl _
theorem rsJ_s {L : List Int32} {v i m : Nat} {F : List Int32} : rsJ L v i (m + 1) F = rsT L v i m (rsJ L v i m F) := rfl
theorem rsJ_le {L : List Int32} {v i : Nat} {F : List Int32} : ∀ {a b : Nat}, a ≤ b → (rsJ L v i a F).length ≤ (rsJ L v i b F).length
  | a, 0, h => by rw [show a = 0 by omega]; exact Nat.le_refl _
  | a, b + 1, h => by
    by_cases e : a = b + 1
    · rw [e]; exact Nat.le_refl _
    · exact Nat.le_trans (rsJ_le (show a ≤ b by omega)) rsT_le
theorem rsI_t {L : List Int32} {v i : Nat} (h : bt (L.getD i 0) (2 * v) = true) : rsI L v (i + 1) = rsJ L v i L.length (rsI L v i) := if_pos h
theorem rsI_f {L : List Int32} {v i : Nat} (h : bt (L.getD i 0) (2 * v) = false) : rsI L v (i + 1) = rsI L v i := if_neg (by rw [h]; decide)
/-- counting -/
def ct (L : List Int32) (j : Nat) : Nat := L.countP (fun c => bt c j)
theorem ct_tk {L : List Int32} {i j : Nat} (h : i < L.length) : ct (L.take (i + 1)) j = ct (L.take i) j + if bt (L.getD i 0) j then 1 else 0 := by
  unfold ct; rw [tk_succ h, List.countP_append, List.countP_singleton]
theorem ct_mono {L : List Int32} {j : Nat} : ∀ {a b : Nat}, a ≤ b → b ≤ L.length → ct (L.take a) j ≤ ct (L.take b) j
  | a, 0, h, _ => by rw [show a = 0 by omega]; exact Nat.le_refl _
  | a, b + 1, h, hb => by
    by_cases e : a = b + 1
    · rw [e]; exact Nat.le_refl _
    · have := ct_mono (L := L) (j := j) (show a ≤ b by omega) (by omega)
      rw [ct_tk (by omega)]; omega
theorem ct_le {L : List Int32} {j i : Nat} (hi : i ≤ L.length) : ct (L.take i) j ≤ ct L j := by
  have := ct_mono (L := L) (j := j) hi (Nat.le_refl _)
  rwa [List.take_length] at this
theorem ct_len {L : List Int32} {j : Nat} : ct L j ≤ L.length := List.countP_le_length
theorem ct_two {L : List Int32} {a b : Nat} (h : ∀ c, c ∈ L → ¬ (bt c a = true ∧ bt c b = true)) : ct L a + ct L b ≤ L.length := by
  induction L with
  | nil => exact Nat.le_refl _
  | cons c cs ih =>
    have := ih (fun d hd => h d (List.mem_cons_of_mem _ hd))
    have hc := h c List.mem_cons_self
    unfold ct at this ⊢
    rw [List.countP_cons, List.countP_cons, List.length_cons]
    cases ha : bt c a <;> cases hb : bt c b
    · simp; omega
    · simp; omega
    · simp; omega
    · exact absurd ⟨ha, hb⟩ hc
theorem nice_two {L : List Int32} (h : nice L) {v : Nat} (hv : v < 10) : ct L (2 * v) + ct L (2 * v + 1) ≤ L.length := by
  refine ct_two (fun c hc => ?_)
  rintro ⟨h1, h2⟩
  have := (tv_iff c).mpr ⟨2 * v, by omega, h1, by rw [show fl (2 * v) = 2 * v + 1 by unfold fl; rw [if_pos (by omega)]]; exact h2⟩
  rw [(h c hc).1] at this; cases this
theorem rsT_b {L : List Int32} {v i j : Nat} {F : List Int32} : (rsT L v i j F).length ≤ F.length + if bt (L.getD j 0) (2 * v + 1) then 1 else 0 := by
  unfold rsT
  split
  · rename_i h
    unfold rsC at h
    rw [Bool.and_eq_true] at h
    rw [h.1, List.length_append]; exact Nat.le_refl _
  · omega
theorem rsJ_b {L : List Int32} {v i : Nat} {F : List Int32} : ∀ {m : Nat}, m ≤ L.length → (rsJ L v i m F).length ≤ F.length + ct (L.take m) (2 * v + 1)
  | 0, _ => Nat.le_add_right _ _
  | m + 1, h => by
    have h1 := rsJ_b (L := L) (v := v) (i := i) (F := F) (show m ≤ L.length by omega)
    have h2 := rsT_b (L := L) (v := v) (i := i) (j := m) (F := rsJ L v i m F)
    rw [ct_tk (by omega)]
    show (rsT L v i m (rsJ L v i m F)).length ≤ _
    omega
theorem rsI_b {L : List Int32} {v : Nat} : ∀ {i : Nat}, i ≤ L.length → (rsI L v i).length ≤ ct (L.take i) (2 * v) * ct L (2 * v + 1)
  | 0, _ => Nat.zero_le _
  | i + 1, h => by
    have h1 := rsI_b (L := L) (v := v) (show i ≤ L.length by omega)
    rw [ct_tk (by omega)]
    cases hb : bt (L.getD i 0) (2 * v) with
    | true =>
      rw [rsI_t hb]
      have h2 := rsJ_b (L := L) (v := v) (i := i) (F := rsI L v i) (Nat.le_refl _)
      rw [List.take_length] at h2
      rw [if_pos rfl, Nat.add_mul, Nat.one_mul]; omega
    | false =>
      rw [rsI_f hb, if_neg (by decide)]; exact h1
theorem mul48 : ∀ a, a ≤ 48 → ∀ b, b ≤ 48 → a + b ≤ 48 → a * b ≤ 576 := by decide +kernel
theorem rs_room {L : List Int32} (hn : nice L) (h48 : L.length ≤ 48) {v i j : Nat} (hv : v < 10) (hi : i < L.length) (hj : j < L.length) (hbi : bt (L.getD i 0) (2 * v) = true) (hbj : bt (L.getD j 0) (2 * v + 1) = true) : (rsJ L v i j (rsI L v i)).length < 576 := by
  have h1 := rsI_b (L := L) (v := v) (Nat.le_of_lt hi)
  have h2 := rsJ_b (L := L) (v := v) (i := i) (F := rsI L v i) (Nat.le_of_lt hj)
  have h3 := ct_tk (j := 2 * v) hi
  have h4 := ct_tk (j := 2 * v + 1) hj
  rw [hbi, if_pos rfl] at h3
  rw [hbj, if_pos rfl] at h4
  have h5 := ct_le (L := L) (j := 2 * v) (i := i + 1) (by omega)
  have h6 := ct_le (L := L) (j := 2 * v + 1) (i := j + 1) (by omega)
  have h7 := nice_two hn hv
  have h8 := mul48 (ct L (2 * v)) (by omega) (ct L (2 * v + 1)) (by omega) (by omega)
  have h9 : (ct (L.take i) (2 * v) + 1) * ct L (2 * v + 1) ≤ ct L (2 * v) * ct L (2 * v + 1) := Nat.mul_le_mul_right _ (by omega)
  rw [Nat.add_mul, Nat.one_mul] at h9
  omega
theorem rs_576 {L : List Int32} (hn : nice L) (h48 : L.length ≤ 48) {v : Nat} (hv : v < 10) : (rs L v).length ≤ 576 := by
  have h1 := rsI_b (L := L) (v := v) (Nat.le_refl _)
  rw [List.take_length] at h1
  have h7 := nice_two hn hv
  have h8 := mul48 (ct L (2 * v)) (by omega) (ct L (2 * v + 1)) (by omega) (by omega)
  exact Nat.le_trans h1 h8
/-- each resolvent has no pair of complements, and its literals are those of clauses, but for the variable -/
theorem rsJ_mem {L : List Int32} {v i : Nat} {F : List Int32} {P : Int32 → Prop} (hF : ∀ c, c ∈ F → P c) : ∀ {m : Nat}, (∀ j, j < m → tv (rsR L v i j) = false → P (rsR L v i j)) → ∀ c, c ∈ rsJ L v i m F → P c
  | 0, _, c, hc => hF c hc
  | m + 1, h, c, hc => by
    have ih := rsJ_mem (L := L) (v := v) (i := i) (F := F) hF (m := m) (fun j hj => h j (by omega))
    rw [rsJ_s] at hc
    cases e : rsC L v i m (rsJ L v i m F) with
    | false => rw [rsT_f e] at hc; exact ih c hc
    | true =>
      rw [rsT_t e] at hc
      rcases List.mem_append.mp hc with q | q
      · exact ih c q
      · rw [show c = rsR L v i m by simpa using q]
        unfold rsC at e
        simp only [Bool.and_eq_true, Bool.not_eq_true'] at e
        exact h m (by omega) e.2.1
theorem rsI_mem {L : List Int32} {v : Nat} {P : Int32 → Prop} : ∀ {n : Nat}, n ≤ L.length → (∀ i j, i < L.length → j < L.length → tv (rsR L v i j) = false → P (rsR L v i j)) → ∀ c, c ∈ rsI L v n → P c
  | 0, _, _, c, hc => by cases hc
  | n + 1, hn, h, c, hc => by
    have ih := rsI_mem (L := L) (v := v) (P := P) (n := n) (by omega) h
    cases e : bt (L.getD n 0) (2 * v) with
    | false => rw [rsI_f e] at hc; exact ih c hc
    | true =>
      rw [rsI_t e] at hc
      exact rsJ_mem ih (fun j hj ht => h n j (by omega) hj ht) c hc
theorem rsR_bt {L : List Int32} {v i j t : Nat} (hv : v < 10) (ht : t < 32) : bt (rsR L v i j) t = ((bt (L.getD i 0) t || bt (L.getD j 0) t) && !decide (t / 2 = v)) := by
  unfold rsR
  rw [b_and, b_or, b_not ht, b_or, b_bi (by omega) ht, b_bi (by omega) ht, ← Bool.decide_or]
  rw [show decide (t = 2 * v ∨ t = 2 * v + 1) = decide (t / 2 = v) from decide_eq_decide.mpr (by omega)]
/-- what elimination of a variable does -/
def gN (s : sg) : Nat := (sG s).toNatClampNeg
theorem Inv.grow {s : sg} (h : Inv s) : sG s = nI (gN s) ∧ gN s ≤ 8 := by
  obtain ⟨n, h1, h2⟩ := h.2.1
  have : gN s = n := by unfold gN; rw [h2]; exact nI_clamp (by omega)
  rw [this]; exact ⟨h2, h1⟩
def al (s : sg) (v : Nat) : Nat := ct (sL s) (2 * v) + ct (sL s) (2 * v + 1)
def me (s : sg) (v : Nat) : Bool := decide (sS s v = 0) && (decide (0 < al s v) && (decide ((rs (sL s) v).length ≤ al s v + gN s) && (decide ((sL s).length - al s v + (rs (sL s) v).length ≤ 48) && decide ((sR s).length + ct (sL s) (2 * v) ≤ 120))))
theorem me_iff {s : sg} {v : Nat} : me s v = true ↔ sS s v = 0 ∧ 0 < al s v ∧ (rs (sL s) v).length ≤ al s v + gN s ∧ (sL s).length - al s v + (rs (sL s) v).length ≤ 48 ∧ (sR s).length + ct (sL s) (2 * v) ≤ 120 := by
  unfold me; simp only [Bool.and_eq_true, decide_eq_true_eq]
def elR (s : sg) (v : Nat) : List (Int32 × Int32) := sR s ++ ((sL s).filter (fun c => bt c (2 * v))).map (fun c => (c, nI (2 * v)))
def elL (s : sg) (v : Nat) : List Int32 := (sL s).filter (fun c => decide (c &&& (bi (2 * v) ||| bi (2 * v + 1)) = 0))
def el0 (s : sg) (v : Nat) : sg := uS (uL (uR s (elR s v)) (elL s v)) v 2 (-1)
def elS (s : sg) (v : Nat) : sg := (rs (sL s) v).foldl inc (el0 s v)
def cost (s : sg) (v : Nat) : Int32 := (nI (rs (sL s) v).length - nI (ct (sL s) (2 * v))) - nI (ct (sL s) (2 * v + 1))
def ch (s : sg) : Nat → Option (Nat × Int32)
  | 0 => none
  | i + 1 => if me s i = true then (match ch s i with
    | none => some (i, cost s i)
    | some (b, c) => if c ≤ cost s i then some (b, c) else some (i, cost s i)) else ch s i
theorem ch_f {s : sg} {i : Nat} (h : me s i = false) : ch s (i + 1) = ch s i := if_neg (by rw [h]; decide)
theorem ch_t0 {s : sg} {i : Nat} (h : me s i = true) (h2 : ch s i = none) : ch s (i + 1) = some (i, cost s i) := by
  show (if me s i = true then _ else _) = _
  rw [if_pos h, h2]
theorem ch_t1 {s : sg} {i b : Nat} {c : Int32} (h : me s i = true) (h2 : ch s i = some (b, c)) : ch s (i + 1) = if c ≤ cost s i then some (b, c) else some (i, cost s i) := by
  show (if me s i = true then _ else _) = _
  rw [if_pos h, h2]
theorem ch_ok {s : sg} : ∀ {n b : Nat} {c : Int32}, ch s n = some (b, c) → b < n ∧ me s b = true
  | 0, _, _, h => by cases h
  | n + 1, b, c, h => by
    cases e : me s n with
    | false =>
      rw [ch_f e] at h
      have := ch_ok h
      exact ⟨by omega, this.2⟩
    | true =>
      cases e2 : ch s n with
      | none => rw [ch_t0 e e2] at h; cases h; exact ⟨by omega, e⟩
      | some p =>
        obtain ⟨b2, c2⟩ := p
        rw [ch_t1 e e2] at h
        split at h
        · cases h
          have := ch_ok e2
          exact ⟨by omega, this.2⟩
        · cases h; exact ⟨by omega, e⟩
def elF (s : sg) : Option sg := (ch s (sV s)).map (fun p => elS s p.1)
/-- lists only grow by one -/
theorem inc_V (s : sg) (x : Int32) : inc s x = uL s (sL (inc s x)) := by
  unfold inc
  split
  · rfl
  · split <;> rfl
theorem inc_le {s : sg} {x : Int32} (hL : sL s ≠ [0] → True) : (sL (inc s x)).length ≤ (sL s).length + 1 := by
  unfold inc
  split
  · exact Nat.le_add_right _ _
  · split
    · show 1 ≤ _; omega
    · show (sL s ++ [x]).length ≤ _; rw [List.length_append]; exact Nat.le_refl _
theorem foldl_inc_uL : ∀ (F : List Int32) (s : sg), F.foldl inc s = uL s (sL (F.foldl inc s))
  | [], _ => rfl
  | x :: F, s => by
    show F.foldl inc (inc s x) = uL s (sL (F.foldl inc (inc s x)))
    have e2 : ∀ A, uL (inc s x) A = uL s A := fun A => by rw [inc_V s x]; rfl
    exact (foldl_inc_uL F (inc s x)).trans (e2 _)
theorem inc_ok {s : sg} {V : Nat} {S : Nat → Int32} {x : Int32} (h : sL s = [0] ∨ ∀ c, c ∈ sL s → okv V S c) (hx : x ≠ 0 → okv V S x) : sL (inc s x) = [0] ∨ ∀ c, c ∈ sL (inc s x) → okv V S c := by
  unfold inc
  split
  · exact h
  · rename_i hb
    split
    · exact Or.inl rfl
    · rename_i hz
      refine Or.inr (fun c hc => ?_)
      have hc' : c ∈ sL s ++ [x] := hc
      rcases List.mem_append.mp hc' with q | q
      · rcases h with e | e
        · exact absurd e hb
        · exact e c q
      · rw [show c = x by simpa using q]; exact hx hz
theorem foldl_inc_ok {V : Nat} {S : Nat → Int32} : ∀ (F : List Int32) (s : sg), (sL s = [0] ∨ ∀ c, c ∈ sL s → okv V S c) → (∀ x, x ∈ F → x ≠ 0 → okv V S x) → (sL (F.foldl inc s) = [0] ∨ ∀ c, c ∈ sL (F.foldl inc s) → okv V S c) ∧ (sL (F.foldl inc s)).length ≤ (sL s).length + F.length
  | [], s, h, _ => ⟨h, Nat.le_refl _⟩
  | x :: F, s, h, hF => by
    have h1 := inc_ok (x := x) h (hF x List.mem_cons_self)
    have h2 := foldl_inc_ok F (inc s x) h1 (fun y hy => hF y (List.mem_cons_of_mem _ hy))
    have h3 := inc_le (s := s) (x := x) (fun _ => trivial)
    refine ⟨h2.1, Nat.le_trans h2.2 ?_⟩
    rw [List.length_cons]; omega
theorem b3_iff {c : Int32} {v : Nat} (hv : v < 10) : c &&& (bi (2 * v) ||| bi (2 * v + 1)) = 0 ↔ bt c (2 * v) = false ∧ bt c (2 * v + 1) = false := by
  rw [bz]
  have hb : ∀ i, i < 32 → bt (c &&& (bi (2 * v) ||| bi (2 * v + 1))) i = (bt c i && (decide (i = 2 * v) || decide (i = 2 * v + 1))) := fun i hi => by rw [b_and, b_or, b_bi (by omega) hi, b_bi (by omega) hi]
  constructor
  · intro h
    have h1 := h (2 * v) (by omega)
    have h2 := h (2 * v + 1) (by omega)
    rw [hb _ (by omega)] at h1 h2
    simp at h1 h2
    exact ⟨h1, h2⟩
  · rintro ⟨h1, h2⟩ i hi
    rw [hb i hi]
    by_cases e1 : i = 2 * v
    · rw [e1, h1]; rfl
    · by_cases e2 : i = 2 * v + 1
      · rw [e2, h2]; rfl
      · rw [decide_eq_false e1, decide_eq_false e2]; simp
theorem el_len {L : List Int32} (hn : nice L) {v : Nat} (hv : v < 10) : (L.filter (fun c => decide (c &&& (bi (2 * v) ||| bi (2 * v + 1)) = 0))).length + (ct L (2 * v) + ct L (2 * v + 1)) = L.length := by
  induction L with
  | nil => rfl
  | cons c cs ih =>
    have := ih (fun d hd => hn d (List.mem_cons_of_mem _ hd))
    have hc := hn c List.mem_cons_self
    unfold ct at this ⊢
    rw [List.countP_cons, List.countP_cons, List.length_cons]
    by_cases hz : c &&& (bi (2 * v) ||| bi (2 * v + 1)) = 0
    · rw [List.filter_cons_of_pos (by simpa using hz), List.length_cons]
      obtain ⟨h1, h2⟩ := (b3_iff hv).mp hz
      rw [h1, h2]; simp; omega
    · rw [List.filter_cons_of_neg (by simpa using hz)]
      have hnb : ¬ (bt c (2 * v) = true ∧ bt c (2 * v + 1) = true) := by
        rintro ⟨h1, h2⟩
        have := (tv_iff c).mpr ⟨2 * v, by omega, h1, by rw [show fl (2 * v) = 2 * v + 1 by unfold fl; rw [if_pos (by omega)]]; exact h2⟩
        rw [hc.1] at this; cases this
      cases ha : bt c (2 * v) <;> cases hb : bt c (2 * v + 1)
      · exact absurd ((b3_iff hv).mpr ⟨ha, hb⟩) hz
      · simp; omega
      · simp; omega
      · exact absurd ⟨ha, hb⟩ hnb
/-- elimination keeps the invariant, and leaves fewer active variables -/
theorem inv_el {s : sg} (h : Inv s) {v : Nat} (hv : v < sV s) (hm : me s v = true) : Inv (elS s v) ∧ ina (elS s v) = ina s + 1 := by
  have hV := h.V10
  obtain ⟨m1, m2, m3, m4, m5⟩ := me_iff.mp hm
  have hnb : sL s ≠ [0] := by
    intro e
    unfold al at m2
    rw [e] at m2
    simp [ct, b_0] at m2
  have hok := h.ok' hnb
  have eS : elS s v = uL (el0 s v) (sL (elS s v)) := foldl_inc_uL _ _
  have hS : sS (elS s v) = upd (sS s) v 2 := by rw [eS]; rfl
  have hR : sR (elS s v) = elR s v := by rw [eS]; rfl
  have hK : sK (elS s v) = upd (sK s) v (-1) := by rw [eS]; rfl
  have hi : ina (elS s v) = ina s + 1 := by
    unfold ina; rw [hS]
    exact inaA_upd (sS s) (by decide) m1 10 (by omega)
  have hup : ∀ c, okv (sV s) (sS s) c → bt c (2 * v) = false → bt c (2 * v + 1) = false → okv (sV s) (upd (sS s) v 2) c := by
    intro c hc h1 h2
    refine ⟨hc.1, hc.2.1, fun i hi hb => ?_⟩
    obtain ⟨o1, o2⟩ := hc.2.2 i hi hb
    refine ⟨o1, ?_⟩
    rw [upd_n]
    · exact o2
    · intro e
      rcases (show i = 2 * v ∨ i = 2 * v + 1 by omega) with q | q
      · rw [q, h1] at hb; cases hb
      · rw [q, h2] at hb; cases hb
  have hel : ∀ c, c ∈ elL s v → okv (sV s) (upd (sS s) v 2) c := by
    intro c hc
    obtain ⟨h1, h2⟩ := List.mem_filter.mp hc
    obtain ⟨h3, h4⟩ := (b3_iff (show v < 10 by omega)).mp (by simpa using h2)
    exact hup c (hok c h1) h3 h4
  have hrs : ∀ x, x ∈ rs (sL s) v → x ≠ 0 → okv (sV s) (upd (sS s) v 2) x := by
    refine rsI_mem (Nat.le_refl _) (P := fun x => x ≠ 0 → okv (sV s) (upd (sS s) v 2) x) (fun i j hi hj ht hz => ?_)
    refine ⟨hz, ht, fun t ht2 hb => ?_⟩
    rw [rsR_bt (by omega) ht2, Bool.and_eq_true, Bool.or_eq_true] at hb
    have hne : t / 2 ≠ v := by simpa using hb.2
    have : t < 2 * sV s ∧ sS s (t / 2) = 0 := by
      rcases hb.1 with q | q
      · exact (hok _ (gd_mem hi)).2.2 t ht2 q
      · exact (hok _ (gd_mem hj)).2.2 t ht2 q
    exact ⟨this.1, by rw [upd_n hne]; exact this.2⟩
  have hf := foldl_inc_ok (rs (sL s) v) (el0 s v) (Or.inr hel) hrs
  have hlen := el_len h.nice (show v < 10 by omega)
  refine ⟨⟨by rw [eS]; exact h.1, by rw [eS]; exact h.2.1, ?_, by rw [eS]; exact h.2.2.2.1, ?_, ?_, ?_, ?_, ?_⟩, hi⟩
  · have h2 : (sL (elS s v)).length ≤ (elL s v).length + (rs (sL s) v).length := hf.2
    have h3 : (elL s v).length + al s v = (sL s).length := hlen
    omega
  · rw [hi, hR]
    have : (elR s v).length = (sR s).length + ct (sL s) (2 * v) := by
      unfold elR ct
      rw [List.length_append, List.length_map, List.countP_eq_length_filter]
    omega
  · rw [hS, show sV (elS s v) = sV s by rw [eS]; rfl]
    exact hf.1
  · rw [hR]
    intro r hr
    rcases List.mem_append.mp hr with q | q
    · exact h.wit r q
    · obtain ⟨c, _, e⟩ := List.mem_map.mp q
      exact ⟨2 * v, by omega, by rw [← e]⟩
  · rw [hS, show sV (elS s v) = sV s by rw [eS]; rfl]
    intro hall
    have := hall v hv
    rw [upd_s] at this; exact absurd this (by decide)
  · rw [hS, hK]
    intro w hw hs
    by_cases e : w = v
    · rw [e, upd_s]
    · rw [upd_n e] at hs ⊢
      exact h.2.2.2.2.2.2.2.2 w hw hs
theorem elF_inv {s s' : sg} (h : Inv s) (hf : elF s = some s') : Inv s' ∧ ina s' = ina s + 1 := by
  unfold elF at hf
  cases e : ch s (sV s) with
  | none => rw [e] at hf; cases hf
  | some p =>
    obtain ⟨b, c⟩ := p
    rw [e] at hf; cases hf
    have := ch_ok e
    exact inv_el h this.1 this.2
