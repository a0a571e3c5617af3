/-! subsets in their order -/
theorem sb_all {a m : Int32} (h : a &&& (m ^^^ (-1)) = 0) : ∀ i, bt a i = true → bt m i = true := by
  intro i hb
  rcases Nat.lt_or_ge i 32 with hi | hi
  · have := bz.mp h i hi
    rw [b_and, b_not hi, hb] at this
    cases hm : bt m i with
    | true => rfl
    | false => rw [hm] at this; cases this
  · rw [b_big hi] at hb; cases hb
theorem sb_of {a m : Int32} (h : ∀ i, bt a i = true → bt m i = true) : a &&& (m ^^^ (-1)) = 0 := by
  refine bz.mpr (fun i hi => ?_)
  rw [b_and, b_not hi]
  cases hb : bt a i with
  | false => rfl
  | true => rw [h i hb]; rfl
theorem sb_le {a m : Int32} (h : ∀ i, bt a i = true → bt m i = true) : tn a ≤ tn m := by
  have e : tn a &&& tn m = tn a := Nat.eq_of_testBit_eq (fun i => by
    rw [Nat.testBit_and, ← bt_tn, ← bt_tn]
    cases hb : bt a i with
    | false => rfl
    | true => rw [h i hb]; rfl)
  have := @Nat.and_le_right (tn a) (tn m)
  omega
theorem nx_or {a m : Int32} (h : a &&& (m ^^^ (-1)) = 0) : a - m - 1 = a ||| (m ^^^ (-1)) := by
  refine Int32.toBitVec_inj.mp ?_
  have e : Int32.toBitVec (m ^^^ (-1)) = ~~~ m.toBitVec := by
    rw [Int32.toBitVec_xor, show Int32.toBitVec (-1) = BitVec.allOnes 32 by decide, BitVec.xor_allOnes]
  have hz : a.toBitVec &&& ~~~ m.toBitVec = 0#32 := by
    rw [← e, ← Int32.toBitVec_and, h]; rfl
  rw [Int32.toBitVec_or, e, ← BitVec.add_eq_or_of_and_eq_zero _ _ hz, Int32.toBitVec_sub, Int32.toBitVec_sub]
  refine BitVec.eq_of_toNat_eq ?_
  rw [BitVec.toNat_add, BitVec.toNat_not, BitVec.toNat_sub, BitVec.toNat_sub, show (Int32.toBitVec 1).toNat = 1 by decide]
  have := m.toBitVec.isLt
  have := a.toBitVec.isLt
  omega
theorem nx_bits {a m : Int32} (hs : ∀ i, bt a i = true → bt m i = true) (hne : ¬ a = m) : ∃ j, j < 32 ∧ (∀ i, i < j → bt a i = bt m i) ∧ bt a j = false ∧ bt m j = true ∧ (∀ i, i < j → bt ((a - m) &&& m) i = false) ∧ bt ((a - m) &&& m) j = true ∧ ∀ i, j < i → bt ((a - m) &&& m) i = bt a i := by
  have hy : ¬ a - m = 0 := fun h => hne (by
    have : tn a = tn m := by
      have h1 : (a - m).toBitVec.toNat = 0 := by rw [h]; rfl
      rw [Int32.toBitVec_sub, BitVec.toNat_sub] at h1
      have := m.toBitVec.isLt
      have := a.toBitVec.isLt
      unfold tn
      omega
    rw [← nI_tn a, ← nI_tn m, this])
  obtain ⟨j, hj, h1, h2, h3, h4, h5⟩ := pred_bits hy
  rw [nx_or (sb_of hs)] at h3 h4 h5
  refine ⟨j, hj, fun i hi => ?_, ?_, ?_, fun i hi => ?_, ?_, fun i hi => ?_⟩
  · have := h3 i hi
    rw [b_or, b_not (by omega)] at this
    cases ha : bt a i with
    | true => rw [hs i ha]
    | false => rw [ha] at this; cases hm : bt m i with
      | false => rfl
      | true => rw [hm] at this; cases this
  · rw [b_or] at h4
    cases ha : bt a j with
    | true => rw [ha] at h4; cases h4
    | false => rfl
  · rw [b_or, b_not hj] at h4
    cases hm : bt m j with
    | true => rfl
    | false => rw [hm] at h4; cases ha : bt a j <;> (rw [ha] at h4; cases h4)
  · rw [b_and, h2 i hi]; rfl
  · rw [b_and, h1]
    rw [b_or, b_not hj] at h4
    cases hm : bt m j with
    | true => rfl
    | false => rw [hm] at h4; cases ha : bt a j <;> (rw [ha] at h4; cases h4)
  · rcases Nat.lt_or_ge i 32 with q | q
    · rw [b_and, ← h5 i hi, b_or, b_not q]
      cases ha : bt a i with
      | true => rw [hs i ha]; rfl
      | false => cases hm : bt m i <;> rfl
    · rw [b_big q, b_big q]
theorem nx_ord {a m : Int32} (hs : ∀ i, bt a i = true → bt m i = true) (hne : ¬ a = m) : (∀ i, bt ((a - m) &&& m) i = true → bt m i = true) ∧ tn a < tn ((a - m) &&& m) ∧ ∀ t : Int32, (∀ i, bt t i = true → bt m i = true) → tn a < tn t → tn ((a - m) &&& m) ≤ tn t := by
  obtain ⟨j, hj, h1, h2, h3, h4, h5, h6⟩ := nx_bits hs hne
  refine ⟨fun i hb => by rw [b_and] at hb; cases hm : bt m i with
    | true => rfl
    | false => rw [hm] at hb; cases hq : bt (a - m) i <;> (rw [hq] at hb; cases hb), ?_⟩
  generalize (a - m) &&& m = b at *
  have hJ : 0 < 2 ^ j := Nat.two_pow_pos j
  have dv : ∀ (x : Int32) i, (tn x / 2 ^ j).testBit i = bt x (j + i) := fun x i => by rw [Nat.testBit_div_two_pow, bt_tn, Nat.add_comm]
  have p0 : ∀ n : Nat, n.testBit 0 = decide (n % 2 = 1) := fun n => Nat.testBit_zero n
  have ea : (tn a / 2 ^ j) % 2 = 0 := by
    have := dv a 0
    rw [Nat.add_zero, h2, p0] at this
    have := of_decide_eq_false this
    omega
  have eb : (tn b / 2 ^ j) % 2 = 1 := by
    have := dv b 0
    rw [Nat.add_zero, h5, p0] at this
    exact of_decide_eq_true this
  have eh : tn a / 2 ^ j / 2 = tn b / 2 ^ j / 2 := Nat.eq_of_testBit_eq (fun i => by
    rw [← Nat.testBit_succ, ← Nat.testBit_succ, dv, dv, h6 _ (by omega)])
  have e1 : tn b / 2 ^ j = tn a / 2 ^ j + 1 := by omega
  have md : ∀ (x : Int32) i, (tn x % 2 ^ j).testBit i = (decide (i < j) && bt x i) := fun x i => by rw [Nat.testBit_mod_two_pow]; rfl
  have e2 : tn b % 2 ^ j = 0 := Nat.eq_of_testBit_eq (fun i => by
    rw [md, Nat.zero_testBit]
    by_cases q : i < j
    · rw [h4 i q]; simp
    · simp [q])
  have e3 : tn a % 2 ^ j = tn m % 2 ^ j := Nat.eq_of_testBit_eq (fun i => by
    rw [md, md]
    by_cases q : i < j
    · rw [h1 i q]
    · simp [q])
  have da := Nat.div_add_mod (tn a) (2 ^ j)
  have db := Nat.div_add_mod (tn b) (2 ^ j)
  have la := Nat.mod_lt (tn a) hJ
  rw [e1, Nat.mul_add, Nat.mul_one] at db
  refine ⟨by omega, fun t ht hat => ?_⟩
  have e4 : tn t % 2 ^ j ≤ tn m % 2 ^ j := by
    have e : (tn t % 2 ^ j) &&& (tn m % 2 ^ j) = tn t % 2 ^ j := Nat.eq_of_testBit_eq (fun i => by
      rw [Nat.testBit_and, md, md]
      cases hb : bt t i with
      | false => simp
      | true => rw [ht i hb]; simp)
    have := @Nat.and_le_right (tn t % 2 ^ j) (tn m % 2 ^ j)
    omega
  refine Classical.byContradiction (fun hc => ?_)
  have dt := Nat.div_add_mod (tn t) (2 ^ j)
  have l1 : tn a / 2 ^ j ≤ tn t / 2 ^ j := Nat.div_le_div_right (by omega)
  have l2 : tn t / 2 ^ j < tn a / 2 ^ j + 1 := by
    rw [Nat.div_lt_iff_lt_mul hJ, Nat.add_mul, Nat.one_mul, Nat.mul_comm]
    omega
  have e5 : tn t / 2 ^ j = tn a / 2 ^ j := by omega
  rw [e5] at dt
  omega
def sb (m : Int32) (n : Nat) : Bool := decide (nI n &&& (m ^^^ (-1)) = 0)
theorem sb_n {m : Int32} {n : Nat} (hn : n < 2 ^ 32) (h : sb m n = true) : n ≤ tn m := by
  have := sb_le (sb_all (of_decide_eq_true h))
  rw [tn_nI hn] at this; exact this
theorem nxt {m : Int32} {n : Nat} (hm : tn m < 2 ^ 10) (hn : n < 2 ^ 10) (h : sb m n = true) : ((nI n - m) &&& m = 0 ∧ n = tn m) ∨ ∃ n', n < n' ∧ n' ≤ tn m ∧ (nI n - m) &&& m = nI n' ∧ sb m n' = true ∧ ∀ t, n < t → t < n' → sb m t = false := by
  have hs := sb_all (of_decide_eq_true h)
  by_cases e : nI n = m
  · refine Or.inl ⟨?_, by rw [← e, tn_nI (by omega)]⟩
    rw [e, Int32.sub_self, Int32.zero_and]
  · obtain ⟨h1, h2, h3⟩ := nx_ord hs e
    have hle := sb_le h1
    rw [tn_nI (by omega)] at h2
    refine Or.inr ⟨tn ((nI n - m) &&& m), h2, hle, (nI_tn _).symm, ?_, fun t ht1 ht2 => ?_⟩
    · unfold sb; rw [nI_tn]; exact decide_eq_true (sb_of h1)
    · refine decide_eq_false (fun hc => ?_)
      have := h3 (nI t) (sb_all hc) (by rw [tn_nI (by omega), tn_nI (by omega)]; exact ht1)
      rw [tn_nI (by omega)] at this
      omega
theorem fdF_skip {p : Nat → Bool} : ∀ {d m i : Nat}, (∀ t, i ≤ t → t < i + d → p t = false) → fdF p (d + m) i = fdF p m (i + d)
  | 0, m, i, _ => by rw [Nat.zero_add]; rfl
  | d + 1, m, i, h => by
    rw [show d + 1 + m = d + m + 1 by omega, fdF_f (h i (Nat.le_refl _) (by omega)), fdF_skip (fun t h1 h2 => h t (by omega) (by omega)), show i + 1 + d = i + (d + 1) by omega]
def cnF (p : Nat → Bool) : Nat → Nat → Nat
  | 0, _ => 0
  | m + 1, i => (if p i = true then 1 else 0) + cnF p m (i + 1)
theorem cnF_t {p : Nat → Bool} {m i : Nat} (h : p i = true) : cnF p (m + 1) i = 1 + cnF p m (i + 1) := by
  show (if p i = true then 1 else 0) + cnF p m (i + 1) = _
  rw [if_pos h]
theorem cnF_f {p : Nat → Bool} {m i : Nat} (h : p i = false) : cnF p (m + 1) i = cnF p m (i + 1) := by
  show (if p i = true then 1 else 0) + cnF p m (i + 1) = _
  rw [h, if_neg (by decide), Nat.zero_add]
theorem cnF_skip {p : Nat → Bool} : ∀ {d m i : Nat}, (∀ t, i ≤ t → t < i + d → p t = false) → cnF p (d + m) i = cnF p m (i + d)
  | 0, m, i, _ => by rw [Nat.zero_add]; rfl
  | d + 1, m, i, h => by
    rw [show d + 1 + m = d + m + 1 by omega, cnF_f (h i (Nat.le_refl _) (by omega)), cnF_skip (fun t h1 h2 => h t (by omega) (by omega)), show i + 1 + d = i + (d + 1) by omega]
theorem cnF_none {p : Nat → Bool} : ∀ {m i : Nat}, (∀ t, i ≤ t → t < i + m → p t = false) → cnF p m i = 0
  | 0, i, _ => rfl
  | m + 1, i, h => by rw [cnF_f (h i (Nat.le_refl _) (by omega))]; exact cnF_none (fun t h1 h2 => h t (by omega) (by omega))
def pS (L : List Int32) (m : Int32) (n : Nat) : Bool := sb m n && sat L (nI n)
theorem pS_1 {L : List Int32} {m : Int32} {n : Nat} (h : sb m n = false) : pS L m n = false := by unfold pS; rw [h]; rfl
theorem pS_2 {L : List Int32} {m : Int32} {n : Nat} (h : sat L (nI n) = false) : pS L m n = false := by unfold pS; rw [h]; simp
theorem pS_t {L : List Int32} {m : Int32} {n : Nat} (h : sb m n = true) (h2 : sat L (nI n) = true) : pS L m n = true := by unfold pS; rw [h, h2]; rfl
theorem sb_0 (m : Int32) : sb m 0 = true := decide_eq_true (sb_of (fun i hb => by rw [show nI 0 = 0 from rfl, b_0] at hb; cases hb))
theorem bi_nI : ∀ V, V < 11 → bi V = nI (2 ^ V) := by decide +kernel
theorem p2_le {V : Nat} (h : V ≤ 10) : 2 ^ V ≤ 1024 := Nat.le_trans (Nat.pow_le_pow_right (by decide) h) (by decide)
def so1 (s : sg) (r : Option Nat) : Int32 := match r with
  | some n => recon s (nI n)
  | none => -1
def A_solve (o : ob) : res := (0, so1 o.1 (fdF (pS (sL o.1) (act o.1)) (2 ^ sV o.1) 0), o)
def A_models (o : ob) (p : Bool) : res := (0, nI (cnF (if p then pS (sO o.1) (bi (sV o.1) - 1) else pS (sL o.1) (act o.1)) (2 ^ sV o.1) 0), o)
theorem act_in {s : sg} (hV : sV s ≤ 10) : inS (sV s) (act s) = true := inS_bt.mpr (fun i hi hv => by
  unfold act; rw [bm_bt _ hi, decide_eq_false (by omega)]; rfl)
section SOL
variable {g : mj_S} {M : mj_M} {k : Nat} {o : ob}
theorem c_solve (h0 : is9s g k) (h : CR M k o) : kX9_solve k g M (cq (A_solve o) k M) := by
  have hV : sV o.1 ≤ 10 := h.1.2.2.2.2.2.2.2.2.2.2
  have h2V := p2_le hV
  have hm : tn (act o.1) < 2 ^ sV o.1 := of_decide_eq_true (act_in hV)
  have key : ∀ w n c, w + n = 2 ^ sV o.1 → 0 < w → c ≤ n → sb (act o.1) n = true → fdF (pS (sL o.1) (act o.1)) (2 ^ sV o.1) 0 = fdF (pS (sL o.1) (act o.1)) w n → LX9_solve_12 k (act o.1) (nI n) (nI c) g M (cq (A_solve o) k M) := by
    intro w
    induction w using Nat.strongRecOn with
    | _ w ih =>
      intro n c hw h0w hc hs he
      obtain ⟨w', rfl⟩ : ∃ w', w = w' + 1 := ⟨w - 1, by omega⟩
      have fin : ∀ r, fdF (pS (sL o.1) (act o.1)) (w' + 1) n = r → cq (A_solve o) k M (so1 o.1 r) M := fun r hr => cq_o h (by unfold A_solve; rw [he, hr])
      refine bX9_solve_12 h0.1 ⟨fun hx => ?_, fun _ => ⟨_, c_trueLiterals _, fun v M1 hq => ?_⟩⟩
      · rw [show (1024 : Int32) = nI 1024 from rfl, nI_leI (by decide) (by omega)] at hx; omega
      obtain ⟨rfl, rfl⟩ := hq
      refine ⟨_, c_isSatisfied (S9 h0).2.1.2 h.1.2.2.2.1 _, fun v M2 hq => ?_⟩
      obtain ⟨rfl, rfl⟩ := hq
      refine ⟨fun hz => ⟨_, c_nextSubset _ _, fun v M3 hq => ?_⟩, fun hz => ⟨_, c_reconstruct (S9 h0) h.1 _, fun v M3 hq => ?_⟩⟩
      · obtain ⟨rfl, rfl⟩ := hq
        have hf : pS (sL o.1) (act o.1) n = false := pS_2 ((if01 _).1.mp hz)
        rcases nxt (m := act o.1) (n := n) (by omega) (by omega) hs with ⟨e1, e2⟩ | ⟨n', e1, e2, e3, e4, e5⟩
        · rw [e1]
          refine ⟨fun hc => absurd rfl hc, fun _ => fin none (fdF_none' (fun t ht1 ht2 => ?_))⟩
          by_cases q : t = n
          · subst q; exact hf
          · refine pS_1 ?_
            cases hb : sb (act o.1) t with
            | false => rfl
            | true => have := sb_n (by omega) hb; omega
        · rw [e3]
          refine ⟨fun _ => ?_, fun hc => ?_⟩
          · rw [nI_1]
            refine ih (2 ^ sV o.1 - n') (by omega) n' (c + 1) (by omega) (by omega) (by omega) e4 (he.trans ?_)
            have e6 : w' + 1 = (n' - n) + (2 ^ sV o.1 - n') := by omega
            rw [e6, fdF_skip (fun t ht1 ht2 => ?_), show n + (n' - n) = n' by omega]
            by_cases q : t = n
            · subst q; exact hf
            · exact pS_1 (e5 t (by omega) (by omega))
          · rw [show (0 : Int32) = nI 0 from rfl, nI_eq (by omega) (by omega)] at hc; omega
      · obtain ⟨rfl, rfl⟩ := hq
        exact fin (some n) (fdF_t (pS_t hs ((if01 _).2.mp hz)))
  refine eX9_solve h0.1 ⟨_, c_activeVariables (S9 h0) h.1, fun v M1 hq => ?_⟩
  obtain ⟨rfl, rfl⟩ := hq
  exact key (2 ^ sV o.1) 0 0 (by omega) (Nat.two_pow_pos _) (Nat.le_refl _) (sb_0 _) rfl
theorem c_countModels {kl nl : Nat} {L : List Int32} {m : Int32} {V : Nat} {Q : Int32 → mj_M → Prop} (h0 : is0 g kl nl) (h : cl_ M kl nl L) (hV : V ≤ 10) (hm : inS V m = true) (hQ : Q (nI (cnF (pS L m) (2 ^ V) 0)) M) : kX9_countModels kl m g M Q := by
  have h2V := p2_le hV
  have hm : tn m < 2 ^ V := of_decide_eq_true hm
  have key : ∀ w n c r, w + n = 2 ^ V → 0 < w → c ≤ n → sb m n = true → cnF (pS L m) (2 ^ V) 0 = r + cnF (pS L m) w n → LX9_countModels_7 kl nl m (nI r) (nI n) (nI c) g M Q := by
    intro w
    induction w using Nat.strongRecOn with
    | _ w ih =>
      intro n c r hw h0w hc hs he
      obtain ⟨w', rfl⟩ : ∃ w', w = w' + 1 := ⟨w - 1, by omega⟩
      refine bX9_countModels_7 h0 ⟨fun hx => ?_, fun _ => ⟨_, c_trueLiterals _, fun v M1 hq => ?_⟩⟩
      · rw [show (1024 : Int32) = nI 1024 from rfl, nI_leI (by decide) (by omega)] at hx; omega
      obtain ⟨rfl, rfl⟩ := hq
      refine ⟨_, c_isSatisfied h0 h _, fun v M2 hq => ?_⟩
      obtain ⟨rfl, rfl⟩ := hq
      have go : ∀ r2, cnF (pS L m) (2 ^ V) 0 = r2 + cnF (pS L m) w' (n + 1) → ∃ q3 : Int32 → mj_M → Prop, kX9_nextSubset (nI n) m g M2 q3 ∧ ∀ v3 M3, q3 v3 M3 → ((¬ v3 = 0 → LX9_countModels_7 kl nl m (nI r2) v3 (nI c + 1) g M3 Q) ∧ (v3 = 0 → Q (nI r2) M3)) := by
        intro r2 he2
        refine ⟨_, c_nextSubset _ _, fun v M3 hq => ?_⟩
        obtain ⟨rfl, rfl⟩ := hq
        rcases nxt (m := m) (n := n) (by omega) (by omega) hs with ⟨e1, e2⟩ | ⟨n', e1, e2, e3, e4, e5⟩
        · rw [e1]
          refine ⟨fun hc => absurd rfl hc, fun _ => ?_⟩
          rw [cnF_none (m := w') (fun t ht1 ht2 => pS_1 ?_)] at he2
          · rw [he2] at hQ; exact hQ
          · cases hb : sb m t with
            | false => rfl
            | true => have := sb_n (by omega) hb; omega
        · rw [e3]
          refine ⟨fun _ => ?_, fun hc => ?_⟩
          · rw [nI_1]
            refine ih (2 ^ V - n') (by omega) n' (c + 1) r2 (by omega) (by omega) (by omega) e4 (he2.trans ?_)
            have e6 : w' = (n' - (n + 1)) + (2 ^ V - n') := by omega
            rw [e6, cnF_skip (fun t ht1 ht2 => pS_1 (e5 t (by omega) (by omega))), show n + 1 + (n' - (n + 1)) = n' by omega]
          · rw [show (0 : Int32) = nI 0 from rfl, nI_eq (by omega) (by omega)] at hc; omega
      refine ⟨fun hz => go r ?_, fun hz => ?_⟩
      · rw [he, cnF_f (pS_2 ((if01 _).1.mp hz))]
      · rw [show nI r + 1 = nI (r + 1) from nI_1 r]
        refine go (r + 1) ?_
        rw [he, cnF_t (pS_t hs ((if01 _).2.mp hz))]; omega
  exact eX9_countModels h0 (key (2 ^ V) 0 0 0 (by omega) (Nat.two_pow_pos _) (Nat.le_refl _) (sb_0 _) (by omega))
theorem c_models (h0 : is9s g k) (h : CR M k o) (p : Bool) : kX9_models k (if p then 1 else 0) g M (cq (A_models o p) k M) := by
  have hV : sV o.1 ≤ 10 := h.1.2.2.2.2.2.2.2.2.2.2
  refine eX9_models h0.1 ⟨fun hp => ⟨_, c_activeVariables (S9 h0) h.1, fun v M1 hq => ?_⟩, fun hp => ⟨_, c_allVariables (S9 h0) h.1, fun v M1 hq => ?_⟩⟩
  · obtain ⟨rfl, rfl⟩ := hq
    refine ⟨_, c_countModels (Q := cq (A_models o p) k M1) (S9 h0).2.1.2 h.1.2.2.2.1 hV (act_in hV) (cq_o h ?_), fun v M2 hq => hq⟩
    unfold A_models; rw [(if01 _).1.mp hp]; rfl
  · obtain ⟨rfl, rfl⟩ := hq
    refine ⟨_, c_countModels (Q := cq (A_models o p) k M1) (S9 h0).2.2.1.2 h.1.2.2.2.2.1 hV (inS_bt.mpr (fun i hi hv => by rw [mk_bt _ (by omega) i hi, decide_eq_false (by omega)])) (cq_o h ?_), fun v M2 hq => hq⟩
    unfold A_models; rw [(if01 _).2.mp hp]; rfl
theorem r_solve (h0 : is10 g k) (h : RR M k o) (hI : Inv o.1) : kX10_solve k g M (rq (A_solve o) k M) := by
  have hV := h.1.V10
  have h2V := p2_le hV
  have h1 : RR (mj_wI M k 6 0) k o := h.wf (by decide) (by decide) _
  have hz : (mj_wI M k 6 0).1 k 6 = nI 0 := wI_s
  have hg : gf_ k (k + 12) M (mj_wI M k 6 0) := (fr_.wI (lo := k) (hi := k + 12) (by omega) (by omega)).g
  refine eX10_solve h0 ?_
  generalize mj_wI M k 6 0 = M0 at *
  have key : ∀ w n, w + n = 2 ^ sV o.1 → fdF (pS (sL o.1) (act o.1)) (2 ^ sV o.1) 0 = fdF (pS (sL o.1) (act o.1)) w n → LX10_solve_7 k (nI n) g M0 (rq (A_solve o) k M) := by
    intro w
    induction w with
    | zero =>
      intro n hw he
      refine bX10_solve_7 h0 ?_
      rw [h1.1.V]
      refine ⟨fun _ => ⟨hz, fun _ => ?_, h1, hg⟩, fun hc => absurd ?_ hc⟩
      · show -1 = so1 o.1 _
        rw [he]; rfl
      · show bi (sV o.1) ≤ nI n
        rw [bi_nI _ (by omega), nI_leI (by omega) (by omega)]; omega
    | succ w ih =>
      intro n hw he
      refine bX10_solve_7 h0 ?_
      rw [h1.1.V]
      refine ⟨fun hc => ?_, fun _ => ⟨_, r_actives h0 h1.1, fun v M1 hq => ?_⟩⟩
      · rw [show (1 : Int32) <<< (nI (sV o.1) &&& 31) = nI (2 ^ sV o.1) from bi_nI _ (by omega), nI_leI (by omega) (by omega)] at hc; omega
      obtain ⟨rfl, rfl⟩ := hq
      rw [nI_1]
      refine ⟨fun hc => ih (n + 1) (by omega) (by rw [he, fdF_f (pS_1 (decide_eq_false hc))]), fun hc => ⟨_, r_isModel h0 h1.1 _, fun v M2 hq => ?_⟩⟩
      obtain ⟨rfl, rfl⟩ := hq
      refine ⟨fun hc => ih (n + 1) (by omega) (by rw [he, fdF_f (pS_2 ((if01 _).1.mp hc))]), fun hd => ⟨_, r_extendedBy h0 h1.1 hI.wit _, fun v M3 hq => ?_⟩⟩
      obtain ⟨rfl, rfl⟩ := hq
      refine ⟨hz, fun _ => ?_, h1, hg⟩
      show _ = so1 o.1 _
      rw [he, fdF_t (pS_t (decide_eq_true hc) ((if01 _).2.mp hd))]; rfl
  exact key (2 ^ sV o.1) 0 (by omega) rfl
theorem sat_missed {L : List Int32} {a : Int32} (h : L.length ≤ 48) : nI (L.countP (fun c => decide (c &&& tl a = 0))) = 0 ↔ sat L a = true := by
  have hl := List.countP_le_length (p := fun c => decide (c &&& tl a = 0)) (l := L)
  have e0 : ∀ x : Nat, x < 2 ^ 31 → (nI x = 0 ↔ x = 0) := fun x hx => (show nI x = nI 0 ↔ x = 0 from nI_eq hx (by decide))
  rw [e0 _ (by omega), List.countP_eq_zero]
  unfold sat
  rw [List.all_eq_true]
  exact ⟨fun h c hc => by
    have := h c hc
    cases hd : decide (c &&& tl a = 0) with
    | true => exact absurd hd this
    | false => rfl, fun h c hc hd => by
    have := h c hc
    rw [hd] at this; cases this⟩
theorem r_models (h0 : is10 g k) (h : RR M k o) (hI : Inv o.1) (p : Bool) : kX10_models k (if p then 1 else 0) g M (rq (A_models o p) k M) := by
  have hV := h.1.V10
  have h2V := p2_le hV
  have hO : (sO o.1).length ≤ 48 := by have := hI.2.2.2.1; omega
  have key : ∀ w n r, w + n = 2 ^ sV o.1 → cnF (if p then pS (sO o.1) (bi (sV o.1) - 1) else pS (sL o.1) (act o.1)) (2 ^ sV o.1) 0 = r + cnF (if p then pS (sO o.1) (bi (sV o.1) - 1) else pS (sL o.1) (act o.1)) w n → LX10_models_4 k (if p then 1 else 0) (nI r) (nI n) g M (rq (A_models o p) k M) := by
    intro w
    induction w with
    | zero =>
      intro n r hw he
      refine bX10_models_4 h0 ?_
      rw [h.1.V]
      refine ⟨fun _ => r_tell (r := A_models o p) h0 h gf_.rf _ (by unfold A_models; rw [he]; rfl) (fun _ _ h => h), fun hc => absurd ?_ hc⟩
      show bi (sV o.1) ≤ nI n
      rw [bi_nI _ (by omega), nI_leI (by omega) (by omega)]; omega
    | succ w ih =>
      intro n r hw he
      refine bX10_models_4 h0 ?_
      rw [h.1.V]
      refine ⟨fun hc => ?_, fun _ => ⟨fun hp => ⟨_, r_actives h0 h.1, fun v M1 hq => ?_⟩, fun hp => ⟨_, r_missed h0 h.1 _, fun v M1 hq => ?_⟩⟩⟩
      · rw [show (1 : Int32) <<< (nI (sV o.1) &&& 31) = nI (2 ^ sV o.1) from bi_nI _ (by omega), nI_leI (by omega) (by omega)] at hc; omega
      · obtain ⟨rfl, rfl⟩ := hq
        have ep := (if01 _).1.mp hp
        rw [Int32.add_zero, nI_1, nI_1]
        have no : pS (sL o.1) (act o.1) n = false → LX10_models_4 k (if p then 1 else 0) (nI r) (nI (n + 1)) g M1 (rq (A_models o p) k M1) := fun hf => ih (n + 1) r (by omega) (by rw [he]; subst ep; rw [if_neg (by decide), cnF_f hf])
        refine ⟨fun hc => no (pS_1 (decide_eq_false hc)), fun hc => ⟨_, r_isModel h0 h.1 _, fun v M2 hq => ?_⟩⟩
        obtain ⟨rfl, rfl⟩ := hq
        refine ⟨fun hd => no (pS_2 ((if01 _).1.mp hd)), fun hd => ih (n + 1) (r + 1) (by omega) ?_⟩
        rw [he]; subst ep; rw [if_neg (by decide), cnF_t (pS_t (decide_eq_true hc) ((if01 _).2.mp hd))]; omega
      · obtain ⟨rfl, rfl⟩ := hq
        have ep := (if01 _).2.mp hp
        rw [Int32.add_zero, nI_1, nI_1]
        have hs : sb (bi (sV o.1) - 1) n = true := decide_eq_true ((inS_c hV).mpr (decide_eq_true (by rw [tn_nI (by omega)]; omega)))
        refine ⟨fun hd => ih (n + 1) r (by omega) ?_, fun hd => ih (n + 1) (r + 1) (by omega) ?_⟩
        · have hf : sat (sO o.1) (nI n) = false := by
            cases e : sat (sO o.1) (nI n) with
            | false => rfl
            | true => exact absurd ((sat_missed hO).mpr e) hd
          rw [he]; subst ep; rw [if_pos rfl, cnF_f (pS_2 hf)]
        · rw [he]; subst ep; rw [if_pos rfl, cnF_t (pS_t hs ((sat_missed hO).mp hd))]; omega
  exact eX10_models h0 (key (2 ^ sV o.1) 0 0 (by omega) (by omega))
end SOL
