/-! SCHEDULES -/
def tq (b : Nat) : Option Nat := fdF (fun i => decide (mj_let.getD i 0 = nI b)) 10 0
theorem i8_id : ∀ b, b < 128 → (Int32.toInt8 (nI b)).toInt32 = nI b := by decide +kernel
theorem tq_10 {b t : Nat} (h : tq b = some t) : t < 10 := by obtain ⟨_, h2, _, _⟩ := fdF_some h; omega
theorem tq_bk : ∀ b, b < 128 → bk b = true → tq b = none := by decide +kernel
theorem tq_no : ∀ b, b < 128 → (b ≠ 98 ∧ b ≠ 99 ∧ b ≠ 101 ∧ b ≠ 102 ∧ b ≠ 112 ∧ b ≠ 113 ∧ b ≠ 115 ∧ b ≠ 116 ∧ b ≠ 117 ∧ b ≠ 118) → tq b = none := by decide +kernel
section RUN
variable {g : mj_S} {M : mj_M} {k : Nat} {o : ob} {T : List Int32}
theorem c_letter {b : Nat} (hb : b < 128) : kJ0_indexOf_0f7a4 ((Int32.toUInt32 (nI b) % 65536).toInt32) g M (fun v M' => M' = M ∧ v = oN (tq b)) := by
  have e0 : (Int32.toUInt32 (nI b) % 65536).toInt32 = nI b := by rw [pk_char, pk_tn (by omega), Nat.mod_eq_of_lt (by omega)]
  rw [e0]
  have lat : kJ0_isLatin1_aae02 g M (fun v M' => M' = M ∧ v = 1) := eJ0_isLatin1_aae02 ⟨fun hc => absurd hc (by decide), fun _ => ⟨fun hc => absurd rfl hc, fun _ => ⟨rfl, rfl⟩⟩⟩
  have cod : kJ0_coder_7d493 g M (fun v M' => M' = M ∧ v = 0) := eJ0_coder_7d493 ⟨fun hc => absurd hc (by decide), fun _ => ⟨rfl, rfl⟩⟩
  have len : kJ0_length_8abf5 g M (fun v M' => M' = M ∧ v = 10) := by
    refine eJ0_length_8abf5 ⟨_, cod, fun v M1 hq => ?_⟩
    obtain ⟨rfl, rfl⟩ := hq
    exact ⟨rfl, by decide⟩
  have enc : kJ1_canEncode_9a6ad (nI b) g M (fun v M' => M' = M ∧ v = 1) := by
    refine eJ1_canEncode_9a6ad ⟨fun hc => absurd hc (nI_pos (by omega)), fun _ => ⟨fun hc => ?_, fun _ => ⟨rfl, rfl⟩⟩⟩
    rw [show (255 : Int32) = nI 255 from rfl, nI_ltI (by decide) (by omega)] at hc; omega
  have key : ∀ m i, i + m = 10 → LJ1_indexOfChar_4cfef_7 10 (nI b) (nI i) g M (fun v M' => M' = M ∧ v = oN (fdF (fun i => decide (mj_let.getD i 0 = nI b)) m i)) := by
    intro m
    induction m with
    | zero =>
      intro i hi
      exact bJ1_indexOfChar_4cfef_7 ⟨fun _ => ⟨rfl, rfl⟩, fun hc => absurd (by rw [show i = 10 by omega]; decide) hc⟩
    | succ m ih =>
      intro i hi
      refine bJ1_indexOfChar_4cfef_7 ⟨fun hc => ?_, fun _ => ⟨vp_in_nI (by omega) (by decide), ?_⟩⟩
      · rw [show (10 : Int32) = nI 10 from rfl, nI_leI (by decide) (by omega)] at hc; omega
      · rw [nI_clamp (show i < 2 ^ 31 by omega), nI_1]
        refine ⟨fun hc => ?_, fun hc => ⟨rfl, ?_⟩⟩
        · rw [fdF_f (decide_eq_false hc)]; exact ih (i + 1) (by omega)
        · rw [fdF_t (decide_eq_true hc)]; rfl
  have chr : kJ1_indexOfChar_4cfef (nI b) 0 10 g M (fun v M' => M' = M ∧ v = oN (tq b)) := by
    refine eJ1_indexOfChar_4cfef ?_
    rw [i8_id b hb]
    exact key 10 0 (by omega)
  have ido : kJ1_indexOf_4cfef (nI b) 0 10 g M (fun v M' => M' = M ∧ v = oN (tq b)) := by
    refine eJ1_indexOf_4cfef ⟨_, enc, fun v M1 hq => ?_⟩
    obtain ⟨rfl, rfl⟩ := hq
    refine ⟨fun _ => ⟨fun _ => ⟨_, chr, fun v M2 hq => hq⟩, fun hc => absurd (by decide) hc⟩, fun hc => absurd hc (by decide)⟩
  refine eJ0_indexOf_0f7a4 ⟨fun v M' => M' = M ∧ v = oN (tq b), eJ0_indexOf_7cf53 ⟨_, lat, fun v M1 hq => ?_⟩, fun v M1 hq => hq⟩
  obtain ⟨rfl, rfl⟩ := hq
  refine ⟨fun hc => absurd hc (by decide), fun _ => ⟨_, len, fun v M2 hq => ?_⟩⟩
  obtain ⟨rfl, rfl⟩ := hq
  exact ⟨_, ido, fun v M3 hq => hq⟩
theorem r_techniqueOf {b : Nat} (hb : b < 128) : kX10_techniqueOf (nI b) g M (fun v M' => M' = M ∧ v = oN (tq b)) := by
  refine eX10_techniqueOf ?_
  have e : ∀ c, c < 128 → (nI b = nI c ↔ b = c) := fun c hc => nI_eq (by omega) (by omega)
  refine ⟨fun h => ?_, fun h => ?_, fun h => ?_, fun h => ?_, fun h => ?_, fun h => ?_, fun h => ?_, fun h => ?_, fun h => ?_, fun h => ?_, fun h => ?_⟩
  · rw [(e 98 (by decide)).mp h]; exact ⟨rfl, by decide⟩
  · rw [(e 99 (by decide)).mp h]; exact ⟨rfl, by decide⟩
  · rw [(e 101 (by decide)).mp h]; exact ⟨rfl, by decide⟩
  · rw [(e 102 (by decide)).mp h]; exact ⟨rfl, by decide⟩
  · rw [(e 112 (by decide)).mp h]; exact ⟨rfl, by decide⟩
  · rw [(e 113 (by decide)).mp h]; exact ⟨rfl, by decide⟩
  · rw [(e 115 (by decide)).mp h]; exact ⟨rfl, by decide⟩
  · rw [(e 116 (by decide)).mp h]; exact ⟨rfl, by decide⟩
  · rw [(e 117 (by decide)).mp h]; exact ⟨rfl, by decide⟩
  · rw [(e 118 (by decide)).mp h]; exact ⟨rfl, by decide⟩
  · obtain ⟨h1, h2, h3, h4, h5, h6, h7, h8, h9, h10⟩ := h
    rw [tq_no b hb ⟨fun q => h1 ((e 98 (by decide)).mpr q), fun q => h2 ((e 99 (by decide)).mpr q), fun q => h3 ((e 101 (by decide)).mpr q), fun q => h4 ((e 102 (by decide)).mpr q), fun q => h5 ((e 112 (by decide)).mpr q), fun q => h6 ((e 113 (by decide)).mpr q), fun q => h7 ((e 115 (by decide)).mpr q), fun q => h8 ((e 116 (by decide)).mpr q), fun q => h9 ((e 117 (by decide)).mpr q), fun q => h10 ((e 118 (by decide)).mpr q)⟩]
    exact ⟨rfl, rfl⟩
end RUN
def scA (T : List Int32) : Nat → Nat → List Nat → Option Nat × List Nat
  | 0, p, L => (if L.length = 0 then some p else none, L)
  | m + 1, p, L => if bk (bn T p) = true then scA T m (p + 1) L else match tq (bn T p) with
    | none => (some p, L)
    | some t => if L.length = 20 then (some p, L) else scA T m (p + 1) (L ++ [t])
section SCA
variable {T : List Int32} {m p : Nat} {L : List Nat}
theorem scA_b (h : bk (bn T p) = true) : scA T (m + 1) p L = scA T m (p + 1) L := if_pos h
theorem scA_n (h : bk (bn T p) = false) (h2 : tq (bn T p) = none) : scA T (m + 1) p L = (some p, L) := by unfold scA; rw [if_neg (by rw [h]; decide)]; simp only [h2]
theorem scA_f {t : Nat} (h : bk (bn T p) = false) (h2 : tq (bn T p) = some t) (h3 : L.length = 20) : scA T (m + 1) p L = (some p, L) := by unfold scA; rw [if_neg (by rw [h]; decide)]; simp only [h2]; exact if_pos h3
theorem scA_t {t : Nat} (h : bk (bn T p) = false) (h2 : tq (bn T p) = some t) (h3 : ¬ L.length = 20) : scA T (m + 1) p L = scA T m (p + 1) (L ++ [t]) := by rw [scA, if_neg (by rw [h]; decide)]; simp only [h2]; exact if_neg h3
end SCA
/-- the techniques of a text -/
def tsf (T : List Int32) : Nat → Nat → List Nat
  | 0, _ => []
  | m + 1, p => match tq (bn T p) with
    | none => tsf T m (p + 1)
    | some t => t :: tsf T m (p + 1)
theorem tsf_n {T : List Int32} {m p : Nat} (h : tq (bn T p) = none) : tsf T (m + 1) p = tsf T m (p + 1) := by simp only [tsf, h]
theorem tsf_s {T : List Int32} {m p t : Nat} (h : tq (bn T p) = some t) : tsf T (m + 1) p = t :: tsf T m (p + 1) := by simp only [tsf, h]
theorem scA_ok {T : List Int32} (hT : tOK T) : ∀ m p L, p + m = T.length → L.length ≤ 20 → (∀ f, (scA T m p L).1 = some f → f ≤ T.length) ∧ ((scA T m p L).1 = none → (scA T m p L).2 = L ++ tsf T m p ∧ (scA T m p L).2.length ≤ 20)
  | 0, p, L, hp, hL => by
    refine ⟨fun f hf => ?_, fun hf => ⟨(List.append_nil L).symm, hL⟩⟩
    have hf : (if L.length = 0 then some p else none) = some f := hf
    split at hf
    · cases hf; omega
    · cases hf
  | m + 1, p, L, hp, hL => by
    have hb := (hT.at (show p < T.length by omega)).2
    cases hk : bk (bn T p) with
    | true =>
      rw [scA_b hk, tsf_n (tq_bk _ hb hk)]
      exact scA_ok hT m (p + 1) L (by omega) hL
    | false =>
      cases ht : tq (bn T p) with
      | none => rw [scA_n hk ht]; exact ⟨fun f hf => (by cases hf; omega), fun hf => (by cases hf)⟩
      | some t =>
        by_cases h20 : L.length = 20
        · rw [scA_f hk ht h20]; exact ⟨fun f hf => (by cases hf; omega), fun hf => (by cases hf)⟩
        · rw [scA_t hk ht h20, tsf_s ht]
          have := scA_ok hT m (p + 1) (L ++ [t]) (by omega) (by rw [List.length_append]; show L.length + 1 ≤ 20; omega)
          rw [List.append_assoc] at this
          exact this
theorem tsf_10 {T : List Int32} : ∀ m p t, t ∈ tsf T m p → t < 10
  | 0, _, t, h => by cases h
  | m + 1, p, t, h => by
    cases ht : tq (bn T p) with
    | none => rw [tsf_n ht] at h; exact tsf_10 m (p + 1) t h
    | some u =>
      rw [tsf_s ht] at h
      rcases List.mem_cons.mp h with q | q
      · rw [q]; exact tq_10 ht
      · exact tsf_10 m (p + 1) t q
def scT (T : List Int32) : Option Nat × List Nat := scA T T.length 0 []
/-- a round of techniques: the state, how much they have done -/
def rd1 : List Nat → sg → sg × Nat
  | [], s => (s, 0)
  | t :: L, s => ((rd1 L (ap1 t s)).1, (dt t s).2 + (rd1 L (ap1 t s)).2)
theorem rd1_ok : ∀ (L : List Nat) (s : sg), Inv s → Inv (rd1 L s).1 ∧ (rd1 L s).2 ≤ 2000 * L.length
  | [], s, h => ⟨h, Nat.le_refl _⟩
  | t :: L, s, h => by
    have h1 := rd1_ok L (ap1 t s) (ap1_inv h t)
    have h2 := (dt_inv h t).2
    refine ⟨h1.1, ?_⟩
    show (dt t s).2 + (rd1 L (ap1 t s)).2 ≤ 2000 * (L.length + 1)
    omega
def rnR (L : List Nat) : Nat → Nat → sg → sg × Nat
  | 0, n, s => (s, n)
  | m + 1, n, s => if (rd1 L s).2 = 0 ∨ sL (rd1 L s).1 = [0] then ((rd1 L s).1, n + 1) else rnR L m (n + 1) (rd1 L s).1
theorem rnR_e {L : List Nat} {m n : Nat} {s : sg} (h : (rd1 L s).2 = 0 ∨ sL (rd1 L s).1 = [0]) : rnR L (m + 1) n s = ((rd1 L s).1, n + 1) := if_pos h
theorem rnR_s {L : List Nat} {m n : Nat} {s : sg} (h : ¬ ((rd1 L s).2 = 0 ∨ sL (rd1 L s).1 = [0])) : rnR L (m + 1) n s = rnR L m (n + 1) (rd1 L s).1 := if_neg h
theorem rnR_ok {L : List Nat} : ∀ m n s, Inv s → Inv (rnR L m n s).1
  | 0, _, _, h => h
  | m + 1, n, s, h => by
    by_cases q : (rd1 L s).2 = 0 ∨ sL (rd1 L s).1 = [0]
    · rw [rnR_e q]; exact (rd1_ok L s h).1
    · rw [rnR_s q]; exact rnR_ok m (n + 1) _ (rd1_ok L s h).1
def A_run (o : ob) (x : Int32) : res := match rg 1 9 x with
  | none => (1, 0, o)
  | some r => match (scT o.2.1).1 with
    | some f => (0, -1 - nI f, o)
    | none => (0, nI (rnR (tsf o.2.1 o.2.1.length 0) r 0 o.1).2, ((rnR (tsf o.2.1 o.2.1.length 0) r 0 o.1).1, o.2.1, sav o.2.2 o.1))
theorem run_1 {o : ob} {x : Int32} (h : rg 1 9 x = none) : A_run o x = (1, 0, o) := by unfold A_run; rw [h]
theorem run_e {o : ob} {x : Int32} {r f : Nat} (h : rg 1 9 x = some r) (h2 : (scT o.2.1).1 = some f) : A_run o x = (0, -1 - nI f, o) := by unfold A_run; simp only [h, h2]
theorem run_0 {o : ob} {x : Int32} {r : Nat} (h : rg 1 9 x = some r) (h2 : (scT o.2.1).1 = none) : A_run o x = (0, nI (rnR (tsf o.2.1 o.2.1.length 0) r 0 o.1).2, ((rnR (tsf o.2.1 o.2.1.length 0) r 0 o.1).1, o.2.1, sav o.2.2 o.1)) := by unfold A_run; simp only [h, h2]
theorem A_run_ok {o : ob} (h : OI o) (x : Int32) : OI (A_run o x).2.2 := by
  rcases rg_cs (a := 1) (b := 9) (by decide) (by decide) x with ⟨e, _⟩ | ⟨r, h1, h2, rfl, e⟩
  · rw [run_1 e]; exact h
  · cases e2 : (scT o.2.1).1 with
    | some f => rw [run_e e e2]; exact h
    | none => rw [run_0 e e2]; exact h.sv (rnR_ok _ _ _ h.1)
section RU2
variable {g : mj_S} {M : mj_M} {k : Nat} {o : ob}
theorem c_techniqueAt (h0 : is9s g k) {T : List Int32} (h : tx_ M (k + 82) T) (hT : tOK T) {p : Nat} (hp : p < T.length) : kX8_techniqueAt (k + 82) (nI p) g M (fun v M' => M' = M ∧ v = oN (tq (bn T p))) := by
  obtain ⟨b1, b2⟩ := hT.at hp
  refine eX8_techniqueAt (X9t h0) ⟨_, c_textAt h0 h hp, fun v M1 hq => ?_⟩
  obtain ⟨rfl, rfl⟩ := hq
  rw [b1]
  exact ⟨_, c_letter b2, fun v M2 hq => hq⟩
theorem c_scheduleError (h0 : is9s g k) {T : List Int32} (h : tx_ M (k + 82) T) (hT : tOK T) : kX8_scheduleError (k + 82) g M (fun v M' => M' = M ∧ v = oN (scT T).1) := by
  have h160 := hT.1
  have key : ∀ m p L, p + m = T.length → L.length ≤ 20 → (scT T).1 = (scA T m p L).1 → LX8_scheduleError_4 (k + 82) (nI L.length) (nI p) g M (fun v M' => M' = M ∧ v = oN (scT T).1) := by
    intro m
    induction m with
    | zero =>
      intro p L hp hL hR
      refine bX8_scheduleError_4 (X9t h0) ⟨fun _ => ?_, fun hc => absurd (by rw [h.1, show p = T.length by omega]; exact Int32.le_refl _) hc⟩
      have hR : (scT T).1 = if L.length = 0 then some p else none := hR
      rw [hR, show (0 : Int32) = nI 0 from rfl, nI_eq (by omega) (by decide)]
      refine ⟨fun q => ⟨rfl, by rw [if_neg q]; rfl⟩, fun q => ⟨rfl, ?_⟩⟩
      rw [if_pos q, h.1, show p = T.length by omega]; rfl
    | succ m ih =>
      intro p L hp hL hR
      have hpl : p < T.length := by omega
      obtain ⟨b1, b2⟩ := hT.at hpl
      refine bX8_scheduleError_4 (X9t h0) ⟨fun hc => absurd hc (nlt hpl (by omega) h.1), fun _ => ⟨_, c_textAt h0 h hpl, fun v M1 hq => ?_⟩⟩
      obtain ⟨rfl, rfl⟩ := hq
      have e32 : nI (bn T p) = 32 ↔ bn T p = 32 := nI_eq (b := 32) (by omega) (by decide)
      have e10 : nI (bn T p) = 10 ↔ bn T p = 10 := nI_eq (b := 10) (by omega) (by decide)
      rw [b1, e32, nI_1]
      have blk : bk (bn T p) = true → LX8_scheduleError_4 (k + 82) (nI L.length) (nI (p + 1)) g M1 (fun v M' => M' = M1 ∧ v = oN (scT T).1) := fun hb => ih (p + 1) L (by omega) hL (by rw [hR, scA_b hb])
      refine ⟨fun q => blk (by unfold bk; rw [decide_eq_true q]; rfl), fun q => ⟨_, c_textAt h0 h hpl, fun v M2 hq => ?_⟩⟩
      obtain ⟨rfl, rfl⟩ := hq
      rw [b1, e10]
      refine ⟨fun q2 => ⟨_, c_techniqueAt h0 h hT hpl, fun v M3 hq => ?_⟩, fun q2 => blk (by unfold bk; rw [decide_eq_true q2]; simp)⟩
      obtain ⟨rfl, rfl⟩ := hq
      have hk : bk (bn T p) = false := by unfold bk; rw [decide_eq_false q, decide_eq_false q2]; rfl
      cases ht : tq (bn T p) with
      | none =>
        refine ⟨fun _ => ⟨rfl, ?_⟩, fun hc => absurd rfl hc⟩
        rw [hR, scA_n hk ht]; rfl
      | some t =>
        have h10 := tq_10 ht
        rw [nI_1, show (20 : Int32) = nI 20 from rfl, nI_eq (by omega) (by decide)]
        refine ⟨fun hc => absurd hc (nI_m1 (n := t) (by omega)), fun _ => ⟨fun h20 => ?_, fun h20 => ⟨rfl, ?_⟩⟩⟩
        · have nx := ih (p + 1) (L ++ [t]) (by omega) (by rw [List.length_append]; show L.length + 1 ≤ 20; omega) (by rw [hR, scA_t hk ht h20])
          rw [List.length_append] at nx
          exact nx
        · rw [hR, scA_f hk ht h20]; rfl
  exact eX8_scheduleError (X9t h0) (key T.length 0 [] (Nat.zero_add _) (Nat.zero_le _) rfl)
theorem c_run (h0 : is9s g k) (h : CR M k o) (hI : Inv o.1) (hT : tOK o.2.1) (x : Int32) : kX9_run k x g M (cq (A_run o x) k M) (cx (A_run o x) k M mj_IA mj_IA) := by
  have h160 := hT.1
  refine eX9_run h0.1 ?_
  rcases rg_cs (a := 1) (b := 9) (by decide) (by decide) x with ⟨e, hx⟩ | ⟨r, h1, h2, rfl, e⟩
  · exact ⟨fun _ => cx_1 h (run_1 e), fun h1 => ⟨fun h2 => absurd ⟨nle_lt.mp h1, h2⟩ hx, fun _ => cx_1 h (run_1 e)⟩⟩
  refine ⟨fun hc => absurd hc (nI_nlt (b := 1) h1 (by omega)), fun _ => ⟨fun _ => ⟨_, c_scheduleError h0 h.2.2.2 hT, fun v M1 hq => ?_⟩, fun hc => absurd (nI_le (b := 9) h2 (by decide)) hc⟩⟩
  obtain ⟨rfl, rfl⟩ := hq
  have hok := scA_ok hT o.2.1.length 0 [] (Nat.zero_add _) (Nat.zero_le _)
  cases e2 : (scT o.2.1).1 with
  | some f =>
    have hf : f ≤ o.2.1.length := hok.1 f e2
    refine ⟨fun hc => absurd hc (nI_m1 (n := f) (by omega)), fun _ => cq_o h (run_e e e2)⟩
  | none =>
    refine ⟨fun _ => ⟨_, c_saveState h0 h, fun M2 hq => ?_⟩, fun hc => absurd rfl hc⟩
    obtain ⟨s1, s2⟩ := hq
    obtain ⟨L, eL⟩ : ∃ L, L = tsf o.2.1 o.2.1.length 0 := ⟨_, rfl⟩
    have er := run_0 e e2
    rw [← eL] at er
    have key : ∀ m n s M3, n + m = r → Inv s → CR M3 k (s, o.2.1, sav o.2.2 o.1) → gf_ k (k + 98) M1 M3 → rnR L r 0 o.1 = rnR L m n s → LX9_run_44 k (nI r) (nI (n + 1)) g M3 (cq (A_run o (nI r)) k M1) (cx (A_run o (nI r)) k M1 mj_IA mj_IA) := by
      intro m
      induction m with
      | zero =>
        intro n s M3 hn hIs h3 hg hR
        refine bX9_run_44 h0.1 ⟨fun _ => ?_, fun hc => absurd (nI_lt (by omega) (by omega)) hc⟩
        rw [er, hR]
        exact ⟨rfl, by show nI r = nI n; rw [show r = n by omega], h3, hg⟩
      | succ m ih =>
        intro n s M3 hn hIs h3 hg hR
        refine bX9_run_44 h0.1 ⟨fun hc => ?_, fun _ => ?_⟩
        · rw [nI_ltI (by omega) (by omega)] at hc; omega
        have inn : ∀ mm p s1 c (b : Bool) M4, p + mm = o.2.1.length → Inv s1 → CR M4 k (s1, o.2.1, sav o.2.2 o.1) → gf_ k (k + 98) M1 M4 → (rd1 L s).1 = (rd1 (tsf o.2.1 mm p) s1).1 → (rd1 L s).2 = c + (rd1 (tsf o.2.1 mm p) s1).2 → (b = true ↔ c = 0) → LX9_run_55 k (nI r) (nI (n + 1)) (if b then 1 else 0) (nI p) g M4 (cq (A_run o (nI r)) k M1) (cx (A_run o (nI r)) k M1 mj_IA mj_IA) := by
          intro mm
          induction mm with
          | zero =>
            intro p s1 c b M4 hp hI1 h4 hg4 hr1 hr2 hb
            have hr1 : (rd1 L s).1 = s1 := hr1
            have hr2 : (rd1 L s).2 = c := hr2
            refine bX9_run_55 h0.1 ⟨_, c_textSize h0 h4.2.2.2, fun v M5 hq => ?_⟩
            obtain ⟨rfl, rfl⟩ := hq
            have stop : ((rd1 L s).2 = 0 ∨ sL (rd1 L s).1 = [0]) → cq (A_run o (nI r)) k M1 (nI (n + 1)) M5 := fun hs => by
              rw [er, hR, rnR_e hs, hr1]
              exact ⟨rfl, rfl, h4, hg4⟩
            refine ⟨fun _ => ⟨fun hb1 => stop (Or.inl (by rw [hr2]; exact hb.mp ((if01 _).2.mp hb1))), fun hb0 => ⟨_, c_isContradictory (S9 h0).2.1.2 h4.1.2.2.2.1, fun v M6 hq => ?_⟩⟩, fun hc => absurd (nI_le (show o.2.1.length ≤ p by omega) (by omega)) hc⟩
            obtain ⟨rfl, rfl⟩ := hq
            have hb0 := (if01 _).1.mp hb0
            have hc0 : ¬ c = 0 := fun q => by rw [hb.mpr q] at hb0; cases hb0
            by_cases hbr : sL s1 = [0]
            · rw [if_pos hbr]
              exact ⟨fun hc => absurd hc (by decide), fun _ => stop (Or.inr (by rw [hr1]; exact hbr))⟩
            · rw [if_neg hbr, nI_1]
              refine ⟨fun _ => ih (n + 1) s1 M6 (by omega) hI1 h4 hg4 ?_, fun hc => absurd rfl hc⟩
              rw [hR, rnR_s (fun q => by rcases q with q | q; exact hc0 (hr2 ▸ q); exact hbr (hr1 ▸ q)), hr1]
          | succ mm ihm =>
            intro p s1 c b M4 hp hI1 h4 hg4 hr1 hr2 hb
            have hpl : p < o.2.1.length := by omega
            refine bX9_run_55 h0.1 ⟨_, c_textSize h0 h4.2.2.2, fun v M5 hq => ?_⟩
            obtain ⟨rfl, rfl⟩ := hq
            refine ⟨fun hc => absurd hc (nI_ge hpl (show o.2.1.length < 2 ^ 31 by omega)), fun _ => ⟨_, c_techniqueAt h0 h4.2.2.2 hT hpl, fun v M6 hq => ?_⟩⟩
            obtain ⟨rfl, rfl⟩ := hq
            rw [nI_1]
            cases ht : tq (bn o.2.1 p) with
            | none =>
              rw [tsf_n ht] at hr1 hr2
              exact ⟨fun _ => ihm (p + 1) s1 c b M6 (by omega) hI1 h4 hg4 hr1 hr2 hb, fun hc => absurd rfl hc⟩
            | some t =>
              have h10 := tq_10 ht
              rw [tsf_s ht] at hr1 hr2
              have hr1 : (rd1 L s).1 = (rd1 (tsf o.2.1 mm (p + 1)) (ap1 t s1)).1 := hr1
              have hr2 : (rd1 L s).2 = c + ((dt t s1).2 + (rd1 (tsf o.2.1 mm (p + 1)) (ap1 t s1)).2) := hr2
              have hd := (dt_inv hI1 t).2
              refine ⟨fun hc => absurd hc (nI_m1 (n := t) (by omega)), fun _ => ⟨_, c_perform (T9 h0) (S9 h0) h4.1 hI1 (by omega) h10, fun v M7 hq => ?_⟩⟩
              obtain ⟨q1, rfl, q3⟩ := hq
              have h7 : CR M7 k (ap1 t s1, o.2.1, sav o.2.2 o.1) := h4.stt q3 q1
              have g7 := hg4.tr q3.k.g
              show (nI (dt t s1).2 = 0 → _) ∧ (¬ nI (dt t s1).2 = 0 → _)
              rw [show (0 : Int32) = nI 0 from rfl, nI_eq (show (dt t s1).2 < 2 ^ 31 by omega) (by decide)]
              refine ⟨fun hz => ihm (p + 1) (ap1 t s1) (c + (dt t s1).2) b M7 (by omega) (ap1_inv hI1 t) h7 g7 hr1 (by omega) ⟨fun q => by have := hb.mp q; omega, fun q => hb.mpr (by omega)⟩, fun hz => ?_⟩
              exact ihm (p + 1) (ap1 t s1) (c + (dt t s1).2) false M7 (by omega) (ap1_inv hI1 t) h7 g7 hr1 (by omega) ⟨fun q => (by cases q), fun q => (by omega)⟩
        exact inn o.2.1.length 0 s 0 true M3 (Nat.zero_add _) hIs h3 hg (by rw [← eL]) (by rw [← eL, Nat.zero_add]) ⟨fun _ => rfl, fun _ => rfl⟩
    exact key r 0 o.1 M2 (Nat.zero_add _) hI s1 (s2.wd (by omega) (by omega)) rfl
end RU2
