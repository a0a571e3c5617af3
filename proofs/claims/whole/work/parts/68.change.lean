/-! CALLS THAT CHANGE THE STATE -/
def OI (o : ob) : Prop := Inv o.1 ∧ (∀ t, t ∈ o.2.2 → Inv t) ∧ ∀ b, b ∈ o.2.1 → ∃ n, n < 128 ∧ b = nI n
theorem sav_mem {ps : List sg} {s t : sg} (h : t ∈ sav ps s) : t ∈ ps ∨ t = s := by
  unfold sav at h
  rcases List.mem_append.mp h with q | q
  · split at q
    · exact Or.inl q
    · exact Or.inl (List.mem_of_mem_drop q)
  · exact Or.inr (by simpa using q)
theorem OI.sv {o : ob} (h : OI o) {s' : sg} (hs : Inv s') : OI (s', o.2.1, sav o.2.2 o.1) := ⟨hs, fun t ht => (sav_mem ht).elim (h.2.1 t) (fun e => by rw [e]; exact h.1), h.2.2⟩
theorem OI.s {o : ob} (h : OI o) {s' : sg} (hs : Inv s') : OI (s', o.2) := ⟨hs, h.2.1, h.2.2⟩
def rg (a b : Nat) (x : Int32) : Option Nat := if nI a ≤ x ∧ x ≤ nI b then some x.toNatClampNeg else none
theorem rg_cs {a b : Nat} (hb : b < 2 ^ 31) (ha : a ≤ b) (x : Int32) : (rg a b x = none ∧ ¬ (nI a ≤ x ∧ x ≤ nI b)) ∨ ∃ j, a ≤ j ∧ j ≤ b ∧ x = nI j ∧ rg a b x = some j := by
  by_cases q : nI a ≤ x ∧ x ≤ nI b
  · have h0 : ¬ x < 0 := fun hx => by
      have h1 := Int32.le_iff_toInt_le.mp q.1
      have h2 := Int32.lt_iff_toInt_lt.mp hx
      rw [nI_toInt (by omega)] at h1
      have : (0 : Int32).toInt = 0 := rfl
      omega
    obtain ⟨j, hj, rfl⟩ := nI_of h0
    exact Or.inr ⟨j, (nI_leI (by omega) hj).mp q.1, (nI_leI hj hb).mp q.2, rfl, by unfold rg; rw [if_pos q, nI_clamp hj]⟩
  · exact Or.inl ⟨if_neg q, q⟩
theorem nle_lt {x y : Int32} : ¬ x < y ↔ y ≤ x := by rw [Int32.lt_iff_toInt_lt, Int32.le_iff_toInt_le]; omega
theorem inv_s0 {V : Nat} (h1 : 1 ≤ V) (h2 : V ≤ 10) : Inv (s0 V) := ⟨⟨h1, h2⟩, ⟨0, by decide, rfl⟩, Nat.zero_le _, Nat.zero_le _, Nat.zero_le _, Or.inr (fun c hc => (by cases hc)), fun r hr => (by cases hr), fun _ => Or.inr (Nat.zero_le _), fun _ _ _ => rfl⟩
section CHG
variable {g : mj_S} {M : mj_M} {k : Nat} {o : ob}
theorem CR.tr (h : CR M k o) : ∃ t, rc_ M (k + 11) t := h.2.1
/-- the state has changed within its own cells -/
theorem CR.st {M' : mj_M} {s' : sg} (h : CR M k o) (hf : fr_ (k + 1) (k + 11) M M') (hs : rc_ M' (k + 1) s') : CR M' k (s', o.2) := by
  obtain ⟨t, ht⟩ := h.2.1
  exact h.kf (hf.k (by omega)) hs ⟨t, ht.fr hf (by omega)⟩
theorem CR.stt {M' : mj_M} {s' : sg} (h : CR M k o) (hf : tf_ (k + 1) (k + 88) M M') (hs : rc_ M' (k + 1) s') : CR M' k (s', o.2) := by
  obtain ⟨t, ht⟩ := h.2.1
  exact h.kf hf.k hs ⟨t, ht.c (fun a h1 h2 => hf.2 a (by omega) (by omega))⟩
def A_reset (o : ob) (x : Int32) : res := match rg 1 10 x with
  | none => (1, 0, o)
  | some V => (0, nI (sV o.1), (s0 V, o.2.1, sav o.2.2 o.1))
theorem reset_n {x : Int32} (h : rg 1 10 x = none) : A_reset o x = (1, 0, o) := by unfold A_reset; rw [h]
theorem reset_s {x : Int32} {V : Nat} (h : rg 1 10 x = some V) : A_reset o x = (0, nI (sV o.1), (s0 V, o.2.1, sav o.2.2 o.1)) := by unfold A_reset; rw [h]
theorem A_reset_ok (h : OI o) (x : Int32) : OI (A_reset o x).2.2 := by
  rcases rg_cs (a := 1) (b := 10) (by decide) (by decide) x with ⟨e, _⟩ | ⟨V, h1, h2, rfl, e⟩
  · rw [reset_n e]; exact h
  · rw [reset_s e]; exact h.sv (inv_s0 h1 h2)
theorem c_reset (h0 : is9s g k) (h : CR M k o) (x : Int32) : kX9_reset k x g M (cq (A_reset o x) k M) (cx (A_reset o x) k M mj_IA mj_IA) := by
  refine eX9_reset h0.1 ?_
  rw [show (1 : Int32) = nI 1 from rfl, show (10 : Int32) = nI 10 from rfl]
  rcases rg_cs (a := 1) (b := 10) (by decide) (by decide) x with ⟨e, hx⟩ | ⟨V, h1, h2, rfl, e⟩
  · exact ⟨fun _ => cx_1 h (reset_n e), fun h1 => ⟨fun h2 => absurd ⟨nle_lt.mp h1, h2⟩ hx, fun _ => cx_1 h (reset_n e)⟩⟩
  · refine ⟨fun hc => absurd hc (nI_nlt h1 (by omega)), fun _ => ⟨fun _ => ⟨_, c_saveState h0 h, fun M1 hq => ?_⟩, fun hc => absurd (nI_le h2 (by decide)) hc⟩⟩
    obtain ⟨q1, q2⟩ := hq
    refine ⟨_, c_beginAnew (S9 h0) h2 q1.1.2.2.2.1 q1.1.2.2.2.2.1, fun M2 hq => ?_⟩
    rw [reset_s e, h.1.1]
    exact ⟨rfl, rfl, q1.st hq.2 hq.1, (q2.wd (by omega) (by omega)).tr (hq.2.wd (by omega) (by omega)).g⟩
theorem r_reset (h0 : is10 g k) (h : RR M k o) (x : Int32) : kX10_reset k x g M (rq (A_reset o x) k M) := by
  refine eX10_reset h0 ⟨_, r_in, fun v1 M1 hq => ?_⟩
  obtain ⟨rfl, rfl⟩ := hq
  rw [show (1 : Int32) = nI 1 from rfl, show (10 : Int32) = nI 10 from rfl]
  rcases rg_cs (a := 1) (b := 10) (by decide) (by decide) x with ⟨e, hx⟩ | ⟨V, h1, h2, rfl, e⟩
  · rw [if_neg hx]; exact ⟨fun hc => absurd rfl hc, fun _ => r_fail (r := A_reset o x) h0 h gf_.rf 1 (reset_n e) (fun _ _ h => h)⟩
  · rw [if_pos ⟨nI_le h1 (by omega), nI_le h2 (by decide)⟩]
    refine ⟨fun _ => ⟨_, r_save h0 h, fun M2 hq => ?_⟩, fun hc => absurd hc (by decide)⟩
    obtain ⟨q1, q2, q3⟩ := hq
    refine ⟨_, r_begins h0 h2, fun M3 hq => ?_⟩
    rw [reset_s e, q1.1.V]
    exact ⟨by rw [hq.2.1 k (by omega)]; exact q2, fun _ => rfl, q1.rf (hq.2.r (by omega)) hq.1, q3.g.tr (hq.2.wd (by omega) (by omega)).g⟩
def A_setGrowth (o : ob) (x : Int32) : res := match rg 0 8 x with
  | none => (1, 0, o)
  | some n => (0, sG o.1, (uG o.1 (nI n), o.2.1, sav o.2.2 o.1))
theorem growth_n {x : Int32} (h : rg 0 8 x = none) : A_setGrowth o x = (1, 0, o) := by unfold A_setGrowth; rw [h]
theorem growth_s {x : Int32} {n : Nat} (h : rg 0 8 x = some n) : A_setGrowth o x = (0, sG o.1, (uG o.1 (nI n), o.2.1, sav o.2.2 o.1)) := by unfold A_setGrowth; rw [h]
theorem inv_uG {s : sg} (h : Inv s) {n : Nat} (hn : n ≤ 8) : Inv (uG s (nI n)) := ⟨h.1, ⟨n, hn, rfl⟩, h.2.2⟩
theorem A_setGrowth_ok (h : OI o) (x : Int32) : OI (A_setGrowth o x).2.2 := by
  rcases rg_cs (a := 0) (b := 8) (by decide) (by decide) x with ⟨e, _⟩ | ⟨V, h1, h2, rfl, e⟩
  · rw [growth_n e]; exact h
  · rw [growth_s e]; exact h.sv (inv_uG h.1 h2)
theorem rc_.G {s : sg} (h : rc_ M k s) (x : Int32) : rc_ (mj_wI M k 1 x) k (uG s x) := by
  have f : fr_ k (k + 1) M (mj_wI M k 1 x) := fr_.wI (by omega) (by omega)
  obtain ⟨h1, h2, h3, h4, h5, h6, h7, h8, h9, h10, h11⟩ := h
  exact ⟨by rw [wI_k (by omega)]; exact h1, wI_s, by rw [wI_k (by omega)]; exact h3, h4.fr f (by omega), h5.fr f (by omega), fun v hv => by rw [f.1 _ (by omega)]; exact h6 v hv, fun v hv => by rw [f.1 _ (by omega)]; exact h7 v hv, fun v hv => by rw [f.1 _ (by omega)]; exact h8 v hv, h9, fun i hi => by rw [f.1 (k + 8) (by omega), f.1 (k + 9) (by omega)]; exact h10 i hi, h11⟩
theorem rr_.G {s : sg} (h : rr_ M k s) (x : Int32) : rr_ (mj_wI M (k + 1) 1 x) k (uG s x) := by
  unfold rr_
  rw [wI_row]
  obtain ⟨c1, c2, c3, c4, c5, c6, c7, c8, c9, c10, c11, c12, c13, c14, c15⟩ := h
  have ho : ∀ j, j ≠ 1 → upd (M.1 (k + 1)) 1 x j = M.1 (k + 1) j := fun j hj => pk_un hj
  exact ⟨by rw [ho 0 (by omega)]; exact c1, pk_us, fun w hw => by rw [ho _ (by omega)]; exact c3 w hw, fun t ht => by rw [ho _ (by omega)]; exact c4 t ht, fun t ht => by rw [ho _ (by omega)]; exact c5 t ht, by rw [ho 32 (by omega)]; exact c6, c7, fun i hi => by rw [ho _ (by omega)]; exact c8 i hi, by rw [ho 65 (by omega)]; exact c9, c10, fun i hi => by rw [ho _ (by omega)]; exact c11 i hi, by rw [ho 114 (by omega)]; exact c12, c13, fun i hi => by rw [ho _ (by omega), ho _ (by omega)]; exact c14 i hi, c15⟩
theorem c_setGrowth (h0 : is9s g k) (h : CR M k o) (x : Int32) : kX9_setGrowth k x g M (cq (A_setGrowth o x) k M) (cx (A_setGrowth o x) k M mj_IA mj_IA) := by
  refine eX9_setGrowth h0.1 ?_
  rw [show (0 : Int32) = nI 0 from rfl, show (8 : Int32) = nI 8 from rfl]
  rcases rg_cs (a := 0) (b := 8) (by decide) (by decide) x with ⟨e, hx⟩ | ⟨n, h1, h2, rfl, e⟩
  · exact ⟨fun _ => cx_1 h (growth_n e), fun h1 => ⟨fun h2 => absurd ⟨nle_lt.mp h1, h2⟩ hx, fun _ => cx_1 h (growth_n e)⟩⟩
  · refine ⟨fun hc => absurd hc (nI_nlt h1 (by omega)), fun _ => ⟨fun _ => ⟨_, c_saveState h0 h, fun M1 hq => ?_⟩, fun hc => absurd (nI_le h2 (by decide)) hc⟩⟩
    obtain ⟨q1, q2⟩ := hq
    have f : fr_ (k + 1) (k + 11) M1 (mj_wI M1 (k + 1) 1 (nI n)) := fr_.wI (by omega) (by omega)
    rw [growth_s e, h.1.2.1]
    exact ⟨rfl, rfl, q1.st f (q1.1.G _), (q2.wd (by omega) (by omega)).tr (f.wd (by omega) (by omega)).g⟩
theorem r_setGrowth (h0 : is10 g k) (h : RR M k o) (x : Int32) : kX10_setGrowth k x g M (rq (A_setGrowth o x) k M) := by
  refine eX10_setGrowth h0 ⟨_, r_in, fun v1 M1 hq => ?_⟩
  obtain ⟨rfl, rfl⟩ := hq
  rw [t1]
  rcases rg_cs (a := 0) (b := 8) (by decide) (by decide) x with ⟨e, hx⟩ | ⟨n, h1, h2, rfl, e⟩
  · rw [if_neg (show ¬ ((0 : Int32) ≤ x ∧ x ≤ 8) from hx)]; exact ⟨fun hc => absurd rfl hc, fun _ => r_fail (r := A_setGrowth o x) h0 h gf_.rf 1 (growth_n e) (fun _ _ h => h)⟩
  · rw [if_pos (show (0 : Int32) ≤ nI n ∧ nI n ≤ 8 from ⟨nI_pos' (by omega), nI_le h2 (by decide)⟩)]
    refine ⟨fun _ => ⟨_, r_save h0 h, fun M2 hq => ?_⟩, fun hc => absurd hc (by decide)⟩
    obtain ⟨q1, q2, q3⟩ := hq
    have f : rf_ k M2 (mj_wI M2 (k + 1) 1 (nI n)) := rf_.wI (by omega)
    rw [growth_s e]
    exact ⟨by rw [wI_k (by omega)]; exact q2, fun _ => q1.1.2.1, q1.rf f (q1.1.G _), q3.g.tr f.g⟩
def A_apply (o : ob) (x : Int32) : res := match ix 10 x with
  | none => (1, 0, o)
  | some t => (0, nI (dt t o.1).2, (ap1 t o.1, o.2.1, sav o.2.2 o.1))
theorem apply_n {x : Int32} (h : ix 10 x = none) : A_apply o x = (1, 0, o) := by unfold A_apply; rw [h]
theorem apply_s {x : Int32} {t : Nat} (h : ix 10 x = some t) : A_apply o x = (0, nI (dt t o.1).2, (ap1 t o.1, o.2.1, sav o.2.2 o.1)) := by unfold A_apply; rw [h]
theorem A_apply_ok (h : OI o) (x : Int32) : OI (A_apply o x).2.2 := by
  rcases ix_cs (n := 10) (by decide) x with ⟨e, _⟩ | ⟨t, h1, rfl, e⟩
  · rw [apply_n e]; exact h
  · rw [apply_s e]; exact h.sv (ap1_inv h.1 t)
theorem c_apply (h0 : is9s g k) (h : CR M k o) (hI : Inv o.1) (x : Int32) : kX9_apply k x g M (cq (A_apply o x) k M) (cx (A_apply o x) k M mj_IA mj_IA) := by
  refine eX9_apply h0.1 ⟨_, _, c_reqTechnique h0 x, fun X M' hq => ?_, fun M1 hq => ?_⟩
  · obtain ⟨rfl, rfl, e⟩ := hq; exact cx_1 h (apply_n e)
  · obtain ⟨rfl, t, ht, rfl, e⟩ := hq
    refine ⟨_, c_saveState h0 h, fun M2 hq => ?_⟩
    obtain ⟨q1, q2⟩ := hq
    refine ⟨_, c_perform (T9 h0) (S9 h0) q1.1 hI (by omega) ht, fun v M3 hq => ?_⟩
    rw [apply_s e]
    exact ⟨rfl, hq.2.1, q1.stt hq.2.2 hq.1, (q2.wd (by omega) (by omega)).tr hq.2.2.k.g⟩
theorem r_apply (h0 : is10 g k) (h : RR M k o) (hI : Inv o.1) (x : Int32) : kX10_apply k x g M (rq (A_apply o x) k M) := by
  refine eX10_apply h0 ⟨_, r_isTechnique x, fun v1 M1 hq => ?_⟩
  obtain ⟨rfl, rfl⟩ := hq
  rcases ix_cs (n := 10) (by decide) x with ⟨e, _⟩ | ⟨t, ht, rfl, e⟩
  · rw [e]; exact ⟨fun hc => absurd rfl hc, fun _ => r_fail (r := A_apply o x) h0 h gf_.rf 1 (apply_n e) (fun _ _ h => h)⟩
  · rw [e]
    refine ⟨fun _ => ⟨_, r_save h0 h, fun M2 hq => ?_⟩, fun hc => absurd hc s1⟩
    obtain ⟨q1, q2, q3⟩ := hq
    refine ⟨_, r_applies h0 q1.1 hI ht, fun v M3 hq => ?_⟩
    rw [apply_s e]
    exact ⟨by rw [hq.2.2.2.2 6 (by decide)]; exact q2, fun _ => hq.2.1, q1.rf hq.2.2 hq.1, q3.g.tr hq.2.2.g⟩
end CHG
