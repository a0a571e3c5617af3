/-! FAILED LITERALS -/
def flB (s : sg) (l : Nat) : Bool := !decide (sL s = [0]) && (decide (sS s (l / 2) = 0) && (prop (sL s) (-1) (bi l)).isNone)
def flS (s : sg) (l : Nat) : sg := (it unitF 2000 (fixS s (fl l))).1
def flA : Nat → Nat → sg → Nat → sg × Nat
  | 0, _, s, c => (s, c)
  | m + 1, l, s, c => if flB s l = true then flA m (l + 1) (flS s l) (c + 1) else flA m (l + 1) s c
theorem flA_t {m l c : Nat} {s : sg} (h : flB s l = true) : flA (m + 1) l s c = flA m (l + 1) (flS s l) (c + 1) := if_pos h
theorem flA_f {m l c : Nat} {s : sg} (h : flB s l = false) : flA (m + 1) l s c = flA m (l + 1) s c := if_neg (by rw [h]; decide)
theorem flB_b {l : Nat} {s : sg} (h : sL s = [0]) : flB s l = false := by unfold flB; rw [decide_eq_true h]; rfl
theorem flA_b {s : sg} (h : sL s = [0]) : ∀ m l c, flA m l s c = (s, c)
  | 0, _, _ => rfl
  | m + 1, l, c => by rw [flA_f (flB_b h)]; exact flA_b h m (l + 1) c
theorem unitF_V {s s' : sg} (h : unitF s = some s') : sV s' = sV s := by
  unfold unitF at h
  cases e : fu (sL s) with
  | none => rw [e] at h; cases h
  | some i => rw [e] at h; cases h; rfl
theorem flS_inv {s : sg} (h : Inv s) {l : Nat} (hl : l < 2 * sV s) (ha : sS s (l / 2) = 0) : Inv (flS s l) ∧ sV (flS s l) = sV s := by
  have hf := fl_lt (n := sV s) hl
  have h1 := inv_fix h (l := fl l) hf (by rw [fl_div]; exact ha)
  refine ⟨it_inv (f := unitF) (I := Inv) (fun a b ha hb => (unitF_inv ha hb).1) 2000 _ h1.1, ?_⟩
  exact it_inv (f := unitF) (I := fun x => sV x = sV s) (fun a b ha hb => (unitF_V hb).trans ha) 2000 _ rfl
theorem flB_ok {s : sg} {l : Nat} (h : flB s l = true) : ¬ sL s = [0] ∧ sS s (l / 2) = 0 := by
  unfold flB at h
  simp only [Bool.and_eq_true, Bool.not_eq_true', decide_eq_false_iff_not, decide_eq_true_eq] at h
  exact ⟨h.1, h.2.1⟩
theorem flA_inv : ∀ (m l : Nat) (s : sg) (c : Nat), Inv s → l + m = 2 * sV s → Inv (flA m l s c).1 ∧ sV (flA m l s c).1 = sV s ∧ (flA m l s c).2 ≤ c + m
  | 0, _, s, c, h, _ => ⟨h, rfl, Nat.le_refl _⟩
  | m + 1, l, s, c, h, hl => by
    cases e : flB s l with
    | false =>
      rw [flA_f e]
      have := flA_inv m (l + 1) s c h (by omega)
      exact ⟨this.1, this.2.1, Nat.le_trans this.2.2 (by omega)⟩
    | true =>
      rw [flA_t e]
      have h2 := flS_inv h (l := l) (by omega) (flB_ok e).2
      have := flA_inv m (l + 1) (flS s l) (c + 1) h2.1 (by rw [h2.2]; omega)
      exact ⟨this.1, this.2.1.trans h2.2, Nat.le_trans this.2.2 (by omega)⟩
def fls (s : sg) : sg × Nat := flA (2 * sV s) 0 s 0
section FAI
variable {g : mj_S} {M : mj_M} {k kt n : Nat} {s : sg}
theorem c_fixFailedLiterals (ht : is7 g kt) (h0 : is6 g k) (h : rc_ M k s) (hI : Inv s) : kX7_fixFailedLiterals kt k g M (fun v M' => rc_ M' k (fls s).1 ∧ v = nI (fls s).2 ∧ fr_ k (k + 10) M M') := by
  have key : ∀ (m l c : Nat) (s : sg) (M1 : mj_M), l + m = 2 * sV s → Inv s → rc_ M1 k s → fr_ k (k + 10) M M1 → LX7_fixFailedLiterals_4 kt k (nI c) (nI l) g M1 (fun v M' => rc_ M' k (flA m l s c).1 ∧ v = nI (flA m l s c).2 ∧ fr_ k (k + 10) M M') := by
    intro m
    induction m with
    | zero =>
      intro l c s M1 hl hI h hf
      have hV := hI.V10
      refine bX7_fixFailedLiterals_4 ht h0 ⟨fun _ => ⟨h, rfl, hf⟩, fun hc => absurd ?_ hc⟩
      rw [h.1, two_nI, show l = 2 * sV s by omega]; exact Int32.le_refl _
    | succ m ih =>
      intro l c s M1 hl hI h hf
      have hV := hI.V10
      refine bX7_fixFailedLiterals_4 ht h0 ⟨fun hc => absurd hc (by rw [h.1, two_nI]; exact nI_ge (by omega) (by omega)), fun _ => ⟨_, c_isContradictory h0.2.1.2 h.2.2.2.1, fun v1 M2 hq => ?_⟩⟩
      obtain ⟨rfl, rfl⟩ := hq
      by_cases hb : sL s = [0]
      · rw [if_pos hb, flA_b hb]
        exact ⟨fun _ => ⟨h, rfl, hf⟩, fun hx => absurd hx (by decide)⟩
      rw [if_neg hb, shr1 l (by omega), nI_1]
      refine ⟨fun hx => absurd rfl hx, fun _ => ⟨_, c_isActive h0 h (show l / 2 < 10 by omega), fun v2 M3 hq => ?_⟩⟩
      obtain ⟨rfl, rfl⟩ := hq
      by_cases ha : sS s (l / 2) = 0
      · rw [if_pos ha]
        refine ⟨fun hx => absurd hx (by decide), fun _ => ⟨_, c_closure h0.2.1.2 h.2.2.2.1 _ _, fun v3 M4 hq => ?_⟩⟩
        obtain ⟨rfl, rfl⟩ := hq
        have hp := prop_m1 (L := sL s) hI.nice (e := -1) (l20_bi (l := l) (by omega))
        refine ⟨fun hx => ?_, fun hx => ?_⟩
        · have e : flB s l = false := by
            unfold flB
            cases e : prop (sL s) (-1) (bi l) with
            | none => exact absurd (hp.mpr e) hx
            | some y => simp
          rw [flA_f e]; exact ih (l + 1) c s M4 (by omega) hI h hf
        · have e : flB s l = true := by unfold flB; rw [hp.mp hx, decide_eq_false hb, decide_eq_true ha]; rfl
          have hfl := fl_lt (n := sV s) (i := l) (by omega)
          have i1 := inv_fix hI (l := fl l) hfl (by rw [fl_div]; exact ha)
          have i2 := flS_inv hI (l := l) (by omega) ha
          rw [xor1 l (by omega)]
          refine ⟨_, c_fix h0 h (l := fl l) (by omega) (ina_r hI hfl (by rw [fl_div]; exact ha)), fun M5 q5 => ⟨_, c_fixUnits ht h0 q5.1 i1.1, fun v6 M6 q6 => ?_⟩⟩
          rw [flA_t e, nI_1]
          exact ih (l + 1) (c + 1) (flS s l) M6 (by rw [i2.2]; omega) i2.1 q6.1 ((hf.tr q5.2).tr q6.2.2)
      · rw [if_neg ha]
        refine ⟨fun _ => ?_, fun hx => absurd rfl hx⟩
        rw [flA_f (by unfold flB; rw [decide_eq_false ha]; simp)]; exact ih (l + 1) c s M3 (by omega) hI h hf
  exact eX7_fixFailedLiterals ht h0 (key (2 * sV s) 0 0 s M (Nat.zero_add _) hI h fr_.rf)
theorem r_failures (h0 : is10 g k) (h : rr_ M k s) (hI : Inv s) : kX10_failures k g M (fun v M' => rr_ M' k (fls s).1 ∧ v = nI (fls s).2 ∧ fr_ (k + 1) (k + 2) M M') := by
  have key : ∀ (m l c : Nat) (s : sg) (M1 : mj_M), l + m = 2 * sV s → Inv s → rr_ M1 k s → fr_ (k + 1) (k + 2) M M1 → LX10_failures_4 k (nI c) (nI l) g M1 (fun v M' => rr_ M' k (flA m l s c).1 ∧ v = nI (flA m l s c).2 ∧ fr_ (k + 1) (k + 2) M M') := by
    intro m
    induction m with
    | zero =>
      intro l c s M1 hl hI h hf
      have hV := hI.V10
      refine bX10_failures_4 h0 ⟨fun _ => ⟨h, rfl, hf⟩, fun hc => absurd ?_ hc⟩
      rw [h.V, two_nI, show l = 2 * sV s by omega]; exact Int32.le_refl _
    | succ m ih =>
      intro l c s M1 hl hI h hf
      have hV := hI.V10
      refine bX10_failures_4 h0 ⟨fun hc => absurd hc (by rw [h.V, two_nI]; exact nI_ge (by omega) (by omega)), fun _ => ⟨_, r_isBroken h0 h, fun v1 M2 hq => ?_⟩⟩
      obtain ⟨rfl, rfl⟩ := hq
      rw [nI_1]
      by_cases hb : sL s = [0]
      · rw [if_pos hb]
        refine ⟨fun _ => ?_, fun hx => absurd hx (by decide)⟩
        rw [flA_f (flB_b hb)]; exact ih (l + 1) c s M2 (by omega) hI h hf
      rw [if_neg hb, div2 l (by omega)]
      refine ⟨fun hx => absurd rfl hx, fun _ => ⟨_, r_isActive h0 h (show l / 2 < 10 by omega), fun v2 M3 hq => ?_⟩⟩
      obtain ⟨rfl, rfl⟩ := hq
      by_cases ha : sS s (l / 2) = 0
      · rw [if_pos ha]
        refine ⟨fun hx => absurd hx (by decide), fun _ => ⟨_, r_propagated h0 h hI.nice _ (l20_bi (l := l) (by omega)), fun v3 M4 hq => ?_⟩⟩
        obtain ⟨rfl, rfl⟩ := hq
        have hp := prop_m1 (L := sL s) hI.nice (e := -1) (l20_bi (l := l) (by omega))
        refine ⟨fun hx => ?_, fun hx => ?_⟩
        · have e : flB s l = false := by
            unfold flB
            cases e : prop (sL s) (-1) (bi l) with
            | none => exact absurd (hp.mpr e) hx
            | some y => simp
          rw [flA_f e]; exact ih (l + 1) c s M4 (by omega) hI h hf
        · have e : flB s l = true := by unfold flB; rw [hp.mp hx, decide_eq_false hb, decide_eq_true ha]; rfl
          have hfl := fl_lt (n := sV s) (i := l) (by omega)
          have i1 := inv_fix hI (l := fl l) hfl (by rw [fl_div]; exact ha)
          have i2 := flS_inv hI (l := l) (by omega) ha
          rw [xor1 l (by omega)]
          refine ⟨_, r_fixes h0 h (l := fl l) (by omega) (ina_r hI hfl (by rw [fl_div]; exact ha)), fun M5 q5 => ⟨_, r_units h0 q5.1 i1.1, fun v6 M6 q6 => ?_⟩⟩
          rw [flA_t e, nI_1]
          exact ih (l + 1) (c + 1) (flS s l) M6 (by rw [i2.2]; omega) i2.1 q6.1 ((hf.tr q5.2).tr q6.2.2)
      · rw [if_neg ha]
        refine ⟨fun _ => ?_, fun hx => absurd rfl hx⟩
        rw [flA_f (by unfold flB; rw [decide_eq_false ha]; simp)]; exact ih (l + 1) c s M3 (by omega) hI h hf
  exact eX10_failures h0 (key (2 * sV s) 0 0 s M (Nat.zero_add _) hI h fr_.rf)
end FAI
