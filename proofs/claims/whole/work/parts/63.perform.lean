/-! A TECHNIQUE, BY ITS NUMBER -/
def dt (t : Nat) (s : sg) : sg × Nat := if sL s = [0] then (s, 0) else match t with
  | 0 => it unitF 2000 s
  | 1 => it pureF 2000 s
  | 2 => (uL s (subL (sL s)), (sL s).length - (subL (sL s)).length)
  | 3 => it strF 2000 s
  | 4 => it elF 2000 s
  | 5 => it blF 2000 s
  | 6 => it covF 2000 s
  | 7 => fls s
  | 8 => sbs s
  | _ => (uL s (viv (sL s)).1, (viv (sL s)).2)
def ap1 (t : Nat) (s : sg) : sg := uT (dt t s).1 t (sT (dt t s).1 t + nI (dt t s).2)
theorem dt_b {t : Nat} {s : sg} (h : sL s = [0]) : dt t s = (s, 0) := if_pos h
theorem dt_inv {s : sg} (h : Inv s) (t : Nat) : Inv (dt t s).1 ∧ (dt t s).2 ≤ 2000 := by
  unfold dt
  by_cases hb : sL s = [0]
  · rw [if_pos hb]; exact ⟨h, Nat.zero_le _⟩
  · rw [if_neg hb]
    have h48 := h.L48
    split
    · exact ⟨it_inv (I := Inv) (fun a b ha hb => (unitF_inv ha hb).1) _ _ h, it_le _ _ _⟩
    · exact ⟨it_inv (I := Inv) (fun a b ha hb => (pureF_inv ha hb).1) _ _ h, it_le _ _ _⟩
    · exact ⟨subL_inv h hb, by show (sL s).length - _ ≤ 2000; omega⟩
    · exact ⟨it_inv (I := Inv) (fun a b ha hb => (strF_inv ha hb).1) _ _ h, it_le _ _ _⟩
    · exact ⟨it_inv (I := Inv) (fun a b ha hb => (elF_inv ha hb).1) _ _ h, it_le _ _ _⟩
    · exact ⟨it_inv (I := Inv) (fun a b ha hb => (blF_inv ha hb).1) _ _ h, it_le _ _ _⟩
    · exact ⟨it_inv (I := Inv) (fun a b ha hb => (covF_inv ha hb).1) _ _ h, it_le _ _ _⟩
    · have hV := h.V10
      have := flA_inv (2 * sV s) 0 s 0 h (Nat.zero_add _)
      exact ⟨this.1, by have q := this.2.2; show (flA (2 * sV s) 0 s 0).2 ≤ 2000; omega⟩
    · have := sbs_inv h hb
      exact ⟨this.1, by omega⟩
    · refine ⟨viv_inv h hb, ?_⟩
      have := vaA_le (sL s).length 0 (sL s) 0
      show (vaA (sL s).length 0 (sL s) 0).2 ≤ 2000
      omega
theorem ap1_inv {s : sg} (h : Inv s) (t : Nat) : Inv (ap1 t s) := (dt_inv h t).1
theorem dt_9 {s : sg} (h : ¬ sL s = [0]) {t : Nat} (h0 : t ≠ 0) (h1 : t ≠ 1) (h2 : t ≠ 2) (h3 : t ≠ 3) (h4 : t ≠ 4) (h5 : t ≠ 5) (h6 : t ≠ 6) (h7 : t ≠ 7) (h8 : t ≠ 8) : dt t s = (uL s (viv (sL s)).1, (viv (sL s)).2) := by
  unfold dt
  rw [if_neg h]
  split <;> first | contradiction | rfl
section PER
variable {g : mj_S} {M : mj_M} {k kt : Nat} {s : sg}
theorem it_rc {M' : mj_M} {s' : sg} (h : rc_ M k s) (hf : fr_ (k + 1) (k + 3) M M') (hL : cl_ M' (k + 1) 48 (sL s')) (e : s' = uL s (sL s')) : rc_ M' k s' := by rw [e]; exact h.L hf hL
theorem c_perform (ht : is7 g kt) (h0 : is6 g k) (h : rc_ M k s) (hI : Inv s) (hd : k + 10 ≤ kt ∨ kt + 10 ≤ k) {t : Nat} (ht10 : t < 10) : kX7_perform kt k (nI t) g M (fun v M' => rc_ M' k (ap1 t s) ∧ v = nI (dt t s).2 ∧ tf_ k kt M M') := by
  have hL := h.2.2.2.1
  have fin : ∀ (v : Int32) (M1 : mj_M), rc_ M1 k (dt t s).1 → v = nI (dt t s).2 → tf_ k kt M M1 → ∃ q2 : mj_M → Prop, kX6_addToTotal k (nI t) v g M1 q2 ∧ ∀ M2, q2 M2 → (fun v M' => rc_ M' k (ap1 t s) ∧ v = nI (dt t s).2 ∧ tf_ k kt M M') v M2 := by
    intro v M1 a1 a2 a3
    refine ⟨_, c_addToTotal h0 a1 ht10 v, fun M2 hq => ⟨?_, a2, a3.tr (hq.2.t (by omega))⟩⟩
    rw [a2] at hq; exact hq.1
  refine eX7_perform ht h0 ⟨_, c_isContradictory h0.2.1.2 hL, fun v1 M1 hq => ?_⟩
  obtain ⟨rfl, rfl⟩ := hq
  by_cases hb : sL s = [0]
  · rw [if_pos hb]
    refine ⟨fun _ => ?_, fun hc => absurd hc (by decide)⟩
    have e := dt_b (t := t) hb
    exact fin 0 M1 (by rw [e]; exact h) (by rw [e]; rfl) tf_.rf
  rw [if_neg hb]
  have e : ∀ j, j < 10 → nI t = nI j → t = j := fun j hj e => (nI_eq (by omega) (by omega)).mp e
  refine ⟨fun hc => absurd rfl hc, fun _ => ⟨fun he => ?_, fun he => ?_, fun he => ?_, fun he => ?_, fun he => ?_, fun he => ?_, fun he => ?_, fun he => ?_, fun he => ?_, fun he => ?_, fun he => ?_⟩⟩
  · have ej := e 0 (by decide) he
    have ed : dt t s = it unitF 2000 s := by rw [ej]; exact if_neg hb
    exact ⟨_, c_fixUnits ht h0 h hI, fun v M3 hq => fin v M3 (by rw [ed]; exact hq.1) (by rw [ed]; exact hq.2.1) (hq.2.2.t (by omega))⟩
  · have ej := e 1 (by decide) he
    have ed : dt t s = it pureF 2000 s := by rw [ej]; exact if_neg hb
    exact ⟨_, c_fixPureLiterals ht h0 h hI, fun v M3 hq => fin v M3 (by rw [ed]; exact hq.1) (by rw [ed]; exact hq.2.1) (hq.2.2.t (by omega))⟩
  · have ej := e 2 (by decide) he
    have ed : dt t s = (uL s (subL (sL s)), (sL s).length - (subL (sL s)).length) := by rw [ej]; exact if_neg hb
    exact ⟨_, c_removeSubsumed ht h0.2.1.2 hL hI.L48, fun v M3 hq => fin v M3 (by rw [ed]; exact h.L hq.2.2 hq.1) (by rw [ed]; exact hq.2.1) (hq.2.2.t (by omega))⟩
  · have ej := e 3 (by decide) he
    have ed : dt t s = it strF 2000 s := by rw [ej]; exact if_neg hb
    exact ⟨_, c_strengthenAll ht h0.2.1.2 hL hI (by decide), fun v M3 hq => fin v M3 (by rw [ed]; exact it_rc h hq.2.2 hq.1 (it_uL (fun a b h => strF_uL h) _ _)) (by rw [ed]; exact hq.2.1) (hq.2.2.t (by omega))⟩
  · have ej := e 4 (by decide) he
    have ed : dt t s = it elF 2000 s := by rw [ej]; exact if_neg hb
    exact ⟨_, c_eliminateAll ht h0 h hI hd, fun v M3 hq => fin v M3 (by rw [ed]; exact hq.1) (by rw [ed]; exact hq.2.1) hq.2.2⟩
  · have ej := e 5 (by decide) he
    have ed : dt t s = it blF 2000 s := by rw [ej]; exact if_neg hb
    exact ⟨_, c_removeBlocked ht h0 h hI, fun v M3 hq => fin v M3 (by rw [ed]; exact hq.1) (by rw [ed]; exact hq.2.1) (hq.2.2.t (by omega))⟩
  · have ej := e 6 (by decide) he
    have ed : dt t s = it covF 2000 s := by rw [ej]; exact if_neg hb
    exact ⟨_, c_removeCovered ht h0 h hI hd, fun v M3 hq => fin v M3 (by rw [ed]; exact hq.1) (by rw [ed]; exact hq.2.1) hq.2.2⟩
  · have ej := e 7 (by decide) he
    have ed : dt t s = fls s := by rw [ej]; exact if_neg hb
    exact ⟨_, c_fixFailedLiterals ht h0 h hI, fun v M3 hq => fin v M3 (by rw [ed]; exact hq.1) (by rw [ed]; exact hq.2.1) (hq.2.2.t (by omega))⟩
  · have ej := e 8 (by decide) he
    have ed : dt t s = sbs s := by rw [ej]; exact if_neg hb
    exact ⟨_, c_substituteAll ht h0 h hI hd, fun v M3 hq => fin v M3 (by rw [ed]; exact hq.1) (by rw [ed]; exact hq.2.1) hq.2.2⟩
  · have ej := e 9 (by decide) he
    have ed : dt t s = (uL s (viv (sL s)).1, (viv (sL s)).2) := by rw [ej]; exact if_neg hb
    exact ⟨_, c_vivifyAll ht h0.2.1.2 hL hI.nice (by decide), fun v M3 hq => fin v M3 (by rw [ed]; exact h.L hq.2.2 hq.1) (by rw [ed]; exact hq.2.1) (hq.2.2.t (by omega))⟩
  · have : t = 0 ∨ t = 1 ∨ t = 2 ∨ t = 3 ∨ t = 4 ∨ t = 5 ∨ t = 6 ∨ t = 7 ∨ t = 8 ∨ t = 9 := by omega
    obtain ⟨a0, a1, a2, a3, a4, a5, a6, a7, a8, a9⟩ := he
    rcases this with q | q | q | q | q | q | q | q | q | q
    · exact absurd (by rw [q]; rfl) a0
    · exact absurd (by rw [q]; rfl) a1
    · exact absurd (by rw [q]; rfl) a2
    · exact absurd (by rw [q]; rfl) a3
    · exact absurd (by rw [q]; rfl) a4
    · exact absurd (by rw [q]; rfl) a5
    · exact absurd (by rw [q]; rfl) a6
    · exact absurd (by rw [q]; rfl) a7
    · exact absurd (by rw [q]; rfl) a8
    · exact absurd (by rw [q]; rfl) a9
theorem r_does (h0 : is10 g k) (h : rr_ M k s) (hI : Inv s) {t : Nat} (ht10 : t < 10) : kX10_does k (nI t) g M (fun v M' => rr_ M' k (dt t s).1 ∧ v = nI (dt t s).2 ∧ rf_ k M M') := by
  refine eX10_does h0 ⟨_, r_isBroken h0 h, fun v1 M1 hq => ?_⟩
  obtain ⟨rfl, rfl⟩ := hq
  by_cases hb : sL s = [0]
  · rw [if_pos hb, dt_b hb]
    exact ⟨fun hc => absurd hc (by decide), fun _ => ⟨h, rfl, rf_.rf⟩⟩
  rw [if_neg hb]
  have e : ∀ j, j < 10 → nI t = nI j → t = j := fun j hj e => (nI_eq (by omega) (by omega)).mp e
  refine ⟨fun _ => ⟨fun he => ?_, fun he => ?_, fun he => ?_, fun he => ?_, fun he => ?_, fun he => ?_, fun he => ?_, fun he => ?_, fun he => ?_, fun he => ?_⟩, fun hc => absurd rfl hc⟩
  · have ej := e 0 (by decide) he
    have ed : dt t s = it unitF 2000 s := by rw [ej]; exact if_neg hb
    rw [ed]
    exact ⟨_, r_units h0 h hI, fun v M3 hq => ⟨hq.1, hq.2.1, hq.2.2.r (by omega)⟩⟩
  · have ej := e 1 (by decide) he
    have ed : dt t s = it pureF 2000 s := by rw [ej]; exact if_neg hb
    rw [ed]
    exact ⟨_, r_pures h0 h hI, fun v M3 hq => ⟨hq.1, hq.2.1, hq.2.2.r (by omega)⟩⟩
  · have ej := e 2 (by decide) he
    have ed : dt t s = (uL s (subL (sL s)), (sL s).length - (subL (sL s)).length) := by rw [ej]; exact if_neg hb
    rw [ed]
    exact ⟨_, r_subsumes h0 h, fun v M3 hq => hq⟩
  · have ej := e 3 (by decide) he
    have ed : dt t s = it strF 2000 s := by rw [ej]; exact if_neg hb
    rw [ed]
    exact ⟨_, r_strengthens h0 h hI, fun v M3 hq => ⟨hq.1, hq.2.1, hq.2.2.r (by omega)⟩⟩
  · have ej := e 4 (by decide) he
    have ed : dt t s = it elF 2000 s := by rw [ej]; exact if_neg hb
    rw [ed]
    exact ⟨_, r_eliminations h0 h hI, fun v M3 hq => hq⟩
  · have ej := e 5 (by decide) he
    have ed : dt t s = it blF 2000 s := by rw [ej]; exact if_neg hb
    rw [ed]
    exact ⟨_, r_blocks h0 h hI, fun v M3 hq => ⟨hq.1, hq.2.1, hq.2.2.r (by omega)⟩⟩
  · have ej := e 6 (by decide) he
    have ed : dt t s = it covF 2000 s := by rw [ej]; exact if_neg hb
    rw [ed]
    exact ⟨_, r_covers h0 h hI, fun v M3 hq => hq⟩
  · have ej := e 7 (by decide) he
    have ed : dt t s = fls s := by rw [ej]; exact if_neg hb
    rw [ed]
    exact ⟨_, r_failures h0 h hI, fun v M3 hq => ⟨hq.1, hq.2.1, hq.2.2.r (by omega)⟩⟩
  · have ej := e 8 (by decide) he
    have ed : dt t s = sbs s := by rw [ej]; exact if_neg hb
    rw [ed]
    exact ⟨_, r_substitutes h0 h hI hb, fun v M3 hq => hq⟩
  · obtain ⟨a0, a1, a2, a3, a4, a5, a6, a7, a8⟩ := he
    have ed : dt t s = (uL s (viv (sL s)).1, (viv (sL s)).2) := dt_9 hb (fun q => a0 (by rw [q]; rfl)) (fun q => a1 (by rw [q]; rfl)) (fun q => a2 (by rw [q]; rfl)) (fun q => a3 (by rw [q]; rfl)) (fun q => a4 (by rw [q]; rfl)) (fun q => a5 (by rw [q]; rfl)) (fun q => a6 (by rw [q]; rfl)) (fun q => a7 (by rw [q]; rfl)) (fun q => a8 (by rw [q]; rfl))
    rw [ed]
    exact ⟨_, r_vivifies h0 h hI.nice (fun d hd => (hI.ok' hb d hd).1), fun v M3 hq => hq⟩
theorem ra_T {a a' : Nat → Int32} {t : Nat} {x : Int32} (h : ra_ a s) (ht : t < 10) (h1 : a' (2 + t) = x) (ho : ∀ j, j ≠ 2 + t → a' j = a j) : ra_ a' (uT s t x) := by
  obtain ⟨c1, c2, c3, c4, c5, c6, c7, c8, c9, c10, c11, c12, c13, c14, c15⟩ := h
  have hb : ∀ j, 12 ≤ j → a' j = a j := fun j hj => ho j (by omega)
  refine ⟨by rw [ho 0 (by omega)]; exact c1, by rw [ho 1 (by omega)]; exact c2, fun w hw => ?_, fun t ht => by rw [hb _ (by omega)]; exact c4 t ht, fun t ht => by rw [hb _ (by omega)]; exact c5 t ht, by rw [hb 32 (by omega)]; exact c6, c7, fun i hi => by rw [hb _ (by omega)]; exact c8 i hi, by rw [hb 65 (by omega)]; exact c9, c10, fun i hi => by rw [hb _ (by omega)]; exact c11 i hi, by rw [hb 114 (by omega)]; exact c12, c13, fun i hi => by rw [hb _ (by omega), hb _ (by omega)]; exact c14 i hi, c15⟩
  show a' (2 + w) = upd (sT s) t x w
  by_cases e : w = t
  · subst e; rw [h1, upd_s]
  · rw [ho _ (by omega), upd_n e]; exact c3 w hw
theorem r_addTotal (h : rr_ M k s) {t : Nat} (ht : t < 10) (v : Int32) : rr_ (mj_wI M (k + 1) (2 + t) (sT s t + v)) k (uT s t (sT s t + v)) := by
  unfold rr_
  rw [wI_row]
  exact ra_T h ht pk_us (fun j hj => pk_un hj)
theorem r_applies (h0 : is10 g k) (h : rr_ M k s) (hI : Inv s) {t : Nat} (ht10 : t < 10) : kX10_applies k (nI t) g M (fun v M' => rr_ M' k (ap1 t s) ∧ v = nI (dt t s).2 ∧ rf_ k M M') := by
  refine eX10_applies h0 ⟨_, r_does h0 h hI ht10, fun v M1 hq => ?_⟩
  obtain ⟨q1, rfl, q3⟩ := hq
  rw [i2, nI_clamp (show 2 + t < 2 ^ 31 by omega), q1.2.2.1 t ht10]
  exact ⟨vp_in_nI (by omega) (by decide), vp_in_nI (by omega) (by decide), r_addTotal q1 ht10 _, rfl, q3.tr (rf_.wI (by omega))⟩
end PER
