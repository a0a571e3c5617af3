/-! ELIMINATION: the class -/
/-- frames of the class's techniques: the state at k, the techniques at kt -/
def tf_ (k kt : Nat) (M M' : mj_M) : Prop := M'.2 = M.2 ∧ ∀ a, (a < k ∨ k + 10 ≤ a) → (a < kt ∨ kt + 10 ≤ a) → M'.1 a = M.1 a
theorem tf_.rf {k kt : Nat} {M : mj_M} : tf_ k kt M M := ⟨rfl, fun _ _ _ => rfl⟩
theorem tf_.tr {k kt : Nat} {M M1 M2 : mj_M} (h1 : tf_ k kt M M1) (h2 : tf_ k kt M1 M2) : tf_ k kt M M2 := ⟨h2.1.trans h1.1, fun a ha hb => (h2.2 a ha hb).trans (h1.2 a ha hb)⟩
theorem fr_.t {k kt lo hi : Nat} {M M' : mj_M} (h : fr_ lo hi M M') (hk : (k ≤ lo ∧ hi ≤ k + 10) ∨ (kt ≤ lo ∧ hi ≤ kt + 10)) : tf_ k kt M M' := ⟨h.2, fun a ha hb => h.1 a (by omega)⟩
theorem c_clear1 {g : mj_S} {M : mj_M} {k n : Nat} (h0 : is0 g k n) (hn : n ≤ 1000) : kX0_clear k g M (fun M' => cl_ M' k n [] ∧ fr_ k (k + 2) M M') := by
  refine eX0_clear h0 ⟨⟨?_, by simp, hn, fun i hi => by simp at hi⟩, fr_.wI (by omega) (by omega)⟩
  simp [mj_wI, mj_up2]; exact nI_0.symm
def ap (lim : Nat) (F X : List Int32) : Prop := F = X ∨ (lim < F.length ∧ lim < X.length)
theorem ap.eq {lim : Nat} {F X : List Int32} (h : ap lim F X) (hl : F.length ≤ lim) : F = X := by
  rcases h with q | q
  · exact q
  · omega
theorem ap.big {lim : Nat} {F X Y : List Int32} (h : ap lim F X) (hl : lim < F.length) (hXY : X.length ≤ Y.length) : ap lim F Y := by
  rcases h with q | q
  · exact Or.inr ⟨hl, by rw [q] at hl; omega⟩
  · exact Or.inr ⟨hl, by omega⟩
section ELI
variable {g : mj_S} {M : mj_M} {k kt kr n : Nat} {s : sg} {L : List Int32}
theorem c_find (h5 : is5 g kr) (h0 : is0 g k n) (h : cl_ M k n L) (hd : k + 2 ≤ kr + 1 ∨ kr + 3 ≤ k) (hn : nice L) (h48 : L.length ≤ 48) {v lim : Nat} (hv : v < 10) (hlim : lim < 2 ^ 31) : kX5_find kr k (nI v) (nI lim) g M (fun M' => (∃ F, cl_ M' (kr + 1) 576 F ∧ ap lim F (rs L v)) ∧ fr_ (kr + 1) (kr + 3) M M') := by
  have hlt := h.lt
  have hq0 := h5.2.2
  refine eX5_find h5 h0 ⟨_, c_clear1 hq0 (by decide), fun M1 hq => ?_⟩
  rw [two_nI, show (1 : Int32) <<< (nI (2 * v) &&& 31) = bi (2 * v) from rfl, sh1 v hv]
  have outer : ∀ m i, i + m = L.length → ∀ M2 F, cl_ M2 (kr + 1) 576 F → ap lim F (rsI L v i) → fr_ (kr + 1) (kr + 3) M M2 → LX5_find_23 kr k n (nI lim) (bi (2 * v)) (bi (2 * v + 1)) (nI i) g M2 (fun M' => (∃ F, cl_ M' (kr + 1) 576 F ∧ ap lim F (rs L v)) ∧ fr_ (kr + 1) (kr + 3) M M') := by
    intro m
    induction m with
    | zero =>
      intro i hi M2 F hF ha hf
      refine bX5_find_23 h5 h0 ⟨_, c_size h0 (h.fr hf hd), fun v1 M3 hq => ?_⟩
      obtain ⟨rfl, rfl⟩ := hq
      refine ⟨fun _ => ⟨⟨F, hF, ?_⟩, hf⟩, fun hc => absurd (nI_le (by omega) (by omega)) hc⟩
      rw [show i = L.length by omega] at ha; exact ha
    | succ m ih =>
      intro i hi M2 F hF ha hf
      have hil : i < L.length := by omega
      refine bX5_find_23 h5 h0 ⟨_, c_size h0 (h.fr hf hd), fun v1 M3 hq => ?_⟩
      obtain ⟨rfl, rfl⟩ := hq
      refine ⟨fun hc => absurd hc (nI_ge (by omega) hlt), fun _ => ⟨_, c_at h0 (h.fr hf hd) (i := i) (by omega), fun v2 M4 hq => ?_⟩⟩
      obtain ⟨rfl, rfl⟩ := hq
      cases hb : bt (L.getD i 0) (2 * v) with
      | false =>
        have nx := ih (i + 1) (by omega) M4 F hF (by rw [rsI_f hb]; exact ha) hf
        refine bX5_find_43 h5 h0 ⟨_, c_size h0 (h.fr hf hd), fun v1 M5 hq => ?_⟩
        obtain ⟨rfl, rfl⟩ := hq
        rw [nI_1]
        exact ⟨fun _ => nx, fun _ => ⟨fun _ => nx, fun hc => absurd ((and_bi (by omega)).mpr hb) hc⟩⟩
      | true =>
        have inner : ∀ q j, j + q = L.length → ∀ M2 F, cl_ M2 (kr + 1) 576 F → ap lim F (rsJ L v i j (rsI L v i)) → fr_ (kr + 1) (kr + 3) M M2 → LX5_find_43 kr k n (nI lim) (bi (2 * v)) (bi (2 * v + 1)) (nI i) (L.getD i 0) (nI j) g M2 (fun M' => (∃ F, cl_ M' (kr + 1) 576 F ∧ ap lim F (rs L v)) ∧ fr_ (kr + 1) (kr + 3) M M') := by
          intro q
          induction q with
          | zero =>
            intro j hj M2 F hF ha hf
            refine bX5_find_43 h5 h0 ⟨_, c_size h0 (h.fr hf hd), fun v1 M5 hq => ?_⟩
            obtain ⟨rfl, rfl⟩ := hq
            refine ⟨fun _ => ?_, fun hc => absurd (nI_le (by omega) (by omega)) hc⟩
            rw [nI_1]
            refine ih (i + 1) (by omega) M5 F hF ?_ hf
            rw [rsI_t hb]
            rw [show j = L.length by omega] at ha; exact ha
          | succ q ihq =>
            intro j hj M2 F hF ha hf
            have hjl : j < L.length := by omega
            refine bX5_find_43 h5 h0 ⟨_, c_size h0 (h.fr hf hd), fun v1 M5 hq => ?_⟩
            obtain ⟨rfl, rfl⟩ := hq
            refine ⟨fun hc => absurd hc (nI_ge hjl hlt), fun _ => ⟨fun hc => ?_, fun _ => ⟨_, c_size hq0 hF, fun v2 M6 hq => ?_⟩⟩⟩
            · rw [and_bi (by omega), hb] at hc; cases hc
            · obtain ⟨rfl, rfl⟩ := hq
              have hFl := hF.lt
              rw [nI_ltI (by omega) (by omega), nI_1]
              refine ⟨fun hc => ?_, fun hc => ⟨_, c_at h0 (h.fr hf hd) (i := j) (by omega), fun v3 M7 hq => ?_⟩⟩
              · refine ih (i + 1) (by omega) M6 F hF ?_ hf
                rw [rsI_t hb]
                exact ha.big hc (rsJ_le (by omega))
              · obtain ⟨rfl, rfl⟩ := hq
                have eF := ha.eq (by omega)
                rw [nI_1]
                have nx : rsC L v i j F = false → LX5_find_43 kr k n (nI lim) (bi (2 * v)) (bi (2 * v + 1)) (nI i) (L.getD i 0) (nI (j + 1)) g M7 (fun M' => (∃ F, cl_ M' (kr + 1) 576 F ∧ ap lim F (rs L v)) ∧ fr_ (kr + 1) (kr + 3) M M') := fun hcc => ihq (j + 1) (by omega) M7 F hF (by rw [rsJ_s, ← eF, rsT_f hcc]; exact Or.inl rfl) hf
                refine ⟨fun hc => nx ?_, fun hc => ⟨_, c_hasComplementary _, fun v4 M8 hq => ?_⟩⟩
                · unfold rsC; rw [(and_bi (by omega)).mp hc]; rfl
                · obtain ⟨rfl, rfl⟩ := hq
                  have hbj : bt (L.getD j 0) (2 * v + 1) = true := by
                    cases e : bt (L.getD j 0) (2 * v + 1) with
                    | true => rfl
                    | false => exact absurd ((and_bi (by omega)).mpr e) hc
                  refine ⟨fun hc2 => nx ?_, fun hc2 => ⟨_, c_has hq0 hF _, fun v5 M9 hq => ?_⟩⟩
                  · have : tv (rsR L v i j) = true := (if01 _).2.mp hc2
                    unfold rsC; rw [this]; simp
                  · obtain ⟨rfl, rfl⟩ := hq
                    have ht : tv (rsR L v i j) = false := (if01 _).1.mp hc2
                    refine ⟨fun hc3 => nx ?_, fun hc3 => ⟨_, c_add hq0 hF ?_ _, fun M10 hq => ?_⟩⟩
                    · have : rsR L v i j ∈ F := Classical.byContradiction (fun hh => hc3 (if_neg hh))
                      unfold rsC; rw [decide_eq_true this]; simp
                    · rw [eF]; exact rs_room hn h48 hv hil hjl hb hbj
                    · have hm : ¬ rsR L v i j ∈ F := fun hh => absurd ((if_pos hh).symm.trans hc3) (by decide)
                      refine ihq (j + 1) (by omega) M10 (F ++ [rsR L v i j]) hq.1 ?_ (hf.tr hq.2)
                      rw [rsJ_s, ← eF, rsT_t (by unfold rsC; rw [hbj, ht, decide_eq_false hm]; rfl)]
                      exact Or.inl rfl
        exact inner L.length 0 (by omega) M4 F hF ha hf
  exact outer L.length 0 (by omega) M1 [] hq.1 (Or.inl rfl) hq.2
theorem c_findElimination (ht : is7 g kt) (h0 : is6 g k) (h : rc_ M k s) (hI : Inv s) (hd : k + 10 ≤ kt ∨ kt + 10 ≤ k) {v : Nat} (hv : v < 10) : kX7_findElimination kt k (nI v) g M (fun r M' => r = (if me s v then 1 else 0) ∧ (me s v = true → cl_ M' (kt + 2) 576 (rs (sL s) v)) ∧ fr_ (kt + 2) (kt + 4) M M') := by
  have hL := h.2.2.2.1
  have h48 := hI.L48
  have h140 := h.2.2.2.2.2.2.2.2.1
  have htw := nice_two hI.nice hv
  obtain ⟨g1, g2⟩ := hI.grow
  refine eX7_findElimination ht h0 ?_
  rw [two_nI, nI_1]
  refine ⟨_, c_countContaining h0.2.1.2 hL (j := 2 * v) (by omega), fun v1 M1 hq => ?_⟩
  obtain ⟨rfl, rfl⟩ := hq
  refine ⟨_, c_countContaining h0.2.1.2 hL (j := 2 * v + 1) (by omega), fun v2 M2 hq => ?_⟩
  obtain ⟨rfl, rfl⟩ := hq
  refine ⟨_, c_isActive h0 h hv, fun v3 M3 hq => ?_⟩
  obtain ⟨rfl, rfl⟩ := hq
  obtain ⟨up, eup⟩ : ∃ z, z = ct (sL s) (2 * v) := ⟨_, rfl⟩
  obtain ⟨dn, edn⟩ : ∃ z, z = ct (sL s) (2 * v + 1) := ⟨_, rfl⟩
  rw [show (sL s).countP (fun c => bt c (2 * v)) = up from eup.symm, show (sL s).countP (fun c => bt c (2 * v + 1)) = dn from edn.symm, nI_add, h.2.2.1, nI_add]
  have eal : al s v = up + dn := by unfold al; rw [eup, edn]
  rw [← eup, ← edn] at htw
  have hno : me s v = false → ((0 : Int32) = (if me s v then 1 else 0) ∧ (me s v = true → cl_ M3 (kt + 2) 576 (rs (sL s) v)) ∧ fr_ (kt + 2) (kt + 4) M3 M3) := fun e => ⟨by rw [e]; rfl, fun e2 => by (rw [e] at e2; cases e2), fr_.rf⟩
  have hme : ∀ P : Prop, (me s v = true → P) → ¬ P → me s v = false := fun P h1 h2 => by
    cases e : me s v with
    | false => rfl
    | true => exact absurd (h1 e) h2
  refine ⟨fun hc => hno (hme _ (fun e => (me_iff.mp e).1) (fun e => by rw [if_pos e] at hc; exact absurd hc (by decide))), fun hc => ⟨fun hz => ?_, fun hz => ⟨fun hr => ⟨_, c_size h0.2.1.2 hL, fun v4 M4 hq => ?_⟩, fun hr => ?_⟩⟩⟩
  · have hz' := (nI_eq (b := 0) (by omega) (by decide)).mp hz
    exact hno (hme _ (fun e => (me_iff.mp e).2.1) (by omega))
  · obtain ⟨rfl, rfl⟩ := hq
    have hact : sS s v = 0 := Classical.byContradiction (fun e => hc (if_neg e))
    have hz' : up + dn ≠ 0 := fun e => hz (by rw [e]; rfl)
    have hr' : (sR s).length + up ≤ 120 := (nI_leI (b := 120) (by omega) (by decide)).mp hr
    rw [h.2.1, g1, nI_add, pk_sub htw, show (48 : Int32) = nI 48 from rfl, pk_sub (show (sL s).length - (up + dn) ≤ 48 by omega)]
    obtain ⟨lim, el⟩ : ∃ z, z = if 48 - ((sL s).length - (up + dn)) < up + dn + gN s then 48 - ((sL s).length - (up + dn)) else up + dn + gN s := ⟨_, rfl⟩
    have ei : (if nI (48 - ((sL s).length - (up + dn))) < nI (up + dn + gN s) then nI (48 - ((sL s).length - (up + dn))) else nI (up + dn + gN s)) = nI lim := by
      rw [el]
      by_cases q : 48 - ((sL s).length - (up + dn)) < up + dn + gN s
      · rw [if_pos q, if_pos (nI_lt q (by omega))]
      · rw [if_neg q, if_neg (nI_nlt (by omega) (by omega))]
    rw [ei]
    have hl1 : lim ≤ 100 := by rw [el]; split <;> omega
    have hlm : (rs (sL s) v).length ≤ lim ↔ ((rs (sL s) v).length ≤ al s v + gN s ∧ (sL s).length - al s v + (rs (sL s) v).length ≤ 48) := by
      rw [el, eal]; split <;> omega
    refine ⟨_, c_find ht.2.1.2 h0.2.1.2 hL (by omega) hI.nice h48 hv (show lim < 2 ^ 31 by omega), fun M5 hq => ?_⟩
    obtain ⟨⟨F, hF, ha⟩, hf⟩ := hq
    have hFl := hF.lt
    refine ⟨_, c_size ht.2.1.2.2.2 hF, fun v6 M6 hq => ?_⟩
    obtain ⟨rfl, rfl⟩ := hq
    rw [nI_ltI (by omega) (by omega)]
    refine ⟨fun hc => ?_, fun hc => ?_⟩
    · have e : me s v = false := hme ((rs (sL s) v).length ≤ lim) (fun e => hlm.mpr ⟨(me_iff.mp e).2.2.1, (me_iff.mp e).2.2.2.1⟩) (by
        rcases ha with q | q
        · rw [← q]; omega
        · omega)
      exact ⟨by rw [e]; rfl, fun e2 => by (rw [e] at e2; cases e2), hf⟩
    · have eF := ha.eq (by omega)
      rw [eF] at hc hF
      have e : me s v = true := me_iff.mpr ⟨hact, by omega, (hlm.mp (by omega)).1, (hlm.mp (by omega)).2, by rw [← eup]; exact hr'⟩
      exact ⟨by rw [e]; rfl, fun _ => hF, hf⟩
  · have hr' : ¬ (sR s).length + up ≤ 120 := fun e => hr (nI_le e (by decide))
    exact hno (hme _ (fun e => (me_iff.mp e).2.2.2.2) (by rw [← eup]; exact hr'))
theorem foldl_inc_len : ∀ (F : List Int32) (s : sg), (sL (F.foldl inc s)).length ≤ (sL s).length + F.length
  | [], s => Nat.le_refl _
  | x :: F, s => by
    have h2 := foldl_inc_len F (inc s x)
    have h3 := inc_le (s := s) (x := x) (fun _ => trivial)
    show (sL (F.foldl inc (inc s x))).length ≤ _
    rw [List.length_cons]; omega
theorem c_eliminateFound (ht : is7 g kt) (h0 : is6 g k) (h : rc_ M k s) (hI : Inv s) (hd : k + 10 ≤ kt ∨ kt + 10 ≤ k) {v : Nat} (hv : v < 10) (hm : me s v = true) (hF : cl_ M (kt + 2) 576 (rs (sL s) v)) : kX7_eliminateFound kt k (nI v) g M (fun M' => rc_ M' k (elS s v) ∧ fr_ k (k + 10) M M') := by
  have h48 := hI.L48
  obtain ⟨m1, m2, m3, m4, m5⟩ := me_iff.mp hm
  have hlen : (elL s v).length + al s v = (sL s).length := el_len hI.nice hv
  refine eX7_eliminateFound ht h0 ?_
  have k2 : ∀ m j, j + m = (rs (sL s) v).length → ∀ M1, rc_ M1 k (((rs (sL s) v).take j).foldl inc (el0 s v)) → fr_ k (k + 10) M M1 → LX7_eliminateFound_72 kt k (nI j) g M1 (fun M' => rc_ M' k (elS s v) ∧ fr_ k (k + 10) M M') := by
    intro m
    induction m with
    | zero =>
      intro j hj M1 h1 hf
      refine bX7_eliminateFound_72 ht h0 ⟨_, c_size ht.2.1.2.2.2 (hF.fr hf (by omega)), fun v1 M2 hq => ?_⟩
      obtain ⟨rfl, rfl⟩ := hq
      refine ⟨fun _ => ⟨?_, hf⟩, fun hc => absurd (nI_le (by omega) (by have := hF.lt; omega)) hc⟩
      rw [tk_all (by omega)] at h1; exact h1
    | succ m ih =>
      intro j hj M1 h1 hf
      have hjl : j < (rs (sL s) v).length := by omega
      refine bX7_eliminateFound_72 ht h0 ⟨_, c_size ht.2.1.2.2.2 (hF.fr hf (by omega)), fun v1 M2 hq => ?_⟩
      obtain ⟨rfl, rfl⟩ := hq
      refine ⟨fun hc => absurd hc (nI_ge hjl hF.lt), fun _ => ⟨_, c_at ht.2.1.2.2.2 (hF.fr hf (by omega)) (i := j) (by have := hF.lt; omega), fun v2 M3 hq => ?_⟩⟩
      obtain ⟨rfl, rfl⟩ := hq
      refine ⟨_, c_include h0 h1 _ (fun _ _ => ?_), fun M4 hq => ?_⟩
      · have := foldl_inc_len ((rs (sL s) v).take j) (el0 s v)
        rw [List.length_take] at this
        have e : (sL (el0 s v)).length = (elL s v).length := rfl
        omega
      · rw [nI_1]
        refine ih (j + 1) (by omega) M4 ?_ (hf.tr (hq.2.wd (by omega) (by omega)))
        rw [tk_succ hjl, List.foldl_append]; exact hq.1
  have k1 : ∀ m i, i + m = (sL s).length → ∀ M1, rc_ M1 k (uR s (sR s ++ (((sL s).take i).filter (fun c => bt c (2 * v))).map (fun c => (c, nI (2 * v))))) → fr_ k (k + 10) M M1 → LX7_eliminateFound_2 kt k (nI v) (nI i) g M1 (fun M' => rc_ M' k (elS s v) ∧ fr_ k (k + 10) M M') := by
    intro m
    induction m with
    | zero =>
      intro i hi M1 h1 hf
      refine bX7_eliminateFound_2 ht h0 ⟨_, c_size h0.2.1.2 h1.2.2.2.1, fun v1 M2 hq => ?_⟩
      obtain ⟨rfl, rfl⟩ := hq
      refine ⟨fun _ => ?_, fun hc => absurd (nI_le (show (sL s).length ≤ i by omega) (by omega)) hc⟩
      rw [two_nI, sh3 v hv]
      rw [tk_all (by omega)] at h1
      refine ⟨_, c_removeContaining h0.2.1.2 h1.2.2.2.1 _, fun M3 hq => ⟨_, c_retire h0 (h1.L hq.2 hq.1) hv 2 (-1), fun M4 hq2 => ?_⟩⟩
      exact k2 (rs (sL s) v).length 0 (by omega) M4 hq2.1 ((hf.tr (hq.2.wd (by omega) (by omega))).tr hq2.2)
    | succ m ih =>
      intro i hi M1 h1 hf
      have hil : i < (sL s).length := by omega
      have nx := ih (i + 1) (by omega)
      refine bX7_eliminateFound_2 ht h0 ⟨_, c_size h0.2.1.2 h1.2.2.2.1, fun v1 M2 hq => ?_⟩
      obtain ⟨rfl, rfl⟩ := hq
      refine ⟨fun hc => absurd hc (nI_ge (show i < (sL s).length by omega) (show (sL s).length < 2 ^ 31 by omega)), fun _ => ⟨_, c_at h0.2.1.2 h1.2.2.2.1 (i := i) (by omega), fun v2 M3 hq => ?_⟩⟩
      obtain ⟨rfl, rfl⟩ := hq
      rw [two_nI, nI_1]
      refine ⟨_, c_contains _ (show 2 * v < 32 by omega), fun v3 M4 hq => ?_⟩
      obtain ⟨rfl, rfl⟩ := hq
      rw [tk_succ hil, List.filter_append, List.map_append, ← List.append_assoc] at nx
      refine ⟨fun hc => ?_, fun hc => ⟨_, c_at h0.2.1.2 h1.2.2.2.1 (i := i) (by omega), fun v4 M5 hq => ?_⟩⟩
      · have hb := (if01 _).1.mp hc
        rw [List.filter_cons_of_neg (by rw [show bt ((sL s).getD i 0) (2 * v) = false from hb]; decide), List.filter_nil, List.map_nil, List.append_nil] at nx
        exact nx M4 h1 hf
      · obtain ⟨rfl, rfl⟩ := hq
        have hb : bt ((sL s).getD i 0) (2 * v) = true := (if01 _).2.mp hc
        rw [List.filter_cons_of_pos (p := fun c => bt c (2 * v)) hb, List.filter_nil, List.map_cons, List.map_nil] at nx
        refine ⟨_, c_pushRow h0 h1 ?_ _ _, fun M6 hq => nx M6 hq.1 (hf.tr hq.2)⟩
        show (sR s ++ (((sL s).take i).filter (fun c => bt c (2 * v))).map (fun c => (c, nI (2 * v)))).length < 140
        rw [List.length_append, List.length_map, ← List.countP_eq_length_filter]
        have := ct_le (L := sL s) (j := 2 * v) (i := i) (by omega)
        unfold ct at this m5
        omega
  refine k1 (sL s).length 0 (by omega) M ?_ fr_.rf
  show rc_ M k (uR s (sR s ++ []))
  rw [List.append_nil]; exact h
def chv : Option (Nat × Int32) → Int32
  | none => -1
  | some p => nI p.1
def chc : Option (Nat × Int32) → Int32
  | none => 2147483647
  | some p => p.2
theorem cost_lt (a b c : Nat) (ha : a < 1000) (hb : b < 1000) (hc : c < 1000) : ¬ (2147483647 : Int32) ≤ (nI a - nI b) - nI c := by
  have e : ((nI a - nI b) - nI c).toInt = (a : Int) - b - c := by
    rw [Int32.toInt_sub, pk_sub_toInt (by omega) (by omega), nI_toInt (by omega)]
    exact Int.bmod_eq_of_le (by omega) (by omega)
  rw [Int32.le_iff_toInt_le, e, show (2147483647 : Int32).toInt = 2147483647 by decide]
  omega
theorem c_cheapestVariable (ht : is7 g kt) (h0 : is6 g k) (h : rc_ M k s) (hI : Inv s) (hd : k + 10 ≤ kt ∨ kt + 10 ≤ k) : kX7_cheapestVariable kt k g M (fun r M' => r = chv (ch s (sV s)) ∧ fr_ (kt + 2) (kt + 4) M M') := by
  have hV := hI.V10
  have h48 := hI.L48
  refine eX7_cheapestVariable ht h0 ?_
  have key : ∀ m i, i + m = sV s → ∀ M1, fr_ (kt + 2) (kt + 4) M M1 → LX7_cheapestVariable_8 kt k (chv (ch s i)) (chc (ch s i)) (nI i) g M1 (fun r M' => r = chv (ch s (sV s)) ∧ fr_ (kt + 2) (kt + 4) M M') := by
    intro m
    induction m with
    | zero =>
      intro i hi M1 hf
      have h1 := h.fr hf (by omega)
      exact bX7_cheapestVariable_8 ht h0 ⟨fun _ => ⟨by rw [show i = sV s by omega], hf⟩, fun hc => absurd (by rw [h1.1]; exact nI_le (by omega) (by omega)) hc⟩
    | succ m ih =>
      intro i hi M1 hf
      have h1 := h.fr hf (by omega)
      have nx := ih (i + 1) (by omega)
      refine bX7_cheapestVariable_8 ht h0 ⟨fun hc => absurd hc (nlt (n := sV s) (by omega) (by omega) h1.1), fun _ => ⟨_, c_findElimination ht h0 h1 hI hd (v := i) (by omega), fun v1 M2 hq => ?_⟩⟩
      obtain ⟨rfl, q2, q3⟩ := hq
      have hf2 := hf.tr q3
      have h2 := h.fr hf2 (by omega)
      rw [nI_1, two_nI, nI_1]
      cases e : me s i with
      | false =>
        rw [ch_f e] at nx
        exact ⟨fun _ => nx M2 hf2, fun hc => absurd rfl hc⟩
      | true =>
        refine ⟨fun hc => absurd hc (by decide), fun _ => ⟨_, c_size ht.2.1.2.2.2 (q2 e), fun v2 M3 hq => ?_⟩⟩
        obtain ⟨rfl, rfl⟩ := hq
        refine ⟨_, c_countContaining h0.2.1.2 h2.2.2.2.1 (j := 2 * i) (by omega), fun v3 M4 hq => ?_⟩
        obtain ⟨rfl, rfl⟩ := hq
        refine ⟨_, c_countContaining h0.2.1.2 h2.2.2.2.1 (j := 2 * i + 1) (by omega), fun v4 M5 hq => ?_⟩
        obtain ⟨rfl, rfl⟩ := hq
        show (chc (ch s i) ≤ cost s i → _) ∧ (¬ chc (ch s i) ≤ cost s i → LX7_cheapestVariable_8 kt k (nI i) (cost s i) (nI (i + 1)) g M5 _)
        cases e2 : ch s i with
        | none =>
          rw [ch_t0 e e2] at nx
          refine ⟨fun hc => ?_, fun _ => nx M5 hf2⟩
          have r1 := rs_576 hI.nice h48 (show i < 10 by omega)
          have r2 := ct_len (L := sL s) (j := 2 * i)
          have r3 := ct_len (L := sL s) (j := 2 * i + 1)
          exact absurd hc (cost_lt _ _ _ (by omega) (by omega) (by omega))
        | some p =>
          obtain ⟨b, c⟩ := p
          rw [ch_t1 e e2] at nx
          refine ⟨fun hc => ?_, fun hc => ?_⟩
          · have hc' : c ≤ cost s i := hc
            rw [if_pos hc'] at nx; exact nx M5 hf2
          · have hc' : ¬ c ≤ cost s i := hc
            rw [if_neg hc'] at nx; exact nx M5 hf2
  exact key (sV s) 0 (by omega) M fr_.rf
theorem c_eliminateAll (ht : is7 g kt) (h0 : is6 g k) (h : rc_ M k s) (hI : Inv s) (hd : k + 10 ≤ kt ∨ kt + 10 ≤ k) : kX7_eliminateAll kt k g M (fun v M' => rc_ M' k (it elF 2000 s).1 ∧ v = nI (it elF 2000 s).2 ∧ tf_ k kt M M') := by
  refine eX7_eliminateAll ht h0 ?_
  have key : ∀ n s M1 c, 10 - ina s < n → c + n ≤ 2000 → Inv s → rc_ M1 k s → tf_ k kt M M1 → LX7_eliminateAll_4 kt k (nI c) (nI c) g M1 (fun v M' => rc_ M' k (it elF n s).1 ∧ v = nI (c + (it elF n s).2) ∧ tf_ k kt M M') := by
    intro n
    induction n with
    | zero => intro s M1 c hn; omega
    | succ n ih =>
      intro s M1 c hn hc hI h hf
      have hV := hI.V10
      refine bX7_eliminateAll_4 ht h0 ⟨fun hx => ?_, fun _ => ⟨_, c_cheapestVariable ht h0 h hI hd, fun v1 M2 hq => ?_⟩⟩
      · rw [show (1000000 : Int32) = nI 1000000 from rfl, nI_leI (by decide) (by omega)] at hx; omega
      · obtain ⟨rfl, q2⟩ := hq
        have h2 := h.fr q2 (by omega)
        cases e : ch s (sV s) with
        | none =>
          refine ⟨fun _ => ?_, fun hx => absurd rfl hx⟩
          rw [it_none (show elF s = none by unfold elF; rw [e]; rfl)]
          exact ⟨h2, rfl, hf.tr (q2.t (by omega))⟩
        | some p =>
          obtain ⟨b, w⟩ := p
          obtain ⟨b1, b2⟩ := ch_ok e
          have es : elF s = some (elS s b) := by unfold elF; rw [e]; rfl
          refine ⟨fun hx => absurd hx (nI_m1 (n := b) (by omega)), fun _ => ⟨_, c_findElimination ht h0 h2 hI hd (v := b) (by omega), fun v3 M3 hq => ?_⟩⟩
          obtain ⟨rfl, q3, q4⟩ := hq
          rw [b2]
          have h3 := h2.fr q4 (by omega)
          refine ⟨fun _ => ⟨_, c_eliminateFound ht h0 h3 hI hd (v := b) (by omega) b2 (q3 b2), fun M4 hq => ?_⟩, fun hx => absurd hx (by decide)⟩
          obtain ⟨i1, i2⟩ := inv_el hI b1 b2
          have hlt := ina_lt (s := s) (v := b) (by omega) (me_iff.mp b2).1
          rw [nI_1, it_some es]
          have nx := ih _ M4 (c + 1) (by omega) (by omega) i1 hq.1 (((hf.tr (q2.t (by omega))).tr (q4.t (by omega))).tr (hq.2.t (by omega)))
          rw [Nat.add_assoc, Nat.add_comm 1] at nx
          exact nx
  have k0 := key 2000 s M 0 (by omega) (by omega) hI h tf_.rf
  rw [Nat.zero_add] at k0
  exact k0
end ELI
