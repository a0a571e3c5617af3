theorem gd_set {L : List Int32} {i : Nat} {x : Int32} (h : i < L.length) : (L.set i x).getD i 0 = x := by
  rw [List.getD_eq_getElem?_getD, List.getElem?_set_self h]; rfl
theorem gd_set_ne {L : List Int32} {i j : Nat} {x : Int32} (h : i ≠ j) : (L.set i x).getD j 0 = L.getD j 0 := by
  rw [List.getD_eq_getElem?_getD, List.getD_eq_getElem?_getD, List.getElem?_set_ne h]
def stV (L : List Int32) : Int32 := match stI L with
  | none => -1
  | some k => match stK L k with
    | none => -1
    | some l => nI (20 * k + l)
theorem stV_none {L : List Int32} (h : stI L = none) : stV L = -1 := by unfold stV; simp only [h]
theorem stV_some {L : List Int32} {k l : Nat} (h : stI L = some k) (h2 : stK L k = some l) : stV L = nI (20 * k + l) := by unfold stV; simp only [h, h2]
theorem stI_no {L : List Int32} (h : ∀ t, t < L.length → stK L t = none) : stI L = none := fdF_none' (fun t _ ht => by show (stK L t).isSome = false; rw [h t (by omega)]; rfl)
theorem stI_at {L : List Int32} {i l : Nat} (hi : i < L.length) (h : ∀ t, t < i → stK L t = none) (h2 : stK L i = some l) : stI L = some i := fdF_some' (Nat.zero_le _) (by omega) (by show (stK L i).isSome = true; rw [h2]; rfl) (fun t _ ht => by show (stK L t).isSome = false; rw [h t ht]; rfl)
theorem stP_iff {L : List Int32} {i j l : Nat} (hij : i ≠ j) (hx : tv (L.getD j 0) = false) (hl : l < 20) (hb : bt (L.getD j 0) l = true) : stP L j l i = true ↔ L.getD i 0 &&& (L.getD j 0 ^^^ (-1)) = bi (fl l) := by
  unfold stP
  rw [decide_eq_false hij, show (!false) = true from rfl, Bool.true_and, st_iff hx hl hb]
theorem b_eq {a b : Bool} (h : a = true ↔ b = true) : a = b := by cases a <;> cases b <;> simp_all
theorem tw_nI (i : Nat) : (20 : Int32) * nI i = nI (20 * i) := by rw [show (20 : Int32) = nI 20 from rfl, pk_mul]
section STR
variable {g : mj_S} {M : mj_M} {k kt n : Nat} {s : sg} {L : List Int32}
theorem st_same {i j : Nat} (h : ∀ l, l < 20 → bt (L.getD j 0) l = true → stP L j l i = false) : fdF (fun l => bt (L.getD j 0) l && anA (stP L j l) (i + 1)) 20 0 = fdF (fun l => bt (L.getD j 0) l && anA (stP L j l) i) 20 0 := by
  refine fdF_cong (fun l _ hl => ?_)
  show (bt (L.getD j 0) l && (anA (stP L j l) i || stP L j l i)) = _
  cases hb : bt (L.getD j 0) l with
  | false => rfl
  | true => rw [h l (by omega) hb, Bool.or_false]
theorem c_lowestSuperfluous (ht : is7 g kt) (h0 : is0 g k n) (h : cl_ M k n L) (hn : nice L) {j : Nat} (hj : j < L.length) : kX7_lowestSuperfluous kt k (nI j) g M (fun v M' => M' = M ∧ v = oN (stK L j)) := by
  have hlt := h.lt
  have hx := hn _ (gd_mem hj)
  refine eX7_lowestSuperfluous ht h0 ⟨_, c_at h0 h (i := j) (by omega), fun v1 M1 hq => ?_⟩
  obtain ⟨rfl, rfl⟩ := hq
  have key : ∀ m i, i + m = L.length → LX7_lowestSuperfluous_12 kt k n (nI j) (L.getD j 0) (oN (fdF (fun l => bt (L.getD j 0) l && anA (stP L j l) i) 20 0)) (nI i) g M1 (fun v M' => M' = M1 ∧ v = oN (stK L j)) := by
    intro m
    induction m with
    | zero =>
      intro i hi
      refine bX7_lowestSuperfluous_12 ht h0 ⟨_, c_size h0 h, fun v1 M2 hq => ?_⟩
      obtain ⟨rfl, rfl⟩ := hq
      refine ⟨fun _ => ⟨rfl, ?_⟩, fun hc => absurd (nI_le (by omega) (by omega)) hc⟩
      rw [show i = L.length by omega]; rfl
    | succ m ih =>
      intro i hi
      have nx := ih (i + 1) (by omega)
      have hc := hn _ (gd_mem (show i < L.length by omega))
      refine bX7_lowestSuperfluous_12 ht h0 ⟨_, c_size h0 h, fun v1 M2 hq => ?_⟩
      obtain ⟨rfl, rfl⟩ := hq
      refine ⟨fun hc => absurd hc (nI_ge (by omega) hlt), fun _ => ⟨_, c_at h0 h (i := i) (by omega), fun v2 M3 hq => ?_⟩⟩
      obtain ⟨rfl, rfl⟩ := hq
      rw [nI_1]
      refine ⟨fun he => ?_, fun he => ⟨_, c_bitCount _, fun v3 M4 hq => ?_⟩⟩
      · have he' := (nI_eq (by omega) (by omega)).mp he
        rw [st_same (fun l _ _ => by unfold stP; rw [decide_eq_true he']; rfl)] at nx
        exact nx
      · obtain ⟨rfl, rfl⟩ := hq
        have he' : i ≠ j := fun e => he (by rw [e])
        rw [pc1]
        refine ⟨fun hp => ?_, fun hp => ⟨_, c_complements _, fun v4 M5 hq => ?_⟩⟩
        · rw [st_same (fun l hl hb => ?_)] at nx
          · exact nx
          · cases e : stP L j l i with
            | false => rfl
            | true =>
              rw [stP_iff he' hx.1 hl hb] at e
              exact absurd (by rw [e]; exact pc_bi (by have := fl32 hl; omega)) hp
        · obtain ⟨rfl, rfl⟩ := hq
          obtain ⟨hz, hbe⟩ := pc_one hp
          obtain ⟨lb1, lb2, _⟩ := lw_ok hz
          have hb20 : lw (L.getD i 0 &&& (L.getD j 0 ^^^ (-1))) < 20 := by
            refine hc.2 _ lb1 ?_
            rw [b_and, Bool.and_eq_true] at lb2; exact lb2.1
          obtain ⟨b, eb⟩ : ∃ b, b = lw (L.getD i 0 &&& (L.getD j 0 ^^^ (-1))) := ⟨_, rfl⟩
          rw [← eb] at hbe hb20
          have hf20 := fl32 hb20
          rw [hbe, ng_bi hb20]
          refine ⟨fun hy => ?_, fun hy => ⟨_, c_complements _, fun v5 M6 hq => ?_⟩⟩
          · rw [st_same (fun l hl hb => ?_)] at nx
            · exact nx
            · cases e : stP L j l i with
              | false => rfl
              | true =>
                rw [stP_iff he' hx.1 hl hb, hbe] at e
                have e2 := bi_inj (by omega) (by have := fl32 hl; omega) e
                rw [e2, fl_fl] at hy
                have h3 := bz.mp hy l (by omega)
                rw [b_and, b_bi (by omega) (by omega), hb] at h3
                simp at h3
          · obtain ⟨rfl, rfl⟩ := hq
            rw [ng_bi hb20]
            refine ⟨_, c_ntz1 (pc_bi (by omega)), fun v6 M7 hq => ?_⟩
            obtain ⟨rfl, rfl⟩ := hq
            rw [lw_bi (by omega)]
            have hbm : bt (L.getD j 0) (fl b) = true := by
              cases e : bt (L.getD j 0) (fl b) with
              | true => rfl
              | false =>
                refine absurd (bz.mpr (fun i hi => ?_)) hy
                rw [b_and, b_bi (by omega) hi]
                by_cases e2 : i = fl b
                · rw [e2, e, Bool.and_false]
                · rw [decide_eq_false e2]; rfl
            have hmin := fd_min (p := fun l => bt (L.getD j 0) l && anA (stP L j l) i) (p' := fun l => bt (L.getD j 0) l && anA (stP L j l) (i + 1)) hf20 (fun l hl => by
              show (bt (L.getD j 0) l && (anA (stP L j l) i || stP L j l i)) = ((bt (L.getD j 0) l && anA (stP L j l) i) || decide (l = fl b))
              cases hb : bt (L.getD j 0) l with
              | false =>
                rw [decide_eq_false (fun e => by rw [e, hbm] at hb; cases hb)]; rfl
              | true =>
                rw [Bool.true_and, Bool.true_and, show stP L j l i = decide (l = fl b) from b_eq (by
                  rw [stP_iff he' hx.1 hl hb, hbe, decide_eq_true_eq]
                  exact ⟨fun e => by rw [bi_inj (by omega) (by have := fl32 hl; omega) e, fl_fl], fun e => by rw [e, fl_fl]⟩)])
            rw [hmin] at nx
            cases eo : fdF (fun l => bt (L.getD j 0) l && anA (stP L j l) i) 20 0 with
            | none =>
              rw [eo] at nx
              exact ⟨fun hc => absurd rfl hc, fun _ => nx⟩
            | some o =>
              rw [eo] at nx
              obtain ⟨_, o2, _, _⟩ := fdF_some eo
              refine ⟨fun _ => ?_, fun hc => absurd hc (nI_m1 (n := o) (by omega))⟩
              have nx' : LX7_lowestSuperfluous_12 kt k n (nI j) (L.getD j 0) (nI (if fl b < o then fl b else o)) (nI (i + 1)) g M7 (fun v M' => M' = M7 ∧ v = oN (stK L j)) := nx
              show LX7_lowestSuperfluous_12 kt k n (nI j) (L.getD j 0) (if nI (fl b) < nI o then nI (fl b) else nI o) (nI (i + 1)) g M7 _
              by_cases hlo : fl b < o
              · rw [if_pos hlo] at nx'
                rw [if_pos (nI_lt hlo (by omega))]; exact nx'
              · rw [if_neg hlo] at nx'
                rw [if_neg (nI_nlt (by omega) (by omega))]; exact nx'
  have k0 := key L.length 0 (by omega)
  rw [show fdF (fun l => bt (L.getD j 0) l && anA (stP L j l) 0) 20 0 = none from fdF_none' (fun t _ _ => Bool.and_false _)] at k0
  exact k0
theorem c_strengthenFirst (ht : is7 g kt) (h0 : is0 g k n) (h : cl_ M k n L) (hn : nice L) (hn0 : 0 < n) : kX7_strengthenFirst kt k g M (fun v M' => (stI L = none → M' = M ∧ v = 0) ∧ ∀ i l, stI L = some i → stK L i = some l → cl_ M' k n (stepL L i l) ∧ v = 1 ∧ fr_ k (k + 2) M M') := by
  have hlt := h.lt
  refine eX7_strengthenFirst ht h0 ?_
  have key : ∀ m i, i + m = L.length → (∀ t, t < i → stK L t = none) → LX7_strengthenFirst_2 kt k n (nI i) g M (fun v M' => (stI L = none → M' = M ∧ v = 0) ∧ ∀ i l, stI L = some i → stK L i = some l → cl_ M' k n (stepL L i l) ∧ v = 1 ∧ fr_ k (k + 2) M M') := by
    intro m
    induction m with
    | zero =>
      intro i hi hno
      refine bX7_strengthenFirst_2 ht h0 ⟨_, c_size h0 h, fun v1 M2 hq => ?_⟩
      obtain ⟨rfl, rfl⟩ := hq
      have := stI_no (L := L) (fun t ht => hno t (by omega))
      exact ⟨fun _ => ⟨fun _ => ⟨rfl, rfl⟩, fun i l h1 => by rw [this] at h1; cases h1⟩, fun hc => absurd (nI_le (by omega) (by omega)) hc⟩
    | succ m ih =>
      intro i hi hno
      have hil : i < L.length := by omega
      have nx := ih (i + 1) (by omega)
      refine bX7_strengthenFirst_2 ht h0 ⟨_, c_size h0 h, fun v1 M2 hq => ?_⟩
      obtain ⟨rfl, rfl⟩ := hq
      refine ⟨fun hc => absurd hc (nI_ge (by omega) hlt), fun _ => ⟨_, c_lowestSuperfluous ht h0 h hn hil, fun v2 M3 hq => ?_⟩⟩
      obtain ⟨rfl, rfl⟩ := hq
      rw [nI_1]
      cases e : stK L i with
      | none =>
        refine ⟨fun _ => nx (fun t ht => ?_), fun hc => absurd rfl hc⟩
        by_cases et : t = i
        · rw [et]; exact e
        · exact hno t (by omega)
      | some l =>
        obtain ⟨_, l2, _, _⟩ := fdF_some e
        have eI := stI_at hil hno e
        refine ⟨fun hc => absurd hc (nI_m1 (n := l) (by omega)), fun _ => ⟨_, c_at h0 h (i := i) (by omega), fun v3 M4 hq => ?_⟩⟩
        obtain ⟨rfl, rfl⟩ := hq
        refine ⟨_, c_put h0 h hil _, fun M5 hp => ⟨_, c_at h0 hp.1 (i := i) (by omega), fun v5 M6 hq => ?_⟩⟩
        obtain ⟨rfl, rfl⟩ := hq
        rw [gd_set hil]
        have est : stepL L i l = if L.getD i 0 &&& (bi l ^^^ (-1)) = 0 then [0] else L.set i (L.getD i 0 &&& (bi l ^^^ (-1))) := rfl
        refine ⟨fun hz => ⟨fun e => (by rw [eI] at e; cases e), fun i2 l2 e1 e2 => ?_⟩, fun hz => ⟨_, c_collapse h0 hp.1 hn0, fun M7 hc => ⟨fun e => (by rw [eI] at e; cases e), fun i2 l2 e1 e2 => ?_⟩⟩⟩
        · rw [eI] at e1; cases e1
          rw [e] at e2; cases e2
          have hz' : ¬ L.getD i 0 &&& (bi l ^^^ (-1)) = 0 := hz
          rw [est, if_neg hz']
          exact ⟨hp.1, rfl, hp.2⟩
        · rw [eI] at e1; cases e1
          rw [e] at e2; cases e2
          have hz' : L.getD i 0 &&& (bi l ^^^ (-1)) = 0 := hz
          rw [est, if_pos hz']
          exact ⟨hc.1, rfl, hp.2.tr hc.2⟩
  exact key L.length 0 (by omega) (fun t ht => absurd ht (Nat.not_lt_zero t))
theorem c_strengthenAll (ht : is7 g kt) (h0 : is0 g k n) (h : cl_ M k n (sL s)) (hI : Inv s) (hn0 : 0 < n) : kX7_strengthenAll kt k g M (fun v M' => cl_ M' k n (sL (it strF 2000 s).1) ∧ v = nI (it strF 2000 s).2 ∧ fr_ k (k + 2) M M') := by
  refine eX7_strengthenAll ht h0 ?_
  have key : ∀ f s M1 c, lits (sL s) < f → c + f ≤ 2000 → Inv s → cl_ M1 k n (sL s) → fr_ k (k + 2) M M1 → LX7_strengthenAll_4 kt k n (nI c) (nI c) g M1 (fun v M' => cl_ M' k n (sL (it strF f s).1) ∧ v = nI (c + (it strF f s).2) ∧ fr_ k (k + 2) M M') := by
    intro f
    induction f with
    | zero => intro s M1 c hn; omega
    | succ f ih =>
      intro s M1 c hn hc hI h hf
      refine bX7_strengthenAll_4 ht h0 ⟨fun hx => ?_, fun _ => ⟨_, c_strengthenFirst ht h0 h hI.nice hn0, fun v1 M2 hq => ?_⟩⟩
      · rw [show (1000000 : Int32) = nI 1000000 from rfl, nI_leI (by decide) (by omega)] at hx; omega
      · cases e : stI (sL s) with
        | none =>
          obtain ⟨rfl, rfl⟩ := hq.1 e
          refine ⟨fun hx => absurd rfl hx, fun _ => ?_⟩
          rw [it_none (strF_none e)]
          exact ⟨h, rfl, hf⟩
        | some i =>
          obtain ⟨_, l, e2, _⟩ := stI_ok e
          obtain ⟨q1, rfl, q3⟩ := hq.2 i l e e2
          obtain ⟨i1, i2⟩ := strF_inv hI (strF_some e e2)
          refine ⟨fun _ => ?_, fun hx => absurd hx (by decide)⟩
          rw [nI_1, it_some (strF_some e e2)]
          have nx := ih _ M2 (c + 1) (by omega) (by omega) i1 q1 (hf.tr q3)
          rw [Nat.add_assoc, Nat.add_comm 1] at nx
          exact nx
  have k0 := key 2000 s M 0 (by have := lits_le (sL s); have := hI.L48; omega) (by omega) hI h fr_.rf
  rw [Nat.zero_add] at k0
  exact k0
theorem r_isStrengthened (h0 : is10 g k) (h : rr_ M k s) {j l : Nat} (hj : j < (sL s).length) (hl : l < 20) : kX10_isStrengthened k (nI j) (nI l) g M (fun v M' => M' = M ∧ v = if anA (stP (sL s) j l) (sL s).length then 1 else 0) := by
  have h48 := h.n48
  have hf := fl32 hl
  refine eX10_isStrengthened h0 ?_
  have key : ∀ m i, i + m = (sL s).length → ∀ b, b = anA (stP (sL s) j l) i → LX10_isStrengthened_5 k (nI j) (nI l) (if b then 1 else 0) (nI i) g M (fun v M' => M' = M ∧ v = if anA (stP (sL s) j l) (sL s).length then 1 else 0) := by
    intro m
    induction m with
    | zero =>
      intro i hi b hb
      refine bX10_isStrengthened_5 h0 ⟨fun _ => ⟨by cases b <;> decide, rfl, ?_⟩, fun hc => absurd (h.done (by omega)) hc⟩
      rw [hb, show i = (sL s).length by omega]
    | succ m ih =>
      intro i hi b hb
      have hl : i < (sL s).length := by omega
      have nx := ih (i + 1) (by omega)
      rw [anA_s, ← hb] at nx
      refine bX10_isStrengthened_5 h0 ⟨fun hc => absurd hc (h.more hl), fun _ => ?_⟩
      rw [nI_1, xor1 l (by omega)]
      refine ⟨fun hz => nx true (by rw [(if01 _).2.mp hz]; rfl), fun hz => ?_⟩
      have hbf := (if01 _).1.mp hz
      rw [hbf, Bool.false_or] at nx
      refine ⟨fun he => ?_, fun he => ⟨_, r_clauseAt h0 h hl, fun v1 M1 hq => ?_⟩⟩
      · have he' := (nI_eq (by omega) (by omega)).mp he
        exact nx false (by unfold stP; rw [decide_eq_true he']; rfl)
      · obtain ⟨rfl, rfl⟩ := hq
        have he' : i ≠ j := fun e => he (by rw [e])
        refine ⟨_, r_has _ (show fl l < 32 by omega), fun v1 M2 hq => ?_⟩
        obtain ⟨rfl, rfl⟩ := hq
        refine ⟨fun hc => nx false (by unfold stP; rw [(if01 _).1.mp hc]; simp), fun hc => ⟨_, r_clauseAt h0 h hl, fun v1 M3 hq => ?_⟩⟩
        obtain ⟨rfl, rfl⟩ := hq
        refine ⟨_, r_clauseAt h0 h hj, fun v1 M4 hq => ?_⟩
        obtain ⟨rfl, rfl⟩ := hq
        have e : stP (sL s) j l i = decide (((sL s).getD i 0 &&& (bi (fl l) ^^^ (-1))) &&& ((sL s).getD j 0 ^^^ (-1)) = 0) := by unfold stP; rw [decide_eq_false he', (if01 _).2.mp hc]; rfl
        exact ⟨fun hd => nx false (by rw [e]; exact (decide_eq_false hd).symm), fun hd => nx true (by rw [e]; exact (decide_eq_true hd).symm)⟩
  exact key (sL s).length 0 (by omega) false rfl
theorem r_strengthened (h0 : is10 g k) (h : rr_ M k s) : kX10_strengthened k g M (fun v M' => M' = M ∧ v = stV (sL s)) := by
  have h48 := h.n48
  refine eX10_strengthened h0 ?_
  have key : ∀ m i, i + m = (sL s).length → (∀ t, t < i → stK (sL s) t = none) → LX10_strengthened_2 k (nI i) g M (fun v M' => M' = M ∧ v = stV (sL s)) := by
    intro m
    induction m with
    | zero =>
      intro i hi hno
      refine bX10_strengthened_2 h0 ⟨fun _ => ⟨rfl, ?_⟩, fun hc => absurd (h.done (by omega)) hc⟩
      rw [stV_none (stI_no (fun t ht => hno t (by omega)))]
    | succ m ih =>
      intro i hi hno
      have hil : i < (sL s).length := by omega
      refine bX10_strengthened_2 h0 ⟨fun hc => absurd hc (h.more hil), fun _ => ?_⟩
      have inner : ∀ q l, l + q = 20 → (∀ t, t < l → stL (sL s) i t = false) → LX10_strengthened_15 k (nI i) (nI l) g M (fun v M' => M' = M ∧ v = stV (sL s)) := by
        intro q
        induction q with
        | zero =>
          intro l hl hno2
          refine bX10_strengthened_15 h0 ⟨fun _ => ?_, fun hc => absurd (by rw [show l = 20 by omega]; decide) hc⟩
          rw [nI_1]
          refine ih (i + 1) (by omega) (fun t ht => ?_)
          by_cases et : t = i
          · rw [et]; exact fdF_none' (fun t _ ht => hno2 t (by omega))
          · exact hno t (by omega)
        | succ q ihq =>
          intro l hl hno2
          have nx : stL (sL s) i l = false → LX10_strengthened_15 k (nI i) (nI (l + 1)) g M (fun v M' => M' = M ∧ v = stV (sL s)) := fun hf => ihq (l + 1) (by omega) (fun t ht => by
            by_cases et : t = l
            · rw [et]; exact hf
            · exact hno2 t (by omega))
          refine bX10_strengthened_15 h0 ⟨fun hc => ?_, fun _ => ⟨_, r_clauseAt h0 h hil, fun v1 M1 hq => ?_⟩⟩
          · rw [show (20 : Int32) = nI 20 from rfl, nI_leI (by decide) (by omega)] at hc; omega
          · obtain ⟨rfl, rfl⟩ := hq
            rw [nI_1, tw_nI, nI_add]
            refine ⟨_, r_has _ (show l < 32 by omega), fun v1 M2 hq => ?_⟩
            obtain ⟨rfl, rfl⟩ := hq
            refine ⟨fun hc => nx (by unfold stL; rw [(if01 _).1.mp hc]; rfl), fun hc => ⟨_, r_isStrengthened h0 h hil (show l < 20 by omega), fun v1 M3 hq => ?_⟩⟩
            obtain ⟨rfl, rfl⟩ := hq
            refine ⟨fun hd => nx (by unfold stL; rw [(if01 _).1.mp hd, Bool.and_false]), fun hd => ⟨rfl, ?_⟩⟩
            have e2 : stK (sL s) i = some l := fdF_some' (Nat.zero_le _) (by omega) (by unfold stL; rw [(if01 _).2.mp hc, (if01 _).2.mp hd]; rfl) (fun t _ ht => hno2 t ht)
            rw [stV_some (stI_at hil hno e2) e2]
      exact inner 20 0 (by omega) (fun t ht => absurd ht (Nat.not_lt_zero t))
  exact key (sL s).length 0 (by omega) (fun t ht => absurd ht (Nat.not_lt_zero t))
theorem rr_.put (h : rr_ M k s) {i : Nat} (hi : i < (sL s).length) (x : Int32) : rr_ (mj_wI M (k + 1) (66 + i) x) k (uL s ((sL s).set i x)) := by
  have h48 := h.n48
  refine ra_L h ?_ (by rw [List.length_set]; exact h48) (fun t ht => ?_) (fun b hb => ?_)
  · rw [wI_k (by omega), List.length_set]; exact h.2.2.2.2.2.2.2.2.1
  · rw [List.length_set] at ht
    by_cases e : t = i
    · subst e; rw [wI_s, gd_set ht]
    · rw [wI_k (by omega), gd_set_ne (fun q => e q.symm)]; exact h.at ht
  · rw [wI_k (by omega)]
theorem r_strengthens (h0 : is10 g k) (h : rr_ M k s) (hI : Inv s) : kX10_strengthens k g M (fun v M' => rr_ M' k (it strF 2000 s).1 ∧ v = nI (it strF 2000 s).2 ∧ fr_ (k + 1) (k + 2) M M') := by
  have key : ∀ f s M1 c, lits (sL s) < f → Inv s → rr_ M1 k s → fr_ (k + 1) (k + 2) M M1 → LX10_strengthens_7 k (nI c) (stV (sL s)) g M1 (fun v M' => rr_ M' k (it strF f s).1 ∧ v = nI (c + (it strF f s).2) ∧ fr_ (k + 1) (k + 2) M M') := by
    intro f
    induction f with
    | zero => intro s M1 c hn; omega
    | succ f ih =>
      intro s M1 c hn hI h hf
      have h48 := hI.L48
      cases e : stI (sL s) with
      | none =>
        rw [stV_none e]
        refine bX10_strengthens_7 h0 ⟨fun _ => ?_, fun hx => absurd rfl hx⟩
        rw [it_none (strF_none e)]
        exact ⟨h, rfl, hf⟩
      | some i =>
        obtain ⟨u1, l, e2, u3, u4⟩ := stI_ok e
        obtain ⟨i1, i2⟩ := strF_inv hI (strF_some e e2)
        rw [stV_some e e2, it_some (strF_some e e2)]
        refine bX10_strengthens_7 h0 ⟨fun hx => absurd hx (nI_m1 (by omega)), fun _ => ?_⟩
        have d1 : nI (20 * i + l) / 20 = nI i := by rw [show (20 : Int32) = nI 20 from rfl, pk_div (by omega) (by decide) (by decide), show (20 * i + l) / 20 = i by omega]
        have d2 : nI (20 * i + l) - nI (20 * i + l) / 20 * 20 = nI l := by rw [show (20 : Int32) = nI 20 from rfl, pk_rem (by omega) (by decide) (by decide), show (20 * i + l) % 20 = l by omega]
        rw [d2, d1, i66, nI_clamp (n := 66 + i) (by omega), h.at u1, nI_1]
        have hp := h.put u1 ((sL s).getD i 0 &&& (bi l ^^^ (-1)))
        have fp : fr_ (k + 1) (k + 2) M (mj_wI M1 (k + 1) (66 + i) ((sL s).getD i 0 &&& (bi l ^^^ (-1)))) := hf.tr (fr_.wI (by omega) (by omega))
        have est : stepL (sL s) i l = if (sL s).getD i 0 &&& (bi l ^^^ (-1)) = 0 then [0] else (sL s).set i ((sL s).getD i 0 &&& (bi l ^^^ (-1))) := rfl
        refine ⟨vp_in_nI (by omega) (by decide), vp_in_nI (by omega) (by decide), _, r_clauseAt h0 hp (i := i) (by show i < ((sL s).set i _).length; rw [List.length_set]; exact u1), fun v1 M2 hq => ?_⟩
        obtain ⟨rfl, rfl⟩ := hq
        rw [show (sL (uL s ((sL s).set i ((sL s).getD i 0 &&& (bi l ^^^ (-1)))))).getD i 0 = (sL s).getD i 0 &&& (bi l ^^^ (-1)) from gd_set u1]
        refine ⟨fun hz => ⟨_, r_strengthened h0 hp, fun v2 M3 hq => ?_⟩, fun hz => ⟨_, r_breaks h0 hp, fun M3 hb => ⟨_, r_strengthened h0 hb.1, fun v2 M4 hq => ?_⟩⟩⟩
        · obtain ⟨rfl, rfl⟩ := hq
          rw [est, if_neg hz] at i1 i2 ⊢
          have nx := ih _ _ (c + 1) (Nat.lt_of_lt_of_le i2 (by omega)) i1 hp fp
          rw [Nat.add_assoc, Nat.add_comm 1] at nx
          exact nx
        · obtain ⟨rfl, rfl⟩ := hq
          rw [est, if_pos hz] at i1 i2 ⊢
          have nx := ih _ _ (c + 1) (Nat.lt_of_lt_of_le i2 (by omega)) i1 hb.1 (fp.tr hb.2)
          rw [Nat.add_assoc, Nat.add_comm 1] at nx
          exact nx
  refine eX10_strengthens h0 ⟨_, r_strengthened h0 h, fun v1 M1 hq => ?_⟩
  obtain ⟨rfl, rfl⟩ := hq
  have k0 := key 2000 s M1 0 (by have := lits_le (sL s); have := hI.L48; omega) hI h fr_.rf
  rw [Nat.zero_add] at k0
  exact k0
end STR
