/-! SUBSTITUTION OF EQUIVALENT LITERALS, in words of sets -/
theorem act_rch {s : sg} (h : Inv s) (hb : sL s ≠ [0]) {a b : Nat} (ha : a < 20) (hb20 : b < 20) (hr : bt (rch (sL s) a) b = true) (hne : b ≠ a) : b < 2 * sV s ∧ sS s (b / 2) = 0 := by
  have main := rch_least (L := sL s) ha (X := bm (fun b => decide (b = a) || (decide (b < 2 * sV s) && decide (sS s (b / 2) = 0)))) (fun c b hc hb32 h1 h2 => ?_) ?_ b (by omega) hr
  · rw [bm_bt _ (by omega), decide_eq_false hne, Bool.false_or, Bool.and_eq_true, decide_eq_true_eq, decide_eq_true_eq] at main
    exact main
  · obtain ⟨i, hi, _, _, h4, _⟩ := (ed_iff hc hb32).mp h2
    obtain ⟨o1, o2⟩ := (h.ok' hb _ (gd_mem hi)).2.2 b hb32 h4
    rw [bm_bt _ hb32, decide_eq_true o1, decide_eq_true o2]; simp
  · rw [bm_bt _ (by omega)]; simp
def eqV (L : List Int32) (v : Nat) : Bool := bt (rch L (2 * v)) (2 * v + 1) && bt (rch L (2 * v + 1)) (2 * v)
def eqB (s : sg) : Bool := anA (eqV (sL s)) (sV s)
theorem eqV_iff {L : List Int32} {v : Nat} : eqV L v = true ↔ eqv L (2 * v) (2 * v + 1) := by unfold eqV eqv; rw [Bool.and_eq_true]
theorem eqV_r {s : sg} (h : Inv s) (hb : sL s ≠ [0]) {v : Nat} (hv : v < sV s) : eqV (sL s) v = (decide (sS s v = 0) && decide (nmL (sL s) (2 * v) = nmL (sL s) (2 * v + 1))) := by
  have hV := h.V10
  refine b_eq ?_
  rw [eqV_iff, Bool.and_eq_true, decide_eq_true_eq, decide_eq_true_eq, nm_eqv h.nice (by omega) (by omega)]
  refine ⟨fun q => ⟨?_, q⟩, fun q => q.2⟩
  have := (act_rch h hb (a := 2 * v) (b := 2 * v + 1) (by omega) (by omega) q.1 (by omega)).2
  rwa [show (2 * v + 1) / 2 = v by omega] at this
def sbC (N : Nat → Nat) (s : sg) (v : Nat) : Bool := decide (sS s v = 0) && !decide (N (2 * v) = 2 * v)
def sb1 (N : Nat → Nat) (s : sg) (v : Nat) : sg := uS (pushS (pushS s (bi (2 * v) ||| bi (fl (N (2 * v)))) (nI (2 * v))) (bi (2 * v + 1) ||| bi (N (2 * v))) (nI (2 * v + 1))) v 3 (nI (N (2 * v)))
def sbA (N : Nat → Nat) : Nat → Nat → sg → Nat → sg × Nat
  | 0, _, s, c => (s, c)
  | m + 1, v, s, c => if sbC N s v = true then sbA N m (v + 1) (sb1 N s v) (c + 1) else sbA N m (v + 1) s c
theorem sbA_t {N : Nat → Nat} {m v c : Nat} {s : sg} (h : sbC N s v = true) : sbA N (m + 1) v s c = sbA N m (v + 1) (sb1 N s v) (c + 1) := if_pos h
theorem sbA_f {N : Nat → Nat} {m v c : Nat} {s : sg} (h : sbC N s v = false) : sbA N (m + 1) v s c = sbA N m (v + 1) s c := if_neg (by rw [h]; decide)
/-- what holds while variables are substituted -/
def Iw (s : sg) : Prop := (sR s).length ≤ 120 + 2 * ina s ∧ (∀ r, r ∈ sR s → ∃ l, l < 20 ∧ r.2 = nI l) ∧ (∀ w, w < 10 → sS s w = 0 → sK s w = -1)
theorem Inv.w {s : sg} (h : Inv s) : Iw s := ⟨h.R, h.wit, h.2.2.2.2.2.2.2.2⟩
theorem sbC_ok {N : Nat → Nat} {s : sg} {v : Nat} (h : sbC N s v = true) : sS s v = 0 ∧ N (2 * v) ≠ 2 * v := by
  unfold sbC at h
  simp only [Bool.and_eq_true, Bool.not_eq_true', decide_eq_false_iff_not, decide_eq_true_eq] at h
  exact h
theorem sb1_w {N : Nat → Nat} {s : sg} (h : Iw s) {v : Nat} (hv : v < 10) (ha : sS s v = 0) : Iw (sb1 N s v) ∧ (sR s).length + 1 < 140 := by
  have ei : ina (sb1 N s v) = ina s + 1 := inaA_upd (sS s) (v := v) (x := 3) (by decide) ha 10 hv
  have hl := ina_lt hv ha
  have hr := h.1
  refine ⟨⟨?_, fun r hr => ?_, fun w hw hs => ?_⟩, by omega⟩
  · show ((sR s ++ [_]) ++ [_]).length ≤ _
    rw [ei, List.length_append, List.length_append]
    show (sR s).length + 1 + 1 ≤ _
    omega
  · have hr : r ∈ (sR s ++ [(bi (2 * v) ||| bi (fl (N (2 * v))), nI (2 * v))]) ++ [(bi (2 * v + 1) ||| bi (N (2 * v)), nI (2 * v + 1))] := hr
    rcases List.mem_append.mp hr with q | q
    · rcases List.mem_append.mp q with q | q
      · exact h.2.1 r q
      · exact ⟨2 * v, by omega, by rw [show r = (bi (2 * v) ||| bi (fl (N (2 * v))), nI (2 * v)) by simpa using q]⟩
    · exact ⟨2 * v + 1, by omega, by rw [show r = (bi (2 * v + 1) ||| bi (N (2 * v)), nI (2 * v + 1)) by simpa using q]⟩
  · have hs : upd (sS s) v 3 w = 0 := hs
    show upd (sK s) v _ w = -1
    by_cases e : w = v
    · rw [e, upd_s] at hs; exact absurd hs (by decide)
    · rw [upd_n e] at hs ⊢; exact h.2.2 w hw hs
theorem sbA_ok {N : Nat → Nat} : ∀ (m v : Nat) (s : sg) (c : Nat), v + m ≤ 10 → Iw s → (sV (sbA N m v s c).1 = sV s ∧ sG (sbA N m v s c).1 = sG s ∧ sO (sbA N m v s c).1 = sO s ∧ sL (sbA N m v s c).1 = sL s) ∧ Iw (sbA N m v s c).1 ∧ (∀ w, sS (sbA N m v s c).1 w = if v ≤ w ∧ w < v + m ∧ sbC N s w = true then 3 else sS s w) ∧ (sbA N m v s c).2 ≤ c + m
  | 0, v, s, c, _, h => ⟨⟨rfl, rfl, rfl, rfl⟩, h, fun w => by rw [if_neg (by omega)]; rfl, Nat.le_refl _⟩
  | m + 1, v, s, c, hv, h => by
    cases e : sbC N s v with
    | false =>
      rw [sbA_f e]
      obtain ⟨h1, h2, h3, h4⟩ := sbA_ok (N := N) m (v + 1) s c (by omega) h
      refine ⟨h1, h2, fun w => ?_, by omega⟩
      rw [h3 w]
      by_cases ew : w = v
      · subst ew
        rw [if_neg (by omega), if_neg (fun q => by rw [e] at q; exact absurd q.2.2 (by decide))]
      · by_cases q : v ≤ w ∧ w < v + (m + 1) ∧ sbC N s w = true
        · rw [if_pos q, if_pos ⟨by omega, by omega, q.2.2⟩]
        · rw [if_neg q, if_neg (fun p => q ⟨by omega, by omega, p.2.2⟩)]
    | true =>
      rw [sbA_t e]
      obtain ⟨e1, e2⟩ := sbC_ok e
      obtain ⟨h1, h2, h3, h4⟩ := sbA_ok (N := N) m (v + 1) (sb1 N s v) (c + 1) (by omega) (sb1_w h (by omega) e1).1
      refine ⟨h1, h2, fun w => ?_, by omega⟩
      rw [h3 w]
      by_cases ew : w = v
      · subst ew
        rw [if_neg (by omega), if_pos ⟨Nat.le_refl _, by omega, e⟩]
        exact upd_s
      · have es : sS (sb1 N s v) w = sS s w := upd_n ew
        have ec : sbC N (sb1 N s v) w = sbC N s w := by unfold sbC; rw [es]
        rw [es, ec]
        by_cases q : v ≤ w ∧ w < v + (m + 1) ∧ sbC N s w = true
        · rw [if_pos q, if_pos ⟨by omega, by omega, q.2.2⟩]
        · rw [if_neg q, if_neg (fun p => q ⟨by omega, by omega, p.2.2⟩)]
def rnA (N : Nat → Nat) (x : Int32) : Nat → Int32
  | 0 => 0
  | l + 1 => if bt x l = true then rnA N x l ||| bi (N l) else rnA N x l
theorem rnA_t {N : Nat → Nat} {x : Int32} {l : Nat} (h : bt x l = true) : rnA N x (l + 1) = rnA N x l ||| bi (N l) := if_pos h
theorem rnA_f {N : Nat → Nat} {x : Int32} {l : Nat} (h : bt x l = false) : rnA N x (l + 1) = rnA N x l := if_neg (by rw [h]; decide)
theorem rnA_iff {N : Nat → Nat} {x : Int32} {b : Nat} (hN : ∀ l, l < 20 → N l < 20) (hb : b < 32) : ∀ n, n ≤ 20 → (bt (rnA N x n) b = true ↔ ∃ l, l < n ∧ bt x l = true ∧ b = N l)
  | 0, _ => ⟨fun h => (by rw [show rnA N x 0 = 0 from rfl, b_0] at h; cases h), fun ⟨l, h, _⟩ => (by omega)⟩
  | n + 1, hn => by
    have ih := rnA_iff (x := x) hN hb n (by omega)
    have hNn := hN n (by omega)
    cases e : bt x n with
    | false =>
      rw [rnA_f e, ih]
      constructor
      · rintro ⟨l, h1, h2⟩; exact ⟨l, by omega, h2⟩
      · rintro ⟨l, h1, h2, h3⟩
        by_cases el : l = n
        · subst el; rw [e] at h2; cases h2
        · exact ⟨l, by omega, h2, h3⟩
    | true =>
      rw [rnA_t e, b_or, Bool.or_eq_true, ih, b_bi (by omega) hb, decide_eq_true_eq]
      constructor
      · rintro (⟨l, h1, h2⟩ | h)
        · exact ⟨l, by omega, h2⟩
        · exact ⟨n, by omega, e, h⟩
      · rintro ⟨l, h1, h2, h3⟩
        by_cases el : l = n
        · subst el; exact Or.inr h3
        · exact Or.inl ⟨l, by omega, h2, h3⟩
def rn (N : Nat → Nat) (x : Int32) : Int32 := rnA N x 20
def rnL (N : Nat → Nat) (L : List Int32) : List Int32 := (L.map (rn N)).filter (fun c => !tv c)
def sbs (s : sg) : sg × Nat := if eqB s = true then (uL s [0], 0) else (uL (sbA (nmL (sL s)) (sV s) 0 s 0).1 (rnL (nmL (sL s)) (sL s)), (sbA (nmL (sL s)) (sV s) 0 s 0).2)
theorem sbs_t {s : sg} (h : eqB s = true) : sbs s = (uL s [0], 0) := if_pos h
theorem sbs_f {s : sg} (h : eqB s = false) : sbs s = (uL (sbA (nmL (sL s)) (sV s) 0 s 0).1 (rnL (nmL (sL s)) (sL s)), (sbA (nmL (sL s)) (sV s) 0 s 0).2) := if_neg (by rw [h]; decide)
theorem nm_20 {L : List Int32} {l : Nat} (hl : l < 20) : nmL L l < 20 := Nat.lt_of_le_of_lt (nm_ok hl).1 hl
theorem nm_even {L : List Int32} (hn : nice L) {l b : Nat} (hl : l < 20) (hb : b = nmL L l) : nmL L (2 * (b / 2)) = 2 * (b / 2) := by
  obtain ⟨h1, h2, h3⟩ := nm_ok (L := L) hl
  rw [← hb] at h1 h2 h3
  have hb20 : b < 20 := by omega
  have e1 : nmL L b = b := by rw [(nm_eqv hn hb20 hl).mpr ⟨h2.2, h2.1⟩]; exact hb.symm
  by_cases he : b % 2 = 0
  · rw [show 2 * (b / 2) = b by omega]; exact e1
  · obtain ⟨k1, k2, k3⟩ := nm_ok (L := L) (l := 2 * (b / 2)) (by omega)
    refine Classical.byContradiction (fun hne => ?_)
    have ho : nmL L (2 * (b / 2)) < 2 * (b / 2) := by omega
    obtain ⟨o, eo⟩ : ∃ o, o = nmL L (2 * (b / 2)) := ⟨_, rfl⟩
    rw [← eo] at ho k2
    have fb : fl (2 * (b / 2)) = b := by unfold fl; rw [if_pos (by omega)]; omega
    have hfo : fl o < b := by unfold fl; split <;> omega
    have q1 := rch_fl hn (by omega) (by omega) k2.1
    have q2 := rch_fl hn (by omega) (by omega) k2.2
    rw [fb] at q1 q2
    have h4 := (nm_ok (L := L) hb20).2.2
    rw [e1] at h4
    exact h4 (fl o) hfo ⟨q2, q1⟩
theorem sbs_inv {s : sg} (h : Inv s) (hb : sL s ≠ [0]) : Inv (sbs s).1 ∧ (sbs s).2 ≤ 10 := by
  have hV := h.V10
  cases e : eqB s with
  | true => rw [sbs_t e]; exact ⟨inv_uL h hb (Or.inl rfl), Nat.zero_le _⟩
  | false =>
    rw [sbs_f e]
    have hn := h.nice
    obtain ⟨⟨v1, v2, v3, v4⟩, w, sS', cn⟩ := sbA_ok (N := nmL (sL s)) (sV s) 0 s 0 (by omega) h.w
    obtain ⟨t, et⟩ : ∃ t, t = sbA (nmL (sL s)) (sV s) 0 s 0 := ⟨_, rfl⟩
    rw [← et] at v1 v2 v3 v4 w sS' cn ⊢
    have len : (rnL (nmL (sL s)) (sL s)).length ≤ (sL s).length := by
      unfold rnL
      exact Nat.le_trans (List.length_filter_le _ _) (by rw [List.length_map]; exact Nat.le_refl _)
    refine ⟨⟨by show 1 ≤ sV t.1 ∧ sV t.1 ≤ 10; rw [v1]; exact h.1, by show ∃ n, n ≤ 8 ∧ sG t.1 = nI n; rw [v2]; exact h.2.1, Nat.le_trans len h.L48, by show (sO t.1).length ≤ 32; rw [v3]; exact h.2.2.2.1, w.1, Or.inr (fun c hc => ?_), w.2.1, fun hall => ?_, w.2.2⟩, by omega⟩
    · have hc : c ∈ rnL (nmL (sL s)) (sL s) := hc
      show okv (sV t.1) (sS t.1) c
      rw [v1]
      unfold rnL at hc
      obtain ⟨hc1, hc2⟩ := List.mem_filter.mp hc
      obtain ⟨x, hx, ex⟩ := List.mem_map.mp hc1
      have okx := h.ok' hb x hx
      have hN : ∀ l, l < 20 → nmL (sL s) l < 20 := fun l hl => nm_20 hl
      have bits : ∀ b, b < 32 → (bt c b = true ↔ ∃ l, l < 20 ∧ bt x l = true ∧ b = nmL (sL s) l) := fun b hb => by rw [← ex]; exact rnA_iff hN hb 20 (Nat.le_refl _)
      refine ⟨?_, by simpa using hc2, fun b hb32 hbc => ?_⟩
      · obtain ⟨l, hl, hbl⟩ := bnz.mp okx.1
        have := (okx.2.2 l hl hbl).1
        exact bnz.mpr ⟨nmL (sL s) l, by have := hN l (by omega); omega, (bits _ (by have := hN l (by omega); omega)).mpr ⟨l, by omega, hbl, rfl⟩⟩
      · obtain ⟨l, hl, hbl, ebl⟩ := (bits b hb32).mp hbc
        obtain ⟨o1, o2⟩ := okx.2.2 l (by omega) hbl
        have ok := nm_ok (L := sL s) hl
        rw [← ebl] at ok
        have hact : b < 2 * sV s ∧ sS s (b / 2) = 0 := by
          by_cases el : b = l
          · rw [el]; exact ⟨o1, o2⟩
          · exact act_rch h hb hl (by omega) ok.2.1.1 el
        refine ⟨hact.1, ?_⟩
        rw [sS' (b / 2), if_neg]
        · exact hact.2
        · rintro ⟨_, _, q⟩
          exact (sbC_ok q).2 (nm_even hn hl ebl)
    · have hall : ∀ v, v < sV t.1 → sS t.1 v = 0 := hall
      have h0 : ∀ v, v < sV s → sS s v = 0 := fun v hv => by
        have q := hall v (by rw [v1]; exact hv)
        rw [sS' v] at q
        split at q
        · exact absurd q (by decide)
        · exact q
      show rnL (nmL (sL s)) (sL s) = [0] ∨ (rnL (nmL (sL s)) (sL s)).length ≤ (sO t.1).length
      rw [v3]
      rcases h.2.2.2.2.2.2.2.1 h0 with q | q
      · exact absurd q hb
      · exact Or.inr (Nat.le_trans len q)
