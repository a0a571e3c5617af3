/-! THE REFERENCE'S ROW: the same state in one row of numbers -/
def ra_ (a : Nat → Int32) (s : sg) : Prop := a 0 = nI (sV s) ∧ a 1 = sG s ∧ (∀ t, t < 10 → a (2 + t) = sT s t) ∧ (∀ v, v < 10 → a (12 + v) = sS s v) ∧ (∀ v, v < 10 → a (22 + v) = sK s v) ∧ a 32 = nI (sO s).length ∧ (sO s).length ≤ 32 ∧ (∀ i, i < (sO s).length → a (33 + i) = (sO s).getD i 0) ∧ a 65 = nI (sL s).length ∧ (sL s).length ≤ 48 ∧ (∀ i, i < (sL s).length → a (66 + i) = (sL s).getD i 0) ∧ a 114 = nI (sR s).length ∧ (sR s).length ≤ 140 ∧ (∀ i, i < (sR s).length → a (115 + 2 * i) = ((sR s).getD i (0, 0)).1 ∧ a (115 + 2 * i + 1) = ((sR s).getD i (0, 0)).2) ∧ sV s ≤ 10
/-- the reference's object at k holds s -/
def rr_ (M : mj_M) (k : Nat) (s : sg) : Prop := ra_ (M.1 (k + 1)) s
theorem rr_.fr {M M' : mj_M} {k lo hi : Nat} {s : sg} (h : rr_ M k s) (hf : fr_ lo hi M M') (hk : k + 2 ≤ lo ∨ hi ≤ k + 1) : rr_ M' k s := by
  unfold rr_; rw [hf.1 (k + 1) (by omega)]; exact h
theorem wI_row {M : mj_M} {k i : Nat} {x : Int32} : (mj_wI M k i x).1 k = upd (M.1 k) i x := by
  funext b; by_cases h : b = i <;> simp [mj_wI, mj_up2, upd, h]
theorem i66 (i : Nat) : (66 : Int32) + nI i = nI (66 + i) := nI_add 66 i
theorem i33 (i : Nat) : (33 : Int32) + nI i = nI (33 + i) := nI_add 33 i
theorem i12 (i : Nat) : (12 : Int32) + nI i = nI (12 + i) := nI_add 12 i
theorem i22 (i : Nat) : (22 : Int32) + nI i = nI (22 + i) := nI_add 22 i
theorem i2 (i : Nat) : (2 : Int32) + nI i = nI (2 + i) := nI_add 2 i
theorem i115 (i : Nat) : (115 : Int32) + nI i = nI (115 + i) := nI_add 115 i
theorem t65 : Int32.toNatClampNeg 65 = 65 := by decide +kernel
theorem t66 : Int32.toNatClampNeg 66 = 66 := by decide +kernel
theorem t0 : Int32.toNatClampNeg 0 = 0 := by decide +kernel
theorem t1 : Int32.toNatClampNeg 1 = 1 := by decide +kernel
theorem t32 : Int32.toNatClampNeg 32 = 32 := by decide +kernel
theorem t114 : Int32.toNatClampNeg 114 = 114 := by decide +kernel
theorem t6 : Int32.toNatClampNeg 6 = 6 := by decide +kernel
section REF
variable {g : mj_S} {M : mj_M} {k : Nat} {s : sg}
theorem rr_.V (h : rr_ M k s) : M.1 (k + 1) (Int32.toNatClampNeg 0) = nI (sV s) := by rw [t0]; exact h.1
theorem rr_.n (h : rr_ M k s) : M.1 (k + 1) (Int32.toNatClampNeg 65) = nI (sL s).length := by rw [t65]; exact h.2.2.2.2.2.2.2.2.1
theorem rr_.o (h : rr_ M k s) : M.1 (k + 1) (Int32.toNatClampNeg 32) = nI (sO s).length := by rw [t32]; exact h.2.2.2.2.2.1
theorem rr_.r (h : rr_ M k s) : M.1 (k + 1) (Int32.toNatClampNeg 114) = nI (sR s).length := by rw [t114]; exact h.2.2.2.2.2.2.2.2.2.2.2.1
theorem rr_.n48 (h : rr_ M k s) : (sL s).length ≤ 48 := h.2.2.2.2.2.2.2.2.2.1
theorem rr_.r140 (h : rr_ M k s) : (sR s).length ≤ 140 := h.2.2.2.2.2.2.2.2.2.2.2.2.1
theorem rr_.V10 (h : rr_ M k s) : sV s ≤ 10 := h.2.2.2.2.2.2.2.2.2.2.2.2.2.2
theorem rr_.o32 (h : rr_ M k s) : (sO s).length ≤ 32 := h.2.2.2.2.2.2.1
theorem rr_.at (h : rr_ M k s) {i : Nat} (hi : i < (sL s).length) : M.1 (k + 1) (66 + i) = (sL s).getD i 0 := h.2.2.2.2.2.2.2.2.2.2.1 i hi
theorem rr_.done (h : rr_ M k s) {i : Nat} (hi : i = (sL s).length) : M.1 (k + 1) (Int32.toNatClampNeg 65) ≤ nI i := by rw [h.n, hi]; exact Int32.le_refl _
theorem rr_.more (h : rr_ M k s) {i : Nat} (hi : i < (sL s).length) : ¬ M.1 (k + 1) (Int32.toNatClampNeg 65) ≤ nI i := nlt hi (by have := h.n48; omega) h.n
theorem r_clauseAt (h0 : is10 g k) (h : rr_ M k s) {i : Nat} (hi : i < (sL s).length) : kX10_clauseAt k (nI i) g M (fun v M' => M' = M ∧ v = (sL s).getD i 0) := by
  have := h.n48
  refine eX10_clauseAt h0 ?_
  rw [i66]
  exact ⟨vp_in_nI (by omega) (by decide), rfl, by rw [nI_clamp (by omega)]; exact h.at hi⟩
theorem r_isBroken (h0 : is10 g k) (h : rr_ M k s) : kX10_isBroken k g M (fun v M' => M' = M ∧ v = if sL s = [0] then 1 else 0) := by
  have h48 := h.n48
  refine eX10_isBroken h0 ?_
  rw [h.n, t66]
  refine ⟨fun hc => ⟨rfl, ?_⟩, fun hc => ?_⟩
  · rw [if_neg]; intro e; rw [e] at hc; exact hc rfl
  · have hl : (sL s).length = 1 := (nI_eq (by omega) (by decide)).mp hc
    have ha := h.at (i := 0) (by omega)
    obtain ⟨a, ea⟩ := List.length_eq_one_iff.mp hl
    rw [ea] at ha
    have ha : M.1 (k + 1) 66 = a := ha
    rw [ha, ea]
    refine ⟨fun hz => ⟨rfl, ?_⟩, fun hz => ⟨rfl, ?_⟩⟩
    · rw [if_neg]; intro e; exact hz (by simpa using e)
    · rw [if_pos]; rw [hz]
/-- the list of the row changes -/
theorem ra_L {a a' : Nat → Int32} {s : sg} {L : List Int32} (h : ra_ a s) (hn : a' 65 = nI L.length) (hl : L.length ≤ 48) (hi : ∀ i, i < L.length → a' (66 + i) = L.getD i 0) (ho : ∀ j, j < 65 ∨ 114 ≤ j → a' j = a j) : ra_ a' (uL s L) := by
  obtain ⟨h1, h2, h3, h4, h5, h6, h7, h8, h9, h10, h11, h12, h13, h14, h15⟩ := h
  exact ⟨by rw [ho 0 (by decide)]; exact h1, by rw [ho 1 (by decide)]; exact h2, fun t ht => by rw [ho _ (by omega)]; exact h3 t ht, fun t ht => by rw [ho _ (by omega)]; exact h4 t ht, fun t ht => by rw [ho _ (by omega)]; exact h5 t ht, by rw [ho 32 (by decide)]; exact h6, h7, fun i hi => by have hi' : i < (sO s).length := hi; rw [ho _ (by omega)]; exact h8 i hi', hn, hl, hi, by rw [ho 114 (by decide)]; exact h12, h13, fun i hi => by rw [ho _ (by omega), ho _ (by omega)]; exact h14 i hi, h15⟩
theorem r_breaks (h0 : is10 g k) (h : rr_ M k s) : kX10_breaks k g M (fun M' => rr_ M' k (uL s [0]) ∧ fr_ (k + 1) (k + 2) M M') := by
  refine eX10_breaks h0 ⟨?_, (fr_.wI (by omega) (by omega)).tr (fr_.wI (by omega) (by omega))⟩
  unfold rr_
  rw [wI_row, wI_row, t65, t66]
  refine ra_L h (by simp [upd]; rfl) (by decide) (fun i hi => ?_) (fun j hj => by simp [upd, show ¬ j = 66 by omega, show ¬ j = 65 by omega])
  have : i = 0 := by simp at hi; omega
  subst this; simp [upd]
theorem r_appends (h0 : is10 g k) (h : rr_ M k s) (x : Int32) (hl : x ≠ 0 → sL s ≠ [0] → (sL s).length < 48) : kX10_appends k x g M (fun M' => rr_ M' k (inc s x) ∧ fr_ (k + 1) (k + 2) M M') := by
  refine eX10_appends h0 ⟨fun hx => ⟨_, r_isBroken h0 h, fun v1 M1 hq => ?_⟩, fun hx => ⟨_, r_breaks h0 h, fun M2 hq => ?_⟩⟩
  · obtain ⟨rfl, rfl⟩ := hq
    unfold inc
    by_cases hb : sL s = [0]
    · rw [if_pos hb, if_pos hb]; exact ⟨fun _ => ⟨h, fr_.rf⟩, fun hc => absurd hc (by decide)⟩
    · rw [if_neg hb, if_neg hb, if_neg hx]
      have hlt := hl hx hb
      refine ⟨fun hc => absurd rfl hc, fun _ => ?_⟩
      rw [h.n, i66]
      refine ⟨vp_in_nI (by omega) (by decide), ?_, (fr_.wI (by omega) (by omega)).tr (fr_.wI (by omega) (by omega))⟩
      rw [nI_clamp (by omega)]
      have e65 : (mj_wI M1 (k + 1) (66 + (sL s).length) x).1 (k + 1) (Int32.toNatClampNeg 65) = nI (sL s).length := by
        rw [wI_k (by rw [t65]; omega)]; exact h.n
      rw [e65, nI_1]
      unfold rr_
      rw [wI_row, wI_row, t65]
      refine ra_L h (by simp [upd]) (by simp; omega) (fun i hi => ?_) (fun j hj => by simp [upd, show ¬ j = 65 by omega, show ¬ j = 66 + (sL s).length by omega])
      simp only [List.length_append, List.length_cons, List.length_nil] at hi
      simp only [upd]
      rw [if_neg (by omega)]
      rcases Nat.lt_or_ge i (sL s).length with q | q
      · rw [if_neg (by omega), h.at q, List.getD_eq_getElem?_getD, List.getD_eq_getElem?_getD, List.getElem?_append_left q]
      · have : i = (sL s).length := by omega
        subst this
        rw [if_pos rfl, gd_last]
  · unfold inc
    by_cases hb : sL s = [0]
    · rw [if_pos hb]
      refine ⟨?_, hq.2⟩
      have : uL s [0] = s := by
        have e : uL s (sL s) = s := rfl
        rw [hb] at e; exact e
      rw [← this]; exact hq.1
    · rw [if_neg hb, if_pos hx]; exact hq
theorem r_occurring (h0 : is10 g k) (h : rr_ M k s) : kX10_occurring k g M (fun v M' => M' = M ∧ v = (sL s).foldl (· ||| ·) 0) := by
  refine eX10_occurring h0 ?_
  have key : ∀ m i, i + m = (sL s).length → LX10_occurring_4 k (((sL s).take i).foldl (· ||| ·) 0) (nI i) g M (fun v M' => M' = M ∧ v = (sL s).foldl (· ||| ·) 0) := by
    intro m
    induction m with
    | zero => intro i hi; exact bX10_occurring_4 h0 ⟨fun _ => ⟨rfl, by rw [tk_all (by omega)]⟩, fun hc => absurd (h.done (by omega)) hc⟩
    | succ m ih =>
      intro i hi
      have hl : i < (sL s).length := by omega
      have nx := ih (i + 1) (by omega)
      rw [tk_succ hl, List.foldl_append] at nx
      refine bX10_occurring_4 h0 ⟨fun hc => absurd hc (h.more hl), fun _ => ⟨_, r_clauseAt h0 h hl, fun v1 M1 hq => ?_⟩⟩
      obtain ⟨rfl, rfl⟩ := hq
      rw [nI_1]; exact nx
  exact key (sL s).length 0 (by omega)
theorem r_countOf (h0 : is10 g k) (h : rr_ M k s) {j : Nat} (hj : j < 32) : kX10_countOf k (nI j) g M (fun v M' => M' = M ∧ v = nI ((sL s).countP (fun c => bt c j))) := by
  refine eX10_countOf h0 ?_
  have key : ∀ m i, i + m = (sL s).length → LX10_countOf_4 k (nI j) (nI (((sL s).take i).countP (fun c => bt c j))) (nI i) g M (fun v M' => M' = M ∧ v = nI ((sL s).countP (fun c => bt c j))) := by
    intro m
    induction m with
    | zero => intro i hi; exact bX10_countOf_4 h0 ⟨fun _ => ⟨rfl, by rw [tk_all (by omega)]⟩, fun hc => absurd (h.done (by omega)) hc⟩
    | succ m ih =>
      intro i hi
      have hl : i < (sL s).length := by omega
      have nx := ih (i + 1) (by omega)
      rw [tk_succ hl, List.countP_append, List.countP_singleton] at nx
      refine bX10_countOf_4 h0 ⟨fun hc => absurd hc (h.more hl), fun _ => ⟨_, r_clauseAt h0 h hl, fun v1 M1 hq => ?_⟩⟩
      obtain ⟨rfl, rfl⟩ := hq
      refine ⟨_, r_has _ hj, fun v2 M2 hq => ?_⟩
      obtain ⟨rfl, rfl⟩ := hq
      rw [nI_1]
      cases hb : bt ((sL s).getD i 0) j with
      | true => rw [hb] at nx; exact ⟨fun hc => absurd hc (by decide), fun _ => by rw [show (1 : Int32) = nI 1 from rfl, nI_add]; exact nx⟩
      | false => rw [hb] at nx; exact ⟨fun _ => by rw [show (0 : Int32) = nI 0 from rfl, nI_add]; exact nx, fun hc => absurd rfl hc⟩
  exact key (sL s).length 0 (by omega)
theorem r_lengths (h0 : is10 g k) (h : rr_ M k s) : kX10_lengths k g M (fun v M' => M' = M ∧ v = nI (lits (sL s))) := by
  refine eX10_lengths h0 ?_
  have key : ∀ m i, i + m = (sL s).length → LX10_lengths_4 k (nI (lits ((sL s).take i))) (nI i) g M (fun v M' => M' = M ∧ v = nI (lits (sL s))) := by
    intro m
    induction m with
    | zero => intro i hi; exact bX10_lengths_4 h0 ⟨fun _ => ⟨rfl, by rw [tk_all (by omega)]⟩, fun hc => absurd (h.done (by omega)) hc⟩
    | succ m ih =>
      intro i hi
      have hl : i < (sL s).length := by omega
      refine bX10_lengths_4 h0 ⟨fun hc => absurd hc (h.more hl), fun _ => ⟨_, r_clauseAt h0 h hl, fun v1 M1 hq => ?_⟩⟩
      obtain ⟨rfl, rfl⟩ := hq
      refine ⟨_, r_bits _, fun v2 M2 hq => ?_⟩
      obtain ⟨rfl, rfl⟩ := hq
      rw [nI_add, nI_1, ← lits_tk hl]
      exact ih (i + 1) (by omega)
  exact key (sL s).length 0 (by omega)
theorem r_isActive (h0 : is10 g k) (h : rr_ M k s) {v : Nat} (hv : v < 10) : kX10_isActive k (nI v) g M (fun r M' => M' = M ∧ r = if sS s v = 0 then 1 else 0) := by
  refine eX10_isActive h0 ?_
  rw [i12, nI_clamp (by omega), h.2.2.2.1 v hv]
  exact ⟨vp_in_nI (by omega) (by decide), fun hc => ⟨rfl, by rw [if_neg hc]⟩, fun hc => ⟨rfl, by rw [if_pos hc]⟩⟩
theorem r_actives (h0 : is10 g k) (h : rr_ M k s) : kX10_actives k g M (fun r M' => M' = M ∧ r = act s) := by
  refine eX10_actives h0 ?_
  have hV := h.V10
  have key : ∀ m i, i + m = sV s → LX10_actives_4 k (bmA (fun v => decide (sS s v = 0)) i) (nI i) g M (fun r M' => M' = M ∧ r = act s) := by
    intro m
    induction m with
    | zero =>
      intro i hi
      refine bX10_actives_4 h0 ⟨fun _ => ⟨rfl, ?_⟩, fun hc => absurd (by rw [h.V, show i = sV s by omega]; exact Int32.le_refl _) hc⟩
      refine bm_eq (fun j hj => ?_)
      rw [bmA_bt _ i (by omega) j hj, show i = sV s by omega]
    | succ m ih =>
      intro i hi
      have nx := ih (i + 1) (by omega)
      rw [show bmA (fun v => decide (sS s v = 0)) (i + 1) = bmA (fun v => decide (sS s v = 0)) i ||| (if decide (sS s i = 0) then bi i else 0) from rfl] at nx
      refine bX10_actives_4 h0 ⟨fun hc => absurd hc (nlt (n := sV s) (by omega) (by omega) h.V), fun _ => ⟨_, r_isActive h0 h (by omega), fun v1 M1 hq => ?_⟩⟩
      obtain ⟨rfl, rfl⟩ := hq
      rw [nI_1]
      by_cases hs : sS s i = 0
      · rw [if_pos hs]
        rw [decide_eq_true hs] at nx
        exact ⟨fun hc => absurd hc (by decide), fun _ => nx⟩
      · rw [if_neg hs]
        rw [decide_eq_false hs] at nx
        exact ⟨fun _ => nx, fun hc => absurd rfl hc⟩
  exact key (sV s) 0 (by omega)
end REF
