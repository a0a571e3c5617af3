/-! PROPAGATION -/
def l20 (x : Int32) : Prop := ∀ i, i < 32 → bt x i = true → i < 20
theorem l20_m1 {x : Int32} (h : l20 x) : ¬ x = -1 := fun e => by
  have := h 31 (by decide) (by rw [e]; exact b_m1 31 (by decide))
  omega
theorem l20_0 : l20 0 := fun i _ h => by rw [b_0] at h; cases h
theorem l20_bi {l : Nat} (h : l < 20) : l20 (bi l) := fun i hi hb => by
  rw [b_bi (by omega) hi] at hb
  have := of_decide_eq_true hb
  omega
theorem l20_or {x y : Int32} (hx : l20 x) (hy : l20 y) : l20 (x ||| y) := fun i hi hb => by
  rw [b_or, Bool.or_eq_true] at hb
  exact hb.elim (hx i hi) (hy i hi)
theorem l20_and {x y : Int32} (hx : l20 x) : l20 (x &&& y) := fun i hi hb => by
  rw [b_and, Bool.and_eq_true] at hb
  exact hx i hi hb.1
theorem l20_ng (x : Int32) : l20 (ng x) := fun i hi hb => by
  rw [b_ng x hi, Bool.and_eq_true] at hb
  exact of_decide_eq_true hb.1
theorem l20_pc {x : Int32} (h : l20 x) : pc x ≤ 20 := by
  have := pcA_top (a := 20) h 12 (by omega)
  unfold pc
  rw [show (32 : Nat) = 20 + 12 from rfl, this]
  exact pcA_le x 20
theorem nice20 {L : List Int32} (h : nice L) (i : Nat) : l20 (L.getD i 0) := by
  by_cases hi : i < L.length
  · exact (h _ (gd_mem hi)).2
  · rw [List.getD_eq_getElem?_getD, List.getElem?_eq_none (by omega)]; exact l20_0
def oI : Option Int32 → Int32
  | none => -1
  | some x => x
def opn1 (L : List Int32) (i : Nat) (T : Int32) : Int32 := L.getD i 0 &&& (ng T ^^^ (-1))
def p1 (L : List Int32) (e : Int32) (i : Nat) (T : Int32) : Option Int32 := if nI i = e then some T else if L.getD i 0 &&& T = 0 then (if opn1 L i T = 0 then none else if pc (opn1 L i T) = 1 then some (T ||| opn1 L i T) else some T) else some T
theorem p1_e {L : List Int32} {e T : Int32} {i : Nat} (h : nI i = e) : p1 L e i T = some T := if_pos h
theorem p1_s {L : List Int32} {e T : Int32} {i : Nat} (h2 : ¬ L.getD i 0 &&& T = 0) : p1 L e i T = some T := by
  unfold p1
  rw [if_neg h2]
  split <;> rfl
theorem p1_n {L : List Int32} {e T : Int32} {i : Nat} (h : ¬ nI i = e) (h2 : L.getD i 0 &&& T = 0) (h3 : opn1 L i T = 0) : p1 L e i T = none := by unfold p1; rw [if_neg h, if_pos h2, if_pos h3]
theorem p1_1 {L : List Int32} {e T : Int32} {i : Nat} (h : ¬ nI i = e) (h2 : L.getD i 0 &&& T = 0) (h3 : ¬ opn1 L i T = 0) (h4 : pc (opn1 L i T) = 1) : p1 L e i T = some (T ||| opn1 L i T) := by unfold p1; rw [if_neg h, if_pos h2, if_neg h3, if_pos h4]
theorem p1_m {L : List Int32} {e T : Int32} {i : Nat} (h : ¬ nI i = e) (h2 : L.getD i 0 &&& T = 0) (h3 : ¬ opn1 L i T = 0) (h4 : ¬ pc (opn1 L i T) = 1) : p1 L e i T = some T := by unfold p1; rw [if_neg h, if_pos h2, if_neg h3, if_neg h4]
theorem p1_20 {L : List Int32} (hn : nice L) {e T T' : Int32} {i : Nat} (hT : l20 T) (h : p1 L e i T = some T') : l20 T' := by
  unfold p1 at h
  split at h
  · cases h; exact hT
  · split at h
    · split at h
      · cases h
      · split at h
        · cases h; exact l20_or hT (l20_and (nice20 hn i))
        · cases h; exact hT
    · cases h; exact hT
def pA (L : List Int32) (e : Int32) : Nat → Nat → Int32 → Option Int32
  | 0, _, T => some T
  | m + 1, i, T => match p1 L e i T with
    | none => none
    | some T' => pA L e m (i + 1) T'
theorem pA_n {L : List Int32} {e T : Int32} {m i : Nat} (h : p1 L e i T = none) : pA L e (m + 1) i T = none := by simp only [pA, h]
theorem pA_s {L : List Int32} {e T T' : Int32} {m i : Nat} (h : p1 L e i T = some T') : pA L e (m + 1) i T = pA L e m (i + 1) T' := by simp only [pA, h]
theorem pA_20 {L : List Int32} (hn : nice L) {e : Int32} : ∀ (m i : Nat) (T T' : Int32), l20 T → pA L e m i T = some T' → l20 T'
  | 0, _, T, T', hT, h => by cases h; exact hT
  | m + 1, i, T, T', hT, h => by
    cases e1 : p1 L e i T with
    | none => rw [pA_n e1] at h; cases h
    | some T1 => rw [pA_s e1] at h; exact pA_20 hn m (i + 1) T1 T' (p1_20 hn hT e1) h
def pR (L : List Int32) (e : Int32) : Nat → Int32 → Option Int32
  | 0, T => some T
  | n + 1, T => match pA L e L.length 0 T with
    | none => none
    | some T' => if T' = T then some T' else pR L e n T'
theorem pR_n {L : List Int32} {e T : Int32} {n : Nat} (h : pA L e L.length 0 T = none) : pR L e (n + 1) T = none := by simp only [pR, h]
theorem pR_e {L : List Int32} {e T T' : Int32} {n : Nat} (h : pA L e L.length 0 T = some T') (h2 : T' = T) : pR L e (n + 1) T = some T' := by simp only [pR, h, h2, if_true]
theorem pR_s {L : List Int32} {e T T' : Int32} {n : Nat} (h : pA L e L.length 0 T = some T') (h2 : ¬ T' = T) : pR L e (n + 1) T = pR L e n T' := by simp only [pR, h, h2, if_false]
theorem pR_20 {L : List Int32} (hn : nice L) {e : Int32} : ∀ (n : Nat) (T T' : Int32), l20 T → pR L e n T = some T' → l20 T'
  | 0, T, T', hT, h => by cases h; exact hT
  | n + 1, T, T', hT, h => by
    cases e1 : pA L e L.length 0 T with
    | none => rw [pR_n e1] at h; cases h
    | some T1 =>
      have h1 := pA_20 hn _ _ _ _ hT e1
      by_cases e2 : T1 = T
      · rw [pR_e e1 e2] at h; cases h; exact h1
      · rw [pR_s e1 e2] at h; exact pR_20 hn n T1 T' h1 h
def prop (L : List Int32) (e T : Int32) : Option Int32 := pR L e 21 T
theorem oI_m1 {x : Option Int32} (h : ∀ y, x = some y → l20 y) : oI x = -1 ↔ x = none := by
  cases x with
  | none => exact ⟨fun _ => rfl, fun _ => rfl⟩
  | some y => exact ⟨fun e => absurd e (l20_m1 (h y rfl)), fun e => by cases e⟩
theorem prop_m1 {L : List Int32} (hn : nice L) {e T : Int32} (hT : l20 T) : oI (prop L e T) = -1 ↔ prop L e T = none := oI_m1 (fun y h => pR_20 hn _ _ _ hT h)
theorem pc2 {x : Int32} : (2 : Int32) ≤ nI (pc x) ↔ 2 ≤ pc x := nI_leI (a := 2) (by decide) (by have := pc_le x; omega)
section PRP
variable {g : mj_S} {M : mj_M} {k n : Nat} {s : sg} {L : List Int32}
theorem c_closure (h0 : is0 g k n) (h : cl_ M k n L) (e T : Int32) : kX9_closure k e T g M (fun v M' => M' = M ∧ v = oI (prop L e T)) := by
  have hlt := h.lt
  have inner : ∀ (B : Int32) (r : Nat) (q : Int32 → mj_M → Prop) (m i : Nat) (T : Int32), i + m = L.length → (pA L e m i T = none → q (-1) M) → (∀ T', pA L e m i T = some T' → (¬ T' = B → LX9_closure_5 k n e T' (nI (r + 1)) g M q) ∧ (T' = B → q T' M)) → LX9_closure_18 k n e T (nI r) B (nI i) g M q := by
    intro B r q m
    induction m with
    | zero =>
      intro i T hi h1 h2
      refine bX9_closure_18 h0 ⟨_, c_size h0 h, fun v1 M1 hq => ?_⟩
      obtain ⟨rfl, rfl⟩ := hq
      rw [nI_1]
      exact ⟨fun _ => h2 T rfl, fun hc => absurd (nI_le (by omega) (by omega)) hc⟩
    | succ m ih =>
      intro i T hi h1 h2
      have hil : i < L.length := by omega
      refine bX9_closure_18 h0 ⟨_, c_size h0 h, fun v1 M1 hq => ?_⟩
      obtain ⟨rfl, rfl⟩ := hq
      refine ⟨fun hc => absurd hc (nI_ge hil hlt), fun _ => ⟨_, c_at h0 h (i := i) (by omega), fun v2 M2 hq => ?_⟩⟩
      obtain ⟨rfl, rfl⟩ := hq
      have go : ∀ T', p1 L e i T = some T' → LX9_closure_18 k n e T' (nI r) B (nI (i + 1)) g M2 q := fun T' e1 => by
        rw [pA_s e1] at h1 h2
        exact ih (i + 1) T' (by omega) h1 h2
      rw [nI_1]
      refine ⟨fun he => go T (p1_e he), fun he => ⟨fun hz => ⟨_, c_complements _, fun v3 M3 hq => ?_⟩, fun hz => go T (p1_s hz)⟩⟩
      obtain ⟨rfl, rfl⟩ := hq
      refine ⟨fun ho => ⟨_, c_bitCount _, fun v4 M4 hq => ?_⟩, fun ho => h1 (pA_n (p1_n he hz ho))⟩
      obtain ⟨rfl, rfl⟩ := hq
      rw [pc1]
      exact ⟨fun hp => go T (p1_m he hz ho hp), fun hp => go _ (p1_1 he hz ho hp)⟩
  have outer : ∀ (m r : Nat) (T : Int32), r + m = 21 → LX9_closure_5 k n e T (nI r) g M (fun v M' => M' = M ∧ v = oI (pR L e m T)) := by
    intro m
    induction m with
    | zero =>
      intro r T hr
      exact bX9_closure_5 h0 ⟨fun _ => ⟨rfl, rfl⟩, fun hc => absurd (by rw [show r = 21 by omega]; decide) hc⟩
    | succ m ih =>
      intro r T hr
      refine bX9_closure_5 h0 ⟨fun hc => ?_, fun _ => ?_⟩
      · rw [show (20 : Int32) = nI 20 from rfl, nI_ltI (by decide) (by omega)] at hc; omega
      · refine inner T r _ L.length 0 T (by omega) (fun e1 => ?_) (fun T' e1 => ⟨fun e2 => ?_, fun e2 => ?_⟩)
        · rw [pR_n e1]; exact ⟨rfl, rfl⟩
        · rw [pR_s e1 e2]; exact ih (r + 1) T' (by omega)
        · rw [pR_e e1 e2]; exact ⟨rfl, rfl⟩
  exact eX9_closure h0 (outer 21 0 T (by omega))
theorem op_new {i : Nat} {T : Int32} (h : L.getD i 0 &&& T = 0) (h2 : ¬ opn1 L i T = 0) : pc T < pc (T ||| opn1 L i T) := by
  obtain ⟨j, hj, hb⟩ := bnz.mp h2
  have hb1 : bt (L.getD i 0) j = true := by unfold opn1 at hb; rw [b_and, Bool.and_eq_true] at hb; exact hb.1
  have hz := bz.mp h j hj
  rw [b_and, hb1, Bool.true_and] at hz
  exact pc_lt (fun i hi hb => by rw [b_or, hb]; rfl) hj hz (by rw [b_or, hb, Bool.or_true])
theorem r_propagated (h0 : is10 g k) (h : rr_ M k s) (hn : nice (sL s)) (e : Int32) {T : Int32} (hT : l20 T) : kX10_propagated k T e g M (fun v M' => M' = M ∧ v = oI (prop (sL s) e T)) := by
  have h48 := h.n48
  have inner : ∀ (B : Int32) (q : Int32 → mj_M → Prop) (m i : Nat) (T b : Int32), i + m = (sL s).length → ((b = 0 ∧ T = B) ∨ (b = 1 ∧ pc B < pc T)) → (pA (sL s) e m i T = none → q (-1) M) → (∀ T' b', pA (sL s) e m i T = some T' → ((b' = 0 ∧ T' = B) ∨ (b' = 1 ∧ pc B < pc T')) → LX10_propagated_5 k e T' b' g M q) → LX10_propagated_16 k e T b (nI i) g M q := by
    intro B q m
    induction m with
    | zero =>
      intro i T b hi hb h1 h2
      exact bX10_propagated_16 h0 ⟨fun _ => h2 T b rfl hb, fun hc => absurd (h.done (by omega)) hc⟩
    | succ m ih =>
      intro i T b hi hb h1 h2
      have hil : i < (sL s).length := by omega
      refine bX10_propagated_16 h0 ⟨fun hc => absurd hc (h.more hil), fun _ => ⟨_, r_clauseAt h0 h hil, fun v1 M1 hq => ?_⟩⟩
      obtain ⟨rfl, rfl⟩ := hq
      refine ⟨_, r_turned _, fun v2 M2 hq => ?_⟩
      obtain ⟨rfl, rfl⟩ := hq
      have go : ∀ T' b', p1 (sL s) e i T = some T' → ((b' = 0 ∧ T' = B) ∨ (b' = 1 ∧ pc B < pc T')) → LX10_propagated_16 k e T' b' (nI (i + 1)) g M2 q := fun T' b' e1 hb' => by
        rw [pA_s e1] at h1 h2
        exact ih (i + 1) T' b' (by omega) hb' h1 h2
      rw [nI_1]
      refine ⟨fun he => go T b (p1_e he) hb, fun he => ⟨_, r_clauseAt h0 h hil, fun v3 M3 hq => ?_⟩⟩
      obtain ⟨rfl, rfl⟩ := hq
      refine ⟨fun hz => go T b (p1_s hz) hb, fun hz => ⟨_, r_bits _, fun v4 M4 hq => ?_⟩⟩
      obtain ⟨rfl, rfl⟩ := hq
      rw [pc2]
      refine ⟨fun hp => ?_, fun hp => ⟨fun ho => ?_, fun ho => h1 (pA_n (p1_n he hz ho))⟩⟩
      · have ho : ¬ opn1 (sL s) i T = 0 := fun e0 => by
          have e1 := pc_zero.mpr e0
          unfold opn1 at e1
          omega
        exact go T b (p1_m he hz ho (by unfold opn1; omega)) hb
      · have hp1 : pc (opn1 (sL s) i T) = 1 := by
          have : pc (opn1 (sL s) i T) ≠ 0 := fun e0 => ho (pc_zero.mp e0)
          unfold opn1 at this ⊢
          omega
        have hg := op_new hz ho
        refine go _ 1 (p1_1 he hz ho hp1) (Or.inr ⟨rfl, ?_⟩)
        rcases hb with q | q
        · rw [← q.2]; exact hg
        · exact Nat.lt_trans q.2 hg
  have outer : ∀ (m : Nat) (T : Int32), l20 T → 20 - pc T < m → LX10_propagated_5 k e T 1 g M (fun v M' => M' = M ∧ v = oI (pR (sL s) e m T)) := by
    intro m
    induction m with
    | zero => intro T _ hm; omega
    | succ m ih =>
      intro T hT hm
      refine bX10_propagated_5 h0 ⟨fun hc => absurd hc (by decide), fun _ => ?_⟩
      refine inner T _ (sL s).length 0 T 0 (by omega) (Or.inl ⟨rfl, rfl⟩) (fun e1 => ?_) (fun T' b' e1 hb => ?_)
      · rw [pR_n e1]; exact ⟨rfl, rfl⟩
      · rcases hb with q | q
        · rw [q.1]
          refine bX10_propagated_5 h0 ⟨fun _ => ?_, fun hc => absurd rfl hc⟩
          rw [pR_e e1 q.2]; exact ⟨rfl, rfl⟩
        · have e2 : ¬ T' = T := fun e2 => by rw [e2] at q; omega
          have h20 := pA_20 hn _ _ _ _ hT e1
          have hle := l20_pc h20
          rw [q.1, pR_s e1 e2]
          exact ih T' h20 (by omega)
  exact eX10_propagated h0 (outer 21 T hT (by omega))
end PRP
