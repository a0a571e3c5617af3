/-! IMPLICATIONS: what is reached -/
def eA (L : List Int32) (c : Nat) : Nat → Int32
  | 0 => 0
  | i + 1 => if (decide (pc (L.getD i 0) = 2) && bt (L.getD i 0) (fl c)) = true then eA L c i ||| (L.getD i 0 &&& (bi (fl c) ^^^ (-1))) else eA L c i
def eg (L : List Int32) (c : Nat) : Int32 := eA L c L.length
theorem eA_iff {L : List Int32} {c b : Nat} (hc : c < 20) (hb : b < 32) : ∀ n, bt (eA L c n) b = true ↔ ∃ i, i < n ∧ pc (L.getD i 0) = 2 ∧ bt (L.getD i 0) (fl c) = true ∧ bt (L.getD i 0) b = true ∧ b ≠ fl c
  | 0 => ⟨fun h => (by rw [show eA L c 0 = 0 from rfl, b_0] at h; cases h), fun ⟨i, h, _⟩ => (by omega)⟩
  | n + 1 => by
    have ih := eA_iff (L := L) hc hb n
    have hf := fl32 hc
    have step : bt (eA L c (n + 1)) b = true ↔ bt (eA L c n) b = true ∨ (pc (L.getD n 0) = 2 ∧ bt (L.getD n 0) (fl c) = true ∧ bt (L.getD n 0) b = true ∧ b ≠ fl c) := by
      show bt (if (decide (pc (L.getD n 0) = 2) && bt (L.getD n 0) (fl c)) = true then eA L c n ||| (L.getD n 0 &&& (bi (fl c) ^^^ (-1))) else eA L c n) b = true ↔ _
      split
      · rename_i hq
        rw [Bool.and_eq_true, decide_eq_true_eq] at hq
        rw [b_or, b_and, b_not hb, b_bi (by omega) hb]
        simp only [Bool.or_eq_true, Bool.and_eq_true, Bool.not_eq_true', decide_eq_false_iff_not]
        exact ⟨fun h => h.elim Or.inl (fun h => Or.inr ⟨hq.1, hq.2, h.1, h.2⟩), fun h => h.elim Or.inl (fun h => Or.inr ⟨h.2.2.1, h.2.2.2⟩)⟩
      · rename_i hq
        rw [Bool.and_eq_true, decide_eq_true_eq] at hq
        exact ⟨Or.inl, fun h => h.elim id (fun h => absurd ⟨h.1, h.2.1⟩ hq)⟩
    rw [step, ih]
    constructor
    · rintro (⟨i, h1, h2⟩ | h)
      · exact ⟨i, by omega, h2⟩
      · exact ⟨n, by omega, h⟩
    · rintro ⟨i, h1, h2⟩
      by_cases e : i = n
      · subst e; exact Or.inr h2
      · exact Or.inl ⟨i, by omega, h2⟩
def ed (L : List Int32) (c b : Nat) : Prop := bt (eg L c) b = true
theorem ed_iff {L : List Int32} {c b : Nat} (hc : c < 20) (hb : b < 32) : ed L c b ↔ ∃ i, i < L.length ∧ pc (L.getD i 0) = 2 ∧ bt (L.getD i 0) (fl c) = true ∧ bt (L.getD i 0) b = true ∧ b ≠ fl c := eA_iff hc hb L.length
theorem ed_20 {L : List Int32} (hn : nice L) {c b : Nat} (hc : c < 20) (hb : b < 32) (h : ed L c b) : b < 20 := by
  obtain ⟨i, _, _, _, h4, _⟩ := (ed_iff hc hb).mp h
  exact nice20 hn i b hb h4
/-- the other way round -/
theorem ed_fl {L : List Int32} {c b : Nat} (hc : c < 20) (hb : b < 20) (h : ed L c b) : ed L (fl b) (fl c) := by
  obtain ⟨i, h1, h2, h3, h4, h5⟩ := (ed_iff hc (by omega)).mp h
  have := fl32 hb
  have := fl32 hc
  exact (ed_iff (by omega) (by omega)).mpr ⟨i, h1, h2, by rw [fl_fl]; exact h4, h3, by rw [fl_fl]; exact fun e => h5 e.symm⟩
def cld (L : List Int32) (S : Int32) : Prop := ∀ c b, c < 20 → b < 32 → bt S c = true → ed L c b → bt S b = true
def uA (L : List Int32) (S : Int32) : Nat → Int32
  | 0 => S
  | c + 1 => if bt S c = true then uA L S c ||| eg L c else uA L S c
theorem uA_iff {L : List Int32} {S : Int32} {b : Nat} : ∀ n, bt (uA L S n) b = true ↔ bt S b = true ∨ ∃ c, c < n ∧ bt S c = true ∧ ed L c b
  | 0 => ⟨Or.inl, fun h => h.elim id (fun ⟨c, h, _⟩ => by omega)⟩
  | n + 1 => by
    have ih := uA_iff (L := L) (S := S) (b := b) n
    have step : bt (uA L S (n + 1)) b = true ↔ bt (uA L S n) b = true ∨ (bt S n = true ∧ ed L n b) := by
      show bt (if bt S n = true then uA L S n ||| eg L n else uA L S n) b = true ↔ _
      split
      · rename_i hq
        rw [b_or, Bool.or_eq_true]
        exact ⟨fun h => h.elim Or.inl (fun h => Or.inr ⟨hq, h⟩), fun h => h.elim Or.inl (fun h => Or.inr h.2)⟩
      · rename_i hq
        exact ⟨Or.inl, fun h => h.elim id (fun h => absurd h.1 hq)⟩
    rw [step, ih]
    constructor
    · rintro ((h | ⟨c, h1, h2⟩) | h)
      · exact Or.inl h
      · exact Or.inr ⟨c, by omega, h2⟩
      · exact Or.inr ⟨n, by omega, h⟩
    · rintro (h | ⟨c, h1, h2⟩)
      · exact Or.inl (Or.inl h)
      · by_cases e : c = n
        · subst e; exact Or.inr h2
        · exact Or.inl (Or.inr ⟨c, by omega, h2⟩)
def nx (L : List Int32) (S : Int32) : Int32 := uA L S 20
theorem nx_iff {L : List Int32} {S : Int32} {b : Nat} : bt (nx L S) b = true ↔ bt S b = true ∨ ∃ c, c < 20 ∧ bt S c = true ∧ ed L c b := uA_iff 20
theorem nx_20 {L : List Int32} (hn : nice L) {S : Int32} (h : l20 S) : l20 (nx L S) := fun i hi hb => by
  rcases nx_iff.mp hb with q | ⟨c, h1, _, h3⟩
  · exact h i hi q
  · exact ed_20 hn h1 hi h3
def rN (L : List Int32) : Nat → Int32 → Int32
  | 0, S => S
  | n + 1, S => rN L n (nx L S)
theorem rN_s {L : List Int32} : ∀ n S, rN L (n + 1) S = nx L (rN L n S)
  | 0, _ => rfl
  | n + 1, S => rN_s n (nx L S)
theorem rN_fix {L : List Int32} {S : Int32} (h : nx L S = S) : ∀ n, rN L n S = S
  | 0 => rfl
  | n + 1 => by show rN L n (nx L S) = S; rw [h]; exact rN_fix h n
theorem rN_sub {L : List Int32} : ∀ n S b, bt S b = true → bt (rN L n S) b = true
  | 0, _, _, h => h
  | n + 1, S, b, h => rN_sub n (nx L S) b (nx_iff.mpr (Or.inl h))
theorem rN_cld {L : List Int32} (hn : nice L) : ∀ n S, l20 S → 20 - pc S < n → cld L (rN L n S)
  | 0, _, _, h => by omega
  | n + 1, S, h20, hp => by
    by_cases e : nx L S = S
    · rw [rN_fix e (n + 1)]
      intro c b hc hb h1 h2
      rw [← e]; exact nx_iff.mpr (Or.inr ⟨c, hc, h1, h2⟩)
    · have h2 := nx_20 hn h20
      refine rN_cld hn n (nx L S) h2 ?_
      have hne : ∃ j, j < 32 ∧ bt S j = false ∧ bt (nx L S) j = true := by
        refine Classical.byContradiction (fun hh => e (b_ext (fun i hi => ?_)))
        cases a : bt S i with
        | true => exact nx_iff.mpr (Or.inl a)
        | false =>
          cases b : bt (nx L S) i with
          | false => rfl
          | true => exact absurd ⟨i, hi, a, b⟩ hh
      obtain ⟨j, hj, j1, j2⟩ := hne
      have := pc_lt (x := S) (y := nx L S) (fun i _ hb => nx_iff.mpr (Or.inl hb)) hj j1 j2
      have := l20_pc h2
      omega
theorem rN_least {L : List Int32} {X : Int32} (hX : cld L X) : ∀ n S, (∀ b, b < 32 → bt S b = true → bt X b = true) → ∀ b, b < 32 → bt (rN L n S) b = true → bt X b = true
  | 0, _, h => h
  | n + 1, S, h => rN_least hX n (nx L S) (fun b hb h1 => by
    rcases nx_iff.mp h1 with q | ⟨c, h1, h2, h3⟩
    · exact h b hb q
    · exact hX c b h1 hb (h c (by omega) h2) h3)
/-- all that is reached from a literal -/
def rch (L : List Int32) (a : Nat) : Int32 := rN L 20 (bi a)
theorem rch_self {L : List Int32} {a : Nat} (ha : a < 20) : bt (rch L a) a = true := rN_sub 20 _ a (by rw [b_bi (by omega) (by omega)]; simp)
theorem rch_cld {L : List Int32} (hn : nice L) {a : Nat} (ha : a < 20) : cld L (rch L a) := rN_cld hn 20 _ (l20_bi ha) (by rw [pc_bi (by omega)]; decide)
theorem rch_least {L : List Int32} {a : Nat} (ha : a < 20) {X : Int32} (hX : cld L X) (h : bt X a = true) : ∀ b, b < 32 → bt (rch L a) b = true → bt X b = true := rN_least hX 20 _ (fun b hb h1 => by
  rw [b_bi (by omega) hb] at h1
  rw [of_decide_eq_true h1]; exact h)
theorem rch_20 {L : List Int32} (hn : nice L) {a : Nat} (ha : a < 20) : l20 (rch L a) := by
  have key : ∀ n S, l20 S → l20 (rN L n S) := by
    intro n
    induction n with
    | zero => exact fun S h => h
    | succ n ih => exact fun S h => ih (nx L S) (nx_20 hn h)
  exact key 20 _ (l20_bi ha)
theorem rch_trans {L : List Int32} (hn : nice L) {a c b : Nat} (ha : a < 20) (hc : c < 20) (hb : b < 32) (h1 : bt (rch L a) c = true) (h2 : bt (rch L c) b = true) : bt (rch L a) b = true := rch_least hc (rch_cld hn ha) h1 b hb h2
theorem rch_fl {L : List Int32} (hn : nice L) {a b : Nat} (ha : a < 20) (hb : b < 20) (h : bt (rch L a) b = true) : bt (rch L (fl b)) (fl a) = true := by
  have hfa := fl32 ha
  have main := rch_least (L := L) ha (X := bm (fun b => decide (b < 20) && bt (rch L (fl b)) (fl a))) (fun c b hc hb h1 h2 => ?_) ?_ b (by omega) h
  · rw [bm_bt _ (by omega), Bool.and_eq_true] at main; exact main.2
  · rw [bm_bt _ (by omega), Bool.and_eq_true] at h1
    have hb20 := ed_20 hn hc hb h2
    have hfb := fl32 hb20
    have hfc := fl32 hc
    rw [bm_bt _ hb, Bool.and_eq_true]
    refine ⟨decide_eq_true hb20, ?_⟩
    have e1 : bt (rch L (fl b)) (fl c) = true := rch_cld hn hfb (fl b) (fl c) hfb (by omega) (rch_self hfb) (ed_fl hc hb20 h2)
    exact rch_trans hn hfb hfc (by omega) e1 h1.2
  · rw [bm_bt _ (by omega), Bool.and_eq_true]
    exact ⟨decide_eq_true ha, rch_self hfa⟩
/-! the class's way: by middles -/
def wS (R : Nat → Int32) (m a : Nat) : Int32 := if bt (R a) m = true then R a ||| R m else R a
def wA (R0 : Nat → Int32) : Nat → Nat → Int32
  | 0 => R0
  | m + 1 => wS (wA R0 m) m
theorem wS_iff {R : Nat → Int32} {m a b : Nat} : bt (wS R m a) b = true ↔ bt (R a) b = true ∨ (bt (R a) m = true ∧ bt (R m) b = true) := by
  unfold wS
  split
  · rename_i h
    rw [b_or, Bool.or_eq_true]
    exact ⟨fun q => q.elim Or.inl (fun q => Or.inr ⟨h, q⟩), fun q => q.elim Or.inl (fun q => Or.inr q.2)⟩
  · rename_i h
    exact ⟨Or.inl, fun q => q.elim id (fun q => absurd q.1 h)⟩
theorem wA_mono {R0 : Nat → Int32} {a b : Nat} : ∀ m, bt (R0 a) b = true → bt (wA R0 m a) b = true
  | 0, h => h
  | m + 1, h => wS_iff.mpr (Or.inl (wA_mono m h))
theorem wA_tr {R0 : Nat → Int32} : ∀ m a c b, c < m → bt (wA R0 m a) c = true → bt (wA R0 m c) b = true → bt (wA R0 m a) b = true
  | 0, a, c, b, hc, _, _ => by omega
  | m + 1, a, c, b, hc, h1, h2 => by
    have ih := wA_tr (R0 := R0) m
    have h1 := wS_iff.mp h1
    have h2 := wS_iff.mp h2
    refine wS_iff.mpr ?_
    by_cases e : c = m
    · subst e
      have a1 : bt (wA R0 c a) c = true := h1.elim id (fun q => q.1)
      have a2 : bt (wA R0 c c) b = true := h2.elim id (fun q => q.2)
      exact Or.inr ⟨a1, a2⟩
    · have hcm : c < m := by omega
      rcases h1 with p | p
      · rcases h2 with q | q
        · exact Or.inl (ih a c b hcm p q)
        · exact Or.inr ⟨ih a c m hcm p q.1, q.2⟩
      · rcases h2 with q | q
        · exact Or.inr ⟨p.1, ih m c b hcm p.2 q⟩
        · exact Or.inr ⟨p.1, q.2⟩
def R0 (L : List Int32) (a : Nat) : Int32 := bi a ||| eg L a
theorem wA_snd {L : List Int32} (hn : nice L) : ∀ m a b, m ≤ 20 → a < 20 → b < 32 → bt (wA (R0 L) m a) b = true → bt (rch L a) b = true
  | 0, a, b, _, ha, hb, h => by
    rw [show wA (R0 L) 0 a = bi a ||| eg L a from rfl, b_or, Bool.or_eq_true, b_bi (by omega) hb] at h
    rcases h with q | q
    · rw [of_decide_eq_true q]; exact rch_self ha
    · exact rch_cld hn ha a b ha hb (rch_self ha) q
  | m + 1, a, b, hm, ha, hb, h => by
    rcases wS_iff.mp h with q | q
    · exact wA_snd hn m a b (by omega) ha hb q
    · exact rch_trans hn ha (show m < 20 by omega) hb (wA_snd hn m a m (by omega) ha (by omega) q.1) (wA_snd hn m m b (by omega) (by omega) hb q.2)
theorem wA_rch {L : List Int32} (hn : nice L) {a : Nat} (ha : a < 20) : wA (R0 L) 20 a = rch L a := by
  have r0 : ∀ c b, c < 20 → b < 32 → (b = c ∨ ed L c b) → bt (R0 L c) b = true := fun c b hc hb h => by
    unfold R0
    rw [b_or, Bool.or_eq_true, b_bi (by omega) hb]
    exact h.elim (fun e => Or.inl (decide_eq_true e)) (fun e => Or.inr e)
  refine b_ext (fun b hb => b_eq ⟨wA_snd hn 20 a b (Nat.le_refl _) ha hb, fun h => ?_⟩)
  refine rch_least ha (X := wA (R0 L) 20 a) (fun c b hc hb h1 h2 => ?_) (wA_mono 20 (r0 a a ha (by omega) (Or.inl rfl))) b hb h
  exact wA_tr 20 a c b hc h1 (wA_mono 20 (r0 c b hc hb (Or.inr h2)))
/-! the reference's way: by edges, again and again -/
theorem pc_two {x : Int32} (h : pc x = 2) : ∃ a b, a < 32 ∧ b < 32 ∧ a ≠ b ∧ x ≠ 0 ∧ x &&& (x - 1) ≠ 0 ∧ lw x = a ∧ lw (x &&& (x - 1)) = b ∧ ∀ i, i < 32 → (bt x i = true ↔ i = a ∨ i = b) := by
  have hz : ¬ x = 0 := fun e => by rw [pc_zero.mpr e] at h; cases h
  obtain ⟨j, hj, hb, hm, ho⟩ := and_pred hz
  have hp := pc_pred hz
  have h1 : pc (x &&& (x - 1)) = 1 := by omega
  obtain ⟨y1, y2⟩ := pc_one h1
  obtain ⟨l1, l2, _⟩ := lw_ok y1
  obtain ⟨b, eb⟩ : ∃ b, b = lw (x &&& (x - 1)) := ⟨_, rfl⟩
  rw [← eb] at y2 l1 l2
  have hbj : b ≠ j := fun e => by rw [ho b l1, e] at l2; simp at l2
  refine ⟨j, b, hj, l1, fun e => hbj e.symm, hz, y1, lw_eq hj hb hm, eb.symm, fun i hi => ?_⟩
  have oi := ho i hi
  rw [y2, b_bi l1 hi] at oi
  by_cases e : i = j
  · subst e; rw [hb]; simp
  · rw [show decide (i ≠ j) = true from decide_eq_true e, Bool.true_and] at oi
    rw [← oi, decide_eq_true_eq]
    exact ⟨Or.inr, fun q => q.elim (fun q => absurd q e) id⟩
def lS (R : Nat → Int32) (f t a : Nat) : Int32 := if bt (R a) f = true then R a ||| R t else R a
theorem lS_iff {R : Nat → Int32} {f t a b : Nat} : bt (lS R f t a) b = true ↔ bt (R a) b = true ∨ (bt (R a) f = true ∧ bt (R t) b = true) := by
  unfold lS
  split
  · rename_i h
    rw [b_or, Bool.or_eq_true]
    exact ⟨fun q => q.elim Or.inl (fun q => Or.inr ⟨h, q⟩), fun q => q.elim Or.inl (fun q => Or.inr q.2)⟩
  · rename_i h
    exact ⟨Or.inl, fun q => q.elim id (fun q => absurd q.1 h)⟩
def l2 (x : Int32) (R : Nat → Int32) : Nat → Int32 := if pc x = 2 then lS (lS R (fl (lw x)) (lw (x &&& (x - 1)))) (fl (lw (x &&& (x - 1)))) (lw x) else R
def lP (L : List Int32) (R : Nat → Int32) : Nat → Nat → Int32
  | 0 => R
  | i + 1 => l2 (L.getD i 0) (lP L R i)
def lR (L : List Int32) : Nat → Nat → Int32
  | 0 => bi
  | r + 1 => lP L (lR L r) L.length
theorem l2_mono {x : Int32} {R : Nat → Int32} {a b : Nat} (h : bt (R a) b = true) : bt (l2 x R a) b = true := by
  unfold l2
  split
  · exact lS_iff.mpr (Or.inl (lS_iff.mpr (Or.inl h)))
  · exact h
theorem lP_mono {L : List Int32} {R : Nat → Int32} {a b : Nat} (h : bt (R a) b = true) : ∀ i, bt (lP L R i a) b = true
  | 0 => h
  | i + 1 => l2_mono (lP_mono h i)
theorem lP_mono2 {L : List Int32} {R : Nat → Int32} {a b i : Nat} (h : bt (lP L R i a) b = true) : ∀ n, bt (lP L R (i + n) a) b = true
  | 0 => h
  | n + 1 => l2_mono (x := L.getD (i + n) 0) (lP_mono2 h n)
def snd_ (L : List Int32) (R : Nat → Int32) : Prop := ∀ a b, a < 20 → b < 32 → bt (R a) b = true → bt (rch L a) b = true
theorem lS_snd {L : List Int32} (hn : nice L) {R : Nat → Int32} (h : snd_ L R) {f t : Nat} (hf : f < 20) (ht : t < 20) (he : ed L f t) : snd_ L (lS R f t) := by
  intro a b ha hb hq
  rcases lS_iff.mp hq with q | q
  · exact h a b ha hb q
  · exact rch_trans hn ha ht hb (rch_cld hn ha f t hf (by omega) (h a f ha (by omega) q.1) he) (h t b ht hb q.2)
theorem lP_snd {L : List Int32} (hn : nice L) {R : Nat → Int32} (h : snd_ L R) : ∀ i, i ≤ L.length → snd_ L (lP L R i)
  | 0, _ => h
  | i + 1, hi => by
    have ih := lP_snd hn h i (by omega)
    show snd_ L (l2 (L.getD i 0) (lP L R i))
    unfold l2
    split
    · rename_i hp
      obtain ⟨a, b, ha, hb, hab, _, _, e1, e2, hh⟩ := pc_two hp
      rw [e1, e2]
      have ba := (hh a ha).mpr (Or.inl rfl)
      have bb := (hh b hb).mpr (Or.inr rfl)
      have a20 := nice20 hn i a ha ba
      have b20 := nice20 hn i b hb bb
      have fa := fl32 a20
      have fb := fl32 b20
      exact lS_snd hn (lS_snd hn ih fa b20 ((ed_iff fa hb).mpr ⟨i, by omega, hp, by rw [fl_fl]; exact ba, bb, by rw [fl_fl]; exact fun e => hab e.symm⟩)) fb a20 ((ed_iff fb ha).mpr ⟨i, by omega, hp, by rw [fl_fl]; exact bb, ba, by rw [fl_fl]; exact hab⟩)
    · exact ih
theorem lP_step {L : List Int32} {R : Nat → Int32} (hr : ∀ a, a < 20 → bt (R a) a = true) (hn : nice L) {a c b : Nat} (hc : c < 20) (hb : b < 32) (h1 : bt (R a) c = true) (h2 : ed L c b) : bt (lP L R L.length a) b = true := by
  obtain ⟨i, hi, hp, h3, h4, h5⟩ := (ed_iff hc hb).mp h2
  have hfc := fl32 hc
  have b20 := nice20 hn i b hb h4
  have key : bt (lP L R (i + 1) a) b = true := by
    show bt (l2 (L.getD i 0) (lP L R i) a) b = true
    obtain ⟨x, y, hx, hy, hxy, _, _, e1, e2, hh⟩ := pc_two hp
    unfold l2
    rw [if_pos hp, e1, e2]
    have k1 : bt (lP L R i a) c = true := lP_mono h1 i
    have k2 : bt (lP L R i b) b = true := lP_mono (hr b b20) i
    rcases (hh (fl c) (by omega)).mp h3 with q | q
    · rcases (hh b hb).mp h4 with q2 | q2
      · exact absurd (q2.trans q.symm) h5
      · refine lS_iff.mpr (Or.inl (lS_iff.mpr (Or.inr ⟨?_, ?_⟩)))
        · rw [← q, fl_fl]; exact k1
        · rw [← q2]; exact k2
    · rcases (hh b hb).mp h4 with q2 | q2
      · refine lS_iff.mpr (Or.inr ⟨?_, ?_⟩)
        · rw [← q, fl_fl]; exact lS_iff.mpr (Or.inl k1)
        · rw [← q2]; exact lS_iff.mpr (Or.inl k2)
      · exact absurd (q2.trans q.symm) h5
  have := lP_mono2 key (L.length - (i + 1))
  rwa [show i + 1 + (L.length - (i + 1)) = L.length by omega] at this
theorem lR_all {L : List Int32} (hn : nice L) : ∀ r, snd_ L (lR L r) ∧ (∀ a, a < 20 → bt (lR L r a) a = true) ∧ ∀ a b, a < 20 → b < 32 → bt (rN L r (bi a)) b = true → bt (lR L r a) b = true
  | 0 => by
    refine ⟨fun a b ha hb h => ?_, fun a ha => ?_, fun a b _ _ h => h⟩
    · have h : bt (bi a) b = true := h
      rw [b_bi (by omega) hb] at h
      rw [of_decide_eq_true h]; exact rch_self ha
    · show bt (bi a) a = true
      rw [b_bi (by omega) (by omega)]; simp
  | r + 1 => by
    obtain ⟨h1, h2, h3⟩ := lR_all hn r
    refine ⟨lP_snd hn h1 _ (Nat.le_refl _), fun a ha => lP_mono (h2 a ha) _, fun a b ha hb h => ?_⟩
    rw [rN_s] at h
    rcases nx_iff.mp h with q | ⟨c, c1, c2, c3⟩
    · exact lP_mono (h3 a b ha hb q) _
    · exact lP_step h2 hn c1 hb (h3 a c ha (by omega) c2) c3
theorem lR_rch {L : List Int32} (hn : nice L) {a : Nat} (ha : a < 20) : lR L 20 a = rch L a := by
  obtain ⟨h1, _, h3⟩ := lR_all hn 20
  exact b_ext (fun b hb => b_eq ⟨h1 a b ha hb, h3 a b ha hb⟩)
/-! names -/
def nm (R : Nat → Int32) (l : Nat) : Nat := (fdF (fun o => bt (R l) o && bt (R o) l) l 0).getD l
def nmL (L : List Int32) (l : Nat) : Nat := nm (rch L) l
theorem nm_cong {R R' : Nat → Int32} {l : Nat} (h : ∀ a, a ≤ l → R a = R' a) : nm R l = nm R' l := by
  unfold nm
  rw [fdF_cong (q := fun o => bt (R' l) o && bt (R' o) l) (fun t _ ht => by show (bt (R l) t && bt (R t) l) = _; rw [h l (Nat.le_refl _), h t (by omega)])]
def eqv (L : List Int32) (a b : Nat) : Prop := bt (rch L a) b = true ∧ bt (rch L b) a = true
theorem eqv.tr {L : List Int32} (hn : nice L) {a b c : Nat} (ha : a < 20) (hb : b < 20) (hc : c < 20) (h1 : eqv L a b) (h2 : eqv L b c) : eqv L a c := ⟨rch_trans hn ha hb (by omega) h1.1 h2.1, rch_trans hn hc hb (by omega) h2.2 h1.2⟩
theorem nm_ok {L : List Int32} {l : Nat} (hl : l < 20) : nmL L l ≤ l ∧ eqv L l (nmL L l) ∧ ∀ o, o < nmL L l → ¬ eqv L l o := by
  unfold nmL nm
  cases e : fdF (fun o => bt (rch L l) o && bt (rch L o) l) l 0 with
  | none =>
    refine ⟨Nat.le_refl _, ⟨rch_self hl, rch_self hl⟩, fun o ho hq => ?_⟩
    have ho : o < l := ho
    have := fdF_none e o (Nat.zero_le _) (by omega)
    have this : (bt (rch L l) o && bt (rch L o) l) = false := this
    rw [hq.1, hq.2] at this; cases this
  | some o =>
    obtain ⟨_, h2, h3, h4⟩ := fdF_some e
    have h3 : (bt (rch L l) o && bt (rch L o) l) = true := h3
    rw [Bool.and_eq_true] at h3
    refine ⟨by show o ≤ l; omega, h3, fun t ht hq => ?_⟩
    have := h4 t (Nat.zero_le _) ht
    have this : (bt (rch L l) t && bt (rch L t) l) = false := this
    rw [hq.1, hq.2] at this; cases this
theorem nm_eqv {L : List Int32} (hn : nice L) {a b : Nat} (ha : a < 20) (hb : b < 20) : nmL L a = nmL L b ↔ eqv L a b := by
  obtain ⟨a1, a2, a3⟩ := nm_ok (L := L) ha
  obtain ⟨b1, b2, b3⟩ := nm_ok (L := L) hb
  constructor
  · intro e
    rw [← e] at b2
    exact a2.tr hn ha (by omega) hb ⟨b2.2, b2.1⟩
  · intro h
    have h' : eqv L b a := ⟨h.2, h.1⟩
    rcases Nat.lt_trichotomy (nmL L a) (nmL L b) with q | q | q
    · exact absurd (h'.tr hn hb ha (by omega) a2) (b3 _ q)
    · exact q
    · exact absurd (h.tr hn ha hb (by omega) b2) (a3 _ q)
