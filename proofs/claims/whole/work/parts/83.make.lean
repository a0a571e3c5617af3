/-! objects are made -/
def xs (k : Nat) (g : mj_S) (M : mj_M) (g' : mj_S) (M' : mj_M) : Prop := g.1 ≤ g'.1 ∧ ∀ a, a < g.1 → g'.2.1 a = g.2.1 a ∧ (a ≠ k → g'.2.2 a = g.2.2 a ∧ M'.1 a = M.1 a)
def np (g : mj_S) (M : mj_M) (sz : Nat) (P : Nat → mj_S → mj_M → Prop) (g2 : mj_S) (M2 : mj_M) : Prop := g2.1 = g.1 + sz ∧ P g.1 g2 M2 ∧ ∀ a, a < g.1 → g2.2.1 a = g.2.1 a ∧ g2.2.2 a = g.2.2 a ∧ M2.1 a = M.1 a ∧ M2.2.2 a = M.2.2 a
def bd (k : Nat) (kd : Nat × Nat × Nat) (g : mj_S) (M : mj_M) (l : List (Nat × Nat)) (n : Nat) (C : mj_S → mj_M → Prop) (gi : mj_S) (Mi : mj_M) : Prop := gi.1 = n ∧ k < n ∧ gi.2.1 k = kd ∧ (∀ p, p ∈ l → gi.2.2 k p.1 = some p.2) ∧ (∀ a, a < k → gi.2.1 a = g.2.1 a ∧ gi.2.2 a = g.2.2 a ∧ Mi.1 a = M.1 a ∧ Mi.2.2 a = M.2.2 a) ∧ (∀ b, Mi.1 k b = 0) ∧ ∀ g' M', xs k gi Mi g' M' → C g' M'
section XS
variable {k : Nat} {g g' g2 : mj_S} {M M' M2 : mj_M} {kd : Nat × Nat × Nat} {l : List (Nat × Nat)} {n : Nat} {C : mj_S → mj_M → Prop} {gi : mj_S} {Mi : mj_M}
theorem xs.rf : xs k g M g M := ⟨Nat.le_refl _, fun _ _ => ⟨rfl, fun _ => ⟨rfl, rfl⟩⟩⟩
theorem xs.tr (h1 : xs k g M g' M') (h2 : xs k g' M' g2 M2) : xs k g M g2 M2 := ⟨Nat.le_trans h1.1 h2.1, fun a ha => ⟨(h2.2 a (Nat.lt_of_lt_of_le ha h1.1)).1.trans (h1.2 a ha).1, fun hk => ⟨((h2.2 a (Nat.lt_of_lt_of_le ha h1.1)).2 hk).1.trans ((h1.2 a ha).2 hk).1, ((h2.2 a (Nat.lt_of_lt_of_le ha h1.1)).2 hk).2.trans ((h1.2 a ha).2 hk).2⟩⟩⟩
theorem gA_o {a : Nat} (h : a < g.1) : (mj_gA g kd).2.1 a = g.2.1 a ∧ (mj_gA g kd).2.2 a = g.2.2 a := by
  have hk : ¬ a = g.1 := by omega
  exact ⟨if_neg hk, by funext b; exact if_neg hk⟩
theorem mZ_o {a c : Nat} (h : ¬ a = c) : (mj_mZ M c).1 a = M.1 a ∧ (mj_mZ M c).2.2 a = M.2.2 a := ⟨by funext b; exact if_neg h, by funext b; exact if_neg h⟩
theorem xs.A (k : Nat) : xs k g M (mj_gA g kd) (mj_mZ M g.1) := ⟨Nat.le_succ _, fun a ha => ⟨(gA_o ha).1, fun _ => ⟨(gA_o ha).2, (mZ_o (by omega)).1⟩⟩⟩
theorem xs.R (j : Nat) (v : Option Nat) : xs k g M (mj_gR g k j v) M := ⟨Nat.le_refl _, fun a _ => ⟨rfl, fun hk => ⟨mj_up2_k _ _ hk, rfl⟩⟩⟩
theorem xs.ofn {sz : Nat} {P : Nat → mj_S → mj_M → Prop} (h : np g M sz P g2 M2) (k : Nat) : xs k g M g2 M2 := ⟨by have := h.1; omega, fun a ha => ⟨(h.2.2 a ha).1, fun _ => ⟨(h.2.2 a ha).2.1, (h.2.2 a ha).2.2.1⟩⟩⟩
theorem xs.at {a : Nat} {kd : Nat × Nat × Nat} (x : xs k g M g' M') (h : a < g.1 ∧ g.2.1 a = kd) : a < g'.1 ∧ g'.2.1 a = kd := ⟨Nat.lt_of_lt_of_le h.1 x.1, ((x.2 a h.1).1).trans h.2⟩
theorem xs.r {a j b : Nat} (x : xs k g M g' M') (hk : k < a) (ha : a < g.1) (h : g.2.2 a j = some b) : g'.2.2 a j = some b := by rw [((x.2 a ha).2 (by omega)).1]; exact h
theorem bd0 (hk : k = g.1) : bd k kd g M [] (k + 1) (fun _ _ => True) (mj_gA g kd) (mj_mZ M g.1) := by
  subst hk
  exact ⟨rfl, Nat.lt_succ_self _, if_pos rfl, fun p hp => absurd hp List.not_mem_nil, fun a ha => ⟨(gA_o ha).1, (gA_o ha).2, (mZ_o (by omega)).1, (mZ_o (by omega)).2⟩, fun b => if_pos rfl, fun _ _ _ => trivial⟩
theorem bd.kk (h : bd k kd g M l n C gi Mi) : k < gi.1 ∧ gi.2.1 k = kd := ⟨by rw [h.1]; exact h.2.1, h.2.2.1⟩
theorem bd.arr (h : bd k kd g M l n C gi Mi) (t N : Nat) : bd k kd g M l (n + 1) (fun g' M' => C g' M' ∧ (n < g'.1 ∧ g'.2.1 n = (1, t, N)) ∧ ∀ b, M'.1 n b = 0) (mj_gA gi (1, t, N)) (mj_mZ Mi gi.1) := by
  obtain ⟨h1, h2, h3, h4, h5, h6, h7⟩ := h
  subst h1
  refine ⟨rfl, by omega, (gA_o h2).1.trans h3, fun p hp => by rw [(gA_o h2).2]; exact h4 p hp, fun a ha => ?_, fun b => by rw [(mZ_o (by omega)).1]; exact h6 b, fun g' M' x => ⟨h7 g' M' ((xs.A k).tr x), x.at ⟨Nat.lt_succ_self _, if_pos rfl⟩, fun b => ?_⟩⟩
  · rw [(gA_o (show a < gi.1 by omega)).1, (gA_o (show a < gi.1 by omega)).2, (mZ_o (show ¬ a = gi.1 by omega)).1, (mZ_o (show ¬ a = gi.1 by omega)).2]
    exact h5 a ha
  · rw [((x.2 gi.1 (Nat.lt_succ_self _)).2 (by omega)).2]; exact if_pos rfl
theorem bd.sub {sz : Nat} {P : Nat → mj_S → mj_M → Prop} (h : bd k kd g M l n C gi Mi) (hn : np gi Mi sz P g2 M2) (hP : ∀ {k a g M g' M'}, P a g M → xs k g M g' M' → k < a → P a g' M') : bd k kd g M l (n + sz) (fun g' M' => C g' M' ∧ P n g' M') g2 M2 := by
  obtain ⟨h1, h2, h3, h4, h5, h6, h7⟩ := h
  subst h1
  refine ⟨hn.1, by omega, (hn.2.2 k h2).1.trans h3, fun p hp => by rw [(hn.2.2 k h2).2.1]; exact h4 p hp, fun a ha => ?_, fun b => by rw [(hn.2.2 k h2).2.2.1]; exact h6 b, fun g' M' x => ⟨h7 g' M' ((xs.ofn hn k).tr x), hP hn.2.1 x h2⟩⟩
  obtain ⟨e1, e2, e3, e4⟩ := hn.2.2 a (by omega)
  rw [e1, e2, e3, e4]
  exact h5 a ha
theorem bd.R {a b : Nat} (h : bd k kd g M l n C gi Mi) (j : Nat) (e : a = b) (hl : ∀ p, p ∈ l → p.1 ≠ j) : bd k kd g M ((j, b) :: l) n C (mj_gR gi k j (some a)) Mi := by
  obtain ⟨h1, h2, h3, h4, h5, h6, h7⟩ := h
  subst e
  refine ⟨h1, h2, h3, fun p hp => ?_, fun c hc => ⟨(h5 c hc).1, (mj_up2_k _ _ (by omega)).trans (h5 c hc).2.1, (h5 c hc).2.2.1, (h5 c hc).2.2.2⟩, h6, fun g' M' x => h7 g' M' ((xs.R j _).tr x)⟩
  rcases List.mem_cons.mp hp with e | hp
  · subst e; exact mj_up2_s _ _ _ _
  · show mj_up2 gi.2.2 k j (some a) k p.1 = some p.2
    unfold mj_up2
    rw [if_neg (fun q => hl p hp q.2)]
    exact h4 p hp
theorem bd.w (h : bd k kd g M l n C gi Mi) (j : Nat) : bd k kd g M l n C gi (mj_wI Mi k j 0) := by
  obtain ⟨h1, h2, h3, h4, h5, h6, h7⟩ := h
  refine ⟨h1, h2, h3, h4, fun c hc => ⟨(h5 c hc).1, (h5 c hc).2.1, (mj_up2_k _ _ (by omega)).trans (h5 c hc).2.2.1, (h5 c hc).2.2.2⟩, fun b => ?_, fun g' M' x => h7 g' M' (xs.tr (⟨Nat.le_refl _, fun a _ => ⟨rfl, fun hk => ⟨rfl, mj_up2_k _ _ hk⟩⟩⟩) x)⟩
  show mj_up2 Mi.1 k j 0 k b = 0
  unfold mj_up2
  split
  · rfl
  · exact h6 b
theorem bd.fin {P : Nat → mj_S → mj_M → Prop} {sz : Nat} (h : bd k kd g M l n C gi Mi) (hk : k = g.1) (hn : n = k + sz) (hP : P k gi Mi) : np g M sz P gi Mi := by
  subst hk
  exact ⟨h.1.trans hn, hP, h.2.2.2.2.1⟩
theorem bd.ll (h : bd k kd g M l n C gi Mi) {j b : Nat} (hp : (j, b) ∈ l) : gi.2.2 k j = some b := h.2.2.2.1 _ hp
theorem bd.cc (h : bd k kd g M l n C gi Mi) : C gi Mi := h.2.2.2.2.2.2 _ _ xs.rf
end XS
def P0 (n : Nat) (a : Nat) (g : mj_S) (M : mj_M) : Prop := is0 g a n ∧ cl_ M a n []
def P2 (a : Nat) (g : mj_S) (_ : mj_M) : Prop := is2 g a
def P4 (a : Nat) (g : mj_S) (_ : mj_M) : Prop := is4 g a
def P5 (a : Nat) (g : mj_S) (_ : mj_M) : Prop := is5 g a
def P1 (a : Nat) (g : mj_S) (_ : mj_M) : Prop := is1 g a
def P3 (a : Nat) (g : mj_S) (_ : mj_M) : Prop := is3 g a
def P7 (a : Nat) (g : mj_S) (_ : mj_M) : Prop := is7 g a
def P6 (a : Nat) (g : mj_S) (M : mj_M) : Prop := is6 g a ∧ rc_ M a (s0 8)
def P8 (a : Nat) (g : mj_S) (M : mj_M) : Prop := is8 g a ∧ tx_ M a []
section XP
variable {k a n : Nat} {g g' : mj_S} {M M' : mj_M}
theorem is0.st (h : is0 g a n) (x : xs k g M g' M') (hk : k < a) : is0 g' a n := ⟨x.at h.1, x.r hk h.1.1 h.2.1, x.at h.2.2⟩
theorem is4.st (h : is4 g a) (x : xs k g M g' M') (hk : k < a) : is4 g' a := ⟨x.at h.1, x.r hk h.1.1 h.2.1, x.at h.2.2⟩
theorem is8.st (h : is8 g a) (x : xs k g M g' M') (hk : k < a) : is8 g' a := ⟨x.at h.1, x.r hk h.1.1 h.2.1, x.at h.2.2⟩
theorem is5.st (h : is5 g a) (x : xs k g M g' M') (hk : k < a) : is5 g' a := ⟨x.at h.1, x.r hk h.1.1 h.2.1, h.2.2.st x (by omega)⟩
theorem is1.st (h : is1 g a) (x : xs k g M g' M') (hk : k < a) : is1 g' a := ⟨x.at h.1, x.r hk h.1.1 h.2.1, h.2.2.st x (by omega)⟩
theorem is3.st (h : is3 g a) (x : xs k g M g' M') (hk : k < a) : is3 g' a := ⟨x.at h.1, ⟨x.r hk h.1.1 h.2.1.1, h.2.1.2.st x (by omega)⟩, ⟨x.r hk h.1.1 h.2.2.1, x.at h.2.2.2⟩⟩
theorem is7.st (h : is7 g a) (x : xs k g M g' M') (hk : k < a) : is7 g' a := ⟨x.at h.1, ⟨x.r hk h.1.1 h.2.1.1, h.2.1.2.st x (by omega)⟩, ⟨x.r hk h.1.1 h.2.2.1.1, h.2.2.1.2.st x (by omega)⟩, ⟨x.r hk h.1.1 h.2.2.2.1, h.2.2.2.2.st x (by omega)⟩⟩
theorem is6.st (h : is6 g a) (x : xs k g M g' M') (hk : k < a) : is6 g' a := by
  obtain ⟨h1, h2, h3, h4, h5, h6, h7, h8⟩ := h
  exact ⟨x.at h1, ⟨x.r hk h1.1 h2.1, h2.2.st x (by omega)⟩, ⟨x.r hk h1.1 h3.1, h3.2.st x (by omega)⟩, ⟨x.r hk h1.1 h4.1, x.at h4.2⟩, ⟨x.r hk h1.1 h5.1, x.at h5.2⟩, ⟨x.r hk h1.1 h6.1, x.at h6.2⟩, ⟨x.r hk h1.1 h7.1, x.at h7.2⟩, ⟨x.r hk h1.1 h8.1, x.at h8.2⟩⟩
theorem P0.s (h : P0 n a g M) (x : xs k g M g' M') (hk : k < a) : P0 n a g' M' := by
  refine ⟨h.1.st x hk, ?_, h.2.2.1, h.2.2.2.1, fun i hi => absurd hi (Nat.not_lt_zero i)⟩
  rw [((x.2 a h.1.1.1).2 (by omega)).2]; exact h.2.1
theorem P8.s (h : P8 a g M) (x : xs k g M g' M') (hk : k < a) : P8 a g' M' := by
  refine ⟨h.1.st x hk, ?_, h.2.2.1, fun i hi => absurd hi (Nat.not_lt_zero i)⟩
  rw [((x.2 a h.1.1.1).2 (by omega)).2]; exact h.2.1
theorem P6.s (h : P6 a g M) (x : xs k g M g' M') (hk : k < a) : P6 a g' M' := by
  have h9 := h.1.2.2.2.2.2.2.2.2.1
  exact ⟨h.1.st x hk, h.2.c (fun b b1 b2 => ((x.2 b (by omega)).2 (by omega)).2)⟩
end XP
section MK
variable {g : mj_S} {M : mj_M}
theorem nw0 {x : Int32} {n : Nat} (hx : ¬ x < 0) (hn : x.toNatClampNeg = n) (h1 : n ≤ 1000) (h9 : g.1 + 2 ≤ 900000) : kX0_init g.1 x (mj_gA g (0, 0, 0)) (mj_mZ M g.1) (np g M 2 (P0 n)) := by
  have b := bd0 (kd := (0, 0, 0)) (g := g) (M := M) rfl
  refine eX0_init ?_
  rw [if_neg hx, hn]
  refine ⟨⟨hx, rfl, by omega, Nat.le_refl _, Nat.le_refl _, h9⟩, ?_⟩
  rintro _ rfl _ rfl _ rfl
  have b := b.arr 0 n
  refine ⟨b.kk, ?_⟩
  rintro _ rfl
  have b := b.R 0 rfl (fun p hp => absurd hp List.not_mem_nil)
  refine ⟨b.kk, rfl, ?_⟩
  have b := b.w 1
  refine b.fin rfl rfl ⟨⟨b.kk, b.ll (List.mem_singleton.mpr rfl), b.cc.2.1⟩, b.2.2.2.2.2.1 1, Nat.zero_le _, h1, fun i hi => absurd hi (Nat.not_lt_zero i)⟩
end MK
