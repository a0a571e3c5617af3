/-! objects are made -/
def xs (k : Nat) (g : mj_S) (M : mj_M) (g' : mj_S) (M' : mj_M) : Prop := g.1 ≤ g'.1 ∧ ∀ a, a < g.1 → g'.2.1 a = g.2.1 a ∧ (a ≠ k → g'.2.2 a = g.2.2 a ∧ M'.1 a = M.1 a)
def np (g : mj_S) (M : mj_M) (sz : Nat) (P : Nat → mj_S → mj_M → Prop) (g2 : mj_S) (M2 : mj_M) : Prop := g2.1 = g.1 + sz ∧ P g.1 g2 M2 ∧ ∀ a, a < g.1 → g2.2.1 a = g.2.1 a ∧ g2.2.2 a = g.2.2 a ∧ M2.1 a = M.1 a ∧ M2.2.2 a = M.2.2 a
def bd (k : Nat) (kd : Nat × Nat × Nat) (g : mj_S) (M : mj_M) (l : List (Nat × Nat)) (n : Nat) (C : mj_S → mj_M → Prop) (gi : mj_S) (Mi : mj_M) : Prop := gi.1 = n ∧ k < n ∧ gi.2.1 k = kd ∧ (∀ p, p ∈ l → gi.2.2 k p.1 = some p.2) ∧ (∀ a, a < k → gi.2.1 a = g.2.1 a ∧ gi.2.2 a = g.2.2 a ∧ Mi.1 a = M.1 a ∧ Mi.2.2 a = M.2.2 a) ∧ (∀ b, Mi.1 k b = 0) ∧ ∀ g' M', xs k gi Mi g' M' → C g' M'
section XS
variable {k : Nat} {g g' g2 : mj_S} {M M' M2 : mj_M} {kd : Nat × Nat × Nat} {l : List (Nat × Nat)} {n : Nat} {C : mj_S → mj_M → Prop} {gi : mj_S} {Mi : mj_M}
theorem xs.rf : xs k g M g M := ⟨Nat.le_refl _, fun _ _ => ⟨rfl, fun _ => ⟨rfl, rfl⟩⟩⟩
theorem xs.tr (h1 : xs k g M g' M') (h2 : xs k g' M' g2 M2) : xs k g M g2 M2 := ⟨Nat.le_trans h1.1 h2.1, fun a ha => ⟨(h2.2 a (Nat.lt_of_lt_of_le ha h1.1)).1.trans (h1.2 a ha).1, fun hk => ⟨((h2.2 a (Nat.lt_of_lt_of_le ha h1.1)).2 hk).1.trans ((h1.2 a ha).2 hk).1, ((h2.2 a (Nat.lt_of_lt_of_le ha h1.1)).2 hk).2.trans ((h1.2 a ha).2 hk).2⟩⟩⟩
theorem gA_o {a : Nat} (h : a < g.1) : (mj_gA g kd).2.1 a = g.2.1 a ∧ (mj_gA g kd).2.2 a = g.2.2 a := by
  have hk : ¬ a = g.1 := by omega
  exact ⟨if_neg hk, by funext b; exact if_neg hk⟩
theorem mZ_o {a c : Nat} (h : ¬ a = c) : (mj_mZ M c).1 a = M.1 a ∧ (mj_mZ M c).2.2 a = M.2.2 a := ⟨by funext b; exact if_neg h, by funext b; exact if_neg h⟩
theorem xs.A (k : Nat) : xs k g M (mj_gA g kd) (mj_mZ M g.1) := ⟨Nat.le_succ _, fun a ha => ⟨(gA_o ha).1, fun _ => ⟨(gA_o ha).2, (mZ_o (by omega)).1⟩⟩⟩
theorem xs.R (j : Nat) (v : Option Nat) : xs k g M (mj_gR g k j v) M := ⟨Nat.le_refl _, fun a _ => ⟨rfl, fun hk => ⟨mj_up2_k _ _ hk, rfl⟩⟩⟩
theorem xs.ofn {sz : Nat} {P : Nat → mj_S → mj_M → Prop} (h : np g M sz P g2 M2) (k : Nat) : xs k g M g2 M2 := ⟨by have := h.1; omega, fun a ha => ⟨(h.2.2 a ha).1, fun _ => ⟨(h.2.2 a ha).2.1, (h.2.2 a ha).2.2.1⟩⟩⟩
theorem xs.at {a : Nat} {kd : Nat × Nat × Nat} (x : xs k g M g' M') (h : a < g.1 ∧ g.2.1 a = kd) : a < g'.1 ∧ g'.2.1 a = kd := ⟨Nat.lt_of_lt_of_le h.1 x.1, ((x.2 a h.1).1).trans h.2⟩
theorem xs.r {a j b : Nat} (x : xs k g M g' M') (hk : k < a ∨ g.1 ≤ k) (ha : a < g.1) (h : g.2.2 a j = some b) : g'.2.2 a j = some b := by rw [((x.2 a ha).2 (by omega)).1]; exact h
theorem bd0 (hk : k = g.1) : bd k kd g M [] (k + 1) (fun _ _ => True) (mj_gA g kd) (mj_mZ M g.1) := by
  subst hk
  exact ⟨rfl, Nat.lt_succ_self _, if_pos rfl, fun p hp => absurd hp List.not_mem_nil, fun a ha => ⟨(gA_o ha).1, (gA_o ha).2, (mZ_o (by omega)).1, (mZ_o (by omega)).2⟩, fun b => if_pos rfl, fun _ _ _ => trivial⟩
theorem bd.kk (h : bd k kd g M l n C gi Mi) : k < gi.1 ∧ gi.2.1 k = kd := ⟨by rw [h.1]; exact h.2.1, h.2.2.1⟩
theorem bd.arr (h : bd k kd g M l n C gi Mi) (t N : Nat) : bd k kd g M l (n + 1) (fun g' M' => C g' M' ∧ (n < g'.1 ∧ g'.2.1 n = (1, t, N)) ∧ ∀ b, M'.1 n b = 0) (mj_gA gi (1, t, N)) (mj_mZ Mi gi.1) := by
  obtain ⟨h1, h2, h3, h4, h5, h6, h7⟩ := h
  subst h1
  refine ⟨rfl, by omega, (gA_o h2).1.trans h3, fun p hp => by rw [(gA_o h2).2]; exact h4 p hp, fun a ha => ?_, fun b => by rw [(mZ_o (by omega)).1]; exact h6 b, fun g' M' x => ⟨h7 g' M' ((xs.A k).tr x), x.at ⟨Nat.lt_succ_self _, if_pos rfl⟩, fun b => ?_⟩⟩
  · rw [(gA_o (show a < gi.1 by omega)).1, (gA_o (show a < gi.1 by omega)).2, (mZ_o (show ¬ a = gi.1 by omega)).1, (mZ_o (show ¬ a = gi.1 by omega)).2]
    exact h5 a ha
  · rw [((x.2 gi.1 (Nat.lt_succ_self _)).2 (by omega)).2]; exact if_pos rfl
theorem bd.sub {sz : Nat} {P : Nat → mj_S → mj_M → Prop} (h : bd k kd g M l n C gi Mi) (hn : np gi Mi sz P g2 M2) (hP : ∀ {k a g M g' M'}, P a g M → xs k g M g' M' → k < a ∨ g.1 ≤ k → P a g' M') : bd k kd g M l (n + sz) (fun g' M' => C g' M' ∧ P n g' M') g2 M2 := by
  obtain ⟨h1, h2, h3, h4, h5, h6, h7⟩ := h
  subst h1
  refine ⟨hn.1, by omega, (hn.2.2 k h2).1.trans h3, fun p hp => by rw [(hn.2.2 k h2).2.1]; exact h4 p hp, fun a ha => ?_, fun b => by rw [(hn.2.2 k h2).2.2.1]; exact h6 b, fun g' M' x => ⟨h7 g' M' ((xs.ofn hn k).tr x), hP hn.2.1 x (Or.inl h2)⟩⟩
  obtain ⟨e1, e2, e3, e4⟩ := hn.2.2 a (by omega)
  rw [e1, e2, e3, e4]
  exact h5 a ha
theorem bd.R {a b : Nat} (h : bd k kd g M l n C gi Mi) (j : Nat) (e : a = b) (hl : ∀ p, p ∈ l → p.1 ≠ j) : bd k kd g M ((j, b) :: l) n C (mj_gR gi k j (some a)) Mi := by
  obtain ⟨h1, h2, h3, h4, h5, h6, h7⟩ := h
  subst e
  refine ⟨h1, h2, h3, fun p hp => ?_, fun c hc => ⟨(h5 c hc).1, (mj_up2_k _ _ (by omega)).trans (h5 c hc).2.1, (h5 c hc).2.2.1, (h5 c hc).2.2.2⟩, h6, fun g' M' x => h7 g' M' ((xs.R j _).tr x)⟩
  rcases List.mem_cons.mp hp with e | hp
  · subst e; exact mj_up2_s _ _ _ _
  · show mj_up2 gi.2.2 k j (some a) k p.1 = some p.2
    unfold mj_up2
    rw [if_neg (fun q => hl p hp q.2)]
    exact h4 p hp
theorem bd.w (h : bd k kd g M l n C gi Mi) (j : Nat) : bd k kd g M l n C gi (mj_wI Mi k j 0) := by
  obtain ⟨h1, h2, h3, h4, h5, h6, h7⟩ := h
  refine ⟨h1, h2, h3, h4, fun c hc => ⟨(h5 c hc).1, (h5 c hc).2.1, (mj_up2_k _ _ (by omega)).trans (h5 c hc).2.2.1, (h5 c hc).2.2.2⟩, fun b => ?_, fun g' M' x => h7 g' M' (xs.tr (⟨Nat.le_refl _, fun a _ => ⟨rfl, fun hk => ⟨rfl, mj_up2_k _ _ hk⟩⟩⟩) x)⟩
  show mj_up2 Mi.1 k j 0 k b = 0
  unfold mj_up2
  split
  · rfl
  · exact h6 b
theorem bd.fin {P : Nat → mj_S → mj_M → Prop} {sz : Nat} (h : bd k kd g M l n C gi Mi) (hk : k = g.1) (hn : n = k + sz) (hP : P k gi Mi) : np g M sz P gi Mi := by
  subst hk
  exact ⟨h.1.trans hn, hP, h.2.2.2.2.1⟩
theorem bd.ll (h : bd k kd g M l n C gi Mi) {j b : Nat} (hp : (j, b) ∈ l) : gi.2.2 k j = some b := h.2.2.2.1 _ hp
theorem bd.cc (h : bd k kd g M l n C gi Mi) : C gi Mi := h.2.2.2.2.2.2 _ _ xs.rf
end XS
def P0 (n : Nat) (a : Nat) (g : mj_S) (M : mj_M) : Prop := is0 g a n ∧ cl_ M a n []
def P2 (a : Nat) (g : mj_S) (_ : mj_M) : Prop := is2 g a
def P4 (a : Nat) (g : mj_S) (_ : mj_M) : Prop := is4 g a
def P5 (a : Nat) (g : mj_S) (_ : mj_M) : Prop := is5 g a
def P1 (a : Nat) (g : mj_S) (_ : mj_M) : Prop := is1 g a
def P3 (a : Nat) (g : mj_S) (_ : mj_M) : Prop := is3 g a
def P7 (a : Nat) (g : mj_S) (_ : mj_M) : Prop := is7 g a
def P6 (a : Nat) (g : mj_S) (M : mj_M) : Prop := is6 g a ∧ rc_ M a (s0 8)
def P8 (a : Nat) (g : mj_S) (M : mj_M) : Prop := is8 g a ∧ tx_ M a []
section XP
variable {k a n : Nat} {g g' : mj_S} {M M' : mj_M}
theorem is0.st (h : is0 g a n) (x : xs k g M g' M') (hk : k < a ∨ g.1 ≤ k) : is0 g' a n := ⟨x.at h.1, x.r hk h.1.1 h.2.1, x.at h.2.2⟩
theorem is4.st (h : is4 g a) (x : xs k g M g' M') (hk : k < a ∨ g.1 ≤ k) : is4 g' a := ⟨x.at h.1, x.r hk h.1.1 h.2.1, x.at h.2.2⟩
theorem is8.st (h : is8 g a) (x : xs k g M g' M') (hk : k < a ∨ g.1 ≤ k) : is8 g' a := ⟨x.at h.1, x.r hk h.1.1 h.2.1, x.at h.2.2⟩
theorem is5.st (h : is5 g a) (x : xs k g M g' M') (hk : k < a ∨ g.1 ≤ k) : is5 g' a := ⟨x.at h.1, x.r hk h.1.1 h.2.1, h.2.2.st x (by omega)⟩
theorem is1.st (h : is1 g a) (x : xs k g M g' M') (hk : k < a ∨ g.1 ≤ k) : is1 g' a := ⟨x.at h.1, x.r hk h.1.1 h.2.1, h.2.2.st x (by omega)⟩
theorem is3.st (h : is3 g a) (x : xs k g M g' M') (hk : k < a ∨ g.1 ≤ k) : is3 g' a := ⟨x.at h.1, ⟨x.r hk h.1.1 h.2.1.1, h.2.1.2.st x (by omega)⟩, ⟨x.r hk h.1.1 h.2.2.1, x.at h.2.2.2⟩⟩
theorem is7.st (h : is7 g a) (x : xs k g M g' M') (hk : k < a ∨ g.1 ≤ k) : is7 g' a := ⟨x.at h.1, ⟨x.r hk h.1.1 h.2.1.1, h.2.1.2.st x (by omega)⟩, ⟨x.r hk h.1.1 h.2.2.1.1, h.2.2.1.2.st x (by omega)⟩, ⟨x.r hk h.1.1 h.2.2.2.1, h.2.2.2.2.st x (by omega)⟩⟩
theorem is6.st (h : is6 g a) (x : xs k g M g' M') (hk : k < a ∨ g.1 ≤ k) : is6 g' a := by
  obtain ⟨h1, h2, h3, h4, h5, h6, h7, h8⟩ := h
  exact ⟨x.at h1, ⟨x.r hk h1.1 h2.1, h2.2.st x (by omega)⟩, ⟨x.r hk h1.1 h3.1, h3.2.st x (by omega)⟩, ⟨x.r hk h1.1 h4.1, x.at h4.2⟩, ⟨x.r hk h1.1 h5.1, x.at h5.2⟩, ⟨x.r hk h1.1 h6.1, x.at h6.2⟩, ⟨x.r hk h1.1 h7.1, x.at h7.2⟩, ⟨x.r hk h1.1 h8.1, x.at h8.2⟩⟩
theorem P0.s (h : P0 n a g M) (x : xs k g M g' M') (hk : k < a ∨ g.1 ≤ k) : P0 n a g' M' := by
  have hl := h.1.1.1
  refine ⟨h.1.st x hk, ?_, h.2.2.1, h.2.2.2.1, fun i hi => absurd hi (Nat.not_lt_zero i)⟩
  rw [((x.2 a h.1.1.1).2 (by omega)).2]; exact h.2.1
theorem P8.s (h : P8 a g M) (x : xs k g M g' M') (hk : k < a ∨ g.1 ≤ k) : P8 a g' M' := by
  have hl := h.1.1.1
  refine ⟨h.1.st x hk, ?_, h.2.2.1, fun i hi => absurd hi (Nat.not_lt_zero i)⟩
  rw [((x.2 a h.1.1.1).2 (by omega)).2]; exact h.2.1
theorem P6.s (h : P6 a g M) (x : xs k g M g' M') (hk : k < a ∨ g.1 ≤ k) : P6 a g' M' := by
  have h9 := h.1.2.2.2.2.2.2.2.2.1
  exact ⟨h.1.st x hk, h.2.c (fun b b1 b2 => ((x.2 b (by omega)).2 (by omega)).2)⟩
end XP
section MK
variable {g : mj_S} {M : mj_M}
theorem nw0 {x : Int32} {n : Nat} (hx : ¬ x < 0) (hn : x.toNatClampNeg = n) (h1 : n ≤ 1000) (h9 : g.1 + 2 ≤ 900000) : kX0_init g.1 x (mj_gA g (0, 0, 0)) (mj_mZ M g.1) (np g M 2 (P0 n)) := by
  have b := bd0 (kd := (0, 0, 0)) (g := g) (M := M) rfl
  refine eX0_init ?_
  rw [if_neg hx, hn]
  refine ⟨⟨hx, rfl, by omega, Nat.le_refl _, Nat.le_refl _, h9⟩, ?_⟩
  rintro _ rfl _ rfl _ rfl
  have c := b.arr 0 n
  refine ⟨c.kk, ?_⟩
  rintro _ rfl
  have b := c.R (b := g.1 + 1) 0 b.1 (fun p hp => absurd hp List.not_mem_nil)
  refine ⟨b.kk, rfl, ?_⟩
  have b := b.w 1
  exact b.fin rfl rfl ⟨⟨b.kk, b.ll (List.mem_singleton.mpr rfl), b.cc.2.1⟩, b.2.2.2.2.2.1 1, Nat.zero_le _, h1, fun i hi => absurd hi (Nat.not_lt_zero i)⟩
theorem nw2 : kX2_init g.1 (mj_gA g (0, 2, 0)) (mj_mZ M g.1) (np g M 1 P2) := by
  have b := bd0 (kd := (0, 2, 0)) (g := g) (M := M) rfl
  exact eX2_init ⟨rfl, b.fin rfl rfl b.kk⟩
theorem nw4 (h9 : g.1 + 2 ≤ 900000) : kX4_init g.1 (mj_gA g (0, 4, 0)) (mj_mZ M g.1) (np g M 2 P4) := by
  have b := bd0 (kd := (0, 4, 0)) (g := g) (M := M) rfl
  refine eX4_init ⟨⟨by decide, by decide, by decide, by decide, by decide, h9⟩, ?_⟩
  rintro _ rfl _ rfl _ rfl
  have c := b.arr 0 20
  refine ⟨c.kk, ?_⟩
  rintro _ rfl
  have b := c.R (b := g.1 + 1) 0 b.1 (fun p hp => absurd hp List.not_mem_nil)
  exact ⟨rfl, b.fin rfl rfl ⟨b.kk, b.ll (List.mem_singleton.mpr rfl), b.cc.2.1⟩⟩
theorem nw8 (h9 : g.1 + 2 ≤ 900000) : kX8_init g.1 (mj_gA g (0, 8, 0)) (mj_mZ M g.1) (np g M 2 P8) := by
  have b := bd0 (kd := (0, 8, 0)) (g := g) (M := M) rfl
  refine eX8_init ⟨⟨by decide, by decide, by decide, by decide, by decide, h9⟩, ?_⟩
  rintro _ rfl _ rfl _ rfl
  have c := b.arr 0 160
  refine ⟨c.kk, ?_⟩
  rintro _ rfl
  have b := c.R (b := g.1 + 1) 0 b.1 (fun p hp => absurd hp List.not_mem_nil)
  exact ⟨rfl, b.fin rfl rfl ⟨⟨b.kk, b.ll (List.mem_singleton.mpr rfl), b.cc.2.1⟩, b.2.2.2.2.2.1 1, Nat.zero_le _, fun i hi => absurd hi (Nat.not_lt_zero i)⟩⟩
theorem nw5 (h9 : g.1 + 3 ≤ 900000) : kX5_init g.1 (mj_gA g (0, 5, 0)) (mj_mZ M g.1) (np g M 3 P5) := by
  have e0 : (mj_gA g (0, 5, 0)).1 = g.1 + 1 := rfl
  have b := bd0 (kd := (0, 5, 0)) (g := g) (M := M) rfl
  refine eX5_init ⟨⟨by decide, by decide, by omega⟩, ?_⟩
  rintro _ rfl _ rfl _ rfl
  refine ⟨_, ⟨by decide, by decide⟩, nw0 (n := 576) (by decide) (by decide) (by decide) (by omega), ?_⟩
  intro g2 M2 hq
  have b2 := b.sub hq P0.s
  refine ⟨b2.kk, ?_⟩
  rintro _ rfl
  have b3 := b2.R (b := g.1 + 1) 0 b.1 (fun p hp => absurd hp List.not_mem_nil)
  have e3 := b3.1
  exact ⟨by omega, b3.fin rfl rfl ⟨b3.kk, b3.ll (List.mem_singleton.mpr rfl), b3.cc.2.1⟩⟩
theorem nw1 (h9 : g.1 + 3 ≤ 900000) : kX1_init g.1 (mj_gA g (0, 1, 0)) (mj_mZ M g.1) (np g M 3 P1) := by
  have e0 : (mj_gA g (0, 1, 0)).1 = g.1 + 1 := rfl
  have b := bd0 (kd := (0, 1, 0)) (g := g) (M := M) rfl
  refine eX1_init ⟨⟨by decide, by decide, by omega⟩, ?_⟩
  rintro _ rfl _ rfl _ rfl
  refine ⟨_, ⟨by decide, by decide⟩, nw0 (n := 81) (by decide) (by decide) (by decide) (by omega), ?_⟩
  intro g2 M2 hq
  have b2 := b.sub hq P0.s
  refine ⟨b2.kk, ?_⟩
  rintro _ rfl
  have b3 := b2.R (b := g.1 + 1) 0 b.1 (fun p hp => absurd hp List.not_mem_nil)
  have e3 := b3.1
  exact ⟨by omega, b3.fin rfl rfl ⟨b3.kk, b3.ll (List.mem_singleton.mpr rfl), b3.cc.2.1⟩⟩
theorem nw3 (h9 : g.1 + 4 ≤ 900000) : kX3_init g.1 (mj_gA g (0, 3, 0)) (mj_mZ M g.1) (np g M 4 P3) := by
  have e0 : (mj_gA g (0, 3, 0)).1 = g.1 + 1 := rfl
  have b := bd0 (kd := (0, 3, 0)) (g := g) (M := M) rfl
  refine eX3_init ⟨⟨by decide, by decide, by omega⟩, ?_⟩
  rintro _ rfl _ rfl _ rfl
  refine ⟨_, ⟨by decide, by decide⟩, nw0 (n := 11) (by decide) (by decide) (by decide) (by omega), ?_⟩
  intro g2 M2 hq
  have b2 := b.sub hq P0.s
  refine ⟨b2.kk, ?_⟩
  rintro _ rfl
  have b3 := b2.R (b := g.1 + 1) 0 b.1 (fun p hp => absurd hp List.not_mem_nil)
  have e3 := b3.1
  refine ⟨⟨by decide, by decide, by decide, by decide, by decide, by omega⟩, ?_⟩
  rintro _ rfl _ rfl _ rfl
  have b4 := b3.arr 0 11
  refine ⟨b4.kk, ?_⟩
  rintro _ rfl
  have b5 := b4.R (b := g.1 + 3) 1 b3.1 (by simp)
  have e5 := b5.1
  exact ⟨by omega, b5.fin rfl rfl ⟨b5.kk, ⟨b5.ll (by simp), b5.cc.1.2.1⟩, ⟨b5.ll (by simp), b5.cc.2.1⟩⟩⟩
theorem nw6 (h9 : g.1 + 10 ≤ 900000) : kX6_init g.1 (mj_gA g (0, 6, 0)) (mj_mZ M g.1) (np g M 10 P6) := by
  have e0 : (mj_gA g (0, 6, 0)).1 = g.1 + 1 := rfl
  have b0 := bd0 (kd := (0, 6, 0)) (g := g) (M := M) rfl
  refine eX6_init ⟨⟨by decide, by decide, by omega⟩, ?_⟩
  rintro _ rfl _ rfl _ rfl
  refine ⟨_, ⟨by decide, by decide⟩, nw0 (n := 48) (by decide) (by decide) (by decide) (by omega), ?_⟩
  intro g1 M1 hq
  have c1 := b0.sub hq P0.s
  refine ⟨c1.kk, ?_⟩
  rintro _ rfl
  have b1 := c1.R (b := g.1 + 1) 3 b0.1 (fun p hp => absurd hp List.not_mem_nil)
  have e1 := b1.1
  refine ⟨⟨by decide, by decide, by omega⟩, ?_⟩
  rintro _ rfl _ rfl _ rfl
  refine ⟨_, ⟨by decide, by decide⟩, nw0 (n := 32) (by decide) (by decide) (by decide) (by omega), ?_⟩
  intro g2 M2 hq
  have c2 := b1.sub hq P0.s
  refine ⟨c2.kk, ?_⟩
  rintro _ rfl
  have b2 := c2.R (b := g.1 + 3) 4 b1.1 (by simp)
  have e2 := b2.1
  refine ⟨⟨by decide, by decide, by decide, by decide, by decide, by omega⟩, ?_⟩
  rintro _ rfl _ rfl _ rfl
  have c3 := b2.arr 0 10
  refine ⟨c3.kk, ?_⟩
  rintro _ rfl
  have b3 := c3.R (b := g.1 + 5) 5 b2.1 (by simp)
  have e3 := b3.1
  refine ⟨⟨by decide, by decide, by decide, by decide, by decide, by omega⟩, ?_⟩
  rintro _ rfl _ rfl _ rfl
  have c4 := b3.arr 0 10
  refine ⟨c4.kk, ?_⟩
  rintro _ rfl
  have b4 := c4.R (b := g.1 + 6) 6 b3.1 (by simp)
  have e4 := b4.1
  refine ⟨⟨by decide, by decide, by decide, by decide, by decide, by omega⟩, ?_⟩
  rintro _ rfl _ rfl _ rfl
  have c5 := b4.arr 0 10
  refine ⟨c5.kk, ?_⟩
  rintro _ rfl
  have b5 := c5.R (b := g.1 + 7) 7 b4.1 (by simp)
  have e5 := b5.1
  refine ⟨⟨by decide, by decide, by decide, by decide, by decide, by omega⟩, ?_⟩
  rintro _ rfl _ rfl _ rfl
  have c6 := b5.arr 0 140
  refine ⟨c6.kk, ?_⟩
  rintro _ rfl
  have b6 := c6.R (b := g.1 + 8) 8 b5.1 (by simp)
  have e6 := b6.1
  refine ⟨⟨by decide, by decide, by decide, by decide, by decide, by omega⟩, ?_⟩
  rintro _ rfl _ rfl _ rfl
  have c7 := b6.arr 0 140
  refine ⟨c7.kk, ?_⟩
  rintro _ rfl
  have b7 := c7.R (b := g.1 + 9) 9 b6.1 (by simp)
  have e7 := b7.1
  obtain ⟨⟨⟨⟨⟨⟨⟨_, p1⟩, p3⟩, a5, _⟩, a6, _⟩, a7, _⟩, a8, _⟩, a9, _⟩ := b7.cc
  have hs : is6 _ g.1 := ⟨b7.kk, ⟨b7.ll (by simp), p1.1⟩, ⟨b7.ll (by simp), p3.1⟩, ⟨b7.ll (by simp), a5⟩, ⟨b7.ll (by simp), a6⟩, ⟨b7.ll (by simp), a7⟩, ⟨b7.ll (by simp), a8⟩, ⟨b7.ll (by simp), a9⟩⟩
  refine ⟨_, b7.kk, c_beginAnew (V := 8) (L := []) (O := []) hs (by decide) p1.2 p3.2, ?_⟩
  intro M17 hq
  refine ⟨by omega, b7.1, ⟨hs, hq.1⟩, fun a ha => ?_⟩
  obtain ⟨o1, o2, o3, o4⟩ := b7.2.2.2.2.1 a ha
  exact ⟨o1, o2, (hq.2.1 a (Or.inl ha)).trans o3, by rw [hq.2.2]; exact o4⟩
theorem nw7 (h9 : g.1 + 10 ≤ 900000) : kX7_init g.1 (mj_gA g (0, 7, 0)) (mj_mZ M g.1) (np g M 10 P7) := by
  have e0 : (mj_gA g (0, 7, 0)).1 = g.1 + 1 := rfl
  have b0 := bd0 (kd := (0, 7, 0)) (g := g) (M := M) rfl
  refine eX7_init ⟨⟨by decide, by decide, by omega⟩, ?_⟩
  rintro _ rfl _ rfl _ rfl
  refine ⟨_, ⟨by decide, by decide⟩, nw5 (by omega), ?_⟩
  intro g1 M1 hq
  have c1 := b0.sub hq (fun h x hk => is5.st h x hk)
  refine ⟨c1.kk, ?_⟩
  rintro _ rfl
  have b1 := c1.R (b := g.1 + 1) 0 b0.1 (fun p hp => absurd hp List.not_mem_nil)
  have e1 := b1.1
  refine ⟨⟨by decide, by decide, by omega⟩, ?_⟩
  rintro _ rfl _ rfl _ rfl
  refine ⟨_, ⟨by decide, by decide⟩, nw3 (by omega), ?_⟩
  intro g2 M2 hq
  have c2 := b1.sub hq (fun h x hk => is3.st h x hk)
  refine ⟨c2.kk, ?_⟩
  rintro _ rfl
  have b2 := c2.R (b := g.1 + 4) 1 b1.1 (by simp)
  have e2 := b2.1
  refine ⟨⟨by decide, by decide, by omega⟩, ?_⟩
  rintro _ rfl _ rfl _ rfl
  refine ⟨_, ⟨by decide, by decide⟩, nw4 (by omega), ?_⟩
  intro g3 M3 hq
  have c3 := b2.sub hq (fun h x hk => is4.st h x hk)
  refine ⟨c3.kk, ?_⟩
  rintro _ rfl
  have b3 := c3.R (b := g.1 + 8) 2 b2.1 (by simp)
  have e3 := b3.1
  obtain ⟨⟨⟨_, p1⟩, p2⟩, p3⟩ := b3.cc
  exact ⟨by omega, b3.fin rfl rfl ⟨b3.kk, ⟨b3.ll (by simp), p1⟩, ⟨b3.ll (by simp), p2⟩, ⟨b3.ll (by simp), p3⟩⟩⟩
def o0 : ob := (s0 8, [], [])
def P10 (a : Nat) (g : mj_S) (M : mj_M) : Prop := is10 g a ∧ RR M a o0
def P9 (a : Nat) (g : mj_S) (M : mj_M) : Prop := is9s g a ∧ CR M a o0
theorem nw10 (h9 : g.1 + 12 ≤ 900000) : kX10_init g.1 (mj_gA g (0, 10, 0)) (mj_mZ M g.1) (np g M 12 P10) := by
  have e0 : (mj_gA g (0, 10, 0)).1 = g.1 + 1 := rfl
  have b0 := bd0 (kd := (0, 10, 0)) (g := g) (M := M) rfl
  refine eX10_init ⟨⟨by decide, by decide, by decide, by decide, by decide, by omega⟩, ?_⟩
  rintro _ rfl _ rfl _ rfl
  have c1 := b0.arr 0 395
  refine ⟨c1.kk, ?_⟩
  rintro _ rfl
  have b1 := c1.R (b := g.1 + 1) 0 b0.1 (fun p hp => absurd hp List.not_mem_nil)
  have e1 := b1.1
  refine ⟨⟨by decide, by decide, by decide, by decide, by decide, by omega⟩, ?_⟩
  rintro _ rfl _ rfl _ rfl
  have c2 := b1.arr 0 2370
  refine ⟨c2.kk, ?_⟩
  rintro _ rfl
  have b2 := c2.R (b := g.1 + 2) 1 b1.1 (by simp)
  have e2 := b2.1
  refine ⟨⟨by decide, by decide, by decide, by decide, by decide, by omega⟩, ?_⟩
  rintro _ rfl _ rfl _ rfl
  have c3 := b2.arr 0 395
  refine ⟨c3.kk, ?_⟩
  rintro _ rfl
  have b3 := c3.R (b := g.1 + 3) 2 b2.1 (by simp)
  have e3 := b3.1
  refine ⟨⟨by decide, by decide, by decide, by decide, by decide, by omega⟩, ?_⟩
  rintro _ rfl _ rfl _ rfl
  have c4 := b3.arr 0 160
  refine ⟨c4.kk, ?_⟩
  rintro _ rfl
  have b4 := c4.R (b := g.1 + 4) 4 b3.1 (by simp)
  have e4 := b4.1
  refine ⟨⟨by decide, by decide, by decide, by decide, by decide, by omega⟩, ?_⟩
  rintro _ rfl _ rfl _ rfl
  have c5 := b4.arr 0 160
  refine ⟨c5.kk, ?_⟩
  rintro _ rfl
  have b5 := c5.R (b := g.1 + 5) 11 b4.1 (by simp)
  have e5 := b5.1
  refine ⟨⟨by decide, by decide, by decide, by decide, by decide, by omega⟩, ?_⟩
  rintro _ rfl _ rfl _ rfl
  have c6 := b5.arr 1 48
  refine ⟨c6.kk, ?_⟩
  rintro _ rfl
  have b6 := c6.R (b := g.1 + 6) 16 b5.1 (by simp)
  have e6 := b6.1
  refine ⟨⟨by decide, by decide, by decide, by decide, by decide, by omega⟩, ?_⟩
  rintro _ rfl _ rfl _ rfl
  have c7 := b6.arr 0 600
  refine ⟨c7.kk, ?_⟩
  rintro _ rfl
  have b7 := c7.R (b := g.1 + 7) 17 b6.1 (by simp)
  have e7 := b7.1
  refine ⟨⟨by decide, by decide, by decide, by decide, by decide, by omega⟩, ?_⟩
  rintro _ rfl _ rfl _ rfl
  have c8 := b7.arr 0 40
  refine ⟨c8.kk, ?_⟩
  rintro _ rfl
  have b8 := c8.R (b := g.1 + 8) 19 b7.1 (by simp)
  have e8 := b8.1
  refine ⟨⟨by decide, by decide, by decide, by decide, by decide, by omega⟩, ?_⟩
  rintro _ rfl _ rfl _ rfl
  have c9 := b8.arr 0 40
  refine ⟨c9.kk, ?_⟩
  rintro _ rfl
  have b9 := c9.R (b := g.1 + 9) 20 b8.1 (by simp)
  have e9 := b9.1
  refine ⟨⟨by decide, by decide, by decide, by decide, by decide, by omega⟩, ?_⟩
  rintro _ rfl _ rfl _ rfl
  have c10 := b9.arr 0 20
  refine ⟨c10.kk, ?_⟩
  rintro _ rfl
  have b10 := c10.R (b := g.1 + 10) 23 b9.1 (by simp)
  have e10 := b10.1
  refine ⟨⟨by decide, by decide, by decide, by decide, by decide, by omega⟩, ?_⟩
  rintro _ rfl _ rfl _ rfl
  have c11 := b10.arr 0 20
  refine ⟨c11.kk, ?_⟩
  rintro _ rfl
  have b11 := c11.R (b := g.1 + 11) 24 b10.1 (by simp)
  have e11 := b11.1
  obtain ⟨⟨⟨⟨⟨⟨⟨⟨⟨⟨⟨_, a1, _⟩, a2, _⟩, a3, _⟩, a4, _⟩, a5, _⟩, a6, _⟩, a7, _⟩, a8, _⟩, a9, _⟩, a10, _⟩, a11, _⟩ := b11.cc
  have hs : is10 _ g.1 := ⟨b11.kk, ⟨b11.ll (by simp), a1⟩, ⟨b11.ll (by simp), a2⟩, ⟨b11.ll (by simp), a3⟩, ⟨b11.ll (by simp), a4⟩, ⟨b11.ll (by simp), a5⟩, ⟨b11.ll (by simp), a6⟩, ⟨b11.ll (by simp), a7⟩, ⟨b11.ll (by simp), a8⟩, ⟨b11.ll (by simp), a9⟩, ⟨b11.ll (by simp), a10⟩, ⟨b11.ll (by simp), a11⟩⟩
  refine ⟨_, b11.kk, r_begins (V := 8) hs (by decide), ?_⟩
  intro M17 hq
  have z : ∀ j, M17.1 g.1 j = 0 := fun j => by rw [hq.2.1 g.1 (by omega)]; exact b11.2.2.2.2.2.1 j
  refine ⟨by omega, b11.1, ⟨hs, hq.1, ⟨z 3, Nat.zero_le _, fun i hi => absurd hi (Nat.not_lt_zero i)⟩, ⟨z 5, Nat.zero_le _, fun i hi => absurd hi (Nat.not_lt_zero i)⟩⟩, fun a ha => ?_⟩
  obtain ⟨o1, o2, o3, o4⟩ := b11.2.2.2.2.1 a ha
  exact ⟨o1, o2, (hq.2.1 a (by omega)).trans o3, by rw [hq.2.2]; exact o4⟩
theorem bd.imp {k n n' : Nat} {kd : Nat × Nat × Nat} {l : List (Nat × Nat)} {C C' : mj_S → mj_M → Prop} {gi : mj_S} {Mi : mj_M} (h : bd k kd g M l n C gi Mi) (e : n = n') (hC : ∀ g' M', C g' M' → C' g' M') : bd k kd g M l n' C' gi Mi := by
  subst e
  exact ⟨h.1, h.2.1, h.2.2.1, h.2.2.2.1, h.2.2.2.2.1, h.2.2.2.2.2.1, fun g' M' x => hC g' M' (h.2.2.2.2.2.2 g' M' x)⟩
theorem bd.wR {k n a j : Nat} {v : Option Nat} {kd : Nat × Nat × Nat} {l : List (Nat × Nat)} {C : mj_S → mj_M → Prop} {gi : mj_S} {Mi : mj_M} (h : bd k kd g M l n C gi Mi) (ha : k < a) : bd k kd g M l n C gi (mj_wR Mi a j v) := ⟨h.1, h.2.1, h.2.2.1, h.2.2.2.1, fun c hc => ⟨(h.2.2.2.2.1 c hc).1, (h.2.2.2.2.1 c hc).2.1, (h.2.2.2.2.1 c hc).2.2.1, (mj_up2_k _ _ (by omega)).trans (h.2.2.2.2.1 c hc).2.2.2⟩, h.2.2.2.2.2.1, h.2.2.2.2.2.2⟩
def Cb (k : Nat) (i : Nat) (g' : mj_S) (M' : mj_M) : Prop := P6 (k + 1) g' M' ∧ P6 (k + 11) g' M' ∧ (k + 21 < g'.1 ∧ g'.2.1 (k + 21) = (1, 3, 6)) ∧ ∀ j, j < i → P6 (k + 22 + 10 * j) g' M'
theorem nw9 (h9 : g.1 + 98 ≤ 900000) : kX9_init g.1 (mj_gA g (0, 9, 0)) (mj_mZ M g.1) (np g M 98 P9) := by
  have e0 : (mj_gA g (0, 9, 0)).1 = g.1 + 1 := rfl
  have b0 := bd0 (kd := (0, 9, 0)) (g := g) (M := M) rfl
  have key : ∀ m i gi Mi, i + m = 6 → bd g.1 (0, 9, 0) g M [(2, g.1 + 21), (1, g.1 + 11), (0, g.1 + 1)] (g.1 + 22 + 10 * i) (Cb g.1 i) gi Mi → (∀ j, j < i → Mi.2.2 (g.1 + 21) j = some (g.1 + 22 + 10 * j)) → LX9_init_37 g.1 (nI i) (mj_gA g (0, 9, 0)) (16 + 10 * m) (885 + 404 * m) gi Mi (np g M 98 P9) := by
    intro m
    induction m with
    | zero =>
      intro i gi Mi hi b hW
      have hi : i = 6 := by omega
      subst hi
      have e := b.1
      have hq0 := b.cc
      refine bX9_init_37 ⟨b.kk, g.1 + 21, b.ll (by simp), 6, hq0.2.2.1, fun _ => ⟨b.kk, ⟨by omega, by omega, by omega⟩, ?_⟩, fun hc => absurd (Int32.le_refl _) hc⟩
      rintro _ rfl _ rfl _ rfl
      have bw := b.w 3
      refine ⟨_, ⟨by omega, by omega⟩, nw8 (M := mj_wI Mi g.1 3 0) (by omega), ?_⟩
      intro g1 M1 hq1
      have c1 := bw.sub hq1 P8.s
      refine ⟨c1.kk, ?_⟩
      rintro _ rfl
      have b1 := c1.R (b := g.1 + 82) 4 (by omega) (by simp)
      have e1 := b1.1
      refine ⟨⟨by omega, by omega, by omega⟩, ?_⟩
      rintro _ rfl _ rfl _ rfl
      refine ⟨_, ⟨by omega, by omega⟩, nw1 (by omega), ?_⟩
      intro g2 M2 hq2
      have c2 := b1.sub hq2 (fun h x hk => is1.st h x hk)
      refine ⟨c2.kk, ?_⟩
      rintro _ rfl
      have b2 := c2.R (b := g.1 + 84) 5 (by omega) (by simp)
      have e2 := b2.1
      refine ⟨⟨by omega, by omega, by omega⟩, ?_⟩
      rintro _ rfl _ rfl _ rfl
      refine ⟨_, ⟨by omega, by omega⟩, nw2, ?_⟩
      intro g3 M3 hq3
      have c3 := b2.sub hq3 (fun h x hk => x.at h)
      refine ⟨c3.kk, ?_⟩
      rintro _ rfl
      have b3 := c3.R (b := g.1 + 87) 6 (by omega) (by simp)
      have e3 := b3.1
      refine ⟨⟨by omega, by omega, by omega⟩, ?_⟩
      rintro _ rfl _ rfl _ rfl
      refine ⟨_, ⟨by omega, by omega⟩, nw7 (by omega), ?_⟩
      intro g4 M4 hq4
      have c4 := b3.sub hq4 (fun h x hk => is7.st h x hk)
      refine ⟨c4.kk, ?_⟩
      rintro _ rfl
      have b4 := c4.R (b := g.1 + 88) 7 (by omega) (by simp)
      have e4 := b4.1
      obtain ⟨⟨⟨⟨⟨p1, p11, p21, ps⟩, p8⟩, pA⟩, pB⟩, pC⟩ := b4.cc
      have f8 : g.1 + 22 + 10 * 6 = g.1 + 82 := by omega
      rw [f8] at p8 pA pB pC
      refine ⟨by omega, b4.fin rfl (by omega) ⟨⟨⟨b4.kk, ⟨b4.ll (by simp), p1.1⟩, ⟨b4.ll (by simp), p11.1⟩, ⟨b4.ll (by simp), p21⟩, ⟨b4.ll (by simp), p8.1⟩, ⟨b4.ll (by simp), pA⟩, ⟨b4.ll (by simp), pB⟩, ⟨b4.ll (by simp), pC⟩⟩, fun i hi => (ps i hi).1⟩, p1.2, ⟨_, p11.2⟩, ⟨b4.2.2.2.2.2.1 3, Nat.zero_le _, id, fun i hi => ⟨hi, ?_⟩, fun i j _ _ h => h, fun i hi => ⟨_, (ps i hi).2, fun h => absurd h (Nat.not_lt_zero i)⟩⟩, p8.2⟩⟩
      rw [(hq4.2.2 (g.1 + 21) (by omega)).2.2.2, (hq3.2.2 (g.1 + 21) (by omega)).2.2.2, (hq2.2.2 (g.1 + 21) (by omega)).2.2.2, (hq1.2.2 (g.1 + 21) (by omega)).2.2.2]
      exact hW i hi
    | succ m ih =>
      intro i gi Mi hi b hW
      have e := b.1
      have hq0 := b.cc
      refine bX9_init_37 ⟨b.kk, g.1 + 21, b.ll (by simp), 6, hq0.2.2.1, fun hc => ?_, fun _ => ⟨b.kk, g.1 + 21, b.ll (by simp), ⟨by omega, by omega, by omega⟩, ?_⟩⟩
      · rw [nI_leI (by decide) (by omega)] at hc; omega
      rintro _ rfl _ rfl _ rfl
      refine ⟨_, ⟨by omega, by omega⟩, nw6 (by omega), ?_⟩
      intro g1 M1 hq1
      have c1 := b.sub hq1 P6.s
      have c2 : bd g.1 (0, 9, 0) g M [(2, g.1 + 21), (1, g.1 + 11), (0, g.1 + 1)] (g.1 + 22 + 10 * (i + 1)) (Cb g.1 (i + 1)) g1 M1 := c1.imp (by omega) (fun g' M' h => ⟨h.1.1, h.1.2.1, h.1.2.2.1, fun j hj => by
        by_cases q : j = i
        · subst q; exact h.2
        · exact h.1.2.2.2 j (by omega)⟩)
      refine ⟨6, ⟨c2.cc.2.2.1.1, c2.cc.2.2.1.2, vp_in_nI (by omega) (by decide), hq1.2.1.1.1.1, hq1.2.1.1.1.2⟩, ?_⟩
      rw [nI_1, nI_clamp (show i < 2 ^ 31 by omega), show 16 + 10 * (m + 1) - 1 - 9 = 16 + 10 * m by omega, show 885 + 404 * (m + 1) - 10 - 394 = 885 + 404 * m by omega]
      refine ih (i + 1) _ _ (by omega) (c2.wR (by omega)) (fun j hj => ?_)
      show mj_up2 M1.2.2 (g.1 + 21) i (some gi.1) (g.1 + 21) j = _
      by_cases q : j = i
      · subst q; rw [mj_up2_s, e]
      · unfold mj_up2
        rw [if_neg (fun h => q h.2), (hq1.2.2 (g.1 + 21) (by omega)).2.2.2]
        exact hW j (by omega)
  refine eX9_init ⟨⟨by decide, by decide, by omega⟩, ?_⟩
  rintro _ rfl _ rfl _ rfl
  refine ⟨_, ⟨by decide, by decide⟩, nw6 (by omega), ?_⟩
  intro g1 M1 hq
  have c1 := b0.sub hq P6.s
  refine ⟨c1.kk, ?_⟩
  rintro _ rfl
  have b1 := c1.R (b := g.1 + 1) 0 b0.1 (fun p hp => absurd hp List.not_mem_nil)
  have e1 := b1.1
  refine ⟨⟨by decide, by decide, by omega⟩, ?_⟩
  rintro _ rfl _ rfl _ rfl
  refine ⟨_, ⟨by decide, by decide⟩, nw6 (by omega), ?_⟩
  intro g2 M2 hq
  have c2 := b1.sub hq P6.s
  refine ⟨c2.kk, ?_⟩
  rintro _ rfl
  have b2 := c2.R (b := g.1 + 11) 1 b1.1 (by simp)
  have e2 := b2.1
  refine ⟨⟨by decide, by decide, by decide, by decide, by decide, by omega⟩, ?_⟩
  rintro _ rfl _ rfl _ rfl
  have c3 := b2.arr 3 6
  refine ⟨c3.kk, ?_⟩
  rintro _ rfl
  have b3 := c3.R (b := g.1 + 21) 2 b2.1 (by simp)
  have e3 := b3.1
  exact key 6 0 _ _ (by omega) (b3.imp (by omega) (fun g' M' h => ⟨h.1.1.2, h.1.2, h.2.1, fun j hj => absurd hj (Nat.not_lt_zero j)⟩)) (fun j hj => absurd hj (Nat.not_lt_zero j))
end MK
