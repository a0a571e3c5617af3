/-! generate -/
def gnB (o : ob) (x y z : Int32) : Option (Nat × Nat × Nat) := if x < 0 then none else match rg 1 32 y with
  | none => none
  | some c => (rg 1 (sV o.1) z).map (fun w => (x.toNatClampNeg, c, w))
def A_generate (o : ob) (x y z : Int32) : res := match gnB o x y z with
  | none => (1, 0, o)
  | some (n, c, w) => if opn o.1 = true ∧ (sO o.1).length + c ≤ 32 then (0, nI ((sO o.1).length + c), (gnA (sV o.1) w c o.1 n, o.2.1, sav o.2.2 o.1)) else (2, 0, o)
section GE2
variable {g : mj_S} {M : mj_M} {k : Nat} {o : ob}
theorem gen_1 {x y z : Int32} (h : gnB o x y z = none) : A_generate o x y z = (1, 0, o) := by unfold A_generate; rw [h]
theorem gen_2 {x y z : Int32} {n c w : Nat} (h : gnB o x y z = some (n, c, w)) (h2 : ¬ (opn o.1 = true ∧ (sO o.1).length + c ≤ 32)) : A_generate o x y z = (2, 0, o) := by unfold A_generate; rw [h]; exact if_neg h2
theorem gen_0 {x y z : Int32} {n c w : Nat} (h : gnB o x y z = some (n, c, w)) (h2 : opn o.1 = true ∧ (sO o.1).length + c ≤ 32) : A_generate o x y z = (0, nI ((sO o.1).length + c), (gnA (sV o.1) w c o.1 n, o.2.1, sav o.2.2 o.1)) := by unfold A_generate; rw [h]; exact if_pos h2
theorem gnB_1 {x y z : Int32} (h : x < 0) : gnB o x y z = none := if_pos h
theorem gnB_2 {x y z : Int32} (h : ¬ x < 0) (h2 : rg 1 32 y = none) : gnB o x y z = none := by unfold gnB; rw [if_neg h]; simp only [h2]
theorem gnB_3 {x y z : Int32} {c : Nat} (h : ¬ x < 0) (h2 : rg 1 32 y = some c) (h3 : rg 1 (sV o.1) z = none) : gnB o x y z = none := by unfold gnB; rw [if_neg h]; simp only [h2, h3]; rfl
theorem gnB_0 {n c w : Nat} {y z : Int32} (hn : n < 2 ^ 31) (h2 : rg 1 32 y = some c) (h3 : rg 1 (sV o.1) z = some w) : gnB o (nI n) y z = some (n, c, w) := by unfold gnB; rw [if_neg (nI_pos hn)]; simp only [h2, h3, nI_clamp hn]; rfl
theorem A_generate_ok (h : OI o) (x y z : Int32) : OI (A_generate o x y z).2.2 := by
  have hV := h.1.V10
  have hV1 := h.1.V1
  by_cases hx : x < 0
  · rw [gen_1 (gnB_1 hx)]; exact h
  obtain ⟨n, hn, rfl⟩ := nI_of hx
  rcases rg_cs (a := 1) (b := 32) (by decide) (by decide) y with ⟨e, _⟩ | ⟨c, c1, c2, rfl, e⟩
  · rw [gen_1 (gnB_2 hx e)]; exact h
  rcases rg_cs (a := 1) (b := sV o.1) (by omega) hV1 z with ⟨e2, _⟩ | ⟨w, w1, w2, rfl, e2⟩
  · rw [gen_1 (gnB_3 hx e e2)]; exact h
  by_cases h2 : opn o.1 = true ∧ (sO o.1).length + c ≤ 32
  · rw [gen_0 (gnB_0 hn e e2) h2]
    exact h.sv (gn_inv c o.1 n h.1 (opn_iff.mp h2.1).2.2 h2.2 w2 hn).1
  · rw [gen_2 (gnB_0 hn e e2) h2]; exact h
/-- the working cells are not looked at -/
theorem CR.wk {M' : mj_M} (h : CR M k o) (e1 : ∀ a, a < k + 84 → M'.1 a = M.1 a) (e2 : M'.2.2 = M.2.2) : CR M' k o := by
  obtain ⟨h1, ⟨t, h2⟩, h3, h4⟩ := h
  exact ⟨h1.c (fun a _ a2 => e1 a (by omega)), ⟨t, h2.c (fun a _ a2 => e1 a (by omega))⟩, h3.c (by rw [e1 k (by omega)]) (by rw [e2]) (fun a _ a2 => e1 a (by omega)), h4.c (e1 _ (by omega)) (e1 _ (by omega))⟩
theorem wL_g {M : mj_M} {lo hi k j : Nat} {v : Int64} (h1 : lo ≤ k) (h2 : k < hi) : gf_ lo hi M (mj_wL M k j v) := fun a ha => ⟨rfl, mj_up2_k _ _ (by omega), rfl⟩
theorem c_generate (h0 : is9s g k) (h : CR M k o) (hI : Inv o.1) (x y z : Int32) : kX9_generate k x y z g M (cq (A_generate o x y z) k M) (cx (A_generate o x y z) k M mj_IA mj_IS) := by
  have hV := hI.V10
  have hV1 := hI.V1
  have h2 : is2 g (k + 87) := h0.1.2.2.2.2.2.2.1.2
  refine eX9_generate h0.1 ?_
  rw [h.1.1, show (1 : Int32) = nI 1 from rfl]
  refine ⟨fun hx => cx_1 h (gen_1 (gnB_1 hx)), fun hx => ?_⟩
  obtain ⟨n, hn, rfl⟩ := nI_of hx
  rcases rg_cs (a := 1) (b := 32) (by decide) (by decide) y with ⟨e, hy⟩ | ⟨c, c1, c2, rfl, e⟩
  · exact ⟨fun _ => cx_1 h (gen_1 (gnB_2 hx e)), fun h1 => ⟨fun _ => cx_1 h (gen_1 (gnB_2 hx e)), fun h2 => absurd ⟨nle_lt.mp h1, nle_lt.mp h2⟩ hy⟩⟩
  refine ⟨fun hc => absurd hc (nI_nlt c1 (by omega)), fun _ => ⟨fun hc => absurd hc (nI_nlt (a := 32) c2 (by decide)), fun _ => ?_⟩⟩
  rcases rg_cs (a := 1) (b := sV o.1) (by omega) hV1 z with ⟨e2, hz⟩ | ⟨w, w1, w2, rfl, e2⟩
  · exact ⟨fun _ => cx_1 h (gen_1 (gnB_3 hx e e2)), fun h1 => ⟨fun h2 => absurd ⟨nle_lt.mp h1, h2⟩ hz, fun _ => cx_1 h (gen_1 (gnB_3 hx e e2))⟩⟩
  have eB := gnB_0 (o := o) hn e e2
  refine ⟨fun hc => absurd hc (nI_nlt w1 (by omega)), fun _ => ⟨fun _ => ⟨_, _, c_reqRoom h0 h (n := c) (by omega), fun X M' hq => ?_, fun M1 hq => ?_⟩, fun hc => absurd (nI_le w2 (by omega)) hc⟩⟩
  · obtain ⟨rfl, rfl, hn⟩ := hq; exact cx_2 h (gen_2 eB hn)
  obtain ⟨rfl, ho, hl⟩ := hq
  refine ⟨_, c_saveState h0 h, fun M2 hq => ?_⟩
  obtain ⟨q1, q2⟩ := hq
  rw [q1.1.1]
  refine ⟨fun M' => M' = mj_wI (mj_wL M2 (k + 87) 0 (lN n)) (k + 87) 1 (nI (sV o.1)), eX2_begin h2 (by rw [nI_l hn]), fun M3 hq => ?_⟩
  have c3 : CR M3 k (o.1, o.2.1, sav o.2.2 o.1) := q1.wk (fun a ha => by rw [hq]; show (mj_wI _ _ _ _).1 a = _; exact mj_up2_k _ _ (by omega)) (by rw [hq]; rfl)
  have g3 : gf_ k (k + 98) M1 M3 := by
    rw [hq]
    exact ((q2.wd (by omega) (by omega)).tr (wL_g (by omega) (by omega))).tr (fr_.wI (lo := k) (hi := k + 98) (by omega) (by omega)).g
  have key : ∀ m i s1 x M4, i + m = c → Inv s1 → (∀ v, v < sV s1 → sS s1 v = 0) → sV s1 = sV o.1 → (sO s1).length + m ≤ 32 → (sO s1).length = (sO o.1).length + i → x < 2 ^ 31 → CR M4 k (s1, o.2.1, sav o.2.2 o.1) → M4.1 (k + 87) 1 = nI (sV o.1) → M4.2.1 (k + 87) 0 = lN x → gf_ k (k + 98) M1 M4 → gnA (sV o.1) w m s1 x = gnA (sV o.1) w c o.1 n → LX9_generate_68 k (nI c) (nI w) (nI i) g M4 (cq (A_generate o (nI n) (nI c) (nI w)) k M1) (cx (A_generate o (nI n) (nI c) (nI w)) k M1 mj_IA mj_IS) := by
    intro m
    induction m with
    | zero =>
      intro i s1 x M4 hi hI1 ha eV hO eO hx h4 e1 e2 hg eg
      refine bX9_generate_68 h0.1 ⟨fun _ => ⟨_, c_size (S9 h0).2.2.1.2 h4.1.2.2.2.2.1, fun v5 M5 hq5 => ?_⟩, fun hc => absurd (nI_le (by omega) (by omega)) hc⟩
      obtain ⟨rfl, rfl⟩ := hq5
      rw [gen_0 eB ⟨ho, hl⟩, ← eg]
      exact ⟨rfl, by show nI (sO s1).length = nI ((sO o.1).length + c); rw [eO, show i = c by omega], h4, hg⟩
    | succ m ih =>
      intro i s1 x M4 hi hI1 ha eV hO eO hx h4 e1 e2 hg eg
      refine bX9_generate_68 h0.1 ⟨fun hc => absurd hc (nI_ge (by omega) (by omega)), fun _ => ⟨_, c_nextClause h2 e1 hV e2 hx w2, fun v5 M5 hq5 => ?_⟩⟩
      obtain ⟨rfl, e5⟩ := hq5
      have st := gn_step hI1 ha (by omega) (w := w) (x := x) (by rw [eV]; exact w2) hx
      rw [eV] at st
      obtain ⟨a1, a2, a3, a4, a5, a6⟩ := st
      have c5 : CR M5 k (s1, o.2.1, sav o.2.2 o.1) := h4.wk (fun a ha => by rw [e5]; rfl) (by rw [e5]; rfl)
      refine ⟨_, c_addOriginal (S9 h0) c5.1 _ (show (sO s1).length < 32 by omega) (fun _ hb => a2 hb), fun M6 hq6 => ?_⟩
      rw [nI_1]
      refine ih (i + 1) (addO s1 (gcA (sV o.1) w 0 x 0 0).1) (gcA (sV o.1) w 0 x 0 0).2 M6 (by omega) a1 (by rw [a3, a4, ← eV]; exact ha) (a3) (by omega) (by omega) a6 (c5.st hq6.2 hq6.1) ?_ ?_ ?_ eg
      · rw [hq6.2.1 (k + 87) (by omega), e5]; exact e1
      · rw [hq6.2.2, e5]; exact wL_s
      · exact (hg.tr (by rw [e5]; exact wL_g (by omega) (by omega))).tr (hq6.2.wd (by omega) (by omega)).g
  exact key c 0 o.1 n M3 (by omega) hI (opn_iff.mp ho).2.2 rfl hl rfl hn c3 (by rw [hq]; exact wI_s) (by rw [hq]; exact wL_s) g3 rfl
theorem r_generate (h0 : is10 g k) (h : RR M k o) (hI : Inv o.1) (x y z : Int32) : kX10_generate k x y z g M (rq (A_generate o x y z) k M) := by
  have hV := hI.V10
  have hV1 := hI.V1
  have h32 := h.1.o32
  refine eX10_generate h0 ⟨fun hx => r_fail (r := A_generate o x y z) h0 h gf_.rf 1 (gen_1 (gnB_1 hx)) (fun _ _ h => h), fun hx => ⟨_, r_in, fun v1 M1 hq => ?_⟩⟩
  obtain ⟨rfl, rfl⟩ := hq
  obtain ⟨n, hn, rfl⟩ := nI_of hx
  rcases rg_cs (a := 1) (b := 32) (by decide) (by decide) y with ⟨e, hy⟩ | ⟨c, c1, c2, rfl, e⟩
  · rw [if_neg (show ¬ ((1 : Int32) ≤ y ∧ y ≤ 32) from hy)]
    exact ⟨fun _ => r_fail (r := A_generate o (nI n) y z) h0 h gf_.rf 1 (gen_1 (gnB_2 hx e)) (fun _ _ h => h), fun hc => absurd rfl hc⟩
  rw [if_pos (show (1 : Int32) ≤ nI c ∧ nI c ≤ 32 from ⟨nI_le (a := 1) c1 (by omega), nI_le c2 (by decide)⟩), h.1.V]
  refine ⟨fun hc => absurd hc (by decide), fun _ => ⟨_, r_in, fun v2 M2 hq => ?_⟩⟩
  obtain ⟨rfl, rfl⟩ := hq
  rcases rg_cs (a := 1) (b := sV o.1) (by omega) hV1 z with ⟨e2, hz⟩ | ⟨w, w1, w2, rfl, e2⟩
  · rw [if_neg (show ¬ ((1 : Int32) ≤ z ∧ z ≤ nI (sV o.1)) from hz)]
    exact ⟨fun hc => absurd rfl hc, fun _ => r_fail (r := A_generate o (nI n) (nI c) z) h0 h gf_.rf 1 (gen_1 (gnB_3 hx e e2)) (fun _ _ h => h)⟩
  rw [if_pos (show (1 : Int32) ≤ nI w ∧ nI w ≤ nI (sV o.1) from ⟨nI_le (a := 1) w1 (by omega), nI_le w2 (by omega)⟩)]
  have eB := gnB_0 (o := o) hn e e2
  refine ⟨fun _ => ⟨_, r_isOpen h0 h.1, fun v3 M3 hq => ?_⟩, fun hc => absurd hc (by decide)⟩
  obtain ⟨rfl, rfl⟩ := hq
  rw [h.1.o, nI_add, show (32 : Int32) = nI 32 from rfl, nI_leI (by omega) (by decide)]
  refine ⟨fun h4 => r_fail (r := A_generate o (nI n) (nI c) (nI w)) h0 h gf_.rf 2 (gen_2 eB (fun q => by rw [q.1] at h4; exact absurd h4 (by decide))) (fun _ _ h => h), fun h4 => ⟨fun h5 => ⟨_, r_save h0 h, fun M7 hq => ?_⟩, fun h5 => r_fail (r := A_generate o (nI n) (nI c) (nI w)) h0 h gf_.rf 2 (gen_2 eB (fun q => h5 q.2)) (fun _ _ h => h)⟩⟩
  have ho := (if01 _).2.mp h4
  obtain ⟨q1, q2, q3⟩ := hq
  rw [nI_l hn]
  have key : ∀ m i s1 x M4, i + m = c → Inv s1 → (∀ v, v < sV s1 → sS s1 v = 0) → sV s1 = sV o.1 → (sO s1).length + m ≤ 32 → (sO s1).length = (sO o.1).length + i → x < 2 ^ 31 → RR M4 k (s1, o.2.1, sav o.2.2 o.1) → M4.2.1 k 7 = lN x → M4.1 k 6 = 0 → gf_ k (k + 12) M3 M4 → gnA (sV o.1) w m s1 x = gnA (sV o.1) w c o.1 n → LX10_generate_74 k (nI c) (nI w) (nI i) g M4 (rq (A_generate o (nI n) (nI c) (nI w)) k M3) := by
    intro m
    induction m with
    | zero =>
      intro i s1 x M4 hi hI1 ha eV hO eO hx h4 e2 e6 hg eg
      refine bX10_generate_74 h0 ⟨fun _ => ?_, fun hc => absurd (nI_le (by omega) (by omega)) hc⟩
      rw [h4.1.o, gen_0 eB ⟨ho, h5⟩, ← eg]
      exact ⟨e6, fun _ => by show nI (sO s1).length = nI ((sO o.1).length + c); rw [eO, show i = c by omega], h4, hg⟩
    | succ m ih =>
      intro i s1 x M4 hi hI1 ha eV hO eO hx h4 e2 e6 hg eg
      refine bX10_generate_74 h0 ⟨fun hc => absurd hc (nI_ge (by omega) (by omega)), fun _ => ⟨_, r_drawnClause h0 h4.1 e2 hx (w := w) (by show w ≤ sV s1; rw [eV]; exact w2), fun v5 M5 hq5 => ?_⟩⟩
      have st := gn_step hI1 ha (by omega) (w := w) (x := x) (by rw [eV]; exact w2) hx
      have hq5 : v5 = (gcA (sV s1) w 0 x 0 0).1 ∧ M5 = mj_wL M4 k 7 (lN (gcA (sV s1) w 0 x 0 0).2) := hq5
      rw [eV] at st hq5
      obtain ⟨rfl, e5⟩ := hq5
      obtain ⟨a1, a2, a3, a4, a5, a6⟩ := st
      have c5 : RR M5 k (s1, o.2.1, sav o.2.2 o.1) := by rw [e5]; exact h4
      refine ⟨_, r_adds h0 c5.1 _ (show (sO s1).length < 32 by omega) (fun _ hb => a2 hb), fun M6 hq6 => ?_⟩
      rw [nI_1]
      refine ih (i + 1) (addO s1 (gcA (sV o.1) w 0 x 0 0).1) (gcA (sV o.1) w 0 x 0 0).2 M6 (by omega) a1 (by rw [a3, a4, ← eV]; exact ha) a3 (by omega) (by omega) a6 (c5.rf (hq6.2.r (by omega)) hq6.1) ?_ ?_ ?_ eg
      · rw [hq6.2.2, e5]; exact wL_s
      · rw [hq6.2.1 k (by omega), e5]; exact e6
      · exact (hg.tr (by rw [e5]; exact wL_g (by omega) (by omega))).tr (hq6.2.wd (by omega) (by omega)).g
  exact key c 0 o.1 n _ (by omega) hI (opn_iff.mp ho).2.2 rfl h5 rfl hn q1 wL_s q2 (q3.g.tr (wL_g (by omega) (by omega))) rfl
end GE2
