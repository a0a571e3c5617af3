/-! the law's loop -/
theorem lw_len : ∀ L, L < 2049 → L < 4 → ∀ n, n < 8 → nI L - 4 < nI n := by
  intro L _ h4
  exact (by decide +kernel : ∀ L, L < 4 → ∀ n, n < 8 → nI L - 4 < nI n) L h4
theorem nI_m4 {L : Nat} (h : 4 ≤ L) : nI L - 4 = nI (L - 4) := by
  have e : nI L = nI (L - 4) + 4 := by rw [show (4 : Int32) = nI 4 from rfl, nI_add]; congr 1; omega
  rw [e, Int32.add_sub_cancel]
theorem o0_ok : OI o0 := by
  exact ⟨inv_s0 (by decide) (by decide), fun t ht => absurd ht List.not_mem_nil, fun b hb => absurd hb List.not_mem_nil⟩
theorem is9.st {k a : Nat} {g g' : mj_S} {M M' : mj_M} (h : is9 g a) (x : xs k g M g' M') (hk : k < a ∨ g.1 ≤ k) : is9 g' a := by
  obtain ⟨h1, h2, h3, h4, h5, h6, h7, h8⟩ := h
  exact ⟨x.at h1, ⟨x.r hk h1.1 h2.1, h2.2.st x (by omega)⟩, ⟨x.r hk h1.1 h3.1, h3.2.st x (by omega)⟩, ⟨x.r hk h1.1 h4.1, x.at h4.2⟩, ⟨x.r hk h1.1 h5.1, h5.2.st x (by omega)⟩, ⟨x.r hk h1.1 h6.1, h6.2.st x (by omega)⟩, ⟨x.r hk h1.1 h7.1, x.at h7.2⟩, ⟨x.r hk h1.1 h8.1, h8.2.st x (by omega)⟩⟩
theorem is9s.st {k a : Nat} {g g' : mj_S} {M M' : mj_M} (h : is9s g a) (x : xs k g M g' M') (hk : k < a ∨ g.1 ≤ k) : is9s g' a := ⟨is9.st h.1 x hk, fun i hi => (h.2 i hi).st x (by omega)⟩
theorem is10.st {k a : Nat} {g g' : mj_S} {M M' : mj_M} (h : is10 g a) (x : xs k g M g' M') (hk : k < a ∨ g.1 ≤ k) : is10 g' a := by
  obtain ⟨h1, h2, h3, h4, h5, h6, h7, h8, h9, h10, h11, h12⟩ := h
  exact ⟨x.at h1, ⟨x.r hk h1.1 h2.1, x.at h2.2⟩, ⟨x.r hk h1.1 h3.1, x.at h3.2⟩, ⟨x.r hk h1.1 h4.1, x.at h4.2⟩, ⟨x.r hk h1.1 h5.1, x.at h5.2⟩, ⟨x.r hk h1.1 h6.1, x.at h6.2⟩, ⟨x.r hk h1.1 h7.1, x.at h7.2⟩, ⟨x.r hk h1.1 h8.1, x.at h8.2⟩, ⟨x.r hk h1.1 h9.1, x.at h9.2⟩, ⟨x.r hk h1.1 h10.1, x.at h10.2⟩, ⟨x.r hk h1.1 h11.1, x.at h11.2⟩, ⟨x.r hk h1.1 h12.1, x.at h12.2⟩⟩
theorem CR.ex {M M' : mj_M} {k : Nat} {o : ob} (h : CR M k o) (e : ∀ a, k ≤ a → a < k + 98 → M'.1 a = M.1 a) (e2 : M'.2.2 (k + 21) = M.2.2 (k + 21)) : CR M' k o := by
  obtain ⟨h1, ⟨t, h2⟩, h3, h4⟩ := h
  exact ⟨h1.c (fun a a1 a2 => e a (by omega) (by omega)), ⟨t, h2.c (fun a a1 a2 => e a (by omega) (by omega))⟩, h3.c (by rw [e k (by omega) (by omega)]) e2 (fun a a1 a2 => e a (by omega) (by omega)), h4.c (e _ (by omega) (by omega)) (e _ (by omega) (by omega))⟩
theorem RR.ex {M M' : mj_M} {k : Nat} {o : ob} (h : RR M k o) (e : ∀ a, k ≤ a → a < k + 12 → M'.1 a = M.1 a) : RR M' k o :=
  h.c (by unfold rr_; rw [e _ (by omega) (by omega)]; exact h.1) (e _ (by omega) (by omega)) (e _ (by omega) (by omega)) (by rw [e k (by omega) (by omega)]) (by rw [e k (by omega) (by omega)])
section LW3
variable {b L : Nat} {ys : Nat → Int32} {k1 : Nat} {g : mj_S}
theorem law_loop (hL : L ≤ 2048) (h1 : is9s g k1) (h2 : is10 g (k1 + 98)) (h3 : k1 + 110 < g.1 ∧ g.2.1 (k1 + 110) = (1, 2, 1)) : ∀ m n bc bs M o, L < n + 4 * m + 4 → n ≤ L + 4 → 8 * (m + 1) ≤ bc → 48 * (m + 1) ≤ bs → CR M k1 o → RR M (k1 + 98) o → OI o → LL_23 b L ys k1 (k1 + 98) (k1 + 110) (nI n) bc bs g M := by
  intro m
  induction m with
  | zero =>
    intro n bc bs M o hn hn2 hc hs hC hR hO
    refine bL_law_23 h1.1 h2 h3 (by omega) (by omega) ⟨fun _ => trivial, fun hx => absurd ?_ hx⟩
    rcases Nat.lt_or_ge L 4 with q | q
    · exact lw_len L (by omega) q n (by omega)
    · rw [nI_m4 q]; exact nI_lt (by omega) (by omega)
  | succ m ih =>
    intro n bc bs M o hn hn2 hc hs hC hR hO
    refine bL_law_23 h1.1 h2 h3 (by omega) (by omega) ⟨fun _ => trivial, fun hx => ?_⟩
    have hn4 : n + 4 ≤ L := by
      refine Classical.byContradiction (fun hq => hx ?_)
      rcases Nat.lt_or_ge L 4 with q | q
      · exact lw_len L (by omega) q n (by omega)
      · rw [nI_m4 q]; exact nI_lt (by omega) (by omega)
    have hLI : LI b L ys k1 (nI n) bc bs g M o := by
      refine ⟨h1, h2, h3, by omega, by omega, ⟨?_, ?_, ?_⟩, hC, hR, hO, fun M' o' c r ok => ?_⟩
      · rw [nI_1]; exact vp_in_nI (by omega) (by omega)
      · rw [show nI n + 2 = nI (n + 2) from nI_add n 2]; exact vp_in_nI (by omega) (by omega)
      · rw [show nI n + 3 = nI (n + 3) from nI_add n 3]; exact vp_in_nI (by omega) (by omega)
      · rw [show nI n + 4 = nI (n + 4) from nI_add n 4]
        exact ih (n + 4) _ _ M' o' (by omega) (by omega) (by omega) (by omega) c r ok
    exact ⟨vp_in_nI (by omega) (by omega), fun _ => lc_0 hLI, fun _ => lc_1 hLI, fun _ => lc_2 hLI, fun _ => lc_3 hLI, fun _ => lc_4 hLI, fun _ => lc_5 hLI, fun _ => lc_6 hLI, fun _ => lc_7 hLI, fun _ => lc_8 hLI, fun _ => lc_9 hLI, fun _ => lc_10 hLI, fun _ => lc_11 hLI, fun _ => lc_12 hLI, fun _ => lc_13 hLI, fun _ => lc_14 hLI, fun _ => lc_15 hLI, fun _ => lc_16 hLI, fun _ => lc_17 hLI, fun _ => lc_18 hLI, fun _ => lc_19 hLI, fun _ => lc_20 hLI, fun _ => lc_21 hLI, fun _ => lc_22 hLI, fun _ => lc_23 hLI, fun _ => lc_24 hLI, fun _ => lc_25 hLI, fun _ => lc_26 hLI, fun _ => lc_27 hLI, fun _ => lc_28 hLI, fun _ => lc_29 hLI, fun _ => lc_30 hLI, fun _ => lc_31 hLI, fun _ => lc_32 hLI, fun _ => lc_33 hLI, fun _ => lc_34 hLI, fun _ => lc_35 hLI, fun _ => lc_36 hLI, fun _ => lc_37 hLI, fun _ => lc_38 hLI, fun _ => lc_39 hLI, fun _ => lc_40 hLI, fun _ => lc_41 hLI, fun _ => lc_d hLI⟩
theorem law_body (hL : L ≤ 2048) {g : mj_S} {M : mj_M} (hg : g.1 ≤ 10) : mj_G (mj_mtL b L ys) room_1 (mj_FL b) true 601024 7293034 0 [(0, .ref 900001)] [] g M := by
  refine eL_law ⟨⟨by decide, by decide, by omega⟩, ?_⟩
  rintro _ rfl _ rfl _ rfl
  refine ⟨_, ⟨by decide, by decide⟩, nw9 (by omega), ?_⟩
  intro g2 M2 q2
  have e2 := q2.1
  refine ⟨⟨by decide, by decide, by omega⟩, ?_⟩
  rintro _ rfl _ rfl _ rfl
  refine ⟨_, ⟨by decide, by decide⟩, nw10 (by omega), ?_⟩
  intro g4 M4 q4
  have e4 := q4.1
  refine ⟨⟨by decide, by decide, by decide, by decide, by decide, by omega⟩, ?_⟩
  rintro _ rfl _ rfl _ rfl
  have x4 : xs g2.1 g2 M2 g4 M4 := xs.ofn q4 _
  have x5 : xs (g4.1 + 1) g4 M4 (mj_gA g4 (1, 2, 1)) (mj_mZ M4 g4.1) := xs.A _
  have i1 : is9s (mj_gA g4 (1, 2, 1)) g.1 := is9s.st (is9s.st q2.2.1.1 x4 (by omega)) x5 (by omega)
  have i2 : is10 (mj_gA g4 (1, 2, 1)) g2.1 := is10.st q4.2.1.1 x5 (by omega)
  have c1 : CR (mj_mZ M4 g4.1) g.1 o0 := by
    refine CR.ex q2.2.1.2 (fun a a1 a2 => ?_) ?_
    · rw [(mZ_o (show ¬ a = g4.1 by omega)).1, (q4.2.2 a (by omega)).2.2.1]
    · rw [(mZ_o (show ¬ g.1 + 21 = g4.1 by omega)).2, (q4.2.2 _ (by omega)).2.2.2]
  have r1 : RR (mj_mZ M4 g4.1) g2.1 o0 := RR.ex q4.2.1.2 (fun a a1 a2 => by rw [(mZ_o (show ¬ a = g4.1 by omega)).1])
  have f2 : g2.1 = g.1 + 98 := e2
  have f4 : g4.1 = g.1 + 110 := by omega
  have i3 : g.1 + 110 < (mj_gA g4 (1, 2, 1)).1 ∧ (mj_gA g4 (1, 2, 1)).2.1 (g.1 + 110) = (1, 2, 1) := by
    rw [← f4]; exact ⟨Nat.lt_succ_self _, if_pos rfl⟩
  rw [f2] at i2 r1
  rw [f2, f4]
  rw [f4] at c1 r1
  exact law_loop hL i1 i2 i3 512 0 _ _ _ o0 (by omega) (by omega) (by omega) (by omega) c1 r1 o0_ok
end LW3
