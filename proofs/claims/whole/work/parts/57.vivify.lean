/-! VIVIFICATION -/
def vvA (L : List Int32) (e x : Int32) : Nat → Nat → Int32 → Int32 → Int32
  | 0, _, _, kp => kp
  | m + 1, l, K, kp => if (bt x l && !bt K (fl l)) = true then (if bt K l = true then kp ||| bi l else match prop L e (K ||| bi (fl l)) with
    | none => kp ||| bi l
    | some K' => vvA L e x m (l + 1) K' (kp ||| bi l)) else vvA L e x m (l + 1) K kp
section VVA
variable {L : List Int32} {e x : Int32} {m l : Nat} {K kp : Int32}
theorem vvA_f (h : (bt x l && !bt K (fl l)) = false) : vvA L e x (m + 1) l K kp = vvA L e x m (l + 1) K kp := if_neg (by rw [h]; decide)
theorem vvA_k (h : (bt x l && !bt K (fl l)) = true) (h2 : bt K l = true) : vvA L e x (m + 1) l K kp = kp ||| bi l := by
  unfold vvA; rw [if_pos h, if_pos h2]
theorem vvA_n (h : (bt x l && !bt K (fl l)) = true) (h2 : bt K l = false) (h3 : prop L e (K ||| bi (fl l)) = none) : vvA L e x (m + 1) l K kp = kp ||| bi l := by
  unfold vvA; rw [if_pos h, if_neg (by rw [h2]; decide)]; simp only [h3]
theorem vvA_s {K' : Int32} (h : (bt x l && !bt K (fl l)) = true) (h2 : bt K l = false) (h3 : prop L e (K ||| bi (fl l)) = some K') : vvA L e x (m + 1) l K kp = vvA L e x m (l + 1) K' (kp ||| bi l) := by
  rw [vvA, if_pos h, if_neg (by rw [h2]; decide)]; simp only [h3]
end VVA
theorem vvA_sub {L : List Int32} {e x : Int32} : ∀ (m l : Nat) (K kp : Int32), l + m ≤ 20 → (∀ i, i < 32 → bt kp i = true → bt x i = true) → ∀ i, i < 32 → bt (vvA L e x m l K kp) i = true → bt x i = true
  | 0, _, _, kp, _, h => h
  | m + 1, l, K, kp, hl, h => by
    cases c : (bt x l && !bt K (fl l)) with
    | false => rw [vvA_f c]; exact vvA_sub m (l + 1) K kp (by omega) h
    | true =>
      have hx : bt x l = true := by rw [Bool.and_eq_true] at c; exact c.1
      have h2 : ∀ i, i < 32 → bt (kp ||| bi l) i = true → bt x i = true := by
        intro i hi hb
        rw [b_or, Bool.or_eq_true, b_bi (by omega) hi] at hb
        rcases hb with q | q
        · exact h i hi q
        · rw [of_decide_eq_true q]; exact hx
      cases c2 : bt K l with
      | true => rw [vvA_k c c2]; exact h2
      | false =>
        cases c3 : prop L e (K ||| bi (fl l)) with
        | none => rw [vvA_n c c2 c3]; exact h2
        | some K' => rw [vvA_s c c2 c3]; exact vvA_sub m (l + 1) K' _ (by omega) h2
def vv (L : List Int32) (j : Nat) : Option Int32 := if 2 ≤ pc (L.getD j 0) then (prop L (nI j) 0).map (fun K => vvA L (nI j) (L.getD j 0) 20 0 K 0) else some (L.getD j 0)
theorem vv_sub {L : List Int32} {j : Nat} {y : Int32} (h : vv L j = some y) : ∀ i, i < 32 → bt y i = true → bt (L.getD j 0) i = true := by
  unfold vv at h
  split at h
  · cases e : prop L (nI j) 0 with
    | none => rw [e] at h; cases h
    | some K => rw [e] at h; cases h; exact vvA_sub 20 0 K 0 (by omega) (fun i _ hb => by rw [b_0] at hb; cases hb)
  · cases h; exact fun _ _ hb => hb
theorem vv_20 {L : List Int32} (hn : nice L) {j : Nat} {y : Int32} (h : vv L j = some y) : l20 y := fun i hi hb => nice20 hn j i hi (vv_sub h i hi hb)
theorem or_bi_ne {x : Int32} {l : Nat} (hl : l < 32) : ¬ x ||| bi l = 0 := bnz.mpr ⟨l, hl, by rw [b_or, b_bi hl hl, decide_eq_true rfl, Bool.or_true]⟩
section VIV
variable {g : mj_S} {M : mj_M} {k kt n : Nat} {s : sg} {L : List Int32}
theorem c_vivify (h0 : is0 g k n) (h : cl_ M k n L) (hn : nice L) {j : Nat} (hj : j < L.length) : kX9_vivify k (nI j) g M (fun v M' => M' = M ∧ v = oI (vv L j)) := by
  have hlt := h.lt
  refine eX9_vivify h0 ⟨_, c_at h0 h (i := j) (by omega), fun v1 M1 hq => ?_⟩
  obtain ⟨rfl, rfl⟩ := hq
  refine ⟨_, c_bitCount _, fun v2 M2 hq => ?_⟩
  obtain ⟨rfl, rfl⟩ := hq
  rw [pc2]
  have key : ∀ (m l : Nat) (K kp : Int32), l + m = 20 → l20 K → LX9_vivify_29 k n (nI j) (L.getD j 0) K kp (nI l) g M2 (fun v M' => M' = M2 ∧ v = vvA L (nI j) (L.getD j 0) m l K kp) := by
    intro m
    induction m with
    | zero =>
      intro l K kp hl hK
      exact bX9_vivify_29 h0 ⟨fun _ => ⟨fun _ => ⟨rfl, rfl⟩, fun e => absurd e (l20_m1 hK)⟩, fun hc => absurd (by rw [show l = 20 by omega]; decide) hc⟩
    | succ m ih =>
      intro l K kp hl hK
      have hf := fl32 (show l < 20 by omega)
      refine bX9_vivify_29 h0 ⟨fun hc => ?_, fun _ => ⟨fun e => absurd e (l20_m1 hK), fun _ => ⟨_, c_contains _ (show l < 32 by omega), fun v3 M3 hq => ?_⟩⟩⟩
      · rw [show (20 : Int32) = nI 20 from rfl, nI_leI (by decide) (by omega)] at hc; omega
      obtain ⟨rfl, rfl⟩ := hq
      rw [xor1 l (by omega), nI_1]
      refine ⟨fun hc => ?_, fun hc => ⟨_, c_contains _ (show fl l < 32 by omega), fun v4 M4 hq => ?_⟩⟩
      · rw [vvA_f (by rw [(if01 _).1.mp hc]; rfl)]; exact ih (l + 1) K kp (by omega) hK
      obtain ⟨rfl, rfl⟩ := hq
      refine ⟨fun hd => ⟨_, c_contains _ (show l < 32 by omega), fun v5 M5 hq => ?_⟩, fun hd => ?_⟩
      · obtain ⟨rfl, rfl⟩ := hq
        have hh : (bt (L.getD j 0) l && !bt K (fl l)) = true := by rw [(if01 _).2.mp hc, (if01 _).1.mp hd]; rfl
        refine ⟨fun hk => ⟨_, c_closure h0 h _ _, fun v6 M6 hq => ?_⟩, fun hk => ⟨rfl, ?_⟩⟩
        · obtain ⟨rfl, rfl⟩ := hq
          have hk := (if01 _).1.mp hk
          have hK2 : l20 (K ||| bi (fl l)) := l20_or hK (l20_bi hf)
          show LX9_vivify_29 k n (nI j) (L.getD j 0) (oI (prop L (nI j) (K ||| bi (fl l)))) (kp ||| bi l) (nI (l + 1)) g M6 _
          cases c3 : prop L (nI j) (K ||| bi (fl l)) with
          | none =>
            rw [vvA_n hh hk c3]
            have hne := or_bi_ne (x := kp) (show l < 32 by omega)
            have fin : (¬ (-1 : Int32) = -1 → M6 = M6 ∧ kp ||| bi l = kp ||| bi l) ∧ ((-1 : Int32) = -1 → (¬ kp ||| bi l = 0 → M6 = M6 ∧ kp ||| bi l = kp ||| bi l) ∧ (kp ||| bi l = 0 → M6 = M6 ∧ -1 = kp ||| bi l)) := ⟨fun e => absurd rfl e, fun _ => ⟨fun _ => ⟨rfl, rfl⟩, fun e => absurd e hne⟩⟩
            exact bX9_vivify_29 h0 ⟨fun _ => fin, fun _ => ⟨fun _ => fin, fun e => absurd rfl e⟩⟩
          | some K' =>
            rw [vvA_s hh hk c3]
            exact ih (l + 1) K' _ (by omega) (pR_20 hn _ _ _ hK2 c3)
        · rw [vvA_k hh ((if01 _).2.mp hk)]; rfl
      · rw [vvA_f (by rw [(if01 _).2.mp hd]; simp)]; exact ih (l + 1) K kp (by omega) hK
  refine ⟨fun hp => ⟨_, c_closure h0 h _ _, fun v3 M3 hq => ?_⟩, fun hp => ⟨rfl, ?_⟩⟩
  · obtain ⟨rfl, rfl⟩ := hq
    have ev : vv L j = (prop L (nI j) 0).map (fun K => vvA L (nI j) (L.getD j 0) 20 0 K 0) := if_pos hp
    rw [ev]
    cases c3 : prop L (nI j) 0 with
    | none => 
      have fin : (¬ (-1 : Int32) = -1 → M3 = M3 ∧ (0 : Int32) = oI (none : Option Int32)) ∧ ((-1 : Int32) = -1 → (¬ (0 : Int32) = 0 → M3 = M3 ∧ (0 : Int32) = oI (none : Option Int32)) ∧ ((0 : Int32) = 0 → M3 = M3 ∧ (-1 : Int32) = oI (none : Option Int32))) := ⟨fun e => absurd rfl e, fun _ => ⟨fun e => absurd rfl e, fun _ => ⟨rfl, rfl⟩⟩⟩
      exact bX9_vivify_29 h0 ⟨fun _ => fin, fun _ => ⟨fun _ => fin, fun e => absurd rfl e⟩⟩
    | some K => exact key 20 0 K 0 (by omega) (pR_20 hn _ _ _ l20_0 c3)
  · unfold vv; rw [if_neg hp]; rfl
theorem r_vivid (h0 : is10 g k) (h : rr_ M k s) (hn : nice (sL s)) {j : Nat} (hj : j < (sL s).length) : kX10_vivid k (nI j) g M (fun v M' => v = (vv (sL s) j).getD 0 ∧ M'.1 k 25 = (if (vv (sL s) j).isSome then 0 else 1) ∧ rr_ M' k s ∧ rf_ k M M') := by
  have w1 : ∀ (M : mj_M) (x : Int32), rr_ M k s → rr_ (mj_wI M k 25 x) k s := fun M x h => h.fr (fr_.wI (lo := k) (hi := k + 1) (by omega) (by omega)) (by omega)
  have hA := w1 M 0 h
  refine eX10_vivid h0 ⟨_, r_clauseAt h0 hA hj, fun v1 M1 hq => ?_⟩
  obtain ⟨e1, rfl⟩ := hq
  rw [e1]
  refine ⟨_, r_bits _, fun v2 M2 hq => ?_⟩
  obtain ⟨e2, rfl⟩ := hq
  rw [pc2, e2]
  have key : ∀ (Mx : mj_M) (q : Int32 → mj_M → Prop), rr_ Mx k s → ∀ (m l : Nat) (K kp : Int32), l + m = 20 → l20 K → q (vvA (sL s) (nI j) ((sL s).getD j 0) m l K kp) Mx → LX10_vivid_48 k (nI j) ((sL s).getD j 0) K kp (nI l) g Mx q := by
    intro Mx q h m
    induction m with
    | zero =>
      intro l K kp hl hK hq
      exact bX10_vivid_48 h0 ⟨fun _ => hq, fun hc => absurd (by rw [show l = 20 by omega]; decide) hc⟩
    | succ m ih =>
      intro l K kp hl hK hQ
      have hf := fl32 (show l < 20 by omega)
      refine bX10_vivid_48 h0 ⟨fun hc => ?_, fun _ => ⟨fun e => absurd e (l20_m1 hK), fun _ => ⟨_, r_has _ (show l < 32 by omega), fun v3 M3 hq => ?_⟩⟩⟩
      · rw [show (20 : Int32) = nI 20 from rfl, nI_leI (by decide) (by omega)] at hc; omega
      obtain ⟨rfl, rfl⟩ := hq
      rw [xor1 l (by omega), nI_1]
      refine ⟨fun hc => ?_, fun hc => ⟨_, r_has _ (show fl l < 32 by omega), fun v4 M4 hq => ?_⟩⟩
      · rw [vvA_f (by rw [(if01 _).1.mp hc]; rfl)] at hQ; exact ih (l + 1) K kp (by omega) hK hQ
      obtain ⟨rfl, rfl⟩ := hq
      refine ⟨fun hd => ?_, fun hd => ⟨_, r_has _ (show l < 32 by omega), fun v5 M5 hq => ?_⟩⟩
      · rw [vvA_f (by rw [(if01 _).2.mp hd]; simp)] at hQ; exact ih (l + 1) K kp (by omega) hK hQ
      · obtain ⟨rfl, rfl⟩ := hq
        have hh : (bt ((sL s).getD j 0) l && !bt K (fl l)) = true := by rw [(if01 _).2.mp hc, (if01 _).1.mp hd]; rfl
        have hK2 : l20 (K ||| bi (fl l)) := l20_or hK (l20_bi hf)
        refine ⟨fun hk => ⟨_, r_propagated h0 h hn _ hK2, fun v6 M6 hq => ?_⟩, fun hk => ?_⟩
        · obtain ⟨rfl, rfl⟩ := hq
          have hk := (if01 _).1.mp hk
          show LX10_vivid_48 k (nI j) ((sL s).getD j 0) (oI (prop (sL s) (nI j) (K ||| bi (fl l)))) (kp ||| bi l) (nI (l + 1)) g M6 _
          cases c3 : prop (sL s) (nI j) (K ||| bi (fl l)) with
          | none =>
            rw [vvA_n hh hk c3] at hQ
            exact bX10_vivid_48 h0 ⟨fun _ => hQ, fun _ => ⟨fun _ => hQ, fun e => absurd rfl e⟩⟩
          | some K' =>
            rw [vvA_s hh hk c3] at hQ
            exact ih (l + 1) K' _ (by omega) (pR_20 hn _ _ _ hK2 c3) hQ
        · rw [vvA_k hh ((if01 _).2.mp hk)] at hQ
          exact bX10_vivid_48 h0 ⟨fun _ => hQ, fun _ => ⟨fun _ => hQ, fun e => absurd rfl e⟩⟩
  have f1 : rf_ k M (mj_wI M k 25 0) := rf_.wI (by omega)
  refine ⟨fun hp => ⟨_, r_propagated h0 hA hn _ l20_0, fun v3 M3 hq => ?_⟩, fun hp => ?_⟩
  · obtain ⟨e3, rfl⟩ := hq
    have ev : vv (sL s) j = (prop (sL s) (nI j) 0).map (fun K => vvA (sL s) (nI j) ((sL s).getD j 0) 20 0 K 0) := if_pos hp
    rw [ev, e3, prop_m1 hn l20_0]
    cases c3 : prop (sL s) (nI j) 0 with
    | none =>
      refine ⟨fun e => absurd rfl e, fun _ => ?_⟩
      have fin : (0 : Int32) = ((none : Option Int32).map (fun K => vvA (sL s) (nI j) ((sL s).getD j 0) 20 0 K 0)).getD 0 ∧ (mj_wI (mj_wI M k 25 0) k 25 1).1 k 25 = (if ((none : Option Int32).map (fun K => vvA (sL s) (nI j) ((sL s).getD j 0) 20 0 K 0)).isSome then 0 else 1) ∧ rr_ (mj_wI (mj_wI M k 25 0) k 25 1) k s ∧ rf_ k M (mj_wI (mj_wI M k 25 0) k 25 1) := ⟨rfl, wI_s, w1 _ _ hA, f1.tr (rf_.wI (by omega))⟩
      exact bX10_vivid_48 h0 ⟨fun _ => fin, fun _ => ⟨fun _ => fin, fun e => absurd rfl e⟩⟩
    | some K =>
      refine ⟨fun _ => key _ _ (w1 _ _ hA) 20 0 K 0 (by omega) (pR_20 hn _ _ _ l20_0 c3) ⟨rfl, wI_s, w1 _ _ hA, f1.tr (rf_.wI (by omega))⟩, fun e => by cases e⟩
  · refine ⟨?_, ?_, hA, f1⟩
    · unfold vv; rw [if_neg hp]; rfl
    · unfold vv; rw [if_neg hp]; exact wI_s
end VIV
/-! vivification of all clauses -/
def vaA : Nat → Nat → List Int32 → Nat → List Int32 × Nat
  | 0, _, L, c => (L, c)
  | m + 1, i, L, c => match vv L i with
    | none => ([0], c)
    | some y => if y = 0 then ([0], c + (pc (L.getD i 0) - pc y)) else vaA m (i + 1) (L.set i y) (c + (pc (L.getD i 0) - pc y))
section VAL
variable {L : List Int32} {m i c : Nat}
theorem vaA_n (h : vv L i = none) : vaA (m + 1) i L c = ([0], c) := by simp only [vaA, h]
theorem vaA_0 {y : Int32} (h : vv L i = some y) (hy : y = 0) : vaA (m + 1) i L c = ([0], c + (pc (L.getD i 0) - pc y)) := by simp only [vaA, h, hy, if_true]
theorem vaA_s {y : Int32} (h : vv L i = some y) (hy : ¬ y = 0) : vaA (m + 1) i L c = vaA m (i + 1) (L.set i y) (c + (pc (L.getD i 0) - pc y)) := by simp only [vaA, h, hy, if_false]
theorem nice_set (hn : nice L) (hi : i < L.length) {y : Int32} (hy : ∀ t, t < 32 → bt y t = true → bt (L.getD i 0) t = true) : nice (L.set i y) := by
  intro d hd
  rcases mem_set hd with q | q
  · rw [q]
    have := hn _ (gd_mem hi)
    exact ⟨tv_sub hy this.1, fun t ht hb => this.2 t ht (hy t ht hb)⟩
  · exact hn d q
end VAL
theorem vaA_inv {V : Nat} {S : Nat → Int32} : ∀ (m i : Nat) (L : List Int32) (c : Nat), i + m = L.length → (∀ d, d ∈ L → okv V S d) → (vaA m i L c).1 = [0] ∨ ((∀ d, d ∈ (vaA m i L c).1 → okv V S d) ∧ (vaA m i L c).1.length ≤ L.length)
  | 0, _, L, c, _, h => Or.inr ⟨h, Nat.le_refl _⟩
  | m + 1, i, L, c, hi, h => by
    cases e : vv L i with
    | none => rw [vaA_n e]; exact Or.inl rfl
    | some y =>
      by_cases hy : y = 0
      · rw [vaA_0 e hy]; exact Or.inl rfl
      · rw [vaA_s e hy]
        have h2 : ∀ d, d ∈ L.set i y → okv V S d := fun d hd => by
          rcases mem_set hd with q | q
          · rw [q]; exact okv_sub (h _ (gd_mem (by omega))) hy (vv_sub e)
          · exact h d q
        have := vaA_inv m (i + 1) (L.set i y) (c + (pc (L.getD i 0) - pc y)) (by rw [List.length_set]; omega) h2
        rw [List.length_set] at this; exact this
theorem vaA_le : ∀ (m i : Nat) (L : List Int32) (c : Nat), (vaA m i L c).2 ≤ c + 32 * m
  | 0, _, L, c => Nat.le_refl _
  | m + 1, i, L, c => by
    have hp := pc_le (L.getD i 0)
    cases e : vv L i with
    | none => rw [vaA_n e]; exact Nat.le_add_right _ _
    | some y =>
      by_cases hy : y = 0
      · rw [vaA_0 e hy]; show c + (pc (L.getD i 0) - pc y) ≤ _; omega
      · rw [vaA_s e hy]
        exact Nat.le_trans (vaA_le m (i + 1) _ _) (by omega)
def viv (L : List Int32) : List Int32 × Nat := vaA L.length 0 L 0
theorem viv_inv {s : sg} (h : Inv s) (hb : sL s ≠ [0]) : Inv (uL s (viv (sL s)).1) := inv_uL h hb (vaA_inv _ 0 _ 0 (Nat.zero_add _) (h.ok' hb))
section VI2
variable {g : mj_S} {M : mj_M} {k kt n : Nat} {s : sg} {L : List Int32}
theorem c_vivifyAll (ht : is7 g kt) (h0 : is0 g k n) (h : cl_ M k n L) (hn : nice L) (hn0 : 0 < n) : kX7_vivifyAll kt k g M (fun v M' => cl_ M' k n (viv L).1 ∧ v = nI (viv L).2 ∧ fr_ k (k + 2) M M') := by
  have key : ∀ (m i c : Nat) (L : List Int32) (M1 : mj_M), i + m = L.length → nice L → cl_ M1 k n L → fr_ k (k + 2) M M1 → LX7_vivifyAll_4 kt k n (nI c) (nI i) g M1 (fun v M' => cl_ M' k n (vaA m i L c).1 ∧ v = nI (vaA m i L c).2 ∧ fr_ k (k + 2) M M') := by
    intro m
    induction m with
    | zero =>
      intro i c L M1 hi hn h hf
      have hlt := h.lt
      refine bX7_vivifyAll_4 ht h0 ⟨_, c_size h0 h, fun v1 M2 hq => ?_⟩
      obtain ⟨rfl, rfl⟩ := hq
      exact ⟨fun _ => ⟨h, rfl, hf⟩, fun hc => absurd (nI_le (by omega) (by omega)) hc⟩
    | succ m ih =>
      intro i c L M1 hi hn h hf
      have hlt := h.lt
      have hil : i < L.length := by omega
      refine bX7_vivifyAll_4 ht h0 ⟨_, c_size h0 h, fun v1 M2 hq => ?_⟩
      obtain ⟨rfl, rfl⟩ := hq
      refine ⟨fun hc => absurd hc (nI_ge hil hlt), fun _ => ⟨_, c_vivify h0 h hn hil, fun v2 M3 hq => ?_⟩⟩
      obtain ⟨rfl, rfl⟩ := hq
      cases e : vv L i with
      | none =>
        refine ⟨fun hx => absurd rfl hx, fun _ => ⟨_, c_collapse h0 h hn0, fun M8 hq => ?_⟩⟩
        rw [vaA_n e]; exact ⟨hq.1, rfl, hf.tr hq.2⟩
      | some y =>
        refine ⟨fun _ => ⟨_, c_at h0 h (i := i) (by omega), fun v3 M4 hq => ?_⟩, fun hx => absurd hx (l20_m1 (vv_20 hn e))⟩
        obtain ⟨rfl, rfl⟩ := hq
        refine ⟨_, c_bitCount _, fun v4 M5 hq => ?_⟩
        obtain ⟨rfl, rfl⟩ := hq
        refine ⟨_, c_bitCount _, fun v5 M6 hq => ?_⟩
        obtain ⟨rfl, rfl⟩ := hq
        show (¬ y = 0 → _) ∧ (y = 0 → _)
        have hle : pc y ≤ pc (L.getD i 0) := pc_mono (vv_sub e)
        rw [show pc (oI (some y)) = pc y from rfl, pk_sub hle, nI_add, nI_1]
        refine ⟨fun hy => ⟨_, c_put h0 h hil y, fun M7 hq => ?_⟩, fun hy => ⟨_, c_collapse h0 h hn0, fun M7 hq => ?_⟩⟩
        · rw [vaA_s e hy]
          exact ih (i + 1) _ _ M7 (by rw [List.length_set]; omega) (nice_set hn hil (vv_sub e)) hq.1 (hf.tr hq.2)
        · rw [vaA_0 e hy]; exact ⟨hq.1, rfl, hf.tr hq.2⟩
  exact eX7_vivifyAll ht h0 (key L.length 0 0 L M (Nat.zero_add _) hn h fr_.rf)
theorem ne_broken (h : ∀ d, d ∈ L → d ≠ 0) : ¬ L = [0] := fun e => h 0 (by rw [e]; simp) rfl
theorem r_vivifies (h0 : is10 g k) (h : rr_ M k s) (hn : nice (sL s)) (hz : ∀ d, d ∈ sL s → d ≠ 0) : kX10_vivifies k g M (fun v M' => rr_ M' k (uL s (viv (sL s)).1) ∧ v = nI (viv (sL s)).2 ∧ rf_ k M M') := by
  have key : ∀ (m i c : Nat) (L : List Int32) (M1 : mj_M), i + m = L.length → nice L → (∀ d, d ∈ L → d ≠ 0) → rr_ M1 k (uL s L) → rf_ k M M1 → LX10_vivifies_4 k (nI c) (nI i) g M1 (fun v M' => rr_ M' k (uL s (vaA m i L c).1) ∧ v = nI (vaA m i L c).2 ∧ rf_ k M M') := by
    intro m
    induction m with
    | zero =>
      intro i c L M1 hi hn hz h hf
      exact bX10_vivifies_4 h0 ⟨fun _ => ⟨h, rfl, hf⟩, fun hc => absurd (h.done (by show i = L.length; omega)) hc⟩
    | succ m ih =>
      intro i c L M1 hi hn hz h hf
      have hil : i < (sL (uL s L)).length := by show i < L.length; omega
      have h48 : L.length ≤ 48 := h.n48
      refine bX10_vivifies_4 h0 ⟨fun hc => absurd hc (h.more hil), fun _ => ⟨_, r_isBroken h0 h, fun v1 M2 hq => ?_⟩⟩
      obtain ⟨rfl, rfl⟩ := hq
      rw [if_neg (show ¬ sL (uL s L) = [0] from ne_broken hz)]
      refine ⟨fun hx => absurd rfl hx, fun _ => ⟨_, r_vivid h0 h hn hil, fun v2 M3 hq => ?_⟩⟩
      obtain ⟨rfl, q2, q3, q4⟩ := hq
      rw [q2, i66, nI_clamp (show 66 + i < 2 ^ 31 by omega), nI_1]
      have hin : vp_in (nI (66 + i)) 395 := vp_in_nI (by omega) (by decide)
      have brk : ∀ (y : Int32) (x1 : Int32) (q : Int32 → mj_M → Prop) (M4 : mj_M), rr_ M4 k (uL s L) → rf_ k M M4 → (∀ M', rr_ M' k (uL s [0]) → rf_ k M M' → q x1 M') → ∃ q6 : mj_M → Prop, kX10_breaks k g (mj_wI M4 (k + 1) (66 + i) y) q6 ∧ ∀ M6, q6 M6 → LX10_vivifies_4 k x1 (nI (i + 1)) g M6 q := by
        intro y x1 q M4 hr4 hf4 hq4
        refine ⟨_, r_breaks h0 (hr4.put (i := i) hil y), fun M6 hq => ?_⟩
        have hq6 := hq4 M6 hq.1 ((hf4.tr (rf_.wI (by omega))).tr (hq.2.r (by omega)))
        refine bX10_vivifies_4 h0 ⟨fun _ => hq6, fun hc => absurd ?_ hc⟩
        rw [hq.1.n]; exact nI_le (show 1 ≤ i + 1 by omega) (by omega)
      cases e : vv (sL (uL s L)) i with
      | none =>
        refine ⟨fun hx => absurd hx (by decide), fun _ => ⟨hin, fun hx => absurd rfl hx, fun _ => ?_⟩⟩
        rw [show nI c + 0 = nI c from Int32.add_zero _]
        refine brk _ _ _ M3 q3 (hf.tr q4) (fun M' a1 a2 => ?_)
        rw [vaA_n (L := L) e]; exact ⟨a1, rfl, a2⟩
      | some y =>
        refine ⟨fun _ => ⟨_, r_clauseAt h0 q3 hil, fun v4 M4 hq => ?_⟩, fun hx => absurd rfl hx⟩
        obtain ⟨rfl, rfl⟩ := hq
        refine ⟨_, r_bits _, fun v5 M5 hq => ?_⟩
        obtain ⟨rfl, rfl⟩ := hq
        refine ⟨_, r_bits _, fun v6 M6 hq => ⟨hin, ?_⟩⟩
        obtain ⟨rfl, rfl⟩ := hq
        show (¬ y = 0 → _) ∧ (y = 0 → _)
        have hle : pc y ≤ pc ((sL (uL s L)).getD i 0) := pc_mono (vv_sub e)
        rw [show pc ((some y).getD 0) = pc y from rfl, pk_sub hle, nI_add]
        refine ⟨fun hy => ?_, fun hy => ?_⟩
        · rw [vaA_s (L := L) e hy]
          refine ih (i + 1) _ _ _ (by rw [List.length_set]; omega) (nice_set hn hil (vv_sub e)) (fun d hd => ?_) (q3.put (i := i) hil y) ((hf.tr q4).tr (rf_.wI (by omega)))
          rcases mem_set hd with q | q
          · rw [q]; exact hy
          · exact hz d q
        · refine brk _ _ _ M6 q3 (hf.tr q4) (fun M' a1 a2 => ?_)
          rw [vaA_0 (L := L) e hy]; exact ⟨a1, rfl, a2⟩
  exact eX10_vivifies h0 (key (sL s).length 0 0 (sL s) M (Nat.zero_add _) hn hz h rf_.rf)
end VI2
