/-! READING CLAUSES: the class, byte by byte -/
abbrev ast : Type := Nat × Nat × Nat × Int32 × Bool × List Int32
def bk (b : Nat) : Bool := decide (b = 32) || decide (b = 10)
def dg (b : Nat) : Bool := decide (48 ≤ b) && decide (b ≤ 57)
def tkD (V : Nat) (s : ast) (d : Nat) : Option ast := if 10 * s.2.1 + d ≤ V then some (3, 10 * s.2.1 + d, s.2.2.1, s.2.2.2.1, true, s.2.2.2.2.2) else none
def adC (cs : List Int32) (l : Int32) : List Int32 := if tv l = true then cs else cs ++ [l]
def tk (V : Nat) (s : ast) (b : Nat) : Option ast := match s.1 with
  | 0 => if bk b = true then some s else if dg b = true then (if b = 48 then some (2, s.2.1, s.2.2.1, 0, false, adC s.2.2.2.2.2 s.2.2.2.1) else tkD V s (b - 48)) else if b = 45 then some (1, s.2.1, 1, s.2.2.2.1, true, s.2.2.2.2.2) else none
  | 1 => if (dg b && !decide (b = 48)) = true then tkD V s (b - 48) else none
  | 2 => if bk b = true then some (0, s.2.1, s.2.2.1, s.2.2.2.1, s.2.2.2.2.1, s.2.2.2.2.2) else none
  | _ => if bk b = true then some (0, 0, 0, s.2.2.2.1 ||| bi (2 * (s.2.1 - 1) + s.2.2.1), s.2.2.2.2.1, s.2.2.2.2.2) else if dg b = true then tkD V s (b - 48) else none
/-- a state that can be; p: how many bytes have been taken -/
def WC (V p pl n sn : Nat) (lit : Int32) (cs : List Int32) : Prop := pl ≤ 3 ∧ n ≤ V ∧ sn ≤ 1 ∧ (pl ≠ 3 → n = 0) ∧ (pl = 3 → 1 ≤ n) ∧ (∀ i, i < 32 → bt lit i = true → i < 2 * V) ∧ (∀ c, c ∈ cs → tv c = false ∧ ∀ i, i < 32 → bt c i = true → i < 2 * V) ∧ (pl ≠ 2 → 2 * cs.length ≤ p) ∧ 2 * cs.length ≤ p + 1 ∧ ((pl = 0 ∨ pl = 2) → sn = 0)
def WS (V p : Nat) (s : ast) : Prop := WC V p s.1 s.2.1 s.2.2.1 s.2.2.2.1 s.2.2.2.2.2
theorem adC_len {cs : List Int32} {l : Int32} : (adC cs l).length ≤ cs.length + 1 := by
  unfold adC
  split
  · omega
  · rw [List.length_append]; exact Nat.le_refl _
theorem WS_D {V p d pl n sn : Nat} {lit : Int32} {op : Bool} {cs : List Int32} {s' : ast} (h : WC V p pl n sn lit cs) (h2 : pl ≠ 2) (hd : 1 ≤ 10 * n + d) (e : tkD V (pl, n, sn, lit, op, cs) d = some s') : WS V (p + 1) s' := by
  have e : (if 10 * n + d ≤ V then some (3, 10 * n + d, sn, lit, true, cs) else none) = some s' := e
  obtain ⟨h1, h3, h4, h5, h6, h7, h8, h9, h10, h11⟩ := h
  have h9 := h9 h2
  split at e
  · rename_i hle
    cases e
    show WC V (p + 1) 3 (10 * n + d) sn lit cs
    exact ⟨by decide, hle, h4, fun q => absurd rfl q, fun _ => hd, h7, h8, fun _ => by omega, by omega, fun q => by omega⟩
  · cases e
theorem WS_s {V p b : Nat} {s s' : ast} (hV : V ≤ 10) (h : WS V p s) (e : tk V s b = some s') : WS V (p + 1) s' := by
  obtain ⟨pl, n, sn, lit, op, cs⟩ := s
  have hW : WC V p pl n sn lit cs := h
  obtain ⟨h1, h3, h4, h5, h6, h7, h8, h9, h10, h11⟩ := hW
  have hW : WC V p pl n sn lit cs := h
  have c4 : pl = 0 ∨ pl = 1 ∨ pl = 2 ∨ pl = 3 := by omega
  rcases c4 with rfl | rfl | rfl | rfl
  · have e : (if bk b = true then some (0, n, sn, lit, op, cs) else if dg b = true then (if b = 48 then some (2, n, sn, 0, false, adC cs lit) else tkD V (0, n, sn, lit, op, cs) (b - 48)) else if b = 45 then some (1, n, 1, lit, true, cs) else none) = some s' := e
    have h9 := h9 (by decide)
    have h5 := h5 (by decide)
    split at e
    · cases e
      show WC V (p + 1) 0 n sn lit cs
      exact ⟨h1, h3, h4, fun _ => h5, h6, h7, h8, fun _ => by omega, by omega, h11⟩
    · split at e
      · rename_i hd
        split at e
        · cases e
          have hal := adC_len (cs := cs) (l := lit)
          show WC V (p + 1) 2 n sn 0 (adC cs lit)
          refine ⟨by decide, h3, h4, fun _ => h5, fun q => by omega, fun i _ q => ?_, fun c hc => ?_, fun q => absurd rfl q, by omega, fun _ => h11 (Or.inl rfl)⟩
          · rw [b_0] at q; cases q
          · unfold adC at hc
            split at hc
            · exact h8 c hc
            · rename_i ht
              rcases List.mem_append.mp hc with q | q
              · exact h8 c q
              · have ec : c = lit := by simpa using q
                rw [ec]
                exact ⟨by cases e : tv lit; rfl; exact absurd e ht, h7⟩
        · rename_i hb
          unfold dg at hd
          simp only [Bool.and_eq_true, decide_eq_true_eq] at hd
          exact WS_D hW (by decide) (by omega) e
      · split at e
        · cases e
          show WC V (p + 1) 1 n 1 lit cs
          exact ⟨by decide, h3, by decide, fun _ => h5, fun q => by omega, h7, h8, fun _ => by omega, by omega, fun q => by omega⟩
        · cases e
  · have e : (if (dg b && !decide (b = 48)) = true then tkD V (1, n, sn, lit, op, cs) (b - 48) else none) = some s' := e
    split at e
    · rename_i hd
      unfold dg at hd
      simp only [Bool.and_eq_true, decide_eq_true_eq, Bool.not_eq_true', decide_eq_false_iff_not] at hd
      exact WS_D hW (by decide) (by omega) e
    · cases e
  · have e : (if bk b = true then some (0, n, sn, lit, op, cs) else none) = some s' := e
    split at e
    · cases e
      show WC V (p + 1) 0 n sn lit cs
      exact ⟨by decide, h3, h4, fun _ => h5 (by decide), fun q => by omega, h7, h8, fun _ => h10, by omega, fun _ => h11 (Or.inr rfl)⟩
    · cases e
  · have e : (if bk b = true then some (0, 0, 0, lit ||| bi (2 * (n - 1) + sn), op, cs) else if dg b = true then tkD V (3, n, sn, lit, op, cs) (b - 48) else none) = some s' := e
    have hn1 := h6 rfl
    have h9 := h9 (by decide)
    split at e
    · cases e
      show WC V (p + 1) 0 0 0 (lit ||| bi (2 * (n - 1) + sn)) cs
      refine ⟨by decide, Nat.zero_le _, by decide, fun _ => rfl, fun q => by omega, fun i hi q => ?_, h8, fun _ => by omega, by omega, fun _ => rfl⟩
      rw [b_or, b_bi (by omega) hi, Bool.or_eq_true, decide_eq_true_eq] at q
      rcases q with q | q
      · exact h7 i hi q
      · omega
    · split at e
      · exact WS_D hW (by decide) (by omega) e
      · cases e
def ar_ (M : mj_M) (kr V : Nat) (s : ast) : Prop := M.1 kr 1 = nI V ∧ M.1 kr 2 = nI s.1 ∧ M.1 kr 3 = nI s.2.1 ∧ M.1 kr 4 = nI s.2.2.1 ∧ M.1 kr 5 = s.2.2.2.1 ∧ M.1 kr 6 = (if s.2.2.2.2.1 then 1 else 0) ∧ cl_ M (kr + 1) 81 s.2.2.2.2.2
theorem o10 : ((1 : Int32) = 0) = False := eq_false (by decide)
section REA
variable {g : mj_S} {M : mj_M} {kr V : Nat} {pl n sn : Nat} {lit : Int32} {op : Bool} {cs : List Int32}
theorem c_takesMinus (h1 : is1 g kr) (h : ar_ M kr V (pl, n, sn, lit, op, cs)) : kX1_takesMinus kr g M (fun v M' => v = 1 ∧ ar_ M' kr V (1, n, 1, lit, true, cs) ∧ fr_ kr (kr + 3) M M') := by
  obtain ⟨a1, a2, a3, a4, a5, a6, a7⟩ := h
  have f : fr_ kr (kr + 1) M (mj_wI (mj_wI (mj_wI M kr 4 1) kr 6 1) kr 2 1) := ((fr_.wI (by omega) (by omega)).tr (fr_.wI (by omega) (by omega))).tr (fr_.wI (by omega) (by omega))
  refine eX1_takesMinus h1 ⟨rfl, ⟨?_, wI_s, ?_, ?_, ?_, ?_, a7.fr f (by omega)⟩, f.wd (by omega) (by omega)⟩
  · rw [wI_k (by omega), wI_k (by omega), wI_k (by omega)]; exact a1
  · rw [wI_k (by omega), wI_k (by omega), wI_k (by omega)]; exact a3
  · rw [wI_k (by omega), wI_k (by omega), wI_s]; rfl
  · rw [wI_k (by omega), wI_k (by omega), wI_k (by omega)]; exact a5
  · rw [wI_k (by omega), wI_s]; rfl
theorem c_takesDigit (h1 : is1 g kr) (h : ar_ M kr V (pl, n, sn, lit, op, cs)) (hV : V ≤ 10) (hn : n ≤ 10) {d : Nat} (hd : d ≤ 9) : kX1_takesDigit kr (nI d) g M (fun v M' => v = (if 10 * n + d ≤ V then 1 else 0) ∧ ar_ M' kr V (3, 10 * n + d, sn, lit, true, cs) ∧ fr_ kr (kr + 3) M M') := by
  obtain ⟨a1, a2, a3, a4, a5, a6, a7⟩ := h
  refine eX1_takesDigit h1 ?_
  rw [a3, show (10 : Int32) = nI 10 from rfl, pk_mul, nI_add]
  obtain ⟨M', eM⟩ : ∃ z, z = mj_wI (mj_wI (mj_wI M kr 3 (nI (10 * n + d))) kr 6 1) kr 2 3 := ⟨_, rfl⟩
  have f : fr_ kr (kr + 1) M M' := by rw [eM]; exact ((fr_.wI (by omega) (by omega)).tr (fr_.wI (by omega) (by omega))).tr (fr_.wI (by omega) (by omega))
  have hA : ar_ M' kr V (3, 10 * n + d, sn, lit, true, cs) := by
    refine ⟨?_, ?_, ?_, ?_, ?_, ?_, a7.fr f (by omega)⟩
    · rw [eM, wI_k (by omega), wI_k (by omega), wI_k (by omega)]; exact a1
    · rw [eM, wI_s]; rfl
    · rw [eM, wI_k (by omega), wI_k (by omega), wI_s]
    · rw [eM, wI_k (by omega), wI_k (by omega), wI_k (by omega)]; exact a4
    · rw [eM, wI_k (by omega), wI_k (by omega), wI_k (by omega)]; exact a5
    · rw [eM, wI_k (by omega), wI_s]; rfl
  rw [← eM, hA.1, hA.2.2.1]
  show (nI V < nI (10 * n + d) → _) ∧ (¬ nI V < nI (10 * n + d) → _)
  rw [nI_ltI (by omega) (by omega)]
  exact ⟨fun q => ⟨by rw [if_neg (by omega)], hA, f.wd (by omega) (by omega)⟩, fun q => ⟨by rw [if_pos (by omega)], hA, f.wd (by omega) (by omega)⟩⟩
theorem c_endsLiteral (h1 : is1 g kr) (h : ar_ M kr V (pl, n, sn, lit, op, cs)) (hn : 1 ≤ n) : kX1_endsLiteral kr g M (fun v M' => v = 1 ∧ ar_ M' kr V (0, 0, 0, lit ||| bi (2 * (n - 1) + sn), op, cs) ∧ fr_ kr (kr + 3) M M') := by
  obtain ⟨a1, a2, a3, a4, a5, a6, a7⟩ := h
  obtain ⟨n', en⟩ : ∃ n', n = n' + 1 := ⟨n - 1, by omega⟩
  refine eX1_endsLiteral h1 ?_
  have a3 : M.1 kr 3 = nI n := a3
  have a4 : M.1 kr 4 = nI sn := a4
  have a5 : M.1 kr 5 = lit := a5
  rw [a3, a4, a5, en, nI_pred, two_nI, nI_add, show n' + 1 - 1 = n' by omega]
  obtain ⟨M', eM⟩ : ∃ z, z = mj_wI (mj_wI (mj_wI (mj_wI M kr 5 (lit ||| bi (2 * n' + sn))) kr 3 0) kr 4 0) kr 2 0 := ⟨_, rfl⟩
  have f : fr_ kr (kr + 1) M M' := by rw [eM]; exact (((fr_.wI (by omega) (by omega)).tr (fr_.wI (by omega) (by omega))).tr (fr_.wI (by omega) (by omega))).tr (fr_.wI (by omega) (by omega))
  refine ⟨rfl, ?_, ?_⟩
  · show ar_ (mj_wI (mj_wI (mj_wI (mj_wI M kr 5 (lit ||| bi (2 * n' + sn))) kr 3 0) kr 4 0) kr 2 0) kr V _
    rw [← eM]
    refine ⟨?_, ?_, ?_, ?_, ?_, ?_, a7.fr f (by omega)⟩
    · rw [eM, wI_k (by omega), wI_k (by omega), wI_k (by omega), wI_k (by omega)]; exact a1
    · rw [eM, wI_s]; rfl
    · rw [eM, wI_k (by omega), wI_k (by omega), wI_s]; rfl
    · rw [eM, wI_k (by omega), wI_s]; rfl
    · rw [eM, wI_k (by omega), wI_k (by omega), wI_k (by omega), wI_s]
    · rw [eM, wI_k (by omega), wI_k (by omega), wI_k (by omega), wI_k (by omega)]; exact a6
  · show fr_ kr (kr + 3) M (mj_wI (mj_wI (mj_wI (mj_wI M kr 5 (lit ||| bi (2 * n' + sn))) kr 3 0) kr 4 0) kr 2 0)
    rw [← eM]; exact f.wd (by omega) (by omega)
theorem c_endsClause (h1 : is1 g kr) (h : ar_ M kr V (pl, n, sn, lit, op, cs)) (hc : cs.length < 81) : kX1_endsClause kr g M (fun v M' => v = 1 ∧ ar_ M' kr V (2, n, sn, 0, false, adC cs lit) ∧ fr_ kr (kr + 3) M M') := by
  obtain ⟨a1, a2, a3, a4, a5, a6, a7⟩ := h
  have fin : ∀ M2, M2.1 kr = M.1 kr → cl_ M2 (kr + 1) 81 (adC cs lit) → fr_ (kr + 1) (kr + 3) M M2 → (fun v M' => v = 1 ∧ ar_ M' kr V (2, n, sn, 0, false, adC cs lit) ∧ fr_ kr (kr + 3) M M') (1 : Int32) (mj_wI (mj_wI (mj_wI M2 kr 5 0) kr 6 0) kr 2 2) := by
    intro M2 e2 hc2 hf
    have f : fr_ kr (kr + 1) M2 (mj_wI (mj_wI (mj_wI M2 kr 5 0) kr 6 0) kr 2 2) := ((fr_.wI (by omega) (by omega)).tr (fr_.wI (by omega) (by omega))).tr (fr_.wI (by omega) (by omega))
    refine ⟨rfl, ⟨?_, ?_, ?_, ?_, ?_, ?_, hc2.fr f (by omega)⟩, (hf.wd (by omega) (by omega)).tr (f.wd (by omega) (by omega))⟩
    · rw [wI_k (by omega), wI_k (by omega), wI_k (by omega), e2]; exact a1
    · rw [wI_s]; rfl
    · rw [wI_k (by omega), wI_k (by omega), wI_k (by omega), e2]; exact a3
    · rw [wI_k (by omega), wI_k (by omega), wI_k (by omega), e2]; exact a4
    · rw [wI_k (by omega), wI_k (by omega), wI_s]
    · rw [wI_k (by omega), wI_s]; rfl
  refine eX1_endsClause h1 ?_
  have a5 : M.1 kr 5 = lit := a5
  rw [a5]
  refine ⟨_, c_hasComplementary _, fun v1 M1 hq => ?_⟩
  obtain ⟨rfl, rfl⟩ := hq
  rw [a5]
  refine ⟨fun ht => fin M1 rfl ?_ fr_.rf, fun ht => ⟨_, c_add h1.2.2 a7 hc lit, fun M2 hq => fin M2 (hq.2.1 kr (by omega)) ?_ hq.2⟩⟩
  · unfold adC; rw [if_pos ((if01 _).2.mp ht)]; exact a7
  · unfold adC; rw [if_neg (by rw [(if01 _).1.mp ht]; decide)]; exact hq.1
theorem nI_48 {b : Nat} (h : 48 ≤ b) : nI b - 48 = nI (b - 48) := by rw [show (48 : Int32) = nI 48 from rfl, pk_sub h]
def takP (V : Nat) (s : ast) (b : Nat) (kr : Nat) (M : mj_M) (v : Int32) (M' : mj_M) : Prop := (∀ s', tk V s b = some s' → v = 1 ∧ ar_ M' kr V s') ∧ (tk V s b = none → v = 0) ∧ fr_ kr (kr + 3) M M'
theorem tkP_1 {s s' : ast} {b : Nat} {M' : mj_M} (e : tk V s b = some s') (h : ar_ M' kr V s') (hf : fr_ kr (kr + 3) M M') : takP V s b kr M 1 M' := ⟨fun s2 e2 => (by rw [e] at e2; cases e2; exact ⟨rfl, h⟩), fun e2 => (by rw [e] at e2; cases e2), hf⟩
theorem tkP_0 {s : ast} {b : Nat} {M' : mj_M} (e : tk V s b = none) (hf : fr_ kr (kr + 3) M M') : takP V s b kr M 0 M' := ⟨fun s2 e2 => (by rw [e] at e2; cases e2), fun _ => rfl, hf⟩
/-- a digit -/
theorem tk_D (h1 : is1 g kr) (h : ar_ M kr V (pl, n, sn, lit, op, cs)) (hV : V ≤ 10) (hn : n ≤ 10) {b : Nat} (hb : 48 ≤ b) (hb2 : b ≤ 57) (e : tk V (pl, n, sn, lit, op, cs) b = tkD V (pl, n, sn, lit, op, cs) (b - 48)) {q : Int32 → mj_M → Prop} (hq : ∀ v M', takP V (pl, n, sn, lit, op, cs) b kr M v M' → q v M') : ∃ q1 : Int32 → mj_M → Prop, kX1_takesDigit kr (nI b - 48) g M q1 ∧ ∀ v1 M1, q1 v1 M1 → (v1 = 0 ∨ v1 = 1) ∧ q v1 M1 := by
  rw [nI_48 hb]
  refine ⟨_, c_takesDigit h1 h hV hn (show b - 48 ≤ 9 by omega), fun v1 M1 hq1 => ?_⟩
  obtain ⟨rfl, q2, q3⟩ := hq1
  refine ⟨p01 _, hq _ _ ?_⟩
  by_cases hle : 10 * n + (b - 48) ≤ V
  · rw [if_pos hle]; exact tkP_1 (e.trans (if_pos hle)) q2 q3
  · rw [if_neg hle]; exact tkP_0 (e.trans (if_neg hle)) q3
theorem zs1 {v : Int32} {P : Int32 → Prop} (h : v = 0 ∨ v = 1) (hp : P v) : (¬ v = 0 → P 1) ∧ (v = 0 → P 0) := ⟨fun q => by rcases h with e | e; exact absurd e q; rw [e] at hp; exact hp, fun q => by rw [q] at hp; exact hp⟩
theorem zs2 {v : Int32} {P : Int32 → Prop} (h : v = 0 ∨ v = 1) (hp : P v) : (v = 0 → P 0) ∧ (¬ v = 0 → P 1) := ⟨(zs1 h hp).2, (zs1 h hp).1⟩
theorem zn01 : ((0 : Int32) = 1) = False := eq_false (by decide)
theorem zn02 : ((0 : Int32) = 2) = False := eq_false (by decide)
theorem zn12 : ((1 : Int32) = 2) = False := eq_false (by decide)
theorem zn20 : ((2 : Int32) = 0) = False := eq_false (by decide)
theorem zn21 : ((2 : Int32) = 1) = False := eq_false (by decide)
theorem zn30 : ((3 : Int32) = 0) = False := eq_false (by decide)
theorem zn31 : ((3 : Int32) = 1) = False := eq_false (by decide)
theorem zn32 : ((3 : Int32) = 2) = False := eq_false (by decide)
theorem c_firstDigit (h1 : is1 g kr) (h : ar_ M kr V (0, n, sn, lit, op, cs)) (hV : V ≤ 10) (hn : n ≤ 10) (hc : cs.length < 81) {b : Nat} (hb : 48 ≤ b) (hb2 : b ≤ 57) : kX1_takesFirstDigit kr (nI b - 48) g M (fun v M' => (v = 0 ∨ v = 1) ∧ takP V (0, n, sn, lit, op, cs) b kr M v M') := by
  have hbk : bk b = false := by unfold bk; rw [decide_eq_false (by omega), decide_eq_false (by omega)]; rfl
  have hdg : dg b = true := by unfold dg; rw [decide_eq_true hb, decide_eq_true hb2]; rfl
  have tk0 : tk V (0, n, sn, lit, op, cs) b = (if b = 48 then some (2, n, sn, 0, false, adC cs lit) else tkD V (0, n, sn, lit, op, cs) (b - 48)) := by
    show (if bk b = true then _ else if dg b = true then _ else _) = _
    rw [if_neg (by rw [hbk]; decide), if_pos hdg]
  refine eX1_takesFirstDigit h1 ⟨fun hz => ?_, fun hz => ⟨_, c_endsClause h1 h hc, fun v M1 hq => ?_⟩⟩
  · have hne : b ≠ 48 := fun e => hz (by rw [e]; decide)
    obtain ⟨q1, a1, a2⟩ := tk_D h1 h hV hn hb hb2 (tk0.trans (if_neg hne)) (q := takP V (0, n, sn, lit, op, cs) b kr M) (fun _ _ h => h)
    exact ⟨q1, a1, fun v M1 hq => ⟨(a2 v M1 hq).1, a2 v M1 hq⟩⟩
  · obtain ⟨rfl, q2, q3⟩ := hq
    have he : b = 48 := by
      rw [nI_48 hb] at hz
      have := (nI_eq (a := b - 48) (b := 0) (by omega) (by decide)).mp hz
      omega
    exact ⟨Or.inr rfl, Or.inr rfl, tkP_1 (tk0.trans (if_pos he)) q2 q3⟩
theorem c_takes (h1 : is1 g kr) (h : ar_ M kr V (pl, n, sn, lit, op, cs)) {p : Nat} (hW : WC V p pl n sn lit cs) (hV : V ≤ 10) (hp : p < 160) {b : Nat} (hb : b < 128) : kX1_takes kr (nI b) g M (takP V (pl, n, sn, lit, op, cs) b kr M) := by
  have a2 : M.1 kr 2 = nI pl := h.2.1
  have e32 : (nI b = 32) = (b = 32) := propext (nI_eq (b := 32) (by omega) (by decide))
  have e10 : (nI b = 10) = (b = 10) := propext (nI_eq (b := 10) (by omega) (by decide))
  have e45 : (nI b = 45) = (b = 45) := propext (nI_eq (b := 45) (by omega) (by decide))
  have e48 : (nI b = 48) = (b = 48) := propext (nI_eq (b := 48) (by omega) (by decide))
  have l48 : (nI b < 48) = (b < 48) := propext (nI_ltI (b := 48) (by omega) (by decide))
  have l57 : ((57 : Int32) < nI b) = (57 < b) := propext (nI_ltI (a := 57) (by decide) (by omega))
  obtain ⟨w1, w3, w4, w5, w6, w7, w8, w9, w10, w11⟩ := hW
  have hn10 : n ≤ 10 := by omega
  have c4 : pl = 0 ∨ pl = 1 ∨ pl = 2 ∨ pl = 3 := by omega
  have cls : b = 32 ∨ b = 10 ∨ (48 ≤ b ∧ b ≤ 57 ∧ b = 48) ∨ (48 ≤ b ∧ b ≤ 57 ∧ b ≠ 48) ∨ b = 45 ∨ (b < 48 ∧ b ≠ 32 ∧ b ≠ 10 ∧ b ≠ 45) ∨ 57 < b := by omega
  refine eX1_takes h1 ?_
  rw [a2]
  simp only [e32, e10, e45, e48, l48, l57]
  rcases c4 with rfl | rfl | rfl | rfl
  · have tk0 : tk V (0, n, sn, lit, op, cs) b = (if bk b = true then some (0, n, sn, lit, op, cs) else if dg b = true then (if b = 48 then some (2, n, sn, 0, false, adC cs lit) else tkD V (0, n, sn, lit, op, cs) (b - 48)) else if b = 45 then some (1, n, 1, lit, true, cs) else none) := rfl
    have w9 := w9 (by decide)
    simp only [show nI 0 = (0 : Int32) from rfl, false_implies, true_implies, implies_true, not_true_eq_false, not_false_eq_true, true_and, and_true, eq_self, o10, zn01, zn02, zn12, zn20, zn21, zn30, zn31, zn32, and_self, forall_const]
    rcases cls with hc | hc | hc | hc | hc | hc | hc
    · have hbk : bk b = true := by unfold bk; rw [decide_eq_true (by omega), decide_eq_false (by omega)]; rfl
      have hdg : dg b = false := by unfold dg; rw [decide_eq_false (by omega), Bool.false_and]
      have fa : (b = 32) = True := eq_true (by omega)
      have fb : (b = 10) = False := eq_false (by omega)
      have fc : (b < 48) = True := eq_true (by omega)
      have fd : (57 < b) = False := eq_false (by omega)
      have fe : (b = 45) = False := eq_false (by omega)
      have ff : (b = 48) = False := eq_false (by omega)
      simp only [fa, fb, fc, fd, fe, ff, false_implies, true_implies, implies_true, not_true_eq_false, not_false_eq_true, true_and, and_true, eq_self, o10, zn01, zn02, zn12, zn20, zn21, zn30, zn31, zn32, and_self, forall_const]
      exact tkP_1 (tk0.trans (if_pos hbk)) h fr_.rf
    · have hbk : bk b = true := by unfold bk; rw [decide_eq_false (by omega), decide_eq_true (by omega)]; rfl
      have hdg : dg b = false := by unfold dg; rw [decide_eq_false (by omega), Bool.false_and]
      have fa : (b = 32) = False := eq_false (by omega)
      have fb : (b = 10) = True := eq_true (by omega)
      have fc : (b < 48) = True := eq_true (by omega)
      have fd : (57 < b) = False := eq_false (by omega)
      have fe : (b = 45) = False := eq_false (by omega)
      have ff : (b = 48) = False := eq_false (by omega)
      simp only [fa, fb, fc, fd, fe, ff, false_implies, true_implies, implies_true, not_true_eq_false, not_false_eq_true, true_and, and_true, eq_self, o10, zn01, zn02, zn12, zn20, zn21, zn30, zn31, zn32, and_self, forall_const]
      exact tkP_1 (tk0.trans (if_pos hbk)) h fr_.rf
    · have hbk : bk b = false := by unfold bk; rw [decide_eq_false (by omega), decide_eq_false (by omega)]; rfl
      have hdg : dg b = true := by unfold dg; rw [decide_eq_true (by omega), decide_eq_true (by omega)]; rfl
      have fa : (b = 32) = False := eq_false (by omega)
      have fb : (b = 10) = False := eq_false (by omega)
      have fc : (b < 48) = False := eq_false (by omega)
      have fd : (57 < b) = False := eq_false (by omega)
      have fe : (b = 45) = False := eq_false (by omega)
      have ff : (b = 48) = True := eq_true (by omega)
      simp only [fa, fb, fc, fd, fe, ff, false_implies, true_implies, implies_true, not_true_eq_false, not_false_eq_true, true_and, and_true, eq_self, o10, zn01, zn02, zn12, zn20, zn21, zn30, zn31, zn32, and_self, forall_const]
      exact ⟨_, c_firstDigit h1 h hV hn10 (by omega) (show 48 ≤ b by omega) (by omega), fun v M2 hq => zs1 (P := fun v => takP V (0, n, sn, lit, op, cs) b kr M v M2) hq.1 hq.2⟩
    · have hbk : bk b = false := by unfold bk; rw [decide_eq_false (by omega), decide_eq_false (by omega)]; rfl
      have hdg : dg b = true := by unfold dg; rw [decide_eq_true (by omega), decide_eq_true (by omega)]; rfl
      have fa : (b = 32) = False := eq_false (by omega)
      have fb : (b = 10) = False := eq_false (by omega)
      have fc : (b < 48) = False := eq_false (by omega)
      have fd : (57 < b) = False := eq_false (by omega)
      have fe : (b = 45) = False := eq_false (by omega)
      have ff : (b = 48) = False := eq_false (by omega)
      simp only [fa, fb, fc, fd, fe, ff, false_implies, true_implies, implies_true, not_true_eq_false, not_false_eq_true, true_and, and_true, eq_self, o10, zn01, zn02, zn12, zn20, zn21, zn30, zn31, zn32, and_self, forall_const]
      exact ⟨_, c_firstDigit h1 h hV hn10 (by omega) (show 48 ≤ b by omega) (by omega), fun v M2 hq => zs1 (P := fun v => takP V (0, n, sn, lit, op, cs) b kr M v M2) hq.1 hq.2⟩
    · have hbk : bk b = false := by unfold bk; rw [decide_eq_false (by omega), decide_eq_false (by omega)]; rfl
      have hdg : dg b = false := by unfold dg; rw [decide_eq_false (by omega), Bool.false_and]
      have fa : (b = 32) = False := eq_false (by omega)
      have fb : (b = 10) = False := eq_false (by omega)
      have fc : (b < 48) = True := eq_true (by omega)
      have fd : (57 < b) = False := eq_false (by omega)
      have fe : (b = 45) = True := eq_true (by omega)
      have ff : (b = 48) = False := eq_false (by omega)
      simp only [fa, fb, fc, fd, fe, ff, false_implies, true_implies, implies_true, not_true_eq_false, not_false_eq_true, true_and, and_true, eq_self, o10, zn01, zn02, zn12, zn20, zn21, zn30, zn31, zn32, and_self, forall_const]
      refine ⟨_, c_takesMinus h1 h, fun v M1 hq => ?_⟩
      obtain ⟨rfl, q2, q3⟩ := hq
      exact zs2 (P := fun v => takP V (0, n, sn, lit, op, cs) b kr M v M1) (Or.inr rfl) (tkP_1 (by rw [tk0, if_neg (by rw [hbk]; decide), if_neg (by rw [hdg]; decide), if_pos hc]) q2 q3)
    · have hbk : bk b = false := by unfold bk; rw [decide_eq_false (by omega), decide_eq_false (by omega)]; rfl
      have hdg : dg b = false := by unfold dg; rw [decide_eq_false (by omega), Bool.false_and]
      have fa : (b = 32) = False := eq_false (by omega)
      have fb : (b = 10) = False := eq_false (by omega)
      have fc : (b < 48) = True := eq_true (by omega)
      have fd : (57 < b) = False := eq_false (by omega)
      have fe : (b = 45) = False := eq_false (by omega)
      have ff : (b = 48) = False := eq_false (by omega)
      simp only [fa, fb, fc, fd, fe, ff, false_implies, true_implies, implies_true, not_true_eq_false, not_false_eq_true, true_and, and_true, eq_self, o10, zn01, zn02, zn12, zn20, zn21, zn30, zn31, zn32, and_self, forall_const]
      exact tkP_0 (by rw [tk0, if_neg (by rw [hbk]; decide), if_neg (by rw [hdg]; decide), if_neg (by omega)]) fr_.rf
    · have hbk : bk b = false := by unfold bk; rw [decide_eq_false (by omega), decide_eq_false (by omega)]; rfl
      have hdg : dg b = false := by unfold dg; rw [decide_eq_false (p := b ≤ 57) (by omega), Bool.and_false]
      have fa : (b = 32) = False := eq_false (by omega)
      have fb : (b = 10) = False := eq_false (by omega)
      have fc : (b < 48) = False := eq_false (by omega)
      have fd : (57 < b) = True := eq_true (by omega)
      have fe : (b = 45) = False := eq_false (by omega)
      have ff : (b = 48) = False := eq_false (by omega)
      simp only [fa, fb, fc, fd, fe, ff, false_implies, true_implies, implies_true, not_true_eq_false, not_false_eq_true, true_and, and_true, eq_self, o10, zn01, zn02, zn12, zn20, zn21, zn30, zn31, zn32, and_self, forall_const]
      exact tkP_0 (by rw [tk0, if_neg (by rw [hbk]; decide), if_neg (by rw [hdg]; decide), if_neg (by omega)]) fr_.rf
  · have tk0 : tk V (1, n, sn, lit, op, cs) b = (if (dg b && !decide (b = 48)) = true then tkD V (1, n, sn, lit, op, cs) (b - 48) else none) := rfl
    simp only [show nI 1 = (1 : Int32) from rfl, false_implies, true_implies, implies_true, not_true_eq_false, not_false_eq_true, true_and, and_true, eq_self, o10, zn01, zn02, zn12, zn20, zn21, zn30, zn31, zn32, and_self, forall_const]
    rcases cls with hc | hc | hc | hc | hc | hc | hc
    · have hbk : bk b = true := by unfold bk; rw [decide_eq_true (by omega), decide_eq_false (by omega)]; rfl
      have hdg : dg b = false := by unfold dg; rw [decide_eq_false (by omega), Bool.false_and]
      have fa : (b = 32) = True := eq_true (by omega)
      have fb : (b = 10) = False := eq_false (by omega)
      have fc : (b < 48) = True := eq_true (by omega)
      have fd : (57 < b) = False := eq_false (by omega)
      have fe : (b = 45) = False := eq_false (by omega)
      have ff : (b = 48) = False := eq_false (by omega)
      simp only [fa, fb, fc, fd, fe, ff, false_implies, true_implies, implies_true, not_true_eq_false, not_false_eq_true, true_and, and_true, eq_self, o10, zn01, zn02, zn12, zn20, zn21, zn30, zn31, zn32, and_self, forall_const]
      exact tkP_0 (by rw [tk0, if_neg (by rw [hdg, Bool.false_and]; decide)]) fr_.rf
    · have hbk : bk b = true := by unfold bk; rw [decide_eq_false (by omega), decide_eq_true (by omega)]; rfl
      have hdg : dg b = false := by unfold dg; rw [decide_eq_false (by omega), Bool.false_and]
      have fa : (b = 32) = False := eq_false (by omega)
      have fb : (b = 10) = True := eq_true (by omega)
      have fc : (b < 48) = True := eq_true (by omega)
      have fd : (57 < b) = False := eq_false (by omega)
      have fe : (b = 45) = False := eq_false (by omega)
      have ff : (b = 48) = False := eq_false (by omega)
      simp only [fa, fb, fc, fd, fe, ff, false_implies, true_implies, implies_true, not_true_eq_false, not_false_eq_true, true_and, and_true, eq_self, o10, zn01, zn02, zn12, zn20, zn21, zn30, zn31, zn32, and_self, forall_const]
      exact tkP_0 (by rw [tk0, if_neg (by rw [hdg, Bool.false_and]; decide)]) fr_.rf
    · have hbk : bk b = false := by unfold bk; rw [decide_eq_false (by omega), decide_eq_false (by omega)]; rfl
      have hdg : dg b = true := by unfold dg; rw [decide_eq_true (by omega), decide_eq_true (by omega)]; rfl
      have fa : (b = 32) = False := eq_false (by omega)
      have fb : (b = 10) = False := eq_false (by omega)
      have fc : (b < 48) = False := eq_false (by omega)
      have fd : (57 < b) = False := eq_false (by omega)
      have fe : (b = 45) = False := eq_false (by omega)
      have ff : (b = 48) = True := eq_true (by omega)
      simp only [fa, fb, fc, fd, fe, ff, false_implies, true_implies, implies_true, not_true_eq_false, not_false_eq_true, true_and, and_true, eq_self, o10, zn01, zn02, zn12, zn20, zn21, zn30, zn31, zn32, and_self, forall_const]
      exact tkP_0 (by rw [tk0, if_neg (by rw [hdg, decide_eq_true (show b = 48 by omega)]; decide)]) fr_.rf
    · have hbk : bk b = false := by unfold bk; rw [decide_eq_false (by omega), decide_eq_false (by omega)]; rfl
      have hdg : dg b = true := by unfold dg; rw [decide_eq_true (by omega), decide_eq_true (by omega)]; rfl
      have fa : (b = 32) = False := eq_false (by omega)
      have fb : (b = 10) = False := eq_false (by omega)
      have fc : (b < 48) = False := eq_false (by omega)
      have fd : (57 < b) = False := eq_false (by omega)
      have fe : (b = 45) = False := eq_false (by omega)
      have ff : (b = 48) = False := eq_false (by omega)
      simp only [fa, fb, fc, fd, fe, ff, false_implies, true_implies, implies_true, not_true_eq_false, not_false_eq_true, true_and, and_true, eq_self, o10, zn01, zn02, zn12, zn20, zn21, zn30, zn31, zn32, and_self, forall_const]
      obtain ⟨q1, z1, z2⟩ := tk_D h1 h hV hn10 (show 48 ≤ b by omega) (by omega) (by rw [tk0, if_pos (by rw [hdg, decide_eq_false (by omega)]; rfl)]) (q := takP V (1, n, sn, lit, op, cs) b kr M) (fun _ _ h => h)
      exact ⟨q1, z1, fun v M1 hq => zs2 (P := fun v => takP V (1, n, sn, lit, op, cs) b kr M v M1) (z2 v M1 hq).1 (z2 v M1 hq).2⟩
    · have hbk : bk b = false := by unfold bk; rw [decide_eq_false (by omega), decide_eq_false (by omega)]; rfl
      have hdg : dg b = false := by unfold dg; rw [decide_eq_false (by omega), Bool.false_and]
      have fa : (b = 32) = False := eq_false (by omega)
      have fb : (b = 10) = False := eq_false (by omega)
      have fc : (b < 48) = True := eq_true (by omega)
      have fd : (57 < b) = False := eq_false (by omega)
      have fe : (b = 45) = True := eq_true (by omega)
      have ff : (b = 48) = False := eq_false (by omega)
      simp only [fa, fb, fc, fd, fe, ff, false_implies, true_implies, implies_true, not_true_eq_false, not_false_eq_true, true_and, and_true, eq_self, o10, zn01, zn02, zn12, zn20, zn21, zn30, zn31, zn32, and_self, forall_const]
      exact tkP_0 (by rw [tk0, if_neg (by rw [hdg, Bool.false_and]; decide)]) fr_.rf
    · have hbk : bk b = false := by unfold bk; rw [decide_eq_false (by omega), decide_eq_false (by omega)]; rfl
      have hdg : dg b = false := by unfold dg; rw [decide_eq_false (by omega), Bool.false_and]
      have fa : (b = 32) = False := eq_false (by omega)
      have fb : (b = 10) = False := eq_false (by omega)
      have fc : (b < 48) = True := eq_true (by omega)
      have fd : (57 < b) = False := eq_false (by omega)
      have fe : (b = 45) = False := eq_false (by omega)
      have ff : (b = 48) = False := eq_false (by omega)
      simp only [fa, fb, fc, fd, fe, ff, false_implies, true_implies, implies_true, not_true_eq_false, not_false_eq_true, true_and, and_true, eq_self, o10, zn01, zn02, zn12, zn20, zn21, zn30, zn31, zn32, and_self, forall_const]
      exact tkP_0 (by rw [tk0, if_neg (by rw [hdg, Bool.false_and]; decide)]) fr_.rf
    · have hbk : bk b = false := by unfold bk; rw [decide_eq_false (by omega), decide_eq_false (by omega)]; rfl
      have hdg : dg b = false := by unfold dg; rw [decide_eq_false (p := b ≤ 57) (by omega), Bool.and_false]
      have fa : (b = 32) = False := eq_false (by omega)
      have fb : (b = 10) = False := eq_false (by omega)
      have fc : (b < 48) = False := eq_false (by omega)
      have fd : (57 < b) = True := eq_true (by omega)
      have fe : (b = 45) = False := eq_false (by omega)
      have ff : (b = 48) = False := eq_false (by omega)
      simp only [fa, fb, fc, fd, fe, ff, false_implies, true_implies, implies_true, not_true_eq_false, not_false_eq_true, true_and, and_true, eq_self, o10, zn01, zn02, zn12, zn20, zn21, zn30, zn31, zn32, and_self, forall_const]
      exact tkP_0 (by rw [tk0, if_neg (by rw [hdg, Bool.false_and]; decide)]) fr_.rf
  · have tk0 : tk V (2, n, sn, lit, op, cs) b = (if bk b = true then some (0, n, sn, lit, op, cs) else none) := rfl
    simp only [show nI 2 = (2 : Int32) from rfl, false_implies, true_implies, implies_true, not_true_eq_false, not_false_eq_true, true_and, and_true, eq_self, o10, zn01, zn02, zn12, zn20, zn21, zn30, zn31, zn32, and_self, forall_const]
    rcases cls with hc | hc | hc | hc | hc | hc | hc
    · have hbk : bk b = true := by unfold bk; rw [decide_eq_true (by omega), decide_eq_false (by omega)]; rfl
      have hdg : dg b = false := by unfold dg; rw [decide_eq_false (by omega), Bool.false_and]
      have fa : (b = 32) = True := eq_true (by omega)
      have fb : (b = 10) = False := eq_false (by omega)
      have fc : (b < 48) = True := eq_true (by omega)
      have fd : (57 < b) = False := eq_false (by omega)
      have fe : (b = 45) = False := eq_false (by omega)
      have ff : (b = 48) = False := eq_false (by omega)
      simp only [fa, fb, fc, fd, fe, ff, false_implies, true_implies, implies_true, not_true_eq_false, not_false_eq_true, true_and, and_true, eq_self, o10, zn01, zn02, zn12, zn20, zn21, zn30, zn31, zn32, and_self, forall_const]
      have f : fr_ kr (kr + 1) M (mj_wI M kr 2 0) := fr_.wI (by omega) (by omega)
      refine tkP_1 (tk0.trans (if_pos hbk)) ?_ (f.wd (by omega) (by omega))
      obtain ⟨a1, _, a3, a4, a5, a6, a7⟩ := h
      exact ⟨by rw [wI_k (by omega)]; exact a1, wI_s, by rw [wI_k (by omega)]; exact a3, by rw [wI_k (by omega)]; exact a4, by rw [wI_k (by omega)]; exact a5, by rw [wI_k (by omega)]; exact a6, a7.fr f (by omega)⟩
    · have hbk : bk b = true := by unfold bk; rw [decide_eq_false (by omega), decide_eq_true (by omega)]; rfl
      have hdg : dg b = false := by unfold dg; rw [decide_eq_false (by omega), Bool.false_and]
      have fa : (b = 32) = False := eq_false (by omega)
      have fb : (b = 10) = True := eq_true (by omega)
      have fc : (b < 48) = True := eq_true (by omega)
      have fd : (57 < b) = False := eq_false (by omega)
      have fe : (b = 45) = False := eq_false (by omega)
      have ff : (b = 48) = False := eq_false (by omega)
      simp only [fa, fb, fc, fd, fe, ff, false_implies, true_implies, implies_true, not_true_eq_false, not_false_eq_true, true_and, and_true, eq_self, o10, zn01, zn02, zn12, zn20, zn21, zn30, zn31, zn32, and_self, forall_const]
      have f : fr_ kr (kr + 1) M (mj_wI M kr 2 0) := fr_.wI (by omega) (by omega)
      refine tkP_1 (tk0.trans (if_pos hbk)) ?_ (f.wd (by omega) (by omega))
      obtain ⟨a1, _, a3, a4, a5, a6, a7⟩ := h
      exact ⟨by rw [wI_k (by omega)]; exact a1, wI_s, by rw [wI_k (by omega)]; exact a3, by rw [wI_k (by omega)]; exact a4, by rw [wI_k (by omega)]; exact a5, by rw [wI_k (by omega)]; exact a6, a7.fr f (by omega)⟩
    · have hbk : bk b = false := by unfold bk; rw [decide_eq_false (by omega), decide_eq_false (by omega)]; rfl
      have hdg : dg b = true := by unfold dg; rw [decide_eq_true (by omega), decide_eq_true (by omega)]; rfl
      have fa : (b = 32) = False := eq_false (by omega)
      have fb : (b = 10) = False := eq_false (by omega)
      have fc : (b < 48) = False := eq_false (by omega)
      have fd : (57 < b) = False := eq_false (by omega)
      have fe : (b = 45) = False := eq_false (by omega)
      have ff : (b = 48) = True := eq_true (by omega)
      simp only [fa, fb, fc, fd, fe, ff, false_implies, true_implies, implies_true, not_true_eq_false, not_false_eq_true, true_and, and_true, eq_self, o10, zn01, zn02, zn12, zn20, zn21, zn30, zn31, zn32, and_self, forall_const]
      exact tkP_0 (tk0.trans (if_neg (by rw [hbk]; decide))) (fr_.wI (by omega) (by omega))
    · have hbk : bk b = false := by unfold bk; rw [decide_eq_false (by omega), decide_eq_false (by omega)]; rfl
      have hdg : dg b = true := by unfold dg; rw [decide_eq_true (by omega), decide_eq_true (by omega)]; rfl
      have fa : (b = 32) = False := eq_false (by omega)
      have fb : (b = 10) = False := eq_false (by omega)
      have fc : (b < 48) = False := eq_false (by omega)
      have fd : (57 < b) = False := eq_false (by omega)
      have fe : (b = 45) = False := eq_false (by omega)
      have ff : (b = 48) = False := eq_false (by omega)
      simp only [fa, fb, fc, fd, fe, ff, false_implies, true_implies, implies_true, not_true_eq_false, not_false_eq_true, true_and, and_true, eq_self, o10, zn01, zn02, zn12, zn20, zn21, zn30, zn31, zn32, and_self, forall_const]
      exact tkP_0 (tk0.trans (if_neg (by rw [hbk]; decide))) (fr_.wI (by omega) (by omega))
    · have hbk : bk b = false := by unfold bk; rw [decide_eq_false (by omega), decide_eq_false (by omega)]; rfl
      have hdg : dg b = false := by unfold dg; rw [decide_eq_false (by omega), Bool.false_and]
      have fa : (b = 32) = False := eq_false (by omega)
      have fb : (b = 10) = False := eq_false (by omega)
      have fc : (b < 48) = True := eq_true (by omega)
      have fd : (57 < b) = False := eq_false (by omega)
      have fe : (b = 45) = True := eq_true (by omega)
      have ff : (b = 48) = False := eq_false (by omega)
      simp only [fa, fb, fc, fd, fe, ff, false_implies, true_implies, implies_true, not_true_eq_false, not_false_eq_true, true_and, and_true, eq_self, o10, zn01, zn02, zn12, zn20, zn21, zn30, zn31, zn32, and_self, forall_const]
      exact tkP_0 (tk0.trans (if_neg (by rw [hbk]; decide))) (fr_.wI (by omega) (by omega))
    · have hbk : bk b = false := by unfold bk; rw [decide_eq_false (by omega), decide_eq_false (by omega)]; rfl
      have hdg : dg b = false := by unfold dg; rw [decide_eq_false (by omega), Bool.false_and]
      have fa : (b = 32) = False := eq_false (by omega)
      have fb : (b = 10) = False := eq_false (by omega)
      have fc : (b < 48) = True := eq_true (by omega)
      have fd : (57 < b) = False := eq_false (by omega)
      have fe : (b = 45) = False := eq_false (by omega)
      have ff : (b = 48) = False := eq_false (by omega)
      simp only [fa, fb, fc, fd, fe, ff, false_implies, true_implies, implies_true, not_true_eq_false, not_false_eq_true, true_and, and_true, eq_self, o10, zn01, zn02, zn12, zn20, zn21, zn30, zn31, zn32, and_self, forall_const]
      exact tkP_0 (tk0.trans (if_neg (by rw [hbk]; decide))) (fr_.wI (by omega) (by omega))
    · have hbk : bk b = false := by unfold bk; rw [decide_eq_false (by omega), decide_eq_false (by omega)]; rfl
      have hdg : dg b = false := by unfold dg; rw [decide_eq_false (p := b ≤ 57) (by omega), Bool.and_false]
      have fa : (b = 32) = False := eq_false (by omega)
      have fb : (b = 10) = False := eq_false (by omega)
      have fc : (b < 48) = False := eq_false (by omega)
      have fd : (57 < b) = True := eq_true (by omega)
      have fe : (b = 45) = False := eq_false (by omega)
      have ff : (b = 48) = False := eq_false (by omega)
      simp only [fa, fb, fc, fd, fe, ff, false_implies, true_implies, implies_true, not_true_eq_false, not_false_eq_true, true_and, and_true, eq_self, o10, zn01, zn02, zn12, zn20, zn21, zn30, zn31, zn32, and_self, forall_const]
      exact tkP_0 (tk0.trans (if_neg (by rw [hbk]; decide))) (fr_.wI (by omega) (by omega))
  · have tk0 : tk V (3, n, sn, lit, op, cs) b = (if bk b = true then some (0, 0, 0, lit ||| bi (2 * (n - 1) + sn), op, cs) else if dg b = true then tkD V (3, n, sn, lit, op, cs) (b - 48) else none) := rfl
    simp only [show nI 3 = (3 : Int32) from rfl, false_implies, true_implies, implies_true, not_true_eq_false, not_false_eq_true, true_and, and_true, eq_self, o10, zn01, zn02, zn12, zn20, zn21, zn30, zn31, zn32, and_self, forall_const]
    rcases cls with hc | hc | hc | hc | hc | hc | hc
    · have hbk : bk b = true := by unfold bk; rw [decide_eq_true (by omega), decide_eq_false (by omega)]; rfl
      have hdg : dg b = false := by unfold dg; rw [decide_eq_false (by omega), Bool.false_and]
      have fa : (b = 32) = True := eq_true (by omega)
      have fb : (b = 10) = False := eq_false (by omega)
      have fc : (b < 48) = True := eq_true (by omega)
      have fd : (57 < b) = False := eq_false (by omega)
      have fe : (b = 45) = False := eq_false (by omega)
      have ff : (b = 48) = False := eq_false (by omega)
      simp only [fa, fb, fc, fd, fe, ff, false_implies, true_implies, implies_true, not_true_eq_false, not_false_eq_true, true_and, and_true, eq_self, o10, zn01, zn02, zn12, zn20, zn21, zn30, zn31, zn32, and_self, forall_const]
      refine ⟨_, c_endsLiteral h1 h (w6 rfl), fun v M1 hq => ?_⟩
      obtain ⟨rfl, q2, q3⟩ := hq
      exact ⟨Or.inr rfl, tkP_1 (tk0.trans (if_pos hbk)) q2 q3⟩
    · have hbk : bk b = true := by unfold bk; rw [decide_eq_false (by omega), decide_eq_true (by omega)]; rfl
      have hdg : dg b = false := by unfold dg; rw [decide_eq_false (by omega), Bool.false_and]
      have fa : (b = 32) = False := eq_false (by omega)
      have fb : (b = 10) = True := eq_true (by omega)
      have fc : (b < 48) = True := eq_true (by omega)
      have fd : (57 < b) = False := eq_false (by omega)
      have fe : (b = 45) = False := eq_false (by omega)
      have ff : (b = 48) = False := eq_false (by omega)
      simp only [fa, fb, fc, fd, fe, ff, false_implies, true_implies, implies_true, not_true_eq_false, not_false_eq_true, true_and, and_true, eq_self, o10, zn01, zn02, zn12, zn20, zn21, zn30, zn31, zn32, and_self, forall_const]
      refine ⟨_, c_endsLiteral h1 h (w6 rfl), fun v M1 hq => ?_⟩
      obtain ⟨rfl, q2, q3⟩ := hq
      exact ⟨Or.inr rfl, tkP_1 (tk0.trans (if_pos hbk)) q2 q3⟩
    · have hbk : bk b = false := by unfold bk; rw [decide_eq_false (by omega), decide_eq_false (by omega)]; rfl
      have hdg : dg b = true := by unfold dg; rw [decide_eq_true (by omega), decide_eq_true (by omega)]; rfl
      have fa : (b = 32) = False := eq_false (by omega)
      have fb : (b = 10) = False := eq_false (by omega)
      have fc : (b < 48) = False := eq_false (by omega)
      have fd : (57 < b) = False := eq_false (by omega)
      have fe : (b = 45) = False := eq_false (by omega)
      have ff : (b = 48) = True := eq_true (by omega)
      simp only [fa, fb, fc, fd, fe, ff, false_implies, true_implies, implies_true, not_true_eq_false, not_false_eq_true, true_and, and_true, eq_self, o10, zn01, zn02, zn12, zn20, zn21, zn30, zn31, zn32, and_self, forall_const]
      obtain ⟨q1, z1, z2⟩ := tk_D h1 h hV hn10 (show 48 ≤ b by omega) (by omega) (by rw [tk0, if_neg (by rw [hbk]; decide), if_pos hdg]) (q := takP V (3, n, sn, lit, op, cs) b kr M) (fun _ _ h => h)
      exact ⟨q1, z1, fun v M1 hq => zs2 (P := fun v => takP V (3, n, sn, lit, op, cs) b kr M v M1) (z2 v M1 hq).1 (z2 v M1 hq).2⟩
    · have hbk : bk b = false := by unfold bk; rw [decide_eq_false (by omega), decide_eq_false (by omega)]; rfl
      have hdg : dg b = true := by unfold dg; rw [decide_eq_true (by omega), decide_eq_true (by omega)]; rfl
      have fa : (b = 32) = False := eq_false (by omega)
      have fb : (b = 10) = False := eq_false (by omega)
      have fc : (b < 48) = False := eq_false (by omega)
      have fd : (57 < b) = False := eq_false (by omega)
      have fe : (b = 45) = False := eq_false (by omega)
      have ff : (b = 48) = False := eq_false (by omega)
      simp only [fa, fb, fc, fd, fe, ff, false_implies, true_implies, implies_true, not_true_eq_false, not_false_eq_true, true_and, and_true, eq_self, o10, zn01, zn02, zn12, zn20, zn21, zn30, zn31, zn32, and_self, forall_const]
      obtain ⟨q1, z1, z2⟩ := tk_D h1 h hV hn10 (show 48 ≤ b by omega) (by omega) (by rw [tk0, if_neg (by rw [hbk]; decide), if_pos hdg]) (q := takP V (3, n, sn, lit, op, cs) b kr M) (fun _ _ h => h)
      exact ⟨q1, z1, fun v M1 hq => zs2 (P := fun v => takP V (3, n, sn, lit, op, cs) b kr M v M1) (z2 v M1 hq).1 (z2 v M1 hq).2⟩
    · have hbk : bk b = false := by unfold bk; rw [decide_eq_false (by omega), decide_eq_false (by omega)]; rfl
      have hdg : dg b = false := by unfold dg; rw [decide_eq_false (by omega), Bool.false_and]
      have fa : (b = 32) = False := eq_false (by omega)
      have fb : (b = 10) = False := eq_false (by omega)
      have fc : (b < 48) = True := eq_true (by omega)
      have fd : (57 < b) = False := eq_false (by omega)
      have fe : (b = 45) = True := eq_true (by omega)
      have ff : (b = 48) = False := eq_false (by omega)
      simp only [fa, fb, fc, fd, fe, ff, false_implies, true_implies, implies_true, not_true_eq_false, not_false_eq_true, true_and, and_true, eq_self, o10, zn01, zn02, zn12, zn20, zn21, zn30, zn31, zn32, and_self, forall_const]
      exact tkP_0 (by rw [tk0, if_neg (by rw [hbk]; decide), if_neg (by rw [hdg]; decide)]) fr_.rf
    · have hbk : bk b = false := by unfold bk; rw [decide_eq_false (by omega), decide_eq_false (by omega)]; rfl
      have hdg : dg b = false := by unfold dg; rw [decide_eq_false (by omega), Bool.false_and]
      have fa : (b = 32) = False := eq_false (by omega)
      have fb : (b = 10) = False := eq_false (by omega)
      have fc : (b < 48) = True := eq_true (by omega)
      have fd : (57 < b) = False := eq_false (by omega)
      have fe : (b = 45) = False := eq_false (by omega)
      have ff : (b = 48) = False := eq_false (by omega)
      simp only [fa, fb, fc, fd, fe, ff, false_implies, true_implies, implies_true, not_true_eq_false, not_false_eq_true, true_and, and_true, eq_self, o10, zn01, zn02, zn12, zn20, zn21, zn30, zn31, zn32, and_self, forall_const]
      exact tkP_0 (by rw [tk0, if_neg (by rw [hbk]; decide), if_neg (by rw [hdg]; decide)]) fr_.rf
    · have hbk : bk b = false := by unfold bk; rw [decide_eq_false (by omega), decide_eq_false (by omega)]; rfl
      have hdg : dg b = false := by unfold dg; rw [decide_eq_false (p := b ≤ 57) (by omega), Bool.and_false]
      have fa : (b = 32) = False := eq_false (by omega)
      have fb : (b = 10) = False := eq_false (by omega)
      have fc : (b < 48) = False := eq_false (by omega)
      have fd : (57 < b) = True := eq_true (by omega)
      have fe : (b = 45) = False := eq_false (by omega)
      have ff : (b = 48) = False := eq_false (by omega)
      simp only [fa, fb, fc, fd, fe, ff, false_implies, true_implies, implies_true, not_true_eq_false, not_false_eq_true, true_and, and_true, eq_self, o10, zn01, zn02, zn12, zn20, zn21, zn30, zn31, zn32, and_self, forall_const]
      exact tkP_0 (by rw [tk0, if_neg (by rw [hbk]; decide), if_neg (by rw [hdg]; decide)]) fr_.rf
end REA
