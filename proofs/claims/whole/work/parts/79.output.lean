/-! THE LIST AS A TEXT -/
def oL (l : Nat) : List Nat := (if l % 2 = 1 then [45] else []) ++ ((if l / 2 = 9 then [49] else []) ++ [48 + (l / 2 + 1) % 10, 32])
def ocA (x : Int32) : Nat → Nat → List Nat
  | 0, _ => [48, 10]
  | m + 1, l => if bt x l = true then oL l ++ ocA x m (l + 1) else ocA x m (l + 1)
theorem ocA_t {x : Int32} {m l : Nat} (h : bt x l = true) : ocA x (m + 1) l = oL l ++ ocA x m (l + 1) := if_pos h
theorem ocA_f {x : Int32} {m l : Nat} (h : bt x l = false) : ocA x (m + 1) l = ocA x m (l + 1) := if_neg (by rw [h]; decide)
def oC (x : Int32) : List Nat := ocA x 20 0
theorem oL_len : ∀ l, l < 20 → (oL l).length ≤ 4 ∧ 2 ≤ (oL l).length := by decide +kernel
theorem ocA_len {x : Int32} : ∀ m l, l + m ≤ 20 → (ocA x m l).length ≤ 4 * m + 2 ∧ 2 ≤ (ocA x m l).length
  | 0, _, _ => ⟨Nat.le_refl _, Nat.le_refl _⟩
  | m + 1, l, h => by
    have ih := ocA_len (x := x) m (l + 1) (by omega)
    have hl := oL_len l (by omega)
    cases e : bt x l with
    | true => rw [ocA_t e, List.length_append]; omega
    | false => rw [ocA_f e]; omega
def oT : List Int32 → List Nat
  | [] => []
  | x :: L => oC x ++ oT L
def oA (B : List Nat) (n : Nat) : Int32 := match B[n]? with
  | none => -1
  | some b => nI b
theorem oA_lt {B C : List Nat} {n : Nat} (h : n < B.length) : oA (B ++ C) n = nI (B.getD n 0) := by
  unfold oA
  rw [List.getElem?_append_left h, List.getD_eq_getElem?_getD, List.getElem?_eq_getElem h]; rfl
theorem oA_ge {B C : List Nat} {n : Nat} (h : B.length ≤ n) : oA (B ++ C) n = oA C (n - B.length) := by
  unfold oA
  rw [List.getElem?_append_right h]
def llF (x0 : Int32) : Int32 := if ((x0 >>> ((1 : Int32) &&& 31)) + 1) < 10 then ((x0 &&& 1) + 1) + 1 else ((x0 &&& 1) + 2) + 1
theorem llF_ok : ∀ l, l < 20 → llF (nI l) = nI (oL l).length := by decide +kernel
def blF2 (x0 x1 : Int32) : Int32 := if 0 ≤ (x1 - (x0 &&& 1)) then (if ((x0 >>> ((1 : Int32) &&& 31)) + 1) < 10 then (if 0 ≤ (x1 - (x0 &&& 1)) then (if (x1 - (x0 &&& 1)) = 0 then 48 + (((x0 >>> ((1 : Int32) &&& 31)) + 1) - ((x0 >>> ((1 : Int32) &&& 31)) + 1) / 10 * 10) else 32) else 48 + (((x0 >>> ((1 : Int32) &&& 31)) + 1) / 10)) else (if 0 ≤ ((x1 - (x0 &&& 1)) - 1) then (if ((x1 - (x0 &&& 1)) - 1) = 0 then 48 + (((x0 >>> ((1 : Int32) &&& 31)) + 1) - ((x0 >>> ((1 : Int32) &&& 31)) + 1) / 10 * 10) else 32) else 48 + (((x0 >>> ((1 : Int32) &&& 31)) + 1) / 10))) else 45
theorem blF2_ok : ∀ l, l < 20 → ∀ i, i < 4 → i < (oL l).length → blF2 (nI l) (nI i) = nI ((oL l).getD i 0) := by decide +kernel
section OUT
variable {g : mj_S} {M : mj_M} {k : Nat} {o : ob}
theorem c_lengthOfLiteral {l : Nat} (hl : l < 20) : kX9_lengthOfLiteral (nI l) g M (fun v M' => M' = M ∧ v = nI (oL l).length) := by
  rw [← llF_ok l hl]
  unfold llF
  exact eX9_lengthOfLiteral ⟨fun h => ⟨rfl, by rw [if_pos h]⟩, fun h => ⟨rfl, by rw [if_neg h]⟩⟩
theorem c_byteOfLiteral {l i : Nat} (hl : l < 20) (hi : i < (oL l).length) : kX9_byteOfLiteral (nI l) (nI i) g M (fun v M' => M' = M ∧ v = nI ((oL l).getD i 0)) := by
  have := oL_len l hl
  rw [← blF2_ok l hl i (by omega) hi]
  generalize nI l = x0
  generalize nI i = x1
  refine eX9_byteOfLiteral ⟨fun h1 => ⟨fun h2 => ⟨fun h3 => ⟨fun h4 => ⟨rfl, ?_⟩, fun h4 => ⟨rfl, ?_⟩⟩, fun h3 => absurd h1 h3⟩, fun h2 => ⟨fun h3 => ⟨fun h4 => ⟨rfl, ?_⟩, fun h4 => ⟨rfl, ?_⟩⟩, fun h3 => ⟨rfl, ?_⟩⟩⟩, fun h1 => ⟨rfl, ?_⟩⟩
  · unfold blF2; rw [if_pos h1, if_pos h2, if_pos h3, if_neg h4]
  · unfold blF2; rw [if_pos h1, if_pos h2, if_pos h3, if_pos h4]
  · unfold blF2; rw [if_pos h1, if_neg h2, if_pos h3, if_neg h4]
  · unfold blF2; rw [if_pos h1, if_neg h2, if_pos h3, if_pos h4]
  · unfold blF2; rw [if_pos h1, if_neg h2, if_neg h3]
  · unfold blF2; rw [if_neg h1]
theorem c_lengthOfClause (x : Int32) : kX9_lengthOfClause x g M (fun v M' => M' = M ∧ v = nI (oC x).length) := by
  have key : ∀ m l a, l + m = 20 → a + (ocA x m l).length = (oC x).length + 2 → LX9_lengthOfClause_4 x (nI a) (nI l) g M (fun v M' => M' = M ∧ v = nI (oC x).length) := by
    intro m
    induction m with
    | zero =>
      intro l a hl ha
      have ha : a + 2 = (oC x).length + 2 := ha
      exact bX9_lengthOfClause_4 ⟨fun _ => ⟨rfl, by rw [show a = (oC x).length by omega]⟩, fun hc => absurd (d20 (by omega)) hc⟩
    | succ m ih =>
      intro l a hl ha
      refine bX9_lengthOfClause_4 ⟨fun hc => absurd hc (c20 (by omega)), fun _ => ⟨_, c_contains _ (show l < 32 by omega), fun v M1 hq => ?_⟩⟩
      obtain ⟨rfl, rfl⟩ := hq
      rw [nI_1]
      refine ⟨fun hb => ih (l + 1) a (by omega) (by rw [ocA_f ((if01 _).1.mp hb)] at ha; exact ha), fun hb => ⟨_, c_lengthOfLiteral (show l < 20 by omega), fun v M2 hq => ?_⟩⟩
      obtain ⟨rfl, rfl⟩ := hq
      rw [nI_add]
      rw [ocA_t ((if01 _).2.mp hb), List.length_append] at ha
      exact ih (l + 1) _ (by omega) (by omega)
  refine eX9_lengthOfClause (key 20 0 2 (by omega) ?_)
  show 2 + (oC x).length = _
  omega
theorem c_byteOfClause (x : Int32) {n : Nat} (hn : n < (oC x).length) : kX9_byteOfClause x (nI n) g M (fun v M' => M' = M ∧ v = nI ((oC x).getD n 0)) := by
  have hlen := ocA_len (x := x) 20 0 (by omega)
  have key : ∀ m l n', l + m = 20 → n' < (ocA x m l).length → (ocA x m l).getD n' 0 = (oC x).getD n 0 → LX9_byteOfClause_4 x (nI n') (nI l) g M (fun v M' => M' = M ∧ v = nI ((oC x).getD n 0)) := by
    intro m
    induction m with
    | zero =>
      intro l n' hl hn' he
      have hn' : n' < 2 := hn'
      refine bX9_byteOfClause_4 ⟨fun _ => ?_, fun hc => absurd (d20 (by omega)) hc⟩
      rw [show (0 : Int32) = nI 0 from rfl, nI_eq (by omega) (by decide)]
      have c2 : n' = 0 ∨ n' = 1 := by omega
      rcases c2 with e | e
      · subst e
        refine ⟨fun hc => absurd rfl hc, fun _ => ⟨rfl, ?_⟩⟩
        rw [← he]; rfl
      · subst e
        refine ⟨fun _ => ⟨rfl, ?_⟩, fun hc => by cases hc⟩
        rw [← he]; rfl
    | succ m ih =>
      intro l n' hl hn' he
      have hl2 := ocA_len (x := x) (m + 1) l (by omega)
      have hn31 : n' < 2 ^ 31 := by omega
      have hll := oL_len l (by omega)
      refine bX9_byteOfClause_4 ⟨fun hc => absurd hc (c20 (by omega)), fun _ => ⟨_, c_contains _ (show l < 32 by omega), fun v M1 hq => ?_⟩⟩
      obtain ⟨rfl, rfl⟩ := hq
      rw [nI_1]
      refine ⟨fun hb => ?_, fun hb => ⟨_, c_lengthOfLiteral (show l < 20 by omega), fun v M2 hq => ?_⟩⟩
      · rw [ocA_f ((if01 _).1.mp hb)] at hn' he
        exact ih (l + 1) n' (by omega) hn' he
      · obtain ⟨rfl, rfl⟩ := hq
        rw [ocA_t ((if01 _).2.mp hb)] at hn' he
        rw [List.length_append] at hn'
        rw [nI_leI (by omega) hn31]
        refine ⟨fun hle => ?_, fun hle => ⟨_, c_byteOfLiteral (show l < 20 by omega) (show n' < (oL l).length by omega), fun v M3 hq => ?_⟩⟩
        · rw [pk_sub hle]
          refine ih (l + 1) _ (by omega) (by omega) ?_
          rw [← he, List.getD_eq_getElem?_getD, List.getD_eq_getElem?_getD, List.getElem?_append_right hle]
        · obtain ⟨rfl, rfl⟩ := hq
          refine ⟨rfl, ?_⟩
          rw [← he, List.getD_eq_getElem?_getD, List.getD_eq_getElem?_getD, List.getElem?_append_left (by omega)]
  exact eX9_byteOfClause (key 20 0 n (by omega) hn rfl)
def A_outputByte (o : ob) (x : Int32) : res := if 0 ≤ x then (0, oA (oT (sL o.1)) x.toNatClampNeg, o) else (1, 0, o)
theorem out_0 {n : Nat} (hn : n < 2 ^ 31) : A_outputByte o (nI n) = (0, oA (oT (sL o.1)) n, o) := by unfold A_outputByte; rw [if_pos (nI_pos' hn), nI_clamp hn]
theorem c_outputByte (h0 : is9s g k) (h : CR M k o) (x : Int32) : kX9_outputByte k x g M (cq (A_outputByte o x) k M) (cx (A_outputByte o x) k M mj_IA mj_IA) := by
  have hL := h.1.2.2.2.1
  have hlt := hL.lt
  refine eX9_outputByte h0.1 ⟨fun hx => ?_, fun hx => cx_1 h (if_neg hx)⟩
  obtain ⟨n, hn, rfl⟩ := nI_of (neg_le.mpr hx)
  have key : ∀ m i n', i + m = (sL o.1).length → n' < 2 ^ 31 → oA (oT ((sL o.1).drop i)) n' = oA (oT (sL o.1)) n → LX9_outputByte_18 k (nI n') (nI i) g M (cq (A_outputByte o (nI n)) k M) (cx (A_outputByte o (nI n)) k M mj_IA mj_IA) := by
    intro m
    induction m with
    | zero =>
      intro i n' hi hn' he
      refine bX9_outputByte_18 h0.1 ⟨_, c_size (S9 h0).2.1.2 hL, fun v M1 hq => ?_⟩
      obtain ⟨rfl, rfl⟩ := hq
      refine ⟨fun _ => cq_o h ?_, fun hc => absurd (nI_le (by omega) (by omega)) hc⟩
      rw [out_0 hn, ← he, show i = (sL o.1).length by omega, List.drop_length]; rfl
    | succ m ih =>
      intro i n' hi hn' he
      have hil : i < (sL o.1).length := by omega
      have hlen := ocA_len (x := (sL o.1).getD i 0) 20 0 (by omega)
      have hlen : (oC ((sL o.1).getD i 0)).length ≤ 82 ∧ 2 ≤ (oC ((sL o.1).getD i 0)).length := hlen
      rw [dp_step hil] at he
      have he : oA (oC ((sL o.1).getD i 0) ++ oT ((sL o.1).drop (i + 1))) n' = oA (oT (sL o.1)) n := he
      refine bX9_outputByte_18 h0.1 ⟨_, c_size (S9 h0).2.1.2 hL, fun v M1 hq => ?_⟩
      obtain ⟨rfl, rfl⟩ := hq
      refine ⟨fun hc => absurd hc (nI_ge hil hlt), fun _ => ⟨_, c_at (S9 h0).2.1.2 hL (i := i) (by omega), fun v M2 hq => ?_⟩⟩
      obtain ⟨rfl, rfl⟩ := hq
      refine ⟨_, c_lengthOfClause _, fun v M3 hq => ?_⟩
      obtain ⟨rfl, rfl⟩ := hq
      rw [nI_leI (by omega) hn', nI_1]
      refine ⟨fun hle => ?_, fun hle => ⟨_, c_byteOfClause _ (show n' < (oC ((sL o.1).getD i 0)).length by omega), fun v M4 hq => ?_⟩⟩
      · rw [pk_sub hle]
        exact ih (i + 1) _ (by omega) (by omega) (by rw [← oA_ge hle]; exact he)
      · obtain ⟨rfl, rfl⟩ := hq
        refine cq_o h ?_
        rw [out_0 hn, ← he, oA_lt (by omega)]
  exact key (sL o.1).length 0 n (Nat.zero_add _) hn (by rw [List.drop_zero])
/-! the reference's way -/
def wr (n : Nat) : Nat → Int32 → List Nat → Int32
  | _, f, [] => f
  | p, f, b :: B => wr n (p + 1) (if p = n then nI b else f) B
theorem wr_app {n : Nat} : ∀ (B : List Nat) (p : Nat) (f : Int32) (C : List Nat), wr n p f (B ++ C) = wr n (p + B.length) (wr n p f B) C
  | [], p, f, C => rfl
  | b :: B, p, f, C => by
    show wr n (p + 1) _ (B ++ C) = wr n (p + (B.length + 1)) _ C
    rw [wr_app B (p + 1) _ C, show p + 1 + B.length = p + (B.length + 1) by omega]; rfl
theorem wr_past {n : Nat} : ∀ (B : List Nat) (p : Nat) (f : Int32), n < p → wr n p f B = f
  | [], _, _, _ => rfl
  | b :: B, p, f, h => by
    show wr n (p + 1) (if p = n then nI b else f) B = f
    rw [if_neg (by omega)]; exact wr_past B (p + 1) f (by omega)
theorem wr_oA {n : Nat} : ∀ (B : List Nat) (p : Nat), p ≤ n → wr n p (-1) B = oA B (n - p)
  | [], p, _ => rfl
  | b :: B, p, h => by
    show wr n (p + 1) (if p = n then nI b else -1) B = oA (b :: B) (n - p)
    by_cases e : p = n
    · rw [if_pos e, wr_past B (p + 1) _ (by omega), e, Nat.sub_self]; rfl
    · rw [if_neg e, wr_oA B (p + 1) (by omega), show n - p = (n - (p + 1)) + 1 by omega]; rfl
def jo (b : Nat) : Prop := b = 13 ∨ b = 14 ∨ b = 15
def ow_ (M : mj_M) (k n p : Nat) (f : Int32) : Prop := M.1 k 13 = nI n ∧ M.1 k 14 = nI p ∧ M.1 k 15 = f
theorem r_writes (h0 : is10 g k) {n p : Nat} {f : Int32} (h : ow_ M k n p f) (hn : n < 2 ^ 31) (hp : p < 2 ^ 31) (b : Nat) : kX10_writes k (nI b) g M (fun M' => ow_ M' k n (p + 1) (if p = n then nI b else f) ∧ nf_ k jo M M') := by
  obtain ⟨a1, a2, a3⟩ := h
  refine eX10_writes h0 ?_
  have fin : ∀ x, nf_ k jo M (mj_wI (mj_wI M k 15 x) k 14 (((mj_wI M k 15 x).1 k 14) + 1)) ∧ ow_ (mj_wI (mj_wI M k 15 x) k 14 (((mj_wI M k 15 x).1 k 14) + 1)) k n (p + 1) x := fun x => by
    refine ⟨(nf_.w (J := jo) (Or.inr (Or.inr rfl)) _).tr (nf_.w (J := jo) (Or.inr (Or.inl rfl)) _), ?_, ?_, ?_⟩
    · rw [wI_k (by omega), wI_k (by omega)]; exact a1
    · rw [wI_s, wI_k (by omega), a2, nI_1]
    · rw [wI_k (by omega), wI_s]
  rw [show (M.1 k 14 = M.1 k 13) = (p = n) by rw [a1, a2]; exact propext (nI_eq hp hn)]
  refine ⟨fun hc => ?_, fun hc => ?_⟩
  · rw [if_neg hc, ← a3]; exact ⟨(fin _).2, (fin _).1⟩
  · rw [if_pos hc]; exact ⟨(fin _).2, (fin _).1⟩
theorem md2 : ∀ l, l < 20 → (nI l - nI l / 2 * 2 = 1 ↔ l % 2 = 1) := by decide +kernel
theorem dv9 : ∀ l, l < 20 → (nI l / 2 = 9 ↔ l / 2 = 9) := by decide +kernel
theorem dgt : ∀ l, l < 20 → (48 : Int32) + ((nI l / 2 + 1) - (nI l / 2 + 1) / 10 * 10) = nI (48 + (l / 2 + 1) % 10) := by decide +kernel
theorem r_writesLiteral (h0 : is10 g k) {n p : Nat} {f : Int32} (h : ow_ M k n p f) (hn : n < 2 ^ 31) (hp : p + 10 < 2 ^ 31) {l : Nat} (hl : l < 20) : kX10_writesLiteral k (nI l) g M (fun M' => ow_ M' k n (p + (oL l).length) (wr n p f (oL l)) ∧ nf_ k jo M M') := by
  refine eX10_writesLiteral h0 ?_
  rw [md2 l hl, dv9 l hl, dgt l hl]
  have tail : ∀ (C : List Nat) (M1 : mj_M) (p1 : Nat) (f1 : Int32), C ++ [48 + (l / 2 + 1) % 10, 32] = oL l → p1 = p + C.length → C.length ≤ 2 → f1 = wr n p f C → ow_ M1 k n p1 f1 → nf_ k jo M M1 → ∃ q1 : mj_M → Prop, kX10_writes k (nI (48 + (l / 2 + 1) % 10)) g M1 q1 ∧ ∀ M2, q1 M2 → (∃ q2 : mj_M → Prop, kX10_writes k (nI 32) g M2 q2 ∧ ∀ M3, q2 M3 → ow_ M3 k n (p + (oL l).length) (wr n p f (oL l)) ∧ nf_ k jo M M3) := by
    intro C M1 p1 f1 hC hp1 hc2 hf1 h1 hn1
    refine ⟨_, r_writes h0 h1 hn (by omega) _, fun M2 q1 => ⟨_, r_writes h0 q1.1 hn (by omega) 32, fun M3 q2 => ⟨?_, (hn1.tr q1.2).tr q2.2⟩⟩⟩
    rw [← hC, wr_app, ← hp1, ← hf1, List.length_append]
    have e : p + (C.length + [48 + (l / 2 + 1) % 10, 32].length) = p1 + 1 + 1 := by rw [hp1]; show p + (C.length + 2) = _; omega
    rw [e]; exact q2.1
  have eo : oL l = (if l % 2 = 1 then [45] else []) ++ ((if l / 2 = 9 then [49] else []) ++ [48 + (l / 2 + 1) % 10, 32]) := rfl
  refine ⟨fun h2 => ⟨fun h9 => ?_, fun h9 => ?_⟩, fun h2 => ⟨_, r_writes h0 h hn (by omega) 45, fun M6 q6 => ⟨fun h9 => ?_, fun h9 => ?_⟩⟩⟩
  · exact tail [] M p f (by rw [eo, if_neg h2, if_neg h9]; rfl) rfl (by decide) rfl h nf_.rf
  · refine ⟨_, r_writes h0 h hn (by omega) 49, fun M3 q3 => ?_⟩
    exact tail [49] M3 (p + 1) _ (by rw [eo, if_neg h2, if_pos h9]; rfl) rfl (by decide) rfl q3.1 q3.2
  · exact tail [45] M6 (p + 1) _ (by rw [eo, if_pos h2, if_neg h9]; rfl) rfl (by decide) rfl q6.1 q6.2
  · refine ⟨_, r_writes h0 q6.1 hn (by omega) 49, fun M3 q3 => ?_⟩
    exact tail [45, 49] M3 (p + 1 + 1) _ (by rw [eo, if_pos h2, if_pos h9]; rfl) rfl (by decide) rfl q3.1 (q6.2.tr q3.2)
theorem RR.n {M1 : mj_M} {J : Nat → Prop} (h : RR M k o) (hf : nf_ k J M M1) (h3 : ¬ J 3) (h5 : ¬ J 5) : RR M1 k o := h.c (by unfold rr_; rw [hf.row (by omega)]; exact h.1) (hf.row (by omega)) (hf.row (by omega)) (hf.f h3) (hf.f h5)
theorem nf_.gg {M1 : mj_M} {J : Nat → Prop} (h : nf_ k J M M1) : gf_ k (k + 12) M M1 := fun a ha => ⟨h.row (by omega), by rw [h.1], by rw [h.1]⟩
theorem r_outputByte (h0 : is10 g k) (h : RR M k o) (x : Int32) : kX10_outputByte k x g M (rq (A_outputByte o x) k M) := by
  have h48 := h.1.n48
  refine eX10_outputByte h0 ⟨fun hx => ?_, fun hx => r_fail (r := A_outputByte o x) h0 h gf_.rf 1 (if_neg hx) (fun _ _ h => h)⟩
  obtain ⟨n, hn, rfl⟩ := nI_of (neg_le.mpr hx)
  have key : ∀ m i p f M1, i + m = (sL o.1).length → p ≤ 82 * i → ow_ M1 k n p f → nf_ k jo M M1 → wr n p f (oT ((sL o.1).drop i)) = oA (oT (sL o.1)) n → LX10_outputByte_27 k (nI i) g M1 (rq (A_outputByte o (nI n)) k M) := by
    intro m
    induction m with
    | zero =>
      intro i p f M1 hi hp how hf he
      have h1 := h.n hf (by unfold jo; omega) (by unfold jo; omega)
      refine bX10_outputByte_27 h0 ⟨fun _ => ?_, fun hc => absurd (h1.1.done (by omega)) hc⟩
      rw [how.2.2]
      refine r_tell (r := A_outputByte o (nI n)) h0 h1 hf.gg _ ?_ (fun _ _ h => h)
      rw [out_0 hn, ← he, show i = (sL o.1).length by omega, List.drop_length]; rfl
    | succ m ih =>
      intro i p f M1 hi hp how hf he
      have hil : i < (sL o.1).length := by omega
      have h1 := h.n hf (by unfold jo; omega) (by unfold jo; omega)
      rw [dp_step hil] at he
      have he : wr n p f (oC ((sL o.1).getD i 0) ++ oT ((sL o.1).drop (i + 1))) = oA (oT (sL o.1)) n := he
      refine bX10_outputByte_27 h0 ⟨fun hc => absurd hc (h1.1.more hil), fun _ => ?_⟩
      have inn : ∀ mm l p1 f1 M2, l + mm = 20 → p1 ≤ 82 * i + 4 * l → ow_ M2 k n p1 f1 → nf_ k jo M M2 → wr n p1 f1 (ocA ((sL o.1).getD i 0) mm l ++ oT ((sL o.1).drop (i + 1))) = oA (oT (sL o.1)) n → LX10_outputByte_40 k (nI i) (nI l) g M2 (rq (A_outputByte o (nI n)) k M) := by
        intro mm
        induction mm with
        | zero =>
          intro l p1 f1 M2 hl hp1 how2 hf2 he2
          refine bX10_outputByte_40 h0 ⟨fun _ => ⟨_, r_writes h0 how2 hn (by omega) 48, fun M3 q3 => ⟨_, r_writes h0 q3.1 hn (by omega) 10, fun M4 q4 => ?_⟩⟩, fun hc => absurd (d20 (by omega)) hc⟩
          rw [nI_1]
          exact ih (i + 1) (p1 + 1 + 1) _ M4 (by omega) (by omega) q4.1 ((hf2.tr q3.2).tr q4.2) he2
        | succ mm ihm =>
          intro l p1 f1 M2 hl hp1 how2 hf2 he2
          have h2 := h.n hf2 (by unfold jo; omega) (by unfold jo; omega)
          have hll := oL_len l (by omega)
          refine bX10_outputByte_40 h0 ⟨fun hc => absurd hc (c20 (by omega)), fun _ => ⟨_, r_clauseAt h0 h2.1 hil, fun v M3 hq => ?_⟩⟩
          obtain ⟨rfl, rfl⟩ := hq
          refine ⟨_, r_has _ (show l < 32 by omega), fun v M4 hq => ?_⟩
          obtain ⟨rfl, rfl⟩ := hq
          rw [nI_1]
          refine ⟨fun hb => ?_, fun hb => ⟨_, r_writesLiteral h0 how2 hn (by omega) (show l < 20 by omega), fun M5 q5 => ?_⟩⟩
          · rw [ocA_f ((if01 _).1.mp hb)] at he2
            exact ihm (l + 1) p1 f1 M4 (by omega) (by omega) how2 hf2 he2
          · rw [ocA_t ((if01 _).2.mp hb), List.append_assoc, wr_app] at he2
            exact ihm (l + 1) _ _ M5 (by omega) (by omega) q5.1 (hf2.tr q5.2) he2
      exact inn 20 0 p f M1 (by omega) (by omega) how hf he
  have f0 : nf_ k jo M (mj_wI (mj_wI (mj_wI M k 13 (nI n)) k 14 0) k 15 (-1)) := ((nf_.w (J := jo) (Or.inl rfl) _).tr (nf_.w (J := jo) (Or.inr (Or.inl rfl)) _)).tr (nf_.w (J := jo) (Or.inr (Or.inr rfl)) _)
  refine key (sL o.1).length 0 0 (-1) _ (Nat.zero_add _) (Nat.zero_le _) ⟨?_, ?_, wI_s⟩ f0 ?_
  · rw [wI_k (by omega), wI_k (by omega), wI_s]
  · rw [wI_k (by omega), wI_s]; rfl
  · rw [List.drop_zero, wr_oA _ 0 (Nat.zero_le _), Nat.sub_zero]
end OUT
