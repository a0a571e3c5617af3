/-! COVERED CLAUSES, in words of sets -/
def cvP (L : List Int32) (k : Nat) (E : Int32) (l i : Nat) : Bool := !decide (i = k) && (bt (L.getD i 0) (fl l) && !tv ((E &&& (bi l ^^^ (-1))) ||| (L.getD i 0 &&& (bi (fl l) ^^^ (-1)))))
def cm (L : List Int32) (k : Nat) (E : Int32) (l : Nat) : Nat → Int32
  | 0 => -1
  | i + 1 => if cvP L k E l i = true then cm L k E l i &&& (L.getD i 0 &&& (bi (fl l) ^^^ (-1))) else cm L k E l i
def cs (L : List Int32) (k : Nat) (E : Int32) (l : Nat) : Nat → Int32
  | 0 => -1
  | i + 1 => if cvP L k E l i = true then cs L k E l i &&& L.getD i 0 else cs L k E l i
theorem cm_t {L : List Int32} {k l i : Nat} {E : Int32} (h : cvP L k E l i = true) : cm L k E l (i + 1) = cm L k E l i &&& (L.getD i 0 &&& (bi (fl l) ^^^ (-1))) := if_pos h
theorem cm_f {L : List Int32} {k l i : Nat} {E : Int32} (h : cvP L k E l i = false) : cm L k E l (i + 1) = cm L k E l i := if_neg (by rw [h]; decide)
theorem cs_t {L : List Int32} {k l i : Nat} {E : Int32} (h : cvP L k E l i = true) : cs L k E l (i + 1) = cs L k E l i &&& L.getD i 0 := if_pos h
theorem cs_f {L : List Int32} {k l i : Nat} {E : Int32} (h : cvP L k E l i = false) : cs L k E l (i + 1) = cs L k E l i := if_neg (by rw [h]; decide)
theorem nice_bt {L : List Int32} (hn : nice L) {i j : Nat} (hi : i < L.length) (hj : j < 32) (hb : bt (L.getD i 0) j = true) : j < 20 := (hn _ (gd_mem hi)).2 j hj hb
/-- no partner: nothing is common; else what is common lies in one of them -/
theorem cm_no {L : List Int32} {k l : Nat} {E : Int32} : ∀ {n : Nat}, anA (cvP L k E l) n = false → cm L k E l n = -1 ∧ cs L k E l n = -1
  | 0, _ => ⟨rfl, rfl⟩
  | n + 1, h => by
    rw [anA_s, Bool.or_eq_false_iff] at h
    rw [cm_f h.2, cs_f h.2]; exact cm_no h.1
theorem cm_cs {L : List Int32} (hn : nice L) {k l : Nat} {E : Int32} (hl : l < 20) : ∀ {n : Nat}, n ≤ L.length → anA (cvP L k E l) n = true → (∀ b, b < 32 → bt (cm L k E l n) b = (bt (cs L k E l n) b && !decide (b = fl l))) ∧ bt (cs L k E l n) 31 = false ∧ ∃ i, i < n ∧ cvP L k E l i = true ∧ ∀ b, b < 32 → bt (cs L k E l n) b = true → bt (L.getD i 0) b = true
  | 0, _, h => by cases h
  | n + 1, hle, h => by
    have hf := fl32 hl
    cases hp : cvP L k E l n with
    | false =>
      rw [anA_s, hp, Bool.or_false] at h
      obtain ⟨h1, h2, i, h3, h4, h5⟩ := cm_cs hn hl (show n ≤ L.length by omega) h
      rw [cm_f hp, cs_f hp]
      exact ⟨h1, h2, i, by omega, h4, h5⟩
    | true =>
      have hb31 : bt (L.getD n 0) 31 = false := by
        cases e : bt (L.getD n 0) 31 with
        | false => rfl
        | true => have := nice_bt hn (show n < L.length by omega) (by decide) e; omega
      have hbit : ∀ b, b < 32 → bt (cm L k E l n) b = (bt (cs L k E l n) b && !decide (b = fl l)) ∨ (bt (cm L k E l n) b = true ∧ bt (cs L k E l n) b = true) := by
        cases ha : anA (cvP L k E l) n with
        | false =>
          intro b hb
          rw [(cm_no ha).1, (cm_no ha).2]
          exact Or.inr ⟨b_m1 b hb, b_m1 b hb⟩
        | true => intro b hb; exact Or.inl ((cm_cs hn hl (show n ≤ L.length by omega) ha).1 b hb)
      rw [cm_t hp, cs_t hp]
      refine ⟨fun b hb => ?_, by rw [b_and, hb31, Bool.and_false], n, by omega, hp, fun b hb h1 => ?_⟩
      · rw [b_and, b_and, b_and, b_not hb, b_bi (by omega) hb]
        rcases hbit b hb with q | q
        · rw [q]
          cases bt (cs L k E l n) b <;> cases bt (L.getD n 0) b <;> cases decide (b = fl l) <;> rfl
        · rw [q.1, q.2, Bool.true_and, Bool.true_and]
      · rw [b_and, Bool.and_eq_true] at h1; exact h1.2
def cma (L : List Int32) (k : Nat) (E : Int32) (l : Nat) : Int32 := cm L k E l L.length
theorem m1_bt {x : Int32} (h : bt x 31 = false) : ¬ x = -1 := fun e => by rw [e, b_m1 31 (by decide)] at h; cases h
/-- partners: what is common is no complement of the extension -/
theorem cma_ok {L : List Int32} (hn : nice L) {k l : Nat} {E : Int32} (hl : l < 20) (h : ¬ cma L k E l = -1) : bt (cma L k E l) 31 = false ∧ ∃ i, i < L.length ∧ cvP L k E l i = true ∧ ∀ b, b < 32 → bt (cma L k E l) b = true → bt (L.getD i 0) b = true ∧ b ≠ fl l := by
  cases ha : anA (cvP L k E l) L.length with
  | false => exact absurd (cm_no ha).1 h
  | true =>
    obtain ⟨h1, h2, i, h3, h4, h5⟩ := cm_cs hn hl (Nat.le_refl _) ha
    refine ⟨by unfold cma; rw [h1 31 (by decide), h2, Bool.false_and], i, h3, h4, fun b hb hc => ?_⟩
    unfold cma at hc
    rw [h1 b hb, Bool.and_eq_true] at hc
    exact ⟨h5 b hb hc.1, by simpa using hc.2⟩
def nc (x : Int32) : Prop := tv x = false ∧ ∀ i, i < 32 → bt x i = true → i < 20
theorem grow_nc {L : List Int32} (hn : nice L) {k l : Nat} {E : Int32} (hE : nc E) (hl : l < 20) (h : ¬ cma L k E l = -1) : nc (E ||| cma L k E l) := by
  obtain ⟨_, i, hi, hp, hc⟩ := cma_ok hn hl h
  have hni := hn _ (gd_mem hi)
  unfold cvP at hp
  simp only [Bool.and_eq_true, Bool.not_eq_true'] at hp
  obtain ⟨_, hp2, hp3⟩ := hp
  have hfl := fl32 hl
  have hU : ∀ b, b < 32 → bt ((E &&& (bi l ^^^ (-1))) ||| (L.getD i 0 &&& (bi (fl l) ^^^ (-1)))) b = ((bt E b && !decide (b = l)) || (bt (L.getD i 0) b && !decide (b = fl l))) := fun b hb => by rw [b_or, b_and, b_and, b_not hb, b_not hb, b_bi (by omega) hb, b_bi (by omega) hb]
  constructor
  · cases ht : tv (E ||| cma L k E l) with
    | false => rfl
    | true =>
      exfalso
      obtain ⟨a, ha, h1, h2⟩ := (tv_iff _).mp ht
      have hfa := fl32 ha
      rw [b_or, Bool.or_eq_true] at h1 h2
      -- one in the extension, the other common
      have cross : ∀ a, a < 20 → bt E a = true → bt (cma L k E l) (fl a) = true → False := by
        intro a ha e1 e2
        have hfa := fl32 ha
        obtain ⟨c1, c2⟩ := hc (fl a) (by omega) e2
        have hal : a ≠ l := fun e => c2 (by rw [e])
        have : tv ((E &&& (bi l ^^^ (-1))) ||| (L.getD i 0 &&& (bi (fl l) ^^^ (-1)))) = true := by
          refine (tv_iff _).mpr ⟨a, ha, ?_, ?_⟩
          · rw [hU a (by omega), e1, decide_eq_false hal]; rfl
          · rw [hU _ (by omega), c1, decide_eq_false c2]; simp
        rw [hp3] at this; cases this
      rcases h1 with q1 | q1
      · rcases h2 with q2 | q2
        · have := nof hE.1 ha q1
          rw [q2] at this; cases this
        · exact cross a ha q1 q2
      · rcases h2 with q2 | q2
        · exact cross (fl a) hfa q2 (by rw [fl_fl]; exact q1)
        · have := nof hni.1 ha (hc a (by omega) q1).1
          rw [(hc (fl a) (by omega) q2).1] at this; cases this
  · intro b hb h1
    rw [b_or, Bool.or_eq_true] at h1
    rcases h1 with q | q
    · exact hE.2 b hb q
    · exact hni.2 b hb (hc b hb q).1
theorem pcA_half {x : Int32} (h : tv x = false) : ∀ m, m ≤ 10 → pcA x (2 * m) ≤ m
  | 0, _ => Nat.le_refl _
  | m + 1, hm => by
    have ih := pcA_half h m (by omega)
    have e : pcA x (2 * (m + 1)) = pcA x (2 * m) + (if bt x (2 * m) then 1 else 0) + (if bt x (2 * m + 1) then 1 else 0) := rfl
    rw [e]
    have hne : ¬ (bt x (2 * m) = true ∧ bt x (2 * m + 1) = true) := by
      rintro ⟨h1, h2⟩
      have := nof h (show 2 * m < 20 by omega) h1
      rw [show fl (2 * m) = 2 * m + 1 by unfold fl; rw [if_pos (by omega)], h2] at this; cases this
    cases a : bt x (2 * m) <;> cases b : bt x (2 * m + 1)
    · simp; omega
    · simp; omega
    · simp; omega
    · exact absurd ⟨a, b⟩ hne
theorem pcA_top {x : Int32} {a : Nat} (h : ∀ i, i < 32 → bt x i = true → i < a) : ∀ m, a + m ≤ 32 → pcA x (a + m) = pcA x a
  | 0, _ => rfl
  | m + 1, hm => by
    have e : pcA x (a + (m + 1)) = pcA x (a + m) + (if bt x (a + m) then 1 else 0) := rfl
    have hb : bt x (a + m) = false := by
      cases q : bt x (a + m) with
      | false => rfl
      | true => have := h (a + m) (by omega) q; omega
    rw [e, hb, pcA_top h m (by omega)]; rfl
theorem nc_pc {x : Int32} (h : nc x) : pc x ≤ 10 := by
  have := pcA_top (a := 20) h.2 12 (by omega)
  unfold pc
  rw [show (32 : Nat) = 20 + 12 from rfl, this]
  exact pcA_half h.1 10 (Nat.le_refl _)
theorem pcA_mono {x y : Int32} (h : ∀ i, i < 32 → bt x i = true → bt y i = true) : ∀ n, n ≤ 32 → pcA x n ≤ pcA y n
  | 0, _ => Nat.le_refl _
  | n + 1, hn => by
    have ih := pcA_mono h n (by omega)
    show pcA x n + (if bt x n then 1 else 0) ≤ pcA y n + (if bt y n then 1 else 0)
    cases a : bt x n with
    | false => simp; omega
    | true => rw [h n (by omega) a]; simp; exact ih
theorem pc_mono {x y : Int32} (h : ∀ i, i < 32 → bt x i = true → bt y i = true) : pc x ≤ pc y := pcA_mono h 32 (Nat.le_refl _)
theorem pc_lt {x y : Int32} (h : ∀ i, i < 32 → bt x i = true → bt y i = true) {j : Nat} (hj : j < 32) (h1 : bt x j = false) (h2 : bt y j = true) : pc x < pc y := by
  have h3 : pc x ≤ pc (y &&& (bi j ^^^ (-1))) := pc_mono (fun i hi hb => by
    rw [b_and, b_not hi, b_bi hj hi, h i hi hb]
    have : i ≠ j := fun e => by rw [e, h1] at hb; cases hb
    simp [this])
  have := pc_clear hj h2
  omega
theorem grow_pc {E c : Int32} (h : ¬ c &&& (E ^^^ (-1)) = 0) : pc E < pc (E ||| c) := by
  obtain ⟨j, hj, hb⟩ := bnz.mp h
  rw [b_and, b_not hj, Bool.and_eq_true] at hb
  exact pc_lt (fun i hi hb => by rw [b_or, hb]; rfl) hj (by simpa using hb.2) (by rw [b_or, hb.1, Bool.or_true])
/-- the extension -/
def glP (L : List Int32) (k : Nat) (E : Int32) (l : Nat) : Bool := bt E l && !decide (cma L k E l &&& (E ^^^ (-1)) = 0)
def gl (L : List Int32) (k : Nat) (E : Int32) : Option Nat := fdF (glP L k E) 20 0
def ex (L : List Int32) (k : Nat) : Nat → Int32 → List (Int32 × Int32) → Int32 × List (Int32 × Int32) × Bool
  | 0, E, P => (E, P, false)
  | n + 1, E, P => match gl L k E with
    | none => (E, P, false)
    | some l => if cma L k E l = -1 then (E, P ++ [(E, nI l)], true) else ex L k n (E ||| cma L k E l) (P ++ [(E, nI l)])
theorem ex_no {L : List Int32} {k n : Nat} {E : Int32} {P : List (Int32 × Int32)} (h : gl L k E = none) : ex L k (n + 1) E P = (E, P, false) := by simp only [ex, h]
theorem ex_yes {L : List Int32} {k n l : Nat} {E : Int32} {P : List (Int32 × Int32)} (h : gl L k E = some l) (h2 : cma L k E l = -1) : ex L k (n + 1) E P = (E, P ++ [(E, nI l)], true) := by simp only [ex, h, h2, if_true]
theorem ex_go {L : List Int32} {k n l : Nat} {E : Int32} {P : List (Int32 × Int32)} (h : gl L k E = some l) (h2 : ¬ cma L k E l = -1) : ex L k (n + 1) E P = ex L k n (E ||| cma L k E l) (P ++ [(E, nI l)]) := by simp only [ex, h, h2, if_false]
def exr (L : List Int32) (k : Nat) : Int32 × List (Int32 × Int32) × Bool := ex L k 11 (L.getD k 0) []
theorem gl_ok {L : List Int32} {k l : Nat} {E : Int32} (h : gl L k E = some l) : l < 20 ∧ bt E l = true ∧ ¬ cma L k E l &&& (E ^^^ (-1)) = 0 := by
  obtain ⟨_, h2, h3, _⟩ := fdF_some h
  unfold glP at h3
  simp only [Bool.and_eq_true, Bool.not_eq_true', decide_eq_false_iff_not] at h3
  exact ⟨by omega, h3.1, h3.2⟩
theorem ex_wit {L : List Int32} {k : Nat} : ∀ (n : Nat) (E : Int32) (P : List (Int32 × Int32)), (∀ r, r ∈ P → ∃ l, l < 20 ∧ r.2 = nI l) → (∀ r, r ∈ (ex L k n E P).2.1 → ∃ l, l < 20 ∧ r.2 = nI l) ∧ (ex L k n E P).2.1.length ≤ P.length + n
  | 0, E, P, h => ⟨h, Nat.le_refl _⟩
  | n + 1, E, P, h => by
    cases e : gl L k E with
    | none => rw [ex_no e]; exact ⟨h, Nat.le_add_right _ _⟩
    | some l =>
      have hP : ∀ r, r ∈ P ++ [(E, nI l)] → ∃ l, l < 20 ∧ r.2 = nI l := by
        intro r hr
        rcases List.mem_append.mp hr with q | q
        · exact h r q
        · exact ⟨l, (gl_ok e).1, by rw [show r = (E, nI l) by simpa using q]⟩
      by_cases h2 : cma L k E l = -1
      · rw [ex_yes e h2]
        refine ⟨hP, ?_⟩
        show (P ++ [(E, nI l)]).length ≤ _
        rw [List.length_append]; show P.length + 1 ≤ _; omega
      · rw [ex_go e h2]
        have := ex_wit (L := L) (k := k) n (E ||| cma L k E l) (P ++ [(E, nI l)]) hP
        refine ⟨this.1, Nat.le_trans this.2 ?_⟩
        rw [List.length_append]; show P.length + 1 + n ≤ _; omega
theorem ex_cov {L : List Int32} {k : Nat} : ∀ (n : Nat) (E : Int32) (P : List (Int32 × Int32)), (ex L k n E P).2.2 = true → ∃ F l, l < 20 ∧ bt F l = true ∧ (∀ i, i < 32 → bt E i = true → bt F i = true) ∧ (F ≠ 0)
  | 0, E, P, h => by cases h
  | n + 1, E, P, h => by
    cases e : gl L k E with
    | none => rw [ex_no e] at h; cases h
    | some l =>
      obtain ⟨g1, g2, _⟩ := gl_ok e
      exact ⟨E, l, g1, g2, fun _ _ hb => hb, fun e2 => by rw [e2, b_0] at g2; cases g2⟩
def cvB (s : sg) (k : Nat) : Bool := (exr (sL s) k).2.2 && decide ((sR s).length + (exr (sL s) k).2.1.length ≤ 120)
def cvI (s : sg) : Option Nat := fdF (cvB s) (sL s).length 0
def cvS (s : sg) (k : Nat) : sg := uL (uR s (sR s ++ (exr (sL s) k).2.1)) ((sL s).eraseIdx k)
def covF (s : sg) : Option sg := (cvI s).map (cvS s)
theorem cv_ne {L : List Int32} {k : Nat} (hk : k < L.length) (h : (exr L k).2.2 = true) : L ≠ [0] := by
  intro e
  subst e
  have : k = 0 := by simp at hk; omega
  subst this
  have hz : gl [0] 0 (([0] : List Int32).getD 0 0) = none := fdF_none' (fun t _ _ => by
    show (bt 0 t && _) = false
    rw [b_0]; rfl)
  unfold exr at h
  rw [ex_no hz] at h; cases h
theorem covF_inv {s s' : sg} (h : Inv s) (hf : covF s = some s') : Inv s' ∧ (sL s').length < (sL s).length := by
  unfold covF at hf
  cases e : cvI s with
  | none => rw [e] at hf; cases hf
  | some k =>
    rw [e] at hf; cases hf
    obtain ⟨_, h2, h3, _⟩ := fdF_some e
    unfold cvB at h3
    simp only [Bool.and_eq_true, decide_eq_true_eq] at h3
    have hk : k < (sL s).length := by omega
    have hw := ex_wit (L := sL s) (k := k) 11 ((sL s).getD k 0) [] (fun r hr => by cases hr)
    have hI2 : Inv (uR s (sR s ++ (exr (sL s) k).2.1)) := by
      refine ⟨h.1, h.2.1, h.2.2.1, h.2.2.2.1, ?_, h.2.2.2.2.2.1, ?_, h.2.2.2.2.2.2.2.1, h.2.2.2.2.2.2.2.2⟩
      · show (sR s ++ (exr (sL s) k).2.1).length ≤ 120 + 2 * ina s
        rw [List.length_append]; omega
      · intro r hr
        rcases List.mem_append.mp hr with q | q
        · exact h.wit r q
        · exact hw.1 r q
    refine ⟨inv_erase (s := uR s (sR s ++ (exr (sL s) k).2.1)) hI2 (cv_ne hk h3.1) k, ?_⟩
    show ((sL s).eraseIdx k).length < _
    rw [List.length_eraseIdx, if_pos hk]; omega
