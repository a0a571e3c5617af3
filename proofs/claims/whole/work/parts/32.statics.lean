/-! the small static methods of both sides -/
theorem if01 (b : Bool) : ((if b then (1 : Int32) else 0) = 0 ↔ b = false) ∧ (¬ (if b then (1 : Int32) else 0) = 0 ↔ b = true) := by cases b <;> decide
section STA
variable {g : mj_S} {M : mj_M}
theorem c_contains (x : Int32) {j : Nat} (hj : j < 32) : kX9_contains x (nI j) g M (fun v M' => M' = M ∧ v = if bt x j then 1 else 0) := by
  refine eX9_contains ⟨fun h => ⟨rfl, ?_⟩, fun h => ⟨rfl, ?_⟩⟩
  · rw [b_and1, b_has hj] at h; rw [h]; rfl
  · rw [b_and1, b_has hj] at h; rw [(Bool.not_eq_false _).mp h]; rfl
theorem r_has (x : Int32) {j : Nat} (hj : j < 32) : kX10_has x (nI j) g M (fun v M' => M' = M ∧ v = if bt x j then 1 else 0) := by
  refine eX10_has ⟨fun h => ⟨rfl, ?_⟩, fun h => ⟨rfl, ?_⟩⟩
  · rw [b_and1', b_has hj] at h; rw [(Bool.not_eq_true _).mp h]; rfl
  · rw [b_and1', b_has hj] at h; rw [h]; rfl
theorem c_complements (x : Int32) : kX9_complements x g M (fun v M' => M' = M ∧ v = ng x) := eX9_complements ⟨rfl, rfl⟩
theorem r_turned (x : Int32) : kX10_turned x g M (fun v M' => M' = M ∧ v = ng x) := eX10_turned ⟨rfl, rfl⟩
theorem c_hasComplementary (x : Int32) : kX9_hasComplementary x g M (fun v M' => M' = M ∧ v = if tv x then 1 else 0) := by
  refine eX9_hasComplementary ⟨fun h => ⟨rfl, ?_⟩, fun h => ⟨rfl, ?_⟩⟩
  · rw [tv_comp] at h; rw [h]; rfl
  · rw [tv_comp] at h; rw [(Bool.not_eq_false _).mp h]; rfl
theorem r_isTrivial (x : Int32) : kX10_isTrivial x g M (fun v M' => M' = M ∧ v = if tv x then 1 else 0) := by
  refine eX10_isTrivial ⟨_, r_turned x, fun v1 M1 hq => ?_⟩
  obtain ⟨rfl, rfl⟩ := hq
  refine ⟨fun h => ⟨rfl, ?_⟩, fun h => ⟨rfl, ?_⟩⟩
  · have : tv x = false := by unfold tv; rw [h]; rfl
    rw [this]; rfl
  · have : tv x = true := by unfold tv; rw [decide_eq_false h]; rfl
    rw [this]; rfl
theorem r_in {x a b : Int32} : kX10_in x a b g M (fun v M' => M' = M ∧ v = if a ≤ x ∧ x ≤ b then 1 else 0) := by
  refine eX10_in ⟨fun h => ⟨rfl, ?_⟩, fun h => ⟨fun h2 => ⟨rfl, ?_⟩, fun h2 => ⟨rfl, ?_⟩⟩⟩
  · rw [if_neg]; rintro ⟨h1, -⟩; exact absurd h (Int32.not_lt.mpr h1)
  · rw [if_neg]; rintro ⟨-, h1⟩; exact absurd h2 (Int32.not_lt.mpr h1)
  · rw [if_pos ⟨Int32.not_lt.mp h, Int32.not_lt.mp h2⟩]
theorem c_pairOf {a b : Nat} : kX9_pairOf (nI a) (nI b) g M (fun v M' => M' = M ∧ v = bi a ||| bi b) := eX9_pairOf ⟨rfl, rfl⟩
theorem c_nextSubset (a b : Int32) : kX9_nextSubset a b g M (fun v M' => M' = M ∧ v = (a - b) &&& b) := eX9_nextSubset ⟨rfl, rfl⟩
/-- the lowest literal of a set -/
theorem r_lowest {x : Int32} {j : Nat} (hj : j < 32) (hb : bt x j = true) (hm : ∀ i, i < j → bt x i = false) : kX10_lowest x g M (fun v M' => M' = M ∧ v = nI j) := by
  refine eX10_lowest ?_
  have key : ∀ m i, i + m = j → LX10_lowest_2 x (nI i) g M (fun v M' => M' = M ∧ v = nI j) := by
    intro m
    induction m with
    | zero =>
      intro i hi
      have : i = j := by omega
      subst this
      refine bX10_lowest_2 ⟨_, r_has x hj, fun v1 M1 hq => ?_⟩
      obtain ⟨rfl, rfl⟩ := hq
      rw [hb]
      exact ⟨fun _ => ⟨rfl, rfl⟩, fun h => absurd h (by decide)⟩
    | succ m ih =>
      intro i hi
      refine bX10_lowest_2 ⟨_, r_has x (show i < 32 by omega), fun v1 M1 hq => ?_⟩
      obtain ⟨rfl, rfl⟩ := hq
      rw [hm i (by omega)]
      refine ⟨fun h => absurd rfl h, fun _ => ?_⟩
      rw [nI_1]
      exact ih (i + 1) (by omega)
  exact key j 0 (by omega)
/-- a set's variables: those of its positive, or of its negative literals -/
def vs (s : Int32) (p : Bool) : Int32 := bm (fun v => decide (v < 10) && bt s (2 * v + if p then 0 else 1))
theorem two_nI (i : Nat) : (2 : Int32) * nI i = nI (2 * i) := by rw [show (2 : Int32) = nI 2 from rfl, pk_mul]
theorem or_0 (x : Int32) : x ||| 0 = x := b_ext (fun i _ => by rw [b_or, b_0, Bool.or_false])
theorem r_variablesOf (s : Int32) (p : Bool) : kX10_variablesOf s (if p then 1 else 0) g M (fun v M' => M' = M ∧ v = vs s p) := by
  refine eX10_variablesOf ?_
  have key : ∀ m i, i + m = 10 → LX10_variablesOf_4 s (if p then 1 else 0) (bmA (fun v => bt s (2 * v + if p then 0 else 1)) i) (nI i) g M (fun v M' => M' = M ∧ v = vs s p) := by
    intro m
    induction m with
    | zero =>
      intro i hi
      have : i = 10 := by omega
      subst this
      refine bX10_variablesOf_4 ⟨fun _ => ⟨rfl, ?_⟩, fun h => absurd (by decide) h⟩
      refine bm_eq (fun i hi => ?_)
      rw [bmA_bt _ 10 (by decide) i hi]
    | succ m ih =>
      intro i hi
      have nx := ih (i + 1) (by omega)
      rw [show bmA (fun v => bt s (2 * v + if p then 0 else 1)) (i + 1) = bmA (fun v => bt s (2 * v + if p then 0 else 1)) i ||| (if bt s (2 * i + if p then 0 else 1) then bi i else 0) from rfl] at nx
      refine bX10_variablesOf_4 ⟨fun h => ?_, fun _ => ⟨fun hp => ?_, fun hp => ?_⟩⟩
      · rw [show (10 : Int32) = nI 10 from rfl, nI_leI (by decide) (by omega)] at h; omega
      · cases p with
        | true => exact absurd hp (by decide)
        | false =>
          rw [two_nI, show (1 : Int32) = nI 1 from rfl, nI_add]
          refine ⟨_, r_has s (show 2 * i + 1 < 32 by omega), fun v1 M1 hq => ?_⟩
          obtain ⟨rfl, rfl⟩ := hq
          simp only [Bool.false_eq_true, if_false] at nx ⊢
          cases hb : bt s (2 * i + 1) with
          | true =>
            rw [hb] at nx
            refine ⟨fun h => absurd h (by decide), fun _ => ?_⟩
            rw [show nI 1 = 1 from rfl, nI_1]; exact nx
          | false =>
            rw [hb] at nx
            refine ⟨fun _ => ?_, fun h => absurd rfl h⟩
            rw [show nI 1 = 1 from rfl, nI_1]; exact nx
      · cases p with
        | false => exact absurd rfl hp
        | true =>
          rw [two_nI]
          refine ⟨_, r_has s (show 2 * i < 32 by omega), fun v1 M1 hq => ?_⟩
          obtain ⟨rfl, rfl⟩ := hq
          simp only [if_true, Nat.add_zero] at nx ⊢
          cases hb : bt s (2 * i) with
          | true =>
            rw [hb] at nx
            refine ⟨fun h => absurd h (by decide), fun _ => ?_⟩
            rw [nI_1]; exact nx
          | false =>
            rw [hb] at nx
            refine ⟨fun _ => ?_, fun h => absurd rfl h⟩
            rw [nI_1]; exact nx
  exact key 10 0 (by omega)
end STA
