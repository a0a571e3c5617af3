/-! trailing zeros of a single literal; literals out of two sets -/
section LIT
variable {g : mj_S} {M : mj_M}
def tz (x0 : Int32) : Int32 := if (0 : Int32) < (((x0) ^^^ (-1 : Int32)) &&& ((x0) - (1 : Int32))) then (if (((x0) ^^^ (-1 : Int32)) &&& ((x0) - (1 : Int32)) : Int32) ≤ (65536 : Int32) then (if (((x0) ^^^ (-1 : Int32)) &&& ((x0) - (1 : Int32)) : Int32) ≤ (256 : Int32) then (if (((x0) ^^^ (-1 : Int32)) &&& ((x0) - (1 : Int32)) : Int32) ≤ (16 : Int32) then (if (((x0) ^^^ (-1 : Int32)) &&& ((x0) - (1 : Int32)) : Int32) ≤ (4 : Int32) then ((1 : Int32) + ((Int32.toUInt32 (((x0) ^^^ (-1 : Int32)) &&& ((x0) - (1 : Int32))) >>> (Int32.toUInt32 (1 : Int32) &&& Int32.toUInt32 31)).toInt32)) else ((1 + 2) + ((Int32.toUInt32 ((Int32.toUInt32 (((x0) ^^^ (-1 : Int32)) &&& ((x0) - (1 : Int32))) >>> (Int32.toUInt32 (2 : Int32) &&& Int32.toUInt32 31)).toInt32) >>> (Int32.toUInt32 (1 : Int32) &&& Int32.toUInt32 31)).toInt32))) else (if ((Int32.toUInt32 (((x0) ^^^ (-1 : Int32)) &&& ((x0) - (1 : Int32))) >>> (Int32.toUInt32 (4 : Int32) &&& Int32.toUInt32 31)).toInt32 : Int32) ≤ (4 : Int32) then ((1 + 4) + ((Int32.toUInt32 ((Int32.toUInt32 (((x0) ^^^ (-1 : Int32)) &&& ((x0) - (1 : Int32))) >>> (Int32.toUInt32 (4 : Int32) &&& Int32.toUInt32 31)).toInt32) >>> (Int32.toUInt32 (1 : Int32) &&& Int32.toUInt32 31)).toInt32)) else ((1 + 4 + 2) + ((Int32.toUInt32 ((Int32.toUInt32 ((Int32.toUInt32 (((x0) ^^^ (-1 : Int32)) &&& ((x0) - (1 : Int32))) >>> (Int32.toUInt32 (4 : Int32) &&& Int32.toUInt32 31)).toInt32) >>> (Int32.toUInt32 (2 : Int32) &&& Int32.toUInt32 31)).toInt32) >>> (Int32.toUInt32 (1 : Int32) &&& Int32.toUInt32 31)).toInt32)))) else (if ((Int32.toUInt32 (((x0) ^^^ (-1 : Int32)) &&& ((x0) - (1 : Int32))) >>> (Int32.toUInt32 (8 : Int32) &&& Int32.toUInt32 31)).toInt32 : Int32) ≤ (16 : Int32) then (if ((Int32.toUInt32 (((x0) ^^^ (-1 : Int32)) &&& ((x0) - (1 : Int32))) >>> (Int32.toUInt32 (8 : Int32) &&& Int32.toUInt32 31)).toInt32 : Int32) ≤ (4 : Int32) then ((1 + 8) + ((Int32.toUInt32 ((Int32.toUInt32 (((x0) ^^^ (-1 : Int32)) &&& ((x0) - (1 : Int32))) >>> (Int32.toUInt32 (8 : Int32) &&& Int32.toUInt32 31)).toInt32) >>> (Int32.toUInt32 (1 : Int32) &&& Int32.toUInt32 31)).toInt32)) else ((1 + 8 + 2) + ((Int32.toUInt32 ((Int32.toUInt32 ((Int32.toUInt32 (((x0) ^^^ (-1 : Int32)) &&& ((x0) - (1 : Int32))) >>> (Int32.toUInt32 (8 : Int32) &&& Int32.toUInt32 31)).toInt32) >>> (Int32.toUInt32 (2 : Int32) &&& Int32.toUInt32 31)).toInt32) >>> (Int32.toUInt32 (1 : Int32) &&& Int32.toUInt32 31)).toInt32))) else (if ((Int32.toUInt32 ((Int32.toUInt32 (((x0) ^^^ (-1 : Int32)) &&& ((x0) - (1 : Int32))) >>> (Int32.toUInt32 (8 : Int32) &&& Int32.toUInt32 31)).toInt32) >>> (Int32.toUInt32 (4 : Int32) &&& Int32.toUInt32 31)).toInt32 : Int32) ≤ (4 : Int32) then ((1 + 8 + 4) + ((Int32.toUInt32 ((Int32.toUInt32 ((Int32.toUInt32 (((x0) ^^^ (-1 : Int32)) &&& ((x0) - (1 : Int32))) >>> (Int32.toUInt32 (8 : Int32) &&& Int32.toUInt32 31)).toInt32) >>> (Int32.toUInt32 (4 : Int32) &&& Int32.toUInt32 31)).toInt32) >>> (Int32.toUInt32 (1 : Int32) &&& Int32.toUInt32 31)).toInt32)) else ((1 + 8 + 4 + 2) + ((Int32.toUInt32 ((Int32.toUInt32 ((Int32.toUInt32 ((Int32.toUInt32 (((x0) ^^^ (-1 : Int32)) &&& ((x0) - (1 : Int32))) >>> (Int32.toUInt32 (8 : Int32) &&& Int32.toUInt32 31)).toInt32) >>> (Int32.toUInt32 (4 : Int32) &&& Int32.toUInt32 31)).toInt32) >>> (Int32.toUInt32 (2 : Int32) &&& Int32.toUInt32 31)).toInt32) >>> (Int32.toUInt32 (1 : Int32) &&& Int32.toUInt32 31)).toInt32))))) else (if ((Int32.toUInt32 (((x0) ^^^ (-1 : Int32)) &&& ((x0) - (1 : Int32))) >>> (Int32.toUInt32 (16 : Int32) &&& Int32.toUInt32 31)).toInt32 : Int32) ≤ (256 : Int32) then (if ((Int32.toUInt32 (((x0) ^^^ (-1 : Int32)) &&& ((x0) - (1 : Int32))) >>> (Int32.toUInt32 (16 : Int32) &&& Int32.toUInt32 31)).toInt32 : Int32) ≤ (16 : Int32) then (if ((Int32.toUInt32 (((x0) ^^^ (-1 : Int32)) &&& ((x0) - (1 : Int32))) >>> (Int32.toUInt32 (16 : Int32) &&& Int32.toUInt32 31)).toInt32 : Int32) ≤ (4 : Int32) then ((1 + 16) + ((Int32.toUInt32 ((Int32.toUInt32 (((x0) ^^^ (-1 : Int32)) &&& ((x0) - (1 : Int32))) >>> (Int32.toUInt32 (16 : Int32) &&& Int32.toUInt32 31)).toInt32) >>> (Int32.toUInt32 (1 : Int32) &&& Int32.toUInt32 31)).toInt32)) else ((1 + 16 + 2) + ((Int32.toUInt32 ((Int32.toUInt32 ((Int32.toUInt32 (((x0) ^^^ (-1 : Int32)) &&& ((x0) - (1 : Int32))) >>> (Int32.toUInt32 (16 : Int32) &&& Int32.toUInt32 31)).toInt32) >>> (Int32.toUInt32 (2 : Int32) &&& Int32.toUInt32 31)).toInt32) >>> (Int32.toUInt32 (1 : Int32) &&& Int32.toUInt32 31)).toInt32))) else (if ((Int32.toUInt32 ((Int32.toUInt32 (((x0) ^^^ (-1 : Int32)) &&& ((x0) - (1 : Int32))) >>> (Int32.toUInt32 (16 : Int32) &&& Int32.toUInt32 31)).toInt32) >>> (Int32.toUInt32 (4 : Int32) &&& Int32.toUInt32 31)).toInt32 : Int32) ≤ (4 : Int32) then ((1 + 16 + 4) + ((Int32.toUInt32 ((Int32.toUInt32 ((Int32.toUInt32 (((x0) ^^^ (-1 : Int32)) &&& ((x0) - (1 : Int32))) >>> (Int32.toUInt32 (16 : Int32) &&& Int32.toUInt32 31)).toInt32) >>> (Int32.toUInt32 (4 : Int32) &&& Int32.toUInt32 31)).toInt32) >>> (Int32.toUInt32 (1 : Int32) &&& Int32.toUInt32 31)).toInt32)) else ((1 + 16 + 4 + 2) + ((Int32.toUInt32 ((Int32.toUInt32 ((Int32.toUInt32 ((Int32.toUInt32 (((x0) ^^^ (-1 : Int32)) &&& ((x0) - (1 : Int32))) >>> (Int32.toUInt32 (16 : Int32) &&& Int32.toUInt32 31)).toInt32) >>> (Int32.toUInt32 (4 : Int32) &&& Int32.toUInt32 31)).toInt32) >>> (Int32.toUInt32 (2 : Int32) &&& Int32.toUInt32 31)).toInt32) >>> (Int32.toUInt32 (1 : Int32) &&& Int32.toUInt32 31)).toInt32)))) else (if ((Int32.toUInt32 ((Int32.toUInt32 (((x0) ^^^ (-1 : Int32)) &&& ((x0) - (1 : Int32))) >>> (Int32.toUInt32 (16 : Int32) &&& Int32.toUInt32 31)).toInt32) >>> (Int32.toUInt32 (8 : Int32) &&& Int32.toUInt32 31)).toInt32 : Int32) ≤ (16 : Int32) then (if ((Int32.toUInt32 ((Int32.toUInt32 (((x0) ^^^ (-1 : Int32)) &&& ((x0) - (1 : Int32))) >>> (Int32.toUInt32 (16 : Int32) &&& Int32.toUInt32 31)).toInt32) >>> (Int32.toUInt32 (8 : Int32) &&& Int32.toUInt32 31)).toInt32 : Int32) ≤ (4 : Int32) then ((1 + 16 + 8) + ((Int32.toUInt32 ((Int32.toUInt32 ((Int32.toUInt32 (((x0) ^^^ (-1 : Int32)) &&& ((x0) - (1 : Int32))) >>> (Int32.toUInt32 (16 : Int32) &&& Int32.toUInt32 31)).toInt32) >>> (Int32.toUInt32 (8 : Int32) &&& Int32.toUInt32 31)).toInt32) >>> (Int32.toUInt32 (1 : Int32) &&& Int32.toUInt32 31)).toInt32)) else ((1 + 16 + 8 + 2) + ((Int32.toUInt32 ((Int32.toUInt32 ((Int32.toUInt32 ((Int32.toUInt32 (((x0) ^^^ (-1 : Int32)) &&& ((x0) - (1 : Int32))) >>> (Int32.toUInt32 (16 : Int32) &&& Int32.toUInt32 31)).toInt32) >>> (Int32.toUInt32 (8 : Int32) &&& Int32.toUInt32 31)).toInt32) >>> (Int32.toUInt32 (2 : Int32) &&& Int32.toUInt32 31)).toInt32) >>> (Int32.toUInt32 (1 : Int32) &&& Int32.toUInt32 31)).toInt32))) else (if ((Int32.toUInt32 ((Int32.toUInt32 ((Int32.toUInt32 (((x0) ^^^ (-1 : Int32)) &&& ((x0) - (1 : Int32))) >>> (Int32.toUInt32 (16 : Int32) &&& Int32.toUInt32 31)).toInt32) >>> (Int32.toUInt32 (8 : Int32) &&& Int32.toUInt32 31)).toInt32) >>> (Int32.toUInt32 (4 : Int32) &&& Int32.toUInt32 31)).toInt32 : Int32) ≤ (4 : Int32) then ((1 + 16 + 8 + 4) + ((Int32.toUInt32 ((Int32.toUInt32 ((Int32.toUInt32 ((Int32.toUInt32 (((x0) ^^^ (-1 : Int32)) &&& ((x0) - (1 : Int32))) >>> (Int32.toUInt32 (16 : Int32) &&& Int32.toUInt32 31)).toInt32) >>> (Int32.toUInt32 (8 : Int32) &&& Int32.toUInt32 31)).toInt32) >>> (Int32.toUInt32 (4 : Int32) &&& Int32.toUInt32 31)).toInt32) >>> (Int32.toUInt32 (1 : Int32) &&& Int32.toUInt32 31)).toInt32)) else ((1 + 16 + 8 + 4 + 2) + ((Int32.toUInt32 ((Int32.toUInt32 ((Int32.toUInt32 ((Int32.toUInt32 ((Int32.toUInt32 (((x0) ^^^ (-1 : Int32)) &&& ((x0) - (1 : Int32))) >>> (Int32.toUInt32 (16 : Int32) &&& Int32.toUInt32 31)).toInt32) >>> (Int32.toUInt32 (8 : Int32) &&& Int32.toUInt32 31)).toInt32) >>> (Int32.toUInt32 (4 : Int32) &&& Int32.toUInt32 31)).toInt32) >>> (Int32.toUInt32 (2 : Int32) &&& Int32.toUInt32 31)).toInt32) >>> (Int32.toUInt32 (1 : Int32) &&& Int32.toUInt32 31)).toInt32)))))) else ((((x0) ^^^ (-1 : Int32)) &&& ((x0) - (1 : Int32))) &&& (32 : Int32))
theorem tz_bi : ∀ j, j < 32 → tz (bi j) = nI j := by decide +kernel
theorem c_ntz (j : Nat) (hj : j < 32) : kJ6_numberOfTrailingZeros_0f7a4 (bi j) g M (fun v M' => M' = M ∧ v = nI j) := by
  rw [← tz_bi j hj]
  generalize bi j = x
  refine eJ6_numberOfTrailingZeros_0f7a4 ?_
  unfold tz
  repeat' (first | apply And.intro | intro _)
  all_goals first | exact Eq.refl M | (simp only [*, if_true, if_false]; done) | (simp only [*, if_true, if_false, not_false_eq_true]; done) | (simp [*]; done)
theorem two_sh : ∀ i, i < 10 → (2 : Int32) <<< (nI (2 * i) &&& 31) = bi (2 * i + 1) := by decide +kernel
def soF (p n : Int32) (i : Nat) : Bool := bt (if i % 2 = 0 then p else n) (i / 2)
theorem soF_0 (p n : Int32) (i : Nat) : soF p n (2 * i) = bt p i := by unfold soF; rw [if_pos (by omega), show 2 * i / 2 = i by omega]
theorem soF_1 (p n : Int32) (i : Nat) : soF p n (2 * i + 1) = bt n i := by unfold soF; rw [if_neg (by omega), show (2 * i + 1) / 2 = i by omega]
theorem r_literalsOf (p n : Int32) : kX10_literalsOf p n g M (fun v M' => M' = M ∧ v = so p n) := by
  refine eX10_literalsOf ?_
  have key : ∀ m i, i + m = 10 → LX10_literalsOf_4 p n (bmA (soF p n) (2 * i)) (nI i) g M (fun v M' => M' = M ∧ v = so p n) := by
    intro m
    induction m with
    | zero =>
      intro i hi
      have : i = 10 := by omega
      subst this
      refine bX10_literalsOf_4 ⟨fun _ => ⟨rfl, ?_⟩, fun h => absurd (by decide) h⟩
      refine bm_eq (fun i hi => ?_)
      rw [bmA_bt _ (2 * 10) (by decide) i hi]; rfl
    | succ m ih =>
      intro i hi
      have nx := ih (i + 1) (by omega)
      rw [show 2 * (i + 1) = 2 * i + 1 + 1 by omega, show bmA (soF p n) (2 * i + 1 + 1) = (bmA (soF p n) (2 * i) ||| (if soF p n (2 * i) then bi (2 * i) else 0)) ||| (if soF p n (2 * i + 1) then bi (2 * i + 1) else 0) from rfl, soF_0, soF_1] at nx
      refine bX10_literalsOf_4 ⟨fun h => ?_, fun _ => ⟨_, r_has p (show i < 32 by omega), fun v1 M1 hq => ?_⟩⟩
      · rw [show (10 : Int32) = nI 10 from rfl, nI_leI (by decide) (by omega)] at h; omega
      · obtain ⟨rfl, rfl⟩ := hq
        refine ⟨fun h1 => ⟨_, r_has n (show i < 32 by omega), fun v2 M2 hq => ?_⟩, fun h1 => ⟨_, r_has n (show i < 32 by omega), fun v2 M2 hq => ?_⟩⟩
        · obtain ⟨rfl, rfl⟩ := hq
          have hp : bt p i = false := (if01 _).1.mp h1
          rw [hp] at nx
          refine ⟨fun h2 => ?_, fun h2 => ?_⟩
          · rw [(if01 _).1.mp h2] at nx; rw [nI_1]; exact nx
          · rw [(if01 _).2.mp h2] at nx; rw [nI_1, two_nI, two_sh i (by omega)]; exact nx
        · obtain ⟨rfl, rfl⟩ := hq
          have hp : bt p i = true := (if01 _).2.mp h1
          rw [hp] at nx
          refine ⟨fun h2 => ?_, fun h2 => ?_⟩
          · rw [(if01 _).1.mp h2] at nx; rw [nI_1, two_nI]; exact nx
          · rw [(if01 _).2.mp h2] at nx; rw [nI_1, two_nI, two_sh i (by omega)]; exact nx
  exact key 10 0 (by omega)
theorem so_mask (a : Int32) : so a ((a ^^^ (-1)) &&& 1023) = so a (a ^^^ (-1)) := by
  unfold so
  refine b_ext (fun i hi => ?_)
  rw [bm_bt _ hi, bm_bt _ hi]
  by_cases h20 : i < 20
  · by_cases h : i % 2 = 0
    · simp [h]
    · rw [if_neg h, if_neg h, b_and, k_1023 _ (by omega), decide_eq_true (show i / 2 < 10 by omega)]; simp
  · simp [h20]
/-- the literals that an assignment makes true -/
def tl (a : Int32) : Int32 := so a (a ^^^ (-1))
theorem b_tl (a : Int32) {i : Nat} (hi : i < 20) : bt (tl a) i = if i % 2 = 0 then bt a (i / 2) else !bt a (i / 2) := by
  unfold tl so
  rw [bm_bt _ (by omega), decide_eq_true hi, Bool.true_and]
  by_cases h : i % 2 = 0
  · rw [if_pos h, if_pos h]
  · rw [if_neg h, if_neg h, b_not (by omega)]
theorem r_truths (a : Int32) : kX10_truths a g M (fun v M' => M' = M ∧ v = tl a) := eX10_truths ⟨_, r_literalsOf _ _, fun v1 M1 h => ⟨h.1, h.2.trans (so_mask a)⟩⟩
end LIT
