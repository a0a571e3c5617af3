/-! spreading and gathering of bits -/
theorem b_sr1 (x : Int32) {i : Nat} (hi : i < 32) : bt (x >>> ((1 : Int32) &&& 31)) i = if 1 + i < 32 then bt x (1 + i) else bt x 31 := b_sshr 1 (by decide) x hi
theorem b_sr2 (x : Int32) {i : Nat} (hi : i < 32) : bt (x >>> ((2 : Int32) &&& 31)) i = if 2 + i < 32 then bt x (2 + i) else bt x 31 := b_sshr 2 (by decide) x hi
theorem b_sr4 (x : Int32) {i : Nat} (hi : i < 32) : bt (x >>> ((4 : Int32) &&& 31)) i = if 4 + i < 32 then bt x (4 + i) else bt x 31 := b_sshr 4 (by decide) x hi
theorem b_sr8 (x : Int32) {i : Nat} (hi : i < 32) : bt (x >>> ((8 : Int32) &&& 31)) i = if 8 + i < 32 then bt x (8 + i) else bt x 31 := b_sshr 8 (by decide) x hi
theorem b_sl1 (x : Int32) {i : Nat} (hi : i < 32) : bt (x <<< ((1 : Int32) &&& 31)) i = (decide (1 ≤ i) && bt x (i - 1)) := b_shl 1 (by decide) x hi
theorem b_sl2 (x : Int32) {i : Nat} (hi : i < 32) : bt (x <<< ((2 : Int32) &&& 31)) i = (decide (2 ≤ i) && bt x (i - 2)) := b_shl 2 (by decide) x hi
theorem b_sl4 (x : Int32) {i : Nat} (hi : i < 32) : bt (x <<< ((4 : Int32) &&& 31)) i = (decide (4 ≤ i) && bt x (i - 4)) := b_shl 4 (by decide) x hi
theorem k_33 : ∀ i, i < 32 → bt 858993459 i = decide (i % 4 < 2) := by decide +kernel
theorem k_0F : ∀ i, i < 32 → bt 252645135 i = decide (i % 8 < 4) := by decide +kernel
theorem k_FF : ∀ i, i < 32 → bt 16711935 i = (decide (i % 16 < 8) && decide (i < 24)) := by decide +kernel
theorem k_55 : ∀ i, i < 32 → bt 1431655765 i = decide (i % 2 = 0) := by decide +kernel
theorem k_1023 : ∀ i, i < 32 → bt 1023 i = decide (i < 10) := by decide +kernel
def ga (s : Int32) : Int32 :=
  let x0 := s &&& 349525
  let x1 := (x0 ||| (x0 >>> ((1 : Int32) &&& 31))) &&& 858993459
  let x2 := (x1 ||| (x1 >>> ((2 : Int32) &&& 31))) &&& 252645135
  let x3 := (x2 ||| (x2 >>> ((4 : Int32) &&& 31))) &&& 16711935
  (x3 ||| (x3 >>> ((8 : Int32) &&& 31))) &&& 1023
theorem b_ga (s : Int32) : ∀ i, i < 32 → bt (ga s) i = (decide (i < 10) && bt s (2 * i)) := by
  intro i hi
  unfold ga
  rcases (show i = 0 ∨ i = 1 ∨ i = 2 ∨ i = 3 ∨ i = 4 ∨ i = 5 ∨ i = 6 ∨ i = 7 ∨ i = 8 ∨ i = 9 ∨ i = 10 ∨ i = 11 ∨ i = 12 ∨ i = 13 ∨ i = 14 ∨ i = 15 ∨ i = 16 ∨ i = 17 ∨ i = 18 ∨ i = 19 ∨ i = 20 ∨ i = 21 ∨ i = 22 ∨ i = 23 ∨ i = 24 ∨ i = 25 ∨ i = 26 ∨ i = 27 ∨ i = 28 ∨ i = 29 ∨ i = 30 ∨ i = 31 by omega) with rfl | rfl | rfl | rfl | rfl | rfl | rfl | rfl | rfl | rfl | rfl | rfl | rfl | rfl | rfl | rfl | rfl | rfl | rfl | rfl | rfl | rfl | rfl | rfl | rfl | rfl | rfl | rfl | rfl | rfl | rfl | rfl <;> simp [b_and, b_or, b_sr1, b_sr2, b_sr4, b_sr8, k_33, k_0F, k_FF, k_1023, b_pos]
def sp (s : Int32) : Int32 :=
  let x0 := s &&& 1023
  let x1 := (x0 ||| (x0 <<< ((8 : Int32) &&& 31))) &&& 16711935
  let x2 := (x1 ||| (x1 <<< ((4 : Int32) &&& 31))) &&& 252645135
  let x3 := (x2 ||| (x2 <<< ((2 : Int32) &&& 31))) &&& 858993459
  (x3 ||| (x3 <<< ((1 : Int32) &&& 31))) &&& 1431655765
theorem b_sp (s : Int32) : ∀ i, i < 32 → bt (sp s) i = (decide (i < 20) && (decide (i % 2 = 0) && bt s (i / 2))) := by
  intro i hi
  unfold sp
  rcases (show i = 0 ∨ i = 1 ∨ i = 2 ∨ i = 3 ∨ i = 4 ∨ i = 5 ∨ i = 6 ∨ i = 7 ∨ i = 8 ∨ i = 9 ∨ i = 10 ∨ i = 11 ∨ i = 12 ∨ i = 13 ∨ i = 14 ∨ i = 15 ∨ i = 16 ∨ i = 17 ∨ i = 18 ∨ i = 19 ∨ i = 20 ∨ i = 21 ∨ i = 22 ∨ i = 23 ∨ i = 24 ∨ i = 25 ∨ i = 26 ∨ i = 27 ∨ i = 28 ∨ i = 29 ∨ i = 30 ∨ i = 31 by omega) with rfl | rfl | rfl | rfl | rfl | rfl | rfl | rfl | rfl | rfl | rfl | rfl | rfl | rfl | rfl | rfl | rfl | rfl | rfl | rfl | rfl | rfl | rfl | rfl | rfl | rfl | rfl | rfl | rfl | rfl | rfl | rfl <;> simp [b_and, b_or, b_sl1, b_sl2, b_sl4, b_shl8, k_33, k_0F, k_FF, k_55, k_1023]
section SPR
variable {g : mj_S} {M : mj_M}
theorem c_variablesOf (s : Int32) : kX9_variablesOf s g M (fun v M' => M' = M ∧ v = vs s true) := by
  refine eX9_variablesOf ⟨rfl, ?_⟩
  show ga s = vs s true
  exact bm_eq (fun i hi => by rw [b_ga s i hi]; rfl)
theorem vs_sh (s : Int32) : vs (s >>> ((1 : Int32) &&& 31)) true = vs s false := by
  refine bm_eq (fun i hi => ?_)
  unfold vs
  rw [bm_bt _ hi]
  by_cases h : i < 10
  · rw [decide_eq_true h]
    simp only [Bool.true_and, if_true, Nat.add_zero]
    rw [b_sr1 _ (by omega), if_pos (by omega), Nat.add_comm]; rfl
  · rw [decide_eq_false h]; rfl
theorem c_half (s : Int32) (p : Bool) : kX9_half s (if p then 1 else 0) g M (fun v M' => M' = M ∧ v = vs s p) := by
  refine eX9_half ⟨fun h => ⟨_, c_variablesOf _, fun v1 M1 hq => ?_⟩, fun h => ⟨_, c_variablesOf _, fun v1 M1 hq => ?_⟩⟩
  · cases p with
    | true => exact absurd h (by decide)
    | false => exact ⟨hq.1, hq.2.trans (vs_sh s)⟩
  · cases p with
    | false => exact absurd rfl h
    | true => exact hq
theorem c_positiveLiterals (s : Int32) : kX9_positiveLiterals s g M (fun v M' => M' = M ∧ v = sp s) := eX9_positiveLiterals ⟨rfl, rfl⟩
/-- the literals of two sets of variables -/
def so (p n : Int32) : Int32 := bm (fun i => decide (i < 20) && bt (if i % 2 = 0 then p else n) (i / 2))
theorem so_eq (p n : Int32) : sp p ||| (sp n <<< ((1 : Int32) &&& 31)) = so p n := by
  refine bm_eq (fun i hi => ?_)
  rw [b_or, b_sp p i hi, b_sl1 _ hi, b_sp n (i - 1) (by omega)]
  by_cases h : i % 2 = 0
  · rw [if_pos h]
    by_cases h1 : 1 ≤ i
    · simp [h, show ¬ (i - 1) % 2 = 0 by omega]
    · simp [h, h1]
  · rw [if_neg h]
    simp [h, show (i - 1) % 2 = 0 by omega, show 1 ≤ i by omega, show (i - 1) / 2 = i / 2 by omega]
    by_cases h20 : i < 20
    · simp [h20, show i - 1 < 20 by omega]
    · simp [h20, show ¬ i - 1 < 20 by omega]
theorem c_setOf (p n : Int32) : kX9_setOf p n g M (fun v M' => M' = M ∧ v = so p n) := by
  refine eX9_setOf ⟨_, c_positiveLiterals p, fun v1 M1 h1 => ⟨_, c_positiveLiterals n, fun v2 M2 h2 => ?_⟩⟩
  obtain ⟨rfl, rfl⟩ := h1
  obtain ⟨rfl, rfl⟩ := h2
  exact ⟨rfl, so_eq p n⟩
theorem c_trueLiterals (a : Int32) : kX9_trueLiterals a g M (fun v M' => M' = M ∧ v = so a (a ^^^ (-1))) := eX9_trueLiterals ⟨_, c_setOf _ _, fun v1 M1 h => h⟩
end SPR
