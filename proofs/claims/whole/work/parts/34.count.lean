/-! counting bits -/
def pcA (x : Int32) : Nat → Nat
  | 0 => 0
  | n + 1 => pcA x n + if bt x n then 1 else 0
def pc (x : Int32) : Nat := pcA x 32
theorem pcA_le (x : Int32) : ∀ n, pcA x n ≤ n
  | 0 => Nat.le_refl 0
  | n + 1 => by
    have := pcA_le x n
    show pcA x n + (if bt x n then 1 else 0) ≤ n + 1
    split <;> omega
theorem pc_le (x : Int32) : pc x ≤ 32 := pcA_le x 32
theorem pcA_0 : ∀ n, pcA 0 n = 0
  | 0 => rfl
  | n + 1 => by show pcA 0 n + (if bt 0 n then 1 else 0) = 0; rw [pcA_0 n, b_0]; rfl
theorem pcA_cong {x y : Int32} : ∀ n, (∀ i, i < n → bt x i = bt y i) → pcA x n = pcA y n
  | 0, _ => rfl
  | n + 1, h => by
    show pcA x n + (if bt x n then 1 else 0) = pcA y n + (if bt y n then 1 else 0)
    rw [pcA_cong n (fun i hi => h i (by omega)), h n (by omega)]
/-- one bit more -/
theorem pcA_set {x y : Int32} {j : Nat} (hj1 : bt x j = true) (hj0 : bt y j = false) (ho : ∀ i, i < 32 → i ≠ j → bt x i = bt y i) : ∀ n, n ≤ 32 → pcA x n = pcA y n + if j < n then 1 else 0
  | 0, _ => by simp [pcA]
  | n + 1, hn => by
    show pcA x n + (if bt x n then 1 else 0) = pcA y n + (if bt y n then 1 else 0) + if j < n + 1 then 1 else 0
    rw [pcA_set hj1 hj0 ho n (by omega)]
    by_cases h : n = j
    · subst h; rw [hj1, hj0]; simp
    · rw [ho n (by omega) h]
      by_cases h2 : j < n
      · rw [if_pos h2, if_pos (show j < n + 1 by omega)]; omega
      · rw [if_neg h2, if_neg (show ¬ j < n + 1 by omega)]; omega
theorem pc_set {x y : Int32} {j : Nat} (hj : j < 32) (hj1 : bt x j = true) (hj0 : bt y j = false) (ho : ∀ i, i < 32 → i ≠ j → bt x i = bt y i) : pc x = pc y + 1 := by
  unfold pc
  rw [pcA_set hj1 hj0 ho 32 (Nat.le_refl _), if_pos hj]
theorem pc_zero {x : Int32} : pc x = 0 ↔ x = 0 := by
  constructor
  · intro h
    refine Classical.byContradiction (fun hn => ?_)
    obtain ⟨i, hi, hb⟩ := bnz.mp hn
    have h2 := pc_set (x := x) (y := bm (fun k => decide (k ≠ i) && bt x k)) hi hb (by rw [bm_bt _ hi]; simp) (fun k hk hne => by rw [bm_bt _ hk]; simp [hne])
    omega
  · intro h; subst h; exact pcA_0 32
def tn (x : Int32) : Nat := x.toBitVec.toNat
theorem bt_tn (x : Int32) (i : Nat) : bt x i = (tn x).testBit i := rfl
theorem tn_lt (x : Int32) : tn x < 2 ^ 32 := x.toBitVec.isLt
theorem tn_nI {n : Nat} (h : n < 2 ^ 32) : tn (nI n) = n := pk_tn h
theorem tn_pred {x : Int32} (h : ¬ x = 0) : tn (x - 1) = tn x - 1 ∧ 0 < tn x := by
  have h0 : 0 < tn x := by
    rcases Nat.eq_zero_or_pos (tn x) with hz | hz
    · refine absurd ?_ h
      refine b_ext (fun i _ => ?_)
      rw [bt_tn, hz, b_0]; simp
    · exact hz
  refine ⟨?_, h0⟩
  have hlt := tn_lt x
  unfold tn at *
  rw [Int32.toBitVec_sub, BitVec.toNat_sub]
  have h1 : (Int32.toBitVec 1).toNat = 1 := by decide
  rw [h1]
  omega
theorem low_bit {n : Nat} (h : 0 < n) : ∃ j m, n = 2 ^ j * (2 * m + 1) := by
  induction n using Nat.strongRecOn with
  | _ n ih =>
    by_cases h2 : n % 2 = 1
    · exact ⟨0, n / 2, by omega⟩
    · obtain ⟨j, m, e⟩ := ih (n / 2) (by omega) (by omega)
      refine ⟨j + 1, m, ?_⟩
      have h3 : n = 2 * (n / 2) := by omega
      rw [h3, e, Nat.pow_succ, Nat.mul_comm (2 ^ j) 2, Nat.mul_assoc]
/-- the lowest bit goes -/
theorem pred_bits {x : Int32} (h : ¬ x = 0) : ∃ j, j < 32 ∧ bt x j = true ∧ (∀ i, i < j → bt x i = false) ∧ (∀ i, i < j → bt (x - 1) i = true) ∧ bt (x - 1) j = false ∧ ∀ i, j < i → bt (x - 1) i = bt x i := by
  obtain ⟨hp, h0⟩ := tn_pred h
  obtain ⟨j, m, e⟩ := low_bit h0
  have hpos : 0 < 2 ^ j := Nat.two_pow_pos j
  have e2 : tn x - 1 = 2 ^ j * (2 * m) + (2 ^ j - 1) := by
    rw [e, Nat.mul_add, Nat.mul_one]
    omega
  have hx : ∀ i, (tn x).testBit i = if i < j then false else (2 * m + 1).testBit (i - j) := by
    intro i
    rw [e, show 2 ^ j * (2 * m + 1) = 2 ^ j * (2 * m + 1) + 0 from rfl, Nat.testBit_two_pow_mul_add _ hpos]
    simp
  have hx1 : ∀ i, (tn (x - 1)).testBit i = if i < j then true else (2 * m).testBit (i - j) := by
    intro i
    rw [hp, e2, Nat.testBit_two_pow_mul_add _ (show 2 ^ j - 1 < 2 ^ j by omega)]
    by_cases hi : i < j
    · rw [if_pos hi, if_pos hi, Nat.testBit_two_pow_sub_one]; simp [hi]
    · rw [if_neg hi, if_neg hi]
  have hj : j < 32 := by
    have h1 := tn_lt x
    rcases Nat.lt_or_ge j 32 with q | q
    · exact q
    · have h2 : 2 ^ 32 ≤ 2 ^ j := Nat.pow_le_pow_right (by decide) q
      have h3 : 2 ^ j * 1 ≤ 2 ^ j * (2 * m + 1) := Nat.mul_le_mul_left _ (by omega)
      omega
  refine ⟨j, hj, ?_, fun i hi => ?_, fun i hi => ?_, ?_, fun i hi => ?_⟩
  · rw [bt_tn, hx, if_neg (Nat.lt_irrefl j), Nat.sub_self, Nat.testBit_zero]; simp
  · rw [bt_tn, hx, if_pos hi]
  · rw [bt_tn, hx1, if_pos hi]
  · rw [bt_tn, hx1, if_neg (Nat.lt_irrefl j), Nat.sub_self, Nat.testBit_zero]; simp
  · rw [bt_tn, bt_tn, hx, hx1, if_neg (by omega), if_neg (by omega)]
    obtain ⟨t, ht⟩ : ∃ t, i - j = t + 1 := ⟨i - j - 1, by omega⟩
    rw [ht, Nat.testBit_succ, Nat.testBit_succ]
    congr 1
    omega
theorem and_pred {x : Int32} (h : ¬ x = 0) : ∃ j, j < 32 ∧ bt x j = true ∧ (∀ i, i < j → bt x i = false) ∧ ∀ i, i < 32 → bt (x &&& (x - 1)) i = (decide (i ≠ j) && bt x i) := by
  obtain ⟨j, hj, h1, h2, h3, h4, h5⟩ := pred_bits h
  refine ⟨j, hj, h1, h2, fun i hi => ?_⟩
  rw [b_and]
  rcases Nat.lt_trichotomy i j with q | q | q
  · rw [h2 i q]; simp
  · subst q; rw [h4]; simp
  · rw [h5 i q]; simp [show i ≠ j by omega]
theorem pc_pred {x : Int32} (h : ¬ x = 0) : pc x = pc (x &&& (x - 1)) + 1 := by
  obtain ⟨j, hj, h1, -, h2⟩ := and_pred h
  exact pc_set hj h1 (by rw [h2 j hj]; simp) (fun i hi hne => by rw [h2 i hi]; simp [hne])
theorem r_bits {g : mj_S} {M : mj_M} (x : Int32) : kX10_bits x g M (fun v M' => M' = M ∧ v = nI (pc x)) := by
  refine eX10_bits ?_
  have key : ∀ m y i, pc y = m → i + m = pc x → LX10_bits_4 (nI i) y g M (fun v M' => M' = M ∧ v = nI (pc x)) := by
    intro m
    induction m with
    | zero =>
      intro y i hy hi
      refine bX10_bits_4 ⟨fun _ => ⟨rfl, by rw [show i = pc x by omega]⟩, fun h => absurd (pc_zero.mp hy) h⟩
    | succ m ih =>
      intro y i hy hi
      refine bX10_bits_4 ⟨fun h => ?_, fun h => ?_⟩
      · rw [pc_zero.mpr h] at hy; omega
      · rw [nI_1]
        have := pc_pred h
        exact ih _ (i + 1) (by omega) (by omega)
  exact key (pc x) x 0 rfl (by omega)
