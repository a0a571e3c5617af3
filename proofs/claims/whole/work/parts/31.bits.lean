/-! ===== Int32 by its bits (the kit's family bt) ===== -/
def bt (x : Int32) (i : Nat) : Bool := x.toBitVec.getLsbD i
theorem b_ext {x y : Int32} (h : ∀ i, i < 32 → bt x i = bt y i) : x = y := Int32.toBitVec_inj.mp (BitVec.eq_of_getLsbD_eq (fun i hi => h i hi))
theorem b_or (x y : Int32) (i : Nat) : bt (x ||| y) i = (bt x i || bt y i) := by unfold bt; rw [Int32.toBitVec_or, BitVec.getLsbD_or]
theorem b_and (x y : Int32) (i : Nat) : bt (x &&& y) i = (bt x i && bt y i) := by unfold bt; rw [Int32.toBitVec_and, BitVec.getLsbD_and]
theorem b_xor (x y : Int32) (i : Nat) : bt (x ^^^ y) i = (bt x i ^^ bt y i) := by unfold bt; rw [Int32.toBitVec_xor, BitVec.getLsbD_xor]
theorem b_big {x : Int32} {i : Nat} (h : 32 ≤ i) : bt x i = false := BitVec.getLsbD_of_ge _ _ h
theorem b_255 (i : Nat) : bt 255 i = decide (i < 8) := by
  rcases Nat.lt_or_ge i 32 with h | h
  · exact (by decide +kernel : ∀ i, i < 32 → bt 255 i = decide (i < 8)) i h
  · rw [b_big h, decide_eq_false (by omega)]
theorem b_65535 (i : Nat) : bt 65535 i = decide (i < 16) := by
  rcases Nat.lt_or_ge i 32 with h | h
  · exact (by decide +kernel : ∀ i, i < 32 → bt 65535 i = decide (i < 16)) i h
  · rw [b_big h, decide_eq_false (by omega)]
theorem b_m1 : ∀ i, i < 32 → bt (-1) i = true := by decide +kernel
theorem b_0 (i : Nat) : bt 0 i = false := BitVec.getLsbD_zero
theorem s_l : ∀ n, n < 32 → ((nI n &&& 31).toBitVec.smod 32).toNat = n := by decide +kernel
theorem s_u : ∀ n, n < 32 → (((nI n).toUInt32 &&& Int32.toUInt32 31).toBitVec % 32).toNat = n := by decide +kernel
theorem b_shl (n : Nat) (hn : n < 32) (x : Int32) {i : Nat} (hi : i < 32) : bt (x <<< (nI n &&& 31)) i = (decide (n ≤ i) && bt x (i - n)) := by
  unfold bt
  rw [Int32.toBitVec_shiftLeft]
  show (x.toBitVec <<< ((nI n &&& 31).toBitVec.smod 32).toNat).getLsbD i = _
  rw [s_l n hn, BitVec.getLsbD_shiftLeft]
  rcases Nat.lt_or_ge i n with h | h
  · simp [h, Nat.not_le.mpr h]
  · simp [hi, h, Nat.not_lt.mpr h]
theorem b_ushr (n : Nat) (hn : n < 32) (x : Int32) (i : Nat) : bt ((x.toUInt32 >>> ((nI n).toUInt32 &&& Int32.toUInt32 31)).toInt32) i = bt x (n + i) := by
  show (x.toUInt32 >>> ((nI n).toUInt32 &&& Int32.toUInt32 31)).toBitVec.getLsbD i = x.toUInt32.toBitVec.getLsbD (n + i)
  rw [UInt32.toBitVec_shiftRight]
  show (x.toUInt32.toBitVec >>> (((nI n).toUInt32 &&& Int32.toUInt32 31).toBitVec % 32).toNat).getLsbD i = _
  rw [s_u n hn, BitVec.getLsbD_ushiftRight]
theorem b_sshr (n : Nat) (hn : n < 32) (x : Int32) {i : Nat} (hi : i < 32) : bt (x >>> (nI n &&& 31)) i = if n + i < 32 then bt x (n + i) else bt x 31 := by
  unfold bt
  rw [Int32.toBitVec_shiftRight]
  show (x.toBitVec.sshiftRight ((nI n &&& 31).toBitVec.smod 32).toNat).getLsbD i = _
  rw [s_l n hn, BitVec.getLsbD_sshiftRight, BitVec.msb_eq_getLsbD_last]
  simp [hi]
theorem b_shl8 (x : Int32) {i : Nat} (hi : i < 32) : bt (x <<< ((8 : Int32) &&& 31)) i = (decide (8 ≤ i) && bt x (i - 8)) := b_shl 8 (by omega) x hi
theorem b_shl16 (x : Int32) {i : Nat} (hi : i < 32) : bt (x <<< ((16 : Int32) &&& 31)) i = (decide (16 ≤ i) && bt x (i - 16)) := b_shl 16 (by omega) x hi
theorem b_shl24 (x : Int32) {i : Nat} (hi : i < 32) : bt (x <<< ((24 : Int32) &&& 31)) i = (decide (24 ≤ i) && bt x (i - 24)) := b_shl 24 (by omega) x hi
/-! numbers by their bits -/
theorem b_1 (i : Nat) : bt 1 i = decide (i = 0) := by
  rcases Nat.lt_or_ge i 32 with h | h
  · exact (by decide +kernel : ∀ i, i < 32 → bt 1 i = decide (i = 0)) i h
  · rw [b_big h, decide_eq_false (by omega)]
def bi (j : Nat) : Int32 := (1 : Int32) <<< (nI j &&& 31)
theorem b_bi {j i : Nat} (hj : j < 32) (hi : i < 32) : bt (bi j) i = decide (i = j) := by
  unfold bi
  rw [b_shl j hj 1 hi, b_1]
  by_cases h : i = j
  · subst h; simp
  · rw [decide_eq_false h]
    by_cases h2 : j ≤ i
    · rw [decide_eq_false (show ¬ i - j = 0 by omega)]; simp
    · simp [h2]
theorem bz {x : Int32} : x = 0 ↔ ∀ i, i < 32 → bt x i = false := ⟨fun h i _ => by rw [h]; exact b_0 i, fun h => b_ext (fun i hi => by rw [h i hi, b_0])⟩
theorem bnz {x : Int32} : ¬ x = 0 ↔ ∃ i, i < 32 ∧ bt x i = true := by
  rw [bz]
  constructor
  · intro h
    refine Classical.byContradiction (fun hn => h (fun i hi => ?_))
    cases hb : bt x i with
    | false => rfl
    | true => exact absurd ⟨i, hi, hb⟩ hn
  · rintro ⟨i, hi, hb⟩ h
    rw [h i hi] at hb; cases hb
theorem b_not {x : Int32} {i : Nat} (hi : i < 32) : bt (x ^^^ (-1)) i = !bt x i := by rw [b_xor, b_m1 i hi]; cases bt x i <;> rfl
theorem b_and1 {x : Int32} : x &&& 1 = 0 ↔ bt x 0 = false := by
  rw [bz]
  constructor
  · intro h
    have := h 0 (by decide)
    rw [b_and, b_1] at this
    simpa using this
  · intro h i hi
    rw [b_and, b_1]
    by_cases h0 : i = 0
    · subst h0; simp [h]
    · simp [h0]
theorem b_and1' {x : Int32} : x &&& 1 = 1 ↔ bt x 0 = true := by
  constructor
  · intro h
    cases hb : bt x 0 with
    | true => rfl
    | false => rw [b_and1.mpr hb] at h; exact absurd h (by decide)
  · intro h
    refine b_ext (fun i hi => ?_)
    rw [b_and, b_1]
    by_cases h0 : i = 0
    · subst h0; simp [h]
    · simp [h0]
theorem b_has {x : Int32} {j : Nat} (hj : j < 32) : bt (x >>> (nI j &&& 31)) 0 = bt x j := by rw [b_sshr j hj x (by decide), if_pos (by omega)]; rfl
/-- the number with the bits f -/
def bmA (f : Nat → Bool) : Nat → Int32
  | 0 => 0
  | n + 1 => bmA f n ||| (if f n then bi n else 0)
def bm (f : Nat → Bool) : Int32 := bmA f 32
theorem bmA_bt (f : Nat → Bool) : ∀ n, n ≤ 32 → ∀ i, i < 32 → bt (bmA f n) i = (decide (i < n) && f i)
  | 0, _, i, _ => by rw [show bmA f 0 = 0 from rfl, b_0]; simp
  | n + 1, hn, i, hi => by
    rw [show bmA f (n + 1) = bmA f n ||| (if f n then bi n else 0) from rfl, b_or, bmA_bt f n (by omega) i hi]
    by_cases h : i = n
    · subst h
      cases hf : f i with
      | true => simp [b_bi (show i < 32 by omega) hi]
      | false => simp [b_0]
    · have h1 : decide (i < n + 1) = decide (i < n) := by
        by_cases h2 : i < n
        · rw [decide_eq_true h2, decide_eq_true (by omega)]
        · rw [decide_eq_false h2, decide_eq_false (by omega)]
      rw [h1]
      cases hf : f n with
      | true => simp [b_bi (show n < 32 by omega) hi, h]
      | false => simp [b_0]
theorem bm_bt (f : Nat → Bool) {i : Nat} (hi : i < 32) : bt (bm f) i = f i := by
  unfold bm
  rw [bmA_bt f 32 (Nat.le_refl _) i hi, decide_eq_true hi]; simp
theorem bm_eq {x : Int32} {f : Nat → Bool} (h : ∀ i, i < 32 → bt x i = f i) : x = bm f := b_ext (fun i hi => by rw [h i hi, bm_bt f hi])
/-- the complements of all literals; is there a pair of complements -/
def ng (x : Int32) : Int32 := ((x &&& 349525) <<< ((1 : Int32) &&& 31)) ||| ((x >>> ((1 : Int32) &&& 31)) &&& 349525)
theorem b_pos : ∀ i, i < 32 → bt 349525 i = (decide (i < 20) && decide (i % 2 = 0)) := by decide +kernel
def fl (i : Nat) : Nat := if i % 2 = 0 then i + 1 else i - 1
theorem fl_fl (i : Nat) : fl (fl i) = i := by
  unfold fl
  by_cases h : i % 2 = 0
  · rw [if_pos h, if_neg (by omega)]; omega
  · rw [if_neg h, if_pos (by omega)]; omega
theorem fl_lt {i n : Nat} (h : i < 2 * n) : fl i < 2 * n := by
  unfold fl
  split <;> omega
theorem fl_div (i : Nat) : fl i / 2 = i / 2 := by
  unfold fl
  split <;> omega
theorem fl_ne (i : Nat) : fl i ≠ i := by
  unfold fl
  split <;> omega
theorem b_ng (x : Int32) {i : Nat} (hi : i < 32) : bt (ng x) i = (decide (i < 20) && bt x (fl i)) := by
  unfold ng
  rw [b_or, show ((1 : Int32) &&& 31) = (nI 1 &&& 31) from rfl, b_shl 1 (by decide) _ hi, b_and, b_and, b_sshr 1 (by decide) _ hi, b_pos i hi]
  unfold fl
  by_cases h0 : i % 2 = 0
  · rw [if_pos h0]
    by_cases h20 : i < 20
    · rw [if_pos (by omega)]
      have e : bt 349525 (i - 1) = (decide (i - 1 < 20) && decide ((i - 1) % 2 = 0)) := b_pos _ (by omega)
      rw [e, Nat.add_comm 1 i]
      by_cases h1 : 1 ≤ i
      · simp [h0, h20, show ¬ (i - 1) % 2 = 0 by omega]
      · simp [h0, h20, h1]
    · have e : bt 349525 (i - 1) = (decide (i - 1 < 20) && decide ((i - 1) % 2 = 0)) := b_pos _ (by omega)
      rw [e]
      simp [h20, show ¬ (i - 1) % 2 = 0 by omega]
  · rw [if_neg h0]
    have e : bt 349525 (i - 1) = (decide (i - 1 < 20) && decide ((i - 1) % 2 = 0)) := b_pos _ (by omega)
    rw [e]
    by_cases h20 : i < 20
    · simp [h0, h20, show (i - 1) % 2 = 0 by omega, show 1 ≤ i by omega, show i - 1 < 20 by omega]
    · simp [h0, h20, show ¬ i - 1 < 20 by omega]
def tv (x : Int32) : Bool := !decide (x &&& ng x = 0)
theorem tv_iff (x : Int32) : tv x = true ↔ ∃ i, i < 20 ∧ bt x i = true ∧ bt x (fl i) = true := by
  unfold tv
  rw [Bool.not_eq_true', decide_eq_false_iff_not, bnz]
  constructor
  · rintro ⟨i, hi, h⟩
    rw [b_and, b_ng x hi] at h
    simp only [Bool.and_eq_true, decide_eq_true_eq] at h
    exact ⟨i, h.2.1, h.1, h.2.2⟩
  · rintro ⟨i, hi, h1, h2⟩
    refine ⟨i, by omega, ?_⟩
    rw [b_and, b_ng x (by omega), h1, h2, decide_eq_true hi]; rfl
theorem tv_comp (x : Int32) : ((x &&& (x >>> ((1 : Int32) &&& 31))) &&& 349525 = 0) ↔ tv x = false := by
  have h1 : (¬ (x &&& (x >>> ((1 : Int32) &&& 31))) &&& 349525 = 0) ↔ tv x = true := by
    rw [bnz, tv_iff]
    constructor
    · rintro ⟨i, hi, h⟩
      rw [b_and, b_and, show ((1 : Int32) &&& 31) = (nI 1 &&& 31) from rfl, b_sshr 1 (by decide) _ hi, b_pos i hi] at h
      simp only [Bool.and_eq_true, decide_eq_true_eq] at h
      obtain ⟨⟨h2, h3⟩, h4, h5⟩ := h
      rw [if_pos (by omega), Nat.add_comm] at h3
      exact ⟨i, h4, h2, by unfold fl; rw [if_pos h5]; exact h3⟩
    · rintro ⟨i, hi, h2, h3⟩
      have key : ∀ j, j < 20 → j % 2 = 0 → bt x j = true → bt x (j + 1) = true → ∃ i, i < 32 ∧ bt ((x &&& (x >>> ((1 : Int32) &&& 31))) &&& 349525) i = true := by
        intro j hj hj2 ha hb
        refine ⟨j, by omega, ?_⟩
        rw [b_and, b_and, show ((1 : Int32) &&& 31) = (nI 1 &&& 31) from rfl, b_sshr 1 (by decide) _ (by omega), b_pos j (by omega), if_pos (by omega), Nat.add_comm, ha, hb]
        simp [hj, hj2]
      unfold fl at h3
      by_cases h5 : i % 2 = 0
      · rw [if_pos h5] at h3
        exact key i hi h5 h2 h3
      · rw [if_neg h5] at h3
        exact key (i - 1) (by omega) (by omega) h3 (by rw [show i - 1 + 1 = i by omega]; exact h2)
  constructor
  · intro h
    cases ht : tv x with
    | false => rfl
    | true => exact absurd h (h1.mpr ht)
  · intro h
    refine Classical.byContradiction (fun hn => ?_)
    rw [h1.mp hn] at h; cases h
