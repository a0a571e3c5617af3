/-! Integer.bitCount by bytes -/
theorem and_split {a b c d : Nat} (ha : a < 256) (hc : c < 256) : (a + 256 * b) &&& (c + 256 * d) = (a &&& c) + 256 * (b &&& d) := by
  have hac : a &&& c < 2 ^ 8 := Nat.and_lt_two_pow a hc
  apply Nat.eq_of_testBit_eq
  intro i
  rw [Nat.testBit_and, Nat.add_comm a, Nat.add_comm c, Nat.add_comm (a &&& c), show 256 = 2 ^ 8 from rfl, Nat.testBit_two_pow_mul_add _ ha, Nat.testBit_two_pow_mul_add _ hc, Nat.testBit_two_pow_mul_add _ hac]
  by_cases h : i < 8
  · rw [if_pos h, if_pos h, if_pos h, Nat.testBit_and]
  · rw [if_neg h, if_neg h, if_neg h, Nat.testBit_and]
def q1 (n : Nat) : Nat := n - (n / 2 &&& 1431655765)
def q2 (n : Nat) : Nat := (n &&& 858993459) + (n / 4 &&& 858993459)
def q3 (n : Nat) : Nat := (n + n / 16) &&& 252645135
theorem and_lo {n m k : Nat} (h : n < 2 ^ k) : n &&& m = n &&& (m % 2 ^ k) := by
  apply Nat.eq_of_testBit_eq
  intro i
  rw [Nat.testBit_and, Nat.testBit_and, Nat.testBit_mod_two_pow]
  by_cases hi : i < k
  · simp [hi]
  · rw [Nat.testBit_lt_two_pow (Nat.lt_of_lt_of_le h (Nat.pow_le_pow_right (by decide) (by omega)))]; simp
theorem q1_le {n : Nat} : n / 2 &&& 1431655765 ≤ n := Nat.le_trans Nat.and_le_left (Nat.div_le_self _ _)
theorem b256_1 : ∀ a, a < 256 → (a / 2 + 128) &&& 85 = a / 2 &&& 85 := by decide +kernel
theorem q1_split {a b : Nat} (ha : a < 256) (hb : b < 2 ^ 24) : q1 (a + 256 * b) = q1 a + 256 * q1 b := by
  unfold q1
  have e1 : (a + 256 * b) / 2 = (a / 2 + 128 * (b % 2)) + 256 * (b / 2) := by omega
  have e2 : (1431655765 : Nat) = 85 + 256 * 5592405 := rfl
  have e3 : (a / 2 + 128 * (b % 2)) &&& 85 = a / 2 &&& 85 := by
    rcases (show b % 2 = 0 ∨ b % 2 = 1 by omega) with h | h
    · rw [h]; rfl
    · rw [h]; exact b256_1 a ha
  have e4 : a / 2 &&& 1431655765 = a / 2 &&& 85 := and_lo (k := 8) (by omega)
  have e5 : b / 2 &&& 1431655765 = b / 2 &&& 5592405 := by
    rw [and_lo (k := 24) (m := 1431655765) (by omega), and_lo (k := 24) (m := 5592405) (by omega)]
  rw [e1, e4, e5, e2, and_split (by omega) (by decide), e3]
  have l1 : a / 2 &&& 85 ≤ a := Nat.le_trans Nat.and_le_left (Nat.div_le_self _ _)
  have l2 : b / 2 &&& 5592405 ≤ b := Nat.le_trans Nat.and_le_left (Nat.div_le_self _ _)
  omega
theorem b256_2 : ∀ a, a < 256 → ∀ k, k < 4 → (a / 4 + 64 * k) &&& 51 = a / 4 &&& 51 := by decide +kernel
theorem q2_split {a b : Nat} (ha : a < 256) (hb : b < 2 ^ 24) : q2 (a + 256 * b) = q2 a + 256 * q2 b := by
  unfold q2
  have e1 : (a + 256 * b) / 4 = (a / 4 + 64 * (b % 4)) + 256 * (b / 4) := by omega
  have e2 : (858993459 : Nat) = 51 + 256 * 3355443 := rfl
  have e3 : (a / 4 + 64 * (b % 4)) &&& 51 = a / 4 &&& 51 := b256_2 a ha _ (by omega)
  have f1 : a &&& 858993459 = a &&& 51 := and_lo (k := 8) (by omega)
  have f2 : a / 4 &&& 858993459 = a / 4 &&& 51 := and_lo (k := 8) (by omega)
  have f3 : b &&& 858993459 = b &&& 3355443 := by rw [and_lo (k := 24) (m := 858993459) (by omega), and_lo (k := 24) (m := 3355443) (by omega)]
  have f4 : b / 4 &&& 858993459 = b / 4 &&& 3355443 := by rw [and_lo (k := 24) (m := 858993459) (by omega), and_lo (k := 24) (m := 3355443) (by omega)]
  rw [e1, f1, f2, f3, f4, e2, and_split ha (by decide), and_split (by omega) (by decide), e3]
  omega
theorem b256_3 : ∀ a, a < 128 → ∀ k, k < 16 → ((a + (a / 16 + 16 * k)) % 256) &&& 15 = (a + a / 16) &&& 15 := by decide +kernel
/-- bytes of at most 4 and 4 -/
def nb (a : Nat) : Prop := a % 16 ≤ 4 ∧ a / 16 ≤ 4
theorem q3_split {a b : Nat} (ha : nb a) (hb : b < 2 ^ 23) (hb4 : b % 16 ≤ 4) : q3 (a + 256 * b) = q3 a + 256 * q3 b := by
  unfold q3
  obtain ⟨h1, h2⟩ := ha
  have ha8 : a ≤ 68 := by omega
  have e1 : (a + 256 * b) + (a + 256 * b) / 16 = (a + (a / 16 + 16 * (b % 16))) % 256 + 256 * (b + b / 16) := by omega
  have e2 : (252645135 : Nat) = 15 + 256 * 986895 := rfl
  have f1 : (a + a / 16) &&& 252645135 = (a + a / 16) &&& 15 := and_lo (k := 8) (by omega)
  have f3 : (b + b / 16) &&& 252645135 = (b + b / 16) &&& 986895 := by rw [and_lo (k := 24) (m := 252645135) (by omega), and_lo (k := 24) (m := 986895) (by omega)]
  rw [e1, f1, f3, e2, and_split (by omega) (by decide), b256_3 a (by omega) _ (by omega)]
def cnt8 (a : Nat) : Nat := (if a.testBit 0 then 1 else 0) + (if a.testBit 1 then 1 else 0) + (if a.testBit 2 then 1 else 0) + (if a.testBit 3 then 1 else 0) + (if a.testBit 4 then 1 else 0) + (if a.testBit 5 then 1 else 0) + (if a.testBit 6 then 1 else 0) + (if a.testBit 7 then 1 else 0)
theorem byte_ok : ∀ a, a < 256 → q1 a < 256 ∧ q2 (q1 a) ≤ 68 ∧ (q2 (q1 a)) % 16 ≤ 4 ∧ (q2 (q1 a)) / 16 ≤ 4 ∧ q3 (q2 (q1 a)) = cnt8 a := by decide +kernel
theorem cnt8_le (a : Nat) : cnt8 a ≤ 8 := by
  unfold cnt8
  have h : ∀ b : Bool, (if b then 1 else 0) ≤ 1 := by decide
  have := h (a.testBit 0); have := h (a.testBit 1); have := h (a.testBit 2); have := h (a.testBit 3); have := h (a.testBit 4); have := h (a.testBit 5); have := h (a.testBit 6); have := h (a.testBit 7)
  omega
theorem q_all {a0 a1 a2 a3 : Nat} (h0 : a0 < 256) (h1 : a1 < 256) (h2 : a2 < 256) (h3 : a3 < 256) : q3 (q2 (q1 (a0 + 256 * (a1 + 256 * (a2 + 256 * a3))))) = cnt8 a0 + 256 * (cnt8 a1 + 256 * (cnt8 a2 + 256 * cnt8 a3)) ∧ q2 (q1 (a0 + 256 * (a1 + 256 * (a2 + 256 * a3)))) < 2 ^ 31 ∧ q1 (a0 + 256 * (a1 + 256 * (a2 + 256 * a3))) < 2 ^ 32 := by
  obtain ⟨b0, c0, d0, e0, f0⟩ := byte_ok a0 h0
  obtain ⟨b1, c1, d1, e1, f1⟩ := byte_ok a1 h1
  obtain ⟨b2, c2, d2, e2, f2⟩ := byte_ok a2 h2
  obtain ⟨b3, c3, d3, e3, f3⟩ := byte_ok a3 h3
  rw [q1_split h0 (by omega), q1_split h1 (by omega), q1_split h2 (by omega), q2_split b0 (by omega), q2_split b1 (by omega), q2_split b2 (by omega), q3_split ⟨d0, e0⟩ (by omega) (by omega), q3_split ⟨d1, e1⟩ (by omega) (by omega), q3_split ⟨d2, e2⟩ (by omega) d3, f0, f1, f2, f3]
  refine ⟨rfl, by omega, by omega⟩
theorem pcA_8 (x : Int32) (m : Nat) : pcA x (m + 8) = pcA x m + cnt8 (tn x / 2 ^ m % 256) := by
  have hb : ∀ i, i < 8 → bt x (m + i) = (tn x / 2 ^ m % 256).testBit i := by
    intro i hi
    rw [show 256 = 2 ^ 8 from rfl, Nat.testBit_mod_two_pow, decide_eq_true hi, Bool.true_and, Nat.testBit_div_two_pow, bt_tn, Nat.add_comm]
  show pcA x m + (if bt x m then 1 else 0) + (if bt x (m + 1) then 1 else 0) + (if bt x (m + 2) then 1 else 0) + (if bt x (m + 3) then 1 else 0) + (if bt x (m + 4) then 1 else 0) + (if bt x (m + 5) then 1 else 0) + (if bt x (m + 6) then 1 else 0) + (if bt x (m + 7) then 1 else 0) = _
  rw [show bt x m = bt x (m + 0) from rfl, hb 0 (by decide), hb 1 (by decide), hb 2 (by decide), hb 3 (by decide), hb 4 (by decide), hb 5 (by decide), hb 6 (by decide), hb 7 (by decide)]
  unfold cnt8
  omega
theorem pc_bytes (x : Int32) : pc x = cnt8 (tn x % 256) + cnt8 (tn x / 256 % 256) + cnt8 (tn x / 65536 % 256) + cnt8 (tn x / 16777216 % 256) := by
  have h := pcA_8 x 24
  have h2 := pcA_8 x 16
  have h3 := pcA_8 x 8
  have h4 := pcA_8 x 0
  simp only [Nat.zero_add, Nat.pow_zero, Nat.div_one] at h4
  unfold pc
  rw [h, h2, h3, h4, show pcA x 0 = 0 from rfl]
  simp only [Nat.zero_add]
theorem tn_sub {x y : Int32} (h : tn y ≤ tn x) : tn (x - y) = tn x - tn y := by
  have h1 := tn_lt x
  have h2 := tn_lt y
  unfold tn at *
  rw [Int32.toBitVec_sub, BitVec.toNat_sub]
  omega
theorem tn_add {x y : Int32} (h : tn x + tn y < 2 ^ 32) : tn (x + y) = tn x + tn y := by
  unfold tn at *
  rw [Int32.toBitVec_add, BitVec.toNat_add]
  exact Nat.mod_eq_of_lt h
theorem tn_and (x y : Int32) : tn (x &&& y) = tn x &&& tn y := by
  unfold tn
  rw [Int32.toBitVec_and, BitVec.toNat_and]
theorem nI_tn (x : Int32) : nI (tn x) = x := by
  apply Int32.toBitVec_inj.mp
  show BitVec.ofNat 32 x.toBitVec.toNat = x.toBitVec
  rw [BitVec.ofNat_toNat, BitVec.setWidth_eq]
theorem tn_ush (x : Int32) (s : Int32) (k : Nat) (hs : ((s.toUInt32 &&& Int32.toUInt32 31).toBitVec % 32).toNat = k) : tn ((x.toUInt32 >>> (s.toUInt32 &&& Int32.toUInt32 31)).toInt32) = tn x / 2 ^ k := pk_ushr x s k hs
def pop (x : Int32) : Int32 :=
  let i1 := x - (((Int32.toUInt32 x >>> (Int32.toUInt32 (1 : Int32) &&& Int32.toUInt32 31)).toInt32) &&& 1431655765)
  let i2 := (i1 &&& 858993459) + (((Int32.toUInt32 i1 >>> (Int32.toUInt32 (2 : Int32) &&& Int32.toUInt32 31)).toInt32) &&& 858993459)
  let i3 := (i2 + ((Int32.toUInt32 i2 >>> (Int32.toUInt32 (4 : Int32) &&& Int32.toUInt32 31)).toInt32)) &&& 252645135
  let i4 := i3 + ((Int32.toUInt32 i3 >>> (Int32.toUInt32 (8 : Int32) &&& Int32.toUInt32 31)).toInt32)
  let i5 := i4 + ((Int32.toUInt32 i4 >>> (Int32.toUInt32 (16 : Int32) &&& Int32.toUInt32 31)).toInt32)
  i5 &&& 63
theorem pop_eq (x : Int32) : pop x = nI (pc x) := by
  have hlt := tn_lt x
  obtain ⟨a0, ea0⟩ : ∃ z, z = tn x % 256 := ⟨_, rfl⟩
  obtain ⟨a1, ea1⟩ : ∃ z, z = tn x / 256 % 256 := ⟨_, rfl⟩
  obtain ⟨a2, ea2⟩ : ∃ z, z = tn x / 65536 % 256 := ⟨_, rfl⟩
  obtain ⟨a3, ea3⟩ : ∃ z, z = tn x / 16777216 % 256 := ⟨_, rfl⟩
  have hn : tn x = a0 + 256 * (a1 + 256 * (a2 + 256 * a3)) := by omega
  obtain ⟨k3, k2, k1⟩ := q_all (a0 := a0) (a1 := a1) (a2 := a2) (a3 := a3) (by omega) (by omega) (by omega) (by omega)
  rw [← hn] at k1 k2 k3
  have c55 : tn 1431655765 = 1431655765 := by decide +kernel
  have c33 : tn 858993459 = 858993459 := by decide +kernel
  have c0f : tn 252645135 = 252645135 := by decide +kernel
  have c3f : tn 63 = 63 := by decide +kernel
  obtain ⟨i1, e1⟩ : ∃ z, z = x - (((Int32.toUInt32 x >>> (Int32.toUInt32 (1 : Int32) &&& Int32.toUInt32 31)).toInt32) &&& 1431655765) := ⟨_, rfl⟩
  have t1 : tn i1 = q1 (tn x) := by
    rw [e1, tn_sub, tn_and, tn_ush x 1 1 (by decide +kernel), c55]
    · rfl
    · rw [tn_and, tn_ush x 1 1 (by decide +kernel), c55]; exact q1_le
  obtain ⟨i2, e2⟩ : ∃ z, z = (i1 &&& 858993459) + (((Int32.toUInt32 i1 >>> (Int32.toUInt32 (2 : Int32) &&& Int32.toUInt32 31)).toInt32) &&& 858993459) := ⟨_, rfl⟩
  have t2 : tn i2 = q2 (q1 (tn x)) := by
    have hs : tn (i1 &&& 858993459) + tn (((Int32.toUInt32 i1 >>> (Int32.toUInt32 (2 : Int32) &&& Int32.toUInt32 31)).toInt32) &&& 858993459) = q2 (q1 (tn x)) := by
      rw [tn_and, tn_and, tn_ush i1 2 2 (by decide +kernel), c33, t1]; rfl
    rw [e2, tn_add (by rw [hs]; omega), hs]
  obtain ⟨i3, e3⟩ : ∃ z, z = (i2 + ((Int32.toUInt32 i2 >>> (Int32.toUInt32 (4 : Int32) &&& Int32.toUInt32 31)).toInt32)) &&& 252645135 := ⟨_, rfl⟩
  have t3 : tn i3 = cnt8 a0 + 256 * (cnt8 a1 + 256 * (cnt8 a2 + 256 * cnt8 a3)) := by
    have hs : tn i2 + tn ((Int32.toUInt32 i2 >>> (Int32.toUInt32 (4 : Int32) &&& Int32.toUInt32 31)).toInt32) = q2 (q1 (tn x)) + q2 (q1 (tn x)) / 16 := by
      rw [tn_ush i2 4 4 (by decide +kernel), t2]
    rw [e3, tn_and, tn_add (by rw [hs]; omega), hs, c0f, ← k3]; rfl
  have u0 := cnt8_le a0
  have u1 := cnt8_le a1
  have u2 := cnt8_le a2
  have u3 := cnt8_le a3
  obtain ⟨i4, e4⟩ : ∃ z, z = i3 + ((Int32.toUInt32 i3 >>> (Int32.toUInt32 (8 : Int32) &&& Int32.toUInt32 31)).toInt32) := ⟨_, rfl⟩
  have t4 : tn i4 = tn i3 + tn i3 / 256 := by
    have hs : tn i3 + tn ((Int32.toUInt32 i3 >>> (Int32.toUInt32 (8 : Int32) &&& Int32.toUInt32 31)).toInt32) = tn i3 + tn i3 / 256 := by rw [tn_ush i3 8 8 (by decide +kernel)]
    rw [e4, tn_add (by rw [hs, t3]; omega), hs]
  obtain ⟨i5, e5⟩ : ∃ z, z = i4 + ((Int32.toUInt32 i4 >>> (Int32.toUInt32 (16 : Int32) &&& Int32.toUInt32 31)).toInt32) := ⟨_, rfl⟩
  have t5 : tn i5 = tn i4 + tn i4 / 65536 := by
    have hs : tn i4 + tn ((Int32.toUInt32 i4 >>> (Int32.toUInt32 (16 : Int32) &&& Int32.toUInt32 31)).toInt32) = tn i4 + tn i4 / 65536 := by rw [tn_ush i4 16 16 (by decide +kernel)]
    rw [e5, tn_add (by rw [hs, t4, t3]; omega), hs]
  have hp : pop x = i5 &&& 63 := by rw [e5, e4, e3, e2, e1]; rfl
  rw [hp, ← nI_tn (i5 &&& 63), tn_and, c3f, show (63 : Nat) = 2 ^ 6 - 1 from rfl, Nat.and_two_pow_sub_one_eq_mod]
  congr 1
  rw [pc_bytes, ← ea0, ← ea1, ← ea2, ← ea3, t5, t4, t3]
  generalize cnt8 a0 = p0 at *
  generalize cnt8 a1 = p1 at *
  generalize cnt8 a2 = p2 at *
  generalize cnt8 a3 = p3 at *
  have s1 : (p0 + 256 * (p1 + 256 * (p2 + 256 * p3))) / 256 = p1 + 256 * (p2 + 256 * p3) := by omega
  rw [s1]
  have s2 : (p0 + 256 * (p1 + 256 * (p2 + 256 * p3)) + (p1 + 256 * (p2 + 256 * p3))) / 65536 = (p2 + p3) + 256 * p3 := by omega
  rw [s2, show (2 : Nat) ^ 6 = 64 from rfl]
  omega
theorem c_bitCount {g : mj_S} {M : mj_M} (x : Int32) : kJ6_bitCount_0f7a4 x g M (fun v M' => M' = M ∧ v = nI (pc x)) := eJ6_bitCount_0f7a4 ⟨rfl, pop_eq x⟩
