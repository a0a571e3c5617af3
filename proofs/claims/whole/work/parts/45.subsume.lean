/-! SUBSUMPTION -/
def anA (p : Nat → Bool) : Nat → Bool
  | 0 => false
  | n + 1 => anA p n || p n
theorem anA_iff {p : Nat → Bool} : ∀ {n : Nat}, anA p n = true ↔ ∃ i, i < n ∧ p i = true
  | 0 => ⟨fun h => (by cases h), fun ⟨i, hi, _⟩ => by omega⟩
  | n + 1 => by
    show (anA p n || p n) = true ↔ _
    rw [Bool.or_eq_true, anA_iff]
    constructor
    · rintro (⟨i, hi, h⟩ | h)
      · exact ⟨i, by omega, h⟩
      · exact ⟨n, by omega, h⟩
    · rintro ⟨i, hi, h⟩
      by_cases e : i = n
      · right; rw [← e]; exact h
      · left; exact ⟨i, by omega, h⟩
theorem anA_s {p : Nat → Bool} {n : Nat} : anA p (n + 1) = (anA p n || p n) := rfl
theorem anA_t {p : Nat → Bool} {i n : Nat} (hi : i < n) (h : p i = true) : anA p n = true := anA_iff.mpr ⟨i, hi, h⟩
theorem anA_cong {p q : Nat → Bool} : ∀ {n : Nat}, (∀ i, i < n → p i = q i) → anA p n = anA q n
  | 0, _ => rfl
  | n + 1, h => by rw [anA_s, anA_s, anA_cong (n := n) (fun i hi => h i (by omega)), h n (by omega)]
/-- frames of the reference's techniques -/
def rf_ (k : Nat) (M M' : mj_M) : Prop := M'.2 = M.2 ∧ (∀ a, (a < k ∨ k + 12 ≤ a ∨ (k + 2 ≤ a ∧ a < k + 6)) → M'.1 a = M.1 a) ∧ ∀ j, j < 16 → M'.1 k j = M.1 k j
theorem rf_.rf {k : Nat} {M : mj_M} : rf_ k M M := ⟨rfl, fun _ _ => rfl, fun _ _ => rfl⟩
theorem rf_.tr {k : Nat} {M M1 M2 : mj_M} (h1 : rf_ k M M1) (h2 : rf_ k M1 M2) : rf_ k M M2 := ⟨h2.1.trans h1.1, fun a h => (h2.2.1 a h).trans (h1.2.1 a h), fun j hj => (h2.2.2 j hj).trans (h1.2.2 j hj)⟩
theorem fr_.r {k lo hi : Nat} {M M' : mj_M} (h : fr_ lo hi M M') (hk : (k + 1 ≤ lo ∧ hi ≤ k + 2) ∨ (k + 6 ≤ lo ∧ hi ≤ k + 12)) : rf_ k M M' := ⟨h.2, fun a ha => h.1 a (by omega), fun j _ => by rw [h.1 k (by omega)]⟩
theorem rf_.wI {k a j : Nat} {M : mj_M} {v : Int32} (h : a = k + 1 ∨ (k + 6 ≤ a ∧ a < k + 12) ∨ (a = k ∧ 16 ≤ j)) : rf_ k M (mj_wI M a j v) := ⟨rfl, fun b hb => mj_up2_k _ _ (by omega), fun i hi => mj_up2_n _ _ (by omega)⟩
/-- the list without the places of p -/
def kpA (p : Nat → Bool) : Nat → List Int32 → List Int32
  | _, [] => []
  | i, c :: cs => if p i = true then kpA p (i + 1) cs else c :: kpA p (i + 1) cs
theorem kpA_le (p : Nat → Bool) : ∀ (L : List Int32) i, (kpA p i L).length ≤ L.length
  | [], i => Nat.le_refl _
  | c :: cs, i => by
    have := kpA_le p cs (i + 1)
    show (if p i = true then kpA p (i + 1) cs else c :: kpA p (i + 1) cs).length ≤ cs.length + 1
    split
    · omega
    · show (kpA p (i + 1) cs).length + 1 ≤ _; omega
theorem kpA_mem (p : Nat → Bool) {c : Int32} : ∀ (L : List Int32) i, c ∈ kpA p i L → c ∈ L
  | [], i, h => h
  | d :: cs, i, h => by
    have h' : c ∈ (if p i = true then kpA p (i + 1) cs else d :: kpA p (i + 1) cs) := h
    split at h'
    · exact List.mem_cons_of_mem _ (kpA_mem p cs (i + 1) h')
    · rcases List.mem_cons.mp h' with q | q
      · rw [q]; exact List.mem_cons_self
      · exact List.mem_cons_of_mem _ (kpA_mem p cs (i + 1) q)
theorem dp_step {L : List Int32} {i : Nat} (h : i < L.length) : L.drop i = L.getD i 0 :: L.drop (i + 1) := by
  rw [List.getD_eq_getElem?_getD, List.getElem?_eq_getElem h]
  exact List.drop_eq_getElem_cons h
theorem er_tk {L X : List Int32} {i : Nat} (h : i < L.length) : (L.take (i + 1) ++ X).eraseIdx i = L.take i ++ X := by
  have hl : (L.take i).length = i := by rw [List.length_take]; omega
  rw [tk_succ h, List.append_assoc, List.eraseIdx_append_of_length_le (by omega), hl, Nat.sub_self]; rfl
theorem kp_t {p : Nat → Bool} {L : List Int32} {i : Nat} (h : i < L.length) (hp : p i = true) : (L.take (i + 1) ++ kpA p (i + 1) (L.drop (i + 1))).eraseIdx i = L.take i ++ kpA p i (L.drop i) := by
  rw [er_tk h, dp_step h, show kpA p i (L.getD i 0 :: L.drop (i + 1)) = kpA p (i + 1) (L.drop (i + 1)) from if_pos hp]
theorem kp_f {p : Nat → Bool} {L : List Int32} {i : Nat} (h : i < L.length) (hp : p i = false) : L.take (i + 1) ++ kpA p (i + 1) (L.drop (i + 1)) = L.take i ++ kpA p i (L.drop i) := by
  rw [tk_succ h, dp_step h, show kpA p i (L.getD i 0 :: L.drop (i + 1)) = L.getD i 0 :: kpA p (i + 1) (L.drop (i + 1)) from if_neg (by rw [hp]; decide), List.append_assoc]; rfl
theorem kp_tl {p : Nat → Bool} {L : List Int32} {i : Nat} (h : i < L.length) (hp : p i = true) : (kpA p i (L.drop i)).length = (kpA p (i + 1) (L.drop (i + 1))).length := by
  rw [dp_step h, show kpA p i (L.getD i 0 :: L.drop (i + 1)) = kpA p (i + 1) (L.drop (i + 1)) from if_pos hp]
theorem kp_fl {p : Nat → Bool} {L : List Int32} {i : Nat} (h : i < L.length) (hp : p i = false) : (kpA p i (L.drop i)).length = (kpA p (i + 1) (L.drop (i + 1))).length + 1 := by
  rw [dp_step h, show kpA p i (L.getD i 0 :: L.drop (i + 1)) = L.getD i 0 :: kpA p (i + 1) (L.drop (i + 1)) from if_neg (by rw [hp]; decide)]; rfl
theorem inv_uL {s : sg} (h : Inv s) (hb : sL s ≠ [0]) {L : List Int32} (hL : L = [0] ∨ ((∀ c, c ∈ L → okv (sV s) (sS s) c) ∧ L.length ≤ (sL s).length)) : Inv (uL s L) := by
  have h48 := h.L48
  refine ⟨h.1, h.2.1, ?_, h.2.2.2.1, h.R, ?_, h.wit, fun hall => ?_, h.2.2.2.2.2.2.2.2⟩
  · show L.length ≤ 48
    rcases hL with q | q
    · rw [q]; decide
    · omega
  · rcases hL with q | q
    · exact Or.inl q
    · exact Or.inr q.1
  · rcases hL with q | q
    · exact Or.inl q
    · rcases h.2.2.2.2.2.2.2.1 hall with r | r
      · exact absurd r hb
      · exact Or.inr (Nat.le_trans q.2 r)
theorem Inv.ok' {s : sg} (h : Inv s) (hb : sL s ≠ [0]) : ∀ c, c ∈ sL s → okv (sV s) (sS s) c := by
  rcases h.2.2.2.2.2.1 with q | q
  · exact absurd q hb
  · exact q
def sbP (L : List Int32) (k i : Nat) : Bool := decide (L.getD i 0 &&& (L.getD k 0 ^^^ (-1)) = 0) && (!decide (L.getD i 0 = L.getD k 0) || decide (i < k))
def sbd (L : List Int32) (k : Nat) : Bool := anA (sbP L k) L.length
def subL (L : List Int32) : List Int32 := kpA (sbd L) 0 L
theorem subL_inv {s : sg} (h : Inv s) (hb : sL s ≠ [0]) : Inv (uL s (subL (sL s))) := inv_uL h hb (Or.inr ⟨fun c hc => h.ok' hb c (kpA_mem _ _ _ hc), kpA_le _ _ _⟩)
/-! long numbers by their bits -/
def bL (x : Int64) (i : Nat) : Bool := x.toBitVec.getLsbD i
theorem s_64 : ∀ n, n < 64 → ((Int32.toInt64 (nI n) &&& 63).toBitVec.smod 64).toNat = n := by decide +kernel
theorem bL_or (x y : Int64) (i : Nat) : bL (x ||| y) i = (bL x i || bL y i) := by unfold bL; rw [Int64.toBitVec_or, BitVec.getLsbD_or]
theorem bL_1 (i : Nat) : bL 1 i = decide (i = 0) := by
  rcases Nat.lt_or_ge i 64 with h | h
  · exact (by decide +kernel : ∀ i, i < 64 → bL 1 i = decide (i = 0)) i h
  · rw [show bL 1 i = false from BitVec.getLsbD_of_ge _ _ h, decide_eq_false (by omega)]
theorem bL_sh {n i : Nat} (hn : n < 64) (hi : i < 64) : bL ((1 : Int64) <<< (Int32.toInt64 (nI n) &&& 63)) i = decide (i = n) := by
  unfold bL
  rw [Int64.toBitVec_shiftLeft]
  show ((1 : Int64).toBitVec <<< ((Int32.toInt64 (nI n) &&& 63).toBitVec.smod 64).toNat).getLsbD i = _
  rw [s_64 n hn, BitVec.getLsbD_shiftLeft, show (1 : Int64).toBitVec.getLsbD (i - n) = decide (i - n = 0) from bL_1 _]
  by_cases h : i = n
  · subst h; simp [hi]
  · by_cases h2 : i < n
    · simp [h, h2]
    · simp [h, h2]; omega
theorem bL_te (x : Int64) {n : Nat} (hn : n < 64) : (x >>> (Int32.toInt64 (nI n) &&& 63)) &&& 1 = 0 ↔ bL x n = false := by
  have key : ∀ i, i < 64 → ((x >>> (Int32.toInt64 (nI n) &&& 63)) &&& 1).toBitVec.getLsbD i = (decide (i = 0) && bL x n) := by
    intro i hi
    rw [Int64.toBitVec_and, BitVec.getLsbD_and, Int64.toBitVec_shiftRight]
    show ((x.toBitVec.sshiftRight ((Int32.toInt64 (nI n) &&& 63).toBitVec.smod 64).toNat).getLsbD i && (1 : Int64).toBitVec.getLsbD i) = _
    rw [s_64 n hn, BitVec.getLsbD_sshiftRight, show (1 : Int64).toBitVec.getLsbD i = decide (i = 0) from bL_1 i]
    by_cases h : i = 0
    · subst h; simp [hn, bL]
    · simp [h]
  constructor
  · intro h
    have := key 0 (by decide)
    rw [h] at this
    simpa using this.symm
  · intro h
    refine Int64.toBitVec_inj.mp (BitVec.eq_of_getLsbD_eq (fun i hi => ?_))
    rw [key i hi, h]; simp
