/-! the law: each call's answer on both sides -/
def LI (b L : Nat) (ys : Nat → Int32) (k1 : Nat) (x4 : Int32) (bc bs : Nat) (g : mj_S) (M : mj_M) (o : ob) : Prop := is9s g k1 ∧ is10 g (k1 + 98) ∧ (k1 + 110 < g.1 ∧ g.2.1 (k1 + 110) = (1, 2, 1)) ∧ 8 ≤ bc ∧ 48 ≤ bs ∧ (vp_in (x4 + (1 : Int32)) L ∧ vp_in (x4 + (2 : Int32)) L ∧ vp_in (x4 + (3 : Int32)) L) ∧ CR M k1 o ∧ RR M (k1 + 98) o ∧ OI o ∧ ∀ M' o', CR M' k1 o' → RR M' (k1 + 98) o' → OI o' → LL_23 b L ys k1 (k1 + 98) (k1 + 110) (x4 + 4) (bc - 8) (bs - 48) g M'
def qL (r : res) (o : ob) (k1 : Nat) (v : Int32) (M' : mj_M) : Prop := v = nI r.1 ∧ r.1 ≤ 2 ∧ CR M' k1 r.2.2 ∧ RR M' (k1 + 98) o ∧ (r.1 = 0 → M'.2.1 (k1 + 110) 0 = Int32.toInt64 r.2.1)
theorem CR.oL {M : mj_M} {k a j : Nat} {v : Int64} {o : ob} (h : CR M k o) : CR (mj_wL M a j v) k o := h
theorem RR.oL {M : mj_M} {k a j : Nat} {v : Int64} {o : ob} (h : RR M k o) : RR (mj_wL M a j v) k o := h
section LW1
variable {r : res} {o : ob} {k1 : Nat} {M M1 M2 : mj_M} {v v1 v2 : Int32} {X X1 X2 : String} {g : mj_S} {LL : mj_M → Prop}
theorem t_q (h : cq r k1 M v M1) (hR : RR M (k1 + 98) o) : qL r o k1 0 (mj_wL M1 (k1 + 110) (Int32.toNatClampNeg 0) (Int32.toInt64 v)) := by
  obtain ⟨h1, h2, h3, h4⟩ := h
  refine ⟨by rw [h1]; rfl, by omega, h3.oL, (hR.gf h4 (by omega)).oL, fun _ => ?_⟩
  rw [h2]; exact wL_s
theorem t_qb (h : cq r k1 M v M1) (hb : r.2.1 = 0 ∨ r.2.1 = 1) (hR : RR M (k1 + 98) o) : (v = 0 → qL r o k1 0 (mj_wL M1 (k1 + 110) (Int32.toNatClampNeg 0) (0 : Int64))) ∧ (¬ v = 0 → qL r o k1 0 (mj_wL M1 (k1 + 110) (Int32.toNatClampNeg 0) (1 : Int64))) := by
  have t := t_q h hR
  refine ⟨fun e => ?_, fun e => ?_⟩
  · rw [e] at t; exact t
  · rcases hb with q | q
    · exact absurd (h.2.1.trans q) e
    · rw [h.2.1.trans q] at t; exact t
theorem t_x1 (h : cx r k1 M X1 X1 X M1) (hn : r.1 ≤ 1) (hR : RR M (k1 + 98) o) : X = X1 ∧ qL r o k1 1 M1 := by
  obtain ⟨h1, h3, h4⟩ := h
  rcases h1 with ⟨e, rfl⟩ | ⟨e, _⟩
  · exact ⟨rfl, by rw [e]; rfl, by omega, h3, hR.gf h4 (by omega), fun q => absurd q (by omega)⟩
  · omega
theorem t_x2 (h : cx r k1 M X1 X2 X M1) (hR : RR M (k1 + 98) o) : (X = X1 ∧ qL r o k1 1 M1) ∨ (X = X2 ∧ qL r o k1 2 M1) := by
  obtain ⟨h1, h3, h4⟩ := h
  rcases h1 with ⟨e, rfl⟩ | ⟨e, rfl⟩
  · exact Or.inl ⟨rfl, by rw [e]; rfl, by omega, h3, hR.gf h4 (by omega), fun q => absurd q (by omega)⟩
  · exact Or.inr ⟨rfl, by rw [e]; rfl, by omega, h3, hR.gf h4 (by omega), fun q => absurd q (by omega)⟩
theorem n0 {n : Nat} (h : n ≤ 2) : nI n = 0 ↔ n = 0 := (show nI n = nI 0 ↔ n = 0 from nI_eq (by omega) (by decide))
theorem fin1 (h2 : is10 g (k1 + 98)) (hq : qL r o k1 v1 M1) (hr : rq r (k1 + 98) M1 v2 M2) (nx : ∀ M', CR M' k1 r.2.2 → RR M' (k1 + 98) r.2.2 → LL M') : ∃ q3 : Int32 → mj_M → Prop, kX10_thrown (k1 + 98) g M2 q3 ∧ ∀ v3 M3, q3 v3 M3 → ((v3 = v1 → (¬ v1 = 0 → LL M3) ∧ (v1 = 0 → (lg_cmp (M3.2.1 (k1 + 110) (Int32.toNatClampNeg 0)) (Int32.toInt64 v2) = 0 → LL M3) ∧ (¬ lg_cmp (M3.2.1 (k1 + 110) (Int32.toNatClampNeg 0)) (Int32.toInt64 v2) = 0 → False))) ∧ (¬ v3 = v1 → False)) := by
  obtain ⟨a1, a2, a3, a4, a5⟩ := hq
  obtain ⟨b1, b2, b3, b4⟩ := hr
  have ll : LL M2 := nx M2 (a3.gf b4 (by omega)) b3
  refine ⟨fun v M' => v = nI r.1 ∧ M' = M2, eX10_thrown h2 ⟨b1, rfl⟩, fun v3 M3 q => ?_⟩
  obtain ⟨rfl, rfl⟩ := q
  refine ⟨fun _ => ⟨fun _ => ll, fun hz => ⟨fun _ => ll, fun hc => hc ?_⟩⟩, fun hc => hc a1.symm⟩
  have hz := (n0 a2).mp (a1.symm.trans hz)
  rw [lg_cmp0, show Int32.toNatClampNeg 0 = 0 from rfl, (b4 (k1 + 110) (by omega)).2.1, a5 hz, b2 hz]
theorem fin2 (h2 : is10 g (k1 + 98)) (hq : qL r o k1 v1 M1) (hr : rq r (k1 + 98) M1 v2 M2) (hb : r.2.1 = 0 ∨ r.2.1 = 1) (nx : ∀ M', CR M' k1 r.2.2 → RR M' (k1 + 98) r.2.2 → LL M') : ∃ q3 : Int32 → mj_M → Prop, kX10_thrown (k1 + 98) g M2 q3 ∧ ∀ v3 M3, q3 v3 M3 → ((v3 = v1 → (¬ v1 = 0 → LL M3) ∧ (v1 = 0 → (v2 = 0 → (lg_cmp (M3.2.1 (k1 + 110) (Int32.toNatClampNeg 0)) (0 : Int64) = 0 → LL M3) ∧ (¬ lg_cmp (M3.2.1 (k1 + 110) (Int32.toNatClampNeg 0)) (0 : Int64) = 0 → False)) ∧ (¬ v2 = 0 → (lg_cmp (M3.2.1 (k1 + 110) (Int32.toNatClampNeg 0)) (1 : Int64) = 0 → LL M3) ∧ (¬ lg_cmp (M3.2.1 (k1 + 110) (Int32.toNatClampNeg 0)) (1 : Int64) = 0 → False)))) ∧ (¬ v3 = v1 → False)) := by
  obtain ⟨a1, a2, a3, a4, a5⟩ := hq
  obtain ⟨b1, b2, b3, b4⟩ := hr
  have ll : LL M2 := nx M2 (a3.gf b4 (by omega)) b3
  refine ⟨fun v M' => v = nI r.1 ∧ M' = M2, eX10_thrown h2 ⟨b1, rfl⟩, fun v3 M3 q => ?_⟩
  obtain ⟨rfl, rfl⟩ := q
  refine ⟨fun _ => ⟨fun _ => ll, fun hz => ?_⟩, fun hc => hc a1.symm⟩
  have hz := (n0 a2).mp (a1.symm.trans hz)
  have e2 := b2 hz
  refine ⟨fun hv => ⟨fun _ => ll, fun hc => hc ?_⟩, fun hv => ⟨fun _ => ll, fun hc => hc ?_⟩⟩
  · rw [lg_cmp0, show Int32.toNatClampNeg 0 = 0 from rfl, (b4 (k1 + 110) (by omega)).2.1, a5 hz, ← e2, hv]; rfl
  · rcases hb with q | q
    · exact absurd (e2.trans q) hv
    · rw [lg_cmp0, show Int32.toNatClampNeg 0 = 0 from rfl, (b4 (k1 + 110) (by omega)).2.1, a5 hz, q]; rfl
theorem fin0 (hq : cq r k1 M v1 M1) (hr : rq r (k1 + 98) M1 v2 M2) (nx : ∀ M', CR M' k1 r.2.2 → RR M' (k1 + 98) r.2.2 → LL M') : (v1 = v2 → LL M2) ∧ (¬ v1 = v2 → False) := by
  obtain ⟨a1, a2, a3, a4⟩ := hq
  obtain ⟨b1, b2, b3, b4⟩ := hr
  exact ⟨fun _ => nx M2 (a3.gf b4 (by omega)) b3, fun hc => hc (a2.trans (b2 a1).symm)⟩
end LW1
theorem qA_le {e : Option Nat} {f : Nat → Int32} {o : ob} : (qA e f o).1 ≤ 1 := by
  cases e with
  | none => exact Nat.le_refl 1
  | some j => exact Nat.zero_le 1
theorem qA_ob {e : Option Nat} {f : Nat → Int32} {o : ob} : (qA e f o).2.2 = o := by cases e <;> rfl
theorem qA_01 {e : Option Nat} {f : Nat → Int32} {o : ob} (h : ∀ j, f j = 0 ∨ f j = 1) : (qA e f o).2.1 = 0 ∨ (qA e f o).2.1 = 1 := by
  cases e with
  | none => exact Or.inl rfl
  | some j => exact h j
theorem if_01 (p : Bool) : (if p then (1 : Int32) else 0) = 0 ∨ (if p then (1 : Int32) else 0) = 1 := by cases p <;> simp
theorem qB_ob {e : Option Nat} {a : Nat → Bool} {f : Nat → res} {o : ob} (h : ∀ j, (f j).2.2 = o) : (qB e a f o).2.2 = o := by
  cases e with
  | none => rfl
  | some j =>
    cases hj : a j with
    | true => rw [qB_t rfl hj]; exact h j
    | false => rw [qB_f rfl hj]

theorem le_original (o : ob) (x : Int32) (p : Bool) : (A_original o x p).1 ≤ 1 := qA_le
theorem ob_original (o : ob) (x : Int32) (p : Bool) : (A_original o x p).2.2 = o := qA_ob
theorem le_clause (o : ob) (x : Int32) (p : Bool) : (A_clause o x p).1 ≤ 1 := qA_le
theorem ob_clause (o : ob) (x : Int32) (p : Bool) : (A_clause o x p).2.2 = o := qA_ob
theorem le_status (o : ob) (x : Int32) : (A_status o x).1 ≤ 1 := qA_le
theorem ob_status (o : ob) (x : Int32) : (A_status o x).2.2 = o := qA_ob
theorem le_value (o : ob) (x : Int32) : (A_value o x).1 ≤ 1 := qA_le
theorem ob_value (o : ob) (x : Int32) : (A_value o x).2.2 = o := qA_ob
theorem le_occurrences (o : ob) (x : Int32) : (A_occurrences o x).1 ≤ 1 := qA_le
theorem ob_occurrences (o : ob) (x : Int32) : (A_occurrences o x).2.2 = o := qA_ob
theorem le_total (o : ob) (x : Int32) : (A_total o x).1 ≤ 1 := qA_le
theorem ob_total (o : ob) (x : Int32) : (A_total o x).2.2 = o := qA_ob
theorem le_blocking (o : ob) (x : Int32) : (A_blocking o x).1 ≤ 1 := qA_le
theorem ob_blocking (o : ob) (x : Int32) : (A_blocking o x).2.2 = o := qA_ob
theorem le_coverPairs (o : ob) (x : Int32) : (A_coverPairs o x).1 ≤ 1 := qA_le
theorem ob_coverPairs (o : ob) (x : Int32) : (A_coverPairs o x).2.2 = o := qA_ob
theorem le_extension (o : ob) (x : Int32) (p : Bool) : (A_extension o x p).1 ≤ 1 := qA_le
theorem ob_extension (o : ob) (x : Int32) (p : Bool) : (A_extension o x p).2.2 = o := qA_ob
theorem le_vivified (o : ob) (x : Int32) (p : Bool) : (A_vivified o x p).1 ≤ 1 := qA_le
theorem ob_vivified (o : ob) (x : Int32) (p : Bool) : (A_vivified o x p).2.2 = o := qA_ob
theorem le_implied (o : ob) (x : Int32) : (A_implied o x).1 ≤ 1 := qA_le
theorem ob_implied (o : ob) (x : Int32) : (A_implied o x).2.2 = o := qA_ob
theorem le_representative (o : ob) (x : Int32) : (A_representative o x).1 ≤ 1 := qA_le
theorem ob_representative (o : ob) (x : Int32) : (A_representative o x).2.2 = o := qA_ob
theorem le_canEliminate (o : ob) (x : Int32) : (A_canEliminate o x).1 ≤ 1 := qA_le
theorem ob_canEliminate (o : ob) (x : Int32) : (A_canEliminate o x).2.2 = o := qA_ob
theorem le_predict (o : ob) (x : Int32) (p : Bool) : (A_predict o x p).1 ≤ 1 := qA_le
theorem ob_predict (o : ob) (x : Int32) (p : Bool) : (A_predict o x p).2.2 = o := qA_ob
theorem le_reset (o : ob) (x : Int32) : (A_reset o x).1 ≤ 1 := by
  unfold A_reset
  repeat' split
  all_goals first | exact Nat.le_refl 1 | exact Nat.zero_le 1
theorem le_setGrowth (o : ob) (x : Int32) : (A_setGrowth o x).1 ≤ 1 := by
  unfold A_setGrowth
  repeat' split
  all_goals first | exact Nat.le_refl 1 | exact Nat.zero_le 1
theorem le_apply (o : ob) (x : Int32) : (A_apply o x).1 ≤ 1 := by
  unfold A_apply
  repeat' split
  all_goals first | exact Nat.le_refl 1 | exact Nat.zero_le 1
theorem le_extend (o : ob) (x : Int32) : (A_extend o x).1 ≤ 1 := by
  unfold A_extend
  repeat' split
  all_goals first | exact Nat.le_refl 1 | exact Nat.zero_le 1
theorem le_unsatisfied (o : ob) (x : Int32) : (A_unsatisfied o x).1 ≤ 1 := by
  unfold A_unsatisfied
  repeat' split
  all_goals first | exact Nat.le_refl 1 | exact Nat.zero_le 1
theorem le_outputByte (o : ob) (x : Int32) : (A_outputByte o x).1 ≤ 1 := by
  unfold A_outputByte
  repeat' split
  all_goals first | exact Nat.le_refl 1 | exact Nat.zero_le 1
theorem le_readClauses (o : ob)  : (A_readClauses o ).1 ≤ 1 := by
  unfold A_readClauses
  repeat' split
  all_goals first | exact Nat.le_refl 1 | exact Nat.zero_le 1
theorem le_run (o : ob) (x : Int32) : (A_run o x).1 ≤ 1 := by
  unfold A_run
  repeat' split
  all_goals first | exact Nat.le_refl 1 | exact Nat.zero_le 1
theorem le_undo (o : ob)  : (A_undo o ).1 ≤ 1 := by
  unfold A_undo
  repeat' split
  all_goals first | exact Nat.le_refl 1 | exact Nat.zero_le 1
theorem ob_extend (o : ob) (x : Int32) : (A_extend o x).2.2 = o := by
  unfold A_extend
  repeat' split
  all_goals rfl
theorem ob_unsatisfied (o : ob) (x : Int32) : (A_unsatisfied o x).2.2 = o := by
  unfold A_unsatisfied
  repeat' split
  all_goals rfl
theorem ob_outputByte (o : ob) (x : Int32) : (A_outputByte o x).2.2 = o := by
  unfold A_outputByte
  repeat' split
  all_goals rfl
theorem ob_row (o : ob) (x : Int32) (y : Int32) : (A_row o x y).2.2 = o := by
  unfold A_row
  repeat' split
  all_goals rfl
theorem ob_propagate (o : ob) (x : Int32) : (A_propagate o x).2.2 = o := qB_ob (fun _ => rfl)
theorem ob_resolventCount (o : ob) (x : Int32) : (A_resolventCount o x).2.2 = o := qB_ob (fun _ => rfl)
theorem ob_resolvent (o : ob) (x y : Int32) (p : Bool) : (A_resolvent o x y p).2.2 = o := qB_ob (fun _ => qA_ob)
theorem le_reachable (o : ob) (x y : Int32) : (A_reachable o x y).1 ≤ 1 := by
  unfold A_reachable
  split
  · exact Nat.le_refl 1
  · exact qA_le
theorem ob_reachable (o : ob) (x y : Int32) : (A_reachable o x y).2.2 = o := by
  unfold A_reachable
  split
  · rfl
  · exact qA_ob
theorem bo_reachable (o : ob) (x y : Int32) : (A_reachable o x y).2.1 = 0 ∨ (A_reachable o x y).2.1 = 1 := by
  unfold A_reachable
  split
  · exact Or.inl rfl
  · exact qA_01 (fun j => if_01 _)
theorem bo_canEliminate (o : ob) (x : Int32) : (A_canEliminate o x).2.1 = 0 ∨ (A_canEliminate o x).2.1 = 1 := qA_01 (fun j => if_01 _)
theorem bo_implied (o : ob) (x : Int32) : (A_implied o x).2.1 = 0 ∨ (A_implied o x).2.1 = 1 := qA_01 (fun j => if_01 _)
theorem A_undo_ok {o : ob} (h : OI o) : OI (A_undo o).2.2 := by
  unfold A_undo
  split
  · exact h
  · rename_i hl
    refine ⟨h.2.1 _ ?_, fun t ht => h.2.1 t (List.mem_of_mem_take ht), h.2.2⟩
    rw [List.getD_eq_getElem?_getD, List.getElem?_eq_getElem (by omega)]
    exact List.getElem_mem _

section LW2
variable {b L : Nat} {ys : Nat → Int32} {k1 : Nat} {x4 : Int32} {bc bs : Nat} {g : mj_S} {M : mj_M} {o : ob}
theorem lc_0 (h : LI b L ys k1 x4 bc bs g M o) : mj_G (mj_mtL b L ys) room_1 (mj_FL b) false bc bs 220 [(0, .ref (900001)), (1, .ref (k1)), (2, .ref (k1 + 98)), (3, .ref (k1 + 110)), (4, .int (x4))] [] g M := by
  obtain ⟨h1, h2, h3, hb1, hb2, ⟨w1, w2, w3⟩, hC, hR, hO, nx⟩ := h
  have hT : tOK o.2.1 := ⟨hR.2.2.2.1, hO.2.2⟩
  exact cL_law_0 h1.1 h2 h3 hb1 hb2 ⟨w1, qL (A_reset o (ys (Int32.toNatClampNeg (x4 + (1 : Int32))))) o k1, eL_reset h1.1 h3 ⟨_, _, c_reset h1 hC (ys (Int32.toNatClampNeg (x4 + (1 : Int32)))), fun X M9 hx => t_x1 hx (le_reset o (ys (Int32.toNatClampNeg (x4 + (1 : Int32))))) hR, fun v M1 hq => t_q hq hR⟩, fun v1 M1 q1 => ⟨w1, _, r_reset h2 q1.2.2.2.1 (ys (Int32.toNatClampNeg (x4 + (1 : Int32)))), fun v2 M2 q2 => fin1 h2 q1 q2 (fun M' c r => nx M' _ c r (A_reset_ok hO (ys (Int32.toNatClampNeg (x4 + (1 : Int32))))))⟩⟩
theorem lc_1 (h : LI b L ys k1 x4 bc bs g M o) : mj_G (mj_mtL b L ys) room_1 (mj_FL b) false bc bs 276 [(0, .ref (900001)), (1, .ref (k1)), (2, .ref (k1 + 98)), (3, .ref (k1 + 110)), (4, .int (x4))] [] g M := by
  obtain ⟨h1, h2, h3, hb1, hb2, ⟨w1, w2, w3⟩, hC, hR, hO, nx⟩ := h
  have hT : tOK o.2.1 := ⟨hR.2.2.2.1, hO.2.2⟩
  exact cL_law_1 h1.1 h2 h3 hb1 hb2 ⟨w1, w2, qL (A_addClause o (ys (Int32.toNatClampNeg (x4 + (1 : Int32)))) (ys (Int32.toNatClampNeg (x4 + (2 : Int32))))) o k1, eL_addClause h1.1 h3 ⟨_, _, c_addClause h1 hC hO.1 (ys (Int32.toNatClampNeg (x4 + (1 : Int32)))) (ys (Int32.toNatClampNeg (x4 + (2 : Int32)))), fun X M9 hx => t_x2 hx hR, fun v M1 hq => t_q hq hR⟩, fun v1 M1 q1 => ⟨w1, w2, _, r_addClause h2 q1.2.2.2.1 hO.1 (ys (Int32.toNatClampNeg (x4 + (1 : Int32)))) (ys (Int32.toNatClampNeg (x4 + (2 : Int32)))), fun v2 M2 q2 => fin1 h2 q1 q2 (fun M' c r => nx M' _ c r (A_addClause_ok hO (ys (Int32.toNatClampNeg (x4 + (1 : Int32)))) (ys (Int32.toNatClampNeg (x4 + (2 : Int32))))))⟩⟩
theorem lc_2 (h : LI b L ys k1 x4 bc bs g M o) : mj_G (mj_mtL b L ys) room_1 (mj_FL b) false bc bs 344 [(0, .ref (900001)), (1, .ref (k1)), (2, .ref (k1 + 98)), (3, .ref (k1 + 110)), (4, .int (x4))] [] g M := by
  obtain ⟨h1, h2, h3, hb1, hb2, ⟨w1, w2, w3⟩, hC, hR, hO, nx⟩ := h
  have hT : tOK o.2.1 := ⟨hR.2.2.2.1, hO.2.2⟩
  exact cL_law_2 h1.1 h2 h3 hb1 hb2 ⟨w1, w2, w3, qL (A_generate o (ys (Int32.toNatClampNeg (x4 + (1 : Int32)))) (ys (Int32.toNatClampNeg (x4 + (2 : Int32)))) (ys (Int32.toNatClampNeg (x4 + (3 : Int32))))) o k1, eL_generate h1.1 h3 ⟨_, _, c_generate h1 hC hO.1 (ys (Int32.toNatClampNeg (x4 + (1 : Int32)))) (ys (Int32.toNatClampNeg (x4 + (2 : Int32)))) (ys (Int32.toNatClampNeg (x4 + (3 : Int32)))), fun X M9 hx => t_x2 hx hR, fun v M1 hq => t_q hq hR⟩, fun v1 M1 q1 => ⟨w1, w2, w3, _, r_generate h2 q1.2.2.2.1 hO.1 (ys (Int32.toNatClampNeg (x4 + (1 : Int32)))) (ys (Int32.toNatClampNeg (x4 + (2 : Int32)))) (ys (Int32.toNatClampNeg (x4 + (3 : Int32)))), fun v2 M2 q2 => fin1 h2 q1 q2 (fun M' c r => nx M' _ c r (A_generate_ok hO (ys (Int32.toNatClampNeg (x4 + (1 : Int32)))) (ys (Int32.toNatClampNeg (x4 + (2 : Int32)))) (ys (Int32.toNatClampNeg (x4 + (3 : Int32))))))⟩⟩
theorem lc_4 (h : LI b L ys k1 x4 bc bs g M o) : mj_G (mj_mtL b L ys) room_1 (mj_FL b) false bc bs 437 [(0, .ref (900001)), (1, .ref (k1)), (2, .ref (k1 + 98)), (3, .ref (k1 + 110)), (4, .int (x4))] [] g M := by
  obtain ⟨h1, h2, h3, hb1, hb2, ⟨w1, w2, w3⟩, hC, hR, hO, nx⟩ := h
  have hT : tOK o.2.1 := ⟨hR.2.2.2.1, hO.2.2⟩
  refine cL_law_4 h1.1 h2 h3 hb1 hb2 ⟨w1, w2, fun hz => ⟨qL (A_original o (ys (Int32.toNatClampNeg (x4 + (1 : Int32)))) false) o k1, eL_original h1.1 h3 ⟨_, _, c_original h1 hC (ys (Int32.toNatClampNeg (x4 + (1 : Int32)))) false, fun X M9 hx => t_x1 hx (le_original o (ys (Int32.toNatClampNeg (x4 + (1 : Int32)))) false) hR, fun v M1 hq => t_q hq hR⟩, fun v1 M1 q1 => ⟨w1, w2, fun _ => ⟨_, r_original h2 q1.2.2.2.1 (ys (Int32.toNatClampNeg (x4 + (1 : Int32)))) false, fun v2 M2 q2 => fin1 h2 q1 q2 (fun M' c r => nx M' _ c r ((by rw [ob_original o (ys (Int32.toNatClampNeg (x4 + (1 : Int32)))) false]; exact hO)))⟩, fun hc => absurd hz hc⟩⟩, fun hz => ⟨qL (A_original o (ys (Int32.toNatClampNeg (x4 + (1 : Int32)))) true) o k1, eL_original h1.1 h3 ⟨_, _, c_original h1 hC (ys (Int32.toNatClampNeg (x4 + (1 : Int32)))) true, fun X M9 hx => t_x1 hx (le_original o (ys (Int32.toNatClampNeg (x4 + (1 : Int32)))) true) hR, fun v M1 hq => t_q hq hR⟩, fun v1 M1 q1 => ⟨w1, w2, fun hc => absurd hc hz, fun _ => ⟨_, r_original h2 q1.2.2.2.1 (ys (Int32.toNatClampNeg (x4 + (1 : Int32)))) true, fun v2 M2 q2 => fin1 h2 q1 q2 (fun M' c r => nx M' _ c r ((by rw [ob_original o (ys (Int32.toNatClampNeg (x4 + (1 : Int32)))) true]; exact hO)))⟩⟩⟩⟩
theorem lc_7 (h : LI b L ys k1 x4 bc bs g M o) : mj_G (mj_mtL b L ys) room_1 (mj_FL b) false bc bs 547 [(0, .ref (900001)), (1, .ref (k1)), (2, .ref (k1 + 98)), (3, .ref (k1 + 110)), (4, .int (x4))] [] g M := by
  obtain ⟨h1, h2, h3, hb1, hb2, ⟨w1, w2, w3⟩, hC, hR, hO, nx⟩ := h
  have hT : tOK o.2.1 := ⟨hR.2.2.2.1, hO.2.2⟩
  refine cL_law_7 h1.1 h2 h3 hb1 hb2 ⟨w1, w2, fun hz => ⟨qL (A_clause o (ys (Int32.toNatClampNeg (x4 + (1 : Int32)))) false) o k1, eL_clause h1.1 h3 ⟨_, _, c_clause h1 hC (ys (Int32.toNatClampNeg (x4 + (1 : Int32)))) false, fun X M9 hx => t_x1 hx (le_clause o (ys (Int32.toNatClampNeg (x4 + (1 : Int32)))) false) hR, fun v M1 hq => t_q hq hR⟩, fun v1 M1 q1 => ⟨w1, w2, fun _ => ⟨_, r_clause h2 q1.2.2.2.1 (ys (Int32.toNatClampNeg (x4 + (1 : Int32)))) false, fun v2 M2 q2 => fin1 h2 q1 q2 (fun M' c r => nx M' _ c r ((by rw [ob_clause o (ys (Int32.toNatClampNeg (x4 + (1 : Int32)))) false]; exact hO)))⟩, fun hc => absurd hz hc⟩⟩, fun hz => ⟨qL (A_clause o (ys (Int32.toNatClampNeg (x4 + (1 : Int32)))) true) o k1, eL_clause h1.1 h3 ⟨_, _, c_clause h1 hC (ys (Int32.toNatClampNeg (x4 + (1 : Int32)))) true, fun X M9 hx => t_x1 hx (le_clause o (ys (Int32.toNatClampNeg (x4 + (1 : Int32)))) true) hR, fun v M1 hq => t_q hq hR⟩, fun v1 M1 q1 => ⟨w1, w2, fun hc => absurd hc hz, fun _ => ⟨_, r_clause h2 q1.2.2.2.1 (ys (Int32.toNatClampNeg (x4 + (1 : Int32)))) true, fun v2 M2 q2 => fin1 h2 q1 q2 (fun M' c r => nx M' _ c r ((by rw [ob_clause o (ys (Int32.toNatClampNeg (x4 + (1 : Int32)))) true]; exact hO)))⟩⟩⟩⟩
theorem lc_9 (h : LI b L ys k1 x4 bc bs g M o) : mj_G (mj_mtL b L ys) room_1 (mj_FL b) false bc bs 644 [(0, .ref (900001)), (1, .ref (k1)), (2, .ref (k1 + 98)), (3, .ref (k1 + 110)), (4, .int (x4))] [] g M := by
  obtain ⟨h1, h2, h3, hb1, hb2, ⟨w1, w2, w3⟩, hC, hR, hO, nx⟩ := h
  have hT : tOK o.2.1 := ⟨hR.2.2.2.1, hO.2.2⟩
  exact cL_law_9 h1.1 h2 h3 hb1 hb2 ⟨w1, qL (A_status o (ys (Int32.toNatClampNeg (x4 + (1 : Int32))))) o k1, eL_status h1.1 h3 ⟨_, _, c_status h1 hC (ys (Int32.toNatClampNeg (x4 + (1 : Int32)))), fun X M9 hx => t_x1 hx (le_status o (ys (Int32.toNatClampNeg (x4 + (1 : Int32))))) hR, fun v M1 hq => t_q hq hR⟩, fun v1 M1 q1 => ⟨w1, _, r_status h2 q1.2.2.2.1 (ys (Int32.toNatClampNeg (x4 + (1 : Int32)))), fun v2 M2 q2 => fin1 h2 q1 q2 (fun M' c r => nx M' _ c r ((by rw [ob_status o (ys (Int32.toNatClampNeg (x4 + (1 : Int32))))]; exact hO)))⟩⟩
theorem lc_10 (h : LI b L ys k1 x4 bc bs g M o) : mj_G (mj_mtL b L ys) room_1 (mj_FL b) false bc bs 700 [(0, .ref (900001)), (1, .ref (k1)), (2, .ref (k1 + 98)), (3, .ref (k1 + 110)), (4, .int (x4))] [] g M := by
  obtain ⟨h1, h2, h3, hb1, hb2, ⟨w1, w2, w3⟩, hC, hR, hO, nx⟩ := h
  have hT : tOK o.2.1 := ⟨hR.2.2.2.1, hO.2.2⟩
  exact cL_law_10 h1.1 h2 h3 hb1 hb2 ⟨w1, qL (A_value o (ys (Int32.toNatClampNeg (x4 + (1 : Int32))))) o k1, eL_value h1.1 h3 ⟨_, _, c_value h1 hC (ys (Int32.toNatClampNeg (x4 + (1 : Int32)))), fun X M9 hx => t_x1 hx (le_value o (ys (Int32.toNatClampNeg (x4 + (1 : Int32))))) hR, fun v M1 hq => t_q hq hR⟩, fun v1 M1 q1 => ⟨w1, _, r_value h2 q1.2.2.2.1 (ys (Int32.toNatClampNeg (x4 + (1 : Int32)))), fun v2 M2 q2 => fin1 h2 q1 q2 (fun M' c r => nx M' _ c r ((by rw [ob_value o (ys (Int32.toNatClampNeg (x4 + (1 : Int32))))]; exact hO)))⟩⟩
theorem lc_11 (h : LI b L ys k1 x4 bc bs g M o) : mj_G (mj_mtL b L ys) room_1 (mj_FL b) false bc bs 756 [(0, .ref (900001)), (1, .ref (k1)), (2, .ref (k1 + 98)), (3, .ref (k1 + 110)), (4, .int (x4))] [] g M := by
  obtain ⟨h1, h2, h3, hb1, hb2, ⟨w1, w2, w3⟩, hC, hR, hO, nx⟩ := h
  have hT : tOK o.2.1 := ⟨hR.2.2.2.1, hO.2.2⟩
  exact cL_law_11 h1.1 h2 h3 hb1 hb2 ⟨w1, qL (A_occurrences o (ys (Int32.toNatClampNeg (x4 + (1 : Int32))))) o k1, eL_occurrences h1.1 h3 ⟨_, _, c_occurrences h1 hC (ys (Int32.toNatClampNeg (x4 + (1 : Int32)))), fun X M9 hx => t_x1 hx (le_occurrences o (ys (Int32.toNatClampNeg (x4 + (1 : Int32))))) hR, fun v M1 hq => t_q hq hR⟩, fun v1 M1 q1 => ⟨w1, _, r_occurrences h2 q1.2.2.2.1 (ys (Int32.toNatClampNeg (x4 + (1 : Int32)))), fun v2 M2 q2 => fin1 h2 q1 q2 (fun M' c r => nx M' _ c r ((by rw [ob_occurrences o (ys (Int32.toNatClampNeg (x4 + (1 : Int32))))]; exact hO)))⟩⟩
theorem lc_12 (h : LI b L ys k1 x4 bc bs g M o) : mj_G (mj_mtL b L ys) room_1 (mj_FL b) false bc bs 812 [(0, .ref (900001)), (1, .ref (k1)), (2, .ref (k1 + 98)), (3, .ref (k1 + 110)), (4, .int (x4))] [] g M := by
  obtain ⟨h1, h2, h3, hb1, hb2, ⟨w1, w2, w3⟩, hC, hR, hO, nx⟩ := h
  have hT : tOK o.2.1 := ⟨hR.2.2.2.1, hO.2.2⟩
  exact cL_law_12 h1.1 h2 h3 hb1 hb2 ⟨w1, qL (A_append o (ys (Int32.toNatClampNeg (x4 + (1 : Int32))))) o k1, eL_append h1.1 h3 ⟨_, _, c_append h1 hC (ys (Int32.toNatClampNeg (x4 + (1 : Int32)))), fun X M9 hx => t_x2 hx hR, fun v M1 hq => t_q hq hR⟩, fun v1 M1 q1 => ⟨w1, _, r_append h2 q1.2.2.2.1 (ys (Int32.toNatClampNeg (x4 + (1 : Int32)))), fun v2 M2 q2 => fin1 h2 q1 q2 (fun M' c r => nx M' _ c r (A_append_ok hO (ys (Int32.toNatClampNeg (x4 + (1 : Int32))))))⟩⟩
theorem lc_14 (h : LI b L ys k1 x4 bc bs g M o) : mj_G (mj_mtL b L ys) room_1 (mj_FL b) false bc bs 881 [(0, .ref (900001)), (1, .ref (k1)), (2, .ref (k1 + 98)), (3, .ref (k1 + 110)), (4, .int (x4))] [] g M := by
  obtain ⟨h1, h2, h3, hb1, hb2, ⟨w1, w2, w3⟩, hC, hR, hO, nx⟩ := h
  have hT : tOK o.2.1 := ⟨hR.2.2.2.1, hO.2.2⟩
  exact cL_law_14 h1.1 h2 h3 hb1 hb2 ⟨qL (A_readClauses o) o k1, eL_readClauses h1.1 h3 ⟨_, _, c_readClauses h1 hC hO.1 hT , fun X M9 hx => t_x1 hx (le_readClauses o ) hR, fun v M1 hq => t_q hq hR⟩, fun v1 M1 q1 => ⟨_, r_readClauses h2 q1.2.2.2.1 hO.1 hT , fun v2 M2 q2 => fin1 h2 q1 q2 (fun M' c r => nx M' _ c r (A_readClauses_ok hO))⟩⟩
theorem lc_15 (h : LI b L ys k1 x4 bc bs g M o) : mj_G (mj_mtL b L ys) room_1 (mj_FL b) false bc bs 925 [(0, .ref (900001)), (1, .ref (k1)), (2, .ref (k1 + 98)), (3, .ref (k1 + 110)), (4, .int (x4))] [] g M := by
  obtain ⟨h1, h2, h3, hb1, hb2, ⟨w1, w2, w3⟩, hC, hR, hO, nx⟩ := h
  have hT : tOK o.2.1 := ⟨hR.2.2.2.1, hO.2.2⟩
  exact cL_law_15 h1.1 h2 h3 hb1 hb2 ⟨w1, qL (A_outputByte o (ys (Int32.toNatClampNeg (x4 + (1 : Int32))))) o k1, eL_outputByte h1.1 h3 ⟨_, _, c_outputByte h1 hC (ys (Int32.toNatClampNeg (x4 + (1 : Int32)))), fun X M9 hx => t_x1 hx (le_outputByte o (ys (Int32.toNatClampNeg (x4 + (1 : Int32))))) hR, fun v M1 hq => t_q hq hR⟩, fun v1 M1 q1 => ⟨w1, _, r_outputByte h2 q1.2.2.2.1 (ys (Int32.toNatClampNeg (x4 + (1 : Int32)))), fun v2 M2 q2 => fin1 h2 q1 q2 (fun M' c r => nx M' _ c r ((by rw [ob_outputByte o (ys (Int32.toNatClampNeg (x4 + (1 : Int32))))]; exact hO)))⟩⟩
theorem lc_16 (h : LI b L ys k1 x4 bc bs g M o) : mj_G (mj_mtL b L ys) room_1 (mj_FL b) false bc bs 981 [(0, .ref (900001)), (1, .ref (k1)), (2, .ref (k1 + 98)), (3, .ref (k1 + 110)), (4, .int (x4))] [] g M := by
  obtain ⟨h1, h2, h3, hb1, hb2, ⟨w1, w2, w3⟩, hC, hR, hO, nx⟩ := h
  have hT : tOK o.2.1 := ⟨hR.2.2.2.1, hO.2.2⟩
  exact cL_law_16 h1.1 h2 h3 hb1 hb2 ⟨w1, qL (A_apply o (ys (Int32.toNatClampNeg (x4 + (1 : Int32))))) o k1, eL_apply h1.1 h3 ⟨_, _, c_apply h1 hC hO.1 (ys (Int32.toNatClampNeg (x4 + (1 : Int32)))), fun X M9 hx => t_x1 hx (le_apply o (ys (Int32.toNatClampNeg (x4 + (1 : Int32))))) hR, fun v M1 hq => t_q hq hR⟩, fun v1 M1 q1 => ⟨w1, _, r_apply h2 q1.2.2.2.1 hO.1 (ys (Int32.toNatClampNeg (x4 + (1 : Int32)))), fun v2 M2 q2 => fin1 h2 q1 q2 (fun M' c r => nx M' _ c r (A_apply_ok hO (ys (Int32.toNatClampNeg (x4 + (1 : Int32))))))⟩⟩
theorem lc_17 (h : LI b L ys k1 x4 bc bs g M o) : mj_G (mj_mtL b L ys) room_1 (mj_FL b) false bc bs 1037 [(0, .ref (900001)), (1, .ref (k1)), (2, .ref (k1 + 98)), (3, .ref (k1 + 110)), (4, .int (x4))] [] g M := by
  obtain ⟨h1, h2, h3, hb1, hb2, ⟨w1, w2, w3⟩, hC, hR, hO, nx⟩ := h
  have hT : tOK o.2.1 := ⟨hR.2.2.2.1, hO.2.2⟩
  exact cL_law_17 h1.1 h2 h3 hb1 hb2 ⟨w1, qL (A_run o (ys (Int32.toNatClampNeg (x4 + (1 : Int32))))) o k1, eL_run h1.1 h3 ⟨_, _, c_run h1 hC hO.1 hT (ys (Int32.toNatClampNeg (x4 + (1 : Int32)))), fun X M9 hx => t_x1 hx (le_run o (ys (Int32.toNatClampNeg (x4 + (1 : Int32))))) hR, fun v M1 hq => t_q hq hR⟩, fun v1 M1 q1 => ⟨w1, _, r_run h2 q1.2.2.2.1 hO.1 hT (ys (Int32.toNatClampNeg (x4 + (1 : Int32)))), fun v2 M2 q2 => fin1 h2 q1 q2 (fun M' c r => nx M' _ c r (A_run_ok hO (ys (Int32.toNatClampNeg (x4 + (1 : Int32))))))⟩⟩
theorem lc_18 (h : LI b L ys k1 x4 bc bs g M o) : mj_G (mj_mtL b L ys) room_1 (mj_FL b) false bc bs 1093 [(0, .ref (900001)), (1, .ref (k1)), (2, .ref (k1 + 98)), (3, .ref (k1 + 110)), (4, .int (x4))] [] g M := by
  obtain ⟨h1, h2, h3, hb1, hb2, ⟨w1, w2, w3⟩, hC, hR, hO, nx⟩ := h
  have hT : tOK o.2.1 := ⟨hR.2.2.2.1, hO.2.2⟩
  exact cL_law_18 h1.1 h2 h3 hb1 hb2 ⟨w1, qL (A_eliminate o (ys (Int32.toNatClampNeg (x4 + (1 : Int32))))) o k1, eL_eliminate h1.1 h3 ⟨_, _, c_eliminate h1 hC hO.1 (ys (Int32.toNatClampNeg (x4 + (1 : Int32)))), fun X M9 hx => t_x2 hx hR, fun v M1 hq => t_q hq hR⟩, fun v1 M1 q1 => ⟨w1, _, r_eliminate h2 q1.2.2.2.1 hO.1 (ys (Int32.toNatClampNeg (x4 + (1 : Int32)))), fun v2 M2 q2 => fin1 h2 q1 q2 (fun M' c r => nx M' _ c r (A_eliminate_ok hO (ys (Int32.toNatClampNeg (x4 + (1 : Int32))))))⟩⟩
theorem lc_19 (h : LI b L ys k1 x4 bc bs g M o) : mj_G (mj_mtL b L ys) room_1 (mj_FL b) false bc bs 1149 [(0, .ref (900001)), (1, .ref (k1)), (2, .ref (k1 + 98)), (3, .ref (k1 + 110)), (4, .int (x4))] [] g M := by
  obtain ⟨h1, h2, h3, hb1, hb2, ⟨w1, w2, w3⟩, hC, hR, hO, nx⟩ := h
  have hT : tOK o.2.1 := ⟨hR.2.2.2.1, hO.2.2⟩
  exact cL_law_19 h1.1 h2 h3 hb1 hb2 ⟨w1, qL (A_setGrowth o (ys (Int32.toNatClampNeg (x4 + (1 : Int32))))) o k1, eL_setGrowth h1.1 h3 ⟨_, _, c_setGrowth h1 hC (ys (Int32.toNatClampNeg (x4 + (1 : Int32)))), fun X M9 hx => t_x1 hx (le_setGrowth o (ys (Int32.toNatClampNeg (x4 + (1 : Int32))))) hR, fun v M1 hq => t_q hq hR⟩, fun v1 M1 q1 => ⟨w1, _, r_setGrowth h2 q1.2.2.2.1 (ys (Int32.toNatClampNeg (x4 + (1 : Int32)))), fun v2 M2 q2 => fin1 h2 q1 q2 (fun M' c r => nx M' _ c r (A_setGrowth_ok hO (ys (Int32.toNatClampNeg (x4 + (1 : Int32))))))⟩⟩
theorem lc_20 (h : LI b L ys k1 x4 bc bs g M o) : mj_G (mj_mtL b L ys) room_1 (mj_FL b) false bc bs 1205 [(0, .ref (900001)), (1, .ref (k1)), (2, .ref (k1 + 98)), (3, .ref (k1 + 110)), (4, .int (x4))] [] g M := by
  obtain ⟨h1, h2, h3, hb1, hb2, ⟨w1, w2, w3⟩, hC, hR, hO, nx⟩ := h
  have hT : tOK o.2.1 := ⟨hR.2.2.2.1, hO.2.2⟩
  exact cL_law_20 h1.1 h2 h3 hb1 hb2 ⟨w1, qL (A_total o (ys (Int32.toNatClampNeg (x4 + (1 : Int32))))) o k1, eL_total h1.1 h3 ⟨_, _, c_total h1 hC (ys (Int32.toNatClampNeg (x4 + (1 : Int32)))), fun X M9 hx => t_x1 hx (le_total o (ys (Int32.toNatClampNeg (x4 + (1 : Int32))))) hR, fun v M1 hq => t_q hq hR⟩, fun v1 M1 q1 => ⟨w1, _, r_total h2 q1.2.2.2.1 (ys (Int32.toNatClampNeg (x4 + (1 : Int32)))), fun v2 M2 q2 => fin1 h2 q1 q2 (fun M' c r => nx M' _ c r ((by rw [ob_total o (ys (Int32.toNatClampNeg (x4 + (1 : Int32))))]; exact hO)))⟩⟩
theorem lc_21 (h : LI b L ys k1 x4 bc bs g M o) : mj_G (mj_mtL b L ys) room_1 (mj_FL b) false bc bs 1261 [(0, .ref (900001)), (1, .ref (k1)), (2, .ref (k1 + 98)), (3, .ref (k1 + 110)), (4, .int (x4))] [] g M := by
  obtain ⟨h1, h2, h3, hb1, hb2, ⟨w1, w2, w3⟩, hC, hR, hO, nx⟩ := h
  have hT : tOK o.2.1 := ⟨hR.2.2.2.1, hO.2.2⟩
  exact cL_law_21 h1.1 h2 h3 hb1 hb2 ⟨qL (A_undo o) o k1, eL_undo h1.1 h3 ⟨_, _, c_undo h1 hC , fun X M9 hx => t_x1 hx (le_undo o ) hR, fun v M1 hq => t_q hq hR⟩, fun v1 M1 q1 => ⟨_, r_undo h2 q1.2.2.2.1 , fun v2 M2 q2 => fin1 h2 q1 q2 (fun M' c r => nx M' _ c r (A_undo_ok hO))⟩⟩
theorem lc_22 (h : LI b L ys k1 x4 bc bs g M o) : mj_G (mj_mtL b L ys) room_1 (mj_FL b) false bc bs 1305 [(0, .ref (900001)), (1, .ref (k1)), (2, .ref (k1 + 98)), (3, .ref (k1 + 110)), (4, .int (x4))] [] g M := by
  obtain ⟨h1, h2, h3, hb1, hb2, ⟨w1, w2, w3⟩, hC, hR, hO, nx⟩ := h
  have hT : tOK o.2.1 := ⟨hR.2.2.2.1, hO.2.2⟩
  exact cL_law_22 h1.1 h2 h3 hb1 hb2 ⟨w1, qL (A_canEliminate o (ys (Int32.toNatClampNeg (x4 + (1 : Int32))))) o k1, eL_canEliminate h1.1 h3 ⟨_, _, c_canEliminate h1 hC hO.1 (ys (Int32.toNatClampNeg (x4 + (1 : Int32)))), fun X M9 hx => t_x1 hx (le_canEliminate o (ys (Int32.toNatClampNeg (x4 + (1 : Int32))))) hR, fun v M1 hq => t_qb hq (bo_canEliminate o (ys (Int32.toNatClampNeg (x4 + (1 : Int32))))) hR⟩, fun v1 M1 q1 => ⟨w1, _, r_canEliminate h2 q1.2.2.2.1 hO.1 (ys (Int32.toNatClampNeg (x4 + (1 : Int32)))), fun v2 M2 q2 => fin2 h2 q1 q2 (bo_canEliminate o (ys (Int32.toNatClampNeg (x4 + (1 : Int32))))) (fun M' c r => nx M' _ c r ((by rw [ob_canEliminate o (ys (Int32.toNatClampNeg (x4 + (1 : Int32))))]; exact hO)))⟩⟩
theorem lc_23 (h : LI b L ys k1 x4 bc bs g M o) : mj_G (mj_mtL b L ys) room_1 (mj_FL b) false bc bs 1368 [(0, .ref (900001)), (1, .ref (k1)), (2, .ref (k1 + 98)), (3, .ref (k1 + 110)), (4, .int (x4))] [] g M := by
  obtain ⟨h1, h2, h3, hb1, hb2, ⟨w1, w2, w3⟩, hC, hR, hO, nx⟩ := h
  have hT : tOK o.2.1 := ⟨hR.2.2.2.1, hO.2.2⟩
  exact cL_law_23 h1.1 h2 h3 hb1 hb2 ⟨w1, qL (A_resolventCount o (ys (Int32.toNatClampNeg (x4 + (1 : Int32))))) o k1, eL_resolventCount h1.1 h3 ⟨_, _, c_resolventCount h1 hC hO.1 (ys (Int32.toNatClampNeg (x4 + (1 : Int32)))), fun X M9 hx => t_x2 hx hR, fun v M1 hq => t_q hq hR⟩, fun v1 M1 q1 => ⟨w1, _, r_resolventCount h2 q1.2.2.2.1 hO.1 (ys (Int32.toNatClampNeg (x4 + (1 : Int32)))), fun v2 M2 q2 => fin1 h2 q1 q2 (fun M' c r => nx M' _ c r ((by rw [ob_resolventCount o (ys (Int32.toNatClampNeg (x4 + (1 : Int32))))]; exact hO)))⟩⟩
theorem lc_24 (h : LI b L ys k1 x4 bc bs g M o) : mj_G (mj_mtL b L ys) room_1 (mj_FL b) false bc bs 1424 [(0, .ref (900001)), (1, .ref (k1)), (2, .ref (k1 + 98)), (3, .ref (k1 + 110)), (4, .int (x4))] [] g M := by
  obtain ⟨h1, h2, h3, hb1, hb2, ⟨w1, w2, w3⟩, hC, hR, hO, nx⟩ := h
  have hT : tOK o.2.1 := ⟨hR.2.2.2.1, hO.2.2⟩
  refine cL_law_24 h1.1 h2 h3 hb1 hb2 ⟨w1, w2, w3, fun hz => ⟨qL (A_resolvent o (ys (Int32.toNatClampNeg (x4 + (1 : Int32)))) (ys (Int32.toNatClampNeg (x4 + (2 : Int32)))) false) o k1, eL_resolvent h1.1 h3 ⟨_, _, c_resolvent h1 hC hO.1 (ys (Int32.toNatClampNeg (x4 + (1 : Int32)))) (ys (Int32.toNatClampNeg (x4 + (2 : Int32)))) false, fun X M9 hx => t_x2 hx hR, fun v M1 hq => t_q hq hR⟩, fun v1 M1 q1 => ⟨w1, w2, w3, fun _ => ⟨_, r_resolvent h2 q1.2.2.2.1 hO.1 (ys (Int32.toNatClampNeg (x4 + (1 : Int32)))) (ys (Int32.toNatClampNeg (x4 + (2 : Int32)))) false, fun v2 M2 q2 => fin1 h2 q1 q2 (fun M' c r => nx M' _ c r ((by rw [ob_resolvent o (ys (Int32.toNatClampNeg (x4 + (1 : Int32)))) (ys (Int32.toNatClampNeg (x4 + (2 : Int32)))) false]; exact hO)))⟩, fun hc => absurd hz hc⟩⟩, fun hz => ⟨qL (A_resolvent o (ys (Int32.toNatClampNeg (x4 + (1 : Int32)))) (ys (Int32.toNatClampNeg (x4 + (2 : Int32)))) true) o k1, eL_resolvent h1.1 h3 ⟨_, _, c_resolvent h1 hC hO.1 (ys (Int32.toNatClampNeg (x4 + (1 : Int32)))) (ys (Int32.toNatClampNeg (x4 + (2 : Int32)))) true, fun X M9 hx => t_x2 hx hR, fun v M1 hq => t_q hq hR⟩, fun v1 M1 q1 => ⟨w1, w2, w3, fun hc => absurd hc hz, fun _ => ⟨_, r_resolvent h2 q1.2.2.2.1 hO.1 (ys (Int32.toNatClampNeg (x4 + (1 : Int32)))) (ys (Int32.toNatClampNeg (x4 + (2 : Int32)))) true, fun v2 M2 q2 => fin1 h2 q1 q2 (fun M' c r => nx M' _ c r ((by rw [ob_resolvent o (ys (Int32.toNatClampNeg (x4 + (1 : Int32)))) (ys (Int32.toNatClampNeg (x4 + (2 : Int32)))) true]; exact hO)))⟩⟩⟩⟩
theorem lc_25 (h : LI b L ys k1 x4 bc bs g M o) : mj_G (mj_mtL b L ys) room_1 (mj_FL b) false bc bs 1520 [(0, .ref (900001)), (1, .ref (k1)), (2, .ref (k1 + 98)), (3, .ref (k1 + 110)), (4, .int (x4))] [] g M := by
  obtain ⟨h1, h2, h3, hb1, hb2, ⟨w1, w2, w3⟩, hC, hR, hO, nx⟩ := h
  have hT : tOK o.2.1 := ⟨hR.2.2.2.1, hO.2.2⟩
  exact cL_law_25 h1.1 h2 h3 hb1 hb2 ⟨w1, qL (A_blocking o (ys (Int32.toNatClampNeg (x4 + (1 : Int32))))) o k1, eL_blockingLiteral h1.1 h3 ⟨_, _, c_blockingLiteral h1 hC hO.1 (ys (Int32.toNatClampNeg (x4 + (1 : Int32)))), fun X M9 hx => t_x1 hx (le_blocking o (ys (Int32.toNatClampNeg (x4 + (1 : Int32))))) hR, fun v M1 hq => t_q hq hR⟩, fun v1 M1 q1 => ⟨w1, _, r_blockingLiteral h2 q1.2.2.2.1 (ys (Int32.toNatClampNeg (x4 + (1 : Int32)))), fun v2 M2 q2 => fin1 h2 q1 q2 (fun M' c r => nx M' _ c r ((by rw [ob_blocking o (ys (Int32.toNatClampNeg (x4 + (1 : Int32))))]; exact hO)))⟩⟩
theorem lc_26 (h : LI b L ys k1 x4 bc bs g M o) : mj_G (mj_mtL b L ys) room_1 (mj_FL b) false bc bs 1576 [(0, .ref (900001)), (1, .ref (k1)), (2, .ref (k1 + 98)), (3, .ref (k1 + 110)), (4, .int (x4))] [] g M := by
  obtain ⟨h1, h2, h3, hb1, hb2, ⟨w1, w2, w3⟩, hC, hR, hO, nx⟩ := h
  have hT : tOK o.2.1 := ⟨hR.2.2.2.1, hO.2.2⟩
  exact cL_law_26 h1.1 h2 h3 hb1 hb2 ⟨w1, qL (A_coverPairs o (ys (Int32.toNatClampNeg (x4 + (1 : Int32))))) o k1, eL_coverPairs h1.1 h3 ⟨_, _, c_coverPairs h1 hC hO.1 (ys (Int32.toNatClampNeg (x4 + (1 : Int32)))), fun X M9 hx => t_x1 hx (le_coverPairs o (ys (Int32.toNatClampNeg (x4 + (1 : Int32))))) hR, fun v M1 hq => t_q hq hR⟩, fun v1 M1 q1 => ⟨w1, _, r_coverPairs h2 q1.2.2.2.1 hO.1 (ys (Int32.toNatClampNeg (x4 + (1 : Int32)))), fun v2 M2 q2 => fin1 h2 q1 q2 (fun M' c r => nx M' _ c r ((by rw [ob_coverPairs o (ys (Int32.toNatClampNeg (x4 + (1 : Int32))))]; exact hO)))⟩⟩
theorem lc_27 (h : LI b L ys k1 x4 bc bs g M o) : mj_G (mj_mtL b L ys) room_1 (mj_FL b) false bc bs 1632 [(0, .ref (900001)), (1, .ref (k1)), (2, .ref (k1 + 98)), (3, .ref (k1 + 110)), (4, .int (x4))] [] g M := by
  obtain ⟨h1, h2, h3, hb1, hb2, ⟨w1, w2, w3⟩, hC, hR, hO, nx⟩ := h
  have hT : tOK o.2.1 := ⟨hR.2.2.2.1, hO.2.2⟩
  refine cL_law_27 h1.1 h2 h3 hb1 hb2 ⟨w1, w2, fun hz => ⟨qL (A_extension o (ys (Int32.toNatClampNeg (x4 + (1 : Int32)))) false) o k1, eL_extension h1.1 h3 ⟨_, _, c_extension h1 hC hO.1 (ys (Int32.toNatClampNeg (x4 + (1 : Int32)))) false, fun X M9 hx => t_x1 hx (le_extension o (ys (Int32.toNatClampNeg (x4 + (1 : Int32)))) false) hR, fun v M1 hq => t_q hq hR⟩, fun v1 M1 q1 => ⟨w1, w2, fun _ => ⟨_, r_extension h2 q1.2.2.2.1 hO.1 (ys (Int32.toNatClampNeg (x4 + (1 : Int32)))) false, fun v2 M2 q2 => fin1 h2 q1 q2 (fun M' c r => nx M' _ c r ((by rw [ob_extension o (ys (Int32.toNatClampNeg (x4 + (1 : Int32)))) false]; exact hO)))⟩, fun hc => absurd hz hc⟩⟩, fun hz => ⟨qL (A_extension o (ys (Int32.toNatClampNeg (x4 + (1 : Int32)))) true) o k1, eL_extension h1.1 h3 ⟨_, _, c_extension h1 hC hO.1 (ys (Int32.toNatClampNeg (x4 + (1 : Int32)))) true, fun X M9 hx => t_x1 hx (le_extension o (ys (Int32.toNatClampNeg (x4 + (1 : Int32)))) true) hR, fun v M1 hq => t_q hq hR⟩, fun v1 M1 q1 => ⟨w1, w2, fun hc => absurd hc hz, fun _ => ⟨_, r_extension h2 q1.2.2.2.1 hO.1 (ys (Int32.toNatClampNeg (x4 + (1 : Int32)))) true, fun v2 M2 q2 => fin1 h2 q1 q2 (fun M' c r => nx M' _ c r ((by rw [ob_extension o (ys (Int32.toNatClampNeg (x4 + (1 : Int32)))) true]; exact hO)))⟩⟩⟩⟩
theorem lc_28 (h : LI b L ys k1 x4 bc bs g M o) : mj_G (mj_mtL b L ys) room_1 (mj_FL b) false bc bs 1716 [(0, .ref (900001)), (1, .ref (k1)), (2, .ref (k1 + 98)), (3, .ref (k1 + 110)), (4, .int (x4))] [] g M := by
  obtain ⟨h1, h2, h3, hb1, hb2, ⟨w1, w2, w3⟩, hC, hR, hO, nx⟩ := h
  have hT : tOK o.2.1 := ⟨hR.2.2.2.1, hO.2.2⟩
  refine cL_law_28 h1.1 h2 h3 hb1 hb2 ⟨w1, w2, fun hz => ⟨qL (A_vivified o (ys (Int32.toNatClampNeg (x4 + (1 : Int32)))) false) o k1, eL_vivified h1.1 h3 ⟨_, _, c_vivified h1 hC hO.1 (ys (Int32.toNatClampNeg (x4 + (1 : Int32)))) false, fun X M9 hx => t_x1 hx (le_vivified o (ys (Int32.toNatClampNeg (x4 + (1 : Int32)))) false) hR, fun v M1 hq => t_q hq hR⟩, fun v1 M1 q1 => ⟨w1, w2, fun _ => ⟨_, r_vivified h2 q1.2.2.2.1 hO.1 (ys (Int32.toNatClampNeg (x4 + (1 : Int32)))) false, fun v2 M2 q2 => fin1 h2 q1 q2 (fun M' c r => nx M' _ c r ((by rw [ob_vivified o (ys (Int32.toNatClampNeg (x4 + (1 : Int32)))) false]; exact hO)))⟩, fun hc => absurd hz hc⟩⟩, fun hz => ⟨qL (A_vivified o (ys (Int32.toNatClampNeg (x4 + (1 : Int32)))) true) o k1, eL_vivified h1.1 h3 ⟨_, _, c_vivified h1 hC hO.1 (ys (Int32.toNatClampNeg (x4 + (1 : Int32)))) true, fun X M9 hx => t_x1 hx (le_vivified o (ys (Int32.toNatClampNeg (x4 + (1 : Int32)))) true) hR, fun v M1 hq => t_q hq hR⟩, fun v1 M1 q1 => ⟨w1, w2, fun hc => absurd hc hz, fun _ => ⟨_, r_vivified h2 q1.2.2.2.1 hO.1 (ys (Int32.toNatClampNeg (x4 + (1 : Int32)))) true, fun v2 M2 q2 => fin1 h2 q1 q2 (fun M' c r => nx M' _ c r ((by rw [ob_vivified o (ys (Int32.toNatClampNeg (x4 + (1 : Int32)))) true]; exact hO)))⟩⟩⟩⟩
theorem lc_29 (h : LI b L ys k1 x4 bc bs g M o) : mj_G (mj_mtL b L ys) room_1 (mj_FL b) false bc bs 1800 [(0, .ref (900001)), (1, .ref (k1)), (2, .ref (k1 + 98)), (3, .ref (k1 + 110)), (4, .int (x4))] [] g M := by
  obtain ⟨h1, h2, h3, hb1, hb2, ⟨w1, w2, w3⟩, hC, hR, hO, nx⟩ := h
  have hT : tOK o.2.1 := ⟨hR.2.2.2.1, hO.2.2⟩
  exact cL_law_29 h1.1 h2 h3 hb1 hb2 ⟨w1, qL (A_implied o (ys (Int32.toNatClampNeg (x4 + (1 : Int32))))) o k1, eL_implied h1.1 h3 ⟨_, _, c_implied h1 hC hO.1 (ys (Int32.toNatClampNeg (x4 + (1 : Int32)))), fun X M9 hx => t_x1 hx (le_implied o (ys (Int32.toNatClampNeg (x4 + (1 : Int32))))) hR, fun v M1 hq => t_qb hq (bo_implied o (ys (Int32.toNatClampNeg (x4 + (1 : Int32))))) hR⟩, fun v1 M1 q1 => ⟨w1, _, r_implied h2 q1.2.2.2.1 hO.1 (ys (Int32.toNatClampNeg (x4 + (1 : Int32)))), fun v2 M2 q2 => fin2 h2 q1 q2 (bo_implied o (ys (Int32.toNatClampNeg (x4 + (1 : Int32))))) (fun M' c r => nx M' _ c r ((by rw [ob_implied o (ys (Int32.toNatClampNeg (x4 + (1 : Int32))))]; exact hO)))⟩⟩
theorem lc_30 (h : LI b L ys k1 x4 bc bs g M o) : mj_G (mj_mtL b L ys) room_1 (mj_FL b) false bc bs 1863 [(0, .ref (900001)), (1, .ref (k1)), (2, .ref (k1 + 98)), (3, .ref (k1 + 110)), (4, .int (x4))] [] g M := by
  obtain ⟨h1, h2, h3, hb1, hb2, ⟨w1, w2, w3⟩, hC, hR, hO, nx⟩ := h
  have hT : tOK o.2.1 := ⟨hR.2.2.2.1, hO.2.2⟩
  exact cL_law_30 h1.1 h2 h3 hb1 hb2 ⟨w1, qL (A_propagate o (ys (Int32.toNatClampNeg (x4 + (1 : Int32))))) o k1, eL_propagate h1.1 h3 ⟨_, _, c_propagate h1 hC (ys (Int32.toNatClampNeg (x4 + (1 : Int32)))), fun X M9 hx => t_x2 hx hR, fun v M1 hq => t_q hq hR⟩, fun v1 M1 q1 => ⟨w1, _, r_propagate h2 q1.2.2.2.1 hO.1 (ys (Int32.toNatClampNeg (x4 + (1 : Int32)))), fun v2 M2 q2 => fin1 h2 q1 q2 (fun M' c r => nx M' _ c r ((by rw [ob_propagate o (ys (Int32.toNatClampNeg (x4 + (1 : Int32))))]; exact hO)))⟩⟩
theorem lc_31 (h : LI b L ys k1 x4 bc bs g M o) : mj_G (mj_mtL b L ys) room_1 (mj_FL b) false bc bs 1919 [(0, .ref (900001)), (1, .ref (k1)), (2, .ref (k1 + 98)), (3, .ref (k1 + 110)), (4, .int (x4))] [] g M := by
  obtain ⟨h1, h2, h3, hb1, hb2, ⟨w1, w2, w3⟩, hC, hR, hO, nx⟩ := h
  have hT : tOK o.2.1 := ⟨hR.2.2.2.1, hO.2.2⟩
  exact cL_law_31 h1.1 h2 h3 hb1 hb2 ⟨w1, w2, qL (A_reachable o (ys (Int32.toNatClampNeg (x4 + (1 : Int32)))) (ys (Int32.toNatClampNeg (x4 + (2 : Int32))))) o k1, eL_reachable h1.1 h3 ⟨_, _, c_reachable h1 hC hO.1 (ys (Int32.toNatClampNeg (x4 + (1 : Int32)))) (ys (Int32.toNatClampNeg (x4 + (2 : Int32)))), fun X M9 hx => t_x1 hx (le_reachable o (ys (Int32.toNatClampNeg (x4 + (1 : Int32)))) (ys (Int32.toNatClampNeg (x4 + (2 : Int32))))) hR, fun v M1 hq => t_qb hq (bo_reachable o (ys (Int32.toNatClampNeg (x4 + (1 : Int32)))) (ys (Int32.toNatClampNeg (x4 + (2 : Int32))))) hR⟩, fun v1 M1 q1 => ⟨w1, w2, _, r_reachable h2 q1.2.2.2.1 hO.1 (ys (Int32.toNatClampNeg (x4 + (1 : Int32)))) (ys (Int32.toNatClampNeg (x4 + (2 : Int32)))), fun v2 M2 q2 => fin2 h2 q1 q2 (bo_reachable o (ys (Int32.toNatClampNeg (x4 + (1 : Int32)))) (ys (Int32.toNatClampNeg (x4 + (2 : Int32))))) (fun M' c r => nx M' _ c r ((by rw [ob_reachable o (ys (Int32.toNatClampNeg (x4 + (1 : Int32)))) (ys (Int32.toNatClampNeg (x4 + (2 : Int32))))]; exact hO)))⟩⟩
theorem lc_32 (h : LI b L ys k1 x4 bc bs g M o) : mj_G (mj_mtL b L ys) room_1 (mj_FL b) false bc bs 1994 [(0, .ref (900001)), (1, .ref (k1)), (2, .ref (k1 + 98)), (3, .ref (k1 + 110)), (4, .int (x4))] [] g M := by
  obtain ⟨h1, h2, h3, hb1, hb2, ⟨w1, w2, w3⟩, hC, hR, hO, nx⟩ := h
  have hT : tOK o.2.1 := ⟨hR.2.2.2.1, hO.2.2⟩
  exact cL_law_32 h1.1 h2 h3 hb1 hb2 ⟨w1, qL (A_representative o (ys (Int32.toNatClampNeg (x4 + (1 : Int32))))) o k1, eL_representative h1.1 h3 ⟨_, _, c_representative h1 hC hO.1 (ys (Int32.toNatClampNeg (x4 + (1 : Int32)))), fun X M9 hx => t_x1 hx (le_representative o (ys (Int32.toNatClampNeg (x4 + (1 : Int32))))) hR, fun v M1 hq => t_q hq hR⟩, fun v1 M1 q1 => ⟨w1, _, r_representative h2 q1.2.2.2.1 hO.1 (ys (Int32.toNatClampNeg (x4 + (1 : Int32)))), fun v2 M2 q2 => fin1 h2 q1 q2 (fun M' c r => nx M' _ c r ((by rw [ob_representative o (ys (Int32.toNatClampNeg (x4 + (1 : Int32))))]; exact hO)))⟩⟩
theorem lc_34 (h : LI b L ys k1 x4 bc bs g M o) : mj_G (mj_mtL b L ys) room_1 (mj_FL b) false bc bs 2063 [(0, .ref (900001)), (1, .ref (k1)), (2, .ref (k1 + 98)), (3, .ref (k1 + 110)), (4, .int (x4))] [] g M := by
  obtain ⟨h1, h2, h3, hb1, hb2, ⟨w1, w2, w3⟩, hC, hR, hO, nx⟩ := h
  have hT : tOK o.2.1 := ⟨hR.2.2.2.1, hO.2.2⟩
  exact cL_law_34 h1.1 h2 h3 hb1 hb2 ⟨w1, w2, qL (A_row o (ys (Int32.toNatClampNeg (x4 + (1 : Int32)))) (ys (Int32.toNatClampNeg (x4 + (2 : Int32))))) o k1, eL_row h1.1 h3 ⟨_, _, c_row h1 hC (ys (Int32.toNatClampNeg (x4 + (1 : Int32)))) (ys (Int32.toNatClampNeg (x4 + (2 : Int32)))), fun X M9 hx => t_x2 hx hR, fun v M1 hq => t_q hq hR⟩, fun v1 M1 q1 => ⟨w1, w2, _, r_row h2 q1.2.2.2.1 (ys (Int32.toNatClampNeg (x4 + (1 : Int32)))) (ys (Int32.toNatClampNeg (x4 + (2 : Int32)))), fun v2 M2 q2 => fin1 h2 q1 q2 (fun M' c r => nx M' _ c r ((by rw [ob_row o (ys (Int32.toNatClampNeg (x4 + (1 : Int32)))) (ys (Int32.toNatClampNeg (x4 + (2 : Int32))))]; exact hO)))⟩⟩
theorem lc_35 (h : LI b L ys k1 x4 bc bs g M o) : mj_G (mj_mtL b L ys) room_1 (mj_FL b) false bc bs 2131 [(0, .ref (900001)), (1, .ref (k1)), (2, .ref (k1 + 98)), (3, .ref (k1 + 110)), (4, .int (x4))] [] g M := by
  obtain ⟨h1, h2, h3, hb1, hb2, ⟨w1, w2, w3⟩, hC, hR, hO, nx⟩ := h
  have hT : tOK o.2.1 := ⟨hR.2.2.2.1, hO.2.2⟩
  exact cL_law_35 h1.1 h2 h3 hb1 hb2 ⟨w1, qL (A_extend o (ys (Int32.toNatClampNeg (x4 + (1 : Int32))))) o k1, eL_extend h1.1 h3 ⟨_, _, c_extend2 h1 hC (ys (Int32.toNatClampNeg (x4 + (1 : Int32)))), fun X M9 hx => t_x1 hx (le_extend o (ys (Int32.toNatClampNeg (x4 + (1 : Int32))))) hR, fun v M1 hq => t_q hq hR⟩, fun v1 M1 q1 => ⟨w1, _, r_extend2 h2 q1.2.2.2.1 hO.1 (ys (Int32.toNatClampNeg (x4 + (1 : Int32)))), fun v2 M2 q2 => fin1 h2 q1 q2 (fun M' c r => nx M' _ c r ((by rw [ob_extend o (ys (Int32.toNatClampNeg (x4 + (1 : Int32))))]; exact hO)))⟩⟩
theorem lc_37 (h : LI b L ys k1 x4 bc bs g M o) : mj_G (mj_mtL b L ys) room_1 (mj_FL b) false bc bs 2200 [(0, .ref (900001)), (1, .ref (k1)), (2, .ref (k1 + 98)), (3, .ref (k1 + 110)), (4, .int (x4))] [] g M := by
  obtain ⟨h1, h2, h3, hb1, hb2, ⟨w1, w2, w3⟩, hC, hR, hO, nx⟩ := h
  have hT : tOK o.2.1 := ⟨hR.2.2.2.1, hO.2.2⟩
  exact cL_law_37 h1.1 h2 h3 hb1 hb2 ⟨w1, qL (A_unsatisfied o (ys (Int32.toNatClampNeg (x4 + (1 : Int32))))) o k1, eL_unsatisfied h1.1 h3 ⟨_, _, c_unsatisfied h1 hC (ys (Int32.toNatClampNeg (x4 + (1 : Int32)))), fun X M9 hx => t_x1 hx (le_unsatisfied o (ys (Int32.toNatClampNeg (x4 + (1 : Int32))))) hR, fun v M1 hq => t_q hq hR⟩, fun v1 M1 q1 => ⟨w1, _, r_unsatisfied h2 q1.2.2.2.1 (ys (Int32.toNatClampNeg (x4 + (1 : Int32)))), fun v2 M2 q2 => fin1 h2 q1 q2 (fun M' c r => nx M' _ c r ((by rw [ob_unsatisfied o (ys (Int32.toNatClampNeg (x4 + (1 : Int32))))]; exact hO)))⟩⟩
theorem lc_39 (h : LI b L ys k1 x4 bc bs g M o) : mj_G (mj_mtL b L ys) room_1 (mj_FL b) false bc bs 2297 [(0, .ref (900001)), (1, .ref (k1)), (2, .ref (k1 + 98)), (3, .ref (k1 + 110)), (4, .int (x4))] [] g M := by
  obtain ⟨h1, h2, h3, hb1, hb2, ⟨w1, w2, w3⟩, hC, hR, hO, nx⟩ := h
  have hT : tOK o.2.1 := ⟨hR.2.2.2.1, hO.2.2⟩
  refine cL_law_39 h1.1 h2 h3 hb1 hb2 ⟨w1, w2, fun hz => ⟨qL (A_predict o (ys (Int32.toNatClampNeg (x4 + (1 : Int32)))) false) o k1, eL_predict h1.1 h3 ⟨_, _, c_predict h1 hC hO.1 (ys (Int32.toNatClampNeg (x4 + (1 : Int32)))) false, fun X M9 hx => t_x1 hx (le_predict o (ys (Int32.toNatClampNeg (x4 + (1 : Int32)))) false) hR, fun v M1 hq => t_q hq hR⟩, fun v1 M1 q1 => ⟨w1, w2, fun _ => ⟨_, r_predict h2 q1.2.2.2.1 hO.1 (ys (Int32.toNatClampNeg (x4 + (1 : Int32)))) false, fun v2 M2 q2 => fin1 h2 q1 q2 (fun M' c r => nx M' _ c r ((by rw [ob_predict o (ys (Int32.toNatClampNeg (x4 + (1 : Int32)))) false]; exact hO)))⟩, fun hc => absurd hz hc⟩⟩, fun hz => ⟨qL (A_predict o (ys (Int32.toNatClampNeg (x4 + (1 : Int32)))) true) o k1, eL_predict h1.1 h3 ⟨_, _, c_predict h1 hC hO.1 (ys (Int32.toNatClampNeg (x4 + (1 : Int32)))) true, fun X M9 hx => t_x1 hx (le_predict o (ys (Int32.toNatClampNeg (x4 + (1 : Int32)))) true) hR, fun v M1 hq => t_q hq hR⟩, fun v1 M1 q1 => ⟨w1, w2, fun hc => absurd hc hz, fun _ => ⟨_, r_predict h2 q1.2.2.2.1 hO.1 (ys (Int32.toNatClampNeg (x4 + (1 : Int32)))) true, fun v2 M2 q2 => fin1 h2 q1 q2 (fun M' c r => nx M' _ c r ((by rw [ob_predict o (ys (Int32.toNatClampNeg (x4 + (1 : Int32)))) true]; exact hO)))⟩⟩⟩⟩
theorem lc_3 (h : LI b L ys k1 x4 bc bs g M o) : mj_G (mj_mtL b L ys) room_1 (mj_FL b) false bc bs 424 [(0, .ref (900001)), (1, .ref (k1)), (2, .ref (k1 + 98)), (3, .ref (k1 + 110)), (4, .int (x4))] [] g M := by
  obtain ⟨h1, h2, h3, hb1, hb2, ⟨w1, w2, w3⟩, hC, hR, hO, nx⟩ := h
  have hT : tOK o.2.1 := ⟨hR.2.2.2.1, hO.2.2⟩
  exact cL_law_3 h1.1 h2 h3 hb1 hb2 ⟨_, c_originalCount h1 hC, fun v1 M1 q1 => ⟨_, r_originalCount h2 (hR.gf q1.2.2.2 (by omega)), fun v2 M2 q2 => fin0 q1 q2 (fun M' c r => nx M' _ c r (hO))⟩⟩
theorem lc_5 (h : LI b L ys k1 x4 bc bs g M o) : mj_G (mj_mtL b L ys) room_1 (mj_FL b) false bc bs 521 [(0, .ref (900001)), (1, .ref (k1)), (2, .ref (k1 + 98)), (3, .ref (k1 + 110)), (4, .int (x4))] [] g M := by
  obtain ⟨h1, h2, h3, hb1, hb2, ⟨w1, w2, w3⟩, hC, hR, hO, nx⟩ := h
  have hT : tOK o.2.1 := ⟨hR.2.2.2.1, hO.2.2⟩
  exact cL_law_5 h1.1 h2 h3 hb1 hb2 ⟨_, c_clauseCount h1 hC, fun v1 M1 q1 => ⟨_, r_clauseCount h2 (hR.gf q1.2.2.2 (by omega)), fun v2 M2 q2 => fin0 q1 q2 (fun M' c r => nx M' _ c r (hO))⟩⟩
theorem lc_6 (h : LI b L ys k1 x4 bc bs g M o) : mj_G (mj_mtL b L ys) room_1 (mj_FL b) false bc bs 534 [(0, .ref (900001)), (1, .ref (k1)), (2, .ref (k1 + 98)), (3, .ref (k1 + 110)), (4, .int (x4))] [] g M := by
  obtain ⟨h1, h2, h3, hb1, hb2, ⟨w1, w2, w3⟩, hC, hR, hO, nx⟩ := h
  have hT : tOK o.2.1 := ⟨hR.2.2.2.1, hO.2.2⟩
  exact cL_law_6 h1.1 h2 h3 hb1 hb2 ⟨_, c_literalCount h1 hC, fun v1 M1 q1 => ⟨_, r_literalCount h2 (hR.gf q1.2.2.2 (by omega)), fun v2 M2 q2 => fin0 q1 q2 (fun M' c r => nx M' _ c r (hO))⟩⟩
theorem lc_8 (h : LI b L ys k1 x4 bc bs g M o) : mj_G (mj_mtL b L ys) room_1 (mj_FL b) false bc bs 631 [(0, .ref (900001)), (1, .ref (k1)), (2, .ref (k1 + 98)), (3, .ref (k1 + 110)), (4, .int (x4))] [] g M := by
  obtain ⟨h1, h2, h3, hb1, hb2, ⟨w1, w2, w3⟩, hC, hR, hO, nx⟩ := h
  have hT : tOK o.2.1 := ⟨hR.2.2.2.1, hO.2.2⟩
  exact cL_law_8 h1.1 h2 h3 hb1 hb2 ⟨_, c_contradictory h1 hC, fun v1 M1 q1 => ⟨_, r_contradictory h2 (hR.gf q1.2.2.2 (by omega)), fun v2 M2 q2 => fin0 q1 q2 (fun M' c r => nx M' _ c r (hO))⟩⟩
theorem lc_13 (h : LI b L ys k1 x4 bc bs g M o) : mj_G (mj_mtL b L ys) room_1 (mj_FL b) false bc bs 868 [(0, .ref (900001)), (1, .ref (k1)), (2, .ref (k1 + 98)), (3, .ref (k1 + 110)), (4, .int (x4))] [] g M := by
  obtain ⟨h1, h2, h3, hb1, hb2, ⟨w1, w2, w3⟩, hC, hR, hO, nx⟩ := h
  have hT : tOK o.2.1 := ⟨hR.2.2.2.1, hO.2.2⟩
  exact cL_law_13 h1.1 h2 h3 hb1 hb2 ⟨_, c_clearText h1 hC, fun v1 M1 q1 => ⟨_, r_clearText h2 (hR.gf q1.2.2.2 (by omega)), fun v2 M2 q2 => fin0 q1 q2 (fun M' c r => nx M' _ c r (A_clearText_ok hO))⟩⟩
theorem lc_33 (h : LI b L ys k1 x4 bc bs g M o) : mj_G (mj_mtL b L ys) room_1 (mj_FL b) false bc bs 2050 [(0, .ref (900001)), (1, .ref (k1)), (2, .ref (k1 + 98)), (3, .ref (k1 + 110)), (4, .int (x4))] [] g M := by
  obtain ⟨h1, h2, h3, hb1, hb2, ⟨w1, w2, w3⟩, hC, hR, hO, nx⟩ := h
  have hT : tOK o.2.1 := ⟨hR.2.2.2.1, hO.2.2⟩
  exact cL_law_33 h1.1 h2 h3 hb1 hb2 ⟨_, c_rowCount h1 hC, fun v1 M1 q1 => ⟨_, r_rowCount h2 (hR.gf q1.2.2.2 (by omega)), fun v2 M2 q2 => fin0 q1 q2 (fun M' c r => nx M' _ c r (hO))⟩⟩
theorem lc_36 (h : LI b L ys k1 x4 bc bs g M o) : mj_G (mj_mtL b L ys) room_1 (mj_FL b) false bc bs 2187 [(0, .ref (900001)), (1, .ref (k1)), (2, .ref (k1 + 98)), (3, .ref (k1 + 110)), (4, .int (x4))] [] g M := by
  obtain ⟨h1, h2, h3, hb1, hb2, ⟨w1, w2, w3⟩, hC, hR, hO, nx⟩ := h
  have hT : tOK o.2.1 := ⟨hR.2.2.2.1, hO.2.2⟩
  exact cL_law_36 h1.1 h2 h3 hb1 hb2 ⟨_, c_solve h1 hC, fun v1 M1 q1 => ⟨_, r_solve h2 (hR.gf q1.2.2.2 (by omega)) hO.1, fun v2 M2 q2 => fin0 q1 q2 (fun M' c r => nx M' _ c r (hO))⟩⟩
theorem lc_40 (h : LI b L ys k1 x4 bc bs g M o) : mj_G (mj_mtL b L ys) room_1 (mj_FL b) false bc bs 2381 [(0, .ref (900001)), (1, .ref (k1)), (2, .ref (k1 + 98)), (3, .ref (k1 + 110)), (4, .int (x4))] [] g M := by
  obtain ⟨h1, h2, h3, hb1, hb2, ⟨w1, w2, w3⟩, hC, hR, hO, nx⟩ := h
  have hT : tOK o.2.1 := ⟨hR.2.2.2.1, hO.2.2⟩
  exact cL_law_40 h1.1 h2 h3 hb1 hb2 ⟨_, c_bestTechnique h1 hC hO.1, fun v1 M1 q1 => ⟨_, r_bestTechnique h2 (hR.gf q1.2.2.2 (by omega)) hO.1, fun v2 M2 q2 => fin0 q1 q2 (fun M' c r => nx M' _ c r (hO))⟩⟩
theorem lc_38 (h : LI b L ys k1 x4 bc bs g M o) : mj_G (mj_mtL b L ys) room_1 (mj_FL b) false bc bs 2256 [(0, .ref (900001)), (1, .ref (k1)), (2, .ref (k1 + 98)), (3, .ref (k1 + 110)), (4, .int (x4))] [] g M := by
  obtain ⟨h1, h2, h3, hb1, hb2, ⟨w1, w2, w3⟩, hC, hR, hO, nx⟩ := h
  have hT : tOK o.2.1 := ⟨hR.2.2.2.1, hO.2.2⟩
  exact cL_law_38 h1.1 h2 h3 hb1 hb2 ⟨w1, fun hz => ⟨_, c_models h1 hC false, fun v1 M1 q1 => ⟨w1, fun _ => ⟨_, r_models h2 (hR.gf q1.2.2.2 (by omega)) hO.1 false, fun v2 M2 q2 => fin0 q1 q2 (fun M' c r => nx M' _ c r hO)⟩, fun hc => absurd hz hc⟩⟩, fun hz => ⟨_, c_models h1 hC true, fun v1 M1 q1 => ⟨w1, fun hc => absurd hc hz, fun _ => ⟨_, r_models h2 (hR.gf q1.2.2.2 (by omega)) hO.1 true, fun v2 M2 q2 => fin0 q1 q2 (fun M' c r => nx M' _ c r hO)⟩⟩⟩⟩
theorem lc_41 (h : LI b L ys k1 x4 bc bs g M o) : mj_G (mj_mtL b L ys) room_1 (mj_FL b) false bc bs 2394 [(0, .ref (900001)), (1, .ref (k1)), (2, .ref (k1 + 98)), (3, .ref (k1 + 110)), (4, .int (x4))] [] g M := by
  obtain ⟨h1, h2, h3, hb1, hb2, ⟨w1, w2, w3⟩, hC, hR, hO, nx⟩ := h
  have hT : tOK o.2.1 := ⟨hR.2.2.2.1, hO.2.2⟩
  refine cL_law_41 h1.1 h2 h3 hb1 hb2 ⟨_, c_digest h1 hC, fun v1 M1 q1 => ?_⟩
  obtain ⟨rfl, rfl⟩ := q1
  refine ⟨_, r_digest h2 hR, fun v2 M2 q2 => ?_⟩
  obtain ⟨rfl, _, q3, q4⟩ := q2
  exact ⟨fun _ => nx M2 o (hC.gf q4 (by omega)) q3 hO, fun hc => hc (lg_cmp0.mpr rfl)⟩
theorem lc_d (h : LI b L ys k1 x4 bc bs g M o) : mj_G (mj_mtL b L ys) room_1 (mj_FL b) false bc bs 2408 [(0, .ref (900001)), (1, .ref (k1)), (2, .ref (k1 + 98)), (3, .ref (k1 + 110)), (4, .int (x4))] [] g M := by
  obtain ⟨h1, h2, h3, hb1, hb2, ⟨w1, w2, w3⟩, hC, hR, hO, nx⟩ := h
  have hT : tOK o.2.1 := ⟨hR.2.2.2.1, hO.2.2⟩
  exact cL_law_d h1.1 h2 h3 hb1 hb2 (nx M o hC hR hO)
end LW2
