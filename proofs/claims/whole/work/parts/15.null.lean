/-! null among locals; the array of saved states -/
section MGJ
variable {mt : mj_T} {R : Room} {Fi : mj_F} {ex : Bool} {bc bs pc : Nat} {ls : List (Nat × Value)} {st : List Value} {g : mj_S} {M : mj_M}
theorem mg_aload_nN {k4 : Fin 4} {i : Nat} (hd : decode mt.2.1 pc = .ok (.aload_n k4, 1)) (hi : (k4 : Nat) = i) (j : Nat) (hj : ls[j]? = some (i, .null)) (k : mj_G mt R Fi ex bc bs (pc + 1) ls (.null :: st) g M) : mj_G mt R Fi ex bc bs pc ls st g M := by
  intro p l e s m args below meth c E C H locs cells slots hw hS hc hs hex lr hl
  exact lv_aload_nN C.1 C.2.2.1 hd hi (mj_lat hl j hj) (k p l e s m args below meth c E C H locs cells slots hw hS hc hs hex lr hl)
theorem mg_astore_nN {k4 : Fin 4} {i : Nat} {ls' : List (Nat × Value)} (hd : decode mt.2.1 pc = .ok (.astore_n k4, 1)) (hi : (k4 : Nat) = i) (hin : i < mt.2.2.1) (hp : (i, Value.null) :: ls.filter (mj_keep1 i) = ls') (k : mj_G mt R Fi ex bc bs (pc + 1) ls' st g M) : mj_G mt R Fi ex bc bs pc ls (.null :: st) g M := by
  intro p l e s m args below meth c E C H locs cells slots hw hS hc hs hex lr hl
  exact lv_astore_nN C.1 C.2.2.1 hd hi hl hin rfl (fun lr9 hl9 => k p l e s m args below meth c E C H locs cells slots hw hS hc hs hex lr9 (mj_lput1 (v := .null) hl9 hp))
theorem mg_ifnullN {off : Int} {tgt : Nat} (hd : decode mt.2.1 pc = .ok (.ifnull off, 3)) (ht : (pc : Int) + off = (tgt : Int)) (k : mj_G mt R Fi ex bc bs tgt ls st g M) : mj_G mt R Fi ex bc bs pc ls (.null :: st) g M := by
  intro p l e s m args below meth c E C H locs cells slots hw hS hc hs hex lr hl
  exact lv_ifnullN C.1 C.2.2.1 hd ht (k p l e s m args below meth c E C H locs cells slots hw hS hc hs hex lr hl)
end MGJ
section MGK
variable {mt : mj_T} {Fi : mj_F} {ex : Bool} {bc bs pc : Nat} {ls : List (Nat × Value)} {st : List Value} {g : mj_S} {M : mj_M} {d mc ms : Nat}
theorem mg_mmax {idx : Nat} {x y : Int32} (hd : decode mt.2.1 pc = .ok (.invokestatic idx, 3)) (hlk : Cond.methodLink mt.1 idx yJ9_max_7cf53 ∈ lw_good) (hdp : 1 ≤ d) (hrest : (st.map fun v => v.category).sum ≤ 8) (k : mj_G mt (mj_rm d mc ms) Fi ex bc bs (pc + 3) ls (.int (if x < y then y else x) :: st) g M) : mj_G mt (mj_rm d mc ms) Fi ex bc bs pc ls (.int y :: .int x :: st) g M := by
  intro p l e s m args below meth c E C H locs cells slots hw hS hc hs hex lr hl
  exact va_mmax C.1 C.2.2.1 (C.2.2.2.1.trans hl.1.symm) C.2.2.2.2.1 (C.2.2.2.2.2.1 _ hlk) (C.2.2.2.2.2.1 _ wd_46) (C.2.2.2.2.2.1 _ wd_4) (C.2.2.2.2.2.1 _ wd_47) hdp (show _ ≤ 38 * d by rw [mj_catsum]; omega) (Nat.le_trans (Nat.le_add_right _ _) hc) (Nat.le_trans (Nat.le_add_right _ _) hs) hd (k p l e s m args below meth c E C H locs cells slots hw hS hc hs hex lr hl)
theorem mg_mmin {idx : Nat} {x y : Int32} (hd : decode mt.2.1 pc = .ok (.invokestatic idx, 3)) (hlk : Cond.methodLink mt.1 idx yJ9_min_7cf53 ∈ lw_good) (hdp : 1 ≤ d) (hrest : (st.map fun v => v.category).sum ≤ 8) (k : mj_G mt (mj_rm d mc ms) Fi ex bc bs (pc + 3) ls (.int (if y < x then y else x) :: st) g M) : mj_G mt (mj_rm d mc ms) Fi ex bc bs pc ls (.int y :: .int x :: st) g M := by
  intro p l e s m args below meth c E C H locs cells slots hw hS hc hs hex lr hl
  exact va_mmin C.1 C.2.2.1 (C.2.2.2.1.trans hl.1.symm) C.2.2.2.2.1 (C.2.2.2.2.2.1 _ hlk) (C.2.2.2.2.2.1 _ wd_475) (C.2.2.2.2.2.1 _ wd_4) (C.2.2.2.2.2.1 _ wd_476) hdp (show _ ≤ 38 * d by rw [mj_catsum]; omega) (Nat.le_trans (Nat.le_add_right _ _) hc) (Nat.le_trans (Nat.le_add_right _ _) hs) hd (k p l e s m args below meth c E C H locs cells slots hw hS hc hs hex lr hl)
end MGK
