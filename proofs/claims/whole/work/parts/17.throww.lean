section MGHW
variable {mt : mj_T} {ex : Bool} {bc bs pc : Nat} {ls : List (Nat × Value)} {g : mj_S} {M : mj_M} {d mc ms : Nat} {Qn : mj_Qn} {Qx : mj_Qx}
theorem mg_throwW {ik is ic ti : Nat} {cls text : String} (hm : mt.1 = RX9) (hno : mt.2.2.2.2.1 = mj_no) (hw : mj_xw ik ic cls) (htx : mj_txt[ti]? = some (RX9, is, text))
    (d0 : decode mt.2.1 pc = .ok (.new ik, 3)) (d3 : decode mt.2.1 (pc + 3) = .ok (.dup, 1)) (d4 : decode mt.2.1 (pc + 4) = .ok (.ldc_w is, 3)) (d6 : decode mt.2.1 (pc + 7) = .ok (.invokespecial ic, 3)) (d9 : decode mt.2.1 (pc + 10) = .ok (.athrow, 1))
    (hd : 7 ≤ d) (hbc : 1 ≤ bc) (hbs : 6 ≤ bs) (hq : Qx cls g M) : mj_G mt (mj_rm d mc ms) (mj_Fi Qn Qx mc ms) ex bc bs pc ls [] g M := by
  intro p l e s m args below meth c E X H locs cells slots hWd hS hc hs hex lr hl
  have hc' : cells + bc ≤ mc := hc
  have hs' : slots + bs ≤ ms := hs
  have hEV := X.2.2.2.2.2.2.2.2.2.2
  have hex0 : mj_no c E := by rw [← hno]; exact X.2.2.2.2.2.2.2.2.1
  refine vx_throwSW (cls := cls) (own := RX9) (names := mj_nm) (text := text) (sa := E.2.2.2.1 ti) (A := mj_A E.1) X.1 X.2.2.1 X.2.1 (by rw [← hm]; exact X.2.2.2.2.1) hw.1 mj_nm_fit (X.2.2.2.2.2.1 _ hw.2.1) (X.2.2.2.2.2.1 _ hw.2.2.1) (hEV.2.2.2.2.2.1 ti _ htx) ?_ hw.2.2.2.2.2.1 hEV.2.2.2.2.2.2.2.1 hEV.2.2.2.2.2.2.2.2.1 hS (by rw [hl.1]; exact X.2.2.2.1.symm) d0 d3 d4 d6 d9 (fun x hx => (hex0 x hx).elim) (show 2 + 3 < d by omega) (show 0 + (13 * (2 + 1) + 43) ≤ 38 * d by omega) (show cells + 1 ≤ mc by omega) (show slots + 6 ≤ ms by omega) X.2.2.2.2.2.2.1 ?_ hS.2.2 (by omega) (by omega)
  · refine vx_hat (B := Cond.castable cls cls :: mj_decl.map Cond.declares) (fun w hw9 => X.2.2.2.2.2.1 w (List.mem_filter.mpr ⟨hw.2.2.2.1 w hw9, (List.mem_filter.mp hw9).2⟩)) hw.2.2.2.2.1 (fun w hw9 => ?_)
    rcases List.mem_cons.mp hw9 with rfl | hw9
    · exact va_Nw.use rfl (hEV.2.2.2.1 cls hw.2.2.2.2.2.2)
    · obtain ⟨q, hq9, rfl⟩ := List.mem_map.mp hw9
      exact va_Nw.use rfl (hEV.2.2.1 q hq9)
  · intro t _ hz hk
    exact ⟨⟨g, M, hq, hWd.1.kept (fun k x hx => hk x.1 ((hWd.1 k x hx).lt)), hWd.2⟩, Nat.le_trans hS.1 hz, fun x h1 h2 => (hk x (Nat.lt_of_lt_of_le h1 hS.1)).trans (hS.2.1 x h1 h2)⟩
end MGHW
