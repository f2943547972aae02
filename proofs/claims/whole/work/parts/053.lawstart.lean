/-! the start of the law: what the Statement gives -/
set_option maxHeartbeats 4000000 in
set_option maxRecDepth 100000 in
theorem lw_g {p : Program} {s : State} {m : MethodId} {meth : Method} {c : Code} {b L : Nat} {xs : Nat → Int32} (C0 : lw_At p s m meth c b L xs) : ∃ g : bG, gX g (fun q => s.heap.size ≤ q) s s.heap := by
  obtain ⟨hx, hb, hr, hml, hown, hts, hX, hbl, hlocks, hgv⟩ := C0
  have hA : ∀ a : Nat, a < s.heap.size → ¬ (fun q : Nat => s.heap.size ≤ q) a := fun a h => Nat.not_le.mpr h
  obtain ⟨c0, iS0, hKn0⟩ := u_known (C := RX2) (T := TX2) (N := 3) (n := 3) hts wLc_X2 (hts (.instantiable RX2 3) (List.mem_of_getElem? (i := 234) (by decide +kernel)))
  obtain ⟨c1, iS1, hKn1⟩ := u_known (C := RX3) (T := TX3) (N := 3) (n := 3) hts wLc_X3 (hts (.instantiable RX3 3) (List.mem_of_getElem? (i := 266) (by decide +kernel)))
  obtain ⟨c2, iS2, hKn2⟩ := u_known (C := RX4) (T := TX4) (N := 6) (n := 6) hts wLc_X4 (hts (.instantiable RX4 6) (List.mem_of_getElem? (i := 114) (by decide +kernel)))
  obtain ⟨c3, iS3, hKn3⟩ := u_known (C := RX5) (T := TX5) (N := 2) (n := 2) hts wLc_X5 (hts (.instantiable RX5 2) (List.mem_of_getElem? (i := 98) (by decide +kernel)))
  obtain ⟨c4, iS4, hKn4⟩ := u_known (C := RX6) (T := TX6) (N := 4) (n := 4) hts wLc_X6 (hts (.instantiable RX6 4) (List.mem_of_getElem? (i := 147) (by decide +kernel)))
  obtain ⟨c5, iS5, hKn5⟩ := u_known (C := RX7) (T := TX7) (N := 3) (n := 3) hts wLc_X7 (hts (.instantiable RX7 3) (List.mem_of_getElem? (i := 217) (by decide +kernel)))
  obtain ⟨c6, iS6, hKn6⟩ := u_known (C := RX8) (T := TX8) (N := 1) (n := 1) hts wLc_X8 (hts (.instantiable RX8 1) (List.mem_of_getElem? (i := 207) (by decide +kernel)))
  obtain ⟨c7, iS7, hKn7⟩ := u_known (C := RX9) (T := TX9) (N := 5) (n := 5) hts wLc_X9 (hts (.instantiable RX9 5) (List.mem_of_getElem? (i := 70) (by decide +kernel)))
  obtain ⟨c8, iS8, hKn8⟩ := u_known (C := RX10) (T := TX10) (N := 1) (n := 1) hts wLc_X10 (hts (.instantiable RX10 1) (List.mem_of_getElem? (i := 252) (by decide +kernel)))
  obtain ⟨c9, iS9, hKn9⟩ := u_known (C := RX11) (T := TX11) (N := 10) (n := 10) hts wLc_X11 (hts (.instantiable RX11 10) (List.mem_of_getElem? (i := 62) (by decide +kernel)))
  obtain ⟨c10, iS10, hKn10⟩ := u_known (C := RX12) (T := TX12) (N := 30) (n := 30) hts wLc_X12 (hts (.instantiable RX12 30) (List.mem_of_getElem? (i := 636) (by decide +kernel)))
  obtain ⟨aI, kI, mI, fI, gI, dI⟩ := Cond.arrayClass_spec (hts (.arrayClass .int) (List.mem_of_getElem? (i := 96) (by decide +kernel)))
  obtain ⟨aJ, kJ, mJ, fJ, gJ, dJ⟩ := Cond.arrayClass_spec (hts (.arrayClass .long) (List.mem_of_getElem? (i := 205) (by decide +kernel)))
  obtain ⟨aZ, kZ, mZ, fZ, gZ, dZ⟩ := Cond.arrayClass_spec (hts (.arrayClass .boolean) (List.mem_of_getElem? (i := 732) (by decide +kernel)))
  have hs := flat_of_before _ hgv
  obtain ⟨tU, evU, hTU⟩ := va_Tof (tm := (Term.static "BeetleDrive$Beetle" "UNIT" "[I")) (ty := .int) (N := 7) (f := fun j => .int (sU j)) (A := fun q : Nat => s.heap.size ≤ q) (by decide) (hs (Cond.arrayOf (Term.static "BeetleDrive$Beetle" "UNIT" "[I") .int) (by decide +kernel)) (va_eqt (z := 7) (hs (Cond.eq (.length (Term.static "BeetleDrive$Beetle" "UNIT" "[I")) (.int 7)) (by decide +kernel))) (fun j hj => by
    match j, hj with
    | 0, _ => exact va_eqt (z := 1) (hs (Cond.eq (.elem (Term.static "BeetleDrive$Beetle" "UNIT" "[I") (.int 0)) (.int 1)) (by decide +kernel))
    | 1, _ => exact va_eqt (z := 1) (hs (Cond.eq (.elem (Term.static "BeetleDrive$Beetle" "UNIT" "[I") (.int 1)) (.int 1)) (by decide +kernel))
    | 2, _ => exact va_eqt (z := 10) (hs (Cond.eq (.elem (Term.static "BeetleDrive$Beetle" "UNIT" "[I") (.int 2)) (.int 10)) (by decide +kernel))
    | 3, _ => exact va_eqt (z := 100) (hs (Cond.eq (.elem (Term.static "BeetleDrive$Beetle" "UNIT" "[I") (.int 3)) (.int 100)) (by decide +kernel))
    | 4, _ => exact va_eqt (z := 1000) (hs (Cond.eq (.elem (Term.static "BeetleDrive$Beetle" "UNIT" "[I") (.int 4)) (.int 1000)) (by decide +kernel))
    | 5, _ => exact va_eqt (z := 10000) (hs (Cond.eq (.elem (Term.static "BeetleDrive$Beetle" "UNIT" "[I") (.int 5)) (.int 10000)) (by decide +kernel))
    | 6, _ => exact va_eqt (z := 100000) (hs (Cond.eq (.elem (Term.static "BeetleDrive$Beetle" "UNIT" "[I") (.int 6)) (.int 100000)) (by decide +kernel))
    | k + 7, h => omega) hA
  have hZU := va_Zref (A := fun q : Nat => s.heap.size ≤ q) (hts (.laysStatic "BeetleDrive$Beetle" "UNIT" "[I") (List.mem_of_getElem? (i := 171) (by decide +kernel))) (hts (.initialized RX0) (List.mem_of_getElem? (i := 52) (by decide +kernel))) evU hA
  obtain ⟨tM, evM, hTM⟩ := va_Tof (tm := (Term.static "BeetleDrive$Beetle" "MOST" "[I")) (ty := .int) (N := 7) (f := fun j => .int (sM j)) (A := fun q : Nat => s.heap.size ≤ q) (by decide) (hs (Cond.arrayOf (Term.static "BeetleDrive$Beetle" "MOST" "[I") .int) (by decide +kernel)) (va_eqt (z := 7) (hs (Cond.eq (.length (Term.static "BeetleDrive$Beetle" "MOST" "[I")) (.int 7)) (by decide +kernel))) (fun j hj => by
    match j, hj with
    | 0, _ => exact va_eqt (z := 0) (hs (Cond.eq (.elem (Term.static "BeetleDrive$Beetle" "MOST" "[I") (.int 0)) (.int 0)) (by decide +kernel))
    | 1, _ => exact va_eqt (z := 2) (hs (Cond.eq (.elem (Term.static "BeetleDrive$Beetle" "MOST" "[I") (.int 1)) (.int 2)) (by decide +kernel))
    | 2, _ => exact va_eqt (z := 2) (hs (Cond.eq (.elem (Term.static "BeetleDrive$Beetle" "MOST" "[I") (.int 2)) (.int 2)) (by decide +kernel))
    | 3, _ => exact va_eqt (z := 6) (hs (Cond.eq (.elem (Term.static "BeetleDrive$Beetle" "MOST" "[I") (.int 3)) (.int 6)) (by decide +kernel))
    | 4, _ => exact va_eqt (z := 1) (hs (Cond.eq (.elem (Term.static "BeetleDrive$Beetle" "MOST" "[I") (.int 4)) (.int 1)) (by decide +kernel))
    | 5, _ => exact va_eqt (z := 1) (hs (Cond.eq (.elem (Term.static "BeetleDrive$Beetle" "MOST" "[I") (.int 5)) (.int 1)) (by decide +kernel))
    | 6, _ => exact va_eqt (z := 1) (hs (Cond.eq (.elem (Term.static "BeetleDrive$Beetle" "MOST" "[I") (.int 6)) (.int 1)) (by decide +kernel))
    | k + 7, h => omega) hA
  have hZM := va_Zref (A := fun q : Nat => s.heap.size ≤ q) (hts (.laysStatic "BeetleDrive$Beetle" "MOST" "[I") (List.mem_of_getElem? (i := 173) (by decide +kernel))) (hts (.initialized RX0) (List.mem_of_getElem? (i := 52) (by decide +kernel))) evM hA
  obtain ⟨tH, evH, hTH⟩ := va_Tof (tm := (Term.static "BeetleDrive$Beetle" "HANGS_ON" "[I")) (ty := .int) (N := 7) (f := fun j => .int (sH j)) (A := fun q : Nat => s.heap.size ≤ q) (by decide) (hs (Cond.arrayOf (Term.static "BeetleDrive$Beetle" "HANGS_ON" "[I") .int) (by decide +kernel)) (va_eqt (z := 7) (hs (Cond.eq (.length (Term.static "BeetleDrive$Beetle" "HANGS_ON" "[I")) (.int 7)) (by decide +kernel))) (fun j hj => by
    match j, hj with
    | 0, _ => exact va_eqt (z := 0) (hs (Cond.eq (.elem (Term.static "BeetleDrive$Beetle" "HANGS_ON" "[I") (.int 0)) (.int 0)) (by decide +kernel))
    | 1, _ => exact va_eqt (z := 5) (hs (Cond.eq (.elem (Term.static "BeetleDrive$Beetle" "HANGS_ON" "[I") (.int 1)) (.int 5)) (by decide +kernel))
    | 2, _ => exact va_eqt (z := 5) (hs (Cond.eq (.elem (Term.static "BeetleDrive$Beetle" "HANGS_ON" "[I") (.int 2)) (.int 5)) (by decide +kernel))
    | 3, _ => exact va_eqt (z := 6) (hs (Cond.eq (.elem (Term.static "BeetleDrive$Beetle" "HANGS_ON" "[I") (.int 3)) (.int 6)) (by decide +kernel))
    | 4, _ => exact va_eqt (z := 6) (hs (Cond.eq (.elem (Term.static "BeetleDrive$Beetle" "HANGS_ON" "[I") (.int 4)) (.int 6)) (by decide +kernel))
    | 5, _ => exact va_eqt (z := 6) (hs (Cond.eq (.elem (Term.static "BeetleDrive$Beetle" "HANGS_ON" "[I") (.int 5)) (.int 6)) (by decide +kernel))
    | 6, _ => exact va_eqt (z := 0) (hs (Cond.eq (.elem (Term.static "BeetleDrive$Beetle" "HANGS_ON" "[I") (.int 6)) (.int 0)) (by decide +kernel))
    | k + 7, h => omega) hA
  have hZH := va_Zref (A := fun q : Nat => s.heap.size ≤ q) (hts (.laysStatic "BeetleDrive$Beetle" "HANGS_ON" "[I") (List.mem_of_getElem? (i := 178) (by decide +kernel))) (hts (.initialized RX0) (List.mem_of_getElem? (i := 52) (by decide +kernel))) evH hA
  refine ⟨(fun k => match k with | 0 => c0 | 1 => c1 | 2 => c2 | 3 => c3 | 4 => c4 | 5 => c5 | 6 => c6 | 7 => c7 | 8 => c8 | 9 => c9 | _ => c10, fun k => match k with | 0 => iS0 | 1 => iS1 | 2 => iS2 | 3 => iS3 | 4 => iS4 | 5 => iS5 | 6 => iS6 | 7 => iS7 | 8 => iS8 | 9 => iS9 | _ => iS10, aI, aJ, aZ, tU, tM, tH), ⟨fun k q hq => ?_, fun k q hk => ?_⟩, ?_, ?_, ⟨hZU, hZM, hZH⟩, hTU, hTM, hTH⟩
  · match k, hq with
    | 0, hq => cases hq; exact hKn0
    | 1, hq => cases hq; exact hKn1
    | 2, hq => cases hq; exact hKn2
    | 3, hq => cases hq; exact hKn3
    | 4, hq => cases hq; exact hKn4
    | 5, hq => cases hq; exact hKn5
    | 6, hq => cases hq; exact hKn6
    | 7, hq => cases hq; exact hKn7
    | 8, hq => cases hq; exact hKn8
    | 9, hq => cases hq; exact hKn9
    | 10, hq => cases hq; exact hKn10
    | k + 11, hq => simp [vwCl] at hq
  · match k, hk with
    | 0, hk => cases hk; exact ⟨fun n z => ⟨fun k h => (by cases h), kI, gI, mI, dI⟩, fI⟩
    | 1, hk => cases hk; exact ⟨fun n z => ⟨fun k h => (by cases h), kJ, gJ, mJ, dJ⟩, fJ⟩
    | 2, hk => cases hk; exact ⟨fun n z => ⟨fun k h => (by cases h), kZ, gZ, mZ, dZ⟩, fZ⟩
    | k + 3, hk => simp [gTy] at hk
  · intro w hw
    refine va_Nw.of rfl (hts _ ?_)
    have h1 : (Cond.fieldLinkNest w.1 w.2.1 w.2.2.1 w.2.2.2.1 w.2.2.2.2 "BeetleDrive") ∈ gNf.map (fun w => Cond.fieldLinkNest w.1 w.2.1 w.2.2.1 w.2.2.2.1 w.2.2.2.2 "BeetleDrive") := List.mem_map.mpr ⟨w, hw, rfl⟩
    rw [show gNf.map (fun w => Cond.fieldLinkNest w.1 w.2.1 w.2.2.1 w.2.2.2.1 w.2.2.2.2 "BeetleDrive") = [76, 78, 81, 82, 84, 104, 106, 107, 122, 124, 126, 128, 130, 132, 194, 225, 240, 243, 276, 278, 280].filterMap (fun i => lw_tbl[i]?) from by decide +kernel] at h1
    obtain ⟨i, -, hi⟩ := List.mem_filterMap.mp h1
    exact List.mem_of_getElem? hi
  · intro w hw
    refine va_Nw.of rfl (hts _ ?_)
    have h1 : (Cond.methodLinkNest w.1 w.2.1 w.2.2 "BeetleDrive") ∈ gNm.map (fun w => Cond.methodLinkNest w.1 w.2.1 w.2.2 "BeetleDrive") := List.mem_map.mpr ⟨w, hw, rfl⟩
    rw [show gNm.map (fun w => Cond.methodLinkNest w.1 w.2.1 w.2.2 "BeetleDrive") = [71, 99, 115, 120, 164, 208, 218, 235, 267, 272, 274, 366, 370, 515, 574].filterMap (fun i => lw_tbl[i]?) from by decide +kernel] at h1
    obtain ⟨i, -, hi⟩ := List.mem_filterMap.mp h1
    exact List.mem_of_getElem? hi
