/-! ===== walks, by program ===== -/
set_option maxHeartbeats 4000000 in
set_option maxRecDepth 100000 in
theorem c_X11_isWithin (l : Launch) (g : bG) (x0 : Int32) (x1 : Int32) (x2 : Int32) (out : Int32) (hf : f_X11_isWithin x0 x1 x2 = some out) : Ri l g yX11_isWithin wsX11_isWithin ({ frames := 0, cells := 0, slots := 0, locals := 0 } : Room) [.int x0, .int x1, .int x2] [] out := by
  refine ofR (cc := cX11_isWithin) (nL := 3) (ret := some .boolean) (by decide) rfl (Nat.le_of_ble_eq_true rfl) ?_
  intro p e s m below meth c ar hC hP hG ls hl
  have hS : va_S (fun _ => False) s.heap s.heap [] := va_S.rf
  obtain ⟨hx, hb, hml, hown, hts, hr, hlk, -⟩ := hC
  have hl : lv_has ls 3 [(0, .int x0), (1, .int x1), (2, .int x2)] := hl
  have hK := hG.1
  generalize hQ : MQ below (vp_Si (fun x => x = out)) ar s 0 0 (fun _ => False) = QQ
  unfold f_X11_isWithin at hf
  refine lv_iload_n hx hb dX11_isWithin_0 rfl (lv_at hl 0 rfl) ?_
  refine lv_iload_n hx hb dX11_isWithin_1 rfl (lv_at hl 1 rfl) ?_
  refine lv_icmp_lt (tgt := 14) hx hb dX11_isWithin_2 (by decide) (fun c1 => ?_) (fun c1 => ?_)
  · replace hf := ift c1 hf
    refine lv_iconst (v := 0) hx hb dX11_isWithin_14 (by decide) ?_
    rw [← hQ, ← Option.some.inj hf]
    exact eR_z hx hb hr hlk nb0 rfl dX11_isWithin_15
  · replace hf := iff_ c1 hf
    refine lv_iload_n hx hb dX11_isWithin_5 rfl (lv_at hl 0 rfl) ?_
    refine lv_iload_n hx hb dX11_isWithin_6 rfl (lv_at hl 2 rfl) ?_
    refine lv_icmp_gt (tgt := 14) hx hb dX11_isWithin_7 (by decide) (fun c2 => ?_) (fun c2 => ?_)
    · replace hf := ift c2 hf
      refine lv_iconst (v := 0) hx hb dX11_isWithin_14 (by decide) ?_
      rw [← hQ, ← Option.some.inj hf]
      exact eR_z hx hb hr hlk nb0 rfl dX11_isWithin_15
    · replace hf := iff_ c2 hf
      refine lv_iconst (v := 1) hx hb dX11_isWithin_10 (by decide) ?_
      refine lv_goto (tgt := 15) hx hb dX11_isWithin_11 (by decide) ?_
      rw [← hQ, ← Option.some.inj hf]
      exact eR_z hx hb hr hlk nb1 rfl dX11_isWithin_15
set_option maxHeartbeats 4000000 in
set_option maxRecDepth 100000 in
theorem c_X0_count (l : Launch) (g : bG) (x0 : Int32) (x1 : Int32) (out : Int32) (hf : f_X0_count x0 x1 = some out) : Ri l g yX0_count wsX0_count ({ frames := 0, cells := 0, slots := 0, locals := 0 } : Room) [.int x0, .int x1] [] out := by
  refine ofR (cc := cX0_count) (nL := 2) (ret := some .int) (by decide) rfl (Nat.le_of_ble_eq_true rfl) ?_
  intro p e s m below meth c ar hC hP hG ls hl
  have hS : va_S (fun _ => False) s.heap s.heap [] := va_S.rf
  obtain ⟨hx, hb, hml, hown, hts, hr, hlk, -⟩ := hC
  have hl : lv_has ls 2 [(0, .int x0), (1, .int x1)] := hl
  have hK := hG.1
  generalize hQ : MQ below (vp_Si (fun x => x = out)) ar s 0 0 (fun _ => False) = QQ
  unfold f_X0_count at hf
  refine lv_iload_n hx hb dX0_count_0 rfl (lv_at hl 0 rfl) ?_
  refine va_gets hx hb hG.2.2.2.1.1 hS hown (hts (.fieldLink RX0 28 "BeetleDrive$Beetle" "UNIT" "[I") (List.mem_of_getElem? (i := 1) rfl)) (fun _ h => h) dX0_count_1 ?_
  refine lv_iload_n hx hb dX0_count_4 rfl (lv_at hl 1 rfl) ?_
  obtain ⟨hi1, hf⟩ := chk_some hf
  refine va_ti hx hb hG.ti_.1 hS hi1 (v := .int (sU (Int32.toNatClampNeg x1))) rfl dX0_count_5 ?_
  obtain ⟨hz2, hf⟩ := nz_some hf
  refine lv_idiv hx hb dX0_count_6 hz2 ?_
  refine lv_bipush (v := 10) hx hb dX0_count_7 (by decide) ?_
  refine lv_irem hx hb dX0_count_9 (by decide) ?_
  rw [← hQ, ← Option.some.inj hf]
  exact eR_i hx hb hr hlk rfl dX0_count_10
set_option maxHeartbeats 4000000 in
set_option maxRecDepth 100000 in
theorem c_X0_hasWhatItNeeds (l : Launch) (g : bG) (x0 : Int32) (x1 : Int32) (out : Int32) (hf : f_X0_hasWhatItNeeds x0 x1 = some out) : Ri l g yX0_hasWhatItNeeds wsX0_hasWhatItNeeds ({ frames := 1, cells := 0, slots := 0, locals := 21 } : Room) [.int x0, .int x1] [] out := by
  refine ofR (cc := cX0_hasWhatItNeeds) (nL := 3) (ret := some .boolean) (by decide) rfl (Nat.le_of_ble_eq_true rfl) ?_
  intro p e s m below meth c ar hC hP hG ls hl
  have hS : va_S (fun _ => False) s.heap s.heap [] := va_S.rf
  obtain ⟨hx, hb, hml, hown, hts, hr, hlk, -⟩ := hC
  have hl : lv_has ls 3 [(0, .int x0), (1, .int x1)] := hl
  have hK := hG.1
  generalize hQ : MQ below (vp_Si (fun x => x = out)) ar s 0 0 (fun _ => False) = QQ
  unfold f_X0_hasWhatItNeeds at hf
  refine va_gets hx hb hG.2.2.2.1.2.2 hS hown (hts (.fieldLink RX0 31 "BeetleDrive$Beetle" "HANGS_ON" "[I") (List.mem_of_getElem? (i := 1) rfl)) (fun _ h => h) dX0_hasWhatItNeeds_0 ?_
  refine lv_iload_n hx hb dX0_hasWhatItNeeds_3 rfl (lv_at hl 1 rfl) ?_
  obtain ⟨hi1, hf⟩ := chk_some hf
  refine va_ti hx hb hG.ti_.2.2 hS hi1 (v := .int (sH (Int32.toNatClampNeg x1))) rfl dX0_hasWhatItNeeds_4 ?_
  refine lv_istore_n (lv' := [(2, .int (sH (Int32.toNatClampNeg x1))), (0, .int x0), (1, .int x1)]) hx hb dX0_hasWhatItNeeds_5 rfl hl (by decide) rfl (fun ls hl => ?_)
  refine lv_iload_n hx hb dX0_hasWhatItNeeds_6 rfl (lv_at hl 0 rfl) ?_
  refine lv_if_eq (tgt := 18) hx hb dX0_hasWhatItNeeds_7 (by decide) (fun c2 => ?_) (fun c2 => ?_)
  · replace hf := ift c2 hf
    refine lv_iconst (v := 1) hx hb dX0_hasWhatItNeeds_18 (by decide) ?_
    refine lv_goto (tgt := 23) hx hb dX0_hasWhatItNeeds_19 (by decide) ?_
    rw [← hQ, ← Option.some.inj hf]
    exact eR_z hx hb hr hlk nb1 rfl dX0_hasWhatItNeeds_23
  · replace hf := iff_ c2 hf
    refine lv_iload_n hx hb dX0_hasWhatItNeeds_10 rfl (lv_at hl 1 rfl) ?_
    refine lv_iload_n hx hb dX0_hasWhatItNeeds_11 rfl (lv_at hl 0 rfl) ?_
    obtain ⟨z3, hq4, hf⟩ := bnd_some hf
    refine kR_i (va_runS (As := [.int x0, .int (sH (Int32.toNatClampNeg x1))]) (rest := []) ⟨hx, hb, hml, hown, hts⟩ (c_X0_count l g x0 (sH (Int32.toNatClampNeg x1)) z3 hq4) (va_cwS 2 hts gX0_hasWhatItNeeds_X0_count rfl rfl rfl (by decide +kernel) ⟨Nat.le_of_ble_eq_true rfl, Nat.le_of_ble_eq_true rfl⟩) (kpS_R hG (hP.subm (ws' := []) [] rfl)) rfl rfl hl.1 rfl (lv_room (Nat.le_of_ble_eq_true rfl)) dX0_hasWhatItNeeds_12 ⟨Nat.le_of_ble_eq_true rfl, Nat.le_of_ble_eq_true rfl⟩) ?_
    refine lv_if_le (tgt := 22) hx hb dX0_hasWhatItNeeds_15 (by decide) (fun c5 => ?_) (fun c5 => ?_)
    · replace hf := ift c5 hf
      refine lv_iconst (v := 0) hx hb dX0_hasWhatItNeeds_22 (by decide) ?_
      rw [← hQ, ← Option.some.inj hf]
      exact eR_z hx hb hr hlk nb0 rfl dX0_hasWhatItNeeds_23
    · replace hf := iff_ c5 hf
      refine lv_iconst (v := 1) hx hb dX0_hasWhatItNeeds_18 (by decide) ?_
      refine lv_goto (tgt := 23) hx hb dX0_hasWhatItNeeds_19 (by decide) ?_
      rw [← hQ, ← Option.some.inj hf]
      exact eR_z hx hb hr hlk nb1 rfl dX0_hasWhatItNeeds_23
set_option maxHeartbeats 4000000 in
set_option maxRecDepth 100000 in
theorem c_X0_canBe (l : Launch) (g : bG) (x0 : Int32) (out : Int32) (hf : f_X0_canBe x0 = some out) : Ri l g yX0_canBe wsX0_canBe ({ frames := 2, cells := 0, slots := 0, locals := 43 } : Room) [.int x0] [] out := by
  refine ofR (cc := cX0_canBe) (nL := 3) (ret := some .boolean) (by decide) rfl (Nat.le_of_ble_eq_true rfl) ?_
  intro p e s m below meth c ar hC hP hG ls hl
  have hS : va_S (fun _ => False) s.heap s.heap [] := va_S.rf
  obtain ⟨hx, hb, hml, hown, hts, hr, hlk, -⟩ := hC
  have hl : lv_has ls 3 [(0, .int x0)] := hl
  have hK := hG.1
  generalize hQ : MQ below (vp_Si (fun x => x = out)) ar s 0 0 (fun _ => False) = QQ
  have w_14 : ∀ n : Nat, ∀ (x0 : Int32) (x1 : Int32), f_X0_canBe_b14 n x0 x1 = some out → ∀ ls : Array Slot, lv_has ls 3 [(0, .int x0), (1, .int x1)] → W p l e ({ frames := 2, cells := 0, slots := 0, locals := 43 } : Room) s m ar below meth c s.heap [] 0 0 QQ (F0 m 14 ls []) := by
    intro n
    induction n with
    | zero =>
      intro x0 x1 hf
      rw [f_X0_canBe_b14_z] at hf
      cases hf
    | succ n ih =>
      intro x0 x1 hf ls hl
      rw [f_X0_canBe_b14_s] at hf
      refine lv_iload_n hx hb dX0_canBe_14 rfl (lv_at hl 1 rfl) ?_
      refine lv_bipush (v := 6) hx hb dX0_canBe_15 (by decide) ?_
      refine lv_icmp_gt (tgt := 55) hx hb dX0_canBe_17 (by decide) (fun c4 => ?_) (fun c4 => ?_)
      · replace hf := ift c4 hf
        refine lv_iconst (v := 1) hx hb dX0_canBe_55 (by decide) ?_
        rw [← hQ, ← Option.some.inj hf]
        exact eR_z hx hb hr hlk nb1 rfl dX0_canBe_56
      · replace hf := iff_ c4 hf
        refine lv_iload_n hx hb dX0_canBe_20 rfl (lv_at hl 0 rfl) ?_
        refine lv_iload_n hx hb dX0_canBe_21 rfl (lv_at hl 1 rfl) ?_
        obtain ⟨z5, hq6, hf⟩ := bnd_some hf
        refine kR_i (va_runS (As := [.int x0, .int x1]) (rest := []) ⟨hx, hb, hml, hown, hts⟩ (c_X0_count l g x0 x1 z5 hq6) (va_cwS 2 hts gX0_canBe_X0_count rfl rfl rfl (by decide +kernel) ⟨Nat.le_of_ble_eq_true rfl, Nat.le_of_ble_eq_true rfl⟩) (kpS_R hG (hP.subm (ws' := []) [] rfl)) rfl rfl hl.1 rfl (lv_room (Nat.le_of_ble_eq_true rfl)) dX0_canBe_22 ⟨Nat.le_of_ble_eq_true rfl, Nat.le_of_ble_eq_true rfl⟩) ?_
        refine lv_istore_n (lv' := [(2, .int z5), (0, .int x0), (1, .int x1)]) hx hb dX0_canBe_25 rfl hl (by decide) rfl (fun ls hl => ?_)
        refine lv_iload_n hx hb dX0_canBe_26 rfl (lv_at hl 0 rfl) ?_
        refine va_gets hx hb hG.2.2.2.1.2.1 hS hown (hts (.fieldLink RX0 20 "BeetleDrive$Beetle" "MOST" "[I") (List.mem_of_getElem? (i := 2) rfl)) (fun _ h => h) dX0_canBe_27 ?_
        refine lv_iload_n hx hb dX0_canBe_30 rfl (lv_at hl 2 rfl) ?_
        obtain ⟨hi7, hf⟩ := chk_some hf
        refine va_ti hx hb hG.ti_.2.1 hS hi7 (v := .int (sM (Int32.toNatClampNeg x1))) rfl dX0_canBe_31 ?_
        refine lv_icmp_gt (tgt := 47) hx hb dX0_canBe_32 (by decide) (fun c8 => ?_) (fun c8 => ?_)
        · replace hf := ift c8 hf
          refine lv_iconst (v := 0) hx hb dX0_canBe_47 (by decide) ?_
          rw [← hQ, ← Option.some.inj hf]
          exact eR_z hx hb hr hlk nb0 rfl dX0_canBe_48
        · replace hf := iff_ c8 hf
          refine lv_iload_n hx hb dX0_canBe_35 rfl (lv_at hl 0 rfl) ?_
          refine lv_if_le (tgt := 49) hx hb dX0_canBe_36 (by decide) (fun c9 => ?_) (fun c9 => ?_)
          · replace hf := ift c9 hf
            refine lv_iinc (v := (x1 + 1)) (lv' := [(1, .int (x1 + 1)), (2, .int z5), (0, .int x0)]) hx hb dX0_canBe_49 hl (k := 2) rfl rfl (by decide) rfl (fun ls hl => ?_)
            refine lv_goto (tgt := 14) hx hb dX0_canBe_52 (by decide) ?_
            exact ih x0 (x1 + 1) hf ls (lv_sub hl [2, 0] rfl)
          · replace hf := iff_ c9 hf
            refine lv_iload_n hx hb dX0_canBe_39 rfl (lv_at hl 1 rfl) ?_
            refine lv_iload_n hx hb dX0_canBe_40 rfl (lv_at hl 2 rfl) ?_
            obtain ⟨z10, hq11, hf⟩ := bnd_some hf
            refine kR_i (va_runS (As := [.int x0, .int x1]) (rest := []) ⟨hx, hb, hml, hown, hts⟩ (c_X0_hasWhatItNeeds l g x0 x1 z10 hq11) (va_cwS 2 hts gX0_canBe_X0_hasWhatItNeeds rfl rfl rfl (by decide +kernel) ⟨Nat.le_of_ble_eq_true rfl, Nat.le_of_ble_eq_true rfl⟩) (kpS_R hG (hP.subm (ws' := []) [] rfl)) rfl rfl hl.1 rfl (lv_room (Nat.le_of_ble_eq_true rfl)) dX0_canBe_41 ⟨Nat.le_of_ble_eq_true rfl, Nat.le_of_ble_eq_true rfl⟩) ?_
            refine lv_if_ne (tgt := 49) hx hb dX0_canBe_44 (by decide) (fun c12 => ?_) (fun c12 => ?_)
            · replace hf := iff_ c12 hf
              refine lv_iinc (v := (x1 + 1)) (lv' := [(1, .int (x1 + 1)), (2, .int z5), (0, .int x0)]) hx hb dX0_canBe_49 hl (k := 2) rfl rfl (by decide) rfl (fun ls hl => ?_)
              refine lv_goto (tgt := 14) hx hb dX0_canBe_52 (by decide) ?_
              exact ih x0 (x1 + 1) hf ls (lv_sub hl [2, 0] rfl)
            · replace hf := ift c12 hf
              refine lv_iconst (v := 0) hx hb dX0_canBe_47 (by decide) ?_
              rw [← hQ, ← Option.some.inj hf]
              exact eR_z hx hb hr hlk nb0 rfl dX0_canBe_48
  unfold f_X0_canBe at hf
  refine lv_iload_n hx hb dX0_canBe_0 rfl (lv_at hl 0 rfl) ?_
  refine lv_iconst (v := 0) hx hb dX0_canBe_1 (by decide) ?_
  refine lv_ldc (v := 111622) hx hb hown (hts (.constant RX0 11 (111622)) (List.mem_of_getElem? (i := 1) rfl)) dX0_canBe_2 ?_
  obtain ⟨z1, hq2, hf⟩ := bnd_some hf
  refine kR_i (va_runSN (As := [.int x0, .int (0 : Int32), .int (111622 : Int32)]) (rest := []) ⟨hx, hb, hml, hown, hts⟩ (c_X11_isWithin l g x0 (0 : Int32) (111622 : Int32) z1 hq2) ⟨va_cnB 3 hts gX0_canBe_X11_isWithin_n12 rfl rfl rfl (hG.nm 4 rfl) (hts (.initialized RX11) (List.mem_of_getElem? (i := 4) rfl)) (by decide +kernel) ⟨Nat.le_of_ble_eq_true rfl, Nat.le_of_ble_eq_true rfl⟩, (hts (.static yX11_isWithin) (List.mem_of_getElem? (i := 3) rfl)), trivial⟩ (kpS_R hG (hP.subm (ws' := []) [] rfl)) rfl rfl hl.1 rfl (lv_room (Nat.le_of_ble_eq_true rfl)) dX0_canBe_4 ⟨Nat.le_of_ble_eq_true rfl, Nat.le_of_ble_eq_true rfl⟩) ?_
  refine lv_if_ne (tgt := 12) hx hb dX0_canBe_7 (by decide) (fun c3 => ?_) (fun c3 => ?_)
  · replace hf := iff_ c3 hf
    refine lv_iconst (v := 1) hx hb dX0_canBe_12 (by decide) ?_
    refine lv_istore_n (lv' := [(1, .int (1 : Int32)), (0, .int x0)]) hx hb dX0_canBe_13 rfl hl (by decide) rfl (fun ls hl => ?_)
    exact w_14 FU x0 (1 : Int32) hf ls (lv_sub hl [1, 0] rfl)
  · replace hf := ift c3 hf
    refine lv_iconst (v := 0) hx hb dX0_canBe_10 (by decide) ?_
    rw [← hQ, ← Option.some.inj hf]
    exact eR_z hx hb hr hlk nb0 rfl dX0_canBe_11
set_option maxHeartbeats 4000000 in
set_option maxRecDepth 100000 in
theorem c_X0_draw (l : Launch) (g : bG) (x0 : Int32) (x1 : Int32) (out : Int32) (hf : f_X0_draw x0 x1 = some out) : Ri l g yX0_draw wsX0_draw ({ frames := 2, cells := 0, slots := 0, locals := 43 } : Room) [.int x0, .int x1] [] out := by
  refine ofR (cc := cX0_draw) (nL := 2) (ret := some .int) (by decide) rfl (Nat.le_of_ble_eq_true rfl) ?_
  intro p e s m below meth c ar hC hP hG ls hl
  have hS : va_S (fun _ => False) s.heap s.heap [] := va_S.rf
  obtain ⟨hx, hb, hml, hown, hts, hr, hlk, -⟩ := hC
  have hl : lv_has ls 2 [(0, .int x0), (1, .int x1)] := hl
  have hK := hG.1
  generalize hQ : MQ below (vp_Si (fun x => x = out)) ar s 0 0 (fun _ => False) = QQ
  unfold f_X0_draw at hf
  refine lv_iload_n hx hb dX0_draw_0 rfl (lv_at hl 1 rfl) ?_
  refine lv_iconst (v := 1) hx hb dX0_draw_1 (by decide) ?_
  refine lv_bipush (v := 6) hx hb dX0_draw_2 (by decide) ?_
  obtain ⟨z1, hq2, hf⟩ := bnd_some hf
  refine kR_i (va_runSN (As := [.int x1, .int (1 : Int32), .int (6 : Int32)]) (rest := []) ⟨hx, hb, hml, hown, hts⟩ (c_X11_isWithin l g x1 (1 : Int32) (6 : Int32) z1 hq2) ⟨va_cnB 3 hts gX0_draw_X11_isWithin_n12 rfl rfl rfl (hG.nm 4 rfl) (hts (.initialized RX11) (List.mem_of_getElem? (i := 4) rfl)) (by decide +kernel) ⟨Nat.le_of_ble_eq_true rfl, Nat.le_of_ble_eq_true rfl⟩, (hts (.static yX11_isWithin) (List.mem_of_getElem? (i := 3) rfl)), trivial⟩ (kpS_R hG (hP.subm (ws' := []) [] rfl)) rfl rfl hl.1 rfl (lv_room (Nat.le_of_ble_eq_true rfl)) dX0_draw_4 ⟨Nat.le_of_ble_eq_true rfl, Nat.le_of_ble_eq_true rfl⟩) ?_
  refine lv_if_eq (tgt := 23) hx hb dX0_draw_7 (by decide) (fun c3 => ?_) (fun c3 => ?_)
  · replace hf := ift c3 hf
    refine lv_iload_n hx hb dX0_draw_23 rfl (lv_at hl 0 rfl) ?_
    rw [← hQ, ← Option.some.inj hf]
    exact eR_i hx hb hr hlk rfl dX0_draw_24
  · replace hf := iff_ c3 hf
    refine lv_iload_n hx hb dX0_draw_10 rfl (lv_at hl 0 rfl) ?_
    refine lv_iload_n hx hb dX0_draw_11 rfl (lv_at hl 1 rfl) ?_
    obtain ⟨z4, hq5, hf⟩ := bnd_some hf
    refine kR_i (va_runS (As := [.int x0, .int x1]) (rest := []) ⟨hx, hb, hml, hown, hts⟩ (c_X0_count l g x0 x1 z4 hq5) (va_cwS 2 hts gX0_draw_X0_count rfl rfl rfl (by decide +kernel) ⟨Nat.le_of_ble_eq_true rfl, Nat.le_of_ble_eq_true rfl⟩) (kpS_R hG (hP.subm (ws' := []) [] rfl)) rfl rfl hl.1 rfl (lv_room (Nat.le_of_ble_eq_true rfl)) dX0_draw_12 ⟨Nat.le_of_ble_eq_true rfl, Nat.le_of_ble_eq_true rfl⟩) ?_
    refine va_gets hx hb hG.2.2.2.1.2.1 hS hown (hts (.fieldLink RX0 20 "BeetleDrive$Beetle" "MOST" "[I") (List.mem_of_getElem? (i := 1) rfl)) (fun _ h => h) dX0_draw_15 ?_
    refine lv_iload_n hx hb dX0_draw_18 rfl (lv_at hl 1 rfl) ?_
    obtain ⟨hi6, hf⟩ := chk_some hf
    refine va_ti hx hb hG.ti_.2.1 hS hi6 (v := .int (sM (Int32.toNatClampNeg x1))) rfl dX0_draw_19 ?_
    refine lv_icmp_lt (tgt := 25) hx hb dX0_draw_20 (by decide) (fun c7 => ?_) (fun c7 => ?_)
    · replace hf := ift c7 hf
      refine lv_iload_n hx hb dX0_draw_25 rfl (lv_at hl 0 rfl) ?_
      refine lv_iload_n hx hb dX0_draw_26 rfl (lv_at hl 1 rfl) ?_
      obtain ⟨z8, hq9, hf⟩ := bnd_some hf
      refine kR_i (va_runS (As := [.int x0, .int x1]) (rest := []) ⟨hx, hb, hml, hown, hts⟩ (c_X0_hasWhatItNeeds l g x0 x1 z8 hq9) (va_cwS 2 hts gX0_draw_X0_hasWhatItNeeds rfl rfl rfl (by decide +kernel) ⟨Nat.le_of_ble_eq_true rfl, Nat.le_of_ble_eq_true rfl⟩) (kpS_R hG (hP.subm (ws' := []) [] rfl)) rfl rfl hl.1 rfl (lv_room (Nat.le_of_ble_eq_true rfl)) dX0_draw_27 ⟨Nat.le_of_ble_eq_true rfl, Nat.le_of_ble_eq_true rfl⟩) ?_
      refine lv_if_eq (tgt := 43) hx hb dX0_draw_30 (by decide) (fun c10 => ?_) (fun c10 => ?_)
      · replace hf := ift c10 hf
        refine lv_iload_n hx hb dX0_draw_43 rfl (lv_at hl 0 rfl) ?_
        rw [← hQ, ← Option.some.inj hf]
        exact eR_i hx hb hr hlk rfl dX0_draw_44
      · replace hf := iff_ c10 hf
        refine lv_iload_n hx hb dX0_draw_33 rfl (lv_at hl 0 rfl) ?_
        refine va_gets hx hb hG.2.2.2.1.1 hS hown (hts (.fieldLink RX0 28 "BeetleDrive$Beetle" "UNIT" "[I") (List.mem_of_getElem? (i := 2) rfl)) (fun _ h => h) dX0_draw_34 ?_
        refine lv_iload_n hx hb dX0_draw_37 rfl (lv_at hl 1 rfl) ?_
        obtain ⟨hi11, hf⟩ := chk_some hf
        refine va_ti hx hb hG.ti_.1 hS hi11 (v := .int (sU (Int32.toNatClampNeg x1))) rfl dX0_draw_38 ?_
        refine lv_iadd hx hb dX0_draw_39 ?_
        refine lv_goto (tgt := 44) hx hb dX0_draw_40 (by decide) ?_
        rw [← hQ, ← Option.some.inj hf]
        exact eR_i hx hb hr hlk rfl dX0_draw_44
    · replace hf := iff_ c7 hf
      refine lv_iload_n hx hb dX0_draw_23 rfl (lv_at hl 0 rfl) ?_
      rw [← hQ, ← Option.some.inj hf]
      exact eR_i hx hb hr hlk rfl dX0_draw_24
set_option maxHeartbeats 4000000 in
set_option maxRecDepth 100000 in
theorem c_X0_parts (l : Launch) (g : bG) (x0 : Int32) (out : Int32) (hf : f_X0_parts x0 = some out) : Ri l g yX0_parts wsX0_parts ({ frames := 1, cells := 0, slots := 0, locals := 21 } : Room) [.int x0] [] out := by
  refine ofR (cc := cX0_parts) (nL := 3) (ret := some .int) (by decide) rfl (Nat.le_of_ble_eq_true rfl) ?_
  intro p e s m below meth c ar hC hP hG ls hl
  have hS : va_S (fun _ => False) s.heap s.heap [] := va_S.rf
  obtain ⟨hx, hb, hml, hown, hts, hr, hlk, -⟩ := hC
  have hl : lv_has ls 3 [(0, .int x0)] := hl
  have hK := hG.1
  generalize hQ : MQ below (vp_Si (fun x => x = out)) ar s 0 0 (fun _ => False) = QQ
  have w_4 : ∀ n : Nat, ∀ (x0 : Int32) (x1 : Int32) (x2 : Int32), f_X0_parts_b4 n x0 x1 x2 = some out → ∀ ls : Array Slot, lv_has ls 3 [(0, .int x0), (1, .int x1), (2, .int x2)] → W p l e ({ frames := 1, cells := 0, slots := 0, locals := 21 } : Room) s m ar below meth c s.heap [] 0 0 QQ (F0 m 4 ls []) := by
    intro n
    induction n with
    | zero =>
      intro x0 x1 x2 hf
      rw [f_X0_parts_b4_z] at hf
      cases hf
    | succ n ih =>
      intro x0 x1 x2 hf ls hl
      rw [f_X0_parts_b4_s] at hf
      refine lv_iload_n hx hb dX0_parts_4 rfl (lv_at hl 2 rfl) ?_
      refine lv_bipush (v := 6) hx hb dX0_parts_5 (by decide) ?_
      refine lv_icmp_gt (tgt := 24) hx hb dX0_parts_7 (by decide) (fun c1 => ?_) (fun c1 => ?_)
      · replace hf := ift c1 hf
        refine lv_iload_n hx hb dX0_parts_24 rfl (lv_at hl 1 rfl) ?_
        rw [← hQ, ← Option.some.inj hf]
        exact eR_i hx hb hr hlk rfl dX0_parts_25
      · replace hf := iff_ c1 hf
        refine lv_iload_n hx hb dX0_parts_10 rfl (lv_at hl 1 rfl) ?_
        refine lv_iload_n hx hb dX0_parts_11 rfl (lv_at hl 0 rfl) ?_
        refine lv_iload_n hx hb dX0_parts_12 rfl (lv_at hl 2 rfl) ?_
        obtain ⟨z2, hq3, hf⟩ := bnd_some hf
        refine kR_i (va_runS (As := [.int x0, .int x2]) (rest := [.int x1]) ⟨hx, hb, hml, hown, hts⟩ (c_X0_count l g x0 x2 z2 hq3) (va_cwS 2 hts gX0_parts_X0_count rfl rfl rfl (by decide +kernel) ⟨Nat.le_of_ble_eq_true rfl, Nat.le_of_ble_eq_true rfl⟩) (kpS_R hG (hP.subm (ws' := []) [] rfl)) rfl rfl hl.1 rfl (lv_room (Nat.le_of_ble_eq_true rfl)) dX0_parts_13 ⟨Nat.le_of_ble_eq_true rfl, Nat.le_of_ble_eq_true rfl⟩) ?_
        refine lv_iadd hx hb dX0_parts_16 ?_
        refine lv_istore_n (lv' := [(1, .int (x1 + z2)), (0, .int x0), (2, .int x2)]) hx hb dX0_parts_17 rfl hl (by decide) rfl (fun ls hl => ?_)
        refine lv_iinc (v := (x2 + 1)) (lv' := [(2, .int (x2 + 1)), (1, .int (x1 + z2)), (0, .int x0)]) hx hb dX0_parts_18 hl (k := 2) rfl rfl (by decide) rfl (fun ls hl => ?_)
        refine lv_goto (tgt := 4) hx hb dX0_parts_21 (by decide) ?_
        exact ih x0 (x1 + z2) (x2 + 1) hf ls (lv_sub hl [2, 1, 0] rfl)
  unfold f_X0_parts at hf
  refine lv_iconst (v := 0) hx hb dX0_parts_0 (by decide) ?_
  refine lv_istore_n (lv' := [(1, .int (0 : Int32)), (0, .int x0)]) hx hb dX0_parts_1 rfl hl (by decide) rfl (fun ls hl => ?_)
  refine lv_iconst (v := 1) hx hb dX0_parts_2 (by decide) ?_
  refine lv_istore_n (lv' := [(2, .int (1 : Int32)), (1, .int (0 : Int32)), (0, .int x0)]) hx hb dX0_parts_3 rfl hl (by decide) rfl (fun ls hl => ?_)
  exact w_4 FU x0 (0 : Int32) (1 : Int32) hf ls (lv_sub hl [2, 1, 0] rfl)
set_option maxHeartbeats 4000000 in
set_option maxRecDepth 100000 in
theorem c_X1_canLie (l : Launch) (g : bG) (x0 : Int32) (out : Int32) (hf : f_X1_canLie x0 = some out) : Ri l g yX1_canLie wsX1_canLie ({ frames := 1, cells := 0, slots := 0, locals := 22 } : Room) [.int x0] [] out := by
  refine ofR (cc := cX1_canLie) (nL := 3) (ret := some .boolean) (by decide) rfl (Nat.le_of_ble_eq_true rfl) ?_
  intro p e s m below meth c ar hC hP hG ls hl
  have hS : va_S (fun _ => False) s.heap s.heap [] := va_S.rf
  obtain ⟨hx, hb, hml, hown, hts, hr, hlk, -⟩ := hC
  have hl : lv_has ls 3 [(0, .int x0)] := hl
  have hK := hG.1
  generalize hQ : MQ below (vp_Si (fun x => x = out)) ar s 0 0 (fun _ => False) = QQ
  unfold f_X1_canLie at hf
  refine lv_iload_n hx hb dX1_canLie_0 rfl (lv_at hl 0 rfl) ?_
  refine lv_bipush (v := 10) hx hb dX1_canLie_1 (by decide) ?_
  refine lv_idiv hx hb dX1_canLie_3 (by decide) ?_
  refine lv_istore_n (lv' := [(1, .int (x0 / (10 : Int32))), (0, .int x0)]) hx hb dX1_canLie_4 rfl hl (by decide) rfl (fun ls hl => ?_)
  refine lv_iload_n hx hb dX1_canLie_5 rfl (lv_at hl 1 rfl) ?_
  refine lv_bipush (v := 10) hx hb dX1_canLie_6 (by decide) ?_
  refine lv_irem hx hb dX1_canLie_8 (by decide) ?_
  refine lv_istore_n (lv' := [(2, .int (x0 - x0 / (10 : Int32) * (10 : Int32))), (1, .int (x0 / (10 : Int32))), (0, .int x0)]) hx hb dX1_canLie_9 rfl hl (by decide) rfl (fun ls hl => ?_)
  refine lv_iload_n hx hb dX1_canLie_10 rfl (lv_at hl 1 rfl) ?_
  refine lv_iconst (v := 1) hx hb dX1_canLie_11 (by decide) ?_
  refine lv_bipush (v := 6) hx hb dX1_canLie_12 (by decide) ?_
  obtain ⟨z1, hq2, hf⟩ := bnd_some hf
  refine kR_i (va_runSN (As := [.int (x0 / (10 : Int32)), .int (1 : Int32), .int (6 : Int32)]) (rest := []) ⟨hx, hb, hml, hown, hts⟩ (c_X11_isWithin l g (x0 / (10 : Int32)) (1 : Int32) (6 : Int32) z1 hq2) ⟨va_cnB 3 hts gX1_canLie_X11_isWithin_n9 rfl rfl rfl (hG.nm 13 rfl) (hts (.initialized RX11) (List.mem_of_getElem? (i := 2) rfl)) (by decide +kernel) ⟨Nat.le_of_ble_eq_true rfl, Nat.le_of_ble_eq_true rfl⟩, (hts (.static yX11_isWithin) (List.mem_of_getElem? (i := 1) rfl)), trivial⟩ (kpS_R hG (hP.subm (ws' := []) [] rfl)) rfl rfl hl.1 rfl (lv_room (Nat.le_of_ble_eq_true rfl)) dX1_canLie_14 ⟨Nat.le_of_ble_eq_true rfl, Nat.le_of_ble_eq_true rfl⟩) ?_
  refine lv_if_eq (tgt := 47) hx hb dX1_canLie_17 (by decide) (fun c3 => ?_) (fun c3 => ?_)
  · replace hf := ift c3 hf
    refine lv_iconst (v := 0) hx hb dX1_canLie_47 (by decide) ?_
    rw [← hQ, ← Option.some.inj hf]
    exact eR_z hx hb hr hlk nb0 rfl dX1_canLie_48
  · replace hf := iff_ c3 hf
    refine lv_iload_n hx hb dX1_canLie_20 rfl (lv_at hl 0 rfl) ?_
    refine lv_iconst (v := 1) hx hb dX1_canLie_21 (by decide) ?_
    refine lv_bipush (v := 6) hx hb dX1_canLie_22 (by decide) ?_
    obtain ⟨z4, hq5, hf⟩ := bnd_some hf
    refine kR_i (va_runSN (As := [.int (x0 - x0 / (10 : Int32) * (10 : Int32)), .int (1 : Int32), .int (6 : Int32)]) (rest := []) ⟨hx, hb, hml, hown, hts⟩ (c_X11_isWithin l g (x0 - x0 / (10 : Int32) * (10 : Int32)) (1 : Int32) (6 : Int32) z4 hq5) ⟨va_cnB 3 hts gX1_canLie_X11_isWithin_n9 rfl rfl rfl (hG.nm 13 rfl) (hts (.initialized RX11) (List.mem_of_getElem? (i := 2) rfl)) (by decide +kernel) ⟨Nat.le_of_ble_eq_true rfl, Nat.le_of_ble_eq_true rfl⟩, (hts (.static yX11_isWithin) (List.mem_of_getElem? (i := 1) rfl)), trivial⟩ (kpS_R hG (hP.subm (ws' := []) [] rfl)) rfl rfl hl.1 rfl (lv_room (Nat.le_of_ble_eq_true rfl)) dX1_canLie_24 ⟨Nat.le_of_ble_eq_true rfl, Nat.le_of_ble_eq_true rfl⟩) ?_
    refine lv_if_eq (tgt := 47) hx hb dX1_canLie_27 (by decide) (fun c6 => ?_) (fun c6 => ?_)
    · replace hf := ift c6 hf
      refine lv_iconst (v := 0) hx hb dX1_canLie_47 (by decide) ?_
      rw [← hQ, ← Option.some.inj hf]
      exact eR_z hx hb hr hlk nb0 rfl dX1_canLie_48
    · replace hf := iff_ c6 hf
      refine lv_iload_n hx hb dX1_canLie_30 rfl (lv_at hl 0 rfl) ?_
      refine lv_iload_n hx hb dX1_canLie_31 rfl (lv_at hl 1 rfl) ?_
      refine lv_icmp_eq (tgt := 47) hx hb dX1_canLie_32 (by decide) (fun c7 => ?_) (fun c7 => ?_)
      · replace hf := ift c7 hf
        refine lv_iconst (v := 0) hx hb dX1_canLie_47 (by decide) ?_
        rw [← hQ, ← Option.some.inj hf]
        exact eR_z hx hb hr hlk nb0 rfl dX1_canLie_48
      · replace hf := iff_ c7 hf
        refine lv_iload_n hx hb dX1_canLie_35 rfl (lv_at hl 0 rfl) ?_
        refine lv_bipush (v := 7) hx hb dX1_canLie_36 (by decide) ?_
        refine lv_iload_n hx hb dX1_canLie_38 rfl (lv_at hl 1 rfl) ?_
        refine lv_isub hx hb dX1_canLie_39 ?_
        refine lv_icmp_eq (tgt := 47) hx hb dX1_canLie_40 (by decide) (fun c8 => ?_) (fun c8 => ?_)
        · replace hf := ift c8 hf
          refine lv_iconst (v := 0) hx hb dX1_canLie_47 (by decide) ?_
          rw [← hQ, ← Option.some.inj hf]
          exact eR_z hx hb hr hlk nb0 rfl dX1_canLie_48
        · replace hf := iff_ c8 hf
          refine lv_iconst (v := 1) hx hb dX1_canLie_43 (by decide) ?_
          refine lv_goto (tgt := 48) hx hb dX1_canLie_44 (by decide) ?_
          rw [← hQ, ← Option.some.inj hf]
          exact eR_z hx hb hr hlk nb1 rfl dX1_canLie_48
set_option maxHeartbeats 4000000 in
set_option maxRecDepth 100000 in
theorem c_X1_isRow (l : Launch) (g : bG) (x0 : Int32) (out : Int32) (hf : f_X1_isRow x0 = some out) : Ri l g yX1_isRow wsX1_isRow ({ frames := 1, cells := 0, slots := 0, locals := 22 } : Room) [.int x0] [] out := by
  refine ofR (cc := cX1_isRow) (nL := 3) (ret := some .boolean) (by decide) rfl (Nat.le_of_ble_eq_true rfl) ?_
  intro p e s m below meth c ar hC hP hG ls hl
  have hS : va_S (fun _ => False) s.heap s.heap [] := va_S.rf
  obtain ⟨hx, hb, hml, hown, hts, hr, hlk, -⟩ := hC
  have hl : lv_has ls 3 [(0, .int x0)] := hl
  have hK := hG.1
  generalize hQ : MQ below (vp_Si (fun x => x = out)) ar s 0 0 (fun _ => False) = QQ
  have w_16 : ∀ n : Nat, ∀ (x1 : Int32) (x2 : Int32), f_X1_isRow_b16 n x1 x2 = some out → ∀ ls : Array Slot, lv_has ls 3 [(1, .int x1), (2, .int x2)] → W p l e ({ frames := 1, cells := 0, slots := 0, locals := 22 } : Room) s m ar below meth c s.heap [] 0 0 QQ (F0 m 16 ls []) := by
    intro n
    induction n with
    | zero =>
      intro x1 x2 hf
      rw [f_X1_isRow_b16_z] at hf
      cases hf
    | succ n ih =>
      intro x1 x2 hf ls hl
      rw [f_X1_isRow_b16_s] at hf
      refine lv_iload_n hx hb dX1_isRow_16 rfl (lv_at hl 1 rfl) ?_
      refine lv_bipush (v := 6) hx hb dX1_isRow_17 (by decide) ?_
      refine lv_icmp_ge (tgt := 49) hx hb dX1_isRow_19 (by decide) (fun c4 => ?_) (fun c4 => ?_)
      · replace hf := ift c4 hf
        refine lv_iload_n hx hb dX1_isRow_49 rfl (lv_at hl 0 rfl) ?_
        refine lv_iconst (v := 1) hx hb dX1_isRow_50 (by decide) ?_
        refine lv_icmp_ne (tgt := 58) hx hb dX1_isRow_51 (by decide) (fun c5 => ?_) (fun c5 => ?_)
        · replace hf := iff_ c5 hf
          refine lv_iconst (v := 0) hx hb dX1_isRow_58 (by decide) ?_
          rw [← hQ, ← Option.some.inj hf]
          exact eR_z hx hb hr hlk nb0 rfl dX1_isRow_59
        · replace hf := ift c5 hf
          refine lv_iconst (v := 1) hx hb dX1_isRow_54 (by decide) ?_
          refine lv_goto (tgt := 59) hx hb dX1_isRow_55 (by decide) ?_
          rw [← hQ, ← Option.some.inj hf]
          exact eR_z hx hb hr hlk nb1 rfl dX1_isRow_59
      · replace hf := iff_ c4 hf
        refine lv_iload_n hx hb dX1_isRow_22 rfl (lv_at hl 0 rfl) ?_
        refine lv_bipush (v := 10) hx hb dX1_isRow_23 (by decide) ?_
        refine lv_icmp_lt (tgt := 49) hx hb dX1_isRow_25 (by decide) (fun c6 => ?_) (fun c6 => ?_)
        · replace hf := ift c6 hf
          refine lv_iload_n hx hb dX1_isRow_49 rfl (lv_at hl 0 rfl) ?_
          refine lv_iconst (v := 1) hx hb dX1_isRow_50 (by decide) ?_
          refine lv_icmp_ne (tgt := 58) hx hb dX1_isRow_51 (by decide) (fun c7 => ?_) (fun c7 => ?_)
          · replace hf := iff_ c7 hf
            refine lv_iconst (v := 0) hx hb dX1_isRow_58 (by decide) ?_
            rw [← hQ, ← Option.some.inj hf]
            exact eR_z hx hb hr hlk nb0 rfl dX1_isRow_59
          · replace hf := ift c7 hf
            refine lv_iconst (v := 1) hx hb dX1_isRow_54 (by decide) ?_
            refine lv_goto (tgt := 59) hx hb dX1_isRow_55 (by decide) ?_
            rw [← hQ, ← Option.some.inj hf]
            exact eR_z hx hb hr hlk nb1 rfl dX1_isRow_59
        · replace hf := iff_ c6 hf
          refine lv_iload_n hx hb dX1_isRow_28 rfl (lv_at hl 0 rfl) ?_
          refine lv_bipush (v := 10) hx hb dX1_isRow_29 (by decide) ?_
          refine lv_irem hx hb dX1_isRow_31 (by decide) ?_
          refine lv_iconst (v := 3) hx hb dX1_isRow_32 (by decide) ?_
          refine lv_icmp_le (tgt := 38) hx hb dX1_isRow_33 (by decide) (fun c8 => ?_) (fun c8 => ?_)
          · replace hf := ift c8 hf
            refine lv_iload_n hx hb dX1_isRow_38 rfl (lv_at hl 0 rfl) ?_
            refine lv_bipush (v := 10) hx hb dX1_isRow_39 (by decide) ?_
            refine lv_idiv hx hb dX1_isRow_41 (by decide) ?_
            refine lv_istore_n (lv' := [(1, .int (x1 / (10 : Int32))), (2, .int x2)]) hx hb dX1_isRow_42 rfl hl (by decide) rfl (fun ls hl => ?_)
            refine lv_iinc (v := (x2 + 1)) (lv' := [(2, .int (x2 + 1)), (1, .int (x1 / (10 : Int32)))]) hx hb dX1_isRow_43 hl (k := 1) rfl rfl (by decide) rfl (fun ls hl => ?_)
            refine lv_goto (tgt := 16) hx hb dX1_isRow_46 (by decide) ?_
            exact ih (x1 / (10 : Int32)) (x2 + 1) hf ls (lv_sub hl [1, 0] rfl)
          · replace hf := iff_ c8 hf
            refine lv_iconst (v := 0) hx hb dX1_isRow_36 (by decide) ?_
            rw [← hQ, ← Option.some.inj hf]
            exact eR_z hx hb hr hlk nb0 rfl dX1_isRow_37
  unfold f_X1_isRow at hf
  refine lv_iload_n hx hb dX1_isRow_0 rfl (lv_at hl 0 rfl) ?_
  refine lv_iconst (v := 1) hx hb dX1_isRow_1 (by decide) ?_
  refine lv_ldc (v := 1333333) hx hb hown (hts (.constant RX1 15 (1333333)) (List.mem_of_getElem? (i := 1) rfl)) dX1_isRow_2 ?_
  obtain ⟨z1, hq2, hf⟩ := bnd_some hf
  refine kR_i (va_runSN (As := [.int x0, .int (1 : Int32), .int (1333333 : Int32)]) (rest := []) ⟨hx, hb, hml, hown, hts⟩ (c_X11_isWithin l g x0 (1 : Int32) (1333333 : Int32) z1 hq2) ⟨va_cnB 3 hts gX1_isRow_X11_isWithin_n9 rfl rfl rfl (hG.nm 13 rfl) (hts (.initialized RX11) (List.mem_of_getElem? (i := 3) rfl)) (by decide +kernel) ⟨Nat.le_of_ble_eq_true rfl, Nat.le_of_ble_eq_true rfl⟩, (hts (.static yX11_isWithin) (List.mem_of_getElem? (i := 2) rfl)), trivial⟩ (kpS_R hG (hP.subm (ws' := []) [] rfl)) rfl rfl hl.1 rfl (lv_room (Nat.le_of_ble_eq_true rfl)) dX1_isRow_4 ⟨Nat.le_of_ble_eq_true rfl, Nat.le_of_ble_eq_true rfl⟩) ?_
  refine lv_if_ne (tgt := 12) hx hb dX1_isRow_7 (by decide) (fun c3 => ?_) (fun c3 => ?_)
  · replace hf := iff_ c3 hf
    refine lv_iload_n hx hb dX1_isRow_12 rfl (lv_at hl 0 rfl) ?_
    refine lv_istore_n (lv' := [(1, .int x0), (0, .int x0)]) hx hb dX1_isRow_13 rfl hl (by decide) rfl (fun ls hl => ?_)
    refine lv_iconst (v := 0) hx hb dX1_isRow_14 (by decide) ?_
    refine lv_istore_n (lv' := [(2, .int (0 : Int32)), (1, .int x0), (0, .int x0)]) hx hb dX1_isRow_15 rfl hl (by decide) rfl (fun ls hl => ?_)
    exact w_16 FU x0 (0 : Int32) hf ls (lv_sub hl [1, 0] rfl)
  · replace hf := ift c3 hf
    refine lv_iconst (v := 0) hx hb dX1_isRow_10 (by decide) ?_
    rw [← hQ, ← Option.some.inj hf]
    exact eR_z hx hb hr hlk nb0 rfl dX1_isRow_11
set_option maxHeartbeats 4000000 in
set_option maxRecDepth 100000 in
theorem c_X1_rightOf (l : Launch) (g : bG) (x0 : Int32) (x1 : Int32) (out : Int32) (hf : f_X1_rightOf x0 x1 = some out) : Ri l g yX1_rightOf wsX1_rightOf ({ frames := 1, cells := 0, slots := 0, locals := 21 } : Room) [.int x0, .int x1] [] out := by
  refine ofR (cc := cX1_rightOf) (nL := 7) (ret := some .int) (by decide) rfl (Nat.le_of_ble_eq_true rfl) ?_
  intro p e s m below meth c ar hC hP hG ls hl
  have hS : va_S (fun _ => False) s.heap s.heap [] := va_S.rf
  obtain ⟨hx, hb, hml, hown, hts, hr, hlk, -⟩ := hC
  have hl : lv_has ls 7 [(0, .int x0), (1, .int x1)] := hl
  have hK := hG.1
  generalize hQ : MQ below (vp_Si (fun x => x = out)) ar s 0 0 (fun _ => False) = QQ
  have w_72 : ∀ (y0 : Int32) (x4 : Int32) (x5 : Int32), f_X1_rightOf_b72 y0 x4 x5 = some out → ∀ ls : Array Slot, lv_has ls 7 [(4, .int x4), (5, .int x5)] → W p l e ({ frames := 1, cells := 0, slots := 0, locals := 21 } : Room) s m ar below meth c s.heap [] 0 0 QQ (F0 m 72 ls [.int y0]) := by
    intro y0 x4 x5 hf ls hl
    unfold f_X1_rightOf_b72 at hf
    refine lv_istore (lv' := [(6, .int y0), (4, .int x4), (5, .int x5)]) hx hb dX1_rightOf_72 hl (by decide) rfl (fun ls hl => ?_)
    refine lv_iload hx hb dX1_rightOf_74 (lv_at hl 2 rfl) ?_
    refine lv_iload hx hb dX1_rightOf_76 (lv_at hl 0 rfl) ?_
    refine lv_icmp_ne (tgt := 86) hx hb dX1_rightOf_78 (by decide) (fun c5 => ?_) (fun c5 => ?_)
    · replace hf := iff_ c5 hf
      refine lv_bipush (v := 7) hx hb dX1_rightOf_86 (by decide) ?_
      refine lv_iload hx hb dX1_rightOf_88 (lv_at hl 1 rfl) ?_
      refine lv_isub hx hb dX1_rightOf_90 ?_
      rw [← hQ, ← Option.some.inj hf]
      exact eR_i hx hb hr hlk rfl dX1_rightOf_91
    · replace hf := ift c5 hf
      refine lv_iload hx hb dX1_rightOf_81 (lv_at hl 1 rfl) ?_
      refine lv_goto (tgt := 91) hx hb dX1_rightOf_83 (by decide) ?_
      rw [← hQ, ← Option.some.inj hf]
      exact eR_i hx hb hr hlk rfl dX1_rightOf_91
  have w_54 : ∀ (y0 : Int32) (x1 : Int32) (x4 : Int32) (x5 : Int32), f_X1_rightOf_b54 y0 x1 x4 x5 = some out → ∀ ls : Array Slot, lv_has ls 7 [(1, .int x1), (4, .int x4), (5, .int x5)] → W p l e ({ frames := 1, cells := 0, slots := 0, locals := 21 } : Room) s m ar below meth c s.heap [] 0 0 QQ (F0 m 54 ls [.int y0]) := by
    intro y0 x1 x4 x5 hf ls hl
    unfold f_X1_rightOf_b54 at hf
    refine lv_iload_n hx hb dX1_rightOf_54 rfl (lv_at hl 0 rfl) ?_
    refine lv_iconst (v := 3) hx hb dX1_rightOf_55 (by decide) ?_
    refine lv_icmp_le (tgt := 63) hx hb dX1_rightOf_56 (by decide) (fun c3 => ?_) (fun c3 => ?_)
    · replace hf := ift c3 hf
      refine lv_iconst (v := 0) hx hb dX1_rightOf_63 (by decide) ?_
      refine lv_icmp_ne (tgt := 71) hx hb dX1_rightOf_64 (by decide) (fun c4 => ?_) (fun c4 => ?_)
      · replace hf := iff_ c4 hf
        refine lv_iconst (v := 0) hx hb dX1_rightOf_71 (by decide) ?_
        exact w_72  (0 : Int32) x4 x5 hf ls (lv_sub hl [1, 2] rfl)
      · replace hf := ift c4 hf
        refine lv_iconst (v := 1) hx hb dX1_rightOf_67 (by decide) ?_
        refine lv_goto (tgt := 72) hx hb dX1_rightOf_68 (by decide) ?_
        exact w_72  (1 : Int32) x4 x5 hf ls (lv_sub hl [1, 2] rfl)
    · replace hf := iff_ c3 hf
      refine lv_iconst (v := 1) hx hb dX1_rightOf_59 (by decide) ?_
      refine lv_goto (tgt := 64) hx hb dX1_rightOf_60 (by decide) ?_
      refine lv_icmp_ne (tgt := 71) hx hb dX1_rightOf_64 (by decide) (fun c6 => ?_) (fun c6 => ?_)
      · replace hf := iff_ c6 hf
        refine lv_iconst (v := 0) hx hb dX1_rightOf_71 (by decide) ?_
        exact w_72  (0 : Int32) x4 x5 hf ls (lv_sub hl [1, 2] rfl)
      · replace hf := ift c6 hf
        refine lv_iconst (v := 1) hx hb dX1_rightOf_67 (by decide) ?_
        refine lv_goto (tgt := 72) hx hb dX1_rightOf_68 (by decide) ?_
        exact w_72  (1 : Int32) x4 x5 hf ls (lv_sub hl [1, 2] rfl)
  unfold f_X1_rightOf at hf
  refine lv_iload_n hx hb dX1_rightOf_0 rfl (lv_at hl 0 rfl) ?_
  refine lv_bipush (v := 7) hx hb dX1_rightOf_1 (by decide) ?_
  refine lv_iload_n hx hb dX1_rightOf_3 rfl (lv_at hl 0 rfl) ?_
  refine lv_isub hx hb dX1_rightOf_4 ?_
  refine va_mmin hx hb (hml.trans hl.1.symm) hown (hts (.methodLink RX1 24 Lib.Math.min.name) (List.mem_of_getElem? (i := 1) rfl)) (hts (.static Lib.Math.min.name) (List.mem_of_getElem? (i := 2) rfl)) (hts (.initialized "java/lang/Math") (List.mem_of_getElem? (i := 3) rfl)) (hts (.code Lib.Math.min.name Lib.Math.min.code 2 (some .int)) (List.mem_of_getElem? (i := 4) rfl)) (Nat.le_of_ble_eq_true rfl) (Nat.le_of_ble_eq_true rfl) (Nat.le_of_ble_eq_true rfl) (Nat.le_of_ble_eq_true rfl) dX1_rightOf_5 ?_
  refine lv_istore_n (lv' := [(2, .int (if ((7 : Int32) - x0) < x0 then ((7 : Int32) - x0) else x0)), (0, .int x0), (1, .int x1)]) hx hb dX1_rightOf_8 rfl hl (by decide) rfl (fun ls hl => ?_)
  refine lv_iload_n hx hb dX1_rightOf_9 rfl (lv_at hl 2 rfl) ?_
  refine lv_bipush (v := 7) hx hb dX1_rightOf_10 (by decide) ?_
  refine lv_iload_n hx hb dX1_rightOf_12 rfl (lv_at hl 2 rfl) ?_
  refine lv_isub hx hb dX1_rightOf_13 ?_
  refine va_mmin hx hb (hml.trans hl.1.symm) hown (hts (.methodLink RX1 24 Lib.Math.min.name) (List.mem_of_getElem? (i := 1) rfl)) (hts (.static Lib.Math.min.name) (List.mem_of_getElem? (i := 2) rfl)) (hts (.initialized "java/lang/Math") (List.mem_of_getElem? (i := 3) rfl)) (hts (.code Lib.Math.min.name Lib.Math.min.code 2 (some .int)) (List.mem_of_getElem? (i := 4) rfl)) (Nat.le_of_ble_eq_true rfl) (Nat.le_of_ble_eq_true rfl) (Nat.le_of_ble_eq_true rfl) (Nat.le_of_ble_eq_true rfl) dX1_rightOf_14 ?_
  refine lv_istore_n (lv' := [(3, .int (if ((7 : Int32) - x1) < x1 then ((7 : Int32) - x1) else x1)), (2, .int (if ((7 : Int32) - x0) < x0 then ((7 : Int32) - x0) else x0)), (0, .int x0), (1, .int x1)]) hx hb dX1_rightOf_17 rfl hl (by decide) rfl (fun ls hl => ?_)
  refine lv_bipush (v := 6) hx hb dX1_rightOf_18 (by decide) ?_
  refine lv_iload_n hx hb dX1_rightOf_20 rfl (lv_at hl 1 rfl) ?_
  refine lv_isub hx hb dX1_rightOf_21 ?_
  refine lv_iload_n hx hb dX1_rightOf_22 rfl (lv_at hl 0 rfl) ?_
  refine lv_isub hx hb dX1_rightOf_23 ?_
  refine lv_istore (lv' := [(4, .int (((6 : Int32) - (if ((7 : Int32) - x0) < x0 then ((7 : Int32) - x0) else x0)) - (if ((7 : Int32) - x1) < x1 then ((7 : Int32) - x1) else x1))), (3, .int (if ((7 : Int32) - x1) < x1 then ((7 : Int32) - x1) else x1)), (2, .int (if ((7 : Int32) - x0) < x0 then ((7 : Int32) - x0) else x0)), (0, .int x0), (1, .int x1)]) hx hb dX1_rightOf_24 hl (by decide) rfl (fun ls hl => ?_)
  refine lv_iload_n hx hb dX1_rightOf_26 rfl (lv_at hl 1 rfl) ?_
  refine lv_iload_n hx hb dX1_rightOf_27 rfl (lv_at hl 2 rfl) ?_
  refine lv_isub hx hb dX1_rightOf_28 ?_
  refine lv_iconst (v := 3) hx hb dX1_rightOf_29 (by decide) ?_
  refine lv_iadd hx hb dX1_rightOf_30 ?_
  refine lv_iconst (v := 3) hx hb dX1_rightOf_31 (by decide) ?_
  refine lv_irem hx hb dX1_rightOf_32 (by decide) ?_
  refine lv_iconst (v := 1) hx hb dX1_rightOf_33 (by decide) ?_
  refine lv_icmp_ne (tgt := 41) hx hb dX1_rightOf_34 (by decide) (fun c1 => ?_) (fun c1 => ?_)
  · replace hf := iff_ c1 hf
    refine lv_iconst (v := 0) hx hb dX1_rightOf_41 (by decide) ?_
    refine lv_istore (lv' := [(5, .int (0 : Int32)), (4, .int (((6 : Int32) - (if ((7 : Int32) - x0) < x0 then ((7 : Int32) - x0) else x0)) - (if ((7 : Int32) - x1) < x1 then ((7 : Int32) - x1) else x1))), (3, .int (if ((7 : Int32) - x1) < x1 then ((7 : Int32) - x1) else x1)), (2, .int (if ((7 : Int32) - x0) < x0 then ((7 : Int32) - x0) else x0)), (0, .int x0), (1, .int x1)]) hx hb dX1_rightOf_42 hl (by decide) rfl (fun ls hl => ?_)
    refine lv_iload_n hx hb dX1_rightOf_44 rfl (lv_at hl 4 rfl) ?_
    refine lv_iconst (v := 3) hx hb dX1_rightOf_45 (by decide) ?_
    refine lv_icmp_le (tgt := 53) hx hb dX1_rightOf_46 (by decide) (fun c2 => ?_) (fun c2 => ?_)
    · replace hf := ift c2 hf
      refine lv_iconst (v := 0) hx hb dX1_rightOf_53 (by decide) ?_
      exact w_54  (0 : Int32) x1 (((6 : Int32) - (if ((7 : Int32) - x0) < x0 then ((7 : Int32) - x0) else x0)) - (if ((7 : Int32) - x1) < x1 then ((7 : Int32) - x1) else x1)) (0 : Int32) hf ls (lv_sub hl [5, 1, 0] rfl)
    · replace hf := iff_ c2 hf
      refine lv_iconst (v := 1) hx hb dX1_rightOf_49 (by decide) ?_
      refine lv_goto (tgt := 54) hx hb dX1_rightOf_50 (by decide) ?_
      exact w_54  (1 : Int32) x1 (((6 : Int32) - (if ((7 : Int32) - x0) < x0 then ((7 : Int32) - x0) else x0)) - (if ((7 : Int32) - x1) < x1 then ((7 : Int32) - x1) else x1)) (0 : Int32) hf ls (lv_sub hl [5, 1, 0] rfl)
  · replace hf := ift c1 hf
    refine lv_iconst (v := 1) hx hb dX1_rightOf_37 (by decide) ?_
    refine lv_goto (tgt := 42) hx hb dX1_rightOf_38 (by decide) ?_
    refine lv_istore (lv' := [(5, .int (1 : Int32)), (4, .int (((6 : Int32) - (if ((7 : Int32) - x0) < x0 then ((7 : Int32) - x0) else x0)) - (if ((7 : Int32) - x1) < x1 then ((7 : Int32) - x1) else x1))), (3, .int (if ((7 : Int32) - x1) < x1 then ((7 : Int32) - x1) else x1)), (2, .int (if ((7 : Int32) - x0) < x0 then ((7 : Int32) - x0) else x0)), (0, .int x0), (1, .int x1)]) hx hb dX1_rightOf_42 hl (by decide) rfl (fun ls hl => ?_)
    refine lv_iload_n hx hb dX1_rightOf_44 rfl (lv_at hl 4 rfl) ?_
    refine lv_iconst (v := 3) hx hb dX1_rightOf_45 (by decide) ?_
    refine lv_icmp_le (tgt := 53) hx hb dX1_rightOf_46 (by decide) (fun c7 => ?_) (fun c7 => ?_)
    · replace hf := ift c7 hf
      refine lv_iconst (v := 0) hx hb dX1_rightOf_53 (by decide) ?_
      exact w_54  (0 : Int32) x1 (((6 : Int32) - (if ((7 : Int32) - x0) < x0 then ((7 : Int32) - x0) else x0)) - (if ((7 : Int32) - x1) < x1 then ((7 : Int32) - x1) else x1)) (1 : Int32) hf ls (lv_sub hl [5, 1, 0] rfl)
    · replace hf := iff_ c7 hf
      refine lv_iconst (v := 1) hx hb dX1_rightOf_49 (by decide) ?_
      refine lv_goto (tgt := 54) hx hb dX1_rightOf_50 (by decide) ?_
      exact w_54  (1 : Int32) x1 (((6 : Int32) - (if ((7 : Int32) - x0) < x0 then ((7 : Int32) - x0) else x0)) - (if ((7 : Int32) - x1) < x1 then ((7 : Int32) - x1) else x1)) (1 : Int32) hf ls (lv_sub hl [5, 1, 0] rfl)
set_option maxHeartbeats 4000000 in
set_option maxRecDepth 100000 in
theorem c_X1_rolled (l : Launch) (g : bG) (x0 : Int32) (x1 : Int32) (out : Int32) (hf : f_X1_rolled x0 x1 = some out) : Ri l g yX1_rolled wsX1_rolled ({ frames := 2, cells := 0, slots := 0, locals := 47 } : Room) [.int x0, .int x1] [] out := by
  refine ofR (cc := cX1_rolled) (nL := 4) (ret := some .int) (by decide) rfl (Nat.le_of_ble_eq_true rfl) ?_
  intro p e s m below meth c ar hC hP hG ls hl
  have hS : va_S (fun _ => False) s.heap s.heap [] := va_S.rf
  obtain ⟨hx, hb, hml, hown, hts, hr, hlk, -⟩ := hC
  have hl : lv_has ls 4 [(0, .int x0), (1, .int x1)] := hl
  have hK := hG.1
  generalize hQ : MQ below (vp_Si (fun x => x = out)) ar s 0 0 (fun _ => False) = QQ
  unfold f_X1_rolled at hf
  refine lv_iload_n hx hb dX1_rolled_0 rfl (lv_at hl 0 rfl) ?_
  refine lv_bipush (v := 10) hx hb dX1_rolled_1 (by decide) ?_
  refine lv_idiv hx hb dX1_rolled_3 (by decide) ?_
  refine lv_istore_n (lv' := [(2, .int (x0 / (10 : Int32))), (0, .int x0), (1, .int x1)]) hx hb dX1_rolled_4 rfl hl (by decide) rfl (fun ls hl => ?_)
  refine lv_iload_n hx hb dX1_rolled_5 rfl (lv_at hl 1 rfl) ?_
  refine lv_bipush (v := 10) hx hb dX1_rolled_6 (by decide) ?_
  refine lv_irem hx hb dX1_rolled_8 (by decide) ?_
  refine lv_istore_n (lv' := [(3, .int (x0 - x0 / (10 : Int32) * (10 : Int32))), (2, .int (x0 / (10 : Int32))), (0, .int x0), (1, .int x1)]) hx hb dX1_rolled_9 rfl hl (by decide) rfl (fun ls hl => ?_)
  refine lv_iload_n hx hb dX1_rolled_10 rfl (lv_at hl 3 rfl) ?_
  by_cases c1 : x1 = 0
  · replace hf := ift c1 hf
    refine lv_tableIn (off := 25) (tgt := 36) hx hb dX1_rolled_11 (by rw [c1]; decide) (by rw [c1]; decide) (by rw [c1]; rfl) (by decide) ?_
    refine lv_bipush (v := 7) hx hb dX1_rolled_36 (by decide) ?_
    refine lv_iload_n hx hb dX1_rolled_38 rfl (lv_at hl 0 rfl) ?_
    refine lv_isub hx hb dX1_rolled_39 ?_
    refine lv_bipush (v := 10) hx hb dX1_rolled_40 (by decide) ?_
    refine lv_imul hx hb dX1_rolled_42 ?_
    refine lv_iload_n hx hb dX1_rolled_43 rfl (lv_at hl 1 rfl) ?_
    refine lv_iadd hx hb dX1_rolled_44 ?_
    rw [← hQ, ← Option.some.inj hf]
    exact eR_i hx hb hr hlk rfl dX1_rolled_45
  · replace hf := iff_ c1 hf
    by_cases c2 : x1 = 1
    · replace hf := ift c2 hf
      refine lv_tableIn (off := 35) (tgt := 46) hx hb dX1_rolled_11 (by rw [c2]; decide) (by rw [c2]; decide) (by rw [c2]; rfl) (by decide) ?_
      refine lv_bipush (v := 7) hx hb dX1_rolled_46 (by decide) ?_
      refine lv_iload_n hx hb dX1_rolled_48 rfl (lv_at hl 1 rfl) ?_
      refine lv_iload_n hx hb dX1_rolled_49 rfl (lv_at hl 0 rfl) ?_
      obtain ⟨z3, hq4, hf⟩ := bnd_some hf
      refine kR_i (va_runS (As := [.int (x0 / (10 : Int32)), .int (x0 - x0 / (10 : Int32) * (10 : Int32))]) (rest := [.int (7 : Int32)]) ⟨hx, hb, hml, hown, hts⟩ (c_X1_rightOf l g (x0 / (10 : Int32)) (x0 - x0 / (10 : Int32) * (10 : Int32)) z3 hq4) (va_cwS 2 hts gX1_rolled_X1_rightOf rfl rfl rfl (by decide +kernel) ⟨Nat.le_of_ble_eq_true rfl, Nat.le_of_ble_eq_true rfl⟩) (kpS_R hG (hP.subm (ws' := []) [] rfl)) rfl rfl hl.1 rfl (lv_room (Nat.le_of_ble_eq_true rfl)) dX1_rolled_50 ⟨Nat.le_of_ble_eq_true rfl, Nat.le_of_ble_eq_true rfl⟩) ?_
      refine lv_isub hx hb dX1_rolled_53 ?_
      refine lv_bipush (v := 10) hx hb dX1_rolled_54 (by decide) ?_
      refine lv_imul hx hb dX1_rolled_56 ?_
      refine lv_iload_n hx hb dX1_rolled_57 rfl (lv_at hl 0 rfl) ?_
      refine lv_iadd hx hb dX1_rolled_58 ?_
      rw [← hQ, ← Option.some.inj hf]
      exact eR_i hx hb hr hlk rfl dX1_rolled_59
    · replace hf := iff_ c2 hf
      by_cases c5 : x1 = 2
      · replace hf := ift c5 hf
        refine lv_tableIn (off := 49) (tgt := 60) hx hb dX1_rolled_11 (by rw [c5]; decide) (by rw [c5]; decide) (by rw [c5]; rfl) (by decide) ?_
        refine lv_iload_n hx hb dX1_rolled_60 rfl (lv_at hl 0 rfl) ?_
        refine lv_bipush (v := 10) hx hb dX1_rolled_61 (by decide) ?_
        refine lv_imul hx hb dX1_rolled_63 ?_
        refine lv_bipush (v := 7) hx hb dX1_rolled_64 (by decide) ?_
        refine lv_iadd hx hb dX1_rolled_66 ?_
        refine lv_iload_n hx hb dX1_rolled_67 rfl (lv_at hl 1 rfl) ?_
        refine lv_isub hx hb dX1_rolled_68 ?_
        rw [← hQ, ← Option.some.inj hf]
        exact eR_i hx hb hr hlk rfl dX1_rolled_69
      · replace hf := iff_ c5 hf
        have ec1 := lv_neT c1 (a := 0) (by decide)
        have ec2 := lv_neT c2 (a := 1) (by decide)
        have ec5 := lv_neT c5 (a := 2) (by decide)
        refine lv_tableOut (tgt := 70) hx hb dX1_rolled_11 (by omega) (by decide) ?_
        refine lv_iload_n hx hb dX1_rolled_70 rfl (lv_at hl 1 rfl) ?_
        refine lv_iload_n hx hb dX1_rolled_71 rfl (lv_at hl 0 rfl) ?_
        obtain ⟨z6, hq7, hf⟩ := bnd_some hf
        refine kR_i (va_runS (As := [.int (x0 / (10 : Int32)), .int (x0 - x0 / (10 : Int32) * (10 : Int32))]) (rest := []) ⟨hx, hb, hml, hown, hts⟩ (c_X1_rightOf l g (x0 / (10 : Int32)) (x0 - x0 / (10 : Int32) * (10 : Int32)) z6 hq7) (va_cwS 2 hts gX1_rolled_X1_rightOf rfl rfl rfl (by decide +kernel) ⟨Nat.le_of_ble_eq_true rfl, Nat.le_of_ble_eq_true rfl⟩) (kpS_R hG (hP.subm (ws' := []) [] rfl)) rfl rfl hl.1 rfl (lv_room (Nat.le_of_ble_eq_true rfl)) dX1_rolled_72 ⟨Nat.le_of_ble_eq_true rfl, Nat.le_of_ble_eq_true rfl⟩) ?_
        refine lv_bipush (v := 10) hx hb dX1_rolled_75 (by decide) ?_
        refine lv_imul hx hb dX1_rolled_77 ?_
        refine lv_iload_n hx hb dX1_rolled_78 rfl (lv_at hl 0 rfl) ?_
        refine lv_iadd hx hb dX1_rolled_79 ?_
        rw [← hQ, ← Option.some.inj hf]
        exact eR_i hx hb hr hlk rfl dX1_rolled_80
set_option maxHeartbeats 4000000 in
set_option maxRecDepth 100000 in
theorem c_X1_topAfter (l : Launch) (g : bG) (x0 : Int32) (x1 : Int32) (out : Int32) (hf : f_X1_topAfter x0 x1 = some out) : Ri l g yX1_topAfter wsX1_topAfter ({ frames := 3, cells := 0, slots := 0, locals := 70 } : Room) [.int x0, .int x1] [] out := by
  refine ofR (cc := cX1_topAfter) (nL := 5) (ret := some .int) (by decide) rfl (Nat.le_of_ble_eq_true rfl) ?_
  intro p e s m below meth c ar hC hP hG ls hl
  have hS : va_S (fun _ => False) s.heap s.heap [] := va_S.rf
  obtain ⟨hx, hb, hml, hown, hts, hr, hlk, -⟩ := hC
  have hl : lv_has ls 5 [(0, .int x0), (1, .int x1)] := hl
  have hK := hG.1
  generalize hQ : MQ below (vp_Si (fun x => x = out)) ar s 0 0 (fun _ => False) = QQ
  have w_8 : ∀ n : Nat, ∀ (x1 : Int32) (x2 : Int32) (x3 : Int32) (x4 : Int32), f_X1_topAfter_b8 n x1 x2 x3 x4 = some out → ∀ ls : Array Slot, lv_has ls 5 [(1, .int x1), (2, .int x2), (3, .int x3), (4, .int x4)] → W p l e ({ frames := 3, cells := 0, slots := 0, locals := 70 } : Room) s m ar below meth c s.heap [] 0 0 QQ (F0 m 8 ls []) := by
    intro n
    induction n with
    | zero =>
      intro x1 x2 x3 x4 hf
      rw [f_X1_topAfter_b8_z] at hf
      cases hf
    | succ n ih =>
      intro x1 x2 x3 x4 hf ls hl
      rw [f_X1_topAfter_b8_s] at hf
      refine lv_iload hx hb dX1_topAfter_8 (lv_at hl 3 rfl) ?_
      refine lv_bipush (v := 6) hx hb dX1_topAfter_10 (by decide) ?_
      refine lv_icmp_ge (tgt := 49) hx hb dX1_topAfter_12 (by decide) (fun c1 => ?_) (fun c1 => ?_)
      · replace hf := ift c1 hf
        refine lv_iload_n hx hb dX1_topAfter_49 rfl (lv_at hl 1 rfl) ?_
        refine lv_bipush (v := 10) hx hb dX1_topAfter_50 (by decide) ?_
        refine lv_idiv hx hb dX1_topAfter_52 (by decide) ?_
        rw [← hQ, ← Option.some.inj hf]
        exact eR_i hx hb hr hlk rfl dX1_topAfter_53
      · replace hf := iff_ c1 hf
        refine lv_iload_n hx hb dX1_topAfter_15 rfl (lv_at hl 2 rfl) ?_
        refine lv_if_le (tgt := 49) hx hb dX1_topAfter_16 (by decide) (fun c2 => ?_) (fun c2 => ?_)
        · replace hf := ift c2 hf
          refine lv_iload_n hx hb dX1_topAfter_49 rfl (lv_at hl 1 rfl) ?_
          refine lv_bipush (v := 10) hx hb dX1_topAfter_50 (by decide) ?_
          refine lv_idiv hx hb dX1_topAfter_52 (by decide) ?_
          rw [← hQ, ← Option.some.inj hf]
          exact eR_i hx hb hr hlk rfl dX1_topAfter_53
        · replace hf := iff_ c2 hf
          refine lv_iload_n hx hb dX1_topAfter_19 rfl (lv_at hl 0 rfl) ?_
          refine lv_iload_n hx hb dX1_topAfter_20 rfl (lv_at hl 2 rfl) ?_
          obtain ⟨hz3, hf⟩ := nz_some hf
          refine lv_idiv hx hb dX1_topAfter_21 hz3 ?_
          refine lv_bipush (v := 10) hx hb dX1_topAfter_22 (by decide) ?_
          refine lv_icmp_lt (tgt := 38) hx hb dX1_topAfter_24 (by decide) (fun c4 => ?_) (fun c4 => ?_)
          · replace hf := ift c4 hf
            refine lv_iload_n hx hb dX1_topAfter_38 rfl (lv_at hl 2 rfl) ?_
            refine lv_bipush (v := 10) hx hb dX1_topAfter_39 (by decide) ?_
            refine lv_idiv hx hb dX1_topAfter_41 (by decide) ?_
            refine lv_istore_n (lv' := [(3, .int (x3 / (10 : Int32))), (1, .int x1), (2, .int x2), (4, .int x4)]) hx hb dX1_topAfter_42 rfl hl (by decide) rfl (fun ls hl => ?_)
            refine lv_iinc (v := (x4 + 1)) (lv' := [(4, .int (x4 + 1)), (3, .int (x3 / (10 : Int32))), (1, .int x1), (2, .int x2)]) hx hb dX1_topAfter_43 hl (k := 3) rfl rfl (by decide) rfl (fun ls hl => ?_)
            refine lv_goto (tgt := 8) hx hb dX1_topAfter_46 (by decide) ?_
            exact ih x1 x2 (x3 / (10 : Int32)) (x4 + 1) hf ls (lv_sub hl [2, 3, 1, 0] rfl)
          · replace hf := iff_ c4 hf
            refine lv_iload_n hx hb dX1_topAfter_27 rfl (lv_at hl 1 rfl) ?_
            refine lv_iload_n hx hb dX1_topAfter_28 rfl (lv_at hl 0 rfl) ?_
            refine lv_iload_n hx hb dX1_topAfter_29 rfl (lv_at hl 2 rfl) ?_
            obtain ⟨hz5, hf⟩ := nz_some hf
            refine lv_idiv hx hb dX1_topAfter_30 hz5 ?_
            refine lv_bipush (v := 10) hx hb dX1_topAfter_31 (by decide) ?_
            refine lv_irem hx hb dX1_topAfter_33 (by decide) ?_
            obtain ⟨z6, hq7, hf⟩ := bnd_some hf
            refine kR_i (va_runS (As := [.int x2, .int ((x1 / x3) - (x1 / x3) / (10 : Int32) * (10 : Int32))]) (rest := []) ⟨hx, hb, hml, hown, hts⟩ (c_X1_rolled l g x2 ((x1 / x3) - (x1 / x3) / (10 : Int32) * (10 : Int32)) z6 hq7) (va_cwS 2 hts gX1_topAfter_X1_rolled rfl rfl rfl (by decide +kernel) ⟨Nat.le_of_ble_eq_true rfl, Nat.le_of_ble_eq_true rfl⟩) (kpS_R hG (hP.subm (ws' := []) [] rfl)) rfl rfl hl.1 rfl (lv_room (Nat.le_of_ble_eq_true rfl)) dX1_topAfter_34 ⟨Nat.le_of_ble_eq_true rfl, Nat.le_of_ble_eq_true rfl⟩) ?_
            refine lv_istore_n (lv' := [(2, .int z6), (1, .int x1), (3, .int x3), (4, .int x4)]) hx hb dX1_topAfter_37 rfl hl (by decide) rfl (fun ls hl => ?_)
            refine lv_iload_n hx hb dX1_topAfter_38 rfl (lv_at hl 2 rfl) ?_
            refine lv_bipush (v := 10) hx hb dX1_topAfter_39 (by decide) ?_
            refine lv_idiv hx hb dX1_topAfter_41 (by decide) ?_
            refine lv_istore_n (lv' := [(3, .int (x3 / (10 : Int32))), (2, .int z6), (1, .int x1), (4, .int x4)]) hx hb dX1_topAfter_42 rfl hl (by decide) rfl (fun ls hl => ?_)
            refine lv_iinc (v := (x4 + 1)) (lv' := [(4, .int (x4 + 1)), (3, .int (x3 / (10 : Int32))), (2, .int z6), (1, .int x1)]) hx hb dX1_topAfter_43 hl (k := 3) rfl rfl (by decide) rfl (fun ls hl => ?_)
            refine lv_goto (tgt := 8) hx hb dX1_topAfter_46 (by decide) ?_
            exact ih x1 z6 (x3 / (10 : Int32)) (x4 + 1) hf ls (lv_sub hl [3, 2, 1, 0] rfl)
  unfold f_X1_topAfter at hf
  refine lv_iload_n hx hb dX1_topAfter_0 rfl (lv_at hl 0 rfl) ?_
  refine lv_istore_n (lv' := [(2, .int x0), (0, .int x0), (1, .int x1)]) hx hb dX1_topAfter_1 rfl hl (by decide) rfl (fun ls hl => ?_)
  refine lv_ldc (v := 100000) hx hb hown (hts (.constant RX1 16 (100000)) (List.mem_of_getElem? (i := 1) rfl)) dX1_topAfter_2 ?_
  refine lv_istore_n (lv' := [(3, .int (100000 : Int32)), (2, .int x0), (0, .int x0), (1, .int x1)]) hx hb dX1_topAfter_4 rfl hl (by decide) rfl (fun ls hl => ?_)
  refine lv_iconst (v := 0) hx hb dX1_topAfter_5 (by decide) ?_
  refine lv_istore (lv' := [(4, .int (0 : Int32)), (3, .int (100000 : Int32)), (2, .int x0), (0, .int x0), (1, .int x1)]) hx hb dX1_topAfter_6 hl (by decide) rfl (fun ls hl => ?_)
  exact w_8 FU x1 x0 (100000 : Int32) (0 : Int32) hf ls (lv_sub hl [4, 2, 1, 0] rfl)
set_option maxHeartbeats 4000000 in
set_option maxRecDepth 100000 in
theorem c_X11_isPlayer (l : Launch) (g : bG) (x0 : Int32) (out : Int32) (hf : f_X11_isPlayer x0 = some out) : Ri l g yX11_isPlayer wsX11_isPlayer ({ frames := 1, cells := 0, slots := 0, locals := 22 } : Room) [.int x0] [] out := by
  refine ofR (cc := cX11_isPlayer) (nL := 1) (ret := some .boolean) (by decide) rfl (Nat.le_of_ble_eq_true rfl) ?_
  intro p e s m below meth c ar hC hP hG ls hl
  have hS : va_S (fun _ => False) s.heap s.heap [] := va_S.rf
  obtain ⟨hx, hb, hml, hown, hts, hr, hlk, -⟩ := hC
  have hl : lv_has ls 1 [(0, .int x0)] := hl
  have hK := hG.1
  generalize hQ : MQ below (vp_Si (fun x => x = out)) ar s 0 0 (fun _ => False) = QQ
  unfold f_X11_isPlayer at hf
  refine lv_iload_n hx hb dX11_isPlayer_0 rfl (lv_at hl 0 rfl) ?_
  refine lv_iconst (v := 0) hx hb dX11_isPlayer_1 (by decide) ?_
  refine lv_iconst (v := 5) hx hb dX11_isPlayer_2 (by decide) ?_
  obtain ⟨z1, hq2, hf⟩ := bnd_some hf
  refine kR_i (va_runS (As := [.int x0, .int (0 : Int32), .int (5 : Int32)]) (rest := []) ⟨hx, hb, hml, hown, hts⟩ (c_X11_isWithin l g x0 (0 : Int32) (5 : Int32) z1 hq2) (va_cwS 3 hts gX11_isPlayer_X11_isWithin rfl rfl rfl (by decide +kernel) ⟨Nat.le_of_ble_eq_true rfl, Nat.le_of_ble_eq_true rfl⟩) (kpS_R hG (hP.subm (ws' := []) [] rfl)) rfl rfl hl.1 rfl (lv_room (Nat.le_of_ble_eq_true rfl)) dX11_isPlayer_3 ⟨Nat.le_of_ble_eq_true rfl, Nat.le_of_ble_eq_true rfl⟩) ?_
  obtain ⟨hz3, hf⟩ := bz_some hf
  rw [← hQ, ← Option.some.inj hf]
  exact eR_z hx hb hr hlk hz3 rfl dX11_isPlayer_6
set_option maxHeartbeats 4000000 in
set_option maxRecDepth 100000 in
theorem c_X11_lowestTerms (l : Launch) (g : bG) (x0 : Int64) (x2 : Int32) (x3 : Int32) (out : Int64) (hf : f_X11_lowestTerms x0 x2 x3 = some out) : Rl l g yX11_lowestTerms wsX11_lowestTerms ({ frames := 0, cells := 0, slots := 0, locals := 0 } : Room) [.long x0, .int x2, .int x3] [] out := by
  refine ofR (cc := cX11_lowestTerms) (nL := 9) (ret := some .long) (by decide) rfl (Nat.le_of_ble_eq_true rfl) ?_
  intro p e s m below meth c ar hC hP hG ls hl
  have hS : va_S (fun _ => False) s.heap s.heap [] := va_S.rf
  obtain ⟨hx, hb, hml, hown, hts, hr, hlk, -⟩ := hC
  have hl : lv_has ls 9 [(0, .long x0), (2, .int x2), (3, .int x3)] := hl
  have hK := hG.1
  generalize hQ : MQ below (vp_Sl (fun x => x = out)) ar s 0 0 (fun _ => False) = QQ
  have w_74 : ∀ n : Nat, ∀ (x2 : Int32) (x3 : Int32) (x4 : Int64) (x6 : Int64) (x8 : Int32), f_X11_lowestTerms_b74 n x2 x3 x4 x6 x8 = some out → ∀ ls : Array Slot, lv_has ls 9 [(2, .int x2), (3, .int x3), (4, .long x4), (6, .long x6), (8, .int x8)] → W p l e ({ frames := 0, cells := 0, slots := 0, locals := 0 } : Room) s m ar below meth c s.heap [] 0 0 QQ (F0 m 74 ls []) := by
    intro n
    induction n with
    | zero =>
      intro x2 x3 x4 x6 x8 hf
      rw [f_X11_lowestTerms_b74_z] at hf
      cases hf
    | succ n ih =>
      intro x2 x3 x4 x6 x8 hf ls hl
      rw [f_X11_lowestTerms_b74_s] at hf
      refine lv_iload hx hb dX11_lowestTerms_74 (lv_at hl 4 rfl) ?_
      refine lv_iload_n hx hb dX11_lowestTerms_76 rfl (lv_at hl 0 rfl) ?_
      refine lv_icmp_ge (tgt := 113) hx hb dX11_lowestTerms_77 (by decide) (fun c3 => ?_) (fun c3 => ?_)
      · replace hf := ift c3 hf
        refine lv_iload_n hx hb dX11_lowestTerms_113 rfl (lv_at hl 1 rfl) ?_
        refine lv_if_ne (tgt := 122) hx hb dX11_lowestTerms_114 (by decide) (fun c4 => ?_) (fun c4 => ?_)
        · replace hf := iff_ c4 hf
          refine lv_lload hx hb dX11_lowestTerms_122 (lv_at hl 3 rfl) ?_
          rw [← hQ, ← Option.some.inj hf]
          exact eR_l hx hb hr hlk rfl dX11_lowestTerms_124
        · replace hf := ift c4 hf
          refine lv_lload hx hb dX11_lowestTerms_117 (lv_at hl 2 rfl) ?_
          refine lv_goto (tgt := 124) hx hb dX11_lowestTerms_119 (by decide) ?_
          rw [← hQ, ← Option.some.inj hf]
          exact eR_l hx hb hr hlk rfl dX11_lowestTerms_124
      · replace hf := iff_ c3 hf
        refine lv_lload hx hb dX11_lowestTerms_80 (lv_at hl 2 rfl) ?_
        refine lv_ldc2 (v := 3) hx hb hown (hts (.constantLong RX11 245 (3)) (List.mem_of_getElem? (i := 3) rfl)) dX11_lowestTerms_82 ?_
        refine lv_lrem hx hb dX11_lowestTerms_85 (by decide) ?_
        refine lv_lconst (v := 0) hx hb dX11_lowestTerms_86 (by decide) ?_
        refine W.lcmp hx hb dX11_lowestTerms_87 ?_
        refine lv_if_ne (tgt := 113) hx hb dX11_lowestTerms_88 (by decide) (fun c5 => ?_) (fun c5 => ?_)
        · replace hf := iff_ c5 hf
          refine lv_iload_n hx hb dX11_lowestTerms_113 rfl (lv_at hl 1 rfl) ?_
          refine lv_if_ne (tgt := 122) hx hb dX11_lowestTerms_114 (by decide) (fun c6 => ?_) (fun c6 => ?_)
          · replace hf := iff_ c6 hf
            refine lv_lload hx hb dX11_lowestTerms_122 (lv_at hl 3 rfl) ?_
            rw [← hQ, ← Option.some.inj hf]
            exact eR_l hx hb hr hlk rfl dX11_lowestTerms_124
          · replace hf := ift c6 hf
            refine lv_lload hx hb dX11_lowestTerms_117 (lv_at hl 2 rfl) ?_
            refine lv_goto (tgt := 124) hx hb dX11_lowestTerms_119 (by decide) ?_
            rw [← hQ, ← Option.some.inj hf]
            exact eR_l hx hb hr hlk rfl dX11_lowestTerms_124
        · replace hf := ift c5 hf
          refine lv_lload hx hb dX11_lowestTerms_91 (lv_at hl 2 rfl) ?_
          refine lv_ldc2 (v := 3) hx hb hown (hts (.constantLong RX11 245 (3)) (List.mem_of_getElem? (i := 3) rfl)) dX11_lowestTerms_93 ?_
          refine lv_ldiv hx hb dX11_lowestTerms_96 (by decide) ?_
          refine lv_lstore (lv' := [(4, .long (x4 / (3 : Int64))), (2, .int x2), (3, .int x3), (6, .long x6), (8, .int x8)]) hx hb dX11_lowestTerms_97 hl (by decide) rfl (fun ls hl => ?_)
          refine lv_lload hx hb dX11_lowestTerms_99 (lv_at hl 3 rfl) ?_
          refine lv_ldc2 (v := 3) hx hb hown (hts (.constantLong RX11 245 (3)) (List.mem_of_getElem? (i := 3) rfl)) dX11_lowestTerms_101 ?_
          refine lv_ldiv hx hb dX11_lowestTerms_104 (by decide) ?_
          refine lv_lstore (lv' := [(6, .long (x6 / (3 : Int64))), (4, .long (x4 / (3 : Int64))), (2, .int x2), (3, .int x3), (8, .int x8)]) hx hb dX11_lowestTerms_105 hl (by decide) rfl (fun ls hl => ?_)
          refine lv_iinc (v := (x8 + 1)) (lv' := [(8, .int (x8 + 1)), (6, .long (x6 / (3 : Int64))), (4, .long (x4 / (3 : Int64))), (2, .int x2), (3, .int x3)]) hx hb dX11_lowestTerms_107 hl (k := 4) rfl rfl (by decide) rfl (fun ls hl => ?_)
          refine lv_goto (tgt := 74) hx hb dX11_lowestTerms_110 (by decide) ?_
          exact ih x2 x3 (x4 / (3 : Int64)) (x6 / (3 : Int64)) (x8 + 1) hf ls (lv_sub hl [3, 4, 2, 1, 0] rfl)
  have w_32 : ∀ n : Nat, ∀ (x2 : Int32) (x3 : Int32) (x4 : Int64) (x6 : Int64) (x8 : Int32), f_X11_lowestTerms_b32 n x2 x3 x4 x6 x8 = some out → ∀ ls : Array Slot, lv_has ls 9 [(2, .int x2), (3, .int x3), (4, .long x4), (6, .long x6), (8, .int x8)] → W p l e ({ frames := 0, cells := 0, slots := 0, locals := 0 } : Room) s m ar below meth c s.heap [] 0 0 QQ (F0 m 32 ls []) := by
    intro n
    induction n with
    | zero =>
      intro x2 x3 x4 x6 x8 hf
      rw [f_X11_lowestTerms_b32_z] at hf
      cases hf
    | succ n ih =>
      intro x2 x3 x4 x6 x8 hf ls hl
      rw [f_X11_lowestTerms_b32_s] at hf
      refine lv_iload hx hb dX11_lowestTerms_32 (lv_at hl 4 rfl) ?_
      refine lv_iload_n hx hb dX11_lowestTerms_34 rfl (lv_at hl 0 rfl) ?_
      refine lv_icmp_ge (tgt := 71) hx hb dX11_lowestTerms_35 (by decide) (fun c2 => ?_) (fun c2 => ?_)
      · replace hf := ift c2 hf
        refine lv_iconst (v := 0) hx hb dX11_lowestTerms_71 (by decide) ?_
        refine lv_istore (lv' := [(8, .int (0 : Int32)), (2, .int x2), (3, .int x3), (4, .long x4), (6, .long x6)]) hx hb dX11_lowestTerms_72 hl (by decide) rfl (fun ls hl => ?_)
        exact w_74 FU x2 x3 x4 x6 (0 : Int32) hf ls (lv_sub hl [1, 2, 3, 4, 0] rfl)
      · replace hf := iff_ c2 hf
        refine lv_lload hx hb dX11_lowestTerms_38 (lv_at hl 2 rfl) ?_
        refine lv_ldc2 (v := 2) hx hb hown (hts (.constantLong RX11 243 (2)) (List.mem_of_getElem? (i := 2) rfl)) dX11_lowestTerms_40 ?_
        refine lv_lrem hx hb dX11_lowestTerms_43 (by decide) ?_
        refine lv_lconst (v := 0) hx hb dX11_lowestTerms_44 (by decide) ?_
        refine W.lcmp hx hb dX11_lowestTerms_45 ?_
        refine lv_if_ne (tgt := 71) hx hb dX11_lowestTerms_46 (by decide) (fun c7 => ?_) (fun c7 => ?_)
        · replace hf := iff_ c7 hf
          refine lv_iconst (v := 0) hx hb dX11_lowestTerms_71 (by decide) ?_
          refine lv_istore (lv' := [(8, .int (0 : Int32)), (2, .int x2), (3, .int x3), (4, .long x4), (6, .long x6)]) hx hb dX11_lowestTerms_72 hl (by decide) rfl (fun ls hl => ?_)
          exact w_74 FU x2 x3 x4 x6 (0 : Int32) hf ls (lv_sub hl [1, 2, 3, 4, 0] rfl)
        · replace hf := ift c7 hf
          refine lv_lload hx hb dX11_lowestTerms_49 (lv_at hl 2 rfl) ?_
          refine lv_ldc2 (v := 2) hx hb hown (hts (.constantLong RX11 243 (2)) (List.mem_of_getElem? (i := 2) rfl)) dX11_lowestTerms_51 ?_
          refine lv_ldiv hx hb dX11_lowestTerms_54 (by decide) ?_
          refine lv_lstore (lv' := [(4, .long (x4 / (2 : Int64))), (2, .int x2), (3, .int x3), (6, .long x6), (8, .int x8)]) hx hb dX11_lowestTerms_55 hl (by decide) rfl (fun ls hl => ?_)
          refine lv_lload hx hb dX11_lowestTerms_57 (lv_at hl 3 rfl) ?_
          refine lv_ldc2 (v := 2) hx hb hown (hts (.constantLong RX11 243 (2)) (List.mem_of_getElem? (i := 2) rfl)) dX11_lowestTerms_59 ?_
          refine lv_ldiv hx hb dX11_lowestTerms_62 (by decide) ?_
          refine lv_lstore (lv' := [(6, .long (x6 / (2 : Int64))), (4, .long (x4 / (2 : Int64))), (2, .int x2), (3, .int x3), (8, .int x8)]) hx hb dX11_lowestTerms_63 hl (by decide) rfl (fun ls hl => ?_)
          refine lv_iinc (v := (x8 + 1)) (lv' := [(8, .int (x8 + 1)), (6, .long (x6 / (2 : Int64))), (4, .long (x4 / (2 : Int64))), (2, .int x2), (3, .int x3)]) hx hb dX11_lowestTerms_65 hl (k := 4) rfl rfl (by decide) rfl (fun ls hl => ?_)
          refine lv_goto (tgt := 32) hx hb dX11_lowestTerms_68 (by decide) ?_
          exact ih x2 x3 (x4 / (2 : Int64)) (x6 / (2 : Int64)) (x8 + 1) hf ls (lv_sub hl [3, 4, 2, 1, 0] rfl)
  have w_9 : ∀ n : Nat, ∀ (x2 : Int32) (x3 : Int32) (x4 : Int64) (x6 : Int64) (x8 : Int32), f_X11_lowestTerms_b9 n x2 x3 x4 x6 x8 = some out → ∀ ls : Array Slot, lv_has ls 9 [(2, .int x2), (3, .int x3), (4, .long x4), (6, .long x6), (8, .int x8)] → W p l e ({ frames := 0, cells := 0, slots := 0, locals := 0 } : Room) s m ar below meth c s.heap [] 0 0 QQ (F0 m 9 ls []) := by
    intro n
    induction n with
    | zero =>
      intro x2 x3 x4 x6 x8 hf
      rw [f_X11_lowestTerms_b9_z] at hf
      cases hf
    | succ n ih =>
      intro x2 x3 x4 x6 x8 hf ls hl
      rw [f_X11_lowestTerms_b9_s] at hf
      refine lv_iload hx hb dX11_lowestTerms_9 (lv_at hl 4 rfl) ?_
      refine lv_iload_n hx hb dX11_lowestTerms_11 rfl (lv_at hl 0 rfl) ?_
      refine lv_icmp_ge (tgt := 29) hx hb dX11_lowestTerms_12 (by decide) (fun c1 => ?_) (fun c1 => ?_)
      · replace hf := ift c1 hf
        refine lv_iconst (v := 0) hx hb dX11_lowestTerms_29 (by decide) ?_
        refine lv_istore (lv' := [(8, .int (0 : Int32)), (2, .int x2), (3, .int x3), (4, .long x4), (6, .long x6)]) hx hb dX11_lowestTerms_30 hl (by decide) rfl (fun ls hl => ?_)
        exact w_32 FU x2 x3 x4 x6 (0 : Int32) hf ls (lv_sub hl [1, 2, 3, 4, 0] rfl)
      · replace hf := iff_ c1 hf
        refine lv_lload hx hb dX11_lowestTerms_15 (lv_at hl 3 rfl) ?_
        refine lv_ldc2 (v := 6) hx hb hown (hts (.constantLong RX11 241 (6)) (List.mem_of_getElem? (i := 1) rfl)) dX11_lowestTerms_17 ?_
        refine lv_lmul hx hb dX11_lowestTerms_20 ?_
        refine lv_lstore (lv' := [(6, .long (x6 * (6 : Int64))), (2, .int x2), (3, .int x3), (4, .long x4), (8, .int x8)]) hx hb dX11_lowestTerms_21 hl (by decide) rfl (fun ls hl => ?_)
        refine lv_iinc (v := (x8 + 1)) (lv' := [(8, .int (x8 + 1)), (6, .long (x6 * (6 : Int64))), (2, .int x2), (3, .int x3), (4, .long x4)]) hx hb dX11_lowestTerms_23 hl (k := 4) rfl rfl (by decide) rfl (fun ls hl => ?_)
        refine lv_goto (tgt := 9) hx hb dX11_lowestTerms_26 (by decide) ?_
        exact ih x2 x3 x4 (x6 * (6 : Int64)) (x8 + 1) hf ls (lv_sub hl [2, 3, 4, 1, 0] rfl)
  unfold f_X11_lowestTerms at hf
  refine lv_lload_n hx hb dX11_lowestTerms_0 rfl (lv_at hl 0 rfl) ?_
  refine lv_lstore (lv' := [(4, .long x0), (0, .long x0), (2, .int x2), (3, .int x3)]) hx hb dX11_lowestTerms_1 hl (by decide) rfl (fun ls hl => ?_)
  refine lv_lconst (v := 1) hx hb dX11_lowestTerms_3 (by decide) ?_
  refine lv_lstore (lv' := [(6, .long (1 : Int64)), (4, .long x0), (0, .long x0), (2, .int x2), (3, .int x3)]) hx hb dX11_lowestTerms_4 hl (by decide) rfl (fun ls hl => ?_)
  refine lv_iconst (v := 0) hx hb dX11_lowestTerms_6 (by decide) ?_
  refine lv_istore (lv' := [(8, .int (0 : Int32)), (6, .long (1 : Int64)), (4, .long x0), (0, .long x0), (2, .int x2), (3, .int x3)]) hx hb dX11_lowestTerms_7 hl (by decide) rfl (fun ls hl => ?_)
  exact w_9 FU x2 x3 x0 (1 : Int64) (0 : Int32) hf ls (lv_sub hl [4, 5, 2, 1, 0] rfl)
