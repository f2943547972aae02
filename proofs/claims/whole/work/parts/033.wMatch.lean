/-! ===== walks, by program ===== -/
set_option maxHeartbeats 4000000 in
set_option maxRecDepth 100000 in
theorem c_X4_begin (l : Launch) (g : bG) (k_this : Nat) (k_this_table : Nat) (k_this_table_drawn : Nat) (k_this_table_points : Nat) (k_p1 : Nat) (k_p1_drawn : Nat) (k_p1_points : Nat) (v_acts : Int32) (v_why : Int32) (v_vain : Int32) (v_wholeAct : Int32) (v_wholeWho : Int32) (v_table_inBits : Int32) (v_table_holder : Int32) (v_table_game : Int32) (v_table_drawn : Nat → Int32) (v_table_points : Nat → Int32) (v_p1_inBits : Int32) (v_p1_holder : Int32) (v_p1_game : Int32) (v_p1_drawn : Nat → Int32) (v_p1_points : Nat → Int32) (out : (Nat → Int32) × (Nat → Int32) × Int32 × Int32 × Int32 × Int32 × Int32 × Int32 × Int32 × Int32) (hf : f_X4_begin v_table_drawn v_table_points v_table_inBits v_table_holder v_table_game v_acts v_why v_vain v_wholeAct v_wholeWho v_p1_drawn v_p1_points v_p1_inBits v_p1_holder v_p1_game = some out) : Mv l g yX4_begin wsX4_begin ({ frames := 1, cells := 0, slots := 0, locals := 22 } : Room) [.ref k_this, .ref k_p1] [(k_this, .inr (2, [.ref k_this_table, .int v_acts, .int v_why, .int v_vain, .int v_wholeAct, .int v_wholeWho])), (k_this_table, .inr (7, [.ref k_this_table_drawn, .ref k_this_table_points, .int v_table_inBits, .int v_table_holder, .int v_table_game])), (k_this_table_drawn, .inl (gI g, 6, .inl v_table_drawn)), (k_this_table_points, .inl (gI g, 6, .inl v_table_points)), (k_p1, .inr (7, [.ref k_p1_drawn, .ref k_p1_points, .int v_p1_inBits, .int v_p1_holder, .int v_p1_game])), (k_p1_drawn, .inl (gI g, 6, .inl v_p1_drawn)), (k_p1_points, .inl (gI g, 6, .inl v_p1_points))] [(k_this, .inr (2, [.ref k_this_table, .int out.2.2.2.2.2.1, .int out.2.2.2.2.2.2.1, .int out.2.2.2.2.2.2.2.1, .int out.2.2.2.2.2.2.2.2.1, .int out.2.2.2.2.2.2.2.2.2])), (k_this_table, .inr (7, [.ref k_this_table_drawn, .ref k_this_table_points, .int out.2.2.1, .int out.2.2.2.1, .int out.2.2.2.2.1])), (k_this_table_drawn, .inl (gI g, 6, .inl out.1)), (k_this_table_points, .inl (gI g, 6, .inl out.2.1)), (k_p1, .inr (7, [.ref k_p1_drawn, .ref k_p1_points, .int v_p1_inBits, .int v_p1_holder, .int v_p1_game])), (k_p1_drawn, .inl (gI g, 6, .inl v_p1_drawn)), (k_p1_points, .inl (gI g, 6, .inl v_p1_points))] := by
  refine ofM (Qc := fun A => Qv g [(k_this, .inr (2, [.ref k_this_table, .int out.2.2.2.2.2.1, .int out.2.2.2.2.2.2.1, .int out.2.2.2.2.2.2.2.1, .int out.2.2.2.2.2.2.2.2.1, .int out.2.2.2.2.2.2.2.2.2])), (k_this_table, .inr (7, [.ref k_this_table_drawn, .ref k_this_table_points, .int out.2.2.1, .int out.2.2.2.1, .int out.2.2.2.2.1])), (k_this_table_drawn, .inl (gI g, 6, .inl out.1)), (k_this_table_points, .inl (gI g, 6, .inl out.2.1)), (k_p1, .inr (7, [.ref k_p1_drawn, .ref k_p1_points, .int v_p1_inBits, .int v_p1_holder, .int v_p1_game])), (k_p1_drawn, .inl (gI g, 6, .inl v_p1_drawn)), (k_p1_points, .inl (gI g, 6, .inl v_p1_points))] A) (cc := cX4_begin) (nL := 2) (ret := none) (by decide) rfl (Nat.le_of_ble_eq_true rfl) ?_
  intro p e s m below meth c ar A hC hA hP hD hG ls hl
  have hS : va_S A s.heap s.heap [] := va_S.rf
  obtain ⟨hx, hb, hml, hown, hts, hr, hlk, -⟩ := hC
  have hl : lv_has ls 2 [(0, .ref k_this), (1, .ref k_p1)] := hl
  have hK := hG.1
  have iX4 : ∀ w ∈ u_ws RX4 TX4 6, w ∈ wsX4_begin := fun w h => List.mem_cons_of_mem _ (List.mem_append_left _ (List.mem_append_right _ (h)))
  generalize hQ : MQ below (Qv g [(k_this, .inr (2, [.ref k_this_table, .int out.2.2.2.2.2.1, .int out.2.2.2.2.2.2.1, .int out.2.2.2.2.2.2.2.1, .int out.2.2.2.2.2.2.2.2.1, .int out.2.2.2.2.2.2.2.2.2])), (k_this_table, .inr (7, [.ref k_this_table_drawn, .ref k_this_table_points, .int out.2.2.1, .int out.2.2.2.1, .int out.2.2.2.2.1])), (k_this_table_drawn, .inl (gI g, 6, .inl out.1)), (k_this_table_points, .inl (gI g, 6, .inl out.2.1)), (k_p1, .inr (7, [.ref k_p1_drawn, .ref k_p1_points, .int v_p1_inBits, .int v_p1_holder, .int v_p1_game])), (k_p1_drawn, .inl (gI g, 6, .inl v_p1_drawn)), (k_p1_points, .inl (gI g, 6, .inl v_p1_points))] A) ar s 0 0 A = QQ
  unfold f_X4_begin at hf
  refine lv_aload_n hx hb dX4_begin_0 rfl (lv_at hl 0 rfl) ?_
  refine va_get (D := gD g) (ci := 2) (v := .ref k_this_table) (C := RX4) (T := TX4) (N := 6) hx hb hts iX4 hown hK hP 0 rfl rfl 0 (by decide) (hts (.fieldLink RX4 12 "BeetleDrive$Match" "table" "LBeetleDrive$Table;") (List.mem_of_getElem? (i := 1) rfl)) (fun _ h9 => h9) rfl dX4_begin_1 ?_
  refine lv_aload_n hx hb dX4_begin_4 rfl (lv_at hl 1 rfl) ?_
  obtain ⟨z1, hq2, hf⟩ := bnd_some hf
  refine kM_v (wc := [(k_this_table, .inr (7, [.ref k_this_table_drawn, .ref k_this_table_points, .int v_table_inBits, .int v_table_holder, .int v_table_game])), (k_this_table_drawn, .inl (gI g, 6, .inl v_table_drawn)), (k_this_table_points, .inl (gI g, 6, .inl v_table_points)), (k_p1, .inr (7, [.ref k_p1_drawn, .ref k_p1_points, .int v_p1_inBits, .int v_p1_holder, .int v_p1_game])), (k_p1_drawn, .inl (gI g, 6, .inl v_p1_drawn)), (k_p1_points, .inl (gI g, 6, .inl v_p1_points))]) (wr := [(k_this, .inr (2, [.ref k_this_table, .int v_acts, .int v_why, .int v_vain, .int v_wholeAct, .int v_wholeWho]))]) (w1 := [(k_this_table, .inr (7, [.ref k_this_table_drawn, .ref k_this_table_points, .int z1.2.2.1, .int z1.2.2.2.1, .int z1.2.2.2.2])), (k_this_table_drawn, .inl (gI g, 6, .inl z1.1)), (k_this_table_points, .inl (gI g, 6, .inl z1.2.1)), (k_p1, .inr (7, [.ref k_p1_drawn, .ref k_p1_points, .int v_p1_inBits, .int v_p1_holder, .int v_p1_game])), (k_p1_drawn, .inl (gI g, 6, .inl v_p1_drawn)), (k_p1_points, .inl (gI g, 6, .inl v_p1_points))]) (w2 := [(k_this, .inr (2, [.ref k_this_table, .int v_acts, .int v_why, .int v_vain, .int v_wholeAct, .int v_wholeWho])), (k_this_table, .inr (7, [.ref k_this_table_drawn, .ref k_this_table_points, .int z1.2.2.1, .int z1.2.2.2.1, .int z1.2.2.2.2])), (k_this_table_drawn, .inl (gI g, 6, .inl z1.1)), (k_this_table_points, .inl (gI g, 6, .inl z1.2.1)), (k_p1, .inr (7, [.ref k_p1_drawn, .ref k_p1_points, .int v_p1_inBits, .int v_p1_holder, .int v_p1_game])), (k_p1_drawn, .inl (gI g, 6, .inl v_p1_drawn)), (k_p1_points, .inl (gI g, 6, .inl v_p1_points))]) (va_runV (As := [.ref k_p1]) (rest := []) ⟨hx, hb, hml, hown, hts⟩ (c_X9_copyFrom l g k_this_table k_this_table_drawn k_this_table_points k_p1 k_p1_drawn k_p1_points v_table_inBits v_table_holder v_table_game v_table_drawn v_table_points v_p1_inBits v_p1_holder v_p1_game v_p1_drawn v_p1_points z1 hq2 s.heap.size) (cwV 1 hts gX4_begin_X9_copyFrom rfl rfl rfl (by decide +kernel) ⟨Nat.le_of_ble_eq_true rfl, Nat.le_of_ble_eq_true rfl⟩) (kpV_M (q0 := 0) (ci := 7) hG hS hP hD hA [1, 2, 3, 4, 5, 6] rfl (by decide) rfl rfl) rfl rfl hl.1 rfl (lv_room (Nat.le_of_ble_eq_true rfl)) dX4_begin_5 ⟨Nat.le_of_ble_eq_true rfl, Nat.le_of_ble_eq_true rfl⟩) hP hD hS hA [1, 2, 3, 4, 5, 6] [0] [0, 1, 2, 3, 4, 5, 6] rfl rfl (by decide) (by decide) rfl (by decide) (fun H locs hP hD hS => ?_)
  refine lv_aload_n hx hb dX4_begin_8 rfl (lv_at hl 0 rfl) ?_
  refine lv_iconst (v := 0) hx hb dX4_begin_9 (by decide) ?_
  refine va_put (D := gD g) (ci := 2) (v := .int (0 : Int32)) (ty := .int) (C := RX4) (T := TX4) (N := 6) hx hb hts iX4 tyX4 tyX4_ok nmX4 hown hK hP hD hS 0 rfl rfl 1 (by decide) (hts (.fieldLink RX4 55 "BeetleDrive$Match" "acts" "I") (List.mem_of_getElem? (i := 2) rfl)) (fun _ h9 => h9) rfl (tyX4_ok 1 (by decide)) rfl rfl (Nat.le_of_ble_eq_true rfl) dX4_begin_10 (fun H locs hP hD hS => ?_)
  have hP : va_P (gD g) vwCl [(k_this, .inr (2, [.ref k_this_table, .int (0 : Int32), .int v_why, .int v_vain, .int v_wholeAct, .int v_wholeWho])), (k_this_table, .inr (7, [.ref k_this_table_drawn, .ref k_this_table_points, .int z1.2.2.1, .int z1.2.2.2.1, .int z1.2.2.2.2])), (k_this_table_drawn, .inl (gI g, 6, .inl z1.1)), (k_this_table_points, .inl (gI g, 6, .inl z1.2.1)), (k_p1, .inr (7, [.ref k_p1_drawn, .ref k_p1_points, .int v_p1_inBits, .int v_p1_holder, .int v_p1_game])), (k_p1_drawn, .inl (gI g, 6, .inl v_p1_drawn)), (k_p1_points, .inl (gI g, 6, .inl v_p1_points))] H := hP
  have hD : va_D A [(k_this, .inr (2, [.ref k_this_table, .int (0 : Int32), .int v_why, .int v_vain, .int v_wholeAct, .int v_wholeWho])), (k_this_table, .inr (7, [.ref k_this_table_drawn, .ref k_this_table_points, .int z1.2.2.1, .int z1.2.2.2.1, .int z1.2.2.2.2])), (k_this_table_drawn, .inl (gI g, 6, .inl z1.1)), (k_this_table_points, .inl (gI g, 6, .inl z1.2.1)), (k_p1, .inr (7, [.ref k_p1_drawn, .ref k_p1_points, .int v_p1_inBits, .int v_p1_holder, .int v_p1_game])), (k_p1_drawn, .inl (gI g, 6, .inl v_p1_drawn)), (k_p1_points, .inl (gI g, 6, .inl v_p1_points))] := hD
  refine lv_aload_n hx hb dX4_begin_13 rfl (lv_at hl 0 rfl) ?_
  refine lv_iconst (v := 0) hx hb dX4_begin_14 (by decide) ?_
  refine va_put (D := gD g) (ci := 2) (v := .int (0 : Int32)) (ty := .int) (C := RX4) (T := TX4) (N := 6) hx hb hts iX4 tyX4 tyX4_ok nmX4 hown hK hP hD hS 0 rfl rfl 2 (by decide) (hts (.fieldLink RX4 32 "BeetleDrive$Match" "why" "I") (List.mem_of_getElem? (i := 3) rfl)) (fun _ h9 => h9) rfl (tyX4_ok 2 (by decide)) rfl rfl (Nat.le_of_ble_eq_true rfl) dX4_begin_15 (fun H locs hP hD hS => ?_)
  have hP : va_P (gD g) vwCl [(k_this, .inr (2, [.ref k_this_table, .int (0 : Int32), .int (0 : Int32), .int v_vain, .int v_wholeAct, .int v_wholeWho])), (k_this_table, .inr (7, [.ref k_this_table_drawn, .ref k_this_table_points, .int z1.2.2.1, .int z1.2.2.2.1, .int z1.2.2.2.2])), (k_this_table_drawn, .inl (gI g, 6, .inl z1.1)), (k_this_table_points, .inl (gI g, 6, .inl z1.2.1)), (k_p1, .inr (7, [.ref k_p1_drawn, .ref k_p1_points, .int v_p1_inBits, .int v_p1_holder, .int v_p1_game])), (k_p1_drawn, .inl (gI g, 6, .inl v_p1_drawn)), (k_p1_points, .inl (gI g, 6, .inl v_p1_points))] H := hP
  have hD : va_D A [(k_this, .inr (2, [.ref k_this_table, .int (0 : Int32), .int (0 : Int32), .int v_vain, .int v_wholeAct, .int v_wholeWho])), (k_this_table, .inr (7, [.ref k_this_table_drawn, .ref k_this_table_points, .int z1.2.2.1, .int z1.2.2.2.1, .int z1.2.2.2.2])), (k_this_table_drawn, .inl (gI g, 6, .inl z1.1)), (k_this_table_points, .inl (gI g, 6, .inl z1.2.1)), (k_p1, .inr (7, [.ref k_p1_drawn, .ref k_p1_points, .int v_p1_inBits, .int v_p1_holder, .int v_p1_game])), (k_p1_drawn, .inl (gI g, 6, .inl v_p1_drawn)), (k_p1_points, .inl (gI g, 6, .inl v_p1_points))] := hD
  refine lv_aload_n hx hb dX4_begin_18 rfl (lv_at hl 0 rfl) ?_
  refine lv_iconst (v := 0) hx hb dX4_begin_19 (by decide) ?_
  refine va_put (D := gD g) (ci := 2) (v := .int (0 : Int32)) (ty := .int) (C := RX4) (T := TX4) (N := 6) hx hb hts iX4 tyX4 tyX4_ok nmX4 hown hK hP hD hS 0 rfl rfl 3 (by decide) (hts (.fieldLink RX4 58 "BeetleDrive$Match" "vain" "I") (List.mem_of_getElem? (i := 4) rfl)) (fun _ h9 => h9) rfl (tyX4_ok 3 (by decide)) rfl rfl (Nat.le_of_ble_eq_true rfl) dX4_begin_20 (fun H locs hP hD hS => ?_)
  have hP : va_P (gD g) vwCl [(k_this, .inr (2, [.ref k_this_table, .int (0 : Int32), .int (0 : Int32), .int (0 : Int32), .int v_wholeAct, .int v_wholeWho])), (k_this_table, .inr (7, [.ref k_this_table_drawn, .ref k_this_table_points, .int z1.2.2.1, .int z1.2.2.2.1, .int z1.2.2.2.2])), (k_this_table_drawn, .inl (gI g, 6, .inl z1.1)), (k_this_table_points, .inl (gI g, 6, .inl z1.2.1)), (k_p1, .inr (7, [.ref k_p1_drawn, .ref k_p1_points, .int v_p1_inBits, .int v_p1_holder, .int v_p1_game])), (k_p1_drawn, .inl (gI g, 6, .inl v_p1_drawn)), (k_p1_points, .inl (gI g, 6, .inl v_p1_points))] H := hP
  have hD : va_D A [(k_this, .inr (2, [.ref k_this_table, .int (0 : Int32), .int (0 : Int32), .int (0 : Int32), .int v_wholeAct, .int v_wholeWho])), (k_this_table, .inr (7, [.ref k_this_table_drawn, .ref k_this_table_points, .int z1.2.2.1, .int z1.2.2.2.1, .int z1.2.2.2.2])), (k_this_table_drawn, .inl (gI g, 6, .inl z1.1)), (k_this_table_points, .inl (gI g, 6, .inl z1.2.1)), (k_p1, .inr (7, [.ref k_p1_drawn, .ref k_p1_points, .int v_p1_inBits, .int v_p1_holder, .int v_p1_game])), (k_p1_drawn, .inl (gI g, 6, .inl v_p1_drawn)), (k_p1_points, .inl (gI g, 6, .inl v_p1_points))] := hD
  refine lv_aload_n hx hb dX4_begin_23 rfl (lv_at hl 0 rfl) ?_
  refine lv_bipush (v := -6) hx hb dX4_begin_24 (by decide) ?_
  refine va_put (D := gD g) (ci := 2) (v := .int (-6 : Int32)) (ty := .int) (C := RX4) (T := TX4) (N := 6) hx hb hts iX4 tyX4 tyX4_ok nmX4 hown hK hP hD hS 0 rfl rfl 4 (by decide) (hts (.fieldLink RX4 61 "BeetleDrive$Match" "wholeAct" "I") (List.mem_of_getElem? (i := 5) rfl)) (fun _ h9 => h9) rfl (tyX4_ok 4 (by decide)) rfl rfl (Nat.le_of_ble_eq_true rfl) dX4_begin_26 (fun H locs hP hD hS => ?_)
  have hP : va_P (gD g) vwCl [(k_this, .inr (2, [.ref k_this_table, .int (0 : Int32), .int (0 : Int32), .int (0 : Int32), .int (-6 : Int32), .int v_wholeWho])), (k_this_table, .inr (7, [.ref k_this_table_drawn, .ref k_this_table_points, .int z1.2.2.1, .int z1.2.2.2.1, .int z1.2.2.2.2])), (k_this_table_drawn, .inl (gI g, 6, .inl z1.1)), (k_this_table_points, .inl (gI g, 6, .inl z1.2.1)), (k_p1, .inr (7, [.ref k_p1_drawn, .ref k_p1_points, .int v_p1_inBits, .int v_p1_holder, .int v_p1_game])), (k_p1_drawn, .inl (gI g, 6, .inl v_p1_drawn)), (k_p1_points, .inl (gI g, 6, .inl v_p1_points))] H := hP
  have hD : va_D A [(k_this, .inr (2, [.ref k_this_table, .int (0 : Int32), .int (0 : Int32), .int (0 : Int32), .int (-6 : Int32), .int v_wholeWho])), (k_this_table, .inr (7, [.ref k_this_table_drawn, .ref k_this_table_points, .int z1.2.2.1, .int z1.2.2.2.1, .int z1.2.2.2.2])), (k_this_table_drawn, .inl (gI g, 6, .inl z1.1)), (k_this_table_points, .inl (gI g, 6, .inl z1.2.1)), (k_p1, .inr (7, [.ref k_p1_drawn, .ref k_p1_points, .int v_p1_inBits, .int v_p1_holder, .int v_p1_game])), (k_p1_drawn, .inl (gI g, 6, .inl v_p1_drawn)), (k_p1_points, .inl (gI g, 6, .inl v_p1_points))] := hD
  refine lv_aload_n hx hb dX4_begin_29 rfl (lv_at hl 0 rfl) ?_
  refine lv_bipush (v := -6) hx hb dX4_begin_30 (by decide) ?_
  refine va_put (D := gD g) (ci := 2) (v := .int (-6 : Int32)) (ty := .int) (C := RX4) (T := TX4) (N := 6) hx hb hts iX4 tyX4 tyX4_ok nmX4 hown hK hP hD hS 0 rfl rfl 5 (by decide) (hts (.fieldLink RX4 64 "BeetleDrive$Match" "wholeWho" "I") (List.mem_of_getElem? (i := 6) rfl)) (fun _ h9 => h9) rfl (tyX4_ok 5 (by decide)) rfl rfl (Nat.le_of_ble_eq_true rfl) dX4_begin_32 (fun H locs hP hD hS => ?_)
  have hP : va_P (gD g) vwCl [(k_this, .inr (2, [.ref k_this_table, .int (0 : Int32), .int (0 : Int32), .int (0 : Int32), .int (-6 : Int32), .int (-6 : Int32)])), (k_this_table, .inr (7, [.ref k_this_table_drawn, .ref k_this_table_points, .int z1.2.2.1, .int z1.2.2.2.1, .int z1.2.2.2.2])), (k_this_table_drawn, .inl (gI g, 6, .inl z1.1)), (k_this_table_points, .inl (gI g, 6, .inl z1.2.1)), (k_p1, .inr (7, [.ref k_p1_drawn, .ref k_p1_points, .int v_p1_inBits, .int v_p1_holder, .int v_p1_game])), (k_p1_drawn, .inl (gI g, 6, .inl v_p1_drawn)), (k_p1_points, .inl (gI g, 6, .inl v_p1_points))] H := hP
  have hD : va_D A [(k_this, .inr (2, [.ref k_this_table, .int (0 : Int32), .int (0 : Int32), .int (0 : Int32), .int (-6 : Int32), .int (-6 : Int32)])), (k_this_table, .inr (7, [.ref k_this_table_drawn, .ref k_this_table_points, .int z1.2.2.1, .int z1.2.2.2.1, .int z1.2.2.2.2])), (k_this_table_drawn, .inl (gI g, 6, .inl z1.1)), (k_this_table_points, .inl (gI g, 6, .inl z1.2.1)), (k_p1, .inr (7, [.ref k_p1_drawn, .ref k_p1_points, .int v_p1_inBits, .int v_p1_holder, .int v_p1_game])), (k_p1_drawn, .inl (gI g, 6, .inl v_p1_drawn)), (k_p1_points, .inl (gI g, 6, .inl v_p1_points))] := hD
  rw [← hQ, ← Option.some.inj hf]
  exact eM_v hx hb hr hlk hP hD hS dX4_begin_35
set_option maxHeartbeats 4000000 in
set_option maxRecDepth 100000 in
theorem c_X5_isLetter (l : Launch) (g : bG) (x0 : Int32) (out : Int32) (hf : f_X5_isLetter x0 = some out) : Ri l g yX5_isLetter wsX5_isLetter ({ frames := 1, cells := 0, slots := 0, locals := 22 } : Room) [.int x0] [] out := by
  refine ofR (cc := cX5_isLetter) (nL := 1) (ret := some .boolean) (by decide) rfl (Nat.le_of_ble_eq_true rfl) ?_
  intro p e s m below meth c ar hC hP hG ls hl
  have hS : va_S (fun _ => False) s.heap s.heap [] := va_S.rf
  obtain ⟨hx, hb, hml, hown, hts, hr, hlk, -⟩ := hC
  have hl : lv_has ls 1 [(0, .int x0)] := hl
  have hK := hG.1
  generalize hQ : MQ below (vp_Si (fun x => x = out)) ar s 0 0 (fun _ => False) = QQ
  unfold f_X5_isLetter at hf
  refine lv_iload_n hx hb dX5_isLetter_0 rfl (lv_at hl 0 rfl) ?_
  refine lv_bipush (v := 65) hx hb dX5_isLetter_1 (by decide) ?_
  refine lv_bipush (v := 70) hx hb dX5_isLetter_3 (by decide) ?_
  obtain ⟨z1, hq2, hf⟩ := bnd_some hf
  refine kR_i (va_runSN (As := [.int x0, .int (65 : Int32), .int (70 : Int32)]) (rest := []) ⟨hx, hb, hml, hown, hts⟩ (c_X11_isWithin l g x0 (65 : Int32) (70 : Int32) z1 hq2) ⟨va_cnB 3 hts gX5_isLetter_X11_isWithin_n27 rfl rfl rfl (hG.nm 12 rfl) (hts (.initialized RX11) (List.mem_of_getElem? (i := 2) rfl)) (by decide +kernel) ⟨Nat.le_of_ble_eq_true rfl, Nat.le_of_ble_eq_true rfl⟩, (hts (.static yX11_isWithin) (List.mem_of_getElem? (i := 1) rfl)), trivial⟩ (kpS_R hG (hP.subm (ws' := []) [] rfl)) rfl rfl hl.1 rfl (lv_room (Nat.le_of_ble_eq_true rfl)) dX5_isLetter_5 ⟨Nat.le_of_ble_eq_true rfl, Nat.le_of_ble_eq_true rfl⟩) ?_
  obtain ⟨hz3, hf⟩ := bz_some hf
  rw [← hQ, ← Option.some.inj hf]
  exact eR_z hx hb hr hlk hz3 rfl dX5_isLetter_8
set_option maxHeartbeats 4000000 in
set_option maxRecDepth 100000 in
theorem c_X5_canStand (l : Launch) (g : bG) (x0 : Int32) (x1 : Int32) (out : Int32) (hf : f_X5_canStand x0 x1 = some out) : Ri l g yX5_canStand wsX5_canStand ({ frames := 2, cells := 0, slots := 0, locals := 42 } : Room) [.int x0, .int x1] [] out := by
  refine ofR (cc := cX5_canStand) (nL := 2) (ret := some .boolean) (by decide) rfl (Nat.le_of_ble_eq_true rfl) ?_
  intro p e s m below meth c ar hC hP hG ls hl
  have hS : va_S (fun _ => False) s.heap s.heap [] := va_S.rf
  obtain ⟨hx, hb, hml, hown, hts, hr, hlk, -⟩ := hC
  have hl : lv_has ls 2 [(0, .int x0), (1, .int x1)] := hl
  have hK := hG.1
  generalize hQ : MQ below (vp_Si (fun x => x = out)) ar s 0 0 (fun _ => False) = QQ
  unfold f_X5_canStand at hf
  refine lv_iload_n hx hb dX5_canStand_0 rfl (lv_at hl 1 rfl) ?_
  refine lv_if_eq (tgt := 22) hx hb dX5_canStand_1 (by decide) (fun c1 => ?_) (fun c1 => ?_)
  · replace hf := ift c1 hf
    refine lv_iload_n hx hb dX5_canStand_22 rfl (lv_at hl 0 rfl) ?_
    refine lv_bipush (v := 46) hx hb dX5_canStand_23 (by decide) ?_
    refine lv_icmp_eq (tgt := 42) hx hb dX5_canStand_25 (by decide) (fun c2 => ?_) (fun c2 => ?_)
    · replace hf := ift c2 hf
      refine lv_iconst (v := 1) hx hb dX5_canStand_42 (by decide) ?_
      refine lv_goto (tgt := 47) hx hb dX5_canStand_43 (by decide) ?_
      rw [← hQ, ← Option.some.inj hf]
      exact eR_z hx hb hr hlk nb1 rfl dX5_canStand_47
    · replace hf := iff_ c2 hf
      refine lv_iload_n hx hb dX5_canStand_28 rfl (lv_at hl 0 rfl) ?_
      obtain ⟨z3, hq4, hf⟩ := bnd_some hf
      refine kR_i (va_runS (As := [.int x0]) (rest := []) ⟨hx, hb, hml, hown, hts⟩ (c_X9_isThrow l g x0 z3 hq4) (va_cwS 1 hts gX5_canStand_X9_isThrow rfl rfl rfl (by decide +kernel) ⟨Nat.le_of_ble_eq_true rfl, Nat.le_of_ble_eq_true rfl⟩) (kpS_R hG (hP.subm (ws' := []) [] rfl)) rfl rfl hl.1 rfl (lv_room (Nat.le_of_ble_eq_true rfl)) dX5_canStand_29 ⟨Nat.le_of_ble_eq_true rfl, Nat.le_of_ble_eq_true rfl⟩) ?_
      refine lv_if_ne (tgt := 42) hx hb dX5_canStand_32 (by decide) (fun c5 => ?_) (fun c5 => ?_)
      · replace hf := iff_ c5 hf
        refine lv_iconst (v := 1) hx hb dX5_canStand_42 (by decide) ?_
        refine lv_goto (tgt := 47) hx hb dX5_canStand_43 (by decide) ?_
        rw [← hQ, ← Option.some.inj hf]
        exact eR_z hx hb hr hlk nb1 rfl dX5_canStand_47
      · replace hf := ift c5 hf
        refine lv_iload_n hx hb dX5_canStand_35 rfl (lv_at hl 0 rfl) ?_
        obtain ⟨z6, hq7, hf⟩ := bnd_some hf
        refine kR_i (va_runS (As := [.int x0]) (rest := []) ⟨hx, hb, hml, hown, hts⟩ (c_X5_isLetter l g x0 z6 hq7) (va_cwS 1 hts gX5_canStand_X5_isLetter rfl rfl rfl (by decide +kernel) ⟨Nat.le_of_ble_eq_true rfl, Nat.le_of_ble_eq_true rfl⟩) (kpS_R hG (hP.subm (ws' := []) [] rfl)) rfl rfl hl.1 rfl (lv_room (Nat.le_of_ble_eq_true rfl)) dX5_canStand_36 ⟨Nat.le_of_ble_eq_true rfl, Nat.le_of_ble_eq_true rfl⟩) ?_
        refine lv_if_eq (tgt := 46) hx hb dX5_canStand_39 (by decide) (fun c8 => ?_) (fun c8 => ?_)
        · replace hf := ift c8 hf
          refine lv_iconst (v := 0) hx hb dX5_canStand_46 (by decide) ?_
          rw [← hQ, ← Option.some.inj hf]
          exact eR_z hx hb hr hlk nb0 rfl dX5_canStand_47
        · replace hf := iff_ c8 hf
          refine lv_iconst (v := 1) hx hb dX5_canStand_42 (by decide) ?_
          refine lv_goto (tgt := 47) hx hb dX5_canStand_43 (by decide) ?_
          rw [← hQ, ← Option.some.inj hf]
          exact eR_z hx hb hr hlk nb1 rfl dX5_canStand_47
  · replace hf := iff_ c1 hf
    refine lv_iload_n hx hb dX5_canStand_4 rfl (lv_at hl 0 rfl) ?_
    refine lv_bipush (v := 33) hx hb dX5_canStand_5 (by decide) ?_
    refine lv_icmp_eq (tgt := 16) hx hb dX5_canStand_7 (by decide) (fun c9 => ?_) (fun c9 => ?_)
    · replace hf := ift c9 hf
      refine lv_iconst (v := 1) hx hb dX5_canStand_16 (by decide) ?_
      refine lv_goto (tgt := 21) hx hb dX5_canStand_17 (by decide) ?_
      rw [← hQ, ← Option.some.inj hf]
      exact eR_z hx hb hr hlk nb1 rfl dX5_canStand_21
    · replace hf := iff_ c9 hf
      refine lv_iload_n hx hb dX5_canStand_10 rfl (lv_at hl 0 rfl) ?_
      refine lv_bipush (v := 35) hx hb dX5_canStand_11 (by decide) ?_
      refine lv_icmp_ne (tgt := 20) hx hb dX5_canStand_13 (by decide) (fun c10 => ?_) (fun c10 => ?_)
      · replace hf := iff_ c10 hf
        refine lv_iconst (v := 0) hx hb dX5_canStand_20 (by decide) ?_
        rw [← hQ, ← Option.some.inj hf]
        exact eR_z hx hb hr hlk nb0 rfl dX5_canStand_21
      · replace hf := ift c10 hf
        refine lv_iconst (v := 1) hx hb dX5_canStand_16 (by decide) ?_
        refine lv_goto (tgt := 21) hx hb dX5_canStand_17 (by decide) ?_
        rw [← hQ, ← Option.some.inj hf]
        exact eR_z hx hb hr hlk nb1 rfl dX5_canStand_21
set_option maxHeartbeats 4000000 in
set_option maxRecDepth 100000 in
theorem c_X5_firstFault (l : Launch) (g : bG) (k_this : Nat) (k_this_signs : Nat) (v_size : Int32) (v_signs : Nat → Int32) (out : Int32) (hf : f_X5_firstFault v_signs v_size = some out) : Ri l g yX5_firstFault wsX5_firstFault ({ frames := 3, cells := 0, slots := 0, locals := 63 } : Room) [.ref k_this] [(k_this, .inr (3, [.ref k_this_signs, .int v_size])), (k_this_signs, .inl (gI g, 60, .inl v_signs))] out := by
  refine ofR (cc := cX5_firstFault) (nL := 3) (ret := some .int) (by decide) rfl (Nat.le_of_ble_eq_true rfl) ?_
  intro p e s m below meth c ar hC hP hG ls hl
  have hS : va_S (fun _ => False) s.heap s.heap [] := va_S.rf
  obtain ⟨hx, hb, hml, hown, hts, hr, hlk, -⟩ := hC
  have hl : lv_has ls 3 [(0, .ref k_this)] := hl
  have hK := hG.1
  have iX5 : ∀ w ∈ u_ws RX5 TX5 2, w ∈ wsX5_firstFault := fun w h => List.mem_cons_of_mem _ (List.mem_append_right _ (h))
  generalize hQ : MQ below (vp_Si (fun x => x = out)) ar s 0 0 (fun _ => False) = QQ
  have w_4 : ∀ n : Nat, ∀ (x1 : Int32) (x2 : Int32), f_X5_firstFault_b4 v_signs v_size n x1 x2 = some out → ∀ ls : Array Slot, lv_has ls 3 [(0, .ref k_this), (1, .int x1), (2, .int x2)] → W p l e ({ frames := 3, cells := 0, slots := 0, locals := 63 } : Room) s m ar below meth c s.heap [] 0 0 QQ (F0 m 4 ls []) := by
    intro n
    induction n with
    | zero =>
      intro x1 x2 hf
      rw [f_X5_firstFault_b4_z] at hf
      cases hf
    | succ n ih =>
      intro x1 x2 hf ls hl
      rw [f_X5_firstFault_b4_s] at hf
      refine lv_iload_n hx hb dX5_firstFault_4 rfl (lv_at hl 2 rfl) ?_
      refine lv_aload_n hx hb dX5_firstFault_5 rfl (lv_at hl 0 rfl) ?_
      refine va_get (D := gD g) (ci := 3) (v := .int v_size) (C := RX5) (T := TX5) (N := 2) hx hb hts iX5 hown hK hP 0 rfl rfl 1 (by decide) (hts (.fieldLink RX5 15 "BeetleDrive$Pad" "size" "I") (List.mem_of_getElem? (i := 1) rfl)) (fun _ h9 => h9) rfl dX5_firstFault_6 ?_
      refine lv_icmp_ge (tgt := 43) hx hb dX5_firstFault_9 (by decide) (fun c1 => ?_) (fun c1 => ?_)
      · replace hf := ift c1 hf
        refine lv_iload_n hx hb dX5_firstFault_43 rfl (lv_at hl 1 rfl) ?_
        refine lv_if_eq (tgt := 54) hx hb dX5_firstFault_44 (by decide) (fun c2 => ?_) (fun c2 => ?_)
        · replace hf := ift c2 hf
          refine lv_bipush (v := -6) hx hb dX5_firstFault_54 (by decide) ?_
          rw [← hQ, ← Option.some.inj hf]
          exact eR_i hx hb hr hlk rfl dX5_firstFault_56
        · replace hf := iff_ c2 hf
          refine lv_aload_n hx hb dX5_firstFault_47 rfl (lv_at hl 0 rfl) ?_
          refine va_get (D := gD g) (ci := 3) (v := .int v_size) (C := RX5) (T := TX5) (N := 2) hx hb hts iX5 hown hK hP 0 rfl rfl 1 (by decide) (hts (.fieldLink RX5 15 "BeetleDrive$Pad" "size" "I") (List.mem_of_getElem? (i := 1) rfl)) (fun _ h9 => h9) rfl dX5_firstFault_48 ?_
          refine lv_goto (tgt := 56) hx hb dX5_firstFault_51 (by decide) ?_
          rw [← hQ, ← Option.some.inj hf]
          exact eR_i hx hb hr hlk rfl dX5_firstFault_56
      · replace hf := iff_ c1 hf
        refine lv_aload_n hx hb dX5_firstFault_12 rfl (lv_at hl 0 rfl) ?_
        refine va_get (D := gD g) (ci := 3) (v := .ref k_this_signs) (C := RX5) (T := TX5) (N := 2) hx hb hts iX5 hown hK hP 0 rfl rfl 0 (by decide) (hts (.fieldLink RX5 11 "BeetleDrive$Pad" "signs" "[I") (List.mem_of_getElem? (i := 2) rfl)) (fun _ h9 => h9) rfl dX5_firstFault_13 ?_
        refine lv_iload_n hx hb dX5_firstFault_16 rfl (lv_at hl 2 rfl) ?_
        obtain ⟨hi3, hf⟩ := chk_some hf
        refine va_iald hx hb hK hP 1 0 rfl rfl hi3 dX5_firstFault_17 ?_
        refine lv_iload_n hx hb dX5_firstFault_18 rfl (lv_at hl 1 rfl) ?_
        obtain ⟨z4, hq5, hf⟩ := bnd_some hf
        refine kR_i (va_runS (As := [.int (v_signs (Int32.toNatClampNeg x2)), .int x1]) (rest := []) ⟨hx, hb, hml, hown, hts⟩ (c_X5_canStand l g (v_signs (Int32.toNatClampNeg x2)) x1 z4 hq5) (va_cwS 2 hts gX5_firstFault_X5_canStand rfl rfl rfl (by decide +kernel) ⟨Nat.le_of_ble_eq_true rfl, Nat.le_of_ble_eq_true rfl⟩) (kpS_R hG (hP.subm (ws' := []) [] rfl)) rfl rfl hl.1 rfl (lv_room (Nat.le_of_ble_eq_true rfl)) dX5_firstFault_19 ⟨Nat.le_of_ble_eq_true rfl, Nat.le_of_ble_eq_true rfl⟩) ?_
        refine lv_if_ne (tgt := 27) hx hb dX5_firstFault_22 (by decide) (fun c6 => ?_) (fun c6 => ?_)
        · replace hf := iff_ c6 hf
          refine lv_aload_n hx hb dX5_firstFault_27 rfl (lv_at hl 0 rfl) ?_
          refine va_get (D := gD g) (ci := 3) (v := .ref k_this_signs) (C := RX5) (T := TX5) (N := 2) hx hb hts iX5 hown hK hP 0 rfl rfl 0 (by decide) (hts (.fieldLink RX5 11 "BeetleDrive$Pad" "signs" "[I") (List.mem_of_getElem? (i := 2) rfl)) (fun _ h9 => h9) rfl dX5_firstFault_28 ?_
          refine lv_iload_n hx hb dX5_firstFault_31 rfl (lv_at hl 2 rfl) ?_
          obtain ⟨hi7, hf⟩ := chk_some hf
          refine va_iald hx hb hK hP 1 0 rfl rfl hi7 dX5_firstFault_32 ?_
          obtain ⟨z8, hq9, hf⟩ := bnd_some hf
          refine kR_i (va_runS (As := [.int (v_signs (Int32.toNatClampNeg x2))]) (rest := []) ⟨hx, hb, hml, hown, hts⟩ (c_X5_isLetter l g (v_signs (Int32.toNatClampNeg x2)) z8 hq9) (va_cwS 1 hts gX5_firstFault_X5_isLetter rfl rfl rfl (by decide +kernel) ⟨Nat.le_of_ble_eq_true rfl, Nat.le_of_ble_eq_true rfl⟩) (kpS_R hG (hP.subm (ws' := []) [] rfl)) rfl rfl hl.1 rfl (lv_room (Nat.le_of_ble_eq_true rfl)) dX5_firstFault_33 ⟨Nat.le_of_ble_eq_true rfl, Nat.le_of_ble_eq_true rfl⟩) ?_
          refine lv_istore_n (lv' := [(1, .int z8), (0, .ref k_this), (2, .int x2)]) hx hb dX5_firstFault_36 rfl hl (by decide) rfl (fun ls hl => ?_)
          refine lv_iinc (v := (x2 + 1)) (lv' := [(2, .int (x2 + 1)), (1, .int z8), (0, .ref k_this)]) hx hb dX5_firstFault_37 hl (k := 2) rfl rfl (by decide) rfl (fun ls hl => ?_)
          refine lv_goto (tgt := 4) hx hb dX5_firstFault_40 (by decide) ?_
          exact ih z8 (x2 + 1) hf ls (lv_sub hl [2, 1, 0] rfl)
        · replace hf := ift c6 hf
          refine lv_iload_n hx hb dX5_firstFault_25 rfl (lv_at hl 2 rfl) ?_
          rw [← hQ, ← Option.some.inj hf]
          exact eR_i hx hb hr hlk rfl dX5_firstFault_26
  unfold f_X5_firstFault at hf
  refine lv_iconst (v := 0) hx hb dX5_firstFault_0 (by decide) ?_
  refine lv_istore_n (lv' := [(1, .int (0 : Int32)), (0, .ref k_this)]) hx hb dX5_firstFault_1 rfl hl (by decide) rfl (fun ls hl => ?_)
  refine lv_iconst (v := 0) hx hb dX5_firstFault_2 (by decide) ?_
  refine lv_istore_n (lv' := [(2, .int (0 : Int32)), (1, .int (0 : Int32)), (0, .ref k_this)]) hx hb dX5_firstFault_3 rfl hl (by decide) rfl (fun ls hl => ?_)
  exact w_4 FU (0 : Int32) (0 : Int32) hf ls (lv_sub hl [2, 1, 0] rfl)
set_option maxHeartbeats 4000000 in
set_option maxRecDepth 100000 in
theorem c_X4_noteThrow (l : Launch) (g : bG) (k_this : Nat) (k_this_table : Nat) (k_this_table_drawn : Nat) (k_this_table_points : Nat) (v_acts : Int32) (v_why : Int32) (v_vain : Int32) (v_wholeAct : Int32) (v_wholeWho : Int32) (v_table_inBits : Int32) (v_table_holder : Int32) (v_table_game : Int32) (v_table_drawn : Nat → Int32) (x1 : Int32) (out : Int32 × Int32 × Int32) (hf : f_X4_noteThrow v_table_drawn v_table_holder v_acts v_vain v_wholeAct v_wholeWho x1 = some out) : Mv l g yX4_noteThrow wsX4_noteThrow ({ frames := 1, cells := 0, slots := 0, locals := 21 } : Room) [.ref k_this, .int x1] [(k_this, .inr (2, [.ref k_this_table, .int v_acts, .int v_why, .int v_vain, .int v_wholeAct, .int v_wholeWho])), (k_this_table, .inr (7, [.ref k_this_table_drawn, .ref k_this_table_points, .int v_table_inBits, .int v_table_holder, .int v_table_game])), (k_this_table_drawn, .inl (gI g, 6, .inl v_table_drawn))] [(k_this, .inr (2, [.ref k_this_table, .int v_acts, .int v_why, .int out.1, .int out.2.1, .int out.2.2])), (k_this_table, .inr (7, [.ref k_this_table_drawn, .ref k_this_table_points, .int v_table_inBits, .int v_table_holder, .int v_table_game])), (k_this_table_drawn, .inl (gI g, 6, .inl v_table_drawn))] := by
  refine ofM (Qc := fun A => Qv g [(k_this, .inr (2, [.ref k_this_table, .int v_acts, .int v_why, .int out.1, .int out.2.1, .int out.2.2])), (k_this_table, .inr (7, [.ref k_this_table_drawn, .ref k_this_table_points, .int v_table_inBits, .int v_table_holder, .int v_table_game])), (k_this_table_drawn, .inl (gI g, 6, .inl v_table_drawn))] A) (cc := cX4_noteThrow) (nL := 2) (ret := none) (by decide) rfl (Nat.le_of_ble_eq_true rfl) ?_
  intro p e s m below meth c ar A hC hA hP hD hG ls hl
  have hS : va_S A s.heap s.heap [] := va_S.rf
  obtain ⟨hx, hb, hml, hown, hts, hr, hlk, -⟩ := hC
  have hl : lv_has ls 2 [(0, .ref k_this), (1, .int x1)] := hl
  have hK := hG.1
  have iX4 : ∀ w ∈ u_ws RX4 TX4 6, w ∈ wsX4_noteThrow := fun w h => List.mem_cons_of_mem _ (List.mem_append_left _ (List.mem_append_right _ (h)))
  have iX9 : ∀ w ∈ u_ws RX9 TX9 5, w ∈ wsX4_noteThrow := fun w h => List.mem_cons_of_mem _ (List.mem_append_right _ (h))
  generalize hQ : MQ below (Qv g [(k_this, .inr (2, [.ref k_this_table, .int v_acts, .int v_why, .int out.1, .int out.2.1, .int out.2.2])), (k_this_table, .inr (7, [.ref k_this_table_drawn, .ref k_this_table_points, .int v_table_inBits, .int v_table_holder, .int v_table_game])), (k_this_table_drawn, .inl (gI g, 6, .inl v_table_drawn))] A) ar s 0 0 A = QQ
  unfold f_X4_noteThrow at hf
  refine lv_iload_n hx hb dX4_noteThrow_0 rfl (lv_at hl 1 rfl) ?_
  refine lv_if_ne (tgt := 17) hx hb dX4_noteThrow_1 (by decide) (fun c1 => ?_) (fun c1 => ?_)
  · replace hf := iff_ c1 hf
    refine lv_aload_n hx hb dX4_noteThrow_17 rfl (lv_at hl 0 rfl) ?_
    refine va_get (D := gD g) (ci := 2) (v := .int v_wholeAct) (C := RX4) (T := TX4) (N := 6) hx hb hts iX4 hown hK hP 0 rfl rfl 4 (by decide) (hts (.fieldLink RX4 61 "BeetleDrive$Match" "wholeAct" "I") (List.mem_of_getElem? (i := 2) rfl)) (fun _ h9 => h9) rfl dX4_noteThrow_18 ?_
    refine lv_bipush (v := -6) hx hb dX4_noteThrow_21 (by decide) ?_
    refine lv_icmp_ne (tgt := 62) hx hb dX4_noteThrow_23 (by decide) (fun c2 => ?_) (fun c2 => ?_)
    · replace hf := iff_ c2 hf
      rw [← hQ, ← Option.some.inj hf]
      exact eM_v hx hb hr hlk hP hD hS dX4_noteThrow_62
    · replace hf := ift c2 hf
      refine lv_aload_n hx hb dX4_noteThrow_26 rfl (lv_at hl 0 rfl) ?_
      refine va_get (D := gD g) (ci := 2) (v := .ref k_this_table) (C := RX4) (T := TX4) (N := 6) hx hb hts iX4 hown hK hP 0 rfl rfl 0 (by decide) (hts (.fieldLink RX4 12 "BeetleDrive$Match" "table" "LBeetleDrive$Table;") (List.mem_of_getElem? (i := 3) rfl)) (fun _ h9 => h9) rfl dX4_noteThrow_27 ?_
      refine lv_aload_n hx hb dX4_noteThrow_30 rfl (lv_at hl 0 rfl) ?_
      refine va_get (D := gD g) (ci := 2) (v := .ref k_this_table) (C := RX4) (T := TX4) (N := 6) hx hb hts iX4 hown hK hP 0 rfl rfl 0 (by decide) (hts (.fieldLink RX4 12 "BeetleDrive$Match" "table" "LBeetleDrive$Table;") (List.mem_of_getElem? (i := 3) rfl)) (fun _ h9 => h9) rfl dX4_noteThrow_31 ?_
      refine va_getN (D := gD g) (ci := 7) (v := .int v_table_holder) (C := RX9) (T := TX9) (N := 5) hx hb hts iX9 hown hK hP 1 rfl rfl 3 (by decide) (hG.nf 3 rfl) (fun _ h9 => h9) rfl dX4_noteThrow_34 ?_
      obtain ⟨z3, hq4, hf⟩ := bnd_some hf
      refine kR_i (va_runV (As := [.int v_table_holder]) (rest := []) ⟨hx, hb, hml, hown, hts⟩ (c_X9_isWhole l g k_this_table k_this_table_drawn k_this_table_points v_table_inBits v_table_holder v_table_game v_table_drawn v_table_holder z3 hq4) (cwV 1 hts gX4_noteThrow_X9_isWhole rfl rfl rfl (by decide +kernel) ⟨Nat.le_of_ble_eq_true rfl, Nat.le_of_ble_eq_true rfl⟩) (kpV_R (q0 := 0) (ci := 7) (hG.now hS) (hP.subm (ws' := [(k_this_table, .inr (7, [.ref k_this_table_drawn, .ref k_this_table_points, .int v_table_inBits, .int v_table_holder, .int v_table_game])), (k_this_table_drawn, .inl (gI g, 6, .inl v_table_drawn))]) [1, 2] rfl) rfl rfl) rfl rfl hl.1 rfl (lv_room (Nat.le_of_ble_eq_true rfl)) dX4_noteThrow_37 ⟨Nat.le_of_ble_eq_true rfl, Nat.le_of_ble_eq_true rfl⟩) ?_
      refine lv_if_eq (tgt := 62) hx hb dX4_noteThrow_40 (by decide) (fun c5 => ?_) (fun c5 => ?_)
      · replace hf := ift c5 hf
        rw [← hQ, ← Option.some.inj hf]
        exact eM_v hx hb hr hlk hP hD hS dX4_noteThrow_62
      · replace hf := iff_ c5 hf
        refine lv_aload_n hx hb dX4_noteThrow_43 rfl (lv_at hl 0 rfl) ?_
        refine lv_aload_n hx hb dX4_noteThrow_44 rfl (lv_at hl 0 rfl) ?_
        refine va_get (D := gD g) (ci := 2) (v := .int v_acts) (C := RX4) (T := TX4) (N := 6) hx hb hts iX4 hown hK hP 0 rfl rfl 1 (by decide) (hts (.fieldLink RX4 55 "BeetleDrive$Match" "acts" "I") (List.mem_of_getElem? (i := 4) rfl)) (fun _ h9 => h9) rfl dX4_noteThrow_45 ?_
        refine va_put (D := gD g) (ci := 2) (v := .int v_acts) (ty := .int) (C := RX4) (T := TX4) (N := 6) hx hb hts iX4 tyX4 tyX4_ok nmX4 hown hK hP hD hS 0 rfl rfl 4 (by decide) (hts (.fieldLink RX4 61 "BeetleDrive$Match" "wholeAct" "I") (List.mem_of_getElem? (i := 2) rfl)) (fun _ h9 => h9) rfl (tyX4_ok 4 (by decide)) rfl rfl (Nat.le_of_ble_eq_true rfl) dX4_noteThrow_48 (fun H locs hP hD hS => ?_)
        have hP : va_P (gD g) vwCl [(k_this, .inr (2, [.ref k_this_table, .int v_acts, .int v_why, .int v_vain, .int v_acts, .int v_wholeWho])), (k_this_table, .inr (7, [.ref k_this_table_drawn, .ref k_this_table_points, .int v_table_inBits, .int v_table_holder, .int v_table_game])), (k_this_table_drawn, .inl (gI g, 6, .inl v_table_drawn))] H := hP
        have hD : va_D A [(k_this, .inr (2, [.ref k_this_table, .int v_acts, .int v_why, .int v_vain, .int v_acts, .int v_wholeWho])), (k_this_table, .inr (7, [.ref k_this_table_drawn, .ref k_this_table_points, .int v_table_inBits, .int v_table_holder, .int v_table_game])), (k_this_table_drawn, .inl (gI g, 6, .inl v_table_drawn))] := hD
        refine lv_aload_n hx hb dX4_noteThrow_51 rfl (lv_at hl 0 rfl) ?_
        refine lv_aload_n hx hb dX4_noteThrow_52 rfl (lv_at hl 0 rfl) ?_
        refine va_get (D := gD g) (ci := 2) (v := .ref k_this_table) (C := RX4) (T := TX4) (N := 6) hx hb hts iX4 hown hK hP 0 rfl rfl 0 (by decide) (hts (.fieldLink RX4 12 "BeetleDrive$Match" "table" "LBeetleDrive$Table;") (List.mem_of_getElem? (i := 3) rfl)) (fun _ h9 => h9) rfl dX4_noteThrow_53 ?_
        refine va_getN (D := gD g) (ci := 7) (v := .int v_table_holder) (C := RX9) (T := TX9) (N := 5) hx hb hts iX9 hown hK hP 1 rfl rfl 3 (by decide) (hG.nf 3 rfl) (fun _ h9 => h9) rfl dX4_noteThrow_56 ?_
        refine va_put (D := gD g) (ci := 2) (v := .int v_table_holder) (ty := .int) (C := RX4) (T := TX4) (N := 6) hx hb hts iX4 tyX4 tyX4_ok nmX4 hown hK hP hD hS 0 rfl rfl 5 (by decide) (hts (.fieldLink RX4 64 "BeetleDrive$Match" "wholeWho" "I") (List.mem_of_getElem? (i := 5) rfl)) (fun _ h9 => h9) rfl (tyX4_ok 5 (by decide)) rfl rfl (Nat.le_of_ble_eq_true rfl) dX4_noteThrow_59 (fun H locs hP hD hS => ?_)
        have hP : va_P (gD g) vwCl [(k_this, .inr (2, [.ref k_this_table, .int v_acts, .int v_why, .int v_vain, .int v_acts, .int v_table_holder])), (k_this_table, .inr (7, [.ref k_this_table_drawn, .ref k_this_table_points, .int v_table_inBits, .int v_table_holder, .int v_table_game])), (k_this_table_drawn, .inl (gI g, 6, .inl v_table_drawn))] H := hP
        have hD : va_D A [(k_this, .inr (2, [.ref k_this_table, .int v_acts, .int v_why, .int v_vain, .int v_acts, .int v_table_holder])), (k_this_table, .inr (7, [.ref k_this_table_drawn, .ref k_this_table_points, .int v_table_inBits, .int v_table_holder, .int v_table_game])), (k_this_table_drawn, .inl (gI g, 6, .inl v_table_drawn))] := hD
        rw [← hQ, ← Option.some.inj hf]
        exact eM_v hx hb hr hlk hP hD hS dX4_noteThrow_62
  · replace hf := ift c1 hf
    refine lv_aload_n hx hb dX4_noteThrow_4 rfl (lv_at hl 0 rfl) ?_
    refine lv_dup hx hb dX4_noteThrow_5 rfl ?_
    refine va_get (D := gD g) (ci := 2) (v := .int v_vain) (C := RX4) (T := TX4) (N := 6) hx hb hts iX4 hown hK hP 0 rfl rfl 3 (by decide) (hts (.fieldLink RX4 58 "BeetleDrive$Match" "vain" "I") (List.mem_of_getElem? (i := 1) rfl)) (fun _ h9 => h9) rfl dX4_noteThrow_6 ?_
    refine lv_iconst (v := 1) hx hb dX4_noteThrow_9 (by decide) ?_
    refine lv_iadd hx hb dX4_noteThrow_10 ?_
    refine va_put (D := gD g) (ci := 2) (v := .int (v_vain + (1 : Int32))) (ty := .int) (C := RX4) (T := TX4) (N := 6) hx hb hts iX4 tyX4 tyX4_ok nmX4 hown hK hP hD hS 0 rfl rfl 3 (by decide) (hts (.fieldLink RX4 58 "BeetleDrive$Match" "vain" "I") (List.mem_of_getElem? (i := 1) rfl)) (fun _ h9 => h9) rfl (tyX4_ok 3 (by decide)) rfl rfl (Nat.le_of_ble_eq_true rfl) dX4_noteThrow_11 (fun H locs hP hD hS => ?_)
    have hP : va_P (gD g) vwCl [(k_this, .inr (2, [.ref k_this_table, .int v_acts, .int v_why, .int (v_vain + (1 : Int32)), .int v_wholeAct, .int v_wholeWho])), (k_this_table, .inr (7, [.ref k_this_table_drawn, .ref k_this_table_points, .int v_table_inBits, .int v_table_holder, .int v_table_game])), (k_this_table_drawn, .inl (gI g, 6, .inl v_table_drawn))] H := hP
    have hD : va_D A [(k_this, .inr (2, [.ref k_this_table, .int v_acts, .int v_why, .int (v_vain + (1 : Int32)), .int v_wholeAct, .int v_wholeWho])), (k_this_table, .inr (7, [.ref k_this_table_drawn, .ref k_this_table_points, .int v_table_inBits, .int v_table_holder, .int v_table_game])), (k_this_table_drawn, .inl (gI g, 6, .inl v_table_drawn))] := hD
    refine lv_goto (tgt := 62) hx hb dX4_noteThrow_14 (by decide) ?_
    rw [← hQ, ← Option.some.inj hf]
    exact eM_v hx hb hr hlk hP hD hS dX4_noteThrow_62
set_option maxHeartbeats 4000000 in
set_option maxRecDepth 100000 in
theorem c_X4_play (l : Launch) (g : bG) (k_this : Nat) (k_this_table : Nat) (k_this_table_drawn : Nat) (k_this_table_points : Nat) (v_acts : Int32) (v_why : Int32) (v_vain : Int32) (v_wholeAct : Int32) (v_wholeWho : Int32) (v_table_inBits : Int32) (v_table_holder : Int32) (v_table_game : Int32) (v_table_drawn : Nat → Int32) (v_table_points : Nat → Int32) (x1 : Int32) (x2 : Int32) (out : (Nat → Int32) × (Nat → Int32) × Int32 × Int32 × Int32 × Int32 × Int32 × Int32 × Int32 × Int32) (hf : f_X4_play v_table_drawn v_table_points v_table_inBits v_table_holder v_table_game v_acts v_why v_vain v_wholeAct v_wholeWho x1 x2 = some out) : Mv l g yX4_play wsX4_play ({ frames := 4, cells := 0, slots := 0, locals := 87 } : Room) [.ref k_this, .int x1, .int x2] [(k_this, .inr (2, [.ref k_this_table, .int v_acts, .int v_why, .int v_vain, .int v_wholeAct, .int v_wholeWho])), (k_this_table, .inr (7, [.ref k_this_table_drawn, .ref k_this_table_points, .int v_table_inBits, .int v_table_holder, .int v_table_game])), (k_this_table_drawn, .inl (gI g, 6, .inl v_table_drawn)), (k_this_table_points, .inl (gI g, 6, .inl v_table_points))] [(k_this, .inr (2, [.ref k_this_table, .int out.2.2.2.2.2.1, .int out.2.2.2.2.2.2.1, .int out.2.2.2.2.2.2.2.1, .int out.2.2.2.2.2.2.2.2.1, .int out.2.2.2.2.2.2.2.2.2])), (k_this_table, .inr (7, [.ref k_this_table_drawn, .ref k_this_table_points, .int out.2.2.1, .int out.2.2.2.1, .int out.2.2.2.2.1])), (k_this_table_drawn, .inl (gI g, 6, .inl out.1)), (k_this_table_points, .inl (gI g, 6, .inl out.2.1))] := by
  refine ofM (Qc := fun A => Qv g [(k_this, .inr (2, [.ref k_this_table, .int out.2.2.2.2.2.1, .int out.2.2.2.2.2.2.1, .int out.2.2.2.2.2.2.2.1, .int out.2.2.2.2.2.2.2.2.1, .int out.2.2.2.2.2.2.2.2.2])), (k_this_table, .inr (7, [.ref k_this_table_drawn, .ref k_this_table_points, .int out.2.2.1, .int out.2.2.2.1, .int out.2.2.2.2.1])), (k_this_table_drawn, .inl (gI g, 6, .inl out.1)), (k_this_table_points, .inl (gI g, 6, .inl out.2.1))] A) (cc := cX4_play) (nL := 3) (ret := none) (by decide) rfl (Nat.le_of_ble_eq_true rfl) ?_
  intro p e s m below meth c ar A hC hA hP hD hG ls hl
  have hS : va_S A s.heap s.heap [] := va_S.rf
  obtain ⟨hx, hb, hml, hown, hts, hr, hlk, -⟩ := hC
  have hl : lv_has ls 3 [(0, .ref k_this), (1, .int x1), (2, .int x2)] := hl
  have hK := hG.1
  have iX4 : ∀ w ∈ u_ws RX4 TX4 6, w ∈ wsX4_play := fun w h => List.mem_cons_of_mem _ (List.mem_append_left _ (List.mem_append_right _ (h)))
  generalize hQ : MQ below (Qv g [(k_this, .inr (2, [.ref k_this_table, .int out.2.2.2.2.2.1, .int out.2.2.2.2.2.2.1, .int out.2.2.2.2.2.2.2.1, .int out.2.2.2.2.2.2.2.2.1, .int out.2.2.2.2.2.2.2.2.2])), (k_this_table, .inr (7, [.ref k_this_table_drawn, .ref k_this_table_points, .int out.2.2.1, .int out.2.2.2.1, .int out.2.2.2.2.1])), (k_this_table_drawn, .inl (gI g, 6, .inl out.1)), (k_this_table_points, .inl (gI g, 6, .inl out.2.1))] A) ar s 0 0 A = QQ
  unfold f_X4_play at hf
  refine lv_aload_n hx hb dX4_play_0 rfl (lv_at hl 0 rfl) ?_
  refine lv_aload_n hx hb dX4_play_1 rfl (lv_at hl 0 rfl) ?_
  refine va_get (D := gD g) (ci := 2) (v := .ref k_this_table) (C := RX4) (T := TX4) (N := 6) hx hb hts iX4 hown hK hP 0 rfl rfl 0 (by decide) (hts (.fieldLink RX4 12 "BeetleDrive$Match" "table" "LBeetleDrive$Table;") (List.mem_of_getElem? (i := 1) rfl)) (fun _ h9 => h9) rfl dX4_play_2 ?_
  refine lv_iload_n hx hb dX4_play_5 rfl (lv_at hl 1 rfl) ?_
  refine lv_iload_n hx hb dX4_play_6 rfl (lv_at hl 2 rfl) ?_
  obtain ⟨z1, hq2, hf⟩ := bnd_some hf
  refine kR_i (va_runV (As := [.int x1, .int x2]) (rest := [.ref k_this]) ⟨hx, hb, hml, hown, hts⟩ (c_X9_whyNot l g k_this_table k_this_table_drawn k_this_table_points v_table_inBits v_table_holder v_table_game v_table_drawn x1 x2 z1 hq2) (cwV 2 hts gX4_play_X9_whyNot rfl rfl rfl (by decide +kernel) ⟨Nat.le_of_ble_eq_true rfl, Nat.le_of_ble_eq_true rfl⟩) (kpV_R (q0 := 0) (ci := 7) (hG.now hS) (hP.subm (ws' := [(k_this_table, .inr (7, [.ref k_this_table_drawn, .ref k_this_table_points, .int v_table_inBits, .int v_table_holder, .int v_table_game])), (k_this_table_drawn, .inl (gI g, 6, .inl v_table_drawn))]) [1, 2] rfl) rfl rfl) rfl rfl hl.1 rfl (lv_room (Nat.le_of_ble_eq_true rfl)) dX4_play_7 ⟨Nat.le_of_ble_eq_true rfl, Nat.le_of_ble_eq_true rfl⟩) ?_
  refine va_put (D := gD g) (ci := 2) (v := .int z1) (ty := .int) (C := RX4) (T := TX4) (N := 6) hx hb hts iX4 tyX4 tyX4_ok nmX4 hown hK hP hD hS 0 rfl rfl 2 (by decide) (hts (.fieldLink RX4 32 "BeetleDrive$Match" "why" "I") (List.mem_of_getElem? (i := 2) rfl)) (fun _ h9 => h9) rfl (tyX4_ok 2 (by decide)) rfl rfl (Nat.le_of_ble_eq_true rfl) dX4_play_10 (fun H locs hP hD hS => ?_)
  have hP : va_P (gD g) vwCl [(k_this, .inr (2, [.ref k_this_table, .int v_acts, .int z1, .int v_vain, .int v_wholeAct, .int v_wholeWho])), (k_this_table, .inr (7, [.ref k_this_table_drawn, .ref k_this_table_points, .int v_table_inBits, .int v_table_holder, .int v_table_game])), (k_this_table_drawn, .inl (gI g, 6, .inl v_table_drawn)), (k_this_table_points, .inl (gI g, 6, .inl v_table_points))] H := hP
  have hD : va_D A [(k_this, .inr (2, [.ref k_this_table, .int v_acts, .int z1, .int v_vain, .int v_wholeAct, .int v_wholeWho])), (k_this_table, .inr (7, [.ref k_this_table_drawn, .ref k_this_table_points, .int v_table_inBits, .int v_table_holder, .int v_table_game])), (k_this_table_drawn, .inl (gI g, 6, .inl v_table_drawn)), (k_this_table_points, .inl (gI g, 6, .inl v_table_points))] := hD
  refine lv_aload_n hx hb dX4_play_13 rfl (lv_at hl 0 rfl) ?_
  refine va_get (D := gD g) (ci := 2) (v := .int z1) (C := RX4) (T := TX4) (N := 6) hx hb hts iX4 hown hK hP 0 rfl rfl 2 (by decide) (hts (.fieldLink RX4 32 "BeetleDrive$Match" "why" "I") (List.mem_of_getElem? (i := 2) rfl)) (fun _ h9 => h9) rfl dX4_play_14 ?_
  refine lv_if_eq (tgt := 21) hx hb dX4_play_17 (by decide) (fun c3 => ?_) (fun c3 => ?_)
  · replace hf := ift c3 hf
    refine lv_iload_n hx hb dX4_play_21 rfl (lv_at hl 1 rfl) ?_
    refine lv_bipush (v := 33) hx hb dX4_play_22 (by decide) ?_
    refine lv_icmp_ne (tgt := 38) hx hb dX4_play_24 (by decide) (fun c4 => ?_) (fun c4 => ?_)
    · replace hf := iff_ c4 hf
      refine lv_iload_n hx hb dX4_play_38 rfl (lv_at hl 1 rfl) ?_
      refine lv_bipush (v := 35) hx hb dX4_play_39 (by decide) ?_
      refine lv_icmp_ne (tgt := 55) hx hb dX4_play_41 (by decide) (fun c5 => ?_) (fun c5 => ?_)
      · replace hf := iff_ c5 hf
        refine lv_iload_n hx hb dX4_play_55 rfl (lv_at hl 1 rfl) ?_
        refine lv_bipush (v := 46) hx hb dX4_play_56 (by decide) ?_
        refine lv_icmp_ne (tgt := 71) hx hb dX4_play_58 (by decide) (fun c6 => ?_) (fun c6 => ?_)
        · replace hf := iff_ c6 hf
          refine lv_aload_n hx hb dX4_play_71 rfl (lv_at hl 0 rfl) ?_
          refine lv_aload_n hx hb dX4_play_72 rfl (lv_at hl 0 rfl) ?_
          refine va_get (D := gD g) (ci := 2) (v := .ref k_this_table) (C := RX4) (T := TX4) (N := 6) hx hb hts iX4 hown hK hP 0 rfl rfl 0 (by decide) (hts (.fieldLink RX4 12 "BeetleDrive$Match" "table" "LBeetleDrive$Table;") (List.mem_of_getElem? (i := 1) rfl)) (fun _ h9 => h9) rfl dX4_play_73 ?_
          refine lv_iload_n hx hb dX4_play_76 rfl (lv_at hl 1 rfl) ?_
          refine lv_bipush (v := 49) hx hb dX4_play_77 (by decide) ?_
          refine lv_isub hx hb dX4_play_79 ?_
          refine lv_iconst (v := 1) hx hb dX4_play_80 (by decide) ?_
          refine lv_iadd hx hb dX4_play_81 ?_
          obtain ⟨z7, hq8, hf⟩ := bnd_some hf
          refine kM_i (wc := [(k_this_table, .inr (7, [.ref k_this_table_drawn, .ref k_this_table_points, .int v_table_inBits, .int v_table_holder, .int v_table_game])), (k_this_table_drawn, .inl (gI g, 6, .inl v_table_drawn))]) (wr := [(k_this, .inr (2, [.ref k_this_table, .int v_acts, .int z1, .int v_vain, .int v_wholeAct, .int v_wholeWho])), (k_this_table_points, .inl (gI g, 6, .inl v_table_points))]) (w1 := [(k_this_table, .inr (7, [.ref k_this_table_drawn, .ref k_this_table_points, .int v_table_inBits, .int z7.2.2, .int v_table_game])), (k_this_table_drawn, .inl (gI g, 6, .inl z7.2.1))]) (w2 := [(k_this, .inr (2, [.ref k_this_table, .int v_acts, .int z1, .int v_vain, .int v_wholeAct, .int v_wholeWho])), (k_this_table, .inr (7, [.ref k_this_table_drawn, .ref k_this_table_points, .int v_table_inBits, .int z7.2.2, .int v_table_game])), (k_this_table_drawn, .inl (gI g, 6, .inl z7.2.1)), (k_this_table_points, .inl (gI g, 6, .inl v_table_points))]) (va_runV (As := [.int ((x1 - (49 : Int32)) + (1 : Int32))]) (rest := [.ref k_this]) ⟨hx, hb, hml, hown, hts⟩ (c_X9_drawBy l g k_this_table k_this_table_drawn k_this_table_points v_table_inBits v_table_holder v_table_game v_table_drawn ((x1 - (49 : Int32)) + (1 : Int32)) z7 hq8 H.size) (cwV 1 hts gX4_play_X9_drawBy rfl rfl rfl (by decide +kernel) ⟨Nat.le_of_ble_eq_true rfl, Nat.le_of_ble_eq_true rfl⟩) (kpV_M (q0 := 0) (ci := 7) hG hS hP hD hA [1, 2] rfl (by decide) rfl rfl) rfl rfl hl.1 rfl (lv_room (Nat.le_of_ble_eq_true rfl)) dX4_play_82 ⟨Nat.le_of_ble_eq_true rfl, Nat.le_of_ble_eq_true rfl⟩) hP hD hS hA [1, 2] [0, 3] [0, 2, 3, 1] rfl rfl (by decide) (by decide) rfl (by decide) (fun H locs hP hD hS => ?_)
          obtain ⟨z9, hq10, hf⟩ := bnd_some hf
          refine kM_v (wc := [(k_this, .inr (2, [.ref k_this_table, .int v_acts, .int z1, .int v_vain, .int v_wholeAct, .int v_wholeWho])), (k_this_table, .inr (7, [.ref k_this_table_drawn, .ref k_this_table_points, .int v_table_inBits, .int z7.2.2, .int v_table_game])), (k_this_table_drawn, .inl (gI g, 6, .inl z7.2.1))]) (wr := [(k_this_table_points, .inl (gI g, 6, .inl v_table_points))]) (w1 := [(k_this, .inr (2, [.ref k_this_table, .int v_acts, .int z1, .int z9.1, .int z9.2.1, .int z9.2.2])), (k_this_table, .inr (7, [.ref k_this_table_drawn, .ref k_this_table_points, .int v_table_inBits, .int z7.2.2, .int v_table_game])), (k_this_table_drawn, .inl (gI g, 6, .inl z7.2.1))]) (w2 := [(k_this, .inr (2, [.ref k_this_table, .int v_acts, .int z1, .int z9.1, .int z9.2.1, .int z9.2.2])), (k_this_table, .inr (7, [.ref k_this_table_drawn, .ref k_this_table_points, .int v_table_inBits, .int z7.2.2, .int v_table_game])), (k_this_table_drawn, .inl (gI g, 6, .inl z7.2.1)), (k_this_table_points, .inl (gI g, 6, .inl v_table_points))]) (va_runV (As := [.int z7.1]) (rest := []) ⟨hx, hb, hml, hown, hts⟩ (c_X4_noteThrow l g k_this k_this_table k_this_table_drawn k_this_table_points v_acts z1 v_vain v_wholeAct v_wholeWho v_table_inBits z7.2.2 v_table_game z7.2.1 z7.1 z9 hq10 H.size) (cwV 1 hts gX4_play_X4_noteThrow rfl rfl rfl (by decide +kernel) ⟨Nat.le_of_ble_eq_true rfl, Nat.le_of_ble_eq_true rfl⟩) (kpV_M (q0 := 0) (ci := 2) hG hS hP hD hA [0, 1, 2] rfl (by decide) rfl rfl) rfl rfl hl.1 rfl (lv_room (Nat.le_of_ble_eq_true rfl)) dX4_play_85 ⟨Nat.le_of_ble_eq_true rfl, Nat.le_of_ble_eq_true rfl⟩) hP hD hS hA [0, 1, 2] [3] [1, 2, 3, 0] rfl rfl (by decide) (by decide) rfl (by decide) (fun H locs hP hD hS => ?_)
          refine lv_aload_n hx hb dX4_play_88 rfl (lv_at hl 0 rfl) ?_
          refine lv_dup hx hb dX4_play_89 rfl ?_
          refine va_get (D := gD g) (ci := 2) (v := .int v_acts) (C := RX4) (T := TX4) (N := 6) hx hb hts iX4 hown hK hP 0 rfl rfl 1 (by decide) (hts (.fieldLink RX4 55 "BeetleDrive$Match" "acts" "I") (List.mem_of_getElem? (i := 3) rfl)) (fun _ h9 => h9) rfl dX4_play_90 ?_
          refine lv_iconst (v := 1) hx hb dX4_play_93 (by decide) ?_
          refine lv_iadd hx hb dX4_play_94 ?_
          refine va_put (D := gD g) (ci := 2) (v := .int (v_acts + (1 : Int32))) (ty := .int) (C := RX4) (T := TX4) (N := 6) hx hb hts iX4 tyX4 tyX4_ok nmX4 hown hK hP hD hS 0 rfl rfl 1 (by decide) (hts (.fieldLink RX4 55 "BeetleDrive$Match" "acts" "I") (List.mem_of_getElem? (i := 3) rfl)) (fun _ h9 => h9) rfl (tyX4_ok 1 (by decide)) rfl rfl (Nat.le_of_ble_eq_true rfl) dX4_play_95 (fun H locs hP hD hS => ?_)
          have hP : va_P (gD g) vwCl [(k_this, .inr (2, [.ref k_this_table, .int (v_acts + (1 : Int32)), .int z1, .int z9.1, .int z9.2.1, .int z9.2.2])), (k_this_table, .inr (7, [.ref k_this_table_drawn, .ref k_this_table_points, .int v_table_inBits, .int z7.2.2, .int v_table_game])), (k_this_table_drawn, .inl (gI g, 6, .inl z7.2.1)), (k_this_table_points, .inl (gI g, 6, .inl v_table_points))] H := hP
          have hD : va_D A [(k_this, .inr (2, [.ref k_this_table, .int (v_acts + (1 : Int32)), .int z1, .int z9.1, .int z9.2.1, .int z9.2.2])), (k_this_table, .inr (7, [.ref k_this_table_drawn, .ref k_this_table_points, .int v_table_inBits, .int z7.2.2, .int v_table_game])), (k_this_table_drawn, .inl (gI g, 6, .inl z7.2.1)), (k_this_table_points, .inl (gI g, 6, .inl v_table_points))] := hD
          rw [← hQ, ← Option.some.inj hf]
          exact eM_v hx hb hr hlk hP hD hS dX4_play_98
        · replace hf := ift c6 hf
          refine lv_aload_n hx hb dX4_play_61 rfl (lv_at hl 0 rfl) ?_
          refine va_get (D := gD g) (ci := 2) (v := .ref k_this_table) (C := RX4) (T := TX4) (N := 6) hx hb hts iX4 hown hK hP 0 rfl rfl 0 (by decide) (hts (.fieldLink RX4 12 "BeetleDrive$Match" "table" "LBeetleDrive$Table;") (List.mem_of_getElem? (i := 1) rfl)) (fun _ h9 => h9) rfl dX4_play_62 ?_
          obtain ⟨z11, hq12, hf⟩ := bnd_some hf
          refine kM_v (wc := [(k_this_table, .inr (7, [.ref k_this_table_drawn, .ref k_this_table_points, .int v_table_inBits, .int v_table_holder, .int v_table_game]))]) (wr := [(k_this, .inr (2, [.ref k_this_table, .int v_acts, .int z1, .int v_vain, .int v_wholeAct, .int v_wholeWho])), (k_this_table_drawn, .inl (gI g, 6, .inl v_table_drawn)), (k_this_table_points, .inl (gI g, 6, .inl v_table_points))]) (w1 := [(k_this_table, .inr (7, [.ref k_this_table_drawn, .ref k_this_table_points, .int v_table_inBits, .int z11, .int v_table_game]))]) (w2 := [(k_this, .inr (2, [.ref k_this_table, .int v_acts, .int z1, .int v_vain, .int v_wholeAct, .int v_wholeWho])), (k_this_table, .inr (7, [.ref k_this_table_drawn, .ref k_this_table_points, .int v_table_inBits, .int z11, .int v_table_game])), (k_this_table_drawn, .inl (gI g, 6, .inl v_table_drawn)), (k_this_table_points, .inl (gI g, 6, .inl v_table_points))]) (va_runV (As := []) (rest := []) ⟨hx, hb, hml, hown, hts⟩ (c_X9_passOn l g k_this_table k_this_table_drawn k_this_table_points v_table_inBits v_table_holder v_table_game z11 hq12 H.size) (cwV 0 hts gX4_play_X9_passOn rfl rfl rfl (by decide +kernel) ⟨Nat.le_of_ble_eq_true rfl, Nat.le_of_ble_eq_true rfl⟩) (kpV_M (q0 := 0) (ci := 7) hG hS hP hD hA [1] rfl (by decide) rfl rfl) rfl rfl hl.1 rfl (lv_room (Nat.le_of_ble_eq_true rfl)) dX4_play_65 ⟨Nat.le_of_ble_eq_true rfl, Nat.le_of_ble_eq_true rfl⟩) hP hD hS hA [1] [0, 2, 3] [0, 3, 1, 2] rfl rfl (by decide) (by decide) rfl (by decide) (fun H locs hP hD hS => ?_)
          refine lv_goto (tgt := 88) hx hb dX4_play_68 (by decide) ?_
          refine lv_aload_n hx hb dX4_play_88 rfl (lv_at hl 0 rfl) ?_
          refine lv_dup hx hb dX4_play_89 rfl ?_
          refine va_get (D := gD g) (ci := 2) (v := .int v_acts) (C := RX4) (T := TX4) (N := 6) hx hb hts iX4 hown hK hP 0 rfl rfl 1 (by decide) (hts (.fieldLink RX4 55 "BeetleDrive$Match" "acts" "I") (List.mem_of_getElem? (i := 3) rfl)) (fun _ h9 => h9) rfl dX4_play_90 ?_
          refine lv_iconst (v := 1) hx hb dX4_play_93 (by decide) ?_
          refine lv_iadd hx hb dX4_play_94 ?_
          refine va_put (D := gD g) (ci := 2) (v := .int (v_acts + (1 : Int32))) (ty := .int) (C := RX4) (T := TX4) (N := 6) hx hb hts iX4 tyX4 tyX4_ok nmX4 hown hK hP hD hS 0 rfl rfl 1 (by decide) (hts (.fieldLink RX4 55 "BeetleDrive$Match" "acts" "I") (List.mem_of_getElem? (i := 3) rfl)) (fun _ h9 => h9) rfl (tyX4_ok 1 (by decide)) rfl rfl (Nat.le_of_ble_eq_true rfl) dX4_play_95 (fun H locs hP hD hS => ?_)
          have hP : va_P (gD g) vwCl [(k_this, .inr (2, [.ref k_this_table, .int (v_acts + (1 : Int32)), .int z1, .int v_vain, .int v_wholeAct, .int v_wholeWho])), (k_this_table, .inr (7, [.ref k_this_table_drawn, .ref k_this_table_points, .int v_table_inBits, .int z11, .int v_table_game])), (k_this_table_drawn, .inl (gI g, 6, .inl v_table_drawn)), (k_this_table_points, .inl (gI g, 6, .inl v_table_points))] H := hP
          have hD : va_D A [(k_this, .inr (2, [.ref k_this_table, .int (v_acts + (1 : Int32)), .int z1, .int v_vain, .int v_wholeAct, .int v_wholeWho])), (k_this_table, .inr (7, [.ref k_this_table_drawn, .ref k_this_table_points, .int v_table_inBits, .int z11, .int v_table_game])), (k_this_table_drawn, .inl (gI g, 6, .inl v_table_drawn)), (k_this_table_points, .inl (gI g, 6, .inl v_table_points))] := hD
          rw [← hQ, ← Option.some.inj hf]
          exact eM_v hx hb hr hlk hP hD hS dX4_play_98
      · replace hf := ift c5 hf
        refine lv_aload_n hx hb dX4_play_44 rfl (lv_at hl 0 rfl) ?_
        refine va_get (D := gD g) (ci := 2) (v := .ref k_this_table) (C := RX4) (T := TX4) (N := 6) hx hb hts iX4 hown hK hP 0 rfl rfl 0 (by decide) (hts (.fieldLink RX4 12 "BeetleDrive$Match" "table" "LBeetleDrive$Table;") (List.mem_of_getElem? (i := 1) rfl)) (fun _ h9 => h9) rfl dX4_play_45 ?_
        refine lv_iload_n hx hb dX4_play_48 rfl (lv_at hl 2 rfl) ?_
        obtain ⟨z13, hq14, hf⟩ := bnd_some hf
        refine kM_v (wc := [(k_this_table, .inr (7, [.ref k_this_table_drawn, .ref k_this_table_points, .int v_table_inBits, .int v_table_holder, .int v_table_game]))]) (wr := [(k_this, .inr (2, [.ref k_this_table, .int v_acts, .int z1, .int v_vain, .int v_wholeAct, .int v_wholeWho])), (k_this_table_drawn, .inl (gI g, 6, .inl v_table_drawn)), (k_this_table_points, .inl (gI g, 6, .inl v_table_points))]) (w1 := [(k_this_table, .inr (7, [.ref k_this_table_drawn, .ref k_this_table_points, .int z13.1, .int z13.2, .int v_table_game]))]) (w2 := [(k_this, .inr (2, [.ref k_this_table, .int v_acts, .int z1, .int v_vain, .int v_wholeAct, .int v_wholeWho])), (k_this_table, .inr (7, [.ref k_this_table_drawn, .ref k_this_table_points, .int z13.1, .int z13.2, .int v_table_game])), (k_this_table_drawn, .inl (gI g, 6, .inl v_table_drawn)), (k_this_table_points, .inl (gI g, 6, .inl v_table_points))]) (va_runV (As := [.int x2]) (rest := []) ⟨hx, hb, hml, hown, hts⟩ (c_X9_goOrCome l g k_this_table k_this_table_drawn k_this_table_points v_table_inBits v_table_holder v_table_game x2 z13 hq14 H.size) (cwV 1 hts gX4_play_X9_goOrCome rfl rfl rfl (by decide +kernel) ⟨Nat.le_of_ble_eq_true rfl, Nat.le_of_ble_eq_true rfl⟩) (kpV_M (q0 := 0) (ci := 7) hG hS hP hD hA [1] rfl (by decide) rfl rfl) rfl rfl hl.1 rfl (lv_room (Nat.le_of_ble_eq_true rfl)) dX4_play_49 ⟨Nat.le_of_ble_eq_true rfl, Nat.le_of_ble_eq_true rfl⟩) hP hD hS hA [1] [0, 2, 3] [0, 3, 1, 2] rfl rfl (by decide) (by decide) rfl (by decide) (fun H locs hP hD hS => ?_)
        refine lv_goto (tgt := 88) hx hb dX4_play_52 (by decide) ?_
        refine lv_aload_n hx hb dX4_play_88 rfl (lv_at hl 0 rfl) ?_
        refine lv_dup hx hb dX4_play_89 rfl ?_
        refine va_get (D := gD g) (ci := 2) (v := .int v_acts) (C := RX4) (T := TX4) (N := 6) hx hb hts iX4 hown hK hP 0 rfl rfl 1 (by decide) (hts (.fieldLink RX4 55 "BeetleDrive$Match" "acts" "I") (List.mem_of_getElem? (i := 3) rfl)) (fun _ h9 => h9) rfl dX4_play_90 ?_
        refine lv_iconst (v := 1) hx hb dX4_play_93 (by decide) ?_
        refine lv_iadd hx hb dX4_play_94 ?_
        refine va_put (D := gD g) (ci := 2) (v := .int (v_acts + (1 : Int32))) (ty := .int) (C := RX4) (T := TX4) (N := 6) hx hb hts iX4 tyX4 tyX4_ok nmX4 hown hK hP hD hS 0 rfl rfl 1 (by decide) (hts (.fieldLink RX4 55 "BeetleDrive$Match" "acts" "I") (List.mem_of_getElem? (i := 3) rfl)) (fun _ h9 => h9) rfl (tyX4_ok 1 (by decide)) rfl rfl (Nat.le_of_ble_eq_true rfl) dX4_play_95 (fun H locs hP hD hS => ?_)
        have hP : va_P (gD g) vwCl [(k_this, .inr (2, [.ref k_this_table, .int (v_acts + (1 : Int32)), .int z1, .int v_vain, .int v_wholeAct, .int v_wholeWho])), (k_this_table, .inr (7, [.ref k_this_table_drawn, .ref k_this_table_points, .int z13.1, .int z13.2, .int v_table_game])), (k_this_table_drawn, .inl (gI g, 6, .inl v_table_drawn)), (k_this_table_points, .inl (gI g, 6, .inl v_table_points))] H := hP
        have hD : va_D A [(k_this, .inr (2, [.ref k_this_table, .int (v_acts + (1 : Int32)), .int z1, .int v_vain, .int v_wholeAct, .int v_wholeWho])), (k_this_table, .inr (7, [.ref k_this_table_drawn, .ref k_this_table_points, .int z13.1, .int z13.2, .int v_table_game])), (k_this_table_drawn, .inl (gI g, 6, .inl v_table_drawn)), (k_this_table_points, .inl (gI g, 6, .inl v_table_points))] := hD
        rw [← hQ, ← Option.some.inj hf]
        exact eM_v hx hb hr hlk hP hD hS dX4_play_98
    · replace hf := ift c4 hf
      refine lv_aload_n hx hb dX4_play_27 rfl (lv_at hl 0 rfl) ?_
      refine va_get (D := gD g) (ci := 2) (v := .ref k_this_table) (C := RX4) (T := TX4) (N := 6) hx hb hts iX4 hown hK hP 0 rfl rfl 0 (by decide) (hts (.fieldLink RX4 12 "BeetleDrive$Match" "table" "LBeetleDrive$Table;") (List.mem_of_getElem? (i := 1) rfl)) (fun _ h9 => h9) rfl dX4_play_28 ?_
      refine lv_iload_n hx hb dX4_play_31 rfl (lv_at hl 2 rfl) ?_
      obtain ⟨z15, hq16, hf⟩ := bnd_some hf
      refine kM_v (wc := [(k_this_table, .inr (7, [.ref k_this_table_drawn, .ref k_this_table_points, .int v_table_inBits, .int v_table_holder, .int v_table_game])), (k_this_table_drawn, .inl (gI g, 6, .inl v_table_drawn)), (k_this_table_points, .inl (gI g, 6, .inl v_table_points))]) (wr := [(k_this, .inr (2, [.ref k_this_table, .int v_acts, .int z1, .int v_vain, .int v_wholeAct, .int v_wholeWho]))]) (w1 := [(k_this_table, .inr (7, [.ref k_this_table_drawn, .ref k_this_table_points, .int v_table_inBits, .int z15.2.2.1, .int z15.2.2.2])), (k_this_table_drawn, .inl (gI g, 6, .inl z15.1)), (k_this_table_points, .inl (gI g, 6, .inl z15.2.1))]) (w2 := [(k_this, .inr (2, [.ref k_this_table, .int v_acts, .int z1, .int v_vain, .int v_wholeAct, .int v_wholeWho])), (k_this_table, .inr (7, [.ref k_this_table_drawn, .ref k_this_table_points, .int v_table_inBits, .int z15.2.2.1, .int z15.2.2.2])), (k_this_table_drawn, .inl (gI g, 6, .inl z15.1)), (k_this_table_points, .inl (gI g, 6, .inl z15.2.1))]) (va_runV (As := [.int x2]) (rest := []) ⟨hx, hb, hml, hown, hts⟩ (c_X9_countUp l g k_this_table k_this_table_drawn k_this_table_points v_table_inBits v_table_holder v_table_game v_table_drawn v_table_points x2 z15 hq16 H.size) (cwV 1 hts gX4_play_X9_countUp rfl rfl rfl (by decide +kernel) ⟨Nat.le_of_ble_eq_true rfl, Nat.le_of_ble_eq_true rfl⟩) (kpV_M (q0 := 0) (ci := 7) hG hS hP hD hA [1, 2, 3] rfl (by decide) rfl rfl) rfl rfl hl.1 rfl (lv_room (Nat.le_of_ble_eq_true rfl)) dX4_play_32 ⟨Nat.le_of_ble_eq_true rfl, Nat.le_of_ble_eq_true rfl⟩) hP hD hS hA [1, 2, 3] [0] [0, 1, 2, 3] rfl rfl (by decide) (by decide) rfl (by decide) (fun H locs hP hD hS => ?_)
      refine lv_goto (tgt := 88) hx hb dX4_play_35 (by decide) ?_
      refine lv_aload_n hx hb dX4_play_88 rfl (lv_at hl 0 rfl) ?_
      refine lv_dup hx hb dX4_play_89 rfl ?_
      refine va_get (D := gD g) (ci := 2) (v := .int v_acts) (C := RX4) (T := TX4) (N := 6) hx hb hts iX4 hown hK hP 0 rfl rfl 1 (by decide) (hts (.fieldLink RX4 55 "BeetleDrive$Match" "acts" "I") (List.mem_of_getElem? (i := 3) rfl)) (fun _ h9 => h9) rfl dX4_play_90 ?_
      refine lv_iconst (v := 1) hx hb dX4_play_93 (by decide) ?_
      refine lv_iadd hx hb dX4_play_94 ?_
      refine va_put (D := gD g) (ci := 2) (v := .int (v_acts + (1 : Int32))) (ty := .int) (C := RX4) (T := TX4) (N := 6) hx hb hts iX4 tyX4 tyX4_ok nmX4 hown hK hP hD hS 0 rfl rfl 1 (by decide) (hts (.fieldLink RX4 55 "BeetleDrive$Match" "acts" "I") (List.mem_of_getElem? (i := 3) rfl)) (fun _ h9 => h9) rfl (tyX4_ok 1 (by decide)) rfl rfl (Nat.le_of_ble_eq_true rfl) dX4_play_95 (fun H locs hP hD hS => ?_)
      have hP : va_P (gD g) vwCl [(k_this, .inr (2, [.ref k_this_table, .int (v_acts + (1 : Int32)), .int z1, .int v_vain, .int v_wholeAct, .int v_wholeWho])), (k_this_table, .inr (7, [.ref k_this_table_drawn, .ref k_this_table_points, .int v_table_inBits, .int z15.2.2.1, .int z15.2.2.2])), (k_this_table_drawn, .inl (gI g, 6, .inl z15.1)), (k_this_table_points, .inl (gI g, 6, .inl z15.2.1))] H := hP
      have hD : va_D A [(k_this, .inr (2, [.ref k_this_table, .int (v_acts + (1 : Int32)), .int z1, .int v_vain, .int v_wholeAct, .int v_wholeWho])), (k_this_table, .inr (7, [.ref k_this_table_drawn, .ref k_this_table_points, .int v_table_inBits, .int z15.2.2.1, .int z15.2.2.2])), (k_this_table_drawn, .inl (gI g, 6, .inl z15.1)), (k_this_table_points, .inl (gI g, 6, .inl z15.2.1))] := hD
      rw [← hQ, ← Option.some.inj hf]
      exact eM_v hx hb hr hlk hP hD hS dX4_play_98
  · replace hf := iff_ c3 hf
    rw [← hQ, ← Option.some.inj hf]
    exact eM_v hx hb hr hlk hP hD hS dX4_play_20
set_option maxHeartbeats 4000000 in
set_option maxRecDepth 100000 in
theorem c_X4_playText (l : Launch) (g : bG) (k_this : Nat) (k_this_table : Nat) (k_this_table_drawn : Nat) (k_this_table_points : Nat) (k_p1 : Nat) (k_p1_signs : Nat) (k_p2 : Nat) (k_p2_drawn : Nat) (k_p2_points : Nat) (v_acts : Int32) (v_why : Int32) (v_vain : Int32) (v_wholeAct : Int32) (v_wholeWho : Int32) (v_table_inBits : Int32) (v_table_holder : Int32) (v_table_game : Int32) (v_table_drawn : Nat → Int32) (v_table_points : Nat → Int32) (v_p1_size : Int32) (v_p1_signs : Nat → Int32) (v_p2_inBits : Int32) (v_p2_holder : Int32) (v_p2_game : Int32) (v_p2_drawn : Nat → Int32) (v_p2_points : Nat → Int32) (out : Int32 × (Nat → Int32) × (Nat → Int32) × Int32 × Int32 × Int32 × Int32 × Int32 × Int32 × Int32 × Int32) (hf : f_X4_playText v_table_drawn v_table_points v_table_inBits v_table_holder v_table_game v_acts v_why v_vain v_wholeAct v_wholeWho v_p1_signs v_p1_size v_p2_drawn v_p2_points v_p2_inBits v_p2_holder v_p2_game = some out) : Mi l g yX4_playText wsX4_playText ({ frames := 5, cells := 0, slots := 0, locals := 109 } : Room) [.ref k_this, .ref k_p1, .ref k_p2] [(k_this, .inr (2, [.ref k_this_table, .int v_acts, .int v_why, .int v_vain, .int v_wholeAct, .int v_wholeWho])), (k_this_table, .inr (7, [.ref k_this_table_drawn, .ref k_this_table_points, .int v_table_inBits, .int v_table_holder, .int v_table_game])), (k_this_table_drawn, .inl (gI g, 6, .inl v_table_drawn)), (k_this_table_points, .inl (gI g, 6, .inl v_table_points)), (k_p1, .inr (3, [.ref k_p1_signs, .int v_p1_size])), (k_p1_signs, .inl (gI g, 60, .inl v_p1_signs)), (k_p2, .inr (7, [.ref k_p2_drawn, .ref k_p2_points, .int v_p2_inBits, .int v_p2_holder, .int v_p2_game])), (k_p2_drawn, .inl (gI g, 6, .inl v_p2_drawn)), (k_p2_points, .inl (gI g, 6, .inl v_p2_points))] out.1 [(k_this, .inr (2, [.ref k_this_table, .int out.2.2.2.2.2.2.1, .int out.2.2.2.2.2.2.2.1, .int out.2.2.2.2.2.2.2.2.1, .int out.2.2.2.2.2.2.2.2.2.1, .int out.2.2.2.2.2.2.2.2.2.2])), (k_this_table, .inr (7, [.ref k_this_table_drawn, .ref k_this_table_points, .int out.2.2.2.1, .int out.2.2.2.2.1, .int out.2.2.2.2.2.1])), (k_this_table_drawn, .inl (gI g, 6, .inl out.2.1)), (k_this_table_points, .inl (gI g, 6, .inl out.2.2.1)), (k_p1, .inr (3, [.ref k_p1_signs, .int v_p1_size])), (k_p1_signs, .inl (gI g, 60, .inl v_p1_signs)), (k_p2, .inr (7, [.ref k_p2_drawn, .ref k_p2_points, .int v_p2_inBits, .int v_p2_holder, .int v_p2_game])), (k_p2_drawn, .inl (gI g, 6, .inl v_p2_drawn)), (k_p2_points, .inl (gI g, 6, .inl v_p2_points))] := by
  refine ofM (Qc := fun A => Qi g out.1 [(k_this, .inr (2, [.ref k_this_table, .int out.2.2.2.2.2.2.1, .int out.2.2.2.2.2.2.2.1, .int out.2.2.2.2.2.2.2.2.1, .int out.2.2.2.2.2.2.2.2.2.1, .int out.2.2.2.2.2.2.2.2.2.2])), (k_this_table, .inr (7, [.ref k_this_table_drawn, .ref k_this_table_points, .int out.2.2.2.1, .int out.2.2.2.2.1, .int out.2.2.2.2.2.1])), (k_this_table_drawn, .inl (gI g, 6, .inl out.2.1)), (k_this_table_points, .inl (gI g, 6, .inl out.2.2.1)), (k_p1, .inr (3, [.ref k_p1_signs, .int v_p1_size])), (k_p1_signs, .inl (gI g, 60, .inl v_p1_signs)), (k_p2, .inr (7, [.ref k_p2_drawn, .ref k_p2_points, .int v_p2_inBits, .int v_p2_holder, .int v_p2_game])), (k_p2_drawn, .inl (gI g, 6, .inl v_p2_drawn)), (k_p2_points, .inl (gI g, 6, .inl v_p2_points))] A) (cc := cX4_playText) (nL := 6) (ret := some .int) (by decide) rfl (Nat.le_of_ble_eq_true rfl) ?_
  intro p e s m below meth c ar A hC hA hP hD hG ls hl
  have hS : va_S A s.heap s.heap [] := va_S.rf
  obtain ⟨hx, hb, hml, hown, hts, hr, hlk, -⟩ := hC
  have hl : lv_has ls 6 [(0, .ref k_this), (1, .ref k_p1), (2, .ref k_p2)] := hl
  have hK := hG.1
  have iX5 : ∀ w ∈ u_ws RX5 TX5 2, w ∈ wsX4_playText := fun w h => List.mem_cons_of_mem _ (List.mem_append_left _ (List.mem_append_left _ (List.mem_append_right _ (h))))
  have iX4 : ∀ w ∈ u_ws RX4 TX4 6, w ∈ wsX4_playText := fun w h => List.mem_cons_of_mem _ (List.mem_append_left _ (List.mem_append_right _ (h)))
  generalize hQ : MQ below (Qi g out.1 [(k_this, .inr (2, [.ref k_this_table, .int out.2.2.2.2.2.2.1, .int out.2.2.2.2.2.2.2.1, .int out.2.2.2.2.2.2.2.2.1, .int out.2.2.2.2.2.2.2.2.2.1, .int out.2.2.2.2.2.2.2.2.2.2])), (k_this_table, .inr (7, [.ref k_this_table_drawn, .ref k_this_table_points, .int out.2.2.2.1, .int out.2.2.2.2.1, .int out.2.2.2.2.2.1])), (k_this_table_drawn, .inl (gI g, 6, .inl out.2.1)), (k_this_table_points, .inl (gI g, 6, .inl out.2.2.1)), (k_p1, .inr (3, [.ref k_p1_signs, .int v_p1_size])), (k_p1_signs, .inl (gI g, 60, .inl v_p1_signs)), (k_p2, .inr (7, [.ref k_p2_drawn, .ref k_p2_points, .int v_p2_inBits, .int v_p2_holder, .int v_p2_game])), (k_p2_drawn, .inl (gI g, 6, .inl v_p2_drawn)), (k_p2_points, .inl (gI g, 6, .inl v_p2_points))] A) ar s 0 0 A = QQ
  have w_22 : ∀ n : Nat, ∀ (x3 : Int32) (x4 : Int32) (v_table_drawn : Nat → Int32) (v_table_points : Nat → Int32) (v_table_inBits : Int32) (v_table_holder : Int32) (v_table_game : Int32) (v_acts : Int32) (v_why : Int32) (v_vain : Int32) (v_wholeAct : Int32) (v_wholeWho : Int32), f_X4_playText_b22 v_p1_signs v_p1_size v_p2_drawn v_p2_points v_p2_inBits v_p2_holder v_p2_game n x3 x4 v_table_drawn v_table_points v_table_inBits v_table_holder v_table_game v_acts v_why v_vain v_wholeAct v_wholeWho = some out → ∀ (H : Heap) (locs : List Loc), va_P (gD g) vwCl [(k_this, .inr (2, [.ref k_this_table, .int v_acts, .int v_why, .int v_vain, .int v_wholeAct, .int v_wholeWho])), (k_this_table, .inr (7, [.ref k_this_table_drawn, .ref k_this_table_points, .int v_table_inBits, .int v_table_holder, .int v_table_game])), (k_this_table_drawn, .inl (gI g, 6, .inl v_table_drawn)), (k_this_table_points, .inl (gI g, 6, .inl v_table_points)), (k_p1, .inr (3, [.ref k_p1_signs, .int v_p1_size])), (k_p1_signs, .inl (gI g, 60, .inl v_p1_signs)), (k_p2, .inr (7, [.ref k_p2_drawn, .ref k_p2_points, .int v_p2_inBits, .int v_p2_holder, .int v_p2_game])), (k_p2_drawn, .inl (gI g, 6, .inl v_p2_drawn)), (k_p2_points, .inl (gI g, 6, .inl v_p2_points))] H → va_D A [(k_this, .inr (2, [.ref k_this_table, .int v_acts, .int v_why, .int v_vain, .int v_wholeAct, .int v_wholeWho])), (k_this_table, .inr (7, [.ref k_this_table_drawn, .ref k_this_table_points, .int v_table_inBits, .int v_table_holder, .int v_table_game])), (k_this_table_drawn, .inl (gI g, 6, .inl v_table_drawn)), (k_this_table_points, .inl (gI g, 6, .inl v_table_points)), (k_p1, .inr (3, [.ref k_p1_signs, .int v_p1_size])), (k_p1_signs, .inl (gI g, 60, .inl v_p1_signs)), (k_p2, .inr (7, [.ref k_p2_drawn, .ref k_p2_points, .int v_p2_inBits, .int v_p2_holder, .int v_p2_game])), (k_p2_drawn, .inl (gI g, 6, .inl v_p2_drawn)), (k_p2_points, .inl (gI g, 6, .inl v_p2_points))] → va_S A s.heap H locs → ∀ ls : Array Slot, lv_has ls 6 [(0, .ref k_this), (1, .ref k_p1), (3, .int x3), (4, .int x4)] → W p l e ({ frames := 5, cells := 0, slots := 0, locals := 109 } : Room) s m ar below meth c H locs 0 0 QQ (F0 m 22 ls []) := by
    intro n
    induction n with
    | zero =>
      intro x3 x4 v_table_drawn v_table_points v_table_inBits v_table_holder v_table_game v_acts v_why v_vain v_wholeAct v_wholeWho hf
      rw [f_X4_playText_b22_z] at hf
      cases hf
    | succ n ih =>
      intro x3 x4 v_table_drawn v_table_points v_table_inBits v_table_holder v_table_game v_acts v_why v_vain v_wholeAct v_wholeWho hf H locs hP hD hS ls hl
      rw [f_X4_playText_b22_s] at hf
      refine lv_iload hx hb dX4_playText_22 (lv_at hl 3 rfl) ?_
      refine lv_aload_n hx hb dX4_playText_24 rfl (lv_at hl 1 rfl) ?_
      refine va_getN (D := gD g) (ci := 3) (v := .int v_p1_size) (C := RX5) (T := TX5) (N := 2) hx hb hts iX5 hown hK hP 4 rfl rfl 1 (by decide) (hG.nf 6 rfl) (fun _ h9 => h9) rfl dX4_playText_25 ?_
      refine lv_icmp_ge (tgt := 77) hx hb dX4_playText_28 (by decide) (fun c6 => ?_) (fun c6 => ?_)
      · replace hf := ift c6 hf
        refine lv_aload_n hx hb dX4_playText_77 rfl (lv_at hl 0 rfl) ?_
        refine va_get (D := gD g) (ci := 2) (v := .int v_why) (C := RX4) (T := TX4) (N := 6) hx hb hts iX4 hown hK hP 0 rfl rfl 2 (by decide) (hts (.fieldLink RX4 32 "BeetleDrive$Match" "why" "I") (List.mem_of_getElem? (i := 1) rfl)) (fun _ h9 => h9) rfl dX4_playText_78 ?_
        refine lv_if_ne (tgt := 88) hx hb dX4_playText_81 (by decide) (fun c7 => ?_) (fun c7 => ?_)
        · replace hf := iff_ c7 hf
          refine lv_bipush (v := -3) hx hb dX4_playText_88 (by decide) ?_
          rw [← hQ, ← Option.some.inj hf]
          exact eM_i hx hb hr hlk hP hD hS rfl dX4_playText_90
        · replace hf := ift c7 hf
          refine lv_iconst (v := 0) hx hb dX4_playText_84 (by decide) ?_
          refine lv_goto (tgt := 90) hx hb dX4_playText_85 (by decide) ?_
          rw [← hQ, ← Option.some.inj hf]
          exact eM_i hx hb hr hlk hP hD hS rfl dX4_playText_90
      · replace hf := iff_ c6 hf
        refine lv_aload_n hx hb dX4_playText_31 rfl (lv_at hl 0 rfl) ?_
        refine va_get (D := gD g) (ci := 2) (v := .int v_why) (C := RX4) (T := TX4) (N := 6) hx hb hts iX4 hown hK hP 0 rfl rfl 2 (by decide) (hts (.fieldLink RX4 32 "BeetleDrive$Match" "why" "I") (List.mem_of_getElem? (i := 1) rfl)) (fun _ h9 => h9) rfl dX4_playText_32 ?_
        refine lv_if_ne (tgt := 77) hx hb dX4_playText_35 (by decide) (fun c8 => ?_) (fun c8 => ?_)
        · replace hf := iff_ c8 hf
          refine lv_aload_n hx hb dX4_playText_77 rfl (lv_at hl 0 rfl) ?_
          refine va_get (D := gD g) (ci := 2) (v := .int v_why) (C := RX4) (T := TX4) (N := 6) hx hb hts iX4 hown hK hP 0 rfl rfl 2 (by decide) (hts (.fieldLink RX4 32 "BeetleDrive$Match" "why" "I") (List.mem_of_getElem? (i := 1) rfl)) (fun _ h9 => h9) rfl dX4_playText_78 ?_
          refine lv_if_ne (tgt := 88) hx hb dX4_playText_81 (by decide) (fun c9 => ?_) (fun c9 => ?_)
          · replace hf := iff_ c9 hf
            refine lv_bipush (v := -3) hx hb dX4_playText_88 (by decide) ?_
            rw [← hQ, ← Option.some.inj hf]
            exact eM_i hx hb hr hlk hP hD hS rfl dX4_playText_90
          · replace hf := ift c9 hf
            refine lv_iconst (v := 0) hx hb dX4_playText_84 (by decide) ?_
            refine lv_goto (tgt := 90) hx hb dX4_playText_85 (by decide) ?_
            rw [← hQ, ← Option.some.inj hf]
            exact eM_i hx hb hr hlk hP hD hS rfl dX4_playText_90
        · replace hf := ift c8 hf
          refine lv_aload_n hx hb dX4_playText_38 rfl (lv_at hl 1 rfl) ?_
          refine va_getN (D := gD g) (ci := 3) (v := .ref k_p1_signs) (C := RX5) (T := TX5) (N := 2) hx hb hts iX5 hown hK hP 4 rfl rfl 0 (by decide) (hG.nf 5 rfl) (fun _ h9 => h9) rfl dX4_playText_39 ?_
          refine lv_iload hx hb dX4_playText_42 (lv_at hl 3 rfl) ?_
          obtain ⟨hi10, hf⟩ := chk_some hf
          refine va_iald hx hb hK hP 5 0 rfl rfl hi10 dX4_playText_44 ?_
          refine lv_istore (lv' := [(5, .int (v_p1_signs (Int32.toNatClampNeg x4))), (0, .ref k_this), (1, .ref k_p1), (3, .int x3), (4, .int x4)]) hx hb dX4_playText_45 hl (by decide) rfl (fun ls hl => ?_)
          refine lv_iload hx hb dX4_playText_47 (lv_at hl 0 rfl) ?_
          obtain ⟨z11, hq12, hf⟩ := bnd_some hf
          refine kR_i (va_runS (As := [.int (v_p1_signs (Int32.toNatClampNeg x4))]) (rest := []) ⟨hx, hb, hml, hown, hts⟩ (c_X5_isLetter l g (v_p1_signs (Int32.toNatClampNeg x4)) z11 hq12) (va_cwS 1 hts gX4_playText_X5_isLetter rfl rfl rfl (by decide +kernel) ⟨Nat.le_of_ble_eq_true rfl, Nat.le_of_ble_eq_true rfl⟩) (kpS_R (hG.now hS) (hP.subm (ws' := []) [] rfl)) rfl rfl hl.1 rfl (lv_room (Nat.le_of_ble_eq_true rfl)) dX4_playText_49 ⟨Nat.le_of_ble_eq_true rfl, Nat.le_of_ble_eq_true rfl⟩) ?_
          refine lv_if_eq (tgt := 64) hx hb dX4_playText_52 (by decide) (fun c13 => ?_) (fun c13 => ?_)
          · replace hf := ift c13 hf
            refine lv_aload_n hx hb dX4_playText_64 rfl (lv_at hl 1 rfl) ?_
            refine lv_iload hx hb dX4_playText_65 (lv_at hl 0 rfl) ?_
            refine lv_iload_n hx hb dX4_playText_67 rfl (lv_at hl 3 rfl) ?_
            obtain ⟨z14, hq15, hf⟩ := bnd_some hf
            refine kM_v (wc := [(k_this, .inr (2, [.ref k_this_table, .int v_acts, .int v_why, .int v_vain, .int v_wholeAct, .int v_wholeWho])), (k_this_table, .inr (7, [.ref k_this_table_drawn, .ref k_this_table_points, .int v_table_inBits, .int v_table_holder, .int v_table_game])), (k_this_table_drawn, .inl (gI g, 6, .inl v_table_drawn)), (k_this_table_points, .inl (gI g, 6, .inl v_table_points))]) (wr := [(k_p1, .inr (3, [.ref k_p1_signs, .int v_p1_size])), (k_p1_signs, .inl (gI g, 60, .inl v_p1_signs)), (k_p2, .inr (7, [.ref k_p2_drawn, .ref k_p2_points, .int v_p2_inBits, .int v_p2_holder, .int v_p2_game])), (k_p2_drawn, .inl (gI g, 6, .inl v_p2_drawn)), (k_p2_points, .inl (gI g, 6, .inl v_p2_points))]) (w1 := [(k_this, .inr (2, [.ref k_this_table, .int z14.2.2.2.2.2.1, .int z14.2.2.2.2.2.2.1, .int z14.2.2.2.2.2.2.2.1, .int z14.2.2.2.2.2.2.2.2.1, .int z14.2.2.2.2.2.2.2.2.2])), (k_this_table, .inr (7, [.ref k_this_table_drawn, .ref k_this_table_points, .int z14.2.2.1, .int z14.2.2.2.1, .int z14.2.2.2.2.1])), (k_this_table_drawn, .inl (gI g, 6, .inl z14.1)), (k_this_table_points, .inl (gI g, 6, .inl z14.2.1))]) (w2 := [(k_this, .inr (2, [.ref k_this_table, .int z14.2.2.2.2.2.1, .int z14.2.2.2.2.2.2.1, .int z14.2.2.2.2.2.2.2.1, .int z14.2.2.2.2.2.2.2.2.1, .int z14.2.2.2.2.2.2.2.2.2])), (k_this_table, .inr (7, [.ref k_this_table_drawn, .ref k_this_table_points, .int z14.2.2.1, .int z14.2.2.2.1, .int z14.2.2.2.2.1])), (k_this_table_drawn, .inl (gI g, 6, .inl z14.1)), (k_this_table_points, .inl (gI g, 6, .inl z14.2.1)), (k_p1, .inr (3, [.ref k_p1_signs, .int v_p1_size])), (k_p1_signs, .inl (gI g, 60, .inl v_p1_signs)), (k_p2, .inr (7, [.ref k_p2_drawn, .ref k_p2_points, .int v_p2_inBits, .int v_p2_holder, .int v_p2_game])), (k_p2_drawn, .inl (gI g, 6, .inl v_p2_drawn)), (k_p2_points, .inl (gI g, 6, .inl v_p2_points))]) (va_runV (As := [.int (v_p1_signs (Int32.toNatClampNeg x4)), .int x3]) (rest := []) ⟨hx, hb, hml, hown, hts⟩ (c_X4_play l g k_this k_this_table k_this_table_drawn k_this_table_points v_acts v_why v_vain v_wholeAct v_wholeWho v_table_inBits v_table_holder v_table_game v_table_drawn v_table_points (v_p1_signs (Int32.toNatClampNeg x4)) x3 z14 hq15 H.size) (cwV 2 hts gX4_playText_X4_play rfl rfl rfl (by decide +kernel) ⟨Nat.le_of_ble_eq_true rfl, Nat.le_of_ble_eq_true rfl⟩) (kpV_M (q0 := 0) (ci := 2) hG hS hP hD hA [0, 1, 2, 3] rfl (by decide) rfl rfl) rfl rfl hl.1 rfl (lv_room (Nat.le_of_ble_eq_true rfl)) dX4_playText_68 ⟨Nat.le_of_ble_eq_true rfl, Nat.le_of_ble_eq_true rfl⟩) hP hD hS hA [0, 1, 2, 3] [4, 5, 6, 7, 8] [5, 6, 7, 8, 0, 1, 2, 3, 4] rfl rfl (by decide) (by decide) rfl (by decide) (fun H locs hP hD hS => ?_)
            refine lv_iinc (v := (x4 + 1)) (lv' := [(4, .int (x4 + 1)), (5, .int (v_p1_signs (Int32.toNatClampNeg x4))), (0, .ref k_this), (1, .ref k_p1), (3, .int x3)]) hx hb dX4_playText_71 hl (k := 4) rfl rfl (by decide) rfl (fun ls hl => ?_)
            refine lv_goto (tgt := 22) hx hb dX4_playText_74 (by decide) ?_
            exact ih x3 (x4 + 1) z14.1 z14.2.1 z14.2.2.1 z14.2.2.2.1 z14.2.2.2.2.1 z14.2.2.2.2.2.1 z14.2.2.2.2.2.2.1 z14.2.2.2.2.2.2.2.1 z14.2.2.2.2.2.2.2.2.1 z14.2.2.2.2.2.2.2.2.2 hf H locs hP hD hS ls (lv_sub hl [2, 3, 4, 0] rfl)
          · replace hf := iff_ c13 hf
            refine lv_iload hx hb dX4_playText_55 (lv_at hl 0 rfl) ?_
            refine lv_bipush (v := 65) hx hb dX4_playText_57 (by decide) ?_
            refine lv_isub hx hb dX4_playText_59 ?_
            refine lv_istore_n (lv' := [(3, .int ((v_p1_signs (Int32.toNatClampNeg x4)) - (65 : Int32))), (5, .int (v_p1_signs (Int32.toNatClampNeg x4))), (0, .ref k_this), (1, .ref k_p1), (4, .int x4)]) hx hb dX4_playText_60 rfl hl (by decide) rfl (fun ls hl => ?_)
            refine lv_goto (tgt := 71) hx hb dX4_playText_61 (by decide) ?_
            refine lv_iinc (v := (x4 + 1)) (lv' := [(4, .int (x4 + 1)), (3, .int ((v_p1_signs (Int32.toNatClampNeg x4)) - (65 : Int32))), (5, .int (v_p1_signs (Int32.toNatClampNeg x4))), (0, .ref k_this), (1, .ref k_p1)]) hx hb dX4_playText_71 hl (k := 4) rfl rfl (by decide) rfl (fun ls hl => ?_)
            refine lv_goto (tgt := 22) hx hb dX4_playText_74 (by decide) ?_
            exact ih ((v_p1_signs (Int32.toNatClampNeg x4)) - (65 : Int32)) (x4 + 1) v_table_drawn v_table_points v_table_inBits v_table_holder v_table_game v_acts v_why v_vain v_wholeAct v_wholeWho hf H locs hP hD hS ls (lv_sub hl [3, 4, 1, 0] rfl)
  unfold f_X4_playText at hf
  refine lv_aload_n hx hb dX4_playText_0 rfl (lv_at hl 0 rfl) ?_
  refine lv_aload_n hx hb dX4_playText_1 rfl (lv_at hl 2 rfl) ?_
  obtain ⟨z1, hq2, hf⟩ := bnd_some hf
  refine kM_v (wc := [(k_this, .inr (2, [.ref k_this_table, .int v_acts, .int v_why, .int v_vain, .int v_wholeAct, .int v_wholeWho])), (k_this_table, .inr (7, [.ref k_this_table_drawn, .ref k_this_table_points, .int v_table_inBits, .int v_table_holder, .int v_table_game])), (k_this_table_drawn, .inl (gI g, 6, .inl v_table_drawn)), (k_this_table_points, .inl (gI g, 6, .inl v_table_points)), (k_p2, .inr (7, [.ref k_p2_drawn, .ref k_p2_points, .int v_p2_inBits, .int v_p2_holder, .int v_p2_game])), (k_p2_drawn, .inl (gI g, 6, .inl v_p2_drawn)), (k_p2_points, .inl (gI g, 6, .inl v_p2_points))]) (wr := [(k_p1, .inr (3, [.ref k_p1_signs, .int v_p1_size])), (k_p1_signs, .inl (gI g, 60, .inl v_p1_signs))]) (w1 := [(k_this, .inr (2, [.ref k_this_table, .int z1.2.2.2.2.2.1, .int z1.2.2.2.2.2.2.1, .int z1.2.2.2.2.2.2.2.1, .int z1.2.2.2.2.2.2.2.2.1, .int z1.2.2.2.2.2.2.2.2.2])), (k_this_table, .inr (7, [.ref k_this_table_drawn, .ref k_this_table_points, .int z1.2.2.1, .int z1.2.2.2.1, .int z1.2.2.2.2.1])), (k_this_table_drawn, .inl (gI g, 6, .inl z1.1)), (k_this_table_points, .inl (gI g, 6, .inl z1.2.1)), (k_p2, .inr (7, [.ref k_p2_drawn, .ref k_p2_points, .int v_p2_inBits, .int v_p2_holder, .int v_p2_game])), (k_p2_drawn, .inl (gI g, 6, .inl v_p2_drawn)), (k_p2_points, .inl (gI g, 6, .inl v_p2_points))]) (w2 := [(k_this, .inr (2, [.ref k_this_table, .int z1.2.2.2.2.2.1, .int z1.2.2.2.2.2.2.1, .int z1.2.2.2.2.2.2.2.1, .int z1.2.2.2.2.2.2.2.2.1, .int z1.2.2.2.2.2.2.2.2.2])), (k_this_table, .inr (7, [.ref k_this_table_drawn, .ref k_this_table_points, .int z1.2.2.1, .int z1.2.2.2.1, .int z1.2.2.2.2.1])), (k_this_table_drawn, .inl (gI g, 6, .inl z1.1)), (k_this_table_points, .inl (gI g, 6, .inl z1.2.1)), (k_p1, .inr (3, [.ref k_p1_signs, .int v_p1_size])), (k_p1_signs, .inl (gI g, 60, .inl v_p1_signs)), (k_p2, .inr (7, [.ref k_p2_drawn, .ref k_p2_points, .int v_p2_inBits, .int v_p2_holder, .int v_p2_game])), (k_p2_drawn, .inl (gI g, 6, .inl v_p2_drawn)), (k_p2_points, .inl (gI g, 6, .inl v_p2_points))]) (va_runV (As := [.ref k_p2]) (rest := []) ⟨hx, hb, hml, hown, hts⟩ (c_X4_begin l g k_this k_this_table k_this_table_drawn k_this_table_points k_p2 k_p2_drawn k_p2_points v_acts v_why v_vain v_wholeAct v_wholeWho v_table_inBits v_table_holder v_table_game v_table_drawn v_table_points v_p2_inBits v_p2_holder v_p2_game v_p2_drawn v_p2_points z1 hq2 s.heap.size) (cwV 1 hts gX4_playText_X4_begin rfl rfl rfl (by decide +kernel) ⟨Nat.le_of_ble_eq_true rfl, Nat.le_of_ble_eq_true rfl⟩) (kpV_M (q0 := 0) (ci := 2) hG hS hP hD hA [0, 1, 2, 3, 6, 7, 8] rfl (by decide) rfl rfl) rfl rfl hl.1 rfl (lv_room (Nat.le_of_ble_eq_true rfl)) dX4_playText_2 ⟨Nat.le_of_ble_eq_true rfl, Nat.le_of_ble_eq_true rfl⟩) hP hD hS hA [0, 1, 2, 3, 6, 7, 8] [4, 5] [2, 3, 4, 5, 0, 1, 6, 7, 8] rfl rfl (by decide) (by decide) rfl (by decide) (fun H locs hP hD hS => ?_)
  refine lv_aload_n hx hb dX4_playText_5 rfl (lv_at hl 1 rfl) ?_
  obtain ⟨z3, hq4, hf⟩ := bnd_some hf
  refine kR_i (va_runV (As := []) (rest := []) ⟨hx, hb, hml, hown, hts⟩ (c_X5_firstFault l g k_p1 k_p1_signs v_p1_size v_p1_signs z3 hq4) (cwV 0 hts gX4_playText_X5_firstFault rfl rfl rfl (by decide +kernel) ⟨Nat.le_of_ble_eq_true rfl, Nat.le_of_ble_eq_true rfl⟩) (kpV_R (q0 := 0) (ci := 3) (hG.now hS) (hP.subm (ws' := [(k_p1, .inr (3, [.ref k_p1_signs, .int v_p1_size])), (k_p1_signs, .inl (gI g, 60, .inl v_p1_signs))]) [4, 5] rfl) rfl rfl) rfl rfl hl.1 rfl (lv_room (Nat.le_of_ble_eq_true rfl)) dX4_playText_6 ⟨Nat.le_of_ble_eq_true rfl, Nat.le_of_ble_eq_true rfl⟩) ?_
  refine lv_bipush (v := -6) hx hb dX4_playText_9 (by decide) ?_
  refine lv_icmp_eq (tgt := 17) hx hb dX4_playText_11 (by decide) (fun c5 => ?_) (fun c5 => ?_)
  · replace hf := ift c5 hf
    refine lv_iconst (v := 0) hx hb dX4_playText_17 (by decide) ?_
    refine lv_istore_n (lv' := [(3, .int (0 : Int32)), (0, .ref k_this), (1, .ref k_p1), (2, .ref k_p2)]) hx hb dX4_playText_18 rfl hl (by decide) rfl (fun ls hl => ?_)
    refine lv_iconst (v := 0) hx hb dX4_playText_19 (by decide) ?_
    refine lv_istore (lv' := [(4, .int (0 : Int32)), (3, .int (0 : Int32)), (0, .ref k_this), (1, .ref k_p1), (2, .ref k_p2)]) hx hb dX4_playText_20 hl (by decide) rfl (fun ls hl => ?_)
    exact w_22 FU (0 : Int32) (0 : Int32) z1.1 z1.2.1 z1.2.2.1 z1.2.2.2.1 z1.2.2.2.2.1 z1.2.2.2.2.2.1 z1.2.2.2.2.2.2.1 z1.2.2.2.2.2.2.2.1 z1.2.2.2.2.2.2.2.2.1 z1.2.2.2.2.2.2.2.2.2 hf H locs hP hD hS ls (lv_sub hl [2, 3, 1, 0] rfl)
  · replace hf := iff_ c5 hf
    refine lv_bipush (v := -5) hx hb dX4_playText_14 (by decide) ?_
    rw [← hQ, ← Option.some.inj hf]
    exact eM_i hx hb hr hlk hP hD hS rfl dX4_playText_16
set_option maxHeartbeats 4000000 in
set_option maxRecDepth 100000 in
theorem c_X4_markOfYear (l : Launch) (g : bG) (x0 : Int32) (x1 : Int32) (out : Int32) (hf : f_X4_markOfYear x0 x1 = some out) : Ri l g yX4_markOfYear wsX4_markOfYear ({ frames := 0, cells := 0, slots := 0, locals := 0 } : Room) [.int x0, .int x1] [] out := by
  refine ofR (cc := cX4_markOfYear) (nL := 2) (ret := some .int) (by decide) rfl (Nat.le_of_ble_eq_true rfl) ?_
  intro p e s m below meth c ar hC hP hG ls hl
  have hS : va_S (fun _ => False) s.heap s.heap [] := va_S.rf
  obtain ⟨hx, hb, hml, hown, hts, hr, hlk, -⟩ := hC
  have hl : lv_has ls 2 [(0, .int x0), (1, .int x1)] := hl
  have hK := hG.1
  generalize hQ : MQ below (vp_Si (fun x => x = out)) ar s 0 0 (fun _ => False) = QQ
  unfold f_X4_markOfYear at hf
  refine lv_iload_n hx hb dX4_markOfYear_0 rfl (lv_at hl 0 rfl) ?_
  refine lv_iconst (v := 5) hx hb dX4_markOfYear_1 (by decide) ?_
  refine lv_icmp_gt (tgt := 13) hx hb dX4_markOfYear_2 (by decide) (fun c1 => ?_) (fun c1 => ?_)
  · replace hf := ift c1 hf
    refine lv_iload_n hx hb dX4_markOfYear_13 rfl (lv_at hl 0 rfl) ?_
    refine lv_bipush (v := 7) hx hb dX4_markOfYear_14 (by decide) ?_
    refine lv_icmp_ne (tgt := 22) hx hb dX4_markOfYear_16 (by decide) (fun c2 => ?_) (fun c2 => ?_)
    · replace hf := iff_ c2 hf
      refine lv_iload_n hx hb dX4_markOfYear_22 rfl (lv_at hl 1 rfl) ?_
      refine lv_bipush (v := 6) hx hb dX4_markOfYear_23 (by decide) ?_
      refine lv_idiv hx hb dX4_markOfYear_25 (by decide) ?_
      refine lv_iconst (v := 4) hx hb dX4_markOfYear_26 (by decide) ?_
      refine lv_irem hx hb dX4_markOfYear_27 (by decide) ?_
      refine lv_if_ne (tgt := 36) hx hb dX4_markOfYear_28 (by decide) (fun c3 => ?_) (fun c3 => ?_)
      · replace hf := iff_ c3 hf
        refine lv_bipush (v := 46) hx hb dX4_markOfYear_36 (by decide) ?_
        rw [← hQ, ← Option.some.inj hf]
        exact eR_i hx hb hr hlk rfl dX4_markOfYear_38
      · replace hf := ift c3 hf
        refine lv_bipush (v := 35) hx hb dX4_markOfYear_31 (by decide) ?_
        refine lv_goto (tgt := 38) hx hb dX4_markOfYear_33 (by decide) ?_
        rw [← hQ, ← Option.some.inj hf]
        exact eR_i hx hb hr hlk rfl dX4_markOfYear_38
    · replace hf := ift c2 hf
      refine lv_bipush (v := 33) hx hb dX4_markOfYear_19 (by decide) ?_
      rw [← hQ, ← Option.some.inj hf]
      exact eR_i hx hb hr hlk rfl dX4_markOfYear_21
  · replace hf := iff_ c1 hf
    refine lv_bipush (v := 49) hx hb dX4_markOfYear_5 (by decide) ?_
    refine lv_iload_n hx hb dX4_markOfYear_7 rfl (lv_at hl 1 rfl) ?_
    refine lv_bipush (v := 6) hx hb dX4_markOfYear_8 (by decide) ?_
    refine lv_irem hx hb dX4_markOfYear_10 (by decide) ?_
    refine lv_iadd hx hb dX4_markOfYear_11 ?_
    rw [← hQ, ← Option.some.inj hf]
    exact eR_i hx hb hr hlk rfl dX4_markOfYear_12
set_option maxHeartbeats 4000000 in
set_option maxRecDepth 100000 in
theorem c_X4_playYear (l : Launch) (g : bG) (k_this : Nat) (k_this_table : Nat) (k_this_table_drawn : Nat) (k_this_table_points : Nat) (k_p3 : Nat) (k_p3_drawn : Nat) (k_p3_points : Nat) (v_acts : Int32) (v_why : Int32) (v_vain : Int32) (v_wholeAct : Int32) (v_wholeWho : Int32) (v_table_inBits : Int32) (v_table_holder : Int32) (v_table_game : Int32) (v_table_drawn : Nat → Int32) (v_table_points : Nat → Int32) (v_p3_inBits : Int32) (v_p3_holder : Int32) (v_p3_game : Int32) (v_p3_drawn : Nat → Int32) (v_p3_points : Nat → Int32) (x1 : Int32) (x2 : Int32) (out : (Nat → Int32) × (Nat → Int32) × Int32 × Int32 × Int32 × Int32 × Int32 × Int32 × Int32 × Int32) (hf : f_X4_playYear v_table_drawn v_table_points v_table_inBits v_table_holder v_table_game v_acts v_why v_vain v_wholeAct v_wholeWho v_p3_drawn v_p3_points v_p3_inBits v_p3_holder v_p3_game x1 x2 = some out) : Mv l g yX4_playYear wsX4_playYear ({ frames := 5, cells := 0, slots := 0, locals := 109 } : Room) [.ref k_this, .int x1, .int x2, .ref k_p3] [(k_this, .inr (2, [.ref k_this_table, .int v_acts, .int v_why, .int v_vain, .int v_wholeAct, .int v_wholeWho])), (k_this_table, .inr (7, [.ref k_this_table_drawn, .ref k_this_table_points, .int v_table_inBits, .int v_table_holder, .int v_table_game])), (k_this_table_drawn, .inl (gI g, 6, .inl v_table_drawn)), (k_this_table_points, .inl (gI g, 6, .inl v_table_points)), (k_p3, .inr (7, [.ref k_p3_drawn, .ref k_p3_points, .int v_p3_inBits, .int v_p3_holder, .int v_p3_game])), (k_p3_drawn, .inl (gI g, 6, .inl v_p3_drawn)), (k_p3_points, .inl (gI g, 6, .inl v_p3_points))] [(k_this, .inr (2, [.ref k_this_table, .int out.2.2.2.2.2.1, .int out.2.2.2.2.2.2.1, .int out.2.2.2.2.2.2.2.1, .int out.2.2.2.2.2.2.2.2.1, .int out.2.2.2.2.2.2.2.2.2])), (k_this_table, .inr (7, [.ref k_this_table_drawn, .ref k_this_table_points, .int out.2.2.1, .int out.2.2.2.1, .int out.2.2.2.2.1])), (k_this_table_drawn, .inl (gI g, 6, .inl out.1)), (k_this_table_points, .inl (gI g, 6, .inl out.2.1)), (k_p3, .inr (7, [.ref k_p3_drawn, .ref k_p3_points, .int v_p3_inBits, .int v_p3_holder, .int v_p3_game])), (k_p3_drawn, .inl (gI g, 6, .inl v_p3_drawn)), (k_p3_points, .inl (gI g, 6, .inl v_p3_points))] := by
  refine ofM (Qc := fun A => Qv g [(k_this, .inr (2, [.ref k_this_table, .int out.2.2.2.2.2.1, .int out.2.2.2.2.2.2.1, .int out.2.2.2.2.2.2.2.1, .int out.2.2.2.2.2.2.2.2.1, .int out.2.2.2.2.2.2.2.2.2])), (k_this_table, .inr (7, [.ref k_this_table_drawn, .ref k_this_table_points, .int out.2.2.1, .int out.2.2.2.1, .int out.2.2.2.2.1])), (k_this_table_drawn, .inl (gI g, 6, .inl out.1)), (k_this_table_points, .inl (gI g, 6, .inl out.2.1)), (k_p3, .inr (7, [.ref k_p3_drawn, .ref k_p3_points, .int v_p3_inBits, .int v_p3_holder, .int v_p3_game])), (k_p3_drawn, .inl (gI g, 6, .inl v_p3_drawn)), (k_p3_points, .inl (gI g, 6, .inl v_p3_points))] A) (cc := cX4_playYear) (nL := 7) (ret := none) (by decide) rfl (Nat.le_of_ble_eq_true rfl) ?_
  intro p e s m below meth c ar A hC hA hP hD hG ls hl
  have hS : va_S A s.heap s.heap [] := va_S.rf
  obtain ⟨hx, hb, hml, hown, hts, hr, hlk, -⟩ := hC
  have hl : lv_has ls 7 [(0, .ref k_this), (1, .int x1), (2, .int x2), (3, .ref k_p3)] := hl
  have hK := hG.1
  generalize hQ : MQ below (Qv g [(k_this, .inr (2, [.ref k_this_table, .int out.2.2.2.2.2.1, .int out.2.2.2.2.2.2.1, .int out.2.2.2.2.2.2.2.1, .int out.2.2.2.2.2.2.2.2.1, .int out.2.2.2.2.2.2.2.2.2])), (k_this_table, .inr (7, [.ref k_this_table_drawn, .ref k_this_table_points, .int out.2.2.1, .int out.2.2.2.1, .int out.2.2.2.2.1])), (k_this_table_drawn, .inl (gI g, 6, .inl out.1)), (k_this_table_points, .inl (gI g, 6, .inl out.2.1)), (k_p3, .inr (7, [.ref k_p3_drawn, .ref k_p3_points, .int v_p3_inBits, .int v_p3_holder, .int v_p3_game])), (k_p3_drawn, .inl (gI g, 6, .inl v_p3_drawn)), (k_p3_points, .inl (gI g, 6, .inl v_p3_points))] A) ar s 0 0 A = QQ
  have w_11 : ∀ n : Nat, ∀ (x2 : Int32) (x4 : Int32) (x5 : Int32) (v_table_drawn : Nat → Int32) (v_table_points : Nat → Int32) (v_table_inBits : Int32) (v_table_holder : Int32) (v_table_game : Int32) (v_acts : Int32) (v_why : Int32) (v_vain : Int32) (v_wholeAct : Int32) (v_wholeWho : Int32), f_X4_playYear_b11 v_p3_drawn v_p3_points v_p3_inBits v_p3_holder v_p3_game n x2 x4 x5 v_table_drawn v_table_points v_table_inBits v_table_holder v_table_game v_acts v_why v_vain v_wholeAct v_wholeWho = some out → ∀ (H : Heap) (locs : List Loc), va_P (gD g) vwCl [(k_this, .inr (2, [.ref k_this_table, .int v_acts, .int v_why, .int v_vain, .int v_wholeAct, .int v_wholeWho])), (k_this_table, .inr (7, [.ref k_this_table_drawn, .ref k_this_table_points, .int v_table_inBits, .int v_table_holder, .int v_table_game])), (k_this_table_drawn, .inl (gI g, 6, .inl v_table_drawn)), (k_this_table_points, .inl (gI g, 6, .inl v_table_points)), (k_p3, .inr (7, [.ref k_p3_drawn, .ref k_p3_points, .int v_p3_inBits, .int v_p3_holder, .int v_p3_game])), (k_p3_drawn, .inl (gI g, 6, .inl v_p3_drawn)), (k_p3_points, .inl (gI g, 6, .inl v_p3_points))] H → va_D A [(k_this, .inr (2, [.ref k_this_table, .int v_acts, .int v_why, .int v_vain, .int v_wholeAct, .int v_wholeWho])), (k_this_table, .inr (7, [.ref k_this_table_drawn, .ref k_this_table_points, .int v_table_inBits, .int v_table_holder, .int v_table_game])), (k_this_table_drawn, .inl (gI g, 6, .inl v_table_drawn)), (k_this_table_points, .inl (gI g, 6, .inl v_table_points)), (k_p3, .inr (7, [.ref k_p3_drawn, .ref k_p3_points, .int v_p3_inBits, .int v_p3_holder, .int v_p3_game])), (k_p3_drawn, .inl (gI g, 6, .inl v_p3_drawn)), (k_p3_points, .inl (gI g, 6, .inl v_p3_points))] → va_S A s.heap H locs → ∀ ls : Array Slot, lv_has ls 7 [(0, .ref k_this), (2, .int x2), (4, .int x4), (5, .int x5)] → W p l e ({ frames := 5, cells := 0, slots := 0, locals := 109 } : Room) s m ar below meth c H locs 0 0 QQ (F0 m 11 ls []) := by
    intro n
    induction n with
    | zero =>
      intro x2 x4 x5 v_table_drawn v_table_points v_table_inBits v_table_holder v_table_game v_acts v_why v_vain v_wholeAct v_wholeWho hf
      rw [f_X4_playYear_b11_z] at hf
      cases hf
    | succ n ih =>
      intro x2 x4 x5 v_table_drawn v_table_points v_table_inBits v_table_holder v_table_game v_acts v_why v_vain v_wholeAct v_wholeWho hf H locs hP hD hS ls hl
      rw [f_X4_playYear_b11_s] at hf
      refine lv_iload hx hb dX4_playYear_11 (lv_at hl 3 rfl) ?_
      refine lv_iload_n hx hb dX4_playYear_13 rfl (lv_at hl 1 rfl) ?_
      refine lv_icmp_ge (tgt := 62) hx hb dX4_playYear_14 (by decide) (fun c3 => ?_) (fun c3 => ?_)
      · replace hf := ift c3 hf
        rw [← hQ, ← Option.some.inj hf]
        exact eM_v hx hb hr hlk hP hD hS dX4_playYear_62
      · replace hf := iff_ c3 hf
        refine lv_bipush (v := 75) hx hb dX4_playYear_17 (by decide) ?_
        refine lv_iload hx hb dX4_playYear_19 (lv_at hl 2 rfl) ?_
        refine lv_imul hx hb dX4_playYear_21 ?_
        refine lv_bipush (v := 74) hx hb dX4_playYear_22 (by decide) ?_
        refine lv_iadd hx hb dX4_playYear_24 ?_
        refine lv_ldc (v := 65537) hx hb hown (hts (.constant RX4 47 (65537)) (List.mem_of_getElem? (i := 1) rfl)) dX4_playYear_25 ?_
        refine lv_irem hx hb dX4_playYear_27 (by decide) ?_
        refine lv_istore (lv' := [(4, .int ((((75 : Int32) * x4) + (74 : Int32)) - (((75 : Int32) * x4) + (74 : Int32)) / (65537 : Int32) * (65537 : Int32))), (0, .ref k_this), (2, .int x2), (5, .int x5)]) hx hb dX4_playYear_28 hl (by decide) rfl (fun ls hl => ?_)
        refine lv_iload hx hb dX4_playYear_30 (lv_at hl 0 rfl) ?_
        refine lv_bipush (v := 8) hx hb dX4_playYear_32 (by decide) ?_
        refine lv_idiv hx hb dX4_playYear_34 (by decide) ?_
        refine lv_istore (lv' := [(6, .int (((((75 : Int32) * x4) + (74 : Int32)) - (((75 : Int32) * x4) + (74 : Int32)) / (65537 : Int32) * (65537 : Int32)) / (8 : Int32))), (4, .int ((((75 : Int32) * x4) + (74 : Int32)) - (((75 : Int32) * x4) + (74 : Int32)) / (65537 : Int32) * (65537 : Int32))), (0, .ref k_this), (2, .int x2), (5, .int x5)]) hx hb dX4_playYear_35 hl (by decide) rfl (fun ls hl => ?_)
        refine lv_aload_n hx hb dX4_playYear_37 rfl (lv_at hl 2 rfl) ?_
        refine lv_iload hx hb dX4_playYear_38 (lv_at hl 1 rfl) ?_
        refine lv_bipush (v := 8) hx hb dX4_playYear_40 (by decide) ?_
        refine lv_irem hx hb dX4_playYear_42 (by decide) ?_
        refine lv_iload hx hb dX4_playYear_43 (lv_at hl 0 rfl) ?_
        obtain ⟨z4, hq5, hf⟩ := bnd_some hf
        refine kR_i (va_runS (As := [.int (((((75 : Int32) * x4) + (74 : Int32)) - (((75 : Int32) * x4) + (74 : Int32)) / (65537 : Int32) * (65537 : Int32)) - ((((75 : Int32) * x4) + (74 : Int32)) - (((75 : Int32) * x4) + (74 : Int32)) / (65537 : Int32) * (65537 : Int32)) / (8 : Int32) * (8 : Int32)), .int (((((75 : Int32) * x4) + (74 : Int32)) - (((75 : Int32) * x4) + (74 : Int32)) / (65537 : Int32) * (65537 : Int32)) / (8 : Int32))]) (rest := [.ref k_this]) ⟨hx, hb, hml, hown, hts⟩ (c_X4_markOfYear l g (((((75 : Int32) * x4) + (74 : Int32)) - (((75 : Int32) * x4) + (74 : Int32)) / (65537 : Int32) * (65537 : Int32)) - ((((75 : Int32) * x4) + (74 : Int32)) - (((75 : Int32) * x4) + (74 : Int32)) / (65537 : Int32) * (65537 : Int32)) / (8 : Int32) * (8 : Int32)) (((((75 : Int32) * x4) + (74 : Int32)) - (((75 : Int32) * x4) + (74 : Int32)) / (65537 : Int32) * (65537 : Int32)) / (8 : Int32)) z4 hq5) (va_cwS 2 hts gX4_playYear_X4_markOfYear rfl rfl rfl (by decide +kernel) ⟨Nat.le_of_ble_eq_true rfl, Nat.le_of_ble_eq_true rfl⟩) (kpS_R (hG.now hS) (hP.subm (ws' := []) [] rfl)) rfl rfl hl.1 rfl (lv_room (Nat.le_of_ble_eq_true rfl)) dX4_playYear_45 ⟨Nat.le_of_ble_eq_true rfl, Nat.le_of_ble_eq_true rfl⟩) ?_
        refine lv_iload hx hb dX4_playYear_48 (lv_at hl 0 rfl) ?_
        refine lv_bipush (v := 6) hx hb dX4_playYear_50 (by decide) ?_
        refine lv_irem hx hb dX4_playYear_52 (by decide) ?_
        obtain ⟨z6, hq7, hf⟩ := bnd_some hf
        refine kM_v (wc := [(k_this, .inr (2, [.ref k_this_table, .int v_acts, .int v_why, .int v_vain, .int v_wholeAct, .int v_wholeWho])), (k_this_table, .inr (7, [.ref k_this_table_drawn, .ref k_this_table_points, .int v_table_inBits, .int v_table_holder, .int v_table_game])), (k_this_table_drawn, .inl (gI g, 6, .inl v_table_drawn)), (k_this_table_points, .inl (gI g, 6, .inl v_table_points))]) (wr := [(k_p3, .inr (7, [.ref k_p3_drawn, .ref k_p3_points, .int v_p3_inBits, .int v_p3_holder, .int v_p3_game])), (k_p3_drawn, .inl (gI g, 6, .inl v_p3_drawn)), (k_p3_points, .inl (gI g, 6, .inl v_p3_points))]) (w1 := [(k_this, .inr (2, [.ref k_this_table, .int z6.2.2.2.2.2.1, .int z6.2.2.2.2.2.2.1, .int z6.2.2.2.2.2.2.2.1, .int z6.2.2.2.2.2.2.2.2.1, .int z6.2.2.2.2.2.2.2.2.2])), (k_this_table, .inr (7, [.ref k_this_table_drawn, .ref k_this_table_points, .int z6.2.2.1, .int z6.2.2.2.1, .int z6.2.2.2.2.1])), (k_this_table_drawn, .inl (gI g, 6, .inl z6.1)), (k_this_table_points, .inl (gI g, 6, .inl z6.2.1))]) (w2 := [(k_this, .inr (2, [.ref k_this_table, .int z6.2.2.2.2.2.1, .int z6.2.2.2.2.2.2.1, .int z6.2.2.2.2.2.2.2.1, .int z6.2.2.2.2.2.2.2.2.1, .int z6.2.2.2.2.2.2.2.2.2])), (k_this_table, .inr (7, [.ref k_this_table_drawn, .ref k_this_table_points, .int z6.2.2.1, .int z6.2.2.2.1, .int z6.2.2.2.2.1])), (k_this_table_drawn, .inl (gI g, 6, .inl z6.1)), (k_this_table_points, .inl (gI g, 6, .inl z6.2.1)), (k_p3, .inr (7, [.ref k_p3_drawn, .ref k_p3_points, .int v_p3_inBits, .int v_p3_holder, .int v_p3_game])), (k_p3_drawn, .inl (gI g, 6, .inl v_p3_drawn)), (k_p3_points, .inl (gI g, 6, .inl v_p3_points))]) (va_runV (As := [.int z4, .int ((((((75 : Int32) * x4) + (74 : Int32)) - (((75 : Int32) * x4) + (74 : Int32)) / (65537 : Int32) * (65537 : Int32)) / (8 : Int32)) - (((((75 : Int32) * x4) + (74 : Int32)) - (((75 : Int32) * x4) + (74 : Int32)) / (65537 : Int32) * (65537 : Int32)) / (8 : Int32)) / (6 : Int32) * (6 : Int32))]) (rest := []) ⟨hx, hb, hml, hown, hts⟩ (c_X4_play l g k_this k_this_table k_this_table_drawn k_this_table_points v_acts v_why v_vain v_wholeAct v_wholeWho v_table_inBits v_table_holder v_table_game v_table_drawn v_table_points z4 ((((((75 : Int32) * x4) + (74 : Int32)) - (((75 : Int32) * x4) + (74 : Int32)) / (65537 : Int32) * (65537 : Int32)) / (8 : Int32)) - (((((75 : Int32) * x4) + (74 : Int32)) - (((75 : Int32) * x4) + (74 : Int32)) / (65537 : Int32) * (65537 : Int32)) / (8 : Int32)) / (6 : Int32) * (6 : Int32)) z6 hq7 H.size) (cwV 2 hts gX4_playYear_X4_play rfl rfl rfl (by decide +kernel) ⟨Nat.le_of_ble_eq_true rfl, Nat.le_of_ble_eq_true rfl⟩) (kpV_M (q0 := 0) (ci := 2) hG hS hP hD hA [0, 1, 2, 3] rfl (by decide) rfl rfl) rfl rfl hl.1 rfl (lv_room (Nat.le_of_ble_eq_true rfl)) dX4_playYear_53 ⟨Nat.le_of_ble_eq_true rfl, Nat.le_of_ble_eq_true rfl⟩) hP hD hS hA [0, 1, 2, 3] [4, 5, 6] [3, 4, 5, 6, 0, 1, 2] rfl rfl (by decide) (by decide) rfl (by decide) (fun H locs hP hD hS => ?_)
        refine lv_iinc (v := (x5 + 1)) (lv' := [(5, .int (x5 + 1)), (6, .int (((((75 : Int32) * x4) + (74 : Int32)) - (((75 : Int32) * x4) + (74 : Int32)) / (65537 : Int32) * (65537 : Int32)) / (8 : Int32))), (4, .int ((((75 : Int32) * x4) + (74 : Int32)) - (((75 : Int32) * x4) + (74 : Int32)) / (65537 : Int32) * (65537 : Int32))), (0, .ref k_this), (2, .int x2)]) hx hb dX4_playYear_56 hl (k := 4) rfl rfl (by decide) rfl (fun ls hl => ?_)
        refine lv_goto (tgt := 11) hx hb dX4_playYear_59 (by decide) ?_
        exact ih x2 ((((75 : Int32) * x4) + (74 : Int32)) - (((75 : Int32) * x4) + (74 : Int32)) / (65537 : Int32) * (65537 : Int32)) (x5 + 1) z6.1 z6.2.1 z6.2.2.1 z6.2.2.2.1 z6.2.2.2.2.1 z6.2.2.2.2.2.1 z6.2.2.2.2.2.2.1 z6.2.2.2.2.2.2.2.1 z6.2.2.2.2.2.2.2.2.1 z6.2.2.2.2.2.2.2.2.2 hf H locs hP hD hS ls (lv_sub hl [3, 4, 2, 0] rfl)
  unfold f_X4_playYear at hf
  refine lv_aload_n hx hb dX4_playYear_0 rfl (lv_at hl 0 rfl) ?_
  refine lv_aload_n hx hb dX4_playYear_1 rfl (lv_at hl 3 rfl) ?_
  obtain ⟨z1, hq2, hf⟩ := bnd_some hf
  refine kM_v (wc := [(k_this, .inr (2, [.ref k_this_table, .int v_acts, .int v_why, .int v_vain, .int v_wholeAct, .int v_wholeWho])), (k_this_table, .inr (7, [.ref k_this_table_drawn, .ref k_this_table_points, .int v_table_inBits, .int v_table_holder, .int v_table_game])), (k_this_table_drawn, .inl (gI g, 6, .inl v_table_drawn)), (k_this_table_points, .inl (gI g, 6, .inl v_table_points)), (k_p3, .inr (7, [.ref k_p3_drawn, .ref k_p3_points, .int v_p3_inBits, .int v_p3_holder, .int v_p3_game])), (k_p3_drawn, .inl (gI g, 6, .inl v_p3_drawn)), (k_p3_points, .inl (gI g, 6, .inl v_p3_points))]) (wr := []) (w1 := [(k_this, .inr (2, [.ref k_this_table, .int z1.2.2.2.2.2.1, .int z1.2.2.2.2.2.2.1, .int z1.2.2.2.2.2.2.2.1, .int z1.2.2.2.2.2.2.2.2.1, .int z1.2.2.2.2.2.2.2.2.2])), (k_this_table, .inr (7, [.ref k_this_table_drawn, .ref k_this_table_points, .int z1.2.2.1, .int z1.2.2.2.1, .int z1.2.2.2.2.1])), (k_this_table_drawn, .inl (gI g, 6, .inl z1.1)), (k_this_table_points, .inl (gI g, 6, .inl z1.2.1)), (k_p3, .inr (7, [.ref k_p3_drawn, .ref k_p3_points, .int v_p3_inBits, .int v_p3_holder, .int v_p3_game])), (k_p3_drawn, .inl (gI g, 6, .inl v_p3_drawn)), (k_p3_points, .inl (gI g, 6, .inl v_p3_points))]) (w2 := [(k_this, .inr (2, [.ref k_this_table, .int z1.2.2.2.2.2.1, .int z1.2.2.2.2.2.2.1, .int z1.2.2.2.2.2.2.2.1, .int z1.2.2.2.2.2.2.2.2.1, .int z1.2.2.2.2.2.2.2.2.2])), (k_this_table, .inr (7, [.ref k_this_table_drawn, .ref k_this_table_points, .int z1.2.2.1, .int z1.2.2.2.1, .int z1.2.2.2.2.1])), (k_this_table_drawn, .inl (gI g, 6, .inl z1.1)), (k_this_table_points, .inl (gI g, 6, .inl z1.2.1)), (k_p3, .inr (7, [.ref k_p3_drawn, .ref k_p3_points, .int v_p3_inBits, .int v_p3_holder, .int v_p3_game])), (k_p3_drawn, .inl (gI g, 6, .inl v_p3_drawn)), (k_p3_points, .inl (gI g, 6, .inl v_p3_points))]) (va_runV (As := [.ref k_p3]) (rest := []) ⟨hx, hb, hml, hown, hts⟩ (c_X4_begin l g k_this k_this_table k_this_table_drawn k_this_table_points k_p3 k_p3_drawn k_p3_points v_acts v_why v_vain v_wholeAct v_wholeWho v_table_inBits v_table_holder v_table_game v_table_drawn v_table_points v_p3_inBits v_p3_holder v_p3_game v_p3_drawn v_p3_points z1 hq2 s.heap.size) (cwV 1 hts gX4_playYear_X4_begin rfl rfl rfl (by decide +kernel) ⟨Nat.le_of_ble_eq_true rfl, Nat.le_of_ble_eq_true rfl⟩) (kpV_M (q0 := 0) (ci := 2) hG hS hP hD hA [0, 1, 2, 3, 4, 5, 6] rfl (by decide) rfl rfl) rfl rfl hl.1 rfl (lv_room (Nat.le_of_ble_eq_true rfl)) dX4_playYear_2 ⟨Nat.le_of_ble_eq_true rfl, Nat.le_of_ble_eq_true rfl⟩) hP hD hS hA [0, 1, 2, 3, 4, 5, 6] [] [0, 1, 2, 3, 4, 5, 6] rfl rfl (by decide) (by decide) rfl (by decide) (fun H locs hP hD hS => ?_)
  refine lv_iload_n hx hb dX4_playYear_5 rfl (lv_at hl 1 rfl) ?_
  refine lv_istore (lv' := [(4, .int x1), (0, .ref k_this), (1, .int x1), (2, .int x2), (3, .ref k_p3)]) hx hb dX4_playYear_6 hl (by decide) rfl (fun ls hl => ?_)
  refine lv_iconst (v := 0) hx hb dX4_playYear_8 (by decide) ?_
  refine lv_istore (lv' := [(5, .int (0 : Int32)), (4, .int x1), (0, .ref k_this), (1, .int x1), (2, .int x2), (3, .ref k_p3)]) hx hb dX4_playYear_9 hl (by decide) rfl (fun ls hl => ?_)
  exact w_11 FU x2 x1 (0 : Int32) z1.1 z1.2.1 z1.2.2.1 z1.2.2.2.1 z1.2.2.2.2.1 z1.2.2.2.2.2.1 z1.2.2.2.2.2.2.1 z1.2.2.2.2.2.2.2.1 z1.2.2.2.2.2.2.2.2.1 z1.2.2.2.2.2.2.2.2.2 hf H locs hP hD hS ls (lv_sub hl [2, 4, 1, 0] rfl)
set_option maxHeartbeats 4000000 in
set_option maxRecDepth 100000 in
theorem c_X5_add (l : Launch) (g : bG) (k_this : Nat) (k_this_signs : Nat) (v_size : Int32) (v_signs : Nat → Int32) (x1 : Int32) (out : Int32 × (Nat → Int32) × Int32) (hf : f_X5_add v_signs v_size x1 = some out) : Mi l g yX5_add wsX5_add ({ frames := 0, cells := 0, slots := 0, locals := 0 } : Room) [.ref k_this, .int x1] [(k_this, .inr (3, [.ref k_this_signs, .int v_size])), (k_this_signs, .inl (gI g, 60, .inl v_signs))] out.1 [(k_this, .inr (3, [.ref k_this_signs, .int out.2.2])), (k_this_signs, .inl (gI g, 60, .inl out.2.1))] := by
  refine ofM (Qc := fun A => Qi g out.1 [(k_this, .inr (3, [.ref k_this_signs, .int out.2.2])), (k_this_signs, .inl (gI g, 60, .inl out.2.1))] A) (cc := cX5_add) (nL := 2) (ret := some .boolean) (by decide) rfl (Nat.le_of_ble_eq_true rfl) ?_
  intro p e s m below meth c ar A hC hA hP hD hG ls hl
  have hS : va_S A s.heap s.heap [] := va_S.rf
  obtain ⟨hx, hb, hml, hown, hts, hr, hlk, -⟩ := hC
  have hl : lv_has ls 2 [(0, .ref k_this), (1, .int x1)] := hl
  have hK := hG.1
  have iX5 : ∀ w ∈ u_ws RX5 TX5 2, w ∈ wsX5_add := fun w h => List.mem_cons_of_mem _ (List.mem_append_right _ (h))
  generalize hQ : MQ below (Qi g out.1 [(k_this, .inr (3, [.ref k_this_signs, .int out.2.2])), (k_this_signs, .inl (gI g, 60, .inl out.2.1))] A) ar s 0 0 A = QQ
  unfold f_X5_add at hf
  refine lv_aload_n hx hb dX5_add_0 rfl (lv_at hl 0 rfl) ?_
  refine va_get (D := gD g) (ci := 3) (v := .int v_size) (C := RX5) (T := TX5) (N := 2) hx hb hts iX5 hown hK hP 0 rfl rfl 1 (by decide) (hts (.fieldLink RX5 15 "BeetleDrive$Pad" "size" "I") (List.mem_of_getElem? (i := 1) rfl)) (fun _ h9 => h9) rfl dX5_add_1 ?_
  refine lv_bipush (v := 60) hx hb dX5_add_4 (by decide) ?_
  refine lv_icmp_lt (tgt := 11) hx hb dX5_add_6 (by decide) (fun c1 => ?_) (fun c1 => ?_)
  · replace hf := ift c1 hf
    refine lv_aload_n hx hb dX5_add_11 rfl (lv_at hl 0 rfl) ?_
    refine va_get (D := gD g) (ci := 3) (v := .ref k_this_signs) (C := RX5) (T := TX5) (N := 2) hx hb hts iX5 hown hK hP 0 rfl rfl 0 (by decide) (hts (.fieldLink RX5 11 "BeetleDrive$Pad" "signs" "[I") (List.mem_of_getElem? (i := 2) rfl)) (fun _ h9 => h9) rfl dX5_add_12 ?_
    refine lv_aload_n hx hb dX5_add_15 rfl (lv_at hl 0 rfl) ?_
    refine va_get (D := gD g) (ci := 3) (v := .int v_size) (C := RX5) (T := TX5) (N := 2) hx hb hts iX5 hown hK hP 0 rfl rfl 1 (by decide) (hts (.fieldLink RX5 15 "BeetleDrive$Pad" "size" "I") (List.mem_of_getElem? (i := 1) rfl)) (fun _ h9 => h9) rfl dX5_add_16 ?_
    refine lv_iload_n hx hb dX5_add_19 rfl (lv_at hl 1 rfl) ?_
    obtain ⟨hi2, hf⟩ := chk_some hf
    refine va_iast hx hb hK hP hD hS 1 0 rfl rfl hi2 dX5_add_20 (fun H locs hP hD hS => ?_)
    have hP : va_P (gD g) vwCl [(k_this, .inr (3, [.ref k_this_signs, .int v_size])), (k_this_signs, .inl (gI g, 60, .inl (upd v_signs (Int32.toNatClampNeg v_size) x1)))] H := hP
    have hD : va_D A [(k_this, .inr (3, [.ref k_this_signs, .int v_size])), (k_this_signs, .inl (gI g, 60, .inl (upd v_signs (Int32.toNatClampNeg v_size) x1)))] := hD
    refine lv_aload_n hx hb dX5_add_21 rfl (lv_at hl 0 rfl) ?_
    refine lv_dup hx hb dX5_add_22 rfl ?_
    refine va_get (D := gD g) (ci := 3) (v := .int v_size) (C := RX5) (T := TX5) (N := 2) hx hb hts iX5 hown hK hP 0 rfl rfl 1 (by decide) (hts (.fieldLink RX5 15 "BeetleDrive$Pad" "size" "I") (List.mem_of_getElem? (i := 1) rfl)) (fun _ h9 => h9) rfl dX5_add_23 ?_
    refine lv_iconst (v := 1) hx hb dX5_add_26 (by decide) ?_
    refine lv_iadd hx hb dX5_add_27 ?_
    refine va_put (D := gD g) (ci := 3) (v := .int (v_size + (1 : Int32))) (ty := .int) (C := RX5) (T := TX5) (N := 2) hx hb hts iX5 tyX5 tyX5_ok nmX5 hown hK hP hD hS 0 rfl rfl 1 (by decide) (hts (.fieldLink RX5 15 "BeetleDrive$Pad" "size" "I") (List.mem_of_getElem? (i := 1) rfl)) (fun _ h9 => h9) rfl (tyX5_ok 1 (by decide)) rfl rfl (Nat.le_of_ble_eq_true rfl) dX5_add_28 (fun H locs hP hD hS => ?_)
    have hP : va_P (gD g) vwCl [(k_this, .inr (3, [.ref k_this_signs, .int (v_size + (1 : Int32))])), (k_this_signs, .inl (gI g, 60, .inl (upd v_signs (Int32.toNatClampNeg v_size) x1)))] H := hP
    have hD : va_D A [(k_this, .inr (3, [.ref k_this_signs, .int (v_size + (1 : Int32))])), (k_this_signs, .inl (gI g, 60, .inl (upd v_signs (Int32.toNatClampNeg v_size) x1)))] := hD
    refine lv_iconst (v := 1) hx hb dX5_add_31 (by decide) ?_
    rw [← hQ, ← Option.some.inj hf]
    exact eM_z hx hb hr hlk nb1 hP hD hS rfl dX5_add_32
  · replace hf := iff_ c1 hf
    refine lv_iconst (v := 0) hx hb dX5_add_9 (by decide) ?_
    rw [← hQ, ← Option.some.inj hf]
    exact eM_z hx hb hr hlk nb0 hP hD hS rfl dX5_add_10
set_option maxHeartbeats 4000000 in
set_option maxRecDepth 100000 in
theorem c_X5_clear (l : Launch) (g : bG) (k_this : Nat) (k_this_signs : Nat) (v_size : Int32) (out : Int32 × Int32) (hf : f_X5_clear v_size = some out) : Mi l g yX5_clear wsX5_clear ({ frames := 0, cells := 0, slots := 0, locals := 0 } : Room) [.ref k_this] [(k_this, .inr (3, [.ref k_this_signs, .int v_size]))] out.1 [(k_this, .inr (3, [.ref k_this_signs, .int out.2]))] := by
  refine ofM (Qc := fun A => Qi g out.1 [(k_this, .inr (3, [.ref k_this_signs, .int out.2]))] A) (cc := cX5_clear) (nL := 2) (ret := some .int) (by decide) rfl (Nat.le_of_ble_eq_true rfl) ?_
  intro p e s m below meth c ar A hC hA hP hD hG ls hl
  have hS : va_S A s.heap s.heap [] := va_S.rf
  obtain ⟨hx, hb, hml, hown, hts, hr, hlk, -⟩ := hC
  have hl : lv_has ls 2 [(0, .ref k_this)] := hl
  have hK := hG.1
  have iX5 : ∀ w ∈ u_ws RX5 TX5 2, w ∈ wsX5_clear := fun w h => List.mem_cons_of_mem _ (List.mem_append_right _ (h))
  generalize hQ : MQ below (Qi g out.1 [(k_this, .inr (3, [.ref k_this_signs, .int out.2]))] A) ar s 0 0 A = QQ
  unfold f_X5_clear at hf
  refine lv_aload_n hx hb dX5_clear_0 rfl (lv_at hl 0 rfl) ?_
  refine va_get (D := gD g) (ci := 3) (v := .int v_size) (C := RX5) (T := TX5) (N := 2) hx hb hts iX5 hown hK hP 0 rfl rfl 1 (by decide) (hts (.fieldLink RX5 15 "BeetleDrive$Pad" "size" "I") (List.mem_of_getElem? (i := 1) rfl)) (fun _ h9 => h9) rfl dX5_clear_1 ?_
  refine lv_istore_n (lv' := [(1, .int v_size), (0, .ref k_this)]) hx hb dX5_clear_4 rfl hl (by decide) rfl (fun ls hl => ?_)
  refine lv_aload_n hx hb dX5_clear_5 rfl (lv_at hl 1 rfl) ?_
  refine lv_iconst (v := 0) hx hb dX5_clear_6 (by decide) ?_
  refine va_put (D := gD g) (ci := 3) (v := .int (0 : Int32)) (ty := .int) (C := RX5) (T := TX5) (N := 2) hx hb hts iX5 tyX5 tyX5_ok nmX5 hown hK hP hD hS 0 rfl rfl 1 (by decide) (hts (.fieldLink RX5 15 "BeetleDrive$Pad" "size" "I") (List.mem_of_getElem? (i := 1) rfl)) (fun _ h9 => h9) rfl (tyX5_ok 1 (by decide)) rfl rfl (Nat.le_of_ble_eq_true rfl) dX5_clear_7 (fun H locs hP hD hS => ?_)
  have hP : va_P (gD g) vwCl [(k_this, .inr (3, [.ref k_this_signs, .int (0 : Int32)]))] H := hP
  have hD : va_D A [(k_this, .inr (3, [.ref k_this_signs, .int (0 : Int32)]))] := hD
  refine lv_iload_n hx hb dX5_clear_10 rfl (lv_at hl 0 rfl) ?_
  rw [← hQ, ← Option.some.inj hf]
  exact eM_i hx hb hr hlk hP hD hS rfl dX5_clear_11
