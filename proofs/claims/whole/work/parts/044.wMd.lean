/-! ===== walks, by program ===== -/
set_option maxHeartbeats 4000000 in
set_option maxRecDepth 100000 in
theorem c_X12_placeOf (l : Launch) (g : bG) (q : Nat → Nat) (v_holder : Int32) (v_games : Int32) (v_sights : Int32) (v_padMany : Int32) (v_acts : Int32) (v_nothings : Int32) (v_wholeNow : Int32) (v_badAct : Int32) (v_badWhy : Int32) (v_wholeAct : Int32) (v_wholeWho : Int32) (v_keptAt : Int32) (v_isWriting : Int32) (v_most : Nat → Int32) (x1 : Int32) (out : Int32) (hf : f_X12_placeOf v_most x1 = some out) : Ri l g yX12_placeOf wsX12_placeOf ({ frames := 2, cells := 0, slots := 0, locals := 43 } : Room) [.ref (q 0), .int x1] [((q 0), .inr (10, oX12 q v_holder v_games v_sights v_padMany v_acts v_nothings v_wholeNow v_badAct v_badWhy v_wholeAct v_wholeWho v_keptAt v_isWriting)), ((q 1), .inl (gI g, 6, .inl v_most))] out := by
  refine ofR (cc := cX12_placeOf) (nL := 4) (ret := some .int) (by decide) rfl (Nat.le_of_ble_eq_true rfl) ?_
  intro p e s m below meth c ar hC hP hG ls hl
  have hS : va_S (fun _ => False) s.heap s.heap [] := va_S.rf
  obtain ⟨hx, hb, hml, hown, hts, hr, hlk, -⟩ := hC
  have hl : lv_has ls 4 [(0, .ref (q 0)), (1, .int x1)] := hl
  have hK := hG.1
  have iX12 : ∀ w ∈ u_ws RX12 TX12 30, w ∈ wsX12_placeOf := fun w h => List.mem_cons_of_mem _ (List.mem_append_right _ (h))
  generalize hQ : MQ below (vp_Si (fun x => x = out)) ar s 0 0 (fun _ => False) = QQ
  have w_4 : ∀ n : Nat, ∀ (x1 : Int32) (x2 : Int32) (x3 : Int32), f_X12_placeOf_b4 v_most n x1 x2 x3 = some out → ∀ ls : Array Slot, lv_has ls 4 [(0, .ref (q 0)), (1, .int x1), (2, .int x2), (3, .int x3)] → W p l e ({ frames := 2, cells := 0, slots := 0, locals := 43 } : Room) s m ar below meth c s.heap [] 0 0 QQ (F0 m 4 ls []) := by
    intro n
    induction n with
    | zero =>
      intro x1 x2 x3 hf
      rw [f_X12_placeOf_b4_z] at hf
      cases hf
    | succ n ih =>
      intro x1 x2 x3 hf ls hl
      rw [f_X12_placeOf_b4_s] at hf
      refine lv_iload_n hx hb dX12_placeOf_4 rfl (lv_at hl 3 rfl) ?_
      refine lv_if_lt (tgt := 31) hx hb dX12_placeOf_5 (by decide) (fun c1 => ?_) (fun c1 => ?_)
      · replace hf := ift c1 hf
        refine lv_iload_n hx hb dX12_placeOf_31 rfl (lv_at hl 2 rfl) ?_
        rw [← hQ, ← Option.some.inj hf]
        exact eR_i hx hb hr hlk rfl dX12_placeOf_32
      · replace hf := iff_ c1 hf
        refine lv_aload_n hx hb dX12_placeOf_8 rfl (lv_at hl 0 rfl) ?_
        refine va_get (D := gD g) (ci := 10) (v := .ref (q 1)) (C := RX12) (T := TX12) (N := 30) hx hb hts iX12 hown hK hP 0 rfl rfl 0 (by decide) (hts (.fieldLink RX12 7 "BeetleDriveModel" "most" "[I") (List.mem_of_getElem? (i := 1) rfl)) (fun _ h9 => h9) rfl dX12_placeOf_9 ?_
        refine lv_iload_n hx hb dX12_placeOf_12 rfl (lv_at hl 3 rfl) ?_
        obtain ⟨hi2, hf⟩ := chk_some hf
        refine va_iald hx hb hK hP 1 0 rfl rfl hi2 dX12_placeOf_13 ?_
        refine lv_iconst (v := 1) hx hb dX12_placeOf_14 (by decide) ?_
        refine lv_iadd hx hb dX12_placeOf_15 ?_
        refine lv_iload_n hx hb dX12_placeOf_16 rfl (lv_at hl 2 rfl) ?_
        refine lv_imul hx hb dX12_placeOf_17 ?_
        refine lv_iload_n hx hb dX12_placeOf_18 rfl (lv_at hl 1 rfl) ?_
        refine lv_iload_n hx hb dX12_placeOf_19 rfl (lv_at hl 3 rfl) ?_
        obtain ⟨z3, hq4, hf⟩ := bnd_some hf
        refine kR_i (va_runS (As := [.int x1, .int x3]) (rest := [.int (((v_most (Int32.toNatClampNeg x3)) + (1 : Int32)) * x2)]) ⟨hx, hb, hml, hown, hts⟩ (c_X12_figureOf l g x1 x3 z3 hq4) (va_cwS 2 hts gX12_placeOf_X12_figureOf rfl rfl rfl (by decide +kernel) ⟨Nat.le_of_ble_eq_true rfl, Nat.le_of_ble_eq_true rfl⟩) (kpS_R hG (hP.subm (ws' := []) [] rfl)) rfl rfl hl.1 rfl (lv_room (Nat.le_of_ble_eq_true rfl)) dX12_placeOf_20 ⟨Nat.le_of_ble_eq_true rfl, Nat.le_of_ble_eq_true rfl⟩) ?_
        refine lv_iadd hx hb dX12_placeOf_23 ?_
        refine lv_istore_n (lv' := [(2, .int ((((v_most (Int32.toNatClampNeg x3)) + (1 : Int32)) * x2) + z3)), (0, .ref (q 0)), (1, .int x1), (3, .int x3)]) hx hb dX12_placeOf_24 rfl hl (by decide) rfl (fun ls hl => ?_)
        refine lv_iinc (v := (x3 + (-1))) (lv' := [(3, .int (x3 + (-1))), (2, .int ((((v_most (Int32.toNatClampNeg x3)) + (1 : Int32)) * x2) + z3)), (0, .ref (q 0)), (1, .int x1)]) hx hb dX12_placeOf_25 hl (k := 3) rfl rfl (by decide) rfl (fun ls hl => ?_)
        refine lv_goto (tgt := 4) hx hb dX12_placeOf_28 (by decide) ?_
        exact ih x1 ((((v_most (Int32.toNatClampNeg x3)) + (1 : Int32)) * x2) + z3) (x3 + (-1)) hf ls (lv_sub hl [2, 3, 1, 0] rfl)
  unfold f_X12_placeOf at hf
  refine lv_iconst (v := 0) hx hb dX12_placeOf_0 (by decide) ?_
  refine lv_istore_n (lv' := [(2, .int (0 : Int32)), (0, .ref (q 0)), (1, .int x1)]) hx hb dX12_placeOf_1 rfl hl (by decide) rfl (fun ls hl => ?_)
  refine lv_iconst (v := 5) hx hb dX12_placeOf_2 (by decide) ?_
  refine lv_istore_n (lv' := [(3, .int (5 : Int32)), (2, .int (0 : Int32)), (0, .ref (q 0)), (1, .int x1)]) hx hb dX12_placeOf_3 rfl hl (by decide) rfl (fun ls hl => ?_)
  exact w_4 FU x1 (0 : Int32) (5 : Int32) hf ls (lv_sub hl [2, 3, 1, 0] rfl)
set_option maxHeartbeats 4000000 in
set_option maxRecDepth 100000 in
theorem c_X12_drawnAt (l : Launch) (g : bG) (q : Nat → Nat) (v_holder : Int32) (v_games : Int32) (v_sights : Int32) (v_padMany : Int32) (v_acts : Int32) (v_nothings : Int32) (v_wholeNow : Int32) (v_badAct : Int32) (v_badWhy : Int32) (v_wholeAct : Int32) (v_wholeWho : Int32) (v_keptAt : Int32) (v_isWriting : Int32) (v_most : Nat → Int32) (x1 : Int32) (out : Int32) (hf : f_X12_drawnAt v_most x1 = some out) : Ri l g yX12_drawnAt wsX12_drawnAt ({ frames := 1, cells := 0, slots := 0, locals := 22 } : Room) [.ref (q 0), .int x1] [((q 0), .inr (10, oX12 q v_holder v_games v_sights v_padMany v_acts v_nothings v_wholeNow v_badAct v_badWhy v_wholeAct v_wholeWho v_keptAt v_isWriting)), ((q 1), .inl (gI g, 6, .inl v_most))] out := by
  refine ofR (cc := cX12_drawnAt) (nL := 5) (ret := some .int) (by decide) rfl (Nat.le_of_ble_eq_true rfl) ?_
  intro p e s m below meth c ar hC hP hG ls hl
  have hS : va_S (fun _ => False) s.heap s.heap [] := va_S.rf
  obtain ⟨hx, hb, hml, hown, hts, hr, hlk, -⟩ := hC
  have hl : lv_has ls 5 [(0, .ref (q 0)), (1, .int x1)] := hl
  have hK := hG.1
  have iX12 : ∀ w ∈ u_ws RX12 TX12 30, w ∈ wsX12_drawnAt := fun w h => List.mem_cons_of_mem _ (List.mem_append_right _ (h))
  generalize hQ : MQ below (vp_Si (fun x => x = out)) ar s 0 0 (fun _ => False) = QQ
  have w_7 : ∀ n : Nat, ∀ (x2 : Int32) (x3 : Int32) (x4 : Int32), f_X12_drawnAt_b7 v_most n x2 x3 x4 = some out → ∀ ls : Array Slot, lv_has ls 5 [(0, .ref (q 0)), (2, .int x2), (3, .int x3), (4, .int x4)] → W p l e ({ frames := 1, cells := 0, slots := 0, locals := 22 } : Room) s m ar below meth c s.heap [] 0 0 QQ (F0 m 7 ls []) := by
    intro n
    induction n with
    | zero =>
      intro x2 x3 x4 hf
      rw [f_X12_drawnAt_b7_z] at hf
      cases hf
    | succ n ih =>
      intro x2 x3 x4 hf ls hl
      rw [f_X12_drawnAt_b7_s] at hf
      refine lv_iload hx hb dX12_drawnAt_7 (lv_at hl 3 rfl) ?_
      refine lv_bipush (v := 6) hx hb dX12_drawnAt_9 (by decide) ?_
      refine lv_icmp_ge (tgt := 54) hx hb dX12_drawnAt_11 (by decide) (fun c1 => ?_) (fun c1 => ?_)
      · replace hf := ift c1 hf
        refine lv_iload_n hx hb dX12_drawnAt_54 rfl (lv_at hl 1 rfl) ?_
        rw [← hQ, ← Option.some.inj hf]
        exact eR_i hx hb hr hlk rfl dX12_drawnAt_55
      · replace hf := iff_ c1 hf
        refine lv_iload_n hx hb dX12_drawnAt_14 rfl (lv_at hl 1 rfl) ?_
        refine lv_iload_n hx hb dX12_drawnAt_15 rfl (lv_at hl 2 rfl) ?_
        refine lv_aload_n hx hb dX12_drawnAt_16 rfl (lv_at hl 0 rfl) ?_
        refine va_get (D := gD g) (ci := 10) (v := .ref (q 1)) (C := RX12) (T := TX12) (N := 30) hx hb hts iX12 hown hK hP 0 rfl rfl 0 (by decide) (hts (.fieldLink RX12 7 "BeetleDriveModel" "most" "[I") (List.mem_of_getElem? (i := 1) rfl)) (fun _ h9 => h9) rfl dX12_drawnAt_17 ?_
        refine lv_iload hx hb dX12_drawnAt_20 (lv_at hl 3 rfl) ?_
        obtain ⟨hi2, hf⟩ := chk_some hf
        refine va_iald hx hb hK hP 1 0 rfl rfl hi2 dX12_drawnAt_22 ?_
        refine lv_iconst (v := 1) hx hb dX12_drawnAt_23 (by decide) ?_
        refine lv_iadd hx hb dX12_drawnAt_24 ?_
        obtain ⟨hz3, hf⟩ := nz_some hf
        refine lv_irem hx hb dX12_drawnAt_25 hz3 ?_
        refine lv_iconst (v := 5) hx hb dX12_drawnAt_26 (by decide) ?_
        refine lv_iload hx hb dX12_drawnAt_27 (lv_at hl 3 rfl) ?_
        refine lv_isub hx hb dX12_drawnAt_29 ?_
        obtain ⟨z4, hq5, hf⟩ := bnd_some hf
        refine kR_i (va_runS (As := [.int ((5 : Int32) - x4)]) (rest := [.int (x3 - x3 / ((v_most (Int32.toNatClampNeg x4)) + (1 : Int32)) * ((v_most (Int32.toNatClampNeg x4)) + (1 : Int32))), .int x2]) ⟨hx, hb, hml, hown, hts⟩ (c_X12_tenTo l g ((5 : Int32) - x4) z4 hq5) (va_cwS 1 hts gX12_drawnAt_X12_tenTo rfl rfl rfl (by decide +kernel) ⟨Nat.le_of_ble_eq_true rfl, Nat.le_of_ble_eq_true rfl⟩) (kpS_R hG (hP.subm (ws' := []) [] rfl)) rfl rfl hl.1 rfl (lv_room (Nat.le_of_ble_eq_true rfl)) dX12_drawnAt_30 ⟨Nat.le_of_ble_eq_true rfl, Nat.le_of_ble_eq_true rfl⟩) ?_
        refine lv_imul hx hb dX12_drawnAt_33 ?_
        refine lv_iadd hx hb dX12_drawnAt_34 ?_
        refine lv_istore_n (lv' := [(2, .int (x2 + ((x3 - x3 / ((v_most (Int32.toNatClampNeg x4)) + (1 : Int32)) * ((v_most (Int32.toNatClampNeg x4)) + (1 : Int32))) * z4))), (0, .ref (q 0)), (3, .int x3), (4, .int x4)]) hx hb dX12_drawnAt_35 rfl hl (by decide) rfl (fun ls hl => ?_)
        refine lv_iload_n hx hb dX12_drawnAt_36 rfl (lv_at hl 2 rfl) ?_
        refine lv_aload_n hx hb dX12_drawnAt_37 rfl (lv_at hl 1 rfl) ?_
        refine va_get (D := gD g) (ci := 10) (v := .ref (q 1)) (C := RX12) (T := TX12) (N := 30) hx hb hts iX12 hown hK hP 0 rfl rfl 0 (by decide) (hts (.fieldLink RX12 7 "BeetleDriveModel" "most" "[I") (List.mem_of_getElem? (i := 1) rfl)) (fun _ h9 => h9) rfl dX12_drawnAt_38 ?_
        refine lv_iload hx hb dX12_drawnAt_41 (lv_at hl 3 rfl) ?_
        obtain ⟨hi6, hf⟩ := chk_some hf
        refine va_iald hx hb hK hP 1 0 rfl rfl hi6 dX12_drawnAt_43 ?_
        refine lv_iconst (v := 1) hx hb dX12_drawnAt_44 (by decide) ?_
        refine lv_iadd hx hb dX12_drawnAt_45 ?_
        obtain ⟨hz7, hf⟩ := nz_some hf
        refine lv_idiv hx hb dX12_drawnAt_46 hz7 ?_
        refine lv_istore_n (lv' := [(3, .int (x3 / ((v_most (Int32.toNatClampNeg x4)) + (1 : Int32)))), (2, .int (x2 + ((x3 - x3 / ((v_most (Int32.toNatClampNeg x4)) + (1 : Int32)) * ((v_most (Int32.toNatClampNeg x4)) + (1 : Int32))) * z4))), (0, .ref (q 0)), (4, .int x4)]) hx hb dX12_drawnAt_47 rfl hl (by decide) rfl (fun ls hl => ?_)
        refine lv_iinc (v := (x4 + 1)) (lv' := [(4, .int (x4 + 1)), (3, .int (x3 / ((v_most (Int32.toNatClampNeg x4)) + (1 : Int32)))), (2, .int (x2 + ((x3 - x3 / ((v_most (Int32.toNatClampNeg x4)) + (1 : Int32)) * ((v_most (Int32.toNatClampNeg x4)) + (1 : Int32))) * z4))), (0, .ref (q 0))]) hx hb dX12_drawnAt_48 hl (k := 3) rfl rfl (by decide) rfl (fun ls hl => ?_)
        refine lv_goto (tgt := 7) hx hb dX12_drawnAt_51 (by decide) ?_
        exact ih (x2 + ((x3 - x3 / ((v_most (Int32.toNatClampNeg x4)) + (1 : Int32)) * ((v_most (Int32.toNatClampNeg x4)) + (1 : Int32))) * z4)) (x3 / ((v_most (Int32.toNatClampNeg x4)) + (1 : Int32))) (x4 + 1) hf ls (lv_sub hl [3, 2, 1, 0] rfl)
  unfold f_X12_drawnAt at hf
  refine lv_iconst (v := 0) hx hb dX12_drawnAt_0 (by decide) ?_
  refine lv_istore_n (lv' := [(2, .int (0 : Int32)), (0, .ref (q 0)), (1, .int x1)]) hx hb dX12_drawnAt_1 rfl hl (by decide) rfl (fun ls hl => ?_)
  refine lv_iload_n hx hb dX12_drawnAt_2 rfl (lv_at hl 2 rfl) ?_
  refine lv_istore_n (lv' := [(3, .int x1), (2, .int (0 : Int32)), (0, .ref (q 0)), (1, .int x1)]) hx hb dX12_drawnAt_3 rfl hl (by decide) rfl (fun ls hl => ?_)
  refine lv_iconst (v := 0) hx hb dX12_drawnAt_4 (by decide) ?_
  refine lv_istore (lv' := [(4, .int (0 : Int32)), (3, .int x1), (2, .int (0 : Int32)), (0, .ref (q 0)), (1, .int x1)]) hx hb dX12_drawnAt_5 hl (by decide) rfl (fun ls hl => ?_)
  exact w_7 FU (0 : Int32) x1 (0 : Int32) hf ls (lv_sub hl [3, 2, 1, 0] rfl)
set_option maxHeartbeats 4000000 in
set_option maxRecDepth 100000 in
theorem c_X12_ordersFrom (l : Launch) (g : bG) (q : Nat → Nat) (v_holder : Int32) (v_games : Int32) (v_sights : Int32) (v_padMany : Int32) (v_acts : Int32) (v_nothings : Int32) (v_wholeNow : Int32) (v_badAct : Int32) (v_badWhy : Int32) (v_wholeAct : Int32) (v_wholeWho : Int32) (v_keptAt : Int32) (v_isWriting : Int32) (v_most : Nat → Int32) (v_ways : Nat → Int64) (x1 : Int32) (out : Int64) (hf : f_X12_ordersFrom v_most v_ways x1 = some out) : Rl l g yX12_ordersFrom wsX12_ordersFrom ({ frames := 3, cells := 0, slots := 0, locals := 66 } : Room) [.ref (q 0), .int x1] [((q 0), .inr (10, oX12 q v_holder v_games v_sights v_padMany v_acts v_nothings v_wholeNow v_badAct v_badWhy v_wholeAct v_wholeWho v_keptAt v_isWriting)), ((q 1), .inl (gI g, 6, .inl v_most)), ((q 11), .inl (gJ g, 504, .inr (.inl v_ways)))] out := by
  refine ofR (cc := cX12_ordersFrom) (nL := 5) (ret := some .long) (by decide) rfl (Nat.le_of_ble_eq_true rfl) ?_
  intro p e s m below meth c ar hC hP hG ls hl
  have hS : va_S (fun _ => False) s.heap s.heap [] := va_S.rf
  obtain ⟨hx, hb, hml, hown, hts, hr, hlk, -⟩ := hC
  have hl : lv_has ls 5 [(0, .ref (q 0)), (1, .int x1)] := hl
  have hK := hG.1
  have iX12 : ∀ w ∈ u_ws RX12 TX12 30, w ∈ wsX12_ordersFrom := fun w h => List.mem_cons_of_mem _ (List.mem_append_right _ (h))
  generalize hQ : MQ below (vp_Sl (fun x => x = out)) ar s 0 0 (fun _ => False) = QQ
  have w_15 : ∀ n : Nat, ∀ (x1 : Int32) (x2 : Int64) (x4 : Int32), f_X12_ordersFrom_b15 v_most v_ways n x1 x2 x4 = some out → ∀ ls : Array Slot, lv_has ls 5 [(0, .ref (q 0)), (1, .int x1), (2, .long x2), (4, .int x4)] → W p l e ({ frames := 3, cells := 0, slots := 0, locals := 66 } : Room) s m ar below meth c s.heap [] 0 0 QQ (F0 m 15 ls []) := by
    intro n
    induction n with
    | zero =>
      intro x1 x2 x4 hf
      rw [f_X12_ordersFrom_b15_z] at hf
      cases hf
    | succ n ih =>
      intro x1 x2 x4 hf ls hl
      rw [f_X12_ordersFrom_b15_s] at hf
      refine lv_iload hx hb dX12_ordersFrom_15 (lv_at hl 3 rfl) ?_
      refine lv_bipush (v := 6) hx hb dX12_ordersFrom_17 (by decide) ?_
      refine lv_icmp_gt (tgt := 60) hx hb dX12_ordersFrom_19 (by decide) (fun c2 => ?_) (fun c2 => ?_)
      · replace hf := ift c2 hf
        refine lv_lload_n hx hb dX12_ordersFrom_60 rfl (lv_at hl 2 rfl) ?_
        rw [← hQ, ← Option.some.inj hf]
        exact eR_l hx hb hr hlk rfl dX12_ordersFrom_61
      · replace hf := iff_ c2 hf
        refine lv_lload_n hx hb dX12_ordersFrom_22 rfl (lv_at hl 2 rfl) ?_
        refine lv_aload_n hx hb dX12_ordersFrom_23 rfl (lv_at hl 0 rfl) ?_
        refine lv_iload_n hx hb dX12_ordersFrom_24 rfl (lv_at hl 1 rfl) ?_
        refine lv_iload hx hb dX12_ordersFrom_25 (lv_at hl 3 rfl) ?_
        obtain ⟨z3, hq4, hf⟩ := bnd_some hf
        refine kR_i (va_runV (As := [.int x1, .int x4]) (rest := [.long x2]) ⟨hx, hb, hml, hown, hts⟩ (c_X12_canDraw l g q v_holder v_games v_sights v_padMany v_acts v_nothings v_wholeNow v_badAct v_badWhy v_wholeAct v_wholeWho v_keptAt v_isWriting v_most x1 x4 z3 hq4) (cwV 2 hts gX12_ordersFrom_X12_canDraw rfl rfl rfl (by decide +kernel) ⟨Nat.le_of_ble_eq_true rfl, Nat.le_of_ble_eq_true rfl⟩) (kpV_R (q0 := 0) (ci := 10) hG (hP.subm (ws' := [((q 0), .inr (10, oX12 q v_holder v_games v_sights v_padMany v_acts v_nothings v_wholeNow v_badAct v_badWhy v_wholeAct v_wholeWho v_keptAt v_isWriting)), ((q 1), .inl (gI g, 6, .inl v_most))]) [0, 1] rfl) rfl rfl) rfl rfl hl.1 rfl (lv_room (Nat.le_of_ble_eq_true rfl)) dX12_ordersFrom_27 ⟨Nat.le_of_ble_eq_true rfl, Nat.le_of_ble_eq_true rfl⟩) ?_
        refine lv_if_eq (tgt := 51) hx hb dX12_ordersFrom_30 (by decide) (fun c5 => ?_) (fun c5 => ?_)
        · replace hf := ift c5 hf
          refine lv_lconst (v := 0) hx hb dX12_ordersFrom_51 (by decide) ?_
          refine lv_ladd hx hb dX12_ordersFrom_52 ?_
          refine lv_lstore_n (lv' := [(2, .long (x2 + (0 : Int64))), (0, .ref (q 0)), (1, .int x1), (4, .int x4)]) hx hb dX12_ordersFrom_53 rfl hl (by decide) rfl (fun ls hl => ?_)
          refine lv_iinc (v := (x4 + 1)) (lv' := [(4, .int (x4 + 1)), (2, .long (x2 + (0 : Int64))), (0, .ref (q 0)), (1, .int x1)]) hx hb dX12_ordersFrom_54 hl (k := 3) rfl rfl (by decide) rfl (fun ls hl => ?_)
          refine lv_goto (tgt := 15) hx hb dX12_ordersFrom_57 (by decide) ?_
          exact ih x1 (x2 + (0 : Int64)) (x4 + 1) hf ls (lv_sub hl [2, 3, 1, 0] rfl)
        · replace hf := iff_ c5 hf
          refine lv_aload_n hx hb dX12_ordersFrom_33 rfl (lv_at hl 0 rfl) ?_
          refine va_get (D := gD g) (ci := 10) (v := .ref (q 11)) (C := RX12) (T := TX12) (N := 30) hx hb hts iX12 hown hK hP 0 rfl rfl 21 (by decide) (hts (.fieldLink RX12 40 "BeetleDriveModel" "ways" "[J") (List.mem_of_getElem? (i := 2) rfl)) (fun _ h9 => h9) rfl dX12_ordersFrom_34 ?_
          refine lv_aload_n hx hb dX12_ordersFrom_37 rfl (lv_at hl 0 rfl) ?_
          refine lv_iload_n hx hb dX12_ordersFrom_38 rfl (lv_at hl 1 rfl) ?_
          refine lv_iload hx hb dX12_ordersFrom_39 (lv_at hl 3 rfl) ?_
          obtain ⟨z6, hq7, hf⟩ := bnd_some hf
          refine kR_i (va_runS (As := [.int x1, .int x4]) (rest := [.ref (q 0), .ref (q 11), .long x2]) ⟨hx, hb, hml, hown, hts⟩ (c_X12_drawnBy l g x1 x4 z6 hq7) (va_cwS 2 hts gX12_ordersFrom_X12_drawnBy rfl rfl rfl (by decide +kernel) ⟨Nat.le_of_ble_eq_true rfl, Nat.le_of_ble_eq_true rfl⟩) (kpS_R hG (hP.subm (ws' := []) [] rfl)) rfl rfl hl.1 rfl (lv_room (Nat.le_of_ble_eq_true rfl)) dX12_ordersFrom_41 ⟨Nat.le_of_ble_eq_true rfl, Nat.le_of_ble_eq_true rfl⟩) ?_
          obtain ⟨z8, hq9, hf⟩ := bnd_some hf
          refine kR_i (va_runV (As := [.int z6]) (rest := [.ref (q 11), .long x2]) ⟨hx, hb, hml, hown, hts⟩ (c_X12_placeOf l g q v_holder v_games v_sights v_padMany v_acts v_nothings v_wholeNow v_badAct v_badWhy v_wholeAct v_wholeWho v_keptAt v_isWriting v_most z6 z8 hq9) (cwV 1 hts gX12_ordersFrom_X12_placeOf rfl rfl rfl (by decide +kernel) ⟨Nat.le_of_ble_eq_true rfl, Nat.le_of_ble_eq_true rfl⟩) (kpV_R (q0 := 0) (ci := 10) hG (hP.subm (ws' := [((q 0), .inr (10, oX12 q v_holder v_games v_sights v_padMany v_acts v_nothings v_wholeNow v_badAct v_badWhy v_wholeAct v_wholeWho v_keptAt v_isWriting)), ((q 1), .inl (gI g, 6, .inl v_most))]) [0, 1] rfl) rfl rfl) rfl rfl hl.1 rfl (lv_room (Nat.le_of_ble_eq_true rfl)) dX12_ordersFrom_44 ⟨Nat.le_of_ble_eq_true rfl, Nat.le_of_ble_eq_true rfl⟩) ?_
          obtain ⟨hi10, hf⟩ := chk_some hf
          refine va_lald hx hb hK hP 2 1 rfl rfl hi10 dX12_ordersFrom_47 ?_
          refine lv_goto (tgt := 52) hx hb dX12_ordersFrom_48 (by decide) ?_
          refine lv_ladd hx hb dX12_ordersFrom_52 ?_
          refine lv_lstore_n (lv' := [(2, .long (x2 + (v_ways (Int32.toNatClampNeg z8)))), (0, .ref (q 0)), (1, .int x1), (4, .int x4)]) hx hb dX12_ordersFrom_53 rfl hl (by decide) rfl (fun ls hl => ?_)
          refine lv_iinc (v := (x4 + 1)) (lv' := [(4, .int (x4 + 1)), (2, .long (x2 + (v_ways (Int32.toNatClampNeg z8)))), (0, .ref (q 0)), (1, .int x1)]) hx hb dX12_ordersFrom_54 hl (k := 3) rfl rfl (by decide) rfl (fun ls hl => ?_)
          refine lv_goto (tgt := 15) hx hb dX12_ordersFrom_57 (by decide) ?_
          exact ih x1 (x2 + (v_ways (Int32.toNatClampNeg z8))) (x4 + 1) hf ls (lv_sub hl [2, 3, 1, 0] rfl)
  unfold f_X12_ordersFrom at hf
  refine lv_iload_n hx hb dX12_ordersFrom_0 rfl (lv_at hl 1 rfl) ?_
  refine lv_ldc (v := 111622) hx hb hown (hts (.constant RX12 122 (111622)) (List.mem_of_getElem? (i := 1) rfl)) dX12_ordersFrom_1 ?_
  refine lv_icmp_ne (tgt := 10) hx hb dX12_ordersFrom_3 (by decide) (fun c1 => ?_) (fun c1 => ?_)
  · replace hf := iff_ c1 hf
    refine lv_lconst (v := 0) hx hb dX12_ordersFrom_10 (by decide) ?_
    refine lv_lstore_n (lv' := [(2, .long (0 : Int64)), (0, .ref (q 0)), (1, .int x1)]) hx hb dX12_ordersFrom_11 rfl hl (by decide) rfl (fun ls hl => ?_)
    refine lv_iconst (v := 1) hx hb dX12_ordersFrom_12 (by decide) ?_
    refine lv_istore (lv' := [(4, .int (1 : Int32)), (2, .long (0 : Int64)), (0, .ref (q 0)), (1, .int x1)]) hx hb dX12_ordersFrom_13 hl (by decide) rfl (fun ls hl => ?_)
    exact w_15 FU x1 (0 : Int64) (1 : Int32) hf ls (lv_sub hl [2, 3, 1, 0] rfl)
  · replace hf := ift c1 hf
    refine lv_lconst (v := 1) hx hb dX12_ordersFrom_6 (by decide) ?_
    refine lv_goto (tgt := 11) hx hb dX12_ordersFrom_7 (by decide) ?_
    refine lv_lstore_n (lv' := [(2, .long (1 : Int64)), (0, .ref (q 0)), (1, .int x1)]) hx hb dX12_ordersFrom_11 rfl hl (by decide) rfl (fun ls hl => ?_)
    refine lv_iconst (v := 1) hx hb dX12_ordersFrom_12 (by decide) ?_
    refine lv_istore (lv' := [(4, .int (1 : Int32)), (2, .long (1 : Int64)), (0, .ref (q 0)), (1, .int x1)]) hx hb dX12_ordersFrom_13 hl (by decide) rfl (fun ls hl => ?_)
    exact w_15 FU x1 (1 : Int64) (1 : Int32) hf ls (lv_sub hl [2, 3, 1, 0] rfl)
set_option maxHeartbeats 4000000 in
set_option maxRecDepth 100000 in
theorem c_X12_orders (l : Launch) (g : bG) (q : Nat → Nat) (v_holder : Int32) (v_games : Int32) (v_sights : Int32) (v_padMany : Int32) (v_acts : Int32) (v_nothings : Int32) (v_wholeNow : Int32) (v_badAct : Int32) (v_badWhy : Int32) (v_wholeAct : Int32) (v_wholeWho : Int32) (v_keptAt : Int32) (v_isWriting : Int32) (v_most : Nat → Int32) (v_ways : Nat → Int64) (x1 : Int32) (x2 : Int32) (out : Int32 × (Nat → Int64)) (hf : f_X12_orders v_most v_ways x1 x2 = some out) : Mi l g yX12_orders wsX12_orders ({ frames := 4, cells := 0, slots := 0, locals := 90 } : Room) [.ref (q 0), .int x1, .int x2] [((q 0), .inr (10, oX12 q v_holder v_games v_sights v_padMany v_acts v_nothings v_wholeNow v_badAct v_badWhy v_wholeAct v_wholeWho v_keptAt v_isWriting)), ((q 1), .inl (gI g, 6, .inl v_most)), ((q 11), .inl (gJ g, 504, .inr (.inl v_ways)))] out.1 [((q 0), .inr (10, oX12 q v_holder v_games v_sights v_padMany v_acts v_nothings v_wholeNow v_badAct v_badWhy v_wholeAct v_wholeWho v_keptAt v_isWriting)), ((q 1), .inl (gI g, 6, .inl v_most)), ((q 11), .inl (gJ g, 504, .inr (.inl out.2)))] := by
  refine ofM (Qc := fun A => Qi g out.1 [((q 0), .inr (10, oX12 q v_holder v_games v_sights v_padMany v_acts v_nothings v_wholeNow v_badAct v_badWhy v_wholeAct v_wholeWho v_keptAt v_isWriting)), ((q 1), .inl (gI g, 6, .inl v_most)), ((q 11), .inl (gJ g, 504, .inr (.inl out.2)))] A) (cc := cX12_orders) (nL := 5) (ret := some .int) (by decide) rfl (Nat.le_of_ble_eq_true rfl) ?_
  intro p e s m below meth c ar A hC hA hP hD hG ls hl
  have hS : va_S A s.heap s.heap [] := va_S.rf
  obtain ⟨hx, hb, hml, hown, hts, hr, hlk, -⟩ := hC
  have hl : lv_has ls 5 [(0, .ref (q 0)), (1, .int x1), (2, .int x2)] := hl
  have hK := hG.1
  have iX12 : ∀ w ∈ u_ws RX12 TX12 30, w ∈ wsX12_orders := fun w h => List.mem_cons_of_mem _ (List.mem_append_right _ (h))
  generalize hQ : MQ below (Qi g out.1 [((q 0), .inr (10, oX12 q v_holder v_games v_sights v_padMany v_acts v_nothings v_wholeNow v_badAct v_badWhy v_wholeAct v_wholeWho v_keptAt v_isWriting)), ((q 1), .inl (gI g, 6, .inl v_most)), ((q 11), .inl (gJ g, 504, .inr (.inl out.2)))] A) ar s 0 0 A = QQ
  have w_73 : ∀ n : Nat, ∀ (x1 : Int32) (x3 : Int32) (x4 : Int32) (v_ways : Nat → Int64), f_X12_orders_b73 v_most n x1 x3 x4 v_ways = some out → ∀ (H : Heap) (locs : List Loc), va_P (gD g) vwCl [((q 0), .inr (10, oX12 q v_holder v_games v_sights v_padMany v_acts v_nothings v_wholeNow v_badAct v_badWhy v_wholeAct v_wholeWho v_keptAt v_isWriting)), ((q 1), .inl (gI g, 6, .inl v_most)), ((q 11), .inl (gJ g, 504, .inr (.inl v_ways)))] H → va_D A [((q 0), .inr (10, oX12 q v_holder v_games v_sights v_padMany v_acts v_nothings v_wholeNow v_badAct v_badWhy v_wholeAct v_wholeWho v_keptAt v_isWriting)), ((q 1), .inl (gI g, 6, .inl v_most)), ((q 11), .inl (gJ g, 504, .inr (.inl v_ways)))] → va_S A s.heap H locs → ∀ ls : Array Slot, lv_has ls 5 [(0, .ref (q 0)), (1, .int x1), (3, .int x3), (4, .int x4)] → W p l e ({ frames := 4, cells := 0, slots := 0, locals := 90 } : Room) s m ar below meth c H locs 0 0 QQ (F0 m 73 ls []) := by
    intro n
    induction n with
    | zero =>
      intro x1 x3 x4 v_ways hf
      rw [f_X12_orders_b73_z] at hf
      cases hf
    | succ n ih =>
      intro x1 x3 x4 v_ways hf H locs hP hD hS ls hl
      rw [f_X12_orders_b73_s] at hf
      refine lv_iload hx hb dX12_orders_73 (lv_at hl 3 rfl) ?_
      refine lv_if_le (tgt := 101) hx hb dX12_orders_75 (by decide) (fun c9 => ?_) (fun c9 => ?_)
      · replace hf := ift c9 hf
        refine lv_iload_n hx hb dX12_orders_101 rfl (lv_at hl 2 rfl) ?_
        rw [← hQ, ← Option.some.inj hf]
        exact eM_i hx hb hr hlk hP hD hS rfl dX12_orders_102
      · replace hf := iff_ c9 hf
        refine lv_aload_n hx hb dX12_orders_78 rfl (lv_at hl 0 rfl) ?_
        refine lv_iload_n hx hb dX12_orders_79 rfl (lv_at hl 1 rfl) ?_
        refine lv_iload hx hb dX12_orders_80 (lv_at hl 3 rfl) ?_
        obtain ⟨z10, hq11, hf⟩ := bnd_some hf
        refine kR_i (va_runV (As := [.int x1, .int x4]) (rest := []) ⟨hx, hb, hml, hown, hts⟩ (c_X12_canDraw l g q v_holder v_games v_sights v_padMany v_acts v_nothings v_wholeNow v_badAct v_badWhy v_wholeAct v_wholeWho v_keptAt v_isWriting v_most x1 x4 z10 hq11) (cwV 2 hts gX12_orders_X12_canDraw rfl rfl rfl (by decide +kernel) ⟨Nat.le_of_ble_eq_true rfl, Nat.le_of_ble_eq_true rfl⟩) (kpV_R (q0 := 0) (ci := 10) (hG.now hS) (hP.subm (ws' := [((q 0), .inr (10, oX12 q v_holder v_games v_sights v_padMany v_acts v_nothings v_wholeNow v_badAct v_badWhy v_wholeAct v_wholeWho v_keptAt v_isWriting)), ((q 1), .inl (gI g, 6, .inl v_most))]) [0, 1] rfl) rfl rfl) rfl rfl hl.1 rfl (lv_room (Nat.le_of_ble_eq_true rfl)) dX12_orders_82 ⟨Nat.le_of_ble_eq_true rfl, Nat.le_of_ble_eq_true rfl⟩) ?_
        refine lv_if_eq (tgt := 93) hx hb dX12_orders_85 (by decide) (fun c12 => ?_) (fun c12 => ?_)
        · replace hf := ift c12 hf
          refine lv_iload_n hx hb dX12_orders_93 rfl (lv_at hl 2 rfl) ?_
          refine lv_istore_n (lv' := [(3, .int x3), (0, .ref (q 0)), (1, .int x1), (4, .int x4)]) hx hb dX12_orders_94 rfl hl (by decide) rfl (fun ls hl => ?_)
          refine lv_iinc (v := (x4 + (-1))) (lv' := [(4, .int (x4 + (-1))), (3, .int x3), (0, .ref (q 0)), (1, .int x1)]) hx hb dX12_orders_95 hl (k := 3) rfl rfl (by decide) rfl (fun ls hl => ?_)
          refine lv_goto (tgt := 73) hx hb dX12_orders_98 (by decide) ?_
          exact ih x1 x3 (x4 + (-1)) v_ways hf H locs hP hD hS ls (lv_sub hl [2, 3, 1, 0] rfl)
        · replace hf := iff_ c12 hf
          refine lv_iload hx hb dX12_orders_88 (lv_at hl 3 rfl) ?_
          refine lv_goto (tgt := 94) hx hb dX12_orders_90 (by decide) ?_
          refine lv_istore_n (lv' := [(3, .int x4), (0, .ref (q 0)), (1, .int x1), (4, .int x4)]) hx hb dX12_orders_94 rfl hl (by decide) rfl (fun ls hl => ?_)
          refine lv_iinc (v := (x4 + (-1))) (lv' := [(4, .int (x4 + (-1))), (3, .int x4), (0, .ref (q 0)), (1, .int x1)]) hx hb dX12_orders_95 hl (k := 3) rfl rfl (by decide) rfl (fun ls hl => ?_)
          refine lv_goto (tgt := 73) hx hb dX12_orders_98 (by decide) ?_
          exact ih x1 x4 (x4 + (-1)) v_ways hf H locs hP hD hS ls (lv_sub hl [2, 3, 1, 0] rfl)
  have w_25 : ∀ n : Nat, ∀ (x1 : Int32) (x2 : Int32) (x3 : Int32) (v_ways : Nat → Int64), f_X12_orders_b25 v_most n x1 x2 x3 v_ways = some out → ∀ (H : Heap) (locs : List Loc), va_P (gD g) vwCl [((q 0), .inr (10, oX12 q v_holder v_games v_sights v_padMany v_acts v_nothings v_wholeNow v_badAct v_badWhy v_wholeAct v_wholeWho v_keptAt v_isWriting)), ((q 1), .inl (gI g, 6, .inl v_most)), ((q 11), .inl (gJ g, 504, .inr (.inl v_ways)))] H → va_D A [((q 0), .inr (10, oX12 q v_holder v_games v_sights v_padMany v_acts v_nothings v_wholeNow v_badAct v_badWhy v_wholeAct v_wholeWho v_keptAt v_isWriting)), ((q 1), .inl (gI g, 6, .inl v_most)), ((q 11), .inl (gJ g, 504, .inr (.inl v_ways)))] → va_S A s.heap H locs → ∀ ls : Array Slot, lv_has ls 5 [(0, .ref (q 0)), (1, .int x1), (2, .int x2), (3, .int x3)] → W p l e ({ frames := 4, cells := 0, slots := 0, locals := 90 } : Room) s m ar below meth c H locs 0 0 QQ (F0 m 25 ls []) := by
    intro n
    induction n with
    | zero =>
      intro x1 x2 x3 v_ways hf
      rw [f_X12_orders_b25_z] at hf
      cases hf
    | succ n ih =>
      intro x1 x2 x3 v_ways hf H locs hP hD hS ls hl
      rw [f_X12_orders_b25_s] at hf
      refine lv_iload_n hx hb dX12_orders_25 rfl (lv_at hl 3 rfl) ?_
      refine lv_if_lt (tgt := 50) hx hb dX12_orders_26 (by decide) (fun c7 => ?_) (fun c7 => ?_)
      · replace hf := ift c7 hf
        refine lv_iload_n hx hb dX12_orders_50 rfl (lv_at hl 2 rfl) ?_
        refine lv_if_ne (tgt := 66) hx hb dX12_orders_51 (by decide) (fun c8 => ?_) (fun c8 => ?_)
        · replace hf := iff_ c8 hf
          refine lv_bipush (v := -6) hx hb dX12_orders_66 (by decide) ?_
          refine lv_istore_n (lv' := [(3, .int (-6 : Int32)), (0, .ref (q 0)), (1, .int x1), (2, .int x2)]) hx hb dX12_orders_68 rfl hl (by decide) rfl (fun ls hl => ?_)
          refine lv_bipush (v := 6) hx hb dX12_orders_69 (by decide) ?_
          refine lv_istore (lv' := [(4, .int (6 : Int32)), (3, .int (-6 : Int32)), (0, .ref (q 0)), (1, .int x1), (2, .int x2)]) hx hb dX12_orders_71 hl (by decide) rfl (fun ls hl => ?_)
          exact w_73 FU x1 (-6 : Int32) (6 : Int32) v_ways hf H locs hP hD hS ls (lv_sub hl [2, 3, 1, 0] rfl)
        · replace hf := ift c8 hf
          refine lv_aload_n hx hb dX12_orders_54 rfl (lv_at hl 0 rfl) ?_
          refine va_get (D := gD g) (ci := 10) (v := .ref (q 11)) (C := RX12) (T := TX12) (N := 30) hx hb hts iX12 hown hK hP 0 rfl rfl 21 (by decide) (hts (.fieldLink RX12 40 "BeetleDriveModel" "ways" "[J") (List.mem_of_getElem? (i := 1) rfl)) (fun _ h9 => h9) rfl dX12_orders_55 ?_
          refine lv_aload_n hx hb dX12_orders_58 rfl (lv_at hl 0 rfl) ?_
          refine lv_iload_n hx hb dX12_orders_59 rfl (lv_at hl 1 rfl) ?_
          obtain ⟨z13, hq14, hf⟩ := bnd_some hf
          refine kR_i (va_runV (As := [.int x1]) (rest := [.ref (q 11)]) ⟨hx, hb, hml, hown, hts⟩ (c_X12_placeOf l g q v_holder v_games v_sights v_padMany v_acts v_nothings v_wholeNow v_badAct v_badWhy v_wholeAct v_wholeWho v_keptAt v_isWriting v_most x1 z13 hq14) (cwV 1 hts gX12_orders_X12_placeOf rfl rfl rfl (by decide +kernel) ⟨Nat.le_of_ble_eq_true rfl, Nat.le_of_ble_eq_true rfl⟩) (kpV_R (q0 := 0) (ci := 10) (hG.now hS) (hP.subm (ws' := [((q 0), .inr (10, oX12 q v_holder v_games v_sights v_padMany v_acts v_nothings v_wholeNow v_badAct v_badWhy v_wholeAct v_wholeWho v_keptAt v_isWriting)), ((q 1), .inl (gI g, 6, .inl v_most))]) [0, 1] rfl) rfl rfl) rfl rfl hl.1 rfl (lv_room (Nat.le_of_ble_eq_true rfl)) dX12_orders_60 ⟨Nat.le_of_ble_eq_true rfl, Nat.le_of_ble_eq_true rfl⟩) ?_
          obtain ⟨hi15, hf⟩ := chk_some hf
          refine va_lald hx hb hK hP 2 1 rfl rfl hi15 dX12_orders_63 ?_
          refine lv_l2i (v := (Int64.toInt32 (v_ways (Int32.toNatClampNeg z13)))) hx hb dX12_orders_64 rfl ?_
          rw [← hQ, ← Option.some.inj hf]
          exact eM_i hx hb hr hlk hP hD hS rfl dX12_orders_65
      · replace hf := iff_ c7 hf
        refine lv_aload_n hx hb dX12_orders_29 rfl (lv_at hl 0 rfl) ?_
        refine va_get (D := gD g) (ci := 10) (v := .ref (q 11)) (C := RX12) (T := TX12) (N := 30) hx hb hts iX12 hown hK hP 0 rfl rfl 21 (by decide) (hts (.fieldLink RX12 40 "BeetleDriveModel" "ways" "[J") (List.mem_of_getElem? (i := 1) rfl)) (fun _ h9 => h9) rfl dX12_orders_30 ?_
        refine lv_iload_n hx hb dX12_orders_33 rfl (lv_at hl 3 rfl) ?_
        refine lv_aload_n hx hb dX12_orders_34 rfl (lv_at hl 0 rfl) ?_
        refine lv_aload_n hx hb dX12_orders_35 rfl (lv_at hl 0 rfl) ?_
        refine lv_iload_n hx hb dX12_orders_36 rfl (lv_at hl 3 rfl) ?_
        obtain ⟨z16, hq17, hf⟩ := bnd_some hf
        refine kR_i (va_runV (As := [.int x3]) (rest := [.ref (q 0), .int x3, .ref (q 11)]) ⟨hx, hb, hml, hown, hts⟩ (c_X12_drawnAt l g q v_holder v_games v_sights v_padMany v_acts v_nothings v_wholeNow v_badAct v_badWhy v_wholeAct v_wholeWho v_keptAt v_isWriting v_most x3 z16 hq17) (cwV 1 hts gX12_orders_X12_drawnAt rfl rfl rfl (by decide +kernel) ⟨Nat.le_of_ble_eq_true rfl, Nat.le_of_ble_eq_true rfl⟩) (kpV_R (q0 := 0) (ci := 10) (hG.now hS) (hP.subm (ws' := [((q 0), .inr (10, oX12 q v_holder v_games v_sights v_padMany v_acts v_nothings v_wholeNow v_badAct v_badWhy v_wholeAct v_wholeWho v_keptAt v_isWriting)), ((q 1), .inl (gI g, 6, .inl v_most))]) [0, 1] rfl) rfl rfl) rfl rfl hl.1 rfl (lv_room (Nat.le_of_ble_eq_true rfl)) dX12_orders_37 ⟨Nat.le_of_ble_eq_true rfl, Nat.le_of_ble_eq_true rfl⟩) ?_
        obtain ⟨z18, hq19, hf⟩ := bnd_some hf
        refine kR_l (va_runV (As := [.int z16]) (rest := [.int x3, .ref (q 11)]) ⟨hx, hb, hml, hown, hts⟩ (c_X12_ordersFrom l g q v_holder v_games v_sights v_padMany v_acts v_nothings v_wholeNow v_badAct v_badWhy v_wholeAct v_wholeWho v_keptAt v_isWriting v_most v_ways z16 z18 hq19) (cwV 1 hts gX12_orders_X12_ordersFrom rfl rfl rfl (by decide +kernel) ⟨Nat.le_of_ble_eq_true rfl, Nat.le_of_ble_eq_true rfl⟩) (kpV_R (q0 := 0) (ci := 10) (hG.now hS) (hP.subm (ws' := [((q 0), .inr (10, oX12 q v_holder v_games v_sights v_padMany v_acts v_nothings v_wholeNow v_badAct v_badWhy v_wholeAct v_wholeWho v_keptAt v_isWriting)), ((q 1), .inl (gI g, 6, .inl v_most)), ((q 11), .inl (gJ g, 504, .inr (.inl v_ways)))]) [0, 1, 2] rfl) rfl rfl) rfl rfl hl.1 rfl (lv_room (Nat.le_of_ble_eq_true rfl)) dX12_orders_40 ⟨Nat.le_of_ble_eq_true rfl, Nat.le_of_ble_eq_true rfl⟩) ?_
        obtain ⟨hi20, hf⟩ := chk_some hf
        refine va_last hx hb hK hP hD hS 2 1 rfl rfl hi20 dX12_orders_43 (fun H locs hP hD hS => ?_)
        have hP : va_P (gD g) vwCl [((q 0), .inr (10, oX12 q v_holder v_games v_sights v_padMany v_acts v_nothings v_wholeNow v_badAct v_badWhy v_wholeAct v_wholeWho v_keptAt v_isWriting)), ((q 1), .inl (gI g, 6, .inl v_most)), ((q 11), .inl (gJ g, 504, .inr (.inl (vp_updL v_ways (Int32.toNatClampNeg x3) z18))))] H := hP
        have hD : va_D A [((q 0), .inr (10, oX12 q v_holder v_games v_sights v_padMany v_acts v_nothings v_wholeNow v_badAct v_badWhy v_wholeAct v_wholeWho v_keptAt v_isWriting)), ((q 1), .inl (gI g, 6, .inl v_most)), ((q 11), .inl (gJ g, 504, .inr (.inl (vp_updL v_ways (Int32.toNatClampNeg x3) z18))))] := hD
        refine lv_iinc (v := (x3 + (-1))) (lv' := [(3, .int (x3 + (-1))), (0, .ref (q 0)), (1, .int x1), (2, .int x2)]) hx hb dX12_orders_44 hl (k := 3) rfl rfl (by decide) rfl (fun ls hl => ?_)
        refine lv_goto (tgt := 25) hx hb dX12_orders_47 (by decide) ?_
        exact ih x1 x2 (x3 + (-1)) (vp_updL v_ways (Int32.toNatClampNeg x3) z18) hf H locs hP hD hS ls (lv_sub hl [1, 2, 3, 0] rfl)
  unfold f_X12_orders at hf
  refine lv_aload_n hx hb dX12_orders_0 rfl (lv_at hl 0 rfl) ?_
  refine lv_iload_n hx hb dX12_orders_1 rfl (lv_at hl 1 rfl) ?_
  obtain ⟨z1, hq2, hf⟩ := bnd_some hf
  refine kR_i (va_runV (As := [.int x1]) (rest := []) ⟨hx, hb, hml, hown, hts⟩ (c_X12_isBeetle l g q v_holder v_games v_sights v_padMany v_acts v_nothings v_wholeNow v_badAct v_badWhy v_wholeAct v_wholeWho v_keptAt v_isWriting v_most x1 z1 hq2) (cwV 1 hts gX12_orders_X12_isBeetle rfl rfl rfl (by decide +kernel) ⟨Nat.le_of_ble_eq_true rfl, Nat.le_of_ble_eq_true rfl⟩) (kpV_R (q0 := 0) (ci := 10) (hG.now hS) (hP.subm (ws' := [((q 0), .inr (10, oX12 q v_holder v_games v_sights v_padMany v_acts v_nothings v_wholeNow v_badAct v_badWhy v_wholeAct v_wholeWho v_keptAt v_isWriting)), ((q 1), .inl (gI g, 6, .inl v_most))]) [0, 1] rfl) rfl rfl) rfl rfl hl.1 rfl (lv_room (Nat.le_of_ble_eq_true rfl)) dX12_orders_2 ⟨Nat.le_of_ble_eq_true rfl, Nat.le_of_ble_eq_true rfl⟩) ?_
  refine lv_if_eq (tgt := 18) hx hb dX12_orders_5 (by decide) (fun c3 => ?_) (fun c3 => ?_)
  · replace hf := ift c3 hf
    refine lv_bipush (v := -2) hx hb dX12_orders_18 (by decide) ?_
    rw [← hQ, ← Option.some.inj hf]
    exact eM_i hx hb hr hlk hP hD hS rfl dX12_orders_20
  · replace hf := iff_ c3 hf
    refine lv_iload_n hx hb dX12_orders_8 rfl (lv_at hl 2 rfl) ?_
    refine lv_i2l (v := (Int32.toInt64 x2)) hx hb dX12_orders_9 rfl ?_
    refine lv_lconst (v := 0) hx hb dX12_orders_10 (by decide) ?_
    refine lv_lconst (v := 1) hx hb dX12_orders_11 (by decide) ?_
    obtain ⟨z4, hq5, hf⟩ := bnd_some hf
    refine kR_i (va_runS (As := [.long (Int32.toInt64 x2), .long (0 : Int64), .long (1 : Int64)]) (rest := []) ⟨hx, hb, hml, hown, hts⟩ (c_X12_in l g (Int32.toInt64 x2) (0 : Int64) (1 : Int64) z4 hq5) (va_cwS 3 hts gX12_orders_X12_in rfl rfl rfl (by decide +kernel) ⟨Nat.le_of_ble_eq_true rfl, Nat.le_of_ble_eq_true rfl⟩) (kpS_R (hG.now hS) (hP.subm (ws' := []) [] rfl)) rfl rfl hl.1 rfl (lv_room (Nat.le_of_ble_eq_true rfl)) dX12_orders_12 ⟨Nat.le_of_ble_eq_true rfl, Nat.le_of_ble_eq_true rfl⟩) ?_
    refine lv_if_ne (tgt := 21) hx hb dX12_orders_15 (by decide) (fun c6 => ?_) (fun c6 => ?_)
    · replace hf := iff_ c6 hf
      refine lv_sipush (v := 503) hx hb dX12_orders_21 (by decide) ?_
      refine lv_istore_n (lv' := [(3, .int (503 : Int32)), (0, .ref (q 0)), (1, .int x1), (2, .int x2)]) hx hb dX12_orders_24 rfl hl (by decide) rfl (fun ls hl => ?_)
      exact w_25 FU x1 x2 (503 : Int32) v_ways hf s.heap [] hP hD hS ls (lv_sub hl [1, 2, 3, 0] rfl)
    · replace hf := ift c6 hf
      refine lv_bipush (v := -2) hx hb dX12_orders_18 (by decide) ?_
      rw [← hQ, ← Option.some.inj hf]
      exact eM_i hx hb hr hlk hP hD hS rfl dX12_orders_20
set_option maxHeartbeats 4000000 in
set_option maxRecDepth 100000 in
theorem c_X12_castsFrom (l : Launch) (g : bG) (q : Nat → Nat) (v_holder : Int32) (v_games : Int32) (v_sights : Int32) (v_padMany : Int32) (v_acts : Int32) (v_nothings : Int32) (v_wholeNow : Int32) (v_badAct : Int32) (v_badWhy : Int32) (v_wholeAct : Int32) (v_wholeWho : Int32) (v_keptAt : Int32) (v_isWriting : Int32) (v_most : Nat → Int32) (v_ahead : Nat → Int64) (x1 : Int32) (out : Int64) (hf : f_X12_castsFrom v_most v_ahead x1 = some out) : Rl l g yX12_castsFrom wsX12_castsFrom ({ frames := 3, cells := 0, slots := 0, locals := 66 } : Room) [.ref (q 0), .int x1] [((q 0), .inr (10, oX12 q v_holder v_games v_sights v_padMany v_acts v_nothings v_wholeNow v_badAct v_badWhy v_wholeAct v_wholeWho v_keptAt v_isWriting)), ((q 1), .inl (gI g, 6, .inl v_most)), ((q 12), .inl (gJ g, 504, .inr (.inl v_ahead)))] out := by
  refine ofR (cc := cX12_castsFrom) (nL := 7) (ret := some .long) (by decide) rfl (Nat.le_of_ble_eq_true rfl) ?_
  intro p e s m below meth c ar hC hP hG ls hl
  have hS : va_S (fun _ => False) s.heap s.heap [] := va_S.rf
  obtain ⟨hx, hb, hml, hown, hts, hr, hlk, -⟩ := hC
  have hl : lv_has ls 7 [(0, .ref (q 0)), (1, .int x1)] := hl
  have hK := hG.1
  have iX12 : ∀ w ∈ u_ws RX12 TX12 30, w ∈ wsX12_castsFrom := fun w h => List.mem_cons_of_mem _ (List.mem_append_right _ (h))
  generalize hQ : MQ below (vp_Sl (fun x => x = out)) ar s 0 0 (fun _ => False) = QQ
  have w_42 : ∀ (k11 : Int32 → Int32 → Int64 → Int32 → Option (Int64)), (∀ (x1 : Int32) (x2 : Int32) (x3 : Int64) (x5 : Int32), k11 x1 x2 x3 x5 = some out → ∀ ls : Array Slot, lv_has ls 7 [(0, .ref (q 0)), (1, .int x1), (2, .int x2), (3, .long x3), (5, .int x5)] → W p l e ({ frames := 3, cells := 0, slots := 0, locals := 66 } : Room) s m ar below meth c s.heap [] 0 0 QQ (F0 m 11 ls [])) → ∀ (y0 : Int32) (x1 : Int32) (x2 : Int32) (x3 : Int64) (x5 : Int32), f_X12_castsFrom_b42 v_most v_ahead k11 y0 x1 x2 x3 x5 = some out → ∀ ls : Array Slot, lv_has ls 7 [(0, .ref (q 0)), (1, .int x1), (2, .int x2), (3, .long x3), (5, .int x5)] → W p l e ({ frames := 3, cells := 0, slots := 0, locals := 66 } : Room) s m ar below meth c s.heap [] 0 0 QQ (F0 m 42 ls [.int y0]) := by
    intro k11 hk11 y0 x1 x2 x3 x5 hf ls hl
    unfold f_X12_castsFrom_b42 at hf
    refine lv_istore (lv' := [(6, .int y0), (0, .ref (q 0)), (1, .int x1), (2, .int x2), (3, .long x3), (5, .int x5)]) hx hb dX12_castsFrom_42 hl (by decide) rfl (fun ls hl => ?_)
    refine lv_lload_n hx hb dX12_castsFrom_44 rfl (lv_at hl 4 rfl) ?_
    refine lv_aload_n hx hb dX12_castsFrom_45 rfl (lv_at hl 1 rfl) ?_
    refine va_get (D := gD g) (ci := 10) (v := .ref (q 12)) (C := RX12) (T := TX12) (N := 30) hx hb hts iX12 hown hK hP 0 rfl rfl 22 (by decide) (hts (.fieldLink RX12 44 "BeetleDriveModel" "ahead" "[J") (List.mem_of_getElem? (i := 1) rfl)) (fun _ h9 => h9) rfl dX12_castsFrom_46 ?_
    refine lv_iload hx hb dX12_castsFrom_49 (lv_at hl 0 rfl) ?_
    obtain ⟨hi7, hf⟩ := chk_some hf
    refine va_lald hx hb hK hP 2 1 rfl rfl hi7 dX12_castsFrom_51 ?_
    refine lv_ladd hx hb dX12_castsFrom_52 ?_
    refine lv_lstore_n (lv' := [(3, .long (x3 + (v_ahead (Int32.toNatClampNeg y0)))), (6, .int y0), (0, .ref (q 0)), (1, .int x1), (2, .int x2), (5, .int x5)]) hx hb dX12_castsFrom_53 rfl hl (by decide) rfl (fun ls hl => ?_)
    refine lv_iinc (v := (x5 + 1)) (lv' := [(5, .int (x5 + 1)), (3, .long (x3 + (v_ahead (Int32.toNatClampNeg y0)))), (6, .int y0), (0, .ref (q 0)), (1, .int x1), (2, .int x2)]) hx hb dX12_castsFrom_54 hl (k := 5) rfl rfl (by decide) rfl (fun ls hl => ?_)
    refine lv_goto (tgt := 11) hx hb dX12_castsFrom_57 (by decide) ?_
    exact hk11 x1 x2 (x3 + (v_ahead (Int32.toNatClampNeg y0))) (x5 + 1) hf ls (lv_sub hl [3, 4, 5, 1, 0] rfl)
  have w_11 : ∀ n : Nat, ∀ (x1 : Int32) (x2 : Int32) (x3 : Int64) (x5 : Int32), f_X12_castsFrom_b11 v_most v_ahead n x1 x2 x3 x5 = some out → ∀ ls : Array Slot, lv_has ls 7 [(0, .ref (q 0)), (1, .int x1), (2, .int x2), (3, .long x3), (5, .int x5)] → W p l e ({ frames := 3, cells := 0, slots := 0, locals := 66 } : Room) s m ar below meth c s.heap [] 0 0 QQ (F0 m 11 ls []) := by
    intro n
    induction n with
    | zero =>
      intro x1 x2 x3 x5 hf
      rw [f_X12_castsFrom_b11_z] at hf
      cases hf
    | succ n ih =>
      intro x1 x2 x3 x5 hf ls hl
      rw [f_X12_castsFrom_b11_s] at hf
      refine lv_iload hx hb dX12_castsFrom_11 (lv_at hl 4 rfl) ?_
      refine lv_bipush (v := 6) hx hb dX12_castsFrom_13 (by decide) ?_
      refine lv_icmp_gt (tgt := 60) hx hb dX12_castsFrom_15 (by decide) (fun c3 => ?_) (fun c3 => ?_)
      · replace hf := ift c3 hf
        refine lv_lload_n hx hb dX12_castsFrom_60 rfl (lv_at hl 3 rfl) ?_
        rw [← hQ, ← Option.some.inj hf]
        exact eR_l hx hb hr hlk rfl dX12_castsFrom_61
      · replace hf := iff_ c3 hf
        refine lv_aload_n hx hb dX12_castsFrom_18 rfl (lv_at hl 0 rfl) ?_
        refine lv_iload_n hx hb dX12_castsFrom_19 rfl (lv_at hl 2 rfl) ?_
        refine lv_iload hx hb dX12_castsFrom_20 (lv_at hl 4 rfl) ?_
        obtain ⟨z4, hq5, hf⟩ := bnd_some hf
        refine kR_i (va_runV (As := [.int x2, .int x5]) (rest := []) ⟨hx, hb, hml, hown, hts⟩ (c_X12_canDraw l g q v_holder v_games v_sights v_padMany v_acts v_nothings v_wholeNow v_badAct v_badWhy v_wholeAct v_wholeWho v_keptAt v_isWriting v_most x2 x5 z4 hq5) (cwV 2 hts gX12_castsFrom_X12_canDraw rfl rfl rfl (by decide +kernel) ⟨Nat.le_of_ble_eq_true rfl, Nat.le_of_ble_eq_true rfl⟩) (kpV_R (q0 := 0) (ci := 10) hG (hP.subm (ws' := [((q 0), .inr (10, oX12 q v_holder v_games v_sights v_padMany v_acts v_nothings v_wholeNow v_badAct v_badWhy v_wholeAct v_wholeWho v_keptAt v_isWriting)), ((q 1), .inl (gI g, 6, .inl v_most))]) [0, 1] rfl) rfl rfl) rfl rfl hl.1 rfl (lv_room (Nat.le_of_ble_eq_true rfl)) dX12_castsFrom_22 ⟨Nat.le_of_ble_eq_true rfl, Nat.le_of_ble_eq_true rfl⟩) ?_
        refine lv_if_eq (tgt := 41) hx hb dX12_castsFrom_25 (by decide) (fun c6 => ?_) (fun c6 => ?_)
        · replace hf := ift c6 hf
          refine lv_iload_n hx hb dX12_castsFrom_41 rfl (lv_at hl 1 rfl) ?_
          exact w_42 (f_X12_castsFrom_b11 v_most v_ahead n) ih x1 x1 x2 x3 x5 hf ls (lv_sub hl [0, 1, 2, 3, 4] rfl)
        · replace hf := iff_ c6 hf
          refine lv_aload_n hx hb dX12_castsFrom_28 rfl (lv_at hl 0 rfl) ?_
          refine lv_iload_n hx hb dX12_castsFrom_29 rfl (lv_at hl 2 rfl) ?_
          refine lv_iload hx hb dX12_castsFrom_30 (lv_at hl 4 rfl) ?_
          obtain ⟨z8, hq9, hf⟩ := bnd_some hf
          refine kR_i (va_runS (As := [.int x2, .int x5]) (rest := [.ref (q 0)]) ⟨hx, hb, hml, hown, hts⟩ (c_X12_drawnBy l g x2 x5 z8 hq9) (va_cwS 2 hts gX12_castsFrom_X12_drawnBy rfl rfl rfl (by decide +kernel) ⟨Nat.le_of_ble_eq_true rfl, Nat.le_of_ble_eq_true rfl⟩) (kpS_R hG (hP.subm (ws' := []) [] rfl)) rfl rfl hl.1 rfl (lv_room (Nat.le_of_ble_eq_true rfl)) dX12_castsFrom_32 ⟨Nat.le_of_ble_eq_true rfl, Nat.le_of_ble_eq_true rfl⟩) ?_
          obtain ⟨z10, hq11, hf⟩ := bnd_some hf
          refine kR_i (va_runV (As := [.int z8]) (rest := []) ⟨hx, hb, hml, hown, hts⟩ (c_X12_placeOf l g q v_holder v_games v_sights v_padMany v_acts v_nothings v_wholeNow v_badAct v_badWhy v_wholeAct v_wholeWho v_keptAt v_isWriting v_most z8 z10 hq11) (cwV 1 hts gX12_castsFrom_X12_placeOf rfl rfl rfl (by decide +kernel) ⟨Nat.le_of_ble_eq_true rfl, Nat.le_of_ble_eq_true rfl⟩) (kpV_R (q0 := 0) (ci := 10) hG (hP.subm (ws' := [((q 0), .inr (10, oX12 q v_holder v_games v_sights v_padMany v_acts v_nothings v_wholeNow v_badAct v_badWhy v_wholeAct v_wholeWho v_keptAt v_isWriting)), ((q 1), .inl (gI g, 6, .inl v_most))]) [0, 1] rfl) rfl rfl) rfl rfl hl.1 rfl (lv_room (Nat.le_of_ble_eq_true rfl)) dX12_castsFrom_35 ⟨Nat.le_of_ble_eq_true rfl, Nat.le_of_ble_eq_true rfl⟩) ?_
          refine lv_goto (tgt := 42) hx hb dX12_castsFrom_38 (by decide) ?_
          exact w_42 (f_X12_castsFrom_b11 v_most v_ahead n) ih z10 x1 x2 x3 x5 hf ls (lv_sub hl [0, 1, 2, 3, 4] rfl)
  unfold f_X12_castsFrom at hf
  refine lv_aload_n hx hb dX12_castsFrom_0 rfl (lv_at hl 0 rfl) ?_
  refine lv_iload_n hx hb dX12_castsFrom_1 rfl (lv_at hl 1 rfl) ?_
  obtain ⟨z1, hq2, hf⟩ := bnd_some hf
  refine kR_i (va_runV (As := [.int x1]) (rest := []) ⟨hx, hb, hml, hown, hts⟩ (c_X12_drawnAt l g q v_holder v_games v_sights v_padMany v_acts v_nothings v_wholeNow v_badAct v_badWhy v_wholeAct v_wholeWho v_keptAt v_isWriting v_most x1 z1 hq2) (cwV 1 hts gX12_castsFrom_X12_drawnAt rfl rfl rfl (by decide +kernel) ⟨Nat.le_of_ble_eq_true rfl, Nat.le_of_ble_eq_true rfl⟩) (kpV_R (q0 := 0) (ci := 10) hG (hP.subm (ws' := [((q 0), .inr (10, oX12 q v_holder v_games v_sights v_padMany v_acts v_nothings v_wholeNow v_badAct v_badWhy v_wholeAct v_wholeWho v_keptAt v_isWriting)), ((q 1), .inl (gI g, 6, .inl v_most))]) [0, 1] rfl) rfl rfl) rfl rfl hl.1 rfl (lv_room (Nat.le_of_ble_eq_true rfl)) dX12_castsFrom_2 ⟨Nat.le_of_ble_eq_true rfl, Nat.le_of_ble_eq_true rfl⟩) ?_
  refine lv_istore_n (lv' := [(2, .int z1), (0, .ref (q 0)), (1, .int x1)]) hx hb dX12_castsFrom_5 rfl hl (by decide) rfl (fun ls hl => ?_)
  refine lv_lconst (v := 0) hx hb dX12_castsFrom_6 (by decide) ?_
  refine lv_lstore_n (lv' := [(3, .long (0 : Int64)), (2, .int z1), (0, .ref (q 0)), (1, .int x1)]) hx hb dX12_castsFrom_7 rfl hl (by decide) rfl (fun ls hl => ?_)
  refine lv_iconst (v := 1) hx hb dX12_castsFrom_8 (by decide) ?_
  refine lv_istore (lv' := [(5, .int (1 : Int32)), (3, .long (0 : Int64)), (2, .int z1), (0, .ref (q 0)), (1, .int x1)]) hx hb dX12_castsFrom_9 hl (by decide) rfl (fun ls hl => ?_)
  exact w_11 FU x1 z1 (0 : Int64) (1 : Int32) hf ls (lv_sub hl [3, 4, 2, 1, 0] rfl)
set_option maxHeartbeats 4000000 in
set_option maxRecDepth 100000 in
theorem c_X12_divisor (l : Launch) (g : bG) (x0 : Int64) (x2 : Int64) (out : Int64) (hf : f_X12_divisor x0 x2 = some out) : Rl l g yX12_divisor wsX12_divisor ({ frames := 0, cells := 0, slots := 0, locals := 0 } : Room) [.long x0, .long x2] [] out := by
  refine ofR (cc := cX12_divisor) (nL := 10) (ret := some .long) (by decide) rfl (Nat.le_of_ble_eq_true rfl) ?_
  intro p e s m below meth c ar hC hP hG ls hl
  have hS : va_S (fun _ => False) s.heap s.heap [] := va_S.rf
  obtain ⟨hx, hb, hml, hown, hts, hr, hlk, -⟩ := hC
  have hl : lv_has ls 10 [(0, .long x0), (2, .long x2)] := hl
  have hK := hG.1
  generalize hQ : MQ below (vp_Sl (fun x => x = out)) ar s 0 0 (fun _ => False) = QQ
  have w_6 : ∀ n : Nat, ∀ (x4 : Int64) (x6 : Int64), f_X12_divisor_b6 n x4 x6 = some out → ∀ ls : Array Slot, lv_has ls 10 [(4, .long x4), (6, .long x6)] → W p l e ({ frames := 0, cells := 0, slots := 0, locals := 0 } : Room) s m ar below meth c s.heap [] 0 0 QQ (F0 m 6 ls []) := by
    intro n
    induction n with
    | zero =>
      intro x4 x6 hf
      rw [f_X12_divisor_b6_z] at hf
      cases hf
    | succ n ih =>
      intro x4 x6 hf ls hl
      rw [f_X12_divisor_b6_s] at hf
      refine lv_lload hx hb dX12_divisor_6 (lv_at hl 1 rfl) ?_
      refine lv_lconst (v := 0) hx hb dX12_divisor_8 (by decide) ?_
      refine W.lcmp hx hb dX12_divisor_9 ?_
      refine lv_if_eq (tgt := 31) hx hb dX12_divisor_10 (by decide) (fun c1 => ?_) (fun c1 => ?_)
      · replace hf := ift c1 hf
        refine lv_lload hx hb dX12_divisor_31 (lv_at hl 0 rfl) ?_
        rw [← hQ, ← Option.some.inj hf]
        exact eR_l hx hb hr hlk rfl dX12_divisor_33
      · replace hf := iff_ c1 hf
        refine lv_lload hx hb dX12_divisor_13 (lv_at hl 0 rfl) ?_
        refine lv_lload hx hb dX12_divisor_15 (lv_at hl 1 rfl) ?_
        obtain ⟨hz2, hf⟩ := nzl_some hf
        refine lv_lrem hx hb dX12_divisor_17 hz2 ?_
        refine lv_lstore (lv' := [(8, .long (x4 - x4 / x6 * x6)), (4, .long x4), (6, .long x6)]) hx hb dX12_divisor_18 hl (by decide) rfl (fun ls hl => ?_)
        refine lv_lload hx hb dX12_divisor_20 (lv_at hl 2 rfl) ?_
        refine lv_lstore (lv' := [(4, .long x6), (8, .long (x4 - x4 / x6 * x6)), (6, .long x6)]) hx hb dX12_divisor_22 hl (by decide) rfl (fun ls hl => ?_)
        refine lv_lload hx hb dX12_divisor_24 (lv_at hl 1 rfl) ?_
        refine lv_lstore (lv' := [(6, .long (x4 - x4 / x6 * x6)), (4, .long x6), (8, .long (x4 - x4 / x6 * x6))]) hx hb dX12_divisor_26 hl (by decide) rfl (fun ls hl => ?_)
        refine lv_goto (tgt := 6) hx hb dX12_divisor_28 (by decide) ?_
        exact ih x6 (x4 - x4 / x6 * x6) hf ls (lv_sub hl [1, 0] rfl)
  unfold f_X12_divisor at hf
  refine lv_lload_n hx hb dX12_divisor_0 rfl (lv_at hl 1 rfl) ?_
  refine lv_lstore (lv' := [(4, .long x2), (0, .long x0), (2, .long x2)]) hx hb dX12_divisor_1 hl (by decide) rfl (fun ls hl => ?_)
  refine lv_lload_n hx hb dX12_divisor_3 rfl (lv_at hl 1 rfl) ?_
  refine lv_lstore (lv' := [(6, .long x0), (4, .long x2), (0, .long x0), (2, .long x2)]) hx hb dX12_divisor_4 hl (by decide) rfl (fun ls hl => ?_)
  exact w_6 FU x2 x0 hf ls (lv_sub hl [1, 0] rfl)
set_option maxHeartbeats 4000000 in
set_option maxRecDepth 100000 in
theorem c_X12_whole (l : Launch) (g : bG) (q : Nat → Nat) (v_holder : Int32) (v_games : Int32) (v_sights : Int32) (v_padMany : Int32) (v_acts : Int32) (v_nothings : Int32) (v_wholeNow : Int32) (v_badAct : Int32) (v_badWhy : Int32) (v_wholeAct : Int32) (v_wholeWho : Int32) (v_keptAt : Int32) (v_isWriting : Int32) (v_most : Nat → Int32) (v_ways : Nat → Int64) (v_ahead : Nat → Int64) (x1 : Int32) (x2 : Int32) (x3 : Int32) (out : Int64 × (Nat → Int64) × (Nat → Int64)) (hf : f_X12_whole v_most v_ways v_ahead x1 x2 x3 = some out) : Ml l g yX12_whole wsX12_whole ({ frames := 4, cells := 0, slots := 0, locals := 92 } : Room) [.ref (q 0), .int x1, .int x2, .int x3] [((q 0), .inr (10, oX12 q v_holder v_games v_sights v_padMany v_acts v_nothings v_wholeNow v_badAct v_badWhy v_wholeAct v_wholeWho v_keptAt v_isWriting)), ((q 1), .inl (gI g, 6, .inl v_most)), ((q 11), .inl (gJ g, 504, .inr (.inl v_ways))), ((q 12), .inl (gJ g, 504, .inr (.inl v_ahead)))] out.1 [((q 0), .inr (10, oX12 q v_holder v_games v_sights v_padMany v_acts v_nothings v_wholeNow v_badAct v_badWhy v_wholeAct v_wholeWho v_keptAt v_isWriting)), ((q 1), .inl (gI g, 6, .inl v_most)), ((q 11), .inl (gJ g, 504, .inr (.inl out.2.1))), ((q 12), .inl (gJ g, 504, .inr (.inl out.2.2)))] := by
  refine ofM (Qc := fun A => Ql g out.1 [((q 0), .inr (10, oX12 q v_holder v_games v_sights v_padMany v_acts v_nothings v_wholeNow v_badAct v_badWhy v_wholeAct v_wholeWho v_keptAt v_isWriting)), ((q 1), .inl (gI g, 6, .inl v_most)), ((q 11), .inl (gJ g, 504, .inr (.inl out.2.1))), ((q 12), .inl (gJ g, 504, .inr (.inl out.2.2)))] A) (cc := cX12_whole) (nL := 10) (ret := some .long) (by decide) rfl (Nat.le_of_ble_eq_true rfl) ?_
  intro p e s m below meth c ar A hC hA hP hD hG ls hl
  have hS : va_S A s.heap s.heap [] := va_S.rf
  obtain ⟨hx, hb, hml, hown, hts, hr, hlk, -⟩ := hC
  have hl : lv_has ls 10 [(0, .ref (q 0)), (1, .int x1), (2, .int x2), (3, .int x3)] := hl
  have hK := hG.1
  have iX12 : ∀ w ∈ u_ws RX12 TX12 30, w ∈ wsX12_whole := fun w h => List.mem_cons_of_mem _ (List.mem_append_right _ (h))
  generalize hQ : MQ below (Ql g out.1 [((q 0), .inr (10, oX12 q v_holder v_games v_sights v_padMany v_acts v_nothings v_wholeNow v_badAct v_badWhy v_wholeAct v_wholeWho v_keptAt v_isWriting)), ((q 1), .inl (gI g, 6, .inl v_most)), ((q 11), .inl (gJ g, 504, .inr (.inl out.2.1))), ((q 12), .inl (gJ g, 504, .inr (.inl out.2.2)))] A) ar s 0 0 A = QQ
  have w_128 : ∀ (k80 : Int32 → Int32 → Int32 → Int64 → Int32 → (Nat → Int64) → (Nat → Int64) → Option (Int64 × (Nat → Int64) × (Nat → Int64))), (∀ (x1 : Int32) (x2 : Int32) (x3 : Int32) (x4 : Int64) (x6 : Int32) (v_ways : Nat → Int64) (v_ahead : Nat → Int64), k80 x1 x2 x3 x4 x6 v_ways v_ahead = some out → ∀ (H : Heap) (locs : List Loc), va_P (gD g) vwCl [((q 0), .inr (10, oX12 q v_holder v_games v_sights v_padMany v_acts v_nothings v_wholeNow v_badAct v_badWhy v_wholeAct v_wholeWho v_keptAt v_isWriting)), ((q 1), .inl (gI g, 6, .inl v_most)), ((q 11), .inl (gJ g, 504, .inr (.inl v_ways))), ((q 12), .inl (gJ g, 504, .inr (.inl v_ahead)))] H → va_D A [((q 0), .inr (10, oX12 q v_holder v_games v_sights v_padMany v_acts v_nothings v_wholeNow v_badAct v_badWhy v_wholeAct v_wholeWho v_keptAt v_isWriting)), ((q 1), .inl (gI g, 6, .inl v_most)), ((q 11), .inl (gJ g, 504, .inr (.inl v_ways))), ((q 12), .inl (gJ g, 504, .inr (.inl v_ahead)))] → va_S A s.heap H locs → ∀ ls : Array Slot, lv_has ls 10 [(0, .ref (q 0)), (1, .int x1), (2, .int x2), (3, .int x3), (4, .long x4), (6, .int x6)] → W p l e ({ frames := 4, cells := 0, slots := 0, locals := 92 } : Room) s m ar below meth c H locs 0 0 QQ (F0 m 80 ls [])) → ∀ n : Nat, ∀ (x1 : Int32) (x2 : Int32) (x3 : Int32) (x4 : Int64) (x6 : Int32) (x7 : Int32) (v_ways : Nat → Int64) (v_ahead : Nat → Int64), f_X12_whole_b128 v_most k80 n x1 x2 x3 x4 x6 x7 v_ways v_ahead = some out → ∀ (H : Heap) (locs : List Loc), va_P (gD g) vwCl [((q 0), .inr (10, oX12 q v_holder v_games v_sights v_padMany v_acts v_nothings v_wholeNow v_badAct v_badWhy v_wholeAct v_wholeWho v_keptAt v_isWriting)), ((q 1), .inl (gI g, 6, .inl v_most)), ((q 11), .inl (gJ g, 504, .inr (.inl v_ways))), ((q 12), .inl (gJ g, 504, .inr (.inl v_ahead)))] H → va_D A [((q 0), .inr (10, oX12 q v_holder v_games v_sights v_padMany v_acts v_nothings v_wholeNow v_badAct v_badWhy v_wholeAct v_wholeWho v_keptAt v_isWriting)), ((q 1), .inl (gI g, 6, .inl v_most)), ((q 11), .inl (gJ g, 504, .inr (.inl v_ways))), ((q 12), .inl (gJ g, 504, .inr (.inl v_ahead)))] → va_S A s.heap H locs → ∀ ls : Array Slot, lv_has ls 10 [(0, .ref (q 0)), (1, .int x1), (2, .int x2), (3, .int x3), (4, .long x4), (6, .int x6), (7, .int x7)] → W p l e ({ frames := 4, cells := 0, slots := 0, locals := 92 } : Room) s m ar below meth c H locs 0 0 QQ (F0 m 128 ls []) := by
    intro k80 hk80 n
    induction n with
    | zero =>
      intro x1 x2 x3 x4 x6 x7 v_ways v_ahead hf
      rw [f_X12_whole_b128_z] at hf
      cases hf
    | succ n ih =>
      intro x1 x2 x3 x4 x6 x7 v_ways v_ahead hf H locs hP hD hS ls hl
      rw [f_X12_whole_b128_s] at hf
      refine lv_iload hx hb dX12_whole_128 (lv_at hl 6 rfl) ?_
      refine lv_sipush (v := 504) hx hb dX12_whole_130 (by decide) ?_
      refine lv_icmp_ge (tgt := 155) hx hb dX12_whole_133 (by decide) (fun c21 => ?_) (fun c21 => ?_)
      · replace hf := ift c21 hf
        refine lv_iinc (v := (x6 + 1)) (lv' := [(6, .int (x6 + 1)), (0, .ref (q 0)), (1, .int x1), (2, .int x2), (3, .int x3), (4, .long x4), (7, .int x7)]) hx hb dX12_whole_155 hl (k := 5) rfl rfl (by decide) rfl (fun ls hl => ?_)
        refine lv_goto (tgt := 80) hx hb dX12_whole_158 (by decide) ?_
        exact hk80 x1 x2 x3 x4 (x6 + 1) v_ways v_ahead hf H locs hP hD hS ls (lv_sub hl [1, 2, 3, 4, 5, 0] rfl)
      · replace hf := iff_ c21 hf
        refine lv_aload_n hx hb dX12_whole_136 rfl (lv_at hl 0 rfl) ?_
        refine va_get (D := gD g) (ci := 10) (v := .ref (q 11)) (C := RX12) (T := TX12) (N := 30) hx hb hts iX12 hown hK hP 0 rfl rfl 21 (by decide) (hts (.fieldLink RX12 40 "BeetleDriveModel" "ways" "[J") (List.mem_of_getElem? (i := 3) rfl)) (fun _ h9 => h9) rfl dX12_whole_137 ?_
        refine lv_iload hx hb dX12_whole_140 (lv_at hl 6 rfl) ?_
        refine lv_aload_n hx hb dX12_whole_142 rfl (lv_at hl 0 rfl) ?_
        refine lv_iload hx hb dX12_whole_143 (lv_at hl 6 rfl) ?_
        obtain ⟨z22, hq23, hf⟩ := bnd_some hf
        refine kR_l (va_runV (As := [.int x7]) (rest := [.int x7, .ref (q 11)]) ⟨hx, hb, hml, hown, hts⟩ (c_X12_castsFrom l g q v_holder v_games v_sights v_padMany v_acts v_nothings v_wholeNow v_badAct v_badWhy v_wholeAct v_wholeWho v_keptAt v_isWriting v_most v_ahead x7 z22 hq23) (cwV 1 hts gX12_whole_X12_castsFrom rfl rfl rfl (by decide +kernel) ⟨Nat.le_of_ble_eq_true rfl, Nat.le_of_ble_eq_true rfl⟩) (kpV_R (q0 := 0) (ci := 10) (hG.now hS) (hP.subm (ws' := [((q 0), .inr (10, oX12 q v_holder v_games v_sights v_padMany v_acts v_nothings v_wholeNow v_badAct v_badWhy v_wholeAct v_wholeWho v_keptAt v_isWriting)), ((q 1), .inl (gI g, 6, .inl v_most)), ((q 12), .inl (gJ g, 504, .inr (.inl v_ahead)))]) [0, 1, 3] rfl) rfl rfl) rfl rfl hl.1 rfl (lv_room (Nat.le_of_ble_eq_true rfl)) dX12_whole_145 ⟨Nat.le_of_ble_eq_true rfl, Nat.le_of_ble_eq_true rfl⟩) ?_
        obtain ⟨hi24, hf⟩ := chk_some hf
        refine va_last hx hb hK hP hD hS 2 1 rfl rfl hi24 dX12_whole_148 (fun H locs hP hD hS => ?_)
        have hP : va_P (gD g) vwCl [((q 0), .inr (10, oX12 q v_holder v_games v_sights v_padMany v_acts v_nothings v_wholeNow v_badAct v_badWhy v_wholeAct v_wholeWho v_keptAt v_isWriting)), ((q 1), .inl (gI g, 6, .inl v_most)), ((q 11), .inl (gJ g, 504, .inr (.inl (vp_updL v_ways (Int32.toNatClampNeg x7) z22)))), ((q 12), .inl (gJ g, 504, .inr (.inl v_ahead)))] H := hP
        have hD : va_D A [((q 0), .inr (10, oX12 q v_holder v_games v_sights v_padMany v_acts v_nothings v_wholeNow v_badAct v_badWhy v_wholeAct v_wholeWho v_keptAt v_isWriting)), ((q 1), .inl (gI g, 6, .inl v_most)), ((q 11), .inl (gJ g, 504, .inr (.inl (vp_updL v_ways (Int32.toNatClampNeg x7) z22)))), ((q 12), .inl (gJ g, 504, .inr (.inl v_ahead)))] := hD
        refine lv_iinc (v := (x7 + 1)) (lv' := [(7, .int (x7 + 1)), (0, .ref (q 0)), (1, .int x1), (2, .int x2), (3, .int x3), (4, .long x4), (6, .int x6)]) hx hb dX12_whole_149 hl (k := 6) rfl rfl (by decide) rfl (fun ls hl => ?_)
        refine lv_goto (tgt := 128) hx hb dX12_whole_152 (by decide) ?_
        exact ih x1 x2 x3 x4 x6 (x7 + 1) (vp_updL v_ways (Int32.toNatClampNeg x7) z22) v_ahead hf H locs hP hD hS ls (lv_sub hl [1, 2, 3, 4, 5, 6, 0] rfl)
  have w_97 : ∀ (k80 : Int32 → Int32 → Int32 → Int64 → Int32 → (Nat → Int64) → (Nat → Int64) → Option (Int64 × (Nat → Int64) × (Nat → Int64))), (∀ (x1 : Int32) (x2 : Int32) (x3 : Int32) (x4 : Int64) (x6 : Int32) (v_ways : Nat → Int64) (v_ahead : Nat → Int64), k80 x1 x2 x3 x4 x6 v_ways v_ahead = some out → ∀ (H : Heap) (locs : List Loc), va_P (gD g) vwCl [((q 0), .inr (10, oX12 q v_holder v_games v_sights v_padMany v_acts v_nothings v_wholeNow v_badAct v_badWhy v_wholeAct v_wholeWho v_keptAt v_isWriting)), ((q 1), .inl (gI g, 6, .inl v_most)), ((q 11), .inl (gJ g, 504, .inr (.inl v_ways))), ((q 12), .inl (gJ g, 504, .inr (.inl v_ahead)))] H → va_D A [((q 0), .inr (10, oX12 q v_holder v_games v_sights v_padMany v_acts v_nothings v_wholeNow v_badAct v_badWhy v_wholeAct v_wholeWho v_keptAt v_isWriting)), ((q 1), .inl (gI g, 6, .inl v_most)), ((q 11), .inl (gJ g, 504, .inr (.inl v_ways))), ((q 12), .inl (gJ g, 504, .inr (.inl v_ahead)))] → va_S A s.heap H locs → ∀ ls : Array Slot, lv_has ls 10 [(0, .ref (q 0)), (1, .int x1), (2, .int x2), (3, .int x3), (4, .long x4), (6, .int x6)] → W p l e ({ frames := 4, cells := 0, slots := 0, locals := 92 } : Room) s m ar below meth c H locs 0 0 QQ (F0 m 80 ls [])) → ∀ n : Nat, ∀ (x1 : Int32) (x2 : Int32) (x3 : Int32) (x4 : Int64) (x6 : Int32) (x7 : Int32) (v_ways : Nat → Int64) (v_ahead : Nat → Int64), f_X12_whole_b97 v_most k80 n x1 x2 x3 x4 x6 x7 v_ways v_ahead = some out → ∀ (H : Heap) (locs : List Loc), va_P (gD g) vwCl [((q 0), .inr (10, oX12 q v_holder v_games v_sights v_padMany v_acts v_nothings v_wholeNow v_badAct v_badWhy v_wholeAct v_wholeWho v_keptAt v_isWriting)), ((q 1), .inl (gI g, 6, .inl v_most)), ((q 11), .inl (gJ g, 504, .inr (.inl v_ways))), ((q 12), .inl (gJ g, 504, .inr (.inl v_ahead)))] H → va_D A [((q 0), .inr (10, oX12 q v_holder v_games v_sights v_padMany v_acts v_nothings v_wholeNow v_badAct v_badWhy v_wholeAct v_wholeWho v_keptAt v_isWriting)), ((q 1), .inl (gI g, 6, .inl v_most)), ((q 11), .inl (gJ g, 504, .inr (.inl v_ways))), ((q 12), .inl (gJ g, 504, .inr (.inl v_ahead)))] → va_S A s.heap H locs → ∀ ls : Array Slot, lv_has ls 10 [(0, .ref (q 0)), (1, .int x1), (2, .int x2), (3, .int x3), (4, .long x4), (6, .int x6), (7, .int x7)] → W p l e ({ frames := 4, cells := 0, slots := 0, locals := 92 } : Room) s m ar below meth c H locs 0 0 QQ (F0 m 97 ls []) := by
    intro k80 hk80 n
    induction n with
    | zero =>
      intro x1 x2 x3 x4 x6 x7 v_ways v_ahead hf
      rw [f_X12_whole_b97_z] at hf
      cases hf
    | succ n ih =>
      intro x1 x2 x3 x4 x6 x7 v_ways v_ahead hf H locs hP hD hS ls hl
      rw [f_X12_whole_b97_s] at hf
      refine lv_iload hx hb dX12_whole_97 (lv_at hl 6 rfl) ?_
      refine lv_sipush (v := 504) hx hb dX12_whole_99 (by decide) ?_
      refine lv_icmp_ge (tgt := 125) hx hb dX12_whole_102 (by decide) (fun c20 => ?_) (fun c20 => ?_)
      · replace hf := ift c20 hf
        refine lv_iconst (v := 0) hx hb dX12_whole_125 (by decide) ?_
        refine lv_istore (lv' := [(7, .int (0 : Int32)), (0, .ref (q 0)), (1, .int x1), (2, .int x2), (3, .int x3), (4, .long x4), (6, .int x6)]) hx hb dX12_whole_126 hl (by decide) rfl (fun ls hl => ?_)
        exact w_128 k80 hk80 FU x1 x2 x3 x4 x6 (0 : Int32) v_ways v_ahead hf H locs hP hD hS ls (lv_sub hl [1, 2, 3, 4, 5, 6, 0] rfl)
      · replace hf := iff_ c20 hf
        refine lv_aload_n hx hb dX12_whole_105 rfl (lv_at hl 0 rfl) ?_
        refine va_get (D := gD g) (ci := 10) (v := .ref (q 12)) (C := RX12) (T := TX12) (N := 30) hx hb hts iX12 hown hK hP 0 rfl rfl 22 (by decide) (hts (.fieldLink RX12 44 "BeetleDriveModel" "ahead" "[J") (List.mem_of_getElem? (i := 6) rfl)) (fun _ h9 => h9) rfl dX12_whole_106 ?_
        refine lv_iload hx hb dX12_whole_109 (lv_at hl 6 rfl) ?_
        refine lv_aload_n hx hb dX12_whole_111 rfl (lv_at hl 0 rfl) ?_
        refine va_get (D := gD g) (ci := 10) (v := .ref (q 11)) (C := RX12) (T := TX12) (N := 30) hx hb hts iX12 hown hK hP 0 rfl rfl 21 (by decide) (hts (.fieldLink RX12 40 "BeetleDriveModel" "ways" "[J") (List.mem_of_getElem? (i := 3) rfl)) (fun _ h9 => h9) rfl dX12_whole_112 ?_
        refine lv_iload hx hb dX12_whole_115 (lv_at hl 6 rfl) ?_
        obtain ⟨hi25, hf⟩ := chk_some hf
        refine va_lald hx hb hK hP 2 1 rfl rfl hi25 dX12_whole_117 ?_
        obtain ⟨hi26, hf⟩ := chk_some hf
        refine va_last hx hb hK hP hD hS 3 1 rfl rfl hi26 dX12_whole_118 (fun H locs hP hD hS => ?_)
        have hP : va_P (gD g) vwCl [((q 0), .inr (10, oX12 q v_holder v_games v_sights v_padMany v_acts v_nothings v_wholeNow v_badAct v_badWhy v_wholeAct v_wholeWho v_keptAt v_isWriting)), ((q 1), .inl (gI g, 6, .inl v_most)), ((q 11), .inl (gJ g, 504, .inr (.inl v_ways))), ((q 12), .inl (gJ g, 504, .inr (.inl (vp_updL v_ahead (Int32.toNatClampNeg x7) (v_ways (Int32.toNatClampNeg x7))))))] H := hP
        have hD : va_D A [((q 0), .inr (10, oX12 q v_holder v_games v_sights v_padMany v_acts v_nothings v_wholeNow v_badAct v_badWhy v_wholeAct v_wholeWho v_keptAt v_isWriting)), ((q 1), .inl (gI g, 6, .inl v_most)), ((q 11), .inl (gJ g, 504, .inr (.inl v_ways))), ((q 12), .inl (gJ g, 504, .inr (.inl (vp_updL v_ahead (Int32.toNatClampNeg x7) (v_ways (Int32.toNatClampNeg x7))))))] := hD
        refine lv_iinc (v := (x7 + 1)) (lv' := [(7, .int (x7 + 1)), (0, .ref (q 0)), (1, .int x1), (2, .int x2), (3, .int x3), (4, .long x4), (6, .int x6)]) hx hb dX12_whole_119 hl (k := 6) rfl rfl (by decide) rfl (fun ls hl => ?_)
        refine lv_goto (tgt := 97) hx hb dX12_whole_122 (by decide) ?_
        exact ih x1 x2 x3 x4 x6 (x7 + 1) v_ways (vp_updL v_ahead (Int32.toNatClampNeg x7) (v_ways (Int32.toNatClampNeg x7))) hf H locs hP hD hS ls (lv_sub hl [1, 2, 3, 4, 5, 6, 0] rfl)
  have w_80 : ∀ n : Nat, ∀ (x1 : Int32) (x2 : Int32) (x3 : Int32) (x4 : Int64) (x6 : Int32) (v_ways : Nat → Int64) (v_ahead : Nat → Int64), f_X12_whole_b80 v_most n x1 x2 x3 x4 x6 v_ways v_ahead = some out → ∀ (H : Heap) (locs : List Loc), va_P (gD g) vwCl [((q 0), .inr (10, oX12 q v_holder v_games v_sights v_padMany v_acts v_nothings v_wholeNow v_badAct v_badWhy v_wholeAct v_wholeWho v_keptAt v_isWriting)), ((q 1), .inl (gI g, 6, .inl v_most)), ((q 11), .inl (gJ g, 504, .inr (.inl v_ways))), ((q 12), .inl (gJ g, 504, .inr (.inl v_ahead)))] H → va_D A [((q 0), .inr (10, oX12 q v_holder v_games v_sights v_padMany v_acts v_nothings v_wholeNow v_badAct v_badWhy v_wholeAct v_wholeWho v_keptAt v_isWriting)), ((q 1), .inl (gI g, 6, .inl v_most)), ((q 11), .inl (gJ g, 504, .inr (.inl v_ways))), ((q 12), .inl (gJ g, 504, .inr (.inl v_ahead)))] → va_S A s.heap H locs → ∀ ls : Array Slot, lv_has ls 10 [(0, .ref (q 0)), (1, .int x1), (2, .int x2), (3, .int x3), (4, .long x4), (6, .int x6)] → W p l e ({ frames := 4, cells := 0, slots := 0, locals := 92 } : Room) s m ar below meth c H locs 0 0 QQ (F0 m 80 ls []) := by
    intro n
    induction n with
    | zero =>
      intro x1 x2 x3 x4 x6 v_ways v_ahead hf
      rw [f_X12_whole_b80_z] at hf
      cases hf
    | succ n ih =>
      intro x1 x2 x3 x4 x6 v_ways v_ahead hf H locs hP hD hS ls hl
      rw [f_X12_whole_b80_s] at hf
      refine lv_iload hx hb dX12_whole_80 (lv_at hl 5 rfl) ?_
      refine lv_iload_n hx hb dX12_whole_82 rfl (lv_at hl 2 rfl) ?_
      refine lv_icmp_ge (tgt := 161) hx hb dX12_whole_83 (by decide) (fun c11 => ?_) (fun c11 => ?_)
      · replace hf := ift c11 hf
        refine lv_aload_n hx hb dX12_whole_161 rfl (lv_at hl 0 rfl) ?_
        refine va_get (D := gD g) (ci := 10) (v := .ref (q 11)) (C := RX12) (T := TX12) (N := 30) hx hb hts iX12 hown hK hP 0 rfl rfl 21 (by decide) (hts (.fieldLink RX12 40 "BeetleDriveModel" "ways" "[J") (List.mem_of_getElem? (i := 3) rfl)) (fun _ h9 => h9) rfl dX12_whole_162 ?_
        refine lv_aload_n hx hb dX12_whole_165 rfl (lv_at hl 0 rfl) ?_
        refine lv_iload_n hx hb dX12_whole_166 rfl (lv_at hl 1 rfl) ?_
        obtain ⟨z12, hq13, hf⟩ := bnd_some hf
        refine kR_i (va_runV (As := [.int x1]) (rest := [.ref (q 11)]) ⟨hx, hb, hml, hown, hts⟩ (c_X12_placeOf l g q v_holder v_games v_sights v_padMany v_acts v_nothings v_wholeNow v_badAct v_badWhy v_wholeAct v_wholeWho v_keptAt v_isWriting v_most x1 z12 hq13) (cwV 1 hts gX12_whole_X12_placeOf rfl rfl rfl (by decide +kernel) ⟨Nat.le_of_ble_eq_true rfl, Nat.le_of_ble_eq_true rfl⟩) (kpV_R (q0 := 0) (ci := 10) (hG.now hS) (hP.subm (ws' := [((q 0), .inr (10, oX12 q v_holder v_games v_sights v_padMany v_acts v_nothings v_wholeNow v_badAct v_badWhy v_wholeAct v_wholeWho v_keptAt v_isWriting)), ((q 1), .inl (gI g, 6, .inl v_most))]) [0, 1] rfl) rfl rfl) rfl rfl hl.1 rfl (lv_room (Nat.le_of_ble_eq_true rfl)) dX12_whole_167 ⟨Nat.le_of_ble_eq_true rfl, Nat.le_of_ble_eq_true rfl⟩) ?_
        obtain ⟨hi14, hf⟩ := chk_some hf
        refine va_lald hx hb hK hP 2 1 rfl rfl hi14 dX12_whole_170 ?_
        refine lv_lstore (lv' := [(6, .long (v_ways (Int32.toNatClampNeg z12))), (0, .ref (q 0)), (1, .int x1), (2, .int x2), (3, .int x3), (4, .long x4)]) hx hb dX12_whole_171 hl (by decide) rfl (fun ls hl => ?_)
        refine lv_lload hx hb dX12_whole_173 (lv_at hl 0 rfl) ?_
        refine lv_lload hx hb dX12_whole_175 (lv_at hl 5 rfl) ?_
        obtain ⟨z15, hq16, hf⟩ := bnd_some hf
        refine kR_l (va_runS (As := [.long (v_ways (Int32.toNatClampNeg z12)), .long x4]) (rest := []) ⟨hx, hb, hml, hown, hts⟩ (c_X12_divisor l g (v_ways (Int32.toNatClampNeg z12)) x4 z15 hq16) (va_cwS 2 hts gX12_whole_X12_divisor rfl rfl rfl (by decide +kernel) ⟨Nat.le_of_ble_eq_true rfl, Nat.le_of_ble_eq_true rfl⟩) (kpS_R (hG.now hS) (hP.subm (ws' := []) [] rfl)) rfl rfl hl.1 rfl (lv_room (Nat.le_of_ble_eq_true rfl)) dX12_whole_177 ⟨Nat.le_of_ble_eq_true rfl, Nat.le_of_ble_eq_true rfl⟩) ?_
        refine lv_lstore (lv' := [(8, .long z15), (6, .long (v_ways (Int32.toNatClampNeg z12))), (0, .ref (q 0)), (1, .int x1), (2, .int x2), (3, .int x3), (4, .long x4)]) hx hb dX12_whole_180 hl (by decide) rfl (fun ls hl => ?_)
        refine lv_iload_n hx hb dX12_whole_182 rfl (lv_at hl 5 rfl) ?_
        refine lv_if_ne (tgt := 194) hx hb dX12_whole_183 (by decide) (fun c17 => ?_) (fun c17 => ?_)
        · replace hf := iff_ c17 hf
          refine lv_lload hx hb dX12_whole_194 (lv_at hl 6 rfl) ?_
          refine lv_lload hx hb dX12_whole_196 (lv_at hl 0 rfl) ?_
          obtain ⟨hz18, hf⟩ := nzl_some hf
          refine lv_ldiv hx hb dX12_whole_198 hz18 ?_
          rw [← hQ, ← Option.some.inj hf]
          exact eM_l hx hb hr hlk hP hD hS rfl dX12_whole_199
        · replace hf := ift c17 hf
          refine lv_lload hx hb dX12_whole_186 (lv_at hl 1 rfl) ?_
          refine lv_lload hx hb dX12_whole_188 (lv_at hl 0 rfl) ?_
          obtain ⟨hz19, hf⟩ := nzl_some hf
          refine lv_ldiv hx hb dX12_whole_190 hz19 ?_
          refine lv_goto (tgt := 199) hx hb dX12_whole_191 (by decide) ?_
          rw [← hQ, ← Option.some.inj hf]
          exact eM_l hx hb hr hlk hP hD hS rfl dX12_whole_199
      · replace hf := iff_ c11 hf
        refine lv_lload hx hb dX12_whole_86 (lv_at hl 4 rfl) ?_
        refine lv_ldc2 (v := 6) hx hb hown (hts (.constantLong RX12 229 (6)) (List.mem_of_getElem? (i := 5) rfl)) dX12_whole_88 ?_
        refine lv_lmul hx hb dX12_whole_91 ?_
        refine lv_lstore (lv' := [(4, .long (x4 * (6 : Int64))), (0, .ref (q 0)), (1, .int x1), (2, .int x2), (3, .int x3), (6, .int x6)]) hx hb dX12_whole_92 hl (by decide) rfl (fun ls hl => ?_)
        refine lv_iconst (v := 0) hx hb dX12_whole_94 (by decide) ?_
        refine lv_istore (lv' := [(7, .int (0 : Int32)), (4, .long (x4 * (6 : Int64))), (0, .ref (q 0)), (1, .int x1), (2, .int x2), (3, .int x3), (6, .int x6)]) hx hb dX12_whole_95 hl (by decide) rfl (fun ls hl => ?_)
        exact w_97 (f_X12_whole_b80 v_most n) ih FU x1 x2 x3 (x4 * (6 : Int64)) x6 (0 : Int32) v_ways v_ahead hf H locs hP hD hS ls (lv_sub hl [2, 3, 4, 5, 1, 6, 0] rfl)
  have w_40 : ∀ n : Nat, ∀ (x1 : Int32) (x2 : Int32) (x3 : Int32) (x4 : Int64) (x6 : Int32) (v_ways : Nat → Int64) (v_ahead : Nat → Int64), f_X12_whole_b40 v_most n x1 x2 x3 x4 x6 v_ways v_ahead = some out → ∀ (H : Heap) (locs : List Loc), va_P (gD g) vwCl [((q 0), .inr (10, oX12 q v_holder v_games v_sights v_padMany v_acts v_nothings v_wholeNow v_badAct v_badWhy v_wholeAct v_wholeWho v_keptAt v_isWriting)), ((q 1), .inl (gI g, 6, .inl v_most)), ((q 11), .inl (gJ g, 504, .inr (.inl v_ways))), ((q 12), .inl (gJ g, 504, .inr (.inl v_ahead)))] H → va_D A [((q 0), .inr (10, oX12 q v_holder v_games v_sights v_padMany v_acts v_nothings v_wholeNow v_badAct v_badWhy v_wholeAct v_wholeWho v_keptAt v_isWriting)), ((q 1), .inl (gI g, 6, .inl v_most)), ((q 11), .inl (gJ g, 504, .inr (.inl v_ways))), ((q 12), .inl (gJ g, 504, .inr (.inl v_ahead)))] → va_S A s.heap H locs → ∀ ls : Array Slot, lv_has ls 10 [(0, .ref (q 0)), (1, .int x1), (2, .int x2), (3, .int x3), (4, .long x4), (6, .int x6)] → W p l e ({ frames := 4, cells := 0, slots := 0, locals := 92 } : Room) s m ar below meth c H locs 0 0 QQ (F0 m 40 ls []) := by
    intro n
    induction n with
    | zero =>
      intro x1 x2 x3 x4 x6 v_ways v_ahead hf
      rw [f_X12_whole_b40_z] at hf
      cases hf
    | succ n ih =>
      intro x1 x2 x3 x4 x6 v_ways v_ahead hf H locs hP hD hS ls hl
      rw [f_X12_whole_b40_s] at hf
      refine lv_iload hx hb dX12_whole_40 (lv_at hl 5 rfl) ?_
      refine lv_sipush (v := 504) hx hb dX12_whole_42 (by decide) ?_
      refine lv_icmp_ge (tgt := 77) hx hb dX12_whole_45 (by decide) (fun c10 => ?_) (fun c10 => ?_)
      · replace hf := ift c10 hf
        refine lv_iconst (v := 0) hx hb dX12_whole_77 (by decide) ?_
        refine lv_istore (lv' := [(6, .int (0 : Int32)), (0, .ref (q 0)), (1, .int x1), (2, .int x2), (3, .int x3), (4, .long x4)]) hx hb dX12_whole_78 hl (by decide) rfl (fun ls hl => ?_)
        exact w_80 FU x1 x2 x3 x4 (0 : Int32) v_ways v_ahead hf H locs hP hD hS ls (lv_sub hl [1, 2, 3, 4, 5, 0] rfl)
      · replace hf := iff_ c10 hf
        refine lv_aload_n hx hb dX12_whole_48 rfl (lv_at hl 0 rfl) ?_
        refine va_get (D := gD g) (ci := 10) (v := .ref (q 11)) (C := RX12) (T := TX12) (N := 30) hx hb hts iX12 hown hK hP 0 rfl rfl 21 (by decide) (hts (.fieldLink RX12 40 "BeetleDriveModel" "ways" "[J") (List.mem_of_getElem? (i := 3) rfl)) (fun _ h9 => h9) rfl dX12_whole_49 ?_
        refine lv_iload hx hb dX12_whole_52 (lv_at hl 5 rfl) ?_
        refine lv_aload_n hx hb dX12_whole_54 rfl (lv_at hl 0 rfl) ?_
        refine lv_iload hx hb dX12_whole_55 (lv_at hl 5 rfl) ?_
        obtain ⟨z27, hq28, hf⟩ := bnd_some hf
        refine kR_i (va_runV (As := [.int x6]) (rest := [.int x6, .ref (q 11)]) ⟨hx, hb, hml, hown, hts⟩ (c_X12_drawnAt l g q v_holder v_games v_sights v_padMany v_acts v_nothings v_wholeNow v_badAct v_badWhy v_wholeAct v_wholeWho v_keptAt v_isWriting v_most x6 z27 hq28) (cwV 1 hts gX12_whole_X12_drawnAt rfl rfl rfl (by decide +kernel) ⟨Nat.le_of_ble_eq_true rfl, Nat.le_of_ble_eq_true rfl⟩) (kpV_R (q0 := 0) (ci := 10) (hG.now hS) (hP.subm (ws' := [((q 0), .inr (10, oX12 q v_holder v_games v_sights v_padMany v_acts v_nothings v_wholeNow v_badAct v_badWhy v_wholeAct v_wholeWho v_keptAt v_isWriting)), ((q 1), .inl (gI g, 6, .inl v_most))]) [0, 1] rfl) rfl rfl) rfl rfl hl.1 rfl (lv_room (Nat.le_of_ble_eq_true rfl)) dX12_whole_57 ⟨Nat.le_of_ble_eq_true rfl, Nat.le_of_ble_eq_true rfl⟩) ?_
        refine lv_ldc (v := 111622) hx hb hown (hts (.constant RX12 122 (111622)) (List.mem_of_getElem? (i := 4) rfl)) dX12_whole_60 ?_
        refine lv_icmp_ne (tgt := 69) hx hb dX12_whole_62 (by decide) (fun c29 => ?_) (fun c29 => ?_)
        · replace hf := iff_ c29 hf
          refine lv_lconst (v := 0) hx hb dX12_whole_69 (by decide) ?_
          obtain ⟨hi30, hf⟩ := chk_some hf
          refine va_last hx hb hK hP hD hS 2 1 rfl rfl hi30 dX12_whole_70 (fun H locs hP hD hS => ?_)
          have hP : va_P (gD g) vwCl [((q 0), .inr (10, oX12 q v_holder v_games v_sights v_padMany v_acts v_nothings v_wholeNow v_badAct v_badWhy v_wholeAct v_wholeWho v_keptAt v_isWriting)), ((q 1), .inl (gI g, 6, .inl v_most)), ((q 11), .inl (gJ g, 504, .inr (.inl (vp_updL v_ways (Int32.toNatClampNeg x6) (0 : Int64))))), ((q 12), .inl (gJ g, 504, .inr (.inl v_ahead)))] H := hP
          have hD : va_D A [((q 0), .inr (10, oX12 q v_holder v_games v_sights v_padMany v_acts v_nothings v_wholeNow v_badAct v_badWhy v_wholeAct v_wholeWho v_keptAt v_isWriting)), ((q 1), .inl (gI g, 6, .inl v_most)), ((q 11), .inl (gJ g, 504, .inr (.inl (vp_updL v_ways (Int32.toNatClampNeg x6) (0 : Int64))))), ((q 12), .inl (gJ g, 504, .inr (.inl v_ahead)))] := hD
          refine lv_iinc (v := (x6 + 1)) (lv' := [(6, .int (x6 + 1)), (0, .ref (q 0)), (1, .int x1), (2, .int x2), (3, .int x3), (4, .long x4)]) hx hb dX12_whole_71 hl (k := 5) rfl rfl (by decide) rfl (fun ls hl => ?_)
          refine lv_goto (tgt := 40) hx hb dX12_whole_74 (by decide) ?_
          exact ih x1 x2 x3 x4 (x6 + 1) (vp_updL v_ways (Int32.toNatClampNeg x6) (0 : Int64)) v_ahead hf H locs hP hD hS ls (lv_sub hl [1, 2, 3, 4, 5, 0] rfl)
        · replace hf := ift c29 hf
          refine lv_lconst (v := 1) hx hb dX12_whole_65 (by decide) ?_
          refine lv_goto (tgt := 70) hx hb dX12_whole_66 (by decide) ?_
          obtain ⟨hi31, hf⟩ := chk_some hf
          refine va_last hx hb hK hP hD hS 2 1 rfl rfl hi31 dX12_whole_70 (fun H locs hP hD hS => ?_)
          have hP : va_P (gD g) vwCl [((q 0), .inr (10, oX12 q v_holder v_games v_sights v_padMany v_acts v_nothings v_wholeNow v_badAct v_badWhy v_wholeAct v_wholeWho v_keptAt v_isWriting)), ((q 1), .inl (gI g, 6, .inl v_most)), ((q 11), .inl (gJ g, 504, .inr (.inl (vp_updL v_ways (Int32.toNatClampNeg x6) (1 : Int64))))), ((q 12), .inl (gJ g, 504, .inr (.inl v_ahead)))] H := hP
          have hD : va_D A [((q 0), .inr (10, oX12 q v_holder v_games v_sights v_padMany v_acts v_nothings v_wholeNow v_badAct v_badWhy v_wholeAct v_wholeWho v_keptAt v_isWriting)), ((q 1), .inl (gI g, 6, .inl v_most)), ((q 11), .inl (gJ g, 504, .inr (.inl (vp_updL v_ways (Int32.toNatClampNeg x6) (1 : Int64))))), ((q 12), .inl (gJ g, 504, .inr (.inl v_ahead)))] := hD
          refine lv_iinc (v := (x6 + 1)) (lv' := [(6, .int (x6 + 1)), (0, .ref (q 0)), (1, .int x1), (2, .int x2), (3, .int x3), (4, .long x4)]) hx hb dX12_whole_71 hl (k := 5) rfl rfl (by decide) rfl (fun ls hl => ?_)
          refine lv_goto (tgt := 40) hx hb dX12_whole_74 (by decide) ?_
          exact ih x1 x2 x3 x4 (x6 + 1) (vp_updL v_ways (Int32.toNatClampNeg x6) (1 : Int64)) v_ahead hf H locs hP hD hS ls (lv_sub hl [1, 2, 3, 4, 5, 0] rfl)
  unfold f_X12_whole at hf
  refine lv_aload_n hx hb dX12_whole_0 rfl (lv_at hl 0 rfl) ?_
  refine lv_iload_n hx hb dX12_whole_1 rfl (lv_at hl 1 rfl) ?_
  obtain ⟨z1, hq2, hf⟩ := bnd_some hf
  refine kR_i (va_runV (As := [.int x1]) (rest := []) ⟨hx, hb, hml, hown, hts⟩ (c_X12_isBeetle l g q v_holder v_games v_sights v_padMany v_acts v_nothings v_wholeNow v_badAct v_badWhy v_wholeAct v_wholeWho v_keptAt v_isWriting v_most x1 z1 hq2) (cwV 1 hts gX12_whole_X12_isBeetle rfl rfl rfl (by decide +kernel) ⟨Nat.le_of_ble_eq_true rfl, Nat.le_of_ble_eq_true rfl⟩) (kpV_R (q0 := 0) (ci := 10) (hG.now hS) (hP.subm (ws' := [((q 0), .inr (10, oX12 q v_holder v_games v_sights v_padMany v_acts v_nothings v_wholeNow v_badAct v_badWhy v_wholeAct v_wholeWho v_keptAt v_isWriting)), ((q 1), .inl (gI g, 6, .inl v_most))]) [0, 1] rfl) rfl rfl) rfl rfl hl.1 rfl (lv_room (Nat.le_of_ble_eq_true rfl)) dX12_whole_2 ⟨Nat.le_of_ble_eq_true rfl, Nat.le_of_ble_eq_true rfl⟩) ?_
  refine lv_if_eq (tgt := 30) hx hb dX12_whole_5 (by decide) (fun c3 => ?_) (fun c3 => ?_)
  · replace hf := ift c3 hf
    refine lv_ldc2 (v := -1000000000000000002) hx hb hown (hts (.constantLong RX12 227 (-1000000000000000002)) (List.mem_of_getElem? (i := 2) rfl)) dX12_whole_30 ?_
    rw [← hQ, ← Option.some.inj hf]
    exact eM_l hx hb hr hlk hP hD hS rfl dX12_whole_33
  · replace hf := iff_ c3 hf
    refine lv_iload_n hx hb dX12_whole_8 rfl (lv_at hl 2 rfl) ?_
    refine lv_i2l (v := (Int32.toInt64 x2)) hx hb dX12_whole_9 rfl ?_
    refine lv_lconst (v := 0) hx hb dX12_whole_10 (by decide) ?_
    refine lv_ldc2 (v := 24) hx hb hown (hts (.constantLong RX12 225 (24)) (List.mem_of_getElem? (i := 1) rfl)) dX12_whole_11 ?_
    obtain ⟨z4, hq5, hf⟩ := bnd_some hf
    refine kR_i (va_runS (As := [.long (Int32.toInt64 x2), .long (0 : Int64), .long (24 : Int64)]) (rest := []) ⟨hx, hb, hml, hown, hts⟩ (c_X12_in l g (Int32.toInt64 x2) (0 : Int64) (24 : Int64) z4 hq5) (va_cwS 3 hts gX12_whole_X12_in rfl rfl rfl (by decide +kernel) ⟨Nat.le_of_ble_eq_true rfl, Nat.le_of_ble_eq_true rfl⟩) (kpS_R (hG.now hS) (hP.subm (ws' := []) [] rfl)) rfl rfl hl.1 rfl (lv_room (Nat.le_of_ble_eq_true rfl)) dX12_whole_14 ⟨Nat.le_of_ble_eq_true rfl, Nat.le_of_ble_eq_true rfl⟩) ?_
    refine lv_if_eq (tgt := 30) hx hb dX12_whole_17 (by decide) (fun c6 => ?_) (fun c6 => ?_)
    · replace hf := ift c6 hf
      refine lv_ldc2 (v := -1000000000000000002) hx hb hown (hts (.constantLong RX12 227 (-1000000000000000002)) (List.mem_of_getElem? (i := 2) rfl)) dX12_whole_30 ?_
      rw [← hQ, ← Option.some.inj hf]
      exact eM_l hx hb hr hlk hP hD hS rfl dX12_whole_33
    · replace hf := iff_ c6 hf
      refine lv_iload_n hx hb dX12_whole_20 rfl (lv_at hl 3 rfl) ?_
      refine lv_i2l (v := (Int32.toInt64 x3)) hx hb dX12_whole_21 rfl ?_
      refine lv_lconst (v := 0) hx hb dX12_whole_22 (by decide) ?_
      refine lv_lconst (v := 1) hx hb dX12_whole_23 (by decide) ?_
      obtain ⟨z7, hq8, hf⟩ := bnd_some hf
      refine kR_i (va_runS (As := [.long (Int32.toInt64 x3), .long (0 : Int64), .long (1 : Int64)]) (rest := []) ⟨hx, hb, hml, hown, hts⟩ (c_X12_in l g (Int32.toInt64 x3) (0 : Int64) (1 : Int64) z7 hq8) (va_cwS 3 hts gX12_whole_X12_in rfl rfl rfl (by decide +kernel) ⟨Nat.le_of_ble_eq_true rfl, Nat.le_of_ble_eq_true rfl⟩) (kpS_R (hG.now hS) (hP.subm (ws' := []) [] rfl)) rfl rfl hl.1 rfl (lv_room (Nat.le_of_ble_eq_true rfl)) dX12_whole_24 ⟨Nat.le_of_ble_eq_true rfl, Nat.le_of_ble_eq_true rfl⟩) ?_
      refine lv_if_ne (tgt := 34) hx hb dX12_whole_27 (by decide) (fun c9 => ?_) (fun c9 => ?_)
      · replace hf := iff_ c9 hf
        refine lv_lconst (v := 1) hx hb dX12_whole_34 (by decide) ?_
        refine lv_lstore (lv' := [(4, .long (1 : Int64)), (0, .ref (q 0)), (1, .int x1), (2, .int x2), (3, .int x3)]) hx hb dX12_whole_35 hl (by decide) rfl (fun ls hl => ?_)
        refine lv_iconst (v := 0) hx hb dX12_whole_37 (by decide) ?_
        refine lv_istore (lv' := [(6, .int (0 : Int32)), (4, .long (1 : Int64)), (0, .ref (q 0)), (1, .int x1), (2, .int x2), (3, .int x3)]) hx hb dX12_whole_38 hl (by decide) rfl (fun ls hl => ?_)
        exact w_40 FU x1 x2 x3 (1 : Int64) (0 : Int32) v_ways v_ahead hf s.heap [] hP hD hS ls (lv_sub hl [2, 3, 4, 5, 1, 0] rfl)
      · replace hf := ift c9 hf
        refine lv_ldc2 (v := -1000000000000000002) hx hb hown (hts (.constantLong RX12 227 (-1000000000000000002)) (List.mem_of_getElem? (i := 2) rfl)) dX12_whole_30 ?_
        rw [← hQ, ← Option.some.inj hf]
        exact eM_l hx hb hr hlk hP hD hS rfl dX12_whole_33
set_option maxHeartbeats 4000000 in
set_option maxRecDepth 100000 in
theorem c_X12_sums (l : Launch) (g : bG) (q : Nat → Nat) (v_holder : Int32) (v_games : Int32) (v_sights : Int32) (v_padMany : Int32) (v_acts : Int32) (v_nothings : Int32) (v_wholeNow : Int32) (v_badAct : Int32) (v_badWhy : Int32) (v_wholeAct : Int32) (v_wholeWho : Int32) (v_keptAt : Int32) (v_isWriting : Int32) (v_rows : Nat → Int64) (x1 : Int32) (x2 : Int32) (out : Int64 × (Nat → Int64)) (hf : f_X12_sums v_rows x1 x2 = some out) : Ml l g yX12_sums wsX12_sums ({ frames := 1, cells := 0, slots := 0, locals := 25 } : Room) [.ref (q 0), .int x1, .int x2] [((q 0), .inr (10, oX12 q v_holder v_games v_sights v_padMany v_acts v_nothings v_wholeNow v_badAct v_badWhy v_wholeAct v_wholeWho v_keptAt v_isWriting)), ((q 13), .inl (gJ g, 73, .inr (.inl v_rows)))] out.1 [((q 0), .inr (10, oX12 q v_holder v_games v_sights v_padMany v_acts v_nothings v_wholeNow v_badAct v_badWhy v_wholeAct v_wholeWho v_keptAt v_isWriting)), ((q 13), .inl (gJ g, 73, .inr (.inl out.2)))] := by
  refine ofM (Qc := fun A => Ql g out.1 [((q 0), .inr (10, oX12 q v_holder v_games v_sights v_padMany v_acts v_nothings v_wholeNow v_badAct v_badWhy v_wholeAct v_wholeWho v_keptAt v_isWriting)), ((q 13), .inl (gJ g, 73, .inr (.inl out.2)))] A) (cc := cX12_sums) (nL := 8) (ret := some .long) (by decide) rfl (Nat.le_of_ble_eq_true rfl) ?_
  intro p e s m below meth c ar A hC hA hP hD hG ls hl
  have hS : va_S A s.heap s.heap [] := va_S.rf
  obtain ⟨hx, hb, hml, hown, hts, hr, hlk, -⟩ := hC
  have hl : lv_has ls 8 [(0, .ref (q 0)), (1, .int x1), (2, .int x2)] := hl
  have hK := hG.1
  have iX12 : ∀ w ∈ u_ws RX12 TX12 30, w ∈ wsX12_sums := fun w h => List.mem_cons_of_mem _ (List.mem_append_right _ (h))
  generalize hQ : MQ below (Ql g out.1 [((q 0), .inr (10, oX12 q v_holder v_games v_sights v_padMany v_acts v_nothings v_wholeNow v_badAct v_badWhy v_wholeAct v_wholeWho v_keptAt v_isWriting)), ((q 13), .inl (gJ g, 73, .inr (.inl out.2)))] A) ar s 0 0 A = QQ
  have w_79 : ∀ (k68 : Int32 → Int32 → Int32 → Int32 → (Nat → Int64) → Option (Int64 × (Nat → Int64))), (∀ (x1 : Int32) (x2 : Int32) (x3 : Int32) (x4 : Int32) (v_rows : Nat → Int64), k68 x1 x2 x3 x4 v_rows = some out → ∀ (H : Heap) (locs : List Loc), va_P (gD g) vwCl [((q 0), .inr (10, oX12 q v_holder v_games v_sights v_padMany v_acts v_nothings v_wholeNow v_badAct v_badWhy v_wholeAct v_wholeWho v_keptAt v_isWriting)), ((q 13), .inl (gJ g, 73, .inr (.inl v_rows)))] H → va_D A [((q 0), .inr (10, oX12 q v_holder v_games v_sights v_padMany v_acts v_nothings v_wholeNow v_badAct v_badWhy v_wholeAct v_wholeWho v_keptAt v_isWriting)), ((q 13), .inl (gJ g, 73, .inr (.inl v_rows)))] → va_S A s.heap H locs → ∀ ls : Array Slot, lv_has ls 8 [(0, .ref (q 0)), (1, .int x1), (2, .int x2), (3, .int x3), (4, .int x4)] → W p l e ({ frames := 1, cells := 0, slots := 0, locals := 25 } : Room) s m ar below meth c H locs 0 0 QQ (F0 m 68 ls [])) → ∀ n : Nat, ∀ (x1 : Int32) (x2 : Int32) (x3 : Int32) (x4 : Int32) (x5 : Int64) (x7 : Int32) (v_rows : Nat → Int64), f_X12_sums_b79 k68 n x1 x2 x3 x4 x5 x7 v_rows = some out → ∀ (H : Heap) (locs : List Loc), va_P (gD g) vwCl [((q 0), .inr (10, oX12 q v_holder v_games v_sights v_padMany v_acts v_nothings v_wholeNow v_badAct v_badWhy v_wholeAct v_wholeWho v_keptAt v_isWriting)), ((q 13), .inl (gJ g, 73, .inr (.inl v_rows)))] H → va_D A [((q 0), .inr (10, oX12 q v_holder v_games v_sights v_padMany v_acts v_nothings v_wholeNow v_badAct v_badWhy v_wholeAct v_wholeWho v_keptAt v_isWriting)), ((q 13), .inl (gJ g, 73, .inr (.inl v_rows)))] → va_S A s.heap H locs → ∀ ls : Array Slot, lv_has ls 8 [(0, .ref (q 0)), (1, .int x1), (2, .int x2), (3, .int x3), (4, .int x4), (5, .long x5), (7, .int x7)] → W p l e ({ frames := 1, cells := 0, slots := 0, locals := 25 } : Room) s m ar below meth c H locs 0 0 QQ (F0 m 79 ls []) := by
    intro k68 hk68 n
    induction n with
    | zero =>
      intro x1 x2 x3 x4 x5 x7 v_rows hf
      rw [f_X12_sums_b79_z] at hf
      cases hf
    | succ n ih =>
      intro x1 x2 x3 x4 x5 x7 v_rows hf H locs hP hD hS ls hl
      rw [f_X12_sums_b79_s] at hf
      refine lv_iload hx hb dX12_sums_79 (lv_at hl 6 rfl) ?_
      refine lv_bipush (v := 6) hx hb dX12_sums_81 (by decide) ?_
      refine lv_icmp_gt (tgt := 114) hx hb dX12_sums_83 (by decide) (fun c12 => ?_) (fun c12 => ?_)
      · replace hf := ift c12 hf
        refine lv_aload_n hx hb dX12_sums_114 rfl (lv_at hl 0 rfl) ?_
        refine va_get (D := gD g) (ci := 10) (v := .ref (q 13)) (C := RX12) (T := TX12) (N := 30) hx hb hts iX12 hown hK hP 0 rfl rfl 23 (by decide) (hts (.fieldLink RX12 47 "BeetleDriveModel" "rows" "[J") (List.mem_of_getElem? (i := 4) rfl)) (fun _ h9 => h9) rfl dX12_sums_115 ?_
        refine lv_iload hx hb dX12_sums_118 (lv_at hl 4 rfl) ?_
        refine lv_lload hx hb dX12_sums_120 (lv_at hl 5 rfl) ?_
        obtain ⟨hi13, hf⟩ := chk_some hf
        refine va_last hx hb hK hP hD hS 1 1 rfl rfl hi13 dX12_sums_122 (fun H locs hP hD hS => ?_)
        have hP : va_P (gD g) vwCl [((q 0), .inr (10, oX12 q v_holder v_games v_sights v_padMany v_acts v_nothings v_wholeNow v_badAct v_badWhy v_wholeAct v_wholeWho v_keptAt v_isWriting)), ((q 13), .inl (gJ g, 73, .inr (.inl (vp_updL v_rows (Int32.toNatClampNeg x4) x5))))] H := hP
        have hD : va_D A [((q 0), .inr (10, oX12 q v_holder v_games v_sights v_padMany v_acts v_nothings v_wholeNow v_badAct v_badWhy v_wholeAct v_wholeWho v_keptAt v_isWriting)), ((q 13), .inl (gJ g, 73, .inr (.inl (vp_updL v_rows (Int32.toNatClampNeg x4) x5))))] := hD
        refine lv_iinc (v := (x4 + (-1))) (lv' := [(4, .int (x4 + (-1))), (0, .ref (q 0)), (1, .int x1), (2, .int x2), (3, .int x3), (5, .long x5), (7, .int x7)]) hx hb dX12_sums_123 hl (k := 4) rfl rfl (by decide) rfl (fun ls hl => ?_)
        refine lv_goto (tgt := 68) hx hb dX12_sums_126 (by decide) ?_
        exact hk68 x1 x2 x3 (x4 + (-1)) (vp_updL v_rows (Int32.toNatClampNeg x4) x5) hf H locs hP hD hS ls (lv_sub hl [1, 2, 3, 4, 0] rfl)
      · replace hf := iff_ c12 hf
        refine lv_iload hx hb dX12_sums_86 (lv_at hl 6 rfl) ?_
        refine lv_iload hx hb dX12_sums_88 (lv_at hl 4 rfl) ?_
        refine lv_icmp_gt (tgt := 114) hx hb dX12_sums_90 (by decide) (fun c14 => ?_) (fun c14 => ?_)
        · replace hf := ift c14 hf
          refine lv_aload_n hx hb dX12_sums_114 rfl (lv_at hl 0 rfl) ?_
          refine va_get (D := gD g) (ci := 10) (v := .ref (q 13)) (C := RX12) (T := TX12) (N := 30) hx hb hts iX12 hown hK hP 0 rfl rfl 23 (by decide) (hts (.fieldLink RX12 47 "BeetleDriveModel" "rows" "[J") (List.mem_of_getElem? (i := 4) rfl)) (fun _ h9 => h9) rfl dX12_sums_115 ?_
          refine lv_iload hx hb dX12_sums_118 (lv_at hl 4 rfl) ?_
          refine lv_lload hx hb dX12_sums_120 (lv_at hl 5 rfl) ?_
          obtain ⟨hi15, hf⟩ := chk_some hf
          refine va_last hx hb hK hP hD hS 1 1 rfl rfl hi15 dX12_sums_122 (fun H locs hP hD hS => ?_)
          have hP : va_P (gD g) vwCl [((q 0), .inr (10, oX12 q v_holder v_games v_sights v_padMany v_acts v_nothings v_wholeNow v_badAct v_badWhy v_wholeAct v_wholeWho v_keptAt v_isWriting)), ((q 13), .inl (gJ g, 73, .inr (.inl (vp_updL v_rows (Int32.toNatClampNeg x4) x5))))] H := hP
          have hD : va_D A [((q 0), .inr (10, oX12 q v_holder v_games v_sights v_padMany v_acts v_nothings v_wholeNow v_badAct v_badWhy v_wholeAct v_wholeWho v_keptAt v_isWriting)), ((q 13), .inl (gJ g, 73, .inr (.inl (vp_updL v_rows (Int32.toNatClampNeg x4) x5))))] := hD
          refine lv_iinc (v := (x4 + (-1))) (lv' := [(4, .int (x4 + (-1))), (0, .ref (q 0)), (1, .int x1), (2, .int x2), (3, .int x3), (5, .long x5), (7, .int x7)]) hx hb dX12_sums_123 hl (k := 4) rfl rfl (by decide) rfl (fun ls hl => ?_)
          refine lv_goto (tgt := 68) hx hb dX12_sums_126 (by decide) ?_
          exact hk68 x1 x2 x3 (x4 + (-1)) (vp_updL v_rows (Int32.toNatClampNeg x4) x5) hf H locs hP hD hS ls (lv_sub hl [1, 2, 3, 4, 0] rfl)
        · replace hf := iff_ c14 hf
          refine lv_lload hx hb dX12_sums_93 (lv_at hl 5 rfl) ?_
          refine lv_aload_n hx hb dX12_sums_95 rfl (lv_at hl 0 rfl) ?_
          refine va_get (D := gD g) (ci := 10) (v := .ref (q 13)) (C := RX12) (T := TX12) (N := 30) hx hb hts iX12 hown hK hP 0 rfl rfl 23 (by decide) (hts (.fieldLink RX12 47 "BeetleDriveModel" "rows" "[J") (List.mem_of_getElem? (i := 4) rfl)) (fun _ h9 => h9) rfl dX12_sums_96 ?_
          refine lv_iload hx hb dX12_sums_99 (lv_at hl 4 rfl) ?_
          refine lv_iload hx hb dX12_sums_101 (lv_at hl 6 rfl) ?_
          refine lv_isub hx hb dX12_sums_103 ?_
          obtain ⟨hi16, hf⟩ := chk_some hf
          refine va_lald hx hb hK hP 1 1 rfl rfl hi16 dX12_sums_104 ?_
          refine lv_ladd hx hb dX12_sums_105 ?_
          refine lv_lstore (lv' := [(5, .long (x5 + (v_rows (Int32.toNatClampNeg (x4 - x7))))), (0, .ref (q 0)), (1, .int x1), (2, .int x2), (3, .int x3), (4, .int x4), (7, .int x7)]) hx hb dX12_sums_106 hl (by decide) rfl (fun ls hl => ?_)
          refine lv_iinc (v := (x7 + 1)) (lv' := [(7, .int (x7 + 1)), (5, .long (x5 + (v_rows (Int32.toNatClampNeg (x4 - x7))))), (0, .ref (q 0)), (1, .int x1), (2, .int x2), (3, .int x3), (4, .int x4)]) hx hb dX12_sums_108 hl (k := 6) rfl rfl (by decide) rfl (fun ls hl => ?_)
          refine lv_goto (tgt := 79) hx hb dX12_sums_111 (by decide) ?_
          exact ih x1 x2 x3 x4 (x5 + (v_rows (Int32.toNatClampNeg (x4 - x7)))) (x7 + 1) v_rows hf H locs hP hD hS ls (lv_sub hl [2, 3, 4, 5, 6, 1, 0] rfl)
  have w_68 : ∀ (k59 : Int32 → Int32 → Int32 → (Nat → Int64) → Option (Int64 × (Nat → Int64))), (∀ (x1 : Int32) (x2 : Int32) (x3 : Int32) (v_rows : Nat → Int64), k59 x1 x2 x3 v_rows = some out → ∀ (H : Heap) (locs : List Loc), va_P (gD g) vwCl [((q 0), .inr (10, oX12 q v_holder v_games v_sights v_padMany v_acts v_nothings v_wholeNow v_badAct v_badWhy v_wholeAct v_wholeWho v_keptAt v_isWriting)), ((q 13), .inl (gJ g, 73, .inr (.inl v_rows)))] H → va_D A [((q 0), .inr (10, oX12 q v_holder v_games v_sights v_padMany v_acts v_nothings v_wholeNow v_badAct v_badWhy v_wholeAct v_wholeWho v_keptAt v_isWriting)), ((q 13), .inl (gJ g, 73, .inr (.inl v_rows)))] → va_S A s.heap H locs → ∀ ls : Array Slot, lv_has ls 8 [(0, .ref (q 0)), (1, .int x1), (2, .int x2), (3, .int x3)] → W p l e ({ frames := 1, cells := 0, slots := 0, locals := 25 } : Room) s m ar below meth c H locs 0 0 QQ (F0 m 59 ls [])) → ∀ n : Nat, ∀ (x1 : Int32) (x2 : Int32) (x3 : Int32) (x4 : Int32) (v_rows : Nat → Int64), f_X12_sums_b68 k59 n x1 x2 x3 x4 v_rows = some out → ∀ (H : Heap) (locs : List Loc), va_P (gD g) vwCl [((q 0), .inr (10, oX12 q v_holder v_games v_sights v_padMany v_acts v_nothings v_wholeNow v_badAct v_badWhy v_wholeAct v_wholeWho v_keptAt v_isWriting)), ((q 13), .inl (gJ g, 73, .inr (.inl v_rows)))] H → va_D A [((q 0), .inr (10, oX12 q v_holder v_games v_sights v_padMany v_acts v_nothings v_wholeNow v_badAct v_badWhy v_wholeAct v_wholeWho v_keptAt v_isWriting)), ((q 13), .inl (gJ g, 73, .inr (.inl v_rows)))] → va_S A s.heap H locs → ∀ ls : Array Slot, lv_has ls 8 [(0, .ref (q 0)), (1, .int x1), (2, .int x2), (3, .int x3), (4, .int x4)] → W p l e ({ frames := 1, cells := 0, slots := 0, locals := 25 } : Room) s m ar below meth c H locs 0 0 QQ (F0 m 68 ls []) := by
    intro k59 hk59 n
    induction n with
    | zero =>
      intro x1 x2 x3 x4 v_rows hf
      rw [f_X12_sums_b68_z] at hf
      cases hf
    | succ n ih =>
      intro x1 x2 x3 x4 v_rows hf H locs hP hD hS ls hl
      rw [f_X12_sums_b68_s] at hf
      refine lv_iload hx hb dX12_sums_68 (lv_at hl 4 rfl) ?_
      refine lv_if_lt (tgt := 129) hx hb dX12_sums_70 (by decide) (fun c11 => ?_) (fun c11 => ?_)
      · replace hf := ift c11 hf
        refine lv_iinc (v := (x3 + 1)) (lv' := [(3, .int (x3 + 1)), (0, .ref (q 0)), (1, .int x1), (2, .int x2), (4, .int x4)]) hx hb dX12_sums_129 hl (k := 3) rfl rfl (by decide) rfl (fun ls hl => ?_)
        refine lv_goto (tgt := 59) hx hb dX12_sums_132 (by decide) ?_
        exact hk59 x1 x2 (x3 + 1) v_rows hf H locs hP hD hS ls (lv_sub hl [1, 2, 3, 0] rfl)
      · replace hf := iff_ c11 hf
        refine lv_lconst (v := 0) hx hb dX12_sums_73 (by decide) ?_
        refine lv_lstore (lv' := [(5, .long (0 : Int64)), (0, .ref (q 0)), (1, .int x1), (2, .int x2), (3, .int x3), (4, .int x4)]) hx hb dX12_sums_74 hl (by decide) rfl (fun ls hl => ?_)
        refine lv_iconst (v := 1) hx hb dX12_sums_76 (by decide) ?_
        refine lv_istore (lv' := [(7, .int (1 : Int32)), (5, .long (0 : Int64)), (0, .ref (q 0)), (1, .int x1), (2, .int x2), (3, .int x3), (4, .int x4)]) hx hb dX12_sums_77 hl (by decide) rfl (fun ls hl => ?_)
        exact w_79 (f_X12_sums_b68 k59 n) ih FU x1 x2 x3 x4 (0 : Int64) (1 : Int32) v_rows hf H locs hP hD hS ls (lv_sub hl [2, 3, 4, 5, 6, 1, 0] rfl)
  have w_59 : ∀ n : Nat, ∀ (x1 : Int32) (x2 : Int32) (x3 : Int32) (v_rows : Nat → Int64), f_X12_sums_b59 n x1 x2 x3 v_rows = some out → ∀ (H : Heap) (locs : List Loc), va_P (gD g) vwCl [((q 0), .inr (10, oX12 q v_holder v_games v_sights v_padMany v_acts v_nothings v_wholeNow v_badAct v_badWhy v_wholeAct v_wholeWho v_keptAt v_isWriting)), ((q 13), .inl (gJ g, 73, .inr (.inl v_rows)))] H → va_D A [((q 0), .inr (10, oX12 q v_holder v_games v_sights v_padMany v_acts v_nothings v_wholeNow v_badAct v_badWhy v_wholeAct v_wholeWho v_keptAt v_isWriting)), ((q 13), .inl (gJ g, 73, .inr (.inl v_rows)))] → va_S A s.heap H locs → ∀ ls : Array Slot, lv_has ls 8 [(0, .ref (q 0)), (1, .int x1), (2, .int x2), (3, .int x3)] → W p l e ({ frames := 1, cells := 0, slots := 0, locals := 25 } : Room) s m ar below meth c H locs 0 0 QQ (F0 m 59 ls []) := by
    intro n
    induction n with
    | zero =>
      intro x1 x2 x3 v_rows hf
      rw [f_X12_sums_b59_z] at hf
      cases hf
    | succ n ih =>
      intro x1 x2 x3 v_rows hf H locs hP hD hS ls hl
      rw [f_X12_sums_b59_s] at hf
      refine lv_iload_n hx hb dX12_sums_59 rfl (lv_at hl 3 rfl) ?_
      refine lv_iload_n hx hb dX12_sums_60 rfl (lv_at hl 1 rfl) ?_
      refine lv_icmp_ge (tgt := 135) hx hb dX12_sums_61 (by decide) (fun c8 => ?_) (fun c8 => ?_)
      · replace hf := ift c8 hf
        refine lv_iload_n hx hb dX12_sums_135 rfl (lv_at hl 2 rfl) ?_
        refine lv_bipush (v := 72) hx hb dX12_sums_136 (by decide) ?_
        refine lv_icmp_le (tgt := 145) hx hb dX12_sums_138 (by decide) (fun c9 => ?_) (fun c9 => ?_)
        · replace hf := ift c9 hf
          refine lv_aload_n hx hb dX12_sums_145 rfl (lv_at hl 0 rfl) ?_
          refine va_get (D := gD g) (ci := 10) (v := .ref (q 13)) (C := RX12) (T := TX12) (N := 30) hx hb hts iX12 hown hK hP 0 rfl rfl 23 (by decide) (hts (.fieldLink RX12 47 "BeetleDriveModel" "rows" "[J") (List.mem_of_getElem? (i := 4) rfl)) (fun _ h9 => h9) rfl dX12_sums_146 ?_
          refine lv_iload_n hx hb dX12_sums_149 rfl (lv_at hl 2 rfl) ?_
          obtain ⟨hi10, hf⟩ := chk_some hf
          refine va_lald hx hb hK hP 1 1 rfl rfl hi10 dX12_sums_150 ?_
          rw [← hQ, ← Option.some.inj hf]
          exact eM_l hx hb hr hlk hP hD hS rfl dX12_sums_151
        · replace hf := iff_ c9 hf
          refine lv_lconst (v := 0) hx hb dX12_sums_141 (by decide) ?_
          refine lv_goto (tgt := 151) hx hb dX12_sums_142 (by decide) ?_
          rw [← hQ, ← Option.some.inj hf]
          exact eM_l hx hb hr hlk hP hD hS rfl dX12_sums_151
      · replace hf := iff_ c8 hf
        refine lv_bipush (v := 72) hx hb dX12_sums_64 (by decide) ?_
        refine lv_istore (lv' := [(4, .int (72 : Int32)), (0, .ref (q 0)), (1, .int x1), (2, .int x2), (3, .int x3)]) hx hb dX12_sums_66 hl (by decide) rfl (fun ls hl => ?_)
        exact w_68 (f_X12_sums_b59 n) ih FU x1 x2 x3 (72 : Int32) v_rows hf H locs hP hD hS ls (lv_sub hl [1, 2, 3, 4, 0] rfl)
  have w_30 : ∀ n : Nat, ∀ (x1 : Int32) (x2 : Int32) (x3 : Int32) (v_rows : Nat → Int64), f_X12_sums_b30 n x1 x2 x3 v_rows = some out → ∀ (H : Heap) (locs : List Loc), va_P (gD g) vwCl [((q 0), .inr (10, oX12 q v_holder v_games v_sights v_padMany v_acts v_nothings v_wholeNow v_badAct v_badWhy v_wholeAct v_wholeWho v_keptAt v_isWriting)), ((q 13), .inl (gJ g, 73, .inr (.inl v_rows)))] H → va_D A [((q 0), .inr (10, oX12 q v_holder v_games v_sights v_padMany v_acts v_nothings v_wholeNow v_badAct v_badWhy v_wholeAct v_wholeWho v_keptAt v_isWriting)), ((q 13), .inl (gJ g, 73, .inr (.inl v_rows)))] → va_S A s.heap H locs → ∀ ls : Array Slot, lv_has ls 8 [(0, .ref (q 0)), (1, .int x1), (2, .int x2), (3, .int x3)] → W p l e ({ frames := 1, cells := 0, slots := 0, locals := 25 } : Room) s m ar below meth c H locs 0 0 QQ (F0 m 30 ls []) := by
    intro n
    induction n with
    | zero =>
      intro x1 x2 x3 v_rows hf
      rw [f_X12_sums_b30_z] at hf
      cases hf
    | succ n ih =>
      intro x1 x2 x3 v_rows hf H locs hP hD hS ls hl
      rw [f_X12_sums_b30_s] at hf
      refine lv_iload_n hx hb dX12_sums_30 rfl (lv_at hl 3 rfl) ?_
      refine lv_bipush (v := 72) hx hb dX12_sums_31 (by decide) ?_
      refine lv_icmp_gt (tgt := 57) hx hb dX12_sums_33 (by decide) (fun c7 => ?_) (fun c7 => ?_)
      · replace hf := ift c7 hf
        refine lv_iconst (v := 0) hx hb dX12_sums_57 (by decide) ?_
        refine lv_istore_n (lv' := [(3, .int (0 : Int32)), (0, .ref (q 0)), (1, .int x1), (2, .int x2)]) hx hb dX12_sums_58 rfl hl (by decide) rfl (fun ls hl => ?_)
        exact w_59 FU x1 x2 (0 : Int32) v_rows hf H locs hP hD hS ls (lv_sub hl [1, 2, 3, 0] rfl)
      · replace hf := iff_ c7 hf
        refine lv_aload_n hx hb dX12_sums_36 rfl (lv_at hl 0 rfl) ?_
        refine va_get (D := gD g) (ci := 10) (v := .ref (q 13)) (C := RX12) (T := TX12) (N := 30) hx hb hts iX12 hown hK hP 0 rfl rfl 23 (by decide) (hts (.fieldLink RX12 47 "BeetleDriveModel" "rows" "[J") (List.mem_of_getElem? (i := 4) rfl)) (fun _ h9 => h9) rfl dX12_sums_37 ?_
        refine lv_iload_n hx hb dX12_sums_40 rfl (lv_at hl 3 rfl) ?_
        refine lv_iload_n hx hb dX12_sums_41 rfl (lv_at hl 3 rfl) ?_
        refine lv_if_ne (tgt := 49) hx hb dX12_sums_42 (by decide) (fun c17 => ?_) (fun c17 => ?_)
        · replace hf := iff_ c17 hf
          refine lv_lconst (v := 0) hx hb dX12_sums_49 (by decide) ?_
          obtain ⟨hi18, hf⟩ := chk_some hf
          refine va_last hx hb hK hP hD hS 1 1 rfl rfl hi18 dX12_sums_50 (fun H locs hP hD hS => ?_)
          have hP : va_P (gD g) vwCl [((q 0), .inr (10, oX12 q v_holder v_games v_sights v_padMany v_acts v_nothings v_wholeNow v_badAct v_badWhy v_wholeAct v_wholeWho v_keptAt v_isWriting)), ((q 13), .inl (gJ g, 73, .inr (.inl (vp_updL v_rows (Int32.toNatClampNeg x3) (0 : Int64)))))] H := hP
          have hD : va_D A [((q 0), .inr (10, oX12 q v_holder v_games v_sights v_padMany v_acts v_nothings v_wholeNow v_badAct v_badWhy v_wholeAct v_wholeWho v_keptAt v_isWriting)), ((q 13), .inl (gJ g, 73, .inr (.inl (vp_updL v_rows (Int32.toNatClampNeg x3) (0 : Int64)))))] := hD
          refine lv_iinc (v := (x3 + 1)) (lv' := [(3, .int (x3 + 1)), (0, .ref (q 0)), (1, .int x1), (2, .int x2)]) hx hb dX12_sums_51 hl (k := 3) rfl rfl (by decide) rfl (fun ls hl => ?_)
          refine lv_goto (tgt := 30) hx hb dX12_sums_54 (by decide) ?_
          exact ih x1 x2 (x3 + 1) (vp_updL v_rows (Int32.toNatClampNeg x3) (0 : Int64)) hf H locs hP hD hS ls (lv_sub hl [1, 2, 3, 0] rfl)
        · replace hf := ift c17 hf
          refine lv_lconst (v := 1) hx hb dX12_sums_45 (by decide) ?_
          refine lv_goto (tgt := 50) hx hb dX12_sums_46 (by decide) ?_
          obtain ⟨hi19, hf⟩ := chk_some hf
          refine va_last hx hb hK hP hD hS 1 1 rfl rfl hi19 dX12_sums_50 (fun H locs hP hD hS => ?_)
          have hP : va_P (gD g) vwCl [((q 0), .inr (10, oX12 q v_holder v_games v_sights v_padMany v_acts v_nothings v_wholeNow v_badAct v_badWhy v_wholeAct v_wholeWho v_keptAt v_isWriting)), ((q 13), .inl (gJ g, 73, .inr (.inl (vp_updL v_rows (Int32.toNatClampNeg x3) (1 : Int64)))))] H := hP
          have hD : va_D A [((q 0), .inr (10, oX12 q v_holder v_games v_sights v_padMany v_acts v_nothings v_wholeNow v_badAct v_badWhy v_wholeAct v_wholeWho v_keptAt v_isWriting)), ((q 13), .inl (gJ g, 73, .inr (.inl (vp_updL v_rows (Int32.toNatClampNeg x3) (1 : Int64)))))] := hD
          refine lv_iinc (v := (x3 + 1)) (lv' := [(3, .int (x3 + 1)), (0, .ref (q 0)), (1, .int x1), (2, .int x2)]) hx hb dX12_sums_51 hl (k := 3) rfl rfl (by decide) rfl (fun ls hl => ?_)
          refine lv_goto (tgt := 30) hx hb dX12_sums_54 (by decide) ?_
          exact ih x1 x2 (x3 + 1) (vp_updL v_rows (Int32.toNatClampNeg x3) (1 : Int64)) hf H locs hP hD hS ls (lv_sub hl [1, 2, 3, 0] rfl)
  unfold f_X12_sums at hf
  refine lv_iload_n hx hb dX12_sums_0 rfl (lv_at hl 1 rfl) ?_
  refine lv_i2l (v := (Int32.toInt64 x1)) hx hb dX12_sums_1 rfl ?_
  refine lv_lconst (v := 1) hx hb dX12_sums_2 (by decide) ?_
  refine lv_ldc2 (v := 12) hx hb hown (hts (.constantLong RX12 238 (12)) (List.mem_of_getElem? (i := 1) rfl)) dX12_sums_3 ?_
  obtain ⟨z1, hq2, hf⟩ := bnd_some hf
  refine kR_i (va_runS (As := [.long (Int32.toInt64 x1), .long (1 : Int64), .long (12 : Int64)]) (rest := []) ⟨hx, hb, hml, hown, hts⟩ (c_X12_in l g (Int32.toInt64 x1) (1 : Int64) (12 : Int64) z1 hq2) (va_cwS 3 hts gX12_sums_X12_in rfl rfl rfl (by decide +kernel) ⟨Nat.le_of_ble_eq_true rfl, Nat.le_of_ble_eq_true rfl⟩) (kpS_R (hG.now hS) (hP.subm (ws' := []) [] rfl)) rfl rfl hl.1 rfl (lv_room (Nat.le_of_ble_eq_true rfl)) dX12_sums_6 ⟨Nat.le_of_ble_eq_true rfl, Nat.le_of_ble_eq_true rfl⟩) ?_
  refine lv_if_eq (tgt := 24) hx hb dX12_sums_9 (by decide) (fun c3 => ?_) (fun c3 => ?_)
  · replace hf := ift c3 hf
    refine lv_ldc2 (v := -2) hx hb hown (hts (.constantLong RX12 242 (-2)) (List.mem_of_getElem? (i := 3) rfl)) dX12_sums_24 ?_
    rw [← hQ, ← Option.some.inj hf]
    exact eM_l hx hb hr hlk hP hD hS rfl dX12_sums_27
  · replace hf := iff_ c3 hf
    refine lv_iload_n hx hb dX12_sums_12 rfl (lv_at hl 2 rfl) ?_
    refine lv_i2l (v := (Int32.toInt64 x2)) hx hb dX12_sums_13 rfl ?_
    refine lv_lconst (v := 0) hx hb dX12_sums_14 (by decide) ?_
    refine lv_ldc2 (v := 99) hx hb hown (hts (.constantLong RX12 240 (99)) (List.mem_of_getElem? (i := 2) rfl)) dX12_sums_15 ?_
    obtain ⟨z4, hq5, hf⟩ := bnd_some hf
    refine kR_i (va_runS (As := [.long (Int32.toInt64 x2), .long (0 : Int64), .long (99 : Int64)]) (rest := []) ⟨hx, hb, hml, hown, hts⟩ (c_X12_in l g (Int32.toInt64 x2) (0 : Int64) (99 : Int64) z4 hq5) (va_cwS 3 hts gX12_sums_X12_in rfl rfl rfl (by decide +kernel) ⟨Nat.le_of_ble_eq_true rfl, Nat.le_of_ble_eq_true rfl⟩) (kpS_R (hG.now hS) (hP.subm (ws' := []) [] rfl)) rfl rfl hl.1 rfl (lv_room (Nat.le_of_ble_eq_true rfl)) dX12_sums_18 ⟨Nat.le_of_ble_eq_true rfl, Nat.le_of_ble_eq_true rfl⟩) ?_
    refine lv_if_ne (tgt := 28) hx hb dX12_sums_21 (by decide) (fun c6 => ?_) (fun c6 => ?_)
    · replace hf := iff_ c6 hf
      refine lv_iconst (v := 0) hx hb dX12_sums_28 (by decide) ?_
      refine lv_istore_n (lv' := [(3, .int (0 : Int32)), (0, .ref (q 0)), (1, .int x1), (2, .int x2)]) hx hb dX12_sums_29 rfl hl (by decide) rfl (fun ls hl => ?_)
      exact w_30 FU x1 x2 (0 : Int32) v_rows hf s.heap [] hP hD hS ls (lv_sub hl [1, 2, 3, 0] rfl)
    · replace hf := ift c6 hf
      refine lv_ldc2 (v := -2) hx hb hown (hts (.constantLong RX12 242 (-2)) (List.mem_of_getElem? (i := 3) rfl)) dX12_sums_24 ?_
      rw [← hQ, ← Option.some.inj hf]
      exact eM_l hx hb hr hlk hP hD hS rfl dX12_sums_27
set_option maxHeartbeats 4000000 in
set_option maxRecDepth 100000 in
theorem c_X12_baseOf (l : Launch) (g : bG) (x0 : Int32) (out : Int32) (hf : f_X12_baseOf x0 = some out) : Ri l g yX12_baseOf wsX12_baseOf ({ frames := 0, cells := 0, slots := 0, locals := 0 } : Room) [.int x0] [] out := by
  refine ofR (cc := cX12_baseOf) (nL := 1) (ret := some .int) (by decide) rfl (Nat.le_of_ble_eq_true rfl) ?_
  intro p e s m below meth c ar hC hP hG ls hl
  have hS : va_S (fun _ => False) s.heap s.heap [] := va_S.rf
  obtain ⟨hx, hb, hml, hown, hts, hr, hlk, -⟩ := hC
  have hl : lv_has ls 1 [(0, .int x0)] := hl
  have hK := hG.1
  generalize hQ : MQ below (vp_Si (fun x => x = out)) ar s 0 0 (fun _ => False) = QQ
  unfold f_X12_baseOf at hf
  refine lv_iload_n hx hb dX12_baseOf_0 rfl (lv_at hl 0 rfl) ?_
  refine lv_iconst (v := 4) hx hb dX12_baseOf_1 (by decide) ?_
  refine lv_icmp_ge (tgt := 9) hx hb dX12_baseOf_2 (by decide) (fun c1 => ?_) (fun c1 => ?_)
  · replace hf := ift c1 hf
    refine lv_bipush (v := 7) hx hb dX12_baseOf_9 (by decide) ?_
    refine lv_iload_n hx hb dX12_baseOf_11 rfl (lv_at hl 0 rfl) ?_
    refine lv_isub hx hb dX12_baseOf_12 ?_
    rw [← hQ, ← Option.some.inj hf]
    exact eR_i hx hb hr hlk rfl dX12_baseOf_13
  · replace hf := iff_ c1 hf
    refine lv_iload_n hx hb dX12_baseOf_5 rfl (lv_at hl 0 rfl) ?_
    refine lv_goto (tgt := 13) hx hb dX12_baseOf_6 (by decide) ?_
    rw [← hQ, ← Option.some.inj hf]
    exact eR_i hx hb hr hlk rfl dX12_baseOf_13
set_option maxHeartbeats 4000000 in
set_option maxRecDepth 100000 in
theorem c_X12_rightOf (l : Launch) (g : bG) (x0 : Int32) (x1 : Int32) (out : Int32) (hf : f_X12_rightOf x0 x1 = some out) : Ri l g yX12_rightOf wsX12_rightOf ({ frames := 1, cells := 0, slots := 0, locals := 20 } : Room) [.int x0, .int x1] [] out := by
  refine ofR (cc := cX12_rightOf) (nL := 4) (ret := some .int) (by decide) rfl (Nat.le_of_ble_eq_true rfl) ?_
  intro p e s m below meth c ar hC hP hG ls hl
  have hS : va_S (fun _ => False) s.heap s.heap [] := va_S.rf
  obtain ⟨hx, hb, hml, hown, hts, hr, hlk, -⟩ := hC
  have hl : lv_has ls 4 [(0, .int x0), (1, .int x1)] := hl
  have hK := hG.1
  generalize hQ : MQ below (vp_Si (fun x => x = out)) ar s 0 0 (fun _ => False) = QQ
  have w_56 : ∀ (y0 : Int32) (y1 : Int32) (x2 : Int32), f_X12_rightOf_b56 y0 y1 x2 = some out → ∀ ls : Array Slot, lv_has ls 4 [(2, .int x2)] → W p l e ({ frames := 1, cells := 0, slots := 0, locals := 20 } : Room) s m ar below meth c s.heap [] 0 0 QQ (F0 m 56 ls [.int y0, .int y1]) := by
    intro y0 y1 x2 hf ls hl
    unfold f_X12_rightOf_b56 at hf
    refine lv_iadd hx hb dX12_rightOf_56 ?_
    refine lv_istore_n (lv' := [(3, .int (y1 + y0)), (2, .int x2)]) hx hb dX12_rightOf_57 rfl hl (by decide) rfl (fun ls hl => ?_)
    refine lv_iload_n hx hb dX12_rightOf_58 rfl (lv_at hl 0 rfl) ?_
    refine lv_iconst (v := 2) hx hb dX12_rightOf_59 (by decide) ?_
    refine lv_irem hx hb dX12_rightOf_60 (by decide) ?_
    refine lv_if_ne (tgt := 68) hx hb dX12_rightOf_61 (by decide) (fun c12 => ?_) (fun c12 => ?_)
    · replace hf := iff_ c12 hf
      refine lv_bipush (v := 7) hx hb dX12_rightOf_68 (by decide) ?_
      refine lv_iload_n hx hb dX12_rightOf_70 rfl (lv_at hl 1 rfl) ?_
      refine lv_isub hx hb dX12_rightOf_71 ?_
      rw [← hQ, ← Option.some.inj hf]
      exact eR_i hx hb hr hlk rfl dX12_rightOf_72
    · replace hf := ift c12 hf
      refine lv_iload_n hx hb dX12_rightOf_64 rfl (lv_at hl 1 rfl) ?_
      refine lv_goto (tgt := 72) hx hb dX12_rightOf_65 (by decide) ?_
      rw [← hQ, ← Option.some.inj hf]
      exact eR_i hx hb hr hlk rfl dX12_rightOf_72
  have w_33 : ∀ (y0 : Int32) (y1 : Int32) (x0 : Int32) (x1 : Int32) (x2 : Int32), f_X12_rightOf_b33 y0 y1 x0 x1 x2 = some out → ∀ ls : Array Slot, lv_has ls 4 [(0, .int x0), (1, .int x1), (2, .int x2)] → W p l e ({ frames := 1, cells := 0, slots := 0, locals := 20 } : Room) s m ar below meth c s.heap [] 0 0 QQ (F0 m 33 ls [.int y0, .int y1]) := by
    intro y0 y1 x0 x1 x2 hf ls hl
    unfold f_X12_rightOf_b33 at hf
    refine lv_iadd hx hb dX12_rightOf_33 ?_
    refine lv_iload_n hx hb dX12_rightOf_34 rfl (lv_at hl 1 rfl) ?_
    obtain ⟨z7, hq8, hf⟩ := bnd_some hf
    refine kR_i (va_runS (As := [.int x1]) (rest := [.int (y1 + y0)]) ⟨hx, hb, hml, hown, hts⟩ (c_X12_baseOf l g x1 z7 hq8) (va_cwS 1 hts gX12_rightOf_X12_baseOf rfl rfl rfl (by decide +kernel) ⟨Nat.le_of_ble_eq_true rfl, Nat.le_of_ble_eq_true rfl⟩) (kpS_R hG (hP.subm (ws' := []) [] rfl)) rfl rfl hl.1 rfl (lv_room (Nat.le_of_ble_eq_true rfl)) dX12_rightOf_35 ⟨Nat.le_of_ble_eq_true rfl, Nat.le_of_ble_eq_true rfl⟩) ?_
    refine lv_iload_n hx hb dX12_rightOf_38 rfl (lv_at hl 0 rfl) ?_
    obtain ⟨z9, hq10, hf⟩ := bnd_some hf
    refine kR_i (va_runS (As := [.int x0]) (rest := [.int z7, .int (y1 + y0)]) ⟨hx, hb, hml, hown, hts⟩ (c_X12_baseOf l g x0 z9 hq10) (va_cwS 1 hts gX12_rightOf_X12_baseOf rfl rfl rfl (by decide +kernel) ⟨Nat.le_of_ble_eq_true rfl, Nat.le_of_ble_eq_true rfl⟩) (kpS_R hG (hP.subm (ws' := []) [] rfl)) rfl rfl hl.1 rfl (lv_room (Nat.le_of_ble_eq_true rfl)) dX12_rightOf_39 ⟨Nat.le_of_ble_eq_true rfl, Nat.le_of_ble_eq_true rfl⟩) ?_
    refine lv_isub hx hb dX12_rightOf_42 ?_
    refine lv_iconst (v := 3) hx hb dX12_rightOf_43 (by decide) ?_
    refine lv_iadd hx hb dX12_rightOf_44 ?_
    refine lv_iconst (v := 3) hx hb dX12_rightOf_45 (by decide) ?_
    refine lv_irem hx hb dX12_rightOf_46 (by decide) ?_
    refine lv_iconst (v := 1) hx hb dX12_rightOf_47 (by decide) ?_
    refine lv_icmp_ne (tgt := 55) hx hb dX12_rightOf_48 (by decide) (fun c11 => ?_) (fun c11 => ?_)
    · replace hf := iff_ c11 hf
      refine lv_iconst (v := 1) hx hb dX12_rightOf_55 (by decide) ?_
      exact w_56  (1 : Int32) (y1 + y0) x2 hf ls (lv_sub hl [2] rfl)
    · replace hf := ift c11 hf
      refine lv_iconst (v := 0) hx hb dX12_rightOf_51 (by decide) ?_
      refine lv_goto (tgt := 56) hx hb dX12_rightOf_52 (by decide) ?_
      exact w_56  (0 : Int32) (y1 + y0) x2 hf ls (lv_sub hl [2] rfl)
  unfold f_X12_rightOf at hf
  refine lv_bipush (v := 6) hx hb dX12_rightOf_0 (by decide) ?_
  refine lv_iload_n hx hb dX12_rightOf_2 rfl (lv_at hl 0 rfl) ?_
  obtain ⟨z1, hq2, hf⟩ := bnd_some hf
  refine kR_i (va_runS (As := [.int x0]) (rest := [.int (6 : Int32)]) ⟨hx, hb, hml, hown, hts⟩ (c_X12_baseOf l g x0 z1 hq2) (va_cwS 1 hts gX12_rightOf_X12_baseOf rfl rfl rfl (by decide +kernel) ⟨Nat.le_of_ble_eq_true rfl, Nat.le_of_ble_eq_true rfl⟩) (kpS_R hG (hP.subm (ws' := []) [] rfl)) rfl rfl hl.1 rfl (lv_room (Nat.le_of_ble_eq_true rfl)) dX12_rightOf_3 ⟨Nat.le_of_ble_eq_true rfl, Nat.le_of_ble_eq_true rfl⟩) ?_
  refine lv_isub hx hb dX12_rightOf_6 ?_
  refine lv_iload_n hx hb dX12_rightOf_7 rfl (lv_at hl 1 rfl) ?_
  obtain ⟨z3, hq4, hf⟩ := bnd_some hf
  refine kR_i (va_runS (As := [.int x1]) (rest := [.int ((6 : Int32) - z1)]) ⟨hx, hb, hml, hown, hts⟩ (c_X12_baseOf l g x1 z3 hq4) (va_cwS 1 hts gX12_rightOf_X12_baseOf rfl rfl rfl (by decide +kernel) ⟨Nat.le_of_ble_eq_true rfl, Nat.le_of_ble_eq_true rfl⟩) (kpS_R hG (hP.subm (ws' := []) [] rfl)) rfl rfl hl.1 rfl (lv_room (Nat.le_of_ble_eq_true rfl)) dX12_rightOf_8 ⟨Nat.le_of_ble_eq_true rfl, Nat.le_of_ble_eq_true rfl⟩) ?_
  refine lv_isub hx hb dX12_rightOf_11 ?_
  refine lv_istore_n (lv' := [(2, .int (((6 : Int32) - z1) - z3)), (0, .int x0), (1, .int x1)]) hx hb dX12_rightOf_12 rfl hl (by decide) rfl (fun ls hl => ?_)
  refine lv_iload_n hx hb dX12_rightOf_13 rfl (lv_at hl 1 rfl) ?_
  refine lv_iconst (v := 3) hx hb dX12_rightOf_14 (by decide) ?_
  refine lv_icmp_le (tgt := 22) hx hb dX12_rightOf_15 (by decide) (fun c5 => ?_) (fun c5 => ?_)
  · replace hf := ift c5 hf
    refine lv_iconst (v := 0) hx hb dX12_rightOf_22 (by decide) ?_
    refine lv_iload_n hx hb dX12_rightOf_23 rfl (lv_at hl 2 rfl) ?_
    refine lv_iconst (v := 3) hx hb dX12_rightOf_24 (by decide) ?_
    refine lv_icmp_le (tgt := 32) hx hb dX12_rightOf_25 (by decide) (fun c6 => ?_) (fun c6 => ?_)
    · replace hf := ift c6 hf
      refine lv_iconst (v := 0) hx hb dX12_rightOf_32 (by decide) ?_
      exact w_33  (0 : Int32) (0 : Int32) x0 x1 (((6 : Int32) - z1) - z3) hf ls (lv_sub hl [1, 2, 0] rfl)
    · replace hf := iff_ c6 hf
      refine lv_iconst (v := 1) hx hb dX12_rightOf_28 (by decide) ?_
      refine lv_goto (tgt := 33) hx hb dX12_rightOf_29 (by decide) ?_
      exact w_33  (1 : Int32) (0 : Int32) x0 x1 (((6 : Int32) - z1) - z3) hf ls (lv_sub hl [1, 2, 0] rfl)
  · replace hf := iff_ c5 hf
    refine lv_iconst (v := 1) hx hb dX12_rightOf_18 (by decide) ?_
    refine lv_goto (tgt := 23) hx hb dX12_rightOf_19 (by decide) ?_
    refine lv_iload_n hx hb dX12_rightOf_23 rfl (lv_at hl 2 rfl) ?_
    refine lv_iconst (v := 3) hx hb dX12_rightOf_24 (by decide) ?_
    refine lv_icmp_le (tgt := 32) hx hb dX12_rightOf_25 (by decide) (fun c13 => ?_) (fun c13 => ?_)
    · replace hf := ift c13 hf
      refine lv_iconst (v := 0) hx hb dX12_rightOf_32 (by decide) ?_
      exact w_33  (0 : Int32) (1 : Int32) x0 x1 (((6 : Int32) - z1) - z3) hf ls (lv_sub hl [1, 2, 0] rfl)
    · replace hf := iff_ c13 hf
      refine lv_iconst (v := 1) hx hb dX12_rightOf_28 (by decide) ?_
      refine lv_goto (tgt := 33) hx hb dX12_rightOf_29 (by decide) ?_
      exact w_33  (1 : Int32) (1 : Int32) x0 x1 (((6 : Int32) - z1) - z3) hf ls (lv_sub hl [1, 2, 0] rfl)
set_option maxHeartbeats 4000000 in
set_option maxRecDepth 100000 in
theorem c_X12_isLying (l : Launch) (g : bG) (x0 : Int32) (out : Int32) (hf : f_X12_isLying x0 = some out) : Ri l g yX12_isLying wsX12_isLying ({ frames := 1, cells := 0, slots := 0, locals := 25 } : Room) [.int x0] [] out := by
  refine ofR (cc := cX12_isLying) (nL := 3) (ret := some .boolean) (by decide) rfl (Nat.le_of_ble_eq_true rfl) ?_
  intro p e s m below meth c ar hC hP hG ls hl
  have hS : va_S (fun _ => False) s.heap s.heap [] := va_S.rf
  obtain ⟨hx, hb, hml, hown, hts, hr, hlk, -⟩ := hC
  have hl : lv_has ls 3 [(0, .int x0)] := hl
  have hK := hG.1
  generalize hQ : MQ below (vp_Si (fun x => x = out)) ar s 0 0 (fun _ => False) = QQ
  unfold f_X12_isLying at hf
  refine lv_iload_n hx hb dX12_isLying_0 rfl (lv_at hl 0 rfl) ?_
  refine lv_bipush (v := 10) hx hb dX12_isLying_1 (by decide) ?_
  refine lv_idiv hx hb dX12_isLying_3 (by decide) ?_
  refine lv_istore_n (lv' := [(1, .int (x0 / (10 : Int32))), (0, .int x0)]) hx hb dX12_isLying_4 rfl hl (by decide) rfl (fun ls hl => ?_)
  refine lv_iload_n hx hb dX12_isLying_5 rfl (lv_at hl 1 rfl) ?_
  refine lv_bipush (v := 10) hx hb dX12_isLying_6 (by decide) ?_
  refine lv_irem hx hb dX12_isLying_8 (by decide) ?_
  refine lv_istore_n (lv' := [(2, .int (x0 - x0 / (10 : Int32) * (10 : Int32))), (1, .int (x0 / (10 : Int32))), (0, .int x0)]) hx hb dX12_isLying_9 rfl hl (by decide) rfl (fun ls hl => ?_)
  refine lv_iload_n hx hb dX12_isLying_10 rfl (lv_at hl 2 rfl) ?_
  refine lv_i2l (v := (Int32.toInt64 x0)) hx hb dX12_isLying_11 rfl ?_
  refine lv_ldc2 (v := 11) hx hb hown (hts (.constantLong RX12 247 (11)) (List.mem_of_getElem? (i := 1) rfl)) dX12_isLying_12 ?_
  refine lv_ldc2 (v := 66) hx hb hown (hts (.constantLong RX12 249 (66)) (List.mem_of_getElem? (i := 2) rfl)) dX12_isLying_15 ?_
  obtain ⟨z1, hq2, hf⟩ := bnd_some hf
  refine kR_i (va_runS (As := [.long (Int32.toInt64 x0), .long (11 : Int64), .long (66 : Int64)]) (rest := []) ⟨hx, hb, hml, hown, hts⟩ (c_X12_in l g (Int32.toInt64 x0) (11 : Int64) (66 : Int64) z1 hq2) (va_cwS 3 hts gX12_isLying_X12_in rfl rfl rfl (by decide +kernel) ⟨Nat.le_of_ble_eq_true rfl, Nat.le_of_ble_eq_true rfl⟩) (kpS_R hG (hP.subm (ws' := []) [] rfl)) rfl rfl hl.1 rfl (lv_room (Nat.le_of_ble_eq_true rfl)) dX12_isLying_18 ⟨Nat.le_of_ble_eq_true rfl, Nat.le_of_ble_eq_true rfl⟩) ?_
  refine lv_if_eq (tgt := 65) hx hb dX12_isLying_21 (by decide) (fun c3 => ?_) (fun c3 => ?_)
  · replace hf := ift c3 hf
    refine lv_iconst (v := 0) hx hb dX12_isLying_65 (by decide) ?_
    rw [← hQ, ← Option.some.inj hf]
    exact eR_z hx hb hr hlk nb0 rfl dX12_isLying_66
  · replace hf := iff_ c3 hf
    refine lv_iload_n hx hb dX12_isLying_24 rfl (lv_at hl 1 rfl) ?_
    refine lv_i2l (v := (Int32.toInt64 (x0 / (10 : Int32)))) hx hb dX12_isLying_25 rfl ?_
    refine lv_lconst (v := 1) hx hb dX12_isLying_26 (by decide) ?_
    refine lv_ldc2 (v := 6) hx hb hown (hts (.constantLong RX12 229 (6)) (List.mem_of_getElem? (i := 3) rfl)) dX12_isLying_27 ?_
    obtain ⟨z4, hq5, hf⟩ := bnd_some hf
    refine kR_i (va_runS (As := [.long (Int32.toInt64 (x0 / (10 : Int32))), .long (1 : Int64), .long (6 : Int64)]) (rest := []) ⟨hx, hb, hml, hown, hts⟩ (c_X12_in l g (Int32.toInt64 (x0 / (10 : Int32))) (1 : Int64) (6 : Int64) z4 hq5) (va_cwS 3 hts gX12_isLying_X12_in rfl rfl rfl (by decide +kernel) ⟨Nat.le_of_ble_eq_true rfl, Nat.le_of_ble_eq_true rfl⟩) (kpS_R hG (hP.subm (ws' := []) [] rfl)) rfl rfl hl.1 rfl (lv_room (Nat.le_of_ble_eq_true rfl)) dX12_isLying_30 ⟨Nat.le_of_ble_eq_true rfl, Nat.le_of_ble_eq_true rfl⟩) ?_
    refine lv_if_eq (tgt := 65) hx hb dX12_isLying_33 (by decide) (fun c6 => ?_) (fun c6 => ?_)
    · replace hf := ift c6 hf
      refine lv_iconst (v := 0) hx hb dX12_isLying_65 (by decide) ?_
      rw [← hQ, ← Option.some.inj hf]
      exact eR_z hx hb hr hlk nb0 rfl dX12_isLying_66
    · replace hf := iff_ c6 hf
      refine lv_iload_n hx hb dX12_isLying_36 rfl (lv_at hl 0 rfl) ?_
      refine lv_i2l (v := (Int32.toInt64 (x0 - x0 / (10 : Int32) * (10 : Int32)))) hx hb dX12_isLying_37 rfl ?_
      refine lv_lconst (v := 1) hx hb dX12_isLying_38 (by decide) ?_
      refine lv_ldc2 (v := 6) hx hb hown (hts (.constantLong RX12 229 (6)) (List.mem_of_getElem? (i := 3) rfl)) dX12_isLying_39 ?_
      obtain ⟨z7, hq8, hf⟩ := bnd_some hf
      refine kR_i (va_runS (As := [.long (Int32.toInt64 (x0 - x0 / (10 : Int32) * (10 : Int32))), .long (1 : Int64), .long (6 : Int64)]) (rest := []) ⟨hx, hb, hml, hown, hts⟩ (c_X12_in l g (Int32.toInt64 (x0 - x0 / (10 : Int32) * (10 : Int32))) (1 : Int64) (6 : Int64) z7 hq8) (va_cwS 3 hts gX12_isLying_X12_in rfl rfl rfl (by decide +kernel) ⟨Nat.le_of_ble_eq_true rfl, Nat.le_of_ble_eq_true rfl⟩) (kpS_R hG (hP.subm (ws' := []) [] rfl)) rfl rfl hl.1 rfl (lv_room (Nat.le_of_ble_eq_true rfl)) dX12_isLying_42 ⟨Nat.le_of_ble_eq_true rfl, Nat.le_of_ble_eq_true rfl⟩) ?_
      refine lv_if_eq (tgt := 65) hx hb dX12_isLying_45 (by decide) (fun c9 => ?_) (fun c9 => ?_)
      · replace hf := ift c9 hf
        refine lv_iconst (v := 0) hx hb dX12_isLying_65 (by decide) ?_
        rw [← hQ, ← Option.some.inj hf]
        exact eR_z hx hb hr hlk nb0 rfl dX12_isLying_66
      · replace hf := iff_ c9 hf
        refine lv_iload_n hx hb dX12_isLying_48 rfl (lv_at hl 0 rfl) ?_
        refine lv_iload_n hx hb dX12_isLying_49 rfl (lv_at hl 1 rfl) ?_
        refine lv_icmp_eq (tgt := 65) hx hb dX12_isLying_50 (by decide) (fun c10 => ?_) (fun c10 => ?_)
        · replace hf := ift c10 hf
          refine lv_iconst (v := 0) hx hb dX12_isLying_65 (by decide) ?_
          rw [← hQ, ← Option.some.inj hf]
          exact eR_z hx hb hr hlk nb0 rfl dX12_isLying_66
        · replace hf := iff_ c10 hf
          refine lv_iload_n hx hb dX12_isLying_53 rfl (lv_at hl 0 rfl) ?_
          refine lv_iload_n hx hb dX12_isLying_54 rfl (lv_at hl 1 rfl) ?_
          refine lv_iadd hx hb dX12_isLying_55 ?_
          refine lv_bipush (v := 7) hx hb dX12_isLying_56 (by decide) ?_
          refine lv_icmp_eq (tgt := 65) hx hb dX12_isLying_58 (by decide) (fun c11 => ?_) (fun c11 => ?_)
          · replace hf := ift c11 hf
            refine lv_iconst (v := 0) hx hb dX12_isLying_65 (by decide) ?_
            rw [← hQ, ← Option.some.inj hf]
            exact eR_z hx hb hr hlk nb0 rfl dX12_isLying_66
          · replace hf := iff_ c11 hf
            refine lv_iconst (v := 1) hx hb dX12_isLying_61 (by decide) ?_
            refine lv_goto (tgt := 66) hx hb dX12_isLying_62 (by decide) ?_
            rw [← hQ, ← Option.some.inj hf]
            exact eR_z hx hb hr hlk nb1 rfl dX12_isLying_66
set_option maxHeartbeats 4000000 in
set_option maxRecDepth 100000 in
theorem c_X12_rolled (l : Launch) (g : bG) (x0 : Int32) (x1 : Int32) (out : Int32) (hf : f_X12_rolled x0 x1 = some out) : Ri l g yX12_rolled wsX12_rolled ({ frames := 2, cells := 0, slots := 0, locals := 43 } : Room) [.int x0, .int x1] [] out := by
  refine ofR (cc := cX12_rolled) (nL := 5) (ret := some .int) (by decide) rfl (Nat.le_of_ble_eq_true rfl) ?_
  intro p e s m below meth c ar hC hP hG ls hl
  have hS : va_S (fun _ => False) s.heap s.heap [] := va_S.rf
  obtain ⟨hx, hb, hml, hown, hts, hr, hlk, -⟩ := hC
  have hl : lv_has ls 5 [(0, .int x0), (1, .int x1)] := hl
  have hK := hG.1
  generalize hQ : MQ below (vp_Si (fun x => x = out)) ar s 0 0 (fun _ => False) = QQ
  unfold f_X12_rolled at hf
  refine lv_iload_n hx hb dX12_rolled_0 rfl (lv_at hl 0 rfl) ?_
  refine lv_bipush (v := 10) hx hb dX12_rolled_1 (by decide) ?_
  refine lv_idiv hx hb dX12_rolled_3 (by decide) ?_
  refine lv_istore_n (lv' := [(2, .int (x0 / (10 : Int32))), (0, .int x0), (1, .int x1)]) hx hb dX12_rolled_4 rfl hl (by decide) rfl (fun ls hl => ?_)
  refine lv_iload_n hx hb dX12_rolled_5 rfl (lv_at hl 1 rfl) ?_
  refine lv_bipush (v := 10) hx hb dX12_rolled_6 (by decide) ?_
  refine lv_irem hx hb dX12_rolled_8 (by decide) ?_
  refine lv_istore_n (lv' := [(3, .int (x0 - x0 / (10 : Int32) * (10 : Int32))), (2, .int (x0 / (10 : Int32))), (0, .int x0), (1, .int x1)]) hx hb dX12_rolled_9 rfl hl (by decide) rfl (fun ls hl => ?_)
  refine lv_iload_n hx hb dX12_rolled_10 rfl (lv_at hl 1 rfl) ?_
  refine lv_iload_n hx hb dX12_rolled_11 rfl (lv_at hl 0 rfl) ?_
  obtain ⟨z1, hq2, hf⟩ := bnd_some hf
  refine kR_i (va_runS (As := [.int (x0 / (10 : Int32)), .int (x0 - x0 / (10 : Int32) * (10 : Int32))]) (rest := []) ⟨hx, hb, hml, hown, hts⟩ (c_X12_rightOf l g (x0 / (10 : Int32)) (x0 - x0 / (10 : Int32) * (10 : Int32)) z1 hq2) (va_cwS 2 hts gX12_rolled_X12_rightOf rfl rfl rfl (by decide +kernel) ⟨Nat.le_of_ble_eq_true rfl, Nat.le_of_ble_eq_true rfl⟩) (kpS_R hG (hP.subm (ws' := []) [] rfl)) rfl rfl hl.1 rfl (lv_room (Nat.le_of_ble_eq_true rfl)) dX12_rolled_12 ⟨Nat.le_of_ble_eq_true rfl, Nat.le_of_ble_eq_true rfl⟩) ?_
  refine lv_istore (lv' := [(4, .int z1), (3, .int (x0 - x0 / (10 : Int32) * (10 : Int32))), (2, .int (x0 / (10 : Int32))), (0, .int x0), (1, .int x1)]) hx hb dX12_rolled_15 hl (by decide) rfl (fun ls hl => ?_)
  refine lv_iload_n hx hb dX12_rolled_17 rfl (lv_at hl 4 rfl) ?_
  by_cases c3 : x1 = 0
  · replace hf := ift c3 hf
    refine lv_tableIn (off := 26) (tgt := 44) hx hb dX12_rolled_18 (by rw [c3]; decide) (by rw [c3]; decide) (by rw [c3]; rfl) (by decide) ?_
    refine lv_bipush (v := 10) hx hb dX12_rolled_44 (by decide) ?_
    refine lv_bipush (v := 7) hx hb dX12_rolled_46 (by decide) ?_
    refine lv_iload_n hx hb dX12_rolled_48 rfl (lv_at hl 1 rfl) ?_
    refine lv_isub hx hb dX12_rolled_49 ?_
    refine lv_imul hx hb dX12_rolled_50 ?_
    refine lv_iload_n hx hb dX12_rolled_51 rfl (lv_at hl 2 rfl) ?_
    refine lv_iadd hx hb dX12_rolled_52 ?_
    rw [← hQ, ← Option.some.inj hf]
    exact eR_i hx hb hr hlk rfl dX12_rolled_53
  · replace hf := iff_ c3 hf
    by_cases c4 : x1 = 1
    · replace hf := ift c4 hf
      refine lv_tableIn (off := 36) (tgt := 54) hx hb dX12_rolled_18 (by rw [c4]; decide) (by rw [c4]; decide) (by rw [c4]; rfl) (by decide) ?_
      refine lv_bipush (v := 10) hx hb dX12_rolled_54 (by decide) ?_
      refine lv_bipush (v := 7) hx hb dX12_rolled_56 (by decide) ?_
      refine lv_iload hx hb dX12_rolled_58 (lv_at hl 0 rfl) ?_
      refine lv_isub hx hb dX12_rolled_60 ?_
      refine lv_imul hx hb dX12_rolled_61 ?_
      refine lv_iload_n hx hb dX12_rolled_62 rfl (lv_at hl 1 rfl) ?_
      refine lv_iadd hx hb dX12_rolled_63 ?_
      rw [← hQ, ← Option.some.inj hf]
      exact eR_i hx hb hr hlk rfl dX12_rolled_64
    · replace hf := iff_ c4 hf
      by_cases c5 : x1 = 2
      · replace hf := ift c5 hf
        refine lv_tableIn (off := 47) (tgt := 65) hx hb dX12_rolled_18 (by rw [c5]; decide) (by rw [c5]; decide) (by rw [c5]; rfl) (by decide) ?_
        refine lv_bipush (v := 10) hx hb dX12_rolled_65 (by decide) ?_
        refine lv_iload_n hx hb dX12_rolled_67 rfl (lv_at hl 1 rfl) ?_
        refine lv_imul hx hb dX12_rolled_68 ?_
        refine lv_bipush (v := 7) hx hb dX12_rolled_69 (by decide) ?_
        refine lv_iadd hx hb dX12_rolled_71 ?_
        refine lv_iload_n hx hb dX12_rolled_72 rfl (lv_at hl 2 rfl) ?_
        refine lv_isub hx hb dX12_rolled_73 ?_
        rw [← hQ, ← Option.some.inj hf]
        exact eR_i hx hb hr hlk rfl dX12_rolled_74
      · replace hf := iff_ c5 hf
        have ec3 := lv_neT c3 (a := 0) (by decide)
        have ec4 := lv_neT c4 (a := 1) (by decide)
        have ec5 := lv_neT c5 (a := 2) (by decide)
        refine lv_tableOut (tgt := 75) hx hb dX12_rolled_18 (by omega) (by decide) ?_
        refine lv_bipush (v := 10) hx hb dX12_rolled_75 (by decide) ?_
        refine lv_iload hx hb dX12_rolled_77 (lv_at hl 0 rfl) ?_
        refine lv_imul hx hb dX12_rolled_79 ?_
        refine lv_iload_n hx hb dX12_rolled_80 rfl (lv_at hl 1 rfl) ?_
        refine lv_iadd hx hb dX12_rolled_81 ?_
        rw [← hQ, ← Option.some.inj hf]
        exact eR_i hx hb hr hlk rfl dX12_rolled_82
set_option maxHeartbeats 4000000 in
set_option maxRecDepth 100000 in
theorem c_X12_waysOf (l : Launch) (g : bG) (x0 : Int32) (out : Int32) (hf : f_X12_waysOf x0 = some out) : Ri l g yX12_waysOf wsX12_waysOf ({ frames := 0, cells := 0, slots := 0, locals := 0 } : Room) [.int x0] [] out := by
  refine ofR (cc := cX12_waysOf) (nL := 3) (ret := some .int) (by decide) rfl (Nat.le_of_ble_eq_true rfl) ?_
  intro p e s m below meth c ar hC hP hG ls hl
  have hS : va_S (fun _ => False) s.heap s.heap [] := va_S.rf
  obtain ⟨hx, hb, hml, hown, hts, hr, hlk, -⟩ := hC
  have hl : lv_has ls 3 [(0, .int x0)] := hl
  have hK := hG.1
  generalize hQ : MQ below (vp_Si (fun x => x = out)) ar s 0 0 (fun _ => False) = QQ
  have w_4 : ∀ n : Nat, ∀ (x1 : Int32) (x2 : Int32), f_X12_waysOf_b4 n x1 x2 = some out → ∀ ls : Array Slot, lv_has ls 3 [(1, .int x1), (2, .int x2)] → W p l e ({ frames := 0, cells := 0, slots := 0, locals := 0 } : Room) s m ar below meth c s.heap [] 0 0 QQ (F0 m 4 ls []) := by
    intro n
    induction n with
    | zero =>
      intro x1 x2 hf
      rw [f_X12_waysOf_b4_z] at hf
      cases hf
    | succ n ih =>
      intro x1 x2 hf ls hl
      rw [f_X12_waysOf_b4_s] at hf
      refine lv_iload_n hx hb dX12_waysOf_4 rfl (lv_at hl 1 rfl) ?_
      refine lv_bipush (v := 9) hx hb dX12_waysOf_5 (by decide) ?_
      refine lv_icmp_le (tgt := 21) hx hb dX12_waysOf_7 (by decide) (fun c1 => ?_) (fun c1 => ?_)
      · replace hf := ift c1 hf
        refine lv_iload_n hx hb dX12_waysOf_21 rfl (lv_at hl 0 rfl) ?_
        rw [← hQ, ← Option.some.inj hf]
        exact eR_i hx hb hr hlk rfl dX12_waysOf_22
      · replace hf := iff_ c1 hf
        refine lv_iinc (v := (x1 + 1)) (lv' := [(1, .int (x1 + 1)), (2, .int x2)]) hx hb dX12_waysOf_10 hl (k := 0) rfl rfl (by decide) rfl (fun ls hl => ?_)
        refine lv_iload_n hx hb dX12_waysOf_13 rfl (lv_at hl 1 rfl) ?_
        refine lv_bipush (v := 10) hx hb dX12_waysOf_14 (by decide) ?_
        refine lv_idiv hx hb dX12_waysOf_16 (by decide) ?_
        refine lv_istore_n (lv' := [(2, .int (x2 / (10 : Int32))), (1, .int (x1 + 1))]) hx hb dX12_waysOf_17 rfl hl (by decide) rfl (fun ls hl => ?_)
        refine lv_goto (tgt := 4) hx hb dX12_waysOf_18 (by decide) ?_
        exact ih (x1 + 1) (x2 / (10 : Int32)) hf ls (lv_sub hl [1, 0] rfl)
  unfold f_X12_waysOf at hf
  refine lv_iconst (v := 0) hx hb dX12_waysOf_0 (by decide) ?_
  refine lv_istore_n (lv' := [(1, .int (0 : Int32)), (0, .int x0)]) hx hb dX12_waysOf_1 rfl hl (by decide) rfl (fun ls hl => ?_)
  refine lv_iload_n hx hb dX12_waysOf_2 rfl (lv_at hl 1 rfl) ?_
  refine lv_istore_n (lv' := [(2, .int x0), (1, .int (0 : Int32)), (0, .int x0)]) hx hb dX12_waysOf_3 rfl hl (by decide) rfl (fun ls hl => ?_)
  exact w_4 FU (0 : Int32) x0 hf ls (lv_sub hl [1, 0] rfl)
set_option maxHeartbeats 4000000 in
set_option maxRecDepth 100000 in
theorem c_X12_isRow (l : Launch) (g : bG) (x0 : Int32) (out : Int32) (hf : f_X12_isRow x0 = some out) : Ri l g yX12_isRow wsX12_isRow ({ frames := 0, cells := 0, slots := 0, locals := 0 } : Room) [.int x0] [] out := by
  refine ofR (cc := cX12_isRow) (nL := 4) (ret := some .boolean) (by decide) rfl (Nat.le_of_ble_eq_true rfl) ?_
  intro p e s m below meth c ar hC hP hG ls hl
  have hS : va_S (fun _ => False) s.heap s.heap [] := va_S.rf
  obtain ⟨hx, hb, hml, hown, hts, hr, hlk, -⟩ := hC
  have hl : lv_has ls 4 [(0, .int x0)] := hl
  have hK := hG.1
  generalize hQ : MQ below (vp_Si (fun x => x = out)) ar s 0 0 (fun _ => False) = QQ
  have w_14 : ∀ n : Nat, ∀ (x1 : Int32) (x2 : Int32) (x3 : Int32), f_X12_isRow_b14 n x1 x2 x3 = some out → ∀ ls : Array Slot, lv_has ls 4 [(1, .int x1), (2, .int x2), (3, .int x3)] → W p l e ({ frames := 0, cells := 0, slots := 0, locals := 0 } : Room) s m ar below meth c s.heap [] 0 0 QQ (F0 m 14 ls []) := by
    intro n
    induction n with
    | zero =>
      intro x1 x2 x3 hf
      rw [f_X12_isRow_b14_z] at hf
      cases hf
    | succ n ih =>
      intro x1 x2 x3 hf ls hl
      rw [f_X12_isRow_b14_s] at hf
      refine lv_iload_n hx hb dX12_isRow_14 rfl (lv_at hl 1 rfl) ?_
      refine lv_bipush (v := 9) hx hb dX12_isRow_15 (by decide) ?_
      refine lv_icmp_le (tgt := 49) hx hb dX12_isRow_17 (by decide) (fun c2 => ?_) (fun c2 => ?_)
      · replace hf := ift c2 hf
        refine lv_iload_n hx hb dX12_isRow_49 rfl (lv_at hl 0 rfl) ?_
        refine lv_if_eq (tgt := 68) hx hb dX12_isRow_50 (by decide) (fun c3 => ?_) (fun c3 => ?_)
        · replace hf := ift c3 hf
          refine lv_iconst (v := 0) hx hb dX12_isRow_68 (by decide) ?_
          rw [← hQ, ← Option.some.inj hf]
          exact eR_z hx hb hr hlk nb0 rfl dX12_isRow_69
        · replace hf := iff_ c3 hf
          refine lv_iload_n hx hb dX12_isRow_53 rfl (lv_at hl 1 rfl) ?_
          refine lv_iconst (v := 1) hx hb dX12_isRow_54 (by decide) ?_
          refine lv_icmp_ne (tgt := 68) hx hb dX12_isRow_55 (by decide) (fun c4 => ?_) (fun c4 => ?_)
          · replace hf := iff_ c4 hf
            refine lv_iconst (v := 0) hx hb dX12_isRow_68 (by decide) ?_
            rw [← hQ, ← Option.some.inj hf]
            exact eR_z hx hb hr hlk nb0 rfl dX12_isRow_69
          · replace hf := ift c4 hf
            refine lv_iload_n hx hb dX12_isRow_58 rfl (lv_at hl 2 rfl) ?_
            refine lv_bipush (v := 6) hx hb dX12_isRow_59 (by decide) ?_
            refine lv_icmp_gt (tgt := 68) hx hb dX12_isRow_61 (by decide) (fun c5 => ?_) (fun c5 => ?_)
            · replace hf := ift c5 hf
              refine lv_iconst (v := 0) hx hb dX12_isRow_68 (by decide) ?_
              rw [← hQ, ← Option.some.inj hf]
              exact eR_z hx hb hr hlk nb0 rfl dX12_isRow_69
            · replace hf := iff_ c5 hf
              refine lv_iconst (v := 1) hx hb dX12_isRow_64 (by decide) ?_
              refine lv_goto (tgt := 69) hx hb dX12_isRow_65 (by decide) ?_
              rw [← hQ, ← Option.some.inj hf]
              exact eR_z hx hb hr hlk nb1 rfl dX12_isRow_69
      · replace hf := iff_ c2 hf
        refine lv_iload_n hx hb dX12_isRow_20 rfl (lv_at hl 0 rfl) ?_
        refine lv_if_eq (tgt := 36) hx hb dX12_isRow_21 (by decide) (fun c6 => ?_) (fun c6 => ?_)
        · replace hf := ift c6 hf
          refine lv_iconst (v := 0) hx hb dX12_isRow_36 (by decide) ?_
          refine lv_istore_n (lv' := [(1, .int (0 : Int32)), (2, .int x2), (3, .int x3)]) hx hb dX12_isRow_37 rfl hl (by decide) rfl (fun ls hl => ?_)
          refine lv_iload_n hx hb dX12_isRow_38 rfl (lv_at hl 1 rfl) ?_
          refine lv_bipush (v := 10) hx hb dX12_isRow_39 (by decide) ?_
          refine lv_idiv hx hb dX12_isRow_41 (by decide) ?_
          refine lv_istore_n (lv' := [(2, .int (x2 / (10 : Int32))), (1, .int (0 : Int32)), (3, .int x3)]) hx hb dX12_isRow_42 rfl hl (by decide) rfl (fun ls hl => ?_)
          refine lv_iinc (v := (x3 + 1)) (lv' := [(3, .int (x3 + 1)), (2, .int (x2 / (10 : Int32))), (1, .int (0 : Int32))]) hx hb dX12_isRow_43 hl (k := 2) rfl rfl (by decide) rfl (fun ls hl => ?_)
          refine lv_goto (tgt := 14) hx hb dX12_isRow_46 (by decide) ?_
          exact ih (0 : Int32) (x2 / (10 : Int32)) (x3 + 1) hf ls (lv_sub hl [2, 1, 0] rfl)
        · replace hf := iff_ c6 hf
          refine lv_iload_n hx hb dX12_isRow_24 rfl (lv_at hl 1 rfl) ?_
          refine lv_bipush (v := 10) hx hb dX12_isRow_25 (by decide) ?_
          refine lv_irem hx hb dX12_isRow_27 (by decide) ?_
          refine lv_iconst (v := 4) hx hb dX12_isRow_28 (by decide) ?_
          refine lv_icmp_ge (tgt := 36) hx hb dX12_isRow_29 (by decide) (fun c7 => ?_) (fun c7 => ?_)
          · replace hf := ift c7 hf
            refine lv_iconst (v := 0) hx hb dX12_isRow_36 (by decide) ?_
            refine lv_istore_n (lv' := [(1, .int (0 : Int32)), (2, .int x2), (3, .int x3)]) hx hb dX12_isRow_37 rfl hl (by decide) rfl (fun ls hl => ?_)
            refine lv_iload_n hx hb dX12_isRow_38 rfl (lv_at hl 1 rfl) ?_
            refine lv_bipush (v := 10) hx hb dX12_isRow_39 (by decide) ?_
            refine lv_idiv hx hb dX12_isRow_41 (by decide) ?_
            refine lv_istore_n (lv' := [(2, .int (x2 / (10 : Int32))), (1, .int (0 : Int32)), (3, .int x3)]) hx hb dX12_isRow_42 rfl hl (by decide) rfl (fun ls hl => ?_)
            refine lv_iinc (v := (x3 + 1)) (lv' := [(3, .int (x3 + 1)), (2, .int (x2 / (10 : Int32))), (1, .int (0 : Int32))]) hx hb dX12_isRow_43 hl (k := 2) rfl rfl (by decide) rfl (fun ls hl => ?_)
            refine lv_goto (tgt := 14) hx hb dX12_isRow_46 (by decide) ?_
            exact ih (0 : Int32) (x2 / (10 : Int32)) (x3 + 1) hf ls (lv_sub hl [2, 1, 0] rfl)
          · replace hf := iff_ c7 hf
            refine lv_iconst (v := 1) hx hb dX12_isRow_32 (by decide) ?_
            refine lv_goto (tgt := 37) hx hb dX12_isRow_33 (by decide) ?_
            refine lv_istore_n (lv' := [(1, .int (1 : Int32)), (2, .int x2), (3, .int x3)]) hx hb dX12_isRow_37 rfl hl (by decide) rfl (fun ls hl => ?_)
            refine lv_iload_n hx hb dX12_isRow_38 rfl (lv_at hl 1 rfl) ?_
            refine lv_bipush (v := 10) hx hb dX12_isRow_39 (by decide) ?_
            refine lv_idiv hx hb dX12_isRow_41 (by decide) ?_
            refine lv_istore_n (lv' := [(2, .int (x2 / (10 : Int32))), (1, .int (1 : Int32)), (3, .int x3)]) hx hb dX12_isRow_42 rfl hl (by decide) rfl (fun ls hl => ?_)
            refine lv_iinc (v := (x3 + 1)) (lv' := [(3, .int (x3 + 1)), (2, .int (x2 / (10 : Int32))), (1, .int (1 : Int32))]) hx hb dX12_isRow_43 hl (k := 2) rfl rfl (by decide) rfl (fun ls hl => ?_)
            refine lv_goto (tgt := 14) hx hb dX12_isRow_46 (by decide) ?_
            exact ih (1 : Int32) (x2 / (10 : Int32)) (x3 + 1) hf ls (lv_sub hl [2, 1, 0] rfl)
  unfold f_X12_isRow at hf
  refine lv_iload_n hx hb dX12_isRow_0 rfl (lv_at hl 0 rfl) ?_
  refine lv_if_le (tgt := 8) hx hb dX12_isRow_1 (by decide) (fun c1 => ?_) (fun c1 => ?_)
  · replace hf := ift c1 hf
    refine lv_iconst (v := 0) hx hb dX12_isRow_8 (by decide) ?_
    refine lv_istore_n (lv' := [(1, .int (0 : Int32)), (0, .int x0)]) hx hb dX12_isRow_9 rfl hl (by decide) rfl (fun ls hl => ?_)
    refine lv_iload_n hx hb dX12_isRow_10 rfl (lv_at hl 1 rfl) ?_
    refine lv_istore_n (lv' := [(2, .int x0), (1, .int (0 : Int32)), (0, .int x0)]) hx hb dX12_isRow_11 rfl hl (by decide) rfl (fun ls hl => ?_)
    refine lv_iconst (v := 0) hx hb dX12_isRow_12 (by decide) ?_
    refine lv_istore_n (lv' := [(3, .int (0 : Int32)), (2, .int x0), (1, .int (0 : Int32)), (0, .int x0)]) hx hb dX12_isRow_13 rfl hl (by decide) rfl (fun ls hl => ?_)
    exact w_14 FU (0 : Int32) x0 (0 : Int32) hf ls (lv_sub hl [2, 1, 0] rfl)
  · replace hf := iff_ c1 hf
    refine lv_iconst (v := 1) hx hb dX12_isRow_4 (by decide) ?_
    refine lv_goto (tgt := 9) hx hb dX12_isRow_5 (by decide) ?_
    refine lv_istore_n (lv' := [(1, .int (1 : Int32)), (0, .int x0)]) hx hb dX12_isRow_9 rfl hl (by decide) rfl (fun ls hl => ?_)
    refine lv_iload_n hx hb dX12_isRow_10 rfl (lv_at hl 1 rfl) ?_
    refine lv_istore_n (lv' := [(2, .int x0), (1, .int (1 : Int32)), (0, .int x0)]) hx hb dX12_isRow_11 rfl hl (by decide) rfl (fun ls hl => ?_)
    refine lv_iconst (v := 0) hx hb dX12_isRow_12 (by decide) ?_
    refine lv_istore_n (lv' := [(3, .int (0 : Int32)), (2, .int x0), (1, .int (1 : Int32)), (0, .int x0)]) hx hb dX12_isRow_13 rfl hl (by decide) rfl (fun ls hl => ?_)
    exact w_14 FU (1 : Int32) x0 (0 : Int32) hf ls (lv_sub hl [2, 1, 0] rfl)
set_option maxHeartbeats 4000000 in
set_option maxRecDepth 100000 in
theorem c_X12_topBy (l : Launch) (g : bG) (x0 : Int32) (x1 : Int32) (out : Int32) (hf : f_X12_topBy x0 x1 = some out) : Ri l g yX12_topBy wsX12_topBy ({ frames := 3, cells := 0, slots := 0, locals := 67 } : Room) [.int x0, .int x1] [] out := by
  refine ofR (cc := cX12_topBy) (nL := 4) (ret := some .int) (by decide) rfl (Nat.le_of_ble_eq_true rfl) ?_
  intro p e s m below meth c ar hC hP hG ls hl
  have hS : va_S (fun _ => False) s.heap s.heap [] := va_S.rf
  obtain ⟨hx, hb, hml, hown, hts, hr, hlk, -⟩ := hC
  have hl : lv_has ls 4 [(0, .int x0), (1, .int x1)] := hl
  have hK := hG.1
  generalize hQ : MQ below (vp_Si (fun x => x = out)) ar s 0 0 (fun _ => False) = QQ
  have w_9 : ∀ n : Nat, ∀ (x1 : Int32) (x2 : Int32) (x3 : Int32), f_X12_topBy_b9 n x1 x2 x3 = some out → ∀ ls : Array Slot, lv_has ls 4 [(1, .int x1), (2, .int x2), (3, .int x3)] → W p l e ({ frames := 3, cells := 0, slots := 0, locals := 67 } : Room) s m ar below meth c s.heap [] 0 0 QQ (F0 m 9 ls []) := by
    intro n
    induction n with
    | zero =>
      intro x1 x2 x3 hf
      rw [f_X12_topBy_b9_z] at hf
      cases hf
    | succ n ih =>
      intro x1 x2 x3 hf ls hl
      rw [f_X12_topBy_b9_s] at hf
      refine lv_iload_n hx hb dX12_topBy_9 rfl (lv_at hl 2 rfl) ?_
      refine lv_if_lt (tgt := 33) hx hb dX12_topBy_10 (by decide) (fun c3 => ?_) (fun c3 => ?_)
      · replace hf := ift c3 hf
        refine lv_iload_n hx hb dX12_topBy_33 rfl (lv_at hl 1 rfl) ?_
        refine lv_bipush (v := 10) hx hb dX12_topBy_34 (by decide) ?_
        refine lv_idiv hx hb dX12_topBy_36 (by decide) ?_
        rw [← hQ, ← Option.some.inj hf]
        exact eR_i hx hb hr hlk rfl dX12_topBy_37
      · replace hf := iff_ c3 hf
        refine lv_iload_n hx hb dX12_topBy_13 rfl (lv_at hl 1 rfl) ?_
        refine lv_iload_n hx hb dX12_topBy_14 rfl (lv_at hl 0 rfl) ?_
        refine lv_iload_n hx hb dX12_topBy_15 rfl (lv_at hl 2 rfl) ?_
        obtain ⟨z4, hq5, hf⟩ := bnd_some hf
        refine kR_i (va_runS (As := [.int x3]) (rest := [.int x1, .int x2]) ⟨hx, hb, hml, hown, hts⟩ (c_X12_tenTo l g x3 z4 hq5) (va_cwS 1 hts gX12_topBy_X12_tenTo rfl rfl rfl (by decide +kernel) ⟨Nat.le_of_ble_eq_true rfl, Nat.le_of_ble_eq_true rfl⟩) (kpS_R hG (hP.subm (ws' := []) [] rfl)) rfl rfl hl.1 rfl (lv_room (Nat.le_of_ble_eq_true rfl)) dX12_topBy_16 ⟨Nat.le_of_ble_eq_true rfl, Nat.le_of_ble_eq_true rfl⟩) ?_
        obtain ⟨hz6, hf⟩ := nz_some hf
        refine lv_idiv hx hb dX12_topBy_19 hz6 ?_
        refine lv_bipush (v := 10) hx hb dX12_topBy_20 (by decide) ?_
        refine lv_irem hx hb dX12_topBy_22 (by decide) ?_
        obtain ⟨z7, hq8, hf⟩ := bnd_some hf
        refine kR_i (va_runS (As := [.int x2, .int ((x1 / z4) - (x1 / z4) / (10 : Int32) * (10 : Int32))]) (rest := []) ⟨hx, hb, hml, hown, hts⟩ (c_X12_rolled l g x2 ((x1 / z4) - (x1 / z4) / (10 : Int32) * (10 : Int32)) z7 hq8) (va_cwS 2 hts gX12_topBy_X12_rolled rfl rfl rfl (by decide +kernel) ⟨Nat.le_of_ble_eq_true rfl, Nat.le_of_ble_eq_true rfl⟩) (kpS_R hG (hP.subm (ws' := []) [] rfl)) rfl rfl hl.1 rfl (lv_room (Nat.le_of_ble_eq_true rfl)) dX12_topBy_23 ⟨Nat.le_of_ble_eq_true rfl, Nat.le_of_ble_eq_true rfl⟩) ?_
        refine lv_istore_n (lv' := [(2, .int z7), (1, .int x1), (3, .int x3)]) hx hb dX12_topBy_26 rfl hl (by decide) rfl (fun ls hl => ?_)
        refine lv_iinc (v := (x3 + (-1))) (lv' := [(3, .int (x3 + (-1))), (2, .int z7), (1, .int x1)]) hx hb dX12_topBy_27 hl (k := 2) rfl rfl (by decide) rfl (fun ls hl => ?_)
        refine lv_goto (tgt := 9) hx hb dX12_topBy_30 (by decide) ?_
        exact ih x1 z7 (x3 + (-1)) hf ls (lv_sub hl [2, 1, 0] rfl)
  unfold f_X12_topBy at hf
  refine lv_iload_n hx hb dX12_topBy_0 rfl (lv_at hl 0 rfl) ?_
  refine lv_istore_n (lv' := [(2, .int x0), (0, .int x0), (1, .int x1)]) hx hb dX12_topBy_1 rfl hl (by decide) rfl (fun ls hl => ?_)
  refine lv_iload_n hx hb dX12_topBy_2 rfl (lv_at hl 2 rfl) ?_
  obtain ⟨z1, hq2, hf⟩ := bnd_some hf
  refine kR_i (va_runS (As := [.int x1]) (rest := []) ⟨hx, hb, hml, hown, hts⟩ (c_X12_waysOf l g x1 z1 hq2) (va_cwS 1 hts gX12_topBy_X12_waysOf rfl rfl rfl (by decide +kernel) ⟨Nat.le_of_ble_eq_true rfl, Nat.le_of_ble_eq_true rfl⟩) (kpS_R hG (hP.subm (ws' := []) [] rfl)) rfl rfl hl.1 rfl (lv_room (Nat.le_of_ble_eq_true rfl)) dX12_topBy_3 ⟨Nat.le_of_ble_eq_true rfl, Nat.le_of_ble_eq_true rfl⟩) ?_
  refine lv_iconst (v := 1) hx hb dX12_topBy_6 (by decide) ?_
  refine lv_isub hx hb dX12_topBy_7 ?_
  refine lv_istore_n (lv' := [(3, .int (z1 - (1 : Int32))), (2, .int x0), (0, .int x0), (1, .int x1)]) hx hb dX12_topBy_8 rfl hl (by decide) rfl (fun ls hl => ?_)
  exact w_9 FU x1 x0 (z1 - (1 : Int32)) hf ls (lv_sub hl [3, 1, 0] rfl)
set_option maxHeartbeats 4000000 in
set_option maxRecDepth 100000 in
theorem c_X12_roll (l : Launch) (g : bG) (q : Nat → Nat) (v_holder : Int32) (v_games : Int32) (v_sights : Int32) (v_padMany : Int32) (v_acts : Int32) (v_nothings : Int32) (v_wholeNow : Int32) (v_badAct : Int32) (v_badWhy : Int32) (v_wholeAct : Int32) (v_wholeWho : Int32) (v_keptAt : Int32) (v_isWriting : Int32) (x1 : Int32) (x2 : Int32) (out : Int32) (hf : f_X12_roll x1 x2 = some out) : Ri l g yX12_roll wsX12_roll ({ frames := 4, cells := 0, slots := 0, locals := 90 } : Room) [.ref (q 0), .int x1, .int x2] [((q 0), .inr (10, oX12 q v_holder v_games v_sights v_padMany v_acts v_nothings v_wholeNow v_badAct v_badWhy v_wholeAct v_wholeWho v_keptAt v_isWriting))] out := by
  refine ofR (cc := cX12_roll) (nL := 3) (ret := some .int) (by decide) rfl (Nat.le_of_ble_eq_true rfl) ?_
  intro p e s m below meth c ar hC hP hG ls hl
  have hS : va_S (fun _ => False) s.heap s.heap [] := va_S.rf
  obtain ⟨hx, hb, hml, hown, hts, hr, hlk, -⟩ := hC
  have hl : lv_has ls 3 [(0, .ref (q 0)), (1, .int x1), (2, .int x2)] := hl
  have hK := hG.1
  generalize hQ : MQ below (vp_Si (fun x => x = out)) ar s 0 0 (fun _ => False) = QQ
  unfold f_X12_roll at hf
  refine lv_iload_n hx hb dX12_roll_0 rfl (lv_at hl 1 rfl) ?_
  obtain ⟨z1, hq2, hf⟩ := bnd_some hf
  refine kR_i (va_runS (As := [.int x1]) (rest := []) ⟨hx, hb, hml, hown, hts⟩ (c_X12_isLying l g x1 z1 hq2) (va_cwS 1 hts gX12_roll_X12_isLying rfl rfl rfl (by decide +kernel) ⟨Nat.le_of_ble_eq_true rfl, Nat.le_of_ble_eq_true rfl⟩) (kpS_R hG (hP.subm (ws' := []) [] rfl)) rfl rfl hl.1 rfl (lv_room (Nat.le_of_ble_eq_true rfl)) dX12_roll_1 ⟨Nat.le_of_ble_eq_true rfl, Nat.le_of_ble_eq_true rfl⟩) ?_
  refine lv_if_eq (tgt := 22) hx hb dX12_roll_4 (by decide) (fun c3 => ?_) (fun c3 => ?_)
  · replace hf := ift c3 hf
    refine lv_bipush (v := -2) hx hb dX12_roll_22 (by decide) ?_
    rw [← hQ, ← Option.some.inj hf]
    exact eR_i hx hb hr hlk rfl dX12_roll_24
  · replace hf := iff_ c3 hf
    refine lv_iload_n hx hb dX12_roll_7 rfl (lv_at hl 2 rfl) ?_
    obtain ⟨z4, hq5, hf⟩ := bnd_some hf
    refine kR_i (va_runS (As := [.int x2]) (rest := []) ⟨hx, hb, hml, hown, hts⟩ (c_X12_isRow l g x2 z4 hq5) (va_cwS 1 hts gX12_roll_X12_isRow rfl rfl rfl (by decide +kernel) ⟨Nat.le_of_ble_eq_true rfl, Nat.le_of_ble_eq_true rfl⟩) (kpS_R hG (hP.subm (ws' := []) [] rfl)) rfl rfl hl.1 rfl (lv_room (Nat.le_of_ble_eq_true rfl)) dX12_roll_8 ⟨Nat.le_of_ble_eq_true rfl, Nat.le_of_ble_eq_true rfl⟩) ?_
    refine lv_if_eq (tgt := 22) hx hb dX12_roll_11 (by decide) (fun c6 => ?_) (fun c6 => ?_)
    · replace hf := ift c6 hf
      refine lv_bipush (v := -2) hx hb dX12_roll_22 (by decide) ?_
      rw [← hQ, ← Option.some.inj hf]
      exact eR_i hx hb hr hlk rfl dX12_roll_24
    · replace hf := iff_ c6 hf
      refine lv_iload_n hx hb dX12_roll_14 rfl (lv_at hl 1 rfl) ?_
      refine lv_iload_n hx hb dX12_roll_15 rfl (lv_at hl 2 rfl) ?_
      obtain ⟨z7, hq8, hf⟩ := bnd_some hf
      refine kR_i (va_runS (As := [.int x1, .int x2]) (rest := []) ⟨hx, hb, hml, hown, hts⟩ (c_X12_topBy l g x1 x2 z7 hq8) (va_cwS 2 hts gX12_roll_X12_topBy rfl rfl rfl (by decide +kernel) ⟨Nat.le_of_ble_eq_true rfl, Nat.le_of_ble_eq_true rfl⟩) (kpS_R hG (hP.subm (ws' := []) [] rfl)) rfl rfl hl.1 rfl (lv_room (Nat.le_of_ble_eq_true rfl)) dX12_roll_16 ⟨Nat.le_of_ble_eq_true rfl, Nat.le_of_ble_eq_true rfl⟩) ?_
      refine lv_goto (tgt := 24) hx hb dX12_roll_19 (by decide) ?_
      rw [← hQ, ← Option.some.inj hf]
      exact eR_i hx hb hr hlk rfl dX12_roll_24
set_option maxHeartbeats 4000000 in
set_option maxRecDepth 100000 in
theorem c_X12_shown (l : Launch) (g : bG) (q : Nat → Nat) (v_holder : Int32) (v_games : Int32) (v_sights : Int32) (v_padMany : Int32) (v_acts : Int32) (v_nothings : Int32) (v_wholeNow : Int32) (v_badAct : Int32) (v_badWhy : Int32) (v_wholeAct : Int32) (v_wholeWho : Int32) (v_keptAt : Int32) (v_isWriting : Int32) (v_sightRow : Nat → Int32) (v_sightTop : Nat → Int32) (x1 : Int32) (x2 : Int32) (out : Int32 × (Nat → Int32) × (Nat → Int32) × Int32) (hf : f_X12_shown v_sightRow v_sightTop v_sights x1 x2 = some out) : Mi l g yX12_shown wsX12_shown ({ frames := 1, cells := 0, slots := 0, locals := 25 } : Room) [.ref (q 0), .int x1, .int x2] [((q 0), .inr (10, oX12 q v_holder v_games v_sights v_padMany v_acts v_nothings v_wholeNow v_badAct v_badWhy v_wholeAct v_wholeWho v_keptAt v_isWriting)), ((q 5), .inl (gI g, 8, .inl v_sightRow)), ((q 6), .inl (gI g, 8, .inl v_sightTop))] out.1 [((q 0), .inr (10, oX12 q v_holder v_games out.2.2.2 v_padMany v_acts v_nothings v_wholeNow v_badAct v_badWhy v_wholeAct v_wholeWho v_keptAt v_isWriting)), ((q 5), .inl (gI g, 8, .inl out.2.1)), ((q 6), .inl (gI g, 8, .inl out.2.2.1))] := by
  refine ofM (Qc := fun A => Qi g out.1 [((q 0), .inr (10, oX12 q v_holder v_games out.2.2.2 v_padMany v_acts v_nothings v_wholeNow v_badAct v_badWhy v_wholeAct v_wholeWho v_keptAt v_isWriting)), ((q 5), .inl (gI g, 8, .inl out.2.1)), ((q 6), .inl (gI g, 8, .inl out.2.2.1))] A) (cc := cX12_shown) (nL := 3) (ret := some .int) (by decide) rfl (Nat.le_of_ble_eq_true rfl) ?_
  intro p e s m below meth c ar A hC hA hP hD hG ls hl
  have hS : va_S A s.heap s.heap [] := va_S.rf
  obtain ⟨hx, hb, hml, hown, hts, hr, hlk, -⟩ := hC
  have hl : lv_has ls 3 [(0, .ref (q 0)), (1, .int x1), (2, .int x2)] := hl
  have hK := hG.1
  have iX12 : ∀ w ∈ u_ws RX12 TX12 30, w ∈ wsX12_shown := fun w h => List.mem_cons_of_mem _ (List.mem_append_right _ (h))
  generalize hQ : MQ below (Qi g out.1 [((q 0), .inr (10, oX12 q v_holder v_games out.2.2.2 v_padMany v_acts v_nothings v_wholeNow v_badAct v_badWhy v_wholeAct v_wholeWho v_keptAt v_isWriting)), ((q 5), .inl (gI g, 8, .inl out.2.1)), ((q 6), .inl (gI g, 8, .inl out.2.2.1))] A) ar s 0 0 A = QQ
  unfold f_X12_shown at hf
  refine lv_iload_n hx hb dX12_shown_0 rfl (lv_at hl 1 rfl) ?_
  obtain ⟨z1, hq2, hf⟩ := bnd_some hf
  refine kR_i (va_runS (As := [.int x1]) (rest := []) ⟨hx, hb, hml, hown, hts⟩ (c_X12_isRow l g x1 z1 hq2) (va_cwS 1 hts gX12_shown_X12_isRow rfl rfl rfl (by decide +kernel) ⟨Nat.le_of_ble_eq_true rfl, Nat.le_of_ble_eq_true rfl⟩) (kpS_R (hG.now hS) (hP.subm (ws' := []) [] rfl)) rfl rfl hl.1 rfl (lv_room (Nat.le_of_ble_eq_true rfl)) dX12_shown_1 ⟨Nat.le_of_ble_eq_true rfl, Nat.le_of_ble_eq_true rfl⟩) ?_
  refine lv_if_eq (tgt := 19) hx hb dX12_shown_4 (by decide) (fun c3 => ?_) (fun c3 => ?_)
  · replace hf := ift c3 hf
    refine lv_bipush (v := -2) hx hb dX12_shown_19 (by decide) ?_
    rw [← hQ, ← Option.some.inj hf]
    exact eM_i hx hb hr hlk hP hD hS rfl dX12_shown_21
  · replace hf := iff_ c3 hf
    refine lv_iload_n hx hb dX12_shown_7 rfl (lv_at hl 2 rfl) ?_
    refine lv_i2l (v := (Int32.toInt64 x2)) hx hb dX12_shown_8 rfl ?_
    refine lv_lconst (v := 1) hx hb dX12_shown_9 (by decide) ?_
    refine lv_ldc2 (v := 6) hx hb hown (hts (.constantLong RX12 229 (6)) (List.mem_of_getElem? (i := 1) rfl)) dX12_shown_10 ?_
    obtain ⟨z4, hq5, hf⟩ := bnd_some hf
    refine kR_i (va_runS (As := [.long (Int32.toInt64 x2), .long (1 : Int64), .long (6 : Int64)]) (rest := []) ⟨hx, hb, hml, hown, hts⟩ (c_X12_in l g (Int32.toInt64 x2) (1 : Int64) (6 : Int64) z4 hq5) (va_cwS 3 hts gX12_shown_X12_in rfl rfl rfl (by decide +kernel) ⟨Nat.le_of_ble_eq_true rfl, Nat.le_of_ble_eq_true rfl⟩) (kpS_R (hG.now hS) (hP.subm (ws' := []) [] rfl)) rfl rfl hl.1 rfl (lv_room (Nat.le_of_ble_eq_true rfl)) dX12_shown_13 ⟨Nat.le_of_ble_eq_true rfl, Nat.le_of_ble_eq_true rfl⟩) ?_
    refine lv_if_ne (tgt := 22) hx hb dX12_shown_16 (by decide) (fun c6 => ?_) (fun c6 => ?_)
    · replace hf := iff_ c6 hf
      refine lv_aload_n hx hb dX12_shown_22 rfl (lv_at hl 0 rfl) ?_
      refine va_get (D := gD g) (ci := 10) (v := .int v_sights) (C := RX12) (T := TX12) (N := 30) hx hb hts iX12 hown hK hP 0 rfl rfl 8 (by decide) (hts (.fieldLink RX12 269 "BeetleDriveModel" "sights" "I") (List.mem_of_getElem? (i := 2) rfl)) (fun _ h9 => h9) rfl dX12_shown_23 ?_
      refine lv_bipush (v := 8) hx hb dX12_shown_26 (by decide) ?_
      refine lv_icmp_ne (tgt := 34) hx hb dX12_shown_28 (by decide) (fun c7 => ?_) (fun c7 => ?_)
      · replace hf := iff_ c7 hf
        refine lv_aload_n hx hb dX12_shown_34 rfl (lv_at hl 0 rfl) ?_
        refine va_get (D := gD g) (ci := 10) (v := .ref (q 5)) (C := RX12) (T := TX12) (N := 30) hx hb hts iX12 hown hK hP 0 rfl rfl 6 (by decide) (hts (.fieldLink RX12 22 "BeetleDriveModel" "sightRow" "[I") (List.mem_of_getElem? (i := 3) rfl)) (fun _ h9 => h9) rfl dX12_shown_35 ?_
        refine lv_aload_n hx hb dX12_shown_38 rfl (lv_at hl 0 rfl) ?_
        refine va_get (D := gD g) (ci := 10) (v := .int v_sights) (C := RX12) (T := TX12) (N := 30) hx hb hts iX12 hown hK hP 0 rfl rfl 8 (by decide) (hts (.fieldLink RX12 269 "BeetleDriveModel" "sights" "I") (List.mem_of_getElem? (i := 2) rfl)) (fun _ h9 => h9) rfl dX12_shown_39 ?_
        refine lv_iload_n hx hb dX12_shown_42 rfl (lv_at hl 1 rfl) ?_
        obtain ⟨hi8, hf⟩ := chk_some hf
        refine va_iast hx hb hK hP hD hS 1 0 rfl rfl hi8 dX12_shown_43 (fun H locs hP hD hS => ?_)
        have hP : va_P (gD g) vwCl [((q 0), .inr (10, oX12 q v_holder v_games v_sights v_padMany v_acts v_nothings v_wholeNow v_badAct v_badWhy v_wholeAct v_wholeWho v_keptAt v_isWriting)), ((q 5), .inl (gI g, 8, .inl (upd v_sightRow (Int32.toNatClampNeg v_sights) x1))), ((q 6), .inl (gI g, 8, .inl v_sightTop))] H := hP
        have hD : va_D A [((q 0), .inr (10, oX12 q v_holder v_games v_sights v_padMany v_acts v_nothings v_wholeNow v_badAct v_badWhy v_wholeAct v_wholeWho v_keptAt v_isWriting)), ((q 5), .inl (gI g, 8, .inl (upd v_sightRow (Int32.toNatClampNeg v_sights) x1))), ((q 6), .inl (gI g, 8, .inl v_sightTop))] := hD
        refine lv_aload_n hx hb dX12_shown_44 rfl (lv_at hl 0 rfl) ?_
        refine va_get (D := gD g) (ci := 10) (v := .ref (q 6)) (C := RX12) (T := TX12) (N := 30) hx hb hts iX12 hown hK hP 0 rfl rfl 7 (by decide) (hts (.fieldLink RX12 25 "BeetleDriveModel" "sightTop" "[I") (List.mem_of_getElem? (i := 4) rfl)) (fun _ h9 => h9) rfl dX12_shown_45 ?_
        refine lv_aload_n hx hb dX12_shown_48 rfl (lv_at hl 0 rfl) ?_
        refine va_get (D := gD g) (ci := 10) (v := .int v_sights) (C := RX12) (T := TX12) (N := 30) hx hb hts iX12 hown hK hP 0 rfl rfl 8 (by decide) (hts (.fieldLink RX12 269 "BeetleDriveModel" "sights" "I") (List.mem_of_getElem? (i := 2) rfl)) (fun _ h9 => h9) rfl dX12_shown_49 ?_
        refine lv_iload_n hx hb dX12_shown_52 rfl (lv_at hl 2 rfl) ?_
        obtain ⟨hi9, hf⟩ := chk_some hf
        refine va_iast hx hb hK hP hD hS 2 0 rfl rfl hi9 dX12_shown_53 (fun H locs hP hD hS => ?_)
        have hP : va_P (gD g) vwCl [((q 0), .inr (10, oX12 q v_holder v_games v_sights v_padMany v_acts v_nothings v_wholeNow v_badAct v_badWhy v_wholeAct v_wholeWho v_keptAt v_isWriting)), ((q 5), .inl (gI g, 8, .inl (upd v_sightRow (Int32.toNatClampNeg v_sights) x1))), ((q 6), .inl (gI g, 8, .inl (upd v_sightTop (Int32.toNatClampNeg v_sights) x2)))] H := hP
        have hD : va_D A [((q 0), .inr (10, oX12 q v_holder v_games v_sights v_padMany v_acts v_nothings v_wholeNow v_badAct v_badWhy v_wholeAct v_wholeWho v_keptAt v_isWriting)), ((q 5), .inl (gI g, 8, .inl (upd v_sightRow (Int32.toNatClampNeg v_sights) x1))), ((q 6), .inl (gI g, 8, .inl (upd v_sightTop (Int32.toNatClampNeg v_sights) x2)))] := hD
        refine lv_aload_n hx hb dX12_shown_54 rfl (lv_at hl 0 rfl) ?_
        refine lv_dup hx hb dX12_shown_55 rfl ?_
        refine va_get (D := gD g) (ci := 10) (v := .int v_sights) (C := RX12) (T := TX12) (N := 30) hx hb hts iX12 hown hK hP 0 rfl rfl 8 (by decide) (hts (.fieldLink RX12 269 "BeetleDriveModel" "sights" "I") (List.mem_of_getElem? (i := 2) rfl)) (fun _ h9 => h9) rfl dX12_shown_56 ?_
        refine lv_iconst (v := 1) hx hb dX12_shown_59 (by decide) ?_
        refine lv_iadd hx hb dX12_shown_60 ?_
        refine va_put (D := gD g) (ci := 10) (v := .int (v_sights + (1 : Int32))) (ty := .int) (C := RX12) (T := TX12) (N := 30) hx hb hts iX12 tyX12 tyX12_ok nmX12 hown hK hP hD hS 0 rfl rfl 8 (by decide) (hts (.fieldLink RX12 269 "BeetleDriveModel" "sights" "I") (List.mem_of_getElem? (i := 2) rfl)) (fun _ h9 => h9) rfl (tyX12_ok 8 (by decide)) rfl rfl (Nat.le_of_ble_eq_true rfl) dX12_shown_61 (fun H locs hP hD hS => ?_)
        have hP : va_P (gD g) vwCl [((q 0), .inr (10, oX12 q v_holder v_games (v_sights + (1 : Int32)) v_padMany v_acts v_nothings v_wholeNow v_badAct v_badWhy v_wholeAct v_wholeWho v_keptAt v_isWriting)), ((q 5), .inl (gI g, 8, .inl (upd v_sightRow (Int32.toNatClampNeg v_sights) x1))), ((q 6), .inl (gI g, 8, .inl (upd v_sightTop (Int32.toNatClampNeg v_sights) x2)))] H := hP
        have hD : va_D A [((q 0), .inr (10, oX12 q v_holder v_games (v_sights + (1 : Int32)) v_padMany v_acts v_nothings v_wholeNow v_badAct v_badWhy v_wholeAct v_wholeWho v_keptAt v_isWriting)), ((q 5), .inl (gI g, 8, .inl (upd v_sightRow (Int32.toNatClampNeg v_sights) x1))), ((q 6), .inl (gI g, 8, .inl (upd v_sightTop (Int32.toNatClampNeg v_sights) x2)))] := hD
        refine lv_aload_n hx hb dX12_shown_64 rfl (lv_at hl 0 rfl) ?_
        refine va_get (D := gD g) (ci := 10) (v := .int (v_sights + (1 : Int32))) (C := RX12) (T := TX12) (N := 30) hx hb hts iX12 hown hK hP 0 rfl rfl 8 (by decide) (hts (.fieldLink RX12 269 "BeetleDriveModel" "sights" "I") (List.mem_of_getElem? (i := 2) rfl)) (fun _ h9 => h9) rfl dX12_shown_65 ?_
        rw [← hQ, ← Option.some.inj hf]
        exact eM_i hx hb hr hlk hP hD hS rfl dX12_shown_68
      · replace hf := ift c7 hf
        refine lv_bipush (v := -4) hx hb dX12_shown_31 (by decide) ?_
        rw [← hQ, ← Option.some.inj hf]
        exact eM_i hx hb hr hlk hP hD hS rfl dX12_shown_33
    · replace hf := ift c6 hf
      refine lv_bipush (v := -2) hx hb dX12_shown_19 (by decide) ?_
      rw [← hQ, ← Option.some.inj hf]
      exact eM_i hx hb hr hlk hP hD hS rfl dX12_shown_21
set_option maxHeartbeats 4000000 in
set_option maxRecDepth 100000 in
theorem c_X12_forget (l : Launch) (g : bG) (q : Nat → Nat) (v_holder : Int32) (v_games : Int32) (v_sights : Int32) (v_padMany : Int32) (v_acts : Int32) (v_nothings : Int32) (v_wholeNow : Int32) (v_badAct : Int32) (v_badWhy : Int32) (v_wholeAct : Int32) (v_wholeWho : Int32) (v_keptAt : Int32) (v_isWriting : Int32) (out : Int32 × Int32) (hf : f_X12_forget v_sights = some out) : Mi l g yX12_forget wsX12_forget ({ frames := 0, cells := 0, slots := 0, locals := 0 } : Room) [.ref (q 0)] [((q 0), .inr (10, oX12 q v_holder v_games v_sights v_padMany v_acts v_nothings v_wholeNow v_badAct v_badWhy v_wholeAct v_wholeWho v_keptAt v_isWriting))] out.1 [((q 0), .inr (10, oX12 q v_holder v_games out.2 v_padMany v_acts v_nothings v_wholeNow v_badAct v_badWhy v_wholeAct v_wholeWho v_keptAt v_isWriting))] := by
  refine ofM (Qc := fun A => Qi g out.1 [((q 0), .inr (10, oX12 q v_holder v_games out.2 v_padMany v_acts v_nothings v_wholeNow v_badAct v_badWhy v_wholeAct v_wholeWho v_keptAt v_isWriting))] A) (cc := cX12_forget) (nL := 2) (ret := some .int) (by decide) rfl (Nat.le_of_ble_eq_true rfl) ?_
  intro p e s m below meth c ar A hC hA hP hD hG ls hl
  have hS : va_S A s.heap s.heap [] := va_S.rf
  obtain ⟨hx, hb, hml, hown, hts, hr, hlk, -⟩ := hC
  have hl : lv_has ls 2 [(0, .ref (q 0))] := hl
  have hK := hG.1
  have iX12 : ∀ w ∈ u_ws RX12 TX12 30, w ∈ wsX12_forget := fun w h => List.mem_cons_of_mem _ (List.mem_append_right _ (h))
  generalize hQ : MQ below (Qi g out.1 [((q 0), .inr (10, oX12 q v_holder v_games out.2 v_padMany v_acts v_nothings v_wholeNow v_badAct v_badWhy v_wholeAct v_wholeWho v_keptAt v_isWriting))] A) ar s 0 0 A = QQ
  unfold f_X12_forget at hf
  refine lv_aload_n hx hb dX12_forget_0 rfl (lv_at hl 0 rfl) ?_
  refine va_get (D := gD g) (ci := 10) (v := .int v_sights) (C := RX12) (T := TX12) (N := 30) hx hb hts iX12 hown hK hP 0 rfl rfl 8 (by decide) (hts (.fieldLink RX12 269 "BeetleDriveModel" "sights" "I") (List.mem_of_getElem? (i := 1) rfl)) (fun _ h9 => h9) rfl dX12_forget_1 ?_
  refine lv_istore_n (lv' := [(1, .int v_sights), (0, .ref (q 0))]) hx hb dX12_forget_4 rfl hl (by decide) rfl (fun ls hl => ?_)
  refine lv_aload_n hx hb dX12_forget_5 rfl (lv_at hl 1 rfl) ?_
  refine lv_iconst (v := 0) hx hb dX12_forget_6 (by decide) ?_
  refine va_put (D := gD g) (ci := 10) (v := .int (0 : Int32)) (ty := .int) (C := RX12) (T := TX12) (N := 30) hx hb hts iX12 tyX12 tyX12_ok nmX12 hown hK hP hD hS 0 rfl rfl 8 (by decide) (hts (.fieldLink RX12 269 "BeetleDriveModel" "sights" "I") (List.mem_of_getElem? (i := 1) rfl)) (fun _ h9 => h9) rfl (tyX12_ok 8 (by decide)) rfl rfl (Nat.le_of_ble_eq_true rfl) dX12_forget_7 (fun H locs hP hD hS => ?_)
  have hP : va_P (gD g) vwCl [((q 0), .inr (10, oX12 q v_holder v_games (0 : Int32) v_padMany v_acts v_nothings v_wholeNow v_badAct v_badWhy v_wholeAct v_wholeWho v_keptAt v_isWriting))] H := hP
  have hD : va_D A [((q 0), .inr (10, oX12 q v_holder v_games (0 : Int32) v_padMany v_acts v_nothings v_wholeNow v_badAct v_badWhy v_wholeAct v_wholeWho v_keptAt v_isWriting))] := hD
  refine lv_iload_n hx hb dX12_forget_10 rfl (lv_at hl 0 rfl) ?_
  rw [← hQ, ← Option.some.inj hf]
  exact eM_i hx hb hr hlk hP hD hS rfl dX12_forget_11
set_option maxHeartbeats 4000000 in
set_option maxRecDepth 100000 in
theorem c_X12_isFit (l : Launch) (g : bG) (q : Nat → Nat) (v_holder : Int32) (v_games : Int32) (v_sights : Int32) (v_padMany : Int32) (v_acts : Int32) (v_nothings : Int32) (v_wholeNow : Int32) (v_badAct : Int32) (v_badWhy : Int32) (v_wholeAct : Int32) (v_wholeWho : Int32) (v_keptAt : Int32) (v_isWriting : Int32) (v_sightRow : Nat → Int32) (v_sightTop : Nat → Int32) (x1 : Int32) (out : Int32) (hf : f_X12_isFit v_sightRow v_sightTop v_sights x1 = some out) : Ri l g yX12_isFit wsX12_isFit ({ frames := 4, cells := 0, slots := 0, locals := 90 } : Room) [.ref (q 0), .int x1] [((q 0), .inr (10, oX12 q v_holder v_games v_sights v_padMany v_acts v_nothings v_wholeNow v_badAct v_badWhy v_wholeAct v_wholeWho v_keptAt v_isWriting)), ((q 5), .inl (gI g, 8, .inl v_sightRow)), ((q 6), .inl (gI g, 8, .inl v_sightTop))] out := by
  refine ofR (cc := cX12_isFit) (nL := 4) (ret := some .boolean) (by decide) rfl (Nat.le_of_ble_eq_true rfl) ?_
  intro p e s m below meth c ar hC hP hG ls hl
  have hS : va_S (fun _ => False) s.heap s.heap [] := va_S.rf
  obtain ⟨hx, hb, hml, hown, hts, hr, hlk, -⟩ := hC
  have hl : lv_has ls 4 [(0, .ref (q 0)), (1, .int x1)] := hl
  have hK := hG.1
  have iX12 : ∀ w ∈ u_ws RX12 TX12 30, w ∈ wsX12_isFit := fun w h => List.mem_cons_of_mem _ (List.mem_append_right _ (h))
  generalize hQ : MQ below (vp_Si (fun x => x = out)) ar s 0 0 (fun _ => False) = QQ
  have w_7 : ∀ n : Nat, ∀ (x1 : Int32) (x2 : Int32) (x3 : Int32), f_X12_isFit_b7 v_sightRow v_sightTop v_sights n x1 x2 x3 = some out → ∀ ls : Array Slot, lv_has ls 4 [(0, .ref (q 0)), (1, .int x1), (2, .int x2), (3, .int x3)] → W p l e ({ frames := 4, cells := 0, slots := 0, locals := 90 } : Room) s m ar below meth c s.heap [] 0 0 QQ (F0 m 7 ls []) := by
    intro n
    induction n with
    | zero =>
      intro x1 x2 x3 hf
      rw [f_X12_isFit_b7_z] at hf
      cases hf
    | succ n ih =>
      intro x1 x2 x3 hf ls hl
      rw [f_X12_isFit_b7_s] at hf
      refine lv_iload_n hx hb dX12_isFit_7 rfl (lv_at hl 3 rfl) ?_
      refine lv_aload_n hx hb dX12_isFit_8 rfl (lv_at hl 0 rfl) ?_
      refine va_get (D := gD g) (ci := 10) (v := .int v_sights) (C := RX12) (T := TX12) (N := 30) hx hb hts iX12 hown hK hP 0 rfl rfl 8 (by decide) (hts (.fieldLink RX12 269 "BeetleDriveModel" "sights" "I") (List.mem_of_getElem? (i := 1) rfl)) (fun _ h9 => h9) rfl dX12_isFit_9 ?_
      refine lv_icmp_ge (tgt := 50) hx hb dX12_isFit_12 (by decide) (fun c3 => ?_) (fun c3 => ?_)
      · replace hf := ift c3 hf
        refine lv_iload_n hx hb dX12_isFit_50 rfl (lv_at hl 2 rfl) ?_
        obtain ⟨hz4, hf⟩ := bz_some hf
        rw [← hQ, ← Option.some.inj hf]
        exact eR_z hx hb hr hlk hz4 rfl dX12_isFit_51
      · replace hf := iff_ c3 hf
        refine lv_iload_n hx hb dX12_isFit_15 rfl (lv_at hl 2 rfl) ?_
        refine lv_if_eq (tgt := 42) hx hb dX12_isFit_16 (by decide) (fun c5 => ?_) (fun c5 => ?_)
        · replace hf := ift c5 hf
          refine lv_iconst (v := 0) hx hb dX12_isFit_42 (by decide) ?_
          refine lv_istore_n (lv' := [(2, .int (0 : Int32)), (0, .ref (q 0)), (1, .int x1), (3, .int x3)]) hx hb dX12_isFit_43 rfl hl (by decide) rfl (fun ls hl => ?_)
          refine lv_iinc (v := (x3 + 1)) (lv' := [(3, .int (x3 + 1)), (2, .int (0 : Int32)), (0, .ref (q 0)), (1, .int x1)]) hx hb dX12_isFit_44 hl (k := 3) rfl rfl (by decide) rfl (fun ls hl => ?_)
          refine lv_goto (tgt := 7) hx hb dX12_isFit_47 (by decide) ?_
          exact ih x1 (0 : Int32) (x3 + 1) hf ls (lv_sub hl [2, 3, 1, 0] rfl)
        · replace hf := iff_ c5 hf
          refine lv_iload_n hx hb dX12_isFit_19 rfl (lv_at hl 1 rfl) ?_
          refine lv_aload_n hx hb dX12_isFit_20 rfl (lv_at hl 0 rfl) ?_
          refine va_get (D := gD g) (ci := 10) (v := .ref (q 5)) (C := RX12) (T := TX12) (N := 30) hx hb hts iX12 hown hK hP 0 rfl rfl 6 (by decide) (hts (.fieldLink RX12 22 "BeetleDriveModel" "sightRow" "[I") (List.mem_of_getElem? (i := 2) rfl)) (fun _ h9 => h9) rfl dX12_isFit_21 ?_
          refine lv_iload_n hx hb dX12_isFit_24 rfl (lv_at hl 3 rfl) ?_
          obtain ⟨hi6, hf⟩ := chk_some hf
          refine va_iald hx hb hK hP 1 0 rfl rfl hi6 dX12_isFit_25 ?_
          obtain ⟨z7, hq8, hf⟩ := bnd_some hf
          refine kR_i (va_runS (As := [.int x1, .int (v_sightRow (Int32.toNatClampNeg x3))]) (rest := []) ⟨hx, hb, hml, hown, hts⟩ (c_X12_topBy l g x1 (v_sightRow (Int32.toNatClampNeg x3)) z7 hq8) (va_cwS 2 hts gX12_isFit_X12_topBy rfl rfl rfl (by decide +kernel) ⟨Nat.le_of_ble_eq_true rfl, Nat.le_of_ble_eq_true rfl⟩) (kpS_R hG (hP.subm (ws' := []) [] rfl)) rfl rfl hl.1 rfl (lv_room (Nat.le_of_ble_eq_true rfl)) dX12_isFit_26 ⟨Nat.le_of_ble_eq_true rfl, Nat.le_of_ble_eq_true rfl⟩) ?_
          refine lv_aload_n hx hb dX12_isFit_29 rfl (lv_at hl 0 rfl) ?_
          refine va_get (D := gD g) (ci := 10) (v := .ref (q 6)) (C := RX12) (T := TX12) (N := 30) hx hb hts iX12 hown hK hP 0 rfl rfl 7 (by decide) (hts (.fieldLink RX12 25 "BeetleDriveModel" "sightTop" "[I") (List.mem_of_getElem? (i := 3) rfl)) (fun _ h9 => h9) rfl dX12_isFit_30 ?_
          refine lv_iload_n hx hb dX12_isFit_33 rfl (lv_at hl 3 rfl) ?_
          obtain ⟨hi9, hf⟩ := chk_some hf
          refine va_iald hx hb hK hP 2 0 rfl rfl hi9 dX12_isFit_34 ?_
          refine lv_icmp_ne (tgt := 42) hx hb dX12_isFit_35 (by decide) (fun c10 => ?_) (fun c10 => ?_)
          · replace hf := iff_ c10 hf
            refine lv_iconst (v := 0) hx hb dX12_isFit_42 (by decide) ?_
            refine lv_istore_n (lv' := [(2, .int (0 : Int32)), (0, .ref (q 0)), (1, .int x1), (3, .int x3)]) hx hb dX12_isFit_43 rfl hl (by decide) rfl (fun ls hl => ?_)
            refine lv_iinc (v := (x3 + 1)) (lv' := [(3, .int (x3 + 1)), (2, .int (0 : Int32)), (0, .ref (q 0)), (1, .int x1)]) hx hb dX12_isFit_44 hl (k := 3) rfl rfl (by decide) rfl (fun ls hl => ?_)
            refine lv_goto (tgt := 7) hx hb dX12_isFit_47 (by decide) ?_
            exact ih x1 (0 : Int32) (x3 + 1) hf ls (lv_sub hl [2, 3, 1, 0] rfl)
          · replace hf := ift c10 hf
            refine lv_iconst (v := 1) hx hb dX12_isFit_38 (by decide) ?_
            refine lv_goto (tgt := 43) hx hb dX12_isFit_39 (by decide) ?_
            refine lv_istore_n (lv' := [(2, .int (1 : Int32)), (0, .ref (q 0)), (1, .int x1), (3, .int x3)]) hx hb dX12_isFit_43 rfl hl (by decide) rfl (fun ls hl => ?_)
            refine lv_iinc (v := (x3 + 1)) (lv' := [(3, .int (x3 + 1)), (2, .int (1 : Int32)), (0, .ref (q 0)), (1, .int x1)]) hx hb dX12_isFit_44 hl (k := 3) rfl rfl (by decide) rfl (fun ls hl => ?_)
            refine lv_goto (tgt := 7) hx hb dX12_isFit_47 (by decide) ?_
            exact ih x1 (1 : Int32) (x3 + 1) hf ls (lv_sub hl [2, 3, 1, 0] rfl)
  unfold f_X12_isFit at hf
  refine lv_iload_n hx hb dX12_isFit_0 rfl (lv_at hl 1 rfl) ?_
  obtain ⟨z1, hq2, hf⟩ := bnd_some hf
  refine kR_i (va_runS (As := [.int x1]) (rest := []) ⟨hx, hb, hml, hown, hts⟩ (c_X12_isLying l g x1 z1 hq2) (va_cwS 1 hts gX12_isFit_X12_isLying rfl rfl rfl (by decide +kernel) ⟨Nat.le_of_ble_eq_true rfl, Nat.le_of_ble_eq_true rfl⟩) (kpS_R hG (hP.subm (ws' := []) [] rfl)) rfl rfl hl.1 rfl (lv_room (Nat.le_of_ble_eq_true rfl)) dX12_isFit_1 ⟨Nat.le_of_ble_eq_true rfl, Nat.le_of_ble_eq_true rfl⟩) ?_
  refine lv_istore_n (lv' := [(2, .int z1), (0, .ref (q 0)), (1, .int x1)]) hx hb dX12_isFit_4 rfl hl (by decide) rfl (fun ls hl => ?_)
  refine lv_iconst (v := 0) hx hb dX12_isFit_5 (by decide) ?_
  refine lv_istore_n (lv' := [(3, .int (0 : Int32)), (2, .int z1), (0, .ref (q 0)), (1, .int x1)]) hx hb dX12_isFit_6 rfl hl (by decide) rfl (fun ls hl => ?_)
  exact w_7 FU x1 z1 (0 : Int32) hf ls (lv_sub hl [2, 3, 1, 0] rfl)
set_option maxHeartbeats 4000000 in
set_option maxRecDepth 100000 in
theorem c_X12_lies (l : Launch) (g : bG) (q : Nat → Nat) (v_holder : Int32) (v_games : Int32) (v_sights : Int32) (v_padMany : Int32) (v_acts : Int32) (v_nothings : Int32) (v_wholeNow : Int32) (v_badAct : Int32) (v_badWhy : Int32) (v_wholeAct : Int32) (v_wholeWho : Int32) (v_keptAt : Int32) (v_isWriting : Int32) (v_sightRow : Nat → Int32) (v_sightTop : Nat → Int32) (x1 : Int32) (out : Int32) (hf : f_X12_lies v_sightRow v_sightTop v_sights x1 = some out) : Ri l g yX12_lies wsX12_lies ({ frames := 5, cells := 0, slots := 0, locals := 113 } : Room) [.ref (q 0), .int x1] [((q 0), .inr (10, oX12 q v_holder v_games v_sights v_padMany v_acts v_nothings v_wholeNow v_badAct v_badWhy v_wholeAct v_wholeWho v_keptAt v_isWriting)), ((q 5), .inl (gI g, 8, .inl v_sightRow)), ((q 6), .inl (gI g, 8, .inl v_sightTop))] out := by
  refine ofR (cc := cX12_lies) (nL := 4) (ret := some .int) (by decide) rfl (Nat.le_of_ble_eq_true rfl) ?_
  intro p e s m below meth c ar hC hP hG ls hl
  have hS : va_S (fun _ => False) s.heap s.heap [] := va_S.rf
  obtain ⟨hx, hb, hml, hown, hts, hr, hlk, -⟩ := hC
  have hl : lv_has ls 4 [(0, .ref (q 0)), (1, .int x1)] := hl
  have hK := hG.1
  generalize hQ : MQ below (vp_Si (fun x => x = out)) ar s 0 0 (fun _ => False) = QQ
  have w_5 : ∀ n : Nat, ∀ (x1 : Int32) (x2 : Int32) (x3 : Int32), f_X12_lies_b5 v_sightRow v_sightTop v_sights n x1 x2 x3 = some out → ∀ ls : Array Slot, lv_has ls 4 [(0, .ref (q 0)), (1, .int x1), (2, .int x2), (3, .int x3)] → W p l e ({ frames := 5, cells := 0, slots := 0, locals := 113 } : Room) s m ar below meth c s.heap [] 0 0 QQ (F0 m 5 ls []) := by
    intro n
    induction n with
    | zero =>
      intro x1 x2 x3 hf
      rw [f_X12_lies_b5_z] at hf
      cases hf
    | succ n ih =>
      intro x1 x2 x3 hf ls hl
      rw [f_X12_lies_b5_s] at hf
      refine lv_iload_n hx hb dX12_lies_5 rfl (lv_at hl 3 rfl) ?_
      refine lv_bipush (v := 66) hx hb dX12_lies_6 (by decide) ?_
      refine lv_icmp_gt (tgt := 35) hx hb dX12_lies_8 (by decide) (fun c1 => ?_) (fun c1 => ?_)
      · replace hf := ift c1 hf
        refine lv_iload_n hx hb dX12_lies_35 rfl (lv_at hl 1 rfl) ?_
        refine lv_iconst (v := -1) hx hb dX12_lies_36 (by decide) ?_
        refine lv_icmp_ne (tgt := 44) hx hb dX12_lies_37 (by decide) (fun c2 => ?_) (fun c2 => ?_)
        · replace hf := iff_ c2 hf
          refine lv_bipush (v := -6) hx hb dX12_lies_44 (by decide) ?_
          rw [← hQ, ← Option.some.inj hf]
          exact eR_i hx hb hr hlk rfl dX12_lies_46
        · replace hf := ift c2 hf
          refine lv_iload_n hx hb dX12_lies_40 rfl (lv_at hl 2 rfl) ?_
          refine lv_goto (tgt := 46) hx hb dX12_lies_41 (by decide) ?_
          rw [← hQ, ← Option.some.inj hf]
          exact eR_i hx hb hr hlk rfl dX12_lies_46
      · replace hf := iff_ c1 hf
        refine lv_aload_n hx hb dX12_lies_11 rfl (lv_at hl 0 rfl) ?_
        refine lv_iload_n hx hb dX12_lies_12 rfl (lv_at hl 3 rfl) ?_
        obtain ⟨z3, hq4, hf⟩ := bnd_some hf
        refine kR_i (va_runV (As := [.int x3]) (rest := []) ⟨hx, hb, hml, hown, hts⟩ (c_X12_isFit l g q v_holder v_games v_sights v_padMany v_acts v_nothings v_wholeNow v_badAct v_badWhy v_wholeAct v_wholeWho v_keptAt v_isWriting v_sightRow v_sightTop x3 z3 hq4) (cwV 1 hts gX12_lies_X12_isFit rfl rfl rfl (by decide +kernel) ⟨Nat.le_of_ble_eq_true rfl, Nat.le_of_ble_eq_true rfl⟩) (kpV_R (q0 := 0) (ci := 10) hG (hP.subm (ws' := [((q 0), .inr (10, oX12 q v_holder v_games v_sights v_padMany v_acts v_nothings v_wholeNow v_badAct v_badWhy v_wholeAct v_wholeWho v_keptAt v_isWriting)), ((q 5), .inl (gI g, 8, .inl v_sightRow)), ((q 6), .inl (gI g, 8, .inl v_sightTop))]) [0, 1, 2] rfl) rfl rfl) rfl rfl hl.1 rfl (lv_room (Nat.le_of_ble_eq_true rfl)) dX12_lies_13 ⟨Nat.le_of_ble_eq_true rfl, Nat.le_of_ble_eq_true rfl⟩) ?_
        refine lv_if_eq (tgt := 29) hx hb dX12_lies_16 (by decide) (fun c5 => ?_) (fun c5 => ?_)
        · replace hf := ift c5 hf
          refine lv_iinc (v := (x3 + 1)) (lv' := [(3, .int (x3 + 1)), (0, .ref (q 0)), (1, .int x1), (2, .int x2)]) hx hb dX12_lies_29 hl (k := 3) rfl rfl (by decide) rfl (fun ls hl => ?_)
          refine lv_goto (tgt := 5) hx hb dX12_lies_32 (by decide) ?_
          exact ih x1 x2 (x3 + 1) hf ls (lv_sub hl [1, 2, 3, 0] rfl)
        · replace hf := iff_ c5 hf
          refine lv_iload_n hx hb dX12_lies_19 rfl (lv_at hl 2 rfl) ?_
          refine lv_iload_n hx hb dX12_lies_20 rfl (lv_at hl 1 rfl) ?_
          refine lv_icmp_ne (tgt := 26) hx hb dX12_lies_21 (by decide) (fun c6 => ?_) (fun c6 => ?_)
          · replace hf := iff_ c6 hf
            refine lv_iinc (v := (x2 + 1)) (lv' := [(2, .int (x2 + 1)), (0, .ref (q 0)), (1, .int x1), (3, .int x3)]) hx hb dX12_lies_26 hl (k := 2) rfl rfl (by decide) rfl (fun ls hl => ?_)
            refine lv_iinc (v := (x3 + 1)) (lv' := [(3, .int (x3 + 1)), (2, .int (x2 + 1)), (0, .ref (q 0)), (1, .int x1)]) hx hb dX12_lies_29 hl (k := 3) rfl rfl (by decide) rfl (fun ls hl => ?_)
            refine lv_goto (tgt := 5) hx hb dX12_lies_32 (by decide) ?_
            exact ih x1 (x2 + 1) (x3 + 1) hf ls (lv_sub hl [2, 3, 1, 0] rfl)
          · replace hf := ift c6 hf
            refine lv_iload_n hx hb dX12_lies_24 rfl (lv_at hl 3 rfl) ?_
            rw [← hQ, ← Option.some.inj hf]
            exact eR_i hx hb hr hlk rfl dX12_lies_25
  unfold f_X12_lies at hf
  refine lv_iconst (v := 0) hx hb dX12_lies_0 (by decide) ?_
  refine lv_istore_n (lv' := [(2, .int (0 : Int32)), (0, .ref (q 0)), (1, .int x1)]) hx hb dX12_lies_1 rfl hl (by decide) rfl (fun ls hl => ?_)
  refine lv_bipush (v := 11) hx hb dX12_lies_2 (by decide) ?_
  refine lv_istore_n (lv' := [(3, .int (11 : Int32)), (2, .int (0 : Int32)), (0, .ref (q 0)), (1, .int x1)]) hx hb dX12_lies_4 rfl hl (by decide) rfl (fun ls hl => ?_)
  exact w_5 FU x1 (0 : Int32) (11 : Int32) hf ls (lv_sub hl [2, 3, 1, 0] rfl)
set_option maxHeartbeats 4000000 in
set_option maxRecDepth 100000 in
theorem c_X12_mostLeft (l : Launch) (g : bG) (q : Nat → Nat) (v_holder : Int32) (v_games : Int32) (v_sights : Int32) (v_padMany : Int32) (v_acts : Int32) (v_nothings : Int32) (v_wholeNow : Int32) (v_badAct : Int32) (v_badWhy : Int32) (v_wholeAct : Int32) (v_wholeWho : Int32) (v_keptAt : Int32) (v_isWriting : Int32) (v_sightRow : Nat → Int32) (v_sightTop : Nat → Int32) (v_byTop : Nat → Int32) (x1 : Int32) (out : Int32 × (Nat → Int32)) (hf : f_X12_mostLeft v_sightRow v_sightTop v_sights v_byTop x1 = some out) : Mi l g yX12_mostLeft wsX12_mostLeft ({ frames := 5, cells := 0, slots := 0, locals := 113 } : Room) [.ref (q 0), .int x1] [((q 0), .inr (10, oX12 q v_holder v_games v_sights v_padMany v_acts v_nothings v_wholeNow v_badAct v_badWhy v_wholeAct v_wholeWho v_keptAt v_isWriting)), ((q 5), .inl (gI g, 8, .inl v_sightRow)), ((q 6), .inl (gI g, 8, .inl v_sightTop)), ((q 14), .inl (gI g, 7, .inl v_byTop))] out.1 [((q 0), .inr (10, oX12 q v_holder v_games v_sights v_padMany v_acts v_nothings v_wholeNow v_badAct v_badWhy v_wholeAct v_wholeWho v_keptAt v_isWriting)), ((q 5), .inl (gI g, 8, .inl v_sightRow)), ((q 6), .inl (gI g, 8, .inl v_sightTop)), ((q 14), .inl (gI g, 7, .inl out.2))] := by
  refine ofM (Qc := fun A => Qi g out.1 [((q 0), .inr (10, oX12 q v_holder v_games v_sights v_padMany v_acts v_nothings v_wholeNow v_badAct v_badWhy v_wholeAct v_wholeWho v_keptAt v_isWriting)), ((q 5), .inl (gI g, 8, .inl v_sightRow)), ((q 6), .inl (gI g, 8, .inl v_sightTop)), ((q 14), .inl (gI g, 7, .inl out.2))] A) (cc := cX12_mostLeft) (nL := 5) (ret := some .int) (by decide) rfl (Nat.le_of_ble_eq_true rfl) ?_
  intro p e s m below meth c ar A hC hA hP hD hG ls hl
  have hS : va_S A s.heap s.heap [] := va_S.rf
  obtain ⟨hx, hb, hml, hown, hts, hr, hlk, -⟩ := hC
  have hl : lv_has ls 5 [(0, .ref (q 0)), (1, .int x1)] := hl
  have hK := hG.1
  have iX12 : ∀ w ∈ u_ws RX12 TX12 30, w ∈ wsX12_mostLeft := fun w h => List.mem_cons_of_mem _ (List.mem_append_right _ (h))
  generalize hQ : MQ below (Qi g out.1 [((q 0), .inr (10, oX12 q v_holder v_games v_sights v_padMany v_acts v_nothings v_wholeNow v_badAct v_badWhy v_wholeAct v_wholeWho v_keptAt v_isWriting)), ((q 5), .inl (gI g, 8, .inl v_sightRow)), ((q 6), .inl (gI g, 8, .inl v_sightTop)), ((q 14), .inl (gI g, 7, .inl out.2))] A) ar s 0 0 A = QQ
  have w_26 : ∀ n : Nat, ∀ (x1 : Int32) (x2 : Int32) (x3 : Int32) (v_byTop : Nat → Int32), f_X12_mostLeft_b26 v_sightRow v_sightTop v_sights n x1 x2 x3 v_byTop = some out → ∀ (H : Heap) (locs : List Loc), va_P (gD g) vwCl [((q 0), .inr (10, oX12 q v_holder v_games v_sights v_padMany v_acts v_nothings v_wholeNow v_badAct v_badWhy v_wholeAct v_wholeWho v_keptAt v_isWriting)), ((q 5), .inl (gI g, 8, .inl v_sightRow)), ((q 6), .inl (gI g, 8, .inl v_sightTop)), ((q 14), .inl (gI g, 7, .inl v_byTop))] H → va_D A [((q 0), .inr (10, oX12 q v_holder v_games v_sights v_padMany v_acts v_nothings v_wholeNow v_badAct v_badWhy v_wholeAct v_wholeWho v_keptAt v_isWriting)), ((q 5), .inl (gI g, 8, .inl v_sightRow)), ((q 6), .inl (gI g, 8, .inl v_sightTop)), ((q 14), .inl (gI g, 7, .inl v_byTop))] → va_S A s.heap H locs → ∀ ls : Array Slot, lv_has ls 5 [(0, .ref (q 0)), (1, .int x1), (2, .int x2), (3, .int x3)] → W p l e ({ frames := 5, cells := 0, slots := 0, locals := 113 } : Room) s m ar below meth c H locs 0 0 QQ (F0 m 26 ls []) := by
    intro n
    induction n with
    | zero =>
      intro x1 x2 x3 v_byTop hf
      rw [f_X12_mostLeft_b26_z] at hf
      cases hf
    | succ n ih =>
      intro x1 x2 x3 v_byTop hf H locs hP hD hS ls hl
      rw [f_X12_mostLeft_b26_s] at hf
      refine lv_iload_n hx hb dX12_mostLeft_26 rfl (lv_at hl 3 rfl) ?_
      refine lv_bipush (v := 66) hx hb dX12_mostLeft_27 (by decide) ?_
      refine lv_icmp_gt (tgt := 87) hx hb dX12_mostLeft_29 (by decide) (fun c2 => ?_) (fun c2 => ?_)
      · replace hf := ift c2 hf
        refine lv_iload_n hx hb dX12_mostLeft_87 rfl (lv_at hl 2 rfl) ?_
        rw [← hQ, ← Option.some.inj hf]
        exact eM_i hx hb hr hlk hP hD hS rfl dX12_mostLeft_88
      · replace hf := iff_ c2 hf
        refine lv_aload_n hx hb dX12_mostLeft_32 rfl (lv_at hl 0 rfl) ?_
        refine lv_iload_n hx hb dX12_mostLeft_33 rfl (lv_at hl 3 rfl) ?_
        obtain ⟨z3, hq4, hf⟩ := bnd_some hf
        refine kR_i (va_runV (As := [.int x3]) (rest := []) ⟨hx, hb, hml, hown, hts⟩ (c_X12_isFit l g q v_holder v_games v_sights v_padMany v_acts v_nothings v_wholeNow v_badAct v_badWhy v_wholeAct v_wholeWho v_keptAt v_isWriting v_sightRow v_sightTop x3 z3 hq4) (cwV 1 hts gX12_mostLeft_X12_isFit rfl rfl rfl (by decide +kernel) ⟨Nat.le_of_ble_eq_true rfl, Nat.le_of_ble_eq_true rfl⟩) (kpV_R (q0 := 0) (ci := 10) (hG.now hS) (hP.subm (ws' := [((q 0), .inr (10, oX12 q v_holder v_games v_sights v_padMany v_acts v_nothings v_wholeNow v_badAct v_badWhy v_wholeAct v_wholeWho v_keptAt v_isWriting)), ((q 5), .inl (gI g, 8, .inl v_sightRow)), ((q 6), .inl (gI g, 8, .inl v_sightTop))]) [0, 1, 2] rfl) rfl rfl) rfl rfl hl.1 rfl (lv_room (Nat.le_of_ble_eq_true rfl)) dX12_mostLeft_34 ⟨Nat.le_of_ble_eq_true rfl, Nat.le_of_ble_eq_true rfl⟩) ?_
        refine lv_if_eq (tgt := 81) hx hb dX12_mostLeft_37 (by decide) (fun c5 => ?_) (fun c5 => ?_)
        · replace hf := ift c5 hf
          refine lv_iinc (v := (x3 + 1)) (lv' := [(3, .int (x3 + 1)), (0, .ref (q 0)), (1, .int x1), (2, .int x2)]) hx hb dX12_mostLeft_81 hl (k := 3) rfl rfl (by decide) rfl (fun ls hl => ?_)
          refine lv_goto (tgt := 26) hx hb dX12_mostLeft_84 (by decide) ?_
          exact ih x1 x2 (x3 + 1) v_byTop hf H locs hP hD hS ls (lv_sub hl [1, 2, 3, 0] rfl)
        · replace hf := iff_ c5 hf
          refine lv_iload_n hx hb dX12_mostLeft_40 rfl (lv_at hl 3 rfl) ?_
          refine lv_iload_n hx hb dX12_mostLeft_41 rfl (lv_at hl 1 rfl) ?_
          obtain ⟨z6, hq7, hf⟩ := bnd_some hf
          refine kR_i (va_runS (As := [.int x3, .int x1]) (rest := []) ⟨hx, hb, hml, hown, hts⟩ (c_X12_topBy l g x3 x1 z6 hq7) (va_cwS 2 hts gX12_mostLeft_X12_topBy rfl rfl rfl (by decide +kernel) ⟨Nat.le_of_ble_eq_true rfl, Nat.le_of_ble_eq_true rfl⟩) (kpS_R (hG.now hS) (hP.subm (ws' := []) [] rfl)) rfl rfl hl.1 rfl (lv_room (Nat.le_of_ble_eq_true rfl)) dX12_mostLeft_42 ⟨Nat.le_of_ble_eq_true rfl, Nat.le_of_ble_eq_true rfl⟩) ?_
          refine lv_istore (lv' := [(4, .int z6), (0, .ref (q 0)), (1, .int x1), (2, .int x2), (3, .int x3)]) hx hb dX12_mostLeft_45 hl (by decide) rfl (fun ls hl => ?_)
          refine lv_aload_n hx hb dX12_mostLeft_47 rfl (lv_at hl 1 rfl) ?_
          refine va_get (D := gD g) (ci := 10) (v := .ref (q 14)) (C := RX12) (T := TX12) (N := 30) hx hb hts iX12 hown hK hP 0 rfl rfl 24 (by decide) (hts (.fieldLink RX12 50 "BeetleDriveModel" "byTop" "[I") (List.mem_of_getElem? (i := 1) rfl)) (fun _ h9 => h9) rfl dX12_mostLeft_48 ?_
          refine lv_iload hx hb dX12_mostLeft_51 (lv_at hl 0 rfl) ?_
          refine lv_dup2_11 hx hb dX12_mostLeft_53 rfl rfl ?_
          obtain ⟨hi8, hf⟩ := chk_some hf
          refine va_iald hx hb hK hP 3 0 rfl rfl hi8 dX12_mostLeft_54 ?_
          refine lv_iconst (v := 1) hx hb dX12_mostLeft_55 (by decide) ?_
          refine lv_iadd hx hb dX12_mostLeft_56 ?_
          obtain ⟨hi9, hf⟩ := chk_some hf
          refine va_iast hx hb hK hP hD hS 3 0 rfl rfl hi9 dX12_mostLeft_57 (fun H locs hP hD hS => ?_)
          have hP : va_P (gD g) vwCl [((q 0), .inr (10, oX12 q v_holder v_games v_sights v_padMany v_acts v_nothings v_wholeNow v_badAct v_badWhy v_wholeAct v_wholeWho v_keptAt v_isWriting)), ((q 5), .inl (gI g, 8, .inl v_sightRow)), ((q 6), .inl (gI g, 8, .inl v_sightTop)), ((q 14), .inl (gI g, 7, .inl (upd v_byTop (Int32.toNatClampNeg z6) ((v_byTop (Int32.toNatClampNeg z6)) + (1 : Int32)))))] H := hP
          have hD : va_D A [((q 0), .inr (10, oX12 q v_holder v_games v_sights v_padMany v_acts v_nothings v_wholeNow v_badAct v_badWhy v_wholeAct v_wholeWho v_keptAt v_isWriting)), ((q 5), .inl (gI g, 8, .inl v_sightRow)), ((q 6), .inl (gI g, 8, .inl v_sightTop)), ((q 14), .inl (gI g, 7, .inl (upd v_byTop (Int32.toNatClampNeg z6) ((v_byTop (Int32.toNatClampNeg z6)) + (1 : Int32)))))] := hD
          refine lv_aload_n hx hb dX12_mostLeft_58 rfl (lv_at hl 1 rfl) ?_
          refine va_get (D := gD g) (ci := 10) (v := .ref (q 14)) (C := RX12) (T := TX12) (N := 30) hx hb hts iX12 hown hK hP 0 rfl rfl 24 (by decide) (hts (.fieldLink RX12 50 "BeetleDriveModel" "byTop" "[I") (List.mem_of_getElem? (i := 1) rfl)) (fun _ h9 => h9) rfl dX12_mostLeft_59 ?_
          refine lv_iload hx hb dX12_mostLeft_62 (lv_at hl 0 rfl) ?_
          obtain ⟨hi10, hf⟩ := chk_some hf
          refine va_iald hx hb hK hP 3 0 rfl rfl hi10 dX12_mostLeft_64 ?_
          refine lv_iload_n hx hb dX12_mostLeft_65 rfl (lv_at hl 3 rfl) ?_
          refine lv_icmp_le (tgt := 79) hx hb dX12_mostLeft_66 (by decide) (fun c11 => ?_) (fun c11 => ?_)
          · replace hf := ift c11 hf
            refine lv_iload_n hx hb dX12_mostLeft_79 rfl (lv_at hl 3 rfl) ?_
            refine lv_istore_n (lv' := [(2, .int x2), (4, .int z6), (0, .ref (q 0)), (1, .int x1), (3, .int x3)]) hx hb dX12_mostLeft_80 rfl hl (by decide) rfl (fun ls hl => ?_)
            refine lv_iinc (v := (x3 + 1)) (lv' := [(3, .int (x3 + 1)), (2, .int x2), (4, .int z6), (0, .ref (q 0)), (1, .int x1)]) hx hb dX12_mostLeft_81 hl (k := 4) rfl rfl (by decide) rfl (fun ls hl => ?_)
            refine lv_goto (tgt := 26) hx hb dX12_mostLeft_84 (by decide) ?_
            exact ih x1 x2 (x3 + 1) (upd v_byTop (Int32.toNatClampNeg z6) ((v_byTop (Int32.toNatClampNeg z6)) + (1 : Int32))) hf H locs hP hD hS ls (lv_sub hl [3, 4, 1, 0] rfl)
          · replace hf := iff_ c11 hf
            refine lv_aload_n hx hb dX12_mostLeft_69 rfl (lv_at hl 1 rfl) ?_
            refine va_get (D := gD g) (ci := 10) (v := .ref (q 14)) (C := RX12) (T := TX12) (N := 30) hx hb hts iX12 hown hK hP 0 rfl rfl 24 (by decide) (hts (.fieldLink RX12 50 "BeetleDriveModel" "byTop" "[I") (List.mem_of_getElem? (i := 1) rfl)) (fun _ h9 => h9) rfl dX12_mostLeft_70 ?_
            refine lv_iload hx hb dX12_mostLeft_73 (lv_at hl 0 rfl) ?_
            obtain ⟨hi12, hf⟩ := chk_some hf
            refine va_iald hx hb hK hP 3 0 rfl rfl hi12 dX12_mostLeft_75 ?_
            refine lv_goto (tgt := 80) hx hb dX12_mostLeft_76 (by decide) ?_
            refine lv_istore_n (lv' := [(2, .int ((upd v_byTop (Int32.toNatClampNeg z6) ((v_byTop (Int32.toNatClampNeg z6)) + (1 : Int32))) (Int32.toNatClampNeg z6))), (4, .int z6), (0, .ref (q 0)), (1, .int x1), (3, .int x3)]) hx hb dX12_mostLeft_80 rfl hl (by decide) rfl (fun ls hl => ?_)
            refine lv_iinc (v := (x3 + 1)) (lv' := [(3, .int (x3 + 1)), (2, .int ((upd v_byTop (Int32.toNatClampNeg z6) ((v_byTop (Int32.toNatClampNeg z6)) + (1 : Int32))) (Int32.toNatClampNeg z6))), (4, .int z6), (0, .ref (q 0)), (1, .int x1)]) hx hb dX12_mostLeft_81 hl (k := 4) rfl rfl (by decide) rfl (fun ls hl => ?_)
            refine lv_goto (tgt := 26) hx hb dX12_mostLeft_84 (by decide) ?_
            exact ih x1 ((upd v_byTop (Int32.toNatClampNeg z6) ((v_byTop (Int32.toNatClampNeg z6)) + (1 : Int32))) (Int32.toNatClampNeg z6)) (x3 + 1) (upd v_byTop (Int32.toNatClampNeg z6) ((v_byTop (Int32.toNatClampNeg z6)) + (1 : Int32))) hf H locs hP hD hS ls (lv_sub hl [3, 4, 1, 0] rfl)
  have w_4 : ∀ n : Nat, ∀ (x1 : Int32) (x2 : Int32) (x3 : Int32) (v_byTop : Nat → Int32), f_X12_mostLeft_b4 v_sightRow v_sightTop v_sights n x1 x2 x3 v_byTop = some out → ∀ (H : Heap) (locs : List Loc), va_P (gD g) vwCl [((q 0), .inr (10, oX12 q v_holder v_games v_sights v_padMany v_acts v_nothings v_wholeNow v_badAct v_badWhy v_wholeAct v_wholeWho v_keptAt v_isWriting)), ((q 5), .inl (gI g, 8, .inl v_sightRow)), ((q 6), .inl (gI g, 8, .inl v_sightTop)), ((q 14), .inl (gI g, 7, .inl v_byTop))] H → va_D A [((q 0), .inr (10, oX12 q v_holder v_games v_sights v_padMany v_acts v_nothings v_wholeNow v_badAct v_badWhy v_wholeAct v_wholeWho v_keptAt v_isWriting)), ((q 5), .inl (gI g, 8, .inl v_sightRow)), ((q 6), .inl (gI g, 8, .inl v_sightTop)), ((q 14), .inl (gI g, 7, .inl v_byTop))] → va_S A s.heap H locs → ∀ ls : Array Slot, lv_has ls 5 [(0, .ref (q 0)), (1, .int x1), (2, .int x2), (3, .int x3)] → W p l e ({ frames := 5, cells := 0, slots := 0, locals := 113 } : Room) s m ar below meth c H locs 0 0 QQ (F0 m 4 ls []) := by
    intro n
    induction n with
    | zero =>
      intro x1 x2 x3 v_byTop hf
      rw [f_X12_mostLeft_b4_z] at hf
      cases hf
    | succ n ih =>
      intro x1 x2 x3 v_byTop hf H locs hP hD hS ls hl
      rw [f_X12_mostLeft_b4_s] at hf
      refine lv_iload_n hx hb dX12_mostLeft_4 rfl (lv_at hl 3 rfl) ?_
      refine lv_bipush (v := 6) hx hb dX12_mostLeft_5 (by decide) ?_
      refine lv_icmp_gt (tgt := 23) hx hb dX12_mostLeft_7 (by decide) (fun c1 => ?_) (fun c1 => ?_)
      · replace hf := ift c1 hf
        refine lv_bipush (v := 11) hx hb dX12_mostLeft_23 (by decide) ?_
        refine lv_istore_n (lv' := [(3, .int (11 : Int32)), (0, .ref (q 0)), (1, .int x1), (2, .int x2)]) hx hb dX12_mostLeft_25 rfl hl (by decide) rfl (fun ls hl => ?_)
        exact w_26 FU x1 x2 (11 : Int32) v_byTop hf H locs hP hD hS ls (lv_sub hl [1, 2, 3, 0] rfl)
      · replace hf := iff_ c1 hf
        refine lv_aload_n hx hb dX12_mostLeft_10 rfl (lv_at hl 0 rfl) ?_
        refine va_get (D := gD g) (ci := 10) (v := .ref (q 14)) (C := RX12) (T := TX12) (N := 30) hx hb hts iX12 hown hK hP 0 rfl rfl 24 (by decide) (hts (.fieldLink RX12 50 "BeetleDriveModel" "byTop" "[I") (List.mem_of_getElem? (i := 1) rfl)) (fun _ h9 => h9) rfl dX12_mostLeft_11 ?_
        refine lv_iload_n hx hb dX12_mostLeft_14 rfl (lv_at hl 3 rfl) ?_
        refine lv_iconst (v := 0) hx hb dX12_mostLeft_15 (by decide) ?_
        obtain ⟨hi13, hf⟩ := chk_some hf
        refine va_iast hx hb hK hP hD hS 3 0 rfl rfl hi13 dX12_mostLeft_16 (fun H locs hP hD hS => ?_)
        have hP : va_P (gD g) vwCl [((q 0), .inr (10, oX12 q v_holder v_games v_sights v_padMany v_acts v_nothings v_wholeNow v_badAct v_badWhy v_wholeAct v_wholeWho v_keptAt v_isWriting)), ((q 5), .inl (gI g, 8, .inl v_sightRow)), ((q 6), .inl (gI g, 8, .inl v_sightTop)), ((q 14), .inl (gI g, 7, .inl (upd v_byTop (Int32.toNatClampNeg x3) (0 : Int32))))] H := hP
        have hD : va_D A [((q 0), .inr (10, oX12 q v_holder v_games v_sights v_padMany v_acts v_nothings v_wholeNow v_badAct v_badWhy v_wholeAct v_wholeWho v_keptAt v_isWriting)), ((q 5), .inl (gI g, 8, .inl v_sightRow)), ((q 6), .inl (gI g, 8, .inl v_sightTop)), ((q 14), .inl (gI g, 7, .inl (upd v_byTop (Int32.toNatClampNeg x3) (0 : Int32))))] := hD
        refine lv_iinc (v := (x3 + 1)) (lv' := [(3, .int (x3 + 1)), (0, .ref (q 0)), (1, .int x1), (2, .int x2)]) hx hb dX12_mostLeft_17 hl (k := 3) rfl rfl (by decide) rfl (fun ls hl => ?_)
        refine lv_goto (tgt := 4) hx hb dX12_mostLeft_20 (by decide) ?_
        exact ih x1 x2 (x3 + 1) (upd v_byTop (Int32.toNatClampNeg x3) (0 : Int32)) hf H locs hP hD hS ls (lv_sub hl [1, 2, 3, 0] rfl)
  unfold f_X12_mostLeft at hf
  refine lv_iconst (v := 0) hx hb dX12_mostLeft_0 (by decide) ?_
  refine lv_istore_n (lv' := [(2, .int (0 : Int32)), (0, .ref (q 0)), (1, .int x1)]) hx hb dX12_mostLeft_1 rfl hl (by decide) rfl (fun ls hl => ?_)
  refine lv_iconst (v := 0) hx hb dX12_mostLeft_2 (by decide) ?_
  refine lv_istore_n (lv' := [(3, .int (0 : Int32)), (2, .int (0 : Int32)), (0, .ref (q 0)), (1, .int x1)]) hx hb dX12_mostLeft_3 rfl hl (by decide) rfl (fun ls hl => ?_)
  exact w_4 FU x1 (0 : Int32) (0 : Int32) v_byTop hf s.heap [] hP hD hS ls (lv_sub hl [2, 3, 1, 0] rfl)
set_option maxHeartbeats 4000000 in
set_option maxRecDepth 100000 in
theorem c_X12_ask (l : Launch) (g : bG) (q : Nat → Nat) (v_holder : Int32) (v_games : Int32) (v_sights : Int32) (v_padMany : Int32) (v_acts : Int32) (v_nothings : Int32) (v_wholeNow : Int32) (v_badAct : Int32) (v_badWhy : Int32) (v_wholeAct : Int32) (v_wholeWho : Int32) (v_keptAt : Int32) (v_isWriting : Int32) (v_sightRow : Nat → Int32) (v_sightTop : Nat → Int32) (v_byTop : Nat → Int32) (x1 : Int32) (out : Int32 × (Nat → Int32)) (hf : f_X12_ask v_sightRow v_sightTop v_sights v_byTop x1 = some out) : Mi l g yX12_ask wsX12_ask ({ frames := 6, cells := 0, slots := 0, locals := 137 } : Room) [.ref (q 0), .int x1] [((q 0), .inr (10, oX12 q v_holder v_games v_sights v_padMany v_acts v_nothings v_wholeNow v_badAct v_badWhy v_wholeAct v_wholeWho v_keptAt v_isWriting)), ((q 5), .inl (gI g, 8, .inl v_sightRow)), ((q 6), .inl (gI g, 8, .inl v_sightTop)), ((q 14), .inl (gI g, 7, .inl v_byTop))] out.1 [((q 0), .inr (10, oX12 q v_holder v_games v_sights v_padMany v_acts v_nothings v_wholeNow v_badAct v_badWhy v_wholeAct v_wholeWho v_keptAt v_isWriting)), ((q 5), .inl (gI g, 8, .inl v_sightRow)), ((q 6), .inl (gI g, 8, .inl v_sightTop)), ((q 14), .inl (gI g, 7, .inl out.2))] := by
  refine ofM (Qc := fun A => Qi g out.1 [((q 0), .inr (10, oX12 q v_holder v_games v_sights v_padMany v_acts v_nothings v_wholeNow v_badAct v_badWhy v_wholeAct v_wholeWho v_keptAt v_isWriting)), ((q 5), .inl (gI g, 8, .inl v_sightRow)), ((q 6), .inl (gI g, 8, .inl v_sightTop)), ((q 14), .inl (gI g, 7, .inl out.2))] A) (cc := cX12_ask) (nL := 6) (ret := some .int) (by decide) rfl (Nat.le_of_ble_eq_true rfl) ?_
  intro p e s m below meth c ar A hC hA hP hD hG ls hl
  have hS : va_S A s.heap s.heap [] := va_S.rf
  obtain ⟨hx, hb, hml, hown, hts, hr, hlk, -⟩ := hC
  have hl : lv_has ls 6 [(0, .ref (q 0)), (1, .int x1)] := hl
  have hK := hG.1
  generalize hQ : MQ below (Qi g out.1 [((q 0), .inr (10, oX12 q v_holder v_games v_sights v_padMany v_acts v_nothings v_wholeNow v_badAct v_badWhy v_wholeAct v_wholeWho v_keptAt v_isWriting)), ((q 5), .inl (gI g, 8, .inl v_sightRow)), ((q 6), .inl (gI g, 8, .inl v_sightTop)), ((q 14), .inl (gI g, 7, .inl out.2))] A) ar s 0 0 A = QQ
  have w_65 : ∀ (k25 : Int32 → Int32 → Int32 → Int32 → (Nat → Int32) → Option (Int32 × (Nat → Int32))), (∀ (x1 : Int32) (x2 : Int32) (x3 : Int32) (x4 : Int32) (v_byTop : Nat → Int32), k25 x1 x2 x3 x4 v_byTop = some out → ∀ (H : Heap) (locs : List Loc), va_P (gD g) vwCl [((q 0), .inr (10, oX12 q v_holder v_games v_sights v_padMany v_acts v_nothings v_wholeNow v_badAct v_badWhy v_wholeAct v_wholeWho v_keptAt v_isWriting)), ((q 5), .inl (gI g, 8, .inl v_sightRow)), ((q 6), .inl (gI g, 8, .inl v_sightTop)), ((q 14), .inl (gI g, 7, .inl v_byTop))] H → va_D A [((q 0), .inr (10, oX12 q v_holder v_games v_sights v_padMany v_acts v_nothings v_wholeNow v_badAct v_badWhy v_wholeAct v_wholeWho v_keptAt v_isWriting)), ((q 5), .inl (gI g, 8, .inl v_sightRow)), ((q 6), .inl (gI g, 8, .inl v_sightTop)), ((q 14), .inl (gI g, 7, .inl v_byTop))] → va_S A s.heap H locs → ∀ ls : Array Slot, lv_has ls 6 [(0, .ref (q 0)), (1, .int x1), (2, .int x2), (3, .int x3), (4, .int x4)] → W p l e ({ frames := 6, cells := 0, slots := 0, locals := 137 } : Room) s m ar below meth c H locs 0 0 QQ (F0 m 25 ls [])) → ∀ (y0 : Int32) (x1 : Int32) (x3 : Int32) (x4 : Int32) (x5 : Int32) (v_byTop : Nat → Int32), f_X12_ask_b65 v_sightRow v_sightTop v_sights k25 y0 x1 x3 x4 x5 v_byTop = some out → ∀ (H : Heap) (locs : List Loc), va_P (gD g) vwCl [((q 0), .inr (10, oX12 q v_holder v_games v_sights v_padMany v_acts v_nothings v_wholeNow v_badAct v_badWhy v_wholeAct v_wholeWho v_keptAt v_isWriting)), ((q 5), .inl (gI g, 8, .inl v_sightRow)), ((q 6), .inl (gI g, 8, .inl v_sightTop)), ((q 14), .inl (gI g, 7, .inl v_byTop))] H → va_D A [((q 0), .inr (10, oX12 q v_holder v_games v_sights v_padMany v_acts v_nothings v_wholeNow v_badAct v_badWhy v_wholeAct v_wholeWho v_keptAt v_isWriting)), ((q 5), .inl (gI g, 8, .inl v_sightRow)), ((q 6), .inl (gI g, 8, .inl v_sightTop)), ((q 14), .inl (gI g, 7, .inl v_byTop))] → va_S A s.heap H locs → ∀ ls : Array Slot, lv_has ls 6 [(0, .ref (q 0)), (1, .int x1), (3, .int x3), (4, .int x4), (5, .int x5)] → W p l e ({ frames := 6, cells := 0, slots := 0, locals := 137 } : Room) s m ar below meth c H locs 0 0 QQ (F0 m 65 ls [.int y0]) := by
    intro k25 hk25 y0 x1 x3 x4 x5 v_byTop hf H locs hP hD hS ls hl
    unfold f_X12_ask_b65 at hf
    refine lv_istore_n (lv' := [(2, .int y0), (0, .ref (q 0)), (1, .int x1), (3, .int x3), (4, .int x4), (5, .int x5)]) hx hb dX12_ask_65 rfl hl (by decide) rfl (fun ls hl => ?_)
    refine lv_iload_n hx hb dX12_ask_66 rfl (lv_at hl 3 rfl) ?_
    refine lv_iload hx hb dX12_ask_67 (lv_at hl 5 rfl) ?_
    obtain ⟨z13, hq14, hf⟩ := bnd_some hf
    refine kR_i (va_runS (As := [.int x3, .int x5]) (rest := []) ⟨hx, hb, hml, hown, hts⟩ (c_X12_less l g x3 x5 z13 hq14) (va_cwS 2 hts gX12_ask_X12_less rfl rfl rfl (by decide +kernel) ⟨Nat.le_of_ble_eq_true rfl, Nat.le_of_ble_eq_true rfl⟩) (kpS_R (hG.now hS) (hP.subm (ws' := []) [] rfl)) rfl rfl hl.1 rfl (lv_room (Nat.le_of_ble_eq_true rfl)) dX12_ask_69 ⟨Nat.le_of_ble_eq_true rfl, Nat.le_of_ble_eq_true rfl⟩) ?_
    refine lv_istore_n (lv' := [(3, .int z13), (2, .int y0), (0, .ref (q 0)), (1, .int x1), (4, .int x4), (5, .int x5)]) hx hb dX12_ask_72 rfl hl (by decide) rfl (fun ls hl => ?_)
    refine lv_iinc (v := (x4 + 1)) (lv' := [(4, .int (x4 + 1)), (3, .int z13), (2, .int y0), (0, .ref (q 0)), (1, .int x1), (5, .int x5)]) hx hb dX12_ask_73 hl (k := 4) rfl rfl (by decide) rfl (fun ls hl => ?_)
    refine lv_goto (tgt := 25) hx hb dX12_ask_76 (by decide) ?_
    exact hk25 x1 y0 z13 (x4 + 1) v_byTop hf H locs hP hD hS ls (lv_sub hl [3, 4, 2, 1, 0] rfl)
  have w_25 : ∀ n : Nat, ∀ (x1 : Int32) (x2 : Int32) (x3 : Int32) (x4 : Int32) (v_byTop : Nat → Int32), f_X12_ask_b25 v_sightRow v_sightTop v_sights n x1 x2 x3 x4 v_byTop = some out → ∀ (H : Heap) (locs : List Loc), va_P (gD g) vwCl [((q 0), .inr (10, oX12 q v_holder v_games v_sights v_padMany v_acts v_nothings v_wholeNow v_badAct v_badWhy v_wholeAct v_wholeWho v_keptAt v_isWriting)), ((q 5), .inl (gI g, 8, .inl v_sightRow)), ((q 6), .inl (gI g, 8, .inl v_sightTop)), ((q 14), .inl (gI g, 7, .inl v_byTop))] H → va_D A [((q 0), .inr (10, oX12 q v_holder v_games v_sights v_padMany v_acts v_nothings v_wholeNow v_badAct v_badWhy v_wholeAct v_wholeWho v_keptAt v_isWriting)), ((q 5), .inl (gI g, 8, .inl v_sightRow)), ((q 6), .inl (gI g, 8, .inl v_sightTop)), ((q 14), .inl (gI g, 7, .inl v_byTop))] → va_S A s.heap H locs → ∀ ls : Array Slot, lv_has ls 6 [(0, .ref (q 0)), (1, .int x1), (2, .int x2), (3, .int x3), (4, .int x4)] → W p l e ({ frames := 6, cells := 0, slots := 0, locals := 137 } : Room) s m ar below meth c H locs 0 0 QQ (F0 m 25 ls []) := by
    intro n
    induction n with
    | zero =>
      intro x1 x2 x3 x4 v_byTop hf
      rw [f_X12_ask_b25_z] at hf
      cases hf
    | succ n ih =>
      intro x1 x2 x3 x4 v_byTop hf H locs hP hD hS ls hl
      rw [f_X12_ask_b25_s] at hf
      refine lv_iload hx hb dX12_ask_25 (lv_at hl 4 rfl) ?_
      refine lv_sipush (v := 133) hx hb dX12_ask_27 (by decide) ?_
      refine lv_icmp_gt (tgt := 79) hx hb dX12_ask_30 (by decide) (fun c6 => ?_) (fun c6 => ?_)
      · replace hf := ift c6 hf
        refine lv_iload_n hx hb dX12_ask_79 rfl (lv_at hl 3 rfl) ?_
        refine lv_if_ne (tgt := 88) hx hb dX12_ask_80 (by decide) (fun c7 => ?_) (fun c7 => ?_)
        · replace hf := iff_ c7 hf
          refine lv_iload_n hx hb dX12_ask_88 rfl (lv_at hl 1 rfl) ?_
          refine lv_if_ne (tgt := 96) hx hb dX12_ask_89 (by decide) (fun c8 => ?_) (fun c8 => ?_)
          · replace hf := iff_ c8 hf
            refine lv_iload_n hx hb dX12_ask_96 rfl (lv_at hl 3 rfl) ?_
            rw [← hQ, ← Option.some.inj hf]
            exact eM_i hx hb hr hlk hP hD hS rfl dX12_ask_97
          · replace hf := ift c8 hf
            refine lv_iload_n hx hb dX12_ask_92 rfl (lv_at hl 2 rfl) ?_
            refine lv_goto (tgt := 97) hx hb dX12_ask_93 (by decide) ?_
            rw [← hQ, ← Option.some.inj hf]
            exact eM_i hx hb hr hlk hP hD hS rfl dX12_ask_97
        · replace hf := ift c7 hf
          refine lv_bipush (v := -6) hx hb dX12_ask_83 (by decide) ?_
          refine lv_goto (tgt := 97) hx hb dX12_ask_85 (by decide) ?_
          rw [← hQ, ← Option.some.inj hf]
          exact eM_i hx hb hr hlk hP hD hS rfl dX12_ask_97
      · replace hf := iff_ c6 hf
        refine lv_iload hx hb dX12_ask_33 (lv_at hl 4 rfl) ?_
        obtain ⟨z9, hq10, hf⟩ := bnd_some hf
        refine kR_i (va_runS (As := [.int x4]) (rest := []) ⟨hx, hb, hml, hown, hts⟩ (c_X12_isRow l g x4 z9 hq10) (va_cwS 1 hts gX12_ask_X12_isRow rfl rfl rfl (by decide +kernel) ⟨Nat.le_of_ble_eq_true rfl, Nat.le_of_ble_eq_true rfl⟩) (kpS_R (hG.now hS) (hP.subm (ws' := []) [] rfl)) rfl rfl hl.1 rfl (lv_room (Nat.le_of_ble_eq_true rfl)) dX12_ask_35 ⟨Nat.le_of_ble_eq_true rfl, Nat.le_of_ble_eq_true rfl⟩) ?_
        refine lv_if_eq (tgt := 50) hx hb dX12_ask_38 (by decide) (fun c11 => ?_) (fun c11 => ?_)
        · replace hf := ift c11 hf
          refine lv_iload_n hx hb dX12_ask_50 rfl (lv_at hl 3 rfl) ?_
          refine lv_istore (lv' := [(5, .int x3), (0, .ref (q 0)), (1, .int x1), (2, .int x2), (3, .int x3), (4, .int x4)]) hx hb dX12_ask_51 hl (by decide) rfl (fun ls hl => ?_)
          refine lv_iload hx hb dX12_ask_53 (lv_at hl 0 rfl) ?_
          refine lv_iload_n hx hb dX12_ask_55 rfl (lv_at hl 4 rfl) ?_
          refine lv_icmp_ge (tgt := 64) hx hb dX12_ask_56 (by decide) (fun c12 => ?_) (fun c12 => ?_)
          · replace hf := ift c12 hf
            refine lv_iload_n hx hb dX12_ask_64 rfl (lv_at hl 3 rfl) ?_
            exact w_65 (f_X12_ask_b25 v_sightRow v_sightTop v_sights n) ih x2 x1 x3 x4 x3 v_byTop hf H locs hP hD hS ls (lv_sub hl [1, 2, 4, 5, 0] rfl)
          · replace hf := iff_ c12 hf
            refine lv_iload hx hb dX12_ask_59 (lv_at hl 5 rfl) ?_
            refine lv_goto (tgt := 65) hx hb dX12_ask_61 (by decide) ?_
            exact w_65 (f_X12_ask_b25 v_sightRow v_sightTop v_sights n) ih x4 x1 x3 x4 x3 v_byTop hf H locs hP hD hS ls (lv_sub hl [1, 2, 4, 5, 0] rfl)
        · replace hf := iff_ c11 hf
          refine lv_aload_n hx hb dX12_ask_41 rfl (lv_at hl 0 rfl) ?_
          refine lv_iload hx hb dX12_ask_42 (lv_at hl 4 rfl) ?_
          obtain ⟨z15, hq16, hf⟩ := bnd_some hf
          refine kM_i (wc := [((q 0), .inr (10, oX12 q v_holder v_games v_sights v_padMany v_acts v_nothings v_wholeNow v_badAct v_badWhy v_wholeAct v_wholeWho v_keptAt v_isWriting)), ((q 5), .inl (gI g, 8, .inl v_sightRow)), ((q 6), .inl (gI g, 8, .inl v_sightTop)), ((q 14), .inl (gI g, 7, .inl v_byTop))]) (wr := []) (w1 := [((q 0), .inr (10, oX12 q v_holder v_games v_sights v_padMany v_acts v_nothings v_wholeNow v_badAct v_badWhy v_wholeAct v_wholeWho v_keptAt v_isWriting)), ((q 5), .inl (gI g, 8, .inl v_sightRow)), ((q 6), .inl (gI g, 8, .inl v_sightTop)), ((q 14), .inl (gI g, 7, .inl z15.2))]) (w2 := [((q 0), .inr (10, oX12 q v_holder v_games v_sights v_padMany v_acts v_nothings v_wholeNow v_badAct v_badWhy v_wholeAct v_wholeWho v_keptAt v_isWriting)), ((q 5), .inl (gI g, 8, .inl v_sightRow)), ((q 6), .inl (gI g, 8, .inl v_sightTop)), ((q 14), .inl (gI g, 7, .inl z15.2))]) (va_runV (As := [.int x4]) (rest := []) ⟨hx, hb, hml, hown, hts⟩ (c_X12_mostLeft l g q v_holder v_games v_sights v_padMany v_acts v_nothings v_wholeNow v_badAct v_badWhy v_wholeAct v_wholeWho v_keptAt v_isWriting v_sightRow v_sightTop v_byTop x4 z15 hq16 H.size) (cwV 1 hts gX12_ask_X12_mostLeft rfl rfl rfl (by decide +kernel) ⟨Nat.le_of_ble_eq_true rfl, Nat.le_of_ble_eq_true rfl⟩) (kpV_M (q0 := 0) (ci := 10) hG hS hP hD hA [0, 1, 2, 3] rfl (by decide) rfl rfl) rfl rfl hl.1 rfl (lv_room (Nat.le_of_ble_eq_true rfl)) dX12_ask_44 ⟨Nat.le_of_ble_eq_true rfl, Nat.le_of_ble_eq_true rfl⟩) hP hD hS hA [0, 1, 2, 3] [] [0, 1, 2, 3] rfl rfl (by decide) (by decide) rfl (by decide) (fun H locs hP hD hS => ?_)
          refine lv_goto (tgt := 51) hx hb dX12_ask_47 (by decide) ?_
          refine lv_istore (lv' := [(5, .int z15.1), (0, .ref (q 0)), (1, .int x1), (2, .int x2), (3, .int x3), (4, .int x4)]) hx hb dX12_ask_51 hl (by decide) rfl (fun ls hl => ?_)
          refine lv_iload hx hb dX12_ask_53 (lv_at hl 0 rfl) ?_
          refine lv_iload_n hx hb dX12_ask_55 rfl (lv_at hl 4 rfl) ?_
          refine lv_icmp_ge (tgt := 64) hx hb dX12_ask_56 (by decide) (fun c17 => ?_) (fun c17 => ?_)
          · replace hf := ift c17 hf
            refine lv_iload_n hx hb dX12_ask_64 rfl (lv_at hl 3 rfl) ?_
            exact w_65 (f_X12_ask_b25 v_sightRow v_sightTop v_sights n) ih x2 x1 x3 x4 z15.1 z15.2 hf H locs hP hD hS ls (lv_sub hl [1, 2, 4, 5, 0] rfl)
          · replace hf := iff_ c17 hf
            refine lv_iload hx hb dX12_ask_59 (lv_at hl 5 rfl) ?_
            refine lv_goto (tgt := 65) hx hb dX12_ask_61 (by decide) ?_
            exact w_65 (f_X12_ask_b25 v_sightRow v_sightTop v_sights n) ih x4 x1 x3 x4 z15.1 z15.2 hf H locs hP hD hS ls (lv_sub hl [1, 2, 4, 5, 0] rfl)
  unfold f_X12_ask at hf
  refine lv_iload_n hx hb dX12_ask_0 rfl (lv_at hl 1 rfl) ?_
  refine lv_i2l (v := (Int32.toInt64 x1)) hx hb dX12_ask_1 rfl ?_
  refine lv_lconst (v := 0) hx hb dX12_ask_2 (by decide) ?_
  refine lv_lconst (v := 1) hx hb dX12_ask_3 (by decide) ?_
  obtain ⟨z1, hq2, hf⟩ := bnd_some hf
  refine kR_i (va_runS (As := [.long (Int32.toInt64 x1), .long (0 : Int64), .long (1 : Int64)]) (rest := []) ⟨hx, hb, hml, hown, hts⟩ (c_X12_in l g (Int32.toInt64 x1) (0 : Int64) (1 : Int64) z1 hq2) (va_cwS 3 hts gX12_ask_X12_in rfl rfl rfl (by decide +kernel) ⟨Nat.le_of_ble_eq_true rfl, Nat.le_of_ble_eq_true rfl⟩) (kpS_R (hG.now hS) (hP.subm (ws' := []) [] rfl)) rfl rfl hl.1 rfl (lv_room (Nat.le_of_ble_eq_true rfl)) dX12_ask_4 ⟨Nat.le_of_ble_eq_true rfl, Nat.le_of_ble_eq_true rfl⟩) ?_
  refine lv_if_ne (tgt := 13) hx hb dX12_ask_7 (by decide) (fun c3 => ?_) (fun c3 => ?_)
  · replace hf := iff_ c3 hf
    refine lv_iconst (v := 1) hx hb dX12_ask_13 (by decide) ?_
    refine lv_istore_n (lv' := [(2, .int (1 : Int32)), (0, .ref (q 0)), (1, .int x1)]) hx hb dX12_ask_14 rfl hl (by decide) rfl (fun ls hl => ?_)
    refine lv_aload_n hx hb dX12_ask_15 rfl (lv_at hl 1 rfl) ?_
    refine lv_iconst (v := 1) hx hb dX12_ask_16 (by decide) ?_
    obtain ⟨z4, hq5, hf⟩ := bnd_some hf
    refine kM_i (wc := [((q 0), .inr (10, oX12 q v_holder v_games v_sights v_padMany v_acts v_nothings v_wholeNow v_badAct v_badWhy v_wholeAct v_wholeWho v_keptAt v_isWriting)), ((q 5), .inl (gI g, 8, .inl v_sightRow)), ((q 6), .inl (gI g, 8, .inl v_sightTop)), ((q 14), .inl (gI g, 7, .inl v_byTop))]) (wr := []) (w1 := [((q 0), .inr (10, oX12 q v_holder v_games v_sights v_padMany v_acts v_nothings v_wholeNow v_badAct v_badWhy v_wholeAct v_wholeWho v_keptAt v_isWriting)), ((q 5), .inl (gI g, 8, .inl v_sightRow)), ((q 6), .inl (gI g, 8, .inl v_sightTop)), ((q 14), .inl (gI g, 7, .inl z4.2))]) (w2 := [((q 0), .inr (10, oX12 q v_holder v_games v_sights v_padMany v_acts v_nothings v_wholeNow v_badAct v_badWhy v_wholeAct v_wholeWho v_keptAt v_isWriting)), ((q 5), .inl (gI g, 8, .inl v_sightRow)), ((q 6), .inl (gI g, 8, .inl v_sightTop)), ((q 14), .inl (gI g, 7, .inl z4.2))]) (va_runV (As := [.int (1 : Int32)]) (rest := []) ⟨hx, hb, hml, hown, hts⟩ (c_X12_mostLeft l g q v_holder v_games v_sights v_padMany v_acts v_nothings v_wholeNow v_badAct v_badWhy v_wholeAct v_wholeWho v_keptAt v_isWriting v_sightRow v_sightTop v_byTop (1 : Int32) z4 hq5 s.heap.size) (cwV 1 hts gX12_ask_X12_mostLeft rfl rfl rfl (by decide +kernel) ⟨Nat.le_of_ble_eq_true rfl, Nat.le_of_ble_eq_true rfl⟩) (kpV_M (q0 := 0) (ci := 10) hG hS hP hD hA [0, 1, 2, 3] rfl (by decide) rfl rfl) rfl rfl hl.1 rfl (lv_room (Nat.le_of_ble_eq_true rfl)) dX12_ask_17 ⟨Nat.le_of_ble_eq_true rfl, Nat.le_of_ble_eq_true rfl⟩) hP hD hS hA [0, 1, 2, 3] [] [0, 1, 2, 3] rfl rfl (by decide) (by decide) rfl (by decide) (fun H locs hP hD hS => ?_)
    refine lv_istore_n (lv' := [(3, .int z4.1), (2, .int (1 : Int32)), (0, .ref (q 0)), (1, .int x1)]) hx hb dX12_ask_20 rfl hl (by decide) rfl (fun ls hl => ?_)
    refine lv_bipush (v := 10) hx hb dX12_ask_21 (by decide) ?_
    refine lv_istore (lv' := [(4, .int (10 : Int32)), (3, .int z4.1), (2, .int (1 : Int32)), (0, .ref (q 0)), (1, .int x1)]) hx hb dX12_ask_23 hl (by decide) rfl (fun ls hl => ?_)
    exact w_25 FU x1 (1 : Int32) z4.1 (10 : Int32) z4.2 hf H locs hP hD hS ls (lv_sub hl [3, 4, 2, 1, 0] rfl)
  · replace hf := ift c3 hf
    refine lv_bipush (v := -2) hx hb dX12_ask_10 (by decide) ?_
    rw [← hQ, ← Option.some.inj hf]
    exact eM_i hx hb hr hlk hP hD hS rfl dX12_ask_12
set_option maxHeartbeats 4000000 in
set_option maxRecDepth 100000 in
theorem c_X12_leastTurn (l : Launch) (g : bG) (q : Nat → Nat) (v_holder : Int32) (v_games : Int32) (v_sights : Int32) (v_padMany : Int32) (v_acts : Int32) (v_nothings : Int32) (v_wholeNow : Int32) (v_badAct : Int32) (v_badWhy : Int32) (v_wholeAct : Int32) (v_wholeWho : Int32) (v_keptAt : Int32) (v_isWriting : Int32) (v_wins : Nat → Int32) (x1 : Int32) (x2 : Int32) (out : Int32) (hf : f_X12_leastTurn v_wins x1 x2 = some out) : Ri l g yX12_leastTurn wsX12_leastTurn ({ frames := 0, cells := 0, slots := 0, locals := 0 } : Room) [.ref (q 0), .int x1, .int x2] [((q 0), .inr (10, oX12 q v_holder v_games v_sights v_padMany v_acts v_nothings v_wholeNow v_badAct v_badWhy v_wholeAct v_wholeWho v_keptAt v_isWriting)), ((q 15), .inl (gZ g, 700, .inl v_wins))] out := by
  refine ofR (cc := cX12_leastTurn) (nL := 6) (ret := some .int) (by decide) rfl (Nat.le_of_ble_eq_true rfl) ?_
  intro p e s m below meth c ar hC hP hG ls hl
  have hS : va_S (fun _ => False) s.heap s.heap [] := va_S.rf
  obtain ⟨hx, hb, hml, hown, hts, hr, hlk, -⟩ := hC
  have hl : lv_has ls 6 [(0, .ref (q 0)), (1, .int x1), (2, .int x2)] := hl
  have hK := hG.1
  have iX12 : ∀ w ∈ u_ws RX12 TX12 30, w ∈ wsX12_leastTurn := fun w h => List.mem_cons_of_mem _ (List.mem_append_right _ (h))
  generalize hQ : MQ below (vp_Si (fun x => x = out)) ar s 0 0 (fun _ => False) = QQ
  have w_38 : ∀ (k7 : Int32 → Int32 → Int32 → Int32 → Option (Int32)), (∀ (x1 : Int32) (x2 : Int32) (x3 : Int32) (x4 : Int32), k7 x1 x2 x3 x4 = some out → ∀ ls : Array Slot, lv_has ls 6 [(0, .ref (q 0)), (1, .int x1), (2, .int x2), (3, .int x3), (4, .int x4)] → W p l e ({ frames := 0, cells := 0, slots := 0, locals := 0 } : Room) s m ar below meth c s.heap [] 0 0 QQ (F0 m 7 ls [])) → ∀ (y0 : Int32) (x1 : Int32) (x2 : Int32) (x3 : Int32) (x4 : Int32), f_X12_leastTurn_b38 v_wins k7 y0 x1 x2 x3 x4 = some out → ∀ ls : Array Slot, lv_has ls 6 [(0, .ref (q 0)), (1, .int x1), (2, .int x2), (3, .int x3), (4, .int x4)] → W p l e ({ frames := 0, cells := 0, slots := 0, locals := 0 } : Room) s m ar below meth c s.heap [] 0 0 QQ (F0 m 38 ls [.int y0]) := by
    intro k7 hk7 y0 x1 x2 x3 x4 hf ls hl
    unfold f_X12_leastTurn_b38 at hf
    refine lv_istore (lv' := [(5, .int y0), (0, .ref (q 0)), (1, .int x1), (2, .int x2), (3, .int x3), (4, .int x4)]) hx hb dX12_leastTurn_38 hl (by decide) rfl (fun ls hl => ?_)
    refine lv_iload hx hb dX12_leastTurn_40 (lv_at hl 0 rfl) ?_
    refine lv_if_eq (tgt := 68) hx hb dX12_leastTurn_42 (by decide) (fun c3 => ?_) (fun c3 => ?_)
    · replace hf := ift c3 hf
      refine lv_iload_n hx hb dX12_leastTurn_68 rfl (lv_at hl 4 rfl) ?_
      refine lv_istore_n (lv' := [(3, .int x3), (5, .int y0), (0, .ref (q 0)), (1, .int x1), (2, .int x2), (4, .int x4)]) hx hb dX12_leastTurn_69 rfl hl (by decide) rfl (fun ls hl => ?_)
      refine lv_iinc (v := (x4 + (-1))) (lv' := [(4, .int (x4 + (-1))), (3, .int x3), (5, .int y0), (0, .ref (q 0)), (1, .int x1), (2, .int x2)]) hx hb dX12_leastTurn_70 hl (k := 5) rfl rfl (by decide) rfl (fun ls hl => ?_)
      refine lv_goto (tgt := 7) hx hb dX12_leastTurn_73 (by decide) ?_
      exact hk7 x1 x2 x3 (x4 + (-1)) hf ls (lv_sub hl [3, 4, 5, 1, 0] rfl)
    · replace hf := iff_ c3 hf
      refine lv_aload_n hx hb dX12_leastTurn_45 rfl (lv_at hl 1 rfl) ?_
      refine va_get (D := gD g) (ci := 10) (v := .ref (q 15)) (C := RX12) (T := TX12) (N := 30) hx hb hts iX12 hown hK hP 0 rfl rfl 25 (by decide) (hts (.fieldLink RX12 53 "BeetleDriveModel" "wins" "[Z") (List.mem_of_getElem? (i := 1) rfl)) (fun _ h9 => h9) rfl dX12_leastTurn_46 ?_
      refine lv_bipush (v := 7) hx hb dX12_leastTurn_49 (by decide) ?_
      refine lv_iload_n hx hb dX12_leastTurn_51 rfl (lv_at hl 2 rfl) ?_
      refine lv_iload hx hb dX12_leastTurn_52 (lv_at hl 5 rfl) ?_
      refine lv_isub hx hb dX12_leastTurn_54 ?_
      refine lv_imul hx hb dX12_leastTurn_55 ?_
      refine lv_iload hx hb dX12_leastTurn_56 (lv_at hl 5 rfl) ?_
      refine lv_iadd hx hb dX12_leastTurn_58 ?_
      obtain ⟨hi4, hf⟩ := chk_some hf
      refine va_zald hx hb hK hP 1 2 rfl rfl hi4 dX12_leastTurn_59 ?_
      refine lv_if_ne (tgt := 68) hx hb dX12_leastTurn_60 (by decide) (fun c5 => ?_) (fun c5 => ?_)
      · replace hf := iff_ c5 hf
        refine lv_iload_n hx hb dX12_leastTurn_68 rfl (lv_at hl 4 rfl) ?_
        refine lv_istore_n (lv' := [(3, .int x3), (5, .int y0), (0, .ref (q 0)), (1, .int x1), (2, .int x2), (4, .int x4)]) hx hb dX12_leastTurn_69 rfl hl (by decide) rfl (fun ls hl => ?_)
        refine lv_iinc (v := (x4 + (-1))) (lv' := [(4, .int (x4 + (-1))), (3, .int x3), (5, .int y0), (0, .ref (q 0)), (1, .int x1), (2, .int x2)]) hx hb dX12_leastTurn_70 hl (k := 5) rfl rfl (by decide) rfl (fun ls hl => ?_)
        refine lv_goto (tgt := 7) hx hb dX12_leastTurn_73 (by decide) ?_
        exact hk7 x1 x2 x3 (x4 + (-1)) hf ls (lv_sub hl [3, 4, 5, 1, 0] rfl)
      · replace hf := ift c5 hf
        refine lv_iload hx hb dX12_leastTurn_63 (lv_at hl 5 rfl) ?_
        refine lv_goto (tgt := 69) hx hb dX12_leastTurn_65 (by decide) ?_
        refine lv_istore_n (lv' := [(3, .int x4), (5, .int y0), (0, .ref (q 0)), (1, .int x1), (2, .int x2), (4, .int x4)]) hx hb dX12_leastTurn_69 rfl hl (by decide) rfl (fun ls hl => ?_)
        refine lv_iinc (v := (x4 + (-1))) (lv' := [(4, .int (x4 + (-1))), (3, .int x4), (5, .int y0), (0, .ref (q 0)), (1, .int x1), (2, .int x2)]) hx hb dX12_leastTurn_70 hl (k := 5) rfl rfl (by decide) rfl (fun ls hl => ?_)
        refine lv_goto (tgt := 7) hx hb dX12_leastTurn_73 (by decide) ?_
        exact hk7 x1 x2 x4 (x4 + (-1)) hf ls (lv_sub hl [3, 4, 5, 1, 0] rfl)
  have w_7 : ∀ n : Nat, ∀ (x1 : Int32) (x2 : Int32) (x3 : Int32) (x4 : Int32), f_X12_leastTurn_b7 v_wins n x1 x2 x3 x4 = some out → ∀ ls : Array Slot, lv_has ls 6 [(0, .ref (q 0)), (1, .int x1), (2, .int x2), (3, .int x3), (4, .int x4)] → W p l e ({ frames := 0, cells := 0, slots := 0, locals := 0 } : Room) s m ar below meth c s.heap [] 0 0 QQ (F0 m 7 ls []) := by
    intro n
    induction n with
    | zero =>
      intro x1 x2 x3 x4 hf
      rw [f_X12_leastTurn_b7_z] at hf
      cases hf
    | succ n ih =>
      intro x1 x2 x3 x4 hf ls hl
      rw [f_X12_leastTurn_b7_s] at hf
      refine lv_iload hx hb dX12_leastTurn_7 (lv_at hl 4 rfl) ?_
      refine lv_if_le (tgt := 76) hx hb dX12_leastTurn_9 (by decide) (fun c1 => ?_) (fun c1 => ?_)
      · replace hf := ift c1 hf
        refine lv_iload_n hx hb dX12_leastTurn_76 rfl (lv_at hl 3 rfl) ?_
        rw [← hQ, ← Option.some.inj hf]
        exact eR_i hx hb hr hlk rfl dX12_leastTurn_77
      · replace hf := iff_ c1 hf
        refine lv_iload hx hb dX12_leastTurn_12 (lv_at hl 4 rfl) ?_
        refine lv_iload_n hx hb dX12_leastTurn_14 rfl (lv_at hl 2 rfl) ?_
        refine lv_icmp_eq (tgt := 37) hx hb dX12_leastTurn_15 (by decide) (fun c2 => ?_) (fun c2 => ?_)
        · replace hf := ift c2 hf
          refine lv_iconst (v := 0) hx hb dX12_leastTurn_37 (by decide) ?_
          exact w_38 (f_X12_leastTurn_b7 v_wins n) ih (0 : Int32) x1 x2 x3 x4 hf ls (lv_sub hl [0, 1, 2, 3, 4] rfl)
        · replace hf := iff_ c2 hf
          refine lv_iload hx hb dX12_leastTurn_18 (lv_at hl 4 rfl) ?_
          refine lv_iload_n hx hb dX12_leastTurn_20 rfl (lv_at hl 2 rfl) ?_
          refine lv_iadd hx hb dX12_leastTurn_21 ?_
          refine lv_bipush (v := 7) hx hb dX12_leastTurn_22 (by decide) ?_
          refine lv_icmp_eq (tgt := 37) hx hb dX12_leastTurn_24 (by decide) (fun c6 => ?_) (fun c6 => ?_)
          · replace hf := ift c6 hf
            refine lv_iconst (v := 0) hx hb dX12_leastTurn_37 (by decide) ?_
            exact w_38 (f_X12_leastTurn_b7 v_wins n) ih (0 : Int32) x1 x2 x3 x4 hf ls (lv_sub hl [0, 1, 2, 3, 4] rfl)
          · replace hf := iff_ c6 hf
            refine lv_iload hx hb dX12_leastTurn_27 (lv_at hl 4 rfl) ?_
            refine lv_iload_n hx hb dX12_leastTurn_29 rfl (lv_at hl 1 rfl) ?_
            refine lv_icmp_gt (tgt := 37) hx hb dX12_leastTurn_30 (by decide) (fun c7 => ?_) (fun c7 => ?_)
            · replace hf := ift c7 hf
              refine lv_iconst (v := 0) hx hb dX12_leastTurn_37 (by decide) ?_
              exact w_38 (f_X12_leastTurn_b7 v_wins n) ih (0 : Int32) x1 x2 x3 x4 hf ls (lv_sub hl [0, 1, 2, 3, 4] rfl)
            · replace hf := iff_ c7 hf
              refine lv_iconst (v := 1) hx hb dX12_leastTurn_33 (by decide) ?_
              refine lv_goto (tgt := 38) hx hb dX12_leastTurn_34 (by decide) ?_
              exact w_38 (f_X12_leastTurn_b7 v_wins n) ih (1 : Int32) x1 x2 x3 x4 hf ls (lv_sub hl [0, 1, 2, 3, 4] rfl)
  unfold f_X12_leastTurn at hf
  refine lv_bipush (v := -6) hx hb dX12_leastTurn_0 (by decide) ?_
  refine lv_istore_n (lv' := [(3, .int (-6 : Int32)), (0, .ref (q 0)), (1, .int x1), (2, .int x2)]) hx hb dX12_leastTurn_2 rfl hl (by decide) rfl (fun ls hl => ?_)
  refine lv_bipush (v := 6) hx hb dX12_leastTurn_3 (by decide) ?_
  refine lv_istore (lv' := [(4, .int (6 : Int32)), (3, .int (-6 : Int32)), (0, .ref (q 0)), (1, .int x1), (2, .int x2)]) hx hb dX12_leastTurn_5 hl (by decide) rfl (fun ls hl => ?_)
  exact w_7 FU x1 x2 (-6 : Int32) (6 : Int32) hf ls (lv_sub hl [2, 3, 4, 1, 0] rfl)
set_option maxHeartbeats 4000000 in
set_option maxRecDepth 100000 in
theorem c_X12_turn (l : Launch) (g : bG) (q : Nat → Nat) (v_holder : Int32) (v_games : Int32) (v_sights : Int32) (v_padMany : Int32) (v_acts : Int32) (v_nothings : Int32) (v_wholeNow : Int32) (v_badAct : Int32) (v_badWhy : Int32) (v_wholeAct : Int32) (v_wholeWho : Int32) (v_keptAt : Int32) (v_isWriting : Int32) (v_wins : Nat → Int32) (x1 : Int32) (x2 : Int32) (x3 : Int32) (out : Int32 × (Nat → Int32)) (hf : f_X12_turn v_wins x1 x2 x3 = some out) : Mi l g yX12_turn wsX12_turn ({ frames := 1, cells := 0, slots := 0, locals := 25 } : Room) [.ref (q 0), .int x1, .int x2, .int x3] [((q 0), .inr (10, oX12 q v_holder v_games v_sights v_padMany v_acts v_nothings v_wholeNow v_badAct v_badWhy v_wholeAct v_wholeWho v_keptAt v_isWriting)), ((q 15), .inl (gZ g, 700, .inl v_wins))] out.1 [((q 0), .inr (10, oX12 q v_holder v_games v_sights v_padMany v_acts v_nothings v_wholeNow v_badAct v_badWhy v_wholeAct v_wholeWho v_keptAt v_isWriting)), ((q 15), .inl (gZ g, 700, .inl out.2))] := by
  refine ofM (Qc := fun A => Qi g out.1 [((q 0), .inr (10, oX12 q v_holder v_games v_sights v_padMany v_acts v_nothings v_wholeNow v_badAct v_badWhy v_wholeAct v_wholeWho v_keptAt v_isWriting)), ((q 15), .inl (gZ g, 700, .inl out.2))] A) (cc := cX12_turn) (nL := 6) (ret := some .int) (by decide) rfl (Nat.le_of_ble_eq_true rfl) ?_
  intro p e s m below meth c ar A hC hA hP hD hG ls hl
  have hS : va_S A s.heap s.heap [] := va_S.rf
  obtain ⟨hx, hb, hml, hown, hts, hr, hlk, -⟩ := hC
  have hl : lv_has ls 6 [(0, .ref (q 0)), (1, .int x1), (2, .int x2), (3, .int x3)] := hl
  have hK := hG.1
  have iX12 : ∀ w ∈ u_ws RX12 TX12 30, w ∈ wsX12_turn := fun w h => List.mem_cons_of_mem _ (List.mem_append_right _ (h))
  generalize hQ : MQ below (Qi g out.1 [((q 0), .inr (10, oX12 q v_holder v_games v_sights v_padMany v_acts v_nothings v_wholeNow v_badAct v_badWhy v_wholeAct v_wholeWho v_keptAt v_isWriting)), ((q 15), .inl (gZ g, 700, .inl out.2))] A) ar s 0 0 A = QQ
  have w_49 : ∀ (k40 : Int32 → Int32 → Int32 → Int32 → (Nat → Int32) → Option (Int32 × (Nat → Int32))), (∀ (x1 : Int32) (x2 : Int32) (x3 : Int32) (x4 : Int32) (v_wins : Nat → Int32), k40 x1 x2 x3 x4 v_wins = some out → ∀ (H : Heap) (locs : List Loc), va_P (gD g) vwCl [((q 0), .inr (10, oX12 q v_holder v_games v_sights v_padMany v_acts v_nothings v_wholeNow v_badAct v_badWhy v_wholeAct v_wholeWho v_keptAt v_isWriting)), ((q 15), .inl (gZ g, 700, .inl v_wins))] H → va_D A [((q 0), .inr (10, oX12 q v_holder v_games v_sights v_padMany v_acts v_nothings v_wholeNow v_badAct v_badWhy v_wholeAct v_wholeWho v_keptAt v_isWriting)), ((q 15), .inl (gZ g, 700, .inl v_wins))] → va_S A s.heap H locs → ∀ ls : Array Slot, lv_has ls 6 [(0, .ref (q 0)), (1, .int x1), (2, .int x2), (3, .int x3), (4, .int x4)] → W p l e ({ frames := 1, cells := 0, slots := 0, locals := 25 } : Room) s m ar below meth c H locs 0 0 QQ (F0 m 40 ls [])) → ∀ n : Nat, ∀ (x1 : Int32) (x2 : Int32) (x3 : Int32) (x4 : Int32) (x5 : Int32) (v_wins : Nat → Int32), f_X12_turn_b49 k40 n x1 x2 x3 x4 x5 v_wins = some out → ∀ (H : Heap) (locs : List Loc), va_P (gD g) vwCl [((q 0), .inr (10, oX12 q v_holder v_games v_sights v_padMany v_acts v_nothings v_wholeNow v_badAct v_badWhy v_wholeAct v_wholeWho v_keptAt v_isWriting)), ((q 15), .inl (gZ g, 700, .inl v_wins))] H → va_D A [((q 0), .inr (10, oX12 q v_holder v_games v_sights v_padMany v_acts v_nothings v_wholeNow v_badAct v_badWhy v_wholeAct v_wholeWho v_keptAt v_isWriting)), ((q 15), .inl (gZ g, 700, .inl v_wins))] → va_S A s.heap H locs → ∀ ls : Array Slot, lv_has ls 6 [(0, .ref (q 0)), (1, .int x1), (2, .int x2), (3, .int x3), (4, .int x4), (5, .int x5)] → W p l e ({ frames := 1, cells := 0, slots := 0, locals := 25 } : Room) s m ar below meth c H locs 0 0 QQ (F0 m 49 ls []) := by
    intro k40 hk40 n
    induction n with
    | zero =>
      intro x1 x2 x3 x4 x5 v_wins hf
      rw [f_X12_turn_b49_z] at hf
      cases hf
    | succ n ih =>
      intro x1 x2 x3 x4 x5 v_wins hf H locs hP hD hS ls hl
      rw [f_X12_turn_b49_s] at hf
      refine lv_iload hx hb dX12_turn_49 (lv_at hl 5 rfl) ?_
      refine lv_bipush (v := 6) hx hb dX12_turn_51 (by decide) ?_
      refine lv_icmp_gt (tgt := 91) hx hb dX12_turn_53 (by decide) (fun c16 => ?_) (fun c16 => ?_)
      · replace hf := ift c16 hf
        refine lv_iinc (v := (x4 + 1)) (lv' := [(4, .int (x4 + 1)), (0, .ref (q 0)), (1, .int x1), (2, .int x2), (3, .int x3), (5, .int x5)]) hx hb dX12_turn_91 hl (k := 4) rfl rfl (by decide) rfl (fun ls hl => ?_)
        refine lv_goto (tgt := 40) hx hb dX12_turn_94 (by decide) ?_
        exact hk40 x1 x2 x3 (x4 + 1) v_wins hf H locs hP hD hS ls (lv_sub hl [1, 2, 3, 4, 0] rfl)
      · replace hf := iff_ c16 hf
        refine lv_aload_n hx hb dX12_turn_56 rfl (lv_at hl 0 rfl) ?_
        refine va_get (D := gD g) (ci := 10) (v := .ref (q 15)) (C := RX12) (T := TX12) (N := 30) hx hb hts iX12 hown hK hP 0 rfl rfl 25 (by decide) (hts (.fieldLink RX12 53 "BeetleDriveModel" "wins" "[Z") (List.mem_of_getElem? (i := 3) rfl)) (fun _ h9 => h9) rfl dX12_turn_57 ?_
        refine lv_bipush (v := 7) hx hb dX12_turn_60 (by decide) ?_
        refine lv_iload hx hb dX12_turn_62 (lv_at hl 4 rfl) ?_
        refine lv_imul hx hb dX12_turn_64 ?_
        refine lv_iload hx hb dX12_turn_65 (lv_at hl 5 rfl) ?_
        refine lv_iadd hx hb dX12_turn_67 ?_
        refine lv_aload_n hx hb dX12_turn_68 rfl (lv_at hl 0 rfl) ?_
        refine lv_iload hx hb dX12_turn_69 (lv_at hl 4 rfl) ?_
        refine lv_iload hx hb dX12_turn_71 (lv_at hl 5 rfl) ?_
        obtain ⟨z17, hq18, hf⟩ := bnd_some hf
        refine kR_i (va_runV (As := [.int x4, .int x5]) (rest := [.int (((7 : Int32) * x4) + x5), .ref (q 15)]) ⟨hx, hb, hml, hown, hts⟩ (c_X12_leastTurn l g q v_holder v_games v_sights v_padMany v_acts v_nothings v_wholeNow v_badAct v_badWhy v_wholeAct v_wholeWho v_keptAt v_isWriting v_wins x4 x5 z17 hq18) (cwV 2 hts gX12_turn_X12_leastTurn rfl rfl rfl (by decide +kernel) ⟨Nat.le_of_ble_eq_true rfl, Nat.le_of_ble_eq_true rfl⟩) (kpV_R (q0 := 0) (ci := 10) (hG.now hS) (hP.subm (ws' := [((q 0), .inr (10, oX12 q v_holder v_games v_sights v_padMany v_acts v_nothings v_wholeNow v_badAct v_badWhy v_wholeAct v_wholeWho v_keptAt v_isWriting)), ((q 15), .inl (gZ g, 700, .inl v_wins))]) [0, 1] rfl) rfl rfl) rfl rfl hl.1 rfl (lv_room (Nat.le_of_ble_eq_true rfl)) dX12_turn_73 ⟨Nat.le_of_ble_eq_true rfl, Nat.le_of_ble_eq_true rfl⟩) ?_
        refine lv_if_lt (tgt := 83) hx hb dX12_turn_76 (by decide) (fun c19 => ?_) (fun c19 => ?_)
        · replace hf := ift c19 hf
          refine lv_iconst (v := 0) hx hb dX12_turn_83 (by decide) ?_
          obtain ⟨hi20, hf⟩ := chk_some hf
          refine va_zast hx hb hK hP hD hS 1 2 rfl rfl hi20 dX12_turn_84 (fun H locs hP hD hS => ?_)
          have hP : va_P (gD g) vwCl [((q 0), .inr (10, oX12 q v_holder v_games v_sights v_padMany v_acts v_nothings v_wholeNow v_badAct v_badWhy v_wholeAct v_wholeWho v_keptAt v_isWriting)), ((q 15), .inl (gZ g, 700, .inl (upd v_wins (Int32.toNatClampNeg (((7 : Int32) * x4) + x5)) (vp_nar .boolean (0 : Int32)))))] H := hP
          have hD : va_D A [((q 0), .inr (10, oX12 q v_holder v_games v_sights v_padMany v_acts v_nothings v_wholeNow v_badAct v_badWhy v_wholeAct v_wholeWho v_keptAt v_isWriting)), ((q 15), .inl (gZ g, 700, .inl (upd v_wins (Int32.toNatClampNeg (((7 : Int32) * x4) + x5)) (vp_nar .boolean (0 : Int32)))))] := hD
          refine lv_iinc (v := (x5 + 1)) (lv' := [(5, .int (x5 + 1)), (0, .ref (q 0)), (1, .int x1), (2, .int x2), (3, .int x3), (4, .int x4)]) hx hb dX12_turn_85 hl (k := 5) rfl rfl (by decide) rfl (fun ls hl => ?_)
          refine lv_goto (tgt := 49) hx hb dX12_turn_88 (by decide) ?_
          exact ih x1 x2 x3 x4 (x5 + 1) (upd v_wins (Int32.toNatClampNeg (((7 : Int32) * x4) + x5)) (vp_nar .boolean (0 : Int32))) hf H locs hP hD hS ls (lv_sub hl [1, 2, 3, 4, 5, 0] rfl)
        · replace hf := iff_ c19 hf
          refine lv_iconst (v := 1) hx hb dX12_turn_79 (by decide) ?_
          refine lv_goto (tgt := 84) hx hb dX12_turn_80 (by decide) ?_
          obtain ⟨hi21, hf⟩ := chk_some hf
          refine va_zast hx hb hK hP hD hS 1 2 rfl rfl hi21 dX12_turn_84 (fun H locs hP hD hS => ?_)
          have hP : va_P (gD g) vwCl [((q 0), .inr (10, oX12 q v_holder v_games v_sights v_padMany v_acts v_nothings v_wholeNow v_badAct v_badWhy v_wholeAct v_wholeWho v_keptAt v_isWriting)), ((q 15), .inl (gZ g, 700, .inl (upd v_wins (Int32.toNatClampNeg (((7 : Int32) * x4) + x5)) (vp_nar .boolean (1 : Int32)))))] H := hP
          have hD : va_D A [((q 0), .inr (10, oX12 q v_holder v_games v_sights v_padMany v_acts v_nothings v_wholeNow v_badAct v_badWhy v_wholeAct v_wholeWho v_keptAt v_isWriting)), ((q 15), .inl (gZ g, 700, .inl (upd v_wins (Int32.toNatClampNeg (((7 : Int32) * x4) + x5)) (vp_nar .boolean (1 : Int32)))))] := hD
          refine lv_iinc (v := (x5 + 1)) (lv' := [(5, .int (x5 + 1)), (0, .ref (q 0)), (1, .int x1), (2, .int x2), (3, .int x3), (4, .int x4)]) hx hb dX12_turn_85 hl (k := 5) rfl rfl (by decide) rfl (fun ls hl => ?_)
          refine lv_goto (tgt := 49) hx hb dX12_turn_88 (by decide) ?_
          exact ih x1 x2 x3 x4 (x5 + 1) (upd v_wins (Int32.toNatClampNeg (((7 : Int32) * x4) + x5)) (vp_nar .boolean (1 : Int32))) hf H locs hP hD hS ls (lv_sub hl [1, 2, 3, 4, 5, 0] rfl)
  have w_40 : ∀ n : Nat, ∀ (x1 : Int32) (x2 : Int32) (x3 : Int32) (x4 : Int32) (v_wins : Nat → Int32), f_X12_turn_b40 n x1 x2 x3 x4 v_wins = some out → ∀ (H : Heap) (locs : List Loc), va_P (gD g) vwCl [((q 0), .inr (10, oX12 q v_holder v_games v_sights v_padMany v_acts v_nothings v_wholeNow v_badAct v_badWhy v_wholeAct v_wholeWho v_keptAt v_isWriting)), ((q 15), .inl (gZ g, 700, .inl v_wins))] H → va_D A [((q 0), .inr (10, oX12 q v_holder v_games v_sights v_padMany v_acts v_nothings v_wholeNow v_badAct v_badWhy v_wholeAct v_wholeWho v_keptAt v_isWriting)), ((q 15), .inl (gZ g, 700, .inl v_wins))] → va_S A s.heap H locs → ∀ ls : Array Slot, lv_has ls 6 [(0, .ref (q 0)), (1, .int x1), (2, .int x2), (3, .int x3), (4, .int x4)] → W p l e ({ frames := 1, cells := 0, slots := 0, locals := 25 } : Room) s m ar below meth c H locs 0 0 QQ (F0 m 40 ls []) := by
    intro n
    induction n with
    | zero =>
      intro x1 x2 x3 x4 v_wins hf
      rw [f_X12_turn_b40_z] at hf
      cases hf
    | succ n ih =>
      intro x1 x2 x3 x4 v_wins hf H locs hP hD hS ls hl
      rw [f_X12_turn_b40_s] at hf
      refine lv_iload hx hb dX12_turn_40 (lv_at hl 4 rfl) ?_
      refine lv_iload_n hx hb dX12_turn_42 rfl (lv_at hl 1 rfl) ?_
      refine lv_icmp_gt (tgt := 97) hx hb dX12_turn_43 (by decide) (fun c10 => ?_) (fun c10 => ?_)
      · replace hf := ift c10 hf
        refine lv_iload_n hx hb dX12_turn_97 rfl (lv_at hl 3 rfl) ?_
        refine lv_iconst (v := 1) hx hb dX12_turn_98 (by decide) ?_
        refine lv_icmp_ne (tgt := 111) hx hb dX12_turn_99 (by decide) (fun c11 => ?_) (fun c11 => ?_)
        · replace hf := iff_ c11 hf
          refine lv_aload_n hx hb dX12_turn_111 rfl (lv_at hl 0 rfl) ?_
          refine va_get (D := gD g) (ci := 10) (v := .ref (q 15)) (C := RX12) (T := TX12) (N := 30) hx hb hts iX12 hown hK hP 0 rfl rfl 25 (by decide) (hts (.fieldLink RX12 53 "BeetleDriveModel" "wins" "[Z") (List.mem_of_getElem? (i := 3) rfl)) (fun _ h9 => h9) rfl dX12_turn_112 ?_
          refine lv_bipush (v := 7) hx hb dX12_turn_115 (by decide) ?_
          refine lv_iload_n hx hb dX12_turn_117 rfl (lv_at hl 1 rfl) ?_
          refine lv_imul hx hb dX12_turn_118 ?_
          refine lv_iload_n hx hb dX12_turn_119 rfl (lv_at hl 2 rfl) ?_
          refine lv_iadd hx hb dX12_turn_120 ?_
          obtain ⟨hi12, hf⟩ := chk_some hf
          refine va_zald hx hb hK hP 1 2 rfl rfl hi12 dX12_turn_121 ?_
          refine lv_if_eq (tgt := 129) hx hb dX12_turn_122 (by decide) (fun c13 => ?_) (fun c13 => ?_)
          · replace hf := ift c13 hf
            refine lv_iconst (v := 0) hx hb dX12_turn_129 (by decide) ?_
            rw [← hQ, ← Option.some.inj hf]
            exact eM_i hx hb hr hlk hP hD hS rfl dX12_turn_130
          · replace hf := iff_ c13 hf
            refine lv_iconst (v := 1) hx hb dX12_turn_125 (by decide) ?_
            refine lv_goto (tgt := 130) hx hb dX12_turn_126 (by decide) ?_
            rw [← hQ, ← Option.some.inj hf]
            exact eM_i hx hb hr hlk hP hD hS rfl dX12_turn_130
        · replace hf := ift c11 hf
          refine lv_aload_n hx hb dX12_turn_102 rfl (lv_at hl 0 rfl) ?_
          refine lv_iload_n hx hb dX12_turn_103 rfl (lv_at hl 1 rfl) ?_
          refine lv_iload_n hx hb dX12_turn_104 rfl (lv_at hl 2 rfl) ?_
          obtain ⟨z14, hq15, hf⟩ := bnd_some hf
          refine kR_i (va_runV (As := [.int x1, .int x2]) (rest := []) ⟨hx, hb, hml, hown, hts⟩ (c_X12_leastTurn l g q v_holder v_games v_sights v_padMany v_acts v_nothings v_wholeNow v_badAct v_badWhy v_wholeAct v_wholeWho v_keptAt v_isWriting v_wins x1 x2 z14 hq15) (cwV 2 hts gX12_turn_X12_leastTurn rfl rfl rfl (by decide +kernel) ⟨Nat.le_of_ble_eq_true rfl, Nat.le_of_ble_eq_true rfl⟩) (kpV_R (q0 := 0) (ci := 10) (hG.now hS) (hP.subm (ws' := [((q 0), .inr (10, oX12 q v_holder v_games v_sights v_padMany v_acts v_nothings v_wholeNow v_badAct v_badWhy v_wholeAct v_wholeWho v_keptAt v_isWriting)), ((q 15), .inl (gZ g, 700, .inl v_wins))]) [0, 1] rfl) rfl rfl) rfl rfl hl.1 rfl (lv_room (Nat.le_of_ble_eq_true rfl)) dX12_turn_105 ⟨Nat.le_of_ble_eq_true rfl, Nat.le_of_ble_eq_true rfl⟩) ?_
          refine lv_goto (tgt := 130) hx hb dX12_turn_108 (by decide) ?_
          rw [← hQ, ← Option.some.inj hf]
          exact eM_i hx hb hr hlk hP hD hS rfl dX12_turn_130
      · replace hf := iff_ c10 hf
        refine lv_iconst (v := 1) hx hb dX12_turn_46 (by decide) ?_
        refine lv_istore (lv' := [(5, .int (1 : Int32)), (0, .ref (q 0)), (1, .int x1), (2, .int x2), (3, .int x3), (4, .int x4)]) hx hb dX12_turn_47 hl (by decide) rfl (fun ls hl => ?_)
        exact w_49 (f_X12_turn_b40 n) ih FU x1 x2 x3 x4 (1 : Int32) v_wins hf H locs hP hD hS ls (lv_sub hl [1, 2, 3, 4, 5, 0] rfl)
  unfold f_X12_turn at hf
  refine lv_iload_n hx hb dX12_turn_0 rfl (lv_at hl 1 rfl) ?_
  refine lv_i2l (v := (Int32.toInt64 x1)) hx hb dX12_turn_1 rfl ?_
  refine lv_lconst (v := 0) hx hb dX12_turn_2 (by decide) ?_
  refine lv_ldc2 (v := 99) hx hb hown (hts (.constantLong RX12 240 (99)) (List.mem_of_getElem? (i := 1) rfl)) dX12_turn_3 ?_
  obtain ⟨z1, hq2, hf⟩ := bnd_some hf
  refine kR_i (va_runS (As := [.long (Int32.toInt64 x1), .long (0 : Int64), .long (99 : Int64)]) (rest := []) ⟨hx, hb, hml, hown, hts⟩ (c_X12_in l g (Int32.toInt64 x1) (0 : Int64) (99 : Int64) z1 hq2) (va_cwS 3 hts gX12_turn_X12_in rfl rfl rfl (by decide +kernel) ⟨Nat.le_of_ble_eq_true rfl, Nat.le_of_ble_eq_true rfl⟩) (kpS_R (hG.now hS) (hP.subm (ws' := []) [] rfl)) rfl rfl hl.1 rfl (lv_room (Nat.le_of_ble_eq_true rfl)) dX12_turn_6 ⟨Nat.le_of_ble_eq_true rfl, Nat.le_of_ble_eq_true rfl⟩) ?_
  refine lv_if_eq (tgt := 34) hx hb dX12_turn_9 (by decide) (fun c3 => ?_) (fun c3 => ?_)
  · replace hf := ift c3 hf
    refine lv_bipush (v := -2) hx hb dX12_turn_34 (by decide) ?_
    rw [← hQ, ← Option.some.inj hf]
    exact eM_i hx hb hr hlk hP hD hS rfl dX12_turn_36
  · replace hf := iff_ c3 hf
    refine lv_iload_n hx hb dX12_turn_12 rfl (lv_at hl 2 rfl) ?_
    refine lv_i2l (v := (Int32.toInt64 x2)) hx hb dX12_turn_13 rfl ?_
    refine lv_lconst (v := 1) hx hb dX12_turn_14 (by decide) ?_
    refine lv_ldc2 (v := 6) hx hb hown (hts (.constantLong RX12 229 (6)) (List.mem_of_getElem? (i := 2) rfl)) dX12_turn_15 ?_
    obtain ⟨z4, hq5, hf⟩ := bnd_some hf
    refine kR_i (va_runS (As := [.long (Int32.toInt64 x2), .long (1 : Int64), .long (6 : Int64)]) (rest := []) ⟨hx, hb, hml, hown, hts⟩ (c_X12_in l g (Int32.toInt64 x2) (1 : Int64) (6 : Int64) z4 hq5) (va_cwS 3 hts gX12_turn_X12_in rfl rfl rfl (by decide +kernel) ⟨Nat.le_of_ble_eq_true rfl, Nat.le_of_ble_eq_true rfl⟩) (kpS_R (hG.now hS) (hP.subm (ws' := []) [] rfl)) rfl rfl hl.1 rfl (lv_room (Nat.le_of_ble_eq_true rfl)) dX12_turn_18 ⟨Nat.le_of_ble_eq_true rfl, Nat.le_of_ble_eq_true rfl⟩) ?_
    refine lv_if_eq (tgt := 34) hx hb dX12_turn_21 (by decide) (fun c6 => ?_) (fun c6 => ?_)
    · replace hf := ift c6 hf
      refine lv_bipush (v := -2) hx hb dX12_turn_34 (by decide) ?_
      rw [← hQ, ← Option.some.inj hf]
      exact eM_i hx hb hr hlk hP hD hS rfl dX12_turn_36
    · replace hf := iff_ c6 hf
      refine lv_iload_n hx hb dX12_turn_24 rfl (lv_at hl 3 rfl) ?_
      refine lv_i2l (v := (Int32.toInt64 x3)) hx hb dX12_turn_25 rfl ?_
      refine lv_lconst (v := 0) hx hb dX12_turn_26 (by decide) ?_
      refine lv_lconst (v := 1) hx hb dX12_turn_27 (by decide) ?_
      obtain ⟨z7, hq8, hf⟩ := bnd_some hf
      refine kR_i (va_runS (As := [.long (Int32.toInt64 x3), .long (0 : Int64), .long (1 : Int64)]) (rest := []) ⟨hx, hb, hml, hown, hts⟩ (c_X12_in l g (Int32.toInt64 x3) (0 : Int64) (1 : Int64) z7 hq8) (va_cwS 3 hts gX12_turn_X12_in rfl rfl rfl (by decide +kernel) ⟨Nat.le_of_ble_eq_true rfl, Nat.le_of_ble_eq_true rfl⟩) (kpS_R (hG.now hS) (hP.subm (ws' := []) [] rfl)) rfl rfl hl.1 rfl (lv_room (Nat.le_of_ble_eq_true rfl)) dX12_turn_28 ⟨Nat.le_of_ble_eq_true rfl, Nat.le_of_ble_eq_true rfl⟩) ?_
      refine lv_if_ne (tgt := 37) hx hb dX12_turn_31 (by decide) (fun c9 => ?_) (fun c9 => ?_)
      · replace hf := iff_ c9 hf
        refine lv_iconst (v := 0) hx hb dX12_turn_37 (by decide) ?_
        refine lv_istore (lv' := [(4, .int (0 : Int32)), (0, .ref (q 0)), (1, .int x1), (2, .int x2), (3, .int x3)]) hx hb dX12_turn_38 hl (by decide) rfl (fun ls hl => ?_)
        exact w_40 FU x1 x2 x3 (0 : Int32) v_wins hf s.heap [] hP hD hS ls (lv_sub hl [1, 2, 3, 4, 0] rfl)
      · replace hf := ift c9 hf
        refine lv_bipush (v := -2) hx hb dX12_turn_34 (by decide) ?_
        rw [← hQ, ← Option.some.inj hf]
        exact eM_i hx hb hr hlk hP hD hS rfl dX12_turn_36
set_option maxHeartbeats 4000000 in
set_option maxRecDepth 100000 in
theorem c_X12_drawn (l : Launch) (g : bG) (q : Nat → Nat) (v_holder : Int32) (v_games : Int32) (v_sights : Int32) (v_padMany : Int32) (v_acts : Int32) (v_nothings : Int32) (v_wholeNow : Int32) (v_badAct : Int32) (v_badWhy : Int32) (v_wholeAct : Int32) (v_wholeWho : Int32) (v_keptAt : Int32) (v_isWriting : Int32) (v_most : Nat → Int32) (v_beetle : Nat → Int32) (v_points : Nat → Int32) (v_isIn : Nat → Int32) (x1 : Int32) (x2 : Int32) (out : (Nat → Int32) × (Nat → Int32) × (Nat → Int32) × Int32 × Int32 × Int32 × Int32) (hf : f_X12_drawn v_most v_beetle v_points v_isIn v_holder v_games v_nothings v_wholeNow x1 x2 = some out) : Mv l g yX12_drawn wsX12_drawn ({ frames := 5, cells := 0, slots := 0, locals := 109 } : Room) [.ref (q 0), .int x1, .int x2] [((q 0), .inr (10, oX12 q v_holder v_games v_sights v_padMany v_acts v_nothings v_wholeNow v_badAct v_badWhy v_wholeAct v_wholeWho v_keptAt v_isWriting)), ((q 1), .inl (gI g, 6, .inl v_most)), ((q 2), .inl (gI g, 6, .inl v_beetle)), ((q 3), .inl (gI g, 6, .inl v_points)), ((q 4), .inl (gI g, 6, .inl v_isIn))] [((q 0), .inr (10, oX12 q out.2.2.2.1 out.2.2.2.2.1 v_sights v_padMany v_acts out.2.2.2.2.2.1 out.2.2.2.2.2.2 v_badAct v_badWhy v_wholeAct v_wholeWho v_keptAt v_isWriting)), ((q 1), .inl (gI g, 6, .inl v_most)), ((q 2), .inl (gI g, 6, .inl out.1)), ((q 3), .inl (gI g, 6, .inl out.2.1)), ((q 4), .inl (gI g, 6, .inl out.2.2.1))] := by
  refine ofM (Qc := fun A => Qv g [((q 0), .inr (10, oX12 q out.2.2.2.1 out.2.2.2.2.1 v_sights v_padMany v_acts out.2.2.2.2.2.1 out.2.2.2.2.2.2 v_badAct v_badWhy v_wholeAct v_wholeWho v_keptAt v_isWriting)), ((q 1), .inl (gI g, 6, .inl v_most)), ((q 2), .inl (gI g, 6, .inl out.1)), ((q 3), .inl (gI g, 6, .inl out.2.1)), ((q 4), .inl (gI g, 6, .inl out.2.2.1))] A) (cc := cX12_drawn) (nL := 5) (ret := none) (by decide) rfl (Nat.le_of_ble_eq_true rfl) ?_
  intro p e s m below meth c ar A hC hA hP hD hG ls hl
  have hS : va_S A s.heap s.heap [] := va_S.rf
  obtain ⟨hx, hb, hml, hown, hts, hr, hlk, -⟩ := hC
  have hl : lv_has ls 5 [(0, .ref (q 0)), (1, .int x1), (2, .int x2)] := hl
  have hK := hG.1
  generalize hQ : MQ below (Qv g [((q 0), .inr (10, oX12 q out.2.2.2.1 out.2.2.2.2.1 v_sights v_padMany v_acts out.2.2.2.2.2.1 out.2.2.2.2.2.2 v_badAct v_badWhy v_wholeAct v_wholeWho v_keptAt v_isWriting)), ((q 1), .inl (gI g, 6, .inl v_most)), ((q 2), .inl (gI g, 6, .inl out.1)), ((q 3), .inl (gI g, 6, .inl out.2.1)), ((q 4), .inl (gI g, 6, .inl out.2.2.1))] A) ar s 0 0 A = QQ
  have w_54 : ∀ (y0 : Int32) (x3 : Int32) (v_beetle : Nat → Int32) (v_points : Nat → Int32) (v_isIn : Nat → Int32) (v_holder : Int32) (v_games : Int32) (v_nothings : Int32) (v_wholeNow : Int32), f_X12_drawn_b54 v_most y0 x3 v_beetle v_points v_isIn v_holder v_games v_nothings v_wholeNow = some out → ∀ (H : Heap) (locs : List Loc), va_P (gD g) vwCl [((q 0), .inr (10, oX12 q v_holder v_games v_sights v_padMany v_acts v_nothings v_wholeNow v_badAct v_badWhy v_wholeAct v_wholeWho v_keptAt v_isWriting)), ((q 1), .inl (gI g, 6, .inl v_most)), ((q 2), .inl (gI g, 6, .inl v_beetle)), ((q 3), .inl (gI g, 6, .inl v_points)), ((q 4), .inl (gI g, 6, .inl v_isIn))] H → va_D A [((q 0), .inr (10, oX12 q v_holder v_games v_sights v_padMany v_acts v_nothings v_wholeNow v_badAct v_badWhy v_wholeAct v_wholeWho v_keptAt v_isWriting)), ((q 1), .inl (gI g, 6, .inl v_most)), ((q 2), .inl (gI g, 6, .inl v_beetle)), ((q 3), .inl (gI g, 6, .inl v_points)), ((q 4), .inl (gI g, 6, .inl v_isIn))] → va_S A s.heap H locs → ∀ ls : Array Slot, lv_has ls 5 [(0, .ref (q 0)), (3, .int x3)] → W p l e ({ frames := 5, cells := 0, slots := 0, locals := 109 } : Room) s m ar below meth c H locs 0 0 QQ (F0 m 54 ls [.int y0]) := by
    intro y0 x3 v_beetle v_points v_isIn v_holder v_games v_nothings v_wholeNow hf H locs hP hD hS ls hl
    unfold f_X12_drawn_b54 at hf
    refine lv_istore (lv' := [(4, .int y0), (0, .ref (q 0)), (3, .int x3)]) hx hb dX12_drawn_54 hl (by decide) rfl (fun ls hl => ?_)
    refine lv_aload_n hx hb dX12_drawn_56 rfl (lv_at hl 1 rfl) ?_
    refine lv_iload_n hx hb dX12_drawn_57 rfl (lv_at hl 2 rfl) ?_
    refine lv_iload hx hb dX12_drawn_58 (lv_at hl 0 rfl) ?_
    obtain ⟨z5, hq6, hf⟩ := bnd_some hf
    refine kR_i (va_runV (As := [.int x3, .int y0]) (rest := []) ⟨hx, hb, hml, hown, hts⟩ (c_X12_whyNot l g q v_holder v_games v_sights v_padMany v_acts v_nothings v_wholeNow v_badAct v_badWhy v_wholeAct v_wholeWho v_keptAt v_isWriting v_beetle v_isIn x3 y0 z5 hq6) (cwV 2 hts gX12_drawn_X12_whyNot rfl rfl rfl (by decide +kernel) ⟨Nat.le_of_ble_eq_true rfl, Nat.le_of_ble_eq_true rfl⟩) (kpV_R (q0 := 0) (ci := 10) (hG.now hS) (hP.subm (ws' := [((q 0), .inr (10, oX12 q v_holder v_games v_sights v_padMany v_acts v_nothings v_wholeNow v_badAct v_badWhy v_wholeAct v_wholeWho v_keptAt v_isWriting)), ((q 2), .inl (gI g, 6, .inl v_beetle)), ((q 4), .inl (gI g, 6, .inl v_isIn))]) [0, 2, 4] rfl) rfl rfl) rfl rfl hl.1 rfl (lv_room (Nat.le_of_ble_eq_true rfl)) dX12_drawn_60 ⟨Nat.le_of_ble_eq_true rfl, Nat.le_of_ble_eq_true rfl⟩) ?_
    refine lv_if_ne (tgt := 73) hx hb dX12_drawn_63 (by decide) (fun c7 => ?_) (fun c7 => ?_)
    · replace hf := iff_ c7 hf
      rw [← hQ, ← Option.some.inj hf]
      exact eM_v hx hb hr hlk hP hD hS dX12_drawn_73
    · replace hf := ift c7 hf
      refine lv_aload_n hx hb dX12_drawn_66 rfl (lv_at hl 1 rfl) ?_
      refine lv_iload_n hx hb dX12_drawn_67 rfl (lv_at hl 2 rfl) ?_
      refine lv_iload hx hb dX12_drawn_68 (lv_at hl 0 rfl) ?_
      obtain ⟨z8, hq9, hf⟩ := bnd_some hf
      refine kM_v (wc := [((q 0), .inr (10, oX12 q v_holder v_games v_sights v_padMany v_acts v_nothings v_wholeNow v_badAct v_badWhy v_wholeAct v_wholeWho v_keptAt v_isWriting)), ((q 1), .inl (gI g, 6, .inl v_most)), ((q 2), .inl (gI g, 6, .inl v_beetle)), ((q 3), .inl (gI g, 6, .inl v_points)), ((q 4), .inl (gI g, 6, .inl v_isIn))]) (wr := []) (w1 := [((q 0), .inr (10, oX12 q z8.2.2.2.1 z8.2.2.2.2.1 v_sights v_padMany v_acts z8.2.2.2.2.2.1 z8.2.2.2.2.2.2 v_badAct v_badWhy v_wholeAct v_wholeWho v_keptAt v_isWriting)), ((q 1), .inl (gI g, 6, .inl v_most)), ((q 2), .inl (gI g, 6, .inl z8.1)), ((q 3), .inl (gI g, 6, .inl z8.2.1)), ((q 4), .inl (gI g, 6, .inl z8.2.2.1))]) (w2 := [((q 0), .inr (10, oX12 q z8.2.2.2.1 z8.2.2.2.2.1 v_sights v_padMany v_acts z8.2.2.2.2.2.1 z8.2.2.2.2.2.2 v_badAct v_badWhy v_wholeAct v_wholeWho v_keptAt v_isWriting)), ((q 1), .inl (gI g, 6, .inl v_most)), ((q 2), .inl (gI g, 6, .inl z8.1)), ((q 3), .inl (gI g, 6, .inl z8.2.1)), ((q 4), .inl (gI g, 6, .inl z8.2.2.1))]) (va_runV (As := [.int x3, .int y0]) (rest := []) ⟨hx, hb, hml, hown, hts⟩ (c_X12_happen l g q v_holder v_games v_sights v_padMany v_acts v_nothings v_wholeNow v_badAct v_badWhy v_wholeAct v_wholeWho v_keptAt v_isWriting v_most v_beetle v_points v_isIn x3 y0 z8 hq9 H.size) (cwV 2 hts gX12_drawn_X12_happen rfl rfl rfl (by decide +kernel) ⟨Nat.le_of_ble_eq_true rfl, Nat.le_of_ble_eq_true rfl⟩) (kpV_M (q0 := 0) (ci := 10) hG hS hP hD hA [0, 1, 2, 3, 4] rfl (by decide) rfl rfl) rfl rfl hl.1 rfl (lv_room (Nat.le_of_ble_eq_true rfl)) dX12_drawn_70 ⟨Nat.le_of_ble_eq_true rfl, Nat.le_of_ble_eq_true rfl⟩) hP hD hS hA [0, 1, 2, 3, 4] [] [0, 1, 2, 3, 4] rfl rfl (by decide) (by decide) rfl (by decide) (fun H locs hP hD hS => ?_)
      rw [← hQ, ← Option.some.inj hf]
      exact eM_v hx hb hr hlk hP hD hS dX12_drawn_73
  have w_34 : ∀ (y0 : Int32) (x1 : Int32) (x2 : Int32) (v_beetle : Nat → Int32) (v_points : Nat → Int32) (v_isIn : Nat → Int32) (v_holder : Int32) (v_games : Int32) (v_nothings : Int32) (v_wholeNow : Int32), f_X12_drawn_b34 v_most y0 x1 x2 v_beetle v_points v_isIn v_holder v_games v_nothings v_wholeNow = some out → ∀ (H : Heap) (locs : List Loc), va_P (gD g) vwCl [((q 0), .inr (10, oX12 q v_holder v_games v_sights v_padMany v_acts v_nothings v_wholeNow v_badAct v_badWhy v_wholeAct v_wholeWho v_keptAt v_isWriting)), ((q 1), .inl (gI g, 6, .inl v_most)), ((q 2), .inl (gI g, 6, .inl v_beetle)), ((q 3), .inl (gI g, 6, .inl v_points)), ((q 4), .inl (gI g, 6, .inl v_isIn))] H → va_D A [((q 0), .inr (10, oX12 q v_holder v_games v_sights v_padMany v_acts v_nothings v_wholeNow v_badAct v_badWhy v_wholeAct v_wholeWho v_keptAt v_isWriting)), ((q 1), .inl (gI g, 6, .inl v_most)), ((q 2), .inl (gI g, 6, .inl v_beetle)), ((q 3), .inl (gI g, 6, .inl v_points)), ((q 4), .inl (gI g, 6, .inl v_isIn))] → va_S A s.heap H locs → ∀ ls : Array Slot, lv_has ls 5 [(0, .ref (q 0)), (1, .int x1), (2, .int x2)] → W p l e ({ frames := 5, cells := 0, slots := 0, locals := 109 } : Room) s m ar below meth c H locs 0 0 QQ (F0 m 34 ls [.int y0]) := by
    intro y0 x1 x2 v_beetle v_points v_isIn v_holder v_games v_nothings v_wholeNow hf H locs hP hD hS ls hl
    unfold f_X12_drawn_b34 at hf
    refine lv_istore_n (lv' := [(3, .int y0), (0, .ref (q 0)), (1, .int x1), (2, .int x2)]) hx hb dX12_drawn_34 rfl hl (by decide) rfl (fun ls hl => ?_)
    refine lv_iload_n hx hb dX12_drawn_35 rfl (lv_at hl 2 rfl) ?_
    refine lv_bipush (v := 6) hx hb dX12_drawn_36 (by decide) ?_
    refine lv_icmp_ge (tgt := 50) hx hb dX12_drawn_38 (by decide) (fun c4 => ?_) (fun c4 => ?_)
    · replace hf := ift c4 hf
      refine lv_iload_n hx hb dX12_drawn_50 rfl (lv_at hl 3 rfl) ?_
      refine lv_bipush (v := 6) hx hb dX12_drawn_51 (by decide) ?_
      refine lv_irem hx hb dX12_drawn_53 (by decide) ?_
      exact w_54  (x2 - x2 / (6 : Int32) * (6 : Int32)) y0 v_beetle v_points v_isIn v_holder v_games v_nothings v_wholeNow hf H locs hP hD hS ls (lv_sub hl [1, 0] rfl)
    · replace hf := iff_ c4 hf
      refine lv_iconst (v := 1) hx hb dX12_drawn_41 (by decide) ?_
      refine lv_iload_n hx hb dX12_drawn_42 rfl (lv_at hl 3 rfl) ?_
      refine lv_bipush (v := 6) hx hb dX12_drawn_43 (by decide) ?_
      refine lv_irem hx hb dX12_drawn_45 (by decide) ?_
      refine lv_iadd hx hb dX12_drawn_46 ?_
      refine lv_goto (tgt := 54) hx hb dX12_drawn_47 (by decide) ?_
      exact w_54  ((1 : Int32) + (x2 - x2 / (6 : Int32) * (6 : Int32))) y0 v_beetle v_points v_isIn v_holder v_games v_nothings v_wholeNow hf H locs hP hD hS ls (lv_sub hl [1, 0] rfl)
  unfold f_X12_drawn at hf
  refine lv_iload_n hx hb dX12_drawn_0 rfl (lv_at hl 1 rfl) ?_
  refine lv_bipush (v := 6) hx hb dX12_drawn_1 (by decide) ?_
  refine lv_icmp_ge (tgt := 10) hx hb dX12_drawn_3 (by decide) (fun c1 => ?_) (fun c1 => ?_)
  · replace hf := ift c1 hf
    refine lv_iload_n hx hb dX12_drawn_10 rfl (lv_at hl 1 rfl) ?_
    refine lv_bipush (v := 7) hx hb dX12_drawn_11 (by decide) ?_
    refine lv_icmp_ne (tgt := 20) hx hb dX12_drawn_13 (by decide) (fun c2 => ?_) (fun c2 => ?_)
    · replace hf := iff_ c2 hf
      refine lv_iload_n hx hb dX12_drawn_20 rfl (lv_at hl 2 rfl) ?_
      refine lv_bipush (v := 6) hx hb dX12_drawn_21 (by decide) ?_
      refine lv_idiv hx hb dX12_drawn_23 (by decide) ?_
      refine lv_iconst (v := 4) hx hb dX12_drawn_24 (by decide) ?_
      refine lv_irem hx hb dX12_drawn_25 (by decide) ?_
      refine lv_if_ne (tgt := 33) hx hb dX12_drawn_26 (by decide) (fun c3 => ?_) (fun c3 => ?_)
      · replace hf := iff_ c3 hf
        refine lv_iconst (v := 1) hx hb dX12_drawn_33 (by decide) ?_
        exact w_34  (1 : Int32) x1 x2 v_beetle v_points v_isIn v_holder v_games v_nothings v_wholeNow hf s.heap [] hP hD hS ls (lv_sub hl [0, 1, 2] rfl)
      · replace hf := ift c3 hf
        refine lv_iconst (v := 3) hx hb dX12_drawn_29 (by decide) ?_
        refine lv_goto (tgt := 34) hx hb dX12_drawn_30 (by decide) ?_
        exact w_34  (3 : Int32) x1 x2 v_beetle v_points v_isIn v_holder v_games v_nothings v_wholeNow hf s.heap [] hP hD hS ls (lv_sub hl [0, 1, 2] rfl)
    · replace hf := ift c2 hf
      refine lv_iconst (v := 2) hx hb dX12_drawn_16 (by decide) ?_
      refine lv_goto (tgt := 34) hx hb dX12_drawn_17 (by decide) ?_
      exact w_34  (2 : Int32) x1 x2 v_beetle v_points v_isIn v_holder v_games v_nothings v_wholeNow hf s.heap [] hP hD hS ls (lv_sub hl [0, 1, 2] rfl)
  · replace hf := iff_ c1 hf
    refine lv_iconst (v := 0) hx hb dX12_drawn_6 (by decide) ?_
    refine lv_goto (tgt := 34) hx hb dX12_drawn_7 (by decide) ?_
    exact w_34  (0 : Int32) x1 x2 v_beetle v_points v_isIn v_holder v_games v_nothings v_wholeNow hf s.heap [] hP hD hS ls (lv_sub hl [0, 1, 2] rfl)
set_option maxHeartbeats 4000000 in
set_option maxRecDepth 100000 in
theorem c_X12_allParts (l : Launch) (g : bG) (q : Nat → Nat) (v_holder : Int32) (v_games : Int32) (v_sights : Int32) (v_padMany : Int32) (v_acts : Int32) (v_nothings : Int32) (v_wholeNow : Int32) (v_badAct : Int32) (v_badWhy : Int32) (v_wholeAct : Int32) (v_wholeWho : Int32) (v_keptAt : Int32) (v_isWriting : Int32) (v_beetle : Nat → Int32) (out : Int32) (hf : f_X12_allParts v_beetle = some out) : Ri l g yX12_allParts wsX12_allParts ({ frames := 3, cells := 0, slots := 0, locals := 65 } : Room) [.ref (q 0)] [((q 0), .inr (10, oX12 q v_holder v_games v_sights v_padMany v_acts v_nothings v_wholeNow v_badAct v_badWhy v_wholeAct v_wholeWho v_keptAt v_isWriting)), ((q 2), .inl (gI g, 6, .inl v_beetle))] out := by
  refine ofR (cc := cX12_allParts) (nL := 3) (ret := some .int) (by decide) rfl (Nat.le_of_ble_eq_true rfl) ?_
  intro p e s m below meth c ar hC hP hG ls hl
  have hS : va_S (fun _ => False) s.heap s.heap [] := va_S.rf
  obtain ⟨hx, hb, hml, hown, hts, hr, hlk, -⟩ := hC
  have hl : lv_has ls 3 [(0, .ref (q 0))] := hl
  have hK := hG.1
  have iX12 : ∀ w ∈ u_ws RX12 TX12 30, w ∈ wsX12_allParts := fun w h => List.mem_cons_of_mem _ (List.mem_append_right _ (h))
  generalize hQ : MQ below (vp_Si (fun x => x = out)) ar s 0 0 (fun _ => False) = QQ
  have w_4 : ∀ n : Nat, ∀ (x1 : Int32) (x2 : Int32), f_X12_allParts_b4 v_beetle n x1 x2 = some out → ∀ ls : Array Slot, lv_has ls 3 [(0, .ref (q 0)), (1, .int x1), (2, .int x2)] → W p l e ({ frames := 3, cells := 0, slots := 0, locals := 65 } : Room) s m ar below meth c s.heap [] 0 0 QQ (F0 m 4 ls []) := by
    intro n
    induction n with
    | zero =>
      intro x1 x2 hf
      rw [f_X12_allParts_b4_z] at hf
      cases hf
    | succ n ih =>
      intro x1 x2 hf ls hl
      rw [f_X12_allParts_b4_s] at hf
      refine lv_iload_n hx hb dX12_allParts_4 rfl (lv_at hl 2 rfl) ?_
      refine lv_bipush (v := 6) hx hb dX12_allParts_5 (by decide) ?_
      refine lv_icmp_ge (tgt := 28) hx hb dX12_allParts_7 (by decide) (fun c1 => ?_) (fun c1 => ?_)
      · replace hf := ift c1 hf
        refine lv_iload_n hx hb dX12_allParts_28 rfl (lv_at hl 1 rfl) ?_
        rw [← hQ, ← Option.some.inj hf]
        exact eR_i hx hb hr hlk rfl dX12_allParts_29
      · replace hf := iff_ c1 hf
        refine lv_iload_n hx hb dX12_allParts_10 rfl (lv_at hl 1 rfl) ?_
        refine lv_aload_n hx hb dX12_allParts_11 rfl (lv_at hl 0 rfl) ?_
        refine va_get (D := gD g) (ci := 10) (v := .ref (q 2)) (C := RX12) (T := TX12) (N := 30) hx hb hts iX12 hown hK hP 0 rfl rfl 1 (by decide) (hts (.fieldLink RX12 13 "BeetleDriveModel" "beetle" "[I") (List.mem_of_getElem? (i := 1) rfl)) (fun _ h9 => h9) rfl dX12_allParts_12 ?_
        refine lv_iload_n hx hb dX12_allParts_15 rfl (lv_at hl 2 rfl) ?_
        obtain ⟨hi2, hf⟩ := chk_some hf
        refine va_iald hx hb hK hP 1 0 rfl rfl hi2 dX12_allParts_16 ?_
        obtain ⟨z3, hq4, hf⟩ := bnd_some hf
        refine kR_i (va_runS (As := [.int (v_beetle (Int32.toNatClampNeg x2))]) (rest := [.int x1]) ⟨hx, hb, hml, hown, hts⟩ (c_X12_partsOf l g (v_beetle (Int32.toNatClampNeg x2)) z3 hq4) (va_cwS 1 hts gX12_allParts_X12_partsOf rfl rfl rfl (by decide +kernel) ⟨Nat.le_of_ble_eq_true rfl, Nat.le_of_ble_eq_true rfl⟩) (kpS_R hG (hP.subm (ws' := []) [] rfl)) rfl rfl hl.1 rfl (lv_room (Nat.le_of_ble_eq_true rfl)) dX12_allParts_17 ⟨Nat.le_of_ble_eq_true rfl, Nat.le_of_ble_eq_true rfl⟩) ?_
        refine lv_iadd hx hb dX12_allParts_20 ?_
        refine lv_istore_n (lv' := [(1, .int (x1 + z3)), (0, .ref (q 0)), (2, .int x2)]) hx hb dX12_allParts_21 rfl hl (by decide) rfl (fun ls hl => ?_)
        refine lv_iinc (v := (x2 + 1)) (lv' := [(2, .int (x2 + 1)), (1, .int (x1 + z3)), (0, .ref (q 0))]) hx hb dX12_allParts_22 hl (k := 2) rfl rfl (by decide) rfl (fun ls hl => ?_)
        refine lv_goto (tgt := 4) hx hb dX12_allParts_25 (by decide) ?_
        exact ih (x1 + z3) (x2 + 1) hf ls (lv_sub hl [2, 1, 0] rfl)
  unfold f_X12_allParts at hf
  refine lv_iconst (v := 0) hx hb dX12_allParts_0 (by decide) ?_
  refine lv_istore_n (lv' := [(1, .int (0 : Int32)), (0, .ref (q 0))]) hx hb dX12_allParts_1 rfl hl (by decide) rfl (fun ls hl => ?_)
  refine lv_iconst (v := 0) hx hb dX12_allParts_2 (by decide) ?_
  refine lv_istore_n (lv' := [(2, .int (0 : Int32)), (1, .int (0 : Int32)), (0, .ref (q 0))]) hx hb dX12_allParts_3 rfl hl (by decide) rfl (fun ls hl => ?_)
  exact w_4 FU (0 : Int32) (0 : Int32) hf ls (lv_sub hl [2, 1, 0] rfl)
set_option maxHeartbeats 4000000 in
set_option maxRecDepth 100000 in
theorem c_X12_year (l : Launch) (g : bG) (q : Nat → Nat) (v_holder : Int32) (v_games : Int32) (v_sights : Int32) (v_padMany : Int32) (v_acts : Int32) (v_nothings : Int32) (v_wholeNow : Int32) (v_badAct : Int32) (v_badWhy : Int32) (v_wholeAct : Int32) (v_wholeWho : Int32) (v_keptAt : Int32) (v_isWriting : Int32) (v_most : Nat → Int32) (v_beetle : Nat → Int32) (v_points : Nat → Int32) (v_isIn : Nat → Int32) (v_had : Nat → Int32) (x1 : Int32) (x2 : Int32) (x3 : Int32) (out : Int32 × (Nat → Int32) × (Nat → Int32) × (Nat → Int32) × Int32 × Int32 × Int32 × Int32 × (Nat → Int32)) (hf : f_X12_year v_most v_beetle v_points v_isIn v_holder v_games v_nothings v_wholeNow v_had x1 x2 x3 = some out) : Mi l g yX12_year wsX12_year ({ frames := 6, cells := 0, slots := 0, locals := 133 } : Room) [.ref (q 0), .int x1, .int x2, .int x3] [((q 0), .inr (10, oX12 q v_holder v_games v_sights v_padMany v_acts v_nothings v_wholeNow v_badAct v_badWhy v_wholeAct v_wholeWho v_keptAt v_isWriting)), ((q 1), .inl (gI g, 6, .inl v_most)), ((q 2), .inl (gI g, 6, .inl v_beetle)), ((q 3), .inl (gI g, 6, .inl v_points)), ((q 4), .inl (gI g, 6, .inl v_isIn)), ((q 10), .inl (gI g, 20, .inl v_had))] out.1 [((q 0), .inr (10, oX12 q out.2.2.2.2.1 out.2.2.2.2.2.1 v_sights v_padMany v_acts out.2.2.2.2.2.2.1 out.2.2.2.2.2.2.2.1 v_badAct v_badWhy v_wholeAct v_wholeWho v_keptAt v_isWriting)), ((q 1), .inl (gI g, 6, .inl v_most)), ((q 2), .inl (gI g, 6, .inl out.2.1)), ((q 3), .inl (gI g, 6, .inl out.2.2.1)), ((q 4), .inl (gI g, 6, .inl out.2.2.2.1)), ((q 10), .inl (gI g, 20, .inl out.2.2.2.2.2.2.2.2))] := by
  refine ofM (Qc := fun A => Qi g out.1 [((q 0), .inr (10, oX12 q out.2.2.2.2.1 out.2.2.2.2.2.1 v_sights v_padMany v_acts out.2.2.2.2.2.2.1 out.2.2.2.2.2.2.2.1 v_badAct v_badWhy v_wholeAct v_wholeWho v_keptAt v_isWriting)), ((q 1), .inl (gI g, 6, .inl v_most)), ((q 2), .inl (gI g, 6, .inl out.2.1)), ((q 3), .inl (gI g, 6, .inl out.2.2.1)), ((q 4), .inl (gI g, 6, .inl out.2.2.2.1)), ((q 10), .inl (gI g, 20, .inl out.2.2.2.2.2.2.2.2))] A) (cc := cX12_year) (nL := 6) (ret := some .int) (by decide) rfl (Nat.le_of_ble_eq_true rfl) ?_
  intro p e s m below meth c ar A hC hA hP hD hG ls hl
  have hS : va_S A s.heap s.heap [] := va_S.rf
  obtain ⟨hx, hb, hml, hown, hts, hr, hlk, -⟩ := hC
  have hl : lv_has ls 6 [(0, .ref (q 0)), (1, .int x1), (2, .int x2), (3, .int x3)] := hl
  have hK := hG.1
  have iX12 : ∀ w ∈ u_ws RX12 TX12 30, w ∈ wsX12_year := fun w h => List.mem_cons_of_mem _ (List.mem_append_right _ (h))
  generalize hQ : MQ below (Qi g out.1 [((q 0), .inr (10, oX12 q out.2.2.2.2.1 out.2.2.2.2.2.1 v_sights v_padMany v_acts out.2.2.2.2.2.2.1 out.2.2.2.2.2.2.2.1 v_badAct v_badWhy v_wholeAct v_wholeWho v_keptAt v_isWriting)), ((q 1), .inl (gI g, 6, .inl v_most)), ((q 2), .inl (gI g, 6, .inl out.2.1)), ((q 3), .inl (gI g, 6, .inl out.2.2.1)), ((q 4), .inl (gI g, 6, .inl out.2.2.2.1)), ((q 10), .inl (gI g, 20, .inl out.2.2.2.2.2.2.2.2))] A) ar s 0 0 A = QQ
  have w_49 : ∀ n : Nat, ∀ (x2 : Int32) (x3 : Int32) (x4 : Int32) (x5 : Int32) (v_beetle : Nat → Int32) (v_points : Nat → Int32) (v_isIn : Nat → Int32) (v_holder : Int32) (v_games : Int32) (v_nothings : Int32) (v_wholeNow : Int32) (v_had : Nat → Int32), f_X12_year_b49 v_most n x2 x3 x4 x5 v_beetle v_points v_isIn v_holder v_games v_nothings v_wholeNow v_had = some out → ∀ (H : Heap) (locs : List Loc), va_P (gD g) vwCl [((q 0), .inr (10, oX12 q v_holder v_games v_sights v_padMany v_acts v_nothings v_wholeNow v_badAct v_badWhy v_wholeAct v_wholeWho v_keptAt v_isWriting)), ((q 1), .inl (gI g, 6, .inl v_most)), ((q 2), .inl (gI g, 6, .inl v_beetle)), ((q 3), .inl (gI g, 6, .inl v_points)), ((q 4), .inl (gI g, 6, .inl v_isIn)), ((q 10), .inl (gI g, 20, .inl v_had))] H → va_D A [((q 0), .inr (10, oX12 q v_holder v_games v_sights v_padMany v_acts v_nothings v_wholeNow v_badAct v_badWhy v_wholeAct v_wholeWho v_keptAt v_isWriting)), ((q 1), .inl (gI g, 6, .inl v_most)), ((q 2), .inl (gI g, 6, .inl v_beetle)), ((q 3), .inl (gI g, 6, .inl v_points)), ((q 4), .inl (gI g, 6, .inl v_isIn)), ((q 10), .inl (gI g, 20, .inl v_had))] → va_S A s.heap H locs → ∀ ls : Array Slot, lv_has ls 6 [(0, .ref (q 0)), (2, .int x2), (3, .int x3), (4, .int x4), (5, .int x5)] → W p l e ({ frames := 6, cells := 0, slots := 0, locals := 133 } : Room) s m ar below meth c H locs 0 0 QQ (F0 m 49 ls []) := by
    intro n
    induction n with
    | zero =>
      intro x2 x3 x4 x5 v_beetle v_points v_isIn v_holder v_games v_nothings v_wholeNow v_had hf
      rw [f_X12_year_b49_z] at hf
      cases hf
    | succ n ih =>
      intro x2 x3 x4 x5 v_beetle v_points v_isIn v_holder v_games v_nothings v_wholeNow v_had hf H locs hP hD hS ls hl
      rw [f_X12_year_b49_s] at hf
      refine lv_iload hx hb dX12_year_49 (lv_at hl 4 rfl) ?_
      refine lv_iload_n hx hb dX12_year_51 rfl (lv_at hl 1 rfl) ?_
      refine lv_icmp_ge (tgt := 93) hx hb dX12_year_52 (by decide) (fun c12 => ?_) (fun c12 => ?_)
      · replace hf := ift c12 hf
        refine lv_aload_n hx hb dX12_year_93 rfl (lv_at hl 0 rfl) ?_
        refine lv_iload_n hx hb dX12_year_94 rfl (lv_at hl 2 rfl) ?_
        refine lv_if_ne (tgt := 105) hx hb dX12_year_95 (by decide) (fun c13 => ?_) (fun c13 => ?_)
        · replace hf := iff_ c13 hf
          refine lv_iload_n hx hb dX12_year_105 rfl (lv_at hl 2 rfl) ?_
          refine lv_iconst (v := 1) hx hb dX12_year_106 (by decide) ?_
          refine lv_icmp_ne (tgt := 117) hx hb dX12_year_107 (by decide) (fun c14 => ?_) (fun c14 => ?_)
          · replace hf := iff_ c14 hf
            refine lv_aload_n hx hb dX12_year_117 rfl (lv_at hl 0 rfl) ?_
            refine va_get (D := gD g) (ci := 10) (v := .ref (q 3)) (C := RX12) (T := TX12) (N := 30) hx hb hts iX12 hown hK hP 0 rfl rfl 2 (by decide) (hts (.fieldLink RX12 16 "BeetleDriveModel" "points" "[I") (List.mem_of_getElem? (i := 8) rfl)) (fun _ h9 => h9) rfl dX12_year_118 ?_
            refine lv_iconst (v := 0) hx hb dX12_year_121 (by decide) ?_
            obtain ⟨hi15, hf⟩ := chk_some hf
            refine va_iald hx hb hK hP 3 0 rfl rfl hi15 dX12_year_122 ?_
            obtain ⟨z16, hq17, hf⟩ := bnd_some hf
            refine kM_i (wc := [((q 0), .inr (10, oX12 q v_holder v_games v_sights v_padMany v_acts v_nothings v_wholeNow v_badAct v_badWhy v_wholeAct v_wholeWho v_keptAt v_isWriting)), ((q 2), .inl (gI g, 6, .inl v_beetle)), ((q 3), .inl (gI g, 6, .inl v_points)), ((q 4), .inl (gI g, 6, .inl v_isIn)), ((q 10), .inl (gI g, 20, .inl v_had))]) (wr := [((q 1), .inl (gI g, 6, .inl v_most))]) (w1 := [((q 0), .inr (10, oX12 q z16.2.2.2.2.1 z16.2.2.2.2.2 v_sights v_padMany v_acts v_nothings v_wholeNow v_badAct v_badWhy v_wholeAct v_wholeWho v_keptAt v_isWriting)), ((q 2), .inl (gI g, 6, .inl z16.2.1)), ((q 3), .inl (gI g, 6, .inl z16.2.2.1)), ((q 4), .inl (gI g, 6, .inl z16.2.2.2.1)), ((q 10), .inl (gI g, 20, .inl v_had))]) (w2 := [((q 0), .inr (10, oX12 q z16.2.2.2.2.1 z16.2.2.2.2.2 v_sights v_padMany v_acts v_nothings v_wholeNow v_badAct v_badWhy v_wholeAct v_wholeWho v_keptAt v_isWriting)), ((q 1), .inl (gI g, 6, .inl v_most)), ((q 2), .inl (gI g, 6, .inl z16.2.1)), ((q 3), .inl (gI g, 6, .inl z16.2.2.1)), ((q 4), .inl (gI g, 6, .inl z16.2.2.2.1)), ((q 10), .inl (gI g, 20, .inl v_had))]) (va_runV (As := [.int (v_points (Int32.toNatClampNeg (0 : Int32)))]) (rest := []) ⟨hx, hb, hml, hown, hts⟩ (c_X12_back l g q v_holder v_games v_sights v_padMany v_acts v_nothings v_wholeNow v_badAct v_badWhy v_wholeAct v_wholeWho v_keptAt v_isWriting v_beetle v_points v_isIn v_had (v_points (Int32.toNatClampNeg (0 : Int32))) z16 hq17 H.size) (cwV 1 hts gX12_year_X12_back rfl rfl rfl (by decide +kernel) ⟨Nat.le_of_ble_eq_true rfl, Nat.le_of_ble_eq_true rfl⟩) (kpV_M (q0 := 0) (ci := 10) hG hS hP hD hA [0, 2, 3, 4, 5] rfl (by decide) rfl rfl) rfl rfl hl.1 rfl (lv_room (Nat.le_of_ble_eq_true rfl)) dX12_year_123 ⟨Nat.le_of_ble_eq_true rfl, Nat.le_of_ble_eq_true rfl⟩) hP hD hS hA [0, 2, 3, 4, 5] [1] [1, 0, 2, 3, 4, 5] rfl rfl (by decide) (by decide) rfl (by decide) (fun H locs hP hD hS => ?_)
            rw [← hQ, ← Option.some.inj hf]
            exact eM_i hx hb hr hlk hP hD hS rfl dX12_year_126
          · replace hf := ift c14 hf
            refine lv_aload_n hx hb dX12_year_110 rfl (lv_at hl 0 rfl) ?_
            obtain ⟨z18, hq19, hf⟩ := bnd_some hf
            refine kR_i (va_runV (As := []) (rest := [.ref (q 0)]) ⟨hx, hb, hml, hown, hts⟩ (c_X12_allParts l g q v_holder v_games v_sights v_padMany v_acts v_nothings v_wholeNow v_badAct v_badWhy v_wholeAct v_wholeWho v_keptAt v_isWriting v_beetle z18 hq19) (cwV 0 hts gX12_year_X12_allParts rfl rfl rfl (by decide +kernel) ⟨Nat.le_of_ble_eq_true rfl, Nat.le_of_ble_eq_true rfl⟩) (kpV_R (q0 := 0) (ci := 10) (hG.now hS) (hP.subm (ws' := [((q 0), .inr (10, oX12 q v_holder v_games v_sights v_padMany v_acts v_nothings v_wholeNow v_badAct v_badWhy v_wholeAct v_wholeWho v_keptAt v_isWriting)), ((q 2), .inl (gI g, 6, .inl v_beetle))]) [0, 2] rfl) rfl rfl) rfl rfl hl.1 rfl (lv_room (Nat.le_of_ble_eq_true rfl)) dX12_year_111 ⟨Nat.le_of_ble_eq_true rfl, Nat.le_of_ble_eq_true rfl⟩) ?_
            refine lv_goto (tgt := 123) hx hb dX12_year_114 (by decide) ?_
            obtain ⟨z20, hq21, hf⟩ := bnd_some hf
            refine kM_i (wc := [((q 0), .inr (10, oX12 q v_holder v_games v_sights v_padMany v_acts v_nothings v_wholeNow v_badAct v_badWhy v_wholeAct v_wholeWho v_keptAt v_isWriting)), ((q 2), .inl (gI g, 6, .inl v_beetle)), ((q 3), .inl (gI g, 6, .inl v_points)), ((q 4), .inl (gI g, 6, .inl v_isIn)), ((q 10), .inl (gI g, 20, .inl v_had))]) (wr := [((q 1), .inl (gI g, 6, .inl v_most))]) (w1 := [((q 0), .inr (10, oX12 q z20.2.2.2.2.1 z20.2.2.2.2.2 v_sights v_padMany v_acts v_nothings v_wholeNow v_badAct v_badWhy v_wholeAct v_wholeWho v_keptAt v_isWriting)), ((q 2), .inl (gI g, 6, .inl z20.2.1)), ((q 3), .inl (gI g, 6, .inl z20.2.2.1)), ((q 4), .inl (gI g, 6, .inl z20.2.2.2.1)), ((q 10), .inl (gI g, 20, .inl v_had))]) (w2 := [((q 0), .inr (10, oX12 q z20.2.2.2.2.1 z20.2.2.2.2.2 v_sights v_padMany v_acts v_nothings v_wholeNow v_badAct v_badWhy v_wholeAct v_wholeWho v_keptAt v_isWriting)), ((q 1), .inl (gI g, 6, .inl v_most)), ((q 2), .inl (gI g, 6, .inl z20.2.1)), ((q 3), .inl (gI g, 6, .inl z20.2.2.1)), ((q 4), .inl (gI g, 6, .inl z20.2.2.2.1)), ((q 10), .inl (gI g, 20, .inl v_had))]) (va_runV (As := [.int z18]) (rest := []) ⟨hx, hb, hml, hown, hts⟩ (c_X12_back l g q v_holder v_games v_sights v_padMany v_acts v_nothings v_wholeNow v_badAct v_badWhy v_wholeAct v_wholeWho v_keptAt v_isWriting v_beetle v_points v_isIn v_had z18 z20 hq21 H.size) (cwV 1 hts gX12_year_X12_back rfl rfl rfl (by decide +kernel) ⟨Nat.le_of_ble_eq_true rfl, Nat.le_of_ble_eq_true rfl⟩) (kpV_M (q0 := 0) (ci := 10) hG hS hP hD hA [0, 2, 3, 4, 5] rfl (by decide) rfl rfl) rfl rfl hl.1 rfl (lv_room (Nat.le_of_ble_eq_true rfl)) dX12_year_123 ⟨Nat.le_of_ble_eq_true rfl, Nat.le_of_ble_eq_true rfl⟩) hP hD hS hA [0, 2, 3, 4, 5] [1] [1, 0, 2, 3, 4, 5] rfl rfl (by decide) (by decide) rfl (by decide) (fun H locs hP hD hS => ?_)
            rw [← hQ, ← Option.some.inj hf]
            exact eM_i hx hb hr hlk hP hD hS rfl dX12_year_126
        · replace hf := ift c13 hf
          refine lv_aload_n hx hb dX12_year_98 rfl (lv_at hl 0 rfl) ?_
          refine va_get (D := gD g) (ci := 10) (v := .int v_holder) (C := RX12) (T := TX12) (N := 30) hx hb hts iX12 hown hK hP 0 rfl rfl 4 (by decide) (hts (.fieldLink RX12 91 "BeetleDriveModel" "holder" "I") (List.mem_of_getElem? (i := 7) rfl)) (fun _ h9 => h9) rfl dX12_year_99 ?_
          refine lv_goto (tgt := 123) hx hb dX12_year_102 (by decide) ?_
          obtain ⟨z22, hq23, hf⟩ := bnd_some hf
          refine kM_i (wc := [((q 0), .inr (10, oX12 q v_holder v_games v_sights v_padMany v_acts v_nothings v_wholeNow v_badAct v_badWhy v_wholeAct v_wholeWho v_keptAt v_isWriting)), ((q 2), .inl (gI g, 6, .inl v_beetle)), ((q 3), .inl (gI g, 6, .inl v_points)), ((q 4), .inl (gI g, 6, .inl v_isIn)), ((q 10), .inl (gI g, 20, .inl v_had))]) (wr := [((q 1), .inl (gI g, 6, .inl v_most))]) (w1 := [((q 0), .inr (10, oX12 q z22.2.2.2.2.1 z22.2.2.2.2.2 v_sights v_padMany v_acts v_nothings v_wholeNow v_badAct v_badWhy v_wholeAct v_wholeWho v_keptAt v_isWriting)), ((q 2), .inl (gI g, 6, .inl z22.2.1)), ((q 3), .inl (gI g, 6, .inl z22.2.2.1)), ((q 4), .inl (gI g, 6, .inl z22.2.2.2.1)), ((q 10), .inl (gI g, 20, .inl v_had))]) (w2 := [((q 0), .inr (10, oX12 q z22.2.2.2.2.1 z22.2.2.2.2.2 v_sights v_padMany v_acts v_nothings v_wholeNow v_badAct v_badWhy v_wholeAct v_wholeWho v_keptAt v_isWriting)), ((q 1), .inl (gI g, 6, .inl v_most)), ((q 2), .inl (gI g, 6, .inl z22.2.1)), ((q 3), .inl (gI g, 6, .inl z22.2.2.1)), ((q 4), .inl (gI g, 6, .inl z22.2.2.2.1)), ((q 10), .inl (gI g, 20, .inl v_had))]) (va_runV (As := [.int v_holder]) (rest := []) ⟨hx, hb, hml, hown, hts⟩ (c_X12_back l g q v_holder v_games v_sights v_padMany v_acts v_nothings v_wholeNow v_badAct v_badWhy v_wholeAct v_wholeWho v_keptAt v_isWriting v_beetle v_points v_isIn v_had v_holder z22 hq23 H.size) (cwV 1 hts gX12_year_X12_back rfl rfl rfl (by decide +kernel) ⟨Nat.le_of_ble_eq_true rfl, Nat.le_of_ble_eq_true rfl⟩) (kpV_M (q0 := 0) (ci := 10) hG hS hP hD hA [0, 2, 3, 4, 5] rfl (by decide) rfl rfl) rfl rfl hl.1 rfl (lv_room (Nat.le_of_ble_eq_true rfl)) dX12_year_123 ⟨Nat.le_of_ble_eq_true rfl, Nat.le_of_ble_eq_true rfl⟩) hP hD hS hA [0, 2, 3, 4, 5] [1] [1, 0, 2, 3, 4, 5] rfl rfl (by decide) (by decide) rfl (by decide) (fun H locs hP hD hS => ?_)
          rw [← hQ, ← Option.some.inj hf]
          exact eM_i hx hb hr hlk hP hD hS rfl dX12_year_126
      · replace hf := iff_ c12 hf
        refine lv_ldc2 (v := 75) hx hb hown (hts (.constantLong RX12 283 (75)) (List.mem_of_getElem? (i := 4) rfl)) dX12_year_55 ?_
        refine lv_iload hx hb dX12_year_58 (lv_at hl 3 rfl) ?_
        refine lv_i2l (v := (Int32.toInt64 x4)) hx hb dX12_year_60 rfl ?_
        refine lv_lmul hx hb dX12_year_61 ?_
        refine lv_ldc2 (v := 74) hx hb hown (hts (.constantLong RX12 285 (74)) (List.mem_of_getElem? (i := 5) rfl)) dX12_year_62 ?_
        refine lv_ladd hx hb dX12_year_65 ?_
        refine lv_ldc2 (v := 65537) hx hb hown (hts (.constantLong RX12 287 (65537)) (List.mem_of_getElem? (i := 6) rfl)) dX12_year_66 ?_
        refine lv_lrem hx hb dX12_year_69 (by decide) ?_
        refine lv_l2i (v := (Int64.toInt32 ((((75 : Int64) * (Int32.toInt64 x4)) + (74 : Int64)) - (((75 : Int64) * (Int32.toInt64 x4)) + (74 : Int64)) / (65537 : Int64) * (65537 : Int64)))) hx hb dX12_year_70 rfl ?_
        refine lv_istore (lv' := [(4, .int (Int64.toInt32 ((((75 : Int64) * (Int32.toInt64 x4)) + (74 : Int64)) - (((75 : Int64) * (Int32.toInt64 x4)) + (74 : Int64)) / (65537 : Int64) * (65537 : Int64)))), (0, .ref (q 0)), (2, .int x2), (3, .int x3), (5, .int x5)]) hx hb dX12_year_71 hl (by decide) rfl (fun ls hl => ?_)
        refine lv_aload_n hx hb dX12_year_73 rfl (lv_at hl 1 rfl) ?_
        refine lv_iload hx hb dX12_year_74 (lv_at hl 0 rfl) ?_
        refine lv_bipush (v := 8) hx hb dX12_year_76 (by decide) ?_
        refine lv_irem hx hb dX12_year_78 (by decide) ?_
        refine lv_iload hx hb dX12_year_79 (lv_at hl 0 rfl) ?_
        refine lv_bipush (v := 8) hx hb dX12_year_81 (by decide) ?_
        refine lv_idiv hx hb dX12_year_83 (by decide) ?_
        obtain ⟨z24, hq25, hf⟩ := bnd_some hf
        refine kM_v (wc := [((q 0), .inr (10, oX12 q v_holder v_games v_sights v_padMany v_acts v_nothings v_wholeNow v_badAct v_badWhy v_wholeAct v_wholeWho v_keptAt v_isWriting)), ((q 1), .inl (gI g, 6, .inl v_most)), ((q 2), .inl (gI g, 6, .inl v_beetle)), ((q 3), .inl (gI g, 6, .inl v_points)), ((q 4), .inl (gI g, 6, .inl v_isIn))]) (wr := [((q 10), .inl (gI g, 20, .inl v_had))]) (w1 := [((q 0), .inr (10, oX12 q z24.2.2.2.1 z24.2.2.2.2.1 v_sights v_padMany v_acts z24.2.2.2.2.2.1 z24.2.2.2.2.2.2 v_badAct v_badWhy v_wholeAct v_wholeWho v_keptAt v_isWriting)), ((q 1), .inl (gI g, 6, .inl v_most)), ((q 2), .inl (gI g, 6, .inl z24.1)), ((q 3), .inl (gI g, 6, .inl z24.2.1)), ((q 4), .inl (gI g, 6, .inl z24.2.2.1))]) (w2 := [((q 0), .inr (10, oX12 q z24.2.2.2.1 z24.2.2.2.2.1 v_sights v_padMany v_acts z24.2.2.2.2.2.1 z24.2.2.2.2.2.2 v_badAct v_badWhy v_wholeAct v_wholeWho v_keptAt v_isWriting)), ((q 1), .inl (gI g, 6, .inl v_most)), ((q 2), .inl (gI g, 6, .inl z24.1)), ((q 3), .inl (gI g, 6, .inl z24.2.1)), ((q 4), .inl (gI g, 6, .inl z24.2.2.1)), ((q 10), .inl (gI g, 20, .inl v_had))]) (va_runV (As := [.int ((Int64.toInt32 ((((75 : Int64) * (Int32.toInt64 x4)) + (74 : Int64)) - (((75 : Int64) * (Int32.toInt64 x4)) + (74 : Int64)) / (65537 : Int64) * (65537 : Int64))) - (Int64.toInt32 ((((75 : Int64) * (Int32.toInt64 x4)) + (74 : Int64)) - (((75 : Int64) * (Int32.toInt64 x4)) + (74 : Int64)) / (65537 : Int64) * (65537 : Int64))) / (8 : Int32) * (8 : Int32)), .int ((Int64.toInt32 ((((75 : Int64) * (Int32.toInt64 x4)) + (74 : Int64)) - (((75 : Int64) * (Int32.toInt64 x4)) + (74 : Int64)) / (65537 : Int64) * (65537 : Int64))) / (8 : Int32))]) (rest := []) ⟨hx, hb, hml, hown, hts⟩ (c_X12_drawn l g q v_holder v_games v_sights v_padMany v_acts v_nothings v_wholeNow v_badAct v_badWhy v_wholeAct v_wholeWho v_keptAt v_isWriting v_most v_beetle v_points v_isIn ((Int64.toInt32 ((((75 : Int64) * (Int32.toInt64 x4)) + (74 : Int64)) - (((75 : Int64) * (Int32.toInt64 x4)) + (74 : Int64)) / (65537 : Int64) * (65537 : Int64))) - (Int64.toInt32 ((((75 : Int64) * (Int32.toInt64 x4)) + (74 : Int64)) - (((75 : Int64) * (Int32.toInt64 x4)) + (74 : Int64)) / (65537 : Int64) * (65537 : Int64))) / (8 : Int32) * (8 : Int32)) ((Int64.toInt32 ((((75 : Int64) * (Int32.toInt64 x4)) + (74 : Int64)) - (((75 : Int64) * (Int32.toInt64 x4)) + (74 : Int64)) / (65537 : Int64) * (65537 : Int64))) / (8 : Int32)) z24 hq25 H.size) (cwV 2 hts gX12_year_X12_drawn rfl rfl rfl (by decide +kernel) ⟨Nat.le_of_ble_eq_true rfl, Nat.le_of_ble_eq_true rfl⟩) (kpV_M (q0 := 0) (ci := 10) hG hS hP hD hA [0, 1, 2, 3, 4] rfl (by decide) rfl rfl) rfl rfl hl.1 rfl (lv_room (Nat.le_of_ble_eq_true rfl)) dX12_year_84 ⟨Nat.le_of_ble_eq_true rfl, Nat.le_of_ble_eq_true rfl⟩) hP hD hS hA [0, 1, 2, 3, 4] [5] [1, 2, 3, 4, 5, 0] rfl rfl (by decide) (by decide) rfl (by decide) (fun H locs hP hD hS => ?_)
        refine lv_iinc (v := (x5 + 1)) (lv' := [(5, .int (x5 + 1)), (4, .int (Int64.toInt32 ((((75 : Int64) * (Int32.toInt64 x4)) + (74 : Int64)) - (((75 : Int64) * (Int32.toInt64 x4)) + (74 : Int64)) / (65537 : Int64) * (65537 : Int64)))), (0, .ref (q 0)), (2, .int x2), (3, .int x3)]) hx hb dX12_year_87 hl (k := 4) rfl rfl (by decide) rfl (fun ls hl => ?_)
        refine lv_goto (tgt := 49) hx hb dX12_year_90 (by decide) ?_
        exact ih x2 x3 (Int64.toInt32 ((((75 : Int64) * (Int32.toInt64 x4)) + (74 : Int64)) - (((75 : Int64) * (Int32.toInt64 x4)) + (74 : Int64)) / (65537 : Int64) * (65537 : Int64))) (x5 + 1) z24.1 z24.2.1 z24.2.2.1 z24.2.2.2.1 z24.2.2.2.2.1 z24.2.2.2.2.2.1 z24.2.2.2.2.2.2 v_had hf H locs hP hD hS ls (lv_sub hl [2, 3, 4, 1, 0] rfl)
  unfold f_X12_year at hf
  refine lv_iload_n hx hb dX12_year_0 rfl (lv_at hl 1 rfl) ?_
  refine lv_i2l (v := (Int32.toInt64 x1)) hx hb dX12_year_1 rfl ?_
  refine lv_lconst (v := 0) hx hb dX12_year_2 (by decide) ?_
  refine lv_ldc2 (v := 9999) hx hb hown (hts (.constantLong RX12 281 (9999)) (List.mem_of_getElem? (i := 1) rfl)) dX12_year_3 ?_
  obtain ⟨z1, hq2, hf⟩ := bnd_some hf
  refine kR_i (va_runS (As := [.long (Int32.toInt64 x1), .long (0 : Int64), .long (9999 : Int64)]) (rest := []) ⟨hx, hb, hml, hown, hts⟩ (c_X12_in l g (Int32.toInt64 x1) (0 : Int64) (9999 : Int64) z1 hq2) (va_cwS 3 hts gX12_year_X12_in rfl rfl rfl (by decide +kernel) ⟨Nat.le_of_ble_eq_true rfl, Nat.le_of_ble_eq_true rfl⟩) (kpS_R (hG.now hS) (hP.subm (ws' := []) [] rfl)) rfl rfl hl.1 rfl (lv_room (Nat.le_of_ble_eq_true rfl)) dX12_year_6 ⟨Nat.le_of_ble_eq_true rfl, Nat.le_of_ble_eq_true rfl⟩) ?_
  refine lv_if_eq (tgt := 36) hx hb dX12_year_9 (by decide) (fun c3 => ?_) (fun c3 => ?_)
  · replace hf := ift c3 hf
    refine lv_bipush (v := -2) hx hb dX12_year_36 (by decide) ?_
    rw [← hQ, ← Option.some.inj hf]
    exact eM_i hx hb hr hlk hP hD hS rfl dX12_year_38
  · replace hf := iff_ c3 hf
    refine lv_iload_n hx hb dX12_year_12 rfl (lv_at hl 2 rfl) ?_
    refine lv_i2l (v := (Int32.toInt64 x2)) hx hb dX12_year_13 rfl ?_
    refine lv_lconst (v := 1) hx hb dX12_year_14 (by decide) ?_
    refine lv_ldc2 (v := 99) hx hb hown (hts (.constantLong RX12 240 (99)) (List.mem_of_getElem? (i := 2) rfl)) dX12_year_15 ?_
    obtain ⟨z4, hq5, hf⟩ := bnd_some hf
    refine kR_i (va_runS (As := [.long (Int32.toInt64 x2), .long (1 : Int64), .long (99 : Int64)]) (rest := []) ⟨hx, hb, hml, hown, hts⟩ (c_X12_in l g (Int32.toInt64 x2) (1 : Int64) (99 : Int64) z4 hq5) (va_cwS 3 hts gX12_year_X12_in rfl rfl rfl (by decide +kernel) ⟨Nat.le_of_ble_eq_true rfl, Nat.le_of_ble_eq_true rfl⟩) (kpS_R (hG.now hS) (hP.subm (ws' := []) [] rfl)) rfl rfl hl.1 rfl (lv_room (Nat.le_of_ble_eq_true rfl)) dX12_year_18 ⟨Nat.le_of_ble_eq_true rfl, Nat.le_of_ble_eq_true rfl⟩) ?_
    refine lv_if_eq (tgt := 36) hx hb dX12_year_21 (by decide) (fun c6 => ?_) (fun c6 => ?_)
    · replace hf := ift c6 hf
      refine lv_bipush (v := -2) hx hb dX12_year_36 (by decide) ?_
      rw [← hQ, ← Option.some.inj hf]
      exact eM_i hx hb hr hlk hP hD hS rfl dX12_year_38
    · replace hf := iff_ c6 hf
      refine lv_iload_n hx hb dX12_year_24 rfl (lv_at hl 3 rfl) ?_
      refine lv_i2l (v := (Int32.toInt64 x3)) hx hb dX12_year_25 rfl ?_
      refine lv_lconst (v := 0) hx hb dX12_year_26 (by decide) ?_
      refine lv_ldc2 (v := 2) hx hb hown (hts (.constantLong RX12 193 (2)) (List.mem_of_getElem? (i := 3) rfl)) dX12_year_27 ?_
      obtain ⟨z7, hq8, hf⟩ := bnd_some hf
      refine kR_i (va_runS (As := [.long (Int32.toInt64 x3), .long (0 : Int64), .long (2 : Int64)]) (rest := []) ⟨hx, hb, hml, hown, hts⟩ (c_X12_in l g (Int32.toInt64 x3) (0 : Int64) (2 : Int64) z7 hq8) (va_cwS 3 hts gX12_year_X12_in rfl rfl rfl (by decide +kernel) ⟨Nat.le_of_ble_eq_true rfl, Nat.le_of_ble_eq_true rfl⟩) (kpS_R (hG.now hS) (hP.subm (ws' := []) [] rfl)) rfl rfl hl.1 rfl (lv_room (Nat.le_of_ble_eq_true rfl)) dX12_year_30 ⟨Nat.le_of_ble_eq_true rfl, Nat.le_of_ble_eq_true rfl⟩) ?_
      refine lv_if_ne (tgt := 39) hx hb dX12_year_33 (by decide) (fun c9 => ?_) (fun c9 => ?_)
      · replace hf := iff_ c9 hf
        refine lv_aload_n hx hb dX12_year_39 rfl (lv_at hl 0 rfl) ?_
        obtain ⟨z10, hq11, hf⟩ := bnd_some hf
        refine kM_v (wc := [((q 0), .inr (10, oX12 q v_holder v_games v_sights v_padMany v_acts v_nothings v_wholeNow v_badAct v_badWhy v_wholeAct v_wholeWho v_keptAt v_isWriting)), ((q 2), .inl (gI g, 6, .inl v_beetle)), ((q 3), .inl (gI g, 6, .inl v_points)), ((q 4), .inl (gI g, 6, .inl v_isIn)), ((q 10), .inl (gI g, 20, .inl v_had))]) (wr := [((q 1), .inl (gI g, 6, .inl v_most))]) (w1 := [((q 0), .inr (10, oX12 q v_holder v_games v_sights v_padMany v_acts v_nothings v_wholeNow v_badAct v_badWhy v_wholeAct v_wholeWho v_keptAt v_isWriting)), ((q 2), .inl (gI g, 6, .inl v_beetle)), ((q 3), .inl (gI g, 6, .inl v_points)), ((q 4), .inl (gI g, 6, .inl v_isIn)), ((q 10), .inl (gI g, 20, .inl z10))]) (w2 := [((q 0), .inr (10, oX12 q v_holder v_games v_sights v_padMany v_acts v_nothings v_wholeNow v_badAct v_badWhy v_wholeAct v_wholeWho v_keptAt v_isWriting)), ((q 1), .inl (gI g, 6, .inl v_most)), ((q 2), .inl (gI g, 6, .inl v_beetle)), ((q 3), .inl (gI g, 6, .inl v_points)), ((q 4), .inl (gI g, 6, .inl v_isIn)), ((q 10), .inl (gI g, 20, .inl z10))]) (va_runV (As := []) (rest := []) ⟨hx, hb, hml, hown, hts⟩ (c_X12_keepNow l g q v_holder v_games v_sights v_padMany v_acts v_nothings v_wholeNow v_badAct v_badWhy v_wholeAct v_wholeWho v_keptAt v_isWriting v_beetle v_points v_isIn v_had z10 hq11 s.heap.size) (cwV 0 hts gX12_year_X12_keepNow rfl rfl rfl (by decide +kernel) ⟨Nat.le_of_ble_eq_true rfl, Nat.le_of_ble_eq_true rfl⟩) (kpV_M (q0 := 0) (ci := 10) hG hS hP hD hA [0, 2, 3, 4, 5] rfl (by decide) rfl rfl) rfl rfl hl.1 rfl (lv_room (Nat.le_of_ble_eq_true rfl)) dX12_year_40 ⟨Nat.le_of_ble_eq_true rfl, Nat.le_of_ble_eq_true rfl⟩) hP hD hS hA [0, 2, 3, 4, 5] [1] [1, 0, 2, 3, 4, 5] rfl rfl (by decide) (by decide) rfl (by decide) (fun H locs hP hD hS => ?_)
        refine lv_iload_n hx hb dX12_year_43 rfl (lv_at hl 1 rfl) ?_
        refine lv_istore (lv' := [(4, .int x1), (0, .ref (q 0)), (1, .int x1), (2, .int x2), (3, .int x3)]) hx hb dX12_year_44 hl (by decide) rfl (fun ls hl => ?_)
        refine lv_iconst (v := 0) hx hb dX12_year_46 (by decide) ?_
        refine lv_istore (lv' := [(5, .int (0 : Int32)), (4, .int x1), (0, .ref (q 0)), (1, .int x1), (2, .int x2), (3, .int x3)]) hx hb dX12_year_47 hl (by decide) rfl (fun ls hl => ?_)
        exact w_49 FU x2 x3 x1 (0 : Int32) v_beetle v_points v_isIn v_holder v_games v_nothings v_wholeNow z10 hf H locs hP hD hS ls (lv_sub hl [2, 4, 5, 1, 0] rfl)
      · replace hf := ift c9 hf
        refine lv_bipush (v := -2) hx hb dX12_year_36 (by decide) ?_
        rw [← hQ, ← Option.some.inj hf]
        exact eM_i hx hb hr hlk hP hD hS rfl dX12_year_38
set_option maxHeartbeats 4000000 in
set_option maxRecDepth 100000 in
theorem c_X12_pass (l : Launch) (g : bG) (q : Nat → Nat) (v_holder : Int32) (v_games : Int32) (v_sights : Int32) (v_padMany : Int32) (v_acts : Int32) (v_nothings : Int32) (v_wholeNow : Int32) (v_badAct : Int32) (v_badWhy : Int32) (v_wholeAct : Int32) (v_wholeWho : Int32) (v_keptAt : Int32) (v_isWriting : Int32) (v_kept : Nat → Int32) (x1 : Int32) (out : Int32 × (Nat → Int32) × Int32) (hf : f_X12_pass v_kept v_keptAt v_isWriting x1 = some out) : Mi l g yX12_pass wsX12_pass ({ frames := 0, cells := 0, slots := 0, locals := 0 } : Room) [.ref (q 0), .int x1] [((q 0), .inr (10, oX12 q v_holder v_games v_sights v_padMany v_acts v_nothings v_wholeNow v_badAct v_badWhy v_wholeAct v_wholeWho v_keptAt v_isWriting)), ((q 16), .inl (gI g, 160, .inl v_kept))] out.1 [((q 0), .inr (10, oX12 q v_holder v_games v_sights v_padMany v_acts v_nothings v_wholeNow v_badAct v_badWhy v_wholeAct v_wholeWho out.2.2 v_isWriting)), ((q 16), .inl (gI g, 160, .inl out.2.1))] := by
  refine ofM (Qc := fun A => Qi g out.1 [((q 0), .inr (10, oX12 q v_holder v_games v_sights v_padMany v_acts v_nothings v_wholeNow v_badAct v_badWhy v_wholeAct v_wholeWho out.2.2 v_isWriting)), ((q 16), .inl (gI g, 160, .inl out.2.1))] A) (cc := cX12_pass) (nL := 3) (ret := some .int) (by decide) rfl (Nat.le_of_ble_eq_true rfl) ?_
  intro p e s m below meth c ar A hC hA hP hD hG ls hl
  have hS : va_S A s.heap s.heap [] := va_S.rf
  obtain ⟨hx, hb, hml, hown, hts, hr, hlk, -⟩ := hC
  have hl : lv_has ls 3 [(0, .ref (q 0)), (1, .int x1)] := hl
  have hK := hG.1
  have iX12 : ∀ w ∈ u_ws RX12 TX12 30, w ∈ wsX12_pass := fun w h => List.mem_cons_of_mem _ (List.mem_append_right _ (h))
  generalize hQ : MQ below (Qi g out.1 [((q 0), .inr (10, oX12 q v_holder v_games v_sights v_padMany v_acts v_nothings v_wholeNow v_badAct v_badWhy v_wholeAct v_wholeWho out.2.2 v_isWriting)), ((q 16), .inl (gI g, 160, .inl out.2.1))] A) ar s 0 0 A = QQ
  have w_20 : ∀ (y0 : Int32) (v_kept : Nat → Int32) (v_keptAt : Int32), f_X12_pass_b20 v_isWriting y0 v_kept v_keptAt = some out → ∀ (H : Heap) (locs : List Loc), va_P (gD g) vwCl [((q 0), .inr (10, oX12 q v_holder v_games v_sights v_padMany v_acts v_nothings v_wholeNow v_badAct v_badWhy v_wholeAct v_wholeWho v_keptAt v_isWriting)), ((q 16), .inl (gI g, 160, .inl v_kept))] H → va_D A [((q 0), .inr (10, oX12 q v_holder v_games v_sights v_padMany v_acts v_nothings v_wholeNow v_badAct v_badWhy v_wholeAct v_wholeWho v_keptAt v_isWriting)), ((q 16), .inl (gI g, 160, .inl v_kept))] → va_S A s.heap H locs → ∀ ls : Array Slot, lv_has ls 3 [(0, .ref (q 0))] → W p l e ({ frames := 0, cells := 0, slots := 0, locals := 0 } : Room) s m ar below meth c H locs 0 0 QQ (F0 m 20 ls [.int y0]) := by
    intro y0 v_kept v_keptAt hf H locs hP hD hS ls hl
    unfold f_X12_pass_b20 at hf
    refine lv_istore_n (lv' := [(2, .int y0), (0, .ref (q 0))]) hx hb dX12_pass_20 rfl hl (by decide) rfl (fun ls hl => ?_)
    refine lv_aload_n hx hb dX12_pass_21 rfl (lv_at hl 1 rfl) ?_
    refine va_get (D := gD g) (ci := 10) (v := .ref (q 16)) (C := RX12) (T := TX12) (N := 30) hx hb hts iX12 hown hK hP 0 rfl rfl 26 (by decide) (hts (.fieldLink RX12 57 "BeetleDriveModel" "kept" "[I") (List.mem_of_getElem? (i := 2) rfl)) (fun _ h9 => h9) rfl dX12_pass_22 ?_
    refine lv_aload_n hx hb dX12_pass_25 rfl (lv_at hl 1 rfl) ?_
    refine va_get (D := gD g) (ci := 10) (v := .int v_keptAt) (C := RX12) (T := TX12) (N := 30) hx hb hts iX12 hown hK hP 0 rfl rfl 28 (by decide) (hts (.fieldLink RX12 299 "BeetleDriveModel" "keptAt" "I") (List.mem_of_getElem? (i := 3) rfl)) (fun _ h9 => h9) rfl dX12_pass_26 ?_
    refine lv_iload_n hx hb dX12_pass_29 rfl (lv_at hl 0 rfl) ?_
    obtain ⟨hi3, hf⟩ := chk_some hf
    refine va_iast hx hb hK hP hD hS 1 0 rfl rfl hi3 dX12_pass_30 (fun H locs hP hD hS => ?_)
    have hP : va_P (gD g) vwCl [((q 0), .inr (10, oX12 q v_holder v_games v_sights v_padMany v_acts v_nothings v_wholeNow v_badAct v_badWhy v_wholeAct v_wholeWho v_keptAt v_isWriting)), ((q 16), .inl (gI g, 160, .inl (upd v_kept (Int32.toNatClampNeg v_keptAt) y0)))] H := hP
    have hD : va_D A [((q 0), .inr (10, oX12 q v_holder v_games v_sights v_padMany v_acts v_nothings v_wholeNow v_badAct v_badWhy v_wholeAct v_wholeWho v_keptAt v_isWriting)), ((q 16), .inl (gI g, 160, .inl (upd v_kept (Int32.toNatClampNeg v_keptAt) y0)))] := hD
    refine lv_aload_n hx hb dX12_pass_31 rfl (lv_at hl 1 rfl) ?_
    refine lv_dup hx hb dX12_pass_32 rfl ?_
    refine va_get (D := gD g) (ci := 10) (v := .int v_keptAt) (C := RX12) (T := TX12) (N := 30) hx hb hts iX12 hown hK hP 0 rfl rfl 28 (by decide) (hts (.fieldLink RX12 299 "BeetleDriveModel" "keptAt" "I") (List.mem_of_getElem? (i := 3) rfl)) (fun _ h9 => h9) rfl dX12_pass_33 ?_
    refine lv_iconst (v := 1) hx hb dX12_pass_36 (by decide) ?_
    refine lv_iadd hx hb dX12_pass_37 ?_
    refine va_put (D := gD g) (ci := 10) (v := .int (v_keptAt + (1 : Int32))) (ty := .int) (C := RX12) (T := TX12) (N := 30) hx hb hts iX12 tyX12 tyX12_ok nmX12 hown hK hP hD hS 0 rfl rfl 28 (by decide) (hts (.fieldLink RX12 299 "BeetleDriveModel" "keptAt" "I") (List.mem_of_getElem? (i := 3) rfl)) (fun _ h9 => h9) rfl (tyX12_ok 28 (by decide)) rfl rfl (Nat.le_of_ble_eq_true rfl) dX12_pass_38 (fun H locs hP hD hS => ?_)
    have hP : va_P (gD g) vwCl [((q 0), .inr (10, oX12 q v_holder v_games v_sights v_padMany v_acts v_nothings v_wholeNow v_badAct v_badWhy v_wholeAct v_wholeWho (v_keptAt + (1 : Int32)) v_isWriting)), ((q 16), .inl (gI g, 160, .inl (upd v_kept (Int32.toNatClampNeg v_keptAt) y0)))] H := hP
    have hD : va_D A [((q 0), .inr (10, oX12 q v_holder v_games v_sights v_padMany v_acts v_nothings v_wholeNow v_badAct v_badWhy v_wholeAct v_wholeWho (v_keptAt + (1 : Int32)) v_isWriting)), ((q 16), .inl (gI g, 160, .inl (upd v_kept (Int32.toNatClampNeg v_keptAt) y0)))] := hD
    refine lv_iload_n hx hb dX12_pass_41 rfl (lv_at hl 0 rfl) ?_
    rw [← hQ, ← Option.some.inj hf]
    exact eM_i hx hb hr hlk hP hD hS rfl dX12_pass_42
  unfold f_X12_pass at hf
  refine lv_aload_n hx hb dX12_pass_0 rfl (lv_at hl 0 rfl) ?_
  refine va_get (D := gD g) (ci := 10) (v := .int v_isWriting) (C := RX12) (T := TX12) (N := 30) hx hb hts iX12 hown hK hP 0 rfl rfl 29 (by decide) (hts (.fieldLink RX12 295 "BeetleDriveModel" "isWriting" "Z") (List.mem_of_getElem? (i := 1) rfl)) (fun _ h9 => h9) rfl dX12_pass_1 ?_
  refine lv_if_eq (tgt := 11) hx hb dX12_pass_4 (by decide) (fun c1 => ?_) (fun c1 => ?_)
  · replace hf := ift c1 hf
    refine lv_aload_n hx hb dX12_pass_11 rfl (lv_at hl 0 rfl) ?_
    refine va_get (D := gD g) (ci := 10) (v := .ref (q 16)) (C := RX12) (T := TX12) (N := 30) hx hb hts iX12 hown hK hP 0 rfl rfl 26 (by decide) (hts (.fieldLink RX12 57 "BeetleDriveModel" "kept" "[I") (List.mem_of_getElem? (i := 2) rfl)) (fun _ h9 => h9) rfl dX12_pass_12 ?_
    refine lv_aload_n hx hb dX12_pass_15 rfl (lv_at hl 0 rfl) ?_
    refine va_get (D := gD g) (ci := 10) (v := .int v_keptAt) (C := RX12) (T := TX12) (N := 30) hx hb hts iX12 hown hK hP 0 rfl rfl 28 (by decide) (hts (.fieldLink RX12 299 "BeetleDriveModel" "keptAt" "I") (List.mem_of_getElem? (i := 3) rfl)) (fun _ h9 => h9) rfl dX12_pass_16 ?_
    obtain ⟨hi2, hf⟩ := chk_some hf
    refine va_iald hx hb hK hP 1 0 rfl rfl hi2 dX12_pass_19 ?_
    exact w_20  (v_kept (Int32.toNatClampNeg v_keptAt)) v_kept v_keptAt hf s.heap [] hP hD hS ls (lv_sub hl [0] rfl)
  · replace hf := iff_ c1 hf
    refine lv_iload_n hx hb dX12_pass_7 rfl (lv_at hl 1 rfl) ?_
    refine lv_goto (tgt := 20) hx hb dX12_pass_8 (by decide) ?_
    exact w_20  x1 v_kept v_keptAt hf s.heap [] hP hD hS ls (lv_sub hl [0] rfl)
set_option maxHeartbeats 4000000 in
set_option maxRecDepth 100000 in
theorem c_X12_passRow (l : Launch) (g : bG) (q : Nat → Nat) (k_p1 : Nat) (n_p1 : Nat) (v_holder : Int32) (v_games : Int32) (v_sights : Int32) (v_padMany : Int32) (v_acts : Int32) (v_nothings : Int32) (v_wholeNow : Int32) (v_badAct : Int32) (v_badWhy : Int32) (v_wholeAct : Int32) (v_wholeWho : Int32) (v_keptAt : Int32) (v_isWriting : Int32) (v_kept : Nat → Int32) (v_p1 : Nat → Int32) (x2 : Int32) (out : (Nat → Int32) × Int32 × (Nat → Int32)) (hf : f_X12_passRow n_p1 v_kept v_keptAt v_isWriting v_p1 x2 = some out) : Mv l g yX12_passRow wsX12_passRow ({ frames := 1, cells := 0, slots := 0, locals := 22 } : Room) [.ref (q 0), .ref k_p1, .int x2] [((q 0), .inr (10, oX12 q v_holder v_games v_sights v_padMany v_acts v_nothings v_wholeNow v_badAct v_badWhy v_wholeAct v_wholeWho v_keptAt v_isWriting)), ((q 16), .inl (gI g, 160, .inl v_kept)), (k_p1, .inl (gI g, n_p1, .inl v_p1))] [((q 0), .inr (10, oX12 q v_holder v_games v_sights v_padMany v_acts v_nothings v_wholeNow v_badAct v_badWhy v_wholeAct v_wholeWho out.2.1 v_isWriting)), ((q 16), .inl (gI g, 160, .inl out.1)), (k_p1, .inl (gI g, n_p1, .inl out.2.2))] := by
  refine ofM (Qc := fun A => Qv g [((q 0), .inr (10, oX12 q v_holder v_games v_sights v_padMany v_acts v_nothings v_wholeNow v_badAct v_badWhy v_wholeAct v_wholeWho out.2.1 v_isWriting)), ((q 16), .inl (gI g, 160, .inl out.1)), (k_p1, .inl (gI g, n_p1, .inl out.2.2))] A) (cc := cX12_passRow) (nL := 4) (ret := none) (by decide) rfl (Nat.le_of_ble_eq_true rfl) ?_
  intro p e s m below meth c ar A hC hA hP hD hG ls hl
  have hS : va_S A s.heap s.heap [] := va_S.rf
  obtain ⟨hx, hb, hml, hown, hts, hr, hlk, -⟩ := hC
  have hl : lv_has ls 4 [(0, .ref (q 0)), (1, .ref k_p1), (2, .int x2)] := hl
  have hK := hG.1
  generalize hQ : MQ below (Qv g [((q 0), .inr (10, oX12 q v_holder v_games v_sights v_padMany v_acts v_nothings v_wholeNow v_badAct v_badWhy v_wholeAct v_wholeWho out.2.1 v_isWriting)), ((q 16), .inl (gI g, 160, .inl out.1)), (k_p1, .inl (gI g, n_p1, .inl out.2.2))] A) ar s 0 0 A = QQ
  have w_2 : ∀ n : Nat, ∀ (x2 : Int32) (x3 : Int32) (v_kept : Nat → Int32) (v_keptAt : Int32) (v_p1 : Nat → Int32), f_X12_passRow_b2 n_p1 v_isWriting n x2 x3 v_kept v_keptAt v_p1 = some out → ∀ (H : Heap) (locs : List Loc), va_P (gD g) vwCl [((q 0), .inr (10, oX12 q v_holder v_games v_sights v_padMany v_acts v_nothings v_wholeNow v_badAct v_badWhy v_wholeAct v_wholeWho v_keptAt v_isWriting)), ((q 16), .inl (gI g, 160, .inl v_kept)), (k_p1, .inl (gI g, n_p1, .inl v_p1))] H → va_D A [((q 0), .inr (10, oX12 q v_holder v_games v_sights v_padMany v_acts v_nothings v_wholeNow v_badAct v_badWhy v_wholeAct v_wholeWho v_keptAt v_isWriting)), ((q 16), .inl (gI g, 160, .inl v_kept)), (k_p1, .inl (gI g, n_p1, .inl v_p1))] → va_S A s.heap H locs → ∀ ls : Array Slot, lv_has ls 4 [(0, .ref (q 0)), (1, .ref k_p1), (2, .int x2), (3, .int x3)] → W p l e ({ frames := 1, cells := 0, slots := 0, locals := 22 } : Room) s m ar below meth c H locs 0 0 QQ (F0 m 2 ls []) := by
    intro n
    induction n with
    | zero =>
      intro x2 x3 v_kept v_keptAt v_p1 hf
      rw [f_X12_passRow_b2_z] at hf
      cases hf
    | succ n ih =>
      intro x2 x3 v_kept v_keptAt v_p1 hf H locs hP hD hS ls hl
      rw [f_X12_passRow_b2_s] at hf
      refine lv_iload_n hx hb dX12_passRow_2 rfl (lv_at hl 3 rfl) ?_
      refine lv_iload_n hx hb dX12_passRow_3 rfl (lv_at hl 2 rfl) ?_
      refine lv_icmp_ge (tgt := 23) hx hb dX12_passRow_4 (by decide) (fun c1 => ?_) (fun c1 => ?_)
      · replace hf := ift c1 hf
        rw [← hQ, ← Option.some.inj hf]
        exact eM_v hx hb hr hlk hP hD hS dX12_passRow_23
      · replace hf := iff_ c1 hf
        refine lv_aload_n hx hb dX12_passRow_7 rfl (lv_at hl 1 rfl) ?_
        refine lv_iload_n hx hb dX12_passRow_8 rfl (lv_at hl 3 rfl) ?_
        refine lv_aload_n hx hb dX12_passRow_9 rfl (lv_at hl 0 rfl) ?_
        refine lv_aload_n hx hb dX12_passRow_10 rfl (lv_at hl 1 rfl) ?_
        refine lv_iload_n hx hb dX12_passRow_11 rfl (lv_at hl 3 rfl) ?_
        obtain ⟨hi2, hf⟩ := chk_some hf
        refine va_iald hx hb hK hP 2 0 rfl rfl hi2 dX12_passRow_12 ?_
        obtain ⟨z3, hq4, hf⟩ := bnd_some hf
        refine kM_i (wc := [((q 0), .inr (10, oX12 q v_holder v_games v_sights v_padMany v_acts v_nothings v_wholeNow v_badAct v_badWhy v_wholeAct v_wholeWho v_keptAt v_isWriting)), ((q 16), .inl (gI g, 160, .inl v_kept))]) (wr := [(k_p1, .inl (gI g, n_p1, .inl v_p1))]) (w1 := [((q 0), .inr (10, oX12 q v_holder v_games v_sights v_padMany v_acts v_nothings v_wholeNow v_badAct v_badWhy v_wholeAct v_wholeWho z3.2.2 v_isWriting)), ((q 16), .inl (gI g, 160, .inl z3.2.1))]) (w2 := [((q 0), .inr (10, oX12 q v_holder v_games v_sights v_padMany v_acts v_nothings v_wholeNow v_badAct v_badWhy v_wholeAct v_wholeWho z3.2.2 v_isWriting)), ((q 16), .inl (gI g, 160, .inl z3.2.1)), (k_p1, .inl (gI g, n_p1, .inl v_p1))]) (va_runV (As := [.int (v_p1 (Int32.toNatClampNeg x3))]) (rest := [.int x3, .ref k_p1]) ⟨hx, hb, hml, hown, hts⟩ (c_X12_pass l g q v_holder v_games v_sights v_padMany v_acts v_nothings v_wholeNow v_badAct v_badWhy v_wholeAct v_wholeWho v_keptAt v_isWriting v_kept (v_p1 (Int32.toNatClampNeg x3)) z3 hq4 H.size) (cwV 1 hts gX12_passRow_X12_pass rfl rfl rfl (by decide +kernel) ⟨Nat.le_of_ble_eq_true rfl, Nat.le_of_ble_eq_true rfl⟩) (kpV_M (q0 := 0) (ci := 10) hG hS hP hD hA [0, 1] rfl (by decide) rfl rfl) rfl rfl hl.1 rfl (lv_room (Nat.le_of_ble_eq_true rfl)) dX12_passRow_13 ⟨Nat.le_of_ble_eq_true rfl, Nat.le_of_ble_eq_true rfl⟩) hP hD hS hA [0, 1] [2] [1, 2, 0] rfl rfl (by decide) (by decide) rfl (by decide) (fun H locs hP hD hS => ?_)
        obtain ⟨hi5, hf⟩ := chk_some hf
        refine va_iast hx hb hK hP hD hS 2 0 rfl rfl hi5 dX12_passRow_16 (fun H locs hP hD hS => ?_)
        have hP : va_P (gD g) vwCl [((q 0), .inr (10, oX12 q v_holder v_games v_sights v_padMany v_acts v_nothings v_wholeNow v_badAct v_badWhy v_wholeAct v_wholeWho z3.2.2 v_isWriting)), ((q 16), .inl (gI g, 160, .inl z3.2.1)), (k_p1, .inl (gI g, n_p1, .inl (upd v_p1 (Int32.toNatClampNeg x3) z3.1)))] H := hP
        have hD : va_D A [((q 0), .inr (10, oX12 q v_holder v_games v_sights v_padMany v_acts v_nothings v_wholeNow v_badAct v_badWhy v_wholeAct v_wholeWho z3.2.2 v_isWriting)), ((q 16), .inl (gI g, 160, .inl z3.2.1)), (k_p1, .inl (gI g, n_p1, .inl (upd v_p1 (Int32.toNatClampNeg x3) z3.1)))] := hD
        refine lv_iinc (v := (x3 + 1)) (lv' := [(3, .int (x3 + 1)), (0, .ref (q 0)), (1, .ref k_p1), (2, .int x2)]) hx hb dX12_passRow_17 hl (k := 3) rfl rfl (by decide) rfl (fun ls hl => ?_)
        refine lv_goto (tgt := 2) hx hb dX12_passRow_20 (by decide) ?_
        exact ih x2 (x3 + 1) z3.2.1 z3.2.2 (upd v_p1 (Int32.toNatClampNeg x3) z3.1) hf H locs hP hD hS ls (lv_sub hl [1, 2, 3, 0] rfl)
  unfold f_X12_passRow at hf
  refine lv_iconst (v := 0) hx hb dX12_passRow_0 (by decide) ?_
  refine lv_istore_n (lv' := [(3, .int (0 : Int32)), (0, .ref (q 0)), (1, .ref k_p1), (2, .int x2)]) hx hb dX12_passRow_1 rfl hl (by decide) rfl (fun ls hl => ?_)
  exact w_2 FU x2 (0 : Int32) v_kept v_keptAt v_p1 hf s.heap [] hP hD hS ls (lv_sub hl [1, 2, 3, 0] rfl)
set_option maxHeartbeats 4000000 in
set_option maxRecDepth 100000 in
theorem c_X12_passAll (l : Launch) (g : bG) (q : Nat → Nat) (v_holder : Int32) (v_games : Int32) (v_sights : Int32) (v_padMany : Int32) (v_acts : Int32) (v_nothings : Int32) (v_wholeNow : Int32) (v_badAct : Int32) (v_badWhy : Int32) (v_wholeAct : Int32) (v_wholeWho : Int32) (v_keptAt : Int32) (v_isWriting : Int32) (v_beetle : Nat → Int32) (v_points : Nat → Int32) (v_isIn : Nat → Int32) (v_sightRow : Nat → Int32) (v_sightTop : Nat → Int32) (v_kept : Nat → Int32) (out : (Nat → Int32) × (Nat → Int32) × (Nat → Int32) × Int32 × Int32 × (Nat → Int32) × (Nat → Int32) × Int32 × (Nat → Int32) × Int32) (hf : f_X12_passAll v_beetle v_points v_isIn v_holder v_games v_sightRow v_sightTop v_sights v_kept v_keptAt v_isWriting = some out) : Mv l g yX12_passAll wsX12_passAll ({ frames := 2, cells := 0, slots := 0, locals := 45 } : Room) [.ref (q 0)] [((q 0), .inr (10, oX12 q v_holder v_games v_sights v_padMany v_acts v_nothings v_wholeNow v_badAct v_badWhy v_wholeAct v_wholeWho v_keptAt v_isWriting)), ((q 2), .inl (gI g, 6, .inl v_beetle)), ((q 3), .inl (gI g, 6, .inl v_points)), ((q 4), .inl (gI g, 6, .inl v_isIn)), ((q 5), .inl (gI g, 8, .inl v_sightRow)), ((q 6), .inl (gI g, 8, .inl v_sightTop)), ((q 16), .inl (gI g, 160, .inl v_kept))] [((q 0), .inr (10, oX12 q out.2.2.2.1 out.2.2.2.2.1 out.2.2.2.2.2.2.2.1 v_padMany v_acts v_nothings v_wholeNow v_badAct v_badWhy v_wholeAct v_wholeWho out.2.2.2.2.2.2.2.2.2 v_isWriting)), ((q 2), .inl (gI g, 6, .inl out.1)), ((q 3), .inl (gI g, 6, .inl out.2.1)), ((q 4), .inl (gI g, 6, .inl out.2.2.1)), ((q 5), .inl (gI g, 8, .inl out.2.2.2.2.2.1)), ((q 6), .inl (gI g, 8, .inl out.2.2.2.2.2.2.1)), ((q 16), .inl (gI g, 160, .inl out.2.2.2.2.2.2.2.2.1))] := by
  refine ofM (Qc := fun A => Qv g [((q 0), .inr (10, oX12 q out.2.2.2.1 out.2.2.2.2.1 out.2.2.2.2.2.2.2.1 v_padMany v_acts v_nothings v_wholeNow v_badAct v_badWhy v_wholeAct v_wholeWho out.2.2.2.2.2.2.2.2.2 v_isWriting)), ((q 2), .inl (gI g, 6, .inl out.1)), ((q 3), .inl (gI g, 6, .inl out.2.1)), ((q 4), .inl (gI g, 6, .inl out.2.2.1)), ((q 5), .inl (gI g, 8, .inl out.2.2.2.2.2.1)), ((q 6), .inl (gI g, 8, .inl out.2.2.2.2.2.2.1)), ((q 16), .inl (gI g, 160, .inl out.2.2.2.2.2.2.2.2.1))] A) (cc := cX12_passAll) (nL := 1) (ret := none) (by decide) rfl (Nat.le_of_ble_eq_true rfl) ?_
  intro p e s m below meth c ar A hC hA hP hD hG ls hl
  have hS : va_S A s.heap s.heap [] := va_S.rf
  obtain ⟨hx, hb, hml, hown, hts, hr, hlk, -⟩ := hC
  have hl : lv_has ls 1 [(0, .ref (q 0))] := hl
  have hK := hG.1
  have iX12 : ∀ w ∈ u_ws RX12 TX12 30, w ∈ wsX12_passAll := fun w h => List.mem_cons_of_mem _ (List.mem_append_right _ (h))
  generalize hQ : MQ below (Qv g [((q 0), .inr (10, oX12 q out.2.2.2.1 out.2.2.2.2.1 out.2.2.2.2.2.2.2.1 v_padMany v_acts v_nothings v_wholeNow v_badAct v_badWhy v_wholeAct v_wholeWho out.2.2.2.2.2.2.2.2.2 v_isWriting)), ((q 2), .inl (gI g, 6, .inl out.1)), ((q 3), .inl (gI g, 6, .inl out.2.1)), ((q 4), .inl (gI g, 6, .inl out.2.2.1)), ((q 5), .inl (gI g, 8, .inl out.2.2.2.2.2.1)), ((q 6), .inl (gI g, 8, .inl out.2.2.2.2.2.2.1)), ((q 16), .inl (gI g, 160, .inl out.2.2.2.2.2.2.2.2.1))] A) ar s 0 0 A = QQ
  unfold f_X12_passAll at hf
  refine lv_aload_n hx hb dX12_passAll_0 rfl (lv_at hl 0 rfl) ?_
  refine lv_aload_n hx hb dX12_passAll_1 rfl (lv_at hl 0 rfl) ?_
  refine lv_aload_n hx hb dX12_passAll_2 rfl (lv_at hl 0 rfl) ?_
  refine va_get (D := gD g) (ci := 10) (v := .int v_holder) (C := RX12) (T := TX12) (N := 30) hx hb hts iX12 hown hK hP 0 rfl rfl 4 (by decide) (hts (.fieldLink RX12 91 "BeetleDriveModel" "holder" "I") (List.mem_of_getElem? (i := 1) rfl)) (fun _ h9 => h9) rfl dX12_passAll_3 ?_
  obtain ⟨z1, hq2, hf⟩ := bnd_some hf
  refine kM_i (wc := [((q 0), .inr (10, oX12 q v_holder v_games v_sights v_padMany v_acts v_nothings v_wholeNow v_badAct v_badWhy v_wholeAct v_wholeWho v_keptAt v_isWriting)), ((q 16), .inl (gI g, 160, .inl v_kept))]) (wr := [((q 2), .inl (gI g, 6, .inl v_beetle)), ((q 3), .inl (gI g, 6, .inl v_points)), ((q 4), .inl (gI g, 6, .inl v_isIn)), ((q 5), .inl (gI g, 8, .inl v_sightRow)), ((q 6), .inl (gI g, 8, .inl v_sightTop))]) (w1 := [((q 0), .inr (10, oX12 q v_holder v_games v_sights v_padMany v_acts v_nothings v_wholeNow v_badAct v_badWhy v_wholeAct v_wholeWho z1.2.2 v_isWriting)), ((q 16), .inl (gI g, 160, .inl z1.2.1))]) (w2 := [((q 0), .inr (10, oX12 q v_holder v_games v_sights v_padMany v_acts v_nothings v_wholeNow v_badAct v_badWhy v_wholeAct v_wholeWho z1.2.2 v_isWriting)), ((q 2), .inl (gI g, 6, .inl v_beetle)), ((q 3), .inl (gI g, 6, .inl v_points)), ((q 4), .inl (gI g, 6, .inl v_isIn)), ((q 5), .inl (gI g, 8, .inl v_sightRow)), ((q 6), .inl (gI g, 8, .inl v_sightTop)), ((q 16), .inl (gI g, 160, .inl z1.2.1))]) (va_runV (As := [.int v_holder]) (rest := [.ref (q 0)]) ⟨hx, hb, hml, hown, hts⟩ (c_X12_pass l g q v_holder v_games v_sights v_padMany v_acts v_nothings v_wholeNow v_badAct v_badWhy v_wholeAct v_wholeWho v_keptAt v_isWriting v_kept v_holder z1 hq2 s.heap.size) (cwV 1 hts gX12_passAll_X12_pass rfl rfl rfl (by decide +kernel) ⟨Nat.le_of_ble_eq_true rfl, Nat.le_of_ble_eq_true rfl⟩) (kpV_M (q0 := 0) (ci := 10) hG hS hP hD hA [0, 6] rfl (by decide) rfl rfl) rfl rfl hl.1 rfl (lv_room (Nat.le_of_ble_eq_true rfl)) dX12_passAll_6 ⟨Nat.le_of_ble_eq_true rfl, Nat.le_of_ble_eq_true rfl⟩) hP hD hS hA [0, 6] [1, 2, 3, 4, 5] [5, 0, 1, 2, 3, 4, 6] rfl rfl (by decide) (by decide) rfl (by decide) (fun H locs hP hD hS => ?_)
  refine va_put (D := gD g) (ci := 10) (v := .int z1.1) (ty := .int) (C := RX12) (T := TX12) (N := 30) hx hb hts iX12 tyX12 tyX12_ok nmX12 hown hK hP hD hS 0 rfl rfl 4 (by decide) (hts (.fieldLink RX12 91 "BeetleDriveModel" "holder" "I") (List.mem_of_getElem? (i := 1) rfl)) (fun _ h9 => h9) rfl (tyX12_ok 4 (by decide)) rfl rfl (Nat.le_of_ble_eq_true rfl) dX12_passAll_9 (fun H locs hP hD hS => ?_)
  have hP : va_P (gD g) vwCl [((q 0), .inr (10, oX12 q z1.1 v_games v_sights v_padMany v_acts v_nothings v_wholeNow v_badAct v_badWhy v_wholeAct v_wholeWho z1.2.2 v_isWriting)), ((q 2), .inl (gI g, 6, .inl v_beetle)), ((q 3), .inl (gI g, 6, .inl v_points)), ((q 4), .inl (gI g, 6, .inl v_isIn)), ((q 5), .inl (gI g, 8, .inl v_sightRow)), ((q 6), .inl (gI g, 8, .inl v_sightTop)), ((q 16), .inl (gI g, 160, .inl z1.2.1))] H := hP
  have hD : va_D A [((q 0), .inr (10, oX12 q z1.1 v_games v_sights v_padMany v_acts v_nothings v_wholeNow v_badAct v_badWhy v_wholeAct v_wholeWho z1.2.2 v_isWriting)), ((q 2), .inl (gI g, 6, .inl v_beetle)), ((q 3), .inl (gI g, 6, .inl v_points)), ((q 4), .inl (gI g, 6, .inl v_isIn)), ((q 5), .inl (gI g, 8, .inl v_sightRow)), ((q 6), .inl (gI g, 8, .inl v_sightTop)), ((q 16), .inl (gI g, 160, .inl z1.2.1))] := hD
  refine lv_aload_n hx hb dX12_passAll_12 rfl (lv_at hl 0 rfl) ?_
  refine lv_aload_n hx hb dX12_passAll_13 rfl (lv_at hl 0 rfl) ?_
  refine lv_aload_n hx hb dX12_passAll_14 rfl (lv_at hl 0 rfl) ?_
  refine va_get (D := gD g) (ci := 10) (v := .int v_games) (C := RX12) (T := TX12) (N := 30) hx hb hts iX12 hown hK hP 0 rfl rfl 5 (by decide) (hts (.fieldLink RX12 123 "BeetleDriveModel" "games" "I") (List.mem_of_getElem? (i := 2) rfl)) (fun _ h9 => h9) rfl dX12_passAll_15 ?_
  obtain ⟨z3, hq4, hf⟩ := bnd_some hf
  refine kM_i (wc := [((q 0), .inr (10, oX12 q z1.1 v_games v_sights v_padMany v_acts v_nothings v_wholeNow v_badAct v_badWhy v_wholeAct v_wholeWho z1.2.2 v_isWriting)), ((q 16), .inl (gI g, 160, .inl z1.2.1))]) (wr := [((q 2), .inl (gI g, 6, .inl v_beetle)), ((q 3), .inl (gI g, 6, .inl v_points)), ((q 4), .inl (gI g, 6, .inl v_isIn)), ((q 5), .inl (gI g, 8, .inl v_sightRow)), ((q 6), .inl (gI g, 8, .inl v_sightTop))]) (w1 := [((q 0), .inr (10, oX12 q z1.1 v_games v_sights v_padMany v_acts v_nothings v_wholeNow v_badAct v_badWhy v_wholeAct v_wholeWho z3.2.2 v_isWriting)), ((q 16), .inl (gI g, 160, .inl z3.2.1))]) (w2 := [((q 0), .inr (10, oX12 q z1.1 v_games v_sights v_padMany v_acts v_nothings v_wholeNow v_badAct v_badWhy v_wholeAct v_wholeWho z3.2.2 v_isWriting)), ((q 2), .inl (gI g, 6, .inl v_beetle)), ((q 3), .inl (gI g, 6, .inl v_points)), ((q 4), .inl (gI g, 6, .inl v_isIn)), ((q 5), .inl (gI g, 8, .inl v_sightRow)), ((q 6), .inl (gI g, 8, .inl v_sightTop)), ((q 16), .inl (gI g, 160, .inl z3.2.1))]) (va_runV (As := [.int v_games]) (rest := [.ref (q 0)]) ⟨hx, hb, hml, hown, hts⟩ (c_X12_pass l g q z1.1 v_games v_sights v_padMany v_acts v_nothings v_wholeNow v_badAct v_badWhy v_wholeAct v_wholeWho z1.2.2 v_isWriting z1.2.1 v_games z3 hq4 H.size) (cwV 1 hts gX12_passAll_X12_pass rfl rfl rfl (by decide +kernel) ⟨Nat.le_of_ble_eq_true rfl, Nat.le_of_ble_eq_true rfl⟩) (kpV_M (q0 := 0) (ci := 10) hG hS hP hD hA [0, 6] rfl (by decide) rfl rfl) rfl rfl hl.1 rfl (lv_room (Nat.le_of_ble_eq_true rfl)) dX12_passAll_18 ⟨Nat.le_of_ble_eq_true rfl, Nat.le_of_ble_eq_true rfl⟩) hP hD hS hA [0, 6] [1, 2, 3, 4, 5] [5, 0, 1, 2, 3, 4, 6] rfl rfl (by decide) (by decide) rfl (by decide) (fun H locs hP hD hS => ?_)
  refine va_put (D := gD g) (ci := 10) (v := .int z3.1) (ty := .int) (C := RX12) (T := TX12) (N := 30) hx hb hts iX12 tyX12 tyX12_ok nmX12 hown hK hP hD hS 0 rfl rfl 5 (by decide) (hts (.fieldLink RX12 123 "BeetleDriveModel" "games" "I") (List.mem_of_getElem? (i := 2) rfl)) (fun _ h9 => h9) rfl (tyX12_ok 5 (by decide)) rfl rfl (Nat.le_of_ble_eq_true rfl) dX12_passAll_21 (fun H locs hP hD hS => ?_)
  have hP : va_P (gD g) vwCl [((q 0), .inr (10, oX12 q z1.1 z3.1 v_sights v_padMany v_acts v_nothings v_wholeNow v_badAct v_badWhy v_wholeAct v_wholeWho z3.2.2 v_isWriting)), ((q 2), .inl (gI g, 6, .inl v_beetle)), ((q 3), .inl (gI g, 6, .inl v_points)), ((q 4), .inl (gI g, 6, .inl v_isIn)), ((q 5), .inl (gI g, 8, .inl v_sightRow)), ((q 6), .inl (gI g, 8, .inl v_sightTop)), ((q 16), .inl (gI g, 160, .inl z3.2.1))] H := hP
  have hD : va_D A [((q 0), .inr (10, oX12 q z1.1 z3.1 v_sights v_padMany v_acts v_nothings v_wholeNow v_badAct v_badWhy v_wholeAct v_wholeWho z3.2.2 v_isWriting)), ((q 2), .inl (gI g, 6, .inl v_beetle)), ((q 3), .inl (gI g, 6, .inl v_points)), ((q 4), .inl (gI g, 6, .inl v_isIn)), ((q 5), .inl (gI g, 8, .inl v_sightRow)), ((q 6), .inl (gI g, 8, .inl v_sightTop)), ((q 16), .inl (gI g, 160, .inl z3.2.1))] := hD
  refine lv_aload_n hx hb dX12_passAll_24 rfl (lv_at hl 0 rfl) ?_
  refine lv_aload_n hx hb dX12_passAll_25 rfl (lv_at hl 0 rfl) ?_
  refine lv_aload_n hx hb dX12_passAll_26 rfl (lv_at hl 0 rfl) ?_
  refine va_get (D := gD g) (ci := 10) (v := .int v_sights) (C := RX12) (T := TX12) (N := 30) hx hb hts iX12 hown hK hP 0 rfl rfl 8 (by decide) (hts (.fieldLink RX12 269 "BeetleDriveModel" "sights" "I") (List.mem_of_getElem? (i := 3) rfl)) (fun _ h9 => h9) rfl dX12_passAll_27 ?_
  obtain ⟨z5, hq6, hf⟩ := bnd_some hf
  refine kM_i (wc := [((q 0), .inr (10, oX12 q z1.1 z3.1 v_sights v_padMany v_acts v_nothings v_wholeNow v_badAct v_badWhy v_wholeAct v_wholeWho z3.2.2 v_isWriting)), ((q 16), .inl (gI g, 160, .inl z3.2.1))]) (wr := [((q 2), .inl (gI g, 6, .inl v_beetle)), ((q 3), .inl (gI g, 6, .inl v_points)), ((q 4), .inl (gI g, 6, .inl v_isIn)), ((q 5), .inl (gI g, 8, .inl v_sightRow)), ((q 6), .inl (gI g, 8, .inl v_sightTop))]) (w1 := [((q 0), .inr (10, oX12 q z1.1 z3.1 v_sights v_padMany v_acts v_nothings v_wholeNow v_badAct v_badWhy v_wholeAct v_wholeWho z5.2.2 v_isWriting)), ((q 16), .inl (gI g, 160, .inl z5.2.1))]) (w2 := [((q 0), .inr (10, oX12 q z1.1 z3.1 v_sights v_padMany v_acts v_nothings v_wholeNow v_badAct v_badWhy v_wholeAct v_wholeWho z5.2.2 v_isWriting)), ((q 2), .inl (gI g, 6, .inl v_beetle)), ((q 3), .inl (gI g, 6, .inl v_points)), ((q 4), .inl (gI g, 6, .inl v_isIn)), ((q 5), .inl (gI g, 8, .inl v_sightRow)), ((q 6), .inl (gI g, 8, .inl v_sightTop)), ((q 16), .inl (gI g, 160, .inl z5.2.1))]) (va_runV (As := [.int v_sights]) (rest := [.ref (q 0)]) ⟨hx, hb, hml, hown, hts⟩ (c_X12_pass l g q z1.1 z3.1 v_sights v_padMany v_acts v_nothings v_wholeNow v_badAct v_badWhy v_wholeAct v_wholeWho z3.2.2 v_isWriting z3.2.1 v_sights z5 hq6 H.size) (cwV 1 hts gX12_passAll_X12_pass rfl rfl rfl (by decide +kernel) ⟨Nat.le_of_ble_eq_true rfl, Nat.le_of_ble_eq_true rfl⟩) (kpV_M (q0 := 0) (ci := 10) hG hS hP hD hA [0, 6] rfl (by decide) rfl rfl) rfl rfl hl.1 rfl (lv_room (Nat.le_of_ble_eq_true rfl)) dX12_passAll_30 ⟨Nat.le_of_ble_eq_true rfl, Nat.le_of_ble_eq_true rfl⟩) hP hD hS hA [0, 6] [1, 2, 3, 4, 5] [5, 0, 1, 2, 3, 4, 6] rfl rfl (by decide) (by decide) rfl (by decide) (fun H locs hP hD hS => ?_)
  refine va_put (D := gD g) (ci := 10) (v := .int z5.1) (ty := .int) (C := RX12) (T := TX12) (N := 30) hx hb hts iX12 tyX12 tyX12_ok nmX12 hown hK hP hD hS 0 rfl rfl 8 (by decide) (hts (.fieldLink RX12 269 "BeetleDriveModel" "sights" "I") (List.mem_of_getElem? (i := 3) rfl)) (fun _ h9 => h9) rfl (tyX12_ok 8 (by decide)) rfl rfl (Nat.le_of_ble_eq_true rfl) dX12_passAll_33 (fun H locs hP hD hS => ?_)
  have hP : va_P (gD g) vwCl [((q 0), .inr (10, oX12 q z1.1 z3.1 z5.1 v_padMany v_acts v_nothings v_wholeNow v_badAct v_badWhy v_wholeAct v_wholeWho z5.2.2 v_isWriting)), ((q 2), .inl (gI g, 6, .inl v_beetle)), ((q 3), .inl (gI g, 6, .inl v_points)), ((q 4), .inl (gI g, 6, .inl v_isIn)), ((q 5), .inl (gI g, 8, .inl v_sightRow)), ((q 6), .inl (gI g, 8, .inl v_sightTop)), ((q 16), .inl (gI g, 160, .inl z5.2.1))] H := hP
  have hD : va_D A [((q 0), .inr (10, oX12 q z1.1 z3.1 z5.1 v_padMany v_acts v_nothings v_wholeNow v_badAct v_badWhy v_wholeAct v_wholeWho z5.2.2 v_isWriting)), ((q 2), .inl (gI g, 6, .inl v_beetle)), ((q 3), .inl (gI g, 6, .inl v_points)), ((q 4), .inl (gI g, 6, .inl v_isIn)), ((q 5), .inl (gI g, 8, .inl v_sightRow)), ((q 6), .inl (gI g, 8, .inl v_sightTop)), ((q 16), .inl (gI g, 160, .inl z5.2.1))] := hD
  refine lv_aload_n hx hb dX12_passAll_36 rfl (lv_at hl 0 rfl) ?_
  refine lv_aload_n hx hb dX12_passAll_37 rfl (lv_at hl 0 rfl) ?_
  refine va_get (D := gD g) (ci := 10) (v := .ref (q 2)) (C := RX12) (T := TX12) (N := 30) hx hb hts iX12 hown hK hP 0 rfl rfl 1 (by decide) (hts (.fieldLink RX12 13 "BeetleDriveModel" "beetle" "[I") (List.mem_of_getElem? (i := 4) rfl)) (fun _ h9 => h9) rfl dX12_passAll_38 ?_
  refine lv_bipush (v := 6) hx hb dX12_passAll_41 (by decide) ?_
  obtain ⟨z7, hq8, hf⟩ := bnd_some hf
  refine kM_v (wc := [((q 0), .inr (10, oX12 q z1.1 z3.1 z5.1 v_padMany v_acts v_nothings v_wholeNow v_badAct v_badWhy v_wholeAct v_wholeWho z5.2.2 v_isWriting)), ((q 16), .inl (gI g, 160, .inl z5.2.1)), ((q 2), .inl (gI g, 6, .inl v_beetle))]) (wr := [((q 3), .inl (gI g, 6, .inl v_points)), ((q 4), .inl (gI g, 6, .inl v_isIn)), ((q 5), .inl (gI g, 8, .inl v_sightRow)), ((q 6), .inl (gI g, 8, .inl v_sightTop))]) (w1 := [((q 0), .inr (10, oX12 q z1.1 z3.1 z5.1 v_padMany v_acts v_nothings v_wholeNow v_badAct v_badWhy v_wholeAct v_wholeWho z7.2.1 v_isWriting)), ((q 16), .inl (gI g, 160, .inl z7.1)), ((q 2), .inl (gI g, 6, .inl z7.2.2))]) (w2 := [((q 0), .inr (10, oX12 q z1.1 z3.1 z5.1 v_padMany v_acts v_nothings v_wholeNow v_badAct v_badWhy v_wholeAct v_wholeWho z7.2.1 v_isWriting)), ((q 2), .inl (gI g, 6, .inl z7.2.2)), ((q 3), .inl (gI g, 6, .inl v_points)), ((q 4), .inl (gI g, 6, .inl v_isIn)), ((q 5), .inl (gI g, 8, .inl v_sightRow)), ((q 6), .inl (gI g, 8, .inl v_sightTop)), ((q 16), .inl (gI g, 160, .inl z7.1))]) (va_runV (As := [.ref (q 2), .int (6 : Int32)]) (rest := []) ⟨hx, hb, hml, hown, hts⟩ (c_X12_passRow l g q (q 2) 6 z1.1 z3.1 z5.1 v_padMany v_acts v_nothings v_wholeNow v_badAct v_badWhy v_wholeAct v_wholeWho z5.2.2 v_isWriting z5.2.1 v_beetle (6 : Int32) z7 hq8 H.size) (cwV 2 hts gX12_passAll_X12_passRow rfl rfl rfl (by decide +kernel) ⟨Nat.le_of_ble_eq_true rfl, Nat.le_of_ble_eq_true rfl⟩) (kpV_M (q0 := 0) (ci := 10) hG hS hP hD hA [0, 6, 1] rfl (by decide) rfl rfl) rfl rfl hl.1 rfl (lv_room (Nat.le_of_ble_eq_true rfl)) dX12_passAll_43 ⟨Nat.le_of_ble_eq_true rfl, Nat.le_of_ble_eq_true rfl⟩) hP hD hS hA [0, 6, 1] [2, 3, 4, 5] [4, 6, 0, 1, 2, 3, 5] rfl rfl (by decide) (by decide) rfl (by decide) (fun H locs hP hD hS => ?_)
  refine lv_aload_n hx hb dX12_passAll_46 rfl (lv_at hl 0 rfl) ?_
  refine lv_aload_n hx hb dX12_passAll_47 rfl (lv_at hl 0 rfl) ?_
  refine va_get (D := gD g) (ci := 10) (v := .ref (q 3)) (C := RX12) (T := TX12) (N := 30) hx hb hts iX12 hown hK hP 0 rfl rfl 2 (by decide) (hts (.fieldLink RX12 16 "BeetleDriveModel" "points" "[I") (List.mem_of_getElem? (i := 5) rfl)) (fun _ h9 => h9) rfl dX12_passAll_48 ?_
  refine lv_bipush (v := 6) hx hb dX12_passAll_51 (by decide) ?_
  obtain ⟨z9, hq10, hf⟩ := bnd_some hf
  refine kM_v (wc := [((q 0), .inr (10, oX12 q z1.1 z3.1 z5.1 v_padMany v_acts v_nothings v_wholeNow v_badAct v_badWhy v_wholeAct v_wholeWho z7.2.1 v_isWriting)), ((q 16), .inl (gI g, 160, .inl z7.1)), ((q 3), .inl (gI g, 6, .inl v_points))]) (wr := [((q 2), .inl (gI g, 6, .inl z7.2.2)), ((q 4), .inl (gI g, 6, .inl v_isIn)), ((q 5), .inl (gI g, 8, .inl v_sightRow)), ((q 6), .inl (gI g, 8, .inl v_sightTop))]) (w1 := [((q 0), .inr (10, oX12 q z1.1 z3.1 z5.1 v_padMany v_acts v_nothings v_wholeNow v_badAct v_badWhy v_wholeAct v_wholeWho z9.2.1 v_isWriting)), ((q 16), .inl (gI g, 160, .inl z9.1)), ((q 3), .inl (gI g, 6, .inl z9.2.2))]) (w2 := [((q 0), .inr (10, oX12 q z1.1 z3.1 z5.1 v_padMany v_acts v_nothings v_wholeNow v_badAct v_badWhy v_wholeAct v_wholeWho z9.2.1 v_isWriting)), ((q 2), .inl (gI g, 6, .inl z7.2.2)), ((q 3), .inl (gI g, 6, .inl z9.2.2)), ((q 4), .inl (gI g, 6, .inl v_isIn)), ((q 5), .inl (gI g, 8, .inl v_sightRow)), ((q 6), .inl (gI g, 8, .inl v_sightTop)), ((q 16), .inl (gI g, 160, .inl z9.1))]) (va_runV (As := [.ref (q 3), .int (6 : Int32)]) (rest := []) ⟨hx, hb, hml, hown, hts⟩ (c_X12_passRow l g q (q 3) 6 z1.1 z3.1 z5.1 v_padMany v_acts v_nothings v_wholeNow v_badAct v_badWhy v_wholeAct v_wholeWho z7.2.1 v_isWriting z7.1 v_points (6 : Int32) z9 hq10 H.size) (cwV 2 hts gX12_passAll_X12_passRow rfl rfl rfl (by decide +kernel) ⟨Nat.le_of_ble_eq_true rfl, Nat.le_of_ble_eq_true rfl⟩) (kpV_M (q0 := 0) (ci := 10) hG hS hP hD hA [0, 6, 2] rfl (by decide) rfl rfl) rfl rfl hl.1 rfl (lv_room (Nat.le_of_ble_eq_true rfl)) dX12_passAll_53 ⟨Nat.le_of_ble_eq_true rfl, Nat.le_of_ble_eq_true rfl⟩) hP hD hS hA [0, 6, 2] [1, 3, 4, 5] [4, 0, 6, 1, 2, 3, 5] rfl rfl (by decide) (by decide) rfl (by decide) (fun H locs hP hD hS => ?_)
  refine lv_aload_n hx hb dX12_passAll_56 rfl (lv_at hl 0 rfl) ?_
  refine lv_aload_n hx hb dX12_passAll_57 rfl (lv_at hl 0 rfl) ?_
  refine va_get (D := gD g) (ci := 10) (v := .ref (q 4)) (C := RX12) (T := TX12) (N := 30) hx hb hts iX12 hown hK hP 0 rfl rfl 3 (by decide) (hts (.fieldLink RX12 19 "BeetleDriveModel" "isIn" "[I") (List.mem_of_getElem? (i := 6) rfl)) (fun _ h9 => h9) rfl dX12_passAll_58 ?_
  refine lv_bipush (v := 6) hx hb dX12_passAll_61 (by decide) ?_
  obtain ⟨z11, hq12, hf⟩ := bnd_some hf
  refine kM_v (wc := [((q 0), .inr (10, oX12 q z1.1 z3.1 z5.1 v_padMany v_acts v_nothings v_wholeNow v_badAct v_badWhy v_wholeAct v_wholeWho z9.2.1 v_isWriting)), ((q 16), .inl (gI g, 160, .inl z9.1)), ((q 4), .inl (gI g, 6, .inl v_isIn))]) (wr := [((q 2), .inl (gI g, 6, .inl z7.2.2)), ((q 3), .inl (gI g, 6, .inl z9.2.2)), ((q 5), .inl (gI g, 8, .inl v_sightRow)), ((q 6), .inl (gI g, 8, .inl v_sightTop))]) (w1 := [((q 0), .inr (10, oX12 q z1.1 z3.1 z5.1 v_padMany v_acts v_nothings v_wholeNow v_badAct v_badWhy v_wholeAct v_wholeWho z11.2.1 v_isWriting)), ((q 16), .inl (gI g, 160, .inl z11.1)), ((q 4), .inl (gI g, 6, .inl z11.2.2))]) (w2 := [((q 0), .inr (10, oX12 q z1.1 z3.1 z5.1 v_padMany v_acts v_nothings v_wholeNow v_badAct v_badWhy v_wholeAct v_wholeWho z11.2.1 v_isWriting)), ((q 2), .inl (gI g, 6, .inl z7.2.2)), ((q 3), .inl (gI g, 6, .inl z9.2.2)), ((q 4), .inl (gI g, 6, .inl z11.2.2)), ((q 5), .inl (gI g, 8, .inl v_sightRow)), ((q 6), .inl (gI g, 8, .inl v_sightTop)), ((q 16), .inl (gI g, 160, .inl z11.1))]) (va_runV (As := [.ref (q 4), .int (6 : Int32)]) (rest := []) ⟨hx, hb, hml, hown, hts⟩ (c_X12_passRow l g q (q 4) 6 z1.1 z3.1 z5.1 v_padMany v_acts v_nothings v_wholeNow v_badAct v_badWhy v_wholeAct v_wholeWho z9.2.1 v_isWriting z9.1 v_isIn (6 : Int32) z11 hq12 H.size) (cwV 2 hts gX12_passAll_X12_passRow rfl rfl rfl (by decide +kernel) ⟨Nat.le_of_ble_eq_true rfl, Nat.le_of_ble_eq_true rfl⟩) (kpV_M (q0 := 0) (ci := 10) hG hS hP hD hA [0, 6, 3] rfl (by decide) rfl rfl) rfl rfl hl.1 rfl (lv_room (Nat.le_of_ble_eq_true rfl)) dX12_passAll_63 ⟨Nat.le_of_ble_eq_true rfl, Nat.le_of_ble_eq_true rfl⟩) hP hD hS hA [0, 6, 3] [1, 2, 4, 5] [4, 0, 1, 6, 2, 3, 5] rfl rfl (by decide) (by decide) rfl (by decide) (fun H locs hP hD hS => ?_)
  refine lv_aload_n hx hb dX12_passAll_66 rfl (lv_at hl 0 rfl) ?_
  refine lv_aload_n hx hb dX12_passAll_67 rfl (lv_at hl 0 rfl) ?_
  refine va_get (D := gD g) (ci := 10) (v := .ref (q 5)) (C := RX12) (T := TX12) (N := 30) hx hb hts iX12 hown hK hP 0 rfl rfl 6 (by decide) (hts (.fieldLink RX12 22 "BeetleDriveModel" "sightRow" "[I") (List.mem_of_getElem? (i := 7) rfl)) (fun _ h9 => h9) rfl dX12_passAll_68 ?_
  refine lv_bipush (v := 8) hx hb dX12_passAll_71 (by decide) ?_
  obtain ⟨z13, hq14, hf⟩ := bnd_some hf
  refine kM_v (wc := [((q 0), .inr (10, oX12 q z1.1 z3.1 z5.1 v_padMany v_acts v_nothings v_wholeNow v_badAct v_badWhy v_wholeAct v_wholeWho z11.2.1 v_isWriting)), ((q 16), .inl (gI g, 160, .inl z11.1)), ((q 5), .inl (gI g, 8, .inl v_sightRow))]) (wr := [((q 2), .inl (gI g, 6, .inl z7.2.2)), ((q 3), .inl (gI g, 6, .inl z9.2.2)), ((q 4), .inl (gI g, 6, .inl z11.2.2)), ((q 6), .inl (gI g, 8, .inl v_sightTop))]) (w1 := [((q 0), .inr (10, oX12 q z1.1 z3.1 z5.1 v_padMany v_acts v_nothings v_wholeNow v_badAct v_badWhy v_wholeAct v_wholeWho z13.2.1 v_isWriting)), ((q 16), .inl (gI g, 160, .inl z13.1)), ((q 5), .inl (gI g, 8, .inl z13.2.2))]) (w2 := [((q 0), .inr (10, oX12 q z1.1 z3.1 z5.1 v_padMany v_acts v_nothings v_wholeNow v_badAct v_badWhy v_wholeAct v_wholeWho z13.2.1 v_isWriting)), ((q 2), .inl (gI g, 6, .inl z7.2.2)), ((q 3), .inl (gI g, 6, .inl z9.2.2)), ((q 4), .inl (gI g, 6, .inl z11.2.2)), ((q 5), .inl (gI g, 8, .inl z13.2.2)), ((q 6), .inl (gI g, 8, .inl v_sightTop)), ((q 16), .inl (gI g, 160, .inl z13.1))]) (va_runV (As := [.ref (q 5), .int (8 : Int32)]) (rest := []) ⟨hx, hb, hml, hown, hts⟩ (c_X12_passRow l g q (q 5) 8 z1.1 z3.1 z5.1 v_padMany v_acts v_nothings v_wholeNow v_badAct v_badWhy v_wholeAct v_wholeWho z11.2.1 v_isWriting z11.1 v_sightRow (8 : Int32) z13 hq14 H.size) (cwV 2 hts gX12_passAll_X12_passRow rfl rfl rfl (by decide +kernel) ⟨Nat.le_of_ble_eq_true rfl, Nat.le_of_ble_eq_true rfl⟩) (kpV_M (q0 := 0) (ci := 10) hG hS hP hD hA [0, 6, 4] rfl (by decide) rfl rfl) rfl rfl hl.1 rfl (lv_room (Nat.le_of_ble_eq_true rfl)) dX12_passAll_73 ⟨Nat.le_of_ble_eq_true rfl, Nat.le_of_ble_eq_true rfl⟩) hP hD hS hA [0, 6, 4] [1, 2, 3, 5] [4, 0, 1, 2, 6, 3, 5] rfl rfl (by decide) (by decide) rfl (by decide) (fun H locs hP hD hS => ?_)
  refine lv_aload_n hx hb dX12_passAll_76 rfl (lv_at hl 0 rfl) ?_
  refine lv_aload_n hx hb dX12_passAll_77 rfl (lv_at hl 0 rfl) ?_
  refine va_get (D := gD g) (ci := 10) (v := .ref (q 6)) (C := RX12) (T := TX12) (N := 30) hx hb hts iX12 hown hK hP 0 rfl rfl 7 (by decide) (hts (.fieldLink RX12 25 "BeetleDriveModel" "sightTop" "[I") (List.mem_of_getElem? (i := 8) rfl)) (fun _ h9 => h9) rfl dX12_passAll_78 ?_
  refine lv_bipush (v := 8) hx hb dX12_passAll_81 (by decide) ?_
  obtain ⟨z15, hq16, hf⟩ := bnd_some hf
  refine kM_v (wc := [((q 0), .inr (10, oX12 q z1.1 z3.1 z5.1 v_padMany v_acts v_nothings v_wholeNow v_badAct v_badWhy v_wholeAct v_wholeWho z13.2.1 v_isWriting)), ((q 16), .inl (gI g, 160, .inl z13.1)), ((q 6), .inl (gI g, 8, .inl v_sightTop))]) (wr := [((q 2), .inl (gI g, 6, .inl z7.2.2)), ((q 3), .inl (gI g, 6, .inl z9.2.2)), ((q 4), .inl (gI g, 6, .inl z11.2.2)), ((q 5), .inl (gI g, 8, .inl z13.2.2))]) (w1 := [((q 0), .inr (10, oX12 q z1.1 z3.1 z5.1 v_padMany v_acts v_nothings v_wholeNow v_badAct v_badWhy v_wholeAct v_wholeWho z15.2.1 v_isWriting)), ((q 16), .inl (gI g, 160, .inl z15.1)), ((q 6), .inl (gI g, 8, .inl z15.2.2))]) (w2 := [((q 0), .inr (10, oX12 q z1.1 z3.1 z5.1 v_padMany v_acts v_nothings v_wholeNow v_badAct v_badWhy v_wholeAct v_wholeWho z15.2.1 v_isWriting)), ((q 2), .inl (gI g, 6, .inl z7.2.2)), ((q 3), .inl (gI g, 6, .inl z9.2.2)), ((q 4), .inl (gI g, 6, .inl z11.2.2)), ((q 5), .inl (gI g, 8, .inl z13.2.2)), ((q 6), .inl (gI g, 8, .inl z15.2.2)), ((q 16), .inl (gI g, 160, .inl z15.1))]) (va_runV (As := [.ref (q 6), .int (8 : Int32)]) (rest := []) ⟨hx, hb, hml, hown, hts⟩ (c_X12_passRow l g q (q 6) 8 z1.1 z3.1 z5.1 v_padMany v_acts v_nothings v_wholeNow v_badAct v_badWhy v_wholeAct v_wholeWho z13.2.1 v_isWriting z13.1 v_sightTop (8 : Int32) z15 hq16 H.size) (cwV 2 hts gX12_passAll_X12_passRow rfl rfl rfl (by decide +kernel) ⟨Nat.le_of_ble_eq_true rfl, Nat.le_of_ble_eq_true rfl⟩) (kpV_M (q0 := 0) (ci := 10) hG hS hP hD hA [0, 6, 5] rfl (by decide) rfl rfl) rfl rfl hl.1 rfl (lv_room (Nat.le_of_ble_eq_true rfl)) dX12_passAll_83 ⟨Nat.le_of_ble_eq_true rfl, Nat.le_of_ble_eq_true rfl⟩) hP hD hS hA [0, 6, 5] [1, 2, 3, 4] [4, 0, 1, 2, 3, 6, 5] rfl rfl (by decide) (by decide) rfl (by decide) (fun H locs hP hD hS => ?_)
  rw [← hQ, ← Option.some.inj hf]
  exact eM_v hx hb hr hlk hP hD hS dX12_passAll_86
set_option maxHeartbeats 4000000 in
set_option maxRecDepth 100000 in
theorem c_X12_image (l : Launch) (g : bG) (q : Nat → Nat) (v_holder : Int32) (v_games : Int32) (v_sights : Int32) (v_padMany : Int32) (v_acts : Int32) (v_nothings : Int32) (v_wholeNow : Int32) (v_badAct : Int32) (v_badWhy : Int32) (v_wholeAct : Int32) (v_wholeWho : Int32) (v_keptAt : Int32) (v_isWriting : Int32) (v_beetle : Nat → Int32) (v_points : Nat → Int32) (v_isIn : Nat → Int32) (v_sightRow : Nat → Int32) (v_sightTop : Nat → Int32) (v_kept : Nat → Int32) (v_isKept : Nat → Int32) (x1 : Int32) (out : Int32 × (Nat → Int32) × (Nat → Int32) × (Nat → Int32) × Int32 × Int32 × (Nat → Int32) × (Nat → Int32) × Int32 × (Nat → Int32) × (Nat → Int32) × Int32 × Int32) (hf : f_X12_image v_beetle v_points v_isIn v_holder v_games v_sightRow v_sightTop v_sights v_kept v_isKept v_keptAt v_isWriting x1 = some out) : Mi l g yX12_image wsX12_image ({ frames := 3, cells := 0, slots := 0, locals := 65 } : Room) [.ref (q 0), .int x1] [((q 0), .inr (10, oX12 q v_holder v_games v_sights v_padMany v_acts v_nothings v_wholeNow v_badAct v_badWhy v_wholeAct v_wholeWho v_keptAt v_isWriting)), ((q 2), .inl (gI g, 6, .inl v_beetle)), ((q 3), .inl (gI g, 6, .inl v_points)), ((q 4), .inl (gI g, 6, .inl v_isIn)), ((q 5), .inl (gI g, 8, .inl v_sightRow)), ((q 6), .inl (gI g, 8, .inl v_sightTop)), ((q 16), .inl (gI g, 160, .inl v_kept)), ((q 17), .inl (gZ g, 2, .inl v_isKept))] out.1 [((q 0), .inr (10, oX12 q out.2.2.2.2.1 out.2.2.2.2.2.1 out.2.2.2.2.2.2.2.2.1 v_padMany v_acts v_nothings v_wholeNow v_badAct v_badWhy v_wholeAct v_wholeWho out.2.2.2.2.2.2.2.2.2.2.2.1 out.2.2.2.2.2.2.2.2.2.2.2.2)), ((q 2), .inl (gI g, 6, .inl out.2.1)), ((q 3), .inl (gI g, 6, .inl out.2.2.1)), ((q 4), .inl (gI g, 6, .inl out.2.2.2.1)), ((q 5), .inl (gI g, 8, .inl out.2.2.2.2.2.2.1)), ((q 6), .inl (gI g, 8, .inl out.2.2.2.2.2.2.2.1)), ((q 16), .inl (gI g, 160, .inl out.2.2.2.2.2.2.2.2.2.1)), ((q 17), .inl (gZ g, 2, .inl out.2.2.2.2.2.2.2.2.2.2.1))] := by
  refine ofM (Qc := fun A => Qi g out.1 [((q 0), .inr (10, oX12 q out.2.2.2.2.1 out.2.2.2.2.2.1 out.2.2.2.2.2.2.2.2.1 v_padMany v_acts v_nothings v_wholeNow v_badAct v_badWhy v_wholeAct v_wholeWho out.2.2.2.2.2.2.2.2.2.2.2.1 out.2.2.2.2.2.2.2.2.2.2.2.2)), ((q 2), .inl (gI g, 6, .inl out.2.1)), ((q 3), .inl (gI g, 6, .inl out.2.2.1)), ((q 4), .inl (gI g, 6, .inl out.2.2.2.1)), ((q 5), .inl (gI g, 8, .inl out.2.2.2.2.2.2.1)), ((q 6), .inl (gI g, 8, .inl out.2.2.2.2.2.2.2.1)), ((q 16), .inl (gI g, 160, .inl out.2.2.2.2.2.2.2.2.2.1)), ((q 17), .inl (gZ g, 2, .inl out.2.2.2.2.2.2.2.2.2.2.1))] A) (cc := cX12_image) (nL := 2) (ret := some .int) (by decide) rfl (Nat.le_of_ble_eq_true rfl) ?_
  intro p e s m below meth c ar A hC hA hP hD hG ls hl
  have hS : va_S A s.heap s.heap [] := va_S.rf
  obtain ⟨hx, hb, hml, hown, hts, hr, hlk, -⟩ := hC
  have hl : lv_has ls 2 [(0, .ref (q 0)), (1, .int x1)] := hl
  have hK := hG.1
  have iX12 : ∀ w ∈ u_ws RX12 TX12 30, w ∈ wsX12_image := fun w h => List.mem_cons_of_mem _ (List.mem_append_right _ (h))
  generalize hQ : MQ below (Qi g out.1 [((q 0), .inr (10, oX12 q out.2.2.2.2.1 out.2.2.2.2.2.1 out.2.2.2.2.2.2.2.2.1 v_padMany v_acts v_nothings v_wholeNow v_badAct v_badWhy v_wholeAct v_wholeWho out.2.2.2.2.2.2.2.2.2.2.2.1 out.2.2.2.2.2.2.2.2.2.2.2.2)), ((q 2), .inl (gI g, 6, .inl out.2.1)), ((q 3), .inl (gI g, 6, .inl out.2.2.1)), ((q 4), .inl (gI g, 6, .inl out.2.2.2.1)), ((q 5), .inl (gI g, 8, .inl out.2.2.2.2.2.2.1)), ((q 6), .inl (gI g, 8, .inl out.2.2.2.2.2.2.2.1)), ((q 16), .inl (gI g, 160, .inl out.2.2.2.2.2.2.2.2.2.1)), ((q 17), .inl (gZ g, 2, .inl out.2.2.2.2.2.2.2.2.2.2.1))] A) ar s 0 0 A = QQ
  unfold f_X12_image at hf
  refine lv_iload_n hx hb dX12_image_0 rfl (lv_at hl 1 rfl) ?_
  refine lv_i2l (v := (Int32.toInt64 x1)) hx hb dX12_image_1 rfl ?_
  refine lv_lconst (v := 0) hx hb dX12_image_2 (by decide) ?_
  refine lv_lconst (v := 1) hx hb dX12_image_3 (by decide) ?_
  obtain ⟨z1, hq2, hf⟩ := bnd_some hf
  refine kR_i (va_runS (As := [.long (Int32.toInt64 x1), .long (0 : Int64), .long (1 : Int64)]) (rest := []) ⟨hx, hb, hml, hown, hts⟩ (c_X12_in l g (Int32.toInt64 x1) (0 : Int64) (1 : Int64) z1 hq2) (va_cwS 3 hts gX12_image_X12_in rfl rfl rfl (by decide +kernel) ⟨Nat.le_of_ble_eq_true rfl, Nat.le_of_ble_eq_true rfl⟩) (kpS_R (hG.now hS) (hP.subm (ws' := []) [] rfl)) rfl rfl hl.1 rfl (lv_room (Nat.le_of_ble_eq_true rfl)) dX12_image_4 ⟨Nat.le_of_ble_eq_true rfl, Nat.le_of_ble_eq_true rfl⟩) ?_
  refine lv_if_ne (tgt := 13) hx hb dX12_image_7 (by decide) (fun c3 => ?_) (fun c3 => ?_)
  · replace hf := iff_ c3 hf
    refine lv_aload_n hx hb dX12_image_13 rfl (lv_at hl 0 rfl) ?_
    refine lv_bipush (v := 80) hx hb dX12_image_14 (by decide) ?_
    refine lv_iload_n hx hb dX12_image_16 rfl (lv_at hl 1 rfl) ?_
    refine lv_imul hx hb dX12_image_17 ?_
    refine va_put (D := gD g) (ci := 10) (v := .int ((80 : Int32) * x1)) (ty := .int) (C := RX12) (T := TX12) (N := 30) hx hb hts iX12 tyX12 tyX12_ok nmX12 hown hK hP hD hS 0 rfl rfl 28 (by decide) (hts (.fieldLink RX12 299 "BeetleDriveModel" "keptAt" "I") (List.mem_of_getElem? (i := 1) rfl)) (fun _ h9 => h9) rfl (tyX12_ok 28 (by decide)) rfl rfl (Nat.le_of_ble_eq_true rfl) dX12_image_18 (fun H locs hP hD hS => ?_)
    have hP : va_P (gD g) vwCl [((q 0), .inr (10, oX12 q v_holder v_games v_sights v_padMany v_acts v_nothings v_wholeNow v_badAct v_badWhy v_wholeAct v_wholeWho ((80 : Int32) * x1) v_isWriting)), ((q 2), .inl (gI g, 6, .inl v_beetle)), ((q 3), .inl (gI g, 6, .inl v_points)), ((q 4), .inl (gI g, 6, .inl v_isIn)), ((q 5), .inl (gI g, 8, .inl v_sightRow)), ((q 6), .inl (gI g, 8, .inl v_sightTop)), ((q 16), .inl (gI g, 160, .inl v_kept)), ((q 17), .inl (gZ g, 2, .inl v_isKept))] H := hP
    have hD : va_D A [((q 0), .inr (10, oX12 q v_holder v_games v_sights v_padMany v_acts v_nothings v_wholeNow v_badAct v_badWhy v_wholeAct v_wholeWho ((80 : Int32) * x1) v_isWriting)), ((q 2), .inl (gI g, 6, .inl v_beetle)), ((q 3), .inl (gI g, 6, .inl v_points)), ((q 4), .inl (gI g, 6, .inl v_isIn)), ((q 5), .inl (gI g, 8, .inl v_sightRow)), ((q 6), .inl (gI g, 8, .inl v_sightTop)), ((q 16), .inl (gI g, 160, .inl v_kept)), ((q 17), .inl (gZ g, 2, .inl v_isKept))] := hD
    refine lv_aload_n hx hb dX12_image_21 rfl (lv_at hl 0 rfl) ?_
    refine lv_iconst (v := 1) hx hb dX12_image_22 (by decide) ?_
    refine va_put (D := gD g) (ci := 10) (v := .int (1 : Int32)) (ty := .boolean) (C := RX12) (T := TX12) (N := 30) hx hb hts iX12 tyX12 tyX12_ok nmX12 hown hK hP hD hS 0 rfl rfl 29 (by decide) (hts (.fieldLink RX12 295 "BeetleDriveModel" "isWriting" "Z") (List.mem_of_getElem? (i := 2) rfl)) (fun _ h9 => h9) rfl (tyX12_ok 29 (by decide)) nb1 rfl (Nat.le_of_ble_eq_true rfl) dX12_image_23 (fun H locs hP hD hS => ?_)
    have hP : va_P (gD g) vwCl [((q 0), .inr (10, oX12 q v_holder v_games v_sights v_padMany v_acts v_nothings v_wholeNow v_badAct v_badWhy v_wholeAct v_wholeWho ((80 : Int32) * x1) (1 : Int32))), ((q 2), .inl (gI g, 6, .inl v_beetle)), ((q 3), .inl (gI g, 6, .inl v_points)), ((q 4), .inl (gI g, 6, .inl v_isIn)), ((q 5), .inl (gI g, 8, .inl v_sightRow)), ((q 6), .inl (gI g, 8, .inl v_sightTop)), ((q 16), .inl (gI g, 160, .inl v_kept)), ((q 17), .inl (gZ g, 2, .inl v_isKept))] H := hP
    have hD : va_D A [((q 0), .inr (10, oX12 q v_holder v_games v_sights v_padMany v_acts v_nothings v_wholeNow v_badAct v_badWhy v_wholeAct v_wholeWho ((80 : Int32) * x1) (1 : Int32))), ((q 2), .inl (gI g, 6, .inl v_beetle)), ((q 3), .inl (gI g, 6, .inl v_points)), ((q 4), .inl (gI g, 6, .inl v_isIn)), ((q 5), .inl (gI g, 8, .inl v_sightRow)), ((q 6), .inl (gI g, 8, .inl v_sightTop)), ((q 16), .inl (gI g, 160, .inl v_kept)), ((q 17), .inl (gZ g, 2, .inl v_isKept))] := hD
    refine lv_aload_n hx hb dX12_image_26 rfl (lv_at hl 0 rfl) ?_
    obtain ⟨z4, hq5, hf⟩ := bnd_some hf
    refine kM_v (wc := [((q 0), .inr (10, oX12 q v_holder v_games v_sights v_padMany v_acts v_nothings v_wholeNow v_badAct v_badWhy v_wholeAct v_wholeWho ((80 : Int32) * x1) (1 : Int32))), ((q 2), .inl (gI g, 6, .inl v_beetle)), ((q 3), .inl (gI g, 6, .inl v_points)), ((q 4), .inl (gI g, 6, .inl v_isIn)), ((q 5), .inl (gI g, 8, .inl v_sightRow)), ((q 6), .inl (gI g, 8, .inl v_sightTop)), ((q 16), .inl (gI g, 160, .inl v_kept))]) (wr := [((q 17), .inl (gZ g, 2, .inl v_isKept))]) (w1 := [((q 0), .inr (10, oX12 q z4.2.2.2.1 z4.2.2.2.2.1 z4.2.2.2.2.2.2.2.1 v_padMany v_acts v_nothings v_wholeNow v_badAct v_badWhy v_wholeAct v_wholeWho z4.2.2.2.2.2.2.2.2.2 (1 : Int32))), ((q 2), .inl (gI g, 6, .inl z4.1)), ((q 3), .inl (gI g, 6, .inl z4.2.1)), ((q 4), .inl (gI g, 6, .inl z4.2.2.1)), ((q 5), .inl (gI g, 8, .inl z4.2.2.2.2.2.1)), ((q 6), .inl (gI g, 8, .inl z4.2.2.2.2.2.2.1)), ((q 16), .inl (gI g, 160, .inl z4.2.2.2.2.2.2.2.2.1))]) (w2 := [((q 0), .inr (10, oX12 q z4.2.2.2.1 z4.2.2.2.2.1 z4.2.2.2.2.2.2.2.1 v_padMany v_acts v_nothings v_wholeNow v_badAct v_badWhy v_wholeAct v_wholeWho z4.2.2.2.2.2.2.2.2.2 (1 : Int32))), ((q 2), .inl (gI g, 6, .inl z4.1)), ((q 3), .inl (gI g, 6, .inl z4.2.1)), ((q 4), .inl (gI g, 6, .inl z4.2.2.1)), ((q 5), .inl (gI g, 8, .inl z4.2.2.2.2.2.1)), ((q 6), .inl (gI g, 8, .inl z4.2.2.2.2.2.2.1)), ((q 16), .inl (gI g, 160, .inl z4.2.2.2.2.2.2.2.2.1)), ((q 17), .inl (gZ g, 2, .inl v_isKept))]) (va_runV (As := []) (rest := []) ⟨hx, hb, hml, hown, hts⟩ (c_X12_passAll l g q v_holder v_games v_sights v_padMany v_acts v_nothings v_wholeNow v_badAct v_badWhy v_wholeAct v_wholeWho ((80 : Int32) * x1) (1 : Int32) v_beetle v_points v_isIn v_sightRow v_sightTop v_kept z4 hq5 H.size) (cwV 0 hts gX12_image_X12_passAll rfl rfl rfl (by decide +kernel) ⟨Nat.le_of_ble_eq_true rfl, Nat.le_of_ble_eq_true rfl⟩) (kpV_M (q0 := 0) (ci := 10) hG hS hP hD hA [0, 1, 2, 3, 4, 5, 6] rfl (by decide) rfl rfl) rfl rfl hl.1 rfl (lv_room (Nat.le_of_ble_eq_true rfl)) dX12_image_27 ⟨Nat.le_of_ble_eq_true rfl, Nat.le_of_ble_eq_true rfl⟩) hP hD hS hA [0, 1, 2, 3, 4, 5, 6] [7] [1, 2, 3, 4, 5, 6, 7, 0] rfl rfl (by decide) (by decide) rfl (by decide) (fun H locs hP hD hS => ?_)
    refine lv_aload_n hx hb dX12_image_30 rfl (lv_at hl 0 rfl) ?_
    refine va_get (D := gD g) (ci := 10) (v := .ref (q 17)) (C := RX12) (T := TX12) (N := 30) hx hb hts iX12 hown hK hP 0 rfl rfl 27 (by decide) (hts (.fieldLink RX12 60 "BeetleDriveModel" "isKept" "[Z") (List.mem_of_getElem? (i := 3) rfl)) (fun _ h9 => h9) rfl dX12_image_31 ?_
    refine lv_iload_n hx hb dX12_image_34 rfl (lv_at hl 1 rfl) ?_
    refine lv_iconst (v := 1) hx hb dX12_image_35 (by decide) ?_
    obtain ⟨hi6, hf⟩ := chk_some hf
    refine va_zast hx hb hK hP hD hS 7 2 rfl rfl hi6 dX12_image_36 (fun H locs hP hD hS => ?_)
    have hP : va_P (gD g) vwCl [((q 0), .inr (10, oX12 q z4.2.2.2.1 z4.2.2.2.2.1 z4.2.2.2.2.2.2.2.1 v_padMany v_acts v_nothings v_wholeNow v_badAct v_badWhy v_wholeAct v_wholeWho z4.2.2.2.2.2.2.2.2.2 (1 : Int32))), ((q 2), .inl (gI g, 6, .inl z4.1)), ((q 3), .inl (gI g, 6, .inl z4.2.1)), ((q 4), .inl (gI g, 6, .inl z4.2.2.1)), ((q 5), .inl (gI g, 8, .inl z4.2.2.2.2.2.1)), ((q 6), .inl (gI g, 8, .inl z4.2.2.2.2.2.2.1)), ((q 16), .inl (gI g, 160, .inl z4.2.2.2.2.2.2.2.2.1)), ((q 17), .inl (gZ g, 2, .inl (upd v_isKept (Int32.toNatClampNeg x1) (vp_nar .boolean (1 : Int32)))))] H := hP
    have hD : va_D A [((q 0), .inr (10, oX12 q z4.2.2.2.1 z4.2.2.2.2.1 z4.2.2.2.2.2.2.2.1 v_padMany v_acts v_nothings v_wholeNow v_badAct v_badWhy v_wholeAct v_wholeWho z4.2.2.2.2.2.2.2.2.2 (1 : Int32))), ((q 2), .inl (gI g, 6, .inl z4.1)), ((q 3), .inl (gI g, 6, .inl z4.2.1)), ((q 4), .inl (gI g, 6, .inl z4.2.2.1)), ((q 5), .inl (gI g, 8, .inl z4.2.2.2.2.2.1)), ((q 6), .inl (gI g, 8, .inl z4.2.2.2.2.2.2.1)), ((q 16), .inl (gI g, 160, .inl z4.2.2.2.2.2.2.2.2.1)), ((q 17), .inl (gZ g, 2, .inl (upd v_isKept (Int32.toNatClampNeg x1) (vp_nar .boolean (1 : Int32)))))] := hD
    refine lv_iconst (v := 1) hx hb dX12_image_37 (by decide) ?_
    rw [← hQ, ← Option.some.inj hf]
    exact eM_i hx hb hr hlk hP hD hS rfl dX12_image_38
  · replace hf := ift c3 hf
    refine lv_bipush (v := -2) hx hb dX12_image_10 (by decide) ?_
    rw [← hQ, ← Option.some.inj hf]
    exact eM_i hx hb hr hlk hP hD hS rfl dX12_image_12
set_option maxHeartbeats 4000000 in
set_option maxRecDepth 100000 in
theorem c_X12_restore (l : Launch) (g : bG) (q : Nat → Nat) (v_holder : Int32) (v_games : Int32) (v_sights : Int32) (v_padMany : Int32) (v_acts : Int32) (v_nothings : Int32) (v_wholeNow : Int32) (v_badAct : Int32) (v_badWhy : Int32) (v_wholeAct : Int32) (v_wholeWho : Int32) (v_keptAt : Int32) (v_isWriting : Int32) (v_beetle : Nat → Int32) (v_points : Nat → Int32) (v_isIn : Nat → Int32) (v_sightRow : Nat → Int32) (v_sightTop : Nat → Int32) (v_kept : Nat → Int32) (v_isKept : Nat → Int32) (x1 : Int32) (out : Int32 × (Nat → Int32) × (Nat → Int32) × (Nat → Int32) × Int32 × Int32 × (Nat → Int32) × (Nat → Int32) × Int32 × (Nat → Int32) × Int32 × Int32) (hf : f_X12_restore v_beetle v_points v_isIn v_holder v_games v_sightRow v_sightTop v_sights v_kept v_isKept v_keptAt v_isWriting x1 = some out) : Mi l g yX12_restore wsX12_restore ({ frames := 3, cells := 0, slots := 0, locals := 65 } : Room) [.ref (q 0), .int x1] [((q 0), .inr (10, oX12 q v_holder v_games v_sights v_padMany v_acts v_nothings v_wholeNow v_badAct v_badWhy v_wholeAct v_wholeWho v_keptAt v_isWriting)), ((q 2), .inl (gI g, 6, .inl v_beetle)), ((q 3), .inl (gI g, 6, .inl v_points)), ((q 4), .inl (gI g, 6, .inl v_isIn)), ((q 5), .inl (gI g, 8, .inl v_sightRow)), ((q 6), .inl (gI g, 8, .inl v_sightTop)), ((q 16), .inl (gI g, 160, .inl v_kept)), ((q 17), .inl (gZ g, 2, .inl v_isKept))] out.1 [((q 0), .inr (10, oX12 q out.2.2.2.2.1 out.2.2.2.2.2.1 out.2.2.2.2.2.2.2.2.1 v_padMany v_acts v_nothings v_wholeNow v_badAct v_badWhy v_wholeAct v_wholeWho out.2.2.2.2.2.2.2.2.2.2.1 out.2.2.2.2.2.2.2.2.2.2.2)), ((q 2), .inl (gI g, 6, .inl out.2.1)), ((q 3), .inl (gI g, 6, .inl out.2.2.1)), ((q 4), .inl (gI g, 6, .inl out.2.2.2.1)), ((q 5), .inl (gI g, 8, .inl out.2.2.2.2.2.2.1)), ((q 6), .inl (gI g, 8, .inl out.2.2.2.2.2.2.2.1)), ((q 16), .inl (gI g, 160, .inl out.2.2.2.2.2.2.2.2.2.1)), ((q 17), .inl (gZ g, 2, .inl v_isKept))] := by
  refine ofM (Qc := fun A => Qi g out.1 [((q 0), .inr (10, oX12 q out.2.2.2.2.1 out.2.2.2.2.2.1 out.2.2.2.2.2.2.2.2.1 v_padMany v_acts v_nothings v_wholeNow v_badAct v_badWhy v_wholeAct v_wholeWho out.2.2.2.2.2.2.2.2.2.2.1 out.2.2.2.2.2.2.2.2.2.2.2)), ((q 2), .inl (gI g, 6, .inl out.2.1)), ((q 3), .inl (gI g, 6, .inl out.2.2.1)), ((q 4), .inl (gI g, 6, .inl out.2.2.2.1)), ((q 5), .inl (gI g, 8, .inl out.2.2.2.2.2.2.1)), ((q 6), .inl (gI g, 8, .inl out.2.2.2.2.2.2.2.1)), ((q 16), .inl (gI g, 160, .inl out.2.2.2.2.2.2.2.2.2.1)), ((q 17), .inl (gZ g, 2, .inl v_isKept))] A) (cc := cX12_restore) (nL := 2) (ret := some .int) (by decide) rfl (Nat.le_of_ble_eq_true rfl) ?_
  intro p e s m below meth c ar A hC hA hP hD hG ls hl
  have hS : va_S A s.heap s.heap [] := va_S.rf
  obtain ⟨hx, hb, hml, hown, hts, hr, hlk, -⟩ := hC
  have hl : lv_has ls 2 [(0, .ref (q 0)), (1, .int x1)] := hl
  have hK := hG.1
  have iX12 : ∀ w ∈ u_ws RX12 TX12 30, w ∈ wsX12_restore := fun w h => List.mem_cons_of_mem _ (List.mem_append_right _ (h))
  generalize hQ : MQ below (Qi g out.1 [((q 0), .inr (10, oX12 q out.2.2.2.2.1 out.2.2.2.2.2.1 out.2.2.2.2.2.2.2.2.1 v_padMany v_acts v_nothings v_wholeNow v_badAct v_badWhy v_wholeAct v_wholeWho out.2.2.2.2.2.2.2.2.2.2.1 out.2.2.2.2.2.2.2.2.2.2.2)), ((q 2), .inl (gI g, 6, .inl out.2.1)), ((q 3), .inl (gI g, 6, .inl out.2.2.1)), ((q 4), .inl (gI g, 6, .inl out.2.2.2.1)), ((q 5), .inl (gI g, 8, .inl out.2.2.2.2.2.2.1)), ((q 6), .inl (gI g, 8, .inl out.2.2.2.2.2.2.2.1)), ((q 16), .inl (gI g, 160, .inl out.2.2.2.2.2.2.2.2.2.1)), ((q 17), .inl (gZ g, 2, .inl v_isKept))] A) ar s 0 0 A = QQ
  unfold f_X12_restore at hf
  refine lv_iload_n hx hb dX12_restore_0 rfl (lv_at hl 1 rfl) ?_
  refine lv_i2l (v := (Int32.toInt64 x1)) hx hb dX12_restore_1 rfl ?_
  refine lv_lconst (v := 0) hx hb dX12_restore_2 (by decide) ?_
  refine lv_lconst (v := 1) hx hb dX12_restore_3 (by decide) ?_
  obtain ⟨z1, hq2, hf⟩ := bnd_some hf
  refine kR_i (va_runS (As := [.long (Int32.toInt64 x1), .long (0 : Int64), .long (1 : Int64)]) (rest := []) ⟨hx, hb, hml, hown, hts⟩ (c_X12_in l g (Int32.toInt64 x1) (0 : Int64) (1 : Int64) z1 hq2) (va_cwS 3 hts gX12_restore_X12_in rfl rfl rfl (by decide +kernel) ⟨Nat.le_of_ble_eq_true rfl, Nat.le_of_ble_eq_true rfl⟩) (kpS_R (hG.now hS) (hP.subm (ws' := []) [] rfl)) rfl rfl hl.1 rfl (lv_room (Nat.le_of_ble_eq_true rfl)) dX12_restore_4 ⟨Nat.le_of_ble_eq_true rfl, Nat.le_of_ble_eq_true rfl⟩) ?_
  refine lv_if_ne (tgt := 13) hx hb dX12_restore_7 (by decide) (fun c3 => ?_) (fun c3 => ?_)
  · replace hf := iff_ c3 hf
    refine lv_aload_n hx hb dX12_restore_13 rfl (lv_at hl 0 rfl) ?_
    refine va_get (D := gD g) (ci := 10) (v := .ref (q 17)) (C := RX12) (T := TX12) (N := 30) hx hb hts iX12 hown hK hP 0 rfl rfl 27 (by decide) (hts (.fieldLink RX12 60 "BeetleDriveModel" "isKept" "[Z") (List.mem_of_getElem? (i := 1) rfl)) (fun _ h9 => h9) rfl dX12_restore_14 ?_
    refine lv_iload_n hx hb dX12_restore_17 rfl (lv_at hl 1 rfl) ?_
    obtain ⟨hi4, hf⟩ := chk_some hf
    refine va_zald hx hb hK hP 7 2 rfl rfl hi4 dX12_restore_18 ?_
    refine lv_if_ne (tgt := 25) hx hb dX12_restore_19 (by decide) (fun c5 => ?_) (fun c5 => ?_)
    · replace hf := iff_ c5 hf
      refine lv_aload_n hx hb dX12_restore_25 rfl (lv_at hl 0 rfl) ?_
      refine lv_bipush (v := 80) hx hb dX12_restore_26 (by decide) ?_
      refine lv_iload_n hx hb dX12_restore_28 rfl (lv_at hl 1 rfl) ?_
      refine lv_imul hx hb dX12_restore_29 ?_
      refine va_put (D := gD g) (ci := 10) (v := .int ((80 : Int32) * x1)) (ty := .int) (C := RX12) (T := TX12) (N := 30) hx hb hts iX12 tyX12 tyX12_ok nmX12 hown hK hP hD hS 0 rfl rfl 28 (by decide) (hts (.fieldLink RX12 299 "BeetleDriveModel" "keptAt" "I") (List.mem_of_getElem? (i := 2) rfl)) (fun _ h9 => h9) rfl (tyX12_ok 28 (by decide)) rfl rfl (Nat.le_of_ble_eq_true rfl) dX12_restore_30 (fun H locs hP hD hS => ?_)
      have hP : va_P (gD g) vwCl [((q 0), .inr (10, oX12 q v_holder v_games v_sights v_padMany v_acts v_nothings v_wholeNow v_badAct v_badWhy v_wholeAct v_wholeWho ((80 : Int32) * x1) v_isWriting)), ((q 2), .inl (gI g, 6, .inl v_beetle)), ((q 3), .inl (gI g, 6, .inl v_points)), ((q 4), .inl (gI g, 6, .inl v_isIn)), ((q 5), .inl (gI g, 8, .inl v_sightRow)), ((q 6), .inl (gI g, 8, .inl v_sightTop)), ((q 16), .inl (gI g, 160, .inl v_kept)), ((q 17), .inl (gZ g, 2, .inl v_isKept))] H := hP
      have hD : va_D A [((q 0), .inr (10, oX12 q v_holder v_games v_sights v_padMany v_acts v_nothings v_wholeNow v_badAct v_badWhy v_wholeAct v_wholeWho ((80 : Int32) * x1) v_isWriting)), ((q 2), .inl (gI g, 6, .inl v_beetle)), ((q 3), .inl (gI g, 6, .inl v_points)), ((q 4), .inl (gI g, 6, .inl v_isIn)), ((q 5), .inl (gI g, 8, .inl v_sightRow)), ((q 6), .inl (gI g, 8, .inl v_sightTop)), ((q 16), .inl (gI g, 160, .inl v_kept)), ((q 17), .inl (gZ g, 2, .inl v_isKept))] := hD
      refine lv_aload_n hx hb dX12_restore_33 rfl (lv_at hl 0 rfl) ?_
      refine lv_iconst (v := 0) hx hb dX12_restore_34 (by decide) ?_
      refine va_put (D := gD g) (ci := 10) (v := .int (0 : Int32)) (ty := .boolean) (C := RX12) (T := TX12) (N := 30) hx hb hts iX12 tyX12 tyX12_ok nmX12 hown hK hP hD hS 0 rfl rfl 29 (by decide) (hts (.fieldLink RX12 295 "BeetleDriveModel" "isWriting" "Z") (List.mem_of_getElem? (i := 3) rfl)) (fun _ h9 => h9) rfl (tyX12_ok 29 (by decide)) nb0 rfl (Nat.le_of_ble_eq_true rfl) dX12_restore_35 (fun H locs hP hD hS => ?_)
      have hP : va_P (gD g) vwCl [((q 0), .inr (10, oX12 q v_holder v_games v_sights v_padMany v_acts v_nothings v_wholeNow v_badAct v_badWhy v_wholeAct v_wholeWho ((80 : Int32) * x1) (0 : Int32))), ((q 2), .inl (gI g, 6, .inl v_beetle)), ((q 3), .inl (gI g, 6, .inl v_points)), ((q 4), .inl (gI g, 6, .inl v_isIn)), ((q 5), .inl (gI g, 8, .inl v_sightRow)), ((q 6), .inl (gI g, 8, .inl v_sightTop)), ((q 16), .inl (gI g, 160, .inl v_kept)), ((q 17), .inl (gZ g, 2, .inl v_isKept))] H := hP
      have hD : va_D A [((q 0), .inr (10, oX12 q v_holder v_games v_sights v_padMany v_acts v_nothings v_wholeNow v_badAct v_badWhy v_wholeAct v_wholeWho ((80 : Int32) * x1) (0 : Int32))), ((q 2), .inl (gI g, 6, .inl v_beetle)), ((q 3), .inl (gI g, 6, .inl v_points)), ((q 4), .inl (gI g, 6, .inl v_isIn)), ((q 5), .inl (gI g, 8, .inl v_sightRow)), ((q 6), .inl (gI g, 8, .inl v_sightTop)), ((q 16), .inl (gI g, 160, .inl v_kept)), ((q 17), .inl (gZ g, 2, .inl v_isKept))] := hD
      refine lv_aload_n hx hb dX12_restore_38 rfl (lv_at hl 0 rfl) ?_
      obtain ⟨z6, hq7, hf⟩ := bnd_some hf
      refine kM_v (wc := [((q 0), .inr (10, oX12 q v_holder v_games v_sights v_padMany v_acts v_nothings v_wholeNow v_badAct v_badWhy v_wholeAct v_wholeWho ((80 : Int32) * x1) (0 : Int32))), ((q 2), .inl (gI g, 6, .inl v_beetle)), ((q 3), .inl (gI g, 6, .inl v_points)), ((q 4), .inl (gI g, 6, .inl v_isIn)), ((q 5), .inl (gI g, 8, .inl v_sightRow)), ((q 6), .inl (gI g, 8, .inl v_sightTop)), ((q 16), .inl (gI g, 160, .inl v_kept))]) (wr := [((q 17), .inl (gZ g, 2, .inl v_isKept))]) (w1 := [((q 0), .inr (10, oX12 q z6.2.2.2.1 z6.2.2.2.2.1 z6.2.2.2.2.2.2.2.1 v_padMany v_acts v_nothings v_wholeNow v_badAct v_badWhy v_wholeAct v_wholeWho z6.2.2.2.2.2.2.2.2.2 (0 : Int32))), ((q 2), .inl (gI g, 6, .inl z6.1)), ((q 3), .inl (gI g, 6, .inl z6.2.1)), ((q 4), .inl (gI g, 6, .inl z6.2.2.1)), ((q 5), .inl (gI g, 8, .inl z6.2.2.2.2.2.1)), ((q 6), .inl (gI g, 8, .inl z6.2.2.2.2.2.2.1)), ((q 16), .inl (gI g, 160, .inl z6.2.2.2.2.2.2.2.2.1))]) (w2 := [((q 0), .inr (10, oX12 q z6.2.2.2.1 z6.2.2.2.2.1 z6.2.2.2.2.2.2.2.1 v_padMany v_acts v_nothings v_wholeNow v_badAct v_badWhy v_wholeAct v_wholeWho z6.2.2.2.2.2.2.2.2.2 (0 : Int32))), ((q 2), .inl (gI g, 6, .inl z6.1)), ((q 3), .inl (gI g, 6, .inl z6.2.1)), ((q 4), .inl (gI g, 6, .inl z6.2.2.1)), ((q 5), .inl (gI g, 8, .inl z6.2.2.2.2.2.1)), ((q 6), .inl (gI g, 8, .inl z6.2.2.2.2.2.2.1)), ((q 16), .inl (gI g, 160, .inl z6.2.2.2.2.2.2.2.2.1)), ((q 17), .inl (gZ g, 2, .inl v_isKept))]) (va_runV (As := []) (rest := []) ⟨hx, hb, hml, hown, hts⟩ (c_X12_passAll l g q v_holder v_games v_sights v_padMany v_acts v_nothings v_wholeNow v_badAct v_badWhy v_wholeAct v_wholeWho ((80 : Int32) * x1) (0 : Int32) v_beetle v_points v_isIn v_sightRow v_sightTop v_kept z6 hq7 H.size) (cwV 0 hts gX12_restore_X12_passAll rfl rfl rfl (by decide +kernel) ⟨Nat.le_of_ble_eq_true rfl, Nat.le_of_ble_eq_true rfl⟩) (kpV_M (q0 := 0) (ci := 10) hG hS hP hD hA [0, 1, 2, 3, 4, 5, 6] rfl (by decide) rfl rfl) rfl rfl hl.1 rfl (lv_room (Nat.le_of_ble_eq_true rfl)) dX12_restore_39 ⟨Nat.le_of_ble_eq_true rfl, Nat.le_of_ble_eq_true rfl⟩) hP hD hS hA [0, 1, 2, 3, 4, 5, 6] [7] [1, 2, 3, 4, 5, 6, 7, 0] rfl rfl (by decide) (by decide) rfl (by decide) (fun H locs hP hD hS => ?_)
      refine lv_iconst (v := 1) hx hb dX12_restore_42 (by decide) ?_
      rw [← hQ, ← Option.some.inj hf]
      exact eM_i hx hb hr hlk hP hD hS rfl dX12_restore_43
    · replace hf := ift c5 hf
      refine lv_bipush (v := -3) hx hb dX12_restore_22 (by decide) ?_
      rw [← hQ, ← Option.some.inj hf]
      exact eM_i hx hb hr hlk hP hD hS rfl dX12_restore_24
  · replace hf := ift c3 hf
    refine lv_bipush (v := -2) hx hb dX12_restore_10 (by decide) ?_
    rw [← hQ, ← Option.some.inj hf]
    exact eM_i hx hb hr hlk hP hD hS rfl dX12_restore_12
set_option maxHeartbeats 4000000 in
set_option maxRecDepth 100000 in
theorem c_X12_toldOfPlayer (l : Launch) (g : bG) (q : Nat → Nat) (v_holder : Int32) (v_games : Int32) (v_sights : Int32) (v_padMany : Int32) (v_acts : Int32) (v_nothings : Int32) (v_wholeNow : Int32) (v_badAct : Int32) (v_badWhy : Int32) (v_wholeAct : Int32) (v_wholeWho : Int32) (v_keptAt : Int32) (v_isWriting : Int32) (v_beetle : Nat → Int32) (v_points : Nat → Int32) (v_isIn : Nat → Int32) (x1 : Int32) (out : Int32) (hf : f_X12_toldOfPlayer v_beetle v_points v_isIn x1 = some out) : Ri l g yX12_toldOfPlayer wsX12_toldOfPlayer ({ frames := 2, cells := 0, slots := 0, locals := 45 } : Room) [.ref (q 0), .int x1] [((q 0), .inr (10, oX12 q v_holder v_games v_sights v_padMany v_acts v_nothings v_wholeNow v_badAct v_badWhy v_wholeAct v_wholeWho v_keptAt v_isWriting)), ((q 2), .inl (gI g, 6, .inl v_beetle)), ((q 3), .inl (gI g, 6, .inl v_points)), ((q 4), .inl (gI g, 6, .inl v_isIn))] out := by
  refine ofR (cc := cX12_toldOfPlayer) (nL := 3) (ret := some .int) (by decide) rfl (Nat.le_of_ble_eq_true rfl) ?_
  intro p e s m below meth c ar hC hP hG ls hl
  have hS : va_S (fun _ => False) s.heap s.heap [] := va_S.rf
  obtain ⟨hx, hb, hml, hown, hts, hr, hlk, -⟩ := hC
  have hl : lv_has ls 3 [(0, .ref (q 0)), (1, .int x1)] := hl
  have hK := hG.1
  have iX12 : ∀ w ∈ u_ws RX12 TX12 30, w ∈ wsX12_toldOfPlayer := fun w h => List.mem_cons_of_mem _ (List.mem_append_right _ (h))
  generalize hQ : MQ below (vp_Si (fun x => x = out)) ar s 0 0 (fun _ => False) = QQ
  unfold f_X12_toldOfPlayer at hf
  refine lv_iload_n hx hb dX12_toldOfPlayer_0 rfl (lv_at hl 1 rfl) ?_
  refine lv_bipush (v := 10) hx hb dX12_toldOfPlayer_1 (by decide) ?_
  refine lv_irem hx hb dX12_toldOfPlayer_3 (by decide) ?_
  refine lv_istore_n (lv' := [(2, .int (x1 - x1 / (10 : Int32) * (10 : Int32))), (0, .ref (q 0)), (1, .int x1)]) hx hb dX12_toldOfPlayer_4 rfl hl (by decide) rfl (fun ls hl => ?_)
  refine lv_iload_n hx hb dX12_toldOfPlayer_5 rfl (lv_at hl 0 rfl) ?_
  obtain ⟨z1, hq2, hf⟩ := bnd_some hf
  refine kR_i (va_runS (As := [.int (x1 - x1 / (10 : Int32) * (10 : Int32))]) (rest := []) ⟨hx, hb, hml, hown, hts⟩ (c_X12_isPlayer l g (x1 - x1 / (10 : Int32) * (10 : Int32)) z1 hq2) (va_cwS 1 hts gX12_toldOfPlayer_X12_isPlayer rfl rfl rfl (by decide +kernel) ⟨Nat.le_of_ble_eq_true rfl, Nat.le_of_ble_eq_true rfl⟩) (kpS_R hG (hP.subm (ws' := []) [] rfl)) rfl rfl hl.1 rfl (lv_room (Nat.le_of_ble_eq_true rfl)) dX12_toldOfPlayer_6 ⟨Nat.le_of_ble_eq_true rfl, Nat.le_of_ble_eq_true rfl⟩) ?_
  refine lv_if_ne (tgt := 15) hx hb dX12_toldOfPlayer_9 (by decide) (fun c3 => ?_) (fun c3 => ?_)
  · replace hf := iff_ c3 hf
    refine lv_iload_n hx hb dX12_toldOfPlayer_15 rfl (lv_at hl 2 rfl) ?_
    refine lv_bipush (v := 20) hx hb dX12_toldOfPlayer_16 (by decide) ?_
    refine lv_icmp_ge (tgt := 30) hx hb dX12_toldOfPlayer_18 (by decide) (fun c4 => ?_) (fun c4 => ?_)
    · replace hf := ift c4 hf
      refine lv_iload_n hx hb dX12_toldOfPlayer_30 rfl (lv_at hl 2 rfl) ?_
      refine lv_bipush (v := 30) hx hb dX12_toldOfPlayer_31 (by decide) ?_
      refine lv_icmp_ge (tgt := 45) hx hb dX12_toldOfPlayer_33 (by decide) (fun c5 => ?_) (fun c5 => ?_)
      · replace hf := ift c5 hf
        refine lv_aload_n hx hb dX12_toldOfPlayer_45 rfl (lv_at hl 1 rfl) ?_
        refine va_get (D := gD g) (ci := 10) (v := .ref (q 4)) (C := RX12) (T := TX12) (N := 30) hx hb hts iX12 hown hK hP 0 rfl rfl 3 (by decide) (hts (.fieldLink RX12 19 "BeetleDriveModel" "isIn" "[I") (List.mem_of_getElem? (i := 3) rfl)) (fun _ h9 => h9) rfl dX12_toldOfPlayer_46 ?_
        refine lv_iload_n hx hb dX12_toldOfPlayer_49 rfl (lv_at hl 0 rfl) ?_
        obtain ⟨hi6, hf⟩ := chk_some hf
        refine va_iald hx hb hK hP 3 0 rfl rfl hi6 dX12_toldOfPlayer_50 ?_
        rw [← hQ, ← Option.some.inj hf]
        exact eR_i hx hb hr hlk rfl dX12_toldOfPlayer_51
      · replace hf := iff_ c5 hf
        refine lv_aload_n hx hb dX12_toldOfPlayer_36 rfl (lv_at hl 1 rfl) ?_
        refine va_get (D := gD g) (ci := 10) (v := .ref (q 3)) (C := RX12) (T := TX12) (N := 30) hx hb hts iX12 hown hK hP 0 rfl rfl 2 (by decide) (hts (.fieldLink RX12 16 "BeetleDriveModel" "points" "[I") (List.mem_of_getElem? (i := 2) rfl)) (fun _ h9 => h9) rfl dX12_toldOfPlayer_37 ?_
        refine lv_iload_n hx hb dX12_toldOfPlayer_40 rfl (lv_at hl 0 rfl) ?_
        obtain ⟨hi7, hf⟩ := chk_some hf
        refine va_iald hx hb hK hP 2 0 rfl rfl hi7 dX12_toldOfPlayer_41 ?_
        refine lv_goto (tgt := 51) hx hb dX12_toldOfPlayer_42 (by decide) ?_
        rw [← hQ, ← Option.some.inj hf]
        exact eR_i hx hb hr hlk rfl dX12_toldOfPlayer_51
    · replace hf := iff_ c4 hf
      refine lv_aload_n hx hb dX12_toldOfPlayer_21 rfl (lv_at hl 1 rfl) ?_
      refine va_get (D := gD g) (ci := 10) (v := .ref (q 2)) (C := RX12) (T := TX12) (N := 30) hx hb hts iX12 hown hK hP 0 rfl rfl 1 (by decide) (hts (.fieldLink RX12 13 "BeetleDriveModel" "beetle" "[I") (List.mem_of_getElem? (i := 1) rfl)) (fun _ h9 => h9) rfl dX12_toldOfPlayer_22 ?_
      refine lv_iload_n hx hb dX12_toldOfPlayer_25 rfl (lv_at hl 0 rfl) ?_
      obtain ⟨hi8, hf⟩ := chk_some hf
      refine va_iald hx hb hK hP 1 0 rfl rfl hi8 dX12_toldOfPlayer_26 ?_
      refine lv_goto (tgt := 51) hx hb dX12_toldOfPlayer_27 (by decide) ?_
      rw [← hQ, ← Option.some.inj hf]
      exact eR_i hx hb hr hlk rfl dX12_toldOfPlayer_51
  · replace hf := ift c3 hf
    refine lv_bipush (v := -2) hx hb dX12_toldOfPlayer_12 (by decide) ?_
    rw [← hQ, ← Option.some.inj hf]
    exact eR_i hx hb hr hlk rfl dX12_toldOfPlayer_14
set_option maxHeartbeats 4000000 in
set_option maxRecDepth 100000 in
theorem c_X12_told (l : Launch) (g : bG) (q : Nat → Nat) (v_holder : Int32) (v_games : Int32) (v_sights : Int32) (v_padMany : Int32) (v_acts : Int32) (v_nothings : Int32) (v_wholeNow : Int32) (v_badAct : Int32) (v_badWhy : Int32) (v_wholeAct : Int32) (v_wholeWho : Int32) (v_keptAt : Int32) (v_isWriting : Int32) (v_beetle : Nat → Int32) (v_points : Nat → Int32) (v_isIn : Nat → Int32) (x1 : Int32) (out : Int32) (hf : f_X12_told v_beetle v_points v_isIn v_holder v_games v_sights v_padMany x1 = some out) : Ri l g yX12_told wsX12_told ({ frames := 3, cells := 0, slots := 0, locals := 67 } : Room) [.ref (q 0), .int x1] [((q 0), .inr (10, oX12 q v_holder v_games v_sights v_padMany v_acts v_nothings v_wholeNow v_badAct v_badWhy v_wholeAct v_wholeWho v_keptAt v_isWriting)), ((q 2), .inl (gI g, 6, .inl v_beetle)), ((q 3), .inl (gI g, 6, .inl v_points)), ((q 4), .inl (gI g, 6, .inl v_isIn))] out := by
  refine ofR (cc := cX12_told) (nL := 2) (ret := some .int) (by decide) rfl (Nat.le_of_ble_eq_true rfl) ?_
  intro p e s m below meth c ar hC hP hG ls hl
  have hS : va_S (fun _ => False) s.heap s.heap [] := va_S.rf
  obtain ⟨hx, hb, hml, hown, hts, hr, hlk, -⟩ := hC
  have hl : lv_has ls 2 [(0, .ref (q 0)), (1, .int x1)] := hl
  have hK := hG.1
  have iX12 : ∀ w ∈ u_ws RX12 TX12 30, w ∈ wsX12_told := fun w h => List.mem_cons_of_mem _ (List.mem_append_right _ (h))
  generalize hQ : MQ below (vp_Si (fun x => x = out)) ar s 0 0 (fun _ => False) = QQ
  unfold f_X12_told at hf
  refine lv_iload_n hx hb dX12_told_0 rfl (lv_at hl 1 rfl) ?_
  refine lv_i2l (v := (Int32.toInt64 x1)) hx hb dX12_told_1 rfl ?_
  refine lv_ldc2 (v := 10) hx hb hown (hts (.constantLong RX12 312 (10)) (List.mem_of_getElem? (i := 1) rfl)) dX12_told_2 ?_
  refine lv_ldc2 (v := 39) hx hb hown (hts (.constantLong RX12 314 (39)) (List.mem_of_getElem? (i := 2) rfl)) dX12_told_5 ?_
  obtain ⟨z1, hq2, hf⟩ := bnd_some hf
  refine kR_i (va_runS (As := [.long (Int32.toInt64 x1), .long (10 : Int64), .long (39 : Int64)]) (rest := []) ⟨hx, hb, hml, hown, hts⟩ (c_X12_in l g (Int32.toInt64 x1) (10 : Int64) (39 : Int64) z1 hq2) (va_cwS 3 hts gX12_told_X12_in rfl rfl rfl (by decide +kernel) ⟨Nat.le_of_ble_eq_true rfl, Nat.le_of_ble_eq_true rfl⟩) (kpS_R hG (hP.subm (ws' := []) [] rfl)) rfl rfl hl.1 rfl (lv_room (Nat.le_of_ble_eq_true rfl)) dX12_told_8 ⟨Nat.le_of_ble_eq_true rfl, Nat.le_of_ble_eq_true rfl⟩) ?_
  refine lv_if_eq (tgt := 20) hx hb dX12_told_11 (by decide) (fun c3 => ?_) (fun c3 => ?_)
  · replace hf := ift c3 hf
    refine lv_iload_n hx hb dX12_told_20 rfl (lv_at hl 1 rfl) ?_
    by_cases c4 : x1 = 0
    · replace hf := ift c4 hf
      refine lv_tableIn (off := 31) (tgt := 52) hx hb dX12_told_21 (by rw [c4]; decide) (by rw [c4]; decide) (by rw [c4]; rfl) (by decide) ?_
      refine lv_aload_n hx hb dX12_told_52 rfl (lv_at hl 0 rfl) ?_
      refine va_get (D := gD g) (ci := 10) (v := .int v_padMany) (C := RX12) (T := TX12) (N := 30) hx hb hts iX12 hown hK hP 0 rfl rfl 10 (by decide) (hts (.fieldLink RX12 99 "BeetleDriveModel" "padMany" "I") (List.mem_of_getElem? (i := 3) rfl)) (fun _ h9 => h9) rfl dX12_told_53 ?_
      rw [← hQ, ← Option.some.inj hf]
      exact eR_i hx hb hr hlk rfl dX12_told_56
    · replace hf := iff_ c4 hf
      by_cases c5 : x1 = 1
      · replace hf := ift c5 hf
        refine lv_tableIn (off := 36) (tgt := 57) hx hb dX12_told_21 (by rw [c5]; decide) (by rw [c5]; decide) (by rw [c5]; rfl) (by decide) ?_
        refine lv_aload_n hx hb dX12_told_57 rfl (lv_at hl 0 rfl) ?_
        refine va_get (D := gD g) (ci := 10) (v := .int v_holder) (C := RX12) (T := TX12) (N := 30) hx hb hts iX12 hown hK hP 0 rfl rfl 4 (by decide) (hts (.fieldLink RX12 91 "BeetleDriveModel" "holder" "I") (List.mem_of_getElem? (i := 4) rfl)) (fun _ h9 => h9) rfl dX12_told_58 ?_
        rw [← hQ, ← Option.some.inj hf]
        exact eR_i hx hb hr hlk rfl dX12_told_61
      · replace hf := iff_ c5 hf
        by_cases c6 : x1 = 2
        · replace hf := ift c6 hf
          refine lv_tableIn (off := 41) (tgt := 62) hx hb dX12_told_21 (by rw [c6]; decide) (by rw [c6]; decide) (by rw [c6]; rfl) (by decide) ?_
          refine lv_aload_n hx hb dX12_told_62 rfl (lv_at hl 0 rfl) ?_
          refine va_get (D := gD g) (ci := 10) (v := .int v_games) (C := RX12) (T := TX12) (N := 30) hx hb hts iX12 hown hK hP 0 rfl rfl 5 (by decide) (hts (.fieldLink RX12 123 "BeetleDriveModel" "games" "I") (List.mem_of_getElem? (i := 5) rfl)) (fun _ h9 => h9) rfl dX12_told_63 ?_
          rw [← hQ, ← Option.some.inj hf]
          exact eR_i hx hb hr hlk rfl dX12_told_66
        · replace hf := iff_ c6 hf
          by_cases c7 : x1 = 3
          · replace hf := ift c7 hf
            refine lv_tableIn (off := 46) (tgt := 67) hx hb dX12_told_21 (by rw [c7]; decide) (by rw [c7]; decide) (by rw [c7]; rfl) (by decide) ?_
            refine lv_aload_n hx hb dX12_told_67 rfl (lv_at hl 0 rfl) ?_
            refine va_get (D := gD g) (ci := 10) (v := .int v_sights) (C := RX12) (T := TX12) (N := 30) hx hb hts iX12 hown hK hP 0 rfl rfl 8 (by decide) (hts (.fieldLink RX12 269 "BeetleDriveModel" "sights" "I") (List.mem_of_getElem? (i := 6) rfl)) (fun _ h9 => h9) rfl dX12_told_68 ?_
            rw [← hQ, ← Option.some.inj hf]
            exact eR_i hx hb hr hlk rfl dX12_told_71
          · replace hf := iff_ c7 hf
            have ec4 := lv_neT c4 (a := 0) (by decide)
            have ec5 := lv_neT c5 (a := 1) (by decide)
            have ec6 := lv_neT c6 (a := 2) (by decide)
            have ec7 := lv_neT c7 (a := 3) (by decide)
            refine lv_tableOut (tgt := 72) hx hb dX12_told_21 (by omega) (by decide) ?_
            refine lv_bipush (v := -2) hx hb dX12_told_72 (by decide) ?_
            rw [← hQ, ← Option.some.inj hf]
            exact eR_i hx hb hr hlk rfl dX12_told_74
  · replace hf := iff_ c3 hf
    refine lv_aload_n hx hb dX12_told_14 rfl (lv_at hl 0 rfl) ?_
    refine lv_iload_n hx hb dX12_told_15 rfl (lv_at hl 1 rfl) ?_
    obtain ⟨z8, hq9, hf⟩ := bnd_some hf
    refine kR_i (va_runV (As := [.int x1]) (rest := []) ⟨hx, hb, hml, hown, hts⟩ (c_X12_toldOfPlayer l g q v_holder v_games v_sights v_padMany v_acts v_nothings v_wholeNow v_badAct v_badWhy v_wholeAct v_wholeWho v_keptAt v_isWriting v_beetle v_points v_isIn x1 z8 hq9) (cwV 1 hts gX12_told_X12_toldOfPlayer rfl rfl rfl (by decide +kernel) ⟨Nat.le_of_ble_eq_true rfl, Nat.le_of_ble_eq_true rfl⟩) (kpV_R (q0 := 0) (ci := 10) hG (hP.subm (ws' := [((q 0), .inr (10, oX12 q v_holder v_games v_sights v_padMany v_acts v_nothings v_wholeNow v_badAct v_badWhy v_wholeAct v_wholeWho v_keptAt v_isWriting)), ((q 2), .inl (gI g, 6, .inl v_beetle)), ((q 3), .inl (gI g, 6, .inl v_points)), ((q 4), .inl (gI g, 6, .inl v_isIn))]) [0, 1, 2, 3] rfl) rfl rfl) rfl rfl hl.1 rfl (lv_room (Nat.le_of_ble_eq_true rfl)) dX12_told_16 ⟨Nat.le_of_ble_eq_true rfl, Nat.le_of_ble_eq_true rfl⟩) ?_
    rw [← hQ, ← Option.some.inj hf]
    exact eR_i hx hb hr hlk rfl dX12_told_19
