/-! ===== walks, by program ===== -/
set_option maxHeartbeats 4000000 in
set_option maxRecDepth 100000 in
theorem c_X11_player (l : Launch) (g : bG) (q : Nat → Nat) (v_now_inBits : Int32) (v_now_holder : Int32) (v_now_game : Int32) (v_now_drawn : Nat → Int32) (v_now_points : Nat → Int32) (x1 : Int32) (x2 : Int32) (x3 : Int32) (out : Int32 × (Nat → Int32) × (Nat → Int32)) (hf : f_X11_player v_now_drawn v_now_points x1 x2 x3 = some out) : Mi l g yX11_player wsX11_player ({ frames := 3, cells := 0, slots := 0, locals := 65 } : Room) [.ref (q 0), .int x1, .int x2, .int x3] [((q 0), .inr (9, oX11 q)), ((q 1), .inr (7, [.ref (q 2), .ref (q 3), .int v_now_inBits, .int v_now_holder, .int v_now_game])), ((q 2), .inl (gI g, 6, .inl v_now_drawn)), ((q 3), .inl (gI g, 6, .inl v_now_points))] out.1 [((q 0), .inr (9, oX11 q)), ((q 1), .inr (7, [.ref (q 2), .ref (q 3), .int v_now_inBits, .int v_now_holder, .int v_now_game])), ((q 2), .inl (gI g, 6, .inl out.2.1)), ((q 3), .inl (gI g, 6, .inl out.2.2))] := by
  refine ofM (Qc := fun A => Qi g out.1 [((q 0), .inr (9, oX11 q)), ((q 1), .inr (7, [.ref (q 2), .ref (q 3), .int v_now_inBits, .int v_now_holder, .int v_now_game])), ((q 2), .inl (gI g, 6, .inl out.2.1)), ((q 3), .inl (gI g, 6, .inl out.2.2))] A) (cc := cX11_player) (nL := 5) (ret := some .int) (by decide) rfl (Nat.le_of_ble_eq_true rfl) ?_
  intro p e s m below meth c ar A hC hA hP hD hG ls hl
  have hS : va_S A s.heap s.heap [] := va_S.rf
  obtain ⟨hx, hb, hml, hown, hts, hr, hlk, -⟩ := hC
  have hl : lv_has ls 5 [(0, .ref (q 0)), (1, .int x1), (2, .int x2), (3, .int x3)] := hl
  have hK := hG.1
  have iX11 : ∀ w ∈ u_ws RX11 TX11 10, w ∈ wsX11_player := fun w h => List.mem_cons_of_mem _ (List.mem_append_left _ (List.mem_append_right _ (h)))
  have iX9 : ∀ w ∈ u_ws RX9 TX9 5, w ∈ wsX11_player := fun w h => List.mem_cons_of_mem _ (List.mem_append_right _ (h))
  generalize hQ : MQ below (Qi g out.1 [((q 0), .inr (9, oX11 q)), ((q 1), .inr (7, [.ref (q 2), .ref (q 3), .int v_now_inBits, .int v_now_holder, .int v_now_game])), ((q 2), .inl (gI g, 6, .inl out.2.1)), ((q 3), .inl (gI g, 6, .inl out.2.2))] A) ar s 0 0 A = QQ
  unfold f_X11_player at hf
  refine lv_iload_n hx hb dX11_player_0 rfl (lv_at hl 1 rfl) ?_
  obtain ⟨z1, hq2, hf⟩ := bnd_some hf
  refine kR_i (va_runS (As := [.int x1]) (rest := []) ⟨hx, hb, hml, hown, hts⟩ (c_X11_isPlayer l g x1 z1 hq2) (va_cwS 1 hts gX11_player_X11_isPlayer rfl rfl rfl (by decide +kernel) ⟨Nat.le_of_ble_eq_true rfl, Nat.le_of_ble_eq_true rfl⟩) (kpS_R (hG.now hS) (hP.subm (ws' := []) [] rfl)) rfl rfl hl.1 rfl (lv_room (Nat.le_of_ble_eq_true rfl)) dX11_player_1 ⟨Nat.le_of_ble_eq_true rfl, Nat.le_of_ble_eq_true rfl⟩) ?_
  refine lv_if_ne (tgt := 9) hx hb dX11_player_4 (by decide) (fun c3 => ?_) (fun c3 => ?_)
  · replace hf := iff_ c3 hf
    refine lv_iload_n hx hb dX11_player_9 rfl (lv_at hl 2 rfl) ?_
    obtain ⟨z4, hq5, hf⟩ := bnd_some hf
    refine kR_i (va_runS (As := [.int x2]) (rest := []) ⟨hx, hb, hml, hown, hts⟩ (c_X0_canBe l g x2 z4 hq5) (va_cwS 1 hts gX11_player_X0_canBe rfl rfl rfl (by decide +kernel) ⟨Nat.le_of_ble_eq_true rfl, Nat.le_of_ble_eq_true rfl⟩) (kpS_R (hG.now hS) (hP.subm (ws' := []) [] rfl)) rfl rfl hl.1 rfl (lv_room (Nat.le_of_ble_eq_true rfl)) dX11_player_10 ⟨Nat.le_of_ble_eq_true rfl, Nat.le_of_ble_eq_true rfl⟩) ?_
    refine lv_if_eq (tgt := 27) hx hb dX11_player_13 (by decide) (fun c6 => ?_) (fun c6 => ?_)
    · replace hf := ift c6 hf
      refine lv_bipush (v := -2) hx hb dX11_player_27 (by decide) ?_
      rw [← hQ, ← Option.some.inj hf]
      exact eM_i hx hb hr hlk hP hD hS rfl dX11_player_29
    · replace hf := iff_ c6 hf
      refine lv_iload_n hx hb dX11_player_16 rfl (lv_at hl 3 rfl) ?_
      refine lv_iconst (v := 0) hx hb dX11_player_17 (by decide) ?_
      refine lv_sipush (v := 999) hx hb dX11_player_18 (by decide) ?_
      obtain ⟨z7, hq8, hf⟩ := bnd_some hf
      refine kR_i (va_runS (As := [.int x3, .int (0 : Int32), .int (999 : Int32)]) (rest := []) ⟨hx, hb, hml, hown, hts⟩ (c_X11_isWithin l g x3 (0 : Int32) (999 : Int32) z7 hq8) (va_cwS 3 hts gX11_player_X11_isWithin rfl rfl rfl (by decide +kernel) ⟨Nat.le_of_ble_eq_true rfl, Nat.le_of_ble_eq_true rfl⟩) (kpS_R (hG.now hS) (hP.subm (ws' := []) [] rfl)) rfl rfl hl.1 rfl (lv_room (Nat.le_of_ble_eq_true rfl)) dX11_player_21 ⟨Nat.le_of_ble_eq_true rfl, Nat.le_of_ble_eq_true rfl⟩) ?_
      refine lv_if_ne (tgt := 30) hx hb dX11_player_24 (by decide) (fun c9 => ?_) (fun c9 => ?_)
      · replace hf := iff_ c9 hf
        refine lv_aload_n hx hb dX11_player_30 rfl (lv_at hl 0 rfl) ?_
        refine va_get (D := gD g) (ci := 9) (v := .ref (q 1)) (C := RX11) (T := TX11) (N := 10) hx hb hts iX11 hown hK hP 0 rfl rfl 0 (by decide) (hts (.fieldLink RX11 10 "BeetleDrive" "now" "LBeetleDrive$Table;") (List.mem_of_getElem? (i := 1) rfl)) (fun _ h9 => h9) rfl dX11_player_31 ?_
        refine va_getN (D := gD g) (ci := 7) (v := .ref (q 3)) (C := RX9) (T := TX9) (N := 5) hx hb hts iX9 hown hK hP 1 rfl rfl 1 (by decide) (hG.nf 1 rfl) (fun _ h9 => h9) rfl dX11_player_34 ?_
        refine lv_iload_n hx hb dX11_player_37 rfl (lv_at hl 1 rfl) ?_
        obtain ⟨hi10, hf⟩ := chk_some hf
        refine va_iald hx hb hK hP 3 0 rfl rfl hi10 dX11_player_38 ?_
        refine lv_istore (lv' := [(4, .int (v_now_points (Int32.toNatClampNeg x1))), (0, .ref (q 0)), (1, .int x1), (2, .int x2), (3, .int x3)]) hx hb dX11_player_39 hl (by decide) rfl (fun ls hl => ?_)
        refine lv_aload_n hx hb dX11_player_41 rfl (lv_at hl 1 rfl) ?_
        refine va_get (D := gD g) (ci := 9) (v := .ref (q 1)) (C := RX11) (T := TX11) (N := 10) hx hb hts iX11 hown hK hP 0 rfl rfl 0 (by decide) (hts (.fieldLink RX11 10 "BeetleDrive" "now" "LBeetleDrive$Table;") (List.mem_of_getElem? (i := 1) rfl)) (fun _ h9 => h9) rfl dX11_player_42 ?_
        refine va_getN (D := gD g) (ci := 7) (v := .ref (q 2)) (C := RX9) (T := TX9) (N := 5) hx hb hts iX9 hown hK hP 1 rfl rfl 0 (by decide) (hG.nf 0 rfl) (fun _ h9 => h9) rfl dX11_player_45 ?_
        refine lv_iload_n hx hb dX11_player_48 rfl (lv_at hl 2 rfl) ?_
        refine lv_iload_n hx hb dX11_player_49 rfl (lv_at hl 3 rfl) ?_
        obtain ⟨hi11, hf⟩ := chk_some hf
        refine va_iast hx hb hK hP hD hS 2 0 rfl rfl hi11 dX11_player_50 (fun H locs hP hD hS => ?_)
        have hP : va_P (gD g) vwCl [((q 0), .inr (9, oX11 q)), ((q 1), .inr (7, [.ref (q 2), .ref (q 3), .int v_now_inBits, .int v_now_holder, .int v_now_game])), ((q 2), .inl (gI g, 6, .inl (upd v_now_drawn (Int32.toNatClampNeg x1) x2))), ((q 3), .inl (gI g, 6, .inl v_now_points))] H := hP
        have hD : va_D A [((q 0), .inr (9, oX11 q)), ((q 1), .inr (7, [.ref (q 2), .ref (q 3), .int v_now_inBits, .int v_now_holder, .int v_now_game])), ((q 2), .inl (gI g, 6, .inl (upd v_now_drawn (Int32.toNatClampNeg x1) x2))), ((q 3), .inl (gI g, 6, .inl v_now_points))] := hD
        refine lv_aload_n hx hb dX11_player_51 rfl (lv_at hl 1 rfl) ?_
        refine va_get (D := gD g) (ci := 9) (v := .ref (q 1)) (C := RX11) (T := TX11) (N := 10) hx hb hts iX11 hown hK hP 0 rfl rfl 0 (by decide) (hts (.fieldLink RX11 10 "BeetleDrive" "now" "LBeetleDrive$Table;") (List.mem_of_getElem? (i := 1) rfl)) (fun _ h9 => h9) rfl dX11_player_52 ?_
        refine va_getN (D := gD g) (ci := 7) (v := .ref (q 3)) (C := RX9) (T := TX9) (N := 5) hx hb hts iX9 hown hK hP 1 rfl rfl 1 (by decide) (hG.nf 1 rfl) (fun _ h9 => h9) rfl dX11_player_55 ?_
        refine lv_iload_n hx hb dX11_player_58 rfl (lv_at hl 2 rfl) ?_
        refine lv_iload_n hx hb dX11_player_59 rfl (lv_at hl 4 rfl) ?_
        obtain ⟨hi12, hf⟩ := chk_some hf
        refine va_iast hx hb hK hP hD hS 3 0 rfl rfl hi12 dX11_player_60 (fun H locs hP hD hS => ?_)
        have hP : va_P (gD g) vwCl [((q 0), .inr (9, oX11 q)), ((q 1), .inr (7, [.ref (q 2), .ref (q 3), .int v_now_inBits, .int v_now_holder, .int v_now_game])), ((q 2), .inl (gI g, 6, .inl (upd v_now_drawn (Int32.toNatClampNeg x1) x2))), ((q 3), .inl (gI g, 6, .inl (upd v_now_points (Int32.toNatClampNeg x1) x3)))] H := hP
        have hD : va_D A [((q 0), .inr (9, oX11 q)), ((q 1), .inr (7, [.ref (q 2), .ref (q 3), .int v_now_inBits, .int v_now_holder, .int v_now_game])), ((q 2), .inl (gI g, 6, .inl (upd v_now_drawn (Int32.toNatClampNeg x1) x2))), ((q 3), .inl (gI g, 6, .inl (upd v_now_points (Int32.toNatClampNeg x1) x3)))] := hD
        refine lv_iload hx hb dX11_player_61 (lv_at hl 0 rfl) ?_
        rw [← hQ, ← Option.some.inj hf]
        exact eM_i hx hb hr hlk hP hD hS rfl dX11_player_63
      · replace hf := ift c9 hf
        refine lv_bipush (v := -2) hx hb dX11_player_27 (by decide) ?_
        rw [← hQ, ← Option.some.inj hf]
        exact eM_i hx hb hr hlk hP hD hS rfl dX11_player_29
  · replace hf := ift c3 hf
    refine lv_iconst (v := -1) hx hb dX11_player_7 (by decide) ?_
    rw [← hQ, ← Option.some.inj hf]
    exact eM_i hx hb hr hlk hP hD hS rfl dX11_player_8
set_option maxHeartbeats 4000000 in
set_option maxRecDepth 100000 in
theorem c_X11_die (l : Launch) (g : bG) (q : Nat → Nat) (v_now_inBits : Int32) (v_now_holder : Int32) (v_now_game : Int32) (x1 : Int32) (out : Int32 × Int32) (hf : f_X11_die v_now_inBits v_now_holder x1 = some out) : Mi l g yX11_die wsX11_die ({ frames := 2, cells := 0, slots := 0, locals := 42 } : Room) [.ref (q 0), .int x1] [((q 0), .inr (9, oX11 q)), ((q 1), .inr (7, [.ref (q 2), .ref (q 3), .int v_now_inBits, .int v_now_holder, .int v_now_game]))] out.1 [((q 0), .inr (9, oX11 q)), ((q 1), .inr (7, [.ref (q 2), .ref (q 3), .int v_now_inBits, .int out.2, .int v_now_game]))] := by
  refine ofM (Qc := fun A => Qi g out.1 [((q 0), .inr (9, oX11 q)), ((q 1), .inr (7, [.ref (q 2), .ref (q 3), .int v_now_inBits, .int out.2, .int v_now_game]))] A) (cc := cX11_die) (nL := 3) (ret := some .int) (by decide) rfl (Nat.le_of_ble_eq_true rfl) ?_
  intro p e s m below meth c ar A hC hA hP hD hG ls hl
  have hS : va_S A s.heap s.heap [] := va_S.rf
  obtain ⟨hx, hb, hml, hown, hts, hr, hlk, -⟩ := hC
  have hl : lv_has ls 3 [(0, .ref (q 0)), (1, .int x1)] := hl
  have hK := hG.1
  have iX11 : ∀ w ∈ u_ws RX11 TX11 10, w ∈ wsX11_die := fun w h => List.mem_cons_of_mem _ (List.mem_append_left _ (List.mem_append_right _ (h)))
  have iX9 : ∀ w ∈ u_ws RX9 TX9 5, w ∈ wsX11_die := fun w h => List.mem_cons_of_mem _ (List.mem_append_right _ (h))
  generalize hQ : MQ below (Qi g out.1 [((q 0), .inr (9, oX11 q)), ((q 1), .inr (7, [.ref (q 2), .ref (q 3), .int v_now_inBits, .int out.2, .int v_now_game]))] A) ar s 0 0 A = QQ
  unfold f_X11_die at hf
  refine lv_iload_n hx hb dX11_die_0 rfl (lv_at hl 1 rfl) ?_
  obtain ⟨z1, hq2, hf⟩ := bnd_some hf
  refine kR_i (va_runS (As := [.int x1]) (rest := []) ⟨hx, hb, hml, hown, hts⟩ (c_X11_isPlayer l g x1 z1 hq2) (va_cwS 1 hts gX11_die_X11_isPlayer rfl rfl rfl (by decide +kernel) ⟨Nat.le_of_ble_eq_true rfl, Nat.le_of_ble_eq_true rfl⟩) (kpS_R (hG.now hS) (hP.subm (ws' := []) [] rfl)) rfl rfl hl.1 rfl (lv_room (Nat.le_of_ble_eq_true rfl)) dX11_die_1 ⟨Nat.le_of_ble_eq_true rfl, Nat.le_of_ble_eq_true rfl⟩) ?_
  refine lv_if_ne (tgt := 9) hx hb dX11_die_4 (by decide) (fun c3 => ?_) (fun c3 => ?_)
  · replace hf := iff_ c3 hf
    refine lv_aload_n hx hb dX11_die_9 rfl (lv_at hl 0 rfl) ?_
    refine va_get (D := gD g) (ci := 9) (v := .ref (q 1)) (C := RX11) (T := TX11) (N := 10) hx hb hts iX11 hown hK hP 0 rfl rfl 0 (by decide) (hts (.fieldLink RX11 10 "BeetleDrive" "now" "LBeetleDrive$Table;") (List.mem_of_getElem? (i := 1) rfl)) (fun _ h9 => h9) rfl dX11_die_10 ?_
    refine lv_iload_n hx hb dX11_die_13 rfl (lv_at hl 1 rfl) ?_
    obtain ⟨z4, hq5, hf⟩ := bnd_some hf
    refine kR_i (va_runV (As := [.int x1]) (rest := []) ⟨hx, hb, hml, hown, hts⟩ (c_X9_isIn l g (q 1) (q 2) (q 3) v_now_inBits v_now_holder v_now_game x1 z4 hq5) (cwV 1 hts gX11_die_X9_isIn rfl rfl rfl (by decide +kernel) ⟨Nat.le_of_ble_eq_true rfl, Nat.le_of_ble_eq_true rfl⟩) (kpV_R (q0 := 0) (ci := 7) (hG.now hS) (hP.subm (ws' := [((q 1), .inr (7, [.ref (q 2), .ref (q 3), .int v_now_inBits, .int v_now_holder, .int v_now_game]))]) [1] rfl) rfl rfl) rfl rfl hl.1 rfl (lv_room (Nat.le_of_ble_eq_true rfl)) dX11_die_14 ⟨Nat.le_of_ble_eq_true rfl, Nat.le_of_ble_eq_true rfl⟩) ?_
    refine lv_if_ne (tgt := 23) hx hb dX11_die_17 (by decide) (fun c6 => ?_) (fun c6 => ?_)
    · replace hf := iff_ c6 hf
      refine lv_aload_n hx hb dX11_die_23 rfl (lv_at hl 0 rfl) ?_
      refine va_get (D := gD g) (ci := 9) (v := .ref (q 1)) (C := RX11) (T := TX11) (N := 10) hx hb hts iX11 hown hK hP 0 rfl rfl 0 (by decide) (hts (.fieldLink RX11 10 "BeetleDrive" "now" "LBeetleDrive$Table;") (List.mem_of_getElem? (i := 1) rfl)) (fun _ h9 => h9) rfl dX11_die_24 ?_
      refine va_getN (D := gD g) (ci := 7) (v := .int v_now_holder) (C := RX9) (T := TX9) (N := 5) hx hb hts iX9 hown hK hP 1 rfl rfl 3 (by decide) (hG.nf 2 rfl) (fun _ h9 => h9) rfl dX11_die_27 ?_
      refine lv_istore_n (lv' := [(2, .int v_now_holder), (0, .ref (q 0)), (1, .int x1)]) hx hb dX11_die_30 rfl hl (by decide) rfl (fun ls hl => ?_)
      refine lv_aload_n hx hb dX11_die_31 rfl (lv_at hl 1 rfl) ?_
      refine va_get (D := gD g) (ci := 9) (v := .ref (q 1)) (C := RX11) (T := TX11) (N := 10) hx hb hts iX11 hown hK hP 0 rfl rfl 0 (by decide) (hts (.fieldLink RX11 10 "BeetleDrive" "now" "LBeetleDrive$Table;") (List.mem_of_getElem? (i := 1) rfl)) (fun _ h9 => h9) rfl dX11_die_32 ?_
      refine lv_iload_n hx hb dX11_die_35 rfl (lv_at hl 2 rfl) ?_
      refine va_putN (D := gD g) (ci := 7) (v := .int x1) (ty := .int) (C := RX9) (T := TX9) (N := 5) hx hb hts iX9 tyX9 tyX9_ok nmX9 hown hK hP hD hS 1 rfl rfl 3 (by decide) (hG.nf 2 rfl) (fun _ h9 => h9) rfl (tyX9_ok 3 (by decide)) rfl rfl (Nat.le_of_ble_eq_true rfl) dX11_die_36 (fun H locs hP hD hS => ?_)
      have hP : va_P (gD g) vwCl [((q 0), .inr (9, oX11 q)), ((q 1), .inr (7, [.ref (q 2), .ref (q 3), .int v_now_inBits, .int x1, .int v_now_game]))] H := hP
      have hD : va_D A [((q 0), .inr (9, oX11 q)), ((q 1), .inr (7, [.ref (q 2), .ref (q 3), .int v_now_inBits, .int x1, .int v_now_game]))] := hD
      refine lv_iload_n hx hb dX11_die_39 rfl (lv_at hl 0 rfl) ?_
      rw [← hQ, ← Option.some.inj hf]
      exact eM_i hx hb hr hlk hP hD hS rfl dX11_die_40
    · replace hf := ift c6 hf
      refine lv_bipush (v := -3) hx hb dX11_die_20 (by decide) ?_
      rw [← hQ, ← Option.some.inj hf]
      exact eM_i hx hb hr hlk hP hD hS rfl dX11_die_22
  · replace hf := ift c3 hf
    refine lv_iconst (v := -1) hx hb dX11_die_7 (by decide) ?_
    rw [← hQ, ← Option.some.inj hf]
    exact eM_i hx hb hr hlk hP hD hS rfl dX11_die_8
set_option maxHeartbeats 4000000 in
set_option maxRecDepth 100000 in
theorem c_X11_say (l : Launch) (g : bG) (q : Nat → Nat) (v_pad_size : Int32) (v_pad_signs : Nat → Int32) (x1 : Int32) (out : Int32 × (Nat → Int32) × Int32) (hf : f_X11_say v_pad_signs v_pad_size x1 = some out) : Mi l g yX11_say wsX11_say ({ frames := 1, cells := 0, slots := 0, locals := 22 } : Room) [.ref (q 0), .int x1] [((q 0), .inr (9, oX11 q)), ((q 4), .inr (3, [.ref (q 5), .int v_pad_size])), ((q 5), .inl (gI g, 60, .inl v_pad_signs))] out.1 [((q 0), .inr (9, oX11 q)), ((q 4), .inr (3, [.ref (q 5), .int out.2.2])), ((q 5), .inl (gI g, 60, .inl out.2.1))] := by
  refine ofM (Qc := fun A => Qi g out.1 [((q 0), .inr (9, oX11 q)), ((q 4), .inr (3, [.ref (q 5), .int out.2.2])), ((q 5), .inl (gI g, 60, .inl out.2.1))] A) (cc := cX11_say) (nL := 2) (ret := some .int) (by decide) rfl (Nat.le_of_ble_eq_true rfl) ?_
  intro p e s m below meth c ar A hC hA hP hD hG ls hl
  have hS : va_S A s.heap s.heap [] := va_S.rf
  obtain ⟨hx, hb, hml, hown, hts, hr, hlk, -⟩ := hC
  have hl : lv_has ls 2 [(0, .ref (q 0)), (1, .int x1)] := hl
  have hK := hG.1
  have iX11 : ∀ w ∈ u_ws RX11 TX11 10, w ∈ wsX11_say := fun w h => List.mem_cons_of_mem _ (List.mem_append_left _ (List.mem_append_right _ (h)))
  have iX5 : ∀ w ∈ u_ws RX5 TX5 2, w ∈ wsX11_say := fun w h => List.mem_cons_of_mem _ (List.mem_append_right _ (h))
  generalize hQ : MQ below (Qi g out.1 [((q 0), .inr (9, oX11 q)), ((q 4), .inr (3, [.ref (q 5), .int out.2.2])), ((q 5), .inl (gI g, 60, .inl out.2.1))] A) ar s 0 0 A = QQ
  unfold f_X11_say at hf
  refine lv_iload_n hx hb dX11_say_0 rfl (lv_at hl 1 rfl) ?_
  refine lv_bipush (v := 33) hx hb dX11_say_1 (by decide) ?_
  refine lv_bipush (v := 126) hx hb dX11_say_3 (by decide) ?_
  obtain ⟨z1, hq2, hf⟩ := bnd_some hf
  refine kR_i (va_runS (As := [.int x1, .int (33 : Int32), .int (126 : Int32)]) (rest := []) ⟨hx, hb, hml, hown, hts⟩ (c_X11_isWithin l g x1 (33 : Int32) (126 : Int32) z1 hq2) (va_cwS 3 hts gX11_say_X11_isWithin rfl rfl rfl (by decide +kernel) ⟨Nat.le_of_ble_eq_true rfl, Nat.le_of_ble_eq_true rfl⟩) (kpS_R (hG.now hS) (hP.subm (ws' := []) [] rfl)) rfl rfl hl.1 rfl (lv_room (Nat.le_of_ble_eq_true rfl)) dX11_say_5 ⟨Nat.le_of_ble_eq_true rfl, Nat.le_of_ble_eq_true rfl⟩) ?_
  refine lv_if_ne (tgt := 14) hx hb dX11_say_8 (by decide) (fun c3 => ?_) (fun c3 => ?_)
  · replace hf := iff_ c3 hf
    refine lv_aload_n hx hb dX11_say_14 rfl (lv_at hl 0 rfl) ?_
    refine va_get (D := gD g) (ci := 9) (v := .ref (q 4)) (C := RX11) (T := TX11) (N := 10) hx hb hts iX11 hown hK hP 0 rfl rfl 1 (by decide) (hts (.fieldLink RX11 19 "BeetleDrive" "pad" "LBeetleDrive$Pad;") (List.mem_of_getElem? (i := 1) rfl)) (fun _ h9 => h9) rfl dX11_say_15 ?_
    refine lv_iload_n hx hb dX11_say_18 rfl (lv_at hl 1 rfl) ?_
    obtain ⟨z4, hq5, hf⟩ := bnd_some hf
    refine kM_i (wc := [((q 4), .inr (3, [.ref (q 5), .int v_pad_size])), ((q 5), .inl (gI g, 60, .inl v_pad_signs))]) (wr := [((q 0), .inr (9, oX11 q))]) (w1 := [((q 4), .inr (3, [.ref (q 5), .int z4.2.2])), ((q 5), .inl (gI g, 60, .inl z4.2.1))]) (w2 := [((q 0), .inr (9, oX11 q)), ((q 4), .inr (3, [.ref (q 5), .int z4.2.2])), ((q 5), .inl (gI g, 60, .inl z4.2.1))]) (va_runV (As := [.int x1]) (rest := []) ⟨hx, hb, hml, hown, hts⟩ (c_X5_add l g (q 4) (q 5) v_pad_size v_pad_signs x1 z4 hq5 s.heap.size) (cwV 1 hts gX11_say_X5_add rfl rfl rfl (by decide +kernel) ⟨Nat.le_of_ble_eq_true rfl, Nat.le_of_ble_eq_true rfl⟩) (kpV_M (q0 := 0) (ci := 3) hG hS hP hD hA [1, 2] rfl (by decide) rfl rfl) rfl rfl hl.1 rfl (lv_room (Nat.le_of_ble_eq_true rfl)) dX11_say_19 ⟨Nat.le_of_ble_eq_true rfl, Nat.le_of_ble_eq_true rfl⟩) hP hD hS hA [1, 2] [0] [0, 1, 2] rfl rfl (by decide) (by decide) rfl (by decide) (fun H locs hP hD hS => ?_)
    refine lv_if_eq (tgt := 35) hx hb dX11_say_22 (by decide) (fun c6 => ?_) (fun c6 => ?_)
    · replace hf := ift c6 hf
      refine lv_bipush (v := -4) hx hb dX11_say_35 (by decide) ?_
      rw [← hQ, ← Option.some.inj hf]
      exact eM_i hx hb hr hlk hP hD hS rfl dX11_say_37
    · replace hf := iff_ c6 hf
      refine lv_aload_n hx hb dX11_say_25 rfl (lv_at hl 0 rfl) ?_
      refine va_get (D := gD g) (ci := 9) (v := .ref (q 4)) (C := RX11) (T := TX11) (N := 10) hx hb hts iX11 hown hK hP 0 rfl rfl 1 (by decide) (hts (.fieldLink RX11 19 "BeetleDrive" "pad" "LBeetleDrive$Pad;") (List.mem_of_getElem? (i := 1) rfl)) (fun _ h9 => h9) rfl dX11_say_26 ?_
      refine va_getN (D := gD g) (ci := 3) (v := .int z4.2.2) (C := RX5) (T := TX5) (N := 2) hx hb hts iX5 hown hK hP 1 rfl rfl 1 (by decide) (hG.nf 7 rfl) (fun _ h9 => h9) rfl dX11_say_29 ?_
      refine lv_goto (tgt := 37) hx hb dX11_say_32 (by decide) ?_
      rw [← hQ, ← Option.some.inj hf]
      exact eM_i hx hb hr hlk hP hD hS rfl dX11_say_37
  · replace hf := ift c3 hf
    refine lv_bipush (v := -2) hx hb dX11_say_11 (by decide) ?_
    rw [← hQ, ← Option.some.inj hf]
    exact eM_i hx hb hr hlk hP hD hS rfl dX11_say_13
set_option maxHeartbeats 4000000 in
set_option maxRecDepth 100000 in
theorem c_X11_wipe (l : Launch) (g : bG) (q : Nat → Nat) (v_pad_size : Int32) (out : Int32 × Int32) (hf : f_X11_wipe v_pad_size = some out) : Mi l g yX11_wipe wsX11_wipe ({ frames := 1, cells := 0, slots := 0, locals := 21 } : Room) [.ref (q 0)] [((q 0), .inr (9, oX11 q)), ((q 4), .inr (3, [.ref (q 5), .int v_pad_size]))] out.1 [((q 0), .inr (9, oX11 q)), ((q 4), .inr (3, [.ref (q 5), .int out.2]))] := by
  refine ofM (Qc := fun A => Qi g out.1 [((q 0), .inr (9, oX11 q)), ((q 4), .inr (3, [.ref (q 5), .int out.2]))] A) (cc := cX11_wipe) (nL := 1) (ret := some .int) (by decide) rfl (Nat.le_of_ble_eq_true rfl) ?_
  intro p e s m below meth c ar A hC hA hP hD hG ls hl
  have hS : va_S A s.heap s.heap [] := va_S.rf
  obtain ⟨hx, hb, hml, hown, hts, hr, hlk, -⟩ := hC
  have hl : lv_has ls 1 [(0, .ref (q 0))] := hl
  have hK := hG.1
  have iX11 : ∀ w ∈ u_ws RX11 TX11 10, w ∈ wsX11_wipe := fun w h => List.mem_cons_of_mem _ (List.mem_append_left _ (List.mem_append_right _ (h)))
  generalize hQ : MQ below (Qi g out.1 [((q 0), .inr (9, oX11 q)), ((q 4), .inr (3, [.ref (q 5), .int out.2]))] A) ar s 0 0 A = QQ
  unfold f_X11_wipe at hf
  refine lv_aload_n hx hb dX11_wipe_0 rfl (lv_at hl 0 rfl) ?_
  refine va_get (D := gD g) (ci := 9) (v := .ref (q 4)) (C := RX11) (T := TX11) (N := 10) hx hb hts iX11 hown hK hP 0 rfl rfl 1 (by decide) (hts (.fieldLink RX11 19 "BeetleDrive" "pad" "LBeetleDrive$Pad;") (List.mem_of_getElem? (i := 1) rfl)) (fun _ h9 => h9) rfl dX11_wipe_1 ?_
  obtain ⟨z1, hq2, hf⟩ := bnd_some hf
  refine kM_i (wc := [((q 4), .inr (3, [.ref (q 5), .int v_pad_size]))]) (wr := [((q 0), .inr (9, oX11 q))]) (w1 := [((q 4), .inr (3, [.ref (q 5), .int z1.2]))]) (w2 := [((q 0), .inr (9, oX11 q)), ((q 4), .inr (3, [.ref (q 5), .int z1.2]))]) (va_runV (As := []) (rest := []) ⟨hx, hb, hml, hown, hts⟩ (c_X5_clear l g (q 4) (q 5) v_pad_size z1 hq2 s.heap.size) (cwV 0 hts gX11_wipe_X5_clear rfl rfl rfl (by decide +kernel) ⟨Nat.le_of_ble_eq_true rfl, Nat.le_of_ble_eq_true rfl⟩) (kpV_M (q0 := 0) (ci := 3) hG hS hP hD hA [1] rfl (by decide) rfl rfl) rfl rfl hl.1 rfl (lv_room (Nat.le_of_ble_eq_true rfl)) dX11_wipe_4 ⟨Nat.le_of_ble_eq_true rfl, Nat.le_of_ble_eq_true rfl⟩) hP hD hS hA [1] [0] [0, 1] rfl rfl (by decide) (by decide) rfl (by decide) (fun H locs hP hD hS => ?_)
  rw [← hQ, ← Option.some.inj hf]
  exact eM_i hx hb hr hlk hP hD hS rfl dX11_wipe_7
set_option maxHeartbeats 4000000 in
set_option maxRecDepth 100000 in
theorem c_X11_fault (l : Launch) (g : bG) (q : Nat → Nat) (v_pad_size : Int32) (v_pad_signs : Nat → Int32) (out : Int32) (hf : f_X11_fault v_pad_signs v_pad_size = some out) : Ri l g yX11_fault wsX11_fault ({ frames := 4, cells := 0, slots := 0, locals := 85 } : Room) [.ref (q 0)] [((q 0), .inr (9, oX11 q)), ((q 4), .inr (3, [.ref (q 5), .int v_pad_size])), ((q 5), .inl (gI g, 60, .inl v_pad_signs))] out := by
  refine ofR (cc := cX11_fault) (nL := 1) (ret := some .int) (by decide) rfl (Nat.le_of_ble_eq_true rfl) ?_
  intro p e s m below meth c ar hC hP hG ls hl
  have hS : va_S (fun _ => False) s.heap s.heap [] := va_S.rf
  obtain ⟨hx, hb, hml, hown, hts, hr, hlk, -⟩ := hC
  have hl : lv_has ls 1 [(0, .ref (q 0))] := hl
  have hK := hG.1
  have iX11 : ∀ w ∈ u_ws RX11 TX11 10, w ∈ wsX11_fault := fun w h => List.mem_cons_of_mem _ (List.mem_append_left _ (List.mem_append_right _ (h)))
  generalize hQ : MQ below (vp_Si (fun x => x = out)) ar s 0 0 (fun _ => False) = QQ
  unfold f_X11_fault at hf
  refine lv_aload_n hx hb dX11_fault_0 rfl (lv_at hl 0 rfl) ?_
  refine va_get (D := gD g) (ci := 9) (v := .ref (q 4)) (C := RX11) (T := TX11) (N := 10) hx hb hts iX11 hown hK hP 0 rfl rfl 1 (by decide) (hts (.fieldLink RX11 19 "BeetleDrive" "pad" "LBeetleDrive$Pad;") (List.mem_of_getElem? (i := 1) rfl)) (fun _ h9 => h9) rfl dX11_fault_1 ?_
  obtain ⟨z1, hq2, hf⟩ := bnd_some hf
  refine kR_i (va_runV (As := []) (rest := []) ⟨hx, hb, hml, hown, hts⟩ (c_X5_firstFault l g (q 4) (q 5) v_pad_size v_pad_signs z1 hq2) (cwV 0 hts gX11_fault_X5_firstFault rfl rfl rfl (by decide +kernel) ⟨Nat.le_of_ble_eq_true rfl, Nat.le_of_ble_eq_true rfl⟩) (kpV_R (q0 := 0) (ci := 3) hG (hP.subm (ws' := [((q 4), .inr (3, [.ref (q 5), .int v_pad_size])), ((q 5), .inl (gI g, 60, .inl v_pad_signs))]) [1, 2] rfl) rfl rfl) rfl rfl hl.1 rfl (lv_room (Nat.le_of_ble_eq_true rfl)) dX11_fault_4 ⟨Nat.le_of_ble_eq_true rfl, Nat.le_of_ble_eq_true rfl⟩) ?_
  rw [← hQ, ← Option.some.inj hf]
  exact eR_i hx hb hr hlk rfl dX11_fault_7
set_option maxHeartbeats 4000000 in
set_option maxRecDepth 100000 in
theorem c_X11_judge (l : Launch) (g : bG) (q : Nat → Nat) (v_now_inBits : Int32) (v_now_holder : Int32) (v_now_game : Int32) (v_now_drawn : Nat → Int32) (v_now_points : Nat → Int32) (v_pad_size : Int32) (v_pad_signs : Nat → Int32) (v_match_acts : Int32) (v_match_why : Int32) (v_match_vain : Int32) (v_match_wholeAct : Int32) (v_match_wholeWho : Int32) (v_match_table_inBits : Int32) (v_match_table_holder : Int32) (v_match_table_game : Int32) (v_match_table_drawn : Nat → Int32) (v_match_table_points : Nat → Int32) (x1 : Int32) (out : Int32 × (Nat → Int32) × (Nat → Int32) × Int32 × Int32 × Int32 × Int32 × Int32 × Int32 × Int32 × Int32) (hf : f_X11_judge v_now_drawn v_now_points v_now_inBits v_now_holder v_now_game v_pad_signs v_pad_size v_match_table_drawn v_match_table_points v_match_table_inBits v_match_table_holder v_match_table_game v_match_acts v_match_why v_match_vain v_match_wholeAct v_match_wholeWho x1 = some out) : Mi l g yX11_judge wsX11_judge ({ frames := 6, cells := 0, slots := 0, locals := 134 } : Room) [.ref (q 0), .int x1] [((q 0), .inr (9, oX11 q)), ((q 1), .inr (7, [.ref (q 2), .ref (q 3), .int v_now_inBits, .int v_now_holder, .int v_now_game])), ((q 2), .inl (gI g, 6, .inl v_now_drawn)), ((q 3), .inl (gI g, 6, .inl v_now_points)), ((q 4), .inr (3, [.ref (q 5), .int v_pad_size])), ((q 5), .inl (gI g, 60, .inl v_pad_signs)), ((q 6), .inr (2, [.ref (q 7), .int v_match_acts, .int v_match_why, .int v_match_vain, .int v_match_wholeAct, .int v_match_wholeWho])), ((q 7), .inr (7, [.ref (q 8), .ref (q 9), .int v_match_table_inBits, .int v_match_table_holder, .int v_match_table_game])), ((q 8), .inl (gI g, 6, .inl v_match_table_drawn)), ((q 9), .inl (gI g, 6, .inl v_match_table_points))] out.1 [((q 0), .inr (9, oX11 q)), ((q 1), .inr (7, [.ref (q 2), .ref (q 3), .int v_now_inBits, .int v_now_holder, .int v_now_game])), ((q 2), .inl (gI g, 6, .inl v_now_drawn)), ((q 3), .inl (gI g, 6, .inl v_now_points)), ((q 4), .inr (3, [.ref (q 5), .int v_pad_size])), ((q 5), .inl (gI g, 60, .inl v_pad_signs)), ((q 6), .inr (2, [.ref (q 7), .int out.2.2.2.2.2.2.1, .int out.2.2.2.2.2.2.2.1, .int out.2.2.2.2.2.2.2.2.1, .int out.2.2.2.2.2.2.2.2.2.1, .int out.2.2.2.2.2.2.2.2.2.2])), ((q 7), .inr (7, [.ref (q 8), .ref (q 9), .int out.2.2.2.1, .int out.2.2.2.2.1, .int out.2.2.2.2.2.1])), ((q 8), .inl (gI g, 6, .inl out.2.1)), ((q 9), .inl (gI g, 6, .inl out.2.2.1))] := by
  refine ofM (Qc := fun A => Qi g out.1 [((q 0), .inr (9, oX11 q)), ((q 1), .inr (7, [.ref (q 2), .ref (q 3), .int v_now_inBits, .int v_now_holder, .int v_now_game])), ((q 2), .inl (gI g, 6, .inl v_now_drawn)), ((q 3), .inl (gI g, 6, .inl v_now_points)), ((q 4), .inr (3, [.ref (q 5), .int v_pad_size])), ((q 5), .inl (gI g, 60, .inl v_pad_signs)), ((q 6), .inr (2, [.ref (q 7), .int out.2.2.2.2.2.2.1, .int out.2.2.2.2.2.2.2.1, .int out.2.2.2.2.2.2.2.2.1, .int out.2.2.2.2.2.2.2.2.2.1, .int out.2.2.2.2.2.2.2.2.2.2])), ((q 7), .inr (7, [.ref (q 8), .ref (q 9), .int out.2.2.2.1, .int out.2.2.2.2.1, .int out.2.2.2.2.2.1])), ((q 8), .inl (gI g, 6, .inl out.2.1)), ((q 9), .inl (gI g, 6, .inl out.2.2.1))] A) (cc := cX11_judge) (nL := 3) (ret := some .int) (by decide) rfl (Nat.le_of_ble_eq_true rfl) ?_
  intro p e s m below meth c ar A hC hA hP hD hG ls hl
  have hS : va_S A s.heap s.heap [] := va_S.rf
  obtain ⟨hx, hb, hml, hown, hts, hr, hlk, -⟩ := hC
  have hl : lv_has ls 3 [(0, .ref (q 0)), (1, .int x1)] := hl
  have hK := hG.1
  have iX11 : ∀ w ∈ u_ws RX11 TX11 10, w ∈ wsX11_judge := fun w h => List.mem_cons_of_mem _ (List.mem_append_left _ (List.mem_append_left _ (List.mem_append_left _ (List.mem_append_right _ (h)))))
  have iX4 : ∀ w ∈ u_ws RX4 TX4 6, w ∈ wsX11_judge := fun w h => List.mem_cons_of_mem _ (List.mem_append_left _ (List.mem_append_left _ (List.mem_append_right _ (h))))
  generalize hQ : MQ below (Qi g out.1 [((q 0), .inr (9, oX11 q)), ((q 1), .inr (7, [.ref (q 2), .ref (q 3), .int v_now_inBits, .int v_now_holder, .int v_now_game])), ((q 2), .inl (gI g, 6, .inl v_now_drawn)), ((q 3), .inl (gI g, 6, .inl v_now_points)), ((q 4), .inr (3, [.ref (q 5), .int v_pad_size])), ((q 5), .inl (gI g, 60, .inl v_pad_signs)), ((q 6), .inr (2, [.ref (q 7), .int out.2.2.2.2.2.2.1, .int out.2.2.2.2.2.2.2.1, .int out.2.2.2.2.2.2.2.2.1, .int out.2.2.2.2.2.2.2.2.2.1, .int out.2.2.2.2.2.2.2.2.2.2])), ((q 7), .inr (7, [.ref (q 8), .ref (q 9), .int out.2.2.2.1, .int out.2.2.2.2.1, .int out.2.2.2.2.2.1])), ((q 8), .inl (gI g, 6, .inl out.2.1)), ((q 9), .inl (gI g, 6, .inl out.2.2.1))] A) ar s 0 0 A = QQ
  unfold f_X11_judge at hf
  refine lv_iload_n hx hb dX11_judge_0 rfl (lv_at hl 1 rfl) ?_
  refine lv_iconst (v := 0) hx hb dX11_judge_1 (by decide) ?_
  refine lv_iconst (v := 2) hx hb dX11_judge_2 (by decide) ?_
  obtain ⟨z1, hq2, hf⟩ := bnd_some hf
  refine kR_i (va_runS (As := [.int x1, .int (0 : Int32), .int (2 : Int32)]) (rest := []) ⟨hx, hb, hml, hown, hts⟩ (c_X11_isWithin l g x1 (0 : Int32) (2 : Int32) z1 hq2) (va_cwS 3 hts gX11_judge_X11_isWithin rfl rfl rfl (by decide +kernel) ⟨Nat.le_of_ble_eq_true rfl, Nat.le_of_ble_eq_true rfl⟩) (kpS_R (hG.now hS) (hP.subm (ws' := []) [] rfl)) rfl rfl hl.1 rfl (lv_room (Nat.le_of_ble_eq_true rfl)) dX11_judge_3 ⟨Nat.le_of_ble_eq_true rfl, Nat.le_of_ble_eq_true rfl⟩) ?_
  refine lv_if_ne (tgt := 12) hx hb dX11_judge_6 (by decide) (fun c3 => ?_) (fun c3 => ?_)
  · replace hf := iff_ c3 hf
    refine lv_aload_n hx hb dX11_judge_12 rfl (lv_at hl 0 rfl) ?_
    refine va_get (D := gD g) (ci := 9) (v := .ref (q 6)) (C := RX11) (T := TX11) (N := 10) hx hb hts iX11 hown hK hP 0 rfl rfl 2 (by decide) (hts (.fieldLink RX11 26 "BeetleDrive" "match" "LBeetleDrive$Match;") (List.mem_of_getElem? (i := 1) rfl)) (fun _ h9 => h9) rfl dX11_judge_13 ?_
    refine lv_aload_n hx hb dX11_judge_16 rfl (lv_at hl 0 rfl) ?_
    refine va_get (D := gD g) (ci := 9) (v := .ref (q 4)) (C := RX11) (T := TX11) (N := 10) hx hb hts iX11 hown hK hP 0 rfl rfl 1 (by decide) (hts (.fieldLink RX11 19 "BeetleDrive" "pad" "LBeetleDrive$Pad;") (List.mem_of_getElem? (i := 2) rfl)) (fun _ h9 => h9) rfl dX11_judge_17 ?_
    refine lv_aload_n hx hb dX11_judge_20 rfl (lv_at hl 0 rfl) ?_
    refine va_get (D := gD g) (ci := 9) (v := .ref (q 1)) (C := RX11) (T := TX11) (N := 10) hx hb hts iX11 hown hK hP 0 rfl rfl 0 (by decide) (hts (.fieldLink RX11 10 "BeetleDrive" "now" "LBeetleDrive$Table;") (List.mem_of_getElem? (i := 3) rfl)) (fun _ h9 => h9) rfl dX11_judge_21 ?_
    obtain ⟨z4, hq5, hf⟩ := bnd_some hf
    refine kM_i (wc := [((q 6), .inr (2, [.ref (q 7), .int v_match_acts, .int v_match_why, .int v_match_vain, .int v_match_wholeAct, .int v_match_wholeWho])), ((q 7), .inr (7, [.ref (q 8), .ref (q 9), .int v_match_table_inBits, .int v_match_table_holder, .int v_match_table_game])), ((q 8), .inl (gI g, 6, .inl v_match_table_drawn)), ((q 9), .inl (gI g, 6, .inl v_match_table_points)), ((q 4), .inr (3, [.ref (q 5), .int v_pad_size])), ((q 5), .inl (gI g, 60, .inl v_pad_signs)), ((q 1), .inr (7, [.ref (q 2), .ref (q 3), .int v_now_inBits, .int v_now_holder, .int v_now_game])), ((q 2), .inl (gI g, 6, .inl v_now_drawn)), ((q 3), .inl (gI g, 6, .inl v_now_points))]) (wr := [((q 0), .inr (9, oX11 q))]) (w1 := [((q 6), .inr (2, [.ref (q 7), .int z4.2.2.2.2.2.2.1, .int z4.2.2.2.2.2.2.2.1, .int z4.2.2.2.2.2.2.2.2.1, .int z4.2.2.2.2.2.2.2.2.2.1, .int z4.2.2.2.2.2.2.2.2.2.2])), ((q 7), .inr (7, [.ref (q 8), .ref (q 9), .int z4.2.2.2.1, .int z4.2.2.2.2.1, .int z4.2.2.2.2.2.1])), ((q 8), .inl (gI g, 6, .inl z4.2.1)), ((q 9), .inl (gI g, 6, .inl z4.2.2.1)), ((q 4), .inr (3, [.ref (q 5), .int v_pad_size])), ((q 5), .inl (gI g, 60, .inl v_pad_signs)), ((q 1), .inr (7, [.ref (q 2), .ref (q 3), .int v_now_inBits, .int v_now_holder, .int v_now_game])), ((q 2), .inl (gI g, 6, .inl v_now_drawn)), ((q 3), .inl (gI g, 6, .inl v_now_points))]) (w2 := [((q 0), .inr (9, oX11 q)), ((q 1), .inr (7, [.ref (q 2), .ref (q 3), .int v_now_inBits, .int v_now_holder, .int v_now_game])), ((q 2), .inl (gI g, 6, .inl v_now_drawn)), ((q 3), .inl (gI g, 6, .inl v_now_points)), ((q 4), .inr (3, [.ref (q 5), .int v_pad_size])), ((q 5), .inl (gI g, 60, .inl v_pad_signs)), ((q 6), .inr (2, [.ref (q 7), .int z4.2.2.2.2.2.2.1, .int z4.2.2.2.2.2.2.2.1, .int z4.2.2.2.2.2.2.2.2.1, .int z4.2.2.2.2.2.2.2.2.2.1, .int z4.2.2.2.2.2.2.2.2.2.2])), ((q 7), .inr (7, [.ref (q 8), .ref (q 9), .int z4.2.2.2.1, .int z4.2.2.2.2.1, .int z4.2.2.2.2.2.1])), ((q 8), .inl (gI g, 6, .inl z4.2.1)), ((q 9), .inl (gI g, 6, .inl z4.2.2.1))]) (va_runV (As := [.ref (q 4), .ref (q 1)]) (rest := []) ⟨hx, hb, hml, hown, hts⟩ (c_X4_playText l g (q 6) (q 7) (q 8) (q 9) (q 4) (q 5) (q 1) (q 2) (q 3) v_match_acts v_match_why v_match_vain v_match_wholeAct v_match_wholeWho v_match_table_inBits v_match_table_holder v_match_table_game v_match_table_drawn v_match_table_points v_pad_size v_pad_signs v_now_inBits v_now_holder v_now_game v_now_drawn v_now_points z4 hq5 s.heap.size) (cwV 2 hts gX11_judge_X4_playText rfl rfl rfl (by decide +kernel) ⟨Nat.le_of_ble_eq_true rfl, Nat.le_of_ble_eq_true rfl⟩) (kpV_M (q0 := 0) (ci := 2) hG hS hP hD hA [6, 7, 8, 9, 4, 5, 1, 2, 3] rfl (by decide) rfl rfl) rfl rfl hl.1 rfl (lv_room (Nat.le_of_ble_eq_true rfl)) dX11_judge_24 ⟨Nat.le_of_ble_eq_true rfl, Nat.le_of_ble_eq_true rfl⟩) hP hD hS hA [6, 7, 8, 9, 4, 5, 1, 2, 3] [0] [0, 7, 8, 9, 5, 6, 1, 2, 3, 4] rfl rfl (by decide) (by decide) rfl (by decide) (fun H locs hP hD hS => ?_)
    refine lv_istore_n (lv' := [(2, .int z4.1), (0, .ref (q 0)), (1, .int x1)]) hx hb dX11_judge_27 rfl hl (by decide) rfl (fun ls hl => ?_)
    refine lv_iload_n hx hb dX11_judge_28 rfl (lv_at hl 0 rfl) ?_
    refine lv_bipush (v := -5) hx hb dX11_judge_29 (by decide) ?_
    refine lv_icmp_ne (tgt := 37) hx hb dX11_judge_31 (by decide) (fun c6 => ?_) (fun c6 => ?_)
    · replace hf := iff_ c6 hf
      refine lv_iload_n hx hb dX11_judge_37 rfl (lv_at hl 2 rfl) ?_
      refine lv_iconst (v := 2) hx hb dX11_judge_38 (by decide) ?_
      refine lv_icmp_ne (tgt := 58) hx hb dX11_judge_39 (by decide) (fun c7 => ?_) (fun c7 => ?_)
      · replace hf := iff_ c7 hf
        refine lv_iload_n hx hb dX11_judge_58 rfl (lv_at hl 0 rfl) ?_
        refine lv_if_ne (tgt := 65) hx hb dX11_judge_59 (by decide) (fun c8 => ?_) (fun c8 => ?_)
        · replace hf := iff_ c8 hf
          refine lv_iload_n hx hb dX11_judge_65 rfl (lv_at hl 2 rfl) ?_
          refine lv_if_ne (tgt := 79) hx hb dX11_judge_66 (by decide) (fun c9 => ?_) (fun c9 => ?_)
          · replace hf := iff_ c9 hf
            refine lv_aload_n hx hb dX11_judge_79 rfl (lv_at hl 1 rfl) ?_
            refine va_get (D := gD g) (ci := 9) (v := .ref (q 6)) (C := RX11) (T := TX11) (N := 10) hx hb hts iX11 hown hK hP 0 rfl rfl 2 (by decide) (hts (.fieldLink RX11 26 "BeetleDrive" "match" "LBeetleDrive$Match;") (List.mem_of_getElem? (i := 1) rfl)) (fun _ h9 => h9) rfl dX11_judge_80 ?_
            refine va_getN (D := gD g) (ci := 2) (v := .int z4.2.2.2.2.2.2.2.1) (C := RX4) (T := TX4) (N := 6) hx hb hts iX4 hown hK hP 6 rfl rfl 2 (by decide) (hG.nf 10 rfl) (fun _ h9 => h9) rfl dX11_judge_83 ?_
            rw [← hQ, ← Option.some.inj hf]
            exact eM_i hx hb hr hlk hP hD hS rfl dX11_judge_86
          · replace hf := ift c9 hf
            refine lv_aload_n hx hb dX11_judge_69 rfl (lv_at hl 1 rfl) ?_
            refine va_get (D := gD g) (ci := 9) (v := .ref (q 6)) (C := RX11) (T := TX11) (N := 10) hx hb hts iX11 hown hK hP 0 rfl rfl 2 (by decide) (hts (.fieldLink RX11 26 "BeetleDrive" "match" "LBeetleDrive$Match;") (List.mem_of_getElem? (i := 1) rfl)) (fun _ h9 => h9) rfl dX11_judge_70 ?_
            refine va_getN (D := gD g) (ci := 2) (v := .int z4.2.2.2.2.2.2.1) (C := RX4) (T := TX4) (N := 6) hx hb hts iX4 hown hK hP 6 rfl rfl 1 (by decide) (hG.nf 9 rfl) (fun _ h9 => h9) rfl dX11_judge_73 ?_
            refine lv_goto (tgt := 86) hx hb dX11_judge_76 (by decide) ?_
            rw [← hQ, ← Option.some.inj hf]
            exact eM_i hx hb hr hlk hP hD hS rfl dX11_judge_86
        · replace hf := ift c8 hf
          refine lv_bipush (v := -6) hx hb dX11_judge_62 (by decide) ?_
          rw [← hQ, ← Option.some.inj hf]
          exact eM_i hx hb hr hlk hP hD hS rfl dX11_judge_64
      · replace hf := ift c7 hf
        refine lv_iload_n hx hb dX11_judge_42 rfl (lv_at hl 0 rfl) ?_
        refine lv_if_ne (tgt := 56) hx hb dX11_judge_43 (by decide) (fun c10 => ?_) (fun c10 => ?_)
        · replace hf := iff_ c10 hf
          refine lv_iload_n hx hb dX11_judge_56 rfl (lv_at hl 0 rfl) ?_
          rw [← hQ, ← Option.some.inj hf]
          exact eM_i hx hb hr hlk hP hD hS rfl dX11_judge_57
        · replace hf := ift c10 hf
          refine lv_aload_n hx hb dX11_judge_46 rfl (lv_at hl 1 rfl) ?_
          refine va_get (D := gD g) (ci := 9) (v := .ref (q 6)) (C := RX11) (T := TX11) (N := 10) hx hb hts iX11 hown hK hP 0 rfl rfl 2 (by decide) (hts (.fieldLink RX11 26 "BeetleDrive" "match" "LBeetleDrive$Match;") (List.mem_of_getElem? (i := 1) rfl)) (fun _ h9 => h9) rfl dX11_judge_47 ?_
          refine va_getN (D := gD g) (ci := 2) (v := .int z4.2.2.2.2.2.2.2.2.1) (C := RX4) (T := TX4) (N := 6) hx hb hts iX4 hown hK hP 6 rfl rfl 3 (by decide) (hG.nf 11 rfl) (fun _ h9 => h9) rfl dX11_judge_50 ?_
          refine lv_goto (tgt := 57) hx hb dX11_judge_53 (by decide) ?_
          rw [← hQ, ← Option.some.inj hf]
          exact eM_i hx hb hr hlk hP hD hS rfl dX11_judge_57
    · replace hf := ift c6 hf
      refine lv_bipush (v := -5) hx hb dX11_judge_34 (by decide) ?_
      rw [← hQ, ← Option.some.inj hf]
      exact eM_i hx hb hr hlk hP hD hS rfl dX11_judge_36
  · replace hf := ift c3 hf
    refine lv_bipush (v := -2) hx hb dX11_judge_9 (by decide) ?_
    rw [← hQ, ← Option.some.inj hf]
    exact eM_i hx hb hr hlk hP hD hS rfl dX11_judge_11
set_option maxHeartbeats 4000000 in
set_option maxRecDepth 100000 in
theorem c_X11_behind (l : Launch) (g : bG) (q : Nat → Nat) (v_now_inBits : Int32) (v_now_holder : Int32) (v_now_game : Int32) (v_now_drawn : Nat → Int32) (v_now_points : Nat → Int32) (v_pad_size : Int32) (v_pad_signs : Nat → Int32) (v_match_acts : Int32) (v_match_why : Int32) (v_match_vain : Int32) (v_match_wholeAct : Int32) (v_match_wholeWho : Int32) (v_match_table_inBits : Int32) (v_match_table_holder : Int32) (v_match_table_game : Int32) (v_match_table_drawn : Nat → Int32) (v_match_table_points : Nat → Int32) (x1 : Int32) (x2 : Int32) (out : Int32 × (Nat → Int32) × (Nat → Int32) × Int32 × Int32 × Int32 × Int32 × Int32 × Int32 × Int32 × Int32) (hf : f_X11_behind v_now_drawn v_now_points v_now_inBits v_now_holder v_now_game v_pad_signs v_pad_size v_match_table_drawn v_match_table_points v_match_table_inBits v_match_table_holder v_match_table_game v_match_acts v_match_why v_match_vain v_match_wholeAct v_match_wholeWho x1 x2 = some out) : Mi l g yX11_behind wsX11_behind ({ frames := 6, cells := 0, slots := 0, locals := 134 } : Room) [.ref (q 0), .int x1, .int x2] [((q 0), .inr (9, oX11 q)), ((q 1), .inr (7, [.ref (q 2), .ref (q 3), .int v_now_inBits, .int v_now_holder, .int v_now_game])), ((q 2), .inl (gI g, 6, .inl v_now_drawn)), ((q 3), .inl (gI g, 6, .inl v_now_points)), ((q 4), .inr (3, [.ref (q 5), .int v_pad_size])), ((q 5), .inl (gI g, 60, .inl v_pad_signs)), ((q 6), .inr (2, [.ref (q 7), .int v_match_acts, .int v_match_why, .int v_match_vain, .int v_match_wholeAct, .int v_match_wholeWho])), ((q 7), .inr (7, [.ref (q 8), .ref (q 9), .int v_match_table_inBits, .int v_match_table_holder, .int v_match_table_game])), ((q 8), .inl (gI g, 6, .inl v_match_table_drawn)), ((q 9), .inl (gI g, 6, .inl v_match_table_points))] out.1 [((q 0), .inr (9, oX11 q)), ((q 1), .inr (7, [.ref (q 2), .ref (q 3), .int v_now_inBits, .int v_now_holder, .int v_now_game])), ((q 2), .inl (gI g, 6, .inl v_now_drawn)), ((q 3), .inl (gI g, 6, .inl v_now_points)), ((q 4), .inr (3, [.ref (q 5), .int v_pad_size])), ((q 5), .inl (gI g, 60, .inl v_pad_signs)), ((q 6), .inr (2, [.ref (q 7), .int out.2.2.2.2.2.2.1, .int out.2.2.2.2.2.2.2.1, .int out.2.2.2.2.2.2.2.2.1, .int out.2.2.2.2.2.2.2.2.2.1, .int out.2.2.2.2.2.2.2.2.2.2])), ((q 7), .inr (7, [.ref (q 8), .ref (q 9), .int out.2.2.2.1, .int out.2.2.2.2.1, .int out.2.2.2.2.2.1])), ((q 8), .inl (gI g, 6, .inl out.2.1)), ((q 9), .inl (gI g, 6, .inl out.2.2.1))] := by
  refine ofM (Qc := fun A => Qi g out.1 [((q 0), .inr (9, oX11 q)), ((q 1), .inr (7, [.ref (q 2), .ref (q 3), .int v_now_inBits, .int v_now_holder, .int v_now_game])), ((q 2), .inl (gI g, 6, .inl v_now_drawn)), ((q 3), .inl (gI g, 6, .inl v_now_points)), ((q 4), .inr (3, [.ref (q 5), .int v_pad_size])), ((q 5), .inl (gI g, 60, .inl v_pad_signs)), ((q 6), .inr (2, [.ref (q 7), .int out.2.2.2.2.2.2.1, .int out.2.2.2.2.2.2.2.1, .int out.2.2.2.2.2.2.2.2.1, .int out.2.2.2.2.2.2.2.2.2.1, .int out.2.2.2.2.2.2.2.2.2.2])), ((q 7), .inr (7, [.ref (q 8), .ref (q 9), .int out.2.2.2.1, .int out.2.2.2.2.1, .int out.2.2.2.2.2.1])), ((q 8), .inl (gI g, 6, .inl out.2.1)), ((q 9), .inl (gI g, 6, .inl out.2.2.1))] A) (cc := cX11_behind) (nL := 4) (ret := some .int) (by decide) rfl (Nat.le_of_ble_eq_true rfl) ?_
  intro p e s m below meth c ar A hC hA hP hD hG ls hl
  have hS : va_S A s.heap s.heap [] := va_S.rf
  obtain ⟨hx, hb, hml, hown, hts, hr, hlk, -⟩ := hC
  have hl : lv_has ls 4 [(0, .ref (q 0)), (1, .int x1), (2, .int x2)] := hl
  have hK := hG.1
  have iX11 : ∀ w ∈ u_ws RX11 TX11 10, w ∈ wsX11_behind := fun w h => List.mem_cons_of_mem _ (List.mem_append_left _ (List.mem_append_left _ (List.mem_append_left _ (List.mem_append_right _ (h)))))
  have iX4 : ∀ w ∈ u_ws RX4 TX4 6, w ∈ wsX11_behind := fun w h => List.mem_cons_of_mem _ (List.mem_append_left _ (List.mem_append_left _ (List.mem_append_right _ (h))))
  have iX9 : ∀ w ∈ u_ws RX9 TX9 5, w ∈ wsX11_behind := fun w h => List.mem_cons_of_mem _ (List.mem_append_left _ (List.mem_append_right _ (h)))
  generalize hQ : MQ below (Qi g out.1 [((q 0), .inr (9, oX11 q)), ((q 1), .inr (7, [.ref (q 2), .ref (q 3), .int v_now_inBits, .int v_now_holder, .int v_now_game])), ((q 2), .inl (gI g, 6, .inl v_now_drawn)), ((q 3), .inl (gI g, 6, .inl v_now_points)), ((q 4), .inr (3, [.ref (q 5), .int v_pad_size])), ((q 5), .inl (gI g, 60, .inl v_pad_signs)), ((q 6), .inr (2, [.ref (q 7), .int out.2.2.2.2.2.2.1, .int out.2.2.2.2.2.2.2.1, .int out.2.2.2.2.2.2.2.2.1, .int out.2.2.2.2.2.2.2.2.2.1, .int out.2.2.2.2.2.2.2.2.2.2])), ((q 7), .inr (7, [.ref (q 8), .ref (q 9), .int out.2.2.2.1, .int out.2.2.2.2.1, .int out.2.2.2.2.2.1])), ((q 8), .inl (gI g, 6, .inl out.2.1)), ((q 9), .inl (gI g, 6, .inl out.2.2.1))] A) ar s 0 0 A = QQ
  unfold f_X11_behind at hf
  refine lv_iload_n hx hb dX11_behind_0 rfl (lv_at hl 1 rfl) ?_
  obtain ⟨z1, hq2, hf⟩ := bnd_some hf
  refine kR_i (va_runS (As := [.int x1]) (rest := []) ⟨hx, hb, hml, hown, hts⟩ (c_X11_isPlayer l g x1 z1 hq2) (va_cwS 1 hts gX11_behind_X11_isPlayer rfl rfl rfl (by decide +kernel) ⟨Nat.le_of_ble_eq_true rfl, Nat.le_of_ble_eq_true rfl⟩) (kpS_R (hG.now hS) (hP.subm (ws' := []) [] rfl)) rfl rfl hl.1 rfl (lv_room (Nat.le_of_ble_eq_true rfl)) dX11_behind_1 ⟨Nat.le_of_ble_eq_true rfl, Nat.le_of_ble_eq_true rfl⟩) ?_
  refine lv_if_ne (tgt := 9) hx hb dX11_behind_4 (by decide) (fun c3 => ?_) (fun c3 => ?_)
  · replace hf := iff_ c3 hf
    refine lv_iload_n hx hb dX11_behind_9 rfl (lv_at hl 2 rfl) ?_
    refine lv_iconst (v := 0) hx hb dX11_behind_10 (by decide) ?_
    refine lv_iconst (v := 3) hx hb dX11_behind_11 (by decide) ?_
    obtain ⟨z4, hq5, hf⟩ := bnd_some hf
    refine kR_i (va_runS (As := [.int x2, .int (0 : Int32), .int (3 : Int32)]) (rest := []) ⟨hx, hb, hml, hown, hts⟩ (c_X11_isWithin l g x2 (0 : Int32) (3 : Int32) z4 hq5) (va_cwS 3 hts gX11_behind_X11_isWithin rfl rfl rfl (by decide +kernel) ⟨Nat.le_of_ble_eq_true rfl, Nat.le_of_ble_eq_true rfl⟩) (kpS_R (hG.now hS) (hP.subm (ws' := []) [] rfl)) rfl rfl hl.1 rfl (lv_room (Nat.le_of_ble_eq_true rfl)) dX11_behind_12 ⟨Nat.le_of_ble_eq_true rfl, Nat.le_of_ble_eq_true rfl⟩) ?_
    refine lv_if_ne (tgt := 21) hx hb dX11_behind_15 (by decide) (fun c6 => ?_) (fun c6 => ?_)
    · replace hf := iff_ c6 hf
      refine lv_aload_n hx hb dX11_behind_21 rfl (lv_at hl 0 rfl) ?_
      refine va_get (D := gD g) (ci := 9) (v := .ref (q 6)) (C := RX11) (T := TX11) (N := 10) hx hb hts iX11 hown hK hP 0 rfl rfl 2 (by decide) (hts (.fieldLink RX11 26 "BeetleDrive" "match" "LBeetleDrive$Match;") (List.mem_of_getElem? (i := 1) rfl)) (fun _ h9 => h9) rfl dX11_behind_22 ?_
      refine lv_aload_n hx hb dX11_behind_25 rfl (lv_at hl 0 rfl) ?_
      refine va_get (D := gD g) (ci := 9) (v := .ref (q 4)) (C := RX11) (T := TX11) (N := 10) hx hb hts iX11 hown hK hP 0 rfl rfl 1 (by decide) (hts (.fieldLink RX11 19 "BeetleDrive" "pad" "LBeetleDrive$Pad;") (List.mem_of_getElem? (i := 2) rfl)) (fun _ h9 => h9) rfl dX11_behind_26 ?_
      refine lv_aload_n hx hb dX11_behind_29 rfl (lv_at hl 0 rfl) ?_
      refine va_get (D := gD g) (ci := 9) (v := .ref (q 1)) (C := RX11) (T := TX11) (N := 10) hx hb hts iX11 hown hK hP 0 rfl rfl 0 (by decide) (hts (.fieldLink RX11 10 "BeetleDrive" "now" "LBeetleDrive$Table;") (List.mem_of_getElem? (i := 3) rfl)) (fun _ h9 => h9) rfl dX11_behind_30 ?_
      obtain ⟨z7, hq8, hf⟩ := bnd_some hf
      refine kM_i (wc := [((q 6), .inr (2, [.ref (q 7), .int v_match_acts, .int v_match_why, .int v_match_vain, .int v_match_wholeAct, .int v_match_wholeWho])), ((q 7), .inr (7, [.ref (q 8), .ref (q 9), .int v_match_table_inBits, .int v_match_table_holder, .int v_match_table_game])), ((q 8), .inl (gI g, 6, .inl v_match_table_drawn)), ((q 9), .inl (gI g, 6, .inl v_match_table_points)), ((q 4), .inr (3, [.ref (q 5), .int v_pad_size])), ((q 5), .inl (gI g, 60, .inl v_pad_signs)), ((q 1), .inr (7, [.ref (q 2), .ref (q 3), .int v_now_inBits, .int v_now_holder, .int v_now_game])), ((q 2), .inl (gI g, 6, .inl v_now_drawn)), ((q 3), .inl (gI g, 6, .inl v_now_points))]) (wr := [((q 0), .inr (9, oX11 q))]) (w1 := [((q 6), .inr (2, [.ref (q 7), .int z7.2.2.2.2.2.2.1, .int z7.2.2.2.2.2.2.2.1, .int z7.2.2.2.2.2.2.2.2.1, .int z7.2.2.2.2.2.2.2.2.2.1, .int z7.2.2.2.2.2.2.2.2.2.2])), ((q 7), .inr (7, [.ref (q 8), .ref (q 9), .int z7.2.2.2.1, .int z7.2.2.2.2.1, .int z7.2.2.2.2.2.1])), ((q 8), .inl (gI g, 6, .inl z7.2.1)), ((q 9), .inl (gI g, 6, .inl z7.2.2.1)), ((q 4), .inr (3, [.ref (q 5), .int v_pad_size])), ((q 5), .inl (gI g, 60, .inl v_pad_signs)), ((q 1), .inr (7, [.ref (q 2), .ref (q 3), .int v_now_inBits, .int v_now_holder, .int v_now_game])), ((q 2), .inl (gI g, 6, .inl v_now_drawn)), ((q 3), .inl (gI g, 6, .inl v_now_points))]) (w2 := [((q 0), .inr (9, oX11 q)), ((q 1), .inr (7, [.ref (q 2), .ref (q 3), .int v_now_inBits, .int v_now_holder, .int v_now_game])), ((q 2), .inl (gI g, 6, .inl v_now_drawn)), ((q 3), .inl (gI g, 6, .inl v_now_points)), ((q 4), .inr (3, [.ref (q 5), .int v_pad_size])), ((q 5), .inl (gI g, 60, .inl v_pad_signs)), ((q 6), .inr (2, [.ref (q 7), .int z7.2.2.2.2.2.2.1, .int z7.2.2.2.2.2.2.2.1, .int z7.2.2.2.2.2.2.2.2.1, .int z7.2.2.2.2.2.2.2.2.2.1, .int z7.2.2.2.2.2.2.2.2.2.2])), ((q 7), .inr (7, [.ref (q 8), .ref (q 9), .int z7.2.2.2.1, .int z7.2.2.2.2.1, .int z7.2.2.2.2.2.1])), ((q 8), .inl (gI g, 6, .inl z7.2.1)), ((q 9), .inl (gI g, 6, .inl z7.2.2.1))]) (va_runV (As := [.ref (q 4), .ref (q 1)]) (rest := []) ⟨hx, hb, hml, hown, hts⟩ (c_X4_playText l g (q 6) (q 7) (q 8) (q 9) (q 4) (q 5) (q 1) (q 2) (q 3) v_match_acts v_match_why v_match_vain v_match_wholeAct v_match_wholeWho v_match_table_inBits v_match_table_holder v_match_table_game v_match_table_drawn v_match_table_points v_pad_size v_pad_signs v_now_inBits v_now_holder v_now_game v_now_drawn v_now_points z7 hq8 s.heap.size) (cwV 2 hts gX11_behind_X4_playText rfl rfl rfl (by decide +kernel) ⟨Nat.le_of_ble_eq_true rfl, Nat.le_of_ble_eq_true rfl⟩) (kpV_M (q0 := 0) (ci := 2) hG hS hP hD hA [6, 7, 8, 9, 4, 5, 1, 2, 3] rfl (by decide) rfl rfl) rfl rfl hl.1 rfl (lv_room (Nat.le_of_ble_eq_true rfl)) dX11_behind_33 ⟨Nat.le_of_ble_eq_true rfl, Nat.le_of_ble_eq_true rfl⟩) hP hD hS hA [6, 7, 8, 9, 4, 5, 1, 2, 3] [0] [0, 7, 8, 9, 5, 6, 1, 2, 3, 4] rfl rfl (by decide) (by decide) rfl (by decide) (fun H locs hP hD hS => ?_)
      refine lv_istore_n (lv' := [(3, .int z7.1), (0, .ref (q 0)), (1, .int x1), (2, .int x2)]) hx hb dX11_behind_36 rfl hl (by decide) rfl (fun ls hl => ?_)
      refine lv_iload_n hx hb dX11_behind_37 rfl (lv_at hl 0 rfl) ?_
      refine lv_if_eq (tgt := 43) hx hb dX11_behind_38 (by decide) (fun c9 => ?_) (fun c9 => ?_)
      · replace hf := ift c9 hf
        refine lv_iload_n hx hb dX11_behind_43 rfl (lv_at hl 3 rfl) ?_
        by_cases c10 : x2 = 0
        · replace hf := ift c10 hf
          refine lv_tableIn (off := 28) (tgt := 72) hx hb dX11_behind_44 (by rw [c10]; decide) (by rw [c10]; decide) (by rw [c10]; rfl) (by decide) ?_
          refine lv_aload_n hx hb dX11_behind_72 rfl (lv_at hl 1 rfl) ?_
          refine va_get (D := gD g) (ci := 9) (v := .ref (q 6)) (C := RX11) (T := TX11) (N := 10) hx hb hts iX11 hown hK hP 0 rfl rfl 2 (by decide) (hts (.fieldLink RX11 26 "BeetleDrive" "match" "LBeetleDrive$Match;") (List.mem_of_getElem? (i := 1) rfl)) (fun _ h9 => h9) rfl dX11_behind_73 ?_
          refine va_getN (D := gD g) (ci := 2) (v := .ref (q 7)) (C := RX4) (T := TX4) (N := 6) hx hb hts iX4 hown hK hP 6 rfl rfl 0 (by decide) (hG.nf 8 rfl) (fun _ h9 => h9) rfl dX11_behind_76 ?_
          refine va_getN (D := gD g) (ci := 7) (v := .ref (q 8)) (C := RX9) (T := TX9) (N := 5) hx hb hts iX9 hown hK hP 7 rfl rfl 0 (by decide) (hG.nf 0 rfl) (fun _ h9 => h9) rfl dX11_behind_79 ?_
          refine lv_iload_n hx hb dX11_behind_82 rfl (lv_at hl 2 rfl) ?_
          obtain ⟨hi11, hf⟩ := chk_some hf
          refine va_iald hx hb hK hP 8 0 rfl rfl hi11 dX11_behind_83 ?_
          obtain ⟨z12, hq13, hf⟩ := bnd_some hf
          refine kR_i (va_runS (As := [.int (z7.2.1 (Int32.toNatClampNeg x1))]) (rest := []) ⟨hx, hb, hml, hown, hts⟩ (c_X0_parts l g (z7.2.1 (Int32.toNatClampNeg x1)) z12 hq13) (va_cwS 1 hts gX11_behind_X0_parts rfl rfl rfl (by decide +kernel) ⟨Nat.le_of_ble_eq_true rfl, Nat.le_of_ble_eq_true rfl⟩) (kpS_R (hG.now hS) (hP.subm (ws' := []) [] rfl)) rfl rfl hl.1 rfl (lv_room (Nat.le_of_ble_eq_true rfl)) dX11_behind_84 ⟨Nat.le_of_ble_eq_true rfl, Nat.le_of_ble_eq_true rfl⟩) ?_
          rw [← hQ, ← Option.some.inj hf]
          exact eM_i hx hb hr hlk hP hD hS rfl dX11_behind_87
        · replace hf := iff_ c10 hf
          by_cases c14 : x2 = 1
          · replace hf := ift c14 hf
            refine lv_tableIn (off := 44) (tgt := 88) hx hb dX11_behind_44 (by rw [c14]; decide) (by rw [c14]; decide) (by rw [c14]; rfl) (by decide) ?_
            refine lv_aload_n hx hb dX11_behind_88 rfl (lv_at hl 1 rfl) ?_
            refine va_get (D := gD g) (ci := 9) (v := .ref (q 6)) (C := RX11) (T := TX11) (N := 10) hx hb hts iX11 hown hK hP 0 rfl rfl 2 (by decide) (hts (.fieldLink RX11 26 "BeetleDrive" "match" "LBeetleDrive$Match;") (List.mem_of_getElem? (i := 1) rfl)) (fun _ h9 => h9) rfl dX11_behind_89 ?_
            refine va_getN (D := gD g) (ci := 2) (v := .ref (q 7)) (C := RX4) (T := TX4) (N := 6) hx hb hts iX4 hown hK hP 6 rfl rfl 0 (by decide) (hG.nf 8 rfl) (fun _ h9 => h9) rfl dX11_behind_92 ?_
            refine va_getN (D := gD g) (ci := 7) (v := .ref (q 9)) (C := RX9) (T := TX9) (N := 5) hx hb hts iX9 hown hK hP 7 rfl rfl 1 (by decide) (hG.nf 1 rfl) (fun _ h9 => h9) rfl dX11_behind_95 ?_
            refine lv_iload_n hx hb dX11_behind_98 rfl (lv_at hl 2 rfl) ?_
            obtain ⟨hi15, hf⟩ := chk_some hf
            refine va_iald hx hb hK hP 9 0 rfl rfl hi15 dX11_behind_99 ?_
            rw [← hQ, ← Option.some.inj hf]
            exact eM_i hx hb hr hlk hP hD hS rfl dX11_behind_100
          · replace hf := iff_ c14 hf
            by_cases c16 : x2 = 2
            · replace hf := ift c16 hf
              refine lv_tableIn (off := 57) (tgt := 101) hx hb dX11_behind_44 (by rw [c16]; decide) (by rw [c16]; decide) (by rw [c16]; rfl) (by decide) ?_
              refine lv_aload_n hx hb dX11_behind_101 rfl (lv_at hl 1 rfl) ?_
              refine va_get (D := gD g) (ci := 9) (v := .ref (q 6)) (C := RX11) (T := TX11) (N := 10) hx hb hts iX11 hown hK hP 0 rfl rfl 2 (by decide) (hts (.fieldLink RX11 26 "BeetleDrive" "match" "LBeetleDrive$Match;") (List.mem_of_getElem? (i := 1) rfl)) (fun _ h9 => h9) rfl dX11_behind_102 ?_
              refine va_getN (D := gD g) (ci := 2) (v := .ref (q 7)) (C := RX4) (T := TX4) (N := 6) hx hb hts iX4 hown hK hP 6 rfl rfl 0 (by decide) (hG.nf 8 rfl) (fun _ h9 => h9) rfl dX11_behind_105 ?_
              refine lv_iload_n hx hb dX11_behind_108 rfl (lv_at hl 2 rfl) ?_
              obtain ⟨z17, hq18, hf⟩ := bnd_some hf
              refine kR_i (va_runV (As := [.int x1]) (rest := []) ⟨hx, hb, hml, hown, hts⟩ (c_X9_isIn l g (q 7) (q 8) (q 9) z7.2.2.2.1 z7.2.2.2.2.1 z7.2.2.2.2.2.1 x1 z17 hq18) (cwV 1 hts gX11_behind_X9_isIn rfl rfl rfl (by decide +kernel) ⟨Nat.le_of_ble_eq_true rfl, Nat.le_of_ble_eq_true rfl⟩) (kpV_R (q0 := 0) (ci := 7) (hG.now hS) (hP.subm (ws' := [((q 7), .inr (7, [.ref (q 8), .ref (q 9), .int z7.2.2.2.1, .int z7.2.2.2.2.1, .int z7.2.2.2.2.2.1]))]) [7] rfl) rfl rfl) rfl rfl hl.1 rfl (lv_room (Nat.le_of_ble_eq_true rfl)) dX11_behind_109 ⟨Nat.le_of_ble_eq_true rfl, Nat.le_of_ble_eq_true rfl⟩) ?_
              refine lv_if_eq (tgt := 119) hx hb dX11_behind_112 (by decide) (fun c19 => ?_) (fun c19 => ?_)
              · replace hf := ift c19 hf
                refine lv_iconst (v := 0) hx hb dX11_behind_119 (by decide) ?_
                rw [← hQ, ← Option.some.inj hf]
                exact eM_i hx hb hr hlk hP hD hS rfl dX11_behind_120
              · replace hf := iff_ c19 hf
                refine lv_iconst (v := 1) hx hb dX11_behind_115 (by decide) ?_
                refine lv_goto (tgt := 120) hx hb dX11_behind_116 (by decide) ?_
                rw [← hQ, ← Option.some.inj hf]
                exact eM_i hx hb hr hlk hP hD hS rfl dX11_behind_120
            · replace hf := iff_ c16 hf
              have ec10 := lv_neT c10 (a := 0) (by decide)
              have ec14 := lv_neT c14 (a := 1) (by decide)
              have ec16 := lv_neT c16 (a := 2) (by decide)
              refine lv_tableOut (tgt := 121) hx hb dX11_behind_44 (by omega) (by decide) ?_
              refine lv_aload_n hx hb dX11_behind_121 rfl (lv_at hl 1 rfl) ?_
              refine va_get (D := gD g) (ci := 9) (v := .ref (q 6)) (C := RX11) (T := TX11) (N := 10) hx hb hts iX11 hown hK hP 0 rfl rfl 2 (by decide) (hts (.fieldLink RX11 26 "BeetleDrive" "match" "LBeetleDrive$Match;") (List.mem_of_getElem? (i := 1) rfl)) (fun _ h9 => h9) rfl dX11_behind_122 ?_
              refine va_getN (D := gD g) (ci := 2) (v := .ref (q 7)) (C := RX4) (T := TX4) (N := 6) hx hb hts iX4 hown hK hP 6 rfl rfl 0 (by decide) (hG.nf 8 rfl) (fun _ h9 => h9) rfl dX11_behind_125 ?_
              refine va_getN (D := gD g) (ci := 7) (v := .ref (q 8)) (C := RX9) (T := TX9) (N := 5) hx hb hts iX9 hown hK hP 7 rfl rfl 0 (by decide) (hG.nf 0 rfl) (fun _ h9 => h9) rfl dX11_behind_128 ?_
              refine lv_iload_n hx hb dX11_behind_131 rfl (lv_at hl 2 rfl) ?_
              obtain ⟨hi20, hf⟩ := chk_some hf
              refine va_iald hx hb hK hP 8 0 rfl rfl hi20 dX11_behind_132 ?_
              rw [← hQ, ← Option.some.inj hf]
              exact eM_i hx hb hr hlk hP hD hS rfl dX11_behind_133
      · replace hf := iff_ c9 hf
        refine lv_iload_n hx hb dX11_behind_41 rfl (lv_at hl 0 rfl) ?_
        rw [← hQ, ← Option.some.inj hf]
        exact eM_i hx hb hr hlk hP hD hS rfl dX11_behind_42
    · replace hf := ift c6 hf
      refine lv_bipush (v := -2) hx hb dX11_behind_18 (by decide) ?_
      rw [← hQ, ← Option.some.inj hf]
      exact eM_i hx hb hr hlk hP hD hS rfl dX11_behind_20
  · replace hf := ift c3 hf
    refine lv_iconst (v := -1) hx hb dX11_behind_7 (by decide) ?_
    rw [← hQ, ← Option.some.inj hf]
    exact eM_i hx hb hr hlk hP hD hS rfl dX11_behind_8
set_option maxHeartbeats 4000000 in
set_option maxRecDepth 100000 in
theorem c_X11_table (l : Launch) (g : bG) (q : Nat → Nat) (v_now_inBits : Int32) (v_now_holder : Int32) (v_now_game : Int32) (v_now_drawn : Nat → Int32) (v_now_points : Nat → Int32) (v_pad_size : Int32) (v_pad_signs : Nat → Int32) (v_match_acts : Int32) (v_match_why : Int32) (v_match_vain : Int32) (v_match_wholeAct : Int32) (v_match_wholeWho : Int32) (v_match_table_inBits : Int32) (v_match_table_holder : Int32) (v_match_table_game : Int32) (v_match_table_drawn : Nat → Int32) (v_match_table_points : Nat → Int32) (x1 : Int32) (out : Int32 × (Nat → Int32) × (Nat → Int32) × Int32 × Int32 × Int32 × Int32 × Int32 × Int32 × Int32 × Int32) (hf : f_X11_table v_now_drawn v_now_points v_now_inBits v_now_holder v_now_game v_pad_signs v_pad_size v_match_table_drawn v_match_table_points v_match_table_inBits v_match_table_holder v_match_table_game v_match_acts v_match_why v_match_vain v_match_wholeAct v_match_wholeWho x1 = some out) : Mi l g yX11_table wsX11_table ({ frames := 6, cells := 0, slots := 0, locals := 134 } : Room) [.ref (q 0), .int x1] [((q 0), .inr (9, oX11 q)), ((q 1), .inr (7, [.ref (q 2), .ref (q 3), .int v_now_inBits, .int v_now_holder, .int v_now_game])), ((q 2), .inl (gI g, 6, .inl v_now_drawn)), ((q 3), .inl (gI g, 6, .inl v_now_points)), ((q 4), .inr (3, [.ref (q 5), .int v_pad_size])), ((q 5), .inl (gI g, 60, .inl v_pad_signs)), ((q 6), .inr (2, [.ref (q 7), .int v_match_acts, .int v_match_why, .int v_match_vain, .int v_match_wholeAct, .int v_match_wholeWho])), ((q 7), .inr (7, [.ref (q 8), .ref (q 9), .int v_match_table_inBits, .int v_match_table_holder, .int v_match_table_game])), ((q 8), .inl (gI g, 6, .inl v_match_table_drawn)), ((q 9), .inl (gI g, 6, .inl v_match_table_points))] out.1 [((q 0), .inr (9, oX11 q)), ((q 1), .inr (7, [.ref (q 2), .ref (q 3), .int v_now_inBits, .int v_now_holder, .int v_now_game])), ((q 2), .inl (gI g, 6, .inl v_now_drawn)), ((q 3), .inl (gI g, 6, .inl v_now_points)), ((q 4), .inr (3, [.ref (q 5), .int v_pad_size])), ((q 5), .inl (gI g, 60, .inl v_pad_signs)), ((q 6), .inr (2, [.ref (q 7), .int out.2.2.2.2.2.2.1, .int out.2.2.2.2.2.2.2.1, .int out.2.2.2.2.2.2.2.2.1, .int out.2.2.2.2.2.2.2.2.2.1, .int out.2.2.2.2.2.2.2.2.2.2])), ((q 7), .inr (7, [.ref (q 8), .ref (q 9), .int out.2.2.2.1, .int out.2.2.2.2.1, .int out.2.2.2.2.2.1])), ((q 8), .inl (gI g, 6, .inl out.2.1)), ((q 9), .inl (gI g, 6, .inl out.2.2.1))] := by
  refine ofM (Qc := fun A => Qi g out.1 [((q 0), .inr (9, oX11 q)), ((q 1), .inr (7, [.ref (q 2), .ref (q 3), .int v_now_inBits, .int v_now_holder, .int v_now_game])), ((q 2), .inl (gI g, 6, .inl v_now_drawn)), ((q 3), .inl (gI g, 6, .inl v_now_points)), ((q 4), .inr (3, [.ref (q 5), .int v_pad_size])), ((q 5), .inl (gI g, 60, .inl v_pad_signs)), ((q 6), .inr (2, [.ref (q 7), .int out.2.2.2.2.2.2.1, .int out.2.2.2.2.2.2.2.1, .int out.2.2.2.2.2.2.2.2.1, .int out.2.2.2.2.2.2.2.2.2.1, .int out.2.2.2.2.2.2.2.2.2.2])), ((q 7), .inr (7, [.ref (q 8), .ref (q 9), .int out.2.2.2.1, .int out.2.2.2.2.1, .int out.2.2.2.2.2.1])), ((q 8), .inl (gI g, 6, .inl out.2.1)), ((q 9), .inl (gI g, 6, .inl out.2.2.1))] A) (cc := cX11_table) (nL := 3) (ret := some .int) (by decide) rfl (Nat.le_of_ble_eq_true rfl) ?_
  intro p e s m below meth c ar A hC hA hP hD hG ls hl
  have hS : va_S A s.heap s.heap [] := va_S.rf
  obtain ⟨hx, hb, hml, hown, hts, hr, hlk, -⟩ := hC
  have hl : lv_has ls 3 [(0, .ref (q 0)), (1, .int x1)] := hl
  have hK := hG.1
  have iX11 : ∀ w ∈ u_ws RX11 TX11 10, w ∈ wsX11_table := fun w h => List.mem_cons_of_mem _ (List.mem_append_left _ (List.mem_append_left _ (List.mem_append_left _ (List.mem_append_right _ (h)))))
  have iX4 : ∀ w ∈ u_ws RX4 TX4 6, w ∈ wsX11_table := fun w h => List.mem_cons_of_mem _ (List.mem_append_left _ (List.mem_append_left _ (List.mem_append_right _ (h))))
  have iX9 : ∀ w ∈ u_ws RX9 TX9 5, w ∈ wsX11_table := fun w h => List.mem_cons_of_mem _ (List.mem_append_left _ (List.mem_append_right _ (h)))
  generalize hQ : MQ below (Qi g out.1 [((q 0), .inr (9, oX11 q)), ((q 1), .inr (7, [.ref (q 2), .ref (q 3), .int v_now_inBits, .int v_now_holder, .int v_now_game])), ((q 2), .inl (gI g, 6, .inl v_now_drawn)), ((q 3), .inl (gI g, 6, .inl v_now_points)), ((q 4), .inr (3, [.ref (q 5), .int v_pad_size])), ((q 5), .inl (gI g, 60, .inl v_pad_signs)), ((q 6), .inr (2, [.ref (q 7), .int out.2.2.2.2.2.2.1, .int out.2.2.2.2.2.2.2.1, .int out.2.2.2.2.2.2.2.2.1, .int out.2.2.2.2.2.2.2.2.2.1, .int out.2.2.2.2.2.2.2.2.2.2])), ((q 7), .inr (7, [.ref (q 8), .ref (q 9), .int out.2.2.2.1, .int out.2.2.2.2.1, .int out.2.2.2.2.2.1])), ((q 8), .inl (gI g, 6, .inl out.2.1)), ((q 9), .inl (gI g, 6, .inl out.2.2.1))] A) ar s 0 0 A = QQ
  unfold f_X11_table at hf
  refine lv_iload_n hx hb dX11_table_0 rfl (lv_at hl 1 rfl) ?_
  refine lv_iconst (v := 0) hx hb dX11_table_1 (by decide) ?_
  refine lv_iconst (v := 3) hx hb dX11_table_2 (by decide) ?_
  obtain ⟨z1, hq2, hf⟩ := bnd_some hf
  refine kR_i (va_runS (As := [.int x1, .int (0 : Int32), .int (3 : Int32)]) (rest := []) ⟨hx, hb, hml, hown, hts⟩ (c_X11_isWithin l g x1 (0 : Int32) (3 : Int32) z1 hq2) (va_cwS 3 hts gX11_table_X11_isWithin rfl rfl rfl (by decide +kernel) ⟨Nat.le_of_ble_eq_true rfl, Nat.le_of_ble_eq_true rfl⟩) (kpS_R (hG.now hS) (hP.subm (ws' := []) [] rfl)) rfl rfl hl.1 rfl (lv_room (Nat.le_of_ble_eq_true rfl)) dX11_table_3 ⟨Nat.le_of_ble_eq_true rfl, Nat.le_of_ble_eq_true rfl⟩) ?_
  refine lv_if_ne (tgt := 12) hx hb dX11_table_6 (by decide) (fun c3 => ?_) (fun c3 => ?_)
  · replace hf := iff_ c3 hf
    refine lv_aload_n hx hb dX11_table_12 rfl (lv_at hl 0 rfl) ?_
    refine va_get (D := gD g) (ci := 9) (v := .ref (q 6)) (C := RX11) (T := TX11) (N := 10) hx hb hts iX11 hown hK hP 0 rfl rfl 2 (by decide) (hts (.fieldLink RX11 26 "BeetleDrive" "match" "LBeetleDrive$Match;") (List.mem_of_getElem? (i := 1) rfl)) (fun _ h9 => h9) rfl dX11_table_13 ?_
    refine lv_aload_n hx hb dX11_table_16 rfl (lv_at hl 0 rfl) ?_
    refine va_get (D := gD g) (ci := 9) (v := .ref (q 4)) (C := RX11) (T := TX11) (N := 10) hx hb hts iX11 hown hK hP 0 rfl rfl 1 (by decide) (hts (.fieldLink RX11 19 "BeetleDrive" "pad" "LBeetleDrive$Pad;") (List.mem_of_getElem? (i := 2) rfl)) (fun _ h9 => h9) rfl dX11_table_17 ?_
    refine lv_aload_n hx hb dX11_table_20 rfl (lv_at hl 0 rfl) ?_
    refine va_get (D := gD g) (ci := 9) (v := .ref (q 1)) (C := RX11) (T := TX11) (N := 10) hx hb hts iX11 hown hK hP 0 rfl rfl 0 (by decide) (hts (.fieldLink RX11 10 "BeetleDrive" "now" "LBeetleDrive$Table;") (List.mem_of_getElem? (i := 3) rfl)) (fun _ h9 => h9) rfl dX11_table_21 ?_
    obtain ⟨z4, hq5, hf⟩ := bnd_some hf
    refine kM_i (wc := [((q 6), .inr (2, [.ref (q 7), .int v_match_acts, .int v_match_why, .int v_match_vain, .int v_match_wholeAct, .int v_match_wholeWho])), ((q 7), .inr (7, [.ref (q 8), .ref (q 9), .int v_match_table_inBits, .int v_match_table_holder, .int v_match_table_game])), ((q 8), .inl (gI g, 6, .inl v_match_table_drawn)), ((q 9), .inl (gI g, 6, .inl v_match_table_points)), ((q 4), .inr (3, [.ref (q 5), .int v_pad_size])), ((q 5), .inl (gI g, 60, .inl v_pad_signs)), ((q 1), .inr (7, [.ref (q 2), .ref (q 3), .int v_now_inBits, .int v_now_holder, .int v_now_game])), ((q 2), .inl (gI g, 6, .inl v_now_drawn)), ((q 3), .inl (gI g, 6, .inl v_now_points))]) (wr := [((q 0), .inr (9, oX11 q))]) (w1 := [((q 6), .inr (2, [.ref (q 7), .int z4.2.2.2.2.2.2.1, .int z4.2.2.2.2.2.2.2.1, .int z4.2.2.2.2.2.2.2.2.1, .int z4.2.2.2.2.2.2.2.2.2.1, .int z4.2.2.2.2.2.2.2.2.2.2])), ((q 7), .inr (7, [.ref (q 8), .ref (q 9), .int z4.2.2.2.1, .int z4.2.2.2.2.1, .int z4.2.2.2.2.2.1])), ((q 8), .inl (gI g, 6, .inl z4.2.1)), ((q 9), .inl (gI g, 6, .inl z4.2.2.1)), ((q 4), .inr (3, [.ref (q 5), .int v_pad_size])), ((q 5), .inl (gI g, 60, .inl v_pad_signs)), ((q 1), .inr (7, [.ref (q 2), .ref (q 3), .int v_now_inBits, .int v_now_holder, .int v_now_game])), ((q 2), .inl (gI g, 6, .inl v_now_drawn)), ((q 3), .inl (gI g, 6, .inl v_now_points))]) (w2 := [((q 0), .inr (9, oX11 q)), ((q 1), .inr (7, [.ref (q 2), .ref (q 3), .int v_now_inBits, .int v_now_holder, .int v_now_game])), ((q 2), .inl (gI g, 6, .inl v_now_drawn)), ((q 3), .inl (gI g, 6, .inl v_now_points)), ((q 4), .inr (3, [.ref (q 5), .int v_pad_size])), ((q 5), .inl (gI g, 60, .inl v_pad_signs)), ((q 6), .inr (2, [.ref (q 7), .int z4.2.2.2.2.2.2.1, .int z4.2.2.2.2.2.2.2.1, .int z4.2.2.2.2.2.2.2.2.1, .int z4.2.2.2.2.2.2.2.2.2.1, .int z4.2.2.2.2.2.2.2.2.2.2])), ((q 7), .inr (7, [.ref (q 8), .ref (q 9), .int z4.2.2.2.1, .int z4.2.2.2.2.1, .int z4.2.2.2.2.2.1])), ((q 8), .inl (gI g, 6, .inl z4.2.1)), ((q 9), .inl (gI g, 6, .inl z4.2.2.1))]) (va_runV (As := [.ref (q 4), .ref (q 1)]) (rest := []) ⟨hx, hb, hml, hown, hts⟩ (c_X4_playText l g (q 6) (q 7) (q 8) (q 9) (q 4) (q 5) (q 1) (q 2) (q 3) v_match_acts v_match_why v_match_vain v_match_wholeAct v_match_wholeWho v_match_table_inBits v_match_table_holder v_match_table_game v_match_table_drawn v_match_table_points v_pad_size v_pad_signs v_now_inBits v_now_holder v_now_game v_now_drawn v_now_points z4 hq5 s.heap.size) (cwV 2 hts gX11_table_X4_playText rfl rfl rfl (by decide +kernel) ⟨Nat.le_of_ble_eq_true rfl, Nat.le_of_ble_eq_true rfl⟩) (kpV_M (q0 := 0) (ci := 2) hG hS hP hD hA [6, 7, 8, 9, 4, 5, 1, 2, 3] rfl (by decide) rfl rfl) rfl rfl hl.1 rfl (lv_room (Nat.le_of_ble_eq_true rfl)) dX11_table_24 ⟨Nat.le_of_ble_eq_true rfl, Nat.le_of_ble_eq_true rfl⟩) hP hD hS hA [6, 7, 8, 9, 4, 5, 1, 2, 3] [0] [0, 7, 8, 9, 5, 6, 1, 2, 3, 4] rfl rfl (by decide) (by decide) rfl (by decide) (fun H locs hP hD hS => ?_)
    refine lv_istore_n (lv' := [(2, .int z4.1), (0, .ref (q 0)), (1, .int x1)]) hx hb dX11_table_27 rfl hl (by decide) rfl (fun ls hl => ?_)
    refine lv_iload_n hx hb dX11_table_28 rfl (lv_at hl 0 rfl) ?_
    refine lv_if_eq (tgt := 34) hx hb dX11_table_29 (by decide) (fun c6 => ?_) (fun c6 => ?_)
    · replace hf := ift c6 hf
      refine lv_iload_n hx hb dX11_table_34 rfl (lv_at hl 2 rfl) ?_
      by_cases c7 : x1 = 0
      · replace hf := ift c7 hf
        refine lv_tableIn (off := 25) (tgt := 60) hx hb dX11_table_35 (by rw [c7]; decide) (by rw [c7]; decide) (by rw [c7]; rfl) (by decide) ?_
        refine lv_aload_n hx hb dX11_table_60 rfl (lv_at hl 1 rfl) ?_
        refine va_get (D := gD g) (ci := 9) (v := .ref (q 6)) (C := RX11) (T := TX11) (N := 10) hx hb hts iX11 hown hK hP 0 rfl rfl 2 (by decide) (hts (.fieldLink RX11 26 "BeetleDrive" "match" "LBeetleDrive$Match;") (List.mem_of_getElem? (i := 1) rfl)) (fun _ h9 => h9) rfl dX11_table_61 ?_
        refine va_getN (D := gD g) (ci := 2) (v := .ref (q 7)) (C := RX4) (T := TX4) (N := 6) hx hb hts iX4 hown hK hP 6 rfl rfl 0 (by decide) (hG.nf 8 rfl) (fun _ h9 => h9) rfl dX11_table_64 ?_
        refine va_getN (D := gD g) (ci := 7) (v := .int z4.2.2.2.2.1) (C := RX9) (T := TX9) (N := 5) hx hb hts iX9 hown hK hP 7 rfl rfl 3 (by decide) (hG.nf 2 rfl) (fun _ h9 => h9) rfl dX11_table_67 ?_
        rw [← hQ, ← Option.some.inj hf]
        exact eM_i hx hb hr hlk hP hD hS rfl dX11_table_70
      · replace hf := iff_ c7 hf
        by_cases c8 : x1 = 1
        · replace hf := ift c8 hf
          refine lv_tableIn (off := 36) (tgt := 71) hx hb dX11_table_35 (by rw [c8]; decide) (by rw [c8]; decide) (by rw [c8]; rfl) (by decide) ?_
          refine lv_aload_n hx hb dX11_table_71 rfl (lv_at hl 1 rfl) ?_
          refine va_get (D := gD g) (ci := 9) (v := .ref (q 6)) (C := RX11) (T := TX11) (N := 10) hx hb hts iX11 hown hK hP 0 rfl rfl 2 (by decide) (hts (.fieldLink RX11 26 "BeetleDrive" "match" "LBeetleDrive$Match;") (List.mem_of_getElem? (i := 1) rfl)) (fun _ h9 => h9) rfl dX11_table_72 ?_
          refine va_getN (D := gD g) (ci := 2) (v := .ref (q 7)) (C := RX4) (T := TX4) (N := 6) hx hb hts iX4 hown hK hP 6 rfl rfl 0 (by decide) (hG.nf 8 rfl) (fun _ h9 => h9) rfl dX11_table_75 ?_
          refine va_getN (D := gD g) (ci := 7) (v := .int z4.2.2.2.2.2.1) (C := RX9) (T := TX9) (N := 5) hx hb hts iX9 hown hK hP 7 rfl rfl 4 (by decide) (hG.nf 4 rfl) (fun _ h9 => h9) rfl dX11_table_78 ?_
          rw [← hQ, ← Option.some.inj hf]
          exact eM_i hx hb hr hlk hP hD hS rfl dX11_table_81
        · replace hf := iff_ c8 hf
          by_cases c9 : x1 = 2
          · replace hf := ift c9 hf
            refine lv_tableIn (off := 47) (tgt := 82) hx hb dX11_table_35 (by rw [c9]; decide) (by rw [c9]; decide) (by rw [c9]; rfl) (by decide) ?_
            refine lv_aload_n hx hb dX11_table_82 rfl (lv_at hl 1 rfl) ?_
            refine va_get (D := gD g) (ci := 9) (v := .ref (q 6)) (C := RX11) (T := TX11) (N := 10) hx hb hts iX11 hown hK hP 0 rfl rfl 2 (by decide) (hts (.fieldLink RX11 26 "BeetleDrive" "match" "LBeetleDrive$Match;") (List.mem_of_getElem? (i := 1) rfl)) (fun _ h9 => h9) rfl dX11_table_83 ?_
            refine va_getN (D := gD g) (ci := 2) (v := .ref (q 7)) (C := RX4) (T := TX4) (N := 6) hx hb hts iX4 hown hK hP 6 rfl rfl 0 (by decide) (hG.nf 8 rfl) (fun _ h9 => h9) rfl dX11_table_86 ?_
            obtain ⟨z10, hq11, hf⟩ := bnd_some hf
            refine kR_i (va_runV (As := []) (rest := []) ⟨hx, hb, hml, hown, hts⟩ (c_X9_wholeOnes l g (q 7) (q 8) (q 9) z4.2.2.2.1 z4.2.2.2.2.1 z4.2.2.2.2.2.1 z4.2.1 z10 hq11) (cwV 0 hts gX11_table_X9_wholeOnes rfl rfl rfl (by decide +kernel) ⟨Nat.le_of_ble_eq_true rfl, Nat.le_of_ble_eq_true rfl⟩) (kpV_R (q0 := 0) (ci := 7) (hG.now hS) (hP.subm (ws' := [((q 7), .inr (7, [.ref (q 8), .ref (q 9), .int z4.2.2.2.1, .int z4.2.2.2.2.1, .int z4.2.2.2.2.2.1])), ((q 8), .inl (gI g, 6, .inl z4.2.1))]) [7, 8] rfl) rfl rfl) rfl rfl hl.1 rfl (lv_room (Nat.le_of_ble_eq_true rfl)) dX11_table_89 ⟨Nat.le_of_ble_eq_true rfl, Nat.le_of_ble_eq_true rfl⟩) ?_
            rw [← hQ, ← Option.some.inj hf]
            exact eM_i hx hb hr hlk hP hD hS rfl dX11_table_92
          · replace hf := iff_ c9 hf
            have ec7 := lv_neT c7 (a := 0) (by decide)
            have ec8 := lv_neT c8 (a := 1) (by decide)
            have ec9 := lv_neT c9 (a := 2) (by decide)
            refine lv_tableOut (tgt := 93) hx hb dX11_table_35 (by omega) (by decide) ?_
            refine lv_aload_n hx hb dX11_table_93 rfl (lv_at hl 1 rfl) ?_
            refine va_get (D := gD g) (ci := 9) (v := .ref (q 6)) (C := RX11) (T := TX11) (N := 10) hx hb hts iX11 hown hK hP 0 rfl rfl 2 (by decide) (hts (.fieldLink RX11 26 "BeetleDrive" "match" "LBeetleDrive$Match;") (List.mem_of_getElem? (i := 1) rfl)) (fun _ h9 => h9) rfl dX11_table_94 ?_
            refine va_getN (D := gD g) (ci := 2) (v := .ref (q 7)) (C := RX4) (T := TX4) (N := 6) hx hb hts iX4 hown hK hP 6 rfl rfl 0 (by decide) (hG.nf 8 rfl) (fun _ h9 => h9) rfl dX11_table_97 ?_
            obtain ⟨z12, hq13, hf⟩ := bnd_some hf
            refine kR_i (va_runV (As := []) (rest := []) ⟨hx, hb, hml, hown, hts⟩ (c_X9_leader l g (q 7) (q 8) (q 9) z4.2.2.2.1 z4.2.2.2.2.1 z4.2.2.2.2.2.1 z4.2.1 z4.2.2.1 z12 hq13) (cwV 0 hts gX11_table_X9_leader rfl rfl rfl (by decide +kernel) ⟨Nat.le_of_ble_eq_true rfl, Nat.le_of_ble_eq_true rfl⟩) (kpV_R (q0 := 0) (ci := 7) (hG.now hS) (hP.subm (ws' := [((q 7), .inr (7, [.ref (q 8), .ref (q 9), .int z4.2.2.2.1, .int z4.2.2.2.2.1, .int z4.2.2.2.2.2.1])), ((q 8), .inl (gI g, 6, .inl z4.2.1)), ((q 9), .inl (gI g, 6, .inl z4.2.2.1))]) [7, 8, 9] rfl) rfl rfl) rfl rfl hl.1 rfl (lv_room (Nat.le_of_ble_eq_true rfl)) dX11_table_100 ⟨Nat.le_of_ble_eq_true rfl, Nat.le_of_ble_eq_true rfl⟩) ?_
            rw [← hQ, ← Option.some.inj hf]
            exact eM_i hx hb hr hlk hP hD hS rfl dX11_table_103
    · replace hf := iff_ c6 hf
      refine lv_iload_n hx hb dX11_table_32 rfl (lv_at hl 0 rfl) ?_
      rw [← hQ, ← Option.some.inj hf]
      exact eM_i hx hb hr hlk hP hD hS rfl dX11_table_33
  · replace hf := ift c3 hf
    refine lv_bipush (v := -2) hx hb dX11_table_9 (by decide) ?_
    rw [← hQ, ← Option.some.inj hf]
    exact eM_i hx hb hr hlk hP hD hS rfl dX11_table_11
set_option maxHeartbeats 4000000 in
set_option maxRecDepth 100000 in
theorem c_X11_first (l : Launch) (g : bG) (q : Nat → Nat) (v_now_inBits : Int32) (v_now_holder : Int32) (v_now_game : Int32) (v_now_drawn : Nat → Int32) (v_now_points : Nat → Int32) (v_pad_size : Int32) (v_pad_signs : Nat → Int32) (v_match_acts : Int32) (v_match_why : Int32) (v_match_vain : Int32) (v_match_wholeAct : Int32) (v_match_wholeWho : Int32) (v_match_table_inBits : Int32) (v_match_table_holder : Int32) (v_match_table_game : Int32) (v_match_table_drawn : Nat → Int32) (v_match_table_points : Nat → Int32) (x1 : Int32) (out : Int32 × (Nat → Int32) × (Nat → Int32) × Int32 × Int32 × Int32 × Int32 × Int32 × Int32 × Int32 × Int32) (hf : f_X11_first v_now_drawn v_now_points v_now_inBits v_now_holder v_now_game v_pad_signs v_pad_size v_match_table_drawn v_match_table_points v_match_table_inBits v_match_table_holder v_match_table_game v_match_acts v_match_why v_match_vain v_match_wholeAct v_match_wholeWho x1 = some out) : Mi l g yX11_first wsX11_first ({ frames := 6, cells := 0, slots := 0, locals := 134 } : Room) [.ref (q 0), .int x1] [((q 0), .inr (9, oX11 q)), ((q 1), .inr (7, [.ref (q 2), .ref (q 3), .int v_now_inBits, .int v_now_holder, .int v_now_game])), ((q 2), .inl (gI g, 6, .inl v_now_drawn)), ((q 3), .inl (gI g, 6, .inl v_now_points)), ((q 4), .inr (3, [.ref (q 5), .int v_pad_size])), ((q 5), .inl (gI g, 60, .inl v_pad_signs)), ((q 6), .inr (2, [.ref (q 7), .int v_match_acts, .int v_match_why, .int v_match_vain, .int v_match_wholeAct, .int v_match_wholeWho])), ((q 7), .inr (7, [.ref (q 8), .ref (q 9), .int v_match_table_inBits, .int v_match_table_holder, .int v_match_table_game])), ((q 8), .inl (gI g, 6, .inl v_match_table_drawn)), ((q 9), .inl (gI g, 6, .inl v_match_table_points))] out.1 [((q 0), .inr (9, oX11 q)), ((q 1), .inr (7, [.ref (q 2), .ref (q 3), .int v_now_inBits, .int v_now_holder, .int v_now_game])), ((q 2), .inl (gI g, 6, .inl v_now_drawn)), ((q 3), .inl (gI g, 6, .inl v_now_points)), ((q 4), .inr (3, [.ref (q 5), .int v_pad_size])), ((q 5), .inl (gI g, 60, .inl v_pad_signs)), ((q 6), .inr (2, [.ref (q 7), .int out.2.2.2.2.2.2.1, .int out.2.2.2.2.2.2.2.1, .int out.2.2.2.2.2.2.2.2.1, .int out.2.2.2.2.2.2.2.2.2.1, .int out.2.2.2.2.2.2.2.2.2.2])), ((q 7), .inr (7, [.ref (q 8), .ref (q 9), .int out.2.2.2.1, .int out.2.2.2.2.1, .int out.2.2.2.2.2.1])), ((q 8), .inl (gI g, 6, .inl out.2.1)), ((q 9), .inl (gI g, 6, .inl out.2.2.1))] := by
  refine ofM (Qc := fun A => Qi g out.1 [((q 0), .inr (9, oX11 q)), ((q 1), .inr (7, [.ref (q 2), .ref (q 3), .int v_now_inBits, .int v_now_holder, .int v_now_game])), ((q 2), .inl (gI g, 6, .inl v_now_drawn)), ((q 3), .inl (gI g, 6, .inl v_now_points)), ((q 4), .inr (3, [.ref (q 5), .int v_pad_size])), ((q 5), .inl (gI g, 60, .inl v_pad_signs)), ((q 6), .inr (2, [.ref (q 7), .int out.2.2.2.2.2.2.1, .int out.2.2.2.2.2.2.2.1, .int out.2.2.2.2.2.2.2.2.1, .int out.2.2.2.2.2.2.2.2.2.1, .int out.2.2.2.2.2.2.2.2.2.2])), ((q 7), .inr (7, [.ref (q 8), .ref (q 9), .int out.2.2.2.1, .int out.2.2.2.2.1, .int out.2.2.2.2.2.1])), ((q 8), .inl (gI g, 6, .inl out.2.1)), ((q 9), .inl (gI g, 6, .inl out.2.2.1))] A) (cc := cX11_first) (nL := 3) (ret := some .int) (by decide) rfl (Nat.le_of_ble_eq_true rfl) ?_
  intro p e s m below meth c ar A hC hA hP hD hG ls hl
  have hS : va_S A s.heap s.heap [] := va_S.rf
  obtain ⟨hx, hb, hml, hown, hts, hr, hlk, -⟩ := hC
  have hl : lv_has ls 3 [(0, .ref (q 0)), (1, .int x1)] := hl
  have hK := hG.1
  have iX11 : ∀ w ∈ u_ws RX11 TX11 10, w ∈ wsX11_first := fun w h => List.mem_cons_of_mem _ (List.mem_append_left _ (List.mem_append_left _ (List.mem_append_left _ (List.mem_append_right _ (h)))))
  have iX4 : ∀ w ∈ u_ws RX4 TX4 6, w ∈ wsX11_first := fun w h => List.mem_cons_of_mem _ (List.mem_append_left _ (List.mem_append_left _ (List.mem_append_right _ (h))))
  generalize hQ : MQ below (Qi g out.1 [((q 0), .inr (9, oX11 q)), ((q 1), .inr (7, [.ref (q 2), .ref (q 3), .int v_now_inBits, .int v_now_holder, .int v_now_game])), ((q 2), .inl (gI g, 6, .inl v_now_drawn)), ((q 3), .inl (gI g, 6, .inl v_now_points)), ((q 4), .inr (3, [.ref (q 5), .int v_pad_size])), ((q 5), .inl (gI g, 60, .inl v_pad_signs)), ((q 6), .inr (2, [.ref (q 7), .int out.2.2.2.2.2.2.1, .int out.2.2.2.2.2.2.2.1, .int out.2.2.2.2.2.2.2.2.1, .int out.2.2.2.2.2.2.2.2.2.1, .int out.2.2.2.2.2.2.2.2.2.2])), ((q 7), .inr (7, [.ref (q 8), .ref (q 9), .int out.2.2.2.1, .int out.2.2.2.2.1, .int out.2.2.2.2.2.1])), ((q 8), .inl (gI g, 6, .inl out.2.1)), ((q 9), .inl (gI g, 6, .inl out.2.2.1))] A) ar s 0 0 A = QQ
  unfold f_X11_first at hf
  refine lv_iload_n hx hb dX11_first_0 rfl (lv_at hl 1 rfl) ?_
  refine lv_iconst (v := 0) hx hb dX11_first_1 (by decide) ?_
  refine lv_iconst (v := 1) hx hb dX11_first_2 (by decide) ?_
  obtain ⟨z1, hq2, hf⟩ := bnd_some hf
  refine kR_i (va_runS (As := [.int x1, .int (0 : Int32), .int (1 : Int32)]) (rest := []) ⟨hx, hb, hml, hown, hts⟩ (c_X11_isWithin l g x1 (0 : Int32) (1 : Int32) z1 hq2) (va_cwS 3 hts gX11_first_X11_isWithin rfl rfl rfl (by decide +kernel) ⟨Nat.le_of_ble_eq_true rfl, Nat.le_of_ble_eq_true rfl⟩) (kpS_R (hG.now hS) (hP.subm (ws' := []) [] rfl)) rfl rfl hl.1 rfl (lv_room (Nat.le_of_ble_eq_true rfl)) dX11_first_3 ⟨Nat.le_of_ble_eq_true rfl, Nat.le_of_ble_eq_true rfl⟩) ?_
  refine lv_if_ne (tgt := 12) hx hb dX11_first_6 (by decide) (fun c3 => ?_) (fun c3 => ?_)
  · replace hf := iff_ c3 hf
    refine lv_aload_n hx hb dX11_first_12 rfl (lv_at hl 0 rfl) ?_
    refine va_get (D := gD g) (ci := 9) (v := .ref (q 6)) (C := RX11) (T := TX11) (N := 10) hx hb hts iX11 hown hK hP 0 rfl rfl 2 (by decide) (hts (.fieldLink RX11 26 "BeetleDrive" "match" "LBeetleDrive$Match;") (List.mem_of_getElem? (i := 1) rfl)) (fun _ h9 => h9) rfl dX11_first_13 ?_
    refine lv_aload_n hx hb dX11_first_16 rfl (lv_at hl 0 rfl) ?_
    refine va_get (D := gD g) (ci := 9) (v := .ref (q 4)) (C := RX11) (T := TX11) (N := 10) hx hb hts iX11 hown hK hP 0 rfl rfl 1 (by decide) (hts (.fieldLink RX11 19 "BeetleDrive" "pad" "LBeetleDrive$Pad;") (List.mem_of_getElem? (i := 2) rfl)) (fun _ h9 => h9) rfl dX11_first_17 ?_
    refine lv_aload_n hx hb dX11_first_20 rfl (lv_at hl 0 rfl) ?_
    refine va_get (D := gD g) (ci := 9) (v := .ref (q 1)) (C := RX11) (T := TX11) (N := 10) hx hb hts iX11 hown hK hP 0 rfl rfl 0 (by decide) (hts (.fieldLink RX11 10 "BeetleDrive" "now" "LBeetleDrive$Table;") (List.mem_of_getElem? (i := 3) rfl)) (fun _ h9 => h9) rfl dX11_first_21 ?_
    obtain ⟨z4, hq5, hf⟩ := bnd_some hf
    refine kM_i (wc := [((q 6), .inr (2, [.ref (q 7), .int v_match_acts, .int v_match_why, .int v_match_vain, .int v_match_wholeAct, .int v_match_wholeWho])), ((q 7), .inr (7, [.ref (q 8), .ref (q 9), .int v_match_table_inBits, .int v_match_table_holder, .int v_match_table_game])), ((q 8), .inl (gI g, 6, .inl v_match_table_drawn)), ((q 9), .inl (gI g, 6, .inl v_match_table_points)), ((q 4), .inr (3, [.ref (q 5), .int v_pad_size])), ((q 5), .inl (gI g, 60, .inl v_pad_signs)), ((q 1), .inr (7, [.ref (q 2), .ref (q 3), .int v_now_inBits, .int v_now_holder, .int v_now_game])), ((q 2), .inl (gI g, 6, .inl v_now_drawn)), ((q 3), .inl (gI g, 6, .inl v_now_points))]) (wr := [((q 0), .inr (9, oX11 q))]) (w1 := [((q 6), .inr (2, [.ref (q 7), .int z4.2.2.2.2.2.2.1, .int z4.2.2.2.2.2.2.2.1, .int z4.2.2.2.2.2.2.2.2.1, .int z4.2.2.2.2.2.2.2.2.2.1, .int z4.2.2.2.2.2.2.2.2.2.2])), ((q 7), .inr (7, [.ref (q 8), .ref (q 9), .int z4.2.2.2.1, .int z4.2.2.2.2.1, .int z4.2.2.2.2.2.1])), ((q 8), .inl (gI g, 6, .inl z4.2.1)), ((q 9), .inl (gI g, 6, .inl z4.2.2.1)), ((q 4), .inr (3, [.ref (q 5), .int v_pad_size])), ((q 5), .inl (gI g, 60, .inl v_pad_signs)), ((q 1), .inr (7, [.ref (q 2), .ref (q 3), .int v_now_inBits, .int v_now_holder, .int v_now_game])), ((q 2), .inl (gI g, 6, .inl v_now_drawn)), ((q 3), .inl (gI g, 6, .inl v_now_points))]) (w2 := [((q 0), .inr (9, oX11 q)), ((q 1), .inr (7, [.ref (q 2), .ref (q 3), .int v_now_inBits, .int v_now_holder, .int v_now_game])), ((q 2), .inl (gI g, 6, .inl v_now_drawn)), ((q 3), .inl (gI g, 6, .inl v_now_points)), ((q 4), .inr (3, [.ref (q 5), .int v_pad_size])), ((q 5), .inl (gI g, 60, .inl v_pad_signs)), ((q 6), .inr (2, [.ref (q 7), .int z4.2.2.2.2.2.2.1, .int z4.2.2.2.2.2.2.2.1, .int z4.2.2.2.2.2.2.2.2.1, .int z4.2.2.2.2.2.2.2.2.2.1, .int z4.2.2.2.2.2.2.2.2.2.2])), ((q 7), .inr (7, [.ref (q 8), .ref (q 9), .int z4.2.2.2.1, .int z4.2.2.2.2.1, .int z4.2.2.2.2.2.1])), ((q 8), .inl (gI g, 6, .inl z4.2.1)), ((q 9), .inl (gI g, 6, .inl z4.2.2.1))]) (va_runV (As := [.ref (q 4), .ref (q 1)]) (rest := []) ⟨hx, hb, hml, hown, hts⟩ (c_X4_playText l g (q 6) (q 7) (q 8) (q 9) (q 4) (q 5) (q 1) (q 2) (q 3) v_match_acts v_match_why v_match_vain v_match_wholeAct v_match_wholeWho v_match_table_inBits v_match_table_holder v_match_table_game v_match_table_drawn v_match_table_points v_pad_size v_pad_signs v_now_inBits v_now_holder v_now_game v_now_drawn v_now_points z4 hq5 s.heap.size) (cwV 2 hts gX11_first_X4_playText rfl rfl rfl (by decide +kernel) ⟨Nat.le_of_ble_eq_true rfl, Nat.le_of_ble_eq_true rfl⟩) (kpV_M (q0 := 0) (ci := 2) hG hS hP hD hA [6, 7, 8, 9, 4, 5, 1, 2, 3] rfl (by decide) rfl rfl) rfl rfl hl.1 rfl (lv_room (Nat.le_of_ble_eq_true rfl)) dX11_first_24 ⟨Nat.le_of_ble_eq_true rfl, Nat.le_of_ble_eq_true rfl⟩) hP hD hS hA [6, 7, 8, 9, 4, 5, 1, 2, 3] [0] [0, 7, 8, 9, 5, 6, 1, 2, 3, 4] rfl rfl (by decide) (by decide) rfl (by decide) (fun H locs hP hD hS => ?_)
    refine lv_istore_n (lv' := [(2, .int z4.1), (0, .ref (q 0)), (1, .int x1)]) hx hb dX11_first_27 rfl hl (by decide) rfl (fun ls hl => ?_)
    refine lv_iload_n hx hb dX11_first_28 rfl (lv_at hl 0 rfl) ?_
    refine lv_if_eq (tgt := 34) hx hb dX11_first_29 (by decide) (fun c6 => ?_) (fun c6 => ?_)
    · replace hf := ift c6 hf
      refine lv_iload_n hx hb dX11_first_34 rfl (lv_at hl 2 rfl) ?_
      refine lv_if_ne (tgt := 48) hx hb dX11_first_35 (by decide) (fun c7 => ?_) (fun c7 => ?_)
      · replace hf := iff_ c7 hf
        refine lv_aload_n hx hb dX11_first_48 rfl (lv_at hl 1 rfl) ?_
        refine va_get (D := gD g) (ci := 9) (v := .ref (q 6)) (C := RX11) (T := TX11) (N := 10) hx hb hts iX11 hown hK hP 0 rfl rfl 2 (by decide) (hts (.fieldLink RX11 26 "BeetleDrive" "match" "LBeetleDrive$Match;") (List.mem_of_getElem? (i := 1) rfl)) (fun _ h9 => h9) rfl dX11_first_49 ?_
        refine va_getN (D := gD g) (ci := 2) (v := .int z4.2.2.2.2.2.2.2.2.2.2) (C := RX4) (T := TX4) (N := 6) hx hb hts iX4 hown hK hP 6 rfl rfl 5 (by decide) (hG.nf 13 rfl) (fun _ h9 => h9) rfl dX11_first_52 ?_
        rw [← hQ, ← Option.some.inj hf]
        exact eM_i hx hb hr hlk hP hD hS rfl dX11_first_55
      · replace hf := ift c7 hf
        refine lv_aload_n hx hb dX11_first_38 rfl (lv_at hl 1 rfl) ?_
        refine va_get (D := gD g) (ci := 9) (v := .ref (q 6)) (C := RX11) (T := TX11) (N := 10) hx hb hts iX11 hown hK hP 0 rfl rfl 2 (by decide) (hts (.fieldLink RX11 26 "BeetleDrive" "match" "LBeetleDrive$Match;") (List.mem_of_getElem? (i := 1) rfl)) (fun _ h9 => h9) rfl dX11_first_39 ?_
        refine va_getN (D := gD g) (ci := 2) (v := .int z4.2.2.2.2.2.2.2.2.2.1) (C := RX4) (T := TX4) (N := 6) hx hb hts iX4 hown hK hP 6 rfl rfl 4 (by decide) (hG.nf 12 rfl) (fun _ h9 => h9) rfl dX11_first_42 ?_
        refine lv_goto (tgt := 55) hx hb dX11_first_45 (by decide) ?_
        rw [← hQ, ← Option.some.inj hf]
        exact eM_i hx hb hr hlk hP hD hS rfl dX11_first_55
    · replace hf := iff_ c6 hf
      refine lv_iload_n hx hb dX11_first_32 rfl (lv_at hl 0 rfl) ?_
      rw [← hQ, ← Option.some.inj hf]
      exact eM_i hx hb hr hlk hP hD hS rfl dX11_first_33
  · replace hf := ift c3 hf
    refine lv_bipush (v := -2) hx hb dX11_first_9 (by decide) ?_
    rw [← hQ, ← Option.some.inj hf]
    exact eM_i hx hb hr hlk hP hD hS rfl dX11_first_11
set_option maxHeartbeats 4000000 in
set_option maxRecDepth 100000 in
theorem c_X11_done (l : Launch) (g : bG) (q : Nat → Nat) (v_now_inBits : Int32) (v_now_holder : Int32) (v_now_game : Int32) (v_now_drawn : Nat → Int32) (v_now_points : Nat → Int32) (v_pad_size : Int32) (v_pad_signs : Nat → Int32) (v_match_acts : Int32) (v_match_why : Int32) (v_match_vain : Int32) (v_match_wholeAct : Int32) (v_match_wholeWho : Int32) (v_match_table_inBits : Int32) (v_match_table_holder : Int32) (v_match_table_game : Int32) (v_match_table_drawn : Nat → Int32) (v_match_table_points : Nat → Int32) (out : Int32 × (Nat → Int32) × (Nat → Int32) × Int32 × Int32 × Int32 × Int32 × (Nat → Int32) × (Nat → Int32) × Int32 × Int32 × Int32 × Int32 × Int32 × Int32 × Int32 × Int32) (hf : f_X11_done v_now_drawn v_now_points v_now_inBits v_now_holder v_now_game v_pad_signs v_pad_size v_match_table_drawn v_match_table_points v_match_table_inBits v_match_table_holder v_match_table_game v_match_acts v_match_why v_match_vain v_match_wholeAct v_match_wholeWho = some out) : Mi l g yX11_done wsX11_done ({ frames := 6, cells := 0, slots := 0, locals := 134 } : Room) [.ref (q 0)] [((q 0), .inr (9, oX11 q)), ((q 1), .inr (7, [.ref (q 2), .ref (q 3), .int v_now_inBits, .int v_now_holder, .int v_now_game])), ((q 2), .inl (gI g, 6, .inl v_now_drawn)), ((q 3), .inl (gI g, 6, .inl v_now_points)), ((q 4), .inr (3, [.ref (q 5), .int v_pad_size])), ((q 5), .inl (gI g, 60, .inl v_pad_signs)), ((q 6), .inr (2, [.ref (q 7), .int v_match_acts, .int v_match_why, .int v_match_vain, .int v_match_wholeAct, .int v_match_wholeWho])), ((q 7), .inr (7, [.ref (q 8), .ref (q 9), .int v_match_table_inBits, .int v_match_table_holder, .int v_match_table_game])), ((q 8), .inl (gI g, 6, .inl v_match_table_drawn)), ((q 9), .inl (gI g, 6, .inl v_match_table_points))] out.1 [((q 0), .inr (9, oX11 q)), ((q 1), .inr (7, [.ref (q 2), .ref (q 3), .int out.2.2.2.1, .int out.2.2.2.2.1, .int out.2.2.2.2.2.1])), ((q 2), .inl (gI g, 6, .inl out.2.1)), ((q 3), .inl (gI g, 6, .inl out.2.2.1)), ((q 4), .inr (3, [.ref (q 5), .int out.2.2.2.2.2.2.1])), ((q 5), .inl (gI g, 60, .inl v_pad_signs)), ((q 6), .inr (2, [.ref (q 7), .int out.2.2.2.2.2.2.2.2.2.2.2.2.1, .int out.2.2.2.2.2.2.2.2.2.2.2.2.2.1, .int out.2.2.2.2.2.2.2.2.2.2.2.2.2.2.1, .int out.2.2.2.2.2.2.2.2.2.2.2.2.2.2.2.1, .int out.2.2.2.2.2.2.2.2.2.2.2.2.2.2.2.2])), ((q 7), .inr (7, [.ref (q 8), .ref (q 9), .int out.2.2.2.2.2.2.2.2.2.1, .int out.2.2.2.2.2.2.2.2.2.2.1, .int out.2.2.2.2.2.2.2.2.2.2.2.1])), ((q 8), .inl (gI g, 6, .inl out.2.2.2.2.2.2.2.1)), ((q 9), .inl (gI g, 6, .inl out.2.2.2.2.2.2.2.2.1))] := by
  refine ofM (Qc := fun A => Qi g out.1 [((q 0), .inr (9, oX11 q)), ((q 1), .inr (7, [.ref (q 2), .ref (q 3), .int out.2.2.2.1, .int out.2.2.2.2.1, .int out.2.2.2.2.2.1])), ((q 2), .inl (gI g, 6, .inl out.2.1)), ((q 3), .inl (gI g, 6, .inl out.2.2.1)), ((q 4), .inr (3, [.ref (q 5), .int out.2.2.2.2.2.2.1])), ((q 5), .inl (gI g, 60, .inl v_pad_signs)), ((q 6), .inr (2, [.ref (q 7), .int out.2.2.2.2.2.2.2.2.2.2.2.2.1, .int out.2.2.2.2.2.2.2.2.2.2.2.2.2.1, .int out.2.2.2.2.2.2.2.2.2.2.2.2.2.2.1, .int out.2.2.2.2.2.2.2.2.2.2.2.2.2.2.2.1, .int out.2.2.2.2.2.2.2.2.2.2.2.2.2.2.2.2])), ((q 7), .inr (7, [.ref (q 8), .ref (q 9), .int out.2.2.2.2.2.2.2.2.2.1, .int out.2.2.2.2.2.2.2.2.2.2.1, .int out.2.2.2.2.2.2.2.2.2.2.2.1])), ((q 8), .inl (gI g, 6, .inl out.2.2.2.2.2.2.2.1)), ((q 9), .inl (gI g, 6, .inl out.2.2.2.2.2.2.2.2.1))] A) (cc := cX11_done) (nL := 2) (ret := some .int) (by decide) rfl (Nat.le_of_ble_eq_true rfl) ?_
  intro p e s m below meth c ar A hC hA hP hD hG ls hl
  have hS : va_S A s.heap s.heap [] := va_S.rf
  obtain ⟨hx, hb, hml, hown, hts, hr, hlk, -⟩ := hC
  have hl : lv_has ls 2 [(0, .ref (q 0))] := hl
  have hK := hG.1
  have iX11 : ∀ w ∈ u_ws RX11 TX11 10, w ∈ wsX11_done := fun w h => List.mem_cons_of_mem _ (List.mem_append_left _ (List.mem_append_left _ (List.mem_append_left _ (List.mem_append_right _ (h)))))
  have iX4 : ∀ w ∈ u_ws RX4 TX4 6, w ∈ wsX11_done := fun w h => List.mem_cons_of_mem _ (List.mem_append_left _ (List.mem_append_left _ (List.mem_append_right _ (h))))
  generalize hQ : MQ below (Qi g out.1 [((q 0), .inr (9, oX11 q)), ((q 1), .inr (7, [.ref (q 2), .ref (q 3), .int out.2.2.2.1, .int out.2.2.2.2.1, .int out.2.2.2.2.2.1])), ((q 2), .inl (gI g, 6, .inl out.2.1)), ((q 3), .inl (gI g, 6, .inl out.2.2.1)), ((q 4), .inr (3, [.ref (q 5), .int out.2.2.2.2.2.2.1])), ((q 5), .inl (gI g, 60, .inl v_pad_signs)), ((q 6), .inr (2, [.ref (q 7), .int out.2.2.2.2.2.2.2.2.2.2.2.2.1, .int out.2.2.2.2.2.2.2.2.2.2.2.2.2.1, .int out.2.2.2.2.2.2.2.2.2.2.2.2.2.2.1, .int out.2.2.2.2.2.2.2.2.2.2.2.2.2.2.2.1, .int out.2.2.2.2.2.2.2.2.2.2.2.2.2.2.2.2])), ((q 7), .inr (7, [.ref (q 8), .ref (q 9), .int out.2.2.2.2.2.2.2.2.2.1, .int out.2.2.2.2.2.2.2.2.2.2.1, .int out.2.2.2.2.2.2.2.2.2.2.2.1])), ((q 8), .inl (gI g, 6, .inl out.2.2.2.2.2.2.2.1)), ((q 9), .inl (gI g, 6, .inl out.2.2.2.2.2.2.2.2.1))] A) ar s 0 0 A = QQ
  unfold f_X11_done at hf
  refine lv_aload_n hx hb dX11_done_0 rfl (lv_at hl 0 rfl) ?_
  refine va_get (D := gD g) (ci := 9) (v := .ref (q 6)) (C := RX11) (T := TX11) (N := 10) hx hb hts iX11 hown hK hP 0 rfl rfl 2 (by decide) (hts (.fieldLink RX11 26 "BeetleDrive" "match" "LBeetleDrive$Match;") (List.mem_of_getElem? (i := 1) rfl)) (fun _ h9 => h9) rfl dX11_done_1 ?_
  refine lv_aload_n hx hb dX11_done_4 rfl (lv_at hl 0 rfl) ?_
  refine va_get (D := gD g) (ci := 9) (v := .ref (q 4)) (C := RX11) (T := TX11) (N := 10) hx hb hts iX11 hown hK hP 0 rfl rfl 1 (by decide) (hts (.fieldLink RX11 19 "BeetleDrive" "pad" "LBeetleDrive$Pad;") (List.mem_of_getElem? (i := 2) rfl)) (fun _ h9 => h9) rfl dX11_done_5 ?_
  refine lv_aload_n hx hb dX11_done_8 rfl (lv_at hl 0 rfl) ?_
  refine va_get (D := gD g) (ci := 9) (v := .ref (q 1)) (C := RX11) (T := TX11) (N := 10) hx hb hts iX11 hown hK hP 0 rfl rfl 0 (by decide) (hts (.fieldLink RX11 10 "BeetleDrive" "now" "LBeetleDrive$Table;") (List.mem_of_getElem? (i := 3) rfl)) (fun _ h9 => h9) rfl dX11_done_9 ?_
  obtain ⟨z1, hq2, hf⟩ := bnd_some hf
  refine kM_i (wc := [((q 6), .inr (2, [.ref (q 7), .int v_match_acts, .int v_match_why, .int v_match_vain, .int v_match_wholeAct, .int v_match_wholeWho])), ((q 7), .inr (7, [.ref (q 8), .ref (q 9), .int v_match_table_inBits, .int v_match_table_holder, .int v_match_table_game])), ((q 8), .inl (gI g, 6, .inl v_match_table_drawn)), ((q 9), .inl (gI g, 6, .inl v_match_table_points)), ((q 4), .inr (3, [.ref (q 5), .int v_pad_size])), ((q 5), .inl (gI g, 60, .inl v_pad_signs)), ((q 1), .inr (7, [.ref (q 2), .ref (q 3), .int v_now_inBits, .int v_now_holder, .int v_now_game])), ((q 2), .inl (gI g, 6, .inl v_now_drawn)), ((q 3), .inl (gI g, 6, .inl v_now_points))]) (wr := [((q 0), .inr (9, oX11 q))]) (w1 := [((q 6), .inr (2, [.ref (q 7), .int z1.2.2.2.2.2.2.1, .int z1.2.2.2.2.2.2.2.1, .int z1.2.2.2.2.2.2.2.2.1, .int z1.2.2.2.2.2.2.2.2.2.1, .int z1.2.2.2.2.2.2.2.2.2.2])), ((q 7), .inr (7, [.ref (q 8), .ref (q 9), .int z1.2.2.2.1, .int z1.2.2.2.2.1, .int z1.2.2.2.2.2.1])), ((q 8), .inl (gI g, 6, .inl z1.2.1)), ((q 9), .inl (gI g, 6, .inl z1.2.2.1)), ((q 4), .inr (3, [.ref (q 5), .int v_pad_size])), ((q 5), .inl (gI g, 60, .inl v_pad_signs)), ((q 1), .inr (7, [.ref (q 2), .ref (q 3), .int v_now_inBits, .int v_now_holder, .int v_now_game])), ((q 2), .inl (gI g, 6, .inl v_now_drawn)), ((q 3), .inl (gI g, 6, .inl v_now_points))]) (w2 := [((q 0), .inr (9, oX11 q)), ((q 1), .inr (7, [.ref (q 2), .ref (q 3), .int v_now_inBits, .int v_now_holder, .int v_now_game])), ((q 2), .inl (gI g, 6, .inl v_now_drawn)), ((q 3), .inl (gI g, 6, .inl v_now_points)), ((q 4), .inr (3, [.ref (q 5), .int v_pad_size])), ((q 5), .inl (gI g, 60, .inl v_pad_signs)), ((q 6), .inr (2, [.ref (q 7), .int z1.2.2.2.2.2.2.1, .int z1.2.2.2.2.2.2.2.1, .int z1.2.2.2.2.2.2.2.2.1, .int z1.2.2.2.2.2.2.2.2.2.1, .int z1.2.2.2.2.2.2.2.2.2.2])), ((q 7), .inr (7, [.ref (q 8), .ref (q 9), .int z1.2.2.2.1, .int z1.2.2.2.2.1, .int z1.2.2.2.2.2.1])), ((q 8), .inl (gI g, 6, .inl z1.2.1)), ((q 9), .inl (gI g, 6, .inl z1.2.2.1))]) (va_runV (As := [.ref (q 4), .ref (q 1)]) (rest := []) ⟨hx, hb, hml, hown, hts⟩ (c_X4_playText l g (q 6) (q 7) (q 8) (q 9) (q 4) (q 5) (q 1) (q 2) (q 3) v_match_acts v_match_why v_match_vain v_match_wholeAct v_match_wholeWho v_match_table_inBits v_match_table_holder v_match_table_game v_match_table_drawn v_match_table_points v_pad_size v_pad_signs v_now_inBits v_now_holder v_now_game v_now_drawn v_now_points z1 hq2 s.heap.size) (cwV 2 hts gX11_done_X4_playText rfl rfl rfl (by decide +kernel) ⟨Nat.le_of_ble_eq_true rfl, Nat.le_of_ble_eq_true rfl⟩) (kpV_M (q0 := 0) (ci := 2) hG hS hP hD hA [6, 7, 8, 9, 4, 5, 1, 2, 3] rfl (by decide) rfl rfl) rfl rfl hl.1 rfl (lv_room (Nat.le_of_ble_eq_true rfl)) dX11_done_12 ⟨Nat.le_of_ble_eq_true rfl, Nat.le_of_ble_eq_true rfl⟩) hP hD hS hA [6, 7, 8, 9, 4, 5, 1, 2, 3] [0] [0, 7, 8, 9, 5, 6, 1, 2, 3, 4] rfl rfl (by decide) (by decide) rfl (by decide) (fun H locs hP hD hS => ?_)
  refine lv_istore_n (lv' := [(1, .int z1.1), (0, .ref (q 0))]) hx hb dX11_done_15 rfl hl (by decide) rfl (fun ls hl => ?_)
  refine lv_iload_n hx hb dX11_done_16 rfl (lv_at hl 0 rfl) ?_
  refine lv_if_eq (tgt := 22) hx hb dX11_done_17 (by decide) (fun c3 => ?_) (fun c3 => ?_)
  · replace hf := ift c3 hf
    refine lv_aload_n hx hb dX11_done_22 rfl (lv_at hl 1 rfl) ?_
    refine va_get (D := gD g) (ci := 9) (v := .ref (q 1)) (C := RX11) (T := TX11) (N := 10) hx hb hts iX11 hown hK hP 0 rfl rfl 0 (by decide) (hts (.fieldLink RX11 10 "BeetleDrive" "now" "LBeetleDrive$Table;") (List.mem_of_getElem? (i := 3) rfl)) (fun _ h9 => h9) rfl dX11_done_23 ?_
    refine lv_aload_n hx hb dX11_done_26 rfl (lv_at hl 1 rfl) ?_
    refine va_get (D := gD g) (ci := 9) (v := .ref (q 6)) (C := RX11) (T := TX11) (N := 10) hx hb hts iX11 hown hK hP 0 rfl rfl 2 (by decide) (hts (.fieldLink RX11 26 "BeetleDrive" "match" "LBeetleDrive$Match;") (List.mem_of_getElem? (i := 1) rfl)) (fun _ h9 => h9) rfl dX11_done_27 ?_
    refine va_getN (D := gD g) (ci := 2) (v := .ref (q 7)) (C := RX4) (T := TX4) (N := 6) hx hb hts iX4 hown hK hP 6 rfl rfl 0 (by decide) (hG.nf 8 rfl) (fun _ h9 => h9) rfl dX11_done_30 ?_
    obtain ⟨z4, hq5, hf⟩ := bnd_some hf
    refine kM_v (wc := [((q 1), .inr (7, [.ref (q 2), .ref (q 3), .int v_now_inBits, .int v_now_holder, .int v_now_game])), ((q 2), .inl (gI g, 6, .inl v_now_drawn)), ((q 3), .inl (gI g, 6, .inl v_now_points)), ((q 7), .inr (7, [.ref (q 8), .ref (q 9), .int z1.2.2.2.1, .int z1.2.2.2.2.1, .int z1.2.2.2.2.2.1])), ((q 8), .inl (gI g, 6, .inl z1.2.1)), ((q 9), .inl (gI g, 6, .inl z1.2.2.1))]) (wr := [((q 0), .inr (9, oX11 q)), ((q 4), .inr (3, [.ref (q 5), .int v_pad_size])), ((q 5), .inl (gI g, 60, .inl v_pad_signs)), ((q 6), .inr (2, [.ref (q 7), .int z1.2.2.2.2.2.2.1, .int z1.2.2.2.2.2.2.2.1, .int z1.2.2.2.2.2.2.2.2.1, .int z1.2.2.2.2.2.2.2.2.2.1, .int z1.2.2.2.2.2.2.2.2.2.2]))]) (w1 := [((q 1), .inr (7, [.ref (q 2), .ref (q 3), .int z4.2.2.1, .int z4.2.2.2.1, .int z4.2.2.2.2])), ((q 2), .inl (gI g, 6, .inl z4.1)), ((q 3), .inl (gI g, 6, .inl z4.2.1)), ((q 7), .inr (7, [.ref (q 8), .ref (q 9), .int z1.2.2.2.1, .int z1.2.2.2.2.1, .int z1.2.2.2.2.2.1])), ((q 8), .inl (gI g, 6, .inl z1.2.1)), ((q 9), .inl (gI g, 6, .inl z1.2.2.1))]) (w2 := [((q 0), .inr (9, oX11 q)), ((q 1), .inr (7, [.ref (q 2), .ref (q 3), .int z4.2.2.1, .int z4.2.2.2.1, .int z4.2.2.2.2])), ((q 2), .inl (gI g, 6, .inl z4.1)), ((q 3), .inl (gI g, 6, .inl z4.2.1)), ((q 4), .inr (3, [.ref (q 5), .int v_pad_size])), ((q 5), .inl (gI g, 60, .inl v_pad_signs)), ((q 6), .inr (2, [.ref (q 7), .int z1.2.2.2.2.2.2.1, .int z1.2.2.2.2.2.2.2.1, .int z1.2.2.2.2.2.2.2.2.1, .int z1.2.2.2.2.2.2.2.2.2.1, .int z1.2.2.2.2.2.2.2.2.2.2])), ((q 7), .inr (7, [.ref (q 8), .ref (q 9), .int z1.2.2.2.1, .int z1.2.2.2.2.1, .int z1.2.2.2.2.2.1])), ((q 8), .inl (gI g, 6, .inl z1.2.1)), ((q 9), .inl (gI g, 6, .inl z1.2.2.1))]) (va_runV (As := [.ref (q 7)]) (rest := []) ⟨hx, hb, hml, hown, hts⟩ (c_X9_copyFrom l g (q 1) (q 2) (q 3) (q 7) (q 8) (q 9) v_now_inBits v_now_holder v_now_game v_now_drawn v_now_points z1.2.2.2.1 z1.2.2.2.2.1 z1.2.2.2.2.2.1 z1.2.1 z1.2.2.1 z4 hq5 H.size) (cwV 1 hts gX11_done_X9_copyFrom rfl rfl rfl (by decide +kernel) ⟨Nat.le_of_ble_eq_true rfl, Nat.le_of_ble_eq_true rfl⟩) (kpV_M (q0 := 0) (ci := 7) hG hS hP hD hA [1, 2, 3, 7, 8, 9] rfl (by decide) rfl rfl) rfl rfl hl.1 rfl (lv_room (Nat.le_of_ble_eq_true rfl)) dX11_done_33 ⟨Nat.le_of_ble_eq_true rfl, Nat.le_of_ble_eq_true rfl⟩) hP hD hS hA [1, 2, 3, 7, 8, 9] [0, 4, 5, 6] [0, 4, 5, 6, 1, 2, 3, 7, 8, 9] rfl rfl (by decide) (by decide) rfl (by decide) (fun H locs hP hD hS => ?_)
    refine lv_aload_n hx hb dX11_done_36 rfl (lv_at hl 1 rfl) ?_
    refine va_get (D := gD g) (ci := 9) (v := .ref (q 4)) (C := RX11) (T := TX11) (N := 10) hx hb hts iX11 hown hK hP 0 rfl rfl 1 (by decide) (hts (.fieldLink RX11 19 "BeetleDrive" "pad" "LBeetleDrive$Pad;") (List.mem_of_getElem? (i := 2) rfl)) (fun _ h9 => h9) rfl dX11_done_37 ?_
    obtain ⟨z6, hq7, hf⟩ := bnd_some hf
    refine kM_i (wc := [((q 4), .inr (3, [.ref (q 5), .int v_pad_size]))]) (wr := [((q 0), .inr (9, oX11 q)), ((q 1), .inr (7, [.ref (q 2), .ref (q 3), .int z4.2.2.1, .int z4.2.2.2.1, .int z4.2.2.2.2])), ((q 2), .inl (gI g, 6, .inl z4.1)), ((q 3), .inl (gI g, 6, .inl z4.2.1)), ((q 5), .inl (gI g, 60, .inl v_pad_signs)), ((q 6), .inr (2, [.ref (q 7), .int z1.2.2.2.2.2.2.1, .int z1.2.2.2.2.2.2.2.1, .int z1.2.2.2.2.2.2.2.2.1, .int z1.2.2.2.2.2.2.2.2.2.1, .int z1.2.2.2.2.2.2.2.2.2.2])), ((q 7), .inr (7, [.ref (q 8), .ref (q 9), .int z1.2.2.2.1, .int z1.2.2.2.2.1, .int z1.2.2.2.2.2.1])), ((q 8), .inl (gI g, 6, .inl z1.2.1)), ((q 9), .inl (gI g, 6, .inl z1.2.2.1))]) (w1 := [((q 4), .inr (3, [.ref (q 5), .int z6.2]))]) (w2 := [((q 0), .inr (9, oX11 q)), ((q 1), .inr (7, [.ref (q 2), .ref (q 3), .int z4.2.2.1, .int z4.2.2.2.1, .int z4.2.2.2.2])), ((q 2), .inl (gI g, 6, .inl z4.1)), ((q 3), .inl (gI g, 6, .inl z4.2.1)), ((q 4), .inr (3, [.ref (q 5), .int z6.2])), ((q 5), .inl (gI g, 60, .inl v_pad_signs)), ((q 6), .inr (2, [.ref (q 7), .int z1.2.2.2.2.2.2.1, .int z1.2.2.2.2.2.2.2.1, .int z1.2.2.2.2.2.2.2.2.1, .int z1.2.2.2.2.2.2.2.2.2.1, .int z1.2.2.2.2.2.2.2.2.2.2])), ((q 7), .inr (7, [.ref (q 8), .ref (q 9), .int z1.2.2.2.1, .int z1.2.2.2.2.1, .int z1.2.2.2.2.2.1])), ((q 8), .inl (gI g, 6, .inl z1.2.1)), ((q 9), .inl (gI g, 6, .inl z1.2.2.1))]) (va_runV (As := []) (rest := []) ⟨hx, hb, hml, hown, hts⟩ (c_X5_clear l g (q 4) (q 5) v_pad_size z6 hq7 H.size) (cwV 0 hts gX11_done_X5_clear rfl rfl rfl (by decide +kernel) ⟨Nat.le_of_ble_eq_true rfl, Nat.le_of_ble_eq_true rfl⟩) (kpV_M (q0 := 0) (ci := 3) hG hS hP hD hA [4] rfl (by decide) rfl rfl) rfl rfl hl.1 rfl (lv_room (Nat.le_of_ble_eq_true rfl)) dX11_done_40 ⟨Nat.le_of_ble_eq_true rfl, Nat.le_of_ble_eq_true rfl⟩) hP hD hS hA [4] [0, 1, 2, 3, 5, 6, 7, 8, 9] [0, 1, 2, 3, 9, 4, 5, 6, 7, 8] rfl rfl (by decide) (by decide) rfl (by decide) (fun H locs hP hD hS => ?_)
    refine lv_pop hx hb dX11_done_43 rfl ?_
    refine lv_aload_n hx hb dX11_done_44 rfl (lv_at hl 1 rfl) ?_
    refine va_get (D := gD g) (ci := 9) (v := .ref (q 6)) (C := RX11) (T := TX11) (N := 10) hx hb hts iX11 hown hK hP 0 rfl rfl 2 (by decide) (hts (.fieldLink RX11 26 "BeetleDrive" "match" "LBeetleDrive$Match;") (List.mem_of_getElem? (i := 1) rfl)) (fun _ h9 => h9) rfl dX11_done_45 ?_
    refine va_getN (D := gD g) (ci := 2) (v := .int z1.2.2.2.2.2.2.1) (C := RX4) (T := TX4) (N := 6) hx hb hts iX4 hown hK hP 6 rfl rfl 1 (by decide) (hG.nf 9 rfl) (fun _ h9 => h9) rfl dX11_done_48 ?_
    rw [← hQ, ← Option.some.inj hf]
    exact eM_i hx hb hr hlk hP hD hS rfl dX11_done_51
  · replace hf := iff_ c3 hf
    refine lv_iload_n hx hb dX11_done_20 rfl (lv_at hl 0 rfl) ?_
    rw [← hQ, ← Option.some.inj hf]
    exact eM_i hx hb hr hlk hP hD hS rfl dX11_done_21
set_option maxHeartbeats 4000000 in
set_option maxRecDepth 100000 in
theorem c_X11_orders (l : Launch) (g : bG) (q : Nat → Nat) (v_sheets_drawn : Nat → Int32) (v_sheets_next : Nat → Int32) (v_sheets_orders : Nat → Int32) (x1 : Int32) (x2 : Int32) (out : Int32) (hf : f_X11_orders v_sheets_drawn v_sheets_next v_sheets_orders x1 x2 = some out) : Ri l g yX11_orders wsX11_orders ({ frames := 2, cells := 0, slots := 0, locals := 44 } : Room) [.ref (q 0), .int x1, .int x2] [((q 0), .inr (9, oX11 q)), ((q 10), .inr (4, [.ref (q 11), .ref (q 12), .ref (q 13), .ref (q 14)])), ((q 11), .inl (gI g, 141, .inl v_sheets_drawn)), ((q 12), .inl (gI g, 846, .inl v_sheets_next)), ((q 13), .inl (gI g, 141, .inl v_sheets_orders))] out := by
  refine ofR (cc := cX11_orders) (nL := 4) (ret := some .int) (by decide) rfl (Nat.le_of_ble_eq_true rfl) ?_
  intro p e s m below meth c ar hC hP hG ls hl
  have hS : va_S (fun _ => False) s.heap s.heap [] := va_S.rf
  obtain ⟨hx, hb, hml, hown, hts, hr, hlk, -⟩ := hC
  have hl : lv_has ls 4 [(0, .ref (q 0)), (1, .int x1), (2, .int x2)] := hl
  have hK := hG.1
  have iX11 : ∀ w ∈ u_ws RX11 TX11 10, w ∈ wsX11_orders := fun w h => List.mem_cons_of_mem _ (List.mem_append_left _ (List.mem_append_right _ (h)))
  have iX6 : ∀ w ∈ u_ws RX6 TX6 4, w ∈ wsX11_orders := fun w h => List.mem_cons_of_mem _ (List.mem_append_right _ (h))
  generalize hQ : MQ below (vp_Si (fun x => x = out)) ar s 0 0 (fun _ => False) = QQ
  unfold f_X11_orders at hf
  refine lv_aload_n hx hb dX11_orders_0 rfl (lv_at hl 0 rfl) ?_
  refine va_get (D := gD g) (ci := 9) (v := .ref (q 10)) (C := RX11) (T := TX11) (N := 10) hx hb hts iX11 hown hK hP 0 rfl rfl 3 (by decide) (hts (.fieldLink RX11 33 "BeetleDrive" "sheets" "LBeetleDrive$Sheets;") (List.mem_of_getElem? (i := 1) rfl)) (fun _ h9 => h9) rfl dX11_orders_1 ?_
  refine lv_iload_n hx hb dX11_orders_4 rfl (lv_at hl 1 rfl) ?_
  obtain ⟨z1, hq2, hf⟩ := bnd_some hf
  refine kR_i (va_runV (As := [.int x1]) (rest := []) ⟨hx, hb, hml, hown, hts⟩ (c_X6_find l g (q 10) (q 11) (q 12) (q 13) (q 14) v_sheets_drawn x1 z1 hq2) (cwV 1 hts gX11_orders_X6_find rfl rfl rfl (by decide +kernel) ⟨Nat.le_of_ble_eq_true rfl, Nat.le_of_ble_eq_true rfl⟩) (kpV_R (q0 := 0) (ci := 4) hG (hP.subm (ws' := [((q 10), .inr (4, [.ref (q 11), .ref (q 12), .ref (q 13), .ref (q 14)])), ((q 11), .inl (gI g, 141, .inl v_sheets_drawn))]) [1, 2] rfl) rfl rfl) rfl rfl hl.1 rfl (lv_room (Nat.le_of_ble_eq_true rfl)) dX11_orders_5 ⟨Nat.le_of_ble_eq_true rfl, Nat.le_of_ble_eq_true rfl⟩) ?_
  refine lv_istore_n (lv' := [(3, .int z1), (0, .ref (q 0)), (1, .int x1), (2, .int x2)]) hx hb dX11_orders_8 rfl hl (by decide) rfl (fun ls hl => ?_)
  refine lv_iload_n hx hb dX11_orders_9 rfl (lv_at hl 0 rfl) ?_
  refine lv_bipush (v := -6) hx hb dX11_orders_10 (by decide) ?_
  refine lv_icmp_eq (tgt := 24) hx hb dX11_orders_12 (by decide) (fun c3 => ?_) (fun c3 => ?_)
  · replace hf := ift c3 hf
    refine lv_bipush (v := -2) hx hb dX11_orders_24 (by decide) ?_
    rw [← hQ, ← Option.some.inj hf]
    exact eR_i hx hb hr hlk rfl dX11_orders_26
  · replace hf := iff_ c3 hf
    refine lv_iload_n hx hb dX11_orders_15 rfl (lv_at hl 3 rfl) ?_
    refine lv_iconst (v := 0) hx hb dX11_orders_16 (by decide) ?_
    refine lv_iconst (v := 1) hx hb dX11_orders_17 (by decide) ?_
    obtain ⟨z4, hq5, hf⟩ := bnd_some hf
    refine kR_i (va_runS (As := [.int x2, .int (0 : Int32), .int (1 : Int32)]) (rest := []) ⟨hx, hb, hml, hown, hts⟩ (c_X11_isWithin l g x2 (0 : Int32) (1 : Int32) z4 hq5) (va_cwS 3 hts gX11_orders_X11_isWithin rfl rfl rfl (by decide +kernel) ⟨Nat.le_of_ble_eq_true rfl, Nat.le_of_ble_eq_true rfl⟩) (kpS_R hG (hP.subm (ws' := []) [] rfl)) rfl rfl hl.1 rfl (lv_room (Nat.le_of_ble_eq_true rfl)) dX11_orders_18 ⟨Nat.le_of_ble_eq_true rfl, Nat.le_of_ble_eq_true rfl⟩) ?_
    refine lv_if_ne (tgt := 27) hx hb dX11_orders_21 (by decide) (fun c6 => ?_) (fun c6 => ?_)
    · replace hf := iff_ c6 hf
      refine lv_iload_n hx hb dX11_orders_27 rfl (lv_at hl 3 rfl) ?_
      refine lv_if_ne (tgt := 43) hx hb dX11_orders_28 (by decide) (fun c7 => ?_) (fun c7 => ?_)
      · replace hf := iff_ c7 hf
        refine lv_aload_n hx hb dX11_orders_43 rfl (lv_at hl 1 rfl) ?_
        refine va_get (D := gD g) (ci := 9) (v := .ref (q 10)) (C := RX11) (T := TX11) (N := 10) hx hb hts iX11 hown hK hP 0 rfl rfl 3 (by decide) (hts (.fieldLink RX11 33 "BeetleDrive" "sheets" "LBeetleDrive$Sheets;") (List.mem_of_getElem? (i := 1) rfl)) (fun _ h9 => h9) rfl dX11_orders_44 ?_
        refine lv_iload_n hx hb dX11_orders_47 rfl (lv_at hl 0 rfl) ?_
        obtain ⟨z8, hq9, hf⟩ := bnd_some hf
        refine kR_i (va_runV (As := [.int z1]) (rest := []) ⟨hx, hb, hml, hown, hts⟩ (c_X6_leastThrow l g (q 10) (q 11) (q 12) (q 13) (q 14) v_sheets_next z1 z8 hq9) (cwV 1 hts gX11_orders_X6_leastThrow rfl rfl rfl (by decide +kernel) ⟨Nat.le_of_ble_eq_true rfl, Nat.le_of_ble_eq_true rfl⟩) (kpV_R (q0 := 0) (ci := 4) hG (hP.subm (ws' := [((q 10), .inr (4, [.ref (q 11), .ref (q 12), .ref (q 13), .ref (q 14)])), ((q 12), .inl (gI g, 846, .inl v_sheets_next))]) [1, 3] rfl) rfl rfl) rfl rfl hl.1 rfl (lv_room (Nat.le_of_ble_eq_true rfl)) dX11_orders_48 ⟨Nat.le_of_ble_eq_true rfl, Nat.le_of_ble_eq_true rfl⟩) ?_
        rw [← hQ, ← Option.some.inj hf]
        exact eR_i hx hb hr hlk rfl dX11_orders_51
      · replace hf := ift c7 hf
        refine lv_aload_n hx hb dX11_orders_31 rfl (lv_at hl 1 rfl) ?_
        refine va_get (D := gD g) (ci := 9) (v := .ref (q 10)) (C := RX11) (T := TX11) (N := 10) hx hb hts iX11 hown hK hP 0 rfl rfl 3 (by decide) (hts (.fieldLink RX11 33 "BeetleDrive" "sheets" "LBeetleDrive$Sheets;") (List.mem_of_getElem? (i := 1) rfl)) (fun _ h9 => h9) rfl dX11_orders_32 ?_
        refine va_getN (D := gD g) (ci := 4) (v := .ref (q 13)) (C := RX6) (T := TX6) (N := 4) hx hb hts iX6 hown hK hP 1 rfl rfl 2 (by decide) (hG.nf 14 rfl) (fun _ h9 => h9) rfl dX11_orders_35 ?_
        refine lv_iload_n hx hb dX11_orders_38 rfl (lv_at hl 0 rfl) ?_
        obtain ⟨hi10, hf⟩ := chk_some hf
        refine va_iald hx hb hK hP 4 0 rfl rfl hi10 dX11_orders_39 ?_
        refine lv_goto (tgt := 51) hx hb dX11_orders_40 (by decide) ?_
        rw [← hQ, ← Option.some.inj hf]
        exact eR_i hx hb hr hlk rfl dX11_orders_51
    · replace hf := ift c6 hf
      refine lv_bipush (v := -2) hx hb dX11_orders_24 (by decide) ?_
      rw [← hQ, ← Option.some.inj hf]
      exact eR_i hx hb hr hlk rfl dX11_orders_26
set_option maxHeartbeats 4000000 in
set_option maxRecDepth 100000 in
theorem c_X11_whole (l : Launch) (g : bG) (q : Nat → Nat) (v_sheets_drawn : Nat → Int32) (v_sheets_next : Nat → Int32) (v_sheets_ways : Nat → Int64) (x1 : Int32) (x2 : Int32) (x3 : Int32) (out : Int64 × (Nat → Int64)) (hf : f_X11_whole v_sheets_drawn v_sheets_next v_sheets_ways x1 x2 x3 = some out) : Ml l g yX11_whole wsX11_whole ({ frames := 3, cells := 0, slots := 0, locals := 70 } : Room) [.ref (q 0), .int x1, .int x2, .int x3] [((q 0), .inr (9, oX11 q)), ((q 10), .inr (4, [.ref (q 11), .ref (q 12), .ref (q 13), .ref (q 14)])), ((q 11), .inl (gI g, 141, .inl v_sheets_drawn)), ((q 12), .inl (gI g, 846, .inl v_sheets_next)), ((q 14), .inl (gJ g, 141, .inr (.inl v_sheets_ways)))] out.1 [((q 0), .inr (9, oX11 q)), ((q 10), .inr (4, [.ref (q 11), .ref (q 12), .ref (q 13), .ref (q 14)])), ((q 11), .inl (gI g, 141, .inl v_sheets_drawn)), ((q 12), .inl (gI g, 846, .inl v_sheets_next)), ((q 14), .inl (gJ g, 141, .inr (.inl out.2)))] := by
  refine ofM (Qc := fun A => Ql g out.1 [((q 0), .inr (9, oX11 q)), ((q 10), .inr (4, [.ref (q 11), .ref (q 12), .ref (q 13), .ref (q 14)])), ((q 11), .inl (gI g, 141, .inl v_sheets_drawn)), ((q 12), .inl (gI g, 846, .inl v_sheets_next)), ((q 14), .inl (gJ g, 141, .inr (.inl out.2)))] A) (cc := cX11_whole) (nL := 5) (ret := some .long) (by decide) rfl (Nat.le_of_ble_eq_true rfl) ?_
  intro p e s m below meth c ar A hC hA hP hD hG ls hl
  have hS : va_S A s.heap s.heap [] := va_S.rf
  obtain ⟨hx, hb, hml, hown, hts, hr, hlk, -⟩ := hC
  have hl : lv_has ls 5 [(0, .ref (q 0)), (1, .int x1), (2, .int x2), (3, .int x3)] := hl
  have hK := hG.1
  have iX11 : ∀ w ∈ u_ws RX11 TX11 10, w ∈ wsX11_whole := fun w h => List.mem_cons_of_mem _ (List.mem_append_left _ (List.mem_append_right _ (h)))
  generalize hQ : MQ below (Ql g out.1 [((q 0), .inr (9, oX11 q)), ((q 10), .inr (4, [.ref (q 11), .ref (q 12), .ref (q 13), .ref (q 14)])), ((q 11), .inl (gI g, 141, .inl v_sheets_drawn)), ((q 12), .inl (gI g, 846, .inl v_sheets_next)), ((q 14), .inl (gJ g, 141, .inr (.inl out.2)))] A) ar s 0 0 A = QQ
  unfold f_X11_whole at hf
  refine lv_aload_n hx hb dX11_whole_0 rfl (lv_at hl 0 rfl) ?_
  refine va_get (D := gD g) (ci := 9) (v := .ref (q 10)) (C := RX11) (T := TX11) (N := 10) hx hb hts iX11 hown hK hP 0 rfl rfl 3 (by decide) (hts (.fieldLink RX11 33 "BeetleDrive" "sheets" "LBeetleDrive$Sheets;") (List.mem_of_getElem? (i := 1) rfl)) (fun _ h9 => h9) rfl dX11_whole_1 ?_
  refine lv_iload_n hx hb dX11_whole_4 rfl (lv_at hl 1 rfl) ?_
  obtain ⟨z1, hq2, hf⟩ := bnd_some hf
  refine kR_i (va_runV (As := [.int x1]) (rest := []) ⟨hx, hb, hml, hown, hts⟩ (c_X6_find l g (q 10) (q 11) (q 12) (q 13) (q 14) v_sheets_drawn x1 z1 hq2) (cwV 1 hts gX11_whole_X6_find rfl rfl rfl (by decide +kernel) ⟨Nat.le_of_ble_eq_true rfl, Nat.le_of_ble_eq_true rfl⟩) (kpV_R (q0 := 0) (ci := 4) (hG.now hS) (hP.subm (ws' := [((q 10), .inr (4, [.ref (q 11), .ref (q 12), .ref (q 13), .ref (q 14)])), ((q 11), .inl (gI g, 141, .inl v_sheets_drawn))]) [1, 2] rfl) rfl rfl) rfl rfl hl.1 rfl (lv_room (Nat.le_of_ble_eq_true rfl)) dX11_whole_5 ⟨Nat.le_of_ble_eq_true rfl, Nat.le_of_ble_eq_true rfl⟩) ?_
  refine lv_istore (lv' := [(4, .int z1), (0, .ref (q 0)), (1, .int x1), (2, .int x2), (3, .int x3)]) hx hb dX11_whole_8 hl (by decide) rfl (fun ls hl => ?_)
  refine lv_iload hx hb dX11_whole_10 (lv_at hl 0 rfl) ?_
  refine lv_bipush (v := -6) hx hb dX11_whole_12 (by decide) ?_
  refine lv_icmp_eq (tgt := 36) hx hb dX11_whole_14 (by decide) (fun c3 => ?_) (fun c3 => ?_)
  · replace hf := ift c3 hf
    refine lv_ldc2 (v := -1000000000000000002) hx hb hown (hts (.constantLong RX11 163 (-1000000000000000002)) (List.mem_of_getElem? (i := 2) rfl)) dX11_whole_36 ?_
    rw [← hQ, ← Option.some.inj hf]
    exact eM_l hx hb hr hlk hP hD hS rfl dX11_whole_39
  · replace hf := iff_ c3 hf
    refine lv_iload_n hx hb dX11_whole_17 rfl (lv_at hl 3 rfl) ?_
    refine lv_iconst (v := 0) hx hb dX11_whole_18 (by decide) ?_
    refine lv_bipush (v := 24) hx hb dX11_whole_19 (by decide) ?_
    obtain ⟨z4, hq5, hf⟩ := bnd_some hf
    refine kR_i (va_runS (As := [.int x2, .int (0 : Int32), .int (24 : Int32)]) (rest := []) ⟨hx, hb, hml, hown, hts⟩ (c_X11_isWithin l g x2 (0 : Int32) (24 : Int32) z4 hq5) (va_cwS 3 hts gX11_whole_X11_isWithin rfl rfl rfl (by decide +kernel) ⟨Nat.le_of_ble_eq_true rfl, Nat.le_of_ble_eq_true rfl⟩) (kpS_R (hG.now hS) (hP.subm (ws' := []) [] rfl)) rfl rfl hl.1 rfl (lv_room (Nat.le_of_ble_eq_true rfl)) dX11_whole_21 ⟨Nat.le_of_ble_eq_true rfl, Nat.le_of_ble_eq_true rfl⟩) ?_
    refine lv_if_eq (tgt := 36) hx hb dX11_whole_24 (by decide) (fun c6 => ?_) (fun c6 => ?_)
    · replace hf := ift c6 hf
      refine lv_ldc2 (v := -1000000000000000002) hx hb hown (hts (.constantLong RX11 163 (-1000000000000000002)) (List.mem_of_getElem? (i := 2) rfl)) dX11_whole_36 ?_
      rw [← hQ, ← Option.some.inj hf]
      exact eM_l hx hb hr hlk hP hD hS rfl dX11_whole_39
    · replace hf := iff_ c6 hf
      refine lv_iload_n hx hb dX11_whole_27 rfl (lv_at hl 4 rfl) ?_
      refine lv_iconst (v := 0) hx hb dX11_whole_28 (by decide) ?_
      refine lv_iconst (v := 1) hx hb dX11_whole_29 (by decide) ?_
      obtain ⟨z7, hq8, hf⟩ := bnd_some hf
      refine kR_i (va_runS (As := [.int x3, .int (0 : Int32), .int (1 : Int32)]) (rest := []) ⟨hx, hb, hml, hown, hts⟩ (c_X11_isWithin l g x3 (0 : Int32) (1 : Int32) z7 hq8) (va_cwS 3 hts gX11_whole_X11_isWithin rfl rfl rfl (by decide +kernel) ⟨Nat.le_of_ble_eq_true rfl, Nat.le_of_ble_eq_true rfl⟩) (kpS_R (hG.now hS) (hP.subm (ws' := []) [] rfl)) rfl rfl hl.1 rfl (lv_room (Nat.le_of_ble_eq_true rfl)) dX11_whole_30 ⟨Nat.le_of_ble_eq_true rfl, Nat.le_of_ble_eq_true rfl⟩) ?_
      refine lv_if_ne (tgt := 40) hx hb dX11_whole_33 (by decide) (fun c9 => ?_) (fun c9 => ?_)
      · replace hf := iff_ c9 hf
        refine lv_aload_n hx hb dX11_whole_40 rfl (lv_at hl 1 rfl) ?_
        refine va_get (D := gD g) (ci := 9) (v := .ref (q 10)) (C := RX11) (T := TX11) (N := 10) hx hb hts iX11 hown hK hP 0 rfl rfl 3 (by decide) (hts (.fieldLink RX11 33 "BeetleDrive" "sheets" "LBeetleDrive$Sheets;") (List.mem_of_getElem? (i := 1) rfl)) (fun _ h9 => h9) rfl dX11_whole_41 ?_
        refine lv_iload hx hb dX11_whole_44 (lv_at hl 0 rfl) ?_
        refine lv_iload_n hx hb dX11_whole_46 rfl (lv_at hl 3 rfl) ?_
        obtain ⟨z10, hq11, hf⟩ := bnd_some hf
        refine kM_l (wc := [((q 10), .inr (4, [.ref (q 11), .ref (q 12), .ref (q 13), .ref (q 14)])), ((q 12), .inl (gI g, 846, .inl v_sheets_next)), ((q 14), .inl (gJ g, 141, .inr (.inl v_sheets_ways)))]) (wr := [((q 0), .inr (9, oX11 q)), ((q 11), .inl (gI g, 141, .inl v_sheets_drawn))]) (w1 := [((q 10), .inr (4, [.ref (q 11), .ref (q 12), .ref (q 13), .ref (q 14)])), ((q 12), .inl (gI g, 846, .inl v_sheets_next)), ((q 14), .inl (gJ g, 141, .inr (.inl z10.2)))]) (w2 := [((q 0), .inr (9, oX11 q)), ((q 10), .inr (4, [.ref (q 11), .ref (q 12), .ref (q 13), .ref (q 14)])), ((q 11), .inl (gI g, 141, .inl v_sheets_drawn)), ((q 12), .inl (gI g, 846, .inl v_sheets_next)), ((q 14), .inl (gJ g, 141, .inr (.inl z10.2)))]) (va_runV (As := [.int z1, .int x2]) (rest := []) ⟨hx, hb, hml, hown, hts⟩ (c_X6_waysToWhole l g (q 10) (q 11) (q 12) (q 13) (q 14) v_sheets_next v_sheets_ways z1 x2 z10 hq11 s.heap.size) (cwV 2 hts gX11_whole_X6_waysToWhole rfl rfl rfl (by decide +kernel) ⟨Nat.le_of_ble_eq_true rfl, Nat.le_of_ble_eq_true rfl⟩) (kpV_M (q0 := 0) (ci := 4) hG hS hP hD hA [1, 3, 4] rfl (by decide) rfl rfl) rfl rfl hl.1 rfl (lv_room (Nat.le_of_ble_eq_true rfl)) dX11_whole_47 ⟨Nat.le_of_ble_eq_true rfl, Nat.le_of_ble_eq_true rfl⟩) hP hD hS hA [1, 3, 4] [0, 2] [0, 2, 1, 3, 4] rfl rfl (by decide) (by decide) rfl (by decide) (fun H locs hP hD hS => ?_)
        refine lv_iload_n hx hb dX11_whole_50 rfl (lv_at hl 3 rfl) ?_
        refine lv_iload_n hx hb dX11_whole_51 rfl (lv_at hl 4 rfl) ?_
        obtain ⟨z12, hq13, hf⟩ := bnd_some hf
        refine kR_l (va_runS (As := [.long z10.1, .int x2, .int x3]) (rest := []) ⟨hx, hb, hml, hown, hts⟩ (c_X11_lowestTerms l g z10.1 x2 x3 z12 hq13) (va_cwS 3 hts gX11_whole_X11_lowestTerms rfl rfl rfl (by decide +kernel) ⟨Nat.le_of_ble_eq_true rfl, Nat.le_of_ble_eq_true rfl⟩) (kpS_R (hG.now hS) (hP.subm (ws' := []) [] rfl)) rfl rfl hl.1 rfl (lv_room (Nat.le_of_ble_eq_true rfl)) dX11_whole_52 ⟨Nat.le_of_ble_eq_true rfl, Nat.le_of_ble_eq_true rfl⟩) ?_
        rw [← hQ, ← Option.some.inj hf]
        exact eM_l hx hb hr hlk hP hD hS rfl dX11_whole_55
      · replace hf := ift c9 hf
        refine lv_ldc2 (v := -1000000000000000002) hx hb hown (hts (.constantLong RX11 163 (-1000000000000000002)) (List.mem_of_getElem? (i := 2) rfl)) dX11_whole_36 ?_
        rw [← hQ, ← Option.some.inj hf]
        exact eM_l hx hb hr hlk hP hD hS rfl dX11_whole_39
set_option maxHeartbeats 4000000 in
set_option maxRecDepth 100000 in
theorem c_X11_sums (l : Launch) (g : bG) (q : Nat → Nat) (v_dice_row : Nat → Int64) (x1 : Int32) (x2 : Int32) (out : Int64 × (Nat → Int64)) (hf : f_X11_sums v_dice_row x1 x2 = some out) : Ml l g yX11_sums wsX11_sums ({ frames := 2, cells := 0, slots := 0, locals := 48 } : Room) [.ref (q 0), .int x1, .int x2] [((q 0), .inr (9, oX11 q)), ((q 15), .inr (6, [.ref (q 16)])), ((q 16), .inl (gJ g, 100, .inr (.inl v_dice_row)))] out.1 [((q 0), .inr (9, oX11 q)), ((q 15), .inr (6, [.ref (q 16)])), ((q 16), .inl (gJ g, 100, .inr (.inl out.2)))] := by
  refine ofM (Qc := fun A => Ql g out.1 [((q 0), .inr (9, oX11 q)), ((q 15), .inr (6, [.ref (q 16)])), ((q 16), .inl (gJ g, 100, .inr (.inl out.2)))] A) (cc := cX11_sums) (nL := 3) (ret := some .long) (by decide) rfl (Nat.le_of_ble_eq_true rfl) ?_
  intro p e s m below meth c ar A hC hA hP hD hG ls hl
  have hS : va_S A s.heap s.heap [] := va_S.rf
  obtain ⟨hx, hb, hml, hown, hts, hr, hlk, -⟩ := hC
  have hl : lv_has ls 3 [(0, .ref (q 0)), (1, .int x1), (2, .int x2)] := hl
  have hK := hG.1
  have iX11 : ∀ w ∈ u_ws RX11 TX11 10, w ∈ wsX11_sums := fun w h => List.mem_cons_of_mem _ (List.mem_append_left _ (List.mem_append_right _ (h)))
  generalize hQ : MQ below (Ql g out.1 [((q 0), .inr (9, oX11 q)), ((q 15), .inr (6, [.ref (q 16)])), ((q 16), .inl (gJ g, 100, .inr (.inl out.2)))] A) ar s 0 0 A = QQ
  unfold f_X11_sums at hf
  refine lv_iload_n hx hb dX11_sums_0 rfl (lv_at hl 1 rfl) ?_
  refine lv_iconst (v := 1) hx hb dX11_sums_1 (by decide) ?_
  refine lv_bipush (v := 12) hx hb dX11_sums_2 (by decide) ?_
  obtain ⟨z1, hq2, hf⟩ := bnd_some hf
  refine kR_i (va_runS (As := [.int x1, .int (1 : Int32), .int (12 : Int32)]) (rest := []) ⟨hx, hb, hml, hown, hts⟩ (c_X11_isWithin l g x1 (1 : Int32) (12 : Int32) z1 hq2) (va_cwS 3 hts gX11_sums_X11_isWithin rfl rfl rfl (by decide +kernel) ⟨Nat.le_of_ble_eq_true rfl, Nat.le_of_ble_eq_true rfl⟩) (kpS_R (hG.now hS) (hP.subm (ws' := []) [] rfl)) rfl rfl hl.1 rfl (lv_room (Nat.le_of_ble_eq_true rfl)) dX11_sums_4 ⟨Nat.le_of_ble_eq_true rfl, Nat.le_of_ble_eq_true rfl⟩) ?_
  refine lv_if_eq (tgt := 20) hx hb dX11_sums_7 (by decide) (fun c3 => ?_) (fun c3 => ?_)
  · replace hf := ift c3 hf
    refine lv_ldc2 (v := -2) hx hb hown (hts (.constantLong RX11 173 (-2)) (List.mem_of_getElem? (i := 1) rfl)) dX11_sums_20 ?_
    rw [← hQ, ← Option.some.inj hf]
    exact eM_l hx hb hr hlk hP hD hS rfl dX11_sums_23
  · replace hf := iff_ c3 hf
    refine lv_iload_n hx hb dX11_sums_10 rfl (lv_at hl 2 rfl) ?_
    refine lv_iconst (v := 0) hx hb dX11_sums_11 (by decide) ?_
    refine lv_bipush (v := 99) hx hb dX11_sums_12 (by decide) ?_
    obtain ⟨z4, hq5, hf⟩ := bnd_some hf
    refine kR_i (va_runS (As := [.int x2, .int (0 : Int32), .int (99 : Int32)]) (rest := []) ⟨hx, hb, hml, hown, hts⟩ (c_X11_isWithin l g x2 (0 : Int32) (99 : Int32) z4 hq5) (va_cwS 3 hts gX11_sums_X11_isWithin rfl rfl rfl (by decide +kernel) ⟨Nat.le_of_ble_eq_true rfl, Nat.le_of_ble_eq_true rfl⟩) (kpS_R (hG.now hS) (hP.subm (ws' := []) [] rfl)) rfl rfl hl.1 rfl (lv_room (Nat.le_of_ble_eq_true rfl)) dX11_sums_14 ⟨Nat.le_of_ble_eq_true rfl, Nat.le_of_ble_eq_true rfl⟩) ?_
    refine lv_if_ne (tgt := 24) hx hb dX11_sums_17 (by decide) (fun c6 => ?_) (fun c6 => ?_)
    · replace hf := iff_ c6 hf
      refine lv_aload_n hx hb dX11_sums_24 rfl (lv_at hl 0 rfl) ?_
      refine va_get (D := gD g) (ci := 9) (v := .ref (q 15)) (C := RX11) (T := TX11) (N := 10) hx hb hts iX11 hown hK hP 0 rfl rfl 4 (by decide) (hts (.fieldLink RX11 40 "BeetleDrive" "dice" "LBeetleDrive$Sums;") (List.mem_of_getElem? (i := 2) rfl)) (fun _ h9 => h9) rfl dX11_sums_25 ?_
      refine lv_iload_n hx hb dX11_sums_28 rfl (lv_at hl 1 rfl) ?_
      refine lv_iload_n hx hb dX11_sums_29 rfl (lv_at hl 2 rfl) ?_
      obtain ⟨z7, hq8, hf⟩ := bnd_some hf
      refine kM_l (wc := [((q 15), .inr (6, [.ref (q 16)])), ((q 16), .inl (gJ g, 100, .inr (.inl v_dice_row)))]) (wr := [((q 0), .inr (9, oX11 q))]) (w1 := [((q 15), .inr (6, [.ref (q 16)])), ((q 16), .inl (gJ g, 100, .inr (.inl z7.2)))]) (w2 := [((q 0), .inr (9, oX11 q)), ((q 15), .inr (6, [.ref (q 16)])), ((q 16), .inl (gJ g, 100, .inr (.inl z7.2)))]) (va_runV (As := [.int x1, .int x2]) (rest := []) ⟨hx, hb, hml, hown, hts⟩ (c_X8_ways l g (q 15) (q 16) v_dice_row x1 x2 z7 hq8 s.heap.size) (cwV 2 hts gX11_sums_X8_ways rfl rfl rfl (by decide +kernel) ⟨Nat.le_of_ble_eq_true rfl, Nat.le_of_ble_eq_true rfl⟩) (kpV_M (q0 := 0) (ci := 6) hG hS hP hD hA [1, 2] rfl (by decide) rfl rfl) rfl rfl hl.1 rfl (lv_room (Nat.le_of_ble_eq_true rfl)) dX11_sums_30 ⟨Nat.le_of_ble_eq_true rfl, Nat.le_of_ble_eq_true rfl⟩) hP hD hS hA [1, 2] [0] [0, 1, 2] rfl rfl (by decide) (by decide) rfl (by decide) (fun H locs hP hD hS => ?_)
      rw [← hQ, ← Option.some.inj hf]
      exact eM_l hx hb hr hlk hP hD hS rfl dX11_sums_33
    · replace hf := ift c6 hf
      refine lv_ldc2 (v := -2) hx hb hown (hts (.constantLong RX11 173 (-2)) (List.mem_of_getElem? (i := 1) rfl)) dX11_sums_20 ?_
      rw [← hQ, ← Option.some.inj hf]
      exact eM_l hx hb hr hlk hP hD hS rfl dX11_sums_23
set_option maxHeartbeats 4000000 in
set_option maxRecDepth 100000 in
theorem c_X11_roll (l : Launch) (g : bG) (q : Nat → Nat) (x1 : Int32) (x2 : Int32) (out : Int32) (hf : f_X11_roll x1 x2 = some out) : Ri l g yX11_roll wsX11_roll ({ frames := 4, cells := 0, slots := 0, locals := 94 } : Room) [.ref (q 0), .int x1, .int x2] [((q 0), .inr (9, oX11 q))] out := by
  refine ofR (cc := cX11_roll) (nL := 3) (ret := some .int) (by decide) rfl (Nat.le_of_ble_eq_true rfl) ?_
  intro p e s m below meth c ar hC hP hG ls hl
  have hS : va_S (fun _ => False) s.heap s.heap [] := va_S.rf
  obtain ⟨hx, hb, hml, hown, hts, hr, hlk, -⟩ := hC
  have hl : lv_has ls 3 [(0, .ref (q 0)), (1, .int x1), (2, .int x2)] := hl
  have hK := hG.1
  generalize hQ : MQ below (vp_Si (fun x => x = out)) ar s 0 0 (fun _ => False) = QQ
  unfold f_X11_roll at hf
  refine lv_iload_n hx hb dX11_roll_0 rfl (lv_at hl 1 rfl) ?_
  obtain ⟨z1, hq2, hf⟩ := bnd_some hf
  refine kR_i (va_runS (As := [.int x1]) (rest := []) ⟨hx, hb, hml, hown, hts⟩ (c_X1_canLie l g x1 z1 hq2) (va_cwS 1 hts gX11_roll_X1_canLie rfl rfl rfl (by decide +kernel) ⟨Nat.le_of_ble_eq_true rfl, Nat.le_of_ble_eq_true rfl⟩) (kpS_R hG (hP.subm (ws' := []) [] rfl)) rfl rfl hl.1 rfl (lv_room (Nat.le_of_ble_eq_true rfl)) dX11_roll_1 ⟨Nat.le_of_ble_eq_true rfl, Nat.le_of_ble_eq_true rfl⟩) ?_
  refine lv_if_eq (tgt := 14) hx hb dX11_roll_4 (by decide) (fun c3 => ?_) (fun c3 => ?_)
  · replace hf := ift c3 hf
    refine lv_bipush (v := -2) hx hb dX11_roll_14 (by decide) ?_
    rw [← hQ, ← Option.some.inj hf]
    exact eR_i hx hb hr hlk rfl dX11_roll_16
  · replace hf := iff_ c3 hf
    refine lv_iload_n hx hb dX11_roll_7 rfl (lv_at hl 2 rfl) ?_
    obtain ⟨z4, hq5, hf⟩ := bnd_some hf
    refine kR_i (va_runS (As := [.int x2]) (rest := []) ⟨hx, hb, hml, hown, hts⟩ (c_X1_isRow l g x2 z4 hq5) (va_cwS 1 hts gX11_roll_X1_isRow rfl rfl rfl (by decide +kernel) ⟨Nat.le_of_ble_eq_true rfl, Nat.le_of_ble_eq_true rfl⟩) (kpS_R hG (hP.subm (ws' := []) [] rfl)) rfl rfl hl.1 rfl (lv_room (Nat.le_of_ble_eq_true rfl)) dX11_roll_8 ⟨Nat.le_of_ble_eq_true rfl, Nat.le_of_ble_eq_true rfl⟩) ?_
    refine lv_if_ne (tgt := 17) hx hb dX11_roll_11 (by decide) (fun c6 => ?_) (fun c6 => ?_)
    · replace hf := iff_ c6 hf
      refine lv_iload_n hx hb dX11_roll_17 rfl (lv_at hl 1 rfl) ?_
      refine lv_iload_n hx hb dX11_roll_18 rfl (lv_at hl 2 rfl) ?_
      obtain ⟨z7, hq8, hf⟩ := bnd_some hf
      refine kR_i (va_runS (As := [.int x1, .int x2]) (rest := []) ⟨hx, hb, hml, hown, hts⟩ (c_X1_topAfter l g x1 x2 z7 hq8) (va_cwS 2 hts gX11_roll_X1_topAfter rfl rfl rfl (by decide +kernel) ⟨Nat.le_of_ble_eq_true rfl, Nat.le_of_ble_eq_true rfl⟩) (kpS_R hG (hP.subm (ws' := []) [] rfl)) rfl rfl hl.1 rfl (lv_room (Nat.le_of_ble_eq_true rfl)) dX11_roll_19 ⟨Nat.le_of_ble_eq_true rfl, Nat.le_of_ble_eq_true rfl⟩) ?_
      rw [← hQ, ← Option.some.inj hf]
      exact eR_i hx hb hr hlk rfl dX11_roll_22
    · replace hf := ift c6 hf
      refine lv_bipush (v := -2) hx hb dX11_roll_14 (by decide) ?_
      rw [← hQ, ← Option.some.inj hf]
      exact eR_i hx hb hr hlk rfl dX11_roll_16
set_option maxHeartbeats 4000000 in
set_option maxRecDepth 100000 in
theorem c_X11_shown (l : Launch) (g : bG) (q : Nat → Nat) (v_sights_size : Int32) (v_sights_rows : Nat → Int32) (v_sights_tops : Nat → Int32) (x1 : Int32) (x2 : Int32) (out : Int32 × (Nat → Int32) × (Nat → Int32) × Int32) (hf : f_X11_shown v_sights_rows v_sights_tops v_sights_size x1 x2 = some out) : Mi l g yX11_shown wsX11_shown ({ frames := 2, cells := 0, slots := 0, locals := 44 } : Room) [.ref (q 0), .int x1, .int x2] [((q 0), .inr (9, oX11 q)), ((q 17), .inr (5, [.ref (q 18), .ref (q 19), .int v_sights_size])), ((q 18), .inl (gI g, 8, .inl v_sights_rows)), ((q 19), .inl (gI g, 8, .inl v_sights_tops))] out.1 [((q 0), .inr (9, oX11 q)), ((q 17), .inr (5, [.ref (q 18), .ref (q 19), .int out.2.2.2])), ((q 18), .inl (gI g, 8, .inl out.2.1)), ((q 19), .inl (gI g, 8, .inl out.2.2.1))] := by
  refine ofM (Qc := fun A => Qi g out.1 [((q 0), .inr (9, oX11 q)), ((q 17), .inr (5, [.ref (q 18), .ref (q 19), .int out.2.2.2])), ((q 18), .inl (gI g, 8, .inl out.2.1)), ((q 19), .inl (gI g, 8, .inl out.2.2.1))] A) (cc := cX11_shown) (nL := 3) (ret := some .int) (by decide) rfl (Nat.le_of_ble_eq_true rfl) ?_
  intro p e s m below meth c ar A hC hA hP hD hG ls hl
  have hS : va_S A s.heap s.heap [] := va_S.rf
  obtain ⟨hx, hb, hml, hown, hts, hr, hlk, -⟩ := hC
  have hl : lv_has ls 3 [(0, .ref (q 0)), (1, .int x1), (2, .int x2)] := hl
  have hK := hG.1
  have iX11 : ∀ w ∈ u_ws RX11 TX11 10, w ∈ wsX11_shown := fun w h => List.mem_cons_of_mem _ (List.mem_append_left _ (List.mem_append_right _ (h)))
  have iX7 : ∀ w ∈ u_ws RX7 TX7 3, w ∈ wsX11_shown := fun w h => List.mem_cons_of_mem _ (List.mem_append_right _ (h))
  generalize hQ : MQ below (Qi g out.1 [((q 0), .inr (9, oX11 q)), ((q 17), .inr (5, [.ref (q 18), .ref (q 19), .int out.2.2.2])), ((q 18), .inl (gI g, 8, .inl out.2.1)), ((q 19), .inl (gI g, 8, .inl out.2.2.1))] A) ar s 0 0 A = QQ
  unfold f_X11_shown at hf
  refine lv_iload_n hx hb dX11_shown_0 rfl (lv_at hl 1 rfl) ?_
  obtain ⟨z1, hq2, hf⟩ := bnd_some hf
  refine kR_i (va_runS (As := [.int x1]) (rest := []) ⟨hx, hb, hml, hown, hts⟩ (c_X1_isRow l g x1 z1 hq2) (va_cwS 1 hts gX11_shown_X1_isRow rfl rfl rfl (by decide +kernel) ⟨Nat.le_of_ble_eq_true rfl, Nat.le_of_ble_eq_true rfl⟩) (kpS_R (hG.now hS) (hP.subm (ws' := []) [] rfl)) rfl rfl hl.1 rfl (lv_room (Nat.le_of_ble_eq_true rfl)) dX11_shown_1 ⟨Nat.le_of_ble_eq_true rfl, Nat.le_of_ble_eq_true rfl⟩) ?_
  refine lv_if_eq (tgt := 17) hx hb dX11_shown_4 (by decide) (fun c3 => ?_) (fun c3 => ?_)
  · replace hf := ift c3 hf
    refine lv_bipush (v := -2) hx hb dX11_shown_17 (by decide) ?_
    rw [← hQ, ← Option.some.inj hf]
    exact eM_i hx hb hr hlk hP hD hS rfl dX11_shown_19
  · replace hf := iff_ c3 hf
    refine lv_iload_n hx hb dX11_shown_7 rfl (lv_at hl 2 rfl) ?_
    refine lv_iconst (v := 1) hx hb dX11_shown_8 (by decide) ?_
    refine lv_bipush (v := 6) hx hb dX11_shown_9 (by decide) ?_
    obtain ⟨z4, hq5, hf⟩ := bnd_some hf
    refine kR_i (va_runS (As := [.int x2, .int (1 : Int32), .int (6 : Int32)]) (rest := []) ⟨hx, hb, hml, hown, hts⟩ (c_X11_isWithin l g x2 (1 : Int32) (6 : Int32) z4 hq5) (va_cwS 3 hts gX11_shown_X11_isWithin rfl rfl rfl (by decide +kernel) ⟨Nat.le_of_ble_eq_true rfl, Nat.le_of_ble_eq_true rfl⟩) (kpS_R (hG.now hS) (hP.subm (ws' := []) [] rfl)) rfl rfl hl.1 rfl (lv_room (Nat.le_of_ble_eq_true rfl)) dX11_shown_11 ⟨Nat.le_of_ble_eq_true rfl, Nat.le_of_ble_eq_true rfl⟩) ?_
    refine lv_if_ne (tgt := 20) hx hb dX11_shown_14 (by decide) (fun c6 => ?_) (fun c6 => ?_)
    · replace hf := iff_ c6 hf
      refine lv_aload_n hx hb dX11_shown_20 rfl (lv_at hl 0 rfl) ?_
      refine va_get (D := gD g) (ci := 9) (v := .ref (q 17)) (C := RX11) (T := TX11) (N := 10) hx hb hts iX11 hown hK hP 0 rfl rfl 5 (by decide) (hts (.fieldLink RX11 47 "BeetleDrive" "sights" "LBeetleDrive$Sights;") (List.mem_of_getElem? (i := 1) rfl)) (fun _ h9 => h9) rfl dX11_shown_21 ?_
      refine lv_iload_n hx hb dX11_shown_24 rfl (lv_at hl 1 rfl) ?_
      refine lv_iload_n hx hb dX11_shown_25 rfl (lv_at hl 2 rfl) ?_
      obtain ⟨z7, hq8, hf⟩ := bnd_some hf
      refine kM_i (wc := [((q 17), .inr (5, [.ref (q 18), .ref (q 19), .int v_sights_size])), ((q 18), .inl (gI g, 8, .inl v_sights_rows)), ((q 19), .inl (gI g, 8, .inl v_sights_tops))]) (wr := [((q 0), .inr (9, oX11 q))]) (w1 := [((q 17), .inr (5, [.ref (q 18), .ref (q 19), .int z7.2.2.2])), ((q 18), .inl (gI g, 8, .inl z7.2.1)), ((q 19), .inl (gI g, 8, .inl z7.2.2.1))]) (w2 := [((q 0), .inr (9, oX11 q)), ((q 17), .inr (5, [.ref (q 18), .ref (q 19), .int z7.2.2.2])), ((q 18), .inl (gI g, 8, .inl z7.2.1)), ((q 19), .inl (gI g, 8, .inl z7.2.2.1))]) (va_runV (As := [.int x1, .int x2]) (rest := []) ⟨hx, hb, hml, hown, hts⟩ (c_X7_add l g (q 17) (q 18) (q 19) v_sights_size v_sights_rows v_sights_tops x1 x2 z7 hq8 s.heap.size) (cwV 2 hts gX11_shown_X7_add rfl rfl rfl (by decide +kernel) ⟨Nat.le_of_ble_eq_true rfl, Nat.le_of_ble_eq_true rfl⟩) (kpV_M (q0 := 0) (ci := 5) hG hS hP hD hA [1, 2, 3] rfl (by decide) rfl rfl) rfl rfl hl.1 rfl (lv_room (Nat.le_of_ble_eq_true rfl)) dX11_shown_26 ⟨Nat.le_of_ble_eq_true rfl, Nat.le_of_ble_eq_true rfl⟩) hP hD hS hA [1, 2, 3] [0] [0, 1, 2, 3] rfl rfl (by decide) (by decide) rfl (by decide) (fun H locs hP hD hS => ?_)
      refine lv_if_eq (tgt := 42) hx hb dX11_shown_29 (by decide) (fun c9 => ?_) (fun c9 => ?_)
      · replace hf := ift c9 hf
        refine lv_bipush (v := -4) hx hb dX11_shown_42 (by decide) ?_
        rw [← hQ, ← Option.some.inj hf]
        exact eM_i hx hb hr hlk hP hD hS rfl dX11_shown_44
      · replace hf := iff_ c9 hf
        refine lv_aload_n hx hb dX11_shown_32 rfl (lv_at hl 0 rfl) ?_
        refine va_get (D := gD g) (ci := 9) (v := .ref (q 17)) (C := RX11) (T := TX11) (N := 10) hx hb hts iX11 hown hK hP 0 rfl rfl 5 (by decide) (hts (.fieldLink RX11 47 "BeetleDrive" "sights" "LBeetleDrive$Sights;") (List.mem_of_getElem? (i := 1) rfl)) (fun _ h9 => h9) rfl dX11_shown_33 ?_
        refine va_getN (D := gD g) (ci := 5) (v := .int z7.2.2.2) (C := RX7) (T := TX7) (N := 3) hx hb hts iX7 hown hK hP 1 rfl rfl 2 (by decide) (hG.nf 15 rfl) (fun _ h9 => h9) rfl dX11_shown_36 ?_
        refine lv_goto (tgt := 44) hx hb dX11_shown_39 (by decide) ?_
        rw [← hQ, ← Option.some.inj hf]
        exact eM_i hx hb hr hlk hP hD hS rfl dX11_shown_44
    · replace hf := ift c6 hf
      refine lv_bipush (v := -2) hx hb dX11_shown_17 (by decide) ?_
      rw [← hQ, ← Option.some.inj hf]
      exact eM_i hx hb hr hlk hP hD hS rfl dX11_shown_19
set_option maxHeartbeats 4000000 in
set_option maxRecDepth 100000 in
theorem c_X11_forget (l : Launch) (g : bG) (q : Nat → Nat) (v_sights_size : Int32) (out : Int32 × Int32) (hf : f_X11_forget v_sights_size = some out) : Mi l g yX11_forget wsX11_forget ({ frames := 1, cells := 0, slots := 0, locals := 21 } : Room) [.ref (q 0)] [((q 0), .inr (9, oX11 q)), ((q 17), .inr (5, [.ref (q 18), .ref (q 19), .int v_sights_size]))] out.1 [((q 0), .inr (9, oX11 q)), ((q 17), .inr (5, [.ref (q 18), .ref (q 19), .int out.2]))] := by
  refine ofM (Qc := fun A => Qi g out.1 [((q 0), .inr (9, oX11 q)), ((q 17), .inr (5, [.ref (q 18), .ref (q 19), .int out.2]))] A) (cc := cX11_forget) (nL := 1) (ret := some .int) (by decide) rfl (Nat.le_of_ble_eq_true rfl) ?_
  intro p e s m below meth c ar A hC hA hP hD hG ls hl
  have hS : va_S A s.heap s.heap [] := va_S.rf
  obtain ⟨hx, hb, hml, hown, hts, hr, hlk, -⟩ := hC
  have hl : lv_has ls 1 [(0, .ref (q 0))] := hl
  have hK := hG.1
  have iX11 : ∀ w ∈ u_ws RX11 TX11 10, w ∈ wsX11_forget := fun w h => List.mem_cons_of_mem _ (List.mem_append_left _ (List.mem_append_right _ (h)))
  generalize hQ : MQ below (Qi g out.1 [((q 0), .inr (9, oX11 q)), ((q 17), .inr (5, [.ref (q 18), .ref (q 19), .int out.2]))] A) ar s 0 0 A = QQ
  unfold f_X11_forget at hf
  refine lv_aload_n hx hb dX11_forget_0 rfl (lv_at hl 0 rfl) ?_
  refine va_get (D := gD g) (ci := 9) (v := .ref (q 17)) (C := RX11) (T := TX11) (N := 10) hx hb hts iX11 hown hK hP 0 rfl rfl 5 (by decide) (hts (.fieldLink RX11 47 "BeetleDrive" "sights" "LBeetleDrive$Sights;") (List.mem_of_getElem? (i := 1) rfl)) (fun _ h9 => h9) rfl dX11_forget_1 ?_
  obtain ⟨z1, hq2, hf⟩ := bnd_some hf
  refine kM_i (wc := [((q 17), .inr (5, [.ref (q 18), .ref (q 19), .int v_sights_size]))]) (wr := [((q 0), .inr (9, oX11 q))]) (w1 := [((q 17), .inr (5, [.ref (q 18), .ref (q 19), .int z1.2]))]) (w2 := [((q 0), .inr (9, oX11 q)), ((q 17), .inr (5, [.ref (q 18), .ref (q 19), .int z1.2]))]) (va_runV (As := []) (rest := []) ⟨hx, hb, hml, hown, hts⟩ (c_X7_clear l g (q 17) (q 18) (q 19) v_sights_size z1 hq2 s.heap.size) (cwV 0 hts gX11_forget_X7_clear rfl rfl rfl (by decide +kernel) ⟨Nat.le_of_ble_eq_true rfl, Nat.le_of_ble_eq_true rfl⟩) (kpV_M (q0 := 0) (ci := 5) hG hS hP hD hA [1] rfl (by decide) rfl rfl) rfl rfl hl.1 rfl (lv_room (Nat.le_of_ble_eq_true rfl)) dX11_forget_4 ⟨Nat.le_of_ble_eq_true rfl, Nat.le_of_ble_eq_true rfl⟩) hP hD hS hA [1] [0] [0, 1] rfl rfl (by decide) (by decide) rfl (by decide) (fun H locs hP hD hS => ?_)
  rw [← hQ, ← Option.some.inj hf]
  exact eM_i hx hb hr hlk hP hD hS rfl dX11_forget_7
set_option maxHeartbeats 4000000 in
set_option maxRecDepth 100000 in
theorem c_X11_lies (l : Launch) (g : bG) (q : Nat → Nat) (v_sights_size : Int32) (v_sights_rows : Nat → Int32) (v_sights_tops : Nat → Int32) (v_finder_size : Int32) (v_finder_found : Nat → Int32) (x1 : Int32) (out : Int32 × (Nat → Int32) × Int32) (hf : f_X11_lies v_sights_rows v_sights_tops v_sights_size v_finder_found v_finder_size x1 = some out) : Mi l g yX11_lies wsX11_lies ({ frames := 6, cells := 0, slots := 0, locals := 138 } : Room) [.ref (q 0), .int x1] [((q 0), .inr (9, oX11 q)), ((q 17), .inr (5, [.ref (q 18), .ref (q 19), .int v_sights_size])), ((q 18), .inl (gI g, 8, .inl v_sights_rows)), ((q 19), .inl (gI g, 8, .inl v_sights_tops)), ((q 20), .inr (0, [.ref (q 21), .ref (q 22), .int v_finder_size])), ((q 21), .inl (gI g, 24, .inl v_finder_found))] out.1 [((q 0), .inr (9, oX11 q)), ((q 17), .inr (5, [.ref (q 18), .ref (q 19), .int v_sights_size])), ((q 18), .inl (gI g, 8, .inl v_sights_rows)), ((q 19), .inl (gI g, 8, .inl v_sights_tops)), ((q 20), .inr (0, [.ref (q 21), .ref (q 22), .int out.2.2])), ((q 21), .inl (gI g, 24, .inl out.2.1))] := by
  refine ofM (Qc := fun A => Qi g out.1 [((q 0), .inr (9, oX11 q)), ((q 17), .inr (5, [.ref (q 18), .ref (q 19), .int v_sights_size])), ((q 18), .inl (gI g, 8, .inl v_sights_rows)), ((q 19), .inl (gI g, 8, .inl v_sights_tops)), ((q 20), .inr (0, [.ref (q 21), .ref (q 22), .int out.2.2])), ((q 21), .inl (gI g, 24, .inl out.2.1))] A) (cc := cX11_lies) (nL := 2) (ret := some .int) (by decide) rfl (Nat.le_of_ble_eq_true rfl) ?_
  intro p e s m below meth c ar A hC hA hP hD hG ls hl
  have hS : va_S A s.heap s.heap [] := va_S.rf
  obtain ⟨hx, hb, hml, hown, hts, hr, hlk, -⟩ := hC
  have hl : lv_has ls 2 [(0, .ref (q 0)), (1, .int x1)] := hl
  have hK := hG.1
  have iX11 : ∀ w ∈ u_ws RX11 TX11 10, w ∈ wsX11_lies := fun w h => List.mem_cons_of_mem _ (List.mem_append_left _ (List.mem_append_left _ (List.mem_append_right _ (h))))
  have iX2 : ∀ w ∈ u_ws RX2 TX2 3, w ∈ wsX11_lies := fun w h => List.mem_cons_of_mem _ (List.mem_append_left _ (List.mem_append_right _ (h)))
  generalize hQ : MQ below (Qi g out.1 [((q 0), .inr (9, oX11 q)), ((q 17), .inr (5, [.ref (q 18), .ref (q 19), .int v_sights_size])), ((q 18), .inl (gI g, 8, .inl v_sights_rows)), ((q 19), .inl (gI g, 8, .inl v_sights_tops)), ((q 20), .inr (0, [.ref (q 21), .ref (q 22), .int out.2.2])), ((q 21), .inl (gI g, 24, .inl out.2.1))] A) ar s 0 0 A = QQ
  unfold f_X11_lies at hf
  refine lv_aload_n hx hb dX11_lies_0 rfl (lv_at hl 0 rfl) ?_
  refine va_get (D := gD g) (ci := 9) (v := .ref (q 20)) (C := RX11) (T := TX11) (N := 10) hx hb hts iX11 hown hK hP 0 rfl rfl 6 (by decide) (hts (.fieldLink RX11 54 "BeetleDrive" "finder" "LBeetleDrive$Finder;") (List.mem_of_getElem? (i := 1) rfl)) (fun _ h9 => h9) rfl dX11_lies_1 ?_
  refine lv_aload_n hx hb dX11_lies_4 rfl (lv_at hl 0 rfl) ?_
  refine va_get (D := gD g) (ci := 9) (v := .ref (q 17)) (C := RX11) (T := TX11) (N := 10) hx hb hts iX11 hown hK hP 0 rfl rfl 5 (by decide) (hts (.fieldLink RX11 47 "BeetleDrive" "sights" "LBeetleDrive$Sights;") (List.mem_of_getElem? (i := 2) rfl)) (fun _ h9 => h9) rfl dX11_lies_5 ?_
  obtain ⟨z1, hq2, hf⟩ := bnd_some hf
  refine kM_v (wc := [((q 20), .inr (0, [.ref (q 21), .ref (q 22), .int v_finder_size])), ((q 21), .inl (gI g, 24, .inl v_finder_found)), ((q 17), .inr (5, [.ref (q 18), .ref (q 19), .int v_sights_size])), ((q 18), .inl (gI g, 8, .inl v_sights_rows)), ((q 19), .inl (gI g, 8, .inl v_sights_tops))]) (wr := [((q 0), .inr (9, oX11 q))]) (w1 := [((q 20), .inr (0, [.ref (q 21), .ref (q 22), .int z1.2])), ((q 21), .inl (gI g, 24, .inl z1.1)), ((q 17), .inr (5, [.ref (q 18), .ref (q 19), .int v_sights_size])), ((q 18), .inl (gI g, 8, .inl v_sights_rows)), ((q 19), .inl (gI g, 8, .inl v_sights_tops))]) (w2 := [((q 0), .inr (9, oX11 q)), ((q 17), .inr (5, [.ref (q 18), .ref (q 19), .int v_sights_size])), ((q 18), .inl (gI g, 8, .inl v_sights_rows)), ((q 19), .inl (gI g, 8, .inl v_sights_tops)), ((q 20), .inr (0, [.ref (q 21), .ref (q 22), .int z1.2])), ((q 21), .inl (gI g, 24, .inl z1.1))]) (va_runV (As := [.ref (q 17)]) (rest := []) ⟨hx, hb, hml, hown, hts⟩ (c_X2_search l g (q 20) (q 21) (q 22) (q 17) (q 18) (q 19) v_finder_size v_finder_found v_sights_size v_sights_rows v_sights_tops z1 hq2 s.heap.size) (cwV 1 hts gX11_lies_X2_search rfl rfl rfl (by decide +kernel) ⟨Nat.le_of_ble_eq_true rfl, Nat.le_of_ble_eq_true rfl⟩) (kpV_M (q0 := 0) (ci := 0) hG hS hP hD hA [4, 5, 1, 2, 3] rfl (by decide) rfl rfl) rfl rfl hl.1 rfl (lv_room (Nat.le_of_ble_eq_true rfl)) dX11_lies_8 ⟨Nat.le_of_ble_eq_true rfl, Nat.le_of_ble_eq_true rfl⟩) hP hD hS hA [4, 5, 1, 2, 3] [0] [0, 3, 4, 5, 1, 2] rfl rfl (by decide) (by decide) rfl (by decide) (fun H locs hP hD hS => ?_)
  refine lv_iload_n hx hb dX11_lies_11 rfl (lv_at hl 1 rfl) ?_
  refine lv_iconst (v := -1) hx hb dX11_lies_12 (by decide) ?_
  refine lv_icmp_ne (tgt := 24) hx hb dX11_lies_13 (by decide) (fun c3 => ?_) (fun c3 => ?_)
  · replace hf := iff_ c3 hf
    refine lv_iload_n hx hb dX11_lies_24 rfl (lv_at hl 1 rfl) ?_
    refine lv_iconst (v := 0) hx hb dX11_lies_25 (by decide) ?_
    refine lv_aload_n hx hb dX11_lies_26 rfl (lv_at hl 0 rfl) ?_
    refine va_get (D := gD g) (ci := 9) (v := .ref (q 20)) (C := RX11) (T := TX11) (N := 10) hx hb hts iX11 hown hK hP 0 rfl rfl 6 (by decide) (hts (.fieldLink RX11 54 "BeetleDrive" "finder" "LBeetleDrive$Finder;") (List.mem_of_getElem? (i := 1) rfl)) (fun _ h9 => h9) rfl dX11_lies_27 ?_
    refine va_getN (D := gD g) (ci := 0) (v := .int z1.2) (C := RX2) (T := TX2) (N := 3) hx hb hts iX2 hown hK hP 4 rfl rfl 2 (by decide) (hG.nf 17 rfl) (fun _ h9 => h9) rfl dX11_lies_30 ?_
    refine lv_iconst (v := 1) hx hb dX11_lies_33 (by decide) ?_
    refine lv_isub hx hb dX11_lies_34 ?_
    obtain ⟨z4, hq5, hf⟩ := bnd_some hf
    refine kR_i (va_runS (As := [.int x1, .int (0 : Int32), .int (z1.2 - (1 : Int32))]) (rest := []) ⟨hx, hb, hml, hown, hts⟩ (c_X11_isWithin l g x1 (0 : Int32) (z1.2 - (1 : Int32)) z4 hq5) (va_cwS 3 hts gX11_lies_X11_isWithin rfl rfl rfl (by decide +kernel) ⟨Nat.le_of_ble_eq_true rfl, Nat.le_of_ble_eq_true rfl⟩) (kpS_R (hG.now hS) (hP.subm (ws' := []) [] rfl)) rfl rfl hl.1 rfl (lv_room (Nat.le_of_ble_eq_true rfl)) dX11_lies_35 ⟨Nat.le_of_ble_eq_true rfl, Nat.le_of_ble_eq_true rfl⟩) ?_
    refine lv_if_eq (tgt := 53) hx hb dX11_lies_38 (by decide) (fun c6 => ?_) (fun c6 => ?_)
    · replace hf := ift c6 hf
      refine lv_bipush (v := -6) hx hb dX11_lies_53 (by decide) ?_
      rw [← hQ, ← Option.some.inj hf]
      exact eM_i hx hb hr hlk hP hD hS rfl dX11_lies_55
    · replace hf := iff_ c6 hf
      refine lv_aload_n hx hb dX11_lies_41 rfl (lv_at hl 0 rfl) ?_
      refine va_get (D := gD g) (ci := 9) (v := .ref (q 20)) (C := RX11) (T := TX11) (N := 10) hx hb hts iX11 hown hK hP 0 rfl rfl 6 (by decide) (hts (.fieldLink RX11 54 "BeetleDrive" "finder" "LBeetleDrive$Finder;") (List.mem_of_getElem? (i := 1) rfl)) (fun _ h9 => h9) rfl dX11_lies_42 ?_
      refine va_getN (D := gD g) (ci := 0) (v := .ref (q 21)) (C := RX2) (T := TX2) (N := 3) hx hb hts iX2 hown hK hP 4 rfl rfl 0 (by decide) (hG.nf 16 rfl) (fun _ h9 => h9) rfl dX11_lies_45 ?_
      refine lv_iload_n hx hb dX11_lies_48 rfl (lv_at hl 1 rfl) ?_
      obtain ⟨hi7, hf⟩ := chk_some hf
      refine va_iald hx hb hK hP 5 0 rfl rfl hi7 dX11_lies_49 ?_
      refine lv_goto (tgt := 55) hx hb dX11_lies_50 (by decide) ?_
      rw [← hQ, ← Option.some.inj hf]
      exact eM_i hx hb hr hlk hP hD hS rfl dX11_lies_55
  · replace hf := ift c3 hf
    refine lv_aload_n hx hb dX11_lies_16 rfl (lv_at hl 0 rfl) ?_
    refine va_get (D := gD g) (ci := 9) (v := .ref (q 20)) (C := RX11) (T := TX11) (N := 10) hx hb hts iX11 hown hK hP 0 rfl rfl 6 (by decide) (hts (.fieldLink RX11 54 "BeetleDrive" "finder" "LBeetleDrive$Finder;") (List.mem_of_getElem? (i := 1) rfl)) (fun _ h9 => h9) rfl dX11_lies_17 ?_
    refine va_getN (D := gD g) (ci := 0) (v := .int z1.2) (C := RX2) (T := TX2) (N := 3) hx hb hts iX2 hown hK hP 4 rfl rfl 2 (by decide) (hG.nf 17 rfl) (fun _ h9 => h9) rfl dX11_lies_20 ?_
    rw [← hQ, ← Option.some.inj hf]
    exact eM_i hx hb hr hlk hP hD hS rfl dX11_lies_23
set_option maxHeartbeats 4000000 in
set_option maxRecDepth 100000 in
theorem c_X11_ask (l : Launch) (g : bG) (q : Nat → Nat) (v_sights_size : Int32) (v_sights_rows : Nat → Int32) (v_sights_tops : Nat → Int32) (v_finder_size : Int32) (v_finder_found : Nat → Int32) (v_finder_tally : Nat → Int32) (x1 : Int32) (out : Int32 × (Nat → Int32) × (Nat → Int32) × Int32) (hf : f_X11_ask v_sights_rows v_sights_tops v_sights_size v_finder_found v_finder_tally v_finder_size x1 = some out) : Mi l g yX11_ask wsX11_ask ({ frames := 6, cells := 0, slots := 0, locals := 142 } : Room) [.ref (q 0), .int x1] [((q 0), .inr (9, oX11 q)), ((q 17), .inr (5, [.ref (q 18), .ref (q 19), .int v_sights_size])), ((q 18), .inl (gI g, 8, .inl v_sights_rows)), ((q 19), .inl (gI g, 8, .inl v_sights_tops)), ((q 20), .inr (0, [.ref (q 21), .ref (q 22), .int v_finder_size])), ((q 21), .inl (gI g, 24, .inl v_finder_found)), ((q 22), .inl (gI g, 7, .inl v_finder_tally))] out.1 [((q 0), .inr (9, oX11 q)), ((q 17), .inr (5, [.ref (q 18), .ref (q 19), .int v_sights_size])), ((q 18), .inl (gI g, 8, .inl v_sights_rows)), ((q 19), .inl (gI g, 8, .inl v_sights_tops)), ((q 20), .inr (0, [.ref (q 21), .ref (q 22), .int out.2.2.2])), ((q 21), .inl (gI g, 24, .inl out.2.1)), ((q 22), .inl (gI g, 7, .inl out.2.2.1))] := by
  refine ofM (Qc := fun A => Qi g out.1 [((q 0), .inr (9, oX11 q)), ((q 17), .inr (5, [.ref (q 18), .ref (q 19), .int v_sights_size])), ((q 18), .inl (gI g, 8, .inl v_sights_rows)), ((q 19), .inl (gI g, 8, .inl v_sights_tops)), ((q 20), .inr (0, [.ref (q 21), .ref (q 22), .int out.2.2.2])), ((q 21), .inl (gI g, 24, .inl out.2.1)), ((q 22), .inl (gI g, 7, .inl out.2.2.1))] A) (cc := cX11_ask) (nL := 3) (ret := some .int) (by decide) rfl (Nat.le_of_ble_eq_true rfl) ?_
  intro p e s m below meth c ar A hC hA hP hD hG ls hl
  have hS : va_S A s.heap s.heap [] := va_S.rf
  obtain ⟨hx, hb, hml, hown, hts, hr, hlk, -⟩ := hC
  have hl : lv_has ls 3 [(0, .ref (q 0)), (1, .int x1)] := hl
  have hK := hG.1
  have iX11 : ∀ w ∈ u_ws RX11 TX11 10, w ∈ wsX11_ask := fun w h => List.mem_cons_of_mem _ (List.mem_append_left _ (List.mem_append_left _ (List.mem_append_right _ (h))))
  have iX2 : ∀ w ∈ u_ws RX2 TX2 3, w ∈ wsX11_ask := fun w h => List.mem_cons_of_mem _ (List.mem_append_left _ (List.mem_append_right _ (h)))
  generalize hQ : MQ below (Qi g out.1 [((q 0), .inr (9, oX11 q)), ((q 17), .inr (5, [.ref (q 18), .ref (q 19), .int v_sights_size])), ((q 18), .inl (gI g, 8, .inl v_sights_rows)), ((q 19), .inl (gI g, 8, .inl v_sights_tops)), ((q 20), .inr (0, [.ref (q 21), .ref (q 22), .int out.2.2.2])), ((q 21), .inl (gI g, 24, .inl out.2.1)), ((q 22), .inl (gI g, 7, .inl out.2.2.1))] A) ar s 0 0 A = QQ
  unfold f_X11_ask at hf
  refine lv_iload_n hx hb dX11_ask_0 rfl (lv_at hl 1 rfl) ?_
  refine lv_iconst (v := 0) hx hb dX11_ask_1 (by decide) ?_
  refine lv_iconst (v := 1) hx hb dX11_ask_2 (by decide) ?_
  obtain ⟨z1, hq2, hf⟩ := bnd_some hf
  refine kR_i (va_runS (As := [.int x1, .int (0 : Int32), .int (1 : Int32)]) (rest := []) ⟨hx, hb, hml, hown, hts⟩ (c_X11_isWithin l g x1 (0 : Int32) (1 : Int32) z1 hq2) (va_cwS 3 hts gX11_ask_X11_isWithin rfl rfl rfl (by decide +kernel) ⟨Nat.le_of_ble_eq_true rfl, Nat.le_of_ble_eq_true rfl⟩) (kpS_R (hG.now hS) (hP.subm (ws' := []) [] rfl)) rfl rfl hl.1 rfl (lv_room (Nat.le_of_ble_eq_true rfl)) dX11_ask_3 ⟨Nat.le_of_ble_eq_true rfl, Nat.le_of_ble_eq_true rfl⟩) ?_
  refine lv_if_ne (tgt := 12) hx hb dX11_ask_6 (by decide) (fun c3 => ?_) (fun c3 => ?_)
  · replace hf := iff_ c3 hf
    refine lv_aload_n hx hb dX11_ask_12 rfl (lv_at hl 0 rfl) ?_
    refine va_get (D := gD g) (ci := 9) (v := .ref (q 20)) (C := RX11) (T := TX11) (N := 10) hx hb hts iX11 hown hK hP 0 rfl rfl 6 (by decide) (hts (.fieldLink RX11 54 "BeetleDrive" "finder" "LBeetleDrive$Finder;") (List.mem_of_getElem? (i := 1) rfl)) (fun _ h9 => h9) rfl dX11_ask_13 ?_
    refine lv_aload_n hx hb dX11_ask_16 rfl (lv_at hl 0 rfl) ?_
    refine va_get (D := gD g) (ci := 9) (v := .ref (q 17)) (C := RX11) (T := TX11) (N := 10) hx hb hts iX11 hown hK hP 0 rfl rfl 5 (by decide) (hts (.fieldLink RX11 47 "BeetleDrive" "sights" "LBeetleDrive$Sights;") (List.mem_of_getElem? (i := 2) rfl)) (fun _ h9 => h9) rfl dX11_ask_17 ?_
    obtain ⟨z4, hq5, hf⟩ := bnd_some hf
    refine kM_v (wc := [((q 20), .inr (0, [.ref (q 21), .ref (q 22), .int v_finder_size])), ((q 21), .inl (gI g, 24, .inl v_finder_found)), ((q 17), .inr (5, [.ref (q 18), .ref (q 19), .int v_sights_size])), ((q 18), .inl (gI g, 8, .inl v_sights_rows)), ((q 19), .inl (gI g, 8, .inl v_sights_tops))]) (wr := [((q 0), .inr (9, oX11 q)), ((q 22), .inl (gI g, 7, .inl v_finder_tally))]) (w1 := [((q 20), .inr (0, [.ref (q 21), .ref (q 22), .int z4.2])), ((q 21), .inl (gI g, 24, .inl z4.1)), ((q 17), .inr (5, [.ref (q 18), .ref (q 19), .int v_sights_size])), ((q 18), .inl (gI g, 8, .inl v_sights_rows)), ((q 19), .inl (gI g, 8, .inl v_sights_tops))]) (w2 := [((q 0), .inr (9, oX11 q)), ((q 17), .inr (5, [.ref (q 18), .ref (q 19), .int v_sights_size])), ((q 18), .inl (gI g, 8, .inl v_sights_rows)), ((q 19), .inl (gI g, 8, .inl v_sights_tops)), ((q 20), .inr (0, [.ref (q 21), .ref (q 22), .int z4.2])), ((q 21), .inl (gI g, 24, .inl z4.1)), ((q 22), .inl (gI g, 7, .inl v_finder_tally))]) (va_runV (As := [.ref (q 17)]) (rest := []) ⟨hx, hb, hml, hown, hts⟩ (c_X2_search l g (q 20) (q 21) (q 22) (q 17) (q 18) (q 19) v_finder_size v_finder_found v_sights_size v_sights_rows v_sights_tops z4 hq5 s.heap.size) (cwV 1 hts gX11_ask_X2_search rfl rfl rfl (by decide +kernel) ⟨Nat.le_of_ble_eq_true rfl, Nat.le_of_ble_eq_true rfl⟩) (kpV_M (q0 := 0) (ci := 0) hG hS hP hD hA [4, 5, 1, 2, 3] rfl (by decide) rfl rfl) rfl rfl hl.1 rfl (lv_room (Nat.le_of_ble_eq_true rfl)) dX11_ask_20 ⟨Nat.le_of_ble_eq_true rfl, Nat.le_of_ble_eq_true rfl⟩) hP hD hS hA [4, 5, 1, 2, 3] [0, 6] [0, 4, 5, 6, 2, 3, 1] rfl rfl (by decide) (by decide) rfl (by decide) (fun H locs hP hD hS => ?_)
    refine lv_aload_n hx hb dX11_ask_23 rfl (lv_at hl 0 rfl) ?_
    refine va_get (D := gD g) (ci := 9) (v := .ref (q 20)) (C := RX11) (T := TX11) (N := 10) hx hb hts iX11 hown hK hP 0 rfl rfl 6 (by decide) (hts (.fieldLink RX11 54 "BeetleDrive" "finder" "LBeetleDrive$Finder;") (List.mem_of_getElem? (i := 1) rfl)) (fun _ h9 => h9) rfl dX11_ask_24 ?_
    refine va_getN (D := gD g) (ci := 0) (v := .int z4.2) (C := RX2) (T := TX2) (N := 3) hx hb hts iX2 hown hK hP 4 rfl rfl 2 (by decide) (hG.nf 17 rfl) (fun _ h9 => h9) rfl dX11_ask_27 ?_
    refine lv_if_ne (tgt := 36) hx hb dX11_ask_30 (by decide) (fun c6 => ?_) (fun c6 => ?_)
    · replace hf := iff_ c6 hf
      refine lv_aload_n hx hb dX11_ask_36 rfl (lv_at hl 0 rfl) ?_
      refine va_get (D := gD g) (ci := 9) (v := .ref (q 20)) (C := RX11) (T := TX11) (N := 10) hx hb hts iX11 hown hK hP 0 rfl rfl 6 (by decide) (hts (.fieldLink RX11 54 "BeetleDrive" "finder" "LBeetleDrive$Finder;") (List.mem_of_getElem? (i := 1) rfl)) (fun _ h9 => h9) rfl dX11_ask_37 ?_
      obtain ⟨z7, hq8, hf⟩ := bnd_some hf
      refine kM_i (wc := [((q 20), .inr (0, [.ref (q 21), .ref (q 22), .int z4.2])), ((q 21), .inl (gI g, 24, .inl z4.1)), ((q 22), .inl (gI g, 7, .inl v_finder_tally))]) (wr := [((q 0), .inr (9, oX11 q)), ((q 17), .inr (5, [.ref (q 18), .ref (q 19), .int v_sights_size])), ((q 18), .inl (gI g, 8, .inl v_sights_rows)), ((q 19), .inl (gI g, 8, .inl v_sights_tops))]) (w1 := [((q 20), .inr (0, [.ref (q 21), .ref (q 22), .int z4.2])), ((q 21), .inl (gI g, 24, .inl z4.1)), ((q 22), .inl (gI g, 7, .inl z7.2))]) (w2 := [((q 0), .inr (9, oX11 q)), ((q 17), .inr (5, [.ref (q 18), .ref (q 19), .int v_sights_size])), ((q 18), .inl (gI g, 8, .inl v_sights_rows)), ((q 19), .inl (gI g, 8, .inl v_sights_tops)), ((q 20), .inr (0, [.ref (q 21), .ref (q 22), .int z4.2])), ((q 21), .inl (gI g, 24, .inl z4.1)), ((q 22), .inl (gI g, 7, .inl z7.2))]) (va_runV (As := []) (rest := []) ⟨hx, hb, hml, hown, hts⟩ (c_X2_bestRow l g (q 20) (q 21) (q 22) z4.2 z4.1 v_finder_tally z7 hq8 H.size) (cwV 0 hts gX11_ask_X2_bestRow rfl rfl rfl (by decide +kernel) ⟨Nat.le_of_ble_eq_true rfl, Nat.le_of_ble_eq_true rfl⟩) (kpV_M (q0 := 0) (ci := 0) hG hS hP hD hA [4, 5, 6] rfl (by decide) rfl rfl) rfl rfl hl.1 rfl (lv_room (Nat.le_of_ble_eq_true rfl)) dX11_ask_40 ⟨Nat.le_of_ble_eq_true rfl, Nat.le_of_ble_eq_true rfl⟩) hP hD hS hA [4, 5, 6] [0, 1, 2, 3] [0, 1, 2, 3, 4, 5, 6] rfl rfl (by decide) (by decide) rfl (by decide) (fun H locs hP hD hS => ?_)
      refine lv_istore_n (lv' := [(2, .int z7.1), (0, .ref (q 0)), (1, .int x1)]) hx hb dX11_ask_43 rfl hl (by decide) rfl (fun ls hl => ?_)
      refine lv_iload_n hx hb dX11_ask_44 rfl (lv_at hl 2 rfl) ?_
      refine lv_if_ne (tgt := 52) hx hb dX11_ask_45 (by decide) (fun c9 => ?_) (fun c9 => ?_)
      · replace hf := iff_ c9 hf
        refine lv_aload_n hx hb dX11_ask_52 rfl (lv_at hl 1 rfl) ?_
        refine va_get (D := gD g) (ci := 9) (v := .ref (q 20)) (C := RX11) (T := TX11) (N := 10) hx hb hts iX11 hown hK hP 0 rfl rfl 6 (by decide) (hts (.fieldLink RX11 54 "BeetleDrive" "finder" "LBeetleDrive$Finder;") (List.mem_of_getElem? (i := 1) rfl)) (fun _ h9 => h9) rfl dX11_ask_53 ?_
        refine lv_iload_n hx hb dX11_ask_56 rfl (lv_at hl 0 rfl) ?_
        obtain ⟨z10, hq11, hf⟩ := bnd_some hf
        refine kM_i (wc := [((q 20), .inr (0, [.ref (q 21), .ref (q 22), .int z4.2])), ((q 21), .inl (gI g, 24, .inl z4.1)), ((q 22), .inl (gI g, 7, .inl z7.2))]) (wr := [((q 0), .inr (9, oX11 q)), ((q 17), .inr (5, [.ref (q 18), .ref (q 19), .int v_sights_size])), ((q 18), .inl (gI g, 8, .inl v_sights_rows)), ((q 19), .inl (gI g, 8, .inl v_sights_tops))]) (w1 := [((q 20), .inr (0, [.ref (q 21), .ref (q 22), .int z4.2])), ((q 21), .inl (gI g, 24, .inl z4.1)), ((q 22), .inl (gI g, 7, .inl z10.2))]) (w2 := [((q 0), .inr (9, oX11 q)), ((q 17), .inr (5, [.ref (q 18), .ref (q 19), .int v_sights_size])), ((q 18), .inl (gI g, 8, .inl v_sights_rows)), ((q 19), .inl (gI g, 8, .inl v_sights_tops)), ((q 20), .inr (0, [.ref (q 21), .ref (q 22), .int z4.2])), ((q 21), .inl (gI g, 24, .inl z4.1)), ((q 22), .inl (gI g, 7, .inl z10.2))]) (va_runV (As := [.int z7.1]) (rest := []) ⟨hx, hb, hml, hown, hts⟩ (c_X2_mostLeft l g (q 20) (q 21) (q 22) z4.2 z4.1 z7.2 z7.1 z10 hq11 H.size) (cwV 1 hts gX11_ask_X2_mostLeft rfl rfl rfl (by decide +kernel) ⟨Nat.le_of_ble_eq_true rfl, Nat.le_of_ble_eq_true rfl⟩) (kpV_M (q0 := 0) (ci := 0) hG hS hP hD hA [4, 5, 6] rfl (by decide) rfl rfl) rfl rfl hl.1 rfl (lv_room (Nat.le_of_ble_eq_true rfl)) dX11_ask_57 ⟨Nat.le_of_ble_eq_true rfl, Nat.le_of_ble_eq_true rfl⟩) hP hD hS hA [4, 5, 6] [0, 1, 2, 3] [0, 1, 2, 3, 4, 5, 6] rfl rfl (by decide) (by decide) rfl (by decide) (fun H locs hP hD hS => ?_)
        rw [← hQ, ← Option.some.inj hf]
        exact eM_i hx hb hr hlk hP hD hS rfl dX11_ask_60
      · replace hf := ift c9 hf
        refine lv_iload_n hx hb dX11_ask_48 rfl (lv_at hl 0 rfl) ?_
        refine lv_goto (tgt := 60) hx hb dX11_ask_49 (by decide) ?_
        rw [← hQ, ← Option.some.inj hf]
        exact eM_i hx hb hr hlk hP hD hS rfl dX11_ask_60
    · replace hf := ift c6 hf
      refine lv_bipush (v := -6) hx hb dX11_ask_33 (by decide) ?_
      rw [← hQ, ← Option.some.inj hf]
      exact eM_i hx hb hr hlk hP hD hS rfl dX11_ask_35
  · replace hf := ift c3 hf
    refine lv_bipush (v := -2) hx hb dX11_ask_9 (by decide) ?_
    rw [← hQ, ← Option.some.inj hf]
    exact eM_i hx hb hr hlk hP hD hS rfl dX11_ask_11
set_option maxHeartbeats 4000000 in
set_option maxRecDepth 100000 in
theorem c_X11_turn (l : Launch) (g : bG) (q : Nat → Nat) (v_turns_wins : Nat → Int32) (x1 : Int32) (x2 : Int32) (x3 : Int32) (out : Int32) (hf : f_X11_turn v_turns_wins x1 x2 x3 = some out) : Ri l g yX11_turn wsX11_turn ({ frames := 1, cells := 0, slots := 0, locals := 24 } : Room) [.ref (q 0), .int x1, .int x2, .int x3] [((q 0), .inr (9, oX11 q)), ((q 23), .inr (8, [.ref (q 24)])), ((q 24), .inl (gI g, 100, .inl v_turns_wins))] out := by
  refine ofR (cc := cX11_turn) (nL := 5) (ret := some .int) (by decide) rfl (Nat.le_of_ble_eq_true rfl) ?_
  intro p e s m below meth c ar hC hP hG ls hl
  have hS : va_S (fun _ => False) s.heap s.heap [] := va_S.rf
  obtain ⟨hx, hb, hml, hown, hts, hr, hlk, -⟩ := hC
  have hl : lv_has ls 5 [(0, .ref (q 0)), (1, .int x1), (2, .int x2), (3, .int x3)] := hl
  have hK := hG.1
  have iX11 : ∀ w ∈ u_ws RX11 TX11 10, w ∈ wsX11_turn := fun w h => List.mem_cons_of_mem _ (List.mem_append_left _ (List.mem_append_right _ (h)))
  generalize hQ : MQ below (vp_Si (fun x => x = out)) ar s 0 0 (fun _ => False) = QQ
  unfold f_X11_turn at hf
  refine lv_iload_n hx hb dX11_turn_0 rfl (lv_at hl 1 rfl) ?_
  refine lv_iconst (v := 0) hx hb dX11_turn_1 (by decide) ?_
  refine lv_bipush (v := 99) hx hb dX11_turn_2 (by decide) ?_
  obtain ⟨z1, hq2, hf⟩ := bnd_some hf
  refine kR_i (va_runS (As := [.int x1, .int (0 : Int32), .int (99 : Int32)]) (rest := []) ⟨hx, hb, hml, hown, hts⟩ (c_X11_isWithin l g x1 (0 : Int32) (99 : Int32) z1 hq2) (va_cwS 3 hts gX11_turn_X11_isWithin rfl rfl rfl (by decide +kernel) ⟨Nat.le_of_ble_eq_true rfl, Nat.le_of_ble_eq_true rfl⟩) (kpS_R hG (hP.subm (ws' := []) [] rfl)) rfl rfl hl.1 rfl (lv_room (Nat.le_of_ble_eq_true rfl)) dX11_turn_4 ⟨Nat.le_of_ble_eq_true rfl, Nat.le_of_ble_eq_true rfl⟩) ?_
  refine lv_if_eq (tgt := 29) hx hb dX11_turn_7 (by decide) (fun c3 => ?_) (fun c3 => ?_)
  · replace hf := ift c3 hf
    refine lv_bipush (v := -2) hx hb dX11_turn_29 (by decide) ?_
    rw [← hQ, ← Option.some.inj hf]
    exact eR_i hx hb hr hlk rfl dX11_turn_31
  · replace hf := iff_ c3 hf
    refine lv_iload_n hx hb dX11_turn_10 rfl (lv_at hl 2 rfl) ?_
    refine lv_iconst (v := 1) hx hb dX11_turn_11 (by decide) ?_
    refine lv_bipush (v := 6) hx hb dX11_turn_12 (by decide) ?_
    obtain ⟨z4, hq5, hf⟩ := bnd_some hf
    refine kR_i (va_runS (As := [.int x2, .int (1 : Int32), .int (6 : Int32)]) (rest := []) ⟨hx, hb, hml, hown, hts⟩ (c_X11_isWithin l g x2 (1 : Int32) (6 : Int32) z4 hq5) (va_cwS 3 hts gX11_turn_X11_isWithin rfl rfl rfl (by decide +kernel) ⟨Nat.le_of_ble_eq_true rfl, Nat.le_of_ble_eq_true rfl⟩) (kpS_R hG (hP.subm (ws' := []) [] rfl)) rfl rfl hl.1 rfl (lv_room (Nat.le_of_ble_eq_true rfl)) dX11_turn_14 ⟨Nat.le_of_ble_eq_true rfl, Nat.le_of_ble_eq_true rfl⟩) ?_
    refine lv_if_eq (tgt := 29) hx hb dX11_turn_17 (by decide) (fun c6 => ?_) (fun c6 => ?_)
    · replace hf := ift c6 hf
      refine lv_bipush (v := -2) hx hb dX11_turn_29 (by decide) ?_
      rw [← hQ, ← Option.some.inj hf]
      exact eR_i hx hb hr hlk rfl dX11_turn_31
    · replace hf := iff_ c6 hf
      refine lv_iload_n hx hb dX11_turn_20 rfl (lv_at hl 3 rfl) ?_
      refine lv_iconst (v := 0) hx hb dX11_turn_21 (by decide) ?_
      refine lv_iconst (v := 1) hx hb dX11_turn_22 (by decide) ?_
      obtain ⟨z7, hq8, hf⟩ := bnd_some hf
      refine kR_i (va_runS (As := [.int x3, .int (0 : Int32), .int (1 : Int32)]) (rest := []) ⟨hx, hb, hml, hown, hts⟩ (c_X11_isWithin l g x3 (0 : Int32) (1 : Int32) z7 hq8) (va_cwS 3 hts gX11_turn_X11_isWithin rfl rfl rfl (by decide +kernel) ⟨Nat.le_of_ble_eq_true rfl, Nat.le_of_ble_eq_true rfl⟩) (kpS_R hG (hP.subm (ws' := []) [] rfl)) rfl rfl hl.1 rfl (lv_room (Nat.le_of_ble_eq_true rfl)) dX11_turn_23 ⟨Nat.le_of_ble_eq_true rfl, Nat.le_of_ble_eq_true rfl⟩) ?_
      refine lv_if_ne (tgt := 32) hx hb dX11_turn_26 (by decide) (fun c9 => ?_) (fun c9 => ?_)
      · replace hf := iff_ c9 hf
        refine lv_aload_n hx hb dX11_turn_32 rfl (lv_at hl 0 rfl) ?_
        refine va_get (D := gD g) (ci := 9) (v := .ref (q 23)) (C := RX11) (T := TX11) (N := 10) hx hb hts iX11 hown hK hP 0 rfl rfl 7 (by decide) (hts (.fieldLink RX11 61 "BeetleDrive" "turns" "LBeetleDrive$Turns;") (List.mem_of_getElem? (i := 1) rfl)) (fun _ h9 => h9) rfl dX11_turn_33 ?_
        refine lv_iload_n hx hb dX11_turn_36 rfl (lv_at hl 1 rfl) ?_
        refine lv_iload_n hx hb dX11_turn_37 rfl (lv_at hl 2 rfl) ?_
        obtain ⟨z10, hq11, hf⟩ := bnd_some hf
        refine kR_i (va_runV (As := [.int x1, .int x2]) (rest := []) ⟨hx, hb, hml, hown, hts⟩ (c_X10_winningTurn l g (q 23) (q 24) v_turns_wins x1 x2 z10 hq11) (cwV 2 hts gX11_turn_X10_winningTurn rfl rfl rfl (by decide +kernel) ⟨Nat.le_of_ble_eq_true rfl, Nat.le_of_ble_eq_true rfl⟩) (kpV_R (q0 := 0) (ci := 8) hG (hP.subm (ws' := [((q 23), .inr (8, [.ref (q 24)])), ((q 24), .inl (gI g, 100, .inl v_turns_wins))]) [1, 2] rfl) rfl rfl) rfl rfl hl.1 rfl (lv_room (Nat.le_of_ble_eq_true rfl)) dX11_turn_38 ⟨Nat.le_of_ble_eq_true rfl, Nat.le_of_ble_eq_true rfl⟩) ?_
        refine lv_istore (lv' := [(4, .int z10), (0, .ref (q 0)), (1, .int x1), (2, .int x2), (3, .int x3)]) hx hb dX11_turn_41 hl (by decide) rfl (fun ls hl => ?_)
        refine lv_iload_n hx hb dX11_turn_43 rfl (lv_at hl 4 rfl) ?_
        refine lv_iconst (v := 1) hx hb dX11_turn_44 (by decide) ?_
        refine lv_icmp_ne (tgt := 51) hx hb dX11_turn_45 (by decide) (fun c12 => ?_) (fun c12 => ?_)
        · replace hf := iff_ c12 hf
          refine lv_iload hx hb dX11_turn_51 (lv_at hl 0 rfl) ?_
          refine lv_bipush (v := -6) hx hb dX11_turn_53 (by decide) ?_
          refine lv_icmp_ne (tgt := 62) hx hb dX11_turn_55 (by decide) (fun c13 => ?_) (fun c13 => ?_)
          · replace hf := iff_ c13 hf
            refine lv_iconst (v := 1) hx hb dX11_turn_62 (by decide) ?_
            rw [← hQ, ← Option.some.inj hf]
            exact eR_i hx hb hr hlk rfl dX11_turn_63
          · replace hf := ift c13 hf
            refine lv_iconst (v := 0) hx hb dX11_turn_58 (by decide) ?_
            refine lv_goto (tgt := 63) hx hb dX11_turn_59 (by decide) ?_
            rw [← hQ, ← Option.some.inj hf]
            exact eR_i hx hb hr hlk rfl dX11_turn_63
        · replace hf := ift c12 hf
          refine lv_iload hx hb dX11_turn_48 (lv_at hl 0 rfl) ?_
          rw [← hQ, ← Option.some.inj hf]
          exact eR_i hx hb hr hlk rfl dX11_turn_50
      · replace hf := ift c9 hf
        refine lv_bipush (v := -2) hx hb dX11_turn_29 (by decide) ?_
        rw [← hQ, ← Option.some.inj hf]
        exact eR_i hx hb hr hlk rfl dX11_turn_31
set_option maxHeartbeats 4000000 in
set_option maxRecDepth 100000 in
theorem c_X11_year (l : Launch) (g : bG) (q : Nat → Nat) (v_now_inBits : Int32) (v_now_holder : Int32) (v_now_game : Int32) (v_now_drawn : Nat → Int32) (v_now_points : Nat → Int32) (v_match_acts : Int32) (v_match_why : Int32) (v_match_vain : Int32) (v_match_wholeAct : Int32) (v_match_wholeWho : Int32) (v_match_table_inBits : Int32) (v_match_table_holder : Int32) (v_match_table_game : Int32) (v_match_table_drawn : Nat → Int32) (v_match_table_points : Nat → Int32) (x1 : Int32) (x2 : Int32) (x3 : Int32) (out : Int32 × (Nat → Int32) × (Nat → Int32) × Int32 × Int32 × Int32 × Int32 × Int32 × Int32 × Int32 × Int32) (hf : f_X11_year v_now_drawn v_now_points v_now_inBits v_now_holder v_now_game v_match_table_drawn v_match_table_points v_match_table_inBits v_match_table_holder v_match_table_game v_match_acts v_match_why v_match_vain v_match_wholeAct v_match_wholeWho x1 x2 x3 = some out) : Mi l g yX11_year wsX11_year ({ frames := 6, cells := 0, slots := 0, locals := 135 } : Room) [.ref (q 0), .int x1, .int x2, .int x3] [((q 0), .inr (9, oX11 q)), ((q 1), .inr (7, [.ref (q 2), .ref (q 3), .int v_now_inBits, .int v_now_holder, .int v_now_game])), ((q 2), .inl (gI g, 6, .inl v_now_drawn)), ((q 3), .inl (gI g, 6, .inl v_now_points)), ((q 6), .inr (2, [.ref (q 7), .int v_match_acts, .int v_match_why, .int v_match_vain, .int v_match_wholeAct, .int v_match_wholeWho])), ((q 7), .inr (7, [.ref (q 8), .ref (q 9), .int v_match_table_inBits, .int v_match_table_holder, .int v_match_table_game])), ((q 8), .inl (gI g, 6, .inl v_match_table_drawn)), ((q 9), .inl (gI g, 6, .inl v_match_table_points))] out.1 [((q 0), .inr (9, oX11 q)), ((q 1), .inr (7, [.ref (q 2), .ref (q 3), .int v_now_inBits, .int v_now_holder, .int v_now_game])), ((q 2), .inl (gI g, 6, .inl v_now_drawn)), ((q 3), .inl (gI g, 6, .inl v_now_points)), ((q 6), .inr (2, [.ref (q 7), .int out.2.2.2.2.2.2.1, .int out.2.2.2.2.2.2.2.1, .int out.2.2.2.2.2.2.2.2.1, .int out.2.2.2.2.2.2.2.2.2.1, .int out.2.2.2.2.2.2.2.2.2.2])), ((q 7), .inr (7, [.ref (q 8), .ref (q 9), .int out.2.2.2.1, .int out.2.2.2.2.1, .int out.2.2.2.2.2.1])), ((q 8), .inl (gI g, 6, .inl out.2.1)), ((q 9), .inl (gI g, 6, .inl out.2.2.1))] := by
  refine ofM (Qc := fun A => Qi g out.1 [((q 0), .inr (9, oX11 q)), ((q 1), .inr (7, [.ref (q 2), .ref (q 3), .int v_now_inBits, .int v_now_holder, .int v_now_game])), ((q 2), .inl (gI g, 6, .inl v_now_drawn)), ((q 3), .inl (gI g, 6, .inl v_now_points)), ((q 6), .inr (2, [.ref (q 7), .int out.2.2.2.2.2.2.1, .int out.2.2.2.2.2.2.2.1, .int out.2.2.2.2.2.2.2.2.1, .int out.2.2.2.2.2.2.2.2.2.1, .int out.2.2.2.2.2.2.2.2.2.2])), ((q 7), .inr (7, [.ref (q 8), .ref (q 9), .int out.2.2.2.1, .int out.2.2.2.2.1, .int out.2.2.2.2.2.1])), ((q 8), .inl (gI g, 6, .inl out.2.1)), ((q 9), .inl (gI g, 6, .inl out.2.2.1))] A) (cc := cX11_year) (nL := 4) (ret := some .int) (by decide) rfl (Nat.le_of_ble_eq_true rfl) ?_
  intro p e s m below meth c ar A hC hA hP hD hG ls hl
  have hS : va_S A s.heap s.heap [] := va_S.rf
  obtain ⟨hx, hb, hml, hown, hts, hr, hlk, -⟩ := hC
  have hl : lv_has ls 4 [(0, .ref (q 0)), (1, .int x1), (2, .int x2), (3, .int x3)] := hl
  have hK := hG.1
  have iX11 : ∀ w ∈ u_ws RX11 TX11 10, w ∈ wsX11_year := fun w h => List.mem_cons_of_mem _ (List.mem_append_left _ (List.mem_append_left _ (List.mem_append_right _ (h))))
  have iX4 : ∀ w ∈ u_ws RX4 TX4 6, w ∈ wsX11_year := fun w h => List.mem_cons_of_mem _ (List.mem_append_left _ (List.mem_append_right _ (h)))
  have iX9 : ∀ w ∈ u_ws RX9 TX9 5, w ∈ wsX11_year := fun w h => List.mem_cons_of_mem _ (List.mem_append_right _ (h))
  generalize hQ : MQ below (Qi g out.1 [((q 0), .inr (9, oX11 q)), ((q 1), .inr (7, [.ref (q 2), .ref (q 3), .int v_now_inBits, .int v_now_holder, .int v_now_game])), ((q 2), .inl (gI g, 6, .inl v_now_drawn)), ((q 3), .inl (gI g, 6, .inl v_now_points)), ((q 6), .inr (2, [.ref (q 7), .int out.2.2.2.2.2.2.1, .int out.2.2.2.2.2.2.2.1, .int out.2.2.2.2.2.2.2.2.1, .int out.2.2.2.2.2.2.2.2.2.1, .int out.2.2.2.2.2.2.2.2.2.2])), ((q 7), .inr (7, [.ref (q 8), .ref (q 9), .int out.2.2.2.1, .int out.2.2.2.2.1, .int out.2.2.2.2.2.1])), ((q 8), .inl (gI g, 6, .inl out.2.1)), ((q 9), .inl (gI g, 6, .inl out.2.2.1))] A) ar s 0 0 A = QQ
  unfold f_X11_year at hf
  refine lv_iload_n hx hb dX11_year_0 rfl (lv_at hl 1 rfl) ?_
  refine lv_iconst (v := 0) hx hb dX11_year_1 (by decide) ?_
  refine lv_sipush (v := 9999) hx hb dX11_year_2 (by decide) ?_
  obtain ⟨z1, hq2, hf⟩ := bnd_some hf
  refine kR_i (va_runS (As := [.int x1, .int (0 : Int32), .int (9999 : Int32)]) (rest := []) ⟨hx, hb, hml, hown, hts⟩ (c_X11_isWithin l g x1 (0 : Int32) (9999 : Int32) z1 hq2) (va_cwS 3 hts gX11_year_X11_isWithin rfl rfl rfl (by decide +kernel) ⟨Nat.le_of_ble_eq_true rfl, Nat.le_of_ble_eq_true rfl⟩) (kpS_R (hG.now hS) (hP.subm (ws' := []) [] rfl)) rfl rfl hl.1 rfl (lv_room (Nat.le_of_ble_eq_true rfl)) dX11_year_5 ⟨Nat.le_of_ble_eq_true rfl, Nat.le_of_ble_eq_true rfl⟩) ?_
  refine lv_if_eq (tgt := 30) hx hb dX11_year_8 (by decide) (fun c3 => ?_) (fun c3 => ?_)
  · replace hf := ift c3 hf
    refine lv_bipush (v := -2) hx hb dX11_year_30 (by decide) ?_
    rw [← hQ, ← Option.some.inj hf]
    exact eM_i hx hb hr hlk hP hD hS rfl dX11_year_32
  · replace hf := iff_ c3 hf
    refine lv_iload_n hx hb dX11_year_11 rfl (lv_at hl 2 rfl) ?_
    refine lv_iconst (v := 1) hx hb dX11_year_12 (by decide) ?_
    refine lv_bipush (v := 99) hx hb dX11_year_13 (by decide) ?_
    obtain ⟨z4, hq5, hf⟩ := bnd_some hf
    refine kR_i (va_runS (As := [.int x2, .int (1 : Int32), .int (99 : Int32)]) (rest := []) ⟨hx, hb, hml, hown, hts⟩ (c_X11_isWithin l g x2 (1 : Int32) (99 : Int32) z4 hq5) (va_cwS 3 hts gX11_year_X11_isWithin rfl rfl rfl (by decide +kernel) ⟨Nat.le_of_ble_eq_true rfl, Nat.le_of_ble_eq_true rfl⟩) (kpS_R (hG.now hS) (hP.subm (ws' := []) [] rfl)) rfl rfl hl.1 rfl (lv_room (Nat.le_of_ble_eq_true rfl)) dX11_year_15 ⟨Nat.le_of_ble_eq_true rfl, Nat.le_of_ble_eq_true rfl⟩) ?_
    refine lv_if_eq (tgt := 30) hx hb dX11_year_18 (by decide) (fun c6 => ?_) (fun c6 => ?_)
    · replace hf := ift c6 hf
      refine lv_bipush (v := -2) hx hb dX11_year_30 (by decide) ?_
      rw [← hQ, ← Option.some.inj hf]
      exact eM_i hx hb hr hlk hP hD hS rfl dX11_year_32
    · replace hf := iff_ c6 hf
      refine lv_iload_n hx hb dX11_year_21 rfl (lv_at hl 3 rfl) ?_
      refine lv_iconst (v := 0) hx hb dX11_year_22 (by decide) ?_
      refine lv_iconst (v := 2) hx hb dX11_year_23 (by decide) ?_
      obtain ⟨z7, hq8, hf⟩ := bnd_some hf
      refine kR_i (va_runS (As := [.int x3, .int (0 : Int32), .int (2 : Int32)]) (rest := []) ⟨hx, hb, hml, hown, hts⟩ (c_X11_isWithin l g x3 (0 : Int32) (2 : Int32) z7 hq8) (va_cwS 3 hts gX11_year_X11_isWithin rfl rfl rfl (by decide +kernel) ⟨Nat.le_of_ble_eq_true rfl, Nat.le_of_ble_eq_true rfl⟩) (kpS_R (hG.now hS) (hP.subm (ws' := []) [] rfl)) rfl rfl hl.1 rfl (lv_room (Nat.le_of_ble_eq_true rfl)) dX11_year_24 ⟨Nat.le_of_ble_eq_true rfl, Nat.le_of_ble_eq_true rfl⟩) ?_
      refine lv_if_ne (tgt := 33) hx hb dX11_year_27 (by decide) (fun c9 => ?_) (fun c9 => ?_)
      · replace hf := iff_ c9 hf
        refine lv_aload_n hx hb dX11_year_33 rfl (lv_at hl 0 rfl) ?_
        refine va_get (D := gD g) (ci := 9) (v := .ref (q 6)) (C := RX11) (T := TX11) (N := 10) hx hb hts iX11 hown hK hP 0 rfl rfl 2 (by decide) (hts (.fieldLink RX11 26 "BeetleDrive" "match" "LBeetleDrive$Match;") (List.mem_of_getElem? (i := 1) rfl)) (fun _ h9 => h9) rfl dX11_year_34 ?_
        refine lv_iload_n hx hb dX11_year_37 rfl (lv_at hl 1 rfl) ?_
        refine lv_iload_n hx hb dX11_year_38 rfl (lv_at hl 2 rfl) ?_
        refine lv_aload_n hx hb dX11_year_39 rfl (lv_at hl 0 rfl) ?_
        refine va_get (D := gD g) (ci := 9) (v := .ref (q 1)) (C := RX11) (T := TX11) (N := 10) hx hb hts iX11 hown hK hP 0 rfl rfl 0 (by decide) (hts (.fieldLink RX11 10 "BeetleDrive" "now" "LBeetleDrive$Table;") (List.mem_of_getElem? (i := 2) rfl)) (fun _ h9 => h9) rfl dX11_year_40 ?_
        obtain ⟨z10, hq11, hf⟩ := bnd_some hf
        refine kM_v (wc := [((q 6), .inr (2, [.ref (q 7), .int v_match_acts, .int v_match_why, .int v_match_vain, .int v_match_wholeAct, .int v_match_wholeWho])), ((q 7), .inr (7, [.ref (q 8), .ref (q 9), .int v_match_table_inBits, .int v_match_table_holder, .int v_match_table_game])), ((q 8), .inl (gI g, 6, .inl v_match_table_drawn)), ((q 9), .inl (gI g, 6, .inl v_match_table_points)), ((q 1), .inr (7, [.ref (q 2), .ref (q 3), .int v_now_inBits, .int v_now_holder, .int v_now_game])), ((q 2), .inl (gI g, 6, .inl v_now_drawn)), ((q 3), .inl (gI g, 6, .inl v_now_points))]) (wr := [((q 0), .inr (9, oX11 q))]) (w1 := [((q 6), .inr (2, [.ref (q 7), .int z10.2.2.2.2.2.1, .int z10.2.2.2.2.2.2.1, .int z10.2.2.2.2.2.2.2.1, .int z10.2.2.2.2.2.2.2.2.1, .int z10.2.2.2.2.2.2.2.2.2])), ((q 7), .inr (7, [.ref (q 8), .ref (q 9), .int z10.2.2.1, .int z10.2.2.2.1, .int z10.2.2.2.2.1])), ((q 8), .inl (gI g, 6, .inl z10.1)), ((q 9), .inl (gI g, 6, .inl z10.2.1)), ((q 1), .inr (7, [.ref (q 2), .ref (q 3), .int v_now_inBits, .int v_now_holder, .int v_now_game])), ((q 2), .inl (gI g, 6, .inl v_now_drawn)), ((q 3), .inl (gI g, 6, .inl v_now_points))]) (w2 := [((q 0), .inr (9, oX11 q)), ((q 1), .inr (7, [.ref (q 2), .ref (q 3), .int v_now_inBits, .int v_now_holder, .int v_now_game])), ((q 2), .inl (gI g, 6, .inl v_now_drawn)), ((q 3), .inl (gI g, 6, .inl v_now_points)), ((q 6), .inr (2, [.ref (q 7), .int z10.2.2.2.2.2.1, .int z10.2.2.2.2.2.2.1, .int z10.2.2.2.2.2.2.2.1, .int z10.2.2.2.2.2.2.2.2.1, .int z10.2.2.2.2.2.2.2.2.2])), ((q 7), .inr (7, [.ref (q 8), .ref (q 9), .int z10.2.2.1, .int z10.2.2.2.1, .int z10.2.2.2.2.1])), ((q 8), .inl (gI g, 6, .inl z10.1)), ((q 9), .inl (gI g, 6, .inl z10.2.1))]) (va_runV (As := [.int x1, .int x2, .ref (q 1)]) (rest := []) ⟨hx, hb, hml, hown, hts⟩ (c_X4_playYear l g (q 6) (q 7) (q 8) (q 9) (q 1) (q 2) (q 3) v_match_acts v_match_why v_match_vain v_match_wholeAct v_match_wholeWho v_match_table_inBits v_match_table_holder v_match_table_game v_match_table_drawn v_match_table_points v_now_inBits v_now_holder v_now_game v_now_drawn v_now_points x1 x2 z10 hq11 s.heap.size) (cwV 3 hts gX11_year_X4_playYear rfl rfl rfl (by decide +kernel) ⟨Nat.le_of_ble_eq_true rfl, Nat.le_of_ble_eq_true rfl⟩) (kpV_M (q0 := 0) (ci := 2) hG hS hP hD hA [4, 5, 6, 7, 1, 2, 3] rfl (by decide) rfl rfl) rfl rfl hl.1 rfl (lv_room (Nat.le_of_ble_eq_true rfl)) dX11_year_43 ⟨Nat.le_of_ble_eq_true rfl, Nat.le_of_ble_eq_true rfl⟩) hP hD hS hA [4, 5, 6, 7, 1, 2, 3] [0] [0, 5, 6, 7, 1, 2, 3, 4] rfl rfl (by decide) (by decide) rfl (by decide) (fun H locs hP hD hS => ?_)
        refine lv_iload_n hx hb dX11_year_46 rfl (lv_at hl 3 rfl) ?_
        by_cases c12 : x3 = 0
        · replace hf := ift c12 hf
          refine lv_lookup (off := 25) (tgt := 72) hx hb dX11_year_47 (by decide) (by rw [c12]; rfl) (by decide) ?_
          refine lv_aload_n hx hb dX11_year_72 rfl (lv_at hl 0 rfl) ?_
          refine va_get (D := gD g) (ci := 9) (v := .ref (q 6)) (C := RX11) (T := TX11) (N := 10) hx hb hts iX11 hown hK hP 0 rfl rfl 2 (by decide) (hts (.fieldLink RX11 26 "BeetleDrive" "match" "LBeetleDrive$Match;") (List.mem_of_getElem? (i := 1) rfl)) (fun _ h9 => h9) rfl dX11_year_73 ?_
          refine va_getN (D := gD g) (ci := 2) (v := .ref (q 7)) (C := RX4) (T := TX4) (N := 6) hx hb hts iX4 hown hK hP 4 rfl rfl 0 (by decide) (hG.nf 8 rfl) (fun _ h9 => h9) rfl dX11_year_76 ?_
          refine va_getN (D := gD g) (ci := 7) (v := .int z10.2.2.2.1) (C := RX9) (T := TX9) (N := 5) hx hb hts iX9 hown hK hP 5 rfl rfl 3 (by decide) (hG.nf 2 rfl) (fun _ h9 => h9) rfl dX11_year_79 ?_
          rw [← hQ, ← Option.some.inj hf]
          exact eM_i hx hb hr hlk hP hD hS rfl dX11_year_82
        · replace hf := iff_ c12 hf
          by_cases c13 : x3 = 1
          · replace hf := ift c13 hf
            refine lv_lookup (off := 36) (tgt := 83) hx hb dX11_year_47 (by decide) (by rw [c13]; rfl) (by decide) ?_
            refine lv_aload_n hx hb dX11_year_83 rfl (lv_at hl 0 rfl) ?_
            refine va_get (D := gD g) (ci := 9) (v := .ref (q 6)) (C := RX11) (T := TX11) (N := 10) hx hb hts iX11 hown hK hP 0 rfl rfl 2 (by decide) (hts (.fieldLink RX11 26 "BeetleDrive" "match" "LBeetleDrive$Match;") (List.mem_of_getElem? (i := 1) rfl)) (fun _ h9 => h9) rfl dX11_year_84 ?_
            refine va_getN (D := gD g) (ci := 2) (v := .ref (q 7)) (C := RX4) (T := TX4) (N := 6) hx hb hts iX4 hown hK hP 4 rfl rfl 0 (by decide) (hG.nf 8 rfl) (fun _ h9 => h9) rfl dX11_year_87 ?_
            obtain ⟨z14, hq15, hf⟩ := bnd_some hf
            refine kR_i (va_runV (As := []) (rest := []) ⟨hx, hb, hml, hown, hts⟩ (c_X9_allParts l g (q 7) (q 8) (q 9) z10.2.2.1 z10.2.2.2.1 z10.2.2.2.2.1 z10.1 z14 hq15) (cwV 0 hts gX11_year_X9_allParts rfl rfl rfl (by decide +kernel) ⟨Nat.le_of_ble_eq_true rfl, Nat.le_of_ble_eq_true rfl⟩) (kpV_R (q0 := 0) (ci := 7) (hG.now hS) (hP.subm (ws' := [((q 7), .inr (7, [.ref (q 8), .ref (q 9), .int z10.2.2.1, .int z10.2.2.2.1, .int z10.2.2.2.2.1])), ((q 8), .inl (gI g, 6, .inl z10.1))]) [5, 6] rfl) rfl rfl) rfl rfl hl.1 rfl (lv_room (Nat.le_of_ble_eq_true rfl)) dX11_year_90 ⟨Nat.le_of_ble_eq_true rfl, Nat.le_of_ble_eq_true rfl⟩) ?_
            rw [← hQ, ← Option.some.inj hf]
            exact eM_i hx hb hr hlk hP hD hS rfl dX11_year_93
          · replace hf := iff_ c13 hf
            refine lv_lookup (off := 47) (tgt := 94) hx hb dX11_year_47 (by decide) (by show Op.lookupswitch.offset [(0, 25), (1, 36)] 47 _ = _; rw [lv_osw c12 (by decide)]; rw [lv_osw c13 (by decide)]; rfl) (by decide) ?_
            refine lv_aload_n hx hb dX11_year_94 rfl (lv_at hl 0 rfl) ?_
            refine va_get (D := gD g) (ci := 9) (v := .ref (q 6)) (C := RX11) (T := TX11) (N := 10) hx hb hts iX11 hown hK hP 0 rfl rfl 2 (by decide) (hts (.fieldLink RX11 26 "BeetleDrive" "match" "LBeetleDrive$Match;") (List.mem_of_getElem? (i := 1) rfl)) (fun _ h9 => h9) rfl dX11_year_95 ?_
            refine va_getN (D := gD g) (ci := 2) (v := .ref (q 7)) (C := RX4) (T := TX4) (N := 6) hx hb hts iX4 hown hK hP 4 rfl rfl 0 (by decide) (hG.nf 8 rfl) (fun _ h9 => h9) rfl dX11_year_98 ?_
            refine va_getN (D := gD g) (ci := 7) (v := .ref (q 9)) (C := RX9) (T := TX9) (N := 5) hx hb hts iX9 hown hK hP 5 rfl rfl 1 (by decide) (hG.nf 1 rfl) (fun _ h9 => h9) rfl dX11_year_101 ?_
            refine lv_iconst (v := 0) hx hb dX11_year_104 (by decide) ?_
            obtain ⟨hi16, hf⟩ := chk_some hf
            refine va_iald hx hb hK hP 7 0 rfl rfl hi16 dX11_year_105 ?_
            rw [← hQ, ← Option.some.inj hf]
            exact eM_i hx hb hr hlk hP hD hS rfl dX11_year_106
      · replace hf := ift c9 hf
        refine lv_bipush (v := -2) hx hb dX11_year_30 (by decide) ?_
        rw [← hQ, ← Option.some.inj hf]
        exact eM_i hx hb hr hlk hP hD hS rfl dX11_year_32
set_option maxHeartbeats 4000000 in
set_option maxRecDepth 100000 in
theorem c_X11_image (l : Launch) (g : bG) (q : Nat → Nat) (v_now_inBits : Int32) (v_now_holder : Int32) (v_now_game : Int32) (v_now_drawn : Nat → Int32) (v_now_points : Nat → Int32) (v_sights_size : Int32) (v_sights_rows : Nat → Int32) (v_sights_tops : Nat → Int32) (v_imageZero_isKept : Int32) (v_imageZero_table_inBits : Int32) (v_imageZero_table_holder : Int32) (v_imageZero_table_game : Int32) (v_imageZero_table_drawn : Nat → Int32) (v_imageZero_table_points : Nat → Int32) (v_imageZero_sights_size : Int32) (v_imageZero_sights_rows : Nat → Int32) (v_imageZero_sights_tops : Nat → Int32) (v_imageOne_isKept : Int32) (v_imageOne_table_inBits : Int32) (v_imageOne_table_holder : Int32) (v_imageOne_table_game : Int32) (v_imageOne_table_drawn : Nat → Int32) (v_imageOne_table_points : Nat → Int32) (v_imageOne_sights_size : Int32) (v_imageOne_sights_rows : Nat → Int32) (v_imageOne_sights_tops : Nat → Int32) (x1 : Int32) (out : Int32 × (Nat → Int32) × (Nat → Int32) × Int32 × Int32 × Int32 × (Nat → Int32) × (Nat → Int32) × Int32 × Int32 × (Nat → Int32) × (Nat → Int32) × Int32 × Int32 × Int32 × (Nat → Int32) × (Nat → Int32) × Int32 × Int32) (hf : f_X11_image v_now_drawn v_now_points v_now_inBits v_now_holder v_now_game v_sights_rows v_sights_tops v_sights_size v_imageZero_table_drawn v_imageZero_table_points v_imageZero_table_inBits v_imageZero_table_holder v_imageZero_table_game v_imageZero_sights_rows v_imageZero_sights_tops v_imageZero_sights_size v_imageZero_isKept v_imageOne_table_drawn v_imageOne_table_points v_imageOne_table_inBits v_imageOne_table_holder v_imageOne_table_game v_imageOne_sights_rows v_imageOne_sights_tops v_imageOne_sights_size v_imageOne_isKept x1 = some out) : Mi l g yX11_image wsX11_image ({ frames := 2, cells := 0, slots := 0, locals := 44 } : Room) [.ref (q 0), .int x1] [((q 0), .inr (9, oX11 q)), ((q 1), .inr (7, [.ref (q 2), .ref (q 3), .int v_now_inBits, .int v_now_holder, .int v_now_game])), ((q 2), .inl (gI g, 6, .inl v_now_drawn)), ((q 3), .inl (gI g, 6, .inl v_now_points)), ((q 17), .inr (5, [.ref (q 18), .ref (q 19), .int v_sights_size])), ((q 18), .inl (gI g, 8, .inl v_sights_rows)), ((q 19), .inl (gI g, 8, .inl v_sights_tops)), ((q 25), .inr (1, [.ref (q 26), .ref (q 29), .int v_imageZero_isKept])), ((q 26), .inr (7, [.ref (q 27), .ref (q 28), .int v_imageZero_table_inBits, .int v_imageZero_table_holder, .int v_imageZero_table_game])), ((q 27), .inl (gI g, 6, .inl v_imageZero_table_drawn)), ((q 28), .inl (gI g, 6, .inl v_imageZero_table_points)), ((q 29), .inr (5, [.ref (q 30), .ref (q 31), .int v_imageZero_sights_size])), ((q 30), .inl (gI g, 8, .inl v_imageZero_sights_rows)), ((q 31), .inl (gI g, 8, .inl v_imageZero_sights_tops)), ((q 32), .inr (1, [.ref (q 33), .ref (q 36), .int v_imageOne_isKept])), ((q 33), .inr (7, [.ref (q 34), .ref (q 35), .int v_imageOne_table_inBits, .int v_imageOne_table_holder, .int v_imageOne_table_game])), ((q 34), .inl (gI g, 6, .inl v_imageOne_table_drawn)), ((q 35), .inl (gI g, 6, .inl v_imageOne_table_points)), ((q 36), .inr (5, [.ref (q 37), .ref (q 38), .int v_imageOne_sights_size])), ((q 37), .inl (gI g, 8, .inl v_imageOne_sights_rows)), ((q 38), .inl (gI g, 8, .inl v_imageOne_sights_tops))] out.1 [((q 0), .inr (9, oX11 q)), ((q 1), .inr (7, [.ref (q 2), .ref (q 3), .int v_now_inBits, .int v_now_holder, .int v_now_game])), ((q 2), .inl (gI g, 6, .inl v_now_drawn)), ((q 3), .inl (gI g, 6, .inl v_now_points)), ((q 17), .inr (5, [.ref (q 18), .ref (q 19), .int v_sights_size])), ((q 18), .inl (gI g, 8, .inl v_sights_rows)), ((q 19), .inl (gI g, 8, .inl v_sights_tops)), ((q 25), .inr (1, [.ref (q 26), .ref (q 29), .int out.2.2.2.2.2.2.2.2.2.1])), ((q 26), .inr (7, [.ref (q 27), .ref (q 28), .int out.2.2.2.1, .int out.2.2.2.2.1, .int out.2.2.2.2.2.1])), ((q 27), .inl (gI g, 6, .inl out.2.1)), ((q 28), .inl (gI g, 6, .inl out.2.2.1)), ((q 29), .inr (5, [.ref (q 30), .ref (q 31), .int out.2.2.2.2.2.2.2.2.1])), ((q 30), .inl (gI g, 8, .inl out.2.2.2.2.2.2.1)), ((q 31), .inl (gI g, 8, .inl out.2.2.2.2.2.2.2.1)), ((q 32), .inr (1, [.ref (q 33), .ref (q 36), .int out.2.2.2.2.2.2.2.2.2.2.2.2.2.2.2.2.2.2])), ((q 33), .inr (7, [.ref (q 34), .ref (q 35), .int out.2.2.2.2.2.2.2.2.2.2.2.2.1, .int out.2.2.2.2.2.2.2.2.2.2.2.2.2.1, .int out.2.2.2.2.2.2.2.2.2.2.2.2.2.2.1])), ((q 34), .inl (gI g, 6, .inl out.2.2.2.2.2.2.2.2.2.2.1)), ((q 35), .inl (gI g, 6, .inl out.2.2.2.2.2.2.2.2.2.2.2.1)), ((q 36), .inr (5, [.ref (q 37), .ref (q 38), .int out.2.2.2.2.2.2.2.2.2.2.2.2.2.2.2.2.2.1])), ((q 37), .inl (gI g, 8, .inl out.2.2.2.2.2.2.2.2.2.2.2.2.2.2.2.1)), ((q 38), .inl (gI g, 8, .inl out.2.2.2.2.2.2.2.2.2.2.2.2.2.2.2.2.1))] := by
  refine ofM (Qc := fun A => Qi g out.1 [((q 0), .inr (9, oX11 q)), ((q 1), .inr (7, [.ref (q 2), .ref (q 3), .int v_now_inBits, .int v_now_holder, .int v_now_game])), ((q 2), .inl (gI g, 6, .inl v_now_drawn)), ((q 3), .inl (gI g, 6, .inl v_now_points)), ((q 17), .inr (5, [.ref (q 18), .ref (q 19), .int v_sights_size])), ((q 18), .inl (gI g, 8, .inl v_sights_rows)), ((q 19), .inl (gI g, 8, .inl v_sights_tops)), ((q 25), .inr (1, [.ref (q 26), .ref (q 29), .int out.2.2.2.2.2.2.2.2.2.1])), ((q 26), .inr (7, [.ref (q 27), .ref (q 28), .int out.2.2.2.1, .int out.2.2.2.2.1, .int out.2.2.2.2.2.1])), ((q 27), .inl (gI g, 6, .inl out.2.1)), ((q 28), .inl (gI g, 6, .inl out.2.2.1)), ((q 29), .inr (5, [.ref (q 30), .ref (q 31), .int out.2.2.2.2.2.2.2.2.1])), ((q 30), .inl (gI g, 8, .inl out.2.2.2.2.2.2.1)), ((q 31), .inl (gI g, 8, .inl out.2.2.2.2.2.2.2.1)), ((q 32), .inr (1, [.ref (q 33), .ref (q 36), .int out.2.2.2.2.2.2.2.2.2.2.2.2.2.2.2.2.2.2])), ((q 33), .inr (7, [.ref (q 34), .ref (q 35), .int out.2.2.2.2.2.2.2.2.2.2.2.2.1, .int out.2.2.2.2.2.2.2.2.2.2.2.2.2.1, .int out.2.2.2.2.2.2.2.2.2.2.2.2.2.2.1])), ((q 34), .inl (gI g, 6, .inl out.2.2.2.2.2.2.2.2.2.2.1)), ((q 35), .inl (gI g, 6, .inl out.2.2.2.2.2.2.2.2.2.2.2.1)), ((q 36), .inr (5, [.ref (q 37), .ref (q 38), .int out.2.2.2.2.2.2.2.2.2.2.2.2.2.2.2.2.2.1])), ((q 37), .inl (gI g, 8, .inl out.2.2.2.2.2.2.2.2.2.2.2.2.2.2.2.1)), ((q 38), .inl (gI g, 8, .inl out.2.2.2.2.2.2.2.2.2.2.2.2.2.2.2.2.1))] A) (cc := cX11_image) (nL := 2) (ret := some .int) (by decide) rfl (Nat.le_of_ble_eq_true rfl) ?_
  intro p e s m below meth c ar A hC hA hP hD hG ls hl
  have hS : va_S A s.heap s.heap [] := va_S.rf
  obtain ⟨hx, hb, hml, hown, hts, hr, hlk, -⟩ := hC
  have hl : lv_has ls 2 [(0, .ref (q 0)), (1, .int x1)] := hl
  have hK := hG.1
  have iX11 : ∀ w ∈ u_ws RX11 TX11 10, w ∈ wsX11_image := fun w h => List.mem_cons_of_mem _ (List.mem_append_left _ (List.mem_append_left _ (List.mem_append_left _ (List.mem_append_right _ (h)))))
  generalize hQ : MQ below (Qi g out.1 [((q 0), .inr (9, oX11 q)), ((q 1), .inr (7, [.ref (q 2), .ref (q 3), .int v_now_inBits, .int v_now_holder, .int v_now_game])), ((q 2), .inl (gI g, 6, .inl v_now_drawn)), ((q 3), .inl (gI g, 6, .inl v_now_points)), ((q 17), .inr (5, [.ref (q 18), .ref (q 19), .int v_sights_size])), ((q 18), .inl (gI g, 8, .inl v_sights_rows)), ((q 19), .inl (gI g, 8, .inl v_sights_tops)), ((q 25), .inr (1, [.ref (q 26), .ref (q 29), .int out.2.2.2.2.2.2.2.2.2.1])), ((q 26), .inr (7, [.ref (q 27), .ref (q 28), .int out.2.2.2.1, .int out.2.2.2.2.1, .int out.2.2.2.2.2.1])), ((q 27), .inl (gI g, 6, .inl out.2.1)), ((q 28), .inl (gI g, 6, .inl out.2.2.1)), ((q 29), .inr (5, [.ref (q 30), .ref (q 31), .int out.2.2.2.2.2.2.2.2.1])), ((q 30), .inl (gI g, 8, .inl out.2.2.2.2.2.2.1)), ((q 31), .inl (gI g, 8, .inl out.2.2.2.2.2.2.2.1)), ((q 32), .inr (1, [.ref (q 33), .ref (q 36), .int out.2.2.2.2.2.2.2.2.2.2.2.2.2.2.2.2.2.2])), ((q 33), .inr (7, [.ref (q 34), .ref (q 35), .int out.2.2.2.2.2.2.2.2.2.2.2.2.1, .int out.2.2.2.2.2.2.2.2.2.2.2.2.2.1, .int out.2.2.2.2.2.2.2.2.2.2.2.2.2.2.1])), ((q 34), .inl (gI g, 6, .inl out.2.2.2.2.2.2.2.2.2.2.1)), ((q 35), .inl (gI g, 6, .inl out.2.2.2.2.2.2.2.2.2.2.2.1)), ((q 36), .inr (5, [.ref (q 37), .ref (q 38), .int out.2.2.2.2.2.2.2.2.2.2.2.2.2.2.2.2.2.1])), ((q 37), .inl (gI g, 8, .inl out.2.2.2.2.2.2.2.2.2.2.2.2.2.2.2.1)), ((q 38), .inl (gI g, 8, .inl out.2.2.2.2.2.2.2.2.2.2.2.2.2.2.2.2.1))] A) ar s 0 0 A = QQ
  unfold f_X11_image at hf
  refine lv_iload_n hx hb dX11_image_0 rfl (lv_at hl 1 rfl) ?_
  refine lv_iconst (v := 0) hx hb dX11_image_1 (by decide) ?_
  refine lv_iconst (v := 1) hx hb dX11_image_2 (by decide) ?_
  obtain ⟨z1, hq2, hf⟩ := bnd_some hf
  refine kR_i (va_runS (As := [.int x1, .int (0 : Int32), .int (1 : Int32)]) (rest := []) ⟨hx, hb, hml, hown, hts⟩ (c_X11_isWithin l g x1 (0 : Int32) (1 : Int32) z1 hq2) (va_cwS 3 hts gX11_image_X11_isWithin rfl rfl rfl (by decide +kernel) ⟨Nat.le_of_ble_eq_true rfl, Nat.le_of_ble_eq_true rfl⟩) (kpS_R (hG.now hS) (hP.subm (ws' := []) [] rfl)) rfl rfl hl.1 rfl (lv_room (Nat.le_of_ble_eq_true rfl)) dX11_image_3 ⟨Nat.le_of_ble_eq_true rfl, Nat.le_of_ble_eq_true rfl⟩) ?_
  refine lv_if_ne (tgt := 12) hx hb dX11_image_6 (by decide) (fun c3 => ?_) (fun c3 => ?_)
  · replace hf := iff_ c3 hf
    refine lv_aload_n hx hb dX11_image_12 rfl (lv_at hl 0 rfl) ?_
    refine lv_iload_n hx hb dX11_image_13 rfl (lv_at hl 1 rfl) ?_
    by_cases c4 : x1 = 0
    · replace hf := ift c4 hf
      refine kR_r (va_runV (As := [.int x1]) (rest := []) ⟨hx, hb, hml, hown, hts⟩ (c_X11_imageAt_z l g q x1 c4) (cwV 1 hts gX11_image_X11_imageAt rfl rfl rfl (by decide +kernel) ⟨Nat.le_of_ble_eq_true rfl, Nat.le_of_ble_eq_true rfl⟩) (kpV_R (q0 := 0) (ci := 9) (hG.now hS) (hP.subm (ws' := [((q 0), .inr (9, oX11 q))]) [0] rfl) rfl rfl) rfl rfl hl.1 rfl (lv_room (Nat.le_of_ble_eq_true rfl)) dX11_image_14 ⟨Nat.le_of_ble_eq_true rfl, Nat.le_of_ble_eq_true rfl⟩) ?_
      refine lv_aload_n hx hb dX11_image_17 rfl (lv_at hl 0 rfl) ?_
      refine va_get (D := gD g) (ci := 9) (v := .ref (q 1)) (C := RX11) (T := TX11) (N := 10) hx hb hts iX11 hown hK hP 0 rfl rfl 0 (by decide) (hts (.fieldLink RX11 10 "BeetleDrive" "now" "LBeetleDrive$Table;") (List.mem_of_getElem? (i := 1) rfl)) (fun _ h9 => h9) rfl dX11_image_18 ?_
      refine lv_aload_n hx hb dX11_image_21 rfl (lv_at hl 0 rfl) ?_
      refine va_get (D := gD g) (ci := 9) (v := .ref (q 17)) (C := RX11) (T := TX11) (N := 10) hx hb hts iX11 hown hK hP 0 rfl rfl 5 (by decide) (hts (.fieldLink RX11 47 "BeetleDrive" "sights" "LBeetleDrive$Sights;") (List.mem_of_getElem? (i := 2) rfl)) (fun _ h9 => h9) rfl dX11_image_22 ?_
      obtain ⟨z5, hq6, hf⟩ := bnd_some hf
      refine kM_v (wc := [((q 25), .inr (1, [.ref (q 26), .ref (q 29), .int v_imageZero_isKept])), ((q 26), .inr (7, [.ref (q 27), .ref (q 28), .int v_imageZero_table_inBits, .int v_imageZero_table_holder, .int v_imageZero_table_game])), ((q 27), .inl (gI g, 6, .inl v_imageZero_table_drawn)), ((q 28), .inl (gI g, 6, .inl v_imageZero_table_points)), ((q 29), .inr (5, [.ref (q 30), .ref (q 31), .int v_imageZero_sights_size])), ((q 30), .inl (gI g, 8, .inl v_imageZero_sights_rows)), ((q 31), .inl (gI g, 8, .inl v_imageZero_sights_tops)), ((q 1), .inr (7, [.ref (q 2), .ref (q 3), .int v_now_inBits, .int v_now_holder, .int v_now_game])), ((q 2), .inl (gI g, 6, .inl v_now_drawn)), ((q 3), .inl (gI g, 6, .inl v_now_points)), ((q 17), .inr (5, [.ref (q 18), .ref (q 19), .int v_sights_size])), ((q 18), .inl (gI g, 8, .inl v_sights_rows)), ((q 19), .inl (gI g, 8, .inl v_sights_tops))]) (wr := [((q 0), .inr (9, oX11 q)), ((q 32), .inr (1, [.ref (q 33), .ref (q 36), .int v_imageOne_isKept])), ((q 33), .inr (7, [.ref (q 34), .ref (q 35), .int v_imageOne_table_inBits, .int v_imageOne_table_holder, .int v_imageOne_table_game])), ((q 34), .inl (gI g, 6, .inl v_imageOne_table_drawn)), ((q 35), .inl (gI g, 6, .inl v_imageOne_table_points)), ((q 36), .inr (5, [.ref (q 37), .ref (q 38), .int v_imageOne_sights_size])), ((q 37), .inl (gI g, 8, .inl v_imageOne_sights_rows)), ((q 38), .inl (gI g, 8, .inl v_imageOne_sights_tops))]) (w1 := [((q 25), .inr (1, [.ref (q 26), .ref (q 29), .int z5.2.2.2.2.2.2.2.2])), ((q 26), .inr (7, [.ref (q 27), .ref (q 28), .int z5.2.2.1, .int z5.2.2.2.1, .int z5.2.2.2.2.1])), ((q 27), .inl (gI g, 6, .inl z5.1)), ((q 28), .inl (gI g, 6, .inl z5.2.1)), ((q 29), .inr (5, [.ref (q 30), .ref (q 31), .int z5.2.2.2.2.2.2.2.1])), ((q 30), .inl (gI g, 8, .inl z5.2.2.2.2.2.1)), ((q 31), .inl (gI g, 8, .inl z5.2.2.2.2.2.2.1)), ((q 1), .inr (7, [.ref (q 2), .ref (q 3), .int v_now_inBits, .int v_now_holder, .int v_now_game])), ((q 2), .inl (gI g, 6, .inl v_now_drawn)), ((q 3), .inl (gI g, 6, .inl v_now_points)), ((q 17), .inr (5, [.ref (q 18), .ref (q 19), .int v_sights_size])), ((q 18), .inl (gI g, 8, .inl v_sights_rows)), ((q 19), .inl (gI g, 8, .inl v_sights_tops))]) (w2 := [((q 0), .inr (9, oX11 q)), ((q 1), .inr (7, [.ref (q 2), .ref (q 3), .int v_now_inBits, .int v_now_holder, .int v_now_game])), ((q 2), .inl (gI g, 6, .inl v_now_drawn)), ((q 3), .inl (gI g, 6, .inl v_now_points)), ((q 17), .inr (5, [.ref (q 18), .ref (q 19), .int v_sights_size])), ((q 18), .inl (gI g, 8, .inl v_sights_rows)), ((q 19), .inl (gI g, 8, .inl v_sights_tops)), ((q 25), .inr (1, [.ref (q 26), .ref (q 29), .int z5.2.2.2.2.2.2.2.2])), ((q 26), .inr (7, [.ref (q 27), .ref (q 28), .int z5.2.2.1, .int z5.2.2.2.1, .int z5.2.2.2.2.1])), ((q 27), .inl (gI g, 6, .inl z5.1)), ((q 28), .inl (gI g, 6, .inl z5.2.1)), ((q 29), .inr (5, [.ref (q 30), .ref (q 31), .int z5.2.2.2.2.2.2.2.1])), ((q 30), .inl (gI g, 8, .inl z5.2.2.2.2.2.1)), ((q 31), .inl (gI g, 8, .inl z5.2.2.2.2.2.2.1)), ((q 32), .inr (1, [.ref (q 33), .ref (q 36), .int v_imageOne_isKept])), ((q 33), .inr (7, [.ref (q 34), .ref (q 35), .int v_imageOne_table_inBits, .int v_imageOne_table_holder, .int v_imageOne_table_game])), ((q 34), .inl (gI g, 6, .inl v_imageOne_table_drawn)), ((q 35), .inl (gI g, 6, .inl v_imageOne_table_points)), ((q 36), .inr (5, [.ref (q 37), .ref (q 38), .int v_imageOne_sights_size])), ((q 37), .inl (gI g, 8, .inl v_imageOne_sights_rows)), ((q 38), .inl (gI g, 8, .inl v_imageOne_sights_tops))]) (va_runV (As := [.ref (q 1), .ref (q 17)]) (rest := []) ⟨hx, hb, hml, hown, hts⟩ (c_X3_keep l g (q 25) (q 26) (q 27) (q 28) (q 29) (q 30) (q 31) (q 1) (q 2) (q 3) (q 17) (q 18) (q 19) v_imageZero_isKept v_imageZero_table_inBits v_imageZero_table_holder v_imageZero_table_game v_imageZero_table_drawn v_imageZero_table_points v_imageZero_sights_size v_imageZero_sights_rows v_imageZero_sights_tops v_now_inBits v_now_holder v_now_game v_now_drawn v_now_points v_sights_size v_sights_rows v_sights_tops z5 hq6 s.heap.size) (cwV 2 hts gX11_image_X3_keep rfl rfl rfl (by decide +kernel) ⟨Nat.le_of_ble_eq_true rfl, Nat.le_of_ble_eq_true rfl⟩) (kpV_M (q0 := 0) (ci := 1) hG hS hP hD hA [7, 8, 9, 10, 11, 12, 13, 1, 2, 3, 4, 5, 6] rfl (by decide) rfl rfl) rfl rfl hl.1 rfl (lv_room (Nat.le_of_ble_eq_true rfl)) dX11_image_25 ⟨Nat.le_of_ble_eq_true rfl, Nat.le_of_ble_eq_true rfl⟩) hP hD hS hA [7, 8, 9, 10, 11, 12, 13, 1, 2, 3, 4, 5, 6] [0, 14, 15, 16, 17, 18, 19, 20] [0, 15, 16, 17, 18, 19, 20, 8, 9, 10, 11, 12, 13, 14, 1, 2, 3, 4, 5, 6, 7] rfl rfl (by decide) (by decide) rfl (by decide) (fun H locs hP hD hS => ?_)
      refine lv_iconst (v := 1) hx hb dX11_image_28 (by decide) ?_
      rw [← hQ, ← Option.some.inj hf]
      exact eM_i hx hb hr hlk hP hD hS rfl dX11_image_29
    · replace hf := iff_ c4 hf
      refine kR_r (va_runV (As := [.int x1]) (rest := []) ⟨hx, hb, hml, hown, hts⟩ (c_X11_imageAt_o l g q x1 c4) (cwV 1 hts gX11_image_X11_imageAt rfl rfl rfl (by decide +kernel) ⟨Nat.le_of_ble_eq_true rfl, Nat.le_of_ble_eq_true rfl⟩) (kpV_R (q0 := 0) (ci := 9) (hG.now hS) (hP.subm (ws' := [((q 0), .inr (9, oX11 q))]) [0] rfl) rfl rfl) rfl rfl hl.1 rfl (lv_room (Nat.le_of_ble_eq_true rfl)) dX11_image_14 ⟨Nat.le_of_ble_eq_true rfl, Nat.le_of_ble_eq_true rfl⟩) ?_
      refine lv_aload_n hx hb dX11_image_17 rfl (lv_at hl 0 rfl) ?_
      refine va_get (D := gD g) (ci := 9) (v := .ref (q 1)) (C := RX11) (T := TX11) (N := 10) hx hb hts iX11 hown hK hP 0 rfl rfl 0 (by decide) (hts (.fieldLink RX11 10 "BeetleDrive" "now" "LBeetleDrive$Table;") (List.mem_of_getElem? (i := 1) rfl)) (fun _ h9 => h9) rfl dX11_image_18 ?_
      refine lv_aload_n hx hb dX11_image_21 rfl (lv_at hl 0 rfl) ?_
      refine va_get (D := gD g) (ci := 9) (v := .ref (q 17)) (C := RX11) (T := TX11) (N := 10) hx hb hts iX11 hown hK hP 0 rfl rfl 5 (by decide) (hts (.fieldLink RX11 47 "BeetleDrive" "sights" "LBeetleDrive$Sights;") (List.mem_of_getElem? (i := 2) rfl)) (fun _ h9 => h9) rfl dX11_image_22 ?_
      obtain ⟨z7, hq8, hf⟩ := bnd_some hf
      refine kM_v (wc := [((q 32), .inr (1, [.ref (q 33), .ref (q 36), .int v_imageOne_isKept])), ((q 33), .inr (7, [.ref (q 34), .ref (q 35), .int v_imageOne_table_inBits, .int v_imageOne_table_holder, .int v_imageOne_table_game])), ((q 34), .inl (gI g, 6, .inl v_imageOne_table_drawn)), ((q 35), .inl (gI g, 6, .inl v_imageOne_table_points)), ((q 36), .inr (5, [.ref (q 37), .ref (q 38), .int v_imageOne_sights_size])), ((q 37), .inl (gI g, 8, .inl v_imageOne_sights_rows)), ((q 38), .inl (gI g, 8, .inl v_imageOne_sights_tops)), ((q 1), .inr (7, [.ref (q 2), .ref (q 3), .int v_now_inBits, .int v_now_holder, .int v_now_game])), ((q 2), .inl (gI g, 6, .inl v_now_drawn)), ((q 3), .inl (gI g, 6, .inl v_now_points)), ((q 17), .inr (5, [.ref (q 18), .ref (q 19), .int v_sights_size])), ((q 18), .inl (gI g, 8, .inl v_sights_rows)), ((q 19), .inl (gI g, 8, .inl v_sights_tops))]) (wr := [((q 0), .inr (9, oX11 q)), ((q 25), .inr (1, [.ref (q 26), .ref (q 29), .int v_imageZero_isKept])), ((q 26), .inr (7, [.ref (q 27), .ref (q 28), .int v_imageZero_table_inBits, .int v_imageZero_table_holder, .int v_imageZero_table_game])), ((q 27), .inl (gI g, 6, .inl v_imageZero_table_drawn)), ((q 28), .inl (gI g, 6, .inl v_imageZero_table_points)), ((q 29), .inr (5, [.ref (q 30), .ref (q 31), .int v_imageZero_sights_size])), ((q 30), .inl (gI g, 8, .inl v_imageZero_sights_rows)), ((q 31), .inl (gI g, 8, .inl v_imageZero_sights_tops))]) (w1 := [((q 32), .inr (1, [.ref (q 33), .ref (q 36), .int z7.2.2.2.2.2.2.2.2])), ((q 33), .inr (7, [.ref (q 34), .ref (q 35), .int z7.2.2.1, .int z7.2.2.2.1, .int z7.2.2.2.2.1])), ((q 34), .inl (gI g, 6, .inl z7.1)), ((q 35), .inl (gI g, 6, .inl z7.2.1)), ((q 36), .inr (5, [.ref (q 37), .ref (q 38), .int z7.2.2.2.2.2.2.2.1])), ((q 37), .inl (gI g, 8, .inl z7.2.2.2.2.2.1)), ((q 38), .inl (gI g, 8, .inl z7.2.2.2.2.2.2.1)), ((q 1), .inr (7, [.ref (q 2), .ref (q 3), .int v_now_inBits, .int v_now_holder, .int v_now_game])), ((q 2), .inl (gI g, 6, .inl v_now_drawn)), ((q 3), .inl (gI g, 6, .inl v_now_points)), ((q 17), .inr (5, [.ref (q 18), .ref (q 19), .int v_sights_size])), ((q 18), .inl (gI g, 8, .inl v_sights_rows)), ((q 19), .inl (gI g, 8, .inl v_sights_tops))]) (w2 := [((q 0), .inr (9, oX11 q)), ((q 1), .inr (7, [.ref (q 2), .ref (q 3), .int v_now_inBits, .int v_now_holder, .int v_now_game])), ((q 2), .inl (gI g, 6, .inl v_now_drawn)), ((q 3), .inl (gI g, 6, .inl v_now_points)), ((q 17), .inr (5, [.ref (q 18), .ref (q 19), .int v_sights_size])), ((q 18), .inl (gI g, 8, .inl v_sights_rows)), ((q 19), .inl (gI g, 8, .inl v_sights_tops)), ((q 25), .inr (1, [.ref (q 26), .ref (q 29), .int v_imageZero_isKept])), ((q 26), .inr (7, [.ref (q 27), .ref (q 28), .int v_imageZero_table_inBits, .int v_imageZero_table_holder, .int v_imageZero_table_game])), ((q 27), .inl (gI g, 6, .inl v_imageZero_table_drawn)), ((q 28), .inl (gI g, 6, .inl v_imageZero_table_points)), ((q 29), .inr (5, [.ref (q 30), .ref (q 31), .int v_imageZero_sights_size])), ((q 30), .inl (gI g, 8, .inl v_imageZero_sights_rows)), ((q 31), .inl (gI g, 8, .inl v_imageZero_sights_tops)), ((q 32), .inr (1, [.ref (q 33), .ref (q 36), .int z7.2.2.2.2.2.2.2.2])), ((q 33), .inr (7, [.ref (q 34), .ref (q 35), .int z7.2.2.1, .int z7.2.2.2.1, .int z7.2.2.2.2.1])), ((q 34), .inl (gI g, 6, .inl z7.1)), ((q 35), .inl (gI g, 6, .inl z7.2.1)), ((q 36), .inr (5, [.ref (q 37), .ref (q 38), .int z7.2.2.2.2.2.2.2.1])), ((q 37), .inl (gI g, 8, .inl z7.2.2.2.2.2.1)), ((q 38), .inl (gI g, 8, .inl z7.2.2.2.2.2.2.1))]) (va_runV (As := [.ref (q 1), .ref (q 17)]) (rest := []) ⟨hx, hb, hml, hown, hts⟩ (c_X3_keep l g (q 32) (q 33) (q 34) (q 35) (q 36) (q 37) (q 38) (q 1) (q 2) (q 3) (q 17) (q 18) (q 19) v_imageOne_isKept v_imageOne_table_inBits v_imageOne_table_holder v_imageOne_table_game v_imageOne_table_drawn v_imageOne_table_points v_imageOne_sights_size v_imageOne_sights_rows v_imageOne_sights_tops v_now_inBits v_now_holder v_now_game v_now_drawn v_now_points v_sights_size v_sights_rows v_sights_tops z7 hq8 s.heap.size) (cwV 2 hts gX11_image_X3_keep rfl rfl rfl (by decide +kernel) ⟨Nat.le_of_ble_eq_true rfl, Nat.le_of_ble_eq_true rfl⟩) (kpV_M (q0 := 0) (ci := 1) hG hS hP hD hA [14, 15, 16, 17, 18, 19, 20, 1, 2, 3, 4, 5, 6] rfl (by decide) rfl rfl) rfl rfl hl.1 rfl (lv_room (Nat.le_of_ble_eq_true rfl)) dX11_image_25 ⟨Nat.le_of_ble_eq_true rfl, Nat.le_of_ble_eq_true rfl⟩) hP hD hS hA [14, 15, 16, 17, 18, 19, 20, 1, 2, 3, 4, 5, 6] [0, 7, 8, 9, 10, 11, 12, 13] [0, 15, 16, 17, 18, 19, 20, 1, 2, 3, 4, 5, 6, 7, 8, 9, 10, 11, 12, 13, 14] rfl rfl (by decide) (by decide) rfl (by decide) (fun H locs hP hD hS => ?_)
      refine lv_iconst (v := 1) hx hb dX11_image_28 (by decide) ?_
      rw [← hQ, ← Option.some.inj hf]
      exact eM_i hx hb hr hlk hP hD hS rfl dX11_image_29
  · replace hf := ift c3 hf
    refine lv_bipush (v := -2) hx hb dX11_image_9 (by decide) ?_
    rw [← hQ, ← Option.some.inj hf]
    exact eM_i hx hb hr hlk hP hD hS rfl dX11_image_11
set_option maxHeartbeats 4000000 in
set_option maxRecDepth 100000 in
theorem c_X11_restore (l : Launch) (g : bG) (q : Nat → Nat) (v_now_inBits : Int32) (v_now_holder : Int32) (v_now_game : Int32) (v_now_drawn : Nat → Int32) (v_now_points : Nat → Int32) (v_sights_size : Int32) (v_sights_rows : Nat → Int32) (v_sights_tops : Nat → Int32) (v_imageZero_isKept : Int32) (v_imageZero_table_inBits : Int32) (v_imageZero_table_holder : Int32) (v_imageZero_table_game : Int32) (v_imageZero_table_drawn : Nat → Int32) (v_imageZero_table_points : Nat → Int32) (v_imageZero_sights_size : Int32) (v_imageZero_sights_rows : Nat → Int32) (v_imageZero_sights_tops : Nat → Int32) (v_imageOne_isKept : Int32) (v_imageOne_table_inBits : Int32) (v_imageOne_table_holder : Int32) (v_imageOne_table_game : Int32) (v_imageOne_table_drawn : Nat → Int32) (v_imageOne_table_points : Nat → Int32) (v_imageOne_sights_size : Int32) (v_imageOne_sights_rows : Nat → Int32) (v_imageOne_sights_tops : Nat → Int32) (x1 : Int32) (out : Int32 × (Nat → Int32) × (Nat → Int32) × Int32 × Int32 × Int32 × (Nat → Int32) × (Nat → Int32) × Int32) (hf : f_X11_restore v_now_drawn v_now_points v_now_inBits v_now_holder v_now_game v_sights_rows v_sights_tops v_sights_size v_imageZero_table_drawn v_imageZero_table_points v_imageZero_table_inBits v_imageZero_table_holder v_imageZero_table_game v_imageZero_sights_rows v_imageZero_sights_tops v_imageZero_sights_size v_imageZero_isKept v_imageOne_table_drawn v_imageOne_table_points v_imageOne_table_inBits v_imageOne_table_holder v_imageOne_table_game v_imageOne_sights_rows v_imageOne_sights_tops v_imageOne_sights_size v_imageOne_isKept x1 = some out) : Mi l g yX11_restore wsX11_restore ({ frames := 1, cells := 0, slots := 0, locals := 22 } : Room) [.ref (q 0), .int x1] [((q 0), .inr (9, oX11 q)), ((q 1), .inr (7, [.ref (q 2), .ref (q 3), .int v_now_inBits, .int v_now_holder, .int v_now_game])), ((q 2), .inl (gI g, 6, .inl v_now_drawn)), ((q 3), .inl (gI g, 6, .inl v_now_points)), ((q 17), .inr (5, [.ref (q 18), .ref (q 19), .int v_sights_size])), ((q 18), .inl (gI g, 8, .inl v_sights_rows)), ((q 19), .inl (gI g, 8, .inl v_sights_tops)), ((q 25), .inr (1, [.ref (q 26), .ref (q 29), .int v_imageZero_isKept])), ((q 26), .inr (7, [.ref (q 27), .ref (q 28), .int v_imageZero_table_inBits, .int v_imageZero_table_holder, .int v_imageZero_table_game])), ((q 27), .inl (gI g, 6, .inl v_imageZero_table_drawn)), ((q 28), .inl (gI g, 6, .inl v_imageZero_table_points)), ((q 29), .inr (5, [.ref (q 30), .ref (q 31), .int v_imageZero_sights_size])), ((q 30), .inl (gI g, 8, .inl v_imageZero_sights_rows)), ((q 31), .inl (gI g, 8, .inl v_imageZero_sights_tops)), ((q 32), .inr (1, [.ref (q 33), .ref (q 36), .int v_imageOne_isKept])), ((q 33), .inr (7, [.ref (q 34), .ref (q 35), .int v_imageOne_table_inBits, .int v_imageOne_table_holder, .int v_imageOne_table_game])), ((q 34), .inl (gI g, 6, .inl v_imageOne_table_drawn)), ((q 35), .inl (gI g, 6, .inl v_imageOne_table_points)), ((q 36), .inr (5, [.ref (q 37), .ref (q 38), .int v_imageOne_sights_size])), ((q 37), .inl (gI g, 8, .inl v_imageOne_sights_rows)), ((q 38), .inl (gI g, 8, .inl v_imageOne_sights_tops))] out.1 [((q 0), .inr (9, oX11 q)), ((q 1), .inr (7, [.ref (q 2), .ref (q 3), .int out.2.2.2.1, .int out.2.2.2.2.1, .int out.2.2.2.2.2.1])), ((q 2), .inl (gI g, 6, .inl out.2.1)), ((q 3), .inl (gI g, 6, .inl out.2.2.1)), ((q 17), .inr (5, [.ref (q 18), .ref (q 19), .int out.2.2.2.2.2.2.2.2])), ((q 18), .inl (gI g, 8, .inl out.2.2.2.2.2.2.1)), ((q 19), .inl (gI g, 8, .inl out.2.2.2.2.2.2.2.1)), ((q 25), .inr (1, [.ref (q 26), .ref (q 29), .int v_imageZero_isKept])), ((q 26), .inr (7, [.ref (q 27), .ref (q 28), .int v_imageZero_table_inBits, .int v_imageZero_table_holder, .int v_imageZero_table_game])), ((q 27), .inl (gI g, 6, .inl v_imageZero_table_drawn)), ((q 28), .inl (gI g, 6, .inl v_imageZero_table_points)), ((q 29), .inr (5, [.ref (q 30), .ref (q 31), .int v_imageZero_sights_size])), ((q 30), .inl (gI g, 8, .inl v_imageZero_sights_rows)), ((q 31), .inl (gI g, 8, .inl v_imageZero_sights_tops)), ((q 32), .inr (1, [.ref (q 33), .ref (q 36), .int v_imageOne_isKept])), ((q 33), .inr (7, [.ref (q 34), .ref (q 35), .int v_imageOne_table_inBits, .int v_imageOne_table_holder, .int v_imageOne_table_game])), ((q 34), .inl (gI g, 6, .inl v_imageOne_table_drawn)), ((q 35), .inl (gI g, 6, .inl v_imageOne_table_points)), ((q 36), .inr (5, [.ref (q 37), .ref (q 38), .int v_imageOne_sights_size])), ((q 37), .inl (gI g, 8, .inl v_imageOne_sights_rows)), ((q 38), .inl (gI g, 8, .inl v_imageOne_sights_tops))] := by
  refine ofM (Qc := fun A => Qi g out.1 [((q 0), .inr (9, oX11 q)), ((q 1), .inr (7, [.ref (q 2), .ref (q 3), .int out.2.2.2.1, .int out.2.2.2.2.1, .int out.2.2.2.2.2.1])), ((q 2), .inl (gI g, 6, .inl out.2.1)), ((q 3), .inl (gI g, 6, .inl out.2.2.1)), ((q 17), .inr (5, [.ref (q 18), .ref (q 19), .int out.2.2.2.2.2.2.2.2])), ((q 18), .inl (gI g, 8, .inl out.2.2.2.2.2.2.1)), ((q 19), .inl (gI g, 8, .inl out.2.2.2.2.2.2.2.1)), ((q 25), .inr (1, [.ref (q 26), .ref (q 29), .int v_imageZero_isKept])), ((q 26), .inr (7, [.ref (q 27), .ref (q 28), .int v_imageZero_table_inBits, .int v_imageZero_table_holder, .int v_imageZero_table_game])), ((q 27), .inl (gI g, 6, .inl v_imageZero_table_drawn)), ((q 28), .inl (gI g, 6, .inl v_imageZero_table_points)), ((q 29), .inr (5, [.ref (q 30), .ref (q 31), .int v_imageZero_sights_size])), ((q 30), .inl (gI g, 8, .inl v_imageZero_sights_rows)), ((q 31), .inl (gI g, 8, .inl v_imageZero_sights_tops)), ((q 32), .inr (1, [.ref (q 33), .ref (q 36), .int v_imageOne_isKept])), ((q 33), .inr (7, [.ref (q 34), .ref (q 35), .int v_imageOne_table_inBits, .int v_imageOne_table_holder, .int v_imageOne_table_game])), ((q 34), .inl (gI g, 6, .inl v_imageOne_table_drawn)), ((q 35), .inl (gI g, 6, .inl v_imageOne_table_points)), ((q 36), .inr (5, [.ref (q 37), .ref (q 38), .int v_imageOne_sights_size])), ((q 37), .inl (gI g, 8, .inl v_imageOne_sights_rows)), ((q 38), .inl (gI g, 8, .inl v_imageOne_sights_tops))] A) (cc := cX11_restore) (nL := 3) (ret := some .int) (by decide) rfl (Nat.le_of_ble_eq_true rfl) ?_
  intro p e s m below meth c ar A hC hA hP hD hG ls hl
  have hS : va_S A s.heap s.heap [] := va_S.rf
  obtain ⟨hx, hb, hml, hown, hts, hr, hlk, -⟩ := hC
  have hl : lv_has ls 3 [(0, .ref (q 0)), (1, .int x1)] := hl
  have hK := hG.1
  have iX3 : ∀ w ∈ u_ws RX3 TX3 3, w ∈ wsX11_restore := fun w h => List.mem_cons_of_mem _ (List.mem_append_left _ (List.mem_append_left _ (List.mem_append_left _ (List.mem_append_right _ (h)))))
  have iX11 : ∀ w ∈ u_ws RX11 TX11 10, w ∈ wsX11_restore := fun w h => List.mem_cons_of_mem _ (List.mem_append_left _ (List.mem_append_left _ (List.mem_append_right _ (h))))
  generalize hQ : MQ below (Qi g out.1 [((q 0), .inr (9, oX11 q)), ((q 1), .inr (7, [.ref (q 2), .ref (q 3), .int out.2.2.2.1, .int out.2.2.2.2.1, .int out.2.2.2.2.2.1])), ((q 2), .inl (gI g, 6, .inl out.2.1)), ((q 3), .inl (gI g, 6, .inl out.2.2.1)), ((q 17), .inr (5, [.ref (q 18), .ref (q 19), .int out.2.2.2.2.2.2.2.2])), ((q 18), .inl (gI g, 8, .inl out.2.2.2.2.2.2.1)), ((q 19), .inl (gI g, 8, .inl out.2.2.2.2.2.2.2.1)), ((q 25), .inr (1, [.ref (q 26), .ref (q 29), .int v_imageZero_isKept])), ((q 26), .inr (7, [.ref (q 27), .ref (q 28), .int v_imageZero_table_inBits, .int v_imageZero_table_holder, .int v_imageZero_table_game])), ((q 27), .inl (gI g, 6, .inl v_imageZero_table_drawn)), ((q 28), .inl (gI g, 6, .inl v_imageZero_table_points)), ((q 29), .inr (5, [.ref (q 30), .ref (q 31), .int v_imageZero_sights_size])), ((q 30), .inl (gI g, 8, .inl v_imageZero_sights_rows)), ((q 31), .inl (gI g, 8, .inl v_imageZero_sights_tops)), ((q 32), .inr (1, [.ref (q 33), .ref (q 36), .int v_imageOne_isKept])), ((q 33), .inr (7, [.ref (q 34), .ref (q 35), .int v_imageOne_table_inBits, .int v_imageOne_table_holder, .int v_imageOne_table_game])), ((q 34), .inl (gI g, 6, .inl v_imageOne_table_drawn)), ((q 35), .inl (gI g, 6, .inl v_imageOne_table_points)), ((q 36), .inr (5, [.ref (q 37), .ref (q 38), .int v_imageOne_sights_size])), ((q 37), .inl (gI g, 8, .inl v_imageOne_sights_rows)), ((q 38), .inl (gI g, 8, .inl v_imageOne_sights_tops))] A) ar s 0 0 A = QQ
  unfold f_X11_restore at hf
  refine lv_iload_n hx hb dX11_restore_0 rfl (lv_at hl 1 rfl) ?_
  refine lv_iconst (v := 0) hx hb dX11_restore_1 (by decide) ?_
  refine lv_iconst (v := 1) hx hb dX11_restore_2 (by decide) ?_
  obtain ⟨z1, hq2, hf⟩ := bnd_some hf
  refine kR_i (va_runS (As := [.int x1, .int (0 : Int32), .int (1 : Int32)]) (rest := []) ⟨hx, hb, hml, hown, hts⟩ (c_X11_isWithin l g x1 (0 : Int32) (1 : Int32) z1 hq2) (va_cwS 3 hts gX11_restore_X11_isWithin rfl rfl rfl (by decide +kernel) ⟨Nat.le_of_ble_eq_true rfl, Nat.le_of_ble_eq_true rfl⟩) (kpS_R (hG.now hS) (hP.subm (ws' := []) [] rfl)) rfl rfl hl.1 rfl (lv_room (Nat.le_of_ble_eq_true rfl)) dX11_restore_3 ⟨Nat.le_of_ble_eq_true rfl, Nat.le_of_ble_eq_true rfl⟩) ?_
  refine lv_if_ne (tgt := 12) hx hb dX11_restore_6 (by decide) (fun c3 => ?_) (fun c3 => ?_)
  · replace hf := iff_ c3 hf
    refine lv_aload_n hx hb dX11_restore_12 rfl (lv_at hl 0 rfl) ?_
    refine lv_iload_n hx hb dX11_restore_13 rfl (lv_at hl 1 rfl) ?_
    by_cases c4 : x1 = 0
    · replace hf := ift c4 hf
      refine kR_r (va_runV (As := [.int x1]) (rest := []) ⟨hx, hb, hml, hown, hts⟩ (c_X11_imageAt_z l g q x1 c4) (cwV 1 hts gX11_restore_X11_imageAt rfl rfl rfl (by decide +kernel) ⟨Nat.le_of_ble_eq_true rfl, Nat.le_of_ble_eq_true rfl⟩) (kpV_R (q0 := 0) (ci := 9) (hG.now hS) (hP.subm (ws' := [((q 0), .inr (9, oX11 q))]) [0] rfl) rfl rfl) rfl rfl hl.1 rfl (lv_room (Nat.le_of_ble_eq_true rfl)) dX11_restore_14 ⟨Nat.le_of_ble_eq_true rfl, Nat.le_of_ble_eq_true rfl⟩) ?_
      refine lv_astore_n (lv' := [(2, .ref (q 25)), (0, .ref (q 0)), (1, .int x1)]) hx hb dX11_restore_17 rfl hl (by decide) rfl (fun ls hl => ?_)
      refine lv_aload_n hx hb dX11_restore_18 rfl (lv_at hl 0 rfl) ?_
      refine va_getN (D := gD g) (ci := 1) (v := .int v_imageZero_isKept) (C := RX3) (T := TX3) (N := 3) hx hb hts iX3 hown hK hP 7 rfl rfl 2 (by decide) (hG.nf 20 rfl) (fun _ h9 => h9) rfl dX11_restore_19 ?_
      refine lv_if_ne (tgt := 28) hx hb dX11_restore_22 (by decide) (fun c5 => ?_) (fun c5 => ?_)
      · replace hf := iff_ c5 hf
        refine lv_aload_n hx hb dX11_restore_28 rfl (lv_at hl 1 rfl) ?_
        refine va_get (D := gD g) (ci := 9) (v := .ref (q 1)) (C := RX11) (T := TX11) (N := 10) hx hb hts iX11 hown hK hP 0 rfl rfl 0 (by decide) (hts (.fieldLink RX11 10 "BeetleDrive" "now" "LBeetleDrive$Table;") (List.mem_of_getElem? (i := 1) rfl)) (fun _ h9 => h9) rfl dX11_restore_29 ?_
        refine lv_aload_n hx hb dX11_restore_32 rfl (lv_at hl 0 rfl) ?_
        refine va_getN (D := gD g) (ci := 1) (v := .ref (q 26)) (C := RX3) (T := TX3) (N := 3) hx hb hts iX3 hown hK hP 7 rfl rfl 0 (by decide) (hG.nf 18 rfl) (fun _ h9 => h9) rfl dX11_restore_33 ?_
        obtain ⟨z6, hq7, hf⟩ := bnd_some hf
        refine kM_v (wc := [((q 1), .inr (7, [.ref (q 2), .ref (q 3), .int v_now_inBits, .int v_now_holder, .int v_now_game])), ((q 2), .inl (gI g, 6, .inl v_now_drawn)), ((q 3), .inl (gI g, 6, .inl v_now_points)), ((q 26), .inr (7, [.ref (q 27), .ref (q 28), .int v_imageZero_table_inBits, .int v_imageZero_table_holder, .int v_imageZero_table_game])), ((q 27), .inl (gI g, 6, .inl v_imageZero_table_drawn)), ((q 28), .inl (gI g, 6, .inl v_imageZero_table_points))]) (wr := [((q 0), .inr (9, oX11 q)), ((q 17), .inr (5, [.ref (q 18), .ref (q 19), .int v_sights_size])), ((q 18), .inl (gI g, 8, .inl v_sights_rows)), ((q 19), .inl (gI g, 8, .inl v_sights_tops)), ((q 25), .inr (1, [.ref (q 26), .ref (q 29), .int v_imageZero_isKept])), ((q 29), .inr (5, [.ref (q 30), .ref (q 31), .int v_imageZero_sights_size])), ((q 30), .inl (gI g, 8, .inl v_imageZero_sights_rows)), ((q 31), .inl (gI g, 8, .inl v_imageZero_sights_tops)), ((q 32), .inr (1, [.ref (q 33), .ref (q 36), .int v_imageOne_isKept])), ((q 33), .inr (7, [.ref (q 34), .ref (q 35), .int v_imageOne_table_inBits, .int v_imageOne_table_holder, .int v_imageOne_table_game])), ((q 34), .inl (gI g, 6, .inl v_imageOne_table_drawn)), ((q 35), .inl (gI g, 6, .inl v_imageOne_table_points)), ((q 36), .inr (5, [.ref (q 37), .ref (q 38), .int v_imageOne_sights_size])), ((q 37), .inl (gI g, 8, .inl v_imageOne_sights_rows)), ((q 38), .inl (gI g, 8, .inl v_imageOne_sights_tops))]) (w1 := [((q 1), .inr (7, [.ref (q 2), .ref (q 3), .int z6.2.2.1, .int z6.2.2.2.1, .int z6.2.2.2.2])), ((q 2), .inl (gI g, 6, .inl z6.1)), ((q 3), .inl (gI g, 6, .inl z6.2.1)), ((q 26), .inr (7, [.ref (q 27), .ref (q 28), .int v_imageZero_table_inBits, .int v_imageZero_table_holder, .int v_imageZero_table_game])), ((q 27), .inl (gI g, 6, .inl v_imageZero_table_drawn)), ((q 28), .inl (gI g, 6, .inl v_imageZero_table_points))]) (w2 := [((q 0), .inr (9, oX11 q)), ((q 1), .inr (7, [.ref (q 2), .ref (q 3), .int z6.2.2.1, .int z6.2.2.2.1, .int z6.2.2.2.2])), ((q 2), .inl (gI g, 6, .inl z6.1)), ((q 3), .inl (gI g, 6, .inl z6.2.1)), ((q 17), .inr (5, [.ref (q 18), .ref (q 19), .int v_sights_size])), ((q 18), .inl (gI g, 8, .inl v_sights_rows)), ((q 19), .inl (gI g, 8, .inl v_sights_tops)), ((q 25), .inr (1, [.ref (q 26), .ref (q 29), .int v_imageZero_isKept])), ((q 26), .inr (7, [.ref (q 27), .ref (q 28), .int v_imageZero_table_inBits, .int v_imageZero_table_holder, .int v_imageZero_table_game])), ((q 27), .inl (gI g, 6, .inl v_imageZero_table_drawn)), ((q 28), .inl (gI g, 6, .inl v_imageZero_table_points)), ((q 29), .inr (5, [.ref (q 30), .ref (q 31), .int v_imageZero_sights_size])), ((q 30), .inl (gI g, 8, .inl v_imageZero_sights_rows)), ((q 31), .inl (gI g, 8, .inl v_imageZero_sights_tops)), ((q 32), .inr (1, [.ref (q 33), .ref (q 36), .int v_imageOne_isKept])), ((q 33), .inr (7, [.ref (q 34), .ref (q 35), .int v_imageOne_table_inBits, .int v_imageOne_table_holder, .int v_imageOne_table_game])), ((q 34), .inl (gI g, 6, .inl v_imageOne_table_drawn)), ((q 35), .inl (gI g, 6, .inl v_imageOne_table_points)), ((q 36), .inr (5, [.ref (q 37), .ref (q 38), .int v_imageOne_sights_size])), ((q 37), .inl (gI g, 8, .inl v_imageOne_sights_rows)), ((q 38), .inl (gI g, 8, .inl v_imageOne_sights_tops))]) (va_runV (As := [.ref (q 26)]) (rest := []) ⟨hx, hb, hml, hown, hts⟩ (c_X9_copyFrom l g (q 1) (q 2) (q 3) (q 26) (q 27) (q 28) v_now_inBits v_now_holder v_now_game v_now_drawn v_now_points v_imageZero_table_inBits v_imageZero_table_holder v_imageZero_table_game v_imageZero_table_drawn v_imageZero_table_points z6 hq7 s.heap.size) (cwV 1 hts gX11_restore_X9_copyFrom rfl rfl rfl (by decide +kernel) ⟨Nat.le_of_ble_eq_true rfl, Nat.le_of_ble_eq_true rfl⟩) (kpV_M (q0 := 0) (ci := 7) hG hS hP hD hA [1, 2, 3, 8, 9, 10] rfl (by decide) rfl rfl) rfl rfl hl.1 rfl (lv_room (Nat.le_of_ble_eq_true rfl)) dX11_restore_36 ⟨Nat.le_of_ble_eq_true rfl, Nat.le_of_ble_eq_true rfl⟩) hP hD hS hA [1, 2, 3, 8, 9, 10] [0, 4, 5, 6, 7, 11, 12, 13, 14, 15, 16, 17, 18, 19, 20] [0, 15, 16, 17, 1, 2, 3, 4, 18, 19, 20, 5, 6, 7, 8, 9, 10, 11, 12, 13, 14] rfl rfl (by decide) (by decide) rfl (by decide) (fun H locs hP hD hS => ?_)
        refine lv_aload_n hx hb dX11_restore_39 rfl (lv_at hl 1 rfl) ?_
        refine va_get (D := gD g) (ci := 9) (v := .ref (q 17)) (C := RX11) (T := TX11) (N := 10) hx hb hts iX11 hown hK hP 0 rfl rfl 5 (by decide) (hts (.fieldLink RX11 47 "BeetleDrive" "sights" "LBeetleDrive$Sights;") (List.mem_of_getElem? (i := 2) rfl)) (fun _ h9 => h9) rfl dX11_restore_40 ?_
        refine lv_aload_n hx hb dX11_restore_43 rfl (lv_at hl 0 rfl) ?_
        refine va_getN (D := gD g) (ci := 1) (v := .ref (q 29)) (C := RX3) (T := TX3) (N := 3) hx hb hts iX3 hown hK hP 7 rfl rfl 1 (by decide) (hG.nf 19 rfl) (fun _ h9 => h9) rfl dX11_restore_44 ?_
        obtain ⟨z8, hq9, hf⟩ := bnd_some hf
        refine kM_v (wc := [((q 17), .inr (5, [.ref (q 18), .ref (q 19), .int v_sights_size])), ((q 18), .inl (gI g, 8, .inl v_sights_rows)), ((q 19), .inl (gI g, 8, .inl v_sights_tops)), ((q 29), .inr (5, [.ref (q 30), .ref (q 31), .int v_imageZero_sights_size])), ((q 30), .inl (gI g, 8, .inl v_imageZero_sights_rows)), ((q 31), .inl (gI g, 8, .inl v_imageZero_sights_tops))]) (wr := [((q 0), .inr (9, oX11 q)), ((q 1), .inr (7, [.ref (q 2), .ref (q 3), .int z6.2.2.1, .int z6.2.2.2.1, .int z6.2.2.2.2])), ((q 2), .inl (gI g, 6, .inl z6.1)), ((q 3), .inl (gI g, 6, .inl z6.2.1)), ((q 25), .inr (1, [.ref (q 26), .ref (q 29), .int v_imageZero_isKept])), ((q 26), .inr (7, [.ref (q 27), .ref (q 28), .int v_imageZero_table_inBits, .int v_imageZero_table_holder, .int v_imageZero_table_game])), ((q 27), .inl (gI g, 6, .inl v_imageZero_table_drawn)), ((q 28), .inl (gI g, 6, .inl v_imageZero_table_points)), ((q 32), .inr (1, [.ref (q 33), .ref (q 36), .int v_imageOne_isKept])), ((q 33), .inr (7, [.ref (q 34), .ref (q 35), .int v_imageOne_table_inBits, .int v_imageOne_table_holder, .int v_imageOne_table_game])), ((q 34), .inl (gI g, 6, .inl v_imageOne_table_drawn)), ((q 35), .inl (gI g, 6, .inl v_imageOne_table_points)), ((q 36), .inr (5, [.ref (q 37), .ref (q 38), .int v_imageOne_sights_size])), ((q 37), .inl (gI g, 8, .inl v_imageOne_sights_rows)), ((q 38), .inl (gI g, 8, .inl v_imageOne_sights_tops))]) (w1 := [((q 17), .inr (5, [.ref (q 18), .ref (q 19), .int z8.2.2])), ((q 18), .inl (gI g, 8, .inl z8.1)), ((q 19), .inl (gI g, 8, .inl z8.2.1)), ((q 29), .inr (5, [.ref (q 30), .ref (q 31), .int v_imageZero_sights_size])), ((q 30), .inl (gI g, 8, .inl v_imageZero_sights_rows)), ((q 31), .inl (gI g, 8, .inl v_imageZero_sights_tops))]) (w2 := [((q 0), .inr (9, oX11 q)), ((q 1), .inr (7, [.ref (q 2), .ref (q 3), .int z6.2.2.1, .int z6.2.2.2.1, .int z6.2.2.2.2])), ((q 2), .inl (gI g, 6, .inl z6.1)), ((q 3), .inl (gI g, 6, .inl z6.2.1)), ((q 17), .inr (5, [.ref (q 18), .ref (q 19), .int z8.2.2])), ((q 18), .inl (gI g, 8, .inl z8.1)), ((q 19), .inl (gI g, 8, .inl z8.2.1)), ((q 25), .inr (1, [.ref (q 26), .ref (q 29), .int v_imageZero_isKept])), ((q 26), .inr (7, [.ref (q 27), .ref (q 28), .int v_imageZero_table_inBits, .int v_imageZero_table_holder, .int v_imageZero_table_game])), ((q 27), .inl (gI g, 6, .inl v_imageZero_table_drawn)), ((q 28), .inl (gI g, 6, .inl v_imageZero_table_points)), ((q 29), .inr (5, [.ref (q 30), .ref (q 31), .int v_imageZero_sights_size])), ((q 30), .inl (gI g, 8, .inl v_imageZero_sights_rows)), ((q 31), .inl (gI g, 8, .inl v_imageZero_sights_tops)), ((q 32), .inr (1, [.ref (q 33), .ref (q 36), .int v_imageOne_isKept])), ((q 33), .inr (7, [.ref (q 34), .ref (q 35), .int v_imageOne_table_inBits, .int v_imageOne_table_holder, .int v_imageOne_table_game])), ((q 34), .inl (gI g, 6, .inl v_imageOne_table_drawn)), ((q 35), .inl (gI g, 6, .inl v_imageOne_table_points)), ((q 36), .inr (5, [.ref (q 37), .ref (q 38), .int v_imageOne_sights_size])), ((q 37), .inl (gI g, 8, .inl v_imageOne_sights_rows)), ((q 38), .inl (gI g, 8, .inl v_imageOne_sights_tops))]) (va_runV (As := [.ref (q 29)]) (rest := []) ⟨hx, hb, hml, hown, hts⟩ (c_X7_copyFrom l g (q 17) (q 18) (q 19) (q 29) (q 30) (q 31) v_sights_size v_sights_rows v_sights_tops v_imageZero_sights_size v_imageZero_sights_rows v_imageZero_sights_tops z8 hq9 H.size) (cwV 1 hts gX11_restore_X7_copyFrom rfl rfl rfl (by decide +kernel) ⟨Nat.le_of_ble_eq_true rfl, Nat.le_of_ble_eq_true rfl⟩) (kpV_M (q0 := 0) (ci := 5) hG hS hP hD hA [4, 5, 6, 11, 12, 13] rfl (by decide) rfl rfl) rfl rfl hl.1 rfl (lv_room (Nat.le_of_ble_eq_true rfl)) dX11_restore_47 ⟨Nat.le_of_ble_eq_true rfl, Nat.le_of_ble_eq_true rfl⟩) hP hD hS hA [4, 5, 6, 11, 12, 13] [0, 1, 2, 3, 7, 8, 9, 10, 14, 15, 16, 17, 18, 19, 20] [0, 1, 2, 3, 15, 16, 17, 4, 5, 6, 7, 18, 19, 20, 8, 9, 10, 11, 12, 13, 14] rfl rfl (by decide) (by decide) rfl (by decide) (fun H locs hP hD hS => ?_)
        refine lv_iconst (v := 1) hx hb dX11_restore_50 (by decide) ?_
        rw [← hQ, ← Option.some.inj hf]
        exact eM_i hx hb hr hlk hP hD hS rfl dX11_restore_51
      · replace hf := ift c5 hf
        refine lv_bipush (v := -3) hx hb dX11_restore_25 (by decide) ?_
        rw [← hQ, ← Option.some.inj hf]
        exact eM_i hx hb hr hlk hP hD hS rfl dX11_restore_27
    · replace hf := iff_ c4 hf
      refine kR_r (va_runV (As := [.int x1]) (rest := []) ⟨hx, hb, hml, hown, hts⟩ (c_X11_imageAt_o l g q x1 c4) (cwV 1 hts gX11_restore_X11_imageAt rfl rfl rfl (by decide +kernel) ⟨Nat.le_of_ble_eq_true rfl, Nat.le_of_ble_eq_true rfl⟩) (kpV_R (q0 := 0) (ci := 9) (hG.now hS) (hP.subm (ws' := [((q 0), .inr (9, oX11 q))]) [0] rfl) rfl rfl) rfl rfl hl.1 rfl (lv_room (Nat.le_of_ble_eq_true rfl)) dX11_restore_14 ⟨Nat.le_of_ble_eq_true rfl, Nat.le_of_ble_eq_true rfl⟩) ?_
      refine lv_astore_n (lv' := [(2, .ref (q 32)), (0, .ref (q 0)), (1, .int x1)]) hx hb dX11_restore_17 rfl hl (by decide) rfl (fun ls hl => ?_)
      refine lv_aload_n hx hb dX11_restore_18 rfl (lv_at hl 0 rfl) ?_
      refine va_getN (D := gD g) (ci := 1) (v := .int v_imageOne_isKept) (C := RX3) (T := TX3) (N := 3) hx hb hts iX3 hown hK hP 14 rfl rfl 2 (by decide) (hG.nf 20 rfl) (fun _ h9 => h9) rfl dX11_restore_19 ?_
      refine lv_if_ne (tgt := 28) hx hb dX11_restore_22 (by decide) (fun c10 => ?_) (fun c10 => ?_)
      · replace hf := iff_ c10 hf
        refine lv_aload_n hx hb dX11_restore_28 rfl (lv_at hl 1 rfl) ?_
        refine va_get (D := gD g) (ci := 9) (v := .ref (q 1)) (C := RX11) (T := TX11) (N := 10) hx hb hts iX11 hown hK hP 0 rfl rfl 0 (by decide) (hts (.fieldLink RX11 10 "BeetleDrive" "now" "LBeetleDrive$Table;") (List.mem_of_getElem? (i := 1) rfl)) (fun _ h9 => h9) rfl dX11_restore_29 ?_
        refine lv_aload_n hx hb dX11_restore_32 rfl (lv_at hl 0 rfl) ?_
        refine va_getN (D := gD g) (ci := 1) (v := .ref (q 33)) (C := RX3) (T := TX3) (N := 3) hx hb hts iX3 hown hK hP 14 rfl rfl 0 (by decide) (hG.nf 18 rfl) (fun _ h9 => h9) rfl dX11_restore_33 ?_
        obtain ⟨z11, hq12, hf⟩ := bnd_some hf
        refine kM_v (wc := [((q 1), .inr (7, [.ref (q 2), .ref (q 3), .int v_now_inBits, .int v_now_holder, .int v_now_game])), ((q 2), .inl (gI g, 6, .inl v_now_drawn)), ((q 3), .inl (gI g, 6, .inl v_now_points)), ((q 33), .inr (7, [.ref (q 34), .ref (q 35), .int v_imageOne_table_inBits, .int v_imageOne_table_holder, .int v_imageOne_table_game])), ((q 34), .inl (gI g, 6, .inl v_imageOne_table_drawn)), ((q 35), .inl (gI g, 6, .inl v_imageOne_table_points))]) (wr := [((q 0), .inr (9, oX11 q)), ((q 17), .inr (5, [.ref (q 18), .ref (q 19), .int v_sights_size])), ((q 18), .inl (gI g, 8, .inl v_sights_rows)), ((q 19), .inl (gI g, 8, .inl v_sights_tops)), ((q 25), .inr (1, [.ref (q 26), .ref (q 29), .int v_imageZero_isKept])), ((q 26), .inr (7, [.ref (q 27), .ref (q 28), .int v_imageZero_table_inBits, .int v_imageZero_table_holder, .int v_imageZero_table_game])), ((q 27), .inl (gI g, 6, .inl v_imageZero_table_drawn)), ((q 28), .inl (gI g, 6, .inl v_imageZero_table_points)), ((q 29), .inr (5, [.ref (q 30), .ref (q 31), .int v_imageZero_sights_size])), ((q 30), .inl (gI g, 8, .inl v_imageZero_sights_rows)), ((q 31), .inl (gI g, 8, .inl v_imageZero_sights_tops)), ((q 32), .inr (1, [.ref (q 33), .ref (q 36), .int v_imageOne_isKept])), ((q 36), .inr (5, [.ref (q 37), .ref (q 38), .int v_imageOne_sights_size])), ((q 37), .inl (gI g, 8, .inl v_imageOne_sights_rows)), ((q 38), .inl (gI g, 8, .inl v_imageOne_sights_tops))]) (w1 := [((q 1), .inr (7, [.ref (q 2), .ref (q 3), .int z11.2.2.1, .int z11.2.2.2.1, .int z11.2.2.2.2])), ((q 2), .inl (gI g, 6, .inl z11.1)), ((q 3), .inl (gI g, 6, .inl z11.2.1)), ((q 33), .inr (7, [.ref (q 34), .ref (q 35), .int v_imageOne_table_inBits, .int v_imageOne_table_holder, .int v_imageOne_table_game])), ((q 34), .inl (gI g, 6, .inl v_imageOne_table_drawn)), ((q 35), .inl (gI g, 6, .inl v_imageOne_table_points))]) (w2 := [((q 0), .inr (9, oX11 q)), ((q 1), .inr (7, [.ref (q 2), .ref (q 3), .int z11.2.2.1, .int z11.2.2.2.1, .int z11.2.2.2.2])), ((q 2), .inl (gI g, 6, .inl z11.1)), ((q 3), .inl (gI g, 6, .inl z11.2.1)), ((q 17), .inr (5, [.ref (q 18), .ref (q 19), .int v_sights_size])), ((q 18), .inl (gI g, 8, .inl v_sights_rows)), ((q 19), .inl (gI g, 8, .inl v_sights_tops)), ((q 25), .inr (1, [.ref (q 26), .ref (q 29), .int v_imageZero_isKept])), ((q 26), .inr (7, [.ref (q 27), .ref (q 28), .int v_imageZero_table_inBits, .int v_imageZero_table_holder, .int v_imageZero_table_game])), ((q 27), .inl (gI g, 6, .inl v_imageZero_table_drawn)), ((q 28), .inl (gI g, 6, .inl v_imageZero_table_points)), ((q 29), .inr (5, [.ref (q 30), .ref (q 31), .int v_imageZero_sights_size])), ((q 30), .inl (gI g, 8, .inl v_imageZero_sights_rows)), ((q 31), .inl (gI g, 8, .inl v_imageZero_sights_tops)), ((q 32), .inr (1, [.ref (q 33), .ref (q 36), .int v_imageOne_isKept])), ((q 33), .inr (7, [.ref (q 34), .ref (q 35), .int v_imageOne_table_inBits, .int v_imageOne_table_holder, .int v_imageOne_table_game])), ((q 34), .inl (gI g, 6, .inl v_imageOne_table_drawn)), ((q 35), .inl (gI g, 6, .inl v_imageOne_table_points)), ((q 36), .inr (5, [.ref (q 37), .ref (q 38), .int v_imageOne_sights_size])), ((q 37), .inl (gI g, 8, .inl v_imageOne_sights_rows)), ((q 38), .inl (gI g, 8, .inl v_imageOne_sights_tops))]) (va_runV (As := [.ref (q 33)]) (rest := []) ⟨hx, hb, hml, hown, hts⟩ (c_X9_copyFrom l g (q 1) (q 2) (q 3) (q 33) (q 34) (q 35) v_now_inBits v_now_holder v_now_game v_now_drawn v_now_points v_imageOne_table_inBits v_imageOne_table_holder v_imageOne_table_game v_imageOne_table_drawn v_imageOne_table_points z11 hq12 s.heap.size) (cwV 1 hts gX11_restore_X9_copyFrom rfl rfl rfl (by decide +kernel) ⟨Nat.le_of_ble_eq_true rfl, Nat.le_of_ble_eq_true rfl⟩) (kpV_M (q0 := 0) (ci := 7) hG hS hP hD hA [1, 2, 3, 15, 16, 17] rfl (by decide) rfl rfl) rfl rfl hl.1 rfl (lv_room (Nat.le_of_ble_eq_true rfl)) dX11_restore_36 ⟨Nat.le_of_ble_eq_true rfl, Nat.le_of_ble_eq_true rfl⟩) hP hD hS hA [1, 2, 3, 15, 16, 17] [0, 4, 5, 6, 7, 8, 9, 10, 11, 12, 13, 14, 18, 19, 20] [0, 15, 16, 17, 1, 2, 3, 4, 5, 6, 7, 8, 9, 10, 11, 18, 19, 20, 12, 13, 14] rfl rfl (by decide) (by decide) rfl (by decide) (fun H locs hP hD hS => ?_)
        refine lv_aload_n hx hb dX11_restore_39 rfl (lv_at hl 1 rfl) ?_
        refine va_get (D := gD g) (ci := 9) (v := .ref (q 17)) (C := RX11) (T := TX11) (N := 10) hx hb hts iX11 hown hK hP 0 rfl rfl 5 (by decide) (hts (.fieldLink RX11 47 "BeetleDrive" "sights" "LBeetleDrive$Sights;") (List.mem_of_getElem? (i := 2) rfl)) (fun _ h9 => h9) rfl dX11_restore_40 ?_
        refine lv_aload_n hx hb dX11_restore_43 rfl (lv_at hl 0 rfl) ?_
        refine va_getN (D := gD g) (ci := 1) (v := .ref (q 36)) (C := RX3) (T := TX3) (N := 3) hx hb hts iX3 hown hK hP 14 rfl rfl 1 (by decide) (hG.nf 19 rfl) (fun _ h9 => h9) rfl dX11_restore_44 ?_
        obtain ⟨z13, hq14, hf⟩ := bnd_some hf
        refine kM_v (wc := [((q 17), .inr (5, [.ref (q 18), .ref (q 19), .int v_sights_size])), ((q 18), .inl (gI g, 8, .inl v_sights_rows)), ((q 19), .inl (gI g, 8, .inl v_sights_tops)), ((q 36), .inr (5, [.ref (q 37), .ref (q 38), .int v_imageOne_sights_size])), ((q 37), .inl (gI g, 8, .inl v_imageOne_sights_rows)), ((q 38), .inl (gI g, 8, .inl v_imageOne_sights_tops))]) (wr := [((q 0), .inr (9, oX11 q)), ((q 1), .inr (7, [.ref (q 2), .ref (q 3), .int z11.2.2.1, .int z11.2.2.2.1, .int z11.2.2.2.2])), ((q 2), .inl (gI g, 6, .inl z11.1)), ((q 3), .inl (gI g, 6, .inl z11.2.1)), ((q 25), .inr (1, [.ref (q 26), .ref (q 29), .int v_imageZero_isKept])), ((q 26), .inr (7, [.ref (q 27), .ref (q 28), .int v_imageZero_table_inBits, .int v_imageZero_table_holder, .int v_imageZero_table_game])), ((q 27), .inl (gI g, 6, .inl v_imageZero_table_drawn)), ((q 28), .inl (gI g, 6, .inl v_imageZero_table_points)), ((q 29), .inr (5, [.ref (q 30), .ref (q 31), .int v_imageZero_sights_size])), ((q 30), .inl (gI g, 8, .inl v_imageZero_sights_rows)), ((q 31), .inl (gI g, 8, .inl v_imageZero_sights_tops)), ((q 32), .inr (1, [.ref (q 33), .ref (q 36), .int v_imageOne_isKept])), ((q 33), .inr (7, [.ref (q 34), .ref (q 35), .int v_imageOne_table_inBits, .int v_imageOne_table_holder, .int v_imageOne_table_game])), ((q 34), .inl (gI g, 6, .inl v_imageOne_table_drawn)), ((q 35), .inl (gI g, 6, .inl v_imageOne_table_points))]) (w1 := [((q 17), .inr (5, [.ref (q 18), .ref (q 19), .int z13.2.2])), ((q 18), .inl (gI g, 8, .inl z13.1)), ((q 19), .inl (gI g, 8, .inl z13.2.1)), ((q 36), .inr (5, [.ref (q 37), .ref (q 38), .int v_imageOne_sights_size])), ((q 37), .inl (gI g, 8, .inl v_imageOne_sights_rows)), ((q 38), .inl (gI g, 8, .inl v_imageOne_sights_tops))]) (w2 := [((q 0), .inr (9, oX11 q)), ((q 1), .inr (7, [.ref (q 2), .ref (q 3), .int z11.2.2.1, .int z11.2.2.2.1, .int z11.2.2.2.2])), ((q 2), .inl (gI g, 6, .inl z11.1)), ((q 3), .inl (gI g, 6, .inl z11.2.1)), ((q 17), .inr (5, [.ref (q 18), .ref (q 19), .int z13.2.2])), ((q 18), .inl (gI g, 8, .inl z13.1)), ((q 19), .inl (gI g, 8, .inl z13.2.1)), ((q 25), .inr (1, [.ref (q 26), .ref (q 29), .int v_imageZero_isKept])), ((q 26), .inr (7, [.ref (q 27), .ref (q 28), .int v_imageZero_table_inBits, .int v_imageZero_table_holder, .int v_imageZero_table_game])), ((q 27), .inl (gI g, 6, .inl v_imageZero_table_drawn)), ((q 28), .inl (gI g, 6, .inl v_imageZero_table_points)), ((q 29), .inr (5, [.ref (q 30), .ref (q 31), .int v_imageZero_sights_size])), ((q 30), .inl (gI g, 8, .inl v_imageZero_sights_rows)), ((q 31), .inl (gI g, 8, .inl v_imageZero_sights_tops)), ((q 32), .inr (1, [.ref (q 33), .ref (q 36), .int v_imageOne_isKept])), ((q 33), .inr (7, [.ref (q 34), .ref (q 35), .int v_imageOne_table_inBits, .int v_imageOne_table_holder, .int v_imageOne_table_game])), ((q 34), .inl (gI g, 6, .inl v_imageOne_table_drawn)), ((q 35), .inl (gI g, 6, .inl v_imageOne_table_points)), ((q 36), .inr (5, [.ref (q 37), .ref (q 38), .int v_imageOne_sights_size])), ((q 37), .inl (gI g, 8, .inl v_imageOne_sights_rows)), ((q 38), .inl (gI g, 8, .inl v_imageOne_sights_tops))]) (va_runV (As := [.ref (q 36)]) (rest := []) ⟨hx, hb, hml, hown, hts⟩ (c_X7_copyFrom l g (q 17) (q 18) (q 19) (q 36) (q 37) (q 38) v_sights_size v_sights_rows v_sights_tops v_imageOne_sights_size v_imageOne_sights_rows v_imageOne_sights_tops z13 hq14 H.size) (cwV 1 hts gX11_restore_X7_copyFrom rfl rfl rfl (by decide +kernel) ⟨Nat.le_of_ble_eq_true rfl, Nat.le_of_ble_eq_true rfl⟩) (kpV_M (q0 := 0) (ci := 5) hG hS hP hD hA [4, 5, 6, 18, 19, 20] rfl (by decide) rfl rfl) rfl rfl hl.1 rfl (lv_room (Nat.le_of_ble_eq_true rfl)) dX11_restore_47 ⟨Nat.le_of_ble_eq_true rfl, Nat.le_of_ble_eq_true rfl⟩) hP hD hS hA [4, 5, 6, 18, 19, 20] [0, 1, 2, 3, 7, 8, 9, 10, 11, 12, 13, 14, 15, 16, 17] [0, 1, 2, 3, 15, 16, 17, 4, 5, 6, 7, 8, 9, 10, 11, 12, 13, 14, 18, 19, 20] rfl rfl (by decide) (by decide) rfl (by decide) (fun H locs hP hD hS => ?_)
        refine lv_iconst (v := 1) hx hb dX11_restore_50 (by decide) ?_
        rw [← hQ, ← Option.some.inj hf]
        exact eM_i hx hb hr hlk hP hD hS rfl dX11_restore_51
      · replace hf := ift c10 hf
        refine lv_bipush (v := -3) hx hb dX11_restore_25 (by decide) ?_
        rw [← hQ, ← Option.some.inj hf]
        exact eM_i hx hb hr hlk hP hD hS rfl dX11_restore_27
  · replace hf := ift c3 hf
    refine lv_bipush (v := -2) hx hb dX11_restore_9 (by decide) ?_
    rw [← hQ, ← Option.some.inj hf]
    exact eM_i hx hb hr hlk hP hD hS rfl dX11_restore_11
set_option maxHeartbeats 4000000 in
set_option maxRecDepth 100000 in
theorem c_X11_toldOfPlayer (l : Launch) (g : bG) (q : Nat → Nat) (v_now_inBits : Int32) (v_now_holder : Int32) (v_now_game : Int32) (v_now_drawn : Nat → Int32) (v_now_points : Nat → Int32) (x1 : Int32) (x2 : Int32) (out : Int32) (hf : f_X11_toldOfPlayer v_now_drawn v_now_points v_now_inBits x1 x2 = some out) : Ri l g yX11_toldOfPlayer wsX11_toldOfPlayer ({ frames := 2, cells := 0, slots := 0, locals := 42 } : Room) [.ref (q 0), .int x1, .int x2] [((q 0), .inr (9, oX11 q)), ((q 1), .inr (7, [.ref (q 2), .ref (q 3), .int v_now_inBits, .int v_now_holder, .int v_now_game])), ((q 2), .inl (gI g, 6, .inl v_now_drawn)), ((q 3), .inl (gI g, 6, .inl v_now_points))] out := by
  refine ofR (cc := cX11_toldOfPlayer) (nL := 3) (ret := some .int) (by decide) rfl (Nat.le_of_ble_eq_true rfl) ?_
  intro p e s m below meth c ar hC hP hG ls hl
  have hS : va_S (fun _ => False) s.heap s.heap [] := va_S.rf
  obtain ⟨hx, hb, hml, hown, hts, hr, hlk, -⟩ := hC
  have hl : lv_has ls 3 [(0, .ref (q 0)), (1, .int x1), (2, .int x2)] := hl
  have hK := hG.1
  have iX11 : ∀ w ∈ u_ws RX11 TX11 10, w ∈ wsX11_toldOfPlayer := fun w h => List.mem_cons_of_mem _ (List.mem_append_left _ (List.mem_append_right _ (h)))
  have iX9 : ∀ w ∈ u_ws RX9 TX9 5, w ∈ wsX11_toldOfPlayer := fun w h => List.mem_cons_of_mem _ (List.mem_append_right _ (h))
  generalize hQ : MQ below (vp_Si (fun x => x = out)) ar s 0 0 (fun _ => False) = QQ
  unfold f_X11_toldOfPlayer at hf
  refine lv_iload_n hx hb dX11_toldOfPlayer_0 rfl (lv_at hl 2 rfl) ?_
  obtain ⟨z1, hq2, hf⟩ := bnd_some hf
  refine kR_i (va_runS (As := [.int x2]) (rest := []) ⟨hx, hb, hml, hown, hts⟩ (c_X11_isPlayer l g x2 z1 hq2) (va_cwS 1 hts gX11_toldOfPlayer_X11_isPlayer rfl rfl rfl (by decide +kernel) ⟨Nat.le_of_ble_eq_true rfl, Nat.le_of_ble_eq_true rfl⟩) (kpS_R hG (hP.subm (ws' := []) [] rfl)) rfl rfl hl.1 rfl (lv_room (Nat.le_of_ble_eq_true rfl)) dX11_toldOfPlayer_1 ⟨Nat.le_of_ble_eq_true rfl, Nat.le_of_ble_eq_true rfl⟩) ?_
  refine lv_if_ne (tgt := 10) hx hb dX11_toldOfPlayer_4 (by decide) (fun c3 => ?_) (fun c3 => ?_)
  · replace hf := iff_ c3 hf
    refine lv_iload_n hx hb dX11_toldOfPlayer_10 rfl (lv_at hl 1 rfl) ?_
    by_cases c4 : x1 = 1
    · replace hf := ift c4 hf
      refine lv_tableIn (off := 25) (tgt := 36) hx hb dX11_toldOfPlayer_11 (by rw [c4]; decide) (by rw [c4]; decide) (by rw [c4]; rfl) (by decide) ?_
      refine lv_aload_n hx hb dX11_toldOfPlayer_36 rfl (lv_at hl 0 rfl) ?_
      refine va_get (D := gD g) (ci := 9) (v := .ref (q 1)) (C := RX11) (T := TX11) (N := 10) hx hb hts iX11 hown hK hP 0 rfl rfl 0 (by decide) (hts (.fieldLink RX11 10 "BeetleDrive" "now" "LBeetleDrive$Table;") (List.mem_of_getElem? (i := 1) rfl)) (fun _ h9 => h9) rfl dX11_toldOfPlayer_37 ?_
      refine va_getN (D := gD g) (ci := 7) (v := .ref (q 2)) (C := RX9) (T := TX9) (N := 5) hx hb hts iX9 hown hK hP 1 rfl rfl 0 (by decide) (hG.nf 0 rfl) (fun _ h9 => h9) rfl dX11_toldOfPlayer_40 ?_
      refine lv_iload_n hx hb dX11_toldOfPlayer_43 rfl (lv_at hl 2 rfl) ?_
      obtain ⟨hi5, hf⟩ := chk_some hf
      refine va_iald hx hb hK hP 2 0 rfl rfl hi5 dX11_toldOfPlayer_44 ?_
      rw [← hQ, ← Option.some.inj hf]
      exact eR_i hx hb hr hlk rfl dX11_toldOfPlayer_45
    · replace hf := iff_ c4 hf
      by_cases c6 : x1 = 2
      · replace hf := ift c6 hf
        refine lv_tableIn (off := 35) (tgt := 46) hx hb dX11_toldOfPlayer_11 (by rw [c6]; decide) (by rw [c6]; decide) (by rw [c6]; rfl) (by decide) ?_
        refine lv_aload_n hx hb dX11_toldOfPlayer_46 rfl (lv_at hl 0 rfl) ?_
        refine va_get (D := gD g) (ci := 9) (v := .ref (q 1)) (C := RX11) (T := TX11) (N := 10) hx hb hts iX11 hown hK hP 0 rfl rfl 0 (by decide) (hts (.fieldLink RX11 10 "BeetleDrive" "now" "LBeetleDrive$Table;") (List.mem_of_getElem? (i := 1) rfl)) (fun _ h9 => h9) rfl dX11_toldOfPlayer_47 ?_
        refine va_getN (D := gD g) (ci := 7) (v := .ref (q 3)) (C := RX9) (T := TX9) (N := 5) hx hb hts iX9 hown hK hP 1 rfl rfl 1 (by decide) (hG.nf 1 rfl) (fun _ h9 => h9) rfl dX11_toldOfPlayer_50 ?_
        refine lv_iload_n hx hb dX11_toldOfPlayer_53 rfl (lv_at hl 2 rfl) ?_
        obtain ⟨hi7, hf⟩ := chk_some hf
        refine va_iald hx hb hK hP 3 0 rfl rfl hi7 dX11_toldOfPlayer_54 ?_
        rw [← hQ, ← Option.some.inj hf]
        exact eR_i hx hb hr hlk rfl dX11_toldOfPlayer_55
      · replace hf := iff_ c6 hf
        by_cases c8 : x1 = 3
        · replace hf := ift c8 hf
          refine lv_tableIn (off := 45) (tgt := 56) hx hb dX11_toldOfPlayer_11 (by rw [c8]; decide) (by rw [c8]; decide) (by rw [c8]; rfl) (by decide) ?_
          refine lv_aload_n hx hb dX11_toldOfPlayer_56 rfl (lv_at hl 0 rfl) ?_
          refine va_get (D := gD g) (ci := 9) (v := .ref (q 1)) (C := RX11) (T := TX11) (N := 10) hx hb hts iX11 hown hK hP 0 rfl rfl 0 (by decide) (hts (.fieldLink RX11 10 "BeetleDrive" "now" "LBeetleDrive$Table;") (List.mem_of_getElem? (i := 1) rfl)) (fun _ h9 => h9) rfl dX11_toldOfPlayer_57 ?_
          refine lv_iload_n hx hb dX11_toldOfPlayer_60 rfl (lv_at hl 2 rfl) ?_
          obtain ⟨z9, hq10, hf⟩ := bnd_some hf
          refine kR_i (va_runV (As := [.int x2]) (rest := []) ⟨hx, hb, hml, hown, hts⟩ (c_X9_isIn l g (q 1) (q 2) (q 3) v_now_inBits v_now_holder v_now_game x2 z9 hq10) (cwV 1 hts gX11_toldOfPlayer_X9_isIn rfl rfl rfl (by decide +kernel) ⟨Nat.le_of_ble_eq_true rfl, Nat.le_of_ble_eq_true rfl⟩) (kpV_R (q0 := 0) (ci := 7) hG (hP.subm (ws' := [((q 1), .inr (7, [.ref (q 2), .ref (q 3), .int v_now_inBits, .int v_now_holder, .int v_now_game]))]) [1] rfl) rfl rfl) rfl rfl hl.1 rfl (lv_room (Nat.le_of_ble_eq_true rfl)) dX11_toldOfPlayer_61 ⟨Nat.le_of_ble_eq_true rfl, Nat.le_of_ble_eq_true rfl⟩) ?_
          refine lv_if_eq (tgt := 71) hx hb dX11_toldOfPlayer_64 (by decide) (fun c11 => ?_) (fun c11 => ?_)
          · replace hf := ift c11 hf
            refine lv_iconst (v := 0) hx hb dX11_toldOfPlayer_71 (by decide) ?_
            rw [← hQ, ← Option.some.inj hf]
            exact eR_i hx hb hr hlk rfl dX11_toldOfPlayer_72
          · replace hf := iff_ c11 hf
            refine lv_iconst (v := 1) hx hb dX11_toldOfPlayer_67 (by decide) ?_
            refine lv_goto (tgt := 72) hx hb dX11_toldOfPlayer_68 (by decide) ?_
            rw [← hQ, ← Option.some.inj hf]
            exact eR_i hx hb hr hlk rfl dX11_toldOfPlayer_72
        · replace hf := iff_ c8 hf
          have ec4 := lv_neT c4 (a := 1) (by decide)
          have ec6 := lv_neT c6 (a := 2) (by decide)
          have ec8 := lv_neT c8 (a := 3) (by decide)
          refine lv_tableOut (tgt := 73) hx hb dX11_toldOfPlayer_11 (by omega) (by decide) ?_
          refine lv_bipush (v := -2) hx hb dX11_toldOfPlayer_73 (by decide) ?_
          rw [← hQ, ← Option.some.inj hf]
          exact eR_i hx hb hr hlk rfl dX11_toldOfPlayer_75
  · replace hf := ift c3 hf
    refine lv_bipush (v := -2) hx hb dX11_toldOfPlayer_7 (by decide) ?_
    rw [← hQ, ← Option.some.inj hf]
    exact eR_i hx hb hr hlk rfl dX11_toldOfPlayer_9
set_option maxHeartbeats 4000000 in
set_option maxRecDepth 100000 in
theorem c_X11_toldOfAll (l : Launch) (g : bG) (q : Nat → Nat) (v_now_inBits : Int32) (v_now_holder : Int32) (v_now_game : Int32) (v_pad_size : Int32) (v_sights_size : Int32) (x1 : Int32) (out : Int32) (hf : f_X11_toldOfAll v_now_holder v_now_game v_pad_size v_sights_size x1 = some out) : Ri l g yX11_toldOfAll wsX11_toldOfAll ({ frames := 0, cells := 0, slots := 0, locals := 0 } : Room) [.ref (q 0), .int x1] [((q 0), .inr (9, oX11 q)), ((q 1), .inr (7, [.ref (q 2), .ref (q 3), .int v_now_inBits, .int v_now_holder, .int v_now_game])), ((q 4), .inr (3, [.ref (q 5), .int v_pad_size])), ((q 17), .inr (5, [.ref (q 18), .ref (q 19), .int v_sights_size]))] out := by
  refine ofR (cc := cX11_toldOfAll) (nL := 2) (ret := some .int) (by decide) rfl (Nat.le_of_ble_eq_true rfl) ?_
  intro p e s m below meth c ar hC hP hG ls hl
  have hS : va_S (fun _ => False) s.heap s.heap [] := va_S.rf
  obtain ⟨hx, hb, hml, hown, hts, hr, hlk, -⟩ := hC
  have hl : lv_has ls 2 [(0, .ref (q 0)), (1, .int x1)] := hl
  have hK := hG.1
  have iX11 : ∀ w ∈ u_ws RX11 TX11 10, w ∈ wsX11_toldOfAll := fun w h => List.mem_cons_of_mem _ (List.mem_append_left _ (List.mem_append_left _ (List.mem_append_left _ (List.mem_append_right _ (h)))))
  have iX5 : ∀ w ∈ u_ws RX5 TX5 2, w ∈ wsX11_toldOfAll := fun w h => List.mem_cons_of_mem _ (List.mem_append_left _ (List.mem_append_left _ (List.mem_append_right _ (h))))
  have iX9 : ∀ w ∈ u_ws RX9 TX9 5, w ∈ wsX11_toldOfAll := fun w h => List.mem_cons_of_mem _ (List.mem_append_left _ (List.mem_append_right _ (h)))
  have iX7 : ∀ w ∈ u_ws RX7 TX7 3, w ∈ wsX11_toldOfAll := fun w h => List.mem_cons_of_mem _ (List.mem_append_right _ (h))
  generalize hQ : MQ below (vp_Si (fun x => x = out)) ar s 0 0 (fun _ => False) = QQ
  unfold f_X11_toldOfAll at hf
  refine lv_iload_n hx hb dX11_toldOfAll_0 rfl (lv_at hl 1 rfl) ?_
  by_cases c1 : x1 = 0
  · replace hf := ift c1 hf
    refine lv_tableIn (off := 31) (tgt := 32) hx hb dX11_toldOfAll_1 (by rw [c1]; decide) (by rw [c1]; decide) (by rw [c1]; rfl) (by decide) ?_
    refine lv_aload_n hx hb dX11_toldOfAll_32 rfl (lv_at hl 0 rfl) ?_
    refine va_get (D := gD g) (ci := 9) (v := .ref (q 4)) (C := RX11) (T := TX11) (N := 10) hx hb hts iX11 hown hK hP 0 rfl rfl 1 (by decide) (hts (.fieldLink RX11 19 "BeetleDrive" "pad" "LBeetleDrive$Pad;") (List.mem_of_getElem? (i := 1) rfl)) (fun _ h9 => h9) rfl dX11_toldOfAll_33 ?_
    refine va_getN (D := gD g) (ci := 3) (v := .int v_pad_size) (C := RX5) (T := TX5) (N := 2) hx hb hts iX5 hown hK hP 2 rfl rfl 1 (by decide) (hG.nf 7 rfl) (fun _ h9 => h9) rfl dX11_toldOfAll_36 ?_
    rw [← hQ, ← Option.some.inj hf]
    exact eR_i hx hb hr hlk rfl dX11_toldOfAll_39
  · replace hf := iff_ c1 hf
    by_cases c2 : x1 = 1
    · replace hf := ift c2 hf
      refine lv_tableIn (off := 39) (tgt := 40) hx hb dX11_toldOfAll_1 (by rw [c2]; decide) (by rw [c2]; decide) (by rw [c2]; rfl) (by decide) ?_
      refine lv_aload_n hx hb dX11_toldOfAll_40 rfl (lv_at hl 0 rfl) ?_
      refine va_get (D := gD g) (ci := 9) (v := .ref (q 1)) (C := RX11) (T := TX11) (N := 10) hx hb hts iX11 hown hK hP 0 rfl rfl 0 (by decide) (hts (.fieldLink RX11 10 "BeetleDrive" "now" "LBeetleDrive$Table;") (List.mem_of_getElem? (i := 2) rfl)) (fun _ h9 => h9) rfl dX11_toldOfAll_41 ?_
      refine va_getN (D := gD g) (ci := 7) (v := .int v_now_holder) (C := RX9) (T := TX9) (N := 5) hx hb hts iX9 hown hK hP 1 rfl rfl 3 (by decide) (hG.nf 2 rfl) (fun _ h9 => h9) rfl dX11_toldOfAll_44 ?_
      rw [← hQ, ← Option.some.inj hf]
      exact eR_i hx hb hr hlk rfl dX11_toldOfAll_47
    · replace hf := iff_ c2 hf
      by_cases c3 : x1 = 2
      · replace hf := ift c3 hf
        refine lv_tableIn (off := 47) (tgt := 48) hx hb dX11_toldOfAll_1 (by rw [c3]; decide) (by rw [c3]; decide) (by rw [c3]; rfl) (by decide) ?_
        refine lv_aload_n hx hb dX11_toldOfAll_48 rfl (lv_at hl 0 rfl) ?_
        refine va_get (D := gD g) (ci := 9) (v := .ref (q 1)) (C := RX11) (T := TX11) (N := 10) hx hb hts iX11 hown hK hP 0 rfl rfl 0 (by decide) (hts (.fieldLink RX11 10 "BeetleDrive" "now" "LBeetleDrive$Table;") (List.mem_of_getElem? (i := 2) rfl)) (fun _ h9 => h9) rfl dX11_toldOfAll_49 ?_
        refine va_getN (D := gD g) (ci := 7) (v := .int v_now_game) (C := RX9) (T := TX9) (N := 5) hx hb hts iX9 hown hK hP 1 rfl rfl 4 (by decide) (hG.nf 4 rfl) (fun _ h9 => h9) rfl dX11_toldOfAll_52 ?_
        rw [← hQ, ← Option.some.inj hf]
        exact eR_i hx hb hr hlk rfl dX11_toldOfAll_55
      · replace hf := iff_ c3 hf
        by_cases c4 : x1 = 3
        · replace hf := ift c4 hf
          refine lv_tableIn (off := 55) (tgt := 56) hx hb dX11_toldOfAll_1 (by rw [c4]; decide) (by rw [c4]; decide) (by rw [c4]; rfl) (by decide) ?_
          refine lv_aload_n hx hb dX11_toldOfAll_56 rfl (lv_at hl 0 rfl) ?_
          refine va_get (D := gD g) (ci := 9) (v := .ref (q 17)) (C := RX11) (T := TX11) (N := 10) hx hb hts iX11 hown hK hP 0 rfl rfl 5 (by decide) (hts (.fieldLink RX11 47 "BeetleDrive" "sights" "LBeetleDrive$Sights;") (List.mem_of_getElem? (i := 3) rfl)) (fun _ h9 => h9) rfl dX11_toldOfAll_57 ?_
          refine va_getN (D := gD g) (ci := 5) (v := .int v_sights_size) (C := RX7) (T := TX7) (N := 3) hx hb hts iX7 hown hK hP 3 rfl rfl 2 (by decide) (hG.nf 15 rfl) (fun _ h9 => h9) rfl dX11_toldOfAll_60 ?_
          rw [← hQ, ← Option.some.inj hf]
          exact eR_i hx hb hr hlk rfl dX11_toldOfAll_63
        · replace hf := iff_ c4 hf
          have ec1 := lv_neT c1 (a := 0) (by decide)
          have ec2 := lv_neT c2 (a := 1) (by decide)
          have ec3 := lv_neT c3 (a := 2) (by decide)
          have ec4 := lv_neT c4 (a := 3) (by decide)
          refine lv_tableOut (tgt := 64) hx hb dX11_toldOfAll_1 (by omega) (by decide) ?_
          refine lv_bipush (v := -2) hx hb dX11_toldOfAll_64 (by decide) ?_
          rw [← hQ, ← Option.some.inj hf]
          exact eR_i hx hb hr hlk rfl dX11_toldOfAll_66
set_option maxHeartbeats 4000000 in
set_option maxRecDepth 100000 in
theorem c_X11_told (l : Launch) (g : bG) (q : Nat → Nat) (v_now_inBits : Int32) (v_now_holder : Int32) (v_now_game : Int32) (v_now_drawn : Nat → Int32) (v_now_points : Nat → Int32) (v_pad_size : Int32) (v_sights_size : Int32) (x1 : Int32) (out : Int32) (hf : f_X11_told v_now_drawn v_now_points v_now_inBits v_now_holder v_now_game v_pad_size v_sights_size x1 = some out) : Ri l g yX11_told wsX11_told ({ frames := 3, cells := 0, slots := 0, locals := 64 } : Room) [.ref (q 0), .int x1] [((q 0), .inr (9, oX11 q)), ((q 1), .inr (7, [.ref (q 2), .ref (q 3), .int v_now_inBits, .int v_now_holder, .int v_now_game])), ((q 2), .inl (gI g, 6, .inl v_now_drawn)), ((q 3), .inl (gI g, 6, .inl v_now_points)), ((q 4), .inr (3, [.ref (q 5), .int v_pad_size])), ((q 17), .inr (5, [.ref (q 18), .ref (q 19), .int v_sights_size]))] out := by
  refine ofR (cc := cX11_told) (nL := 2) (ret := some .int) (by decide) rfl (Nat.le_of_ble_eq_true rfl) ?_
  intro p e s m below meth c ar hC hP hG ls hl
  have hS : va_S (fun _ => False) s.heap s.heap [] := va_S.rf
  obtain ⟨hx, hb, hml, hown, hts, hr, hlk, -⟩ := hC
  have hl : lv_has ls 2 [(0, .ref (q 0)), (1, .int x1)] := hl
  have hK := hG.1
  generalize hQ : MQ below (vp_Si (fun x => x = out)) ar s 0 0 (fun _ => False) = QQ
  unfold f_X11_told at hf
  refine lv_iload_n hx hb dX11_told_0 rfl (lv_at hl 1 rfl) ?_
  refine lv_if_ge (tgt := 7) hx hb dX11_told_1 (by decide) (fun c1 => ?_) (fun c1 => ?_)
  · replace hf := ift c1 hf
    refine lv_iload_n hx hb dX11_told_7 rfl (lv_at hl 1 rfl) ?_
    refine lv_bipush (v := 10) hx hb dX11_told_8 (by decide) ?_
    refine lv_icmp_ge (tgt := 21) hx hb dX11_told_10 (by decide) (fun c2 => ?_) (fun c2 => ?_)
    · replace hf := ift c2 hf
      refine lv_aload_n hx hb dX11_told_21 rfl (lv_at hl 0 rfl) ?_
      refine lv_iload_n hx hb dX11_told_22 rfl (lv_at hl 1 rfl) ?_
      refine lv_bipush (v := 10) hx hb dX11_told_23 (by decide) ?_
      refine lv_idiv hx hb dX11_told_25 (by decide) ?_
      refine lv_iload_n hx hb dX11_told_26 rfl (lv_at hl 1 rfl) ?_
      refine lv_bipush (v := 10) hx hb dX11_told_27 (by decide) ?_
      refine lv_irem hx hb dX11_told_29 (by decide) ?_
      obtain ⟨z3, hq4, hf⟩ := bnd_some hf
      refine kR_i (va_runV (As := [.int (x1 / (10 : Int32)), .int (x1 - x1 / (10 : Int32) * (10 : Int32))]) (rest := []) ⟨hx, hb, hml, hown, hts⟩ (c_X11_toldOfPlayer l g q v_now_inBits v_now_holder v_now_game v_now_drawn v_now_points (x1 / (10 : Int32)) (x1 - x1 / (10 : Int32) * (10 : Int32)) z3 hq4) (cwV 2 hts gX11_told_X11_toldOfPlayer rfl rfl rfl (by decide +kernel) ⟨Nat.le_of_ble_eq_true rfl, Nat.le_of_ble_eq_true rfl⟩) (kpV_R (q0 := 0) (ci := 9) hG (hP.subm (ws' := [((q 0), .inr (9, oX11 q)), ((q 1), .inr (7, [.ref (q 2), .ref (q 3), .int v_now_inBits, .int v_now_holder, .int v_now_game])), ((q 2), .inl (gI g, 6, .inl v_now_drawn)), ((q 3), .inl (gI g, 6, .inl v_now_points))]) [0, 1, 2, 3] rfl) rfl rfl) rfl rfl hl.1 rfl (lv_room (Nat.le_of_ble_eq_true rfl)) dX11_told_30 ⟨Nat.le_of_ble_eq_true rfl, Nat.le_of_ble_eq_true rfl⟩) ?_
      rw [← hQ, ← Option.some.inj hf]
      exact eR_i hx hb hr hlk rfl dX11_told_33
    · replace hf := iff_ c2 hf
      refine lv_aload_n hx hb dX11_told_13 rfl (lv_at hl 0 rfl) ?_
      refine lv_iload_n hx hb dX11_told_14 rfl (lv_at hl 1 rfl) ?_
      obtain ⟨z5, hq6, hf⟩ := bnd_some hf
      refine kR_i (va_runV (As := [.int x1]) (rest := []) ⟨hx, hb, hml, hown, hts⟩ (c_X11_toldOfAll l g q v_now_inBits v_now_holder v_now_game v_pad_size v_sights_size x1 z5 hq6) (cwV 1 hts gX11_told_X11_toldOfAll rfl rfl rfl (by decide +kernel) ⟨Nat.le_of_ble_eq_true rfl, Nat.le_of_ble_eq_true rfl⟩) (kpV_R (q0 := 0) (ci := 9) hG (hP.subm (ws' := [((q 0), .inr (9, oX11 q)), ((q 1), .inr (7, [.ref (q 2), .ref (q 3), .int v_now_inBits, .int v_now_holder, .int v_now_game])), ((q 4), .inr (3, [.ref (q 5), .int v_pad_size])), ((q 17), .inr (5, [.ref (q 18), .ref (q 19), .int v_sights_size]))]) [0, 1, 4, 5] rfl) rfl rfl) rfl rfl hl.1 rfl (lv_room (Nat.le_of_ble_eq_true rfl)) dX11_told_15 ⟨Nat.le_of_ble_eq_true rfl, Nat.le_of_ble_eq_true rfl⟩) ?_
      refine lv_goto (tgt := 33) hx hb dX11_told_18 (by decide) ?_
      rw [← hQ, ← Option.some.inj hf]
      exact eR_i hx hb hr hlk rfl dX11_told_33
  · replace hf := iff_ c1 hf
    refine lv_bipush (v := -2) hx hb dX11_told_4 (by decide) ?_
    rw [← hQ, ← Option.some.inj hf]
    exact eR_i hx hb hr hlk rfl dX11_told_6
