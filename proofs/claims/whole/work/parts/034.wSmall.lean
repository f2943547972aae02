/-! ===== walks, by program ===== -/
set_option maxHeartbeats 4000000 in
set_option maxRecDepth 100000 in
theorem c_X7_fit (l : Launch) (g : bG) (k_this : Nat) (k_this_rows : Nat) (k_this_tops : Nat) (v_size : Int32) (v_rows : Nat → Int32) (v_tops : Nat → Int32) (x1 : Int32) (out : Int32) (hf : f_X7_fit v_rows v_tops v_size x1 = some out) : Ri l g yX7_fit wsX7_fit ({ frames := 4, cells := 0, slots := 0, locals := 94 } : Room) [.ref k_this, .int x1] [(k_this, .inr (5, [.ref k_this_rows, .ref k_this_tops, .int v_size])), (k_this_rows, .inl (gI g, 8, .inl v_rows)), (k_this_tops, .inl (gI g, 8, .inl v_tops))] out := by
  refine ofR (cc := cX7_fit) (nL := 3) (ret := some .boolean) (by decide) rfl (Nat.le_of_ble_eq_true rfl) ?_
  intro p e s m below meth c ar hC hP hG ls hl
  have hS : va_S (fun _ => False) s.heap s.heap [] := va_S.rf
  obtain ⟨hx, hb, hml, hown, hts, hr, hlk, -⟩ := hC
  have hl : lv_has ls 3 [(0, .ref k_this), (1, .int x1)] := hl
  have hK := hG.1
  have iX7 : ∀ w ∈ u_ws RX7 TX7 3, w ∈ wsX7_fit := fun w h => List.mem_cons_of_mem _ (List.mem_append_right _ (h))
  generalize hQ : MQ below (vp_Si (fun x => x = out)) ar s 0 0 (fun _ => False) = QQ
  have w_2 : ∀ n : Nat, ∀ (x1 : Int32) (x2 : Int32), f_X7_fit_b2 v_rows v_tops v_size n x1 x2 = some out → ∀ ls : Array Slot, lv_has ls 3 [(0, .ref k_this), (1, .int x1), (2, .int x2)] → W p l e ({ frames := 4, cells := 0, slots := 0, locals := 94 } : Room) s m ar below meth c s.heap [] 0 0 QQ (F0 m 2 ls []) := by
    intro n
    induction n with
    | zero =>
      intro x1 x2 hf
      rw [f_X7_fit_b2_z] at hf
      cases hf
    | succ n ih =>
      intro x1 x2 hf ls hl
      rw [f_X7_fit_b2_s] at hf
      refine lv_iload_n hx hb dX7_fit_2 rfl (lv_at hl 2 rfl) ?_
      refine lv_aload_n hx hb dX7_fit_3 rfl (lv_at hl 0 rfl) ?_
      refine va_get (D := gD g) (ci := 5) (v := .int v_size) (C := RX7) (T := TX7) (N := 3) hx hb hts iX7 hown hK hP 0 rfl rfl 2 (by decide) (hts (.fieldLink RX7 16 "BeetleDrive$Sights" "size" "I") (List.mem_of_getElem? (i := 1) rfl)) (fun _ h9 => h9) rfl dX7_fit_4 ?_
      refine lv_icmp_ge (tgt := 37) hx hb dX7_fit_7 (by decide) (fun c1 => ?_) (fun c1 => ?_)
      · replace hf := ift c1 hf
        refine lv_iconst (v := 1) hx hb dX7_fit_37 (by decide) ?_
        rw [← hQ, ← Option.some.inj hf]
        exact eR_z hx hb hr hlk nb1 rfl dX7_fit_38
      · replace hf := iff_ c1 hf
        refine lv_iload_n hx hb dX7_fit_10 rfl (lv_at hl 1 rfl) ?_
        refine lv_aload_n hx hb dX7_fit_11 rfl (lv_at hl 0 rfl) ?_
        refine va_get (D := gD g) (ci := 5) (v := .ref k_this_rows) (C := RX7) (T := TX7) (N := 3) hx hb hts iX7 hown hK hP 0 rfl rfl 0 (by decide) (hts (.fieldLink RX7 9 "BeetleDrive$Sights" "rows" "[I") (List.mem_of_getElem? (i := 2) rfl)) (fun _ h9 => h9) rfl dX7_fit_12 ?_
        refine lv_iload_n hx hb dX7_fit_15 rfl (lv_at hl 2 rfl) ?_
        obtain ⟨hi2, hf⟩ := chk_some hf
        refine va_iald hx hb hK hP 1 0 rfl rfl hi2 dX7_fit_16 ?_
        obtain ⟨z3, hq4, hf⟩ := bnd_some hf
        refine kR_i (va_runS (As := [.int x1, .int (v_rows (Int32.toNatClampNeg x2))]) (rest := []) ⟨hx, hb, hml, hown, hts⟩ (c_X1_topAfter l g x1 (v_rows (Int32.toNatClampNeg x2)) z3 hq4) (va_cwS 2 hts gX7_fit_X1_topAfter rfl rfl rfl (by decide +kernel) ⟨Nat.le_of_ble_eq_true rfl, Nat.le_of_ble_eq_true rfl⟩) (kpS_R hG (hP.subm (ws' := []) [] rfl)) rfl rfl hl.1 rfl (lv_room (Nat.le_of_ble_eq_true rfl)) dX7_fit_17 ⟨Nat.le_of_ble_eq_true rfl, Nat.le_of_ble_eq_true rfl⟩) ?_
        refine lv_aload_n hx hb dX7_fit_20 rfl (lv_at hl 0 rfl) ?_
        refine va_get (D := gD g) (ci := 5) (v := .ref k_this_tops) (C := RX7) (T := TX7) (N := 3) hx hb hts iX7 hown hK hP 0 rfl rfl 1 (by decide) (hts (.fieldLink RX7 13 "BeetleDrive$Sights" "tops" "[I") (List.mem_of_getElem? (i := 3) rfl)) (fun _ h9 => h9) rfl dX7_fit_21 ?_
        refine lv_iload_n hx hb dX7_fit_24 rfl (lv_at hl 2 rfl) ?_
        obtain ⟨hi5, hf⟩ := chk_some hf
        refine va_iald hx hb hK hP 2 0 rfl rfl hi5 dX7_fit_25 ?_
        refine lv_icmp_eq (tgt := 31) hx hb dX7_fit_26 (by decide) (fun c6 => ?_) (fun c6 => ?_)
        · replace hf := ift c6 hf
          refine lv_iinc (v := (x2 + 1)) (lv' := [(2, .int (x2 + 1)), (0, .ref k_this), (1, .int x1)]) hx hb dX7_fit_31 hl (k := 2) rfl rfl (by decide) rfl (fun ls hl => ?_)
          refine lv_goto (tgt := 2) hx hb dX7_fit_34 (by decide) ?_
          exact ih x1 (x2 + 1) hf ls (lv_sub hl [1, 2, 0] rfl)
        · replace hf := iff_ c6 hf
          refine lv_iconst (v := 0) hx hb dX7_fit_29 (by decide) ?_
          rw [← hQ, ← Option.some.inj hf]
          exact eR_z hx hb hr hlk nb0 rfl dX7_fit_30
  unfold f_X7_fit at hf
  refine lv_iconst (v := 0) hx hb dX7_fit_0 (by decide) ?_
  refine lv_istore_n (lv' := [(2, .int (0 : Int32)), (0, .ref k_this), (1, .int x1)]) hx hb dX7_fit_1 rfl hl (by decide) rfl (fun ls hl => ?_)
  exact w_2 FU x1 (0 : Int32) hf ls (lv_sub hl [1, 2, 0] rfl)
set_option maxHeartbeats 4000000 in
set_option maxRecDepth 100000 in
theorem c_X2_search (l : Launch) (g : bG) (k_this : Nat) (k_this_found : Nat) (k_this_tally : Nat) (k_p1 : Nat) (k_p1_rows : Nat) (k_p1_tops : Nat) (v_size : Int32) (v_found : Nat → Int32) (v_p1_size : Int32) (v_p1_rows : Nat → Int32) (v_p1_tops : Nat → Int32) (out : (Nat → Int32) × Int32) (hf : f_X2_search v_found v_size v_p1_rows v_p1_tops v_p1_size = some out) : Mv l g yX2_search wsX2_search ({ frames := 5, cells := 0, slots := 0, locals := 116 } : Room) [.ref k_this, .ref k_p1] [(k_this, .inr (0, [.ref k_this_found, .ref k_this_tally, .int v_size])), (k_this_found, .inl (gI g, 24, .inl v_found)), (k_p1, .inr (5, [.ref k_p1_rows, .ref k_p1_tops, .int v_p1_size])), (k_p1_rows, .inl (gI g, 8, .inl v_p1_rows)), (k_p1_tops, .inl (gI g, 8, .inl v_p1_tops))] [(k_this, .inr (0, [.ref k_this_found, .ref k_this_tally, .int out.2])), (k_this_found, .inl (gI g, 24, .inl out.1)), (k_p1, .inr (5, [.ref k_p1_rows, .ref k_p1_tops, .int v_p1_size])), (k_p1_rows, .inl (gI g, 8, .inl v_p1_rows)), (k_p1_tops, .inl (gI g, 8, .inl v_p1_tops))] := by
  refine ofM (Qc := fun A => Qv g [(k_this, .inr (0, [.ref k_this_found, .ref k_this_tally, .int out.2])), (k_this_found, .inl (gI g, 24, .inl out.1)), (k_p1, .inr (5, [.ref k_p1_rows, .ref k_p1_tops, .int v_p1_size])), (k_p1_rows, .inl (gI g, 8, .inl v_p1_rows)), (k_p1_tops, .inl (gI g, 8, .inl v_p1_tops))] A) (cc := cX2_search) (nL := 3) (ret := none) (by decide) rfl (Nat.le_of_ble_eq_true rfl) ?_
  intro p e s m below meth c ar A hC hA hP hD hG ls hl
  have hS : va_S A s.heap s.heap [] := va_S.rf
  obtain ⟨hx, hb, hml, hown, hts, hr, hlk, -⟩ := hC
  have hl : lv_has ls 3 [(0, .ref k_this), (1, .ref k_p1)] := hl
  have hK := hG.1
  have iX2 : ∀ w ∈ u_ws RX2 TX2 3, w ∈ wsX2_search := fun w h => List.mem_cons_of_mem _ (List.mem_append_left _ (List.mem_append_right _ (h)))
  generalize hQ : MQ below (Qv g [(k_this, .inr (0, [.ref k_this_found, .ref k_this_tally, .int out.2])), (k_this_found, .inl (gI g, 24, .inl out.1)), (k_p1, .inr (5, [.ref k_p1_rows, .ref k_p1_tops, .int v_p1_size])), (k_p1_rows, .inl (gI g, 8, .inl v_p1_rows)), (k_p1_tops, .inl (gI g, 8, .inl v_p1_tops))] A) ar s 0 0 A = QQ
  have w_8 : ∀ n : Nat, ∀ (x2 : Int32) (v_found : Nat → Int32) (v_size : Int32), f_X2_search_b8 v_p1_rows v_p1_tops v_p1_size n x2 v_found v_size = some out → ∀ (H : Heap) (locs : List Loc), va_P (gD g) vwCl [(k_this, .inr (0, [.ref k_this_found, .ref k_this_tally, .int v_size])), (k_this_found, .inl (gI g, 24, .inl v_found)), (k_p1, .inr (5, [.ref k_p1_rows, .ref k_p1_tops, .int v_p1_size])), (k_p1_rows, .inl (gI g, 8, .inl v_p1_rows)), (k_p1_tops, .inl (gI g, 8, .inl v_p1_tops))] H → va_D A [(k_this, .inr (0, [.ref k_this_found, .ref k_this_tally, .int v_size])), (k_this_found, .inl (gI g, 24, .inl v_found)), (k_p1, .inr (5, [.ref k_p1_rows, .ref k_p1_tops, .int v_p1_size])), (k_p1_rows, .inl (gI g, 8, .inl v_p1_rows)), (k_p1_tops, .inl (gI g, 8, .inl v_p1_tops))] → va_S A s.heap H locs → ∀ ls : Array Slot, lv_has ls 3 [(0, .ref k_this), (1, .ref k_p1), (2, .int x2)] → W p l e ({ frames := 5, cells := 0, slots := 0, locals := 116 } : Room) s m ar below meth c H locs 0 0 QQ (F0 m 8 ls []) := by
    intro n
    induction n with
    | zero =>
      intro x2 v_found v_size hf
      rw [f_X2_search_b8_z] at hf
      cases hf
    | succ n ih =>
      intro x2 v_found v_size hf H locs hP hD hS ls hl
      rw [f_X2_search_b8_s] at hf
      refine lv_iload_n hx hb dX2_search_8 rfl (lv_at hl 2 rfl) ?_
      refine lv_bipush (v := 65) hx hb dX2_search_9 (by decide) ?_
      refine lv_icmp_gt (tgt := 64) hx hb dX2_search_11 (by decide) (fun c1 => ?_) (fun c1 => ?_)
      · replace hf := ift c1 hf
        rw [← hQ, ← Option.some.inj hf]
        exact eM_v hx hb hr hlk hP hD hS dX2_search_64
      · replace hf := iff_ c1 hf
        refine lv_aload_n hx hb dX2_search_14 rfl (lv_at hl 0 rfl) ?_
        refine va_get (D := gD g) (ci := 0) (v := .int v_size) (C := RX2) (T := TX2) (N := 3) hx hb hts iX2 hown hK hP 0 rfl rfl 2 (by decide) (hts (.fieldLink RX2 18 "BeetleDrive$Finder" "size" "I") (List.mem_of_getElem? (i := 1) rfl)) (fun _ h9 => h9) rfl dX2_search_15 ?_
        refine lv_bipush (v := 24) hx hb dX2_search_18 (by decide) ?_
        refine lv_icmp_ge (tgt := 64) hx hb dX2_search_20 (by decide) (fun c2 => ?_) (fun c2 => ?_)
        · replace hf := ift c2 hf
          rw [← hQ, ← Option.some.inj hf]
          exact eM_v hx hb hr hlk hP hD hS dX2_search_64
        · replace hf := iff_ c2 hf
          refine lv_iload_n hx hb dX2_search_23 rfl (lv_at hl 2 rfl) ?_
          obtain ⟨z3, hq4, hf⟩ := bnd_some hf
          refine kR_i (va_runS (As := [.int x2]) (rest := []) ⟨hx, hb, hml, hown, hts⟩ (c_X1_canLie l g x2 z3 hq4) (va_cwS 1 hts gX2_search_X1_canLie rfl rfl rfl (by decide +kernel) ⟨Nat.le_of_ble_eq_true rfl, Nat.le_of_ble_eq_true rfl⟩) (kpS_R (hG.now hS) (hP.subm (ws' := []) [] rfl)) rfl rfl hl.1 rfl (lv_room (Nat.le_of_ble_eq_true rfl)) dX2_search_24 ⟨Nat.le_of_ble_eq_true rfl, Nat.le_of_ble_eq_true rfl⟩) ?_
          refine lv_if_eq (tgt := 58) hx hb dX2_search_27 (by decide) (fun c5 => ?_) (fun c5 => ?_)
          · replace hf := ift c5 hf
            refine lv_iinc (v := (x2 + 1)) (lv' := [(2, .int (x2 + 1)), (0, .ref k_this), (1, .ref k_p1)]) hx hb dX2_search_58 hl (k := 2) rfl rfl (by decide) rfl (fun ls hl => ?_)
            refine lv_goto (tgt := 8) hx hb dX2_search_61 (by decide) ?_
            exact ih (x2 + 1) v_found v_size hf H locs hP hD hS ls (lv_sub hl [1, 2, 0] rfl)
          · replace hf := iff_ c5 hf
            refine lv_aload_n hx hb dX2_search_30 rfl (lv_at hl 1 rfl) ?_
            refine lv_iload_n hx hb dX2_search_31 rfl (lv_at hl 2 rfl) ?_
            obtain ⟨z6, hq7, hf⟩ := bnd_some hf
            refine kR_i (va_runV (As := [.int x2]) (rest := []) ⟨hx, hb, hml, hown, hts⟩ (c_X7_fit l g k_p1 k_p1_rows k_p1_tops v_p1_size v_p1_rows v_p1_tops x2 z6 hq7) (cwV 1 hts gX2_search_X7_fit rfl rfl rfl (by decide +kernel) ⟨Nat.le_of_ble_eq_true rfl, Nat.le_of_ble_eq_true rfl⟩) (kpV_R (q0 := 0) (ci := 5) (hG.now hS) (hP.subm (ws' := [(k_p1, .inr (5, [.ref k_p1_rows, .ref k_p1_tops, .int v_p1_size])), (k_p1_rows, .inl (gI g, 8, .inl v_p1_rows)), (k_p1_tops, .inl (gI g, 8, .inl v_p1_tops))]) [2, 3, 4] rfl) rfl rfl) rfl rfl hl.1 rfl (lv_room (Nat.le_of_ble_eq_true rfl)) dX2_search_32 ⟨Nat.le_of_ble_eq_true rfl, Nat.le_of_ble_eq_true rfl⟩) ?_
            refine lv_if_eq (tgt := 58) hx hb dX2_search_35 (by decide) (fun c8 => ?_) (fun c8 => ?_)
            · replace hf := ift c8 hf
              refine lv_iinc (v := (x2 + 1)) (lv' := [(2, .int (x2 + 1)), (0, .ref k_this), (1, .ref k_p1)]) hx hb dX2_search_58 hl (k := 2) rfl rfl (by decide) rfl (fun ls hl => ?_)
              refine lv_goto (tgt := 8) hx hb dX2_search_61 (by decide) ?_
              exact ih (x2 + 1) v_found v_size hf H locs hP hD hS ls (lv_sub hl [1, 2, 0] rfl)
            · replace hf := iff_ c8 hf
              refine lv_aload_n hx hb dX2_search_38 rfl (lv_at hl 0 rfl) ?_
              refine va_get (D := gD g) (ci := 0) (v := .ref k_this_found) (C := RX2) (T := TX2) (N := 3) hx hb hts iX2 hown hK hP 0 rfl rfl 0 (by decide) (hts (.fieldLink RX2 11 "BeetleDrive$Finder" "found" "[I") (List.mem_of_getElem? (i := 2) rfl)) (fun _ h9 => h9) rfl dX2_search_39 ?_
              refine lv_aload_n hx hb dX2_search_42 rfl (lv_at hl 0 rfl) ?_
              refine va_get (D := gD g) (ci := 0) (v := .int v_size) (C := RX2) (T := TX2) (N := 3) hx hb hts iX2 hown hK hP 0 rfl rfl 2 (by decide) (hts (.fieldLink RX2 18 "BeetleDrive$Finder" "size" "I") (List.mem_of_getElem? (i := 1) rfl)) (fun _ h9 => h9) rfl dX2_search_43 ?_
              refine lv_iload_n hx hb dX2_search_46 rfl (lv_at hl 2 rfl) ?_
              obtain ⟨hi9, hf⟩ := chk_some hf
              refine va_iast hx hb hK hP hD hS 1 0 rfl rfl hi9 dX2_search_47 (fun H locs hP hD hS => ?_)
              have hP : va_P (gD g) vwCl [(k_this, .inr (0, [.ref k_this_found, .ref k_this_tally, .int v_size])), (k_this_found, .inl (gI g, 24, .inl (upd v_found (Int32.toNatClampNeg v_size) x2))), (k_p1, .inr (5, [.ref k_p1_rows, .ref k_p1_tops, .int v_p1_size])), (k_p1_rows, .inl (gI g, 8, .inl v_p1_rows)), (k_p1_tops, .inl (gI g, 8, .inl v_p1_tops))] H := hP
              have hD : va_D A [(k_this, .inr (0, [.ref k_this_found, .ref k_this_tally, .int v_size])), (k_this_found, .inl (gI g, 24, .inl (upd v_found (Int32.toNatClampNeg v_size) x2))), (k_p1, .inr (5, [.ref k_p1_rows, .ref k_p1_tops, .int v_p1_size])), (k_p1_rows, .inl (gI g, 8, .inl v_p1_rows)), (k_p1_tops, .inl (gI g, 8, .inl v_p1_tops))] := hD
              refine lv_aload_n hx hb dX2_search_48 rfl (lv_at hl 0 rfl) ?_
              refine lv_dup hx hb dX2_search_49 rfl ?_
              refine va_get (D := gD g) (ci := 0) (v := .int v_size) (C := RX2) (T := TX2) (N := 3) hx hb hts iX2 hown hK hP 0 rfl rfl 2 (by decide) (hts (.fieldLink RX2 18 "BeetleDrive$Finder" "size" "I") (List.mem_of_getElem? (i := 1) rfl)) (fun _ h9 => h9) rfl dX2_search_50 ?_
              refine lv_iconst (v := 1) hx hb dX2_search_53 (by decide) ?_
              refine lv_iadd hx hb dX2_search_54 ?_
              refine va_put (D := gD g) (ci := 0) (v := .int (v_size + (1 : Int32))) (ty := .int) (C := RX2) (T := TX2) (N := 3) hx hb hts iX2 tyX2 tyX2_ok nmX2 hown hK hP hD hS 0 rfl rfl 2 (by decide) (hts (.fieldLink RX2 18 "BeetleDrive$Finder" "size" "I") (List.mem_of_getElem? (i := 1) rfl)) (fun _ h9 => h9) rfl (tyX2_ok 2 (by decide)) rfl rfl (Nat.le_of_ble_eq_true rfl) dX2_search_55 (fun H locs hP hD hS => ?_)
              have hP : va_P (gD g) vwCl [(k_this, .inr (0, [.ref k_this_found, .ref k_this_tally, .int (v_size + (1 : Int32))])), (k_this_found, .inl (gI g, 24, .inl (upd v_found (Int32.toNatClampNeg v_size) x2))), (k_p1, .inr (5, [.ref k_p1_rows, .ref k_p1_tops, .int v_p1_size])), (k_p1_rows, .inl (gI g, 8, .inl v_p1_rows)), (k_p1_tops, .inl (gI g, 8, .inl v_p1_tops))] H := hP
              have hD : va_D A [(k_this, .inr (0, [.ref k_this_found, .ref k_this_tally, .int (v_size + (1 : Int32))])), (k_this_found, .inl (gI g, 24, .inl (upd v_found (Int32.toNatClampNeg v_size) x2))), (k_p1, .inr (5, [.ref k_p1_rows, .ref k_p1_tops, .int v_p1_size])), (k_p1_rows, .inl (gI g, 8, .inl v_p1_rows)), (k_p1_tops, .inl (gI g, 8, .inl v_p1_tops))] := hD
              refine lv_iinc (v := (x2 + 1)) (lv' := [(2, .int (x2 + 1)), (0, .ref k_this), (1, .ref k_p1)]) hx hb dX2_search_58 hl (k := 2) rfl rfl (by decide) rfl (fun ls hl => ?_)
              refine lv_goto (tgt := 8) hx hb dX2_search_61 (by decide) ?_
              exact ih (x2 + 1) (upd v_found (Int32.toNatClampNeg v_size) x2) (v_size + (1 : Int32)) hf H locs hP hD hS ls (lv_sub hl [1, 2, 0] rfl)
  unfold f_X2_search at hf
  refine lv_aload_n hx hb dX2_search_0 rfl (lv_at hl 0 rfl) ?_
  refine lv_iconst (v := 0) hx hb dX2_search_1 (by decide) ?_
  refine va_put (D := gD g) (ci := 0) (v := .int (0 : Int32)) (ty := .int) (C := RX2) (T := TX2) (N := 3) hx hb hts iX2 tyX2 tyX2_ok nmX2 hown hK hP hD hS 0 rfl rfl 2 (by decide) (hts (.fieldLink RX2 18 "BeetleDrive$Finder" "size" "I") (List.mem_of_getElem? (i := 1) rfl)) (fun _ h9 => h9) rfl (tyX2_ok 2 (by decide)) rfl rfl (Nat.le_of_ble_eq_true rfl) dX2_search_2 (fun H locs hP hD hS => ?_)
  have hP : va_P (gD g) vwCl [(k_this, .inr (0, [.ref k_this_found, .ref k_this_tally, .int (0 : Int32)])), (k_this_found, .inl (gI g, 24, .inl v_found)), (k_p1, .inr (5, [.ref k_p1_rows, .ref k_p1_tops, .int v_p1_size])), (k_p1_rows, .inl (gI g, 8, .inl v_p1_rows)), (k_p1_tops, .inl (gI g, 8, .inl v_p1_tops))] H := hP
  have hD : va_D A [(k_this, .inr (0, [.ref k_this_found, .ref k_this_tally, .int (0 : Int32)])), (k_this_found, .inl (gI g, 24, .inl v_found)), (k_p1, .inr (5, [.ref k_p1_rows, .ref k_p1_tops, .int v_p1_size])), (k_p1_rows, .inl (gI g, 8, .inl v_p1_rows)), (k_p1_tops, .inl (gI g, 8, .inl v_p1_tops))] := hD
  refine lv_bipush (v := 12) hx hb dX2_search_5 (by decide) ?_
  refine lv_istore_n (lv' := [(2, .int (12 : Int32)), (0, .ref k_this), (1, .ref k_p1)]) hx hb dX2_search_7 rfl hl (by decide) rfl (fun ls hl => ?_)
  exact w_8 FU (12 : Int32) v_found (0 : Int32) hf H locs hP hD hS ls (lv_sub hl [1, 2, 0] rfl)
set_option maxHeartbeats 4000000 in
set_option maxRecDepth 100000 in
theorem c_X2_mostLeft (l : Launch) (g : bG) (k_this : Nat) (k_this_found : Nat) (k_this_tally : Nat) (v_size : Int32) (v_found : Nat → Int32) (v_tally : Nat → Int32) (x1 : Int32) (out : Int32 × (Nat → Int32)) (hf : f_X2_mostLeft v_found v_tally v_size x1 = some out) : Mi l g yX2_mostLeft wsX2_mostLeft ({ frames := 4, cells := 0, slots := 0, locals := 94 } : Room) [.ref k_this, .int x1] [(k_this, .inr (0, [.ref k_this_found, .ref k_this_tally, .int v_size])), (k_this_found, .inl (gI g, 24, .inl v_found)), (k_this_tally, .inl (gI g, 7, .inl v_tally))] out.1 [(k_this, .inr (0, [.ref k_this_found, .ref k_this_tally, .int v_size])), (k_this_found, .inl (gI g, 24, .inl v_found)), (k_this_tally, .inl (gI g, 7, .inl out.2))] := by
  refine ofM (Qc := fun A => Qi g out.1 [(k_this, .inr (0, [.ref k_this_found, .ref k_this_tally, .int v_size])), (k_this_found, .inl (gI g, 24, .inl v_found)), (k_this_tally, .inl (gI g, 7, .inl out.2))] A) (cc := cX2_mostLeft) (nL := 5) (ret := some .int) (by decide) rfl (Nat.le_of_ble_eq_true rfl) ?_
  intro p e s m below meth c ar A hC hA hP hD hG ls hl
  have hS : va_S A s.heap s.heap [] := va_S.rf
  obtain ⟨hx, hb, hml, hown, hts, hr, hlk, -⟩ := hC
  have hl : lv_has ls 5 [(0, .ref k_this), (1, .int x1)] := hl
  have hK := hG.1
  have iX2 : ∀ w ∈ u_ws RX2 TX2 3, w ∈ wsX2_mostLeft := fun w h => List.mem_cons_of_mem _ (List.mem_append_right _ (h))
  generalize hQ : MQ below (Qi g out.1 [(k_this, .inr (0, [.ref k_this_found, .ref k_this_tally, .int v_size])), (k_this_found, .inl (gI g, 24, .inl v_found)), (k_this_tally, .inl (gI g, 7, .inl out.2))] A) ar s 0 0 A = QQ
  have w_25 : ∀ n : Nat, ∀ (x1 : Int32) (x2 : Int32) (x3 : Int32) (v_tally : Nat → Int32), f_X2_mostLeft_b25 v_found v_size n x1 x2 x3 v_tally = some out → ∀ (H : Heap) (locs : List Loc), va_P (gD g) vwCl [(k_this, .inr (0, [.ref k_this_found, .ref k_this_tally, .int v_size])), (k_this_found, .inl (gI g, 24, .inl v_found)), (k_this_tally, .inl (gI g, 7, .inl v_tally))] H → va_D A [(k_this, .inr (0, [.ref k_this_found, .ref k_this_tally, .int v_size])), (k_this_found, .inl (gI g, 24, .inl v_found)), (k_this_tally, .inl (gI g, 7, .inl v_tally))] → va_S A s.heap H locs → ∀ ls : Array Slot, lv_has ls 5 [(0, .ref k_this), (1, .int x1), (2, .int x2), (3, .int x3)] → W p l e ({ frames := 4, cells := 0, slots := 0, locals := 94 } : Room) s m ar below meth c H locs 0 0 QQ (F0 m 25 ls []) := by
    intro n
    induction n with
    | zero =>
      intro x1 x2 x3 v_tally hf
      rw [f_X2_mostLeft_b25_z] at hf
      cases hf
    | succ n ih =>
      intro x1 x2 x3 v_tally hf H locs hP hD hS ls hl
      rw [f_X2_mostLeft_b25_s] at hf
      refine lv_iload_n hx hb dX2_mostLeft_25 rfl (lv_at hl 3 rfl) ?_
      refine lv_aload_n hx hb dX2_mostLeft_26 rfl (lv_at hl 0 rfl) ?_
      refine va_get (D := gD g) (ci := 0) (v := .int v_size) (C := RX2) (T := TX2) (N := 3) hx hb hts iX2 hown hK hP 0 rfl rfl 2 (by decide) (hts (.fieldLink RX2 18 "BeetleDrive$Finder" "size" "I") (List.mem_of_getElem? (i := 2) rfl)) (fun _ h9 => h9) rfl dX2_mostLeft_27 ?_
      refine lv_icmp_ge (tgt := 85) hx hb dX2_mostLeft_30 (by decide) (fun c2 => ?_) (fun c2 => ?_)
      · replace hf := ift c2 hf
        refine lv_iload_n hx hb dX2_mostLeft_85 rfl (lv_at hl 2 rfl) ?_
        rw [← hQ, ← Option.some.inj hf]
        exact eM_i hx hb hr hlk hP hD hS rfl dX2_mostLeft_86
      · replace hf := iff_ c2 hf
        refine lv_aload_n hx hb dX2_mostLeft_33 rfl (lv_at hl 0 rfl) ?_
        refine va_get (D := gD g) (ci := 0) (v := .ref k_this_found) (C := RX2) (T := TX2) (N := 3) hx hb hts iX2 hown hK hP 0 rfl rfl 0 (by decide) (hts (.fieldLink RX2 11 "BeetleDrive$Finder" "found" "[I") (List.mem_of_getElem? (i := 3) rfl)) (fun _ h9 => h9) rfl dX2_mostLeft_34 ?_
        refine lv_iload_n hx hb dX2_mostLeft_37 rfl (lv_at hl 3 rfl) ?_
        obtain ⟨hi3, hf⟩ := chk_some hf
        refine va_iald hx hb hK hP 1 0 rfl rfl hi3 dX2_mostLeft_38 ?_
        refine lv_iload_n hx hb dX2_mostLeft_39 rfl (lv_at hl 1 rfl) ?_
        obtain ⟨z4, hq5, hf⟩ := bnd_some hf
        refine kR_i (va_runS (As := [.int (v_found (Int32.toNatClampNeg x3)), .int x1]) (rest := []) ⟨hx, hb, hml, hown, hts⟩ (c_X1_topAfter l g (v_found (Int32.toNatClampNeg x3)) x1 z4 hq5) (va_cwS 2 hts gX2_mostLeft_X1_topAfter rfl rfl rfl (by decide +kernel) ⟨Nat.le_of_ble_eq_true rfl, Nat.le_of_ble_eq_true rfl⟩) (kpS_R (hG.now hS) (hP.subm (ws' := []) [] rfl)) rfl rfl hl.1 rfl (lv_room (Nat.le_of_ble_eq_true rfl)) dX2_mostLeft_40 ⟨Nat.le_of_ble_eq_true rfl, Nat.le_of_ble_eq_true rfl⟩) ?_
        refine lv_istore (lv' := [(4, .int z4), (0, .ref k_this), (1, .int x1), (2, .int x2), (3, .int x3)]) hx hb dX2_mostLeft_43 hl (by decide) rfl (fun ls hl => ?_)
        refine lv_iload hx hb dX2_mostLeft_45 (lv_at hl 0 rfl) ?_
        refine lv_iconst (v := 1) hx hb dX2_mostLeft_47 (by decide) ?_
        refine lv_bipush (v := 6) hx hb dX2_mostLeft_48 (by decide) ?_
        obtain ⟨z6, hq7, hf⟩ := bnd_some hf
        refine kR_i (va_runSN (As := [.int z4, .int (1 : Int32), .int (6 : Int32)]) (rest := []) ⟨hx, hb, hml, hown, hts⟩ (c_X11_isWithin l g z4 (1 : Int32) (6 : Int32) z6 hq7) ⟨va_cnB 3 hts gX2_mostLeft_X11_isWithin_n44 rfl rfl rfl (hG.nm 14 rfl) (hts (.initialized RX11) (List.mem_of_getElem? (i := 23) rfl)) (by decide +kernel) ⟨Nat.le_of_ble_eq_true rfl, Nat.le_of_ble_eq_true rfl⟩, (hts (.static yX11_isWithin) (List.mem_of_getElem? (i := 22) rfl)), trivial⟩ (kpS_R (hG.now hS) (hP.subm (ws' := []) [] rfl)) rfl rfl hl.1 rfl (lv_room (Nat.le_of_ble_eq_true rfl)) dX2_mostLeft_50 ⟨Nat.le_of_ble_eq_true rfl, Nat.le_of_ble_eq_true rfl⟩) ?_
        refine lv_if_eq (tgt := 79) hx hb dX2_mostLeft_53 (by decide) (fun c8 => ?_) (fun c8 => ?_)
        · replace hf := ift c8 hf
          refine lv_iinc (v := (x3 + 1)) (lv' := [(3, .int (x3 + 1)), (4, .int z4), (0, .ref k_this), (1, .int x1), (2, .int x2)]) hx hb dX2_mostLeft_79 hl (k := 4) rfl rfl (by decide) rfl (fun ls hl => ?_)
          refine lv_goto (tgt := 25) hx hb dX2_mostLeft_82 (by decide) ?_
          exact ih x1 x2 (x3 + 1) v_tally hf H locs hP hD hS ls (lv_sub hl [2, 3, 4, 0] rfl)
        · replace hf := iff_ c8 hf
          refine lv_aload_n hx hb dX2_mostLeft_56 rfl (lv_at hl 1 rfl) ?_
          refine va_get (D := gD g) (ci := 0) (v := .ref k_this_tally) (C := RX2) (T := TX2) (N := 3) hx hb hts iX2 hown hK hP 0 rfl rfl 1 (by decide) (hts (.fieldLink RX2 15 "BeetleDrive$Finder" "tally" "[I") (List.mem_of_getElem? (i := 1) rfl)) (fun _ h9 => h9) rfl dX2_mostLeft_57 ?_
          refine lv_iload hx hb dX2_mostLeft_60 (lv_at hl 0 rfl) ?_
          refine lv_dup2_11 hx hb dX2_mostLeft_62 rfl rfl ?_
          obtain ⟨hi9, hf⟩ := chk_some hf
          refine va_iald hx hb hK hP 2 0 rfl rfl hi9 dX2_mostLeft_63 ?_
          refine lv_iconst (v := 1) hx hb dX2_mostLeft_64 (by decide) ?_
          refine lv_iadd hx hb dX2_mostLeft_65 ?_
          obtain ⟨hi10, hf⟩ := chk_some hf
          refine va_iast hx hb hK hP hD hS 2 0 rfl rfl hi10 dX2_mostLeft_66 (fun H locs hP hD hS => ?_)
          have hP : va_P (gD g) vwCl [(k_this, .inr (0, [.ref k_this_found, .ref k_this_tally, .int v_size])), (k_this_found, .inl (gI g, 24, .inl v_found)), (k_this_tally, .inl (gI g, 7, .inl (upd v_tally (Int32.toNatClampNeg z4) ((v_tally (Int32.toNatClampNeg z4)) + (1 : Int32)))))] H := hP
          have hD : va_D A [(k_this, .inr (0, [.ref k_this_found, .ref k_this_tally, .int v_size])), (k_this_found, .inl (gI g, 24, .inl v_found)), (k_this_tally, .inl (gI g, 7, .inl (upd v_tally (Int32.toNatClampNeg z4) ((v_tally (Int32.toNatClampNeg z4)) + (1 : Int32)))))] := hD
          refine lv_iload_n hx hb dX2_mostLeft_67 rfl (lv_at hl 3 rfl) ?_
          refine lv_aload_n hx hb dX2_mostLeft_68 rfl (lv_at hl 1 rfl) ?_
          refine va_get (D := gD g) (ci := 0) (v := .ref k_this_tally) (C := RX2) (T := TX2) (N := 3) hx hb hts iX2 hown hK hP 0 rfl rfl 1 (by decide) (hts (.fieldLink RX2 15 "BeetleDrive$Finder" "tally" "[I") (List.mem_of_getElem? (i := 1) rfl)) (fun _ h9 => h9) rfl dX2_mostLeft_69 ?_
          refine lv_iload hx hb dX2_mostLeft_72 (lv_at hl 0 rfl) ?_
          obtain ⟨hi11, hf⟩ := chk_some hf
          refine va_iald hx hb hK hP 2 0 rfl rfl hi11 dX2_mostLeft_74 ?_
          refine va_mmax hx hb (hml.trans hl.1.symm) hown (hts (.methodLink RX2 48 Lib.Math.max.name) (List.mem_of_getElem? (i := 4) rfl)) (hts (.static Lib.Math.max.name) (List.mem_of_getElem? (i := 5) rfl)) (hts (.initialized "java/lang/Math") (List.mem_of_getElem? (i := 6) rfl)) (hts (.code Lib.Math.max.name Lib.Math.max.code 2 (some .int)) (List.mem_of_getElem? (i := 7) rfl)) (Nat.le_of_ble_eq_true rfl) (Nat.le_of_ble_eq_true rfl) (Nat.le_of_ble_eq_true rfl) (Nat.le_of_ble_eq_true rfl) dX2_mostLeft_75 ?_
          refine lv_istore_n (lv' := [(2, .int (if x2 < ((upd v_tally (Int32.toNatClampNeg z4) ((v_tally (Int32.toNatClampNeg z4)) + (1 : Int32))) (Int32.toNatClampNeg z4)) then ((upd v_tally (Int32.toNatClampNeg z4) ((v_tally (Int32.toNatClampNeg z4)) + (1 : Int32))) (Int32.toNatClampNeg z4)) else x2)), (4, .int z4), (0, .ref k_this), (1, .int x1), (3, .int x3)]) hx hb dX2_mostLeft_78 rfl hl (by decide) rfl (fun ls hl => ?_)
          refine lv_iinc (v := (x3 + 1)) (lv' := [(3, .int (x3 + 1)), (2, .int (if x2 < ((upd v_tally (Int32.toNatClampNeg z4) ((v_tally (Int32.toNatClampNeg z4)) + (1 : Int32))) (Int32.toNatClampNeg z4)) then ((upd v_tally (Int32.toNatClampNeg z4) ((v_tally (Int32.toNatClampNeg z4)) + (1 : Int32))) (Int32.toNatClampNeg z4)) else x2)), (4, .int z4), (0, .ref k_this), (1, .int x1)]) hx hb dX2_mostLeft_79 hl (k := 4) rfl rfl (by decide) rfl (fun ls hl => ?_)
          refine lv_goto (tgt := 25) hx hb dX2_mostLeft_82 (by decide) ?_
          exact ih x1 (if x2 < ((upd v_tally (Int32.toNatClampNeg z4) ((v_tally (Int32.toNatClampNeg z4)) + (1 : Int32))) (Int32.toNatClampNeg z4)) then ((upd v_tally (Int32.toNatClampNeg z4) ((v_tally (Int32.toNatClampNeg z4)) + (1 : Int32))) (Int32.toNatClampNeg z4)) else x2) (x3 + 1) (upd v_tally (Int32.toNatClampNeg z4) ((v_tally (Int32.toNatClampNeg z4)) + (1 : Int32))) hf H locs hP hD hS ls (lv_sub hl [3, 4, 1, 0] rfl)
  have w_2 : ∀ n : Nat, ∀ (x1 : Int32) (x2 : Int32) (v_tally : Nat → Int32), f_X2_mostLeft_b2 v_found v_size n x1 x2 v_tally = some out → ∀ (H : Heap) (locs : List Loc), va_P (gD g) vwCl [(k_this, .inr (0, [.ref k_this_found, .ref k_this_tally, .int v_size])), (k_this_found, .inl (gI g, 24, .inl v_found)), (k_this_tally, .inl (gI g, 7, .inl v_tally))] H → va_D A [(k_this, .inr (0, [.ref k_this_found, .ref k_this_tally, .int v_size])), (k_this_found, .inl (gI g, 24, .inl v_found)), (k_this_tally, .inl (gI g, 7, .inl v_tally))] → va_S A s.heap H locs → ∀ ls : Array Slot, lv_has ls 5 [(0, .ref k_this), (1, .int x1), (2, .int x2)] → W p l e ({ frames := 4, cells := 0, slots := 0, locals := 94 } : Room) s m ar below meth c H locs 0 0 QQ (F0 m 2 ls []) := by
    intro n
    induction n with
    | zero =>
      intro x1 x2 v_tally hf
      rw [f_X2_mostLeft_b2_z] at hf
      cases hf
    | succ n ih =>
      intro x1 x2 v_tally hf H locs hP hD hS ls hl
      rw [f_X2_mostLeft_b2_s] at hf
      refine lv_iload_n hx hb dX2_mostLeft_2 rfl (lv_at hl 2 rfl) ?_
      refine lv_bipush (v := 6) hx hb dX2_mostLeft_3 (by decide) ?_
      refine lv_icmp_gt (tgt := 21) hx hb dX2_mostLeft_5 (by decide) (fun c1 => ?_) (fun c1 => ?_)
      · replace hf := ift c1 hf
        refine lv_iconst (v := 0) hx hb dX2_mostLeft_21 (by decide) ?_
        refine lv_istore_n (lv' := [(2, .int (0 : Int32)), (0, .ref k_this), (1, .int x1)]) hx hb dX2_mostLeft_22 rfl hl (by decide) rfl (fun ls hl => ?_)
        refine lv_iconst (v := 0) hx hb dX2_mostLeft_23 (by decide) ?_
        refine lv_istore_n (lv' := [(3, .int (0 : Int32)), (2, .int (0 : Int32)), (0, .ref k_this), (1, .int x1)]) hx hb dX2_mostLeft_24 rfl hl (by decide) rfl (fun ls hl => ?_)
        exact w_25 FU x1 (0 : Int32) (0 : Int32) v_tally hf H locs hP hD hS ls (lv_sub hl [2, 3, 1, 0] rfl)
      · replace hf := iff_ c1 hf
        refine lv_aload_n hx hb dX2_mostLeft_8 rfl (lv_at hl 0 rfl) ?_
        refine va_get (D := gD g) (ci := 0) (v := .ref k_this_tally) (C := RX2) (T := TX2) (N := 3) hx hb hts iX2 hown hK hP 0 rfl rfl 1 (by decide) (hts (.fieldLink RX2 15 "BeetleDrive$Finder" "tally" "[I") (List.mem_of_getElem? (i := 1) rfl)) (fun _ h9 => h9) rfl dX2_mostLeft_9 ?_
        refine lv_iload_n hx hb dX2_mostLeft_12 rfl (lv_at hl 2 rfl) ?_
        refine lv_iconst (v := 0) hx hb dX2_mostLeft_13 (by decide) ?_
        obtain ⟨hi12, hf⟩ := chk_some hf
        refine va_iast hx hb hK hP hD hS 2 0 rfl rfl hi12 dX2_mostLeft_14 (fun H locs hP hD hS => ?_)
        have hP : va_P (gD g) vwCl [(k_this, .inr (0, [.ref k_this_found, .ref k_this_tally, .int v_size])), (k_this_found, .inl (gI g, 24, .inl v_found)), (k_this_tally, .inl (gI g, 7, .inl (upd v_tally (Int32.toNatClampNeg x2) (0 : Int32))))] H := hP
        have hD : va_D A [(k_this, .inr (0, [.ref k_this_found, .ref k_this_tally, .int v_size])), (k_this_found, .inl (gI g, 24, .inl v_found)), (k_this_tally, .inl (gI g, 7, .inl (upd v_tally (Int32.toNatClampNeg x2) (0 : Int32))))] := hD
        refine lv_iinc (v := (x2 + 1)) (lv' := [(2, .int (x2 + 1)), (0, .ref k_this), (1, .int x1)]) hx hb dX2_mostLeft_15 hl (k := 2) rfl rfl (by decide) rfl (fun ls hl => ?_)
        refine lv_goto (tgt := 2) hx hb dX2_mostLeft_18 (by decide) ?_
        exact ih x1 (x2 + 1) (upd v_tally (Int32.toNatClampNeg x2) (0 : Int32)) hf H locs hP hD hS ls (lv_sub hl [1, 2, 0] rfl)
  unfold f_X2_mostLeft at hf
  refine lv_iconst (v := 0) hx hb dX2_mostLeft_0 (by decide) ?_
  refine lv_istore_n (lv' := [(2, .int (0 : Int32)), (0, .ref k_this), (1, .int x1)]) hx hb dX2_mostLeft_1 rfl hl (by decide) rfl (fun ls hl => ?_)
  exact w_2 FU x1 (0 : Int32) v_tally hf s.heap [] hP hD hS ls (lv_sub hl [1, 2, 0] rfl)
set_option maxHeartbeats 4000000 in
set_option maxRecDepth 100000 in
theorem c_X2_bestRow (l : Launch) (g : bG) (k_this : Nat) (k_this_found : Nat) (k_this_tally : Nat) (v_size : Int32) (v_found : Nat → Int32) (v_tally : Nat → Int32) (out : Int32 × (Nat → Int32)) (hf : f_X2_bestRow v_found v_tally v_size = some out) : Mi l g yX2_bestRow wsX2_bestRow ({ frames := 5, cells := 0, slots := 0, locals := 118 } : Room) [.ref k_this] [(k_this, .inr (0, [.ref k_this_found, .ref k_this_tally, .int v_size])), (k_this_found, .inl (gI g, 24, .inl v_found)), (k_this_tally, .inl (gI g, 7, .inl v_tally))] out.1 [(k_this, .inr (0, [.ref k_this_found, .ref k_this_tally, .int v_size])), (k_this_found, .inl (gI g, 24, .inl v_found)), (k_this_tally, .inl (gI g, 7, .inl out.2))] := by
  refine ofM (Qc := fun A => Qi g out.1 [(k_this, .inr (0, [.ref k_this_found, .ref k_this_tally, .int v_size])), (k_this_found, .inl (gI g, 24, .inl v_found)), (k_this_tally, .inl (gI g, 7, .inl out.2))] A) (cc := cX2_bestRow) (nL := 5) (ret := some .int) (by decide) rfl (Nat.le_of_ble_eq_true rfl) ?_
  intro p e s m below meth c ar A hC hA hP hD hG ls hl
  have hS : va_S A s.heap s.heap [] := va_S.rf
  obtain ⟨hx, hb, hml, hown, hts, hr, hlk, -⟩ := hC
  have hl : lv_has ls 5 [(0, .ref k_this)] := hl
  have hK := hG.1
  generalize hQ : MQ below (Qi g out.1 [(k_this, .inr (0, [.ref k_this_found, .ref k_this_tally, .int v_size])), (k_this_found, .inl (gI g, 24, .inl v_found)), (k_this_tally, .inl (gI g, 7, .inl out.2))] A) ar s 0 0 A = QQ
  have w_10 : ∀ n : Nat, ∀ (x1 : Int32) (x2 : Int32) (x3 : Int32) (v_tally : Nat → Int32), f_X2_bestRow_b10 v_found v_size n x1 x2 x3 v_tally = some out → ∀ (H : Heap) (locs : List Loc), va_P (gD g) vwCl [(k_this, .inr (0, [.ref k_this_found, .ref k_this_tally, .int v_size])), (k_this_found, .inl (gI g, 24, .inl v_found)), (k_this_tally, .inl (gI g, 7, .inl v_tally))] H → va_D A [(k_this, .inr (0, [.ref k_this_found, .ref k_this_tally, .int v_size])), (k_this_found, .inl (gI g, 24, .inl v_found)), (k_this_tally, .inl (gI g, 7, .inl v_tally))] → va_S A s.heap H locs → ∀ ls : Array Slot, lv_has ls 5 [(0, .ref k_this), (1, .int x1), (2, .int x2), (3, .int x3)] → W p l e ({ frames := 5, cells := 0, slots := 0, locals := 118 } : Room) s m ar below meth c H locs 0 0 QQ (F0 m 10 ls []) := by
    intro n
    induction n with
    | zero =>
      intro x1 x2 x3 v_tally hf
      rw [f_X2_bestRow_b10_z] at hf
      cases hf
    | succ n ih =>
      intro x1 x2 x3 v_tally hf H locs hP hD hS ls hl
      rw [f_X2_bestRow_b10_s] at hf
      refine lv_iload_n hx hb dX2_bestRow_10 rfl (lv_at hl 3 rfl) ?_
      refine lv_sipush (v := 133) hx hb dX2_bestRow_11 (by decide) ?_
      refine lv_icmp_gt (tgt := 51) hx hb dX2_bestRow_14 (by decide) (fun c3 => ?_) (fun c3 => ?_)
      · replace hf := ift c3 hf
        refine lv_iload_n hx hb dX2_bestRow_51 rfl (lv_at hl 1 rfl) ?_
        rw [← hQ, ← Option.some.inj hf]
        exact eM_i hx hb hr hlk hP hD hS rfl dX2_bestRow_52
      · replace hf := iff_ c3 hf
        refine lv_iload_n hx hb dX2_bestRow_17 rfl (lv_at hl 3 rfl) ?_
        obtain ⟨z4, hq5, hf⟩ := bnd_some hf
        refine kR_i (va_runS (As := [.int x3]) (rest := []) ⟨hx, hb, hml, hown, hts⟩ (c_X1_isRow l g x3 z4 hq5) (va_cwS 1 hts gX2_bestRow_X1_isRow rfl rfl rfl (by decide +kernel) ⟨Nat.le_of_ble_eq_true rfl, Nat.le_of_ble_eq_true rfl⟩) (kpS_R (hG.now hS) (hP.subm (ws' := []) [] rfl)) rfl rfl hl.1 rfl (lv_room (Nat.le_of_ble_eq_true rfl)) dX2_bestRow_18 ⟨Nat.le_of_ble_eq_true rfl, Nat.le_of_ble_eq_true rfl⟩) ?_
        refine lv_if_ne (tgt := 27) hx hb dX2_bestRow_21 (by decide) (fun c6 => ?_) (fun c6 => ?_)
        · replace hf := iff_ c6 hf
          refine lv_aload_n hx hb dX2_bestRow_27 rfl (lv_at hl 0 rfl) ?_
          refine lv_iload_n hx hb dX2_bestRow_28 rfl (lv_at hl 3 rfl) ?_
          obtain ⟨z7, hq8, hf⟩ := bnd_some hf
          refine kM_i (wc := [(k_this, .inr (0, [.ref k_this_found, .ref k_this_tally, .int v_size])), (k_this_found, .inl (gI g, 24, .inl v_found)), (k_this_tally, .inl (gI g, 7, .inl v_tally))]) (wr := []) (w1 := [(k_this, .inr (0, [.ref k_this_found, .ref k_this_tally, .int v_size])), (k_this_found, .inl (gI g, 24, .inl v_found)), (k_this_tally, .inl (gI g, 7, .inl z7.2))]) (w2 := [(k_this, .inr (0, [.ref k_this_found, .ref k_this_tally, .int v_size])), (k_this_found, .inl (gI g, 24, .inl v_found)), (k_this_tally, .inl (gI g, 7, .inl z7.2))]) (va_runV (As := [.int x3]) (rest := []) ⟨hx, hb, hml, hown, hts⟩ (c_X2_mostLeft l g k_this k_this_found k_this_tally v_size v_found v_tally x3 z7 hq8 H.size) (cwV 1 hts gX2_bestRow_X2_mostLeft rfl rfl rfl (by decide +kernel) ⟨Nat.le_of_ble_eq_true rfl, Nat.le_of_ble_eq_true rfl⟩) (kpV_M (q0 := 0) (ci := 0) hG hS hP hD hA [0, 1, 2] rfl (by decide) rfl rfl) rfl rfl hl.1 rfl (lv_room (Nat.le_of_ble_eq_true rfl)) dX2_bestRow_29 ⟨Nat.le_of_ble_eq_true rfl, Nat.le_of_ble_eq_true rfl⟩) hP hD hS hA [0, 1, 2] [] [0, 1, 2] rfl rfl (by decide) (by decide) rfl (by decide) (fun H locs hP hD hS => ?_)
          refine lv_istore (lv' := [(4, .int z7.1), (0, .ref k_this), (1, .int x1), (2, .int x2), (3, .int x3)]) hx hb dX2_bestRow_32 hl (by decide) rfl (fun ls hl => ?_)
          refine lv_iload hx hb dX2_bestRow_34 (lv_at hl 0 rfl) ?_
          refine lv_iload_n hx hb dX2_bestRow_36 rfl (lv_at hl 3 rfl) ?_
          refine lv_icmp_ge (tgt := 45) hx hb dX2_bestRow_37 (by decide) (fun c9 => ?_) (fun c9 => ?_)
          · replace hf := ift c9 hf
            refine lv_iinc (v := (x3 + 1)) (lv' := [(3, .int (x3 + 1)), (4, .int z7.1), (0, .ref k_this), (1, .int x1), (2, .int x2)]) hx hb dX2_bestRow_45 hl (k := 4) rfl rfl (by decide) rfl (fun ls hl => ?_)
            refine lv_goto (tgt := 10) hx hb dX2_bestRow_48 (by decide) ?_
            exact ih x1 x2 (x3 + 1) z7.2 hf H locs hP hD hS ls (lv_sub hl [2, 3, 4, 0] rfl)
          · replace hf := iff_ c9 hf
            refine lv_iload_n hx hb dX2_bestRow_40 rfl (lv_at hl 4 rfl) ?_
            refine lv_istore_n (lv' := [(1, .int x3), (4, .int z7.1), (0, .ref k_this), (2, .int x2), (3, .int x3)]) hx hb dX2_bestRow_41 rfl hl (by decide) rfl (fun ls hl => ?_)
            refine lv_iload hx hb dX2_bestRow_42 (lv_at hl 1 rfl) ?_
            refine lv_istore_n (lv' := [(2, .int z7.1), (1, .int x3), (4, .int z7.1), (0, .ref k_this), (3, .int x3)]) hx hb dX2_bestRow_44 rfl hl (by decide) rfl (fun ls hl => ?_)
            refine lv_iinc (v := (x3 + 1)) (lv' := [(3, .int (x3 + 1)), (2, .int z7.1), (1, .int x3), (4, .int z7.1), (0, .ref k_this)]) hx hb dX2_bestRow_45 hl (k := 4) rfl rfl (by decide) rfl (fun ls hl => ?_)
            refine lv_goto (tgt := 10) hx hb dX2_bestRow_48 (by decide) ?_
            exact ih x3 z7.1 (x3 + 1) z7.2 hf H locs hP hD hS ls (lv_sub hl [4, 2, 1, 0] rfl)
        · replace hf := ift c6 hf
          refine lv_goto (tgt := 45) hx hb dX2_bestRow_24 (by decide) ?_
          refine lv_iinc (v := (x3 + 1)) (lv' := [(3, .int (x3 + 1)), (0, .ref k_this), (1, .int x1), (2, .int x2)]) hx hb dX2_bestRow_45 hl (k := 3) rfl rfl (by decide) rfl (fun ls hl => ?_)
          refine lv_goto (tgt := 10) hx hb dX2_bestRow_48 (by decide) ?_
          exact ih x1 x2 (x3 + 1) v_tally hf H locs hP hD hS ls (lv_sub hl [1, 2, 3, 0] rfl)
  unfold f_X2_bestRow at hf
  refine lv_iconst (v := 1) hx hb dX2_bestRow_0 (by decide) ?_
  refine lv_istore_n (lv' := [(1, .int (1 : Int32)), (0, .ref k_this)]) hx hb dX2_bestRow_1 rfl hl (by decide) rfl (fun ls hl => ?_)
  refine lv_aload_n hx hb dX2_bestRow_2 rfl (lv_at hl 1 rfl) ?_
  refine lv_iload_n hx hb dX2_bestRow_3 rfl (lv_at hl 0 rfl) ?_
  obtain ⟨z1, hq2, hf⟩ := bnd_some hf
  refine kM_i (wc := [(k_this, .inr (0, [.ref k_this_found, .ref k_this_tally, .int v_size])), (k_this_found, .inl (gI g, 24, .inl v_found)), (k_this_tally, .inl (gI g, 7, .inl v_tally))]) (wr := []) (w1 := [(k_this, .inr (0, [.ref k_this_found, .ref k_this_tally, .int v_size])), (k_this_found, .inl (gI g, 24, .inl v_found)), (k_this_tally, .inl (gI g, 7, .inl z1.2))]) (w2 := [(k_this, .inr (0, [.ref k_this_found, .ref k_this_tally, .int v_size])), (k_this_found, .inl (gI g, 24, .inl v_found)), (k_this_tally, .inl (gI g, 7, .inl z1.2))]) (va_runV (As := [.int (1 : Int32)]) (rest := []) ⟨hx, hb, hml, hown, hts⟩ (c_X2_mostLeft l g k_this k_this_found k_this_tally v_size v_found v_tally (1 : Int32) z1 hq2 s.heap.size) (cwV 1 hts gX2_bestRow_X2_mostLeft rfl rfl rfl (by decide +kernel) ⟨Nat.le_of_ble_eq_true rfl, Nat.le_of_ble_eq_true rfl⟩) (kpV_M (q0 := 0) (ci := 0) hG hS hP hD hA [0, 1, 2] rfl (by decide) rfl rfl) rfl rfl hl.1 rfl (lv_room (Nat.le_of_ble_eq_true rfl)) dX2_bestRow_4 ⟨Nat.le_of_ble_eq_true rfl, Nat.le_of_ble_eq_true rfl⟩) hP hD hS hA [0, 1, 2] [] [0, 1, 2] rfl rfl (by decide) (by decide) rfl (by decide) (fun H locs hP hD hS => ?_)
  refine lv_istore_n (lv' := [(2, .int z1.1), (1, .int (1 : Int32)), (0, .ref k_this)]) hx hb dX2_bestRow_7 rfl hl (by decide) rfl (fun ls hl => ?_)
  refine lv_iconst (v := 2) hx hb dX2_bestRow_8 (by decide) ?_
  refine lv_istore_n (lv' := [(3, .int (2 : Int32)), (2, .int z1.1), (1, .int (1 : Int32)), (0, .ref k_this)]) hx hb dX2_bestRow_9 rfl hl (by decide) rfl (fun ls hl => ?_)
  exact w_10 FU (1 : Int32) z1.1 (2 : Int32) z1.2 hf H locs hP hD hS ls (lv_sub hl [3, 2, 1, 0] rfl)
set_option maxHeartbeats 4000000 in
set_option maxRecDepth 100000 in
theorem c_X7_copyFrom (l : Launch) (g : bG) (k_this : Nat) (k_this_rows : Nat) (k_this_tops : Nat) (k_p1 : Nat) (k_p1_rows : Nat) (k_p1_tops : Nat) (v_size : Int32) (v_rows : Nat → Int32) (v_tops : Nat → Int32) (v_p1_size : Int32) (v_p1_rows : Nat → Int32) (v_p1_tops : Nat → Int32) (out : (Nat → Int32) × (Nat → Int32) × Int32) (hf : f_X7_copyFrom v_rows v_tops v_size v_p1_rows v_p1_tops v_p1_size = some out) : Mv l g yX7_copyFrom wsX7_copyFrom ({ frames := 0, cells := 0, slots := 0, locals := 0 } : Room) [.ref k_this, .ref k_p1] [(k_this, .inr (5, [.ref k_this_rows, .ref k_this_tops, .int v_size])), (k_this_rows, .inl (gI g, 8, .inl v_rows)), (k_this_tops, .inl (gI g, 8, .inl v_tops)), (k_p1, .inr (5, [.ref k_p1_rows, .ref k_p1_tops, .int v_p1_size])), (k_p1_rows, .inl (gI g, 8, .inl v_p1_rows)), (k_p1_tops, .inl (gI g, 8, .inl v_p1_tops))] [(k_this, .inr (5, [.ref k_this_rows, .ref k_this_tops, .int out.2.2])), (k_this_rows, .inl (gI g, 8, .inl out.1)), (k_this_tops, .inl (gI g, 8, .inl out.2.1)), (k_p1, .inr (5, [.ref k_p1_rows, .ref k_p1_tops, .int v_p1_size])), (k_p1_rows, .inl (gI g, 8, .inl v_p1_rows)), (k_p1_tops, .inl (gI g, 8, .inl v_p1_tops))] := by
  refine ofM (Qc := fun A => Qv g [(k_this, .inr (5, [.ref k_this_rows, .ref k_this_tops, .int out.2.2])), (k_this_rows, .inl (gI g, 8, .inl out.1)), (k_this_tops, .inl (gI g, 8, .inl out.2.1)), (k_p1, .inr (5, [.ref k_p1_rows, .ref k_p1_tops, .int v_p1_size])), (k_p1_rows, .inl (gI g, 8, .inl v_p1_rows)), (k_p1_tops, .inl (gI g, 8, .inl v_p1_tops))] A) (cc := cX7_copyFrom) (nL := 3) (ret := none) (by decide) rfl (Nat.le_of_ble_eq_true rfl) ?_
  intro p e s m below meth c ar A hC hA hP hD hG ls hl
  have hS : va_S A s.heap s.heap [] := va_S.rf
  obtain ⟨hx, hb, hml, hown, hts, hr, hlk, -⟩ := hC
  have hl : lv_has ls 3 [(0, .ref k_this), (1, .ref k_p1)] := hl
  have hK := hG.1
  have iX7 : ∀ w ∈ u_ws RX7 TX7 3, w ∈ wsX7_copyFrom := fun w h => List.mem_cons_of_mem _ (List.mem_append_right _ (h))
  generalize hQ : MQ below (Qv g [(k_this, .inr (5, [.ref k_this_rows, .ref k_this_tops, .int out.2.2])), (k_this_rows, .inl (gI g, 8, .inl out.1)), (k_this_tops, .inl (gI g, 8, .inl out.2.1)), (k_p1, .inr (5, [.ref k_p1_rows, .ref k_p1_tops, .int v_p1_size])), (k_p1_rows, .inl (gI g, 8, .inl v_p1_rows)), (k_p1_tops, .inl (gI g, 8, .inl v_p1_tops))] A) ar s 0 0 A = QQ
  have w_2 : ∀ n : Nat, ∀ (x2 : Int32) (v_rows : Nat → Int32) (v_tops : Nat → Int32) (v_size : Int32), f_X7_copyFrom_b2 v_p1_rows v_p1_tops v_p1_size n x2 v_rows v_tops v_size = some out → ∀ (H : Heap) (locs : List Loc), va_P (gD g) vwCl [(k_this, .inr (5, [.ref k_this_rows, .ref k_this_tops, .int v_size])), (k_this_rows, .inl (gI g, 8, .inl v_rows)), (k_this_tops, .inl (gI g, 8, .inl v_tops)), (k_p1, .inr (5, [.ref k_p1_rows, .ref k_p1_tops, .int v_p1_size])), (k_p1_rows, .inl (gI g, 8, .inl v_p1_rows)), (k_p1_tops, .inl (gI g, 8, .inl v_p1_tops))] H → va_D A [(k_this, .inr (5, [.ref k_this_rows, .ref k_this_tops, .int v_size])), (k_this_rows, .inl (gI g, 8, .inl v_rows)), (k_this_tops, .inl (gI g, 8, .inl v_tops)), (k_p1, .inr (5, [.ref k_p1_rows, .ref k_p1_tops, .int v_p1_size])), (k_p1_rows, .inl (gI g, 8, .inl v_p1_rows)), (k_p1_tops, .inl (gI g, 8, .inl v_p1_tops))] → va_S A s.heap H locs → ∀ ls : Array Slot, lv_has ls 3 [(0, .ref k_this), (1, .ref k_p1), (2, .int x2)] → W p l e ({ frames := 0, cells := 0, slots := 0, locals := 0 } : Room) s m ar below meth c H locs 0 0 QQ (F0 m 2 ls []) := by
    intro n
    induction n with
    | zero =>
      intro x2 v_rows v_tops v_size hf
      rw [f_X7_copyFrom_b2_z] at hf
      cases hf
    | succ n ih =>
      intro x2 v_rows v_tops v_size hf H locs hP hD hS ls hl
      rw [f_X7_copyFrom_b2_s] at hf
      refine lv_iload_n hx hb dX7_copyFrom_2 rfl (lv_at hl 2 rfl) ?_
      refine lv_bipush (v := 8) hx hb dX7_copyFrom_3 (by decide) ?_
      refine lv_icmp_ge (tgt := 38) hx hb dX7_copyFrom_5 (by decide) (fun c1 => ?_) (fun c1 => ?_)
      · replace hf := ift c1 hf
        refine lv_aload_n hx hb dX7_copyFrom_38 rfl (lv_at hl 0 rfl) ?_
        refine lv_aload_n hx hb dX7_copyFrom_39 rfl (lv_at hl 1 rfl) ?_
        refine va_get (D := gD g) (ci := 5) (v := .int v_p1_size) (C := RX7) (T := TX7) (N := 3) hx hb hts iX7 hown hK hP 3 rfl rfl 2 (by decide) (hts (.fieldLink RX7 16 "BeetleDrive$Sights" "size" "I") (List.mem_of_getElem? (i := 3) rfl)) (fun _ h9 => h9) rfl dX7_copyFrom_40 ?_
        refine va_put (D := gD g) (ci := 5) (v := .int v_p1_size) (ty := .int) (C := RX7) (T := TX7) (N := 3) hx hb hts iX7 tyX7 tyX7_ok nmX7 hown hK hP hD hS 0 rfl rfl 2 (by decide) (hts (.fieldLink RX7 16 "BeetleDrive$Sights" "size" "I") (List.mem_of_getElem? (i := 3) rfl)) (fun _ h9 => h9) rfl (tyX7_ok 2 (by decide)) rfl rfl (Nat.le_of_ble_eq_true rfl) dX7_copyFrom_43 (fun H locs hP hD hS => ?_)
        have hP : va_P (gD g) vwCl [(k_this, .inr (5, [.ref k_this_rows, .ref k_this_tops, .int v_p1_size])), (k_this_rows, .inl (gI g, 8, .inl v_rows)), (k_this_tops, .inl (gI g, 8, .inl v_tops)), (k_p1, .inr (5, [.ref k_p1_rows, .ref k_p1_tops, .int v_p1_size])), (k_p1_rows, .inl (gI g, 8, .inl v_p1_rows)), (k_p1_tops, .inl (gI g, 8, .inl v_p1_tops))] H := hP
        have hD : va_D A [(k_this, .inr (5, [.ref k_this_rows, .ref k_this_tops, .int v_p1_size])), (k_this_rows, .inl (gI g, 8, .inl v_rows)), (k_this_tops, .inl (gI g, 8, .inl v_tops)), (k_p1, .inr (5, [.ref k_p1_rows, .ref k_p1_tops, .int v_p1_size])), (k_p1_rows, .inl (gI g, 8, .inl v_p1_rows)), (k_p1_tops, .inl (gI g, 8, .inl v_p1_tops))] := hD
        rw [← hQ, ← Option.some.inj hf]
        exact eM_v hx hb hr hlk hP hD hS dX7_copyFrom_46
      · replace hf := iff_ c1 hf
        refine lv_aload_n hx hb dX7_copyFrom_8 rfl (lv_at hl 0 rfl) ?_
        refine va_get (D := gD g) (ci := 5) (v := .ref k_this_rows) (C := RX7) (T := TX7) (N := 3) hx hb hts iX7 hown hK hP 0 rfl rfl 0 (by decide) (hts (.fieldLink RX7 9 "BeetleDrive$Sights" "rows" "[I") (List.mem_of_getElem? (i := 1) rfl)) (fun _ h9 => h9) rfl dX7_copyFrom_9 ?_
        refine lv_iload_n hx hb dX7_copyFrom_12 rfl (lv_at hl 2 rfl) ?_
        refine lv_aload_n hx hb dX7_copyFrom_13 rfl (lv_at hl 1 rfl) ?_
        refine va_get (D := gD g) (ci := 5) (v := .ref k_p1_rows) (C := RX7) (T := TX7) (N := 3) hx hb hts iX7 hown hK hP 3 rfl rfl 0 (by decide) (hts (.fieldLink RX7 9 "BeetleDrive$Sights" "rows" "[I") (List.mem_of_getElem? (i := 1) rfl)) (fun _ h9 => h9) rfl dX7_copyFrom_14 ?_
        refine lv_iload_n hx hb dX7_copyFrom_17 rfl (lv_at hl 2 rfl) ?_
        obtain ⟨hi2, hf⟩ := chk_some hf
        refine va_iald hx hb hK hP 4 0 rfl rfl hi2 dX7_copyFrom_18 ?_
        obtain ⟨hi3, hf⟩ := chk_some hf
        refine va_iast hx hb hK hP hD hS 1 0 rfl rfl hi3 dX7_copyFrom_19 (fun H locs hP hD hS => ?_)
        have hP : va_P (gD g) vwCl [(k_this, .inr (5, [.ref k_this_rows, .ref k_this_tops, .int v_size])), (k_this_rows, .inl (gI g, 8, .inl (upd v_rows (Int32.toNatClampNeg x2) (v_p1_rows (Int32.toNatClampNeg x2))))), (k_this_tops, .inl (gI g, 8, .inl v_tops)), (k_p1, .inr (5, [.ref k_p1_rows, .ref k_p1_tops, .int v_p1_size])), (k_p1_rows, .inl (gI g, 8, .inl v_p1_rows)), (k_p1_tops, .inl (gI g, 8, .inl v_p1_tops))] H := hP
        have hD : va_D A [(k_this, .inr (5, [.ref k_this_rows, .ref k_this_tops, .int v_size])), (k_this_rows, .inl (gI g, 8, .inl (upd v_rows (Int32.toNatClampNeg x2) (v_p1_rows (Int32.toNatClampNeg x2))))), (k_this_tops, .inl (gI g, 8, .inl v_tops)), (k_p1, .inr (5, [.ref k_p1_rows, .ref k_p1_tops, .int v_p1_size])), (k_p1_rows, .inl (gI g, 8, .inl v_p1_rows)), (k_p1_tops, .inl (gI g, 8, .inl v_p1_tops))] := hD
        refine lv_aload_n hx hb dX7_copyFrom_20 rfl (lv_at hl 0 rfl) ?_
        refine va_get (D := gD g) (ci := 5) (v := .ref k_this_tops) (C := RX7) (T := TX7) (N := 3) hx hb hts iX7 hown hK hP 0 rfl rfl 1 (by decide) (hts (.fieldLink RX7 13 "BeetleDrive$Sights" "tops" "[I") (List.mem_of_getElem? (i := 2) rfl)) (fun _ h9 => h9) rfl dX7_copyFrom_21 ?_
        refine lv_iload_n hx hb dX7_copyFrom_24 rfl (lv_at hl 2 rfl) ?_
        refine lv_aload_n hx hb dX7_copyFrom_25 rfl (lv_at hl 1 rfl) ?_
        refine va_get (D := gD g) (ci := 5) (v := .ref k_p1_tops) (C := RX7) (T := TX7) (N := 3) hx hb hts iX7 hown hK hP 3 rfl rfl 1 (by decide) (hts (.fieldLink RX7 13 "BeetleDrive$Sights" "tops" "[I") (List.mem_of_getElem? (i := 2) rfl)) (fun _ h9 => h9) rfl dX7_copyFrom_26 ?_
        refine lv_iload_n hx hb dX7_copyFrom_29 rfl (lv_at hl 2 rfl) ?_
        obtain ⟨hi4, hf⟩ := chk_some hf
        refine va_iald hx hb hK hP 5 0 rfl rfl hi4 dX7_copyFrom_30 ?_
        obtain ⟨hi5, hf⟩ := chk_some hf
        refine va_iast hx hb hK hP hD hS 2 0 rfl rfl hi5 dX7_copyFrom_31 (fun H locs hP hD hS => ?_)
        have hP : va_P (gD g) vwCl [(k_this, .inr (5, [.ref k_this_rows, .ref k_this_tops, .int v_size])), (k_this_rows, .inl (gI g, 8, .inl (upd v_rows (Int32.toNatClampNeg x2) (v_p1_rows (Int32.toNatClampNeg x2))))), (k_this_tops, .inl (gI g, 8, .inl (upd v_tops (Int32.toNatClampNeg x2) (v_p1_tops (Int32.toNatClampNeg x2))))), (k_p1, .inr (5, [.ref k_p1_rows, .ref k_p1_tops, .int v_p1_size])), (k_p1_rows, .inl (gI g, 8, .inl v_p1_rows)), (k_p1_tops, .inl (gI g, 8, .inl v_p1_tops))] H := hP
        have hD : va_D A [(k_this, .inr (5, [.ref k_this_rows, .ref k_this_tops, .int v_size])), (k_this_rows, .inl (gI g, 8, .inl (upd v_rows (Int32.toNatClampNeg x2) (v_p1_rows (Int32.toNatClampNeg x2))))), (k_this_tops, .inl (gI g, 8, .inl (upd v_tops (Int32.toNatClampNeg x2) (v_p1_tops (Int32.toNatClampNeg x2))))), (k_p1, .inr (5, [.ref k_p1_rows, .ref k_p1_tops, .int v_p1_size])), (k_p1_rows, .inl (gI g, 8, .inl v_p1_rows)), (k_p1_tops, .inl (gI g, 8, .inl v_p1_tops))] := hD
        refine lv_iinc (v := (x2 + 1)) (lv' := [(2, .int (x2 + 1)), (0, .ref k_this), (1, .ref k_p1)]) hx hb dX7_copyFrom_32 hl (k := 2) rfl rfl (by decide) rfl (fun ls hl => ?_)
        refine lv_goto (tgt := 2) hx hb dX7_copyFrom_35 (by decide) ?_
        exact ih (x2 + 1) (upd v_rows (Int32.toNatClampNeg x2) (v_p1_rows (Int32.toNatClampNeg x2))) (upd v_tops (Int32.toNatClampNeg x2) (v_p1_tops (Int32.toNatClampNeg x2))) v_size hf H locs hP hD hS ls (lv_sub hl [1, 2, 0] rfl)
  unfold f_X7_copyFrom at hf
  refine lv_iconst (v := 0) hx hb dX7_copyFrom_0 (by decide) ?_
  refine lv_istore_n (lv' := [(2, .int (0 : Int32)), (0, .ref k_this), (1, .ref k_p1)]) hx hb dX7_copyFrom_1 rfl hl (by decide) rfl (fun ls hl => ?_)
  exact w_2 FU (0 : Int32) v_rows v_tops v_size hf s.heap [] hP hD hS ls (lv_sub hl [1, 2, 0] rfl)
set_option maxHeartbeats 4000000 in
set_option maxRecDepth 100000 in
theorem c_X3_keep (l : Launch) (g : bG) (k_this : Nat) (k_this_table : Nat) (k_this_table_drawn : Nat) (k_this_table_points : Nat) (k_this_sights : Nat) (k_this_sights_rows : Nat) (k_this_sights_tops : Nat) (k_p1 : Nat) (k_p1_drawn : Nat) (k_p1_points : Nat) (k_p2 : Nat) (k_p2_rows : Nat) (k_p2_tops : Nat) (v_isKept : Int32) (v_table_inBits : Int32) (v_table_holder : Int32) (v_table_game : Int32) (v_table_drawn : Nat → Int32) (v_table_points : Nat → Int32) (v_sights_size : Int32) (v_sights_rows : Nat → Int32) (v_sights_tops : Nat → Int32) (v_p1_inBits : Int32) (v_p1_holder : Int32) (v_p1_game : Int32) (v_p1_drawn : Nat → Int32) (v_p1_points : Nat → Int32) (v_p2_size : Int32) (v_p2_rows : Nat → Int32) (v_p2_tops : Nat → Int32) (out : (Nat → Int32) × (Nat → Int32) × Int32 × Int32 × Int32 × (Nat → Int32) × (Nat → Int32) × Int32 × Int32) (hf : f_X3_keep v_table_drawn v_table_points v_table_inBits v_table_holder v_table_game v_sights_rows v_sights_tops v_sights_size v_isKept v_p1_drawn v_p1_points v_p1_inBits v_p1_holder v_p1_game v_p2_rows v_p2_tops v_p2_size = some out) : Mv l g yX3_keep wsX3_keep ({ frames := 1, cells := 0, slots := 0, locals := 22 } : Room) [.ref k_this, .ref k_p1, .ref k_p2] [(k_this, .inr (1, [.ref k_this_table, .ref k_this_sights, .int v_isKept])), (k_this_table, .inr (7, [.ref k_this_table_drawn, .ref k_this_table_points, .int v_table_inBits, .int v_table_holder, .int v_table_game])), (k_this_table_drawn, .inl (gI g, 6, .inl v_table_drawn)), (k_this_table_points, .inl (gI g, 6, .inl v_table_points)), (k_this_sights, .inr (5, [.ref k_this_sights_rows, .ref k_this_sights_tops, .int v_sights_size])), (k_this_sights_rows, .inl (gI g, 8, .inl v_sights_rows)), (k_this_sights_tops, .inl (gI g, 8, .inl v_sights_tops)), (k_p1, .inr (7, [.ref k_p1_drawn, .ref k_p1_points, .int v_p1_inBits, .int v_p1_holder, .int v_p1_game])), (k_p1_drawn, .inl (gI g, 6, .inl v_p1_drawn)), (k_p1_points, .inl (gI g, 6, .inl v_p1_points)), (k_p2, .inr (5, [.ref k_p2_rows, .ref k_p2_tops, .int v_p2_size])), (k_p2_rows, .inl (gI g, 8, .inl v_p2_rows)), (k_p2_tops, .inl (gI g, 8, .inl v_p2_tops))] [(k_this, .inr (1, [.ref k_this_table, .ref k_this_sights, .int out.2.2.2.2.2.2.2.2])), (k_this_table, .inr (7, [.ref k_this_table_drawn, .ref k_this_table_points, .int out.2.2.1, .int out.2.2.2.1, .int out.2.2.2.2.1])), (k_this_table_drawn, .inl (gI g, 6, .inl out.1)), (k_this_table_points, .inl (gI g, 6, .inl out.2.1)), (k_this_sights, .inr (5, [.ref k_this_sights_rows, .ref k_this_sights_tops, .int out.2.2.2.2.2.2.2.1])), (k_this_sights_rows, .inl (gI g, 8, .inl out.2.2.2.2.2.1)), (k_this_sights_tops, .inl (gI g, 8, .inl out.2.2.2.2.2.2.1)), (k_p1, .inr (7, [.ref k_p1_drawn, .ref k_p1_points, .int v_p1_inBits, .int v_p1_holder, .int v_p1_game])), (k_p1_drawn, .inl (gI g, 6, .inl v_p1_drawn)), (k_p1_points, .inl (gI g, 6, .inl v_p1_points)), (k_p2, .inr (5, [.ref k_p2_rows, .ref k_p2_tops, .int v_p2_size])), (k_p2_rows, .inl (gI g, 8, .inl v_p2_rows)), (k_p2_tops, .inl (gI g, 8, .inl v_p2_tops))] := by
  refine ofM (Qc := fun A => Qv g [(k_this, .inr (1, [.ref k_this_table, .ref k_this_sights, .int out.2.2.2.2.2.2.2.2])), (k_this_table, .inr (7, [.ref k_this_table_drawn, .ref k_this_table_points, .int out.2.2.1, .int out.2.2.2.1, .int out.2.2.2.2.1])), (k_this_table_drawn, .inl (gI g, 6, .inl out.1)), (k_this_table_points, .inl (gI g, 6, .inl out.2.1)), (k_this_sights, .inr (5, [.ref k_this_sights_rows, .ref k_this_sights_tops, .int out.2.2.2.2.2.2.2.1])), (k_this_sights_rows, .inl (gI g, 8, .inl out.2.2.2.2.2.1)), (k_this_sights_tops, .inl (gI g, 8, .inl out.2.2.2.2.2.2.1)), (k_p1, .inr (7, [.ref k_p1_drawn, .ref k_p1_points, .int v_p1_inBits, .int v_p1_holder, .int v_p1_game])), (k_p1_drawn, .inl (gI g, 6, .inl v_p1_drawn)), (k_p1_points, .inl (gI g, 6, .inl v_p1_points)), (k_p2, .inr (5, [.ref k_p2_rows, .ref k_p2_tops, .int v_p2_size])), (k_p2_rows, .inl (gI g, 8, .inl v_p2_rows)), (k_p2_tops, .inl (gI g, 8, .inl v_p2_tops))] A) (cc := cX3_keep) (nL := 3) (ret := none) (by decide) rfl (Nat.le_of_ble_eq_true rfl) ?_
  intro p e s m below meth c ar A hC hA hP hD hG ls hl
  have hS : va_S A s.heap s.heap [] := va_S.rf
  obtain ⟨hx, hb, hml, hown, hts, hr, hlk, -⟩ := hC
  have hl : lv_has ls 3 [(0, .ref k_this), (1, .ref k_p1), (2, .ref k_p2)] := hl
  have hK := hG.1
  have iX3 : ∀ w ∈ u_ws RX3 TX3 3, w ∈ wsX3_keep := fun w h => List.mem_cons_of_mem _ (List.mem_append_left _ (List.mem_append_left _ (List.mem_append_right _ (h))))
  generalize hQ : MQ below (Qv g [(k_this, .inr (1, [.ref k_this_table, .ref k_this_sights, .int out.2.2.2.2.2.2.2.2])), (k_this_table, .inr (7, [.ref k_this_table_drawn, .ref k_this_table_points, .int out.2.2.1, .int out.2.2.2.1, .int out.2.2.2.2.1])), (k_this_table_drawn, .inl (gI g, 6, .inl out.1)), (k_this_table_points, .inl (gI g, 6, .inl out.2.1)), (k_this_sights, .inr (5, [.ref k_this_sights_rows, .ref k_this_sights_tops, .int out.2.2.2.2.2.2.2.1])), (k_this_sights_rows, .inl (gI g, 8, .inl out.2.2.2.2.2.1)), (k_this_sights_tops, .inl (gI g, 8, .inl out.2.2.2.2.2.2.1)), (k_p1, .inr (7, [.ref k_p1_drawn, .ref k_p1_points, .int v_p1_inBits, .int v_p1_holder, .int v_p1_game])), (k_p1_drawn, .inl (gI g, 6, .inl v_p1_drawn)), (k_p1_points, .inl (gI g, 6, .inl v_p1_points)), (k_p2, .inr (5, [.ref k_p2_rows, .ref k_p2_tops, .int v_p2_size])), (k_p2_rows, .inl (gI g, 8, .inl v_p2_rows)), (k_p2_tops, .inl (gI g, 8, .inl v_p2_tops))] A) ar s 0 0 A = QQ
  unfold f_X3_keep at hf
  refine lv_aload_n hx hb dX3_keep_0 rfl (lv_at hl 0 rfl) ?_
  refine va_get (D := gD g) (ci := 1) (v := .ref k_this_table) (C := RX3) (T := TX3) (N := 3) hx hb hts iX3 hown hK hP 0 rfl rfl 0 (by decide) (hts (.fieldLink RX3 10 "BeetleDrive$Image" "table" "LBeetleDrive$Table;") (List.mem_of_getElem? (i := 1) rfl)) (fun _ h9 => h9) rfl dX3_keep_1 ?_
  refine lv_aload_n hx hb dX3_keep_4 rfl (lv_at hl 1 rfl) ?_
  obtain ⟨z1, hq2, hf⟩ := bnd_some hf
  refine kM_v (wc := [(k_this_table, .inr (7, [.ref k_this_table_drawn, .ref k_this_table_points, .int v_table_inBits, .int v_table_holder, .int v_table_game])), (k_this_table_drawn, .inl (gI g, 6, .inl v_table_drawn)), (k_this_table_points, .inl (gI g, 6, .inl v_table_points)), (k_p1, .inr (7, [.ref k_p1_drawn, .ref k_p1_points, .int v_p1_inBits, .int v_p1_holder, .int v_p1_game])), (k_p1_drawn, .inl (gI g, 6, .inl v_p1_drawn)), (k_p1_points, .inl (gI g, 6, .inl v_p1_points))]) (wr := [(k_this, .inr (1, [.ref k_this_table, .ref k_this_sights, .int v_isKept])), (k_this_sights, .inr (5, [.ref k_this_sights_rows, .ref k_this_sights_tops, .int v_sights_size])), (k_this_sights_rows, .inl (gI g, 8, .inl v_sights_rows)), (k_this_sights_tops, .inl (gI g, 8, .inl v_sights_tops)), (k_p2, .inr (5, [.ref k_p2_rows, .ref k_p2_tops, .int v_p2_size])), (k_p2_rows, .inl (gI g, 8, .inl v_p2_rows)), (k_p2_tops, .inl (gI g, 8, .inl v_p2_tops))]) (w1 := [(k_this_table, .inr (7, [.ref k_this_table_drawn, .ref k_this_table_points, .int z1.2.2.1, .int z1.2.2.2.1, .int z1.2.2.2.2])), (k_this_table_drawn, .inl (gI g, 6, .inl z1.1)), (k_this_table_points, .inl (gI g, 6, .inl z1.2.1)), (k_p1, .inr (7, [.ref k_p1_drawn, .ref k_p1_points, .int v_p1_inBits, .int v_p1_holder, .int v_p1_game])), (k_p1_drawn, .inl (gI g, 6, .inl v_p1_drawn)), (k_p1_points, .inl (gI g, 6, .inl v_p1_points))]) (w2 := [(k_this, .inr (1, [.ref k_this_table, .ref k_this_sights, .int v_isKept])), (k_this_table, .inr (7, [.ref k_this_table_drawn, .ref k_this_table_points, .int z1.2.2.1, .int z1.2.2.2.1, .int z1.2.2.2.2])), (k_this_table_drawn, .inl (gI g, 6, .inl z1.1)), (k_this_table_points, .inl (gI g, 6, .inl z1.2.1)), (k_this_sights, .inr (5, [.ref k_this_sights_rows, .ref k_this_sights_tops, .int v_sights_size])), (k_this_sights_rows, .inl (gI g, 8, .inl v_sights_rows)), (k_this_sights_tops, .inl (gI g, 8, .inl v_sights_tops)), (k_p1, .inr (7, [.ref k_p1_drawn, .ref k_p1_points, .int v_p1_inBits, .int v_p1_holder, .int v_p1_game])), (k_p1_drawn, .inl (gI g, 6, .inl v_p1_drawn)), (k_p1_points, .inl (gI g, 6, .inl v_p1_points)), (k_p2, .inr (5, [.ref k_p2_rows, .ref k_p2_tops, .int v_p2_size])), (k_p2_rows, .inl (gI g, 8, .inl v_p2_rows)), (k_p2_tops, .inl (gI g, 8, .inl v_p2_tops))]) (va_runV (As := [.ref k_p1]) (rest := []) ⟨hx, hb, hml, hown, hts⟩ (c_X9_copyFrom l g k_this_table k_this_table_drawn k_this_table_points k_p1 k_p1_drawn k_p1_points v_table_inBits v_table_holder v_table_game v_table_drawn v_table_points v_p1_inBits v_p1_holder v_p1_game v_p1_drawn v_p1_points z1 hq2 s.heap.size) (cwV 1 hts gX3_keep_X9_copyFrom rfl rfl rfl (by decide +kernel) ⟨Nat.le_of_ble_eq_true rfl, Nat.le_of_ble_eq_true rfl⟩) (kpV_M (q0 := 0) (ci := 7) hG hS hP hD hA [1, 2, 3, 7, 8, 9] rfl (by decide) rfl rfl) rfl rfl hl.1 rfl (lv_room (Nat.le_of_ble_eq_true rfl)) dX3_keep_5 ⟨Nat.le_of_ble_eq_true rfl, Nat.le_of_ble_eq_true rfl⟩) hP hD hS hA [1, 2, 3, 7, 8, 9] [0, 4, 5, 6, 10, 11, 12] [0, 7, 8, 9, 1, 2, 3, 10, 11, 12, 4, 5, 6] rfl rfl (by decide) (by decide) rfl (by decide) (fun H locs hP hD hS => ?_)
  refine lv_aload_n hx hb dX3_keep_8 rfl (lv_at hl 0 rfl) ?_
  refine va_get (D := gD g) (ci := 1) (v := .ref k_this_sights) (C := RX3) (T := TX3) (N := 3) hx hb hts iX3 hown hK hP 0 rfl rfl 1 (by decide) (hts (.fieldLink RX3 19 "BeetleDrive$Image" "sights" "LBeetleDrive$Sights;") (List.mem_of_getElem? (i := 2) rfl)) (fun _ h9 => h9) rfl dX3_keep_9 ?_
  refine lv_aload_n hx hb dX3_keep_12 rfl (lv_at hl 2 rfl) ?_
  obtain ⟨z3, hq4, hf⟩ := bnd_some hf
  refine kM_v (wc := [(k_this_sights, .inr (5, [.ref k_this_sights_rows, .ref k_this_sights_tops, .int v_sights_size])), (k_this_sights_rows, .inl (gI g, 8, .inl v_sights_rows)), (k_this_sights_tops, .inl (gI g, 8, .inl v_sights_tops)), (k_p2, .inr (5, [.ref k_p2_rows, .ref k_p2_tops, .int v_p2_size])), (k_p2_rows, .inl (gI g, 8, .inl v_p2_rows)), (k_p2_tops, .inl (gI g, 8, .inl v_p2_tops))]) (wr := [(k_this, .inr (1, [.ref k_this_table, .ref k_this_sights, .int v_isKept])), (k_this_table, .inr (7, [.ref k_this_table_drawn, .ref k_this_table_points, .int z1.2.2.1, .int z1.2.2.2.1, .int z1.2.2.2.2])), (k_this_table_drawn, .inl (gI g, 6, .inl z1.1)), (k_this_table_points, .inl (gI g, 6, .inl z1.2.1)), (k_p1, .inr (7, [.ref k_p1_drawn, .ref k_p1_points, .int v_p1_inBits, .int v_p1_holder, .int v_p1_game])), (k_p1_drawn, .inl (gI g, 6, .inl v_p1_drawn)), (k_p1_points, .inl (gI g, 6, .inl v_p1_points))]) (w1 := [(k_this_sights, .inr (5, [.ref k_this_sights_rows, .ref k_this_sights_tops, .int z3.2.2])), (k_this_sights_rows, .inl (gI g, 8, .inl z3.1)), (k_this_sights_tops, .inl (gI g, 8, .inl z3.2.1)), (k_p2, .inr (5, [.ref k_p2_rows, .ref k_p2_tops, .int v_p2_size])), (k_p2_rows, .inl (gI g, 8, .inl v_p2_rows)), (k_p2_tops, .inl (gI g, 8, .inl v_p2_tops))]) (w2 := [(k_this, .inr (1, [.ref k_this_table, .ref k_this_sights, .int v_isKept])), (k_this_table, .inr (7, [.ref k_this_table_drawn, .ref k_this_table_points, .int z1.2.2.1, .int z1.2.2.2.1, .int z1.2.2.2.2])), (k_this_table_drawn, .inl (gI g, 6, .inl z1.1)), (k_this_table_points, .inl (gI g, 6, .inl z1.2.1)), (k_this_sights, .inr (5, [.ref k_this_sights_rows, .ref k_this_sights_tops, .int z3.2.2])), (k_this_sights_rows, .inl (gI g, 8, .inl z3.1)), (k_this_sights_tops, .inl (gI g, 8, .inl z3.2.1)), (k_p1, .inr (7, [.ref k_p1_drawn, .ref k_p1_points, .int v_p1_inBits, .int v_p1_holder, .int v_p1_game])), (k_p1_drawn, .inl (gI g, 6, .inl v_p1_drawn)), (k_p1_points, .inl (gI g, 6, .inl v_p1_points)), (k_p2, .inr (5, [.ref k_p2_rows, .ref k_p2_tops, .int v_p2_size])), (k_p2_rows, .inl (gI g, 8, .inl v_p2_rows)), (k_p2_tops, .inl (gI g, 8, .inl v_p2_tops))]) (va_runV (As := [.ref k_p2]) (rest := []) ⟨hx, hb, hml, hown, hts⟩ (c_X7_copyFrom l g k_this_sights k_this_sights_rows k_this_sights_tops k_p2 k_p2_rows k_p2_tops v_sights_size v_sights_rows v_sights_tops v_p2_size v_p2_rows v_p2_tops z3 hq4 H.size) (cwV 1 hts gX3_keep_X7_copyFrom rfl rfl rfl (by decide +kernel) ⟨Nat.le_of_ble_eq_true rfl, Nat.le_of_ble_eq_true rfl⟩) (kpV_M (q0 := 0) (ci := 5) hG hS hP hD hA [4, 5, 6, 10, 11, 12] rfl (by decide) rfl rfl) rfl rfl hl.1 rfl (lv_room (Nat.le_of_ble_eq_true rfl)) dX3_keep_13 ⟨Nat.le_of_ble_eq_true rfl, Nat.le_of_ble_eq_true rfl⟩) hP hD hS hA [4, 5, 6, 10, 11, 12] [0, 1, 2, 3, 7, 8, 9] [0, 1, 2, 3, 7, 8, 9, 4, 5, 6, 10, 11, 12] rfl rfl (by decide) (by decide) rfl (by decide) (fun H locs hP hD hS => ?_)
  refine lv_aload_n hx hb dX3_keep_16 rfl (lv_at hl 0 rfl) ?_
  refine lv_iconst (v := 1) hx hb dX3_keep_17 (by decide) ?_
  refine va_put (D := gD g) (ci := 1) (v := .int (1 : Int32)) (ty := .boolean) (C := RX3) (T := TX3) (N := 3) hx hb hts iX3 tyX3 tyX3_ok nmX3 hown hK hP hD hS 0 rfl rfl 2 (by decide) (hts (.fieldLink RX3 30 "BeetleDrive$Image" "isKept" "Z") (List.mem_of_getElem? (i := 3) rfl)) (fun _ h9 => h9) rfl (tyX3_ok 2 (by decide)) nb1 rfl (Nat.le_of_ble_eq_true rfl) dX3_keep_18 (fun H locs hP hD hS => ?_)
  have hP : va_P (gD g) vwCl [(k_this, .inr (1, [.ref k_this_table, .ref k_this_sights, .int (1 : Int32)])), (k_this_table, .inr (7, [.ref k_this_table_drawn, .ref k_this_table_points, .int z1.2.2.1, .int z1.2.2.2.1, .int z1.2.2.2.2])), (k_this_table_drawn, .inl (gI g, 6, .inl z1.1)), (k_this_table_points, .inl (gI g, 6, .inl z1.2.1)), (k_this_sights, .inr (5, [.ref k_this_sights_rows, .ref k_this_sights_tops, .int z3.2.2])), (k_this_sights_rows, .inl (gI g, 8, .inl z3.1)), (k_this_sights_tops, .inl (gI g, 8, .inl z3.2.1)), (k_p1, .inr (7, [.ref k_p1_drawn, .ref k_p1_points, .int v_p1_inBits, .int v_p1_holder, .int v_p1_game])), (k_p1_drawn, .inl (gI g, 6, .inl v_p1_drawn)), (k_p1_points, .inl (gI g, 6, .inl v_p1_points)), (k_p2, .inr (5, [.ref k_p2_rows, .ref k_p2_tops, .int v_p2_size])), (k_p2_rows, .inl (gI g, 8, .inl v_p2_rows)), (k_p2_tops, .inl (gI g, 8, .inl v_p2_tops))] H := hP
  have hD : va_D A [(k_this, .inr (1, [.ref k_this_table, .ref k_this_sights, .int (1 : Int32)])), (k_this_table, .inr (7, [.ref k_this_table_drawn, .ref k_this_table_points, .int z1.2.2.1, .int z1.2.2.2.1, .int z1.2.2.2.2])), (k_this_table_drawn, .inl (gI g, 6, .inl z1.1)), (k_this_table_points, .inl (gI g, 6, .inl z1.2.1)), (k_this_sights, .inr (5, [.ref k_this_sights_rows, .ref k_this_sights_tops, .int z3.2.2])), (k_this_sights_rows, .inl (gI g, 8, .inl z3.1)), (k_this_sights_tops, .inl (gI g, 8, .inl z3.2.1)), (k_p1, .inr (7, [.ref k_p1_drawn, .ref k_p1_points, .int v_p1_inBits, .int v_p1_holder, .int v_p1_game])), (k_p1_drawn, .inl (gI g, 6, .inl v_p1_drawn)), (k_p1_points, .inl (gI g, 6, .inl v_p1_points)), (k_p2, .inr (5, [.ref k_p2_rows, .ref k_p2_tops, .int v_p2_size])), (k_p2_rows, .inl (gI g, 8, .inl v_p2_rows)), (k_p2_tops, .inl (gI g, 8, .inl v_p2_tops))] := hD
  rw [← hQ, ← Option.some.inj hf]
  exact eM_v hx hb hr hlk hP hD hS dX3_keep_21
set_option maxHeartbeats 4000000 in
set_option maxRecDepth 100000 in
theorem c_X7_add (l : Launch) (g : bG) (k_this : Nat) (k_this_rows : Nat) (k_this_tops : Nat) (v_size : Int32) (v_rows : Nat → Int32) (v_tops : Nat → Int32) (x1 : Int32) (x2 : Int32) (out : Int32 × (Nat → Int32) × (Nat → Int32) × Int32) (hf : f_X7_add v_rows v_tops v_size x1 x2 = some out) : Mi l g yX7_add wsX7_add ({ frames := 0, cells := 0, slots := 0, locals := 0 } : Room) [.ref k_this, .int x1, .int x2] [(k_this, .inr (5, [.ref k_this_rows, .ref k_this_tops, .int v_size])), (k_this_rows, .inl (gI g, 8, .inl v_rows)), (k_this_tops, .inl (gI g, 8, .inl v_tops))] out.1 [(k_this, .inr (5, [.ref k_this_rows, .ref k_this_tops, .int out.2.2.2])), (k_this_rows, .inl (gI g, 8, .inl out.2.1)), (k_this_tops, .inl (gI g, 8, .inl out.2.2.1))] := by
  refine ofM (Qc := fun A => Qi g out.1 [(k_this, .inr (5, [.ref k_this_rows, .ref k_this_tops, .int out.2.2.2])), (k_this_rows, .inl (gI g, 8, .inl out.2.1)), (k_this_tops, .inl (gI g, 8, .inl out.2.2.1))] A) (cc := cX7_add) (nL := 3) (ret := some .boolean) (by decide) rfl (Nat.le_of_ble_eq_true rfl) ?_
  intro p e s m below meth c ar A hC hA hP hD hG ls hl
  have hS : va_S A s.heap s.heap [] := va_S.rf
  obtain ⟨hx, hb, hml, hown, hts, hr, hlk, -⟩ := hC
  have hl : lv_has ls 3 [(0, .ref k_this), (1, .int x1), (2, .int x2)] := hl
  have hK := hG.1
  have iX7 : ∀ w ∈ u_ws RX7 TX7 3, w ∈ wsX7_add := fun w h => List.mem_cons_of_mem _ (List.mem_append_right _ (h))
  generalize hQ : MQ below (Qi g out.1 [(k_this, .inr (5, [.ref k_this_rows, .ref k_this_tops, .int out.2.2.2])), (k_this_rows, .inl (gI g, 8, .inl out.2.1)), (k_this_tops, .inl (gI g, 8, .inl out.2.2.1))] A) ar s 0 0 A = QQ
  unfold f_X7_add at hf
  refine lv_aload_n hx hb dX7_add_0 rfl (lv_at hl 0 rfl) ?_
  refine va_get (D := gD g) (ci := 5) (v := .int v_size) (C := RX7) (T := TX7) (N := 3) hx hb hts iX7 hown hK hP 0 rfl rfl 2 (by decide) (hts (.fieldLink RX7 16 "BeetleDrive$Sights" "size" "I") (List.mem_of_getElem? (i := 1) rfl)) (fun _ h9 => h9) rfl dX7_add_1 ?_
  refine lv_bipush (v := 8) hx hb dX7_add_4 (by decide) ?_
  refine lv_icmp_lt (tgt := 11) hx hb dX7_add_6 (by decide) (fun c1 => ?_) (fun c1 => ?_)
  · replace hf := ift c1 hf
    refine lv_aload_n hx hb dX7_add_11 rfl (lv_at hl 0 rfl) ?_
    refine va_get (D := gD g) (ci := 5) (v := .ref k_this_rows) (C := RX7) (T := TX7) (N := 3) hx hb hts iX7 hown hK hP 0 rfl rfl 0 (by decide) (hts (.fieldLink RX7 9 "BeetleDrive$Sights" "rows" "[I") (List.mem_of_getElem? (i := 2) rfl)) (fun _ h9 => h9) rfl dX7_add_12 ?_
    refine lv_aload_n hx hb dX7_add_15 rfl (lv_at hl 0 rfl) ?_
    refine va_get (D := gD g) (ci := 5) (v := .int v_size) (C := RX7) (T := TX7) (N := 3) hx hb hts iX7 hown hK hP 0 rfl rfl 2 (by decide) (hts (.fieldLink RX7 16 "BeetleDrive$Sights" "size" "I") (List.mem_of_getElem? (i := 1) rfl)) (fun _ h9 => h9) rfl dX7_add_16 ?_
    refine lv_iload_n hx hb dX7_add_19 rfl (lv_at hl 1 rfl) ?_
    obtain ⟨hi2, hf⟩ := chk_some hf
    refine va_iast hx hb hK hP hD hS 1 0 rfl rfl hi2 dX7_add_20 (fun H locs hP hD hS => ?_)
    have hP : va_P (gD g) vwCl [(k_this, .inr (5, [.ref k_this_rows, .ref k_this_tops, .int v_size])), (k_this_rows, .inl (gI g, 8, .inl (upd v_rows (Int32.toNatClampNeg v_size) x1))), (k_this_tops, .inl (gI g, 8, .inl v_tops))] H := hP
    have hD : va_D A [(k_this, .inr (5, [.ref k_this_rows, .ref k_this_tops, .int v_size])), (k_this_rows, .inl (gI g, 8, .inl (upd v_rows (Int32.toNatClampNeg v_size) x1))), (k_this_tops, .inl (gI g, 8, .inl v_tops))] := hD
    refine lv_aload_n hx hb dX7_add_21 rfl (lv_at hl 0 rfl) ?_
    refine va_get (D := gD g) (ci := 5) (v := .ref k_this_tops) (C := RX7) (T := TX7) (N := 3) hx hb hts iX7 hown hK hP 0 rfl rfl 1 (by decide) (hts (.fieldLink RX7 13 "BeetleDrive$Sights" "tops" "[I") (List.mem_of_getElem? (i := 3) rfl)) (fun _ h9 => h9) rfl dX7_add_22 ?_
    refine lv_aload_n hx hb dX7_add_25 rfl (lv_at hl 0 rfl) ?_
    refine va_get (D := gD g) (ci := 5) (v := .int v_size) (C := RX7) (T := TX7) (N := 3) hx hb hts iX7 hown hK hP 0 rfl rfl 2 (by decide) (hts (.fieldLink RX7 16 "BeetleDrive$Sights" "size" "I") (List.mem_of_getElem? (i := 1) rfl)) (fun _ h9 => h9) rfl dX7_add_26 ?_
    refine lv_iload_n hx hb dX7_add_29 rfl (lv_at hl 2 rfl) ?_
    obtain ⟨hi3, hf⟩ := chk_some hf
    refine va_iast hx hb hK hP hD hS 2 0 rfl rfl hi3 dX7_add_30 (fun H locs hP hD hS => ?_)
    have hP : va_P (gD g) vwCl [(k_this, .inr (5, [.ref k_this_rows, .ref k_this_tops, .int v_size])), (k_this_rows, .inl (gI g, 8, .inl (upd v_rows (Int32.toNatClampNeg v_size) x1))), (k_this_tops, .inl (gI g, 8, .inl (upd v_tops (Int32.toNatClampNeg v_size) x2)))] H := hP
    have hD : va_D A [(k_this, .inr (5, [.ref k_this_rows, .ref k_this_tops, .int v_size])), (k_this_rows, .inl (gI g, 8, .inl (upd v_rows (Int32.toNatClampNeg v_size) x1))), (k_this_tops, .inl (gI g, 8, .inl (upd v_tops (Int32.toNatClampNeg v_size) x2)))] := hD
    refine lv_aload_n hx hb dX7_add_31 rfl (lv_at hl 0 rfl) ?_
    refine lv_dup hx hb dX7_add_32 rfl ?_
    refine va_get (D := gD g) (ci := 5) (v := .int v_size) (C := RX7) (T := TX7) (N := 3) hx hb hts iX7 hown hK hP 0 rfl rfl 2 (by decide) (hts (.fieldLink RX7 16 "BeetleDrive$Sights" "size" "I") (List.mem_of_getElem? (i := 1) rfl)) (fun _ h9 => h9) rfl dX7_add_33 ?_
    refine lv_iconst (v := 1) hx hb dX7_add_36 (by decide) ?_
    refine lv_iadd hx hb dX7_add_37 ?_
    refine va_put (D := gD g) (ci := 5) (v := .int (v_size + (1 : Int32))) (ty := .int) (C := RX7) (T := TX7) (N := 3) hx hb hts iX7 tyX7 tyX7_ok nmX7 hown hK hP hD hS 0 rfl rfl 2 (by decide) (hts (.fieldLink RX7 16 "BeetleDrive$Sights" "size" "I") (List.mem_of_getElem? (i := 1) rfl)) (fun _ h9 => h9) rfl (tyX7_ok 2 (by decide)) rfl rfl (Nat.le_of_ble_eq_true rfl) dX7_add_38 (fun H locs hP hD hS => ?_)
    have hP : va_P (gD g) vwCl [(k_this, .inr (5, [.ref k_this_rows, .ref k_this_tops, .int (v_size + (1 : Int32))])), (k_this_rows, .inl (gI g, 8, .inl (upd v_rows (Int32.toNatClampNeg v_size) x1))), (k_this_tops, .inl (gI g, 8, .inl (upd v_tops (Int32.toNatClampNeg v_size) x2)))] H := hP
    have hD : va_D A [(k_this, .inr (5, [.ref k_this_rows, .ref k_this_tops, .int (v_size + (1 : Int32))])), (k_this_rows, .inl (gI g, 8, .inl (upd v_rows (Int32.toNatClampNeg v_size) x1))), (k_this_tops, .inl (gI g, 8, .inl (upd v_tops (Int32.toNatClampNeg v_size) x2)))] := hD
    refine lv_iconst (v := 1) hx hb dX7_add_41 (by decide) ?_
    rw [← hQ, ← Option.some.inj hf]
    exact eM_z hx hb hr hlk nb1 hP hD hS rfl dX7_add_42
  · replace hf := iff_ c1 hf
    refine lv_iconst (v := 0) hx hb dX7_add_9 (by decide) ?_
    rw [← hQ, ← Option.some.inj hf]
    exact eM_z hx hb hr hlk nb0 hP hD hS rfl dX7_add_10
set_option maxHeartbeats 4000000 in
set_option maxRecDepth 100000 in
theorem c_X7_clear (l : Launch) (g : bG) (k_this : Nat) (k_this_rows : Nat) (k_this_tops : Nat) (v_size : Int32) (out : Int32 × Int32) (hf : f_X7_clear v_size = some out) : Mi l g yX7_clear wsX7_clear ({ frames := 0, cells := 0, slots := 0, locals := 0 } : Room) [.ref k_this] [(k_this, .inr (5, [.ref k_this_rows, .ref k_this_tops, .int v_size]))] out.1 [(k_this, .inr (5, [.ref k_this_rows, .ref k_this_tops, .int out.2]))] := by
  refine ofM (Qc := fun A => Qi g out.1 [(k_this, .inr (5, [.ref k_this_rows, .ref k_this_tops, .int out.2]))] A) (cc := cX7_clear) (nL := 2) (ret := some .int) (by decide) rfl (Nat.le_of_ble_eq_true rfl) ?_
  intro p e s m below meth c ar A hC hA hP hD hG ls hl
  have hS : va_S A s.heap s.heap [] := va_S.rf
  obtain ⟨hx, hb, hml, hown, hts, hr, hlk, -⟩ := hC
  have hl : lv_has ls 2 [(0, .ref k_this)] := hl
  have hK := hG.1
  have iX7 : ∀ w ∈ u_ws RX7 TX7 3, w ∈ wsX7_clear := fun w h => List.mem_cons_of_mem _ (List.mem_append_right _ (h))
  generalize hQ : MQ below (Qi g out.1 [(k_this, .inr (5, [.ref k_this_rows, .ref k_this_tops, .int out.2]))] A) ar s 0 0 A = QQ
  unfold f_X7_clear at hf
  refine lv_aload_n hx hb dX7_clear_0 rfl (lv_at hl 0 rfl) ?_
  refine va_get (D := gD g) (ci := 5) (v := .int v_size) (C := RX7) (T := TX7) (N := 3) hx hb hts iX7 hown hK hP 0 rfl rfl 2 (by decide) (hts (.fieldLink RX7 16 "BeetleDrive$Sights" "size" "I") (List.mem_of_getElem? (i := 1) rfl)) (fun _ h9 => h9) rfl dX7_clear_1 ?_
  refine lv_istore_n (lv' := [(1, .int v_size), (0, .ref k_this)]) hx hb dX7_clear_4 rfl hl (by decide) rfl (fun ls hl => ?_)
  refine lv_aload_n hx hb dX7_clear_5 rfl (lv_at hl 1 rfl) ?_
  refine lv_iconst (v := 0) hx hb dX7_clear_6 (by decide) ?_
  refine va_put (D := gD g) (ci := 5) (v := .int (0 : Int32)) (ty := .int) (C := RX7) (T := TX7) (N := 3) hx hb hts iX7 tyX7 tyX7_ok nmX7 hown hK hP hD hS 0 rfl rfl 2 (by decide) (hts (.fieldLink RX7 16 "BeetleDrive$Sights" "size" "I") (List.mem_of_getElem? (i := 1) rfl)) (fun _ h9 => h9) rfl (tyX7_ok 2 (by decide)) rfl rfl (Nat.le_of_ble_eq_true rfl) dX7_clear_7 (fun H locs hP hD hS => ?_)
  have hP : va_P (gD g) vwCl [(k_this, .inr (5, [.ref k_this_rows, .ref k_this_tops, .int (0 : Int32)]))] H := hP
  have hD : va_D A [(k_this, .inr (5, [.ref k_this_rows, .ref k_this_tops, .int (0 : Int32)]))] := hD
  refine lv_iload_n hx hb dX7_clear_10 rfl (lv_at hl 0 rfl) ?_
  rw [← hQ, ← Option.some.inj hf]
  exact eM_i hx hb hr hlk hP hD hS rfl dX7_clear_11
set_option maxHeartbeats 4000000 in
set_option maxRecDepth 100000 in
theorem c_X8_addDie (l : Launch) (g : bG) (k_this : Nat) (k_this_row : Nat) (v_row : Nat → Int64) (x1 : Int32) (out : (Nat → Int64)) (hf : f_X8_addDie v_row x1 = some out) : Mv l g yX8_addDie wsX8_addDie ({ frames := 0, cells := 0, slots := 0, locals := 0 } : Room) [.ref k_this, .int x1] [(k_this, .inr (6, [.ref k_this_row])), (k_this_row, .inl (gJ g, 100, .inr (.inl v_row)))] [(k_this, .inr (6, [.ref k_this_row])), (k_this_row, .inl (gJ g, 100, .inr (.inl out)))] := by
  refine ofM (Qc := fun A => Qv g [(k_this, .inr (6, [.ref k_this_row])), (k_this_row, .inl (gJ g, 100, .inr (.inl out)))] A) (cc := cX8_addDie) (nL := 6) (ret := none) (by decide) rfl (Nat.le_of_ble_eq_true rfl) ?_
  intro p e s m below meth c ar A hC hA hP hD hG ls hl
  have hS : va_S A s.heap s.heap [] := va_S.rf
  obtain ⟨hx, hb, hml, hown, hts, hr, hlk, -⟩ := hC
  have hl : lv_has ls 6 [(0, .ref k_this), (1, .int x1)] := hl
  have hK := hG.1
  have iX8 : ∀ w ∈ u_ws RX8 TX8 1, w ∈ wsX8_addDie := fun w h => List.mem_cons_of_mem _ (List.mem_append_right _ (h))
  generalize hQ : MQ below (Qv g [(k_this, .inr (6, [.ref k_this_row])), (k_this_row, .inl (gJ g, 100, .inr (.inl out)))] A) ar s 0 0 A = QQ
  have w_11 : ∀ (k2 : Int32 → (Nat → Int64) → Option ((Nat → Int64))), (∀ (x2 : Int32) (v_row : Nat → Int64), k2 x2 v_row = some out → ∀ (H : Heap) (locs : List Loc), va_P (gD g) vwCl [(k_this, .inr (6, [.ref k_this_row])), (k_this_row, .inl (gJ g, 100, .inr (.inl v_row)))] H → va_D A [(k_this, .inr (6, [.ref k_this_row])), (k_this_row, .inl (gJ g, 100, .inr (.inl v_row)))] → va_S A s.heap H locs → ∀ ls : Array Slot, lv_has ls 6 [(0, .ref k_this), (2, .int x2)] → W p l e ({ frames := 0, cells := 0, slots := 0, locals := 0 } : Room) s m ar below meth c H locs 0 0 QQ (F0 m 2 ls [])) → ∀ n : Nat, ∀ (x2 : Int32) (x3 : Int64) (x5 : Int32) (v_row : Nat → Int64), f_X8_addDie_b11 k2 n x2 x3 x5 v_row = some out → ∀ (H : Heap) (locs : List Loc), va_P (gD g) vwCl [(k_this, .inr (6, [.ref k_this_row])), (k_this_row, .inl (gJ g, 100, .inr (.inl v_row)))] H → va_D A [(k_this, .inr (6, [.ref k_this_row])), (k_this_row, .inl (gJ g, 100, .inr (.inl v_row)))] → va_S A s.heap H locs → ∀ ls : Array Slot, lv_has ls 6 [(0, .ref k_this), (2, .int x2), (3, .long x3), (5, .int x5)] → W p l e ({ frames := 0, cells := 0, slots := 0, locals := 0 } : Room) s m ar below meth c H locs 0 0 QQ (F0 m 11 ls []) := by
    intro k2 hk2 n
    induction n with
    | zero =>
      intro x2 x3 x5 v_row hf
      rw [f_X8_addDie_b11_z] at hf
      cases hf
    | succ n ih =>
      intro x2 x3 x5 v_row hf H locs hP hD hS ls hl
      rw [f_X8_addDie_b11_s] at hf
      refine lv_iload hx hb dX8_addDie_11 (lv_at hl 3 rfl) ?_
      refine lv_bipush (v := 6) hx hb dX8_addDie_13 (by decide) ?_
      refine lv_icmp_gt (tgt := 42) hx hb dX8_addDie_15 (by decide) (fun c2 => ?_) (fun c2 => ?_)
      · replace hf := ift c2 hf
        refine lv_aload_n hx hb dX8_addDie_42 rfl (lv_at hl 0 rfl) ?_
        refine va_get (D := gD g) (ci := 6) (v := .ref k_this_row) (C := RX8) (T := TX8) (N := 1) hx hb hts iX8 hown hK hP 0 rfl rfl 0 (by decide) (hts (.fieldLink RX8 11 "BeetleDrive$Sums" "row" "[J") (List.mem_of_getElem? (i := 1) rfl)) (fun _ h9 => h9) rfl dX8_addDie_43 ?_
        refine lv_iload_n hx hb dX8_addDie_46 rfl (lv_at hl 1 rfl) ?_
        refine lv_lload_n hx hb dX8_addDie_47 rfl (lv_at hl 2 rfl) ?_
        obtain ⟨hi3, hf⟩ := chk_some hf
        refine va_last hx hb hK hP hD hS 1 1 rfl rfl hi3 dX8_addDie_48 (fun H locs hP hD hS => ?_)
        have hP : va_P (gD g) vwCl [(k_this, .inr (6, [.ref k_this_row])), (k_this_row, .inl (gJ g, 100, .inr (.inl (vp_updL v_row (Int32.toNatClampNeg x2) x3))))] H := hP
        have hD : va_D A [(k_this, .inr (6, [.ref k_this_row])), (k_this_row, .inl (gJ g, 100, .inr (.inl (vp_updL v_row (Int32.toNatClampNeg x2) x3))))] := hD
        refine lv_iinc (v := (x2 + (-1))) (lv' := [(2, .int (x2 + (-1))), (0, .ref k_this), (3, .long x3), (5, .int x5)]) hx hb dX8_addDie_49 hl (k := 1) rfl rfl (by decide) rfl (fun ls hl => ?_)
        refine lv_goto (tgt := 2) hx hb dX8_addDie_52 (by decide) ?_
        exact hk2 (x2 + (-1)) (vp_updL v_row (Int32.toNatClampNeg x2) x3) hf H locs hP hD hS ls (lv_sub hl [1, 0] rfl)
      · replace hf := iff_ c2 hf
        refine lv_iload hx hb dX8_addDie_18 (lv_at hl 3 rfl) ?_
        refine lv_iload_n hx hb dX8_addDie_20 rfl (lv_at hl 1 rfl) ?_
        refine lv_icmp_gt (tgt := 42) hx hb dX8_addDie_21 (by decide) (fun c4 => ?_) (fun c4 => ?_)
        · replace hf := ift c4 hf
          refine lv_aload_n hx hb dX8_addDie_42 rfl (lv_at hl 0 rfl) ?_
          refine va_get (D := gD g) (ci := 6) (v := .ref k_this_row) (C := RX8) (T := TX8) (N := 1) hx hb hts iX8 hown hK hP 0 rfl rfl 0 (by decide) (hts (.fieldLink RX8 11 "BeetleDrive$Sums" "row" "[J") (List.mem_of_getElem? (i := 1) rfl)) (fun _ h9 => h9) rfl dX8_addDie_43 ?_
          refine lv_iload_n hx hb dX8_addDie_46 rfl (lv_at hl 1 rfl) ?_
          refine lv_lload_n hx hb dX8_addDie_47 rfl (lv_at hl 2 rfl) ?_
          obtain ⟨hi5, hf⟩ := chk_some hf
          refine va_last hx hb hK hP hD hS 1 1 rfl rfl hi5 dX8_addDie_48 (fun H locs hP hD hS => ?_)
          have hP : va_P (gD g) vwCl [(k_this, .inr (6, [.ref k_this_row])), (k_this_row, .inl (gJ g, 100, .inr (.inl (vp_updL v_row (Int32.toNatClampNeg x2) x3))))] H := hP
          have hD : va_D A [(k_this, .inr (6, [.ref k_this_row])), (k_this_row, .inl (gJ g, 100, .inr (.inl (vp_updL v_row (Int32.toNatClampNeg x2) x3))))] := hD
          refine lv_iinc (v := (x2 + (-1))) (lv' := [(2, .int (x2 + (-1))), (0, .ref k_this), (3, .long x3), (5, .int x5)]) hx hb dX8_addDie_49 hl (k := 1) rfl rfl (by decide) rfl (fun ls hl => ?_)
          refine lv_goto (tgt := 2) hx hb dX8_addDie_52 (by decide) ?_
          exact hk2 (x2 + (-1)) (vp_updL v_row (Int32.toNatClampNeg x2) x3) hf H locs hP hD hS ls (lv_sub hl [1, 0] rfl)
        · replace hf := iff_ c4 hf
          refine lv_lload_n hx hb dX8_addDie_24 rfl (lv_at hl 2 rfl) ?_
          refine lv_aload_n hx hb dX8_addDie_25 rfl (lv_at hl 0 rfl) ?_
          refine va_get (D := gD g) (ci := 6) (v := .ref k_this_row) (C := RX8) (T := TX8) (N := 1) hx hb hts iX8 hown hK hP 0 rfl rfl 0 (by decide) (hts (.fieldLink RX8 11 "BeetleDrive$Sums" "row" "[J") (List.mem_of_getElem? (i := 1) rfl)) (fun _ h9 => h9) rfl dX8_addDie_26 ?_
          refine lv_iload_n hx hb dX8_addDie_29 rfl (lv_at hl 1 rfl) ?_
          refine lv_iload hx hb dX8_addDie_30 (lv_at hl 3 rfl) ?_
          refine lv_isub hx hb dX8_addDie_32 ?_
          obtain ⟨hi6, hf⟩ := chk_some hf
          refine va_lald hx hb hK hP 1 1 rfl rfl hi6 dX8_addDie_33 ?_
          refine lv_ladd hx hb dX8_addDie_34 ?_
          refine lv_lstore_n (lv' := [(3, .long (x3 + (v_row (Int32.toNatClampNeg (x2 - x5))))), (0, .ref k_this), (2, .int x2), (5, .int x5)]) hx hb dX8_addDie_35 rfl hl (by decide) rfl (fun ls hl => ?_)
          refine lv_iinc (v := (x5 + 1)) (lv' := [(5, .int (x5 + 1)), (3, .long (x3 + (v_row (Int32.toNatClampNeg (x2 - x5))))), (0, .ref k_this), (2, .int x2)]) hx hb dX8_addDie_36 hl (k := 3) rfl rfl (by decide) rfl (fun ls hl => ?_)
          refine lv_goto (tgt := 11) hx hb dX8_addDie_39 (by decide) ?_
          exact ih x2 (x3 + (v_row (Int32.toNatClampNeg (x2 - x5)))) (x5 + 1) v_row hf H locs hP hD hS ls (lv_sub hl [2, 3, 1, 0] rfl)
  have w_2 : ∀ n : Nat, ∀ (x2 : Int32) (v_row : Nat → Int64), f_X8_addDie_b2 n x2 v_row = some out → ∀ (H : Heap) (locs : List Loc), va_P (gD g) vwCl [(k_this, .inr (6, [.ref k_this_row])), (k_this_row, .inl (gJ g, 100, .inr (.inl v_row)))] H → va_D A [(k_this, .inr (6, [.ref k_this_row])), (k_this_row, .inl (gJ g, 100, .inr (.inl v_row)))] → va_S A s.heap H locs → ∀ ls : Array Slot, lv_has ls 6 [(0, .ref k_this), (2, .int x2)] → W p l e ({ frames := 0, cells := 0, slots := 0, locals := 0 } : Room) s m ar below meth c H locs 0 0 QQ (F0 m 2 ls []) := by
    intro n
    induction n with
    | zero =>
      intro x2 v_row hf
      rw [f_X8_addDie_b2_z] at hf
      cases hf
    | succ n ih =>
      intro x2 v_row hf H locs hP hD hS ls hl
      rw [f_X8_addDie_b2_s] at hf
      refine lv_iload_n hx hb dX8_addDie_2 rfl (lv_at hl 1 rfl) ?_
      refine lv_if_lt (tgt := 55) hx hb dX8_addDie_3 (by decide) (fun c1 => ?_) (fun c1 => ?_)
      · replace hf := ift c1 hf
        rw [← hQ, ← Option.some.inj hf]
        exact eM_v hx hb hr hlk hP hD hS dX8_addDie_55
      · replace hf := iff_ c1 hf
        refine lv_lconst (v := 0) hx hb dX8_addDie_6 (by decide) ?_
        refine lv_lstore_n (lv' := [(3, .long (0 : Int64)), (0, .ref k_this), (2, .int x2)]) hx hb dX8_addDie_7 rfl hl (by decide) rfl (fun ls hl => ?_)
        refine lv_iconst (v := 1) hx hb dX8_addDie_8 (by decide) ?_
        refine lv_istore (lv' := [(5, .int (1 : Int32)), (3, .long (0 : Int64)), (0, .ref k_this), (2, .int x2)]) hx hb dX8_addDie_9 hl (by decide) rfl (fun ls hl => ?_)
        exact w_11 (f_X8_addDie_b2 n) ih FU x2 (0 : Int64) (1 : Int32) v_row hf H locs hP hD hS ls (lv_sub hl [2, 3, 1, 0] rfl)
  unfold f_X8_addDie at hf
  refine lv_iload_n hx hb dX8_addDie_0 rfl (lv_at hl 1 rfl) ?_
  refine lv_istore_n (lv' := [(2, .int x1), (0, .ref k_this), (1, .int x1)]) hx hb dX8_addDie_1 rfl hl (by decide) rfl (fun ls hl => ?_)
  exact w_2 FU x1 v_row hf s.heap [] hP hD hS ls (lv_sub hl [1, 0] rfl)
set_option maxHeartbeats 4000000 in
set_option maxRecDepth 100000 in
theorem c_X8_ways (l : Launch) (g : bG) (k_this : Nat) (k_this_row : Nat) (v_row : Nat → Int64) (x1 : Int32) (x2 : Int32) (out : Int64 × (Nat → Int64)) (hf : f_X8_ways v_row x1 x2 = some out) : Ml l g yX8_ways wsX8_ways ({ frames := 1, cells := 0, slots := 0, locals := 25 } : Room) [.ref k_this, .int x1, .int x2] [(k_this, .inr (6, [.ref k_this_row])), (k_this_row, .inl (gJ g, 100, .inr (.inl v_row)))] out.1 [(k_this, .inr (6, [.ref k_this_row])), (k_this_row, .inl (gJ g, 100, .inr (.inl out.2)))] := by
  refine ofM (Qc := fun A => Ql g out.1 [(k_this, .inr (6, [.ref k_this_row])), (k_this_row, .inl (gJ g, 100, .inr (.inl out.2)))] A) (cc := cX8_ways) (nL := 4) (ret := some .long) (by decide) rfl (Nat.le_of_ble_eq_true rfl) ?_
  intro p e s m below meth c ar A hC hA hP hD hG ls hl
  have hS : va_S A s.heap s.heap [] := va_S.rf
  obtain ⟨hx, hb, hml, hown, hts, hr, hlk, -⟩ := hC
  have hl : lv_has ls 4 [(0, .ref k_this), (1, .int x1), (2, .int x2)] := hl
  have hK := hG.1
  have iX8 : ∀ w ∈ u_ws RX8 TX8 1, w ∈ wsX8_ways := fun w h => List.mem_cons_of_mem _ (List.mem_append_right _ (h))
  generalize hQ : MQ below (Ql g out.1 [(k_this, .inr (6, [.ref k_this_row])), (k_this_row, .inl (gJ g, 100, .inr (.inl out.2)))] A) ar s 0 0 A = QQ
  have w_30 : ∀ n : Nat, ∀ (x1 : Int32) (x2 : Int32) (x3 : Int32) (v_row : Nat → Int64), f_X8_ways_b30 n x1 x2 x3 v_row = some out → ∀ (H : Heap) (locs : List Loc), va_P (gD g) vwCl [(k_this, .inr (6, [.ref k_this_row])), (k_this_row, .inl (gJ g, 100, .inr (.inl v_row)))] H → va_D A [(k_this, .inr (6, [.ref k_this_row])), (k_this_row, .inl (gJ g, 100, .inr (.inl v_row)))] → va_S A s.heap H locs → ∀ ls : Array Slot, lv_has ls 4 [(0, .ref k_this), (1, .int x1), (2, .int x2), (3, .int x3)] → W p l e ({ frames := 1, cells := 0, slots := 0, locals := 25 } : Room) s m ar below meth c H locs 0 0 QQ (F0 m 30 ls []) := by
    intro n
    induction n with
    | zero =>
      intro x1 x2 x3 v_row hf
      rw [f_X8_ways_b30_z] at hf
      cases hf
    | succ n ih =>
      intro x1 x2 x3 v_row hf H locs hP hD hS ls hl
      rw [f_X8_ways_b30_s] at hf
      refine lv_iload_n hx hb dX8_ways_30 rfl (lv_at hl 3 rfl) ?_
      refine lv_iload_n hx hb dX8_ways_31 rfl (lv_at hl 1 rfl) ?_
      refine lv_icmp_ge (tgt := 46) hx hb dX8_ways_32 (by decide) (fun c2 => ?_) (fun c2 => ?_)
      · replace hf := ift c2 hf
        refine lv_aload_n hx hb dX8_ways_46 rfl (lv_at hl 0 rfl) ?_
        refine va_get (D := gD g) (ci := 6) (v := .ref k_this_row) (C := RX8) (T := TX8) (N := 1) hx hb hts iX8 hown hK hP 0 rfl rfl 0 (by decide) (hts (.fieldLink RX8 11 "BeetleDrive$Sums" "row" "[J") (List.mem_of_getElem? (i := 1) rfl)) (fun _ h9 => h9) rfl dX8_ways_47 ?_
        refine lv_iload_n hx hb dX8_ways_50 rfl (lv_at hl 2 rfl) ?_
        obtain ⟨hi3, hf⟩ := chk_some hf
        refine va_lald hx hb hK hP 1 1 rfl rfl hi3 dX8_ways_51 ?_
        rw [← hQ, ← Option.some.inj hf]
        exact eM_l hx hb hr hlk hP hD hS rfl dX8_ways_52
      · replace hf := iff_ c2 hf
        refine lv_aload_n hx hb dX8_ways_35 rfl (lv_at hl 0 rfl) ?_
        refine lv_iload_n hx hb dX8_ways_36 rfl (lv_at hl 2 rfl) ?_
        obtain ⟨z4, hq5, hf⟩ := bnd_some hf
        refine kM_v (wc := [(k_this, .inr (6, [.ref k_this_row])), (k_this_row, .inl (gJ g, 100, .inr (.inl v_row)))]) (wr := []) (w1 := [(k_this, .inr (6, [.ref k_this_row])), (k_this_row, .inl (gJ g, 100, .inr (.inl z4)))]) (w2 := [(k_this, .inr (6, [.ref k_this_row])), (k_this_row, .inl (gJ g, 100, .inr (.inl z4)))]) (va_runV (As := [.int x2]) (rest := []) ⟨hx, hb, hml, hown, hts⟩ (c_X8_addDie l g k_this k_this_row v_row x2 z4 hq5 H.size) (cwV 1 hts gX8_ways_X8_addDie rfl rfl rfl (by decide +kernel) ⟨Nat.le_of_ble_eq_true rfl, Nat.le_of_ble_eq_true rfl⟩) (kpV_M (q0 := 0) (ci := 6) hG hS hP hD hA [0, 1] rfl (by decide) rfl rfl) rfl rfl hl.1 rfl (lv_room (Nat.le_of_ble_eq_true rfl)) dX8_ways_37 ⟨Nat.le_of_ble_eq_true rfl, Nat.le_of_ble_eq_true rfl⟩) hP hD hS hA [0, 1] [] [0, 1] rfl rfl (by decide) (by decide) rfl (by decide) (fun H locs hP hD hS => ?_)
        refine lv_iinc (v := (x3 + 1)) (lv' := [(3, .int (x3 + 1)), (0, .ref k_this), (1, .int x1), (2, .int x2)]) hx hb dX8_ways_40 hl (k := 3) rfl rfl (by decide) rfl (fun ls hl => ?_)
        refine lv_goto (tgt := 30) hx hb dX8_ways_43 (by decide) ?_
        exact ih x1 x2 (x3 + 1) z4 hf H locs hP hD hS ls (lv_sub hl [1, 2, 3, 0] rfl)
  have w_2 : ∀ n : Nat, ∀ (x1 : Int32) (x2 : Int32) (x3 : Int32) (v_row : Nat → Int64), f_X8_ways_b2 n x1 x2 x3 v_row = some out → ∀ (H : Heap) (locs : List Loc), va_P (gD g) vwCl [(k_this, .inr (6, [.ref k_this_row])), (k_this_row, .inl (gJ g, 100, .inr (.inl v_row)))] H → va_D A [(k_this, .inr (6, [.ref k_this_row])), (k_this_row, .inl (gJ g, 100, .inr (.inl v_row)))] → va_S A s.heap H locs → ∀ ls : Array Slot, lv_has ls 4 [(0, .ref k_this), (1, .int x1), (2, .int x2), (3, .int x3)] → W p l e ({ frames := 1, cells := 0, slots := 0, locals := 25 } : Room) s m ar below meth c H locs 0 0 QQ (F0 m 2 ls []) := by
    intro n
    induction n with
    | zero =>
      intro x1 x2 x3 v_row hf
      rw [f_X8_ways_b2_z] at hf
      cases hf
    | succ n ih =>
      intro x1 x2 x3 v_row hf H locs hP hD hS ls hl
      rw [f_X8_ways_b2_s] at hf
      refine lv_iload_n hx hb dX8_ways_2 rfl (lv_at hl 3 rfl) ?_
      refine lv_iload_n hx hb dX8_ways_3 rfl (lv_at hl 2 rfl) ?_
      refine lv_icmp_gt (tgt := 28) hx hb dX8_ways_4 (by decide) (fun c1 => ?_) (fun c1 => ?_)
      · replace hf := ift c1 hf
        refine lv_iconst (v := 0) hx hb dX8_ways_28 (by decide) ?_
        refine lv_istore_n (lv' := [(3, .int (0 : Int32)), (0, .ref k_this), (1, .int x1), (2, .int x2)]) hx hb dX8_ways_29 rfl hl (by decide) rfl (fun ls hl => ?_)
        exact w_30 FU x1 x2 (0 : Int32) v_row hf H locs hP hD hS ls (lv_sub hl [1, 2, 3, 0] rfl)
      · replace hf := iff_ c1 hf
        refine lv_aload_n hx hb dX8_ways_7 rfl (lv_at hl 0 rfl) ?_
        refine va_get (D := gD g) (ci := 6) (v := .ref k_this_row) (C := RX8) (T := TX8) (N := 1) hx hb hts iX8 hown hK hP 0 rfl rfl 0 (by decide) (hts (.fieldLink RX8 11 "BeetleDrive$Sums" "row" "[J") (List.mem_of_getElem? (i := 1) rfl)) (fun _ h9 => h9) rfl dX8_ways_8 ?_
        refine lv_iload_n hx hb dX8_ways_11 rfl (lv_at hl 3 rfl) ?_
        refine lv_iload_n hx hb dX8_ways_12 rfl (lv_at hl 3 rfl) ?_
        refine lv_if_ne (tgt := 20) hx hb dX8_ways_13 (by decide) (fun c6 => ?_) (fun c6 => ?_)
        · replace hf := iff_ c6 hf
          refine lv_lconst (v := 0) hx hb dX8_ways_20 (by decide) ?_
          obtain ⟨hi7, hf⟩ := chk_some hf
          refine va_last hx hb hK hP hD hS 1 1 rfl rfl hi7 dX8_ways_21 (fun H locs hP hD hS => ?_)
          have hP : va_P (gD g) vwCl [(k_this, .inr (6, [.ref k_this_row])), (k_this_row, .inl (gJ g, 100, .inr (.inl (vp_updL v_row (Int32.toNatClampNeg x3) (0 : Int64)))))] H := hP
          have hD : va_D A [(k_this, .inr (6, [.ref k_this_row])), (k_this_row, .inl (gJ g, 100, .inr (.inl (vp_updL v_row (Int32.toNatClampNeg x3) (0 : Int64)))))] := hD
          refine lv_iinc (v := (x3 + 1)) (lv' := [(3, .int (x3 + 1)), (0, .ref k_this), (1, .int x1), (2, .int x2)]) hx hb dX8_ways_22 hl (k := 3) rfl rfl (by decide) rfl (fun ls hl => ?_)
          refine lv_goto (tgt := 2) hx hb dX8_ways_25 (by decide) ?_
          exact ih x1 x2 (x3 + 1) (vp_updL v_row (Int32.toNatClampNeg x3) (0 : Int64)) hf H locs hP hD hS ls (lv_sub hl [1, 2, 3, 0] rfl)
        · replace hf := ift c6 hf
          refine lv_lconst (v := 1) hx hb dX8_ways_16 (by decide) ?_
          refine lv_goto (tgt := 21) hx hb dX8_ways_17 (by decide) ?_
          obtain ⟨hi8, hf⟩ := chk_some hf
          refine va_last hx hb hK hP hD hS 1 1 rfl rfl hi8 dX8_ways_21 (fun H locs hP hD hS => ?_)
          have hP : va_P (gD g) vwCl [(k_this, .inr (6, [.ref k_this_row])), (k_this_row, .inl (gJ g, 100, .inr (.inl (vp_updL v_row (Int32.toNatClampNeg x3) (1 : Int64)))))] H := hP
          have hD : va_D A [(k_this, .inr (6, [.ref k_this_row])), (k_this_row, .inl (gJ g, 100, .inr (.inl (vp_updL v_row (Int32.toNatClampNeg x3) (1 : Int64)))))] := hD
          refine lv_iinc (v := (x3 + 1)) (lv' := [(3, .int (x3 + 1)), (0, .ref k_this), (1, .int x1), (2, .int x2)]) hx hb dX8_ways_22 hl (k := 3) rfl rfl (by decide) rfl (fun ls hl => ?_)
          refine lv_goto (tgt := 2) hx hb dX8_ways_25 (by decide) ?_
          exact ih x1 x2 (x3 + 1) (vp_updL v_row (Int32.toNatClampNeg x3) (1 : Int64)) hf H locs hP hD hS ls (lv_sub hl [1, 2, 3, 0] rfl)
  unfold f_X8_ways at hf
  refine lv_iconst (v := 0) hx hb dX8_ways_0 (by decide) ?_
  refine lv_istore_n (lv' := [(3, .int (0 : Int32)), (0, .ref k_this), (1, .int x1), (2, .int x2)]) hx hb dX8_ways_1 rfl hl (by decide) rfl (fun ls hl => ?_)
  exact w_2 FU x1 x2 (0 : Int32) v_row hf s.heap [] hP hD hS ls (lv_sub hl [1, 2, 3, 0] rfl)
set_option maxHeartbeats 4000000 in
set_option maxRecDepth 100000 in
theorem c_X10_winningTurn (l : Launch) (g : bG) (k_this : Nat) (k_this_wins : Nat) (v_wins : Nat → Int32) (x1 : Int32) (x2 : Int32) (out : Int32) (hf : f_X10_winningTurn v_wins x1 x2 = some out) : Ri l g yX10_winningTurn wsX10_winningTurn ({ frames := 0, cells := 0, slots := 0, locals := 0 } : Room) [.ref k_this, .int x1, .int x2] [(k_this, .inr (8, [.ref k_this_wins])), (k_this_wins, .inl (gI g, 100, .inl v_wins))] out := by
  refine ofR (cc := cX10_winningTurn) (nL := 5) (ret := some .int) (by decide) rfl (Nat.le_of_ble_eq_true rfl) ?_
  intro p e s m below meth c ar hC hP hG ls hl
  have hS : va_S (fun _ => False) s.heap s.heap [] := va_S.rf
  obtain ⟨hx, hb, hml, hown, hts, hr, hlk, -⟩ := hC
  have hl : lv_has ls 5 [(0, .ref k_this), (1, .int x1), (2, .int x2)] := hl
  have hK := hG.1
  have iX10 : ∀ w ∈ u_ws RX10 TX10 1, w ∈ wsX10_winningTurn := fun w h => List.mem_cons_of_mem _ (List.mem_append_right _ (h))
  generalize hQ : MQ below (vp_Si (fun x => x = out)) ar s 0 0 (fun _ => False) = QQ
  have w_31 : ∀ (k2 : Int32 → Int32 → Int32 → Option (Int32)), (∀ (x1 : Int32) (x2 : Int32) (x3 : Int32), k2 x1 x2 x3 = some out → ∀ ls : Array Slot, lv_has ls 5 [(0, .ref k_this), (1, .int x1), (2, .int x2), (3, .int x3)] → W p l e ({ frames := 0, cells := 0, slots := 0, locals := 0 } : Room) s m ar below meth c s.heap [] 0 0 QQ (F0 m 2 ls [])) → ∀ (y0 : Int32) (x1 : Int32) (x2 : Int32) (x3 : Int32), f_X10_winningTurn_b31 v_wins k2 y0 x1 x2 x3 = some out → ∀ ls : Array Slot, lv_has ls 5 [(0, .ref k_this), (1, .int x1), (2, .int x2), (3, .int x3)] → W p l e ({ frames := 0, cells := 0, slots := 0, locals := 0 } : Room) s m ar below meth c s.heap [] 0 0 QQ (F0 m 31 ls [.int y0]) := by
    intro k2 hk2 y0 x1 x2 x3 hf ls hl
    unfold f_X10_winningTurn_b31 at hf
    refine lv_istore (lv' := [(4, .int y0), (0, .ref k_this), (1, .int x1), (2, .int x2), (3, .int x3)]) hx hb dX10_winningTurn_31 hl (by decide) rfl (fun ls hl => ?_)
    refine lv_iload hx hb dX10_winningTurn_33 (lv_at hl 0 rfl) ?_
    refine lv_if_eq (tgt := 55) hx hb dX10_winningTurn_35 (by decide) (fun c4 => ?_) (fun c4 => ?_)
    · replace hf := ift c4 hf
      refine lv_iinc (v := (x3 + 1)) (lv' := [(3, .int (x3 + 1)), (4, .int y0), (0, .ref k_this), (1, .int x1), (2, .int x2)]) hx hb dX10_winningTurn_55 hl (k := 4) rfl rfl (by decide) rfl (fun ls hl => ?_)
      refine lv_goto (tgt := 2) hx hb dX10_winningTurn_58 (by decide) ?_
      exact hk2 x1 x2 (x3 + 1) hf ls (lv_sub hl [2, 3, 4, 0] rfl)
    · replace hf := iff_ c4 hf
      refine lv_aload_n hx hb dX10_winningTurn_38 rfl (lv_at hl 1 rfl) ?_
      refine va_get (D := gD g) (ci := 8) (v := .ref k_this_wins) (C := RX10) (T := TX10) (N := 1) hx hb hts iX10 hown hK hP 0 rfl rfl 0 (by decide) (hts (.fieldLink RX10 11 "BeetleDrive$Turns" "wins" "[I") (List.mem_of_getElem? (i := 1) rfl)) (fun _ h9 => h9) rfl dX10_winningTurn_39 ?_
      refine lv_iload_n hx hb dX10_winningTurn_42 rfl (lv_at hl 2 rfl) ?_
      refine lv_iload_n hx hb dX10_winningTurn_43 rfl (lv_at hl 4 rfl) ?_
      refine lv_isub hx hb dX10_winningTurn_44 ?_
      obtain ⟨hi5, hf⟩ := chk_some hf
      refine va_iald hx hb hK hP 1 0 rfl rfl hi5 dX10_winningTurn_45 ?_
      refine lv_iconst (v := 1) hx hb dX10_winningTurn_46 (by decide) ?_
      refine lv_iload_n hx hb dX10_winningTurn_47 rfl (lv_at hl 4 rfl) ?_
      refine lv_ishl hx hb dX10_winningTurn_48 ?_
      refine lv_iand hx hb dX10_winningTurn_49 ?_
      refine lv_if_ne (tgt := 55) hx hb dX10_winningTurn_50 (by decide) (fun c6 => ?_) (fun c6 => ?_)
      · replace hf := iff_ c6 hf
        refine lv_iinc (v := (x3 + 1)) (lv' := [(3, .int (x3 + 1)), (4, .int y0), (0, .ref k_this), (1, .int x1), (2, .int x2)]) hx hb dX10_winningTurn_55 hl (k := 4) rfl rfl (by decide) rfl (fun ls hl => ?_)
        refine lv_goto (tgt := 2) hx hb dX10_winningTurn_58 (by decide) ?_
        exact hk2 x1 x2 (x3 + 1) hf ls (lv_sub hl [2, 3, 4, 0] rfl)
      · replace hf := ift c6 hf
        refine lv_iload_n hx hb dX10_winningTurn_53 rfl (lv_at hl 4 rfl) ?_
        rw [← hQ, ← Option.some.inj hf]
        exact eR_i hx hb hr hlk rfl dX10_winningTurn_54
  have w_2 : ∀ n : Nat, ∀ (x1 : Int32) (x2 : Int32) (x3 : Int32), f_X10_winningTurn_b2 v_wins n x1 x2 x3 = some out → ∀ ls : Array Slot, lv_has ls 5 [(0, .ref k_this), (1, .int x1), (2, .int x2), (3, .int x3)] → W p l e ({ frames := 0, cells := 0, slots := 0, locals := 0 } : Room) s m ar below meth c s.heap [] 0 0 QQ (F0 m 2 ls []) := by
    intro n
    induction n with
    | zero =>
      intro x1 x2 x3 hf
      rw [f_X10_winningTurn_b2_z] at hf
      cases hf
    | succ n ih =>
      intro x1 x2 x3 hf ls hl
      rw [f_X10_winningTurn_b2_s] at hf
      refine lv_iload_n hx hb dX10_winningTurn_2 rfl (lv_at hl 3 rfl) ?_
      refine lv_bipush (v := 6) hx hb dX10_winningTurn_3 (by decide) ?_
      refine lv_icmp_gt (tgt := 61) hx hb dX10_winningTurn_5 (by decide) (fun c1 => ?_) (fun c1 => ?_)
      · replace hf := ift c1 hf
        refine lv_bipush (v := -6) hx hb dX10_winningTurn_61 (by decide) ?_
        rw [← hQ, ← Option.some.inj hf]
        exact eR_i hx hb hr hlk rfl dX10_winningTurn_63
      · replace hf := iff_ c1 hf
        refine lv_iload_n hx hb dX10_winningTurn_8 rfl (lv_at hl 3 rfl) ?_
        refine lv_iload_n hx hb dX10_winningTurn_9 rfl (lv_at hl 1 rfl) ?_
        refine lv_icmp_gt (tgt := 61) hx hb dX10_winningTurn_10 (by decide) (fun c2 => ?_) (fun c2 => ?_)
        · replace hf := ift c2 hf
          refine lv_bipush (v := -6) hx hb dX10_winningTurn_61 (by decide) ?_
          rw [← hQ, ← Option.some.inj hf]
          exact eR_i hx hb hr hlk rfl dX10_winningTurn_63
        · replace hf := iff_ c2 hf
          refine lv_iload_n hx hb dX10_winningTurn_13 rfl (lv_at hl 3 rfl) ?_
          refine lv_iload_n hx hb dX10_winningTurn_14 rfl (lv_at hl 2 rfl) ?_
          refine lv_icmp_eq (tgt := 30) hx hb dX10_winningTurn_15 (by decide) (fun c3 => ?_) (fun c3 => ?_)
          · replace hf := ift c3 hf
            refine lv_iconst (v := 0) hx hb dX10_winningTurn_30 (by decide) ?_
            exact w_31 (f_X10_winningTurn_b2 v_wins n) ih (0 : Int32) x1 x2 x3 hf ls (lv_sub hl [0, 1, 2, 3] rfl)
          · replace hf := iff_ c3 hf
            refine lv_iload_n hx hb dX10_winningTurn_18 rfl (lv_at hl 3 rfl) ?_
            refine lv_bipush (v := 7) hx hb dX10_winningTurn_19 (by decide) ?_
            refine lv_iload_n hx hb dX10_winningTurn_21 rfl (lv_at hl 2 rfl) ?_
            refine lv_isub hx hb dX10_winningTurn_22 ?_
            refine lv_icmp_eq (tgt := 30) hx hb dX10_winningTurn_23 (by decide) (fun c7 => ?_) (fun c7 => ?_)
            · replace hf := ift c7 hf
              refine lv_iconst (v := 0) hx hb dX10_winningTurn_30 (by decide) ?_
              exact w_31 (f_X10_winningTurn_b2 v_wins n) ih (0 : Int32) x1 x2 x3 hf ls (lv_sub hl [0, 1, 2, 3] rfl)
            · replace hf := iff_ c7 hf
              refine lv_iconst (v := 1) hx hb dX10_winningTurn_26 (by decide) ?_
              refine lv_goto (tgt := 31) hx hb dX10_winningTurn_27 (by decide) ?_
              exact w_31 (f_X10_winningTurn_b2 v_wins n) ih (1 : Int32) x1 x2 x3 hf ls (lv_sub hl [0, 1, 2, 3] rfl)
  unfold f_X10_winningTurn at hf
  refine lv_iconst (v := 1) hx hb dX10_winningTurn_0 (by decide) ?_
  refine lv_istore_n (lv' := [(3, .int (1 : Int32)), (0, .ref k_this), (1, .int x1), (2, .int x2)]) hx hb dX10_winningTurn_1 rfl hl (by decide) rfl (fun ls hl => ?_)
  exact w_2 FU x1 x2 (1 : Int32) hf ls (lv_sub hl [1, 2, 3, 0] rfl)
