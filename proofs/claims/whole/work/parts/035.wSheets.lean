/-! ===== walks, by program ===== -/
set_option maxHeartbeats 4000000 in
set_option maxRecDepth 100000 in
theorem c_X6_find (l : Launch) (g : bG) (k_this : Nat) (k_this_drawn : Nat) (k_this_next : Nat) (k_this_orders : Nat) (k_this_ways : Nat) (v_drawn : Nat → Int32) (x1 : Int32) (out : Int32) (hf : f_X6_find v_drawn x1 = some out) : Ri l g yX6_find wsX6_find ({ frames := 0, cells := 0, slots := 0, locals := 0 } : Room) [.ref k_this, .int x1] [(k_this, .inr (4, [.ref k_this_drawn, .ref k_this_next, .ref k_this_orders, .ref k_this_ways])), (k_this_drawn, .inl (gI g, 141, .inl v_drawn))] out := by
  refine ofR (cc := cX6_find) (nL := 6) (ret := some .int) (by decide) rfl (Nat.le_of_ble_eq_true rfl) ?_
  intro p e s m below meth c ar hC hP hG ls hl
  have hS : va_S (fun _ => False) s.heap s.heap [] := va_S.rf
  obtain ⟨hx, hb, hml, hown, hts, hr, hlk, -⟩ := hC
  have hl : lv_has ls 6 [(0, .ref k_this), (1, .int x1)] := hl
  have hK := hG.1
  have iX6 : ∀ w ∈ u_ws RX6 TX6 4, w ∈ wsX6_find := fun w h => List.mem_cons_of_mem _ (List.mem_append_right _ (h))
  generalize hQ : MQ below (vp_Si (fun x => x = out)) ar s 0 0 (fun _ => False) = QQ
  have w_57 : ∀ (x1 : Int32) (x2 : Int32), f_X6_find_b57 v_drawn x1 x2 = some out → ∀ ls : Array Slot, lv_has ls 6 [(0, .ref k_this), (1, .int x1), (2, .int x2)] → W p l e ({ frames := 0, cells := 0, slots := 0, locals := 0 } : Room) s m ar below meth c s.heap [] 0 0 QQ (F0 m 57 ls []) := by
    intro x1 x2 hf ls hl
    unfold f_X6_find_b57 at hf
    refine lv_aload_n hx hb dX6_find_57 rfl (lv_at hl 0 rfl) ?_
    refine va_get (D := gD g) (ci := 4) (v := .ref k_this_drawn) (C := RX6) (T := TX6) (N := 4) hx hb hts iX6 hown hK hP 0 rfl rfl 0 (by decide) (hts (.fieldLink RX6 11 "BeetleDrive$Sheets" "drawn" "[I") (List.mem_of_getElem? (i := 1) rfl)) (fun _ h9 => h9) rfl dX6_find_58 ?_
    refine lv_iload_n hx hb dX6_find_61 rfl (lv_at hl 2 rfl) ?_
    obtain ⟨hi2, hf⟩ := chk_some hf
    refine va_iald hx hb hK hP 1 0 rfl rfl hi2 dX6_find_62 ?_
    refine lv_iload_n hx hb dX6_find_63 rfl (lv_at hl 1 rfl) ?_
    refine lv_icmp_ne (tgt := 71) hx hb dX6_find_64 (by decide) (fun c3 => ?_) (fun c3 => ?_)
    · replace hf := iff_ c3 hf
      refine lv_bipush (v := -6) hx hb dX6_find_71 (by decide) ?_
      rw [← hQ, ← Option.some.inj hf]
      exact eR_i hx hb hr hlk rfl dX6_find_73
    · replace hf := ift c3 hf
      refine lv_iload_n hx hb dX6_find_67 rfl (lv_at hl 2 rfl) ?_
      refine lv_goto (tgt := 73) hx hb dX6_find_68 (by decide) ?_
      rw [← hQ, ← Option.some.inj hf]
      exact eR_i hx hb hr hlk rfl dX6_find_73
  have w_9 : ∀ n : Nat, ∀ (x1 : Int32) (x2 : Int32) (x3 : Int32) (x4 : Int32), f_X6_find_b9 v_drawn n x1 x2 x3 x4 = some out → ∀ ls : Array Slot, lv_has ls 6 [(0, .ref k_this), (1, .int x1), (2, .int x2), (3, .int x3), (4, .int x4)] → W p l e ({ frames := 0, cells := 0, slots := 0, locals := 0 } : Room) s m ar below meth c s.heap [] 0 0 QQ (F0 m 9 ls []) := by
    intro n
    induction n with
    | zero =>
      intro x1 x2 x3 x4 hf
      rw [f_X6_find_b9_z] at hf
      cases hf
    | succ n ih =>
      intro x1 x2 x3 x4 hf ls hl
      rw [f_X6_find_b9_s] at hf
      refine lv_iload hx hb dX6_find_9 (lv_at hl 4 rfl) ?_
      refine lv_sipush (v := 141) hx hb dX6_find_11 (by decide) ?_
      refine lv_icmp_ge (tgt := 57) hx hb dX6_find_14 (by decide) (fun c1 => ?_) (fun c1 => ?_)
      · replace hf := ift c1 hf
        exact w_57  x1 x2 hf ls (lv_sub hl [0, 1, 2] rfl)
      · replace hf := iff_ c1 hf
        refine lv_iload_n hx hb dX6_find_17 rfl (lv_at hl 2 rfl) ?_
        refine lv_iload_n hx hb dX6_find_18 rfl (lv_at hl 3 rfl) ?_
        refine lv_icmp_ge (tgt := 57) hx hb dX6_find_19 (by decide) (fun c4 => ?_) (fun c4 => ?_)
        · replace hf := ift c4 hf
          exact w_57  x1 x2 hf ls (lv_sub hl [0, 1, 2] rfl)
        · replace hf := iff_ c4 hf
          refine lv_iload_n hx hb dX6_find_22 rfl (lv_at hl 2 rfl) ?_
          refine lv_iload_n hx hb dX6_find_23 rfl (lv_at hl 3 rfl) ?_
          refine lv_iadd hx hb dX6_find_24 ?_
          refine lv_iconst (v := 2) hx hb dX6_find_25 (by decide) ?_
          refine lv_idiv hx hb dX6_find_26 (by decide) ?_
          refine lv_istore (lv' := [(5, .int ((x2 + x3) / (2 : Int32))), (0, .ref k_this), (1, .int x1), (2, .int x2), (3, .int x3), (4, .int x4)]) hx hb dX6_find_27 hl (by decide) rfl (fun ls hl => ?_)
          refine lv_aload_n hx hb dX6_find_29 rfl (lv_at hl 1 rfl) ?_
          refine va_get (D := gD g) (ci := 4) (v := .ref k_this_drawn) (C := RX6) (T := TX6) (N := 4) hx hb hts iX6 hown hK hP 0 rfl rfl 0 (by decide) (hts (.fieldLink RX6 11 "BeetleDrive$Sheets" "drawn" "[I") (List.mem_of_getElem? (i := 1) rfl)) (fun _ h9 => h9) rfl dX6_find_30 ?_
          refine lv_iload hx hb dX6_find_33 (lv_at hl 0 rfl) ?_
          obtain ⟨hi5, hf⟩ := chk_some hf
          refine va_iald hx hb hK hP 1 0 rfl rfl hi5 dX6_find_35 ?_
          refine lv_iload_n hx hb dX6_find_36 rfl (lv_at hl 2 rfl) ?_
          refine lv_icmp_ge (tgt := 48) hx hb dX6_find_37 (by decide) (fun c6 => ?_) (fun c6 => ?_)
          · replace hf := ift c6 hf
            refine lv_iload hx hb dX6_find_48 (lv_at hl 0 rfl) ?_
            refine lv_istore_n (lv' := [(3, .int ((x2 + x3) / (2 : Int32))), (5, .int ((x2 + x3) / (2 : Int32))), (0, .ref k_this), (1, .int x1), (2, .int x2), (4, .int x4)]) hx hb dX6_find_50 rfl hl (by decide) rfl (fun ls hl => ?_)
            refine lv_iinc (v := (x4 + 1)) (lv' := [(4, .int (x4 + 1)), (3, .int ((x2 + x3) / (2 : Int32))), (5, .int ((x2 + x3) / (2 : Int32))), (0, .ref k_this), (1, .int x1), (2, .int x2)]) hx hb dX6_find_51 hl (k := 5) rfl rfl (by decide) rfl (fun ls hl => ?_)
            refine lv_goto (tgt := 9) hx hb dX6_find_54 (by decide) ?_
            exact ih x1 x2 ((x2 + x3) / (2 : Int32)) (x4 + 1) hf ls (lv_sub hl [3, 4, 5, 1, 0] rfl)
          · replace hf := iff_ c6 hf
            refine lv_iload hx hb dX6_find_40 (lv_at hl 0 rfl) ?_
            refine lv_iconst (v := 1) hx hb dX6_find_42 (by decide) ?_
            refine lv_iadd hx hb dX6_find_43 ?_
            refine lv_istore_n (lv' := [(2, .int (((x2 + x3) / (2 : Int32)) + (1 : Int32))), (5, .int ((x2 + x3) / (2 : Int32))), (0, .ref k_this), (1, .int x1), (3, .int x3), (4, .int x4)]) hx hb dX6_find_44 rfl hl (by decide) rfl (fun ls hl => ?_)
            refine lv_goto (tgt := 51) hx hb dX6_find_45 (by decide) ?_
            refine lv_iinc (v := (x4 + 1)) (lv' := [(4, .int (x4 + 1)), (2, .int (((x2 + x3) / (2 : Int32)) + (1 : Int32))), (5, .int ((x2 + x3) / (2 : Int32))), (0, .ref k_this), (1, .int x1), (3, .int x3)]) hx hb dX6_find_51 hl (k := 5) rfl rfl (by decide) rfl (fun ls hl => ?_)
            refine lv_goto (tgt := 9) hx hb dX6_find_54 (by decide) ?_
            exact ih x1 (((x2 + x3) / (2 : Int32)) + (1 : Int32)) x3 (x4 + 1) hf ls (lv_sub hl [3, 4, 1, 5, 0] rfl)
  unfold f_X6_find at hf
  refine lv_iconst (v := 0) hx hb dX6_find_0 (by decide) ?_
  refine lv_istore_n (lv' := [(2, .int (0 : Int32)), (0, .ref k_this), (1, .int x1)]) hx hb dX6_find_1 rfl hl (by decide) rfl (fun ls hl => ?_)
  refine lv_sipush (v := 140) hx hb dX6_find_2 (by decide) ?_
  refine lv_istore_n (lv' := [(3, .int (140 : Int32)), (2, .int (0 : Int32)), (0, .ref k_this), (1, .int x1)]) hx hb dX6_find_5 rfl hl (by decide) rfl (fun ls hl => ?_)
  refine lv_iconst (v := 0) hx hb dX6_find_6 (by decide) ?_
  refine lv_istore (lv' := [(4, .int (0 : Int32)), (3, .int (140 : Int32)), (2, .int (0 : Int32)), (0, .ref k_this), (1, .int x1)]) hx hb dX6_find_7 hl (by decide) rfl (fun ls hl => ?_)
  exact w_9 FU x1 (0 : Int32) (140 : Int32) (0 : Int32) hf ls (lv_sub hl [3, 4, 2, 1, 0] rfl)
set_option maxHeartbeats 4000000 in
set_option maxRecDepth 100000 in
theorem c_X6_after (l : Launch) (g : bG) (k_this : Nat) (k_this_drawn : Nat) (k_this_next : Nat) (k_this_orders : Nat) (k_this_ways : Nat) (v_next : Nat → Int32) (x1 : Int32) (x2 : Int32) (out : Int32) (hf : f_X6_after v_next x1 x2 = some out) : Ri l g yX6_after wsX6_after ({ frames := 0, cells := 0, slots := 0, locals := 0 } : Room) [.ref k_this, .int x1, .int x2] [(k_this, .inr (4, [.ref k_this_drawn, .ref k_this_next, .ref k_this_orders, .ref k_this_ways])), (k_this_next, .inl (gI g, 846, .inl v_next))] out := by
  refine ofR (cc := cX6_after) (nL := 3) (ret := some .int) (by decide) rfl (Nat.le_of_ble_eq_true rfl) ?_
  intro p e s m below meth c ar hC hP hG ls hl
  have hS : va_S (fun _ => False) s.heap s.heap [] := va_S.rf
  obtain ⟨hx, hb, hml, hown, hts, hr, hlk, -⟩ := hC
  have hl : lv_has ls 3 [(0, .ref k_this), (1, .int x1), (2, .int x2)] := hl
  have hK := hG.1
  have iX6 : ∀ w ∈ u_ws RX6 TX6 4, w ∈ wsX6_after := fun w h => List.mem_cons_of_mem _ (List.mem_append_right _ (h))
  generalize hQ : MQ below (vp_Si (fun x => x = out)) ar s 0 0 (fun _ => False) = QQ
  unfold f_X6_after at hf
  refine lv_aload_n hx hb dX6_after_0 rfl (lv_at hl 0 rfl) ?_
  refine va_get (D := gD g) (ci := 4) (v := .ref k_this_next) (C := RX6) (T := TX6) (N := 4) hx hb hts iX6 hown hK hP 0 rfl rfl 1 (by decide) (hts (.fieldLink RX6 15 "BeetleDrive$Sheets" "next" "[I") (List.mem_of_getElem? (i := 1) rfl)) (fun _ h9 => h9) rfl dX6_after_1 ?_
  refine lv_iload_n hx hb dX6_after_4 rfl (lv_at hl 1 rfl) ?_
  refine lv_bipush (v := 6) hx hb dX6_after_5 (by decide) ?_
  refine lv_imul hx hb dX6_after_7 ?_
  refine lv_iload_n hx hb dX6_after_8 rfl (lv_at hl 2 rfl) ?_
  refine lv_iadd hx hb dX6_after_9 ?_
  refine lv_iconst (v := 1) hx hb dX6_after_10 (by decide) ?_
  refine lv_isub hx hb dX6_after_11 ?_
  obtain ⟨hi1, hf⟩ := chk_some hf
  refine va_iald hx hb hK hP 1 0 rfl rfl hi1 dX6_after_12 ?_
  rw [← hQ, ← Option.some.inj hf]
  exact eR_i hx hb hr hlk rfl dX6_after_13
set_option maxHeartbeats 4000000 in
set_option maxRecDepth 100000 in
theorem c_X6_leastThrow (l : Launch) (g : bG) (k_this : Nat) (k_this_drawn : Nat) (k_this_next : Nat) (k_this_orders : Nat) (k_this_ways : Nat) (v_next : Nat → Int32) (x1 : Int32) (out : Int32) (hf : f_X6_leastThrow v_next x1 = some out) : Ri l g yX6_leastThrow wsX6_leastThrow ({ frames := 1, cells := 0, slots := 0, locals := 22 } : Room) [.ref k_this, .int x1] [(k_this, .inr (4, [.ref k_this_drawn, .ref k_this_next, .ref k_this_orders, .ref k_this_ways])), (k_this_next, .inl (gI g, 846, .inl v_next))] out := by
  refine ofR (cc := cX6_leastThrow) (nL := 3) (ret := some .int) (by decide) rfl (Nat.le_of_ble_eq_true rfl) ?_
  intro p e s m below meth c ar hC hP hG ls hl
  have hS : va_S (fun _ => False) s.heap s.heap [] := va_S.rf
  obtain ⟨hx, hb, hml, hown, hts, hr, hlk, -⟩ := hC
  have hl : lv_has ls 3 [(0, .ref k_this), (1, .int x1)] := hl
  have hK := hG.1
  generalize hQ : MQ below (vp_Si (fun x => x = out)) ar s 0 0 (fun _ => False) = QQ
  have w_2 : ∀ n : Nat, ∀ (x1 : Int32) (x2 : Int32), f_X6_leastThrow_b2 v_next n x1 x2 = some out → ∀ ls : Array Slot, lv_has ls 3 [(0, .ref k_this), (1, .int x1), (2, .int x2)] → W p l e ({ frames := 1, cells := 0, slots := 0, locals := 22 } : Room) s m ar below meth c s.heap [] 0 0 QQ (F0 m 2 ls []) := by
    intro n
    induction n with
    | zero =>
      intro x1 x2 hf
      rw [f_X6_leastThrow_b2_z] at hf
      cases hf
    | succ n ih =>
      intro x1 x2 hf ls hl
      rw [f_X6_leastThrow_b2_s] at hf
      refine lv_iload_n hx hb dX6_leastThrow_2 rfl (lv_at hl 2 rfl) ?_
      refine lv_bipush (v := 6) hx hb dX6_leastThrow_3 (by decide) ?_
      refine lv_icmp_gt (tgt := 26) hx hb dX6_leastThrow_5 (by decide) (fun c1 => ?_) (fun c1 => ?_)
      · replace hf := ift c1 hf
        refine lv_bipush (v := -6) hx hb dX6_leastThrow_26 (by decide) ?_
        rw [← hQ, ← Option.some.inj hf]
        exact eR_i hx hb hr hlk rfl dX6_leastThrow_28
      · replace hf := iff_ c1 hf
        refine lv_aload_n hx hb dX6_leastThrow_8 rfl (lv_at hl 0 rfl) ?_
        refine lv_iload_n hx hb dX6_leastThrow_9 rfl (lv_at hl 1 rfl) ?_
        refine lv_iload_n hx hb dX6_leastThrow_10 rfl (lv_at hl 2 rfl) ?_
        obtain ⟨z2, hq3, hf⟩ := bnd_some hf
        refine kR_i (va_runV (As := [.int x1, .int x2]) (rest := []) ⟨hx, hb, hml, hown, hts⟩ (c_X6_after l g k_this k_this_drawn k_this_next k_this_orders k_this_ways v_next x1 x2 z2 hq3) (cwV 2 hts gX6_leastThrow_X6_after rfl rfl rfl (by decide +kernel) ⟨Nat.le_of_ble_eq_true rfl, Nat.le_of_ble_eq_true rfl⟩) (kpV_R (q0 := 0) (ci := 4) hG (hP.subm (ws' := [(k_this, .inr (4, [.ref k_this_drawn, .ref k_this_next, .ref k_this_orders, .ref k_this_ways])), (k_this_next, .inl (gI g, 846, .inl v_next))]) [0, 1] rfl) rfl rfl) rfl rfl hl.1 rfl (lv_room (Nat.le_of_ble_eq_true rfl)) dX6_leastThrow_11 ⟨Nat.le_of_ble_eq_true rfl, Nat.le_of_ble_eq_true rfl⟩) ?_
        refine lv_iload_n hx hb dX6_leastThrow_14 rfl (lv_at hl 1 rfl) ?_
        refine lv_icmp_eq (tgt := 20) hx hb dX6_leastThrow_15 (by decide) (fun c4 => ?_) (fun c4 => ?_)
        · replace hf := ift c4 hf
          refine lv_iinc (v := (x2 + 1)) (lv' := [(2, .int (x2 + 1)), (0, .ref k_this), (1, .int x1)]) hx hb dX6_leastThrow_20 hl (k := 2) rfl rfl (by decide) rfl (fun ls hl => ?_)
          refine lv_goto (tgt := 2) hx hb dX6_leastThrow_23 (by decide) ?_
          exact ih x1 (x2 + 1) hf ls (lv_sub hl [1, 2, 0] rfl)
        · replace hf := iff_ c4 hf
          refine lv_iload_n hx hb dX6_leastThrow_18 rfl (lv_at hl 2 rfl) ?_
          rw [← hQ, ← Option.some.inj hf]
          exact eR_i hx hb hr hlk rfl dX6_leastThrow_19
  unfold f_X6_leastThrow at hf
  refine lv_iconst (v := 1) hx hb dX6_leastThrow_0 (by decide) ?_
  refine lv_istore_n (lv' := [(2, .int (1 : Int32)), (0, .ref k_this), (1, .int x1)]) hx hb dX6_leastThrow_1 rfl hl (by decide) rfl (fun ls hl => ?_)
  exact w_2 FU x1 (1 : Int32) hf ls (lv_sub hl [1, 2, 0] rfl)
set_option maxHeartbeats 4000000 in
set_option maxRecDepth 100000 in
theorem c_X6_spread (l : Launch) (g : bG) (k_this : Nat) (k_this_drawn : Nat) (k_this_next : Nat) (k_this_orders : Nat) (k_this_ways : Nat) (v_next : Nat → Int32) (v_ways : Nat → Int64) (x1 : Int32) (out : (Nat → Int64)) (hf : f_X6_spread v_next v_ways x1 = some out) : Mv l g yX6_spread wsX6_spread ({ frames := 1, cells := 0, slots := 0, locals := 22 } : Room) [.ref k_this, .int x1] [(k_this, .inr (4, [.ref k_this_drawn, .ref k_this_next, .ref k_this_orders, .ref k_this_ways])), (k_this_next, .inl (gI g, 846, .inl v_next)), (k_this_ways, .inl (gJ g, 141, .inr (.inl v_ways)))] [(k_this, .inr (4, [.ref k_this_drawn, .ref k_this_next, .ref k_this_orders, .ref k_this_ways])), (k_this_next, .inl (gI g, 846, .inl v_next)), (k_this_ways, .inl (gJ g, 141, .inr (.inl out)))] := by
  refine ofM (Qc := fun A => Qv g [(k_this, .inr (4, [.ref k_this_drawn, .ref k_this_next, .ref k_this_orders, .ref k_this_ways])), (k_this_next, .inl (gI g, 846, .inl v_next)), (k_this_ways, .inl (gJ g, 141, .inr (.inl out)))] A) (cc := cX6_spread) (nL := 5) (ret := none) (by decide) rfl (Nat.le_of_ble_eq_true rfl) ?_
  intro p e s m below meth c ar A hC hA hP hD hG ls hl
  have hS : va_S A s.heap s.heap [] := va_S.rf
  obtain ⟨hx, hb, hml, hown, hts, hr, hlk, -⟩ := hC
  have hl : lv_has ls 5 [(0, .ref k_this), (1, .int x1)] := hl
  have hK := hG.1
  have iX6 : ∀ w ∈ u_ws RX6 TX6 4, w ∈ wsX6_spread := fun w h => List.mem_cons_of_mem _ (List.mem_append_right _ (h))
  generalize hQ : MQ below (Qv g [(k_this, .inr (4, [.ref k_this_drawn, .ref k_this_next, .ref k_this_orders, .ref k_this_ways])), (k_this_next, .inl (gI g, 846, .inl v_next)), (k_this_ways, .inl (gJ g, 141, .inr (.inl out)))] A) ar s 0 0 A = QQ
  have w_24 : ∀ n : Nat, ∀ (x1 : Int32) (x2 : Int64) (x4 : Int32) (v_ways : Nat → Int64), f_X6_spread_b24 v_next n x1 x2 x4 v_ways = some out → ∀ (H : Heap) (locs : List Loc), va_P (gD g) vwCl [(k_this, .inr (4, [.ref k_this_drawn, .ref k_this_next, .ref k_this_orders, .ref k_this_ways])), (k_this_next, .inl (gI g, 846, .inl v_next)), (k_this_ways, .inl (gJ g, 141, .inr (.inl v_ways)))] H → va_D A [(k_this, .inr (4, [.ref k_this_drawn, .ref k_this_next, .ref k_this_orders, .ref k_this_ways])), (k_this_next, .inl (gI g, 846, .inl v_next)), (k_this_ways, .inl (gJ g, 141, .inr (.inl v_ways)))] → va_S A s.heap H locs → ∀ ls : Array Slot, lv_has ls 5 [(0, .ref k_this), (1, .int x1), (2, .long x2), (4, .int x4)] → W p l e ({ frames := 1, cells := 0, slots := 0, locals := 22 } : Room) s m ar below meth c H locs 0 0 QQ (F0 m 24 ls []) := by
    intro n
    induction n with
    | zero =>
      intro x1 x2 x4 v_ways hf
      rw [f_X6_spread_b24_z] at hf
      cases hf
    | succ n ih =>
      intro x1 x2 x4 v_ways hf H locs hP hD hS ls hl
      rw [f_X6_spread_b24_s] at hf
      refine lv_iload hx hb dX6_spread_24 (lv_at hl 3 rfl) ?_
      refine lv_bipush (v := 6) hx hb dX6_spread_26 (by decide) ?_
      refine lv_icmp_gt (tgt := 53) hx hb dX6_spread_28 (by decide) (fun c4 => ?_) (fun c4 => ?_)
      · replace hf := ift c4 hf
        rw [← hQ, ← Option.some.inj hf]
        exact eM_v hx hb hr hlk hP hD hS dX6_spread_53
      · replace hf := iff_ c4 hf
        refine lv_aload_n hx hb dX6_spread_31 rfl (lv_at hl 0 rfl) ?_
        refine va_get (D := gD g) (ci := 4) (v := .ref k_this_ways) (C := RX6) (T := TX6) (N := 4) hx hb hts iX6 hown hK hP 0 rfl rfl 3 (by decide) (hts (.fieldLink RX6 21 "BeetleDrive$Sheets" "ways" "[J") (List.mem_of_getElem? (i := 1) rfl)) (fun _ h9 => h9) rfl dX6_spread_32 ?_
        refine lv_aload_n hx hb dX6_spread_35 rfl (lv_at hl 0 rfl) ?_
        refine lv_iload_n hx hb dX6_spread_36 rfl (lv_at hl 1 rfl) ?_
        refine lv_iload hx hb dX6_spread_37 (lv_at hl 3 rfl) ?_
        obtain ⟨z5, hq6, hf⟩ := bnd_some hf
        refine kR_i (va_runV (As := [.int x1, .int x4]) (rest := [.ref k_this_ways]) ⟨hx, hb, hml, hown, hts⟩ (c_X6_after l g k_this k_this_drawn k_this_next k_this_orders k_this_ways v_next x1 x4 z5 hq6) (cwV 2 hts gX6_spread_X6_after rfl rfl rfl (by decide +kernel) ⟨Nat.le_of_ble_eq_true rfl, Nat.le_of_ble_eq_true rfl⟩) (kpV_R (q0 := 0) (ci := 4) (hG.now hS) (hP.subm (ws' := [(k_this, .inr (4, [.ref k_this_drawn, .ref k_this_next, .ref k_this_orders, .ref k_this_ways])), (k_this_next, .inl (gI g, 846, .inl v_next))]) [0, 1] rfl) rfl rfl) rfl rfl hl.1 rfl (lv_room (Nat.le_of_ble_eq_true rfl)) dX6_spread_39 ⟨Nat.le_of_ble_eq_true rfl, Nat.le_of_ble_eq_true rfl⟩) ?_
        refine lv_dup2_11 hx hb dX6_spread_42 rfl rfl ?_
        obtain ⟨hi7, hf⟩ := chk_some hf
        refine va_lald hx hb hK hP 2 1 rfl rfl hi7 dX6_spread_43 ?_
        refine lv_lload_n hx hb dX6_spread_44 rfl (lv_at hl 2 rfl) ?_
        refine lv_ladd hx hb dX6_spread_45 ?_
        obtain ⟨hi8, hf⟩ := chk_some hf
        refine va_last hx hb hK hP hD hS 2 1 rfl rfl hi8 dX6_spread_46 (fun H locs hP hD hS => ?_)
        have hP : va_P (gD g) vwCl [(k_this, .inr (4, [.ref k_this_drawn, .ref k_this_next, .ref k_this_orders, .ref k_this_ways])), (k_this_next, .inl (gI g, 846, .inl v_next)), (k_this_ways, .inl (gJ g, 141, .inr (.inl (vp_updL v_ways (Int32.toNatClampNeg z5) ((v_ways (Int32.toNatClampNeg z5)) + x2)))))] H := hP
        have hD : va_D A [(k_this, .inr (4, [.ref k_this_drawn, .ref k_this_next, .ref k_this_orders, .ref k_this_ways])), (k_this_next, .inl (gI g, 846, .inl v_next)), (k_this_ways, .inl (gJ g, 141, .inr (.inl (vp_updL v_ways (Int32.toNatClampNeg z5) ((v_ways (Int32.toNatClampNeg z5)) + x2)))))] := hD
        refine lv_iinc (v := (x4 + 1)) (lv' := [(4, .int (x4 + 1)), (0, .ref k_this), (1, .int x1), (2, .long x2)]) hx hb dX6_spread_47 hl (k := 3) rfl rfl (by decide) rfl (fun ls hl => ?_)
        refine lv_goto (tgt := 24) hx hb dX6_spread_50 (by decide) ?_
        exact ih x1 x2 (x4 + 1) (vp_updL v_ways (Int32.toNatClampNeg z5) ((v_ways (Int32.toNatClampNeg z5)) + x2)) hf H locs hP hD hS ls (lv_sub hl [1, 2, 3, 0] rfl)
  unfold f_X6_spread at hf
  refine lv_aload_n hx hb dX6_spread_0 rfl (lv_at hl 0 rfl) ?_
  refine va_get (D := gD g) (ci := 4) (v := .ref k_this_ways) (C := RX6) (T := TX6) (N := 4) hx hb hts iX6 hown hK hP 0 rfl rfl 3 (by decide) (hts (.fieldLink RX6 21 "BeetleDrive$Sheets" "ways" "[J") (List.mem_of_getElem? (i := 1) rfl)) (fun _ h9 => h9) rfl dX6_spread_1 ?_
  refine lv_iload_n hx hb dX6_spread_4 rfl (lv_at hl 1 rfl) ?_
  obtain ⟨hi1, hf⟩ := chk_some hf
  refine va_lald hx hb hK hP 2 1 rfl rfl hi1 dX6_spread_5 ?_
  refine lv_lstore_n (lv' := [(2, .long (v_ways (Int32.toNatClampNeg x1))), (0, .ref k_this), (1, .int x1)]) hx hb dX6_spread_6 rfl hl (by decide) rfl (fun ls hl => ?_)
  refine lv_lload_n hx hb dX6_spread_7 rfl (lv_at hl 0 rfl) ?_
  refine lv_lconst (v := 0) hx hb dX6_spread_8 (by decide) ?_
  refine W.lcmp hx hb dX6_spread_9 ?_
  refine lv_if_ne (tgt := 14) hx hb dX6_spread_10 (by decide) (fun c2 => ?_) (fun c2 => ?_)
  · replace hf := iff_ c2 hf
    refine lv_aload_n hx hb dX6_spread_14 rfl (lv_at hl 1 rfl) ?_
    refine va_get (D := gD g) (ci := 4) (v := .ref k_this_ways) (C := RX6) (T := TX6) (N := 4) hx hb hts iX6 hown hK hP 0 rfl rfl 3 (by decide) (hts (.fieldLink RX6 21 "BeetleDrive$Sheets" "ways" "[J") (List.mem_of_getElem? (i := 1) rfl)) (fun _ h9 => h9) rfl dX6_spread_15 ?_
    refine lv_iload_n hx hb dX6_spread_18 rfl (lv_at hl 2 rfl) ?_
    refine lv_lconst (v := 0) hx hb dX6_spread_19 (by decide) ?_
    obtain ⟨hi3, hf⟩ := chk_some hf
    refine va_last hx hb hK hP hD hS 2 1 rfl rfl hi3 dX6_spread_20 (fun H locs hP hD hS => ?_)
    have hP : va_P (gD g) vwCl [(k_this, .inr (4, [.ref k_this_drawn, .ref k_this_next, .ref k_this_orders, .ref k_this_ways])), (k_this_next, .inl (gI g, 846, .inl v_next)), (k_this_ways, .inl (gJ g, 141, .inr (.inl (vp_updL v_ways (Int32.toNatClampNeg x1) (0 : Int64)))))] H := hP
    have hD : va_D A [(k_this, .inr (4, [.ref k_this_drawn, .ref k_this_next, .ref k_this_orders, .ref k_this_ways])), (k_this_next, .inl (gI g, 846, .inl v_next)), (k_this_ways, .inl (gJ g, 141, .inr (.inl (vp_updL v_ways (Int32.toNatClampNeg x1) (0 : Int64)))))] := hD
    refine lv_iconst (v := 1) hx hb dX6_spread_21 (by decide) ?_
    refine lv_istore (lv' := [(4, .int (1 : Int32)), (2, .long (v_ways (Int32.toNatClampNeg x1))), (0, .ref k_this), (1, .int x1)]) hx hb dX6_spread_22 hl (by decide) rfl (fun ls hl => ?_)
    exact w_24 FU x1 (v_ways (Int32.toNatClampNeg x1)) (1 : Int32) (vp_updL v_ways (Int32.toNatClampNeg x1) (0 : Int64)) hf H locs hP hD hS ls (lv_sub hl [2, 3, 1, 0] rfl)
  · replace hf := ift c2 hf
    rw [← hQ, ← Option.some.inj hf]
    exact eM_v hx hb hr hlk hP hD hS dX6_spread_13
set_option maxHeartbeats 4000000 in
set_option maxRecDepth 100000 in
theorem c_X6_waysToWhole (l : Launch) (g : bG) (k_this : Nat) (k_this_drawn : Nat) (k_this_next : Nat) (k_this_orders : Nat) (k_this_ways : Nat) (v_next : Nat → Int32) (v_ways : Nat → Int64) (x1 : Int32) (x2 : Int32) (out : Int64 × (Nat → Int64)) (hf : f_X6_waysToWhole v_next v_ways x1 x2 = some out) : Ml l g yX6_waysToWhole wsX6_waysToWhole ({ frames := 2, cells := 0, slots := 0, locals := 46 } : Room) [.ref k_this, .int x1, .int x2] [(k_this, .inr (4, [.ref k_this_drawn, .ref k_this_next, .ref k_this_orders, .ref k_this_ways])), (k_this_next, .inl (gI g, 846, .inl v_next)), (k_this_ways, .inl (gJ g, 141, .inr (.inl v_ways)))] out.1 [(k_this, .inr (4, [.ref k_this_drawn, .ref k_this_next, .ref k_this_orders, .ref k_this_ways])), (k_this_next, .inl (gI g, 846, .inl v_next)), (k_this_ways, .inl (gJ g, 141, .inr (.inl out.2)))] := by
  refine ofM (Qc := fun A => Ql g out.1 [(k_this, .inr (4, [.ref k_this_drawn, .ref k_this_next, .ref k_this_orders, .ref k_this_ways])), (k_this_next, .inl (gI g, 846, .inl v_next)), (k_this_ways, .inl (gJ g, 141, .inr (.inl out.2)))] A) (cc := cX6_waysToWhole) (nL := 5) (ret := some .long) (by decide) rfl (Nat.le_of_ble_eq_true rfl) ?_
  intro p e s m below meth c ar A hC hA hP hD hG ls hl
  have hS : va_S A s.heap s.heap [] := va_S.rf
  obtain ⟨hx, hb, hml, hown, hts, hr, hlk, -⟩ := hC
  have hl : lv_has ls 5 [(0, .ref k_this), (1, .int x1), (2, .int x2)] := hl
  have hK := hG.1
  have iX6 : ∀ w ∈ u_ws RX6 TX6 4, w ∈ wsX6_waysToWhole := fun w h => List.mem_cons_of_mem _ (List.mem_append_right _ (h))
  generalize hQ : MQ below (Ql g out.1 [(k_this, .inr (4, [.ref k_this_drawn, .ref k_this_next, .ref k_this_orders, .ref k_this_ways])), (k_this_next, .inl (gI g, 846, .inl v_next)), (k_this_ways, .inl (gJ g, 141, .inr (.inl out.2)))] A) ar s 0 0 A = QQ
  have w_43 : ∀ (k33 : Int32 → Int32 → Int32 → (Nat → Int64) → Option (Int64 × (Nat → Int64))), (∀ (x1 : Int32) (x2 : Int32) (x3 : Int32) (v_ways : Nat → Int64), k33 x1 x2 x3 v_ways = some out → ∀ (H : Heap) (locs : List Loc), va_P (gD g) vwCl [(k_this, .inr (4, [.ref k_this_drawn, .ref k_this_next, .ref k_this_orders, .ref k_this_ways])), (k_this_next, .inl (gI g, 846, .inl v_next)), (k_this_ways, .inl (gJ g, 141, .inr (.inl v_ways)))] H → va_D A [(k_this, .inr (4, [.ref k_this_drawn, .ref k_this_next, .ref k_this_orders, .ref k_this_ways])), (k_this_next, .inl (gI g, 846, .inl v_next)), (k_this_ways, .inl (gJ g, 141, .inr (.inl v_ways)))] → va_S A s.heap H locs → ∀ ls : Array Slot, lv_has ls 5 [(0, .ref k_this), (1, .int x1), (2, .int x2), (3, .int x3)] → W p l e ({ frames := 2, cells := 0, slots := 0, locals := 46 } : Room) s m ar below meth c H locs 0 0 QQ (F0 m 33 ls [])) → ∀ n : Nat, ∀ (x1 : Int32) (x2 : Int32) (x3 : Int32) (x4 : Int32) (v_ways : Nat → Int64), f_X6_waysToWhole_b43 v_next k33 n x1 x2 x3 x4 v_ways = some out → ∀ (H : Heap) (locs : List Loc), va_P (gD g) vwCl [(k_this, .inr (4, [.ref k_this_drawn, .ref k_this_next, .ref k_this_orders, .ref k_this_ways])), (k_this_next, .inl (gI g, 846, .inl v_next)), (k_this_ways, .inl (gJ g, 141, .inr (.inl v_ways)))] H → va_D A [(k_this, .inr (4, [.ref k_this_drawn, .ref k_this_next, .ref k_this_orders, .ref k_this_ways])), (k_this_next, .inl (gI g, 846, .inl v_next)), (k_this_ways, .inl (gJ g, 141, .inr (.inl v_ways)))] → va_S A s.heap H locs → ∀ ls : Array Slot, lv_has ls 5 [(0, .ref k_this), (1, .int x1), (2, .int x2), (3, .int x3), (4, .int x4)] → W p l e ({ frames := 2, cells := 0, slots := 0, locals := 46 } : Room) s m ar below meth c H locs 0 0 QQ (F0 m 43 ls []) := by
    intro k33 hk33 n
    induction n with
    | zero =>
      intro x1 x2 x3 x4 v_ways hf
      rw [f_X6_waysToWhole_b43_z] at hf
      cases hf
    | succ n ih =>
      intro x1 x2 x3 x4 v_ways hf H locs hP hD hS ls hl
      rw [f_X6_waysToWhole_b43_s] at hf
      refine lv_iload hx hb dX6_waysToWhole_43 (lv_at hl 4 rfl) ?_
      refine lv_iload_n hx hb dX6_waysToWhole_45 rfl (lv_at hl 1 rfl) ?_
      refine lv_icmp_lt (tgt := 61) hx hb dX6_waysToWhole_46 (by decide) (fun c4 => ?_) (fun c4 => ?_)
      · replace hf := ift c4 hf
        refine lv_iinc (v := (x3 + 1)) (lv' := [(3, .int (x3 + 1)), (0, .ref k_this), (1, .int x1), (2, .int x2), (4, .int x4)]) hx hb dX6_waysToWhole_61 hl (k := 3) rfl rfl (by decide) rfl (fun ls hl => ?_)
        refine lv_goto (tgt := 33) hx hb dX6_waysToWhole_64 (by decide) ?_
        exact hk33 x1 x2 (x3 + 1) v_ways hf H locs hP hD hS ls (lv_sub hl [1, 2, 3, 0] rfl)
      · replace hf := iff_ c4 hf
        refine lv_aload_n hx hb dX6_waysToWhole_49 rfl (lv_at hl 0 rfl) ?_
        refine lv_iload hx hb dX6_waysToWhole_50 (lv_at hl 4 rfl) ?_
        obtain ⟨z5, hq6, hf⟩ := bnd_some hf
        refine kM_v (wc := [(k_this, .inr (4, [.ref k_this_drawn, .ref k_this_next, .ref k_this_orders, .ref k_this_ways])), (k_this_next, .inl (gI g, 846, .inl v_next)), (k_this_ways, .inl (gJ g, 141, .inr (.inl v_ways)))]) (wr := []) (w1 := [(k_this, .inr (4, [.ref k_this_drawn, .ref k_this_next, .ref k_this_orders, .ref k_this_ways])), (k_this_next, .inl (gI g, 846, .inl v_next)), (k_this_ways, .inl (gJ g, 141, .inr (.inl z5)))]) (w2 := [(k_this, .inr (4, [.ref k_this_drawn, .ref k_this_next, .ref k_this_orders, .ref k_this_ways])), (k_this_next, .inl (gI g, 846, .inl v_next)), (k_this_ways, .inl (gJ g, 141, .inr (.inl z5)))]) (va_runV (As := [.int x4]) (rest := []) ⟨hx, hb, hml, hown, hts⟩ (c_X6_spread l g k_this k_this_drawn k_this_next k_this_orders k_this_ways v_next v_ways x4 z5 hq6 H.size) (cwV 1 hts gX6_waysToWhole_X6_spread rfl rfl rfl (by decide +kernel) ⟨Nat.le_of_ble_eq_true rfl, Nat.le_of_ble_eq_true rfl⟩) (kpV_M (q0 := 0) (ci := 4) hG hS hP hD hA [0, 1, 2] rfl (by decide) rfl rfl) rfl rfl hl.1 rfl (lv_room (Nat.le_of_ble_eq_true rfl)) dX6_waysToWhole_52 ⟨Nat.le_of_ble_eq_true rfl, Nat.le_of_ble_eq_true rfl⟩) hP hD hS hA [0, 1, 2] [] [0, 1, 2] rfl rfl (by decide) (by decide) rfl (by decide) (fun H locs hP hD hS => ?_)
        refine lv_iinc (v := (x4 + (-1))) (lv' := [(4, .int (x4 + (-1))), (0, .ref k_this), (1, .int x1), (2, .int x2), (3, .int x3)]) hx hb dX6_waysToWhole_55 hl (k := 4) rfl rfl (by decide) rfl (fun ls hl => ?_)
        refine lv_goto (tgt := 43) hx hb dX6_waysToWhole_58 (by decide) ?_
        exact ih x1 x2 x3 (x4 + (-1)) z5 hf H locs hP hD hS ls (lv_sub hl [1, 2, 3, 4, 0] rfl)
  have w_33 : ∀ n : Nat, ∀ (x1 : Int32) (x2 : Int32) (x3 : Int32) (v_ways : Nat → Int64), f_X6_waysToWhole_b33 v_next n x1 x2 x3 v_ways = some out → ∀ (H : Heap) (locs : List Loc), va_P (gD g) vwCl [(k_this, .inr (4, [.ref k_this_drawn, .ref k_this_next, .ref k_this_orders, .ref k_this_ways])), (k_this_next, .inl (gI g, 846, .inl v_next)), (k_this_ways, .inl (gJ g, 141, .inr (.inl v_ways)))] H → va_D A [(k_this, .inr (4, [.ref k_this_drawn, .ref k_this_next, .ref k_this_orders, .ref k_this_ways])), (k_this_next, .inl (gI g, 846, .inl v_next)), (k_this_ways, .inl (gJ g, 141, .inr (.inl v_ways)))] → va_S A s.heap H locs → ∀ ls : Array Slot, lv_has ls 5 [(0, .ref k_this), (1, .int x1), (2, .int x2), (3, .int x3)] → W p l e ({ frames := 2, cells := 0, slots := 0, locals := 46 } : Room) s m ar below meth c H locs 0 0 QQ (F0 m 33 ls []) := by
    intro n
    induction n with
    | zero =>
      intro x1 x2 x3 v_ways hf
      rw [f_X6_waysToWhole_b33_z] at hf
      cases hf
    | succ n ih =>
      intro x1 x2 x3 v_ways hf H locs hP hD hS ls hl
      rw [f_X6_waysToWhole_b33_s] at hf
      refine lv_iload_n hx hb dX6_waysToWhole_33 rfl (lv_at hl 3 rfl) ?_
      refine lv_iload_n hx hb dX6_waysToWhole_34 rfl (lv_at hl 2 rfl) ?_
      refine lv_icmp_ge (tgt := 67) hx hb dX6_waysToWhole_35 (by decide) (fun c2 => ?_) (fun c2 => ?_)
      · replace hf := ift c2 hf
        refine lv_aload_n hx hb dX6_waysToWhole_67 rfl (lv_at hl 0 rfl) ?_
        refine va_get (D := gD g) (ci := 4) (v := .ref k_this_ways) (C := RX6) (T := TX6) (N := 4) hx hb hts iX6 hown hK hP 0 rfl rfl 3 (by decide) (hts (.fieldLink RX6 21 "BeetleDrive$Sheets" "ways" "[J") (List.mem_of_getElem? (i := 1) rfl)) (fun _ h9 => h9) rfl dX6_waysToWhole_68 ?_
        refine lv_sipush (v := 140) hx hb dX6_waysToWhole_71 (by decide) ?_
        obtain ⟨hi3, hf⟩ := chk_some hf
        refine va_lald hx hb hK hP 2 1 rfl rfl hi3 dX6_waysToWhole_74 ?_
        rw [← hQ, ← Option.some.inj hf]
        exact eM_l hx hb hr hlk hP hD hS rfl dX6_waysToWhole_75
      · replace hf := iff_ c2 hf
        refine lv_sipush (v := 140) hx hb dX6_waysToWhole_38 (by decide) ?_
        refine lv_istore (lv' := [(4, .int (140 : Int32)), (0, .ref k_this), (1, .int x1), (2, .int x2), (3, .int x3)]) hx hb dX6_waysToWhole_41 hl (by decide) rfl (fun ls hl => ?_)
        exact w_43 (f_X6_waysToWhole_b33 v_next n) ih FU x1 x2 x3 (140 : Int32) v_ways hf H locs hP hD hS ls (lv_sub hl [1, 2, 3, 4, 0] rfl)
  have w_2 : ∀ n : Nat, ∀ (x1 : Int32) (x2 : Int32) (x3 : Int32) (v_ways : Nat → Int64), f_X6_waysToWhole_b2 v_next n x1 x2 x3 v_ways = some out → ∀ (H : Heap) (locs : List Loc), va_P (gD g) vwCl [(k_this, .inr (4, [.ref k_this_drawn, .ref k_this_next, .ref k_this_orders, .ref k_this_ways])), (k_this_next, .inl (gI g, 846, .inl v_next)), (k_this_ways, .inl (gJ g, 141, .inr (.inl v_ways)))] H → va_D A [(k_this, .inr (4, [.ref k_this_drawn, .ref k_this_next, .ref k_this_orders, .ref k_this_ways])), (k_this_next, .inl (gI g, 846, .inl v_next)), (k_this_ways, .inl (gJ g, 141, .inr (.inl v_ways)))] → va_S A s.heap H locs → ∀ ls : Array Slot, lv_has ls 5 [(0, .ref k_this), (1, .int x1), (2, .int x2), (3, .int x3)] → W p l e ({ frames := 2, cells := 0, slots := 0, locals := 46 } : Room) s m ar below meth c H locs 0 0 QQ (F0 m 2 ls []) := by
    intro n
    induction n with
    | zero =>
      intro x1 x2 x3 v_ways hf
      rw [f_X6_waysToWhole_b2_z] at hf
      cases hf
    | succ n ih =>
      intro x1 x2 x3 v_ways hf H locs hP hD hS ls hl
      rw [f_X6_waysToWhole_b2_s] at hf
      refine lv_iload_n hx hb dX6_waysToWhole_2 rfl (lv_at hl 3 rfl) ?_
      refine lv_sipush (v := 141) hx hb dX6_waysToWhole_3 (by decide) ?_
      refine lv_icmp_ge (tgt := 31) hx hb dX6_waysToWhole_6 (by decide) (fun c1 => ?_) (fun c1 => ?_)
      · replace hf := ift c1 hf
        refine lv_iconst (v := 0) hx hb dX6_waysToWhole_31 (by decide) ?_
        refine lv_istore_n (lv' := [(3, .int (0 : Int32)), (0, .ref k_this), (1, .int x1), (2, .int x2)]) hx hb dX6_waysToWhole_32 rfl hl (by decide) rfl (fun ls hl => ?_)
        exact w_33 FU x1 x2 (0 : Int32) v_ways hf H locs hP hD hS ls (lv_sub hl [1, 2, 3, 0] rfl)
      · replace hf := iff_ c1 hf
        refine lv_aload_n hx hb dX6_waysToWhole_9 rfl (lv_at hl 0 rfl) ?_
        refine va_get (D := gD g) (ci := 4) (v := .ref k_this_ways) (C := RX6) (T := TX6) (N := 4) hx hb hts iX6 hown hK hP 0 rfl rfl 3 (by decide) (hts (.fieldLink RX6 21 "BeetleDrive$Sheets" "ways" "[J") (List.mem_of_getElem? (i := 1) rfl)) (fun _ h9 => h9) rfl dX6_waysToWhole_10 ?_
        refine lv_iload_n hx hb dX6_waysToWhole_13 rfl (lv_at hl 3 rfl) ?_
        refine lv_iload_n hx hb dX6_waysToWhole_14 rfl (lv_at hl 3 rfl) ?_
        refine lv_iload_n hx hb dX6_waysToWhole_15 rfl (lv_at hl 1 rfl) ?_
        refine lv_icmp_ne (tgt := 23) hx hb dX6_waysToWhole_16 (by decide) (fun c7 => ?_) (fun c7 => ?_)
        · replace hf := iff_ c7 hf
          refine lv_lconst (v := 0) hx hb dX6_waysToWhole_23 (by decide) ?_
          obtain ⟨hi8, hf⟩ := chk_some hf
          refine va_last hx hb hK hP hD hS 2 1 rfl rfl hi8 dX6_waysToWhole_24 (fun H locs hP hD hS => ?_)
          have hP : va_P (gD g) vwCl [(k_this, .inr (4, [.ref k_this_drawn, .ref k_this_next, .ref k_this_orders, .ref k_this_ways])), (k_this_next, .inl (gI g, 846, .inl v_next)), (k_this_ways, .inl (gJ g, 141, .inr (.inl (vp_updL v_ways (Int32.toNatClampNeg x3) (0 : Int64)))))] H := hP
          have hD : va_D A [(k_this, .inr (4, [.ref k_this_drawn, .ref k_this_next, .ref k_this_orders, .ref k_this_ways])), (k_this_next, .inl (gI g, 846, .inl v_next)), (k_this_ways, .inl (gJ g, 141, .inr (.inl (vp_updL v_ways (Int32.toNatClampNeg x3) (0 : Int64)))))] := hD
          refine lv_iinc (v := (x3 + 1)) (lv' := [(3, .int (x3 + 1)), (0, .ref k_this), (1, .int x1), (2, .int x2)]) hx hb dX6_waysToWhole_25 hl (k := 3) rfl rfl (by decide) rfl (fun ls hl => ?_)
          refine lv_goto (tgt := 2) hx hb dX6_waysToWhole_28 (by decide) ?_
          exact ih x1 x2 (x3 + 1) (vp_updL v_ways (Int32.toNatClampNeg x3) (0 : Int64)) hf H locs hP hD hS ls (lv_sub hl [1, 2, 3, 0] rfl)
        · replace hf := ift c7 hf
          refine lv_lconst (v := 1) hx hb dX6_waysToWhole_19 (by decide) ?_
          refine lv_goto (tgt := 24) hx hb dX6_waysToWhole_20 (by decide) ?_
          obtain ⟨hi9, hf⟩ := chk_some hf
          refine va_last hx hb hK hP hD hS 2 1 rfl rfl hi9 dX6_waysToWhole_24 (fun H locs hP hD hS => ?_)
          have hP : va_P (gD g) vwCl [(k_this, .inr (4, [.ref k_this_drawn, .ref k_this_next, .ref k_this_orders, .ref k_this_ways])), (k_this_next, .inl (gI g, 846, .inl v_next)), (k_this_ways, .inl (gJ g, 141, .inr (.inl (vp_updL v_ways (Int32.toNatClampNeg x3) (1 : Int64)))))] H := hP
          have hD : va_D A [(k_this, .inr (4, [.ref k_this_drawn, .ref k_this_next, .ref k_this_orders, .ref k_this_ways])), (k_this_next, .inl (gI g, 846, .inl v_next)), (k_this_ways, .inl (gJ g, 141, .inr (.inl (vp_updL v_ways (Int32.toNatClampNeg x3) (1 : Int64)))))] := hD
          refine lv_iinc (v := (x3 + 1)) (lv' := [(3, .int (x3 + 1)), (0, .ref k_this), (1, .int x1), (2, .int x2)]) hx hb dX6_waysToWhole_25 hl (k := 3) rfl rfl (by decide) rfl (fun ls hl => ?_)
          refine lv_goto (tgt := 2) hx hb dX6_waysToWhole_28 (by decide) ?_
          exact ih x1 x2 (x3 + 1) (vp_updL v_ways (Int32.toNatClampNeg x3) (1 : Int64)) hf H locs hP hD hS ls (lv_sub hl [1, 2, 3, 0] rfl)
  unfold f_X6_waysToWhole at hf
  refine lv_iconst (v := 0) hx hb dX6_waysToWhole_0 (by decide) ?_
  refine lv_istore_n (lv' := [(3, .int (0 : Int32)), (0, .ref k_this), (1, .int x1), (2, .int x2)]) hx hb dX6_waysToWhole_1 rfl hl (by decide) rfl (fun ls hl => ?_)
  exact w_2 FU x1 x2 (0 : Int32) v_ways hf s.heap [] hP hD hS ls (lv_sub hl [1, 2, 3, 0] rfl)
set_option maxHeartbeats 4000000 in
set_option maxRecDepth 100000 in
theorem c_X6_figuresAt (l : Launch) (g : bG) (x0 : Int32) (out : Int32) (hf : f_X6_figuresAt x0 = some out) : Ri l g yX6_figuresAt wsX6_figuresAt ({ frames := 0, cells := 0, slots := 0, locals := 0 } : Room) [.int x0] [] out := by
  refine ofR (cc := cX6_figuresAt) (nL := 2) (ret := some .int) (by decide) rfl (Nat.le_of_ble_eq_true rfl) ?_
  intro p e s m below meth c ar hC hP hG ls hl
  have hS : va_S (fun _ => False) s.heap s.heap [] := va_S.rf
  obtain ⟨hx, hb, hml, hown, hts, hr, hlk, -⟩ := hC
  have hl : lv_has ls 2 [(0, .int x0)] := hl
  have hK := hG.1
  generalize hQ : MQ below (vp_Si (fun x => x = out)) ar s 0 0 (fun _ => False) = QQ
  unfold f_X6_figuresAt at hf
  refine lv_iload_n hx hb dX6_figuresAt_0 rfl (lv_at hl 0 rfl) ?_
  refine lv_bipush (v := 9) hx hb dX6_figuresAt_1 (by decide) ?_
  refine lv_idiv hx hb dX6_figuresAt_3 (by decide) ?_
  refine lv_bipush (v := 7) hx hb dX6_figuresAt_4 (by decide) ?_
  refine lv_irem hx hb dX6_figuresAt_6 (by decide) ?_
  refine lv_bipush (v := 100) hx hb dX6_figuresAt_7 (by decide) ?_
  refine lv_imul hx hb dX6_figuresAt_9 ?_
  refine lv_iload_n hx hb dX6_figuresAt_10 rfl (lv_at hl 0 rfl) ?_
  refine lv_iconst (v := 3) hx hb dX6_figuresAt_11 (by decide) ?_
  refine lv_idiv hx hb dX6_figuresAt_12 (by decide) ?_
  refine lv_iconst (v := 3) hx hb dX6_figuresAt_13 (by decide) ?_
  refine lv_irem hx hb dX6_figuresAt_14 (by decide) ?_
  refine lv_bipush (v := 10) hx hb dX6_figuresAt_15 (by decide) ?_
  refine lv_imul hx hb dX6_figuresAt_17 ?_
  refine lv_iadd hx hb dX6_figuresAt_18 ?_
  refine lv_iload_n hx hb dX6_figuresAt_19 rfl (lv_at hl 0 rfl) ?_
  refine lv_iconst (v := 3) hx hb dX6_figuresAt_20 (by decide) ?_
  refine lv_irem hx hb dX6_figuresAt_21 (by decide) ?_
  refine lv_iadd hx hb dX6_figuresAt_22 ?_
  refine lv_istore_n (lv' := [(1, .int (((((x0 / (9 : Int32)) - (x0 / (9 : Int32)) / (7 : Int32) * (7 : Int32)) * (100 : Int32)) + (((x0 / (3 : Int32)) - (x0 / (3 : Int32)) / (3 : Int32) * (3 : Int32)) * (10 : Int32))) + (x0 - x0 / (3 : Int32) * (3 : Int32)))), (0, .int x0)]) hx hb dX6_figuresAt_23 rfl hl (by decide) rfl (fun ls hl => ?_)
  refine lv_iload_n hx hb dX6_figuresAt_24 rfl (lv_at hl 1 rfl) ?_
  refine lv_sipush (v := 252) hx hb dX6_figuresAt_25 (by decide) ?_
  refine lv_idiv hx hb dX6_figuresAt_28 (by decide) ?_
  refine lv_ldc (v := 100000) hx hb hown (hts (.constant RX6 49 (100000)) (List.mem_of_getElem? (i := 1) rfl)) dX6_figuresAt_29 ?_
  refine lv_imul hx hb dX6_figuresAt_31 ?_
  refine lv_iload_n hx hb dX6_figuresAt_32 rfl (lv_at hl 1 rfl) ?_
  refine lv_bipush (v := 126) hx hb dX6_figuresAt_33 (by decide) ?_
  refine lv_idiv hx hb dX6_figuresAt_35 (by decide) ?_
  refine lv_iconst (v := 2) hx hb dX6_figuresAt_36 (by decide) ?_
  refine lv_irem hx hb dX6_figuresAt_37 (by decide) ?_
  refine lv_sipush (v := 10000) hx hb dX6_figuresAt_38 (by decide) ?_
  refine lv_imul hx hb dX6_figuresAt_41 ?_
  refine lv_iadd hx hb dX6_figuresAt_42 ?_
  refine lv_iload_n hx hb dX6_figuresAt_43 rfl (lv_at hl 1 rfl) ?_
  refine lv_bipush (v := 63) hx hb dX6_figuresAt_44 (by decide) ?_
  refine lv_idiv hx hb dX6_figuresAt_46 (by decide) ?_
  refine lv_iconst (v := 2) hx hb dX6_figuresAt_47 (by decide) ?_
  refine lv_irem hx hb dX6_figuresAt_48 (by decide) ?_
  refine lv_sipush (v := 1000) hx hb dX6_figuresAt_49 (by decide) ?_
  refine lv_imul hx hb dX6_figuresAt_52 ?_
  refine lv_iadd hx hb dX6_figuresAt_53 ?_
  refine lv_iload_n hx hb dX6_figuresAt_54 rfl (lv_at hl 0 rfl) ?_
  refine lv_iadd hx hb dX6_figuresAt_55 ?_
  rw [← hQ, ← Option.some.inj hf]
  exact eR_i hx hb hr hlk rfl dX6_figuresAt_56
set_option maxHeartbeats 4000000 in
set_option maxRecDepth 100000 in
theorem c_X6_listBeetles (l : Launch) (g : bG) (k_this : Nat) (k_this_drawn : Nat) (k_this_next : Nat) (k_this_orders : Nat) (k_this_ways : Nat) (v_drawn : Nat → Int32) (out : (Nat → Int32)) (hf : f_X6_listBeetles v_drawn = some out) : Mv l g yX6_listBeetles wsX6_listBeetles ({ frames := 3, cells := 0, slots := 0, locals := 65 } : Room) [.ref k_this] [(k_this, .inr (4, [.ref k_this_drawn, .ref k_this_next, .ref k_this_orders, .ref k_this_ways])), (k_this_drawn, .inl (gI g, 141, .inl v_drawn))] [(k_this, .inr (4, [.ref k_this_drawn, .ref k_this_next, .ref k_this_orders, .ref k_this_ways])), (k_this_drawn, .inl (gI g, 141, .inl out))] := by
  refine ofM (Qc := fun A => Qv g [(k_this, .inr (4, [.ref k_this_drawn, .ref k_this_next, .ref k_this_orders, .ref k_this_ways])), (k_this_drawn, .inl (gI g, 141, .inl out))] A) (cc := cX6_listBeetles) (nL := 4) (ret := none) (by decide) rfl (Nat.le_of_ble_eq_true rfl) ?_
  intro p e s m below meth c ar A hC hA hP hD hG ls hl
  have hS : va_S A s.heap s.heap [] := va_S.rf
  obtain ⟨hx, hb, hml, hown, hts, hr, hlk, -⟩ := hC
  have hl : lv_has ls 4 [(0, .ref k_this)] := hl
  have hK := hG.1
  have iX6 : ∀ w ∈ u_ws RX6 TX6 4, w ∈ wsX6_listBeetles := fun w h => List.mem_cons_of_mem _ (List.mem_append_right _ (h))
  generalize hQ : MQ below (Qv g [(k_this, .inr (4, [.ref k_this_drawn, .ref k_this_next, .ref k_this_orders, .ref k_this_ways])), (k_this_drawn, .inl (gI g, 141, .inl out))] A) ar s 0 0 A = QQ
  have w_4 : ∀ n : Nat, ∀ (x1 : Int32) (x2 : Int32) (v_drawn : Nat → Int32), f_X6_listBeetles_b4 n x1 x2 v_drawn = some out → ∀ (H : Heap) (locs : List Loc), va_P (gD g) vwCl [(k_this, .inr (4, [.ref k_this_drawn, .ref k_this_next, .ref k_this_orders, .ref k_this_ways])), (k_this_drawn, .inl (gI g, 141, .inl v_drawn))] H → va_D A [(k_this, .inr (4, [.ref k_this_drawn, .ref k_this_next, .ref k_this_orders, .ref k_this_ways])), (k_this_drawn, .inl (gI g, 141, .inl v_drawn))] → va_S A s.heap H locs → ∀ ls : Array Slot, lv_has ls 4 [(0, .ref k_this), (1, .int x1), (2, .int x2)] → W p l e ({ frames := 3, cells := 0, slots := 0, locals := 65 } : Room) s m ar below meth c H locs 0 0 QQ (F0 m 4 ls []) := by
    intro n
    induction n with
    | zero =>
      intro x1 x2 v_drawn hf
      rw [f_X6_listBeetles_b4_z] at hf
      cases hf
    | succ n ih =>
      intro x1 x2 v_drawn hf H locs hP hD hS ls hl
      rw [f_X6_listBeetles_b4_s] at hf
      refine lv_iload_n hx hb dX6_listBeetles_4 rfl (lv_at hl 2 rfl) ?_
      refine lv_sipush (v := 504) hx hb dX6_listBeetles_5 (by decide) ?_
      refine lv_icmp_ge (tgt := 46) hx hb dX6_listBeetles_8 (by decide) (fun c1 => ?_) (fun c1 => ?_)
      · replace hf := ift c1 hf
        rw [← hQ, ← Option.some.inj hf]
        exact eM_v hx hb hr hlk hP hD hS dX6_listBeetles_46
      · replace hf := iff_ c1 hf
        refine lv_iload_n hx hb dX6_listBeetles_11 rfl (lv_at hl 1 rfl) ?_
        refine lv_sipush (v := 141) hx hb dX6_listBeetles_12 (by decide) ?_
        refine lv_icmp_ge (tgt := 46) hx hb dX6_listBeetles_15 (by decide) (fun c2 => ?_) (fun c2 => ?_)
        · replace hf := ift c2 hf
          rw [← hQ, ← Option.some.inj hf]
          exact eM_v hx hb hr hlk hP hD hS dX6_listBeetles_46
        · replace hf := iff_ c2 hf
          refine lv_iload_n hx hb dX6_listBeetles_18 rfl (lv_at hl 2 rfl) ?_
          obtain ⟨z3, hq4, hf⟩ := bnd_some hf
          refine kR_i (va_runS (As := [.int x2]) (rest := []) ⟨hx, hb, hml, hown, hts⟩ (c_X6_figuresAt l g x2 z3 hq4) (va_cwS 1 hts gX6_listBeetles_X6_figuresAt rfl rfl rfl (by decide +kernel) ⟨Nat.le_of_ble_eq_true rfl, Nat.le_of_ble_eq_true rfl⟩) (kpS_R (hG.now hS) (hP.subm (ws' := []) [] rfl)) rfl rfl hl.1 rfl (lv_room (Nat.le_of_ble_eq_true rfl)) dX6_listBeetles_19 ⟨Nat.le_of_ble_eq_true rfl, Nat.le_of_ble_eq_true rfl⟩) ?_
          refine lv_istore_n (lv' := [(3, .int z3), (0, .ref k_this), (1, .int x1), (2, .int x2)]) hx hb dX6_listBeetles_22 rfl hl (by decide) rfl (fun ls hl => ?_)
          refine lv_iload_n hx hb dX6_listBeetles_23 rfl (lv_at hl 0 rfl) ?_
          obtain ⟨z5, hq6, hf⟩ := bnd_some hf
          refine kR_i (va_runS (As := [.int z3]) (rest := []) ⟨hx, hb, hml, hown, hts⟩ (c_X0_canBe l g z3 z5 hq6) (va_cwS 1 hts gX6_listBeetles_X0_canBe rfl rfl rfl (by decide +kernel) ⟨Nat.le_of_ble_eq_true rfl, Nat.le_of_ble_eq_true rfl⟩) (kpS_R (hG.now hS) (hP.subm (ws' := []) [] rfl)) rfl rfl hl.1 rfl (lv_room (Nat.le_of_ble_eq_true rfl)) dX6_listBeetles_24 ⟨Nat.le_of_ble_eq_true rfl, Nat.le_of_ble_eq_true rfl⟩) ?_
          refine lv_if_eq (tgt := 40) hx hb dX6_listBeetles_27 (by decide) (fun c7 => ?_) (fun c7 => ?_)
          · replace hf := ift c7 hf
            refine lv_iinc (v := (x2 + 1)) (lv' := [(2, .int (x2 + 1)), (3, .int z3), (0, .ref k_this), (1, .int x1)]) hx hb dX6_listBeetles_40 hl (k := 3) rfl rfl (by decide) rfl (fun ls hl => ?_)
            refine lv_goto (tgt := 4) hx hb dX6_listBeetles_43 (by decide) ?_
            exact ih x1 (x2 + 1) v_drawn hf H locs hP hD hS ls (lv_sub hl [2, 3, 0] rfl)
          · replace hf := iff_ c7 hf
            refine lv_aload_n hx hb dX6_listBeetles_30 rfl (lv_at hl 1 rfl) ?_
            refine va_get (D := gD g) (ci := 4) (v := .ref k_this_drawn) (C := RX6) (T := TX6) (N := 4) hx hb hts iX6 hown hK hP 0 rfl rfl 0 (by decide) (hts (.fieldLink RX6 11 "BeetleDrive$Sheets" "drawn" "[I") (List.mem_of_getElem? (i := 1) rfl)) (fun _ h9 => h9) rfl dX6_listBeetles_31 ?_
            refine lv_iload_n hx hb dX6_listBeetles_34 rfl (lv_at hl 2 rfl) ?_
            refine lv_iload_n hx hb dX6_listBeetles_35 rfl (lv_at hl 0 rfl) ?_
            obtain ⟨hi8, hf⟩ := chk_some hf
            refine va_iast hx hb hK hP hD hS 1 0 rfl rfl hi8 dX6_listBeetles_36 (fun H locs hP hD hS => ?_)
            have hP : va_P (gD g) vwCl [(k_this, .inr (4, [.ref k_this_drawn, .ref k_this_next, .ref k_this_orders, .ref k_this_ways])), (k_this_drawn, .inl (gI g, 141, .inl (upd v_drawn (Int32.toNatClampNeg x1) z3)))] H := hP
            have hD : va_D A [(k_this, .inr (4, [.ref k_this_drawn, .ref k_this_next, .ref k_this_orders, .ref k_this_ways])), (k_this_drawn, .inl (gI g, 141, .inl (upd v_drawn (Int32.toNatClampNeg x1) z3)))] := hD
            refine lv_iinc (v := (x1 + 1)) (lv' := [(1, .int (x1 + 1)), (3, .int z3), (0, .ref k_this), (2, .int x2)]) hx hb dX6_listBeetles_37 hl (k := 2) rfl rfl (by decide) rfl (fun ls hl => ?_)
            refine lv_iinc (v := (x2 + 1)) (lv' := [(2, .int (x2 + 1)), (1, .int (x1 + 1)), (3, .int z3), (0, .ref k_this)]) hx hb dX6_listBeetles_40 hl (k := 3) rfl rfl (by decide) rfl (fun ls hl => ?_)
            refine lv_goto (tgt := 4) hx hb dX6_listBeetles_43 (by decide) ?_
            exact ih (x1 + 1) (x2 + 1) (upd v_drawn (Int32.toNatClampNeg x1) z3) hf H locs hP hD hS ls (lv_sub hl [3, 1, 0] rfl)
  unfold f_X6_listBeetles at hf
  refine lv_iconst (v := 0) hx hb dX6_listBeetles_0 (by decide) ?_
  refine lv_istore_n (lv' := [(1, .int (0 : Int32)), (0, .ref k_this)]) hx hb dX6_listBeetles_1 rfl hl (by decide) rfl (fun ls hl => ?_)
  refine lv_iconst (v := 0) hx hb dX6_listBeetles_2 (by decide) ?_
  refine lv_istore_n (lv' := [(2, .int (0 : Int32)), (1, .int (0 : Int32)), (0, .ref k_this)]) hx hb dX6_listBeetles_3 rfl hl (by decide) rfl (fun ls hl => ?_)
  exact w_4 FU (0 : Int32) (0 : Int32) v_drawn hf s.heap [] hP hD hS ls (lv_sub hl [2, 1, 0] rfl)
set_option maxHeartbeats 4000000 in
set_option maxRecDepth 100000 in
theorem c_X6_linkAndCount (l : Launch) (g : bG) (k_this : Nat) (k_this_drawn : Nat) (k_this_next : Nat) (k_this_orders : Nat) (k_this_ways : Nat) (v_drawn : Nat → Int32) (v_next : Nat → Int32) (v_orders : Nat → Int32) (x1 : Int32) (out : (Nat → Int32) × (Nat → Int32)) (hf : f_X6_linkAndCount v_drawn v_next v_orders x1 = some out) : Mv l g yX6_linkAndCount wsX6_linkAndCount ({ frames := 3, cells := 0, slots := 0, locals := 64 } : Room) [.ref k_this, .int x1] [(k_this, .inr (4, [.ref k_this_drawn, .ref k_this_next, .ref k_this_orders, .ref k_this_ways])), (k_this_drawn, .inl (gI g, 141, .inl v_drawn)), (k_this_next, .inl (gI g, 846, .inl v_next)), (k_this_orders, .inl (gI g, 141, .inl v_orders))] [(k_this, .inr (4, [.ref k_this_drawn, .ref k_this_next, .ref k_this_orders, .ref k_this_ways])), (k_this_drawn, .inl (gI g, 141, .inl v_drawn)), (k_this_next, .inl (gI g, 846, .inl out.1)), (k_this_orders, .inl (gI g, 141, .inl out.2))] := by
  refine ofM (Qc := fun A => Qv g [(k_this, .inr (4, [.ref k_this_drawn, .ref k_this_next, .ref k_this_orders, .ref k_this_ways])), (k_this_drawn, .inl (gI g, 141, .inl v_drawn)), (k_this_next, .inl (gI g, 846, .inl out.1)), (k_this_orders, .inl (gI g, 141, .inl out.2))] A) (cc := cX6_linkAndCount) (nL := 6) (ret := none) (by decide) rfl (Nat.le_of_ble_eq_true rfl) ?_
  intro p e s m below meth c ar A hC hA hP hD hG ls hl
  have hS : va_S A s.heap s.heap [] := va_S.rf
  obtain ⟨hx, hb, hml, hown, hts, hr, hlk, -⟩ := hC
  have hl : lv_has ls 6 [(0, .ref k_this), (1, .int x1)] := hl
  have hK := hG.1
  have iX6 : ∀ w ∈ u_ws RX6 TX6 4, w ∈ wsX6_linkAndCount := fun w h => List.mem_cons_of_mem _ (List.mem_append_right _ (h))
  generalize hQ : MQ below (Qv g [(k_this, .inr (4, [.ref k_this_drawn, .ref k_this_next, .ref k_this_orders, .ref k_this_ways])), (k_this_drawn, .inl (gI g, 141, .inl v_drawn)), (k_this_next, .inl (gI g, 846, .inl out.1)), (k_this_orders, .inl (gI g, 141, .inl out.2))] A) ar s 0 0 A = QQ
  have w_39 : ∀ (k4 : Int32 → Int32 → Int32 → (Nat → Int32) → (Nat → Int32) → Option ((Nat → Int32) × (Nat → Int32))), (∀ (x1 : Int32) (x2 : Int32) (x3 : Int32) (v_next : Nat → Int32) (v_orders : Nat → Int32), k4 x1 x2 x3 v_next v_orders = some out → ∀ (H : Heap) (locs : List Loc), va_P (gD g) vwCl [(k_this, .inr (4, [.ref k_this_drawn, .ref k_this_next, .ref k_this_orders, .ref k_this_ways])), (k_this_drawn, .inl (gI g, 141, .inl v_drawn)), (k_this_next, .inl (gI g, 846, .inl v_next)), (k_this_orders, .inl (gI g, 141, .inl v_orders))] H → va_D A [(k_this, .inr (4, [.ref k_this_drawn, .ref k_this_next, .ref k_this_orders, .ref k_this_ways])), (k_this_drawn, .inl (gI g, 141, .inl v_drawn)), (k_this_next, .inl (gI g, 846, .inl v_next)), (k_this_orders, .inl (gI g, 141, .inl v_orders))] → va_S A s.heap H locs → ∀ ls : Array Slot, lv_has ls 6 [(0, .ref k_this), (1, .int x1), (2, .int x2), (3, .int x3)] → W p l e ({ frames := 3, cells := 0, slots := 0, locals := 64 } : Room) s m ar below meth c H locs 0 0 QQ (F0 m 4 ls [])) → ∀ (y0 : Int32) (x1 : Int32) (x2 : Int32) (x3 : Int32) (v_next : Nat → Int32) (v_orders : Nat → Int32), f_X6_linkAndCount_b39 v_drawn k4 y0 x1 x2 x3 v_next v_orders = some out → ∀ (H : Heap) (locs : List Loc), va_P (gD g) vwCl [(k_this, .inr (4, [.ref k_this_drawn, .ref k_this_next, .ref k_this_orders, .ref k_this_ways])), (k_this_drawn, .inl (gI g, 141, .inl v_drawn)), (k_this_next, .inl (gI g, 846, .inl v_next)), (k_this_orders, .inl (gI g, 141, .inl v_orders))] H → va_D A [(k_this, .inr (4, [.ref k_this_drawn, .ref k_this_next, .ref k_this_orders, .ref k_this_ways])), (k_this_drawn, .inl (gI g, 141, .inl v_drawn)), (k_this_next, .inl (gI g, 846, .inl v_next)), (k_this_orders, .inl (gI g, 141, .inl v_orders))] → va_S A s.heap H locs → ∀ ls : Array Slot, lv_has ls 6 [(0, .ref k_this), (1, .int x1), (2, .int x2), (3, .int x3)] → W p l e ({ frames := 3, cells := 0, slots := 0, locals := 64 } : Room) s m ar below meth c H locs 0 0 QQ (F0 m 39 ls [.int y0]) := by
    intro k4 hk4 y0 x1 x2 x3 v_next v_orders hf H locs hP hD hS ls hl
    unfold f_X6_linkAndCount_b39 at hf
    refine lv_istore (lv' := [(5, .int y0), (0, .ref k_this), (1, .int x1), (2, .int x2), (3, .int x3)]) hx hb dX6_linkAndCount_39 hl (by decide) rfl (fun ls hl => ?_)
    refine lv_aload_n hx hb dX6_linkAndCount_41 rfl (lv_at hl 1 rfl) ?_
    refine va_get (D := gD g) (ci := 4) (v := .ref k_this_next) (C := RX6) (T := TX6) (N := 4) hx hb hts iX6 hown hK hP 0 rfl rfl 1 (by decide) (hts (.fieldLink RX6 15 "BeetleDrive$Sheets" "next" "[I") (List.mem_of_getElem? (i := 2) rfl)) (fun _ h9 => h9) rfl dX6_linkAndCount_42 ?_
    refine lv_iload_n hx hb dX6_linkAndCount_45 rfl (lv_at hl 2 rfl) ?_
    refine lv_bipush (v := 6) hx hb dX6_linkAndCount_46 (by decide) ?_
    refine lv_imul hx hb dX6_linkAndCount_48 ?_
    refine lv_iload_n hx hb dX6_linkAndCount_49 rfl (lv_at hl 4 rfl) ?_
    refine lv_iadd hx hb dX6_linkAndCount_50 ?_
    refine lv_iconst (v := 1) hx hb dX6_linkAndCount_51 (by decide) ?_
    refine lv_isub hx hb dX6_linkAndCount_52 ?_
    refine lv_iload hx hb dX6_linkAndCount_53 (lv_at hl 0 rfl) ?_
    obtain ⟨hi12, hf⟩ := chk_some hf
    refine va_iast hx hb hK hP hD hS 2 0 rfl rfl hi12 dX6_linkAndCount_55 (fun H locs hP hD hS => ?_)
    have hP : va_P (gD g) vwCl [(k_this, .inr (4, [.ref k_this_drawn, .ref k_this_next, .ref k_this_orders, .ref k_this_ways])), (k_this_drawn, .inl (gI g, 141, .inl v_drawn)), (k_this_next, .inl (gI g, 846, .inl (upd v_next (Int32.toNatClampNeg (((x1 * (6 : Int32)) + x3) - (1 : Int32))) y0))), (k_this_orders, .inl (gI g, 141, .inl v_orders))] H := hP
    have hD : va_D A [(k_this, .inr (4, [.ref k_this_drawn, .ref k_this_next, .ref k_this_orders, .ref k_this_ways])), (k_this_drawn, .inl (gI g, 141, .inl v_drawn)), (k_this_next, .inl (gI g, 846, .inl (upd v_next (Int32.toNatClampNeg (((x1 * (6 : Int32)) + x3) - (1 : Int32))) y0))), (k_this_orders, .inl (gI g, 141, .inl v_orders))] := hD
    refine lv_iload_n hx hb dX6_linkAndCount_56 rfl (lv_at hl 3 rfl) ?_
    refine lv_iload hx hb dX6_linkAndCount_57 (lv_at hl 0 rfl) ?_
    refine lv_iload_n hx hb dX6_linkAndCount_59 rfl (lv_at hl 2 rfl) ?_
    refine lv_icmp_ne (tgt := 67) hx hb dX6_linkAndCount_60 (by decide) (fun c13 => ?_) (fun c13 => ?_)
    · replace hf := iff_ c13 hf
      refine lv_aload_n hx hb dX6_linkAndCount_67 rfl (lv_at hl 1 rfl) ?_
      refine va_get (D := gD g) (ci := 4) (v := .ref k_this_orders) (C := RX6) (T := TX6) (N := 4) hx hb hts iX6 hown hK hP 0 rfl rfl 2 (by decide) (hts (.fieldLink RX6 18 "BeetleDrive$Sheets" "orders" "[I") (List.mem_of_getElem? (i := 3) rfl)) (fun _ h9 => h9) rfl dX6_linkAndCount_68 ?_
      refine lv_iload hx hb dX6_linkAndCount_71 (lv_at hl 0 rfl) ?_
      obtain ⟨hi14, hf⟩ := chk_some hf
      refine va_iald hx hb hK hP 3 0 rfl rfl hi14 dX6_linkAndCount_73 ?_
      refine lv_iadd hx hb dX6_linkAndCount_74 ?_
      refine lv_istore_n (lv' := [(2, .int (x2 + (v_orders (Int32.toNatClampNeg y0)))), (5, .int y0), (0, .ref k_this), (1, .int x1), (3, .int x3)]) hx hb dX6_linkAndCount_75 rfl hl (by decide) rfl (fun ls hl => ?_)
      refine lv_iinc (v := (x3 + 1)) (lv' := [(3, .int (x3 + 1)), (2, .int (x2 + (v_orders (Int32.toNatClampNeg y0)))), (5, .int y0), (0, .ref k_this), (1, .int x1)]) hx hb dX6_linkAndCount_76 hl (k := 4) rfl rfl (by decide) rfl (fun ls hl => ?_)
      refine lv_goto (tgt := 4) hx hb dX6_linkAndCount_79 (by decide) ?_
      exact hk4 x1 (x2 + (v_orders (Int32.toNatClampNeg y0))) (x3 + 1) (upd v_next (Int32.toNatClampNeg (((x1 * (6 : Int32)) + x3) - (1 : Int32))) y0) v_orders hf H locs hP hD hS ls (lv_sub hl [3, 4, 1, 0] rfl)
    · replace hf := ift c13 hf
      refine lv_iconst (v := 0) hx hb dX6_linkAndCount_63 (by decide) ?_
      refine lv_goto (tgt := 74) hx hb dX6_linkAndCount_64 (by decide) ?_
      refine lv_iadd hx hb dX6_linkAndCount_74 ?_
      refine lv_istore_n (lv' := [(2, .int (x2 + (0 : Int32))), (5, .int y0), (0, .ref k_this), (1, .int x1), (3, .int x3)]) hx hb dX6_linkAndCount_75 rfl hl (by decide) rfl (fun ls hl => ?_)
      refine lv_iinc (v := (x3 + 1)) (lv' := [(3, .int (x3 + 1)), (2, .int (x2 + (0 : Int32))), (5, .int y0), (0, .ref k_this), (1, .int x1)]) hx hb dX6_linkAndCount_76 hl (k := 4) rfl rfl (by decide) rfl (fun ls hl => ?_)
      refine lv_goto (tgt := 4) hx hb dX6_linkAndCount_79 (by decide) ?_
      exact hk4 x1 (x2 + (0 : Int32)) (x3 + 1) (upd v_next (Int32.toNatClampNeg (((x1 * (6 : Int32)) + x3) - (1 : Int32))) y0) v_orders hf H locs hP hD hS ls (lv_sub hl [3, 4, 1, 0] rfl)
  have w_4 : ∀ n : Nat, ∀ (x1 : Int32) (x2 : Int32) (x3 : Int32) (v_next : Nat → Int32) (v_orders : Nat → Int32), f_X6_linkAndCount_b4 v_drawn n x1 x2 x3 v_next v_orders = some out → ∀ (H : Heap) (locs : List Loc), va_P (gD g) vwCl [(k_this, .inr (4, [.ref k_this_drawn, .ref k_this_next, .ref k_this_orders, .ref k_this_ways])), (k_this_drawn, .inl (gI g, 141, .inl v_drawn)), (k_this_next, .inl (gI g, 846, .inl v_next)), (k_this_orders, .inl (gI g, 141, .inl v_orders))] H → va_D A [(k_this, .inr (4, [.ref k_this_drawn, .ref k_this_next, .ref k_this_orders, .ref k_this_ways])), (k_this_drawn, .inl (gI g, 141, .inl v_drawn)), (k_this_next, .inl (gI g, 846, .inl v_next)), (k_this_orders, .inl (gI g, 141, .inl v_orders))] → va_S A s.heap H locs → ∀ ls : Array Slot, lv_has ls 6 [(0, .ref k_this), (1, .int x1), (2, .int x2), (3, .int x3)] → W p l e ({ frames := 3, cells := 0, slots := 0, locals := 64 } : Room) s m ar below meth c H locs 0 0 QQ (F0 m 4 ls []) := by
    intro n
    induction n with
    | zero =>
      intro x1 x2 x3 v_next v_orders hf
      rw [f_X6_linkAndCount_b4_z] at hf
      cases hf
    | succ n ih =>
      intro x1 x2 x3 v_next v_orders hf H locs hP hD hS ls hl
      rw [f_X6_linkAndCount_b4_s] at hf
      refine lv_iload_n hx hb dX6_linkAndCount_4 rfl (lv_at hl 3 rfl) ?_
      refine lv_bipush (v := 6) hx hb dX6_linkAndCount_5 (by decide) ?_
      refine lv_icmp_gt (tgt := 82) hx hb dX6_linkAndCount_7 (by decide) (fun c1 => ?_) (fun c1 => ?_)
      · replace hf := ift c1 hf
        refine lv_aload_n hx hb dX6_linkAndCount_82 rfl (lv_at hl 0 rfl) ?_
        refine va_get (D := gD g) (ci := 4) (v := .ref k_this_orders) (C := RX6) (T := TX6) (N := 4) hx hb hts iX6 hown hK hP 0 rfl rfl 2 (by decide) (hts (.fieldLink RX6 18 "BeetleDrive$Sheets" "orders" "[I") (List.mem_of_getElem? (i := 3) rfl)) (fun _ h9 => h9) rfl dX6_linkAndCount_83 ?_
        refine lv_iload_n hx hb dX6_linkAndCount_86 rfl (lv_at hl 1 rfl) ?_
        refine lv_aload_n hx hb dX6_linkAndCount_87 rfl (lv_at hl 0 rfl) ?_
        refine va_get (D := gD g) (ci := 4) (v := .ref k_this_drawn) (C := RX6) (T := TX6) (N := 4) hx hb hts iX6 hown hK hP 0 rfl rfl 0 (by decide) (hts (.fieldLink RX6 11 "BeetleDrive$Sheets" "drawn" "[I") (List.mem_of_getElem? (i := 1) rfl)) (fun _ h9 => h9) rfl dX6_linkAndCount_88 ?_
        refine lv_iload_n hx hb dX6_linkAndCount_91 rfl (lv_at hl 1 rfl) ?_
        obtain ⟨hi2, hf⟩ := chk_some hf
        refine va_iald hx hb hK hP 1 0 rfl rfl hi2 dX6_linkAndCount_92 ?_
        refine lv_ldc (v := 111622) hx hb hown (hts (.constant RX6 56 (111622)) (List.mem_of_getElem? (i := 4) rfl)) dX6_linkAndCount_93 ?_
        refine lv_icmp_ne (tgt := 102) hx hb dX6_linkAndCount_95 (by decide) (fun c3 => ?_) (fun c3 => ?_)
        · replace hf := iff_ c3 hf
          refine lv_iload_n hx hb dX6_linkAndCount_102 rfl (lv_at hl 2 rfl) ?_
          obtain ⟨hi4, hf⟩ := chk_some hf
          refine va_iast hx hb hK hP hD hS 3 0 rfl rfl hi4 dX6_linkAndCount_103 (fun H locs hP hD hS => ?_)
          have hP : va_P (gD g) vwCl [(k_this, .inr (4, [.ref k_this_drawn, .ref k_this_next, .ref k_this_orders, .ref k_this_ways])), (k_this_drawn, .inl (gI g, 141, .inl v_drawn)), (k_this_next, .inl (gI g, 846, .inl v_next)), (k_this_orders, .inl (gI g, 141, .inl (upd v_orders (Int32.toNatClampNeg x1) x2)))] H := hP
          have hD : va_D A [(k_this, .inr (4, [.ref k_this_drawn, .ref k_this_next, .ref k_this_orders, .ref k_this_ways])), (k_this_drawn, .inl (gI g, 141, .inl v_drawn)), (k_this_next, .inl (gI g, 846, .inl v_next)), (k_this_orders, .inl (gI g, 141, .inl (upd v_orders (Int32.toNatClampNeg x1) x2)))] := hD
          rw [← hQ, ← Option.some.inj hf]
          exact eM_v hx hb hr hlk hP hD hS dX6_linkAndCount_104
        · replace hf := ift c3 hf
          refine lv_iconst (v := 1) hx hb dX6_linkAndCount_98 (by decide) ?_
          refine lv_goto (tgt := 103) hx hb dX6_linkAndCount_99 (by decide) ?_
          obtain ⟨hi5, hf⟩ := chk_some hf
          refine va_iast hx hb hK hP hD hS 3 0 rfl rfl hi5 dX6_linkAndCount_103 (fun H locs hP hD hS => ?_)
          have hP : va_P (gD g) vwCl [(k_this, .inr (4, [.ref k_this_drawn, .ref k_this_next, .ref k_this_orders, .ref k_this_ways])), (k_this_drawn, .inl (gI g, 141, .inl v_drawn)), (k_this_next, .inl (gI g, 846, .inl v_next)), (k_this_orders, .inl (gI g, 141, .inl (upd v_orders (Int32.toNatClampNeg x1) (1 : Int32))))] H := hP
          have hD : va_D A [(k_this, .inr (4, [.ref k_this_drawn, .ref k_this_next, .ref k_this_orders, .ref k_this_ways])), (k_this_drawn, .inl (gI g, 141, .inl v_drawn)), (k_this_next, .inl (gI g, 846, .inl v_next)), (k_this_orders, .inl (gI g, 141, .inl (upd v_orders (Int32.toNatClampNeg x1) (1 : Int32))))] := hD
          rw [← hQ, ← Option.some.inj hf]
          exact eM_v hx hb hr hlk hP hD hS dX6_linkAndCount_104
      · replace hf := iff_ c1 hf
        refine lv_aload_n hx hb dX6_linkAndCount_10 rfl (lv_at hl 0 rfl) ?_
        refine lv_aload_n hx hb dX6_linkAndCount_11 rfl (lv_at hl 0 rfl) ?_
        refine va_get (D := gD g) (ci := 4) (v := .ref k_this_drawn) (C := RX6) (T := TX6) (N := 4) hx hb hts iX6 hown hK hP 0 rfl rfl 0 (by decide) (hts (.fieldLink RX6 11 "BeetleDrive$Sheets" "drawn" "[I") (List.mem_of_getElem? (i := 1) rfl)) (fun _ h9 => h9) rfl dX6_linkAndCount_12 ?_
        refine lv_iload_n hx hb dX6_linkAndCount_15 rfl (lv_at hl 1 rfl) ?_
        obtain ⟨hi6, hf⟩ := chk_some hf
        refine va_iald hx hb hK hP 1 0 rfl rfl hi6 dX6_linkAndCount_16 ?_
        refine lv_iload_n hx hb dX6_linkAndCount_17 rfl (lv_at hl 3 rfl) ?_
        obtain ⟨z7, hq8, hf⟩ := bnd_some hf
        refine kR_i (va_runS (As := [.int (v_drawn (Int32.toNatClampNeg x1)), .int x3]) (rest := [.ref k_this]) ⟨hx, hb, hml, hown, hts⟩ (c_X0_draw l g (v_drawn (Int32.toNatClampNeg x1)) x3 z7 hq8) (va_cwS 2 hts gX6_linkAndCount_X0_draw rfl rfl rfl (by decide +kernel) ⟨Nat.le_of_ble_eq_true rfl, Nat.le_of_ble_eq_true rfl⟩) (kpS_R (hG.now hS) (hP.subm (ws' := []) [] rfl)) rfl rfl hl.1 rfl (lv_room (Nat.le_of_ble_eq_true rfl)) dX6_linkAndCount_18 ⟨Nat.le_of_ble_eq_true rfl, Nat.le_of_ble_eq_true rfl⟩) ?_
        obtain ⟨z9, hq10, hf⟩ := bnd_some hf
        refine kR_i (va_runV (As := [.int z7]) (rest := []) ⟨hx, hb, hml, hown, hts⟩ (c_X6_find l g k_this k_this_drawn k_this_next k_this_orders k_this_ways v_drawn z7 z9 hq10) (cwV 1 hts gX6_linkAndCount_X6_find rfl rfl rfl (by decide +kernel) ⟨Nat.le_of_ble_eq_true rfl, Nat.le_of_ble_eq_true rfl⟩) (kpV_R (q0 := 0) (ci := 4) (hG.now hS) (hP.subm (ws' := [(k_this, .inr (4, [.ref k_this_drawn, .ref k_this_next, .ref k_this_orders, .ref k_this_ways])), (k_this_drawn, .inl (gI g, 141, .inl v_drawn))]) [0, 1] rfl) rfl rfl) rfl rfl hl.1 rfl (lv_room (Nat.le_of_ble_eq_true rfl)) dX6_linkAndCount_21 ⟨Nat.le_of_ble_eq_true rfl, Nat.le_of_ble_eq_true rfl⟩) ?_
        refine lv_istore (lv' := [(4, .int z9), (0, .ref k_this), (1, .int x1), (2, .int x2), (3, .int x3)]) hx hb dX6_linkAndCount_24 hl (by decide) rfl (fun ls hl => ?_)
        refine lv_iload hx hb dX6_linkAndCount_26 (lv_at hl 0 rfl) ?_
        refine lv_bipush (v := -6) hx hb dX6_linkAndCount_28 (by decide) ?_
        refine lv_icmp_ne (tgt := 37) hx hb dX6_linkAndCount_30 (by decide) (fun c11 => ?_) (fun c11 => ?_)
        · replace hf := iff_ c11 hf
          refine lv_iload hx hb dX6_linkAndCount_37 (lv_at hl 0 rfl) ?_
          exact w_39 (f_X6_linkAndCount_b4 v_drawn n) ih z9 x1 x2 x3 v_next v_orders hf H locs hP hD hS ls (lv_sub hl [1, 2, 3, 4] rfl)
        · replace hf := ift c11 hf
          refine lv_iload_n hx hb dX6_linkAndCount_33 rfl (lv_at hl 2 rfl) ?_
          refine lv_goto (tgt := 39) hx hb dX6_linkAndCount_34 (by decide) ?_
          exact w_39 (f_X6_linkAndCount_b4 v_drawn n) ih x1 x1 x2 x3 v_next v_orders hf H locs hP hD hS ls (lv_sub hl [1, 2, 3, 4] rfl)
  unfold f_X6_linkAndCount at hf
  refine lv_iconst (v := 0) hx hb dX6_linkAndCount_0 (by decide) ?_
  refine lv_istore_n (lv' := [(2, .int (0 : Int32)), (0, .ref k_this), (1, .int x1)]) hx hb dX6_linkAndCount_1 rfl hl (by decide) rfl (fun ls hl => ?_)
  refine lv_iconst (v := 1) hx hb dX6_linkAndCount_2 (by decide) ?_
  refine lv_istore_n (lv' := [(3, .int (1 : Int32)), (2, .int (0 : Int32)), (0, .ref k_this), (1, .int x1)]) hx hb dX6_linkAndCount_3 rfl hl (by decide) rfl (fun ls hl => ?_)
  exact w_4 FU x1 (0 : Int32) (1 : Int32) v_next v_orders hf s.heap [] hP hD hS ls (lv_sub hl [2, 3, 1, 0] rfl)
