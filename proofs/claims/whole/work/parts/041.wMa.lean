/-! ===== walks, by program ===== -/
set_option maxHeartbeats 4000000 in
set_option maxRecDepth 100000 in
theorem c_X12_in (l : Launch) (g : bG) (x0 : Int64) (x2 : Int64) (x4 : Int64) (out : Int32) (hf : f_X12_in x0 x2 x4 = some out) : Ri l g yX12_in wsX12_in ({ frames := 0, cells := 0, slots := 0, locals := 0 } : Room) [.long x0, .long x2, .long x4] [] out := by
  refine ofR (cc := cX12_in) (nL := 6) (ret := some .boolean) (by decide) rfl (Nat.le_of_ble_eq_true rfl) ?_
  intro p e s m below meth c ar hC hP hG ls hl
  have hS : va_S (fun _ => False) s.heap s.heap [] := va_S.rf
  obtain ⟨hx, hb, hml, hown, hts, hr, hlk, -⟩ := hC
  have hl : lv_has ls 6 [(0, .long x0), (2, .long x2), (4, .long x4)] := hl
  have hK := hG.1
  generalize hQ : MQ below (vp_Si (fun x => x = out)) ar s 0 0 (fun _ => False) = QQ
  unfold f_X12_in at hf
  refine lv_lload_n hx hb dX12_in_0 rfl (lv_at hl 0 rfl) ?_
  refine lv_lload_n hx hb dX12_in_1 rfl (lv_at hl 1 rfl) ?_
  refine W.lcmp hx hb dX12_in_2 ?_
  refine lv_if_lt (tgt := 17) hx hb dX12_in_3 (by decide) (fun c1 => ?_) (fun c1 => ?_)
  · replace hf := ift c1 hf
    refine lv_iconst (v := 0) hx hb dX12_in_17 (by decide) ?_
    rw [← hQ, ← Option.some.inj hf]
    exact eR_z hx hb hr hlk nb0 rfl dX12_in_18
  · replace hf := iff_ c1 hf
    refine lv_lload_n hx hb dX12_in_6 rfl (lv_at hl 0 rfl) ?_
    refine lv_lload hx hb dX12_in_7 (lv_at hl 2 rfl) ?_
    refine W.lcmp hx hb dX12_in_9 ?_
    refine lv_if_gt (tgt := 17) hx hb dX12_in_10 (by decide) (fun c2 => ?_) (fun c2 => ?_)
    · replace hf := ift c2 hf
      refine lv_iconst (v := 0) hx hb dX12_in_17 (by decide) ?_
      rw [← hQ, ← Option.some.inj hf]
      exact eR_z hx hb hr hlk nb0 rfl dX12_in_18
    · replace hf := iff_ c2 hf
      refine lv_iconst (v := 1) hx hb dX12_in_13 (by decide) ?_
      refine lv_goto (tgt := 18) hx hb dX12_in_14 (by decide) ?_
      rw [← hQ, ← Option.some.inj hf]
      exact eR_z hx hb hr hlk nb1 rfl dX12_in_18
set_option maxHeartbeats 4000000 in
set_option maxRecDepth 100000 in
theorem c_X12_isPlayer (l : Launch) (g : bG) (x0 : Int32) (out : Int32) (hf : f_X12_isPlayer x0 = some out) : Ri l g yX12_isPlayer wsX12_isPlayer ({ frames := 1, cells := 0, slots := 0, locals := 25 } : Room) [.int x0] [] out := by
  refine ofR (cc := cX12_isPlayer) (nL := 1) (ret := some .boolean) (by decide) rfl (Nat.le_of_ble_eq_true rfl) ?_
  intro p e s m below meth c ar hC hP hG ls hl
  have hS : va_S (fun _ => False) s.heap s.heap [] := va_S.rf
  obtain ⟨hx, hb, hml, hown, hts, hr, hlk, -⟩ := hC
  have hl : lv_has ls 1 [(0, .int x0)] := hl
  have hK := hG.1
  generalize hQ : MQ below (vp_Si (fun x => x = out)) ar s 0 0 (fun _ => False) = QQ
  unfold f_X12_isPlayer at hf
  refine lv_iload_n hx hb dX12_isPlayer_0 rfl (lv_at hl 0 rfl) ?_
  refine lv_i2l (v := (Int32.toInt64 x0)) hx hb dX12_isPlayer_1 rfl ?_
  refine lv_lconst (v := 0) hx hb dX12_isPlayer_2 (by decide) ?_
  refine lv_ldc2 (v := 5) hx hb hown (hts (.constantLong RX12 63 (5)) (List.mem_of_getElem? (i := 1) rfl)) dX12_isPlayer_3 ?_
  obtain ⟨z1, hq2, hf⟩ := bnd_some hf
  refine kR_i (va_runS (As := [.long (Int32.toInt64 x0), .long (0 : Int64), .long (5 : Int64)]) (rest := []) ⟨hx, hb, hml, hown, hts⟩ (c_X12_in l g (Int32.toInt64 x0) (0 : Int64) (5 : Int64) z1 hq2) (va_cwS 3 hts gX12_isPlayer_X12_in rfl rfl rfl (by decide +kernel) ⟨Nat.le_of_ble_eq_true rfl, Nat.le_of_ble_eq_true rfl⟩) (kpS_R hG (hP.subm (ws' := []) [] rfl)) rfl rfl hl.1 rfl (lv_room (Nat.le_of_ble_eq_true rfl)) dX12_isPlayer_6 ⟨Nat.le_of_ble_eq_true rfl, Nat.le_of_ble_eq_true rfl⟩) ?_
  obtain ⟨hz3, hf⟩ := bz_some hf
  rw [← hQ, ← Option.some.inj hf]
  exact eR_z hx hb hr hlk hz3 rfl dX12_isPlayer_9
set_option maxHeartbeats 4000000 in
set_option maxRecDepth 100000 in
theorem c_X12_less (l : Launch) (g : bG) (x0 : Int32) (x1 : Int32) (out : Int32) (hf : f_X12_less x0 x1 = some out) : Ri l g yX12_less wsX12_less ({ frames := 0, cells := 0, slots := 0, locals := 0 } : Room) [.int x0, .int x1] [] out := by
  refine ofR (cc := cX12_less) (nL := 2) (ret := some .int) (by decide) rfl (Nat.le_of_ble_eq_true rfl) ?_
  intro p e s m below meth c ar hC hP hG ls hl
  have hS : va_S (fun _ => False) s.heap s.heap [] := va_S.rf
  obtain ⟨hx, hb, hml, hown, hts, hr, hlk, -⟩ := hC
  have hl : lv_has ls 2 [(0, .int x0), (1, .int x1)] := hl
  have hK := hG.1
  generalize hQ : MQ below (vp_Si (fun x => x = out)) ar s 0 0 (fun _ => False) = QQ
  unfold f_X12_less at hf
  refine lv_iload_n hx hb dX12_less_0 rfl (lv_at hl 0 rfl) ?_
  refine lv_iload_n hx hb dX12_less_1 rfl (lv_at hl 1 rfl) ?_
  refine lv_icmp_ge (tgt := 9) hx hb dX12_less_2 (by decide) (fun c1 => ?_) (fun c1 => ?_)
  · replace hf := ift c1 hf
    refine lv_iload_n hx hb dX12_less_9 rfl (lv_at hl 1 rfl) ?_
    rw [← hQ, ← Option.some.inj hf]
    exact eR_i hx hb hr hlk rfl dX12_less_10
  · replace hf := iff_ c1 hf
    refine lv_iload_n hx hb dX12_less_5 rfl (lv_at hl 0 rfl) ?_
    refine lv_goto (tgt := 10) hx hb dX12_less_6 (by decide) ?_
    rw [← hQ, ← Option.some.inj hf]
    exact eR_i hx hb hr hlk rfl dX12_less_10
set_option maxHeartbeats 4000000 in
set_option maxRecDepth 100000 in
theorem c_X12_tenTo (l : Launch) (g : bG) (x0 : Int32) (out : Int32) (hf : f_X12_tenTo x0 = some out) : Ri l g yX12_tenTo wsX12_tenTo ({ frames := 0, cells := 0, slots := 0, locals := 0 } : Room) [.int x0] [] out := by
  refine ofR (cc := cX12_tenTo) (nL := 3) (ret := some .int) (by decide) rfl (Nat.le_of_ble_eq_true rfl) ?_
  intro p e s m below meth c ar hC hP hG ls hl
  have hS : va_S (fun _ => False) s.heap s.heap [] := va_S.rf
  obtain ⟨hx, hb, hml, hown, hts, hr, hlk, -⟩ := hC
  have hl : lv_has ls 3 [(0, .int x0)] := hl
  have hK := hG.1
  generalize hQ : MQ below (vp_Si (fun x => x = out)) ar s 0 0 (fun _ => False) = QQ
  have w_4 : ∀ n : Nat, ∀ (x0 : Int32) (x1 : Int32) (x2 : Int32), f_X12_tenTo_b4 n x0 x1 x2 = some out → ∀ ls : Array Slot, lv_has ls 3 [(0, .int x0), (1, .int x1), (2, .int x2)] → W p l e ({ frames := 0, cells := 0, slots := 0, locals := 0 } : Room) s m ar below meth c s.heap [] 0 0 QQ (F0 m 4 ls []) := by
    intro n
    induction n with
    | zero =>
      intro x0 x1 x2 hf
      rw [f_X12_tenTo_b4_z] at hf
      cases hf
    | succ n ih =>
      intro x0 x1 x2 hf ls hl
      rw [f_X12_tenTo_b4_s] at hf
      refine lv_iload_n hx hb dX12_tenTo_4 rfl (lv_at hl 2 rfl) ?_
      refine lv_iload_n hx hb dX12_tenTo_5 rfl (lv_at hl 0 rfl) ?_
      refine lv_icmp_ge (tgt := 20) hx hb dX12_tenTo_6 (by decide) (fun c1 => ?_) (fun c1 => ?_)
      · replace hf := ift c1 hf
        refine lv_iload_n hx hb dX12_tenTo_20 rfl (lv_at hl 1 rfl) ?_
        rw [← hQ, ← Option.some.inj hf]
        exact eR_i hx hb hr hlk rfl dX12_tenTo_21
      · replace hf := iff_ c1 hf
        refine lv_iload_n hx hb dX12_tenTo_9 rfl (lv_at hl 1 rfl) ?_
        refine lv_bipush (v := 10) hx hb dX12_tenTo_10 (by decide) ?_
        refine lv_imul hx hb dX12_tenTo_12 ?_
        refine lv_istore_n (lv' := [(1, .int (x1 * (10 : Int32))), (0, .int x0), (2, .int x2)]) hx hb dX12_tenTo_13 rfl hl (by decide) rfl (fun ls hl => ?_)
        refine lv_iinc (v := (x2 + 1)) (lv' := [(2, .int (x2 + 1)), (1, .int (x1 * (10 : Int32))), (0, .int x0)]) hx hb dX12_tenTo_14 hl (k := 2) rfl rfl (by decide) rfl (fun ls hl => ?_)
        refine lv_goto (tgt := 4) hx hb dX12_tenTo_17 (by decide) ?_
        exact ih x0 (x1 * (10 : Int32)) (x2 + 1) hf ls (lv_sub hl [2, 1, 0] rfl)
  unfold f_X12_tenTo at hf
  refine lv_iconst (v := 1) hx hb dX12_tenTo_0 (by decide) ?_
  refine lv_istore_n (lv' := [(1, .int (1 : Int32)), (0, .int x0)]) hx hb dX12_tenTo_1 rfl hl (by decide) rfl (fun ls hl => ?_)
  refine lv_iconst (v := 0) hx hb dX12_tenTo_2 (by decide) ?_
  refine lv_istore_n (lv' := [(2, .int (0 : Int32)), (1, .int (1 : Int32)), (0, .int x0)]) hx hb dX12_tenTo_3 rfl hl (by decide) rfl (fun ls hl => ?_)
  exact w_4 FU x0 (1 : Int32) (0 : Int32) hf ls (lv_sub hl [2, 1, 0] rfl)
set_option maxHeartbeats 4000000 in
set_option maxRecDepth 100000 in
theorem c_X12_figureOf (l : Launch) (g : bG) (x0 : Int32) (x1 : Int32) (out : Int32) (hf : f_X12_figureOf x0 x1 = some out) : Ri l g yX12_figureOf wsX12_figureOf ({ frames := 1, cells := 0, slots := 0, locals := 22 } : Room) [.int x0, .int x1] [] out := by
  refine ofR (cc := cX12_figureOf) (nL := 2) (ret := some .int) (by decide) rfl (Nat.le_of_ble_eq_true rfl) ?_
  intro p e s m below meth c ar hC hP hG ls hl
  have hS : va_S (fun _ => False) s.heap s.heap [] := va_S.rf
  obtain ⟨hx, hb, hml, hown, hts, hr, hlk, -⟩ := hC
  have hl : lv_has ls 2 [(0, .int x0), (1, .int x1)] := hl
  have hK := hG.1
  generalize hQ : MQ below (vp_Si (fun x => x = out)) ar s 0 0 (fun _ => False) = QQ
  unfold f_X12_figureOf at hf
  refine lv_iload_n hx hb dX12_figureOf_0 rfl (lv_at hl 0 rfl) ?_
  refine lv_iconst (v := 5) hx hb dX12_figureOf_1 (by decide) ?_
  refine lv_iload_n hx hb dX12_figureOf_2 rfl (lv_at hl 1 rfl) ?_
  refine lv_isub hx hb dX12_figureOf_3 ?_
  obtain ⟨z1, hq2, hf⟩ := bnd_some hf
  refine kR_i (va_runS (As := [.int ((5 : Int32) - x1)]) (rest := [.int x0]) ⟨hx, hb, hml, hown, hts⟩ (c_X12_tenTo l g ((5 : Int32) - x1) z1 hq2) (va_cwS 1 hts gX12_figureOf_X12_tenTo rfl rfl rfl (by decide +kernel) ⟨Nat.le_of_ble_eq_true rfl, Nat.le_of_ble_eq_true rfl⟩) (kpS_R hG (hP.subm (ws' := []) [] rfl)) rfl rfl hl.1 rfl (lv_room (Nat.le_of_ble_eq_true rfl)) dX12_figureOf_4 ⟨Nat.le_of_ble_eq_true rfl, Nat.le_of_ble_eq_true rfl⟩) ?_
  obtain ⟨hz3, hf⟩ := nz_some hf
  refine lv_idiv hx hb dX12_figureOf_7 hz3 ?_
  refine lv_bipush (v := 10) hx hb dX12_figureOf_8 (by decide) ?_
  refine lv_irem hx hb dX12_figureOf_10 (by decide) ?_
  rw [← hQ, ← Option.some.inj hf]
  exact eR_i hx hb hr hlk rfl dX12_figureOf_11
set_option maxHeartbeats 4000000 in
set_option maxRecDepth 100000 in
theorem c_X12_needOf (l : Launch) (g : bG) (x0 : Int32) (out : Int32) (hf : f_X12_needOf x0 = some out) : Ri l g yX12_needOf wsX12_needOf ({ frames := 0, cells := 0, slots := 0, locals := 0 } : Room) [.int x0] [] out := by
  refine ofR (cc := cX12_needOf) (nL := 1) (ret := some .int) (by decide) rfl (Nat.le_of_ble_eq_true rfl) ?_
  intro p e s m below meth c ar hC hP hG ls hl
  have hS : va_S (fun _ => False) s.heap s.heap [] := va_S.rf
  obtain ⟨hx, hb, hml, hown, hts, hr, hlk, -⟩ := hC
  have hl : lv_has ls 1 [(0, .int x0)] := hl
  have hK := hG.1
  generalize hQ : MQ below (vp_Si (fun x => x = out)) ar s 0 0 (fun _ => False) = QQ
  unfold f_X12_needOf at hf
  refine lv_iload_n hx hb dX12_needOf_0 rfl (lv_at hl 0 rfl) ?_
  refine lv_if_ne (tgt := 9) hx hb dX12_needOf_1 (by decide) (fun c1 => ?_) (fun c1 => ?_)
  · replace hf := iff_ c1 hf
    refine lv_iload_n hx hb dX12_needOf_9 rfl (lv_at hl 0 rfl) ?_
    refine lv_iconst (v := 4) hx hb dX12_needOf_10 (by decide) ?_
    refine lv_icmp_ge (tgt := 18) hx hb dX12_needOf_11 (by decide) (fun c2 => ?_) (fun c2 => ?_)
    · replace hf := ift c2 hf
      refine lv_iconst (v := 1) hx hb dX12_needOf_18 (by decide) ?_
      rw [← hQ, ← Option.some.inj hf]
      exact eR_i hx hb hr hlk rfl dX12_needOf_19
    · replace hf := iff_ c2 hf
      refine lv_iconst (v := 0) hx hb dX12_needOf_14 (by decide) ?_
      refine lv_goto (tgt := 19) hx hb dX12_needOf_15 (by decide) ?_
      rw [← hQ, ← Option.some.inj hf]
      exact eR_i hx hb hr hlk rfl dX12_needOf_19
  · replace hf := ift c1 hf
    refine lv_bipush (v := -6) hx hb dX12_needOf_4 (by decide) ?_
    refine lv_goto (tgt := 19) hx hb dX12_needOf_6 (by decide) ?_
    rw [← hQ, ← Option.some.inj hf]
    exact eR_i hx hb hr hlk rfl dX12_needOf_19
set_option maxHeartbeats 4000000 in
set_option maxRecDepth 100000 in
theorem c_X12_isBeetle (l : Launch) (g : bG) (q : Nat → Nat) (v_holder : Int32) (v_games : Int32) (v_sights : Int32) (v_padMany : Int32) (v_acts : Int32) (v_nothings : Int32) (v_wholeNow : Int32) (v_badAct : Int32) (v_badWhy : Int32) (v_wholeAct : Int32) (v_wholeWho : Int32) (v_keptAt : Int32) (v_isWriting : Int32) (v_most : Nat → Int32) (x1 : Int32) (out : Int32) (hf : f_X12_isBeetle v_most x1 = some out) : Ri l g yX12_isBeetle wsX12_isBeetle ({ frames := 2, cells := 0, slots := 0, locals := 43 } : Room) [.ref (q 0), .int x1] [((q 0), .inr (10, oX12 q v_holder v_games v_sights v_padMany v_acts v_nothings v_wholeNow v_badAct v_badWhy v_wholeAct v_wholeWho v_keptAt v_isWriting)), ((q 1), .inl (gI g, 6, .inl v_most))] out := by
  refine ofR (cc := cX12_isBeetle) (nL := 5) (ret := some .boolean) (by decide) rfl (Nat.le_of_ble_eq_true rfl) ?_
  intro p e s m below meth c ar hC hP hG ls hl
  have hS : va_S (fun _ => False) s.heap s.heap [] := va_S.rf
  obtain ⟨hx, hb, hml, hown, hts, hr, hlk, -⟩ := hC
  have hl : lv_has ls 5 [(0, .ref (q 0)), (1, .int x1)] := hl
  have hK := hG.1
  have iX12 : ∀ w ∈ u_ws RX12 TX12 30, w ∈ wsX12_isBeetle := fun w h => List.mem_cons_of_mem _ (List.mem_append_right _ (h))
  generalize hQ : MQ below (vp_Si (fun x => x = out)) ar s 0 0 (fun _ => False) = QQ
  have w_12 : ∀ n : Nat, ∀ (x1 : Int32) (x2 : Int32) (x3 : Int32), f_X12_isBeetle_b12 v_most n x1 x2 x3 = some out → ∀ ls : Array Slot, lv_has ls 5 [(0, .ref (q 0)), (1, .int x1), (2, .int x2), (3, .int x3)] → W p l e ({ frames := 2, cells := 0, slots := 0, locals := 43 } : Room) s m ar below meth c s.heap [] 0 0 QQ (F0 m 12 ls []) := by
    intro n
    induction n with
    | zero =>
      intro x1 x2 x3 hf
      rw [f_X12_isBeetle_b12_z] at hf
      cases hf
    | succ n ih =>
      intro x1 x2 x3 hf ls hl
      rw [f_X12_isBeetle_b12_s] at hf
      refine lv_iload_n hx hb dX12_isBeetle_12 rfl (lv_at hl 3 rfl) ?_
      refine lv_bipush (v := 6) hx hb dX12_isBeetle_13 (by decide) ?_
      refine lv_icmp_ge (tgt := 75) hx hb dX12_isBeetle_15 (by decide) (fun c3 => ?_) (fun c3 => ?_)
      · replace hf := ift c3 hf
        refine lv_iload_n hx hb dX12_isBeetle_75 rfl (lv_at hl 2 rfl) ?_
        obtain ⟨hz4, hf⟩ := bz_some hf
        rw [← hQ, ← Option.some.inj hf]
        exact eR_z hx hb hr hlk hz4 rfl dX12_isBeetle_76
      · replace hf := iff_ c3 hf
        refine lv_iload_n hx hb dX12_isBeetle_18 rfl (lv_at hl 1 rfl) ?_
        refine lv_iload_n hx hb dX12_isBeetle_19 rfl (lv_at hl 3 rfl) ?_
        obtain ⟨z5, hq6, hf⟩ := bnd_some hf
        refine kR_i (va_runS (As := [.int x1, .int x3]) (rest := []) ⟨hx, hb, hml, hown, hts⟩ (c_X12_figureOf l g x1 x3 z5 hq6) (va_cwS 2 hts gX12_isBeetle_X12_figureOf rfl rfl rfl (by decide +kernel) ⟨Nat.le_of_ble_eq_true rfl, Nat.le_of_ble_eq_true rfl⟩) (kpS_R hG (hP.subm (ws' := []) [] rfl)) rfl rfl hl.1 rfl (lv_room (Nat.le_of_ble_eq_true rfl)) dX12_isBeetle_20 ⟨Nat.le_of_ble_eq_true rfl, Nat.le_of_ble_eq_true rfl⟩) ?_
        refine lv_istore (lv' := [(4, .int z5), (0, .ref (q 0)), (1, .int x1), (2, .int x2), (3, .int x3)]) hx hb dX12_isBeetle_23 hl (by decide) rfl (fun ls hl => ?_)
        refine lv_iload_n hx hb dX12_isBeetle_25 rfl (lv_at hl 3 rfl) ?_
        refine lv_if_eq (tgt := 67) hx hb dX12_isBeetle_26 (by decide) (fun c7 => ?_) (fun c7 => ?_)
        · replace hf := ift c7 hf
          refine lv_iconst (v := 0) hx hb dX12_isBeetle_67 (by decide) ?_
          refine lv_istore_n (lv' := [(2, .int (0 : Int32)), (4, .int z5), (0, .ref (q 0)), (1, .int x1), (3, .int x3)]) hx hb dX12_isBeetle_68 rfl hl (by decide) rfl (fun ls hl => ?_)
          refine lv_iinc (v := (x3 + 1)) (lv' := [(3, .int (x3 + 1)), (2, .int (0 : Int32)), (4, .int z5), (0, .ref (q 0)), (1, .int x1)]) hx hb dX12_isBeetle_69 hl (k := 4) rfl rfl (by decide) rfl (fun ls hl => ?_)
          refine lv_goto (tgt := 12) hx hb dX12_isBeetle_72 (by decide) ?_
          exact ih x1 (0 : Int32) (x3 + 1) hf ls (lv_sub hl [3, 4, 1, 0] rfl)
        · replace hf := iff_ c7 hf
          refine lv_iload hx hb dX12_isBeetle_29 (lv_at hl 0 rfl) ?_
          refine lv_aload_n hx hb dX12_isBeetle_31 rfl (lv_at hl 1 rfl) ?_
          refine va_get (D := gD g) (ci := 10) (v := .ref (q 1)) (C := RX12) (T := TX12) (N := 30) hx hb hts iX12 hown hK hP 0 rfl rfl 0 (by decide) (hts (.fieldLink RX12 7 "BeetleDriveModel" "most" "[I") (List.mem_of_getElem? (i := 2) rfl)) (fun _ h9 => h9) rfl dX12_isBeetle_32 ?_
          refine lv_iload_n hx hb dX12_isBeetle_35 rfl (lv_at hl 4 rfl) ?_
          obtain ⟨hi8, hf⟩ := chk_some hf
          refine va_iald hx hb hK hP 1 0 rfl rfl hi8 dX12_isBeetle_36 ?_
          refine lv_icmp_gt (tgt := 67) hx hb dX12_isBeetle_37 (by decide) (fun c9 => ?_) (fun c9 => ?_)
          · replace hf := ift c9 hf
            refine lv_iconst (v := 0) hx hb dX12_isBeetle_67 (by decide) ?_
            refine lv_istore_n (lv' := [(2, .int (0 : Int32)), (4, .int z5), (0, .ref (q 0)), (1, .int x1), (3, .int x3)]) hx hb dX12_isBeetle_68 rfl hl (by decide) rfl (fun ls hl => ?_)
            refine lv_iinc (v := (x3 + 1)) (lv' := [(3, .int (x3 + 1)), (2, .int (0 : Int32)), (4, .int z5), (0, .ref (q 0)), (1, .int x1)]) hx hb dX12_isBeetle_69 hl (k := 4) rfl rfl (by decide) rfl (fun ls hl => ?_)
            refine lv_goto (tgt := 12) hx hb dX12_isBeetle_72 (by decide) ?_
            exact ih x1 (0 : Int32) (x3 + 1) hf ls (lv_sub hl [3, 4, 1, 0] rfl)
          · replace hf := iff_ c9 hf
            refine lv_iload hx hb dX12_isBeetle_40 (lv_at hl 0 rfl) ?_
            refine lv_if_eq (tgt := 63) hx hb dX12_isBeetle_42 (by decide) (fun c10 => ?_) (fun c10 => ?_)
            · replace hf := ift c10 hf
              refine lv_iconst (v := 1) hx hb dX12_isBeetle_63 (by decide) ?_
              refine lv_goto (tgt := 68) hx hb dX12_isBeetle_64 (by decide) ?_
              refine lv_istore_n (lv' := [(2, .int (1 : Int32)), (4, .int z5), (0, .ref (q 0)), (1, .int x1), (3, .int x3)]) hx hb dX12_isBeetle_68 rfl hl (by decide) rfl (fun ls hl => ?_)
              refine lv_iinc (v := (x3 + 1)) (lv' := [(3, .int (x3 + 1)), (2, .int (1 : Int32)), (4, .int z5), (0, .ref (q 0)), (1, .int x1)]) hx hb dX12_isBeetle_69 hl (k := 4) rfl rfl (by decide) rfl (fun ls hl => ?_)
              refine lv_goto (tgt := 12) hx hb dX12_isBeetle_72 (by decide) ?_
              exact ih x1 (1 : Int32) (x3 + 1) hf ls (lv_sub hl [3, 4, 1, 0] rfl)
            · replace hf := iff_ c10 hf
              refine lv_iload_n hx hb dX12_isBeetle_45 rfl (lv_at hl 4 rfl) ?_
              obtain ⟨z11, hq12, hf⟩ := bnd_some hf
              refine kR_i (va_runS (As := [.int x3]) (rest := []) ⟨hx, hb, hml, hown, hts⟩ (c_X12_needOf l g x3 z11 hq12) (va_cwS 1 hts gX12_isBeetle_X12_needOf rfl rfl rfl (by decide +kernel) ⟨Nat.le_of_ble_eq_true rfl, Nat.le_of_ble_eq_true rfl⟩) (kpS_R hG (hP.subm (ws' := []) [] rfl)) rfl rfl hl.1 rfl (lv_room (Nat.le_of_ble_eq_true rfl)) dX12_isBeetle_46 ⟨Nat.le_of_ble_eq_true rfl, Nat.le_of_ble_eq_true rfl⟩) ?_
              refine lv_if_lt (tgt := 63) hx hb dX12_isBeetle_49 (by decide) (fun c13 => ?_) (fun c13 => ?_)
              · replace hf := ift c13 hf
                refine lv_iconst (v := 1) hx hb dX12_isBeetle_63 (by decide) ?_
                refine lv_goto (tgt := 68) hx hb dX12_isBeetle_64 (by decide) ?_
                refine lv_istore_n (lv' := [(2, .int (1 : Int32)), (4, .int z5), (0, .ref (q 0)), (1, .int x1), (3, .int x3)]) hx hb dX12_isBeetle_68 rfl hl (by decide) rfl (fun ls hl => ?_)
                refine lv_iinc (v := (x3 + 1)) (lv' := [(3, .int (x3 + 1)), (2, .int (1 : Int32)), (4, .int z5), (0, .ref (q 0)), (1, .int x1)]) hx hb dX12_isBeetle_69 hl (k := 4) rfl rfl (by decide) rfl (fun ls hl => ?_)
                refine lv_goto (tgt := 12) hx hb dX12_isBeetle_72 (by decide) ?_
                exact ih x1 (1 : Int32) (x3 + 1) hf ls (lv_sub hl [3, 4, 1, 0] rfl)
              · replace hf := iff_ c13 hf
                refine lv_iload_n hx hb dX12_isBeetle_52 rfl (lv_at hl 2 rfl) ?_
                refine lv_iload_n hx hb dX12_isBeetle_53 rfl (lv_at hl 4 rfl) ?_
                obtain ⟨z14, hq15, hf⟩ := bnd_some hf
                refine kR_i (va_runS (As := [.int x3]) (rest := [.int x1]) ⟨hx, hb, hml, hown, hts⟩ (c_X12_needOf l g x3 z14 hq15) (va_cwS 1 hts gX12_isBeetle_X12_needOf rfl rfl rfl (by decide +kernel) ⟨Nat.le_of_ble_eq_true rfl, Nat.le_of_ble_eq_true rfl⟩) (kpS_R hG (hP.subm (ws' := []) [] rfl)) rfl rfl hl.1 rfl (lv_room (Nat.le_of_ble_eq_true rfl)) dX12_isBeetle_54 ⟨Nat.le_of_ble_eq_true rfl, Nat.le_of_ble_eq_true rfl⟩) ?_
                obtain ⟨z16, hq17, hf⟩ := bnd_some hf
                refine kR_i (va_runS (As := [.int x1, .int z14]) (rest := []) ⟨hx, hb, hml, hown, hts⟩ (c_X12_figureOf l g x1 z14 z16 hq17) (va_cwS 2 hts gX12_isBeetle_X12_figureOf rfl rfl rfl (by decide +kernel) ⟨Nat.le_of_ble_eq_true rfl, Nat.le_of_ble_eq_true rfl⟩) (kpS_R hG (hP.subm (ws' := []) [] rfl)) rfl rfl hl.1 rfl (lv_room (Nat.le_of_ble_eq_true rfl)) dX12_isBeetle_57 ⟨Nat.le_of_ble_eq_true rfl, Nat.le_of_ble_eq_true rfl⟩) ?_
                refine lv_if_le (tgt := 67) hx hb dX12_isBeetle_60 (by decide) (fun c18 => ?_) (fun c18 => ?_)
                · replace hf := ift c18 hf
                  refine lv_iconst (v := 0) hx hb dX12_isBeetle_67 (by decide) ?_
                  refine lv_istore_n (lv' := [(2, .int (0 : Int32)), (4, .int z5), (0, .ref (q 0)), (1, .int x1), (3, .int x3)]) hx hb dX12_isBeetle_68 rfl hl (by decide) rfl (fun ls hl => ?_)
                  refine lv_iinc (v := (x3 + 1)) (lv' := [(3, .int (x3 + 1)), (2, .int (0 : Int32)), (4, .int z5), (0, .ref (q 0)), (1, .int x1)]) hx hb dX12_isBeetle_69 hl (k := 4) rfl rfl (by decide) rfl (fun ls hl => ?_)
                  refine lv_goto (tgt := 12) hx hb dX12_isBeetle_72 (by decide) ?_
                  exact ih x1 (0 : Int32) (x3 + 1) hf ls (lv_sub hl [3, 4, 1, 0] rfl)
                · replace hf := iff_ c18 hf
                  refine lv_iconst (v := 1) hx hb dX12_isBeetle_63 (by decide) ?_
                  refine lv_goto (tgt := 68) hx hb dX12_isBeetle_64 (by decide) ?_
                  refine lv_istore_n (lv' := [(2, .int (1 : Int32)), (4, .int z5), (0, .ref (q 0)), (1, .int x1), (3, .int x3)]) hx hb dX12_isBeetle_68 rfl hl (by decide) rfl (fun ls hl => ?_)
                  refine lv_iinc (v := (x3 + 1)) (lv' := [(3, .int (x3 + 1)), (2, .int (1 : Int32)), (4, .int z5), (0, .ref (q 0)), (1, .int x1)]) hx hb dX12_isBeetle_69 hl (k := 4) rfl rfl (by decide) rfl (fun ls hl => ?_)
                  refine lv_goto (tgt := 12) hx hb dX12_isBeetle_72 (by decide) ?_
                  exact ih x1 (1 : Int32) (x3 + 1) hf ls (lv_sub hl [3, 4, 1, 0] rfl)
  unfold f_X12_isBeetle at hf
  refine lv_iload_n hx hb dX12_isBeetle_0 rfl (lv_at hl 1 rfl) ?_
  refine lv_i2l (v := (Int32.toInt64 x1)) hx hb dX12_isBeetle_1 rfl ?_
  refine lv_lconst (v := 0) hx hb dX12_isBeetle_2 (by decide) ?_
  refine lv_ldc2 (v := 111622) hx hb hown (hts (.constantLong RX12 73 (111622)) (List.mem_of_getElem? (i := 1) rfl)) dX12_isBeetle_3 ?_
  obtain ⟨z1, hq2, hf⟩ := bnd_some hf
  refine kR_i (va_runS (As := [.long (Int32.toInt64 x1), .long (0 : Int64), .long (111622 : Int64)]) (rest := []) ⟨hx, hb, hml, hown, hts⟩ (c_X12_in l g (Int32.toInt64 x1) (0 : Int64) (111622 : Int64) z1 hq2) (va_cwS 3 hts gX12_isBeetle_X12_in rfl rfl rfl (by decide +kernel) ⟨Nat.le_of_ble_eq_true rfl, Nat.le_of_ble_eq_true rfl⟩) (kpS_R hG (hP.subm (ws' := []) [] rfl)) rfl rfl hl.1 rfl (lv_room (Nat.le_of_ble_eq_true rfl)) dX12_isBeetle_6 ⟨Nat.le_of_ble_eq_true rfl, Nat.le_of_ble_eq_true rfl⟩) ?_
  refine lv_istore_n (lv' := [(2, .int z1), (0, .ref (q 0)), (1, .int x1)]) hx hb dX12_isBeetle_9 rfl hl (by decide) rfl (fun ls hl => ?_)
  refine lv_iconst (v := 0) hx hb dX12_isBeetle_10 (by decide) ?_
  refine lv_istore_n (lv' := [(3, .int (0 : Int32)), (2, .int z1), (0, .ref (q 0)), (1, .int x1)]) hx hb dX12_isBeetle_11 rfl hl (by decide) rfl (fun ls hl => ?_)
  exact w_12 FU x1 z1 (0 : Int32) hf ls (lv_sub hl [2, 3, 1, 0] rfl)
set_option maxHeartbeats 4000000 in
set_option maxRecDepth 100000 in
theorem c_X12_partsOf (l : Launch) (g : bG) (x0 : Int32) (out : Int32) (hf : f_X12_partsOf x0 = some out) : Ri l g yX12_partsOf wsX12_partsOf ({ frames := 2, cells := 0, slots := 0, locals := 43 } : Room) [.int x0] [] out := by
  refine ofR (cc := cX12_partsOf) (nL := 3) (ret := some .int) (by decide) rfl (Nat.le_of_ble_eq_true rfl) ?_
  intro p e s m below meth c ar hC hP hG ls hl
  have hS : va_S (fun _ => False) s.heap s.heap [] := va_S.rf
  obtain ⟨hx, hb, hml, hown, hts, hr, hlk, -⟩ := hC
  have hl : lv_has ls 3 [(0, .int x0)] := hl
  have hK := hG.1
  generalize hQ : MQ below (vp_Si (fun x => x = out)) ar s 0 0 (fun _ => False) = QQ
  have w_4 : ∀ n : Nat, ∀ (x0 : Int32) (x1 : Int32) (x2 : Int32), f_X12_partsOf_b4 n x0 x1 x2 = some out → ∀ ls : Array Slot, lv_has ls 3 [(0, .int x0), (1, .int x1), (2, .int x2)] → W p l e ({ frames := 2, cells := 0, slots := 0, locals := 43 } : Room) s m ar below meth c s.heap [] 0 0 QQ (F0 m 4 ls []) := by
    intro n
    induction n with
    | zero =>
      intro x0 x1 x2 hf
      rw [f_X12_partsOf_b4_z] at hf
      cases hf
    | succ n ih =>
      intro x0 x1 x2 hf ls hl
      rw [f_X12_partsOf_b4_s] at hf
      refine lv_iload_n hx hb dX12_partsOf_4 rfl (lv_at hl 2 rfl) ?_
      refine lv_bipush (v := 6) hx hb dX12_partsOf_5 (by decide) ?_
      refine lv_icmp_ge (tgt := 24) hx hb dX12_partsOf_7 (by decide) (fun c1 => ?_) (fun c1 => ?_)
      · replace hf := ift c1 hf
        refine lv_iload_n hx hb dX12_partsOf_24 rfl (lv_at hl 1 rfl) ?_
        rw [← hQ, ← Option.some.inj hf]
        exact eR_i hx hb hr hlk rfl dX12_partsOf_25
      · replace hf := iff_ c1 hf
        refine lv_iload_n hx hb dX12_partsOf_10 rfl (lv_at hl 1 rfl) ?_
        refine lv_iload_n hx hb dX12_partsOf_11 rfl (lv_at hl 0 rfl) ?_
        refine lv_iload_n hx hb dX12_partsOf_12 rfl (lv_at hl 2 rfl) ?_
        obtain ⟨z2, hq3, hf⟩ := bnd_some hf
        refine kR_i (va_runS (As := [.int x0, .int x2]) (rest := [.int x1]) ⟨hx, hb, hml, hown, hts⟩ (c_X12_figureOf l g x0 x2 z2 hq3) (va_cwS 2 hts gX12_partsOf_X12_figureOf rfl rfl rfl (by decide +kernel) ⟨Nat.le_of_ble_eq_true rfl, Nat.le_of_ble_eq_true rfl⟩) (kpS_R hG (hP.subm (ws' := []) [] rfl)) rfl rfl hl.1 rfl (lv_room (Nat.le_of_ble_eq_true rfl)) dX12_partsOf_13 ⟨Nat.le_of_ble_eq_true rfl, Nat.le_of_ble_eq_true rfl⟩) ?_
        refine lv_iadd hx hb dX12_partsOf_16 ?_
        refine lv_istore_n (lv' := [(1, .int (x1 + z2)), (0, .int x0), (2, .int x2)]) hx hb dX12_partsOf_17 rfl hl (by decide) rfl (fun ls hl => ?_)
        refine lv_iinc (v := (x2 + 1)) (lv' := [(2, .int (x2 + 1)), (1, .int (x1 + z2)), (0, .int x0)]) hx hb dX12_partsOf_18 hl (k := 2) rfl rfl (by decide) rfl (fun ls hl => ?_)
        refine lv_goto (tgt := 4) hx hb dX12_partsOf_21 (by decide) ?_
        exact ih x0 (x1 + z2) (x2 + 1) hf ls (lv_sub hl [2, 1, 0] rfl)
  unfold f_X12_partsOf at hf
  refine lv_iconst (v := 0) hx hb dX12_partsOf_0 (by decide) ?_
  refine lv_istore_n (lv' := [(1, .int (0 : Int32)), (0, .int x0)]) hx hb dX12_partsOf_1 rfl hl (by decide) rfl (fun ls hl => ?_)
  refine lv_iconst (v := 0) hx hb dX12_partsOf_2 (by decide) ?_
  refine lv_istore_n (lv' := [(2, .int (0 : Int32)), (1, .int (0 : Int32)), (0, .int x0)]) hx hb dX12_partsOf_3 rfl hl (by decide) rfl (fun ls hl => ?_)
  exact w_4 FU x0 (0 : Int32) (0 : Int32) hf ls (lv_sub hl [2, 1, 0] rfl)
set_option maxHeartbeats 4000000 in
set_option maxRecDepth 100000 in
theorem c_X12_canDraw (l : Launch) (g : bG) (q : Nat → Nat) (v_holder : Int32) (v_games : Int32) (v_sights : Int32) (v_padMany : Int32) (v_acts : Int32) (v_nothings : Int32) (v_wholeNow : Int32) (v_badAct : Int32) (v_badWhy : Int32) (v_wholeAct : Int32) (v_wholeWho : Int32) (v_keptAt : Int32) (v_isWriting : Int32) (v_most : Nat → Int32) (x1 : Int32) (x2 : Int32) (out : Int32) (hf : f_X12_canDraw v_most x1 x2 = some out) : Ri l g yX12_canDraw wsX12_canDraw ({ frames := 2, cells := 0, slots := 0, locals := 43 } : Room) [.ref (q 0), .int x1, .int x2] [((q 0), .inr (10, oX12 q v_holder v_games v_sights v_padMany v_acts v_nothings v_wholeNow v_badAct v_badWhy v_wholeAct v_wholeWho v_keptAt v_isWriting)), ((q 1), .inl (gI g, 6, .inl v_most))] out := by
  refine ofR (cc := cX12_canDraw) (nL := 4) (ret := some .boolean) (by decide) rfl (Nat.le_of_ble_eq_true rfl) ?_
  intro p e s m below meth c ar hC hP hG ls hl
  have hS : va_S (fun _ => False) s.heap s.heap [] := va_S.rf
  obtain ⟨hx, hb, hml, hown, hts, hr, hlk, -⟩ := hC
  have hl : lv_has ls 4 [(0, .ref (q 0)), (1, .int x1), (2, .int x2)] := hl
  have hK := hG.1
  have iX12 : ∀ w ∈ u_ws RX12 TX12 30, w ∈ wsX12_canDraw := fun w h => List.mem_cons_of_mem _ (List.mem_append_right _ (h))
  generalize hQ : MQ below (vp_Si (fun x => x = out)) ar s 0 0 (fun _ => False) = QQ
  unfold f_X12_canDraw at hf
  refine lv_bipush (v := 6) hx hb dX12_canDraw_0 (by decide) ?_
  refine lv_iload_n hx hb dX12_canDraw_2 rfl (lv_at hl 2 rfl) ?_
  refine lv_isub hx hb dX12_canDraw_3 ?_
  refine lv_istore_n (lv' := [(3, .int ((6 : Int32) - x2)), (0, .ref (q 0)), (1, .int x1), (2, .int x2)]) hx hb dX12_canDraw_4 rfl hl (by decide) rfl (fun ls hl => ?_)
  refine lv_iload_n hx hb dX12_canDraw_5 rfl (lv_at hl 2 rfl) ?_
  refine lv_iload_n hx hb dX12_canDraw_6 rfl (lv_at hl 0 rfl) ?_
  obtain ⟨z1, hq2, hf⟩ := bnd_some hf
  refine kR_i (va_runS (As := [.int x1, .int ((6 : Int32) - x2)]) (rest := []) ⟨hx, hb, hml, hown, hts⟩ (c_X12_figureOf l g x1 ((6 : Int32) - x2) z1 hq2) (va_cwS 2 hts gX12_canDraw_X12_figureOf rfl rfl rfl (by decide +kernel) ⟨Nat.le_of_ble_eq_true rfl, Nat.le_of_ble_eq_true rfl⟩) (kpS_R hG (hP.subm (ws' := []) [] rfl)) rfl rfl hl.1 rfl (lv_room (Nat.le_of_ble_eq_true rfl)) dX12_canDraw_7 ⟨Nat.le_of_ble_eq_true rfl, Nat.le_of_ble_eq_true rfl⟩) ?_
  refine lv_aload_n hx hb dX12_canDraw_10 rfl (lv_at hl 1 rfl) ?_
  refine va_get (D := gD g) (ci := 10) (v := .ref (q 1)) (C := RX12) (T := TX12) (N := 30) hx hb hts iX12 hown hK hP 0 rfl rfl 0 (by decide) (hts (.fieldLink RX12 7 "BeetleDriveModel" "most" "[I") (List.mem_of_getElem? (i := 1) rfl)) (fun _ h9 => h9) rfl dX12_canDraw_11 ?_
  refine lv_iload_n hx hb dX12_canDraw_14 rfl (lv_at hl 0 rfl) ?_
  obtain ⟨hi3, hf⟩ := chk_some hf
  refine va_iald hx hb hK hP 1 0 rfl rfl hi3 dX12_canDraw_15 ?_
  refine lv_icmp_ge (tgt := 41) hx hb dX12_canDraw_16 (by decide) (fun c4 => ?_) (fun c4 => ?_)
  · replace hf := ift c4 hf
    refine lv_iconst (v := 0) hx hb dX12_canDraw_41 (by decide) ?_
    rw [← hQ, ← Option.some.inj hf]
    exact eR_z hx hb hr hlk nb0 rfl dX12_canDraw_42
  · replace hf := iff_ c4 hf
    refine lv_iload_n hx hb dX12_canDraw_19 rfl (lv_at hl 0 rfl) ?_
    obtain ⟨z5, hq6, hf⟩ := bnd_some hf
    refine kR_i (va_runS (As := [.int ((6 : Int32) - x2)]) (rest := []) ⟨hx, hb, hml, hown, hts⟩ (c_X12_needOf l g ((6 : Int32) - x2) z5 hq6) (va_cwS 1 hts gX12_canDraw_X12_needOf rfl rfl rfl (by decide +kernel) ⟨Nat.le_of_ble_eq_true rfl, Nat.le_of_ble_eq_true rfl⟩) (kpS_R hG (hP.subm (ws' := []) [] rfl)) rfl rfl hl.1 rfl (lv_room (Nat.le_of_ble_eq_true rfl)) dX12_canDraw_20 ⟨Nat.le_of_ble_eq_true rfl, Nat.le_of_ble_eq_true rfl⟩) ?_
    refine lv_if_lt (tgt := 37) hx hb dX12_canDraw_23 (by decide) (fun c7 => ?_) (fun c7 => ?_)
    · replace hf := ift c7 hf
      refine lv_iconst (v := 1) hx hb dX12_canDraw_37 (by decide) ?_
      refine lv_goto (tgt := 42) hx hb dX12_canDraw_38 (by decide) ?_
      rw [← hQ, ← Option.some.inj hf]
      exact eR_z hx hb hr hlk nb1 rfl dX12_canDraw_42
    · replace hf := iff_ c7 hf
      refine lv_iload_n hx hb dX12_canDraw_26 rfl (lv_at hl 2 rfl) ?_
      refine lv_iload_n hx hb dX12_canDraw_27 rfl (lv_at hl 0 rfl) ?_
      obtain ⟨z8, hq9, hf⟩ := bnd_some hf
      refine kR_i (va_runS (As := [.int ((6 : Int32) - x2)]) (rest := [.int x1]) ⟨hx, hb, hml, hown, hts⟩ (c_X12_needOf l g ((6 : Int32) - x2) z8 hq9) (va_cwS 1 hts gX12_canDraw_X12_needOf rfl rfl rfl (by decide +kernel) ⟨Nat.le_of_ble_eq_true rfl, Nat.le_of_ble_eq_true rfl⟩) (kpS_R hG (hP.subm (ws' := []) [] rfl)) rfl rfl hl.1 rfl (lv_room (Nat.le_of_ble_eq_true rfl)) dX12_canDraw_28 ⟨Nat.le_of_ble_eq_true rfl, Nat.le_of_ble_eq_true rfl⟩) ?_
      obtain ⟨z10, hq11, hf⟩ := bnd_some hf
      refine kR_i (va_runS (As := [.int x1, .int z8]) (rest := []) ⟨hx, hb, hml, hown, hts⟩ (c_X12_figureOf l g x1 z8 z10 hq11) (va_cwS 2 hts gX12_canDraw_X12_figureOf rfl rfl rfl (by decide +kernel) ⟨Nat.le_of_ble_eq_true rfl, Nat.le_of_ble_eq_true rfl⟩) (kpS_R hG (hP.subm (ws' := []) [] rfl)) rfl rfl hl.1 rfl (lv_room (Nat.le_of_ble_eq_true rfl)) dX12_canDraw_31 ⟨Nat.le_of_ble_eq_true rfl, Nat.le_of_ble_eq_true rfl⟩) ?_
      refine lv_if_le (tgt := 41) hx hb dX12_canDraw_34 (by decide) (fun c12 => ?_) (fun c12 => ?_)
      · replace hf := ift c12 hf
        refine lv_iconst (v := 0) hx hb dX12_canDraw_41 (by decide) ?_
        rw [← hQ, ← Option.some.inj hf]
        exact eR_z hx hb hr hlk nb0 rfl dX12_canDraw_42
      · replace hf := iff_ c12 hf
        refine lv_iconst (v := 1) hx hb dX12_canDraw_37 (by decide) ?_
        refine lv_goto (tgt := 42) hx hb dX12_canDraw_38 (by decide) ?_
        rw [← hQ, ← Option.some.inj hf]
        exact eR_z hx hb hr hlk nb1 rfl dX12_canDraw_42
set_option maxHeartbeats 4000000 in
set_option maxRecDepth 100000 in
theorem c_X12_drawnBy (l : Launch) (g : bG) (x0 : Int32) (x1 : Int32) (out : Int32) (hf : f_X12_drawnBy x0 x1 = some out) : Ri l g yX12_drawnBy wsX12_drawnBy ({ frames := 1, cells := 0, slots := 0, locals := 22 } : Room) [.int x0, .int x1] [] out := by
  refine ofR (cc := cX12_drawnBy) (nL := 2) (ret := some .int) (by decide) rfl (Nat.le_of_ble_eq_true rfl) ?_
  intro p e s m below meth c ar hC hP hG ls hl
  have hS : va_S (fun _ => False) s.heap s.heap [] := va_S.rf
  obtain ⟨hx, hb, hml, hown, hts, hr, hlk, -⟩ := hC
  have hl : lv_has ls 2 [(0, .int x0), (1, .int x1)] := hl
  have hK := hG.1
  generalize hQ : MQ below (vp_Si (fun x => x = out)) ar s 0 0 (fun _ => False) = QQ
  unfold f_X12_drawnBy at hf
  refine lv_iload_n hx hb dX12_drawnBy_0 rfl (lv_at hl 0 rfl) ?_
  refine lv_iload_n hx hb dX12_drawnBy_1 rfl (lv_at hl 1 rfl) ?_
  refine lv_iconst (v := 1) hx hb dX12_drawnBy_2 (by decide) ?_
  refine lv_isub hx hb dX12_drawnBy_3 ?_
  obtain ⟨z1, hq2, hf⟩ := bnd_some hf
  refine kR_i (va_runS (As := [.int (x1 - (1 : Int32))]) (rest := [.int x0]) ⟨hx, hb, hml, hown, hts⟩ (c_X12_tenTo l g (x1 - (1 : Int32)) z1 hq2) (va_cwS 1 hts gX12_drawnBy_X12_tenTo rfl rfl rfl (by decide +kernel) ⟨Nat.le_of_ble_eq_true rfl, Nat.le_of_ble_eq_true rfl⟩) (kpS_R hG (hP.subm (ws' := []) [] rfl)) rfl rfl hl.1 rfl (lv_room (Nat.le_of_ble_eq_true rfl)) dX12_drawnBy_4 ⟨Nat.le_of_ble_eq_true rfl, Nat.le_of_ble_eq_true rfl⟩) ?_
  refine lv_iadd hx hb dX12_drawnBy_7 ?_
  rw [← hQ, ← Option.some.inj hf]
  exact eR_i hx hb hr hlk rfl dX12_drawnBy_8
set_option maxHeartbeats 4000000 in
set_option maxRecDepth 100000 in
theorem c_X12_player (l : Launch) (g : bG) (q : Nat → Nat) (v_holder : Int32) (v_games : Int32) (v_sights : Int32) (v_padMany : Int32) (v_acts : Int32) (v_nothings : Int32) (v_wholeNow : Int32) (v_badAct : Int32) (v_badWhy : Int32) (v_wholeAct : Int32) (v_wholeWho : Int32) (v_keptAt : Int32) (v_isWriting : Int32) (v_most : Nat → Int32) (v_beetle : Nat → Int32) (v_points : Nat → Int32) (x1 : Int32) (x2 : Int32) (x3 : Int32) (out : Int32 × (Nat → Int32) × (Nat → Int32)) (hf : f_X12_player v_most v_beetle v_points x1 x2 x3 = some out) : Mi l g yX12_player wsX12_player ({ frames := 3, cells := 0, slots := 0, locals := 67 } : Room) [.ref (q 0), .int x1, .int x2, .int x3] [((q 0), .inr (10, oX12 q v_holder v_games v_sights v_padMany v_acts v_nothings v_wholeNow v_badAct v_badWhy v_wholeAct v_wholeWho v_keptAt v_isWriting)), ((q 1), .inl (gI g, 6, .inl v_most)), ((q 2), .inl (gI g, 6, .inl v_beetle)), ((q 3), .inl (gI g, 6, .inl v_points))] out.1 [((q 0), .inr (10, oX12 q v_holder v_games v_sights v_padMany v_acts v_nothings v_wholeNow v_badAct v_badWhy v_wholeAct v_wholeWho v_keptAt v_isWriting)), ((q 1), .inl (gI g, 6, .inl v_most)), ((q 2), .inl (gI g, 6, .inl out.2.1)), ((q 3), .inl (gI g, 6, .inl out.2.2))] := by
  refine ofM (Qc := fun A => Qi g out.1 [((q 0), .inr (10, oX12 q v_holder v_games v_sights v_padMany v_acts v_nothings v_wholeNow v_badAct v_badWhy v_wholeAct v_wholeWho v_keptAt v_isWriting)), ((q 1), .inl (gI g, 6, .inl v_most)), ((q 2), .inl (gI g, 6, .inl out.2.1)), ((q 3), .inl (gI g, 6, .inl out.2.2))] A) (cc := cX12_player) (nL := 5) (ret := some .int) (by decide) rfl (Nat.le_of_ble_eq_true rfl) ?_
  intro p e s m below meth c ar A hC hA hP hD hG ls hl
  have hS : va_S A s.heap s.heap [] := va_S.rf
  obtain ⟨hx, hb, hml, hown, hts, hr, hlk, -⟩ := hC
  have hl : lv_has ls 5 [(0, .ref (q 0)), (1, .int x1), (2, .int x2), (3, .int x3)] := hl
  have hK := hG.1
  have iX12 : ∀ w ∈ u_ws RX12 TX12 30, w ∈ wsX12_player := fun w h => List.mem_cons_of_mem _ (List.mem_append_right _ (h))
  generalize hQ : MQ below (Qi g out.1 [((q 0), .inr (10, oX12 q v_holder v_games v_sights v_padMany v_acts v_nothings v_wholeNow v_badAct v_badWhy v_wholeAct v_wholeWho v_keptAt v_isWriting)), ((q 1), .inl (gI g, 6, .inl v_most)), ((q 2), .inl (gI g, 6, .inl out.2.1)), ((q 3), .inl (gI g, 6, .inl out.2.2))] A) ar s 0 0 A = QQ
  unfold f_X12_player at hf
  refine lv_iload_n hx hb dX12_player_0 rfl (lv_at hl 1 rfl) ?_
  obtain ⟨z1, hq2, hf⟩ := bnd_some hf
  refine kR_i (va_runS (As := [.int x1]) (rest := []) ⟨hx, hb, hml, hown, hts⟩ (c_X12_isPlayer l g x1 z1 hq2) (va_cwS 1 hts gX12_player_X12_isPlayer rfl rfl rfl (by decide +kernel) ⟨Nat.le_of_ble_eq_true rfl, Nat.le_of_ble_eq_true rfl⟩) (kpS_R (hG.now hS) (hP.subm (ws' := []) [] rfl)) rfl rfl hl.1 rfl (lv_room (Nat.le_of_ble_eq_true rfl)) dX12_player_1 ⟨Nat.le_of_ble_eq_true rfl, Nat.le_of_ble_eq_true rfl⟩) ?_
  refine lv_if_ne (tgt := 9) hx hb dX12_player_4 (by decide) (fun c3 => ?_) (fun c3 => ?_)
  · replace hf := iff_ c3 hf
    refine lv_aload_n hx hb dX12_player_9 rfl (lv_at hl 0 rfl) ?_
    refine lv_iload_n hx hb dX12_player_10 rfl (lv_at hl 2 rfl) ?_
    obtain ⟨z4, hq5, hf⟩ := bnd_some hf
    refine kR_i (va_runV (As := [.int x2]) (rest := []) ⟨hx, hb, hml, hown, hts⟩ (c_X12_isBeetle l g q v_holder v_games v_sights v_padMany v_acts v_nothings v_wholeNow v_badAct v_badWhy v_wholeAct v_wholeWho v_keptAt v_isWriting v_most x2 z4 hq5) (cwV 1 hts gX12_player_X12_isBeetle rfl rfl rfl (by decide +kernel) ⟨Nat.le_of_ble_eq_true rfl, Nat.le_of_ble_eq_true rfl⟩) (kpV_R (q0 := 0) (ci := 10) (hG.now hS) (hP.subm (ws' := [((q 0), .inr (10, oX12 q v_holder v_games v_sights v_padMany v_acts v_nothings v_wholeNow v_badAct v_badWhy v_wholeAct v_wholeWho v_keptAt v_isWriting)), ((q 1), .inl (gI g, 6, .inl v_most))]) [0, 1] rfl) rfl rfl) rfl rfl hl.1 rfl (lv_room (Nat.le_of_ble_eq_true rfl)) dX12_player_11 ⟨Nat.le_of_ble_eq_true rfl, Nat.le_of_ble_eq_true rfl⟩) ?_
    refine lv_if_eq (tgt := 29) hx hb dX12_player_14 (by decide) (fun c6 => ?_) (fun c6 => ?_)
    · replace hf := ift c6 hf
      refine lv_bipush (v := -2) hx hb dX12_player_29 (by decide) ?_
      rw [← hQ, ← Option.some.inj hf]
      exact eM_i hx hb hr hlk hP hD hS rfl dX12_player_31
    · replace hf := iff_ c6 hf
      refine lv_iload_n hx hb dX12_player_17 rfl (lv_at hl 3 rfl) ?_
      refine lv_i2l (v := (Int32.toInt64 x3)) hx hb dX12_player_18 rfl ?_
      refine lv_lconst (v := 0) hx hb dX12_player_19 (by decide) ?_
      refine lv_ldc2 (v := 999) hx hb hown (hts (.constantLong RX12 89 (999)) (List.mem_of_getElem? (i := 1) rfl)) dX12_player_20 ?_
      obtain ⟨z7, hq8, hf⟩ := bnd_some hf
      refine kR_i (va_runS (As := [.long (Int32.toInt64 x3), .long (0 : Int64), .long (999 : Int64)]) (rest := []) ⟨hx, hb, hml, hown, hts⟩ (c_X12_in l g (Int32.toInt64 x3) (0 : Int64) (999 : Int64) z7 hq8) (va_cwS 3 hts gX12_player_X12_in rfl rfl rfl (by decide +kernel) ⟨Nat.le_of_ble_eq_true rfl, Nat.le_of_ble_eq_true rfl⟩) (kpS_R (hG.now hS) (hP.subm (ws' := []) [] rfl)) rfl rfl hl.1 rfl (lv_room (Nat.le_of_ble_eq_true rfl)) dX12_player_23 ⟨Nat.le_of_ble_eq_true rfl, Nat.le_of_ble_eq_true rfl⟩) ?_
      refine lv_if_ne (tgt := 32) hx hb dX12_player_26 (by decide) (fun c9 => ?_) (fun c9 => ?_)
      · replace hf := iff_ c9 hf
        refine lv_aload_n hx hb dX12_player_32 rfl (lv_at hl 0 rfl) ?_
        refine va_get (D := gD g) (ci := 10) (v := .ref (q 3)) (C := RX12) (T := TX12) (N := 30) hx hb hts iX12 hown hK hP 0 rfl rfl 2 (by decide) (hts (.fieldLink RX12 16 "BeetleDriveModel" "points" "[I") (List.mem_of_getElem? (i := 2) rfl)) (fun _ h9 => h9) rfl dX12_player_33 ?_
        refine lv_iload_n hx hb dX12_player_36 rfl (lv_at hl 1 rfl) ?_
        obtain ⟨hi10, hf⟩ := chk_some hf
        refine va_iald hx hb hK hP 3 0 rfl rfl hi10 dX12_player_37 ?_
        refine lv_istore (lv' := [(4, .int (v_points (Int32.toNatClampNeg x1))), (0, .ref (q 0)), (1, .int x1), (2, .int x2), (3, .int x3)]) hx hb dX12_player_38 hl (by decide) rfl (fun ls hl => ?_)
        refine lv_aload_n hx hb dX12_player_40 rfl (lv_at hl 1 rfl) ?_
        refine va_get (D := gD g) (ci := 10) (v := .ref (q 2)) (C := RX12) (T := TX12) (N := 30) hx hb hts iX12 hown hK hP 0 rfl rfl 1 (by decide) (hts (.fieldLink RX12 13 "BeetleDriveModel" "beetle" "[I") (List.mem_of_getElem? (i := 3) rfl)) (fun _ h9 => h9) rfl dX12_player_41 ?_
        refine lv_iload_n hx hb dX12_player_44 rfl (lv_at hl 2 rfl) ?_
        refine lv_iload_n hx hb dX12_player_45 rfl (lv_at hl 3 rfl) ?_
        obtain ⟨hi11, hf⟩ := chk_some hf
        refine va_iast hx hb hK hP hD hS 2 0 rfl rfl hi11 dX12_player_46 (fun H locs hP hD hS => ?_)
        have hP : va_P (gD g) vwCl [((q 0), .inr (10, oX12 q v_holder v_games v_sights v_padMany v_acts v_nothings v_wholeNow v_badAct v_badWhy v_wholeAct v_wholeWho v_keptAt v_isWriting)), ((q 1), .inl (gI g, 6, .inl v_most)), ((q 2), .inl (gI g, 6, .inl (upd v_beetle (Int32.toNatClampNeg x1) x2))), ((q 3), .inl (gI g, 6, .inl v_points))] H := hP
        have hD : va_D A [((q 0), .inr (10, oX12 q v_holder v_games v_sights v_padMany v_acts v_nothings v_wholeNow v_badAct v_badWhy v_wholeAct v_wholeWho v_keptAt v_isWriting)), ((q 1), .inl (gI g, 6, .inl v_most)), ((q 2), .inl (gI g, 6, .inl (upd v_beetle (Int32.toNatClampNeg x1) x2))), ((q 3), .inl (gI g, 6, .inl v_points))] := hD
        refine lv_aload_n hx hb dX12_player_47 rfl (lv_at hl 1 rfl) ?_
        refine va_get (D := gD g) (ci := 10) (v := .ref (q 3)) (C := RX12) (T := TX12) (N := 30) hx hb hts iX12 hown hK hP 0 rfl rfl 2 (by decide) (hts (.fieldLink RX12 16 "BeetleDriveModel" "points" "[I") (List.mem_of_getElem? (i := 2) rfl)) (fun _ h9 => h9) rfl dX12_player_48 ?_
        refine lv_iload_n hx hb dX12_player_51 rfl (lv_at hl 2 rfl) ?_
        refine lv_iload_n hx hb dX12_player_52 rfl (lv_at hl 4 rfl) ?_
        obtain ⟨hi12, hf⟩ := chk_some hf
        refine va_iast hx hb hK hP hD hS 3 0 rfl rfl hi12 dX12_player_53 (fun H locs hP hD hS => ?_)
        have hP : va_P (gD g) vwCl [((q 0), .inr (10, oX12 q v_holder v_games v_sights v_padMany v_acts v_nothings v_wholeNow v_badAct v_badWhy v_wholeAct v_wholeWho v_keptAt v_isWriting)), ((q 1), .inl (gI g, 6, .inl v_most)), ((q 2), .inl (gI g, 6, .inl (upd v_beetle (Int32.toNatClampNeg x1) x2))), ((q 3), .inl (gI g, 6, .inl (upd v_points (Int32.toNatClampNeg x1) x3)))] H := hP
        have hD : va_D A [((q 0), .inr (10, oX12 q v_holder v_games v_sights v_padMany v_acts v_nothings v_wholeNow v_badAct v_badWhy v_wholeAct v_wholeWho v_keptAt v_isWriting)), ((q 1), .inl (gI g, 6, .inl v_most)), ((q 2), .inl (gI g, 6, .inl (upd v_beetle (Int32.toNatClampNeg x1) x2))), ((q 3), .inl (gI g, 6, .inl (upd v_points (Int32.toNatClampNeg x1) x3)))] := hD
        refine lv_iload hx hb dX12_player_54 (lv_at hl 0 rfl) ?_
        rw [← hQ, ← Option.some.inj hf]
        exact eM_i hx hb hr hlk hP hD hS rfl dX12_player_56
      · replace hf := ift c9 hf
        refine lv_bipush (v := -2) hx hb dX12_player_29 (by decide) ?_
        rw [← hQ, ← Option.some.inj hf]
        exact eM_i hx hb hr hlk hP hD hS rfl dX12_player_31
  · replace hf := ift c3 hf
    refine lv_iconst (v := -1) hx hb dX12_player_7 (by decide) ?_
    rw [← hQ, ← Option.some.inj hf]
    exact eM_i hx hb hr hlk hP hD hS rfl dX12_player_8
set_option maxHeartbeats 4000000 in
set_option maxRecDepth 100000 in
theorem c_X12_die (l : Launch) (g : bG) (q : Nat → Nat) (v_holder : Int32) (v_games : Int32) (v_sights : Int32) (v_padMany : Int32) (v_acts : Int32) (v_nothings : Int32) (v_wholeNow : Int32) (v_badAct : Int32) (v_badWhy : Int32) (v_wholeAct : Int32) (v_wholeWho : Int32) (v_keptAt : Int32) (v_isWriting : Int32) (v_isIn : Nat → Int32) (x1 : Int32) (out : Int32 × Int32) (hf : f_X12_die v_isIn v_holder x1 = some out) : Mi l g yX12_die wsX12_die ({ frames := 2, cells := 0, slots := 0, locals := 45 } : Room) [.ref (q 0), .int x1] [((q 0), .inr (10, oX12 q v_holder v_games v_sights v_padMany v_acts v_nothings v_wholeNow v_badAct v_badWhy v_wholeAct v_wholeWho v_keptAt v_isWriting)), ((q 4), .inl (gI g, 6, .inl v_isIn))] out.1 [((q 0), .inr (10, oX12 q out.2 v_games v_sights v_padMany v_acts v_nothings v_wholeNow v_badAct v_badWhy v_wholeAct v_wholeWho v_keptAt v_isWriting)), ((q 4), .inl (gI g, 6, .inl v_isIn))] := by
  refine ofM (Qc := fun A => Qi g out.1 [((q 0), .inr (10, oX12 q out.2 v_games v_sights v_padMany v_acts v_nothings v_wholeNow v_badAct v_badWhy v_wholeAct v_wholeWho v_keptAt v_isWriting)), ((q 4), .inl (gI g, 6, .inl v_isIn))] A) (cc := cX12_die) (nL := 3) (ret := some .int) (by decide) rfl (Nat.le_of_ble_eq_true rfl) ?_
  intro p e s m below meth c ar A hC hA hP hD hG ls hl
  have hS : va_S A s.heap s.heap [] := va_S.rf
  obtain ⟨hx, hb, hml, hown, hts, hr, hlk, -⟩ := hC
  have hl : lv_has ls 3 [(0, .ref (q 0)), (1, .int x1)] := hl
  have hK := hG.1
  have iX12 : ∀ w ∈ u_ws RX12 TX12 30, w ∈ wsX12_die := fun w h => List.mem_cons_of_mem _ (List.mem_append_right _ (h))
  generalize hQ : MQ below (Qi g out.1 [((q 0), .inr (10, oX12 q out.2 v_games v_sights v_padMany v_acts v_nothings v_wholeNow v_badAct v_badWhy v_wholeAct v_wholeWho v_keptAt v_isWriting)), ((q 4), .inl (gI g, 6, .inl v_isIn))] A) ar s 0 0 A = QQ
  unfold f_X12_die at hf
  refine lv_iload_n hx hb dX12_die_0 rfl (lv_at hl 1 rfl) ?_
  obtain ⟨z1, hq2, hf⟩ := bnd_some hf
  refine kR_i (va_runS (As := [.int x1]) (rest := []) ⟨hx, hb, hml, hown, hts⟩ (c_X12_isPlayer l g x1 z1 hq2) (va_cwS 1 hts gX12_die_X12_isPlayer rfl rfl rfl (by decide +kernel) ⟨Nat.le_of_ble_eq_true rfl, Nat.le_of_ble_eq_true rfl⟩) (kpS_R (hG.now hS) (hP.subm (ws' := []) [] rfl)) rfl rfl hl.1 rfl (lv_room (Nat.le_of_ble_eq_true rfl)) dX12_die_1 ⟨Nat.le_of_ble_eq_true rfl, Nat.le_of_ble_eq_true rfl⟩) ?_
  refine lv_if_ne (tgt := 9) hx hb dX12_die_4 (by decide) (fun c3 => ?_) (fun c3 => ?_)
  · replace hf := iff_ c3 hf
    refine lv_aload_n hx hb dX12_die_9 rfl (lv_at hl 0 rfl) ?_
    refine va_get (D := gD g) (ci := 10) (v := .ref (q 4)) (C := RX12) (T := TX12) (N := 30) hx hb hts iX12 hown hK hP 0 rfl rfl 3 (by decide) (hts (.fieldLink RX12 19 "BeetleDriveModel" "isIn" "[I") (List.mem_of_getElem? (i := 1) rfl)) (fun _ h9 => h9) rfl dX12_die_10 ?_
    refine lv_iload_n hx hb dX12_die_13 rfl (lv_at hl 1 rfl) ?_
    obtain ⟨hi4, hf⟩ := chk_some hf
    refine va_iald hx hb hK hP 1 0 rfl rfl hi4 dX12_die_14 ?_
    refine lv_if_ne (tgt := 21) hx hb dX12_die_15 (by decide) (fun c5 => ?_) (fun c5 => ?_)
    · replace hf := iff_ c5 hf
      refine lv_aload_n hx hb dX12_die_21 rfl (lv_at hl 0 rfl) ?_
      refine va_get (D := gD g) (ci := 10) (v := .int v_holder) (C := RX12) (T := TX12) (N := 30) hx hb hts iX12 hown hK hP 0 rfl rfl 4 (by decide) (hts (.fieldLink RX12 91 "BeetleDriveModel" "holder" "I") (List.mem_of_getElem? (i := 2) rfl)) (fun _ h9 => h9) rfl dX12_die_22 ?_
      refine lv_istore_n (lv' := [(2, .int v_holder), (0, .ref (q 0)), (1, .int x1)]) hx hb dX12_die_25 rfl hl (by decide) rfl (fun ls hl => ?_)
      refine lv_aload_n hx hb dX12_die_26 rfl (lv_at hl 1 rfl) ?_
      refine lv_iload_n hx hb dX12_die_27 rfl (lv_at hl 2 rfl) ?_
      refine va_put (D := gD g) (ci := 10) (v := .int x1) (ty := .int) (C := RX12) (T := TX12) (N := 30) hx hb hts iX12 tyX12 tyX12_ok nmX12 hown hK hP hD hS 0 rfl rfl 4 (by decide) (hts (.fieldLink RX12 91 "BeetleDriveModel" "holder" "I") (List.mem_of_getElem? (i := 2) rfl)) (fun _ h9 => h9) rfl (tyX12_ok 4 (by decide)) rfl rfl (Nat.le_of_ble_eq_true rfl) dX12_die_28 (fun H locs hP hD hS => ?_)
      have hP : va_P (gD g) vwCl [((q 0), .inr (10, oX12 q x1 v_games v_sights v_padMany v_acts v_nothings v_wholeNow v_badAct v_badWhy v_wholeAct v_wholeWho v_keptAt v_isWriting)), ((q 4), .inl (gI g, 6, .inl v_isIn))] H := hP
      have hD : va_D A [((q 0), .inr (10, oX12 q x1 v_games v_sights v_padMany v_acts v_nothings v_wholeNow v_badAct v_badWhy v_wholeAct v_wholeWho v_keptAt v_isWriting)), ((q 4), .inl (gI g, 6, .inl v_isIn))] := hD
      refine lv_iload_n hx hb dX12_die_31 rfl (lv_at hl 0 rfl) ?_
      rw [← hQ, ← Option.some.inj hf]
      exact eM_i hx hb hr hlk hP hD hS rfl dX12_die_32
    · replace hf := ift c5 hf
      refine lv_bipush (v := -3) hx hb dX12_die_18 (by decide) ?_
      rw [← hQ, ← Option.some.inj hf]
      exact eM_i hx hb hr hlk hP hD hS rfl dX12_die_20
  · replace hf := ift c3 hf
    refine lv_iconst (v := -1) hx hb dX12_die_7 (by decide) ?_
    rw [← hQ, ← Option.some.inj hf]
    exact eM_i hx hb hr hlk hP hD hS rfl dX12_die_8
set_option maxHeartbeats 4000000 in
set_option maxRecDepth 100000 in
theorem c_X12_say (l : Launch) (g : bG) (q : Nat → Nat) (v_holder : Int32) (v_games : Int32) (v_sights : Int32) (v_padMany : Int32) (v_acts : Int32) (v_nothings : Int32) (v_wholeNow : Int32) (v_badAct : Int32) (v_badWhy : Int32) (v_wholeAct : Int32) (v_wholeWho : Int32) (v_keptAt : Int32) (v_isWriting : Int32) (v_pad : Nat → Int32) (x1 : Int32) (out : Int32 × (Nat → Int32) × Int32) (hf : f_X12_say v_pad v_padMany x1 = some out) : Mi l g yX12_say wsX12_say ({ frames := 1, cells := 0, slots := 0, locals := 25 } : Room) [.ref (q 0), .int x1] [((q 0), .inr (10, oX12 q v_holder v_games v_sights v_padMany v_acts v_nothings v_wholeNow v_badAct v_badWhy v_wholeAct v_wholeWho v_keptAt v_isWriting)), ((q 7), .inl (gI g, 60, .inl v_pad))] out.1 [((q 0), .inr (10, oX12 q v_holder v_games v_sights out.2.2 v_acts v_nothings v_wholeNow v_badAct v_badWhy v_wholeAct v_wholeWho v_keptAt v_isWriting)), ((q 7), .inl (gI g, 60, .inl out.2.1))] := by
  refine ofM (Qc := fun A => Qi g out.1 [((q 0), .inr (10, oX12 q v_holder v_games v_sights out.2.2 v_acts v_nothings v_wholeNow v_badAct v_badWhy v_wholeAct v_wholeWho v_keptAt v_isWriting)), ((q 7), .inl (gI g, 60, .inl out.2.1))] A) (cc := cX12_say) (nL := 2) (ret := some .int) (by decide) rfl (Nat.le_of_ble_eq_true rfl) ?_
  intro p e s m below meth c ar A hC hA hP hD hG ls hl
  have hS : va_S A s.heap s.heap [] := va_S.rf
  obtain ⟨hx, hb, hml, hown, hts, hr, hlk, -⟩ := hC
  have hl : lv_has ls 2 [(0, .ref (q 0)), (1, .int x1)] := hl
  have hK := hG.1
  have iX12 : ∀ w ∈ u_ws RX12 TX12 30, w ∈ wsX12_say := fun w h => List.mem_cons_of_mem _ (List.mem_append_right _ (h))
  generalize hQ : MQ below (Qi g out.1 [((q 0), .inr (10, oX12 q v_holder v_games v_sights out.2.2 v_acts v_nothings v_wholeNow v_badAct v_badWhy v_wholeAct v_wholeWho v_keptAt v_isWriting)), ((q 7), .inl (gI g, 60, .inl out.2.1))] A) ar s 0 0 A = QQ
  unfold f_X12_say at hf
  refine lv_iload_n hx hb dX12_say_0 rfl (lv_at hl 1 rfl) ?_
  refine lv_i2l (v := (Int32.toInt64 x1)) hx hb dX12_say_1 rfl ?_
  refine lv_ldc2 (v := 33) hx hb hown (hts (.constantLong RX12 95 (33)) (List.mem_of_getElem? (i := 1) rfl)) dX12_say_2 ?_
  refine lv_ldc2 (v := 126) hx hb hown (hts (.constantLong RX12 97 (126)) (List.mem_of_getElem? (i := 2) rfl)) dX12_say_5 ?_
  obtain ⟨z1, hq2, hf⟩ := bnd_some hf
  refine kR_i (va_runS (As := [.long (Int32.toInt64 x1), .long (33 : Int64), .long (126 : Int64)]) (rest := []) ⟨hx, hb, hml, hown, hts⟩ (c_X12_in l g (Int32.toInt64 x1) (33 : Int64) (126 : Int64) z1 hq2) (va_cwS 3 hts gX12_say_X12_in rfl rfl rfl (by decide +kernel) ⟨Nat.le_of_ble_eq_true rfl, Nat.le_of_ble_eq_true rfl⟩) (kpS_R (hG.now hS) (hP.subm (ws' := []) [] rfl)) rfl rfl hl.1 rfl (lv_room (Nat.le_of_ble_eq_true rfl)) dX12_say_8 ⟨Nat.le_of_ble_eq_true rfl, Nat.le_of_ble_eq_true rfl⟩) ?_
  refine lv_if_ne (tgt := 17) hx hb dX12_say_11 (by decide) (fun c3 => ?_) (fun c3 => ?_)
  · replace hf := iff_ c3 hf
    refine lv_aload_n hx hb dX12_say_17 rfl (lv_at hl 0 rfl) ?_
    refine va_get (D := gD g) (ci := 10) (v := .int v_padMany) (C := RX12) (T := TX12) (N := 30) hx hb hts iX12 hown hK hP 0 rfl rfl 10 (by decide) (hts (.fieldLink RX12 99 "BeetleDriveModel" "padMany" "I") (List.mem_of_getElem? (i := 3) rfl)) (fun _ h9 => h9) rfl dX12_say_18 ?_
    refine lv_bipush (v := 60) hx hb dX12_say_21 (by decide) ?_
    refine lv_icmp_ne (tgt := 29) hx hb dX12_say_23 (by decide) (fun c4 => ?_) (fun c4 => ?_)
    · replace hf := iff_ c4 hf
      refine lv_aload_n hx hb dX12_say_29 rfl (lv_at hl 0 rfl) ?_
      refine va_get (D := gD g) (ci := 10) (v := .ref (q 7)) (C := RX12) (T := TX12) (N := 30) hx hb hts iX12 hown hK hP 0 rfl rfl 9 (by decide) (hts (.fieldLink RX12 28 "BeetleDriveModel" "pad" "[I") (List.mem_of_getElem? (i := 4) rfl)) (fun _ h9 => h9) rfl dX12_say_30 ?_
      refine lv_aload_n hx hb dX12_say_33 rfl (lv_at hl 0 rfl) ?_
      refine va_get (D := gD g) (ci := 10) (v := .int v_padMany) (C := RX12) (T := TX12) (N := 30) hx hb hts iX12 hown hK hP 0 rfl rfl 10 (by decide) (hts (.fieldLink RX12 99 "BeetleDriveModel" "padMany" "I") (List.mem_of_getElem? (i := 3) rfl)) (fun _ h9 => h9) rfl dX12_say_34 ?_
      refine lv_iload_n hx hb dX12_say_37 rfl (lv_at hl 1 rfl) ?_
      obtain ⟨hi5, hf⟩ := chk_some hf
      refine va_iast hx hb hK hP hD hS 1 0 rfl rfl hi5 dX12_say_38 (fun H locs hP hD hS => ?_)
      have hP : va_P (gD g) vwCl [((q 0), .inr (10, oX12 q v_holder v_games v_sights v_padMany v_acts v_nothings v_wholeNow v_badAct v_badWhy v_wholeAct v_wholeWho v_keptAt v_isWriting)), ((q 7), .inl (gI g, 60, .inl (upd v_pad (Int32.toNatClampNeg v_padMany) x1)))] H := hP
      have hD : va_D A [((q 0), .inr (10, oX12 q v_holder v_games v_sights v_padMany v_acts v_nothings v_wholeNow v_badAct v_badWhy v_wholeAct v_wholeWho v_keptAt v_isWriting)), ((q 7), .inl (gI g, 60, .inl (upd v_pad (Int32.toNatClampNeg v_padMany) x1)))] := hD
      refine lv_aload_n hx hb dX12_say_39 rfl (lv_at hl 0 rfl) ?_
      refine lv_dup hx hb dX12_say_40 rfl ?_
      refine va_get (D := gD g) (ci := 10) (v := .int v_padMany) (C := RX12) (T := TX12) (N := 30) hx hb hts iX12 hown hK hP 0 rfl rfl 10 (by decide) (hts (.fieldLink RX12 99 "BeetleDriveModel" "padMany" "I") (List.mem_of_getElem? (i := 3) rfl)) (fun _ h9 => h9) rfl dX12_say_41 ?_
      refine lv_iconst (v := 1) hx hb dX12_say_44 (by decide) ?_
      refine lv_iadd hx hb dX12_say_45 ?_
      refine va_put (D := gD g) (ci := 10) (v := .int (v_padMany + (1 : Int32))) (ty := .int) (C := RX12) (T := TX12) (N := 30) hx hb hts iX12 tyX12 tyX12_ok nmX12 hown hK hP hD hS 0 rfl rfl 10 (by decide) (hts (.fieldLink RX12 99 "BeetleDriveModel" "padMany" "I") (List.mem_of_getElem? (i := 3) rfl)) (fun _ h9 => h9) rfl (tyX12_ok 10 (by decide)) rfl rfl (Nat.le_of_ble_eq_true rfl) dX12_say_46 (fun H locs hP hD hS => ?_)
      have hP : va_P (gD g) vwCl [((q 0), .inr (10, oX12 q v_holder v_games v_sights (v_padMany + (1 : Int32)) v_acts v_nothings v_wholeNow v_badAct v_badWhy v_wholeAct v_wholeWho v_keptAt v_isWriting)), ((q 7), .inl (gI g, 60, .inl (upd v_pad (Int32.toNatClampNeg v_padMany) x1)))] H := hP
      have hD : va_D A [((q 0), .inr (10, oX12 q v_holder v_games v_sights (v_padMany + (1 : Int32)) v_acts v_nothings v_wholeNow v_badAct v_badWhy v_wholeAct v_wholeWho v_keptAt v_isWriting)), ((q 7), .inl (gI g, 60, .inl (upd v_pad (Int32.toNatClampNeg v_padMany) x1)))] := hD
      refine lv_aload_n hx hb dX12_say_49 rfl (lv_at hl 0 rfl) ?_
      refine va_get (D := gD g) (ci := 10) (v := .int (v_padMany + (1 : Int32))) (C := RX12) (T := TX12) (N := 30) hx hb hts iX12 hown hK hP 0 rfl rfl 10 (by decide) (hts (.fieldLink RX12 99 "BeetleDriveModel" "padMany" "I") (List.mem_of_getElem? (i := 3) rfl)) (fun _ h9 => h9) rfl dX12_say_50 ?_
      rw [← hQ, ← Option.some.inj hf]
      exact eM_i hx hb hr hlk hP hD hS rfl dX12_say_53
    · replace hf := ift c4 hf
      refine lv_bipush (v := -4) hx hb dX12_say_26 (by decide) ?_
      rw [← hQ, ← Option.some.inj hf]
      exact eM_i hx hb hr hlk hP hD hS rfl dX12_say_28
  · replace hf := ift c3 hf
    refine lv_bipush (v := -2) hx hb dX12_say_14 (by decide) ?_
    rw [← hQ, ← Option.some.inj hf]
    exact eM_i hx hb hr hlk hP hD hS rfl dX12_say_16
set_option maxHeartbeats 4000000 in
set_option maxRecDepth 100000 in
theorem c_X12_wipe (l : Launch) (g : bG) (q : Nat → Nat) (v_holder : Int32) (v_games : Int32) (v_sights : Int32) (v_padMany : Int32) (v_acts : Int32) (v_nothings : Int32) (v_wholeNow : Int32) (v_badAct : Int32) (v_badWhy : Int32) (v_wholeAct : Int32) (v_wholeWho : Int32) (v_keptAt : Int32) (v_isWriting : Int32) (out : Int32 × Int32) (hf : f_X12_wipe v_padMany = some out) : Mi l g yX12_wipe wsX12_wipe ({ frames := 0, cells := 0, slots := 0, locals := 0 } : Room) [.ref (q 0)] [((q 0), .inr (10, oX12 q v_holder v_games v_sights v_padMany v_acts v_nothings v_wholeNow v_badAct v_badWhy v_wholeAct v_wholeWho v_keptAt v_isWriting))] out.1 [((q 0), .inr (10, oX12 q v_holder v_games v_sights out.2 v_acts v_nothings v_wholeNow v_badAct v_badWhy v_wholeAct v_wholeWho v_keptAt v_isWriting))] := by
  refine ofM (Qc := fun A => Qi g out.1 [((q 0), .inr (10, oX12 q v_holder v_games v_sights out.2 v_acts v_nothings v_wholeNow v_badAct v_badWhy v_wholeAct v_wholeWho v_keptAt v_isWriting))] A) (cc := cX12_wipe) (nL := 2) (ret := some .int) (by decide) rfl (Nat.le_of_ble_eq_true rfl) ?_
  intro p e s m below meth c ar A hC hA hP hD hG ls hl
  have hS : va_S A s.heap s.heap [] := va_S.rf
  obtain ⟨hx, hb, hml, hown, hts, hr, hlk, -⟩ := hC
  have hl : lv_has ls 2 [(0, .ref (q 0))] := hl
  have hK := hG.1
  have iX12 : ∀ w ∈ u_ws RX12 TX12 30, w ∈ wsX12_wipe := fun w h => List.mem_cons_of_mem _ (List.mem_append_right _ (h))
  generalize hQ : MQ below (Qi g out.1 [((q 0), .inr (10, oX12 q v_holder v_games v_sights out.2 v_acts v_nothings v_wholeNow v_badAct v_badWhy v_wholeAct v_wholeWho v_keptAt v_isWriting))] A) ar s 0 0 A = QQ
  unfold f_X12_wipe at hf
  refine lv_aload_n hx hb dX12_wipe_0 rfl (lv_at hl 0 rfl) ?_
  refine va_get (D := gD g) (ci := 10) (v := .int v_padMany) (C := RX12) (T := TX12) (N := 30) hx hb hts iX12 hown hK hP 0 rfl rfl 10 (by decide) (hts (.fieldLink RX12 99 "BeetleDriveModel" "padMany" "I") (List.mem_of_getElem? (i := 1) rfl)) (fun _ h9 => h9) rfl dX12_wipe_1 ?_
  refine lv_istore_n (lv' := [(1, .int v_padMany), (0, .ref (q 0))]) hx hb dX12_wipe_4 rfl hl (by decide) rfl (fun ls hl => ?_)
  refine lv_aload_n hx hb dX12_wipe_5 rfl (lv_at hl 1 rfl) ?_
  refine lv_iconst (v := 0) hx hb dX12_wipe_6 (by decide) ?_
  refine va_put (D := gD g) (ci := 10) (v := .int (0 : Int32)) (ty := .int) (C := RX12) (T := TX12) (N := 30) hx hb hts iX12 tyX12 tyX12_ok nmX12 hown hK hP hD hS 0 rfl rfl 10 (by decide) (hts (.fieldLink RX12 99 "BeetleDriveModel" "padMany" "I") (List.mem_of_getElem? (i := 1) rfl)) (fun _ h9 => h9) rfl (tyX12_ok 10 (by decide)) rfl rfl (Nat.le_of_ble_eq_true rfl) dX12_wipe_7 (fun H locs hP hD hS => ?_)
  have hP : va_P (gD g) vwCl [((q 0), .inr (10, oX12 q v_holder v_games v_sights (0 : Int32) v_acts v_nothings v_wholeNow v_badAct v_badWhy v_wholeAct v_wholeWho v_keptAt v_isWriting))] H := hP
  have hD : va_D A [((q 0), .inr (10, oX12 q v_holder v_games v_sights (0 : Int32) v_acts v_nothings v_wholeNow v_badAct v_badWhy v_wholeAct v_wholeWho v_keptAt v_isWriting))] := hD
  refine lv_iload_n hx hb dX12_wipe_10 rfl (lv_at hl 0 rfl) ?_
  rw [← hQ, ← Option.some.inj hf]
  exact eM_i hx hb hr hlk hP hD hS rfl dX12_wipe_11
set_option maxHeartbeats 4000000 in
set_option maxRecDepth 100000 in
theorem c_X12_close (l : Launch) (g : bG) (q : Nat → Nat) (v_holder : Int32) (v_games : Int32) (v_sights : Int32) (v_padMany : Int32) (v_acts : Int32) (v_nothings : Int32) (v_wholeNow : Int32) (v_badAct : Int32) (v_badWhy : Int32) (v_wholeAct : Int32) (v_wholeWho : Int32) (v_keptAt : Int32) (v_isWriting : Int32) (v_act : Nat → Int32) (v_much : Nat → Int32) (x1 : Int32) (x2 : Int32) (out : Int32 × (Nat → Int32) × (Nat → Int32) × Int32) (hf : f_X12_close v_act v_much v_acts x1 x2 = some out) : Mi l g yX12_close wsX12_close ({ frames := 0, cells := 0, slots := 0, locals := 0 } : Room) [.ref (q 0), .int x1, .int x2] [((q 0), .inr (10, oX12 q v_holder v_games v_sights v_padMany v_acts v_nothings v_wholeNow v_badAct v_badWhy v_wholeAct v_wholeWho v_keptAt v_isWriting)), ((q 8), .inl (gI g, 60, .inl v_act)), ((q 9), .inl (gI g, 60, .inl v_much))] out.1 [((q 0), .inr (10, oX12 q v_holder v_games v_sights v_padMany out.2.2.2 v_nothings v_wholeNow v_badAct v_badWhy v_wholeAct v_wholeWho v_keptAt v_isWriting)), ((q 8), .inl (gI g, 60, .inl out.2.1)), ((q 9), .inl (gI g, 60, .inl out.2.2.1))] := by
  refine ofM (Qc := fun A => Qi g out.1 [((q 0), .inr (10, oX12 q v_holder v_games v_sights v_padMany out.2.2.2 v_nothings v_wholeNow v_badAct v_badWhy v_wholeAct v_wholeWho v_keptAt v_isWriting)), ((q 8), .inl (gI g, 60, .inl out.2.1)), ((q 9), .inl (gI g, 60, .inl out.2.2.1))] A) (cc := cX12_close) (nL := 3) (ret := some .int) (by decide) rfl (Nat.le_of_ble_eq_true rfl) ?_
  intro p e s m below meth c ar A hC hA hP hD hG ls hl
  have hS : va_S A s.heap s.heap [] := va_S.rf
  obtain ⟨hx, hb, hml, hown, hts, hr, hlk, -⟩ := hC
  have hl : lv_has ls 3 [(0, .ref (q 0)), (1, .int x1), (2, .int x2)] := hl
  have hK := hG.1
  have iX12 : ∀ w ∈ u_ws RX12 TX12 30, w ∈ wsX12_close := fun w h => List.mem_cons_of_mem _ (List.mem_append_right _ (h))
  generalize hQ : MQ below (Qi g out.1 [((q 0), .inr (10, oX12 q v_holder v_games v_sights v_padMany out.2.2.2 v_nothings v_wholeNow v_badAct v_badWhy v_wholeAct v_wholeWho v_keptAt v_isWriting)), ((q 8), .inl (gI g, 60, .inl out.2.1)), ((q 9), .inl (gI g, 60, .inl out.2.2.1))] A) ar s 0 0 A = QQ
  unfold f_X12_close at hf
  refine lv_aload_n hx hb dX12_close_0 rfl (lv_at hl 0 rfl) ?_
  refine va_get (D := gD g) (ci := 10) (v := .ref (q 8)) (C := RX12) (T := TX12) (N := 30) hx hb hts iX12 hown hK hP 0 rfl rfl 11 (by decide) (hts (.fieldLink RX12 31 "BeetleDriveModel" "act" "[I") (List.mem_of_getElem? (i := 1) rfl)) (fun _ h9 => h9) rfl dX12_close_1 ?_
  refine lv_aload_n hx hb dX12_close_4 rfl (lv_at hl 0 rfl) ?_
  refine va_get (D := gD g) (ci := 10) (v := .int v_acts) (C := RX12) (T := TX12) (N := 30) hx hb hts iX12 hown hK hP 0 rfl rfl 13 (by decide) (hts (.fieldLink RX12 102 "BeetleDriveModel" "acts" "I") (List.mem_of_getElem? (i := 2) rfl)) (fun _ h9 => h9) rfl dX12_close_5 ?_
  refine lv_iload_n hx hb dX12_close_8 rfl (lv_at hl 1 rfl) ?_
  obtain ⟨hi1, hf⟩ := chk_some hf
  refine va_iast hx hb hK hP hD hS 1 0 rfl rfl hi1 dX12_close_9 (fun H locs hP hD hS => ?_)
  have hP : va_P (gD g) vwCl [((q 0), .inr (10, oX12 q v_holder v_games v_sights v_padMany v_acts v_nothings v_wholeNow v_badAct v_badWhy v_wholeAct v_wholeWho v_keptAt v_isWriting)), ((q 8), .inl (gI g, 60, .inl (upd v_act (Int32.toNatClampNeg v_acts) x1))), ((q 9), .inl (gI g, 60, .inl v_much))] H := hP
  have hD : va_D A [((q 0), .inr (10, oX12 q v_holder v_games v_sights v_padMany v_acts v_nothings v_wholeNow v_badAct v_badWhy v_wholeAct v_wholeWho v_keptAt v_isWriting)), ((q 8), .inl (gI g, 60, .inl (upd v_act (Int32.toNatClampNeg v_acts) x1))), ((q 9), .inl (gI g, 60, .inl v_much))] := hD
  refine lv_aload_n hx hb dX12_close_10 rfl (lv_at hl 0 rfl) ?_
  refine va_get (D := gD g) (ci := 10) (v := .ref (q 9)) (C := RX12) (T := TX12) (N := 30) hx hb hts iX12 hown hK hP 0 rfl rfl 12 (by decide) (hts (.fieldLink RX12 34 "BeetleDriveModel" "much" "[I") (List.mem_of_getElem? (i := 3) rfl)) (fun _ h9 => h9) rfl dX12_close_11 ?_
  refine lv_aload_n hx hb dX12_close_14 rfl (lv_at hl 0 rfl) ?_
  refine va_get (D := gD g) (ci := 10) (v := .int v_acts) (C := RX12) (T := TX12) (N := 30) hx hb hts iX12 hown hK hP 0 rfl rfl 13 (by decide) (hts (.fieldLink RX12 102 "BeetleDriveModel" "acts" "I") (List.mem_of_getElem? (i := 2) rfl)) (fun _ h9 => h9) rfl dX12_close_15 ?_
  refine lv_iload_n hx hb dX12_close_18 rfl (lv_at hl 2 rfl) ?_
  obtain ⟨hi2, hf⟩ := chk_some hf
  refine va_iast hx hb hK hP hD hS 2 0 rfl rfl hi2 dX12_close_19 (fun H locs hP hD hS => ?_)
  have hP : va_P (gD g) vwCl [((q 0), .inr (10, oX12 q v_holder v_games v_sights v_padMany v_acts v_nothings v_wholeNow v_badAct v_badWhy v_wholeAct v_wholeWho v_keptAt v_isWriting)), ((q 8), .inl (gI g, 60, .inl (upd v_act (Int32.toNatClampNeg v_acts) x1))), ((q 9), .inl (gI g, 60, .inl (upd v_much (Int32.toNatClampNeg v_acts) x2)))] H := hP
  have hD : va_D A [((q 0), .inr (10, oX12 q v_holder v_games v_sights v_padMany v_acts v_nothings v_wholeNow v_badAct v_badWhy v_wholeAct v_wholeWho v_keptAt v_isWriting)), ((q 8), .inl (gI g, 60, .inl (upd v_act (Int32.toNatClampNeg v_acts) x1))), ((q 9), .inl (gI g, 60, .inl (upd v_much (Int32.toNatClampNeg v_acts) x2)))] := hD
  refine lv_aload_n hx hb dX12_close_20 rfl (lv_at hl 0 rfl) ?_
  refine lv_dup hx hb dX12_close_21 rfl ?_
  refine va_get (D := gD g) (ci := 10) (v := .int v_acts) (C := RX12) (T := TX12) (N := 30) hx hb hts iX12 hown hK hP 0 rfl rfl 13 (by decide) (hts (.fieldLink RX12 102 "BeetleDriveModel" "acts" "I") (List.mem_of_getElem? (i := 2) rfl)) (fun _ h9 => h9) rfl dX12_close_22 ?_
  refine lv_iconst (v := 1) hx hb dX12_close_25 (by decide) ?_
  refine lv_iadd hx hb dX12_close_26 ?_
  refine va_put (D := gD g) (ci := 10) (v := .int (v_acts + (1 : Int32))) (ty := .int) (C := RX12) (T := TX12) (N := 30) hx hb hts iX12 tyX12 tyX12_ok nmX12 hown hK hP hD hS 0 rfl rfl 13 (by decide) (hts (.fieldLink RX12 102 "BeetleDriveModel" "acts" "I") (List.mem_of_getElem? (i := 2) rfl)) (fun _ h9 => h9) rfl (tyX12_ok 13 (by decide)) rfl rfl (Nat.le_of_ble_eq_true rfl) dX12_close_27 (fun H locs hP hD hS => ?_)
  have hP : va_P (gD g) vwCl [((q 0), .inr (10, oX12 q v_holder v_games v_sights v_padMany (v_acts + (1 : Int32)) v_nothings v_wholeNow v_badAct v_badWhy v_wholeAct v_wholeWho v_keptAt v_isWriting)), ((q 8), .inl (gI g, 60, .inl (upd v_act (Int32.toNatClampNeg v_acts) x1))), ((q 9), .inl (gI g, 60, .inl (upd v_much (Int32.toNatClampNeg v_acts) x2)))] H := hP
  have hD : va_D A [((q 0), .inr (10, oX12 q v_holder v_games v_sights v_padMany (v_acts + (1 : Int32)) v_nothings v_wholeNow v_badAct v_badWhy v_wholeAct v_wholeWho v_keptAt v_isWriting)), ((q 8), .inl (gI g, 60, .inl (upd v_act (Int32.toNatClampNeg v_acts) x1))), ((q 9), .inl (gI g, 60, .inl (upd v_much (Int32.toNatClampNeg v_acts) x2)))] := hD
  refine lv_iconst (v := 0) hx hb dX12_close_30 (by decide) ?_
  rw [← hQ, ← Option.some.inj hf]
  exact eM_i hx hb hr hlk hP hD hS rfl dX12_close_31
set_option maxHeartbeats 4000000 in
set_option maxRecDepth 100000 in
theorem c_X12_begin (l : Launch) (g : bG) (q : Nat → Nat) (v_holder : Int32) (v_games : Int32) (v_sights : Int32) (v_padMany : Int32) (v_acts : Int32) (v_nothings : Int32) (v_wholeNow : Int32) (v_badAct : Int32) (v_badWhy : Int32) (v_wholeAct : Int32) (v_wholeWho : Int32) (v_keptAt : Int32) (v_isWriting : Int32) (v_act : Nat → Int32) (v_much : Nat → Int32) (x1 : Int32) (out : Int32 × (Nat → Int32) × (Nat → Int32) × Int32) (hf : f_X12_begin v_act v_much v_acts x1 = some out) : Mi l g yX12_begin wsX12_begin ({ frames := 1, cells := 0, slots := 0, locals := 25 } : Room) [.ref (q 0), .int x1] [((q 0), .inr (10, oX12 q v_holder v_games v_sights v_padMany v_acts v_nothings v_wholeNow v_badAct v_badWhy v_wholeAct v_wholeWho v_keptAt v_isWriting)), ((q 8), .inl (gI g, 60, .inl v_act)), ((q 9), .inl (gI g, 60, .inl v_much))] out.1 [((q 0), .inr (10, oX12 q v_holder v_games v_sights v_padMany out.2.2.2 v_nothings v_wholeNow v_badAct v_badWhy v_wholeAct v_wholeWho v_keptAt v_isWriting)), ((q 8), .inl (gI g, 60, .inl out.2.1)), ((q 9), .inl (gI g, 60, .inl out.2.2.1))] := by
  refine ofM (Qc := fun A => Qi g out.1 [((q 0), .inr (10, oX12 q v_holder v_games v_sights v_padMany out.2.2.2 v_nothings v_wholeNow v_badAct v_badWhy v_wholeAct v_wholeWho v_keptAt v_isWriting)), ((q 8), .inl (gI g, 60, .inl out.2.1)), ((q 9), .inl (gI g, 60, .inl out.2.2.1))] A) (cc := cX12_begin) (nL := 2) (ret := some .int) (by decide) rfl (Nat.le_of_ble_eq_true rfl) ?_
  intro p e s m below meth c ar A hC hA hP hD hG ls hl
  have hS : va_S A s.heap s.heap [] := va_S.rf
  obtain ⟨hx, hb, hml, hown, hts, hr, hlk, -⟩ := hC
  have hl : lv_has ls 2 [(0, .ref (q 0)), (1, .int x1)] := hl
  have hK := hG.1
  have iX12 : ∀ w ∈ u_ws RX12 TX12 30, w ∈ wsX12_begin := fun w h => List.mem_cons_of_mem _ (List.mem_append_right _ (h))
  generalize hQ : MQ below (Qi g out.1 [((q 0), .inr (10, oX12 q v_holder v_games v_sights v_padMany out.2.2.2 v_nothings v_wholeNow v_badAct v_badWhy v_wholeAct v_wholeWho v_keptAt v_isWriting)), ((q 8), .inl (gI g, 60, .inl out.2.1)), ((q 9), .inl (gI g, 60, .inl out.2.2.1))] A) ar s 0 0 A = QQ
  unfold f_X12_begin at hf
  refine lv_iload_n hx hb dX12_begin_0 rfl (lv_at hl 1 rfl) ?_
  refine lv_i2l (v := (Int32.toInt64 x1)) hx hb dX12_begin_1 rfl ?_
  refine lv_ldc2 (v := 49) hx hb hown (hts (.constantLong RX12 105 (49)) (List.mem_of_getElem? (i := 1) rfl)) dX12_begin_2 ?_
  refine lv_ldc2 (v := 54) hx hb hown (hts (.constantLong RX12 107 (54)) (List.mem_of_getElem? (i := 2) rfl)) dX12_begin_5 ?_
  obtain ⟨z1, hq2, hf⟩ := bnd_some hf
  refine kR_i (va_runS (As := [.long (Int32.toInt64 x1), .long (49 : Int64), .long (54 : Int64)]) (rest := []) ⟨hx, hb, hml, hown, hts⟩ (c_X12_in l g (Int32.toInt64 x1) (49 : Int64) (54 : Int64) z1 hq2) (va_cwS 3 hts gX12_begin_X12_in rfl rfl rfl (by decide +kernel) ⟨Nat.le_of_ble_eq_true rfl, Nat.le_of_ble_eq_true rfl⟩) (kpS_R (hG.now hS) (hP.subm (ws' := []) [] rfl)) rfl rfl hl.1 rfl (lv_room (Nat.le_of_ble_eq_true rfl)) dX12_begin_8 ⟨Nat.le_of_ble_eq_true rfl, Nat.le_of_ble_eq_true rfl⟩) ?_
  refine lv_if_eq (tgt := 24) hx hb dX12_begin_11 (by decide) (fun c3 => ?_) (fun c3 => ?_)
  · replace hf := ift c3 hf
    refine lv_aload_n hx hb dX12_begin_24 rfl (lv_at hl 0 rfl) ?_
    refine va_get (D := gD g) (ci := 10) (v := .ref (q 9)) (C := RX12) (T := TX12) (N := 30) hx hb hts iX12 hown hK hP 0 rfl rfl 12 (by decide) (hts (.fieldLink RX12 34 "BeetleDriveModel" "much" "[I") (List.mem_of_getElem? (i := 3) rfl)) (fun _ h9 => h9) rfl dX12_begin_25 ?_
    refine lv_aload_n hx hb dX12_begin_28 rfl (lv_at hl 0 rfl) ?_
    refine va_get (D := gD g) (ci := 10) (v := .int v_acts) (C := RX12) (T := TX12) (N := 30) hx hb hts iX12 hown hK hP 0 rfl rfl 13 (by decide) (hts (.fieldLink RX12 102 "BeetleDriveModel" "acts" "I") (List.mem_of_getElem? (i := 4) rfl)) (fun _ h9 => h9) rfl dX12_begin_29 ?_
    refine lv_iload_n hx hb dX12_begin_32 rfl (lv_at hl 1 rfl) ?_
    refine lv_bipush (v := 65) hx hb dX12_begin_33 (by decide) ?_
    refine lv_isub hx hb dX12_begin_35 ?_
    obtain ⟨hi4, hf⟩ := chk_some hf
    refine va_iast hx hb hK hP hD hS 2 0 rfl rfl hi4 dX12_begin_36 (fun H locs hP hD hS => ?_)
    have hP : va_P (gD g) vwCl [((q 0), .inr (10, oX12 q v_holder v_games v_sights v_padMany v_acts v_nothings v_wholeNow v_badAct v_badWhy v_wholeAct v_wholeWho v_keptAt v_isWriting)), ((q 8), .inl (gI g, 60, .inl v_act)), ((q 9), .inl (gI g, 60, .inl (upd v_much (Int32.toNatClampNeg v_acts) (x1 - (65 : Int32)))))] H := hP
    have hD : va_D A [((q 0), .inr (10, oX12 q v_holder v_games v_sights v_padMany v_acts v_nothings v_wholeNow v_badAct v_badWhy v_wholeAct v_wholeWho v_keptAt v_isWriting)), ((q 8), .inl (gI g, 60, .inl v_act)), ((q 9), .inl (gI g, 60, .inl (upd v_much (Int32.toNatClampNeg v_acts) (x1 - (65 : Int32)))))] := hD
    refine lv_iload_n hx hb dX12_begin_37 rfl (lv_at hl 1 rfl) ?_
    refine lv_bipush (v := 46) hx hb dX12_begin_38 (by decide) ?_
    refine lv_icmp_ne (tgt := 52) hx hb dX12_begin_40 (by decide) (fun c5 => ?_) (fun c5 => ?_)
    · replace hf := iff_ c5 hf
      refine lv_iload_n hx hb dX12_begin_52 rfl (lv_at hl 1 rfl) ?_
      refine lv_i2l (v := (Int32.toInt64 x1)) hx hb dX12_begin_53 rfl ?_
      refine lv_ldc2 (v := 65) hx hb hown (hts (.constantLong RX12 112 (65)) (List.mem_of_getElem? (i := 5) rfl)) dX12_begin_54 ?_
      refine lv_ldc2 (v := 70) hx hb hown (hts (.constantLong RX12 114 (70)) (List.mem_of_getElem? (i := 6) rfl)) dX12_begin_57 ?_
      obtain ⟨z6, hq7, hf⟩ := bnd_some hf
      refine kR_i (va_runS (As := [.long (Int32.toInt64 x1), .long (65 : Int64), .long (70 : Int64)]) (rest := []) ⟨hx, hb, hml, hown, hts⟩ (c_X12_in l g (Int32.toInt64 x1) (65 : Int64) (70 : Int64) z6 hq7) (va_cwS 3 hts gX12_begin_X12_in rfl rfl rfl (by decide +kernel) ⟨Nat.le_of_ble_eq_true rfl, Nat.le_of_ble_eq_true rfl⟩) (kpS_R (hG.now hS) (hP.subm (ws' := []) [] rfl)) rfl rfl hl.1 rfl (lv_room (Nat.le_of_ble_eq_true rfl)) dX12_begin_60 ⟨Nat.le_of_ble_eq_true rfl, Nat.le_of_ble_eq_true rfl⟩) ?_
      refine lv_if_eq (tgt := 70) hx hb dX12_begin_63 (by decide) (fun c8 => ?_) (fun c8 => ?_)
      · replace hf := ift c8 hf
        refine lv_bipush (v := -6) hx hb dX12_begin_70 (by decide) ?_
        rw [← hQ, ← Option.some.inj hf]
        exact eM_i hx hb hr hlk hP hD hS rfl dX12_begin_72
      · replace hf := iff_ c8 hf
        refine lv_iconst (v := 1) hx hb dX12_begin_66 (by decide) ?_
        refine lv_goto (tgt := 72) hx hb dX12_begin_67 (by decide) ?_
        rw [← hQ, ← Option.some.inj hf]
        exact eM_i hx hb hr hlk hP hD hS rfl dX12_begin_72
    · replace hf := ift c5 hf
      refine lv_aload_n hx hb dX12_begin_43 rfl (lv_at hl 0 rfl) ?_
      refine lv_iconst (v := 1) hx hb dX12_begin_44 (by decide) ?_
      refine lv_iconst (v := 0) hx hb dX12_begin_45 (by decide) ?_
      obtain ⟨z9, hq10, hf⟩ := bnd_some hf
      refine kM_i (wc := [((q 0), .inr (10, oX12 q v_holder v_games v_sights v_padMany v_acts v_nothings v_wholeNow v_badAct v_badWhy v_wholeAct v_wholeWho v_keptAt v_isWriting)), ((q 8), .inl (gI g, 60, .inl v_act)), ((q 9), .inl (gI g, 60, .inl (upd v_much (Int32.toNatClampNeg v_acts) (x1 - (65 : Int32)))))]) (wr := []) (w1 := [((q 0), .inr (10, oX12 q v_holder v_games v_sights v_padMany z9.2.2.2 v_nothings v_wholeNow v_badAct v_badWhy v_wholeAct v_wholeWho v_keptAt v_isWriting)), ((q 8), .inl (gI g, 60, .inl z9.2.1)), ((q 9), .inl (gI g, 60, .inl z9.2.2.1))]) (w2 := [((q 0), .inr (10, oX12 q v_holder v_games v_sights v_padMany z9.2.2.2 v_nothings v_wholeNow v_badAct v_badWhy v_wholeAct v_wholeWho v_keptAt v_isWriting)), ((q 8), .inl (gI g, 60, .inl z9.2.1)), ((q 9), .inl (gI g, 60, .inl z9.2.2.1))]) (va_runV (As := [.int (1 : Int32), .int (0 : Int32)]) (rest := []) ⟨hx, hb, hml, hown, hts⟩ (c_X12_close l g q v_holder v_games v_sights v_padMany v_acts v_nothings v_wholeNow v_badAct v_badWhy v_wholeAct v_wholeWho v_keptAt v_isWriting v_act (upd v_much (Int32.toNatClampNeg v_acts) (x1 - (65 : Int32))) (1 : Int32) (0 : Int32) z9 hq10 H.size) (cwV 2 hts gX12_begin_X12_close rfl rfl rfl (by decide +kernel) ⟨Nat.le_of_ble_eq_true rfl, Nat.le_of_ble_eq_true rfl⟩) (kpV_M (q0 := 0) (ci := 10) hG hS hP hD hA [0, 1, 2] rfl (by decide) rfl rfl) rfl rfl hl.1 rfl (lv_room (Nat.le_of_ble_eq_true rfl)) dX12_begin_46 ⟨Nat.le_of_ble_eq_true rfl, Nat.le_of_ble_eq_true rfl⟩) hP hD hS hA [0, 1, 2] [] [0, 1, 2] rfl rfl (by decide) (by decide) rfl (by decide) (fun H locs hP hD hS => ?_)
      refine lv_goto (tgt := 72) hx hb dX12_begin_49 (by decide) ?_
      rw [← hQ, ← Option.some.inj hf]
      exact eM_i hx hb hr hlk hP hD hS rfl dX12_begin_72
  · replace hf := iff_ c3 hf
    refine lv_aload_n hx hb dX12_begin_14 rfl (lv_at hl 0 rfl) ?_
    refine lv_iconst (v := 0) hx hb dX12_begin_15 (by decide) ?_
    refine lv_iload_n hx hb dX12_begin_16 rfl (lv_at hl 1 rfl) ?_
    refine lv_bipush (v := 48) hx hb dX12_begin_17 (by decide) ?_
    refine lv_isub hx hb dX12_begin_19 ?_
    obtain ⟨z11, hq12, hf⟩ := bnd_some hf
    refine kM_i (wc := [((q 0), .inr (10, oX12 q v_holder v_games v_sights v_padMany v_acts v_nothings v_wholeNow v_badAct v_badWhy v_wholeAct v_wholeWho v_keptAt v_isWriting)), ((q 8), .inl (gI g, 60, .inl v_act)), ((q 9), .inl (gI g, 60, .inl v_much))]) (wr := []) (w1 := [((q 0), .inr (10, oX12 q v_holder v_games v_sights v_padMany z11.2.2.2 v_nothings v_wholeNow v_badAct v_badWhy v_wholeAct v_wholeWho v_keptAt v_isWriting)), ((q 8), .inl (gI g, 60, .inl z11.2.1)), ((q 9), .inl (gI g, 60, .inl z11.2.2.1))]) (w2 := [((q 0), .inr (10, oX12 q v_holder v_games v_sights v_padMany z11.2.2.2 v_nothings v_wholeNow v_badAct v_badWhy v_wholeAct v_wholeWho v_keptAt v_isWriting)), ((q 8), .inl (gI g, 60, .inl z11.2.1)), ((q 9), .inl (gI g, 60, .inl z11.2.2.1))]) (va_runV (As := [.int (0 : Int32), .int (x1 - (48 : Int32))]) (rest := []) ⟨hx, hb, hml, hown, hts⟩ (c_X12_close l g q v_holder v_games v_sights v_padMany v_acts v_nothings v_wholeNow v_badAct v_badWhy v_wholeAct v_wholeWho v_keptAt v_isWriting v_act v_much (0 : Int32) (x1 - (48 : Int32)) z11 hq12 s.heap.size) (cwV 2 hts gX12_begin_X12_close rfl rfl rfl (by decide +kernel) ⟨Nat.le_of_ble_eq_true rfl, Nat.le_of_ble_eq_true rfl⟩) (kpV_M (q0 := 0) (ci := 10) hG hS hP hD hA [0, 1, 2] rfl (by decide) rfl rfl) rfl rfl hl.1 rfl (lv_room (Nat.le_of_ble_eq_true rfl)) dX12_begin_20 ⟨Nat.le_of_ble_eq_true rfl, Nat.le_of_ble_eq_true rfl⟩) hP hD hS hA [0, 1, 2] [] [0, 1, 2] rfl rfl (by decide) (by decide) rfl (by decide) (fun H locs hP hD hS => ?_)
    rw [← hQ, ← Option.some.inj hf]
    exact eM_i hx hb hr hlk hP hD hS rfl dX12_begin_23
set_option maxHeartbeats 4000000 in
set_option maxRecDepth 100000 in
theorem c_X12_deed (l : Launch) (g : bG) (q : Nat → Nat) (v_holder : Int32) (v_games : Int32) (v_sights : Int32) (v_padMany : Int32) (v_acts : Int32) (v_nothings : Int32) (v_wholeNow : Int32) (v_badAct : Int32) (v_badWhy : Int32) (v_wholeAct : Int32) (v_wholeWho : Int32) (v_keptAt : Int32) (v_isWriting : Int32) (v_act : Nat → Int32) (v_much : Nat → Int32) (x1 : Int32) (out : Int32 × (Nat → Int32) × (Nat → Int32) × Int32) (hf : f_X12_deed v_act v_much v_acts x1 = some out) : Mi l g yX12_deed wsX12_deed ({ frames := 1, cells := 0, slots := 0, locals := 22 } : Room) [.ref (q 0), .int x1] [((q 0), .inr (10, oX12 q v_holder v_games v_sights v_padMany v_acts v_nothings v_wholeNow v_badAct v_badWhy v_wholeAct v_wholeWho v_keptAt v_isWriting)), ((q 8), .inl (gI g, 60, .inl v_act)), ((q 9), .inl (gI g, 60, .inl v_much))] out.1 [((q 0), .inr (10, oX12 q v_holder v_games v_sights v_padMany out.2.2.2 v_nothings v_wholeNow v_badAct v_badWhy v_wholeAct v_wholeWho v_keptAt v_isWriting)), ((q 8), .inl (gI g, 60, .inl out.2.1)), ((q 9), .inl (gI g, 60, .inl out.2.2.1))] := by
  refine ofM (Qc := fun A => Qi g out.1 [((q 0), .inr (10, oX12 q v_holder v_games v_sights v_padMany out.2.2.2 v_nothings v_wholeNow v_badAct v_badWhy v_wholeAct v_wholeWho v_keptAt v_isWriting)), ((q 8), .inl (gI g, 60, .inl out.2.1)), ((q 9), .inl (gI g, 60, .inl out.2.2.1))] A) (cc := cX12_deed) (nL := 2) (ret := some .int) (by decide) rfl (Nat.le_of_ble_eq_true rfl) ?_
  intro p e s m below meth c ar A hC hA hP hD hG ls hl
  have hS : va_S A s.heap s.heap [] := va_S.rf
  obtain ⟨hx, hb, hml, hown, hts, hr, hlk, -⟩ := hC
  have hl : lv_has ls 2 [(0, .ref (q 0)), (1, .int x1)] := hl
  have hK := hG.1
  have iX12 : ∀ w ∈ u_ws RX12 TX12 30, w ∈ wsX12_deed := fun w h => List.mem_cons_of_mem _ (List.mem_append_right _ (h))
  generalize hQ : MQ below (Qi g out.1 [((q 0), .inr (10, oX12 q v_holder v_games v_sights v_padMany out.2.2.2 v_nothings v_wholeNow v_badAct v_badWhy v_wholeAct v_wholeWho v_keptAt v_isWriting)), ((q 8), .inl (gI g, 60, .inl out.2.1)), ((q 9), .inl (gI g, 60, .inl out.2.2.1))] A) ar s 0 0 A = QQ
  unfold f_X12_deed at hf
  refine lv_iload_n hx hb dX12_deed_0 rfl (lv_at hl 1 rfl) ?_
  refine lv_bipush (v := 33) hx hb dX12_deed_1 (by decide) ?_
  refine lv_icmp_ne (tgt := 23) hx hb dX12_deed_3 (by decide) (fun c1 => ?_) (fun c1 => ?_)
  · replace hf := iff_ c1 hf
    refine lv_iload_n hx hb dX12_deed_23 rfl (lv_at hl 1 rfl) ?_
    refine lv_bipush (v := 35) hx hb dX12_deed_24 (by decide) ?_
    refine lv_icmp_ne (tgt := 46) hx hb dX12_deed_26 (by decide) (fun c2 => ?_) (fun c2 => ?_)
    · replace hf := iff_ c2 hf
      refine lv_bipush (v := -6) hx hb dX12_deed_46 (by decide) ?_
      rw [← hQ, ← Option.some.inj hf]
      exact eM_i hx hb hr hlk hP hD hS rfl dX12_deed_48
    · replace hf := ift c2 hf
      refine lv_aload_n hx hb dX12_deed_29 rfl (lv_at hl 0 rfl) ?_
      refine lv_iconst (v := 3) hx hb dX12_deed_30 (by decide) ?_
      refine lv_aload_n hx hb dX12_deed_31 rfl (lv_at hl 0 rfl) ?_
      refine va_get (D := gD g) (ci := 10) (v := .ref (q 9)) (C := RX12) (T := TX12) (N := 30) hx hb hts iX12 hown hK hP 0 rfl rfl 12 (by decide) (hts (.fieldLink RX12 34 "BeetleDriveModel" "much" "[I") (List.mem_of_getElem? (i := 1) rfl)) (fun _ h9 => h9) rfl dX12_deed_32 ?_
      refine lv_aload_n hx hb dX12_deed_35 rfl (lv_at hl 0 rfl) ?_
      refine va_get (D := gD g) (ci := 10) (v := .int v_acts) (C := RX12) (T := TX12) (N := 30) hx hb hts iX12 hown hK hP 0 rfl rfl 13 (by decide) (hts (.fieldLink RX12 102 "BeetleDriveModel" "acts" "I") (List.mem_of_getElem? (i := 2) rfl)) (fun _ h9 => h9) rfl dX12_deed_36 ?_
      obtain ⟨hi3, hf⟩ := chk_some hf
      refine va_iald hx hb hK hP 2 0 rfl rfl hi3 dX12_deed_39 ?_
      obtain ⟨z4, hq5, hf⟩ := bnd_some hf
      refine kM_i (wc := [((q 0), .inr (10, oX12 q v_holder v_games v_sights v_padMany v_acts v_nothings v_wholeNow v_badAct v_badWhy v_wholeAct v_wholeWho v_keptAt v_isWriting)), ((q 8), .inl (gI g, 60, .inl v_act)), ((q 9), .inl (gI g, 60, .inl v_much))]) (wr := []) (w1 := [((q 0), .inr (10, oX12 q v_holder v_games v_sights v_padMany z4.2.2.2 v_nothings v_wholeNow v_badAct v_badWhy v_wholeAct v_wholeWho v_keptAt v_isWriting)), ((q 8), .inl (gI g, 60, .inl z4.2.1)), ((q 9), .inl (gI g, 60, .inl z4.2.2.1))]) (w2 := [((q 0), .inr (10, oX12 q v_holder v_games v_sights v_padMany z4.2.2.2 v_nothings v_wholeNow v_badAct v_badWhy v_wholeAct v_wholeWho v_keptAt v_isWriting)), ((q 8), .inl (gI g, 60, .inl z4.2.1)), ((q 9), .inl (gI g, 60, .inl z4.2.2.1))]) (va_runV (As := [.int (3 : Int32), .int (v_much (Int32.toNatClampNeg v_acts))]) (rest := []) ⟨hx, hb, hml, hown, hts⟩ (c_X12_close l g q v_holder v_games v_sights v_padMany v_acts v_nothings v_wholeNow v_badAct v_badWhy v_wholeAct v_wholeWho v_keptAt v_isWriting v_act v_much (3 : Int32) (v_much (Int32.toNatClampNeg v_acts)) z4 hq5 s.heap.size) (cwV 2 hts gX12_deed_X12_close rfl rfl rfl (by decide +kernel) ⟨Nat.le_of_ble_eq_true rfl, Nat.le_of_ble_eq_true rfl⟩) (kpV_M (q0 := 0) (ci := 10) hG hS hP hD hA [0, 1, 2] rfl (by decide) rfl rfl) rfl rfl hl.1 rfl (lv_room (Nat.le_of_ble_eq_true rfl)) dX12_deed_40 ⟨Nat.le_of_ble_eq_true rfl, Nat.le_of_ble_eq_true rfl⟩) hP hD hS hA [0, 1, 2] [] [0, 1, 2] rfl rfl (by decide) (by decide) rfl (by decide) (fun H locs hP hD hS => ?_)
      refine lv_goto (tgt := 48) hx hb dX12_deed_43 (by decide) ?_
      rw [← hQ, ← Option.some.inj hf]
      exact eM_i hx hb hr hlk hP hD hS rfl dX12_deed_48
  · replace hf := ift c1 hf
    refine lv_aload_n hx hb dX12_deed_6 rfl (lv_at hl 0 rfl) ?_
    refine lv_iconst (v := 2) hx hb dX12_deed_7 (by decide) ?_
    refine lv_aload_n hx hb dX12_deed_8 rfl (lv_at hl 0 rfl) ?_
    refine va_get (D := gD g) (ci := 10) (v := .ref (q 9)) (C := RX12) (T := TX12) (N := 30) hx hb hts iX12 hown hK hP 0 rfl rfl 12 (by decide) (hts (.fieldLink RX12 34 "BeetleDriveModel" "much" "[I") (List.mem_of_getElem? (i := 1) rfl)) (fun _ h9 => h9) rfl dX12_deed_9 ?_
    refine lv_aload_n hx hb dX12_deed_12 rfl (lv_at hl 0 rfl) ?_
    refine va_get (D := gD g) (ci := 10) (v := .int v_acts) (C := RX12) (T := TX12) (N := 30) hx hb hts iX12 hown hK hP 0 rfl rfl 13 (by decide) (hts (.fieldLink RX12 102 "BeetleDriveModel" "acts" "I") (List.mem_of_getElem? (i := 2) rfl)) (fun _ h9 => h9) rfl dX12_deed_13 ?_
    obtain ⟨hi6, hf⟩ := chk_some hf
    refine va_iald hx hb hK hP 2 0 rfl rfl hi6 dX12_deed_16 ?_
    obtain ⟨z7, hq8, hf⟩ := bnd_some hf
    refine kM_i (wc := [((q 0), .inr (10, oX12 q v_holder v_games v_sights v_padMany v_acts v_nothings v_wholeNow v_badAct v_badWhy v_wholeAct v_wholeWho v_keptAt v_isWriting)), ((q 8), .inl (gI g, 60, .inl v_act)), ((q 9), .inl (gI g, 60, .inl v_much))]) (wr := []) (w1 := [((q 0), .inr (10, oX12 q v_holder v_games v_sights v_padMany z7.2.2.2 v_nothings v_wholeNow v_badAct v_badWhy v_wholeAct v_wholeWho v_keptAt v_isWriting)), ((q 8), .inl (gI g, 60, .inl z7.2.1)), ((q 9), .inl (gI g, 60, .inl z7.2.2.1))]) (w2 := [((q 0), .inr (10, oX12 q v_holder v_games v_sights v_padMany z7.2.2.2 v_nothings v_wholeNow v_badAct v_badWhy v_wholeAct v_wholeWho v_keptAt v_isWriting)), ((q 8), .inl (gI g, 60, .inl z7.2.1)), ((q 9), .inl (gI g, 60, .inl z7.2.2.1))]) (va_runV (As := [.int (2 : Int32), .int (v_much (Int32.toNatClampNeg v_acts))]) (rest := []) ⟨hx, hb, hml, hown, hts⟩ (c_X12_close l g q v_holder v_games v_sights v_padMany v_acts v_nothings v_wholeNow v_badAct v_badWhy v_wholeAct v_wholeWho v_keptAt v_isWriting v_act v_much (2 : Int32) (v_much (Int32.toNatClampNeg v_acts)) z7 hq8 s.heap.size) (cwV 2 hts gX12_deed_X12_close rfl rfl rfl (by decide +kernel) ⟨Nat.le_of_ble_eq_true rfl, Nat.le_of_ble_eq_true rfl⟩) (kpV_M (q0 := 0) (ci := 10) hG hS hP hD hA [0, 1, 2] rfl (by decide) rfl rfl) rfl rfl hl.1 rfl (lv_room (Nat.le_of_ble_eq_true rfl)) dX12_deed_17 ⟨Nat.le_of_ble_eq_true rfl, Nat.le_of_ble_eq_true rfl⟩) hP hD hS hA [0, 1, 2] [] [0, 1, 2] rfl rfl (by decide) (by decide) rfl (by decide) (fun H locs hP hD hS => ?_)
    refine lv_goto (tgt := 48) hx hb dX12_deed_20 (by decide) ?_
    rw [← hQ, ← Option.some.inj hf]
    exact eM_i hx hb hr hlk hP hD hS rfl dX12_deed_48
set_option maxHeartbeats 4000000 in
set_option maxRecDepth 100000 in
theorem c_X12_fault (l : Launch) (g : bG) (q : Nat → Nat) (v_holder : Int32) (v_games : Int32) (v_sights : Int32) (v_padMany : Int32) (v_acts : Int32) (v_nothings : Int32) (v_wholeNow : Int32) (v_badAct : Int32) (v_badWhy : Int32) (v_wholeAct : Int32) (v_wholeWho : Int32) (v_keptAt : Int32) (v_isWriting : Int32) (v_pad : Nat → Int32) (v_act : Nat → Int32) (v_much : Nat → Int32) (out : Int32 × (Nat → Int32) × (Nat → Int32) × Int32) (hf : f_X12_fault v_pad v_padMany v_act v_much v_acts = some out) : Mi l g yX12_fault wsX12_fault ({ frames := 2, cells := 0, slots := 0, locals := 46 } : Room) [.ref (q 0)] [((q 0), .inr (10, oX12 q v_holder v_games v_sights v_padMany v_acts v_nothings v_wholeNow v_badAct v_badWhy v_wholeAct v_wholeWho v_keptAt v_isWriting)), ((q 7), .inl (gI g, 60, .inl v_pad)), ((q 8), .inl (gI g, 60, .inl v_act)), ((q 9), .inl (gI g, 60, .inl v_much))] out.1 [((q 0), .inr (10, oX12 q v_holder v_games v_sights v_padMany out.2.2.2 v_nothings v_wholeNow v_badAct v_badWhy v_wholeAct v_wholeWho v_keptAt v_isWriting)), ((q 7), .inl (gI g, 60, .inl v_pad)), ((q 8), .inl (gI g, 60, .inl out.2.1)), ((q 9), .inl (gI g, 60, .inl out.2.2.1))] := by
  refine ofM (Qc := fun A => Qi g out.1 [((q 0), .inr (10, oX12 q v_holder v_games v_sights v_padMany out.2.2.2 v_nothings v_wholeNow v_badAct v_badWhy v_wholeAct v_wholeWho v_keptAt v_isWriting)), ((q 7), .inl (gI g, 60, .inl v_pad)), ((q 8), .inl (gI g, 60, .inl out.2.1)), ((q 9), .inl (gI g, 60, .inl out.2.2.1))] A) (cc := cX12_fault) (nL := 3) (ret := some .int) (by decide) rfl (Nat.le_of_ble_eq_true rfl) ?_
  intro p e s m below meth c ar A hC hA hP hD hG ls hl
  have hS : va_S A s.heap s.heap [] := va_S.rf
  obtain ⟨hx, hb, hml, hown, hts, hr, hlk, -⟩ := hC
  have hl : lv_has ls 3 [(0, .ref (q 0))] := hl
  have hK := hG.1
  have iX12 : ∀ w ∈ u_ws RX12 TX12 30, w ∈ wsX12_fault := fun w h => List.mem_cons_of_mem _ (List.mem_append_right _ (h))
  generalize hQ : MQ below (Qi g out.1 [((q 0), .inr (10, oX12 q v_holder v_games v_sights v_padMany out.2.2.2 v_nothings v_wholeNow v_badAct v_badWhy v_wholeAct v_wholeWho v_keptAt v_isWriting)), ((q 7), .inl (gI g, 60, .inl v_pad)), ((q 8), .inl (gI g, 60, .inl out.2.1)), ((q 9), .inl (gI g, 60, .inl out.2.2.1))] A) ar s 0 0 A = QQ
  have w_9 : ∀ n : Nat, ∀ (x1 : Int32) (x2 : Int32) (v_act : Nat → Int32) (v_much : Nat → Int32) (v_acts : Int32), f_X12_fault_b9 v_pad v_padMany n x1 x2 v_act v_much v_acts = some out → ∀ (H : Heap) (locs : List Loc), va_P (gD g) vwCl [((q 0), .inr (10, oX12 q v_holder v_games v_sights v_padMany v_acts v_nothings v_wholeNow v_badAct v_badWhy v_wholeAct v_wholeWho v_keptAt v_isWriting)), ((q 7), .inl (gI g, 60, .inl v_pad)), ((q 8), .inl (gI g, 60, .inl v_act)), ((q 9), .inl (gI g, 60, .inl v_much))] H → va_D A [((q 0), .inr (10, oX12 q v_holder v_games v_sights v_padMany v_acts v_nothings v_wholeNow v_badAct v_badWhy v_wholeAct v_wholeWho v_keptAt v_isWriting)), ((q 7), .inl (gI g, 60, .inl v_pad)), ((q 8), .inl (gI g, 60, .inl v_act)), ((q 9), .inl (gI g, 60, .inl v_much))] → va_S A s.heap H locs → ∀ ls : Array Slot, lv_has ls 3 [(0, .ref (q 0)), (1, .int x1), (2, .int x2)] → W p l e ({ frames := 2, cells := 0, slots := 0, locals := 46 } : Room) s m ar below meth c H locs 0 0 QQ (F0 m 9 ls []) := by
    intro n
    induction n with
    | zero =>
      intro x1 x2 v_act v_much v_acts hf
      rw [f_X12_fault_b9_z] at hf
      cases hf
    | succ n ih =>
      intro x1 x2 v_act v_much v_acts hf H locs hP hD hS ls hl
      rw [f_X12_fault_b9_s] at hf
      refine lv_iload_n hx hb dX12_fault_9 rfl (lv_at hl 2 rfl) ?_
      refine lv_aload_n hx hb dX12_fault_10 rfl (lv_at hl 0 rfl) ?_
      refine va_get (D := gD g) (ci := 10) (v := .int v_padMany) (C := RX12) (T := TX12) (N := 30) hx hb hts iX12 hown hK hP 0 rfl rfl 10 (by decide) (hts (.fieldLink RX12 99 "BeetleDriveModel" "padMany" "I") (List.mem_of_getElem? (i := 2) rfl)) (fun _ h9 => h9) rfl dX12_fault_11 ?_
      refine lv_icmp_ge (tgt := 57) hx hb dX12_fault_14 (by decide) (fun c1 => ?_) (fun c1 => ?_)
      · replace hf := ift c1 hf
        refine lv_iload_n hx hb dX12_fault_57 rfl (lv_at hl 1 rfl) ?_
        refine lv_if_ne (tgt := 66) hx hb dX12_fault_58 (by decide) (fun c2 => ?_) (fun c2 => ?_)
        · replace hf := iff_ c2 hf
          refine lv_aload_n hx hb dX12_fault_66 rfl (lv_at hl 0 rfl) ?_
          refine va_get (D := gD g) (ci := 10) (v := .int v_padMany) (C := RX12) (T := TX12) (N := 30) hx hb hts iX12 hown hK hP 0 rfl rfl 10 (by decide) (hts (.fieldLink RX12 99 "BeetleDriveModel" "padMany" "I") (List.mem_of_getElem? (i := 2) rfl)) (fun _ h9 => h9) rfl dX12_fault_67 ?_
          rw [← hQ, ← Option.some.inj hf]
          exact eM_i hx hb hr hlk hP hD hS rfl dX12_fault_70
        · replace hf := ift c2 hf
          refine lv_bipush (v := -6) hx hb dX12_fault_61 (by decide) ?_
          refine lv_goto (tgt := 70) hx hb dX12_fault_63 (by decide) ?_
          rw [← hQ, ← Option.some.inj hf]
          exact eM_i hx hb hr hlk hP hD hS rfl dX12_fault_70
      · replace hf := iff_ c1 hf
        refine lv_iload_n hx hb dX12_fault_17 rfl (lv_at hl 1 rfl) ?_
        refine lv_if_ne (tgt := 34) hx hb dX12_fault_18 (by decide) (fun c3 => ?_) (fun c3 => ?_)
        · replace hf := iff_ c3 hf
          refine lv_aload_n hx hb dX12_fault_34 rfl (lv_at hl 0 rfl) ?_
          refine lv_aload_n hx hb dX12_fault_35 rfl (lv_at hl 0 rfl) ?_
          refine va_get (D := gD g) (ci := 10) (v := .ref (q 7)) (C := RX12) (T := TX12) (N := 30) hx hb hts iX12 hown hK hP 0 rfl rfl 9 (by decide) (hts (.fieldLink RX12 28 "BeetleDriveModel" "pad" "[I") (List.mem_of_getElem? (i := 3) rfl)) (fun _ h9 => h9) rfl dX12_fault_36 ?_
          refine lv_iload_n hx hb dX12_fault_39 rfl (lv_at hl 2 rfl) ?_
          obtain ⟨hi4, hf⟩ := chk_some hf
          refine va_iald hx hb hK hP 1 0 rfl rfl hi4 dX12_fault_40 ?_
          obtain ⟨z5, hq6, hf⟩ := bnd_some hf
          refine kM_i (wc := [((q 0), .inr (10, oX12 q v_holder v_games v_sights v_padMany v_acts v_nothings v_wholeNow v_badAct v_badWhy v_wholeAct v_wholeWho v_keptAt v_isWriting)), ((q 8), .inl (gI g, 60, .inl v_act)), ((q 9), .inl (gI g, 60, .inl v_much))]) (wr := [((q 7), .inl (gI g, 60, .inl v_pad))]) (w1 := [((q 0), .inr (10, oX12 q v_holder v_games v_sights v_padMany z5.2.2.2 v_nothings v_wholeNow v_badAct v_badWhy v_wholeAct v_wholeWho v_keptAt v_isWriting)), ((q 8), .inl (gI g, 60, .inl z5.2.1)), ((q 9), .inl (gI g, 60, .inl z5.2.2.1))]) (w2 := [((q 0), .inr (10, oX12 q v_holder v_games v_sights v_padMany z5.2.2.2 v_nothings v_wholeNow v_badAct v_badWhy v_wholeAct v_wholeWho v_keptAt v_isWriting)), ((q 7), .inl (gI g, 60, .inl v_pad)), ((q 8), .inl (gI g, 60, .inl z5.2.1)), ((q 9), .inl (gI g, 60, .inl z5.2.2.1))]) (va_runV (As := [.int (v_pad (Int32.toNatClampNeg x2))]) (rest := []) ⟨hx, hb, hml, hown, hts⟩ (c_X12_deed l g q v_holder v_games v_sights v_padMany v_acts v_nothings v_wholeNow v_badAct v_badWhy v_wholeAct v_wholeWho v_keptAt v_isWriting v_act v_much (v_pad (Int32.toNatClampNeg x2)) z5 hq6 H.size) (cwV 1 hts gX12_fault_X12_deed rfl rfl rfl (by decide +kernel) ⟨Nat.le_of_ble_eq_true rfl, Nat.le_of_ble_eq_true rfl⟩) (kpV_M (q0 := 0) (ci := 10) hG hS hP hD hA [0, 2, 3] rfl (by decide) rfl rfl) rfl rfl hl.1 rfl (lv_room (Nat.le_of_ble_eq_true rfl)) dX12_fault_41 ⟨Nat.le_of_ble_eq_true rfl, Nat.le_of_ble_eq_true rfl⟩) hP hD hS hA [0, 2, 3] [1] [1, 0, 2, 3] rfl rfl (by decide) (by decide) rfl (by decide) (fun H locs hP hD hS => ?_)
          refine lv_istore_n (lv' := [(1, .int z5.1), (0, .ref (q 0)), (2, .int x2)]) hx hb dX12_fault_44 rfl hl (by decide) rfl (fun ls hl => ?_)
          refine lv_iload_n hx hb dX12_fault_45 rfl (lv_at hl 0 rfl) ?_
          refine lv_if_ge (tgt := 51) hx hb dX12_fault_46 (by decide) (fun c7 => ?_) (fun c7 => ?_)
          · replace hf := ift c7 hf
            refine lv_iinc (v := (x2 + 1)) (lv' := [(2, .int (x2 + 1)), (1, .int z5.1), (0, .ref (q 0))]) hx hb dX12_fault_51 hl (k := 2) rfl rfl (by decide) rfl (fun ls hl => ?_)
            refine lv_goto (tgt := 9) hx hb dX12_fault_54 (by decide) ?_
            exact ih z5.1 (x2 + 1) z5.2.1 z5.2.2.1 z5.2.2.2 hf H locs hP hD hS ls (lv_sub hl [2, 1, 0] rfl)
          · replace hf := iff_ c7 hf
            refine lv_iload_n hx hb dX12_fault_49 rfl (lv_at hl 2 rfl) ?_
            rw [← hQ, ← Option.some.inj hf]
            exact eM_i hx hb hr hlk hP hD hS rfl dX12_fault_50
        · replace hf := ift c3 hf
          refine lv_aload_n hx hb dX12_fault_21 rfl (lv_at hl 0 rfl) ?_
          refine lv_aload_n hx hb dX12_fault_22 rfl (lv_at hl 0 rfl) ?_
          refine va_get (D := gD g) (ci := 10) (v := .ref (q 7)) (C := RX12) (T := TX12) (N := 30) hx hb hts iX12 hown hK hP 0 rfl rfl 9 (by decide) (hts (.fieldLink RX12 28 "BeetleDriveModel" "pad" "[I") (List.mem_of_getElem? (i := 3) rfl)) (fun _ h9 => h9) rfl dX12_fault_23 ?_
          refine lv_iload_n hx hb dX12_fault_26 rfl (lv_at hl 2 rfl) ?_
          obtain ⟨hi8, hf⟩ := chk_some hf
          refine va_iald hx hb hK hP 1 0 rfl rfl hi8 dX12_fault_27 ?_
          obtain ⟨z9, hq10, hf⟩ := bnd_some hf
          refine kM_i (wc := [((q 0), .inr (10, oX12 q v_holder v_games v_sights v_padMany v_acts v_nothings v_wholeNow v_badAct v_badWhy v_wholeAct v_wholeWho v_keptAt v_isWriting)), ((q 8), .inl (gI g, 60, .inl v_act)), ((q 9), .inl (gI g, 60, .inl v_much))]) (wr := [((q 7), .inl (gI g, 60, .inl v_pad))]) (w1 := [((q 0), .inr (10, oX12 q v_holder v_games v_sights v_padMany z9.2.2.2 v_nothings v_wholeNow v_badAct v_badWhy v_wholeAct v_wholeWho v_keptAt v_isWriting)), ((q 8), .inl (gI g, 60, .inl z9.2.1)), ((q 9), .inl (gI g, 60, .inl z9.2.2.1))]) (w2 := [((q 0), .inr (10, oX12 q v_holder v_games v_sights v_padMany z9.2.2.2 v_nothings v_wholeNow v_badAct v_badWhy v_wholeAct v_wholeWho v_keptAt v_isWriting)), ((q 7), .inl (gI g, 60, .inl v_pad)), ((q 8), .inl (gI g, 60, .inl z9.2.1)), ((q 9), .inl (gI g, 60, .inl z9.2.2.1))]) (va_runV (As := [.int (v_pad (Int32.toNatClampNeg x2))]) (rest := []) ⟨hx, hb, hml, hown, hts⟩ (c_X12_begin l g q v_holder v_games v_sights v_padMany v_acts v_nothings v_wholeNow v_badAct v_badWhy v_wholeAct v_wholeWho v_keptAt v_isWriting v_act v_much (v_pad (Int32.toNatClampNeg x2)) z9 hq10 H.size) (cwV 1 hts gX12_fault_X12_begin rfl rfl rfl (by decide +kernel) ⟨Nat.le_of_ble_eq_true rfl, Nat.le_of_ble_eq_true rfl⟩) (kpV_M (q0 := 0) (ci := 10) hG hS hP hD hA [0, 2, 3] rfl (by decide) rfl rfl) rfl rfl hl.1 rfl (lv_room (Nat.le_of_ble_eq_true rfl)) dX12_fault_28 ⟨Nat.le_of_ble_eq_true rfl, Nat.le_of_ble_eq_true rfl⟩) hP hD hS hA [0, 2, 3] [1] [1, 0, 2, 3] rfl rfl (by decide) (by decide) rfl (by decide) (fun H locs hP hD hS => ?_)
          refine lv_goto (tgt := 44) hx hb dX12_fault_31 (by decide) ?_
          refine lv_istore_n (lv' := [(1, .int z9.1), (0, .ref (q 0)), (2, .int x2)]) hx hb dX12_fault_44 rfl hl (by decide) rfl (fun ls hl => ?_)
          refine lv_iload_n hx hb dX12_fault_45 rfl (lv_at hl 0 rfl) ?_
          refine lv_if_ge (tgt := 51) hx hb dX12_fault_46 (by decide) (fun c11 => ?_) (fun c11 => ?_)
          · replace hf := ift c11 hf
            refine lv_iinc (v := (x2 + 1)) (lv' := [(2, .int (x2 + 1)), (1, .int z9.1), (0, .ref (q 0))]) hx hb dX12_fault_51 hl (k := 2) rfl rfl (by decide) rfl (fun ls hl => ?_)
            refine lv_goto (tgt := 9) hx hb dX12_fault_54 (by decide) ?_
            exact ih z9.1 (x2 + 1) z9.2.1 z9.2.2.1 z9.2.2.2 hf H locs hP hD hS ls (lv_sub hl [2, 1, 0] rfl)
          · replace hf := iff_ c11 hf
            refine lv_iload_n hx hb dX12_fault_49 rfl (lv_at hl 2 rfl) ?_
            rw [← hQ, ← Option.some.inj hf]
            exact eM_i hx hb hr hlk hP hD hS rfl dX12_fault_50
  unfold f_X12_fault at hf
  refine lv_aload_n hx hb dX12_fault_0 rfl (lv_at hl 0 rfl) ?_
  refine lv_iconst (v := 0) hx hb dX12_fault_1 (by decide) ?_
  refine va_put (D := gD g) (ci := 10) (v := .int (0 : Int32)) (ty := .int) (C := RX12) (T := TX12) (N := 30) hx hb hts iX12 tyX12 tyX12_ok nmX12 hown hK hP hD hS 0 rfl rfl 13 (by decide) (hts (.fieldLink RX12 102 "BeetleDriveModel" "acts" "I") (List.mem_of_getElem? (i := 1) rfl)) (fun _ h9 => h9) rfl (tyX12_ok 13 (by decide)) rfl rfl (Nat.le_of_ble_eq_true rfl) dX12_fault_2 (fun H locs hP hD hS => ?_)
  have hP : va_P (gD g) vwCl [((q 0), .inr (10, oX12 q v_holder v_games v_sights v_padMany (0 : Int32) v_nothings v_wholeNow v_badAct v_badWhy v_wholeAct v_wholeWho v_keptAt v_isWriting)), ((q 7), .inl (gI g, 60, .inl v_pad)), ((q 8), .inl (gI g, 60, .inl v_act)), ((q 9), .inl (gI g, 60, .inl v_much))] H := hP
  have hD : va_D A [((q 0), .inr (10, oX12 q v_holder v_games v_sights v_padMany (0 : Int32) v_nothings v_wholeNow v_badAct v_badWhy v_wholeAct v_wholeWho v_keptAt v_isWriting)), ((q 7), .inl (gI g, 60, .inl v_pad)), ((q 8), .inl (gI g, 60, .inl v_act)), ((q 9), .inl (gI g, 60, .inl v_much))] := hD
  refine lv_iconst (v := 0) hx hb dX12_fault_5 (by decide) ?_
  refine lv_istore_n (lv' := [(1, .int (0 : Int32)), (0, .ref (q 0))]) hx hb dX12_fault_6 rfl hl (by decide) rfl (fun ls hl => ?_)
  refine lv_iconst (v := 0) hx hb dX12_fault_7 (by decide) ?_
  refine lv_istore_n (lv' := [(2, .int (0 : Int32)), (1, .int (0 : Int32)), (0, .ref (q 0))]) hx hb dX12_fault_8 rfl hl (by decide) rfl (fun ls hl => ?_)
  exact w_9 FU (0 : Int32) (0 : Int32) v_act v_much (0 : Int32) hf H locs hP hD hS ls (lv_sub hl [2, 1, 0] rfl)
