/-! ===== walks, by program ===== -/
set_option maxHeartbeats 4000000 in
set_option maxRecDepth 100000 in
theorem c_X9_copyFrom (l : Launch) (g : bG) (k_this : Nat) (k_this_drawn : Nat) (k_this_points : Nat) (k_p1 : Nat) (k_p1_drawn : Nat) (k_p1_points : Nat) (v_inBits : Int32) (v_holder : Int32) (v_game : Int32) (v_drawn : Nat → Int32) (v_points : Nat → Int32) (v_p1_inBits : Int32) (v_p1_holder : Int32) (v_p1_game : Int32) (v_p1_drawn : Nat → Int32) (v_p1_points : Nat → Int32) (out : (Nat → Int32) × (Nat → Int32) × Int32 × Int32 × Int32) (hf : f_X9_copyFrom v_drawn v_points v_inBits v_holder v_game v_p1_drawn v_p1_points v_p1_inBits v_p1_holder v_p1_game = some out) : Mv l g yX9_copyFrom wsX9_copyFrom ({ frames := 0, cells := 0, slots := 0, locals := 0 } : Room) [.ref k_this, .ref k_p1] [(k_this, .inr (7, [.ref k_this_drawn, .ref k_this_points, .int v_inBits, .int v_holder, .int v_game])), (k_this_drawn, .inl (gI g, 6, .inl v_drawn)), (k_this_points, .inl (gI g, 6, .inl v_points)), (k_p1, .inr (7, [.ref k_p1_drawn, .ref k_p1_points, .int v_p1_inBits, .int v_p1_holder, .int v_p1_game])), (k_p1_drawn, .inl (gI g, 6, .inl v_p1_drawn)), (k_p1_points, .inl (gI g, 6, .inl v_p1_points))] [(k_this, .inr (7, [.ref k_this_drawn, .ref k_this_points, .int out.2.2.1, .int out.2.2.2.1, .int out.2.2.2.2])), (k_this_drawn, .inl (gI g, 6, .inl out.1)), (k_this_points, .inl (gI g, 6, .inl out.2.1)), (k_p1, .inr (7, [.ref k_p1_drawn, .ref k_p1_points, .int v_p1_inBits, .int v_p1_holder, .int v_p1_game])), (k_p1_drawn, .inl (gI g, 6, .inl v_p1_drawn)), (k_p1_points, .inl (gI g, 6, .inl v_p1_points))] := by
  refine ofM (Qc := fun A => Qv g [(k_this, .inr (7, [.ref k_this_drawn, .ref k_this_points, .int out.2.2.1, .int out.2.2.2.1, .int out.2.2.2.2])), (k_this_drawn, .inl (gI g, 6, .inl out.1)), (k_this_points, .inl (gI g, 6, .inl out.2.1)), (k_p1, .inr (7, [.ref k_p1_drawn, .ref k_p1_points, .int v_p1_inBits, .int v_p1_holder, .int v_p1_game])), (k_p1_drawn, .inl (gI g, 6, .inl v_p1_drawn)), (k_p1_points, .inl (gI g, 6, .inl v_p1_points))] A) (cc := cX9_copyFrom) (nL := 3) (ret := none) (by decide) rfl (Nat.le_of_ble_eq_true rfl) ?_
  intro p e s m below meth c ar A hC hA hP hD hG ls hl
  have hS : va_S A s.heap s.heap [] := va_S.rf
  obtain ⟨hx, hb, hml, hown, hts, hr, hlk, -⟩ := hC
  have hl : lv_has ls 3 [(0, .ref k_this), (1, .ref k_p1)] := hl
  have hK := hG.1
  have iX9 : ∀ w ∈ u_ws RX9 TX9 5, w ∈ wsX9_copyFrom := fun w h => List.mem_cons_of_mem _ (List.mem_append_right _ (h))
  generalize hQ : MQ below (Qv g [(k_this, .inr (7, [.ref k_this_drawn, .ref k_this_points, .int out.2.2.1, .int out.2.2.2.1, .int out.2.2.2.2])), (k_this_drawn, .inl (gI g, 6, .inl out.1)), (k_this_points, .inl (gI g, 6, .inl out.2.1)), (k_p1, .inr (7, [.ref k_p1_drawn, .ref k_p1_points, .int v_p1_inBits, .int v_p1_holder, .int v_p1_game])), (k_p1_drawn, .inl (gI g, 6, .inl v_p1_drawn)), (k_p1_points, .inl (gI g, 6, .inl v_p1_points))] A) ar s 0 0 A = QQ
  have w_2 : ∀ n : Nat, ∀ (x2 : Int32) (v_drawn : Nat → Int32) (v_points : Nat → Int32) (v_inBits : Int32) (v_holder : Int32) (v_game : Int32), f_X9_copyFrom_b2 v_p1_drawn v_p1_points v_p1_inBits v_p1_holder v_p1_game n x2 v_drawn v_points v_inBits v_holder v_game = some out → ∀ (H : Heap) (locs : List Loc), va_P (gD g) vwCl [(k_this, .inr (7, [.ref k_this_drawn, .ref k_this_points, .int v_inBits, .int v_holder, .int v_game])), (k_this_drawn, .inl (gI g, 6, .inl v_drawn)), (k_this_points, .inl (gI g, 6, .inl v_points)), (k_p1, .inr (7, [.ref k_p1_drawn, .ref k_p1_points, .int v_p1_inBits, .int v_p1_holder, .int v_p1_game])), (k_p1_drawn, .inl (gI g, 6, .inl v_p1_drawn)), (k_p1_points, .inl (gI g, 6, .inl v_p1_points))] H → va_D A [(k_this, .inr (7, [.ref k_this_drawn, .ref k_this_points, .int v_inBits, .int v_holder, .int v_game])), (k_this_drawn, .inl (gI g, 6, .inl v_drawn)), (k_this_points, .inl (gI g, 6, .inl v_points)), (k_p1, .inr (7, [.ref k_p1_drawn, .ref k_p1_points, .int v_p1_inBits, .int v_p1_holder, .int v_p1_game])), (k_p1_drawn, .inl (gI g, 6, .inl v_p1_drawn)), (k_p1_points, .inl (gI g, 6, .inl v_p1_points))] → va_S A s.heap H locs → ∀ ls : Array Slot, lv_has ls 3 [(0, .ref k_this), (1, .ref k_p1), (2, .int x2)] → W p l e ({ frames := 0, cells := 0, slots := 0, locals := 0 } : Room) s m ar below meth c H locs 0 0 QQ (F0 m 2 ls []) := by
    intro n
    induction n with
    | zero =>
      intro x2 v_drawn v_points v_inBits v_holder v_game hf
      rw [f_X9_copyFrom_b2_z] at hf
      cases hf
    | succ n ih =>
      intro x2 v_drawn v_points v_inBits v_holder v_game hf H locs hP hD hS ls hl
      rw [f_X9_copyFrom_b2_s] at hf
      refine lv_iload_n hx hb dX9_copyFrom_2 rfl (lv_at hl 2 rfl) ?_
      refine lv_bipush (v := 6) hx hb dX9_copyFrom_3 (by decide) ?_
      refine lv_icmp_ge (tgt := 38) hx hb dX9_copyFrom_5 (by decide) (fun c1 => ?_) (fun c1 => ?_)
      · replace hf := ift c1 hf
        refine lv_aload_n hx hb dX9_copyFrom_38 rfl (lv_at hl 0 rfl) ?_
        refine lv_aload_n hx hb dX9_copyFrom_39 rfl (lv_at hl 1 rfl) ?_
        refine va_get (D := gD g) (ci := 7) (v := .int v_p1_inBits) (C := RX9) (T := TX9) (N := 5) hx hb hts iX9 hown hK hP 3 rfl rfl 2 (by decide) (hts (.fieldLink RX9 18 "BeetleDrive$Table" "inBits" "I") (List.mem_of_getElem? (i := 3) rfl)) (fun _ h9 => h9) rfl dX9_copyFrom_40 ?_
        refine va_put (D := gD g) (ci := 7) (v := .int v_p1_inBits) (ty := .int) (C := RX9) (T := TX9) (N := 5) hx hb hts iX9 tyX9 tyX9_ok nmX9 hown hK hP hD hS 0 rfl rfl 2 (by decide) (hts (.fieldLink RX9 18 "BeetleDrive$Table" "inBits" "I") (List.mem_of_getElem? (i := 3) rfl)) (fun _ h9 => h9) rfl (tyX9_ok 2 (by decide)) rfl rfl (Nat.le_of_ble_eq_true rfl) dX9_copyFrom_43 (fun H locs hP hD hS => ?_)
        have hP : va_P (gD g) vwCl [(k_this, .inr (7, [.ref k_this_drawn, .ref k_this_points, .int v_p1_inBits, .int v_holder, .int v_game])), (k_this_drawn, .inl (gI g, 6, .inl v_drawn)), (k_this_points, .inl (gI g, 6, .inl v_points)), (k_p1, .inr (7, [.ref k_p1_drawn, .ref k_p1_points, .int v_p1_inBits, .int v_p1_holder, .int v_p1_game])), (k_p1_drawn, .inl (gI g, 6, .inl v_p1_drawn)), (k_p1_points, .inl (gI g, 6, .inl v_p1_points))] H := hP
        have hD : va_D A [(k_this, .inr (7, [.ref k_this_drawn, .ref k_this_points, .int v_p1_inBits, .int v_holder, .int v_game])), (k_this_drawn, .inl (gI g, 6, .inl v_drawn)), (k_this_points, .inl (gI g, 6, .inl v_points)), (k_p1, .inr (7, [.ref k_p1_drawn, .ref k_p1_points, .int v_p1_inBits, .int v_p1_holder, .int v_p1_game])), (k_p1_drawn, .inl (gI g, 6, .inl v_p1_drawn)), (k_p1_points, .inl (gI g, 6, .inl v_p1_points))] := hD
        refine lv_aload_n hx hb dX9_copyFrom_46 rfl (lv_at hl 0 rfl) ?_
        refine lv_aload_n hx hb dX9_copyFrom_47 rfl (lv_at hl 1 rfl) ?_
        refine va_get (D := gD g) (ci := 7) (v := .int v_p1_holder) (C := RX9) (T := TX9) (N := 5) hx hb hts iX9 hown hK hP 3 rfl rfl 3 (by decide) (hts (.fieldLink RX9 22 "BeetleDrive$Table" "holder" "I") (List.mem_of_getElem? (i := 4) rfl)) (fun _ h9 => h9) rfl dX9_copyFrom_48 ?_
        refine va_put (D := gD g) (ci := 7) (v := .int v_p1_holder) (ty := .int) (C := RX9) (T := TX9) (N := 5) hx hb hts iX9 tyX9 tyX9_ok nmX9 hown hK hP hD hS 0 rfl rfl 3 (by decide) (hts (.fieldLink RX9 22 "BeetleDrive$Table" "holder" "I") (List.mem_of_getElem? (i := 4) rfl)) (fun _ h9 => h9) rfl (tyX9_ok 3 (by decide)) rfl rfl (Nat.le_of_ble_eq_true rfl) dX9_copyFrom_51 (fun H locs hP hD hS => ?_)
        have hP : va_P (gD g) vwCl [(k_this, .inr (7, [.ref k_this_drawn, .ref k_this_points, .int v_p1_inBits, .int v_p1_holder, .int v_game])), (k_this_drawn, .inl (gI g, 6, .inl v_drawn)), (k_this_points, .inl (gI g, 6, .inl v_points)), (k_p1, .inr (7, [.ref k_p1_drawn, .ref k_p1_points, .int v_p1_inBits, .int v_p1_holder, .int v_p1_game])), (k_p1_drawn, .inl (gI g, 6, .inl v_p1_drawn)), (k_p1_points, .inl (gI g, 6, .inl v_p1_points))] H := hP
        have hD : va_D A [(k_this, .inr (7, [.ref k_this_drawn, .ref k_this_points, .int v_p1_inBits, .int v_p1_holder, .int v_game])), (k_this_drawn, .inl (gI g, 6, .inl v_drawn)), (k_this_points, .inl (gI g, 6, .inl v_points)), (k_p1, .inr (7, [.ref k_p1_drawn, .ref k_p1_points, .int v_p1_inBits, .int v_p1_holder, .int v_p1_game])), (k_p1_drawn, .inl (gI g, 6, .inl v_p1_drawn)), (k_p1_points, .inl (gI g, 6, .inl v_p1_points))] := hD
        refine lv_aload_n hx hb dX9_copyFrom_54 rfl (lv_at hl 0 rfl) ?_
        refine lv_aload_n hx hb dX9_copyFrom_55 rfl (lv_at hl 1 rfl) ?_
        refine va_get (D := gD g) (ci := 7) (v := .int v_p1_game) (C := RX9) (T := TX9) (N := 5) hx hb hts iX9 hown hK hP 3 rfl rfl 4 (by decide) (hts (.fieldLink RX9 25 "BeetleDrive$Table" "game" "I") (List.mem_of_getElem? (i := 5) rfl)) (fun _ h9 => h9) rfl dX9_copyFrom_56 ?_
        refine va_put (D := gD g) (ci := 7) (v := .int v_p1_game) (ty := .int) (C := RX9) (T := TX9) (N := 5) hx hb hts iX9 tyX9 tyX9_ok nmX9 hown hK hP hD hS 0 rfl rfl 4 (by decide) (hts (.fieldLink RX9 25 "BeetleDrive$Table" "game" "I") (List.mem_of_getElem? (i := 5) rfl)) (fun _ h9 => h9) rfl (tyX9_ok 4 (by decide)) rfl rfl (Nat.le_of_ble_eq_true rfl) dX9_copyFrom_59 (fun H locs hP hD hS => ?_)
        have hP : va_P (gD g) vwCl [(k_this, .inr (7, [.ref k_this_drawn, .ref k_this_points, .int v_p1_inBits, .int v_p1_holder, .int v_p1_game])), (k_this_drawn, .inl (gI g, 6, .inl v_drawn)), (k_this_points, .inl (gI g, 6, .inl v_points)), (k_p1, .inr (7, [.ref k_p1_drawn, .ref k_p1_points, .int v_p1_inBits, .int v_p1_holder, .int v_p1_game])), (k_p1_drawn, .inl (gI g, 6, .inl v_p1_drawn)), (k_p1_points, .inl (gI g, 6, .inl v_p1_points))] H := hP
        have hD : va_D A [(k_this, .inr (7, [.ref k_this_drawn, .ref k_this_points, .int v_p1_inBits, .int v_p1_holder, .int v_p1_game])), (k_this_drawn, .inl (gI g, 6, .inl v_drawn)), (k_this_points, .inl (gI g, 6, .inl v_points)), (k_p1, .inr (7, [.ref k_p1_drawn, .ref k_p1_points, .int v_p1_inBits, .int v_p1_holder, .int v_p1_game])), (k_p1_drawn, .inl (gI g, 6, .inl v_p1_drawn)), (k_p1_points, .inl (gI g, 6, .inl v_p1_points))] := hD
        rw [← hQ, ← Option.some.inj hf]
        exact eM_v hx hb hr hlk hP hD hS dX9_copyFrom_62
      · replace hf := iff_ c1 hf
        refine lv_aload_n hx hb dX9_copyFrom_8 rfl (lv_at hl 0 rfl) ?_
        refine va_get (D := gD g) (ci := 7) (v := .ref k_this_drawn) (C := RX9) (T := TX9) (N := 5) hx hb hts iX9 hown hK hP 0 rfl rfl 0 (by decide) (hts (.fieldLink RX9 9 "BeetleDrive$Table" "drawn" "[I") (List.mem_of_getElem? (i := 1) rfl)) (fun _ h9 => h9) rfl dX9_copyFrom_9 ?_
        refine lv_iload_n hx hb dX9_copyFrom_12 rfl (lv_at hl 2 rfl) ?_
        refine lv_aload_n hx hb dX9_copyFrom_13 rfl (lv_at hl 1 rfl) ?_
        refine va_get (D := gD g) (ci := 7) (v := .ref k_p1_drawn) (C := RX9) (T := TX9) (N := 5) hx hb hts iX9 hown hK hP 3 rfl rfl 0 (by decide) (hts (.fieldLink RX9 9 "BeetleDrive$Table" "drawn" "[I") (List.mem_of_getElem? (i := 1) rfl)) (fun _ h9 => h9) rfl dX9_copyFrom_14 ?_
        refine lv_iload_n hx hb dX9_copyFrom_17 rfl (lv_at hl 2 rfl) ?_
        obtain ⟨hi2, hf⟩ := chk_some hf
        refine va_iald hx hb hK hP 4 0 rfl rfl hi2 dX9_copyFrom_18 ?_
        obtain ⟨hi3, hf⟩ := chk_some hf
        refine va_iast hx hb hK hP hD hS 1 0 rfl rfl hi3 dX9_copyFrom_19 (fun H locs hP hD hS => ?_)
        have hP : va_P (gD g) vwCl [(k_this, .inr (7, [.ref k_this_drawn, .ref k_this_points, .int v_inBits, .int v_holder, .int v_game])), (k_this_drawn, .inl (gI g, 6, .inl (upd v_drawn (Int32.toNatClampNeg x2) (v_p1_drawn (Int32.toNatClampNeg x2))))), (k_this_points, .inl (gI g, 6, .inl v_points)), (k_p1, .inr (7, [.ref k_p1_drawn, .ref k_p1_points, .int v_p1_inBits, .int v_p1_holder, .int v_p1_game])), (k_p1_drawn, .inl (gI g, 6, .inl v_p1_drawn)), (k_p1_points, .inl (gI g, 6, .inl v_p1_points))] H := hP
        have hD : va_D A [(k_this, .inr (7, [.ref k_this_drawn, .ref k_this_points, .int v_inBits, .int v_holder, .int v_game])), (k_this_drawn, .inl (gI g, 6, .inl (upd v_drawn (Int32.toNatClampNeg x2) (v_p1_drawn (Int32.toNatClampNeg x2))))), (k_this_points, .inl (gI g, 6, .inl v_points)), (k_p1, .inr (7, [.ref k_p1_drawn, .ref k_p1_points, .int v_p1_inBits, .int v_p1_holder, .int v_p1_game])), (k_p1_drawn, .inl (gI g, 6, .inl v_p1_drawn)), (k_p1_points, .inl (gI g, 6, .inl v_p1_points))] := hD
        refine lv_aload_n hx hb dX9_copyFrom_20 rfl (lv_at hl 0 rfl) ?_
        refine va_get (D := gD g) (ci := 7) (v := .ref k_this_points) (C := RX9) (T := TX9) (N := 5) hx hb hts iX9 hown hK hP 0 rfl rfl 1 (by decide) (hts (.fieldLink RX9 15 "BeetleDrive$Table" "points" "[I") (List.mem_of_getElem? (i := 2) rfl)) (fun _ h9 => h9) rfl dX9_copyFrom_21 ?_
        refine lv_iload_n hx hb dX9_copyFrom_24 rfl (lv_at hl 2 rfl) ?_
        refine lv_aload_n hx hb dX9_copyFrom_25 rfl (lv_at hl 1 rfl) ?_
        refine va_get (D := gD g) (ci := 7) (v := .ref k_p1_points) (C := RX9) (T := TX9) (N := 5) hx hb hts iX9 hown hK hP 3 rfl rfl 1 (by decide) (hts (.fieldLink RX9 15 "BeetleDrive$Table" "points" "[I") (List.mem_of_getElem? (i := 2) rfl)) (fun _ h9 => h9) rfl dX9_copyFrom_26 ?_
        refine lv_iload_n hx hb dX9_copyFrom_29 rfl (lv_at hl 2 rfl) ?_
        obtain ⟨hi4, hf⟩ := chk_some hf
        refine va_iald hx hb hK hP 5 0 rfl rfl hi4 dX9_copyFrom_30 ?_
        obtain ⟨hi5, hf⟩ := chk_some hf
        refine va_iast hx hb hK hP hD hS 2 0 rfl rfl hi5 dX9_copyFrom_31 (fun H locs hP hD hS => ?_)
        have hP : va_P (gD g) vwCl [(k_this, .inr (7, [.ref k_this_drawn, .ref k_this_points, .int v_inBits, .int v_holder, .int v_game])), (k_this_drawn, .inl (gI g, 6, .inl (upd v_drawn (Int32.toNatClampNeg x2) (v_p1_drawn (Int32.toNatClampNeg x2))))), (k_this_points, .inl (gI g, 6, .inl (upd v_points (Int32.toNatClampNeg x2) (v_p1_points (Int32.toNatClampNeg x2))))), (k_p1, .inr (7, [.ref k_p1_drawn, .ref k_p1_points, .int v_p1_inBits, .int v_p1_holder, .int v_p1_game])), (k_p1_drawn, .inl (gI g, 6, .inl v_p1_drawn)), (k_p1_points, .inl (gI g, 6, .inl v_p1_points))] H := hP
        have hD : va_D A [(k_this, .inr (7, [.ref k_this_drawn, .ref k_this_points, .int v_inBits, .int v_holder, .int v_game])), (k_this_drawn, .inl (gI g, 6, .inl (upd v_drawn (Int32.toNatClampNeg x2) (v_p1_drawn (Int32.toNatClampNeg x2))))), (k_this_points, .inl (gI g, 6, .inl (upd v_points (Int32.toNatClampNeg x2) (v_p1_points (Int32.toNatClampNeg x2))))), (k_p1, .inr (7, [.ref k_p1_drawn, .ref k_p1_points, .int v_p1_inBits, .int v_p1_holder, .int v_p1_game])), (k_p1_drawn, .inl (gI g, 6, .inl v_p1_drawn)), (k_p1_points, .inl (gI g, 6, .inl v_p1_points))] := hD
        refine lv_iinc (v := (x2 + 1)) (lv' := [(2, .int (x2 + 1)), (0, .ref k_this), (1, .ref k_p1)]) hx hb dX9_copyFrom_32 hl (k := 2) rfl rfl (by decide) rfl (fun ls hl => ?_)
        refine lv_goto (tgt := 2) hx hb dX9_copyFrom_35 (by decide) ?_
        exact ih (x2 + 1) (upd v_drawn (Int32.toNatClampNeg x2) (v_p1_drawn (Int32.toNatClampNeg x2))) (upd v_points (Int32.toNatClampNeg x2) (v_p1_points (Int32.toNatClampNeg x2))) v_inBits v_holder v_game hf H locs hP hD hS ls (lv_sub hl [1, 2, 0] rfl)
  unfold f_X9_copyFrom at hf
  refine lv_iconst (v := 0) hx hb dX9_copyFrom_0 (by decide) ?_
  refine lv_istore_n (lv' := [(2, .int (0 : Int32)), (0, .ref k_this), (1, .ref k_p1)]) hx hb dX9_copyFrom_1 rfl hl (by decide) rfl (fun ls hl => ?_)
  exact w_2 FU (0 : Int32) v_drawn v_points v_inBits v_holder v_game hf s.heap [] hP hD hS ls (lv_sub hl [1, 2, 0] rfl)
set_option maxHeartbeats 4000000 in
set_option maxRecDepth 100000 in
theorem c_X9_isThrow (l : Launch) (g : bG) (x0 : Int32) (out : Int32) (hf : f_X9_isThrow x0 = some out) : Ri l g yX9_isThrow wsX9_isThrow ({ frames := 1, cells := 0, slots := 0, locals := 22 } : Room) [.int x0] [] out := by
  refine ofR (cc := cX9_isThrow) (nL := 1) (ret := some .boolean) (by decide) rfl (Nat.le_of_ble_eq_true rfl) ?_
  intro p e s m below meth c ar hC hP hG ls hl
  have hS : va_S (fun _ => False) s.heap s.heap [] := va_S.rf
  obtain ⟨hx, hb, hml, hown, hts, hr, hlk, -⟩ := hC
  have hl : lv_has ls 1 [(0, .int x0)] := hl
  have hK := hG.1
  generalize hQ : MQ below (vp_Si (fun x => x = out)) ar s 0 0 (fun _ => False) = QQ
  unfold f_X9_isThrow at hf
  refine lv_iload_n hx hb dX9_isThrow_0 rfl (lv_at hl 0 rfl) ?_
  refine lv_bipush (v := 49) hx hb dX9_isThrow_1 (by decide) ?_
  refine lv_bipush (v := 54) hx hb dX9_isThrow_3 (by decide) ?_
  obtain ⟨z1, hq2, hf⟩ := bnd_some hf
  refine kR_i (va_runSN (As := [.int x0, .int (49 : Int32), .int (54 : Int32)]) (rest := []) ⟨hx, hb, hml, hown, hts⟩ (c_X11_isWithin l g x0 (49 : Int32) (54 : Int32) z1 hq2) ⟨va_cnB 3 hts gX9_isThrow_X11_isWithin_n60 rfl rfl rfl (hG.nm 11 rfl) (hts (.initialized RX11) (List.mem_of_getElem? (i := 2) rfl)) (by decide +kernel) ⟨Nat.le_of_ble_eq_true rfl, Nat.le_of_ble_eq_true rfl⟩, (hts (.static yX11_isWithin) (List.mem_of_getElem? (i := 1) rfl)), trivial⟩ (kpS_R hG (hP.subm (ws' := []) [] rfl)) rfl rfl hl.1 rfl (lv_room (Nat.le_of_ble_eq_true rfl)) dX9_isThrow_5 ⟨Nat.le_of_ble_eq_true rfl, Nat.le_of_ble_eq_true rfl⟩) ?_
  obtain ⟨hz3, hf⟩ := bz_some hf
  rw [← hQ, ← Option.some.inj hf]
  exact eR_z hx hb hr hlk hz3 rfl dX9_isThrow_8
set_option maxHeartbeats 4000000 in
set_option maxRecDepth 100000 in
theorem c_X9_isWhole (l : Launch) (g : bG) (k_this : Nat) (k_this_drawn : Nat) (k_this_points : Nat) (v_inBits : Int32) (v_holder : Int32) (v_game : Int32) (v_drawn : Nat → Int32) (x1 : Int32) (out : Int32) (hf : f_X9_isWhole v_drawn x1 = some out) : Ri l g yX9_isWhole wsX9_isWhole ({ frames := 0, cells := 0, slots := 0, locals := 0 } : Room) [.ref k_this, .int x1] [(k_this, .inr (7, [.ref k_this_drawn, .ref k_this_points, .int v_inBits, .int v_holder, .int v_game])), (k_this_drawn, .inl (gI g, 6, .inl v_drawn))] out := by
  refine ofR (cc := cX9_isWhole) (nL := 2) (ret := some .boolean) (by decide) rfl (Nat.le_of_ble_eq_true rfl) ?_
  intro p e s m below meth c ar hC hP hG ls hl
  have hS : va_S (fun _ => False) s.heap s.heap [] := va_S.rf
  obtain ⟨hx, hb, hml, hown, hts, hr, hlk, -⟩ := hC
  have hl : lv_has ls 2 [(0, .ref k_this), (1, .int x1)] := hl
  have hK := hG.1
  have iX9 : ∀ w ∈ u_ws RX9 TX9 5, w ∈ wsX9_isWhole := fun w h => List.mem_cons_of_mem _ (List.mem_append_right _ (h))
  generalize hQ : MQ below (vp_Si (fun x => x = out)) ar s 0 0 (fun _ => False) = QQ
  unfold f_X9_isWhole at hf
  refine lv_aload_n hx hb dX9_isWhole_0 rfl (lv_at hl 0 rfl) ?_
  refine va_get (D := gD g) (ci := 7) (v := .ref k_this_drawn) (C := RX9) (T := TX9) (N := 5) hx hb hts iX9 hown hK hP 0 rfl rfl 0 (by decide) (hts (.fieldLink RX9 9 "BeetleDrive$Table" "drawn" "[I") (List.mem_of_getElem? (i := 1) rfl)) (fun _ h9 => h9) rfl dX9_isWhole_1 ?_
  refine lv_iload_n hx hb dX9_isWhole_4 rfl (lv_at hl 1 rfl) ?_
  obtain ⟨hi1, hf⟩ := chk_some hf
  refine va_iald hx hb hK hP 1 0 rfl rfl hi1 dX9_isWhole_5 ?_
  refine lv_ldc (v := 111622) hx hb hown (hts (.constant RX9 30 (111622)) (List.mem_of_getElem? (i := 2) rfl)) dX9_isWhole_6 ?_
  refine lv_icmp_ne (tgt := 15) hx hb dX9_isWhole_8 (by decide) (fun c2 => ?_) (fun c2 => ?_)
  · replace hf := iff_ c2 hf
    refine lv_iconst (v := 0) hx hb dX9_isWhole_15 (by decide) ?_
    rw [← hQ, ← Option.some.inj hf]
    exact eR_z hx hb hr hlk nb0 rfl dX9_isWhole_16
  · replace hf := ift c2 hf
    refine lv_iconst (v := 1) hx hb dX9_isWhole_11 (by decide) ?_
    refine lv_goto (tgt := 16) hx hb dX9_isWhole_12 (by decide) ?_
    rw [← hQ, ← Option.some.inj hf]
    exact eR_z hx hb hr hlk nb1 rfl dX9_isWhole_16
set_option maxHeartbeats 4000000 in
set_option maxRecDepth 100000 in
theorem c_X9_isIn (l : Launch) (g : bG) (k_this : Nat) (k_this_drawn : Nat) (k_this_points : Nat) (v_inBits : Int32) (v_holder : Int32) (v_game : Int32) (x1 : Int32) (out : Int32) (hf : f_X9_isIn v_inBits x1 = some out) : Ri l g yX9_isIn wsX9_isIn ({ frames := 0, cells := 0, slots := 0, locals := 0 } : Room) [.ref k_this, .int x1] [(k_this, .inr (7, [.ref k_this_drawn, .ref k_this_points, .int v_inBits, .int v_holder, .int v_game]))] out := by
  refine ofR (cc := cX9_isIn) (nL := 2) (ret := some .boolean) (by decide) rfl (Nat.le_of_ble_eq_true rfl) ?_
  intro p e s m below meth c ar hC hP hG ls hl
  have hS : va_S (fun _ => False) s.heap s.heap [] := va_S.rf
  obtain ⟨hx, hb, hml, hown, hts, hr, hlk, -⟩ := hC
  have hl : lv_has ls 2 [(0, .ref k_this), (1, .int x1)] := hl
  have hK := hG.1
  have iX9 : ∀ w ∈ u_ws RX9 TX9 5, w ∈ wsX9_isIn := fun w h => List.mem_cons_of_mem _ (List.mem_append_right _ (h))
  generalize hQ : MQ below (vp_Si (fun x => x = out)) ar s 0 0 (fun _ => False) = QQ
  unfold f_X9_isIn at hf
  refine lv_aload_n hx hb dX9_isIn_0 rfl (lv_at hl 0 rfl) ?_
  refine va_get (D := gD g) (ci := 7) (v := .int v_inBits) (C := RX9) (T := TX9) (N := 5) hx hb hts iX9 hown hK hP 0 rfl rfl 2 (by decide) (hts (.fieldLink RX9 18 "BeetleDrive$Table" "inBits" "I") (List.mem_of_getElem? (i := 1) rfl)) (fun _ h9 => h9) rfl dX9_isIn_1 ?_
  refine lv_iconst (v := 1) hx hb dX9_isIn_4 (by decide) ?_
  refine lv_iload_n hx hb dX9_isIn_5 rfl (lv_at hl 1 rfl) ?_
  refine lv_ishl hx hb dX9_isIn_6 ?_
  refine lv_iand hx hb dX9_isIn_7 ?_
  refine lv_if_eq (tgt := 15) hx hb dX9_isIn_8 (by decide) (fun c1 => ?_) (fun c1 => ?_)
  · replace hf := ift c1 hf
    refine lv_iconst (v := 0) hx hb dX9_isIn_15 (by decide) ?_
    rw [← hQ, ← Option.some.inj hf]
    exact eR_z hx hb hr hlk nb0 rfl dX9_isIn_16
  · replace hf := iff_ c1 hf
    refine lv_iconst (v := 1) hx hb dX9_isIn_11 (by decide) ?_
    refine lv_goto (tgt := 16) hx hb dX9_isIn_12 (by decide) ?_
    rw [← hQ, ← Option.some.inj hf]
    exact eR_z hx hb hr hlk nb1 rfl dX9_isIn_16
set_option maxHeartbeats 4000000 in
set_option maxRecDepth 100000 in
theorem c_X9_whyNot (l : Launch) (g : bG) (k_this : Nat) (k_this_drawn : Nat) (k_this_points : Nat) (v_inBits : Int32) (v_holder : Int32) (v_game : Int32) (v_drawn : Nat → Int32) (x1 : Int32) (x2 : Int32) (out : Int32) (hf : f_X9_whyNot v_drawn v_inBits v_holder v_game x1 x2 = some out) : Ri l g yX9_whyNot wsX9_whyNot ({ frames := 2, cells := 0, slots := 0, locals := 42 } : Room) [.ref k_this, .int x1, .int x2] [(k_this, .inr (7, [.ref k_this_drawn, .ref k_this_points, .int v_inBits, .int v_holder, .int v_game])), (k_this_drawn, .inl (gI g, 6, .inl v_drawn))] out := by
  refine ofR (cc := cX9_whyNot) (nL := 3) (ret := some .int) (by decide) rfl (Nat.le_of_ble_eq_true rfl) ?_
  intro p e s m below meth c ar hC hP hG ls hl
  have hS : va_S (fun _ => False) s.heap s.heap [] := va_S.rf
  obtain ⟨hx, hb, hml, hown, hts, hr, hlk, -⟩ := hC
  have hl : lv_has ls 3 [(0, .ref k_this), (1, .int x1), (2, .int x2)] := hl
  have hK := hG.1
  have iX9 : ∀ w ∈ u_ws RX9 TX9 5, w ∈ wsX9_whyNot := fun w h => List.mem_cons_of_mem _ (List.mem_append_right _ (h))
  generalize hQ : MQ below (vp_Si (fun x => x = out)) ar s 0 0 (fun _ => False) = QQ
  unfold f_X9_whyNot at hf
  refine lv_iload_n hx hb dX9_whyNot_0 rfl (lv_at hl 1 rfl) ?_
  obtain ⟨z1, hq2, hf⟩ := bnd_some hf
  refine kR_i (va_runS (As := [.int x1]) (rest := []) ⟨hx, hb, hml, hown, hts⟩ (c_X9_isThrow l g x1 z1 hq2) (va_cwS 1 hts gX9_whyNot_X9_isThrow rfl rfl rfl (by decide +kernel) ⟨Nat.le_of_ble_eq_true rfl, Nat.le_of_ble_eq_true rfl⟩) (kpS_R hG (hP.subm (ws' := []) [] rfl)) rfl rfl hl.1 rfl (lv_room (Nat.le_of_ble_eq_true rfl)) dX9_whyNot_1 ⟨Nat.le_of_ble_eq_true rfl, Nat.le_of_ble_eq_true rfl⟩) ?_
  refine lv_if_eq (tgt := 24) hx hb dX9_whyNot_4 (by decide) (fun c3 => ?_) (fun c3 => ?_)
  · replace hf := ift c3 hf
    refine lv_iload_n hx hb dX9_whyNot_24 rfl (lv_at hl 1 rfl) ?_
    refine lv_bipush (v := 35) hx hb dX9_whyNot_25 (by decide) ?_
    refine lv_icmp_ne (tgt := 46) hx hb dX9_whyNot_27 (by decide) (fun c4 => ?_) (fun c4 => ?_)
    · replace hf := iff_ c4 hf
      refine lv_iload_n hx hb dX9_whyNot_46 rfl (lv_at hl 1 rfl) ?_
      refine lv_bipush (v := 33) hx hb dX9_whyNot_47 (by decide) ?_
      refine lv_icmp_eq (tgt := 54) hx hb dX9_whyNot_49 (by decide) (fun c5 => ?_) (fun c5 => ?_)
      · replace hf := ift c5 hf
        refine lv_aload_n hx hb dX9_whyNot_54 rfl (lv_at hl 0 rfl) ?_
        refine lv_iload_n hx hb dX9_whyNot_55 rfl (lv_at hl 2 rfl) ?_
        obtain ⟨z6, hq7, hf⟩ := bnd_some hf
        refine kR_i (va_runV (As := [.int x2]) (rest := []) ⟨hx, hb, hml, hown, hts⟩ (c_X9_isWhole l g k_this k_this_drawn k_this_points v_inBits v_holder v_game v_drawn x2 z6 hq7) (cwV 1 hts gX9_whyNot_X9_isWhole rfl rfl rfl (by decide +kernel) ⟨Nat.le_of_ble_eq_true rfl, Nat.le_of_ble_eq_true rfl⟩) (kpV_R (q0 := 0) (ci := 7) hG (hP.subm (ws' := [(k_this, .inr (7, [.ref k_this_drawn, .ref k_this_points, .int v_inBits, .int v_holder, .int v_game])), (k_this_drawn, .inl (gI g, 6, .inl v_drawn))]) [0, 1] rfl) rfl rfl) rfl rfl hl.1 rfl (lv_room (Nat.le_of_ble_eq_true rfl)) dX9_whyNot_56 ⟨Nat.le_of_ble_eq_true rfl, Nat.le_of_ble_eq_true rfl⟩) ?_
        refine lv_if_eq (tgt := 70) hx hb dX9_whyNot_59 (by decide) (fun c8 => ?_) (fun c8 => ?_)
        · replace hf := ift c8 hf
          refine lv_iconst (v := 2) hx hb dX9_whyNot_70 (by decide) ?_
          rw [← hQ, ← Option.some.inj hf]
          exact eR_i hx hb hr hlk rfl dX9_whyNot_71
        · replace hf := iff_ c8 hf
          refine lv_aload_n hx hb dX9_whyNot_62 rfl (lv_at hl 0 rfl) ?_
          refine lv_iload_n hx hb dX9_whyNot_63 rfl (lv_at hl 2 rfl) ?_
          obtain ⟨z9, hq10, hf⟩ := bnd_some hf
          refine kR_i (va_runV (As := [.int x2]) (rest := []) ⟨hx, hb, hml, hown, hts⟩ (c_X9_isIn l g k_this k_this_drawn k_this_points v_inBits v_holder v_game x2 z9 hq10) (cwV 1 hts gX9_whyNot_X9_isIn rfl rfl rfl (by decide +kernel) ⟨Nat.le_of_ble_eq_true rfl, Nat.le_of_ble_eq_true rfl⟩) (kpV_R (q0 := 0) (ci := 7) hG (hP.subm (ws' := [(k_this, .inr (7, [.ref k_this_drawn, .ref k_this_points, .int v_inBits, .int v_holder, .int v_game]))]) [0] rfl) rfl rfl) rfl rfl hl.1 rfl (lv_room (Nat.le_of_ble_eq_true rfl)) dX9_whyNot_64 ⟨Nat.le_of_ble_eq_true rfl, Nat.le_of_ble_eq_true rfl⟩) ?_
          refine lv_if_ne (tgt := 72) hx hb dX9_whyNot_67 (by decide) (fun c11 => ?_) (fun c11 => ?_)
          · replace hf := iff_ c11 hf
            refine lv_aload_n hx hb dX9_whyNot_72 rfl (lv_at hl 0 rfl) ?_
            refine va_get (D := gD g) (ci := 7) (v := .int v_game) (C := RX9) (T := TX9) (N := 5) hx hb hts iX9 hown hK hP 0 rfl rfl 4 (by decide) (hts (.fieldLink RX9 25 "BeetleDrive$Table" "game" "I") (List.mem_of_getElem? (i := 3) rfl)) (fun _ h9 => h9) rfl dX9_whyNot_73 ?_
            refine lv_bipush (v := 99) hx hb dX9_whyNot_76 (by decide) ?_
            refine lv_icmp_lt (tgt := 85) hx hb dX9_whyNot_78 (by decide) (fun c12 => ?_) (fun c12 => ?_)
            · replace hf := ift c12 hf
              refine lv_iconst (v := 0) hx hb dX9_whyNot_85 (by decide) ?_
              rw [← hQ, ← Option.some.inj hf]
              exact eR_i hx hb hr hlk rfl dX9_whyNot_86
            · replace hf := iff_ c12 hf
              refine lv_iconst (v := 4) hx hb dX9_whyNot_81 (by decide) ?_
              refine lv_goto (tgt := 86) hx hb dX9_whyNot_82 (by decide) ?_
              rw [← hQ, ← Option.some.inj hf]
              exact eR_i hx hb hr hlk rfl dX9_whyNot_86
          · replace hf := ift c11 hf
            refine lv_iconst (v := 2) hx hb dX9_whyNot_70 (by decide) ?_
            rw [← hQ, ← Option.some.inj hf]
            exact eR_i hx hb hr hlk rfl dX9_whyNot_71
      · replace hf := iff_ c5 hf
        refine lv_iconst (v := 0) hx hb dX9_whyNot_52 (by decide) ?_
        rw [← hQ, ← Option.some.inj hf]
        exact eR_i hx hb hr hlk rfl dX9_whyNot_53
    · replace hf := ift c4 hf
      refine lv_aload_n hx hb dX9_whyNot_30 rfl (lv_at hl 0 rfl) ?_
      refine va_get (D := gD g) (ci := 7) (v := .int v_inBits) (C := RX9) (T := TX9) (N := 5) hx hb hts iX9 hown hK hP 0 rfl rfl 2 (by decide) (hts (.fieldLink RX9 18 "BeetleDrive$Table" "inBits" "I") (List.mem_of_getElem? (i := 2) rfl)) (fun _ h9 => h9) rfl dX9_whyNot_31 ?_
      refine lv_iconst (v := 1) hx hb dX9_whyNot_34 (by decide) ?_
      refine lv_iload_n hx hb dX9_whyNot_35 rfl (lv_at hl 2 rfl) ?_
      refine lv_ishl hx hb dX9_whyNot_36 ?_
      refine lv_icmp_ne (tgt := 44) hx hb dX9_whyNot_37 (by decide) (fun c13 => ?_) (fun c13 => ?_)
      · replace hf := iff_ c13 hf
        refine lv_iconst (v := 0) hx hb dX9_whyNot_44 (by decide) ?_
        rw [← hQ, ← Option.some.inj hf]
        exact eR_i hx hb hr hlk rfl dX9_whyNot_45
      · replace hf := ift c13 hf
        refine lv_iconst (v := 3) hx hb dX9_whyNot_40 (by decide) ?_
        refine lv_goto (tgt := 45) hx hb dX9_whyNot_41 (by decide) ?_
        rw [← hQ, ← Option.some.inj hf]
        exact eR_i hx hb hr hlk rfl dX9_whyNot_45
  · replace hf := iff_ c3 hf
    refine lv_aload_n hx hb dX9_whyNot_7 rfl (lv_at hl 0 rfl) ?_
    refine lv_aload_n hx hb dX9_whyNot_8 rfl (lv_at hl 0 rfl) ?_
    refine va_get (D := gD g) (ci := 7) (v := .int v_holder) (C := RX9) (T := TX9) (N := 5) hx hb hts iX9 hown hK hP 0 rfl rfl 3 (by decide) (hts (.fieldLink RX9 22 "BeetleDrive$Table" "holder" "I") (List.mem_of_getElem? (i := 1) rfl)) (fun _ h9 => h9) rfl dX9_whyNot_9 ?_
    obtain ⟨z14, hq15, hf⟩ := bnd_some hf
    refine kR_i (va_runV (As := [.int v_holder]) (rest := []) ⟨hx, hb, hml, hown, hts⟩ (c_X9_isWhole l g k_this k_this_drawn k_this_points v_inBits v_holder v_game v_drawn v_holder z14 hq15) (cwV 1 hts gX9_whyNot_X9_isWhole rfl rfl rfl (by decide +kernel) ⟨Nat.le_of_ble_eq_true rfl, Nat.le_of_ble_eq_true rfl⟩) (kpV_R (q0 := 0) (ci := 7) hG (hP.subm (ws' := [(k_this, .inr (7, [.ref k_this_drawn, .ref k_this_points, .int v_inBits, .int v_holder, .int v_game])), (k_this_drawn, .inl (gI g, 6, .inl v_drawn))]) [0, 1] rfl) rfl rfl) rfl rfl hl.1 rfl (lv_room (Nat.le_of_ble_eq_true rfl)) dX9_whyNot_12 ⟨Nat.le_of_ble_eq_true rfl, Nat.le_of_ble_eq_true rfl⟩) ?_
    refine lv_if_eq (tgt := 22) hx hb dX9_whyNot_15 (by decide) (fun c16 => ?_) (fun c16 => ?_)
    · replace hf := ift c16 hf
      refine lv_iconst (v := 0) hx hb dX9_whyNot_22 (by decide) ?_
      rw [← hQ, ← Option.some.inj hf]
      exact eR_i hx hb hr hlk rfl dX9_whyNot_23
    · replace hf := iff_ c16 hf
      refine lv_iconst (v := 1) hx hb dX9_whyNot_18 (by decide) ?_
      refine lv_goto (tgt := 23) hx hb dX9_whyNot_19 (by decide) ?_
      rw [← hQ, ← Option.some.inj hf]
      exact eR_i hx hb hr hlk rfl dX9_whyNot_23
set_option maxHeartbeats 4000000 in
set_option maxRecDepth 100000 in
theorem c_X9_passOn (l : Launch) (g : bG) (k_this : Nat) (k_this_drawn : Nat) (k_this_points : Nat) (v_inBits : Int32) (v_holder : Int32) (v_game : Int32) (out : Int32) (hf : f_X9_passOn v_inBits v_holder = some out) : Mv l g yX9_passOn wsX9_passOn ({ frames := 1, cells := 0, slots := 0, locals := 21 } : Room) [.ref k_this] [(k_this, .inr (7, [.ref k_this_drawn, .ref k_this_points, .int v_inBits, .int v_holder, .int v_game]))] [(k_this, .inr (7, [.ref k_this_drawn, .ref k_this_points, .int v_inBits, .int out, .int v_game]))] := by
  refine ofM (Qc := fun A => Qv g [(k_this, .inr (7, [.ref k_this_drawn, .ref k_this_points, .int v_inBits, .int out, .int v_game]))] A) (cc := cX9_passOn) (nL := 3) (ret := none) (by decide) rfl (Nat.le_of_ble_eq_true rfl) ?_
  intro p e s m below meth c ar A hC hA hP hD hG ls hl
  have hS : va_S A s.heap s.heap [] := va_S.rf
  obtain ⟨hx, hb, hml, hown, hts, hr, hlk, -⟩ := hC
  have hl : lv_has ls 3 [(0, .ref k_this)] := hl
  have hK := hG.1
  have iX9 : ∀ w ∈ u_ws RX9 TX9 5, w ∈ wsX9_passOn := fun w h => List.mem_cons_of_mem _ (List.mem_append_right _ (h))
  generalize hQ : MQ below (Qv g [(k_this, .inr (7, [.ref k_this_drawn, .ref k_this_points, .int v_inBits, .int out, .int v_game]))] A) ar s 0 0 A = QQ
  have w_2 : ∀ n : Nat, ∀ (x1 : Int32) (v_holder : Int32), f_X9_passOn_b2 v_inBits n x1 v_holder = some out → ∀ (H : Heap) (locs : List Loc), va_P (gD g) vwCl [(k_this, .inr (7, [.ref k_this_drawn, .ref k_this_points, .int v_inBits, .int v_holder, .int v_game]))] H → va_D A [(k_this, .inr (7, [.ref k_this_drawn, .ref k_this_points, .int v_inBits, .int v_holder, .int v_game]))] → va_S A s.heap H locs → ∀ ls : Array Slot, lv_has ls 3 [(0, .ref k_this), (1, .int x1)] → W p l e ({ frames := 1, cells := 0, slots := 0, locals := 21 } : Room) s m ar below meth c H locs 0 0 QQ (F0 m 2 ls []) := by
    intro n
    induction n with
    | zero =>
      intro x1 v_holder hf
      rw [f_X9_passOn_b2_z] at hf
      cases hf
    | succ n ih =>
      intro x1 v_holder hf H locs hP hD hS ls hl
      rw [f_X9_passOn_b2_s] at hf
      refine lv_iload_n hx hb dX9_passOn_2 rfl (lv_at hl 1 rfl) ?_
      refine lv_bipush (v := 6) hx hb dX9_passOn_3 (by decide) ?_
      refine lv_icmp_gt (tgt := 38) hx hb dX9_passOn_5 (by decide) (fun c1 => ?_) (fun c1 => ?_)
      · replace hf := ift c1 hf
        rw [← hQ, ← Option.some.inj hf]
        exact eM_v hx hb hr hlk hP hD hS dX9_passOn_38
      · replace hf := iff_ c1 hf
        refine lv_aload_n hx hb dX9_passOn_8 rfl (lv_at hl 0 rfl) ?_
        refine va_get (D := gD g) (ci := 7) (v := .int v_holder) (C := RX9) (T := TX9) (N := 5) hx hb hts iX9 hown hK hP 0 rfl rfl 3 (by decide) (hts (.fieldLink RX9 22 "BeetleDrive$Table" "holder" "I") (List.mem_of_getElem? (i := 1) rfl)) (fun _ h9 => h9) rfl dX9_passOn_9 ?_
        refine lv_iload_n hx hb dX9_passOn_12 rfl (lv_at hl 1 rfl) ?_
        refine lv_iadd hx hb dX9_passOn_13 ?_
        refine lv_bipush (v := 6) hx hb dX9_passOn_14 (by decide) ?_
        refine lv_irem hx hb dX9_passOn_16 (by decide) ?_
        refine lv_istore_n (lv' := [(2, .int ((v_holder + x1) - (v_holder + x1) / (6 : Int32) * (6 : Int32))), (0, .ref k_this), (1, .int x1)]) hx hb dX9_passOn_17 rfl hl (by decide) rfl (fun ls hl => ?_)
        refine lv_aload_n hx hb dX9_passOn_18 rfl (lv_at hl 1 rfl) ?_
        refine lv_iload_n hx hb dX9_passOn_19 rfl (lv_at hl 0 rfl) ?_
        obtain ⟨z2, hq3, hf⟩ := bnd_some hf
        refine kR_i (va_runV (As := [.int ((v_holder + x1) - (v_holder + x1) / (6 : Int32) * (6 : Int32))]) (rest := []) ⟨hx, hb, hml, hown, hts⟩ (c_X9_isIn l g k_this k_this_drawn k_this_points v_inBits v_holder v_game ((v_holder + x1) - (v_holder + x1) / (6 : Int32) * (6 : Int32)) z2 hq3) (cwV 1 hts gX9_passOn_X9_isIn rfl rfl rfl (by decide +kernel) ⟨Nat.le_of_ble_eq_true rfl, Nat.le_of_ble_eq_true rfl⟩) (kpV_R (q0 := 0) (ci := 7) (hG.now hS) (hP.subm (ws' := [(k_this, .inr (7, [.ref k_this_drawn, .ref k_this_points, .int v_inBits, .int v_holder, .int v_game]))]) [0] rfl) rfl rfl) rfl rfl hl.1 rfl (lv_room (Nat.le_of_ble_eq_true rfl)) dX9_passOn_20 ⟨Nat.le_of_ble_eq_true rfl, Nat.le_of_ble_eq_true rfl⟩) ?_
        refine lv_if_eq (tgt := 32) hx hb dX9_passOn_23 (by decide) (fun c4 => ?_) (fun c4 => ?_)
        · replace hf := ift c4 hf
          refine lv_iinc (v := (x1 + 1)) (lv' := [(1, .int (x1 + 1)), (2, .int ((v_holder + x1) - (v_holder + x1) / (6 : Int32) * (6 : Int32))), (0, .ref k_this)]) hx hb dX9_passOn_32 hl (k := 2) rfl rfl (by decide) rfl (fun ls hl => ?_)
          refine lv_goto (tgt := 2) hx hb dX9_passOn_35 (by decide) ?_
          exact ih (x1 + 1) v_holder hf H locs hP hD hS ls (lv_sub hl [2, 0] rfl)
        · replace hf := iff_ c4 hf
          refine lv_aload_n hx hb dX9_passOn_26 rfl (lv_at hl 1 rfl) ?_
          refine lv_iload_n hx hb dX9_passOn_27 rfl (lv_at hl 0 rfl) ?_
          refine va_put (D := gD g) (ci := 7) (v := .int ((v_holder + x1) - (v_holder + x1) / (6 : Int32) * (6 : Int32))) (ty := .int) (C := RX9) (T := TX9) (N := 5) hx hb hts iX9 tyX9 tyX9_ok nmX9 hown hK hP hD hS 0 rfl rfl 3 (by decide) (hts (.fieldLink RX9 22 "BeetleDrive$Table" "holder" "I") (List.mem_of_getElem? (i := 1) rfl)) (fun _ h9 => h9) rfl (tyX9_ok 3 (by decide)) rfl rfl (Nat.le_of_ble_eq_true rfl) dX9_passOn_28 (fun H locs hP hD hS => ?_)
          have hP : va_P (gD g) vwCl [(k_this, .inr (7, [.ref k_this_drawn, .ref k_this_points, .int v_inBits, .int ((v_holder + x1) - (v_holder + x1) / (6 : Int32) * (6 : Int32)), .int v_game]))] H := hP
          have hD : va_D A [(k_this, .inr (7, [.ref k_this_drawn, .ref k_this_points, .int v_inBits, .int ((v_holder + x1) - (v_holder + x1) / (6 : Int32) * (6 : Int32)), .int v_game]))] := hD
          rw [← hQ, ← Option.some.inj hf]
          exact eM_v hx hb hr hlk hP hD hS dX9_passOn_31
  unfold f_X9_passOn at hf
  refine lv_iconst (v := 1) hx hb dX9_passOn_0 (by decide) ?_
  refine lv_istore_n (lv' := [(1, .int (1 : Int32)), (0, .ref k_this)]) hx hb dX9_passOn_1 rfl hl (by decide) rfl (fun ls hl => ?_)
  exact w_2 FU (1 : Int32) v_holder hf s.heap [] hP hD hS ls (lv_sub hl [1, 0] rfl)
set_option maxHeartbeats 4000000 in
set_option maxRecDepth 100000 in
theorem c_X9_drawBy (l : Launch) (g : bG) (k_this : Nat) (k_this_drawn : Nat) (k_this_points : Nat) (v_inBits : Int32) (v_holder : Int32) (v_game : Int32) (v_drawn : Nat → Int32) (x1 : Int32) (out : Int32 × (Nat → Int32) × Int32) (hf : f_X9_drawBy v_drawn v_inBits v_holder x1 = some out) : Mi l g yX9_drawBy wsX9_drawBy ({ frames := 3, cells := 0, slots := 0, locals := 64 } : Room) [.ref k_this, .int x1] [(k_this, .inr (7, [.ref k_this_drawn, .ref k_this_points, .int v_inBits, .int v_holder, .int v_game])), (k_this_drawn, .inl (gI g, 6, .inl v_drawn))] out.1 [(k_this, .inr (7, [.ref k_this_drawn, .ref k_this_points, .int v_inBits, .int out.2.2, .int v_game])), (k_this_drawn, .inl (gI g, 6, .inl out.2.1))] := by
  refine ofM (Qc := fun A => Qi g out.1 [(k_this, .inr (7, [.ref k_this_drawn, .ref k_this_points, .int v_inBits, .int out.2.2, .int v_game])), (k_this_drawn, .inl (gI g, 6, .inl out.2.1))] A) (cc := cX9_drawBy) (nL := 4) (ret := some .boolean) (by decide) rfl (Nat.le_of_ble_eq_true rfl) ?_
  intro p e s m below meth c ar A hC hA hP hD hG ls hl
  have hS : va_S A s.heap s.heap [] := va_S.rf
  obtain ⟨hx, hb, hml, hown, hts, hr, hlk, -⟩ := hC
  have hl : lv_has ls 4 [(0, .ref k_this), (1, .int x1)] := hl
  have hK := hG.1
  have iX9 : ∀ w ∈ u_ws RX9 TX9 5, w ∈ wsX9_drawBy := fun w h => List.mem_cons_of_mem _ (List.mem_append_right _ (h))
  generalize hQ : MQ below (Qi g out.1 [(k_this, .inr (7, [.ref k_this_drawn, .ref k_this_points, .int v_inBits, .int out.2.2, .int v_game])), (k_this_drawn, .inl (gI g, 6, .inl out.2.1))] A) ar s 0 0 A = QQ
  unfold f_X9_drawBy at hf
  refine lv_aload_n hx hb dX9_drawBy_0 rfl (lv_at hl 0 rfl) ?_
  refine va_get (D := gD g) (ci := 7) (v := .ref k_this_drawn) (C := RX9) (T := TX9) (N := 5) hx hb hts iX9 hown hK hP 0 rfl rfl 0 (by decide) (hts (.fieldLink RX9 9 "BeetleDrive$Table" "drawn" "[I") (List.mem_of_getElem? (i := 1) rfl)) (fun _ h9 => h9) rfl dX9_drawBy_1 ?_
  refine lv_aload_n hx hb dX9_drawBy_4 rfl (lv_at hl 0 rfl) ?_
  refine va_get (D := gD g) (ci := 7) (v := .int v_holder) (C := RX9) (T := TX9) (N := 5) hx hb hts iX9 hown hK hP 0 rfl rfl 3 (by decide) (hts (.fieldLink RX9 22 "BeetleDrive$Table" "holder" "I") (List.mem_of_getElem? (i := 2) rfl)) (fun _ h9 => h9) rfl dX9_drawBy_5 ?_
  obtain ⟨hi1, hf⟩ := chk_some hf
  refine va_iald hx hb hK hP 1 0 rfl rfl hi1 dX9_drawBy_8 ?_
  refine lv_istore_n (lv' := [(2, .int (v_drawn (Int32.toNatClampNeg v_holder))), (0, .ref k_this), (1, .int x1)]) hx hb dX9_drawBy_9 rfl hl (by decide) rfl (fun ls hl => ?_)
  refine lv_iload_n hx hb dX9_drawBy_10 rfl (lv_at hl 0 rfl) ?_
  refine lv_iload_n hx hb dX9_drawBy_11 rfl (lv_at hl 2 rfl) ?_
  obtain ⟨z2, hq3, hf⟩ := bnd_some hf
  refine kR_i (va_runS (As := [.int (v_drawn (Int32.toNatClampNeg v_holder)), .int x1]) (rest := []) ⟨hx, hb, hml, hown, hts⟩ (c_X0_draw l g (v_drawn (Int32.toNatClampNeg v_holder)) x1 z2 hq3) (va_cwS 2 hts gX9_drawBy_X0_draw rfl rfl rfl (by decide +kernel) ⟨Nat.le_of_ble_eq_true rfl, Nat.le_of_ble_eq_true rfl⟩) (kpS_R (hG.now hS) (hP.subm (ws' := []) [] rfl)) rfl rfl hl.1 rfl (lv_room (Nat.le_of_ble_eq_true rfl)) dX9_drawBy_12 ⟨Nat.le_of_ble_eq_true rfl, Nat.le_of_ble_eq_true rfl⟩) ?_
  refine lv_istore_n (lv' := [(3, .int z2), (2, .int (v_drawn (Int32.toNatClampNeg v_holder))), (0, .ref k_this), (1, .int x1)]) hx hb dX9_drawBy_15 rfl hl (by decide) rfl (fun ls hl => ?_)
  refine lv_iload_n hx hb dX9_drawBy_16 rfl (lv_at hl 0 rfl) ?_
  refine lv_iload_n hx hb dX9_drawBy_17 rfl (lv_at hl 1 rfl) ?_
  refine lv_icmp_ne (tgt := 27) hx hb dX9_drawBy_18 (by decide) (fun c4 => ?_) (fun c4 => ?_)
  · replace hf := iff_ c4 hf
    refine lv_aload_n hx hb dX9_drawBy_27 rfl (lv_at hl 2 rfl) ?_
    refine va_get (D := gD g) (ci := 7) (v := .ref k_this_drawn) (C := RX9) (T := TX9) (N := 5) hx hb hts iX9 hown hK hP 0 rfl rfl 0 (by decide) (hts (.fieldLink RX9 9 "BeetleDrive$Table" "drawn" "[I") (List.mem_of_getElem? (i := 1) rfl)) (fun _ h9 => h9) rfl dX9_drawBy_28 ?_
    refine lv_aload_n hx hb dX9_drawBy_31 rfl (lv_at hl 2 rfl) ?_
    refine va_get (D := gD g) (ci := 7) (v := .int v_holder) (C := RX9) (T := TX9) (N := 5) hx hb hts iX9 hown hK hP 0 rfl rfl 3 (by decide) (hts (.fieldLink RX9 22 "BeetleDrive$Table" "holder" "I") (List.mem_of_getElem? (i := 2) rfl)) (fun _ h9 => h9) rfl dX9_drawBy_32 ?_
    refine lv_iload_n hx hb dX9_drawBy_35 rfl (lv_at hl 0 rfl) ?_
    obtain ⟨hi5, hf⟩ := chk_some hf
    refine va_iast hx hb hK hP hD hS 1 0 rfl rfl hi5 dX9_drawBy_36 (fun H locs hP hD hS => ?_)
    have hP : va_P (gD g) vwCl [(k_this, .inr (7, [.ref k_this_drawn, .ref k_this_points, .int v_inBits, .int v_holder, .int v_game])), (k_this_drawn, .inl (gI g, 6, .inl (upd v_drawn (Int32.toNatClampNeg v_holder) z2)))] H := hP
    have hD : va_D A [(k_this, .inr (7, [.ref k_this_drawn, .ref k_this_points, .int v_inBits, .int v_holder, .int v_game])), (k_this_drawn, .inl (gI g, 6, .inl (upd v_drawn (Int32.toNatClampNeg v_holder) z2)))] := hD
    refine lv_iconst (v := 1) hx hb dX9_drawBy_37 (by decide) ?_
    rw [← hQ, ← Option.some.inj hf]
    exact eM_z hx hb hr hlk nb1 hP hD hS rfl dX9_drawBy_38
  · replace hf := ift c4 hf
    refine lv_aload_n hx hb dX9_drawBy_21 rfl (lv_at hl 2 rfl) ?_
    obtain ⟨z6, hq7, hf⟩ := bnd_some hf
    refine kM_v (wc := [(k_this, .inr (7, [.ref k_this_drawn, .ref k_this_points, .int v_inBits, .int v_holder, .int v_game]))]) (wr := [(k_this_drawn, .inl (gI g, 6, .inl v_drawn))]) (w1 := [(k_this, .inr (7, [.ref k_this_drawn, .ref k_this_points, .int v_inBits, .int z6, .int v_game]))]) (w2 := [(k_this, .inr (7, [.ref k_this_drawn, .ref k_this_points, .int v_inBits, .int z6, .int v_game])), (k_this_drawn, .inl (gI g, 6, .inl v_drawn))]) (va_runV (As := []) (rest := []) ⟨hx, hb, hml, hown, hts⟩ (c_X9_passOn l g k_this k_this_drawn k_this_points v_inBits v_holder v_game z6 hq7 s.heap.size) (cwV 0 hts gX9_drawBy_X9_passOn rfl rfl rfl (by decide +kernel) ⟨Nat.le_of_ble_eq_true rfl, Nat.le_of_ble_eq_true rfl⟩) (kpV_M (q0 := 0) (ci := 7) hG hS hP hD hA [0] rfl (by decide) rfl rfl) rfl rfl hl.1 rfl (lv_room (Nat.le_of_ble_eq_true rfl)) dX9_drawBy_22 ⟨Nat.le_of_ble_eq_true rfl, Nat.le_of_ble_eq_true rfl⟩) hP hD hS hA [0] [1] [1, 0] rfl rfl (by decide) (by decide) rfl (by decide) (fun H locs hP hD hS => ?_)
    refine lv_iconst (v := 0) hx hb dX9_drawBy_25 (by decide) ?_
    rw [← hQ, ← Option.some.inj hf]
    exact eM_z hx hb hr hlk nb0 hP hD hS rfl dX9_drawBy_26
set_option maxHeartbeats 4000000 in
set_option maxRecDepth 100000 in
theorem c_X9_goOrCome (l : Launch) (g : bG) (k_this : Nat) (k_this_drawn : Nat) (k_this_points : Nat) (v_inBits : Int32) (v_holder : Int32) (v_game : Int32) (x1 : Int32) (out : Int32 × Int32) (hf : f_X9_goOrCome v_inBits v_holder x1 = some out) : Mv l g yX9_goOrCome wsX9_goOrCome ({ frames := 2, cells := 0, slots := 0, locals := 43 } : Room) [.ref k_this, .int x1] [(k_this, .inr (7, [.ref k_this_drawn, .ref k_this_points, .int v_inBits, .int v_holder, .int v_game]))] [(k_this, .inr (7, [.ref k_this_drawn, .ref k_this_points, .int out.1, .int out.2, .int v_game]))] := by
  refine ofM (Qc := fun A => Qv g [(k_this, .inr (7, [.ref k_this_drawn, .ref k_this_points, .int out.1, .int out.2, .int v_game]))] A) (cc := cX9_goOrCome) (nL := 2) (ret := none) (by decide) rfl (Nat.le_of_ble_eq_true rfl) ?_
  intro p e s m below meth c ar A hC hA hP hD hG ls hl
  have hS : va_S A s.heap s.heap [] := va_S.rf
  obtain ⟨hx, hb, hml, hown, hts, hr, hlk, -⟩ := hC
  have hl : lv_has ls 2 [(0, .ref k_this), (1, .int x1)] := hl
  have hK := hG.1
  have iX9 : ∀ w ∈ u_ws RX9 TX9 5, w ∈ wsX9_goOrCome := fun w h => List.mem_cons_of_mem _ (List.mem_append_right _ (h))
  generalize hQ : MQ below (Qv g [(k_this, .inr (7, [.ref k_this_drawn, .ref k_this_points, .int out.1, .int out.2, .int v_game]))] A) ar s 0 0 A = QQ
  unfold f_X9_goOrCome at hf
  refine lv_aload_n hx hb dX9_goOrCome_0 rfl (lv_at hl 0 rfl) ?_
  refine lv_dup hx hb dX9_goOrCome_1 rfl ?_
  refine va_get (D := gD g) (ci := 7) (v := .int v_inBits) (C := RX9) (T := TX9) (N := 5) hx hb hts iX9 hown hK hP 0 rfl rfl 2 (by decide) (hts (.fieldLink RX9 18 "BeetleDrive$Table" "inBits" "I") (List.mem_of_getElem? (i := 1) rfl)) (fun _ h9 => h9) rfl dX9_goOrCome_2 ?_
  refine lv_iconst (v := 1) hx hb dX9_goOrCome_5 (by decide) ?_
  refine lv_iload_n hx hb dX9_goOrCome_6 rfl (lv_at hl 1 rfl) ?_
  refine lv_ishl hx hb dX9_goOrCome_7 ?_
  refine lv_ixor hx hb dX9_goOrCome_8 ?_
  refine va_put (D := gD g) (ci := 7) (v := .int (v_inBits ^^^ ((1 : Int32) <<< (x1 &&& 31)))) (ty := .int) (C := RX9) (T := TX9) (N := 5) hx hb hts iX9 tyX9 tyX9_ok nmX9 hown hK hP hD hS 0 rfl rfl 2 (by decide) (hts (.fieldLink RX9 18 "BeetleDrive$Table" "inBits" "I") (List.mem_of_getElem? (i := 1) rfl)) (fun _ h9 => h9) rfl (tyX9_ok 2 (by decide)) rfl rfl (Nat.le_of_ble_eq_true rfl) dX9_goOrCome_9 (fun H locs hP hD hS => ?_)
  have hP : va_P (gD g) vwCl [(k_this, .inr (7, [.ref k_this_drawn, .ref k_this_points, .int (v_inBits ^^^ ((1 : Int32) <<< (x1 &&& 31))), .int v_holder, .int v_game]))] H := hP
  have hD : va_D A [(k_this, .inr (7, [.ref k_this_drawn, .ref k_this_points, .int (v_inBits ^^^ ((1 : Int32) <<< (x1 &&& 31))), .int v_holder, .int v_game]))] := hD
  refine lv_iload_n hx hb dX9_goOrCome_12 rfl (lv_at hl 1 rfl) ?_
  refine lv_aload_n hx hb dX9_goOrCome_13 rfl (lv_at hl 0 rfl) ?_
  refine va_get (D := gD g) (ci := 7) (v := .int v_holder) (C := RX9) (T := TX9) (N := 5) hx hb hts iX9 hown hK hP 0 rfl rfl 3 (by decide) (hts (.fieldLink RX9 22 "BeetleDrive$Table" "holder" "I") (List.mem_of_getElem? (i := 2) rfl)) (fun _ h9 => h9) rfl dX9_goOrCome_14 ?_
  refine lv_icmp_ne (tgt := 24) hx hb dX9_goOrCome_17 (by decide) (fun c1 => ?_) (fun c1 => ?_)
  · replace hf := iff_ c1 hf
    rw [← hQ, ← Option.some.inj hf]
    exact eM_v hx hb hr hlk hP hD hS dX9_goOrCome_24
  · replace hf := ift c1 hf
    refine lv_aload_n hx hb dX9_goOrCome_20 rfl (lv_at hl 0 rfl) ?_
    obtain ⟨z2, hq3, hf⟩ := bnd_some hf
    refine kM_v (wc := [(k_this, .inr (7, [.ref k_this_drawn, .ref k_this_points, .int (v_inBits ^^^ ((1 : Int32) <<< (x1 &&& 31))), .int v_holder, .int v_game]))]) (wr := []) (w1 := [(k_this, .inr (7, [.ref k_this_drawn, .ref k_this_points, .int (v_inBits ^^^ ((1 : Int32) <<< (x1 &&& 31))), .int z2, .int v_game]))]) (w2 := [(k_this, .inr (7, [.ref k_this_drawn, .ref k_this_points, .int (v_inBits ^^^ ((1 : Int32) <<< (x1 &&& 31))), .int z2, .int v_game]))]) (va_runV (As := []) (rest := []) ⟨hx, hb, hml, hown, hts⟩ (c_X9_passOn l g k_this k_this_drawn k_this_points (v_inBits ^^^ ((1 : Int32) <<< (x1 &&& 31))) v_holder v_game z2 hq3 H.size) (cwV 0 hts gX9_goOrCome_X9_passOn rfl rfl rfl (by decide +kernel) ⟨Nat.le_of_ble_eq_true rfl, Nat.le_of_ble_eq_true rfl⟩) (kpV_M (q0 := 0) (ci := 7) hG hS hP hD hA [0] rfl (by decide) rfl rfl) rfl rfl hl.1 rfl (lv_room (Nat.le_of_ble_eq_true rfl)) dX9_goOrCome_21 ⟨Nat.le_of_ble_eq_true rfl, Nat.le_of_ble_eq_true rfl⟩) hP hD hS hA [0] [] [0] rfl rfl (by decide) (by decide) rfl (by decide) (fun H locs hP hD hS => ?_)
    rw [← hQ, ← Option.some.inj hf]
    exact eM_v hx hb hr hlk hP hD hS dX9_goOrCome_24
set_option maxHeartbeats 4000000 in
set_option maxRecDepth 100000 in
theorem c_X9_worth (l : Launch) (g : bG) (k_this : Nat) (k_this_drawn : Nat) (k_this_points : Nat) (v_inBits : Int32) (v_holder : Int32) (v_game : Int32) (v_drawn : Nat → Int32) (v_points : Nat → Int32) (x1 : Int32) (out : Int32) (hf : f_X9_worth v_drawn v_points x1 = some out) : Ri l g yX9_worth wsX9_worth ({ frames := 2, cells := 0, slots := 0, locals := 43 } : Room) [.ref k_this, .int x1] [(k_this, .inr (7, [.ref k_this_drawn, .ref k_this_points, .int v_inBits, .int v_holder, .int v_game])), (k_this_drawn, .inl (gI g, 6, .inl v_drawn)), (k_this_points, .inl (gI g, 6, .inl v_points))] out := by
  refine ofR (cc := cX9_worth) (nL := 2) (ret := some .int) (by decide) rfl (Nat.le_of_ble_eq_true rfl) ?_
  intro p e s m below meth c ar hC hP hG ls hl
  have hS : va_S (fun _ => False) s.heap s.heap [] := va_S.rf
  obtain ⟨hx, hb, hml, hown, hts, hr, hlk, -⟩ := hC
  have hl : lv_has ls 2 [(0, .ref k_this), (1, .int x1)] := hl
  have hK := hG.1
  have iX9 : ∀ w ∈ u_ws RX9 TX9 5, w ∈ wsX9_worth := fun w h => List.mem_cons_of_mem _ (List.mem_append_right _ (h))
  generalize hQ : MQ below (vp_Si (fun x => x = out)) ar s 0 0 (fun _ => False) = QQ
  unfold f_X9_worth at hf
  refine lv_aload_n hx hb dX9_worth_0 rfl (lv_at hl 0 rfl) ?_
  refine va_get (D := gD g) (ci := 7) (v := .ref k_this_points) (C := RX9) (T := TX9) (N := 5) hx hb hts iX9 hown hK hP 0 rfl rfl 1 (by decide) (hts (.fieldLink RX9 15 "BeetleDrive$Table" "points" "[I") (List.mem_of_getElem? (i := 1) rfl)) (fun _ h9 => h9) rfl dX9_worth_1 ?_
  refine lv_iload_n hx hb dX9_worth_4 rfl (lv_at hl 1 rfl) ?_
  obtain ⟨hi1, hf⟩ := chk_some hf
  refine va_iald hx hb hK hP 2 0 rfl rfl hi1 dX9_worth_5 ?_
  refine lv_aload_n hx hb dX9_worth_6 rfl (lv_at hl 0 rfl) ?_
  refine va_get (D := gD g) (ci := 7) (v := .ref k_this_drawn) (C := RX9) (T := TX9) (N := 5) hx hb hts iX9 hown hK hP 0 rfl rfl 0 (by decide) (hts (.fieldLink RX9 9 "BeetleDrive$Table" "drawn" "[I") (List.mem_of_getElem? (i := 2) rfl)) (fun _ h9 => h9) rfl dX9_worth_7 ?_
  refine lv_iload_n hx hb dX9_worth_10 rfl (lv_at hl 1 rfl) ?_
  obtain ⟨hi2, hf⟩ := chk_some hf
  refine va_iald hx hb hK hP 1 0 rfl rfl hi2 dX9_worth_11 ?_
  obtain ⟨z3, hq4, hf⟩ := bnd_some hf
  refine kR_i (va_runS (As := [.int (v_drawn (Int32.toNatClampNeg x1))]) (rest := [.int (v_points (Int32.toNatClampNeg x1))]) ⟨hx, hb, hml, hown, hts⟩ (c_X0_parts l g (v_drawn (Int32.toNatClampNeg x1)) z3 hq4) (va_cwS 1 hts gX9_worth_X0_parts rfl rfl rfl (by decide +kernel) ⟨Nat.le_of_ble_eq_true rfl, Nat.le_of_ble_eq_true rfl⟩) (kpS_R hG (hP.subm (ws' := []) [] rfl)) rfl rfl hl.1 rfl (lv_room (Nat.le_of_ble_eq_true rfl)) dX9_worth_12 ⟨Nat.le_of_ble_eq_true rfl, Nat.le_of_ble_eq_true rfl⟩) ?_
  refine lv_iadd hx hb dX9_worth_15 ?_
  rw [← hQ, ← Option.some.inj hf]
  exact eR_i hx hb hr hlk rfl dX9_worth_16
set_option maxHeartbeats 4000000 in
set_option maxRecDepth 100000 in
theorem c_X9_countUp (l : Launch) (g : bG) (k_this : Nat) (k_this_drawn : Nat) (k_this_points : Nat) (v_inBits : Int32) (v_holder : Int32) (v_game : Int32) (v_drawn : Nat → Int32) (v_points : Nat → Int32) (x1 : Int32) (out : (Nat → Int32) × (Nat → Int32) × Int32 × Int32) (hf : f_X9_countUp v_drawn v_points v_holder v_game x1 = some out) : Mv l g yX9_countUp wsX9_countUp ({ frames := 3, cells := 0, slots := 0, locals := 64 } : Room) [.ref k_this, .int x1] [(k_this, .inr (7, [.ref k_this_drawn, .ref k_this_points, .int v_inBits, .int v_holder, .int v_game])), (k_this_drawn, .inl (gI g, 6, .inl v_drawn)), (k_this_points, .inl (gI g, 6, .inl v_points))] [(k_this, .inr (7, [.ref k_this_drawn, .ref k_this_points, .int v_inBits, .int out.2.2.1, .int out.2.2.2])), (k_this_drawn, .inl (gI g, 6, .inl out.1)), (k_this_points, .inl (gI g, 6, .inl out.2.1))] := by
  refine ofM (Qc := fun A => Qv g [(k_this, .inr (7, [.ref k_this_drawn, .ref k_this_points, .int v_inBits, .int out.2.2.1, .int out.2.2.2])), (k_this_drawn, .inl (gI g, 6, .inl out.1)), (k_this_points, .inl (gI g, 6, .inl out.2.1))] A) (cc := cX9_countUp) (nL := 3) (ret := none) (by decide) rfl (Nat.le_of_ble_eq_true rfl) ?_
  intro p e s m below meth c ar A hC hA hP hD hG ls hl
  have hS : va_S A s.heap s.heap [] := va_S.rf
  obtain ⟨hx, hb, hml, hown, hts, hr, hlk, -⟩ := hC
  have hl : lv_has ls 3 [(0, .ref k_this), (1, .int x1)] := hl
  have hK := hG.1
  have iX9 : ∀ w ∈ u_ws RX9 TX9 5, w ∈ wsX9_countUp := fun w h => List.mem_cons_of_mem _ (List.mem_append_right _ (h))
  generalize hQ : MQ below (Qv g [(k_this, .inr (7, [.ref k_this_drawn, .ref k_this_points, .int v_inBits, .int out.2.2.1, .int out.2.2.2])), (k_this_drawn, .inl (gI g, 6, .inl out.1)), (k_this_points, .inl (gI g, 6, .inl out.2.1))] A) ar s 0 0 A = QQ
  have w_2 : ∀ n : Nat, ∀ (x1 : Int32) (x2 : Int32) (v_drawn : Nat → Int32) (v_points : Nat → Int32) (v_holder : Int32) (v_game : Int32), f_X9_countUp_b2 n x1 x2 v_drawn v_points v_holder v_game = some out → ∀ (H : Heap) (locs : List Loc), va_P (gD g) vwCl [(k_this, .inr (7, [.ref k_this_drawn, .ref k_this_points, .int v_inBits, .int v_holder, .int v_game])), (k_this_drawn, .inl (gI g, 6, .inl v_drawn)), (k_this_points, .inl (gI g, 6, .inl v_points))] H → va_D A [(k_this, .inr (7, [.ref k_this_drawn, .ref k_this_points, .int v_inBits, .int v_holder, .int v_game])), (k_this_drawn, .inl (gI g, 6, .inl v_drawn)), (k_this_points, .inl (gI g, 6, .inl v_points))] → va_S A s.heap H locs → ∀ ls : Array Slot, lv_has ls 3 [(0, .ref k_this), (1, .int x1), (2, .int x2)] → W p l e ({ frames := 3, cells := 0, slots := 0, locals := 64 } : Room) s m ar below meth c H locs 0 0 QQ (F0 m 2 ls []) := by
    intro n
    induction n with
    | zero =>
      intro x1 x2 v_drawn v_points v_holder v_game hf
      rw [f_X9_countUp_b2_z] at hf
      cases hf
    | succ n ih =>
      intro x1 x2 v_drawn v_points v_holder v_game hf H locs hP hD hS ls hl
      rw [f_X9_countUp_b2_s] at hf
      refine lv_iload_n hx hb dX9_countUp_2 rfl (lv_at hl 2 rfl) ?_
      refine lv_bipush (v := 6) hx hb dX9_countUp_3 (by decide) ?_
      refine lv_icmp_ge (tgt := 38) hx hb dX9_countUp_5 (by decide) (fun c1 => ?_) (fun c1 => ?_)
      · replace hf := ift c1 hf
        refine lv_aload_n hx hb dX9_countUp_38 rfl (lv_at hl 0 rfl) ?_
        refine lv_iload_n hx hb dX9_countUp_39 rfl (lv_at hl 1 rfl) ?_
        refine va_put (D := gD g) (ci := 7) (v := .int x1) (ty := .int) (C := RX9) (T := TX9) (N := 5) hx hb hts iX9 tyX9 tyX9_ok nmX9 hown hK hP hD hS 0 rfl rfl 3 (by decide) (hts (.fieldLink RX9 22 "BeetleDrive$Table" "holder" "I") (List.mem_of_getElem? (i := 7) rfl)) (fun _ h9 => h9) rfl (tyX9_ok 3 (by decide)) rfl rfl (Nat.le_of_ble_eq_true rfl) dX9_countUp_40 (fun H locs hP hD hS => ?_)
        have hP : va_P (gD g) vwCl [(k_this, .inr (7, [.ref k_this_drawn, .ref k_this_points, .int v_inBits, .int x1, .int v_game])), (k_this_drawn, .inl (gI g, 6, .inl v_drawn)), (k_this_points, .inl (gI g, 6, .inl v_points))] H := hP
        have hD : va_D A [(k_this, .inr (7, [.ref k_this_drawn, .ref k_this_points, .int v_inBits, .int x1, .int v_game])), (k_this_drawn, .inl (gI g, 6, .inl v_drawn)), (k_this_points, .inl (gI g, 6, .inl v_points))] := hD
        refine lv_aload_n hx hb dX9_countUp_43 rfl (lv_at hl 0 rfl) ?_
        refine lv_dup hx hb dX9_countUp_44 rfl ?_
        refine va_get (D := gD g) (ci := 7) (v := .int v_game) (C := RX9) (T := TX9) (N := 5) hx hb hts iX9 hown hK hP 0 rfl rfl 4 (by decide) (hts (.fieldLink RX9 25 "BeetleDrive$Table" "game" "I") (List.mem_of_getElem? (i := 8) rfl)) (fun _ h9 => h9) rfl dX9_countUp_45 ?_
        refine lv_iconst (v := 1) hx hb dX9_countUp_48 (by decide) ?_
        refine lv_iadd hx hb dX9_countUp_49 ?_
        refine va_put (D := gD g) (ci := 7) (v := .int (v_game + (1 : Int32))) (ty := .int) (C := RX9) (T := TX9) (N := 5) hx hb hts iX9 tyX9 tyX9_ok nmX9 hown hK hP hD hS 0 rfl rfl 4 (by decide) (hts (.fieldLink RX9 25 "BeetleDrive$Table" "game" "I") (List.mem_of_getElem? (i := 8) rfl)) (fun _ h9 => h9) rfl (tyX9_ok 4 (by decide)) rfl rfl (Nat.le_of_ble_eq_true rfl) dX9_countUp_50 (fun H locs hP hD hS => ?_)
        have hP : va_P (gD g) vwCl [(k_this, .inr (7, [.ref k_this_drawn, .ref k_this_points, .int v_inBits, .int x1, .int (v_game + (1 : Int32))])), (k_this_drawn, .inl (gI g, 6, .inl v_drawn)), (k_this_points, .inl (gI g, 6, .inl v_points))] H := hP
        have hD : va_D A [(k_this, .inr (7, [.ref k_this_drawn, .ref k_this_points, .int v_inBits, .int x1, .int (v_game + (1 : Int32))])), (k_this_drawn, .inl (gI g, 6, .inl v_drawn)), (k_this_points, .inl (gI g, 6, .inl v_points))] := hD
        rw [← hQ, ← Option.some.inj hf]
        exact eM_v hx hb hr hlk hP hD hS dX9_countUp_53
      · replace hf := iff_ c1 hf
        refine lv_aload_n hx hb dX9_countUp_8 rfl (lv_at hl 0 rfl) ?_
        refine va_get (D := gD g) (ci := 7) (v := .ref k_this_points) (C := RX9) (T := TX9) (N := 5) hx hb hts iX9 hown hK hP 0 rfl rfl 1 (by decide) (hts (.fieldLink RX9 15 "BeetleDrive$Table" "points" "[I") (List.mem_of_getElem? (i := 1) rfl)) (fun _ h9 => h9) rfl dX9_countUp_9 ?_
        refine lv_iload_n hx hb dX9_countUp_12 rfl (lv_at hl 2 rfl) ?_
        refine lv_sipush (v := 999) hx hb dX9_countUp_13 (by decide) ?_
        refine lv_aload_n hx hb dX9_countUp_16 rfl (lv_at hl 0 rfl) ?_
        refine lv_iload_n hx hb dX9_countUp_17 rfl (lv_at hl 2 rfl) ?_
        obtain ⟨z2, hq3, hf⟩ := bnd_some hf
        refine kR_i (va_runV (As := [.int x2]) (rest := [.int (999 : Int32), .int x2, .ref k_this_points]) ⟨hx, hb, hml, hown, hts⟩ (c_X9_worth l g k_this k_this_drawn k_this_points v_inBits v_holder v_game v_drawn v_points x2 z2 hq3) (cwV 1 hts gX9_countUp_X9_worth rfl rfl rfl (by decide +kernel) ⟨Nat.le_of_ble_eq_true rfl, Nat.le_of_ble_eq_true rfl⟩) (kpV_R (q0 := 0) (ci := 7) (hG.now hS) (hP.subm (ws' := [(k_this, .inr (7, [.ref k_this_drawn, .ref k_this_points, .int v_inBits, .int v_holder, .int v_game])), (k_this_drawn, .inl (gI g, 6, .inl v_drawn)), (k_this_points, .inl (gI g, 6, .inl v_points))]) [0, 1, 2] rfl) rfl rfl) rfl rfl hl.1 rfl (lv_room (Nat.le_of_ble_eq_true rfl)) dX9_countUp_18 ⟨Nat.le_of_ble_eq_true rfl, Nat.le_of_ble_eq_true rfl⟩) ?_
        refine va_mmin hx hb (hml.trans hl.1.symm) hown (hts (.methodLink RX9 52 Lib.Math.min.name) (List.mem_of_getElem? (i := 2) rfl)) (hts (.static Lib.Math.min.name) (List.mem_of_getElem? (i := 3) rfl)) (hts (.initialized "java/lang/Math") (List.mem_of_getElem? (i := 4) rfl)) (hts (.code Lib.Math.min.name Lib.Math.min.code 2 (some .int)) (List.mem_of_getElem? (i := 5) rfl)) (Nat.le_of_ble_eq_true rfl) (Nat.le_of_ble_eq_true rfl) (Nat.le_of_ble_eq_true rfl) (Nat.le_of_ble_eq_true rfl) dX9_countUp_21 ?_
        obtain ⟨hi4, hf⟩ := chk_some hf
        refine va_iast hx hb hK hP hD hS 2 0 rfl rfl hi4 dX9_countUp_24 (fun H locs hP hD hS => ?_)
        have hP : va_P (gD g) vwCl [(k_this, .inr (7, [.ref k_this_drawn, .ref k_this_points, .int v_inBits, .int v_holder, .int v_game])), (k_this_drawn, .inl (gI g, 6, .inl v_drawn)), (k_this_points, .inl (gI g, 6, .inl (upd v_points (Int32.toNatClampNeg x2) (if z2 < (999 : Int32) then z2 else (999 : Int32)))))] H := hP
        have hD : va_D A [(k_this, .inr (7, [.ref k_this_drawn, .ref k_this_points, .int v_inBits, .int v_holder, .int v_game])), (k_this_drawn, .inl (gI g, 6, .inl v_drawn)), (k_this_points, .inl (gI g, 6, .inl (upd v_points (Int32.toNatClampNeg x2) (if z2 < (999 : Int32) then z2 else (999 : Int32)))))] := hD
        refine lv_aload_n hx hb dX9_countUp_25 rfl (lv_at hl 0 rfl) ?_
        refine va_get (D := gD g) (ci := 7) (v := .ref k_this_drawn) (C := RX9) (T := TX9) (N := 5) hx hb hts iX9 hown hK hP 0 rfl rfl 0 (by decide) (hts (.fieldLink RX9 9 "BeetleDrive$Table" "drawn" "[I") (List.mem_of_getElem? (i := 6) rfl)) (fun _ h9 => h9) rfl dX9_countUp_26 ?_
        refine lv_iload_n hx hb dX9_countUp_29 rfl (lv_at hl 2 rfl) ?_
        refine lv_iconst (v := 0) hx hb dX9_countUp_30 (by decide) ?_
        obtain ⟨hi5, hf⟩ := chk_some hf
        refine va_iast hx hb hK hP hD hS 1 0 rfl rfl hi5 dX9_countUp_31 (fun H locs hP hD hS => ?_)
        have hP : va_P (gD g) vwCl [(k_this, .inr (7, [.ref k_this_drawn, .ref k_this_points, .int v_inBits, .int v_holder, .int v_game])), (k_this_drawn, .inl (gI g, 6, .inl (upd v_drawn (Int32.toNatClampNeg x2) (0 : Int32)))), (k_this_points, .inl (gI g, 6, .inl (upd v_points (Int32.toNatClampNeg x2) (if z2 < (999 : Int32) then z2 else (999 : Int32)))))] H := hP
        have hD : va_D A [(k_this, .inr (7, [.ref k_this_drawn, .ref k_this_points, .int v_inBits, .int v_holder, .int v_game])), (k_this_drawn, .inl (gI g, 6, .inl (upd v_drawn (Int32.toNatClampNeg x2) (0 : Int32)))), (k_this_points, .inl (gI g, 6, .inl (upd v_points (Int32.toNatClampNeg x2) (if z2 < (999 : Int32) then z2 else (999 : Int32)))))] := hD
        refine lv_iinc (v := (x2 + 1)) (lv' := [(2, .int (x2 + 1)), (0, .ref k_this), (1, .int x1)]) hx hb dX9_countUp_32 hl (k := 2) rfl rfl (by decide) rfl (fun ls hl => ?_)
        refine lv_goto (tgt := 2) hx hb dX9_countUp_35 (by decide) ?_
        exact ih x1 (x2 + 1) (upd v_drawn (Int32.toNatClampNeg x2) (0 : Int32)) (upd v_points (Int32.toNatClampNeg x2) (if z2 < (999 : Int32) then z2 else (999 : Int32))) v_holder v_game hf H locs hP hD hS ls (lv_sub hl [1, 2, 0] rfl)
  unfold f_X9_countUp at hf
  refine lv_iconst (v := 0) hx hb dX9_countUp_0 (by decide) ?_
  refine lv_istore_n (lv' := [(2, .int (0 : Int32)), (0, .ref k_this), (1, .int x1)]) hx hb dX9_countUp_1 rfl hl (by decide) rfl (fun ls hl => ?_)
  exact w_2 FU x1 (0 : Int32) v_drawn v_points v_holder v_game hf s.heap [] hP hD hS ls (lv_sub hl [1, 2, 0] rfl)
set_option maxHeartbeats 4000000 in
set_option maxRecDepth 100000 in
theorem c_X9_wholeOnes (l : Launch) (g : bG) (k_this : Nat) (k_this_drawn : Nat) (k_this_points : Nat) (v_inBits : Int32) (v_holder : Int32) (v_game : Int32) (v_drawn : Nat → Int32) (out : Int32) (hf : f_X9_wholeOnes v_drawn = some out) : Ri l g yX9_wholeOnes wsX9_wholeOnes ({ frames := 1, cells := 0, slots := 0, locals := 21 } : Room) [.ref k_this] [(k_this, .inr (7, [.ref k_this_drawn, .ref k_this_points, .int v_inBits, .int v_holder, .int v_game])), (k_this_drawn, .inl (gI g, 6, .inl v_drawn))] out := by
  refine ofR (cc := cX9_wholeOnes) (nL := 3) (ret := some .int) (by decide) rfl (Nat.le_of_ble_eq_true rfl) ?_
  intro p e s m below meth c ar hC hP hG ls hl
  have hS : va_S (fun _ => False) s.heap s.heap [] := va_S.rf
  obtain ⟨hx, hb, hml, hown, hts, hr, hlk, -⟩ := hC
  have hl : lv_has ls 3 [(0, .ref k_this)] := hl
  have hK := hG.1
  generalize hQ : MQ below (vp_Si (fun x => x = out)) ar s 0 0 (fun _ => False) = QQ
  have w_4 : ∀ n : Nat, ∀ (x1 : Int32) (x2 : Int32), f_X9_wholeOnes_b4 v_drawn n x1 x2 = some out → ∀ ls : Array Slot, lv_has ls 3 [(0, .ref k_this), (1, .int x1), (2, .int x2)] → W p l e ({ frames := 1, cells := 0, slots := 0, locals := 21 } : Room) s m ar below meth c s.heap [] 0 0 QQ (F0 m 4 ls []) := by
    intro n
    induction n with
    | zero =>
      intro x1 x2 hf
      rw [f_X9_wholeOnes_b4_z] at hf
      cases hf
    | succ n ih =>
      intro x1 x2 hf ls hl
      rw [f_X9_wholeOnes_b4_s] at hf
      refine lv_iload_n hx hb dX9_wholeOnes_4 rfl (lv_at hl 2 rfl) ?_
      refine lv_bipush (v := 6) hx hb dX9_wholeOnes_5 (by decide) ?_
      refine lv_icmp_ge (tgt := 30) hx hb dX9_wholeOnes_7 (by decide) (fun c1 => ?_) (fun c1 => ?_)
      · replace hf := ift c1 hf
        refine lv_iload_n hx hb dX9_wholeOnes_30 rfl (lv_at hl 1 rfl) ?_
        rw [← hQ, ← Option.some.inj hf]
        exact eR_i hx hb hr hlk rfl dX9_wholeOnes_31
      · replace hf := iff_ c1 hf
        refine lv_aload_n hx hb dX9_wholeOnes_10 rfl (lv_at hl 0 rfl) ?_
        refine lv_iload_n hx hb dX9_wholeOnes_11 rfl (lv_at hl 2 rfl) ?_
        obtain ⟨z2, hq3, hf⟩ := bnd_some hf
        refine kR_i (va_runV (As := [.int x2]) (rest := []) ⟨hx, hb, hml, hown, hts⟩ (c_X9_isWhole l g k_this k_this_drawn k_this_points v_inBits v_holder v_game v_drawn x2 z2 hq3) (cwV 1 hts gX9_wholeOnes_X9_isWhole rfl rfl rfl (by decide +kernel) ⟨Nat.le_of_ble_eq_true rfl, Nat.le_of_ble_eq_true rfl⟩) (kpV_R (q0 := 0) (ci := 7) hG (hP.subm (ws' := [(k_this, .inr (7, [.ref k_this_drawn, .ref k_this_points, .int v_inBits, .int v_holder, .int v_game])), (k_this_drawn, .inl (gI g, 6, .inl v_drawn))]) [0, 1] rfl) rfl rfl) rfl rfl hl.1 rfl (lv_room (Nat.le_of_ble_eq_true rfl)) dX9_wholeOnes_12 ⟨Nat.le_of_ble_eq_true rfl, Nat.le_of_ble_eq_true rfl⟩) ?_
        refine lv_if_eq (tgt := 24) hx hb dX9_wholeOnes_15 (by decide) (fun c4 => ?_) (fun c4 => ?_)
        · replace hf := ift c4 hf
          refine lv_iinc (v := (x2 + 1)) (lv' := [(2, .int (x2 + 1)), (0, .ref k_this), (1, .int x1)]) hx hb dX9_wholeOnes_24 hl (k := 2) rfl rfl (by decide) rfl (fun ls hl => ?_)
          refine lv_goto (tgt := 4) hx hb dX9_wholeOnes_27 (by decide) ?_
          exact ih x1 (x2 + 1) hf ls (lv_sub hl [1, 2, 0] rfl)
        · replace hf := iff_ c4 hf
          refine lv_iload_n hx hb dX9_wholeOnes_18 rfl (lv_at hl 1 rfl) ?_
          refine lv_iconst (v := 1) hx hb dX9_wholeOnes_19 (by decide) ?_
          refine lv_iload_n hx hb dX9_wholeOnes_20 rfl (lv_at hl 2 rfl) ?_
          refine lv_ishl hx hb dX9_wholeOnes_21 ?_
          refine lv_ior hx hb dX9_wholeOnes_22 ?_
          refine lv_istore_n (lv' := [(1, .int (x1 ||| ((1 : Int32) <<< (x2 &&& 31)))), (0, .ref k_this), (2, .int x2)]) hx hb dX9_wholeOnes_23 rfl hl (by decide) rfl (fun ls hl => ?_)
          refine lv_iinc (v := (x2 + 1)) (lv' := [(2, .int (x2 + 1)), (1, .int (x1 ||| ((1 : Int32) <<< (x2 &&& 31)))), (0, .ref k_this)]) hx hb dX9_wholeOnes_24 hl (k := 2) rfl rfl (by decide) rfl (fun ls hl => ?_)
          refine lv_goto (tgt := 4) hx hb dX9_wholeOnes_27 (by decide) ?_
          exact ih (x1 ||| ((1 : Int32) <<< (x2 &&& 31))) (x2 + 1) hf ls (lv_sub hl [2, 1, 0] rfl)
  unfold f_X9_wholeOnes at hf
  refine lv_iconst (v := 0) hx hb dX9_wholeOnes_0 (by decide) ?_
  refine lv_istore_n (lv' := [(1, .int (0 : Int32)), (0, .ref k_this)]) hx hb dX9_wholeOnes_1 rfl hl (by decide) rfl (fun ls hl => ?_)
  refine lv_iconst (v := 0) hx hb dX9_wholeOnes_2 (by decide) ?_
  refine lv_istore_n (lv' := [(2, .int (0 : Int32)), (1, .int (0 : Int32)), (0, .ref k_this)]) hx hb dX9_wholeOnes_3 rfl hl (by decide) rfl (fun ls hl => ?_)
  exact w_4 FU (0 : Int32) (0 : Int32) hf ls (lv_sub hl [2, 1, 0] rfl)
set_option maxHeartbeats 4000000 in
set_option maxRecDepth 100000 in
theorem c_X9_leader (l : Launch) (g : bG) (k_this : Nat) (k_this_drawn : Nat) (k_this_points : Nat) (v_inBits : Int32) (v_holder : Int32) (v_game : Int32) (v_drawn : Nat → Int32) (v_points : Nat → Int32) (out : Int32) (hf : f_X9_leader v_drawn v_points = some out) : Ri l g yX9_leader wsX9_leader ({ frames := 3, cells := 0, slots := 0, locals := 64 } : Room) [.ref k_this] [(k_this, .inr (7, [.ref k_this_drawn, .ref k_this_points, .int v_inBits, .int v_holder, .int v_game])), (k_this_drawn, .inl (gI g, 6, .inl v_drawn)), (k_this_points, .inl (gI g, 6, .inl v_points))] out := by
  refine ofR (cc := cX9_leader) (nL := 3) (ret := some .int) (by decide) rfl (Nat.le_of_ble_eq_true rfl) ?_
  intro p e s m below meth c ar hC hP hG ls hl
  have hS : va_S (fun _ => False) s.heap s.heap [] := va_S.rf
  obtain ⟨hx, hb, hml, hown, hts, hr, hlk, -⟩ := hC
  have hl : lv_has ls 3 [(0, .ref k_this)] := hl
  have hK := hG.1
  generalize hQ : MQ below (vp_Si (fun x => x = out)) ar s 0 0 (fun _ => False) = QQ
  have w_4 : ∀ n : Nat, ∀ (x1 : Int32) (x2 : Int32), f_X9_leader_b4 v_drawn v_points n x1 x2 = some out → ∀ ls : Array Slot, lv_has ls 3 [(0, .ref k_this), (1, .int x1), (2, .int x2)] → W p l e ({ frames := 3, cells := 0, slots := 0, locals := 64 } : Room) s m ar below meth c s.heap [] 0 0 QQ (F0 m 4 ls []) := by
    intro n
    induction n with
    | zero =>
      intro x1 x2 hf
      rw [f_X9_leader_b4_z] at hf
      cases hf
    | succ n ih =>
      intro x1 x2 hf ls hl
      rw [f_X9_leader_b4_s] at hf
      refine lv_iload_n hx hb dX9_leader_4 rfl (lv_at hl 2 rfl) ?_
      refine lv_bipush (v := 6) hx hb dX9_leader_5 (by decide) ?_
      refine lv_icmp_ge (tgt := 31) hx hb dX9_leader_7 (by decide) (fun c1 => ?_) (fun c1 => ?_)
      · replace hf := ift c1 hf
        refine lv_iload_n hx hb dX9_leader_31 rfl (lv_at hl 1 rfl) ?_
        rw [← hQ, ← Option.some.inj hf]
        exact eR_i hx hb hr hlk rfl dX9_leader_32
      · replace hf := iff_ c1 hf
        refine lv_aload_n hx hb dX9_leader_10 rfl (lv_at hl 0 rfl) ?_
        refine lv_iload_n hx hb dX9_leader_11 rfl (lv_at hl 2 rfl) ?_
        obtain ⟨z2, hq3, hf⟩ := bnd_some hf
        refine kR_i (va_runV (As := [.int x2]) (rest := []) ⟨hx, hb, hml, hown, hts⟩ (c_X9_worth l g k_this k_this_drawn k_this_points v_inBits v_holder v_game v_drawn v_points x2 z2 hq3) (cwV 1 hts gX9_leader_X9_worth rfl rfl rfl (by decide +kernel) ⟨Nat.le_of_ble_eq_true rfl, Nat.le_of_ble_eq_true rfl⟩) (kpV_R (q0 := 0) (ci := 7) hG (hP.subm (ws' := [(k_this, .inr (7, [.ref k_this_drawn, .ref k_this_points, .int v_inBits, .int v_holder, .int v_game])), (k_this_drawn, .inl (gI g, 6, .inl v_drawn)), (k_this_points, .inl (gI g, 6, .inl v_points))]) [0, 1, 2] rfl) rfl rfl) rfl rfl hl.1 rfl (lv_room (Nat.le_of_ble_eq_true rfl)) dX9_leader_12 ⟨Nat.le_of_ble_eq_true rfl, Nat.le_of_ble_eq_true rfl⟩) ?_
        refine lv_aload_n hx hb dX9_leader_15 rfl (lv_at hl 0 rfl) ?_
        refine lv_iload_n hx hb dX9_leader_16 rfl (lv_at hl 1 rfl) ?_
        obtain ⟨z4, hq5, hf⟩ := bnd_some hf
        refine kR_i (va_runV (As := [.int x1]) (rest := [.int z2]) ⟨hx, hb, hml, hown, hts⟩ (c_X9_worth l g k_this k_this_drawn k_this_points v_inBits v_holder v_game v_drawn v_points x1 z4 hq5) (cwV 1 hts gX9_leader_X9_worth rfl rfl rfl (by decide +kernel) ⟨Nat.le_of_ble_eq_true rfl, Nat.le_of_ble_eq_true rfl⟩) (kpV_R (q0 := 0) (ci := 7) hG (hP.subm (ws' := [(k_this, .inr (7, [.ref k_this_drawn, .ref k_this_points, .int v_inBits, .int v_holder, .int v_game])), (k_this_drawn, .inl (gI g, 6, .inl v_drawn)), (k_this_points, .inl (gI g, 6, .inl v_points))]) [0, 1, 2] rfl) rfl rfl) rfl rfl hl.1 rfl (lv_room (Nat.le_of_ble_eq_true rfl)) dX9_leader_17 ⟨Nat.le_of_ble_eq_true rfl, Nat.le_of_ble_eq_true rfl⟩) ?_
        refine lv_icmp_le (tgt := 25) hx hb dX9_leader_20 (by decide) (fun c6 => ?_) (fun c6 => ?_)
        · replace hf := ift c6 hf
          refine lv_iinc (v := (x2 + 1)) (lv' := [(2, .int (x2 + 1)), (0, .ref k_this), (1, .int x1)]) hx hb dX9_leader_25 hl (k := 2) rfl rfl (by decide) rfl (fun ls hl => ?_)
          refine lv_goto (tgt := 4) hx hb dX9_leader_28 (by decide) ?_
          exact ih x1 (x2 + 1) hf ls (lv_sub hl [1, 2, 0] rfl)
        · replace hf := iff_ c6 hf
          refine lv_iload_n hx hb dX9_leader_23 rfl (lv_at hl 2 rfl) ?_
          refine lv_istore_n (lv' := [(1, .int x2), (0, .ref k_this), (2, .int x2)]) hx hb dX9_leader_24 rfl hl (by decide) rfl (fun ls hl => ?_)
          refine lv_iinc (v := (x2 + 1)) (lv' := [(2, .int (x2 + 1)), (1, .int x2), (0, .ref k_this)]) hx hb dX9_leader_25 hl (k := 2) rfl rfl (by decide) rfl (fun ls hl => ?_)
          refine lv_goto (tgt := 4) hx hb dX9_leader_28 (by decide) ?_
          exact ih x2 (x2 + 1) hf ls (lv_sub hl [2, 1, 0] rfl)
  unfold f_X9_leader at hf
  refine lv_iconst (v := 0) hx hb dX9_leader_0 (by decide) ?_
  refine lv_istore_n (lv' := [(1, .int (0 : Int32)), (0, .ref k_this)]) hx hb dX9_leader_1 rfl hl (by decide) rfl (fun ls hl => ?_)
  refine lv_iconst (v := 1) hx hb dX9_leader_2 (by decide) ?_
  refine lv_istore_n (lv' := [(2, .int (1 : Int32)), (1, .int (0 : Int32)), (0, .ref k_this)]) hx hb dX9_leader_3 rfl hl (by decide) rfl (fun ls hl => ?_)
  exact w_4 FU (0 : Int32) (1 : Int32) hf ls (lv_sub hl [2, 1, 0] rfl)
set_option maxHeartbeats 4000000 in
set_option maxRecDepth 100000 in
theorem c_X9_allParts (l : Launch) (g : bG) (k_this : Nat) (k_this_drawn : Nat) (k_this_points : Nat) (v_inBits : Int32) (v_holder : Int32) (v_game : Int32) (v_drawn : Nat → Int32) (out : Int32) (hf : f_X9_allParts v_drawn = some out) : Ri l g yX9_allParts wsX9_allParts ({ frames := 2, cells := 0, slots := 0, locals := 43 } : Room) [.ref k_this] [(k_this, .inr (7, [.ref k_this_drawn, .ref k_this_points, .int v_inBits, .int v_holder, .int v_game])), (k_this_drawn, .inl (gI g, 6, .inl v_drawn))] out := by
  refine ofR (cc := cX9_allParts) (nL := 3) (ret := some .int) (by decide) rfl (Nat.le_of_ble_eq_true rfl) ?_
  intro p e s m below meth c ar hC hP hG ls hl
  have hS : va_S (fun _ => False) s.heap s.heap [] := va_S.rf
  obtain ⟨hx, hb, hml, hown, hts, hr, hlk, -⟩ := hC
  have hl : lv_has ls 3 [(0, .ref k_this)] := hl
  have hK := hG.1
  have iX9 : ∀ w ∈ u_ws RX9 TX9 5, w ∈ wsX9_allParts := fun w h => List.mem_cons_of_mem _ (List.mem_append_right _ (h))
  generalize hQ : MQ below (vp_Si (fun x => x = out)) ar s 0 0 (fun _ => False) = QQ
  have w_4 : ∀ n : Nat, ∀ (x1 : Int32) (x2 : Int32), f_X9_allParts_b4 v_drawn n x1 x2 = some out → ∀ ls : Array Slot, lv_has ls 3 [(0, .ref k_this), (1, .int x1), (2, .int x2)] → W p l e ({ frames := 2, cells := 0, slots := 0, locals := 43 } : Room) s m ar below meth c s.heap [] 0 0 QQ (F0 m 4 ls []) := by
    intro n
    induction n with
    | zero =>
      intro x1 x2 hf
      rw [f_X9_allParts_b4_z] at hf
      cases hf
    | succ n ih =>
      intro x1 x2 hf ls hl
      rw [f_X9_allParts_b4_s] at hf
      refine lv_iload_n hx hb dX9_allParts_4 rfl (lv_at hl 2 rfl) ?_
      refine lv_bipush (v := 6) hx hb dX9_allParts_5 (by decide) ?_
      refine lv_icmp_ge (tgt := 28) hx hb dX9_allParts_7 (by decide) (fun c1 => ?_) (fun c1 => ?_)
      · replace hf := ift c1 hf
        refine lv_iload_n hx hb dX9_allParts_28 rfl (lv_at hl 1 rfl) ?_
        rw [← hQ, ← Option.some.inj hf]
        exact eR_i hx hb hr hlk rfl dX9_allParts_29
      · replace hf := iff_ c1 hf
        refine lv_iload_n hx hb dX9_allParts_10 rfl (lv_at hl 1 rfl) ?_
        refine lv_aload_n hx hb dX9_allParts_11 rfl (lv_at hl 0 rfl) ?_
        refine va_get (D := gD g) (ci := 7) (v := .ref k_this_drawn) (C := RX9) (T := TX9) (N := 5) hx hb hts iX9 hown hK hP 0 rfl rfl 0 (by decide) (hts (.fieldLink RX9 9 "BeetleDrive$Table" "drawn" "[I") (List.mem_of_getElem? (i := 1) rfl)) (fun _ h9 => h9) rfl dX9_allParts_12 ?_
        refine lv_iload_n hx hb dX9_allParts_15 rfl (lv_at hl 2 rfl) ?_
        obtain ⟨hi2, hf⟩ := chk_some hf
        refine va_iald hx hb hK hP 1 0 rfl rfl hi2 dX9_allParts_16 ?_
        obtain ⟨z3, hq4, hf⟩ := bnd_some hf
        refine kR_i (va_runS (As := [.int (v_drawn (Int32.toNatClampNeg x2))]) (rest := [.int x1]) ⟨hx, hb, hml, hown, hts⟩ (c_X0_parts l g (v_drawn (Int32.toNatClampNeg x2)) z3 hq4) (va_cwS 1 hts gX9_allParts_X0_parts rfl rfl rfl (by decide +kernel) ⟨Nat.le_of_ble_eq_true rfl, Nat.le_of_ble_eq_true rfl⟩) (kpS_R hG (hP.subm (ws' := []) [] rfl)) rfl rfl hl.1 rfl (lv_room (Nat.le_of_ble_eq_true rfl)) dX9_allParts_17 ⟨Nat.le_of_ble_eq_true rfl, Nat.le_of_ble_eq_true rfl⟩) ?_
        refine lv_iadd hx hb dX9_allParts_20 ?_
        refine lv_istore_n (lv' := [(1, .int (x1 + z3)), (0, .ref k_this), (2, .int x2)]) hx hb dX9_allParts_21 rfl hl (by decide) rfl (fun ls hl => ?_)
        refine lv_iinc (v := (x2 + 1)) (lv' := [(2, .int (x2 + 1)), (1, .int (x1 + z3)), (0, .ref k_this)]) hx hb dX9_allParts_22 hl (k := 2) rfl rfl (by decide) rfl (fun ls hl => ?_)
        refine lv_goto (tgt := 4) hx hb dX9_allParts_25 (by decide) ?_
        exact ih (x1 + z3) (x2 + 1) hf ls (lv_sub hl [2, 1, 0] rfl)
  unfold f_X9_allParts at hf
  refine lv_iconst (v := 0) hx hb dX9_allParts_0 (by decide) ?_
  refine lv_istore_n (lv' := [(1, .int (0 : Int32)), (0, .ref k_this)]) hx hb dX9_allParts_1 rfl hl (by decide) rfl (fun ls hl => ?_)
  refine lv_iconst (v := 0) hx hb dX9_allParts_2 (by decide) ?_
  refine lv_istore_n (lv' := [(2, .int (0 : Int32)), (1, .int (0 : Int32)), (0, .ref k_this)]) hx hb dX9_allParts_3 rfl hl (by decide) rfl (fun ls hl => ?_)
  exact w_4 FU (0 : Int32) (0 : Int32) hf ls (lv_sub hl [2, 1, 0] rfl)
