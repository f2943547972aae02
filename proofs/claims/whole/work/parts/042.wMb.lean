/-! ===== walks, by program ===== -/
set_option maxHeartbeats 4000000 in
set_option maxRecDepth 100000 in
theorem c_X12_inMany (l : Launch) (g : bG) (q : Nat → Nat) (v_holder : Int32) (v_games : Int32) (v_sights : Int32) (v_padMany : Int32) (v_acts : Int32) (v_nothings : Int32) (v_wholeNow : Int32) (v_badAct : Int32) (v_badWhy : Int32) (v_wholeAct : Int32) (v_wholeWho : Int32) (v_keptAt : Int32) (v_isWriting : Int32) (v_isIn : Nat → Int32) (out : Int32) (hf : f_X12_inMany v_isIn = some out) : Ri l g yX12_inMany wsX12_inMany ({ frames := 0, cells := 0, slots := 0, locals := 0 } : Room) [.ref (q 0)] [((q 0), .inr (10, oX12 q v_holder v_games v_sights v_padMany v_acts v_nothings v_wholeNow v_badAct v_badWhy v_wholeAct v_wholeWho v_keptAt v_isWriting)), ((q 4), .inl (gI g, 6, .inl v_isIn))] out := by
  refine ofR (cc := cX12_inMany) (nL := 3) (ret := some .int) (by decide) rfl (Nat.le_of_ble_eq_true rfl) ?_
  intro p e s m below meth c ar hC hP hG ls hl
  have hS : va_S (fun _ => False) s.heap s.heap [] := va_S.rf
  obtain ⟨hx, hb, hml, hown, hts, hr, hlk, -⟩ := hC
  have hl : lv_has ls 3 [(0, .ref (q 0))] := hl
  have hK := hG.1
  have iX12 : ∀ w ∈ u_ws RX12 TX12 30, w ∈ wsX12_inMany := fun w h => List.mem_cons_of_mem _ (List.mem_append_right _ (h))
  generalize hQ : MQ below (vp_Si (fun x => x = out)) ar s 0 0 (fun _ => False) = QQ
  have w_4 : ∀ n : Nat, ∀ (x1 : Int32) (x2 : Int32), f_X12_inMany_b4 v_isIn n x1 x2 = some out → ∀ ls : Array Slot, lv_has ls 3 [(0, .ref (q 0)), (1, .int x1), (2, .int x2)] → W p l e ({ frames := 0, cells := 0, slots := 0, locals := 0 } : Room) s m ar below meth c s.heap [] 0 0 QQ (F0 m 4 ls []) := by
    intro n
    induction n with
    | zero =>
      intro x1 x2 hf
      rw [f_X12_inMany_b4_z] at hf
      cases hf
    | succ n ih =>
      intro x1 x2 hf ls hl
      rw [f_X12_inMany_b4_s] at hf
      refine lv_iload_n hx hb dX12_inMany_4 rfl (lv_at hl 2 rfl) ?_
      refine lv_bipush (v := 6) hx hb dX12_inMany_5 (by decide) ?_
      refine lv_icmp_ge (tgt := 25) hx hb dX12_inMany_7 (by decide) (fun c1 => ?_) (fun c1 => ?_)
      · replace hf := ift c1 hf
        refine lv_iload_n hx hb dX12_inMany_25 rfl (lv_at hl 1 rfl) ?_
        rw [← hQ, ← Option.some.inj hf]
        exact eR_i hx hb hr hlk rfl dX12_inMany_26
      · replace hf := iff_ c1 hf
        refine lv_iload_n hx hb dX12_inMany_10 rfl (lv_at hl 1 rfl) ?_
        refine lv_aload_n hx hb dX12_inMany_11 rfl (lv_at hl 0 rfl) ?_
        refine va_get (D := gD g) (ci := 10) (v := .ref (q 4)) (C := RX12) (T := TX12) (N := 30) hx hb hts iX12 hown hK hP 0 rfl rfl 3 (by decide) (hts (.fieldLink RX12 19 "BeetleDriveModel" "isIn" "[I") (List.mem_of_getElem? (i := 1) rfl)) (fun _ h9 => h9) rfl dX12_inMany_12 ?_
        refine lv_iload_n hx hb dX12_inMany_15 rfl (lv_at hl 2 rfl) ?_
        obtain ⟨hi2, hf⟩ := chk_some hf
        refine va_iald hx hb hK hP 1 0 rfl rfl hi2 dX12_inMany_16 ?_
        refine lv_iadd hx hb dX12_inMany_17 ?_
        refine lv_istore_n (lv' := [(1, .int (x1 + (v_isIn (Int32.toNatClampNeg x2)))), (0, .ref (q 0)), (2, .int x2)]) hx hb dX12_inMany_18 rfl hl (by decide) rfl (fun ls hl => ?_)
        refine lv_iinc (v := (x2 + 1)) (lv' := [(2, .int (x2 + 1)), (1, .int (x1 + (v_isIn (Int32.toNatClampNeg x2)))), (0, .ref (q 0))]) hx hb dX12_inMany_19 hl (k := 2) rfl rfl (by decide) rfl (fun ls hl => ?_)
        refine lv_goto (tgt := 4) hx hb dX12_inMany_22 (by decide) ?_
        exact ih (x1 + (v_isIn (Int32.toNatClampNeg x2))) (x2 + 1) hf ls (lv_sub hl [2, 1, 0] rfl)
  unfold f_X12_inMany at hf
  refine lv_iconst (v := 0) hx hb dX12_inMany_0 (by decide) ?_
  refine lv_istore_n (lv' := [(1, .int (0 : Int32)), (0, .ref (q 0))]) hx hb dX12_inMany_1 rfl hl (by decide) rfl (fun ls hl => ?_)
  refine lv_iconst (v := 0) hx hb dX12_inMany_2 (by decide) ?_
  refine lv_istore_n (lv' := [(2, .int (0 : Int32)), (1, .int (0 : Int32)), (0, .ref (q 0))]) hx hb dX12_inMany_3 rfl hl (by decide) rfl (fun ls hl => ?_)
  exact w_4 FU (0 : Int32) (0 : Int32) hf ls (lv_sub hl [2, 1, 0] rfl)
set_option maxHeartbeats 4000000 in
set_option maxRecDepth 100000 in
theorem c_X12_whyNot (l : Launch) (g : bG) (q : Nat → Nat) (v_holder : Int32) (v_games : Int32) (v_sights : Int32) (v_padMany : Int32) (v_acts : Int32) (v_nothings : Int32) (v_wholeNow : Int32) (v_badAct : Int32) (v_badWhy : Int32) (v_wholeAct : Int32) (v_wholeWho : Int32) (v_keptAt : Int32) (v_isWriting : Int32) (v_beetle : Nat → Int32) (v_isIn : Nat → Int32) (x1 : Int32) (x2 : Int32) (out : Int32) (hf : f_X12_whyNot v_beetle v_isIn v_holder v_games x1 x2 = some out) : Ri l g yX12_whyNot wsX12_whyNot ({ frames := 1, cells := 0, slots := 0, locals := 22 } : Room) [.ref (q 0), .int x1, .int x2] [((q 0), .inr (10, oX12 q v_holder v_games v_sights v_padMany v_acts v_nothings v_wholeNow v_badAct v_badWhy v_wholeAct v_wholeWho v_keptAt v_isWriting)), ((q 2), .inl (gI g, 6, .inl v_beetle)), ((q 4), .inl (gI g, 6, .inl v_isIn))] out := by
  refine ofR (cc := cX12_whyNot) (nL := 3) (ret := some .int) (by decide) rfl (Nat.le_of_ble_eq_true rfl) ?_
  intro p e s m below meth c ar hC hP hG ls hl
  have hS : va_S (fun _ => False) s.heap s.heap [] := va_S.rf
  obtain ⟨hx, hb, hml, hown, hts, hr, hlk, -⟩ := hC
  have hl : lv_has ls 3 [(0, .ref (q 0)), (1, .int x1), (2, .int x2)] := hl
  have hK := hG.1
  have iX12 : ∀ w ∈ u_ws RX12 TX12 30, w ∈ wsX12_whyNot := fun w h => List.mem_cons_of_mem _ (List.mem_append_right _ (h))
  generalize hQ : MQ below (vp_Si (fun x => x = out)) ar s 0 0 (fun _ => False) = QQ
  unfold f_X12_whyNot at hf
  refine lv_iload_n hx hb dX12_whyNot_0 rfl (lv_at hl 1 rfl) ?_
  by_cases c1 : x1 = 0
  · replace hf := ift c1 hf
    refine lv_tableIn (off := 31) (tgt := 32) hx hb dX12_whyNot_1 (by rw [c1]; decide) (by rw [c1]; decide) (by rw [c1]; rfl) (by decide) ?_
    refine lv_aload_n hx hb dX12_whyNot_32 rfl (lv_at hl 0 rfl) ?_
    refine va_get (D := gD g) (ci := 10) (v := .ref (q 2)) (C := RX12) (T := TX12) (N := 30) hx hb hts iX12 hown hK hP 0 rfl rfl 1 (by decide) (hts (.fieldLink RX12 13 "BeetleDriveModel" "beetle" "[I") (List.mem_of_getElem? (i := 1) rfl)) (fun _ h9 => h9) rfl dX12_whyNot_33 ?_
    refine lv_aload_n hx hb dX12_whyNot_36 rfl (lv_at hl 0 rfl) ?_
    refine va_get (D := gD g) (ci := 10) (v := .int v_holder) (C := RX12) (T := TX12) (N := 30) hx hb hts iX12 hown hK hP 0 rfl rfl 4 (by decide) (hts (.fieldLink RX12 91 "BeetleDriveModel" "holder" "I") (List.mem_of_getElem? (i := 2) rfl)) (fun _ h9 => h9) rfl dX12_whyNot_37 ?_
    obtain ⟨hi2, hf⟩ := chk_some hf
    refine va_iald hx hb hK hP 1 0 rfl rfl hi2 dX12_whyNot_40 ?_
    refine lv_ldc (v := 111622) hx hb hown (hts (.constant RX12 122 (111622)) (List.mem_of_getElem? (i := 3) rfl)) dX12_whyNot_41 ?_
    refine lv_icmp_ne (tgt := 50) hx hb dX12_whyNot_43 (by decide) (fun c3 => ?_) (fun c3 => ?_)
    · replace hf := iff_ c3 hf
      refine lv_iconst (v := 0) hx hb dX12_whyNot_50 (by decide) ?_
      rw [← hQ, ← Option.some.inj hf]
      exact eR_i hx hb hr hlk rfl dX12_whyNot_51
    · replace hf := ift c3 hf
      refine lv_iconst (v := 1) hx hb dX12_whyNot_46 (by decide) ?_
      refine lv_goto (tgt := 51) hx hb dX12_whyNot_47 (by decide) ?_
      rw [← hQ, ← Option.some.inj hf]
      exact eR_i hx hb hr hlk rfl dX12_whyNot_51
  · replace hf := iff_ c1 hf
    by_cases c4 : x1 = 2
    · replace hf := ift c4 hf
      refine lv_tableIn (off := 51) (tgt := 52) hx hb dX12_whyNot_1 (by rw [c4]; decide) (by rw [c4]; decide) (by rw [c4]; rfl) (by decide) ?_
      refine lv_aload_n hx hb dX12_whyNot_52 rfl (lv_at hl 0 rfl) ?_
      refine va_get (D := gD g) (ci := 10) (v := .ref (q 2)) (C := RX12) (T := TX12) (N := 30) hx hb hts iX12 hown hK hP 0 rfl rfl 1 (by decide) (hts (.fieldLink RX12 13 "BeetleDriveModel" "beetle" "[I") (List.mem_of_getElem? (i := 1) rfl)) (fun _ h9 => h9) rfl dX12_whyNot_53 ?_
      refine lv_iload_n hx hb dX12_whyNot_56 rfl (lv_at hl 2 rfl) ?_
      obtain ⟨hi5, hf⟩ := chk_some hf
      refine va_iald hx hb hK hP 1 0 rfl rfl hi5 dX12_whyNot_57 ?_
      refine lv_ldc (v := 111622) hx hb hown (hts (.constant RX12 122 (111622)) (List.mem_of_getElem? (i := 3) rfl)) dX12_whyNot_58 ?_
      refine lv_icmp_ne (tgt := 72) hx hb dX12_whyNot_60 (by decide) (fun c6 => ?_) (fun c6 => ?_)
      · replace hf := iff_ c6 hf
        refine lv_iconst (v := 2) hx hb dX12_whyNot_72 (by decide) ?_
        refine lv_goto (tgt := 90) hx hb dX12_whyNot_73 (by decide) ?_
        rw [← hQ, ← Option.some.inj hf]
        exact eR_i hx hb hr hlk rfl dX12_whyNot_90
      · replace hf := ift c6 hf
        refine lv_aload_n hx hb dX12_whyNot_63 rfl (lv_at hl 0 rfl) ?_
        refine va_get (D := gD g) (ci := 10) (v := .ref (q 4)) (C := RX12) (T := TX12) (N := 30) hx hb hts iX12 hown hK hP 0 rfl rfl 3 (by decide) (hts (.fieldLink RX12 19 "BeetleDriveModel" "isIn" "[I") (List.mem_of_getElem? (i := 4) rfl)) (fun _ h9 => h9) rfl dX12_whyNot_64 ?_
        refine lv_iload_n hx hb dX12_whyNot_67 rfl (lv_at hl 2 rfl) ?_
        obtain ⟨hi7, hf⟩ := chk_some hf
        refine va_iald hx hb hK hP 2 0 rfl rfl hi7 dX12_whyNot_68 ?_
        refine lv_if_ne (tgt := 76) hx hb dX12_whyNot_69 (by decide) (fun c8 => ?_) (fun c8 => ?_)
        · replace hf := iff_ c8 hf
          refine lv_aload_n hx hb dX12_whyNot_76 rfl (lv_at hl 0 rfl) ?_
          refine va_get (D := gD g) (ci := 10) (v := .int v_games) (C := RX12) (T := TX12) (N := 30) hx hb hts iX12 hown hK hP 0 rfl rfl 5 (by decide) (hts (.fieldLink RX12 123 "BeetleDriveModel" "games" "I") (List.mem_of_getElem? (i := 5) rfl)) (fun _ h9 => h9) rfl dX12_whyNot_77 ?_
          refine lv_bipush (v := 99) hx hb dX12_whyNot_80 (by decide) ?_
          refine lv_icmp_ne (tgt := 89) hx hb dX12_whyNot_82 (by decide) (fun c9 => ?_) (fun c9 => ?_)
          · replace hf := iff_ c9 hf
            refine lv_iconst (v := 0) hx hb dX12_whyNot_89 (by decide) ?_
            rw [← hQ, ← Option.some.inj hf]
            exact eR_i hx hb hr hlk rfl dX12_whyNot_90
          · replace hf := ift c9 hf
            refine lv_iconst (v := 4) hx hb dX12_whyNot_85 (by decide) ?_
            refine lv_goto (tgt := 90) hx hb dX12_whyNot_86 (by decide) ?_
            rw [← hQ, ← Option.some.inj hf]
            exact eR_i hx hb hr hlk rfl dX12_whyNot_90
        · replace hf := ift c8 hf
          refine lv_iconst (v := 2) hx hb dX12_whyNot_72 (by decide) ?_
          refine lv_goto (tgt := 90) hx hb dX12_whyNot_73 (by decide) ?_
          rw [← hQ, ← Option.some.inj hf]
          exact eR_i hx hb hr hlk rfl dX12_whyNot_90
    · replace hf := iff_ c4 hf
      by_cases c10 : x1 = 3
      · replace hf := ift c10 hf
        refine lv_tableIn (off := 90) (tgt := 91) hx hb dX12_whyNot_1 (by rw [c10]; decide) (by rw [c10]; decide) (by rw [c10]; rfl) (by decide) ?_
        refine lv_aload_n hx hb dX12_whyNot_91 rfl (lv_at hl 0 rfl) ?_
        refine va_get (D := gD g) (ci := 10) (v := .ref (q 4)) (C := RX12) (T := TX12) (N := 30) hx hb hts iX12 hown hK hP 0 rfl rfl 3 (by decide) (hts (.fieldLink RX12 19 "BeetleDriveModel" "isIn" "[I") (List.mem_of_getElem? (i := 4) rfl)) (fun _ h9 => h9) rfl dX12_whyNot_92 ?_
        refine lv_iload_n hx hb dX12_whyNot_95 rfl (lv_at hl 2 rfl) ?_
        obtain ⟨hi11, hf⟩ := chk_some hf
        refine va_iald hx hb hK hP 2 0 rfl rfl hi11 dX12_whyNot_96 ?_
        refine lv_iconst (v := 1) hx hb dX12_whyNot_97 (by decide) ?_
        refine lv_icmp_ne (tgt := 113) hx hb dX12_whyNot_98 (by decide) (fun c12 => ?_) (fun c12 => ?_)
        · replace hf := iff_ c12 hf
          refine lv_iconst (v := 0) hx hb dX12_whyNot_113 (by decide) ?_
          rw [← hQ, ← Option.some.inj hf]
          exact eR_i hx hb hr hlk rfl dX12_whyNot_114
        · replace hf := ift c12 hf
          refine lv_aload_n hx hb dX12_whyNot_101 rfl (lv_at hl 0 rfl) ?_
          obtain ⟨z13, hq14, hf⟩ := bnd_some hf
          refine kR_i (va_runV (As := []) (rest := []) ⟨hx, hb, hml, hown, hts⟩ (c_X12_inMany l g q v_holder v_games v_sights v_padMany v_acts v_nothings v_wholeNow v_badAct v_badWhy v_wholeAct v_wholeWho v_keptAt v_isWriting v_isIn z13 hq14) (cwV 0 hts gX12_whyNot_X12_inMany rfl rfl rfl (by decide +kernel) ⟨Nat.le_of_ble_eq_true rfl, Nat.le_of_ble_eq_true rfl⟩) (kpV_R (q0 := 0) (ci := 10) hG (hP.subm (ws' := [((q 0), .inr (10, oX12 q v_holder v_games v_sights v_padMany v_acts v_nothings v_wholeNow v_badAct v_badWhy v_wholeAct v_wholeWho v_keptAt v_isWriting)), ((q 4), .inl (gI g, 6, .inl v_isIn))]) [0, 2] rfl) rfl rfl) rfl rfl hl.1 rfl (lv_room (Nat.le_of_ble_eq_true rfl)) dX12_whyNot_102 ⟨Nat.le_of_ble_eq_true rfl, Nat.le_of_ble_eq_true rfl⟩) ?_
          refine lv_iconst (v := 1) hx hb dX12_whyNot_105 (by decide) ?_
          refine lv_icmp_ne (tgt := 113) hx hb dX12_whyNot_106 (by decide) (fun c15 => ?_) (fun c15 => ?_)
          · replace hf := iff_ c15 hf
            refine lv_iconst (v := 0) hx hb dX12_whyNot_113 (by decide) ?_
            rw [← hQ, ← Option.some.inj hf]
            exact eR_i hx hb hr hlk rfl dX12_whyNot_114
          · replace hf := ift c15 hf
            refine lv_iconst (v := 3) hx hb dX12_whyNot_109 (by decide) ?_
            refine lv_goto (tgt := 114) hx hb dX12_whyNot_110 (by decide) ?_
            rw [← hQ, ← Option.some.inj hf]
            exact eR_i hx hb hr hlk rfl dX12_whyNot_114
      · replace hf := iff_ c10 hf
        have ec1 := lv_neT c1 (a := 0) (by decide)
        have ec4 := lv_neT c4 (a := 2) (by decide)
        have ec10 := lv_neT c10 (a := 3) (by decide)
        have w_d : W p l e ({ frames := 1, cells := 0, slots := 0, locals := 22 } : Room) s m ar below meth c s.heap [] 0 0 QQ (F0 m 115 ls []) := by
          refine lv_iconst (v := 0) hx hb dX12_whyNot_115 (by decide) ?_
          rw [← hQ, ← Option.some.inj hf]
          exact eR_i hx hb hr hlk rfl dX12_whyNot_116
        by_cases c16 : x1 = 1
        · exact lv_tableIn (off := 114) (tgt := 115) hx hb dX12_whyNot_1 (by rw [c16]; decide) (by rw [c16]; decide) (by rw [c16]; rfl) (by decide) w_d
        · have ec16 := lv_neT c16 (a := 1) (by decide)
          exact lv_tableOut (tgt := 115) hx hb dX12_whyNot_1 (by omega) (by decide) w_d
set_option maxHeartbeats 4000000 in
set_option maxRecDepth 100000 in
theorem c_X12_goesOn (l : Launch) (g : bG) (q : Nat → Nat) (v_holder : Int32) (v_games : Int32) (v_sights : Int32) (v_padMany : Int32) (v_acts : Int32) (v_nothings : Int32) (v_wholeNow : Int32) (v_badAct : Int32) (v_badWhy : Int32) (v_wholeAct : Int32) (v_wholeWho : Int32) (v_keptAt : Int32) (v_isWriting : Int32) (v_isIn : Nat → Int32) (out : Int32) (hf : f_X12_goesOn v_isIn v_holder = some out) : Mv l g yX12_goesOn wsX12_goesOn ({ frames := 0, cells := 0, slots := 0, locals := 0 } : Room) [.ref (q 0)] [((q 0), .inr (10, oX12 q v_holder v_games v_sights v_padMany v_acts v_nothings v_wholeNow v_badAct v_badWhy v_wholeAct v_wholeWho v_keptAt v_isWriting)), ((q 4), .inl (gI g, 6, .inl v_isIn))] [((q 0), .inr (10, oX12 q out v_games v_sights v_padMany v_acts v_nothings v_wholeNow v_badAct v_badWhy v_wholeAct v_wholeWho v_keptAt v_isWriting)), ((q 4), .inl (gI g, 6, .inl v_isIn))] := by
  refine ofM (Qc := fun A => Qv g [((q 0), .inr (10, oX12 q out v_games v_sights v_padMany v_acts v_nothings v_wholeNow v_badAct v_badWhy v_wholeAct v_wholeWho v_keptAt v_isWriting)), ((q 4), .inl (gI g, 6, .inl v_isIn))] A) (cc := cX12_goesOn) (nL := 1) (ret := none) (by decide) rfl (Nat.le_of_ble_eq_true rfl) ?_
  intro p e s m below meth c ar A hC hA hP hD hG ls hl
  have hS : va_S A s.heap s.heap [] := va_S.rf
  obtain ⟨hx, hb, hml, hown, hts, hr, hlk, -⟩ := hC
  have hl : lv_has ls 1 [(0, .ref (q 0))] := hl
  have hK := hG.1
  have iX12 : ∀ w ∈ u_ws RX12 TX12 30, w ∈ wsX12_goesOn := fun w h => List.mem_cons_of_mem _ (List.mem_append_right _ (h))
  generalize hQ : MQ below (Qv g [((q 0), .inr (10, oX12 q out v_games v_sights v_padMany v_acts v_nothings v_wholeNow v_badAct v_badWhy v_wholeAct v_wholeWho v_keptAt v_isWriting)), ((q 4), .inl (gI g, 6, .inl v_isIn))] A) ar s 0 0 A = QQ
  have w_13 : ∀ n : Nat, ∀ (v_holder : Int32), f_X12_goesOn_b13 v_isIn n v_holder = some out → ∀ (H : Heap) (locs : List Loc), va_P (gD g) vwCl [((q 0), .inr (10, oX12 q v_holder v_games v_sights v_padMany v_acts v_nothings v_wholeNow v_badAct v_badWhy v_wholeAct v_wholeWho v_keptAt v_isWriting)), ((q 4), .inl (gI g, 6, .inl v_isIn))] H → va_D A [((q 0), .inr (10, oX12 q v_holder v_games v_sights v_padMany v_acts v_nothings v_wholeNow v_badAct v_badWhy v_wholeAct v_wholeWho v_keptAt v_isWriting)), ((q 4), .inl (gI g, 6, .inl v_isIn))] → va_S A s.heap H locs → ∀ ls : Array Slot, lv_has ls 1 [(0, .ref (q 0))] → W p l e ({ frames := 0, cells := 0, slots := 0, locals := 0 } : Room) s m ar below meth c H locs 0 0 QQ (F0 m 13 ls []) := by
    intro n
    induction n with
    | zero =>
      intro v_holder hf
      rw [f_X12_goesOn_b13_z] at hf
      cases hf
    | succ n ih =>
      intro v_holder hf H locs hP hD hS ls hl
      rw [f_X12_goesOn_b13_s] at hf
      refine lv_aload_n hx hb dX12_goesOn_13 rfl (lv_at hl 0 rfl) ?_
      refine va_get (D := gD g) (ci := 10) (v := .ref (q 4)) (C := RX12) (T := TX12) (N := 30) hx hb hts iX12 hown hK hP 0 rfl rfl 3 (by decide) (hts (.fieldLink RX12 19 "BeetleDriveModel" "isIn" "[I") (List.mem_of_getElem? (i := 2) rfl)) (fun _ h9 => h9) rfl dX12_goesOn_14 ?_
      refine lv_aload_n hx hb dX12_goesOn_17 rfl (lv_at hl 0 rfl) ?_
      refine va_get (D := gD g) (ci := 10) (v := .int v_holder) (C := RX12) (T := TX12) (N := 30) hx hb hts iX12 hown hK hP 0 rfl rfl 4 (by decide) (hts (.fieldLink RX12 91 "BeetleDriveModel" "holder" "I") (List.mem_of_getElem? (i := 1) rfl)) (fun _ h9 => h9) rfl dX12_goesOn_18 ?_
      obtain ⟨hi1, hf⟩ := chk_some hf
      refine va_iald hx hb hK hP 1 0 rfl rfl hi1 dX12_goesOn_21 ?_
      refine lv_if_ne (tgt := 41) hx hb dX12_goesOn_22 (by decide) (fun c2 => ?_) (fun c2 => ?_)
      · replace hf := iff_ c2 hf
        rw [← hQ, ← Option.some.inj hf]
        exact eM_v hx hb hr hlk hP hD hS dX12_goesOn_41
      · replace hf := ift c2 hf
        refine lv_aload_n hx hb dX12_goesOn_25 rfl (lv_at hl 0 rfl) ?_
        refine lv_aload_n hx hb dX12_goesOn_26 rfl (lv_at hl 0 rfl) ?_
        refine va_get (D := gD g) (ci := 10) (v := .int v_holder) (C := RX12) (T := TX12) (N := 30) hx hb hts iX12 hown hK hP 0 rfl rfl 4 (by decide) (hts (.fieldLink RX12 91 "BeetleDriveModel" "holder" "I") (List.mem_of_getElem? (i := 1) rfl)) (fun _ h9 => h9) rfl dX12_goesOn_27 ?_
        refine lv_iconst (v := 1) hx hb dX12_goesOn_30 (by decide) ?_
        refine lv_iadd hx hb dX12_goesOn_31 ?_
        refine lv_bipush (v := 6) hx hb dX12_goesOn_32 (by decide) ?_
        refine lv_irem hx hb dX12_goesOn_34 (by decide) ?_
        refine va_put (D := gD g) (ci := 10) (v := .int ((v_holder + (1 : Int32)) - (v_holder + (1 : Int32)) / (6 : Int32) * (6 : Int32))) (ty := .int) (C := RX12) (T := TX12) (N := 30) hx hb hts iX12 tyX12 tyX12_ok nmX12 hown hK hP hD hS 0 rfl rfl 4 (by decide) (hts (.fieldLink RX12 91 "BeetleDriveModel" "holder" "I") (List.mem_of_getElem? (i := 1) rfl)) (fun _ h9 => h9) rfl (tyX12_ok 4 (by decide)) rfl rfl (Nat.le_of_ble_eq_true rfl) dX12_goesOn_35 (fun H locs hP hD hS => ?_)
        have hP : va_P (gD g) vwCl [((q 0), .inr (10, oX12 q ((v_holder + (1 : Int32)) - (v_holder + (1 : Int32)) / (6 : Int32) * (6 : Int32)) v_games v_sights v_padMany v_acts v_nothings v_wholeNow v_badAct v_badWhy v_wholeAct v_wholeWho v_keptAt v_isWriting)), ((q 4), .inl (gI g, 6, .inl v_isIn))] H := hP
        have hD : va_D A [((q 0), .inr (10, oX12 q ((v_holder + (1 : Int32)) - (v_holder + (1 : Int32)) / (6 : Int32) * (6 : Int32)) v_games v_sights v_padMany v_acts v_nothings v_wholeNow v_badAct v_badWhy v_wholeAct v_wholeWho v_keptAt v_isWriting)), ((q 4), .inl (gI g, 6, .inl v_isIn))] := hD
        refine lv_goto (tgt := 13) hx hb dX12_goesOn_38 (by decide) ?_
        exact ih ((v_holder + (1 : Int32)) - (v_holder + (1 : Int32)) / (6 : Int32) * (6 : Int32)) hf H locs hP hD hS ls (lv_sub hl [0] rfl)
  unfold f_X12_goesOn at hf
  refine lv_aload_n hx hb dX12_goesOn_0 rfl (lv_at hl 0 rfl) ?_
  refine lv_aload_n hx hb dX12_goesOn_1 rfl (lv_at hl 0 rfl) ?_
  refine va_get (D := gD g) (ci := 10) (v := .int v_holder) (C := RX12) (T := TX12) (N := 30) hx hb hts iX12 hown hK hP 0 rfl rfl 4 (by decide) (hts (.fieldLink RX12 91 "BeetleDriveModel" "holder" "I") (List.mem_of_getElem? (i := 1) rfl)) (fun _ h9 => h9) rfl dX12_goesOn_2 ?_
  refine lv_iconst (v := 1) hx hb dX12_goesOn_5 (by decide) ?_
  refine lv_iadd hx hb dX12_goesOn_6 ?_
  refine lv_bipush (v := 6) hx hb dX12_goesOn_7 (by decide) ?_
  refine lv_irem hx hb dX12_goesOn_9 (by decide) ?_
  refine va_put (D := gD g) (ci := 10) (v := .int ((v_holder + (1 : Int32)) - (v_holder + (1 : Int32)) / (6 : Int32) * (6 : Int32))) (ty := .int) (C := RX12) (T := TX12) (N := 30) hx hb hts iX12 tyX12 tyX12_ok nmX12 hown hK hP hD hS 0 rfl rfl 4 (by decide) (hts (.fieldLink RX12 91 "BeetleDriveModel" "holder" "I") (List.mem_of_getElem? (i := 1) rfl)) (fun _ h9 => h9) rfl (tyX12_ok 4 (by decide)) rfl rfl (Nat.le_of_ble_eq_true rfl) dX12_goesOn_10 (fun H locs hP hD hS => ?_)
  have hP : va_P (gD g) vwCl [((q 0), .inr (10, oX12 q ((v_holder + (1 : Int32)) - (v_holder + (1 : Int32)) / (6 : Int32) * (6 : Int32)) v_games v_sights v_padMany v_acts v_nothings v_wholeNow v_badAct v_badWhy v_wholeAct v_wholeWho v_keptAt v_isWriting)), ((q 4), .inl (gI g, 6, .inl v_isIn))] H := hP
  have hD : va_D A [((q 0), .inr (10, oX12 q ((v_holder + (1 : Int32)) - (v_holder + (1 : Int32)) / (6 : Int32) * (6 : Int32)) v_games v_sights v_padMany v_acts v_nothings v_wholeNow v_badAct v_badWhy v_wholeAct v_wholeWho v_keptAt v_isWriting)), ((q 4), .inl (gI g, 6, .inl v_isIn))] := hD
  exact w_13 FU ((v_holder + (1 : Int32)) - (v_holder + (1 : Int32)) / (6 : Int32) * (6 : Int32)) hf H locs hP hD hS ls (lv_sub hl [0] rfl)
set_option maxHeartbeats 4000000 in
set_option maxRecDepth 100000 in
theorem c_X12_cast (l : Launch) (g : bG) (q : Nat → Nat) (v_holder : Int32) (v_games : Int32) (v_sights : Int32) (v_padMany : Int32) (v_acts : Int32) (v_nothings : Int32) (v_wholeNow : Int32) (v_badAct : Int32) (v_badWhy : Int32) (v_wholeAct : Int32) (v_wholeWho : Int32) (v_keptAt : Int32) (v_isWriting : Int32) (v_most : Nat → Int32) (v_beetle : Nat → Int32) (v_isIn : Nat → Int32) (x1 : Int32) (out : (Nat → Int32) × Int32 × Int32 × Int32) (hf : f_X12_cast v_most v_beetle v_isIn v_holder v_nothings v_wholeNow x1 = some out) : Mv l g yX12_cast wsX12_cast ({ frames := 3, cells := 0, slots := 0, locals := 66 } : Room) [.ref (q 0), .int x1] [((q 0), .inr (10, oX12 q v_holder v_games v_sights v_padMany v_acts v_nothings v_wholeNow v_badAct v_badWhy v_wholeAct v_wholeWho v_keptAt v_isWriting)), ((q 1), .inl (gI g, 6, .inl v_most)), ((q 2), .inl (gI g, 6, .inl v_beetle)), ((q 4), .inl (gI g, 6, .inl v_isIn))] [((q 0), .inr (10, oX12 q out.2.1 v_games v_sights v_padMany v_acts out.2.2.1 out.2.2.2 v_badAct v_badWhy v_wholeAct v_wholeWho v_keptAt v_isWriting)), ((q 1), .inl (gI g, 6, .inl v_most)), ((q 2), .inl (gI g, 6, .inl out.1)), ((q 4), .inl (gI g, 6, .inl v_isIn))] := by
  refine ofM (Qc := fun A => Qv g [((q 0), .inr (10, oX12 q out.2.1 v_games v_sights v_padMany v_acts out.2.2.1 out.2.2.2 v_badAct v_badWhy v_wholeAct v_wholeWho v_keptAt v_isWriting)), ((q 1), .inl (gI g, 6, .inl v_most)), ((q 2), .inl (gI g, 6, .inl out.1)), ((q 4), .inl (gI g, 6, .inl v_isIn))] A) (cc := cX12_cast) (nL := 2) (ret := none) (by decide) rfl (Nat.le_of_ble_eq_true rfl) ?_
  intro p e s m below meth c ar A hC hA hP hD hG ls hl
  have hS : va_S A s.heap s.heap [] := va_S.rf
  obtain ⟨hx, hb, hml, hown, hts, hr, hlk, -⟩ := hC
  have hl : lv_has ls 2 [(0, .ref (q 0)), (1, .int x1)] := hl
  have hK := hG.1
  have iX12 : ∀ w ∈ u_ws RX12 TX12 30, w ∈ wsX12_cast := fun w h => List.mem_cons_of_mem _ (List.mem_append_right _ (h))
  generalize hQ : MQ below (Qv g [((q 0), .inr (10, oX12 q out.2.1 v_games v_sights v_padMany v_acts out.2.2.1 out.2.2.2 v_badAct v_badWhy v_wholeAct v_wholeWho v_keptAt v_isWriting)), ((q 1), .inl (gI g, 6, .inl v_most)), ((q 2), .inl (gI g, 6, .inl out.1)), ((q 4), .inl (gI g, 6, .inl v_isIn))] A) ar s 0 0 A = QQ
  unfold f_X12_cast at hf
  refine lv_aload_n hx hb dX12_cast_0 rfl (lv_at hl 0 rfl) ?_
  refine lv_aload_n hx hb dX12_cast_1 rfl (lv_at hl 0 rfl) ?_
  refine va_get (D := gD g) (ci := 10) (v := .ref (q 2)) (C := RX12) (T := TX12) (N := 30) hx hb hts iX12 hown hK hP 0 rfl rfl 1 (by decide) (hts (.fieldLink RX12 13 "BeetleDriveModel" "beetle" "[I") (List.mem_of_getElem? (i := 1) rfl)) (fun _ h9 => h9) rfl dX12_cast_2 ?_
  refine lv_aload_n hx hb dX12_cast_5 rfl (lv_at hl 0 rfl) ?_
  refine va_get (D := gD g) (ci := 10) (v := .int v_holder) (C := RX12) (T := TX12) (N := 30) hx hb hts iX12 hown hK hP 0 rfl rfl 4 (by decide) (hts (.fieldLink RX12 91 "BeetleDriveModel" "holder" "I") (List.mem_of_getElem? (i := 2) rfl)) (fun _ h9 => h9) rfl dX12_cast_6 ?_
  obtain ⟨hi1, hf⟩ := chk_some hf
  refine va_iald hx hb hK hP 2 0 rfl rfl hi1 dX12_cast_9 ?_
  refine lv_iload_n hx hb dX12_cast_10 rfl (lv_at hl 1 rfl) ?_
  obtain ⟨z2, hq3, hf⟩ := bnd_some hf
  refine kR_i (va_runV (As := [.int (v_beetle (Int32.toNatClampNeg v_holder)), .int x1]) (rest := []) ⟨hx, hb, hml, hown, hts⟩ (c_X12_canDraw l g q v_holder v_games v_sights v_padMany v_acts v_nothings v_wholeNow v_badAct v_badWhy v_wholeAct v_wholeWho v_keptAt v_isWriting v_most (v_beetle (Int32.toNatClampNeg v_holder)) x1 z2 hq3) (cwV 2 hts gX12_cast_X12_canDraw rfl rfl rfl (by decide +kernel) ⟨Nat.le_of_ble_eq_true rfl, Nat.le_of_ble_eq_true rfl⟩) (kpV_R (q0 := 0) (ci := 10) (hG.now hS) (hP.subm (ws' := [((q 0), .inr (10, oX12 q v_holder v_games v_sights v_padMany v_acts v_nothings v_wholeNow v_badAct v_badWhy v_wholeAct v_wholeWho v_keptAt v_isWriting)), ((q 1), .inl (gI g, 6, .inl v_most))]) [0, 1] rfl) rfl rfl) rfl rfl hl.1 rfl (lv_room (Nat.le_of_ble_eq_true rfl)) dX12_cast_11 ⟨Nat.le_of_ble_eq_true rfl, Nat.le_of_ble_eq_true rfl⟩) ?_
  refine lv_if_ne (tgt := 32) hx hb dX12_cast_14 (by decide) (fun c4 => ?_) (fun c4 => ?_)
  · replace hf := iff_ c4 hf
    refine lv_aload_n hx hb dX12_cast_32 rfl (lv_at hl 0 rfl) ?_
    refine va_get (D := gD g) (ci := 10) (v := .ref (q 2)) (C := RX12) (T := TX12) (N := 30) hx hb hts iX12 hown hK hP 0 rfl rfl 1 (by decide) (hts (.fieldLink RX12 13 "BeetleDriveModel" "beetle" "[I") (List.mem_of_getElem? (i := 1) rfl)) (fun _ h9 => h9) rfl dX12_cast_33 ?_
    refine lv_aload_n hx hb dX12_cast_36 rfl (lv_at hl 0 rfl) ?_
    refine va_get (D := gD g) (ci := 10) (v := .int v_holder) (C := RX12) (T := TX12) (N := 30) hx hb hts iX12 hown hK hP 0 rfl rfl 4 (by decide) (hts (.fieldLink RX12 91 "BeetleDriveModel" "holder" "I") (List.mem_of_getElem? (i := 2) rfl)) (fun _ h9 => h9) rfl dX12_cast_37 ?_
    refine lv_aload_n hx hb dX12_cast_40 rfl (lv_at hl 0 rfl) ?_
    refine va_get (D := gD g) (ci := 10) (v := .ref (q 2)) (C := RX12) (T := TX12) (N := 30) hx hb hts iX12 hown hK hP 0 rfl rfl 1 (by decide) (hts (.fieldLink RX12 13 "BeetleDriveModel" "beetle" "[I") (List.mem_of_getElem? (i := 1) rfl)) (fun _ h9 => h9) rfl dX12_cast_41 ?_
    refine lv_aload_n hx hb dX12_cast_44 rfl (lv_at hl 0 rfl) ?_
    refine va_get (D := gD g) (ci := 10) (v := .int v_holder) (C := RX12) (T := TX12) (N := 30) hx hb hts iX12 hown hK hP 0 rfl rfl 4 (by decide) (hts (.fieldLink RX12 91 "BeetleDriveModel" "holder" "I") (List.mem_of_getElem? (i := 2) rfl)) (fun _ h9 => h9) rfl dX12_cast_45 ?_
    obtain ⟨hi5, hf⟩ := chk_some hf
    refine va_iald hx hb hK hP 2 0 rfl rfl hi5 dX12_cast_48 ?_
    refine lv_iload_n hx hb dX12_cast_49 rfl (lv_at hl 1 rfl) ?_
    obtain ⟨z6, hq7, hf⟩ := bnd_some hf
    refine kR_i (va_runS (As := [.int (v_beetle (Int32.toNatClampNeg v_holder)), .int x1]) (rest := [.int v_holder, .ref (q 2)]) ⟨hx, hb, hml, hown, hts⟩ (c_X12_drawnBy l g (v_beetle (Int32.toNatClampNeg v_holder)) x1 z6 hq7) (va_cwS 2 hts gX12_cast_X12_drawnBy rfl rfl rfl (by decide +kernel) ⟨Nat.le_of_ble_eq_true rfl, Nat.le_of_ble_eq_true rfl⟩) (kpS_R (hG.now hS) (hP.subm (ws' := []) [] rfl)) rfl rfl hl.1 rfl (lv_room (Nat.le_of_ble_eq_true rfl)) dX12_cast_50 ⟨Nat.le_of_ble_eq_true rfl, Nat.le_of_ble_eq_true rfl⟩) ?_
    obtain ⟨hi8, hf⟩ := chk_some hf
    refine va_iast hx hb hK hP hD hS 2 0 rfl rfl hi8 dX12_cast_53 (fun H locs hP hD hS => ?_)
    have hP : va_P (gD g) vwCl [((q 0), .inr (10, oX12 q v_holder v_games v_sights v_padMany v_acts v_nothings v_wholeNow v_badAct v_badWhy v_wholeAct v_wholeWho v_keptAt v_isWriting)), ((q 1), .inl (gI g, 6, .inl v_most)), ((q 2), .inl (gI g, 6, .inl (upd v_beetle (Int32.toNatClampNeg v_holder) z6))), ((q 4), .inl (gI g, 6, .inl v_isIn))] H := hP
    have hD : va_D A [((q 0), .inr (10, oX12 q v_holder v_games v_sights v_padMany v_acts v_nothings v_wholeNow v_badAct v_badWhy v_wholeAct v_wholeWho v_keptAt v_isWriting)), ((q 1), .inl (gI g, 6, .inl v_most)), ((q 2), .inl (gI g, 6, .inl (upd v_beetle (Int32.toNatClampNeg v_holder) z6))), ((q 4), .inl (gI g, 6, .inl v_isIn))] := hD
    refine lv_aload_n hx hb dX12_cast_54 rfl (lv_at hl 0 rfl) ?_
    refine lv_aload_n hx hb dX12_cast_55 rfl (lv_at hl 0 rfl) ?_
    refine va_get (D := gD g) (ci := 10) (v := .ref (q 2)) (C := RX12) (T := TX12) (N := 30) hx hb hts iX12 hown hK hP 0 rfl rfl 1 (by decide) (hts (.fieldLink RX12 13 "BeetleDriveModel" "beetle" "[I") (List.mem_of_getElem? (i := 1) rfl)) (fun _ h9 => h9) rfl dX12_cast_56 ?_
    refine lv_aload_n hx hb dX12_cast_59 rfl (lv_at hl 0 rfl) ?_
    refine va_get (D := gD g) (ci := 10) (v := .int v_holder) (C := RX12) (T := TX12) (N := 30) hx hb hts iX12 hown hK hP 0 rfl rfl 4 (by decide) (hts (.fieldLink RX12 91 "BeetleDriveModel" "holder" "I") (List.mem_of_getElem? (i := 2) rfl)) (fun _ h9 => h9) rfl dX12_cast_60 ?_
    obtain ⟨hi9, hf⟩ := chk_some hf
    refine va_iald hx hb hK hP 2 0 rfl rfl hi9 dX12_cast_63 ?_
    refine lv_ldc (v := 111622) hx hb hown (hts (.constant RX12 122 (111622)) (List.mem_of_getElem? (i := 4) rfl)) dX12_cast_64 ?_
    refine lv_icmp_ne (tgt := 76) hx hb dX12_cast_66 (by decide) (fun c10 => ?_) (fun c10 => ?_)
    · replace hf := iff_ c10 hf
      refine lv_bipush (v := -6) hx hb dX12_cast_76 (by decide) ?_
      refine va_put (D := gD g) (ci := 10) (v := .int (-6 : Int32)) (ty := .int) (C := RX12) (T := TX12) (N := 30) hx hb hts iX12 tyX12 tyX12_ok nmX12 hown hK hP hD hS 0 rfl rfl 15 (by decide) (hts (.fieldLink RX12 143 "BeetleDriveModel" "wholeNow" "I") (List.mem_of_getElem? (i := 5) rfl)) (fun _ h9 => h9) rfl (tyX12_ok 15 (by decide)) rfl rfl (Nat.le_of_ble_eq_true rfl) dX12_cast_78 (fun H locs hP hD hS => ?_)
      have hP : va_P (gD g) vwCl [((q 0), .inr (10, oX12 q v_holder v_games v_sights v_padMany v_acts v_nothings (-6 : Int32) v_badAct v_badWhy v_wholeAct v_wholeWho v_keptAt v_isWriting)), ((q 1), .inl (gI g, 6, .inl v_most)), ((q 2), .inl (gI g, 6, .inl (upd v_beetle (Int32.toNatClampNeg v_holder) z6))), ((q 4), .inl (gI g, 6, .inl v_isIn))] H := hP
      have hD : va_D A [((q 0), .inr (10, oX12 q v_holder v_games v_sights v_padMany v_acts v_nothings (-6 : Int32) v_badAct v_badWhy v_wholeAct v_wholeWho v_keptAt v_isWriting)), ((q 1), .inl (gI g, 6, .inl v_most)), ((q 2), .inl (gI g, 6, .inl (upd v_beetle (Int32.toNatClampNeg v_holder) z6))), ((q 4), .inl (gI g, 6, .inl v_isIn))] := hD
      rw [← hQ, ← Option.some.inj hf]
      exact eM_v hx hb hr hlk hP hD hS dX12_cast_81
    · replace hf := ift c10 hf
      refine lv_aload_n hx hb dX12_cast_69 rfl (lv_at hl 0 rfl) ?_
      refine va_get (D := gD g) (ci := 10) (v := .int v_holder) (C := RX12) (T := TX12) (N := 30) hx hb hts iX12 hown hK hP 0 rfl rfl 4 (by decide) (hts (.fieldLink RX12 91 "BeetleDriveModel" "holder" "I") (List.mem_of_getElem? (i := 2) rfl)) (fun _ h9 => h9) rfl dX12_cast_70 ?_
      refine lv_goto (tgt := 78) hx hb dX12_cast_73 (by decide) ?_
      refine va_put (D := gD g) (ci := 10) (v := .int v_holder) (ty := .int) (C := RX12) (T := TX12) (N := 30) hx hb hts iX12 tyX12 tyX12_ok nmX12 hown hK hP hD hS 0 rfl rfl 15 (by decide) (hts (.fieldLink RX12 143 "BeetleDriveModel" "wholeNow" "I") (List.mem_of_getElem? (i := 5) rfl)) (fun _ h9 => h9) rfl (tyX12_ok 15 (by decide)) rfl rfl (Nat.le_of_ble_eq_true rfl) dX12_cast_78 (fun H locs hP hD hS => ?_)
      have hP : va_P (gD g) vwCl [((q 0), .inr (10, oX12 q v_holder v_games v_sights v_padMany v_acts v_nothings v_holder v_badAct v_badWhy v_wholeAct v_wholeWho v_keptAt v_isWriting)), ((q 1), .inl (gI g, 6, .inl v_most)), ((q 2), .inl (gI g, 6, .inl (upd v_beetle (Int32.toNatClampNeg v_holder) z6))), ((q 4), .inl (gI g, 6, .inl v_isIn))] H := hP
      have hD : va_D A [((q 0), .inr (10, oX12 q v_holder v_games v_sights v_padMany v_acts v_nothings v_holder v_badAct v_badWhy v_wholeAct v_wholeWho v_keptAt v_isWriting)), ((q 1), .inl (gI g, 6, .inl v_most)), ((q 2), .inl (gI g, 6, .inl (upd v_beetle (Int32.toNatClampNeg v_holder) z6))), ((q 4), .inl (gI g, 6, .inl v_isIn))] := hD
      rw [← hQ, ← Option.some.inj hf]
      exact eM_v hx hb hr hlk hP hD hS dX12_cast_81
  · replace hf := ift c4 hf
    refine lv_aload_n hx hb dX12_cast_17 rfl (lv_at hl 0 rfl) ?_
    refine lv_dup hx hb dX12_cast_18 rfl ?_
    refine va_get (D := gD g) (ci := 10) (v := .int v_nothings) (C := RX12) (T := TX12) (N := 30) hx hb hts iX12 hown hK hP 0 rfl rfl 14 (by decide) (hts (.fieldLink RX12 134 "BeetleDriveModel" "nothings" "I") (List.mem_of_getElem? (i := 3) rfl)) (fun _ h9 => h9) rfl dX12_cast_19 ?_
    refine lv_iconst (v := 1) hx hb dX12_cast_22 (by decide) ?_
    refine lv_iadd hx hb dX12_cast_23 ?_
    refine va_put (D := gD g) (ci := 10) (v := .int (v_nothings + (1 : Int32))) (ty := .int) (C := RX12) (T := TX12) (N := 30) hx hb hts iX12 tyX12 tyX12_ok nmX12 hown hK hP hD hS 0 rfl rfl 14 (by decide) (hts (.fieldLink RX12 134 "BeetleDriveModel" "nothings" "I") (List.mem_of_getElem? (i := 3) rfl)) (fun _ h9 => h9) rfl (tyX12_ok 14 (by decide)) rfl rfl (Nat.le_of_ble_eq_true rfl) dX12_cast_24 (fun H locs hP hD hS => ?_)
    have hP : va_P (gD g) vwCl [((q 0), .inr (10, oX12 q v_holder v_games v_sights v_padMany v_acts (v_nothings + (1 : Int32)) v_wholeNow v_badAct v_badWhy v_wholeAct v_wholeWho v_keptAt v_isWriting)), ((q 1), .inl (gI g, 6, .inl v_most)), ((q 2), .inl (gI g, 6, .inl v_beetle)), ((q 4), .inl (gI g, 6, .inl v_isIn))] H := hP
    have hD : va_D A [((q 0), .inr (10, oX12 q v_holder v_games v_sights v_padMany v_acts (v_nothings + (1 : Int32)) v_wholeNow v_badAct v_badWhy v_wholeAct v_wholeWho v_keptAt v_isWriting)), ((q 1), .inl (gI g, 6, .inl v_most)), ((q 2), .inl (gI g, 6, .inl v_beetle)), ((q 4), .inl (gI g, 6, .inl v_isIn))] := hD
    refine lv_aload_n hx hb dX12_cast_27 rfl (lv_at hl 0 rfl) ?_
    obtain ⟨z11, hq12, hf⟩ := bnd_some hf
    refine kM_v (wc := [((q 0), .inr (10, oX12 q v_holder v_games v_sights v_padMany v_acts (v_nothings + (1 : Int32)) v_wholeNow v_badAct v_badWhy v_wholeAct v_wholeWho v_keptAt v_isWriting)), ((q 4), .inl (gI g, 6, .inl v_isIn))]) (wr := [((q 1), .inl (gI g, 6, .inl v_most)), ((q 2), .inl (gI g, 6, .inl v_beetle))]) (w1 := [((q 0), .inr (10, oX12 q z11 v_games v_sights v_padMany v_acts (v_nothings + (1 : Int32)) v_wholeNow v_badAct v_badWhy v_wholeAct v_wholeWho v_keptAt v_isWriting)), ((q 4), .inl (gI g, 6, .inl v_isIn))]) (w2 := [((q 0), .inr (10, oX12 q z11 v_games v_sights v_padMany v_acts (v_nothings + (1 : Int32)) v_wholeNow v_badAct v_badWhy v_wholeAct v_wholeWho v_keptAt v_isWriting)), ((q 1), .inl (gI g, 6, .inl v_most)), ((q 2), .inl (gI g, 6, .inl v_beetle)), ((q 4), .inl (gI g, 6, .inl v_isIn))]) (va_runV (As := []) (rest := []) ⟨hx, hb, hml, hown, hts⟩ (c_X12_goesOn l g q v_holder v_games v_sights v_padMany v_acts (v_nothings + (1 : Int32)) v_wholeNow v_badAct v_badWhy v_wholeAct v_wholeWho v_keptAt v_isWriting v_isIn z11 hq12 H.size) (cwV 0 hts gX12_cast_X12_goesOn rfl rfl rfl (by decide +kernel) ⟨Nat.le_of_ble_eq_true rfl, Nat.le_of_ble_eq_true rfl⟩) (kpV_M (q0 := 0) (ci := 10) hG hS hP hD hA [0, 3] rfl (by decide) rfl rfl) rfl rfl hl.1 rfl (lv_room (Nat.le_of_ble_eq_true rfl)) dX12_cast_28 ⟨Nat.le_of_ble_eq_true rfl, Nat.le_of_ble_eq_true rfl⟩) hP hD hS hA [0, 3] [1, 2] [2, 0, 1, 3] rfl rfl (by decide) (by decide) rfl (by decide) (fun H locs hP hD hS => ?_)
    rw [← hQ, ← Option.some.inj hf]
    exact eM_v hx hb hr hlk hP hD hS dX12_cast_31
set_option maxHeartbeats 4000000 in
set_option maxRecDepth 100000 in
theorem c_X12_cry (l : Launch) (g : bG) (q : Nat → Nat) (v_holder : Int32) (v_games : Int32) (v_sights : Int32) (v_padMany : Int32) (v_acts : Int32) (v_nothings : Int32) (v_wholeNow : Int32) (v_badAct : Int32) (v_badWhy : Int32) (v_wholeAct : Int32) (v_wholeWho : Int32) (v_keptAt : Int32) (v_isWriting : Int32) (v_beetle : Nat → Int32) (v_points : Nat → Int32) (x1 : Int32) (out : (Nat → Int32) × (Nat → Int32) × Int32 × Int32) (hf : f_X12_cry v_beetle v_points v_holder v_games x1 = some out) : Mv l g yX12_cry wsX12_cry ({ frames := 3, cells := 0, slots := 0, locals := 65 } : Room) [.ref (q 0), .int x1] [((q 0), .inr (10, oX12 q v_holder v_games v_sights v_padMany v_acts v_nothings v_wholeNow v_badAct v_badWhy v_wholeAct v_wholeWho v_keptAt v_isWriting)), ((q 2), .inl (gI g, 6, .inl v_beetle)), ((q 3), .inl (gI g, 6, .inl v_points))] [((q 0), .inr (10, oX12 q out.2.2.1 out.2.2.2 v_sights v_padMany v_acts v_nothings v_wholeNow v_badAct v_badWhy v_wholeAct v_wholeWho v_keptAt v_isWriting)), ((q 2), .inl (gI g, 6, .inl out.1)), ((q 3), .inl (gI g, 6, .inl out.2.1))] := by
  refine ofM (Qc := fun A => Qv g [((q 0), .inr (10, oX12 q out.2.2.1 out.2.2.2 v_sights v_padMany v_acts v_nothings v_wholeNow v_badAct v_badWhy v_wholeAct v_wholeWho v_keptAt v_isWriting)), ((q 2), .inl (gI g, 6, .inl out.1)), ((q 3), .inl (gI g, 6, .inl out.2.1))] A) (cc := cX12_cry) (nL := 3) (ret := none) (by decide) rfl (Nat.le_of_ble_eq_true rfl) ?_
  intro p e s m below meth c ar A hC hA hP hD hG ls hl
  have hS : va_S A s.heap s.heap [] := va_S.rf
  obtain ⟨hx, hb, hml, hown, hts, hr, hlk, -⟩ := hC
  have hl : lv_has ls 3 [(0, .ref (q 0)), (1, .int x1)] := hl
  have hK := hG.1
  have iX12 : ∀ w ∈ u_ws RX12 TX12 30, w ∈ wsX12_cry := fun w h => List.mem_cons_of_mem _ (List.mem_append_right _ (h))
  generalize hQ : MQ below (Qv g [((q 0), .inr (10, oX12 q out.2.2.1 out.2.2.2 v_sights v_padMany v_acts v_nothings v_wholeNow v_badAct v_badWhy v_wholeAct v_wholeWho v_keptAt v_isWriting)), ((q 2), .inl (gI g, 6, .inl out.1)), ((q 3), .inl (gI g, 6, .inl out.2.1))] A) ar s 0 0 A = QQ
  have w_2 : ∀ n : Nat, ∀ (x1 : Int32) (x2 : Int32) (v_beetle : Nat → Int32) (v_points : Nat → Int32) (v_holder : Int32) (v_games : Int32), f_X12_cry_b2 n x1 x2 v_beetle v_points v_holder v_games = some out → ∀ (H : Heap) (locs : List Loc), va_P (gD g) vwCl [((q 0), .inr (10, oX12 q v_holder v_games v_sights v_padMany v_acts v_nothings v_wholeNow v_badAct v_badWhy v_wholeAct v_wholeWho v_keptAt v_isWriting)), ((q 2), .inl (gI g, 6, .inl v_beetle)), ((q 3), .inl (gI g, 6, .inl v_points))] H → va_D A [((q 0), .inr (10, oX12 q v_holder v_games v_sights v_padMany v_acts v_nothings v_wholeNow v_badAct v_badWhy v_wholeAct v_wholeWho v_keptAt v_isWriting)), ((q 2), .inl (gI g, 6, .inl v_beetle)), ((q 3), .inl (gI g, 6, .inl v_points))] → va_S A s.heap H locs → ∀ ls : Array Slot, lv_has ls 3 [(0, .ref (q 0)), (1, .int x1), (2, .int x2)] → W p l e ({ frames := 3, cells := 0, slots := 0, locals := 65 } : Room) s m ar below meth c H locs 0 0 QQ (F0 m 2 ls []) := by
    intro n
    induction n with
    | zero =>
      intro x1 x2 v_beetle v_points v_holder v_games hf
      rw [f_X12_cry_b2_z] at hf
      cases hf
    | succ n ih =>
      intro x1 x2 v_beetle v_points v_holder v_games hf H locs hP hD hS ls hl
      rw [f_X12_cry_b2_s] at hf
      refine lv_iload_n hx hb dX12_cry_2 rfl (lv_at hl 2 rfl) ?_
      refine lv_bipush (v := 6) hx hb dX12_cry_3 (by decide) ?_
      refine lv_icmp_ge (tgt := 49) hx hb dX12_cry_5 (by decide) (fun c1 => ?_) (fun c1 => ?_)
      · replace hf := ift c1 hf
        refine lv_aload_n hx hb dX12_cry_49 rfl (lv_at hl 0 rfl) ?_
        refine lv_iload_n hx hb dX12_cry_50 rfl (lv_at hl 1 rfl) ?_
        refine va_put (D := gD g) (ci := 10) (v := .int x1) (ty := .int) (C := RX12) (T := TX12) (N := 30) hx hb hts iX12 tyX12 tyX12_ok nmX12 hown hK hP hD hS 0 rfl rfl 4 (by decide) (hts (.fieldLink RX12 91 "BeetleDriveModel" "holder" "I") (List.mem_of_getElem? (i := 3) rfl)) (fun _ h9 => h9) rfl (tyX12_ok 4 (by decide)) rfl rfl (Nat.le_of_ble_eq_true rfl) dX12_cry_51 (fun H locs hP hD hS => ?_)
        have hP : va_P (gD g) vwCl [((q 0), .inr (10, oX12 q x1 v_games v_sights v_padMany v_acts v_nothings v_wholeNow v_badAct v_badWhy v_wholeAct v_wholeWho v_keptAt v_isWriting)), ((q 2), .inl (gI g, 6, .inl v_beetle)), ((q 3), .inl (gI g, 6, .inl v_points))] H := hP
        have hD : va_D A [((q 0), .inr (10, oX12 q x1 v_games v_sights v_padMany v_acts v_nothings v_wholeNow v_badAct v_badWhy v_wholeAct v_wholeWho v_keptAt v_isWriting)), ((q 2), .inl (gI g, 6, .inl v_beetle)), ((q 3), .inl (gI g, 6, .inl v_points))] := hD
        refine lv_aload_n hx hb dX12_cry_54 rfl (lv_at hl 0 rfl) ?_
        refine lv_dup hx hb dX12_cry_55 rfl ?_
        refine va_get (D := gD g) (ci := 10) (v := .int v_games) (C := RX12) (T := TX12) (N := 30) hx hb hts iX12 hown hK hP 0 rfl rfl 5 (by decide) (hts (.fieldLink RX12 123 "BeetleDriveModel" "games" "I") (List.mem_of_getElem? (i := 4) rfl)) (fun _ h9 => h9) rfl dX12_cry_56 ?_
        refine lv_iconst (v := 1) hx hb dX12_cry_59 (by decide) ?_
        refine lv_iadd hx hb dX12_cry_60 ?_
        refine va_put (D := gD g) (ci := 10) (v := .int (v_games + (1 : Int32))) (ty := .int) (C := RX12) (T := TX12) (N := 30) hx hb hts iX12 tyX12 tyX12_ok nmX12 hown hK hP hD hS 0 rfl rfl 5 (by decide) (hts (.fieldLink RX12 123 "BeetleDriveModel" "games" "I") (List.mem_of_getElem? (i := 4) rfl)) (fun _ h9 => h9) rfl (tyX12_ok 5 (by decide)) rfl rfl (Nat.le_of_ble_eq_true rfl) dX12_cry_61 (fun H locs hP hD hS => ?_)
        have hP : va_P (gD g) vwCl [((q 0), .inr (10, oX12 q x1 (v_games + (1 : Int32)) v_sights v_padMany v_acts v_nothings v_wholeNow v_badAct v_badWhy v_wholeAct v_wholeWho v_keptAt v_isWriting)), ((q 2), .inl (gI g, 6, .inl v_beetle)), ((q 3), .inl (gI g, 6, .inl v_points))] H := hP
        have hD : va_D A [((q 0), .inr (10, oX12 q x1 (v_games + (1 : Int32)) v_sights v_padMany v_acts v_nothings v_wholeNow v_badAct v_badWhy v_wholeAct v_wholeWho v_keptAt v_isWriting)), ((q 2), .inl (gI g, 6, .inl v_beetle)), ((q 3), .inl (gI g, 6, .inl v_points))] := hD
        rw [← hQ, ← Option.some.inj hf]
        exact eM_v hx hb hr hlk hP hD hS dX12_cry_64
      · replace hf := iff_ c1 hf
        refine lv_aload_n hx hb dX12_cry_8 rfl (lv_at hl 0 rfl) ?_
        refine va_get (D := gD g) (ci := 10) (v := .ref (q 3)) (C := RX12) (T := TX12) (N := 30) hx hb hts iX12 hown hK hP 0 rfl rfl 2 (by decide) (hts (.fieldLink RX12 16 "BeetleDriveModel" "points" "[I") (List.mem_of_getElem? (i := 1) rfl)) (fun _ h9 => h9) rfl dX12_cry_9 ?_
        refine lv_iload_n hx hb dX12_cry_12 rfl (lv_at hl 2 rfl) ?_
        refine lv_sipush (v := 999) hx hb dX12_cry_13 (by decide) ?_
        refine lv_aload_n hx hb dX12_cry_16 rfl (lv_at hl 0 rfl) ?_
        refine va_get (D := gD g) (ci := 10) (v := .ref (q 3)) (C := RX12) (T := TX12) (N := 30) hx hb hts iX12 hown hK hP 0 rfl rfl 2 (by decide) (hts (.fieldLink RX12 16 "BeetleDriveModel" "points" "[I") (List.mem_of_getElem? (i := 1) rfl)) (fun _ h9 => h9) rfl dX12_cry_17 ?_
        refine lv_iload_n hx hb dX12_cry_20 rfl (lv_at hl 2 rfl) ?_
        obtain ⟨hi2, hf⟩ := chk_some hf
        refine va_iald hx hb hK hP 2 0 rfl rfl hi2 dX12_cry_21 ?_
        refine lv_aload_n hx hb dX12_cry_22 rfl (lv_at hl 0 rfl) ?_
        refine va_get (D := gD g) (ci := 10) (v := .ref (q 2)) (C := RX12) (T := TX12) (N := 30) hx hb hts iX12 hown hK hP 0 rfl rfl 1 (by decide) (hts (.fieldLink RX12 13 "BeetleDriveModel" "beetle" "[I") (List.mem_of_getElem? (i := 2) rfl)) (fun _ h9 => h9) rfl dX12_cry_23 ?_
        refine lv_iload_n hx hb dX12_cry_26 rfl (lv_at hl 2 rfl) ?_
        obtain ⟨hi3, hf⟩ := chk_some hf
        refine va_iald hx hb hK hP 1 0 rfl rfl hi3 dX12_cry_27 ?_
        obtain ⟨z4, hq5, hf⟩ := bnd_some hf
        refine kR_i (va_runS (As := [.int (v_beetle (Int32.toNatClampNeg x2))]) (rest := [.int (v_points (Int32.toNatClampNeg x2)), .int (999 : Int32), .int x2, .ref (q 3)]) ⟨hx, hb, hml, hown, hts⟩ (c_X12_partsOf l g (v_beetle (Int32.toNatClampNeg x2)) z4 hq5) (va_cwS 1 hts gX12_cry_X12_partsOf rfl rfl rfl (by decide +kernel) ⟨Nat.le_of_ble_eq_true rfl, Nat.le_of_ble_eq_true rfl⟩) (kpS_R (hG.now hS) (hP.subm (ws' := []) [] rfl)) rfl rfl hl.1 rfl (lv_room (Nat.le_of_ble_eq_true rfl)) dX12_cry_28 ⟨Nat.le_of_ble_eq_true rfl, Nat.le_of_ble_eq_true rfl⟩) ?_
        refine lv_iadd hx hb dX12_cry_31 ?_
        obtain ⟨z6, hq7, hf⟩ := bnd_some hf
        refine kR_i (va_runS (As := [.int (999 : Int32), .int ((v_points (Int32.toNatClampNeg x2)) + z4)]) (rest := [.int x2, .ref (q 3)]) ⟨hx, hb, hml, hown, hts⟩ (c_X12_less l g (999 : Int32) ((v_points (Int32.toNatClampNeg x2)) + z4) z6 hq7) (va_cwS 2 hts gX12_cry_X12_less rfl rfl rfl (by decide +kernel) ⟨Nat.le_of_ble_eq_true rfl, Nat.le_of_ble_eq_true rfl⟩) (kpS_R (hG.now hS) (hP.subm (ws' := []) [] rfl)) rfl rfl hl.1 rfl (lv_room (Nat.le_of_ble_eq_true rfl)) dX12_cry_32 ⟨Nat.le_of_ble_eq_true rfl, Nat.le_of_ble_eq_true rfl⟩) ?_
        obtain ⟨hi8, hf⟩ := chk_some hf
        refine va_iast hx hb hK hP hD hS 2 0 rfl rfl hi8 dX12_cry_35 (fun H locs hP hD hS => ?_)
        have hP : va_P (gD g) vwCl [((q 0), .inr (10, oX12 q v_holder v_games v_sights v_padMany v_acts v_nothings v_wholeNow v_badAct v_badWhy v_wholeAct v_wholeWho v_keptAt v_isWriting)), ((q 2), .inl (gI g, 6, .inl v_beetle)), ((q 3), .inl (gI g, 6, .inl (upd v_points (Int32.toNatClampNeg x2) z6)))] H := hP
        have hD : va_D A [((q 0), .inr (10, oX12 q v_holder v_games v_sights v_padMany v_acts v_nothings v_wholeNow v_badAct v_badWhy v_wholeAct v_wholeWho v_keptAt v_isWriting)), ((q 2), .inl (gI g, 6, .inl v_beetle)), ((q 3), .inl (gI g, 6, .inl (upd v_points (Int32.toNatClampNeg x2) z6)))] := hD
        refine lv_aload_n hx hb dX12_cry_36 rfl (lv_at hl 0 rfl) ?_
        refine va_get (D := gD g) (ci := 10) (v := .ref (q 2)) (C := RX12) (T := TX12) (N := 30) hx hb hts iX12 hown hK hP 0 rfl rfl 1 (by decide) (hts (.fieldLink RX12 13 "BeetleDriveModel" "beetle" "[I") (List.mem_of_getElem? (i := 2) rfl)) (fun _ h9 => h9) rfl dX12_cry_37 ?_
        refine lv_iload_n hx hb dX12_cry_40 rfl (lv_at hl 2 rfl) ?_
        refine lv_iconst (v := 0) hx hb dX12_cry_41 (by decide) ?_
        obtain ⟨hi9, hf⟩ := chk_some hf
        refine va_iast hx hb hK hP hD hS 1 0 rfl rfl hi9 dX12_cry_42 (fun H locs hP hD hS => ?_)
        have hP : va_P (gD g) vwCl [((q 0), .inr (10, oX12 q v_holder v_games v_sights v_padMany v_acts v_nothings v_wholeNow v_badAct v_badWhy v_wholeAct v_wholeWho v_keptAt v_isWriting)), ((q 2), .inl (gI g, 6, .inl (upd v_beetle (Int32.toNatClampNeg x2) (0 : Int32)))), ((q 3), .inl (gI g, 6, .inl (upd v_points (Int32.toNatClampNeg x2) z6)))] H := hP
        have hD : va_D A [((q 0), .inr (10, oX12 q v_holder v_games v_sights v_padMany v_acts v_nothings v_wholeNow v_badAct v_badWhy v_wholeAct v_wholeWho v_keptAt v_isWriting)), ((q 2), .inl (gI g, 6, .inl (upd v_beetle (Int32.toNatClampNeg x2) (0 : Int32)))), ((q 3), .inl (gI g, 6, .inl (upd v_points (Int32.toNatClampNeg x2) z6)))] := hD
        refine lv_iinc (v := (x2 + 1)) (lv' := [(2, .int (x2 + 1)), (0, .ref (q 0)), (1, .int x1)]) hx hb dX12_cry_43 hl (k := 2) rfl rfl (by decide) rfl (fun ls hl => ?_)
        refine lv_goto (tgt := 2) hx hb dX12_cry_46 (by decide) ?_
        exact ih x1 (x2 + 1) (upd v_beetle (Int32.toNatClampNeg x2) (0 : Int32)) (upd v_points (Int32.toNatClampNeg x2) z6) v_holder v_games hf H locs hP hD hS ls (lv_sub hl [1, 2, 0] rfl)
  unfold f_X12_cry at hf
  refine lv_iconst (v := 0) hx hb dX12_cry_0 (by decide) ?_
  refine lv_istore_n (lv' := [(2, .int (0 : Int32)), (0, .ref (q 0)), (1, .int x1)]) hx hb dX12_cry_1 rfl hl (by decide) rfl (fun ls hl => ?_)
  exact w_2 FU x1 (0 : Int32) v_beetle v_points v_holder v_games hf s.heap [] hP hD hS ls (lv_sub hl [1, 2, 0] rfl)
set_option maxHeartbeats 4000000 in
set_option maxRecDepth 100000 in
theorem c_X12_goOrCome (l : Launch) (g : bG) (q : Nat → Nat) (v_holder : Int32) (v_games : Int32) (v_sights : Int32) (v_padMany : Int32) (v_acts : Int32) (v_nothings : Int32) (v_wholeNow : Int32) (v_badAct : Int32) (v_badWhy : Int32) (v_wholeAct : Int32) (v_wholeWho : Int32) (v_keptAt : Int32) (v_isWriting : Int32) (v_isIn : Nat → Int32) (x1 : Int32) (out : (Nat → Int32) × Int32) (hf : f_X12_goOrCome v_isIn v_holder x1 = some out) : Mv l g yX12_goOrCome wsX12_goOrCome ({ frames := 1, cells := 0, slots := 0, locals := 20 } : Room) [.ref (q 0), .int x1] [((q 0), .inr (10, oX12 q v_holder v_games v_sights v_padMany v_acts v_nothings v_wholeNow v_badAct v_badWhy v_wholeAct v_wholeWho v_keptAt v_isWriting)), ((q 4), .inl (gI g, 6, .inl v_isIn))] [((q 0), .inr (10, oX12 q out.2 v_games v_sights v_padMany v_acts v_nothings v_wholeNow v_badAct v_badWhy v_wholeAct v_wholeWho v_keptAt v_isWriting)), ((q 4), .inl (gI g, 6, .inl out.1))] := by
  refine ofM (Qc := fun A => Qv g [((q 0), .inr (10, oX12 q out.2 v_games v_sights v_padMany v_acts v_nothings v_wholeNow v_badAct v_badWhy v_wholeAct v_wholeWho v_keptAt v_isWriting)), ((q 4), .inl (gI g, 6, .inl out.1))] A) (cc := cX12_goOrCome) (nL := 2) (ret := none) (by decide) rfl (Nat.le_of_ble_eq_true rfl) ?_
  intro p e s m below meth c ar A hC hA hP hD hG ls hl
  have hS : va_S A s.heap s.heap [] := va_S.rf
  obtain ⟨hx, hb, hml, hown, hts, hr, hlk, -⟩ := hC
  have hl : lv_has ls 2 [(0, .ref (q 0)), (1, .int x1)] := hl
  have hK := hG.1
  have iX12 : ∀ w ∈ u_ws RX12 TX12 30, w ∈ wsX12_goOrCome := fun w h => List.mem_cons_of_mem _ (List.mem_append_right _ (h))
  generalize hQ : MQ below (Qv g [((q 0), .inr (10, oX12 q out.2 v_games v_sights v_padMany v_acts v_nothings v_wholeNow v_badAct v_badWhy v_wholeAct v_wholeWho v_keptAt v_isWriting)), ((q 4), .inl (gI g, 6, .inl out.1))] A) ar s 0 0 A = QQ
  unfold f_X12_goOrCome at hf
  refine lv_aload_n hx hb dX12_goOrCome_0 rfl (lv_at hl 0 rfl) ?_
  refine va_get (D := gD g) (ci := 10) (v := .ref (q 4)) (C := RX12) (T := TX12) (N := 30) hx hb hts iX12 hown hK hP 0 rfl rfl 3 (by decide) (hts (.fieldLink RX12 19 "BeetleDriveModel" "isIn" "[I") (List.mem_of_getElem? (i := 1) rfl)) (fun _ h9 => h9) rfl dX12_goOrCome_1 ?_
  refine lv_iload_n hx hb dX12_goOrCome_4 rfl (lv_at hl 1 rfl) ?_
  refine lv_iconst (v := 1) hx hb dX12_goOrCome_5 (by decide) ?_
  refine lv_aload_n hx hb dX12_goOrCome_6 rfl (lv_at hl 0 rfl) ?_
  refine va_get (D := gD g) (ci := 10) (v := .ref (q 4)) (C := RX12) (T := TX12) (N := 30) hx hb hts iX12 hown hK hP 0 rfl rfl 3 (by decide) (hts (.fieldLink RX12 19 "BeetleDriveModel" "isIn" "[I") (List.mem_of_getElem? (i := 1) rfl)) (fun _ h9 => h9) rfl dX12_goOrCome_7 ?_
  refine lv_iload_n hx hb dX12_goOrCome_10 rfl (lv_at hl 1 rfl) ?_
  obtain ⟨hi1, hf⟩ := chk_some hf
  refine va_iald hx hb hK hP 1 0 rfl rfl hi1 dX12_goOrCome_11 ?_
  refine lv_isub hx hb dX12_goOrCome_12 ?_
  obtain ⟨hi2, hf⟩ := chk_some hf
  refine va_iast hx hb hK hP hD hS 1 0 rfl rfl hi2 dX12_goOrCome_13 (fun H locs hP hD hS => ?_)
  have hP : va_P (gD g) vwCl [((q 0), .inr (10, oX12 q v_holder v_games v_sights v_padMany v_acts v_nothings v_wholeNow v_badAct v_badWhy v_wholeAct v_wholeWho v_keptAt v_isWriting)), ((q 4), .inl (gI g, 6, .inl (upd v_isIn (Int32.toNatClampNeg x1) ((1 : Int32) - (v_isIn (Int32.toNatClampNeg x1))))))] H := hP
  have hD : va_D A [((q 0), .inr (10, oX12 q v_holder v_games v_sights v_padMany v_acts v_nothings v_wholeNow v_badAct v_badWhy v_wholeAct v_wholeWho v_keptAt v_isWriting)), ((q 4), .inl (gI g, 6, .inl (upd v_isIn (Int32.toNatClampNeg x1) ((1 : Int32) - (v_isIn (Int32.toNatClampNeg x1))))))] := hD
  refine lv_aload_n hx hb dX12_goOrCome_14 rfl (lv_at hl 0 rfl) ?_
  refine va_get (D := gD g) (ci := 10) (v := .ref (q 4)) (C := RX12) (T := TX12) (N := 30) hx hb hts iX12 hown hK hP 0 rfl rfl 3 (by decide) (hts (.fieldLink RX12 19 "BeetleDriveModel" "isIn" "[I") (List.mem_of_getElem? (i := 1) rfl)) (fun _ h9 => h9) rfl dX12_goOrCome_15 ?_
  refine lv_aload_n hx hb dX12_goOrCome_18 rfl (lv_at hl 0 rfl) ?_
  refine va_get (D := gD g) (ci := 10) (v := .int v_holder) (C := RX12) (T := TX12) (N := 30) hx hb hts iX12 hown hK hP 0 rfl rfl 4 (by decide) (hts (.fieldLink RX12 91 "BeetleDriveModel" "holder" "I") (List.mem_of_getElem? (i := 2) rfl)) (fun _ h9 => h9) rfl dX12_goOrCome_19 ?_
  obtain ⟨hi3, hf⟩ := chk_some hf
  refine va_iald hx hb hK hP 1 0 rfl rfl hi3 dX12_goOrCome_22 ?_
  refine lv_if_ne (tgt := 30) hx hb dX12_goOrCome_23 (by decide) (fun c4 => ?_) (fun c4 => ?_)
  · replace hf := iff_ c4 hf
    rw [← hQ, ← Option.some.inj hf]
    exact eM_v hx hb hr hlk hP hD hS dX12_goOrCome_30
  · replace hf := ift c4 hf
    refine lv_aload_n hx hb dX12_goOrCome_26 rfl (lv_at hl 0 rfl) ?_
    obtain ⟨z5, hq6, hf⟩ := bnd_some hf
    refine kM_v (wc := [((q 0), .inr (10, oX12 q v_holder v_games v_sights v_padMany v_acts v_nothings v_wholeNow v_badAct v_badWhy v_wholeAct v_wholeWho v_keptAt v_isWriting)), ((q 4), .inl (gI g, 6, .inl (upd v_isIn (Int32.toNatClampNeg x1) ((1 : Int32) - (v_isIn (Int32.toNatClampNeg x1))))))]) (wr := []) (w1 := [((q 0), .inr (10, oX12 q z5 v_games v_sights v_padMany v_acts v_nothings v_wholeNow v_badAct v_badWhy v_wholeAct v_wholeWho v_keptAt v_isWriting)), ((q 4), .inl (gI g, 6, .inl (upd v_isIn (Int32.toNatClampNeg x1) ((1 : Int32) - (v_isIn (Int32.toNatClampNeg x1))))))]) (w2 := [((q 0), .inr (10, oX12 q z5 v_games v_sights v_padMany v_acts v_nothings v_wholeNow v_badAct v_badWhy v_wholeAct v_wholeWho v_keptAt v_isWriting)), ((q 4), .inl (gI g, 6, .inl (upd v_isIn (Int32.toNatClampNeg x1) ((1 : Int32) - (v_isIn (Int32.toNatClampNeg x1))))))]) (va_runV (As := []) (rest := []) ⟨hx, hb, hml, hown, hts⟩ (c_X12_goesOn l g q v_holder v_games v_sights v_padMany v_acts v_nothings v_wholeNow v_badAct v_badWhy v_wholeAct v_wholeWho v_keptAt v_isWriting (upd v_isIn (Int32.toNatClampNeg x1) ((1 : Int32) - (v_isIn (Int32.toNatClampNeg x1)))) z5 hq6 H.size) (cwV 0 hts gX12_goOrCome_X12_goesOn rfl rfl rfl (by decide +kernel) ⟨Nat.le_of_ble_eq_true rfl, Nat.le_of_ble_eq_true rfl⟩) (kpV_M (q0 := 0) (ci := 10) hG hS hP hD hA [0, 1] rfl (by decide) rfl rfl) rfl rfl hl.1 rfl (lv_room (Nat.le_of_ble_eq_true rfl)) dX12_goOrCome_27 ⟨Nat.le_of_ble_eq_true rfl, Nat.le_of_ble_eq_true rfl⟩) hP hD hS hA [0, 1] [] [0, 1] rfl rfl (by decide) (by decide) rfl (by decide) (fun H locs hP hD hS => ?_)
    rw [← hQ, ← Option.some.inj hf]
    exact eM_v hx hb hr hlk hP hD hS dX12_goOrCome_30
set_option maxHeartbeats 4000000 in
set_option maxRecDepth 100000 in
theorem c_X12_happen (l : Launch) (g : bG) (q : Nat → Nat) (v_holder : Int32) (v_games : Int32) (v_sights : Int32) (v_padMany : Int32) (v_acts : Int32) (v_nothings : Int32) (v_wholeNow : Int32) (v_badAct : Int32) (v_badWhy : Int32) (v_wholeAct : Int32) (v_wholeWho : Int32) (v_keptAt : Int32) (v_isWriting : Int32) (v_most : Nat → Int32) (v_beetle : Nat → Int32) (v_points : Nat → Int32) (v_isIn : Nat → Int32) (x1 : Int32) (x2 : Int32) (out : (Nat → Int32) × (Nat → Int32) × (Nat → Int32) × Int32 × Int32 × Int32 × Int32) (hf : f_X12_happen v_most v_beetle v_points v_isIn v_holder v_games v_nothings v_wholeNow x1 x2 = some out) : Mv l g yX12_happen wsX12_happen ({ frames := 4, cells := 0, slots := 0, locals := 87 } : Room) [.ref (q 0), .int x1, .int x2] [((q 0), .inr (10, oX12 q v_holder v_games v_sights v_padMany v_acts v_nothings v_wholeNow v_badAct v_badWhy v_wholeAct v_wholeWho v_keptAt v_isWriting)), ((q 1), .inl (gI g, 6, .inl v_most)), ((q 2), .inl (gI g, 6, .inl v_beetle)), ((q 3), .inl (gI g, 6, .inl v_points)), ((q 4), .inl (gI g, 6, .inl v_isIn))] [((q 0), .inr (10, oX12 q out.2.2.2.1 out.2.2.2.2.1 v_sights v_padMany v_acts out.2.2.2.2.2.1 out.2.2.2.2.2.2 v_badAct v_badWhy v_wholeAct v_wholeWho v_keptAt v_isWriting)), ((q 1), .inl (gI g, 6, .inl v_most)), ((q 2), .inl (gI g, 6, .inl out.1)), ((q 3), .inl (gI g, 6, .inl out.2.1)), ((q 4), .inl (gI g, 6, .inl out.2.2.1))] := by
  refine ofM (Qc := fun A => Qv g [((q 0), .inr (10, oX12 q out.2.2.2.1 out.2.2.2.2.1 v_sights v_padMany v_acts out.2.2.2.2.2.1 out.2.2.2.2.2.2 v_badAct v_badWhy v_wholeAct v_wholeWho v_keptAt v_isWriting)), ((q 1), .inl (gI g, 6, .inl v_most)), ((q 2), .inl (gI g, 6, .inl out.1)), ((q 3), .inl (gI g, 6, .inl out.2.1)), ((q 4), .inl (gI g, 6, .inl out.2.2.1))] A) (cc := cX12_happen) (nL := 3) (ret := none) (by decide) rfl (Nat.le_of_ble_eq_true rfl) ?_
  intro p e s m below meth c ar A hC hA hP hD hG ls hl
  have hS : va_S A s.heap s.heap [] := va_S.rf
  obtain ⟨hx, hb, hml, hown, hts, hr, hlk, -⟩ := hC
  have hl : lv_has ls 3 [(0, .ref (q 0)), (1, .int x1), (2, .int x2)] := hl
  have hK := hG.1
  have iX12 : ∀ w ∈ u_ws RX12 TX12 30, w ∈ wsX12_happen := fun w h => List.mem_cons_of_mem _ (List.mem_append_right _ (h))
  generalize hQ : MQ below (Qv g [((q 0), .inr (10, oX12 q out.2.2.2.1 out.2.2.2.2.1 v_sights v_padMany v_acts out.2.2.2.2.2.1 out.2.2.2.2.2.2 v_badAct v_badWhy v_wholeAct v_wholeWho v_keptAt v_isWriting)), ((q 1), .inl (gI g, 6, .inl v_most)), ((q 2), .inl (gI g, 6, .inl out.1)), ((q 3), .inl (gI g, 6, .inl out.2.1)), ((q 4), .inl (gI g, 6, .inl out.2.2.1))] A) ar s 0 0 A = QQ
  unfold f_X12_happen at hf
  refine lv_aload_n hx hb dX12_happen_0 rfl (lv_at hl 0 rfl) ?_
  refine lv_bipush (v := -6) hx hb dX12_happen_1 (by decide) ?_
  refine va_put (D := gD g) (ci := 10) (v := .int (-6 : Int32)) (ty := .int) (C := RX12) (T := TX12) (N := 30) hx hb hts iX12 tyX12 tyX12_ok nmX12 hown hK hP hD hS 0 rfl rfl 15 (by decide) (hts (.fieldLink RX12 143 "BeetleDriveModel" "wholeNow" "I") (List.mem_of_getElem? (i := 1) rfl)) (fun _ h9 => h9) rfl (tyX12_ok 15 (by decide)) rfl rfl (Nat.le_of_ble_eq_true rfl) dX12_happen_3 (fun H locs hP hD hS => ?_)
  have hP : va_P (gD g) vwCl [((q 0), .inr (10, oX12 q v_holder v_games v_sights v_padMany v_acts v_nothings (-6 : Int32) v_badAct v_badWhy v_wholeAct v_wholeWho v_keptAt v_isWriting)), ((q 1), .inl (gI g, 6, .inl v_most)), ((q 2), .inl (gI g, 6, .inl v_beetle)), ((q 3), .inl (gI g, 6, .inl v_points)), ((q 4), .inl (gI g, 6, .inl v_isIn))] H := hP
  have hD : va_D A [((q 0), .inr (10, oX12 q v_holder v_games v_sights v_padMany v_acts v_nothings (-6 : Int32) v_badAct v_badWhy v_wholeAct v_wholeWho v_keptAt v_isWriting)), ((q 1), .inl (gI g, 6, .inl v_most)), ((q 2), .inl (gI g, 6, .inl v_beetle)), ((q 3), .inl (gI g, 6, .inl v_points)), ((q 4), .inl (gI g, 6, .inl v_isIn))] := hD
  refine lv_iload_n hx hb dX12_happen_6 rfl (lv_at hl 1 rfl) ?_
  by_cases c1 : x1 = 0
  · replace hf := ift c1 hf
    refine lv_tableIn (off := 29) (tgt := 36) hx hb dX12_happen_7 (by rw [c1]; decide) (by rw [c1]; decide) (by rw [c1]; rfl) (by decide) ?_
    refine lv_aload_n hx hb dX12_happen_36 rfl (lv_at hl 0 rfl) ?_
    refine lv_iload_n hx hb dX12_happen_37 rfl (lv_at hl 2 rfl) ?_
    obtain ⟨z2, hq3, hf⟩ := bnd_some hf
    refine kM_v (wc := [((q 0), .inr (10, oX12 q v_holder v_games v_sights v_padMany v_acts v_nothings (-6 : Int32) v_badAct v_badWhy v_wholeAct v_wholeWho v_keptAt v_isWriting)), ((q 1), .inl (gI g, 6, .inl v_most)), ((q 2), .inl (gI g, 6, .inl v_beetle)), ((q 4), .inl (gI g, 6, .inl v_isIn))]) (wr := [((q 3), .inl (gI g, 6, .inl v_points))]) (w1 := [((q 0), .inr (10, oX12 q z2.2.1 v_games v_sights v_padMany v_acts z2.2.2.1 z2.2.2.2 v_badAct v_badWhy v_wholeAct v_wholeWho v_keptAt v_isWriting)), ((q 1), .inl (gI g, 6, .inl v_most)), ((q 2), .inl (gI g, 6, .inl z2.1)), ((q 4), .inl (gI g, 6, .inl v_isIn))]) (w2 := [((q 0), .inr (10, oX12 q z2.2.1 v_games v_sights v_padMany v_acts z2.2.2.1 z2.2.2.2 v_badAct v_badWhy v_wholeAct v_wholeWho v_keptAt v_isWriting)), ((q 1), .inl (gI g, 6, .inl v_most)), ((q 2), .inl (gI g, 6, .inl z2.1)), ((q 3), .inl (gI g, 6, .inl v_points)), ((q 4), .inl (gI g, 6, .inl v_isIn))]) (va_runV (As := [.int x2]) (rest := []) ⟨hx, hb, hml, hown, hts⟩ (c_X12_cast l g q v_holder v_games v_sights v_padMany v_acts v_nothings (-6 : Int32) v_badAct v_badWhy v_wholeAct v_wholeWho v_keptAt v_isWriting v_most v_beetle v_isIn x2 z2 hq3 H.size) (cwV 1 hts gX12_happen_X12_cast rfl rfl rfl (by decide +kernel) ⟨Nat.le_of_ble_eq_true rfl, Nat.le_of_ble_eq_true rfl⟩) (kpV_M (q0 := 0) (ci := 10) hG hS hP hD hA [0, 1, 2, 4] rfl (by decide) rfl rfl) rfl rfl hl.1 rfl (lv_room (Nat.le_of_ble_eq_true rfl)) dX12_happen_38 ⟨Nat.le_of_ble_eq_true rfl, Nat.le_of_ble_eq_true rfl⟩) hP hD hS hA [0, 1, 2, 4] [3] [1, 2, 3, 0, 4] rfl rfl (by decide) (by decide) rfl (by decide) (fun H locs hP hD hS => ?_)
    refine lv_goto (tgt := 64) hx hb dX12_happen_41 (by decide) ?_
    rw [← hQ, ← Option.some.inj hf]
    exact eM_v hx hb hr hlk hP hD hS dX12_happen_64
  · replace hf := iff_ c1 hf
    by_cases c4 : x1 = 2
    · replace hf := ift c4 hf
      refine lv_tableIn (off := 37) (tgt := 44) hx hb dX12_happen_7 (by rw [c4]; decide) (by rw [c4]; decide) (by rw [c4]; rfl) (by decide) ?_
      refine lv_aload_n hx hb dX12_happen_44 rfl (lv_at hl 0 rfl) ?_
      refine lv_iload_n hx hb dX12_happen_45 rfl (lv_at hl 2 rfl) ?_
      obtain ⟨z5, hq6, hf⟩ := bnd_some hf
      refine kM_v (wc := [((q 0), .inr (10, oX12 q v_holder v_games v_sights v_padMany v_acts v_nothings (-6 : Int32) v_badAct v_badWhy v_wholeAct v_wholeWho v_keptAt v_isWriting)), ((q 2), .inl (gI g, 6, .inl v_beetle)), ((q 3), .inl (gI g, 6, .inl v_points))]) (wr := [((q 1), .inl (gI g, 6, .inl v_most)), ((q 4), .inl (gI g, 6, .inl v_isIn))]) (w1 := [((q 0), .inr (10, oX12 q z5.2.2.1 z5.2.2.2 v_sights v_padMany v_acts v_nothings (-6 : Int32) v_badAct v_badWhy v_wholeAct v_wholeWho v_keptAt v_isWriting)), ((q 2), .inl (gI g, 6, .inl z5.1)), ((q 3), .inl (gI g, 6, .inl z5.2.1))]) (w2 := [((q 0), .inr (10, oX12 q z5.2.2.1 z5.2.2.2 v_sights v_padMany v_acts v_nothings (-6 : Int32) v_badAct v_badWhy v_wholeAct v_wholeWho v_keptAt v_isWriting)), ((q 1), .inl (gI g, 6, .inl v_most)), ((q 2), .inl (gI g, 6, .inl z5.1)), ((q 3), .inl (gI g, 6, .inl z5.2.1)), ((q 4), .inl (gI g, 6, .inl v_isIn))]) (va_runV (As := [.int x2]) (rest := []) ⟨hx, hb, hml, hown, hts⟩ (c_X12_cry l g q v_holder v_games v_sights v_padMany v_acts v_nothings (-6 : Int32) v_badAct v_badWhy v_wholeAct v_wholeWho v_keptAt v_isWriting v_beetle v_points x2 z5 hq6 H.size) (cwV 1 hts gX12_happen_X12_cry rfl rfl rfl (by decide +kernel) ⟨Nat.le_of_ble_eq_true rfl, Nat.le_of_ble_eq_true rfl⟩) (kpV_M (q0 := 0) (ci := 10) hG hS hP hD hA [0, 2, 3] rfl (by decide) rfl rfl) rfl rfl hl.1 rfl (lv_room (Nat.le_of_ble_eq_true rfl)) dX12_happen_46 ⟨Nat.le_of_ble_eq_true rfl, Nat.le_of_ble_eq_true rfl⟩) hP hD hS hA [0, 2, 3] [1, 4] [2, 0, 3, 4, 1] rfl rfl (by decide) (by decide) rfl (by decide) (fun H locs hP hD hS => ?_)
      refine lv_goto (tgt := 64) hx hb dX12_happen_49 (by decide) ?_
      rw [← hQ, ← Option.some.inj hf]
      exact eM_v hx hb hr hlk hP hD hS dX12_happen_64
    · replace hf := iff_ c4 hf
      by_cases c7 : x1 = 3
      · replace hf := ift c7 hf
        refine lv_tableIn (off := 45) (tgt := 52) hx hb dX12_happen_7 (by rw [c7]; decide) (by rw [c7]; decide) (by rw [c7]; rfl) (by decide) ?_
        refine lv_aload_n hx hb dX12_happen_52 rfl (lv_at hl 0 rfl) ?_
        refine lv_iload_n hx hb dX12_happen_53 rfl (lv_at hl 2 rfl) ?_
        obtain ⟨z8, hq9, hf⟩ := bnd_some hf
        refine kM_v (wc := [((q 0), .inr (10, oX12 q v_holder v_games v_sights v_padMany v_acts v_nothings (-6 : Int32) v_badAct v_badWhy v_wholeAct v_wholeWho v_keptAt v_isWriting)), ((q 4), .inl (gI g, 6, .inl v_isIn))]) (wr := [((q 1), .inl (gI g, 6, .inl v_most)), ((q 2), .inl (gI g, 6, .inl v_beetle)), ((q 3), .inl (gI g, 6, .inl v_points))]) (w1 := [((q 0), .inr (10, oX12 q z8.2 v_games v_sights v_padMany v_acts v_nothings (-6 : Int32) v_badAct v_badWhy v_wholeAct v_wholeWho v_keptAt v_isWriting)), ((q 4), .inl (gI g, 6, .inl z8.1))]) (w2 := [((q 0), .inr (10, oX12 q z8.2 v_games v_sights v_padMany v_acts v_nothings (-6 : Int32) v_badAct v_badWhy v_wholeAct v_wholeWho v_keptAt v_isWriting)), ((q 1), .inl (gI g, 6, .inl v_most)), ((q 2), .inl (gI g, 6, .inl v_beetle)), ((q 3), .inl (gI g, 6, .inl v_points)), ((q 4), .inl (gI g, 6, .inl z8.1))]) (va_runV (As := [.int x2]) (rest := []) ⟨hx, hb, hml, hown, hts⟩ (c_X12_goOrCome l g q v_holder v_games v_sights v_padMany v_acts v_nothings (-6 : Int32) v_badAct v_badWhy v_wholeAct v_wholeWho v_keptAt v_isWriting v_isIn x2 z8 hq9 H.size) (cwV 1 hts gX12_happen_X12_goOrCome rfl rfl rfl (by decide +kernel) ⟨Nat.le_of_ble_eq_true rfl, Nat.le_of_ble_eq_true rfl⟩) (kpV_M (q0 := 0) (ci := 10) hG hS hP hD hA [0, 4] rfl (by decide) rfl rfl) rfl rfl hl.1 rfl (lv_room (Nat.le_of_ble_eq_true rfl)) dX12_happen_54 ⟨Nat.le_of_ble_eq_true rfl, Nat.le_of_ble_eq_true rfl⟩) hP hD hS hA [0, 4] [1, 2, 3] [3, 0, 1, 2, 4] rfl rfl (by decide) (by decide) rfl (by decide) (fun H locs hP hD hS => ?_)
        refine lv_goto (tgt := 64) hx hb dX12_happen_57 (by decide) ?_
        rw [← hQ, ← Option.some.inj hf]
        exact eM_v hx hb hr hlk hP hD hS dX12_happen_64
      · replace hf := iff_ c7 hf
        have ec1 := lv_neT c1 (a := 0) (by decide)
        have ec4 := lv_neT c4 (a := 2) (by decide)
        have ec7 := lv_neT c7 (a := 3) (by decide)
        have w_d : W p l e ({ frames := 4, cells := 0, slots := 0, locals := 87 } : Room) s m ar below meth c H locs 0 0 QQ (F0 m 60 ls []) := by
          refine lv_aload_n hx hb dX12_happen_60 rfl (lv_at hl 0 rfl) ?_
          obtain ⟨z10, hq11, hf⟩ := bnd_some hf
          refine kM_v (wc := [((q 0), .inr (10, oX12 q v_holder v_games v_sights v_padMany v_acts v_nothings (-6 : Int32) v_badAct v_badWhy v_wholeAct v_wholeWho v_keptAt v_isWriting)), ((q 4), .inl (gI g, 6, .inl v_isIn))]) (wr := [((q 1), .inl (gI g, 6, .inl v_most)), ((q 2), .inl (gI g, 6, .inl v_beetle)), ((q 3), .inl (gI g, 6, .inl v_points))]) (w1 := [((q 0), .inr (10, oX12 q z10 v_games v_sights v_padMany v_acts v_nothings (-6 : Int32) v_badAct v_badWhy v_wholeAct v_wholeWho v_keptAt v_isWriting)), ((q 4), .inl (gI g, 6, .inl v_isIn))]) (w2 := [((q 0), .inr (10, oX12 q z10 v_games v_sights v_padMany v_acts v_nothings (-6 : Int32) v_badAct v_badWhy v_wholeAct v_wholeWho v_keptAt v_isWriting)), ((q 1), .inl (gI g, 6, .inl v_most)), ((q 2), .inl (gI g, 6, .inl v_beetle)), ((q 3), .inl (gI g, 6, .inl v_points)), ((q 4), .inl (gI g, 6, .inl v_isIn))]) (va_runV (As := []) (rest := []) ⟨hx, hb, hml, hown, hts⟩ (c_X12_goesOn l g q v_holder v_games v_sights v_padMany v_acts v_nothings (-6 : Int32) v_badAct v_badWhy v_wholeAct v_wholeWho v_keptAt v_isWriting v_isIn z10 hq11 H.size) (cwV 0 hts gX12_happen_X12_goesOn rfl rfl rfl (by decide +kernel) ⟨Nat.le_of_ble_eq_true rfl, Nat.le_of_ble_eq_true rfl⟩) (kpV_M (q0 := 0) (ci := 10) hG hS hP hD hA [0, 4] rfl (by decide) rfl rfl) rfl rfl hl.1 rfl (lv_room (Nat.le_of_ble_eq_true rfl)) dX12_happen_61 ⟨Nat.le_of_ble_eq_true rfl, Nat.le_of_ble_eq_true rfl⟩) hP hD hS hA [0, 4] [1, 2, 3] [3, 0, 1, 2, 4] rfl rfl (by decide) (by decide) rfl (by decide) (fun H locs hP hD hS => ?_)
          rw [← hQ, ← Option.some.inj hf]
          exact eM_v hx hb hr hlk hP hD hS dX12_happen_64
        by_cases c12 : x1 = 1
        · exact lv_tableIn (off := 53) (tgt := 60) hx hb dX12_happen_7 (by rw [c12]; decide) (by rw [c12]; decide) (by rw [c12]; rfl) (by decide) w_d
        · have ec12 := lv_neT c12 (a := 1) (by decide)
          exact lv_tableOut (tgt := 60) hx hb dX12_happen_7 (by omega) (by decide) w_d
set_option maxHeartbeats 4000000 in
set_option maxRecDepth 100000 in
theorem c_X12_keepNow (l : Launch) (g : bG) (q : Nat → Nat) (v_holder : Int32) (v_games : Int32) (v_sights : Int32) (v_padMany : Int32) (v_acts : Int32) (v_nothings : Int32) (v_wholeNow : Int32) (v_badAct : Int32) (v_badWhy : Int32) (v_wholeAct : Int32) (v_wholeWho : Int32) (v_keptAt : Int32) (v_isWriting : Int32) (v_beetle : Nat → Int32) (v_points : Nat → Int32) (v_isIn : Nat → Int32) (v_had : Nat → Int32) (out : (Nat → Int32)) (hf : f_X12_keepNow v_beetle v_points v_isIn v_holder v_games v_had = some out) : Mv l g yX12_keepNow wsX12_keepNow ({ frames := 0, cells := 0, slots := 0, locals := 0 } : Room) [.ref (q 0)] [((q 0), .inr (10, oX12 q v_holder v_games v_sights v_padMany v_acts v_nothings v_wholeNow v_badAct v_badWhy v_wholeAct v_wholeWho v_keptAt v_isWriting)), ((q 2), .inl (gI g, 6, .inl v_beetle)), ((q 3), .inl (gI g, 6, .inl v_points)), ((q 4), .inl (gI g, 6, .inl v_isIn)), ((q 10), .inl (gI g, 20, .inl v_had))] [((q 0), .inr (10, oX12 q v_holder v_games v_sights v_padMany v_acts v_nothings v_wholeNow v_badAct v_badWhy v_wholeAct v_wholeWho v_keptAt v_isWriting)), ((q 2), .inl (gI g, 6, .inl v_beetle)), ((q 3), .inl (gI g, 6, .inl v_points)), ((q 4), .inl (gI g, 6, .inl v_isIn)), ((q 10), .inl (gI g, 20, .inl out))] := by
  refine ofM (Qc := fun A => Qv g [((q 0), .inr (10, oX12 q v_holder v_games v_sights v_padMany v_acts v_nothings v_wholeNow v_badAct v_badWhy v_wholeAct v_wholeWho v_keptAt v_isWriting)), ((q 2), .inl (gI g, 6, .inl v_beetle)), ((q 3), .inl (gI g, 6, .inl v_points)), ((q 4), .inl (gI g, 6, .inl v_isIn)), ((q 10), .inl (gI g, 20, .inl out))] A) (cc := cX12_keepNow) (nL := 2) (ret := none) (by decide) rfl (Nat.le_of_ble_eq_true rfl) ?_
  intro p e s m below meth c ar A hC hA hP hD hG ls hl
  have hS : va_S A s.heap s.heap [] := va_S.rf
  obtain ⟨hx, hb, hml, hown, hts, hr, hlk, -⟩ := hC
  have hl : lv_has ls 2 [(0, .ref (q 0))] := hl
  have hK := hG.1
  have iX12 : ∀ w ∈ u_ws RX12 TX12 30, w ∈ wsX12_keepNow := fun w h => List.mem_cons_of_mem _ (List.mem_append_right _ (h))
  generalize hQ : MQ below (Qv g [((q 0), .inr (10, oX12 q v_holder v_games v_sights v_padMany v_acts v_nothings v_wholeNow v_badAct v_badWhy v_wholeAct v_wholeWho v_keptAt v_isWriting)), ((q 2), .inl (gI g, 6, .inl v_beetle)), ((q 3), .inl (gI g, 6, .inl v_points)), ((q 4), .inl (gI g, 6, .inl v_isIn)), ((q 10), .inl (gI g, 20, .inl out))] A) ar s 0 0 A = QQ
  have w_2 : ∀ n : Nat, ∀ (x1 : Int32) (v_had : Nat → Int32), f_X12_keepNow_b2 v_beetle v_points v_isIn v_holder v_games n x1 v_had = some out → ∀ (H : Heap) (locs : List Loc), va_P (gD g) vwCl [((q 0), .inr (10, oX12 q v_holder v_games v_sights v_padMany v_acts v_nothings v_wholeNow v_badAct v_badWhy v_wholeAct v_wholeWho v_keptAt v_isWriting)), ((q 2), .inl (gI g, 6, .inl v_beetle)), ((q 3), .inl (gI g, 6, .inl v_points)), ((q 4), .inl (gI g, 6, .inl v_isIn)), ((q 10), .inl (gI g, 20, .inl v_had))] H → va_D A [((q 0), .inr (10, oX12 q v_holder v_games v_sights v_padMany v_acts v_nothings v_wholeNow v_badAct v_badWhy v_wholeAct v_wholeWho v_keptAt v_isWriting)), ((q 2), .inl (gI g, 6, .inl v_beetle)), ((q 3), .inl (gI g, 6, .inl v_points)), ((q 4), .inl (gI g, 6, .inl v_isIn)), ((q 10), .inl (gI g, 20, .inl v_had))] → va_S A s.heap H locs → ∀ ls : Array Slot, lv_has ls 2 [(0, .ref (q 0)), (1, .int x1)] → W p l e ({ frames := 0, cells := 0, slots := 0, locals := 0 } : Room) s m ar below meth c H locs 0 0 QQ (F0 m 2 ls []) := by
    intro n
    induction n with
    | zero =>
      intro x1 v_had hf
      rw [f_X12_keepNow_b2_z] at hf
      cases hf
    | succ n ih =>
      intro x1 v_had hf H locs hP hD hS ls hl
      rw [f_X12_keepNow_b2_s] at hf
      refine lv_iload_n hx hb dX12_keepNow_2 rfl (lv_at hl 1 rfl) ?_
      refine lv_bipush (v := 6) hx hb dX12_keepNow_3 (by decide) ?_
      refine lv_icmp_ge (tgt := 56) hx hb dX12_keepNow_5 (by decide) (fun c1 => ?_) (fun c1 => ?_)
      · replace hf := ift c1 hf
        refine lv_aload_n hx hb dX12_keepNow_56 rfl (lv_at hl 0 rfl) ?_
        refine va_get (D := gD g) (ci := 10) (v := .ref (q 10)) (C := RX12) (T := TX12) (N := 30) hx hb hts iX12 hown hK hP 0 rfl rfl 16 (by decide) (hts (.fieldLink RX12 37 "BeetleDriveModel" "had" "[I") (List.mem_of_getElem? (i := 1) rfl)) (fun _ h9 => h9) rfl dX12_keepNow_57 ?_
        refine lv_bipush (v := 18) hx hb dX12_keepNow_60 (by decide) ?_
        refine lv_aload_n hx hb dX12_keepNow_62 rfl (lv_at hl 0 rfl) ?_
        refine va_get (D := gD g) (ci := 10) (v := .int v_holder) (C := RX12) (T := TX12) (N := 30) hx hb hts iX12 hown hK hP 0 rfl rfl 4 (by decide) (hts (.fieldLink RX12 91 "BeetleDriveModel" "holder" "I") (List.mem_of_getElem? (i := 5) rfl)) (fun _ h9 => h9) rfl dX12_keepNow_63 ?_
        obtain ⟨hi2, hf⟩ := chk_some hf
        refine va_iast hx hb hK hP hD hS 4 0 rfl rfl hi2 dX12_keepNow_66 (fun H locs hP hD hS => ?_)
        have hP : va_P (gD g) vwCl [((q 0), .inr (10, oX12 q v_holder v_games v_sights v_padMany v_acts v_nothings v_wholeNow v_badAct v_badWhy v_wholeAct v_wholeWho v_keptAt v_isWriting)), ((q 2), .inl (gI g, 6, .inl v_beetle)), ((q 3), .inl (gI g, 6, .inl v_points)), ((q 4), .inl (gI g, 6, .inl v_isIn)), ((q 10), .inl (gI g, 20, .inl (upd v_had (Int32.toNatClampNeg (18 : Int32)) v_holder)))] H := hP
        have hD : va_D A [((q 0), .inr (10, oX12 q v_holder v_games v_sights v_padMany v_acts v_nothings v_wholeNow v_badAct v_badWhy v_wholeAct v_wholeWho v_keptAt v_isWriting)), ((q 2), .inl (gI g, 6, .inl v_beetle)), ((q 3), .inl (gI g, 6, .inl v_points)), ((q 4), .inl (gI g, 6, .inl v_isIn)), ((q 10), .inl (gI g, 20, .inl (upd v_had (Int32.toNatClampNeg (18 : Int32)) v_holder)))] := hD
        refine lv_aload_n hx hb dX12_keepNow_67 rfl (lv_at hl 0 rfl) ?_
        refine va_get (D := gD g) (ci := 10) (v := .ref (q 10)) (C := RX12) (T := TX12) (N := 30) hx hb hts iX12 hown hK hP 0 rfl rfl 16 (by decide) (hts (.fieldLink RX12 37 "BeetleDriveModel" "had" "[I") (List.mem_of_getElem? (i := 1) rfl)) (fun _ h9 => h9) rfl dX12_keepNow_68 ?_
        refine lv_bipush (v := 19) hx hb dX12_keepNow_71 (by decide) ?_
        refine lv_aload_n hx hb dX12_keepNow_73 rfl (lv_at hl 0 rfl) ?_
        refine va_get (D := gD g) (ci := 10) (v := .int v_games) (C := RX12) (T := TX12) (N := 30) hx hb hts iX12 hown hK hP 0 rfl rfl 5 (by decide) (hts (.fieldLink RX12 123 "BeetleDriveModel" "games" "I") (List.mem_of_getElem? (i := 6) rfl)) (fun _ h9 => h9) rfl dX12_keepNow_74 ?_
        obtain ⟨hi3, hf⟩ := chk_some hf
        refine va_iast hx hb hK hP hD hS 4 0 rfl rfl hi3 dX12_keepNow_77 (fun H locs hP hD hS => ?_)
        have hP : va_P (gD g) vwCl [((q 0), .inr (10, oX12 q v_holder v_games v_sights v_padMany v_acts v_nothings v_wholeNow v_badAct v_badWhy v_wholeAct v_wholeWho v_keptAt v_isWriting)), ((q 2), .inl (gI g, 6, .inl v_beetle)), ((q 3), .inl (gI g, 6, .inl v_points)), ((q 4), .inl (gI g, 6, .inl v_isIn)), ((q 10), .inl (gI g, 20, .inl (upd (upd v_had (Int32.toNatClampNeg (18 : Int32)) v_holder) (Int32.toNatClampNeg (19 : Int32)) v_games)))] H := hP
        have hD : va_D A [((q 0), .inr (10, oX12 q v_holder v_games v_sights v_padMany v_acts v_nothings v_wholeNow v_badAct v_badWhy v_wholeAct v_wholeWho v_keptAt v_isWriting)), ((q 2), .inl (gI g, 6, .inl v_beetle)), ((q 3), .inl (gI g, 6, .inl v_points)), ((q 4), .inl (gI g, 6, .inl v_isIn)), ((q 10), .inl (gI g, 20, .inl (upd (upd v_had (Int32.toNatClampNeg (18 : Int32)) v_holder) (Int32.toNatClampNeg (19 : Int32)) v_games)))] := hD
        rw [← hQ, ← Option.some.inj hf]
        exact eM_v hx hb hr hlk hP hD hS dX12_keepNow_78
      · replace hf := iff_ c1 hf
        refine lv_aload_n hx hb dX12_keepNow_8 rfl (lv_at hl 0 rfl) ?_
        refine va_get (D := gD g) (ci := 10) (v := .ref (q 10)) (C := RX12) (T := TX12) (N := 30) hx hb hts iX12 hown hK hP 0 rfl rfl 16 (by decide) (hts (.fieldLink RX12 37 "BeetleDriveModel" "had" "[I") (List.mem_of_getElem? (i := 1) rfl)) (fun _ h9 => h9) rfl dX12_keepNow_9 ?_
        refine lv_iload_n hx hb dX12_keepNow_12 rfl (lv_at hl 1 rfl) ?_
        refine lv_aload_n hx hb dX12_keepNow_13 rfl (lv_at hl 0 rfl) ?_
        refine va_get (D := gD g) (ci := 10) (v := .ref (q 2)) (C := RX12) (T := TX12) (N := 30) hx hb hts iX12 hown hK hP 0 rfl rfl 1 (by decide) (hts (.fieldLink RX12 13 "BeetleDriveModel" "beetle" "[I") (List.mem_of_getElem? (i := 2) rfl)) (fun _ h9 => h9) rfl dX12_keepNow_14 ?_
        refine lv_iload_n hx hb dX12_keepNow_17 rfl (lv_at hl 1 rfl) ?_
        obtain ⟨hi4, hf⟩ := chk_some hf
        refine va_iald hx hb hK hP 1 0 rfl rfl hi4 dX12_keepNow_18 ?_
        obtain ⟨hi5, hf⟩ := chk_some hf
        refine va_iast hx hb hK hP hD hS 4 0 rfl rfl hi5 dX12_keepNow_19 (fun H locs hP hD hS => ?_)
        have hP : va_P (gD g) vwCl [((q 0), .inr (10, oX12 q v_holder v_games v_sights v_padMany v_acts v_nothings v_wholeNow v_badAct v_badWhy v_wholeAct v_wholeWho v_keptAt v_isWriting)), ((q 2), .inl (gI g, 6, .inl v_beetle)), ((q 3), .inl (gI g, 6, .inl v_points)), ((q 4), .inl (gI g, 6, .inl v_isIn)), ((q 10), .inl (gI g, 20, .inl (upd v_had (Int32.toNatClampNeg x1) (v_beetle (Int32.toNatClampNeg x1)))))] H := hP
        have hD : va_D A [((q 0), .inr (10, oX12 q v_holder v_games v_sights v_padMany v_acts v_nothings v_wholeNow v_badAct v_badWhy v_wholeAct v_wholeWho v_keptAt v_isWriting)), ((q 2), .inl (gI g, 6, .inl v_beetle)), ((q 3), .inl (gI g, 6, .inl v_points)), ((q 4), .inl (gI g, 6, .inl v_isIn)), ((q 10), .inl (gI g, 20, .inl (upd v_had (Int32.toNatClampNeg x1) (v_beetle (Int32.toNatClampNeg x1)))))] := hD
        refine lv_aload_n hx hb dX12_keepNow_20 rfl (lv_at hl 0 rfl) ?_
        refine va_get (D := gD g) (ci := 10) (v := .ref (q 10)) (C := RX12) (T := TX12) (N := 30) hx hb hts iX12 hown hK hP 0 rfl rfl 16 (by decide) (hts (.fieldLink RX12 37 "BeetleDriveModel" "had" "[I") (List.mem_of_getElem? (i := 1) rfl)) (fun _ h9 => h9) rfl dX12_keepNow_21 ?_
        refine lv_bipush (v := 6) hx hb dX12_keepNow_24 (by decide) ?_
        refine lv_iload_n hx hb dX12_keepNow_26 rfl (lv_at hl 1 rfl) ?_
        refine lv_iadd hx hb dX12_keepNow_27 ?_
        refine lv_aload_n hx hb dX12_keepNow_28 rfl (lv_at hl 0 rfl) ?_
        refine va_get (D := gD g) (ci := 10) (v := .ref (q 3)) (C := RX12) (T := TX12) (N := 30) hx hb hts iX12 hown hK hP 0 rfl rfl 2 (by decide) (hts (.fieldLink RX12 16 "BeetleDriveModel" "points" "[I") (List.mem_of_getElem? (i := 3) rfl)) (fun _ h9 => h9) rfl dX12_keepNow_29 ?_
        refine lv_iload_n hx hb dX12_keepNow_32 rfl (lv_at hl 1 rfl) ?_
        obtain ⟨hi6, hf⟩ := chk_some hf
        refine va_iald hx hb hK hP 2 0 rfl rfl hi6 dX12_keepNow_33 ?_
        obtain ⟨hi7, hf⟩ := chk_some hf
        refine va_iast hx hb hK hP hD hS 4 0 rfl rfl hi7 dX12_keepNow_34 (fun H locs hP hD hS => ?_)
        have hP : va_P (gD g) vwCl [((q 0), .inr (10, oX12 q v_holder v_games v_sights v_padMany v_acts v_nothings v_wholeNow v_badAct v_badWhy v_wholeAct v_wholeWho v_keptAt v_isWriting)), ((q 2), .inl (gI g, 6, .inl v_beetle)), ((q 3), .inl (gI g, 6, .inl v_points)), ((q 4), .inl (gI g, 6, .inl v_isIn)), ((q 10), .inl (gI g, 20, .inl (upd (upd v_had (Int32.toNatClampNeg x1) (v_beetle (Int32.toNatClampNeg x1))) (Int32.toNatClampNeg ((6 : Int32) + x1)) (v_points (Int32.toNatClampNeg x1)))))] H := hP
        have hD : va_D A [((q 0), .inr (10, oX12 q v_holder v_games v_sights v_padMany v_acts v_nothings v_wholeNow v_badAct v_badWhy v_wholeAct v_wholeWho v_keptAt v_isWriting)), ((q 2), .inl (gI g, 6, .inl v_beetle)), ((q 3), .inl (gI g, 6, .inl v_points)), ((q 4), .inl (gI g, 6, .inl v_isIn)), ((q 10), .inl (gI g, 20, .inl (upd (upd v_had (Int32.toNatClampNeg x1) (v_beetle (Int32.toNatClampNeg x1))) (Int32.toNatClampNeg ((6 : Int32) + x1)) (v_points (Int32.toNatClampNeg x1)))))] := hD
        refine lv_aload_n hx hb dX12_keepNow_35 rfl (lv_at hl 0 rfl) ?_
        refine va_get (D := gD g) (ci := 10) (v := .ref (q 10)) (C := RX12) (T := TX12) (N := 30) hx hb hts iX12 hown hK hP 0 rfl rfl 16 (by decide) (hts (.fieldLink RX12 37 "BeetleDriveModel" "had" "[I") (List.mem_of_getElem? (i := 1) rfl)) (fun _ h9 => h9) rfl dX12_keepNow_36 ?_
        refine lv_bipush (v := 12) hx hb dX12_keepNow_39 (by decide) ?_
        refine lv_iload_n hx hb dX12_keepNow_41 rfl (lv_at hl 1 rfl) ?_
        refine lv_iadd hx hb dX12_keepNow_42 ?_
        refine lv_aload_n hx hb dX12_keepNow_43 rfl (lv_at hl 0 rfl) ?_
        refine va_get (D := gD g) (ci := 10) (v := .ref (q 4)) (C := RX12) (T := TX12) (N := 30) hx hb hts iX12 hown hK hP 0 rfl rfl 3 (by decide) (hts (.fieldLink RX12 19 "BeetleDriveModel" "isIn" "[I") (List.mem_of_getElem? (i := 4) rfl)) (fun _ h9 => h9) rfl dX12_keepNow_44 ?_
        refine lv_iload_n hx hb dX12_keepNow_47 rfl (lv_at hl 1 rfl) ?_
        obtain ⟨hi8, hf⟩ := chk_some hf
        refine va_iald hx hb hK hP 3 0 rfl rfl hi8 dX12_keepNow_48 ?_
        obtain ⟨hi9, hf⟩ := chk_some hf
        refine va_iast hx hb hK hP hD hS 4 0 rfl rfl hi9 dX12_keepNow_49 (fun H locs hP hD hS => ?_)
        have hP : va_P (gD g) vwCl [((q 0), .inr (10, oX12 q v_holder v_games v_sights v_padMany v_acts v_nothings v_wholeNow v_badAct v_badWhy v_wholeAct v_wholeWho v_keptAt v_isWriting)), ((q 2), .inl (gI g, 6, .inl v_beetle)), ((q 3), .inl (gI g, 6, .inl v_points)), ((q 4), .inl (gI g, 6, .inl v_isIn)), ((q 10), .inl (gI g, 20, .inl (upd (upd (upd v_had (Int32.toNatClampNeg x1) (v_beetle (Int32.toNatClampNeg x1))) (Int32.toNatClampNeg ((6 : Int32) + x1)) (v_points (Int32.toNatClampNeg x1))) (Int32.toNatClampNeg ((12 : Int32) + x1)) (v_isIn (Int32.toNatClampNeg x1)))))] H := hP
        have hD : va_D A [((q 0), .inr (10, oX12 q v_holder v_games v_sights v_padMany v_acts v_nothings v_wholeNow v_badAct v_badWhy v_wholeAct v_wholeWho v_keptAt v_isWriting)), ((q 2), .inl (gI g, 6, .inl v_beetle)), ((q 3), .inl (gI g, 6, .inl v_points)), ((q 4), .inl (gI g, 6, .inl v_isIn)), ((q 10), .inl (gI g, 20, .inl (upd (upd (upd v_had (Int32.toNatClampNeg x1) (v_beetle (Int32.toNatClampNeg x1))) (Int32.toNatClampNeg ((6 : Int32) + x1)) (v_points (Int32.toNatClampNeg x1))) (Int32.toNatClampNeg ((12 : Int32) + x1)) (v_isIn (Int32.toNatClampNeg x1)))))] := hD
        refine lv_iinc (v := (x1 + 1)) (lv' := [(1, .int (x1 + 1)), (0, .ref (q 0))]) hx hb dX12_keepNow_50 hl (k := 1) rfl rfl (by decide) rfl (fun ls hl => ?_)
        refine lv_goto (tgt := 2) hx hb dX12_keepNow_53 (by decide) ?_
        exact ih (x1 + 1) (upd (upd (upd v_had (Int32.toNatClampNeg x1) (v_beetle (Int32.toNatClampNeg x1))) (Int32.toNatClampNeg ((6 : Int32) + x1)) (v_points (Int32.toNatClampNeg x1))) (Int32.toNatClampNeg ((12 : Int32) + x1)) (v_isIn (Int32.toNatClampNeg x1))) hf H locs hP hD hS ls (lv_sub hl [1, 0] rfl)
  unfold f_X12_keepNow at hf
  refine lv_iconst (v := 0) hx hb dX12_keepNow_0 (by decide) ?_
  refine lv_istore_n (lv' := [(1, .int (0 : Int32)), (0, .ref (q 0))]) hx hb dX12_keepNow_1 rfl hl (by decide) rfl (fun ls hl => ?_)
  exact w_2 FU (0 : Int32) v_had hf s.heap [] hP hD hS ls (lv_sub hl [1, 0] rfl)
set_option maxHeartbeats 4000000 in
set_option maxRecDepth 100000 in
theorem c_X12_back (l : Launch) (g : bG) (q : Nat → Nat) (v_holder : Int32) (v_games : Int32) (v_sights : Int32) (v_padMany : Int32) (v_acts : Int32) (v_nothings : Int32) (v_wholeNow : Int32) (v_badAct : Int32) (v_badWhy : Int32) (v_wholeAct : Int32) (v_wholeWho : Int32) (v_keptAt : Int32) (v_isWriting : Int32) (v_beetle : Nat → Int32) (v_points : Nat → Int32) (v_isIn : Nat → Int32) (v_had : Nat → Int32) (x1 : Int32) (out : Int32 × (Nat → Int32) × (Nat → Int32) × (Nat → Int32) × Int32 × Int32) (hf : f_X12_back v_beetle v_points v_isIn v_holder v_games v_had x1 = some out) : Mi l g yX12_back wsX12_back ({ frames := 0, cells := 0, slots := 0, locals := 0 } : Room) [.ref (q 0), .int x1] [((q 0), .inr (10, oX12 q v_holder v_games v_sights v_padMany v_acts v_nothings v_wholeNow v_badAct v_badWhy v_wholeAct v_wholeWho v_keptAt v_isWriting)), ((q 2), .inl (gI g, 6, .inl v_beetle)), ((q 3), .inl (gI g, 6, .inl v_points)), ((q 4), .inl (gI g, 6, .inl v_isIn)), ((q 10), .inl (gI g, 20, .inl v_had))] out.1 [((q 0), .inr (10, oX12 q out.2.2.2.2.1 out.2.2.2.2.2 v_sights v_padMany v_acts v_nothings v_wholeNow v_badAct v_badWhy v_wholeAct v_wholeWho v_keptAt v_isWriting)), ((q 2), .inl (gI g, 6, .inl out.2.1)), ((q 3), .inl (gI g, 6, .inl out.2.2.1)), ((q 4), .inl (gI g, 6, .inl out.2.2.2.1)), ((q 10), .inl (gI g, 20, .inl v_had))] := by
  refine ofM (Qc := fun A => Qi g out.1 [((q 0), .inr (10, oX12 q out.2.2.2.2.1 out.2.2.2.2.2 v_sights v_padMany v_acts v_nothings v_wholeNow v_badAct v_badWhy v_wholeAct v_wholeWho v_keptAt v_isWriting)), ((q 2), .inl (gI g, 6, .inl out.2.1)), ((q 3), .inl (gI g, 6, .inl out.2.2.1)), ((q 4), .inl (gI g, 6, .inl out.2.2.2.1)), ((q 10), .inl (gI g, 20, .inl v_had))] A) (cc := cX12_back) (nL := 3) (ret := some .int) (by decide) rfl (Nat.le_of_ble_eq_true rfl) ?_
  intro p e s m below meth c ar A hC hA hP hD hG ls hl
  have hS : va_S A s.heap s.heap [] := va_S.rf
  obtain ⟨hx, hb, hml, hown, hts, hr, hlk, -⟩ := hC
  have hl : lv_has ls 3 [(0, .ref (q 0)), (1, .int x1)] := hl
  have hK := hG.1
  have iX12 : ∀ w ∈ u_ws RX12 TX12 30, w ∈ wsX12_back := fun w h => List.mem_cons_of_mem _ (List.mem_append_right _ (h))
  generalize hQ : MQ below (Qi g out.1 [((q 0), .inr (10, oX12 q out.2.2.2.2.1 out.2.2.2.2.2 v_sights v_padMany v_acts v_nothings v_wholeNow v_badAct v_badWhy v_wholeAct v_wholeWho v_keptAt v_isWriting)), ((q 2), .inl (gI g, 6, .inl out.2.1)), ((q 3), .inl (gI g, 6, .inl out.2.2.1)), ((q 4), .inl (gI g, 6, .inl out.2.2.2.1)), ((q 10), .inl (gI g, 20, .inl v_had))] A) ar s 0 0 A = QQ
  have w_2 : ∀ n : Nat, ∀ (x1 : Int32) (x2 : Int32) (v_beetle : Nat → Int32) (v_points : Nat → Int32) (v_isIn : Nat → Int32) (v_holder : Int32) (v_games : Int32), f_X12_back_b2 v_had n x1 x2 v_beetle v_points v_isIn v_holder v_games = some out → ∀ (H : Heap) (locs : List Loc), va_P (gD g) vwCl [((q 0), .inr (10, oX12 q v_holder v_games v_sights v_padMany v_acts v_nothings v_wholeNow v_badAct v_badWhy v_wholeAct v_wholeWho v_keptAt v_isWriting)), ((q 2), .inl (gI g, 6, .inl v_beetle)), ((q 3), .inl (gI g, 6, .inl v_points)), ((q 4), .inl (gI g, 6, .inl v_isIn)), ((q 10), .inl (gI g, 20, .inl v_had))] H → va_D A [((q 0), .inr (10, oX12 q v_holder v_games v_sights v_padMany v_acts v_nothings v_wholeNow v_badAct v_badWhy v_wholeAct v_wholeWho v_keptAt v_isWriting)), ((q 2), .inl (gI g, 6, .inl v_beetle)), ((q 3), .inl (gI g, 6, .inl v_points)), ((q 4), .inl (gI g, 6, .inl v_isIn)), ((q 10), .inl (gI g, 20, .inl v_had))] → va_S A s.heap H locs → ∀ ls : Array Slot, lv_has ls 3 [(0, .ref (q 0)), (1, .int x1), (2, .int x2)] → W p l e ({ frames := 0, cells := 0, slots := 0, locals := 0 } : Room) s m ar below meth c H locs 0 0 QQ (F0 m 2 ls []) := by
    intro n
    induction n with
    | zero =>
      intro x1 x2 v_beetle v_points v_isIn v_holder v_games hf
      rw [f_X12_back_b2_z] at hf
      cases hf
    | succ n ih =>
      intro x1 x2 v_beetle v_points v_isIn v_holder v_games hf H locs hP hD hS ls hl
      rw [f_X12_back_b2_s] at hf
      refine lv_iload_n hx hb dX12_back_2 rfl (lv_at hl 2 rfl) ?_
      refine lv_bipush (v := 6) hx hb dX12_back_3 (by decide) ?_
      refine lv_icmp_ge (tgt := 56) hx hb dX12_back_5 (by decide) (fun c1 => ?_) (fun c1 => ?_)
      · replace hf := ift c1 hf
        refine lv_aload_n hx hb dX12_back_56 rfl (lv_at hl 0 rfl) ?_
        refine lv_aload_n hx hb dX12_back_57 rfl (lv_at hl 0 rfl) ?_
        refine va_get (D := gD g) (ci := 10) (v := .ref (q 10)) (C := RX12) (T := TX12) (N := 30) hx hb hts iX12 hown hK hP 0 rfl rfl 16 (by decide) (hts (.fieldLink RX12 37 "BeetleDriveModel" "had" "[I") (List.mem_of_getElem? (i := 2) rfl)) (fun _ h9 => h9) rfl dX12_back_58 ?_
        refine lv_bipush (v := 18) hx hb dX12_back_61 (by decide) ?_
        obtain ⟨hi2, hf⟩ := chk_some hf
        refine va_iald hx hb hK hP 4 0 rfl rfl hi2 dX12_back_63 ?_
        refine va_put (D := gD g) (ci := 10) (v := .int (v_had (Int32.toNatClampNeg (18 : Int32)))) (ty := .int) (C := RX12) (T := TX12) (N := 30) hx hb hts iX12 tyX12 tyX12_ok nmX12 hown hK hP hD hS 0 rfl rfl 4 (by decide) (hts (.fieldLink RX12 91 "BeetleDriveModel" "holder" "I") (List.mem_of_getElem? (i := 5) rfl)) (fun _ h9 => h9) rfl (tyX12_ok 4 (by decide)) rfl rfl (Nat.le_of_ble_eq_true rfl) dX12_back_64 (fun H locs hP hD hS => ?_)
        have hP : va_P (gD g) vwCl [((q 0), .inr (10, oX12 q (v_had (Int32.toNatClampNeg (18 : Int32))) v_games v_sights v_padMany v_acts v_nothings v_wholeNow v_badAct v_badWhy v_wholeAct v_wholeWho v_keptAt v_isWriting)), ((q 2), .inl (gI g, 6, .inl v_beetle)), ((q 3), .inl (gI g, 6, .inl v_points)), ((q 4), .inl (gI g, 6, .inl v_isIn)), ((q 10), .inl (gI g, 20, .inl v_had))] H := hP
        have hD : va_D A [((q 0), .inr (10, oX12 q (v_had (Int32.toNatClampNeg (18 : Int32))) v_games v_sights v_padMany v_acts v_nothings v_wholeNow v_badAct v_badWhy v_wholeAct v_wholeWho v_keptAt v_isWriting)), ((q 2), .inl (gI g, 6, .inl v_beetle)), ((q 3), .inl (gI g, 6, .inl v_points)), ((q 4), .inl (gI g, 6, .inl v_isIn)), ((q 10), .inl (gI g, 20, .inl v_had))] := hD
        refine lv_aload_n hx hb dX12_back_67 rfl (lv_at hl 0 rfl) ?_
        refine lv_aload_n hx hb dX12_back_68 rfl (lv_at hl 0 rfl) ?_
        refine va_get (D := gD g) (ci := 10) (v := .ref (q 10)) (C := RX12) (T := TX12) (N := 30) hx hb hts iX12 hown hK hP 0 rfl rfl 16 (by decide) (hts (.fieldLink RX12 37 "BeetleDriveModel" "had" "[I") (List.mem_of_getElem? (i := 2) rfl)) (fun _ h9 => h9) rfl dX12_back_69 ?_
        refine lv_bipush (v := 19) hx hb dX12_back_72 (by decide) ?_
        obtain ⟨hi3, hf⟩ := chk_some hf
        refine va_iald hx hb hK hP 4 0 rfl rfl hi3 dX12_back_74 ?_
        refine va_put (D := gD g) (ci := 10) (v := .int (v_had (Int32.toNatClampNeg (19 : Int32)))) (ty := .int) (C := RX12) (T := TX12) (N := 30) hx hb hts iX12 tyX12 tyX12_ok nmX12 hown hK hP hD hS 0 rfl rfl 5 (by decide) (hts (.fieldLink RX12 123 "BeetleDriveModel" "games" "I") (List.mem_of_getElem? (i := 6) rfl)) (fun _ h9 => h9) rfl (tyX12_ok 5 (by decide)) rfl rfl (Nat.le_of_ble_eq_true rfl) dX12_back_75 (fun H locs hP hD hS => ?_)
        have hP : va_P (gD g) vwCl [((q 0), .inr (10, oX12 q (v_had (Int32.toNatClampNeg (18 : Int32))) (v_had (Int32.toNatClampNeg (19 : Int32))) v_sights v_padMany v_acts v_nothings v_wholeNow v_badAct v_badWhy v_wholeAct v_wholeWho v_keptAt v_isWriting)), ((q 2), .inl (gI g, 6, .inl v_beetle)), ((q 3), .inl (gI g, 6, .inl v_points)), ((q 4), .inl (gI g, 6, .inl v_isIn)), ((q 10), .inl (gI g, 20, .inl v_had))] H := hP
        have hD : va_D A [((q 0), .inr (10, oX12 q (v_had (Int32.toNatClampNeg (18 : Int32))) (v_had (Int32.toNatClampNeg (19 : Int32))) v_sights v_padMany v_acts v_nothings v_wholeNow v_badAct v_badWhy v_wholeAct v_wholeWho v_keptAt v_isWriting)), ((q 2), .inl (gI g, 6, .inl v_beetle)), ((q 3), .inl (gI g, 6, .inl v_points)), ((q 4), .inl (gI g, 6, .inl v_isIn)), ((q 10), .inl (gI g, 20, .inl v_had))] := hD
        refine lv_iload_n hx hb dX12_back_78 rfl (lv_at hl 1 rfl) ?_
        rw [← hQ, ← Option.some.inj hf]
        exact eM_i hx hb hr hlk hP hD hS rfl dX12_back_79
      · replace hf := iff_ c1 hf
        refine lv_aload_n hx hb dX12_back_8 rfl (lv_at hl 0 rfl) ?_
        refine va_get (D := gD g) (ci := 10) (v := .ref (q 2)) (C := RX12) (T := TX12) (N := 30) hx hb hts iX12 hown hK hP 0 rfl rfl 1 (by decide) (hts (.fieldLink RX12 13 "BeetleDriveModel" "beetle" "[I") (List.mem_of_getElem? (i := 1) rfl)) (fun _ h9 => h9) rfl dX12_back_9 ?_
        refine lv_iload_n hx hb dX12_back_12 rfl (lv_at hl 2 rfl) ?_
        refine lv_aload_n hx hb dX12_back_13 rfl (lv_at hl 0 rfl) ?_
        refine va_get (D := gD g) (ci := 10) (v := .ref (q 10)) (C := RX12) (T := TX12) (N := 30) hx hb hts iX12 hown hK hP 0 rfl rfl 16 (by decide) (hts (.fieldLink RX12 37 "BeetleDriveModel" "had" "[I") (List.mem_of_getElem? (i := 2) rfl)) (fun _ h9 => h9) rfl dX12_back_14 ?_
        refine lv_iload_n hx hb dX12_back_17 rfl (lv_at hl 2 rfl) ?_
        obtain ⟨hi4, hf⟩ := chk_some hf
        refine va_iald hx hb hK hP 4 0 rfl rfl hi4 dX12_back_18 ?_
        obtain ⟨hi5, hf⟩ := chk_some hf
        refine va_iast hx hb hK hP hD hS 1 0 rfl rfl hi5 dX12_back_19 (fun H locs hP hD hS => ?_)
        have hP : va_P (gD g) vwCl [((q 0), .inr (10, oX12 q v_holder v_games v_sights v_padMany v_acts v_nothings v_wholeNow v_badAct v_badWhy v_wholeAct v_wholeWho v_keptAt v_isWriting)), ((q 2), .inl (gI g, 6, .inl (upd v_beetle (Int32.toNatClampNeg x2) (v_had (Int32.toNatClampNeg x2))))), ((q 3), .inl (gI g, 6, .inl v_points)), ((q 4), .inl (gI g, 6, .inl v_isIn)), ((q 10), .inl (gI g, 20, .inl v_had))] H := hP
        have hD : va_D A [((q 0), .inr (10, oX12 q v_holder v_games v_sights v_padMany v_acts v_nothings v_wholeNow v_badAct v_badWhy v_wholeAct v_wholeWho v_keptAt v_isWriting)), ((q 2), .inl (gI g, 6, .inl (upd v_beetle (Int32.toNatClampNeg x2) (v_had (Int32.toNatClampNeg x2))))), ((q 3), .inl (gI g, 6, .inl v_points)), ((q 4), .inl (gI g, 6, .inl v_isIn)), ((q 10), .inl (gI g, 20, .inl v_had))] := hD
        refine lv_aload_n hx hb dX12_back_20 rfl (lv_at hl 0 rfl) ?_
        refine va_get (D := gD g) (ci := 10) (v := .ref (q 3)) (C := RX12) (T := TX12) (N := 30) hx hb hts iX12 hown hK hP 0 rfl rfl 2 (by decide) (hts (.fieldLink RX12 16 "BeetleDriveModel" "points" "[I") (List.mem_of_getElem? (i := 3) rfl)) (fun _ h9 => h9) rfl dX12_back_21 ?_
        refine lv_iload_n hx hb dX12_back_24 rfl (lv_at hl 2 rfl) ?_
        refine lv_aload_n hx hb dX12_back_25 rfl (lv_at hl 0 rfl) ?_
        refine va_get (D := gD g) (ci := 10) (v := .ref (q 10)) (C := RX12) (T := TX12) (N := 30) hx hb hts iX12 hown hK hP 0 rfl rfl 16 (by decide) (hts (.fieldLink RX12 37 "BeetleDriveModel" "had" "[I") (List.mem_of_getElem? (i := 2) rfl)) (fun _ h9 => h9) rfl dX12_back_26 ?_
        refine lv_bipush (v := 6) hx hb dX12_back_29 (by decide) ?_
        refine lv_iload_n hx hb dX12_back_31 rfl (lv_at hl 2 rfl) ?_
        refine lv_iadd hx hb dX12_back_32 ?_
        obtain ⟨hi6, hf⟩ := chk_some hf
        refine va_iald hx hb hK hP 4 0 rfl rfl hi6 dX12_back_33 ?_
        obtain ⟨hi7, hf⟩ := chk_some hf
        refine va_iast hx hb hK hP hD hS 2 0 rfl rfl hi7 dX12_back_34 (fun H locs hP hD hS => ?_)
        have hP : va_P (gD g) vwCl [((q 0), .inr (10, oX12 q v_holder v_games v_sights v_padMany v_acts v_nothings v_wholeNow v_badAct v_badWhy v_wholeAct v_wholeWho v_keptAt v_isWriting)), ((q 2), .inl (gI g, 6, .inl (upd v_beetle (Int32.toNatClampNeg x2) (v_had (Int32.toNatClampNeg x2))))), ((q 3), .inl (gI g, 6, .inl (upd v_points (Int32.toNatClampNeg x2) (v_had (Int32.toNatClampNeg ((6 : Int32) + x2)))))), ((q 4), .inl (gI g, 6, .inl v_isIn)), ((q 10), .inl (gI g, 20, .inl v_had))] H := hP
        have hD : va_D A [((q 0), .inr (10, oX12 q v_holder v_games v_sights v_padMany v_acts v_nothings v_wholeNow v_badAct v_badWhy v_wholeAct v_wholeWho v_keptAt v_isWriting)), ((q 2), .inl (gI g, 6, .inl (upd v_beetle (Int32.toNatClampNeg x2) (v_had (Int32.toNatClampNeg x2))))), ((q 3), .inl (gI g, 6, .inl (upd v_points (Int32.toNatClampNeg x2) (v_had (Int32.toNatClampNeg ((6 : Int32) + x2)))))), ((q 4), .inl (gI g, 6, .inl v_isIn)), ((q 10), .inl (gI g, 20, .inl v_had))] := hD
        refine lv_aload_n hx hb dX12_back_35 rfl (lv_at hl 0 rfl) ?_
        refine va_get (D := gD g) (ci := 10) (v := .ref (q 4)) (C := RX12) (T := TX12) (N := 30) hx hb hts iX12 hown hK hP 0 rfl rfl 3 (by decide) (hts (.fieldLink RX12 19 "BeetleDriveModel" "isIn" "[I") (List.mem_of_getElem? (i := 4) rfl)) (fun _ h9 => h9) rfl dX12_back_36 ?_
        refine lv_iload_n hx hb dX12_back_39 rfl (lv_at hl 2 rfl) ?_
        refine lv_aload_n hx hb dX12_back_40 rfl (lv_at hl 0 rfl) ?_
        refine va_get (D := gD g) (ci := 10) (v := .ref (q 10)) (C := RX12) (T := TX12) (N := 30) hx hb hts iX12 hown hK hP 0 rfl rfl 16 (by decide) (hts (.fieldLink RX12 37 "BeetleDriveModel" "had" "[I") (List.mem_of_getElem? (i := 2) rfl)) (fun _ h9 => h9) rfl dX12_back_41 ?_
        refine lv_bipush (v := 12) hx hb dX12_back_44 (by decide) ?_
        refine lv_iload_n hx hb dX12_back_46 rfl (lv_at hl 2 rfl) ?_
        refine lv_iadd hx hb dX12_back_47 ?_
        obtain ⟨hi8, hf⟩ := chk_some hf
        refine va_iald hx hb hK hP 4 0 rfl rfl hi8 dX12_back_48 ?_
        obtain ⟨hi9, hf⟩ := chk_some hf
        refine va_iast hx hb hK hP hD hS 3 0 rfl rfl hi9 dX12_back_49 (fun H locs hP hD hS => ?_)
        have hP : va_P (gD g) vwCl [((q 0), .inr (10, oX12 q v_holder v_games v_sights v_padMany v_acts v_nothings v_wholeNow v_badAct v_badWhy v_wholeAct v_wholeWho v_keptAt v_isWriting)), ((q 2), .inl (gI g, 6, .inl (upd v_beetle (Int32.toNatClampNeg x2) (v_had (Int32.toNatClampNeg x2))))), ((q 3), .inl (gI g, 6, .inl (upd v_points (Int32.toNatClampNeg x2) (v_had (Int32.toNatClampNeg ((6 : Int32) + x2)))))), ((q 4), .inl (gI g, 6, .inl (upd v_isIn (Int32.toNatClampNeg x2) (v_had (Int32.toNatClampNeg ((12 : Int32) + x2)))))), ((q 10), .inl (gI g, 20, .inl v_had))] H := hP
        have hD : va_D A [((q 0), .inr (10, oX12 q v_holder v_games v_sights v_padMany v_acts v_nothings v_wholeNow v_badAct v_badWhy v_wholeAct v_wholeWho v_keptAt v_isWriting)), ((q 2), .inl (gI g, 6, .inl (upd v_beetle (Int32.toNatClampNeg x2) (v_had (Int32.toNatClampNeg x2))))), ((q 3), .inl (gI g, 6, .inl (upd v_points (Int32.toNatClampNeg x2) (v_had (Int32.toNatClampNeg ((6 : Int32) + x2)))))), ((q 4), .inl (gI g, 6, .inl (upd v_isIn (Int32.toNatClampNeg x2) (v_had (Int32.toNatClampNeg ((12 : Int32) + x2)))))), ((q 10), .inl (gI g, 20, .inl v_had))] := hD
        refine lv_iinc (v := (x2 + 1)) (lv' := [(2, .int (x2 + 1)), (0, .ref (q 0)), (1, .int x1)]) hx hb dX12_back_50 hl (k := 2) rfl rfl (by decide) rfl (fun ls hl => ?_)
        refine lv_goto (tgt := 2) hx hb dX12_back_53 (by decide) ?_
        exact ih x1 (x2 + 1) (upd v_beetle (Int32.toNatClampNeg x2) (v_had (Int32.toNatClampNeg x2))) (upd v_points (Int32.toNatClampNeg x2) (v_had (Int32.toNatClampNeg ((6 : Int32) + x2)))) (upd v_isIn (Int32.toNatClampNeg x2) (v_had (Int32.toNatClampNeg ((12 : Int32) + x2)))) v_holder v_games hf H locs hP hD hS ls (lv_sub hl [1, 2, 0] rfl)
  unfold f_X12_back at hf
  refine lv_iconst (v := 0) hx hb dX12_back_0 (by decide) ?_
  refine lv_istore_n (lv' := [(2, .int (0 : Int32)), (0, .ref (q 0)), (1, .int x1)]) hx hb dX12_back_1 rfl hl (by decide) rfl (fun ls hl => ?_)
  exact w_2 FU x1 (0 : Int32) v_beetle v_points v_isIn v_holder v_games hf s.heap [] hP hD hS ls (lv_sub hl [1, 2, 0] rfl)
set_option maxHeartbeats 4000000 in
set_option maxRecDepth 100000 in
theorem c_X12_goOne (l : Launch) (g : bG) (q : Nat → Nat) (v_holder : Int32) (v_games : Int32) (v_sights : Int32) (v_padMany : Int32) (v_acts : Int32) (v_nothings : Int32) (v_wholeNow : Int32) (v_badAct : Int32) (v_badWhy : Int32) (v_wholeAct : Int32) (v_wholeWho : Int32) (v_keptAt : Int32) (v_isWriting : Int32) (v_most : Nat → Int32) (v_beetle : Nat → Int32) (v_points : Nat → Int32) (v_isIn : Nat → Int32) (v_act : Nat → Int32) (v_much : Nat → Int32) (x1 : Int32) (out : (Nat → Int32) × (Nat → Int32) × (Nat → Int32) × Int32 × Int32 × Int32 × Int32 × Int32 × Int32) (hf : f_X12_goOne v_most v_beetle v_points v_isIn v_holder v_games v_act v_much v_nothings v_wholeNow v_wholeAct v_wholeWho x1 = some out) : Mv l g yX12_goOne wsX12_goOne ({ frames := 5, cells := 0, slots := 0, locals := 109 } : Room) [.ref (q 0), .int x1] [((q 0), .inr (10, oX12 q v_holder v_games v_sights v_padMany v_acts v_nothings v_wholeNow v_badAct v_badWhy v_wholeAct v_wholeWho v_keptAt v_isWriting)), ((q 1), .inl (gI g, 6, .inl v_most)), ((q 2), .inl (gI g, 6, .inl v_beetle)), ((q 3), .inl (gI g, 6, .inl v_points)), ((q 4), .inl (gI g, 6, .inl v_isIn)), ((q 8), .inl (gI g, 60, .inl v_act)), ((q 9), .inl (gI g, 60, .inl v_much))] [((q 0), .inr (10, oX12 q out.2.2.2.1 out.2.2.2.2.1 v_sights v_padMany v_acts out.2.2.2.2.2.1 out.2.2.2.2.2.2.1 v_badAct v_badWhy out.2.2.2.2.2.2.2.1 out.2.2.2.2.2.2.2.2 v_keptAt v_isWriting)), ((q 1), .inl (gI g, 6, .inl v_most)), ((q 2), .inl (gI g, 6, .inl out.1)), ((q 3), .inl (gI g, 6, .inl out.2.1)), ((q 4), .inl (gI g, 6, .inl out.2.2.1)), ((q 8), .inl (gI g, 60, .inl v_act)), ((q 9), .inl (gI g, 60, .inl v_much))] := by
  refine ofM (Qc := fun A => Qv g [((q 0), .inr (10, oX12 q out.2.2.2.1 out.2.2.2.2.1 v_sights v_padMany v_acts out.2.2.2.2.2.1 out.2.2.2.2.2.2.1 v_badAct v_badWhy out.2.2.2.2.2.2.2.1 out.2.2.2.2.2.2.2.2 v_keptAt v_isWriting)), ((q 1), .inl (gI g, 6, .inl v_most)), ((q 2), .inl (gI g, 6, .inl out.1)), ((q 3), .inl (gI g, 6, .inl out.2.1)), ((q 4), .inl (gI g, 6, .inl out.2.2.1)), ((q 8), .inl (gI g, 60, .inl v_act)), ((q 9), .inl (gI g, 60, .inl v_much))] A) (cc := cX12_goOne) (nL := 2) (ret := none) (by decide) rfl (Nat.le_of_ble_eq_true rfl) ?_
  intro p e s m below meth c ar A hC hA hP hD hG ls hl
  have hS : va_S A s.heap s.heap [] := va_S.rf
  obtain ⟨hx, hb, hml, hown, hts, hr, hlk, -⟩ := hC
  have hl : lv_has ls 2 [(0, .ref (q 0)), (1, .int x1)] := hl
  have hK := hG.1
  have iX12 : ∀ w ∈ u_ws RX12 TX12 30, w ∈ wsX12_goOne := fun w h => List.mem_cons_of_mem _ (List.mem_append_right _ (h))
  generalize hQ : MQ below (Qv g [((q 0), .inr (10, oX12 q out.2.2.2.1 out.2.2.2.2.1 v_sights v_padMany v_acts out.2.2.2.2.2.1 out.2.2.2.2.2.2.1 v_badAct v_badWhy out.2.2.2.2.2.2.2.1 out.2.2.2.2.2.2.2.2 v_keptAt v_isWriting)), ((q 1), .inl (gI g, 6, .inl v_most)), ((q 2), .inl (gI g, 6, .inl out.1)), ((q 3), .inl (gI g, 6, .inl out.2.1)), ((q 4), .inl (gI g, 6, .inl out.2.2.1)), ((q 8), .inl (gI g, 60, .inl v_act)), ((q 9), .inl (gI g, 60, .inl v_much))] A) ar s 0 0 A = QQ
  unfold f_X12_goOne at hf
  refine lv_aload_n hx hb dX12_goOne_0 rfl (lv_at hl 0 rfl) ?_
  refine lv_aload_n hx hb dX12_goOne_1 rfl (lv_at hl 0 rfl) ?_
  refine va_get (D := gD g) (ci := 10) (v := .ref (q 8)) (C := RX12) (T := TX12) (N := 30) hx hb hts iX12 hown hK hP 0 rfl rfl 11 (by decide) (hts (.fieldLink RX12 31 "BeetleDriveModel" "act" "[I") (List.mem_of_getElem? (i := 1) rfl)) (fun _ h9 => h9) rfl dX12_goOne_2 ?_
  refine lv_iload_n hx hb dX12_goOne_5 rfl (lv_at hl 1 rfl) ?_
  obtain ⟨hi1, hf⟩ := chk_some hf
  refine va_iald hx hb hK hP 5 0 rfl rfl hi1 dX12_goOne_6 ?_
  refine lv_aload_n hx hb dX12_goOne_7 rfl (lv_at hl 0 rfl) ?_
  refine va_get (D := gD g) (ci := 10) (v := .ref (q 9)) (C := RX12) (T := TX12) (N := 30) hx hb hts iX12 hown hK hP 0 rfl rfl 12 (by decide) (hts (.fieldLink RX12 34 "BeetleDriveModel" "much" "[I") (List.mem_of_getElem? (i := 2) rfl)) (fun _ h9 => h9) rfl dX12_goOne_8 ?_
  refine lv_iload_n hx hb dX12_goOne_11 rfl (lv_at hl 1 rfl) ?_
  obtain ⟨hi2, hf⟩ := chk_some hf
  refine va_iald hx hb hK hP 6 0 rfl rfl hi2 dX12_goOne_12 ?_
  obtain ⟨z3, hq4, hf⟩ := bnd_some hf
  refine kM_v (wc := [((q 0), .inr (10, oX12 q v_holder v_games v_sights v_padMany v_acts v_nothings v_wholeNow v_badAct v_badWhy v_wholeAct v_wholeWho v_keptAt v_isWriting)), ((q 1), .inl (gI g, 6, .inl v_most)), ((q 2), .inl (gI g, 6, .inl v_beetle)), ((q 3), .inl (gI g, 6, .inl v_points)), ((q 4), .inl (gI g, 6, .inl v_isIn))]) (wr := [((q 8), .inl (gI g, 60, .inl v_act)), ((q 9), .inl (gI g, 60, .inl v_much))]) (w1 := [((q 0), .inr (10, oX12 q z3.2.2.2.1 z3.2.2.2.2.1 v_sights v_padMany v_acts z3.2.2.2.2.2.1 z3.2.2.2.2.2.2 v_badAct v_badWhy v_wholeAct v_wholeWho v_keptAt v_isWriting)), ((q 1), .inl (gI g, 6, .inl v_most)), ((q 2), .inl (gI g, 6, .inl z3.1)), ((q 3), .inl (gI g, 6, .inl z3.2.1)), ((q 4), .inl (gI g, 6, .inl z3.2.2.1))]) (w2 := [((q 0), .inr (10, oX12 q z3.2.2.2.1 z3.2.2.2.2.1 v_sights v_padMany v_acts z3.2.2.2.2.2.1 z3.2.2.2.2.2.2 v_badAct v_badWhy v_wholeAct v_wholeWho v_keptAt v_isWriting)), ((q 1), .inl (gI g, 6, .inl v_most)), ((q 2), .inl (gI g, 6, .inl z3.1)), ((q 3), .inl (gI g, 6, .inl z3.2.1)), ((q 4), .inl (gI g, 6, .inl z3.2.2.1)), ((q 8), .inl (gI g, 60, .inl v_act)), ((q 9), .inl (gI g, 60, .inl v_much))]) (va_runV (As := [.int (v_act (Int32.toNatClampNeg x1)), .int (v_much (Int32.toNatClampNeg x1))]) (rest := []) ⟨hx, hb, hml, hown, hts⟩ (c_X12_happen l g q v_holder v_games v_sights v_padMany v_acts v_nothings v_wholeNow v_badAct v_badWhy v_wholeAct v_wholeWho v_keptAt v_isWriting v_most v_beetle v_points v_isIn (v_act (Int32.toNatClampNeg x1)) (v_much (Int32.toNatClampNeg x1)) z3 hq4 s.heap.size) (cwV 2 hts gX12_goOne_X12_happen rfl rfl rfl (by decide +kernel) ⟨Nat.le_of_ble_eq_true rfl, Nat.le_of_ble_eq_true rfl⟩) (kpV_M (q0 := 0) (ci := 10) hG hS hP hD hA [0, 1, 2, 3, 4] rfl (by decide) rfl rfl) rfl rfl hl.1 rfl (lv_room (Nat.le_of_ble_eq_true rfl)) dX12_goOne_13 ⟨Nat.le_of_ble_eq_true rfl, Nat.le_of_ble_eq_true rfl⟩) hP hD hS hA [0, 1, 2, 3, 4] [5, 6] [2, 3, 4, 5, 6, 0, 1] rfl rfl (by decide) (by decide) rfl (by decide) (fun H locs hP hD hS => ?_)
  refine lv_aload_n hx hb dX12_goOne_16 rfl (lv_at hl 0 rfl) ?_
  refine va_get (D := gD g) (ci := 10) (v := .int z3.2.2.2.2.2.2) (C := RX12) (T := TX12) (N := 30) hx hb hts iX12 hown hK hP 0 rfl rfl 15 (by decide) (hts (.fieldLink RX12 143 "BeetleDriveModel" "wholeNow" "I") (List.mem_of_getElem? (i := 3) rfl)) (fun _ h9 => h9) rfl dX12_goOne_17 ?_
  refine lv_if_lt (tgt := 43) hx hb dX12_goOne_20 (by decide) (fun c5 => ?_) (fun c5 => ?_)
  · replace hf := ift c5 hf
    rw [← hQ, ← Option.some.inj hf]
    exact eM_v hx hb hr hlk hP hD hS dX12_goOne_43
  · replace hf := iff_ c5 hf
    refine lv_aload_n hx hb dX12_goOne_23 rfl (lv_at hl 0 rfl) ?_
    refine va_get (D := gD g) (ci := 10) (v := .int v_wholeAct) (C := RX12) (T := TX12) (N := 30) hx hb hts iX12 hown hK hP 0 rfl rfl 19 (by decide) (hts (.fieldLink RX12 166 "BeetleDriveModel" "wholeAct" "I") (List.mem_of_getElem? (i := 4) rfl)) (fun _ h9 => h9) rfl dX12_goOne_24 ?_
    refine lv_if_ge (tgt := 43) hx hb dX12_goOne_27 (by decide) (fun c6 => ?_) (fun c6 => ?_)
    · replace hf := ift c6 hf
      rw [← hQ, ← Option.some.inj hf]
      exact eM_v hx hb hr hlk hP hD hS dX12_goOne_43
    · replace hf := iff_ c6 hf
      refine lv_aload_n hx hb dX12_goOne_30 rfl (lv_at hl 0 rfl) ?_
      refine lv_iload_n hx hb dX12_goOne_31 rfl (lv_at hl 1 rfl) ?_
      refine va_put (D := gD g) (ci := 10) (v := .int x1) (ty := .int) (C := RX12) (T := TX12) (N := 30) hx hb hts iX12 tyX12 tyX12_ok nmX12 hown hK hP hD hS 0 rfl rfl 19 (by decide) (hts (.fieldLink RX12 166 "BeetleDriveModel" "wholeAct" "I") (List.mem_of_getElem? (i := 4) rfl)) (fun _ h9 => h9) rfl (tyX12_ok 19 (by decide)) rfl rfl (Nat.le_of_ble_eq_true rfl) dX12_goOne_32 (fun H locs hP hD hS => ?_)
      have hP : va_P (gD g) vwCl [((q 0), .inr (10, oX12 q z3.2.2.2.1 z3.2.2.2.2.1 v_sights v_padMany v_acts z3.2.2.2.2.2.1 z3.2.2.2.2.2.2 v_badAct v_badWhy x1 v_wholeWho v_keptAt v_isWriting)), ((q 1), .inl (gI g, 6, .inl v_most)), ((q 2), .inl (gI g, 6, .inl z3.1)), ((q 3), .inl (gI g, 6, .inl z3.2.1)), ((q 4), .inl (gI g, 6, .inl z3.2.2.1)), ((q 8), .inl (gI g, 60, .inl v_act)), ((q 9), .inl (gI g, 60, .inl v_much))] H := hP
      have hD : va_D A [((q 0), .inr (10, oX12 q z3.2.2.2.1 z3.2.2.2.2.1 v_sights v_padMany v_acts z3.2.2.2.2.2.1 z3.2.2.2.2.2.2 v_badAct v_badWhy x1 v_wholeWho v_keptAt v_isWriting)), ((q 1), .inl (gI g, 6, .inl v_most)), ((q 2), .inl (gI g, 6, .inl z3.1)), ((q 3), .inl (gI g, 6, .inl z3.2.1)), ((q 4), .inl (gI g, 6, .inl z3.2.2.1)), ((q 8), .inl (gI g, 60, .inl v_act)), ((q 9), .inl (gI g, 60, .inl v_much))] := hD
      refine lv_aload_n hx hb dX12_goOne_35 rfl (lv_at hl 0 rfl) ?_
      refine lv_aload_n hx hb dX12_goOne_36 rfl (lv_at hl 0 rfl) ?_
      refine va_get (D := gD g) (ci := 10) (v := .int z3.2.2.2.2.2.2) (C := RX12) (T := TX12) (N := 30) hx hb hts iX12 hown hK hP 0 rfl rfl 15 (by decide) (hts (.fieldLink RX12 143 "BeetleDriveModel" "wholeNow" "I") (List.mem_of_getElem? (i := 3) rfl)) (fun _ h9 => h9) rfl dX12_goOne_37 ?_
      refine va_put (D := gD g) (ci := 10) (v := .int z3.2.2.2.2.2.2) (ty := .int) (C := RX12) (T := TX12) (N := 30) hx hb hts iX12 tyX12 tyX12_ok nmX12 hown hK hP hD hS 0 rfl rfl 20 (by decide) (hts (.fieldLink RX12 169 "BeetleDriveModel" "wholeWho" "I") (List.mem_of_getElem? (i := 5) rfl)) (fun _ h9 => h9) rfl (tyX12_ok 20 (by decide)) rfl rfl (Nat.le_of_ble_eq_true rfl) dX12_goOne_40 (fun H locs hP hD hS => ?_)
      have hP : va_P (gD g) vwCl [((q 0), .inr (10, oX12 q z3.2.2.2.1 z3.2.2.2.2.1 v_sights v_padMany v_acts z3.2.2.2.2.2.1 z3.2.2.2.2.2.2 v_badAct v_badWhy x1 z3.2.2.2.2.2.2 v_keptAt v_isWriting)), ((q 1), .inl (gI g, 6, .inl v_most)), ((q 2), .inl (gI g, 6, .inl z3.1)), ((q 3), .inl (gI g, 6, .inl z3.2.1)), ((q 4), .inl (gI g, 6, .inl z3.2.2.1)), ((q 8), .inl (gI g, 60, .inl v_act)), ((q 9), .inl (gI g, 60, .inl v_much))] H := hP
      have hD : va_D A [((q 0), .inr (10, oX12 q z3.2.2.2.1 z3.2.2.2.2.1 v_sights v_padMany v_acts z3.2.2.2.2.2.1 z3.2.2.2.2.2.2 v_badAct v_badWhy x1 z3.2.2.2.2.2.2 v_keptAt v_isWriting)), ((q 1), .inl (gI g, 6, .inl v_most)), ((q 2), .inl (gI g, 6, .inl z3.1)), ((q 3), .inl (gI g, 6, .inl z3.2.1)), ((q 4), .inl (gI g, 6, .inl z3.2.2.1)), ((q 8), .inl (gI g, 60, .inl v_act)), ((q 9), .inl (gI g, 60, .inl v_much))] := hD
      rw [← hQ, ← Option.some.inj hf]
      exact eM_v hx hb hr hlk hP hD hS dX12_goOne_43
set_option maxHeartbeats 4000000 in
set_option maxRecDepth 100000 in
theorem c_X12_goGames (l : Launch) (g : bG) (q : Nat → Nat) (v_holder : Int32) (v_games : Int32) (v_sights : Int32) (v_padMany : Int32) (v_acts : Int32) (v_nothings : Int32) (v_wholeNow : Int32) (v_badAct : Int32) (v_badWhy : Int32) (v_wholeAct : Int32) (v_wholeWho : Int32) (v_keptAt : Int32) (v_isWriting : Int32) (v_most : Nat → Int32) (v_beetle : Nat → Int32) (v_points : Nat → Int32) (v_isIn : Nat → Int32) (v_act : Nat → Int32) (v_much : Nat → Int32) (out : (Nat → Int32) × (Nat → Int32) × (Nat → Int32) × Int32 × Int32 × Int32 × Int32 × Int32 × Int32 × Int32 × Int32) (hf : f_X12_goGames v_most v_beetle v_points v_isIn v_holder v_games v_act v_much v_acts v_nothings v_wholeNow v_badAct v_badWhy v_wholeAct v_wholeWho = some out) : Mv l g yX12_goGames wsX12_goGames ({ frames := 6, cells := 0, slots := 0, locals := 130 } : Room) [.ref (q 0)] [((q 0), .inr (10, oX12 q v_holder v_games v_sights v_padMany v_acts v_nothings v_wholeNow v_badAct v_badWhy v_wholeAct v_wholeWho v_keptAt v_isWriting)), ((q 1), .inl (gI g, 6, .inl v_most)), ((q 2), .inl (gI g, 6, .inl v_beetle)), ((q 3), .inl (gI g, 6, .inl v_points)), ((q 4), .inl (gI g, 6, .inl v_isIn)), ((q 8), .inl (gI g, 60, .inl v_act)), ((q 9), .inl (gI g, 60, .inl v_much))] [((q 0), .inr (10, oX12 q out.2.2.2.1 out.2.2.2.2.1 v_sights v_padMany v_acts out.2.2.2.2.2.1 out.2.2.2.2.2.2.1 out.2.2.2.2.2.2.2.1 out.2.2.2.2.2.2.2.2.1 out.2.2.2.2.2.2.2.2.2.1 out.2.2.2.2.2.2.2.2.2.2 v_keptAt v_isWriting)), ((q 1), .inl (gI g, 6, .inl v_most)), ((q 2), .inl (gI g, 6, .inl out.1)), ((q 3), .inl (gI g, 6, .inl out.2.1)), ((q 4), .inl (gI g, 6, .inl out.2.2.1)), ((q 8), .inl (gI g, 60, .inl v_act)), ((q 9), .inl (gI g, 60, .inl v_much))] := by
  refine ofM (Qc := fun A => Qv g [((q 0), .inr (10, oX12 q out.2.2.2.1 out.2.2.2.2.1 v_sights v_padMany v_acts out.2.2.2.2.2.1 out.2.2.2.2.2.2.1 out.2.2.2.2.2.2.2.1 out.2.2.2.2.2.2.2.2.1 out.2.2.2.2.2.2.2.2.2.1 out.2.2.2.2.2.2.2.2.2.2 v_keptAt v_isWriting)), ((q 1), .inl (gI g, 6, .inl v_most)), ((q 2), .inl (gI g, 6, .inl out.1)), ((q 3), .inl (gI g, 6, .inl out.2.1)), ((q 4), .inl (gI g, 6, .inl out.2.2.1)), ((q 8), .inl (gI g, 60, .inl v_act)), ((q 9), .inl (gI g, 60, .inl v_much))] A) (cc := cX12_goGames) (nL := 3) (ret := none) (by decide) rfl (Nat.le_of_ble_eq_true rfl) ?_
  intro p e s m below meth c ar A hC hA hP hD hG ls hl
  have hS : va_S A s.heap s.heap [] := va_S.rf
  obtain ⟨hx, hb, hml, hown, hts, hr, hlk, -⟩ := hC
  have hl : lv_has ls 3 [(0, .ref (q 0))] := hl
  have hK := hG.1
  have iX12 : ∀ w ∈ u_ws RX12 TX12 30, w ∈ wsX12_goGames := fun w h => List.mem_cons_of_mem _ (List.mem_append_right _ (h))
  generalize hQ : MQ below (Qv g [((q 0), .inr (10, oX12 q out.2.2.2.1 out.2.2.2.2.1 v_sights v_padMany v_acts out.2.2.2.2.2.1 out.2.2.2.2.2.2.1 out.2.2.2.2.2.2.2.1 out.2.2.2.2.2.2.2.2.1 out.2.2.2.2.2.2.2.2.2.1 out.2.2.2.2.2.2.2.2.2.2 v_keptAt v_isWriting)), ((q 1), .inl (gI g, 6, .inl v_most)), ((q 2), .inl (gI g, 6, .inl out.1)), ((q 3), .inl (gI g, 6, .inl out.2.1)), ((q 4), .inl (gI g, 6, .inl out.2.2.1)), ((q 8), .inl (gI g, 60, .inl v_act)), ((q 9), .inl (gI g, 60, .inl v_much))] A) ar s 0 0 A = QQ
  have w_88 : ∀ (k31 : Int32 → (Nat → Int32) → (Nat → Int32) → (Nat → Int32) → Int32 → Int32 → Int32 → Int32 → Int32 → Int32 → Int32 → Int32 → Option ((Nat → Int32) × (Nat → Int32) × (Nat → Int32) × Int32 × Int32 × Int32 × Int32 × Int32 × Int32 × Int32 × Int32)), (∀ (x1 : Int32) (v_beetle : Nat → Int32) (v_points : Nat → Int32) (v_isIn : Nat → Int32) (v_holder : Int32) (v_games : Int32) (v_nothings : Int32) (v_wholeNow : Int32) (v_badAct : Int32) (v_badWhy : Int32) (v_wholeAct : Int32) (v_wholeWho : Int32), k31 x1 v_beetle v_points v_isIn v_holder v_games v_nothings v_wholeNow v_badAct v_badWhy v_wholeAct v_wholeWho = some out → ∀ (H : Heap) (locs : List Loc), va_P (gD g) vwCl [((q 0), .inr (10, oX12 q v_holder v_games v_sights v_padMany v_acts v_nothings v_wholeNow v_badAct v_badWhy v_wholeAct v_wholeWho v_keptAt v_isWriting)), ((q 1), .inl (gI g, 6, .inl v_most)), ((q 2), .inl (gI g, 6, .inl v_beetle)), ((q 3), .inl (gI g, 6, .inl v_points)), ((q 4), .inl (gI g, 6, .inl v_isIn)), ((q 8), .inl (gI g, 60, .inl v_act)), ((q 9), .inl (gI g, 60, .inl v_much))] H → va_D A [((q 0), .inr (10, oX12 q v_holder v_games v_sights v_padMany v_acts v_nothings v_wholeNow v_badAct v_badWhy v_wholeAct v_wholeWho v_keptAt v_isWriting)), ((q 1), .inl (gI g, 6, .inl v_most)), ((q 2), .inl (gI g, 6, .inl v_beetle)), ((q 3), .inl (gI g, 6, .inl v_points)), ((q 4), .inl (gI g, 6, .inl v_isIn)), ((q 8), .inl (gI g, 60, .inl v_act)), ((q 9), .inl (gI g, 60, .inl v_much))] → va_S A s.heap H locs → ∀ ls : Array Slot, lv_has ls 3 [(0, .ref (q 0)), (1, .int x1)] → W p l e ({ frames := 6, cells := 0, slots := 0, locals := 130 } : Room) s m ar below meth c H locs 0 0 QQ (F0 m 31 ls [])) → ∀ (y0 : Int32) (x1 : Int32) (x2 : Int32) (v_beetle : Nat → Int32) (v_points : Nat → Int32) (v_isIn : Nat → Int32) (v_holder : Int32) (v_games : Int32) (v_nothings : Int32) (v_wholeNow : Int32) (v_badAct : Int32) (v_badWhy : Int32) (v_wholeAct : Int32) (v_wholeWho : Int32), f_X12_goGames_b88 v_most v_act v_much v_acts k31 y0 x1 x2 v_beetle v_points v_isIn v_holder v_games v_nothings v_wholeNow v_badAct v_badWhy v_wholeAct v_wholeWho = some out → ∀ (H : Heap) (locs : List Loc), va_P (gD g) vwCl [((q 0), .inr (10, oX12 q v_holder v_games v_sights v_padMany v_acts v_nothings v_wholeNow v_badAct v_badWhy v_wholeAct v_wholeWho v_keptAt v_isWriting)), ((q 1), .inl (gI g, 6, .inl v_most)), ((q 2), .inl (gI g, 6, .inl v_beetle)), ((q 3), .inl (gI g, 6, .inl v_points)), ((q 4), .inl (gI g, 6, .inl v_isIn)), ((q 8), .inl (gI g, 60, .inl v_act)), ((q 9), .inl (gI g, 60, .inl v_much))] H → va_D A [((q 0), .inr (10, oX12 q v_holder v_games v_sights v_padMany v_acts v_nothings v_wholeNow v_badAct v_badWhy v_wholeAct v_wholeWho v_keptAt v_isWriting)), ((q 1), .inl (gI g, 6, .inl v_most)), ((q 2), .inl (gI g, 6, .inl v_beetle)), ((q 3), .inl (gI g, 6, .inl v_points)), ((q 4), .inl (gI g, 6, .inl v_isIn)), ((q 8), .inl (gI g, 60, .inl v_act)), ((q 9), .inl (gI g, 60, .inl v_much))] → va_S A s.heap H locs → ∀ ls : Array Slot, lv_has ls 3 [(0, .ref (q 0)), (1, .int x1), (2, .int x2)] → W p l e ({ frames := 6, cells := 0, slots := 0, locals := 130 } : Room) s m ar below meth c H locs 0 0 QQ (F0 m 88 ls [.int y0, .ref (q 0)]) := by
    intro k31 hk31 y0 x1 x2 v_beetle v_points v_isIn v_holder v_games v_nothings v_wholeNow v_badAct v_badWhy v_wholeAct v_wholeWho hf H locs hP hD hS ls hl
    unfold f_X12_goGames_b88 at hf
    refine va_put (D := gD g) (ci := 10) (v := .int y0) (ty := .int) (C := RX12) (T := TX12) (N := 30) hx hb hts iX12 tyX12 tyX12_ok nmX12 hown hK hP hD hS 0 rfl rfl 18 (by decide) (hts (.fieldLink RX12 175 "BeetleDriveModel" "badWhy" "I") (List.mem_of_getElem? (i := 2) rfl)) (fun _ h9 => h9) rfl (tyX12_ok 18 (by decide)) rfl rfl (Nat.le_of_ble_eq_true rfl) dX12_goGames_88 (fun H locs hP hD hS => ?_)
    have hP : va_P (gD g) vwCl [((q 0), .inr (10, oX12 q v_holder v_games v_sights v_padMany v_acts v_nothings v_wholeNow v_badAct y0 v_wholeAct v_wholeWho v_keptAt v_isWriting)), ((q 1), .inl (gI g, 6, .inl v_most)), ((q 2), .inl (gI g, 6, .inl v_beetle)), ((q 3), .inl (gI g, 6, .inl v_points)), ((q 4), .inl (gI g, 6, .inl v_isIn)), ((q 8), .inl (gI g, 60, .inl v_act)), ((q 9), .inl (gI g, 60, .inl v_much))] H := hP
    have hD : va_D A [((q 0), .inr (10, oX12 q v_holder v_games v_sights v_padMany v_acts v_nothings v_wholeNow v_badAct y0 v_wholeAct v_wholeWho v_keptAt v_isWriting)), ((q 1), .inl (gI g, 6, .inl v_most)), ((q 2), .inl (gI g, 6, .inl v_beetle)), ((q 3), .inl (gI g, 6, .inl v_points)), ((q 4), .inl (gI g, 6, .inl v_isIn)), ((q 8), .inl (gI g, 60, .inl v_act)), ((q 9), .inl (gI g, 60, .inl v_much))] := hD
    refine lv_iload_n hx hb dX12_goGames_91 rfl (lv_at hl 2 rfl) ?_
    refine lv_if_ne (tgt := 100) hx hb dX12_goGames_92 (by decide) (fun c9 => ?_) (fun c9 => ?_)
    · replace hf := iff_ c9 hf
      refine lv_iinc (v := (x1 + 1)) (lv' := [(1, .int (x1 + 1)), (0, .ref (q 0)), (2, .int x2)]) hx hb dX12_goGames_100 hl (k := 1) rfl rfl (by decide) rfl (fun ls hl => ?_)
      refine lv_goto (tgt := 31) hx hb dX12_goGames_103 (by decide) ?_
      exact hk31 (x1 + 1) v_beetle v_points v_isIn v_holder v_games v_nothings v_wholeNow v_badAct y0 v_wholeAct v_wholeWho hf H locs hP hD hS ls (lv_sub hl [1, 0] rfl)
    · replace hf := ift c9 hf
      refine lv_aload_n hx hb dX12_goGames_95 rfl (lv_at hl 0 rfl) ?_
      refine lv_iload_n hx hb dX12_goGames_96 rfl (lv_at hl 1 rfl) ?_
      obtain ⟨z10, hq11, hf⟩ := bnd_some hf
      refine kM_v (wc := [((q 0), .inr (10, oX12 q v_holder v_games v_sights v_padMany v_acts v_nothings v_wholeNow v_badAct y0 v_wholeAct v_wholeWho v_keptAt v_isWriting)), ((q 1), .inl (gI g, 6, .inl v_most)), ((q 2), .inl (gI g, 6, .inl v_beetle)), ((q 3), .inl (gI g, 6, .inl v_points)), ((q 4), .inl (gI g, 6, .inl v_isIn)), ((q 8), .inl (gI g, 60, .inl v_act)), ((q 9), .inl (gI g, 60, .inl v_much))]) (wr := []) (w1 := [((q 0), .inr (10, oX12 q z10.2.2.2.1 z10.2.2.2.2.1 v_sights v_padMany v_acts z10.2.2.2.2.2.1 z10.2.2.2.2.2.2.1 v_badAct y0 z10.2.2.2.2.2.2.2.1 z10.2.2.2.2.2.2.2.2 v_keptAt v_isWriting)), ((q 1), .inl (gI g, 6, .inl v_most)), ((q 2), .inl (gI g, 6, .inl z10.1)), ((q 3), .inl (gI g, 6, .inl z10.2.1)), ((q 4), .inl (gI g, 6, .inl z10.2.2.1)), ((q 8), .inl (gI g, 60, .inl v_act)), ((q 9), .inl (gI g, 60, .inl v_much))]) (w2 := [((q 0), .inr (10, oX12 q z10.2.2.2.1 z10.2.2.2.2.1 v_sights v_padMany v_acts z10.2.2.2.2.2.1 z10.2.2.2.2.2.2.1 v_badAct y0 z10.2.2.2.2.2.2.2.1 z10.2.2.2.2.2.2.2.2 v_keptAt v_isWriting)), ((q 1), .inl (gI g, 6, .inl v_most)), ((q 2), .inl (gI g, 6, .inl z10.1)), ((q 3), .inl (gI g, 6, .inl z10.2.1)), ((q 4), .inl (gI g, 6, .inl z10.2.2.1)), ((q 8), .inl (gI g, 60, .inl v_act)), ((q 9), .inl (gI g, 60, .inl v_much))]) (va_runV (As := [.int x1]) (rest := []) ⟨hx, hb, hml, hown, hts⟩ (c_X12_goOne l g q v_holder v_games v_sights v_padMany v_acts v_nothings v_wholeNow v_badAct y0 v_wholeAct v_wholeWho v_keptAt v_isWriting v_most v_beetle v_points v_isIn v_act v_much x1 z10 hq11 H.size) (cwV 1 hts gX12_goGames_X12_goOne rfl rfl rfl (by decide +kernel) ⟨Nat.le_of_ble_eq_true rfl, Nat.le_of_ble_eq_true rfl⟩) (kpV_M (q0 := 0) (ci := 10) hG hS hP hD hA [0, 1, 2, 3, 4, 5, 6] rfl (by decide) rfl rfl) rfl rfl hl.1 rfl (lv_room (Nat.le_of_ble_eq_true rfl)) dX12_goGames_97 ⟨Nat.le_of_ble_eq_true rfl, Nat.le_of_ble_eq_true rfl⟩) hP hD hS hA [0, 1, 2, 3, 4, 5, 6] [] [0, 1, 2, 3, 4, 5, 6] rfl rfl (by decide) (by decide) rfl (by decide) (fun H locs hP hD hS => ?_)
      refine lv_iinc (v := (x1 + 1)) (lv' := [(1, .int (x1 + 1)), (0, .ref (q 0)), (2, .int x2)]) hx hb dX12_goGames_100 hl (k := 1) rfl rfl (by decide) rfl (fun ls hl => ?_)
      refine lv_goto (tgt := 31) hx hb dX12_goGames_103 (by decide) ?_
      exact hk31 (x1 + 1) z10.1 z10.2.1 z10.2.2.1 z10.2.2.2.1 z10.2.2.2.2.1 z10.2.2.2.2.2.1 z10.2.2.2.2.2.2.1 v_badAct y0 z10.2.2.2.2.2.2.2.1 z10.2.2.2.2.2.2.2.2 hf H locs hP hD hS ls (lv_sub hl [1, 0] rfl)
  have w_31 : ∀ n : Nat, ∀ (x1 : Int32) (v_beetle : Nat → Int32) (v_points : Nat → Int32) (v_isIn : Nat → Int32) (v_holder : Int32) (v_games : Int32) (v_nothings : Int32) (v_wholeNow : Int32) (v_badAct : Int32) (v_badWhy : Int32) (v_wholeAct : Int32) (v_wholeWho : Int32), f_X12_goGames_b31 v_most v_act v_much v_acts n x1 v_beetle v_points v_isIn v_holder v_games v_nothings v_wholeNow v_badAct v_badWhy v_wholeAct v_wholeWho = some out → ∀ (H : Heap) (locs : List Loc), va_P (gD g) vwCl [((q 0), .inr (10, oX12 q v_holder v_games v_sights v_padMany v_acts v_nothings v_wholeNow v_badAct v_badWhy v_wholeAct v_wholeWho v_keptAt v_isWriting)), ((q 1), .inl (gI g, 6, .inl v_most)), ((q 2), .inl (gI g, 6, .inl v_beetle)), ((q 3), .inl (gI g, 6, .inl v_points)), ((q 4), .inl (gI g, 6, .inl v_isIn)), ((q 8), .inl (gI g, 60, .inl v_act)), ((q 9), .inl (gI g, 60, .inl v_much))] H → va_D A [((q 0), .inr (10, oX12 q v_holder v_games v_sights v_padMany v_acts v_nothings v_wholeNow v_badAct v_badWhy v_wholeAct v_wholeWho v_keptAt v_isWriting)), ((q 1), .inl (gI g, 6, .inl v_most)), ((q 2), .inl (gI g, 6, .inl v_beetle)), ((q 3), .inl (gI g, 6, .inl v_points)), ((q 4), .inl (gI g, 6, .inl v_isIn)), ((q 8), .inl (gI g, 60, .inl v_act)), ((q 9), .inl (gI g, 60, .inl v_much))] → va_S A s.heap H locs → ∀ ls : Array Slot, lv_has ls 3 [(0, .ref (q 0)), (1, .int x1)] → W p l e ({ frames := 6, cells := 0, slots := 0, locals := 130 } : Room) s m ar below meth c H locs 0 0 QQ (F0 m 31 ls []) := by
    intro n
    induction n with
    | zero =>
      intro x1 v_beetle v_points v_isIn v_holder v_games v_nothings v_wholeNow v_badAct v_badWhy v_wholeAct v_wholeWho hf
      rw [f_X12_goGames_b31_z] at hf
      cases hf
    | succ n ih =>
      intro x1 v_beetle v_points v_isIn v_holder v_games v_nothings v_wholeNow v_badAct v_badWhy v_wholeAct v_wholeWho hf H locs hP hD hS ls hl
      rw [f_X12_goGames_b31_s] at hf
      refine lv_iload_n hx hb dX12_goGames_31 rfl (lv_at hl 1 rfl) ?_
      refine lv_aload_n hx hb dX12_goGames_32 rfl (lv_at hl 0 rfl) ?_
      refine va_get (D := gD g) (ci := 10) (v := .int v_acts) (C := RX12) (T := TX12) (N := 30) hx hb hts iX12 hown hK hP 0 rfl rfl 13 (by decide) (hts (.fieldLink RX12 102 "BeetleDriveModel" "acts" "I") (List.mem_of_getElem? (i := 6) rfl)) (fun _ h9 => h9) rfl dX12_goGames_33 ?_
      refine lv_icmp_ge (tgt := 106) hx hb dX12_goGames_36 (by decide) (fun c1 => ?_) (fun c1 => ?_)
      · replace hf := ift c1 hf
        rw [← hQ, ← Option.some.inj hf]
        exact eM_v hx hb hr hlk hP hD hS dX12_goGames_106
      · replace hf := iff_ c1 hf
        refine lv_aload_n hx hb dX12_goGames_39 rfl (lv_at hl 0 rfl) ?_
        refine va_get (D := gD g) (ci := 10) (v := .int v_badAct) (C := RX12) (T := TX12) (N := 30) hx hb hts iX12 hown hK hP 0 rfl rfl 17 (by decide) (hts (.fieldLink RX12 172 "BeetleDriveModel" "badAct" "I") (List.mem_of_getElem? (i := 1) rfl)) (fun _ h9 => h9) rfl dX12_goGames_40 ?_
        refine lv_if_ge (tgt := 106) hx hb dX12_goGames_43 (by decide) (fun c2 => ?_) (fun c2 => ?_)
        · replace hf := ift c2 hf
          rw [← hQ, ← Option.some.inj hf]
          exact eM_v hx hb hr hlk hP hD hS dX12_goGames_106
        · replace hf := iff_ c2 hf
          refine lv_aload_n hx hb dX12_goGames_46 rfl (lv_at hl 0 rfl) ?_
          refine lv_aload_n hx hb dX12_goGames_47 rfl (lv_at hl 0 rfl) ?_
          refine va_get (D := gD g) (ci := 10) (v := .ref (q 8)) (C := RX12) (T := TX12) (N := 30) hx hb hts iX12 hown hK hP 0 rfl rfl 11 (by decide) (hts (.fieldLink RX12 31 "BeetleDriveModel" "act" "[I") (List.mem_of_getElem? (i := 7) rfl)) (fun _ h9 => h9) rfl dX12_goGames_48 ?_
          refine lv_iload_n hx hb dX12_goGames_51 rfl (lv_at hl 1 rfl) ?_
          obtain ⟨hi3, hf⟩ := chk_some hf
          refine va_iald hx hb hK hP 5 0 rfl rfl hi3 dX12_goGames_52 ?_
          refine lv_aload_n hx hb dX12_goGames_53 rfl (lv_at hl 0 rfl) ?_
          refine va_get (D := gD g) (ci := 10) (v := .ref (q 9)) (C := RX12) (T := TX12) (N := 30) hx hb hts iX12 hown hK hP 0 rfl rfl 12 (by decide) (hts (.fieldLink RX12 34 "BeetleDriveModel" "much" "[I") (List.mem_of_getElem? (i := 8) rfl)) (fun _ h9 => h9) rfl dX12_goGames_54 ?_
          refine lv_iload_n hx hb dX12_goGames_57 rfl (lv_at hl 1 rfl) ?_
          obtain ⟨hi4, hf⟩ := chk_some hf
          refine va_iald hx hb hK hP 6 0 rfl rfl hi4 dX12_goGames_58 ?_
          obtain ⟨z5, hq6, hf⟩ := bnd_some hf
          refine kR_i (va_runV (As := [.int (v_act (Int32.toNatClampNeg x1)), .int (v_much (Int32.toNatClampNeg x1))]) (rest := []) ⟨hx, hb, hml, hown, hts⟩ (c_X12_whyNot l g q v_holder v_games v_sights v_padMany v_acts v_nothings v_wholeNow v_badAct v_badWhy v_wholeAct v_wholeWho v_keptAt v_isWriting v_beetle v_isIn (v_act (Int32.toNatClampNeg x1)) (v_much (Int32.toNatClampNeg x1)) z5 hq6) (cwV 2 hts gX12_goGames_X12_whyNot rfl rfl rfl (by decide +kernel) ⟨Nat.le_of_ble_eq_true rfl, Nat.le_of_ble_eq_true rfl⟩) (kpV_R (q0 := 0) (ci := 10) (hG.now hS) (hP.subm (ws' := [((q 0), .inr (10, oX12 q v_holder v_games v_sights v_padMany v_acts v_nothings v_wholeNow v_badAct v_badWhy v_wholeAct v_wholeWho v_keptAt v_isWriting)), ((q 2), .inl (gI g, 6, .inl v_beetle)), ((q 4), .inl (gI g, 6, .inl v_isIn))]) [0, 2, 4] rfl) rfl rfl) rfl rfl hl.1 rfl (lv_room (Nat.le_of_ble_eq_true rfl)) dX12_goGames_59 ⟨Nat.le_of_ble_eq_true rfl, Nat.le_of_ble_eq_true rfl⟩) ?_
          refine lv_istore_n (lv' := [(2, .int z5), (0, .ref (q 0)), (1, .int x1)]) hx hb dX12_goGames_62 rfl hl (by decide) rfl (fun ls hl => ?_)
          refine lv_aload_n hx hb dX12_goGames_63 rfl (lv_at hl 1 rfl) ?_
          refine lv_iload_n hx hb dX12_goGames_64 rfl (lv_at hl 0 rfl) ?_
          refine lv_if_le (tgt := 72) hx hb dX12_goGames_65 (by decide) (fun c7 => ?_) (fun c7 => ?_)
          · replace hf := ift c7 hf
            refine lv_bipush (v := -6) hx hb dX12_goGames_72 (by decide) ?_
            refine va_put (D := gD g) (ci := 10) (v := .int (-6 : Int32)) (ty := .int) (C := RX12) (T := TX12) (N := 30) hx hb hts iX12 tyX12 tyX12_ok nmX12 hown hK hP hD hS 0 rfl rfl 17 (by decide) (hts (.fieldLink RX12 172 "BeetleDriveModel" "badAct" "I") (List.mem_of_getElem? (i := 1) rfl)) (fun _ h9 => h9) rfl (tyX12_ok 17 (by decide)) rfl rfl (Nat.le_of_ble_eq_true rfl) dX12_goGames_74 (fun H locs hP hD hS => ?_)
            have hP : va_P (gD g) vwCl [((q 0), .inr (10, oX12 q v_holder v_games v_sights v_padMany v_acts v_nothings v_wholeNow (-6 : Int32) v_badWhy v_wholeAct v_wholeWho v_keptAt v_isWriting)), ((q 1), .inl (gI g, 6, .inl v_most)), ((q 2), .inl (gI g, 6, .inl v_beetle)), ((q 3), .inl (gI g, 6, .inl v_points)), ((q 4), .inl (gI g, 6, .inl v_isIn)), ((q 8), .inl (gI g, 60, .inl v_act)), ((q 9), .inl (gI g, 60, .inl v_much))] H := hP
            have hD : va_D A [((q 0), .inr (10, oX12 q v_holder v_games v_sights v_padMany v_acts v_nothings v_wholeNow (-6 : Int32) v_badWhy v_wholeAct v_wholeWho v_keptAt v_isWriting)), ((q 1), .inl (gI g, 6, .inl v_most)), ((q 2), .inl (gI g, 6, .inl v_beetle)), ((q 3), .inl (gI g, 6, .inl v_points)), ((q 4), .inl (gI g, 6, .inl v_isIn)), ((q 8), .inl (gI g, 60, .inl v_act)), ((q 9), .inl (gI g, 60, .inl v_much))] := hD
            refine lv_aload_n hx hb dX12_goGames_77 rfl (lv_at hl 1 rfl) ?_
            refine lv_iload_n hx hb dX12_goGames_78 rfl (lv_at hl 0 rfl) ?_
            refine lv_if_le (tgt := 86) hx hb dX12_goGames_79 (by decide) (fun c8 => ?_) (fun c8 => ?_)
            · replace hf := ift c8 hf
              refine lv_bipush (v := -6) hx hb dX12_goGames_86 (by decide) ?_
              exact w_88 (f_X12_goGames_b31 v_most v_act v_much v_acts n) ih (-6 : Int32) x1 z5 v_beetle v_points v_isIn v_holder v_games v_nothings v_wholeNow (-6 : Int32) v_badWhy v_wholeAct v_wholeWho hf H locs hP hD hS ls (lv_sub hl [1, 2, 0] rfl)
            · replace hf := iff_ c8 hf
              refine lv_iload_n hx hb dX12_goGames_82 rfl (lv_at hl 0 rfl) ?_
              refine lv_goto (tgt := 88) hx hb dX12_goGames_83 (by decide) ?_
              exact w_88 (f_X12_goGames_b31 v_most v_act v_much v_acts n) ih z5 x1 z5 v_beetle v_points v_isIn v_holder v_games v_nothings v_wholeNow (-6 : Int32) v_badWhy v_wholeAct v_wholeWho hf H locs hP hD hS ls (lv_sub hl [1, 2, 0] rfl)
          · replace hf := iff_ c7 hf
            refine lv_iload_n hx hb dX12_goGames_68 rfl (lv_at hl 2 rfl) ?_
            refine lv_goto (tgt := 74) hx hb dX12_goGames_69 (by decide) ?_
            refine va_put (D := gD g) (ci := 10) (v := .int x1) (ty := .int) (C := RX12) (T := TX12) (N := 30) hx hb hts iX12 tyX12 tyX12_ok nmX12 hown hK hP hD hS 0 rfl rfl 17 (by decide) (hts (.fieldLink RX12 172 "BeetleDriveModel" "badAct" "I") (List.mem_of_getElem? (i := 1) rfl)) (fun _ h9 => h9) rfl (tyX12_ok 17 (by decide)) rfl rfl (Nat.le_of_ble_eq_true rfl) dX12_goGames_74 (fun H locs hP hD hS => ?_)
            have hP : va_P (gD g) vwCl [((q 0), .inr (10, oX12 q v_holder v_games v_sights v_padMany v_acts v_nothings v_wholeNow x1 v_badWhy v_wholeAct v_wholeWho v_keptAt v_isWriting)), ((q 1), .inl (gI g, 6, .inl v_most)), ((q 2), .inl (gI g, 6, .inl v_beetle)), ((q 3), .inl (gI g, 6, .inl v_points)), ((q 4), .inl (gI g, 6, .inl v_isIn)), ((q 8), .inl (gI g, 60, .inl v_act)), ((q 9), .inl (gI g, 60, .inl v_much))] H := hP
            have hD : va_D A [((q 0), .inr (10, oX12 q v_holder v_games v_sights v_padMany v_acts v_nothings v_wholeNow x1 v_badWhy v_wholeAct v_wholeWho v_keptAt v_isWriting)), ((q 1), .inl (gI g, 6, .inl v_most)), ((q 2), .inl (gI g, 6, .inl v_beetle)), ((q 3), .inl (gI g, 6, .inl v_points)), ((q 4), .inl (gI g, 6, .inl v_isIn)), ((q 8), .inl (gI g, 60, .inl v_act)), ((q 9), .inl (gI g, 60, .inl v_much))] := hD
            refine lv_aload_n hx hb dX12_goGames_77 rfl (lv_at hl 1 rfl) ?_
            refine lv_iload_n hx hb dX12_goGames_78 rfl (lv_at hl 0 rfl) ?_
            refine lv_if_le (tgt := 86) hx hb dX12_goGames_79 (by decide) (fun c12 => ?_) (fun c12 => ?_)
            · replace hf := ift c12 hf
              refine lv_bipush (v := -6) hx hb dX12_goGames_86 (by decide) ?_
              exact w_88 (f_X12_goGames_b31 v_most v_act v_much v_acts n) ih (-6 : Int32) x1 z5 v_beetle v_points v_isIn v_holder v_games v_nothings v_wholeNow x1 v_badWhy v_wholeAct v_wholeWho hf H locs hP hD hS ls (lv_sub hl [1, 2, 0] rfl)
            · replace hf := iff_ c12 hf
              refine lv_iload_n hx hb dX12_goGames_82 rfl (lv_at hl 0 rfl) ?_
              refine lv_goto (tgt := 88) hx hb dX12_goGames_83 (by decide) ?_
              exact w_88 (f_X12_goGames_b31 v_most v_act v_much v_acts n) ih z5 x1 z5 v_beetle v_points v_isIn v_holder v_games v_nothings v_wholeNow x1 v_badWhy v_wholeAct v_wholeWho hf H locs hP hD hS ls (lv_sub hl [1, 2, 0] rfl)
  unfold f_X12_goGames at hf
  refine lv_aload_n hx hb dX12_goGames_0 rfl (lv_at hl 0 rfl) ?_
  refine lv_bipush (v := -6) hx hb dX12_goGames_1 (by decide) ?_
  refine va_put (D := gD g) (ci := 10) (v := .int (-6 : Int32)) (ty := .int) (C := RX12) (T := TX12) (N := 30) hx hb hts iX12 tyX12 tyX12_ok nmX12 hown hK hP hD hS 0 rfl rfl 17 (by decide) (hts (.fieldLink RX12 172 "BeetleDriveModel" "badAct" "I") (List.mem_of_getElem? (i := 1) rfl)) (fun _ h9 => h9) rfl (tyX12_ok 17 (by decide)) rfl rfl (Nat.le_of_ble_eq_true rfl) dX12_goGames_3 (fun H locs hP hD hS => ?_)
  have hP : va_P (gD g) vwCl [((q 0), .inr (10, oX12 q v_holder v_games v_sights v_padMany v_acts v_nothings v_wholeNow (-6 : Int32) v_badWhy v_wholeAct v_wholeWho v_keptAt v_isWriting)), ((q 1), .inl (gI g, 6, .inl v_most)), ((q 2), .inl (gI g, 6, .inl v_beetle)), ((q 3), .inl (gI g, 6, .inl v_points)), ((q 4), .inl (gI g, 6, .inl v_isIn)), ((q 8), .inl (gI g, 60, .inl v_act)), ((q 9), .inl (gI g, 60, .inl v_much))] H := hP
  have hD : va_D A [((q 0), .inr (10, oX12 q v_holder v_games v_sights v_padMany v_acts v_nothings v_wholeNow (-6 : Int32) v_badWhy v_wholeAct v_wholeWho v_keptAt v_isWriting)), ((q 1), .inl (gI g, 6, .inl v_most)), ((q 2), .inl (gI g, 6, .inl v_beetle)), ((q 3), .inl (gI g, 6, .inl v_points)), ((q 4), .inl (gI g, 6, .inl v_isIn)), ((q 8), .inl (gI g, 60, .inl v_act)), ((q 9), .inl (gI g, 60, .inl v_much))] := hD
  refine lv_aload_n hx hb dX12_goGames_6 rfl (lv_at hl 0 rfl) ?_
  refine lv_bipush (v := -6) hx hb dX12_goGames_7 (by decide) ?_
  refine va_put (D := gD g) (ci := 10) (v := .int (-6 : Int32)) (ty := .int) (C := RX12) (T := TX12) (N := 30) hx hb hts iX12 tyX12 tyX12_ok nmX12 hown hK hP hD hS 0 rfl rfl 18 (by decide) (hts (.fieldLink RX12 175 "BeetleDriveModel" "badWhy" "I") (List.mem_of_getElem? (i := 2) rfl)) (fun _ h9 => h9) rfl (tyX12_ok 18 (by decide)) rfl rfl (Nat.le_of_ble_eq_true rfl) dX12_goGames_9 (fun H locs hP hD hS => ?_)
  have hP : va_P (gD g) vwCl [((q 0), .inr (10, oX12 q v_holder v_games v_sights v_padMany v_acts v_nothings v_wholeNow (-6 : Int32) (-6 : Int32) v_wholeAct v_wholeWho v_keptAt v_isWriting)), ((q 1), .inl (gI g, 6, .inl v_most)), ((q 2), .inl (gI g, 6, .inl v_beetle)), ((q 3), .inl (gI g, 6, .inl v_points)), ((q 4), .inl (gI g, 6, .inl v_isIn)), ((q 8), .inl (gI g, 60, .inl v_act)), ((q 9), .inl (gI g, 60, .inl v_much))] H := hP
  have hD : va_D A [((q 0), .inr (10, oX12 q v_holder v_games v_sights v_padMany v_acts v_nothings v_wholeNow (-6 : Int32) (-6 : Int32) v_wholeAct v_wholeWho v_keptAt v_isWriting)), ((q 1), .inl (gI g, 6, .inl v_most)), ((q 2), .inl (gI g, 6, .inl v_beetle)), ((q 3), .inl (gI g, 6, .inl v_points)), ((q 4), .inl (gI g, 6, .inl v_isIn)), ((q 8), .inl (gI g, 60, .inl v_act)), ((q 9), .inl (gI g, 60, .inl v_much))] := hD
  refine lv_aload_n hx hb dX12_goGames_12 rfl (lv_at hl 0 rfl) ?_
  refine lv_bipush (v := -6) hx hb dX12_goGames_13 (by decide) ?_
  refine va_put (D := gD g) (ci := 10) (v := .int (-6 : Int32)) (ty := .int) (C := RX12) (T := TX12) (N := 30) hx hb hts iX12 tyX12 tyX12_ok nmX12 hown hK hP hD hS 0 rfl rfl 19 (by decide) (hts (.fieldLink RX12 166 "BeetleDriveModel" "wholeAct" "I") (List.mem_of_getElem? (i := 3) rfl)) (fun _ h9 => h9) rfl (tyX12_ok 19 (by decide)) rfl rfl (Nat.le_of_ble_eq_true rfl) dX12_goGames_15 (fun H locs hP hD hS => ?_)
  have hP : va_P (gD g) vwCl [((q 0), .inr (10, oX12 q v_holder v_games v_sights v_padMany v_acts v_nothings v_wholeNow (-6 : Int32) (-6 : Int32) (-6 : Int32) v_wholeWho v_keptAt v_isWriting)), ((q 1), .inl (gI g, 6, .inl v_most)), ((q 2), .inl (gI g, 6, .inl v_beetle)), ((q 3), .inl (gI g, 6, .inl v_points)), ((q 4), .inl (gI g, 6, .inl v_isIn)), ((q 8), .inl (gI g, 60, .inl v_act)), ((q 9), .inl (gI g, 60, .inl v_much))] H := hP
  have hD : va_D A [((q 0), .inr (10, oX12 q v_holder v_games v_sights v_padMany v_acts v_nothings v_wholeNow (-6 : Int32) (-6 : Int32) (-6 : Int32) v_wholeWho v_keptAt v_isWriting)), ((q 1), .inl (gI g, 6, .inl v_most)), ((q 2), .inl (gI g, 6, .inl v_beetle)), ((q 3), .inl (gI g, 6, .inl v_points)), ((q 4), .inl (gI g, 6, .inl v_isIn)), ((q 8), .inl (gI g, 60, .inl v_act)), ((q 9), .inl (gI g, 60, .inl v_much))] := hD
  refine lv_aload_n hx hb dX12_goGames_18 rfl (lv_at hl 0 rfl) ?_
  refine lv_bipush (v := -6) hx hb dX12_goGames_19 (by decide) ?_
  refine va_put (D := gD g) (ci := 10) (v := .int (-6 : Int32)) (ty := .int) (C := RX12) (T := TX12) (N := 30) hx hb hts iX12 tyX12 tyX12_ok nmX12 hown hK hP hD hS 0 rfl rfl 20 (by decide) (hts (.fieldLink RX12 169 "BeetleDriveModel" "wholeWho" "I") (List.mem_of_getElem? (i := 4) rfl)) (fun _ h9 => h9) rfl (tyX12_ok 20 (by decide)) rfl rfl (Nat.le_of_ble_eq_true rfl) dX12_goGames_21 (fun H locs hP hD hS => ?_)
  have hP : va_P (gD g) vwCl [((q 0), .inr (10, oX12 q v_holder v_games v_sights v_padMany v_acts v_nothings v_wholeNow (-6 : Int32) (-6 : Int32) (-6 : Int32) (-6 : Int32) v_keptAt v_isWriting)), ((q 1), .inl (gI g, 6, .inl v_most)), ((q 2), .inl (gI g, 6, .inl v_beetle)), ((q 3), .inl (gI g, 6, .inl v_points)), ((q 4), .inl (gI g, 6, .inl v_isIn)), ((q 8), .inl (gI g, 60, .inl v_act)), ((q 9), .inl (gI g, 60, .inl v_much))] H := hP
  have hD : va_D A [((q 0), .inr (10, oX12 q v_holder v_games v_sights v_padMany v_acts v_nothings v_wholeNow (-6 : Int32) (-6 : Int32) (-6 : Int32) (-6 : Int32) v_keptAt v_isWriting)), ((q 1), .inl (gI g, 6, .inl v_most)), ((q 2), .inl (gI g, 6, .inl v_beetle)), ((q 3), .inl (gI g, 6, .inl v_points)), ((q 4), .inl (gI g, 6, .inl v_isIn)), ((q 8), .inl (gI g, 60, .inl v_act)), ((q 9), .inl (gI g, 60, .inl v_much))] := hD
  refine lv_aload_n hx hb dX12_goGames_24 rfl (lv_at hl 0 rfl) ?_
  refine lv_iconst (v := 0) hx hb dX12_goGames_25 (by decide) ?_
  refine va_put (D := gD g) (ci := 10) (v := .int (0 : Int32)) (ty := .int) (C := RX12) (T := TX12) (N := 30) hx hb hts iX12 tyX12 tyX12_ok nmX12 hown hK hP hD hS 0 rfl rfl 14 (by decide) (hts (.fieldLink RX12 134 "BeetleDriveModel" "nothings" "I") (List.mem_of_getElem? (i := 5) rfl)) (fun _ h9 => h9) rfl (tyX12_ok 14 (by decide)) rfl rfl (Nat.le_of_ble_eq_true rfl) dX12_goGames_26 (fun H locs hP hD hS => ?_)
  have hP : va_P (gD g) vwCl [((q 0), .inr (10, oX12 q v_holder v_games v_sights v_padMany v_acts (0 : Int32) v_wholeNow (-6 : Int32) (-6 : Int32) (-6 : Int32) (-6 : Int32) v_keptAt v_isWriting)), ((q 1), .inl (gI g, 6, .inl v_most)), ((q 2), .inl (gI g, 6, .inl v_beetle)), ((q 3), .inl (gI g, 6, .inl v_points)), ((q 4), .inl (gI g, 6, .inl v_isIn)), ((q 8), .inl (gI g, 60, .inl v_act)), ((q 9), .inl (gI g, 60, .inl v_much))] H := hP
  have hD : va_D A [((q 0), .inr (10, oX12 q v_holder v_games v_sights v_padMany v_acts (0 : Int32) v_wholeNow (-6 : Int32) (-6 : Int32) (-6 : Int32) (-6 : Int32) v_keptAt v_isWriting)), ((q 1), .inl (gI g, 6, .inl v_most)), ((q 2), .inl (gI g, 6, .inl v_beetle)), ((q 3), .inl (gI g, 6, .inl v_points)), ((q 4), .inl (gI g, 6, .inl v_isIn)), ((q 8), .inl (gI g, 60, .inl v_act)), ((q 9), .inl (gI g, 60, .inl v_much))] := hD
  refine lv_iconst (v := 0) hx hb dX12_goGames_29 (by decide) ?_
  refine lv_istore_n (lv' := [(1, .int (0 : Int32)), (0, .ref (q 0))]) hx hb dX12_goGames_30 rfl hl (by decide) rfl (fun ls hl => ?_)
  exact w_31 FU (0 : Int32) v_beetle v_points v_isIn v_holder v_games (0 : Int32) v_wholeNow (-6 : Int32) (-6 : Int32) (-6 : Int32) (-6 : Int32) hf H locs hP hD hS ls (lv_sub hl [1, 0] rfl)
set_option maxHeartbeats 4000000 in
set_option maxRecDepth 100000 in
theorem c_X12_refusal (l : Launch) (g : bG) (q : Nat → Nat) (v_holder : Int32) (v_games : Int32) (v_sights : Int32) (v_padMany : Int32) (v_acts : Int32) (v_nothings : Int32) (v_wholeNow : Int32) (v_badAct : Int32) (v_badWhy : Int32) (v_wholeAct : Int32) (v_wholeWho : Int32) (v_keptAt : Int32) (v_isWriting : Int32) (v_most : Nat → Int32) (v_beetle : Nat → Int32) (v_points : Nat → Int32) (v_isIn : Nat → Int32) (v_pad : Nat → Int32) (v_act : Nat → Int32) (v_much : Nat → Int32) (v_had : Nat → Int32) (out : Int32 × (Nat → Int32) × (Nat → Int32) × (Nat → Int32) × Int32 × Int32 × (Nat → Int32) × (Nat → Int32) × Int32 × Int32 × Int32 × (Nat → Int32) × Int32 × Int32 × Int32 × Int32) (hf : f_X12_refusal v_most v_beetle v_points v_isIn v_holder v_games v_pad v_padMany v_act v_much v_acts v_nothings v_wholeNow v_had v_badAct v_badWhy v_wholeAct v_wholeWho = some out) : Mi l g yX12_refusal wsX12_refusal ({ frames := 7, cells := 0, slots := 0, locals := 152 } : Room) [.ref (q 0)] [((q 0), .inr (10, oX12 q v_holder v_games v_sights v_padMany v_acts v_nothings v_wholeNow v_badAct v_badWhy v_wholeAct v_wholeWho v_keptAt v_isWriting)), ((q 1), .inl (gI g, 6, .inl v_most)), ((q 2), .inl (gI g, 6, .inl v_beetle)), ((q 3), .inl (gI g, 6, .inl v_points)), ((q 4), .inl (gI g, 6, .inl v_isIn)), ((q 7), .inl (gI g, 60, .inl v_pad)), ((q 8), .inl (gI g, 60, .inl v_act)), ((q 9), .inl (gI g, 60, .inl v_much)), ((q 10), .inl (gI g, 20, .inl v_had))] out.1 [((q 0), .inr (10, oX12 q out.2.2.2.2.1 out.2.2.2.2.2.1 v_sights v_padMany out.2.2.2.2.2.2.2.2.1 out.2.2.2.2.2.2.2.2.2.1 out.2.2.2.2.2.2.2.2.2.2.1 out.2.2.2.2.2.2.2.2.2.2.2.2.1 out.2.2.2.2.2.2.2.2.2.2.2.2.2.1 out.2.2.2.2.2.2.2.2.2.2.2.2.2.2.1 out.2.2.2.2.2.2.2.2.2.2.2.2.2.2.2 v_keptAt v_isWriting)), ((q 1), .inl (gI g, 6, .inl v_most)), ((q 2), .inl (gI g, 6, .inl out.2.1)), ((q 3), .inl (gI g, 6, .inl out.2.2.1)), ((q 4), .inl (gI g, 6, .inl out.2.2.2.1)), ((q 7), .inl (gI g, 60, .inl v_pad)), ((q 8), .inl (gI g, 60, .inl out.2.2.2.2.2.2.1)), ((q 9), .inl (gI g, 60, .inl out.2.2.2.2.2.2.2.1)), ((q 10), .inl (gI g, 20, .inl out.2.2.2.2.2.2.2.2.2.2.2.1))] := by
  refine ofM (Qc := fun A => Qi g out.1 [((q 0), .inr (10, oX12 q out.2.2.2.2.1 out.2.2.2.2.2.1 v_sights v_padMany out.2.2.2.2.2.2.2.2.1 out.2.2.2.2.2.2.2.2.2.1 out.2.2.2.2.2.2.2.2.2.2.1 out.2.2.2.2.2.2.2.2.2.2.2.2.1 out.2.2.2.2.2.2.2.2.2.2.2.2.2.1 out.2.2.2.2.2.2.2.2.2.2.2.2.2.2.1 out.2.2.2.2.2.2.2.2.2.2.2.2.2.2.2 v_keptAt v_isWriting)), ((q 1), .inl (gI g, 6, .inl v_most)), ((q 2), .inl (gI g, 6, .inl out.2.1)), ((q 3), .inl (gI g, 6, .inl out.2.2.1)), ((q 4), .inl (gI g, 6, .inl out.2.2.2.1)), ((q 7), .inl (gI g, 60, .inl v_pad)), ((q 8), .inl (gI g, 60, .inl out.2.2.2.2.2.2.1)), ((q 9), .inl (gI g, 60, .inl out.2.2.2.2.2.2.2.1)), ((q 10), .inl (gI g, 20, .inl out.2.2.2.2.2.2.2.2.2.2.2.1))] A) (cc := cX12_refusal) (nL := 1) (ret := some .int) (by decide) rfl (Nat.le_of_ble_eq_true rfl) ?_
  intro p e s m below meth c ar A hC hA hP hD hG ls hl
  have hS : va_S A s.heap s.heap [] := va_S.rf
  obtain ⟨hx, hb, hml, hown, hts, hr, hlk, -⟩ := hC
  have hl : lv_has ls 1 [(0, .ref (q 0))] := hl
  have hK := hG.1
  have iX12 : ∀ w ∈ u_ws RX12 TX12 30, w ∈ wsX12_refusal := fun w h => List.mem_cons_of_mem _ (List.mem_append_right _ (h))
  generalize hQ : MQ below (Qi g out.1 [((q 0), .inr (10, oX12 q out.2.2.2.2.1 out.2.2.2.2.2.1 v_sights v_padMany out.2.2.2.2.2.2.2.2.1 out.2.2.2.2.2.2.2.2.2.1 out.2.2.2.2.2.2.2.2.2.2.1 out.2.2.2.2.2.2.2.2.2.2.2.2.1 out.2.2.2.2.2.2.2.2.2.2.2.2.2.1 out.2.2.2.2.2.2.2.2.2.2.2.2.2.2.1 out.2.2.2.2.2.2.2.2.2.2.2.2.2.2.2 v_keptAt v_isWriting)), ((q 1), .inl (gI g, 6, .inl v_most)), ((q 2), .inl (gI g, 6, .inl out.2.1)), ((q 3), .inl (gI g, 6, .inl out.2.2.1)), ((q 4), .inl (gI g, 6, .inl out.2.2.2.1)), ((q 7), .inl (gI g, 60, .inl v_pad)), ((q 8), .inl (gI g, 60, .inl out.2.2.2.2.2.2.1)), ((q 9), .inl (gI g, 60, .inl out.2.2.2.2.2.2.2.1)), ((q 10), .inl (gI g, 20, .inl out.2.2.2.2.2.2.2.2.2.2.2.1))] A) ar s 0 0 A = QQ
  unfold f_X12_refusal at hf
  refine lv_aload_n hx hb dX12_refusal_0 rfl (lv_at hl 0 rfl) ?_
  obtain ⟨z1, hq2, hf⟩ := bnd_some hf
  refine kM_v (wc := [((q 0), .inr (10, oX12 q v_holder v_games v_sights v_padMany v_acts v_nothings v_wholeNow v_badAct v_badWhy v_wholeAct v_wholeWho v_keptAt v_isWriting)), ((q 2), .inl (gI g, 6, .inl v_beetle)), ((q 3), .inl (gI g, 6, .inl v_points)), ((q 4), .inl (gI g, 6, .inl v_isIn)), ((q 10), .inl (gI g, 20, .inl v_had))]) (wr := [((q 1), .inl (gI g, 6, .inl v_most)), ((q 7), .inl (gI g, 60, .inl v_pad)), ((q 8), .inl (gI g, 60, .inl v_act)), ((q 9), .inl (gI g, 60, .inl v_much))]) (w1 := [((q 0), .inr (10, oX12 q v_holder v_games v_sights v_padMany v_acts v_nothings v_wholeNow v_badAct v_badWhy v_wholeAct v_wholeWho v_keptAt v_isWriting)), ((q 2), .inl (gI g, 6, .inl v_beetle)), ((q 3), .inl (gI g, 6, .inl v_points)), ((q 4), .inl (gI g, 6, .inl v_isIn)), ((q 10), .inl (gI g, 20, .inl z1))]) (w2 := [((q 0), .inr (10, oX12 q v_holder v_games v_sights v_padMany v_acts v_nothings v_wholeNow v_badAct v_badWhy v_wholeAct v_wholeWho v_keptAt v_isWriting)), ((q 1), .inl (gI g, 6, .inl v_most)), ((q 2), .inl (gI g, 6, .inl v_beetle)), ((q 3), .inl (gI g, 6, .inl v_points)), ((q 4), .inl (gI g, 6, .inl v_isIn)), ((q 7), .inl (gI g, 60, .inl v_pad)), ((q 8), .inl (gI g, 60, .inl v_act)), ((q 9), .inl (gI g, 60, .inl v_much)), ((q 10), .inl (gI g, 20, .inl z1))]) (va_runV (As := []) (rest := []) ⟨hx, hb, hml, hown, hts⟩ (c_X12_keepNow l g q v_holder v_games v_sights v_padMany v_acts v_nothings v_wholeNow v_badAct v_badWhy v_wholeAct v_wholeWho v_keptAt v_isWriting v_beetle v_points v_isIn v_had z1 hq2 s.heap.size) (cwV 0 hts gX12_refusal_X12_keepNow rfl rfl rfl (by decide +kernel) ⟨Nat.le_of_ble_eq_true rfl, Nat.le_of_ble_eq_true rfl⟩) (kpV_M (q0 := 0) (ci := 10) hG hS hP hD hA [0, 2, 3, 4, 8] rfl (by decide) rfl rfl) rfl rfl hl.1 rfl (lv_room (Nat.le_of_ble_eq_true rfl)) dX12_refusal_1 ⟨Nat.le_of_ble_eq_true rfl, Nat.le_of_ble_eq_true rfl⟩) hP hD hS hA [0, 2, 3, 4, 8] [1, 5, 6, 7] [4, 0, 5, 6, 7, 1, 2, 3, 8] rfl rfl (by decide) (by decide) rfl (by decide) (fun H locs hP hD hS => ?_)
  refine lv_aload_n hx hb dX12_refusal_4 rfl (lv_at hl 0 rfl) ?_
  obtain ⟨z3, hq4, hf⟩ := bnd_some hf
  refine kM_i (wc := [((q 0), .inr (10, oX12 q v_holder v_games v_sights v_padMany v_acts v_nothings v_wholeNow v_badAct v_badWhy v_wholeAct v_wholeWho v_keptAt v_isWriting)), ((q 7), .inl (gI g, 60, .inl v_pad)), ((q 8), .inl (gI g, 60, .inl v_act)), ((q 9), .inl (gI g, 60, .inl v_much))]) (wr := [((q 1), .inl (gI g, 6, .inl v_most)), ((q 2), .inl (gI g, 6, .inl v_beetle)), ((q 3), .inl (gI g, 6, .inl v_points)), ((q 4), .inl (gI g, 6, .inl v_isIn)), ((q 10), .inl (gI g, 20, .inl z1))]) (w1 := [((q 0), .inr (10, oX12 q v_holder v_games v_sights v_padMany z3.2.2.2 v_nothings v_wholeNow v_badAct v_badWhy v_wholeAct v_wholeWho v_keptAt v_isWriting)), ((q 7), .inl (gI g, 60, .inl v_pad)), ((q 8), .inl (gI g, 60, .inl z3.2.1)), ((q 9), .inl (gI g, 60, .inl z3.2.2.1))]) (w2 := [((q 0), .inr (10, oX12 q v_holder v_games v_sights v_padMany z3.2.2.2 v_nothings v_wholeNow v_badAct v_badWhy v_wholeAct v_wholeWho v_keptAt v_isWriting)), ((q 1), .inl (gI g, 6, .inl v_most)), ((q 2), .inl (gI g, 6, .inl v_beetle)), ((q 3), .inl (gI g, 6, .inl v_points)), ((q 4), .inl (gI g, 6, .inl v_isIn)), ((q 7), .inl (gI g, 60, .inl v_pad)), ((q 8), .inl (gI g, 60, .inl z3.2.1)), ((q 9), .inl (gI g, 60, .inl z3.2.2.1)), ((q 10), .inl (gI g, 20, .inl z1))]) (va_runV (As := []) (rest := []) ⟨hx, hb, hml, hown, hts⟩ (c_X12_fault l g q v_holder v_games v_sights v_padMany v_acts v_nothings v_wholeNow v_badAct v_badWhy v_wholeAct v_wholeWho v_keptAt v_isWriting v_pad v_act v_much z3 hq4 H.size) (cwV 0 hts gX12_refusal_X12_fault rfl rfl rfl (by decide +kernel) ⟨Nat.le_of_ble_eq_true rfl, Nat.le_of_ble_eq_true rfl⟩) (kpV_M (q0 := 0) (ci := 10) hG hS hP hD hA [0, 5, 6, 7] rfl (by decide) rfl rfl) rfl rfl hl.1 rfl (lv_room (Nat.le_of_ble_eq_true rfl)) dX12_refusal_5 ⟨Nat.le_of_ble_eq_true rfl, Nat.le_of_ble_eq_true rfl⟩) hP hD hS hA [0, 5, 6, 7] [1, 2, 3, 4, 8] [5, 0, 1, 2, 3, 6, 7, 8, 4] rfl rfl (by decide) (by decide) rfl (by decide) (fun H locs hP hD hS => ?_)
  refine lv_if_lt (tgt := 14) hx hb dX12_refusal_8 (by decide) (fun c5 => ?_) (fun c5 => ?_)
  · replace hf := ift c5 hf
    refine lv_aload_n hx hb dX12_refusal_14 rfl (lv_at hl 0 rfl) ?_
    obtain ⟨z6, hq7, hf⟩ := bnd_some hf
    refine kM_v (wc := [((q 0), .inr (10, oX12 q v_holder v_games v_sights v_padMany z3.2.2.2 v_nothings v_wholeNow v_badAct v_badWhy v_wholeAct v_wholeWho v_keptAt v_isWriting)), ((q 1), .inl (gI g, 6, .inl v_most)), ((q 2), .inl (gI g, 6, .inl v_beetle)), ((q 3), .inl (gI g, 6, .inl v_points)), ((q 4), .inl (gI g, 6, .inl v_isIn)), ((q 8), .inl (gI g, 60, .inl z3.2.1)), ((q 9), .inl (gI g, 60, .inl z3.2.2.1))]) (wr := [((q 7), .inl (gI g, 60, .inl v_pad)), ((q 10), .inl (gI g, 20, .inl z1))]) (w1 := [((q 0), .inr (10, oX12 q z6.2.2.2.1 z6.2.2.2.2.1 v_sights v_padMany z3.2.2.2 z6.2.2.2.2.2.1 z6.2.2.2.2.2.2.1 z6.2.2.2.2.2.2.2.1 z6.2.2.2.2.2.2.2.2.1 z6.2.2.2.2.2.2.2.2.2.1 z6.2.2.2.2.2.2.2.2.2.2 v_keptAt v_isWriting)), ((q 1), .inl (gI g, 6, .inl v_most)), ((q 2), .inl (gI g, 6, .inl z6.1)), ((q 3), .inl (gI g, 6, .inl z6.2.1)), ((q 4), .inl (gI g, 6, .inl z6.2.2.1)), ((q 8), .inl (gI g, 60, .inl z3.2.1)), ((q 9), .inl (gI g, 60, .inl z3.2.2.1))]) (w2 := [((q 0), .inr (10, oX12 q z6.2.2.2.1 z6.2.2.2.2.1 v_sights v_padMany z3.2.2.2 z6.2.2.2.2.2.1 z6.2.2.2.2.2.2.1 z6.2.2.2.2.2.2.2.1 z6.2.2.2.2.2.2.2.2.1 z6.2.2.2.2.2.2.2.2.2.1 z6.2.2.2.2.2.2.2.2.2.2 v_keptAt v_isWriting)), ((q 1), .inl (gI g, 6, .inl v_most)), ((q 2), .inl (gI g, 6, .inl z6.1)), ((q 3), .inl (gI g, 6, .inl z6.2.1)), ((q 4), .inl (gI g, 6, .inl z6.2.2.1)), ((q 7), .inl (gI g, 60, .inl v_pad)), ((q 8), .inl (gI g, 60, .inl z3.2.1)), ((q 9), .inl (gI g, 60, .inl z3.2.2.1)), ((q 10), .inl (gI g, 20, .inl z1))]) (va_runV (As := []) (rest := []) ⟨hx, hb, hml, hown, hts⟩ (c_X12_goGames l g q v_holder v_games v_sights v_padMany z3.2.2.2 v_nothings v_wholeNow v_badAct v_badWhy v_wholeAct v_wholeWho v_keptAt v_isWriting v_most v_beetle v_points v_isIn z3.2.1 z3.2.2.1 z6 hq7 H.size) (cwV 0 hts gX12_refusal_X12_goGames rfl rfl rfl (by decide +kernel) ⟨Nat.le_of_ble_eq_true rfl, Nat.le_of_ble_eq_true rfl⟩) (kpV_M (q0 := 0) (ci := 10) hG hS hP hD hA [0, 1, 2, 3, 4, 6, 7] rfl (by decide) rfl rfl) rfl rfl hl.1 rfl (lv_room (Nat.le_of_ble_eq_true rfl)) dX12_refusal_15 ⟨Nat.le_of_ble_eq_true rfl, Nat.le_of_ble_eq_true rfl⟩) hP hD hS hA [0, 1, 2, 3, 4, 6, 7] [5, 8] [2, 3, 4, 5, 6, 0, 7, 8, 1] rfl rfl (by decide) (by decide) rfl (by decide) (fun H locs hP hD hS => ?_)
    refine lv_aload_n hx hb dX12_refusal_18 rfl (lv_at hl 0 rfl) ?_
    refine va_get (D := gD g) (ci := 10) (v := .int z6.2.2.2.2.2.2.2.1) (C := RX12) (T := TX12) (N := 30) hx hb hts iX12 hown hK hP 0 rfl rfl 17 (by decide) (hts (.fieldLink RX12 172 "BeetleDriveModel" "badAct" "I") (List.mem_of_getElem? (i := 1) rfl)) (fun _ h9 => h9) rfl dX12_refusal_19 ?_
    refine lv_if_lt (tgt := 30) hx hb dX12_refusal_22 (by decide) (fun c8 => ?_) (fun c8 => ?_)
    · replace hf := ift c8 hf
      refine lv_bipush (v := -6) hx hb dX12_refusal_30 (by decide) ?_
      rw [← hQ, ← Option.some.inj hf]
      exact eM_i hx hb hr hlk hP hD hS rfl dX12_refusal_32
    · replace hf := iff_ c8 hf
      refine lv_bipush (v := -3) hx hb dX12_refusal_25 (by decide) ?_
      refine lv_goto (tgt := 32) hx hb dX12_refusal_27 (by decide) ?_
      rw [← hQ, ← Option.some.inj hf]
      exact eM_i hx hb hr hlk hP hD hS rfl dX12_refusal_32
  · replace hf := iff_ c5 hf
    refine lv_bipush (v := -5) hx hb dX12_refusal_11 (by decide) ?_
    rw [← hQ, ← Option.some.inj hf]
    exact eM_i hx hb hr hlk hP hD hS rfl dX12_refusal_13
