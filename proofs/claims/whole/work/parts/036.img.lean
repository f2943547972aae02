/-! imageAt, which answers a reference -/
set_option maxHeartbeats 4000000 in
set_option maxRecDepth 100000 in
theorem c_X11_imageAt_z (l : Launch) (g : bG) (q : Nat → Nat) (x1 : Int32) (hk : x1 = 0) : Rr l g yX11_imageAt wsX11_imageAt ({ frames := 0, cells := 0, slots := 0, locals := 0 } : Room) [.ref (q 0), .int x1] [((q 0), .inr (9, oX11 q))] (q 25) := by
  refine ofR (cc := cX11_imageAt) (nL := 2) (ret := some (.object "BeetleDrive$Image")) (by decide) rfl (Nat.le_of_ble_eq_true rfl) ?_
  intro p e s m below meth c ar hC hP hG ls hl
  obtain ⟨hx, hb, hml, hown, hts, hr, hlk, -⟩ := hC
  have hl : lv_has ls 2 [(0, .ref (q 0)), (1, .int x1)] := hl
  have hK := hG.1
  have iX11 : ∀ w ∈ u_ws RX11 TX11 10, w ∈ wsX11_imageAt := fun w h => List.mem_cons_of_mem _ (List.mem_append_right _ h)
  refine lv_iload_n hx hb dX11_imageAt_0 rfl (lv_at hl 1 rfl) ?_
  refine lv_if_ne (tgt := 11) hx hb dX11_imageAt_1 (by decide) (fun c1 => ?_) (fun c1 => ?_)
  · exact absurd hk c1
  · skip
    refine lv_aload_n hx hb dX11_imageAt_4 rfl (lv_at hl 0 rfl) ?_
    refine va_get (D := gD g) (ci := 9) (v := .ref (q 25)) (C := RX11) (T := TX11) (N := 10) hx hb hts iX11 hown hK hP 0 rfl rfl 8 (by decide) (hts (.fieldLink RX11 68 "BeetleDrive" "imageZero" "LBeetleDrive$Image;") (List.mem_of_getElem? (i := 1) rfl)) (fun _ h9 => h9) rfl dX11_imageAt_5 ?_
    refine lv_goto (tgt := 15) hx hb dX11_imageAt_8 (by decide) ?_
    exact eR_r hx hb hr hlk dX11_imageAt_15
set_option maxHeartbeats 4000000 in
set_option maxRecDepth 100000 in
theorem c_X11_imageAt_o (l : Launch) (g : bG) (q : Nat → Nat) (x1 : Int32) (hk : ¬ x1 = 0) : Rr l g yX11_imageAt wsX11_imageAt ({ frames := 0, cells := 0, slots := 0, locals := 0 } : Room) [.ref (q 0), .int x1] [((q 0), .inr (9, oX11 q))] (q 32) := by
  refine ofR (cc := cX11_imageAt) (nL := 2) (ret := some (.object "BeetleDrive$Image")) (by decide) rfl (Nat.le_of_ble_eq_true rfl) ?_
  intro p e s m below meth c ar hC hP hG ls hl
  obtain ⟨hx, hb, hml, hown, hts, hr, hlk, -⟩ := hC
  have hl : lv_has ls 2 [(0, .ref (q 0)), (1, .int x1)] := hl
  have hK := hG.1
  have iX11 : ∀ w ∈ u_ws RX11 TX11 10, w ∈ wsX11_imageAt := fun w h => List.mem_cons_of_mem _ (List.mem_append_right _ h)
  refine lv_iload_n hx hb dX11_imageAt_0 rfl (lv_at hl 1 rfl) ?_
  refine lv_if_ne (tgt := 11) hx hb dX11_imageAt_1 (by decide) (fun c1 => ?_) (fun c1 => ?_)
  · skip
    refine lv_aload_n hx hb dX11_imageAt_11 rfl (lv_at hl 0 rfl) ?_
    refine va_get (D := gD g) (ci := 9) (v := .ref (q 32)) (C := RX11) (T := TX11) (N := 10) hx hb hts iX11 hown hK hP 0 rfl rfl 9 (by decide) (hts (.fieldLink RX11 72 "BeetleDrive" "imageOne" "LBeetleDrive$Image;") (List.mem_of_getElem? (i := 2) rfl)) (fun _ h9 => h9) rfl dX11_imageAt_12 ?_
    exact eR_r hx hb hr hlk dX11_imageAt_15
  · exact absurd c1 hk
