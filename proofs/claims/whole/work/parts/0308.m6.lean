/-! ===== pure part 6: image, restore ===== -/
theorem TabR.congr {ib ho ga : Int32} {d p b pt inn d2 p2 b2 pt2 inn2 : Nat → Int32} {ho' ga' ho2 ga2 : Int32} (h : TabR ib ho ga d p b pt inn ho' ga') (e1 : ∀ k, k < 6 → d2 k = d k) (e2 : ∀ k, k < 6 → p2 k = p k) (e3 : ∀ k, k < 6 → b2 k = b k) (e4 : ∀ k, k < 6 → pt2 k = pt k) (e5 : ∀ k, k < 6 → inn2 k = inn k) (e6 : ho2 = ho') (e7 : ga2 = ga') : TabR ib ho ga d2 p2 b2 pt2 inn2 ho2 ga2 := by
  obtain ⟨h1, h2, h3, h4, h5, h6⟩ := h
  subst e6; subst e7
  exact ⟨fun k hk => by rw [e1 k hk, e3 k hk]; exact h1 k hk, fun k hk => by rw [e2 k hk, e4 k hk]; exact h2 k hk, fun k hk => by rw [e5 k hk]; exact h3 k hk, h4, h5, h6⟩
theorem SigR.congr {n n' n2 : Int32} {a b c d a2 b2 c2 d2 : Nat → Int32} (h : SigR n a b c d n') (e1 : ∀ k, k < 8 → a2 k = a k) (e2 : ∀ k, k < 8 → b2 k = b k) (e3 : ∀ k, k < 8 → c2 k = c k) (e4 : ∀ k, k < 8 → d2 k = d k) (e5 : n2 = n') : SigR n a2 b2 c2 d2 n2 := by
  obtain ⟨h1, h2, h3, w, hw, hn, hr⟩ := h
  subst e5
  exact ⟨fun k hk => by rw [e1 k hk, e3 k hk]; exact h1 k hk, fun k hk => by rw [e2 k hk, e4 k hk]; exact h2 k hk, h3, w, hw, hn, fun k hk => by rw [e1 k (by omega)]; exact hr k hk⟩
theorem ImgR.congr {kept ib ho ga n isK isK2 : Int32} {d p r t kp kp2 : Nat → Int32} {base : Nat} (h : ImgR kept ib ho ga d p n r t kp base isK) (e : ∀ k, k < 37 → kp2 (base + k) = kp (base + k)) (e2 : isK2 = isK) : ImgR kept ib ho ga d p n r t kp2 base isK2 := by
  obtain ⟨h1, h2⟩ := h
  refine ⟨by rw [e2]; exact h1, h2.imp id (fun ⟨q0, q1, q2⟩ => ⟨q0, ?_, ?_⟩)⟩
  · exact q1.congr (fun _ _ => rfl) (fun _ _ => rfl) (fun k hk => by have := e (3 + k) (by omega); rwa [← Nat.add_assoc] at this) (fun k hk => by have := e (9 + k) (by omega); rwa [← Nat.add_assoc] at this) (fun k hk => by have := e (15 + k) (by omega); rwa [← Nat.add_assoc] at this) (e 0 (by omega)) (e 1 (by omega))
  · exact q2.congr (fun _ _ => rfl) (fun _ _ => rfl) (fun k hk => by have := e (21 + k) (by omega); rwa [← Nat.add_assoc] at this) (fun k hk => by have := e (29 + k) (by omega); rwa [← Nat.add_assoc] at this) (e 2 (by omega))
theorem m_keep (d0 p0 r0 t0 d p r t : Nat → Int32) (ib0 ho0 ga0 n0 k0 ib ho ga n : Int32) : f_X3_keep d0 p0 ib0 ho0 ga0 r0 t0 n0 k0 d p ib ho ga r t n = some (cp 6 d d0, cp 6 p p0, ib, ho, ga, cp 8 r r0, cp 8 t t0, n, 1) := by
  unfold f_X3_keep
  rw [m_copyT, Option.bind_some, m_copyS, Option.bind_some]
theorem ImgR.made {ib ho ga n : Int32} {d p b pt inn r t r' t' d0 p0 r0 t0 kp : Nat → Int32} {ho' ga' n' : Int32} (hT : TabR ib ho ga d p b pt inn ho' ga') (hS : SigR n r t r' t' n') (a : Nat) : ImgR 1 ib ho ga (cp 6 d d0) (cp 6 p p0) n (cp 8 r r0) (cp 8 t t0) (imgW a b pt inn ho' ga' r' t' n' kp) a 1 := by
  obtain ⟨e1, e2, e3, e4, e5, e6, e7, e8⟩ := imgW_at (a := a) (b := b) (pt := pt) (inn := inn) (ho := ho') (ga := ga') (rw_ := r') (tp := t') (n := n') (kp := kp)
  exact ⟨rfl, Or.inr ⟨rfl, hT.congr (fun k hk => cp_lt hk) (fun k hk => cp_lt hk) e4 e5 e6 e1 e2, hS.congr (fun k hk => cp_lt hk) (fun k hk => cp_lt hk) e7 e8 e3⟩⟩
theorem m_image {ib ho ga n : Int32} {d p b pt inn r t r' t' : Nat → Int32} {ho' ga' n' : Int32} (hT : TabR ib ho ga d p b pt inn ho' ga') (hS : SigR n r t r' t' n') {k0 ib0 ho0 ga0 n0 k1 ib1 ho1 ga1 n1 : Int32} {d0 p0 r0 t0 d1 p1 r1 t1 kp isK : Nat → Int32} (h0 : ImgR k0 ib0 ho0 ga0 d0 p0 n0 r0 t0 kp 0 (isK 0)) (h1 : ImgR k1 ib1 ho1 ga1 d1 p1 n1 r1 t1 kp 80 (isK 1)) (ka iw x : Int32) :
    ∃ oc om, f_X11_image d p ib ho ga r t n d0 p0 ib0 ho0 ga0 r0 t0 n0 k0 d1 p1 ib1 ho1 ga1 r1 t1 n1 k1 x = some oc ∧ f_X12_image b pt inn ho' ga' r' t' n' kp isK ka iw x = some om ∧ oc.1 = om.1 ∧ TabR ib ho ga d p om.2.1 om.2.2.1 om.2.2.2.1 om.2.2.2.2.1 om.2.2.2.2.2.1 ∧ SigR n r t om.2.2.2.2.2.2.1 om.2.2.2.2.2.2.2.1 om.2.2.2.2.2.2.2.2.1 ∧
      ImgR oc.2.2.2.2.2.2.2.2.2.1 oc.2.2.2.1 oc.2.2.2.2.1 oc.2.2.2.2.2.1 oc.2.1 oc.2.2.1 oc.2.2.2.2.2.2.2.2.1 oc.2.2.2.2.2.2.1 oc.2.2.2.2.2.2.2.1 om.2.2.2.2.2.2.2.2.2.1 0 (om.2.2.2.2.2.2.2.2.2.2.1 0) ∧
      ImgR oc.2.2.2.2.2.2.2.2.2.2.2.2.2.2.2.2.2.2 oc.2.2.2.2.2.2.2.2.2.2.2.2.1 oc.2.2.2.2.2.2.2.2.2.2.2.2.2.1 oc.2.2.2.2.2.2.2.2.2.2.2.2.2.2.1 oc.2.2.2.2.2.2.2.2.2.2.1 oc.2.2.2.2.2.2.2.2.2.2.2.1 oc.2.2.2.2.2.2.2.2.2.2.2.2.2.2.2.2.2.1 oc.2.2.2.2.2.2.2.2.2.2.2.2.2.2.2.1 oc.2.2.2.2.2.2.2.2.2.2.2.2.2.2.2.2.1 om.2.2.2.2.2.2.2.2.2.1 80 (om.2.2.2.2.2.2.2.2.2.2.1 1) := by
  unfold f_X11_image f_X12_image
  rw [m_isWithin, m_in32 (a := 0) (b := 1) (lo := 0) (hi := 1) rfl rfl, Option.bind_some, Option.bind_some]
  by_cases hx : 0 ≤ x ∧ x ≤ 1
  · rw [if_pos hx, i10, i10]
    obtain ⟨j, hj, rfl⟩ := m_of (n := 1) (by decide) hx
    rcases (show j = 0 ∨ j = 1 by omega) with rfl | rfl
    · rw [show (80 : Int32) * nI 0 = nI 0 from by decide, m_allW (by omega), if_pos (by decide), m_keep, Option.bind_some, Option.bind_some, m_chk (by omega) (by omega), m_cl (by omega), show vp_nar .boolean 1 = 1 from rfl]
      refine ⟨_, _, rfl, rfl, rfl, hT, hS, ?_, ?_⟩
      · dsimp only
        rw [upd_at]
        exact ImgR.made hT hS 0
      · dsimp only
        exact h1.congr (fun k hk => imgW_out (by omega)) (upd_ne (by omega))
    · rw [show (80 : Int32) * nI 1 = nI 80 from by decide, m_allW (by omega), if_neg (by decide), m_keep, Option.bind_some, Option.bind_some, m_chk (by omega) (by omega), m_cl (by omega), show vp_nar .boolean 1 = 1 from rfl]
      refine ⟨_, _, rfl, rfl, rfl, hT, hS, ?_, ?_⟩
      · dsimp only
        exact h0.congr (fun k hk => imgW_out (by omega)) (upd_ne (by omega))
      · dsimp only
        rw [upd_at]
        exact ImgR.made hT hS 80
  · rw [if_neg hx, i00, i00]
    exact ⟨_, _, rfl, rfl, rfl, hT, hS, h0, h1⟩
theorem m_restore {ib ho ga n : Int32} {d p b pt inn r t r' t' : Nat → Int32} {ho' ga' n' : Int32} (hT : TabR ib ho ga d p b pt inn ho' ga') (hS : SigR n r t r' t' n') {k0 ib0 ho0 ga0 n0 k1 ib1 ho1 ga1 n1 : Int32} {d0 p0 r0 t0 d1 p1 r1 t1 kp isK : Nat → Int32} (h0 : ImgR k0 ib0 ho0 ga0 d0 p0 n0 r0 t0 kp 0 (isK 0)) (h1 : ImgR k1 ib1 ho1 ga1 d1 p1 n1 r1 t1 kp 80 (isK 1)) (ka iw x : Int32) :
    ∃ oc om, f_X11_restore d p ib ho ga r t n d0 p0 ib0 ho0 ga0 r0 t0 n0 k0 d1 p1 ib1 ho1 ga1 r1 t1 n1 k1 x = some oc ∧ f_X12_restore b pt inn ho' ga' r' t' n' kp isK ka iw x = some om ∧ oc.1 = om.1 ∧ TabR oc.2.2.2.1 oc.2.2.2.2.1 oc.2.2.2.2.2.1 oc.2.1 oc.2.2.1 om.2.1 om.2.2.1 om.2.2.2.1 om.2.2.2.2.1 om.2.2.2.2.2.1 ∧ SigR oc.2.2.2.2.2.2.2.2 oc.2.2.2.2.2.2.1 oc.2.2.2.2.2.2.2.1 om.2.2.2.2.2.2.1 om.2.2.2.2.2.2.2.1 om.2.2.2.2.2.2.2.2.1 ∧ om.2.2.2.2.2.2.2.2.2.1 = kp := by
  unfold f_X11_restore f_X12_restore
  rw [m_isWithin, m_in32 (a := 0) (b := 1) (lo := 0) (hi := 1) rfl rfl, Option.bind_some, Option.bind_some]
  by_cases hx : 0 ≤ x ∧ x ≤ 1
  · rw [if_pos hx, i10, i10]
    obtain ⟨j, hj, rfl⟩ := m_of (n := 1) (by decide) hx
    rcases (show j = 0 ∨ j = 1 by omega) with rfl | rfl
    · rw [m_chk (by omega) (by omega), m_cl (by omega), if_pos (show nI 0 = 0 by decide), show (80 : Int32) * nI 0 = nI 0 from by decide]
      obtain ⟨e, q | ⟨q, qT, qS⟩⟩ := h0
      · rw [← e, q, i00, i00]
        exact ⟨_, _, rfl, rfl, rfl, hT, hS, rfl⟩
      · rw [← e, q, i10, i10, m_copyT, Option.bind_some, m_copyS, Option.bind_some, m_allR (by omega), Option.bind_some]
        refine ⟨_, _, rfl, rfl, rfl, ?_, ?_, rfl⟩
        · dsimp only
          exact qT.congr (fun k hk => cp_lt hk) (fun k hk => cp_lt hk) (fun k hk => cp_lt hk) (fun k hk => cp_lt hk) (fun k hk => cp_lt hk) rfl rfl
        · dsimp only
          exact qS.congr (fun k hk => cp_lt hk) (fun k hk => cp_lt hk) (fun k hk => cp_lt hk) (fun k hk => cp_lt hk) rfl
    · rw [m_chk (by omega) (by omega), m_cl (by omega), if_neg (show ¬ nI 1 = 0 by decide), show (80 : Int32) * nI 1 = nI 80 from by decide]
      obtain ⟨e, q | ⟨q, qT, qS⟩⟩ := h1
      · rw [← e, q, i00, i00]
        exact ⟨_, _, rfl, rfl, rfl, hT, hS, rfl⟩
      · rw [← e, q, i10, i10, m_copyT, Option.bind_some, m_copyS, Option.bind_some, m_allR (by omega), Option.bind_some]
        refine ⟨_, _, rfl, rfl, rfl, ?_, ?_, rfl⟩
        · dsimp only
          exact qT.congr (fun k hk => cp_lt hk) (fun k hk => cp_lt hk) (fun k hk => cp_lt hk) (fun k hk => cp_lt hk) (fun k hk => cp_lt hk) rfl rfl
        · dsimp only
          exact qS.congr (fun k hk => cp_lt hk) (fun k hk => cp_lt hk) (fun k hk => cp_lt hk) (fun k hk => cp_lt hk) rfl
  · rw [if_neg hx, i00, i00]
    exact ⟨_, _, rfl, rfl, rfl, hT, hS, rfl⟩
