/-! ===== pure part 17: keepNow, back, refusal ===== -/
def HadR (had b pt inn : Nat → Int32) (ho ga : Int32) : Prop := (∀ k, k < 6 → had k = b k ∧ had (6 + k) = pt k ∧ had (12 + k) = inn k) ∧ had 18 = ho ∧ had 19 = ga
theorem m_keepNow_loop (b pt inn : Nat → Int32) (ho ga : Int32) (n : Nat) : ∀ j, j ≤ 6 → ∀ had, (∀ k, k < 6 - j → had k = b k ∧ had (6 + k) = pt k ∧ had (12 + k) = inn k) → ∃ had', f_X12_keepNow_b2 b pt inn ho ga (n + j + 1) (nI (6 - j)) had = some had' ∧ HadR had' b pt inn ho ga := by
  intro j
  induction j with
  | zero =>
    intro _ had h
    rw [f_X12_keepNow_b2_s, if_pos (show (6 : Int32) ≤ nI (6 - 0) by decide), show (18 : Int32) = nI 18 from rfl, show (19 : Int32) = nI 19 from rfl, m_chk (i := 18) (by omega) (by omega), m_chk (i := 19) (by omega) (by omega), m_cl (i := 18) (by omega), m_cl (i := 19) (by omega)]
    refine ⟨_, rfl, ?_, ?_, upd_at⟩
    · intro k hk
      obtain ⟨a1, a2, a3⟩ := h k hk
      rw [upd_ne (by omega), upd_ne (by omega), upd_ne (by omega), upd_ne (by omega), upd_ne (by omega), upd_ne (by omega)]
      exact ⟨a1, a2, a3⟩
    · rw [upd_ne (by omega), upd_at]
  | succ j ih =>
    intro hj had h
    rw [show n + (j + 1) + 1 = n + j + 1 + 1 by omega, f_X12_keepNow_b2_s, if_neg (by rw [l6, m_le (by omega) (by omega)]; omega), show (12 : Int32) = nI 12 from rfl, l6, nI_add, nI_add]
    simp (disch := omega) only [m_chk, m_cl]
    rw [nI_1, show 6 - (j + 1) + 1 = 6 - j by omega]
    refine ih (by omega) _ ?_
    intro k hk
    by_cases c : k = 6 - (j + 1)
    · subst c
      refine ⟨?_, ?_, upd_at⟩
      · rw [upd_ne (by omega), upd_ne (by omega), upd_at]
      · rw [upd_ne (by omega), upd_at]
    · obtain ⟨a1, a2, a3⟩ := h k (by omega)
      rw [upd_ne (by omega), upd_ne (by omega), upd_ne (by omega), upd_ne (by omega), upd_ne (by omega), upd_ne (by omega), upd_ne (by omega), upd_ne (by omega), upd_ne (by omega)]
      exact ⟨a1, a2, a3⟩
theorem m_keepNow (b pt inn : Nat → Int32) (ho ga : Int32) (had : Nat → Int32) : ∃ had', f_X12_keepNow b pt inn ho ga had = some had' ∧ HadR had' b pt inn ho ga :=
  m_keepNow_loop b pt inn ho ga 1017 6 (by omega) had (fun k hk => absurd hk (by omega))
theorem m_back_loop (b pt inn had : Nat → Int32) (ho ga x : Int32) (n : Nat) : ∀ j, j ≤ 6 → f_X12_back_b2 had (n + j + 1) x (nI (6 - j)) (cp (6 - j) had b) (cp (6 - j) (fun k => had (6 + k)) pt) (cp (6 - j) (fun k => had (12 + k)) inn) ho ga = some (x, cp 6 had b, cp 6 (fun k => had (6 + k)) pt, cp 6 (fun k => had (12 + k)) inn, had 18, had 19) := by
  intro j
  induction j with
  | zero =>
    intro _
    rw [f_X12_back_b2_s, if_pos (show (6 : Int32) ≤ nI (6 - 0) by decide), show (18 : Int32) = nI 18 from rfl, show (19 : Int32) = nI 19 from rfl, m_chk (i := 18) (by omega) (by omega), m_chk (i := 19) (by omega) (by omega), m_cl (i := 18) (by omega), m_cl (i := 19) (by omega)]
  | succ j ih =>
    intro hj
    rw [show n + (j + 1) + 1 = n + j + 1 + 1 by omega, f_X12_back_b2_s, if_neg (by rw [l6, m_le (by omega) (by omega)]; omega), show (12 : Int32) = nI 12 from rfl, l6, nI_add, nI_add]
    simp (disch := omega) only [m_chk, m_cl]
    have q2 := cp_s (6 - (j + 1)) (fun k => had (6 + k)) pt
    have q3 := cp_s (6 - (j + 1)) (fun k => had (12 + k)) inn
    rw [nI_1, cp_s, q2, q3, show 6 - (j + 1) + 1 = 6 - j by omega]
    exact ih (by omega)
theorem m_back (b pt inn had : Nat → Int32) (ho ga x : Int32) : f_X12_back b pt inn ho ga had x = some (x, cp 6 had b, cp 6 (fun k => had (6 + k)) pt, cp 6 (fun k => had (12 + k)) inn, had 18, had 19) := by
  have h := m_back_loop b pt inn had ho ga x 1017 6 (by omega)
  rw [show 6 - 6 = 0 from rfl, cp_0, cp_0, cp_0] at h
  exact h
theorem m_backT {ib ho ga : Int32} {d p b pt inn : Nat → Int32} {ho' ga' : Int32} (hT : TabR ib ho ga d p b pt inn ho' ga') {had : Nat → Int32} (hH : HadR had b pt inn ho' ga') (x y z : Nat → Int32) : TabR ib ho ga d p (cp 6 had x) (cp 6 (fun k => had (6 + k)) y) (cp 6 (fun k => had (12 + k)) z) (had 18) (had 19) := by
  obtain ⟨h1, h2, h3, h4, h5, h6⟩ := hT
  obtain ⟨g1, g2, g3⟩ := hH
  refine ⟨?_, ?_, ?_, by rw [h4, g2], by rw [h5, g3], h6⟩
  · intro k hk; rw [cp_lt hk, (g1 k hk).1, h1 k hk]
  · intro k hk; rw [cp_lt hk, (g1 k hk).2.1, h2 k hk]
  · intro k hk; rw [cp_lt hk, (g1 k hk).2.2, h3 k hk]
theorem m_copied {ib ho ga : Int32} {d p b pt inn : Nat → Int32} {ho' ga' : Int32} (hT : TabR ib ho ga d p b pt inn ho' ga') (x y : Nat → Int32) : TabR ib ho ga (cp 6 d x) (cp 6 p y) b pt inn ho' ga' := by
  obtain ⟨h1, h2, h3, h4, h5, h6⟩ := hT
  refine ⟨?_, ?_, h3, h4, h5, h6⟩
  · intro k hk; rw [cp_lt hk, h1 k hk]
  · intro k hk; rw [cp_lt hk, h2 k hk]
theorem m_refusal {ib ho ga : Int32} {d p b pt inn mo : Nat → Int32} {ho' ga' : Int32} (hT : TabR ib ho ga d p b pt inn ho' ga') {n n' : Int32} {sg pd : Nat → Int32} (hP : PadR n sg pd n') (hm : MostR mo)
    (td tp : Nat → Int32) (ti th tg ta ty tv tw tx : Int32) (act much : Nat → Int32) (acts no wn : Int32) (had : Nat → Int32) (bad bw wa ww : Int32) :
    ∃ rc d1 p1 ib1 ho1 ga1 ac1 why1 va1 wa1 ww1 rm b1 pt1 inn1 ho2 ga2 act1 much1 acts1 va2 wn2 had1 bad1 bw1 wa2 ww2,
      f_X4_playText td tp ti th tg ta ty tv tw tx sg n d p ib ho ga = some (rc, d1, p1, ib1, ho1, ga1, ac1, why1, va1, wa1, ww1) ∧
      f_X12_refusal mo b pt inn ho' ga' pd n' act much acts no wn had bad bw wa ww = some (rm, b1, pt1, inn1, ho2, ga2, act1, much1, acts1, va2, wn2, had1, bad1, bw1, wa2, ww2) ∧
      HadR had1 b pt inn ho' ga' ∧
      ((rc = -5 ∧ rm = -5) ∨ (rc = 0 ∧ rm = -6 ∧ TabR ib1 ho1 ga1 d1 p1 b1 pt1 inn1 ho2 ga2 ∧ va2 = va1 ∧ wa2 = wa1 ∧ ww2 = ww1 ∧ ac1 = acts1 ∧ bad1 = -6 ∧ bw1 = -6) ∨ (rc = -3 ∧ rm = -3 ∧ bad1 = ac1 ∧ bw1 = why1)) := by
  obtain ⟨r, act', much', N, sz, rfl, hsz, g1, g2, g3, g5⟩ := m_ff hP act much acts
  obtain ⟨had', k1, k2⟩ := m_keepNow b pt inn ho' ga' had
  unfold f_X4_playText f_X12_refusal f_X4_begin
  rw [k1, m_copyT, g1, g2]
  simp only [Option.bind_some]
  rcases g5 with ⟨rfl, hx⟩ | ⟨q, hq, rfl⟩
  · rw [if_pos (show (-6 : Int32) = -6 from rfl), if_pos (show (-6 : Int32) < 0 by decide)]
    have hTc := m_copied hT td tp
    have e1 := hT.2.2.2.1
    have e2 := hT.2.2.2.2.1
    subst e1 e2
    obtain ⟨res, d1, p1, ib1, ho1, ga1, ac1, why1, va1, wa1, ww1, b1, pt1, inn1, wn1, bad', bw', q1, q2, q3, q4⟩ := m_text_loop (q1 := d) (q2 := p) (q3 := ib) (q4 := ho) (q5 := ga) hsz hm g3 sz 0 0 0 (by omega) hx 1024 1024 (by omega) (by omega) (cp 6 d td) (cp 6 p tp) ib ho ga b pt inn 0 (-6) (-6) wn hTc (Or.inl rfl)
    have q1' : f_X4_playText_b22 sg (nI sz) d p ib ho ga FU 0 0 (cp 6 d td) (cp 6 p tp) ib ho ga 0 0 0 (-6) (-6) = _ := q1
    have q2' : f_X12_goGames mo b pt inn ho ga act' much' (nI N) no wn bad bw wa ww = _ := q2
    rw [q1', q2', Option.bind_some]
    rcases q4 with ⟨rfl, rfl, rfl, rfl, rfl⟩ | ⟨rfl, c, w, hc, w1, w4, rfl, rfl, rfl, rfl⟩
    · refine ⟨_, _, _, _, _, _, _, _, _, _, _, _, _, _, _, _, _, _, _, _, _, _, _, _, _, _, _, rfl, rfl, k2, Or.inr (Or.inl ⟨rfl, rfl, q3, rfl, rfl, rfl, rfl, rfl, rfl⟩)⟩
    · rw [if_neg (by exact m_nneg (show c < 2 ^ 31 by omega))]
      refine ⟨_, _, _, _, _, _, _, _, _, _, _, _, _, _, _, _, _, _, _, _, _, _, _, _, _, _, _, rfl, rfl, k2, Or.inr (Or.inr ⟨rfl, rfl, rfl, rfl⟩)⟩
  · rw [if_neg (m_ne6 (show q < 2 ^ 31 by omega)), if_neg (m_nneg (show q < 2 ^ 31 by omega))]
    exact ⟨_, _, _, _, _, _, _, _, _, _, _, _, _, _, _, _, _, _, _, _, _, _, _, _, _, _, _, rfl, rfl, k2, Or.inl ⟨rfl, rfl⟩⟩
