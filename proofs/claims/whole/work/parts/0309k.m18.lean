/-! ===== pure part 18: judge, behind, table, first, done ===== -/
theorem m_judge {ib ho ga : Int32} {d p b pt inn mo : Nat → Int32} {ho' ga' : Int32} (hT : TabR ib ho ga d p b pt inn ho' ga') {n n' : Int32} {sg pd : Nat → Int32} (hP : PadR n sg pd n') (hm : MostR mo)
    (td tp : Nat → Int32) (ti th tg ta ty tv tw tx : Int32) (act much : Nat → Int32) (acts no wn : Int32) (had : Nat → Int32) (bad bw wa ww : Int32) (x : Int32) : ∃ oc om, f_X11_judge d p ib ho ga sg n td tp ti th tg ta ty tv tw tx x = some oc ∧ f_X12_judge mo b pt inn ho' ga' pd n' act much acts no wn had bad bw wa ww x = some om ∧ oc.1 = om.1 ∧ TabR ib ho ga d p om.2.1 om.2.2.1 om.2.2.2.1 om.2.2.2.2.1 om.2.2.2.2.2.1 := by
  unfold f_X11_judge f_X12_judge
  rw [m_isWithin, m_in32 (a := 0) (b := 2) (lo := 0) (hi := 2) rfl rfl, Option.bind_some, Option.bind_some]
  by_cases c : 0 ≤ x ∧ x ≤ 2
  · rw [if_pos c, i10, i10]
    obtain ⟨j, hj, rfl⟩ := m_of (n := 2) rfl c
    obtain ⟨rc, d1, p1, ib1, ho1, ga1, ac1, why1, va1, wa1, ww1, rm, b1, pt1, inn1, ho2, ga2, act1, much1, acts1, va2, wn2, had1, bad1, bw1, wa2, ww2, q1, q2, hH, hc⟩ := m_refusal hT hP hm td tp ti th tg ta ty tv tw tx act much acts no wn had bad bw wa ww
    rw [q1, q2, Option.bind_some, Option.bind_some, m_back, Option.bind_some]
    have hB := m_backT hT hH b1 pt1 inn1
    unfold f_X12_judge_b43
    rcases (show j = 0 ∨ j = 1 ∨ j = 2 by omega) with rfl | rfl | rfl <;> rcases hc with ⟨rfl, rfl⟩ | ⟨rfl, rfl, _, rfl, rfl, rfl, rfl, rfl, rfl⟩ | ⟨rfl, rfl, rfl, rfl⟩ <;> exact ⟨_, _, rfl, rfl, rfl, hB⟩
  · rw [if_neg c, i00, i00]
    exact ⟨_, _, rfl, rfl, rfl, hT⟩
theorem m_behind {ib ho ga : Int32} {d p b pt inn mo : Nat → Int32} {ho' ga' : Int32} (hT : TabR ib ho ga d p b pt inn ho' ga') {n n' : Int32} {sg pd : Nat → Int32} (hP : PadR n sg pd n') (hm : MostR mo)
    (td tp : Nat → Int32) (ti th tg ta ty tv tw tx : Int32) (act much : Nat → Int32) (acts no wn : Int32) (had : Nat → Int32) (bad bw wa ww : Int32) (x y : Int32) : ∃ oc om, f_X11_behind d p ib ho ga sg n td tp ti th tg ta ty tv tw tx x y = some oc ∧ f_X12_behind mo b pt inn ho' ga' pd n' act much acts no wn had bad bw wa ww x y = some om ∧ oc.1 = om.1 ∧ TabR ib ho ga d p om.2.1 om.2.2.1 om.2.2.2.1 om.2.2.2.2.1 om.2.2.2.2.2.1 := by
  unfold f_X11_behind f_X12_behind
  rw [m_isPlayer, m_isPlayer', Option.bind_some, Option.bind_some]
  by_cases c : 0 ≤ x ∧ x ≤ 5
  · rw [if_pos c, i10, i10, m_isWithin, m_in32 (a := 0) (b := 3) (lo := 0) (hi := 3) rfl rfl, Option.bind_some, Option.bind_some]
    obtain ⟨i, hi, rfl⟩ := m_of (n := 5) rfl c
    by_cases c' : 0 ≤ y ∧ y ≤ 3
    · rw [if_pos c', i10, i10]
      obtain ⟨j, hj, rfl⟩ := m_of (n := 3) rfl c'
      obtain ⟨rc, d1, p1, ib1, ho1, ga1, ac1, why1, va1, wa1, ww1, rm, b1, pt1, inn1, ho2, ga2, act1, much1, acts1, va2, wn2, had1, bad1, bw1, wa2, ww2, q1, q2, hH, hc⟩ := m_refusal hT hP hm td tp ti th tg ta ty tv tw tx act much acts no wn had bad bw wa ww
      rw [q1, q2, Option.bind_some, Option.bind_some]
      have hB := m_backT hT hH b1 pt1 inn1
      rcases hc with ⟨rfl, rfl⟩ | ⟨rfl, rfl, hT1, rfl, rfl, rfl, rfl, rfl, rfl⟩ | ⟨rfl, rfl, rfl, rfl⟩
      · rw [if_neg (show ¬ (-5 : Int32) = -6 by decide), if_neg (show ¬ (-5 : Int32) = 0 by decide), m_back, Option.bind_some]
        exact ⟨_, _, rfl, rfl, rfl, hB⟩
      · rw [if_pos (show (-6 : Int32) = -6 from rfl), i00]
        unfold f_X12_ofPlayer
        obtain ⟨t1, t2, t3, _⟩ := hT1
        simp (disch := omega) only [m_chk, m_cl, m_back, m_parts, m_partsOf, m_isIn, Option.bind_some]
        rw [t1 i (by omega), t2 i (by omega)]
        rcases (show j = 0 ∨ j = 1 ∨ j = 2 ∨ j = 3 by omega) with rfl | rfl | rfl | rfl
        · exact ⟨_, _, rfl, rfl, rfl, hB⟩
        · exact ⟨_, _, rfl, rfl, rfl, hB⟩
        · rw [t3 i (by omega)]
          rcases bI_01 ib1 i with e | e
          · rw [e]; exact ⟨_, _, rfl, rfl, rfl, hB⟩
          · rw [e]; exact ⟨_, _, rfl, rfl, rfl, hB⟩
        · exact ⟨_, _, rfl, rfl, rfl, hB⟩
      · rw [if_neg (show ¬ (-3 : Int32) = -6 by decide), if_neg (show ¬ (-3 : Int32) = 0 by decide), m_back, Option.bind_some]
        exact ⟨_, _, rfl, rfl, rfl, hB⟩
    · rw [if_neg c', i00, i00]
      exact ⟨_, _, rfl, rfl, rfl, hT⟩
  · rw [if_neg c, i00, i00]
    exact ⟨_, _, rfl, rfl, rfl, hT⟩
theorem m_or0 (x : Int32) : x ||| 0 = x := by simp
theorem m_wholeOnes_loop {d b : Nat → Int32} (h : ∀ k, k < 6 → d k = b k) (n n' : Nat) : ∀ j, j ≤ 6 → ∀ x, ∃ r, f_X9_wholeOnes_b4 d (n + j + 1) x (nI (6 - j)) = some r ∧ f_X12_wholeOnes_b4 b (n' + j + 1) x (nI (6 - j)) = some r := by
  intro j
  induction j with
  | zero => intro _ x; exact ⟨x, rfl, rfl⟩
  | succ j ih =>
    intro hj x
    rw [show n + (j + 1) + 1 = n + j + 1 + 1 by omega, show n' + (j + 1) + 1 = n' + j + 1 + 1 by omega, f_X9_wholeOnes_b4_s, f_X12_wholeOnes_b4_s, if_neg (show ¬ (6 : Int32) ≤ nI (6 - (j + 1)) by rw [l6, m_le (by omega) (by omega)]; omega), if_neg (show ¬ (6 : Int32) ≤ nI (6 - (j + 1)) by rw [l6, m_le (by omega) (by omega)]; omega), m_isWhole _ (by omega), Option.bind_some, m_chk (by omega) (by omega), m_cl (by omega), h _ (by omega), nI_1, show 6 - (j + 1) + 1 = 6 - j by omega]
    by_cases c : b (6 - (j + 1)) = 111622
    · rw [if_pos c, if_pos c, i10]; exact ih (by omega) _
    · rw [if_neg c, if_neg c, i00, m_or0]; exact ih (by omega) _
theorem m_wholeOnes {d b : Nat → Int32} (h : ∀ k, k < 6 → d k = b k) : ∃ r, f_X9_wholeOnes d = some r ∧ f_X12_wholeOnes b = some r := m_wholeOnes_loop h 1017 1017 6 (by omega) 0
theorem m_worth (d p : Nat → Int32) {k : Nat} (h : k < 6) : f_X9_worth d p (nI k) = some (p k + ptsI (d k)) := by
  unfold f_X9_worth; rw [m_chk h (by omega), m_chk h (by omega), m_cl (by omega), m_parts]; rfl
theorem m_haveOf (d p : Nat → Int32) {k : Nat} (h : k < 6) : f_X12_haveOf d p (nI k) = some (p k + ptsI (d k)) := by
  unfold f_X12_haveOf; rw [m_chk h (by omega), m_chk h (by omega), m_cl (by omega), m_partsOf]; rfl
theorem m_leader_loop {d b p pt : Nat → Int32} (h : ∀ k, k < 6 → d k = b k) (h2 : ∀ k, k < 6 → p k = pt k) (n n' : Nat) : ∀ j, j ≤ 5 → ∀ x, x < 6 → ∃ r, f_X9_leader_b4 d p (n + j + 1) (nI x) (nI (6 - j)) = some r ∧ f_X12_richest_b4 b pt (n' + j + 1) (nI x) (nI (6 - j)) = some r := by
  intro j
  induction j with
  | zero => intro _ x _; exact ⟨nI x, rfl, rfl⟩
  | succ j ih =>
    intro hj x hx
    rw [show n + (j + 1) + 1 = n + j + 1 + 1 by omega, show n' + (j + 1) + 1 = n' + j + 1 + 1 by omega, f_X9_leader_b4_s, f_X12_richest_b4_s, if_neg (show ¬ (6 : Int32) ≤ nI (6 - (j + 1)) by rw [l6, m_le (by omega) (by omega)]; omega), if_neg (show ¬ (6 : Int32) ≤ nI (6 - (j + 1)) by rw [l6, m_le (by omega) (by omega)]; omega), m_worth _ _ (by omega), m_worth _ _ hx, m_haveOf _ _ (by omega), m_haveOf _ _ hx, Option.bind_some, Option.bind_some, Option.bind_some, Option.bind_some, h _ (by omega), h2 _ (by omega), h x hx, h2 x hx, nI_1, show 6 - (j + 1) + 1 = 6 - j by omega]
    by_cases c : pt (6 - (j + 1)) + ptsI (b (6 - (j + 1))) ≤ pt x + ptsI (b x)
    · rw [if_pos c, if_pos c]; exact ih (by omega) x hx
    · rw [if_neg c, if_neg c]; exact ih (by omega) _ (by omega)
theorem m_leader {d b p pt : Nat → Int32} (h : ∀ k, k < 6 → d k = b k) (h2 : ∀ k, k < 6 → p k = pt k) : ∃ r, f_X9_leader d p = some r ∧ f_X12_richest b pt = some r := m_leader_loop h h2 1018 1018 5 (by omega) 0 (by omega)
theorem m_table {ib ho ga : Int32} {d p b pt inn mo : Nat → Int32} {ho' ga' : Int32} (hT : TabR ib ho ga d p b pt inn ho' ga') {n n' : Int32} {sg pd : Nat → Int32} (hP : PadR n sg pd n') (hm : MostR mo)
    (td tp : Nat → Int32) (ti th tg ta ty tv tw tx : Int32) (act much : Nat → Int32) (acts no wn : Int32) (had : Nat → Int32) (bad bw wa ww : Int32) (x : Int32) : ∃ oc om, f_X11_table d p ib ho ga sg n td tp ti th tg ta ty tv tw tx x = some oc ∧ f_X12_table mo b pt inn ho' ga' pd n' act much acts no wn had bad bw wa ww x = some om ∧ oc.1 = om.1 ∧ TabR ib ho ga d p om.2.1 om.2.2.1 om.2.2.2.1 om.2.2.2.2.1 om.2.2.2.2.2.1 := by
  unfold f_X11_table f_X12_table
  rw [m_isWithin, m_in32 (a := 0) (b := 3) (lo := 0) (hi := 3) rfl rfl, Option.bind_some, Option.bind_some]
  by_cases c : 0 ≤ x ∧ x ≤ 3
  · rw [if_pos c, i10, i10]
    obtain ⟨j, hj, rfl⟩ := m_of (n := 3) rfl c
    obtain ⟨rc, d1, p1, ib1, ho1, ga1, ac1, why1, va1, wa1, ww1, rm, b1, pt1, inn1, ho2, ga2, act1, much1, acts1, va2, wn2, had1, bad1, bw1, wa2, ww2, q1, q2, hH, hc⟩ := m_refusal hT hP hm td tp ti th tg ta ty tv tw tx act much acts no wn had bad bw wa ww
    rw [q1, q2, Option.bind_some, Option.bind_some]
    have hB := m_backT hT hH b1 pt1 inn1
    rcases hc with ⟨rfl, rfl⟩ | ⟨rfl, rfl, hT1, rfl, rfl, rfl, rfl, rfl, rfl⟩ | ⟨rfl, rfl, rfl, rfl⟩
    · rw [if_neg (show ¬ (-5 : Int32) = -6 by decide), if_neg (show ¬ (-5 : Int32) = 0 by decide), m_back, Option.bind_some]
      exact ⟨_, _, rfl, rfl, rfl, hB⟩
    · rw [if_pos (show (-6 : Int32) = -6 from rfl), i00]
      obtain ⟨t1, t2, t3, t4, t5, _⟩ := hT1
      obtain ⟨r1, e1, e2⟩ := m_wholeOnes t1
      obtain ⟨r2, e3, e4⟩ := m_leader t1 t2
      simp only [e1, e2, e3, e4, m_back, Option.bind_some]
      subst t4 t5
      rcases (show j = 0 ∨ j = 1 ∨ j = 2 ∨ j = 3 by omega) with rfl | rfl | rfl | rfl <;> exact ⟨_, _, rfl, rfl, rfl, hB⟩
    · rw [if_neg (show ¬ (-3 : Int32) = -6 by decide), if_neg (show ¬ (-3 : Int32) = 0 by decide), m_back, Option.bind_some]
      exact ⟨_, _, rfl, rfl, rfl, hB⟩
  · rw [if_neg c, i00, i00]
    exact ⟨_, _, rfl, rfl, rfl, hT⟩
theorem m_first {ib ho ga : Int32} {d p b pt inn mo : Nat → Int32} {ho' ga' : Int32} (hT : TabR ib ho ga d p b pt inn ho' ga') {n n' : Int32} {sg pd : Nat → Int32} (hP : PadR n sg pd n') (hm : MostR mo)
    (td tp : Nat → Int32) (ti th tg ta ty tv tw tx : Int32) (act much : Nat → Int32) (acts no wn : Int32) (had : Nat → Int32) (bad bw wa ww : Int32) (x : Int32) : ∃ oc om, f_X11_first d p ib ho ga sg n td tp ti th tg ta ty tv tw tx x = some oc ∧ f_X12_first mo b pt inn ho' ga' pd n' act much acts no wn had bad bw wa ww x = some om ∧ oc.1 = om.1 ∧ TabR ib ho ga d p om.2.1 om.2.2.1 om.2.2.2.1 om.2.2.2.2.1 om.2.2.2.2.2.1 := by
  unfold f_X11_first f_X12_first
  rw [m_isWithin, m_in32 (a := 0) (b := 1) (lo := 0) (hi := 1) rfl rfl, Option.bind_some, Option.bind_some]
  by_cases c : 0 ≤ x ∧ x ≤ 1
  · rw [if_pos c, i10, i10]
    obtain ⟨j, hj, rfl⟩ := m_of (n := 1) rfl c
    obtain ⟨rc, d1, p1, ib1, ho1, ga1, ac1, why1, va1, wa1, ww1, rm, b1, pt1, inn1, ho2, ga2, act1, much1, acts1, va2, wn2, had1, bad1, bw1, wa2, ww2, q1, q2, hH, hc⟩ := m_refusal hT hP hm td tp ti th tg ta ty tv tw tx act much acts no wn had bad bw wa ww
    rw [q1, q2, Option.bind_some, Option.bind_some, m_back, Option.bind_some]
    have hB := m_backT hT hH b1 pt1 inn1
    rcases (show j = 0 ∨ j = 1 by omega) with rfl | rfl <;> rcases hc with ⟨rfl, rfl⟩ | ⟨rfl, rfl, _, rfl, rfl, rfl, rfl, rfl, rfl⟩ | ⟨rfl, rfl, rfl, rfl⟩ <;> exact ⟨_, _, rfl, rfl, rfl, hB⟩
  · rw [if_neg c, i00, i00]
    exact ⟨_, _, rfl, rfl, rfl, hT⟩
theorem m_done {ib ho ga : Int32} {d p b pt inn mo : Nat → Int32} {ho' ga' : Int32} (hT : TabR ib ho ga d p b pt inn ho' ga') {n n' : Int32} {sg pd : Nat → Int32} (hP : PadR n sg pd n') (hm : MostR mo)
    (td tp : Nat → Int32) (ti th tg ta ty tv tw tx : Int32) (act much : Nat → Int32) (acts no wn : Int32) (had : Nat → Int32) (bad bw wa ww : Int32) : ∃ oc om, f_X11_done d p ib ho ga sg n td tp ti th tg ta ty tv tw tx = some oc ∧ f_X12_done mo b pt inn ho' ga' pd n' act much acts no wn had bad bw wa ww = some om ∧ oc.1 = om.1 ∧ TabR oc.2.2.2.1 oc.2.2.2.2.1 oc.2.2.2.2.2.1 oc.2.1 oc.2.2.1 om.2.1 om.2.2.1 om.2.2.2.1 om.2.2.2.2.1 om.2.2.2.2.2.1 ∧ PadR oc.2.2.2.2.2.2.1 sg pd om.2.2.2.2.2.2.1 := by
  unfold f_X11_done f_X12_done
  obtain ⟨rc, d1, p1, ib1, ho1, ga1, ac1, why1, va1, wa1, ww1, rm, b1, pt1, inn1, ho2, ga2, act1, much1, acts1, va2, wn2, had1, bad1, bw1, wa2, ww2, q1, q2, hH, hc⟩ := m_refusal hT hP hm td tp ti th tg ta ty tv tw tx act much acts no wn had bad bw wa ww
  rw [q1, q2, Option.bind_some, Option.bind_some]
  have hB := m_backT hT hH b1 pt1 inn1
  rcases hc with ⟨rfl, rfl⟩ | ⟨rfl, rfl, hT1, rfl, rfl, rfl, rfl, rfl, rfl⟩ | ⟨rfl, rfl, rfl, rfl⟩
  · rw [if_neg (show ¬ (-5 : Int32) = -6 by decide), if_neg (show ¬ (-5 : Int32) = 0 by decide), m_back, Option.bind_some]
    exact ⟨_, _, rfl, rfl, rfl, hB, hP⟩
  · rw [if_pos (show (-6 : Int32) = -6 from rfl), i00, m_copyT, Option.bind_some]
    refine ⟨_, _, rfl, rfl, rfl, m_copied hT1 d p, ?_⟩
    exact ⟨hP.1, rfl, 0, by omega, rfl⟩
  · rw [if_neg (show ¬ (-3 : Int32) = -6 by decide), if_neg (show ¬ (-3 : Int32) = 0 by decide), m_back, Option.bind_some]
    exact ⟨_, _, rfl, rfl, rfl, hB, hP⟩
theorem m_fault {n n' : Int32} {sg pd : Nat → Int32} (hP : PadR n sg pd n') (act much : Nat → Int32) (ac : Int32) : ∃ oc om, f_X11_fault sg n = some oc ∧ f_X12_fault pd n' act much ac = some om ∧ oc = om.1 := by
  obtain ⟨r, act', much', N, sz, rfl, hsz, g1, g2, g3, g5⟩ := m_ff hP act much ac
  exact ⟨r, _, by unfold f_X11_fault; rw [g1]; rfl, g2, rfl⟩
