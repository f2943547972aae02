/-! ===== pure part 19: year ===== -/
def nL (n : Nat) : Int64 := Int64.ofNat n
theorem nL_toInt {n : Nat} (h : n < 2 ^ 63) : (nL n).toInt = (n : Int) := Int64.toInt_ofNat_of_lt h
theorem nL_add (a b : Nat) : nL a + nL b = nL (a + b) := (Int64.ofNat_add a b).symm
theorem nL_mul (a b : Nat) : nL a * nL b = nL (a * b) := (Int64.ofNat_mul a b).symm
theorem nL_sub {a b : Nat} (h : b ≤ a) : nL a - nL b = nL (a - b) := (Int64.ofNat_sub a b h).symm
theorem nL_div {a d : Nat} (ha : a < 2 ^ 63) (hd : d < 2 ^ 63) : nL a / nL d = nL (a / d) := by
  apply Int64.toInt_inj.mp
  have hm : nL a ≠ Int64.minValue := by
    intro c
    have := congrArg Int64.toInt c
    rw [nL_toInt ha] at this
    exact absurd this (by rw [show Int64.minValue.toInt = -9223372036854775808 from by decide]; omega)
  rw [Int64.toInt_div_of_ne_left _ _ hm, nL_toInt ha, nL_toInt hd, nL_toInt (Nat.lt_of_le_of_lt (Nat.div_le_self a d) ha)]
  rfl
theorem nL_rem {a d : Nat} (ha : a < 2 ^ 63) (hd : d < 2 ^ 63) : nL a - nL a / nL d * nL d = nL (a % d) := by
  rw [nL_div ha hd, nL_mul, nL_sub (Nat.div_mul_le_self a d)]
  exact congrArg nL (by have := Nat.div_add_mod' a d; omega)
theorem nL_of {n : Nat} (h : n < 2 ^ 31) : (nI n).toInt64 = nL n := by
  apply Int64.toInt_inj.mp
  rw [Int32.toInt_toInt64, nI_toInt h, nL_toInt (by omega)]
theorem nL_to {n : Nat} (h : n < 2 ^ 31) : (nL n).toInt32 = nI n := by
  apply Int32.toInt_inj.mp
  rw [Int64.toInt_toInt32, nI_toInt h, nL_toInt (by omega)]
  exact Int.bmod_eq_of_le (by omega) (by omega)
def lcg (s : Nat) : Nat := (75 * s + 74) % 65537
theorem lcg_lt (s : Nat) : lcg s < 65537 := Nat.mod_lt _ (by omega)
theorem m_lcg {s : Nat} (h : s < 65537) : (((75 : Int32) * nI s) + (74 : Int32)) - (((75 : Int32) * nI s) + (74 : Int32)) / (65537 : Int32) * (65537 : Int32) = nI (lcg s) := by
  rw [show (75 : Int32) = nI 75 from rfl, show (74 : Int32) = nI 74 from rfl, show (65537 : Int32) = nI 65537 from rfl, pk_mul, nI_add, pk_rem (by omega) (by omega) (by omega)]
  rfl
theorem m_lcgL {s : Nat} (h : s < 65537) : Int64.toInt32 ((((75 : Int64) * (Int32.toInt64 (nI s))) + (74 : Int64)) - (((75 : Int64) * (Int32.toInt64 (nI s))) + (74 : Int64)) / (65537 : Int64) * (65537 : Int64)) = nI (lcg s) := by
  rw [show (75 : Int64) = nL 75 from rfl, show (74 : Int64) = nL 74 from rfl, show (65537 : Int64) = nL 65537 from rfl, nL_of (by omega), nL_mul, nL_add, nL_rem (by omega) (by omega), nL_to (by have := lcg_lt s; unfold lcg at this; omega)]
  rfl
theorem m_r7 : ∀ r, r < 8 → r < 6 ∨ r = 6 ∨ r = 7 := by omega
theorem m_yearAct {r u : Nat} (hr : r < 8) (hu : u < 65537) : ∃ mark what v, f_X4_markOfYear (nI r) (nI u) = some mark ∧ ActR mark (nI (u % 6)) what v ∧ ∀ mo b pt inn ho ga no wn, f_X12_drawn mo b pt inn ho ga no wn (nI r) (nI u) = f_X12_drawn_b54 mo v what b pt inn ho ga no wn := by
  have hk : u % 6 < 6 := Nat.mod_lt _ (by omega)
  have e6 : nI u - nI u / 6 * 6 = nI (u % 6) := by rw [l6, pk_rem (by omega) (by omega) (by omega)]
  unfold f_X4_markOfYear f_X12_drawn f_X12_drawn_b34
  simp only [e6]
  rcases m_r7 r hr with h | rfl | rfl
  · have a1 : ¬ (5 : Int32) < nI r := by rw [l5, m_lt (by omega) (by omega)]; omega
    have a2 : ¬ (6 : Int32) ≤ nI r := by rw [l6, m_le (by omega) (by omega)]; omega
    simp only [if_neg a1, if_neg a2]
    exact ⟨_, _, _, rfl, Or.inl ⟨u % 6 + 1, by omega, by omega, by rw [l49, nI_add]; congr 1; omega, rfl, by rw [l1, nI_add]; congr 1; omega⟩, fun _ _ _ _ _ _ _ _ => rfl⟩
  · by_cases c : (nI u / 6) - (nI u / 6) / 4 * 4 = 0
    · simp only [if_pos c]
      exact ⟨35, 3, nI (u % 6), rfl, Or.inr (Or.inr (Or.inr ⟨u % 6, hk, rfl, rfl, rfl, rfl⟩)), fun _ _ _ _ _ _ _ _ => rfl⟩
    · simp only [if_neg c]
      exact ⟨46, 1, nI (u % 6), rfl, Or.inr (Or.inl ⟨rfl, rfl⟩), fun _ _ _ _ _ _ _ _ => rfl⟩
  · exact ⟨33, 2, nI (u % 6), rfl, Or.inr (Or.inr (Or.inl ⟨u % 6, hk, rfl, rfl, rfl, rfl⟩)), fun _ _ _ _ _ _ _ _ => rfl⟩
theorem m_year_loop {mo q1 q2 had : Nat → Int32} {q3 q4 q5 x3 : Int32} {K : Nat} (hK : K ≤ 99) (hm : MostR mo) : ∀ m i s, i + m = K → s < 65537 → ∀ F F', m + 1 ≤ F → m + 1 ≤ F' → ∀ d p ib ho ga b pt inn ac y va wa ww no wn, TabR ib ho ga d p b pt inn ho ga →
    ∃ d1 p1 ib1 ho1 ga1 ac1 y1 va1 wa1 ww1 b1 pt1 inn1 no1 wn1 s1 F2, f_X4_playYear_b11 q1 q2 q3 q4 q5 F (nI K) (nI s) (nI i) d p ib ho ga ac y va wa ww = some (d1, p1, ib1, ho1, ga1, ac1, y1, va1, wa1, ww1) ∧ f_X12_year_b49 mo F' (nI K) x3 (nI s) (nI i) b pt inn ho ga no wn had = f_X12_year_b49 mo (F2 + 1) (nI K) x3 (nI s1) (nI K) b1 pt1 inn1 ho1 ga1 no1 wn1 had ∧ TabR ib1 ho1 ga1 d1 p1 b1 pt1 inn1 ho1 ga1 := by
  intro m
  induction m with
  | zero =>
    intro i s hi hs F F' hF hF' d p ib ho ga b pt inn ac y va wa ww no wn hT
    obtain ⟨F, rfl⟩ : ∃ z, F = z + 1 := ⟨F - 1, by omega⟩
    obtain ⟨F', rfl⟩ : ∃ z, F' = z + 1 := ⟨F' - 1, by omega⟩
    have e : i = K := by omega
    subst e
    rw [f_X4_playYear_b11_s, if_pos (show nI i ≤ nI i by rw [m_le (by omega) (by omega)]; omega)]
    exact ⟨_, _, _, _, _, _, _, _, _, _, _, _, _, _, _, _, _, rfl, rfl, hT⟩
  | succ m ih =>
    intro i s hi hs F F' hF hF' d p ib ho ga b pt inn ac y va wa ww no wn hT
    obtain ⟨F, rfl⟩ : ∃ z, F = z + 1 := ⟨F - 1, by omega⟩
    obtain ⟨F', rfl⟩ : ∃ z, F' = z + 1 := ⟨F' - 1, by omega⟩
    have hl := lcg_lt s
    rw [f_X4_playYear_b11_s, f_X12_year_b49_s, if_neg (show ¬ nI K ≤ nI i by rw [m_le (by omega) (by omega)]; omega), if_neg (show ¬ nI K ≤ nI i by rw [m_le (by omega) (by omega)]; omega), m_lcg hs, m_lcgL hs, show (8 : Int32) = nI 8 from rfl, pk_rem (by omega) (by omega) (by omega), pk_div (by omega) (by omega) (by omega), show (6 : Int32) = nI 6 from rfl, pk_rem (by omega) (by omega) (by omega), nI_1]
    obtain ⟨mark, what, v, y1, y2, y3⟩ := m_yearAct (r := lcg s % 8) (u := lcg s / 8) (by omega) (by omega)
    rw [y1, Option.bind_some, y3]
    unfold f_X12_drawn_b54
    obtain ⟨w, hw, e1, e2⟩ := m_whyNot hT y2
    rw [e2, Option.bind_some]
    by_cases c : w = 0
    · subst c
      obtain ⟨d1, p1, ib1, ho1, ga1, va1, vb1, wn1, b1, pt1, inn1, g1, g2, g3, g4, g5⟩ := m_play hT hm y2 e1 ac y va no wa ww wn
      rw [g1, g2, if_pos (show nI 0 = 0 from rfl), Option.bind_some, Option.bind_some, Option.bind_some]
      exact ih (i + 1) (lcg s) (by omega) hl F F' (by omega) (by omega) d1 p1 ib1 ho1 ga1 b1 pt1 inn1 _ _ _ _ _ _ _ g3
    · rw [m_playNo hw c e1, if_neg (m_nz (by omega) c), Option.bind_some, Option.bind_some]
      exact ih (i + 1) (lcg s) (by omega) hl F F' (by omega) (by omega) d p ib ho ga b pt inn _ _ _ _ _ _ _ hT
theorem m_allParts_loop {d b : Nat → Int32} (h : ∀ k, k < 6 → d k = b k) (n n' : Nat) : ∀ j, j ≤ 6 → ∀ x, ∃ r, f_X9_allParts_b4 d (n + j + 1) x (nI (6 - j)) = some r ∧ f_X12_allParts_b4 b (n' + j + 1) x (nI (6 - j)) = some r := by
  intro j
  induction j with
  | zero => intro _ x; exact ⟨x, rfl, rfl⟩
  | succ j ih =>
    intro hj x
    rw [show n + (j + 1) + 1 = n + j + 1 + 1 by omega, show n' + (j + 1) + 1 = n' + j + 1 + 1 by omega, f_X9_allParts_b4_s, f_X12_allParts_b4_s, if_neg (show ¬ (6 : Int32) ≤ nI (6 - (j + 1)) by rw [l6, m_le (by omega) (by omega)]; omega), if_neg (show ¬ (6 : Int32) ≤ nI (6 - (j + 1)) by rw [l6, m_le (by omega) (by omega)]; omega), m_chk (by omega) (by omega), m_chk (by omega) (by omega), m_cl (by omega), h _ (by omega), m_parts, m_partsOf, Option.bind_some, Option.bind_some, nI_1, show 6 - (j + 1) + 1 = 6 - j by omega]
    exact ih (by omega) _
theorem m_allParts {d b : Nat → Int32} (h : ∀ k, k < 6 → d k = b k) : ∃ r, f_X9_allParts d = some r ∧ f_X12_allParts b = some r := m_allParts_loop h 1017 1017 6 (by omega) 0
theorem m_year {ib ho ga : Int32} {d p b pt inn mo : Nat → Int32} {ho' ga' : Int32} (hT : TabR ib ho ga d p b pt inn ho' ga') (hm : MostR mo) (td tp : Nat → Int32) (ti th tg ta ty tv tw tx : Int32) (no wn : Int32) (had : Nat → Int32) (x1 x2 x3 : Int32) : ∃ oc om, f_X11_year d p ib ho ga td tp ti th tg ta ty tv tw tx x1 x2 x3 = some oc ∧ f_X12_year mo b pt inn ho' ga' no wn had x1 x2 x3 = some om ∧ oc.1 = om.1 ∧ TabR ib ho ga d p om.2.1 om.2.2.1 om.2.2.2.1 om.2.2.2.2.1 om.2.2.2.2.2.1 := by
  unfold f_X11_year f_X12_year
  rw [m_isWithin, m_in32 (a := 0) (b := 9999) (lo := 0) (hi := 9999) rfl rfl, Option.bind_some, Option.bind_some]
  by_cases c1 : 0 ≤ x1 ∧ x1 ≤ 9999
  · rw [if_pos c1, i10, i10, m_isWithin, m_in32 (a := 1) (b := 99) (lo := 1) (hi := 99) rfl rfl, Option.bind_some, Option.bind_some]
    by_cases c2 : 1 ≤ x2 ∧ x2 ≤ 99
    · rw [if_pos c2, i10, i10, m_isWithin, m_in32 (a := 0) (b := 2) (lo := 0) (hi := 2) rfl rfl, Option.bind_some, Option.bind_some]
      by_cases c3 : 0 ≤ x3 ∧ x3 ≤ 2
      · rw [if_pos c3, i10, i10]
        obtain ⟨s, hs, rfl⟩ := m_of (n := 9999) rfl c1
        obtain ⟨K, hK, rfl⟩ := m_of (x := x2) (M := 99) (n := 99) rfl ⟨Int32.le_trans (show (0 : Int32) ≤ 1 by decide) c2.1, c2.2⟩
        obtain ⟨j, hj, rfl⟩ := m_of (n := 2) rfl c3
        obtain ⟨had', k1, hH⟩ := m_keepNow b pt inn ho' ga' had
        have hB := fun x y z => m_backT hT hH x y z
        have e1 := hT.2.2.2.1
        have e2 := hT.2.2.2.2.1
        subst e1 e2
        obtain ⟨d1, p1, ib1, ho1, ga1, ac1, y1, va1, wa1, ww1, b1, pt1, inn1, no1, wn1, s1, F2, g1, g2, g3⟩ := m_year_loop (q1 := d) (q2 := p) (q3 := ib) (q4 := ho) (q5 := ga) (had := had') (x3 := nI j) hK hm K 0 s (by omega) (by omega) 1024 1024 (by omega) (by omega) (cp 6 d td) (cp 6 p tp) ib ho ga b pt inn 0 0 0 (-6) (-6) no wn (m_copied hT td tp)
        have g1' : f_X4_playYear_b11 d p ib ho ga FU (nI K) (nI s) 0 (cp 6 d td) (cp 6 p tp) ib ho ga 0 0 0 (-6) (-6) = _ := g1
        have g2' : f_X12_year_b49 mo FU (nI K) (nI j) (nI s) 0 b pt inn ho ga no wn had' = _ := g2
        unfold f_X4_playYear f_X4_begin
        rw [m_copyT, k1]
        simp only [Option.bind_some]
        rw [g1', g2', Option.bind_some, f_X12_year_b49_s, if_pos (show nI K ≤ nI K by rw [m_le (by omega) (by omega)]; omega)]
        obtain ⟨t1, t2, t3, t4, t5, _⟩ := g3
        obtain ⟨r, r1, r2⟩ := m_allParts t1
        simp only [r1, r2, m_back, Option.bind_some]
        have z0 : p1 (Int32.toNatClampNeg 0) = pt1 (Int32.toNatClampNeg 0) := t2 0 (by omega)
        rw [z0, show (0 : Int32) = nI 0 from rfl, m_chk (i := 0) (by omega) (by omega), m_chk (i := 0) (by omega) (by omega)]
        rcases (show j = 0 ∨ j = 1 ∨ j = 2 by omega) with rfl | rfl | rfl <;> exact ⟨_, _, rfl, rfl, rfl, hB _ _ _⟩
      · rw [if_neg c3, i00, i00]
        exact ⟨_, _, rfl, rfl, rfl, hT⟩
    · rw [if_neg c2, i00, i00]
      exact ⟨_, _, rfl, rfl, rfl, hT⟩
  · rw [if_neg c1, i00, i00]
    exact ⟨_, _, rfl, rfl, rfl, hT⟩
