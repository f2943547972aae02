/-! ===== pure part 16: the text is played ===== -/
theorem Tx_le {sg act much : Nat → Int32} {N : Nat} : ∀ m i a who, Tx sg act much N m i a who → a ≤ N := by
  intro m
  induction m with
  | zero => intro i a who h; exact Nat.le_of_eq h
  | succ m ih =>
    intro i a who h
    rcases h with ⟨_, h⟩ | ⟨_, _, h⟩
    · exact ih _ _ _ h
    · have := ih _ _ _ h; omega
theorem m_nz {w : Nat} (h : w < 2 ^ 31) (h0 : w ≠ 0) : ¬ nI w = 0 := by rw [l0, m_eq h (by omega)]; exact h0
theorem m_nn {w : Nat} (h : w < 2 ^ 31) : (0 : Int32) ≤ nI w := by rw [l0, m_le (by omega) h]; omega
theorem m_npos {w : Nat} (h : w < 2 ^ 31) (h0 : w ≠ 0) : ¬ nI w ≤ 0 := by rw [l0, m_le h (by omega)]; omega
theorem m_nneg {w : Nat} (h : w < 2 ^ 31) : ¬ nI w < 0 := by rw [l0, m_lt h (by omega)]; omega
theorem m_ne6 {w : Nat} (h : w < 2 ^ 31) : ¬ nI w = -6 := by intro c; have := m_nn h; rw [c] at this; exact absurd this (by decide)
theorem m_playNo {d p : Nat → Int32} {ib ho ga ac y va wa ww mark who : Int32} {w : Nat} (hw : w ≤ 4) (h0 : w ≠ 0) (h : f_X9_whyNot d ib ho ga mark who = some (nI w)) : f_X4_play d p ib ho ga ac y va wa ww mark who = some (d, p, ib, ho, ga, ac, nI w, va, wa, ww) := by
  unfold f_X4_play
  rw [h, Option.bind_some, if_neg (m_nz (by omega) h0)]
theorem m_goOne {mo b pt inn act much b1 pt1 inn1 : Nat → Int32} {ho ga va wn0 wa ww ho1 ga1 va1 wn : Int32} {a : Nat} (ha : a < 60) (h : f_X12_happen mo b pt inn ho ga va wn0 (act a) (much a) = some (b1, pt1, inn1, ho1, ga1, va1, wn)) (hwn : wn = -6 ∨ ∃ h : Nat, h < 6 ∧ wn = nI h) (hwa : wa = -6 ∨ ∃ c : Nat, c < 60 ∧ wa = nI c) : f_X12_goOne mo b pt inn ho ga act much va wn0 wa ww (nI a) = some (b1, pt1, inn1, ho1, ga1, va1, wn, wA wa (nI a) wn, wW wa ww wn) := by
  unfold f_X12_goOne
  rw [m_chk ha (by omega), m_chk ha (by omega), m_cl (by omega), h, Option.bind_some]
  show (if wn < 0 then some (b1, pt1, inn1, ho1, ga1, va1, wn, wa, ww) else if 0 ≤ wa then some (b1, pt1, inn1, ho1, ga1, va1, wn, wa, ww) else some (b1, pt1, inn1, ho1, ga1, va1, wn, nI a, wn)) = _
  rcases hwn with rfl | ⟨h, hh, rfl⟩
  · rw [if_pos (by decide), wA_no, wW_no]
  · rw [if_neg (m_nneg (by omega))]
    unfold wA wW
    rw [if_neg (m_ne6 (by omega)), if_neg (m_ne6 (by omega))]
    rcases hwa with rfl | ⟨c, hc, rfl⟩
    · rw [if_neg (by decide), if_pos rfl, if_pos rfl]
    · rw [if_pos (m_nn (by omega)), if_neg (m_ne6 (by omega)), if_neg (m_ne6 (by omega))]
/-- what is the same of the two ends -/
def EndR (N : Nat) (res ac why bad bw : Int32) : Prop := (res = 0 ∧ why = 0 ∧ ac = nI N ∧ bad = -6 ∧ bw = -6) ∨ (res = -3 ∧ ∃ c w : Nat, c < 60 ∧ 1 ≤ w ∧ w ≤ 4 ∧ ac = nI c ∧ bad = nI c ∧ why = nI w ∧ bw = nI w)
theorem m_text_loop {sg act much mo q1 q2 : Nat → Int32} {q3 q4 q5 : Int32} {sz N : Nat} (hs : sz ≤ 60) (hm : MostR mo) (hN : N ≤ sz) : ∀ m i a who, i + m = sz → Tx sg act much N m i a who → ∀ F F', m + 1 ≤ F → N - a + 1 ≤ F' → ∀ d p ib ho ga b pt inn va wa ww wn, TabR ib ho ga d p b pt inn ho ga → (wa = -6 ∨ ∃ c : Nat, c < 60 ∧ wa = nI c) →
    ∃ res d1 p1 ib1 ho1 ga1 ac1 why1 va1 wa1 ww1 b1 pt1 inn1 wn1 bad bw, f_X4_playText_b22 sg (nI sz) q1 q2 q3 q4 q5 F who (nI i) d p ib ho ga (nI a) 0 va wa ww = some (res, d1, p1, ib1, ho1, ga1, ac1, why1, va1, wa1, ww1) ∧ f_X12_goGames_b31 mo act much (nI N) F' (nI a) b pt inn ho ga va wn (-6) (-6) wa ww = some (b1, pt1, inn1, ho1, ga1, va1, wn1, bad, bw, wa1, ww1) ∧ TabR ib1 ho1 ga1 d1 p1 b1 pt1 inn1 ho1 ga1 ∧ EndR N res ac1 why1 bad bw := by
  intro m
  induction m with
  | zero =>
    intro i a who hi hx F F' hF hF' d p ib ho ga b pt inn va wa ww wn hT hwa
    obtain ⟨F, rfl⟩ : ∃ z, F = z + 1 := ⟨F - 1, by omega⟩
    obtain ⟨F', rfl⟩ : ∃ z, F' = z + 1 := ⟨F' - 1, by omega⟩
    have hx' : a = N := hx
    subst hx'
    rw [f_X4_playText_b22_s, f_X12_goGames_b31_s, if_pos (show nI sz ≤ nI i by rw [m_le (by omega) (by omega)]; omega), if_pos (show nI a ≤ nI a by rw [m_le (by omega) (by omega)]; omega), i00]
    exact ⟨_, _, _, _, _, _, _, _, _, _, _, _, _, _, _, _, _, rfl, rfl, hT, Or.inl ⟨rfl, rfl, rfl, rfl, rfl⟩⟩
  | succ m ih =>
    intro i a who hi hx F F' hF hF' d p ib ho ga b pt inn va wa ww wn hT hwa
    have hi6 : i < 60 := by omega
    obtain ⟨F, rfl⟩ : ∃ z, F = z + 1 := ⟨F - 1, by omega⟩
    have ha := Tx_le _ _ _ _ hx
    rw [f_X4_playText_b22_s, if_neg (show ¬ nI sz ≤ nI i by rw [m_le (by omega) (by omega)]; omega), i00, m_chk hi6 (by omega), m_cl (by omega), m_isLetter, Option.bind_some]
    rcases hx with ⟨⟨hl, k, hk, e⟩, hx⟩ | ⟨hl, hA, hx⟩
    · rw [if_pos hl, i10, nI_1]
      exact ih (i + 1) a _ (by omega) hx F F' (by omega) hF' d p ib ho ga b pt inn va wa ww wn hT hwa
    · rw [if_neg hl, i00, nI_1]
      have ha1 := Tx_le _ _ _ _ hx
      have ha6 : a < 60 := by omega
      obtain ⟨F', rfl⟩ : ∃ z, F' = z + 1 + 1 := ⟨F' - 2, by omega⟩
      rw [f_X12_goGames_b31_s, if_neg (show ¬ nI N ≤ nI a by rw [m_le (by omega) (by omega)]; omega), if_neg (show ¬ (0 : Int32) ≤ -6 by decide), m_chk ha6 (by omega), m_chk ha6 (by omega), m_cl (by omega)]
      obtain ⟨w, hw, e1, e2⟩ := m_whyNot hT hA
      rw [e2, Option.bind_some]
      by_cases c : w = 0
      · subst c
        obtain ⟨d1, p1, ib1, ho1, ga1, va1, vb1, wn1, b1, pt1, inn1, g1, g2, g3, g4, g5⟩ := m_play hT hm hA e1 (nI a) 0 va va wa ww wn
        have g6 := g5 rfl
        subst g6
        rw [g1, Option.bind_some, if_pos (show nI 0 ≤ 0 by decide), if_pos (show nI 0 ≤ 0 by decide)]
        unfold f_X12_goGames_b88
        rw [if_pos (show nI 0 = 0 from rfl), m_goOne ha6 g2 g4 hwa, Option.bind_some]
        have := ih (i + 1) (a + 1) who (by omega) hx F (F' + 1) (by omega) (by omega) d1 p1 ib1 ho1 ga1 b1 pt1 inn1 va1 (wA wa (nI a) wn1) (wW wa ww wn1) wn1 g3 (by
          unfold wA
          split
          · split
            · exact hwa
            · exact Or.inr ⟨a, ha6, rfl⟩
          · exact hwa)
        rw [← nI_1 a] at this
        exact this
      · rw [m_playNo hw c e1, Option.bind_some, if_neg (m_npos (by omega) c), if_neg (m_npos (by omega) c)]
        unfold f_X12_goGames_b88
        rw [if_neg (m_nz (by omega) c), nI_1]
        obtain ⟨F, rfl⟩ : ∃ z, F = z + 1 := ⟨F - 1, by omega⟩
        refine ⟨-3, d, p, ib, ho, ga, nI a, nI w, va, wa, ww, b, pt, inn, wn, nI a, nI w, ?_, ?_, hT, Or.inr ⟨rfl, a, w, ha6, by omega, hw, rfl, rfl, rfl, rfl⟩⟩
        · show f_X4_playText_b22 sg (nI sz) q1 q2 q3 q4 q5 (F + 1) who (nI (i + 1)) d p ib ho ga (nI a) (nI w) va wa ww = _
          rw [f_X4_playText_b22_s]
          simp only [if_neg (m_nz (show w < 2 ^ 31 by omega) c), ite_self]
        · rw [f_X12_goGames_b31_s]
          simp only [if_pos (m_nn (show a < 2 ^ 31 by omega)), ite_self]
