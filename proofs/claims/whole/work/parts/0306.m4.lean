/-! ===== pure part 4: told ===== -/
theorem m_rng {n a b : Nat} (hn : n < 2 ^ 31) (ha : a < 2 ^ 31) (hb : b < 2 ^ 31) : (nI a ≤ nI n ∧ nI n ≤ nI b) = (a ≤ n ∧ n ≤ b) := by rw [m_le ha hn, m_le hn hb]
theorem m_told {ib ho ga : Int32} {d p b pt inn : Nat → Int32} {ho' ga' : Int32} (hT : TabR ib ho ga d p b pt inn ho' ga') {pn pn' sn sn' : Int32} (hp : pn = pn') (hs : sn = sn') (x : Int32) : ∃ oc om, f_X11_told d p ib ho ga pn sn x = some oc ∧ f_X12_told b pt inn ho' ga' sn' pn' x = some om ∧ oc = om := by
  obtain ⟨h1, h2, h3, rfl, rfl, -⟩ := hT
  subst hp; subst hs
  unfold f_X11_told f_X12_told
  rw [m_in32 (a := 10) (b := 39) (lo := 10) (hi := 39) rfl rfl, Option.bind_some]
  by_cases h0 : 0 ≤ x
  · rw [if_pos h0]
    obtain ⟨n, hn, rfl⟩ := nI_of (show ¬ x < 0 by rw [Int32.le_iff_toInt_le] at h0; rw [Int32.lt_iff_toInt_lt]; omega)
    simp (disch := omega) only [l10, l39, m_rng, m_le]
    by_cases h10 : 10 ≤ n
    · rw [if_pos h10]
      have hu : n % 10 < 10 := Nat.mod_lt _ (by omega)
      have ht : n / 10 < 2 ^ 31 := by omega
      unfold f_X11_toldOfPlayer
      rw [pk_rem hn (by omega) (by omega), pk_div hn (by omega) (by omega), m_isPlayer, Option.bind_some]
      by_cases h39 : n ≤ 39
      · rw [if_pos (⟨h10, h39⟩ : 10 ≤ n ∧ n ≤ 39), i10]
        unfold f_X12_toldOfPlayer
        rw [l10, pk_rem hn (by omega) (by omega), m_isPlayer', Option.bind_some]
        by_cases hu5 : n % 10 ≤ 5
        · have hq : (0 : Int32) ≤ nI (n % 10) ∧ nI (n % 10) ≤ 5 := by rw [l0, l5, m_rng (by omega) (by omega) (by omega)]; omega
          rw [if_pos hq, i10, i10]
          simp (disch := omega) only [l1, l2, l3, l20, l30, m_eq, m_le, m_chk, m_cl, m_isIn, Option.bind_some]
          have hc : n / 10 = 1 ∨ n / 10 = 2 ∨ n / 10 = 3 := by omega
          rcases hc with c | c | c
          · rw [if_pos c, if_neg (by omega)]
            exact ⟨_, _, rfl, rfl, h1 _ (by omega)⟩
          · rw [if_neg (by omega), if_pos c, if_pos (by omega), if_neg (by omega)]
            exact ⟨_, _, rfl, rfl, h2 _ (by omega)⟩
          · rw [if_neg (by omega), if_neg (by omega), if_pos c, if_pos (show 20 ≤ n by omega), if_pos (show 30 ≤ n by omega), h3 _ (by omega)]
            rcases bI_01 ib (n % 10) with e | e
            · rw [e, i00]; exact ⟨_, _, rfl, rfl, rfl⟩
            · rw [e, i10]; exact ⟨_, _, rfl, rfl, rfl⟩
        · have hq : ¬ ((0 : Int32) ≤ nI (n % 10) ∧ nI (n % 10) ≤ 5) := by rw [l0, l5, m_rng (by omega) (by omega) (by omega)]; omega
          rw [if_neg hq, i00, i00]
          exact ⟨_, _, rfl, rfl, rfl⟩
      · rw [if_neg (show ¬ (10 ≤ n ∧ n ≤ 39) by omega), i00]
        have e2 : (if nI n = 0 then some pn else if nI n = 1 then some ho else if nI n = 2 then some ga else if nI n = 3 then some sn else some (-2 : Int32)) = some (-2) := by
          simp (disch := omega) only [l0, l1, l2, l3, m_eq]
          rw [if_neg (by omega), if_neg (by omega), if_neg (by omega), if_neg (by omega)]
        rw [e2]
        by_cases hu5 : n % 10 ≤ 5
        · have hq : (0 : Int32) ≤ nI (n % 10) ∧ nI (n % 10) ≤ 5 := by rw [l0, l5, m_rng (by omega) (by omega) (by omega)]; omega
          rw [if_pos hq, i10]
          simp (disch := omega) only [l1, l2, l3, m_eq]
          rw [if_neg (by omega), if_neg (by omega), if_neg (by omega)]
          exact ⟨_, _, rfl, rfl, rfl⟩
        · have hq : ¬ ((0 : Int32) ≤ nI (n % 10) ∧ nI (n % 10) ≤ 5) := by rw [l0, l5, m_rng (by omega) (by omega) (by omega)]; omega
          rw [if_neg hq, i00]
          exact ⟨_, _, rfl, rfl, rfl⟩
    · rw [if_neg h10, if_neg (show ¬ (10 ≤ n ∧ n ≤ 39) by omega), i00]
      unfold f_X11_toldOfAll
      simp (disch := omega) only [l0, l1, l2, l3, m_eq]
      by_cases c0 : n = 0
      · rw [if_pos c0]; exact ⟨_, _, rfl, rfl, rfl⟩
      rw [if_neg c0]
      by_cases c1 : n = 1
      · rw [if_pos c1]; exact ⟨_, _, rfl, rfl, rfl⟩
      rw [if_neg c1]
      by_cases c2 : n = 2
      · rw [if_pos c2]; exact ⟨_, _, rfl, rfl, rfl⟩
      rw [if_neg c2]
      by_cases c3 : n = 3
      · rw [if_pos c3]; exact ⟨_, _, rfl, rfl, rfl⟩
      rw [if_neg c3]
      exact ⟨_, _, rfl, rfl, rfl⟩
  · rw [if_neg h0]
    have hneg : x.toInt < 0 := by rw [Int32.le_iff_toInt_le] at h0; simpa using h0
    have ne : ∀ k : Nat, k < 2 ^ 31 → ¬ x = nI k := by
      intro k hk q
      have := nI_toInt hk
      rw [← q] at this
      omega
    have hr : ¬ ((10 : Int32) ≤ x ∧ x ≤ 39) := by
      intro q
      have q1 := q.1
      rw [Int32.le_iff_toInt_le, show (10 : Int32).toInt = 10 by decide] at q1
      omega
    rw [if_neg hr, i00, if_neg (show ¬ x = 0 from ne 0 (by omega)), if_neg (show ¬ x = 1 from ne 1 (by omega)), if_neg (show ¬ x = 2 from ne 2 (by omega)), if_neg (show ¬ x = 3 from ne 3 (by omega))]
    exact ⟨_, _, rfl, rfl, rfl⟩
