/-! ===== pure part 13: acts ===== -/
theorem m_rem6 {a b : Nat} (h : a + b < 2 ^ 31) : (nI a + nI b) - (nI a + nI b) / 6 * 6 = nI ((a + b) % 6) := by
  rw [nI_add, l6, pk_rem h (by omega) (by omega)]
theorem m_passOn_loop {ib : Int32} {inn : Nat → Int32} {h : Nat} (hi : ∀ k, k < 6 → inn k = bI ib k) (hh : h < 6) (n n' : Nat) : ∀ m s, s + m = 7 → 1 ≤ s → (∃ t, s ≤ t ∧ t ≤ 6 ∧ bI ib ((h + t) % 6) = 1) → ∃ h', h' < 6 ∧ bI ib h' = 1 ∧ f_X9_passOn_b2 ib (n + m + 1) (nI s) (nI h) = some (nI h') ∧ f_X12_goesOn_b13 inn (n' + m + 1) (nI ((h + s) % 6)) = some (nI h') := by
  intro m
  induction m with
  | zero => intro s hs _ ⟨t, h1, h2, _⟩; exact absurd hs (by omega)
  | succ m ih =>
    intro s hs h1 ⟨t, t1, t2, t3⟩
    have hr : (h + s) % 6 < 6 := Nat.mod_lt _ (by omega)
    rw [show n + (m + 1) + 1 = n + m + 1 + 1 by omega, show n' + (m + 1) + 1 = n' + m + 1 + 1 by omega, f_X9_passOn_b2_s, f_X12_goesOn_b13_s, if_neg (by rw [l6, m_lt (by omega) (by omega)]; omega), m_rem6 (by omega), m_isIn, Option.bind_some, m_chk hr (by omega), m_cl (by omega), hi _ hr, nI_1]
    rcases bI_01 ib ((h + s) % 6) with e | e
    · rw [e, i00, i00, l1, m_rem6 (by omega), show ((h + s) % 6 + 1) % 6 = (h + (s + 1)) % 6 by omega]
      refine ih (s + 1) (by omega) (by omega) ⟨t, ?_, t2, t3⟩
      by_cases c : t = s
      · subst c; rw [e] at t3; exact absurd t3 (by decide)
      · omega
    · rw [e, i10, i10]
      exact ⟨_, hr, e, rfl, rfl⟩
theorem m_passOn {ib : Int32} {inn : Nat → Int32} {h : Nat} (hi : ∀ k, k < 6 → inn k = bI ib k) (hh : h < 6) (he : ∃ k, k < 6 ∧ bI ib k = 1) : ∃ h', h' < 6 ∧ bI ib h' = 1 ∧ f_X9_passOn ib (nI h) = some (nI h') ∧ f_X12_goesOn inn (nI h) = some (nI h') := by
  obtain ⟨k, hk, hb⟩ := he
  have ex : ∃ t, 1 ≤ t ∧ t ≤ 6 ∧ bI ib ((h + t) % 6) = 1 := by
    by_cases c : h < k
    · exact ⟨k - h, by omega, by omega, by rw [show (h + (k - h)) % 6 = k by omega]; exact hb⟩
    · exact ⟨k + 6 - h, by omega, by omega, by rw [show (h + (k + 6 - h)) % 6 = k by omega]; exact hb⟩
  obtain ⟨h', a1, a2, a3, a4⟩ := m_passOn_loop hi hh 1017 1017 6 1 (by omega) (by omega) ex
  refine ⟨h', a1, a2, a3, ?_⟩
  unfold f_X12_goesOn
  rw [l1, m_rem6 (by omega)]
  exact a4
theorem m_go_bits : ∀ w, w < 64 → ∀ k, k < 6 → nI w ^^^ ((1 : Int32) <<< (nI k &&& 31)) = nI (w ^^^ 2 ^ k) ∧ w ^^^ 2 ^ k < 64 ∧ (∀ j, j < 6 → bI (nI (w ^^^ 2 ^ k)) j = if j = k then 1 - bI (nI w) k else bI (nI w) j) := by decide +kernel
theorem m_go_left : ∀ w, w < 64 → ∀ k, k < 6 → w ≠ 0 → ¬ nI w = ((1 : Int32) <<< (nI k &&& 31)) → ∃ j, j < 6 ∧ bI (nI (w ^^^ 2 ^ k)) j = 1 := by decide +kernel
theorem m_go_last : ∀ w, w < 64 → ∀ k, k < 6 → (nI w = ((1 : Int32) <<< (nI k &&& 31)) ↔ bI (nI w) k = 1 ∧ bI (nI w) 0 + bI (nI w) 1 + bI (nI w) 2 + bI (nI w) 3 + bI (nI w) 4 + bI (nI w) 5 = 1) := by decide +kernel
theorem bI_0 : ∀ k, k < 6 → bI (nI 0) k = 0 := by decide +kernel
theorem m_inMany {inn : Nat → Int32} : f_X12_inMany inn = some (inn 0 + inn 1 + inn 2 + inn 3 + inn 4 + inn 5) := by
  show f_X12_inMany_b4 inn (1017 + 1 + 1 + 1 + 1 + 1 + 1 + 1) 0 (nI 0) = _
  rw [f_X12_inMany_b4_s, if_neg (show ¬ (6 : Int32) ≤ nI 0 by decide), m_chk (i := 0) (by omega) (by omega), m_cl (i := 0) (by omega), nI_1]
  rw [f_X12_inMany_b4_s, if_neg (show ¬ (6 : Int32) ≤ nI 1 by decide), m_chk (i := 1) (by omega) (by omega), m_cl (i := 1) (by omega), nI_1]
  rw [f_X12_inMany_b4_s, if_neg (show ¬ (6 : Int32) ≤ nI 2 by decide), m_chk (i := 2) (by omega) (by omega), m_cl (i := 2) (by omega), nI_1]
  rw [f_X12_inMany_b4_s, if_neg (show ¬ (6 : Int32) ≤ nI 3 by decide), m_chk (i := 3) (by omega) (by omega), m_cl (i := 3) (by omega), nI_1]
  rw [f_X12_inMany_b4_s, if_neg (show ¬ (6 : Int32) ≤ nI 4 by decide), m_chk (i := 4) (by omega) (by omega), m_cl (i := 4) (by omega), nI_1]
  rw [f_X12_inMany_b4_s, if_neg (show ¬ (6 : Int32) ≤ nI 5 by decide), m_chk (i := 5) (by omega) (by omega), m_cl (i := 5) (by omega), nI_1]
  rw [f_X12_inMany_b4_s, if_pos (by decide)]
  simp only [Int32.zero_add]
/-- an act as the class has it (mark, who) and as the reference has it (what, v) -/
def ActR (mark who what v : Int32) : Prop := (∃ f : Nat, 1 ≤ f ∧ f ≤ 6 ∧ mark = nI (48 + f) ∧ what = 0 ∧ v = nI f) ∨ (mark = 46 ∧ what = 1) ∨ (∃ k : Nat, k < 6 ∧ mark = 33 ∧ who = nI k ∧ what = 2 ∧ v = nI k) ∨ (∃ k : Nat, k < 6 ∧ mark = 35 ∧ who = nI k ∧ what = 3 ∧ v = nI k)
theorem m_isThrow (x : Int32) : f_X9_isThrow x = some (if 49 ≤ x ∧ x ≤ 54 then 1 else 0) := by
  unfold f_X9_isThrow
  rw [m_isWithin, Option.bind_some, m_bz01]
theorem m_isLetter (x : Int32) : f_X5_isLetter x = some (if 65 ≤ x ∧ x ≤ 70 then 1 else 0) := by
  unfold f_X5_isLetter
  rw [m_isWithin, Option.bind_some, m_bz01]
theorem m_isThrowF {f : Nat} (h1 : 1 ≤ f) (h6 : f ≤ 6) : f_X9_isThrow (nI (48 + f)) = some 1 := by
  rw [m_isThrow, if_pos]
  rw [l49, show (54 : Int32) = nI 54 from rfl, m_rng (by omega) (by omega) (by omega)]
  omega
theorem m_isWhole (d : Nat → Int32) {k : Nat} (hk : k < 6) : f_X9_isWhole d (nI k) = some (if d k = 111622 then 1 else 0) := by
  unfold f_X9_isWhole
  rw [m_chk hk (by omega), m_cl (by omega)]
  split <;> rfl
theorem m_whyNot {ib ho ga : Int32} {d p b pt inn : Nat → Int32} {ho' ga' mark who what v : Int32} (hT : TabR ib ho ga d p b pt inn ho' ga') (hA : ActR mark who what v) : ∃ w : Nat, w ≤ 4 ∧ f_X9_whyNot d ib ho ga mark who = some (nI w) ∧ f_X12_whyNot b inn ho' ga' what v = some (nI w) := by
  obtain ⟨h1, h2, h3, rfl, rfl, w, h, gm, hw, rfl, hh, rfl, hbi, hg, rfl⟩ := hT
  unfold f_X9_whyNot f_X12_whyNot
  rcases hA with ⟨f, f1, f6, rfl, rfl, rfl⟩ | ⟨rfl, rfl⟩ | ⟨k, hk, rfl, rfl, rfl, rfl⟩ | ⟨k, hk, rfl, rfl, rfl, rfl⟩
  · rw [m_isThrowF f1 f6, Option.bind_some, i10, i00, m_isWhole d hh, Option.bind_some, m_chk hh (by omega), m_cl (by omega), h1 h hh]
    by_cases c : b h = 111622
    · rw [if_pos c, if_pos c, i10]; exact ⟨1, by omega, rfl, rfl⟩
    · rw [if_neg c, if_neg c, i00]; exact ⟨0, by omega, rfl, rfl⟩
  · rw [show f_X9_isThrow 46 = some 0 from by rw [m_isThrow]; rfl, Option.bind_some, i00]
    exact ⟨0, by omega, rfl, rfl⟩
  · rw [show f_X9_isThrow 33 = some 0 from by rw [m_isThrow]; rfl, Option.bind_some, i00, if_neg (show ¬ (33 : Int32) = 35 by decide), if_pos (show (33:Int32)=33 from rfl), if_neg (show ¬ (2 : Int32) = 0 by decide), if_pos (show (2:Int32)=2 from rfl), m_isWhole d hk, Option.bind_some, m_chk hk (by omega), m_cl (by omega), h1 k hk]
    by_cases c : b k = 111622
    · rw [if_pos c, if_pos c, i10, m_isIn, Option.bind_some, m_chk hk (by omega), h3 k hk]
      rcases bI_01 (nI w) k with e | e
      · rw [e, i00, i00]; exact ⟨2, by omega, rfl, rfl⟩
      · rw [e, i10, i10]
        by_cases q : gm = 99
        · subst q; exact ⟨4, by omega, rfl, rfl⟩
        · rw [if_pos (by rw [l99, m_lt (by omega) (by omega)]; omega), if_neg (by rw [l99, m_eq (by omega) (by omega)]; exact q)]
          exact ⟨0, by omega, rfl, rfl⟩
    · rw [if_neg c, if_neg c, i00]; exact ⟨2, by omega, rfl, rfl⟩
  · rw [show f_X9_isThrow 35 = some 0 from by rw [m_isThrow]; rfl, Option.bind_some, i00, if_pos rfl, if_neg (show ¬ (3 : Int32) = 0 by decide), if_neg (show ¬ (3 : Int32) = 2 by decide), if_pos rfl, m_chk hk (by omega), m_cl (by omega), h3 k hk, m_inMany, Option.bind_some, h3 0 (by omega), h3 1 (by omega), h3 2 (by omega), h3 3 (by omega), h3 4 (by omega), h3 5 (by omega)]
    have q := m_go_last w hw k hk
    by_cases c : nI w = ((1 : Int32) <<< (nI k &&& 31))
    · rw [if_pos c, if_pos (q.mp c).1, if_pos (q.mp c).2]
      exact ⟨3, by omega, rfl, rfl⟩
    · rw [if_neg c]
      by_cases c2 : bI (nI w) k = 1
      · rw [if_pos c2, if_neg (fun y => c (q.mpr ⟨c2, y⟩))]
        exact ⟨0, by omega, rfl, rfl⟩
      · rw [if_neg c2]
        exact ⟨0, by omega, rfl, rfl⟩
