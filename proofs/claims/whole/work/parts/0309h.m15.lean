/-! ===== pure part 15: the text, fault ===== -/
abbrev isT (x : Int32) : Prop := 49 ≤ x ∧ x ≤ 54
abbrev isL (x : Int32) : Prop := 65 ≤ x ∧ x ≤ 70
/-- from place i on (m signs are left) the acts a, a + 1, .. are those of the signs; at the end there are N -/
def Tx (sg act much : Nat → Int32) (N : Nat) : Nat → Nat → Nat → Int32 → Prop
  | 0, _, a, _ => a = N
  | m + 1, i, a, who => ((isL (sg i) ∧ ∃ k : Nat, k < 6 ∧ sg i - 65 = nI k) ∧ Tx sg act much N m (i + 1) a (sg i - 65)) ∨ (¬ isL (sg i) ∧ ActR (sg i) who (act a) (much a) ∧ Tx sg act much N m (i + 1) (a + 1) who)
theorem m_T {x : Int32} (h : isT x) : ∃ f : Nat, 1 ≤ f ∧ f ≤ 6 ∧ x = nI (48 + f) := by
  obtain ⟨j, hj, e⟩ := m_of (x := x) (M := 54) (n := 54) rfl ⟨Int32.le_trans (show (0 : Int32) ≤ 49 by decide) h.1, h.2⟩
  have h' := h.1
  rw [e, l49, m_le (by omega) (by omega)] at h'
  exact ⟨j - 48, by omega, by omega, by rw [e]; congr 1; omega⟩
theorem m_L6 : ∀ k, k < 6 → nI (65 + k) - 65 = nI k := by decide
theorem m_L {x : Int32} (h : isL x) : ∃ k : Nat, k < 6 ∧ x = nI (65 + k) ∧ x - 65 = nI k := by
  obtain ⟨j, hj, e⟩ := m_of (x := x) (M := 70) (n := 70) rfl ⟨Int32.le_trans (show (0 : Int32) ≤ 65 by decide) h.1, h.2⟩
  have h' := h.1
  rw [e, show (65 : Int32) = nI 65 from rfl, m_le (by omega) (by omega)] at h'
  have e2 : x = nI (65 + (j - 65)) := by rw [e]; congr 1; omega
  exact ⟨j - 65, by omega, e2, by rw [e2]; exact m_L6 _ (by omega)⟩
theorem m_TL : ∀ f, f ≤ 6 → 1 ≤ f → ¬ ((65 : Int32) ≤ nI (48 + f) ∧ nI (48 + f) ≤ 70) ∧ ((49 : Int32) ≤ nI (48 + f) ∧ nI (48 + f) ≤ 54) ∧ ¬ nI (48 + f) = 46 := by decide
theorem m_LT : ∀ k, k < 6 → ((65 : Int32) ≤ nI (65 + k) ∧ nI (65 + k) ≤ 70) ∧ ¬ ((49 : Int32) ≤ nI (65 + k) ∧ nI (65 + k) ≤ 54) ∧ ¬ nI (65 + k) = 46 := by decide
theorem m_close (act much : Nat → Int32) {a : Nat} (ha : a < 60) (x y : Int32) : f_X12_close act much (nI a) x y = some (0, upd act a x, upd much a y, nI (a + 1)) := by
  unfold f_X12_close
  rw [m_chk ha (by omega), m_chk ha (by omega), m_cl (by omega), nI_1]
theorem m_beginT (act much : Nat → Int32) {a f : Nat} (ha : a < 60) (f1 : 1 ≤ f) (f6 : f ≤ 6) : f_X12_begin act much (nI a) (nI (48 + f)) = some (0, upd act a 0, upd much a (nI f), nI (a + 1)) := by
  unfold f_X12_begin
  rw [m_in32 (a := 49) (b := 54) (lo := 49) (hi := 54) rfl rfl, if_pos (m_TL f f6 f1).2.1, Option.bind_some, i10, m_close _ _ ha, (m_mark f f6 f1).2.2.2.2]
  rfl
theorem m_beginD (act much : Nat → Int32) {a : Nat} (ha : a < 60) : f_X12_begin act much (nI a) 46 = some (0, upd act a 1, upd (upd much a (46 - 65)) a 0, nI (a + 1)) := by
  unfold f_X12_begin
  rw [m_in32 (a := 49) (b := 54) (lo := 49) (hi := 54) rfl rfl, if_neg (show ¬ ((49 : Int32) ≤ 46 ∧ (46 : Int32) ≤ 54) by decide), Option.bind_some, i00, m_chk ha (by omega), if_pos (show (46 : Int32) = 46 from rfl), m_close _ _ ha, m_cl (by omega)]
  rfl
theorem m_beginL (act much : Nat → Int32) {a : Nat} (ha : a < 60) {x : Int32} (ht : ¬ isT x) (hd : ¬ x = 46) (hl : isL x) : f_X12_begin act much (nI a) x = some (1, act, upd much a (x - 65), nI a) := by
  unfold f_X12_begin
  rw [m_in32 (a := 49) (b := 54) (lo := 49) (hi := 54) rfl rfl, if_neg ht, Option.bind_some, i00, m_chk ha (by omega), if_neg hd, m_in32 (a := 65) (b := 70) (lo := 65) (hi := 70) rfl rfl, if_pos hl, Option.bind_some, i10, m_cl (by omega)]
theorem m_beginN (act much : Nat → Int32) {a : Nat} (ha : a < 60) {x : Int32} (ht : ¬ isT x) (hd : ¬ x = 46) (hl : ¬ isL x) : f_X12_begin act much (nI a) x = some (-6, act, upd much a (x - 65), nI a) := by
  unfold f_X12_begin
  rw [m_in32 (a := 49) (b := 54) (lo := 49) (hi := 54) rfl rfl, if_neg ht, Option.bind_some, i00, m_chk ha (by omega), if_neg hd, m_in32 (a := 65) (b := 70) (lo := 65) (hi := 70) rfl rfl, if_neg hl, Option.bind_some, i00, m_cl (by omega)]
theorem m_deed33 (act much : Nat → Int32) {a : Nat} (ha : a < 60) : f_X12_deed act much (nI a) 33 = some (0, upd act a 2, upd much a (much a), nI (a + 1)) := by
  unfold f_X12_deed
  rw [if_pos (show (33 : Int32) = 33 from rfl), m_chk ha (by omega), m_close _ _ ha, m_cl (by omega)]
  rfl
theorem m_deed35 (act much : Nat → Int32) {a : Nat} (ha : a < 60) : f_X12_deed act much (nI a) 35 = some (0, upd act a 3, upd much a (much a), nI (a + 1)) := by
  unfold f_X12_deed
  rw [if_neg (show ¬ (35 : Int32) = 33 by decide), if_pos (show (35 : Int32) = 35 from rfl), m_chk ha (by omega), m_close _ _ ha, m_cl (by omega)]
  rfl
theorem m_ff_loop {sg pd : Nat → Int32} {sz : Nat} (hs : sz ≤ 60) (hp : ∀ k, k < 60 → sg k = pd k) (n n' : Nat) : ∀ m i a act much st who, i + m = sz → a ≤ i → (st = 0 ∨ st = 1 ∧ ∃ k : Nat, k < 6 ∧ who = nI k ∧ much a = nI k) → ∃ r act' much' N, f_X5_firstFault_b4 sg (nI sz) (n + m + 1) st (nI i) = some r ∧ f_X12_fault_b9 pd (nI sz) (n' + m + 1) st (nI i) act much (nI a) = some (r, act', much', nI N) ∧ N ≤ sz ∧ (∀ j, j < a → act' j = act j ∧ much' j = much j) ∧ (r = -6 ∧ Tx sg act' much' N m i a who ∨ ∃ q : Nat, q ≤ 60 ∧ r = nI q) := by
  intro m
  induction m with
  | zero =>
    intro i a act much st who h ha hst
    rw [f_X5_firstFault_b4_s, f_X12_fault_b9_s, if_pos (show nI sz ≤ nI i by rw [m_le (by omega) (by omega)]; omega), if_pos (show nI sz ≤ nI i by rw [m_le (by omega) (by omega)]; omega)]
    rcases hst with rfl | ⟨rfl, _⟩
    · exact ⟨-6, act, much, a, rfl, rfl, by omega, fun j _ => ⟨rfl, rfl⟩, Or.inl ⟨rfl, rfl⟩⟩
    · rw [i10, i10]
      exact ⟨nI sz, act, much, a, rfl, rfl, by omega, fun j _ => ⟨rfl, rfl⟩, Or.inr ⟨sz, hs, rfl⟩⟩
  | succ m ih =>
    intro i a act much st who h ha hst
    have hi : i < 60 := by omega
    have ha' : a < 60 := by omega
    rw [show n + (m + 1) + 1 = n + m + 1 + 1 by omega, show n' + (m + 1) + 1 = n' + m + 1 + 1 by omega, f_X5_firstFault_b4_s, f_X12_fault_b9_s, if_neg (show ¬ nI sz ≤ nI i by rw [m_le (by omega) (by omega)]; omega), if_neg (show ¬ nI sz ≤ nI i by rw [m_le (by omega) (by omega)]; omega), m_chk hi (by omega), m_chk hi (by omega), m_chk hi (by omega), m_chk hi (by omega), m_cl (by omega), ← hp i hi]
    rcases hst with rfl | ⟨rfl, k, hk, hw, hmk⟩
    · rw [i00]
      unfold f_X5_canStand
      rw [i00]
      by_cases ht : isT (sg i)
      · obtain ⟨f, f1, f6, e⟩ := m_T ht
        obtain ⟨t1, t2, t3⟩ := m_TL f f6 f1
        rw [e, if_neg t3, m_isThrowF f1 f6, Option.bind_some, i10, Option.bind_some, i10, m_isLetter, if_neg t1, Option.bind_some, m_beginT _ _ ha' f1 f6, Option.bind_some, if_pos (by exact (show (0 : Int32) ≤ 0 by decide)), nI_1]
        obtain ⟨r, act', much', N, g1, g2, g3, g4, g5⟩ := ih (i + 1) (a + 1) (upd act a 0) (upd much a (nI f)) 0 who (by omega) (by omega) (Or.inl rfl)
        refine ⟨r, act', much', N, g1, g2, g3, ?_, ?_⟩
        · intro j hj
          obtain ⟨y1, y2⟩ := g4 j (by omega)
          exact ⟨by rw [y1, upd_ne (by omega)], by rw [y2, upd_ne (by omega)]⟩
        · rcases g5 with ⟨g, g'⟩ | g
          · obtain ⟨y1, y2⟩ := g4 a (by omega)
            rw [upd_at] at y1 y2
            exact Or.inl ⟨g, Or.inr ⟨by rw [e]; exact t1, Or.inl ⟨f, f1, f6, e, y1, y2⟩, g'⟩⟩
          · exact Or.inr g
      · by_cases hd : sg i = 46
        · rw [hd, if_pos rfl, Option.bind_some, i10, m_isLetter, if_neg (show ¬ ((65 : Int32) ≤ 46 ∧ (46 : Int32) ≤ 70) by decide), Option.bind_some, m_beginD _ _ ha', Option.bind_some, if_pos (by exact (show (0 : Int32) ≤ 0 by decide)), nI_1]
          obtain ⟨r, act', much', N, g1, g2, g3, g4, g5⟩ := ih (i + 1) (a + 1) (upd act a 1) (upd (upd much a (46 - 65)) a 0) 0 who (by omega) (by omega) (Or.inl rfl)
          refine ⟨r, act', much', N, g1, g2, g3, ?_, ?_⟩
          · intro j hj
            obtain ⟨y1, y2⟩ := g4 j (by omega)
            exact ⟨by rw [y1, upd_ne (by omega)], by rw [y2, upd_ne (by omega), upd_ne (by omega)]⟩
          · rcases g5 with ⟨g, g'⟩ | g
            · obtain ⟨y1, y2⟩ := g4 a (by omega)
              rw [upd_at] at y1
              exact Or.inl ⟨g, Or.inr ⟨by rw [hd]; exact (show ¬ ((65 : Int32) ≤ 46 ∧ (46 : Int32) ≤ 70) by decide), Or.inr (Or.inl ⟨hd, y1⟩), g'⟩⟩
            · exact Or.inr g
        · rw [if_neg hd, m_isThrow, if_neg ht, Option.bind_some, i00, m_isLetter, Option.bind_some]
          by_cases hl : isL (sg i)
          · obtain ⟨k, hk, e, e2⟩ := m_L hl
            rw [if_pos hl, i10, Option.bind_some, i10, Option.bind_some, m_beginL _ _ ha' ht hd hl, Option.bind_some, if_pos (by exact (show (0 : Int32) ≤ 1 by decide)), nI_1]
            obtain ⟨r, act', much', N, g1, g2, g3, g4, g5⟩ := ih (i + 1) a act (upd much a (sg i - 65)) 1 (sg i - 65) (by omega) (by omega) (Or.inr ⟨rfl, k, hk, e2, by rw [upd_at, e2]⟩)
            refine ⟨r, act', much', N, g1, g2, g3, ?_, ?_⟩
            · intro j hj
              obtain ⟨y1, y2⟩ := g4 j (by omega)
              exact ⟨y1, by rw [y2, upd_ne (by omega)]⟩
            · rcases g5 with ⟨g, g'⟩ | g
              · exact Or.inl ⟨g, Or.inl ⟨⟨hl, k, hk, e2⟩, g'⟩⟩
              · exact Or.inr g
          · rw [if_neg hl, i00, Option.bind_some, i00, m_beginN _ _ ha' ht hd hl, Option.bind_some, if_neg (by exact (show ¬ (0 : Int32) ≤ -6 by decide))]
            exact ⟨nI i, _, _, a, rfl, rfl, by omega, fun j hj => ⟨rfl, upd_ne (f := much) (by omega)⟩, Or.inr ⟨i, by omega, rfl⟩⟩
    · rw [i10]
      unfold f_X5_canStand
      rw [i10]
      by_cases h33 : sg i = 33
      · rw [h33, if_pos rfl, Option.bind_some, i10, m_isLetter, if_neg (show ¬ ((65 : Int32) ≤ 33 ∧ (33 : Int32) ≤ 70) by decide), Option.bind_some, m_deed33 _ _ ha', Option.bind_some, if_pos (by exact (show (0 : Int32) ≤ 0 by decide)), nI_1]
        obtain ⟨r, act', much', N, g1, g2, g3, g4, g5⟩ := ih (i + 1) (a + 1) (upd act a 2) (upd much a (much a)) 0 who (by omega) (by omega) (Or.inl rfl)
        refine ⟨r, act', much', N, g1, g2, g3, ?_, ?_⟩
        · intro j hj
          obtain ⟨y1, y2⟩ := g4 j (by omega)
          exact ⟨by rw [y1, upd_ne (by omega)], by rw [y2, upd_ne (by omega)]⟩
        · rcases g5 with ⟨g, g'⟩ | g
          · obtain ⟨y1, y2⟩ := g4 a (by omega)
            rw [upd_at] at y1 y2
            exact Or.inl ⟨g, Or.inr ⟨by rw [h33]; exact (show ¬ ((65 : Int32) ≤ 33 ∧ (33 : Int32) ≤ 70) by decide), Or.inr (Or.inr (Or.inl ⟨k, hk, h33, hw, y1, by rw [y2, hmk]⟩)), g'⟩⟩
          · exact Or.inr g
      · by_cases h35 : sg i = 35
        · rw [h35, if_neg (show ¬ (35 : Int32) = 33 by decide), if_pos rfl, Option.bind_some, i10, m_isLetter, if_neg (show ¬ ((65 : Int32) ≤ 35 ∧ (35 : Int32) ≤ 70) by decide), Option.bind_some, m_deed35 _ _ ha', Option.bind_some, if_pos (by exact (show (0 : Int32) ≤ 0 by decide)), nI_1]
          obtain ⟨r, act', much', N, g1, g2, g3, g4, g5⟩ := ih (i + 1) (a + 1) (upd act a 3) (upd much a (much a)) 0 who (by omega) (by omega) (Or.inl rfl)
          refine ⟨r, act', much', N, g1, g2, g3, ?_, ?_⟩
          · intro j hj
            obtain ⟨y1, y2⟩ := g4 j (by omega)
            exact ⟨by rw [y1, upd_ne (by omega)], by rw [y2, upd_ne (by omega)]⟩
          · rcases g5 with ⟨g, g'⟩ | g
            · obtain ⟨y1, y2⟩ := g4 a (by omega)
              rw [upd_at] at y1 y2
              exact Or.inl ⟨g, Or.inr ⟨by rw [h35]; exact (show ¬ ((65 : Int32) ≤ 35 ∧ (35 : Int32) ≤ 70) by decide), Or.inr (Or.inr (Or.inr ⟨k, hk, h35, hw, y1, by rw [y2, hmk]⟩)), g'⟩⟩
            · exact Or.inr g
        · unfold f_X12_deed
          rw [if_neg h33, if_neg h35, if_neg h33, if_neg h35, Option.bind_some, i00, Option.bind_some, if_neg (by exact (show ¬ (0 : Int32) ≤ -6 by decide))]
          exact ⟨nI i, _, _, a, rfl, rfl, by omega, fun j hj => ⟨rfl, rfl⟩, Or.inr ⟨i, by omega, rfl⟩⟩
theorem m_ff {n0 n' : Int32} {sg pd : Nat → Int32} (hP : PadR n0 sg pd n') (act much : Nat → Int32) (ac : Int32) : ∃ r act' much' N sz, n0 = nI sz ∧ sz ≤ 60 ∧ f_X5_firstFault sg n0 = some r ∧ f_X12_fault pd n' act much ac = some (r, act', much', nI N) ∧ N ≤ sz ∧ (r = -6 ∧ Tx sg act' much' N sz 0 0 0 ∨ ∃ q : Nat, q ≤ 60 ∧ r = nI q) := by
  obtain ⟨h1, rfl, sz, hs, rfl⟩ := hP
  obtain ⟨r, act', much', N, g1, g2, g3, _, g5⟩ := m_ff_loop hs h1 (1023 - sz) (1023 - sz) sz 0 0 act much 0 0 (by omega) (by omega) (Or.inl rfl)
  rw [show 1023 - sz + sz + 1 = FU by unfold FU; omega] at g1 g2
  exact ⟨r, act', much', N, sz, rfl, hs, g1, g2, g3, g5⟩
